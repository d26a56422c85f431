/-! ===== reading in the class: rows ===== -/
section RR
variable {d t f r N c : Nat} {B : Int → Int} {s : Bool × Nat} {w : bm_W} {Φ : bm_Rt → bm_W → Prop} {ins : List y_in} {l : List (Int × Int)}
theorem rd_result (h : rt t N f_T B s w) (hk : rk t w) (hr : sh_Rw r w) (hrp : rp t r) (h0 : s.1 = false → bm_gi w (t + 112) 2 = 0 → bm_gl w r 2 = 0)
    (hq : ∀ w', rt t N f_T B (f_res (t_K B) s) w' → q_fr (fun a => a = t ∨ a = t + 112 ∨ a = r) w w' → (∀ j, j ≠ 1 → bm_gi w' r j = bm_gi w r j) → pz t B (f_res (t_K B) s) (.inr (y_res (t_K B) (t_V B) s.2)) (fun x => bm_gi w' r 1 = x.1 ∧ bm_gl w' r 2 = x.2) w w' → Φ (.inl none) w') : bm_Call bm_pg (d + 4) y_X0_readResult [bm_r (some (t + 112)), bm_r (some r)] w Φ := by
  have rne : r ≠ t ∧ r ≠ t + 112 ∧ r ≠ t + 1 ∧ r ≠ t + 2 ∧ r ≠ t + 3 := by unfold rp at hrp; omega
  refine vc_X0_readResult ?_
  simp only [bm_c0_v, bm_c1_v, bm_c2_v, bm_c3_v, bm_c4_v, bm_c5_v, bm_u_some, decide_eq_true_eq, true_and, and_true, and_self, Bool.not_eq_true, Bool.not_eq_true', decide_eq_false_iff_not, if_true, if_false, ite_true, ite_false, eq_self, hk.1, hk.2.1, h.1.1.1, sp_oneOf h.1.1, h.one]
  have rts : ∀ (w1 : bm_W) (s1 : Bool × Nat) (v : Int), rt t N f_T B s1 w1 → rt t N f_T B s1 (bm_si w1 r 1 v) := fun w1 s1 v h1 => h1.same h1.1.1 (fun a j _ _ => q_gi_ne (by omega)) (fun _ => rfl)
  have rtq : ∀ (w1 : bm_W) (s1 : Bool × Nat) (v : Int), rt t N f_T B s1 w1 → rt t N f_T B s1 (bm_sq w1 r 2 v) := fun w1 s1 v h1 => h1.same h1.1.1 (fun _ _ _ _ => rfl) (fun j => q_gl_ne (by omega))
  by_cases c : f_see (t_K B) f_T s 22 27
  · rw [if_pos c]
    have e1 : f_res (t_K B) s = f_wh (t_K B) (false, s.2 + 1) := if_pos c
    have c1 : f_see (t_K B) f_T s (t_K B s.2) (t_K B s.2) := ⟨c.1, c.2.1, Int.le_refl _, Int.le_refl _⟩
    have e2 : f_op (t_K B) f_T (t_K B s.2) s = (false, s.2 + 1) := if_pos c1
    have ck := c.2.2
    rw [e1] at hq
    refine rt_passes h (by omega) (fun w2 h2 f2 q2 => ?_)
    rw [e2] at h2
    rw [if_pos c1, bm_c1_v, if_neg (by decide)]
    have hk2 := hk.tf f2
    have hr2 : sh_Rw r w2 := hr.fr f2.1
    have hk3 : rk t (bm_si w2 r 1 (t_K B s.2)) := hk2
    have q3 : cq t w2 (bm_si w2 r 1 (t_K B s.2)) := fun j => q_gi_ne (by omega)
    refine ⟨hr2.1, hk3.1, rd_whole (rts _ _ _ h2) hk3 (fun v w5 h5 f5 p5 => ?_)⟩
    have hr5 : sh_Rw r w5 := by
      have : sh_Rw r (bm_si w2 r 1 (t_K B s.2)) := hr2
      exact this.fr f5.1
    rw [bm_c1_v]
    have q5 : cq t w5 (bm_sq w5 r 2 v) := fun j => rfl
    refine ⟨hr5.1, hq _ (rtq _ _ _ h5) ?_ (fun j hj => ?_) ?_⟩
    · exact (((f2.1.mo (fun a z => by omega)).si (Or.inr (Or.inr rfl))).tr (f5.1.mo (fun a z => by omega))).sq (Or.inr (Or.inr rfl))
    · show bm_gi w5 r j = _
      rw [f5.1.gi (by omega), q_gi_nk hj, f2.1.gi (by omega)]
    · refine ((p5.pre (q2.tr q3)).sil (s2 := f_wh (t_K B) (false, s.2 + 1)) (G' := fun _ => bm_gi (bm_sq w5 r 2 v) r 1 = (y_res (t_K B) (t_V B) s.2).1 ∧ bm_gl (bm_sq w5 r 2 v) r 2 = (y_res (t_K B) (t_V B) s.2).2) (fun z => z) q5 (fun a z c0 ha hv => ?_)).cv (fun z c0 y => ?_)
      · subst hv
        have er : y_res (t_K B) (t_V B) s.2 = (t_K B s.2, if t_K B (s.2 + 1) = 29 then -t_V B (s.2 + 2) else t_V B (s.2 + 1)) := if_pos ck
        rw [er]
        refine ⟨?_, ?_⟩
        · show bm_gi w5 r 1 = t_K B s.2
          rw [f5.1.gi (by omega), q_gi_eq]
        · rw [q_gl_eq]
          unfold y_wh at ha
          split at ha
          · rename_i k29
            split at ha
            · cases ha; rw [if_pos k29]
            · cases ha
          · rename_i k29
            split at ha
            · cases ha; rw [if_neg k29]
            · cases ha
      · obtain ⟨x, hx⟩ := y_wh_any (B := B) z
        rw [hx] at y
        exact y
  · rw [if_neg c]
    have nm : ¬ tk_at w t (-1) := fun z => by
      have := (h.see (-1)).mp z
      have kr : 0 ≤ t_K B s.2 := (t_k_rng B (t_P B s.2)).1
      have := this.2.2
      omega
    simp only [sp_passes (d := d + 1) h.1.1, if_neg nm]
    simp only [bm_c0_v, bm_c1_v, bm_c2_v, bm_c3_v, bm_c4_v, bm_c5_v, bm_u_some, decide_eq_true_eq, true_and, and_true, and_self, Bool.not_eq_true, Bool.not_eq_true', decide_eq_false_iff_not, if_true, if_false, ite_true, ite_false, eq_self, hk.1, hk.2.1, h.1.1.1]
    refine rt_passes h (by decide) (fun w3 h3 f3 q3 => ?_)
    have hk3 := hk.tf f3
    have hr3 : sh_Rw r w3 := hr.fr f3.1
    by_cases c14 : f_see (t_K B) f_T s 14 14
    · rw [if_pos c14, bm_c1_v, if_neg (by decide)]
      have e1 : f_res (t_K B) s = (false, s.2 + 1) := by unfold f_res; rw [if_neg c, if_pos c14]
      have e2 : f_op (t_K B) f_T 14 s = (false, s.2 + 1) := if_pos c14
      have ck := c14.2.2
      rw [e1] at hq
      rw [e2] at h3
      refine ⟨hr3.1, hq _ (rts _ _ _ h3) ((f3.1.mo (fun a z => by omega)).si (Or.inr (Or.inr rfl))) (fun j hj => by rw [q_gi_nk hj, f3.1.gi (by omega)]) (pz.ok (q3.tr (fun j => q_gi_ne (by omega))) (fun z c0 => ?_))⟩
      have er : y_res (t_K B) (t_V B) s.2 = (14, 0) := by unfold y_res; rw [if_neg (by omega), if_pos (by omega)]
      rw [er]
      refine ⟨q_gi_eq, ?_⟩
      show bm_gl w3 r 2 = 0
      rw [f3.2.2.2]
      exact h0 c14.1 c0
    · rw [if_neg c14, bm_c1_v, if_pos (by decide)]
      have e1 : f_res (t_K B) s = f_x (t_K B) 15 s := by unfold f_res; rw [if_neg c, if_neg c14]
      have e2 : f_op (t_K B) f_T 14 s = s := if_neg c14
      rw [e1] at hq
      rw [e2] at h3
      simp only [bm_c0_v, bm_c1_v, bm_c2_v, bm_c3_v, bm_c4_v, bm_c5_v, bm_u_some, decide_eq_true_eq, true_and, and_true, and_self, Bool.not_eq_true, Bool.not_eq_true', decide_eq_false_iff_not, if_true, if_false, ite_true, ite_false, eq_self, hk3.1, hk3.2.1, h3.1.1.1]
      refine rt_expect h3 (by decide) (fun w4 h4 f4 q4 => ?_)
      have hr4 : sh_Rw r w4 := hr3.fr f4.1
      rw [bm_c1_v]
      have F4 := f3.tr f4
      refine ⟨hr4.1, hq _ (rts _ _ _ h4) ((F4.1.mo (fun a z => by omega)).si (Or.inr (Or.inr rfl))) (fun j hj => by rw [q_gi_nk hj, F4.1.gi (by omega)]) (pz.ok ((q3.tr q4).tr (fun j => q_gi_ne (by omega))) (fun z c0 => ?_))⟩
      have k15 := f_x_ok z
      have s0 : s.1 = false := by rw [k15.1]
      have er : y_res (t_K B) (t_V B) s.2 = (15, 0) := by unfold y_res; rw [if_neg (by have := k15.2.1; omega), if_neg (by have := k15.2.1; omega)]
      rw [er]
      refine ⟨q_gi_eq, ?_⟩
      show bm_gl w4 r 2 = 0
      rw [F4.2.2.2]
      exact h0 s0 c0
/-- further cells -/
def f_ct (K : Nat → Int) (n : Nat) (s : Bool × Nat) : Bool × Nat := if f_see K f_T s 18 18 then f_cls K n (false, s.2 + 1) else s
def y_ct1 (K V : Nat → Int) (ins : List y_in) (n : Nat) (l : List (Int × Int)) (c : Nat) (s : Bool × Nat) : (Int × Nat) ⊕ (List (Int × Int) × Nat) := if f_see K f_T s 18 18 then y_cls K V ins n l c (s.2 + 1) else .inr (l, c)
theorem f_cls_s {K : Nat → Int} {n : Nat} {s : Bool × Nat} : f_cls K (n + 1) s = f_ct K n (f_cel K s) := rfl
theorem y_cls_s {K V : Nat → Int} {ins : List y_in} {n c p : Nat} {l : List (Int × Int)} : y_cls K V ins (n + 1) l c p = y_b (y_cel K V ins c p) fun l' => y_ct1 K V ins n (l ++ l') (c + 1) (f_cel K (false, p)) := rfl
theorem f_cel_ok {K : Nat → Int} {s : Bool × Nat} (h : (f_cel K s).1 = false) : s.1 = false := by
  unfold f_cel at h
  split at h
  · rename_i y; exact y.1
  · split at h
    · rename_i y; exact f_wh_ok y.1
    · exact f_wh_ok h
theorem f_ct_ok {K : Nat → Int} {n : Nat} {s : Bool × Nat} (h : (f_ct K n s).1 = false) : s.1 = false := by
  unfold f_ct at h
  split at h
  · rename_i q; exact q.1
  · exact h
theorem rd_cells {x : Int} (hff : ∃ i : Int, f = pg_fn (t + 4) i) (hrp : rp t r) : ∀ (n c : Nat) (s : Bool × Nat) (w : bm_W) (l : List (Int × Int)), rt t N f_T B s w → rk t w → bm_gr w (t + 112) 4 = some f → sh_Fn f w → sh_Rw r w → (s.1 = false → bm_gi w (t + 112) 2 = 0 → yi f B ins w ∧ ycl r ins c l w) → N ≤ n + s.2 → (c ≤ s.2 ∨ s.1 = true) →
    (∀ c' w', rt t N f_T B (f_ct (t_K B) n s) w' → q_fr (wA t r) w w' → pz t B (f_ct (t_K B) n s) (y_ct1 (t_K B) (t_V B) ins n l c s) (fun lc => c' = lc.2 ∧ yi f B ins w' ∧ ycl r ins lc.2 lc.1 w') w w' → bk_X0_readRow_73 (d + 6) Φ (t + 112) x r (c' : Int) w') → bk_X0_readRow_42 (d + 6) Φ (t + 112) x r (c : Int) w := by
  have hfr : t + 7 ≤ f ∧ f ≤ t + 62 := by
    obtain ⟨i, rfl⟩ := hff
    have := pg_fn_r (t + 4) i
    omega
  have hfa : ∀ j, j < 8 → ¬ wA t r (f + j) := by
    obtain ⟨i, hi⟩ := hff
    have h3 := (pg_fn_rng (t + 4) i).2.2
    rw [← hi] at h3
    have h4 : f = t + 7 ∨ t + 22 ≤ f := by
      rcases h3 with z | ⟨j, z, -⟩ <;> omega
    clear h3
    intro j hj
    unfold wA
    unfold rp at hrp
    omega
  intro n
  induction n with
  | zero =>
    intro c s w l h hk hg hf hr hy hn hc hq
    have nosee : ¬ f_see (t_K B) f_T s 18 18 := fun z => by
      have := f_see_N h.1.2.2.2 (by decide) h.2.2.2.2.1 z
      omega
    have e1 : f_ct (t_K B) 0 s = s := if_neg nosee
    have e2 : y_ct1 (t_K B) (t_V B) ins 0 l c s = .inr (l, c) := if_neg nosee
    have e3 : f_op (t_K B) f_T 18 s = s := if_neg nosee
    rw [e1, e2] at hq
    refine vb_X0_readRow_42 ?_
    simp only [bm_c0_v, bm_c1_v, bm_c2_v, bm_c3_v, bm_c4_v, bm_c5_v, bm_u_some, decide_eq_true_eq, true_and, and_true, and_self, Bool.not_eq_true, Bool.not_eq_true', decide_eq_false_iff_not, if_true, if_false, ite_true, ite_false, eq_self, hk.1, hk.2.1, h.1.1.1]
    split
    · exact hq c w h q_fr.rf (pz.ok cq.rf (fun z c0 => ⟨rfl, hy z c0⟩))
    · refine rt_passes (d := d + 4) h (by decide) (fun w1 g1 f1 c1 => ?_)
      rw [e3] at g1
      rw [if_neg nosee, bm_c1_v, if_pos rfl]
      refine hq c w1 g1 (f1.1.mo (fun a z => by unfold wA; omega)) (pz.ok c1 (fun z c0 => ⟨rfl, (hy z c0).1.tf f1 (by omega) (by omega), ?_⟩))
      have y2 := (hy z c0).2
      unfold rp at hrp
      refine ⟨fun i hi => ?_, fun i a b => ?_, y2.2.2⟩
      · rw [f1.1.gi (by omega), f1.1.gi (by omega)]; exact y2.1 i hi
      · rw [f1.1.gi (by omega), f1.1.gi (by omega)]; exact y2.2.1 i a b
  | succ n ih =>
    intro c s w l h hk hg hf hr hy hn hc hq
    have keep : ∀ w1, tf t w w1 → s.1 = false → bm_gi w (t + 112) 2 = 0 → yi f B ins w1 ∧ ycl r ins c l w1 := fun w1 f1 z c0 => by
      have y2 := (hy z c0).2
      unfold rp at hrp
      refine ⟨(hy z c0).1.tf f1 (by omega) (by omega), fun i hi => ?_, fun i a b => ?_, y2.2.2⟩
      · rw [f1.1.gi (by omega), f1.1.gi (by omega)]; exact y2.1 i hi
      · rw [f1.1.gi (by omega), f1.1.gi (by omega)]; exact y2.2.1 i a b
    by_cases see : f_see (t_K B) f_T s 18 18
    · have lN := f_see_N h.1.2.2.2 (by decide) h.2.2.2.2.1 see
      have N5 := h.1.2.2.1
      have s0 := see.1
      have cc : c ≤ s.2 := hc.resolve_right (by rw [s0]; decide)
      have e1 : f_ct (t_K B) (n + 1) s = f_ct (t_K B) n (f_cel (t_K B) (false, s.2 + 1)) := by
        unfold f_ct
        rw [if_pos see]
        rfl
      have e2 : y_ct1 (t_K B) (t_V B) ins (n + 1) l c s = y_b (y_cel (t_K B) (t_V B) ins c (s.2 + 1)) fun l' => y_ct1 (t_K B) (t_V B) ins n (l ++ l') (c + 1) (f_cel (t_K B) (false, s.2 + 1)) := by
        unfold y_ct1
        rw [if_pos see]
        rfl
      have e3 : f_op (t_K B) f_T 18 s = (false, s.2 + 1) := if_pos see
      rw [e1, e2] at hq
      refine vb_X0_readRow_42 ?_
      simp only [bm_c0_v, bm_c1_v, bm_c2_v, bm_c3_v, bm_c4_v, bm_c5_v, bm_u_some, decide_eq_true_eq, true_and, and_true, and_self, Bool.not_eq_true, Bool.not_eq_true', decide_eq_false_iff_not, if_true, if_false, ite_true, ite_false, eq_self, hk.1, hk.2.1, h.1.1.1]
      rw [if_neg (by omega)]
      refine rt_passes (d := d + 4) h (by decide) (fun w1 g1 f1 c1 => ?_)
      rw [e3] at g1
      rw [if_pos see, bm_c1_v, if_neg (by decide)]
      have hk1 := hk.tf f1
      refine ⟨hk1.1, rd_cell (d := d + 1) (ins := ins) (l := l) g1 hk1 (by rw [f1.1.gr]; exact hg) (hf.fr f1.1) hff (hr.fr f1.1) hrp (fun _ c0 => keep w1 f1 s0 ((c1 2).symm.trans c0)) (fun w2 g2 n2 p2 => ?_)⟩
      rw [bm_c0_v]
      have rng := f_far_cel h.1.2.2.2 (false, s.2 + 1) lN
      rw [q_wI (x := (c : Int) + 1) ⟨by omega, by omega⟩, show (c : Int) + 1 = ((c + 1 : Nat) : Int) by omega]
      have F1 : q_fr (wA t r) w w1 := f1.1.mo (fun a z => by unfold wA; omega)
      have F2 := F1.tr n2
      have p2' := p2.pre c1
      have hk2 : rk t w2 := ⟨by rw [n2.kt]; exact hk1.1, by rw [n2.gr]; exact hk1.2.1, by rw [n2.gr]; exact hk1.2.2⟩
      have yi2 : s.1 = false → bm_gi w (t + 112) 2 = 0 → yi f B ins w2 := fun z c0 => by
        have y1 := (keep w1 f1 z c0).1
        refine y1.bk (fun b x y j => ?_)
        have := hfa (b - f) (by omega)
        rw [show f + (b - f) = b by omega] at this
        exact ⟨n2.gi this, n2.gl this⟩
      have g42 : bm_gr w2 (t + 112) 4 = some f := by rw [n2.gr, f1.1.gr]; exact hg
      have f42 : sh_Fn f w2 := (hf.fr f1.1).fr n2
      have r42 : sh_Rw r w2 := (hr.fr f1.1).fr n2
      have le2 : (c + 1 ≤ (f_cel (t_K B) (false, s.2 + 1)).2 ∨ (f_cel (t_K B) (false, s.2 + 1)).1 = true) := Or.inl (by have := rng.1; simp only at this; omega)
      have nn : N ≤ n + (f_cel (t_K B) (false, s.2 + 1)).2 := by have := rng.1; simp only at this; omega
      cases hR : y_cel (t_K B) (t_V B) ins c (s.2 + 1) with
      | inl e =>
        rw [hR] at p2' hq
        refine ih (c + 1) _ w2 [] g2 hk2 g42 f42 r42 (fun z c0 => ?_) nn le2 (fun c' w3 g3 n3 p3 => hq c' w3 g3 (F2.tr n3) (p2'.stay f_ct_ok (fun z => (p3 z).1)))
        obtain ⟨-, a, a1, -⟩ := p2'.z0 z c0
        cases a1
      | inr l' =>
        rw [hR] at p2' hq
        refine ih (c + 1) _ w2 (l ++ l') g2 hk2 g42 f42 r42 (fun z c0 => ?_) nn le2 (fun c' w3 g3 n3 p3 => hq c' w3 g3 (F2.tr n3) ?_)
        · obtain ⟨cz, a, a1, a2⟩ := p2'.z0 z c0
          cases a1
          exact ⟨yi2 s0 cz, a2⟩
        · exact p2'.bind (k := fun l' => y_ct1 (t_K B) (t_V B) ins n (l ++ l') (c + 1) (f_cel (t_K B) (false, s.2 + 1))) f_ct_ok (fun z => ⟨(p3 z).1, fun a ha c0 _ => by
            cases ha
            exact (p3 z).2 c0⟩)
    · have e1 : f_ct (t_K B) (n + 1) s = s := if_neg see
      have e2 : y_ct1 (t_K B) (t_V B) ins (n + 1) l c s = .inr (l, c) := if_neg see
      have e3 : f_op (t_K B) f_T 18 s = s := if_neg see
      rw [e1, e2] at hq
      refine vb_X0_readRow_42 ?_
      simp only [bm_c0_v, bm_c1_v, bm_c2_v, bm_c3_v, bm_c4_v, bm_c5_v, bm_u_some, decide_eq_true_eq, true_and, and_true, and_self, Bool.not_eq_true, Bool.not_eq_true', decide_eq_false_iff_not, if_true, if_false, ite_true, ite_false, eq_self, hk.1, hk.2.1, h.1.1.1]
      split
      · exact hq c w h q_fr.rf (pz.ok cq.rf (fun z c0 => ⟨rfl, hy z c0⟩))
      · refine rt_passes (d := d + 4) h (by decide) (fun w1 g1 f1 c1 => ?_)
        rw [e3] at g1
        rw [if_neg see, bm_c1_v, if_pos rfl]
        exact hq c w1 g1 (f1.1.mo (fun a z => by unfold wA; omega)) (pz.ok c1 (fun z c0 => ⟨rfl, keep w1 f1 z c0⟩))
end RR

/-! ===== reading in the class: tables ===== -/
def f_rt (K : Nat → Int) (n : Nat) (s : Bool × Nat) : Bool × Nat := if f_see K f_T s 21 21 then f_rws K n (false, s.2 + 1) else s
def y_rt (K V : Nat → Int) (ins : List y_in) (n : Nat) (rows : List y_rw) (s : Bool × Nat) : (Int × Nat) ⊕ List y_rw := if f_see K f_T s 21 21 then y_rws K V ins n rows (s.2 + 1) else .inr rows
theorem f_rws_s {K : Nat → Int} {n : Nat} {s : Bool × Nat} : f_rws K (n + 1) s = f_rt K n (f_row K s) := rfl
theorem y_rws_s {K V : Nat → Int} {ins : List y_in} {n p : Nat} {rows : List y_rw} : y_rws K V ins (n + 1) rows p = y_b (y_row K V ins rows p) fun rows' => y_rt K V ins n rows' (f_row K (false, p)) := rfl
theorem f_rt_ok {K : Nat → Int} {n : Nat} {s : Bool × Nat} (h : (f_rt K n s).1 = false) : s.1 = false := by
  unfold f_rt at h
  split at h
  · rename_i q; exact q.1
  · exact h
section RT
variable {d t f T N : Nat} {B : Int → Int} {s : Bool × Nat} {w : bm_W} {Φ : bm_Rt → bm_W → Prop} {pr : y_pr} {nm g : Nat} {rows : List y_rw}
/-- only tokens change -/
theorem yh_tf {q q' : Nat} {w' : bm_W} (l1 : yh t B pr nm g rows q w) (c5 : rw_ok t w) (f0 : tf t w w') (hI : y_I (t_K B) q' = y_I (t_K B) q) : yh t B pr nm g rows q' w' := by
  obtain ⟨⟨a1, a2, a3⟩, a4, a5, a6, a7, a8, a9⟩ := l1
  have e := pg_tb_in (t + 4) pr.2.length a4
  refine ⟨(show yl t B pr q w from ⟨a1, a2, a3⟩).tf c5 f0 hI, a4, a5, by rw [f0.2.2.2]; exact a6, by rw [f0.1.gi (by omega)]; exact a7, a8.bk (fun j => f0.1.gi (by omega)) (fun j => by rw [f0.1.gr]) (fun i r' hi hr' => ?_), a9⟩
  have := c5.2.1 _ i r' ⟨⟨_, rfl⟩, by have := a8.2.1; omega, hr'⟩
  exact fun b x y j => ⟨f0.1.gi (by omega), by rw [f0.2.2.2]⟩
/-- what further rows come to -/
def rwl (t f T N : Nat) (B : Int → Int) (pr : y_pr) (nm g : Nat) (d : Nat) (Φ : bm_Rt → bm_W → Prop) (n : Nat) (s : Bool × Nat) (rows : List y_rw) (w : bm_W) : Prop := ∀ w', ci t N B (f_rt (t_K B) n s) w' → kf t w w' → bm_gr w' (t + 112) 5 = some T → bm_gi w' (t + 4) 5 = bm_gi w (t + 4) 5 → pz t B (f_rt (t_K B) n s) (y_rt (t_K B) (t_V B) (pr.1.getD g y_f0).2.1 n rows s) (fun rows' => yh t B pr nm g rows' (f_rt (t_K B) n s).2 w') w w' →
  ∀ w6, rt t N f_T B (f_x (t_K B) 19 (f_rt (t_K B) n s)) w6 → tf t w' w6 → cq t w' w6 → (bm_kt w6 (t + 112) = 0 ∧ bm_gr w6 (t + 112) 1 = some (bm_u (bm_gr w6 (t + 112) 1))) ∧ (bm_kt w6 (bm_u (bm_gr w6 (t + 112) 1)) = 3) ∧ bm_Call bm_pg (d + 8) y_X3_keepTable [bm_r (some (bm_u (bm_gr w6 (t + 112) 1)))] w6 (fun r2 w2 => bm_c0 (Φ (.inl none) w2) (fun E => Φ (.inr E) w2) r2)
theorem rd_rows (hff : ∃ i : Int, f = pg_fn (t + 4) i) : ∀ (n : Nat) (v : Int) (s : Bool × Nat) (w : bm_W) (rows : List y_rw), ci t N B s w → bm_gr w (t + 112) 5 = some T → T = pg_tb (t + 4) (bm_gi w (t + 4) 5) → bm_gr w (t + 112) 4 = some f → (s.1 = false → bm_gi w (t + 112) 2 = 0 → yh t B pr nm g rows s.2 w ∧ f = pg_fn (t + 4) (g : Int)) → N ≤ n + s.2 → 1 ≤ v → (v ≤ s.2 ∨ s.1 = true) → rwl t f T N B pr nm g d Φ n s rows w → bk_X0_readTable_154 (d + 8) Φ (t + 112) v w := by
  intro n
  -- no further row
  have stop : ∀ (n : Nat) (v : Int) (s : Bool × Nat) (w : bm_W) (rows : List y_rw), ¬ f_see (t_K B) f_T s 21 21 → ci t N B s w → bm_gr w (t + 112) 5 = some T → (s.1 = false → bm_gi w (t + 112) 2 = 0 → yh t B pr nm g rows s.2 w ∧ f = pg_fn (t + 4) (g : Int)) → rwl t f T N B pr nm g d Φ n s rows w → bk_X0_readTable_154 (d + 8) Φ (t + 112) v w := by
    intro n v s w rows see hc hgT hy hq
    have hk := hc.2.1
    have h := hc.1
    have e1 : f_rt (t_K B) n s = s := if_neg see
    have e2 : y_rt (t_K B) (t_V B) (pr.1.getD g y_f0).2.1 n rows s = .inr rows := if_neg see
    have e3 : f_op (t_K B) f_T 21 s = s := if_neg see
    unfold rwl at hq
    rw [e1, e2] at hq
    refine vb_X0_readTable_154 ?_
    simp only [bm_c0_v, bm_c1_v, bm_c2_v, bm_c3_v, bm_c4_v, bm_c5_v, bm_u_some, decide_eq_true_eq, true_and, and_true, and_self, Bool.not_eq_true, Bool.not_eq_true', decide_eq_false_iff_not, if_true, if_false, ite_true, ite_false, eq_self, hk.1, hk.2.1, h.1.1.1]
    split
    · refine rt_expect (d := d + 6) h (by decide) (fun w6 h6 f6 q6 => ?_)
      rw [bm_c1_v]
      exact hq w hc kf.rf hgT rfl (pz.ok cq.rf (fun z c0 => (hy z c0).1)) w6 h6 f6 q6
    · refine rt_passes (d := d + 6) h (by decide) (fun w1 g1 f1 c1 => ?_)
      rw [e3] at g1
      rw [if_neg see, bm_c1_v, if_pos rfl]
      have hk1 := hk.tf f1
      simp only [bm_c0_v, bm_c1_v, bm_c2_v, bm_c3_v, bm_c4_v, bm_c5_v, bm_u_some, decide_eq_true_eq, true_and, and_true, and_self, Bool.not_eq_true, Bool.not_eq_true', decide_eq_false_iff_not, if_true, if_false, ite_true, ite_false, eq_self, hk1.1, hk1.2.1, g1.1.1.1]
      refine rt_expect (d := d + 6) g1 (by decide) (fun w6 h6 f6 q6 => ?_)
      rw [bm_c1_v]
      refine hq w1 (hc.tf f1 g1) (kf.tf f1) (by rw [f1.1.gr]; exact hgT) (f1.1.gi (by omega)) (pz.ok c1 (fun z c0 => yh_tf (hy z c0).1 hc.2.2.2.2.1 f1 rfl)) w6 h6 f6 q6
  induction n with
  | zero =>
    intro v s w rows hc hgT hT hg hy hn hv hv2 hq
    refine stop 0 v s w rows (fun z => ?_) hc hgT hy hq
    have := f_see_N hc.1.1.2.2.2 (by decide) hc.1.2.2.2.2.1 z
    omega
  | succ n ih =>
    intro v s w rows hc hgT hT hg hy hn hv hv2 hq
    by_cases see : f_see (t_K B) f_T s 21 21
    · have h := hc.1
      have hk := hc.2.1
      have lN := f_see_N h.1.2.2.2 (by decide) h.2.2.2.2.1 see
      have N5 := h.1.2.2.1
      have s0 := see.1
      have vv : v ≤ s.2 := hv2.resolve_right (by rw [s0]; decide)
      have e1 : f_rt (t_K B) (n + 1) s = f_rt (t_K B) n (f_row (t_K B) (false, s.2 + 1)) := by
        unfold f_rt
        rw [if_pos see]
        rfl
      have e2 : y_rt (t_K B) (t_V B) (pr.1.getD g y_f0).2.1 (n + 1) rows s = y_b (y_row (t_K B) (t_V B) (pr.1.getD g y_f0).2.1 rows (s.2 + 1)) fun rows' => y_rt (t_K B) (t_V B) (pr.1.getD g y_f0).2.1 n rows' (f_row (t_K B) (false, s.2 + 1)) := by
        unfold y_rt
        rw [if_pos see]
        rfl
      have e3 : f_op (t_K B) f_T 21 s = (false, s.2 + 1) := if_pos see
      unfold rwl at hq
      rw [e1, e2] at hq
      refine vb_X0_readTable_154 ?_
      simp only [bm_c0_v, bm_c1_v, bm_c2_v, bm_c3_v, bm_c4_v, bm_c5_v, bm_u_some, decide_eq_true_eq, true_and, and_true, and_self, Bool.not_eq_true, Bool.not_eq_true', decide_eq_false_iff_not, if_true, if_false, ite_true, ite_false, eq_self, hk.1, hk.2.1, h.1.1.1]
      rw [if_neg (by omega)]
      refine rt_passes (d := d + 6) h (by decide) (fun w1 g1 f1 c1 => ?_)
      rw [e3] at g1
      rw [if_pos see, bm_c1_v, if_neg (by decide)]
      have hk1 := hk.tf f1
      have C1 := hc.tf f1 g1
      have g51 : bm_gi w1 (t + 4) 5 = bm_gi w (t + 4) 5 := f1.1.gi (by omega)
      have hI : y_I (t_K B) (s.2 + 1) = y_I (t_K B) s.2 := y_I_no (by have := see.2.2; omega)
      refine ⟨hk1.1, rd_row (d := d + 1) (pr := pr) (nm := nm) (g := g) (rows := rows) C1 (by rw [f1.1.gr]; exact hgT) (by rw [g51]; exact hT) (by rw [f1.1.gr]; exact hg) hff (fun _ c0 => ?_) (fun w2 C2 k2 gT2 g42 x2 p2 => ?_)⟩
      · have y0 := hy s0 ((c1 2).symm.trans c0)
        exact ⟨yh_tf y0.1 hc.2.2.2.2.1 f1 hI, y0.2⟩
      rw [bm_c0_v]
      have rng := f_far_row h.1.2.2.2 (false, s.2 + 1) lN
      rw [q_wI (x := v + 1) ⟨by omega, by omega⟩]
      have K2 := (kf.tf f1).tr k2
      have p2' := p2.pre c1
      have le2 : (v + 1 ≤ (f_row (t_K B) (false, s.2 + 1)).2 ∨ (f_row (t_K B) (false, s.2 + 1)).1 = true) := Or.inl (by have := rng.1; simp only at this; omega)
      have nn : N ≤ n + (f_row (t_K B) (false, s.2 + 1)).2 := by have := rng.1; simp only at this; omega
      have x2' : bm_gi w2 (t + 4) 5 = bm_gi w (t + 4) 5 := x2.trans g51
      cases hR : y_row (t_K B) (t_V B) (pr.1.getD g y_f0).2.1 rows (s.2 + 1) with
      | inl e =>
        rw [hR] at p2' hq
        refine ih (v + 1) _ w2 [] C2 gT2 (by rw [x2']; exact hT) g42 (fun z c0 => ?_) nn (by omega) le2 (fun w3 g3 n3 gT3 y3 p3 => hq w3 g3 (K2.tr n3) gT3 (y3.trans x2') (p2'.stay f_rt_ok (fun z => (p3 z).1)))
        obtain ⟨-, a, a1, -⟩ := p2'.z0 z c0
        cases a1
      | inr rows' =>
        rw [hR] at p2' hq
        refine ih (v + 1) _ w2 rows' C2 gT2 (by rw [x2']; exact hT) g42 (fun z c0 => ?_) nn (by omega) le2 (fun w3 g3 n3 gT3 y3 p3 => hq w3 g3 (K2.tr n3) gT3 (y3.trans x2') ?_)
        · obtain ⟨cz, a, a1, a2⟩ := p2'.z0 z c0
          cases a1
          exact ⟨a2, (hy s0 cz).2⟩
        · exact p2'.bind (k := fun rows' => y_rt (t_K B) (t_V B) (pr.1.getD g y_f0).2.1 n rows' (f_row (t_K B) (false, s.2 + 1))) f_rt_ok (fun z => ⟨(p3 z).1, fun a ha c0 _ => by
            cases ha
            exact (p3 z).2 c0⟩)
    · exact stop (n + 1) v s w rows see hc hgT hy hq
/-- a table is kept -/
theorem yl_keepT {q q' : Nat} {w' : bm_W} (h : yh t B pr nm g rows q w) (ho : rw_ok t w) (hf : tf t w w') (hI : y_I (t_K B) q' = y_I (t_K B) q) : yl t B (pr.1, pr.2 ++ [(nm, g, rows)]) q' (bm_si w' (t + 4) 5 ((pr.2.length : Int) + 1)) := by
  have h' := yh_tf h ho hf hI
  obtain ⟨⟨a1, a2, a3⟩, a4, a5, a6, a7, a8, a9⟩ := h'
  have e := pg_tb_in (t + 4) pr.2.length a4
  have o' : rw_ok t w' := ho.fr hf.1
  refine ⟨a1.bk (q_gi_nk (by decide)) (fun x hx a u v j => ?_), ⟨?_, ?_, fun k hk => ?_⟩, (q_gi_nk (by decide)).trans a3⟩
  · have := pg_fn_r (t + 4) (x : Int)
    exact ⟨q_gi_ne (by omega), rfl⟩
  · rw [q_gi_eq, List.length_append]
    simp
  · rw [List.length_append]
    simp
    omega
  · rw [List.length_append] at hk
    simp only [List.length_cons, List.length_nil] at hk
    have r1 := pg_tb_r (t + 4) (k : Int)
    have bk : ∀ {k : Nat} {Tb : y_tb}, ytb t B k Tb w' → ytb t B k Tb (bm_si w' (t + 4) 5 ((pr.2.length : Int) + 1)) := fun {k Tb} hb => by
      have r2 := pg_tb_r (t + 4) (k : Int)
      refine hb.bk (fun _ => rfl) (fun j => q_gi_ne (by omega)) (fun _ => rfl) (fun i r hi hr => ?_)
      have := o'.2.1 _ i r ⟨⟨_, rfl⟩, hi, hr⟩
      exact fun b x y j => ⟨q_gi_ne (by omega), rfl⟩
    by_cases z : k = pr.2.length
    · rw [q_gde z, z]
      exact bk ⟨a6, a7, a8⟩
    · rw [q_gdl (by omega)]
      exact bk (a2.2.2 k (by omega))
end RT

/-! ===== reading in the class: cells, results ===== -/
/-- where a row may lie -/
def rp (t r : Nat) : Prop := (t + 17 ≤ r ∧ r + 3 ≤ t + 20) ∨ (t + 72 ≤ r ∧ r + 3 ≤ t + 111) ∨ t + 125 ≤ r
def wA (t r a : Nat) : Prop := a = t ∨ a = t + 112 ∨ a = r + 2 ∨ a = r + 3
/-- cells read so far -/
def ycl (r : Nat) (ins : List y_in) (c : Nat) (l : List (Int × Int)) (w : bm_W) : Prop := (∀ i, i < l.length → bm_gi w (r + 2) i = (l.getD i (0, 0)).1 ∧ bm_gi w (r + 3) i = (l.getD i (0, 0)).2) ∧ (∀ i, c ≤ i → i < 3 → bm_gi w (r + 2) i = 0 ∧ bm_gi w (r + 3) i = 0) ∧ l.length = min c ins.length ∧ ∀ i, i < l.length → (ins.getD i y_i0).2.1 ≤ (l.getD i (0, 0)).1 ∧ (l.getD i (0, 0)).1 ≤ (l.getD i (0, 0)).2 ∧ (l.getD i (0, 0)).2 ≤ (ins.getD i y_i0).2.2
def y_cel1 (K V : Nat → Int) (ch lo hi : Int) (p : Nat) : (Int × Nat) ⊕ (Int × Int) :=
  if K p = 30 then .inr (lo, hi) else y_b (y_wh K V p lo hi) fun one => if f_see K f_T (f_wh K (false, p)) 33 33 then y_b (y_wh K V ((f_wh K (false, p)).2 + 1) (if ch = 0 then lo else one) hi) fun other => .inr (one, other) else .inr (one, one)
section RC
variable {d t f r N c : Nat} {B : Int → Int} {s : Bool × Nat} {w : bm_W} {Φ : bm_Rt → bm_W → Prop} {ins : List y_in} {l : List (Int × Int)}
theorem rt.rgp {w' : bm_W} {i lo hi : Int} {L : Nat} (h : rt t N L B s w') (hr : rp t r) : rt t N L B s (rg_put w' (r + 1) i lo hi) := by
  have F : q_fr (fun a => a = r + 2 ∨ a = r + 3) w' (rg_put w' (r + 1) i lo hi) := rg_put_fr q_fr.rf (Or.inl rfl) (Or.inr rfl)
  unfold rp at hr
  exact h.same (h.1.1.fr F) (fun a j _ _ => F.gi (by omega)) (fun j => F.gl (by omega))
theorem rd_cell61 {ch lo hi : Int} (h : rt t N f_T B s w) (hk : rk t w) (hr : sh_Rw r w) (hrp : rp t r)
    (hq : ∀ w', rt t N f_T B (f_cel (t_K B) s) w' → (∃ w4 a b, tf t w w4 ∧ w' = rg_put w4 (r + 1) (c : Int) a b) → pz t B (f_cel (t_K B) s) (y_cel1 (t_K B) (t_V B) ch lo hi s.2) (fun ab => ∃ w4, tf t w w4 ∧ w' = rg_put w4 (r + 1) (c : Int) ab.1 ab.2) w w' → Φ (.inl none) w') : bk_X0_readCell_61 (d + 4) Φ (t + 112) r (c : Int) ch lo hi w := by
  have cqp : ∀ (w4 : bm_W) a b, cq t w4 (rg_put w4 (r + 1) (c : Int) a b) := fun w4 a b j => by
    have F : q_fr (fun a => a = r + 2 ∨ a = r + 3) w4 (rg_put w4 (r + 1) (c : Int) a b) := rg_put_fr q_fr.rf (Or.inl rfl) (Or.inr rfl)
    unfold rp at hrp
    exact F.gi (by omega)
  refine vb_X0_readCell_61 ?_
  simp only [bm_c0_v, bm_c1_v, bm_c2_v, bm_c3_v, bm_c4_v, bm_c5_v, bm_u_some, decide_eq_true_eq, true_and, and_true, and_self, Bool.not_eq_true, Bool.not_eq_true', decide_eq_false_iff_not, if_true, if_false, ite_true, ite_false, eq_self, hk.1, hk.2.1, h.1.1.1]
  refine rt_passes h (by decide) (fun w1 h1 f1 c1 => ?_)
  have hk1 := hk.tf f1
  have hr1 : sh_Rw r w1 := hr.fr f1.1
  by_cases c30 : f_see (t_K B) f_T s 30 30
  · rw [if_pos c30, bm_c1_v, if_neg (by decide)]
    have e1 : f_cel (t_K B) s = (false, s.2 + 1) := if_pos c30
    have e2 : f_op (t_K B) f_T 30 s = (false, s.2 + 1) := if_pos c30
    have e3 : y_cel1 (t_K B) (t_V B) ch lo hi s.2 = .inr (lo, hi) := if_pos (by have := c30.2.2; omega)
    rw [e1, e3] at hq
    rw [e2] at h1
    simp only [bm_c0_v, bm_c1_v, bm_c2_v, bm_c3_v, bm_c4_v, bm_c5_v, bm_u_some, decide_eq_true_eq, true_and, and_true, and_self, Bool.not_eq_true, Bool.not_eq_true', decide_eq_false_iff_not, if_true, if_false, ite_true, ite_false, eq_self, hr1.1, hr1.2.1, hr1.2.2.1, sp_put hr1.2.2]
    exact hq _ (h1.rgp hrp) ⟨w1, lo, hi, f1, rfl⟩ (pz.ok (c1.tr (cqp _ _ _)) (fun _ _ => ⟨w1, f1, rfl⟩))
  · rw [if_neg c30, bm_c1_v, if_pos (by decide)]
    have e2 : f_op (t_K B) f_T 30 s = s := if_neg c30
    rw [e2] at h1
    refine ⟨hk1.1, rd_whole h1 hk1 (fun one w2 h2 f2 p2 => ?_)⟩
    have hk2 := hk1.tf f2
    have F2 := f1.tr f2
    simp only [bm_c0_v, bm_c1_v, bm_c2_v, bm_c3_v, bm_c4_v, bm_c5_v, bm_u_some, decide_eq_true_eq, true_and, and_true, and_self, Bool.not_eq_true, Bool.not_eq_true', decide_eq_false_iff_not, if_true, if_false, ite_true, ite_false, eq_self, hk2.1, hk2.2.1, h2.1.1.1]
    refine rt_passes h2 (by decide) (fun w3 h3 f3 c3 => ?_)
    have hk3 := hk2.tf f3
    have F3 := F2.tr f3
    have hr3 : sh_Rw r w3 := hr.fr F3.1
    have p2' := p2.pre c1
    -- the token isn't a star
    have ns : s.1 = false → ¬ t_K B s.2 = 30 := fun z y => c30 ⟨z, h.lt, by omega, by omega⟩
    by_cases c33 : f_see (t_K B) f_T (f_wh (t_K B) s) 33 33
    · have e1 : f_cel (t_K B) s = f_wh (t_K B) (false, (f_wh (t_K B) s).2 + 1) := by unfold f_cel; rw [if_neg c30, if_pos c33]
      have e3 : f_op (t_K B) f_T 33 (f_wh (t_K B) s) = (false, (f_wh (t_K B) s).2 + 1) := if_pos c33
      rw [e3] at h3
      rw [e1] at hq
      rw [if_pos c33, bm_c1_v, if_neg (by decide)]
      have s0 := f_wh_ok c33.1
      have e5 : y_cel1 (t_K B) (t_V B) ch lo hi s.2 = y_b (y_wh (t_K B) (t_V B) s.2 lo hi) fun one => y_b (y_wh (t_K B) (t_V B) ((f_wh (t_K B) s).2 + 1) (if ch = 0 then lo else one) hi) fun other => .inr (one, other) := by
        unfold y_cel1
        rw [if_neg (ns s0), ← f_eta s0]
        simp only [if_pos c33]
      have fin : ∀ other w4, rt t N f_T B (f_wh (t_K B) (false, (f_wh (t_K B) s).2 + 1)) w4 → tf t w3 w4 → pz t B (f_wh (t_K B) (false, (f_wh (t_K B) s).2 + 1)) (y_wh (t_K B) (t_V B) ((f_wh (t_K B) s).2 + 1) (if ch = 0 then lo else one) hi) (fun x => other = x) w3 w4 → Φ (.inl none) (rg_put w4 (r + 1) (c : Int) one other) := by
        intro other w4 h4 f4 p4
        have F4 := F3.tr f4
        refine hq _ (h4.rgp hrp) ⟨w4, one, other, F4, rfl⟩ ?_
        rw [e5]
        refine p2'.bind (fun _ => c33.1) (fun z => ?_)
        have p5 := p4 z
        refine ⟨(c3.st.tr p5.1).tr (cqp _ _ _).st, fun a ha c0 hone => ?_⟩
        subst hone
        have p6 := p5.2 ((c3 2).trans c0)
        have cc := cqp w4 one other
        cases hr : y_wh (t_K B) (t_V B) ((f_wh (t_K B) s).2 + 1) (if ch = 0 then lo else one) hi with
        | inl e => rw [hr] at p6; exact ⟨p6.1, (cc 2).trans p6.2.1, (cc 3).trans p6.2.2⟩
        | inr b =>
          rw [hr] at p6
          obtain ⟨p7, p8⟩ := p6
          subst p8
          exact ⟨(cc 2).trans p7, w4, F4, rfl⟩
      by_cases ch0 : ch = 0
      · rw [if_pos ch0] at fin
        simp only [bm_c0_v, bm_c1_v, bm_c2_v, bm_c3_v, bm_c4_v, bm_c5_v, bm_u_some, decide_eq_true_eq, true_and, and_true, and_self, Bool.not_eq_true, Bool.not_eq_true', decide_eq_false_iff_not, if_true, if_false, ite_true, ite_false, eq_self, ch0, hk3.1]
        refine rd_whole h3 hk3 (fun other w4 h4 f4 p4 => ?_)
        have hr4 : sh_Rw r w4 := hr3.fr f4.1
        simp only [bm_c0_v, bm_c1_v, bm_c2_v, bm_c3_v, bm_c4_v, bm_c5_v, bm_u_some, decide_eq_true_eq, true_and, and_true, and_self, Bool.not_eq_true, Bool.not_eq_true', decide_eq_false_iff_not, if_true, if_false, ite_true, ite_false, eq_self, hr4.1, hr4.2.1, hr4.2.2.1, sp_put hr4.2.2]
        exact fin other w4 h4 f4 p4
      · rw [if_neg ch0] at fin
        simp only [bm_c0_v, bm_c1_v, bm_c2_v, bm_c3_v, bm_c4_v, bm_c5_v, bm_u_some, decide_eq_true_eq, true_and, and_true, and_self, Bool.not_eq_true, Bool.not_eq_true', decide_eq_false_iff_not, if_true, if_false, ite_true, ite_false, eq_self, ch0, hk3.1]
        refine rd_whole h3 hk3 (fun other w4 h4 f4 p4 => ?_)
        have hr4 : sh_Rw r w4 := hr3.fr f4.1
        simp only [bm_c0_v, bm_c1_v, bm_c2_v, bm_c3_v, bm_c4_v, bm_c5_v, bm_u_some, decide_eq_true_eq, true_and, and_true, and_self, Bool.not_eq_true, Bool.not_eq_true', decide_eq_false_iff_not, if_true, if_false, ite_true, ite_false, eq_self, hr4.1, hr4.2.1, hr4.2.2.1, sp_put hr4.2.2]
        exact fin other w4 h4 f4 p4
    · have e1 : f_cel (t_K B) s = f_wh (t_K B) s := by unfold f_cel; rw [if_neg c30, if_neg c33]
      have e3 : f_op (t_K B) f_T 33 (f_wh (t_K B) s) = f_wh (t_K B) s := if_neg c33
      rw [e3] at h3
      rw [e1] at hq
      rw [if_neg c33, bm_c1_v, if_pos (by decide)]
      simp only [bm_c0_v, bm_c1_v, bm_c2_v, bm_c3_v, bm_c4_v, bm_c5_v, bm_u_some, decide_eq_true_eq, true_and, and_true, and_self, Bool.not_eq_true, Bool.not_eq_true', decide_eq_false_iff_not, if_true, if_false, ite_true, ite_false, eq_self, hr3.1, hr3.2.1, hr3.2.2.1, sp_put hr3.2.2]
      refine hq _ (h3.rgp hrp) ⟨w3, one, one, F3, rfl⟩ ?_
      have e5 : (f_wh (t_K B) s).1 = false → y_b (y_wh (t_K B) (t_V B) s.2 lo hi) (fun x => .inr (x, x)) = y_cel1 (t_K B) (t_V B) ch lo hi s.2 := fun z => by
        have s0 := f_wh_ok z
        unfold y_cel1
        rw [if_neg (ns s0), ← f_eta s0]
        simp only [if_neg c33]
      refine pz.cg (p2'.bind (fun z => z) (fun z => ⟨c3.st.tr (cqp _ _ _).st, fun a ha c0 hone => ?_⟩)) e5
      subst hone
      exact ⟨(cqp _ _ _ 2).trans ((c3 2).trans c0), w3, F3, rfl⟩
theorem y_wh_any {p : Nat} (h : (f_wh (t_K B) (false, p)).1 = false) : ∃ v, y_wh (t_K B) (t_V B) p (-9999) 9999 = .inr v := by
  have a := f_x_ok (k := 2) (s := f_opt (t_K B) 29 (false, p)) h
  unfold y_wh
  by_cases c : t_K B p = 29
  · rw [if_pos c]
    have e : f_opt (t_K B) 29 (false, p) = (false, p + 1) ∨ ¬ p < f_T := by
      by_cases y : p < f_T
      · exact Or.inl (if_pos ⟨rfl, y, by simp only; omega, by simp only; omega⟩)
      · exact Or.inr y
    rcases e with e | e
    · rw [e] at a
      have v : 0 ≤ t_V B (p + 1) ∧ t_V B (p + 1) ≤ 9999 := t_V_num a.2.1
      exact ⟨_, if_pos ⟨by omega, by omega⟩⟩
    · have n : ¬ f_see (t_K B) f_T (false, p) 29 29 := fun y => e y.2.1
      have e2 : f_opt (t_K B) 29 (false, p) = (false, p) := if_neg n
      rw [e2] at a
      have := a.2.1
      simp only at this
      omega
  · rw [if_neg c]
    have n : ¬ f_see (t_K B) f_T (false, p) 29 29 := fun y => c (by have := y.2.2; simp only at this; omega)
    have e2 : f_opt (t_K B) 29 (false, p) = (false, p) := if_neg n
    rw [e2] at a
    have v := t_V_num (B := B) (n := p) a.2.1
    exact ⟨_, if_pos ⟨by omega, by omega⟩⟩
theorem q_gi_rgp {w4 : bm_W} {a b : Int} {j : Nat} (hc : c < 3) : bm_gi (rg_put w4 (r + 1) (c : Int) a b) (r + 2) j = (if j = c then a else bm_gi w4 (r + 2) j) ∧ bm_gi (rg_put w4 (r + 1) (c : Int) a b) (r + 3) j = (if j = c then b else bm_gi w4 (r + 3) j) := by
  unfold rg_put
  rw [if_pos ⟨by omega, by omega⟩, Int.toNat_natCast]
  refine ⟨?_, ?_⟩
  · rw [q_gi_ne (by omega)]
    show (if r + 2 = r + 1 + 1 ∧ j = c then a else bm_gi w4 (r + 2) j) = _
    simp
  · show (if r + 3 = r + 1 + 2 ∧ j = c then b else bm_gi (bm_si w4 (r + 1 + 1) c a) (r + 3) j) = _
    rw [q_gi_ne (by omega)]
    simp
theorem rd_cell (h : rt t N f_T B s w) (hk : rk t w) (hg : bm_gr w (t + 112) 4 = some f) (hf : sh_Fn f w) (hff : ∃ i : Int, f = pg_fn (t + 4) i) (hr : sh_Rw r w) (hrp : rp t r) (hy : s.1 = false → bm_gi w (t + 112) 2 = 0 → yi f B ins w ∧ ycl r ins c l w)
    (hq : ∀ w', rt t N f_T B (f_cel (t_K B) s) w' → q_fr (wA t r) w w' → pz t B (f_cel (t_K B) s) (y_cel (t_K B) (t_V B) ins c s.2) (fun l' => ycl r ins (c + 1) (l ++ l') w') w w' → Φ (.inl none) w') : bm_Call bm_pg (d + 5) y_X0_readCell [bm_r (some (t + 112)), bm_r (some r), bm_i (c : Int)] w Φ := by
  refine vc_X0_readCell ?_
  have F : ∀ w', (∃ w4 a b, tf t w w4 ∧ w' = rg_put w4 (r + 1) (c : Int) a b) → q_fr (wA t r) w w' := by
    rintro w' ⟨w4, a, b, x1, rfl⟩
    refine (x1.1.mo (fun a z => ?_)).tr (rg_put_fr q_fr.rf ?_ ?_)
    · unfold wA; omega
    · unfold wA; omega
    · unfold wA; omega
  have tfR : ∀ w4, tf t w w4 → ∀ j, bm_gi w4 (r + 2) j = bm_gi w (r + 2) j ∧ bm_gi w4 (r + 3) j = bm_gi w (r + 3) j := fun w4 x j => by
    unfold rp at hrp
    exact ⟨x.1.gi (by omega), x.1.gi (by omega)⟩
  simp only [bm_c0_v, bm_c1_v, bm_c2_v, bm_c3_v, bm_c4_v, bm_c5_v, bm_u_some, decide_eq_true_eq, true_and, and_true, and_self, Bool.not_eq_true, Bool.not_eq_true', decide_eq_false_iff_not, if_true, if_false, ite_true, ite_false, eq_self, hk.1, hg, hf.1]
  by_cases ci : bm_gi w f 6 ≤ (c : Int)
  · rw [if_pos ci]
    refine vb_X0_readCell_16 ?_
    simp only [bm_c0_v, bm_c1_v, bm_c2_v, bm_c3_v, bm_c4_v, bm_c5_v, bm_u_some, decide_eq_true_eq, true_and, and_true, and_self, Bool.not_eq_true, Bool.not_eq_true', decide_eq_false_iff_not, if_true, if_false, ite_true, ite_false, eq_self]
    refine rd_cell61 (c := c) (ch := 0) (lo := -9999) (hi := 9999) h hk hr hrp (fun w' h' q' p' => hq w' h' (F w' q') (p'.cv (fun z c0 => ?_)))
    have s0 : s.1 = false := by
      unfold f_cel at z
      split at z
      · rename_i y; exact y.1
      · split at z
        · rename_i y; exact f_wh_ok y.1
        · exact f_wh_ok z
    obtain ⟨y1, y2⟩ := hy s0 c0
    have hlen : ins.length ≤ c := by have := y1.1; omega
    have e1 : y_cel (t_K B) (t_V B) ins c s.2 = .inr [] := if_neg (by omega)
    rw [e1]
    have any : ∃ ab, y_cel1 (t_K B) (t_V B) 0 (-9999) 9999 s.2 = .inr ab := by
      unfold y_cel1
      by_cases k30 : t_K B s.2 = 30
      · exact ⟨_, if_pos k30⟩
      · rw [if_neg k30]
        have n30 : ¬ f_see (t_K B) f_T s 30 30 := fun y => k30 (by have := y.2.2; omega)
        unfold f_cel at z
        rw [if_neg n30] at z
        rw [f_eta s0] at z
        by_cases k33 : f_see (t_K B) f_T (f_wh (t_K B) (false, s.2)) 33 33
        · rw [if_pos k33] at z
          obtain ⟨v, e2⟩ := y_wh_any (B := B) k33.1
          obtain ⟨v2, e3⟩ := y_wh_any (B := B) z
          rw [e2]
          simp only [y_b, if_pos k33, if_true]
          rw [e3]
          exact ⟨_, rfl⟩
        · rw [if_neg k33] at z
          obtain ⟨v, e2⟩ := y_wh_any (B := B) z
          rw [e2]
          simp only [y_b, if_neg k33]
          exact ⟨_, rfl⟩
    obtain ⟨ab, e2⟩ := any
    rw [e2]
    rintro ⟨q1, w4, q2, rfl⟩
    refine ⟨q1, ?_⟩
    obtain ⟨u1, u2, u3, u4⟩ := y2
    rw [List.append_nil]
    have ll : l.length = ins.length := by rw [u3]; omega
    refine ⟨fun i hi => ?_, fun i hi hi3 => ?_, by omega, u4⟩
    · by_cases c3 : c < 3
      · rw [(q_gi_rgp c3).1, (q_gi_rgp c3).2, if_neg (by omega), if_neg (by omega), (tfR w4 q2 i).1, (tfR w4 q2 i).2]; exact u1 i hi
      · have eq : rg_put w4 (r + 1) (c : Int) ab.1 ab.2 = w4 := by unfold rg_put; rw [if_neg (by omega)]
        rw [eq, (tfR w4 q2 i).1, (tfR w4 q2 i).2]; exact u1 i hi
    · have c3 : c < 3 := by omega
      rw [(q_gi_rgp c3).1, (q_gi_rgp c3).2, if_neg (by omega), if_neg (by omega), (tfR w4 q2 i).1, (tfR w4 q2 i).2]
      exact u2 i (by omega) hi3
  · rw [if_neg ci]
    refine vb_X0_readCell_16 ?_
    have hfg := hf.rg
    simp only [bm_c0_v, bm_c1_v, bm_c2_v, bm_c3_v, bm_c4_v, bm_c5_v, bm_u_some, decide_eq_true_eq, true_and, and_true, and_self, Bool.not_eq_true, Bool.not_eq_true', decide_eq_false_iff_not, if_true, if_false, ite_true, ite_false, eq_self, hk.1, hg, hf.1, hf.1, hf.2.1, hf.2.2.1, hf.2.2.2.1, hf.2.2.2.2.1, hf.2.2.2.2.2.1, hf.2.2.2.2.2.2.1, hf.2.2.2.2.2.2.2.1, hf.2.2.2.2.2.2.2.2.1, hf.2.2.2.2.2.2.2.2.2.1, hf.2.2.2.2.2.2.2.2.2.2.1, hf.2.2.2.2.2.2.2.2.2.2.2.1, hf.2.2.2.2.2.2.2.2.2.2.2.2.1, hf.2.2.2.2.2.2.2.2.2.2.2.2.2.1, hf.2.2.2.2.2.2.2.2.2.2.2.2.2.2, hfg.1, sp_low hfg, sp_high hfg]
    refine rd_cell61 (c := c) (ch := 1) (lo := rg_lo w (f + 2) (c : Int)) (hi := rg_hi w (f + 2) (c : Int)) h hk hr hrp (fun w' h' q' p' => hq w' h' (F w' q') (p'.cv (fun z c0 => ?_)))
    have s0 : s.1 = false := by
      unfold f_cel at z
      split at z
      · rename_i y; exact y.1
      · split at z
        · rename_i y; exact f_wh_ok y.1
        · exact f_wh_ok z
    obtain ⟨y1, y2⟩ := hy s0 c0
    have hlen : c < ins.length := by have := y1.1; omega
    have c3 : c < 3 := by have := y1.2.1; omega
    have y3 := y1.2.2.1 c hlen
    have elo : rg_lo w (f + 2) (c : Int) = (ins.getD c y_i0).2.1 := by
      unfold rg_lo
      rw [if_pos ⟨by omega, by omega⟩, Int.toNat_natCast]
      exact y3.2.1
    have ehi : rg_hi w (f + 2) (c : Int) = (ins.getD c y_i0).2.2 := by
      unfold rg_hi
      rw [if_pos ⟨by omega, by omega⟩, Int.toNat_natCast]
      exact y3.2.2.1
    rw [elo, ehi]
    have conv : ∀ ab : Int × Int, (ins.getD c y_i0).2.1 ≤ ab.1 → ab.1 ≤ ab.2 → ab.2 ≤ (ins.getD c y_i0).2.2 → ∀ w4, tf t w w4 → ycl r ins (c + 1) (l ++ [ab]) (rg_put w4 (r + 1) (c : Int) ab.1 ab.2) := by
      intro ab i1 i2 i3 w4 q2
      obtain ⟨u1, u2, u3, u4⟩ := y2
      have ll : l.length = c := by rw [u3]; omega
      refine ⟨fun i hi => ?_, fun i hi hi3 => ?_, by rw [List.length_append, ll]; simp; omega, fun i hi => ?_⟩
      · rw [List.length_append, List.length_singleton] at hi
        rw [(q_gi_rgp c3).1, (q_gi_rgp c3).2]
        by_cases e : i = c
        · rw [if_pos e, if_pos e, q_gde (by omega)]
          exact ⟨rfl, rfl⟩
        · rw [if_neg e, if_neg e, q_gdl (by omega), (tfR w4 q2 i).1, (tfR w4 q2 i).2]
          exact u1 i (by omega)
      · rw [(q_gi_rgp c3).1, (q_gi_rgp c3).2, if_neg (by omega), if_neg (by omega), (tfR w4 q2 i).1, (tfR w4 q2 i).2]
        exact u2 i (by omega) hi3
      · rw [List.length_append, List.length_singleton] at hi
        by_cases e : i = c
        · rw [q_gde (by omega), e]
          exact ⟨i1, i2, i3⟩
        · rw [q_gdl (by omega)]
          exact u4 i (by omega)
    unfold y_cel1 y_cel
    rw [if_pos hlen]
    by_cases k30 : t_K B s.2 = 30
    · rw [if_pos k30, if_pos k30]
      rintro ⟨q1, w4, q2, q3⟩
      refine ⟨q1, ?_⟩
      rw [q3]
      exact conv _ (Int.le_refl _) y3.2.2.2.2.1 (Int.le_refl _) w4 q2
    · rw [if_neg k30, if_neg k30]
      cases e2 : y_wh (t_K B) (t_V B) s.2 (ins.getD c y_i0).2.1 (ins.getD c y_i0).2.2 with
      | inl e => exact fun y => y
      | inr one =>
        have b1 := y_wh_in e2
        simp only [y_b]
        by_cases k33 : f_see (t_K B) f_T (f_wh (t_K B) (false, s.2)) 33 33
        · rw [if_pos k33, if_pos k33, if_neg (by decide)]
          cases e3 : y_wh (t_K B) (t_V B) ((f_wh (t_K B) (false, s.2)).2 + 1) one (ins.getD c y_i0).2.2 with
          | inl e => exact fun y => y
          | inr other =>
            have b2 := y_wh_in e3
            rintro ⟨q1, w4, q2, q3⟩
            refine ⟨q1, ?_⟩
            rw [q3]
            exact conv _ b1.1 b2.1 b2.2 w4 q2
        · rw [if_neg k33, if_neg k33]
          rintro ⟨q1, w4, q2, q3⟩
          refine ⟨q1, ?_⟩
          rw [q3]
          exact conv _ b1.1 (Int.le_refl _) b1.2 w4 q2
end RC

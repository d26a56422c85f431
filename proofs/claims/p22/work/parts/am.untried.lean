/-! ===== untried pairs, in the class ===== -/
/-- whether a row tries a value of an input; values of a pair of inputs -/
def u_ri (l : List (Int × Int)) (i : Nat) (x : Int) : Bool := decide ((l.getD i (0, 0)).1 ≤ x ∧ x ≤ (l.getD i (0, 0)).2)
def u_i (p : Nat) : Nat := if p = 2 then 1 else 0
def u_j (p : Nat) : Nat := if p = 0 then 1 else 2
def u_r (p : Nat) (l : List (Int × Int)) (x y : Int) : Bool := u_ri l (u_i p) x && u_ri l (u_j p) y
def u_rs (p : Nat) : List y_rw → Int → Int → Bool
  | [], _, _ => false
  | R :: l, x, y => u_r p R.1 x y || u_rs p l x y
def u_ts (pr : y_pr) (f p : Nat) (x y : Int) : Nat → Bool
  | 0 => false
  | k + 1 => u_ts pr f p x y k || (decide ((pr.2.getD k y_t0).2.1 = f) && u_rs p (pr.2.getD k y_t0).2.2 x y)
theorem rgl.rng {r : Nat} {l : List (Int × Int)} {w : bm_W} (h : rgl r l w) (c : Nat) : -20 ≤ (l.getD c (0, 0)).1 ∧ (l.getD c (0, 0)).1 ≤ (l.getD c (0, 0)).2 ∧ (l.getD c (0, 0)).2 ≤ 20 := by
  rcases Nat.lt_or_ge c l.length with z | z
  · exact h.2.2.1 c z
  · rw [List.getD_eq_getElem?_getD, List.getElem?_eq_none z]; decide
theorem rgl.hi {r : Nat} {l : List (Int × Int)} {w : bm_W} (h : rgl r l w) {i : Nat} (hi : i < 3) : rg_hi w r (i : Int) = (l.getD i (0, 0)).2 := by
  unfold rg_hi
  rw [if_pos ⟨by omega, by omega⟩, Int.toNat_natCast]
  exact (h.2.2.2 i hi).2
theorem rgl.fr {A : Nat → Prop} {r : Nat} {l : List (Int × Int)} {w w' : bm_W} (h : rgl r l w) (hf : q_fr A w w') (hA : ∀ a, r ≤ a → a ≤ r + 2 → ¬ A a) : rgl r l w' := ⟨h.1.fr hf, h.2.1, h.2.2.1, fun c hc => by
  rw [hf.gi (hA _ (by omega) (by omega)), hf.gi (hA _ (by omega) (by omega))]
  exact h.2.2.2 c hc⟩
section UN
variable {d A r1 r2 : Nat} {w : bm_W} {Φ : bm_Rt → bm_W → Prop} {L l : List (Int × Int)}
theorem sp_fill {r c : Int} (kt : bm_kt w A = 22) (kn : bm_kn w A = 41) (hc : 0 ≤ c ∧ c ≤ 41) (hq : ∀ w', q_fr (fun x => x = A) w w' → (∀ a : Nat, a < 41 → bm_gl w' A a = ((u_v (fun b => decide ((a : Int) < r) && decide ((b : Int) < c)) 41 : Nat) : Int)) → Φ (.inl none) w') : bm_Call bm_pg (d + 2) y_X10_fill [bm_r (some A), bm_i r, bm_i c] w Φ := by
  have lp : ∀ (rem j : Nat) (w1 : bm_W), j + rem = 41 → q_fr (fun x => x = A) w w1 → (∀ a : Nat, a < j → bm_gl w1 A a = ((u_v (fun b => decide ((a : Int) < r) && decide ((b : Int) < c)) 41 : Nat) : Int)) → bk_X10_fill_2 (d + 1) Φ A r c (j : Int) w1 := by
    intro rem
    induction rem with
    | zero =>
      intro j w1 hj hf h
      refine vb_X10_fill_2 ?_
      simp only [bm_c0_v, bm_c1_v, bm_c2_v, bm_c3_v, bm_c4_v, bm_c5_v, bm_u_some, decide_eq_true_eq, true_and, and_true, and_self, Bool.not_eq_true, Bool.not_eq_true', decide_eq_false_iff_not, if_true, if_false, ite_true, ite_false, eq_self, hf.kt, hf.kn, kt, kn]
      rw [if_pos (by omega)]
      exact ⟨by decide, hq w1 hf (fun a ha => h a (by omega))⟩
    | succ rem ih =>
      intro j w1 hj hf h
      have nx : ∀ v : Int, v = ((u_v (fun b => decide ((j : Int) < r) && decide ((b : Int) < c)) 41 : Nat) : Int) → bk_X10_fill_2 (d + 1) Φ A r c ((j + 1 : Nat) : Int) (bm_sq w1 A j v) := fun v hv => ih (j + 1) _ (by omega) (hf.sq rfl) (fun a ha => by
        by_cases z : a = j
        · subst z
          rw [q_gl_eq, hv]
        · rw [q_gl_nk z]
          exact h a (by omega))
      refine vb_X10_fill_2 ?_
      simp only [bm_c0_v, bm_c1_v, bm_c2_v, bm_c3_v, bm_c4_v, bm_c5_v, bm_u_some, decide_eq_true_eq, true_and, and_true, and_self, Bool.not_eq_true, Bool.not_eq_true', decide_eq_false_iff_not, if_true, if_false, ite_true, ite_false, eq_self, hf.kt, hf.kn, kt, kn, bm_in, Int.toNat_natCast, bm_w1 (show j < 2147483647 by omega)]
      rw [if_neg (by omega)]
      refine ⟨by decide, ?_⟩
      by_cases z : r ≤ (j : Int)
      · rw [if_pos z]
        refine ⟨by omega, nx 0 ?_⟩
        rw [u_v_0.mpr (fun i _ => by rw [decide_eq_false (by omega), Bool.false_and])]
        rfl
      · rw [if_neg z]
        obtain ⟨k, hk⟩ : ∃ k : Nat, c = (k : Int) := ⟨c.toNat, by omega⟩
        subst hk
        rw [sp_upTo (by omega), bm_c2_v]
        simp only [bm_c0_v, bm_c1_v, bm_c2_v, bm_c3_v, bm_c4_v, bm_c5_v, bm_u_some, decide_eq_true_eq, true_and, and_true, and_self, Bool.not_eq_true, Bool.not_eq_true', decide_eq_false_iff_not, if_true, if_false, ite_true, ite_false, eq_self, hf.kt, hf.kn, kt, kn]
        refine ⟨by omega, nx _ ?_⟩
        rw [u_v_up (show k ≤ 41 by omega)]
        refine congrArg _ (u_v_ext (fun i _ => ?_))
        rw [decide_eq_true (show (j : Int) < r by omega), Bool.true_and]
        by_cases y : i < k
        · rw [decide_eq_true y, decide_eq_true (by omega)]
        · rw [decide_eq_false y, decide_eq_false (by omega)]
  exact vc_X10_fill (lp 41 0 w rfl q_fr.rf (fun a ha => by omega))
theorem sp_strike {i j : Nat} (kt : bm_kt w A = 22) (kn : bm_kn w A = 41) (gL : rgl r1 L w) (gl : rgl r2 l w) (hi : i < 3) (hj : j < 3) (hin : ∀ c, c < 3 → (L.getD c (0, 0)).1 ≤ (l.getD c (0, 0)).1 ∧ (l.getD c (0, 0)).2 ≤ (L.getD c (0, 0)).2) (M : Nat → Nat → Bool) (hM : ∀ a, a < 41 → bm_gl w A a = ((u_v (M a) 41 : Nat) : Int))
    (hq : ∀ w', q_fr (fun x => x = A) w w' → (∀ a : Nat, a < 41 → bm_gl w' A a = ((u_v (fun b => M a b && !(u_ri l i ((L.getD i (0, 0)).1 + a) && u_ri l j ((L.getD j (0, 0)).1 + b))) 41 : Nat) : Int)) → Φ (.inl none) w') : bm_Call bm_pg (d + 2) y_X10_strike [bm_r (some A), bm_r (some r1), bm_r (some r2), bm_i (i : Int), bm_i (j : Int)] w Φ := by
  have ri := gl.rng i
  have rj := gl.rng j
  have Ri := gL.rng i
  have Rj := gL.rng j
  have ii := hin i hi
  have ij := hin j hj
  obtain ⟨k1, e1⟩ : ∃ k1 : Nat, bm_w (bm_w ((l.getD j (0, 0)).2 - (L.getD j (0, 0)).1) + 1) = (k1 : Int) := ⟨((l.getD j (0, 0)).2 - (L.getD j (0, 0)).1 + 1).toNat, by rw [q_wI (x := (l.getD j (0, 0)).2 - (L.getD j (0, 0)).1) ⟨by omega, by omega⟩, q_wI ⟨by omega, by omega⟩]; omega⟩
  obtain ⟨k2, e2⟩ : ∃ k2 : Nat, bm_w ((l.getD j (0, 0)).1 - (L.getD j (0, 0)).1) = (k2 : Int) := ⟨((l.getD j (0, 0)).1 - (L.getD j (0, 0)).1).toNat, by rw [q_wI (x := (l.getD j (0, 0)).1 - (L.getD j (0, 0)).1) ⟨by omega, by omega⟩]; omega⟩
  obtain ⟨k3, e3⟩ : ∃ k3 : Nat, bm_w ((l.getD i (0, 0)).2 - (L.getD i (0, 0)).1) = (k3 : Int) := ⟨((l.getD i (0, 0)).2 - (L.getD i (0, 0)).1).toNat, by rw [q_wI (x := (l.getD i (0, 0)).2 - (L.getD i (0, 0)).1) ⟨by omega, by omega⟩]; omega⟩
  obtain ⟨k4, e4⟩ : ∃ k4 : Nat, bm_w ((l.getD i (0, 0)).1 - (L.getD i (0, 0)).1) = (k4 : Int) := ⟨((l.getD i (0, 0)).1 - (L.getD i (0, 0)).1).toNat, by rw [q_wI (x := (l.getD i (0, 0)).1 - (L.getD i (0, 0)).1) ⟨by omega, by omega⟩]; omega⟩
  have f1 : (k1 : Int) = (l.getD j (0, 0)).2 - (L.getD j (0, 0)).1 + 1 := by rw [← e1, q_wI (x := (l.getD j (0, 0)).2 - (L.getD j (0, 0)).1) ⟨by omega, by omega⟩, q_wI ⟨by omega, by omega⟩]
  have f2 : (k2 : Int) = (l.getD j (0, 0)).1 - (L.getD j (0, 0)).1 := by rw [← e2, q_wI ⟨by omega, by omega⟩]
  have f3 : (k3 : Int) = (l.getD i (0, 0)).2 - (L.getD i (0, 0)).1 := by rw [← e3, q_wI ⟨by omega, by omega⟩]
  have f4 : (k4 : Int) = (l.getD i (0, 0)).1 - (L.getD i (0, 0)).1 := by rw [← e4, q_wI ⟨by omega, by omega⟩]
  refine vc_X10_strike ?_
  simp only [bm_c0_v, bm_c1_v, bm_c2_v, bm_c3_v, bm_c4_v, bm_c5_v, bm_u_some, decide_eq_true_eq, true_and, and_true, and_self, Bool.not_eq_true, Bool.not_eq_true', decide_eq_false_iff_not, if_true, if_false, ite_true, ite_false, eq_self, gL.1.1, gl.1.1, sp_high (d := d) gl.1, sp_low (d := d) gl.1, sp_low (d := d) gL.1, gl.hi hi, gl.hi hj, gl.lo hi, gl.lo hj, gL.lo hi, gL.lo hj, e1, e2, e3, e4, sp_upTo (d := d) (show k1 < 63 by omega), sp_upTo (d := d) (show k2 < 63 by omega)]
  clear e1 e2 e3 e4
  have es : (Int64.ofInt ((2 ^ k1 - 1 : Nat) : Int) &&& Int64.ofInt ((Int64.ofInt ((2 ^ k2 - 1 : Nat) : Int) ^^^ Int64.ofInt (-1 : Int)).toInt)).toInt = ((u_v (fun b => u_ri l j ((L.getD j (0, 0)).1 + (b : Int))) 41 : Nat) : Int) := by
    have q := q_nand_v (g := fun i => decide (i < k1)) (g' := fun i => decide (i < k2)) (n := 41) (by decide)
    rw [← u_v_up (show k1 ≤ 41 by omega), ← u_v_up (show k2 ≤ 41 by omega)] at q
    refine Eq.trans q (congrArg _ (u_v_ext (fun b hb => ?_)))
    unfold u_ri
    by_cases z : b < k1
    · by_cases z2 : b < k2
      · rw [decide_eq_true z, decide_eq_true z2, decide_eq_false (by omega)]; rfl
      · rw [decide_eq_true z, decide_eq_false z2, decide_eq_true (by omega)]; rfl
    · rw [decide_eq_false z, Bool.false_and, decide_eq_false (by omega)]
  rw [es]
  have lp : ∀ (rem x : Nat) (w1 : bm_W), x + rem = k3 + 1 → k4 ≤ x → q_fr (fun x => x = A) w w1 → (∀ a : Nat, a < 41 → bm_gl w1 A a = ((u_v (fun b => M a b && !((decide (k4 ≤ a) && decide (a < x)) && u_ri l j ((L.getD j (0, 0)).1 + (b : Int)))) 41 : Nat) : Int)) → bk_X10_strike_67 (d + 1) Φ A ((u_v (fun b => u_ri l j ((L.getD j (0, 0)).1 + (b : Int))) 41 : Nat) : Int) (k3 : Int) (x : Int) w1 := by
    intro rem
    induction rem with
    | zero =>
      intro x w1 hx hx4 hf h
      refine vb_X10_strike_67 ?_
      simp only [bm_c0_v, bm_c1_v, bm_c2_v, bm_c3_v, bm_c4_v, bm_c5_v, bm_u_some, decide_eq_true_eq, true_and, and_true, and_self, Bool.not_eq_true, Bool.not_eq_true', decide_eq_false_iff_not, if_true, if_false, ite_true, ite_false, eq_self]
      rw [if_pos (by omega)]
      refine hq w1 hf (fun a ha => ?_)
      rw [h a ha]
      refine congrArg _ (u_v_ext (fun b _ => ?_))
      have : (decide (k4 ≤ a) && decide (a < x)) = u_ri l i ((L.getD i (0, 0)).1 + (a : Int)) := by
        unfold u_ri
        by_cases z : k4 ≤ a
        · by_cases z2 : a < x
          · rw [decide_eq_true z, decide_eq_true z2, decide_eq_true (by omega)]; rfl
          · rw [decide_eq_true z, decide_eq_false z2, decide_eq_false (by omega)]; rfl
        · rw [decide_eq_false z, Bool.false_and, decide_eq_false (by omega)]
      rw [this]
    | succ rem ih =>
      intro x w1 hx hx4 hf h
      have x41 : x < 41 := by omega
      have hx0 := h x x41
      refine vb_X10_strike_67 ?_
      simp only [bm_c0_v, bm_c1_v, bm_c2_v, bm_c3_v, bm_c4_v, bm_c5_v, bm_u_some, decide_eq_true_eq, true_and, and_true, and_self, Bool.not_eq_true, Bool.not_eq_true', decide_eq_false_iff_not, if_true, if_false, ite_true, ite_false, eq_self, hf.kt, hf.kn, kt, kn, bm_in, Int.toNat_natCast, bm_w1 (show x < 2147483647 by omega)]
      rw [if_neg (by omega), if_neg (by omega), if_neg (by omega)]
      refine ⟨by decide, by omega, by omega, ?_⟩
      have q := q_nand_v (g := fun b => M x b && !((decide (k4 ≤ x) && decide (x < x)) && u_ri l j ((L.getD j (0, 0)).1 + (b : Int)))) (g' := fun b => u_ri l j ((L.getD j (0, 0)).1 + (b : Int))) (n := 41) (by decide)
      rw [← hx0] at q
      have q2 := ih (x + 1) (bm_sq w1 A x (q_ld (bm_gl w1 A x) (q_no ((u_v (fun b => u_ri l j ((L.getD j (0, 0)).1 + (b : Int))) 41 : Nat) : Int)))) (by omega) (by omega) (hf.sq rfl) (fun a ha => by
        by_cases z : a = x
        · subst z
          rw [q_gl_eq, q]
          refine congrArg _ (u_v_ext (fun b _ => ?_))
          rw [decide_eq_true hx4, decide_eq_false (Nat.lt_irrefl a), decide_eq_true (Nat.lt_succ_self a)]
          cases M a b <;> simp
        · rw [q_gl_nk z, h a ha]
          refine congrArg _ (u_v_ext (fun b _ => ?_))
          by_cases y : a < x
          · rw [decide_eq_true y, decide_eq_true (show a < x + 1 by omega)]
          · rw [decide_eq_false y, decide_eq_false (show ¬ a < x + 1 by omega)])
      exact q2
  refine lp (k3 + 1 - k4) k4 w (by omega) (Nat.le_refl _) q_fr.rf (fun a ha => ?_)
  rw [hM a ha]
  refine congrArg _ (u_v_ext (fun b _ => ?_))
  have : (decide (k4 ≤ a) && decide (a < k4)) = false := by
    by_cases z : a < k4
    · rw [decide_eq_false (show ¬ k4 ≤ a by omega), Bool.false_and]
    · rw [decide_eq_false z, Bool.and_false]
  rw [this, Bool.false_and, Bool.not_false, Bool.and_true]
end UN

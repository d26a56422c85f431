/-! ===== pairs are marked, in the model ===== -/
/-- where a pair stands -/
def u_ps (b : Nat) (x y : Int) : Nat := b * 1681 + (x + 20).toNat * 41 + (y + 20).toNat
/-- places that are marked -/
def mTr (m : Nat) (T : Nat → Bool) (w : bm_W) : Prop := ∀ k, k < 6724 → bm_gi w (m + 30) k = bm_bo (T k)
/-- the places of the pairs of n values -/
def u_mk (n : Nat) (v : Nat → Int) (k : Nat) : Bool := if n = 1 then decide (k = u_ps 0 (v 0) 0) else if n = 2 then decide (k = u_ps 1 (v 0) (v 1)) else (decide (k = u_ps 1 (v 0) (v 1)) || decide (k = u_ps 2 (v 0) (v 2))) || decide (k = u_ps 3 (v 1) (v 2))
/-- places of pairs that U tells -/
def u_TT (n : Nat) (U : Nat → Int → Int → Bool) (k : Nat) : Bool := (if n = 1 then decide (k / 1681 = 0) else decide (1 ≤ k / 1681 ∧ (n = 3 ∨ k / 1681 = 1))) && U (k / 1681 - 1) (((k % 1681 / 41 : Nat) : Int) - 20) (((k % 41 : Nat) : Int) - 20)
theorem u_ps_lt {b : Nat} {x y : Int} (hb : b ≤ 3) (hx : -20 ≤ x ∧ x ≤ 20) (hy : -20 ≤ y ∧ y ≤ 20) : u_ps b x y < 6724 := by unfold u_ps; omega
theorem u_mk_T {n : Nat} {v : Nat → Int} {k : Nat} (h1 : 1 ≤ n) (h3 : n ≤ 3) (hv : ∀ i, -20 ≤ v i ∧ v i ≤ 20) (hv1 : n = 1 → v 1 = 0) (hk : k < 6724) : u_mk n v k = u_TT n (fun p x y => decide (v (u_i p) = x) && decide (v (u_j p) = y)) k := by
  have v0 := hv 0
  have v1 := hv 1
  have v2 := hv 2
  have ek : k = k / 1681 * 1681 + k % 1681 / 41 * 41 + k % 41 := by omega
  have l1 : k % 1681 / 41 < 41 := by omega
  have l2 : k % 41 < 41 := by omega
  have l3 : k / 1681 < 4 := by omega
  unfold u_TT u_mk u_ps
  simp only
  generalize k / 1681 = b at ek l3 ⊢
  generalize k % 1681 / 41 = X at ek l1 ⊢
  generalize k % 41 = Y at ek l2 ⊢
  have i0 : u_i 0 = 0 := rfl
  have i1 : u_i 1 = 0 := rfl
  have i2 : u_i 2 = 1 := rfl
  have j0 : u_j 0 = 1 := rfl
  have j1 : u_j 1 = 2 := rfl
  have j2 : u_j 2 = 2 := rfl
  subst ek
  rw [Bool.eq_iff_iff]
  rcases (show n = 1 ∨ n = 2 ∨ n = 3 by omega) with rfl | rfl | rfl
  · have z := hv1 rfl
    rcases (show b = 0 ∨ b = 1 ∨ b = 2 ∨ b = 3 by omega) with rfl | rfl | rfl | rfl <;> simp [i0, j0] <;> omega
  · rcases (show b = 0 ∨ b = 1 ∨ b = 2 ∨ b = 3 by omega) with rfl | rfl | rfl | rfl <;> simp [i0, j0] <;> omega
  · rcases (show b = 0 ∨ b = 1 ∨ b = 2 ∨ b = 3 by omega) with rfl | rfl | rfl | rfl <;> simp [i0, j0, i1, j1, i2, j2] <;> omega
theorem u_T_or {n : Nat} {U U' : Nat → Int → Int → Bool} {k : Nat} : (u_TT n U k || u_TT n U' k) = u_TT n (fun p x y => U p x y || U' p x y) k := by
  unfold u_TT
  rw [Bool.and_or_distrib_left]
theorem u_T_ext {n : Nat} {U U' : Nat → Int → Int → Bool} {k : Nat} (h : ∀ p x y, U p x y = U' p x y) : u_TT n U k = u_TT n U' k := by
  unfold u_TT
  rw [h]
section MK
variable {d m f n a : Nat} {B : Int → Int} {w : bm_W} {Φ : bm_Rt → bm_W → Prop} {T : Nat → Bool}
theorem mTr.set {k0 : Nat} (h : mTr m T w) : mTr m (fun k => T k || decide (k = k0)) (bm_si w (m + 30) k0 1) := fun k hk => by
  by_cases c : k = k0
  · subst c
    show _ = bm_bo (T k || decide (k = k))
    rw [q_gi_eq, decide_eq_true rfl, Bool.or_true]
    rfl
  · show _ = bm_bo (T k || decide (k = k0))
    rw [q_gi_nk c, decide_eq_false c, Bool.or_false]
    exact h k hk
theorem mTr.ext {T' : Nat → Bool} (h : mTr m T w) (he : ∀ k, k < 6724 → T k = T' k) : mTr m T' w := fun k hk => by rw [← he k hk]; exact h k hk
theorem mp_pairAt {i j : Nat} {x y : Int} (h : i + j ≤ 3) (hx : -20 ≤ x ∧ x ≤ 20) (hy : -20 ≤ y ∧ y ≤ 20) : bm_Call bm_pg (d + 1) y_X12_pairAt [bm_i (i : Int), bm_i (j : Int), bm_i x, bm_i y] w Φ ↔ Φ (.inl (some (bm_i ((u_ps (i + j) x y : Nat) : Int)))) w := by
  refine bm_ans (fun Ψ q => vc_X12_pairAt ?_)
  have e : bm_w (bm_w (bm_w (bm_w (bm_w (bm_w ((i : Int) + (j : Int)) * 41) * 41) + bm_w (bm_w (x + 20) * 41)) + y) + 20) = ((u_ps (i + j) x y : Nat) : Int) := by
    rw [q_wI (x := (i : Int) + (j : Int)) ⟨by omega, by omega⟩, q_wI (x := ((i : Int) + (j : Int)) * 41) ⟨by omega, by omega⟩, q_wI (x := ((i : Int) + (j : Int)) * 41 * 41) ⟨by omega, by omega⟩, q_wI (x := x + 20) ⟨by omega, by omega⟩, q_wI (x := (x + 20) * 41) ⟨by omega, by omega⟩, q_wI (x := ((i : Int) + (j : Int)) * 41 * 41 + (x + 20) * 41) ⟨by omega, by omega⟩, q_wI (x := ((i : Int) + (j : Int)) * 41 * 41 + (x + 20) * 41 + y) ⟨by omega, by omega⟩, q_wI ⟨by omega, by omega⟩]
    unfold u_ps
    omega
  rw [e]
  exact q
/-- what stays while a row is looked at -/
def mLk (m f n a : Nat) (v : Nat → Int) (w : bm_W) : Prop := sh_Md m w ∧ bm_gi w (m + 14) f = (n : Int) ∧ bm_kt w a = 21 ∧ bm_kn w a = 3 ∧ ∀ i, i < n → bm_gi w a i = v i
theorem mLk.fr {v : Nat → Int} {w' : bm_W} (h : mLk m f n a v w) (hf : q_fr (fun x => x = m + 30) w w') (ha : a ≠ m + 30) : mLk m f n a v w' := ⟨h.1.fr hf, (hf.gi (by omega)).trans h.2.1, by rw [hf.kt]; exact h.2.2.1, by rw [hf.kn]; exact h.2.2.2.1, fun i hi => (hf.gi ha).trans (h.2.2.2.2 i hi)⟩
theorem mp_markRow {v : Nat → Int} (h : mLk m f n a v w) (hf : f < 6) (h1 : 1 ≤ n) (h3 : n ≤ 3) (ha : a ≠ m + 30) (hv : ∀ i, -20 ≤ v i ∧ v i ≤ 20) (hT : mTr m T w) (hq : ∀ w', q_fr (fun x => x = m + 30) w w' → mTr m (fun k => T k || u_mk n v k) w' → Φ (.inl none) w') : bm_Call bm_pg (d + 2) y_X12_mark [bm_r (some m), bm_i (f : Int), bm_r (some a)] w Φ := by
  have v0 := hv 0
  have v1 := hv 1
  have v2 := hv 2
  have s27 : ∀ (i : Nat) (w1 : bm_W), mLk m f n a v w1 → i < n → bk_X12_mark_42 (d + 1) Φ m (f : Int) a (i : Int) ((i + 1 : Nat) : Int) w1 → bk_X12_mark_27 (d + 1) Φ m (f : Int) a (i : Int) w1 := fun i w1 L hi hb => by
    have S := L.1
    refine vb_X12_mark_27 ?_
    simp only [bm_c0_v, bm_c1_v, bm_c2_v, bm_c3_v, bm_c4_v, bm_c5_v, bm_u_some, decide_eq_true_eq, true_and, and_true, and_self, Bool.not_eq_true, Bool.not_eq_true', decide_eq_false_iff_not, if_true, if_false, ite_true, ite_false, eq_self, S.1, S.g20, S.t20, S.n20, bm_in, Int.toNat_natCast, L.2.1, bm_w1 (show i < 2147483647 by omega)]
    rw [if_neg (by omega)]
    exact ⟨by omega, hb⟩
  have e27 : ∀ (w1 : bm_W), mLk m f n a v w1 → Φ (.inl none) w1 → bk_X12_mark_27 (d + 1) Φ m (f : Int) a (n : Int) w1 := fun w1 L hb => by
    have S := L.1
    refine vb_X12_mark_27 ?_
    simp only [bm_c0_v, bm_c1_v, bm_c2_v, bm_c3_v, bm_c4_v, bm_c5_v, bm_u_some, decide_eq_true_eq, true_and, and_true, and_self, Bool.not_eq_true, Bool.not_eq_true', decide_eq_false_iff_not, if_true, if_false, ite_true, ite_false, eq_self, S.1, S.g20, S.t20, S.n20, bm_in, Int.toNat_natCast, L.2.1]
    rw [if_pos (by omega)]
    exact ⟨by omega, hb⟩
  have e42 : ∀ (i : Nat) (w1 : bm_W), mLk m f n a v w1 → i < n → bk_X12_mark_27 (d + 1) Φ m (f : Int) a ((i + 1 : Nat) : Int) w1 → bk_X12_mark_42 (d + 1) Φ m (f : Int) a (i : Int) (n : Int) w1 := fun i w1 L hi hb => by
    have S := L.1
    refine vb_X12_mark_42 ?_
    simp only [bm_c0_v, bm_c1_v, bm_c2_v, bm_c3_v, bm_c4_v, bm_c5_v, bm_u_some, decide_eq_true_eq, true_and, and_true, and_self, Bool.not_eq_true, Bool.not_eq_true', decide_eq_false_iff_not, if_true, if_false, ite_true, ite_false, eq_self, S.1, S.g20, S.t20, S.n20, bm_in, Int.toNat_natCast, L.2.1, bm_w1 (show i < 2147483647 by omega)]
    rw [if_pos (by omega)]
    exact ⟨by omega, hb⟩
  have s42 : ∀ (i j : Nat) (w1 : bm_W) (T1 : Nat → Bool), mLk m f n a v w1 → mTr m T1 w1 → i < j → j < n → (∀ w2, q_fr (fun x => x = m + 30) w1 w2 → mLk m f n a v w2 → mTr m (fun k => T1 k || decide (k = u_ps (i + j) (v i) (v j))) w2 → bk_X12_mark_42 (d + 1) Φ m (f : Int) a (i : Int) ((j + 1 : Nat) : Int) w2) → bk_X12_mark_42 (d + 1) Φ m (f : Int) a (i : Int) (j : Int) w1 := fun i j w1 T1 L hT1 hij hj hb => by
    have S := L.1
    have lt := u_ps_lt (b := i + j) (by omega) (hv i) (hv j)
    have F2 : q_fr (fun x => x = m + 30) w1 (bm_si w1 (m + 30) (u_ps (i + j) (v i) (v j)) 1) := q_fr.rf.si rfl
    refine vb_X12_mark_42 ?_
    simp only [bm_c0_v, bm_c1_v, bm_c2_v, bm_c3_v, bm_c4_v, bm_c5_v, bm_u_some, decide_eq_true_eq, true_and, and_true, and_self, Bool.not_eq_true, Bool.not_eq_true', decide_eq_false_iff_not, if_true, if_false, ite_true, ite_false, eq_self, S.1, S.g20, S.t20, S.n20, S.g41, S.t41, S.n41, bm_in, Int.toNat_natCast, L.2.1, L.2.2.1, L.2.2.2.1, L.2.2.2.2 i (by omega), L.2.2.2.2 j hj, mp_pairAt (d := d) (show i + j ≤ 3 by omega) (hv i) (hv j), bm_w1 (show j < 2147483647 by omega)]
    rw [if_neg (by omega)]
    exact ⟨by omega, by omega, by omega, ⟨by omega, Or.inr trivial⟩, hb _ F2 (L.fr F2 ha) hT1.set⟩
  refine vc_X12_mark ?_
  have S := h.1
  simp only [bm_c0_v, bm_c1_v, bm_c2_v, bm_c3_v, bm_c4_v, bm_c5_v, bm_u_some, decide_eq_true_eq, true_and, and_true, and_self, Bool.not_eq_true, Bool.not_eq_true', decide_eq_false_iff_not, if_true, if_false, ite_true, ite_false, eq_self, S.1, S.g20, S.t20, S.n20, S.g41, S.t41, S.n41, bm_in, Int.toNat_natCast, h.2.1]
  refine ⟨by omega, ?_⟩
  rcases (show n = 1 ∨ n = 2 ∨ n = 3 by omega) with rfl | rfl | rfl
  · rw [if_neg (by simp)]
    have lt := u_ps_lt (b := 0) (by omega) (hv 0) (y := 0) (by decide)
    have pa := fun Ψ => mp_pairAt (d := d) (w := w) (Φ := Ψ) (i := 0) (j := 0) (x := v 0) (y := 0) (by decide) (hv 0) (by decide)
    have F2 : q_fr (fun x => x = m + 30) w (bm_si w (m + 30) (u_ps 0 (v 0) 0) 1) := q_fr.rf.si rfl
    have L2 := h.fr F2 ha
    have g0 : bm_gi w a (Int.toNat 0) = v 0 := h.2.2.2.2 0 (by decide)
    rw [g0]
    refine ⟨⟨h.2.2.1, by rw [h.2.2.2.1]; exact ⟨by omega, by omega⟩⟩, (pa _).mpr ?_⟩
    rw [bm_c1_v]
    simp only [bm_c0_v, bm_c1_v, bm_c2_v, bm_c3_v, bm_c4_v, bm_c5_v, bm_u_some, decide_eq_true_eq, true_and, and_true, and_self, Bool.not_eq_true, Bool.not_eq_true', decide_eq_false_iff_not, if_true, if_false, ite_true, ite_false, eq_self, S.1, S.g41, S.t41, S.n41, bm_in, Int.toNat_natCast, Nat.add_zero]
    refine ⟨⟨by omega, Or.inr trivial⟩, s27 0 _ L2 (by decide) (e42 0 _ L2 (by decide) (e27 _ L2 (hq _ F2 (hT.set.ext (fun k _ => ?_)))))⟩
    unfold u_mk
    rw [if_pos rfl]
  · rw [if_pos (by simp)]
    refine s27 0 w h (by decide) (s42 0 1 w T h hT (by decide) (by decide) (fun w2 F2 L2 T2 => e42 0 w2 L2 (by decide) (s27 1 w2 L2 (by decide) (e42 1 w2 L2 (by decide) (e27 w2 L2 (hq w2 F2 (T2.ext (fun k _ => ?_))))))))
    unfold u_mk
    rw [if_neg (by decide), if_pos rfl]
  · rw [if_pos (by simp)]
    refine s27 0 w h (by decide) (s42 0 1 w T h hT (by decide) (by decide) (fun w2 F2 L2 T2 => s42 0 2 w2 _ L2 T2 (by decide) (by decide) (fun w3 F3 L3 T3 => e42 0 w3 L3 (by decide) (s27 1 w3 L3 (by decide) (s42 1 2 w3 _ L3 T3 (by decide) (by decide) (fun w4 F4 L4 T4 => e42 1 w4 L4 (by decide) (s27 2 w4 L4 (by decide) (e42 2 w4 L4 (by decide) (e27 w4 L4 (hq w4 ((F2.tr F3).tr F4) (T4.ext (fun k _ => ?_))))))))))))
    unfold u_mk
    rw [if_neg (by decide), if_neg (by decide), Bool.or_assoc, Bool.or_assoc, Bool.or_assoc]
end MK

/-! ===== feeding ===== -/
/-- the byte that is fed: s bytes behind it -/
def fd_b (v : Int) (s : Nat) : Int := ((Int32.ofInt v >>> (Int32.ofInt (8 * (s : Int)) &&& 31)) &&& 255).toInt
def fd_put (B : Nat → Int) (L : Nat) (c : Int) : Nat → Int := fun k => if k = L then c else B k
def fd_w (v : Int) : Nat → (Nat → Int) → Nat → (Nat → Int)
  | 0, B, _ => B
  | s + 1, B, L => fd_w v s (fd_put B L (fd_b v s)) (L + 1)
/-- the class's text; the model's -/
def cTx (tp : Nat) (B : Nat → Int) (L : Nat) (w : bm_W) : Prop := sh_Tp tp w ∧ bm_gi w tp 1 = (L : Int) ∧ ∀ k, k < L → tp_b w tp k = B k
section FD
variable {d t m L : Nat} {v : Int} {B : Nat → Int} {w w0 : bm_W} {Φ : bm_Rt → bm_W → Prop}
theorem ap_3 (hq : ∀ (B' : Nat → Int) (L' : Nat) w', cTx t B' L' w' → q_fr (fun a => a = t ∨ a = t + 1) w0 w' → B' = fd_w v 4 B L → L' = L + 4 → Φ (.inl none) w') : ∀ (s : Nat) (B1 : Nat → Int) (L1 : Nat) (w : bm_W), s ≤ 4 → cTx t B1 L1 w → q_fr (fun a => a = t ∨ a = t + 1) w0 w → L1 + s ≤ 1500 → fd_w v s B1 L1 = fd_w v 4 B L → L1 + s = L + 4 → bk_X8_append_3 d Φ t v (8 * (s : Int) - 8) w
  | 0, B1, L1, w, hs, hT, hf, hL, hB, hx => by
    refine vb_X8_append_3 ?_
    rw [if_pos (by decide)]
    exact hq B1 L1 w hT hf hB hx
  | s + 1, B1, L1, w, hs, hT, hf, hL, hB, hx => by
    obtain ⟨T, h1, h2⟩ := hT
    have e1 : 8 * ((s + 1 : Nat) : Int) - 8 = 8 * (s : Int) := by omega
    have e2 : 8 * (s : Int) + (-8) = 8 * (s : Int) - 8 := by omega
    have k20 : bm_kt w (t + 1) = 20 := T.2.2.1
    have T2 : ∀ x, sh_Tp t (bm_si w (t + 1) L1 x) := fun _ => T
    have g1 : ∀ x, bm_gi (bm_si w (t + 1) L1 x) t 1 = (L1 : Int) := fun x => (q_gi_ne (by omega)).trans h1
    refine vb_X8_append_3 ?_
    rw [e1]
    simp only [bm_c0_v, bm_c1_v, bm_c2_v, bm_c3_v, bm_c4_v, bm_c5_v, bm_u_some, decide_eq_true_eq, true_and, and_true, and_self, Bool.not_eq_true, Bool.not_eq_true', decide_eq_false_iff_not, if_true, if_false, ite_true, ite_false, eq_self, T.1, T.2.1, T.2.2.1, T.2.2.2, h1, bm_in, Int.toNat_natCast, g1, bm_w1 (show L1 < 2147483647 by omega), q_wI (x := 8 * (s : Int) + (-8)) ⟨by omega, by omega⟩]
    rw [if_neg (by omega), if_neg (by omega), if_neg (by omega), e2]
    refine ⟨by decide, by omega, T.1, T.1, ap_3 hq s (fd_put B1 L1 (fd_b v s)) (L1 + 1) _ (by omega) ⟨T, q_gi_eq, fun k hk => ?_⟩ ((hf.si (Or.inr rfl)).si (Or.inl rfl)) (by omega) hB (by omega)⟩
    unfold tp_b fd_put
    by_cases z : k = L1
    · rw [if_pos z, z, q_gi_ne (by omega), q_gi_eq]
      exact b8_x _
    · rw [if_neg z, q_gi_ne (by omega), q_gi_nk z]
      exact h2 k (by omega)
theorem sp_append (hT : cTx t B L w) (hL : L + 4 ≤ 1500) (hq : ∀ w', cTx t (fd_w v 4 B L) (L + 4) w' → q_fr (fun a => a = t ∨ a = t + 1) w w' → Φ (.inl none) w') : bm_Call bm_pg (d + 1) y_X8_append [bm_r (some t), bm_i v] w Φ := by
  refine vc_X8_append ?_
  exact ap_3 (v := v) (B := B) (L := L) (fun B' L' w' c f e1 e2 => hq w' (by rw [← e1, ← e2]; exact c) f) 4 B L w (by decide) hT q_fr.rf hL rfl rfl
end FD

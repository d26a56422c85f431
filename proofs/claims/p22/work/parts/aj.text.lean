/-! ===== the same text on both sides ===== -/
theorem b8_rng (x : Int32) : 0 ≤ (x &&& 255).toInt ∧ (x &&& 255).toInt ≤ 255 := by
  have e : (x &&& 255).toInt = (x.toBitVec &&& 255#32).toInt := rfl
  have l : (x.toBitVec &&& 255#32).toNat ≤ 255 := by
    rw [BitVec.toNat_and]
    exact Nat.and_le_right
  rw [e, BitVec.toInt_eq_toNat_of_lt (by omega)]
  omega
/-- bytes -/
def fd_ok (D : Nat → Int) (L : Nat) : Prop := ∀ k, k < L → 0 ≤ D k ∧ D k ≤ 255
theorem fd_ok.w (v : Int) : ∀ (s : Nat) (D : Nat → Int) (L : Nat), fd_ok D L → fd_ok (fd_w v s D L) (L + s)
  | 0, D, L, h => h
  | s + 1, D, L, h => by
    have ih := fd_ok.w v s (fd_put D L (fd_b v s)) (L + 1) (fun k hk => by
      unfold fd_put
      by_cases z : k = L
      · rw [if_pos z]
        exact b8_rng _
      · rw [if_neg z]
        exact h k (by omega))
    rw [show L + (s + 1) = L + 1 + s by omega]
    exact ih
theorem fd_ok.five {x1 x2 x3 x4 x5 : Int} {D : Nat → Int} {L : Nat} (h : fd_ok D L) : fd_ok (fd_5 x1 x2 x3 x4 x5 D L) (L + 20) := fd_ok.w x5 4 _ (L + 16) (fd_ok.w x4 4 _ (L + 12) (fd_ok.w x3 4 _ (L + 8) (fd_ok.w x2 4 _ (L + 4) (fd_ok.w x1 4 _ L h))))

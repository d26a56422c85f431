/-! ===== Math.max, Math.min as rows, by the library's contracts ===== -/
section BMM
variable {K : bm_K} {pg : bm_Pg} {mi : bm_Mi} {cc : ByteArray} {nL : Nat} {own nm : String} {ret : Option FieldType} {pc : Nat}
def bm_oMx (nx : Nat) : bm_L → List bm_V → bm_W → Option (Prop × bm_S) := fun lo st w => match st with
  | .inl y :: .inl x :: r => some ((bm_wt r).ble 8 = true, nx, lo, .inl (if x < y then y else x) :: r, w)
  | _ => none
def bm_oMn (nx : Nat) : bm_L → List bm_V → bm_W → Option (Prop × bm_S) := fun lo st w => match st with
  | .inl y :: .inl x :: r => some ((bm_wt r).ble 8 = true, nx, lo, .inl (if y < x then y else x) :: r, w)
  | _ => none
theorem bm_s_mmax {index : Nat} (nx : Nat) (hdg : decode cc pc = .ok (.invokestatic index, 3)) (hl : Cond.methodLink own index Lib.Math.max.name ∈ bm_ALL) (hst : Cond.static Lib.Math.max.name ∈ bm_ALL) (hi : Cond.initialized "java/lang/Math" ∈ bm_ALL) (hc : Cond.code Lib.Math.max.name Lib.Math.max.code 2 (some .int) ∈ bm_ALL) (hn : nx = pc + 3 := by rfl) : bm_Sn K pg mi cc nL own nm ret pc (bm_G (bm_oMx nx)) := by
  subst hn
  refine bm_Sn.heapG (fun lo st w g u he hg => ?_)
  unfold bm_oMx at he
  split at he
  · rename_i y x r
    cases he
    refine ⟨bm_le.rf, ?_⟩
    intro D b0 mc ms d p l e R s m args below meth c H locs w0 Q ls hCx hBn hle hlo hLo hSt hHR hS hls k
    obtain ⟨hx, hb, hml, hown, hts, -, -, -, -, -, -, hRc, hRs, hRf, hRl, -⟩ := hCx
    have hw : bm_wt r ≤ 8 := Nat.le_of_ble_eq_true hg
    have hy1 : bm_InI y := hSt (.inl y) List.mem_cons_self
    have hx1 : bm_InI x := hSt (.inl x) (List.mem_cons_of_mem _ List.mem_cons_self)
    have h1 := hBn.1
    have h2 := hBn.2
    refine va_mmax hx hb (by rw [hml]; exact hls.1.symm) hown (hts _ hl) (hts _ hst) (hts _ hi) (hts _ hc) (by omega) (Nat.le_trans (by show ((r.map (bm_val D)).map fun v => v.category).sum + 13 ≤ 440; rw [bm_cats]; omega) (Nat.le_trans (Nat.le_add_left _ _) hRl)) (by dsimp only at h1; omega) (by dsimp only at h2; omega) hdg ?_
    have e : (if Int32.ofInt x < Int32.ofInt y then Int32.ofInt y else Int32.ofInt x) = Int32.ofInt (if x < y then y else x) := by
      by_cases q : x < y
      · rw [if_pos q, if_pos ((bm_ltI hx1 hy1).mpr q)]
      · rw [if_neg q, if_neg (fun z => q ((bm_ltI hx1 hy1).mp z))]
    rw [e]
    refine k H locs ls hlo hLo (bm_InSt.cons ?_ hSt.tl.tl) hHR hS hls
    show bm_InI (if x < y then y else x)
    split
    · exact hy1
    · exact hx1
  · cases he
theorem bm_s_mmin {index : Nat} (nx : Nat) (hdg : decode cc pc = .ok (.invokestatic index, 3)) (hl : Cond.methodLink own index Lib.Math.min.name ∈ bm_ALL) (hst : Cond.static Lib.Math.min.name ∈ bm_ALL) (hi : Cond.initialized "java/lang/Math" ∈ bm_ALL) (hc : Cond.code Lib.Math.min.name Lib.Math.min.code 2 (some .int) ∈ bm_ALL) (hn : nx = pc + 3 := by rfl) : bm_Sn K pg mi cc nL own nm ret pc (bm_G (bm_oMn nx)) := by
  subst hn
  refine bm_Sn.heapG (fun lo st w g u he hg => ?_)
  unfold bm_oMn at he
  split at he
  · rename_i y x r
    cases he
    refine ⟨bm_le.rf, ?_⟩
    intro D b0 mc ms d p l e R s m args below meth c H locs w0 Q ls hCx hBn hle hlo hLo hSt hHR hS hls k
    obtain ⟨hx, hb, hml, hown, hts, -, -, -, -, -, -, hRc, hRs, hRf, hRl, -⟩ := hCx
    have hw : bm_wt r ≤ 8 := Nat.le_of_ble_eq_true hg
    have hy1 : bm_InI y := hSt (.inl y) List.mem_cons_self
    have hx1 : bm_InI x := hSt (.inl x) (List.mem_cons_of_mem _ List.mem_cons_self)
    have h1 := hBn.1
    have h2 := hBn.2
    refine va_mmin hx hb (by rw [hml]; exact hls.1.symm) hown (hts _ hl) (hts _ hst) (hts _ hi) (hts _ hc) (by omega) (Nat.le_trans (by show ((r.map (bm_val D)).map fun v => v.category).sum + 13 ≤ 440; rw [bm_cats]; omega) (Nat.le_trans (Nat.le_add_left _ _) hRl)) (by dsimp only at h1; omega) (by dsimp only at h2; omega) hdg ?_
    have e : (if Int32.ofInt y < Int32.ofInt x then Int32.ofInt y else Int32.ofInt x) = Int32.ofInt (if y < x then y else x) := by
      by_cases q : y < x
      · rw [if_pos q, if_pos ((bm_ltI hy1 hx1).mpr q)]
      · rw [if_neg q, if_neg (fun z => q ((bm_ltI hy1 hx1).mp z))]
    rw [e]
    refine k H locs ls hlo hLo (bm_InSt.cons ?_ hSt.tl.tl) hHR hS hls
    show bm_InI (if y < x then y else x)
    split
    · exact hy1
    · exact hx1
  · cases he
end BMM

/-! ===== bytes ===== -/
theorem b8_lo : ∀ i : Nat, i < 32 → (255#32).getLsbD i = decide (i < 8) := by decide
theorem b8_255 (x : Int32) : x.toInt8.toInt32 &&& 255 = x &&& 255 := by
  rw [← Int32.toBitVec_inj, Int32.toBitVec_and, Int32.toBitVec_and]
  refine BitVec.eq_of_getLsbD_eq (fun i hi => ?_)
  rw [BitVec.getLsbD_and, BitVec.getLsbD_and]
  have e : (255 : Int32).toBitVec.getLsbD i = decide (i < 8) := b8_lo i hi
  rw [e]
  by_cases c : i < 8
  · have e2 : x.toInt8.toInt32.toBitVec.getLsbD i = x.toBitVec.getLsbD i := by
      rw [Int8.toBitVec_toInt32, Int32.toBitVec_toInt8, BitVec.getLsbD_signExtend, if_pos c, BitVec.getLsbD_signExtend, if_pos hi, decide_eq_true hi, decide_eq_true c, Bool.true_and, Bool.true_and]
    rw [e2]
  · simp [c]
theorem b8_x (x : Int32) : (Int32.ofInt ((Int32.ofInt ((Int32.ofInt x.toInt).toInt8.toInt32.toInt)).toInt8.toInt32.toInt) &&& Int32.ofInt 255).toInt = (x &&& 255).toInt := by
  rw [Int32.ofInt_toInt, Int32.ofInt_toInt, Int32.ofInt_toInt]
  have e : (Int32.ofInt 255 : Int32) = 255 := rfl
  rw [e, b8_255, b8_255]

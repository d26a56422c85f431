/-! ===== the law's loop ===== -/
section LL
variable {D : bm_D} {b t a L n : Nat} {xs : Nat → Int32} {p : Program} {l : Launch} {e : Env} {s : State} {m : MethodId} {args : Array Value} {below : List Frame} {meth : Method} {c : Code} {H : Heap} {locs : List Loc} {cells slots : Nat} {Q : State → Prop} {ls : Array Slot} {w : bm_W} {i : Int}
set_option maxHeartbeats 8000000 in
set_option maxRecDepth 100000 in
/-- one turn -/
theorem ll_turn (C : lz_C D p l s m args c a L xs) (hH : bm_HR D s.heap.size w H) (hS : va_S (bm_A s.heap.size) s.heap H locs) (hJ : lJ b t n w) (hK : lt_K b t w) (hl : lv_has ls 9 (lz_lo a b t i)) (hi : 0 ≤ i) (hL : i.toNat + 6 ≤ L) (hf : cells + n + 420 ≤ 601024) (hg : slots + 3 * n + 8100 ≤ 7293034) (kk : lz_K D p l e s m args below meth c a b t n i cells slots Q) : W p l e room_1 s m args below meth c H locs cells slots Q (F0 m 38 ls []) := by
  have hX := C.1
  have hx := hX.1.1
  have hb := hX.1.2.1
  refine lv_aload_n hx hb dL_law_38 rfl (lv_at hl 5 rfl) ?_
  refine lv_iload hx hb dL_law_39 (lv_at hl 0 rfl) ?_
  refine va_sld hx hb (A := bm_A s.heap.size) C.2.1 C.2.2.1 (fun q => by have := C.2.2.1; unfold bm_A at q; omega) hS (fun q => ?_) dL_law_41 ?_
  · have hL2 := C.2.2.2
    have e2 : (Int32.ofInt i).toNatClampNeg = i.toNat := Int32.toNatClampNeg_ofInt_of_le (by omega) (by omega)
    rcases q with q | q
    · have q2 := (bm_ltI (x := i) (y := 0) ⟨by omega, by omega⟩ bm_In0).mp q
      omega
    · rw [e2] at q
      omega
  refine lv_bipush (v := 31) hx hb dL_law_42 rfl ?_
  refine lv_iand hx hb dL_law_44 ?_
  have hv := q_and31 (xs (Int32.ofInt i).toNatClampNeg)
  generalize xs (Int32.ofInt i).toNatClampNeg &&& 31 = v at hv ⊢
  by_cases h18 : v.toInt ≤ 18
  · rcases (show v.toInt = 0 ∨ v.toInt = 1 ∨ v.toInt = 2 ∨ v.toInt = 3 ∨ v.toInt = 4 ∨ v.toInt = 5 ∨ v.toInt = 6 ∨ v.toInt = 7 ∨ v.toInt = 8 ∨ v.toInt = 9 ∨ v.toInt = 10 ∨ v.toInt = 11 ∨ v.toInt = 12 ∨ v.toInt = 13 ∨ v.toInt = 14 ∨ v.toInt = 15 ∨ v.toInt = 16 ∨ v.toInt = 17 ∨ v.toInt = 18 by omega) with h | h | h | h | h | h | h | h | h | h | h | h | h | h | h | h | h | h | h
    · refine lv_tableIn (off := 91) (tgt := 136) hx hb dL_law_45 (by rw [h]; decide) (by rw [h]; decide) (by rw [h]; rfl) rfl ?_
      exact lt_feed C hH hS hJ hK hl hi hL hf hg kk
    · refine lv_tableIn (off := 195) (tgt := 240) hx hb dL_law_45 (by rw [h]; decide) (by rw [h]; decide) (by rw [h]; rfl) rfl ?_
      exact lt_trim C hH hS hJ hK hl hi hL hf hg kk
    · refine lv_tableIn (off := 251) (tgt := 296) hx hb dL_law_45 (by rw [h]; decide) (by rw [h]; decide) (by rw [h]; rfl) rfl ?_
      exact lt_compile C hH hS hJ hK hl hi hL hf hg kk
    · refine lv_tableIn (off := 264) (tgt := 309) hx hb dL_law_45 (by rw [h]; decide) (by rw [h]; decide) (by rw [h]; rfl) rfl ?_
      exact lt_errorAt C hH hS hJ hK hl hi hL hf hg kk
    · refine lv_tableIn (off := 277) (tgt := 322) hx hb dL_law_45 (by rw [h]; decide) (by rw [h]; decide) (by rw [h]; rfl) rfl ?_
      exact lt_count C hH hS hJ hK hl hi hL hf hg kk
    · refine lv_tableIn (off := 333) (tgt := 378) hx hb dL_law_45 (by rw [h]; decide) (by rw [h]; decide) (by rw [h]; rfl) rfl ?_
      exact lt_fun C hH hS hJ hK hl hi hL hf hg kk
    · refine lv_tableIn (off := 401) (tgt := 446) hx hb dL_law_45 (by rw [h]; decide) (by rw [h]; decide) (by rw [h]; rfl) rfl ?_
      exact lt_call C hH hS hJ hK hl hi hL hf hg kk
    · refine lv_tableIn (off := 492) (tgt := 537) hx hb dL_law_45 (by rw [h]; decide) (by rw [h]; decide) (by rw [h]; rfl) rfl ?_
      exact lt_callChanged C hH hS hJ hK hl hi hL hf hg kk
    · refine lv_tableIn (off := 595) (tgt := 640) hx hb dL_law_45 (by rw [h]; decide) (by rw [h]; decide) (by rw [h]; rfl) rfl ?_
      exact lt_inputOf C hH hS hJ hK hl hi hL hf hg kk
    · refine lv_tableIn (off := 675) (tgt := 720) hx hb dL_law_45 (by rw [h]; decide) (by rw [h]; decide) (by rw [h]; rfl) rfl ?_
      exact lt_propose C hH hS hJ hK hl hi hL hf hg kk
    · refine lv_tableIn (off := 731) (tgt := 776) hx hb dL_law_45 (by rw [h]; decide) (by rw [h]; decide) (by rw [h]; rfl) rfl ?_
      exact lt_table C hH hS hJ hK hl hi hL hf hg kk
    · refine lv_tableIn (off := 799) (tgt := 844) hx hb dL_law_45 (by rw [h]; decide) (by rw [h]; decide) (by rw [h]; rfl) rfl ?_
      exact lt_caseOf C hH hS hJ hK hl hi hL hf hg kk
    · refine lv_tableIn (off := 879) (tgt := 924) hx hb dL_law_45 (by rw [h]; decide) (by rw [h]; decide) (by rw [h]; rfl) rfl ?_
      exact lt_holds C hH hS hJ hK hl hi hL hf hg kk
    · refine lv_tableIn (off := 954) (tgt := 999) hx hb dL_law_45 (by rw [h]; decide) (by rw [h]; decide) (by rw [h]; rfl) rfl ?_
      exact lt_taken C hH hS hJ hK hl hi hL hf hg kk
    · refine lv_tableIn (off := 1038) (tgt := 1083) hx hb dL_law_45 (by rw [h]; decide) (by rw [h]; decide) (by rw [h]; rfl) rfl ?_
      exact lt_finds C hH hS hJ hK hl hi hL hf hg kk
    · refine lv_tableIn (off := 1113) (tgt := 1158) hx hb dL_law_45 (by rw [h]; decide) (by rw [h]; decide) (by rw [h]; rfl) rfl ?_
      exact lt_score C hH hS hJ hK hl hi hL hf hg kk
    · refine lv_tableIn (off := 1190) (tgt := 1235) hx hb dL_law_45 (by rw [h]; decide) (by rw [h]; decide) (by rw [h]; rfl) rfl ?_
      exact lt_grow C hH hS hJ hK hl hi hL hf hg kk
    · refine lv_tableIn (off := 1246) (tgt := 1291) hx hb dL_law_45 (by rw [h]; decide) (by rw [h]; decide) (by rw [h]; rfl) rfl ?_
      exact lt_shorten C hH hS hJ hK hl hi hL hf hg kk
    · refine lv_tableIn (off := 1302) (tgt := 1347) hx hb dL_law_45 (by rw [h]; decide) (by rw [h]; decide) (by rw [h]; rfl) rfl ?_
      exact lt_digest C hH hS hJ hK hl hi hL hf hg kk
  · refine lv_tableOut (tgt := 1361) hx hb dL_law_45 (Or.inr (by omega)) rfl ?_
    exact kk H locs ls w n _ _ hH hS hJ hK hl (by omega) (by omega)
theorem ll_head (C : lz_C D p l s m args c a L xs) (hS : va_S (bm_A s.heap.size) s.heap H locs) (hl : lv_has ls 9 (lz_lo a b t i)) (hi : 0 ≤ i) (hi2 : i ≤ 3078) (fin : W p l e room_1 s m args below meth c H locs cells slots Q (F0 m 1367 ls [])) (next : i.toNat + 6 ≤ L → W p l e room_1 s m args below meth c H locs cells slots Q (F0 m 38 ls [])) : W p l e room_1 s m args below meth c H locs cells slots Q (F0 m 28 ls []) := by
  have hx := C.1.1.1
  have hb := C.1.1.2.1
  have hL2 := C.2.2.2
  refine lv_iload hx hb dL_law_28 (lv_at hl 0 rfl) ?_
  refine lv_aload_n hx hb dL_law_30 rfl (lv_at hl 5 rfl) ?_
  refine va_slen hx hb (A := bm_A s.heap.size) C.2.1 C.2.2.1 (fun q => by have := C.2.2.1; unfold bm_A at q; omega) hS dL_law_31 ?_
  refine lv_bipush (v := Int32.ofInt 6) hx hb dL_law_32 rfl ?_
  refine lv_isub hx hb dL_law_34 ?_
  have e1 : Int32.ofNat L - Int32.ofInt 6 = Int32.ofInt ((L : Int) - 6) := by rw [Int32.ofInt_sub, ← Int32.ofInt_eq_ofNat]
  rw [e1]
  have hlt := bm_ltI (x := (L : Int) - 6) (y := i) ⟨by omega, by omega⟩ ⟨by omega, by omega⟩
  refine lv_icmp_gt (tgt := 1367) hx hb dL_law_35 rfl (fun hz => fin) (fun hz => ?_)
  have hz2 : ¬ (L : Int) - 6 < i := fun q => hz (hlt.mpr q)
  exact next (by omega)
theorem ll_ar {x g k M : Nat} (h : x + k * (g + 1) ≤ M) : x + k ≤ M := by
  rw [Nat.mul_succ] at h
  generalize k * g = z at h
  omega
theorem ll_ar2 {y x g k M : Nat} (h : x + k * (g + 1) ≤ M) (h1 : y ≤ x + k) : y + k * g ≤ M := by
  rw [Nat.mul_succ] at h
  generalize k * g = z at h ⊢
  omega
theorem ll_ar0 {x y k g M : Nat} (h : x + y + k * g ≤ M) : x ≤ M := by
  generalize k * g = z at h
  omega
/-- all turns -/
theorem ll_loop (C : lz_C D p l s m args c a L xs) (fin : ∀ (H1 : Heap) (locs1 : List Loc) (ls1 : Array Slot) (cells1 slots1 : Nat), va_S (bm_A s.heap.size) s.heap H1 locs1 → cells1 ≤ 601024 → slots1 ≤ 7293034 → W p l e room_1 s m args below meth c H1 locs1 cells1 slots1 Q (F0 m 1367 ls1 [])) : ∀ (g : Nat) (H : Heap) (locs : List Loc) (ls : Array Slot) (w : bm_W) (n cells slots : Nat) (i : Int), bm_HR D s.heap.size w H → va_S (bm_A s.heap.size) s.heap H locs → lJ b t n w → lt_K b t w → lv_has ls 9 (lz_lo a b t i) → 0 ≤ i → (L : Int) - i < 6 * (g : Int) + 6 → i ≤ 3078 → cells + n + 420 * g ≤ 601024 → slots + 3 * n + 8100 * g ≤ 7293034 → W p l e room_1 s m args below meth c H locs cells slots Q (F0 m 28 ls []) := by
  intro g
  have hL2 := C.2.2.2
  induction g with
  | zero =>
    intro H locs ls w n cells slots i hH hS hJ hK hl hi hg hi2 hc hs
    exact ll_head C hS hl hi hi2 (fin H locs ls cells slots hS (ll_ar0 hc) (ll_ar0 hs)) (fun q => by omega)
  | succ g ih =>
    intro H locs ls w n cells slots i hH hS hJ hK hl hi hg hi2 hc hs
    refine ll_head C hS hl hi hi2 (fin H locs ls cells slots hS (ll_ar0 hc) (ll_ar0 hs)) (fun q => ?_)
    refine ll_turn C hH hS hJ hK hl hi q (ll_ar hc) (ll_ar hs) (fun H1 locs1 ls1 w1 n1 cells1 slots1 hH1 hS1 hJ1 hK1 hl1 hc1 hs1 => ?_)
    have hx := C.1.1.1
    have hb := C.1.1.2.1
    refine lv_iinc (k := 0) (v := Int32.ofInt (i + 6)) (lv' := lz_lo a b t (i + 6)) hx hb dL_law_1361 hl1 rfl (by rw [Int32.ofInt_add]) (by decide) rfl (fun ls2 hl2 => ?_)
    refine lv_goto (tgt := 28) hx hb dL_law_1364 rfl ?_
    exact ih H1 locs1 ls2 w1 n1 cells1 slots1 (i + 6) hH1 hS1 hJ1 hK1 hl2 (by omega) (by omega) (by omega) (ll_ar2 hc hc1) (ll_ar2 hs hs1)
end LL

/-! ===== the law's body ===== -/
theorem wZ_28 : Jvm.Cond.classLink "CaseTablesLaw" (8 : Nat) "CaseTables" ∈ bm_ALL := bm_moA (bm_ch1 (List.mem_of_getElem? (i := 28) (by decide +kernel))) rfl
theorem wZ_29 : Jvm.Cond.instantiable "CaseTables" (8 : Nat) ∈ bm_ALL := bm_moA (bm_ch1 (List.mem_of_getElem? (i := 29) (by decide +kernel))) rfl
theorem wZ_1 : Jvm.Cond.initialized "CaseTables" ∈ bm_ALL := bm_moA (bm_ch1 (List.mem_of_getElem? (i := 1) (by decide +kernel))) rfl
theorem wZ_1174 : Jvm.Cond.classLink "CaseTablesLaw" (73 : Nat) "CaseTablesModel" ∈ bm_ALL := bm_moA (bm_ch5 (List.mem_of_getElem? (i := 214) (by decide +kernel))) rfl
theorem wZ_1175 : Jvm.Cond.instantiable "CaseTablesModel" (43 : Nat) ∈ bm_ALL := bm_moA (bm_ch5 (List.mem_of_getElem? (i := 215) (by decide +kernel))) rfl
theorem wZ_13 : Jvm.Cond.initialized "CaseTablesModel" ∈ bm_ALL := bm_moA (bm_ch1 (List.mem_of_getElem? (i := 13) (by decide +kernel))) rfl
theorem wZ_30 : Jvm.Cond.methodLink "CaseTablesLaw" (72 : Nat) ({ cls := "CaseTables", name := "<init>", desc := "()V" } : Jvm.MethodName) ∈ bm_ALL := bm_moA (bm_ch1 (List.mem_of_getElem? (i := 30) (by decide +kernel))) rfl
theorem wZ_31 : Jvm.Cond.instanceMethod ({ cls := "CaseTables", name := "<init>", desc := "()V" } : Jvm.MethodName) ∈ bm_ALL := bm_moA (bm_ch1 (List.mem_of_getElem? (i := 31) (by decide +kernel))) rfl
theorem wZ_1176 : Jvm.Cond.methodLink "CaseTablesLaw" (75 : Nat) ({ cls := "CaseTablesModel", name := "<init>", desc := "()V" } : Jvm.MethodName) ∈ bm_ALL := bm_moA (bm_ch5 (List.mem_of_getElem? (i := 216) (by decide +kernel))) rfl
theorem wZ_1177 : Jvm.Cond.instanceMethod ({ cls := "CaseTablesModel", name := "<init>", desc := "()V" } : Jvm.MethodName) ∈ bm_ALL := bm_moA (bm_ch5 (List.mem_of_getElem? (i := 217) (by decide +kernel))) rfl
theorem wZ_93 : Jvm.Cond.arrayClass Jvm.ClassFile.FieldType.long ∈ bm_ALL := bm_moA (bm_ch1 (List.mem_of_getElem? (i := 93) (by decide +kernel))) rfl
theorem wZ_1861 : Jvm.Cond.arrayClass Jvm.ClassFile.FieldType.double ∈ bm_ALL := bm_moA (bm_ch8 (List.mem_of_getElem? (i := 181) (by decide +kernel))) rfl
theorem st_ty11 : ∀ k, k < 8 → bm_ty 11 k = .int ∨ bm_ty 11 k = .boolean ∨ bm_ty 11 k = .long ∨ bm_fc (bm_ty 11 k) = 2 := by decide
theorem st_ty12 : ∀ k, k < 43 → bm_ty 12 k = .int ∨ bm_ty 12 k = .boolean ∨ bm_ty 12 k = .long ∨ bm_fc (bm_ty 12 k) = 2 := by decide
/-- a world with nothing in it -/
def st_w0 (z : Nat) : bm_W := (fun _ _ => 0, fun _ _ => 0, fun _ _ => none, fun _ => 99, fun _ => 0, z, 0)
theorem st_HR (D : bm_D) (H : Heap) : bm_HR D H.size (st_w0 H.size) H := by
  refine ⟨rfl, fun a k => ⟨bm_In0, bm_InL0⟩, fun a => ?_, fun a ha => ?_, fun a _ => rfl⟩
  · show 0 < 2147483648
    omega
  · exact absurd ha (by show ¬ (99 : Nat) < 90; omega)
section SB
variable {D : bm_D} {p : Program} {l : Launch} {e : Env} {s : State} {m : MethodId} {args : Array Value} {below : List Frame} {meth : Method} {c : Code} {a L : Nat} {xs : Nat → Int32} {Q : State → Prop} {ls : Array Slot}
set_option maxHeartbeats 4000000 in
set_option maxRecDepth 100000 in
theorem st_body (C : lz_C D p l s m args c a L xs) (hl : lv_has ls 9 [(0, .ref a)])
    (fin : ∀ (H1 : Heap) (locs1 : List Loc) (ls1 : Array Slot) (cells1 slots1 : Nat), va_S (bm_A s.heap.size) s.heap H1 locs1 → cells1 ≤ 601024 → slots1 ≤ 7293034 → W p l e room_1 s m args below meth c H1 locs1 cells1 slots1 Q (F0 m 1367 ls1 [])) : W p l e room_1 s m args below meth c s.heap [] 0 0 Q (F0 m 0 ls []) := by
  have hX := C.1
  have hx := hX.1.1
  have hb := hX.1.2.1
  have hL2 := C.2.2.2
  have hS : va_S (bm_A s.heap.size) s.heap s.heap [] := va_S.rf
  obtain ⟨b, eb⟩ : ∃ b : Nat, b = s.heap.size := ⟨_, rfl⟩
  have hH := st_HR D s.heap
  have z0 : bm_sz (st_w0 s.heap.size) = b := eb.symm
  -- the class
  refine lz_new hX dL_law_0 bm_cl_11 wZ_28 wZ_29 wZ_1 st_ty11 hH hS ⟨by show 0 + 1 ≤ 601024; omega, by show 0 + 8 ≤ 7293034; omega⟩ (fun H1 hH1 hS1 => ?_)
  rw [z0]
  refine lv_dup hx hb dL_law_3 rfl ?_
  refine W.eq (g2 := F0 m 4 ls ((([] : List bm_V).reverse ++ bm_r (some b) :: [bm_r (some b)]).map (bm_val D))) rfl ?_
  refine lz_callI (as := []) (rest := [bm_r (some b)]) (mc := 124) (ms := 9662) hX dL_law_4 bm_cw_135 wZ_30 wZ_31 rfl rfl rfl bm_InSt_nil (mk_X11 (d := 1296) (w := bm_nw (st_w0 s.heap.size) 11 0 8) (by rw [bm_nw_sz, z0]) (by rw [bm_nw_kt, if_pos z0.symm])) (fun r w' q => ⟨q.1, ⟨?_, ?_⟩⟩) hH1 hS1 hl.1 (Nat.le_of_ble_eq_true rfl) ⟨by show 0 + 1 + 124 ≤ 601024; omega, by show 0 + 8 + 9662 ≤ 7293034; omega⟩ (fun w1 q H2 locs2 hH2 hS2 => ?_)
  · rw [q.2.1, bm_nw_sz, z0]; omega
  · rw [q.2.2.1]; exact Nat.le_refl _
  obtain ⟨-, z1, -, S1⟩ := q
  refine W.eq (g2 := F0 m 7 ls [.ref b]) rfl ?_
  refine lv_astore_n (lv' := [(1, .ref b), (0, .ref a)]) hx hb dL_law_7 rfl hl (by decide) rfl (fun ls1 hl1 => ?_)
  -- the model
  refine lz_new hX dL_law_8 bm_cl_12 wZ_1174 wZ_1175 wZ_13 st_ty12 hH2 hS2 ⟨by show 0 + 1 + 124 + 1 ≤ 601024; omega, by show 0 + 8 + 9662 + 43 ≤ 7293034; omega⟩ (fun H3 hH3 hS3 => ?_)
  rw [z1]
  refine lv_dup hx hb dL_law_11 rfl ?_
  refine W.eq (g2 := F0 m 12 ls1 ((([] : List bm_V).reverse ++ bm_r (some (b + 125)) :: [bm_r (some (b + 125))]).map (bm_val D))) rfl ?_
  refine lz_callI (as := []) (rest := [bm_r (some (b + 125))]) (mc := 31) (ms := 28410) hX dL_law_12 bm_cw_163 wZ_1176 wZ_1177 rfl rfl rfl bm_InSt_nil (mk_X12 (d := 1300) (w := bm_nw w1 12 0 43) (by rw [bm_nw_sz, z1]) (by rw [bm_nw_kt, if_pos z1.symm]) (fun k => by rw [bm_nw_gi, if_pos z1.symm])) (fun r w' q => ⟨q.1, q.2.2.2.2.1.2.1, q.2.2.2.2.1.2.2.2⟩) hH3 hS3 hl1.1 (Nat.le_of_ble_eq_true rfl) ⟨by show 0 + 1 + 124 + 1 + 31 ≤ 601024; omega, by show 0 + 8 + 9662 + 43 + 28410 ≤ 7293034; omega⟩ (fun w2 q H4 locs4 hH4 hS4 => ?_)
  obtain ⟨-, M2, z2, N2, G2⟩ := q
  refine W.eq (g2 := F0 m 15 ls1 [.ref (b + 125)]) rfl ?_
  refine lv_astore_n (lv' := [(2, .ref (b + 125)), (1, .ref b), (0, .ref a)]) hx hb dL_law_15 rfl hl1 (by decide) rfl (fun ls2 hl2 => ?_)
  -- what is told
  refine lv_iconst (v := Int32.ofInt 1) hx hb dL_law_16 rfl ?_
  refine lz_newaL hX dL_law_17 wZ_93 hH4 hS4 ⟨by show 0 + 1 + 124 + 1 + 31 + 1 ≤ 601024; omega, by show 0 + 8 + 9662 + 43 + 28410 + 1 ≤ 7293034; omega⟩ (fun H5 hH5 hS5 => ?_)
  rw [z2]
  refine lv_astore_n (lv' := [(3, .ref (b + 157)), (2, .ref (b + 125)), (1, .ref b), (0, .ref a)]) hx hb dL_law_19 rfl hl2 (by decide) rfl (fun ls3 hl3 => ?_)
  refine lv_iconst (v := Int32.ofInt 1) hx hb dL_law_20 rfl ?_
  refine lz_newaD hX dL_law_21 wZ_1861 hH5 hS5 ⟨by show 0 + 1 + 124 + 1 + 31 + 1 + 1 ≤ 601024; omega, by show 0 + 8 + 9662 + 43 + 28410 + 1 + 1 ≤ 7293034; omega⟩ (fun H6 hH6 hS6 => ?_)
  have z3 : bm_sz (bm_nw w2 22 1 1) = b + 158 := by rw [bm_nw_sz, z2]
  rw [z3]
  refine lv_astore (lv' := [(4, .ref (b + 158)), (3, .ref (b + 157)), (2, .ref (b + 125)), (1, .ref b), (0, .ref a)]) hx hb dL_law_23 hl3 (by decide) rfl (fun ls4 hl4 => ?_)
  refine lv_iconst (v := Int32.ofInt 0) hx hb dL_law_25 rfl ?_
  refine lv_istore (lv' := lz_lo a b (b + 3) 0) hx hb dL_law_26 hl4 (by decide) rfl (fun ls5 hl5 => ?_)
  obtain ⟨J, K⟩ := be_J S1 z1 M2 z2 N2 G2
  exact ll_loop C fin 512 H6 locs4 ls5 _ 0 _ _ 0 hH6 hS6 J K hl5 (Int.le_refl 0) (by omega) (by omega) (Nat.le_of_ble_eq_true rfl) (Nat.le_of_ble_eq_true rfl)
end SB

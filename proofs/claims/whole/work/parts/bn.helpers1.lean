/-! ===== the law's helpers (laid by gen_law.py) ===== -/
theorem lo_table : lh_ok yL_table cL_table 5 [(0, 10, 13, 24)] 4 := ⟨wL_1092, wL_0, ⟨by decide +kernel, by decide +kernel⟩, by decide +kernel, by decide, wL_1091⟩
set_option maxHeartbeats 4000000 in
set_option maxRecDepth 100000 in
theorem lh_table {D : bm_D} {b0 d x o mc ms : Nat} {p1 p2 : Int} {w : bm_W} {F : bm_Rt → bm_W → Prop} (l : Launch) (hl : l.stackTraces = false) (hx : bm_kt w x = 11) (hin : bm_InSt [bm_i p1, bm_i p2]) (hcall : bm_Call bm_pg d y_X11_table (bm_r (some x) :: [bm_i p1, bm_i p2]) w F) (hF : lh_H 1 22 o mc ms w F "java/lang/IndexOutOfBoundsException" "" false) : Met l yL_table (lh_ws yL_table cL_table 5 [(0, 10, 13, 24)]) (bm_rm (d + 1) mc ms) (lz_Pc D b0 [bm_r (some x), bm_i p1, bm_i p2, bm_r (some o)] w) (bm_Qc D b0 (lh_G lh_i w o F "java/lang/IndexOutOfBoundsException" "")) mc ms (bm_A b0) := by
  refine bm_met_of (XC := bm_XC D b0 (lh_G lh_i w o F "java/lang/IndexOutOfBoundsException" "")) (vx_ofWH (cc := cL_table) (maxL := 5) (ret := some .int) (hh := [(0, 10, 13, 24)]) (ws' := bm_ALL) (by decide) rfl ?_) (fun E s t q => by obtain ⟨⟨w3, q1, -⟩, -⟩ := q; exact q1.no)
  intro p e s m args below meth c s₁ B hml hPc
  obtain ⟨⟨rfl, h1, h2, h3, h4⟩, hNc⟩ := hPc
  have hat := atoms_spec (ws := lh_ws yL_table cL_table 5 [(0, 10, 13, 24)]) B.pre
  have hX : lz_X D b0 d p l (headSpec (lh_ws yL_table cL_table 5 [(0, 10, 13, 24)]) (bm_rm (d + 1) mc ms)).room s m ([bm_r (some x), bm_i p1, bm_i p2, bm_r (some o)].map (bm_val D)).toArray c cL_table 5 := ⟨⟨B.exec, B.bytes, hml, findClass_of_methodNamed B.named, fun w hw => hat w (List.mem_cons_of_mem _ hw)⟩, h3, h4, hNc, h1, Nat.le_refl _, Nat.le_of_eq (by show _ = 40 * (d + 1) + 400; omega), hl⟩
  have htab := vx_table (x := yL_table) B (hat _ List.mem_cons_self)
  have hx1 := hX.1.1
  have hb := hX.1.2.1
  have hts := hX.1.2.2.2.2
  have hlocks := B.notSynchronized
  have hr := B.returns
  have hS : va_S (bm_A b0) s.heap s.heap [] := va_S.rf
  refine lz_entry (Nat.le_of_ble_eq_true rfl) (fun ls hl => ?_)
  have hl : lv_has ls 5 [(0, .ref x), (1, .int (Int32.ofInt p1)), (2, .int (Int32.ofInt p2)), (3, .ref o)] := hl
  refine lv_aload_n hx1 hb dL_table_0 rfl (lv_at hl 3 rfl) ?_
  refine lv_iconst (v := Int32.ofInt 0) hx1 hb dL_table_1 rfl ?_
  refine lv_aload_n hx1 hb dL_table_2 rfl (lv_at hl 0 rfl) ?_
  refine lv_iload_n hx1 hb dL_table_3 rfl (lv_at hl 1 rfl) ?_
  refine lv_iload_n hx1 hb dL_table_4 rfl (lv_at hl 2 rfl) ?_
  refine W.eq (g2 := F0 m 5 ls (([bm_i p1, bm_i p2].reverse ++ bm_r (some x) :: [bm_i 0, bm_r (some o)]).map (bm_val D))) rfl ?_
  refine lz_callV (as := [bm_i p1, bm_i p2]) (rest := [bm_i 0, bm_r (some o)]) hX dL_table_5 bm_cw_146 bm_cl_11 wL_1093 wL_1094 wL_1095 hx rfl hin hcall (fun r w' q => (hF r w' q).1) h2 hS hl.1 (Nat.le_of_ble_eq_true rfl) ⟨Nat.le_of_eq (Nat.zero_add _), Nat.le_of_eq (Nat.zero_add _)⟩ (fun v w' hv H1 locs1 hH1 hS1 hi1 => ?_) (fun E w' hv H1 locs1 q ce hH1 hz1 hS1 hce hcv hcl => ?_)
  · obtain ⟨-, ht, hc⟩ := hF _ _ hv
    obtain ⟨x1, rfl⟩ := bm_typ1 ht
    have ho : bm_kt w' o = 22 ∧ bm_kn w' o = 1 := by
      rcases hc with ⟨_, _, h⟩ | hc | ⟨hc, _⟩
      · exact h
      · cases hc
      · cases hc
    have hxi := hi1 _ rfl
    refine W.eq (g2 := F0 m 8 ls [.int (Int32.ofInt x1), .int (Int32.ofInt 0), .ref o]) rfl ?_
    refine lv_i2l (v := Int64.ofInt x1) hx1 hb dL_table_8 (lz_i2l hxi) ?_
    refine lz_last hX ho.1 ho.2 (bm_I2L hxi) dL_table_9 hH1 hS1 (fun H2 locs2 hH2 hS2 => ?_)
    refine lv_goto (tgt := 17) hx1 hb dL_table_10 rfl ?_
    refine lv_iconst (v := Int32.ofInt 0) hx1 hb dL_table_17 rfl ?_
    exact lz_ret hX hr hlocks dL_table_18 bm_In0 (Or.inl ⟨_, w', hv, rfl, rfl⟩) hH2 hS2 (Nat.le_of_eq (Nat.zero_add _)) (Nat.le_of_eq (Nat.zero_add _))
  · have hsz : bm_sz w ≤ H1.size := by rw [← h2.1]; exact hz1
    rcases (hF _ _ hv).2.2 with ⟨v', hv', -⟩ | hE | ⟨hE, hb2⟩
    · cases hv'
    · cases hE
      refine vx_catch hX.1.2.2.2.1 [] ⟨0, 10, 13, 24⟩ [] htab (fun z hz => by cases hz) rfl (by decide) (hts _ wL_1028) (bm_nw_use rfl (hX.2.2.1.2.2.2.2.2.2.2.2 _ wM_819)) hce hcv hcl ?_
      refine lv_astore hx1 hb dL_table_13 hl (by decide) rfl (fun ls1 hl1 => ?_)
      refine lv_iconst (v := Int32.ofInt 1) hx1 hb dL_table_15 rfl ?_
      exact lz_ret hX hr hlocks dL_table_16 bm_In1 (Or.inr (Or.inl ⟨w', H1.size, hsz, hv, rfl, rfl⟩)) (lz_HX hH1) hS1 (Nat.le_of_eq (Nat.zero_add _)) (Nat.le_of_eq (Nat.zero_add _))
    · cases hb2
theorem lo_caseOf : lh_ok yL_caseOf cL_caseOf 6 [(0, 12, 15, 24)] 5 := ⟨wL_1103, wL_0, ⟨by decide +kernel, by decide +kernel⟩, by decide +kernel, by decide, wL_1102⟩
set_option maxHeartbeats 4000000 in
set_option maxRecDepth 100000 in
theorem lh_caseOf {D : bm_D} {b0 d x o mc ms : Nat} {p1 p2 p3 : Int} {w : bm_W} {F : bm_Rt → bm_W → Prop} (l : Launch) (hl : l.stackTraces = false) (hx : bm_kt w x = 11) (hin : bm_InSt [bm_i p1, bm_i p2, bm_i p3]) (hcall : bm_Call bm_pg d y_X11_caseOf (bm_r (some x) :: [bm_i p1, bm_i p2, bm_i p3]) w F) (hF : lh_H 1 22 o mc ms w F "java/lang/IndexOutOfBoundsException" "" false) : Met l yL_caseOf (lh_ws yL_caseOf cL_caseOf 6 [(0, 12, 15, 24)]) (bm_rm (d + 1) mc ms) (lz_Pc D b0 [bm_r (some x), bm_i p1, bm_i p2, bm_i p3, bm_r (some o)] w) (bm_Qc D b0 (lh_G lh_i w o F "java/lang/IndexOutOfBoundsException" "")) mc ms (bm_A b0) := by
  refine bm_met_of (XC := bm_XC D b0 (lh_G lh_i w o F "java/lang/IndexOutOfBoundsException" "")) (vx_ofWH (cc := cL_caseOf) (maxL := 6) (ret := some .int) (hh := [(0, 12, 15, 24)]) (ws' := bm_ALL) (by decide) rfl ?_) (fun E s t q => by obtain ⟨⟨w3, q1, -⟩, -⟩ := q; exact q1.no)
  intro p e s m args below meth c s₁ B hml hPc
  obtain ⟨⟨rfl, h1, h2, h3, h4⟩, hNc⟩ := hPc
  have hat := atoms_spec (ws := lh_ws yL_caseOf cL_caseOf 6 [(0, 12, 15, 24)]) B.pre
  have hX : lz_X D b0 d p l (headSpec (lh_ws yL_caseOf cL_caseOf 6 [(0, 12, 15, 24)]) (bm_rm (d + 1) mc ms)).room s m ([bm_r (some x), bm_i p1, bm_i p2, bm_i p3, bm_r (some o)].map (bm_val D)).toArray c cL_caseOf 6 := ⟨⟨B.exec, B.bytes, hml, findClass_of_methodNamed B.named, fun w hw => hat w (List.mem_cons_of_mem _ hw)⟩, h3, h4, hNc, h1, Nat.le_refl _, Nat.le_of_eq (by show _ = 40 * (d + 1) + 400; omega), hl⟩
  have htab := vx_table (x := yL_caseOf) B (hat _ List.mem_cons_self)
  have hx1 := hX.1.1
  have hb := hX.1.2.1
  have hts := hX.1.2.2.2.2
  have hlocks := B.notSynchronized
  have hr := B.returns
  have hS : va_S (bm_A b0) s.heap s.heap [] := va_S.rf
  refine lz_entry (Nat.le_of_ble_eq_true rfl) (fun ls hl => ?_)
  have hl : lv_has ls 6 [(0, .ref x), (1, .int (Int32.ofInt p1)), (2, .int (Int32.ofInt p2)), (3, .int (Int32.ofInt p3)), (4, .ref o)] := hl
  refine lv_aload hx1 hb dL_caseOf_0 (lv_at hl 4 rfl) ?_
  refine lv_iconst (v := Int32.ofInt 0) hx1 hb dL_caseOf_2 rfl ?_
  refine lv_aload_n hx1 hb dL_caseOf_3 rfl (lv_at hl 0 rfl) ?_
  refine lv_iload_n hx1 hb dL_caseOf_4 rfl (lv_at hl 1 rfl) ?_
  refine lv_iload_n hx1 hb dL_caseOf_5 rfl (lv_at hl 2 rfl) ?_
  refine lv_iload_n hx1 hb dL_caseOf_6 rfl (lv_at hl 3 rfl) ?_
  refine W.eq (g2 := F0 m 7 ls (([bm_i p1, bm_i p2, bm_i p3].reverse ++ bm_r (some x) :: [bm_i 0, bm_r (some o)]).map (bm_val D))) rfl ?_
  refine lz_callV (as := [bm_i p1, bm_i p2, bm_i p3]) (rest := [bm_i 0, bm_r (some o)]) hX dL_caseOf_7 bm_cw_147 bm_cl_11 wL_1104 wL_1105 wL_1106 hx rfl hin hcall (fun r w' q => (hF r w' q).1) h2 hS hl.1 (Nat.le_of_ble_eq_true rfl) ⟨Nat.le_of_eq (Nat.zero_add _), Nat.le_of_eq (Nat.zero_add _)⟩ (fun v w' hv H1 locs1 hH1 hS1 hi1 => ?_) (fun E w' hv H1 locs1 q ce hH1 hz1 hS1 hce hcv hcl => ?_)
  · obtain ⟨-, ht, hc⟩ := hF _ _ hv
    obtain ⟨x1, rfl⟩ := bm_typ1 ht
    have ho : bm_kt w' o = 22 ∧ bm_kn w' o = 1 := by
      rcases hc with ⟨_, _, h⟩ | hc | ⟨hc, _⟩
      · exact h
      · cases hc
      · cases hc
    have hxi := hi1 _ rfl
    refine W.eq (g2 := F0 m 10 ls [.int (Int32.ofInt x1), .int (Int32.ofInt 0), .ref o]) rfl ?_
    refine lv_i2l (v := Int64.ofInt x1) hx1 hb dL_caseOf_10 (lz_i2l hxi) ?_
    refine lz_last hX ho.1 ho.2 (bm_I2L hxi) dL_caseOf_11 hH1 hS1 (fun H2 locs2 hH2 hS2 => ?_)
    refine lv_goto (tgt := 19) hx1 hb dL_caseOf_12 rfl ?_
    refine lv_iconst (v := Int32.ofInt 0) hx1 hb dL_caseOf_19 rfl ?_
    exact lz_ret hX hr hlocks dL_caseOf_20 bm_In0 (Or.inl ⟨_, w', hv, rfl, rfl⟩) hH2 hS2 (Nat.le_of_eq (Nat.zero_add _)) (Nat.le_of_eq (Nat.zero_add _))
  · have hsz : bm_sz w ≤ H1.size := by rw [← h2.1]; exact hz1
    rcases (hF _ _ hv).2.2 with ⟨v', hv', -⟩ | hE | ⟨hE, hb2⟩
    · cases hv'
    · cases hE
      refine vx_catch hX.1.2.2.2.1 [] ⟨0, 12, 15, 24⟩ [] htab (fun z hz => by cases hz) rfl (by decide) (hts _ wL_1028) (bm_nw_use rfl (hX.2.2.1.2.2.2.2.2.2.2.2 _ wM_819)) hce hcv hcl ?_
      refine lv_astore hx1 hb dL_caseOf_15 hl (by decide) rfl (fun ls1 hl1 => ?_)
      refine lv_iconst (v := Int32.ofInt 1) hx1 hb dL_caseOf_17 rfl ?_
      exact lz_ret hX hr hlocks dL_caseOf_18 bm_In1 (Or.inr (Or.inl ⟨w', H1.size, hsz, hv, rfl, rfl⟩)) (lz_HX hH1) hS1 (Nat.le_of_eq (Nat.zero_add _)) (Nat.le_of_eq (Nat.zero_add _))
    · cases hb2
theorem lo_holds : lh_ok yL_holds cL_holds 5 [(0, 17, 20, 24)] 4 := ⟨wL_1110, wL_0, ⟨by decide +kernel, by decide +kernel⟩, by decide +kernel, by decide, wL_1109⟩
set_option maxHeartbeats 4000000 in
set_option maxRecDepth 100000 in
theorem lh_holds {D : bm_D} {b0 d x o mc ms : Nat} {p1 p2 : Int} {w : bm_W} {F : bm_Rt → bm_W → Prop} (l : Launch) (hl : l.stackTraces = false) (hx : bm_kt w x = 11) (hin : bm_InSt [bm_i p1, bm_i p2]) (hcall : bm_Call bm_pg d y_X11_holds (bm_r (some x) :: [bm_i p1, bm_i p2]) w F) (hF : lh_H 1 22 o mc ms w F "java/lang/IndexOutOfBoundsException" "" false) : Met l yL_holds (lh_ws yL_holds cL_holds 5 [(0, 17, 20, 24)]) (bm_rm (d + 1) mc ms) (lz_Pc D b0 [bm_r (some x), bm_i p1, bm_i p2, bm_r (some o)] w) (bm_Qc D b0 (lh_G lh_b w o F "java/lang/IndexOutOfBoundsException" "")) mc ms (bm_A b0) := by
  refine bm_met_of (XC := bm_XC D b0 (lh_G lh_b w o F "java/lang/IndexOutOfBoundsException" "")) (vx_ofWH (cc := cL_holds) (maxL := 5) (ret := some .int) (hh := [(0, 17, 20, 24)]) (ws' := bm_ALL) (by decide) rfl ?_) (fun E s t q => by obtain ⟨⟨w3, q1, -⟩, -⟩ := q; exact q1.no)
  intro p e s m args below meth c s₁ B hml hPc
  obtain ⟨⟨rfl, h1, h2, h3, h4⟩, hNc⟩ := hPc
  have hat := atoms_spec (ws := lh_ws yL_holds cL_holds 5 [(0, 17, 20, 24)]) B.pre
  have hX : lz_X D b0 d p l (headSpec (lh_ws yL_holds cL_holds 5 [(0, 17, 20, 24)]) (bm_rm (d + 1) mc ms)).room s m ([bm_r (some x), bm_i p1, bm_i p2, bm_r (some o)].map (bm_val D)).toArray c cL_holds 5 := ⟨⟨B.exec, B.bytes, hml, findClass_of_methodNamed B.named, fun w hw => hat w (List.mem_cons_of_mem _ hw)⟩, h3, h4, hNc, h1, Nat.le_refl _, Nat.le_of_eq (by show _ = 40 * (d + 1) + 400; omega), hl⟩
  have htab := vx_table (x := yL_holds) B (hat _ List.mem_cons_self)
  have hx1 := hX.1.1
  have hb := hX.1.2.1
  have hts := hX.1.2.2.2.2
  have hlocks := B.notSynchronized
  have hr := B.returns
  have hS : va_S (bm_A b0) s.heap s.heap [] := va_S.rf
  refine lz_entry (Nat.le_of_ble_eq_true rfl) (fun ls hl => ?_)
  have hl : lv_has ls 5 [(0, .ref x), (1, .int (Int32.ofInt p1)), (2, .int (Int32.ofInt p2)), (3, .ref o)] := hl
  refine lv_aload_n hx1 hb dL_holds_0 rfl (lv_at hl 3 rfl) ?_
  refine lv_iconst (v := Int32.ofInt 0) hx1 hb dL_holds_1 rfl ?_
  refine lv_aload_n hx1 hb dL_holds_2 rfl (lv_at hl 0 rfl) ?_
  refine lv_iload_n hx1 hb dL_holds_3 rfl (lv_at hl 1 rfl) ?_
  refine lv_iload_n hx1 hb dL_holds_4 rfl (lv_at hl 2 rfl) ?_
  refine W.eq (g2 := F0 m 5 ls (([bm_i p1, bm_i p2].reverse ++ bm_r (some x) :: [bm_i 0, bm_r (some o)]).map (bm_val D))) rfl ?_
  refine lz_callV (as := [bm_i p1, bm_i p2]) (rest := [bm_i 0, bm_r (some o)]) hX dL_holds_5 bm_cw_148 bm_cl_11 wL_1111 wL_1112 wL_1113 hx rfl hin hcall (fun r w' q => (hF r w' q).1) h2 hS hl.1 (Nat.le_of_ble_eq_true rfl) ⟨Nat.le_of_eq (Nat.zero_add _), Nat.le_of_eq (Nat.zero_add _)⟩ (fun v w' hv H1 locs1 hH1 hS1 hi1 => ?_) (fun E w' hv H1 locs1 q ce hH1 hz1 hS1 hce hcv hcl => ?_)
  · obtain ⟨-, ht, hc⟩ := hF _ _ hv
    obtain ⟨x1, rfl⟩ := bm_typ1 ht
    have ho : bm_kt w' o = 22 ∧ bm_kn w' o = 1 := by
      rcases hc with ⟨_, _, h⟩ | hc | ⟨hc, _⟩
      · exact h
      · cases hc
      · cases hc
    have hxi := hi1 _ rfl
    refine W.eq (g2 := F0 m 8 ls [.int (Int32.ofInt x1), .int (Int32.ofInt 0), .ref o]) rfl ?_
    refine lv_if_eq (tgt := 15) hx1 hb dL_holds_8 rfl (fun hz => ?_) (fun hz => ?_)
    · have e : lh_b (bm_i x1) = 0 := if_pos ((lz_i0 hxi).mp hz)
      refine lv_lconst (v := Int64.ofInt (lh_b (bm_i x1))) hx1 hb dL_holds_15 (by rw [e]; rfl) ?_
      refine lz_last hX ho.1 ho.2 (by rw [e]; exact bm_InL0) dL_holds_16 hH1 hS1 (fun H2 locs2 hH2 hS2 => ?_)
      refine lv_goto (tgt := 24) hx1 hb dL_holds_17 rfl ?_
      refine lv_iconst (v := Int32.ofInt 0) hx1 hb dL_holds_24 rfl ?_
      exact lz_ret hX hr hlocks dL_holds_25 bm_In0 (Or.inl ⟨_, w', hv, rfl, rfl⟩) hH2 hS2 (Nat.le_of_eq (Nat.zero_add _)) (Nat.le_of_eq (Nat.zero_add _))
    · have e : lh_b (bm_i x1) = 1 := if_neg (fun y => hz ((lz_i0 hxi).mpr y))
      refine lv_lconst (v := Int64.ofInt (lh_b (bm_i x1))) hx1 hb dL_holds_11 (by rw [e]; rfl) ?_
      refine lv_goto (tgt := 16) hx1 hb dL_holds_12 rfl ?_
      refine lz_last hX ho.1 ho.2 (by rw [e]; exact bm_InL1) dL_holds_16 hH1 hS1 (fun H2 locs2 hH2 hS2 => ?_)
      refine lv_goto (tgt := 24) hx1 hb dL_holds_17 rfl ?_
      refine lv_iconst (v := Int32.ofInt 0) hx1 hb dL_holds_24 rfl ?_
      exact lz_ret hX hr hlocks dL_holds_25 bm_In0 (Or.inl ⟨_, w', hv, rfl, rfl⟩) hH2 hS2 (Nat.le_of_eq (Nat.zero_add _)) (Nat.le_of_eq (Nat.zero_add _))
  · have hsz : bm_sz w ≤ H1.size := by rw [← h2.1]; exact hz1
    rcases (hF _ _ hv).2.2 with ⟨v', hv', -⟩ | hE | ⟨hE, hb2⟩
    · cases hv'
    · cases hE
      refine vx_catch hX.1.2.2.2.1 [] ⟨0, 17, 20, 24⟩ [] htab (fun z hz => by cases hz) rfl (by decide) (hts _ wL_1028) (bm_nw_use rfl (hX.2.2.1.2.2.2.2.2.2.2.2 _ wM_819)) hce hcv hcl ?_
      refine lv_astore hx1 hb dL_holds_20 hl (by decide) rfl (fun ls1 hl1 => ?_)
      refine lv_iconst (v := Int32.ofInt 1) hx1 hb dL_holds_22 rfl ?_
      exact lz_ret hX hr hlocks dL_holds_23 bm_In1 (Or.inr (Or.inl ⟨w', H1.size, hsz, hv, rfl, rfl⟩)) (lz_HX hH1) hS1 (Nat.le_of_eq (Nat.zero_add _)) (Nat.le_of_eq (Nat.zero_add _))
    · cases hb2
theorem lo_taken : lh_ok yL_taken cL_taken 5 [(0, 10, 13, 24)] 4 := ⟨wL_1118, wL_0, ⟨by decide +kernel, by decide +kernel⟩, by decide +kernel, by decide, wL_1117⟩
set_option maxHeartbeats 4000000 in
set_option maxRecDepth 100000 in
theorem lh_taken {D : bm_D} {b0 d x o mc ms : Nat} {p1 p2 : Int} {w : bm_W} {F : bm_Rt → bm_W → Prop} (l : Launch) (hl : l.stackTraces = false) (hx : bm_kt w x = 11) (hin : bm_InSt [bm_i p1, bm_i p2]) (hcall : bm_Call bm_pg d y_X11_taken (bm_r (some x) :: [bm_i p1, bm_i p2]) w F) (hF : lh_H 1 22 o mc ms w F "java/lang/IndexOutOfBoundsException" "" false) : Met l yL_taken (lh_ws yL_taken cL_taken 5 [(0, 10, 13, 24)]) (bm_rm (d + 1) mc ms) (lz_Pc D b0 [bm_r (some x), bm_i p1, bm_i p2, bm_r (some o)] w) (bm_Qc D b0 (lh_G lh_i w o F "java/lang/IndexOutOfBoundsException" "")) mc ms (bm_A b0) := by
  refine bm_met_of (XC := bm_XC D b0 (lh_G lh_i w o F "java/lang/IndexOutOfBoundsException" "")) (vx_ofWH (cc := cL_taken) (maxL := 5) (ret := some .int) (hh := [(0, 10, 13, 24)]) (ws' := bm_ALL) (by decide) rfl ?_) (fun E s t q => by obtain ⟨⟨w3, q1, -⟩, -⟩ := q; exact q1.no)
  intro p e s m args below meth c s₁ B hml hPc
  obtain ⟨⟨rfl, h1, h2, h3, h4⟩, hNc⟩ := hPc
  have hat := atoms_spec (ws := lh_ws yL_taken cL_taken 5 [(0, 10, 13, 24)]) B.pre
  have hX : lz_X D b0 d p l (headSpec (lh_ws yL_taken cL_taken 5 [(0, 10, 13, 24)]) (bm_rm (d + 1) mc ms)).room s m ([bm_r (some x), bm_i p1, bm_i p2, bm_r (some o)].map (bm_val D)).toArray c cL_taken 5 := ⟨⟨B.exec, B.bytes, hml, findClass_of_methodNamed B.named, fun w hw => hat w (List.mem_cons_of_mem _ hw)⟩, h3, h4, hNc, h1, Nat.le_refl _, Nat.le_of_eq (by show _ = 40 * (d + 1) + 400; omega), hl⟩
  have htab := vx_table (x := yL_taken) B (hat _ List.mem_cons_self)
  have hx1 := hX.1.1
  have hb := hX.1.2.1
  have hts := hX.1.2.2.2.2
  have hlocks := B.notSynchronized
  have hr := B.returns
  have hS : va_S (bm_A b0) s.heap s.heap [] := va_S.rf
  refine lz_entry (Nat.le_of_ble_eq_true rfl) (fun ls hl => ?_)
  have hl : lv_has ls 5 [(0, .ref x), (1, .int (Int32.ofInt p1)), (2, .int (Int32.ofInt p2)), (3, .ref o)] := hl
  refine lv_aload_n hx1 hb dL_taken_0 rfl (lv_at hl 3 rfl) ?_
  refine lv_iconst (v := Int32.ofInt 0) hx1 hb dL_taken_1 rfl ?_
  refine lv_aload_n hx1 hb dL_taken_2 rfl (lv_at hl 0 rfl) ?_
  refine lv_iload_n hx1 hb dL_taken_3 rfl (lv_at hl 1 rfl) ?_
  refine lv_iload_n hx1 hb dL_taken_4 rfl (lv_at hl 2 rfl) ?_
  refine W.eq (g2 := F0 m 5 ls (([bm_i p1, bm_i p2].reverse ++ bm_r (some x) :: [bm_i 0, bm_r (some o)]).map (bm_val D))) rfl ?_
  refine lz_callV (as := [bm_i p1, bm_i p2]) (rest := [bm_i 0, bm_r (some o)]) hX dL_taken_5 bm_cw_149 bm_cl_11 wL_1119 wL_1120 wL_1121 hx rfl hin hcall (fun r w' q => (hF r w' q).1) h2 hS hl.1 (Nat.le_of_ble_eq_true rfl) ⟨Nat.le_of_eq (Nat.zero_add _), Nat.le_of_eq (Nat.zero_add _)⟩ (fun v w' hv H1 locs1 hH1 hS1 hi1 => ?_) (fun E w' hv H1 locs1 q ce hH1 hz1 hS1 hce hcv hcl => ?_)
  · obtain ⟨-, ht, hc⟩ := hF _ _ hv
    obtain ⟨x1, rfl⟩ := bm_typ1 ht
    have ho : bm_kt w' o = 22 ∧ bm_kn w' o = 1 := by
      rcases hc with ⟨_, _, h⟩ | hc | ⟨hc, _⟩
      · exact h
      · cases hc
      · cases hc
    have hxi := hi1 _ rfl
    refine W.eq (g2 := F0 m 8 ls [.int (Int32.ofInt x1), .int (Int32.ofInt 0), .ref o]) rfl ?_
    refine lv_i2l (v := Int64.ofInt x1) hx1 hb dL_taken_8 (lz_i2l hxi) ?_
    refine lz_last hX ho.1 ho.2 (bm_I2L hxi) dL_taken_9 hH1 hS1 (fun H2 locs2 hH2 hS2 => ?_)
    refine lv_goto (tgt := 17) hx1 hb dL_taken_10 rfl ?_
    refine lv_iconst (v := Int32.ofInt 0) hx1 hb dL_taken_17 rfl ?_
    exact lz_ret hX hr hlocks dL_taken_18 bm_In0 (Or.inl ⟨_, w', hv, rfl, rfl⟩) hH2 hS2 (Nat.le_of_eq (Nat.zero_add _)) (Nat.le_of_eq (Nat.zero_add _))
  · have hsz : bm_sz w ≤ H1.size := by rw [← h2.1]; exact hz1
    rcases (hF _ _ hv).2.2 with ⟨v', hv', -⟩ | hE | ⟨hE, hb2⟩
    · cases hv'
    · cases hE
      refine vx_catch hX.1.2.2.2.1 [] ⟨0, 10, 13, 24⟩ [] htab (fun z hz => by cases hz) rfl (by decide) (hts _ wL_1028) (bm_nw_use rfl (hX.2.2.1.2.2.2.2.2.2.2.2 _ wM_819)) hce hcv hcl ?_
      refine lv_astore hx1 hb dL_taken_13 hl (by decide) rfl (fun ls1 hl1 => ?_)
      refine lv_iconst (v := Int32.ofInt 1) hx1 hb dL_taken_15 rfl ?_
      exact lz_ret hX hr hlocks dL_taken_16 bm_In1 (Or.inr (Or.inl ⟨w', H1.size, hsz, hv, rfl, rfl⟩)) (lz_HX hH1) hS1 (Nat.le_of_eq (Nat.zero_add _)) (Nat.le_of_eq (Nat.zero_add _))
    · cases hb2
theorem lo_finds : lh_ok yL_finds cL_finds 5 [(0, 17, 20, 24)] 4 := ⟨wL_1125, wL_0, ⟨by decide +kernel, by decide +kernel⟩, by decide +kernel, by decide, wL_1124⟩
set_option maxHeartbeats 4000000 in
set_option maxRecDepth 100000 in
theorem lh_finds {D : bm_D} {b0 d x o mc ms : Nat} {p1 p2 : Int} {w : bm_W} {F : bm_Rt → bm_W → Prop} (l : Launch) (hl : l.stackTraces = false) (hx : bm_kt w x = 11) (hin : bm_InSt [bm_i p1, bm_i p2]) (hcall : bm_Call bm_pg d y_X11_finds (bm_r (some x) :: [bm_i p1, bm_i p2]) w F) (hF : lh_H 1 22 o mc ms w F "java/lang/IndexOutOfBoundsException" "" false) : Met l yL_finds (lh_ws yL_finds cL_finds 5 [(0, 17, 20, 24)]) (bm_rm (d + 1) mc ms) (lz_Pc D b0 [bm_r (some x), bm_i p1, bm_i p2, bm_r (some o)] w) (bm_Qc D b0 (lh_G lh_b w o F "java/lang/IndexOutOfBoundsException" "")) mc ms (bm_A b0) := by
  refine bm_met_of (XC := bm_XC D b0 (lh_G lh_b w o F "java/lang/IndexOutOfBoundsException" "")) (vx_ofWH (cc := cL_finds) (maxL := 5) (ret := some .int) (hh := [(0, 17, 20, 24)]) (ws' := bm_ALL) (by decide) rfl ?_) (fun E s t q => by obtain ⟨⟨w3, q1, -⟩, -⟩ := q; exact q1.no)
  intro p e s m args below meth c s₁ B hml hPc
  obtain ⟨⟨rfl, h1, h2, h3, h4⟩, hNc⟩ := hPc
  have hat := atoms_spec (ws := lh_ws yL_finds cL_finds 5 [(0, 17, 20, 24)]) B.pre
  have hX : lz_X D b0 d p l (headSpec (lh_ws yL_finds cL_finds 5 [(0, 17, 20, 24)]) (bm_rm (d + 1) mc ms)).room s m ([bm_r (some x), bm_i p1, bm_i p2, bm_r (some o)].map (bm_val D)).toArray c cL_finds 5 := ⟨⟨B.exec, B.bytes, hml, findClass_of_methodNamed B.named, fun w hw => hat w (List.mem_cons_of_mem _ hw)⟩, h3, h4, hNc, h1, Nat.le_refl _, Nat.le_of_eq (by show _ = 40 * (d + 1) + 400; omega), hl⟩
  have htab := vx_table (x := yL_finds) B (hat _ List.mem_cons_self)
  have hx1 := hX.1.1
  have hb := hX.1.2.1
  have hts := hX.1.2.2.2.2
  have hlocks := B.notSynchronized
  have hr := B.returns
  have hS : va_S (bm_A b0) s.heap s.heap [] := va_S.rf
  refine lz_entry (Nat.le_of_ble_eq_true rfl) (fun ls hl => ?_)
  have hl : lv_has ls 5 [(0, .ref x), (1, .int (Int32.ofInt p1)), (2, .int (Int32.ofInt p2)), (3, .ref o)] := hl
  refine lv_aload_n hx1 hb dL_finds_0 rfl (lv_at hl 3 rfl) ?_
  refine lv_iconst (v := Int32.ofInt 0) hx1 hb dL_finds_1 rfl ?_
  refine lv_aload_n hx1 hb dL_finds_2 rfl (lv_at hl 0 rfl) ?_
  refine lv_iload_n hx1 hb dL_finds_3 rfl (lv_at hl 1 rfl) ?_
  refine lv_iload_n hx1 hb dL_finds_4 rfl (lv_at hl 2 rfl) ?_
  refine W.eq (g2 := F0 m 5 ls (([bm_i p1, bm_i p2].reverse ++ bm_r (some x) :: [bm_i 0, bm_r (some o)]).map (bm_val D))) rfl ?_
  refine lz_callV (as := [bm_i p1, bm_i p2]) (rest := [bm_i 0, bm_r (some o)]) hX dL_finds_5 bm_cw_150 bm_cl_11 wL_1126 wL_1127 wL_1128 hx rfl hin hcall (fun r w' q => (hF r w' q).1) h2 hS hl.1 (Nat.le_of_ble_eq_true rfl) ⟨Nat.le_of_eq (Nat.zero_add _), Nat.le_of_eq (Nat.zero_add _)⟩ (fun v w' hv H1 locs1 hH1 hS1 hi1 => ?_) (fun E w' hv H1 locs1 q ce hH1 hz1 hS1 hce hcv hcl => ?_)
  · obtain ⟨-, ht, hc⟩ := hF _ _ hv
    obtain ⟨x1, rfl⟩ := bm_typ1 ht
    have ho : bm_kt w' o = 22 ∧ bm_kn w' o = 1 := by
      rcases hc with ⟨_, _, h⟩ | hc | ⟨hc, _⟩
      · exact h
      · cases hc
      · cases hc
    have hxi := hi1 _ rfl
    refine W.eq (g2 := F0 m 8 ls [.int (Int32.ofInt x1), .int (Int32.ofInt 0), .ref o]) rfl ?_
    refine lv_if_eq (tgt := 15) hx1 hb dL_finds_8 rfl (fun hz => ?_) (fun hz => ?_)
    · have e : lh_b (bm_i x1) = 0 := if_pos ((lz_i0 hxi).mp hz)
      refine lv_lconst (v := Int64.ofInt (lh_b (bm_i x1))) hx1 hb dL_finds_15 (by rw [e]; rfl) ?_
      refine lz_last hX ho.1 ho.2 (by rw [e]; exact bm_InL0) dL_finds_16 hH1 hS1 (fun H2 locs2 hH2 hS2 => ?_)
      refine lv_goto (tgt := 24) hx1 hb dL_finds_17 rfl ?_
      refine lv_iconst (v := Int32.ofInt 0) hx1 hb dL_finds_24 rfl ?_
      exact lz_ret hX hr hlocks dL_finds_25 bm_In0 (Or.inl ⟨_, w', hv, rfl, rfl⟩) hH2 hS2 (Nat.le_of_eq (Nat.zero_add _)) (Nat.le_of_eq (Nat.zero_add _))
    · have e : lh_b (bm_i x1) = 1 := if_neg (fun y => hz ((lz_i0 hxi).mpr y))
      refine lv_lconst (v := Int64.ofInt (lh_b (bm_i x1))) hx1 hb dL_finds_11 (by rw [e]; rfl) ?_
      refine lv_goto (tgt := 16) hx1 hb dL_finds_12 rfl ?_
      refine lz_last hX ho.1 ho.2 (by rw [e]; exact bm_InL1) dL_finds_16 hH1 hS1 (fun H2 locs2 hH2 hS2 => ?_)
      refine lv_goto (tgt := 24) hx1 hb dL_finds_17 rfl ?_
      refine lv_iconst (v := Int32.ofInt 0) hx1 hb dL_finds_24 rfl ?_
      exact lz_ret hX hr hlocks dL_finds_25 bm_In0 (Or.inl ⟨_, w', hv, rfl, rfl⟩) hH2 hS2 (Nat.le_of_eq (Nat.zero_add _)) (Nat.le_of_eq (Nat.zero_add _))
  · have hsz : bm_sz w ≤ H1.size := by rw [← h2.1]; exact hz1
    rcases (hF _ _ hv).2.2 with ⟨v', hv', -⟩ | hE | ⟨hE, hb2⟩
    · cases hv'
    · cases hE
      refine vx_catch hX.1.2.2.2.1 [] ⟨0, 17, 20, 24⟩ [] htab (fun z hz => by cases hz) rfl (by decide) (hts _ wL_1028) (bm_nw_use rfl (hX.2.2.1.2.2.2.2.2.2.2.2 _ wM_819)) hce hcv hcl ?_
      refine lv_astore hx1 hb dL_finds_20 hl (by decide) rfl (fun ls1 hl1 => ?_)
      refine lv_iconst (v := Int32.ofInt 1) hx1 hb dL_finds_22 rfl ?_
      exact lz_ret hX hr hlocks dL_finds_23 bm_In1 (Or.inr (Or.inl ⟨w', H1.size, hsz, hv, rfl, rfl⟩)) (lz_HX hH1) hS1 (Nat.le_of_eq (Nat.zero_add _)) (Nat.le_of_eq (Nat.zero_add _))
    · cases hb2
theorem lo_score : lh_ok yL_score cL_score 4 [(0, 8, 11, 24)] 3 := ⟨wL_1141, wL_0, ⟨by decide +kernel, by decide +kernel⟩, by decide +kernel, by decide, wL_1140⟩
set_option maxHeartbeats 4000000 in
set_option maxRecDepth 100000 in
theorem lh_score {D : bm_D} {b0 d x o mc ms : Nat} {p1 : Int} {w : bm_W} {F : bm_Rt → bm_W → Prop} (l : Launch) (hl : l.stackTraces = false) (hx : bm_kt w x = 11) (hin : bm_InSt [bm_i p1]) (hcall : bm_Call bm_pg d y_X11_score (bm_r (some x) :: [bm_i p1]) w F) (hF : lh_H 4 27 o mc ms w F "java/lang/IndexOutOfBoundsException" "" false) : Met l yL_score (lh_ws yL_score cL_score 4 [(0, 8, 11, 24)]) (bm_rm (d + 1) mc ms) (lz_Pc D b0 [bm_r (some x), bm_i p1, bm_r (some o)] w) (bm_Qc D b0 (lh_G lh_d w o F "java/lang/IndexOutOfBoundsException" "")) mc ms (bm_A b0) := by
  refine bm_met_of (XC := bm_XC D b0 (lh_G lh_d w o F "java/lang/IndexOutOfBoundsException" "")) (vx_ofWH (cc := cL_score) (maxL := 4) (ret := some .int) (hh := [(0, 8, 11, 24)]) (ws' := bm_ALL) (by decide) rfl ?_) (fun E s t q => by obtain ⟨⟨w3, q1, -⟩, -⟩ := q; exact q1.no)
  intro p e s m args below meth c s₁ B hml hPc
  obtain ⟨⟨rfl, h1, h2, h3, h4⟩, hNc⟩ := hPc
  have hat := atoms_spec (ws := lh_ws yL_score cL_score 4 [(0, 8, 11, 24)]) B.pre
  have hX : lz_X D b0 d p l (headSpec (lh_ws yL_score cL_score 4 [(0, 8, 11, 24)]) (bm_rm (d + 1) mc ms)).room s m ([bm_r (some x), bm_i p1, bm_r (some o)].map (bm_val D)).toArray c cL_score 4 := ⟨⟨B.exec, B.bytes, hml, findClass_of_methodNamed B.named, fun w hw => hat w (List.mem_cons_of_mem _ hw)⟩, h3, h4, hNc, h1, Nat.le_refl _, Nat.le_of_eq (by show _ = 40 * (d + 1) + 400; omega), hl⟩
  have htab := vx_table (x := yL_score) B (hat _ List.mem_cons_self)
  have hx1 := hX.1.1
  have hb := hX.1.2.1
  have hts := hX.1.2.2.2.2
  have hlocks := B.notSynchronized
  have hr := B.returns
  have hS : va_S (bm_A b0) s.heap s.heap [] := va_S.rf
  refine lz_entry (Nat.le_of_ble_eq_true rfl) (fun ls hl => ?_)
  have hl : lv_has ls 4 [(0, .ref x), (1, .int (Int32.ofInt p1)), (2, .ref o)] := hl
  refine lv_aload_n hx1 hb dL_score_0 rfl (lv_at hl 2 rfl) ?_
  refine lv_iconst (v := Int32.ofInt 0) hx1 hb dL_score_1 rfl ?_
  refine lv_aload_n hx1 hb dL_score_2 rfl (lv_at hl 0 rfl) ?_
  refine lv_iload_n hx1 hb dL_score_3 rfl (lv_at hl 1 rfl) ?_
  refine W.eq (g2 := F0 m 4 ls (([bm_i p1].reverse ++ bm_r (some x) :: [bm_i 0, bm_r (some o)]).map (bm_val D))) rfl ?_
  refine lz_callV (as := [bm_i p1]) (rest := [bm_i 0, bm_r (some o)]) hX dL_score_4 bm_cw_151 bm_cl_11 wL_1142 wL_1143 wL_1144 hx rfl hin hcall (fun r w' q => (hF r w' q).1) h2 hS hl.1 (Nat.le_of_ble_eq_true rfl) ⟨Nat.le_of_eq (Nat.zero_add _), Nat.le_of_eq (Nat.zero_add _)⟩ (fun v w' hv H1 locs1 hH1 hS1 hi1 => ?_) (fun E w' hv H1 locs1 q ce hH1 hz1 hS1 hce hcv hcl => ?_)
  · obtain ⟨-, ht, hc⟩ := hF _ _ hv
    obtain ⟨x1, rfl⟩ := bm_typ4 ht
    have ho : bm_kt w' o = 27 ∧ bm_kn w' o = 1 := by
      rcases hc with ⟨_, _, h⟩ | hc | ⟨hc, _⟩
      · exact h
      · cases hc
      · cases hc
    refine W.eq (g2 := F0 m 7 ls [.double x1, .int (Int32.ofInt 0), .ref o]) rfl ?_
    refine lz_dast hX ho.1 ho.2 dL_score_7 hH1 hS1 (fun H2 locs2 hH2 hS2 => ?_)
    refine lv_goto (tgt := 14) hx1 hb dL_score_8 rfl ?_
    refine lv_iconst (v := Int32.ofInt 0) hx1 hb dL_score_14 rfl ?_
    exact lz_ret hX hr hlocks dL_score_15 bm_In0 (Or.inl ⟨_, w', hv, rfl, rfl⟩) hH2 hS2 (Nat.le_of_eq (Nat.zero_add _)) (Nat.le_of_eq (Nat.zero_add _))
  · have hsz : bm_sz w ≤ H1.size := by rw [← h2.1]; exact hz1
    rcases (hF _ _ hv).2.2 with ⟨v', hv', -⟩ | hE | ⟨hE, hb2⟩
    · cases hv'
    · cases hE
      refine vx_catch hX.1.2.2.2.1 [] ⟨0, 8, 11, 24⟩ [] htab (fun z hz => by cases hz) rfl (by decide) (hts _ wL_1028) (bm_nw_use rfl (hX.2.2.1.2.2.2.2.2.2.2.2 _ wM_819)) hce hcv hcl ?_
      refine lv_astore_n hx1 hb dL_score_11 rfl hl (by decide) rfl (fun ls1 hl1 => ?_)
      refine lv_iconst (v := Int32.ofInt 1) hx1 hb dL_score_12 rfl ?_
      exact lz_ret hX hr hlocks dL_score_13 bm_In1 (Or.inr (Or.inl ⟨w', H1.size, hsz, hv, rfl, rfl⟩)) (lz_HX hH1) hS1 (Nat.le_of_eq (Nat.zero_add _)) (Nat.le_of_eq (Nat.zero_add _))
    · cases hb2
theorem lo_grow : lh_ok yL_grow cL_grow 4 [(0, 9, 12, 24), (0, 9, 15, 13)] 3 := ⟨wL_1149, wL_0, ⟨by decide +kernel, by decide +kernel⟩, by decide +kernel, by decide, wL_1148⟩
set_option maxHeartbeats 4000000 in
set_option maxRecDepth 100000 in
theorem lh_grow {D : bm_D} {b0 d x o mc ms : Nat} {p1 : Int} {w : bm_W} {F : bm_Rt → bm_W → Prop} (l : Launch) (hl : l.stackTraces = false) (hx : bm_kt w x = 11) (hin : bm_InSt [bm_i p1]) (hcall : bm_Call bm_pg d y_X11_grow (bm_r (some x) :: [bm_i p1]) w F) (hF : lh_H 1 22 o mc ms w F "java/lang/IndexOutOfBoundsException" "java/lang/IllegalStateException" true) : Met l yL_grow (lh_ws yL_grow cL_grow 4 [(0, 9, 12, 24), (0, 9, 15, 13)]) (bm_rm (d + 1) mc ms) (lz_Pc D b0 [bm_r (some x), bm_i p1, bm_r (some o)] w) (bm_Qc D b0 (lh_G lh_i w o F "java/lang/IndexOutOfBoundsException" "java/lang/IllegalStateException")) mc ms (bm_A b0) := by
  refine bm_met_of (XC := bm_XC D b0 (lh_G lh_i w o F "java/lang/IndexOutOfBoundsException" "java/lang/IllegalStateException")) (vx_ofWH (cc := cL_grow) (maxL := 4) (ret := some .int) (hh := [(0, 9, 12, 24), (0, 9, 15, 13)]) (ws' := bm_ALL) (by decide) rfl ?_) (fun E s t q => by obtain ⟨⟨w3, q1, -⟩, -⟩ := q; exact q1.no)
  intro p e s m args below meth c s₁ B hml hPc
  obtain ⟨⟨rfl, h1, h2, h3, h4⟩, hNc⟩ := hPc
  have hat := atoms_spec (ws := lh_ws yL_grow cL_grow 4 [(0, 9, 12, 24), (0, 9, 15, 13)]) B.pre
  have hX : lz_X D b0 d p l (headSpec (lh_ws yL_grow cL_grow 4 [(0, 9, 12, 24), (0, 9, 15, 13)]) (bm_rm (d + 1) mc ms)).room s m ([bm_r (some x), bm_i p1, bm_r (some o)].map (bm_val D)).toArray c cL_grow 4 := ⟨⟨B.exec, B.bytes, hml, findClass_of_methodNamed B.named, fun w hw => hat w (List.mem_cons_of_mem _ hw)⟩, h3, h4, hNc, h1, Nat.le_refl _, Nat.le_of_eq (by show _ = 40 * (d + 1) + 400; omega), hl⟩
  have htab := vx_table (x := yL_grow) B (hat _ List.mem_cons_self)
  have hx1 := hX.1.1
  have hb := hX.1.2.1
  have hts := hX.1.2.2.2.2
  have hlocks := B.notSynchronized
  have hr := B.returns
  have hS : va_S (bm_A b0) s.heap s.heap [] := va_S.rf
  refine lz_entry (Nat.le_of_ble_eq_true rfl) (fun ls hl => ?_)
  have hl : lv_has ls 4 [(0, .ref x), (1, .int (Int32.ofInt p1)), (2, .ref o)] := hl
  refine lv_aload_n hx1 hb dL_grow_0 rfl (lv_at hl 2 rfl) ?_
  refine lv_iconst (v := Int32.ofInt 0) hx1 hb dL_grow_1 rfl ?_
  refine lv_aload_n hx1 hb dL_grow_2 rfl (lv_at hl 0 rfl) ?_
  refine lv_iload_n hx1 hb dL_grow_3 rfl (lv_at hl 1 rfl) ?_
  refine W.eq (g2 := F0 m 4 ls (([bm_i p1].reverse ++ bm_r (some x) :: [bm_i 0, bm_r (some o)]).map (bm_val D))) rfl ?_
  refine lz_callV (as := [bm_i p1]) (rest := [bm_i 0, bm_r (some o)]) hX dL_grow_4 bm_cw_152 bm_cl_11 wL_1150 wL_1151 wL_1152 hx rfl hin hcall (fun r w' q => (hF r w' q).1) h2 hS hl.1 (Nat.le_of_ble_eq_true rfl) ⟨Nat.le_of_eq (Nat.zero_add _), Nat.le_of_eq (Nat.zero_add _)⟩ (fun v w' hv H1 locs1 hH1 hS1 hi1 => ?_) (fun E w' hv H1 locs1 q ce hH1 hz1 hS1 hce hcv hcl => ?_)
  · obtain ⟨-, ht, hc⟩ := hF _ _ hv
    obtain ⟨x1, rfl⟩ := bm_typ1 ht
    have ho : bm_kt w' o = 22 ∧ bm_kn w' o = 1 := by
      rcases hc with ⟨_, _, h⟩ | hc | ⟨hc, _⟩
      · exact h
      · cases hc
      · cases hc
    have hxi := hi1 _ rfl
    refine W.eq (g2 := F0 m 7 ls [.int (Int32.ofInt x1), .int (Int32.ofInt 0), .ref o]) rfl ?_
    refine lv_i2l (v := Int64.ofInt x1) hx1 hb dL_grow_7 (lz_i2l hxi) ?_
    refine lz_last hX ho.1 ho.2 (bm_I2L hxi) dL_grow_8 hH1 hS1 (fun H2 locs2 hH2 hS2 => ?_)
    refine lv_goto (tgt := 18) hx1 hb dL_grow_9 rfl ?_
    refine lv_iconst (v := Int32.ofInt 0) hx1 hb dL_grow_18 rfl ?_
    exact lz_ret hX hr hlocks dL_grow_19 bm_In0 (Or.inl ⟨_, w', hv, rfl, rfl⟩) hH2 hS2 (Nat.le_of_eq (Nat.zero_add _)) (Nat.le_of_eq (Nat.zero_add _))
  · have hsz : bm_sz w ≤ H1.size := by rw [← h2.1]; exact hz1
    rcases (hF _ _ hv).2.2 with ⟨v', hv', -⟩ | hE | ⟨hE, hb2⟩
    · cases hv'
    · cases hE
      refine vx_catch hX.1.2.2.2.1 [] ⟨0, 9, 12, 24⟩ [⟨0, 9, 15, 13⟩] htab (fun z hz => by cases hz) rfl (by decide) (hts _ wL_1028) (bm_nw_use rfl (hX.2.2.1.2.2.2.2.2.2.2.2 _ wM_819)) hce hcv hcl ?_
      refine lv_astore_n hx1 hb dL_grow_12 rfl hl (by decide) rfl (fun ls1 hl1 => ?_)
      refine lv_iconst (v := Int32.ofInt 1) hx1 hb dL_grow_13 rfl ?_
      exact lz_ret hX hr hlocks dL_grow_14 bm_In1 (Or.inr (Or.inl ⟨w', H1.size, hsz, hv, rfl, rfl⟩)) (lz_HX hH1) hS1 (Nat.le_of_eq (Nat.zero_add _)) (Nat.le_of_eq (Nat.zero_add _))
    · cases hE
      refine vx_catch hX.1.2.2.2.1 [⟨0, 9, 12, 24⟩] ⟨0, 9, 15, 13⟩ [] htab (fun z hz => by rw [List.mem_singleton.mp hz]; exact Or.inr ⟨by decide, _, hts _ wL_1028, hNc⟩) rfl (by decide) (hts _ wL_974) (bm_nw_use rfl (hX.2.2.1.2.2.2.2.2.2.2.2 _ wM_985)) hce hcv hcl ?_
      refine lv_astore_n hx1 hb dL_grow_15 rfl hl (by decide) rfl (fun ls1 hl1 => ?_)
      refine lv_iconst (v := Int32.ofInt 2) hx1 hb dL_grow_16 rfl ?_
      exact lz_ret hX hr hlocks dL_grow_17 bm_In2 (Or.inr (Or.inr ⟨w', H1.size, hsz, hv, rfl, rfl⟩)) (lz_HX hH1) hS1 (Nat.le_of_eq (Nat.zero_add _)) (Nat.le_of_eq (Nat.zero_add _))
theorem lo_shorten : lh_ok yL_shorten cL_shorten 4 [(0, 9, 12, 24)] 3 := ⟨wL_1164, wL_0, ⟨by decide +kernel, by decide +kernel⟩, by decide +kernel, by decide, wL_1163⟩
set_option maxHeartbeats 4000000 in
set_option maxRecDepth 100000 in
theorem lh_shorten {D : bm_D} {b0 d x o mc ms : Nat} {p1 : Int} {w : bm_W} {F : bm_Rt → bm_W → Prop} (l : Launch) (hl : l.stackTraces = false) (hx : bm_kt w x = 11) (hin : bm_InSt [bm_i p1]) (hcall : bm_Call bm_pg d y_X11_shorten (bm_r (some x) :: [bm_i p1]) w F) (hF : lh_H 1 22 o mc ms w F "java/lang/IndexOutOfBoundsException" "" false) : Met l yL_shorten (lh_ws yL_shorten cL_shorten 4 [(0, 9, 12, 24)]) (bm_rm (d + 1) mc ms) (lz_Pc D b0 [bm_r (some x), bm_i p1, bm_r (some o)] w) (bm_Qc D b0 (lh_G lh_i w o F "java/lang/IndexOutOfBoundsException" "")) mc ms (bm_A b0) := by
  refine bm_met_of (XC := bm_XC D b0 (lh_G lh_i w o F "java/lang/IndexOutOfBoundsException" "")) (vx_ofWH (cc := cL_shorten) (maxL := 4) (ret := some .int) (hh := [(0, 9, 12, 24)]) (ws' := bm_ALL) (by decide) rfl ?_) (fun E s t q => by obtain ⟨⟨w3, q1, -⟩, -⟩ := q; exact q1.no)
  intro p e s m args below meth c s₁ B hml hPc
  obtain ⟨⟨rfl, h1, h2, h3, h4⟩, hNc⟩ := hPc
  have hat := atoms_spec (ws := lh_ws yL_shorten cL_shorten 4 [(0, 9, 12, 24)]) B.pre
  have hX : lz_X D b0 d p l (headSpec (lh_ws yL_shorten cL_shorten 4 [(0, 9, 12, 24)]) (bm_rm (d + 1) mc ms)).room s m ([bm_r (some x), bm_i p1, bm_r (some o)].map (bm_val D)).toArray c cL_shorten 4 := ⟨⟨B.exec, B.bytes, hml, findClass_of_methodNamed B.named, fun w hw => hat w (List.mem_cons_of_mem _ hw)⟩, h3, h4, hNc, h1, Nat.le_refl _, Nat.le_of_eq (by show _ = 40 * (d + 1) + 400; omega), hl⟩
  have htab := vx_table (x := yL_shorten) B (hat _ List.mem_cons_self)
  have hx1 := hX.1.1
  have hb := hX.1.2.1
  have hts := hX.1.2.2.2.2
  have hlocks := B.notSynchronized
  have hr := B.returns
  have hS : va_S (bm_A b0) s.heap s.heap [] := va_S.rf
  refine lz_entry (Nat.le_of_ble_eq_true rfl) (fun ls hl => ?_)
  have hl : lv_has ls 4 [(0, .ref x), (1, .int (Int32.ofInt p1)), (2, .ref o)] := hl
  refine lv_aload_n hx1 hb dL_shorten_0 rfl (lv_at hl 2 rfl) ?_
  refine lv_iconst (v := Int32.ofInt 0) hx1 hb dL_shorten_1 rfl ?_
  refine lv_aload_n hx1 hb dL_shorten_2 rfl (lv_at hl 0 rfl) ?_
  refine lv_iload_n hx1 hb dL_shorten_3 rfl (lv_at hl 1 rfl) ?_
  refine W.eq (g2 := F0 m 4 ls (([bm_i p1].reverse ++ bm_r (some x) :: [bm_i 0, bm_r (some o)]).map (bm_val D))) rfl ?_
  refine lz_callV (as := [bm_i p1]) (rest := [bm_i 0, bm_r (some o)]) hX dL_shorten_4 bm_cw_153 bm_cl_11 wL_1165 wL_1166 wL_1167 hx rfl hin hcall (fun r w' q => (hF r w' q).1) h2 hS hl.1 (Nat.le_of_ble_eq_true rfl) ⟨Nat.le_of_eq (Nat.zero_add _), Nat.le_of_eq (Nat.zero_add _)⟩ (fun v w' hv H1 locs1 hH1 hS1 hi1 => ?_) (fun E w' hv H1 locs1 q ce hH1 hz1 hS1 hce hcv hcl => ?_)
  · obtain ⟨-, ht, hc⟩ := hF _ _ hv
    obtain ⟨x1, rfl⟩ := bm_typ1 ht
    have ho : bm_kt w' o = 22 ∧ bm_kn w' o = 1 := by
      rcases hc with ⟨_, _, h⟩ | hc | ⟨hc, _⟩
      · exact h
      · cases hc
      · cases hc
    have hxi := hi1 _ rfl
    refine W.eq (g2 := F0 m 7 ls [.int (Int32.ofInt x1), .int (Int32.ofInt 0), .ref o]) rfl ?_
    refine lv_i2l (v := Int64.ofInt x1) hx1 hb dL_shorten_7 (lz_i2l hxi) ?_
    refine lz_last hX ho.1 ho.2 (bm_I2L hxi) dL_shorten_8 hH1 hS1 (fun H2 locs2 hH2 hS2 => ?_)
    refine lv_goto (tgt := 15) hx1 hb dL_shorten_9 rfl ?_
    refine lv_iconst (v := Int32.ofInt 0) hx1 hb dL_shorten_15 rfl ?_
    exact lz_ret hX hr hlocks dL_shorten_16 bm_In0 (Or.inl ⟨_, w', hv, rfl, rfl⟩) hH2 hS2 (Nat.le_of_eq (Nat.zero_add _)) (Nat.le_of_eq (Nat.zero_add _))
  · have hsz : bm_sz w ≤ H1.size := by rw [← h2.1]; exact hz1
    rcases (hF _ _ hv).2.2 with ⟨v', hv', -⟩ | hE | ⟨hE, hb2⟩
    · cases hv'
    · cases hE
      refine vx_catch hX.1.2.2.2.1 [] ⟨0, 9, 12, 24⟩ [] htab (fun z hz => by cases hz) rfl (by decide) (hts _ wL_1028) (bm_nw_use rfl (hX.2.2.1.2.2.2.2.2.2.2.2 _ wM_819)) hce hcv hcl ?_
      refine lv_astore_n hx1 hb dL_shorten_12 rfl hl (by decide) rfl (fun ls1 hl1 => ?_)
      refine lv_iconst (v := Int32.ofInt 1) hx1 hb dL_shorten_13 rfl ?_
      exact lz_ret hX hr hlocks dL_shorten_14 bm_In1 (Or.inr (Or.inl ⟨w', H1.size, hsz, hv, rfl, rfl⟩)) (lz_HX hH1) hS1 (Nat.le_of_eq (Nat.zero_add _)) (Nat.le_of_eq (Nat.zero_add _))
    · cases hb2

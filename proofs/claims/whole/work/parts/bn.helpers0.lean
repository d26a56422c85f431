/-! ===== the law's helpers (laid by gen_law.py) ===== -/
theorem lo_feed : lh_ok yL_feed cL_feed 8 [(0, 16, 19, 13)] 7 := ⟨wL_973, wL_0, ⟨by decide +kernel, by decide +kernel⟩, by decide +kernel, by decide, wL_972⟩
set_option maxHeartbeats 4000000 in
set_option maxRecDepth 100000 in
theorem lh_feed {D : bm_D} {b0 d x o mc ms : Nat} {p1 p2 p3 p4 p5 : Int} {w : bm_W} {F : bm_Rt → bm_W → Prop} (l : Launch) (hl : l.stackTraces = false) (hx : bm_kt w x = 11) (hin : bm_InSt [bm_i p1, bm_i p2, bm_i p3, bm_i p4, bm_i p5]) (hcall : bm_Call bm_pg d y_X11_feed (bm_r (some x) :: [bm_i p1, bm_i p2, bm_i p3, bm_i p4, bm_i p5]) w F) (hF : lh_H 1 22 o mc ms w F "java/lang/IllegalStateException" "" false) : Met l yL_feed (lh_ws yL_feed cL_feed 8 [(0, 16, 19, 13)]) (bm_rm (d + 1) mc ms) (lz_Pc D b0 [bm_r (some x), bm_i p1, bm_i p2, bm_i p3, bm_i p4, bm_i p5, bm_r (some o)] w) (bm_Qc D b0 (lh_G lh_i w o F "java/lang/IllegalStateException" "")) mc ms (bm_A b0) := by
  refine bm_met_of (XC := bm_XC D b0 (lh_G lh_i w o F "java/lang/IllegalStateException" "")) (vx_ofWH (cc := cL_feed) (maxL := 8) (ret := some .int) (hh := [(0, 16, 19, 13)]) (ws' := bm_ALL) (by decide) rfl ?_) (fun E s t q => by obtain ⟨⟨w3, q1, -⟩, -⟩ := q; exact q1.no)
  intro p e s m args below meth c s₁ B hml hPc
  obtain ⟨⟨rfl, h1, h2, h3, h4⟩, hNc⟩ := hPc
  have hat := atoms_spec (ws := lh_ws yL_feed cL_feed 8 [(0, 16, 19, 13)]) B.pre
  have hX : lz_X D b0 d p l (headSpec (lh_ws yL_feed cL_feed 8 [(0, 16, 19, 13)]) (bm_rm (d + 1) mc ms)).room s m ([bm_r (some x), bm_i p1, bm_i p2, bm_i p3, bm_i p4, bm_i p5, bm_r (some o)].map (bm_val D)).toArray c cL_feed 8 := ⟨⟨B.exec, B.bytes, hml, findClass_of_methodNamed B.named, fun w hw => hat w (List.mem_cons_of_mem _ hw)⟩, h3, h4, hNc, h1, Nat.le_refl _, Nat.le_of_eq (by show _ = 40 * (d + 1) + 400; omega), hl⟩
  have htab := vx_table (x := yL_feed) B (hat _ List.mem_cons_self)
  have hx1 := hX.1.1
  have hb := hX.1.2.1
  have hts := hX.1.2.2.2.2
  have hlocks := B.notSynchronized
  have hr := B.returns
  have hS : va_S (bm_A b0) s.heap s.heap [] := va_S.rf
  refine lz_entry (Nat.le_of_ble_eq_true rfl) (fun ls hl => ?_)
  have hl : lv_has ls 8 [(0, .ref x), (1, .int (Int32.ofInt p1)), (2, .int (Int32.ofInt p2)), (3, .int (Int32.ofInt p3)), (4, .int (Int32.ofInt p4)), (5, .int (Int32.ofInt p5)), (6, .ref o)] := hl
  refine lv_aload hx1 hb dL_feed_0 (lv_at hl 6 rfl) ?_
  refine lv_iconst (v := Int32.ofInt 0) hx1 hb dL_feed_2 rfl ?_
  refine lv_aload_n hx1 hb dL_feed_3 rfl (lv_at hl 0 rfl) ?_
  refine lv_iload_n hx1 hb dL_feed_4 rfl (lv_at hl 1 rfl) ?_
  refine lv_iload_n hx1 hb dL_feed_5 rfl (lv_at hl 2 rfl) ?_
  refine lv_iload_n hx1 hb dL_feed_6 rfl (lv_at hl 3 rfl) ?_
  refine lv_iload hx1 hb dL_feed_7 (lv_at hl 4 rfl) ?_
  refine lv_iload hx1 hb dL_feed_9 (lv_at hl 5 rfl) ?_
  refine W.eq (g2 := F0 m 11 ls (([bm_i p1, bm_i p2, bm_i p3, bm_i p4, bm_i p5].reverse ++ bm_r (some x) :: [bm_i 0, bm_r (some o)]).map (bm_val D))) rfl ?_
  refine lz_callV (as := [bm_i p1, bm_i p2, bm_i p3, bm_i p4, bm_i p5]) (rest := [bm_i 0, bm_r (some o)]) hX dL_feed_11 bm_cw_136 bm_cl_11 wL_975 wL_976 wL_977 hx rfl hin hcall (fun r w' q => (hF r w' q).1) h2 hS hl.1 (Nat.le_of_ble_eq_true rfl) ⟨Nat.le_of_eq (Nat.zero_add _), Nat.le_of_eq (Nat.zero_add _)⟩ (fun v w' hv H1 locs1 hH1 hS1 hi1 => ?_) (fun E w' hv H1 locs1 q ce hH1 hz1 hS1 hce hcv hcl => ?_)
  · obtain ⟨-, ht, hc⟩ := hF _ _ hv
    obtain ⟨x1, rfl⟩ := bm_typ1 ht
    have ho : bm_kt w' o = 22 ∧ bm_kn w' o = 1 := by
      rcases hc with ⟨_, _, h⟩ | hc | ⟨hc, _⟩
      · exact h
      · cases hc
      · cases hc
    have hxi := hi1 _ rfl
    refine W.eq (g2 := F0 m 14 ls [.int (Int32.ofInt x1), .int (Int32.ofInt 0), .ref o]) rfl ?_
    refine lv_i2l (v := Int64.ofInt x1) hx1 hb dL_feed_14 (lz_i2l hxi) ?_
    refine lz_last hX ho.1 ho.2 (bm_I2L hxi) dL_feed_15 hH1 hS1 (fun H2 locs2 hH2 hS2 => ?_)
    refine lv_goto (tgt := 23) hx1 hb dL_feed_16 rfl ?_
    refine lv_iconst (v := Int32.ofInt 0) hx1 hb dL_feed_23 rfl ?_
    exact lz_ret hX hr hlocks dL_feed_24 bm_In0 (Or.inl ⟨_, w', hv, rfl, rfl⟩) hH2 hS2 (Nat.le_of_eq (Nat.zero_add _)) (Nat.le_of_eq (Nat.zero_add _))
  · have hsz : bm_sz w ≤ H1.size := by rw [← h2.1]; exact hz1
    rcases (hF _ _ hv).2.2 with ⟨v', hv', -⟩ | hE | ⟨hE, hb2⟩
    · cases hv'
    · cases hE
      refine vx_catch hX.1.2.2.2.1 [] ⟨0, 16, 19, 13⟩ [] htab (fun z hz => by cases hz) rfl (by decide) (hts _ wL_974) (bm_nw_use rfl (hX.2.2.1.2.2.2.2.2.2.2.2 _ wM_985)) hce hcv hcl ?_
      refine lv_astore hx1 hb dL_feed_19 hl (by decide) rfl (fun ls1 hl1 => ?_)
      refine lv_iconst (v := Int32.ofInt 1) hx1 hb dL_feed_21 rfl ?_
      exact lz_ret hX hr hlocks dL_feed_22 bm_In1 (Or.inr (Or.inl ⟨w', H1.size, hsz, hv, rfl, rfl⟩)) (lz_HX hH1) hS1 (Nat.le_of_eq (Nat.zero_add _)) (Nat.le_of_eq (Nat.zero_add _))
    · cases hb2
theorem lo_trim : lh_ok yL_trim cL_trim 4 [(0, 9, 12, 19)] 3 := ⟨wL_1004, wL_0, ⟨by decide +kernel, by decide +kernel⟩, by decide +kernel, by decide, wL_1003⟩
set_option maxHeartbeats 4000000 in
set_option maxRecDepth 100000 in
theorem lh_trim {D : bm_D} {b0 d x o mc ms : Nat} {p1 : Int} {w : bm_W} {F : bm_Rt → bm_W → Prop} (l : Launch) (hl : l.stackTraces = false) (hx : bm_kt w x = 11) (hin : bm_InSt [bm_i p1]) (hcall : bm_Call bm_pg d y_X11_trim (bm_r (some x) :: [bm_i p1]) w F) (hF : lh_H 1 22 o mc ms w F "java/lang/IllegalArgumentException" "" false) : Met l yL_trim (lh_ws yL_trim cL_trim 4 [(0, 9, 12, 19)]) (bm_rm (d + 1) mc ms) (lz_Pc D b0 [bm_r (some x), bm_i p1, bm_r (some o)] w) (bm_Qc D b0 (lh_G lh_i w o F "java/lang/IllegalArgumentException" "")) mc ms (bm_A b0) := by
  refine bm_met_of (XC := bm_XC D b0 (lh_G lh_i w o F "java/lang/IllegalArgumentException" "")) (vx_ofWH (cc := cL_trim) (maxL := 4) (ret := some .int) (hh := [(0, 9, 12, 19)]) (ws' := bm_ALL) (by decide) rfl ?_) (fun E s t q => by obtain ⟨⟨w3, q1, -⟩, -⟩ := q; exact q1.no)
  intro p e s m args below meth c s₁ B hml hPc
  obtain ⟨⟨rfl, h1, h2, h3, h4⟩, hNc⟩ := hPc
  have hat := atoms_spec (ws := lh_ws yL_trim cL_trim 4 [(0, 9, 12, 19)]) B.pre
  have hX : lz_X D b0 d p l (headSpec (lh_ws yL_trim cL_trim 4 [(0, 9, 12, 19)]) (bm_rm (d + 1) mc ms)).room s m ([bm_r (some x), bm_i p1, bm_r (some o)].map (bm_val D)).toArray c cL_trim 4 := ⟨⟨B.exec, B.bytes, hml, findClass_of_methodNamed B.named, fun w hw => hat w (List.mem_cons_of_mem _ hw)⟩, h3, h4, hNc, h1, Nat.le_refl _, Nat.le_of_eq (by show _ = 40 * (d + 1) + 400; omega), hl⟩
  have htab := vx_table (x := yL_trim) B (hat _ List.mem_cons_self)
  have hx1 := hX.1.1
  have hb := hX.1.2.1
  have hts := hX.1.2.2.2.2
  have hlocks := B.notSynchronized
  have hr := B.returns
  have hS : va_S (bm_A b0) s.heap s.heap [] := va_S.rf
  refine lz_entry (Nat.le_of_ble_eq_true rfl) (fun ls hl => ?_)
  have hl : lv_has ls 4 [(0, .ref x), (1, .int (Int32.ofInt p1)), (2, .ref o)] := hl
  refine lv_aload_n hx1 hb dL_trim_0 rfl (lv_at hl 2 rfl) ?_
  refine lv_iconst (v := Int32.ofInt 0) hx1 hb dL_trim_1 rfl ?_
  refine lv_aload_n hx1 hb dL_trim_2 rfl (lv_at hl 0 rfl) ?_
  refine lv_iload_n hx1 hb dL_trim_3 rfl (lv_at hl 1 rfl) ?_
  refine W.eq (g2 := F0 m 4 ls (([bm_i p1].reverse ++ bm_r (some x) :: [bm_i 0, bm_r (some o)]).map (bm_val D))) rfl ?_
  refine lz_callV (as := [bm_i p1]) (rest := [bm_i 0, bm_r (some o)]) hX dL_trim_4 bm_cw_137 bm_cl_11 wL_1006 wL_1007 wL_1008 hx rfl hin hcall (fun r w' q => (hF r w' q).1) h2 hS hl.1 (Nat.le_of_ble_eq_true rfl) ⟨Nat.le_of_eq (Nat.zero_add _), Nat.le_of_eq (Nat.zero_add _)⟩ (fun v w' hv H1 locs1 hH1 hS1 hi1 => ?_) (fun E w' hv H1 locs1 q ce hH1 hz1 hS1 hce hcv hcl => ?_)
  · obtain ⟨-, ht, hc⟩ := hF _ _ hv
    obtain ⟨x1, rfl⟩ := bm_typ1 ht
    have ho : bm_kt w' o = 22 ∧ bm_kn w' o = 1 := by
      rcases hc with ⟨_, _, h⟩ | hc | ⟨hc, _⟩
      · exact h
      · cases hc
      · cases hc
    have hxi := hi1 _ rfl
    refine W.eq (g2 := F0 m 7 ls [.int (Int32.ofInt x1), .int (Int32.ofInt 0), .ref o]) rfl ?_
    refine lv_i2l (v := Int64.ofInt x1) hx1 hb dL_trim_7 (lz_i2l hxi) ?_
    refine lz_last hX ho.1 ho.2 (bm_I2L hxi) dL_trim_8 hH1 hS1 (fun H2 locs2 hH2 hS2 => ?_)
    refine lv_goto (tgt := 15) hx1 hb dL_trim_9 rfl ?_
    refine lv_iconst (v := Int32.ofInt 0) hx1 hb dL_trim_15 rfl ?_
    exact lz_ret hX hr hlocks dL_trim_16 bm_In0 (Or.inl ⟨_, w', hv, rfl, rfl⟩) hH2 hS2 (Nat.le_of_eq (Nat.zero_add _)) (Nat.le_of_eq (Nat.zero_add _))
  · have hsz : bm_sz w ≤ H1.size := by rw [← h2.1]; exact hz1
    rcases (hF _ _ hv).2.2 with ⟨v', hv', -⟩ | hE | ⟨hE, hb2⟩
    · cases hv'
    · cases hE
      refine vx_catch hX.1.2.2.2.1 [] ⟨0, 9, 12, 19⟩ [] htab (fun z hz => by cases hz) rfl (by decide) (hts _ wL_1005) (bm_nw_use rfl (hX.2.2.1.2.2.2.2.2.2.2.2 _ wM_1012)) hce hcv hcl ?_
      refine lv_astore_n hx1 hb dL_trim_12 rfl hl (by decide) rfl (fun ls1 hl1 => ?_)
      refine lv_iconst (v := Int32.ofInt 1) hx1 hb dL_trim_13 rfl ?_
      exact lz_ret hX hr hlocks dL_trim_14 bm_In1 (Or.inr (Or.inl ⟨w', H1.size, hsz, hv, rfl, rfl⟩)) (lz_HX hH1) hS1 (Nat.le_of_eq (Nat.zero_add _)) (Nat.le_of_eq (Nat.zero_add _))
    · cases hb2
theorem lo_count : lh_ok yL_count cL_count 4 [(0, 9, 12, 24)] 3 := ⟨wL_1027, wL_0, ⟨by decide +kernel, by decide +kernel⟩, by decide +kernel, by decide, wL_1026⟩
set_option maxHeartbeats 4000000 in
set_option maxRecDepth 100000 in
theorem lh_count {D : bm_D} {b0 d x o mc ms : Nat} {p1 : Int} {w : bm_W} {F : bm_Rt → bm_W → Prop} (l : Launch) (hl : l.stackTraces = false) (hx : bm_kt w x = 11) (hin : bm_InSt [bm_i p1]) (hcall : bm_Call bm_pg d y_X11_count (bm_r (some x) :: [bm_i p1]) w F) (hF : lh_H 1 22 o mc ms w F "java/lang/IndexOutOfBoundsException" "" false) : Met l yL_count (lh_ws yL_count cL_count 4 [(0, 9, 12, 24)]) (bm_rm (d + 1) mc ms) (lz_Pc D b0 [bm_r (some x), bm_i p1, bm_r (some o)] w) (bm_Qc D b0 (lh_G lh_i w o F "java/lang/IndexOutOfBoundsException" "")) mc ms (bm_A b0) := by
  refine bm_met_of (XC := bm_XC D b0 (lh_G lh_i w o F "java/lang/IndexOutOfBoundsException" "")) (vx_ofWH (cc := cL_count) (maxL := 4) (ret := some .int) (hh := [(0, 9, 12, 24)]) (ws' := bm_ALL) (by decide) rfl ?_) (fun E s t q => by obtain ⟨⟨w3, q1, -⟩, -⟩ := q; exact q1.no)
  intro p e s m args below meth c s₁ B hml hPc
  obtain ⟨⟨rfl, h1, h2, h3, h4⟩, hNc⟩ := hPc
  have hat := atoms_spec (ws := lh_ws yL_count cL_count 4 [(0, 9, 12, 24)]) B.pre
  have hX : lz_X D b0 d p l (headSpec (lh_ws yL_count cL_count 4 [(0, 9, 12, 24)]) (bm_rm (d + 1) mc ms)).room s m ([bm_r (some x), bm_i p1, bm_r (some o)].map (bm_val D)).toArray c cL_count 4 := ⟨⟨B.exec, B.bytes, hml, findClass_of_methodNamed B.named, fun w hw => hat w (List.mem_cons_of_mem _ hw)⟩, h3, h4, hNc, h1, Nat.le_refl _, Nat.le_of_eq (by show _ = 40 * (d + 1) + 400; omega), hl⟩
  have htab := vx_table (x := yL_count) B (hat _ List.mem_cons_self)
  have hx1 := hX.1.1
  have hb := hX.1.2.1
  have hts := hX.1.2.2.2.2
  have hlocks := B.notSynchronized
  have hr := B.returns
  have hS : va_S (bm_A b0) s.heap s.heap [] := va_S.rf
  refine lz_entry (Nat.le_of_ble_eq_true rfl) (fun ls hl => ?_)
  have hl : lv_has ls 4 [(0, .ref x), (1, .int (Int32.ofInt p1)), (2, .ref o)] := hl
  refine lv_aload_n hx1 hb dL_count_0 rfl (lv_at hl 2 rfl) ?_
  refine lv_iconst (v := Int32.ofInt 0) hx1 hb dL_count_1 rfl ?_
  refine lv_aload_n hx1 hb dL_count_2 rfl (lv_at hl 0 rfl) ?_
  refine lv_iload_n hx1 hb dL_count_3 rfl (lv_at hl 1 rfl) ?_
  refine W.eq (g2 := F0 m 4 ls (([bm_i p1].reverse ++ bm_r (some x) :: [bm_i 0, bm_r (some o)]).map (bm_val D))) rfl ?_
  refine lz_callV (as := [bm_i p1]) (rest := [bm_i 0, bm_r (some o)]) hX dL_count_4 bm_cw_140 bm_cl_11 wL_1029 wL_809 wL_810 hx rfl hin hcall (fun r w' q => (hF r w' q).1) h2 hS hl.1 (Nat.le_of_ble_eq_true rfl) ⟨Nat.le_of_eq (Nat.zero_add _), Nat.le_of_eq (Nat.zero_add _)⟩ (fun v w' hv H1 locs1 hH1 hS1 hi1 => ?_) (fun E w' hv H1 locs1 q ce hH1 hz1 hS1 hce hcv hcl => ?_)
  · obtain ⟨-, ht, hc⟩ := hF _ _ hv
    obtain ⟨x1, rfl⟩ := bm_typ1 ht
    have ho : bm_kt w' o = 22 ∧ bm_kn w' o = 1 := by
      rcases hc with ⟨_, _, h⟩ | hc | ⟨hc, _⟩
      · exact h
      · cases hc
      · cases hc
    have hxi := hi1 _ rfl
    refine W.eq (g2 := F0 m 7 ls [.int (Int32.ofInt x1), .int (Int32.ofInt 0), .ref o]) rfl ?_
    refine lv_i2l (v := Int64.ofInt x1) hx1 hb dL_count_7 (lz_i2l hxi) ?_
    refine lz_last hX ho.1 ho.2 (bm_I2L hxi) dL_count_8 hH1 hS1 (fun H2 locs2 hH2 hS2 => ?_)
    refine lv_goto (tgt := 15) hx1 hb dL_count_9 rfl ?_
    refine lv_iconst (v := Int32.ofInt 0) hx1 hb dL_count_15 rfl ?_
    exact lz_ret hX hr hlocks dL_count_16 bm_In0 (Or.inl ⟨_, w', hv, rfl, rfl⟩) hH2 hS2 (Nat.le_of_eq (Nat.zero_add _)) (Nat.le_of_eq (Nat.zero_add _))
  · have hsz : bm_sz w ≤ H1.size := by rw [← h2.1]; exact hz1
    rcases (hF _ _ hv).2.2 with ⟨v', hv', -⟩ | hE | ⟨hE, hb2⟩
    · cases hv'
    · cases hE
      refine vx_catch hX.1.2.2.2.1 [] ⟨0, 9, 12, 24⟩ [] htab (fun z hz => by cases hz) rfl (by decide) (hts _ wL_1028) (bm_nw_use rfl (hX.2.2.1.2.2.2.2.2.2.2.2 _ wM_819)) hce hcv hcl ?_
      refine lv_astore_n hx1 hb dL_count_12 rfl hl (by decide) rfl (fun ls1 hl1 => ?_)
      refine lv_iconst (v := Int32.ofInt 1) hx1 hb dL_count_13 rfl ?_
      exact lz_ret hX hr hlocks dL_count_14 bm_In1 (Or.inr (Or.inl ⟨w', H1.size, hsz, hv, rfl, rfl⟩)) (lz_HX hH1) hS1 (Nat.le_of_eq (Nat.zero_add _)) (Nat.le_of_eq (Nat.zero_add _))
    · cases hb2
theorem lo_fun : lh_ok yL_fun cL_fun 5 [(0, 10, 13, 24)] 4 := ⟨wL_1032, wL_0, ⟨by decide +kernel, by decide +kernel⟩, by decide +kernel, by decide, wL_1031⟩
set_option maxHeartbeats 4000000 in
set_option maxRecDepth 100000 in
theorem lh_fun {D : bm_D} {b0 d x o mc ms : Nat} {p1 p2 : Int} {w : bm_W} {F : bm_Rt → bm_W → Prop} (l : Launch) (hl : l.stackTraces = false) (hx : bm_kt w x = 11) (hin : bm_InSt [bm_i p1, bm_i p2]) (hcall : bm_Call bm_pg d y_X11_fun (bm_r (some x) :: [bm_i p1, bm_i p2]) w F) (hF : lh_H 1 22 o mc ms w F "java/lang/IndexOutOfBoundsException" "" false) : Met l yL_fun (lh_ws yL_fun cL_fun 5 [(0, 10, 13, 24)]) (bm_rm (d + 1) mc ms) (lz_Pc D b0 [bm_r (some x), bm_i p1, bm_i p2, bm_r (some o)] w) (bm_Qc D b0 (lh_G lh_i w o F "java/lang/IndexOutOfBoundsException" "")) mc ms (bm_A b0) := by
  refine bm_met_of (XC := bm_XC D b0 (lh_G lh_i w o F "java/lang/IndexOutOfBoundsException" "")) (vx_ofWH (cc := cL_fun) (maxL := 5) (ret := some .int) (hh := [(0, 10, 13, 24)]) (ws' := bm_ALL) (by decide) rfl ?_) (fun E s t q => by obtain ⟨⟨w3, q1, -⟩, -⟩ := q; exact q1.no)
  intro p e s m args below meth c s₁ B hml hPc
  obtain ⟨⟨rfl, h1, h2, h3, h4⟩, hNc⟩ := hPc
  have hat := atoms_spec (ws := lh_ws yL_fun cL_fun 5 [(0, 10, 13, 24)]) B.pre
  have hX : lz_X D b0 d p l (headSpec (lh_ws yL_fun cL_fun 5 [(0, 10, 13, 24)]) (bm_rm (d + 1) mc ms)).room s m ([bm_r (some x), bm_i p1, bm_i p2, bm_r (some o)].map (bm_val D)).toArray c cL_fun 5 := ⟨⟨B.exec, B.bytes, hml, findClass_of_methodNamed B.named, fun w hw => hat w (List.mem_cons_of_mem _ hw)⟩, h3, h4, hNc, h1, Nat.le_refl _, Nat.le_of_eq (by show _ = 40 * (d + 1) + 400; omega), hl⟩
  have htab := vx_table (x := yL_fun) B (hat _ List.mem_cons_self)
  have hx1 := hX.1.1
  have hb := hX.1.2.1
  have hts := hX.1.2.2.2.2
  have hlocks := B.notSynchronized
  have hr := B.returns
  have hS : va_S (bm_A b0) s.heap s.heap [] := va_S.rf
  refine lz_entry (Nat.le_of_ble_eq_true rfl) (fun ls hl => ?_)
  have hl : lv_has ls 5 [(0, .ref x), (1, .int (Int32.ofInt p1)), (2, .int (Int32.ofInt p2)), (3, .ref o)] := hl
  refine lv_aload_n hx1 hb dL_fun_0 rfl (lv_at hl 3 rfl) ?_
  refine lv_iconst (v := Int32.ofInt 0) hx1 hb dL_fun_1 rfl ?_
  refine lv_aload_n hx1 hb dL_fun_2 rfl (lv_at hl 0 rfl) ?_
  refine lv_iload_n hx1 hb dL_fun_3 rfl (lv_at hl 1 rfl) ?_
  refine lv_iload_n hx1 hb dL_fun_4 rfl (lv_at hl 2 rfl) ?_
  refine W.eq (g2 := F0 m 5 ls (([bm_i p1, bm_i p2].reverse ++ bm_r (some x) :: [bm_i 0, bm_r (some o)]).map (bm_val D))) rfl ?_
  refine lz_callV (as := [bm_i p1, bm_i p2]) (rest := [bm_i 0, bm_r (some o)]) hX dL_fun_5 bm_cw_141 bm_cl_11 wL_1033 wL_881 wL_882 hx rfl hin hcall (fun r w' q => (hF r w' q).1) h2 hS hl.1 (Nat.le_of_ble_eq_true rfl) ⟨Nat.le_of_eq (Nat.zero_add _), Nat.le_of_eq (Nat.zero_add _)⟩ (fun v w' hv H1 locs1 hH1 hS1 hi1 => ?_) (fun E w' hv H1 locs1 q ce hH1 hz1 hS1 hce hcv hcl => ?_)
  · obtain ⟨-, ht, hc⟩ := hF _ _ hv
    obtain ⟨x1, rfl⟩ := bm_typ1 ht
    have ho : bm_kt w' o = 22 ∧ bm_kn w' o = 1 := by
      rcases hc with ⟨_, _, h⟩ | hc | ⟨hc, _⟩
      · exact h
      · cases hc
      · cases hc
    have hxi := hi1 _ rfl
    refine W.eq (g2 := F0 m 8 ls [.int (Int32.ofInt x1), .int (Int32.ofInt 0), .ref o]) rfl ?_
    refine lv_i2l (v := Int64.ofInt x1) hx1 hb dL_fun_8 (lz_i2l hxi) ?_
    refine lz_last hX ho.1 ho.2 (bm_I2L hxi) dL_fun_9 hH1 hS1 (fun H2 locs2 hH2 hS2 => ?_)
    refine lv_goto (tgt := 17) hx1 hb dL_fun_10 rfl ?_
    refine lv_iconst (v := Int32.ofInt 0) hx1 hb dL_fun_17 rfl ?_
    exact lz_ret hX hr hlocks dL_fun_18 bm_In0 (Or.inl ⟨_, w', hv, rfl, rfl⟩) hH2 hS2 (Nat.le_of_eq (Nat.zero_add _)) (Nat.le_of_eq (Nat.zero_add _))
  · have hsz : bm_sz w ≤ H1.size := by rw [← h2.1]; exact hz1
    rcases (hF _ _ hv).2.2 with ⟨v', hv', -⟩ | hE | ⟨hE, hb2⟩
    · cases hv'
    · cases hE
      refine vx_catch hX.1.2.2.2.1 [] ⟨0, 10, 13, 24⟩ [] htab (fun z hz => by cases hz) rfl (by decide) (hts _ wL_1028) (bm_nw_use rfl (hX.2.2.1.2.2.2.2.2.2.2.2 _ wM_819)) hce hcv hcl ?_
      refine lv_astore hx1 hb dL_fun_13 hl (by decide) rfl (fun ls1 hl1 => ?_)
      refine lv_iconst (v := Int32.ofInt 1) hx1 hb dL_fun_15 rfl ?_
      exact lz_ret hX hr hlocks dL_fun_16 bm_In1 (Or.inr (Or.inl ⟨w', H1.size, hsz, hv, rfl, rfl⟩)) (lz_HX hH1) hS1 (Nat.le_of_eq (Nat.zero_add _)) (Nat.le_of_eq (Nat.zero_add _))
    · cases hb2
theorem lo_call : lh_ok yL_call cL_call 7 [(0, 13, 16, 24), (0, 13, 20, 13)] 6 := ⟨wL_1036, wL_0, ⟨by decide +kernel, by decide +kernel⟩, by decide +kernel, by decide, wL_1035⟩
set_option maxHeartbeats 4000000 in
set_option maxRecDepth 100000 in
theorem lh_call {D : bm_D} {b0 d x o mc ms : Nat} {p1 p2 p3 p4 : Int} {w : bm_W} {F : bm_Rt → bm_W → Prop} (l : Launch) (hl : l.stackTraces = false) (hx : bm_kt w x = 11) (hin : bm_InSt [bm_i p1, bm_i p2, bm_i p3, bm_i p4]) (hcall : bm_Call bm_pg d y_X11_call (bm_r (some x) :: [bm_i p1, bm_i p2, bm_i p3, bm_i p4]) w F) (hF : lh_H 3 22 o mc ms w F "java/lang/IndexOutOfBoundsException" "java/lang/IllegalStateException" true) : Met l yL_call (lh_ws yL_call cL_call 7 [(0, 13, 16, 24), (0, 13, 20, 13)]) (bm_rm (d + 1) mc ms) (lz_Pc D b0 [bm_r (some x), bm_i p1, bm_i p2, bm_i p3, bm_i p4, bm_r (some o)] w) (bm_Qc D b0 (lh_G lh_l w o F "java/lang/IndexOutOfBoundsException" "java/lang/IllegalStateException")) mc ms (bm_A b0) := by
  refine bm_met_of (XC := bm_XC D b0 (lh_G lh_l w o F "java/lang/IndexOutOfBoundsException" "java/lang/IllegalStateException")) (vx_ofWH (cc := cL_call) (maxL := 7) (ret := some .int) (hh := [(0, 13, 16, 24), (0, 13, 20, 13)]) (ws' := bm_ALL) (by decide) rfl ?_) (fun E s t q => by obtain ⟨⟨w3, q1, -⟩, -⟩ := q; exact q1.no)
  intro p e s m args below meth c s₁ B hml hPc
  obtain ⟨⟨rfl, h1, h2, h3, h4⟩, hNc⟩ := hPc
  have hat := atoms_spec (ws := lh_ws yL_call cL_call 7 [(0, 13, 16, 24), (0, 13, 20, 13)]) B.pre
  have hX : lz_X D b0 d p l (headSpec (lh_ws yL_call cL_call 7 [(0, 13, 16, 24), (0, 13, 20, 13)]) (bm_rm (d + 1) mc ms)).room s m ([bm_r (some x), bm_i p1, bm_i p2, bm_i p3, bm_i p4, bm_r (some o)].map (bm_val D)).toArray c cL_call 7 := ⟨⟨B.exec, B.bytes, hml, findClass_of_methodNamed B.named, fun w hw => hat w (List.mem_cons_of_mem _ hw)⟩, h3, h4, hNc, h1, Nat.le_refl _, Nat.le_of_eq (by show _ = 40 * (d + 1) + 400; omega), hl⟩
  have htab := vx_table (x := yL_call) B (hat _ List.mem_cons_self)
  have hx1 := hX.1.1
  have hb := hX.1.2.1
  have hts := hX.1.2.2.2.2
  have hlocks := B.notSynchronized
  have hr := B.returns
  have hS : va_S (bm_A b0) s.heap s.heap [] := va_S.rf
  refine lz_entry (Nat.le_of_ble_eq_true rfl) (fun ls hl => ?_)
  have hl : lv_has ls 7 [(0, .ref x), (1, .int (Int32.ofInt p1)), (2, .int (Int32.ofInt p2)), (3, .int (Int32.ofInt p3)), (4, .int (Int32.ofInt p4)), (5, .ref o)] := hl
  refine lv_aload hx1 hb dL_call_0 (lv_at hl 5 rfl) ?_
  refine lv_iconst (v := Int32.ofInt 0) hx1 hb dL_call_2 rfl ?_
  refine lv_aload_n hx1 hb dL_call_3 rfl (lv_at hl 0 rfl) ?_
  refine lv_iload_n hx1 hb dL_call_4 rfl (lv_at hl 1 rfl) ?_
  refine lv_iload_n hx1 hb dL_call_5 rfl (lv_at hl 2 rfl) ?_
  refine lv_iload_n hx1 hb dL_call_6 rfl (lv_at hl 3 rfl) ?_
  refine lv_iload hx1 hb dL_call_7 (lv_at hl 4 rfl) ?_
  refine W.eq (g2 := F0 m 9 ls (([bm_i p1, bm_i p2, bm_i p3, bm_i p4].reverse ++ bm_r (some x) :: [bm_i 0, bm_r (some o)]).map (bm_val D))) rfl ?_
  refine lz_callV (as := [bm_i p1, bm_i p2, bm_i p3, bm_i p4]) (rest := [bm_i 0, bm_r (some o)]) hX dL_call_9 bm_cw_142 bm_cl_11 wL_1037 wL_1038 wL_1039 hx rfl hin hcall (fun r w' q => (hF r w' q).1) h2 hS hl.1 (Nat.le_of_ble_eq_true rfl) ⟨Nat.le_of_eq (Nat.zero_add _), Nat.le_of_eq (Nat.zero_add _)⟩ (fun v w' hv H1 locs1 hH1 hS1 hi1 => ?_) (fun E w' hv H1 locs1 q ce hH1 hz1 hS1 hce hcv hcl => ?_)
  · obtain ⟨-, ht, hc⟩ := hF _ _ hv
    obtain ⟨x1, rfl⟩ := bm_typ3 ht
    have ho : bm_kt w' o = 22 ∧ bm_kn w' o = 1 := by
      rcases hc with ⟨_, _, h⟩ | hc | ⟨hc, _⟩
      · exact h
      · cases hc
      · cases hc
    have hxi := hi1 _ rfl
    refine W.eq (g2 := F0 m 12 ls [.long (Int64.ofInt x1), .int (Int32.ofInt 0), .ref o]) rfl ?_
    refine lz_last hX ho.1 ho.2 hxi dL_call_12 hH1 hS1 (fun H2 locs2 hH2 hS2 => ?_)
    refine lv_goto (tgt := 24) hx1 hb dL_call_13 rfl ?_
    refine lv_iconst (v := Int32.ofInt 0) hx1 hb dL_call_24 rfl ?_
    exact lz_ret hX hr hlocks dL_call_25 bm_In0 (Or.inl ⟨_, w', hv, rfl, rfl⟩) hH2 hS2 (Nat.le_of_eq (Nat.zero_add _)) (Nat.le_of_eq (Nat.zero_add _))
  · have hsz : bm_sz w ≤ H1.size := by rw [← h2.1]; exact hz1
    rcases (hF _ _ hv).2.2 with ⟨v', hv', -⟩ | hE | ⟨hE, hb2⟩
    · cases hv'
    · cases hE
      refine vx_catch hX.1.2.2.2.1 [] ⟨0, 13, 16, 24⟩ [⟨0, 13, 20, 13⟩] htab (fun z hz => by cases hz) rfl (by decide) (hts _ wL_1028) (bm_nw_use rfl (hX.2.2.1.2.2.2.2.2.2.2.2 _ wM_819)) hce hcv hcl ?_
      refine lv_astore hx1 hb dL_call_16 hl (by decide) rfl (fun ls1 hl1 => ?_)
      refine lv_iconst (v := Int32.ofInt 1) hx1 hb dL_call_18 rfl ?_
      exact lz_ret hX hr hlocks dL_call_19 bm_In1 (Or.inr (Or.inl ⟨w', H1.size, hsz, hv, rfl, rfl⟩)) (lz_HX hH1) hS1 (Nat.le_of_eq (Nat.zero_add _)) (Nat.le_of_eq (Nat.zero_add _))
    · cases hE
      refine vx_catch hX.1.2.2.2.1 [⟨0, 13, 16, 24⟩] ⟨0, 13, 20, 13⟩ [] htab (fun z hz => by rw [List.mem_singleton.mp hz]; exact Or.inr ⟨by decide, _, hts _ wL_1028, hNc⟩) rfl (by decide) (hts _ wL_974) (bm_nw_use rfl (hX.2.2.1.2.2.2.2.2.2.2.2 _ wM_985)) hce hcv hcl ?_
      refine lv_astore hx1 hb dL_call_20 hl (by decide) rfl (fun ls1 hl1 => ?_)
      refine lv_iconst (v := Int32.ofInt 2) hx1 hb dL_call_22 rfl ?_
      exact lz_ret hX hr hlocks dL_call_23 bm_In2 (Or.inr (Or.inr ⟨w', H1.size, hsz, hv, rfl, rfl⟩)) (lz_HX hH1) hS1 (Nat.le_of_eq (Nat.zero_add _)) (Nat.le_of_eq (Nat.zero_add _))
theorem lo_callChanged : lh_ok yL_callChanged cL_callChanged 8 [(0, 15, 18, 24), (0, 15, 22, 13)] 7 := ⟨wL_1049, wL_0, ⟨by decide +kernel, by decide +kernel⟩, by decide +kernel, by decide, wL_1048⟩
set_option maxHeartbeats 4000000 in
set_option maxRecDepth 100000 in
theorem lh_callChanged {D : bm_D} {b0 d x o mc ms : Nat} {p1 p2 p3 p4 p5 : Int} {w : bm_W} {F : bm_Rt → bm_W → Prop} (l : Launch) (hl : l.stackTraces = false) (hx : bm_kt w x = 11) (hin : bm_InSt [bm_i p1, bm_i p2, bm_i p3, bm_i p4, bm_i p5]) (hcall : bm_Call bm_pg d y_X11_callChanged (bm_r (some x) :: [bm_i p1, bm_i p2, bm_i p3, bm_i p4, bm_i p5]) w F) (hF : lh_H 3 22 o mc ms w F "java/lang/IndexOutOfBoundsException" "java/lang/IllegalStateException" true) : Met l yL_callChanged (lh_ws yL_callChanged cL_callChanged 8 [(0, 15, 18, 24), (0, 15, 22, 13)]) (bm_rm (d + 1) mc ms) (lz_Pc D b0 [bm_r (some x), bm_i p1, bm_i p2, bm_i p3, bm_i p4, bm_i p5, bm_r (some o)] w) (bm_Qc D b0 (lh_G lh_l w o F "java/lang/IndexOutOfBoundsException" "java/lang/IllegalStateException")) mc ms (bm_A b0) := by
  refine bm_met_of (XC := bm_XC D b0 (lh_G lh_l w o F "java/lang/IndexOutOfBoundsException" "java/lang/IllegalStateException")) (vx_ofWH (cc := cL_callChanged) (maxL := 8) (ret := some .int) (hh := [(0, 15, 18, 24), (0, 15, 22, 13)]) (ws' := bm_ALL) (by decide) rfl ?_) (fun E s t q => by obtain ⟨⟨w3, q1, -⟩, -⟩ := q; exact q1.no)
  intro p e s m args below meth c s₁ B hml hPc
  obtain ⟨⟨rfl, h1, h2, h3, h4⟩, hNc⟩ := hPc
  have hat := atoms_spec (ws := lh_ws yL_callChanged cL_callChanged 8 [(0, 15, 18, 24), (0, 15, 22, 13)]) B.pre
  have hX : lz_X D b0 d p l (headSpec (lh_ws yL_callChanged cL_callChanged 8 [(0, 15, 18, 24), (0, 15, 22, 13)]) (bm_rm (d + 1) mc ms)).room s m ([bm_r (some x), bm_i p1, bm_i p2, bm_i p3, bm_i p4, bm_i p5, bm_r (some o)].map (bm_val D)).toArray c cL_callChanged 8 := ⟨⟨B.exec, B.bytes, hml, findClass_of_methodNamed B.named, fun w hw => hat w (List.mem_cons_of_mem _ hw)⟩, h3, h4, hNc, h1, Nat.le_refl _, Nat.le_of_eq (by show _ = 40 * (d + 1) + 400; omega), hl⟩
  have htab := vx_table (x := yL_callChanged) B (hat _ List.mem_cons_self)
  have hx1 := hX.1.1
  have hb := hX.1.2.1
  have hts := hX.1.2.2.2.2
  have hlocks := B.notSynchronized
  have hr := B.returns
  have hS : va_S (bm_A b0) s.heap s.heap [] := va_S.rf
  refine lz_entry (Nat.le_of_ble_eq_true rfl) (fun ls hl => ?_)
  have hl : lv_has ls 8 [(0, .ref x), (1, .int (Int32.ofInt p1)), (2, .int (Int32.ofInt p2)), (3, .int (Int32.ofInt p3)), (4, .int (Int32.ofInt p4)), (5, .int (Int32.ofInt p5)), (6, .ref o)] := hl
  refine lv_aload hx1 hb dL_callChanged_0 (lv_at hl 6 rfl) ?_
  refine lv_iconst (v := Int32.ofInt 0) hx1 hb dL_callChanged_2 rfl ?_
  refine lv_aload_n hx1 hb dL_callChanged_3 rfl (lv_at hl 0 rfl) ?_
  refine lv_iload_n hx1 hb dL_callChanged_4 rfl (lv_at hl 1 rfl) ?_
  refine lv_iload_n hx1 hb dL_callChanged_5 rfl (lv_at hl 2 rfl) ?_
  refine lv_iload_n hx1 hb dL_callChanged_6 rfl (lv_at hl 3 rfl) ?_
  refine lv_iload hx1 hb dL_callChanged_7 (lv_at hl 4 rfl) ?_
  refine lv_iload hx1 hb dL_callChanged_9 (lv_at hl 5 rfl) ?_
  refine W.eq (g2 := F0 m 11 ls (([bm_i p1, bm_i p2, bm_i p3, bm_i p4, bm_i p5].reverse ++ bm_r (some x) :: [bm_i 0, bm_r (some o)]).map (bm_val D))) rfl ?_
  refine lz_callV (as := [bm_i p1, bm_i p2, bm_i p3, bm_i p4, bm_i p5]) (rest := [bm_i 0, bm_r (some o)]) hX dL_callChanged_11 bm_cw_143 bm_cl_11 wL_1050 wL_1051 wL_1052 hx rfl hin hcall (fun r w' q => (hF r w' q).1) h2 hS hl.1 (Nat.le_of_ble_eq_true rfl) ⟨Nat.le_of_eq (Nat.zero_add _), Nat.le_of_eq (Nat.zero_add _)⟩ (fun v w' hv H1 locs1 hH1 hS1 hi1 => ?_) (fun E w' hv H1 locs1 q ce hH1 hz1 hS1 hce hcv hcl => ?_)
  · obtain ⟨-, ht, hc⟩ := hF _ _ hv
    obtain ⟨x1, rfl⟩ := bm_typ3 ht
    have ho : bm_kt w' o = 22 ∧ bm_kn w' o = 1 := by
      rcases hc with ⟨_, _, h⟩ | hc | ⟨hc, _⟩
      · exact h
      · cases hc
      · cases hc
    have hxi := hi1 _ rfl
    refine W.eq (g2 := F0 m 14 ls [.long (Int64.ofInt x1), .int (Int32.ofInt 0), .ref o]) rfl ?_
    refine lz_last hX ho.1 ho.2 hxi dL_callChanged_14 hH1 hS1 (fun H2 locs2 hH2 hS2 => ?_)
    refine lv_goto (tgt := 26) hx1 hb dL_callChanged_15 rfl ?_
    refine lv_iconst (v := Int32.ofInt 0) hx1 hb dL_callChanged_26 rfl ?_
    exact lz_ret hX hr hlocks dL_callChanged_27 bm_In0 (Or.inl ⟨_, w', hv, rfl, rfl⟩) hH2 hS2 (Nat.le_of_eq (Nat.zero_add _)) (Nat.le_of_eq (Nat.zero_add _))
  · have hsz : bm_sz w ≤ H1.size := by rw [← h2.1]; exact hz1
    rcases (hF _ _ hv).2.2 with ⟨v', hv', -⟩ | hE | ⟨hE, hb2⟩
    · cases hv'
    · cases hE
      refine vx_catch hX.1.2.2.2.1 [] ⟨0, 15, 18, 24⟩ [⟨0, 15, 22, 13⟩] htab (fun z hz => by cases hz) rfl (by decide) (hts _ wL_1028) (bm_nw_use rfl (hX.2.2.1.2.2.2.2.2.2.2.2 _ wM_819)) hce hcv hcl ?_
      refine lv_astore hx1 hb dL_callChanged_18 hl (by decide) rfl (fun ls1 hl1 => ?_)
      refine lv_iconst (v := Int32.ofInt 1) hx1 hb dL_callChanged_20 rfl ?_
      exact lz_ret hX hr hlocks dL_callChanged_21 bm_In1 (Or.inr (Or.inl ⟨w', H1.size, hsz, hv, rfl, rfl⟩)) (lz_HX hH1) hS1 (Nat.le_of_eq (Nat.zero_add _)) (Nat.le_of_eq (Nat.zero_add _))
    · cases hE
      refine vx_catch hX.1.2.2.2.1 [⟨0, 15, 18, 24⟩] ⟨0, 15, 22, 13⟩ [] htab (fun z hz => by rw [List.mem_singleton.mp hz]; exact Or.inr ⟨by decide, _, hts _ wL_1028, hNc⟩) rfl (by decide) (hts _ wL_974) (bm_nw_use rfl (hX.2.2.1.2.2.2.2.2.2.2.2 _ wM_985)) hce hcv hcl ?_
      refine lv_astore hx1 hb dL_callChanged_22 hl (by decide) rfl (fun ls1 hl1 => ?_)
      refine lv_iconst (v := Int32.ofInt 2) hx1 hb dL_callChanged_24 rfl ?_
      exact lz_ret hX hr hlocks dL_callChanged_25 bm_In2 (Or.inr (Or.inr ⟨w', H1.size, hsz, hv, rfl, rfl⟩)) (lz_HX hH1) hS1 (Nat.le_of_eq (Nat.zero_add _)) (Nat.le_of_eq (Nat.zero_add _))
theorem lo_inputOf : lh_ok yL_inputOf cL_inputOf 6 [(0, 12, 15, 24)] 5 := ⟨wL_1056, wL_0, ⟨by decide +kernel, by decide +kernel⟩, by decide +kernel, by decide, wL_1055⟩
set_option maxHeartbeats 4000000 in
set_option maxRecDepth 100000 in
theorem lh_inputOf {D : bm_D} {b0 d x o mc ms : Nat} {p1 p2 p3 : Int} {w : bm_W} {F : bm_Rt → bm_W → Prop} (l : Launch) (hl : l.stackTraces = false) (hx : bm_kt w x = 11) (hin : bm_InSt [bm_i p1, bm_i p2, bm_i p3]) (hcall : bm_Call bm_pg d y_X11_inputOf (bm_r (some x) :: [bm_i p1, bm_i p2, bm_i p3]) w F) (hF : lh_H 1 22 o mc ms w F "java/lang/IndexOutOfBoundsException" "" false) : Met l yL_inputOf (lh_ws yL_inputOf cL_inputOf 6 [(0, 12, 15, 24)]) (bm_rm (d + 1) mc ms) (lz_Pc D b0 [bm_r (some x), bm_i p1, bm_i p2, bm_i p3, bm_r (some o)] w) (bm_Qc D b0 (lh_G lh_i w o F "java/lang/IndexOutOfBoundsException" "")) mc ms (bm_A b0) := by
  refine bm_met_of (XC := bm_XC D b0 (lh_G lh_i w o F "java/lang/IndexOutOfBoundsException" "")) (vx_ofWH (cc := cL_inputOf) (maxL := 6) (ret := some .int) (hh := [(0, 12, 15, 24)]) (ws' := bm_ALL) (by decide) rfl ?_) (fun E s t q => by obtain ⟨⟨w3, q1, -⟩, -⟩ := q; exact q1.no)
  intro p e s m args below meth c s₁ B hml hPc
  obtain ⟨⟨rfl, h1, h2, h3, h4⟩, hNc⟩ := hPc
  have hat := atoms_spec (ws := lh_ws yL_inputOf cL_inputOf 6 [(0, 12, 15, 24)]) B.pre
  have hX : lz_X D b0 d p l (headSpec (lh_ws yL_inputOf cL_inputOf 6 [(0, 12, 15, 24)]) (bm_rm (d + 1) mc ms)).room s m ([bm_r (some x), bm_i p1, bm_i p2, bm_i p3, bm_r (some o)].map (bm_val D)).toArray c cL_inputOf 6 := ⟨⟨B.exec, B.bytes, hml, findClass_of_methodNamed B.named, fun w hw => hat w (List.mem_cons_of_mem _ hw)⟩, h3, h4, hNc, h1, Nat.le_refl _, Nat.le_of_eq (by show _ = 40 * (d + 1) + 400; omega), hl⟩
  have htab := vx_table (x := yL_inputOf) B (hat _ List.mem_cons_self)
  have hx1 := hX.1.1
  have hb := hX.1.2.1
  have hts := hX.1.2.2.2.2
  have hlocks := B.notSynchronized
  have hr := B.returns
  have hS : va_S (bm_A b0) s.heap s.heap [] := va_S.rf
  refine lz_entry (Nat.le_of_ble_eq_true rfl) (fun ls hl => ?_)
  have hl : lv_has ls 6 [(0, .ref x), (1, .int (Int32.ofInt p1)), (2, .int (Int32.ofInt p2)), (3, .int (Int32.ofInt p3)), (4, .ref o)] := hl
  refine lv_aload hx1 hb dL_inputOf_0 (lv_at hl 4 rfl) ?_
  refine lv_iconst (v := Int32.ofInt 0) hx1 hb dL_inputOf_2 rfl ?_
  refine lv_aload_n hx1 hb dL_inputOf_3 rfl (lv_at hl 0 rfl) ?_
  refine lv_iload_n hx1 hb dL_inputOf_4 rfl (lv_at hl 1 rfl) ?_
  refine lv_iload_n hx1 hb dL_inputOf_5 rfl (lv_at hl 2 rfl) ?_
  refine lv_iload_n hx1 hb dL_inputOf_6 rfl (lv_at hl 3 rfl) ?_
  refine W.eq (g2 := F0 m 7 ls (([bm_i p1, bm_i p2, bm_i p3].reverse ++ bm_r (some x) :: [bm_i 0, bm_r (some o)]).map (bm_val D))) rfl ?_
  refine lz_callV (as := [bm_i p1, bm_i p2, bm_i p3]) (rest := [bm_i 0, bm_r (some o)]) hX dL_inputOf_7 bm_cw_144 bm_cl_11 wL_1057 wL_1058 wL_1059 hx rfl hin hcall (fun r w' q => (hF r w' q).1) h2 hS hl.1 (Nat.le_of_ble_eq_true rfl) ⟨Nat.le_of_eq (Nat.zero_add _), Nat.le_of_eq (Nat.zero_add _)⟩ (fun v w' hv H1 locs1 hH1 hS1 hi1 => ?_) (fun E w' hv H1 locs1 q ce hH1 hz1 hS1 hce hcv hcl => ?_)
  · obtain ⟨-, ht, hc⟩ := hF _ _ hv
    obtain ⟨x1, rfl⟩ := bm_typ1 ht
    have ho : bm_kt w' o = 22 ∧ bm_kn w' o = 1 := by
      rcases hc with ⟨_, _, h⟩ | hc | ⟨hc, _⟩
      · exact h
      · cases hc
      · cases hc
    have hxi := hi1 _ rfl
    refine W.eq (g2 := F0 m 10 ls [.int (Int32.ofInt x1), .int (Int32.ofInt 0), .ref o]) rfl ?_
    refine lv_i2l (v := Int64.ofInt x1) hx1 hb dL_inputOf_10 (lz_i2l hxi) ?_
    refine lz_last hX ho.1 ho.2 (bm_I2L hxi) dL_inputOf_11 hH1 hS1 (fun H2 locs2 hH2 hS2 => ?_)
    refine lv_goto (tgt := 19) hx1 hb dL_inputOf_12 rfl ?_
    refine lv_iconst (v := Int32.ofInt 0) hx1 hb dL_inputOf_19 rfl ?_
    exact lz_ret hX hr hlocks dL_inputOf_20 bm_In0 (Or.inl ⟨_, w', hv, rfl, rfl⟩) hH2 hS2 (Nat.le_of_eq (Nat.zero_add _)) (Nat.le_of_eq (Nat.zero_add _))
  · have hsz : bm_sz w ≤ H1.size := by rw [← h2.1]; exact hz1
    rcases (hF _ _ hv).2.2 with ⟨v', hv', -⟩ | hE | ⟨hE, hb2⟩
    · cases hv'
    · cases hE
      refine vx_catch hX.1.2.2.2.1 [] ⟨0, 12, 15, 24⟩ [] htab (fun z hz => by cases hz) rfl (by decide) (hts _ wL_1028) (bm_nw_use rfl (hX.2.2.1.2.2.2.2.2.2.2.2 _ wM_819)) hce hcv hcl ?_
      refine lv_astore hx1 hb dL_inputOf_15 hl (by decide) rfl (fun ls1 hl1 => ?_)
      refine lv_iconst (v := Int32.ofInt 1) hx1 hb dL_inputOf_17 rfl ?_
      exact lz_ret hX hr hlocks dL_inputOf_18 bm_In1 (Or.inr (Or.inl ⟨w', H1.size, hsz, hv, rfl, rfl⟩)) (lz_HX hH1) hS1 (Nat.le_of_eq (Nat.zero_add _)) (Nat.le_of_eq (Nat.zero_add _))
    · cases hb2
theorem lo_propose : lh_ok yL_propose cL_propose 4 [(0, 9, 12, 24)] 3 := ⟨wL_1064, wL_0, ⟨by decide +kernel, by decide +kernel⟩, by decide +kernel, by decide, wL_1063⟩
set_option maxHeartbeats 4000000 in
set_option maxRecDepth 100000 in
theorem lh_propose {D : bm_D} {b0 d x o mc ms : Nat} {p1 : Int} {w : bm_W} {F : bm_Rt → bm_W → Prop} (l : Launch) (hl : l.stackTraces = false) (hx : bm_kt w x = 11) (hin : bm_InSt [bm_i p1]) (hcall : bm_Call bm_pg d y_X11_propose (bm_r (some x) :: [bm_i p1]) w F) (hF : lh_H 1 22 o mc ms w F "java/lang/IndexOutOfBoundsException" "" false) : Met l yL_propose (lh_ws yL_propose cL_propose 4 [(0, 9, 12, 24)]) (bm_rm (d + 1) mc ms) (lz_Pc D b0 [bm_r (some x), bm_i p1, bm_r (some o)] w) (bm_Qc D b0 (lh_G lh_i w o F "java/lang/IndexOutOfBoundsException" "")) mc ms (bm_A b0) := by
  refine bm_met_of (XC := bm_XC D b0 (lh_G lh_i w o F "java/lang/IndexOutOfBoundsException" "")) (vx_ofWH (cc := cL_propose) (maxL := 4) (ret := some .int) (hh := [(0, 9, 12, 24)]) (ws' := bm_ALL) (by decide) rfl ?_) (fun E s t q => by obtain ⟨⟨w3, q1, -⟩, -⟩ := q; exact q1.no)
  intro p e s m args below meth c s₁ B hml hPc
  obtain ⟨⟨rfl, h1, h2, h3, h4⟩, hNc⟩ := hPc
  have hat := atoms_spec (ws := lh_ws yL_propose cL_propose 4 [(0, 9, 12, 24)]) B.pre
  have hX : lz_X D b0 d p l (headSpec (lh_ws yL_propose cL_propose 4 [(0, 9, 12, 24)]) (bm_rm (d + 1) mc ms)).room s m ([bm_r (some x), bm_i p1, bm_r (some o)].map (bm_val D)).toArray c cL_propose 4 := ⟨⟨B.exec, B.bytes, hml, findClass_of_methodNamed B.named, fun w hw => hat w (List.mem_cons_of_mem _ hw)⟩, h3, h4, hNc, h1, Nat.le_refl _, Nat.le_of_eq (by show _ = 40 * (d + 1) + 400; omega), hl⟩
  have htab := vx_table (x := yL_propose) B (hat _ List.mem_cons_self)
  have hx1 := hX.1.1
  have hb := hX.1.2.1
  have hts := hX.1.2.2.2.2
  have hlocks := B.notSynchronized
  have hr := B.returns
  have hS : va_S (bm_A b0) s.heap s.heap [] := va_S.rf
  refine lz_entry (Nat.le_of_ble_eq_true rfl) (fun ls hl => ?_)
  have hl : lv_has ls 4 [(0, .ref x), (1, .int (Int32.ofInt p1)), (2, .ref o)] := hl
  refine lv_aload_n hx1 hb dL_propose_0 rfl (lv_at hl 2 rfl) ?_
  refine lv_iconst (v := Int32.ofInt 0) hx1 hb dL_propose_1 rfl ?_
  refine lv_aload_n hx1 hb dL_propose_2 rfl (lv_at hl 0 rfl) ?_
  refine lv_iload_n hx1 hb dL_propose_3 rfl (lv_at hl 1 rfl) ?_
  refine W.eq (g2 := F0 m 4 ls (([bm_i p1].reverse ++ bm_r (some x) :: [bm_i 0, bm_r (some o)]).map (bm_val D))) rfl ?_
  refine lz_callV (as := [bm_i p1]) (rest := [bm_i 0, bm_r (some o)]) hX dL_propose_4 bm_cw_145 bm_cl_11 wL_1065 wL_1066 wL_1067 hx rfl hin hcall (fun r w' q => (hF r w' q).1) h2 hS hl.1 (Nat.le_of_ble_eq_true rfl) ⟨Nat.le_of_eq (Nat.zero_add _), Nat.le_of_eq (Nat.zero_add _)⟩ (fun v w' hv H1 locs1 hH1 hS1 hi1 => ?_) (fun E w' hv H1 locs1 q ce hH1 hz1 hS1 hce hcv hcl => ?_)
  · obtain ⟨-, ht, hc⟩ := hF _ _ hv
    obtain ⟨x1, rfl⟩ := bm_typ1 ht
    have ho : bm_kt w' o = 22 ∧ bm_kn w' o = 1 := by
      rcases hc with ⟨_, _, h⟩ | hc | ⟨hc, _⟩
      · exact h
      · cases hc
      · cases hc
    have hxi := hi1 _ rfl
    refine W.eq (g2 := F0 m 7 ls [.int (Int32.ofInt x1), .int (Int32.ofInt 0), .ref o]) rfl ?_
    refine lv_i2l (v := Int64.ofInt x1) hx1 hb dL_propose_7 (lz_i2l hxi) ?_
    refine lz_last hX ho.1 ho.2 (bm_I2L hxi) dL_propose_8 hH1 hS1 (fun H2 locs2 hH2 hS2 => ?_)
    refine lv_goto (tgt := 15) hx1 hb dL_propose_9 rfl ?_
    refine lv_iconst (v := Int32.ofInt 0) hx1 hb dL_propose_15 rfl ?_
    exact lz_ret hX hr hlocks dL_propose_16 bm_In0 (Or.inl ⟨_, w', hv, rfl, rfl⟩) hH2 hS2 (Nat.le_of_eq (Nat.zero_add _)) (Nat.le_of_eq (Nat.zero_add _))
  · have hsz : bm_sz w ≤ H1.size := by rw [← h2.1]; exact hz1
    rcases (hF _ _ hv).2.2 with ⟨v', hv', -⟩ | hE | ⟨hE, hb2⟩
    · cases hv'
    · cases hE
      refine vx_catch hX.1.2.2.2.1 [] ⟨0, 9, 12, 24⟩ [] htab (fun z hz => by cases hz) rfl (by decide) (hts _ wL_1028) (bm_nw_use rfl (hX.2.2.1.2.2.2.2.2.2.2.2 _ wM_819)) hce hcv hcl ?_
      refine lv_astore_n hx1 hb dL_propose_12 rfl hl (by decide) rfl (fun ls1 hl1 => ?_)
      refine lv_iconst (v := Int32.ofInt 1) hx1 hb dL_propose_13 rfl ?_
      exact lz_ret hX hr hlocks dL_propose_14 bm_In1 (Or.inr (Or.inl ⟨w', H1.size, hsz, hv, rfl, rfl⟩)) (lz_HX hH1) hS1 (Nat.le_of_eq (Nat.zero_add _)) (Nat.le_of_eq (Nat.zero_add _))
    · cases hb2

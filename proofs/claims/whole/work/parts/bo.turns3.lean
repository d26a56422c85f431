/-! ===== the law's turns (laid by gen_law.py) ===== -/
section LT
variable {D : bm_D} {b t a L n : Nat} {xs : Nat → Int32} {p : Program} {l : Launch} {e : Env} {s : State} {m : MethodId} {args : Array Value} {below : List Frame} {meth : Method} {c : Code} {H : Heap} {locs : List Loc} {cells slots : Nat} {Q : State → Prop} {ls : Array Slot} {w : bm_W} {i : Int}
set_option maxHeartbeats 8000000 in
set_option maxRecDepth 100000 in
theorem lt_score (C : lz_C D p l s m args c a L xs) (hH : bm_HR D s.heap.size w H) (hS : va_S (bm_A s.heap.size) s.heap H locs) (hJ : lJ b t n w) (hK : lt_K b t w) (hl : lv_has ls 9 (lz_lo a b t i)) (hi : 0 ≤ i) (hL : i.toNat + 6 ≤ L) (hf : cells + n + 420 ≤ 601024) (hg : slots + 3 * n + 8100 ≤ 7293034) (kk : lz_K D p l e s m args below meth c a b t n i cells slots Q) : W p l e room_1 s m args below meth c H locs cells slots Q (F0 m 1158 ls []) := by
  have hX := C.1
  have hx := hX.1.1
  have hb := hX.1.2.1
  obtain ⟨B, pr, nI, Dt, ev, hJ0⟩ := hJ
  have hL15 : n ≤ 1500 := hJ0.1.2.2.1
  refine lv_aload_n hx hb dL_law_1158 rfl (lv_at hl 4 rfl) ?_
  refine lz_ld (k := 1) C hS (lv_at hl 5 rfl) (lv_at hl 0 rfl) hi hL (by decide) dL_law_1159 dL_law_1160 dL_law_1162 dL_law_1163 dL_law_1164 ?_
  refine lv_aload hx hb dL_law_1165 (lv_at hl 1 rfl) ?_
  refine W.eq (g2 := F0 m 1167 ls ((([bm_r (some b), bm_i (lz_v xs i 1), bm_r (some (t + 155))] : List bm_V).reverse ++ []).map (bm_val D))) rfl ?_
  have hcl := lz_F1 (κ := 4) (fun E2 => la_score (d := 0) (E2 := E2) (x := (lz_v xs i 1)) hJ0) (by decide +kernel) (by decide)
  refine lz_callH (as := [bm_r (some b), bm_i (lz_v xs i 1), bm_r (some (t + 155))]) (rest := []) (mc := 340) (ms := 1100) hX dL_law_1167 lo_score wL_1139 (lh_score (d := 1300) l hX.2.2.2.2.2.2.2 hK.2.2.2.2.2.2.2 (bm_InSt.cons (v := bm_i (lz_v xs i 1)) (lz_vin xs i 1) bm_InSt_nil) hcl (lh_H_of hK (Or.inr ⟨rfl, rfl⟩))) rfl hH hS hl.1 (Nat.le_of_ble_eq_true rfl) ⟨by show cells + 340 ≤ 601024; omega, by show slots + 1100 ≤ 7293034; omega⟩ (fun v w2 hG H2 locs2 hH2 hS2 hin2 => ?_)
  obtain ⟨k, hk0, hk2, hv, hK2, hmc⟩ := lt_of hK (Or.inr rfl) (by decide) (by decide +kernel) hG
  cases hv
  refine W.eq (g2 := F0 m 1170 ls [.int (Int32.ofInt k)]) rfl ?_
  refine lv_istore (lv' := (6, .int (Int32.ofInt k)) :: lz_lo a b t i) hx hb dL_law_1170 hl (by decide) rfl (fun ls1 hl1 => ?_)
  refine lv_aload_n hx hb dL_law_1172 rfl (lv_at hl1 4 rfl) ?_
  refine lz_ld (k := 1) C hS2 (lv_at hl1 6 rfl) (lv_at hl1 1 rfl) hi hL (by decide) dL_law_1173 dL_law_1174 dL_law_1176 dL_law_1177 dL_law_1178 ?_
  refine W.eq (g2 := F0 m 1179 ls1 ((([bm_i (lz_v xs i 1)] : List bm_V).reverse ++ bm_r (some (t + 122)) :: []).map (bm_val D))) rfl ?_
  refine lz_callV (as := [bm_i (lz_v xs i 1)]) (rest := []) (mc := 50) (ms := 6920) hX dL_law_1179 bm_cw_261 bm_cl_12 wL_1820 wL_1821 wL_1822 hK2.2.2.2.2.2.2.1 rfl (bm_InSt.cons (v := bm_i (lz_v xs i 1)) (lz_vin xs i 1) bm_InSt_nil) (lz_lift hmc) (fun r w' q => q.1.1.1.2.1) hH2 hS2 hl1.1 (Nat.le_of_ble_eq_true rfl) ⟨by show cells + 340 + 50 ≤ 601024; omega, by show slots + 1100 + 6920 ≤ 7293034; omega⟩ (fun v3 w3 hq H3 locs3 hH3 hS3 hin3 => ?_) (fun E w3 hq => by obtain ⟨⟨-, u, hu, -⟩, -⟩ := hq; cases hu)
  obtain ⟨⟨hR, u, hu, hout, hthr, n3, hn3, hJ3⟩, ht3⟩ := hq
  obtain ⟨x3, rfl⟩ := bm_typ4 ht3
  cases hu
  have hK3 := hK2.E hR.1
  have hgl := hR.2 (t + 155) (by omega) (by omega) 0
  refine W.eq (g2 := F0 m 1182 ls1 [.double x3]) rfl ?_
  refine lv_dstore (lv' := (7, .double x3) :: (6, .int (Int32.ofInt k)) :: lz_lo a b t i) hx hb dL_law_1182 hl1 (by decide) rfl (fun ls2 hl2 => ?_)
  refine lv_aload_n hx hb dL_law_1184 rfl (lv_at hl2 5 rfl) ?_
  refine W.eq (g2 := F0 m 1185 ls2 ((([] : List bm_V).reverse ++ bm_r (some (t + 122)) :: []).map (bm_val D))) rfl ?_
  refine lz_callV (as := []) (rest := []) (mc := 0) (ms := 0) hX dL_law_1185 bm_cw_164 bm_cl_12 wL_1310 wL_1311 wL_1312 hK3.2.2.2.2.2.2.1 rfl bm_InSt_nil (lt_thr hK3 hthr) (fun r w' q => lt_thB q) hH3 hS3 hl2.1 (Nat.le_of_ble_eq_true rfl) ⟨by show cells + 340 + 50 + 0 ≤ 601024; omega, by show slots + 1100 + 6920 + 0 ≤ 7293034; omega⟩ (fun v4 w4 hq H4 locs4 hH4 hS4 _ => ?_) (fun E w4 hq => by cases hq.1)
  obtain ⟨hv4, rfl⟩ := hq
  cases hv4
  refine W.eq (g2 := F0 m 1188 ls2 [.int (Int32.ofInt k)]) rfl ?_
  refine lv_iload hx hb dL_law_1188 (lv_at hl2 1 rfl) ?_
  refine lv_icmp_eq (tgt := 1195) hx hb dL_law_1190 rfl (fun _ => ?_) (fun h => absurd rfl h)
  refine lv_iload hx hb dL_law_1195 (lv_at hl2 1 rfl) ?_
  refine lv_if_ne (tgt := 1232) hx hb dL_law_1197 rfl (fun hne => ?_) (fun heq => ?_)
  · refine lv_goto (tgt := 1361) hx hb dL_law_1232 rfl ?_
    exact kk H4 locs4 ls2 _ n3 _ _ hH4 hS4 hJ3 hK3 (lv_sub hl2 [2, 3, 4, 5, 6, 7] rfl) (by omega) (by omega)
  · have hk : k = 0 := (lz_k0 hk0 hk2).mp heq
    refine lv_aload hx hb dL_law_1200 (lv_at hl2 3 rfl) ?_
    refine lv_iconst (v := Int32.ofInt 0) hx hb dL_law_1202 rfl ?_
    refine lz_dald (u := x3) hX hK3.2.2.2.2.1 hK3.2.2.2.2.2.1 (hgl.trans (hout hk)) dL_law_1203 hH4 ?_
    refine lv_dload hx hb dL_law_1204 (lv_at hl2 0 rfl) ?_
    refine lv_dcmp hx hb dL_law_1206 ?_
    generalize hz : Op.cmpValue (FP.dcmp x3 x3) .l = z
    refine lv_if_eq (tgt := 1232) hx hb dL_law_1207 rfl (fun _ => ?_) (fun hz0 => ?_)
    · refine lv_goto (tgt := 1361) hx hb dL_law_1232 rfl ?_
      exact kk H4 locs4 ls2 _ n3 _ _ hH4 hS4 hJ3 hK3 (lv_sub hl2 [2, 3, 4, 5, 6, 7] rfl) (by omega) (by omega)
    refine lv_aload hx hb dL_law_1210 (lv_at hl2 3 rfl) ?_
    refine lv_iconst (v := Int32.ofInt 0) hx hb dL_law_1212 rfl ?_
    refine lz_dald (u := x3) hX hK3.2.2.2.2.1 hK3.2.2.2.2.2.1 (hgl.trans (hout hk)) dL_law_1213 hH4 ?_
    refine lv_aload hx hb dL_law_1214 (lv_at hl2 3 rfl) ?_
    refine lv_iconst (v := Int32.ofInt 0) hx hb dL_law_1216 rfl ?_
    refine lz_dald (u := x3) hX hK3.2.2.2.2.1 hK3.2.2.2.2.2.1 (hgl.trans (hout hk)) dL_law_1217 hH4 ?_
    refine lv_dcmp hx hb dL_law_1218 ?_
    rw [hz]
    refine lv_if_eq (tgt := 1230) hx hb dL_law_1219 rfl (fun h => absurd h hz0) (fun _ => ?_)
    refine lv_dload hx hb dL_law_1222 (lv_at hl2 0 rfl) ?_
    refine lv_dload hx hb dL_law_1224 (lv_at hl2 0 rfl) ?_
    refine lv_dcmp hx hb dL_law_1226 ?_
    rw [hz]
    refine lv_if_ne (tgt := 1232) hx hb dL_law_1227 rfl (fun _ => ?_) (fun h => absurd h hz0)
    refine lv_goto (tgt := 1361) hx hb dL_law_1232 rfl ?_
    exact kk H4 locs4 ls2 _ n3 _ _ hH4 hS4 hJ3 hK3 (lv_sub hl2 [2, 3, 4, 5, 6, 7] rfl) (by omega) (by omega)
set_option maxHeartbeats 8000000 in
set_option maxRecDepth 100000 in
theorem lt_grow (C : lz_C D p l s m args c a L xs) (hH : bm_HR D s.heap.size w H) (hS : va_S (bm_A s.heap.size) s.heap H locs) (hJ : lJ b t n w) (hK : lt_K b t w) (hl : lv_has ls 9 (lz_lo a b t i)) (hi : 0 ≤ i) (hL : i.toNat + 6 ≤ L) (hf : cells + n + 420 ≤ 601024) (hg : slots + 3 * n + 8100 ≤ 7293034) (kk : lz_K D p l e s m args below meth c a b t n i cells slots Q) : W p l e room_1 s m args below meth c H locs cells slots Q (F0 m 1235 ls []) := by
  have hX := C.1
  have hx := hX.1.1
  have hb := hX.1.2.1
  obtain ⟨B, pr, nI, Dt, ev, hJ0⟩ := hJ
  have hL15 : n ≤ 1500 := hJ0.1.2.2.1
  refine lv_aload_n hx hb dL_law_1235 rfl (lv_at hl 4 rfl) ?_
  refine lz_ld (k := 1) C hS (lv_at hl 5 rfl) (lv_at hl 0 rfl) hi hL (by decide) dL_law_1236 dL_law_1237 dL_law_1239 dL_law_1240 dL_law_1241 ?_
  refine lv_aload_n hx hb dL_law_1242 rfl (lv_at hl 2 rfl) ?_
  refine W.eq (g2 := F0 m 1243 ls ((([bm_r (some b), bm_i (lz_v xs i 1), bm_r (some (t + 154))] : List bm_V).reverse ++ []).map (bm_val D))) rfl ?_
  have hcl := lz_F2 (κ := 1) (la_grow (d := 0) (x := (lz_v xs i 1)) hJ0) (by decide +kernel)
  refine lz_callH (as := [bm_r (some b), bm_i (lz_v xs i 1), bm_r (some (t + 154))]) (rest := []) (mc := 340) (ms := 1100) hX dL_law_1243 lo_grow wL_1147 (lh_grow (d := 1300) l hX.2.2.2.2.2.2.2 hK.2.2.2.2.2.2.2 (bm_InSt.cons (v := bm_i (lz_v xs i 1)) (lz_vin xs i 1) bm_InSt_nil) hcl (lh_H_of hK (Or.inl ⟨rfl, rfl⟩))) rfl hH hS hl.1 (Nat.le_of_ble_eq_true rfl) ⟨by show cells + 340 ≤ 601024; omega, by show slots + 1100 ≤ 7293034; omega⟩ (fun v w2 hG H2 locs2 hH2 hS2 hin2 => ?_)
  obtain ⟨k, hk0, hk2, hv, hK2, hmc⟩ := lt_of hK (Or.inl rfl) (by decide) (by decide +kernel) hG
  cases hv
  refine W.eq (g2 := F0 m 1246 ls [.int (Int32.ofInt k)]) rfl ?_
  refine lv_istore (lv' := (6, .int (Int32.ofInt k)) :: lz_lo a b t i) hx hb dL_law_1246 hl (by decide) rfl (fun ls1 hl1 => ?_)
  refine lv_aload_n hx hb dL_law_1248 rfl (lv_at hl1 4 rfl) ?_
  refine lz_ld (k := 1) C hS2 (lv_at hl1 6 rfl) (lv_at hl1 1 rfl) hi hL (by decide) dL_law_1249 dL_law_1250 dL_law_1252 dL_law_1253 dL_law_1254 ?_
  refine W.eq (g2 := F0 m 1255 ls1 ((([bm_i (lz_v xs i 1)] : List bm_V).reverse ++ bm_r (some (t + 122)) :: []).map (bm_val D))) rfl ?_
  refine lz_callV (as := [bm_i (lz_v xs i 1)]) (rest := []) (mc := 50) (ms := 6920) hX dL_law_1255 bm_cw_262 bm_cl_12 wL_1828 wL_1829 wL_1830 hK2.2.2.2.2.2.2.1 rfl (bm_InSt.cons (v := bm_i (lz_v xs i 1)) (lz_vin xs i 1) bm_InSt_nil) (lz_lift hmc) (fun r w' q => q.1.1.1.2.1) hH2 hS2 hl1.1 (Nat.le_of_ble_eq_true rfl) ⟨by show cells + 340 + 50 ≤ 601024; omega, by show slots + 1100 + 6920 ≤ 7293034; omega⟩ (fun v3 w3 hq H3 locs3 hH3 hS3 hin3 => ?_) (fun E w3 hq => by obtain ⟨⟨-, u, hu, -⟩, -⟩ := hq; cases hu)
  obtain ⟨⟨hR, u, hu, hout, hthr, n3, hn3, hJ3⟩, ht3⟩ := hq
  obtain ⟨x3, rfl⟩ := bm_typ1 ht3
  cases hu
  have hK3 := hK2.E hR.1
  have hgl := hR.2 (t + 154) (by omega) (by omega) 0
  have hxi := hin3 _ rfl
  refine W.eq (g2 := F0 m 1258 ls1 [.int (Int32.ofInt x3)]) rfl ?_
  refine lv_istore (lv' := (7, .int (Int32.ofInt x3)) :: (6, .int (Int32.ofInt k)) :: lz_lo a b t i) hx hb dL_law_1258 hl1 (by decide) rfl (fun ls2 hl2 => ?_)
  refine lv_aload_n hx hb dL_law_1260 rfl (lv_at hl2 5 rfl) ?_
  refine W.eq (g2 := F0 m 1261 ls2 ((([] : List bm_V).reverse ++ bm_r (some (t + 122)) :: []).map (bm_val D))) rfl ?_
  refine lz_callV (as := []) (rest := []) (mc := 0) (ms := 0) hX dL_law_1261 bm_cw_164 bm_cl_12 wL_1310 wL_1311 wL_1312 hK3.2.2.2.2.2.2.1 rfl bm_InSt_nil (lt_thr hK3 hthr) (fun r w' q => lt_thB q) hH3 hS3 hl2.1 (Nat.le_of_ble_eq_true rfl) ⟨by show cells + 340 + 50 + 0 ≤ 601024; omega, by show slots + 1100 + 6920 + 0 ≤ 7293034; omega⟩ (fun v4 w4 hq H4 locs4 hH4 hS4 _ => ?_) (fun E w4 hq => by cases hq.1)
  obtain ⟨hv4, rfl⟩ := hq
  cases hv4
  refine W.eq (g2 := F0 m 1264 ls2 [.int (Int32.ofInt k)]) rfl ?_
  refine lv_iload hx hb dL_law_1264 (lv_at hl2 1 rfl) ?_
  refine lv_icmp_eq (tgt := 1271) hx hb dL_law_1266 rfl (fun _ => ?_) (fun h => absurd rfl h)
  refine lv_iload hx hb dL_law_1271 (lv_at hl2 1 rfl) ?_
  refine lv_if_ne (tgt := 1288) hx hb dL_law_1273 rfl (fun hne => ?_) (fun heq => ?_)
  · refine lv_goto (tgt := 1361) hx hb dL_law_1288 rfl ?_
    exact kk H4 locs4 ls2 _ n3 _ _ hH4 hS4 hJ3 hK3 (lv_sub hl2 [2, 3, 4, 5, 6, 7] rfl) (by omega) (by omega)
  · have hk : k = 0 := (lz_k0 hk0 hk2).mp heq
    refine lv_aload_n hx hb dL_law_1276 rfl (lv_at hl2 4 rfl) ?_
    refine lv_iconst (v := Int32.ofInt 0) hx hb dL_law_1277 rfl ?_
    refine lz_lald hX hK3.2.2.1 hK3.2.2.2.1 dL_law_1278 hH4 ?_
    rw [hgl, hout hk]
    refine lv_iload hx hb dL_law_1279 (lv_at hl2 0 rfl) ?_
    refine lv_i2l (v := Int64.ofInt x3) hx hb dL_law_1281 (lz_i2l hxi) ?_
    show W p l e room_1 s m args below meth c H4 locs4 _ _ Q (F0 m _ ls2 [.long (Int64.ofInt x3), .long (Int64.ofInt x3)])
    refine W.lcmp hx hb dL_law_1282 ?_
    refine W.eq (g2 := F0 m 1283 ls2 [.int 0]) (by rw [lz_cmp0]) ?_
    refine lv_if_eq (tgt := 1288) hx hb dL_law_1283 rfl (fun _ => ?_) (fun h => absurd rfl h)
    refine lv_goto (tgt := 1361) hx hb dL_law_1288 rfl ?_
    exact kk H4 locs4 ls2 _ n3 _ _ hH4 hS4 hJ3 hK3 (lv_sub hl2 [2, 3, 4, 5, 6, 7] rfl) (by omega) (by omega)
set_option maxHeartbeats 8000000 in
set_option maxRecDepth 100000 in
theorem lt_shorten (C : lz_C D p l s m args c a L xs) (hH : bm_HR D s.heap.size w H) (hS : va_S (bm_A s.heap.size) s.heap H locs) (hJ : lJ b t n w) (hK : lt_K b t w) (hl : lv_has ls 9 (lz_lo a b t i)) (hi : 0 ≤ i) (hL : i.toNat + 6 ≤ L) (hf : cells + n + 420 ≤ 601024) (hg : slots + 3 * n + 8100 ≤ 7293034) (kk : lz_K D p l e s m args below meth c a b t n i cells slots Q) : W p l e room_1 s m args below meth c H locs cells slots Q (F0 m 1291 ls []) := by
  have hX := C.1
  have hx := hX.1.1
  have hb := hX.1.2.1
  obtain ⟨B, pr, nI, Dt, ev, hJ0⟩ := hJ
  have hL15 : n ≤ 1500 := hJ0.1.2.2.1
  refine lv_aload_n hx hb dL_law_1291 rfl (lv_at hl 4 rfl) ?_
  refine lz_ld (k := 1) C hS (lv_at hl 5 rfl) (lv_at hl 0 rfl) hi hL (by decide) dL_law_1292 dL_law_1293 dL_law_1295 dL_law_1296 dL_law_1297 ?_
  refine lv_aload_n hx hb dL_law_1298 rfl (lv_at hl 2 rfl) ?_
  refine W.eq (g2 := F0 m 1299 ls ((([bm_r (some b), bm_i (lz_v xs i 1), bm_r (some (t + 154))] : List bm_V).reverse ++ []).map (bm_val D))) rfl ?_
  have hcl := lz_F1 (κ := 1) (fun E2 => la_shorten (d := 0) (E2 := E2) (x := (lz_v xs i 1)) hJ0) (by decide +kernel) (by decide)
  refine lz_callH (as := [bm_r (some b), bm_i (lz_v xs i 1), bm_r (some (t + 154))]) (rest := []) (mc := 340) (ms := 1100) hX dL_law_1299 lo_shorten wL_1162 (lh_shorten (d := 1300) l hX.2.2.2.2.2.2.2 hK.2.2.2.2.2.2.2 (bm_InSt.cons (v := bm_i (lz_v xs i 1)) (lz_vin xs i 1) bm_InSt_nil) hcl (lh_H_of hK (Or.inl ⟨rfl, rfl⟩))) rfl hH hS hl.1 (Nat.le_of_ble_eq_true rfl) ⟨by show cells + 340 ≤ 601024; omega, by show slots + 1100 ≤ 7293034; omega⟩ (fun v w2 hG H2 locs2 hH2 hS2 hin2 => ?_)
  obtain ⟨k, hk0, hk2, hv, hK2, hmc⟩ := lt_of hK (Or.inl rfl) (by decide) (by decide +kernel) hG
  cases hv
  refine W.eq (g2 := F0 m 1302 ls [.int (Int32.ofInt k)]) rfl ?_
  refine lv_istore (lv' := (6, .int (Int32.ofInt k)) :: lz_lo a b t i) hx hb dL_law_1302 hl (by decide) rfl (fun ls1 hl1 => ?_)
  refine lv_aload_n hx hb dL_law_1304 rfl (lv_at hl1 4 rfl) ?_
  refine lz_ld (k := 1) C hS2 (lv_at hl1 6 rfl) (lv_at hl1 1 rfl) hi hL (by decide) dL_law_1305 dL_law_1306 dL_law_1308 dL_law_1309 dL_law_1310 ?_
  refine W.eq (g2 := F0 m 1311 ls1 ((([bm_i (lz_v xs i 1)] : List bm_V).reverse ++ bm_r (some (t + 122)) :: []).map (bm_val D))) rfl ?_
  refine lz_callV (as := [bm_i (lz_v xs i 1)]) (rest := []) (mc := 50) (ms := 6920) hX dL_law_1311 bm_cw_264 bm_cl_12 wL_1832 wL_1833 wL_1834 hK2.2.2.2.2.2.2.1 rfl (bm_InSt.cons (v := bm_i (lz_v xs i 1)) (lz_vin xs i 1) bm_InSt_nil) (lz_lift hmc) (fun r w' q => q.1.1.1.2.1) hH2 hS2 hl1.1 (Nat.le_of_ble_eq_true rfl) ⟨by show cells + 340 + 50 ≤ 601024; omega, by show slots + 1100 + 6920 ≤ 7293034; omega⟩ (fun v3 w3 hq H3 locs3 hH3 hS3 hin3 => ?_) (fun E w3 hq => by obtain ⟨⟨-, u, hu, -⟩, -⟩ := hq; cases hu)
  obtain ⟨⟨hR, u, hu, hout, hthr, n3, hn3, hJ3⟩, ht3⟩ := hq
  obtain ⟨x3, rfl⟩ := bm_typ1 ht3
  cases hu
  have hK3 := hK2.E hR.1
  have hgl := hR.2 (t + 154) (by omega) (by omega) 0
  have hxi := hin3 _ rfl
  refine W.eq (g2 := F0 m 1314 ls1 [.int (Int32.ofInt x3)]) rfl ?_
  refine lv_istore (lv' := (7, .int (Int32.ofInt x3)) :: (6, .int (Int32.ofInt k)) :: lz_lo a b t i) hx hb dL_law_1314 hl1 (by decide) rfl (fun ls2 hl2 => ?_)
  refine lv_aload_n hx hb dL_law_1316 rfl (lv_at hl2 5 rfl) ?_
  refine W.eq (g2 := F0 m 1317 ls2 ((([] : List bm_V).reverse ++ bm_r (some (t + 122)) :: []).map (bm_val D))) rfl ?_
  refine lz_callV (as := []) (rest := []) (mc := 0) (ms := 0) hX dL_law_1317 bm_cw_164 bm_cl_12 wL_1310 wL_1311 wL_1312 hK3.2.2.2.2.2.2.1 rfl bm_InSt_nil (lt_thr hK3 hthr) (fun r w' q => lt_thB q) hH3 hS3 hl2.1 (Nat.le_of_ble_eq_true rfl) ⟨by show cells + 340 + 50 + 0 ≤ 601024; omega, by show slots + 1100 + 6920 + 0 ≤ 7293034; omega⟩ (fun v4 w4 hq H4 locs4 hH4 hS4 _ => ?_) (fun E w4 hq => by cases hq.1)
  obtain ⟨hv4, rfl⟩ := hq
  cases hv4
  refine W.eq (g2 := F0 m 1320 ls2 [.int (Int32.ofInt k)]) rfl ?_
  refine lv_iload hx hb dL_law_1320 (lv_at hl2 1 rfl) ?_
  refine lv_icmp_eq (tgt := 1327) hx hb dL_law_1322 rfl (fun _ => ?_) (fun h => absurd rfl h)
  refine lv_iload hx hb dL_law_1327 (lv_at hl2 1 rfl) ?_
  refine lv_if_ne (tgt := 1344) hx hb dL_law_1329 rfl (fun hne => ?_) (fun heq => ?_)
  · refine lv_goto (tgt := 1361) hx hb dL_law_1344 rfl ?_
    exact kk H4 locs4 ls2 _ n3 _ _ hH4 hS4 hJ3 hK3 (lv_sub hl2 [2, 3, 4, 5, 6, 7] rfl) (by omega) (by omega)
  · have hk : k = 0 := (lz_k0 hk0 hk2).mp heq
    refine lv_aload_n hx hb dL_law_1332 rfl (lv_at hl2 4 rfl) ?_
    refine lv_iconst (v := Int32.ofInt 0) hx hb dL_law_1333 rfl ?_
    refine lz_lald hX hK3.2.2.1 hK3.2.2.2.1 dL_law_1334 hH4 ?_
    rw [hgl, hout hk]
    refine lv_iload hx hb dL_law_1335 (lv_at hl2 0 rfl) ?_
    refine lv_i2l (v := Int64.ofInt x3) hx hb dL_law_1337 (lz_i2l hxi) ?_
    show W p l e room_1 s m args below meth c H4 locs4 _ _ Q (F0 m _ ls2 [.long (Int64.ofInt x3), .long (Int64.ofInt x3)])
    refine W.lcmp hx hb dL_law_1338 ?_
    refine W.eq (g2 := F0 m 1339 ls2 [.int 0]) (by rw [lz_cmp0]) ?_
    refine lv_if_eq (tgt := 1344) hx hb dL_law_1339 rfl (fun _ => ?_) (fun h => absurd rfl h)
    refine lv_goto (tgt := 1361) hx hb dL_law_1344 rfl ?_
    exact kk H4 locs4 ls2 _ n3 _ _ hH4 hS4 hJ3 hK3 (lv_sub hl2 [2, 3, 4, 5, 6, 7] rfl) (by omega) (by omega)
set_option maxHeartbeats 8000000 in
set_option maxRecDepth 100000 in
theorem lt_digest (C : lz_C D p l s m args c a L xs) (hH : bm_HR D s.heap.size w H) (hS : va_S (bm_A s.heap.size) s.heap H locs) (hJ : lJ b t n w) (hK : lt_K b t w) (hl : lv_has ls 9 (lz_lo a b t i)) (hi : 0 ≤ i) (hL : i.toNat + 6 ≤ L) (hf : cells + n + 420 ≤ 601024) (hg : slots + 3 * n + 8100 ≤ 7293034) (kk : lz_K D p l e s m args below meth c a b t n i cells slots Q) : W p l e room_1 s m args below meth c H locs cells slots Q (F0 m 1347 ls []) := by
  have hX := C.1
  have hx := hX.1.1
  have hb := hX.1.2.1
  obtain ⟨B, pr, nI, Dt, ev, hJ0⟩ := hJ
  have hL15 : n ≤ 1500 := hJ0.1.2.2.1
  refine lv_aload_n hx hb dL_law_1347 rfl (lv_at hl 4 rfl) ?_
  refine W.eq (g2 := F0 m 1348 ls ((([] : List bm_V).reverse ++ bm_r (some b) :: []).map (bm_val D))) rfl ?_
  refine lz_callV (as := []) (rest := []) (mc := 340) (ms := 1100) hX dL_law_1348 bm_cw_154 bm_cl_11 wL_703 wL_704 wL_705 hK.2.2.2.2.2.2.2 rfl bm_InSt_nil (lz_lift (bm_Call_typ (k := 3) (by decide +kernel) (la_digest (d := 0) hJ0))) (fun r w' q => q.1.1.2.1) hH hS hl.1 (Nat.le_of_ble_eq_true rfl) ⟨by show cells + 340 ≤ 601024; omega, by show slots + 1100 ≤ 7293034; omega⟩ (fun v w2 hG H2 locs2 hH2 hS2 hin2 => ?_) (fun E w2 hG => by obtain ⟨⟨-, u, hu, -⟩, -⟩ := hG; cases hu)
  obtain ⟨⟨hE, v1, hv, hN⟩, ht⟩ := hG
  obtain ⟨x1, rfl⟩ := bm_typ3 ht
  cases hv
  have hK2 := hK.E hE
  refine W.eq (g2 := F0 m 1351 ls [.long (Int64.ofInt x1)]) rfl ?_
  refine lv_aload_n hx hb dL_law_1351 rfl (lv_at hl 3 rfl) ?_
  refine W.eq (g2 := F0 m 1352 ls ((([] : List bm_V).reverse ++ bm_r (some (t + 122)) :: [bm_l x1]).map (bm_val D))) rfl ?_
  refine lz_callV (as := []) (rest := [bm_l x1]) (mc := 50) (ms := 6920) hX dL_law_1352 bm_cw_265 bm_cl_12 wL_1855 wL_1856 wL_1857 hK2.2.2.2.2.2.2.1 rfl bm_InSt_nil (lz_lift (bm_Call_typ (k := 3) (by decide +kernel) (hN w2 lO_rf))) (fun r w' q => q.1.1.1.2.1) hH2 hS2 hl.1 (Nat.le_of_ble_eq_true rfl) ⟨by show cells + 340 + 50 ≤ 601024; omega, by show slots + 1100 + 6920 ≤ 7293034; omega⟩ (fun v3 w3 hq H3 locs3 hH3 hS3 hin3 => ?_) (fun E w3 hq => by obtain ⟨⟨-, u, hu, -⟩, -⟩ := hq; cases hu)
  obtain ⟨⟨hR, u, hu, hout, -, n3, hn3, hJ3⟩, ht3⟩ := hq
  cases hu
  rw [hout rfl]
  have hK3 := hK2.E hR.1
  refine W.eq (g2 := F0 m 1355 ls [.long (Int64.ofInt x1), .long (Int64.ofInt x1)]) rfl ?_
  refine W.lcmp hx hb dL_law_1355 ?_
  refine W.eq (g2 := F0 m 1356 ls [.int 0]) (by rw [lz_cmp0]) ?_
  refine lv_if_eq (tgt := 1361) hx hb dL_law_1356 rfl (fun _ => ?_) (fun h => absurd rfl h)
  exact kk H3 locs3 ls w3 n3 _ _ hH3 hS3 hJ3 hK3 hl (by omega) (by omega)
end LT

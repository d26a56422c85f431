/-! ===== the law's turns (laid by gen_law.py) ===== -/
section LT
variable {D : bm_D} {b t a L n : Nat} {xs : Nat → Int32} {p : Program} {l : Launch} {e : Env} {s : State} {m : MethodId} {args : Array Value} {below : List Frame} {meth : Method} {c : Code} {H : Heap} {locs : List Loc} {cells slots : Nat} {Q : State → Prop} {ls : Array Slot} {w : bm_W} {i : Int}
set_option maxHeartbeats 8000000 in
set_option maxRecDepth 100000 in
theorem lt_feed (C : lz_C D p l s m args c a L xs) (hH : bm_HR D s.heap.size w H) (hS : va_S (bm_A s.heap.size) s.heap H locs) (hJ : lJ b t n w) (hK : lt_K b t w) (hl : lv_has ls 9 (lz_lo a b t i)) (hi : 0 ≤ i) (hL : i.toNat + 6 ≤ L) (hf : cells + n + 420 ≤ 601024) (hg : slots + 3 * n + 8100 ≤ 7293034) (kk : lz_K D p l e s m args below meth c a b t n i cells slots Q) : W p l e room_1 s m args below meth c H locs cells slots Q (F0 m 136 ls []) := by
  have hX := C.1
  have hx := hX.1.1
  have hb := hX.1.2.1
  obtain ⟨B, pr, nI, Dt, ev, hJ0⟩ := hJ
  have hL15 : n ≤ 1500 := hJ0.1.2.2.1
  refine lv_aload_n hx hb dL_law_136 rfl (lv_at hl 4 rfl) ?_
  refine lz_ld (k := 1) C hS (lv_at hl 5 rfl) (lv_at hl 0 rfl) hi hL (by decide) dL_law_137 dL_law_138 dL_law_140 dL_law_141 dL_law_142 ?_
  refine lz_ld (k := 2) C hS (lv_at hl 5 rfl) (lv_at hl 0 rfl) hi hL (by decide) dL_law_143 dL_law_144 dL_law_146 dL_law_147 dL_law_148 ?_
  refine lz_ld (k := 3) C hS (lv_at hl 5 rfl) (lv_at hl 0 rfl) hi hL (by decide) dL_law_149 dL_law_150 dL_law_152 dL_law_153 dL_law_154 ?_
  refine lz_ld (k := 4) C hS (lv_at hl 5 rfl) (lv_at hl 0 rfl) hi hL (by decide) dL_law_155 dL_law_156 dL_law_158 dL_law_159 dL_law_160 ?_
  refine lz_ld (k := 5) C hS (lv_at hl 5 rfl) (lv_at hl 0 rfl) hi hL (by decide) dL_law_161 dL_law_162 dL_law_164 dL_law_165 dL_law_166 ?_
  refine lv_aload_n hx hb dL_law_167 rfl (lv_at hl 2 rfl) ?_
  refine W.eq (g2 := F0 m 168 ls ((([bm_r (some b), bm_i (lz_v xs i 1), bm_i (lz_v xs i 2), bm_i (lz_v xs i 3), bm_i (lz_v xs i 4), bm_i (lz_v xs i 5), bm_r (some (t + 154))] : List bm_V).reverse ++ []).map (bm_val D))) rfl ?_
  have hcl := lz_F1 (κ := 1) (fun E2 => la_feed (d := 0) (E2 := E2) (x1 := (lz_v xs i 1)) (x2 := (lz_v xs i 2)) (x3 := (lz_v xs i 3)) (x4 := (lz_v xs i 4)) (x5 := (lz_v xs i 5)) hJ0) (by decide +kernel) (by decide)
  refine lz_callH (as := [bm_r (some b), bm_i (lz_v xs i 1), bm_i (lz_v xs i 2), bm_i (lz_v xs i 3), bm_i (lz_v xs i 4), bm_i (lz_v xs i 5), bm_r (some (t + 154))]) (rest := []) (mc := 340) (ms := 1100) hX dL_law_168 lo_feed wL_971 (lh_feed (d := 1300) l hX.2.2.2.2.2.2.2 hK.2.2.2.2.2.2.2 (bm_InSt.cons (v := bm_i (lz_v xs i 1)) (lz_vin xs i 1) (bm_InSt.cons (v := bm_i (lz_v xs i 2)) (lz_vin xs i 2) (bm_InSt.cons (v := bm_i (lz_v xs i 3)) (lz_vin xs i 3) (bm_InSt.cons (v := bm_i (lz_v xs i 4)) (lz_vin xs i 4) (bm_InSt.cons (v := bm_i (lz_v xs i 5)) (lz_vin xs i 5) bm_InSt_nil))))) hcl (lh_H_of hK (Or.inl ⟨rfl, rfl⟩))) rfl hH hS hl.1 (Nat.le_of_ble_eq_true rfl) ⟨by show cells + 340 ≤ 601024; omega, by show slots + 1100 ≤ 7293034; omega⟩ (fun v w2 hG H2 locs2 hH2 hS2 hin2 => ?_)
  obtain ⟨k, hk0, hk2, hv, hK2, hmc⟩ := lt_of hK (Or.inl rfl) (by decide) (by decide +kernel) hG
  cases hv
  refine W.eq (g2 := F0 m 171 ls [.int (Int32.ofInt k)]) rfl ?_
  refine lv_istore (lv' := (6, .int (Int32.ofInt k)) :: lz_lo a b t i) hx hb dL_law_171 hl (by decide) rfl (fun ls1 hl1 => ?_)
  refine lv_aload_n hx hb dL_law_173 rfl (lv_at hl1 4 rfl) ?_
  refine lz_ld (k := 1) C hS2 (lv_at hl1 6 rfl) (lv_at hl1 1 rfl) hi hL (by decide) dL_law_174 dL_law_175 dL_law_177 dL_law_178 dL_law_179 ?_
  refine lz_ld (k := 2) C hS2 (lv_at hl1 6 rfl) (lv_at hl1 1 rfl) hi hL (by decide) dL_law_180 dL_law_181 dL_law_183 dL_law_184 dL_law_185 ?_
  refine lz_ld (k := 3) C hS2 (lv_at hl1 6 rfl) (lv_at hl1 1 rfl) hi hL (by decide) dL_law_186 dL_law_187 dL_law_189 dL_law_190 dL_law_191 ?_
  refine lz_ld (k := 4) C hS2 (lv_at hl1 6 rfl) (lv_at hl1 1 rfl) hi hL (by decide) dL_law_192 dL_law_193 dL_law_195 dL_law_196 dL_law_197 ?_
  refine lz_ld (k := 5) C hS2 (lv_at hl1 6 rfl) (lv_at hl1 1 rfl) hi hL (by decide) dL_law_198 dL_law_199 dL_law_201 dL_law_202 dL_law_203 ?_
  refine W.eq (g2 := F0 m 204 ls1 ((([bm_i (lz_v xs i 1), bm_i (lz_v xs i 2), bm_i (lz_v xs i 3), bm_i (lz_v xs i 4), bm_i (lz_v xs i 5)] : List bm_V).reverse ++ bm_r (some (t + 122)) :: []).map (bm_val D))) rfl ?_
  refine lz_callV (as := [bm_i (lz_v xs i 1), bm_i (lz_v xs i 2), bm_i (lz_v xs i 3), bm_i (lz_v xs i 4), bm_i (lz_v xs i 5)]) (rest := []) (mc := 50) (ms := 6920) hX dL_law_204 bm_cw_167 bm_cl_12 wL_1314 wL_1315 wL_1316 hK2.2.2.2.2.2.2.1 rfl (bm_InSt.cons (v := bm_i (lz_v xs i 1)) (lz_vin xs i 1) (bm_InSt.cons (v := bm_i (lz_v xs i 2)) (lz_vin xs i 2) (bm_InSt.cons (v := bm_i (lz_v xs i 3)) (lz_vin xs i 3) (bm_InSt.cons (v := bm_i (lz_v xs i 4)) (lz_vin xs i 4) (bm_InSt.cons (v := bm_i (lz_v xs i 5)) (lz_vin xs i 5) bm_InSt_nil))))) (lz_lift hmc) (fun r w' q => q.1.1.1.2.1) hH2 hS2 hl1.1 (Nat.le_of_ble_eq_true rfl) ⟨by show cells + 340 + 50 ≤ 601024; omega, by show slots + 1100 + 6920 ≤ 7293034; omega⟩ (fun v3 w3 hq H3 locs3 hH3 hS3 hin3 => ?_) (fun E w3 hq => by obtain ⟨⟨-, u, hu, -⟩, -⟩ := hq; cases hu)
  obtain ⟨⟨hR, u, hu, hout, hthr, n3, hn3, hJ3⟩, ht3⟩ := hq
  obtain ⟨x3, rfl⟩ := bm_typ1 ht3
  cases hu
  have hK3 := hK2.E hR.1
  have hgl := hR.2 (t + 154) (by omega) (by omega) 0
  have hxi := hin3 _ rfl
  refine W.eq (g2 := F0 m 207 ls1 [.int (Int32.ofInt x3)]) rfl ?_
  refine lv_istore (lv' := (7, .int (Int32.ofInt x3)) :: (6, .int (Int32.ofInt k)) :: lz_lo a b t i) hx hb dL_law_207 hl1 (by decide) rfl (fun ls2 hl2 => ?_)
  refine lv_aload_n hx hb dL_law_209 rfl (lv_at hl2 5 rfl) ?_
  refine W.eq (g2 := F0 m 210 ls2 ((([] : List bm_V).reverse ++ bm_r (some (t + 122)) :: []).map (bm_val D))) rfl ?_
  refine lz_callV (as := []) (rest := []) (mc := 0) (ms := 0) hX dL_law_210 bm_cw_164 bm_cl_12 wL_1310 wL_1311 wL_1312 hK3.2.2.2.2.2.2.1 rfl bm_InSt_nil (lt_thr hK3 hthr) (fun r w' q => lt_thB q) hH3 hS3 hl2.1 (Nat.le_of_ble_eq_true rfl) ⟨by show cells + 340 + 50 + 0 ≤ 601024; omega, by show slots + 1100 + 6920 + 0 ≤ 7293034; omega⟩ (fun v4 w4 hq H4 locs4 hH4 hS4 _ => ?_) (fun E w4 hq => by cases hq.1)
  obtain ⟨hv4, rfl⟩ := hq
  cases hv4
  refine W.eq (g2 := F0 m 213 ls2 [.int (Int32.ofInt k)]) rfl ?_
  refine lv_iload hx hb dL_law_213 (lv_at hl2 1 rfl) ?_
  refine lv_icmp_eq (tgt := 220) hx hb dL_law_215 rfl (fun _ => ?_) (fun h => absurd rfl h)
  refine lv_iload hx hb dL_law_220 (lv_at hl2 1 rfl) ?_
  refine lv_if_ne (tgt := 237) hx hb dL_law_222 rfl (fun hne => ?_) (fun heq => ?_)
  · refine lv_goto (tgt := 1361) hx hb dL_law_237 rfl ?_
    exact kk H4 locs4 ls2 _ n3 _ _ hH4 hS4 hJ3 hK3 (lv_sub hl2 [2, 3, 4, 5, 6, 7] rfl) (by omega) (by omega)
  · have hk : k = 0 := (lz_k0 hk0 hk2).mp heq
    refine lv_aload_n hx hb dL_law_225 rfl (lv_at hl2 4 rfl) ?_
    refine lv_iconst (v := Int32.ofInt 0) hx hb dL_law_226 rfl ?_
    refine lz_lald hX hK3.2.2.1 hK3.2.2.2.1 dL_law_227 hH4 ?_
    rw [hgl, hout hk]
    refine lv_iload hx hb dL_law_228 (lv_at hl2 0 rfl) ?_
    refine lv_i2l (v := Int64.ofInt x3) hx hb dL_law_230 (lz_i2l hxi) ?_
    show W p l e room_1 s m args below meth c H4 locs4 _ _ Q (F0 m _ ls2 [.long (Int64.ofInt x3), .long (Int64.ofInt x3)])
    refine W.lcmp hx hb dL_law_231 ?_
    refine W.eq (g2 := F0 m 232 ls2 [.int 0]) (by rw [lz_cmp0]) ?_
    refine lv_if_eq (tgt := 237) hx hb dL_law_232 rfl (fun _ => ?_) (fun h => absurd rfl h)
    refine lv_goto (tgt := 1361) hx hb dL_law_237 rfl ?_
    exact kk H4 locs4 ls2 _ n3 _ _ hH4 hS4 hJ3 hK3 (lv_sub hl2 [2, 3, 4, 5, 6, 7] rfl) (by omega) (by omega)
set_option maxHeartbeats 8000000 in
set_option maxRecDepth 100000 in
theorem lt_trim (C : lz_C D p l s m args c a L xs) (hH : bm_HR D s.heap.size w H) (hS : va_S (bm_A s.heap.size) s.heap H locs) (hJ : lJ b t n w) (hK : lt_K b t w) (hl : lv_has ls 9 (lz_lo a b t i)) (hi : 0 ≤ i) (hL : i.toNat + 6 ≤ L) (hf : cells + n + 420 ≤ 601024) (hg : slots + 3 * n + 8100 ≤ 7293034) (kk : lz_K D p l e s m args below meth c a b t n i cells slots Q) : W p l e room_1 s m args below meth c H locs cells slots Q (F0 m 240 ls []) := by
  have hX := C.1
  have hx := hX.1.1
  have hb := hX.1.2.1
  obtain ⟨B, pr, nI, Dt, ev, hJ0⟩ := hJ
  have hL15 : n ≤ 1500 := hJ0.1.2.2.1
  refine lv_aload_n hx hb dL_law_240 rfl (lv_at hl 4 rfl) ?_
  refine lz_ld (k := 1) C hS (lv_at hl 5 rfl) (lv_at hl 0 rfl) hi hL (by decide) dL_law_241 dL_law_242 dL_law_244 dL_law_245 dL_law_246 ?_
  refine lv_aload_n hx hb dL_law_247 rfl (lv_at hl 2 rfl) ?_
  refine W.eq (g2 := F0 m 248 ls ((([bm_r (some b), bm_i (lz_v xs i 1), bm_r (some (t + 154))] : List bm_V).reverse ++ []).map (bm_val D))) rfl ?_
  have hcl := lz_F1 (κ := 1) (fun E2 => la_trim (d := 0) (E2 := E2) (x := (lz_v xs i 1)) hJ0) (by decide +kernel) (by decide)
  refine lz_callH (as := [bm_r (some b), bm_i (lz_v xs i 1), bm_r (some (t + 154))]) (rest := []) (mc := 340) (ms := 1100) hX dL_law_248 lo_trim wL_1002 (lh_trim (d := 1300) l hX.2.2.2.2.2.2.2 hK.2.2.2.2.2.2.2 (bm_InSt.cons (v := bm_i (lz_v xs i 1)) (lz_vin xs i 1) bm_InSt_nil) hcl (lh_H_of hK (Or.inl ⟨rfl, rfl⟩))) rfl hH hS hl.1 (Nat.le_of_ble_eq_true rfl) ⟨by show cells + 340 ≤ 601024; omega, by show slots + 1100 ≤ 7293034; omega⟩ (fun v w2 hG H2 locs2 hH2 hS2 hin2 => ?_)
  obtain ⟨k, hk0, hk2, hv, hK2, hmc⟩ := lt_of hK (Or.inl rfl) (by decide) (by decide +kernel) hG
  cases hv
  refine W.eq (g2 := F0 m 251 ls [.int (Int32.ofInt k)]) rfl ?_
  refine lv_istore (lv' := (6, .int (Int32.ofInt k)) :: lz_lo a b t i) hx hb dL_law_251 hl (by decide) rfl (fun ls1 hl1 => ?_)
  refine lv_aload_n hx hb dL_law_253 rfl (lv_at hl1 4 rfl) ?_
  refine lz_ld (k := 1) C hS2 (lv_at hl1 6 rfl) (lv_at hl1 1 rfl) hi hL (by decide) dL_law_254 dL_law_255 dL_law_257 dL_law_258 dL_law_259 ?_
  refine W.eq (g2 := F0 m 260 ls1 ((([bm_i (lz_v xs i 1)] : List bm_V).reverse ++ bm_r (some (t + 122)) :: []).map (bm_val D))) rfl ?_
  refine lz_callV (as := [bm_i (lz_v xs i 1)]) (rest := []) (mc := 50) (ms := 6920) hX dL_law_260 bm_cw_168 bm_cl_12 wL_1322 wL_1323 wL_1324 hK2.2.2.2.2.2.2.1 rfl (bm_InSt.cons (v := bm_i (lz_v xs i 1)) (lz_vin xs i 1) bm_InSt_nil) (lz_lift hmc) (fun r w' q => q.1.1.1.2.1) hH2 hS2 hl1.1 (Nat.le_of_ble_eq_true rfl) ⟨by show cells + 340 + 50 ≤ 601024; omega, by show slots + 1100 + 6920 ≤ 7293034; omega⟩ (fun v3 w3 hq H3 locs3 hH3 hS3 hin3 => ?_) (fun E w3 hq => by obtain ⟨⟨-, u, hu, -⟩, -⟩ := hq; cases hu)
  obtain ⟨⟨hR, u, hu, hout, hthr, n3, hn3, hJ3⟩, ht3⟩ := hq
  obtain ⟨x3, rfl⟩ := bm_typ1 ht3
  cases hu
  have hK3 := hK2.E hR.1
  have hgl := hR.2 (t + 154) (by omega) (by omega) 0
  have hxi := hin3 _ rfl
  refine W.eq (g2 := F0 m 263 ls1 [.int (Int32.ofInt x3)]) rfl ?_
  refine lv_istore (lv' := (7, .int (Int32.ofInt x3)) :: (6, .int (Int32.ofInt k)) :: lz_lo a b t i) hx hb dL_law_263 hl1 (by decide) rfl (fun ls2 hl2 => ?_)
  refine lv_aload_n hx hb dL_law_265 rfl (lv_at hl2 5 rfl) ?_
  refine W.eq (g2 := F0 m 266 ls2 ((([] : List bm_V).reverse ++ bm_r (some (t + 122)) :: []).map (bm_val D))) rfl ?_
  refine lz_callV (as := []) (rest := []) (mc := 0) (ms := 0) hX dL_law_266 bm_cw_164 bm_cl_12 wL_1310 wL_1311 wL_1312 hK3.2.2.2.2.2.2.1 rfl bm_InSt_nil (lt_thr hK3 hthr) (fun r w' q => lt_thB q) hH3 hS3 hl2.1 (Nat.le_of_ble_eq_true rfl) ⟨by show cells + 340 + 50 + 0 ≤ 601024; omega, by show slots + 1100 + 6920 + 0 ≤ 7293034; omega⟩ (fun v4 w4 hq H4 locs4 hH4 hS4 _ => ?_) (fun E w4 hq => by cases hq.1)
  obtain ⟨hv4, rfl⟩ := hq
  cases hv4
  refine W.eq (g2 := F0 m 269 ls2 [.int (Int32.ofInt k)]) rfl ?_
  refine lv_iload hx hb dL_law_269 (lv_at hl2 1 rfl) ?_
  refine lv_icmp_eq (tgt := 276) hx hb dL_law_271 rfl (fun _ => ?_) (fun h => absurd rfl h)
  refine lv_iload hx hb dL_law_276 (lv_at hl2 1 rfl) ?_
  refine lv_if_ne (tgt := 293) hx hb dL_law_278 rfl (fun hne => ?_) (fun heq => ?_)
  · refine lv_goto (tgt := 1361) hx hb dL_law_293 rfl ?_
    exact kk H4 locs4 ls2 _ n3 _ _ hH4 hS4 hJ3 hK3 (lv_sub hl2 [2, 3, 4, 5, 6, 7] rfl) (by omega) (by omega)
  · have hk : k = 0 := (lz_k0 hk0 hk2).mp heq
    refine lv_aload_n hx hb dL_law_281 rfl (lv_at hl2 4 rfl) ?_
    refine lv_iconst (v := Int32.ofInt 0) hx hb dL_law_282 rfl ?_
    refine lz_lald hX hK3.2.2.1 hK3.2.2.2.1 dL_law_283 hH4 ?_
    rw [hgl, hout hk]
    refine lv_iload hx hb dL_law_284 (lv_at hl2 0 rfl) ?_
    refine lv_i2l (v := Int64.ofInt x3) hx hb dL_law_286 (lz_i2l hxi) ?_
    show W p l e room_1 s m args below meth c H4 locs4 _ _ Q (F0 m _ ls2 [.long (Int64.ofInt x3), .long (Int64.ofInt x3)])
    refine W.lcmp hx hb dL_law_287 ?_
    refine W.eq (g2 := F0 m 288 ls2 [.int 0]) (by rw [lz_cmp0]) ?_
    refine lv_if_eq (tgt := 293) hx hb dL_law_288 rfl (fun _ => ?_) (fun h => absurd rfl h)
    refine lv_goto (tgt := 1361) hx hb dL_law_293 rfl ?_
    exact kk H4 locs4 ls2 _ n3 _ _ hH4 hS4 hJ3 hK3 (lv_sub hl2 [2, 3, 4, 5, 6, 7] rfl) (by omega) (by omega)
set_option maxHeartbeats 8000000 in
set_option maxRecDepth 100000 in
theorem lt_compile (C : lz_C D p l s m args c a L xs) (hH : bm_HR D s.heap.size w H) (hS : va_S (bm_A s.heap.size) s.heap H locs) (hJ : lJ b t n w) (hK : lt_K b t w) (hl : lv_has ls 9 (lz_lo a b t i)) (hi : 0 ≤ i) (hL : i.toNat + 6 ≤ L) (hf : cells + n + 420 ≤ 601024) (hg : slots + 3 * n + 8100 ≤ 7293034) (kk : lz_K D p l e s m args below meth c a b t n i cells slots Q) : W p l e room_1 s m args below meth c H locs cells slots Q (F0 m 296 ls []) := by
  have hX := C.1
  have hx := hX.1.1
  have hb := hX.1.2.1
  obtain ⟨B, pr, nI, Dt, ev, hJ0⟩ := hJ
  have hL15 : n ≤ 1500 := hJ0.1.2.2.1
  refine lv_aload_n hx hb dL_law_296 rfl (lv_at hl 4 rfl) ?_
  refine W.eq (g2 := F0 m 297 ls ((([] : List bm_V).reverse ++ bm_r (some b) :: []).map (bm_val D))) rfl ?_
  refine lz_callV (as := []) (rest := []) (mc := 340) (ms := 1100) hX dL_law_297 bm_cw_138 bm_cl_11 wL_397 wL_398 wL_399 hK.2.2.2.2.2.2.2 rfl bm_InSt_nil (lz_lift (bm_Call_typ (k := 1) (by decide +kernel) (la_compile (d := 0) hJ0))) (fun r w' q => q.1.1.2.1) hH hS hl.1 (Nat.le_of_ble_eq_true rfl) ⟨by show cells + 340 ≤ 601024; omega, by show slots + 1100 ≤ 7293034; omega⟩ (fun v w2 hG H2 locs2 hH2 hS2 hin2 => ?_) (fun E w2 hG => by obtain ⟨⟨-, u, hu, -⟩, -⟩ := hG; cases hu)
  obtain ⟨⟨hE, v1, hv, hN⟩, ht⟩ := hG
  obtain ⟨x1, rfl⟩ := bm_typ1 ht
  cases hv
  have hK2 := hK.E hE
  refine W.eq (g2 := F0 m 300 ls [.int (Int32.ofInt x1)]) rfl ?_
  refine lv_aload_n hx hb dL_law_300 rfl (lv_at hl 3 rfl) ?_
  refine W.eq (g2 := F0 m 301 ls ((([] : List bm_V).reverse ++ bm_r (some (t + 122)) :: [bm_i x1]).map (bm_val D))) rfl ?_
  refine lz_callV (as := []) (rest := [bm_i x1]) (mc := n) (ms := (3 * n)) hX dL_law_301 bm_cw_215 bm_cl_12 wL_1329 wL_1330 wL_1331 hK2.2.2.2.2.2.2.1 rfl bm_InSt_nil (lz_lift (bm_Call_typ (k := 1) (by decide +kernel) (hN w2 lO_rf))) (fun r w' q => q.1.1.1.2.1) hH2 hS2 hl.1 (Nat.le_of_ble_eq_true rfl) ⟨by show cells + 340 + n ≤ 601024; omega, by show slots + 1100 + (3 * n) ≤ 7293034; omega⟩ (fun v3 w3 hq H3 locs3 hH3 hS3 hin3 => ?_) (fun E w3 hq => by obtain ⟨⟨-, u, hu, -⟩, -⟩ := hq; cases hu)
  obtain ⟨⟨hR, u, hu, hout, -, n3, hn3, hJ3⟩, ht3⟩ := hq
  cases hu
  rw [hout rfl]
  have hK3 := hK2.E hR.1
  refine W.eq (g2 := F0 m 304 ls [.int (Int32.ofInt x1), .int (Int32.ofInt x1)]) rfl ?_
  refine lv_icmp_eq (tgt := 1361) hx hb dL_law_304 rfl (fun _ => ?_) (fun h => absurd rfl h)
  exact kk H3 locs3 ls w3 n3 _ _ hH3 hS3 hJ3 hK3 hl (by omega) (by omega)
set_option maxHeartbeats 8000000 in
set_option maxRecDepth 100000 in
theorem lt_errorAt (C : lz_C D p l s m args c a L xs) (hH : bm_HR D s.heap.size w H) (hS : va_S (bm_A s.heap.size) s.heap H locs) (hJ : lJ b t n w) (hK : lt_K b t w) (hl : lv_has ls 9 (lz_lo a b t i)) (hi : 0 ≤ i) (hL : i.toNat + 6 ≤ L) (hf : cells + n + 420 ≤ 601024) (hg : slots + 3 * n + 8100 ≤ 7293034) (kk : lz_K D p l e s m args below meth c a b t n i cells slots Q) : W p l e room_1 s m args below meth c H locs cells slots Q (F0 m 309 ls []) := by
  have hX := C.1
  have hx := hX.1.1
  have hb := hX.1.2.1
  obtain ⟨B, pr, nI, Dt, ev, hJ0⟩ := hJ
  have hL15 : n ≤ 1500 := hJ0.1.2.2.1
  refine lv_aload_n hx hb dL_law_309 rfl (lv_at hl 4 rfl) ?_
  refine W.eq (g2 := F0 m 310 ls ((([] : List bm_V).reverse ++ bm_r (some b) :: []).map (bm_val D))) rfl ?_
  refine lz_callV (as := []) (rest := []) (mc := 340) (ms := 1100) hX dL_law_310 bm_cw_139 bm_cl_11 wL_699 wL_700 wL_701 hK.2.2.2.2.2.2.2 rfl bm_InSt_nil (lz_lift (bm_Call_typ (k := 1) (by decide +kernel) (la_errorAt (d := 0) hJ0))) (fun r w' q => q.1.1.2.1) hH hS hl.1 (Nat.le_of_ble_eq_true rfl) ⟨by show cells + 340 ≤ 601024; omega, by show slots + 1100 ≤ 7293034; omega⟩ (fun v w2 hG H2 locs2 hH2 hS2 hin2 => ?_) (fun E w2 hG => by obtain ⟨⟨-, u, hu, -⟩, -⟩ := hG; cases hu)
  obtain ⟨⟨hE, v1, hv, hN⟩, ht⟩ := hG
  obtain ⟨x1, rfl⟩ := bm_typ1 ht
  cases hv
  have hK2 := hK.E hE
  refine W.eq (g2 := F0 m 313 ls [.int (Int32.ofInt x1)]) rfl ?_
  refine lv_aload_n hx hb dL_law_313 rfl (lv_at hl 3 rfl) ?_
  refine W.eq (g2 := F0 m 314 ls ((([] : List bm_V).reverse ++ bm_r (some (t + 122)) :: [bm_i x1]).map (bm_val D))) rfl ?_
  refine lz_callV (as := []) (rest := [bm_i x1]) (mc := 50) (ms := 6920) hX dL_law_314 bm_cw_216 bm_cl_12 wL_1656 wL_1657 wL_1658 hK2.2.2.2.2.2.2.1 rfl bm_InSt_nil (lz_lift (bm_Call_typ (k := 1) (by decide +kernel) (hN w2 lO_rf))) (fun r w' q => q.1.1.1.2.1) hH2 hS2 hl.1 (Nat.le_of_ble_eq_true rfl) ⟨by show cells + 340 + 50 ≤ 601024; omega, by show slots + 1100 + 6920 ≤ 7293034; omega⟩ (fun v3 w3 hq H3 locs3 hH3 hS3 hin3 => ?_) (fun E w3 hq => by obtain ⟨⟨-, u, hu, -⟩, -⟩ := hq; cases hu)
  obtain ⟨⟨hR, u, hu, hout, -, n3, hn3, hJ3⟩, ht3⟩ := hq
  cases hu
  rw [hout rfl]
  have hK3 := hK2.E hR.1
  refine W.eq (g2 := F0 m 317 ls [.int (Int32.ofInt x1), .int (Int32.ofInt x1)]) rfl ?_
  refine lv_icmp_eq (tgt := 1361) hx hb dL_law_317 rfl (fun _ => ?_) (fun h => absurd rfl h)
  exact kk H3 locs3 ls w3 n3 _ _ hH3 hS3 hJ3 hK3 hl (by omega) (by omega)
set_option maxHeartbeats 8000000 in
set_option maxRecDepth 100000 in
theorem lt_count (C : lz_C D p l s m args c a L xs) (hH : bm_HR D s.heap.size w H) (hS : va_S (bm_A s.heap.size) s.heap H locs) (hJ : lJ b t n w) (hK : lt_K b t w) (hl : lv_has ls 9 (lz_lo a b t i)) (hi : 0 ≤ i) (hL : i.toNat + 6 ≤ L) (hf : cells + n + 420 ≤ 601024) (hg : slots + 3 * n + 8100 ≤ 7293034) (kk : lz_K D p l e s m args below meth c a b t n i cells slots Q) : W p l e room_1 s m args below meth c H locs cells slots Q (F0 m 322 ls []) := by
  have hX := C.1
  have hx := hX.1.1
  have hb := hX.1.2.1
  obtain ⟨B, pr, nI, Dt, ev, hJ0⟩ := hJ
  have hL15 : n ≤ 1500 := hJ0.1.2.2.1
  refine lv_aload_n hx hb dL_law_322 rfl (lv_at hl 4 rfl) ?_
  refine lz_ld (k := 1) C hS (lv_at hl 5 rfl) (lv_at hl 0 rfl) hi hL (by decide) dL_law_323 dL_law_324 dL_law_326 dL_law_327 dL_law_328 ?_
  refine lv_aload_n hx hb dL_law_329 rfl (lv_at hl 2 rfl) ?_
  refine W.eq (g2 := F0 m 330 ls ((([bm_r (some b), bm_i (lz_v xs i 1), bm_r (some (t + 154))] : List bm_V).reverse ++ []).map (bm_val D))) rfl ?_
  have hcl := lz_F1 (κ := 1) (fun E2 => la_count (d := 0) (E2 := E2) (x := (lz_v xs i 1)) hJ0) (by decide +kernel) (by decide)
  refine lz_callH (as := [bm_r (some b), bm_i (lz_v xs i 1), bm_r (some (t + 154))]) (rest := []) (mc := 340) (ms := 1100) hX dL_law_330 lo_count wL_1025 (lh_count (d := 1300) l hX.2.2.2.2.2.2.2 hK.2.2.2.2.2.2.2 (bm_InSt.cons (v := bm_i (lz_v xs i 1)) (lz_vin xs i 1) bm_InSt_nil) hcl (lh_H_of hK (Or.inl ⟨rfl, rfl⟩))) rfl hH hS hl.1 (Nat.le_of_ble_eq_true rfl) ⟨by show cells + 340 ≤ 601024; omega, by show slots + 1100 ≤ 7293034; omega⟩ (fun v w2 hG H2 locs2 hH2 hS2 hin2 => ?_)
  obtain ⟨k, hk0, hk2, hv, hK2, hmc⟩ := lt_of hK (Or.inl rfl) (by decide) (by decide +kernel) hG
  cases hv
  refine W.eq (g2 := F0 m 333 ls [.int (Int32.ofInt k)]) rfl ?_
  refine lv_istore (lv' := (6, .int (Int32.ofInt k)) :: lz_lo a b t i) hx hb dL_law_333 hl (by decide) rfl (fun ls1 hl1 => ?_)
  refine lv_aload_n hx hb dL_law_335 rfl (lv_at hl1 4 rfl) ?_
  refine lz_ld (k := 1) C hS2 (lv_at hl1 6 rfl) (lv_at hl1 1 rfl) hi hL (by decide) dL_law_336 dL_law_337 dL_law_339 dL_law_340 dL_law_341 ?_
  refine W.eq (g2 := F0 m 342 ls1 ((([bm_i (lz_v xs i 1)] : List bm_V).reverse ++ bm_r (some (t + 122)) :: []).map (bm_val D))) rfl ?_
  refine lz_callV (as := [bm_i (lz_v xs i 1)]) (rest := []) (mc := 50) (ms := 6920) hX dL_law_342 bm_cw_228 bm_cl_12 wL_1660 wL_1661 wL_1662 hK2.2.2.2.2.2.2.1 rfl (bm_InSt.cons (v := bm_i (lz_v xs i 1)) (lz_vin xs i 1) bm_InSt_nil) (lz_lift hmc) (fun r w' q => q.1.1.1.2.1) hH2 hS2 hl1.1 (Nat.le_of_ble_eq_true rfl) ⟨by show cells + 340 + 50 ≤ 601024; omega, by show slots + 1100 + 6920 ≤ 7293034; omega⟩ (fun v3 w3 hq H3 locs3 hH3 hS3 hin3 => ?_) (fun E w3 hq => by obtain ⟨⟨-, u, hu, -⟩, -⟩ := hq; cases hu)
  obtain ⟨⟨hR, u, hu, hout, hthr, n3, hn3, hJ3⟩, ht3⟩ := hq
  obtain ⟨x3, rfl⟩ := bm_typ1 ht3
  cases hu
  have hK3 := hK2.E hR.1
  have hgl := hR.2 (t + 154) (by omega) (by omega) 0
  have hxi := hin3 _ rfl
  refine W.eq (g2 := F0 m 345 ls1 [.int (Int32.ofInt x3)]) rfl ?_
  refine lv_istore (lv' := (7, .int (Int32.ofInt x3)) :: (6, .int (Int32.ofInt k)) :: lz_lo a b t i) hx hb dL_law_345 hl1 (by decide) rfl (fun ls2 hl2 => ?_)
  refine lv_aload_n hx hb dL_law_347 rfl (lv_at hl2 5 rfl) ?_
  refine W.eq (g2 := F0 m 348 ls2 ((([] : List bm_V).reverse ++ bm_r (some (t + 122)) :: []).map (bm_val D))) rfl ?_
  refine lz_callV (as := []) (rest := []) (mc := 0) (ms := 0) hX dL_law_348 bm_cw_164 bm_cl_12 wL_1310 wL_1311 wL_1312 hK3.2.2.2.2.2.2.1 rfl bm_InSt_nil (lt_thr hK3 hthr) (fun r w' q => lt_thB q) hH3 hS3 hl2.1 (Nat.le_of_ble_eq_true rfl) ⟨by show cells + 340 + 50 + 0 ≤ 601024; omega, by show slots + 1100 + 6920 + 0 ≤ 7293034; omega⟩ (fun v4 w4 hq H4 locs4 hH4 hS4 _ => ?_) (fun E w4 hq => by cases hq.1)
  obtain ⟨hv4, rfl⟩ := hq
  cases hv4
  refine W.eq (g2 := F0 m 351 ls2 [.int (Int32.ofInt k)]) rfl ?_
  refine lv_iload hx hb dL_law_351 (lv_at hl2 1 rfl) ?_
  refine lv_icmp_eq (tgt := 358) hx hb dL_law_353 rfl (fun _ => ?_) (fun h => absurd rfl h)
  refine lv_iload hx hb dL_law_358 (lv_at hl2 1 rfl) ?_
  refine lv_if_ne (tgt := 375) hx hb dL_law_360 rfl (fun hne => ?_) (fun heq => ?_)
  · refine lv_goto (tgt := 1361) hx hb dL_law_375 rfl ?_
    exact kk H4 locs4 ls2 _ n3 _ _ hH4 hS4 hJ3 hK3 (lv_sub hl2 [2, 3, 4, 5, 6, 7] rfl) (by omega) (by omega)
  · have hk : k = 0 := (lz_k0 hk0 hk2).mp heq
    refine lv_aload_n hx hb dL_law_363 rfl (lv_at hl2 4 rfl) ?_
    refine lv_iconst (v := Int32.ofInt 0) hx hb dL_law_364 rfl ?_
    refine lz_lald hX hK3.2.2.1 hK3.2.2.2.1 dL_law_365 hH4 ?_
    rw [hgl, hout hk]
    refine lv_iload hx hb dL_law_366 (lv_at hl2 0 rfl) ?_
    refine lv_i2l (v := Int64.ofInt x3) hx hb dL_law_368 (lz_i2l hxi) ?_
    show W p l e room_1 s m args below meth c H4 locs4 _ _ Q (F0 m _ ls2 [.long (Int64.ofInt x3), .long (Int64.ofInt x3)])
    refine W.lcmp hx hb dL_law_369 ?_
    refine W.eq (g2 := F0 m 370 ls2 [.int 0]) (by rw [lz_cmp0]) ?_
    refine lv_if_eq (tgt := 375) hx hb dL_law_370 rfl (fun _ => ?_) (fun h => absurd rfl h)
    refine lv_goto (tgt := 1361) hx hb dL_law_375 rfl ?_
    exact kk H4 locs4 ls2 _ n3 _ _ hH4 hS4 hJ3 hK3 (lv_sub hl2 [2, 3, 4, 5, 6, 7] rfl) (by omega) (by omega)
end LT

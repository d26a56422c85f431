/-! ===== the law's turns (laid by gen_law.py) ===== -/
section LT
variable {D : bm_D} {b t a L n : Nat} {xs : Nat → Int32} {p : Program} {l : Launch} {e : Env} {s : State} {m : MethodId} {args : Array Value} {below : List Frame} {meth : Method} {c : Code} {H : Heap} {locs : List Loc} {cells slots : Nat} {Q : State → Prop} {ls : Array Slot} {w : bm_W} {i : Int}
set_option maxHeartbeats 8000000 in
set_option maxRecDepth 100000 in
theorem lt_table (C : lz_C D p l s m args c a L xs) (hH : bm_HR D s.heap.size w H) (hS : va_S (bm_A s.heap.size) s.heap H locs) (hJ : lJ b t n w) (hK : lt_K b t w) (hl : lv_has ls 9 (lz_lo a b t i)) (hi : 0 ≤ i) (hL : i.toNat + 6 ≤ L) (hf : cells + n + 420 ≤ 601024) (hg : slots + 3 * n + 8100 ≤ 7293034) (kk : lz_K D p l e s m args below meth c a b t n i cells slots Q) : W p l e room_1 s m args below meth c H locs cells slots Q (F0 m 776 ls []) := by
  have hX := C.1
  have hx := hX.1.1
  have hb := hX.1.2.1
  obtain ⟨B, pr, nI, Dt, ev, hJ0⟩ := hJ
  have hL15 : n ≤ 1500 := hJ0.1.2.2.1
  refine lv_aload_n hx hb dL_law_776 rfl (lv_at hl 4 rfl) ?_
  refine lz_ld (k := 1) C hS (lv_at hl 5 rfl) (lv_at hl 0 rfl) hi hL (by decide) dL_law_777 dL_law_778 dL_law_780 dL_law_781 dL_law_782 ?_
  refine lz_ld (k := 2) C hS (lv_at hl 5 rfl) (lv_at hl 0 rfl) hi hL (by decide) dL_law_783 dL_law_784 dL_law_786 dL_law_787 dL_law_788 ?_
  refine lv_aload_n hx hb dL_law_789 rfl (lv_at hl 2 rfl) ?_
  refine W.eq (g2 := F0 m 790 ls ((([bm_r (some b), bm_i (lz_v xs i 1), bm_i (lz_v xs i 2), bm_r (some (t + 154))] : List bm_V).reverse ++ []).map (bm_val D))) rfl ?_
  have hcl := lz_F1 (κ := 1) (fun E2 => la_table (d := 0) (E2 := E2) (x := (lz_v xs i 1)) (what := (lz_v xs i 2)) hJ0) (by decide +kernel) (by decide)
  refine lz_callH (as := [bm_r (some b), bm_i (lz_v xs i 1), bm_i (lz_v xs i 2), bm_r (some (t + 154))]) (rest := []) (mc := 340) (ms := 1100) hX dL_law_790 lo_table wL_1090 (lh_table (d := 1300) l hX.2.2.2.2.2.2.2 hK.2.2.2.2.2.2.2 (bm_InSt.cons (v := bm_i (lz_v xs i 1)) (lz_vin xs i 1) (bm_InSt.cons (v := bm_i (lz_v xs i 2)) (lz_vin xs i 2) bm_InSt_nil)) hcl (lh_H_of hK (Or.inl ⟨rfl, rfl⟩))) rfl hH hS hl.1 (Nat.le_of_ble_eq_true rfl) ⟨by show cells + 340 ≤ 601024; omega, by show slots + 1100 ≤ 7293034; omega⟩ (fun v w2 hG H2 locs2 hH2 hS2 hin2 => ?_)
  obtain ⟨k, hk0, hk2, hv, hK2, hmc⟩ := lt_of hK (Or.inl rfl) (by decide) (by decide +kernel) hG
  cases hv
  refine W.eq (g2 := F0 m 793 ls [.int (Int32.ofInt k)]) rfl ?_
  refine lv_istore (lv' := (6, .int (Int32.ofInt k)) :: lz_lo a b t i) hx hb dL_law_793 hl (by decide) rfl (fun ls1 hl1 => ?_)
  refine lv_aload_n hx hb dL_law_795 rfl (lv_at hl1 4 rfl) ?_
  refine lz_ld (k := 1) C hS2 (lv_at hl1 6 rfl) (lv_at hl1 1 rfl) hi hL (by decide) dL_law_796 dL_law_797 dL_law_799 dL_law_800 dL_law_801 ?_
  refine lz_ld (k := 2) C hS2 (lv_at hl1 6 rfl) (lv_at hl1 1 rfl) hi hL (by decide) dL_law_802 dL_law_803 dL_law_805 dL_law_806 dL_law_807 ?_
  refine W.eq (g2 := F0 m 808 ls1 ((([bm_i (lz_v xs i 1), bm_i (lz_v xs i 2)] : List bm_V).reverse ++ bm_r (some (t + 122)) :: []).map (bm_val D))) rfl ?_
  refine lz_callV (as := [bm_i (lz_v xs i 1), bm_i (lz_v xs i 2)]) (rest := []) (mc := 50) (ms := 6920) hX dL_law_808 bm_cw_253 bm_cl_12 wL_1772 wL_1773 wL_1774 hK2.2.2.2.2.2.2.1 rfl (bm_InSt.cons (v := bm_i (lz_v xs i 1)) (lz_vin xs i 1) (bm_InSt.cons (v := bm_i (lz_v xs i 2)) (lz_vin xs i 2) bm_InSt_nil)) (lz_lift hmc) (fun r w' q => q.1.1.1.2.1) hH2 hS2 hl1.1 (Nat.le_of_ble_eq_true rfl) ⟨by show cells + 340 + 50 ≤ 601024; omega, by show slots + 1100 + 6920 ≤ 7293034; omega⟩ (fun v3 w3 hq H3 locs3 hH3 hS3 hin3 => ?_) (fun E w3 hq => by obtain ⟨⟨-, u, hu, -⟩, -⟩ := hq; cases hu)
  obtain ⟨⟨hR, u, hu, hout, hthr, n3, hn3, hJ3⟩, ht3⟩ := hq
  obtain ⟨x3, rfl⟩ := bm_typ1 ht3
  cases hu
  have hK3 := hK2.E hR.1
  have hgl := hR.2 (t + 154) (by omega) (by omega) 0
  have hxi := hin3 _ rfl
  refine W.eq (g2 := F0 m 811 ls1 [.int (Int32.ofInt x3)]) rfl ?_
  refine lv_istore (lv' := (7, .int (Int32.ofInt x3)) :: (6, .int (Int32.ofInt k)) :: lz_lo a b t i) hx hb dL_law_811 hl1 (by decide) rfl (fun ls2 hl2 => ?_)
  refine lv_aload_n hx hb dL_law_813 rfl (lv_at hl2 5 rfl) ?_
  refine W.eq (g2 := F0 m 814 ls2 ((([] : List bm_V).reverse ++ bm_r (some (t + 122)) :: []).map (bm_val D))) rfl ?_
  refine lz_callV (as := []) (rest := []) (mc := 0) (ms := 0) hX dL_law_814 bm_cw_164 bm_cl_12 wL_1310 wL_1311 wL_1312 hK3.2.2.2.2.2.2.1 rfl bm_InSt_nil (lt_thr hK3 hthr) (fun r w' q => lt_thB q) hH3 hS3 hl2.1 (Nat.le_of_ble_eq_true rfl) ⟨by show cells + 340 + 50 + 0 ≤ 601024; omega, by show slots + 1100 + 6920 + 0 ≤ 7293034; omega⟩ (fun v4 w4 hq H4 locs4 hH4 hS4 _ => ?_) (fun E w4 hq => by cases hq.1)
  obtain ⟨hv4, rfl⟩ := hq
  cases hv4
  refine W.eq (g2 := F0 m 817 ls2 [.int (Int32.ofInt k)]) rfl ?_
  refine lv_iload hx hb dL_law_817 (lv_at hl2 1 rfl) ?_
  refine lv_icmp_eq (tgt := 824) hx hb dL_law_819 rfl (fun _ => ?_) (fun h => absurd rfl h)
  refine lv_iload hx hb dL_law_824 (lv_at hl2 1 rfl) ?_
  refine lv_if_ne (tgt := 841) hx hb dL_law_826 rfl (fun hne => ?_) (fun heq => ?_)
  · refine lv_goto (tgt := 1361) hx hb dL_law_841 rfl ?_
    exact kk H4 locs4 ls2 _ n3 _ _ hH4 hS4 hJ3 hK3 (lv_sub hl2 [2, 3, 4, 5, 6, 7] rfl) (by omega) (by omega)
  · have hk : k = 0 := (lz_k0 hk0 hk2).mp heq
    refine lv_aload_n hx hb dL_law_829 rfl (lv_at hl2 4 rfl) ?_
    refine lv_iconst (v := Int32.ofInt 0) hx hb dL_law_830 rfl ?_
    refine lz_lald hX hK3.2.2.1 hK3.2.2.2.1 dL_law_831 hH4 ?_
    rw [hgl, hout hk]
    refine lv_iload hx hb dL_law_832 (lv_at hl2 0 rfl) ?_
    refine lv_i2l (v := Int64.ofInt x3) hx hb dL_law_834 (lz_i2l hxi) ?_
    show W p l e room_1 s m args below meth c H4 locs4 _ _ Q (F0 m _ ls2 [.long (Int64.ofInt x3), .long (Int64.ofInt x3)])
    refine W.lcmp hx hb dL_law_835 ?_
    refine W.eq (g2 := F0 m 836 ls2 [.int 0]) (by rw [lz_cmp0]) ?_
    refine lv_if_eq (tgt := 841) hx hb dL_law_836 rfl (fun _ => ?_) (fun h => absurd rfl h)
    refine lv_goto (tgt := 1361) hx hb dL_law_841 rfl ?_
    exact kk H4 locs4 ls2 _ n3 _ _ hH4 hS4 hJ3 hK3 (lv_sub hl2 [2, 3, 4, 5, 6, 7] rfl) (by omega) (by omega)
set_option maxHeartbeats 8000000 in
set_option maxRecDepth 100000 in
theorem lt_caseOf (C : lz_C D p l s m args c a L xs) (hH : bm_HR D s.heap.size w H) (hS : va_S (bm_A s.heap.size) s.heap H locs) (hJ : lJ b t n w) (hK : lt_K b t w) (hl : lv_has ls 9 (lz_lo a b t i)) (hi : 0 ≤ i) (hL : i.toNat + 6 ≤ L) (hf : cells + n + 420 ≤ 601024) (hg : slots + 3 * n + 8100 ≤ 7293034) (kk : lz_K D p l e s m args below meth c a b t n i cells slots Q) : W p l e room_1 s m args below meth c H locs cells slots Q (F0 m 844 ls []) := by
  have hX := C.1
  have hx := hX.1.1
  have hb := hX.1.2.1
  obtain ⟨B, pr, nI, Dt, ev, hJ0⟩ := hJ
  have hL15 : n ≤ 1500 := hJ0.1.2.2.1
  refine lv_aload_n hx hb dL_law_844 rfl (lv_at hl 4 rfl) ?_
  refine lz_ld (k := 1) C hS (lv_at hl 5 rfl) (lv_at hl 0 rfl) hi hL (by decide) dL_law_845 dL_law_846 dL_law_848 dL_law_849 dL_law_850 ?_
  refine lz_ld (k := 2) C hS (lv_at hl 5 rfl) (lv_at hl 0 rfl) hi hL (by decide) dL_law_851 dL_law_852 dL_law_854 dL_law_855 dL_law_856 ?_
  refine lz_ld (k := 3) C hS (lv_at hl 5 rfl) (lv_at hl 0 rfl) hi hL (by decide) dL_law_857 dL_law_858 dL_law_860 dL_law_861 dL_law_862 ?_
  refine lv_aload_n hx hb dL_law_863 rfl (lv_at hl 2 rfl) ?_
  refine W.eq (g2 := F0 m 864 ls ((([bm_r (some b), bm_i (lz_v xs i 1), bm_i (lz_v xs i 2), bm_i (lz_v xs i 3), bm_r (some (t + 154))] : List bm_V).reverse ++ []).map (bm_val D))) rfl ?_
  have hcl := lz_F1 (κ := 1) (fun E2 => la_caseOf (d := 0) (E2 := E2) (x := (lz_v xs i 1)) (k := (lz_v xs i 2)) (i := (lz_v xs i 3)) hJ0) (by decide +kernel) (by decide)
  refine lz_callH (as := [bm_r (some b), bm_i (lz_v xs i 1), bm_i (lz_v xs i 2), bm_i (lz_v xs i 3), bm_r (some (t + 154))]) (rest := []) (mc := 340) (ms := 1100) hX dL_law_864 lo_caseOf wL_1101 (lh_caseOf (d := 1300) l hX.2.2.2.2.2.2.2 hK.2.2.2.2.2.2.2 (bm_InSt.cons (v := bm_i (lz_v xs i 1)) (lz_vin xs i 1) (bm_InSt.cons (v := bm_i (lz_v xs i 2)) (lz_vin xs i 2) (bm_InSt.cons (v := bm_i (lz_v xs i 3)) (lz_vin xs i 3) bm_InSt_nil))) hcl (lh_H_of hK (Or.inl ⟨rfl, rfl⟩))) rfl hH hS hl.1 (Nat.le_of_ble_eq_true rfl) ⟨by show cells + 340 ≤ 601024; omega, by show slots + 1100 ≤ 7293034; omega⟩ (fun v w2 hG H2 locs2 hH2 hS2 hin2 => ?_)
  obtain ⟨k, hk0, hk2, hv, hK2, hmc⟩ := lt_of hK (Or.inl rfl) (by decide) (by decide +kernel) hG
  cases hv
  refine W.eq (g2 := F0 m 867 ls [.int (Int32.ofInt k)]) rfl ?_
  refine lv_istore (lv' := (6, .int (Int32.ofInt k)) :: lz_lo a b t i) hx hb dL_law_867 hl (by decide) rfl (fun ls1 hl1 => ?_)
  refine lv_aload_n hx hb dL_law_869 rfl (lv_at hl1 4 rfl) ?_
  refine lz_ld (k := 1) C hS2 (lv_at hl1 6 rfl) (lv_at hl1 1 rfl) hi hL (by decide) dL_law_870 dL_law_871 dL_law_873 dL_law_874 dL_law_875 ?_
  refine lz_ld (k := 2) C hS2 (lv_at hl1 6 rfl) (lv_at hl1 1 rfl) hi hL (by decide) dL_law_876 dL_law_877 dL_law_879 dL_law_880 dL_law_881 ?_
  refine lz_ld (k := 3) C hS2 (lv_at hl1 6 rfl) (lv_at hl1 1 rfl) hi hL (by decide) dL_law_882 dL_law_883 dL_law_885 dL_law_886 dL_law_887 ?_
  refine W.eq (g2 := F0 m 888 ls1 ((([bm_i (lz_v xs i 1), bm_i (lz_v xs i 2), bm_i (lz_v xs i 3)] : List bm_V).reverse ++ bm_r (some (t + 122)) :: []).map (bm_val D))) rfl ?_
  refine lz_callV (as := [bm_i (lz_v xs i 1), bm_i (lz_v xs i 2), bm_i (lz_v xs i 3)]) (rest := []) (mc := 50) (ms := 6920) hX dL_law_888 bm_cw_254 bm_cl_12 wL_1792 wL_1793 wL_1794 hK2.2.2.2.2.2.2.1 rfl (bm_InSt.cons (v := bm_i (lz_v xs i 1)) (lz_vin xs i 1) (bm_InSt.cons (v := bm_i (lz_v xs i 2)) (lz_vin xs i 2) (bm_InSt.cons (v := bm_i (lz_v xs i 3)) (lz_vin xs i 3) bm_InSt_nil))) (lz_lift hmc) (fun r w' q => q.1.1.1.2.1) hH2 hS2 hl1.1 (Nat.le_of_ble_eq_true rfl) ⟨by show cells + 340 + 50 ≤ 601024; omega, by show slots + 1100 + 6920 ≤ 7293034; omega⟩ (fun v3 w3 hq H3 locs3 hH3 hS3 hin3 => ?_) (fun E w3 hq => by obtain ⟨⟨-, u, hu, -⟩, -⟩ := hq; cases hu)
  obtain ⟨⟨hR, u, hu, hout, hthr, n3, hn3, hJ3⟩, ht3⟩ := hq
  obtain ⟨x3, rfl⟩ := bm_typ1 ht3
  cases hu
  have hK3 := hK2.E hR.1
  have hgl := hR.2 (t + 154) (by omega) (by omega) 0
  have hxi := hin3 _ rfl
  refine W.eq (g2 := F0 m 891 ls1 [.int (Int32.ofInt x3)]) rfl ?_
  refine lv_istore (lv' := (7, .int (Int32.ofInt x3)) :: (6, .int (Int32.ofInt k)) :: lz_lo a b t i) hx hb dL_law_891 hl1 (by decide) rfl (fun ls2 hl2 => ?_)
  refine lv_aload_n hx hb dL_law_893 rfl (lv_at hl2 5 rfl) ?_
  refine W.eq (g2 := F0 m 894 ls2 ((([] : List bm_V).reverse ++ bm_r (some (t + 122)) :: []).map (bm_val D))) rfl ?_
  refine lz_callV (as := []) (rest := []) (mc := 0) (ms := 0) hX dL_law_894 bm_cw_164 bm_cl_12 wL_1310 wL_1311 wL_1312 hK3.2.2.2.2.2.2.1 rfl bm_InSt_nil (lt_thr hK3 hthr) (fun r w' q => lt_thB q) hH3 hS3 hl2.1 (Nat.le_of_ble_eq_true rfl) ⟨by show cells + 340 + 50 + 0 ≤ 601024; omega, by show slots + 1100 + 6920 + 0 ≤ 7293034; omega⟩ (fun v4 w4 hq H4 locs4 hH4 hS4 _ => ?_) (fun E w4 hq => by cases hq.1)
  obtain ⟨hv4, rfl⟩ := hq
  cases hv4
  refine W.eq (g2 := F0 m 897 ls2 [.int (Int32.ofInt k)]) rfl ?_
  refine lv_iload hx hb dL_law_897 (lv_at hl2 1 rfl) ?_
  refine lv_icmp_eq (tgt := 904) hx hb dL_law_899 rfl (fun _ => ?_) (fun h => absurd rfl h)
  refine lv_iload hx hb dL_law_904 (lv_at hl2 1 rfl) ?_
  refine lv_if_ne (tgt := 921) hx hb dL_law_906 rfl (fun hne => ?_) (fun heq => ?_)
  · refine lv_goto (tgt := 1361) hx hb dL_law_921 rfl ?_
    exact kk H4 locs4 ls2 _ n3 _ _ hH4 hS4 hJ3 hK3 (lv_sub hl2 [2, 3, 4, 5, 6, 7] rfl) (by omega) (by omega)
  · have hk : k = 0 := (lz_k0 hk0 hk2).mp heq
    refine lv_aload_n hx hb dL_law_909 rfl (lv_at hl2 4 rfl) ?_
    refine lv_iconst (v := Int32.ofInt 0) hx hb dL_law_910 rfl ?_
    refine lz_lald hX hK3.2.2.1 hK3.2.2.2.1 dL_law_911 hH4 ?_
    rw [hgl, hout hk]
    refine lv_iload hx hb dL_law_912 (lv_at hl2 0 rfl) ?_
    refine lv_i2l (v := Int64.ofInt x3) hx hb dL_law_914 (lz_i2l hxi) ?_
    show W p l e room_1 s m args below meth c H4 locs4 _ _ Q (F0 m _ ls2 [.long (Int64.ofInt x3), .long (Int64.ofInt x3)])
    refine W.lcmp hx hb dL_law_915 ?_
    refine W.eq (g2 := F0 m 916 ls2 [.int 0]) (by rw [lz_cmp0]) ?_
    refine lv_if_eq (tgt := 921) hx hb dL_law_916 rfl (fun _ => ?_) (fun h => absurd rfl h)
    refine lv_goto (tgt := 1361) hx hb dL_law_921 rfl ?_
    exact kk H4 locs4 ls2 _ n3 _ _ hH4 hS4 hJ3 hK3 (lv_sub hl2 [2, 3, 4, 5, 6, 7] rfl) (by omega) (by omega)
set_option maxHeartbeats 8000000 in
set_option maxRecDepth 100000 in
theorem lt_holds (C : lz_C D p l s m args c a L xs) (hH : bm_HR D s.heap.size w H) (hS : va_S (bm_A s.heap.size) s.heap H locs) (hJ : lJ b t n w) (hK : lt_K b t w) (hl : lv_has ls 9 (lz_lo a b t i)) (hi : 0 ≤ i) (hL : i.toNat + 6 ≤ L) (hf : cells + n + 420 ≤ 601024) (hg : slots + 3 * n + 8100 ≤ 7293034) (kk : lz_K D p l e s m args below meth c a b t n i cells slots Q) : W p l e room_1 s m args below meth c H locs cells slots Q (F0 m 924 ls []) := by
  have hX := C.1
  have hx := hX.1.1
  have hb := hX.1.2.1
  obtain ⟨B, pr, nI, Dt, ev, hJ0⟩ := hJ
  have hL15 : n ≤ 1500 := hJ0.1.2.2.1
  refine lv_aload_n hx hb dL_law_924 rfl (lv_at hl 4 rfl) ?_
  refine lz_ld (k := 1) C hS (lv_at hl 5 rfl) (lv_at hl 0 rfl) hi hL (by decide) dL_law_925 dL_law_926 dL_law_928 dL_law_929 dL_law_930 ?_
  refine lz_ld (k := 2) C hS (lv_at hl 5 rfl) (lv_at hl 0 rfl) hi hL (by decide) dL_law_931 dL_law_932 dL_law_934 dL_law_935 dL_law_936 ?_
  refine lv_aload_n hx hb dL_law_937 rfl (lv_at hl 2 rfl) ?_
  refine W.eq (g2 := F0 m 938 ls ((([bm_r (some b), bm_i (lz_v xs i 1), bm_i (lz_v xs i 2), bm_r (some (t + 154))] : List bm_V).reverse ++ []).map (bm_val D))) rfl ?_
  have hcl := lz_F1 (κ := 1) (fun E2 => la_holds (d := 0) (E2 := E2) (x := (lz_v xs i 1)) (k := (lz_v xs i 2)) hJ0) (by decide +kernel) (by decide)
  refine lz_callH (as := [bm_r (some b), bm_i (lz_v xs i 1), bm_i (lz_v xs i 2), bm_r (some (t + 154))]) (rest := []) (mc := 340) (ms := 1100) hX dL_law_938 lo_holds wL_1108 (lh_holds (d := 1300) l hX.2.2.2.2.2.2.2 hK.2.2.2.2.2.2.2 (bm_InSt.cons (v := bm_i (lz_v xs i 1)) (lz_vin xs i 1) (bm_InSt.cons (v := bm_i (lz_v xs i 2)) (lz_vin xs i 2) bm_InSt_nil)) hcl (lh_H_of hK (Or.inl ⟨rfl, rfl⟩))) rfl hH hS hl.1 (Nat.le_of_ble_eq_true rfl) ⟨by show cells + 340 ≤ 601024; omega, by show slots + 1100 ≤ 7293034; omega⟩ (fun v w2 hG H2 locs2 hH2 hS2 hin2 => ?_)
  obtain ⟨k, hk0, hk2, hv, hK2, hmc⟩ := lt_of hK (Or.inl rfl) (by decide) (by decide +kernel) hG
  cases hv
  refine W.eq (g2 := F0 m 941 ls [.int (Int32.ofInt k)]) rfl ?_
  refine lv_istore (lv' := (6, .int (Int32.ofInt k)) :: lz_lo a b t i) hx hb dL_law_941 hl (by decide) rfl (fun ls1 hl1 => ?_)
  refine lv_aload_n hx hb dL_law_943 rfl (lv_at hl1 4 rfl) ?_
  refine lz_ld (k := 1) C hS2 (lv_at hl1 6 rfl) (lv_at hl1 1 rfl) hi hL (by decide) dL_law_944 dL_law_945 dL_law_947 dL_law_948 dL_law_949 ?_
  refine lz_ld (k := 2) C hS2 (lv_at hl1 6 rfl) (lv_at hl1 1 rfl) hi hL (by decide) dL_law_950 dL_law_951 dL_law_953 dL_law_954 dL_law_955 ?_
  refine W.eq (g2 := F0 m 956 ls1 ((([bm_i (lz_v xs i 1), bm_i (lz_v xs i 2)] : List bm_V).reverse ++ bm_r (some (t + 122)) :: []).map (bm_val D))) rfl ?_
  refine lz_callV (as := [bm_i (lz_v xs i 1), bm_i (lz_v xs i 2)]) (rest := []) (mc := 50) (ms := 6920) hX dL_law_956 bm_cw_255 bm_cl_12 wL_1800 wL_1801 wL_1802 hK2.2.2.2.2.2.2.1 rfl (bm_InSt.cons (v := bm_i (lz_v xs i 1)) (lz_vin xs i 1) (bm_InSt.cons (v := bm_i (lz_v xs i 2)) (lz_vin xs i 2) bm_InSt_nil)) (lz_lift hmc) (fun r w' q => q.1.1.1.2.1) hH2 hS2 hl1.1 (Nat.le_of_ble_eq_true rfl) ⟨by show cells + 340 + 50 ≤ 601024; omega, by show slots + 1100 + 6920 ≤ 7293034; omega⟩ (fun v3 w3 hq H3 locs3 hH3 hS3 hin3 => ?_) (fun E w3 hq => by obtain ⟨⟨-, u, hu, -⟩, -⟩ := hq; cases hu)
  obtain ⟨⟨hR, u, hu, hout, hthr, n3, hn3, hJ3⟩, ht3⟩ := hq
  obtain ⟨x3, rfl⟩ := bm_typ1 ht3
  cases hu
  have hK3 := hK2.E hR.1
  have hgl := hR.2 (t + 154) (by omega) (by omega) 0
  have hxi := hin3 _ rfl
  refine W.eq (g2 := F0 m 959 ls1 [.int (Int32.ofInt x3)]) rfl ?_
  refine lv_istore (lv' := (7, .int (Int32.ofInt x3)) :: (6, .int (Int32.ofInt k)) :: lz_lo a b t i) hx hb dL_law_959 hl1 (by decide) rfl (fun ls2 hl2 => ?_)
  refine lv_aload_n hx hb dL_law_961 rfl (lv_at hl2 5 rfl) ?_
  refine W.eq (g2 := F0 m 962 ls2 ((([] : List bm_V).reverse ++ bm_r (some (t + 122)) :: []).map (bm_val D))) rfl ?_
  refine lz_callV (as := []) (rest := []) (mc := 0) (ms := 0) hX dL_law_962 bm_cw_164 bm_cl_12 wL_1310 wL_1311 wL_1312 hK3.2.2.2.2.2.2.1 rfl bm_InSt_nil (lt_thr hK3 hthr) (fun r w' q => lt_thB q) hH3 hS3 hl2.1 (Nat.le_of_ble_eq_true rfl) ⟨by show cells + 340 + 50 + 0 ≤ 601024; omega, by show slots + 1100 + 6920 + 0 ≤ 7293034; omega⟩ (fun v4 w4 hq H4 locs4 hH4 hS4 _ => ?_) (fun E w4 hq => by cases hq.1)
  obtain ⟨hv4, rfl⟩ := hq
  cases hv4
  refine W.eq (g2 := F0 m 965 ls2 [.int (Int32.ofInt k)]) rfl ?_
  refine lv_iload hx hb dL_law_965 (lv_at hl2 1 rfl) ?_
  refine lv_icmp_eq (tgt := 972) hx hb dL_law_967 rfl (fun _ => ?_) (fun h => absurd rfl h)
  refine lv_iload hx hb dL_law_972 (lv_at hl2 1 rfl) ?_
  refine lv_if_ne (tgt := 996) hx hb dL_law_974 rfl (fun hne => ?_) (fun heq => ?_)
  · refine lv_goto (tgt := 1361) hx hb dL_law_996 rfl ?_
    exact kk H4 locs4 ls2 _ n3 _ _ hH4 hS4 hJ3 hK3 (lv_sub hl2 [2, 3, 4, 5, 6, 7] rfl) (by omega) (by omega)
  · have hk : k = 0 := (lz_k0 hk0 hk2).mp heq
    refine lv_aload_n hx hb dL_law_977 rfl (lv_at hl2 4 rfl) ?_
    refine lv_iconst (v := Int32.ofInt 0) hx hb dL_law_978 rfl ?_
    refine lz_lald hX hK3.2.2.1 hK3.2.2.2.1 dL_law_979 hH4 ?_
    rw [hgl, hout hk]
    refine lv_iload hx hb dL_law_980 (lv_at hl2 0 rfl) ?_
    refine lv_if_eq (tgt := 989) hx hb dL_law_982 rfl (fun hz => ?_) (fun hz => ?_)
    · refine lv_lconst (v := Int64.ofInt (lh_b (bm_i x3))) hx hb dL_law_989 (by rw [show lh_b (bm_i x3) = 0 from if_pos ((lz_i0 hxi).mp hz)]; rfl) ?_
      refine W.lcmp hx hb dL_law_990 ?_
      refine W.eq (g2 := F0 m 991 ls2 [.int 0]) (by rw [lz_cmp0]) ?_
      refine lv_if_eq (tgt := 996) hx hb dL_law_991 rfl (fun _ => ?_) (fun h => absurd rfl h)
      refine lv_goto (tgt := 1361) hx hb dL_law_996 rfl ?_
      exact kk H4 locs4 ls2 _ n3 _ _ hH4 hS4 hJ3 hK3 (lv_sub hl2 [2, 3, 4, 5, 6, 7] rfl) (by omega) (by omega)
    · refine lv_lconst (v := Int64.ofInt (lh_b (bm_i x3))) hx hb dL_law_985 (by rw [show lh_b (bm_i x3) = 1 from if_neg (fun y => hz ((lz_i0 hxi).mpr y))]; rfl) ?_
      refine lv_goto (tgt := 990) hx hb dL_law_986 rfl ?_
      refine W.lcmp hx hb dL_law_990 ?_
      refine W.eq (g2 := F0 m 991 ls2 [.int 0]) (by rw [lz_cmp0]) ?_
      refine lv_if_eq (tgt := 996) hx hb dL_law_991 rfl (fun _ => ?_) (fun h => absurd rfl h)
      refine lv_goto (tgt := 1361) hx hb dL_law_996 rfl ?_
      exact kk H4 locs4 ls2 _ n3 _ _ hH4 hS4 hJ3 hK3 (lv_sub hl2 [2, 3, 4, 5, 6, 7] rfl) (by omega) (by omega)
set_option maxHeartbeats 8000000 in
set_option maxRecDepth 100000 in
theorem lt_taken (C : lz_C D p l s m args c a L xs) (hH : bm_HR D s.heap.size w H) (hS : va_S (bm_A s.heap.size) s.heap H locs) (hJ : lJ b t n w) (hK : lt_K b t w) (hl : lv_has ls 9 (lz_lo a b t i)) (hi : 0 ≤ i) (hL : i.toNat + 6 ≤ L) (hf : cells + n + 420 ≤ 601024) (hg : slots + 3 * n + 8100 ≤ 7293034) (kk : lz_K D p l e s m args below meth c a b t n i cells slots Q) : W p l e room_1 s m args below meth c H locs cells slots Q (F0 m 999 ls []) := by
  have hX := C.1
  have hx := hX.1.1
  have hb := hX.1.2.1
  obtain ⟨B, pr, nI, Dt, ev, hJ0⟩ := hJ
  have hL15 : n ≤ 1500 := hJ0.1.2.2.1
  refine lv_aload_n hx hb dL_law_999 rfl (lv_at hl 4 rfl) ?_
  refine lz_ld (k := 1) C hS (lv_at hl 5 rfl) (lv_at hl 0 rfl) hi hL (by decide) dL_law_1000 dL_law_1001 dL_law_1003 dL_law_1004 dL_law_1005 ?_
  refine lz_ld (k := 2) C hS (lv_at hl 5 rfl) (lv_at hl 0 rfl) hi hL (by decide) dL_law_1006 dL_law_1007 dL_law_1009 dL_law_1010 dL_law_1011 ?_
  refine lz_nz (t1 := 1019) (t2 := 1020) hX (lz_vin xs i 2) dL_law_1012 rfl dL_law_1015 dL_law_1016 rfl dL_law_1019 rfl ?_
  refine lv_aload_n hx hb dL_law_1020 rfl (lv_at hl 2 rfl) ?_
  refine W.eq (g2 := F0 m 1021 ls ((([bm_r (some b), bm_i (lz_v xs i 1), bm_i (lz_z (lz_v xs i 2)), bm_r (some (t + 154))] : List bm_V).reverse ++ []).map (bm_val D))) rfl ?_
  have hcl := lz_F1 (κ := 1) (fun E2 => la_taken (d := 0) (E2 := E2) (x := (lz_v xs i 1)) (v := (lz_z (lz_v xs i 2))) hJ0) (by decide +kernel) (by decide)
  refine lz_callH (as := [bm_r (some b), bm_i (lz_v xs i 1), bm_i (lz_z (lz_v xs i 2)), bm_r (some (t + 154))]) (rest := []) (mc := 340) (ms := 1100) hX dL_law_1021 lo_taken wL_1116 (lh_taken (d := 1300) l hX.2.2.2.2.2.2.2 hK.2.2.2.2.2.2.2 (bm_InSt.cons (v := bm_i (lz_v xs i 1)) (lz_vin xs i 1) (bm_InSt.cons (v := bm_i (lz_z (lz_v xs i 2))) (lz_zin _) bm_InSt_nil)) hcl (lh_H_of hK (Or.inl ⟨rfl, rfl⟩))) rfl hH hS hl.1 (Nat.le_of_ble_eq_true rfl) ⟨by show cells + 340 ≤ 601024; omega, by show slots + 1100 ≤ 7293034; omega⟩ (fun v w2 hG H2 locs2 hH2 hS2 hin2 => ?_)
  obtain ⟨k, hk0, hk2, hv, hK2, hmc⟩ := lt_of hK (Or.inl rfl) (by decide) (by decide +kernel) hG
  cases hv
  refine W.eq (g2 := F0 m 1024 ls [.int (Int32.ofInt k)]) rfl ?_
  refine lv_istore (lv' := (6, .int (Int32.ofInt k)) :: lz_lo a b t i) hx hb dL_law_1024 hl (by decide) rfl (fun ls1 hl1 => ?_)
  refine lv_aload_n hx hb dL_law_1026 rfl (lv_at hl1 4 rfl) ?_
  refine lz_ld (k := 1) C hS2 (lv_at hl1 6 rfl) (lv_at hl1 1 rfl) hi hL (by decide) dL_law_1027 dL_law_1028 dL_law_1030 dL_law_1031 dL_law_1032 ?_
  refine lz_ld (k := 2) C hS2 (lv_at hl1 6 rfl) (lv_at hl1 1 rfl) hi hL (by decide) dL_law_1033 dL_law_1034 dL_law_1036 dL_law_1037 dL_law_1038 ?_
  refine lz_nz (t1 := 1046) (t2 := 1047) hX (lz_vin xs i 2) dL_law_1039 rfl dL_law_1042 dL_law_1043 rfl dL_law_1046 rfl ?_
  refine W.eq (g2 := F0 m 1047 ls1 ((([bm_i (lz_v xs i 1), bm_i (lz_z (lz_v xs i 2))] : List bm_V).reverse ++ bm_r (some (t + 122)) :: []).map (bm_val D))) rfl ?_
  refine lz_callV (as := [bm_i (lz_v xs i 1), bm_i (lz_z (lz_v xs i 2))]) (rest := []) (mc := 50) (ms := 6920) hX dL_law_1047 bm_cw_257 bm_cl_12 wL_1804 wL_1805 wL_1806 hK2.2.2.2.2.2.2.1 rfl (bm_InSt.cons (v := bm_i (lz_v xs i 1)) (lz_vin xs i 1) (bm_InSt.cons (v := bm_i (lz_z (lz_v xs i 2))) (lz_zin _) bm_InSt_nil)) (lz_lift hmc) (fun r w' q => q.1.1.1.2.1) hH2 hS2 hl1.1 (Nat.le_of_ble_eq_true rfl) ⟨by show cells + 340 + 50 ≤ 601024; omega, by show slots + 1100 + 6920 ≤ 7293034; omega⟩ (fun v3 w3 hq H3 locs3 hH3 hS3 hin3 => ?_) (fun E w3 hq => by obtain ⟨⟨-, u, hu, -⟩, -⟩ := hq; cases hu)
  obtain ⟨⟨hR, u, hu, hout, hthr, n3, hn3, hJ3⟩, ht3⟩ := hq
  obtain ⟨x3, rfl⟩ := bm_typ1 ht3
  cases hu
  have hK3 := hK2.E hR.1
  have hgl := hR.2 (t + 154) (by omega) (by omega) 0
  have hxi := hin3 _ rfl
  refine W.eq (g2 := F0 m 1050 ls1 [.int (Int32.ofInt x3)]) rfl ?_
  refine lv_istore (lv' := (7, .int (Int32.ofInt x3)) :: (6, .int (Int32.ofInt k)) :: lz_lo a b t i) hx hb dL_law_1050 hl1 (by decide) rfl (fun ls2 hl2 => ?_)
  refine lv_aload_n hx hb dL_law_1052 rfl (lv_at hl2 5 rfl) ?_
  refine W.eq (g2 := F0 m 1053 ls2 ((([] : List bm_V).reverse ++ bm_r (some (t + 122)) :: []).map (bm_val D))) rfl ?_
  refine lz_callV (as := []) (rest := []) (mc := 0) (ms := 0) hX dL_law_1053 bm_cw_164 bm_cl_12 wL_1310 wL_1311 wL_1312 hK3.2.2.2.2.2.2.1 rfl bm_InSt_nil (lt_thr hK3 hthr) (fun r w' q => lt_thB q) hH3 hS3 hl2.1 (Nat.le_of_ble_eq_true rfl) ⟨by show cells + 340 + 50 + 0 ≤ 601024; omega, by show slots + 1100 + 6920 + 0 ≤ 7293034; omega⟩ (fun v4 w4 hq H4 locs4 hH4 hS4 _ => ?_) (fun E w4 hq => by cases hq.1)
  obtain ⟨hv4, rfl⟩ := hq
  cases hv4
  refine W.eq (g2 := F0 m 1056 ls2 [.int (Int32.ofInt k)]) rfl ?_
  refine lv_iload hx hb dL_law_1056 (lv_at hl2 1 rfl) ?_
  refine lv_icmp_eq (tgt := 1063) hx hb dL_law_1058 rfl (fun _ => ?_) (fun h => absurd rfl h)
  refine lv_iload hx hb dL_law_1063 (lv_at hl2 1 rfl) ?_
  refine lv_if_ne (tgt := 1080) hx hb dL_law_1065 rfl (fun hne => ?_) (fun heq => ?_)
  · refine lv_goto (tgt := 1361) hx hb dL_law_1080 rfl ?_
    exact kk H4 locs4 ls2 _ n3 _ _ hH4 hS4 hJ3 hK3 (lv_sub hl2 [2, 3, 4, 5, 6, 7] rfl) (by omega) (by omega)
  · have hk : k = 0 := (lz_k0 hk0 hk2).mp heq
    refine lv_aload_n hx hb dL_law_1068 rfl (lv_at hl2 4 rfl) ?_
    refine lv_iconst (v := Int32.ofInt 0) hx hb dL_law_1069 rfl ?_
    refine lz_lald hX hK3.2.2.1 hK3.2.2.2.1 dL_law_1070 hH4 ?_
    rw [hgl, hout hk]
    refine lv_iload hx hb dL_law_1071 (lv_at hl2 0 rfl) ?_
    refine lv_i2l (v := Int64.ofInt x3) hx hb dL_law_1073 (lz_i2l hxi) ?_
    show W p l e room_1 s m args below meth c H4 locs4 _ _ Q (F0 m _ ls2 [.long (Int64.ofInt x3), .long (Int64.ofInt x3)])
    refine W.lcmp hx hb dL_law_1074 ?_
    refine W.eq (g2 := F0 m 1075 ls2 [.int 0]) (by rw [lz_cmp0]) ?_
    refine lv_if_eq (tgt := 1080) hx hb dL_law_1075 rfl (fun _ => ?_) (fun h => absurd rfl h)
    refine lv_goto (tgt := 1361) hx hb dL_law_1080 rfl ?_
    exact kk H4 locs4 ls2 _ n3 _ _ hH4 hS4 hJ3 hK3 (lv_sub hl2 [2, 3, 4, 5, 6, 7] rfl) (by omega) (by omega)
set_option maxHeartbeats 8000000 in
set_option maxRecDepth 100000 in
theorem lt_finds (C : lz_C D p l s m args c a L xs) (hH : bm_HR D s.heap.size w H) (hS : va_S (bm_A s.heap.size) s.heap H locs) (hJ : lJ b t n w) (hK : lt_K b t w) (hl : lv_has ls 9 (lz_lo a b t i)) (hi : 0 ≤ i) (hL : i.toNat + 6 ≤ L) (hf : cells + n + 420 ≤ 601024) (hg : slots + 3 * n + 8100 ≤ 7293034) (kk : lz_K D p l e s m args below meth c a b t n i cells slots Q) : W p l e room_1 s m args below meth c H locs cells slots Q (F0 m 1083 ls []) := by
  have hX := C.1
  have hx := hX.1.1
  have hb := hX.1.2.1
  obtain ⟨B, pr, nI, Dt, ev, hJ0⟩ := hJ
  have hL15 : n ≤ 1500 := hJ0.1.2.2.1
  refine lv_aload_n hx hb dL_law_1083 rfl (lv_at hl 4 rfl) ?_
  refine lz_ld (k := 1) C hS (lv_at hl 5 rfl) (lv_at hl 0 rfl) hi hL (by decide) dL_law_1084 dL_law_1085 dL_law_1087 dL_law_1088 dL_law_1089 ?_
  refine lz_ld (k := 2) C hS (lv_at hl 5 rfl) (lv_at hl 0 rfl) hi hL (by decide) dL_law_1090 dL_law_1091 dL_law_1093 dL_law_1094 dL_law_1095 ?_
  refine lv_aload_n hx hb dL_law_1096 rfl (lv_at hl 2 rfl) ?_
  refine W.eq (g2 := F0 m 1097 ls ((([bm_r (some b), bm_i (lz_v xs i 1), bm_i (lz_v xs i 2), bm_r (some (t + 154))] : List bm_V).reverse ++ []).map (bm_val D))) rfl ?_
  have hcl := lz_F1 (κ := 1) (fun E2 => la_finds (d := 0) (E2 := E2) (x := (lz_v xs i 1)) (p := (lz_v xs i 2)) hJ0) (by decide +kernel) (by decide)
  refine lz_callH (as := [bm_r (some b), bm_i (lz_v xs i 1), bm_i (lz_v xs i 2), bm_r (some (t + 154))]) (rest := []) (mc := 340) (ms := 1100) hX dL_law_1097 lo_finds wL_1123 (lh_finds (d := 1300) l hX.2.2.2.2.2.2.2 hK.2.2.2.2.2.2.2 (bm_InSt.cons (v := bm_i (lz_v xs i 1)) (lz_vin xs i 1) (bm_InSt.cons (v := bm_i (lz_v xs i 2)) (lz_vin xs i 2) bm_InSt_nil)) hcl (lh_H_of hK (Or.inl ⟨rfl, rfl⟩))) rfl hH hS hl.1 (Nat.le_of_ble_eq_true rfl) ⟨by show cells + 340 ≤ 601024; omega, by show slots + 1100 ≤ 7293034; omega⟩ (fun v w2 hG H2 locs2 hH2 hS2 hin2 => ?_)
  obtain ⟨k, hk0, hk2, hv, hK2, hmc⟩ := lt_of hK (Or.inl rfl) (by decide) (by decide +kernel) hG
  cases hv
  refine W.eq (g2 := F0 m 1100 ls [.int (Int32.ofInt k)]) rfl ?_
  refine lv_istore (lv' := (6, .int (Int32.ofInt k)) :: lz_lo a b t i) hx hb dL_law_1100 hl (by decide) rfl (fun ls1 hl1 => ?_)
  refine lv_aload_n hx hb dL_law_1102 rfl (lv_at hl1 4 rfl) ?_
  refine lz_ld (k := 1) C hS2 (lv_at hl1 6 rfl) (lv_at hl1 1 rfl) hi hL (by decide) dL_law_1103 dL_law_1104 dL_law_1106 dL_law_1107 dL_law_1108 ?_
  refine lz_ld (k := 2) C hS2 (lv_at hl1 6 rfl) (lv_at hl1 1 rfl) hi hL (by decide) dL_law_1109 dL_law_1110 dL_law_1112 dL_law_1113 dL_law_1114 ?_
  refine W.eq (g2 := F0 m 1115 ls1 ((([bm_i (lz_v xs i 1), bm_i (lz_v xs i 2)] : List bm_V).reverse ++ bm_r (some (t + 122)) :: []).map (bm_val D))) rfl ?_
  refine lz_callV (as := [bm_i (lz_v xs i 1), bm_i (lz_v xs i 2)]) (rest := []) (mc := 50) (ms := 6920) hX dL_law_1115 bm_cw_260 bm_cl_12 wL_1812 wL_1813 wL_1814 hK2.2.2.2.2.2.2.1 rfl (bm_InSt.cons (v := bm_i (lz_v xs i 1)) (lz_vin xs i 1) (bm_InSt.cons (v := bm_i (lz_v xs i 2)) (lz_vin xs i 2) bm_InSt_nil)) (lz_lift hmc) (fun r w' q => q.1.1.1.2.1) hH2 hS2 hl1.1 (Nat.le_of_ble_eq_true rfl) ⟨by show cells + 340 + 50 ≤ 601024; omega, by show slots + 1100 + 6920 ≤ 7293034; omega⟩ (fun v3 w3 hq H3 locs3 hH3 hS3 hin3 => ?_) (fun E w3 hq => by obtain ⟨⟨-, u, hu, -⟩, -⟩ := hq; cases hu)
  obtain ⟨⟨hR, u, hu, hout, hthr, n3, hn3, hJ3⟩, ht3⟩ := hq
  obtain ⟨x3, rfl⟩ := bm_typ1 ht3
  cases hu
  have hK3 := hK2.E hR.1
  have hgl := hR.2 (t + 154) (by omega) (by omega) 0
  have hxi := hin3 _ rfl
  refine W.eq (g2 := F0 m 1118 ls1 [.int (Int32.ofInt x3)]) rfl ?_
  refine lv_istore (lv' := (7, .int (Int32.ofInt x3)) :: (6, .int (Int32.ofInt k)) :: lz_lo a b t i) hx hb dL_law_1118 hl1 (by decide) rfl (fun ls2 hl2 => ?_)
  refine lv_aload_n hx hb dL_law_1120 rfl (lv_at hl2 5 rfl) ?_
  refine W.eq (g2 := F0 m 1121 ls2 ((([] : List bm_V).reverse ++ bm_r (some (t + 122)) :: []).map (bm_val D))) rfl ?_
  refine lz_callV (as := []) (rest := []) (mc := 0) (ms := 0) hX dL_law_1121 bm_cw_164 bm_cl_12 wL_1310 wL_1311 wL_1312 hK3.2.2.2.2.2.2.1 rfl bm_InSt_nil (lt_thr hK3 hthr) (fun r w' q => lt_thB q) hH3 hS3 hl2.1 (Nat.le_of_ble_eq_true rfl) ⟨by show cells + 340 + 50 + 0 ≤ 601024; omega, by show slots + 1100 + 6920 + 0 ≤ 7293034; omega⟩ (fun v4 w4 hq H4 locs4 hH4 hS4 _ => ?_) (fun E w4 hq => by cases hq.1)
  obtain ⟨hv4, rfl⟩ := hq
  cases hv4
  refine W.eq (g2 := F0 m 1124 ls2 [.int (Int32.ofInt k)]) rfl ?_
  refine lv_iload hx hb dL_law_1124 (lv_at hl2 1 rfl) ?_
  refine lv_icmp_eq (tgt := 1131) hx hb dL_law_1126 rfl (fun _ => ?_) (fun h => absurd rfl h)
  refine lv_iload hx hb dL_law_1131 (lv_at hl2 1 rfl) ?_
  refine lv_if_ne (tgt := 1155) hx hb dL_law_1133 rfl (fun hne => ?_) (fun heq => ?_)
  · refine lv_goto (tgt := 1361) hx hb dL_law_1155 rfl ?_
    exact kk H4 locs4 ls2 _ n3 _ _ hH4 hS4 hJ3 hK3 (lv_sub hl2 [2, 3, 4, 5, 6, 7] rfl) (by omega) (by omega)
  · have hk : k = 0 := (lz_k0 hk0 hk2).mp heq
    refine lv_aload_n hx hb dL_law_1136 rfl (lv_at hl2 4 rfl) ?_
    refine lv_iconst (v := Int32.ofInt 0) hx hb dL_law_1137 rfl ?_
    refine lz_lald hX hK3.2.2.1 hK3.2.2.2.1 dL_law_1138 hH4 ?_
    rw [hgl, hout hk]
    refine lv_iload hx hb dL_law_1139 (lv_at hl2 0 rfl) ?_
    refine lv_if_eq (tgt := 1148) hx hb dL_law_1141 rfl (fun hz => ?_) (fun hz => ?_)
    · refine lv_lconst (v := Int64.ofInt (lh_b (bm_i x3))) hx hb dL_law_1148 (by rw [show lh_b (bm_i x3) = 0 from if_pos ((lz_i0 hxi).mp hz)]; rfl) ?_
      refine W.lcmp hx hb dL_law_1149 ?_
      refine W.eq (g2 := F0 m 1150 ls2 [.int 0]) (by rw [lz_cmp0]) ?_
      refine lv_if_eq (tgt := 1155) hx hb dL_law_1150 rfl (fun _ => ?_) (fun h => absurd rfl h)
      refine lv_goto (tgt := 1361) hx hb dL_law_1155 rfl ?_
      exact kk H4 locs4 ls2 _ n3 _ _ hH4 hS4 hJ3 hK3 (lv_sub hl2 [2, 3, 4, 5, 6, 7] rfl) (by omega) (by omega)
    · refine lv_lconst (v := Int64.ofInt (lh_b (bm_i x3))) hx hb dL_law_1144 (by rw [show lh_b (bm_i x3) = 1 from if_neg (fun y => hz ((lz_i0 hxi).mpr y))]; rfl) ?_
      refine lv_goto (tgt := 1149) hx hb dL_law_1145 rfl ?_
      refine W.lcmp hx hb dL_law_1149 ?_
      refine W.eq (g2 := F0 m 1150 ls2 [.int 0]) (by rw [lz_cmp0]) ?_
      refine lv_if_eq (tgt := 1155) hx hb dL_law_1150 rfl (fun _ => ?_) (fun h => absurd rfl h)
      refine lv_goto (tgt := 1361) hx hb dL_law_1155 rfl ?_
      exact kk H4 locs4 ls2 _ n3 _ _ hH4 hS4 hJ3 hK3 (lv_sub hl2 [2, 3, 4, 5, 6, 7] rfl) (by omega) (by omega)
end LT

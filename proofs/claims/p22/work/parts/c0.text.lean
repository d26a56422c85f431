/-! ===== the law's texts: length, charAt, put, below, cell ===== -/
def k_len (c : Nat) : Nat := bm_KK.1.2.1.getD c 0
def k_b (c i : Nat) : Int := ((bm_KK.1.2.2.getD c []).getD i 0).toInt
/-- the bytes of a text -/
def k_l (c : Nat) : List Int := (bm_KK.1.2.2.getD c []).map Int32.toInt
theorem k_len_22 : ∀ c, c < 20 → k_len c ≤ 22 := by decide +kernel
theorem k_b_rng : ∀ c, c < 20 → ∀ i, i < k_len c → 32 ≤ k_b c i ∧ k_b c i < 127 := by decide +kernel
theorem k_l_len : ∀ c, c < 20 → (k_l c).length = k_len c := by decide +kernel
theorem k_l_at : ∀ c, c < 20 → ∀ i, i < k_len c → (k_l c).getD i 0 = k_b c i := by decide +kernel
theorem k_sh0 : ∀ n, n < 23 → (Int32.ofInt ((n : Nat) : Int) >>> (Int32.ofInt 0 &&& 31)).toInt = (n : Int) := by decide +kernel
theorem k_and : ∀ n, n < 127 → ((Int32.ofInt ((Int32.ofInt ((n : Nat) : Int) &&& Int32.ofInt (255 : Int)).toInt)).toUInt32 % 65536).toInt32.toInt = (n : Int) := by decide +kernel
theorem tp_len {d c : Nat} {w : bm_W} {Φ : bm_Rt → bm_W → Prop} (hc : c < 20) : bm_Call bm_pg (d + 2) y_J0_length_8abf5 [bm_k (0, c)] w Φ ↔ Φ (.inl (some (bm_i (k_len c)))) w := by
  refine bm_ans (fun Ψ q => vc_J0_length_8abf5 ?_)
  have e : bm_kLen bm_KK (1, c) = k_len c := rfl
  have h := k_sh0 (k_len c) (by have := k_len_22 c hc; omega)
  refine ⟨hc, hc, hc, vc_J0_coder_7d493 ?_⟩
  rw [if_neg (by decide)]
  refine ⟨hc, by decide, ?_⟩
  rw [bm_c1_v, e, h]
  exact q
theorem tp_latin {d c : Nat} {w : bm_W} {Φ : bm_Rt → bm_W → Prop} (hc : c < 20) : bm_Call bm_pg (d + 1) y_J0_isLatin1_aae02 [bm_k (0, c)] w Φ ↔ Φ (.inl (some (bm_i 1))) w := by
  refine bm_ans (fun Ψ q => vc_J0_isLatin1_aae02 ?_)
  rw [if_neg (by decide)]
  refine ⟨hc, ?_⟩
  rw [if_neg (by decide)]
  exact ⟨by decide, q⟩
theorem tp_charAt {d c i : Nat} {w : bm_W} {Φ : bm_Rt → bm_W → Prop} (hc : c < 20) (hi : i < k_len c) : bm_Call bm_pg (d + 4) y_J0_charAt_5068e [bm_k (0, c), bm_i (i : Int)] w Φ ↔ Φ (.inl (some (bm_i (k_b c i)))) w := by
  refine bm_ans (fun Ψ q => vc_J0_charAt_5068e ?_)
  refine ⟨hc, ?_⟩
  rw [tp_latin hc, bm_c1_v, if_neg (by decide)]
  have hr := k_b_rng c hc i hi
  have h := k_and (k_b c i).toNat (by omega)
  rw [show (((k_b c i).toNat : Nat) : Int) = k_b c i by omega] at h
  refine ⟨hc, trivial, vc_J1_charAt_3b067 ⟨hc, trivial, vc_J0_checkIndex_df160 ⟨trivial, vc_J3_checkIndex_8e157 ?_⟩⟩⟩
  have e : bm_kLen bm_KK (1, c) = k_len c := rfl
  rw [if_neg (by simp), if_pos (by simp [e]; omega)]
  rw [bm_c1_v, bm_c0_v]
  refine ⟨⟨hc, ⟨Int.natCast_nonneg i, show (i : Int) < (k_len c : Nat) by omega⟩⟩, ?_⟩
  rw [Int.toNat_natCast]
  have hh : ((((Int32.ofInt ((Int32.ofInt (((bm_KK.1.2.2.getD c []).getD i 0).toInt) &&& Int32.ofInt (255 : Int)).toInt)).toUInt32 % 65536).toInt32.toInt)) = k_b c i := h
  rw [hh, bm_c1_v]
  exact ⟨by omega, by omega, q⟩
section TX
variable {d a s c : Nat} {w : bm_W} {Φ : bm_Rt → bm_W → Prop} {l : List Int}
theorem tp_and (x : Int) : 0 ≤ (Int32.ofInt x &&& Int32.ofInt (2147483647 : Int)).toInt := by
  generalize Int32.ofInt x = y
  have h : (y &&& Int32.ofInt (2147483647 : Int)).toBitVec.toNat ≤ 2147483647 := by
    show (y.toBitVec &&& (Int32.ofInt (2147483647 : Int)).toBitVec).toNat ≤ 2147483647
    rw [BitVec.toNat_and]
    exact Nat.le_trans Nat.and_le_right (by decide)
  have e : (y &&& Int32.ofInt (2147483647 : Int)).toInt = ((y &&& Int32.ofInt (2147483647 : Int)).toBitVec.toNat : Int) := BitVec.toInt_eq_toNat_of_lt (by omega)
  rw [e]
  omega
theorem tp_below {x n : Int} (h0 : 0 < n) (h1 : n ≤ 100) (q : ∀ r, 0 ≤ r → r < n → Φ (.inl (some (bm_i r))) w) : bm_Call bm_pg (d + 1) y_L_below [bm_i x, bm_i n] w Φ := by
  refine vc_L_below ⟨by omega, ?_⟩
  have ha := tp_and x
  generalize (Int32.ofInt x &&& Int32.ofInt (2147483647 : Int)).toInt = v at ha ⊢
  have e1 : v.tmod n = v % n := Int.tmod_eq_emod_of_nonneg ha
  have e2 := Int.emod_nonneg v (show n ≠ 0 by omega)
  have e3 := Int.emod_lt_of_pos v h0
  rw [e1]
  generalize v % n = r at e2 e3 ⊢
  rw [q_wI ⟨by omega, by omega⟩]
  exact q _ e2 e3
theorem tp_cell {k : Int} (hs : bm_kt w s = 91) (hk : 0 ≤ k) (q : ∀ v, Φ (.inl (some (bm_i v))) w) : bm_Call bm_pg (d + 1) y_L_cell [bm_r (some s), bm_i k] w Φ := by
  refine vc_L_cell ⟨hs, ?_⟩
  split
  · exact q _
  · rename_i c
    simp only [decide_eq_true_eq, Int.not_le] at c
    exact ⟨⟨hs, hk, c⟩, q _⟩
/-- the text that is made: a row of 600 numbers, its first is the number of bytes -/
def tx_P (a n m : Nat) (l : List Int) (w : bm_W) : Prop := bm_kt w a = 21 ∧ bm_kn w a = 600 ∧ bm_gi w a 0 = (n : Int) ∧ ∀ j, j < m → bm_gi w a (j + 1) = l.getD j 0
def tx_R (a : Nat) (l : List Int) (w : bm_W) : Prop := tx_P a l.length l.length l w
theorem tx_R.gw {A : Nat → Prop} {w' : bm_W} (h : tx_R a l w) (F : q_fr A w w') (ha : ¬ A a) : tx_R a l w' := by
  obtain ⟨h1, h2, h3, h4⟩ := h
  exact ⟨by rw [F.kt]; exact h1, by rw [F.kn]; exact h2, by rw [F.gi ha]; exact h3, fun j hj => by rw [F.gi ha]; exact h4 j hj⟩
theorem tx_si {n m : Nat} {x : Int} (h : tx_P a n m l w) (hx : l.getD m 0 = x) : tx_P a n (m + 1) l (bm_si w a (m + 1) x) := by
  obtain ⟨h1, h2, h3, h4⟩ := h
  refine ⟨h1, h2, (q_gi_nk (by omega)).trans h3, fun j hj => ?_⟩
  by_cases e : j = m
  · subst e; rw [q_gi_eq]; exact hx.symm
  · rw [q_gi_nk (by omega)]; exact h4 j (by omega)
theorem tp_put_loop (hc : c < 20) (hl : l.length + k_len c ≤ 500) {w0 : bm_W} (q : ∀ w', q_fr (fun x => x = a) w0 w' → tx_R a (l ++ k_l c) w' → Φ (.inl none) w') : ∀ (n i : Nat) (w : bm_W), i + n = k_len c → tx_P a l.length (l.length + i) (l ++ k_l c) w → q_fr (fun x => x = a) w0 w → bk_L_put_2 (d + 4) Φ a c (i : Int) w
  | 0, i, w, hi, h, F => by
    refine vb_L_put_2 ⟨hc, (tp_len hc).mpr ?_⟩
    rw [bm_c1_v, if_pos (by simp only [decide_eq_true_eq]; omega)]
    obtain ⟨h1, h2, h3, h4⟩ := h
    refine ⟨⟨h1, by omega, by rw [h2]; omega⟩, hc, (tp_len hc).mpr ?_⟩
    rw [bm_c1_v]
    refine ⟨⟨h1, by omega, by rw [h2]; omega⟩, ?_⟩
    have hn := k_l_len c hc
    have e : bm_w (bm_gi w a ((0 : Int)).toNat + (k_len c : Int)) = ((l ++ k_l c).length : Int) := by
      show bm_w (bm_gi w a 0 + (k_len c : Int)) = _
      rw [h3, q_wI ⟨by omega, by omega⟩, List.length_append, hn]
      omega
    rw [e]
    refine q _ (F.si rfl) ⟨h1, h2, q_gi_eq, fun j hj => ?_⟩
    show bm_gi (bm_si w a 0 _) a (j + 1) = _
    rw [q_gi_nk (by omega)]
    refine h4 j ?_
    rw [List.length_append, hn] at hj
    omega
  | n + 1, i, w, hi, h, F => by
    refine vb_L_put_2 ⟨hc, (tp_len hc).mpr ?_⟩
    rw [bm_c1_v, if_neg (by simp only [decide_eq_true_eq]; omega)]
    obtain ⟨h1, h2, h3, h4⟩ := h
    refine ⟨⟨h1, by omega, by rw [h2]; omega⟩, hc, (tp_charAt hc (by omega)).mpr ?_⟩
    have e : bm_w (bm_w ((1 : Int) + bm_gi w a ((0 : Int)).toNat) + (i : Int)) = ((l.length + i + 1 : Nat) : Int) := by
      show bm_w (bm_w (1 + bm_gi w a 0) + (i : Int)) = _
      rw [h3, q_wI (x := 1 + (l.length : Int)) ⟨by omega, by omega⟩, q_wI ⟨by omega, by omega⟩]
      omega
    rw [bm_c1_v, e, q_wI (x := (i : Int) + 1) ⟨by omega, by omega⟩, Int.toNat_natCast]
    refine ⟨⟨h1, by omega, by rw [h2]; omega⟩, ?_⟩
    refine tp_put_loop hc hl q n (i + 1) _ (by omega) ?_ (F.si rfl)
    refine tx_si (m := l.length + i) ⟨h1, h2, h3, h4⟩ ?_
    rw [List.getD_eq_getElem?_getD, List.getElem?_append_right (by omega), ← List.getD_eq_getElem?_getD, Nat.add_sub_cancel_left]
    exact k_l_at c hc i (by omega)
theorem tp_put (hc : c < 20) (h : tx_R a l w) (hl : l.length + k_len c ≤ 500) (q : ∀ w', q_fr (fun x => x = a) w w' → tx_R a (l ++ k_l c) w' → Φ (.inl none) w') : bm_Call bm_pg (d + 5) y_L_put [bm_r (some a), bm_k (0, c)] w Φ := by
  refine vc_L_put (tp_put_loop hc hl q (k_len c) 0 w (by omega) ?_ q_fr.rf)
  obtain ⟨h1, h2, h3, h4⟩ := h
  refine ⟨h1, h2, h3, fun j hj => (h4 j (by omega)).trans ?_⟩
  rw [List.getD_eq_getElem?_getD, List.getD_eq_getElem?_getD, List.getElem?_append_left (by omega)]
theorem tp_putN {v : Int} (h0 : 0 ≤ v) (h9 : v ≤ 9) (h : tx_R a l w) (hl : l.length ≤ 500) (q : ∀ w', q_fr (fun x => x = a) w w' → tx_R a (l ++ [48 + v]) w' → Φ (.inl none) w') : bm_Call bm_pg (d + 1) y_L_put_ [bm_r (some a), bm_i v] w Φ := by
  refine vc_L_put_ ?_
  rw [if_pos (by simp only [decide_eq_true_eq]; omega), if_pos (by simp only [decide_eq_true_eq]; omega)]
  obtain ⟨h1, h2, h3, h4⟩ := h
  have e : bm_w ((1 : Int) + bm_gi w a ((0 : Int)).toNat) = ((l.length + 1 : Nat) : Int) := by
    show bm_w (1 + bm_gi w a 0) = _
    rw [h3, q_wI ⟨by omega, by omega⟩]
    omega
  have e2 : bm_w ((48 : Int) + bm_w (v.tmod (10 : Int))) = 48 + v := by
    rw [Int.tmod_eq_emod_of_nonneg h0, Int.emod_eq_of_lt h0 (by omega), q_wI (x := v) ⟨by omega, by omega⟩, q_wI ⟨by omega, by omega⟩]
  rw [e, e2, Int.toNat_natCast]
  have k := tx_si (l := l ++ [48 + v]) (m := l.length) (x := 48 + v) (n := l.length) (w := w) (a := a) ⟨h1, h2, h3, fun j hj => (h4 j hj).trans (by rw [List.getD_eq_getElem?_getD, List.getD_eq_getElem?_getD, List.getElem?_append_left (by omega)])⟩ (by rw [List.getD_eq_getElem?_getD, List.getElem?_append_right (by omega), Nat.sub_self]; rfl)
  have F : q_fr (fun x => x = a) w (bm_si w a (l.length + 1) (48 + v)) := q_fr.rf.si rfl
  generalize bm_si w a (l.length + 1) (48 + v) = w1 at k F ⊢
  obtain ⟨k1, k2, k3, k4⟩ := k
  have e3 : bm_w (bm_gi w1 a ((0 : Int)).toNat + 1) = ((l ++ [48 + v]).length : Int) := by
    show bm_w (bm_gi w1 a 0 + 1) = _
    rw [k3, q_wI ⟨by omega, by omega⟩, List.length_append]
    rfl
  rw [e3]
  refine ⟨⟨h1, by omega, by rw [h2]; omega⟩, by omega, ⟨h1, by omega, by rw [h2]; omega⟩, ⟨k1, by omega, by rw [k2]; omega⟩, ⟨k1, by omega, by rw [k2]; omega⟩, ?_⟩
  refine q _ (F.si rfl) ⟨k1, k2, q_gi_eq, fun j hj => ?_⟩
  show bm_gi (bm_si w1 a 0 _) a (j + 1) = _
  rw [q_gi_nk (by omega)]
  refine k4 j ?_
  rw [List.length_append] at hj
  exact hj
end TX

/-! ===== laying the text on the tape ===== -/
section CE
variable {b c s k d : Nat} {w w' : bm_W}
/-- the bench b without a program, whatever its tape holds -/
def cl_E (b : Nat) (w : bm_W) : Prop := cl_I b 7 w ∧ sh_Tp (b + 1) w ∧ (sh_Tk (b + 3) w ∧ bm_gr w (b + 3) 0 = some (b + 1)) ∧ pg_I (b + 7) 6 6 w ∧ (bm_kt w (b + 115) = 0 ∧ bm_gr w (b + 115) 0 = some (b + 3) ∧ bm_gr w (b + 115) 1 = some (b + 7)) ∧ sh_Mc (b + 116) (b + 7) w ∧ (bm_kt w (b + 120) = 6 ∧ bm_gr w (b + 120) 0 = some (b + 7) ∧ bm_gr w (b + 120) 1 = some (b + 116)) ∧ sh_Un (b + 121) w ∧ (∀ a, b < a → a < b + 125 → a ≠ b + 1 → a ≠ b + 2 → ∀ j, bm_gi w a j = 0 ∧ bm_gl w a j = 0) ∧ bm_gi w b 7 = -1
theorem cl_S.E (h : cl_S b w) : cl_E b w := by
  obtain ⟨a1, h1, h2, h3, h4, h5, h6, h7, h8, h9⟩ := h
  exact ⟨a1, h1, h2, h3, h4, h5, h6, h7, fun a x y _ _ j => h8 a x y j, h9⟩
theorem cl_E.gw (h : cl_E b w) (G : q_gw (fun a => a = b + 1 ∨ a = b + 2 ∨ b + 125 ≤ a) (fun a => b + 125 ≤ a) c s w w') (hz : b + 125 ≤ bm_sz w) : cl_E b w' := by
  obtain ⟨⟨a1, a2⟩, h1, ⟨h2, h2b⟩, h3, ⟨h4, h4a, h4b⟩, h5, ⟨h6, h6a, h6b⟩, h7, h8, h9⟩ := h
  refine ⟨⟨(G.kt (by omega)).trans a1, fun j hj => (G.gr (by omega) (by omega)).trans (a2 j hj)⟩, h1.gw G (by omega) (by omega), ⟨h2.gw G (by omega) (by omega), (G.gr (by omega) (by omega)).trans h2b⟩, h3.gw G (by omega) (Or.inr rfl) (fun x y => by omega), ⟨(G.kt (by omega)).trans h4, (G.gr (by omega) (by omega)).trans h4a, (G.gr (by omega) (by omega)).trans h4b⟩, h5.gw G (by omega) (by omega), ⟨(G.kt (by omega)).trans h6, (G.gr (by omega) (by omega)).trans h6a, (G.gr (by omega) (by omega)).trans h6b⟩, h7.gw G (by omega) (by omega), fun a x y e1 e2 j => ?_, (G.gi (by omega) (by omega)).trans h9⟩
  have z := h8 a x y e1 e2 j
  exact ⟨(G.gi (by omega) (by omega)).trans z.1, (G.gl (by omega) (by omega)).trans z.2⟩
theorem cl_E.lC {L : Nat} {D : Nat → Int} {B : Int → Int} (h : cl_E b w) (hz : b + 128 ≤ bm_sz w) (hT : cTx (b + 1) D L w) (hL : L ≤ 1500) : lC b (b + 3) B ([], []) 0 L D (-1) w := by
  obtain ⟨⟨a1, a2⟩, h1, ⟨h2, h2b⟩, h3, ⟨h4, h4a, h4b⟩, h5, ⟨h6, h6a, h6b⟩, h7, h8, h9⟩ := h
  obtain ⟨p1, p2⟩ := h3.pg
  have z4 : ∀ j, bm_gi w (b + 3 + 4) j = 0 := fun j => (h8 (b + 7) (by omega) (by omega) (by omega) (by omega) j).1
  have ru : sh_Ru (b + 3) w := ⟨h6, h6a, h6b, p1, h5⟩
  have fn : ∀ i : Int, bm_gi w (pg_fn (b + 3 + 4) i) 6 = 0 := fun i => by
    refine (h8 _ ?_ ?_ ?_ ?_ 6).1 <;> (unfold pg_fn; split <;> omega)
  refine ⟨⟨⟨⟨rfl, a1, a2 0 (by omega), a2 1 (by omega), a2 2 (by omega), a2 3 (by omega), a2 4 (by omega), a2 5 (by omega), a2 6 (by omega), h6, h6a, h6b, h7⟩, ⟨h2, h2b, h1, rfl, ?_, ?_⟩, ⟨h4, h4a, h4b⟩, p1, h5, ⟨by omega, ?_, ?_⟩, ?_, ?_, fun i => ?_⟩, ⟨ru, z4 5, by decide, fun k hk => absurd hk (by simp)⟩, ⟨z4 4, by decide, fun g hg => absurd hg (by simp)⟩, Or.inl (h8 (b + 120) (by omega) (by omega) (by omega) (by omega) 2).1, (h8 (b + 116) (by omega) (by omega) (by omega) (by omega) 6).1⟩, fun k i r hk => absurd hk (by simp), hT, z4 6, h9⟩
  · rw [hT.2.1]; omega
  · rw [hT.2.1]; omega
  · rintro T j r ⟨⟨i, rfl⟩, -, hr⟩
    rw [p2 i j] at hr
    cases hr
  · rintro T j r T' j' r' ⟨⟨i, rfl⟩, -, hr⟩
    rw [p2 i j] at hr
    cases hr
  · rw [z4 4]; omega
  · rw [z4 5]; omega
  · rw [fn i]; omega
end CE
/-! bytes packed by four, and taken out again -/
theorem py_bit (x y : BitVec 32) (hy : y.toNat < 256) (j : Nat) (hj : j < 32) : ((x <<< 8) ||| y).getLsbD j = if j < 8 then y.getLsbD j else x.getLsbD (j - 8) := by
  rw [BitVec.getLsbD_or, BitVec.getLsbD_shiftLeft]
  by_cases c : j < 8
  · simp [c]
  · have e : y.getLsbD j = false := by
      show y.toNat.testBit j = false
      exact Nat.testBit_lt_two_pow (Nat.lt_of_lt_of_le hy (show 2 ^ 8 ≤ 2 ^ j from Nat.pow_le_pow_right (by decide) (by omega)))
    rw [e, if_neg c, decide_eq_true hj, decide_eq_false c]
    simp only [Bool.true_and, Bool.not_false, Bool.or_false]
theorem py_shl (a : Int32) : (a <<< (Int32.ofInt (8 : Int) &&& 31)).toBitVec = a.toBitVec <<< 8 := by
  rw [Int32.toBitVec_shiftLeft]
  have e : (Int32.ofInt (8 : Int) &&& 31).toBitVec.smod 32 = 8#32 := by decide
  rw [e]
  rfl
theorem py_shr (a : Int32) : ∀ s : Nat, s < 4 → (a >>> (Int32.ofInt (8 * (s : Int)) &&& 31)).toBitVec = a.toBitVec.sshiftRight (8 * s) := by
  intro s hs
  rw [Int32.toBitVec_shiftRight]
  have e : ∀ s : Nat, s < 4 → ((Int32.ofInt (8 * (s : Int)) &&& 31).toBitVec.smod 32).toNat = 8 * s := by decide
  show a.toBitVec.sshiftRight _ = _
  rw [e s hs]
/-- the bytes so far, packed -/
def py_v (D : Nat → Int) (k : Nat) : Nat → Int32
  | 0 => 0
  | m + 1 => (py_v D k m <<< (Int32.ofInt (8 : Int) &&& 31)) ||| Int32.ofInt (D (k + m))
theorem py_n {x : Int} (h0 : 0 ≤ x) (h1 : x ≤ 255) : (Int32.ofInt x).toBitVec.toNat = x.toNat := by
  show (BitVec.ofInt 32 x).toNat = _
  rw [BitVec.toNat_ofInt]
  omega
theorem py_at {D : Nat → Int} {k m j : Nat} (hD : 0 ≤ D (k + m) ∧ D (k + m) ≤ 255) (hj : j < 32) : (py_v D k (m + 1)).toBitVec.getLsbD j = if j < 8 then (Int32.ofInt (D (k + m))).toBitVec.getLsbD j else (py_v D k m).toBitVec.getLsbD (j - 8) := by
  show ((py_v D k m <<< (Int32.ofInt (8 : Int) &&& 31)) ||| Int32.ofInt (D (k + m))).toBitVec.getLsbD j = _
  rw [Int32.toBitVec_or, py_shl, py_bit _ _ (by rw [py_n hD.1 hD.2]; omega) j hj]
theorem py_back {D : Nat → Int} {k s : Nat} (hD : ∀ m, m < 4 → 0 ≤ D (k + m) ∧ D (k + m) ≤ 255) (hs : s < 4) : fd_b (py_v D k 4).toInt s = D (k + (3 - s)) := by
  have h3 := hD (3 - s) (by omega)
  have e : ((py_v D k 4) >>> (Int32.ofInt (8 * (s : Int)) &&& 31)) &&& 255 = Int32.ofInt (D (k + (3 - s))) := by
    rw [← Int32.toBitVec_inj, Int32.toBitVec_and, py_shr _ s hs]
    refine BitVec.eq_of_getLsbD_eq (fun i hi => ?_)
    rw [BitVec.getLsbD_and, show (255 : Int32).toBitVec.getLsbD i = decide (i < 8) from b8_lo i hi, BitVec.getLsbD_sshiftRight]
    by_cases c : i < 8
    · rw [if_pos (by omega), decide_eq_true c, decide_eq_false (show ¬ 32 ≤ i by omega)]
      simp only [Bool.not_false, Bool.true_and, Bool.and_true]
      rcases (show s = 0 ∨ s = 1 ∨ s = 2 ∨ s = 3 by omega) with rfl | rfl | rfl | rfl
      · rw [py_at (hD 3 (by omega)) (by omega), if_pos (by omega)]
        congr 1
        omega
      · rw [py_at (hD 3 (by omega)) (by omega), if_neg (by omega), py_at (hD 2 (by omega)) (by omega), if_pos (by omega)]
        congr 1
        omega
      · rw [py_at (hD 3 (by omega)) (by omega), if_neg (by omega), py_at (hD 2 (by omega)) (by omega), if_neg (by omega), py_at (hD 1 (by omega)) (by omega), if_pos (by omega)]
        congr 1
        omega
      · rw [py_at (hD 3 (by omega)) (by omega), if_neg (by omega), py_at (hD 2 (by omega)) (by omega), if_neg (by omega), py_at (hD 1 (by omega)) (by omega), if_neg (by omega), py_at (hD 0 (by omega)) (by omega), if_pos (by omega)]
        congr 1
        omega
    · have e2 : (Int32.ofInt (D (k + (3 - s)))).toBitVec.getLsbD i = false := by
        show (Int32.ofInt (D (k + (3 - s)))).toBitVec.toNat.testBit i = false
        refine Nat.testBit_lt_two_pow (Nat.lt_of_lt_of_le (m := 2 ^ 8) ?_ (Nat.pow_le_pow_right (by decide) (by omega)))
        rw [py_n h3.1 h3.2]
        omega
      rw [e2, decide_eq_false c, Bool.and_false]
  unfold fd_b
  rw [Int32.ofInt_toInt, e, bm_toI ⟨by omega, by omega⟩]
theorem fd_w_at (v : Int) : ∀ (s : Nat) (B : Nat → Int) (L k : Nat), fd_w v s B L k = if L ≤ k ∧ k < L + s then fd_b v (L + s - 1 - k) else B k
  | 0, B, L, k => by
    rw [if_neg (by omega)]
    rfl
  | s + 1, B, L, k => by
    show fd_w v s (fd_put B L (fd_b v s)) (L + 1) k = _
    rw [fd_w_at v s _ (L + 1) k]
    unfold fd_put
    by_cases e : k = L
    · subst e
      rw [if_neg (by omega), if_pos rfl, if_pos (by omega), show k + (s + 1) - 1 - k = s by omega]
    · rw [if_neg e]
      by_cases c : L + 1 ≤ k ∧ k < L + 1 + s
      · rw [if_pos c, if_pos (by omega), show L + 1 + s - 1 - k = L + (s + 1) - 1 - k by omega]
      · rw [if_neg c, if_neg (by omega)]
theorem fd_5_at {D B : Nat → Int} {L k : Nat} (hD : ∀ j, 0 ≤ D j ∧ D j ≤ 255) (hB : ∀ j, j < L → B j = D j) (hk : k < L + 20) : fd_5 (py_v D (L + 4 * 0) 4).toInt (py_v D (L + 4 * 1) 4).toInt (py_v D (L + 4 * 2) 4).toInt (py_v D (L + 4 * 3) 4).toInt (py_v D (L + 4 * 4) 4).toInt B L k = D k := by
  have st : ∀ q : Nat, ∀ x : Nat, L + 4 * q ≤ k → k < L + 4 * q + 4 → x = L + 4 * q + 4 - 1 - k → fd_b (py_v D (L + 4 * q) 4).toInt x = D k := by
    intro q x h1 h2 hx
    rw [py_back (fun m _ => hD _) (by omega)]
    congr 1
    omega
  unfold fd_5
  rw [fd_w_at]
  by_cases c4 : L + 16 ≤ k ∧ k < L + 16 + 4
  · rw [if_pos c4]; exact st 4 _ (by omega) (by omega) (by omega)
  rw [if_neg c4, fd_w_at]
  by_cases c3 : L + 12 ≤ k ∧ k < L + 12 + 4
  · rw [if_pos c3]; exact st 3 _ (by omega) (by omega) (by omega)
  rw [if_neg c3, fd_w_at]
  by_cases c2 : L + 8 ≤ k ∧ k < L + 8 + 4
  · rw [if_pos c2]; exact st 2 _ (by omega) (by omega) (by omega)
  rw [if_neg c2, fd_w_at]
  by_cases c1 : L + 4 ≤ k ∧ k < L + 4 + 4
  · rw [if_pos c1]; exact st 1 _ (by omega) (by omega) (by omega)
  rw [if_neg c1, fd_w_at]
  by_cases c0 : L ≤ k ∧ k < L + 4
  · rw [if_pos c0]; exact st 0 _ (by omega) (by omega) (by omega)
  rw [if_neg c0]
  exact hB k (by omega)
/-! the loops -/
section LY
variable {d b g : Nat} {Φ : bm_Rt → bm_W → Prop} {l : List Int}
/-- the bytes of a text, blanks behind it -/
def ly_D (l : List Int) (j : Nat) : Int := if j < l.length then l.getD j 0 else 32
theorem ly_rng (h : ∀ j, j < l.length → 0 ≤ l.getD j 0 ∧ l.getD j 0 ≤ 255) (j : Nat) : 0 ≤ ly_D l j ∧ ly_D l j ≤ 255 := by
  unfold ly_D
  split
  · rename_i c; exact h j c
  · omega
theorem ly_w1 {i : Nat} (hi : i < 20) : bm_w ((i : Int).tdiv (4 : Int)) = ((i / 4 : Nat) : Int) := by
  rw [Int.tdiv_eq_ediv_of_nonneg (by omega), q_wI ⟨by omega, by omega⟩]
  omega
theorem ly_w2 {k i : Nat} (hk : k ≤ 1000) (hi : i < 20) : bm_w ((k : Int) + (i : Int)) = ((k + i : Nat) : Int) := by
  rw [q_wI ⟨by omega, by omega⟩]
  omega
theorem ly_w3 {k i : Nat} (hk : k ≤ 1000) (hi : i < 20) : bm_w (bm_w ((1 : Int) + (k : Int)) + (i : Int)) = ((k + i + 1 : Nat) : Int) := by
  rw [q_wI (x := (1 : Int) + (k : Int)) ⟨by omega, by omega⟩, q_wI ⟨by omega, by omega⟩]
  omega
theorem ly_w4 {i : Nat} (hi : i < 20) : bm_w ((i : Int) + 1) = ((i + 1 : Nat) : Int) := by
  rw [q_wI ⟨by omega, by omega⟩]
  omega
theorem ly_w5 {n : Nat} (hn : n ≤ 500) : bm_w ((0 : Int) + (n : Int)) = (n : Int) := by
  rw [q_wI ⟨by omega, by omega⟩]
  omega
theorem ly_w6 {k : Nat} (hk : k ≤ 1000) : bm_w ((k : Int) + 20) = ((k + 20 : Nat) : Int) := by
  rw [q_wI ⟨by omega, by omega⟩]
  omega
/-- four by four -/
def ly_G (g k i : Nat) (l : List Int) (w : bm_W) : Prop := bm_kt w g = 21 ∧ bm_kn w g = 5 ∧ ∀ q, q < 5 → bm_gi w g q = (py_v (ly_D l) (k + 4 * q) (min 4 (i - 4 * q))).toInt
theorem ly_in {k : Nat} (hk : k ≤ 1000) (hl : l.length ≤ 500) (hg : g ≠ b + 125) {w0 : bm_W} (q : ∀ w', ly_G g k 20 l w' → tx_R (b + 125) l w' → q_fr (fun a => a = g) w0 w' → bk_L_lay_27 d Φ b (b + 125) 0 (l.length : Int) (k : Int) g 20 w') : ∀ (n i : Nat) (w : bm_W), i + n = 20 → ly_G g k i l w → tx_R (b + 125) l w → q_fr (fun a => a = g) w0 w → bk_L_lay_27 d Φ b (b + 125) 0 (l.length : Int) (k : Int) g (i : Int) w
  | 0, i, w, hi, G, T, F => by
    obtain rfl : i = 20 := by omega
    exact q w G T F
  | n + 1, i, w, hi, G, T, F => by
    refine vb_L_lay_27 ?_
    have g1 := G.1
    have g2 := G.2.1
    have hin : bm_in ((i / 4 : Nat) : Int) (bm_kn w g) := ⟨by omega, by rw [g2]; omega⟩
    have hq := G.2.2 (i / 4) (by omega)
    have hm : min 4 (i - 4 * (i / 4)) = i % 4 := by omega
    rw [hm] at hq
    have i20 : i < 20 := by omega
    rw [if_neg (by simp only [decide_eq_true_eq]; omega), ly_w1 i20, ly_w2 hk i20, ly_w3 hk i20, ly_w4 i20, Int.toNat_natCast, Int.toNat_natCast, hq, Int32.ofInt_toInt, Int32.ofInt_toInt]
    have nx : ∀ x : Int, x = ly_D l (k + i) → bk_L_lay_27 d Φ b (b + 125) 0 (l.length : Int) (k : Int) g ((i + 1 : Nat) : Int) (bm_si w g (i / 4) (py_v (ly_D l) (k + 4 * (i / 4)) (i % 4) <<< (Int32.ofInt (8 : Int) &&& 31) ||| Int32.ofInt x).toInt) := by
      rintro x rfl
      have e5 : py_v (ly_D l) (k + 4 * (i / 4)) (i % 4) <<< (Int32.ofInt (8 : Int) &&& 31) ||| Int32.ofInt (ly_D l (k + i)) = py_v (ly_D l) (k + 4 * (i / 4)) (i % 4 + 1) := by
        rw [show k + i = k + 4 * (i / 4) + i % 4 by omega]
        rfl
      rw [e5]
      refine ly_in hk hl hg q n (i + 1) _ (by omega) ⟨g1, g2, fun p hp => ?_⟩ (T.gw (q_fr.si (A := fun a => a = g) q_fr.rf rfl) (fun z => hg z.symm)) (F.si rfl)
      by_cases c : p = i / 4
      · subst c
        rw [q_gi_eq, show min 4 (i + 1 - 4 * (i / 4)) = i % 4 + 1 by omega]
      · rw [q_gi_nk c, G.2.2 p hp, show min 4 (i + 1 - 4 * p) = min 4 (i - 4 * p) by omega]
    refine ⟨by decide, by decide, ⟨g1, hin⟩, ?_⟩
    by_cases c : l.length ≤ k + i
    · rw [if_pos (by simp only [decide_eq_true_eq]; omega)]
      refine ⟨⟨g1, hin⟩, nx 32 ?_⟩
      unfold ly_D
      rw [if_neg (by omega)]
    · rw [if_neg (by simp only [decide_eq_true_eq]; omega)]
      refine ⟨⟨T.1, by omega, by rw [T.2.1]; omega⟩, ⟨g1, hin⟩, nx _ ?_⟩
      rw [T.2.2.2 (k + i) (by omega)]
      unfold ly_D
      rw [if_pos (by omega)]
theorem ly_loop {w0 : bm_W} (hl : l.length ≤ 500) (hb : ∀ j, j < l.length → 0 ≤ l.getD j 0 ∧ l.getD j 0 ≤ 255) (hq : ∀ (w' : bm_W) (c s : Nat), c ≤ 26 → s ≤ 130 → q_gw (fun a => a = b + 1 ∨ a = b + 2) (fun _ => False) c s w0 w' → cl_E b w' → cTx (b + 1) (ly_D l) l.length w' → tx_R (b + 125) l w' → Φ (.inl (some (bm_i 1))) w') : ∀ (n k : Nat) (w : bm_W) (c s : Nat), l.length ≤ k + 20 * n → k ≤ l.length + 19 → c + n ≤ 26 → s + 5 * n ≤ 130 → q_gw (fun a => a = b + 1 ∨ a = b + 2) (fun _ => False) c s w0 w → b + 128 ≤ bm_sz w0 → cl_E b w → cTx (b + 1) (ly_D l) k w → tx_R (b + 125) l w → bk_L_lay_13 (d + 2) Φ b (b + 125) 0 (l.length : Int) (k : Int) w := by
  have fin : ∀ (k : Nat) (w : bm_W) (c s : Nat), l.length ≤ k → k ≤ l.length + 19 → c ≤ 26 → s ≤ 130 → q_gw (fun a => a = b + 1 ∨ a = b + 2) (fun _ => False) c s w0 w → b + 128 ≤ bm_sz w0 → cl_E b w → cTx (b + 1) (ly_D l) k w → tx_R (b + 125) l w → bk_L_lay_13 (d + 2) Φ b (b + 125) 0 (l.length : Int) (k : Int) w := by
    intro k w c s h1 h2 h3 h4 G hz E T R
    have hz2 := G.1.1
    have C := E.lC (B := fun _ => 0) (by omega) T (by omega)
    refine vb_L_lay_13 ?_
    rw [if_pos (by simp only [decide_eq_true_eq]; omega)]
    refine ⟨E.1.1, ?_⟩
    rw [ly_w5 hl]
    refine co_trim C.1 T (by omega) (fun _ w' Z T' F => ?_) (fun q => absurd (by omega) q)
    rw [bm_c1_v, if_neg (by simp)]
    refine ⟨Or.inr rfl, hq w' c s h3 h4 (G.fr F) ?_ T' (R.gw F (by omega))⟩
    exact E.gw (q_gw.of (R := fun a => b + 125 ≤ a) (F.mo (A' := fun a => a = b + 1 ∨ a = b + 2 ∨ b + 125 ≤ a) (fun a z => by omega))) (by omega)
  intro n
  induction n with
  | zero => intro k w c s h1 h2 h3 h4 G hz E T R; exact fin k w c s (by omega) h2 h3 h4 G hz E T R
  | succ n ih =>
    intro k w c s h1 h2 h3 h4 G hz E T R
    by_cases c0 : l.length ≤ k
    · exact fin k w c s c0 h2 (by omega) (by omega) G hz E T R
    have hz2 := G.1.1
    refine vb_L_lay_13 ?_
    rw [if_neg (by simp only [decide_eq_true_eq]; omega)]
    refine ⟨by omega, ?_⟩
    have e5 : ((5 : Int)).toNat = 5 := rfl
    rw [e5]
    have G1 : q_gw (fun a => a = b + 1 ∨ a = b + 2) (fun _ => False) (c + 1) (s + 5) w0 (bm_nw w 21 5 5) := G.nw
    have Gn : q_gw (fun a => a = b + 1 ∨ a = b + 2 ∨ b + 125 ≤ a) (fun a => b + 125 ≤ a) (0 + 1) (0 + 5) w (bm_nw w 21 5 5) := q_gw.rf.nw
    have E1 : cl_E b (bm_nw w 21 5 5) := E.gw Gn (by omega)
    have T1 : cTx (b + 1) (ly_D l) k (bm_nw w 21 5 5) := by
      obtain ⟨t1, t2, t3⟩ := T
      refine ⟨t1.gw Gn (by omega) (by omega), ?_, fun j hj => ?_⟩
      · rw [bm_nw_gi, if_neg (by omega)]; exact t2
      · unfold tp_b; rw [bm_nw_gi, if_neg (by omega)]; exact t3 j hj
    have R1 : tx_R (b + 125) l (bm_nw w 21 5 5) := by
      obtain ⟨t1, t2, t3, t4⟩ := R
      refine ⟨?_, ?_, ?_, fun j hj => ?_⟩
      · rw [bm_nw_kt, if_neg (by omega)]; exact t1
      · rw [bm_nw_kn, if_neg (by omega)]; exact t2
      · rw [bm_nw_gi, if_neg (by omega)]; exact t3
      · rw [bm_nw_gi, if_neg (by omega)]; exact t4 j hj
    have z1 : bm_sz (bm_nw w 21 5 5) = bm_sz w + 1 := rfl
    have L1 : ly_G (bm_sz w) k 0 l (bm_nw w 21 5 5) := by
      refine ⟨by rw [bm_nw_kt, if_pos rfl], by rw [bm_nw_kn, if_pos rfl], fun q _ => ?_⟩
      rw [bm_nw_gi, if_pos rfl, show min 4 (0 - 4 * q) = 0 by omega]
      rfl
    refine ly_in (g := bm_sz w) (by omega) hl (by omega) (fun w2 L2 R2 F2 => ?_) 20 0 _ rfl L1 R1 q_fr.rf
    have E2 : cl_E b w2 := E1.gw (q_gw.of (R := fun a => b + 125 ≤ a) (F2.mo (A' := fun a => a = b + 1 ∨ a = b + 2 ∨ b + 125 ≤ a) (fun a z => by omega))) (by omega)
    have z2 : bm_sz w2 = bm_sz w + 1 := F2.sz
    have T2 : cTx (b + 1) (ly_D l) k w2 := by
      obtain ⟨t1, t2, t3⟩ := T1
      refine ⟨t1.gw (q_gw.of (R := fun a => b + 125 ≤ a) F2) (by omega) (by omega), (F2.gi (by omega)).trans t2, fun j hj => ?_⟩
      have := t3 j hj
      unfold tp_b at this ⊢
      rw [F2.gi (by omega)]; exact this
    have G2 : q_gw (fun a => a = b + 1 ∨ a = b + 2) (fun _ => False) (c + 1) (s + 5) w0 w2 := by
      refine ⟨⟨by have := G1.1.1; omega, by have := G1.1.2.1; omega, by rw [F2.sl]; exact G1.1.2.2.1, by rw [F2.sl]; exact G1.1.2.2.2⟩, fun a ha => ?_⟩
      have ne : ¬ a = bm_sz w := by omega
      obtain ⟨x1, x2, x3⟩ := G1.2 a ha
      exact ⟨⟨by rw [F2.kt]; exact x1.1, by rw [F2.kn]; exact x1.2⟩, fun z j => by rw [F2.gr]; exact x2 z j, fun z j => ⟨(F2.gi ne).trans (x3 z j).1, (F2.gl ne).trans (x3 z j).2⟩⟩
    have C := E2.lC (B := fun _ => 0) (by omega) T2 (by omega)
    refine vb_L_lay_27 ?_
    obtain ⟨l1, l2, l3⟩ := L2
    rw [if_pos (by decide)]
    refine ⟨⟨l1, by omega, by rw [l2]; omega⟩, ⟨l1, by omega, by rw [l2]; omega⟩, ⟨l1, by omega, by rw [l2]; omega⟩, ⟨l1, by omega, by rw [l2]; omega⟩, ⟨l1, by omega, by rw [l2]; omega⟩, E2.1.1, ?_⟩
    have v0 : bm_gi w2 (bm_sz w) ((0 : Int)).toNat = (py_v (ly_D l) (k + 4 * 0) 4).toInt := l3 0 (by omega)
    have v1 : bm_gi w2 (bm_sz w) ((1 : Int)).toNat = (py_v (ly_D l) (k + 4 * 1) 4).toInt := l3 1 (by omega)
    have v2 : bm_gi w2 (bm_sz w) ((2 : Int)).toNat = (py_v (ly_D l) (k + 4 * 2) 4).toInt := l3 2 (by omega)
    have v3 : bm_gi w2 (bm_sz w) ((3 : Int)).toNat = (py_v (ly_D l) (k + 4 * 3) 4).toInt := l3 3 (by omega)
    have v4 : bm_gi w2 (bm_sz w) ((4 : Int)).toNat = (py_v (ly_D l) (k + 4 * 4) 4).toInt := l3 4 (by omega)
    rw [v0, v1, v2, v3, v4]
    have k1000 : k ≤ 1000 := by omega
    refine co_feed C.1 T2 (by omega) (fun _ w3 Z3 T3 F3 => ?_) (fun q => absurd (by omega) q)
    rw [bm_c1_v]
    rw [ly_w6 k1000]
    have T4 : cTx (b + 1) (ly_D l) (k + 20) w3 := by
      obtain ⟨t1, t2, t3⟩ := T3
      exact ⟨t1, t2, fun j hj => (t3 j hj).trans (fd_5_at (ly_rng hb) (fun _ _ => rfl) hj)⟩
    exact ih (k + 20) w3 (c + 1) (s + 5) (by omega) (by omega) (by omega) (by omega) (G2.fr F3) hz (E2.gw (q_gw.of (R := fun a => b + 125 ≤ a) (F3.mo (A' := fun a => a = b + 1 ∨ a = b + 2 ∨ b + 125 ≤ a) (fun a z => by omega))) (by omega)) T4 (R2.gw F3 (by omega))
theorem tp_lay {w : bm_W} (hl : l.length ≤ 500) (hb : ∀ j, j < l.length → 0 ≤ l.getD j 0 ∧ l.getD j 0 ≤ 255) (E : cl_E b w) (T : cTx (b + 1) (ly_D l) 0 w) (R : tx_R (b + 125) l w) (hz : b + 128 ≤ bm_sz w) (hq : ∀ (w' : bm_W) (c s : Nat), c ≤ 26 → s ≤ 130 → q_gw (fun a => a = b + 1 ∨ a = b + 2) (fun _ => False) c s w w' → cl_E b w' → cTx (b + 1) (ly_D l) l.length w' → tx_R (b + 125) l w' → Φ (.inl (some (bm_i 1))) w') : bm_Call bm_pg (d + 4) y_L_lay [bm_r (some b), bm_r (some (b + 125))] w Φ := by
  have C := E.lC (B := fun _ => 0) hz T (by omega)
  refine vc_L_lay ⟨E.1.1, ?_⟩
  refine co_count C.1 C.2.2.2.1 (fun _ => ?_) (fun q => absurd (by omega) q)
  have e : y_cnt ([], []) 0 (bm_gi w (b + 1) 1) 4 = 0 := by
    rw [T.2.1]
    rfl
  rw [bm_c1_v, e]
  refine ⟨⟨R.1, by omega, by rw [R.2.1]; omega⟩, ?_⟩
  have e2 : bm_gi w (b + 125) ((0 : Int)).toNat = (l.length : Int) := R.2.2.1
  rw [e2]
  exact ly_loop (d := d + 1) hl hb hq 25 0 w 0 0 (by omega) (by omega) (by omega) (by omega) q_gw.rf hz E T R
end LY

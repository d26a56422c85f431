/-! ===== scanning, in the model ===== -/
/-- the tape of the model is B -/
def md_B (m : Nat) (B : Int → Int) (w : bm_W) : Prop := sh_Md m w ∧ 0 ≤ bm_gi w m 2 ∧ bm_gi w m 2 ≤ 1500 ∧ (∀ k, 0 ≤ k → md_at w m k = B k) ∧ (∀ k, bm_gi w m 2 ≤ k → B k = -1) ∧ (∀ k, 0 ≤ k → k < bm_gi w m 2 → 0 ≤ B k ∧ B k ≤ 255)
theorem md_B.fr {A : Nat → Prop} {m : Nat} {B : Int → Int} {w w' : bm_W} (h : q_fr A w w') (h1 : ¬ A m) (h2 : ¬ A (m + 1)) (hT : md_B m B w) : md_B m B w' := by
  have g2 : bm_gi w' m 2 = bm_gi w m 2 := h.gi h1
  refine ⟨hT.1.fr h, by rw [g2]; exact hT.2.1, by rw [g2]; exact hT.2.2.1, fun k hk => ?_, by rw [g2]; exact hT.2.2.2.2.1, by rw [g2]; exact hT.2.2.2.2.2⟩
  have := hT.2.2.2.1 k hk
  unfold md_at at this ⊢
  rw [g2, h.gi h2]
  exact this
section MS
variable {d m : Nat} {B : Int → Int} {w : bm_W} {Φ : bm_Rt → bm_W → Prop}
theorem mp_byte {k : Int} (h : md_B m B w) (h0 : 0 ≤ k) : bm_Call bm_pg (d + 1) y_X12_byteAt [bm_r (some m), bm_i k] w Φ ↔ Φ (.inl (some (bm_i (B k)))) w := by
  rw [mp_byteAt h.1 h0 h.2.2.1, h.2.2.2.1 k h0]
theorem mp_isIn {a b c : Int} : bm_Call bm_pg (d + 1) y_X12_isIn [bm_i a, bm_i b, bm_i c] w Φ ↔ Φ (.inl (some (bm_i (if b ≤ a ∧ a ≤ c then 1 else 0)))) w := by
  refine bm_ans (fun Ψ q => vc_X12_isIn ?_)
  grind
theorem mp_isLetter {b : Int} : bm_Call bm_pg (d + 2) y_X12_isLetter [bm_i b] w Φ ↔ Φ (.inl (some (bm_i (if t_let b then 1 else 0)))) w := by
  refine bm_ans (fun Ψ q => vc_X12_isLetter ?_)
  simp only [bm_c0_v, bm_c1_v, bm_c2_v, bm_c3_v, bm_c4_v, bm_c5_v, bm_u_some, decide_eq_true_eq, true_and, and_true, and_self, Bool.not_eq_true, Bool.not_eq_true', decide_eq_false_iff_not, if_true, if_false, ite_true, ite_false, eq_self, mp_isIn]
  grind
theorem mp_isDigit {b : Int} : bm_Call bm_pg (d + 2) y_X12_isDigit [bm_i b] w Φ ↔ Φ (.inl (some (bm_i (if t_dig b then 1 else 0)))) w := by
  refine bm_ans (fun Ψ q => vc_X12_isDigit ?_)
  simp only [bm_c0_v, bm_c1_v, bm_c2_v, bm_c3_v, bm_c4_v, bm_c5_v, bm_u_some, decide_eq_true_eq, true_and, and_true, and_self, Bool.not_eq_true, Bool.not_eq_true', decide_eq_false_iff_not, if_true, if_false, ite_true, ite_false, eq_self, mp_isIn]
  grind
def t_sy (b c : Int) : Int := if b = 46 then (if c = 46 then 2 else 0) else if b = 60 ∧ (c = 61 ∨ c = 62) ∨ b = 62 ∧ c = 61 then 2 else if 0 < b ∧ 0 ≤ t_ix b then 1 else 0
theorem mp_symbolAt {p : Int} (h : md_B m B w) (h0 : 0 ≤ p) (h1 : p ≤ 1501) : bm_Call bm_pg (d + 7) y_X12_symbolAt [bm_r (some m), bm_i p] w Φ ↔ Φ (.inl (some (bm_i (t_sy (B p) (B (p + 1)))))) w := by
  have hr : -1 ≤ B p ∧ B p ≤ 255 := by
    by_cases c : bm_gi w m 2 ≤ p
    · rw [h.2.2.2.2.1 p c]; omega
    · have := h.2.2.2.2.2 p h0 (by omega); omega
  refine bm_ans (fun Ψ q => vc_X12_symbolAt ?_)
  simp only [bm_c0_v, bm_c1_v, bm_c2_v, bm_c3_v, bm_c4_v, bm_c5_v, bm_u_some, decide_eq_true_eq, true_and, and_true, and_self, Bool.not_eq_true, Bool.not_eq_true', decide_eq_false_iff_not, if_true, if_false, ite_true, ite_false, eq_self, h.1.1, mp_byte h h0, q_wI (x := p + 1) ⟨by omega, by omega⟩, mp_byte h (k := p + 1) (by omega)]
  have K : ¬ B p = 46 → ¬ (B p = 60 ∧ (B (p + 1) = 61 ∨ B (p + 1) = 62)) → bk_X12_symbolAt_50 (d + 6) Ψ (B p) (B (p + 1)) w := by
    intro n1 n2
    unfold t_sy at q
    rw [if_neg n1] at q
    refine vb_X12_symbolAt_50 ?_
    by_cases c0 : 0 < B p
    · simp only [bm_c0_v, bm_c1_v, bm_c2_v, bm_c3_v, bm_c4_v, bm_c5_v, bm_u_some, decide_eq_true_eq, true_and, and_true, and_self, Bool.not_eq_true, Bool.not_eq_true', decide_eq_false_iff_not, if_true, if_false, ite_true, ite_false, eq_self, mp_indexOf (d := d + 1) c0 hr.2, Nat.zero_lt_succ, show (0 : Nat) < 31 by decide]
      grind
    · simp only [bm_c0_v, bm_c1_v, bm_c2_v, bm_c3_v, bm_c4_v, bm_c5_v, bm_u_some, decide_eq_true_eq, true_and, and_true, and_self, Bool.not_eq_true, Bool.not_eq_true', decide_eq_false_iff_not, if_true, if_false, ite_true, ite_false, eq_self]
      grind
  unfold t_sy at q
  grind
theorem t_sy_sl (b c : Int) (h : 0 ≤ b) (h1 : ¬ t_let b) (h2 : ¬ t_dig b) : (if (1 : Int) < t_sy b c then t_sy b c else 1) = 1 + t_sl b c ∧ (t_sy b c ≤ 0 ↔ t_sk b c = 1) := by
  unfold t_sy t_sl t_sk t_ix
  grind (splits := 60)
/-- the model's kind of a token of a kind -/
def t_mk (k : Int) : Int := if k = 0 then 0 else if k = 1 then 4 else if k = 2 then 2 else if k ≤ 15 then 1 else 3
theorem t_wk_rng (v : Int) : 3 ≤ t_wk v ∧ t_wk v ≤ 15 := by unfold t_wk; grind (splits := 40)
theorem t_sk_rng (b c : Int) : t_sk b c = 1 ∨ 16 ≤ t_sk b c ∧ t_sk b c ≤ 33 := by unfold t_sk; grind (splits := 60)
theorem ms_skip {i : Int} (h : md_B m B w) : ∀ (n : Nat) (p : Int), 0 ≤ p → p ≤ bm_gi w m 2 → bm_gi w m 2 ≤ p + n → bk_X12_scan_10 (d + 7) Φ m i (t_skip B n p) w → bk_X12_scan_10 (d + 7) Φ m i p w
  | 0, p, h0, h1, hn, q => q
  | n + 1, p, h0, h1, hn, q => by
    unfold t_skip at q
    by_cases c : t_bl (B p)
    · rw [if_pos c] at q
      have hp : p < bm_gi w m 2 := by
        rcases Int.lt_or_le p (bm_gi w m 2) with z | z
        · exact z
        · have := h.2.2.2.2.1 p z; omega
      have ih := ms_skip h n (p + 1) (by omega) (by omega) (by omega) q
      refine vb_X12_scan_10 ?_
      simp only [bm_c0_v, bm_c1_v, bm_c2_v, bm_c3_v, bm_c4_v, bm_c5_v, bm_u_some, decide_eq_true_eq, true_and, and_true, and_self, Bool.not_eq_true, Bool.not_eq_true', decide_eq_false_iff_not, if_true, if_false, ite_true, ite_false, eq_self, h.1.1, mp_byte h h0]
      rw [q_wI (x := p + 1) ⟨by omega, by have := h.2.2.1; omega⟩]
      rcases c with c | c
      · rw [if_pos c]; exact ih
      · rw [if_neg (by omega), if_neg (by omega)]; exact ih
    · rw [if_neg c] at q
      exact q
theorem ms_word {i p : Int} (h : md_B m B w) : ∀ (n : Nat) (x : Int), 0 ≤ p → p ≤ x → x ≤ bm_gi w m 2 → bm_gi w m 2 ≤ x + n → bk_X12_scan_186 (d + 7) Φ m i p (t_wend B n x) (if t_wend B n x - p ≤ 8 then 1 else 4) w → bk_X12_scan_53 (d + 7) Φ m i p x w
  | 0, x, h0, h1, h2, hn, q => by
    have e := h.2.2.2.2.1 x (by omega)
    refine vb_X12_scan_53 ?_
    simp only [bm_c0_v, bm_c1_v, bm_c2_v, bm_c3_v, bm_c4_v, bm_c5_v, bm_u_some, decide_eq_true_eq, true_and, and_true, and_self, Bool.not_eq_true, Bool.not_eq_true', decide_eq_false_iff_not, if_true, if_false, ite_true, ite_false, eq_self, h.1.1, mp_byte h (k := x) (by omega), mp_isLetter, mp_isDigit, e]
    unfold t_wend at q
    rw [q_wI (x := x - p) ⟨by have := h.2.2.1; omega, by have := h.2.2.1; omega⟩]
    grind
  | n + 1, x, h0, h1, h2, hn, q => by
    have hL := h.2.2.1
    unfold t_wend at q
    refine vb_X12_scan_53 ?_
    simp only [bm_c0_v, bm_c1_v, bm_c2_v, bm_c3_v, bm_c4_v, bm_c5_v, bm_u_some, decide_eq_true_eq, true_and, and_true, and_self, Bool.not_eq_true, Bool.not_eq_true', decide_eq_false_iff_not, if_true, if_false, ite_true, ite_false, eq_self, h.1.1, mp_byte h (k := x) (by omega), mp_isLetter, mp_isDigit]
    rw [q_wI (x := x - p) ⟨by omega, by omega⟩, q_wI (x := x + 1) ⟨by omega, by omega⟩]
    by_cases c : t_let (B x) ∨ t_dig (B x)
    · rw [if_pos c] at q
      have hp : x < bm_gi w m 2 := by
        rcases Int.lt_or_le x (bm_gi w m 2) with z | z
        · exact z
        · have := h.2.2.2.2.1 x z; omega
      have ih := ms_word h n (x + 1) h0 (by omega) (by omega) (by omega) q
      grind
    · rw [if_neg c] at q
      grind
theorem ms_numb {i p : Int} (h : md_B m B w) : ∀ (n : Nat) (x : Int), 0 ≤ p → p ≤ x → x ≤ bm_gi w m 2 → bm_gi w m 2 ≤ x + n → bk_X12_scan_186 (d + 7) Φ m i p (t_nend B n x) (if t_nend B n x - p ≤ 4 then 2 else 4) w → bk_X12_scan_113 (d + 7) Φ m i p x w
  | 0, x, h0, h1, h2, hn, q => by
    have e := h.2.2.2.2.1 x (by omega)
    refine vb_X12_scan_113 ?_
    simp only [bm_c0_v, bm_c1_v, bm_c2_v, bm_c3_v, bm_c4_v, bm_c5_v, bm_u_some, decide_eq_true_eq, true_and, and_true, and_self, Bool.not_eq_true, Bool.not_eq_true', decide_eq_false_iff_not, if_true, if_false, ite_true, ite_false, eq_self, h.1.1, mp_byte h (k := x) (by omega), mp_isLetter, mp_isDigit, e]
    unfold t_nend at q
    rw [q_wI (x := x - p) ⟨by have := h.2.2.1; omega, by have := h.2.2.1; omega⟩]
    grind
  | n + 1, x, h0, h1, h2, hn, q => by
    have hL := h.2.2.1
    unfold t_nend at q
    refine vb_X12_scan_113 ?_
    simp only [bm_c0_v, bm_c1_v, bm_c2_v, bm_c3_v, bm_c4_v, bm_c5_v, bm_u_some, decide_eq_true_eq, true_and, and_true, and_self, Bool.not_eq_true, Bool.not_eq_true', decide_eq_false_iff_not, if_true, if_false, ite_true, ite_false, eq_self, h.1.1, mp_byte h (k := x) (by omega), mp_isLetter, mp_isDigit]
    rw [q_wI (x := x - p) ⟨by omega, by omega⟩, q_wI (x := x + 1) ⟨by omega, by omega⟩]
    by_cases c : t_dig (B x)
    · rw [if_pos c] at q
      have hp : x < bm_gi w m 2 := by
        rcases Int.lt_or_le x (bm_gi w m 2) with z | z
        · exact z
        · have := h.2.2.2.2.1 x z; omega
      have ih := ms_numb h n (x + 1) h0 (by omega) (by omega) (by omega) q
      grind
    · rw [if_neg c] at q
      grind
theorem t_skip_nb {L : Int} (hB : ∀ x, L ≤ x → B x = -1) : ∀ (n : Nat) (p : Int), p ≤ L → L ≤ p + n → ¬ t_bl (B (t_skip B n p))
  | 0, p, h1, h2, z => by
    have := hB p (by omega)
    unfold t_skip at z
    omega
  | n + 1, p, h1, h2, z => by
    unfold t_skip at z
    by_cases c : t_bl (B p)
    · rw [if_pos c] at z
      have hp : p < L := by
        rcases Int.lt_or_le p L with y | y
        · exact y
        · have := hB p y; omega
      exact t_skip_nb hB n (p + 1) (by omega) (by omega) z
    · rw [if_neg c] at z
      exact c z
/-- one token -/
theorem ms_one {i p : Int} (h : md_B m B w) (h0 : 0 ≤ p) (h1 : p ≤ bm_gi w m 2) (q : bk_X12_scan_186 (d + 7) Φ m i (t_skip B 1501 p) (t_e B (t_skip B 1501 p)) (t_mk (t_k B (t_skip B 1501 p))) w) : bk_X12_scan_10 (d + 7) Φ m i p w := by
  have hL := h.2.2.1
  refine ms_skip h 1501 p h0 h1 (by omega) ?_
  have hr := t_skip_rng h.2.2.2.2.1 1501 p h1
  have nb := t_skip_nb h.2.2.2.2.1 1501 p h1 (by omega)
  generalize t_skip B 1501 p = x at hr nb q ⊢
  refine vb_X12_scan_10 ?_
  have hx : B x < 0 ↔ bm_gi w m 2 ≤ x := by
    constructor
    · intro z
      rcases Int.lt_or_le x (bm_gi w m 2) with y | y
      · have := h.2.2.2.2.2 x (by omega) y; omega
      · exact y
    · intro z; rw [h.2.2.2.2.1 x z]; decide
  simp only [bm_c0_v, bm_c1_v, bm_c2_v, bm_c3_v, bm_c4_v, bm_c5_v, bm_u_some, decide_eq_true_eq, true_and, and_true, and_self, Bool.not_eq_true, Bool.not_eq_true', decide_eq_false_iff_not, if_true, if_false, ite_true, ite_false, eq_self, h.1.1, mp_byte h (k := x) (by omega), mp_isLetter, mp_isDigit, mp_symbolAt h (p := x) (by omega) (by omega)]
  rw [if_neg (fun z => nb (Or.inl z)), if_pos (fun z => nb (Or.inr z))]
  by_cases c1 : t_let (B x)
  · rw [if_pos c1, if_neg (by decide)]
    refine ms_word h 1501 x (by omega) (Int.le_refl _) hr.2 (by omega) ?_
    unfold t_e t_k at q
    rw [if_neg (by omega), if_pos c1, if_neg (by omega), if_pos c1] at q
    have e : t_mk (if t_wend B 1501 x - x ≤ 8 then t_wk (t_wval B 1501 x 0) else 1) = (if t_wend B 1501 x - x ≤ 8 then 1 else 4) := by
      have := t_wk_rng (t_wval B 1501 x 0)
      unfold t_mk
      grind
    rw [e] at q
    exact q
  · rw [if_neg c1, if_pos rfl]
    by_cases c2 : t_dig (B x)
    · rw [if_pos c2, if_neg (by decide)]
      refine ms_numb h 1501 x (by omega) (Int.le_refl _) hr.2 (by omega) ?_
      unfold t_e t_k at q
      rw [if_neg (by omega), if_neg c1, if_pos c2, if_neg (by omega), if_neg c1, if_pos c2] at q
      have e : t_mk (if t_nend B 1501 x - x ≤ 4 then 2 else 1) = (if t_nend B 1501 x - x ≤ 4 then 2 else 4) := by
        unfold t_mk
        grind
      rw [e] at q
      exact q
    · rw [if_neg c2, if_pos rfl]
      unfold t_e t_k at q
      by_cases c3 : B x < 0
      · rw [if_pos c3, if_pos c3] at q
        rw [if_pos (hx.mp c3)]
        exact q
      · rw [if_neg c3, if_neg c1, if_neg c2, if_neg c3, if_neg c1, if_neg c2] at q
        rw [if_neg (fun z => c3 (hx.mpr z))]
        have e := t_sy_sl (B x) (B (x + 1)) (by omega) c1 c2
        have e2 := t_sk_rng (B x) (B (x + 1))
        have e3 := t_sl_01 (B x) (B (x + 1))
        rw [e.1, q_wI (x := x + (1 + t_sl (B x) (B (x + 1)))) ⟨by omega, by omega⟩]
        rw [show x + 1 + t_sl (B x) (B (x + 1)) = x + (1 + t_sl (B x) (B (x + 1))) by omega] at q
        unfold t_mk at q
        grind
end MS
/-- the first n tokens of the model -/
def mt_tab (w : bm_W) (m : Nat) (B : Int → Int) (n : Nat) : Prop := ∀ j, j < n → bm_gi w (m + 2) j = t_mk (t_k B (t_P B j)) ∧ bm_gi w (m + 3) j = t_P B j ∧ bm_gi w (m + 4) j = t_e B (t_P B j)
theorem t_mk_0 (k : Int) (h : 0 ≤ k) : t_mk k = 0 ↔ k = 0 := by unfold t_mk; grind
theorem t_k_rng (B : Int → Int) (p : Int) : 0 ≤ t_k B p ∧ t_k B p ≤ 33 := by
  unfold t_k
  have := t_wk_rng (t_wval B 1501 p 0)
  have := t_sk_rng (B p) (B (p + 1))
  grind
theorem mp_scan_loop {d m : Nat} {B : Int → Int} {w0 : bm_W} {Φ : bm_Rt → bm_W → Prop} (h0 : md_B m B w0) (hq : ∀ (w' : bm_W) (N : Nat), q_fr (fun a => a = m + 2 ∨ a = m + 3 ∨ a = m + 4) w0 w' → N ≤ 1500 → (∀ j, j < N → t_k B (t_P B j) ≠ 0) → t_k B (t_P B N) = 0 → mt_tab w' m B (N + 1) → Φ (.inl none) w') :
    ∀ (n i : Nat) (w : bm_W), i + n = 1501 → q_fr (fun a => a = m + 2 ∨ a = m + 3 ∨ a = m + 4) w0 w → (∀ j, j < i → t_k B (t_P B j) ≠ 0) → mt_tab w m B i → bk_X12_scan_6 (d + 7) Φ m (i : Int) (t_nx B i) 1 w
  | 0, i, w, hi, hf, hk, ht => by
    have := (t_nx_rng h0.2.1 h0.2.2.2.2.1 i)
    have h2 := this.2.2 hk
    have := h0.2.2.1
    omega
  | n + 1, i, w, hi, hf, hk, ht => by
    have H : md_B m B w := md_B.fr hf (by omega) (by omega) h0
    have hR := t_nx_rng h0.2.1 h0.2.2.2.2.1 i
    have hL := h0.2.2.1
    have g2 : bm_gi w m 2 = bm_gi w0 m 2 := hf.gi (by omega)
    have hR3 := hR.2.2 hk
    refine vb_X12_scan_6 ?_
    rw [if_neg (by decide)]
    refine ms_one H hR.1 (by omega) ?_
    rw [t_P_nx]
    refine vb_X12_scan_186 ?_
    have M1 : sh_Md m (bm_si w (m + 2) i (t_mk (t_k B (t_P B i)))) := H.1
    have M2 : sh_Md m (bm_si (bm_si w (m + 2) i (t_mk (t_k B (t_P B i)))) (m + 3) i (t_P B i)) := H.1
    simp only [bm_c0_v, bm_c1_v, bm_c2_v, bm_c3_v, bm_c4_v, bm_c5_v, bm_u_some, decide_eq_true_eq, true_and, and_true, and_self, Bool.not_eq_true, Bool.not_eq_true', decide_eq_false_iff_not, if_true, if_false, ite_true, ite_false, eq_self, H.1.1, H.1.g4, H.1.t4, H.1.n4, M1.1, M1.g5, M1.t5, M1.n5, M2.1, M2.g6, M2.t6, M2.n6, bm_in, Int.toNat_natCast]
    rw [q_wI (x := (i : Int) + 1) ⟨by omega, by omega⟩]
    refine ⟨by omega, by omega, by omega, ?_⟩
    have F1 : q_fr (fun a => a = m + 2 ∨ a = m + 3 ∨ a = m + 4) w0 (bm_si (bm_si (bm_si w (m + 2) i (t_mk (t_k B (t_P B i)))) (m + 3) i (t_P B i)) (m + 4) i (t_e B (t_P B i))) := ((hf.si (Or.inl rfl)).si (Or.inr (Or.inl rfl))).si (Or.inr (Or.inr rfl))
    have F2 : mt_tab (bm_si (bm_si (bm_si w (m + 2) i (t_mk (t_k B (t_P B i)))) (m + 3) i (t_P B i)) (m + 4) i (t_e B (t_P B i))) m B (i + 1) := by
      intro j hj
      simp only [bm_si_kt, bm_si_kn, bm_si_sz, bm_si_sl, bm_si_gi, bm_si_gl, bm_si_gr, bm_sq_kt, bm_sq_kn, bm_sq_sz, bm_sq_sl, bm_sq_gi, bm_sq_gl, bm_sq_gr, bm_sr_kt, bm_sr_kn, bm_sr_sz, bm_sr_sl, bm_sr_gi, bm_sr_gl, bm_sr_gr]
      rcases Nat.lt_or_ge j i with z | z
      · have hh := ht j z
        refine ⟨?_, ?_, ?_⟩
        · rw [if_neg (by omega), if_neg (by omega), if_neg (by omega)]; exact hh.1
        · rw [if_neg (by omega), if_neg (by omega), if_neg (by omega)]; exact hh.2.1
        · rw [if_neg (by omega), if_neg (by omega), if_neg (by omega)]; exact hh.2.2
      · obtain rfl : j = i := by omega
        refine ⟨?_, ?_, ?_⟩
        · rw [if_neg (by omega), if_neg (by omega), if_pos (by simp)]
        · rw [if_neg (by omega), if_pos (by simp)]
        · rw [if_pos (by simp)]
    generalize (bm_si (bm_si (bm_si w (m + 2) i (t_mk (t_k B (t_P B i)))) (m + 3) i (t_P B i)) (m + 4) i (t_e B (t_P B i))) = w2 at F1 F2 ⊢
    have hk0 := t_mk_0 _ (t_k_rng B (t_P B i)).1
    by_cases c : t_k B (t_P B i) = 0
    · rw [if_pos (hk0.mpr c)]
      refine vb_X12_scan_6 ?_
      rw [if_pos (by decide)]
      exact hq w2 i F1 (by omega) hk c F2
    · rw [if_neg (fun z => c (hk0.mp z))]
      have := mp_scan_loop (d := d) h0 hq n (i + 1) w2 (by omega) F1 (fun j hj => by
          rcases Nat.lt_or_ge j i with z | z
          · exact hk j z
          · obtain rfl : j = i := by omega
            exact c) F2
      exact this
theorem mp_scan {d m : Nat} {B : Int → Int} {w : bm_W} {Φ : bm_Rt → bm_W → Prop} (h : md_B m B w) (hq : ∀ (w' : bm_W) (N : Nat), q_fr (fun a => a = m + 2 ∨ a = m + 3 ∨ a = m + 4) w w' → N ≤ 1500 → (∀ j, j < N → t_k B (t_P B j) ≠ 0) → t_k B (t_P B N) = 0 → mt_tab w' m B (N + 1) → Φ (.inl none) w') : bm_Call bm_pg (d + 8) y_X12_scan [bm_r (some m)] w Φ :=
  vc_X12_scan (mp_scan_loop h hq 1501 0 w rfl q_fr.rf (fun j z => by omega) (fun j z => by omega))

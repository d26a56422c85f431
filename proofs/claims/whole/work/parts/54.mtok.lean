/-! ===== tokens of the model: is, isName, operator, nameOf, numberOf ===== -/
abbrev t_K (B : Int → Int) (n : Nat) : Int := t_k B (t_P B n)
abbrev t_V (B : Int → Int) (n : Nat) : Int := t_v B (t_P B n)
/-- the tokens of B stand in the model: N ahead of the end -/
def md_Z (m : Nat) (B : Int → Int) (N : Nat) (w : bm_W) : Prop := md_B m B w ∧ mt_tab w m B (N + 1) ∧ N ≤ 1500 ∧ (∀ j, j < N → t_K B j ≠ 0) ∧ t_K B N = 0
theorem md_Z.fr {A : Nat → Prop} {m N : Nat} {B : Int → Int} {w w' : bm_W} (h : q_fr A w w') (hA : ∀ j, 1 ≤ j → j ≤ 4 → ¬ A (m + j)) (h2 : bm_gi w' m 2 = bm_gi w m 2) (hT : md_Z m B N w) : md_Z m B N w' := by
  obtain ⟨⟨b1, b2, b3, b4, b5, b6⟩, t, r⟩ := hT
  refine ⟨⟨b1.fr h, by rw [h2]; exact b2, by rw [h2]; exact b3, fun k hk => ?_, by rw [h2]; exact b5, by rw [h2]; exact b6⟩, fun j hj => ?_, r⟩
  · have := b4 k hk
    unfold md_at at this ⊢
    rw [h2, h.gi (hA 1 (by decide) (by decide))]
    exact this
  · rw [h.gi (hA 2 (by decide) (by decide)), h.gi (hA 3 (by decide) (by decide)), h.gi (hA 4 (by decide) (by decide))]
    exact t j hj
theorem q_ite {P Q : Prop} [Decidable P] [Decidable Q] (h : P ↔ Q) : (if P then (1 : Int) else 0) = (if Q then 1 else 0) := by
  by_cases c : P
  · rw [if_pos c, if_pos (h.mp c)]
  · rw [if_neg c, if_neg (fun z => c (h.mpr z))]
theorem t_kc_rng (c : Nat) (h1 : 1 ≤ c) (h2 : c < 31) : 4 ≤ t_kc c ∧ t_kc c ≤ 33 := (by decide : ∀ c, c < 31 → 1 ≤ c → 4 ≤ t_kc c ∧ t_kc c ≤ 33) c h2 h1
theorem k_l_len : ∀ c, c < 31 → (k_l c).reverse.length = k_len c := by decide +kernel
theorem k_l_get : ∀ c, c < 31 → ∀ k, k < k_len c → (k_l c).reverse.getD k 0 = k_b c k := by decide +kernel
theorem k_len_pos : ∀ c, c < 31 → 1 ≤ k_len c := by decide +kernel
/-- a text is the token at p, told by bytes, and told by kinds -/
theorem t_is {B : Int → Int} {p : Int} {c : Nat} (h1 : 1 ≤ c) (h2 : c < 31) : ((t_mk (t_k B p) = 1 ∨ t_mk (t_k B p) = 3) ∧ t_e B p - p = k_len c ∧ ∀ k : Nat, k < k_len c → B (p + k) = k_b c k) ↔ t_k B p = t_kc c := by
  have r := t_kc_rng c h1 h2
  by_cases c0 : B p < 0
  · have e : t_k B p = 0 := (t_k_0 B p).mpr c0
    rw [e]
    exact ⟨fun z => by simp [t_mk] at z, fun z => by omega⟩
  by_cases c1 : t_let (B p)
  · have ee : t_e B p = t_wend B 1501 p := by unfold t_e; rw [if_neg c0, if_pos c1]
    by_cases c8 : t_wend B 1501 p - p ≤ 8
    · obtain ⟨w1, w2, w3⟩ := t_w_ok c1 c8
      have r2 := t_wk_rng (t_pk (t_w B p))
      rw [w3, ee, t_wk_is _ w1 c h1 h2]
      have fx := t_wend_fix (B := B) 1501 p
      have hm : t_mk (t_wk (t_pk (t_w B p))) = 1 := by unfold t_mk; grind
      have e1 : (t_w B p = k_l c) ↔ t_wl B (t_wend B 1501 p - p).toNat p = (k_l c).reverse := by
        unfold t_w
        constructor
        · intro z; rw [← z, List.reverse_reverse]
        · intro z; rw [z, List.reverse_reverse]
      rw [e1]
      constructor
      · intro z
        have z2 : (k_l c).reverse.length = (t_wend B 1501 p - p).toNat := by rw [k_l_len c h2]; omega
        refine (t_wl_get B _ p _ z2).mp (fun k hk => ?_)
        rw [k_l_get c h2 k (by rw [k_l_len c h2] at z2; omega)]
        exact z.2.2 k (by rw [k_l_len c h2] at z2; omega)
      · intro z
        have z2 : (k_l c).reverse.length = (t_wend B 1501 p - p).toNat := by rw [← z, t_wl_len]
        have z3 := (t_wl_get B _ p _ z2).mpr z
        rw [k_l_len c h2] at z2
        refine ⟨Or.inl hm, by omega, fun k hk => ?_⟩
        rw [← k_l_get c h2 k hk]
        exact z3 k (by omega)
    · have e : t_k B p = 1 := by unfold t_k; rw [if_neg c0, if_pos c1, if_neg c8]
      rw [e]
      exact ⟨fun z => by simp [t_mk] at z, fun z => by omega⟩
  by_cases c2 : t_dig (B p)
  · have e : t_k B p = 1 ∨ t_k B p = 2 := by
      unfold t_k
      rw [if_neg c0, if_neg c1, if_pos c2]
      split
      · exact Or.inr rfl
      · exact Or.inl rfl
    refine ⟨fun z => ?_, fun z => by omega⟩
    rcases e with e | e
    · rw [e] at z; simp [t_mk] at z
    · rw [e] at z; simp [t_mk] at z
  have e : t_k B p = t_sk (B p) (B (p + 1)) := by unfold t_k; rw [if_neg c0, if_neg c1, if_neg c2]
  have ee : t_e B p = p + 1 + t_sl (B p) (B (p + 1)) := by unfold t_e; rw [if_neg c0, if_neg c1, if_neg c2]
  have r2 := t_sk_rng (B p) (B (p + 1))
  have r3 := t_sl_01 (B p) (B (p + 1))
  have r4 := k_len_pos c h2
  rw [e, ee, ← t_sk_is c h1 h2 _ _ c1 c2]
  constructor
  · intro z
    refine ⟨by omega, by have := z.2.2 0 (by omega); simpa using this, fun y => by have := z.2.2 1 (by omega); simpa using this⟩
  · intro z
    have z1 := (t_sk_is c h1 h2 _ _ c1 c2).mp z
    refine ⟨by unfold t_mk; grind, by omega, fun k hk => ?_⟩
    rcases (show k = 0 ∨ k = 1 by omega) with rfl | rfl
    · simpa using z.2.1
    · simpa using z.2.2 (by omega)
theorem t_kw_c : ∀ i, i < 12 → t_kc (bm_KK.2.2.2.2.1.getD i 0) = 4 + (i : Int) ∧ 1 ≤ bm_KK.2.2.2.2.1.getD i 0 ∧ bm_KK.2.2.2.2.1.getD i 0 < 31 := by decide +kernel
theorem t_op_c : ∀ i, i < 13 → t_kc (bm_KK.2.2.2.2.2.getD i 0) = t_op (i : Int) ∧ 1 ≤ bm_KK.2.2.2.2.2.getD i 0 ∧ bm_KK.2.2.2.2.2.getD i 0 < 31 := by decide +kernel
/-- the operator, from a up to b, of a kind -/
def t_opr (k a b : Int) : Int := if k = 10 ∧ a ≤ 0 ∧ 0 < b then 0 else if k = 9 ∧ a ≤ 1 ∧ 1 < b then 1 else if 22 ≤ k ∧ k ≤ 32 ∧ a ≤ k - 20 ∧ k - 20 < b then k - 20 else -1
section MT
variable {d m N n : Nat} {B : Int → Int} {w : bm_W} {Φ : bm_Rt → bm_W → Prop}
theorem md_Z.se (h : md_Z m B N w) (n : Nat) : 0 ≤ t_P B n ∧ t_P B n ≤ bm_gi w m 2 ∧ t_P B n ≤ t_e B (t_P B n) ∧ t_e B (t_P B n) ≤ bm_gi w m 2 := by
  have a := t_nx_rng h.1.2.1 h.1.2.2.2.2.1 n
  have b := t_skip_rng h.1.2.2.2.2.1 1501 (t_nx B n) a.2.1
  rw [t_P_nx] at b
  have c := t_e_rng h.1.2.2.2.2.1 (t_P B n) b.2
  omega
theorem md_Z.by (h : md_Z m B N w) {x : Int} (h0 : 0 ≤ x) (h1 : x < bm_gi w m 2) : bm_gi w (m + 1) x.toNat = B x := by
  have := h.1.2.2.2.1 x h0
  unfold md_at at this
  rw [if_pos h1] at this
  exact this
theorem is_0 {c : Nat} {x : Int} (hc : c < 31) (q : Φ (.inl (some (bm_i 0))) w) : bk_X12_is_49 (d + 4) Φ m x c 0 0 w := by
  refine vb_X12_is_49 ⟨hc, ?_⟩
  rw [mp_len (d := d + 2) hc, bm_c1_v]
  split
  · exact ⟨Or.inl rfl, q⟩
  · rw [if_pos (by decide)]
    exact ⟨Or.inl rfl, q⟩
theorem is_loop {c : Nat} (h : md_Z m B N w) (hn : n ≤ N) (hc : c < 31) (he : t_e B (t_P B n) - t_P B n = k_len c) (q : Φ (.inl (some (bm_i (if ∀ k : Nat, k < k_len c → B (t_P B n + k) = k_b c k then 1 else 0)))) w) :
    ∀ (f i : Nat), i + f = k_len c → (∀ k : Nat, k < i → B (t_P B n + k) = k_b c k) → bk_X12_is_49 (d + 4) Φ m (n : Int) c 1 (i : Int) w
  | 0, i, hi, hk => by
    refine vb_X12_is_49 ⟨hc, ?_⟩
    rw [mp_len (d := d + 2) hc, bm_c1_v, if_pos (by simp; omega)]
    rw [if_pos (fun k hk2 => hk k (by omega))] at q
    exact ⟨Or.inr rfl, q⟩
  | f + 1, i, hi, hk => by
    have h14 := k_len_14 c hc
    have se := h.se n
    have tb := h.2.1 n (by omega)
    refine vb_X12_is_49 ⟨hc, ?_⟩
    have hN := h.2.2.1
    have hL := h.1.2.2.1
    rw [mp_len (d := d + 2) hc, bm_c1_v, if_neg (by simp; omega), if_neg (by decide)]
    have by' := h.by (x := t_P B n + i) (by omega) (by omega)
    simp only [bm_c0_v, bm_c1_v, bm_c2_v, bm_c3_v, bm_c4_v, bm_c5_v, bm_u_some, decide_eq_true_eq, true_and, and_true, and_self, Bool.not_eq_true, Bool.not_eq_true', decide_eq_false_iff_not, if_true, if_false, ite_true, ite_false, eq_self, h.1.1.1, h.1.1.g1, h.1.1.t1, h.1.1.n1, h.1.1.g5, h.1.1.t5, h.1.1.n5, bm_in, Int.toNat_natCast, tb.2.1, q_wI (x := t_P B n + i) ⟨by omega, by omega⟩, by', mp_charAt (d := d) hc (show i < k_len c by omega), q_wI (x := (i : Int) + 1) ⟨by omega, by omega⟩]
    refine ⟨by omega, by omega, hc, ?_⟩
    by_cases z : B (t_P B n + i) = k_b c i
    · rw [if_neg (fun y => y z)]
      exact is_loop h hn hc he q f (i + 1) (by omega) (fun k hk2 => by
        rcases Nat.lt_or_ge k i with y | y
        · exact hk k y
        · obtain rfl : k = i := by omega
          exact z)
    · rw [if_pos z]
      rw [if_neg (fun y => z (y i (by omega)))] at q
      refine vb_X12_is_49 ⟨hc, ?_⟩
      rw [mp_len (d := d + 2) hc, bm_c1_v]
      split
      · exact ⟨Or.inl rfl, q⟩
      · rw [if_pos (by decide)]
        exact ⟨Or.inl rfl, q⟩
theorem mp_is {c : Nat} (h : md_Z m B N w) (hn : n ≤ N) (h1 : 1 ≤ c) (h2 : c < 31) : bm_Call bm_pg (d + 5) y_X12_is [bm_r (some m), bm_i (n : Int), bm_k (0, c)] w Φ ↔ Φ (.inl (some (bm_i (if t_K B n = t_kc c then 1 else 0)))) w := by
  refine bm_ans (fun Ψ q => vc_X12_is ?_)
  have se := h.se n
  have tb := h.2.1 n (by omega)
  have hN := h.2.2.1
  have hL := h.1.2.2.1
  have T := t_is (B := B) (p := t_P B n) h1 h2
  simp only [bm_c0_v, bm_c1_v, bm_c2_v, bm_c3_v, bm_c4_v, bm_c5_v, bm_u_some, decide_eq_true_eq, true_and, and_true, and_self, Bool.not_eq_true, Bool.not_eq_true', decide_eq_false_iff_not, if_true, if_false, ite_true, ite_false, eq_self, h.1.1.1, h.1.1.g4, h.1.1.t4, h.1.1.n4, h.1.1.g5, h.1.1.t5, h.1.1.n5, h.1.1.g6, h.1.1.t6, h.1.1.n6, bm_in, Int.toNat_natCast, tb.1, tb.2.1, tb.2.2, mp_len (d := d + 2) h2, q_wI (x := t_e B (t_P B n) - t_P B n) ⟨by omega, by omega⟩]
  refine ⟨by omega, ?_⟩
  have key : (t_mk (t_K B n) = 1 ∨ t_mk (t_K B n) = 3) → (if t_e B (t_P B n) - t_P B n = (k_len c : Int) then bk_X12_is_49 (d + 4) Ψ m (n : Int) c 1 0 w else bk_X12_is_49 (d + 4) Ψ m (n : Int) c 0 0 w) := by
    intro hm
    by_cases he : t_e B (t_P B n) - t_P B n = (k_len c : Int)
    · rw [if_pos he]
      refine is_loop h hn h2 he ?_ (k_len c) 0 (by omega) (fun k hk => by omega)
      have : (∀ k : Nat, k < k_len c → B (t_P B n + k) = k_b c k) ↔ t_K B n = t_kc c := by
        rw [← T]
        exact ⟨fun z => ⟨hm, he, z⟩, fun z => z.2.2⟩
      simp only [this]
      exact q
    · rw [if_neg he]
      rw [if_neg (fun z => he (T.mpr z).2.1)] at q
      exact is_0 h2 q
  by_cases m1 : t_mk (t_K B n) = 1
  · rw [if_pos m1]
    have := key (Or.inl m1)
    refine ⟨by omega, by omega, h2, ?_⟩
    simp only [ite_not]
    exact this
  · rw [if_neg m1]
    refine ⟨by omega, ?_⟩
    by_cases m3 : t_mk (t_K B n) = 3
    · rw [if_neg (fun z => z m3)]
      have := key (Or.inr m3)
      refine ⟨by omega, by omega, h2, ?_⟩
      simp only [ite_not]
      exact this
    · rw [if_pos m3]
      rw [if_neg (fun z => (T.mpr z).1.elim m1 m3)] at q
      exact is_0 h2 q
theorem name_loop (h : md_Z m B N w) (hn : n ≤ N) : ∀ (f i : Nat) (v : Int), i + f = 12 → v = 0 ∨ v = 1 → Φ (.inl (some (bm_i (if v = 1 ∧ ¬ (4 + (i : Int) ≤ t_K B n ∧ t_K B n ≤ 15) then 1 else 0)))) w → bk_X12_isName_27 (d + 5) Φ m (n : Int) v 12 (i : Int) w
  | 0, i, v, hi, hv, q => by
    refine vb_X12_isName_27 ?_
    rw [if_pos (by simp; omega)]
    refine ⟨hv, ?_⟩
    rcases hv with rfl | rfl
    · rw [if_neg (by omega)] at q; exact q
    · rw [if_pos ⟨rfl, by omega⟩] at q; exact q
  | f + 1, i, v, hi, hv, q => by
    have kw := t_kw_c i (by omega)
    have hl : bm_KK.2.2.2.2.1.length = 12 := rfl
    refine vb_X12_isName_27 ?_
    rw [if_neg (by simp; omega)]
    refine ⟨⟨by omega, by rw [hl]; omega⟩, ?_⟩
    rw [q_wI (x := (i : Int) + 1) ⟨by omega, by omega⟩, Int.toNat_natCast]
    rcases hv with rfl | rfl
    · rw [if_pos (by decide)]
      rw [if_neg (by omega)] at q
      refine name_loop h hn f (i + 1) 0 (by omega) (Or.inl rfl) ?_
      rw [if_neg (by omega)]
      exact q
    · rw [if_neg (by decide)]
      refine ⟨h.1.1.1, ?_⟩
      rw [mp_is h hn kw.2.1 kw.2.2, bm_c1_v, kw.1]
      by_cases z : t_K B n = 4 + (i : Int)
      · rw [if_pos z, if_pos (by decide)]
        rw [if_neg (by omega)] at q
        refine name_loop h hn f (i + 1) 0 (by omega) (Or.inl rfl) ?_
        rw [if_neg (by omega)]
        exact q
      · rw [if_neg z, if_neg (by decide)]
        refine name_loop h hn f (i + 1) 1 (by omega) (Or.inr rfl) ?_
        have : ((1 : Int) = 1 ∧ ¬ (4 + (i : Int) ≤ t_K B n ∧ t_K B n ≤ 15)) ↔ ((1 : Int) = 1 ∧ ¬ (4 + ((i + 1 : Nat) : Int) ≤ t_K B n ∧ t_K B n ≤ 15)) := by omega
        rw [q_ite this] at q
        exact q
theorem mp_isName (h : md_Z m B N w) (hn : n ≤ N) : bm_Call bm_pg (d + 6) y_X12_isName [bm_r (some m), bm_i (n : Int)] w Φ ↔ Φ (.inl (some (bm_i (if t_K B n = 3 then 1 else 0)))) w := by
  refine bm_ans (fun Ψ q => vc_X12_isName ?_)
  have tb := h.2.1 n (by omega)
  have hN := h.2.2.1
  have e : (bm_kLen bm_KK (2, 1) : Int) = 12 := rfl
  have r := t_k_rng B (t_P B n)
  have mk1 : t_mk (t_K B n) = 1 ↔ 3 ≤ t_K B n ∧ t_K B n ≤ 15 := by unfold t_mk; grind
  simp only [bm_c0_v, bm_c1_v, bm_c2_v, bm_c3_v, bm_c4_v, bm_c5_v, bm_u_some, decide_eq_true_eq, true_and, and_true, and_self, Bool.not_eq_true, Bool.not_eq_true', decide_eq_false_iff_not, if_true, if_false, ite_true, ite_false, eq_self, h.1.1.1, h.1.1.g4, h.1.1.t4, h.1.1.n4, bm_in, Int.toNat_natCast, tb.1, e, bm_kIs]
  refine ⟨by omega, ?_⟩
  by_cases c : t_mk (t_K B n) = 1
  · have c' := mk1.mp c
    rw [if_neg (fun z => z c)]
    refine ⟨by omega, name_loop h hn 12 0 1 rfl (Or.inr rfl) ?_⟩
    have : ((1 : Int) = 1 ∧ ¬ (4 + ((0 : Nat) : Int) ≤ t_K B n ∧ t_K B n ≤ 15)) ↔ t_K B n = 3 := by omega
    rw [q_ite this]
    exact q
  · rw [if_pos c]
    rw [if_neg (fun z => c (mk1.mpr (by omega)))] at q
    refine ⟨by omega, name_loop h hn 12 0 0 rfl (Or.inl rfl) ?_⟩
    rw [if_neg (by omega)]
    exact q
theorem t_op_inj (k : Int) (a b i : Int) (h0 : 0 ≤ i) (h1 : i < 13) (ha : a ≤ i) (hb : i < b) (e : k = t_op i) : t_opr k a b = i := by
  unfold t_op at e
  unfold t_opr
  grind
theorem opr_loop (h : md_Z m B N w) (hn : n ≤ N) {b : Int} (hb : b ≤ 13) : ∀ (f : Nat) (i v : Int), 0 ≤ i → b ≤ i + f → Φ (.inl (some (bm_i (if t_opr (t_K B n) i b = -1 then v else t_opr (t_K B n) i b)))) w → bk_X12_operator_6 (d + 5) Φ m (n : Int) b v i w
  | 0, i, v, h0, hi, q => by
    refine vb_X12_operator_6 ?_
    rw [if_pos (by simp; omega)]
    have : t_opr (t_K B n) i b = -1 := by unfold t_opr; grind
    rw [if_pos this] at q
    exact q
  | f + 1, i, v, h0, hi, q => by
    refine vb_X12_operator_6 ?_
    by_cases c : b ≤ i
    · rw [if_pos (by simpa using c)]
      have : t_opr (t_K B n) i b = -1 := by unfold t_opr; grind
      rw [if_pos this] at q
      exact q
    · rw [if_neg (by simpa using c)]
      have kw := t_op_c i.toNat (by omega)
      rw [show ((i.toNat : Nat) : Int) = i by omega] at kw
      have hl : bm_KK.2.2.2.2.2.length = 13 := rfl
      refine ⟨⟨h0, by rw [hl]; omega⟩, h.1.1.1, ?_⟩
      rw [mp_is h hn kw.2.1 kw.2.2, bm_c1_v, kw.1, q_wI (x := i + 1) ⟨by omega, by omega⟩]
      by_cases z : t_K B n = t_op i
      · rw [if_pos z, if_neg (by decide)]
        have z1 := t_op_inj _ i b i h0 (by omega) (Int.le_refl _) (by omega) z
        have z2 : t_opr (t_K B n) (i + 1) b = -1 := by
          rw [z]; unfold t_opr t_op
          grind
        refine opr_loop h hn hb f (i + 1) i (by omega) (by omega) ?_
        rw [if_pos z2]
        rw [if_neg (by omega), z1] at q
        exact q
      · rw [if_neg z, if_pos (by decide)]
        have z2 : t_opr (t_K B n) (i + 1) b = t_opr (t_K B n) i b := by
          unfold t_opr
          unfold t_op at z
          grind
        refine opr_loop h hn hb f (i + 1) v (by omega) (by omega) ?_
        rw [z2]
        exact q
theorem mp_operator (h : md_Z m B N w) (hn : n ≤ N) {a b : Int} (ha : 0 ≤ a) (hb : b ≤ 13) : bm_Call bm_pg (d + 6) y_X12_operator [bm_r (some m), bm_i (n : Int), bm_i a, bm_i b] w Φ ↔ Φ (.inl (some (bm_i (t_opr (t_K B n) a b)))) w := by
  refine bm_ans (fun Ψ q => vc_X12_operator (opr_loop h hn hb 13 a (-1) ha (by omega) ?_))
  split
  · rename_i z; rw [z] at q; exact q
  · exact q
theorem t_37_lt : ∀ (k : Nat) (l : List Int), l.length ≤ k → (∀ b ∈ l, t_let b ∨ t_dig b) → t_37 l < 37 ^ k
  | k, [], _, _ => Int.pow_pos (by decide)
  | 0, b :: l, z, _ => by simp at z
  | k + 1, b :: l, z, h => by
    have i1 := t_37_lt k l (by simpa using z) (fun x hx => h x (List.mem_cons_of_mem _ hx))
    have i2 := h b List.mem_cons_self
    rw [Int.pow_succ]
    unfold t_37
    split <;> omega
theorem t_37_lt8 {l : List Int} (h : ∀ b ∈ l, t_let b ∨ t_dig b) (hl : l.length ≤ 7) : t_37 l < 94931877133 := by
  have := t_37_lt 7 l hl h
  have h3 : (37 : Int) ^ 7 = 94931877133 := by decide
  omega
theorem nm_loop (h : md_Z m B N w) (hn : n ≤ N) : ∀ (f : Nat) (x : Int) (l : List Int), 0 ≤ x → x + f = t_e B (t_P B n) → (∀ b ∈ (t_wl B f x).reverse ++ l, t_let b ∨ t_dig b) → f + l.length ≤ 8 → Φ (.inl (some (bm_l (t_37 ((t_wl B f x).reverse ++ l))))) w → bk_X12_nameOf_10 (d + 3) Φ m (n : Int) (t_37 l) x w
  | 0, x, l, h0, hx, hl, h8, q => by
    have tb := h.2.1 n (by omega)
    have hN := h.2.2.1
    refine vb_X12_nameOf_10 ?_
    simp only [bm_c0_v, bm_c1_v, bm_c2_v, bm_c3_v, bm_c4_v, bm_c5_v, bm_u_some, decide_eq_true_eq, true_and, and_true, and_self, Bool.not_eq_true, Bool.not_eq_true', decide_eq_false_iff_not, if_true, if_false, ite_true, ite_false, eq_self, h.1.1.1, h.1.1.g6, h.1.1.t6, h.1.1.n6, bm_in, Int.toNat_natCast, tb.2.2]
    refine ⟨by omega, ?_⟩
    rw [if_pos (by omega)]
    exact q
  | f + 1, x, l, h0, hx, hl, h8, q => by
    have tb := h.2.1 n (by omega)
    have hN := h.2.2.1
    have se := h.se n
    have hL := h.1.2.2.1
    have e2 : (t_wl B (f + 1) x).reverse ++ l = (t_wl B f (x + 1)).reverse ++ B x :: l := by
      show (B x :: t_wl B f (x + 1)).reverse ++ l = _
      rw [List.reverse_cons, List.append_assoc]
      rfl
    rw [e2] at hl q
    have hb := hl (B x) (List.mem_append_right _ List.mem_cons_self)
    have hl2 : ∀ b ∈ l, t_let b ∨ t_dig b := fun b y => hl b (List.mem_append_right _ (List.mem_cons_of_mem _ y))
    have r1 := t_37_rng l hl2
    have r2 := t_37_lt8 hl2 (by omega)
    have by' := h.by (x := x) h0 (by omega)
    refine vb_X12_nameOf_10 ?_
    simp only [bm_c0_v, bm_c1_v, bm_c2_v, bm_c3_v, bm_c4_v, bm_c5_v, bm_u_some, decide_eq_true_eq, true_and, and_true, and_self, Bool.not_eq_true, Bool.not_eq_true', decide_eq_false_iff_not, if_true, if_false, ite_true, ite_false, eq_self, h.1.1.1, h.1.1.g1, h.1.1.t1, h.1.1.n1, h.1.1.g6, h.1.1.t6, h.1.1.n6, bm_in, Int.toNat_natCast, tb.2.2, by', mp_isDigit, q_wI (x := x + 1) ⟨by omega, by omega⟩, q_wI (x := B x - 86) ⟨by omega, by omega⟩, q_wI (x := B x - 47) ⟨by omega, by omega⟩, q_xL (x := 37 * t_37 l) ⟨by omega, by omega⟩, q_xL (x := 37 * t_37 l + (B x - 86)) ⟨by omega, by omega⟩, q_xL (x := 37 * t_37 l + (B x - 47)) ⟨by omega, by omega⟩]
    refine ⟨by omega, ?_⟩
    rw [if_neg (by omega)]
    have ih := nm_loop h hn f (x + 1) (B x :: l) (by omega) (by omega) hl (by rw [List.length_cons]; omega) q
    refine ⟨by omega, ?_⟩
    unfold t_37 at ih
    by_cases z : t_dig (B x)
    · rw [if_pos z] at ih
      rw [if_pos z, if_neg (by decide)]
      exact ⟨by omega, ih⟩
    · rw [if_neg z] at ih
      rw [if_neg z, if_pos rfl]
      exact ⟨by omega, ih⟩
/-- the name that a word is -/
theorem mp_nameOf (h : md_Z m B N w) (hn : n ≤ N) (hk : 3 ≤ t_K B n ∧ t_K B n ≤ 15) : bm_Call bm_pg (d + 4) y_X12_nameOf [bm_r (some m), bm_i (n : Int)] w Φ ↔ Φ (.inl (some (bm_l (t_37 (t_w B (t_P B n)))))) w := by
  refine bm_ans (fun Ψ q => vc_X12_nameOf ?_)
  have tb := h.2.1 n (by omega)
  have hN := h.2.2.1
  have se := h.se n
  simp only [bm_c0_v, bm_c1_v, bm_c2_v, bm_c3_v, bm_c4_v, bm_c5_v, bm_u_some, decide_eq_true_eq, true_and, and_true, and_self, Bool.not_eq_true, Bool.not_eq_true', decide_eq_false_iff_not, if_true, if_false, ite_true, ite_false, eq_self, h.1.1.1, h.1.1.g5, h.1.1.t5, h.1.1.n5, bm_in, Int.toNat_natCast, tb.2.1]
  refine ⟨by omega, ?_⟩
  have hw : t_let (B (t_P B n)) ∧ t_wend B 1501 (t_P B n) - t_P B n ≤ 8 := by
    have r2 := t_sk_rng (B (t_P B n)) (B (t_P B n + 1))
    unfold t_K t_k at hk
    grind
  have ok := (t_w_ok hw.1 hw.2).1
  have ee : t_e B (t_P B n) = t_wend B 1501 (t_P B n) := by
    unfold t_e
    rw [if_neg (by omega), if_pos hw.1]
  have := nm_loop (d := d) (Φ := Ψ) h hn (t_e B (t_P B n) - t_P B n).toNat (t_P B n) [] se.1 (by omega) (by
    rw [List.append_nil, ee]; exact ok.1) (by simp; omega) (by
    rw [List.append_nil, ee]; exact q)
  exact this
theorem t_nend_fix {B : Int → Int} : ∀ (n : Nat) (p : Int), p ≤ t_nend B n p
  | 0, p => Int.le_refl _
  | n + 1, p => by
    unfold t_nend
    split
    · have := t_nend_fix (B := B) n (p + 1); omega
    · exact Int.le_refl _
theorem no_loop (h : md_Z m B N w) (hn : n ≤ N) : ∀ (f k : Nat) (x v : Int), 0 ≤ x → t_nend B f x = t_e B (t_P B n) → x + k = t_P B n + 4 → t_nend B f x ≤ t_P B n + 4 → 0 ≤ v → v * 10 ^ k ≤ 10000 - 10 ^ k → (0 ≤ t_nval B f x v → t_nval B f x v ≤ 9999 → Φ (.inl (some (bm_i (t_nval B f x v)))) w) → bk_X12_numberOf_9 d Φ m (n : Int) v x w := by
  intro f
  have tb := h.2.1 n (by omega)
  have hN := h.2.2.1
  have se := h.se n
  have hL := h.1.2.2.1
  induction f with
  | zero =>
    intro k x v h0 hx hk h4 hv hv2 q
    refine vb_X12_numberOf_9 ?_
    simp only [bm_c0_v, bm_c1_v, bm_c2_v, bm_c3_v, bm_c4_v, bm_c5_v, bm_u_some, decide_eq_true_eq, true_and, and_true, and_self, Bool.not_eq_true, Bool.not_eq_true', decide_eq_false_iff_not, if_true, if_false, ite_true, ite_false, eq_self, h.1.1.1, h.1.1.g6, h.1.1.t6, h.1.1.n6, bm_in, Int.toNat_natCast, tb.2.2]
    refine ⟨by omega, ?_⟩
    unfold t_nend at hx
    rw [if_pos (by omega)]
    have p1 : (1 : Int) ≤ 10 ^ k := Int.pow_pos (by decide)
    have p2 : v ≤ v * 10 ^ k := by have := Int.mul_le_mul_of_nonneg_left p1 hv; rw [Int.mul_one] at this; exact this
    exact q hv (by show v ≤ _; omega)
  | succ f ih =>
    intro k x v h0 hx hk h4 hv hv2 q
    have p1 : (1 : Int) ≤ 10 ^ k := Int.pow_pos (by decide)
    have p2 : v ≤ v * 10 ^ k := by have := Int.mul_le_mul_of_nonneg_left p1 hv; rw [Int.mul_one] at this; exact this
    have fx := t_nend_fix (B := B) (f + 1) x
    have fx1 := t_nend_fix (B := B) f (x + 1)
    refine vb_X12_numberOf_9 ?_
    simp only [bm_c0_v, bm_c1_v, bm_c2_v, bm_c3_v, bm_c4_v, bm_c5_v, bm_u_some, decide_eq_true_eq, true_and, and_true, and_self, Bool.not_eq_true, Bool.not_eq_true', decide_eq_false_iff_not, if_true, if_false, ite_true, ite_false, eq_self, h.1.1.1, h.1.1.g6, h.1.1.t6, h.1.1.n6, bm_in, Int.toNat_natCast, tb.2.2]
    refine ⟨by omega, ?_⟩
    unfold t_nend at hx h4 fx
    unfold t_nval at q
    by_cases c : t_dig (B x)
    · rw [if_pos c] at hx h4 fx q
      rw [if_neg (by omega)]
      obtain ⟨k, rfl⟩ : ∃ k', k = k' + 1 := ⟨k - 1, by omega⟩
      rw [Int.pow_succ] at hv2 p2
      have by' := h.by (x := x) h0 (by omega)
      simp only [bm_c0_v, bm_c1_v, bm_c2_v, bm_c3_v, bm_c4_v, bm_c5_v, bm_u_some, decide_eq_true_eq, true_and, and_true, and_self, Bool.not_eq_true, Bool.not_eq_true', decide_eq_false_iff_not, if_true, if_false, ite_true, ite_false, eq_self, h.1.1.1, h.1.1.g1, h.1.1.t1, h.1.1.n1, bm_in, by']
      have e10 : q_ten v (B x) = 10 * v + B x - 48 := by
        unfold q_ten
        rw [q_xL (x := v * 10) ⟨by omega, by omega⟩, q_xL (x := v * 10 + B x) ⟨by omega, by omega⟩, q_xL ⟨by omega, by omega⟩]
        omega
      rw [e10] at q
      rw [q_wI (x := 10 * v) ⟨by omega, by omega⟩, q_wI (x := 10 * v + B x) ⟨by omega, by omega⟩, q_wI (x := 10 * v + B x - 48) ⟨by omega, by omega⟩, q_wI (x := x + 1) ⟨by omega, by omega⟩]
      refine ⟨by omega, ih k (x + 1) (10 * v + B x - 48) (by omega) hx (by omega) h4 (by omega) ?_ q⟩
      have : (10 * v + B x - 48) * 10 ^ k ≤ (10 * v + 9) * 10 ^ k := Int.mul_le_mul_of_nonneg_right (by omega) (by omega)
      have e : (10 * v + 9) * (10 : Int) ^ k = v * (10 ^ k * 10) + 9 * 10 ^ k := by
        rw [Int.add_mul, Int.mul_comm 10 v, Int.mul_assoc, Int.mul_comm 10 (10 ^ k)]
      omega
    · rw [if_neg c] at hx h4 fx q
      rw [if_pos (by omega)]
      exact q hv (by omega)
theorem mp_numberOf (h : md_Z m B N w) (hn : n ≤ N) (hk : t_K B n = 2) : (bm_Call bm_pg (d + 1) y_X12_numberOf [bm_r (some m), bm_i (n : Int)] w Φ ↔ Φ (.inl (some (bm_i (t_V B n)))) w) ∧ 0 ≤ t_V B n ∧ t_V B n ≤ 9999 := by
  have tb := h.2.1 n (by omega)
  have hN := h.2.2.1
  have se := h.se n
  have hw : ¬ B (t_P B n) < 0 ∧ ¬ t_let (B (t_P B n)) ∧ t_dig (B (t_P B n)) ∧ t_nend B 1501 (t_P B n) - t_P B n ≤ 4 := by
    have r2 := t_sk_rng (B (t_P B n)) (B (t_P B n + 1))
    have r3 := t_wk_rng (t_wval B 1501 (t_P B n) 0)
    unfold t_K t_k at hk
    grind
  have ee : t_e B (t_P B n) = t_nend B 1501 (t_P B n) := by
    unfold t_e
    rw [if_neg hw.1, if_neg hw.2.1, if_pos hw.2.2.1]
  have ev : t_V B n = t_nval B 1501 (t_P B n) 0 := by
    unfold t_V t_v
    rw [if_neg hw.1, if_neg hw.2.1, if_pos hw.2.2.1]
  have st : ∀ Ψ : bm_Rt → bm_W → Prop, (0 ≤ t_nval B 1501 (t_P B n) 0 → t_nval B 1501 (t_P B n) 0 ≤ 9999 → Ψ (.inl (some (bm_i (t_nval B 1501 (t_P B n) 0)))) w) → bm_Call bm_pg (d + 1) y_X12_numberOf [bm_r (some m), bm_i (n : Int)] w Ψ := by
    intro Ψ q
    refine vc_X12_numberOf ?_
    simp only [bm_c0_v, bm_c1_v, bm_c2_v, bm_c3_v, bm_c4_v, bm_c5_v, bm_u_some, decide_eq_true_eq, true_and, and_true, and_self, Bool.not_eq_true, Bool.not_eq_true', decide_eq_false_iff_not, if_true, if_false, ite_true, ite_false, eq_self, h.1.1.1, h.1.1.g5, h.1.1.t5, h.1.1.n5, bm_in, Int.toNat_natCast, tb.2.1]
    refine ⟨by omega, no_loop h hn 1501 4 (t_P B n) 0 se.1 ee.symm (by omega) (by omega) (Int.le_refl _) (by decide) q⟩
  have rng : 0 ≤ t_nval B 1501 (t_P B n) 0 ∧ t_nval B 1501 (t_P B n) 0 ≤ 9999 := by
    obtain ⟨r, w', h1, h2, _⟩ := bm_Call_both bm_pg _ _ _ _ _ _ (st (fun _ _ => 0 ≤ t_nval B 1501 (t_P B n) 0 ∧ t_nval B 1501 (t_P B n) 0 ≤ 9999) (fun a b => ⟨a, b⟩)) (st (fun r w' => True ∧ True) (fun a b => ⟨trivial, trivial⟩))
    exact h1
  rw [ev]
  exact ⟨bm_ans (fun Ψ q => st Ψ (fun _ _ => q)), rng⟩
end MT

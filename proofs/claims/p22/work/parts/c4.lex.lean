/-! ===== the tokens of the law's text (laid by gen_c2.py) ===== -/
/-- the bytes of a text; -1 elsewhere -/
def xb (l : List Int) (p : Int) : Int := if 0 ≤ p ∧ p < (l.length : Int) then l.getD p.toNat 0 else -1
theorem xb_at {l : List Int} (p : Nat) (h : p < l.length) : xb l (p : Int) = l.getD p 0 := by
  unfold xb
  rw [if_pos (by omega), Int.toNat_natCast]
theorem xb_end {l : List Int} (p : Nat) (h : l.length ≤ p) : xb l (p : Int) = -1 := by
  unfold xb
  rw [if_neg (by omega)]
section LX
variable {B : Int → Int} {n : Nat} {p q : Int}
theorem tk_P0 (h : t_nx B n = p) (hb : ¬ t_bl (B p)) : t_P B n = p := by
  rw [← t_P_nx, h]
  exact if_neg hb
theorem sk_1 (m : Nat) (h : B p = 32) (hq : p + 1 = q) (hb : ¬ t_bl (B q)) : t_skip B (m + 2) p = q := by
  show (if t_bl (B p) then t_skip B (m + 1) (p + 1) else p) = q
  rw [if_pos (Or.inl h), hq]
  exact if_neg hb
theorem tk_P1 (h : t_nx B n = p) (h32 : B p = 32) (hq : p + 1 = q) (hb : ¬ t_bl (B q)) : t_P B n = q := by
  rw [← t_P_nx, h]
  exact sk_1 1499 h32 hq hb
theorem nn_2 (m : Nat) (hd : t_dig (B p)) (hq : p + 1 = q) (hn : ¬ t_dig (B q)) : t_nend B (m + 2) p = q ∧ ∀ v, t_nval B (m + 2) p v = q_ten v (B p) := by
  refine ⟨?_, fun v => ?_⟩
  · show (if t_dig (B p) then t_nend B (m + 1) (p + 1) else p) = q
    rw [if_pos hd, hq]
    exact if_neg hn
  · show (if t_dig (B p) then t_nval B (m + 1) (p + 1) (q_ten v (B p)) else v) = _
    rw [if_pos hd, hq]
    exact if_neg hn
theorem q_ten_0 {b : Int} (h : t_dig b) : q_ten 0 b = b - 48 := by
  unfold q_ten bm_x
  obtain ⟨h1, h2⟩ := h
  omega
theorem tk_num (hp : t_P B n = p) (hd : t_dig (B p)) (hq : p + 1 = q) (hn : ¬ t_dig (B q)) : t_K B n = 2 ∧ t_V B n = B p - 48 ∧ t_nx B (n + 1) = q := by
  obtain ⟨e1, e2⟩ := nn_2 1499 hd hq hn
  have h0 : ¬ B p < 0 := by have := hd.1; omega
  have hl : ¬ t_let (B p) := fun z => by have := hd.2; have := z.1; omega
  have e1 : t_nend B 1501 p = q := e1
  have e2 : t_nval B 1501 p 0 = q_ten 0 (B p) := e2 0
  refine ⟨?_, ?_, ?_⟩
  · show t_k B (t_P B n) = 2
    rw [hp]
    unfold t_k
    rw [if_neg h0, if_neg hl, if_pos hd, e1, if_pos (by omega)]
  · show t_v B (t_P B n) = _
    rw [hp]
    unfold t_v
    rw [if_neg h0, if_neg hl, if_pos hd, e2, q_ten_0 hd]
  · show t_e B (t_P B n) = _
    rw [hp]
    unfold t_e
    rw [if_neg h0, if_neg hl, if_pos hd, e1]
/-- a sign -/
def xsg (c d k s : Int) : Prop := t_sk c d = k ∧ t_sl c d = s ∧ ¬ t_let c ∧ ¬ t_dig c ∧ 0 ≤ c ∧ ¬ t_bl c
theorem tk_sym {k s e : Int} (hp : t_P B n = p) (hq : p + 1 = q) (h : xsg (B p) (B q) k s) (he : q + s = e) : t_K B n = k ∧ t_nx B (n + 1) = e := by
  obtain ⟨h1, h2, h3, h4, h5, -⟩ := h
  subst hq
  refine ⟨?_, ?_⟩
  · show t_k B (t_P B n) = k
    rw [hp]
    unfold t_k
    rw [if_neg (by omega), if_neg h3, if_neg h4]
    exact h1
  · show t_e B (t_P B n) = _
    rw [hp]
    unfold t_e
    rw [if_neg (by omega), if_neg h3, if_neg h4, h2]
    exact he
def at_l (B : Int → Int) : Int → List Int → Prop
  | _, [] => True
  | p, x :: r => B p = x ∧ at_l B (p + 1) r
def all_l : List Int → Prop
  | [] => True
  | x :: r => t_let x ∧ all_l r
theorem wd_l : ∀ (ws : List Int) (m : Nat) (p : Int), at_l B p ws → all_l ws → ¬ (t_let (B (p + ws.length)) ∨ t_dig (B (p + ws.length))) → t_wend B (m + ws.length + 1) p = p + ws.length ∧ ∀ v, t_wval B (m + ws.length + 1) p v = ws.foldl q_sh8 v
  | [], m, p, _, _, hn => by
    have e : p + (([] : List Int).length : Int) = p := by show p + 0 = p; omega
    rw [e] at hn ⊢
    exact ⟨if_neg hn, fun v => if_neg hn⟩
  | x :: r, m, p, h, hl, hn => by
    obtain ⟨h1, h2⟩ := h
    obtain ⟨l1, l2⟩ := hl
    have e : p + ((x :: r).length : Int) = p + 1 + (r.length : Int) := by rw [List.length_cons]; omega
    rw [e] at hn ⊢
    obtain ⟨i1, i2⟩ := wd_l r m (p + 1) h2 l2 hn
    have c : t_let (B p) ∨ t_dig (B p) := Or.inl (by rw [h1]; exact l1)
    refine ⟨?_, fun v => ?_⟩
    · show (if t_let (B p) ∨ t_dig (B p) then t_wend B (m + r.length + 1) (p + 1) else p) = _
      rw [if_pos c, i1]
    · show (if t_let (B p) ∨ t_dig (B p) then t_wval B (m + r.length + 1) (p + 1) (q_sh8 v (B p)) else v) = _
      rw [if_pos c, i2, h1]
      rfl
theorem tk_wd {ws : List Int} {k v e : Int} {m : Nat} (hp : t_P B n = p) (h : at_l B p ws) (hl : all_l ws) (hm : m + ws.length + 1 = 1501) (h8 : ws.length ≤ 8) (h1 : 1 ≤ ws.length) (he : p + ws.length = e) (hn : ¬ (t_let (B e) ∨ t_dig (B e))) (hv : ws.foldl q_sh8 0 = v) (hk : t_wk v = k) : t_K B n = k ∧ t_V B n = v ∧ t_nx B (n + 1) = e := by
  subst he
  obtain ⟨i1, i2⟩ := wd_l ws m p h hl hn
  rw [hm] at i1
  have i2 := i2 0
  rw [hm, hv] at i2
  have hl0 : t_let (B p) := by
    cases ws with
    | nil => exact absurd h1 (by decide)
    | cons x r => rw [h.1]; exact hl.1
  have h0 : ¬ B p < 0 := by have := hl0.1; omega
  refine ⟨?_, ?_, ?_⟩
  · show t_k B (t_P B n) = k
    rw [hp]
    unfold t_k
    rw [if_neg h0, if_pos hl0, i1, i2, if_pos (by omega)]
    exact hk
  · show t_v B (t_P B n) = _
    rw [hp]
    unfold t_v
    rw [if_neg h0, if_pos hl0, i2]
  · show t_e B (t_P B n) = _
    rw [hp]
    unfold t_e
    rw [if_neg h0, if_pos hl0, i1]
end LX
/-- the text -/
def xt_1a (A B C E c1 x1 x2 : Int) : List Int := [102, 117, 110, 32, 102, 32, 40, 120, 32, 105, 110, 32, 48, 32, 46, 46, 32, 48 + A, 44, 32, 121, 32, 105, 110, 32, 48, 32, 46, 46, 32, 48 + B, 41, 32, 61, 32, 105, 102, 32, 120, 32, c1, 32, 48 + C, 32, 116, 104, 101, 110, 32, 120, 32, x1, 32, 121, 32, 101, 108, 115, 101, 32, 121, 32, x2, 32, 48 + E, 59, 32, 116, 97, 98, 108, 101, 32, 116, 32, 111, 102, 32, 102, 58, 32, 48, 44, 32, 48, 58, 32, 97, 110, 121, 59]
set_option maxHeartbeats 1000000 in
set_option maxRecDepth 20000 in
theorem lx_1a {A B C E c1 x1 x2 op s1 s2 : Int} (hA : 1 ≤ A ∧ A ≤ 4) (hB : 1 ≤ B ∧ B ≤ 3) (hC : 0 ≤ C ∧ C ≤ 9) (hE : 0 ≤ E ∧ E ≤ 9) (hop : xsg c1 32 op 0) (h1 : xsg x1 32 s1 0) (h2 : xsg x2 32 s2 0) (o0 : op = 22 ∨ op = 23 ∨ op = 24 ∨ op = 25 ∨ op = 26 ∨ op = 27) (o1 : s1 = 28 ∨ s1 = 29 ∨ s1 = 30 ∨ s1 = 31 ∨ s1 = 32) (o2 : s2 = 28 ∨ s2 = 29 ∨ s2 = 30 ∨ s2 = 31 ∨ s2 = 32) : lw_T (t_K (xb (xt_1a A B C E c1 x1 x2))) (t_V (xb (xt_1a A B C E c1 x1 x2))) A B op s1 s2 14 := by
  have b0 : xb (xt_1a A B C E c1 x1 x2) 0 = 102 := xb_at 0 (by show 0 < 91; decide)
  have b1 : xb (xt_1a A B C E c1 x1 x2) 1 = 117 := xb_at 1 (by show 1 < 91; decide)
  have b2 : xb (xt_1a A B C E c1 x1 x2) 2 = 110 := xb_at 2 (by show 2 < 91; decide)
  have b3 : xb (xt_1a A B C E c1 x1 x2) 3 = 32 := xb_at 3 (by show 3 < 91; decide)
  have b4 : xb (xt_1a A B C E c1 x1 x2) 4 = 102 := xb_at 4 (by show 4 < 91; decide)
  have b5 : xb (xt_1a A B C E c1 x1 x2) 5 = 32 := xb_at 5 (by show 5 < 91; decide)
  have b6 : xb (xt_1a A B C E c1 x1 x2) 6 = 40 := xb_at 6 (by show 6 < 91; decide)
  have b7 : xb (xt_1a A B C E c1 x1 x2) 7 = 120 := xb_at 7 (by show 7 < 91; decide)
  have b8 : xb (xt_1a A B C E c1 x1 x2) 8 = 32 := xb_at 8 (by show 8 < 91; decide)
  have b9 : xb (xt_1a A B C E c1 x1 x2) 9 = 105 := xb_at 9 (by show 9 < 91; decide)
  have b10 : xb (xt_1a A B C E c1 x1 x2) 10 = 110 := xb_at 10 (by show 10 < 91; decide)
  have b11 : xb (xt_1a A B C E c1 x1 x2) 11 = 32 := xb_at 11 (by show 11 < 91; decide)
  have b12 : xb (xt_1a A B C E c1 x1 x2) 12 = 48 := xb_at 12 (by show 12 < 91; decide)
  have b13 : xb (xt_1a A B C E c1 x1 x2) 13 = 32 := xb_at 13 (by show 13 < 91; decide)
  have b14 : xb (xt_1a A B C E c1 x1 x2) 14 = 46 := xb_at 14 (by show 14 < 91; decide)
  have b15 : xb (xt_1a A B C E c1 x1 x2) 15 = 46 := xb_at 15 (by show 15 < 91; decide)
  have b16 : xb (xt_1a A B C E c1 x1 x2) 16 = 32 := xb_at 16 (by show 16 < 91; decide)
  have b17 : xb (xt_1a A B C E c1 x1 x2) 17 = 48 + A := xb_at 17 (by show 17 < 91; decide)
  have b18 : xb (xt_1a A B C E c1 x1 x2) 18 = 44 := xb_at 18 (by show 18 < 91; decide)
  have b19 : xb (xt_1a A B C E c1 x1 x2) 19 = 32 := xb_at 19 (by show 19 < 91; decide)
  have b20 : xb (xt_1a A B C E c1 x1 x2) 20 = 121 := xb_at 20 (by show 20 < 91; decide)
  have b21 : xb (xt_1a A B C E c1 x1 x2) 21 = 32 := xb_at 21 (by show 21 < 91; decide)
  have b22 : xb (xt_1a A B C E c1 x1 x2) 22 = 105 := xb_at 22 (by show 22 < 91; decide)
  have b23 : xb (xt_1a A B C E c1 x1 x2) 23 = 110 := xb_at 23 (by show 23 < 91; decide)
  have b24 : xb (xt_1a A B C E c1 x1 x2) 24 = 32 := xb_at 24 (by show 24 < 91; decide)
  have b25 : xb (xt_1a A B C E c1 x1 x2) 25 = 48 := xb_at 25 (by show 25 < 91; decide)
  have b26 : xb (xt_1a A B C E c1 x1 x2) 26 = 32 := xb_at 26 (by show 26 < 91; decide)
  have b27 : xb (xt_1a A B C E c1 x1 x2) 27 = 46 := xb_at 27 (by show 27 < 91; decide)
  have b28 : xb (xt_1a A B C E c1 x1 x2) 28 = 46 := xb_at 28 (by show 28 < 91; decide)
  have b29 : xb (xt_1a A B C E c1 x1 x2) 29 = 32 := xb_at 29 (by show 29 < 91; decide)
  have b30 : xb (xt_1a A B C E c1 x1 x2) 30 = 48 + B := xb_at 30 (by show 30 < 91; decide)
  have b31 : xb (xt_1a A B C E c1 x1 x2) 31 = 41 := xb_at 31 (by show 31 < 91; decide)
  have b32 : xb (xt_1a A B C E c1 x1 x2) 32 = 32 := xb_at 32 (by show 32 < 91; decide)
  have b33 : xb (xt_1a A B C E c1 x1 x2) 33 = 61 := xb_at 33 (by show 33 < 91; decide)
  have b34 : xb (xt_1a A B C E c1 x1 x2) 34 = 32 := xb_at 34 (by show 34 < 91; decide)
  have b35 : xb (xt_1a A B C E c1 x1 x2) 35 = 105 := xb_at 35 (by show 35 < 91; decide)
  have b36 : xb (xt_1a A B C E c1 x1 x2) 36 = 102 := xb_at 36 (by show 36 < 91; decide)
  have b37 : xb (xt_1a A B C E c1 x1 x2) 37 = 32 := xb_at 37 (by show 37 < 91; decide)
  have b38 : xb (xt_1a A B C E c1 x1 x2) 38 = 120 := xb_at 38 (by show 38 < 91; decide)
  have b39 : xb (xt_1a A B C E c1 x1 x2) 39 = 32 := xb_at 39 (by show 39 < 91; decide)
  have b40 : xb (xt_1a A B C E c1 x1 x2) 40 = c1 := xb_at 40 (by show 40 < 91; decide)
  have b41 : xb (xt_1a A B C E c1 x1 x2) 41 = 32 := xb_at 41 (by show 41 < 91; decide)
  have b42 : xb (xt_1a A B C E c1 x1 x2) 42 = 48 + C := xb_at 42 (by show 42 < 91; decide)
  have b43 : xb (xt_1a A B C E c1 x1 x2) 43 = 32 := xb_at 43 (by show 43 < 91; decide)
  have b44 : xb (xt_1a A B C E c1 x1 x2) 44 = 116 := xb_at 44 (by show 44 < 91; decide)
  have b45 : xb (xt_1a A B C E c1 x1 x2) 45 = 104 := xb_at 45 (by show 45 < 91; decide)
  have b46 : xb (xt_1a A B C E c1 x1 x2) 46 = 101 := xb_at 46 (by show 46 < 91; decide)
  have b47 : xb (xt_1a A B C E c1 x1 x2) 47 = 110 := xb_at 47 (by show 47 < 91; decide)
  have b48 : xb (xt_1a A B C E c1 x1 x2) 48 = 32 := xb_at 48 (by show 48 < 91; decide)
  have b49 : xb (xt_1a A B C E c1 x1 x2) 49 = 120 := xb_at 49 (by show 49 < 91; decide)
  have b50 : xb (xt_1a A B C E c1 x1 x2) 50 = 32 := xb_at 50 (by show 50 < 91; decide)
  have b51 : xb (xt_1a A B C E c1 x1 x2) 51 = x1 := xb_at 51 (by show 51 < 91; decide)
  have b52 : xb (xt_1a A B C E c1 x1 x2) 52 = 32 := xb_at 52 (by show 52 < 91; decide)
  have b53 : xb (xt_1a A B C E c1 x1 x2) 53 = 121 := xb_at 53 (by show 53 < 91; decide)
  have b54 : xb (xt_1a A B C E c1 x1 x2) 54 = 32 := xb_at 54 (by show 54 < 91; decide)
  have b55 : xb (xt_1a A B C E c1 x1 x2) 55 = 101 := xb_at 55 (by show 55 < 91; decide)
  have b56 : xb (xt_1a A B C E c1 x1 x2) 56 = 108 := xb_at 56 (by show 56 < 91; decide)
  have b57 : xb (xt_1a A B C E c1 x1 x2) 57 = 115 := xb_at 57 (by show 57 < 91; decide)
  have b58 : xb (xt_1a A B C E c1 x1 x2) 58 = 101 := xb_at 58 (by show 58 < 91; decide)
  have b59 : xb (xt_1a A B C E c1 x1 x2) 59 = 32 := xb_at 59 (by show 59 < 91; decide)
  have b60 : xb (xt_1a A B C E c1 x1 x2) 60 = 121 := xb_at 60 (by show 60 < 91; decide)
  have b61 : xb (xt_1a A B C E c1 x1 x2) 61 = 32 := xb_at 61 (by show 61 < 91; decide)
  have b62 : xb (xt_1a A B C E c1 x1 x2) 62 = x2 := xb_at 62 (by show 62 < 91; decide)
  have b63 : xb (xt_1a A B C E c1 x1 x2) 63 = 32 := xb_at 63 (by show 63 < 91; decide)
  have b64 : xb (xt_1a A B C E c1 x1 x2) 64 = 48 + E := xb_at 64 (by show 64 < 91; decide)
  have b65 : xb (xt_1a A B C E c1 x1 x2) 65 = 59 := xb_at 65 (by show 65 < 91; decide)
  have b66 : xb (xt_1a A B C E c1 x1 x2) 66 = 32 := xb_at 66 (by show 66 < 91; decide)
  have b67 : xb (xt_1a A B C E c1 x1 x2) 67 = 116 := xb_at 67 (by show 67 < 91; decide)
  have b68 : xb (xt_1a A B C E c1 x1 x2) 68 = 97 := xb_at 68 (by show 68 < 91; decide)
  have b69 : xb (xt_1a A B C E c1 x1 x2) 69 = 98 := xb_at 69 (by show 69 < 91; decide)
  have b70 : xb (xt_1a A B C E c1 x1 x2) 70 = 108 := xb_at 70 (by show 70 < 91; decide)
  have b71 : xb (xt_1a A B C E c1 x1 x2) 71 = 101 := xb_at 71 (by show 71 < 91; decide)
  have b72 : xb (xt_1a A B C E c1 x1 x2) 72 = 32 := xb_at 72 (by show 72 < 91; decide)
  have b73 : xb (xt_1a A B C E c1 x1 x2) 73 = 116 := xb_at 73 (by show 73 < 91; decide)
  have b74 : xb (xt_1a A B C E c1 x1 x2) 74 = 32 := xb_at 74 (by show 74 < 91; decide)
  have b75 : xb (xt_1a A B C E c1 x1 x2) 75 = 111 := xb_at 75 (by show 75 < 91; decide)
  have b76 : xb (xt_1a A B C E c1 x1 x2) 76 = 102 := xb_at 76 (by show 76 < 91; decide)
  have b77 : xb (xt_1a A B C E c1 x1 x2) 77 = 32 := xb_at 77 (by show 77 < 91; decide)
  have b78 : xb (xt_1a A B C E c1 x1 x2) 78 = 102 := xb_at 78 (by show 78 < 91; decide)
  have b79 : xb (xt_1a A B C E c1 x1 x2) 79 = 58 := xb_at 79 (by show 79 < 91; decide)
  have b80 : xb (xt_1a A B C E c1 x1 x2) 80 = 32 := xb_at 80 (by show 80 < 91; decide)
  have b81 : xb (xt_1a A B C E c1 x1 x2) 81 = 48 := xb_at 81 (by show 81 < 91; decide)
  have b82 : xb (xt_1a A B C E c1 x1 x2) 82 = 44 := xb_at 82 (by show 82 < 91; decide)
  have b83 : xb (xt_1a A B C E c1 x1 x2) 83 = 32 := xb_at 83 (by show 83 < 91; decide)
  have b84 : xb (xt_1a A B C E c1 x1 x2) 84 = 48 := xb_at 84 (by show 84 < 91; decide)
  have b85 : xb (xt_1a A B C E c1 x1 x2) 85 = 58 := xb_at 85 (by show 85 < 91; decide)
  have b86 : xb (xt_1a A B C E c1 x1 x2) 86 = 32 := xb_at 86 (by show 86 < 91; decide)
  have b87 : xb (xt_1a A B C E c1 x1 x2) 87 = 97 := xb_at 87 (by show 87 < 91; decide)
  have b88 : xb (xt_1a A B C E c1 x1 x2) 88 = 110 := xb_at 88 (by show 88 < 91; decide)
  have b89 : xb (xt_1a A B C E c1 x1 x2) 89 = 121 := xb_at 89 (by show 89 < 91; decide)
  have b90 : xb (xt_1a A B C E c1 x1 x2) 90 = 59 := xb_at 90 (by show 90 < 91; decide)
  have b91 : xb (xt_1a A B C E c1 x1 x2) 91 = -1 := xb_end 91 (by show 91 ≤ 91; decide)
  generalize xb (xt_1a A B C E c1 x1 x2) = X at *
  have n0 : t_nx X 0 = 0 := rfl
  have p0 := tk_P0 n0 (by rw [b0]; decide)
  obtain ⟨k0, v0, n1⟩ := tk_wd (n := 0) (ws := [102, 117, 110]) (k := 4) (v := 6714734) (e := 3) (m := 1497) p0 ⟨b0, b1, b2, trivial⟩ ⟨by decide, by decide, by decide, trivial⟩ (by decide) (by decide) (by decide) rfl (by rw [b3]; decide) (by decide +kernel) (by decide +kernel)
  have p1 := tk_P1 (q := 4) n1 b3 rfl (by rw [b4]; decide)
  obtain ⟨k1, v1, n2⟩ := tk_wd (n := 1) (ws := [102]) (k := 3) (v := 102) (e := 5) (m := 1499) p1 ⟨b4, trivial⟩ ⟨by decide, trivial⟩ (by decide) (by decide) (by decide) rfl (by rw [b5]; decide) (by decide +kernel) (by decide +kernel)
  have p2 := tk_P1 (q := 6) n2 b5 rfl (by rw [b6]; decide)
  obtain ⟨k2, n3⟩ := tk_sym (q := 7) (k := 16) (s := 0) (e := 7) p2 rfl (by rw [b6, b7]; unfold xsg; decide) rfl
  have p3 := tk_P0 n3 (by rw [b7]; decide)
  obtain ⟨k3, v3, n4⟩ := tk_wd (n := 3) (ws := [120]) (k := 3) (v := 120) (e := 8) (m := 1499) p3 ⟨b7, trivial⟩ ⟨by decide, trivial⟩ (by decide) (by decide) (by decide) rfl (by rw [b8]; decide) (by decide +kernel) (by decide +kernel)
  have p4 := tk_P1 (q := 9) n4 b8 rfl (by rw [b9]; decide)
  obtain ⟨k4, v4, n5⟩ := tk_wd (n := 4) (ws := [105, 110]) (k := 5) (v := 26990) (e := 11) (m := 1498) p4 ⟨b9, b10, trivial⟩ ⟨by decide, by decide, trivial⟩ (by decide) (by decide) (by decide) rfl (by rw [b11]; decide) (by decide +kernel) (by decide +kernel)
  have p5 := tk_P1 (q := 12) n5 b11 rfl (by rw [b12]; decide)
  obtain ⟨k5, v5, n6⟩ := tk_num (q := 13) p5 (by rw [b12]; decide) rfl (by rw [b13]; decide)
  rw [b12] at v5
  have p6 := tk_P1 (q := 14) n6 b13 rfl (by rw [b14]; decide)
  obtain ⟨k6, n7⟩ := tk_sym (q := 15) (k := 33) (s := 1) (e := 16) p6 rfl (by rw [b14, b15]; unfold xsg; decide) rfl
  have p7 := tk_P1 (q := 17) n7 b16 rfl (by rw [b17]; intro z; rcases z with z | z <;> omega)
  obtain ⟨k7, v7, n8⟩ := tk_num (q := 18) p7 (by rw [b17]; exact ⟨by omega, by omega⟩) rfl (by rw [b18]; decide)
  rw [b17] at v7
  have p8 := tk_P0 n8 (by rw [b18]; decide)
  obtain ⟨k8, n9⟩ := tk_sym (q := 19) (k := 18) (s := 0) (e := 19) p8 rfl (by rw [b18, b19]; unfold xsg; decide) rfl
  have p9 := tk_P1 (q := 20) n9 b19 rfl (by rw [b20]; decide)
  obtain ⟨k9, v9, n10⟩ := tk_wd (n := 9) (ws := [121]) (k := 3) (v := 121) (e := 21) (m := 1499) p9 ⟨b20, trivial⟩ ⟨by decide, trivial⟩ (by decide) (by decide) (by decide) rfl (by rw [b21]; decide) (by decide +kernel) (by decide +kernel)
  have p10 := tk_P1 (q := 22) n10 b21 rfl (by rw [b22]; decide)
  obtain ⟨k10, v10, n11⟩ := tk_wd (n := 10) (ws := [105, 110]) (k := 5) (v := 26990) (e := 24) (m := 1498) p10 ⟨b22, b23, trivial⟩ ⟨by decide, by decide, trivial⟩ (by decide) (by decide) (by decide) rfl (by rw [b24]; decide) (by decide +kernel) (by decide +kernel)
  have p11 := tk_P1 (q := 25) n11 b24 rfl (by rw [b25]; decide)
  obtain ⟨k11, v11, n12⟩ := tk_num (q := 26) p11 (by rw [b25]; decide) rfl (by rw [b26]; decide)
  rw [b25] at v11
  have p12 := tk_P1 (q := 27) n12 b26 rfl (by rw [b27]; decide)
  obtain ⟨k12, n13⟩ := tk_sym (q := 28) (k := 33) (s := 1) (e := 29) p12 rfl (by rw [b27, b28]; unfold xsg; decide) rfl
  have p13 := tk_P1 (q := 30) n13 b29 rfl (by rw [b30]; intro z; rcases z with z | z <;> omega)
  obtain ⟨k13, v13, n14⟩ := tk_num (q := 31) p13 (by rw [b30]; exact ⟨by omega, by omega⟩) rfl (by rw [b31]; decide)
  rw [b30] at v13
  have p14 := tk_P0 n14 (by rw [b31]; decide)
  obtain ⟨k14, n15⟩ := tk_sym (q := 32) (k := 17) (s := 0) (e := 32) p14 rfl (by rw [b31, b32]; unfold xsg; decide) rfl
  have p15 := tk_P1 (q := 33) n15 b32 rfl (by rw [b33]; decide)
  obtain ⟨k15, n16⟩ := tk_sym (q := 34) (k := 22) (s := 0) (e := 34) p15 rfl (by rw [b33, b34]; unfold xsg; decide) rfl
  have p16 := tk_P1 (q := 35) n16 b34 rfl (by rw [b35]; decide)
  obtain ⟨k16, v16, n17⟩ := tk_wd (n := 16) (ws := [105, 102]) (k := 6) (v := 26982) (e := 37) (m := 1498) p16 ⟨b35, b36, trivial⟩ ⟨by decide, by decide, trivial⟩ (by decide) (by decide) (by decide) rfl (by rw [b37]; decide) (by decide +kernel) (by decide +kernel)
  have p17 := tk_P1 (q := 38) n17 b37 rfl (by rw [b38]; decide)
  obtain ⟨k17, v17, n18⟩ := tk_wd (n := 17) (ws := [120]) (k := 3) (v := 120) (e := 39) (m := 1499) p17 ⟨b38, trivial⟩ ⟨by decide, trivial⟩ (by decide) (by decide) (by decide) rfl (by rw [b39]; decide) (by decide +kernel) (by decide +kernel)
  have p18 := tk_P1 (q := 40) n18 b39 rfl (by rw [b40]; exact hop.2.2.2.2.2)
  obtain ⟨k18, n19⟩ := tk_sym (q := 41) (k := op) (s := 0) (e := 41) p18 rfl (by rw [b40, b41]; exact hop) rfl
  have p19 := tk_P1 (q := 42) n19 b41 rfl (by rw [b42]; intro z; rcases z with z | z <;> omega)
  obtain ⟨k19, v19, n20⟩ := tk_num (q := 43) p19 (by rw [b42]; exact ⟨by omega, by omega⟩) rfl (by rw [b43]; decide)
  rw [b42] at v19
  have p20 := tk_P1 (q := 44) n20 b43 rfl (by rw [b44]; decide)
  obtain ⟨k20, v20, n21⟩ := tk_wd (n := 20) (ws := [116, 104, 101, 110]) (k := 7) (v := 1952998766) (e := 48) (m := 1496) p20 ⟨b44, b45, b46, b47, trivial⟩ ⟨by decide, by decide, by decide, by decide, trivial⟩ (by decide) (by decide) (by decide) rfl (by rw [b48]; decide) (by decide +kernel) (by decide +kernel)
  have p21 := tk_P1 (q := 49) n21 b48 rfl (by rw [b49]; decide)
  obtain ⟨k21, v21, n22⟩ := tk_wd (n := 21) (ws := [120]) (k := 3) (v := 120) (e := 50) (m := 1499) p21 ⟨b49, trivial⟩ ⟨by decide, trivial⟩ (by decide) (by decide) (by decide) rfl (by rw [b50]; decide) (by decide +kernel) (by decide +kernel)
  have p22 := tk_P1 (q := 51) n22 b50 rfl (by rw [b51]; exact h1.2.2.2.2.2)
  obtain ⟨k22, n23⟩ := tk_sym (q := 52) (k := s1) (s := 0) (e := 52) p22 rfl (by rw [b51, b52]; exact h1) rfl
  have p23 := tk_P1 (q := 53) n23 b52 rfl (by rw [b53]; decide)
  obtain ⟨k23, v23, n24⟩ := tk_wd (n := 23) (ws := [121]) (k := 3) (v := 121) (e := 54) (m := 1499) p23 ⟨b53, trivial⟩ ⟨by decide, trivial⟩ (by decide) (by decide) (by decide) rfl (by rw [b54]; decide) (by decide +kernel) (by decide +kernel)
  have p24 := tk_P1 (q := 55) n24 b54 rfl (by rw [b55]; decide)
  obtain ⟨k24, v24, n25⟩ := tk_wd (n := 24) (ws := [101, 108, 115, 101]) (k := 8) (v := 1701606245) (e := 59) (m := 1496) p24 ⟨b55, b56, b57, b58, trivial⟩ ⟨by decide, by decide, by decide, by decide, trivial⟩ (by decide) (by decide) (by decide) rfl (by rw [b59]; decide) (by decide +kernel) (by decide +kernel)
  have p25 := tk_P1 (q := 60) n25 b59 rfl (by rw [b60]; decide)
  obtain ⟨k25, v25, n26⟩ := tk_wd (n := 25) (ws := [121]) (k := 3) (v := 121) (e := 61) (m := 1499) p25 ⟨b60, trivial⟩ ⟨by decide, trivial⟩ (by decide) (by decide) (by decide) rfl (by rw [b61]; decide) (by decide +kernel) (by decide +kernel)
  have p26 := tk_P1 (q := 62) n26 b61 rfl (by rw [b62]; exact h2.2.2.2.2.2)
  obtain ⟨k26, n27⟩ := tk_sym (q := 63) (k := s2) (s := 0) (e := 63) p26 rfl (by rw [b62, b63]; exact h2) rfl
  have p27 := tk_P1 (q := 64) n27 b63 rfl (by rw [b64]; intro z; rcases z with z | z <;> omega)
  obtain ⟨k27, v27, n28⟩ := tk_num (q := 65) p27 (by rw [b64]; exact ⟨by omega, by omega⟩) rfl (by rw [b65]; decide)
  rw [b64] at v27
  have p28 := tk_P0 n28 (by rw [b65]; decide)
  obtain ⟨k28, n29⟩ := tk_sym (q := 66) (k := 19) (s := 0) (e := 66) p28 rfl (by rw [b65, b66]; unfold xsg; decide) rfl
  have p29 := tk_P1 (q := 67) n29 b66 rfl (by rw [b67]; decide)
  obtain ⟨k29, v29, n30⟩ := tk_wd (n := 29) (ws := [116, 97, 98, 108, 101]) (k := 12) (v := 499850046565) (e := 72) (m := 1495) p29 ⟨b67, b68, b69, b70, b71, trivial⟩ ⟨by decide, by decide, by decide, by decide, by decide, trivial⟩ (by decide) (by decide) (by decide) rfl (by rw [b72]; decide) (by decide +kernel) (by decide +kernel)
  have p30 := tk_P1 (q := 73) n30 b72 rfl (by rw [b73]; decide)
  obtain ⟨k30, v30, n31⟩ := tk_wd (n := 30) (ws := [116]) (k := 3) (v := 116) (e := 74) (m := 1499) p30 ⟨b73, trivial⟩ ⟨by decide, trivial⟩ (by decide) (by decide) (by decide) rfl (by rw [b74]; decide) (by decide +kernel) (by decide +kernel)
  have p31 := tk_P1 (q := 75) n31 b74 rfl (by rw [b75]; decide)
  obtain ⟨k31, v31, n32⟩ := tk_wd (n := 31) (ws := [111, 102]) (k := 13) (v := 28518) (e := 77) (m := 1498) p31 ⟨b75, b76, trivial⟩ ⟨by decide, by decide, trivial⟩ (by decide) (by decide) (by decide) rfl (by rw [b77]; decide) (by decide +kernel) (by decide +kernel)
  have p32 := tk_P1 (q := 78) n32 b77 rfl (by rw [b78]; decide)
  obtain ⟨k32, v32, n33⟩ := tk_wd (n := 32) (ws := [102]) (k := 3) (v := 102) (e := 79) (m := 1499) p32 ⟨b78, trivial⟩ ⟨by decide, trivial⟩ (by decide) (by decide) (by decide) rfl (by rw [b79]; decide) (by decide +kernel) (by decide +kernel)
  have p33 := tk_P0 n33 (by rw [b79]; decide)
  obtain ⟨k33, n34⟩ := tk_sym (q := 80) (k := 20) (s := 0) (e := 80) p33 rfl (by rw [b79, b80]; unfold xsg; decide) rfl
  have p34 := tk_P1 (q := 81) n34 b80 rfl (by rw [b81]; decide)
  obtain ⟨k34, v34, n35⟩ := tk_num (q := 82) p34 (by rw [b81]; decide) rfl (by rw [b82]; decide)
  rw [b81] at v34
  have p35 := tk_P0 n35 (by rw [b82]; decide)
  obtain ⟨k35, n36⟩ := tk_sym (q := 83) (k := 18) (s := 0) (e := 83) p35 rfl (by rw [b82, b83]; unfold xsg; decide) rfl
  have p36 := tk_P1 (q := 84) n36 b83 rfl (by rw [b84]; decide)
  obtain ⟨k36, v36, n37⟩ := tk_num (q := 85) p36 (by rw [b84]; decide) rfl (by rw [b85]; decide)
  rw [b84] at v36
  have p37 := tk_P0 n37 (by rw [b85]; decide)
  obtain ⟨k37, n38⟩ := tk_sym (q := 86) (k := 20) (s := 0) (e := 86) p37 rfl (by rw [b85, b86]; unfold xsg; decide) rfl
  have p38 := tk_P1 (q := 87) n38 b86 rfl (by rw [b87]; decide)
  obtain ⟨k38, v38, n39⟩ := tk_wd (n := 38) (ws := [97, 110, 121]) (k := 14) (v := 6385273) (e := 90) (m := 1497) p38 ⟨b87, b88, b89, trivial⟩ ⟨by decide, by decide, by decide, trivial⟩ (by decide) (by decide) (by decide) rfl (by rw [b90]; decide) (by decide +kernel) (by decide +kernel)
  have p39 := tk_P0 n39 (by rw [b90]; decide)
  obtain ⟨k39, n40⟩ := tk_sym (q := 91) (k := 19) (s := 0) (e := 91) p39 rfl (by rw [b90, b91]; unfold xsg; decide) rfl
  have p40 := tk_P0 n40 (by rw [b91]; decide)
  have k40 : t_K X 40 = 0 := by show t_k X (t_P X 40) = 0; rw [p40]; exact (t_k_0 X _).mpr (by rw [b91]; decide)
  refine ⟨fun j hj => ?_, ⟨v1, v3, v9, v17, v21, v23, v25, v30, v32⟩, ⟨v5, v7.trans (by omega), v11, v13.trans (by omega), v34, v36⟩, hA, hB, o0, o1, o2, by decide⟩
  exact match j, hj with
    | 0, _ => k0
    | 1, _ => k1
    | 2, _ => k2
    | 3, _ => k3
    | 4, _ => k4
    | 5, _ => k5
    | 6, _ => k6
    | 7, _ => k7
    | 8, _ => k8
    | 9, _ => k9
    | 10, _ => k10
    | 11, _ => k11
    | 12, _ => k12
    | 13, _ => k13
    | 14, _ => k14
    | 15, _ => k15
    | 16, _ => k16
    | 17, _ => k17
    | 18, _ => k18
    | 19, _ => k19
    | 20, _ => k20
    | 21, _ => k21
    | 22, _ => k22
    | 23, _ => k23
    | 24, _ => k24
    | 25, _ => k25
    | 26, _ => k26
    | 27, _ => k27
    | 28, _ => k28
    | 29, _ => k29
    | 30, _ => k30
    | 31, _ => k31
    | 32, _ => k32
    | 33, _ => k33
    | 34, _ => k34
    | 35, _ => k35
    | 36, _ => k36
    | 37, _ => k37
    | 38, _ => k38
    | 39, _ => k39
    | 40, _ => k40
    | n + 41, hj => absurd hj (by omega)
/-- the text -/
def xt_1e (A B C E c1 x1 x2 : Int) : List Int := [102, 117, 110, 32, 102, 32, 40, 120, 32, 105, 110, 32, 48, 32, 46, 46, 32, 48 + A, 44, 32, 121, 32, 105, 110, 32, 48, 32, 46, 46, 32, 48 + B, 41, 32, 61, 32, 105, 102, 32, 120, 32, c1, 32, 48 + C, 32, 116, 104, 101, 110, 32, 120, 32, x1, 32, 121, 32, 101, 108, 115, 101, 32, 121, 32, x2, 32, 48 + E, 59, 32, 116, 97, 98, 108, 101, 32, 116, 32, 111, 102, 32, 102, 58, 32, 48, 44, 32, 48, 58, 32, 101, 114, 114, 111, 114, 59]
set_option maxHeartbeats 1000000 in
set_option maxRecDepth 20000 in
theorem lx_1e {A B C E c1 x1 x2 op s1 s2 : Int} (hA : 1 ≤ A ∧ A ≤ 4) (hB : 1 ≤ B ∧ B ≤ 3) (hC : 0 ≤ C ∧ C ≤ 9) (hE : 0 ≤ E ∧ E ≤ 9) (hop : xsg c1 32 op 0) (h1 : xsg x1 32 s1 0) (h2 : xsg x2 32 s2 0) (o0 : op = 22 ∨ op = 23 ∨ op = 24 ∨ op = 25 ∨ op = 26 ∨ op = 27) (o1 : s1 = 28 ∨ s1 = 29 ∨ s1 = 30 ∨ s1 = 31 ∨ s1 = 32) (o2 : s2 = 28 ∨ s2 = 29 ∨ s2 = 30 ∨ s2 = 31 ∨ s2 = 32) : lw_T (t_K (xb (xt_1e A B C E c1 x1 x2))) (t_V (xb (xt_1e A B C E c1 x1 x2))) A B op s1 s2 15 := by
  have b0 : xb (xt_1e A B C E c1 x1 x2) 0 = 102 := xb_at 0 (by show 0 < 93; decide)
  have b1 : xb (xt_1e A B C E c1 x1 x2) 1 = 117 := xb_at 1 (by show 1 < 93; decide)
  have b2 : xb (xt_1e A B C E c1 x1 x2) 2 = 110 := xb_at 2 (by show 2 < 93; decide)
  have b3 : xb (xt_1e A B C E c1 x1 x2) 3 = 32 := xb_at 3 (by show 3 < 93; decide)
  have b4 : xb (xt_1e A B C E c1 x1 x2) 4 = 102 := xb_at 4 (by show 4 < 93; decide)
  have b5 : xb (xt_1e A B C E c1 x1 x2) 5 = 32 := xb_at 5 (by show 5 < 93; decide)
  have b6 : xb (xt_1e A B C E c1 x1 x2) 6 = 40 := xb_at 6 (by show 6 < 93; decide)
  have b7 : xb (xt_1e A B C E c1 x1 x2) 7 = 120 := xb_at 7 (by show 7 < 93; decide)
  have b8 : xb (xt_1e A B C E c1 x1 x2) 8 = 32 := xb_at 8 (by show 8 < 93; decide)
  have b9 : xb (xt_1e A B C E c1 x1 x2) 9 = 105 := xb_at 9 (by show 9 < 93; decide)
  have b10 : xb (xt_1e A B C E c1 x1 x2) 10 = 110 := xb_at 10 (by show 10 < 93; decide)
  have b11 : xb (xt_1e A B C E c1 x1 x2) 11 = 32 := xb_at 11 (by show 11 < 93; decide)
  have b12 : xb (xt_1e A B C E c1 x1 x2) 12 = 48 := xb_at 12 (by show 12 < 93; decide)
  have b13 : xb (xt_1e A B C E c1 x1 x2) 13 = 32 := xb_at 13 (by show 13 < 93; decide)
  have b14 : xb (xt_1e A B C E c1 x1 x2) 14 = 46 := xb_at 14 (by show 14 < 93; decide)
  have b15 : xb (xt_1e A B C E c1 x1 x2) 15 = 46 := xb_at 15 (by show 15 < 93; decide)
  have b16 : xb (xt_1e A B C E c1 x1 x2) 16 = 32 := xb_at 16 (by show 16 < 93; decide)
  have b17 : xb (xt_1e A B C E c1 x1 x2) 17 = 48 + A := xb_at 17 (by show 17 < 93; decide)
  have b18 : xb (xt_1e A B C E c1 x1 x2) 18 = 44 := xb_at 18 (by show 18 < 93; decide)
  have b19 : xb (xt_1e A B C E c1 x1 x2) 19 = 32 := xb_at 19 (by show 19 < 93; decide)
  have b20 : xb (xt_1e A B C E c1 x1 x2) 20 = 121 := xb_at 20 (by show 20 < 93; decide)
  have b21 : xb (xt_1e A B C E c1 x1 x2) 21 = 32 := xb_at 21 (by show 21 < 93; decide)
  have b22 : xb (xt_1e A B C E c1 x1 x2) 22 = 105 := xb_at 22 (by show 22 < 93; decide)
  have b23 : xb (xt_1e A B C E c1 x1 x2) 23 = 110 := xb_at 23 (by show 23 < 93; decide)
  have b24 : xb (xt_1e A B C E c1 x1 x2) 24 = 32 := xb_at 24 (by show 24 < 93; decide)
  have b25 : xb (xt_1e A B C E c1 x1 x2) 25 = 48 := xb_at 25 (by show 25 < 93; decide)
  have b26 : xb (xt_1e A B C E c1 x1 x2) 26 = 32 := xb_at 26 (by show 26 < 93; decide)
  have b27 : xb (xt_1e A B C E c1 x1 x2) 27 = 46 := xb_at 27 (by show 27 < 93; decide)
  have b28 : xb (xt_1e A B C E c1 x1 x2) 28 = 46 := xb_at 28 (by show 28 < 93; decide)
  have b29 : xb (xt_1e A B C E c1 x1 x2) 29 = 32 := xb_at 29 (by show 29 < 93; decide)
  have b30 : xb (xt_1e A B C E c1 x1 x2) 30 = 48 + B := xb_at 30 (by show 30 < 93; decide)
  have b31 : xb (xt_1e A B C E c1 x1 x2) 31 = 41 := xb_at 31 (by show 31 < 93; decide)
  have b32 : xb (xt_1e A B C E c1 x1 x2) 32 = 32 := xb_at 32 (by show 32 < 93; decide)
  have b33 : xb (xt_1e A B C E c1 x1 x2) 33 = 61 := xb_at 33 (by show 33 < 93; decide)
  have b34 : xb (xt_1e A B C E c1 x1 x2) 34 = 32 := xb_at 34 (by show 34 < 93; decide)
  have b35 : xb (xt_1e A B C E c1 x1 x2) 35 = 105 := xb_at 35 (by show 35 < 93; decide)
  have b36 : xb (xt_1e A B C E c1 x1 x2) 36 = 102 := xb_at 36 (by show 36 < 93; decide)
  have b37 : xb (xt_1e A B C E c1 x1 x2) 37 = 32 := xb_at 37 (by show 37 < 93; decide)
  have b38 : xb (xt_1e A B C E c1 x1 x2) 38 = 120 := xb_at 38 (by show 38 < 93; decide)
  have b39 : xb (xt_1e A B C E c1 x1 x2) 39 = 32 := xb_at 39 (by show 39 < 93; decide)
  have b40 : xb (xt_1e A B C E c1 x1 x2) 40 = c1 := xb_at 40 (by show 40 < 93; decide)
  have b41 : xb (xt_1e A B C E c1 x1 x2) 41 = 32 := xb_at 41 (by show 41 < 93; decide)
  have b42 : xb (xt_1e A B C E c1 x1 x2) 42 = 48 + C := xb_at 42 (by show 42 < 93; decide)
  have b43 : xb (xt_1e A B C E c1 x1 x2) 43 = 32 := xb_at 43 (by show 43 < 93; decide)
  have b44 : xb (xt_1e A B C E c1 x1 x2) 44 = 116 := xb_at 44 (by show 44 < 93; decide)
  have b45 : xb (xt_1e A B C E c1 x1 x2) 45 = 104 := xb_at 45 (by show 45 < 93; decide)
  have b46 : xb (xt_1e A B C E c1 x1 x2) 46 = 101 := xb_at 46 (by show 46 < 93; decide)
  have b47 : xb (xt_1e A B C E c1 x1 x2) 47 = 110 := xb_at 47 (by show 47 < 93; decide)
  have b48 : xb (xt_1e A B C E c1 x1 x2) 48 = 32 := xb_at 48 (by show 48 < 93; decide)
  have b49 : xb (xt_1e A B C E c1 x1 x2) 49 = 120 := xb_at 49 (by show 49 < 93; decide)
  have b50 : xb (xt_1e A B C E c1 x1 x2) 50 = 32 := xb_at 50 (by show 50 < 93; decide)
  have b51 : xb (xt_1e A B C E c1 x1 x2) 51 = x1 := xb_at 51 (by show 51 < 93; decide)
  have b52 : xb (xt_1e A B C E c1 x1 x2) 52 = 32 := xb_at 52 (by show 52 < 93; decide)
  have b53 : xb (xt_1e A B C E c1 x1 x2) 53 = 121 := xb_at 53 (by show 53 < 93; decide)
  have b54 : xb (xt_1e A B C E c1 x1 x2) 54 = 32 := xb_at 54 (by show 54 < 93; decide)
  have b55 : xb (xt_1e A B C E c1 x1 x2) 55 = 101 := xb_at 55 (by show 55 < 93; decide)
  have b56 : xb (xt_1e A B C E c1 x1 x2) 56 = 108 := xb_at 56 (by show 56 < 93; decide)
  have b57 : xb (xt_1e A B C E c1 x1 x2) 57 = 115 := xb_at 57 (by show 57 < 93; decide)
  have b58 : xb (xt_1e A B C E c1 x1 x2) 58 = 101 := xb_at 58 (by show 58 < 93; decide)
  have b59 : xb (xt_1e A B C E c1 x1 x2) 59 = 32 := xb_at 59 (by show 59 < 93; decide)
  have b60 : xb (xt_1e A B C E c1 x1 x2) 60 = 121 := xb_at 60 (by show 60 < 93; decide)
  have b61 : xb (xt_1e A B C E c1 x1 x2) 61 = 32 := xb_at 61 (by show 61 < 93; decide)
  have b62 : xb (xt_1e A B C E c1 x1 x2) 62 = x2 := xb_at 62 (by show 62 < 93; decide)
  have b63 : xb (xt_1e A B C E c1 x1 x2) 63 = 32 := xb_at 63 (by show 63 < 93; decide)
  have b64 : xb (xt_1e A B C E c1 x1 x2) 64 = 48 + E := xb_at 64 (by show 64 < 93; decide)
  have b65 : xb (xt_1e A B C E c1 x1 x2) 65 = 59 := xb_at 65 (by show 65 < 93; decide)
  have b66 : xb (xt_1e A B C E c1 x1 x2) 66 = 32 := xb_at 66 (by show 66 < 93; decide)
  have b67 : xb (xt_1e A B C E c1 x1 x2) 67 = 116 := xb_at 67 (by show 67 < 93; decide)
  have b68 : xb (xt_1e A B C E c1 x1 x2) 68 = 97 := xb_at 68 (by show 68 < 93; decide)
  have b69 : xb (xt_1e A B C E c1 x1 x2) 69 = 98 := xb_at 69 (by show 69 < 93; decide)
  have b70 : xb (xt_1e A B C E c1 x1 x2) 70 = 108 := xb_at 70 (by show 70 < 93; decide)
  have b71 : xb (xt_1e A B C E c1 x1 x2) 71 = 101 := xb_at 71 (by show 71 < 93; decide)
  have b72 : xb (xt_1e A B C E c1 x1 x2) 72 = 32 := xb_at 72 (by show 72 < 93; decide)
  have b73 : xb (xt_1e A B C E c1 x1 x2) 73 = 116 := xb_at 73 (by show 73 < 93; decide)
  have b74 : xb (xt_1e A B C E c1 x1 x2) 74 = 32 := xb_at 74 (by show 74 < 93; decide)
  have b75 : xb (xt_1e A B C E c1 x1 x2) 75 = 111 := xb_at 75 (by show 75 < 93; decide)
  have b76 : xb (xt_1e A B C E c1 x1 x2) 76 = 102 := xb_at 76 (by show 76 < 93; decide)
  have b77 : xb (xt_1e A B C E c1 x1 x2) 77 = 32 := xb_at 77 (by show 77 < 93; decide)
  have b78 : xb (xt_1e A B C E c1 x1 x2) 78 = 102 := xb_at 78 (by show 78 < 93; decide)
  have b79 : xb (xt_1e A B C E c1 x1 x2) 79 = 58 := xb_at 79 (by show 79 < 93; decide)
  have b80 : xb (xt_1e A B C E c1 x1 x2) 80 = 32 := xb_at 80 (by show 80 < 93; decide)
  have b81 : xb (xt_1e A B C E c1 x1 x2) 81 = 48 := xb_at 81 (by show 81 < 93; decide)
  have b82 : xb (xt_1e A B C E c1 x1 x2) 82 = 44 := xb_at 82 (by show 82 < 93; decide)
  have b83 : xb (xt_1e A B C E c1 x1 x2) 83 = 32 := xb_at 83 (by show 83 < 93; decide)
  have b84 : xb (xt_1e A B C E c1 x1 x2) 84 = 48 := xb_at 84 (by show 84 < 93; decide)
  have b85 : xb (xt_1e A B C E c1 x1 x2) 85 = 58 := xb_at 85 (by show 85 < 93; decide)
  have b86 : xb (xt_1e A B C E c1 x1 x2) 86 = 32 := xb_at 86 (by show 86 < 93; decide)
  have b87 : xb (xt_1e A B C E c1 x1 x2) 87 = 101 := xb_at 87 (by show 87 < 93; decide)
  have b88 : xb (xt_1e A B C E c1 x1 x2) 88 = 114 := xb_at 88 (by show 88 < 93; decide)
  have b89 : xb (xt_1e A B C E c1 x1 x2) 89 = 114 := xb_at 89 (by show 89 < 93; decide)
  have b90 : xb (xt_1e A B C E c1 x1 x2) 90 = 111 := xb_at 90 (by show 90 < 93; decide)
  have b91 : xb (xt_1e A B C E c1 x1 x2) 91 = 114 := xb_at 91 (by show 91 < 93; decide)
  have b92 : xb (xt_1e A B C E c1 x1 x2) 92 = 59 := xb_at 92 (by show 92 < 93; decide)
  have b93 : xb (xt_1e A B C E c1 x1 x2) 93 = -1 := xb_end 93 (by show 93 ≤ 93; decide)
  generalize xb (xt_1e A B C E c1 x1 x2) = X at *
  have n0 : t_nx X 0 = 0 := rfl
  have p0 := tk_P0 n0 (by rw [b0]; decide)
  obtain ⟨k0, v0, n1⟩ := tk_wd (n := 0) (ws := [102, 117, 110]) (k := 4) (v := 6714734) (e := 3) (m := 1497) p0 ⟨b0, b1, b2, trivial⟩ ⟨by decide, by decide, by decide, trivial⟩ (by decide) (by decide) (by decide) rfl (by rw [b3]; decide) (by decide +kernel) (by decide +kernel)
  have p1 := tk_P1 (q := 4) n1 b3 rfl (by rw [b4]; decide)
  obtain ⟨k1, v1, n2⟩ := tk_wd (n := 1) (ws := [102]) (k := 3) (v := 102) (e := 5) (m := 1499) p1 ⟨b4, trivial⟩ ⟨by decide, trivial⟩ (by decide) (by decide) (by decide) rfl (by rw [b5]; decide) (by decide +kernel) (by decide +kernel)
  have p2 := tk_P1 (q := 6) n2 b5 rfl (by rw [b6]; decide)
  obtain ⟨k2, n3⟩ := tk_sym (q := 7) (k := 16) (s := 0) (e := 7) p2 rfl (by rw [b6, b7]; unfold xsg; decide) rfl
  have p3 := tk_P0 n3 (by rw [b7]; decide)
  obtain ⟨k3, v3, n4⟩ := tk_wd (n := 3) (ws := [120]) (k := 3) (v := 120) (e := 8) (m := 1499) p3 ⟨b7, trivial⟩ ⟨by decide, trivial⟩ (by decide) (by decide) (by decide) rfl (by rw [b8]; decide) (by decide +kernel) (by decide +kernel)
  have p4 := tk_P1 (q := 9) n4 b8 rfl (by rw [b9]; decide)
  obtain ⟨k4, v4, n5⟩ := tk_wd (n := 4) (ws := [105, 110]) (k := 5) (v := 26990) (e := 11) (m := 1498) p4 ⟨b9, b10, trivial⟩ ⟨by decide, by decide, trivial⟩ (by decide) (by decide) (by decide) rfl (by rw [b11]; decide) (by decide +kernel) (by decide +kernel)
  have p5 := tk_P1 (q := 12) n5 b11 rfl (by rw [b12]; decide)
  obtain ⟨k5, v5, n6⟩ := tk_num (q := 13) p5 (by rw [b12]; decide) rfl (by rw [b13]; decide)
  rw [b12] at v5
  have p6 := tk_P1 (q := 14) n6 b13 rfl (by rw [b14]; decide)
  obtain ⟨k6, n7⟩ := tk_sym (q := 15) (k := 33) (s := 1) (e := 16) p6 rfl (by rw [b14, b15]; unfold xsg; decide) rfl
  have p7 := tk_P1 (q := 17) n7 b16 rfl (by rw [b17]; intro z; rcases z with z | z <;> omega)
  obtain ⟨k7, v7, n8⟩ := tk_num (q := 18) p7 (by rw [b17]; exact ⟨by omega, by omega⟩) rfl (by rw [b18]; decide)
  rw [b17] at v7
  have p8 := tk_P0 n8 (by rw [b18]; decide)
  obtain ⟨k8, n9⟩ := tk_sym (q := 19) (k := 18) (s := 0) (e := 19) p8 rfl (by rw [b18, b19]; unfold xsg; decide) rfl
  have p9 := tk_P1 (q := 20) n9 b19 rfl (by rw [b20]; decide)
  obtain ⟨k9, v9, n10⟩ := tk_wd (n := 9) (ws := [121]) (k := 3) (v := 121) (e := 21) (m := 1499) p9 ⟨b20, trivial⟩ ⟨by decide, trivial⟩ (by decide) (by decide) (by decide) rfl (by rw [b21]; decide) (by decide +kernel) (by decide +kernel)
  have p10 := tk_P1 (q := 22) n10 b21 rfl (by rw [b22]; decide)
  obtain ⟨k10, v10, n11⟩ := tk_wd (n := 10) (ws := [105, 110]) (k := 5) (v := 26990) (e := 24) (m := 1498) p10 ⟨b22, b23, trivial⟩ ⟨by decide, by decide, trivial⟩ (by decide) (by decide) (by decide) rfl (by rw [b24]; decide) (by decide +kernel) (by decide +kernel)
  have p11 := tk_P1 (q := 25) n11 b24 rfl (by rw [b25]; decide)
  obtain ⟨k11, v11, n12⟩ := tk_num (q := 26) p11 (by rw [b25]; decide) rfl (by rw [b26]; decide)
  rw [b25] at v11
  have p12 := tk_P1 (q := 27) n12 b26 rfl (by rw [b27]; decide)
  obtain ⟨k12, n13⟩ := tk_sym (q := 28) (k := 33) (s := 1) (e := 29) p12 rfl (by rw [b27, b28]; unfold xsg; decide) rfl
  have p13 := tk_P1 (q := 30) n13 b29 rfl (by rw [b30]; intro z; rcases z with z | z <;> omega)
  obtain ⟨k13, v13, n14⟩ := tk_num (q := 31) p13 (by rw [b30]; exact ⟨by omega, by omega⟩) rfl (by rw [b31]; decide)
  rw [b30] at v13
  have p14 := tk_P0 n14 (by rw [b31]; decide)
  obtain ⟨k14, n15⟩ := tk_sym (q := 32) (k := 17) (s := 0) (e := 32) p14 rfl (by rw [b31, b32]; unfold xsg; decide) rfl
  have p15 := tk_P1 (q := 33) n15 b32 rfl (by rw [b33]; decide)
  obtain ⟨k15, n16⟩ := tk_sym (q := 34) (k := 22) (s := 0) (e := 34) p15 rfl (by rw [b33, b34]; unfold xsg; decide) rfl
  have p16 := tk_P1 (q := 35) n16 b34 rfl (by rw [b35]; decide)
  obtain ⟨k16, v16, n17⟩ := tk_wd (n := 16) (ws := [105, 102]) (k := 6) (v := 26982) (e := 37) (m := 1498) p16 ⟨b35, b36, trivial⟩ ⟨by decide, by decide, trivial⟩ (by decide) (by decide) (by decide) rfl (by rw [b37]; decide) (by decide +kernel) (by decide +kernel)
  have p17 := tk_P1 (q := 38) n17 b37 rfl (by rw [b38]; decide)
  obtain ⟨k17, v17, n18⟩ := tk_wd (n := 17) (ws := [120]) (k := 3) (v := 120) (e := 39) (m := 1499) p17 ⟨b38, trivial⟩ ⟨by decide, trivial⟩ (by decide) (by decide) (by decide) rfl (by rw [b39]; decide) (by decide +kernel) (by decide +kernel)
  have p18 := tk_P1 (q := 40) n18 b39 rfl (by rw [b40]; exact hop.2.2.2.2.2)
  obtain ⟨k18, n19⟩ := tk_sym (q := 41) (k := op) (s := 0) (e := 41) p18 rfl (by rw [b40, b41]; exact hop) rfl
  have p19 := tk_P1 (q := 42) n19 b41 rfl (by rw [b42]; intro z; rcases z with z | z <;> omega)
  obtain ⟨k19, v19, n20⟩ := tk_num (q := 43) p19 (by rw [b42]; exact ⟨by omega, by omega⟩) rfl (by rw [b43]; decide)
  rw [b42] at v19
  have p20 := tk_P1 (q := 44) n20 b43 rfl (by rw [b44]; decide)
  obtain ⟨k20, v20, n21⟩ := tk_wd (n := 20) (ws := [116, 104, 101, 110]) (k := 7) (v := 1952998766) (e := 48) (m := 1496) p20 ⟨b44, b45, b46, b47, trivial⟩ ⟨by decide, by decide, by decide, by decide, trivial⟩ (by decide) (by decide) (by decide) rfl (by rw [b48]; decide) (by decide +kernel) (by decide +kernel)
  have p21 := tk_P1 (q := 49) n21 b48 rfl (by rw [b49]; decide)
  obtain ⟨k21, v21, n22⟩ := tk_wd (n := 21) (ws := [120]) (k := 3) (v := 120) (e := 50) (m := 1499) p21 ⟨b49, trivial⟩ ⟨by decide, trivial⟩ (by decide) (by decide) (by decide) rfl (by rw [b50]; decide) (by decide +kernel) (by decide +kernel)
  have p22 := tk_P1 (q := 51) n22 b50 rfl (by rw [b51]; exact h1.2.2.2.2.2)
  obtain ⟨k22, n23⟩ := tk_sym (q := 52) (k := s1) (s := 0) (e := 52) p22 rfl (by rw [b51, b52]; exact h1) rfl
  have p23 := tk_P1 (q := 53) n23 b52 rfl (by rw [b53]; decide)
  obtain ⟨k23, v23, n24⟩ := tk_wd (n := 23) (ws := [121]) (k := 3) (v := 121) (e := 54) (m := 1499) p23 ⟨b53, trivial⟩ ⟨by decide, trivial⟩ (by decide) (by decide) (by decide) rfl (by rw [b54]; decide) (by decide +kernel) (by decide +kernel)
  have p24 := tk_P1 (q := 55) n24 b54 rfl (by rw [b55]; decide)
  obtain ⟨k24, v24, n25⟩ := tk_wd (n := 24) (ws := [101, 108, 115, 101]) (k := 8) (v := 1701606245) (e := 59) (m := 1496) p24 ⟨b55, b56, b57, b58, trivial⟩ ⟨by decide, by decide, by decide, by decide, trivial⟩ (by decide) (by decide) (by decide) rfl (by rw [b59]; decide) (by decide +kernel) (by decide +kernel)
  have p25 := tk_P1 (q := 60) n25 b59 rfl (by rw [b60]; decide)
  obtain ⟨k25, v25, n26⟩ := tk_wd (n := 25) (ws := [121]) (k := 3) (v := 121) (e := 61) (m := 1499) p25 ⟨b60, trivial⟩ ⟨by decide, trivial⟩ (by decide) (by decide) (by decide) rfl (by rw [b61]; decide) (by decide +kernel) (by decide +kernel)
  have p26 := tk_P1 (q := 62) n26 b61 rfl (by rw [b62]; exact h2.2.2.2.2.2)
  obtain ⟨k26, n27⟩ := tk_sym (q := 63) (k := s2) (s := 0) (e := 63) p26 rfl (by rw [b62, b63]; exact h2) rfl
  have p27 := tk_P1 (q := 64) n27 b63 rfl (by rw [b64]; intro z; rcases z with z | z <;> omega)
  obtain ⟨k27, v27, n28⟩ := tk_num (q := 65) p27 (by rw [b64]; exact ⟨by omega, by omega⟩) rfl (by rw [b65]; decide)
  rw [b64] at v27
  have p28 := tk_P0 n28 (by rw [b65]; decide)
  obtain ⟨k28, n29⟩ := tk_sym (q := 66) (k := 19) (s := 0) (e := 66) p28 rfl (by rw [b65, b66]; unfold xsg; decide) rfl
  have p29 := tk_P1 (q := 67) n29 b66 rfl (by rw [b67]; decide)
  obtain ⟨k29, v29, n30⟩ := tk_wd (n := 29) (ws := [116, 97, 98, 108, 101]) (k := 12) (v := 499850046565) (e := 72) (m := 1495) p29 ⟨b67, b68, b69, b70, b71, trivial⟩ ⟨by decide, by decide, by decide, by decide, by decide, trivial⟩ (by decide) (by decide) (by decide) rfl (by rw [b72]; decide) (by decide +kernel) (by decide +kernel)
  have p30 := tk_P1 (q := 73) n30 b72 rfl (by rw [b73]; decide)
  obtain ⟨k30, v30, n31⟩ := tk_wd (n := 30) (ws := [116]) (k := 3) (v := 116) (e := 74) (m := 1499) p30 ⟨b73, trivial⟩ ⟨by decide, trivial⟩ (by decide) (by decide) (by decide) rfl (by rw [b74]; decide) (by decide +kernel) (by decide +kernel)
  have p31 := tk_P1 (q := 75) n31 b74 rfl (by rw [b75]; decide)
  obtain ⟨k31, v31, n32⟩ := tk_wd (n := 31) (ws := [111, 102]) (k := 13) (v := 28518) (e := 77) (m := 1498) p31 ⟨b75, b76, trivial⟩ ⟨by decide, by decide, trivial⟩ (by decide) (by decide) (by decide) rfl (by rw [b77]; decide) (by decide +kernel) (by decide +kernel)
  have p32 := tk_P1 (q := 78) n32 b77 rfl (by rw [b78]; decide)
  obtain ⟨k32, v32, n33⟩ := tk_wd (n := 32) (ws := [102]) (k := 3) (v := 102) (e := 79) (m := 1499) p32 ⟨b78, trivial⟩ ⟨by decide, trivial⟩ (by decide) (by decide) (by decide) rfl (by rw [b79]; decide) (by decide +kernel) (by decide +kernel)
  have p33 := tk_P0 n33 (by rw [b79]; decide)
  obtain ⟨k33, n34⟩ := tk_sym (q := 80) (k := 20) (s := 0) (e := 80) p33 rfl (by rw [b79, b80]; unfold xsg; decide) rfl
  have p34 := tk_P1 (q := 81) n34 b80 rfl (by rw [b81]; decide)
  obtain ⟨k34, v34, n35⟩ := tk_num (q := 82) p34 (by rw [b81]; decide) rfl (by rw [b82]; decide)
  rw [b81] at v34
  have p35 := tk_P0 n35 (by rw [b82]; decide)
  obtain ⟨k35, n36⟩ := tk_sym (q := 83) (k := 18) (s := 0) (e := 83) p35 rfl (by rw [b82, b83]; unfold xsg; decide) rfl
  have p36 := tk_P1 (q := 84) n36 b83 rfl (by rw [b84]; decide)
  obtain ⟨k36, v36, n37⟩ := tk_num (q := 85) p36 (by rw [b84]; decide) rfl (by rw [b85]; decide)
  rw [b84] at v36
  have p37 := tk_P0 n37 (by rw [b85]; decide)
  obtain ⟨k37, n38⟩ := tk_sym (q := 86) (k := 20) (s := 0) (e := 86) p37 rfl (by rw [b85, b86]; unfold xsg; decide) rfl
  have p38 := tk_P1 (q := 87) n38 b86 rfl (by rw [b87]; decide)
  obtain ⟨k38, v38, n39⟩ := tk_wd (n := 38) (ws := [101, 114, 114, 111, 114]) (k := 15) (v := 435711799154) (e := 92) (m := 1495) p38 ⟨b87, b88, b89, b90, b91, trivial⟩ ⟨by decide, by decide, by decide, by decide, by decide, trivial⟩ (by decide) (by decide) (by decide) rfl (by rw [b92]; decide) (by decide +kernel) (by decide +kernel)
  have p39 := tk_P0 n39 (by rw [b92]; decide)
  obtain ⟨k39, n40⟩ := tk_sym (q := 93) (k := 19) (s := 0) (e := 93) p39 rfl (by rw [b92, b93]; unfold xsg; decide) rfl
  have p40 := tk_P0 n40 (by rw [b93]; decide)
  have k40 : t_K X 40 = 0 := by show t_k X (t_P X 40) = 0; rw [p40]; exact (t_k_0 X _).mpr (by rw [b93]; decide)
  refine ⟨fun j hj => ?_, ⟨v1, v3, v9, v17, v21, v23, v25, v30, v32⟩, ⟨v5, v7.trans (by omega), v11, v13.trans (by omega), v34, v36⟩, hA, hB, o0, o1, o2, by decide⟩
  exact match j, hj with
    | 0, _ => k0
    | 1, _ => k1
    | 2, _ => k2
    | 3, _ => k3
    | 4, _ => k4
    | 5, _ => k5
    | 6, _ => k6
    | 7, _ => k7
    | 8, _ => k8
    | 9, _ => k9
    | 10, _ => k10
    | 11, _ => k11
    | 12, _ => k12
    | 13, _ => k13
    | 14, _ => k14
    | 15, _ => k15
    | 16, _ => k16
    | 17, _ => k17
    | 18, _ => k18
    | 19, _ => k19
    | 20, _ => k20
    | 21, _ => k21
    | 22, _ => k22
    | 23, _ => k23
    | 24, _ => k24
    | 25, _ => k25
    | 26, _ => k26
    | 27, _ => k27
    | 28, _ => k28
    | 29, _ => k29
    | 30, _ => k30
    | 31, _ => k31
    | 32, _ => k32
    | 33, _ => k33
    | 34, _ => k34
    | 35, _ => k35
    | 36, _ => k36
    | 37, _ => k37
    | 38, _ => k38
    | 39, _ => k39
    | 40, _ => k40
    | n + 41, hj => absurd hj (by omega)
/-- the text -/
def xt_2a (A B C E c1 c2 x1 x2 : Int) : List Int := [102, 117, 110, 32, 102, 32, 40, 120, 32, 105, 110, 32, 48, 32, 46, 46, 32, 48 + A, 44, 32, 121, 32, 105, 110, 32, 48, 32, 46, 46, 32, 48 + B, 41, 32, 61, 32, 105, 102, 32, 120, 32, c1, c2, 32, 48 + C, 32, 116, 104, 101, 110, 32, 120, 32, x1, 32, 121, 32, 101, 108, 115, 101, 32, 121, 32, x2, 32, 48 + E, 59, 32, 116, 97, 98, 108, 101, 32, 116, 32, 111, 102, 32, 102, 58, 32, 48, 44, 32, 48, 58, 32, 97, 110, 121, 59]
set_option maxHeartbeats 1000000 in
set_option maxRecDepth 20000 in
theorem lx_2a {A B C E c1 c2 x1 x2 op s1 s2 : Int} (hA : 1 ≤ A ∧ A ≤ 4) (hB : 1 ≤ B ∧ B ≤ 3) (hC : 0 ≤ C ∧ C ≤ 9) (hE : 0 ≤ E ∧ E ≤ 9) (hop : xsg c1 c2 op 1) (h1 : xsg x1 32 s1 0) (h2 : xsg x2 32 s2 0) (o0 : op = 22 ∨ op = 23 ∨ op = 24 ∨ op = 25 ∨ op = 26 ∨ op = 27) (o1 : s1 = 28 ∨ s1 = 29 ∨ s1 = 30 ∨ s1 = 31 ∨ s1 = 32) (o2 : s2 = 28 ∨ s2 = 29 ∨ s2 = 30 ∨ s2 = 31 ∨ s2 = 32) : lw_T (t_K (xb (xt_2a A B C E c1 c2 x1 x2))) (t_V (xb (xt_2a A B C E c1 c2 x1 x2))) A B op s1 s2 14 := by
  have b0 : xb (xt_2a A B C E c1 c2 x1 x2) 0 = 102 := xb_at 0 (by show 0 < 92; decide)
  have b1 : xb (xt_2a A B C E c1 c2 x1 x2) 1 = 117 := xb_at 1 (by show 1 < 92; decide)
  have b2 : xb (xt_2a A B C E c1 c2 x1 x2) 2 = 110 := xb_at 2 (by show 2 < 92; decide)
  have b3 : xb (xt_2a A B C E c1 c2 x1 x2) 3 = 32 := xb_at 3 (by show 3 < 92; decide)
  have b4 : xb (xt_2a A B C E c1 c2 x1 x2) 4 = 102 := xb_at 4 (by show 4 < 92; decide)
  have b5 : xb (xt_2a A B C E c1 c2 x1 x2) 5 = 32 := xb_at 5 (by show 5 < 92; decide)
  have b6 : xb (xt_2a A B C E c1 c2 x1 x2) 6 = 40 := xb_at 6 (by show 6 < 92; decide)
  have b7 : xb (xt_2a A B C E c1 c2 x1 x2) 7 = 120 := xb_at 7 (by show 7 < 92; decide)
  have b8 : xb (xt_2a A B C E c1 c2 x1 x2) 8 = 32 := xb_at 8 (by show 8 < 92; decide)
  have b9 : xb (xt_2a A B C E c1 c2 x1 x2) 9 = 105 := xb_at 9 (by show 9 < 92; decide)
  have b10 : xb (xt_2a A B C E c1 c2 x1 x2) 10 = 110 := xb_at 10 (by show 10 < 92; decide)
  have b11 : xb (xt_2a A B C E c1 c2 x1 x2) 11 = 32 := xb_at 11 (by show 11 < 92; decide)
  have b12 : xb (xt_2a A B C E c1 c2 x1 x2) 12 = 48 := xb_at 12 (by show 12 < 92; decide)
  have b13 : xb (xt_2a A B C E c1 c2 x1 x2) 13 = 32 := xb_at 13 (by show 13 < 92; decide)
  have b14 : xb (xt_2a A B C E c1 c2 x1 x2) 14 = 46 := xb_at 14 (by show 14 < 92; decide)
  have b15 : xb (xt_2a A B C E c1 c2 x1 x2) 15 = 46 := xb_at 15 (by show 15 < 92; decide)
  have b16 : xb (xt_2a A B C E c1 c2 x1 x2) 16 = 32 := xb_at 16 (by show 16 < 92; decide)
  have b17 : xb (xt_2a A B C E c1 c2 x1 x2) 17 = 48 + A := xb_at 17 (by show 17 < 92; decide)
  have b18 : xb (xt_2a A B C E c1 c2 x1 x2) 18 = 44 := xb_at 18 (by show 18 < 92; decide)
  have b19 : xb (xt_2a A B C E c1 c2 x1 x2) 19 = 32 := xb_at 19 (by show 19 < 92; decide)
  have b20 : xb (xt_2a A B C E c1 c2 x1 x2) 20 = 121 := xb_at 20 (by show 20 < 92; decide)
  have b21 : xb (xt_2a A B C E c1 c2 x1 x2) 21 = 32 := xb_at 21 (by show 21 < 92; decide)
  have b22 : xb (xt_2a A B C E c1 c2 x1 x2) 22 = 105 := xb_at 22 (by show 22 < 92; decide)
  have b23 : xb (xt_2a A B C E c1 c2 x1 x2) 23 = 110 := xb_at 23 (by show 23 < 92; decide)
  have b24 : xb (xt_2a A B C E c1 c2 x1 x2) 24 = 32 := xb_at 24 (by show 24 < 92; decide)
  have b25 : xb (xt_2a A B C E c1 c2 x1 x2) 25 = 48 := xb_at 25 (by show 25 < 92; decide)
  have b26 : xb (xt_2a A B C E c1 c2 x1 x2) 26 = 32 := xb_at 26 (by show 26 < 92; decide)
  have b27 : xb (xt_2a A B C E c1 c2 x1 x2) 27 = 46 := xb_at 27 (by show 27 < 92; decide)
  have b28 : xb (xt_2a A B C E c1 c2 x1 x2) 28 = 46 := xb_at 28 (by show 28 < 92; decide)
  have b29 : xb (xt_2a A B C E c1 c2 x1 x2) 29 = 32 := xb_at 29 (by show 29 < 92; decide)
  have b30 : xb (xt_2a A B C E c1 c2 x1 x2) 30 = 48 + B := xb_at 30 (by show 30 < 92; decide)
  have b31 : xb (xt_2a A B C E c1 c2 x1 x2) 31 = 41 := xb_at 31 (by show 31 < 92; decide)
  have b32 : xb (xt_2a A B C E c1 c2 x1 x2) 32 = 32 := xb_at 32 (by show 32 < 92; decide)
  have b33 : xb (xt_2a A B C E c1 c2 x1 x2) 33 = 61 := xb_at 33 (by show 33 < 92; decide)
  have b34 : xb (xt_2a A B C E c1 c2 x1 x2) 34 = 32 := xb_at 34 (by show 34 < 92; decide)
  have b35 : xb (xt_2a A B C E c1 c2 x1 x2) 35 = 105 := xb_at 35 (by show 35 < 92; decide)
  have b36 : xb (xt_2a A B C E c1 c2 x1 x2) 36 = 102 := xb_at 36 (by show 36 < 92; decide)
  have b37 : xb (xt_2a A B C E c1 c2 x1 x2) 37 = 32 := xb_at 37 (by show 37 < 92; decide)
  have b38 : xb (xt_2a A B C E c1 c2 x1 x2) 38 = 120 := xb_at 38 (by show 38 < 92; decide)
  have b39 : xb (xt_2a A B C E c1 c2 x1 x2) 39 = 32 := xb_at 39 (by show 39 < 92; decide)
  have b40 : xb (xt_2a A B C E c1 c2 x1 x2) 40 = c1 := xb_at 40 (by show 40 < 92; decide)
  have b41 : xb (xt_2a A B C E c1 c2 x1 x2) 41 = c2 := xb_at 41 (by show 41 < 92; decide)
  have b42 : xb (xt_2a A B C E c1 c2 x1 x2) 42 = 32 := xb_at 42 (by show 42 < 92; decide)
  have b43 : xb (xt_2a A B C E c1 c2 x1 x2) 43 = 48 + C := xb_at 43 (by show 43 < 92; decide)
  have b44 : xb (xt_2a A B C E c1 c2 x1 x2) 44 = 32 := xb_at 44 (by show 44 < 92; decide)
  have b45 : xb (xt_2a A B C E c1 c2 x1 x2) 45 = 116 := xb_at 45 (by show 45 < 92; decide)
  have b46 : xb (xt_2a A B C E c1 c2 x1 x2) 46 = 104 := xb_at 46 (by show 46 < 92; decide)
  have b47 : xb (xt_2a A B C E c1 c2 x1 x2) 47 = 101 := xb_at 47 (by show 47 < 92; decide)
  have b48 : xb (xt_2a A B C E c1 c2 x1 x2) 48 = 110 := xb_at 48 (by show 48 < 92; decide)
  have b49 : xb (xt_2a A B C E c1 c2 x1 x2) 49 = 32 := xb_at 49 (by show 49 < 92; decide)
  have b50 : xb (xt_2a A B C E c1 c2 x1 x2) 50 = 120 := xb_at 50 (by show 50 < 92; decide)
  have b51 : xb (xt_2a A B C E c1 c2 x1 x2) 51 = 32 := xb_at 51 (by show 51 < 92; decide)
  have b52 : xb (xt_2a A B C E c1 c2 x1 x2) 52 = x1 := xb_at 52 (by show 52 < 92; decide)
  have b53 : xb (xt_2a A B C E c1 c2 x1 x2) 53 = 32 := xb_at 53 (by show 53 < 92; decide)
  have b54 : xb (xt_2a A B C E c1 c2 x1 x2) 54 = 121 := xb_at 54 (by show 54 < 92; decide)
  have b55 : xb (xt_2a A B C E c1 c2 x1 x2) 55 = 32 := xb_at 55 (by show 55 < 92; decide)
  have b56 : xb (xt_2a A B C E c1 c2 x1 x2) 56 = 101 := xb_at 56 (by show 56 < 92; decide)
  have b57 : xb (xt_2a A B C E c1 c2 x1 x2) 57 = 108 := xb_at 57 (by show 57 < 92; decide)
  have b58 : xb (xt_2a A B C E c1 c2 x1 x2) 58 = 115 := xb_at 58 (by show 58 < 92; decide)
  have b59 : xb (xt_2a A B C E c1 c2 x1 x2) 59 = 101 := xb_at 59 (by show 59 < 92; decide)
  have b60 : xb (xt_2a A B C E c1 c2 x1 x2) 60 = 32 := xb_at 60 (by show 60 < 92; decide)
  have b61 : xb (xt_2a A B C E c1 c2 x1 x2) 61 = 121 := xb_at 61 (by show 61 < 92; decide)
  have b62 : xb (xt_2a A B C E c1 c2 x1 x2) 62 = 32 := xb_at 62 (by show 62 < 92; decide)
  have b63 : xb (xt_2a A B C E c1 c2 x1 x2) 63 = x2 := xb_at 63 (by show 63 < 92; decide)
  have b64 : xb (xt_2a A B C E c1 c2 x1 x2) 64 = 32 := xb_at 64 (by show 64 < 92; decide)
  have b65 : xb (xt_2a A B C E c1 c2 x1 x2) 65 = 48 + E := xb_at 65 (by show 65 < 92; decide)
  have b66 : xb (xt_2a A B C E c1 c2 x1 x2) 66 = 59 := xb_at 66 (by show 66 < 92; decide)
  have b67 : xb (xt_2a A B C E c1 c2 x1 x2) 67 = 32 := xb_at 67 (by show 67 < 92; decide)
  have b68 : xb (xt_2a A B C E c1 c2 x1 x2) 68 = 116 := xb_at 68 (by show 68 < 92; decide)
  have b69 : xb (xt_2a A B C E c1 c2 x1 x2) 69 = 97 := xb_at 69 (by show 69 < 92; decide)
  have b70 : xb (xt_2a A B C E c1 c2 x1 x2) 70 = 98 := xb_at 70 (by show 70 < 92; decide)
  have b71 : xb (xt_2a A B C E c1 c2 x1 x2) 71 = 108 := xb_at 71 (by show 71 < 92; decide)
  have b72 : xb (xt_2a A B C E c1 c2 x1 x2) 72 = 101 := xb_at 72 (by show 72 < 92; decide)
  have b73 : xb (xt_2a A B C E c1 c2 x1 x2) 73 = 32 := xb_at 73 (by show 73 < 92; decide)
  have b74 : xb (xt_2a A B C E c1 c2 x1 x2) 74 = 116 := xb_at 74 (by show 74 < 92; decide)
  have b75 : xb (xt_2a A B C E c1 c2 x1 x2) 75 = 32 := xb_at 75 (by show 75 < 92; decide)
  have b76 : xb (xt_2a A B C E c1 c2 x1 x2) 76 = 111 := xb_at 76 (by show 76 < 92; decide)
  have b77 : xb (xt_2a A B C E c1 c2 x1 x2) 77 = 102 := xb_at 77 (by show 77 < 92; decide)
  have b78 : xb (xt_2a A B C E c1 c2 x1 x2) 78 = 32 := xb_at 78 (by show 78 < 92; decide)
  have b79 : xb (xt_2a A B C E c1 c2 x1 x2) 79 = 102 := xb_at 79 (by show 79 < 92; decide)
  have b80 : xb (xt_2a A B C E c1 c2 x1 x2) 80 = 58 := xb_at 80 (by show 80 < 92; decide)
  have b81 : xb (xt_2a A B C E c1 c2 x1 x2) 81 = 32 := xb_at 81 (by show 81 < 92; decide)
  have b82 : xb (xt_2a A B C E c1 c2 x1 x2) 82 = 48 := xb_at 82 (by show 82 < 92; decide)
  have b83 : xb (xt_2a A B C E c1 c2 x1 x2) 83 = 44 := xb_at 83 (by show 83 < 92; decide)
  have b84 : xb (xt_2a A B C E c1 c2 x1 x2) 84 = 32 := xb_at 84 (by show 84 < 92; decide)
  have b85 : xb (xt_2a A B C E c1 c2 x1 x2) 85 = 48 := xb_at 85 (by show 85 < 92; decide)
  have b86 : xb (xt_2a A B C E c1 c2 x1 x2) 86 = 58 := xb_at 86 (by show 86 < 92; decide)
  have b87 : xb (xt_2a A B C E c1 c2 x1 x2) 87 = 32 := xb_at 87 (by show 87 < 92; decide)
  have b88 : xb (xt_2a A B C E c1 c2 x1 x2) 88 = 97 := xb_at 88 (by show 88 < 92; decide)
  have b89 : xb (xt_2a A B C E c1 c2 x1 x2) 89 = 110 := xb_at 89 (by show 89 < 92; decide)
  have b90 : xb (xt_2a A B C E c1 c2 x1 x2) 90 = 121 := xb_at 90 (by show 90 < 92; decide)
  have b91 : xb (xt_2a A B C E c1 c2 x1 x2) 91 = 59 := xb_at 91 (by show 91 < 92; decide)
  have b92 : xb (xt_2a A B C E c1 c2 x1 x2) 92 = -1 := xb_end 92 (by show 92 ≤ 92; decide)
  generalize xb (xt_2a A B C E c1 c2 x1 x2) = X at *
  have n0 : t_nx X 0 = 0 := rfl
  have p0 := tk_P0 n0 (by rw [b0]; decide)
  obtain ⟨k0, v0, n1⟩ := tk_wd (n := 0) (ws := [102, 117, 110]) (k := 4) (v := 6714734) (e := 3) (m := 1497) p0 ⟨b0, b1, b2, trivial⟩ ⟨by decide, by decide, by decide, trivial⟩ (by decide) (by decide) (by decide) rfl (by rw [b3]; decide) (by decide +kernel) (by decide +kernel)
  have p1 := tk_P1 (q := 4) n1 b3 rfl (by rw [b4]; decide)
  obtain ⟨k1, v1, n2⟩ := tk_wd (n := 1) (ws := [102]) (k := 3) (v := 102) (e := 5) (m := 1499) p1 ⟨b4, trivial⟩ ⟨by decide, trivial⟩ (by decide) (by decide) (by decide) rfl (by rw [b5]; decide) (by decide +kernel) (by decide +kernel)
  have p2 := tk_P1 (q := 6) n2 b5 rfl (by rw [b6]; decide)
  obtain ⟨k2, n3⟩ := tk_sym (q := 7) (k := 16) (s := 0) (e := 7) p2 rfl (by rw [b6, b7]; unfold xsg; decide) rfl
  have p3 := tk_P0 n3 (by rw [b7]; decide)
  obtain ⟨k3, v3, n4⟩ := tk_wd (n := 3) (ws := [120]) (k := 3) (v := 120) (e := 8) (m := 1499) p3 ⟨b7, trivial⟩ ⟨by decide, trivial⟩ (by decide) (by decide) (by decide) rfl (by rw [b8]; decide) (by decide +kernel) (by decide +kernel)
  have p4 := tk_P1 (q := 9) n4 b8 rfl (by rw [b9]; decide)
  obtain ⟨k4, v4, n5⟩ := tk_wd (n := 4) (ws := [105, 110]) (k := 5) (v := 26990) (e := 11) (m := 1498) p4 ⟨b9, b10, trivial⟩ ⟨by decide, by decide, trivial⟩ (by decide) (by decide) (by decide) rfl (by rw [b11]; decide) (by decide +kernel) (by decide +kernel)
  have p5 := tk_P1 (q := 12) n5 b11 rfl (by rw [b12]; decide)
  obtain ⟨k5, v5, n6⟩ := tk_num (q := 13) p5 (by rw [b12]; decide) rfl (by rw [b13]; decide)
  rw [b12] at v5
  have p6 := tk_P1 (q := 14) n6 b13 rfl (by rw [b14]; decide)
  obtain ⟨k6, n7⟩ := tk_sym (q := 15) (k := 33) (s := 1) (e := 16) p6 rfl (by rw [b14, b15]; unfold xsg; decide) rfl
  have p7 := tk_P1 (q := 17) n7 b16 rfl (by rw [b17]; intro z; rcases z with z | z <;> omega)
  obtain ⟨k7, v7, n8⟩ := tk_num (q := 18) p7 (by rw [b17]; exact ⟨by omega, by omega⟩) rfl (by rw [b18]; decide)
  rw [b17] at v7
  have p8 := tk_P0 n8 (by rw [b18]; decide)
  obtain ⟨k8, n9⟩ := tk_sym (q := 19) (k := 18) (s := 0) (e := 19) p8 rfl (by rw [b18, b19]; unfold xsg; decide) rfl
  have p9 := tk_P1 (q := 20) n9 b19 rfl (by rw [b20]; decide)
  obtain ⟨k9, v9, n10⟩ := tk_wd (n := 9) (ws := [121]) (k := 3) (v := 121) (e := 21) (m := 1499) p9 ⟨b20, trivial⟩ ⟨by decide, trivial⟩ (by decide) (by decide) (by decide) rfl (by rw [b21]; decide) (by decide +kernel) (by decide +kernel)
  have p10 := tk_P1 (q := 22) n10 b21 rfl (by rw [b22]; decide)
  obtain ⟨k10, v10, n11⟩ := tk_wd (n := 10) (ws := [105, 110]) (k := 5) (v := 26990) (e := 24) (m := 1498) p10 ⟨b22, b23, trivial⟩ ⟨by decide, by decide, trivial⟩ (by decide) (by decide) (by decide) rfl (by rw [b24]; decide) (by decide +kernel) (by decide +kernel)
  have p11 := tk_P1 (q := 25) n11 b24 rfl (by rw [b25]; decide)
  obtain ⟨k11, v11, n12⟩ := tk_num (q := 26) p11 (by rw [b25]; decide) rfl (by rw [b26]; decide)
  rw [b25] at v11
  have p12 := tk_P1 (q := 27) n12 b26 rfl (by rw [b27]; decide)
  obtain ⟨k12, n13⟩ := tk_sym (q := 28) (k := 33) (s := 1) (e := 29) p12 rfl (by rw [b27, b28]; unfold xsg; decide) rfl
  have p13 := tk_P1 (q := 30) n13 b29 rfl (by rw [b30]; intro z; rcases z with z | z <;> omega)
  obtain ⟨k13, v13, n14⟩ := tk_num (q := 31) p13 (by rw [b30]; exact ⟨by omega, by omega⟩) rfl (by rw [b31]; decide)
  rw [b30] at v13
  have p14 := tk_P0 n14 (by rw [b31]; decide)
  obtain ⟨k14, n15⟩ := tk_sym (q := 32) (k := 17) (s := 0) (e := 32) p14 rfl (by rw [b31, b32]; unfold xsg; decide) rfl
  have p15 := tk_P1 (q := 33) n15 b32 rfl (by rw [b33]; decide)
  obtain ⟨k15, n16⟩ := tk_sym (q := 34) (k := 22) (s := 0) (e := 34) p15 rfl (by rw [b33, b34]; unfold xsg; decide) rfl
  have p16 := tk_P1 (q := 35) n16 b34 rfl (by rw [b35]; decide)
  obtain ⟨k16, v16, n17⟩ := tk_wd (n := 16) (ws := [105, 102]) (k := 6) (v := 26982) (e := 37) (m := 1498) p16 ⟨b35, b36, trivial⟩ ⟨by decide, by decide, trivial⟩ (by decide) (by decide) (by decide) rfl (by rw [b37]; decide) (by decide +kernel) (by decide +kernel)
  have p17 := tk_P1 (q := 38) n17 b37 rfl (by rw [b38]; decide)
  obtain ⟨k17, v17, n18⟩ := tk_wd (n := 17) (ws := [120]) (k := 3) (v := 120) (e := 39) (m := 1499) p17 ⟨b38, trivial⟩ ⟨by decide, trivial⟩ (by decide) (by decide) (by decide) rfl (by rw [b39]; decide) (by decide +kernel) (by decide +kernel)
  have p18 := tk_P1 (q := 40) n18 b39 rfl (by rw [b40]; exact hop.2.2.2.2.2)
  obtain ⟨k18, n19⟩ := tk_sym (q := 41) (k := op) (s := 1) (e := 42) p18 rfl (by rw [b40, b41]; exact hop) rfl
  have p19 := tk_P1 (q := 43) n19 b42 rfl (by rw [b43]; intro z; rcases z with z | z <;> omega)
  obtain ⟨k19, v19, n20⟩ := tk_num (q := 44) p19 (by rw [b43]; exact ⟨by omega, by omega⟩) rfl (by rw [b44]; decide)
  rw [b43] at v19
  have p20 := tk_P1 (q := 45) n20 b44 rfl (by rw [b45]; decide)
  obtain ⟨k20, v20, n21⟩ := tk_wd (n := 20) (ws := [116, 104, 101, 110]) (k := 7) (v := 1952998766) (e := 49) (m := 1496) p20 ⟨b45, b46, b47, b48, trivial⟩ ⟨by decide, by decide, by decide, by decide, trivial⟩ (by decide) (by decide) (by decide) rfl (by rw [b49]; decide) (by decide +kernel) (by decide +kernel)
  have p21 := tk_P1 (q := 50) n21 b49 rfl (by rw [b50]; decide)
  obtain ⟨k21, v21, n22⟩ := tk_wd (n := 21) (ws := [120]) (k := 3) (v := 120) (e := 51) (m := 1499) p21 ⟨b50, trivial⟩ ⟨by decide, trivial⟩ (by decide) (by decide) (by decide) rfl (by rw [b51]; decide) (by decide +kernel) (by decide +kernel)
  have p22 := tk_P1 (q := 52) n22 b51 rfl (by rw [b52]; exact h1.2.2.2.2.2)
  obtain ⟨k22, n23⟩ := tk_sym (q := 53) (k := s1) (s := 0) (e := 53) p22 rfl (by rw [b52, b53]; exact h1) rfl
  have p23 := tk_P1 (q := 54) n23 b53 rfl (by rw [b54]; decide)
  obtain ⟨k23, v23, n24⟩ := tk_wd (n := 23) (ws := [121]) (k := 3) (v := 121) (e := 55) (m := 1499) p23 ⟨b54, trivial⟩ ⟨by decide, trivial⟩ (by decide) (by decide) (by decide) rfl (by rw [b55]; decide) (by decide +kernel) (by decide +kernel)
  have p24 := tk_P1 (q := 56) n24 b55 rfl (by rw [b56]; decide)
  obtain ⟨k24, v24, n25⟩ := tk_wd (n := 24) (ws := [101, 108, 115, 101]) (k := 8) (v := 1701606245) (e := 60) (m := 1496) p24 ⟨b56, b57, b58, b59, trivial⟩ ⟨by decide, by decide, by decide, by decide, trivial⟩ (by decide) (by decide) (by decide) rfl (by rw [b60]; decide) (by decide +kernel) (by decide +kernel)
  have p25 := tk_P1 (q := 61) n25 b60 rfl (by rw [b61]; decide)
  obtain ⟨k25, v25, n26⟩ := tk_wd (n := 25) (ws := [121]) (k := 3) (v := 121) (e := 62) (m := 1499) p25 ⟨b61, trivial⟩ ⟨by decide, trivial⟩ (by decide) (by decide) (by decide) rfl (by rw [b62]; decide) (by decide +kernel) (by decide +kernel)
  have p26 := tk_P1 (q := 63) n26 b62 rfl (by rw [b63]; exact h2.2.2.2.2.2)
  obtain ⟨k26, n27⟩ := tk_sym (q := 64) (k := s2) (s := 0) (e := 64) p26 rfl (by rw [b63, b64]; exact h2) rfl
  have p27 := tk_P1 (q := 65) n27 b64 rfl (by rw [b65]; intro z; rcases z with z | z <;> omega)
  obtain ⟨k27, v27, n28⟩ := tk_num (q := 66) p27 (by rw [b65]; exact ⟨by omega, by omega⟩) rfl (by rw [b66]; decide)
  rw [b65] at v27
  have p28 := tk_P0 n28 (by rw [b66]; decide)
  obtain ⟨k28, n29⟩ := tk_sym (q := 67) (k := 19) (s := 0) (e := 67) p28 rfl (by rw [b66, b67]; unfold xsg; decide) rfl
  have p29 := tk_P1 (q := 68) n29 b67 rfl (by rw [b68]; decide)
  obtain ⟨k29, v29, n30⟩ := tk_wd (n := 29) (ws := [116, 97, 98, 108, 101]) (k := 12) (v := 499850046565) (e := 73) (m := 1495) p29 ⟨b68, b69, b70, b71, b72, trivial⟩ ⟨by decide, by decide, by decide, by decide, by decide, trivial⟩ (by decide) (by decide) (by decide) rfl (by rw [b73]; decide) (by decide +kernel) (by decide +kernel)
  have p30 := tk_P1 (q := 74) n30 b73 rfl (by rw [b74]; decide)
  obtain ⟨k30, v30, n31⟩ := tk_wd (n := 30) (ws := [116]) (k := 3) (v := 116) (e := 75) (m := 1499) p30 ⟨b74, trivial⟩ ⟨by decide, trivial⟩ (by decide) (by decide) (by decide) rfl (by rw [b75]; decide) (by decide +kernel) (by decide +kernel)
  have p31 := tk_P1 (q := 76) n31 b75 rfl (by rw [b76]; decide)
  obtain ⟨k31, v31, n32⟩ := tk_wd (n := 31) (ws := [111, 102]) (k := 13) (v := 28518) (e := 78) (m := 1498) p31 ⟨b76, b77, trivial⟩ ⟨by decide, by decide, trivial⟩ (by decide) (by decide) (by decide) rfl (by rw [b78]; decide) (by decide +kernel) (by decide +kernel)
  have p32 := tk_P1 (q := 79) n32 b78 rfl (by rw [b79]; decide)
  obtain ⟨k32, v32, n33⟩ := tk_wd (n := 32) (ws := [102]) (k := 3) (v := 102) (e := 80) (m := 1499) p32 ⟨b79, trivial⟩ ⟨by decide, trivial⟩ (by decide) (by decide) (by decide) rfl (by rw [b80]; decide) (by decide +kernel) (by decide +kernel)
  have p33 := tk_P0 n33 (by rw [b80]; decide)
  obtain ⟨k33, n34⟩ := tk_sym (q := 81) (k := 20) (s := 0) (e := 81) p33 rfl (by rw [b80, b81]; unfold xsg; decide) rfl
  have p34 := tk_P1 (q := 82) n34 b81 rfl (by rw [b82]; decide)
  obtain ⟨k34, v34, n35⟩ := tk_num (q := 83) p34 (by rw [b82]; decide) rfl (by rw [b83]; decide)
  rw [b82] at v34
  have p35 := tk_P0 n35 (by rw [b83]; decide)
  obtain ⟨k35, n36⟩ := tk_sym (q := 84) (k := 18) (s := 0) (e := 84) p35 rfl (by rw [b83, b84]; unfold xsg; decide) rfl
  have p36 := tk_P1 (q := 85) n36 b84 rfl (by rw [b85]; decide)
  obtain ⟨k36, v36, n37⟩ := tk_num (q := 86) p36 (by rw [b85]; decide) rfl (by rw [b86]; decide)
  rw [b85] at v36
  have p37 := tk_P0 n37 (by rw [b86]; decide)
  obtain ⟨k37, n38⟩ := tk_sym (q := 87) (k := 20) (s := 0) (e := 87) p37 rfl (by rw [b86, b87]; unfold xsg; decide) rfl
  have p38 := tk_P1 (q := 88) n38 b87 rfl (by rw [b88]; decide)
  obtain ⟨k38, v38, n39⟩ := tk_wd (n := 38) (ws := [97, 110, 121]) (k := 14) (v := 6385273) (e := 91) (m := 1497) p38 ⟨b88, b89, b90, trivial⟩ ⟨by decide, by decide, by decide, trivial⟩ (by decide) (by decide) (by decide) rfl (by rw [b91]; decide) (by decide +kernel) (by decide +kernel)
  have p39 := tk_P0 n39 (by rw [b91]; decide)
  obtain ⟨k39, n40⟩ := tk_sym (q := 92) (k := 19) (s := 0) (e := 92) p39 rfl (by rw [b91, b92]; unfold xsg; decide) rfl
  have p40 := tk_P0 n40 (by rw [b92]; decide)
  have k40 : t_K X 40 = 0 := by show t_k X (t_P X 40) = 0; rw [p40]; exact (t_k_0 X _).mpr (by rw [b92]; decide)
  refine ⟨fun j hj => ?_, ⟨v1, v3, v9, v17, v21, v23, v25, v30, v32⟩, ⟨v5, v7.trans (by omega), v11, v13.trans (by omega), v34, v36⟩, hA, hB, o0, o1, o2, by decide⟩
  exact match j, hj with
    | 0, _ => k0
    | 1, _ => k1
    | 2, _ => k2
    | 3, _ => k3
    | 4, _ => k4
    | 5, _ => k5
    | 6, _ => k6
    | 7, _ => k7
    | 8, _ => k8
    | 9, _ => k9
    | 10, _ => k10
    | 11, _ => k11
    | 12, _ => k12
    | 13, _ => k13
    | 14, _ => k14
    | 15, _ => k15
    | 16, _ => k16
    | 17, _ => k17
    | 18, _ => k18
    | 19, _ => k19
    | 20, _ => k20
    | 21, _ => k21
    | 22, _ => k22
    | 23, _ => k23
    | 24, _ => k24
    | 25, _ => k25
    | 26, _ => k26
    | 27, _ => k27
    | 28, _ => k28
    | 29, _ => k29
    | 30, _ => k30
    | 31, _ => k31
    | 32, _ => k32
    | 33, _ => k33
    | 34, _ => k34
    | 35, _ => k35
    | 36, _ => k36
    | 37, _ => k37
    | 38, _ => k38
    | 39, _ => k39
    | 40, _ => k40
    | n + 41, hj => absurd hj (by omega)
/-- the text -/
def xt_2e (A B C E c1 c2 x1 x2 : Int) : List Int := [102, 117, 110, 32, 102, 32, 40, 120, 32, 105, 110, 32, 48, 32, 46, 46, 32, 48 + A, 44, 32, 121, 32, 105, 110, 32, 48, 32, 46, 46, 32, 48 + B, 41, 32, 61, 32, 105, 102, 32, 120, 32, c1, c2, 32, 48 + C, 32, 116, 104, 101, 110, 32, 120, 32, x1, 32, 121, 32, 101, 108, 115, 101, 32, 121, 32, x2, 32, 48 + E, 59, 32, 116, 97, 98, 108, 101, 32, 116, 32, 111, 102, 32, 102, 58, 32, 48, 44, 32, 48, 58, 32, 101, 114, 114, 111, 114, 59]
set_option maxHeartbeats 1000000 in
set_option maxRecDepth 20000 in
theorem lx_2e {A B C E c1 c2 x1 x2 op s1 s2 : Int} (hA : 1 ≤ A ∧ A ≤ 4) (hB : 1 ≤ B ∧ B ≤ 3) (hC : 0 ≤ C ∧ C ≤ 9) (hE : 0 ≤ E ∧ E ≤ 9) (hop : xsg c1 c2 op 1) (h1 : xsg x1 32 s1 0) (h2 : xsg x2 32 s2 0) (o0 : op = 22 ∨ op = 23 ∨ op = 24 ∨ op = 25 ∨ op = 26 ∨ op = 27) (o1 : s1 = 28 ∨ s1 = 29 ∨ s1 = 30 ∨ s1 = 31 ∨ s1 = 32) (o2 : s2 = 28 ∨ s2 = 29 ∨ s2 = 30 ∨ s2 = 31 ∨ s2 = 32) : lw_T (t_K (xb (xt_2e A B C E c1 c2 x1 x2))) (t_V (xb (xt_2e A B C E c1 c2 x1 x2))) A B op s1 s2 15 := by
  have b0 : xb (xt_2e A B C E c1 c2 x1 x2) 0 = 102 := xb_at 0 (by show 0 < 94; decide)
  have b1 : xb (xt_2e A B C E c1 c2 x1 x2) 1 = 117 := xb_at 1 (by show 1 < 94; decide)
  have b2 : xb (xt_2e A B C E c1 c2 x1 x2) 2 = 110 := xb_at 2 (by show 2 < 94; decide)
  have b3 : xb (xt_2e A B C E c1 c2 x1 x2) 3 = 32 := xb_at 3 (by show 3 < 94; decide)
  have b4 : xb (xt_2e A B C E c1 c2 x1 x2) 4 = 102 := xb_at 4 (by show 4 < 94; decide)
  have b5 : xb (xt_2e A B C E c1 c2 x1 x2) 5 = 32 := xb_at 5 (by show 5 < 94; decide)
  have b6 : xb (xt_2e A B C E c1 c2 x1 x2) 6 = 40 := xb_at 6 (by show 6 < 94; decide)
  have b7 : xb (xt_2e A B C E c1 c2 x1 x2) 7 = 120 := xb_at 7 (by show 7 < 94; decide)
  have b8 : xb (xt_2e A B C E c1 c2 x1 x2) 8 = 32 := xb_at 8 (by show 8 < 94; decide)
  have b9 : xb (xt_2e A B C E c1 c2 x1 x2) 9 = 105 := xb_at 9 (by show 9 < 94; decide)
  have b10 : xb (xt_2e A B C E c1 c2 x1 x2) 10 = 110 := xb_at 10 (by show 10 < 94; decide)
  have b11 : xb (xt_2e A B C E c1 c2 x1 x2) 11 = 32 := xb_at 11 (by show 11 < 94; decide)
  have b12 : xb (xt_2e A B C E c1 c2 x1 x2) 12 = 48 := xb_at 12 (by show 12 < 94; decide)
  have b13 : xb (xt_2e A B C E c1 c2 x1 x2) 13 = 32 := xb_at 13 (by show 13 < 94; decide)
  have b14 : xb (xt_2e A B C E c1 c2 x1 x2) 14 = 46 := xb_at 14 (by show 14 < 94; decide)
  have b15 : xb (xt_2e A B C E c1 c2 x1 x2) 15 = 46 := xb_at 15 (by show 15 < 94; decide)
  have b16 : xb (xt_2e A B C E c1 c2 x1 x2) 16 = 32 := xb_at 16 (by show 16 < 94; decide)
  have b17 : xb (xt_2e A B C E c1 c2 x1 x2) 17 = 48 + A := xb_at 17 (by show 17 < 94; decide)
  have b18 : xb (xt_2e A B C E c1 c2 x1 x2) 18 = 44 := xb_at 18 (by show 18 < 94; decide)
  have b19 : xb (xt_2e A B C E c1 c2 x1 x2) 19 = 32 := xb_at 19 (by show 19 < 94; decide)
  have b20 : xb (xt_2e A B C E c1 c2 x1 x2) 20 = 121 := xb_at 20 (by show 20 < 94; decide)
  have b21 : xb (xt_2e A B C E c1 c2 x1 x2) 21 = 32 := xb_at 21 (by show 21 < 94; decide)
  have b22 : xb (xt_2e A B C E c1 c2 x1 x2) 22 = 105 := xb_at 22 (by show 22 < 94; decide)
  have b23 : xb (xt_2e A B C E c1 c2 x1 x2) 23 = 110 := xb_at 23 (by show 23 < 94; decide)
  have b24 : xb (xt_2e A B C E c1 c2 x1 x2) 24 = 32 := xb_at 24 (by show 24 < 94; decide)
  have b25 : xb (xt_2e A B C E c1 c2 x1 x2) 25 = 48 := xb_at 25 (by show 25 < 94; decide)
  have b26 : xb (xt_2e A B C E c1 c2 x1 x2) 26 = 32 := xb_at 26 (by show 26 < 94; decide)
  have b27 : xb (xt_2e A B C E c1 c2 x1 x2) 27 = 46 := xb_at 27 (by show 27 < 94; decide)
  have b28 : xb (xt_2e A B C E c1 c2 x1 x2) 28 = 46 := xb_at 28 (by show 28 < 94; decide)
  have b29 : xb (xt_2e A B C E c1 c2 x1 x2) 29 = 32 := xb_at 29 (by show 29 < 94; decide)
  have b30 : xb (xt_2e A B C E c1 c2 x1 x2) 30 = 48 + B := xb_at 30 (by show 30 < 94; decide)
  have b31 : xb (xt_2e A B C E c1 c2 x1 x2) 31 = 41 := xb_at 31 (by show 31 < 94; decide)
  have b32 : xb (xt_2e A B C E c1 c2 x1 x2) 32 = 32 := xb_at 32 (by show 32 < 94; decide)
  have b33 : xb (xt_2e A B C E c1 c2 x1 x2) 33 = 61 := xb_at 33 (by show 33 < 94; decide)
  have b34 : xb (xt_2e A B C E c1 c2 x1 x2) 34 = 32 := xb_at 34 (by show 34 < 94; decide)
  have b35 : xb (xt_2e A B C E c1 c2 x1 x2) 35 = 105 := xb_at 35 (by show 35 < 94; decide)
  have b36 : xb (xt_2e A B C E c1 c2 x1 x2) 36 = 102 := xb_at 36 (by show 36 < 94; decide)
  have b37 : xb (xt_2e A B C E c1 c2 x1 x2) 37 = 32 := xb_at 37 (by show 37 < 94; decide)
  have b38 : xb (xt_2e A B C E c1 c2 x1 x2) 38 = 120 := xb_at 38 (by show 38 < 94; decide)
  have b39 : xb (xt_2e A B C E c1 c2 x1 x2) 39 = 32 := xb_at 39 (by show 39 < 94; decide)
  have b40 : xb (xt_2e A B C E c1 c2 x1 x2) 40 = c1 := xb_at 40 (by show 40 < 94; decide)
  have b41 : xb (xt_2e A B C E c1 c2 x1 x2) 41 = c2 := xb_at 41 (by show 41 < 94; decide)
  have b42 : xb (xt_2e A B C E c1 c2 x1 x2) 42 = 32 := xb_at 42 (by show 42 < 94; decide)
  have b43 : xb (xt_2e A B C E c1 c2 x1 x2) 43 = 48 + C := xb_at 43 (by show 43 < 94; decide)
  have b44 : xb (xt_2e A B C E c1 c2 x1 x2) 44 = 32 := xb_at 44 (by show 44 < 94; decide)
  have b45 : xb (xt_2e A B C E c1 c2 x1 x2) 45 = 116 := xb_at 45 (by show 45 < 94; decide)
  have b46 : xb (xt_2e A B C E c1 c2 x1 x2) 46 = 104 := xb_at 46 (by show 46 < 94; decide)
  have b47 : xb (xt_2e A B C E c1 c2 x1 x2) 47 = 101 := xb_at 47 (by show 47 < 94; decide)
  have b48 : xb (xt_2e A B C E c1 c2 x1 x2) 48 = 110 := xb_at 48 (by show 48 < 94; decide)
  have b49 : xb (xt_2e A B C E c1 c2 x1 x2) 49 = 32 := xb_at 49 (by show 49 < 94; decide)
  have b50 : xb (xt_2e A B C E c1 c2 x1 x2) 50 = 120 := xb_at 50 (by show 50 < 94; decide)
  have b51 : xb (xt_2e A B C E c1 c2 x1 x2) 51 = 32 := xb_at 51 (by show 51 < 94; decide)
  have b52 : xb (xt_2e A B C E c1 c2 x1 x2) 52 = x1 := xb_at 52 (by show 52 < 94; decide)
  have b53 : xb (xt_2e A B C E c1 c2 x1 x2) 53 = 32 := xb_at 53 (by show 53 < 94; decide)
  have b54 : xb (xt_2e A B C E c1 c2 x1 x2) 54 = 121 := xb_at 54 (by show 54 < 94; decide)
  have b55 : xb (xt_2e A B C E c1 c2 x1 x2) 55 = 32 := xb_at 55 (by show 55 < 94; decide)
  have b56 : xb (xt_2e A B C E c1 c2 x1 x2) 56 = 101 := xb_at 56 (by show 56 < 94; decide)
  have b57 : xb (xt_2e A B C E c1 c2 x1 x2) 57 = 108 := xb_at 57 (by show 57 < 94; decide)
  have b58 : xb (xt_2e A B C E c1 c2 x1 x2) 58 = 115 := xb_at 58 (by show 58 < 94; decide)
  have b59 : xb (xt_2e A B C E c1 c2 x1 x2) 59 = 101 := xb_at 59 (by show 59 < 94; decide)
  have b60 : xb (xt_2e A B C E c1 c2 x1 x2) 60 = 32 := xb_at 60 (by show 60 < 94; decide)
  have b61 : xb (xt_2e A B C E c1 c2 x1 x2) 61 = 121 := xb_at 61 (by show 61 < 94; decide)
  have b62 : xb (xt_2e A B C E c1 c2 x1 x2) 62 = 32 := xb_at 62 (by show 62 < 94; decide)
  have b63 : xb (xt_2e A B C E c1 c2 x1 x2) 63 = x2 := xb_at 63 (by show 63 < 94; decide)
  have b64 : xb (xt_2e A B C E c1 c2 x1 x2) 64 = 32 := xb_at 64 (by show 64 < 94; decide)
  have b65 : xb (xt_2e A B C E c1 c2 x1 x2) 65 = 48 + E := xb_at 65 (by show 65 < 94; decide)
  have b66 : xb (xt_2e A B C E c1 c2 x1 x2) 66 = 59 := xb_at 66 (by show 66 < 94; decide)
  have b67 : xb (xt_2e A B C E c1 c2 x1 x2) 67 = 32 := xb_at 67 (by show 67 < 94; decide)
  have b68 : xb (xt_2e A B C E c1 c2 x1 x2) 68 = 116 := xb_at 68 (by show 68 < 94; decide)
  have b69 : xb (xt_2e A B C E c1 c2 x1 x2) 69 = 97 := xb_at 69 (by show 69 < 94; decide)
  have b70 : xb (xt_2e A B C E c1 c2 x1 x2) 70 = 98 := xb_at 70 (by show 70 < 94; decide)
  have b71 : xb (xt_2e A B C E c1 c2 x1 x2) 71 = 108 := xb_at 71 (by show 71 < 94; decide)
  have b72 : xb (xt_2e A B C E c1 c2 x1 x2) 72 = 101 := xb_at 72 (by show 72 < 94; decide)
  have b73 : xb (xt_2e A B C E c1 c2 x1 x2) 73 = 32 := xb_at 73 (by show 73 < 94; decide)
  have b74 : xb (xt_2e A B C E c1 c2 x1 x2) 74 = 116 := xb_at 74 (by show 74 < 94; decide)
  have b75 : xb (xt_2e A B C E c1 c2 x1 x2) 75 = 32 := xb_at 75 (by show 75 < 94; decide)
  have b76 : xb (xt_2e A B C E c1 c2 x1 x2) 76 = 111 := xb_at 76 (by show 76 < 94; decide)
  have b77 : xb (xt_2e A B C E c1 c2 x1 x2) 77 = 102 := xb_at 77 (by show 77 < 94; decide)
  have b78 : xb (xt_2e A B C E c1 c2 x1 x2) 78 = 32 := xb_at 78 (by show 78 < 94; decide)
  have b79 : xb (xt_2e A B C E c1 c2 x1 x2) 79 = 102 := xb_at 79 (by show 79 < 94; decide)
  have b80 : xb (xt_2e A B C E c1 c2 x1 x2) 80 = 58 := xb_at 80 (by show 80 < 94; decide)
  have b81 : xb (xt_2e A B C E c1 c2 x1 x2) 81 = 32 := xb_at 81 (by show 81 < 94; decide)
  have b82 : xb (xt_2e A B C E c1 c2 x1 x2) 82 = 48 := xb_at 82 (by show 82 < 94; decide)
  have b83 : xb (xt_2e A B C E c1 c2 x1 x2) 83 = 44 := xb_at 83 (by show 83 < 94; decide)
  have b84 : xb (xt_2e A B C E c1 c2 x1 x2) 84 = 32 := xb_at 84 (by show 84 < 94; decide)
  have b85 : xb (xt_2e A B C E c1 c2 x1 x2) 85 = 48 := xb_at 85 (by show 85 < 94; decide)
  have b86 : xb (xt_2e A B C E c1 c2 x1 x2) 86 = 58 := xb_at 86 (by show 86 < 94; decide)
  have b87 : xb (xt_2e A B C E c1 c2 x1 x2) 87 = 32 := xb_at 87 (by show 87 < 94; decide)
  have b88 : xb (xt_2e A B C E c1 c2 x1 x2) 88 = 101 := xb_at 88 (by show 88 < 94; decide)
  have b89 : xb (xt_2e A B C E c1 c2 x1 x2) 89 = 114 := xb_at 89 (by show 89 < 94; decide)
  have b90 : xb (xt_2e A B C E c1 c2 x1 x2) 90 = 114 := xb_at 90 (by show 90 < 94; decide)
  have b91 : xb (xt_2e A B C E c1 c2 x1 x2) 91 = 111 := xb_at 91 (by show 91 < 94; decide)
  have b92 : xb (xt_2e A B C E c1 c2 x1 x2) 92 = 114 := xb_at 92 (by show 92 < 94; decide)
  have b93 : xb (xt_2e A B C E c1 c2 x1 x2) 93 = 59 := xb_at 93 (by show 93 < 94; decide)
  have b94 : xb (xt_2e A B C E c1 c2 x1 x2) 94 = -1 := xb_end 94 (by show 94 ≤ 94; decide)
  generalize xb (xt_2e A B C E c1 c2 x1 x2) = X at *
  have n0 : t_nx X 0 = 0 := rfl
  have p0 := tk_P0 n0 (by rw [b0]; decide)
  obtain ⟨k0, v0, n1⟩ := tk_wd (n := 0) (ws := [102, 117, 110]) (k := 4) (v := 6714734) (e := 3) (m := 1497) p0 ⟨b0, b1, b2, trivial⟩ ⟨by decide, by decide, by decide, trivial⟩ (by decide) (by decide) (by decide) rfl (by rw [b3]; decide) (by decide +kernel) (by decide +kernel)
  have p1 := tk_P1 (q := 4) n1 b3 rfl (by rw [b4]; decide)
  obtain ⟨k1, v1, n2⟩ := tk_wd (n := 1) (ws := [102]) (k := 3) (v := 102) (e := 5) (m := 1499) p1 ⟨b4, trivial⟩ ⟨by decide, trivial⟩ (by decide) (by decide) (by decide) rfl (by rw [b5]; decide) (by decide +kernel) (by decide +kernel)
  have p2 := tk_P1 (q := 6) n2 b5 rfl (by rw [b6]; decide)
  obtain ⟨k2, n3⟩ := tk_sym (q := 7) (k := 16) (s := 0) (e := 7) p2 rfl (by rw [b6, b7]; unfold xsg; decide) rfl
  have p3 := tk_P0 n3 (by rw [b7]; decide)
  obtain ⟨k3, v3, n4⟩ := tk_wd (n := 3) (ws := [120]) (k := 3) (v := 120) (e := 8) (m := 1499) p3 ⟨b7, trivial⟩ ⟨by decide, trivial⟩ (by decide) (by decide) (by decide) rfl (by rw [b8]; decide) (by decide +kernel) (by decide +kernel)
  have p4 := tk_P1 (q := 9) n4 b8 rfl (by rw [b9]; decide)
  obtain ⟨k4, v4, n5⟩ := tk_wd (n := 4) (ws := [105, 110]) (k := 5) (v := 26990) (e := 11) (m := 1498) p4 ⟨b9, b10, trivial⟩ ⟨by decide, by decide, trivial⟩ (by decide) (by decide) (by decide) rfl (by rw [b11]; decide) (by decide +kernel) (by decide +kernel)
  have p5 := tk_P1 (q := 12) n5 b11 rfl (by rw [b12]; decide)
  obtain ⟨k5, v5, n6⟩ := tk_num (q := 13) p5 (by rw [b12]; decide) rfl (by rw [b13]; decide)
  rw [b12] at v5
  have p6 := tk_P1 (q := 14) n6 b13 rfl (by rw [b14]; decide)
  obtain ⟨k6, n7⟩ := tk_sym (q := 15) (k := 33) (s := 1) (e := 16) p6 rfl (by rw [b14, b15]; unfold xsg; decide) rfl
  have p7 := tk_P1 (q := 17) n7 b16 rfl (by rw [b17]; intro z; rcases z with z | z <;> omega)
  obtain ⟨k7, v7, n8⟩ := tk_num (q := 18) p7 (by rw [b17]; exact ⟨by omega, by omega⟩) rfl (by rw [b18]; decide)
  rw [b17] at v7
  have p8 := tk_P0 n8 (by rw [b18]; decide)
  obtain ⟨k8, n9⟩ := tk_sym (q := 19) (k := 18) (s := 0) (e := 19) p8 rfl (by rw [b18, b19]; unfold xsg; decide) rfl
  have p9 := tk_P1 (q := 20) n9 b19 rfl (by rw [b20]; decide)
  obtain ⟨k9, v9, n10⟩ := tk_wd (n := 9) (ws := [121]) (k := 3) (v := 121) (e := 21) (m := 1499) p9 ⟨b20, trivial⟩ ⟨by decide, trivial⟩ (by decide) (by decide) (by decide) rfl (by rw [b21]; decide) (by decide +kernel) (by decide +kernel)
  have p10 := tk_P1 (q := 22) n10 b21 rfl (by rw [b22]; decide)
  obtain ⟨k10, v10, n11⟩ := tk_wd (n := 10) (ws := [105, 110]) (k := 5) (v := 26990) (e := 24) (m := 1498) p10 ⟨b22, b23, trivial⟩ ⟨by decide, by decide, trivial⟩ (by decide) (by decide) (by decide) rfl (by rw [b24]; decide) (by decide +kernel) (by decide +kernel)
  have p11 := tk_P1 (q := 25) n11 b24 rfl (by rw [b25]; decide)
  obtain ⟨k11, v11, n12⟩ := tk_num (q := 26) p11 (by rw [b25]; decide) rfl (by rw [b26]; decide)
  rw [b25] at v11
  have p12 := tk_P1 (q := 27) n12 b26 rfl (by rw [b27]; decide)
  obtain ⟨k12, n13⟩ := tk_sym (q := 28) (k := 33) (s := 1) (e := 29) p12 rfl (by rw [b27, b28]; unfold xsg; decide) rfl
  have p13 := tk_P1 (q := 30) n13 b29 rfl (by rw [b30]; intro z; rcases z with z | z <;> omega)
  obtain ⟨k13, v13, n14⟩ := tk_num (q := 31) p13 (by rw [b30]; exact ⟨by omega, by omega⟩) rfl (by rw [b31]; decide)
  rw [b30] at v13
  have p14 := tk_P0 n14 (by rw [b31]; decide)
  obtain ⟨k14, n15⟩ := tk_sym (q := 32) (k := 17) (s := 0) (e := 32) p14 rfl (by rw [b31, b32]; unfold xsg; decide) rfl
  have p15 := tk_P1 (q := 33) n15 b32 rfl (by rw [b33]; decide)
  obtain ⟨k15, n16⟩ := tk_sym (q := 34) (k := 22) (s := 0) (e := 34) p15 rfl (by rw [b33, b34]; unfold xsg; decide) rfl
  have p16 := tk_P1 (q := 35) n16 b34 rfl (by rw [b35]; decide)
  obtain ⟨k16, v16, n17⟩ := tk_wd (n := 16) (ws := [105, 102]) (k := 6) (v := 26982) (e := 37) (m := 1498) p16 ⟨b35, b36, trivial⟩ ⟨by decide, by decide, trivial⟩ (by decide) (by decide) (by decide) rfl (by rw [b37]; decide) (by decide +kernel) (by decide +kernel)
  have p17 := tk_P1 (q := 38) n17 b37 rfl (by rw [b38]; decide)
  obtain ⟨k17, v17, n18⟩ := tk_wd (n := 17) (ws := [120]) (k := 3) (v := 120) (e := 39) (m := 1499) p17 ⟨b38, trivial⟩ ⟨by decide, trivial⟩ (by decide) (by decide) (by decide) rfl (by rw [b39]; decide) (by decide +kernel) (by decide +kernel)
  have p18 := tk_P1 (q := 40) n18 b39 rfl (by rw [b40]; exact hop.2.2.2.2.2)
  obtain ⟨k18, n19⟩ := tk_sym (q := 41) (k := op) (s := 1) (e := 42) p18 rfl (by rw [b40, b41]; exact hop) rfl
  have p19 := tk_P1 (q := 43) n19 b42 rfl (by rw [b43]; intro z; rcases z with z | z <;> omega)
  obtain ⟨k19, v19, n20⟩ := tk_num (q := 44) p19 (by rw [b43]; exact ⟨by omega, by omega⟩) rfl (by rw [b44]; decide)
  rw [b43] at v19
  have p20 := tk_P1 (q := 45) n20 b44 rfl (by rw [b45]; decide)
  obtain ⟨k20, v20, n21⟩ := tk_wd (n := 20) (ws := [116, 104, 101, 110]) (k := 7) (v := 1952998766) (e := 49) (m := 1496) p20 ⟨b45, b46, b47, b48, trivial⟩ ⟨by decide, by decide, by decide, by decide, trivial⟩ (by decide) (by decide) (by decide) rfl (by rw [b49]; decide) (by decide +kernel) (by decide +kernel)
  have p21 := tk_P1 (q := 50) n21 b49 rfl (by rw [b50]; decide)
  obtain ⟨k21, v21, n22⟩ := tk_wd (n := 21) (ws := [120]) (k := 3) (v := 120) (e := 51) (m := 1499) p21 ⟨b50, trivial⟩ ⟨by decide, trivial⟩ (by decide) (by decide) (by decide) rfl (by rw [b51]; decide) (by decide +kernel) (by decide +kernel)
  have p22 := tk_P1 (q := 52) n22 b51 rfl (by rw [b52]; exact h1.2.2.2.2.2)
  obtain ⟨k22, n23⟩ := tk_sym (q := 53) (k := s1) (s := 0) (e := 53) p22 rfl (by rw [b52, b53]; exact h1) rfl
  have p23 := tk_P1 (q := 54) n23 b53 rfl (by rw [b54]; decide)
  obtain ⟨k23, v23, n24⟩ := tk_wd (n := 23) (ws := [121]) (k := 3) (v := 121) (e := 55) (m := 1499) p23 ⟨b54, trivial⟩ ⟨by decide, trivial⟩ (by decide) (by decide) (by decide) rfl (by rw [b55]; decide) (by decide +kernel) (by decide +kernel)
  have p24 := tk_P1 (q := 56) n24 b55 rfl (by rw [b56]; decide)
  obtain ⟨k24, v24, n25⟩ := tk_wd (n := 24) (ws := [101, 108, 115, 101]) (k := 8) (v := 1701606245) (e := 60) (m := 1496) p24 ⟨b56, b57, b58, b59, trivial⟩ ⟨by decide, by decide, by decide, by decide, trivial⟩ (by decide) (by decide) (by decide) rfl (by rw [b60]; decide) (by decide +kernel) (by decide +kernel)
  have p25 := tk_P1 (q := 61) n25 b60 rfl (by rw [b61]; decide)
  obtain ⟨k25, v25, n26⟩ := tk_wd (n := 25) (ws := [121]) (k := 3) (v := 121) (e := 62) (m := 1499) p25 ⟨b61, trivial⟩ ⟨by decide, trivial⟩ (by decide) (by decide) (by decide) rfl (by rw [b62]; decide) (by decide +kernel) (by decide +kernel)
  have p26 := tk_P1 (q := 63) n26 b62 rfl (by rw [b63]; exact h2.2.2.2.2.2)
  obtain ⟨k26, n27⟩ := tk_sym (q := 64) (k := s2) (s := 0) (e := 64) p26 rfl (by rw [b63, b64]; exact h2) rfl
  have p27 := tk_P1 (q := 65) n27 b64 rfl (by rw [b65]; intro z; rcases z with z | z <;> omega)
  obtain ⟨k27, v27, n28⟩ := tk_num (q := 66) p27 (by rw [b65]; exact ⟨by omega, by omega⟩) rfl (by rw [b66]; decide)
  rw [b65] at v27
  have p28 := tk_P0 n28 (by rw [b66]; decide)
  obtain ⟨k28, n29⟩ := tk_sym (q := 67) (k := 19) (s := 0) (e := 67) p28 rfl (by rw [b66, b67]; unfold xsg; decide) rfl
  have p29 := tk_P1 (q := 68) n29 b67 rfl (by rw [b68]; decide)
  obtain ⟨k29, v29, n30⟩ := tk_wd (n := 29) (ws := [116, 97, 98, 108, 101]) (k := 12) (v := 499850046565) (e := 73) (m := 1495) p29 ⟨b68, b69, b70, b71, b72, trivial⟩ ⟨by decide, by decide, by decide, by decide, by decide, trivial⟩ (by decide) (by decide) (by decide) rfl (by rw [b73]; decide) (by decide +kernel) (by decide +kernel)
  have p30 := tk_P1 (q := 74) n30 b73 rfl (by rw [b74]; decide)
  obtain ⟨k30, v30, n31⟩ := tk_wd (n := 30) (ws := [116]) (k := 3) (v := 116) (e := 75) (m := 1499) p30 ⟨b74, trivial⟩ ⟨by decide, trivial⟩ (by decide) (by decide) (by decide) rfl (by rw [b75]; decide) (by decide +kernel) (by decide +kernel)
  have p31 := tk_P1 (q := 76) n31 b75 rfl (by rw [b76]; decide)
  obtain ⟨k31, v31, n32⟩ := tk_wd (n := 31) (ws := [111, 102]) (k := 13) (v := 28518) (e := 78) (m := 1498) p31 ⟨b76, b77, trivial⟩ ⟨by decide, by decide, trivial⟩ (by decide) (by decide) (by decide) rfl (by rw [b78]; decide) (by decide +kernel) (by decide +kernel)
  have p32 := tk_P1 (q := 79) n32 b78 rfl (by rw [b79]; decide)
  obtain ⟨k32, v32, n33⟩ := tk_wd (n := 32) (ws := [102]) (k := 3) (v := 102) (e := 80) (m := 1499) p32 ⟨b79, trivial⟩ ⟨by decide, trivial⟩ (by decide) (by decide) (by decide) rfl (by rw [b80]; decide) (by decide +kernel) (by decide +kernel)
  have p33 := tk_P0 n33 (by rw [b80]; decide)
  obtain ⟨k33, n34⟩ := tk_sym (q := 81) (k := 20) (s := 0) (e := 81) p33 rfl (by rw [b80, b81]; unfold xsg; decide) rfl
  have p34 := tk_P1 (q := 82) n34 b81 rfl (by rw [b82]; decide)
  obtain ⟨k34, v34, n35⟩ := tk_num (q := 83) p34 (by rw [b82]; decide) rfl (by rw [b83]; decide)
  rw [b82] at v34
  have p35 := tk_P0 n35 (by rw [b83]; decide)
  obtain ⟨k35, n36⟩ := tk_sym (q := 84) (k := 18) (s := 0) (e := 84) p35 rfl (by rw [b83, b84]; unfold xsg; decide) rfl
  have p36 := tk_P1 (q := 85) n36 b84 rfl (by rw [b85]; decide)
  obtain ⟨k36, v36, n37⟩ := tk_num (q := 86) p36 (by rw [b85]; decide) rfl (by rw [b86]; decide)
  rw [b85] at v36
  have p37 := tk_P0 n37 (by rw [b86]; decide)
  obtain ⟨k37, n38⟩ := tk_sym (q := 87) (k := 20) (s := 0) (e := 87) p37 rfl (by rw [b86, b87]; unfold xsg; decide) rfl
  have p38 := tk_P1 (q := 88) n38 b87 rfl (by rw [b88]; decide)
  obtain ⟨k38, v38, n39⟩ := tk_wd (n := 38) (ws := [101, 114, 114, 111, 114]) (k := 15) (v := 435711799154) (e := 93) (m := 1495) p38 ⟨b88, b89, b90, b91, b92, trivial⟩ ⟨by decide, by decide, by decide, by decide, by decide, trivial⟩ (by decide) (by decide) (by decide) rfl (by rw [b93]; decide) (by decide +kernel) (by decide +kernel)
  have p39 := tk_P0 n39 (by rw [b93]; decide)
  obtain ⟨k39, n40⟩ := tk_sym (q := 94) (k := 19) (s := 0) (e := 94) p39 rfl (by rw [b93, b94]; unfold xsg; decide) rfl
  have p40 := tk_P0 n40 (by rw [b94]; decide)
  have k40 : t_K X 40 = 0 := by show t_k X (t_P X 40) = 0; rw [p40]; exact (t_k_0 X _).mpr (by rw [b94]; decide)
  refine ⟨fun j hj => ?_, ⟨v1, v3, v9, v17, v21, v23, v25, v30, v32⟩, ⟨v5, v7.trans (by omega), v11, v13.trans (by omega), v34, v36⟩, hA, hB, o0, o1, o2, by decide⟩
  exact match j, hj with
    | 0, _ => k0
    | 1, _ => k1
    | 2, _ => k2
    | 3, _ => k3
    | 4, _ => k4
    | 5, _ => k5
    | 6, _ => k6
    | 7, _ => k7
    | 8, _ => k8
    | 9, _ => k9
    | 10, _ => k10
    | 11, _ => k11
    | 12, _ => k12
    | 13, _ => k13
    | 14, _ => k14
    | 15, _ => k15
    | 16, _ => k16
    | 17, _ => k17
    | 18, _ => k18
    | 19, _ => k19
    | 20, _ => k20
    | 21, _ => k21
    | 22, _ => k22
    | 23, _ => k23
    | 24, _ => k24
    | 25, _ => k25
    | 26, _ => k26
    | 27, _ => k27
    | 28, _ => k28
    | 29, _ => k29
    | 30, _ => k30
    | 31, _ => k31
    | 32, _ => k32
    | 33, _ => k33
    | 34, _ => k34
    | 35, _ => k35
    | 36, _ => k36
    | 37, _ => k37
    | 38, _ => k38
    | 39, _ => k39
    | 40, _ => k40
    | n + 41, hj => absurd hj (by omega)

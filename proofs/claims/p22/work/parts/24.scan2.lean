/-! ===== scanning, in the class: words, numbers, symbols; the tokens ===== -/
def q_sh8 (v b : Int) : Int := ((Int64.ofInt ((Int64.ofInt v <<< ((Int32.ofInt (8 : Int)).toInt64 &&& 63)).toInt) ||| Int64.ofInt b).toInt)
def q_ten (v b : Int) : Int := bm_x (bm_x (bm_x (v * 10) + b) - 48)
def t_wend (B : Int → Int) : Nat → Int → Int
  | 0, p => p
  | n + 1, p => if t_let (B p) ∨ t_dig (B p) then t_wend B n (p + 1) else p
def t_wval (B : Int → Int) : Nat → Int → Int → Int
  | 0, _, v => v
  | n + 1, p, v => if t_let (B p) ∨ t_dig (B p) then t_wval B n (p + 1) (q_sh8 v (B p)) else v
def t_nend (B : Int → Int) : Nat → Int → Int
  | 0, p => p
  | n + 1, p => if t_dig (B p) then t_nend B n (p + 1) else p
def t_nval (B : Int → Int) : Nat → Int → Int → Int
  | 0, _, v => v
  | n + 1, p, v => if t_dig (B p) then t_nval B n (p + 1) (q_ten v (B p)) else v
def q_wd (w : bm_W) (t : Nat) (v e k : Int) : bm_W := bm_si (bm_si (bm_sq w t 7 v) t 4 e) t 5 k
theorem q_wd_step (w : bm_W) (t : Nat) (v v' e e' k : Int) : q_wd (bm_si (bm_sq w t 7 v') t 4 e') t v e k = q_wd w t v e k := by
  unfold q_wd
  rw [q_sq_si, q_si_si, q_sq_sq]
theorem q_wd_same (w : bm_W) (t : Nat) (k : Int) : q_wd w t (bm_gl w t 7) (bm_gi w t 4) k = bm_si w t 5 k := by
  unfold q_wd
  rw [q_sq_same, q_si_same]
theorem sp_word_loop {d t tp : Nat} {Ψ : bm_Rt → bm_W → Prop} : ∀ (n : Nat) (w : bm_W), sh_TT t tp w → 0 ≤ bm_gi w t 4 → bm_gi w t 4 ≤ 1501 → 0 ≤ bm_gi w t 6 → bm_gi w t 6 ≤ 1501 → bm_gi w tp 1 ≤ bm_gi w t 4 + n →
    Ψ (.inl none) (q_wd w t (t_wval (tp_at w tp) n (bm_gi w t 4) (bm_gl w t 7)) (t_wend (tp_at w tp) n (bm_gi w t 4)) (if t_wend (tp_at w tp) n (bm_gi w t 4) - bm_gi w t 6 ≤ 8 then t_wk (t_wval (tp_at w tp) n (bm_gi w t 4) (bm_gl w t 7)) else 1)) → bk_X9_scanWord_0 (d + 2) Ψ t w
  | 0, w, h, h0, h1, h2, h3, hn, q => by
    refine vb_X9_scanWord_0 ?_
    change Ψ (.inl none) (q_wd w t (bm_gl w t 7) (bm_gi w t 4) (if bm_gi w t 4 - bm_gi w t 6 ≤ 8 then t_wk (bm_gl w t 7) else 1)) at q
    rw [q_wd_same] at q
    simp only [bm_c0_v, bm_c1_v, bm_c2_v, bm_c3_v, bm_c4_v, bm_c5_v, bm_u_some, decide_eq_true_eq, true_and, and_true, and_self, Bool.not_eq_true, Bool.not_eq_true', decide_eq_false_iff_not, if_true, if_false, ite_true, ite_false, eq_self, sp_tlength h.2.2.1, sp_wordKind h.1, h.1.1, h.1.2.1, h.1.2.2.1, h.1.2.2.2.1, h.1.2.2.2.2.1, h.1.2.2.2.2.2.1, h.1.2.2.2.2.2.2.1, h.1.2.2.2.2.2.2.2.1, h.1.2.2.2.2.2.2.2.2.1, h.1.2.2.2.2.2.2.2.2.2, h.2.1, h.2.2.1.1, h.2.2.1.2.1, h.2.2.1.2.2.1, h.2.2.1.2.2.2, q_wI (x := bm_gi w t 4 - bm_gi w t 6) ⟨by omega, by omega⟩]
    rw [if_pos (by omega)]
    split
    · rename_i c; rw [if_pos c] at q; exact q
    · rename_i c; rw [if_neg c] at q; exact q
  | n + 1, w, h, h0, h1, h2, h3, hn, q => by
    refine vb_X9_scanWord_0 ?_
    have h9 := h.2.2.2.2.2
    simp only [bm_c0_v, bm_c1_v, bm_c2_v, bm_c3_v, bm_c4_v, bm_c5_v, bm_u_some, decide_eq_true_eq, true_and, and_true, and_self, Bool.not_eq_true, Bool.not_eq_true', decide_eq_false_iff_not, if_true, if_false, ite_true, ite_false, eq_self, sp_tlength h.2.2.1, sp_byteAt h.2.2.1 h.2.2.2.2.2, sp_isWordSign, sp_wordKind h.1, h.1.1, h.1.2.1, h.1.2.2.1, h.1.2.2.2.1, h.1.2.2.2.2.1, h.1.2.2.2.2.2.1, h.1.2.2.2.2.2.2.1, h.1.2.2.2.2.2.2.2.1, h.1.2.2.2.2.2.2.2.2.1, h.1.2.2.2.2.2.2.2.2.2, h.2.1, h.2.2.1.1, h.2.2.1.2.1, h.2.2.1.2.2.1, h.2.2.1.2.2.2, q_wI (x := bm_gi w t 4 - bm_gi w t 6) ⟨by omega, by omega⟩]
    unfold t_wend t_wval at q
    by_cases c : bm_gi w tp 1 ≤ bm_gi w t 4
    · rw [if_pos c]
      rw [if_neg (by rw [tp_at_out c]; omega), if_neg (by rw [tp_at_out c]; omega), q_wd_same] at q
      split
      · rename_i c; rw [if_pos c] at q; exact q
      · rename_i c; rw [if_neg c] at q; exact q
    · rw [if_neg c]
      by_cases c2 : t_let (tp_at w tp (bm_gi w t 4)) ∨ t_dig (tp_at w tp (bm_gi w t 4))
      · rw [if_pos c2, if_pos c2] at q
        rw [if_pos c2, if_neg (by omega)]
        have e : bm_w (bm_gi w t 4 + 1) = bm_gi w t 4 + 1 := q_wI ⟨by omega, by omega⟩
        simp only [bm_sq_gi, bm_sq_kt, h.1.1, true_and, e]
        refine sp_word_loop n _ h.sq.si ?_ ?_ ?_ ?_ ?_ ?_
        · rw [q_gi_eq]; omega
        · rw [q_gi_eq]; omega
        · rw [q_gi_nk (by decide)]; exact h2
        · rw [q_gi_nk (by decide)]; exact h3
        · rw [q_gi_eq, q_gi_ne (by have := h.2.2.2.1; omega)]; rw [bm_sq_gi]; omega
        · rw [q_wd_step, tp_at_si h.2.2.2.1, q_gi_eq, q_gi_nk (by decide), bm_si_gl, q_gl_eq]
          exact q
      · rw [if_neg c2, if_neg c2, q_wd_same] at q
        rw [if_neg c2, if_pos rfl]
        split
        · rename_i c; rw [if_pos c] at q; exact q
        · rename_i c; rw [if_neg c] at q; exact q
theorem sp_scanWord {d t tp : Nat} {w : bm_W} {Φ : bm_Rt → bm_W → Prop} (h : sh_TT t tp w) (h0 : 0 ≤ bm_gi w t 4) (h1 : bm_gi w t 4 ≤ 1501) (h2 : 0 ≤ bm_gi w t 6) (h3 : bm_gi w t 6 ≤ 1501) : bm_Call bm_pg (d + 3) y_X9_scanWord [bm_r (some t)] w Φ ↔
    Φ (.inl none) (q_wd w t (t_wval (tp_at w tp) 1501 (bm_gi w t 4) (bm_gl w t 7)) (t_wend (tp_at w tp) 1501 (bm_gi w t 4)) (if t_wend (tp_at w tp) 1501 (bm_gi w t 4) - bm_gi w t 6 ≤ 8 then t_wk (t_wval (tp_at w tp) 1501 (bm_gi w t 4) (bm_gl w t 7)) else 1)) :=
  bm_ans (fun Ψ q => ve_X9_scanWord (sp_word_loop 1501 w h h0 h1 h2 h3 (by have := h.2.2.2.2.2; omega) q))
theorem sp_numb_loop {d t tp : Nat} {Ψ : bm_Rt → bm_W → Prop} : ∀ (n : Nat) (w : bm_W), sh_TT t tp w → 0 ≤ bm_gi w t 4 → bm_gi w t 4 ≤ 1501 → 0 ≤ bm_gi w t 6 → bm_gi w t 6 ≤ 1501 → bm_gi w tp 1 ≤ bm_gi w t 4 + n →
    Ψ (.inl none) (q_wd w t (t_nval (tp_at w tp) n (bm_gi w t 4) (bm_gl w t 7)) (t_nend (tp_at w tp) n (bm_gi w t 4)) (if t_nend (tp_at w tp) n (bm_gi w t 4) - bm_gi w t 6 ≤ 4 then 2 else 1)) → bk_X9_scanNumber_0 (d + 2) Ψ t w
  | 0, w, h, h0, h1, h2, h3, hn, q => by
    refine vb_X9_scanNumber_0 ?_
    change Ψ (.inl none) (q_wd w t (bm_gl w t 7) (bm_gi w t 4) (if bm_gi w t 4 - bm_gi w t 6 ≤ 4 then 2 else 1)) at q
    rw [q_wd_same] at q
    simp only [bm_c0_v, bm_c1_v, bm_c2_v, bm_c3_v, bm_c4_v, bm_c5_v, bm_u_some, decide_eq_true_eq, true_and, and_true, and_self, Bool.not_eq_true, Bool.not_eq_true', decide_eq_false_iff_not, if_true, if_false, ite_true, ite_false, eq_self, sp_tlength h.2.2.1, h.1.1, h.1.2.1, h.1.2.2.1, h.1.2.2.2.1, h.1.2.2.2.2.1, h.1.2.2.2.2.2.1, h.1.2.2.2.2.2.2.1, h.1.2.2.2.2.2.2.2.1, h.1.2.2.2.2.2.2.2.2.1, h.1.2.2.2.2.2.2.2.2.2, h.2.1, h.2.2.1.1, h.2.2.1.2.1, h.2.2.1.2.2.1, h.2.2.1.2.2.2, q_wI (x := bm_gi w t 4 - bm_gi w t 6) ⟨by omega, by omega⟩]
    rw [if_pos (by omega)]
    split
    · rename_i c; rw [if_pos c] at q; exact q
    · rename_i c; rw [if_neg c] at q; exact q
  | n + 1, w, h, h0, h1, h2, h3, hn, q => by
    refine vb_X9_scanNumber_0 ?_
    have h9 := h.2.2.2.2.2
    simp only [bm_c0_v, bm_c1_v, bm_c2_v, bm_c3_v, bm_c4_v, bm_c5_v, bm_u_some, decide_eq_true_eq, true_and, and_true, and_self, Bool.not_eq_true, Bool.not_eq_true', decide_eq_false_iff_not, if_true, if_false, ite_true, ite_false, eq_self, sp_tlength h.2.2.1, sp_byteAt h.2.2.1 h.2.2.2.2.2, sp_isDigit, h.1.1, h.1.2.1, h.1.2.2.1, h.1.2.2.2.1, h.1.2.2.2.2.1, h.1.2.2.2.2.2.1, h.1.2.2.2.2.2.2.1, h.1.2.2.2.2.2.2.2.1, h.1.2.2.2.2.2.2.2.2.1, h.1.2.2.2.2.2.2.2.2.2, h.2.1, h.2.2.1.1, h.2.2.1.2.1, h.2.2.1.2.2.1, h.2.2.1.2.2.2, q_wI (x := bm_gi w t 4 - bm_gi w t 6) ⟨by omega, by omega⟩]
    unfold t_nend t_nval at q
    by_cases c : bm_gi w tp 1 ≤ bm_gi w t 4
    · rw [if_pos c]
      rw [if_neg (by rw [tp_at_out c]; omega), if_neg (by rw [tp_at_out c]; omega), q_wd_same] at q
      split
      · rename_i c; rw [if_pos c] at q; exact q
      · rename_i c; rw [if_neg c] at q; exact q
    · rw [if_neg c]
      by_cases c2 : t_dig (tp_at w tp (bm_gi w t 4))
      · rw [if_pos c2, if_pos c2] at q
        rw [if_pos c2, if_neg (by omega)]
        have e : bm_w (bm_gi w t 4 + 1) = bm_gi w t 4 + 1 := q_wI ⟨by omega, by omega⟩
        simp only [bm_sq_gi, bm_sq_kt, h.1.1, true_and, e]
        refine sp_numb_loop n _ h.sq.si ?_ ?_ ?_ ?_ ?_ ?_
        · rw [q_gi_eq]; omega
        · rw [q_gi_eq]; omega
        · rw [q_gi_nk (by decide)]; exact h2
        · rw [q_gi_nk (by decide)]; exact h3
        · rw [q_gi_eq, q_gi_ne (by have := h.2.2.2.1; omega)]; rw [bm_sq_gi]; omega
        · rw [q_wd_step, tp_at_si h.2.2.2.1, q_gi_eq, q_gi_nk (by decide), bm_si_gl, q_gl_eq]
          exact q
      · rw [if_neg c2, if_neg c2, q_wd_same] at q
        rw [if_neg c2, if_pos rfl]
        split
        · rename_i c; rw [if_pos c] at q; exact q
        · rename_i c; rw [if_neg c] at q; exact q
theorem sp_scanNumber {d t tp : Nat} {w : bm_W} {Φ : bm_Rt → bm_W → Prop} (h : sh_TT t tp w) (h0 : 0 ≤ bm_gi w t 4) (h1 : bm_gi w t 4 ≤ 1501) (h2 : 0 ≤ bm_gi w t 6) (h3 : bm_gi w t 6 ≤ 1501) : bm_Call bm_pg (d + 3) y_X9_scanNumber [bm_r (some t)] w Φ ↔
    Φ (.inl none) (q_wd w t (t_nval (tp_at w tp) 1501 (bm_gi w t 4) (bm_gl w t 7)) (t_nend (tp_at w tp) 1501 (bm_gi w t 4)) (if t_nend (tp_at w tp) 1501 (bm_gi w t 4) - bm_gi w t 6 ≤ 4 then 2 else 1)) :=
  bm_ans (fun Ψ q => ve_X9_scanNumber (sp_numb_loop 1501 w h h0 h1 h2 h3 (by have := h.2.2.2.2.2; omega) q))
theorem sp_follows {d t tp : Nat} {b : Int} {w : bm_W} {Φ : bm_Rt → bm_W → Prop} (h : sh_TT t tp w) (h0 : 0 ≤ bm_gi w t 4) (h1 : bm_gi w t 4 ≤ 1501) : bm_Call bm_pg (d + 2) y_X9_follows [bm_r (some t), bm_i b] w Φ ↔ Φ (.inl (some (bm_i (if tp_at w tp (bm_gi w t 4) = b then 1 else 0)))) (if tp_at w tp (bm_gi w t 4) = b then bm_si w t 4 (bm_gi w t 4 + 1) else w) := by
  refine bm_ans (fun Ψ q => vc_X9_follows ?_)
  simp only [bm_c0_v, bm_c1_v, bm_c2_v, bm_c3_v, bm_c4_v, bm_c5_v, bm_u_some, decide_eq_true_eq, true_and, and_true, and_self, Bool.not_eq_true, Bool.not_eq_true', decide_eq_false_iff_not, if_true, if_false, ite_true, ite_false, eq_self, sp_byteAt h.2.2.1 h.2.2.2.2.2, h.1.1, h.1.2.1, h.1.2.2.1, h.1.2.2.2.1, h.1.2.2.2.2.1, h.1.2.2.2.2.2.1, h.1.2.2.2.2.2.2.1, h.1.2.2.2.2.2.2.2.1, h.1.2.2.2.2.2.2.2.2.1, h.1.2.2.2.2.2.2.2.2.2, h.2.1, h.2.2.1.1, h.2.2.1.2.1, h.2.2.1.2.2.1, h.2.2.1.2.2.2, q_wI (x := bm_gi w t 4 + 1) ⟨by omega, by omega⟩]
  grind
def t_sk (b c : Int) : Int := if b = 37 then 32 else if b = 40 then 16 else if b = 41 then 17 else if b = 42 then 30 else if b = 43 then 28 else if b = 44 then 18 else if b = 45 then 29 else if b = 46 then (if c = 46 then 33 else 1) else if b = 47 then 31 else if b = 58 then 20 else if b = 59 then 19 else if b = 60 then (if c = 61 then 25 else if c = 62 then 23 else 24) else if b = 61 then 22 else if b = 62 then (if c = 61 then 27 else 26) else if b = 124 then 21 else 1
def t_sl (b c : Int) : Int := if b = 46 ∧ c = 46 ∨ b = 60 ∧ (c = 61 ∨ c = 62) ∨ b = 62 ∧ c = 61 then 1 else 0
theorem sp_symbolKind {d t tp : Nat} {b : Int} {w : bm_W} {Φ : bm_Rt → bm_W → Prop} (h : sh_TT t tp w) (h0 : 0 ≤ bm_gi w t 4) (h1 : bm_gi w t 4 ≤ 1501) : bm_Call bm_pg (d + 3) y_X9_symbolKind [bm_r (some t), bm_i b] w Φ ↔ Φ (.inl (some (bm_i (t_sk b (tp_at w tp (bm_gi w t 4)))))) (bm_si w t 4 (bm_gi w t 4 + t_sl b (tp_at w tp (bm_gi w t 4)))) := by
  refine bm_ans (fun Ψ q => vc_X9_symbolKind ?_)
  have e := q_si_same w t 4
  have e0 : bm_gi w t 4 + 0 = bm_gi w t 4 := Int.add_zero _
  by_cases c1 : tp_at w tp (bm_gi w t 4) = 61
  · simp only [bm_c0_v, bm_c1_v, bm_c2_v, bm_c3_v, bm_c4_v, bm_c5_v, bm_u_some, decide_eq_true_eq, true_and, and_true, and_self, Bool.not_eq_true, Bool.not_eq_true', decide_eq_false_iff_not, if_true, if_false, ite_true, ite_false, eq_self, sp_follows h h0 h1, h.1.1, h.1.2.1, h.1.2.2.1, h.1.2.2.2.1, h.1.2.2.2.2.1, h.1.2.2.2.2.2.1, h.1.2.2.2.2.2.2.1, h.1.2.2.2.2.2.2.2.1, h.1.2.2.2.2.2.2.2.2.1, h.1.2.2.2.2.2.2.2.2.2, if_pos c1]
    unfold t_sk t_sl at q
    grind (splits := 40)
  by_cases c2 : tp_at w tp (bm_gi w t 4) = 62
  · simp only [bm_c0_v, bm_c1_v, bm_c2_v, bm_c3_v, bm_c4_v, bm_c5_v, bm_u_some, decide_eq_true_eq, true_and, and_true, and_self, Bool.not_eq_true, Bool.not_eq_true', decide_eq_false_iff_not, if_true, if_false, ite_true, ite_false, eq_self, sp_follows h h0 h1, h.1.1, h.1.2.1, h.1.2.2.1, h.1.2.2.2.1, h.1.2.2.2.2.1, h.1.2.2.2.2.2.1, h.1.2.2.2.2.2.2.1, h.1.2.2.2.2.2.2.2.1, h.1.2.2.2.2.2.2.2.2.1, h.1.2.2.2.2.2.2.2.2.2, if_pos c2, if_neg c1]
    unfold t_sk t_sl at q
    grind (splits := 40)
  by_cases c3 : tp_at w tp (bm_gi w t 4) = 46
  · simp only [bm_c0_v, bm_c1_v, bm_c2_v, bm_c3_v, bm_c4_v, bm_c5_v, bm_u_some, decide_eq_true_eq, true_and, and_true, and_self, Bool.not_eq_true, Bool.not_eq_true', decide_eq_false_iff_not, if_true, if_false, ite_true, ite_false, eq_self, sp_follows h h0 h1, h.1.1, h.1.2.1, h.1.2.2.1, h.1.2.2.2.1, h.1.2.2.2.2.1, h.1.2.2.2.2.2.1, h.1.2.2.2.2.2.2.1, h.1.2.2.2.2.2.2.2.1, h.1.2.2.2.2.2.2.2.2.1, h.1.2.2.2.2.2.2.2.2.2, if_pos c3, if_neg c1, if_neg c2]
    unfold t_sk t_sl at q
    grind (splits := 40)
  simp only [bm_c0_v, bm_c1_v, bm_c2_v, bm_c3_v, bm_c4_v, bm_c5_v, bm_u_some, decide_eq_true_eq, true_and, and_true, and_self, Bool.not_eq_true, Bool.not_eq_true', decide_eq_false_iff_not, if_true, if_false, ite_true, ite_false, eq_self, sp_follows h h0 h1, h.1.1, h.1.2.1, h.1.2.2.1, h.1.2.2.2.1, h.1.2.2.2.2.1, h.1.2.2.2.2.2.1, h.1.2.2.2.2.2.2.1, h.1.2.2.2.2.2.2.2.1, h.1.2.2.2.2.2.2.2.2.1, h.1.2.2.2.2.2.2.2.2.2, if_neg c3, if_neg c1, if_neg c2]
  unfold t_sk t_sl at q
  grind (splits := 40)

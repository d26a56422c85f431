/-! ===== scanning, in the class: one token, all tokens ===== -/
theorem q_weq {w w' : bm_W} (h : ∀ a j, bm_gi w a j = bm_gi w' a j) (h2 : ∀ a j, bm_gl w a j = bm_gl w' a j) (h3 : w.2.2 = w'.2.2) : w = w' := by
  obtain ⟨g, l, r⟩ := w
  obtain ⟨g', l', r'⟩ := w'
  have e1 : g = g' := funext fun a => funext fun j => h a j
  have e2 : l = l' := funext fun a => funext fun j => h2 a j
  have e3 : r = r' := h3
  rw [e1, e2, e3]
theorem t_skip_rng {B : Int → Int} {L : Int} (hB : ∀ x, L ≤ x → B x = -1) : ∀ (n : Nat) (p : Int), p ≤ L → p ≤ t_skip B n p ∧ t_skip B n p ≤ L
  | 0, p, h => ⟨Int.le_refl _, h⟩
  | n + 1, p, h => by
    unfold t_skip
    split
    · rename_i c
      have : p < L := by
        rcases Int.lt_or_le p L with q | q
        · exact q
        · rw [hB p q] at c; omega
      have := t_skip_rng hB n (p + 1) (by omega)
      omega
    · omega
theorem t_wend_rng {B : Int → Int} {L : Int} (hB : ∀ x, L ≤ x → B x = -1) : ∀ (n : Nat) (p : Int), p ≤ L → p ≤ t_wend B n p ∧ t_wend B n p ≤ L
  | 0, p, h => ⟨Int.le_refl _, h⟩
  | n + 1, p, h => by
    unfold t_wend
    split
    · rename_i c
      have : p < L := by
        rcases Int.lt_or_le p L with q | q
        · exact q
        · rw [hB p q] at c; omega
      have := t_wend_rng hB n (p + 1) (by omega)
      omega
    · omega
theorem t_nend_rng {B : Int → Int} {L : Int} (hB : ∀ x, L ≤ x → B x = -1) : ∀ (n : Nat) (p : Int), p ≤ L → p ≤ t_nend B n p ∧ t_nend B n p ≤ L
  | 0, p, h => ⟨Int.le_refl _, h⟩
  | n + 1, p, h => by
    unfold t_nend
    split
    · rename_i c
      have : p < L := by
        rcases Int.lt_or_le p L with q | q
        · exact q
        · rw [hB p q] at c; omega
      have := t_nend_rng hB n (p + 1) (by omega)
      omega
    · omega
/-- the token that begins at p: its kind, its end, its value -/
def t_k (B : Int → Int) (p : Int) : Int := if B p < 0 then 0 else if t_let (B p) then (if t_wend B 1501 p - p ≤ 8 then t_wk (t_wval B 1501 p 0) else 1) else if t_dig (B p) then (if t_nend B 1501 p - p ≤ 4 then 2 else 1) else t_sk (B p) (B (p + 1))
def t_e (B : Int → Int) (p : Int) : Int := if B p < 0 then p else if t_let (B p) then t_wend B 1501 p else if t_dig (B p) then t_nend B 1501 p else p + 1 + t_sl (B p) (B (p + 1))
def t_v (B : Int → Int) (p : Int) : Int := if B p < 0 then 0 else if t_let (B p) then t_wval B 1501 p 0 else if t_dig (B p) then t_nval B 1501 p 0 else 0
theorem t_sl_01 (b c : Int) : t_sl b c = 0 ∨ t_sl b c = 1 := by unfold t_sl; split <;> omega
theorem t_e_rng {B : Int → Int} {L : Int} (hB : ∀ x, L ≤ x → B x = -1) (p : Int) (h : p ≤ L) : p ≤ t_e B p ∧ t_e B p ≤ L ∧ (0 ≤ B p → p < t_e B p) := by
  unfold t_e
  by_cases c : B p < 0
  · rw [if_pos c]; omega
  have hp : p < L := by
    rcases Int.lt_or_le p L with q | q
    · exact q
    · rw [hB p q] at c; omega
  rw [if_neg c]
  split
  · rename_i c2
    have e : t_wend B 1501 p = t_wend B 1500 (p + 1) := by
      rw [show (1501 : Nat) = 1500 + 1 from rfl, t_wend, if_pos (Or.inl c2)]
    rw [e]
    have := t_wend_rng hB 1500 (p + 1) (by omega)
    omega
  · split
    · rename_i c2
      have e : t_nend B 1501 p = t_nend B 1500 (p + 1) := by
        rw [show (1501 : Nat) = 1500 + 1 from rfl, t_nend, if_pos c2]
      rw [e]
      have := t_nend_rng hB 1500 (p + 1) (by omega)
      omega
    · have := t_sl_01 (B p) (B (p + 1))
      refine ⟨by omega, ?_, by omega⟩
      rcases Int.lt_or_le (p + 1) L with q | q
      · omega
      · have : t_sl (B p) (B (p + 1)) = 0 := by
          unfold t_sl
          rw [hB _ q]
          split <;> omega
        omega
def q_tok (w : bm_W) (t : Nat) (p v e k : Int) : bm_W := bm_si (bm_si (bm_si (bm_sq w t 7 v) t 6 p) t 4 e) t 5 k
theorem sp_scanOne {d t tp : Nat} {w : bm_W} {Φ : bm_Rt → bm_W → Prop} (h : sh_TT t tp w) (h0 : 0 ≤ bm_gi w t 4) (h1 : bm_gi w t 4 ≤ bm_gi w tp 1) : bm_Call bm_pg (d + 4) y_X9_scanOne [bm_r (some t)] w Φ ↔
    Φ (.inl none) (q_tok w t (t_skip (tp_at w tp) 1501 (bm_gi w t 4)) (t_v (tp_at w tp) (t_skip (tp_at w tp) 1501 (bm_gi w t 4))) (t_e (tp_at w tp) (t_skip (tp_at w tp) 1501 (bm_gi w t 4))) (t_k (tp_at w tp) (t_skip (tp_at w tp) 1501 (bm_gi w t 4)))) := by
  refine bm_ans (fun Ψ q => vc_X9_scanOne ?_)
  have hL := h.2.2.2.2.2
  have ht := h.2.2.2.1
  have hB : ∀ x, bm_gi w tp 1 ≤ x → tp_at w tp x = -1 := fun x hx => tp_at_out hx
  simp only [bm_c0_v, bm_c1_v, bm_c2_v, bm_c3_v, bm_c4_v, bm_c5_v, bm_u_some, decide_eq_true_eq, true_and, and_true, and_self, Bool.not_eq_true, Bool.not_eq_true', decide_eq_false_iff_not, if_true, if_false, ite_true, ite_false, eq_self, sp_skipBlanks (d := d + 1) h h0, h.1.1, h.1.2.1, h.1.2.2.1, h.1.2.2.2.1, h.1.2.2.2.2.1, h.1.2.2.2.2.2.1, h.1.2.2.2.2.2.2.1, h.1.2.2.2.2.2.2.2.1, h.1.2.2.2.2.2.2.2.2.1, h.1.2.2.2.2.2.2.2.2.2, h.2.1, h.2.2.1.1, h.2.2.1.2.1, h.2.2.1.2.2.1, h.2.2.1.2.2.2, bm_si_kt, bm_si_kn, bm_si_sz, bm_si_sl, bm_si_gi, bm_si_gl, bm_si_gr, bm_sq_kt, bm_sq_kn, bm_sq_sz, bm_sq_sl, bm_sq_gi, bm_sq_gl, bm_sq_gr, bm_sr_kt, bm_sr_kn, bm_sr_sz, bm_sr_sl, bm_sr_gi, bm_sr_gl, bm_sr_gr]
  have hr := t_skip_rng hB 1501 (bm_gi w t 4) h1
  generalize t_skip (tp_at w tp) 1501 (bm_gi w t 4) = p at q hr ⊢
  simp only [Nat.reduceEqDiff, and_true, and_false, if_true, if_false, reduceIte]
  have H : sh_TT t tp (bm_sq (bm_si (bm_si w t 4 p) t 6 p) t 7 0) := h.si.si.sq
  have H2 : bm_gi (bm_sq (bm_si (bm_si w t 4 p) t 6 p) t 7 0) t 4 = p := by rw [bm_sq_gi, q_gi_nk (by decide), q_gi_eq]
  have H3 : bm_gi (bm_sq (bm_si (bm_si w t 4 p) t 6 p) t 7 0) t 6 = p := by rw [bm_sq_gi, q_gi_eq]
  have H4 : bm_gl (bm_sq (bm_si (bm_si w t 4 p) t 6 p) t 7 0) t 7 = 0 := q_gl_eq
  have H5 : tp_at (bm_sq (bm_si (bm_si w t 4 p) t 6 p) t 7 0) tp = tp_at w tp := (tp_at_si (w := bm_si w t 4 p) ht).trans (tp_at_si ht)
  have H6 : bm_gi (bm_sq (bm_si (bm_si w t 4 p) t 6 p) t 7 0) tp 1 ≤ 1500 := H.2.2.2.2.2
  have H7 : ∀ (V E K : Int), bm_si (bm_si (bm_sq (bm_sq (bm_si (bm_si w t 4 p) t 6 p) t 7 0) t 7 V) t 4 E) t 5 K = q_tok w t p V E K := by
    intro V E K
    unfold q_tok
    refine q_weq (fun a j => ?_) (fun a j => ?_) rfl
    · simp only [bm_si_kt, bm_si_kn, bm_si_sz, bm_si_sl, bm_si_gi, bm_si_gl, bm_si_gr, bm_sq_kt, bm_sq_kn, bm_sq_sz, bm_sq_sl, bm_sq_gi, bm_sq_gl, bm_sq_gr, bm_sr_kt, bm_sr_kn, bm_sr_sz, bm_sr_sl, bm_sr_gi, bm_sr_gl, bm_sr_gr]; grind
    · simp only [bm_si_kt, bm_si_kn, bm_si_sz, bm_si_sl, bm_si_gi, bm_si_gl, bm_si_gr, bm_sq_kt, bm_sq_kn, bm_sq_sz, bm_sq_sl, bm_sq_gi, bm_sq_gl, bm_sq_gr, bm_sr_kt, bm_sr_kn, bm_sr_sz, bm_sr_sl, bm_sr_gi, bm_sr_gl, bm_sr_gr]; grind
  have H8 : ∀ (K : Int), bm_si (bm_sq (bm_si (bm_si w t 4 p) t 6 p) t 7 0) t 5 K = q_tok w t p 0 p K := by
    intro K
    unfold q_tok
    refine q_weq (fun a j => ?_) (fun a j => ?_) rfl
    · simp only [bm_si_kt, bm_si_kn, bm_si_sz, bm_si_sl, bm_si_gi, bm_si_gl, bm_si_gr, bm_sq_kt, bm_sq_kn, bm_sq_sz, bm_sq_sl, bm_sq_gi, bm_sq_gl, bm_sq_gr, bm_sr_kt, bm_sr_kn, bm_sr_sz, bm_sr_sl, bm_sr_gi, bm_sr_gl, bm_sr_gr]; grind
    · simp only [bm_si_kt, bm_si_kn, bm_si_sz, bm_si_sl, bm_si_gi, bm_si_gl, bm_si_gr, bm_sq_kt, bm_sq_kn, bm_sq_sz, bm_sq_sl, bm_sq_gi, bm_sq_gl, bm_sq_gr, bm_sr_kt, bm_sr_kn, bm_sr_sz, bm_sr_sl, bm_sr_gi, bm_sr_gl, bm_sr_gr]
  generalize bm_sq (bm_si (bm_si w t 4 p) t 6 p) t 7 0 = w2 at H H2 H3 H4 H5 H6 H7 H8 ⊢
  simp only [bm_c0_v, bm_c1_v, bm_c2_v, bm_c3_v, bm_c4_v, bm_c5_v, bm_u_some, decide_eq_true_eq, true_and, and_true, and_self, Bool.not_eq_true, Bool.not_eq_true', decide_eq_false_iff_not, if_true, if_false, ite_true, ite_false, eq_self, sp_byteAt H.2.2.1 H6, sp_isLetter, sp_isDigit, H5, H2, sp_scanWord (d := d) H (by omega) (by omega) (by omega) (by omega), sp_scanNumber (d := d) H (by omega) (by omega) (by omega) (by omega), H3, H4, H.1.1, H.1.2.1, H.1.2.2.1, H.1.2.2.2.1, H.1.2.2.2.2.1, H.1.2.2.2.2.2.1, H.1.2.2.2.2.2.2.1, H.1.2.2.2.2.2.2.2.1, H.1.2.2.2.2.2.2.2.2.1, H.1.2.2.2.2.2.2.2.2.2]
  unfold t_k t_e t_v at q
  by_cases c : tp_at w tp p < 0
  · rw [if_neg (by omega), H8]
    rw [if_pos c, if_pos c, if_pos c] at q
    exact q
  rw [if_neg c, if_neg c, if_neg c] at q
  rw [if_pos (by omega)]
  by_cases c2 : t_let (tp_at w tp p)
  · rw [if_pos c2, if_pos c2, if_pos c2] at q
    rw [if_pos c2, if_neg (by omega)]
    unfold q_wd
    rw [H7]
    exact q
  rw [if_neg c2, if_neg c2, if_neg c2] at q
  rw [if_neg c2, if_pos rfl]
  by_cases c3 : t_dig (tp_at w tp p)
  · rw [if_pos c3, if_pos c3, if_pos c3] at q
    rw [if_pos c3, if_neg (by omega)]
    unfold q_wd
    rw [H7]
    exact q
  rw [if_neg c3, if_neg c3, if_neg c3] at q
  rw [if_neg c3, if_pos rfl]
  have hp : p < bm_gi w tp 1 := by
    rcases Int.lt_or_le p (bm_gi w tp 1) with z | z
    · exact z
    · rw [hB p z] at c; omega
  rw [q_wI ⟨by omega, by omega⟩]
  have H' : sh_TT t tp (bm_si w2 t 4 (p + 1)) := H.si
  simp only [bm_c0_v, bm_c1_v, bm_c2_v, bm_c3_v, bm_c4_v, bm_c5_v, bm_u_some, decide_eq_true_eq, true_and, and_true, and_self, Bool.not_eq_true, Bool.not_eq_true', decide_eq_false_iff_not, if_true, if_false, ite_true, ite_false, eq_self, sp_symbolKind (d := d) H' (by rw [q_gi_eq]; omega) (by rw [q_gi_eq]; omega), bm_si_kt, bm_si_kn, bm_si_sz, bm_si_sl, bm_si_gi, bm_si_gl, bm_si_gr, bm_sq_kt, bm_sq_kn, bm_sq_sz, bm_sq_sl, bm_sq_gi, bm_sq_gl, bm_sq_gr, bm_sr_kt, bm_sr_kn, bm_sr_sz, bm_sr_sl, bm_sr_gi, bm_sr_gl, bm_sr_gr, H.1.1, H.1.2.1, H.1.2.2.1, H.1.2.2.2.1, H.1.2.2.2.2.1, H.1.2.2.2.2.2.1, H.1.2.2.2.2.2.2.1, H.1.2.2.2.2.2.2.2.1, H.1.2.2.2.2.2.2.2.2.1, H.1.2.2.2.2.2.2.2.2.2, tp_at_si ht, H5, and_self, if_true, q_si_si]
  rw [show bm_si (bm_si w2 t 4 (p + 1 + t_sl (tp_at w tp p) (tp_at w tp (p + 1)))) t 5 (t_sk (tp_at w tp p) (tp_at w tp (p + 1))) = q_tok w t p 0 (p + 1 + t_sl (tp_at w tp p) (tp_at w tp (p + 1))) (t_sk (tp_at w tp p) (tp_at w tp (p + 1))) from by
    rw [← H7, ← H4, q_sq_same]]
  exact q

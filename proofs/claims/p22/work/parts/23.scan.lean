/-! ===== scanning, in the class ===== -/
theorem q_si_same (w : bm_W) (a k : Nat) : bm_si w a k (bm_gi w a k) = w := by
  obtain ⟨g, r⟩ := w
  show ((fun b j => if b = a ∧ j = k then g a k else g b j), r) = (g, r)
  rw [show (fun b j => if b = a ∧ j = k then g a k else g b j) = g from by
    funext b j
    split
    · rename_i c; rw [c.1, c.2]
    · rfl]
theorem q_si_si (w : bm_W) (a k : Nat) (u v : Int) : bm_si (bm_si w a k u) a k v = bm_si w a k v := by
  obtain ⟨g, r⟩ := w
  show ((fun b j => if b = a ∧ j = k then v else if b = a ∧ j = k then u else g b j), r) = ((fun b j => if b = a ∧ j = k then v else g b j), r)
  rw [show (fun b j => if b = a ∧ j = k then v else if b = a ∧ j = k then u else g b j) = (fun b j => if b = a ∧ j = k then v else g b j) from by
    funext b j
    split
    · rfl
    · rfl]
theorem q_sq_same (w : bm_W) (a k : Nat) : bm_sq w a k (bm_gl w a k) = w := by
  obtain ⟨g, l, r⟩ := w
  show (g, (fun b j => if b = a ∧ j = k then l a k else l b j), r) = (g, l, r)
  rw [show (fun b j => if b = a ∧ j = k then l a k else l b j) = l from by
    funext b j
    split
    · rename_i c; rw [c.1, c.2]
    · rfl]
theorem q_sq_sq (w : bm_W) (a k : Nat) (u v : Int) : bm_sq (bm_sq w a k u) a k v = bm_sq w a k v := by
  obtain ⟨g, l, r⟩ := w
  show (g, (fun b j => if b = a ∧ j = k then v else if b = a ∧ j = k then u else l b j), r) = (g, (fun b j => if b = a ∧ j = k then v else l b j), r)
  rw [show (fun b j => if b = a ∧ j = k then v else if b = a ∧ j = k then u else l b j) = (fun b j => if b = a ∧ j = k then v else l b j) from by
    funext b j
    split
    · rfl
    · rfl]
theorem q_gi_ne {w : bm_W} {a k b j : Nat} {v : Int} (h : b ≠ a) : bm_gi (bm_si w a k v) b j = bm_gi w b j := if_neg (fun q => h q.1)
theorem q_gi_nk {w : bm_W} {a k b j : Nat} {v : Int} (h : j ≠ k) : bm_gi (bm_si w a k v) b j = bm_gi w b j := if_neg (fun q => h q.2)
theorem q_gi_eq {w : bm_W} {a k : Nat} {v : Int} : bm_gi (bm_si w a k v) a k = v := if_pos ⟨rfl, rfl⟩
theorem q_gl_ne {w : bm_W} {a k b j : Nat} {v : Int} (h : b ≠ a) : bm_gl (bm_sq w a k v) b j = bm_gl w b j := if_neg (fun q => h q.1)
theorem q_gl_nk {w : bm_W} {a k b j : Nat} {v : Int} (h : j ≠ k) : bm_gl (bm_sq w a k v) b j = bm_gl w b j := if_neg (fun q => h q.2)
theorem q_gl_eq {w : bm_W} {a k : Nat} {v : Int} : bm_gl (bm_sq w a k v) a k = v := if_pos ⟨rfl, rfl⟩
theorem q_sq_si (w : bm_W) (a k b j : Nat) (u v : Int) : bm_sq (bm_si w a k u) b j v = bm_si (bm_sq w b j v) a k u := rfl
abbrev t_let (b : Int) : Prop := 97 ≤ b ∧ b ≤ 122
abbrev t_dig (b : Int) : Prop := 48 ≤ b ∧ b ≤ 57
abbrev t_bl (b : Int) : Prop := b = 32 ∨ b = 10
def t_skip (B : Int → Int) : Nat → Int → Int
  | 0, p => p
  | n + 1, p => if t_bl (B p) then t_skip B n (p + 1) else p
def sh_TT (t tp : Nat) (w : bm_W) : Prop := sh_Tk t w ∧ bm_gr w t 0 = some tp ∧ sh_Tp tp w ∧ t = tp + 2 ∧ 0 ≤ bm_gi w tp 1 ∧ bm_gi w tp 1 ≤ 1500
theorem sh_TT.si {t tp k : Nat} {v : Int} {w : bm_W} (h : sh_TT t tp w) : sh_TT t tp (bm_si w t k v) := by
  obtain ⟨h1, h2, h3, h4, h5⟩ := h
  refine ⟨h1, h2, h3, h4, ?_⟩
  rw [bm_si_gi, if_neg (by omega)]
  exact h5
theorem sh_TT.sq {t tp k : Nat} {v : Int} {w : bm_W} (h : sh_TT t tp w) : sh_TT t tp (bm_sq w t k v) := h
theorem tp_at_si {w : bm_W} {t tp k : Nat} {v : Int} (h : t = tp + 2) : tp_at (bm_si w t k v) tp = tp_at w tp := by
  funext p
  unfold tp_at tp_b
  rw [q_gi_ne (b := tp) (by omega), q_gi_ne (b := tp + 1) (by omega)]
theorem tp_at_out {w : bm_W} {tp : Nat} {p : Int} (h : bm_gi w tp 1 ≤ p) : tp_at w tp p = -1 := if_neg (by omega)
theorem sp_isLetter {d : Nat} {b : Int} {w : bm_W} {Φ : bm_Rt → bm_W → Prop} : bm_Call bm_pg (d + 1) y_X9_isLetter [bm_i b] w Φ ↔ Φ (.inl (some (bm_i (if t_let b then 1 else 0)))) w := by
  refine bm_ans (fun Ψ q => vc_X9_isLetter ?_)
  grind
theorem sp_isDigit {d : Nat} {b : Int} {w : bm_W} {Φ : bm_Rt → bm_W → Prop} : bm_Call bm_pg (d + 1) y_X9_isDigit [bm_i b] w Φ ↔ Φ (.inl (some (bm_i (if t_dig b then 1 else 0)))) w := by
  refine bm_ans (fun Ψ q => vc_X9_isDigit ?_)
  grind
theorem sp_isBlank {d : Nat} {b : Int} {w : bm_W} {Φ : bm_Rt → bm_W → Prop} : bm_Call bm_pg (d + 1) y_X9_isBlank [bm_i b] w Φ ↔ Φ (.inl (some (bm_i (if t_bl b then 1 else 0)))) w := by
  refine bm_ans (fun Ψ q => vc_X9_isBlank ?_)
  grind
theorem sp_isWordSign {d : Nat} {b : Int} {w : bm_W} {Φ : bm_Rt → bm_W → Prop} : bm_Call bm_pg (d + 2) y_X9_isWordSign [bm_i b] w Φ ↔ Φ (.inl (some (bm_i (if t_let b ∨ t_dig b then 1 else 0)))) w := by
  refine bm_ans (fun Ψ q => vc_X9_isWordSign ?_)
  simp only [bm_c0_v, bm_c1_v, bm_c2_v, bm_c3_v, bm_c4_v, bm_c5_v, bm_u_some, decide_eq_true_eq, true_and, and_true, and_self, Bool.not_eq_true, Bool.not_eq_true', decide_eq_false_iff_not, if_true, if_false, ite_true, ite_false, eq_self, sp_isLetter, sp_isDigit]
  grind
theorem sp_skip_loop {d t tp : Nat} {Ψ : bm_Rt → bm_W → Prop} : ∀ (n : Nat) (w : bm_W), sh_TT t tp w → 0 ≤ bm_gi w t 4 → bm_gi w tp 1 ≤ bm_gi w t 4 + n → Ψ (.inl none) (bm_si w t 4 (t_skip (tp_at w tp) n (bm_gi w t 4))) → bk_X9_skipBlanks_0 (d + 1) Ψ t w
  | 0, w, h, h0, hn, q => by
    refine vb_X9_skipBlanks_0 ?_
    rw [show t_skip (tp_at w tp) 0 (bm_gi w t 4) = bm_gi w t 4 from rfl, q_si_same] at q
    simp only [bm_c0_v, bm_c1_v, bm_c2_v, bm_c3_v, bm_c4_v, bm_c5_v, bm_u_some, decide_eq_true_eq, true_and, and_true, and_self, Bool.not_eq_true, Bool.not_eq_true', decide_eq_false_iff_not, if_true, if_false, ite_true, ite_false, eq_self, sp_tlength h.2.2.1, h.1.1, h.1.2.1, h.1.2.2.1, h.1.2.2.2.1, h.1.2.2.2.2.1, h.1.2.2.2.2.2.1, h.1.2.2.2.2.2.2.1, h.1.2.2.2.2.2.2.2.1, h.1.2.2.2.2.2.2.2.2.1, h.1.2.2.2.2.2.2.2.2.2, h.2.1, h.2.2.1.1, h.2.2.1.2.1, h.2.2.1.2.2.1, h.2.2.1.2.2.2]
    rw [if_pos (by omega)]
    exact q
  | n + 1, w, h, h0, hn, q => by
    refine vb_X9_skipBlanks_0 ?_
    simp only [bm_c0_v, bm_c1_v, bm_c2_v, bm_c3_v, bm_c4_v, bm_c5_v, bm_u_some, decide_eq_true_eq, true_and, and_true, and_self, Bool.not_eq_true, Bool.not_eq_true', decide_eq_false_iff_not, if_true, if_false, ite_true, ite_false, eq_self, sp_tlength h.2.2.1, sp_byteAt h.2.2.1 h.2.2.2.2.2, sp_isBlank, h.1.1, h.1.2.1, h.1.2.2.1, h.1.2.2.2.1, h.1.2.2.2.2.1, h.1.2.2.2.2.2.1, h.1.2.2.2.2.2.2.1, h.1.2.2.2.2.2.2.2.1, h.1.2.2.2.2.2.2.2.2.1, h.1.2.2.2.2.2.2.2.2.2, h.2.1, h.2.2.1.1, h.2.2.1.2.1, h.2.2.1.2.2.1, h.2.2.1.2.2.2]
    unfold t_skip at q
    by_cases c : bm_gi w tp 1 ≤ bm_gi w t 4
    · rw [if_pos c]
      rw [if_neg (by rw [tp_at_out c]; omega), q_si_same] at q
      exact q
    · rw [if_neg c]
      by_cases c2 : t_bl (tp_at w tp (bm_gi w t 4))
      · rw [if_pos c2] at q
        rw [if_pos c2, if_neg (by omega), q_wI ⟨by omega, by have := h.2.2.2.2.2; omega⟩]
        refine sp_skip_loop n _ h.si ?_ ?_ ?_
        · rw [q_gi_eq]; omega
        · rw [q_gi_eq, q_gi_ne (b := tp) (by have := h.2.2.2.1; omega)]; omega
        · rw [tp_at_si h.2.2.2.1, q_si_si, q_gi_eq]
          exact q
      · rw [if_neg c2, q_si_same] at q
        rw [if_neg c2, if_pos rfl]
        exact q
theorem sp_skipBlanks {d t tp : Nat} {w : bm_W} {Φ : bm_Rt → bm_W → Prop} (h : sh_TT t tp w) (h0 : 0 ≤ bm_gi w t 4) : bm_Call bm_pg (d + 2) y_X9_skipBlanks [bm_r (some t)] w Φ ↔ Φ (.inl none) (bm_si w t 4 (t_skip (tp_at w tp) 1501 (bm_gi w t 4))) :=
  bm_ans (fun Ψ q => ve_X9_skipBlanks (sp_skip_loop 1501 w h h0 (by have := h.2.2.2.2.2; omega) q))
/-- the kind of a word -/
def t_wk (v : Int) : Int := if v = 6714734 then 4 else if v = 26990 then 5 else if v = 26982 then 6 else if v = 1952998766 then 7 else if v = 1701606245 then 8 else if v = 6385252 then 9 else if v = 28530 then 10 else if v = 7237492 then 11 else if v = 499850046565 then 12 else if v = 28518 then 13 else if v = 6385273 then 14 else if v = 435711799154 then 15 else 3
theorem sp_wordKind {d t : Nat} {w : bm_W} {Φ : bm_Rt → bm_W → Prop} (h : sh_Tk t w) : bm_Call bm_pg (d + 1) y_X9_wordKind [bm_r (some t)] w Φ ↔ Φ (.inl (some (bm_i (t_wk (bm_gl w t 7))))) w := by
  refine bm_ans (fun Ψ q => vc_X9_wordKind ?_)
  unfold t_wk at q
  have st : ∀ (i : Int) (v : Int), 0 ≤ i → i < 12 → ((bm_KK.2.2.2.1.getD i.toNat 0).toInt) = v → (if bm_gl w t 7 = v then Ψ (.inl (some (bm_i (4 + i)))) w else bk_X9_wordKind_2 d Ψ t (i + 1) w) → bk_X9_wordKind_2 d Ψ t i w := by
    intro i v h0 h1 hv hh
    refine vb_X9_wordKind_2 ?_
    have hl : bm_KK.2.2.2.1.length = 12 := rfl
    have hk : bm_kLen bm_KK (2, 0) = 12 := rfl
    simp only [bm_c0_v, bm_c1_v, bm_c2_v, bm_c3_v, bm_c4_v, bm_c5_v, bm_u_some, decide_eq_true_eq, true_and, and_true, and_self, Bool.not_eq_true, Bool.not_eq_true', decide_eq_false_iff_not, if_true, if_false, ite_true, ite_false, eq_self, h.1, h.2.1, h.2.2.1, h.2.2.2.1, h.2.2.2.2.1, h.2.2.2.2.2.1, h.2.2.2.2.2.2.1, h.2.2.2.2.2.2.2.1, h.2.2.2.2.2.2.2.2.1, h.2.2.2.2.2.2.2.2.2, bm_in, hl, hk, hv, bm_kIs]
    refine ⟨by omega, ?_⟩
    rw [if_neg (by omega)]
    refine ⟨by omega, ?_⟩
    by_cases c : bm_gl w t 7 = v
    · rw [if_pos c] at hh
      rw [if_neg (by simp [c]), q_wI ⟨by omega, by omega⟩]
      exact hh
    · rw [if_neg c] at hh
      rw [if_pos (by intro e; exact c e.symm), q_wI ⟨by omega, by omega⟩]
      exact hh
  refine st 0 6714734 (by omega) (by omega) rfl ?_
  split
  · rename_i e; rw [if_pos e] at q; exact q
  rename_i e; rw [if_neg e] at q
  refine st _ 26990 (by omega) (by omega) rfl ?_
  split
  · rename_i e; rw [if_pos e] at q; exact q
  rename_i e; rw [if_neg e] at q
  refine st _ 26982 (by omega) (by omega) rfl ?_
  split
  · rename_i e; rw [if_pos e] at q; exact q
  rename_i e; rw [if_neg e] at q
  refine st _ 1952998766 (by omega) (by omega) rfl ?_
  split
  · rename_i e; rw [if_pos e] at q; exact q
  rename_i e; rw [if_neg e] at q
  refine st _ 1701606245 (by omega) (by omega) rfl ?_
  split
  · rename_i e; rw [if_pos e] at q; exact q
  rename_i e; rw [if_neg e] at q
  refine st _ 6385252 (by omega) (by omega) rfl ?_
  split
  · rename_i e; rw [if_pos e] at q; exact q
  rename_i e; rw [if_neg e] at q
  refine st _ 28530 (by omega) (by omega) rfl ?_
  split
  · rename_i e; rw [if_pos e] at q; exact q
  rename_i e; rw [if_neg e] at q
  refine st _ 7237492 (by omega) (by omega) rfl ?_
  split
  · rename_i e; rw [if_pos e] at q; exact q
  rename_i e; rw [if_neg e] at q
  refine st _ 499850046565 (by omega) (by omega) rfl ?_
  split
  · rename_i e; rw [if_pos e] at q; exact q
  rename_i e; rw [if_neg e] at q
  refine st _ 28518 (by omega) (by omega) rfl ?_
  split
  · rename_i e; rw [if_pos e] at q; exact q
  rename_i e; rw [if_neg e] at q
  refine st _ 6385273 (by omega) (by omega) rfl ?_
  split
  · rename_i e; rw [if_pos e] at q; exact q
  rename_i e; rw [if_neg e] at q
  refine st _ 435711799154 (by omega) (by omega) rfl ?_
  split
  · rename_i e; rw [if_pos e] at q; exact q
  rename_i e; rw [if_neg e] at q
  refine vb_X9_wordKind_2 ?_
  have hk : bm_kLen bm_KK (2, 0) = 12 := rfl
  simp only [bm_c0_v, bm_c1_v, bm_c2_v, bm_c3_v, bm_c4_v, bm_c5_v, bm_u_some, decide_eq_true_eq, true_and, and_true, and_self, Bool.not_eq_true, Bool.not_eq_true', decide_eq_false_iff_not, if_true, if_false, ite_true, ite_false, eq_self, h.1, h.2.1, h.2.2.1, h.2.2.2.1, h.2.2.2.2.1, h.2.2.2.2.2.1, h.2.2.2.2.2.2.1, h.2.2.2.2.2.2.2.1, h.2.2.2.2.2.2.2.2.1, h.2.2.2.2.2.2.2.2.2, bm_in, hk, bm_kIs]
  exact ⟨by omega, by rw [if_pos (by omega)]; exact q⟩

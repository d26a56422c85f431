/-! ===== reading, in the class: what holds meanwhile ===== -/
/-- the number of the first function with a name; -1 if there is none -/
def pg_nl (w : bm_W) (p : Nat) (v : Int) : Nat → Int → Int
  | 0, _ => -1
  | n + 1, i => if bm_gi w p 4 ≤ i then -1 else if bm_gl w (pg_fn p i) 5 = v then i else pg_nl w p v n (i + 1)
def pg_nm (w : bm_W) (p : Nat) (v : Int) : Int := pg_nl w p v 7 0
theorem pg_nl_rng {w : bm_W} {p : Nat} {v : Int} : ∀ (n : Nat) (i : Int), 0 ≤ i → pg_nl w p v n i = -1 ∨ (i ≤ pg_nl w p v n i ∧ pg_nl w p v n i < bm_gi w p 4 ∧ bm_gl w (pg_fn p (pg_nl w p v n i)) 5 = v)
  | 0, _, _ => Or.inl rfl
  | n + 1, i, h => by
    unfold pg_nl
    by_cases c : bm_gi w p 4 ≤ i
    · rw [if_pos c]; exact Or.inl rfl
    · rw [if_neg c]
      by_cases c2 : bm_gl w (pg_fn p i) 5 = v
      · rw [if_pos c2]; exact Or.inr ⟨Int.le_refl _, by omega, c2⟩
      · rw [if_neg c2]
        rcases pg_nl_rng n (i + 1) (by omega) with z | z
        · exact Or.inl z
        · exact Or.inr ⟨by omega, z.2⟩
theorem sp_fnm_loop {d p : Nat} {v : Int} {w : bm_W} {Φ : bm_Rt → bm_W → Prop} (h : sh_Pg p w) (h6 : bm_gi w p 4 ≤ 6) : ∀ (n : Nat) (i : Int), 0 ≤ i → 7 ≤ i + n → Φ (.inl (some (bm_i (pg_nl w p v n i)))) w → bk_X3_funNamed_2 (d + 1) Φ p v i w
  | 0, i, h0, hn, q => by
    refine vb_X3_funNamed_2 ?_
    simp only [bm_c0_v, bm_c1_v, bm_c2_v, bm_c3_v, bm_c4_v, bm_c5_v, bm_u_some, decide_eq_true_eq, true_and, and_true, and_self, Bool.not_eq_true, Bool.not_eq_true', decide_eq_false_iff_not, if_true, if_false, ite_true, ite_false, eq_self, h.1, h.2.1, h.2.2.1, h.2.2.2.1, h.2.2.2.2.1, h.2.2.2.2.2.1, h.2.2.2.2.2.2.1, h.2.2.2.2.2.2.2.1, h.2.2.2.2.2.2.2.2.1, h.2.2.2.2.2.2.2.2.2]
    rw [if_pos (by omega)]
    exact q
  | n + 1, i, h0, hn, q => by
    refine vb_X3_funNamed_2 ?_
    unfold pg_nl at q
    by_cases c : bm_gi w p 4 ≤ i
    · rw [if_pos c] at q
      simp only [bm_c0_v, bm_c1_v, bm_c2_v, bm_c3_v, bm_c4_v, bm_c5_v, bm_u_some, decide_eq_true_eq, true_and, and_true, and_self, Bool.not_eq_true, Bool.not_eq_true', decide_eq_false_iff_not, if_true, if_false, ite_true, ite_false, eq_self, h.1, h.2.1, h.2.2.1, h.2.2.2.1, h.2.2.2.2.1, h.2.2.2.2.2.1, h.2.2.2.2.2.2.1, h.2.2.2.2.2.2.2.1, h.2.2.2.2.2.2.2.2.1, h.2.2.2.2.2.2.2.2.2]
      rw [if_pos c]
      exact q
    · rw [if_neg c] at q
      have hf := h.fn i
      simp only [bm_c0_v, bm_c1_v, bm_c2_v, bm_c3_v, bm_c4_v, bm_c5_v, bm_u_some, decide_eq_true_eq, true_and, and_true, and_self, Bool.not_eq_true, Bool.not_eq_true', decide_eq_false_iff_not, if_true, if_false, ite_true, ite_false, eq_self, h.1, h.2.1, h.2.2.1, h.2.2.2.1, h.2.2.2.2.1, h.2.2.2.2.2.1, h.2.2.2.2.2.2.1, h.2.2.2.2.2.2.2.1, h.2.2.2.2.2.2.2.2.1, h.2.2.2.2.2.2.2.2.2, sp_funAt h, hf.1]
      rw [if_neg c]
      by_cases c2 : bm_gl w (pg_fn p i) 5 = v
      · rw [if_pos c2] at q
        rw [if_neg (fun z => z c2)]
        exact q
      · rw [if_neg c2] at q
        rw [if_pos c2, q_wI (x := i + 1) ⟨by omega, by omega⟩]
        exact sp_fnm_loop h h6 n (i + 1) (by omega) (by omega) q
theorem sp_funNamed {d p : Nat} {v : Int} {w : bm_W} {Φ : bm_Rt → bm_W → Prop} (h : sh_Pg p w) (h6 : bm_gi w p 4 ≤ 6) : bm_Call bm_pg (d + 2) y_X3_funNamed [bm_r (some p), bm_l v] w Φ ↔ Φ (.inl (some (bm_i (pg_nm w p v)))) w :=
  bm_ans (fun Ψ q => vc_X3_funNamed (sp_fnm_loop h h6 7 0 (Int.le_refl _) (by omega) q))
def cp_put (w : bm_W) (cp : Nat) (e a : Int) : bm_W := if bm_gi w cp 2 = 0 then bm_si (bm_si w cp 2 e) cp 3 a else w
theorem sp_complain {d cp : Nat} {e a : Int} {w : bm_W} {Φ : bm_Rt → bm_W → Prop} (h : bm_kt w cp = 0) : bm_Call bm_pg (d + 1) y_X0_complain [bm_r (some cp), bm_i e, bm_i a] w Φ ↔ Φ (.inl none) (cp_put w cp e a) := by
  refine bm_ans (fun Ψ q => vc_X0_complain ?_)
  unfold cp_put at q
  simp only [bm_c0_v, bm_c1_v, bm_c2_v, bm_c3_v, bm_c4_v, bm_c5_v, bm_u_some, decide_eq_true_eq, true_and, and_true, and_self, Bool.not_eq_true, Bool.not_eq_true', decide_eq_false_iff_not, if_true, if_false, ite_true, ite_false, eq_self, bm_si_kt, bm_si_kn, bm_si_sz, bm_si_sl, bm_si_gi, bm_si_gl, bm_si_gr, bm_sq_kt, bm_sq_kn, bm_sq_sz, bm_sq_sl, bm_sq_gi, bm_sq_gl, bm_sq_gr, bm_sr_kt, bm_sr_kn, bm_sr_sz, bm_sr_sl, bm_sr_gi, bm_sr_gl, bm_sr_gr, h]
  grind
/-- what reading an expression may change: t the tokens, t + 4 the program, t + 112 the compiler, f the function -/
def fx (t f : Nat) (w w' : bm_W) : Prop := q_fr (fun a => a = t ∨ a = t + 4 ∨ a = t + 112 ∨ a = f ∨ a = f + 5 ∨ a = f + 6 ∨ a = f + 7) w w' ∧ (∀ k, k ≠ 8 → k ≠ 10 → bm_gi w' t k = bm_gi w t k) ∧ (∀ k, k ≠ 6 → bm_gi w' (t + 4) k = bm_gi w (t + 4) k) ∧ (∀ k, k ≠ 2 → k ≠ 3 → bm_gi w' (t + 112) k = bm_gi w (t + 112) k) ∧ (∀ k, k < 7 ∨ 9 < k → bm_gi w' f k = bm_gi w f k) ∧ bm_gl w' = bm_gl w
theorem fx.rf {t f : Nat} {w : bm_W} : fx t f w w := ⟨q_fr.rf, fun _ _ _ => rfl, fun _ _ => rfl, fun _ _ _ => rfl, fun _ _ => rfl, rfl⟩
theorem fx.tr {t f : Nat} {w w1 w2 : bm_W} (h : fx t f w w1) (h2 : fx t f w1 w2) : fx t f w w2 :=
  ⟨h.1.tr h2.1, fun k a b => (h2.2.1 k a b).trans (h.2.1 k a b), fun k a => (h2.2.2.1 k a).trans (h.2.2.1 k a), fun k a b => (h2.2.2.2.1 k a b).trans (h.2.2.2.1 k a b), fun k a => (h2.2.2.2.2.1 k a).trans (h.2.2.2.2.1 k a), h2.2.2.2.2.2.trans h.2.2.2.2.2⟩
theorem fx.si {t f a k : Nat} {v : Int} {w w' : bm_W} (h : fx t f w w') (h1 : t + 7 ≤ f) (h2 : f ≤ t + 62) (ha : (a = t ∧ (k = 8 ∨ k = 10)) ∨ (a = t + 4 ∧ k = 6) ∨ (a = t + 112 ∧ (k = 2 ∨ k = 3)) ∨ (a = f ∧ 7 ≤ k ∧ k ≤ 9) ∨ a = f + 5 ∨ a = f + 6 ∨ a = f + 7) : fx t f w (bm_si w' a k v) :=
  h.tr ⟨q_fr.rf.si (by omega), fun j _ _ => if_neg (by omega), fun j _ => if_neg (by omega), fun j _ _ => if_neg (by omega), fun j _ => if_neg (by omega), rfl⟩
theorem fx.emit {t f : Nat} {op a q : Int} {w w' : bm_W} (h : fx t f w w') (h1 : t + 7 ≤ f) (h2 : f ≤ t + 62) : fx t f w (fn_emit w' f op a q) := by
  unfold fn_emit
  split
  · exact (((h.si h1 h2 (by omega)).si h1 h2 (by omega)).si h1 h2 (by omega)).si h1 h2 (by omega)
  · exact h
theorem fx.aim {t f : Nat} {j : Int} {w w' : bm_W} (h : fx t f w w') (h1 : t + 7 ≤ f) (h2 : f ≤ t + 62) : fx t f w (if 0 ≤ j ∧ j < 100 then bm_si w' (f + 6) j.toNat (bm_gi w' f 7) else w') := by
  split
  · exact h.si h1 h2 (by omega)
  · exact h
theorem fx.put {t f : Nat} {e a : Int} {w w' : bm_W} (h : fx t f w w') (h1 : t + 7 ≤ f) (h2 : f ≤ t + 62) : fx t f w (cp_put w' (t + 112) e a) := by
  unfold cp_put
  split
  · exact (h.si h1 h2 (by omega)).si h1 h2 (by omega)
  · exact h
/-- what an instruction that is laid leaves as it was -/
theorem em_k {f a k : Nat} {op x q : Int} {w : bm_W} (h : ¬ (a = f ∧ k = 7)) (h5 : a ≠ f + 5) (h6 : a ≠ f + 6) (h7 : a ≠ f + 7) : bm_gi (fn_emit w f op x q) a k = bm_gi w a k := by
  unfold fn_emit
  split
  · rw [bm_si_gi, if_neg (by omega), q_gi_ne h7, q_gi_ne h6, q_gi_ne h5]
  · rfl
theorem em_c {f c : Nat} {op x q : Int} {w : bm_W} (h : bm_gi w f 7 = (c : Int)) (hc : c < 100) : bm_gi (fn_emit w f op x q) f 7 = ((c + 1 : Nat) : Int) ∧ bm_gi (fn_emit w f op x q) (f + 5) c = op ∧ bm_gi (fn_emit w f op x q) (f + 6) c = x ∧ bm_gi (fn_emit w f op x q) (f + 7) c = q ∧ ∀ j a, (a = f + 5 ∨ a = f + 6 ∨ a = f + 7) → j ≠ c → bm_gi (fn_emit w f op x q) a j = bm_gi w a j := by
  unfold fn_emit
  rw [h, if_pos (by omega), Int.toNat_natCast]
  refine ⟨q_gi_eq, ?_, ?_, ?_, fun j a ha hj => ?_⟩
  · rw [q_gi_ne (by omega), q_gi_ne (by omega), q_gi_ne (by omega), q_gi_eq]
  · rw [q_gi_ne (by omega), q_gi_ne (by omega), q_gi_eq]
  · rw [q_gi_ne (by omega), q_gi_eq]
  · rw [q_gi_ne (by omega), q_gi_nk hj, q_gi_nk hj, q_gi_nk hj]
/-- sizes of functions told ahead are fair -/
def e_sz (E : q_E) (num : Int) : Prop := ∀ g : Int, 0 ≤ g → g < num → 1 ≤ E.2.2.2.1 g ∧ E.2.2.2.1 g ≤ 200
/-- names and functions as they are known while an expression is read -/
def ev (t f k : Nat) (E : q_E) (num : Int) (w : bm_W) : Prop := bm_gi w (t + 4) 4 = num ∧ bm_gi w f 6 = (k : Int) ∧ (∀ v, fn_in w f v = E.1 v) ∧ (∀ v, pg_nm w (t + 4) v = E.2.1 v) ∧ ∀ g : Int, 0 ≤ g → g < num → bm_gi w (pg_fn (t + 4) g) 6 = (E.2.2.1 g : Int) ∧ (e_sz E num → bm_gi w (pg_fn (t + 4) g) 9 = (E.2.2.2.1 g : Int))
theorem pg_fn_rng (p : Nat) (i : Int) : p + 3 ≤ pg_fn p i ∧ pg_fn p i ≤ p + 58 ∧ (pg_fn p i = p + 3 ∨ ∃ j, pg_fn p i = p + 18 + 8 * j ∧ j < 6) := by
  unfold pg_fn
  split
  · exact ⟨by omega, by omega, Or.inr ⟨i.toNat, rfl, by omega⟩⟩
  · exact ⟨by omega, by omega, Or.inl rfl⟩
theorem pg_fn_ne {p : Nat} {i j : Int} (h0 : 0 ≤ i) (h1 : i < j) (h6 : j ≤ 6) : pg_fn p i + 8 ≤ pg_fn p j ∨ pg_fn p j + 8 ≤ pg_fn p i := by
  unfold pg_fn
  rw [if_pos (by omega)]
  split <;> omega
theorem pg_nl_eq {w w' : bm_W} {p : Nat} {v : Int} (h1 : bm_gi w' p 4 = bm_gi w p 4) (h2 : ∀ i, bm_gl w' (pg_fn p i) 5 = bm_gl w (pg_fn p i) 5) : ∀ (n : Nat) (i : Int), pg_nl w' p v n i = pg_nl w p v n i
  | 0, _ => rfl
  | n + 1, i => by
    unfold pg_nl
    rw [h1, h2, pg_nl_eq h1 h2 n]
theorem ev.fx {t f k : Nat} {E : q_E} {num : Int} {w w' : bm_W} (hf : f = pg_fn (t + 4) num) (h6 : num ≤ 6) (h : fx t f w w') (he : ev t f k E num w) : ev t f k E num w' := by
  obtain ⟨hr, hr2, -⟩ := pg_fn_rng (t + 4) num
  rw [← hf] at hr hr2
  obtain ⟨e1, e2, e3, e4, e5⟩ := he
  have k6 : bm_gi w' f 6 = bm_gi w f 6 := h.2.2.2.2.1 6 (Or.inl (by decide))
  refine ⟨(h.2.2.1 4 (by decide)).trans e1, k6.trans e2, fun v => ?_, fun v => ?_, fun g g0 g1 => ?_⟩
  · rw [← e3 v]
    unfold fn_in
    rw [k6, h.2.2.2.2.2]
  · rw [← e4 v]
    exact pg_nl_eq (h.2.2.1 4 (by decide)) (fun i => by rw [h.2.2.2.2.2]) 7 0
  · have hg := pg_fn_ne (p := t + 4) g0 g1 h6
    obtain ⟨hgr, hgr2, -⟩ := pg_fn_rng (t + 4) g
    rw [← hf] at hg
    have hA : ¬ (pg_fn (t + 4) g = t ∨ pg_fn (t + 4) g = t + 4 ∨ pg_fn (t + 4) g = t + 112 ∨ pg_fn (t + 4) g = f ∨ pg_fn (t + 4) g = f + 5 ∨ pg_fn (t + 4) g = f + 6 ∨ pg_fn (t + 4) g = f + 7) := by omega
    rw [h.1.gi hA, h.1.gi hA]
    exact e5 g g0 g1
/-- the state while an expression is read: s tells whether reading has failed, and where it stands -/
def rs (t f k N L fst : Nat) (B : Int → Int) (E : q_E) (num : Int) (s : Bool × Nat) (w : bm_W) : Prop :=
  (sh_Tk t w ∧ sh_Pg (t + 4) w ∧ sh_Fn f w ∧ bm_kt w (t + 112) = 0 ∧ bm_gr w (t + 112) 0 = some t ∧ bm_gr w (t + 112) 1 = some (t + 4) ∧ bm_gr w (t + 112) 4 = some f) ∧
  (tk_tab w t B (N + 1) ∧ N ≤ 1500 ∧ t_K B N = 0 ∧ f = pg_fn (t + 4) num ∧ 0 ≤ num ∧ num ≤ 6 ∧ L ≤ fst + 50 ∧ k ≤ 3) ∧
  (bm_gi w t 8 = (s.2 : Int) ∧ bm_gi w t 10 = bm_bo s.1 ∧ bm_gi w t 9 = (L : Int) ∧ s.2 ≤ N ∧ s.2 ≤ L ∧ fst ≤ s.2) ∧ ev t f k E num w
section RS
variable {t f k N L fst : Nat} {B : Int → Int} {E : q_E} {num : Int} {s s' : Bool × Nat} {w w' : bm_W}
theorem rs.ad (h : rs t f k N L fst B E num s w) : t + 7 ≤ f ∧ f ≤ t + 62 := by
  obtain ⟨hr, hr2, -⟩ := pg_fn_rng (t + 4) num
  rw [← h.2.1.2.2.2.1] at hr hr2
  omega
theorem rs.mv (h : rs t f k N L fst B E num s w) (hx : fx t f w w') (h8 : bm_gi w' t 8 = (s'.2 : Int)) (h10 : bm_gi w' t 10 = bm_bo s'.1) (hN : s'.2 ≤ N) (hL : s'.2 ≤ L) (hf : fst ≤ s'.2) : rs t f k N L fst B E num s' w' := by
  have had := h.ad
  obtain ⟨⟨a1, a2, a3, a4, a5, a6, a7⟩, ⟨b1, b2, b3, b4, b5, b6, b7⟩, ⟨c1, c2, c3, -⟩, e⟩ := h
  refine ⟨⟨a1.fr hx.1, a2.fr hx.1, a3.fr hx.1, by rw [hx.1.kt]; exact a4, by rw [hx.1.gr]; exact a5, by rw [hx.1.gr]; exact a6, by rw [hx.1.gr]; exact a7⟩, ⟨fun j hj => ?_, b2, b3, b4, b5, b6, b7⟩, ⟨h8, h10, (hx.2.1 9 (by decide) (by decide)).trans c3, hN, hL, hf⟩, e.fx b4 b6 hx⟩
  rw [hx.1.gi (a := t + 1) (by omega), hx.1.gi (a := t + 2) (by omega), hx.2.2.2.2.2]
  exact b1 j hj
theorem rs.see (h : rs t f k N L fst B E num s w) (q : Int) : tk_at w t q ↔ f_see (t_K B) L s q q := by
  obtain ⟨-, ⟨b1, b2, -⟩, ⟨c1, c2, c3, c4, c5, -⟩, -⟩ := h
  have : bm_gi w (t + 1) s.2 = t_K B s.2 := (b1 s.2 (by omega)).1
  unfold tk_at f_see
  rw [c1, c2, c3, Int.toNat_natCast, this, bm_bo_0]
  constructor
  · intro z; exact ⟨z.1, by omega, by omega, by omega⟩
  · intro z; exact ⟨z.1, by omega, by omega, by omega, by omega⟩
theorem rs.one (h : rs t f k N L fst B E num s w) (a b : Int) : tk_one w t a b = if f_see (t_K B) L s a b then t_K B s.2 else -1 := by
  obtain ⟨-, ⟨b1, b2, -⟩, ⟨c1, c2, c3, c4, c5, -⟩, -⟩ := h
  have e : bm_gi w (t + 1) s.2 = t_K B s.2 := (b1 s.2 (by omega)).1
  have hs : (bm_gi w t 10 = 0 ∧ 0 ≤ bm_gi w t 8 ∧ bm_gi w t 8 < bm_gi w t 9 ∧ bm_gi w t 8 < 1501 ∧ a ≤ bm_gi w (t + 1) (bm_gi w t 8).toNat ∧ bm_gi w (t + 1) (bm_gi w t 8).toNat ≤ b) ↔ f_see (t_K B) L s a b := by
    rw [c1, c2, c3, Int.toNat_natCast, e, bm_bo_0]
    exact ⟨fun y => ⟨y.1, by omega, y.2.2.2.2.1, y.2.2.2.2.2⟩, fun z => ⟨z.1, by omega, by omega, by omega, z.2.2.1, z.2.2.2⟩⟩
  unfold tk_one
  by_cases z : f_see (t_K B) L s a b
  · rw [if_pos z, if_pos (hs.mpr z), c1, Int.toNat_natCast, e]
  · rw [if_neg z, if_neg (fun y => z (hs.mp y))]
theorem rs.start (h : rs t f k N L fst B E num s w) : tk_start w t = t_P B s.2 := by
  obtain ⟨-, ⟨b1, b2, -⟩, ⟨c1, c2, c3, c4, c5, -⟩, -⟩ := h
  have := (b1 s.2 (by omega)).2.1
  unfold tk_start
  rw [c1, if_pos (by omega), Int.toNat_natCast, this]
theorem rs.value (h : rs t f k N L fst B E num s w) : tk_value w t = t_V B s.2 := by
  obtain ⟨-, ⟨b1, b2, -⟩, ⟨c1, c2, c3, c4, c5, -⟩, -⟩ := h
  have := (b1 s.2 (by omega)).2.2
  unfold tk_value
  rw [c1, if_pos (by omega), Int.toNat_natCast, this]
/-- a token is taken -/
theorem rs.adv (h : rs t f k N L fst B E num s w) {a b : Int} (ha : 0 < a) (hs : f_see (t_K B) L s a b) : rs t f k N L fst B E num (false, s.2 + 1) (bm_si w t 8 (bm_gi w t 8 + 1)) ∧ fx t f w (bm_si w t 8 (bm_gi w t 8 + 1)) := by
  have had := h.ad
  have hx : fx t f w (bm_si w t 8 (bm_gi w t 8 + 1)) := fx.rf.si had.1 had.2 (by omega)
  have hN : s.2 + 1 ≤ N := by
    have h3 := h.2.1.2.2.1
    have h4 := h.2.2.1.2.2.2.1
    rcases Nat.lt_or_ge s.2 N with z | z
    · exact z
    · have := hs.2.2
      rw [show s.2 = N by omega, h3] at this
      omega
  refine ⟨h.mv hx ?_ ?_ hN hs.2.1 ?_, hx⟩
  · rw [q_gi_eq, h.2.2.1.1]
    show ((s.2 : Nat) : Int) + 1 = ((s.2 + 1 : Nat) : Int)
    omega
  · rw [q_gi_nk (by decide), h.2.2.1.2.1, hs.1]
  · have := h.2.2.1.2.2.2.2.2
    show fst ≤ s.2 + 1
    omega
theorem rs.fail (h : rs t f k N L fst B E num s w) : rs t f k N L fst B E num (true, s.2) (bm_si w t 10 1) ∧ fx t f w (bm_si w t 10 1) := by
  have had := h.ad
  have hx : fx t f w (bm_si w t 10 1) := fx.rf.si had.1 had.2 (by omega)
  refine ⟨h.mv hx ?_ ?_ h.2.2.1.2.2.2.1 h.2.2.1.2.2.2.2.1 h.2.2.1.2.2.2.2.2, hx⟩
  · rw [q_gi_nk (by decide), h.2.2.1.1]
  · rw [q_gi_eq]; rfl
/-- steps that leave tokens alone -/
theorem rs.st (h : rs t f k N L fst B E num s w) (hx : fx t f w w') (h8 : bm_gi w' t 8 = bm_gi w t 8) (h10 : bm_gi w' t 10 = bm_gi w t 10) : rs t f k N L fst B E num s w' :=
  h.mv hx (h8.trans h.2.2.1.1) (h10.trans h.2.2.1.2.1) h.2.2.1.2.2.2.1 h.2.2.1.2.2.2.2.1 h.2.2.1.2.2.2.2.2
end RS
/-- an error told, or none and what is meant -/
def m_is (t : Nat) (B : Int → Int) (w' : bm_W) (r : q_M) (G : List q_D → Nat → Prop) : Prop := match r with
  | .inl e => e.1 ≠ 0 ∧ bm_gi w' (t + 112) 2 = e.1 ∧ bm_gi w' (t + 112) 3 = t_P B e.2
  | .inr (l, z) => bm_gi w' (t + 112) 2 = 0 ∧ G l z
/-- a first complaint stays -/
def cp_st (t : Nat) (w w' : bm_W) : Prop := bm_gi w (t + 112) 2 ≠ 0 → bm_gi w' (t + 112) 2 = bm_gi w (t + 112) 2 ∧ bm_gi w' (t + 112) 3 = bm_gi w (t + 112) 3
theorem cp_st.tr {t : Nat} {w w1 w2 : bm_W} (h : cp_st t w w1) (h2 : cp_st t w1 w2) : cp_st t w w2 := fun z => by
  have a := h z
  have b := h2 (by rw [a.1]; exact z)
  exact ⟨b.1.trans a.1, b.2.trans a.2⟩
theorem cp_st.eq {t : Nat} {w w' : bm_W} (h : ∀ k, bm_gi w' (t + 112) k = bm_gi w (t + 112) k) : cp_st t w w' := fun _ => ⟨h 2, h 3⟩
/-- what reading leaves behind -/
def px (t f : Nat) (B : Int → Int) (s' : Bool × Nat) (r : q_M) (G : List q_D → Nat → Prop) (w w' : bm_W) : Prop :=
  fx t f w w' ∧ bm_gi w' t 8 = (s'.2 : Int) ∧ bm_gi w' t 10 = bm_bo s'.1 ∧ (s'.1 = false → cp_st t w w' ∧ (bm_gi w (t + 112) 2 = 0 → m_is t B w' r G))
def m_l (r : q_M) : List q_D := match r with
  | .inl _ => []
  | .inr (l, _) => l
/-- reading goes on behind a part -/
theorem px.bind {t f : Nat} {B : Int → Int} {s1 s2 : Bool × Nat} {r1 : q_M} {r2 : List q_D → Nat → q_M} {G1 G : List q_D → Nat → Prop} {w w1 w2 : bm_W} (h1 : px t f B s1 r1 G1 w w1) (hx : fx t f w1 w2) (h8 : bm_gi w2 t 8 = (s2.2 : Int)) (h10 : bm_gi w2 t 10 = bm_bo s2.1) (ho : s2.1 = false → s1.1 = false ∧ cp_st t w1 w2 ∧ ∀ l z, r1 = .inr (l, z) → bm_gi w1 (t + 112) 2 = 0 → G1 l z → m_is t B w2 (r2 l z) G) : px t f B s2 (m_bind r1 r2) G w w2 := by
  refine ⟨h1.1.tr hx, h8, h10, fun z => ?_⟩
  obtain ⟨o1, o2, o3⟩ := ho z
  obtain ⟨p1, p2⟩ := h1.2.2.2 o1
  refine ⟨p1.tr o2, fun c0 => ?_⟩
  have p3 := p2 c0
  cases hr : r1 with
  | inl e =>
    rw [hr] at p3
    obtain ⟨q1, q2, q3⟩ := p3
    have := o2 (by rw [q2]; exact q1)
    exact ⟨q1, this.1.trans q2, this.2.trans q3⟩
  | inr x =>
    obtain ⟨l, y⟩ := x
    rw [hr] at p3
    exact o3 l y hr p3.1 p3.2
/-- silent steps ahead of it -/
theorem px.pre {t f : Nat} {B : Int → Int} {s' : Bool × Nat} {r : q_M} {G : List q_D → Nat → Prop} {w w1 w2 : bm_W} (hx : fx t f w w1) (hc : ∀ k, bm_gi w1 (t + 112) k = bm_gi w (t + 112) k) (h : px t f B s' r G w1 w2) : px t f B s' r G w w2 :=
  ⟨hx.tr h.1, h.2.1, h.2.2.1, fun z => ⟨(cp_st.eq hc).tr (h.2.2.2 z).1, fun c => (h.2.2.2 z).2 ((hc 2).trans c)⟩⟩
theorem m_is.mo {t : Nat} {B : Int → Int} {w' : bm_W} {r : q_M} {G G' : List q_D → Nat → Prop} (h : m_is t B w' r G) (hG : ∀ l z, r = .inr (l, z) → G l z → G' l z) : m_is t B w' r G' := by
  cases r with
  | inl e => exact h
  | inr x => exact ⟨h.1, hG _ _ rfl h.2⟩
theorem m_is.add {t n : Nat} {B : Int → Int} {w' : bm_W} {r : q_M} {G G' : List q_D → Nat → Prop} (h : m_is t B w' r G) (hG : ∀ l z, r = .inr (l, z) → G l z → G' l (n + z)) : m_is t B w' (m_add n r) G' := by
  cases r with
  | inl e => exact h
  | inr x => exact ⟨h.1, hG _ _ rfl h.2⟩
/-! code that means something, wherever it is kept -/
def lf (t f : Nat) (P I : Nat → Nat) (w : bm_W) (c q : Nat) : Prop := bm_gi w f 7 = (c : Int) ∧ bm_gi w f 8 = (P q : Int) ∧ bm_gi w (t + 4) 6 = (I q : Int)
def cb (f c0 c1 : Nat) (w w' : bm_W) : Prop := ∀ j a, (a = f + 5 ∨ a = f + 6 ∨ a = f + 7) → c0 ≤ j → j < c1 → bm_gi w' a j = bm_gi w a j
theorem cb.tr {f c0 c1 : Nat} {w w1 w2 : bm_W} (h : cb f c0 c1 w w1) (h2 : cb f c0 c1 w1 w2) : cb f c0 c1 w w2 := fun j a ha x y => (h2 j a ha x y).trans (h j a ha x y)
theorem cb.sub {f c0 c1 d0 d1 : Nat} {w w1 : bm_W} (h : cb f c0 c1 w w1) (h0 : c0 ≤ d0) (h1 : d1 ≤ c1) : cb f d0 d1 w w1 := fun j a ha x y => h j a ha (by omega) (by omega)
def qc (t f : Nat) (E : q_E) (num : Int) (w0 : bm_W) (c1 : Nat) : Prop := q_cd (t + 113) (t + 4) f w0 ∧ (c1 : Int) ≤ bm_gi w0 f 7 ∧ sh_Pg (t + 4) w0 ∧ ∀ g : Int, 0 ≤ g → g < num → q_fun (t + 113) (t + 4) w0 g (E.2.2.1 g) (E.2.2.2.2 g) (E.2.2.2.1 g) (3 * g.toNat + 2)
theorem qc.le {t f : Nat} {E : q_E} {num : Int} {w0 : bm_W} {c c1 : Nat} (h : qc t f E num w0 c1) (hc : c ≤ c1) : qc t f E num w0 c := ⟨h.1, by have := h.2.1; omega, h.2.2⟩
def qs (t f k : Nat) (E : q_E) (num : Int) (w : bm_W) (c0 c1 : Nat) (D : q_D) (wt : Nat) : Prop := ∀ w0 : bm_W, cb f c0 c1 w w0 → qc t f E num w0 c1 → q_seg (t + 113) (t + 4) f num k w0 c0 c1 D wt (3 * num.toNat + 2)
def qa (t f k : Nat) (E : q_E) (num : Int) (w : bm_W) (c0 c1 : Nat) (Ds : List q_D) (wt : Nat) : Prop := ∀ w0 : bm_W, cb f c0 c1 w w0 → qc t f E num w0 c1 → q_args (t + 113) (t + 4) f num k w0 c0 c1 Ds wt (3 * num.toNat + 2)
theorem qs.fr {t f k : Nat} {E : q_E} {num : Int} {w w' : bm_W} {c0 c1 : Nat} {D : q_D} {wt : Nat} (h : qs t f k E num w c0 c1 D wt) (hb : cb f c0 c1 w w') : qs t f k E num w' c0 c1 D wt := fun w0 z c => h w0 (hb.tr z) c
theorem qa.fr {t f k : Nat} {E : q_E} {num : Int} {w w' : bm_W} {c0 c1 : Nat} {D : List q_D} {wt : Nat} (h : qa t f k E num w c0 c1 D wt) (hb : cb f c0 c1 w w') : qa t f k E num w' c0 c1 D wt := fun w0 z c => h w0 (hb.tr z) c
theorem seg_mo {m p f k c0 c1 wt wt' dp dp' : Nat} {num : Int} {w0 : bm_W} {D : q_D} (h : q_seg m p f num k w0 c0 c1 D wt dp) (hw : wt ≤ wt') (hd : dp ≤ dp') : q_seg m p f num k w0 c0 c1 D wt' dp' :=
  ⟨h.1, fun d Φ base n chg steps a w hd' hf h5 h4 hn hb ha s0 s1 hS hN => h.2 d Φ base n chg steps a w (by omega) hf h5 h4 (by omega) hb ha s0 s1 hS hN⟩
theorem args_mo {m p f k c0 c1 wt wt' dp dp' : Nat} {num : Int} {w0 : bm_W} {D : List q_D} (h : q_args m p f num k w0 c0 c1 D wt dp) (hw : wt ≤ wt') (hd : dp ≤ dp') : q_args m p f num k w0 c0 c1 D wt' dp' :=
  ⟨h.1, fun d Φ base n chg steps a w hd' hf h5 h4 hn hb ha s0 s1 hS hN => h.2 d Φ base n chg steps a w (by omega) hf h5 h4 (by omega) hb ha s0 s1 hS hN⟩
/-- the live part of an expression, from s to s' -/
def gx (t f k fst : Nat) (P I : Nat → Nat) (E : q_E) (num : Int) (s s' : Nat) (w w' : bm_W) (l : List q_D) (z : Nat) : Prop := ∀ c0 : Nat, lf t f P I w c0 s → c0 + 2 * fst ≤ 2 * s → 0 ≤ bm_gi w f 9 → bm_gi w f 9 + 200 * fst ≤ 200 * s → e_sz E num →
  ∃ c1 : Nat, lf t f P I w' c1 s' ∧ c0 < c1 ∧ c1 + 2 * s ≤ c0 + 2 * s' ∧ bm_gi w' f 9 = bm_gi w f 9 + z ∧ z + 200 * s ≤ 200 * s' ∧ cb f 0 c0 w w' ∧ qs t f k E num w' c0 c1 (m_hd l) (s' - s + z)
/-- the live part of what is behind a left side acc -/
def gl (t f k fst : Nat) (P I : Nat → Nat) (E : q_E) (num : Int) (acc : List q_D) (s s' : Nat) (w w' : bm_W) (l : List q_D) (z : Nat) : Prop := ∀ c00 c0 wt : Nat, lf t f P I w c0 s → c0 + 2 * fst ≤ 2 * s → 0 ≤ bm_gi w f 9 → bm_gi w f 9 + 200 * fst ≤ 200 * s → qs t f k E num w c00 c0 (m_hd acc) wt → 1 ≤ wt → c00 < c0 → e_sz E num →
  ∃ c1 : Nat, lf t f P I w' c1 s' ∧ c0 ≤ c1 ∧ c1 + 2 * s ≤ c0 + 2 * s' ∧ bm_gi w' f 9 = bm_gi w f 9 + z ∧ z + 200 * s ≤ 200 * s' ∧ cb f 0 c0 w w' ∧ qs t f k E num w' c00 c1 (m_hd l) (wt + (s' - s) + z)
/-- the live part of further arguments -/
def ga (t f k fst : Nat) (P I : Nat → Nat) (E : q_E) (num : Int) (acc : List q_D) (s s' : Nat) (w w' : bm_W) (l : List q_D) (z : Nat) : Prop := ∀ c00 c0 wt : Nat, lf t f P I w c0 s → c0 + 2 * fst ≤ 2 * s → 0 ≤ bm_gi w f 9 → bm_gi w f 9 + 200 * fst ≤ 200 * s → qa t f k E num w c00 c0 acc wt → acc.length ≤ wt → c00 ≤ c0 → e_sz E num →
  ∃ c1 : Nat, lf t f P I w' c1 s' ∧ c0 ≤ c1 ∧ c1 + 2 * s + 1 ≤ c0 + 2 * s' ∧ bm_gi w' f 9 = bm_gi w f 9 + z ∧ z + 200 * (s + 1) ≤ 200 * s' ∧ cb f 0 c0 w w' ∧ qa t f k E num w' c00 c1 l (wt + (s' - s) + z) ∧ l.length ≤ wt + (s' - s) + z

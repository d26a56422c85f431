/-! ===== the form of expressions, in the model ===== -/
/-- the model stands at token p -/
def fW (w0 : bm_W) (m p : Nat) : bm_W := bm_si w0 m 9 ((p : Nat) : Int)
/-- a token that can go on an expression -/
def f_go (x : Int) : Prop := x = 9 ∨ x = 10 ∨ x = 16 ∨ (22 ≤ x ∧ x ≤ 32)
/-- what the model may answer: at the limit it sees what goes on -/
def fo (K : Nat → Int) (L : Nat) (s : Bool × Nat) (x : Int) : Prop := (x = 1 ∧ s.1 = false) ∨ (x = 0 ∧ (s.1 = true ∨ (s.2 = L ∧ f_go (K L))))
theorem fo.no {K : Nat → Int} {L : Nat} {q : Nat} : fo K L (true, q) 0 := Or.inr ⟨rfl, Or.inl rfl⟩
theorem fo.yes {K : Nat → Int} {L : Nat} {q : Nat} : fo K L (false, q) 1 := Or.inl ⟨rfl, rfl⟩
/-- the model's number of a level -/
def f_lv (u : Nat) : Int := if u = 0 then 0 else if u = 1 then 1 else if u = 2 then 2 else if u = 3 then 8 else if u = 4 then 10 else 13
theorem f_lv_opr {k : Int} {u : Nat} (h : u < 5) : (t_opr k (f_lv u) (f_lv (u + 1)) = -1) ↔ ¬ (f_lo (7 + u) ≤ k ∧ k ≤ f_hi (7 + u)) := by
  rcases (show u = 0 ∨ u = 1 ∨ u = 2 ∨ u = 3 ∨ u = 4 by omega) with rfl | rfl | rfl | rfl | rfl <;> simp only [f_lv, f_lo, f_hi, t_opr] <;> simp <;> grind
theorem f_lo_go {k : Int} {u : Nat} (h : u < 5) (h2 : f_lo (7 + u) ≤ k ∧ k ≤ f_hi (7 + u)) : f_go k := by
  unfold f_go
  rcases (show u = 0 ∨ u = 1 ∨ u = 2 ∨ u = 3 ∨ u = 4 by omega) with rfl | rfl | rfl | rfl | rfl <;> simp [f_lo, f_hi] at h2 <;> omega
/-- the model while form is looked at -/
def fz (m N L fst : Nat) (B : Int → Int) (w0 : bm_W) : Prop := md_Z m B N w0 ∧ bm_gi w0 m 10 = (fst : Int) ∧ L = fst + 50 ∧ fst ≤ N
section FM
variable {d m N L fst : Nat} {B : Int → Int} {w0 : bm_W} {Φ : bm_Rt → bm_W → Prop}
theorem fz.z (h : fz m N L fst B w0) (p : Nat) : md_Z m B N (fW w0 m p) := md_Z.fr (A := fun a => a = m) (q_fr.rf.si rfl) (fun j h1 _ => by omega) (q_gi_nk (by decide)) h.1
theorem fW_9 {p : Nat} : bm_gi (fW w0 m p) m 9 = (p : Int) := q_gi_eq
theorem fW_go {p : Nat} : bm_si (fW w0 m p) m 9 ((p + 1 : Nat) : Int) = fW w0 m (p + 1) := q_si_si _ _ _ _ _
theorem fm_sees (h : fz m N L fst B w0) {p c : Nat} (hp : p ≤ N) (h1 : 1 ≤ c) (h2 : c < 31) : bm_Call bm_pg (d + 6) y_X12_sees [bm_r (some m), bm_k (0, c)] (fW w0 m p) Φ ↔ Φ (.inl (some (bm_i (if t_K B p = t_kc c then 1 else 0)))) (fW w0 m p) := by
  refine bm_ans (fun Ψ q => vc_X12_sees ?_)
  have hz := h.z p
  simp only [bm_c0_v, bm_c1_v, bm_c2_v, bm_c3_v, bm_c4_v, bm_c5_v, bm_u_some, decide_eq_true_eq, true_and, and_true, and_self, Bool.not_eq_true, Bool.not_eq_true', decide_eq_false_iff_not, if_true, if_false, ite_true, ite_false, eq_self, true_or, or_true, hz.1.1.1, fW_9, mp_is hz hp h1 h2]
  refine ⟨?_, q⟩
  split
  · exact Or.inr rfl
  · exact Or.inl rfl
theorem fm_goes (h : fz m N L fst B w0) {p : Nat} (hp : p ≤ N) (hf : fst ≤ p) (q0 : p = L → Φ (.inl (some (bm_i 0))) (fW w0 m p)) (q1 : p ≠ L → Φ (.inl (some (bm_i 1))) (fW w0 m (p + 1))) : bm_Call bm_pg (d + 1) y_X12_goes [bm_r (some m)] (fW w0 m p) Φ := by
  have hz := h.z p
  have hN := hz.2.2.1
  have h10 : bm_gi (fW w0 m p) m 10 = (fst : Int) := (q_gi_nk (by decide)).trans h.2.1
  have hL := h.2.2.1
  refine vc_X12_goes ?_
  simp only [bm_c0_v, bm_c1_v, bm_c2_v, bm_c3_v, bm_c4_v, bm_c5_v, bm_u_some, decide_eq_true_eq, true_and, and_true, and_self, Bool.not_eq_true, Bool.not_eq_true', decide_eq_false_iff_not, if_true, if_false, ite_true, ite_false, eq_self, true_or, or_true, hz.1.1.1, fW_9, h10, q_wI (x := (p : Int) - fst) ⟨by omega, by omega⟩, q_wI (x := (p : Int) + 1) ⟨by omega, by omega⟩]
  by_cases c : p = L
  · rw [if_neg (by omega)]
    exact q0 c
  · rw [if_pos (by omega)]
    have := q1 c
    rw [← fW_go] at this
    exact this
theorem fm_goes_ (h : fz m N L fst B w0) {p c : Nat} (hp : p ≤ N) (hf : fst ≤ p) (hl : p ≤ L) (h1 : 1 ≤ c) (h2 : c < 31) (q0 : ¬ f_see (t_K B) L (false, p) (t_kc c) (t_kc c) → Φ (.inl (some (bm_i 0))) (fW w0 m p)) (q1 : f_see (t_K B) L (false, p) (t_kc c) (t_kc c) → Φ (.inl (some (bm_i 1))) (fW w0 m (p + 1))) : bm_Call bm_pg (d + 7) y_X12_goes_ [bm_r (some m), bm_k (0, c)] (fW w0 m p) Φ := by
  refine vc_X12_goes_ ?_
  have hz := h.z p
  simp only [bm_c0_v, bm_c1_v, bm_c2_v, bm_c3_v, bm_c4_v, bm_c5_v, bm_u_some, decide_eq_true_eq, true_and, and_true, and_self, Bool.not_eq_true, Bool.not_eq_true', decide_eq_false_iff_not, if_true, if_false, ite_true, ite_false, eq_self, true_or, or_true, hz.1.1.1, fm_sees h hp h1 h2]
  by_cases c1 : t_K B p = t_kc c
  · rw [if_pos c1, if_neg (by decide)]
    refine fm_goes h hp hf (fun e => ?_) (fun e => ?_)
    · rw [bm_c1_v, if_pos rfl]
      exact q0 (fun z => by have := z.2.1; simp only at this; omega)
    · rw [bm_c1_v, if_neg (by decide)]
      exact q1 ⟨rfl, by simp only; omega, by simp only; omega, by simp only; omega⟩
  · rw [if_neg c1, if_pos rfl]
    exact q0 (fun z => c1 (by have := z.2.2; simp only at this; omega))
theorem fz.rng (h : fz m N L fst B w0) (n u d : Nat) {s : Bool × Nat} (hu : u ≤ 12) (hq : s.2 ≤ N) (hq2 : s.2 ≤ L) : s.2 ≤ (f_ex (t_K B) L n u d s).2 ∧ (f_ex (t_K B) L n u d s).2 ≤ N ∧ (f_ex (t_K B) L n u d s).2 ≤ L ∧ ((f_ex (t_K B) L n u d s).1 = false → (u ≤ 6 ∨ u = 12) → s.2 < (f_ex (t_K B) L n u d s).2) := by
  have h0 := h.1.2.2.2.2
  have := f_ex_rng (K := t_K B) (L := L) (M := min N L) (fun x a b c => by
    rcases Nat.lt_or_ge x N with z | z
    · omega
    · exact absurd (show t_K B x = 0 by rw [show x = N by omega]; exact h0) c) n u d s hu (by omega)
  exact ⟨this.1, by omega, by omega, this.2.2⟩
end FM
/-- what a method of the model's form comes to -/
def fc (m N L fst : Nat) (B : Int → Int) (w0 : bm_W) (u n : Nat) (X : Nat → (bm_Rt → bm_W → Prop) → Nat → bm_W → Prop) : Prop := ∀ (d depth p : Nat) (Φ : bm_Rt → bm_W → Prop), p ≤ N → p ≤ L → fst ≤ p → depth ≤ 8 → 8 * (L + 1 - p) + (if u = 6 then 7 else if u ≤ 5 then 6 - u else 0) ≤ n → 3 * n + 20 ≤ d → (∀ x, fo (t_K B) L (f_ex (t_K B) L n u depth (false, p)) x → Φ (.inl (some (bm_i x))) (fW w0 m (f_ex (t_K B) L n u depth (false, p)).2)) → X d Φ depth (fW w0 m p)
abbrev fcE (m N L fst : Nat) (B : Int → Int) (w0 : bm_W) (n : Nat) : Prop := fc m N L fst B w0 6 n (fun d Φ dep w => bm_Call bm_pg d y_X12_expressionForm [bm_r (some m), bm_i (dep : Int)] w Φ)
abbrev fcF (m N L fst : Nat) (B : Int → Int) (w0 : bm_W) (n : Nat) : Prop := fc m N L fst B w0 5 n (fun d Φ dep w => bm_Call bm_pg d y_X12_factorForm [bm_r (some m), bm_i (dep : Int)] w Φ)
abbrev fcL (m N L fst : Nat) (B : Int → Int) (w0 : bm_W) (u n : Nat) : Prop := fc m N L fst B w0 u n (fun d Φ dep w => bm_Call bm_pg (d + 1) y_X12_levelForm [bm_r (some m), bm_i (dep : Int), bm_i (f_lv u)] w Φ)
abbrev fcP (m N L fst : Nat) (B : Int → Int) (w0 : bm_W) (u n : Nat) : Prop := fc m N L fst B w0 (7 + u) n (fun d Φ dep w => bk_X12_levelForm_76 d Φ m (dep : Int) (f_lv u) (f_lv (u + 1)) (if u = 2 then 1 else 0) w)
/-- the arguments of a call -/
def fcA (m N L fst : Nat) (B : Int → Int) (w0 : bm_W) (n : Nat) : Prop := ∀ (d depth p : Nat) (Φ : bm_Rt → bm_W → Prop), p ≤ N → p ≤ L → fst ≤ p → depth ≤ 8 → 8 * (L + 1 - p) + 7 ≤ n → 3 * n + 21 ≤ d → (∀ x, fo (t_K B) L (f_ex (t_K B) L n 12 depth (f_ex (t_K B) L n 6 depth (false, p))) x → Φ (.inl (some (bm_i x))) (fW w0 m (f_ex (t_K B) L n 12 depth (f_ex (t_K B) L n 6 depth (false, p))).2)) → bk_X12_argumentsForm_0 d Φ m (depth : Int) (fW w0 m p)
section FM
variable {m N L fst : Nat} {B : Int → Int} {w0 : bm_W}
theorem fo.ok {K : Nat → Int} {s : Bool × Nat} {x : Int} (h : fo K L s x) (hx : ¬ x = 0) : x = 1 ∧ s = (false, s.2) := by
  rcases h with h | h
  · exact ⟨h.1, f_eta h.2⟩
  · exact absurd h.1 hx
/-- a no stays a no where nothing is seen at the limit -/
theorem fo.dead {K : Nat → Int} {s s' : Bool × Nat} (h : fo K L s 0) (hf : s.1 = true → s' = (true, s.2)) (hL : s.1 = false → s.2 = L → s' = (true, L)) : fo K L s' 0 ∧ s'.2 = s.2 := by
  rcases h with h | h
  · exact absurd h.1 (by decide)
  · cases hb : s.1 with
    | true =>
      rw [hf hb]
      exact ⟨fo.no, rfl⟩
    | false =>
      rcases h.2 with z | z
      · rw [hb] at z; cases z
      · rw [hL hb z.1]
        exact ⟨fo.no, z.1.symm⟩
theorem f_exp_lim {K : Nat → Int} {k : Int} {s : Bool × Nat} (h : s.2 = L) : f_exp K L k s = (true, L) := by
  unfold f_exp
  rw [if_neg (fun z => by have := z.2.1; omega), h]
theorem f_exp_dead {K : Nat → Int} {k : Int} {s : Bool × Nat} (h : s.1 = true) : f_exp K L k s = (true, s.2) := by
  unfold f_exp
  rw [if_neg (fun z => by have := z.1; rw [h] at this; cases this)]
theorem f_ex_12_lim {K : Nat → Int} {n d : Nat} {s : Bool × Nat} (h : s.2 = L) : f_ex K L (n + 1) 12 d s = (true, L) := by
  rw [f_ex_12, if_neg (fun z => by have := z.2.1; omega), f_exp_lim h]
theorem f_ex_lp_lim {K : Nat → Int} {n u d : Nat} {s : Bool × Nat} (h : s.2 = L) (h1 : 7 ≤ u) (h2 : u ≤ 11) : f_ex K L (n + 1) u d s = s := by
  rw [f_ex_lp h1 h2, if_neg (fun z => by have := z.2.1; omega)]
theorem f_ex_true {K : Nat → Int} {n u d : Nat} {s : Bool × Nat} (h : s.1 = true) (hu : u ≤ 12) : f_ex K L n u d s = (true, s.2) := by
  obtain ⟨b, q⟩ := s
  cases h
  exact f_ex_fail n u d q hu
/-- a no of a part of a level is a no of the level -/
theorem fo.lv {K : Nat → Int} {n u d : Nat} {s : Bool × Nat} (h : fo K L s 0) (h1 : 7 ≤ u) (h2 : u ≤ 11) : fo K L (f_ex K L (n + 1) u d s) 0 ∧ (f_ex K L (n + 1) u d s).2 = s.2 := by
  rcases h with h | h
  · exact absurd h.1 (by decide)
  · cases hb : s.1 with
    | true =>
      rw [f_ex_true hb (by omega)]
      exact ⟨fo.no, rfl⟩
    | false =>
      rcases h.2 with z | z
      · rw [hb] at z; cases z
      · rw [f_ex_lp_lim z.1 h1 h2]
        exact ⟨Or.inr ⟨rfl, Or.inr z⟩, rfl⟩
theorem fm_lp {u n : Nat} (hu : u < 5) (h : fz m N L fst B w0) (hF : fcL m N L fst B w0 (u + 1) n) (hP : fcP m N L fst B w0 u n) : fcP m N L fst B w0 u (n + 1) := by
  intro d depth p Φ hN hL hf hd hn hdd hq
  obtain ⟨d, rfl⟩ : ∃ d', d = d' + 20 := ⟨d - 20, by omega⟩
  have hz := h.z p
  have hz1 := h.z (p + 1)
  have hn' : 8 * (L + 1 - p) ≤ n + 1 := by
    rw [if_neg (by omega), if_neg (by omega)] at hn
    omega
  have lv0 : 0 ≤ f_lv u ∧ f_lv (u + 1) ≤ 13 := by
    rcases (show u = 0 ∨ u = 1 ∨ u = 2 ∨ u = 3 ∨ u = 4 by omega) with rfl | rfl | rfl | rfl | rfl <;> decide
  refine vb_X12_levelForm_76 ?_
  simp only [bm_c0_v, bm_c1_v, bm_c2_v, bm_c3_v, bm_c4_v, bm_c5_v, bm_u_some, decide_eq_true_eq, true_and, and_true, and_self, Bool.not_eq_true, Bool.not_eq_true', decide_eq_false_iff_not, if_true, if_false, ite_true, ite_false, eq_self, true_or, or_true, hz.1.1.1, fW_9, mp_operator hz hN lv0.1 lv0.2, f_lv_opr hu]
  by_cases c : f_lo (7 + u) ≤ t_K B p ∧ t_K B p ≤ f_hi (7 + u)
  · rw [if_neg (fun z => z c)]
    refine fm_goes h hN hf (fun e => ?_) (fun e => ?_)
    · rw [bm_c1_v, if_pos rfl]
      have e1 : f_ex (t_K B) L (n + 1) (7 + u) depth (false, p) = (false, p) := f_ex_lp_lim e (by omega) (by omega)
      rw [e1] at hq
      exact hq 0 (Or.inr ⟨rfl, Or.inr ⟨e, by rw [← e]; exact f_lo_go hu c⟩⟩)
    · rw [bm_c1_v, if_neg (by decide)]
      refine ⟨hz1.1.1.1, ?_⟩
      have hs : f_see (t_K B) L (false, p) (f_lo (7 + u)) (f_hi (7 + u)) := ⟨rfl, by simp only; omega, c.1, c.2⟩
      have hN1 : p + 1 ≤ N := by
        rcases Nat.lt_or_ge p N with y | y
        · exact y
        · have h0 := h.1.2.2.2.2
          rw [show p = N by omega, h0] at c
          exact absurd c.1 (by rcases (show u = 0 ∨ u = 1 ∨ u = 2 ∨ u = 3 ∨ u = 4 by omega) with rfl | rfl | rfl | rfl | rfl <;> decide)
      have r1 := h.rng n (u + 1) depth (s := (false, p + 1)) (by omega) hN1 (by simp only; omega)
      simp only at r1
      refine hF _ depth (p + 1) _ hN1 (by omega) (by omega) hd (by split <;> (try split) <;> omega) (by omega) (fun x hx => ?_)
      rw [bm_c1_v]
      have u6 : 7 + u - 6 = u + 1 := by omega
      by_cases c9 : u = 2
      · subst c9
        have e1 : f_ex (t_K B) L (n + 1) (7 + 2) depth (false, p) = f_ex (t_K B) L n 3 depth (false, p + 1) := by rw [f_ex_lp (by decide) (by decide), if_pos hs, if_pos rfl]
        rw [e1] at hq
        rcases hx with hx | hx
        · simp only [hx.1, Int.reduceEq, if_true, if_false, decide_false, Bool.not_false, reduceIte]
          exact hq 1 (Or.inl ⟨rfl, hx.2⟩)
        · simp only [hx.1, decide_true, Bool.not_true, Bool.false_eq_true, if_false]
          exact hq 0 (Or.inr ⟨rfl, hx.2⟩)
      · have e1 : f_ex (t_K B) L (n + 1) (7 + u) depth (false, p) = f_ex (t_K B) L n (7 + u) depth (f_ex (t_K B) L n (u + 1) depth (false, p + 1)) := by rw [f_ex_lp (by omega) (by omega), if_pos hs, if_neg (by omega), u6]
        rw [e1] at hq
        have hn0 : n = n - 1 + 1 := by omega
        by_cases x0 : x = 0
        · rw [x0] at hx ⊢
          simp only [decide_true, Bool.not_true, Bool.false_eq_true, if_false]
          have := hx.lv (n := n - 1) (u := 7 + u) (d := depth) (by omega) (by omega)
          rw [← hn0] at this
          have q0 := hq 0 this.1
          rw [this.2] at q0
          exact q0
        · obtain ⟨x1, sx⟩ := hx.ok x0
          rw [x1]
          simp only [c9, if_false, Int.reduceEq, decide_false, Bool.not_false, if_true, decide_true]
          have := hP (d + 20) depth (f_ex (t_K B) L n (u + 1) depth (false, p + 1)).2 Φ r1.2.1 r1.2.2.1 (by omega) hd (by rw [if_neg (by omega), if_neg (by omega)]; omega) (by omega) (by rw [← sx]; exact hq)
          simp only [c9, if_false] at this
          exact this
  · rw [if_pos c]
    have hs : ¬ f_see (t_K B) L (false, p) (f_lo (7 + u)) (f_hi (7 + u)) := fun z => c z.2.2
    have e1 : f_ex (t_K B) L (n + 1) (7 + u) depth (false, p) = (false, p) := by rw [f_ex_lp (by omega) (by omega), if_neg hs]
    rw [e1] at hq
    exact hq 1 fo.yes
theorem fm_lv_0 {n : Nat} (h : fz m N L fst B w0) (hF : fcL m N L fst B w0 1 (n + 1)) (hP : fcP m N L fst B w0 0 (n + 1)) : fcL m N L fst B w0 0 (n + 2) := by
  intro d depth p Φ hN hL hf hd hn hdd hq
  have hz := h.z p
  simp only [Nat.reduceEqDiff, Nat.reduceLeDiff, if_true, if_false, reduceIte] at hn
  have e1 : f_ex (t_K B) L (n + 2) 0 depth (false, p) = f_ex (t_K B) L (n + 1) (7 + 0) depth (f_ex (t_K B) L (n + 1) 1 depth (false, p)) := f_ex_lv (by decide)
  rw [e1] at hq
  have r1 := h.rng (n + 1) 1 depth (s := (false, p)) (by decide) hN hL
  simp only at r1
  refine vc_X12_levelForm ?_
  have lv : f_lv 0 = 0 := rfl
  rw [lv]
  simp only [bm_c0_v, bm_c1_v, bm_c2_v, bm_c3_v, bm_c4_v, bm_c5_v, bm_u_some, decide_eq_true_eq, true_and, and_true, and_self, Bool.not_eq_true, Bool.not_eq_true', decide_eq_false_iff_not, if_true, if_false, ite_true, ite_false, eq_self, true_or, or_true, hz.1.1.1, Int.reduceEq, not_true_eq_false, not_false_eq_true]
  have key := hF (d - 1) depth p (fun r1 w1 => bm_c1 (fun x1 => if ¬ x1 = 0 then bk_X12_levelForm_76 d Φ m (depth : Int) 0 1 0 w1 else ((0 : Int) = 0 ∨ (0 : Int) = 1) ∧ Φ (.inl (some (bm_i 0))) w1) (fun E => Φ (.inr E) w1) r1) hN hL hf hd (by simp only [Nat.reduceEqDiff, Nat.reduceLeDiff, if_true, if_false, reduceIte]; omega) (by omega) (fun x hx => ?_)
  · simp only [show d - 1 + 1 = d by omega] at key
    have lv2 : f_lv 1 = 1 := rfl
    rw [lv2] at key
    simp only [Int.reduceEq, true_or, true_and] at key
    exact key
  · rw [bm_c1_v]
    by_cases x0 : x = 0
    · rw [x0] at hx ⊢
      rw [if_neg (by decide)]
      have := hx.lv (n := n) (u := 7 + 0) (d := depth) (by decide) (by decide)
      have q0 := hq 0 this.1
      rw [this.2] at q0
      exact ⟨Or.inl rfl, q0⟩
    · obtain ⟨x1, sx⟩ := hx.ok x0
      rw [if_pos x0]
      exact hP d depth (f_ex (t_K B) L (n + 1) 1 depth (false, p)).2 Φ r1.2.1 r1.2.2.1 (by omega) hd (by simp only [Nat.reduceAdd, Nat.reduceEqDiff, Nat.reduceLeDiff, if_true, if_false, reduceIte]; omega) (by omega) (by rw [← sx]; exact hq)
theorem fm_lv_1 {n : Nat} (h : fz m N L fst B w0) (hF : fcL m N L fst B w0 2 (n + 1)) (hP : fcP m N L fst B w0 1 (n + 1)) : fcL m N L fst B w0 1 (n + 2) := by
  intro d depth p Φ hN hL hf hd hn hdd hq
  have hz := h.z p
  simp only [Nat.reduceEqDiff, Nat.reduceLeDiff, if_true, if_false, reduceIte] at hn
  have e1 : f_ex (t_K B) L (n + 2) 1 depth (false, p) = f_ex (t_K B) L (n + 1) (7 + 1) depth (f_ex (t_K B) L (n + 1) 2 depth (false, p)) := f_ex_lv (by decide)
  rw [e1] at hq
  have r1 := h.rng (n + 1) 2 depth (s := (false, p)) (by decide) hN hL
  simp only at r1
  refine vc_X12_levelForm ?_
  have lv : f_lv 1 = 1 := rfl
  rw [lv]
  simp only [bm_c0_v, bm_c1_v, bm_c2_v, bm_c3_v, bm_c4_v, bm_c5_v, bm_u_some, decide_eq_true_eq, true_and, and_true, and_self, Bool.not_eq_true, Bool.not_eq_true', decide_eq_false_iff_not, if_true, if_false, ite_true, ite_false, eq_self, true_or, or_true, hz.1.1.1, Int.reduceEq, not_true_eq_false, not_false_eq_true]
  have key := hF (d - 1) depth p (fun r1 w1 => bm_c1 (fun x1 => if ¬ x1 = 0 then bk_X12_levelForm_76 d Φ m (depth : Int) 1 2 0 w1 else ((0 : Int) = 0 ∨ (0 : Int) = 1) ∧ Φ (.inl (some (bm_i 0))) w1) (fun E => Φ (.inr E) w1) r1) hN hL hf hd (by simp only [Nat.reduceEqDiff, Nat.reduceLeDiff, if_true, if_false, reduceIte]; omega) (by omega) (fun x hx => ?_)
  · simp only [show d - 1 + 1 = d by omega] at key
    have lv2 : f_lv 2 = 2 := rfl
    rw [lv2] at key
    simp only [Int.reduceEq, true_or, true_and] at key
    exact key
  · rw [bm_c1_v]
    by_cases x0 : x = 0
    · rw [x0] at hx ⊢
      rw [if_neg (by decide)]
      have := hx.lv (n := n) (u := 7 + 1) (d := depth) (by decide) (by decide)
      have q0 := hq 0 this.1
      rw [this.2] at q0
      exact ⟨Or.inl rfl, q0⟩
    · obtain ⟨x1, sx⟩ := hx.ok x0
      rw [if_pos x0]
      exact hP d depth (f_ex (t_K B) L (n + 1) 2 depth (false, p)).2 Φ r1.2.1 r1.2.2.1 (by omega) hd (by simp only [Nat.reduceAdd, Nat.reduceEqDiff, Nat.reduceLeDiff, if_true, if_false, reduceIte]; omega) (by omega) (by rw [← sx]; exact hq)
theorem fm_lv_2 {n : Nat} (h : fz m N L fst B w0) (hF : fcL m N L fst B w0 3 (n + 1)) (hP : fcP m N L fst B w0 2 (n + 1)) : fcL m N L fst B w0 2 (n + 2) := by
  intro d depth p Φ hN hL hf hd hn hdd hq
  have hz := h.z p
  simp only [Nat.reduceEqDiff, Nat.reduceLeDiff, if_true, if_false, reduceIte] at hn
  have e1 : f_ex (t_K B) L (n + 2) 2 depth (false, p) = f_ex (t_K B) L (n + 1) (7 + 2) depth (f_ex (t_K B) L (n + 1) 3 depth (false, p)) := f_ex_lv (by decide)
  rw [e1] at hq
  have r1 := h.rng (n + 1) 3 depth (s := (false, p)) (by decide) hN hL
  simp only at r1
  refine vc_X12_levelForm ?_
  have lv : f_lv 2 = 2 := rfl
  rw [lv]
  simp only [bm_c0_v, bm_c1_v, bm_c2_v, bm_c3_v, bm_c4_v, bm_c5_v, bm_u_some, decide_eq_true_eq, true_and, and_true, and_self, Bool.not_eq_true, Bool.not_eq_true', decide_eq_false_iff_not, if_true, if_false, ite_true, ite_false, eq_self, true_or, or_true, hz.1.1.1, Int.reduceEq, not_true_eq_false, not_false_eq_true]
  have key := hF (d - 1) depth p (fun r1 w1 => bm_c1 (fun x1 => if ¬ x1 = 0 then bk_X12_levelForm_76 d Φ m (depth : Int) 2 8 1 w1 else ((0 : Int) = 0 ∨ (0 : Int) = 1) ∧ Φ (.inl (some (bm_i 0))) w1) (fun E => Φ (.inr E) w1) r1) hN hL hf hd (by simp only [Nat.reduceEqDiff, Nat.reduceLeDiff, if_true, if_false, reduceIte]; omega) (by omega) (fun x hx => ?_)
  · simp only [show d - 1 + 1 = d by omega] at key
    have lv2 : f_lv 3 = 8 := rfl
    rw [lv2] at key
    simp only [Int.reduceEq, true_or, true_and] at key
    exact key
  · rw [bm_c1_v]
    by_cases x0 : x = 0
    · rw [x0] at hx ⊢
      rw [if_neg (by decide)]
      have := hx.lv (n := n) (u := 7 + 2) (d := depth) (by decide) (by decide)
      have q0 := hq 0 this.1
      rw [this.2] at q0
      exact ⟨Or.inl rfl, q0⟩
    · obtain ⟨x1, sx⟩ := hx.ok x0
      rw [if_pos x0]
      exact hP d depth (f_ex (t_K B) L (n + 1) 3 depth (false, p)).2 Φ r1.2.1 r1.2.2.1 (by omega) hd (by simp only [Nat.reduceAdd, Nat.reduceEqDiff, Nat.reduceLeDiff, if_true, if_false, reduceIte]; omega) (by omega) (by rw [← sx]; exact hq)
theorem fm_lv_3 {n : Nat} (h : fz m N L fst B w0) (hF : fcL m N L fst B w0 4 (n + 1)) (hP : fcP m N L fst B w0 3 (n + 1)) : fcL m N L fst B w0 3 (n + 2) := by
  intro d depth p Φ hN hL hf hd hn hdd hq
  have hz := h.z p
  simp only [Nat.reduceEqDiff, Nat.reduceLeDiff, if_true, if_false, reduceIte] at hn
  have e1 : f_ex (t_K B) L (n + 2) 3 depth (false, p) = f_ex (t_K B) L (n + 1) (7 + 3) depth (f_ex (t_K B) L (n + 1) 4 depth (false, p)) := f_ex_lv (by decide)
  rw [e1] at hq
  have r1 := h.rng (n + 1) 4 depth (s := (false, p)) (by decide) hN hL
  simp only at r1
  refine vc_X12_levelForm ?_
  have lv : f_lv 3 = 8 := rfl
  rw [lv]
  simp only [bm_c0_v, bm_c1_v, bm_c2_v, bm_c3_v, bm_c4_v, bm_c5_v, bm_u_some, decide_eq_true_eq, true_and, and_true, and_self, Bool.not_eq_true, Bool.not_eq_true', decide_eq_false_iff_not, if_true, if_false, ite_true, ite_false, eq_self, true_or, or_true, hz.1.1.1, Int.reduceEq, not_true_eq_false, not_false_eq_true]
  have key := hF (d - 1) depth p (fun r1 w1 => bm_c1 (fun x1 => if ¬ x1 = 0 then bk_X12_levelForm_76 d Φ m (depth : Int) 8 10 0 w1 else ((0 : Int) = 0 ∨ (0 : Int) = 1) ∧ Φ (.inl (some (bm_i 0))) w1) (fun E => Φ (.inr E) w1) r1) hN hL hf hd (by simp only [Nat.reduceEqDiff, Nat.reduceLeDiff, if_true, if_false, reduceIte]; omega) (by omega) (fun x hx => ?_)
  · simp only [show d - 1 + 1 = d by omega] at key
    have lv2 : f_lv 4 = 10 := rfl
    rw [lv2] at key
    simp only [Int.reduceEq, true_or, true_and] at key
    exact key
  · rw [bm_c1_v]
    by_cases x0 : x = 0
    · rw [x0] at hx ⊢
      rw [if_neg (by decide)]
      have := hx.lv (n := n) (u := 7 + 3) (d := depth) (by decide) (by decide)
      have q0 := hq 0 this.1
      rw [this.2] at q0
      exact ⟨Or.inl rfl, q0⟩
    · obtain ⟨x1, sx⟩ := hx.ok x0
      rw [if_pos x0]
      exact hP d depth (f_ex (t_K B) L (n + 1) 4 depth (false, p)).2 Φ r1.2.1 r1.2.2.1 (by omega) hd (by simp only [Nat.reduceAdd, Nat.reduceEqDiff, Nat.reduceLeDiff, if_true, if_false, reduceIte]; omega) (by omega) (by rw [← sx]; exact hq)
theorem fm_lv_4 {n : Nat} (h : fz m N L fst B w0) (hF : fcL m N L fst B w0 5 (n + 1)) (hP : fcP m N L fst B w0 4 (n + 1)) : fcL m N L fst B w0 4 (n + 2) := by
  intro d depth p Φ hN hL hf hd hn hdd hq
  have hz := h.z p
  simp only [Nat.reduceEqDiff, Nat.reduceLeDiff, if_true, if_false, reduceIte] at hn
  have e1 : f_ex (t_K B) L (n + 2) 4 depth (false, p) = f_ex (t_K B) L (n + 1) (7 + 4) depth (f_ex (t_K B) L (n + 1) 5 depth (false, p)) := f_ex_lv (by decide)
  rw [e1] at hq
  have r1 := h.rng (n + 1) 5 depth (s := (false, p)) (by decide) hN hL
  simp only at r1
  refine vc_X12_levelForm ?_
  have lv : f_lv 4 = 10 := rfl
  rw [lv]
  simp only [bm_c0_v, bm_c1_v, bm_c2_v, bm_c3_v, bm_c4_v, bm_c5_v, bm_u_some, decide_eq_true_eq, true_and, and_true, and_self, Bool.not_eq_true, Bool.not_eq_true', decide_eq_false_iff_not, if_true, if_false, ite_true, ite_false, eq_self, true_or, or_true, hz.1.1.1, Int.reduceEq, not_true_eq_false, not_false_eq_true]
  have key := hF (d - 1) depth p (fun r1 w1 => bm_c1 (fun x1 => if ¬ x1 = 0 then bk_X12_levelForm_76 d Φ m (depth : Int) 10 13 0 w1 else ((0 : Int) = 0 ∨ (0 : Int) = 1) ∧ Φ (.inl (some (bm_i 0))) w1) (fun E => Φ (.inr E) w1) r1) hN hL hf hd (by simp only [Nat.reduceEqDiff, Nat.reduceLeDiff, if_true, if_false, reduceIte]; omega) (by omega) (fun x hx => ?_)
  · simp only [show d - 1 + 1 = d by omega] at key
    have lv2 : f_lv 5 = 13 := rfl
    rw [lv2] at key
    simp only [Int.reduceEq, true_or, true_and] at key
    exact key
  · rw [bm_c1_v]
    by_cases x0 : x = 0
    · rw [x0] at hx ⊢
      rw [if_neg (by decide)]
      have := hx.lv (n := n) (u := 7 + 4) (d := depth) (by decide) (by decide)
      have q0 := hq 0 this.1
      rw [this.2] at q0
      exact ⟨Or.inl rfl, q0⟩
    · obtain ⟨x1, sx⟩ := hx.ok x0
      rw [if_pos x0]
      exact hP d depth (f_ex (t_K B) L (n + 1) 5 depth (false, p)).2 Φ r1.2.1 r1.2.2.1 (by omega) hd (by simp only [Nat.reduceAdd, Nat.reduceEqDiff, Nat.reduceLeDiff, if_true, if_false, reduceIte]; omega) (by omega) (by rw [← sx]; exact hq)
theorem fm_lv_5 {n : Nat} (h : fz m N L fst B w0) (hF : fcF m N L fst B w0 n) : fcL m N L fst B w0 5 n := by
  intro d depth p Φ hN hL hf hd hn hdd hq
  have hz := h.z p
  refine vc_X12_levelForm ?_
  have lv : f_lv 5 = 13 := rfl
  rw [lv]
  simp only [bm_c0_v, bm_c1_v, bm_c2_v, bm_c3_v, bm_c4_v, bm_c5_v, bm_u_some, decide_eq_true_eq, true_and, and_true, and_self, Bool.not_eq_true, Bool.not_eq_true', decide_eq_false_iff_not, if_true, if_false, ite_true, ite_false, eq_self, true_or, or_true, hz.1.1.1, Int.reduceEq, not_true_eq_false, not_false_eq_true]
  refine hF d depth p _ hN hL hf hd hn hdd (fun x hx => ?_)
  rw [bm_c1_v]
  exact ⟨by rcases hx with z | z <;> omega, hq x hx⟩
end FM

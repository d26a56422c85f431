/-! ===== the model: meaning of functions, first half ===== -/
/-- no ; in an expression -/
theorem f_ex_n19 {K : Nat → Int} {L : Nat} : ∀ (n u d : Nat) (s : Bool × Nat), u ≤ 12 → (f_ex K L n u d s).1 = false → ∀ x, s.2 ≤ x → x < (f_ex K L n u d s).2 → K x ≠ 19
  | 0, _, _, _, _, z => by cases z
  | n + 1, u, d, s, hu, z => by
    have ih := f_ex_n19 (K := K) (L := L) n
    have rng : ∀ (u d : Nat) (s : Bool × Nat), u ≤ 12 → s.2 ≤ (f_ex K L n u d s).2 := fun u d s hu => by
      have := f_ex_rng (K := K) (L := L) (M := max L s.2) (fun q _ a _ => by omega) n u d s hu (by omega)
      exact this.1
    -- one token, then a part
    have one : ∀ (s s2 : Bool × Nat) {k : Int}, f_see K L s k k → k ≠ 19 → (∀ x, s.2 + 1 ≤ x → x < s2.2 → K x ≠ 19) → ∀ x, s.2 ≤ x → x < s2.2 → K x ≠ 19 := fun s s2 k h hk h2 x hx hx2 => by
      by_cases c : x = s.2
      · rw [c]; have := h.2.2; omega
      · exact h2 x (by omega) hx2
    have ex : ∀ (k : Int) (s : Bool × Nat), k ≠ 19 → (f_exp K L k s).1 = false → f_exp K L k s = (false, s.2 + 1) ∧ K s.2 ≠ 19 := fun k s hk h => by
      have := f_exp_ok h
      exact ⟨this.2, by have := this.1.2.2; omega⟩
    rcases f_modes hu with rfl | rfl | rfl | h | h
    · rw [f_ex_6] at z ⊢
      by_cases c : f_see K L s 6 6
      · rw [if_pos c] at z ⊢
        split at z
        · cases z
        · rename_i hd
          rw [if_neg hd]
          have z4 := f_ex_ok (by decide) z
          have e4 := ex 8 _ (by decide) z4
          have z3 : (f_ex K L n 6 (d + 1) (f_exp K L 7 (f_ex K L n 6 (d + 1) (false, s.2 + 1)))).1 = false := (f_exp_ok z4).1.1
          have z2 := f_ex_ok (by decide) z3
          have e2 := ex 7 _ (by decide) z2
          have z1 : (f_ex K L n 6 (d + 1) (false, s.2 + 1)).1 = false := (f_exp_ok z2).1.1
          have i5 := ih 6 (d + 1) _ (by decide) z
          have i3 := ih 6 (d + 1) _ (by decide) z3
          have i1 := ih 6 (d + 1) _ (by decide) z1
          have r1 := rng 6 (d + 1) (false, s.2 + 1) (by decide)
          rw [e4.1] at i5 z ⊢
          rw [e2.1] at i3 e4 i5 z3 ⊢
          have r3 := rng 6 (d + 1) (false, (f_ex K L n 6 (d + 1) (false, s.2 + 1)).2 + 1) (by decide)
          simp only at i5 i3 i1 r1 r3 e4
          refine one s _ c (by decide) (fun x hx hx2 => ?_)
          rcases Nat.lt_or_ge x (f_ex K L n 6 (d + 1) (false, s.2 + 1)).2 with y | y
          · exact i1 x hx y
          by_cases y2 : x = (f_ex K L n 6 (d + 1) (false, s.2 + 1)).2
          · rw [y2]; exact e2.2
          rcases Nat.lt_or_ge x (f_ex K L n 6 (d + 1) (false, (f_ex K L n 6 (d + 1) (false, s.2 + 1)).2 + 1)).2 with y3 | y3
          · exact i3 x (by omega) y3
          by_cases y4 : x = (f_ex K L n 6 (d + 1) (false, (f_ex K L n 6 (d + 1) (false, s.2 + 1)).2 + 1)).2
          · rw [y4]; exact e4.2
          · exact i5 x (by omega) hx2
      · rw [if_neg c] at z ⊢
        exact ih 0 d s (by decide) z
    · rw [f_ex_5] at z ⊢
      by_cases c1 : f_see K L s 2 2
      · rw [if_pos c1]
        exact one s _ c1 (by decide) (fun x hx hx2 => by simp only at hx2; omega)
      rw [if_neg c1] at z ⊢
      by_cases c2 : f_see K L s 3 3
      · rw [if_pos c2] at z ⊢
        by_cases c3 : f_see K L (false, s.2 + 1) 16 16
        · rw [if_pos c3] at z ⊢
          split at z
          · cases z
          · rename_i hd
            rw [if_neg hd]
            have z1 := f_ex_ok (by decide) z
            have i2 := ih 12 (d + 1) _ (by decide) z
            have i1 := ih 6 (d + 1) _ (by decide) z1
            have r1 := rng 6 (d + 1) (false, s.2 + 2) (by decide)
            simp only at i2 i1 r1
            refine one s _ c2 (by decide) (one (false, s.2 + 1) _ c3 (by decide) (fun x hx hx2 => ?_))
            simp only at hx
            rcases Nat.lt_or_ge x (f_ex K L n 6 (d + 1) (false, s.2 + 2)).2 with y | y
            · exact i1 x (by omega) y
            · exact i2 x y hx2
        · rw [if_neg c3]
          exact one s _ c2 (by decide) (fun x hx hx2 => by simp only at hx2; omega)
      rw [if_neg c2] at z ⊢
      split at z
      · cases z
      rename_i hd
      rw [if_neg hd]
      by_cases c4 : f_see K L s 16 16
      · rw [if_pos c4] at z ⊢
        have e1 := ex 17 _ (by decide) z
        have z1 : (f_ex K L n 6 (d + 1) (false, s.2 + 1)).1 = false := (f_exp_ok z).1.1
        have i1 := ih 6 (d + 1) _ (by decide) z1
        rw [e1.1]
        simp only at i1 e1
        refine one s _ c4 (by decide) (fun x hx hx2 => ?_)
        simp only at hx2
        by_cases y : x = (f_ex K L n 6 (d + 1) (false, s.2 + 1)).2
        · rw [y]; exact e1.2
        · exact i1 x hx (by omega)
      rw [if_neg c4] at z ⊢
      by_cases c5 : f_see K L s 29 29 ∨ f_see K L s 11 11
      · rw [if_pos c5] at z ⊢
        have i1 := ih 5 (d + 1) _ (by decide) z
        rcases c5 with c5 | c5
        · exact one s _ c5 (by decide) i1
        · exact one s _ c5 (by decide) i1
      · rw [if_neg c5] at z
        cases z
    · rw [f_ex_12] at z ⊢
      by_cases c : f_see K L s 18 18
      · rw [if_pos c] at z ⊢
        have z1 := f_ex_ok (by decide) z
        have i2 := ih 12 d _ (by decide) z
        have i1 := ih 6 d _ (by decide) z1
        refine one s _ c (by decide) (fun x hx hx2 => ?_)
        rcases Nat.lt_or_ge x (f_ex K L n 6 d (false, s.2 + 1)).2 with y | y
        · exact i1 x hx y
        · exact i2 x y hx2
      · rw [if_neg c] at z ⊢
        have e1 := ex 17 _ (by decide) z
        rw [e1.1]
        intro x hx hx2
        simp only at hx2
        rw [show x = s.2 by omega]
        exact e1.2
    · rw [f_ex_lv h] at z ⊢
      have z1 := f_ex_ok (by omega) z
      have i2 := ih (7 + u) d _ (by omega) z
      have i1 := ih (u + 1) d _ (by omega) z1
      intro x hx hx2
      rcases Nat.lt_or_ge x (f_ex K L n (u + 1) d s).2 with y | y
      · exact i1 x hx y
      · exact i2 x y hx2
    · rw [f_ex_lp h.1 h.2] at z ⊢
      by_cases c : f_see K L s (f_lo u) (f_hi u)
      · rw [if_pos c] at z ⊢
        have k19 : K s.2 ≠ 19 := by
          have := c.2.2
          rcases (show u = 7 ∨ u = 8 ∨ u = 9 ∨ u = 10 ∨ u = 11 by omega) with rfl | rfl | rfl | rfl | rfl
          all_goals (simp [f_lo, f_hi] at this; omega)
        have c' : f_see K L s (K s.2) (K s.2) := ⟨c.1, c.2.1, Int.le_refl _, Int.le_refl _⟩
        split at z
        · rename_i u9
          rw [if_pos u9]
          exact one s _ c' k19 (ih 3 d _ (by decide) z)
        · rename_i u9
          rw [if_neg u9]
          have z1 := f_ex_ok (by omega) z
          have i2 := ih u d _ (by omega) z
          have i1 := ih (u - 6) d _ (by omega) z1
          refine one s _ c' k19 (fun x hx hx2 => ?_)
          rcases Nat.lt_or_ge x (f_ex K L n (u - 6) d (false, s.2 + 1)).2 with y | y
          · exact i1 x hx y
          · exact i2 x y hx2
      · rw [if_neg c]
        intro x hx hx2
        omega
/-- functions below G stay as they are -/
def mfr (m G : Nat) (w w' : bm_W) : Prop := (∀ g, g < G → bm_gl w' (m + 13) g = bm_gl w (m + 13) g ∧ bm_gi w' (m + 14) g = bm_gi w (m + 14) g ∧ bm_gi w' (m + 18) g = bm_gi w (m + 18) g ∧ bm_gi w' (m + 19) g = bm_gi w (m + 19) g ∧ bm_gi w' (m + 20) g = bm_gi w (m + 20) g) ∧ (∀ j, j < 3 * G → bm_gl w' (m + 15) j = bm_gl w (m + 15) j ∧ bm_gi w' (m + 16) j = bm_gi w (m + 16) j ∧ bm_gi w' (m + 17) j = bm_gi w (m + 17) j) ∧ bm_gi w m 11 ≤ bm_gi w' m 11 ∧ ∀ a j, m + 7 ≤ a → a ≤ m + 12 → ((j : Nat) : Int) < bm_gi w m 11 → bm_gi w' a j = bm_gi w a j
theorem mfr.tr {m G : Nat} {w w1 w2 : bm_W} (h : mfr m G w w1) (h2 : mfr m G w1 w2) : mfr m G w w2 := by
  obtain ⟨a1, a2, a3, a4⟩ := h
  obtain ⟨b1, b2, b3, b4⟩ := h2
  refine ⟨fun g hg => ⟨(b1 g hg).1.trans (a1 g hg).1, (b1 g hg).2.1.trans (a1 g hg).2.1, (b1 g hg).2.2.1.trans (a1 g hg).2.2.1, (b1 g hg).2.2.2.1.trans (a1 g hg).2.2.2.1, (b1 g hg).2.2.2.2.trans (a1 g hg).2.2.2.2⟩, fun j hj => ⟨(b2 j hj).1.trans (a2 j hj).1, (b2 j hj).2.1.trans (a2 j hj).2.1, (b2 j hj).2.2.trans (a2 j hj).2.2⟩, by omega, fun a j x y z => (b4 a j x y (by omega)).trans (a4 a j x y z)⟩
theorem mfr.of {A : Nat → Prop} {m G : Nat} {w w' : bm_W} (h : q_fr A w w') (hA : ∀ a, m + 7 ≤ a → a ≤ m + 20 → ¬ A a) (h11 : bm_gi w m 11 ≤ bm_gi w' m 11) : mfr m G w w' :=
  ⟨fun g _ => ⟨h.gl (hA _ (by omega) (by omega)), h.gi (hA _ (by omega) (by omega)), h.gi (hA _ (by omega) (by omega)), h.gi (hA _ (by omega) (by omega)), h.gi (hA _ (by omega) (by omega))⟩, fun j _ => ⟨h.gl (hA _ (by omega) (by omega)), h.gi (hA _ (by omega) (by omega)), h.gi (hA _ (by omega) (by omega))⟩, h11, fun a j x y _ => h.gi (hA a x (by omega))⟩
theorem mfn.mv {m G g : Nat} {B : Int → Int} {F : y_fn} {w w' : bm_W} (h : mfn m B g F w) (hf : mfr m G w w') (hg : g < G) : mfn m B g F w' := by
  obtain ⟨⟨a0, a1⟩, ⟨b1, b2, b3, b4⟩, a3, a4, a5, a6, a7, n, a8, a9⟩ := h
  obtain ⟨f1, f2, f3, f4⟩ := hf
  have e := f1 g hg
  refine ⟨⟨a0, e.1.trans a1⟩, ⟨e.2.1.trans b1, b2, fun i hi => ?_, b4⟩, a3, e.2.2.2.1.trans a4, e.2.2.2.2.trans a5, a6, a7, n, by omega, fun w0 h1 h2 h3 => a9 w0 (fun a j x y z => (h1 a j x y z).trans (f4 a j x y (by omega))) (fun h hh => ⟨(h2 h hh).1.trans (f1 h (by omega)).2.1, (h2 h hh).2.trans (f1 h (by omega)).2.2.1⟩) h3⟩
  have := b3 i hi
  have e2 := f2 (3 * g + i) (by omega)
  rw [e2.1, e2.2.1, e2.2.2]
  exact this
theorem mfs.mv {m : Nat} {B : Int → Int} {fs : List y_fn} {w w' : bm_W} (h : mfs m B fs w) (hf : mfr m fs.length w w') (h18 : bm_gi w' m 18 = bm_gi w m 18) : mfs m B fs w' := ⟨h18.trans h.1, h.2.1, fun g hg => (h.2.2.1 g hg).mv hf hg, h.2.2.2⟩
/-- tables stay as they are -/
def mtr (m : Nat) (w w' : bm_W) : Prop := bm_gi w' m 28 = bm_gi w m 28 ∧ ∀ a j, m + 21 ≤ a → a ≤ m + 27 → bm_gi w' a j = bm_gi w a j ∧ bm_gl w' a j = bm_gl w a j
theorem mtr.tr {m : Nat} {w w1 w2 : bm_W} (h : mtr m w w1) (h2 : mtr m w1 w2) : mtr m w w2 := ⟨h2.1.trans h.1, fun a j x y => ⟨(h2.2 a j x y).1.trans (h.2 a j x y).1, (h2.2 a j x y).2.trans (h.2 a j x y).2⟩⟩
theorem mtr.of {A : Nat → Prop} {m : Nat} {w w' : bm_W} (h : q_fr A w w') (hA : ∀ a, m + 21 ≤ a → a ≤ m + 27 → ¬ A a) (h28 : bm_gi w' m 28 = bm_gi w m 28) : mtr m w w' := ⟨h28, fun a j x y => ⟨h.gi (hA a x y), h.gl (hA a x y)⟩⟩
theorem mts.mv {m : Nat} {B : Int → Int} {pr pr' : y_pr} {w w' : bm_W} (h : mts m B pr w) (hf : mtr m w w') (h2 : pr'.2 = pr.2) (hl : pr.1.length ≤ pr'.1.length) (h1 : ∀ g, g < pr.1.length → pr'.1.getD g y_f0 = pr.1.getD g y_f0) : mts m B pr' w' := by
  obtain ⟨a1, a2, a3, a4⟩ := h
  unfold mts
  rw [h2]
  refine ⟨hf.1.trans a1, a2, fun k hk => ?_, a4⟩
  obtain ⟨⟨b0, b1⟩, b2, b3, b4, b5, b6, b7⟩ := a3 k hk
  have g : ∀ a j, m + 21 ≤ a → a ≤ m + 27 → bm_gi w' a j = bm_gi w a j ∧ bm_gl w' a j = bm_gl w a j := hf.2
  refine ⟨⟨b0, (g _ _ (by omega) (by omega)).2.trans b1⟩, (g _ _ (by omega) (by omega)).1.trans b2, by omega, (g _ _ (by omega) (by omega)).1.trans b4, b5, b6, fun i hi => ⟨?_, ?_⟩⟩
  · obtain ⟨c1, c2, c3⟩ := (b7 i hi).1
    refine ⟨fun c hc => ?_, (g _ _ (by omega) (by omega)).1.trans c2, (g _ _ (by omega) (by omega)).2.trans c3⟩
    rw [(g _ _ (by omega) (by omega)).1, (g _ _ (by omega) (by omega)).1]
    exact c1 c hc
  · rw [h1 _ b3]
    exact (b7 i hi).2

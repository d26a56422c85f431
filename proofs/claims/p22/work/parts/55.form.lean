/-! ===== the form of expressions ===== -/
/-- a kind from a to b is seen; a state: whether reading has failed, and where it stands -/
abbrev f_see (K : Nat → Int) (L : Nat) (s : Bool × Nat) (a b : Int) : Prop := s.1 = false ∧ s.2 < L ∧ a ≤ K s.2 ∧ K s.2 ≤ b
def f_exp (K : Nat → Int) (L : Nat) (k : Int) (s : Bool × Nat) : Bool × Nat := if f_see K L s k k then (false, s.2 + 1) else (true, s.2)
def f_lo (u : Nat) : Int := if u = 7 then 10 else if u = 8 then 9 else if u = 9 then 22 else if u = 10 then 28 else 30
def f_hi (u : Nat) : Int := if u = 7 then 10 else if u = 8 then 9 else if u = 9 then 27 else if u = 10 then 29 else 32
/-- reading: u = 6 an expression, 0 to 4 a level from or on, 5 a factor, 7 to 11 the rest of a level, 12 the rest of arguments; d the depth -/
def f_ex (K : Nat → Int) (L : Nat) : Nat → Nat → Nat → Bool × Nat → Bool × Nat
  | 0, _, _, s => (true, s.2)
  | n + 1, u, d, s =>
    if u = 6 then
      if f_see K L s 6 6 then
        if 8 ≤ d then (true, s.2) else f_ex K L n 6 (d + 1) (f_exp K L 8 (f_ex K L n 6 (d + 1) (f_exp K L 7 (f_ex K L n 6 (d + 1) (false, s.2 + 1)))))
      else f_ex K L n 0 d s
    else if u = 5 then
      if f_see K L s 2 2 then (false, s.2 + 1)
      else if f_see K L s 3 3 then
        if f_see K L (false, s.2 + 1) 16 16 then
          if 8 ≤ d then (true, s.2 + 1) else f_ex K L n 12 (d + 1) (f_ex K L n 6 (d + 1) (false, s.2 + 2))
        else (false, s.2 + 1)
      else if 8 ≤ d then (true, s.2)
      else if f_see K L s 16 16 then f_exp K L 17 (f_ex K L n 6 (d + 1) (false, s.2 + 1))
      else if f_see K L s 29 29 ∨ f_see K L s 11 11 then f_ex K L n 5 (d + 1) (false, s.2 + 1)
      else (true, s.2)
    else if u = 12 then
      if f_see K L s 18 18 then f_ex K L n 12 d (f_ex K L n 6 d (false, s.2 + 1)) else f_exp K L 17 s
    else if u < 5 then f_ex K L n (7 + u) d (f_ex K L n (u + 1) d s)
    else if f_see K L s (f_lo u) (f_hi u) then (if u = 9 then f_ex K L n 3 d (false, s.2 + 1) else f_ex K L n u d (f_ex K L n (u - 6) d (false, s.2 + 1)))
    else s
section FORM
variable {K : Nat → Int} {L : Nat}
theorem f_ex_6 {n d : Nat} {s : Bool × Nat} : f_ex K L (n + 1) 6 d s = if f_see K L s 6 6 then (if 8 ≤ d then (true, s.2) else f_ex K L n 6 (d + 1) (f_exp K L 8 (f_ex K L n 6 (d + 1) (f_exp K L 7 (f_ex K L n 6 (d + 1) (false, s.2 + 1)))))) else f_ex K L n 0 d s := rfl
theorem f_ex_5 {n d : Nat} {s : Bool × Nat} : f_ex K L (n + 1) 5 d s = if f_see K L s 2 2 then (false, s.2 + 1)
      else if f_see K L s 3 3 then
        if f_see K L (false, s.2 + 1) 16 16 then
          if 8 ≤ d then (true, s.2 + 1) else f_ex K L n 12 (d + 1) (f_ex K L n 6 (d + 1) (false, s.2 + 2))
        else (false, s.2 + 1)
      else if 8 ≤ d then (true, s.2)
      else if f_see K L s 16 16 then f_exp K L 17 (f_ex K L n 6 (d + 1) (false, s.2 + 1))
      else if f_see K L s 29 29 ∨ f_see K L s 11 11 then f_ex K L n 5 (d + 1) (false, s.2 + 1)
      else (true, s.2) := rfl
theorem f_ex_12 {n d : Nat} {s : Bool × Nat} : f_ex K L (n + 1) 12 d s = if f_see K L s 18 18 then f_ex K L n 12 d (f_ex K L n 6 d (false, s.2 + 1)) else f_exp K L 17 s := rfl
theorem f_ex_lv {n u d : Nat} {s : Bool × Nat} (h : u < 5) : f_ex K L (n + 1) u d s = f_ex K L n (7 + u) d (f_ex K L n (u + 1) d s) := by
  rw [f_ex, if_neg (by omega), if_neg (by omega), if_neg (by omega), if_pos h]
theorem f_ex_lp {n u d : Nat} {s : Bool × Nat} (h : 7 ≤ u) (h2 : u ≤ 11) : f_ex K L (n + 1) u d s = if f_see K L s (f_lo u) (f_hi u) then (if u = 9 then f_ex K L n 3 d (false, s.2 + 1) else f_ex K L n u d (f_ex K L n (u - 6) d (false, s.2 + 1))) else s := by
  rw [f_ex, if_neg (by omega), if_neg (by omega), if_neg (by omega), if_neg (by omega)]
theorem f_modes {u : Nat} (h : u ≤ 12) : u = 6 ∨ u = 5 ∨ u = 12 ∨ u < 5 ∨ (7 ≤ u ∧ u ≤ 11) := by omega
theorem f_exp_fail {k : Int} {q : Nat} : f_exp K L k (true, q) = (true, q) := by
  unfold f_exp
  rw [if_neg (fun z => by have := z.1; cases this)]
theorem f_ex_fail : ∀ (n u d q : Nat), u ≤ 12 → f_ex K L n u d (true, q) = (true, q)
  | 0, _, _, _, _ => rfl
  | n + 1, u, d, q, h => by
    have no : ∀ a b : Int, ¬ f_see K L (true, q) a b := fun a b z => by have := z.1; cases this
    rcases f_modes h with rfl | rfl | rfl | h | h
    · rw [f_ex_6, if_neg (no _ _)]
      exact f_ex_fail n 0 d q (by omega)
    · rw [f_ex_5, if_neg (no _ _), if_neg (no _ _)]
      split
      · rfl
      · rw [if_neg (no _ _), if_neg (fun z => z.elim (no _ _) (no _ _))]
    · rw [f_ex_12, if_neg (no _ _), f_exp_fail]
    · rw [f_ex_lv h, f_ex_fail n (u + 1) d q (by omega), f_ex_fail n (7 + u) d q (by omega)]
    · rw [f_ex_lp h.1 h.2, if_neg (no _ _)]
theorem f_ex_ok {n u d : Nat} {s : Bool × Nat} (hu : u ≤ 12) (h : (f_ex K L n u d s).1 = false) : s.1 = false := by
  rcases s with ⟨b, q⟩
  cases b
  · rfl
  · rw [f_ex_fail n u d q hu] at h
    cases h
theorem f_exp_ok {k : Int} {s : Bool × Nat} (h : (f_exp K L k s).1 = false) : f_see K L s k k ∧ f_exp K L k s = (false, s.2 + 1) := by
  unfold f_exp at h ⊢
  by_cases c : f_see K L s k k
  · rw [if_pos c]; exact ⟨c, rfl⟩
  · rw [if_neg c] at h; cases h
theorem f_eta {s : Bool × Nat} (h : s.1 = false) : s = (false, s.2) := by
  rcases s with ⟨b, q⟩
  cases h
  rfl
/-- how far reading goes -/
theorem f_ex_rng {M : Nat} (hM : ∀ q, q ≤ M → q < L → K q ≠ 0 → q < M) : ∀ (n u d : Nat) (s : Bool × Nat), u ≤ 12 → s.2 ≤ M → s.2 ≤ (f_ex K L n u d s).2 ∧ (f_ex K L n u d s).2 ≤ M ∧ ((f_ex K L n u d s).1 = false → (u ≤ 6 ∨ u = 12) → s.2 < (f_ex K L n u d s).2)
  | 0, _, _, s, _, h => ⟨Nat.le_refl _, h, fun z => by cases z⟩
  | n + 1, u, d, s, hu, hs => by
    have ih := f_ex_rng hM n
    have ex : ∀ (k : Int) (s : Bool × Nat), k ≠ 0 → s.2 ≤ M → s.2 ≤ (f_exp K L k s).2 ∧ (f_exp K L k s).2 ≤ M ∧ ((f_exp K L k s).1 = false → s.2 < (f_exp K L k s).2) := by
      intro k s hk hs
      unfold f_exp
      by_cases c : f_see K L s k k
      · rw [if_pos c]
        have := hM s.2 hs c.2.1 (by have := c.2.2; omega)
        exact ⟨Nat.le_succ _, by omega, fun _ => Nat.lt_succ_self _⟩
      · rw [if_neg c]
        exact ⟨Nat.le_refl _, hs, fun z => by cases z⟩
    have see : ∀ a b : Int, 0 < a → f_see K L s a b → s.2 + 1 ≤ M := fun a b ha c => by
      have := hM s.2 hs c.2.1 (by have := c.2.2; omega)
      omega
    rcases f_modes hu with rfl | rfl | rfl | h | h
    · rw [f_ex_6]
      by_cases c : f_see K L s 6 6
      · rw [if_pos c]
        have h1 := see 6 6 (by decide) c
        split
        · exact ⟨Nat.le_refl _, hs, fun z => by cases z⟩
        · have i1 := ih 6 (d + 1) (false, s.2 + 1) (by decide) h1
          have i2 := ex 7 _ (by decide) i1.2.1
          have i3 := ih 6 (d + 1) _ (by decide) i2.2.1
          have i4 := ex 8 _ (by decide) i3.2.1
          have i5 := ih 6 (d + 1) _ (by decide) i4.2.1
          exact ⟨by omega, i5.2.1, fun _ _ => by omega⟩
      · rw [if_neg c]
        have i := ih 0 d s (by decide) hs
        exact ⟨i.1, i.2.1, fun z _ => i.2.2 z (by decide)⟩
    · rw [f_ex_5]
      by_cases c1 : f_see K L s 2 2
      · rw [if_pos c1]
        exact ⟨Nat.le_succ _, see _ _ (by decide) c1, fun _ _ => Nat.lt_succ_self _⟩
      rw [if_neg c1]
      by_cases c2 : f_see K L s 3 3
      · rw [if_pos c2]
        have h1 := see _ _ (by decide) c2
        by_cases c3 : f_see K L (false, s.2 + 1) 16 16
        · rw [if_pos c3]
          have h2 := hM (s.2 + 1) h1 c3.2.1 (by have := c3.2.2; show K (s.2 + 1) ≠ 0; simp only at this; omega)
          split
          · exact ⟨Nat.le_succ _, h1, fun z => by cases z⟩
          · have i1 := ih 6 (d + 1) (false, s.2 + 2) (by decide) (by show s.2 + 2 ≤ M; omega)
            have i2 := ih 12 (d + 1) _ (by decide) i1.2.1
            exact ⟨by omega, i2.2.1, fun _ _ => by omega⟩
        · rw [if_neg c3]
          exact ⟨Nat.le_succ _, h1, fun _ _ => Nat.lt_succ_self _⟩
      rw [if_neg c2]
      split
      · exact ⟨Nat.le_refl _, hs, fun z => by cases z⟩
      by_cases c4 : f_see K L s 16 16
      · rw [if_pos c4]
        have i1 := ih 6 (d + 1) (false, s.2 + 1) (by decide) (see _ _ (by decide) c4)
        have i2 := ex 17 _ (by decide) i1.2.1
        exact ⟨by omega, i2.2.1, fun _ _ => by omega⟩
      rw [if_neg c4]
      by_cases c5 : f_see K L s 29 29 ∨ f_see K L s 11 11
      · rw [if_pos c5]
        have i1 := ih 5 (d + 1) (false, s.2 + 1) (by decide) (c5.elim (see _ _ (by decide)) (see _ _ (by decide)))
        exact ⟨by omega, i1.2.1, fun _ _ => by omega⟩
      · rw [if_neg c5]
        exact ⟨Nat.le_refl _, hs, fun z => by cases z⟩
    · rw [f_ex_12]
      by_cases c : f_see K L s 18 18
      · rw [if_pos c]
        have i1 := ih 6 d (false, s.2 + 1) (by decide) (see _ _ (by decide) c)
        have i2 := ih 12 d _ (by decide) i1.2.1
        exact ⟨by omega, i2.2.1, fun _ _ => by omega⟩
      · rw [if_neg c]
        have i2 := ex 17 s (by decide) hs
        exact ⟨i2.1, i2.2.1, fun z _ => i2.2.2 z⟩
    · rw [f_ex_lv h]
      have i1 := ih (u + 1) d s (by omega) hs
      have i2 := ih (7 + u) d _ (by omega) i1.2.1
      refine ⟨by omega, i2.2.1, fun z _ => ?_⟩
      have := i1.2.2 (f_ex_ok (by omega) z) (by omega)
      omega
    · rw [f_ex_lp h.1 h.2]
      by_cases c : f_see K L s (f_lo u) (f_hi u)
      · rw [if_pos c]
        have h1 := see _ _ (by unfold f_lo; split <;> (try split) <;> (try split) <;> (try split) <;> decide) c
        split
        · have i1 := ih 3 d (false, s.2 + 1) (by decide) h1
          exact ⟨by omega, i1.2.1, fun _ z => by omega⟩
        · have i1 := ih (u - 6) d (false, s.2 + 1) (by omega) h1
          have i2 := ih u d _ (by omega) i1.2.1
          exact ⟨by omega, i2.2.1, fun _ z => by omega⟩
      · rw [if_neg c]
        exact ⟨Nat.le_refl _, hs, fun _ z => by omega⟩
/-- behind a value -/
def f_ve (K : Nat → Int) (q : Nat) : Prop := 1 ≤ q ∧ (K (q - 1) = 2 ∨ K (q - 1) = 3 ∨ K (q - 1) = 17)
theorem f_ex_ve : ∀ (n u d : Nat) (s : Bool × Nat), u ≤ 12 → (f_ex K L n u d s).1 = false → (7 ≤ u → u ≤ 11 → f_ve K s.2) → f_ve K (f_ex K L n u d s).2
  | 0, _, _, _, _, z, _ => by cases z
  | n + 1, u, d, s, hu, z, hv => by
    have ih := f_ex_ve n
    have see : ∀ (a : Int) (s : Bool × Nat), (a = 2 ∨ a = 3 ∨ a = 17) → f_see K L s a a → f_ve K (s.2 + 1) := fun a s ha c => ⟨by omega, by
      rw [Nat.add_sub_cancel]
      have := c.2.2
      omega⟩
    have ex : ∀ (s : Bool × Nat), (f_exp K L 17 s).1 = false → f_ve K (f_exp K L 17 s).2 := by
      intro s z
      have := f_exp_ok z
      rw [this.2]
      exact see 17 s (by decide) this.1
    rcases f_modes hu with rfl | rfl | rfl | h | h
    · rw [f_ex_6] at z ⊢
      by_cases c : f_see K L s 6 6
      · rw [if_pos c] at z ⊢
        by_cases c8 : 8 ≤ d
        · rw [if_pos c8] at z; cases z
        · rw [if_neg c8] at z ⊢
          exact ih 6 _ _ (by decide) z (fun a => by omega)
      · rw [if_neg c] at z ⊢
        exact ih 0 _ _ (by decide) z (fun a => by omega)
    · rw [f_ex_5] at z ⊢
      by_cases c1 : f_see K L s 2 2
      · rw [if_pos c1]
        exact see 2 s (by decide) c1
      rw [if_neg c1] at z ⊢
      by_cases c2 : f_see K L s 3 3
      · rw [if_pos c2] at z ⊢
        by_cases c3 : f_see K L (false, s.2 + 1) 16 16
        · rw [if_pos c3] at z ⊢
          by_cases c8 : 8 ≤ d
          · rw [if_pos c8] at z; cases z
          · rw [if_neg c8] at z ⊢
            exact ih 12 _ _ (by decide) z (fun a b => by omega)
        · rw [if_neg c3]
          exact see 3 s (by decide) c2
      rw [if_neg c2] at z ⊢
      by_cases c8 : 8 ≤ d
      · rw [if_pos c8] at z; cases z
      rw [if_neg c8] at z ⊢
      by_cases c4 : f_see K L s 16 16
      · rw [if_pos c4] at z ⊢
        exact ex _ z
      rw [if_neg c4] at z ⊢
      by_cases c5 : f_see K L s 29 29 ∨ f_see K L s 11 11
      · rw [if_pos c5] at z ⊢
        exact ih 5 _ _ (by decide) z (fun a => by omega)
      · rw [if_neg c5] at z; cases z
    · rw [f_ex_12] at z ⊢
      by_cases c : f_see K L s 18 18
      · rw [if_pos c] at z ⊢
        exact ih 12 _ _ (by decide) z (fun a b => by omega)
      · rw [if_neg c] at z ⊢
        exact ex _ z
    · rw [f_ex_lv h] at z ⊢
      exact ih (7 + u) _ _ (by omega) z (fun _ _ => ih (u + 1) _ _ (by omega) (f_ex_ok (by omega) z) (fun a => by omega))
    · rw [f_ex_lp h.1 h.2] at z ⊢
      by_cases c : f_see K L s (f_lo u) (f_hi u)
      · rw [if_pos c] at z ⊢
        by_cases c9 : u = 9
        · rw [if_pos c9] at z ⊢
          exact ih 3 _ _ (by decide) z (fun a => by omega)
        · rw [if_neg c9] at z ⊢
          exact ih u _ _ (by omega) z (fun _ _ => ih (u - 6) _ _ (by omega) (f_ex_ok (by omega) z) (fun a b => by omega))
      · rw [if_neg c]
        exact hv h.1 h.2
/-- how many ahead of q have a property -/
def t_n (b : Nat → Bool) : Nat → Nat
  | 0 => 0
  | q + 1 => t_n b q + (if b q = true then 1 else 0)
theorem t_n_1 {b : Nat → Bool} {q : Nat} (h : b q = true) : t_n b (q + 1) = t_n b q + 1 := by rw [t_n, if_pos h]
theorem t_n_0 {b : Nat → Bool} {q : Nat} (h : b q = false) : t_n b (q + 1) = t_n b q := by rw [t_n, h]; rfl
def f_if (K : Nat → Int) (q : Nat) : Bool := decide (K q = 6)
end FORM

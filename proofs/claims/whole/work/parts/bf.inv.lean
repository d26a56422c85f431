/-! ===== what holds between two steps of the law ===== -/
/-- the class's half -/
def lC (b t : Nat) (B : Int → Int) (pr : y_pr) (nI L : Nat) (D : Nat → Int) (e : Int) (w : bm_W) : Prop := cZ b t B pr w ∧ zS t pr w ∧ cTx (b + 1) D L w ∧ bm_gi w (t + 4) 6 = (nI : Int) ∧ bm_gi w b 7 = e
/-- the model's half -/
def lM (m : Nat) (B : Int → Int) (pr : y_pr) (nI L : Nat) (D : Nat → Int) (e : Int) (w : bm_W) : Prop := mA m B pr w ∧ mTx m D L w ∧ bm_gi w m 27 = (nI : Int) ∧ bm_gi w m 37 = 0 ∧ bm_gi w m 3 = e
/-- what is known of a program and a text -/
def lP (pr : y_pr) (nI L : Nat) (D : Nat → Int) : Prop := y_inr pr ∧ nI ≤ 54 ∧ L ≤ 1500 ∧ fd_ok D L
/-- the room that is taken, with what may yet be -/
def lR (t c s L : Nat) (w : bm_W) : Prop := bm_sz w + 4 * rm t w + L ≤ c ∧ bm_sl w + 13 * rm t w + 3 * L ≤ s
/-- what holds between two steps -/
def lJ (b t m c s : Nat) (w : bm_W) : Prop := ∃ B pr nI L D e, lP pr nI L D ∧ lC b t B pr nI L D e w ∧ lM m B pr nI L D e w ∧ lR t c s L w
/-- what the law itself writes -/
def lO (t : Nat) (w w' : bm_W) : Prop := q_gw (fun a => t + 154 ≤ a ∧ a ≤ t + 155) (fun _ => False) 0 0 w w'
section LI
variable {b t m nI nI' L L' c s c' s' : Nat} {B B' : Int → Int} {pr pr' : y_pr} {D D' : Nat → Int} {e e' : Int} {w w' : bm_W}
theorem lC.sz (h : lC b t B pr nI L D e w) : t + 156 ≤ bm_sz w ∧ t = b + 3 := ⟨h.1.1.2.2.2.2.2.1.1, h.1.1.1.1⟩
/-- a step that writes behind the class -/
theorem lC.far (h : lC b t B pr nI L D e w) (G : q_gw (fun a => t + 122 ≤ a ∧ a ≤ t + 155) (fun _ => False) c s w w') : lC b t B pr nI L D e w' := by
  obtain ⟨h1, h2, ⟨h3, h4, h5⟩, h6, h7⟩ := h
  have os := h1.1.2.2.2.2.2.1.1
  have eb := h1.1.1.1
  have e : ∀ a j, a < t + 122 → bm_gi w' a j = bm_gi w a j := fun a j z => G.gi (by omega) (by omega)
  refine ⟨h1.far (G.mo (fun a z => by omega) (fun a z => z) (Nat.le_refl _) (Nat.le_refl _)), h2.gw h1 G (fun a ha z => by omega) (fun _ _ z => z), ⟨h3.gw G (by omega) (fun z => z), (e _ _ (by omega)).trans h4, fun k hk => ?_⟩, (e _ _ (by omega)).trans h6, (e _ _ (by omega)).trans h7⟩
  have := h5 k hk
  unfold tp_b at this ⊢
  rw [e _ _ (by omega)]
  exact this
/-- a step of the class -/
theorem lC.cL (h : lC b t B pr nI L D e w) (G : cL t c s w w') (Z : cZ b t B pr' w') (S : zS t pr' w') : lC b t B pr' nI L D e w' := by
  obtain ⟨h1, h2, ⟨h3, h4, h5⟩, h6, h7⟩ := h
  obtain ⟨⟨c', s', G⟩, -, -⟩ := G
  have os := h1.1.2.2.2.2.2.1.1
  have eb := h1.1.1.1
  have e : ∀ a j, a < t + 5 → bm_gi w' a j = bm_gi w a j := fun a j z => G.gi (by omega) (fun y => by unfold cB at y; omega)
  refine ⟨Z, S, ⟨Z.1.2.1.2.2.1, (e _ _ (by omega)).trans h4, fun k hk => ?_⟩, (e _ _ (by omega)).trans h6, (e _ _ (by omega)).trans h7⟩
  have := h5 k hk
  unfold tp_b at this ⊢
  rw [e _ _ (by omega)]
  exact this
theorem lC.cO (h : lC b t B pr nI L D e w) (G : cO t c s w w') (Z : cZ b t B pr w') : lC b t B pr nI L D e w' := h.cL (G.cL (by have := h.sz; omega)) Z (h.2.1.cO h.1 G)
theorem lC.cS (h : lC b t B pr nI L D e w) (G : cS t w w') (Z : cZ b t B pr w') (S : zS t pr w') : lC b t B pr nI L D e w' := h.cL G.cL Z S
/-- a step that writes before the model or behind it -/
theorem lM.far {A R : Nat → Prop} (h : lM m B pr nI L D e w) (G : q_gw A R c s w w') (hA : ∀ a, m ≤ a → a ≤ m + 31 → ¬ A a) (hR : ¬ R m) : lM m B pr nI L D e w' := by
  obtain ⟨h1, ⟨h2, h3⟩, h4, h5, h6⟩ := h
  have hs := h1.2.1
  have e : ∀ a j, m ≤ a → a ≤ m + 31 → bm_gi w' a j = bm_gi w a j := fun a j u v => G.gi (by omega) (hA a u v)
  exact ⟨h1.far G hA hR, ⟨(e _ _ (by omega) (by omega)).trans h2, fun k hk => (e _ _ (by omega) (by omega)).trans (h3 k hk)⟩, (e _ _ (by omega) (by omega)).trans h4, (e _ _ (by omega) (by omega)).trans h5, (e _ _ (by omega) (by omega)).trans h6⟩
theorem lM.cL (h : lM (t + 122) B pr nI L D e w) (G : cL t c s w w') : lM (t + 122) B pr nI L D e w' := by
  obtain ⟨⟨c', s', G⟩, -, -⟩ := G
  exact h.far G (fun a u v z => by unfold cB at z; omega) (fun z => by unfold cA at z; omega)
theorem lM.mP (h : lM m B pr nI L D e w) (G : mP m c s w w') (A : mA m B pr' w') : lM m B pr' nI L D e w' := by
  obtain ⟨h1, ⟨h2, h3⟩, h4, h5, h6⟩ := h
  have hs := h1.2.1
  exact ⟨A, ⟨(G.2 2 (by decide) (by decide)).trans h2, fun k hk => (G.1.gi (by omega) (by omega)).trans (h3 k hk)⟩, (G.2 27 (by decide) (by decide)).trans h4, (G.2 37 (by decide) (by decide)).trans h5, (G.2 3 (by decide) (by decide)).trans h6⟩
theorem lM.mO (h : lM m B pr nI L D e w) (G : mO m c s w w') : lM m B pr nI L D e w' := h.mP G.mP (h.1.mO G)
/-- room -/
theorem lR.mo (h : lR t c s L w) (hc : c ≤ c') (hs : s ≤ s') : lR t c' s' L w := ⟨Nat.le_trans h.1 hc, Nat.le_trans h.2 hs⟩
theorem lR.cL {x y : Nat} (h : lR t c s L w) (G : cL t x y w w') : lR t (c + x) (s + y) L w' := by
  obtain ⟨a1, a2⟩ := h
  obtain ⟨-, b1, b2⟩ := G
  exact ⟨by omega, by omega⟩
theorem lR.q {A : Nat → Prop} {x y : Nat} (h : lR t c s L w) (G : q_gw A (fun _ => False) x y w w') (hs : t + 112 ≤ bm_sz w) : lR t (c + x) (s + y) L w' := by
  have r := rm_eq (t := t) (w := w) (w' := w') (fun a _ h2 j => G.gr (by omega) (fun z => z))
  obtain ⟨a1, a2⟩ := h
  have b := G.1
  refine ⟨?_, ?_⟩
  · rw [r]; omega
  · rw [r]; omega
end LI

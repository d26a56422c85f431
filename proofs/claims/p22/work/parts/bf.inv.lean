/-! ===== what holds between two steps of the law ===== -/
/-- the class's half -/
def lC (b t : Nat) (B : Int → Int) (pr : y_pr) (nI L : Nat) (D : Nat → Int) (e : Int) (w : bm_W) : Prop := cZ b t B pr w ∧ zS t pr w ∧ cTx (b + 1) D L w ∧ bm_gi w (t + 4) 6 = (nI : Int) ∧ bm_gi w b 7 = e
/-- what the law itself writes -/
def lO (t : Nat) (w w' : bm_W) : Prop := q_gw (fun a => t + 124 ≤ a ∧ a ≤ t + 124) (fun _ => False) 0 0 w w'
/-- room -/
def lE (mc ms : Nat) (w w' : bm_W) : Prop := bm_le w w' ∧ bm_Bn w mc ms w' ∧ ∀ a, a < bm_sz w → bm_kt w' a = bm_kt w a ∧ bm_kn w' a = bm_kn w a
/-- room, and what the law wrote stays -/
def lR (t mc ms : Nat) (w w' : bm_W) : Prop := lE mc ms w w' ∧ ∀ a, t + 124 ≤ a → a ≤ t + 124 → ∀ j, bm_gl w' a j = bm_gl w a j
section LI
variable {b t m nI nI' L L' c s c' s' : Nat} {B B' : Int → Int} {pr pr' : y_pr} {D D' : Nat → Int} {e e' : Int} {w w' : bm_W}
theorem lC.sz (h : lC b t B pr nI L D e w) : t + 125 ≤ bm_sz w ∧ t = b + 3 := ⟨h.1.1.2.2.2.2.2.1.1, h.1.1.1.1⟩
/-- a step that writes behind the class -/
theorem lC.far (h : lC b t B pr nI L D e w) (G : q_gw (fun a => t + 122 ≤ a ∧ a ≤ t + 124) (fun _ => False) c s w w') : lC b t B pr nI L D e w' := by
  obtain ⟨h1, h2, ⟨h3, h4, h5⟩, h6, h7⟩ := h
  have os := h1.1.2.2.2.2.2.1.1
  have eb := h1.1.1.1
  have e : ∀ a j, a < t + 122 → bm_gi w' a j = bm_gi w a j := fun a j z => G.gi (by omega) (by omega)
  refine ⟨h1.far (G.mo (fun a z => by omega) (fun a z => z) (Nat.le_refl _) (Nat.le_refl _)), h2.gw h1 G (fun a ha z => by omega) (fun _ _ z => z), ⟨h3.gw G (by omega) (fun z => z), (e _ _ (by omega)).trans h4, fun k hk => ?_⟩, (e _ _ (by omega)).trans h6, (e _ _ (by omega)).trans h7⟩
  have := h5 k hk
  unfold tp_b at this ⊢
  rw [e _ _ (by omega)]
  exact this
/-- a step of the class -/
theorem lC.cL (h : lC b t B pr nI L D e w) (G : cL t c s w w') (Z : cZ b t B pr' w') (S : zS t pr' w') : lC b t B pr' nI L D e w' := by
  obtain ⟨h1, h2, ⟨h3, h4, h5⟩, h6, h7⟩ := h
  obtain ⟨⟨c', s', G⟩, -, -⟩ := G
  have os := h1.1.2.2.2.2.2.1.1
  have eb := h1.1.1.1
  have e : ∀ a j, a < t + 5 → bm_gi w' a j = bm_gi w a j := fun a j z => G.gi (by omega) (fun y => by unfold cB at y; omega)
  refine ⟨Z, S, ⟨Z.1.2.1.2.2.1, (e _ _ (by omega)).trans h4, fun k hk => ?_⟩, (e _ _ (by omega)).trans h6, (e _ _ (by omega)).trans h7⟩
  have := h5 k hk
  unfold tp_b at this ⊢
  rw [e _ _ (by omega)]
  exact this
theorem lC.cO (h : lC b t B pr nI L D e w) (G : cO t c s w w') (Z : cZ b t B pr w') : lC b t B pr nI L D e w' := h.cL (G.cL (by have := h.sz; omega)) Z (h.2.1.cO h.1 G)
theorem lC.cS (h : lC b t B pr nI L D e w) (G : cS t w w') (Z : cZ b t B pr w') (S : zS t pr w') : lC b t B pr nI L D e w' := h.cL G.cL Z S
/-- room -/
theorem lE.rf {mc ms : Nat} : lE mc ms w w := ⟨⟨Nat.le_refl _, Nat.le_refl _⟩, ⟨Nat.le_add_right _ _, Nat.le_add_right _ _⟩, fun _ _ => ⟨rfl, rfl⟩⟩
theorem q_gw.rom {A R : Nat → Prop} {mc ms : Nat} (G : q_gw A R c s w w') (hc : c ≤ mc) (hs : s ≤ ms) : lE mc ms w w' := by
  have g := G.1
  exact ⟨⟨g.1, g.2.2.1⟩, ⟨by omega, by omega⟩, fun a ha => (G.2 a ha).1⟩
theorem q_gw.rot {A R : Nat → Prop} {mc ms : Nat} (G : q_gw A R c s w w') (hz : t + 125 ≤ bm_sz w) (hA : ∀ a, A a → a < t + 124) (hc : c ≤ mc) (hs : s ≤ ms) : lR t mc ms w w' := by
  refine ⟨G.rom hc hs, fun a h1 h2 j => ((G.2 a (by omega)).2.2 (fun z => ?_) j).2⟩
  have := hA a z
  omega
theorem rw_n_le (g : Nat → Option Nat) : ∀ n, rw_n g n ≤ n
  | 0 => Nat.le_refl _
  | n + 1 => by
    have := rw_n_le g n
    unfold rw_n
    split <;> omega
theorem rm_le_n (g1 g2 g3 g4 g5 g6 g7 : Nat → Option Nat) (n : Nat) : rw_n g1 n + rw_n g2 n + rw_n g3 n + rw_n g4 n + rw_n g5 n + rw_n g6 n + rw_n g7 n ≤ 7 * n := by
  have h1 := rw_n_le g1 n
  have h2 := rw_n_le g2 n
  have h3 := rw_n_le g3 n
  have h4 := rw_n_le g4 n
  have h5 := rw_n_le g5 n
  have h6 := rw_n_le g6 n
  have h7 := rw_n_le g7 n
  omega
theorem rm_le : rm t w ≤ 84 := rm_le_n (bm_gr w (t + 16)) (bm_gr w (t + 71)) (bm_gr w (t + 78)) (bm_gr w (t + 85)) (bm_gr w (t + 92)) (bm_gr w (t + 99)) (bm_gr w (t + 106)) 12
theorem cL.rom (G : cL t c s w w') (hc : c ≤ 4) (hs : s ≤ 8) : lE 340 1100 w w' := by
  obtain ⟨⟨c', s', G⟩, g1, g2⟩ := G
  have g := G.1
  have r := rm_le (t := t) (w := w)
  exact ⟨⟨g.1, g.2.2.1⟩, ⟨by omega, by omega⟩, fun a ha => (G.2 a ha).1⟩
theorem cO.rom (G : cO t c s w w') (hc : c ≤ 4) (hs : s ≤ 8) : lE 340 1100 w w' := q_gw.rom G (by omega) (by omega)
theorem cO.t0 : cO t 1 6 w (bm_tw w) := q_gw.tw q_gw.rf
theorem lC.out {w1 w2 : bm_W} (h : lC b t B pr nI L D e w1) (G : lO t w1 w2) : lC b t B pr nI L D e w2 := h.far (q_gw.mo (A' := fun a => t + 122 ≤ a ∧ a ≤ t + 124) (R' := fun _ => False) G (fun a z => by omega) (fun a z => z) (Nat.le_refl _) (Nat.le_refl _))
end LI

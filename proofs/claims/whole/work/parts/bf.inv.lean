/-! ===== what holds between two steps of the law ===== -/
/-- the class's half -/
def lC (b t : Nat) (B : Int → Int) (pr : y_pr) (nI L : Nat) (D : Nat → Int) (e : Int) (w : bm_W) : Prop := cZ b t B pr w ∧ zS t pr w ∧ cTx (b + 1) D L w ∧ bm_gi w (t + 4) 6 = (nI : Int) ∧ bm_gi w b 7 = e
/-- the model's half -/
def lM (m : Nat) (B : Int → Int) (pr : y_pr) (nI L : Nat) (D : Nat → Int) (e : Int) (w : bm_W) : Prop := mA m B pr w ∧ mTx m D L w ∧ bm_gi w m 27 = (nI : Int) ∧ bm_gi w m 37 = 0 ∧ bm_gi w m 3 = e
/-- what is known of a program and a text -/
def lP (pr : y_pr) (nI L : Nat) (D : Nat → Int) : Prop := y_inr pr ∧ nI ≤ 54 ∧ L ≤ 1500 ∧ fd_ok D L
/-- the two sides, their program and their text -/
def lS (b t : Nat) (B : Int → Int) (pr : y_pr) (nI L : Nat) (D : Nat → Int) (e : Int) (w : bm_W) : Prop := lP pr nI L D ∧ lC b t B pr nI L D e w ∧ lM (t + 122) B pr nI L D e w
/-- what holds between two steps -/
def lJ (b t L : Nat) (w : bm_W) : Prop := ∃ B pr nI D e, lS b t B pr nI L D e w
/-- what the law itself writes -/
def lO (t : Nat) (w w' : bm_W) : Prop := q_gw (fun a => t + 154 ≤ a ∧ a ≤ t + 155) (fun _ => False) 0 0 w w'
/-- a world of another size -/
def lU (z : Nat) (w : bm_W) : bm_W := (w.1, w.2.1, w.2.2.1, w.2.2.2.1, w.2.2.2.2.1, z, w.2.2.2.2.2.2)
/-- room -/
def lE (mc ms : Nat) (w w' : bm_W) : Prop := bm_le w w' ∧ bm_Bn w mc ms w' ∧ ∀ a, a < bm_sz w → bm_kt w' a = bm_kt w a ∧ bm_kn w' a = bm_kn w a
/-- room, and what the law wrote stays -/
def lR (t mc ms : Nat) (w w' : bm_W) : Prop := lE mc ms w w' ∧ ∀ a, t + 154 ≤ a → a ≤ t + 155 → ∀ j, bm_gl w' a j = bm_gl w a j
section LI
variable {b t m nI nI' L L' c s c' s' : Nat} {B B' : Int → Int} {pr pr' : y_pr} {D D' : Nat → Int} {e e' : Int} {w w' : bm_W}
theorem lC.sz (h : lC b t B pr nI L D e w) : t + 156 ≤ bm_sz w ∧ t = b + 3 := ⟨h.1.1.2.2.2.2.2.1.1, h.1.1.1.1⟩
/-- a step that writes behind the class -/
theorem lC.far (h : lC b t B pr nI L D e w) (G : q_gw (fun a => t + 122 ≤ a ∧ a ≤ t + 155) (fun _ => False) c s w w') : lC b t B pr nI L D e w' := by
  obtain ⟨h1, h2, ⟨h3, h4, h5⟩, h6, h7⟩ := h
  have os := h1.1.2.2.2.2.2.1.1
  have eb := h1.1.1.1
  have e : ∀ a j, a < t + 122 → bm_gi w' a j = bm_gi w a j := fun a j z => G.gi (by omega) (by omega)
  refine ⟨h1.far (G.mo (fun a z => by omega) (fun a z => z) (Nat.le_refl _) (Nat.le_refl _)), h2.gw h1 G (fun a ha z => by omega) (fun _ _ z => z), ⟨h3.gw G (by omega) (fun z => z), (e _ _ (by omega)).trans h4, fun k hk => ?_⟩, (e _ _ (by omega)).trans h6, (e _ _ (by omega)).trans h7⟩
  have := h5 k hk
  unfold tp_b at this ⊢
  rw [e _ _ (by omega)]
  exact this
/-- a step of the class -/
theorem lC.cL (h : lC b t B pr nI L D e w) (G : cL t c s w w') (Z : cZ b t B pr' w') (S : zS t pr' w') : lC b t B pr' nI L D e w' := by
  obtain ⟨h1, h2, ⟨h3, h4, h5⟩, h6, h7⟩ := h
  obtain ⟨⟨c', s', G⟩, -, -⟩ := G
  have os := h1.1.2.2.2.2.2.1.1
  have eb := h1.1.1.1
  have e : ∀ a j, a < t + 5 → bm_gi w' a j = bm_gi w a j := fun a j z => G.gi (by omega) (fun y => by unfold cB at y; omega)
  refine ⟨Z, S, ⟨Z.1.2.1.2.2.1, (e _ _ (by omega)).trans h4, fun k hk => ?_⟩, (e _ _ (by omega)).trans h6, (e _ _ (by omega)).trans h7⟩
  have := h5 k hk
  unfold tp_b at this ⊢
  rw [e _ _ (by omega)]
  exact this
theorem lC.cO (h : lC b t B pr nI L D e w) (G : cO t c s w w') (Z : cZ b t B pr w') : lC b t B pr nI L D e w' := h.cL (G.cL (by have := h.sz; omega)) Z (h.2.1.cO h.1 G)
theorem lC.cS (h : lC b t B pr nI L D e w) (G : cS t w w') (Z : cZ b t B pr w') (S : zS t pr w') : lC b t B pr nI L D e w' := h.cL G.cL Z S
/-- a step that writes before the model or behind it -/
theorem lM.far {A R : Nat → Prop} (h : lM m B pr nI L D e w) (G : q_gw A R c s w w') (hA : ∀ a, m ≤ a → a ≤ m + 31 → ¬ A a) (hR : ¬ R m) : lM m B pr nI L D e w' := by
  obtain ⟨h1, ⟨h2, h3⟩, h4, h5, h6⟩ := h
  have hs := h1.2.1
  have e : ∀ a j, m ≤ a → a ≤ m + 31 → bm_gi w' a j = bm_gi w a j := fun a j u v => G.gi (by omega) (hA a u v)
  exact ⟨h1.far G hA hR, ⟨(e _ _ (by omega) (by omega)).trans h2, fun k hk => (e _ _ (by omega) (by omega)).trans (h3 k hk)⟩, (e _ _ (by omega) (by omega)).trans h4, (e _ _ (by omega) (by omega)).trans h5, (e _ _ (by omega) (by omega)).trans h6⟩
theorem lM.cL (h : lM (t + 122) B pr nI L D e w) (G : cL t c s w w') : lM (t + 122) B pr nI L D e w' := by
  obtain ⟨⟨c', s', G⟩, -, -⟩ := G
  exact h.far G (fun a u v z => by unfold cB at z; omega) (fun z => by unfold cA at z; omega)
theorem lM.mP (h : lM m B pr nI L D e w) (G : mP m c s w w') (A : mA m B pr' w') : lM m B pr' nI L D e w' := by
  obtain ⟨h1, ⟨h2, h3⟩, h4, h5, h6⟩ := h
  have hs := h1.2.1
  exact ⟨A, ⟨(G.2 2 (by decide) (by decide)).trans h2, fun k hk => (G.1.gi (by omega) (by omega)).trans (h3 k hk)⟩, (G.2 27 (by decide) (by decide)).trans h4, (G.2 37 (by decide) (by decide)).trans h5, (G.2 3 (by decide) (by decide)).trans h6⟩
theorem lM.mO (h : lM m B pr nI L D e w) (G : mO m c s w w') : lM m B pr nI L D e w' := h.mP G.mP (h.1.mO G)
/-- room -/
theorem lE.rf {mc ms : Nat} : lE mc ms w w := ⟨⟨Nat.le_refl _, Nat.le_refl _⟩, ⟨Nat.le_add_right _ _, Nat.le_add_right _ _⟩, fun _ _ => ⟨rfl, rfl⟩⟩
theorem q_gw.rom {A R : Nat → Prop} {mc ms : Nat} (G : q_gw A R c s w w') (hc : c ≤ mc) (hs : s ≤ ms) : lE mc ms w w' := by
  have g := G.1
  exact ⟨⟨g.1, g.2.2.1⟩, ⟨by omega, by omega⟩, fun a ha => (G.2 a ha).1⟩
theorem q_gw.rot {A R : Nat → Prop} {mc ms : Nat} (G : q_gw A R c s w w') (hz : t + 156 ≤ bm_sz w) (hA : ∀ a, A a → a < t + 154) (hc : c ≤ mc) (hs : s ≤ ms) : lR t mc ms w w' := by
  refine ⟨G.rom hc hs, fun a h1 h2 j => ((G.2 a (by omega)).2.2 (fun z => ?_) j).2⟩
  have := hA a z
  omega
theorem rw_n_le (g : Nat → Option Nat) : ∀ n, rw_n g n ≤ n
  | 0 => Nat.le_refl _
  | n + 1 => by
    have := rw_n_le g n
    unfold rw_n
    split <;> omega
theorem rm_le_n (g1 g2 g3 g4 g5 g6 g7 : Nat → Option Nat) (n : Nat) : rw_n g1 n + rw_n g2 n + rw_n g3 n + rw_n g4 n + rw_n g5 n + rw_n g6 n + rw_n g7 n ≤ 7 * n := by
  have h1 := rw_n_le g1 n
  have h2 := rw_n_le g2 n
  have h3 := rw_n_le g3 n
  have h4 := rw_n_le g4 n
  have h5 := rw_n_le g5 n
  have h6 := rw_n_le g6 n
  have h7 := rw_n_le g7 n
  omega
theorem rm_le : rm t w ≤ 84 := rm_le_n (bm_gr w (t + 16)) (bm_gr w (t + 71)) (bm_gr w (t + 78)) (bm_gr w (t + 85)) (bm_gr w (t + 92)) (bm_gr w (t + 99)) (bm_gr w (t + 106)) 12
theorem cL.rom (G : cL t c s w w') (hc : c ≤ 4) (hs : s ≤ 8) : lE 340 1100 w w' := by
  obtain ⟨⟨c', s', G⟩, g1, g2⟩ := G
  have g := G.1
  have r := rm_le (t := t) (w := w)
  exact ⟨⟨g.1, g.2.2.1⟩, ⟨by omega, by omega⟩, fun a ha => (G.2 a ha).1⟩
theorem cO.rom (G : cO t c s w w') (hc : c ≤ 4) (hs : s ≤ 8) : lE 340 1100 w w' := q_gw.rom G (by omega) (by omega)
theorem cO.t0 : cO t 1 6 w (bm_tw w) := q_gw.tw q_gw.rf
theorem lS.cL (h : lS b t B pr nI L D e w) (G : cL t c s w w') (Z : cZ b t B pr w') (S : zS t pr w') : lS b t B pr nI L D e w' := ⟨h.1, h.2.1.cL G Z S, h.2.2.cL G⟩
theorem lS.cO (h : lS b t B pr nI L D e w) (G : cO t c s w w') (Z : cZ b t B pr w') : lS b t B pr nI L D e w' := h.cL (G.cL (by have := h.2.1.sz; omega)) Z (h.2.1.2.1.cO h.2.1.1 G)
theorem lS.cS (h : lS b t B pr nI L D e w) (G : cS t w w') (Z : cZ b t B pr w') (S : zS t pr w') : lS b t B pr nI L D e w' := h.cL G.cL Z S
/-- behind an exception that is caught -/
theorem lS_thr {z : Nat} (h : lS b t B pr nI L D e w) (G : cO t c s w w') (Z : cZ b t B pr w') (hz : bm_sz w ≤ z) : lS b t B pr nI L D e (lU z w') := by
  have g := G.1
  have G2 : cO t (z - bm_sz w) (bm_sl w' - bm_sl w) w (lU z w') := ⟨⟨hz, by show z ≤ _; omega, g.2.2.1, by show bm_sl w' ≤ _; omega⟩, G.2⟩
  have ho : rw_ok t (lU z w') := h.2.1.1.1.2.2.2.2.2.1.gw G2 (fun j _ y => y)
  have I := Z.1
  exact h.cO G2 ⟨⟨I.1, I.2.1, I.2.2.1, I.2.2.2.1, I.2.2.2.2.1, ho, I.2.2.2.2.2.2⟩, Z.2.1, Z.2.2.1, Z.2.2.2⟩
theorem lS_x0 {z : Nat} (h : lS b t B pr nI L D e w) (hz : bm_sz w ≤ z) : lS b t B pr nI L D e (lU z (bm_tw w)) := lS_thr h cO.t0 h.2.1.1.tw hz
theorem lS.mO (h : lS b t B pr nI L D e w) (G : mO (t + 122) c s w w') : lS b t B pr nI L D e w' := ⟨h.1, h.2.1.far (G.1.mo (fun a z => by omega) (fun a z => z) (Nat.le_refl _) (Nat.le_refl _)), h.2.2.mO G⟩
theorem lC.out {w1 w2 : bm_W} (h : lC b t B pr nI L D e w1) (G : lO t w1 w2) : lC b t B pr nI L D e w2 := h.far (q_gw.mo (A' := fun a => t + 122 ≤ a ∧ a ≤ t + 155) (R' := fun _ => False) G (fun a z => by omega) (fun a z => z) (Nat.le_refl _) (Nat.le_refl _))
theorem lM.out {w1 w2 : bm_W} (h : lM (t + 122) B pr nI L D e w1) (G : lO t w1 w2) : lM (t + 122) B pr nI L D e w2 := h.far G (fun a u v z => by omega) (fun z => z)
theorem lS.out (h : lS b t B pr nI L D e w) (G : lO t w w') : lS b t B pr nI L D e w' := ⟨h.1, h.2.1.out G, h.2.2.out G⟩
theorem lS.J (h : lS b t B pr nI L D e w) : lJ b t L w := ⟨B, pr, nI, D, e, h⟩
end LI

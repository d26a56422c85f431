/-! ===== a new bench: what the constructors make ===== -/
/-- c new cells of s slots, all numbers 0; of the old cells only p's references may have changed -/
def mk_G (p c s : Nat) (w w' : bm_W) : Prop := (bm_sz w' = bm_sz w + c ∧ bm_sl w' = bm_sl w + s) ∧ (∀ a, a < bm_sz w → (bm_kt w' a = bm_kt w a ∧ bm_kn w' a = bm_kn w a) ∧ (∀ j, bm_gi w' a j = bm_gi w a j ∧ bm_gl w' a j = bm_gl w a j) ∧ (a ≠ p → ∀ j, bm_gr w' a j = bm_gr w a j)) ∧ ∀ a, bm_sz w ≤ a → a < bm_sz w' → ∀ j, bm_gi w' a j = 0 ∧ bm_gl w' a j = 0
/-- what a constructor comes to -/
def mk_R (p c s : Nat) (S : bm_W → Prop) (w : bm_W) (r : bm_Rt) (w' : bm_W) : Prop := r = .inl none ∧ mk_G p c s w w' ∧ S w'
theorem tn3 : (3 : Int).toNat = 3 := rfl
theorem tn6 : (6 : Int).toNat = 6 := rfl
theorem tn12 : (12 : Int).toNat = 12 := rfl
theorem tn41 : (41 : Int).toNat = 41 := rfl
theorem tn54 : (54 : Int).toNat = 54 := rfl
theorem tn100 : (100 : Int).toNat = 100 := rfl
theorem tn203 : (203 : Int).toNat = 203 := rfl
theorem tn1500 : (1500 : Int).toNat = 1500 := rfl
theorem tn1501 : (1501 : Int).toNat = 1501 := rfl
section MK
variable {p q c s c' s' t n m d a k : Nat} {v : Option Nat} {w w' w2 : bm_W} {S S' : bm_W → Prop} {Φ : bm_Rt → bm_W → Prop}
theorem mk_G.rf : mk_G p 0 0 w w := ⟨⟨rfl, rfl⟩, fun _ _ => ⟨⟨rfl, rfl⟩, fun _ => ⟨rfl, rfl⟩, fun _ _ => rfl⟩, fun a h1 h2 => by omega⟩
theorem mk_G.nw (h : mk_G p c s w w') : mk_G p (c + 1) (s + m) w (bm_nw w' t n m) := by
  obtain ⟨⟨h1, h2⟩, h3, h4⟩ := h
  refine ⟨⟨by rw [bm_nw_sz]; omega, by rw [bm_nw_sl]; omega⟩, fun a ha => ?_, fun a ha hb j => ?_⟩
  · obtain ⟨x1, x2, x3⟩ := h3 a ha
    have ne : ¬ a = bm_sz w' := by omega
    refine ⟨⟨by rw [bm_nw_kt, if_neg ne]; exact x1.1, by rw [bm_nw_kn, if_neg ne]; exact x1.2⟩, fun j => ⟨by rw [bm_nw_gi, if_neg ne]; exact (x2 j).1, by rw [bm_nw_gl, if_neg ne]; exact (x2 j).2⟩, fun z j => by rw [bm_nw_gr, if_neg ne]; exact x3 z j⟩
  · rw [bm_nw_sz] at hb
    by_cases e : a = bm_sz w'
    · exact ⟨by rw [bm_nw_gi, if_pos e], by rw [bm_nw_gl, if_pos e]⟩
    · have := h4 a ha (by omega) j
      exact ⟨by rw [bm_nw_gi, if_neg e]; exact this.1, by rw [bm_nw_gl, if_neg e]; exact this.2⟩
theorem mk_G.sr (h : mk_G p c s w w') (ha : a = p ∨ bm_sz w ≤ a) : mk_G p c s w (bm_sr w' a k v) := by
  obtain ⟨h1, h3, h4⟩ := h
  refine ⟨h1, fun b hb => ?_, h4⟩
  obtain ⟨x1, x2, x3⟩ := h3 b hb
  refine ⟨x1, x2, fun z j => ?_⟩
  rw [bm_sr_gr, if_neg (fun e => by rcases ha with y | y <;> omega)]
  exact x3 z j
theorem mk_G.tr (h : mk_G p c s w w') (h' : mk_G q c' s' w' w2) (hq : q = p ∨ bm_sz w ≤ q) : mk_G p (c + c') (s + s') w w2 := by
  obtain ⟨⟨h1, h2⟩, h3, h4⟩ := h
  obtain ⟨⟨g1, g2⟩, g3, g4⟩ := h'
  refine ⟨⟨by omega, by omega⟩, fun a ha => ?_, fun a ha hb j => ?_⟩
  · obtain ⟨x1, x2, x3⟩ := h3 a ha
    obtain ⟨y1, y2, y3⟩ := g3 a (by omega)
    exact ⟨⟨y1.1.trans x1.1, y1.2.trans x1.2⟩, fun j => ⟨(y2 j).1.trans (x2 j).1, (y2 j).2.trans (x2 j).2⟩, fun z j => (y3 (by rcases hq with e | e <;> omega) j).trans (x3 z j)⟩
  · by_cases e : a < bm_sz w'
    · obtain ⟨y1, y2, y3⟩ := g3 a e
      have := h4 a ha e j
      exact ⟨(y2 j).1.trans this.1, (y2 j).2.trans this.2⟩
    · exact g4 a (by omega) hb j
theorem mk_G.gw (h : mk_G p c s w w') : q_gw (fun _ => False) (fun a => a = p) c s w w' :=
  ⟨⟨by rw [h.1.1]; omega, by rw [h.1.1]; exact Nat.le_refl _, by rw [h.1.2]; omega, by rw [h.1.2]; exact Nat.le_refl _⟩, fun a ha => ⟨(h.2.1 a ha).1, (h.2.1 a ha).2.2, fun _ => (h.2.1 a ha).2.1⟩⟩
theorem mk_G.kt (h : mk_G p c s w w') (ha : a < bm_sz w) : bm_kt w' a = bm_kt w a := (h.2.1 a ha).1.1
theorem mk_G.kn (h : mk_G p c s w w') (ha : a < bm_sz w) : bm_kn w' a = bm_kn w a := (h.2.1 a ha).1.2
theorem mk_G.gr (h : mk_G p c s w w') (ha : a < bm_sz w) (ne : a ≠ p) (j : Nat) : bm_gr w' a j = bm_gr w a j := (h.2.1 a ha).2.2 ne j
theorem mk_G.sz (h : mk_G p c s w w') : bm_sz w' = bm_sz w + c := h.1.1
theorem mk_G.cs (h : mk_G p c s w w') (h1 : c = c' := by omega) (h2 : s = s' := by omega) : mk_G p c' s' w w' := by subst h1; subst h2; exact h
theorem mk_R_mono {y : Nat} {as : List bm_V} (h : bm_Call bm_pg d y as w (mk_R p c s S w)) (k : ∀ w', mk_G p c s w w' → S w' → Φ (.inl none) w') : bm_Call bm_pg d y as w Φ :=
  bm_Call_mono bm_pg _ _ _ _ _ _ (fun r w' q => by obtain ⟨rfl, g, z⟩ := q; exact k w' g z) h
/-- Ranges -/
theorem mk_X4 (hp : p + 1 = bm_sz w) (hk : bm_kt w p = 4) : bm_Call bm_pg (d + 1) y_X4_init [bm_r (some p)] w (mk_R p 2 6 (sh_Rg p) w) := by
  have ne : ¬ p = bm_sz w := by omega
  refine vc_X4_init ⟨rfl, by decide, by rw [bm_nw_kt, if_neg ne]; exact hk, by decide, ?_, vb_X4_init_18 ⟨rfl, ((((mk_G.rf (p := p)).nw).sr (Or.inl rfl)).nw).sr (Or.inl rfl), ?_⟩⟩
  · simp only [bm_nw_kt, bm_nw_kn, bm_nw_sz, bm_nw_sl, bm_nw_gi, bm_nw_gl, bm_nw_gr, bm_si_kt, bm_si_kn, bm_si_sz, bm_si_sl, bm_si_gi, bm_si_gl, bm_si_gr, bm_sq_kt, bm_sq_kn, bm_sq_sz, bm_sq_sl, bm_sq_gi, bm_sq_gl, bm_sq_gr, bm_sr_kt, bm_sr_kn, bm_sr_sz, bm_sr_sl, bm_sr_gi, bm_sr_gl, bm_sr_gr, ← hp, tn3, tn6, tn12, tn41, tn54, tn100, tn203, tn1500, tn1501]
    grind
  · unfold sh_Rg
    simp only [bm_nw_kt, bm_nw_kn, bm_nw_sz, bm_nw_sl, bm_nw_gi, bm_nw_gl, bm_nw_gr, bm_si_kt, bm_si_kn, bm_si_sz, bm_si_sl, bm_si_gi, bm_si_gl, bm_si_gr, bm_sq_kt, bm_sq_kn, bm_sq_sz, bm_sq_sl, bm_sq_gi, bm_sq_gl, bm_sq_gr, bm_sr_kt, bm_sr_kn, bm_sr_sz, bm_sr_sl, bm_sr_gi, bm_sr_gl, bm_sr_gr, ← hp, tn3, tn6, tn12, tn41, tn54, tn100, tn203, tn1500, tn1501]
    grind
/-- a row -/
theorem mk_X5 (hp : p + 1 = bm_sz w) (hk : bm_kt w p = 5) : bm_Call bm_pg (d + 2) y_X5_init [bm_r (some p)] w (mk_R p 3 8 (sh_Rw p) w) := by
  have ne : ¬ p = bm_sz w := by omega
  refine vc_X5_init ⟨rfl, trivial, mk_R_mono (mk_X4 (p := bm_sz w) (w := bm_nw w 4 0 2) rfl (by rw [bm_nw_kt, if_pos rfl])) (fun w1 G Z => ?_)⟩
  have G1 : mk_G p 3 8 w w1 := (mk_G.rf.nw).tr G (Or.inr (Nat.le_refl _))
  have g1 := G1.1.1
  have k1 : bm_kt w1 p = 5 := by rw [(G1.2.1 p (by omega)).1.1]; exact hk
  refine ⟨k1, rfl, G1.sr (Or.inl rfl), k1, by rw [bm_sr_gr, if_pos ⟨rfl, rfl⟩, hp], ?_⟩
  have Z' := sh_Rg.gw ((mk_G.rf (p := p) (w := w1)).sr (a := p) (k := 0) (v := some (bm_sz w)) (Or.inl rfl)).gw (by omega) (by omega) Z
  rw [hp]
  exact Z'
/-- a table's shape, no rows yet -/
def sh_T0 (p : Nat) (w : bm_W) : Prop := sh_Tb p w ∧ ∀ i, bm_gr w (p + 1) i = none
/-- a table -/
theorem mk_X7 (hp : p + 1 = bm_sz w) (hk : bm_kt w p = 7) : bm_Call bm_pg (d + 3) y_X7_init [bm_r (some p)] w (mk_R p 6 125 (sh_T0 p) w) := by
  have ne : ¬ p = bm_sz w := by omega
  refine vc_X7_init ⟨rfl, by decide, by rw [bm_nw_kt, if_neg ne]; exact hk, trivial, ?_⟩
  generalize e0 : bm_sr (bm_nw w 25 (12 : Int).toNat (12 : Int).toNat) p 0 (some (bm_sz w)) = wa
  have Ga : mk_G p 1 12 w wa := by rw [← e0]; exact ((mk_G.rf (p := p)).nw).sr (Or.inl rfl)
  have ga := Ga.sz
  have fa : bm_kt wa p = 7 ∧ bm_gr wa p 0 = some (p + 1) ∧ bm_kt wa (p + 1) = 25 ∧ bm_kn wa (p + 1) = 12 ∧ ∀ i, bm_gr wa (p + 1) i = none := by
    rw [← e0]
    simp only [bm_nw_kt, bm_nw_kn, bm_nw_sz, bm_nw_sl, bm_nw_gi, bm_nw_gl, bm_nw_gr, bm_si_kt, bm_si_kn, bm_si_sz, bm_si_sl, bm_si_gi, bm_si_gl, bm_si_gr, bm_sq_kt, bm_sq_kn, bm_sq_sz, bm_sq_sl, bm_sq_gi, bm_sq_gl, bm_sq_gr, bm_sr_kt, bm_sr_kn, bm_sr_sz, bm_sr_sl, bm_sr_gi, bm_sr_gl, bm_sr_gr, ← hp, tn3, tn6, tn12, tn41, tn54, tn100, tn203, tn1500, tn1501]
    grind
  refine mk_R_mono (mk_X5 (p := bm_sz wa) (w := bm_nw wa 5 0 5) rfl (by rw [bm_nw_kt, if_pos rfl])) (fun w1 G Z => ?_)
  have e2 : bm_sz wa = p + 2 := by omega
  have G1 : mk_G (bm_sz wa) 4 13 wa w1 := (mk_G.rf.nw).tr G (Or.inl rfl)
  have g1 := G1.sz
  have k1 : bm_kt w1 p = 7 := (G1.kt (by omega)).trans fa.1
  have r1 : bm_gr w1 p 0 = some (p + 1) := (G1.gr (by omega) (by omega) 0).trans fa.2.1
  generalize e5 : bm_sr (bm_nw (bm_sr w1 p 1 (some (bm_sz wa))) 23 (100 : Int).toNat (100 : Int).toNat) p 2 (some (bm_sz (bm_sr w1 p 1 (some (bm_sz wa))))) = W
  have GD : mk_G p 1 100 w1 W := by rw [← e5]; exact (((mk_G.rf (p := p)).sr (Or.inl rfl)).nw).sr (Or.inl rfl)
  have fW : bm_gr W p 0 = some (p + 1) ∧ bm_gr W p 1 = some (p + 2) ∧ bm_gr W p 2 = some (p + 6) ∧ bm_kt W (p + 6) = 23 ∧ bm_kn W (p + 6) = 100 := by
    rw [← e5]
    simp only [bm_nw_kt, bm_nw_kn, bm_nw_sz, bm_nw_sl, bm_nw_gi, bm_nw_gl, bm_nw_gr, bm_si_kt, bm_si_kn, bm_si_sz, bm_si_sl, bm_si_gi, bm_si_gl, bm_si_gr, bm_sq_kt, bm_sq_kn, bm_sq_sz, bm_sq_sl, bm_sq_gi, bm_sq_gl, bm_sq_gr, bm_sr_kt, bm_sr_kn, bm_sr_sz, bm_sr_sl, bm_sr_gi, bm_sr_gl, bm_sr_gr, g1, e2, tn3, tn6, tn12, tn41, tn54, tn100, tn203, tn1500, tn1501]
    grind
  have nn : ∀ i, bm_gr W (p + 1) i = none := fun i => by rw [GD.gr (by omega) (by omega), G1.gr (by omega) (by omega)]; exact fa.2.2.2.2 i
  have kN : bm_kt (bm_nw (bm_sr w1 p 1 (some (bm_sz wa))) 23 (100 : Int).toNat (100 : Int).toNat) p = 7 := by
    rw [bm_nw_kt, bm_sr_sz, if_neg (by omega)]; exact k1
  rw [e2] at Z
  refine ⟨k1, by decide, kN, rfl, ((Ga.tr G1 (Or.inr (by omega))).tr GD (Or.inl rfl)).cs, ⟨(GD.kt (by omega)).trans k1, fW.1, fW.2.1, fW.2.2.1, ?_, ?_, fW.2.2.2.1, fW.2.2.2.2, ?_, fun i r _ hr => by rw [nn i] at hr; cases hr⟩, nn⟩
  · rw [GD.kt (by omega), G1.kt (by omega)]; exact fa.2.2.1
  · rw [GD.kn (by omega), G1.kn (by omega)]; exact fa.2.2.2.1
  · exact sh_Rw.gw GD.gw (by omega) (by omega) (by omega) Z
/-- a function -/
theorem mk_X1 (hp : p + 1 = bm_sz w) (hk : bm_kt w p = 1) : bm_Call bm_pg (d + 2) y_X1_init [bm_r (some p)] w (mk_R p 7 311 (sh_Fn p) w) := by
  have ne : ¬ p = bm_sz w := by omega
  refine vc_X1_init ⟨rfl, by decide, by rw [bm_nw_kt, if_neg ne]; exact hk, trivial, ?_⟩
  generalize e0 : bm_sr (bm_nw w 22 (3 : Int).toNat (3 : Int).toNat) p 0 (some (bm_sz w)) = wa
  have Ga : mk_G p 1 3 w wa := by rw [← e0]; exact ((mk_G.rf (p := p)).nw).sr (Or.inl rfl)
  have ga := Ga.sz
  have fa : bm_kt wa p = 1 ∧ bm_gr wa p 0 = some (p + 1) ∧ bm_kt wa (p + 1) = 22 ∧ bm_kn wa (p + 1) = 3 := by
    rw [← e0]
    simp only [bm_nw_kt, bm_nw_kn, bm_nw_sz, bm_nw_sl, bm_nw_gi, bm_nw_gl, bm_nw_gr, bm_si_kt, bm_si_kn, bm_si_sz, bm_si_sl, bm_si_gi, bm_si_gl, bm_si_gr, bm_sq_kt, bm_sq_kn, bm_sq_sz, bm_sq_sl, bm_sq_gi, bm_sq_gl, bm_sq_gr, bm_sr_kt, bm_sr_kn, bm_sr_sz, bm_sr_sl, bm_sr_gi, bm_sr_gl, bm_sr_gr, ← hp, tn3, tn6, tn12, tn41, tn54, tn100, tn203, tn1500, tn1501]
    grind
  refine mk_R_mono (mk_X4 (p := bm_sz wa) (w := bm_nw wa 4 0 2) rfl (by rw [bm_nw_kt, if_pos rfl])) (fun w1 G Z => ?_)
  have e2 : bm_sz wa = p + 2 := by omega
  have G1 : mk_G (bm_sz wa) 3 8 wa w1 := (mk_G.rf.nw).tr G (Or.inl rfl)
  have g1 := G1.sz
  have k1 : bm_kt w1 p = 1 := (G1.kt (by omega)).trans fa.1
  have r1 : bm_gr w1 p 0 = some (p + 1) := (G1.gr (by omega) (by omega) 0).trans fa.2.1
  refine ⟨k1, by decide, by rw [bm_nw_kt, bm_sr_sz, if_neg (by omega)]; exact k1, by decide, ?_, vb_X1_init_38 ⟨by decide, ?_, ?_⟩⟩
  · simp only [bm_nw_kt, bm_nw_kn, bm_nw_sz, bm_nw_sl, bm_nw_gi, bm_nw_gl, bm_nw_gr, bm_si_kt, bm_si_kn, bm_si_sz, bm_si_sl, bm_si_gi, bm_si_gl, bm_si_gr, bm_sq_kt, bm_sq_kn, bm_sq_sz, bm_sq_sl, bm_sq_gi, bm_sq_gl, bm_sq_gr, bm_sr_kt, bm_sr_kn, bm_sr_sz, bm_sr_sl, bm_sr_gi, bm_sr_gl, bm_sr_gr, g1]; grind
  · simp only [bm_nw_kt, bm_nw_kn, bm_nw_sz, bm_nw_sl, bm_nw_gi, bm_nw_gl, bm_nw_gr, bm_si_kt, bm_si_kn, bm_si_sz, bm_si_sl, bm_si_gi, bm_si_gl, bm_si_gr, bm_sq_kt, bm_sq_kn, bm_sq_sz, bm_sq_sl, bm_sq_gi, bm_sq_gl, bm_sq_gr, bm_sr_kt, bm_sr_kn, bm_sr_sz, bm_sr_sl, bm_sr_gi, bm_sr_gl, bm_sr_gr, g1]; grind
  generalize e5 : bm_sr (bm_nw (bm_sr (bm_nw (bm_sr (bm_nw (bm_sr w1 p 1 (some (bm_sz wa))) 21 (100 : Int).toNat (100 : Int).toNat) p 2 (some (bm_sz (bm_sr w1 p 1 (some (bm_sz wa)))))) 21 (100 : Int).toNat (100 : Int).toNat) p 3 (some (bm_sz (bm_sr (bm_nw (bm_sr w1 p 1 (some (bm_sz wa))) 21 (100 : Int).toNat (100 : Int).toNat) p 2 (some (bm_sz (bm_sr w1 p 1 (some (bm_sz wa))))))))) 21 (100 : Int).toNat (100 : Int).toNat) p 4 _ = W
  have GD : mk_G p 3 300 w1 W := by rw [← e5]; exact (((((((mk_G.rf (p := p)).sr (Or.inl rfl)).nw).sr (Or.inl rfl)).nw).sr (Or.inl rfl)).nw).sr (Or.inl rfl)
  have fW : bm_gr W p 0 = some (p + 1) ∧ bm_gr W p 1 = some (p + 2) ∧ bm_gr W p 2 = some (p + 5) ∧ bm_gr W p 3 = some (p + 6) ∧ bm_gr W p 4 = some (p + 7) ∧ (bm_kt W (p + 5) = 21 ∧ bm_kn W (p + 5) = 100) ∧ (bm_kt W (p + 6) = 21 ∧ bm_kn W (p + 6) = 100) ∧ (bm_kt W (p + 7) = 21 ∧ bm_kn W (p + 7) = 100) := by
    rw [← e5]
    simp only [bm_nw_kt, bm_nw_kn, bm_nw_sz, bm_nw_sl, bm_nw_gi, bm_nw_gl, bm_nw_gr, bm_si_kt, bm_si_kn, bm_si_sz, bm_si_sl, bm_si_gi, bm_si_gl, bm_si_gr, bm_sq_kt, bm_sq_kn, bm_sq_sz, bm_sq_sl, bm_sq_gi, bm_sq_gl, bm_sq_gr, bm_sr_kt, bm_sr_kn, bm_sr_sz, bm_sr_sl, bm_sr_gi, bm_sr_gl, bm_sr_gr, g1, e2, tn3, tn6, tn12, tn41, tn54, tn100, tn203, tn1500, tn1501]
    grind
  rw [e2] at Z
  refine ⟨rfl, ((Ga.tr G1 (Or.inr (by omega))).tr GD (Or.inl rfl)).cs, (GD.kt (by omega)).trans k1, fW.1, fW.2.1, fW.2.2.1, fW.2.2.2.1, fW.2.2.2.2.1, ?_, ?_, fW.2.2.2.2.2.1.1, fW.2.2.2.2.2.1.2, fW.2.2.2.2.2.2.1.1, fW.2.2.2.2.2.2.1.2, fW.2.2.2.2.2.2.2.1, fW.2.2.2.2.2.2.2.2, ?_⟩
  · rw [GD.kt (by omega), G1.kt (by omega)]; exact fa.2.2.1
  · rw [GD.kn (by omega), G1.kn (by omega)]; exact fa.2.2.2
  · exact sh_Rg.gw GD.gw (by omega) (by omega) Z
/-- the tape -/
theorem mk_X8 (hp : p + 1 = bm_sz w) (hk : bm_kt w p = 8) : bm_Call bm_pg (d + 1) y_X8_init [bm_r (some p)] w (mk_R p 1 1500 (sh_Tp p) w) := by
  have ne : ¬ p = bm_sz w := by omega
  refine vc_X8_init ⟨rfl, by decide, by rw [bm_nw_kt, if_neg ne]; exact hk, rfl, ((mk_G.rf (p := p)).nw).sr (Or.inl rfl), ?_⟩
  unfold sh_Tp
  simp only [bm_nw_kt, bm_nw_kn, bm_nw_sz, bm_nw_sl, bm_nw_gi, bm_nw_gl, bm_nw_gr, bm_si_kt, bm_si_kn, bm_si_sz, bm_si_sl, bm_si_gi, bm_si_gl, bm_si_gr, bm_sq_kt, bm_sq_kn, bm_sq_sz, bm_sq_sl, bm_sq_gi, bm_sq_gl, bm_sq_gr, bm_sr_kt, bm_sr_kn, bm_sr_sz, bm_sr_sl, bm_sr_gi, bm_sr_gl, bm_sr_gr, ← hp, tn3, tn6, tn12, tn41, tn54, tn100, tn203, tn1500, tn1501]
  grind
/-- the tokens -/
theorem mk_X9 (hp : p + 1 = bm_sz w) (hk : bm_kt w p = 9) : bm_Call bm_pg (d + 1) y_X9_init [bm_r (some p), bm_r (some q)] w (mk_R p 3 4503 (fun w' => sh_Tk p w' ∧ bm_gr w' p 0 = some q) w) := by
  have ne : ¬ p = bm_sz w := by omega
  refine vc_X9_init ⟨rfl, by decide, by rw [bm_nw_kt, if_neg ne]; exact hk, by decide, ?_, vb_X9_init_22 ⟨by decide, ?_, ?_, rfl, (((((((mk_G.rf (p := p)).nw).sr (Or.inl rfl)).nw).sr (Or.inl rfl)).nw).sr (Or.inl rfl)).sr (Or.inl rfl), ?_, ?_⟩⟩
  · simp only [bm_nw_kt, bm_nw_kn, bm_nw_sz, bm_nw_sl, bm_nw_gi, bm_nw_gl, bm_nw_gr, bm_si_kt, bm_si_kn, bm_si_sz, bm_si_sl, bm_si_gi, bm_si_gl, bm_si_gr, bm_sq_kt, bm_sq_kn, bm_sq_sz, bm_sq_sl, bm_sq_gi, bm_sq_gl, bm_sq_gr, bm_sr_kt, bm_sr_kn, bm_sr_sz, bm_sr_sl, bm_sr_gi, bm_sr_gl, bm_sr_gr, ← hp, tn3, tn6, tn12, tn41, tn54, tn100, tn203, tn1500, tn1501]; grind
  · simp only [bm_nw_kt, bm_nw_kn, bm_nw_sz, bm_nw_sl, bm_nw_gi, bm_nw_gl, bm_nw_gr, bm_si_kt, bm_si_kn, bm_si_sz, bm_si_sl, bm_si_gi, bm_si_gl, bm_si_gr, bm_sq_kt, bm_sq_kn, bm_sq_sz, bm_sq_sl, bm_sq_gi, bm_sq_gl, bm_sq_gr, bm_sr_kt, bm_sr_kn, bm_sr_sz, bm_sr_sl, bm_sr_gi, bm_sr_gl, bm_sr_gr, ← hp, tn3, tn6, tn12, tn41, tn54, tn100, tn203, tn1500, tn1501]; grind
  · simp only [bm_nw_kt, bm_nw_kn, bm_nw_sz, bm_nw_sl, bm_nw_gi, bm_nw_gl, bm_nw_gr, bm_si_kt, bm_si_kn, bm_si_sz, bm_si_sl, bm_si_gi, bm_si_gl, bm_si_gr, bm_sq_kt, bm_sq_kn, bm_sq_sz, bm_sq_sl, bm_sq_gi, bm_sq_gl, bm_sq_gr, bm_sr_kt, bm_sr_kn, bm_sr_sz, bm_sr_sl, bm_sr_gi, bm_sr_gl, bm_sr_gr, ← hp, tn3, tn6, tn12, tn41, tn54, tn100, tn203, tn1500, tn1501]; grind
  · unfold sh_Tk
    simp only [bm_nw_kt, bm_nw_kn, bm_nw_sz, bm_nw_sl, bm_nw_gi, bm_nw_gl, bm_nw_gr, bm_si_kt, bm_si_kn, bm_si_sz, bm_si_sl, bm_si_gi, bm_si_gl, bm_si_gr, bm_sq_kt, bm_sq_kn, bm_sq_sz, bm_sq_sl, bm_sq_gi, bm_sq_gl, bm_sq_gr, bm_sr_kt, bm_sr_kn, bm_sr_sz, bm_sr_sl, bm_sr_gi, bm_sr_gl, bm_sr_gr, ← hp, tn3, tn6, tn12, tn41, tn54, tn100, tn203, tn1500, tn1501]; grind
  · simp only [bm_nw_kt, bm_nw_kn, bm_nw_sz, bm_nw_sl, bm_nw_gi, bm_nw_gl, bm_nw_gr, bm_si_kt, bm_si_kn, bm_si_sz, bm_si_sl, bm_si_gi, bm_si_gl, bm_si_gr, bm_sq_kt, bm_sq_kn, bm_sq_sz, bm_sq_sl, bm_sq_gi, bm_sq_gl, bm_sq_gr, bm_sr_kt, bm_sr_kn, bm_sr_sz, bm_sr_sl, bm_sr_gi, bm_sr_gl, bm_sr_gr, ← hp, tn3, tn6, tn12, tn41, tn54, tn100, tn203, tn1500, tn1501]; grind
/-- what is untried -/
theorem mk_X10 (hp : p + 1 = bm_sz w) (hk : bm_kt w p = 10) : bm_Call bm_pg (d + 1) y_X10_init [bm_r (some p)] w (mk_R p 3 123 (sh_Un p) w) := by
  have ne : ¬ p = bm_sz w := by omega
  refine vc_X10_init ⟨rfl, by decide, by rw [bm_nw_kt, if_neg ne]; exact hk, by decide, ?_, vb_X10_init_20 ⟨by decide, ?_, rfl, ((((((mk_G.rf (p := p)).nw).sr (Or.inl rfl)).nw).sr (Or.inl rfl)).nw).sr (Or.inl rfl), ?_⟩⟩
  · simp only [bm_nw_kt, bm_nw_kn, bm_nw_sz, bm_nw_sl, bm_nw_gi, bm_nw_gl, bm_nw_gr, bm_si_kt, bm_si_kn, bm_si_sz, bm_si_sl, bm_si_gi, bm_si_gl, bm_si_gr, bm_sq_kt, bm_sq_kn, bm_sq_sz, bm_sq_sl, bm_sq_gi, bm_sq_gl, bm_sq_gr, bm_sr_kt, bm_sr_kn, bm_sr_sz, bm_sr_sl, bm_sr_gi, bm_sr_gl, bm_sr_gr, ← hp, tn3, tn6, tn12, tn41, tn54, tn100, tn203, tn1500, tn1501]; grind
  · simp only [bm_nw_kt, bm_nw_kn, bm_nw_sz, bm_nw_sl, bm_nw_gi, bm_nw_gl, bm_nw_gr, bm_si_kt, bm_si_kn, bm_si_sz, bm_si_sl, bm_si_gi, bm_si_gl, bm_si_gr, bm_sq_kt, bm_sq_kn, bm_sq_sz, bm_sq_sl, bm_sq_gi, bm_sq_gl, bm_sq_gr, bm_sr_kt, bm_sr_kn, bm_sr_sz, bm_sr_sl, bm_sr_gi, bm_sr_gl, bm_sr_gr, ← hp, tn3, tn6, tn12, tn41, tn54, tn100, tn203, tn1500, tn1501]; grind
  · unfold sh_Un
    simp only [bm_nw_kt, bm_nw_kn, bm_nw_sz, bm_nw_sl, bm_nw_gi, bm_nw_gl, bm_nw_gr, bm_si_kt, bm_si_kn, bm_si_sz, bm_si_sl, bm_si_gi, bm_si_gl, bm_si_gr, bm_sq_kt, bm_sq_kn, bm_sq_sz, bm_sq_sl, bm_sq_gi, bm_sq_gl, bm_sq_gr, bm_sr_kt, bm_sr_kn, bm_sr_sz, bm_sr_sl, bm_sr_gi, bm_sr_gl, bm_sr_gr, ← hp, tn3, tn6, tn12, tn41, tn54, tn100, tn203, tn1500, tn1501]; grind
/-- the machine -/
theorem mk_X2 (hp : p + 1 = bm_sz w) (hk : bm_kt w p = 2) : bm_Call bm_pg (d + 1) y_X2_init [bm_r (some p), bm_r (some q)] w (mk_R p 3 311 (sh_Mc p q) w) := by
  have ne : ¬ p = bm_sz w := by omega
  refine vc_X2_init ⟨rfl, by decide, by rw [bm_nw_kt, if_neg ne]; exact hk, by decide, ?_, vb_X2_init_21 ⟨by decide, ?_, ?_, rfl, (((((((mk_G.rf (p := p)).nw).sr (Or.inl rfl)).nw).sr (Or.inl rfl)).nw).sr (Or.inl rfl)).sr (Or.inl rfl), ?_⟩⟩
  · simp only [bm_nw_kt, bm_nw_kn, bm_nw_sz, bm_nw_sl, bm_nw_gi, bm_nw_gl, bm_nw_gr, bm_si_kt, bm_si_kn, bm_si_sz, bm_si_sl, bm_si_gi, bm_si_gl, bm_si_gr, bm_sq_kt, bm_sq_kn, bm_sq_sz, bm_sq_sl, bm_sq_gi, bm_sq_gl, bm_sq_gr, bm_sr_kt, bm_sr_kn, bm_sr_sz, bm_sr_sl, bm_sr_gi, bm_sr_gl, bm_sr_gr, ← hp, tn3, tn6, tn12, tn41, tn54, tn100, tn203, tn1500, tn1501]; grind
  · simp only [bm_nw_kt, bm_nw_kn, bm_nw_sz, bm_nw_sl, bm_nw_gi, bm_nw_gl, bm_nw_gr, bm_si_kt, bm_si_kn, bm_si_sz, bm_si_sl, bm_si_gi, bm_si_gl, bm_si_gr, bm_sq_kt, bm_sq_kn, bm_sq_sz, bm_sq_sl, bm_sq_gi, bm_sq_gl, bm_sq_gr, bm_sr_kt, bm_sr_kn, bm_sr_sz, bm_sr_sl, bm_sr_gi, bm_sr_gl, bm_sr_gr, ← hp, tn3, tn6, tn12, tn41, tn54, tn100, tn203, tn1500, tn1501]; grind
  · simp only [bm_nw_kt, bm_nw_kn, bm_nw_sz, bm_nw_sl, bm_nw_gi, bm_nw_gl, bm_nw_gr, bm_si_kt, bm_si_kn, bm_si_sz, bm_si_sl, bm_si_gi, bm_si_gl, bm_si_gr, bm_sq_kt, bm_sq_kn, bm_sq_sz, bm_sq_sl, bm_sq_gi, bm_sq_gl, bm_sq_gr, bm_sr_kt, bm_sr_kn, bm_sr_sz, bm_sr_sl, bm_sr_gi, bm_sr_gl, bm_sr_gr, ← hp, tn3, tn6, tn12, tn41, tn54, tn100, tn203, tn1500, tn1501]; grind
  · unfold sh_Mc
    simp only [bm_nw_kt, bm_nw_kn, bm_nw_sz, bm_nw_sl, bm_nw_gi, bm_nw_gl, bm_nw_gr, bm_si_kt, bm_si_kn, bm_si_sz, bm_si_sl, bm_si_gi, bm_si_gl, bm_si_gr, bm_sq_kt, bm_sq_kn, bm_sq_sz, bm_sq_sl, bm_sq_gi, bm_sq_gl, bm_sq_gr, bm_sr_kt, bm_sr_kn, bm_sr_sz, bm_sr_sl, bm_sr_gi, bm_sr_gl, bm_sr_gr, ← hp, tn3, tn6, tn12, tn41, tn54, tn100, tn203, tn1500, tn1501]; grind
end MK

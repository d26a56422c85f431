/-! ===== a new program ===== -/
section PI
variable {p q c s c' s' i j d a : Nat} {A R : Nat → Prop} {w w' w2 : bm_W} {Φ : bm_Rt → bm_W → Prop}
theorem sh_T0.gw {T : Nat} (h : q_gw A R c s w w') (hm : T + 6 < bm_sz w) (hR : ∀ j, j ≤ 3 → ¬ R (T + j)) (hT : sh_T0 T w) : sh_T0 T w' :=
  ⟨hT.1.gw h hm hR (fun i r _ hr => by rw [hT.2 i] at hr; cases hr), fun i => (h.gr (by omega) (hR 1 (by omega))).trans (hT.2 i)⟩
/-- the program p, i of its functions and j of its tables made -/
def pg_I (p i j : Nat) (w : bm_W) : Prop := (bm_kt w p = 3 ∧ bm_gr w p 0 = some (p + 1) ∧ bm_gr w p 1 = some (p + 2) ∧ bm_gr w p 2 = some (p + 3) ∧ bm_gr w p 3 = some (p + 11) ∧ bm_kt w (p + 1) = 24 ∧ bm_kn w (p + 1) = 6 ∧ bm_kt w (p + 2) = 26 ∧ bm_kn w (p + 2) = 6) ∧ (sh_Fn (p + 3) w ∧ sh_T0 (p + 11) w) ∧ (∀ k, k < i → bm_gr w (p + 1) k = some (p + 18 + 8 * k) ∧ sh_Fn (p + 18 + 8 * k) w) ∧ ∀ k, k < j → bm_gr w (p + 2) k = some (p + 66 + 7 * k) ∧ sh_T0 (p + 66 + 7 * k) w
theorem pg_I.gw (h : q_gw A R c s w w') (hz : p + 18 + 8 * i + 7 * j ≤ bm_sz w) (hij : j = 0 ∨ i = 6) (hR : ∀ x, R x → x < p ∨ p + 18 + 8 * i + 7 * j ≤ x) (hI : pg_I p i j w) : pg_I p i j w' := by
  obtain ⟨⟨a1, a2, a3, a4, a5, a6, a7, a8, a9⟩, ⟨b1, b2⟩, b3, b4⟩ := hI
  have nR : ∀ x, (p ≤ x ∧ x < p + 18 + 8 * i + 7 * j) → ¬ R x := fun x hx y => by have := hR x y; omega
  refine ⟨⟨(h.kt (by omega)).trans a1, (h.gr (by omega) (nR _ (by omega))).trans a2, (h.gr (by omega) (nR _ (by omega))).trans a3, (h.gr (by omega) (nR _ (by omega))).trans a4, (h.gr (by omega) (nR _ (by omega))).trans a5, (h.kt (by omega)).trans a6, (h.kn (by omega)).trans a7, (h.kt (by omega)).trans a8, (h.kn (by omega)).trans a9⟩, ⟨b1.gw h (by omega) (nR _ (by omega)) (nR _ (by omega)), b2.gw h (by omega) (fun j hj => nR _ (by omega))⟩, fun k hk => ?_, fun k hk => ?_⟩
  · exact ⟨(h.gr (by omega) (nR _ (by omega))).trans (b3 k hk).1, (b3 k hk).2.gw h (by omega) (nR _ (by omega)) (nR _ (by omega))⟩
  · exact ⟨(h.gr (by omega) (nR _ (by omega))).trans (b4 k hk).1, (b4 k hk).2.gw h (by omega) (fun j hj => nR _ (by omega))⟩
theorem mk_sr1 (a k : Nat) (v : Option Nat) : mk_G a 0 0 w (bm_sr w a k v) := mk_G.rf.sr (Or.inl rfl)
theorem pg_I.fn (hI : pg_I p i 0 w) (hz : p + 18 + 8 * i + 8 ≤ bm_sz w) (hF : sh_Fn (p + 18 + 8 * i) w) : pg_I p (i + 1) 0 (bm_sr w (p + 1) i (some (p + 18 + 8 * i))) := by
  have g := (mk_sr1 (w := w) (p + 1) i (some (p + 18 + 8 * i))).gw
  obtain ⟨⟨a1, a2, a3, a4, a5, a6, a7, a8, a9⟩, ⟨b1, b2⟩, b3, b4⟩ := hI
  refine ⟨⟨a1, (g.gr (by omega) (by omega)).trans a2, (g.gr (by omega) (by omega)).trans a3, (g.gr (by omega) (by omega)).trans a4, (g.gr (by omega) (by omega)).trans a5, a6, a7, a8, a9⟩, ⟨b1.gw g (by omega) (by omega) (by omega), b2.gw g (by omega) (fun j hj => by omega)⟩, fun k hk => ?_, fun k hk => by omega⟩
  by_cases e : k = i
  · subst e
    exact ⟨by rw [bm_sr_gr, if_pos ⟨rfl, rfl⟩], hF.gw g (by omega) (by omega) (by omega)⟩
  · have := b3 k (by omega)
    exact ⟨by rw [bm_sr_gr, if_neg (fun y => e y.2)]; exact this.1, this.2.gw g (by omega) (by omega) (by omega)⟩
theorem pg_I.tb (hI : pg_I p 6 j w) (hz : p + 66 + 7 * j + 7 ≤ bm_sz w) (hF : sh_T0 (p + 66 + 7 * j) w) : pg_I p 6 (j + 1) (bm_sr w (p + 2) j (some (p + 66 + 7 * j))) := by
  have g := (mk_sr1 (w := w) (p + 2) j (some (p + 66 + 7 * j))).gw
  obtain ⟨⟨a1, a2, a3, a4, a5, a6, a7, a8, a9⟩, ⟨b1, b2⟩, b3, b4⟩ := hI
  refine ⟨⟨a1, (g.gr (by omega) (by omega)).trans a2, (g.gr (by omega) (by omega)).trans a3, (g.gr (by omega) (by omega)).trans a4, (g.gr (by omega) (by omega)).trans a5, a6, a7, a8, a9⟩, ⟨b1.gw g (by omega) (by omega) (by omega), b2.gw g (by omega) (fun j hj => by omega)⟩, fun k hk => ?_, fun k hk => ?_⟩
  · have := b3 k hk
    exact ⟨(g.gr (by omega) (by omega)).trans this.1, this.2.gw g (by omega) (by omega) (by omega)⟩
  by_cases e : k = j
  · subst e
    exact ⟨by rw [bm_sr_gr, if_pos ⟨rfl, rfl⟩], hF.gw g (by omega) (fun j hj => by omega)⟩
  · have := b4 k (by omega)
    exact ⟨by rw [bm_sr_gr, if_neg (fun y => e y.2)]; exact this.1, this.2.gw g (by omega) (fun j hj => by omega)⟩
theorem pg_I.pg (hI : pg_I p 6 6 w) : sh_Pg p w ∧ ∀ (i : Int) (k : Nat), bm_gr w (pg_tb p i + 1) k = none := by
  obtain ⟨⟨a1, a2, a3, a4, a5, a6, a7, a8, a9⟩, ⟨b1, b2⟩, b3, b4⟩ := hI
  refine ⟨⟨a1, a2, a3, a4, a5, a6, a7, a8, a9, b1, b2.1, fun i hi => b3 i hi, fun i hi => ⟨(b4 i hi).1, (b4 i hi).2.1⟩⟩, fun i k => ?_⟩
  unfold pg_tb
  split
  · exact (b4 i.toNat (by omega)).2.2 k
  · exact b2.2 k
theorem mk_w1 (hi : i ≤ 6) : bm_w ((i : Int) + 1) = ((i + 1 : Nat) : Int) := by unfold bm_w; omega
/-- the tables -/
theorem mk_76 {w0 : bm_W} (k : ∀ w', mk_G p 107 3183 w0 w' → pg_I p 6 6 w' → Φ (.inl none) w') (hp : p + 1 = bm_sz w0) : ∀ (n j : Nat) (w : bm_W), n + j = 6 → mk_G p (65 + 7 * j) (2391 + 132 * j) w0 w → pg_I p 6 j w → bk_X3_init_76 (d + 3) Φ p (j : Int) w := by
  intro n
  induction n with
  | zero =>
    intro j w hj G I
    obtain rfl : j = 6 := by omega
    have sz := G.sz
    obtain ⟨a1, a2, a3, a4, a5, a6, a7, a8, a9⟩ := I.1
    have eu : bm_u (bm_gr w p 1) = p + 2 := by rw [a3]; rfl
    refine vb_X3_init_76 ⟨⟨a1, by rw [eu]; exact a3⟩, ⟨by rw [eu]; omega, by rw [eu]; omega⟩, ?_⟩
    rw [if_pos (by rw [decide_eq_true_eq, eu, a9]; omega)]
    exact k w G I
  | succ n ih =>
    intro j w hj G I
    have sz := G.sz
    obtain ⟨a1, a2, a3, a4, a5, a6, a7, a8, a9⟩ := I.1
    have eu : bm_u (bm_gr w p 1) = p + 2 := by rw [a3]; rfl
    refine vb_X3_init_76 ⟨⟨a1, by rw [eu]; exact a3⟩, ⟨by rw [eu]; omega, by rw [eu]; omega⟩, ?_⟩
    rw [if_neg (by rw [decide_eq_true_eq, eu, a9]; omega), eu]
    refine ⟨⟨a1, a3⟩, trivial, mk_R_mono (mk_X7 (d := d) (p := bm_sz w) (w := bm_nw w 7 0 7) rfl (by rw [bm_nw_kt, if_pos rfl])) (fun w1 G1 Z => ?_)⟩
    have G2 : mk_G (bm_sz w) 7 132 w w1 := (mk_G.rf.nw).tr G1 (Or.inl rfl)
    have g2 := G2.sz
    have e1 : bm_sz w = p + 66 + 7 * j := by omega
    have I1 : pg_I p 6 j w1 := I.gw G2.gw (by omega) (Or.inr rfl) (fun x y => by omega)
    rw [mk_w1 (by omega)]
    show ((bm_kt w1 (p + 2) = 26 ∧ bm_in (j : Int) (bm_kn w1 (p + 2))) ∧ bm_kt w1 (bm_sz w) = 7) ∧ bk_X3_init_76 (d + 3) Φ p ((j + 1 : Nat) : Int) (bm_sr w1 (p + 2) (j : Int).toNat (some (bm_sz w)))
    refine ⟨⟨⟨I1.1.2.2.2.2.2.2.2.1, ?_⟩, Z.1.1⟩, ?_⟩
    · rw [I1.1.2.2.2.2.2.2.2.2]; exact ⟨by omega, by omega⟩
    · rw [e1] at Z ⊢
      rw [Int.toNat_natCast]
      exact ih (j + 1) _ (by omega) (((G.tr G2 (Or.inr (by omega))).tr (mk_sr1 (p + 2) j (some (p + 66 + 7 * j))) (Or.inr (by omega))).cs) (I1.tb (by omega) Z)
/-- the functions -/
theorem mk_46 {w0 : bm_W} (k : ∀ w', mk_G p 107 3183 w0 w' → pg_I p 6 6 w' → Φ (.inl none) w') (hp : p + 1 = bm_sz w0) : ∀ (n i : Nat) (w : bm_W), n + i = 6 → mk_G p (17 + 8 * i) (465 + 321 * i) w0 w → pg_I p i 0 w → bk_X3_init_46 (d + 3) Φ p (i : Int) w := by
  intro n
  induction n with
  | zero =>
    intro i w hi G I
    obtain rfl : i = 6 := by omega
    have sz := G.sz
    obtain ⟨a1, a2, a3, a4, a5, a6, a7, a8, a9⟩ := I.1
    have eu : bm_u (bm_gr w p 0) = p + 1 := by rw [a2]; rfl
    refine vb_X3_init_46 ⟨⟨a1, by rw [eu]; exact a2⟩, ⟨by rw [eu]; omega, by rw [eu]; omega⟩, ?_⟩
    rw [if_pos (by rw [decide_eq_true_eq, eu, a7]; omega)]
    exact mk_76 k hp 6 0 w (by omega) G.cs I
  | succ n ih =>
    intro i w hi G I
    have sz := G.sz
    obtain ⟨a1, a2, a3, a4, a5, a6, a7, a8, a9⟩ := I.1
    have eu : bm_u (bm_gr w p 0) = p + 1 := by rw [a2]; rfl
    refine vb_X3_init_46 ⟨⟨a1, by rw [eu]; exact a2⟩, ⟨by rw [eu]; omega, by rw [eu]; omega⟩, ?_⟩
    rw [if_neg (by rw [decide_eq_true_eq, eu, a7]; omega), eu]
    refine ⟨⟨a1, a2⟩, trivial, mk_R_mono (mk_X1 (d := d + 1) (p := bm_sz w) (w := bm_nw w 1 0 10) rfl (by rw [bm_nw_kt, if_pos rfl])) (fun w1 G1 Z => ?_)⟩
    have G2 : mk_G (bm_sz w) 8 321 w w1 := (mk_G.rf.nw).tr G1 (Or.inl rfl)
    have g2 := G2.sz
    have e1 : bm_sz w = p + 18 + 8 * i := by omega
    have I1 : pg_I p i 0 w1 := I.gw G2.gw (by omega) (Or.inl rfl) (fun x y => by omega)
    rw [mk_w1 (by omega)]
    show ((bm_kt w1 (p + 1) = 24 ∧ bm_in (i : Int) (bm_kn w1 (p + 1))) ∧ bm_kt w1 (bm_sz w) = 1) ∧ bk_X3_init_46 (d + 3) Φ p ((i + 1 : Nat) : Int) (bm_sr w1 (p + 1) (i : Int).toNat (some (bm_sz w)))
    refine ⟨⟨⟨I1.1.2.2.2.2.2.1, ?_⟩, Z.1⟩, ?_⟩
    · rw [I1.1.2.2.2.2.2.2.1]; exact ⟨by omega, by omega⟩
    · rw [e1] at Z ⊢
      rw [Int.toNat_natCast]
      exact ih (i + 1) _ (by omega) (((G.tr G2 (Or.inr (by omega))).tr (mk_sr1 (p + 1) i (some (p + 18 + 8 * i))) (Or.inr (by omega))).cs) (I1.fn (by omega) Z)
theorem mk_X3 (hp : p + 1 = bm_sz w) (hk : bm_kt w p = 3) : bm_Call bm_pg (d + 4) y_X3_init [bm_r (some p)] w (mk_R p 107 3183 (pg_I p 6 6) w) := by
  have ne : ¬ p = bm_sz w := by omega
  refine vc_X3_init ⟨rfl, by decide, by rw [bm_nw_kt, if_neg ne]; exact hk, by decide, ?_, ?_⟩
  · simp only [bm_nw_kt, bm_nw_kn, bm_nw_sz, bm_nw_sl, bm_nw_gi, bm_nw_gl, bm_nw_gr, bm_si_kt, bm_si_kn, bm_si_sz, bm_si_sl, bm_si_gi, bm_si_gl, bm_si_gr, bm_sq_kt, bm_sq_kn, bm_sq_sz, bm_sq_sl, bm_sq_gi, bm_sq_gl, bm_sq_gr, bm_sr_kt, bm_sr_kn, bm_sr_sz, bm_sr_sl, bm_sr_gi, bm_sr_gl, bm_sr_gr, ← hp]; grind
  generalize e0 : bm_sr (bm_nw (bm_sr (bm_nw w 24 (6 : Int).toNat (6 : Int).toNat) p 0 (some (bm_sz w))) 26 (6 : Int).toNat (6 : Int).toNat) p 1 (some (bm_sz (bm_sr (bm_nw w 24 (6 : Int).toNat (6 : Int).toNat) p 0 (some (bm_sz w))))) = wa
  have Ga : mk_G p 2 12 w wa := by rw [← e0]; exact ((((mk_G.rf (p := p)).nw).sr (Or.inl rfl)).nw).sr (Or.inl rfl)
  have ga := Ga.sz
  have fa : bm_kt wa p = 3 ∧ bm_gr wa p 0 = some (p + 1) ∧ bm_gr wa p 1 = some (p + 2) ∧ (bm_kt wa (p + 1) = 24 ∧ bm_kn wa (p + 1) = 6) ∧ (bm_kt wa (p + 2) = 26 ∧ bm_kn wa (p + 2) = 6) := by
    rw [← e0]
    simp only [bm_nw_kt, bm_nw_kn, bm_nw_sz, bm_nw_sl, bm_nw_gi, bm_nw_gl, bm_nw_gr, bm_si_kt, bm_si_kn, bm_si_sz, bm_si_sl, bm_si_gi, bm_si_gl, bm_si_gr, bm_sq_kt, bm_sq_kn, bm_sq_sz, bm_sq_sl, bm_sq_gi, bm_sq_gl, bm_sq_gr, bm_sr_kt, bm_sr_kn, bm_sr_sz, bm_sr_sl, bm_sr_gi, bm_sr_gl, bm_sr_gr, ← hp, tn6]
    grind
  have e1 : bm_sz wa = p + 3 := by omega
  refine vb_X3_init_22 ⟨trivial, mk_R_mono (mk_X1 (d := d + 1) (p := bm_sz wa) (w := bm_nw wa 1 0 10) rfl (by rw [bm_nw_kt, if_pos rfl])) (fun w1 G1 Z1 => ?_)⟩
  have G2 : mk_G (bm_sz wa) 8 321 wa w1 := (mk_G.rf.nw).tr G1 (Or.inl rfl)
  have g2 := G2.sz
  have k1 : bm_kt w1 p = 3 := (G2.kt (by omega)).trans fa.1
  rw [e1] at Z1
  refine ⟨k1, trivial, ?_⟩
  generalize e3 : bm_sr w1 p 2 (some (bm_sz wa)) = wb
  have Gb : mk_G p 0 0 w1 wb := by rw [← e3]; exact mk_sr1 _ _ _
  have gb := Gb.sz
  have rb : bm_gr wb p 2 = some (p + 3) ∧ ∀ j, j ≠ 2 → bm_gr wb p j = bm_gr w1 p j := by
    rw [← e3]
    exact ⟨by rw [bm_sr_gr, if_pos ⟨rfl, rfl⟩, e1], fun j hj => by rw [bm_sr_gr, if_neg (fun y => hj y.2)]⟩
  have e4 : bm_sz wb = p + 11 := by omega
  refine mk_R_mono (mk_X7 (d := d) (p := bm_sz wb) (w := bm_nw wb 7 0 7) rfl (by rw [bm_nw_kt, if_pos rfl])) (fun w2 G3 Z2 => ?_)
  have G4 : mk_G (bm_sz wb) 7 132 wb w2 := (mk_G.rf.nw).tr G3 (Or.inl rfl)
  have g4 := G4.sz
  have k2 : bm_kt w2 p = 3 := (G4.kt (by omega)).trans ((Gb.kt (by omega)).trans k1)
  rw [e4] at Z2
  refine ⟨k2, ?_⟩
  generalize e5 : bm_sr w2 p 3 (some (bm_sz wb)) = wc
  have Gc : mk_G p 0 0 w2 wc := by rw [← e5]; exact mk_sr1 _ _ _
  have gc := Gc.sz
  have rc : bm_gr wc p 3 = some (p + 11) ∧ ∀ j, j ≠ 3 → bm_gr wc p j = bm_gr w2 p j := by
    rw [← e5]
    exact ⟨by rw [bm_sr_gr, if_pos ⟨rfl, rfl⟩, e4], fun j hj => by rw [bm_sr_gr, if_neg (fun y => hj y.2)]⟩
  have GA : mk_G p 17 465 w wc := ((((Ga.tr G2 (Or.inr (by omega))).tr Gb (Or.inl rfl)).tr G4 (Or.inr (by omega))).tr Gc (Or.inl rfl)).cs
  have kk : ∀ x, x < p + 3 → bm_kt wc x = bm_kt wa x ∧ bm_kn wc x = bm_kn wa x := fun x hx => ⟨by rw [Gc.kt (by omega), G4.kt (by omega), Gb.kt (by omega), G2.kt (by omega)], by rw [Gc.kn (by omega), G4.kn (by omega), Gb.kn (by omega), G2.kn (by omega)]⟩
  have rr : ∀ j, j < 2 → bm_gr wc p j = bm_gr wa p j := fun j hj => by rw [rc.2 j (by omega), G4.gr (by omega) (by omega), rb.2 j (by omega), G2.gr (by omega) (by omega)]
  refine mk_46 (fun w' G' I' => ⟨rfl, G', I'⟩) hp 6 0 wc (by omega) GA.cs ⟨⟨(kk p (by omega)).1.trans fa.1, (rr 0 (by omega)).trans fa.2.1, (rr 1 (by omega)).trans fa.2.2.1, ?_, rc.1, (kk _ (by omega)).1.trans fa.2.2.2.1.1, (kk _ (by omega)).2.trans fa.2.2.2.1.2, (kk _ (by omega)).1.trans fa.2.2.2.2.1, (kk _ (by omega)).2.trans fa.2.2.2.2.2⟩, ⟨?_, ?_⟩, fun k hk => by omega, fun k hk => by omega⟩
  · rw [rc.2 2 (by omega), G4.gr (by omega) (by omega)]; exact rb.1
  · exact ((Z1.gw Gb.gw (by omega) (by omega) (by omega)).gw G4.gw (by omega) (by omega) (by omega)).gw Gc.gw (by omega) (by omega) (by omega)
  · exact Z2.gw Gc.gw (by omega) (fun j hj => by omega)
end PI

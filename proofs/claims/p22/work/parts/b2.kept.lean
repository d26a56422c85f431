/-! ===== what the class keeps, made anew ===== -/
/-- where an op of the class but compile, feed and trim writes -/
def cB (t a : Nat) : Prop := (t + 5 ≤ a ∧ a ≤ t + 121) ∨ t + 125 ≤ a
/-- what an op of the class may change, the room it takes -/
def cL (t c s : Nat) (w w' : bm_W) : Prop := (∃ c' s', q_gw (cB t) (cA t) c' s' w w') ∧ bm_sz w' + 4 * rm t w' ≤ bm_sz w + 4 * rm t w + c ∧ bm_sl w' + 13 * rm t w' ≤ bm_sl w + 13 * rm t w + s
section KP
variable {b t c s c2 s2 : Nat} {B : Int → Int} {pr : y_pr} {w w1 w2 w' : bm_W}
theorem cL.rf : cL t 0 0 w w := ⟨⟨0, 0, q_gw.rf⟩, Nat.le_refl _, Nat.le_refl _⟩
theorem cL.tr (h : cL t c s w w1) (h2 : cL t c2 s2 w1 w2) : cL t (c + c2) (s + s2) w w2 := by
  obtain ⟨⟨c', s', a1⟩, a2, a3⟩ := h
  obtain ⟨⟨c'', s'', b1⟩, b2, b3⟩ := h2
  exact ⟨⟨_, _, a1.tr b1⟩, by omega, by omega⟩
theorem cL.mo (h : cL t c s w w1) (hc : c ≤ c2) (hs : s ≤ s2) : cL t c2 s2 w w1 := ⟨h.1, by have := h.2.1; omega, by have := h.2.2; omega⟩
theorem cL.of {A : Nat → Prop} (h : q_fr A w w') (hA : ∀ a, A a → cB t a) : cL t 0 0 w w' := by
  have e := rm_eq (t := t) (w := w) (w' := w') (fun a _ _ j => by rw [h.gr])
  refine ⟨⟨0, 0, q_gw.of (h.mo hA)⟩, ?_, ?_⟩
  · rw [e, h.sz]; exact Nat.le_refl _
  · rw [e, h.sl]; exact Nat.le_refl _
theorem cL.kf {A R : Nat → Prop} {gc gs : Nat} (h : kf t w w') (G : q_gw A R gc gs w w') (hA : ∀ a, A a → cB t a) (hR : ∀ a, R a → cA t a) : cL t 0 0 w w' := ⟨⟨gc, gs, G.mo hA hR (Nat.le_refl _) (Nat.le_refl _)⟩, by have := h.2.1; omega, by have := h.2.2; omega⟩
theorem cL.tw (h : cL t c s w w') : cL t (c + 1) (s + 6) w (bm_tw w') := by
  obtain ⟨⟨c', s', a1⟩, a2, a3⟩ := h
  refine ⟨⟨_, _, a1.tw⟩, ?_, ?_⟩
  · show bm_sz w' + 1 + 4 * rm t w' ≤ _
    omega
  · show bm_sl w' + 6 + 13 * rm t w' ≤ _
    omega
theorem cO.cL (h : cO t c s w w') (hs : t + 112 ≤ bm_sz w) : cL t c s w w' := by
  have e := rm_eq (t := t) (w := w) (w' := w') (fun a _ h2 j => h.gr (by omega) (fun z => z))
  obtain ⟨h1, h2⟩ := h
  refine ⟨⟨c, s, q_gw.mo (A' := cB t) (R' := cA t) ⟨h1, h2⟩ (fun a z => ?_) (fun a z => z.elim) (Nat.le_refl _) (Nat.le_refl _)⟩, by rw [e]; omega, by rw [e]; omega⟩
  unfold cB
  rcases z with z | z
  · have := zX.no (Or.inl z); omega
  · omega
theorem cS.cL (h : cS t w w') : cL t 0 0 w w' := cL.of (A := fun a => (t + 113 ≤ a ∧ a ≤ t + 116) ∨ t + 125 ≤ a) h (fun a z => by unfold cB; omega)
/-- rows that are kept stay where their cells and places do -/
theorem zR.mv {T n : Nat} {rows : List y_rw} (h : zR T n rows w) (h5 : bm_gi w' T 5 = bm_gi w T 5) (h6 : bm_gi w' T 6 = bm_gi w T 6) (hp : ∀ i, i < rows.length → bm_gr w' (T + 1) i = bm_gr w (T + 1) i) (hb : ∀ i r, i < rows.length → bm_gr w (T + 1) i = some r → q_bk r 4 w w') : zR T n rows w' := by
  obtain ⟨b1, b2, b3, b4, b5⟩ := h
  refine ⟨h5.trans b1, b2, h6.trans b3, b4, fun i hi => ?_⟩
  obtain ⟨r, r1, r2, r3⟩ := b5 i hi
  exact ⟨r, (hp i hi).trans r1, r2.bk (hb i r hi r1), r3⟩
theorem cZ.mk (h : cI b t w) (hf : yfs t B pr.1 w) (h5 : bm_gi w (t + 4) 5 = (pr.2.length : Int)) (l6 : pr.2.length ≤ 6) (hz : ∀ k, k < pr.2.length → bm_gi w (pg_tb (t + 4) (k : Int)) 4 = ((pr.2.getD k y_t0).2.1 : Int) ∧ yfn t B (pr.2.getD k y_t0).2.1 (y_tF pr k) w ∧ zR (pg_tb (t + 4) (k : Int)) (y_tF pr k).2.1.length (pr.2.getD k y_t0).2.2 w ∧ q_loc (y_tF pr k).2.1.length (y_tF pr k).2.2.2.2 ∧ (pr.2.getD k y_t0).2.1 < 6) (h2 : bm_gi w (t + 117) 2 = 0 ∨ (bm_gi w (t + 117) 2 = 1 ∧ zN t pr pr.2.length w)) (h6 : bm_gi w (t + 113) 6 = 0) : cZ b t B pr w := by
  have c1 := h.1
  have Ru : sh_Ru t w := ⟨c1.2.2.2.2.2.2.2.2.2.1, c1.2.2.2.2.2.2.2.2.2.2.1, c1.2.2.2.2.2.2.2.2.2.2.2.1, h.2.2.2.1, h.2.2.2.2.1⟩
  have ro := h.2.2.2.2.2.1
  refine ⟨h, ⟨Ru, h5, l6, fun k hk => ?_⟩, hf, h2, h6⟩
  obtain ⟨t2, fn, zr, lc, f6⟩ := hz k hk
  exact ⟨Ru, h.2.2.2.1.tb (k : Int), t2, fn, zr, fun i r hi hr => (ro.2.1 _ i r ⟨⟨_, rfl⟩, hi, hr⟩).1, ⟨lc, rfl, f6, fn.2.1.2.1⟩, ⟨_, rfl⟩⟩
/-- what always holds of the class, behind steps that make a row -/
theorem cI.gn {A R : Nat → Prop} {k : Nat} (h : cI b t w) (G : q_gw A R c s w w') (hA : ∀ a, A a → a ≠ b + 1 ∧ a ≠ t + 4 ∧ ∀ i : Int, a ≠ pg_fn (t + 4) i) (hk : k < 6) (hR : ∀ a, R a → a = pg_tb (t + 4) (k : Int) + 1) (hT : sh_Tb (pg_tb (t + 4) (k : Int)) w') (ho : rw_ok t w') : cI b t w' := by
  obtain ⟨a1, a2, a3, a4, a5, a6, a7, a8, a9⟩ := h
  have os := a6.1
  have eb := a1.1
  have tk := pg_tb_in (t + 4) k hk
  have nR : ∀ a, a ≠ t + 71 + 7 * k → ¬ R a := fun a z y => by have := hR a y; omega
  have tb : ∀ i : Int, sh_Tb (pg_tb (t + 4) i) w' := fun i => by
    by_cases e : pg_tb (t + 4) i = pg_tb (t + 4) (k : Int)
    · rw [e]; exact hT
    · have rg := (pg_tb_rng (t + 4) i).2.2
      have rg2 := pg_tb_off t i
      refine (a4.tb i).gw G (by omega) (fun j hj => nR _ ?_) (fun j r hj hr => ?_)
      · rcases rg with z | ⟨x, z, y⟩
        · omega
        · have : x ≠ k := fun q => e (by rw [z, tk, q])
          omega
      · have := a6.2.1 _ j r ⟨⟨i, rfl⟩, hj, hr⟩
        exact ⟨by omega, nR _ (by omega), nR _ (by omega)⟩
  have P : sh_Pg (t + 4) w' := a4.gw G (by omega) (fun j hj hj2 => nR _ (by omega)) tb
  refine ⟨a1.gw G (by omega) (nR _ (by omega)) (nR _ (by omega)) (nR _ (by omega)), ⟨a2.1.gw G (by omega) (nR _ (by omega)), (G.gr (by omega) (nR _ (by omega))).trans a2.2.1, a2.2.2.1.gw G (by omega) (nR _ (by omega)), a2.2.2.2.1, ?_⟩, ⟨(G.kt (by omega)).trans a3.1, (G.gr (by omega) (nR _ (by omega))).trans a3.2.1, (G.gr (by omega) (nR _ (by omega))).trans a3.2.2⟩, P, a5.gw G (by omega) (nR _ (by omega)), ho, ?_, ?_, fun i => ?_⟩
  · rw [G.gi (by omega) (fun z => (hA _ z).1 rfl)]; exact a2.2.2.2.2
  · rw [G.gi (by omega) (fun z => (hA _ z).2.1 rfl)]; exact a7
  · rw [G.gi (by omega) (fun z => (hA _ z).2.1 rfl)]; exact a8
  · have := pg_fn_off t i
    rw [G.gi (by omega) (fun z => (hA _ z).2.2 i rfl)]; exact a9 i
end KP

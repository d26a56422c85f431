/-! ===== frames of worlds that grow ===== -/
/-- c cells and s slots at most are new; references stay off R, numbers off A -/
def q_gw (A R : Nat → Prop) (c s : Nat) (w w' : bm_W) : Prop := (bm_sz w ≤ bm_sz w' ∧ bm_sz w' ≤ bm_sz w + c ∧ bm_sl w ≤ bm_sl w' ∧ bm_sl w' ≤ bm_sl w + s) ∧ ∀ a, a < bm_sz w → (bm_kt w' a = bm_kt w a ∧ bm_kn w' a = bm_kn w a) ∧ (¬ R a → ∀ j, bm_gr w' a j = bm_gr w a j) ∧ (¬ A a → ∀ j, bm_gi w' a j = bm_gi w a j ∧ bm_gl w' a j = bm_gl w a j)
section GW
variable {A R : Nat → Prop} {c s c' s' : Nat} {w w' w2 : bm_W}
theorem q_gw.rf : q_gw A R 0 0 w w := ⟨⟨Nat.le_refl _, Nat.le_refl _, Nat.le_refl _, Nat.le_refl _⟩, fun _ _ => ⟨⟨rfl, rfl⟩, fun _ _ => rfl, fun _ _ => ⟨rfl, rfl⟩⟩⟩
theorem q_gw.tr (h : q_gw A R c s w w') (h2 : q_gw A R c' s' w' w2) : q_gw A R (c + c') (s + s') w w2 := by
  obtain ⟨⟨a1, a2, a3, a4⟩, a5⟩ := h
  obtain ⟨⟨b1, b2, b3, b4⟩, b5⟩ := h2
  refine ⟨⟨by omega, by omega, by omega, by omega⟩, fun a ha => ?_⟩
  obtain ⟨x1, x2, x3⟩ := a5 a ha
  obtain ⟨y1, y2, y3⟩ := b5 a (by omega)
  exact ⟨⟨y1.1.trans x1.1, y1.2.trans x1.2⟩, fun z j => (y2 z j).trans (x2 z j), fun z j => ⟨(y3 z j).1.trans (x3 z j).1, (y3 z j).2.trans (x3 z j).2⟩⟩
theorem q_gw.mo {A' R' : Nat → Prop} (h : q_gw A R c s w w') (hA : ∀ a, A a → A' a) (hR : ∀ a, R a → R' a) (hc : c ≤ c') (hs : s ≤ s') : q_gw A' R' c' s' w w' := by
  obtain ⟨⟨a1, a2, a3, a4⟩, a5⟩ := h
  exact ⟨⟨a1, by omega, a3, by omega⟩, fun a ha => ⟨(a5 a ha).1, fun z => (a5 a ha).2.1 (fun y => z (hR a y)), fun z => (a5 a ha).2.2 (fun y => z (hA a y))⟩⟩
theorem q_gw.of (h : q_fr A w w') : q_gw A R 0 0 w w' := by
  refine ⟨⟨by rw [h.sz]; exact Nat.le_refl _, by rw [h.sz]; exact Nat.le_refl _, by rw [h.sl]; exact Nat.le_refl _, by rw [h.sl]; exact Nat.le_refl _⟩, fun a _ => ⟨⟨by rw [h.kt], by rw [h.kn]⟩, fun _ j => by rw [h.gr], fun z j => ⟨h.gi z, h.gl z⟩⟩⟩
theorem q_gw.fr (h : q_gw A R c s w w') (h2 : q_fr A w' w2) : q_gw A R c s w w2 := h.tr (q_gw.of h2)
theorem q_gw.si {a k : Nat} {v : Int} (h : q_gw A R c s w w') (ha : A a ∨ bm_sz w ≤ a) : q_gw A R c s w (bm_si w' a k v) := by
  obtain ⟨h1, h2⟩ := h
  refine ⟨h1, fun b hb => ⟨(h2 b hb).1, (h2 b hb).2.1, fun z j => ⟨?_, ((h2 b hb).2.2 z j).2⟩⟩⟩
  rw [q_gi_ne (fun e => by rw [e] at z hb; exact ha.elim z (fun y => by omega))]
  exact ((h2 b hb).2.2 z j).1
theorem q_gw.sq {a k : Nat} {v : Int} (h : q_gw A R c s w w') (ha : A a ∨ bm_sz w ≤ a) : q_gw A R c s w (bm_sq w' a k v) := by
  obtain ⟨h1, h2⟩ := h
  refine ⟨h1, fun b hb => ⟨(h2 b hb).1, (h2 b hb).2.1, fun z j => ⟨((h2 b hb).2.2 z j).1, ?_⟩⟩⟩
  rw [q_gl_ne (fun e => by rw [e] at z hb; exact ha.elim z (fun y => by omega))]
  exact ((h2 b hb).2.2 z j).2
theorem q_gw.nw {t n m : Nat} (h : q_gw A R c s w w') : q_gw A R (c + 1) (s + m) w (bm_nw w' t n m) := by
  obtain ⟨⟨a1, a2, a3, a4⟩, h2⟩ := h
  refine ⟨⟨by show _ ≤ bm_sz w' + 1; omega, by show bm_sz w' + 1 ≤ _; omega, by show _ ≤ bm_sl w' + m; omega, by show bm_sl w' + m ≤ _; omega⟩, fun b hb => ?_⟩
  have hb' : ¬ b = bm_sz w' := by omega
  obtain ⟨x1, x2, x3⟩ := h2 b hb
  refine ⟨⟨?_, ?_⟩, fun z j => ?_, fun z j => ⟨?_, ?_⟩⟩
  · show (if b = bm_sz w' then t else bm_kt w' b) = _
    rw [if_neg hb']; exact x1.1
  · show (if b = bm_sz w' then n else bm_kn w' b) = _
    rw [if_neg hb']; exact x1.2
  · show (if b = bm_sz w' then none else bm_gr w' b j) = _
    rw [if_neg hb']; exact x2 z j
  · show (if b = bm_sz w' then 0 else bm_gi w' b j) = _
    rw [if_neg hb']; exact (x3 z j).1
  · show (if b = bm_sz w' then 0 else bm_gl w' b j) = _
    rw [if_neg hb']; exact (x3 z j).2
theorem q_gw.gi (h : q_gw A R c s w w') {a j : Nat} (ha : a < bm_sz w) (q : ¬ A a) : bm_gi w' a j = bm_gi w a j := ((h.2 a ha).2.2 q j).1
theorem q_gw.gl (h : q_gw A R c s w w') {a j : Nat} (ha : a < bm_sz w) (q : ¬ A a) : bm_gl w' a j = bm_gl w a j := ((h.2 a ha).2.2 q j).2
theorem q_gw.kt (h : q_gw A R c s w w') {a : Nat} (ha : a < bm_sz w) : bm_kt w' a = bm_kt w a := (h.2 a ha).1.1
theorem q_gw.kn (h : q_gw A R c s w w') {a : Nat} (ha : a < bm_sz w) : bm_kn w' a = bm_kn w a := (h.2 a ha).1.2
theorem q_gw.gr (h : q_gw A R c s w w') {a j : Nat} (ha : a < bm_sz w) (q : ¬ R a) : bm_gr w' a j = bm_gr w a j := (h.2 a ha).2.1 q j
end GW
/-! ===== small methods of the model's meaning ===== -/
section ML
variable {d m : Nat} {w : bm_W} {Φ : bm_Rt → bm_W → Prop}
end ML

/-! ===== the meaning of expressions, in the model: what holds meanwhile ===== -/
theorem q_node.mo {m dp dp' : Nat} {i : Int} {D : q_D} {w : bm_W} (h : q_node m w i D dp) (hd : dp ≤ dp') : q_node m w i D dp' := fun d Φ a b c ch w1 h1 h2 h3 h4 h5 => h d Φ a b c ch w1 (by omega) h2 h3 h4 h5
/-- the nodes ahead of i are the same -/
def nb (m i : Nat) (w w0 : bm_W) : Prop := ∀ a j, m + 7 ≤ a → a ≤ m + 12 → j < i → bm_gi w0 a j = bm_gi w a j
/-- the functions told ahead mean what they mean -/
def nc (m F : Nat) (E : q_E) (w0 : bm_W) : Prop := sh_Md m w0 ∧ ∀ g : Nat, g < F → bm_gi w0 (m + 14) g = (E.2.2.1 (g : Int) : Int) ∧ q_node m w0 (bm_gi w0 (m + 18) g) (E.2.2.2.2 (g : Int)) (200 * (g + 1))
/-- node i means D, wherever it is kept -/
def qn (m F : Nat) (E : q_E) (w : bm_W) (i : Int) (D : q_D) (dp : Nat) : Prop := ∃ x : Nat, i = (x : Int) ∧ (x : Int) < bm_gi w m 11 ∧ x < 1500 ∧ ∀ w0, nb m (x + 1) w w0 → nc m F E w0 → q_node m w0 i D (200 * F + dp)
/-- what the meaning of c tokens may change -/
def mf (m F c : Nat) (w w' : bm_W) : Prop := q_gw (fun a => a = m ∨ (m + 7 ≤ a ∧ a ≤ m + 12) ∨ a = m + 20) (fun _ => False) c (3 * c) w w' ∧ (∀ k, k ≠ 3 → k ≠ 9 → k ≠ 11 → k ≠ 40 → bm_gi w' m k = bm_gi w m k) ∧ (∀ j, j ≠ F → bm_gi w' (m + 20) j = bm_gi w (m + 20) j) ∧ (∀ a j, m + 7 ≤ a → a ≤ m + 12 → ((j : Nat) : Int) < bm_gi w m 11 → bm_gi w' a j = bm_gi w a j) ∧ bm_gi w m 11 ≤ bm_gi w' m 11
section MF
variable {m F c c' : Nat} {w w' w2 : bm_W}
theorem mf.rf : mf m F 0 w w := ⟨q_gw.rf, fun _ _ _ _ _ => rfl, fun _ _ => rfl, fun _ _ _ _ _ => rfl, Int.le_refl _⟩
theorem mf.tr (h : mf m F c w w') (h2 : mf m F c' w' w2) : mf m F (c + c') w w2 :=
  ⟨by have := h.1.tr h2.1; rw [← Nat.mul_add] at this; exact this, fun k a b x y => (h2.2.1 k a b x y).trans (h.2.1 k a b x y), fun j a => (h2.2.2.1 j a).trans (h.2.2.1 j a), fun a j x y z => (h2.2.2.2.1 a j x y (by have := h.2.2.2.2; omega)).trans (h.2.2.2.1 a j x y z), Int.le_trans h.2.2.2.2 h2.2.2.2.2⟩
theorem mf.mo (h : mf m F c w w') (hc : c ≤ c') : mf m F c' w w' := ⟨h.1.mo (fun _ z => z) (fun _ z => z) hc (by omega), h.2⟩
theorem mf.fld {k : Nat} {v : Int} (h : mf m F c w w') (hk : k = 3 ∨ k = 9 ∨ k = 40) : mf m F c w (bm_si w' m k v) :=
  ⟨h.1.si (Or.inl (Or.inl rfl)), fun j a b x y => (q_gi_nk (by omega)).trans (h.2.1 j a b x y), fun j a => (q_gi_ne (by omega)).trans (h.2.2.1 j a), fun a j x y z => (q_gi_ne (by omega)).trans (h.2.2.2.1 a j x y z), by rw [q_gi_nk (by omega)]; exact h.2.2.2.2⟩
theorem mf.siz {v : Int} (h : mf m F c w w') : mf m F c w (bm_si w' (m + 20) F v) :=
  ⟨h.1.si (Or.inl (Or.inr (Or.inr rfl))), fun j a b x y => (q_gi_ne (by omega)).trans (h.2.1 j a b x y), fun j a => (q_gi_nk a).trans (h.2.2.1 j a), fun a j x y z => (q_gi_ne (by omega)).trans (h.2.2.2.1 a j x y z), by rw [q_gi_ne (by omega)]; exact h.2.2.2.2⟩
/-- a new row of numbers -/
theorem mf.new (h : mf m F c w w') (hm : m + 31 < bm_sz w') {t n : Nat} (hn : n = 3) : mf m F (c + 1) w (bm_nw w' t n n) := by
  have e : ∀ a j, a ≠ bm_sz w' → bm_gi (bm_nw w' t n n) a j = bm_gi w' a j := fun a j ha => if_neg ha
  refine ⟨(h.1.nw).mo (fun _ z => z) (fun _ z => z) (Nat.le_refl _) (by omega), fun j a b x y => (e _ _ (by omega)).trans (h.2.1 j a b x y), fun j a => (e _ _ (by omega)).trans (h.2.2.1 j a), fun a j x y z => (e _ _ (by omega)).trans (h.2.2.2.1 a j x y z), by rw [e _ _ (by omega)]; exact h.2.2.2.2⟩
/-- a place of a row that is new -/
theorem mf.arr {a k : Nat} {v : Int} (h : mf m F c w w') (ha : bm_sz w ≤ a) (hm : m + 31 < bm_sz w) : mf m F c w (bm_si w' a k v) :=
  ⟨h.1.si (Or.inr ha), fun j p b x y => (q_gi_ne (by omega)).trans (h.2.1 j p b x y), fun j p => (q_gi_ne (by omega)).trans (h.2.2.1 j p), fun b j x y z => (q_gi_ne (by omega)).trans (h.2.2.2.1 b j x y z), by rw [q_gi_ne (by omega)]; exact h.2.2.2.2⟩
theorem nd_at {n : Nat} {k a b x i p : Int} : bm_gi (md_nd w m n k a b x i p) (m + 7) n = k ∧ bm_gi (md_nd w m n k a b x i p) (m + 8) n = a ∧ bm_gi (md_nd w m n k a b x i p) (m + 9) n = b ∧ bm_gi (md_nd w m n k a b x i p) (m + 10) n = x ∧ bm_gi (md_nd w m n k a b x i p) (m + 11) n = i ∧ bm_gi (md_nd w m n k a b x i p) (m + 12) n = p ∧ bm_gi (md_nd w m n k a b x i p) m 40 = (n : Int) ∧ bm_gi (md_nd w m n k a b x i p) m 11 = (n : Int) + 1 := by
  unfold md_nd
  refine ⟨?_, ?_, ?_, ?_, ?_, ?_, ?_, q_gi_eq⟩
  · rw [q_gi_ne (by omega), q_gi_ne (by omega), q_gi_ne (by omega), q_gi_ne (by omega), q_gi_ne (by omega), q_gi_ne (by omega), q_gi_ne (by omega), q_gi_eq]
  · rw [q_gi_ne (by omega), q_gi_ne (by omega), q_gi_ne (by omega), q_gi_ne (by omega), q_gi_ne (by omega), q_gi_ne (by omega), q_gi_eq]
  · rw [q_gi_ne (by omega), q_gi_ne (by omega), q_gi_ne (by omega), q_gi_ne (by omega), q_gi_ne (by omega), q_gi_eq]
  · rw [q_gi_ne (by omega), q_gi_ne (by omega), q_gi_ne (by omega), q_gi_ne (by omega), q_gi_eq]
  · rw [q_gi_ne (by omega), q_gi_ne (by omega), q_gi_ne (by omega), q_gi_eq]
  · rw [q_gi_ne (by omega), q_gi_ne (by omega), q_gi_eq]
  · rw [q_gi_nk (by decide), q_gi_eq]
theorem nd_ne {n y j : Nat} {k a b x i p : Int} (h : ¬ (y = m ∧ (j = 40 ∨ j = 11))) (h2 : ¬ (m + 7 ≤ y ∧ y ≤ m + 12 ∧ j = n)) : bm_gi (md_nd w m n k a b x i p) y j = bm_gi w y j := by
  unfold md_nd
  simp only [bm_si_gi]
  repeat rw [if_neg (by omega)]
theorem mf.node {n : Nat} {k a b x i p : Int} (h : mf m F c w w') (hn : bm_gi w' m 11 = (n : Int)) : mf m F c w (md_nd w' m n k a b x i p) := by
  have h5 := h.2.2.2.2
  have hm : q_fr (fun a => a = m ∨ (m + 7 ≤ a ∧ a ≤ m + 12) ∨ a = m + 20) w' (md_nd w' m n k a b x i p) := by
    unfold md_nd
    exact (((((((q_fr.rf.si (by omega)).si (by omega)).si (by omega)).si (by omega)).si (by omega)).si (by omega)).si (by omega)).si (by omega)
  refine ⟨h.1.fr hm, fun j q r s t => (nd_ne (by omega) (by omega)).trans (h.2.1 j q r s t), fun j q => (nd_ne (by omega) (by omega)).trans (h.2.2.1 j q), fun y j q r s => (nd_ne (by omega) (by omega)).trans (h.2.2.2.1 y j q r s), ?_⟩
  rw [nd_at.2.2.2.2.2.2.2]
  omega
end MF
section QN
variable {m F c : Nat} {E : q_E} {w w' : bm_W}
theorem qn.fr {i : Int} {D : q_D} {dp : Nat} (h : qn m F E w i D dp) (hf : mf m F c w w') : qn m F E w' i D dp := by
  obtain ⟨x, h1, h2, h3, h4⟩ := h
  exact ⟨x, h1, by have := hf.2.2.2.2; omega, h3, fun w0 hb hc => h4 w0 (fun a j a1 a2 hj => (hb a j a1 a2 hj).trans (hf.2.2.2.1 a j a1 a2 (by omega))) hc⟩
theorem qn.mo {i : Int} {D : q_D} {dp dp' : Nat} (h : qn m F E w i D dp) (hd : dp ≤ dp') : qn m F E w i D dp' := by
  obtain ⟨x, h1, h2, h3, h4⟩ := h
  exact ⟨x, h1, h2, h3, fun w0 hb hc => (h4 w0 hb hc).mo (by omega)⟩
theorem qn_num {n : Nat} {v q a b x : Int} (h15 : n < 1500) (hv : 0 ≤ v ∧ v ≤ 9999) : qn m F E (md_nd w m n 0 a b x v q) (n : Int) (d_num v q) 1 := by
  obtain ⟨e1, e2, e3, e4, e5, e6, e7, e8⟩ := nd_at (m := m) (w := w) (n := n) (k := 0) (a := a) (b := b) (x := x) (i := v) (p := q)
  refine ⟨n, rfl, by rw [e8]; omega, h15, fun w0 hb hc => ?_⟩
  have g7 := (hb (m + 7) n (by omega) (by omega) (Nat.lt_succ_self _)).trans e1
  have g11 := (hb (m + 11) n (by omega) (by omega) (Nat.lt_succ_self _)).trans e5
  have g12 := (hb (m + 12) n (by omega) (by omega) (Nat.lt_succ_self _)).trans e6
  have := nd_num hc.1 h15 g7 (by rw [g11]; exact hv)
  rw [g11, g12] at this
  exact this.mo (by omega)
theorem qn_in {n j : Nat} {a b x q : Int} (h15 : n < 1500) (hj : j < 3) : qn m F E (md_nd w m n 1 a b x (j : Int) q) (n : Int) (d_in j) 1 := by
  obtain ⟨e1, e2, e3, e4, e5, e6, e7, e8⟩ := nd_at (m := m) (w := w) (n := n) (k := 1) (a := a) (b := b) (x := x) (i := (j : Int)) (p := q)
  refine ⟨n, rfl, by rw [e8]; omega, h15, fun w0 hb hc => ?_⟩
  have g7 := (hb (m + 7) n (by omega) (by omega) (Nat.lt_succ_self _)).trans e1
  have g11 := (hb (m + 11) n (by omega) (by omega) (Nat.lt_succ_self _)).trans e5
  exact (nd_in hc.1 h15 g7 g11 hj).mo (by omega)
/-- what is kept of nodes told ahead -/
theorem qn.at {i : Int} {D : q_D} {dp n : Nat} {w0 w1 : bm_W} (h : qn m F E w i D dp) (hn : bm_gi w m 11 = (n : Int)) (h1 : nb m n w w1) (hb : nb m (n + 1) w1 w0) (hc : nc m F E w0) : q_node m w0 i D (200 * F + dp) := by
  obtain ⟨x, a1, a2, a3, a4⟩ := h
  exact a4 w0 (fun a j b1 b2 b3 => (hb a j b1 b2 (by omega)).trans (h1 a j b1 b2 (by omega))) hc
theorem nd_nb {n : Nat} {k a b x i p : Int} : nb m n w (md_nd w m n k a b x i p) := fun y j h1 h2 h3 => nd_ne (by omega) (by omega)
theorem qn_un {n dp : Nat} {k a b x i p : Int} {D : q_D} (hn : bm_gi w m 11 = (n : Int)) (h15 : n < 1500) (h : qn m F E w a D dp) (hk : k = 3 ∨ k = 4) : qn m F E (md_nd w m n k a b x i p) (n : Int) (d_un (if k = 3 then 36 else 11) D) (dp + 2) := by
  obtain ⟨e1, e2, e3, e4, e5, e6, e7, e8⟩ := nd_at (m := m) (w := w) (n := n) (k := k) (a := a) (b := b) (x := x) (i := i) (p := p)
  refine ⟨n, rfl, by rw [e8]; omega, h15, fun w0 hb hc => ?_⟩
  have g7 := (hb (m + 7) n (by omega) (by omega) (Nat.lt_succ_self _)).trans e1
  have g8 := (hb (m + 8) n (by omega) (by omega) (Nat.lt_succ_self _)).trans e2
  have := nd_un hc.1 h15 (by rw [g7]; exact hk) g8 (h.at hn nd_nb hb hc)
  rw [g7] at this
  exact this
theorem qn_bin {n dp : Nat} {a b x i p : Int} {D T : q_D} (hn : bm_gi w m 11 = (n : Int)) (h15 : n < 1500) (h : qn m F E w a D dp) (h2 : qn m F E w b T dp) (hi : 0 ≤ i ∧ i ≤ 12) : qn m F E (md_nd w m n 5 a b x i p) (n : Int) (if i = 0 ∨ i = 1 then d_lo (t_op i) p D T else d_bin (t_op i) p D T) (dp + 3) := by
  obtain ⟨e1, e2, e3, e4, e5, e6, e7, e8⟩ := nd_at (m := m) (w := w) (n := n) (k := 5) (a := a) (b := b) (x := x) (i := i) (p := p)
  refine ⟨n, rfl, by rw [e8]; omega, h15, fun w0 hb hc => ?_⟩
  have g7 := (hb (m + 7) n (by omega) (by omega) (Nat.lt_succ_self _)).trans e1
  have g8 := (hb (m + 8) n (by omega) (by omega) (Nat.lt_succ_self _)).trans e2
  have g9 := (hb (m + 9) n (by omega) (by omega) (Nat.lt_succ_self _)).trans e3
  have g11 := (hb (m + 11) n (by omega) (by omega) (Nat.lt_succ_self _)).trans e5
  have g12 := (hb (m + 12) n (by omega) (by omega) (Nat.lt_succ_self _)).trans e6
  by_cases c : i = 0 ∨ i = 1
  · rw [if_pos c]
    have := nd_lo hc.1 h15 g7 (by rw [g11]; exact c) g8 g9 (h.at hn nd_nb hb hc) (h2.at hn nd_nb hb hc)
    rw [g11, g12] at this
    have e : (if i = 0 then (10 : Int) else 9) = t_op i := by unfold t_op; rcases c with rfl | rfl <;> rfl
    rw [e] at this
    exact this
  · rw [if_neg c]
    have := nd_bin hc.1 h15 g7 (by rw [g11]; omega) g8 g9 (h.at hn nd_nb hb hc) (h2.at hn nd_nb hb hc)
    rw [g11, g12] at this
    have e : i + 20 = t_op i := by unfold t_op; rw [if_neg (fun z => c (Or.inl z)), if_neg (fun z => c (Or.inr z))]
    rw [e] at this
    exact this
theorem qn_if {n dp j : Nat} {a b x p : Int} {D T U : q_D} (hn : bm_gi w m 11 = (n : Int)) (h15 : n < 1500) (h : qn m F E w a D dp) (h2 : qn m F E w b T dp) (h3 : qn m F E w x U dp) (hj : j < 54) : qn m F E (md_nd w m n 6 a b x (j : Int) p) (n : Int) (d_if (j : Int) p D T U) (dp + 3) := by
  obtain ⟨e1, e2, e3, e4, e5, e6, e7, e8⟩ := nd_at (m := m) (w := w) (n := n) (k := 6) (a := a) (b := b) (x := x) (i := (j : Int)) (p := p)
  refine ⟨n, rfl, by rw [e8]; omega, h15, fun w0 hb hc => ?_⟩
  have g7 := (hb (m + 7) n (by omega) (by omega) (Nat.lt_succ_self _)).trans e1
  have g8 := (hb (m + 8) n (by omega) (by omega) (Nat.lt_succ_self _)).trans e2
  have g9 := (hb (m + 9) n (by omega) (by omega) (Nat.lt_succ_self _)).trans e3
  have g10 := (hb (m + 10) n (by omega) (by omega) (Nat.lt_succ_self _)).trans e4
  have g11 := (hb (m + 11) n (by omega) (by omega) (Nat.lt_succ_self _)).trans e5
  have g12 := (hb (m + 12) n (by omega) (by omega) (Nat.lt_succ_self _)).trans e6
  have := nd_if hc.1 h15 g7 g11 hj g8 g9 g10 (h.at hn nd_nb hb hc) (h2.at hn nd_nb hb hc) (h3.at hn nd_nb hb hc)
  rw [g12] at this
  exact this
/-- calls of one, two, three arguments -/
theorem qn_call {n dp g : Nat} {a b x p : Int} {Ds : List q_D} (hn : bm_gi w m 11 = (n : Int)) (h15 : n < 1500) (hg : g < F) (hF : F ≤ 6) (hl : Ds.length = E.2.2.1 (g : Int)) (hl2 : 1 ≤ Ds.length ∧ Ds.length ≤ 3) (h : ∀ j, j < Ds.length → qn m F E w (if j = 0 then a else if j = 1 then b else x) (Ds.getD j (d_num 0 0)) dp) : qn m F E (md_nd w m n 2 a b x (g : Int) p) (n : Int) (d_call (E.2.2.2.2 (g : Int)) Ds) (dp + 2) := by
  obtain ⟨e1, e2, e3, e4, e5, e6, e7, e8⟩ := nd_at (m := m) (w := w) (n := n) (k := 2) (a := a) (b := b) (x := x) (i := (g : Int)) (p := p)
  refine ⟨n, rfl, by rw [e8]; omega, h15, fun w0 hb hc => ?_⟩
  have g7 := (hb (m + 7) n (by omega) (by omega) (Nat.lt_succ_self _)).trans e1
  have g8 := (hb (m + 8) n (by omega) (by omega) (Nat.lt_succ_self _)).trans e2
  have g9 := (hb (m + 9) n (by omega) (by omega) (Nat.lt_succ_self _)).trans e3
  have g10 := (hb (m + 10) n (by omega) (by omega) (Nat.lt_succ_self _)).trans e4
  have g11 := (hb (m + 11) n (by omega) (by omega) (Nat.lt_succ_self _)).trans e5
  obtain ⟨f1, f2⟩ := hc.2 g hg
  have f3 := f2.mo (dp' := 200 * F + dp) (by omega)
  match Ds, hl, hl2, h with
  | [D], hl, hl2, h =>
    exact nd_call1 hc.1 h15 g7 g11 (by omega) (by rw [f1, ← hl]; rfl) rfl g8 ((h 0 (by simp)).at hn nd_nb hb hc) f3
  | [D, T], hl, hl2, h =>
    exact nd_call2 hc.1 h15 g7 g11 (by omega) (by rw [f1, ← hl]; rfl) rfl g8 g9 ((h 0 (by simp)).at hn nd_nb hb hc) ((h 1 (by simp)).at hn nd_nb hb hc) f3
  | [D, T, U], hl, hl2, h =>
    exact nd_call3 hc.1 h15 g7 g11 (by omega) (by rw [f1, ← hl]; rfl) rfl g8 g9 g10 ((h 0 (by simp)).at hn nd_nb hb hc) ((h 1 (by simp)).at hn nd_nb hb hc) ((h 2 (by simp)).at hn nd_nb hb hc) f3
  | [], _, hl2, _ => exact absurd hl2.1 (by decide)
  | _ :: _ :: _ :: _ :: _, _, hl2, _ => simp at hl2
end QN

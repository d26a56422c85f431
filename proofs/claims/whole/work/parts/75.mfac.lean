/-! ===== the model's meaning: from the start of a part to where it stands ===== -/
/-- from world wb at token pb to world w at token p: sizes zb were added, s tokens gave no node -/
def mr (m N F : Nat) (wb w : bm_W) (pb p zb s : Nat) : Prop := mf m F (p - pb) wb w ∧ bm_gi w m 9 = (p : Int) ∧ bm_gi w m 11 + (s : Int) ≤ bm_gi wb m 11 + ((p - pb : Nat) : Int) ∧ bm_gi w (m + 20) F = bm_gi wb (m + 20) F + (zb : Int) ∧ zb + 200 * s ≤ 200 * (p - pb) ∧ pb ≤ p ∧ p ≤ N ∧ bm_gi w m 3 = bm_gi wb m 3
section MR
variable {m N L fst til F k : Nat} {B : Int → Int} {E : q_E} {P I : Nat → Nat} {wb w w' : bm_W} {pb p zb s : Nat}
theorem mr.rf (h : mz m N fst til F k B E P I w p) : mr m N F w w p p 0 0 := ⟨mf.rf.mo (Nat.zero_le _), h.2.1.1, by omega, by omega, by omega, Nat.le_refl _, h.2.1.2.1, rfl⟩
theorem mr.z (hb : mz m N fst til F k B E P I wb pb) (h : mr m N F wb w pb p zb s) : mz m N fst til F k B E P I w p := by
  obtain ⟨h1, h2, h3, h4, h5, h6, h7, h8⟩ := h
  have := hb.2.2.2.2.2
  exact hb.mv h1 h2 h7 h6 (by omega) ⟨by omega, by omega⟩
theorem mr.adv (hb : mz m N fst til F k B E P I wb pb) (h : mr m N F wb w pb p zb s) (hN : p + 1 ≤ N) : mr m N F wb (bm_si w m 9 ((p : Int) + 1)) pb (p + 1) zb (s + 1) := by
  obtain ⟨h1, h2, h3, h4, h5, h6, h7, h8⟩ := h
  exact ⟨(h1.mo (by omega)).fld (Or.inr (Or.inl rfl)), by rw [q_gi_eq]; omega, by rw [q_gi_nk (by decide)]; omega, by rw [q_gi_ne (by omega)]; exact h4, by omega, by omega, hN, (q_gi_nk (by decide)).trans h8⟩
theorem mr.ar {a j : Nat} {v : Int} (hb : mz m N fst til F k B E P I wb pb) (h : mr m N F wb w pb p zb s) (ha : bm_sz wb ≤ a) : mr m N F wb (bm_si w a j v) pb p zb s := by
  obtain ⟨h1, h2, h3, h4, h5, h6, h7, h8⟩ := h
  have hm := hb.1.2.1
  exact ⟨h1.arr ha hm, by rw [q_gi_ne (by omega)]; exact h2, by rw [q_gi_ne (by omega)]; exact h3, by rw [q_gi_ne (by omega)]; exact h4, h5, h6, h7, by rw [q_gi_ne (by omega)]; exact h8⟩
theorem mr.on {q z dp : Nat} {l : List q_D} {x : Int} (h : mr m N F wb w pb p zb s) (ho : mo m F B E (.inr (l, z)) p q dp x w w') (hp : p ≤ q) (hN : q ≤ N) : mr m N F wb w' pb q (zb + z) s ∧ qn m F E w' (bm_gi w' m 40) (m_hd l) dp := by
  obtain ⟨h1, h2, h3, h4, h5, h6, h7, h8⟩ := h
  obtain ⟨g0, g1, g2, g3, g4, g5, g6, g7⟩ := ho
  exact ⟨⟨(h1.tr g0).mo (by omega), g2, by omega, by rw [g4, h4]; omega, by omega, by omega, hN, g7.trans h8⟩, g6⟩
theorem mr.er {q q2 dp dp' : Nat} {e : Int × Nat} {x : Int} (h : mr m N F wb w pb p zb s) (ho : mo m F B E (.inl e) p q dp x w w') (hp : p ≤ q) (hq : q ≤ q2) : mo m F B E (.inl e) pb q2 dp' x wb w' := by
  obtain ⟨h1, h2, h3, h4, h5, h6, h7, h8⟩ := h
  exact ⟨(h1.tr ho.1).mo (by omega), ho.2⟩
theorem mr.wr {q dp x : Nat} {e : Int} {ww : bm_W} (hb : mz m N fst til F k B E P I wb pb) (h : mr m N F wb w pb p zb s) (he : e ≠ 0) (hx : x ≤ N) (hp : p ≤ q) (hw : ww = bm_si w m 3 (bm_gi w (m + 3) x)) : mo m F B E (.inl (e, x)) pb q dp e wb ww := by
  subst hw
  have tb := (h.z hb).1.1.2.1 x (by omega)
  obtain ⟨h1, h2, h3, h4, h5, h6, h7, h8⟩ := h
  exact ⟨(h1.mo (by omega)).fld (Or.inl rfl), rfl, he, q_gi_eq.trans tb.2.1⟩
theorem mr.nn (hb : mz m N fst til F k B E P I wb pb) (h : mr m N F wb w pb p zb s) (hs : 0 < s) : ∃ n : Nat, bm_gi w m 11 = (n : Int) ∧ n < 1500 ∧ n + 1 ≤ p := by
  have z := h.z hb
  obtain ⟨n0, a1, a2⟩ := hb.2.1.2.2.2
  obtain ⟨n, b1, b2⟩ := z.2.1.2.2.2
  have hN := z.1.1.2.2.1
  obtain ⟨h1, h2, h3, h4, h5, h6, h7, h8⟩ := h
  exact ⟨n, b1, by omega, by omega⟩
theorem mr.nd {n dp : Nat} {k' a b x i pl : Int} {D : q_D} (h : mr m N F wb w pb p zb s) (hs : 0 < s) (hn : bm_gi w m 11 = (n : Int)) (hm : m + 31 < bm_sz wb) (hF : F < 6) (Q : qn m F E (md_nd w m n k' a b x i pl) (n : Int) D dp) : mo m F B E (.inr ([D], zb)) pb p dp 0 wb (md_nd w m n k' a b x i pl) := by
  obtain ⟨h1, h2, h3, h4, h5, h6, h7, h8⟩ := h
  have ndq := nd_at (m := m) (w := w) (n := n) (k := k') (a := a) (b := b) (x := x) (i := i) (p := pl)
  refine ⟨h1.node hn, rfl, (nd_ne (by omega) (by omega)).trans h2, ?_, ?_, by omega, ?_, (nd_ne (by omega) (by omega)).trans h8⟩
  · rw [ndq.2.2.2.2.2.2.2]; omega
  · rw [nd_ne (by omega) (by omega)]; exact h4
  · rw [ndq.2.2.2.2.2.2.1]; exact Q
end MR
section MM
variable {m N L fst til F k : Nat} {B : Int → Int} {E : q_E} {P I : Nat → Nat}
theorem mm_inp {d p : Nat} {wb w : bm_W} {Φ : bm_Rt → bm_W → Prop} (hE : he E F k) (hb : mz m N fst til F k B E P I wb p) (h : mr m N F wb w p (p + 1) 0 1) (hk : t_K B p = 3)
    (hq : ∀ x w', mo m F B E (if E.1 (t_V B p) < 0 then .inl (2, p) else .inr ([d_in (E.1 (t_V B p)).toNat], 0)) p (p + 1) 4 x wb w' → Φ (.inl (some (bm_i x))) w') : bm_Call bm_pg (d + 6) y_X12_inputNamed [bm_r (some m), bm_i (p : Int)] w Φ := by
  have z := h.z hb
  have Z := z.1.1
  have hF := z.1.2.2.2.1
  have e18 := z.1.2.2.1
  have ek := z.1.2.2.2.2.1
  have k3 := z.1.2.2.2.2.2
  have hN := h.2.2.2.2.2.2.1
  have hN5 := Z.2.2.1
  have hf := (z.2.2.2.1 p (by omega) hk).1
  have hr := hE.1 (t_V B p)
  refine vc_X12_inputNamed ?_
  simp only [bm_c0_v, bm_c1_v, bm_c2_v, bm_c3_v, bm_c4_v, bm_c5_v, bm_u_some, decide_eq_true_eq, true_and, and_true, and_self, Bool.not_eq_true, Bool.not_eq_true', decide_eq_false_iff_not, if_true, if_false, ite_true, ite_false, eq_self, Z.1.1.1, Z.1.1.g20, Z.1.1.t20, Z.1.1.n20, Z.1.1.g21, Z.1.1.t21, Z.1.1.n21, e18, bm_in, Int.toNat_natCast, ek, mp_nameOf Z (show p ≤ N by omega) (show 3 ≤ t_K B p ∧ t_K B p ≤ 15 by omega)]
  refine ⟨by omega, ?_⟩
  have e3 : (3 : Int) * (F : Int) = ((3 * F : Nat) : Int) := by omega
  rw [q_wI ⟨by omega, by omega⟩, e3, mp_find (Z.1.1.t21) (by rw [Z.1.1.n21]; omega) (by rw [Z.1.1.n21]; decide), hf, bm_c1_v]
  by_cases c : E.1 (t_V B p) < 0
  · have e1 : E.1 (t_V B p) = -1 := by omega
    rw [e1] at hq ⊢
    rw [if_neg (by decide)]
    simp only [bm_c0_v, bm_c1_v, bm_c2_v, bm_c3_v, bm_c4_v, bm_c5_v, bm_u_some, decide_eq_true_eq, true_and, and_true, and_self, Bool.not_eq_true, Bool.not_eq_true', decide_eq_false_iff_not, if_true, if_false, ite_true, ite_false, eq_self, Z.1.1.1, mp_wrong Z.1.1 (show p < 1501 by omega)]
    rw [if_pos (by decide)] at hq
    exact hq _ _ (h.wr hb (by decide) (by omega) (Nat.le_refl _) rfl)
  · rw [if_neg c] at hq
    rw [if_pos (by omega)]
    obtain ⟨n, n1, n2, n3⟩ := h.nn hb (by decide)
    simp only [bm_c0_v, bm_c1_v, bm_c2_v, bm_c3_v, bm_c4_v, bm_c5_v, bm_u_some, decide_eq_true_eq, true_and, and_true, and_self, Bool.not_eq_true, Bool.not_eq_true', decide_eq_false_iff_not, if_true, if_false, ite_true, ite_false, eq_self, Z.1.1.1, mp_node Z.1.1 n1 n2]
    have e : E.1 (t_V B p) = (((E.1 (t_V B p)).toNat : Nat) : Int) := by omega
    have Q := qn_in (m := m) (F := F) (E := E) (w := w) (n := n) (j := (E.1 (t_V B p)).toNat) (a := -1) (b := -1) (x := -1) (q := -1) n2 (by omega)
    rw [← e] at Q
    have hm := hb.1.2.1
    exact hq _ _ (h.nd (by decide) n1 hm hF (Q.mo (by decide)))
end MM

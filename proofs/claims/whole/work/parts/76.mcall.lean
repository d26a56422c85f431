/-! ===== the model's meaning: calls ===== -/
theorem m_bind_add {r : q_M} {R : List q_D → q_M} {f : List q_D → Nat → q_M} : m_bind (m_bind r fun l z => m_add z (R l)) f = m_bind r fun l z => m_bind (R l) fun l2 z2 => f l2 (z + z2) := by
  cases r with
  | inl e => rfl
  | inr y =>
    obtain ⟨l, z⟩ := y
    simp only [m_bind]
    cases R l with
    | inl e => rfl
    | inr y => rfl
theorem qn.ar {m F : Nat} {E : q_E} {w : bm_W} {i v : Int} {D : q_D} {dp a j : Nat} (h : qn m F E w i D dp) (ha : m + 31 < a) : qn m F E (bm_si w a j v) i D dp := by
  obtain ⟨x, h1, h2, h3, h4⟩ := h
  exact ⟨x, h1, by rw [q_gi_ne (by omega)]; exact h2, h3, fun w0 hb hc => h4 w0 (fun y j' a1 a2 hj => (hb y j' a1 a2 hj).trans (q_gi_ne (by omega))) hc⟩
theorem q_gd1 {l : List q_D} {x D : q_D} {i : Nat} (h : i < l.length) : (l ++ [x]).getD i D = l.getD i D := by
  rw [List.getD_eq_getElem?_getD, List.getD_eq_getElem?_getD, List.getElem?_append_left h]
theorem q_gd2 {l : List q_D} {x D : q_D} {i : Nat} (h : i = l.length) : (l ++ [x]).getD i D = x := by
  subst h
  rw [List.getD_eq_getElem?_getD, List.getElem?_append_right (Nat.le_refl _), Nat.sub_self]
  rfl
theorem mr.szs {m N F pb p zb s z0 : Nat} {wb w : bm_W} (h : mr m N F wb w pb p zb (s + 1)) (hz : z0 ≤ 200) : mr m N F wb (bm_si w (m + 20) F (bm_gi w (m + 20) F + (z0 : Int))) pb p (zb + z0) s := by
  obtain ⟨h1, h2, h3, h4, h5, h6, h7, h8⟩ := h
  exact ⟨h1.siz, by rw [q_gi_ne (by omega)]; exact h2, by rw [q_gi_ne (by omega)]; omega, by rw [q_gi_eq]; omega, by omega, h6, h7, (q_gi_ne (by omega)).trans h8⟩
/-- what is kept of a call's arguments -/
def ak (m F a : Nat) (E : q_E) (wb w : bm_W) (acc : List q_D) (dp : Nat) : Prop := (bm_sz wb ≤ a ∧ a < bm_sz w ∧ bm_kt w a = 21 ∧ bm_kn w a = 3) ∧ ∀ i, i < acc.length → i < 3 → qn m F E w (bm_gi w a i) (acc.getD i (d_num 0 0)) dp
/-- the rest of a call's arguments -/
def mcA (m N L fst til F k : Nat) (B : Int → Int) (E : q_E) (P I : Nat → Nat) (n : Nat) : Prop := ∀ (d depth p q x a j g zb s : Nat) (wb w : bm_W) (Φ : bm_Rt → bm_W → Prop) (acc : List q_D), mz m N fst til F k B E P I wb x → mr m N F wb w x p zb s → 2 ≤ s → p ≤ L → f_ex (t_K B) L n 12 depth (false, p) = (false, q) → q ≤ til → 8 * (L + 1 - p) + 8 ≤ n → 3 * n + 20 ≤ d → g < F → acc.length = j + 1 → j + 1 ≤ p → ak m F a E wb w acc (4 * (p - x)) → (∀ y w', mo m F B E (m_bind (m_ex (t_K B) (t_V B) L P I E n 12 depth p acc) fun l2 z2 => if l2.length = E.2.2.1 (g : Int) then .inr ([d_call (E.2.2.2.2 (g : Int)) l2], zb + z2 + E.2.2.2.1 (g : Int)) else .inl (6, x)) x q (4 * (q - x)) y wb w' → Φ (.inl (some (bm_i y))) w') → bk_X12_call_87 d Φ m (x : Int) (g : Int) a (j : Int) w
section MM
variable {m N L fst til F k : Nat} {B : Int → Int} {E : q_E} {P I : Nat → Nat}
theorem mm_49 {n : Nat} (hX : mcE m N L fst til F k B E P I n) (hA : mcA m N L fst til F k B E P I n) {d depth p q q1 x a j g zb s : Nat} {wb w : bm_W} {Φ : bm_Rt → bm_W → Prop} {acc : List q_D} (hb : mz m N fst til F k B E P I wb x) (h : mr m N F wb w x p zb s) (hs : 1 ≤ s) (hk : t_K B p ≠ 0) (hp : p < L) (e1 : f_ex (t_K B) L n 6 depth (false, p + 1) = (false, q1)) (e2 : f_ex (t_K B) L n 12 depth (false, q1) = (false, q)) (htl : q ≤ til) (hn : 8 * (L - p) + 8 ≤ n) (hd : 3 * n + 20 ≤ d) (hg : g < F) (hj : acc.length = j) (hjp : j ≤ p) (ha : ak m F a E wb w acc (4 * (p - x)))
    (hq : ∀ y w', mo m F B E (m_bind (m_ex (t_K B) (t_V B) L P I E n 6 depth (p + 1) []) fun l z => m_bind (m_ex (t_K B) (t_V B) L P I E n 12 depth q1 (acc ++ [m_hd l])) fun l2 z2 => if l2.length = E.2.2.1 (g : Int) then .inr ([d_call (E.2.2.2.2 (g : Int)) l2], zb + (z + z2) + E.2.2.2.1 (g : Int)) else .inl (6, x)) x q (4 * (q - x)) y wb w' → Φ (.inl (some (bm_i y))) w') : bk_X12_call_49 d Φ m (x : Int) (g : Int) a (j : Int) w := by
  have z := h.z hb
  have hpN := h.2.2.2.2.2.2.1
  have hxp := h.2.2.2.2.2.1
  have hN1 := z.lt hpN hk
  have h1 := h.adv hb hN1
  have z1 := h1.z hb
  have hm := hb.1.2.1
  obtain ⟨n', rfl⟩ : ∃ n', n = n' + 1 := ⟨n - 1, by omega⟩
  have e12 := f_12_inv e2
  have hfo : f_fo (t_K B) L 6 q1 := ⟨fun y => by omega, fun _ y => by rcases e12.2 with v | v <;> omega⟩
  have r1 := z1.rg (by omega) hN1 hp e1
  have r1' := r1.2.2.2 (by omega)
  have r2 := z1.rg (by omega) r1.2.1 r1.2.2.1 e2
  have hN5 := z.1.1.2.2.1
  obtain ⟨⟨a1, a2, a3, a4⟩, a5⟩ := ha
  refine vb_X12_call_49 ?_
  have kt := z.1.1.1.1.1
  have kt1 := z1.1.1.1.1.1
  simp only [bm_c0_v, bm_c1_v, bm_c2_v, bm_c3_v, bm_c4_v, bm_c5_v, bm_u_some, decide_eq_true_eq, true_and, and_true, and_self, Bool.not_eq_true, Bool.not_eq_true', decide_eq_false_iff_not, if_true, if_false, ite_true, ite_false, eq_self, kt, h.2.1]
  rw [q_wI (x := (p : Int) + 1) ⟨by omega, by omega⟩]
  refine ⟨kt1, hX d depth (p + 1) q1 _ _ z1 hp e1 (by omega) hfo (by rw [if_pos rfl]; omega) (by omega) (fun y w5 h5 => ?_)⟩
  rw [bm_c1_v]
  by_cases y0 : y = 0
  · subst y0
    rw [if_pos rfl]
    obtain ⟨-, l, zz, hr⟩ := mo_mz z1 h5 rfl r1.2.1 r1.1
    rw [hr] at h5 hq
    simp only [m_bind] at hq
    obtain ⟨h6, Q6⟩ := h1.on h5 r1.1 r1.2.1
    have fw : mf m F (0 + (q1 - (p + 1))) w w5 := (mf.rf.fld (Or.inr (Or.inl rfl))).tr h5.1
    have z6 := h6.z hb
    have sz5 : bm_sz w ≤ bm_sz w5 := fw.1.1.1
    have kt5 : bm_kt w5 a = 21 := (fw.1.kt a2).trans a3
    have kn5 : bm_kn w5 a = 3 := (fw.1.kn a2).trans a4
    have gi5 : ∀ i, bm_gi w5 a i = bm_gi w a i := fun i => fw.1.gi a2 (by omega)
    have len : (acc ++ [m_hd l]).length = j + 1 := by rw [List.length_append, hj]; rfl
    have fin : ∀ w7, mr m N F wb w7 x q1 (zb + zz) (s + 1) → ak m F a E wb w7 (acc ++ [m_hd l]) (4 * (q1 - x)) → bk_X12_call_87 d Φ m (x : Int) (g : Int) a (j : Int) w7 := by
      intro w7 h7 k7
      refine hA d depth q1 q x a j g (zb + zz) (s + 1) wb w7 Φ (acc ++ [m_hd l]) hb h7 (by omega) r1.2.2.1 e2 htl (by omega) (by omega) hg len (by omega) k7 (fun y w' hy => hq y w' ?_)
      simp only [Nat.add_assoc] at hy ⊢
      exact hy
    by_cases c3 : 3 ≤ (j : Int)
    · rw [if_pos c3]
      refine fin w5 h6 ⟨⟨a1, by omega, kt5, kn5⟩, fun i hi i3 => ?_⟩
      rw [gi5, q_gd1 (by omega)]
      exact ((a5 i (by omega) i3).fr fw).mo (by omega)
    · rw [if_neg c3]
      refine ⟨z6.1.1.1.1.1, ⟨kt5, by rw [kn5]; exact ⟨by omega, by omega⟩⟩, ?_⟩
      rw [Int.toNat_natCast]
      have h7 := h6.ar (a := a) (j := j) (v := bm_gi w5 m 40) hb a1
      refine fin _ h7 ⟨⟨a1, by show a < bm_sz w5; omega, kt5, kn5⟩, fun i hi i3 => ?_⟩
      rw [len] at hi
      by_cases ij : i = j
      · subst ij
        rw [q_gi_eq, q_gd2 hj.symm]
        exact (Q6.ar (by omega)).mo (by omega)
      · rw [q_gi_nk ij, gi5, q_gd1 (by omega)]
        exact (((a5 i (by omega) i3).fr fw).ar (by omega)).mo (by omega)
  · rw [if_neg y0]
    obtain ⟨e, hr, y1, y2, y3⟩ := mo_er h5 y0
    rw [hr] at hq h5
    exact hq y w5 (h1.er h5 r1.1 r2.1)
theorem mm_arg {n : Nat} (hE : he E F k) (hI : ∀ g : Nat, g < F → 1 ≤ E.2.2.1 (g : Int) ∧ E.2.2.1 (g : Int) ≤ 3) (hX : mcE m N L fst til F k B E P I n) (hA : mcA m N L fst til F k B E P I n) : mcA m N L fst til F k B E P I (n + 1) := by
  intro d depth p q x a j g zb s wb w Φ acc hb h hs hpL hok htl hn hdd hg hj hjp ha hq
  obtain ⟨d, rfl⟩ : ∃ d', d = d' + 6 := ⟨d - 6, by omega⟩
  have z := h.z hb
  have Z := z.1.1
  have hpN := h.2.2.2.2.2.2.1
  have hxp := h.2.2.2.2.2.1
  have hm := hb.1.2.1
  have hN5 := Z.2.2.1
  have kc12 : t_kc 12 = 18 := rfl
  refine vb_X12_call_87 ?_
  simp only [bm_c0_v, bm_c1_v, bm_c2_v, bm_c3_v, bm_c4_v, bm_c5_v, bm_u_some, decide_eq_true_eq, true_and, and_true, and_self, Bool.not_eq_true, Bool.not_eq_true', decide_eq_false_iff_not, if_true, if_false, ite_true, ite_false, eq_self, Z.1.1.1, mp_sees Z h.2.1 hpN (show 1 ≤ 12 by decide) (show 12 < 31 by decide), kc12]
  obtain ⟨pL, hc⟩ := f_12_inv hok
  rcases hc with ⟨k18, q1, e1, e2⟩ | ⟨k17, eq⟩
  · rw [if_pos k18, if_pos (by decide)]
    rw [m_12_more pL k18 e1, m_bind_add] at hq
    rw [q_wI (x := (j : Int) + 1) ⟨by omega, by omega⟩, show (j : Int) + 1 = ((j + 1 : Nat) : Int) by omega]
    refine mm_49 hX hA hb h (by omega) (by omega) pL e1 e2 htl (by omega) (by omega) hg hj hjp ha (fun y w' hy => hq y w' ?_)
    simp only [Nat.add_assoc] at hy ⊢
    exact hy
  · subst eq
    rw [if_neg (by omega)]
    rw [m_12_end k17] at hq
    simp only [m_bind] at hq
    have hN1 := z.lt hpN (by omega)
    have h1 := h.adv hb hN1
    have z1 := h1.z hb
    rw [h.2.1, q_wI (x := (p : Int) + 1) ⟨by omega, by omega⟩, q_wI (x := (j : Int) + 1) ⟨by omega, by omega⟩]
    obtain ⟨⟨a1, a2, a3, a4⟩, a5⟩ := ha
    have kt1 : bm_kt (bm_si w m 9 ((p : Int) + 1)) a = 21 := a3
    have kn1 : bm_kn (bm_si w m 9 ((p : Int) + 1)) a = 3 := a4
    have f1 : mf m F 0 w (bm_si w m 9 ((p : Int) + 1)) := mf.rf.fld (Or.inr (Or.inl rfl))
    have gi1 : ∀ i, bm_gi (bm_si w m 9 ((p : Int) + 1)) a i = bm_gi w a i := fun i => q_gi_ne (by omega)
    generalize bm_si w m 9 ((p : Int) + 1) = w1 at h1 z1 kt1 kn1 f1 gi1 ⊢
    have Z1 := z1.1.1
    have e14 := (z1.2.2.2.2.1 g hg).1
    have e20 := (z1.2.2.2.2.1 g hg).2
    have sg := hE.2.2 (g : Int) (by omega) (by omega)
    have s20 := z1.2.2.2.2.2
    have e18 := z1.1.2.2.1
    have hF6 := z1.1.2.2.2.1
    have hE1 := hI g hg
    simp only [bm_c0_v, bm_c1_v, bm_c2_v, bm_c3_v, bm_c4_v, bm_c5_v, bm_u_some, decide_eq_true_eq, true_and, and_true, and_self, Bool.not_eq_true, Bool.not_eq_true', decide_eq_false_iff_not, if_true, if_false, ite_true, ite_false, eq_self, Z1.1.1.1, Z1.1.1.g20, Z1.1.1.t20, Z1.1.1.n20, Z1.1.1.g26, Z1.1.1.t26, Z1.1.1.n26, bm_in, Int.toNat_natCast, e14, e18]
    refine ⟨by omega, ?_⟩
    by_cases c : (j : Int) + 1 = (E.2.2.1 (g : Int) : Int)
    · rw [if_pos c]
      rw [if_pos (show acc.length = E.2.2.1 (g : Int) by omega)] at hq
      have e20' : bm_gi w1 (m + 20) g = ((E.2.2.2.1 (g : Int)) : Int) := e20
      rw [e20', q_wI ⟨by omega, by omega⟩]
      have h2 := h1.szs (z0 := E.2.2.2.1 (g : Int)) (by omega)
      have f2 : mf m F 0 w1 (bm_si w1 (m + 20) F (bm_gi w1 (m + 20) F + (E.2.2.2.1 (g : Int) : Int))) := mf.rf.siz
      have kt2 : bm_kt (bm_si w1 (m + 20) F (bm_gi w1 (m + 20) F + (E.2.2.2.1 (g : Int) : Int))) a = 21 := kt1
      have kn2 : bm_kn (bm_si w1 (m + 20) F (bm_gi w1 (m + 20) F + (E.2.2.2.1 (g : Int) : Int))) a = 3 := kn1
      have gi2 : ∀ i, bm_gi (bm_si w1 (m + 20) F (bm_gi w1 (m + 20) F + (E.2.2.2.1 (g : Int) : Int))) a i = bm_gi w a i := fun i => (q_gi_ne (by omega)).trans (gi1 i)
      generalize bm_si w1 (m + 20) F (bm_gi w1 (m + 20) F + (E.2.2.2.1 (g : Int) : Int)) = w2 at h2 f2 kt2 kn2 gi2 ⊢
      have z2 := h2.z hb
      obtain ⟨nn, n1, n2, n3⟩ := h2.nn hb (by omega)
      simp only [bm_c0_v, bm_c1_v, bm_c2_v, bm_c3_v, bm_c4_v, bm_c5_v, bm_u_some, decide_eq_true_eq, true_and, and_true, and_self, Bool.not_eq_true, Bool.not_eq_true', decide_eq_false_iff_not, if_true, if_false, ite_true, ite_false, eq_self, kt2, kn2, gi2, z2.1.1.1.1.1, mp_node z2.1.1.1.1 n1 n2, show (0 : Int).toNat = 0 from rfl, show (1 : Int).toNat = 1 from rfl, show (2 : Int).toNat = 2 from rfl]
      have Q := qn_call (m := m) (F := F) (E := E) (w := w2) (n := nn) (dp := 4 * (p - x)) (g := g) (a := bm_gi w a 0) (b := bm_gi w a 1) (x := bm_gi w a 2) (p := -1) (Ds := acc) n1 n2 hg (by omega) (by omega) (by omega) (fun i hi => by
        have := ((a5 i hi (by omega)).fr f1).fr f2
        rcases (show i = 0 ∨ i = 1 ∨ i = 2 by omega) with rfl | rfl | rfl
        · exact this
        · exact this
        · exact this)
      refine ⟨by omega, by omega, by omega, by omega, by omega, by omega, hq _ _ ?_⟩
      exact h2.nd (by omega) n1 hm hF6 (Q.mo (by omega))
    · rw [if_neg c]
      rw [if_neg (show ¬ acc.length = E.2.2.1 (g : Int) by omega)] at hq
      simp only [bm_c0_v, bm_c1_v, bm_c2_v, bm_c3_v, bm_c4_v, bm_c5_v, bm_u_some, decide_eq_true_eq, true_and, and_true, and_self, Bool.not_eq_true, Bool.not_eq_true', decide_eq_false_iff_not, if_true, if_false, ite_true, ite_false, eq_self, Z1.1.1.1, mp_wrong Z1.1.1 (show x < 1501 by omega)]
      exact hq _ _ (h1.wr hb (by decide) (by omega) (by omega) rfl)
end MM

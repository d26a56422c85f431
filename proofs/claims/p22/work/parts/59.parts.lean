/-! ===== reading, in the class: how live parts go together ===== -/
section PT
variable {t f k fst : Nat} {P I : Nat → Nat} {E : q_E} {num : Int}
theorem gx_gl {s s1 s2 : Nat} {w w1 w2 : bm_W} {l1 acc l2 : List q_D} {z1 z2 : Nat} (h1 : gx t f k fst P I E num s s1 w w1 l1 z1) (h2 : gl t f k fst P I E num acc s1 s2 w1 w2 l2 z2) (ha : m_hd acc = m_hd l1) (hs : s < s1) (hs2 : s1 ≤ s2) : gx t f k fst P I E num s s2 w w2 l2 (z1 + z2) := by
  intro c0 a1 a2 a3 a4 az
  obtain ⟨c1, b1, b2, b3, b4, b5, b6, b7⟩ := h1 c0 a1 a2 a3 a4 az
  obtain ⟨c2, d1, d2, d3, d4, d5, d6, d7⟩ := h2 c0 c1 (s1 - s + z1) b1 (by omega) (by omega) (by omega) (by rw [ha]; exact b7) (by omega) b2 az
  refine ⟨c2, d1, by omega, by omega, by omega, by omega, b6.tr (d6.sub (Nat.le_refl _) (by omega)), ?_⟩
  rw [show s2 - s + (z1 + z2) = s1 - s + z1 + (s2 - s1) + z2 by omega]
  exact d7
theorem gl_gl {s s1 s2 : Nat} {w w1 w2 : bm_W} {acc0 l1 acc l2 : List q_D} {z1 z2 : Nat} (h1 : gl t f k fst P I E num acc0 s s1 w w1 l1 z1) (h2 : gl t f k fst P I E num acc s1 s2 w1 w2 l2 z2) (ha : m_hd acc = m_hd l1) (hs : s ≤ s1) (hs2 : s1 ≤ s2) : gl t f k fst P I E num acc0 s s2 w w2 l2 (z1 + z2) := by
  intro c00 c0 wt a1 a2 a3 a4 a5 a6 a7 az
  obtain ⟨c1, b1, b2, b3, b4, b5, b6, b7⟩ := h1 c00 c0 wt a1 a2 a3 a4 a5 a6 a7 az
  obtain ⟨c2, d1, d2, d3, d4, d5, d6, d7⟩ := h2 c00 c1 (wt + (s1 - s) + z1) b1 (by omega) (by omega) (by omega) (by rw [ha]; exact b7) (by omega) (by omega) az
  refine ⟨c2, d1, by omega, by omega, by omega, by omega, b6.tr (d6.sub (Nat.le_refl _) (by omega)), ?_⟩
  rw [show wt + (s2 - s) + (z1 + z2) = wt + (s1 - s) + z1 + (s2 - s1) + z2 by omega]
  exact d7
/-- a part, then what is behind it -/
theorem px_lv {B : Int → Int} {s : Nat} {s1 s2 : Bool × Nat} {r1 : q_M} {lp : List q_D → q_M} {w w1 w2 : bm_W} (h1 : px t f B s1 r1 (gx t f k fst P I E num s s1.2 w w1) w w1) (h2 : px t f B s2 (lp [m_hd (m_l r1)]) (gl t f k fst P I E num [m_hd (m_l r1)] s1.2 s2.2 w1 w2) w1 w2) (ho : s2.1 = false → s1.1 = false ∧ s < s1.2 ∧ s1.2 ≤ s2.2) : px t f B s2 (m_bind r1 (fun l z => m_add z (lp [m_hd l]))) (gx t f k fst P I E num s s2.2 w w2) w w2 := by
  refine px.bind h1 h2.1 h2.2.1 h2.2.2.1 (fun z => ?_)
  obtain ⟨o1, o2, o3⟩ := ho z
  obtain ⟨p1, p2⟩ := h2.2.2.2 z
  refine ⟨o1, p1, fun l y hr c0 g1 => ?_⟩
  rw [hr] at p2 h2
  exact (p2 c0).add (fun l2 z2 e g2 => gx_gl g1 g2 rfl o2 o3)
theorem px_lp {B : Int → Int} {s : Nat} {s1 s2 : Bool × Nat} {r1 : q_M} {acc : List q_D} {lp : List q_D → q_M} {w w1 w2 : bm_W} (h1 : px t f B s1 r1 (gl t f k fst P I E num acc s s1.2 w w1) w w1) (h2 : px t f B s2 (lp (m_l r1)) (gl t f k fst P I E num (m_l r1) s1.2 s2.2 w1 w2) w1 w2) (ho : s2.1 = false → s1.1 = false ∧ s ≤ s1.2 ∧ s1.2 ≤ s2.2) : px t f B s2 (m_bind r1 (fun l z => m_add z (lp l))) (gl t f k fst P I E num acc s s2.2 w w2) w w2 := by
  refine px.bind h1 h2.1 h2.2.1 h2.2.2.1 (fun z => ?_)
  obtain ⟨o1, o2, o3⟩ := ho z
  obtain ⟨p1, p2⟩ := h2.2.2.2 z
  refine ⟨o1, p1, fun l y hr c0 g1 => ?_⟩
  rw [hr] at p2 h2
  exact (p2 c0).add (fun l2 z2 e g2 => gl_gl g1 g2 rfl o2 o3)
theorem m_bind_op {r : q_M} {F : List q_D → q_D} {lp : List q_D → q_M} : m_bind r (fun l z => m_add z (lp [F l])) = m_bind (m_bind r (fun l z => .inr ([F l], z))) (fun l z => m_add z (lp l)) := by
  cases r <;> rfl
end PT
section PQ
variable {t f k N L fst : Nat} {B : Int → Int} {E : q_E} {num : Int} {P I : Nat → Nat} {s s3 : Bool × Nat} {w w3 : bm_W} {r1 : q_M} {acc : List q_D}
/-- the place that is told next -/
theorem pl_next {w : bm_W} {f q : Nat} (h : bm_gi w f 8 = (q : Int)) (hq : q ≤ 1501) : bm_w (bm_gi w f 8 + 1) = ((q + 1 : Nat) : Int) ∧ bm_w (bm_w (bm_gi w f 8 + 1) - 1) = (q : Int) := by
  rw [h, q_wI (x := (q : Int) + 1) ⟨by omega, by omega⟩, q_wI (x := (q : Int) + 1 - 1) ⟨by omega, by omega⟩]
  omega
theorem lf.next {c q : Nat} (h : lf t f P I w c q) (hq : q ≤ 1500) (hP : ∀ q, P q ≤ q) (h1 : t + 7 ≤ f) (hp1 : P (q + 1) = P q + 1) (hi : I (q + 1) = I q) {u v : Int} (hu : u = bm_w (bm_gi (bm_si w t 8 v) f 8 + 1)) : lf t f P I (bm_si (bm_si w t 8 v) f 8 u) c (q + 1) ∧ bm_w (u - 1) = (P q : Int) := by
  have e0 : bm_gi (bm_si w t 8 v) f 8 = (P q : Int) := (q_gi_ne (by omega)).trans h.2.1
  have := pl_next e0 (by have := hP q; omega)
  rw [← hu] at this
  refine ⟨⟨?_, ?_, ?_⟩, this.2⟩
  · rw [q_gi_nk (by decide), q_gi_ne (by omega)]; exact h.1
  · rw [q_gi_eq, this.1, hp1]
  · rw [q_gi_ne (by omega), q_gi_ne (by omega), hi]; exact h.2.2
theorem bin_fin {u : Nat} (hu : u = 9 ∨ u = 10 ∨ u = 11) (hrs : rs t f k N L fst B E num s w) (c : f_see (t_K B) L s (f_lo u) (f_hi u)) (hv : fst < s.2 ∧ f_ve (t_K B) s.2) (hP : hp (t_K B) P I fst) {q : Int} (hq : q = bm_w (bm_gi (bm_si w t 8 (bm_gi w t 8 + 1)) f 8 + 1))
    (h3 : px t f B s3 r1 (gx t f k fst P I E num (s.2 + 1) s3.2 (bm_si (bm_si w t 8 (bm_gi w t 8 + 1)) f 8 q) w3) (bm_si (bm_si w t 8 (bm_gi w t 8 + 1)) f 8 q) w3) (hb : s3.1 = false → s.2 + 1 < s3.2 ∧ s3.2 ≤ L) :
    px t f B s3 (m_bind r1 (fun l z => .inr ([m_op u (t_K B s.2) (P s.2 : Nat) (m_hd acc) (m_hd l)], z))) (gl t f k fst P I E num acc s.2 s3.2 w (fn_emit w3 f (t_K B s.2) 0 (bm_w (q - 1)))) w (fn_emit w3 f (t_K B s.2) 0 (bm_w (q - 1))) := by
  have had := hrs.ad
  obtain ⟨-, ⟨-, b2, -, -, -, -, b7, -⟩, ⟨c1, c2, c3, c4, c5, c6⟩, -⟩ := hrs
  have hop : 22 ≤ t_K B s.2 ∧ t_K B s.2 ≤ 32 := by
    have := c.2.2
    rcases hu with rfl | rfl | rfl
    · simp only [f_lo, f_hi] at this; simp at this; omega
    · simp only [f_lo, f_hi] at this; simp at this; omega
    · simp only [f_lo, f_hi] at this; simp at this; omega
  have hpl := (hP.1 s.2 c6).1 (Or.inr (Or.inr (Or.inr (Or.inr ⟨hop.1, hop.2, fun _ => hv⟩))))
  have hI := (hP.2.1 s.2).2 (by omega)
  have x2 : fx t f w (bm_si (bm_si w t 8 (bm_gi w t 8 + 1)) f 8 q) := (fx.rf.si had.1 had.2 (by omega)).si had.1 had.2 (by omega)
  have k2 : ∀ j, bm_gi (bm_si (bm_si w t 8 (bm_gi w t 8 + 1)) f 8 q) (t + 112) j = bm_gi w (t + 112) j := fun j => by rw [q_gi_ne (by omega), q_gi_ne (by omega)]
  have b9 : bm_gi (bm_si (bm_si w t 8 (bm_gi w t 8 + 1)) f 8 q) f 9 = bm_gi w f 9 := by rw [q_gi_nk (by decide), q_gi_ne (by omega)]
  have cbw : ∀ x, cb f 0 x w (bm_si (bm_si w t 8 (bm_gi w t 8 + 1)) f 8 q) := fun x j a ha _ _ => by rw [q_gi_ne (by omega), q_gi_ne (by omega)]
  have LN := fun c0 (h : lf t f P I w c0 s.2) => lf.next h (by omega) hP.2.2.1 had.1 hpl hI hq
  generalize bm_si (bm_si w t 8 (bm_gi w t 8 + 1)) f 8 q = w2 at h3 x2 k2 b9 cbw LN
  have h3' := px.pre x2 k2 h3
  have x4 : fx t f w3 (fn_emit w3 f (t_K B s.2) 0 (bm_w (q - 1))) := fx.rf.emit had.1 had.2
  refine px.bind h3' x4 ?_ ?_ (fun z => ?_)
  · rw [em_k (by omega) (by omega) (by omega) (by omega)]; exact h3.2.1
  · rw [em_k (by omega) (by omega) (by omega) (by omega)]; exact h3.2.2.1
  have k4 : ∀ j, bm_gi (fn_emit w3 f (t_K B s.2) 0 (bm_w (q - 1))) (t + 112) j = bm_gi w3 (t + 112) j := fun j => em_k (by omega) (by omega) (by omega) (by omega)
  refine ⟨z, cp_st.eq k4, fun l y hr c0 g1 => ⟨(k4 2).trans c0, ?_⟩⟩
  intro c00 c0' wt a1 a2 a3 a4 a5 a6 a7 az
  obtain ⟨hb1, hb2⟩ := hb z
  obtain ⟨ln1, ln2⟩ := LN c0' a1
  obtain ⟨c1', d1, d2, d3, d4, d5, d6, d7⟩ := g1 c0' ln1 (by omega) (by omega) (by omega) az
  obtain ⟨e1, e2, e3, e4, e5⟩ := em_c (op := t_K B s.2) (x := 0) (q := bm_w (q - 1)) d1.1 (by omega)
  have cb4 : cb f 0 c1' w3 (fn_emit w3 f (t_K B s.2) 0 (bm_w (q - 1))) := fun j a ha _ hj => e5 j a ha (by omega)
  refine ⟨c1' + 1, ⟨e1, ?_, ?_⟩, by omega, by omega, ?_, by omega, ((cbw c0').tr d6).tr (cb4.sub (Nat.le_refl _) (by omega)), ?_⟩
  · rw [em_k (by omega) (by omega) (by omega) (by omega)]; exact d1.2.1
  · rw [em_k (by omega) (by omega) (by omega) (by omega)]; exact d1.2.2
  · rw [em_k (by omega) (by omega) (by omega) (by omega), d4, b9]
  · have q1 : qs t f k E num (fn_emit w3 f (t_K B s.2) 0 (bm_w (q - 1))) c00 c0' (m_hd acc) wt := a5.fr ((((cbw c0').tr d6).tr (cb4.sub (Nat.le_refl _) (by omega))).sub (Nat.zero_le _) (Nat.le_refl _))
    have q2 : qs t f k E num (fn_emit w3 f (t_K B s.2) 0 (bm_w (q - 1))) c0' c1' (m_hd l) (s3.2 - (s.2 + 1) + y) := d7.fr (cb4.sub (Nat.zero_le _) (Nat.le_refl _))
    have := qs_bin q1 q2 (by omega) (by omega) e2 (e4.trans ln2) hop a6 (by omega)
    have e : m_hd [m_op u (t_K B s.2) (P s.2 : Nat) (m_hd acc) (m_hd l)] = d_bin (t_K B s.2) (P s.2 : Nat) (m_hd acc) (m_hd l) := by
      show m_op _ _ _ _ _ = _
      unfold m_op
      rw [if_neg (by omega)]
    rw [e]
    exact this.mo (by omega)
theorem lo_fin {u : Nat} (hu : u = 7 ∨ u = 8) (hrs : rs t f k N L fst B E num s w) (c : f_see (t_K B) L s (f_lo u) (f_hi u)) (hP : hp (t_K B) P I fst) {q : Int} (hq : q = bm_w (bm_gi (bm_si w t 8 (bm_gi w t 8 + 1)) f 8 + 1))
    (h3 : px t f B s3 r1 (gx t f k fst P I E num (s.2 + 1) s3.2 (fn_emit (bm_si (bm_si w t 8 (bm_gi w t 8 + 1)) f 8 q) f (f_lo u) 0 (bm_w (q - 1))) w3) (fn_emit (bm_si (bm_si w t 8 (bm_gi w t 8 + 1)) f 8 q) f (f_lo u) 0 (bm_w (q - 1))) w3) (hb : s3.1 = false → s.2 + 1 < s3.2 ∧ s3.2 ≤ L) {w5 : bm_W} {j : Int} (hj : j = bm_gi (bm_si (bm_si w t 8 (bm_gi w t 8 + 1)) f 8 q) f 7)
    (h5 : w5 = (if 0 ≤ j ∧ j < 100 then bm_si (fn_emit w3 f 37 0 (-1)) (f + 6) j.toNat (bm_gi (fn_emit w3 f 37 0 (-1)) f 7) else fn_emit w3 f 37 0 (-1))) :
    px t f B s3 (m_bind r1 (fun l z => .inr ([m_op u (t_K B s.2) (P s.2 : Nat) (m_hd acc) (m_hd l)], z))) (gl t f k fst P I E num acc s.2 s3.2 w w5) w w5 := by
  have had := hrs.ad
  obtain ⟨-, ⟨-, b2, -, -, -, -, b7, -⟩, ⟨c1, c2, c3, c4, c5, c6⟩, -⟩ := hrs
  have hop : t_K B s.2 = f_lo u ∧ (f_lo u = 9 ∨ f_lo u = 10) := by
    have := c.2.2
    rcases hu with rfl | rfl
    · simp only [f_lo, f_hi] at this ⊢; simp at this ⊢; omega
    · simp only [f_lo, f_hi] at this ⊢; simp at this ⊢; omega
  have hpl := (hP.1 s.2 c6).1 (by unfold f_pl; omega)
  have hI := (hP.2.1 s.2).2 (by omega)
  have x2 : fx t f w (bm_si (bm_si w t 8 (bm_gi w t 8 + 1)) f 8 q) := (fx.rf.si had.1 had.2 (by omega)).si had.1 had.2 (by omega)
  have k2 : ∀ j, bm_gi (bm_si (bm_si w t 8 (bm_gi w t 8 + 1)) f 8 q) (t + 112) j = bm_gi w (t + 112) j := fun j => by rw [q_gi_ne (by omega), q_gi_ne (by omega)]
  have b9 : bm_gi (bm_si (bm_si w t 8 (bm_gi w t 8 + 1)) f 8 q) f 9 = bm_gi w f 9 := by rw [q_gi_nk (by decide), q_gi_ne (by omega)]
  have cbw : ∀ x, cb f 0 x w (bm_si (bm_si w t 8 (bm_gi w t 8 + 1)) f 8 q) := fun x j a ha _ _ => by rw [q_gi_ne (by omega), q_gi_ne (by omega)]
  have LN := fun c0 (h : lf t f P I w c0 s.2) => lf.next h (by omega) hP.2.2.1 had.1 hpl hI hq
  generalize bm_si (bm_si w t 8 (bm_gi w t 8 + 1)) f 8 q = w2 at h3 x2 k2 b9 cbw LN hj
  have xe : fx t f w (fn_emit w2 f (f_lo u) 0 (bm_w (q - 1))) := x2.emit had.1 had.2
  have ke : ∀ j, bm_gi (fn_emit w2 f (f_lo u) 0 (bm_w (q - 1))) (t + 112) j = bm_gi w (t + 112) j := fun j => (em_k (by omega) (by omega) (by omega) (by omega)).trans (k2 j)
  have h3' := px.pre xe ke h3
  have x5 : fx t f w3 w5 := by
    rw [h5]
    exact (fx.rf.emit had.1 had.2).aim had.1 had.2
  have g5 : ∀ a k, ¬ (a = f ∧ k = 7) → a ≠ f + 5 → a ≠ f + 6 → a ≠ f + 7 → bm_gi w5 a k = bm_gi w3 a k := by
    intro a k n1 n2 n3 n4
    rw [h5]
    split
    · rw [q_gi_ne n3, em_k n1 n2 n3 n4]
    · exact em_k n1 n2 n3 n4
  refine px.bind h3' x5 ?_ ?_ (fun z => ?_)
  · rw [g5 _ _ (by omega) (by omega) (by omega) (by omega)]; exact h3.2.1
  · rw [g5 _ _ (by omega) (by omega) (by omega) (by omega)]; exact h3.2.2.1
  have k4 : ∀ j, bm_gi w5 (t + 112) j = bm_gi w3 (t + 112) j := fun j => g5 _ _ (by omega) (by omega) (by omega) (by omega)
  refine ⟨z, cp_st.eq k4, fun l y hr c0 g1 => ⟨(k4 2).trans c0, ?_⟩⟩
  intro c00 c0' wt a1 a2 a3 a4 a5 a6 a7 az
  obtain ⟨hb1, hb2⟩ := hb z
  obtain ⟨ln1, ln2⟩ := LN c0' a1
  obtain ⟨f1, f2, f3, f4, f5⟩ := em_c (op := f_lo u) (x := 0) (q := bm_w (q - 1)) ln1.1 (by omega)
  have lfe : lf t f P I (fn_emit w2 f (f_lo u) 0 (bm_w (q - 1))) (c0' + 1) (s.2 + 1) := ⟨f1, (em_k (by omega) (by omega) (by omega) (by omega)).trans ln1.2.1, (em_k (by omega) (by omega) (by omega) (by omega)).trans ln1.2.2⟩
  have e9 : bm_gi (fn_emit w2 f (f_lo u) 0 (bm_w (q - 1))) f 9 = bm_gi w f 9 := (em_k (by omega) (by omega) (by omega) (by omega)).trans b9
  have cbe : cb f 0 c0' w2 (fn_emit w2 f (f_lo u) 0 (bm_w (q - 1))) := fun j a ha _ hj => f5 j a ha (by omega)
  obtain ⟨c1', d1, d2, d3, d4, d5, d6, d7⟩ := g1 (c0' + 1) lfe (by omega) (by omega) (by omega) az
  obtain ⟨e1, e2, e3, e4, e5⟩ := em_c (op := 37) (x := 0) (q := -1) d1.1 (by omega)
  have hj' : j = (c0' : Int) := hj.trans ln1.1
  have h5' : w5 = bm_si (fn_emit w3 f 37 0 (-1)) (f + 6) c0' ((c1' + 1 : Nat) : Int) := by
    rw [h5, if_pos (by omega), e1, hj', Int.toNat_natCast]
  have w5c : ∀ j a, (a = f + 5 ∨ a = f + 6 ∨ a = f + 7) → j ≠ c1' → ¬ (a = f + 6 ∧ j = c0') → bm_gi w5 a j = bm_gi w3 a j := by
    intro j a ha n1 n2
    rw [h5', bm_si_gi, if_neg n2]
    exact e5 j a ha n1
  refine ⟨c1' + 1, ⟨?_, ?_, ?_⟩, by omega, by omega, ?_, by omega, ?_, ?_⟩
  · rw [h5', q_gi_ne (by omega)]; exact e1
  · rw [g5 _ _ (by omega) (by omega) (by omega) (by omega)]; exact d1.2.1
  · rw [g5 _ _ (by omega) (by omega) (by omega) (by omega)]; exact d1.2.2
  · rw [g5 _ _ (by omega) (by omega) (by omega) (by omega), d4, e9]
  · intro x a ha _ hx
    rw [w5c x a ha (by omega) (by omega), d6 x a ha (Nat.zero_le _) (by omega), cbe x a ha (Nat.zero_le _) hx, cbw c0' x a ha (Nat.zero_le _) hx]
  · have q1 : qs t f k E num w5 c00 c0' (m_hd acc) wt := a5.fr (fun x a ha x0 hx => by
      rw [w5c x a ha (by omega) (by omega), d6 x a ha (Nat.zero_le _) (by omega), cbe x a ha (Nat.zero_le _) hx, cbw c0' x a ha (Nat.zero_le _) hx])
    have q2 : qs t f k E num w5 (c0' + 1) c1' (m_hd l) (s3.2 - (s.2 + 1) + y) := d7.fr (fun x a ha x0 hx => w5c x a ha (by omega) (by omega))
    have i5 : bm_gi w5 (f + 5) c0' = f_lo u := by rw [w5c c0' _ (Or.inl rfl) (by omega) (by omega), d6 c0' _ (Or.inl rfl) (Nat.zero_le _) (by omega)]; exact f2
    have i7 : bm_gi w5 (f + 7) c0' = bm_w (q - 1) := by rw [w5c c0' _ (Or.inr (Or.inr rfl)) (by omega) (by omega), d6 c0' _ (Or.inr (Or.inr rfl)) (Nat.zero_le _) (by omega)]; exact f4
    have i6 : bm_gi w5 (f + 6) c0' = ((c1' + 1 : Nat) : Int) := by rw [h5', q_gi_eq]
    have j5 : bm_gi w5 (f + 5) c1' = 37 := by rw [h5', q_gi_ne (by omega)]; exact e2
    have j7 : bm_gi w5 (f + 7) c1' = -1 := by rw [h5', q_gi_ne (by omega)]; exact e4
    have := qs_lo q1 q2 (by omega) (by omega) i5 i6 i7 hop.2 j5 j7 a6 (by omega)
    rw [ln2] at this
    have e : m_hd [m_op u (t_K B s.2) (P s.2 : Nat) (m_hd acc) (m_hd l)] = d_lo (f_lo u) (P s.2 : Nat) (m_hd acc) (m_hd l) := by
      show m_op _ _ _ _ _ = _
      unfold m_op
      rw [if_pos hu, hop.1]
    rw [e]
    exact this.mo (by omega)
end PQ

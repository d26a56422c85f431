/-! ===== reading, in the class: ifs, expressions ===== -/
/-- a jump is aimed -/
def fn_aim (w : bm_W) (f : Nat) (j : Int) : bm_W := if 0 ≤ j ∧ j < 100 then bm_si w (f + 6) j.toNat (bm_gi w f 7) else w
theorem aim_k {w : bm_W} {f a x : Nat} {j : Int} (h : a ≠ f + 6) : bm_gi (fn_aim w f j) a x = bm_gi w a x := by
  unfold fn_aim
  split
  · exact q_gi_ne h
  · rfl
theorem aim_c {w : bm_W} {f c c2 : Nat} (hc : c < 100) (h : bm_gi w f 7 = (c2 : Int)) : bm_gi (fn_aim w f (c : Int)) (f + 6) c = (c2 : Int) ∧ ∀ a x, ¬ (a = f + 6 ∧ x = c) → bm_gi (fn_aim w f (c : Int)) a x = bm_gi w a x := by
  unfold fn_aim
  rw [if_pos (by omega), Int.toNat_natCast, h]
  exact ⟨q_gi_eq, fun a x hx => if_neg hx⟩
theorem fx.aim' {t f : Nat} {j : Int} {w w' : bm_W} (h : fx t f w w') (h1 : t + 7 ≤ f) (h2 : f ≤ t + 62) : fx t f w (fn_aim w' f j) := h.aim h1 h2
section RD
variable {t f k N L fst : Nat} {B : Int → Int} {E : q_E} {num : Int} {P I : Nat → Nat}
theorem choice_fin {q : Nat} {w w4 w7 w8 w10 w12 : bm_W} {s4 s8 s12 : Bool × Nat} {r1 r2 r3 : q_M} {u v : Int} (hrs : rs t f k N L fst B E num (false, q) w) (c : t_K B q = 6) (hP : hp (t_K B) P I fst) (hu : u = bm_w (bm_gi (bm_si w t 8 (bm_gi w t 8 + 1)) f 8 + 1)) (hv : v = bm_w (bm_gi (bm_si (bm_si w t 8 (bm_gi w t 8 + 1)) f 8 u) (t + 4) 6 + 1))
    (h4 : px t f B s4 r1 (gx t f k fst P I E num (q + 1) s4.2 (bm_si (bm_si (bm_si w t 8 (bm_gi w t 8 + 1)) f 8 u) (t + 4) 6 v) w4) (bm_si (bm_si (bm_si w t 8 (bm_gi w t 8 + 1)) f 8 u) (t + 4) 6 v) w4)
    (x7 : fx t f (fn_emit (fn_emit w4 f 6 (bm_w (v - 1)) (bm_w (u - 1))) f 38 0 (-1)) w7) (l7 : sl t (fn_emit (fn_emit w4 f 6 (bm_w (v - 1)) (bm_w (u - 1))) f 38 0 (-1)) w7)
    (h8 : px t f B s8 r2 (gx t f k fst P I E num (s4.2 + 1) s8.2 w7 w8) w7 w8)
    (x10 : fx t f (fn_emit w8 f 38 0 (-1)) w10) (l10 : sl t (fn_emit w8 f 38 0 (-1)) w10)
    {j6 j9 : Int} (hj6 : j6 = bm_gi (fn_emit w4 f 6 (bm_w (v - 1)) (bm_w (u - 1))) f 7) (hj9 : j9 = bm_gi w8 f 7)
    (h12 : px t f B s12 r3 (gx t f k fst P I E num (s8.2 + 1) s12.2 (fn_aim w10 f j6) w12) (fn_aim w10 f j6) w12)
    (ho : s12.1 = false → s4.1 = false ∧ s8.1 = false ∧ q + 1 < s4.2 ∧ t_K B s4.2 = 7 ∧ s4.2 + 1 < s8.2 ∧ t_K B s8.2 = 8 ∧ s8.2 + 1 < s12.2 ∧ s12.2 ≤ L) :
    px t f B s12 (m_bind r1 fun l1 z1 => m_bind r2 fun l2 z2 => m_bind r3 fun l3 z3 => .inr ([d_if (I q : Nat) (P q : Nat) (m_hd l1) (m_hd l2) (m_hd l3)], z1 + z2 + z3)) (gx t f k fst P I E num q s12.2 w (fn_aim w12 f j9)) w (fn_aim w12 f j9) := by
  have had := hrs.ad
  obtain ⟨-, ⟨-, b2, -, -, -, -, b7, -⟩, ⟨c1, c2, c3, c4, c5, c6⟩, -⟩ := hrs
  simp only at c1 c2 c3 c4 c5 c6
  have hpl := (hP.1 q c6).1 (by unfold f_pl; omega)
  have hI := (hP.2.1 q).1 c
  -- up to the first part
  have x3 : fx t f w (bm_si (bm_si (bm_si w t 8 (bm_gi w t 8 + 1)) f 8 u) (t + 4) 6 v) := ((fx.rf.si had.1 had.2 (by omega)).si had.1 had.2 (by omega)).si had.1 had.2 (by omega)
  have k3 : ∀ j, bm_gi (bm_si (bm_si (bm_si w t 8 (bm_gi w t 8 + 1)) f 8 u) (t + 4) 6 v) (t + 112) j = bm_gi w (t + 112) j := fun j => by rw [q_gi_ne (by omega), q_gi_ne (by omega), q_gi_ne (by omega)]
  have n3 : bm_gi (bm_si (bm_si (bm_si w t 8 (bm_gi w t 8 + 1)) f 8 u) (t + 4) 6 v) f 9 = bm_gi w f 9 := by rw [q_gi_ne (by omega), q_gi_nk (by decide), q_gi_ne (by omega)]
  have cb3 : ∀ x, cb f 0 x w (bm_si (bm_si (bm_si w t 8 (bm_gi w t 8 + 1)) f 8 u) (t + 4) 6 v) := fun x j a ha _ _ => by rw [q_gi_ne (by omega), q_gi_ne (by omega), q_gi_ne (by omega)]
  have LN : ∀ c0, lf t f P I w c0 q → lf t f P I (bm_si (bm_si (bm_si w t 8 (bm_gi w t 8 + 1)) f 8 u) (t + 4) 6 v) c0 (q + 1) ∧ bm_w (u - 1) = (P q : Int) ∧ bm_w (v - 1) = (I q : Int) := by
    intro c0 h
    have hPq := hP.2.2.1 q
    have hIq := hP.2.2.2 q
    have e8 : bm_gi (bm_si w t 8 (bm_gi w t 8 + 1)) f 8 = (P q : Int) := (q_gi_ne (by omega)).trans h.2.1
    have e6 : bm_gi (bm_si (bm_si w t 8 (bm_gi w t 8 + 1)) f 8 u) (t + 4) 6 = (I q : Int) := by rw [q_gi_ne (by omega), q_gi_ne (by omega)]; exact h.2.2
    rw [e8, q_wI (x := (P q : Int) + 1) ⟨by omega, by omega⟩] at hu
    rw [e6, q_wI (x := (I q : Int) + 1) ⟨by omega, by omega⟩] at hv
    refine ⟨⟨?_, ?_, ?_⟩, ?_, ?_⟩
    · rw [q_gi_ne (by omega), q_gi_nk (by decide), q_gi_ne (by omega)]; exact h.1
    · rw [q_gi_ne (by omega), q_gi_eq, hu, hpl]; omega
    · rw [q_gi_eq, hv, hI]; omega
    · rw [hu, q_wI ⟨by omega, by omega⟩]; omega
    · rw [hv, q_wI ⟨by omega, by omega⟩]; omega
  generalize bm_si (bm_si (bm_si w t 8 (bm_gi w t 8 + 1)) f 8 u) (t + 4) 6 v = w3 at h4 x3 k3 n3 cb3 LN
  have h4' := px.pre x3 k3 h4
  have x6 : fx t f w4 (fn_emit (fn_emit w4 f 6 (bm_w (v - 1)) (bm_w (u - 1))) f 38 0 (-1)) := (fx.rf.emit had.1 had.2).emit had.1 had.2
  have k6 : ∀ a j, ¬ (a = f ∧ j = 7) → a ≠ f + 5 → a ≠ f + 6 → a ≠ f + 7 → bm_gi (fn_emit (fn_emit w4 f 6 (bm_w (v - 1)) (bm_w (u - 1))) f 38 0 (-1)) a j = bm_gi w4 a j := fun a j p1 p2 p3 p4 => (em_k p1 p2 p3 p4).trans (em_k p1 p2 p3 p4)
  have x9 : fx t f w8 (fn_emit w8 f 38 0 (-1)) := fx.rf.emit had.1 had.2
  have x11 : fx t f w10 (fn_aim w10 f j6) := fx.rf.aim' had.1 had.2
  have x13 : fx t f w12 (fn_aim w12 f j9) := fx.rf.aim' had.1 had.2
  have x413 : fx t f w4 (fn_aim w12 f j9) := (((((x6.tr x7).tr h8.1).tr x9).tr x10).tr x11).tr (h12.1.tr x13)
  refine px.bind h4' x413 ?_ ?_ (fun z => ?_)
  · rw [aim_k (by omega)]; exact h12.2.1
  · rw [aim_k (by omega)]; exact h12.2.2.1
  obtain ⟨o1, o2, o3, o4, o5, o6, o7, o8⟩ := ho z
  have p8 := h8.2.2.2 o2
  have p12 := h12.2.2.2 z
  have m7 : ∀ j, bm_gi w7 (t + 112) j = bm_gi w4 (t + 112) j := fun j => (l7 _ _ (by omega)).trans (k6 _ _ (by omega) (by omega) (by omega) (by omega))
  have m11 : ∀ j, bm_gi (fn_aim w10 f j6) (t + 112) j = bm_gi w8 (t + 112) j := fun j => (aim_k (by omega)).trans ((l10 _ _ (by omega)).trans (em_k (by omega) (by omega) (by omega) (by omega)))
  have m13 : ∀ j, bm_gi (fn_aim w12 f j9) (t + 112) j = bm_gi w12 (t + 112) j := fun j => aim_k (by omega)
  have st812 : cp_st t w8 (fn_aim w12 f j9) := (cp_st.eq m11).tr (p12.1.tr (cp_st.eq m13))
  refine ⟨o1, (cp_st.eq m7).tr (p8.1.tr st812), fun l1 z1 hr1 cz1 g1 => ?_⟩
  refine m_is.bind (p8.2 ((m7 2).trans cz1)) st812 (fun l2 z2 hr2 cz2 g2 => ?_)
  refine m_is.bind (p12.2 ((m11 2).trans cz2)) (cp_st.eq m13) (fun l3 z3 hr3 cz3 g3 => ⟨(m13 2).trans cz3, ?_⟩)
  intro c0 a1 a2 a3 a4 az
  obtain ⟨ln, lu, lv⟩ := LN c0 a1
  obtain ⟨e1, d1, d2, d3, d4, d5, d6, d7⟩ := g1 c0 ln (by omega) (by omega) (by omega) az
  obtain ⟨f1, f2, f3, f4, f5⟩ := em_c (op := 6) (x := bm_w (v - 1)) (q := bm_w (u - 1)) d1.1 (by omega)
  obtain ⟨g1', g2', g3', g4', g5'⟩ := em_c (op := 38) (x := 0) (q := -1) f1 (by omega)
  have lf7 : lf t f P I w7 (e1 + 2) (s4.2 + 1) := by
    have q1 := (hP.1 s4.2 (by omega)).2 (by unfold f_pl; omega)
    have q2 := (hP.2.1 s4.2).2 (by omega)
    refine ⟨(l7 _ _ (by omega)).trans g1', ?_, ?_⟩
    · rw [l7 _ _ (by omega), k6 _ _ (by omega) (by omega) (by omega) (by omega), q1]; exact d1.2.1
    · rw [l7 _ _ (by omega), k6 _ _ (by omega) (by omega) (by omega) (by omega), q2]; exact d1.2.2
  have n7 : bm_gi w7 f 9 = bm_gi w f 9 + z1 := by rw [l7 _ _ (by omega), k6 _ _ (by omega) (by omega) (by omega) (by omega), d4, n3]
  obtain ⟨e2, i1, i2, i3, i4, i5, i6, i7⟩ := g2 (e1 + 2) lf7 (by omega) (by omega) (by omega) az
  obtain ⟨j1, j2, j3, j4, j5⟩ := em_c (op := 38) (x := 0) (q := -1) i1.1 (by omega)
  have hj6' : j6 = ((e1 + 1 : Nat) : Int) := hj6.trans f1
  have hj9' : j9 = (e2 : Int) := hj9.trans i1.1
  have t10 : bm_gi w10 f 7 = ((e2 + 1 : Nat) : Int) := (l10 _ _ (by omega)).trans j1
  subst hj6' hj9'
  obtain ⟨m1, m2⟩ := aim_c (c := e1 + 1) (by omega) t10
  have lf11 : lf t f P I (fn_aim w10 f ((e1 + 1 : Nat) : Int)) (e2 + 1) (s8.2 + 1) := by
    have q1 := (hP.1 s8.2 (by omega)).2 (by unfold f_pl; omega)
    have q2 := (hP.2.1 s8.2).2 (by omega)
    refine ⟨(m2 _ _ (by omega)).trans t10, ?_, ?_⟩
    · rw [m2 _ _ (by omega), l10 _ _ (by omega), em_k (by omega) (by omega) (by omega) (by omega), q1]; exact i1.2.1
    · rw [m2 _ _ (by omega), l10 _ _ (by omega), em_k (by omega) (by omega) (by omega) (by omega), q2]; exact i1.2.2
  have n11 : bm_gi (fn_aim w10 f ((e1 + 1 : Nat) : Int)) f 9 = bm_gi w f 9 + z1 + z2 := by rw [m2 _ _ (by omega), l10 _ _ (by omega), em_k (by omega) (by omega) (by omega) (by omega), i4, n7]
  obtain ⟨e3, k1, k2, k3', k4, k5, k6', k7⟩ := g3 (e2 + 1) lf11 (by omega) (by omega) (by omega) az
  obtain ⟨v1, v2⟩ := aim_c (c := e2) (by omega) k1.1
  -- the code, from the end back
  have r12 : ∀ j a, (a = f + 5 ∨ a = f + 6 ∨ a = f + 7) → j < e2 + 1 → ¬ (a = f + 6 ∧ j = e2) → bm_gi (fn_aim w12 f (e2 : Int)) a j = bm_gi (fn_aim w10 f ((e1 + 1 : Nat) : Int)) a j := fun j a ha hj hn => (v2 a j hn).trans (k6' j a ha (Nat.zero_le _) hj)
  have r8 : ∀ j a, (a = f + 5 ∨ a = f + 6 ∨ a = f + 7) → j < e2 → ¬ (a = f + 6 ∧ j = e1 + 1) → bm_gi (fn_aim w12 f (e2 : Int)) a j = bm_gi w8 a j := fun j a ha hj hn => by
    rw [r12 j a ha (by omega) (by omega), m2 a j hn, l10 a j (by omega), j5 j a ha (by omega)]
  have r6 : ∀ j a, (a = f + 5 ∨ a = f + 6 ∨ a = f + 7) → j < e1 + 2 → ¬ (a = f + 6 ∧ j = e1 + 1) → bm_gi (fn_aim w12 f (e2 : Int)) a j = bm_gi (fn_emit (fn_emit w4 f 6 (bm_w (v - 1)) (bm_w (u - 1))) f 38 0 (-1)) a j := fun j a ha hj hn => by
    rw [r8 j a ha (by omega) hn, i6 j a ha (Nat.zero_le _) hj, l7 a j (by omega)]
  have r4 : ∀ j a, (a = f + 5 ∨ a = f + 6 ∨ a = f + 7) → j < e1 → bm_gi (fn_aim w12 f (e2 : Int)) a j = bm_gi w4 a j := fun j a ha hj => by
    rw [r6 j a ha (by omega) (by omega), g5' j a ha (by omega), f5 j a ha (by omega)]
  refine ⟨e3, ⟨(v2 _ _ (by omega)).trans k1.1, (v2 _ _ (by omega)).trans k1.2.1, (v2 _ _ (by omega)).trans k1.2.2⟩, by omega, by omega, ?_, by omega, ?_, ?_⟩
  · rw [v2 _ _ (by omega), k4, n11]; omega
  · intro j a ha _ hj
    rw [r4 j a ha (by omega), d6 j a ha (Nat.zero_le _) hj, cb3 c0 j a ha (Nat.zero_le _) hj]
  · have y1 : qs t f k E num (fn_aim w12 f (e2 : Int)) c0 e1 (m_hd l1) (s4.2 - (q + 1) + z1) := d7.fr (fun j a ha _ hj => r4 j a ha hj)
    have y2 : qs t f k E num (fn_aim w12 f (e2 : Int)) (e1 + 2) e2 (m_hd l2) (s8.2 - (s4.2 + 1) + z2) := i7.fr (fun j a ha hj0 hj => r8 j a ha hj (by omega))
    have y3 : qs t f k E num (fn_aim w12 f (e2 : Int)) (e2 + 1) e3 (m_hd l3) (s12.2 - (s8.2 + 1) + z3) := k7.fr (fun j a ha hj0 hj => v2 a j (by omega))
    have := qs_if (i := (I q : Int)) (q := (P q : Int)) y1 y2 y3 (by omega) (by omega) (by omega)
      (by rw [r6 _ _ (Or.inl rfl) (by omega) (by omega), g5' _ _ (Or.inl rfl) (by omega)]; exact f2)
      (by rw [r6 _ _ (Or.inr (Or.inl rfl)) (by omega) (by omega), g5' _ _ (Or.inr (Or.inl rfl)) (by omega)]; exact f3.trans lv)
      (by rw [r6 _ _ (Or.inr (Or.inr rfl)) (by omega) (by omega), g5' _ _ (Or.inr (Or.inr rfl)) (by omega)]; exact f4.trans lu)
      (by rw [r6 _ _ (Or.inl rfl) (by omega) (by omega)]; exact g2')
      (by rw [r12 _ _ (Or.inr (Or.inl rfl)) (by omega) (by omega)]; exact m1)
      (by rw [r12 _ _ (Or.inl rfl) (by omega) (by omega), m2 _ _ (by omega), l10 _ _ (by omega)]; exact j2)
      v1 (by omega)
    exact this.mo (by omega)
theorem rs.aim {d : Nat} {j : Int} {s : Bool × Nat} {w : bm_W} {Φ : bm_Rt → bm_W → Prop} (h : rs t f k N L fst B E num s w) : bm_Call bm_pg (d + 1) y_X1_aimHere [bm_r (some f), bm_i j] w Φ ↔ Φ (.inl none) (fn_aim w f j) := sp_aim h.1.2.2.1
theorem rs.aimed {j : Int} {s : Bool × Nat} {w : bm_W} (h : rs t f k N L fst B E num s w) : rs t f k N L fst B E num s (fn_aim w f j) := by
  have had := h.ad
  exact h.st (fx.rf.aim' had.1 had.2) (aim_k (by omega)) (aim_k (by omega))
theorem rs.emitted {op x q : Int} {s : Bool × Nat} {w : bm_W} (h : rs t f k N L fst B E num s w) : rs t f k N L fst B E num s (fn_emit w f op x q) := by
  have had := h.ad
  exact h.st (fx.rf.emit had.1 had.2) (em_k (by omega) (by omega) (by omega) (by omega)) (em_k (by omega) (by omega) (by omega) (by omega))
theorem f_exp_rng {K : Nat → Int} {q : Int} {s : Bool × Nat} : s.2 ≤ (f_exp K L q s).2 ∧ (s.2 ≤ L → (f_exp K L q s).2 ≤ L) := by
  unfold f_exp
  by_cases c : f_see K L s q q
  · rw [if_pos c]; exact ⟨Nat.le_succ _, fun _ => c.2.1⟩
  · rw [if_neg c]; exact ⟨Nat.le_refl _, fun h => h⟩
/-- behind the word if -/
theorem rd_choice2 {n : Nat} (hP : hp (t_K B) P I fst) (hE : rc t f k N L fst B E num P I 6 y_X0_readExpression n) {d depth q : Nat} {w w3 : bm_W} {u v : Int} {Φ : bm_Rt → bm_W → Prop} (hrs : rs t f k N L fst B E num (false, q) w) (hd : depth < 8) (c : f_see (t_K B) L (false, q) 6 6) (hn : 8 * (L + 1 - q) + 7 ≤ n + 1) (hdd : 3 * n ≤ d) (hu : u = bm_w (bm_gi (bm_si w t 8 (bm_gi w t 8 + 1)) f 8 + 1)) (hv : v = bm_w (bm_gi (bm_si (bm_si w t 8 (bm_gi w t 8 + 1)) f 8 u) (t + 4) 6 + 1)) (hw3 : w3 = bm_si (bm_si (bm_si w t 8 (bm_gi w t 8 + 1)) f 8 u) (t + 4) 6 v) (w3rs : rs t f k N L fst B E num (false, q + 1) w3) (x3 : fx t f w w3) {x2 x3' : Int} (hx2 : x2 = bm_w (u - 1)) (hx3 : x3' = bm_w (v - 1)) (dp : Int) (hdp : dp = ((depth + 1 : Nat) : Int))
    (hq : ∀ w', px t f B (f_ex (t_K B) L (n + 1) 6 depth (false, q)) (m_ex (t_K B) (t_V B) L P I E (n + 1) 6 depth q []) (gx t f k fst P I E num q (f_ex (t_K B) L (n + 1) 6 depth (false, q)).2 w w') w w' → Φ (.inl none) w') :
    bm_Call bm_pg (d + 6) y_X0_readExpression [bm_r (some (t + 112)), bm_i dp] w3 (fun r4 w4 => bm_c0 ((bm_kt w4 (t + 112) = 0 ∧ bm_gr w4 (t + 112) 4 = some (bm_u (bm_gr w4 (t + 112) 4))) ∧
            (bm_kt w4 (bm_u (bm_gr w4 (t + 112) 4)) = 1) ∧ bm_Call bm_pg (d + 6) y_X1_emit [bm_r (some (bm_u (bm_gr w4 (t + 112) 4))), bm_i (6 : Int), bm_i x3', bm_i x2] w4 (fun r5 w5 => 
              bm_c1 (fun x5 => (bm_kt w5 (t + 112) = 0 ∧ bm_gr w5 (t + 112) 4 = some (bm_u (bm_gr w5 (t + 112) 4))) ∧
              (bm_kt w5 (bm_u (bm_gr w5 (t + 112) 4)) = 1) ∧ bm_Call bm_pg (d + 6) y_X1_emit [bm_r (some (bm_u (bm_gr w5 (t + 112) 4))), bm_i (38 : Int), bm_i (0 : Int), bm_i (-1 : Int)] w5 (fun r6 w6 => 
                bm_c1 (fun x6 => (bm_kt w6 (t + 112) = 0 ∧ bm_gr w6 (t + 112) 0 = some (bm_u (bm_gr w6 (t + 112) 0))) ∧
                (bm_kt w6 (bm_u (bm_gr w6 (t + 112) 0)) = 9) ∧ bm_Call bm_pg (d + 6) y_X9_expect [bm_r (some (bm_u (bm_gr w6 (t + 112) 0))), bm_i (7 : Int)] w6 (fun r7 w7 => 
                  bm_c1 (fun x7 => (bm_kt w7 (t + 112) = 0) ∧ bm_Call bm_pg (d + 6) y_X0_readExpression [bm_r (some (t + 112)), bm_i dp] w7 (fun r8 w8 => 
                    bm_c0 ((bm_kt w8 (t + 112) = 0 ∧ bm_gr w8 (t + 112) 4 = some (bm_u (bm_gr w8 (t + 112) 4))) ∧
                    (bm_kt w8 (bm_u (bm_gr w8 (t + 112) 4)) = 1) ∧ bm_Call bm_pg (d + 6) y_X1_emit [bm_r (some (bm_u (bm_gr w8 (t + 112) 4))), bm_i (38 : Int), bm_i (0 : Int), bm_i (-1 : Int)] w8 (fun r9 w9 => 
                      bm_c1 (fun x9 => (bm_kt w9 (t + 112) = 0 ∧ bm_gr w9 (t + 112) 0 = some (bm_u (bm_gr w9 (t + 112) 0))) ∧
                      (bm_kt w9 (bm_u (bm_gr w9 (t + 112) 0)) = 9) ∧ bm_Call bm_pg (d + 6) y_X9_expect [bm_r (some (bm_u (bm_gr w9 (t + 112) 0))), bm_i (8 : Int)] w9 (fun r10 w10 => 
                        bm_c1 (fun x10 => (bm_kt w10 (t + 112) = 0 ∧ bm_gr w10 (t + 112) 4 = some (bm_u (bm_gr w10 (t + 112) 4))) ∧
                        (bm_kt w10 (bm_u (bm_gr w10 (t + 112) 4)) = 1) ∧ bm_Call bm_pg (d + 6) y_X1_aimHere [bm_r (some (bm_u (bm_gr w10 (t + 112) 4))), bm_i x6] w10 (fun r11 w11 => 
                          bm_c0 ((bm_kt w11 (t + 112) = 0) ∧ bm_Call bm_pg (d + 6) y_X0_readExpression [bm_r (some (t + 112)), bm_i dp] w11 (fun r12 w12 => 
                            bm_c0 ((bm_kt w12 (t + 112) = 0 ∧ bm_gr w12 (t + 112) 4 = some (bm_u (bm_gr w12 (t + 112) 4))) ∧
                            (bm_kt w12 (bm_u (bm_gr w12 (t + 112) 4)) = 1) ∧ bm_Call bm_pg (d + 6) y_X1_aimHere [bm_r (some (bm_u (bm_gr w12 (t + 112) 4))), bm_i x9] w12 (fun r13 w13 => 
                              bm_c0 (Φ (.inl none) w13) (fun E => Φ (.inr E) w13) r13)) (fun E => Φ (.inr E) w12) r12)) (fun E => Φ (.inr E) w11) r11)) (fun E => Φ (.inr E) w10) r10)) (fun E => Φ (.inr E) w9) r9)) (fun E => Φ (.inr E) w8) r8)) (fun E => Φ (.inr E) w7) r7)) (fun E => Φ (.inr E) w6) r6)) (fun E => Φ (.inr E) w5) r5)) (fun E => Φ (.inr E) w4) r4) := by
  have had := hrs.ad
  have hc := hrs.2.2.1
  simp only at hc
  have c8 : ¬ 8 ≤ depth := by omega
  have e1 : f_ex (t_K B) L (n + 1) 6 depth (false, q) = f_ex (t_K B) L n 6 (depth + 1) (f_exp (t_K B) L 8 (f_ex (t_K B) L n 6 (depth + 1) (f_exp (t_K B) L 7 (f_ex (t_K B) L n 6 (depth + 1) (false, q + 1))))) := by rw [f_ex_6, if_pos c, if_neg c8]
  have kq : t_K B q = 6 := by have := c.2.2; simp only at this; omega
  have hqN : q + 1 ≤ N := w3rs.2.2.1.2.2.2.1
  have hqL : q < L := c.2.1
  have r1 := hrs.rng n 6 (depth + 1) (q := q + 1) (b := false) (by decide) hqN hqL
  rw [hdp]
  refine hE _ (depth + 1) (false, q + 1) _ _ w3rs (fun _ => f_st_op (by omega)) (by omega) (by simp only; simp; omega) (by omega) (fun w4 h4 => ?_)
  have w4rs := w3rs.mv (s' := f_ex (t_K B) L n 6 (depth + 1) (false, q + 1)) h4.1 h4.2.1 h4.2.2.1 r1.2.1 r1.2.2.1 (by omega)
  have w5rs := w4rs.emitted (op := 6) (x := x3') (q := x2)
  have w6rs := w5rs.emitted (op := 38) (x := 0) (q := -1)
  have x36 := ((x3.tr h4.1).emit (op := 6) (a := x3') (q := x2) had.1 had.2).emit (op := 38) (a := 0) (q := -1) had.1 had.2
  simp only [bm_c0_v, bm_c1_v, bm_c2_v, bm_c3_v, bm_c4_v, bm_c5_v, bm_u_some, decide_eq_true_eq, true_and, and_true, and_self, Bool.not_eq_true, Bool.not_eq_true', decide_eq_false_iff_not, if_true, if_false, ite_true, ite_false, eq_self, w4rs.1.2.2.2.1, w4rs.1.2.2.2.2.1, w4rs.1.2.2.2.2.2.1, w4rs.1.2.2.2.2.2.2, w4rs.1.1.1, w4rs.1.2.1.1, w4rs.1.2.2.1.1, sp_emit w4rs.1.2.2.1, w5rs.1.2.2.2.1, w5rs.1.2.2.2.2.1, w5rs.1.2.2.2.2.2.1, w5rs.1.2.2.2.2.2.2, w5rs.1.1.1, w5rs.1.2.1.1, w5rs.1.2.2.1.1, sp_emit w5rs.1.2.2.1, w6rs.1.2.2.2.1, w6rs.1.2.2.2.2.1, w6rs.1.2.2.2.2.2.1, w6rs.1.2.2.2.2.2.2, w6rs.1.1.1, w6rs.1.2.1.1, w6rs.1.2.2.1.1]
  refine w6rs.exp (by decide) (fun x7 w7 w7rs x7f l7 => ?_)
  simp only [bm_c0_v, bm_c1_v, bm_c2_v, bm_c3_v, bm_c4_v, bm_c5_v, bm_u_some, decide_eq_true_eq, true_and, and_true, and_self, Bool.not_eq_true, Bool.not_eq_true', decide_eq_false_iff_not, if_true, if_false, ite_true, ite_false, eq_self, w7rs.1.2.2.2.1, w7rs.1.2.2.2.2.1, w7rs.1.2.2.2.2.2.1, w7rs.1.2.2.2.2.2.2, w7rs.1.1.1, w7rs.1.2.1.1, w7rs.1.2.2.1.1]
  have g7 := f_exp_rng (K := t_K B) (L := L) (q := 7) (s := f_ex (t_K B) L n 6 (depth + 1) (false, q + 1))
  have b7 := w7rs.2.2.1
  have r2 := w7rs.rng n 6 (depth + 1) (q := (f_exp (t_K B) L 7 (f_ex (t_K B) L n 6 (depth + 1) (false, q + 1))).2) (b := (f_exp (t_K B) L 7 (f_ex (t_K B) L n 6 (depth + 1) (false, q + 1))).1) (by decide) b7.2.2.2.1 b7.2.2.2.2.1
  have ok7 := fun z => f_exp_ok (K := t_K B) (L := L) (k := 7) (s := f_ex (t_K B) L n 6 (depth + 1) (false, q + 1)) z
  generalize hs4 : f_ex (t_K B) L n 6 (depth + 1) (false, q + 1) = s4 at *
  refine hE _ (depth + 1) (f_exp (t_K B) L 7 s4) _ _ w7rs (fun z => ?_) (by omega) (by simp only; simp; omega) (by omega) (fun w8 h8 => ?_)
  · have := (ok7 z).1.2.2
    rw [(ok7 z).2]
    exact f_st_op (by omega)
  have w8rs := w7rs.mv (s' := f_ex (t_K B) L n 6 (depth + 1) (f_exp (t_K B) L 7 s4)) h8.1 h8.2.1 h8.2.2.1 r2.2.1 r2.2.2.1 (Nat.le_trans b7.2.2.2.2.2 r2.1)
  have w9rs := w8rs.emitted (op := 38) (x := 0) (q := -1)
  have x39 := ((x36.tr x7f).tr h8.1).emit (op := 38) (a := 0) (q := -1) had.1 had.2
  simp only [bm_c0_v, bm_c1_v, bm_c2_v, bm_c3_v, bm_c4_v, bm_c5_v, bm_u_some, decide_eq_true_eq, true_and, and_true, and_self, Bool.not_eq_true, Bool.not_eq_true', decide_eq_false_iff_not, if_true, if_false, ite_true, ite_false, eq_self, w8rs.1.2.2.2.1, w8rs.1.2.2.2.2.1, w8rs.1.2.2.2.2.2.1, w8rs.1.2.2.2.2.2.2, w8rs.1.1.1, w8rs.1.2.1.1, w8rs.1.2.2.1.1, sp_emit w8rs.1.2.2.1, w9rs.1.2.2.2.1, w9rs.1.2.2.2.2.1, w9rs.1.2.2.2.2.2.1, w9rs.1.2.2.2.2.2.2, w9rs.1.1.1, w9rs.1.2.1.1, w9rs.1.2.2.1.1]
  refine w9rs.exp (by decide) (fun x10 w10 w10rs x10f l10 => ?_)
  have w11rs := w10rs.aimed (j := bm_gi (fn_emit w4 f 6 x3' x2) f 7)
  simp only [bm_c0_v, bm_c1_v, bm_c2_v, bm_c3_v, bm_c4_v, bm_c5_v, bm_u_some, decide_eq_true_eq, true_and, and_true, and_self, Bool.not_eq_true, Bool.not_eq_true', decide_eq_false_iff_not, if_true, if_false, ite_true, ite_false, eq_self, w10rs.1.2.2.2.1, w10rs.1.2.2.2.2.1, w10rs.1.2.2.2.2.2.1, w10rs.1.2.2.2.2.2.2, w10rs.1.1.1, w10rs.1.2.1.1, w10rs.1.2.2.1.1, w10rs.aim, w11rs.1.2.2.2.1, w11rs.1.2.2.2.2.1, w11rs.1.2.2.2.2.2.1, w11rs.1.2.2.2.2.2.2, w11rs.1.1.1, w11rs.1.2.1.1, w11rs.1.2.2.1.1]
  have g10 := f_exp_rng (K := t_K B) (L := L) (q := 8) (s := f_ex (t_K B) L n 6 (depth + 1) (f_exp (t_K B) L 7 s4))
  have b10 := w10rs.2.2.1
  have r3 := w10rs.rng n 6 (depth + 1) (q := (f_exp (t_K B) L 8 (f_ex (t_K B) L n 6 (depth + 1) (f_exp (t_K B) L 7 s4))).2) (b := (f_exp (t_K B) L 8 (f_ex (t_K B) L n 6 (depth + 1) (f_exp (t_K B) L 7 s4))).1) (by decide) b10.2.2.2.1 b10.2.2.2.2.1
  have ok10 := fun z => f_exp_ok (K := t_K B) (L := L) (k := 8) (s := f_ex (t_K B) L n 6 (depth + 1) (f_exp (t_K B) L 7 s4)) z
  generalize hs8 : f_ex (t_K B) L n 6 (depth + 1) (f_exp (t_K B) L 7 s4) = s8 at *
  refine hE _ (depth + 1) (f_exp (t_K B) L 8 s8) _ _ w11rs (fun z => ?_) (by omega) (by simp only; simp; omega) (by omega) (fun w12 h12 => ?_)
  · have := (ok10 z).1.2.2
    rw [(ok10 z).2]
    exact f_st_op (by omega)
  have w12rs := w11rs.mv (s' := f_ex (t_K B) L n 6 (depth + 1) (f_exp (t_K B) L 8 s8)) h12.1 h12.2.1 h12.2.2.1 r3.2.1 r3.2.2.1 (Nat.le_trans b10.2.2.2.2.2 r3.1)
  simp only [bm_c0_v, bm_c1_v, bm_c2_v, bm_c3_v, bm_c4_v, bm_c5_v, bm_u_some, decide_eq_true_eq, true_and, and_true, and_self, Bool.not_eq_true, Bool.not_eq_true', decide_eq_false_iff_not, if_true, if_false, ite_true, ite_false, eq_self, w12rs.1.2.2.2.1, w12rs.1.2.2.2.2.1, w12rs.1.2.2.2.2.2.1, w12rs.1.2.2.2.2.2.2, w12rs.1.1.1, w12rs.1.2.1.1, w12rs.1.2.2.1.1, w12rs.aim]
  refine hq _ ?_
  rw [e1]
  have okk : (f_ex (t_K B) L n 6 (depth + 1) (f_exp (t_K B) L 8 s8)).1 = false → f_see (t_K B) L s4 7 7 ∧ f_see (t_K B) L s8 8 8 := by
    intro z
    have z1 := f_ex_ok (by decide) z
    have z2 := ok10 z1
    have z3 : (f_ex (t_K B) L n 6 (depth + 1) (f_exp (t_K B) L 7 s4)).1 = false := by rw [hs8]; exact z2.1.1
    exact ⟨(ok7 (f_ex_ok (by decide) z3)).1, z2.1⟩
  by_cases z : (f_ex (t_K B) L n 6 (depth + 1) (f_exp (t_K B) L 8 s8)).1 = false
  · obtain ⟨y1, y2⟩ := okk z
    have y3 : f_exp (t_K B) L 7 s4 = (false, s4.2 + 1) := by unfold f_exp; rw [if_pos y1]
    have y4 : f_exp (t_K B) L 8 s8 = (false, s8.2 + 1) := by unfold f_exp; rw [if_pos y2]
    rw [y4] at h12 z r3 ⊢
    rw [y3] at h8 hs8 r2
    have r1' := r1.2.2.2 y1.1 (by decide)
    have r2' := r2.2.2.2 y2.1 (by decide)
    have r3' := r3.2.2.2 z (by decide)
    have em : m_ex (t_K B) (t_V B) L P I E (n + 1) 6 depth q [] = m_bind (m_ex (t_K B) (t_V B) L P I E n 6 (depth + 1) (q + 1) []) fun l1 z1 => m_bind (m_ex (t_K B) (t_V B) L P I E n 6 (depth + 1) (s4.2 + 1) []) fun l2 z2 => m_bind (m_ex (t_K B) (t_V B) L P I E n 6 (depth + 1) (s8.2 + 1) []) fun l3 z3 => .inr ([d_if (I q : Nat) (P q : Nat) (m_hd l1) (m_hd l2) (m_hd l3)], z1 + z2 + z3) := by
      rw [m_ex_6, if_pos c, hs4, hs8]
    rw [em]
    have k7 := y1.2.2
    have k8 := y2.2.2
    have r4' := r3.2.2.1
    subst hw3 hx2 hx3
    exact choice_fin hrs kq hP hu hv h4 x7f l7 h8 x10f l10 rfl rfl h12 (fun _ => ⟨y1.1, y2.1, r1', by omega, r2', by omega, r3', r4'⟩)
  · have zt : (f_ex (t_K B) L n 6 (depth + 1) (f_exp (t_K B) L 8 s8)).1 = true := by
      cases h : (f_ex (t_K B) L n 6 (depth + 1) (f_exp (t_K B) L 8 s8)).1
      · exact absurd h z
      · rfl
    have X13 := (((x39.tr x10f).aim' (j := bm_gi (fn_emit w4 f 6 x3' x2) f 7) had.1 had.2).tr h12.1).aim' (j := bm_gi w8 f 7) had.1 had.2
    exact px_ded X13 ((aim_k (by omega)).trans h12.2.1) ((aim_k (by omega)).trans h12.2.2.1) zt
theorem rd_choice {n : Nat} (hP : hp (t_K B) P I fst) (hE : rc t f k N L fst B E num P I 6 y_X0_readExpression n) {d depth q : Nat} {w : bm_W} {Φ : bm_Rt → bm_W → Prop} (hrs : rs t f k N L fst B E num (false, q) w) (hd : depth ≤ 8) (c : f_see (t_K B) L (false, q) 6 6) (hn : 8 * (L + 1 - q) + 7 ≤ n + 1) (hdd : 3 * n + 7 ≤ d) (hq : ∀ w', px t f B (f_ex (t_K B) L (n + 1) 6 depth (false, q)) (m_ex (t_K B) (t_V B) L P I E (n + 1) 6 depth q []) (gx t f k fst P I E num q (f_ex (t_K B) L (n + 1) 6 depth (false, q)).2 w w') w w' → Φ (.inl none) w') : bm_Call bm_pg d y_X0_readChoice [bm_r (some (t + 112)), bm_i (depth : Int)] w Φ := by
  obtain ⟨d, rfl⟩ : ∃ d', d = d' + 7 := ⟨d - 7, by omega⟩
  have had := hrs.ad
  refine vc_X0_readChoice ?_
  by_cases c8 : 8 ≤ depth
  · have e1 : f_ex (t_K B) L (n + 1) 6 depth (false, q) = (true, q) := by rw [f_ex_6, if_pos c, if_pos c8]
    have hf := hrs.fail
    simp only [bm_c0_v, bm_c1_v, bm_c2_v, bm_c3_v, bm_c4_v, bm_c5_v, bm_u_some, decide_eq_true_eq, true_and, and_true, and_self, Bool.not_eq_true, Bool.not_eq_true', decide_eq_false_iff_not, if_true, if_false, ite_true, ite_false, eq_self, hrs.1.2.2.2.1, hrs.1.2.2.2.2.1, hrs.1.2.2.2.2.2.1, hrs.1.2.2.2.2.2.2, hrs.1.1.1, hrs.1.2.1.1, hrs.1.2.2.1.1, sp_fail hrs.1.1]
    rw [if_neg (by omega)]
    refine hq _ ?_
    rw [e1]
    exact px_ded hf.2 hf.1.2.2.1.1 hf.1.2.2.1.2.1 rfl
  · have c8i : (depth : Int) < 8 := by omega
    obtain ⟨w1rs, w1x⟩ := hrs.adv (by decide) c
    have dp : bm_w ((depth : Int) + 1) = ((depth + 1 : Nat) : Int) := by rw [q_wI ⟨by omega, by omega⟩]; omega
    have X2 : fx t f w (bm_si (bm_si w t 8 (bm_gi w t 8 + 1)) f 8 (bm_w (bm_gi (bm_si w t 8 (bm_gi w t 8 + 1)) f 8 + 1))) := w1x.si had.1 had.2 (by omega)
    have w2rs : rs t f k N L fst B E num (false, q + 1) (bm_si (bm_si w t 8 (bm_gi w t 8 + 1)) f 8 (bm_w (bm_gi (bm_si w t 8 (bm_gi w t 8 + 1)) f 8 + 1))) := w1rs.st (fx.rf.si had.1 had.2 (by omega)) (q_gi_ne (by omega)) (q_gi_ne (by omega))
    have w3rs : ∀ v, rs t f k N L fst B E num (false, q + 1) (bm_si (bm_si (bm_si w t 8 (bm_gi w t 8 + 1)) f 8 (bm_w (bm_gi (bm_si w t 8 (bm_gi w t 8 + 1)) f 8 + 1))) (t + 4) 6 v) := fun v => w2rs.st (fx.rf.si had.1 had.2 (by omega)) (q_gi_ne (by omega)) (q_gi_ne (by omega))
    have w3rs := w3rs (bm_w (bm_gi (bm_si (bm_si w t 8 (bm_gi w t 8 + 1)) f 8 (bm_w (bm_gi (bm_si w t 8 (bm_gi w t 8 + 1)) f 8 + 1))) (t + 4) 6 + 1))
    have X3 := X2.si (a := t + 4) (k := 6) (v := bm_w (bm_gi (bm_si (bm_si w t 8 (bm_gi w t 8 + 1)) f 8 (bm_w (bm_gi (bm_si w t 8 (bm_gi w t 8 + 1)) f 8 + 1))) (t + 4) 6 + 1)) had.1 had.2 (Or.inr (Or.inl ⟨rfl, rfl⟩))
    simp only [bm_c0_v, bm_c1_v, bm_c2_v, bm_c3_v, bm_c4_v, bm_c5_v, bm_u_some, decide_eq_true_eq, true_and, and_true, and_self, Bool.not_eq_true, Bool.not_eq_true', decide_eq_false_iff_not, if_true, if_false, ite_true, ite_false, eq_self, hrs.1.2.2.2.1, hrs.1.2.2.2.2.1, hrs.1.2.2.2.2.2.1, hrs.1.2.2.2.2.2.2, hrs.1.1.1, hrs.1.2.1.1, hrs.1.2.2.1.1, hrs.exp_t c, w1rs.1.2.2.2.1, w1rs.1.2.2.2.2.1, w1rs.1.2.2.2.2.2.1, w1rs.1.2.2.2.2.2.2, w1rs.1.1.1, w1rs.1.2.1.1, w1rs.1.2.2.1.1, sp_nextPlace w1rs.1.2.2.1, w2rs.1.2.2.2.1, w2rs.1.2.2.2.2.1, w2rs.1.2.2.2.2.2.1, w2rs.1.2.2.2.2.2.2, w2rs.1.1.1, w2rs.1.2.1.1, w2rs.1.2.2.1.1, sp_nextIf w2rs.1.2.1, w3rs.1.2.2.2.1, w3rs.1.2.2.2.2.1, w3rs.1.2.2.2.2.2.1, w3rs.1.2.2.2.2.2.2, w3rs.1.1.1, w3rs.1.2.1.1, w3rs.1.2.2.1.1]
    rw [if_pos c8i]
    exact rd_choice2 hP hE hrs (Nat.lt_of_not_le c8) c hn (Nat.le_of_add_le_add_right hdd) rfl rfl rfl w3rs X3 rfl rfl _ dp hq
/-- expressions -/
theorem rd_expr {n : Nat} (hP : hp (t_K B) P I fst) (hE : rc t f k N L fst B E num P I 6 y_X0_readExpression (n + 1)) (hB : rc t f k N L fst B E num P I 1 y_X0_readBoth n) (hL : rl t f k N L fst B E num P I 7 n (fun d Φ dep op terms w => bk_X0_readExpression_25 d Φ (t + 112) dep terms w)) : rc t f k N L fst B E num P I 6 y_X0_readExpression (n + 2) := by
  intro d depth s w Φ hrs hv hd hn hdd hq
  obtain ⟨d, rfl⟩ : ∃ d', d = d' + 7 := ⟨d - 7, by omega⟩
  obtain ⟨b, q⟩ := s
  have had := hrs.ad
  have hc := hrs.2.2.1
  simp only at hc
  refine vc_X0_readExpression ?_
  by_cases c : f_see (t_K B) L (b, q) 6 6
  · obtain rfl : b = false := c.1
    simp only [bm_c0_v, bm_c1_v, bm_c2_v, bm_c3_v, bm_c4_v, bm_c5_v, bm_u_some, decide_eq_true_eq, true_and, and_true, and_self, Bool.not_eq_true, Bool.not_eq_true', decide_eq_false_iff_not, if_true, if_false, ite_true, ite_false, eq_self, hrs.1.2.2.2.1, hrs.1.2.2.2.2.1, hrs.1.2.2.2.2.2.1, hrs.1.2.2.2.2.2.2, hrs.1.1.1, hrs.1.2.1.1, hrs.1.2.2.1.1, hrs.see_t c, Int.reduceEq]
    refine rd_choice hP hE hrs hd c (by simp only at hn; simp at hn; omega) (by omega) (fun w' h' => ?_)
    exact hq w' h'
  · simp only [bm_c0_v, bm_c1_v, bm_c2_v, bm_c3_v, bm_c4_v, bm_c5_v, bm_u_some, decide_eq_true_eq, true_and, and_true, and_self, Bool.not_eq_true, Bool.not_eq_true', decide_eq_false_iff_not, if_true, if_false, ite_true, ite_false, eq_self, hrs.1.2.2.2.1, hrs.1.2.2.2.2.1, hrs.1.2.2.2.2.2.1, hrs.1.2.2.2.2.2.2, hrs.1.1.1, hrs.1.2.1.1, hrs.1.2.2.1.1, hrs.see_f c]
    have r1 := hrs.rng n 1 depth (q := q) (b := b) (by decide) hc.2.2.2.1 hc.2.2.2.2.1
    refine hB _ depth (b, q) _ _ hrs hv hd (by simp only at hn ⊢; simp at hn ⊢; omega) (by omega) (fun w1 h1 => ?_)
    have w1rs := hrs.mv (s' := f_ex (t_K B) L n 1 depth (b, q)) h1.1 h1.2.1 h1.2.2.1 r1.2.1 r1.2.2.1 (by omega)
    simp only [bm_c0_v, bm_c1_v, bm_c2_v, bm_c3_v, bm_c4_v, bm_c5_v, bm_u_some, decide_eq_true_eq, true_and, and_true, and_self, Bool.not_eq_true, Bool.not_eq_true', decide_eq_false_iff_not, if_true, if_false, ite_true, ite_false, eq_self]
    refine hL _ depth (f_ex (t_K B) L n 1 depth (b, q)) _ _ [m_hd (m_l (m_ex (t_K B) (t_V B) L P I E n 1 depth q []))] 1 _ w1rs (fun z => ⟨by have := r1.2.2.2 z (by decide); omega, f_ex_ve n 1 depth (b, q) (by decide) z (fun z1 => absurd z1 (by decide))⟩) hd (by simp only at hn; simp at hn; omega) (by omega) rfl (by decide) (by decide) (fun z => by have := r1.2.2.2 z (by decide); omega) (fun w5 h5 => hq w5 ?_)
    have e1 : f_ex (t_K B) L (n + 2) 6 depth (b, q) = f_ex (t_K B) L n 7 depth (f_ex (t_K B) L n 1 depth (b, q)) := by rw [f_ex_6, if_neg c, f_ex_lv (by decide)]
    rw [e1]
    cases b
    · have e2 : m_ex (t_K B) (t_V B) L P I E (n + 2) 6 depth q [] = m_bind (m_ex (t_K B) (t_V B) L P I E n 1 depth q []) fun l z => m_add z (m_ex (t_K B) (t_V B) L P I E n 7 depth (f_ex (t_K B) L n 1 depth (false, q)).2 [m_hd l]) := by rw [m_ex_6, if_neg c, m_ex_lv (by decide)]
      simp only [e2]
      refine px_lv (lp := fun l => m_ex (t_K B) (t_V B) L P I E n 7 depth (f_ex (t_K B) L n 1 depth (false, q)).2 l) h1 h5 (fun z => ?_)
      have z1 := f_ex_ok (by decide) z
      have r2 := hrs.rng n 7 depth (q := (f_ex (t_K B) L n 1 depth (false, q)).2) (b := (f_ex (t_K B) L n 1 depth (false, q)).1) (by decide) r1.2.1 r1.2.2.1
      exact ⟨z1, r1.2.2.2 z1 (by decide), r2.1⟩
    · exact px_ded (h1.1.tr h5.1) h5.2.1 h5.2.2.1 (by rw [f_ex_fail _ _ _ _ (by decide), f_ex_fail _ _ _ _ (by decide)])
end RD

/-! ===== the class: compile ===== -/
def sh_Un (u : Nat) (w : bm_W) : Prop := bm_kt w u = 10 ∧ bm_gr w u 0 = some (u + 1) ∧ bm_gr w u 1 = some (u + 2) ∧ bm_gr w u 2 = some (u + 3) ∧ bm_kt w (u + 1) = 22 ∧ bm_kn w (u + 1) = 41 ∧ bm_kt w (u + 2) = 22 ∧ bm_kn w (u + 2) = 41 ∧ bm_kt w (u + 3) = 22 ∧ bm_kn w (u + 3) = 41
/-- the bench of the class: its parts -/
def sh_Ct (b t : Nat) (w : bm_W) : Prop := t = b + 3 ∧ bm_kt w b = 11 ∧ bm_gr w b 0 = some (b + 1) ∧ bm_gr w b 1 = some t ∧ bm_gr w b 2 = some (t + 4) ∧ bm_gr w b 3 = some (t + 112) ∧ bm_gr w b 4 = some (t + 113) ∧ bm_gr w b 5 = some (t + 117) ∧ bm_gr w b 6 = some (t + 118) ∧ bm_kt w (t + 117) = 6 ∧ bm_gr w (t + 117) 0 = some (t + 4) ∧ bm_gr w (t + 117) 1 = some (t + 113) ∧ sh_Un (t + 118) w
/-- what always holds of the class -/
def cI (b t : Nat) (w : bm_W) : Prop := sh_Ct b t w ∧ sh_TT t (b + 1) w ∧ rk t w ∧ sh_Pg (t + 4) w ∧ sh_Mc (t + 113) (t + 4) w ∧ rw_ok t w ∧ (0 ≤ bm_gi w (t + 4) 4 ∧ bm_gi w (t + 4) 4 ≤ 6) ∧ (0 ≤ bm_gi w (t + 4) 5 ∧ bm_gi w (t + 4) 5 ≤ 6) ∧ ∀ i : Int, 0 ≤ bm_gi w (pg_fn (t + 4) i) 6 ∧ bm_gi w (pg_fn (t + 4) i) 6 ≤ 3
section SH
variable {A R : Nat → Prop} {c s b t : Nat} {w w' : bm_W}
theorem sh_Un.gw {u : Nat} (h : q_gw A R c s w w') (hm : u + 3 < bm_sz w) (hR : ¬ R u) (hT : sh_Un u w) : sh_Un u w' := by
  obtain ⟨h1, h2, h3, h4, h5, h6, h7, h8, h9, h10⟩ := hT
  exact ⟨(h.kt (by omega)).trans h1, (h.gr (by omega) hR).trans h2, (h.gr (by omega) hR).trans h3, (h.gr (by omega) hR).trans h4, (h.kt (by omega)).trans h5, (h.kn (by omega)).trans h6, (h.kt (by omega)).trans h7, (h.kn (by omega)).trans h8, (h.kt (by omega)).trans h9, (h.kn (by omega)).trans h10⟩
theorem sh_Ct.gw (h : q_gw A R c s w w') (hm : t + 121 < bm_sz w) (hR : ¬ R b) (hR2 : ¬ R (t + 117)) (hR3 : ¬ R (t + 118)) (hT : sh_Ct b t w) : sh_Ct b t w' := by
  obtain ⟨h0, h1, h2, h3, h4, h5, h6, h7, h8, h9, h10, h11, h12⟩ := hT
  exact ⟨h0, (h.kt (by omega)).trans h1, (h.gr (by omega) hR).trans h2, (h.gr (by omega) hR).trans h3, (h.gr (by omega) hR).trans h4, (h.gr (by omega) hR).trans h5, (h.gr (by omega) hR).trans h6, (h.gr (by omega) hR).trans h7, (h.gr (by omega) hR).trans h8, (h.kt (by omega)).trans h9, (h.gr (by omega) hR2).trans h10, (h.gr (by omega) hR2).trans h11, h12.gw h (by omega) hR3⟩
theorem sh_Tp.gw {p : Nat} (h : q_gw A R c s w w') (hm : p + 1 < bm_sz w) (hR : ¬ R p) (hT : sh_Tp p w) : sh_Tp p w' := by
  obtain ⟨h1, h2, h3, h4⟩ := hT
  exact ⟨(h.kt (by omega)).trans h1, (h.gr (by omega) hR).trans h2, (h.kt (by omega)).trans h3, (h.kn (by omega)).trans h4⟩
end SH
/-- the answer of a compile, in the class -/
def ans_c (t : Nat) (B : Int → Int) (r : (Int × Nat) ⊕ y_pr) (nI : Nat) (x pl : Int) (w' : bm_W) : Prop := match r with
  | .inl e => x = e.1 ∧ pl = t_P B e.2 ∧ e.1 ≠ 0 ∧ bm_gi w' (t + 4) 4 = 0 ∧ bm_gi w' (t + 4) 5 = 0 ∧ bm_gi w' (t + 4) 6 = 0
  | .inr pr => x = 0 ∧ pl = -1 ∧ yfs t B pr.1 w' ∧ yts t B pr.2 w' ∧ bm_gi w' (t + 4) 6 = (nI : Int)
section TR
variable {d t N : Nat} {B : Int → Int} {s : Bool × Nat} {w : bm_W} {Φ : bm_Rt → bm_W → Prop} {pr : y_pr}
/-- where the error is -/
def e_pl (t : Nat) (w : bm_W) : Int := if bm_gi w t 10 = 0 then (if bm_gi w (t + 112) 2 = 0 then -1 else bm_gi w (t + 112) 3) else tk_start w t
theorem rd_errorPlace (h : rt t N f_T B s w) (hk : rk t w) : bm_Call bm_pg (d + 2) y_X0_errorPlace [bm_r (some (t + 112))] w Φ ↔ Φ (.inl (some (bm_i (e_pl t w)))) w := by
  refine bm_ans (fun Ψ q => vc_X0_errorPlace ?_)
  unfold e_pl at q
  simp only [bm_c0_v, bm_c1_v, bm_c2_v, bm_c3_v, bm_c4_v, bm_c5_v, bm_u_some, decide_eq_true_eq, true_and, and_true, and_self, Bool.not_eq_true, Bool.not_eq_true', decide_eq_false_iff_not, if_true, if_false, ite_true, ite_false, eq_self, hk.1, hk.2.1, h.1.1.1, sp_startHere h.1.1]
  by_cases c : bm_gi w t 10 = 0
  · rw [if_pos c] at q ⊢
    by_cases c2 : bm_gi w (t + 112) 2 = 0
    · rw [if_pos c2] at q
      rw [if_neg (fun z => z c2)]
      exact q
    · rw [if_neg c2] at q
      rw [if_pos c2]
      exact q
  · rw [if_neg c] at q ⊢
    exact q
theorem rd_translate (hc : ci t N B (false, 0) w)
    (hq : ∀ x w', ci t N B (f_its (t_K B) f_T (false, 0)) w' → kf t w w' → ans_c t B (y_cmp (t_K B) (t_V B)) (y_I (t_K B) (f_its (t_K B) f_T (false, 0)).2) x (e_pl t w') w' → Φ (.inl (some (bm_i x))) w') : bm_Call bm_pg (d + 1255) y_X0_translate [bm_r (some (t + 112))] w Φ := by
  obtain ⟨c1, c2, c3, c4, c5, c6, c7, c8⟩ := hc
  have N5 := c1.1.2.2.1
  refine vc_X0_translate ?_
  have P1 : sh_Pg (t + 4) (bm_si w (t + 112) 2 0) := c3
  have k1 : bm_kt (bm_si w (t + 112) 2 0) (t + 112) = 0 := c2.1
  have r1 : bm_gr (bm_si w (t + 112) 2 0) (t + 112) 1 = some (t + 4) := c2.2.2
  simp only [bm_c0_v, bm_c1_v, bm_c2_v, bm_c3_v, bm_c4_v, bm_c5_v, bm_u_some, decide_eq_true_eq, true_and, and_true, and_self, Bool.not_eq_true, Bool.not_eq_true', decide_eq_false_iff_not, if_true, if_false, ite_true, ite_false, eq_self, c2.1, k1, r1, P1.1, sp_pclear P1]
  have F : q_fr (fun a => a = t + 4 ∨ a = t + 112) w (bm_si (bm_si (bm_si (bm_si w (t + 112) 2 0) (t + 4) 4 0) (t + 4) 5 0) (t + 4) 6 0) := ((((q_fr.rf).si (Or.inr rfl)).si (Or.inl rfl)).si (Or.inl rfl)).si (Or.inl rfl)
  have g4 : bm_gi (bm_si (bm_si (bm_si (bm_si w (t + 112) 2 0) (t + 4) 4 0) (t + 4) 5 0) (t + 4) 6 0) (t + 4) 4 = 0 := by rw [q_gi_nk (by decide), q_gi_nk (by decide), q_gi_eq]
  have g5 : bm_gi (bm_si (bm_si (bm_si (bm_si w (t + 112) 2 0) (t + 4) 4 0) (t + 4) 5 0) (t + 4) 6 0) (t + 4) 5 = 0 := by rw [q_gi_nk (by decide), q_gi_eq]
  have g6 : bm_gi (bm_si (bm_si (bm_si (bm_si w (t + 112) 2 0) (t + 4) 4 0) (t + 4) 5 0) (t + 4) 6 0) (t + 4) 6 = 0 := q_gi_eq
  have g2 : bm_gi (bm_si (bm_si (bm_si (bm_si w (t + 112) 2 0) (t + 4) 4 0) (t + 4) 5 0) (t + 4) 6 0) (t + 112) 2 = 0 := by rw [q_gi_ne (by omega), q_gi_ne (by omega), q_gi_ne (by omega), q_gi_eq]
  generalize bm_si (bm_si (bm_si (bm_si w (t + 112) 2 0) (t + 4) 4 0) (t + 4) 5 0) (t + 4) 6 0 = w1 at F g4 g5 g6 g2 ⊢
  have C1 : ci t N B (false, 0) w1 := by
    refine ci.mv ⟨c1, c2, c3, c4, c5, c6, c7, c8⟩ F (c1.same (c1.1.1.fr F) (fun a j _ _ => F.gi (by omega)) (fun j => F.gl (by omega))) (by omega) (by omega) (fun i => ?_)
    have := pg_fn_off t i
    rw [F.gi (by omega)]; exact c8 i
  have Y1 : yl t B ([], []) 0 w1 := ⟨⟨g4, by simp, fun g hg => by simp at hg⟩, ⟨g5, by simp, fun g hg => by simp at hg⟩, g6⟩
  refine rd_items (d := d) f_T 0 (false, 0) w1 ([], []) C1 rfl (Or.inl rfl) (Int.le_refl _) (Int.le_refl _) (by show N + 1 ≤ 1501 + 0; omega) (fun _ => Y1) (fun w2 C2 k2 p2 => ?_)
  have K2 : kf t w w2 := (kf.of F (fun a z => Or.inl (by omega))).tr k2
  have P2 := C2.2.2.1
  have hk2 := C2.2.1
  have h2 := C2.1
  have cl : ∀ x : Int, x ≠ 0 → (∃ e, y_cmp (t_K B) (t_V B) = .inl e ∧ x = e.1 ∧ e_pl t w2 = t_P B e.2) → Φ (.inl (some (bm_i x))) (bm_si (bm_si (bm_si w2 (t + 4) 4 0) (t + 4) 5 0) (t + 4) 6 0) := by
    rintro x hx ⟨e, e1, e2, e3⟩
    have F3 : q_fr (fun a => a = t + 4) w2 (bm_si (bm_si (bm_si w2 (t + 4) 4 0) (t + 4) 5 0) (t + 4) 6 0) := q_fr.si (A := fun a => a = t + 4) (q_fr.si (q_fr.si q_fr.rf rfl) rfl) rfl
    have y4 : bm_gi (bm_si (bm_si (bm_si w2 (t + 4) 4 0) (t + 4) 5 0) (t + 4) 6 0) (t + 4) 4 = 0 := by rw [q_gi_nk (by decide), q_gi_nk (by decide), q_gi_eq]
    have y5 : bm_gi (bm_si (bm_si (bm_si w2 (t + 4) 4 0) (t + 4) 5 0) (t + 4) 6 0) (t + 4) 5 = 0 := by rw [q_gi_nk (by decide), q_gi_eq]
    refine hq x _ ?_ (K2.tr (kf.of F3 (fun a z => Or.inl (by omega)))) ?_
    · refine C2.mv F3 (h2.same (h2.1.1.fr F3) (fun a j _ _ => F3.gi (by omega)) (fun j => F3.gl (by omega))) (by omega) (by omega) (fun i => ?_)
      have := pg_fn_off t i
      rw [F3.gi (by omega)]; exact C2.2.2.2.2.2.2.2 i
    · rw [e1]
      refine ⟨e2, ?_, by rw [← e2]; exact hx, y4, y5, q_gi_eq⟩
      rw [← e3]
      unfold e_pl tk_start
      rw [F3.gi (by omega), F3.gi (by omega), F3.gi (by omega), F3.gi (by omega), F3.gi (by omega)]
  refine vb_X0_translate_104 ?_
  simp only [bm_c0_v, bm_c1_v, bm_c2_v, bm_c3_v, bm_c4_v, bm_c5_v, bm_u_some, decide_eq_true_eq, true_and, and_true, and_self, Bool.not_eq_true, Bool.not_eq_true', decide_eq_false_iff_not, if_true, if_false, ite_true, ite_false, eq_self, hk2.1, hk2.2.1, hk2.2.2, h2.1.1.1, P2.1, sp_pclear P2, h2.2.2.1]
  by_cases hbt : (f_its (t_K B) f_T (false, 0)).1 = true
  · rw [show bm_bo (f_its (t_K B) f_T (false, 0)).1 = 1 by rw [hbt]; rfl, if_neg (by decide), if_neg (by decide)]
    refine cl 1 (by decide) ⟨(1, (f_its (t_K B) f_T (false, 0)).2), if_pos hbt, rfl, ?_⟩
    unfold e_pl
    rw [h2.2.2.1, hbt, if_neg (by decide), h2.start]
  · have hb : (f_its (t_K B) f_T (false, 0)).1 = false := by simpa using hbt
    rw [show bm_bo (f_its (t_K B) f_T (false, 0)).1 = 0 by rw [hb]; rfl, if_pos rfl]
    have yc : y_cmp (t_K B) (t_V B) = y_its (t_K B) (t_V B) f_T ([], []) 0 := if_neg hbt
    have p3 := (p2 hb).2 g2
    have t10 : bm_gi w2 t 10 = 0 := by rw [h2.2.2.1, hb]; rfl
    cases hR : y_its (t_K B) (t_V B) f_T ([], []) 0 with
    | inl e =>
      rw [hR] at p3
      rw [if_neg (by rw [p3.2.1]; exact p3.1)]
      refine cl _ (by rw [p3.2.1]; exact p3.1) ⟨e, by rw [yc, hR], p3.2.1, ?_⟩
      unfold e_pl
      rw [if_pos t10, if_neg (by rw [p3.2.1]; exact p3.1), p3.2.2]
    | inr pr =>
      rw [hR] at p3
      rw [if_pos p3.1]
      refine hq _ w2 C2 K2 ?_
      rw [yc, hR]
      refine ⟨p3.1, ?_, p3.2⟩
      unfold e_pl
      rw [if_pos t10, if_pos p3.1]
end TR

/-! ===== feed and trim, in the class ===== -/
section FD
variable {d b t L : Nat} {x x1 x2 x3 x4 x5 : Int} {B : Int → Int} {D : Nat → Int} {pr : y_pr} {w w' : bm_W} {Φ : bm_Rt → bm_W → Prop}
/-- what lies ahead of the parts doesn't matter to them -/
theorem cZ.lo (h : cZ b t B pr w) (hf : q_fr (fun a => a = b + 1 ∨ a = b + 2) w w') (hl : 0 ≤ bm_gi w' (b + 1) 1 ∧ bm_gi w' (b + 1) 1 ≤ 1500) : cZ b t B pr w' := by
  have eb := h.1.1.1
  have e : ∀ a j, t ≤ a → bm_gi w' a j = bm_gi w a j ∧ bm_gl w' a j = bm_gl w a j := fun a j ha => ⟨hf.gi (by omega), hf.gl (by omega)⟩
  obtain ⟨c1, ⟨a1, a2, a3, a4⟩, c3, c4, c5⟩ := h
  have hI : cI b t w' := c1.fr hf hl (by rw [(e _ _ (by omega)).1]; exact c1.2.2.2.2.2.2.1) (by rw [(e _ _ (by omega)).1]; exact c1.2.2.2.2.2.2.2.1) (fun i => by rw [(e _ _ (by have := pg_fn_off t i; omega)).1]; exact c1.2.2.2.2.2.2.2.2 i)
  refine ⟨hI, ⟨a1.fr hf, (e _ _ (by omega)).1.trans a2, a3, fun k hk => ?_⟩, c3.bk (e _ _ (by omega)).1 (fun y _ a u v j => e a j (by have := pg_fn_off t (y : Int); omega)), ?_, (e _ _ (by omega)).1.trans c5⟩
  · have off := (a4 k hk).off
    obtain ⟨z1, z2, z3, z4, ⟨b1, b2, b3, b4, b5⟩, z6, z7, z8⟩ := a4 k hk
    refine ⟨z1.fr hf, z2.fr hf, (e _ _ (by omega)).1.trans z3, z4.bk (fun y _ a u v j => e a j (by have := pg_fn_off t (y : Int); omega)), ⟨(e _ _ (by omega)).1.trans b1, b2, (e _ _ (by omega)).1.trans b3, b4, fun i hi => ?_⟩, fun i r hi hr => z6 i r hi (by rw [← hf.gr]; exact hr), z7, z8⟩
    obtain ⟨r, r1, r2, r3⟩ := b5 i hi
    have := z6 i r (by omega) r1
    exact ⟨r, by rw [hf.gr]; exact r1, r2.bk (fun a u v j => e a j (by omega)), r3⟩
  · rcases c4 with c | ⟨n1, n2, n3⟩
    · exact Or.inl ((e _ _ (by omega)).1.trans c)
    · refine Or.inr ⟨(e _ _ (by omega)).1.trans n1, fun k hk j hj => ?_, fun j hj => ?_⟩
      · rw [(e _ _ (by have := pg_tb_off t (k : Int); omega)).1]; exact n2 k hk j hj
      · rw [(e _ _ (by omega)).1, (e _ _ (by omega)).1]; exact n3 j hj
def fd_5 (x1 x2 x3 x4 x5 : Int) (D : Nat → Int) (L : Nat) : Nat → Int := fd_w x5 4 (fd_w x4 4 (fd_w x3 4 (fd_w x2 4 (fd_w x1 4 D L) (L + 4)) (L + 8)) (L + 12)) (L + 16)
theorem co_feed (h : cZ b t B pr w) (hT : cTx (b + 1) D L w) (hL : L ≤ 1500) (q1 : L + 20 ≤ 1500 → ∀ w', cZ b t B pr w' → cTx (b + 1) (fd_5 x1 x2 x3 x4 x5 D L) (L + 20) w' → q_fr (fun a => a = b + 1 ∨ a = b + 2) w w' → Φ (.inl (some (bm_i ((L + 20 : Nat) : Int)))) w') (q0 : ¬ L + 20 ≤ 1500 → Φ (.inr "java/lang/IllegalStateException") (bm_tw w)) : bm_Call bm_pg (d + 2) y_X11_feed [bm_r (some b), bm_i x1, bm_i x2, bm_i x3, bm_i x4, bm_i x5] w Φ := by
  have c1 := h.1.1
  have T := hT.1
  refine vc_X11_feed ?_
  simp only [bm_c0_v, bm_c1_v, bm_c2_v, bm_c3_v, bm_c4_v, bm_c5_v, bm_u_some, decide_eq_true_eq, true_and, and_true, and_self, Bool.not_eq_true, Bool.not_eq_true', decide_eq_false_iff_not, if_true, if_false, ite_true, ite_false, eq_self, c1.2.1, c1.2.2.1, T.1, sp_troom (d := d) T, hT.2.1, q_wI (x := 1500 - (L : Int)) ⟨by omega, by omega⟩]
  by_cases c : L + 20 ≤ 1500
  · rw [if_pos (by omega)]
    have st : ∀ (w2 : bm_W), q_fr (fun a => a = b + 1 ∨ a = b + 1 + 1) w w2 → bm_kt w2 b = 11 ∧ bm_gr w2 b 0 = some (b + 1) := fun w2 F => ⟨by rw [F.kt]; exact c1.2.1, by rw [F.gr]; exact c1.2.2.1⟩
    refine sp_append (d := d) hT (by omega) (fun w2 T2 F2 => ?_)
    rw [bm_c0_v]
    simp only [bm_c0_v, bm_c1_v, bm_c2_v, bm_c3_v, bm_c4_v, bm_c5_v, bm_u_some, decide_eq_true_eq, true_and, and_true, and_self, Bool.not_eq_true, Bool.not_eq_true', decide_eq_false_iff_not, if_true, if_false, ite_true, ite_false, eq_self, (st w2 F2).1, (st w2 F2).2, T2.1.1]
    refine sp_append (d := d) T2 (by omega) (fun w3 T3 F3 => ?_)
    rw [bm_c0_v]
    have G3 := F2.tr F3
    simp only [bm_c0_v, bm_c1_v, bm_c2_v, bm_c3_v, bm_c4_v, bm_c5_v, bm_u_some, decide_eq_true_eq, true_and, and_true, and_self, Bool.not_eq_true, Bool.not_eq_true', decide_eq_false_iff_not, if_true, if_false, ite_true, ite_false, eq_self, (st w3 G3).1, (st w3 G3).2, T3.1.1]
    refine sp_append (d := d) T3 (by omega) (fun w4 T4 F4 => ?_)
    rw [bm_c0_v]
    have G4 := G3.tr F4
    simp only [bm_c0_v, bm_c1_v, bm_c2_v, bm_c3_v, bm_c4_v, bm_c5_v, bm_u_some, decide_eq_true_eq, true_and, and_true, and_self, Bool.not_eq_true, Bool.not_eq_true', decide_eq_false_iff_not, if_true, if_false, ite_true, ite_false, eq_self, (st w4 G4).1, (st w4 G4).2, T4.1.1]
    refine sp_append (d := d) T4 (by omega) (fun w5 T5 F5 => ?_)
    rw [bm_c0_v]
    have G5 := G4.tr F5
    simp only [bm_c0_v, bm_c1_v, bm_c2_v, bm_c3_v, bm_c4_v, bm_c5_v, bm_u_some, decide_eq_true_eq, true_and, and_true, and_self, Bool.not_eq_true, Bool.not_eq_true', decide_eq_false_iff_not, if_true, if_false, ite_true, ite_false, eq_self, (st w5 G5).1, (st w5 G5).2, T5.1.1]
    refine sp_append (d := d) T5 (by omega) (fun w6 T6 F6 => ?_)
    rw [bm_c0_v]
    have G6 := G5.tr F6
    simp only [bm_c0_v, bm_c1_v, bm_c2_v, bm_c3_v, bm_c4_v, bm_c5_v, bm_u_some, decide_eq_true_eq, true_and, and_true, and_self, Bool.not_eq_true, Bool.not_eq_true', decide_eq_false_iff_not, if_true, if_false, ite_true, ite_false, eq_self, (st w6 G6).1, (st w6 G6).2, T6.1.1, sp_tlength (d := d) T6.1, T6.2.1]
    have G : q_fr (fun a => a = b + 1 ∨ a = b + 2) w w6 := G6
    exact q1 c w6 (h.lo G (by rw [T6.2.1]; omega)) T6 G
  · rw [if_neg (by omega)]
    exact q0 c
theorem co_trim (h : cZ b t B pr w) (hT : cTx (b + 1) D L w) (hL : L ≤ 1500) (q1 : 0 ≤ x ∧ x ≤ (L : Int) → ∀ w', cZ b t B pr w' → cTx (b + 1) D x.toNat w' → q_fr (fun a => a = b + 1 ∨ a = b + 2) w w' → Φ (.inl (some (bm_i x))) w') (q0 : ¬ (0 ≤ x ∧ x ≤ (L : Int)) → Φ (.inr "java/lang/IllegalArgumentException") (bm_tw w)) : bm_Call bm_pg (d + 2) y_X11_trim [bm_r (some b), bm_i x] w Φ := by
  have c1 := h.1.1
  have T := hT.1
  refine vc_X11_trim ?_
  by_cases c : x < 0
  · rw [if_pos (decide_eq_true c)]
    exact q0 (by omega)
  rw [if_neg (fun y => c (of_decide_eq_true y))]
  simp only [bm_c0_v, bm_c1_v, bm_c2_v, bm_c3_v, bm_c4_v, bm_c5_v, bm_u_some, decide_eq_true_eq, true_and, and_true, and_self, Bool.not_eq_true, Bool.not_eq_true', decide_eq_false_iff_not, if_true, if_false, ite_true, ite_false, eq_self, c1.2.1, c1.2.2.1, T.1, sp_tlength (d := d) T, hT.2.1, sp_tcut (d := d) T]
  by_cases c2 : x ≤ (L : Int)
  · rw [if_pos c2]
    have G : q_fr (fun a => a = b + 1 ∨ a = b + 2) w (bm_si w (b + 1) 1 x) := q_fr.rf.si (Or.inl rfl)
    have e : bm_gi (bm_si w (b + 1) 1 x) (b + 1) 1 = x := q_gi_eq
    refine q1 ⟨by omega, c2⟩ _ (h.lo G (by rw [e]; omega)) ⟨T, by rw [e]; omega, fun k hk => ?_⟩ G
    have := hT.2.2 k (by omega)
    unfold tp_b at this ⊢
    rw [q_gi_ne (by omega)]
    exact this
  · rw [if_neg c2]
    exact q0 (by omega)
end FD

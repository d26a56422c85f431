section SO
variable {d b t k : Nat} {B : Int → Int} {pr : y_pr} {rows : List y_rw} {w w' : bm_W} {Φ : bm_Rt → bm_W → Prop}
theorem cQ.chg (h : cY b t B (y_st pr k rows) w) (hS : zS t (y_st pr k rows) w) (hk : k < pr.2.length) {x lo : Option Nat} (hx : ∀ i r, i < rows.length → bm_gr w (pg_tb (t + 4) (k : Int) + 1) i = some r → (some r = lo ↔ x = some i)) (hq : ∀ w', cY b t B (y_st pr k rows) w' → zS t (y_st pr k rows) w' → cS t w w' → Φ (.inl (some (bm_l ((u_v (fun p => s_ft (y_tF pr k).2.2.2.2 rows x p rows.length) (y_tF pr k).2.2.1 : Nat) : Int)))) w') : bm_Call bm_pg (d + 26) y_X6_changesFound [bm_r (some (t + 117)), bm_r (some (pg_tb (t + 4) (k : Int))), bm_r lo] w Φ := by
  have e2 : ((y_st pr k rows).2.getD k y_t0).2.2 = rows := by rw [y_st_r hk, if_pos rfl]
  refine cQ.changes (Q := fun _ => True) (fun _ _ _ _ _ _ => trivial) h hS (k := k) (by rw [y_st_len]; exact hk) (x := x) (fun i r hi hr => hx i r (by rw [← e2]; exact hi) hr) (fun w' a1 a2 a3 => ?_)
  rw [e2, y_st_F hk]
  exact hq w' a1 a2 a3
/-- told again, that nothing is fresh -/
theorem cQ.fresh (h : cY b t B pr w) (hS : zS t pr w) : cZ b t B pr (bm_si w (t + 117) 2 0) ∧ zS t pr (bm_si w (t + 117) 2 0) := by
  have eb := h.1.1.1
  have F : q_fr (fun a => a = t + 117) w (bm_si w (t + 117) 2 0) := q_fr.rf.si rfl
  refine ⟨⟨h.1.frA F (by omega) (by omega) (fun i => by have := pg_fn_off t i; omega), h.2.1.fr F (fun a z => Or.inr z), h.2.2.1.bk (F.gi (by omega)) (fun x _ a u v j => by have := pg_fn_off t (x : Int); exact ⟨F.gi (by omega), F.gl (by omega)⟩), Or.inl q_gi_eq, (q_gi_ne (by omega)).trans h.2.2.2.2⟩, fun k i r hk hi hr => ?_⟩
  have Z := h.2.1.2.2.2 k hk
  have := Z.2.2.2.2.2.1 i r (by have := Z.2.2.2.2.1.2.1; omega) hr
  rw [q_gi_ne (by omega)]
  exact hS k i r hk hi hr
theorem so_13 (hk : k < pr.2.length) (w : bm_W) (hs : t + 122 ≤ bm_sz w) (hq : ∀ rows' w', cL t 0 0 w w' → cZ b t B (y_st pr k rows') w' → zS t (y_st pr k rows') w' → rows' = s_sh (y_tF pr k).2.2.2.2 (y_tF pr k).2.2.1 rows.length rows → Φ (.inl (some (bm_i (rows'.length : Int)))) w') : ∀ (m : Nat) (cur : List y_rw) (w1 : bm_W), m ≤ cur.length → cY b t B (y_st pr k cur) w1 → zS t (y_st pr k cur) w1 → cL t 0 0 w w1 → s_sh (y_tF pr k).2.2.2.2 (y_tF pr k).2.2.1 rows.length rows = s_sh (y_tF pr k).2.2.2.2 (y_tF pr k).2.2.1 m cur → bk_X11_shorten_13 (d + 26) Φ b (pg_tb (t + 4) (k : Int)) ((m : Int) - 1) w1 := by
  have fin : ∀ (cur : List y_rw) (w1 : bm_W), cY b t B (y_st pr k cur) w1 → zS t (y_st pr k cur) w1 → cL t 0 0 w w1 → s_sh (y_tF pr k).2.2.2.2 (y_tF pr k).2.2.1 rows.length rows = cur → (bm_kt w1 b = 11 ∧ bm_gr w1 b 5 = some (bm_u (bm_gr w1 b 5))) ∧ (bm_kt w1 (bm_u (bm_gr w1 b 5)) = 6) ∧ bm_Call bm_pg (d + 26) y_X6_forget [bm_r (some (bm_u (bm_gr w1 b 5)))] w1 (fun r1 w1 => bm_c0 ((bm_kt w1 (pg_tb (t + 4) (k : Int)) = 7) ∧ Φ (.inl (some (bm_i (bm_gi w1 (pg_tb (t + 4) (k : Int)) 5)))) w1) (fun E => Φ (.inr E) w1) r1) := fun cur w1 h hS hL he => by
    have c1 := h.1.1
    obtain ⟨f1, f2⟩ := h.fresh hS
    have Z := f1.2.1.2.2.2 k (by rw [y_st_len]; exact hk)
    have e2 : ((y_st pr k cur).2.getD k y_t0).2.2 = cur := by rw [y_st_r hk, if_pos rfl]
    have c5 := Z.2.2.2.2.1.1
    rw [e2] at c5
    have eb := c1.1
    rw [c1.2.2.2.2.2.2.2.1, bm_u_some]
    refine ⟨⟨c1.2.1, rfl⟩, c1.2.2.2.2.2.2.2.2.2.1, vc_X6_forget ⟨⟨c1.2.2.2.2.2.2.2.2.2.1, Or.inl rfl⟩, ?_⟩⟩
    rw [bm_c0_v, c5]
    exact ⟨Z.2.1.1, hq cur _ ((hL.tr (cL.of (q_fr.rf.si (A := fun a => a = t + 117) rfl) (fun a z => by unfold cB; omega))).mo (Nat.le_refl _) (Nat.le_refl _)) f1 f2 he.symm⟩
  intro m
  induction m with
  | zero =>
    intro cur w1 hm h hS hL he
    refine vb_X11_shorten_13 ?_
    rw [if_pos (by decide)]
    exact fin cur w1 h hS hL he
  | succ n ih =>
    intro cur w1 hm h hS hL he
    have c1 := h.1.1
    have Z := h.2.1.2.2.2 k (by rw [y_st_len]; exact hk)
    have e2 : ((y_st pr k cur).2.getD k y_t0).2.2 = cur := by rw [y_st_r hk, if_pos rfl]
    have c5 := Z.2.2.2.2.1.1
    have r12 := Z.2.2.2.2.1.2.1
    rw [e2] at c5 r12
    have p50 := Z.2.2.2.1.2.2.2.2.2.2.2.1
    rw [y_st_F hk] at p50
    have ei : ((n + 1 : Nat) : Int) - 1 = (n : Int) := by omega
    refine vb_X11_shorten_13 ?_
    rw [ei, if_neg (by simp)]
    refine ⟨Z.2.1.1, ?_⟩
    rw [c5]
    by_cases c : 1 < cur.length
    · rw [s_sh_s, if_pos c] at he
      rw [if_neg (fun z => by have := of_decide_eq_true z; omega)]
      obtain ⟨r, g1, e1, e3, e4⟩ := Z.row2 (show n < ((y_st pr k cur).2.getD k y_t0).2.2.length by rw [e2]; omega)
      have hx : ∀ i r', i < cur.length → bm_gr w1 (pg_tb (t + 4) (k : Int) + 1) i = some r' → (some r' = some r ↔ some n = some i) := fun i r' hi hr' => by
        constructor
        · intro z
          injection z with z
          rw [z] at hr'
          have := (h.apart (k := k) (k' := k) (by rw [y_st_len]; exact hk) (by rw [y_st_len]; exact hk) (by rw [e2]; exact hi) (by rw [e2]; omega) hr' g1).2
          rw [this]
        · intro z
          injection z with z
          rw [← z, g1] at hr'
          exact hr'.symm
      rw [c1.2.2.2.2.2.2.2.1, bm_u_some]
      refine ⟨⟨c1.2.1, rfl⟩, Z.2.1.1, ?_⟩
      rw [sp_rowAt (d := d + 25) Z.2.1, bm_c3_v, e1]
      refine ⟨c1.2.2.2.2.2.2.2.2.2.1, h.chg (d := d) hS hk hx (fun w2 h2 S2 F2 => ?_)⟩
      rw [bm_c2_v, sp_bits_v (d := d + 25) (show (y_tF pr k).2.2.1 ≤ 63 by omega), bm_c1_v]
      have c2 := h2.1.1
      refine ⟨trivial, ⟨c2.2.1, by rw [c2.2.2.2.2.2.2.2.1]; rfl⟩, ?_⟩
      rw [c2.2.2.2.2.2.2.2.1, bm_u_some]
      refine ⟨c2.2.2.2.2.2.2.2.2.2.1, h2.chg (d := d) S2 hk (x := none) hx0 (fun w3 h3 S3 F3 => ?_)⟩
      rw [bm_c2_v, sp_bits_v (d := d + 25) (show (y_tF pr k).2.2.1 ≤ 63 by omega), bm_c1_v]
      have ea : u_c (fun p => s_ft (y_tF pr k).2.2.2.2 cur (some n) p cur.length) (y_tF pr k).2.2.1 = s_fn (y_tF pr k).2.2.2.2 (cur.eraseIdx n) (y_tF pr k).2.2.1 := u_c_ext (fun p _ => s_ft_erase (by omega))
      have eb : u_c (fun p => s_ft (y_tF pr k).2.2.2.2 cur none p cur.length) (y_tF pr k).2.2.1 = s_fn (y_tF pr k).2.2.2.2 cur (y_tF pr k).2.2.1 := rfl
      rw [ea, eb]
      have L3 : cL t 0 0 w w3 := ((hL.tr (cS.cL F2)).tr (cS.cL F3)).mo (Nat.le_refl _) (Nat.le_refl _)
      have em : (n : Int) + -1 = (n : Int) - 1 := by omega
      refine ⟨trivial, ?_⟩
      by_cases c' : s_fn (y_tF pr k).2.2.2.2 (cur.eraseIdx n) (y_tF pr k).2.2.1 = s_fn (y_tF pr k).2.2.2.2 cur (y_tF pr k).2.2.1
      · rw [if_pos c'] at he
        rw [if_neg (by simp [c'])]
        have Z3 := h3.2.1.2.2.2 k (by rw [y_st_len]; exact hk)
        refine ⟨Z3.2.1.1, cQ.dropped (d := d + 22) h3 S3 (by rw [y_st_len]; exact hk) (by rw [e2]; omega) (fun w4 h4 S4 L4 => ?_)⟩
        rw [bm_c0_v, q_wI (x := (n : Int) + -1) ⟨by omega, by omega⟩, em]
        rw [e2, y_st_st hk] at h4 S4
        exact ih (cur.eraseIdx n) w4 (by rw [List.length_eraseIdx_of_lt (by omega)]; omega) h4 S4 ((L3.tr L4).mo (Nat.le_refl _) (Nat.le_refl _)) he
      · rw [if_neg c'] at he
        rw [if_pos (by simp [c']), q_wI (x := (n : Int) + -1) ⟨by omega, by omega⟩, em]
        exact ih cur w3 (by omega) h3 S3 L3 he
    · rw [s_sh_1 c] at he
      rw [if_pos (decide_eq_true (by omega))]
      exact fin cur w1 h hS hL he
/-- the program that shortening gives -/
def y_so (pr : y_pr) (k : Nat) : List y_rw := s_sh (y_tF pr k).2.2.2.2 (y_tF pr k).2.2.1 (pr.2.getD k y_t0).2.2.length (pr.2.getD k y_t0).2.2
theorem co_shorten {x : Int} (h : cZ b t B pr w) (hS : zS t pr w) (q1 : 0 ≤ x ∧ x < (pr.2.length : Int) → ∀ w', cL t 0 0 w w' → cZ b t B (y_st pr x.toNat (y_so pr x.toNat)) w' → zS t (y_st pr x.toNat (y_so pr x.toNat)) w' → Φ (.inl (some (bm_i ((y_so pr x.toNat).length : Int)))) w') (q0 : ¬ (0 ≤ x ∧ x < (pr.2.length : Int)) → Φ (.inr "java/lang/IndexOutOfBoundsException") (bm_tw w)) : bm_Call bm_pg (d + 27) y_X11_shorten [bm_r (some b), bm_i x] w Φ := by
  have c1 := h.1.1
  refine vc_X11_shorten ⟨c1.2.1, h.exT (d := d + 24) (fun c => ?_) q0⟩
  rw [bm_c3_v]
  obtain ⟨k, rfl⟩ : ∃ k : Nat, x = (k : Int) := ⟨x.toNat, by omega⟩
  have hk : k < pr.2.length := by omega
  have Z := h.2.1.2.2.2 k hk
  have r12 := Z.2.2.2.2.1.2.1
  have os := h.1.2.2.2.2.2.1.1
  have q1 := q1 c
  rw [Int.toNat_natCast] at q1
  rw [Z.2.2.2.2.1.1, q_wI (x := ((pr.2.getD k y_t0).2.2.length : Int) - 1) ⟨by omega, by omega⟩]
  refine ⟨Z.2.1.1, so_13 (d := d) (B := B) (rows := (pr.2.getD k y_t0).2.2) hk w (by omega) (fun rows' w' a1 a2 a3 a4 => ?_) (pr.2.getD k y_t0).2.2.length (pr.2.getD k y_t0).2.2 w (Nat.le_refl _) ?_ ?_ cL.rf rfl⟩
  · rw [a4] at a2 a3 ⊢
    exact q1 w' a1 a2 a3
  · rw [y_st_self hk]
    exact ⟨h.1, h.2.1, h.2.2.1, trivial, h.2.2.2.2⟩
  · rw [y_st_self hk]
    exact hS
end SO

section GC
variable {d b t k : Nat} {B : Int → Int} {pr : y_pr} {w w' : bm_W} {Φ : bm_Rt → bm_W → Prop}
/-- behind a case that is added -/
theorem ac_fin {r : Nat} {w1 w5 : bm_W} (h : cZ b t B pr w) (hS : zS t pr w) (hk : k < pr.2.length) (hfk : y_fk (y_tF pr k).2.1) (ok : y_gok pr k) (hn : nrw t (pg_tb (t + 4) (k : Int)) (bm_gi w (pg_tb (t + 4) (k : Int)) 5) w r w1)
    (F : q_fr (fun a => (r ≤ a ∧ a ≤ r + 3) ∨ (t + 113 ≤ a ∧ a ≤ t + 116) ∨ a = pg_tb (t + 4) (k : Int)) w1 w5) (hr : yrw r (y_gR pr k) w5) (hr4 : bm_gi w5 r 4 = 0) (h6 : bm_gi w5 (t + 113) 6 = 0) (e4 : bm_gi w5 (pg_tb (t + 4) (k : Int)) 4 = bm_gi w1 (pg_tb (t + 4) (k : Int)) 4) (e5 : bm_gi w5 (pg_tb (t + 4) (k : Int)) 5 = ((pr.2.getD k y_t0).2.2.length : Int) + 1) (e6 : bm_gi w5 (pg_tb (t + 4) (k : Int)) 6 = y_ct (pr.2.getD k y_t0).2.2 + 1) : cZ b t B (y_gp pr k) (bm_si w5 (t + 117) 2 0) ∧ zS t (y_gp pr k) (bm_si w5 (t + 117) 2 0) ∧ cL t 0 0 w (bm_si w5 (t + 117) 2 0) ∧ cI b t w5 := by
  have Z := h.2.1.2.2.2 k hk
  have l6 := h.2.1.2.2.1
  have c5 := Z.2.2.2.2.1.1
  have n3 := Z.2.2.2.2.2.2.1.2.2.2
  have eb := h.1.1.1
  have tk := h.2.1.tb (k := k) (by omega)
  have os := h.1.2.2.2.2.2.1.1
  have ok2 := ok.2.1
  obtain ⟨nk, ⟨gc, gs, G⟩, ho, hT, hR, -, hsz, hp, hj, hap, hv⟩ := hn
  rw [c5] at hp hj hap
  obtain ⟨hpr, r156⟩ := hp (by omega) (by omega)
  rw [Int.toNat_natCast] at hpr
  -- the world that is left
  have F6 : q_fr (fun a => (r ≤ a ∧ a ≤ r + 3) ∨ (t + 113 ≤ a ∧ a ≤ t + 117) ∨ a = pg_tb (t + 4) (k : Int)) w1 (bm_si w5 (t + 117) 2 0) := (F.mo (fun a z => by omega)).si (by omega)
  have gR : ∀ T' j, T' + 1 ≠ pg_tb (t + 4) (k : Int) + 1 → T' + 1 < bm_sz w → bm_gr w1 (T' + 1) j = bm_gr w (T' + 1) j := fun T' j z y => G.gr y z
  have I1 : cI b t w1 := h.1.gn (k := k) G (fun a z => ⟨by omega, by omega, fun i => by have := pg_fn_off t i; omega⟩) (by omega) (fun a z => z) hT ho
  have I5 : cI b t w5 := I1.frA F (by omega) (by omega) (fun i => by have := pg_fn_off t i; omega)
  have I6 : cI b t (bm_si w5 (t + 117) 2 0) := I1.frA F6 (by omega) (by omega) (fun i => by have := pg_fn_off t i; omega)
  -- cells that stay
  have st : ∀ a, a < bm_sz w → ¬ ((r ≤ a ∧ a ≤ r + 3) ∨ (t + 113 ≤ a ∧ a ≤ t + 117) ∨ a = pg_tb (t + 4) (k : Int)) → ∀ j, bm_gi (bm_si w5 (t + 117) 2 0) a j = bm_gi w a j ∧ bm_gl (bm_si w5 (t + 117) 2 0) a j = bm_gl w a j := fun a ha hn j => ⟨(F6.gi hn).trans (G.gi ha (fun z => hn (Or.inl z))), (F6.gl hn).trans (G.gl ha (fun z => hn (Or.inl z)))⟩
  have gr6 : bm_gr (bm_si w5 (t + 117) 2 0) = bm_gr w1 := F6.gr
  have fnb : ∀ g F', yfn t B g F' w → yfn t B g F' (bm_si w5 (t + 117) 2 0) := fun g F' hf => hf.bk (fun x _ a u v j => by
    have := pg_fn_off t (x : Int)
    exact st a (by omega) (by omega) j)
  -- rows that stay
  have rws : ∀ k' i r', k' < pr.2.length → i < (pr.2.getD k' y_t0).2.2.length → bm_gr w (pg_tb (t + 4) (k' : Int) + 1) i = some r' → bm_gr w1 (pg_tb (t + 4) (k' : Int) + 1) i = some r' ∧ (r' + 4 ≤ r ∨ r + 4 ≤ r') ∧ t + 125 ≤ r' ∧ r' + 4 ≤ bm_sz w := fun k' i r' hk' hi hr' => by
    have r12 := (h.2.1.2.2.2 k' hk').2.2.2.2.1.2.1
    have ro := h.1.2.2.2.2.2.1.2.1 _ i r' ⟨⟨(k' : Int), rfl⟩, by omega, hr'⟩
    have tk' := h.2.1.tb (k := k') (by omega)
    by_cases c : k' = k
    · subst c
      have e1 : bm_gr w1 (pg_tb (t + 4) (k' : Int) + 1) i = some r' := by rw [hj i (by omega)]; exact hr'
      rcases hap _ i r' ⟨⟨(k' : Int), rfl⟩, by omega, e1⟩ with z | z
      · omega
      · exact ⟨e1, z, ro.1, ro.2⟩
    · have e1 : bm_gr w1 (pg_tb (t + 4) (k' : Int) + 1) i = some r' := by rw [gR _ i (by omega) (by omega)]; exact hr'
      rcases hap _ i r' ⟨⟨(k' : Int), rfl⟩, by omega, e1⟩ with z | z
      · omega
      · exact ⟨e1, z, ro.1, ro.2⟩
  have ct := Z.2.2.2.2.1.2.2.1
  have fr4 : bm_gi w1 (pg_tb (t + 4) (k : Int)) 4 = bm_gi w (pg_tb (t + 4) (k : Int)) 4 := G.gi (by omega) (by omega)
  refine ⟨?_, ?_, ?_, I5⟩
  · refine cZ.mk I6 (h.2.2.1.bk (st _ (by omega) (by omega) _).1 (fun x _ a u v j => by have := pg_fn_off t (x : Int); exact st a (by omega) (by omega) j)) (by rw [y_gp_len]; exact (st _ (by omega) (by omega) _).1.trans h.2.1.2.1) (by rw [y_gp_len]; exact l6) (fun k' hk' => ?_) (Or.inl q_gi_eq) ((q_gi_ne (by omega)).trans h6)
    rw [y_gp_len] at hk'
    rw [y_gp_f hk, y_gp_F hk, y_gp_r hk]
    have Z' := h.2.1.2.2.2 k' hk'
    have tk' := h.2.1.tb (k := k') (by omega)
    by_cases c : k' = k
    · subst c
      rw [if_pos rfl]
      refine ⟨(q_gi_ne (by omega)).trans (e4.trans (fr4.trans Z.2.2.1)), fnb _ _ Z.2.2.2.1, ⟨?_, ?_, ?_, ?_, fun i hi => ?_⟩, Z.2.2.2.2.2.2.1.1, Z.2.2.2.2.2.2.1.2.2.1⟩
      · rw [q_gi_ne (by omega), e5, List.length_append, List.length_singleton]
        omega
      · rw [List.length_append, List.length_singleton]
        omega
      · rw [q_gi_ne (by omega), e6, y_ct_app, y_gR_cs hfk n3]
      · rw [y_ct_app, y_gR_cs hfk n3]
        have := ok.2.2
        omega
      · rw [List.length_append, List.length_singleton] at hi
        by_cases z : i = (pr.2.getD k' y_t0).2.2.length
        · rw [q_gde z, gr6, z]
          exact ⟨r, hpr, hr.bk (fun a u v j => ⟨q_gi_ne (by omega), rfl⟩), y_gR_k hfk⟩
        · have il : i < (pr.2.getD k' y_t0).2.2.length := by omega
          obtain ⟨r', g1, -, ⟨-, g2, g3, -⟩, -⟩ := Z.row2 il
          obtain ⟨x1, x2, x3, x4⟩ := rws k' i r' hk il g1
          rw [q_gdl il, gr6]
          exact ⟨r', x1, g2.bk (fun a u v j => st a (by omega) (by omega) j), g3⟩
    · rw [if_neg c]
      refine ⟨(st _ (by omega) (by omega) _).1.trans Z'.2.2.1, fnb _ _ Z'.2.2.2.1, Z'.2.2.2.2.1.mv (st _ (by omega) (by omega) _).1 (st _ (by omega) (by omega) _).1 (fun i hi => ?_) (fun i r' hi hr' a u v j => ?_), Z'.2.2.2.2.2.2.1.1, Z'.2.2.2.2.2.2.1.2.2.1⟩
      · rw [gr6, gR _ i (by omega) (by omega)]
      · obtain ⟨x1, x2, x3, x4⟩ := rws k' i r' hk' hi hr'
        exact st a (by omega) (by omega) j
  · intro k' i r' hk' hi hr'
    rw [y_gp_len] at hk'
    rw [y_gp_r hk] at hi
    rw [gr6] at hr'
    rw [y_gp_F hk, y_gp_r hk]
    have tk' := h.2.1.tb (k := k') (by omega)
    have old : i < (pr.2.getD k' y_t0).2.2.length → bm_gr w (pg_tb (t + 4) (k' : Int) + 1) i = some r' → bm_gi (bm_si w5 (t + 117) 2 0) r' 4 = 0 ∨ (bm_gi (bm_si w5 (t + 117) 2 0) r' 4 = 1 ∧ bm_gl (bm_si w5 (t + 117) 2 0) r' 3 = ((u_v (s_fw (y_tF pr k').2.2.2.2 ((pr.2.getD k' y_t0).2.2.getD i y_r0)) (y_tF pr k').2.2.1 : Nat) : Int)) := fun il hr2 => by
      obtain ⟨x1, x2, x3, x4⟩ := rws k' i r' hk' il hr2
      rw [(st r' (by omega) (by omega) 4).1, (st r' (by omega) (by omega) 3).2]
      exact hS k' i r' hk' il hr2
    by_cases c : k' = k
    · subst c
      rw [if_pos rfl] at hi ⊢
      rw [List.length_append, List.length_singleton] at hi
      by_cases z : i = (pr.2.getD k' y_t0).2.2.length
      · rw [z, hpr] at hr'
        injection hr' with hr'
        rw [← hr']
        exact Or.inl ((q_gi_ne (by omega)).trans hr4)
      · rw [q_gdl (by omega)]
        exact old (by omega) (by rw [← hj i (by omega)]; exact hr')
    · rw [if_neg c] at hi ⊢
      exact old hi (by rw [← gR _ i (by omega) (by omega)]; exact hr')
  · have c1 := cL.kf nk G (fun a z => by unfold cB; omega) (fun a z => by unfold cA; omega)
    exact (c1.tr (cL.of F6 (fun a z => by unfold cB; omega))).mo (Nat.le_refl _) (Nat.le_refl _)
end GC

/-! ===== what both compiles leave ===== -/
/-- what is known of a program's tables -/
def y_tbs (pr : y_pr) : Prop := ∀ k, k < pr.2.length → (pr.2.getD k y_t0).2.1 < pr.1.length ∧ y_ct (pr.2.getD k y_t0).2.2 ≤ 100 ∧ ∀ i, i < (pr.2.getD k y_t0).2.2.length → y_rk (y_tF pr k).2.1.length ((pr.2.getD k y_t0).2.2.getD i y_r0)
section BC
variable {b t m N : Nat} {B : Int → Int} {pr : y_pr} {w : bm_W} {x pl : Int}
theorem cZ.of (h : cI b t w) (hf : yfs t B pr.1 w) (ht : yts t B pr.2 w) (hb : y_tbs pr) (hl : y_lcs pr) (h2 : bm_gi w (t + 117) 2 = 0) (h6 : bm_gi w (t + 113) 6 = 0) : cZ b t B pr w := by
  have c1 := h.1
  have Ru : sh_Ru t w := ⟨c1.2.2.2.2.2.2.2.2.2.1, c1.2.2.2.2.2.2.2.2.2.2.1, c1.2.2.2.2.2.2.2.2.2.2.2.1, h.2.2.2.1, h.2.2.2.2.1⟩
  have ro := h.2.2.2.2.2.1
  have f6 := hf.2.1
  refine ⟨h, ⟨Ru, ht.1, ht.2.1, fun k hk => ?_⟩, hf, Or.inl h2, h6⟩
  obtain ⟨p1, p2, p3⟩ := hb k hk
  obtain ⟨-, t2, r1, r2, r3, r4, r5, r6⟩ := ht.2.2 k hk
  have fn := hf.2.2 _ p1
  refine ⟨Ru, h.2.2.2.1.tb (k : Int), t2, fn, ⟨r1, r2, r3, p2, fun i hi => ?_⟩, fun i r hi hr => (ro.2.1 _ i r ⟨⟨_, rfl⟩, hi, hr⟩).1, ⟨hl _ p1, rfl, by omega, fn.2.1.2.1⟩, ⟨_, rfl⟩⟩
  obtain ⟨r, s1, s2, -⟩ := r6 i hi
  exact ⟨r, s1, s2, p3 i hi⟩
end BC

/-! ===== one side's step keeps the other side ===== -/
section ST
variable {b t m c s : Nat} {B : Int → Int} {pr : y_pr} {w w' : bm_W}
theorem cZ.far (h : cZ b t B pr w) (G : q_gw (fun a => t + 118 ≤ a ∧ a ≤ t + 124) (fun _ => False) c s w w') : cZ b t B pr w' := by
  obtain ⟨⟨a1, a2, a3, a4, a5, a6, a7, a8, a9⟩, ⟨d1, d2, d3, d4⟩, c3, c4, c5⟩ := h
  have os := a6.1
  have eb := a1.1
  have R0 : ∀ a : Nat, ¬ (fun _ : Nat => False) a := fun _ z => z
  have e : ∀ a j, a < bm_sz w → ¬ (t + 118 ≤ a ∧ a ≤ t + 124) → bm_gi w' a j = bm_gi w a j ∧ bm_gl w' a j = bm_gl w a j := fun a j u v => ⟨G.gi u v, G.gl u v⟩
  have Ru : sh_Ru t w' := ⟨(G.kt (by omega)).trans d1.1, (G.gr (by omega) (fun z => z)).trans d1.2.1, (G.gr (by omega) (fun z => z)).trans d1.2.2.1, a4.gwR G a6 (fun _ z => z.elim), a5.gw G (by omega) (fun z => z)⟩
  have hI : cI b t w' := by
    refine ⟨a1.gw G (by omega) (fun z => z) (fun z => z) (fun z => z), ⟨a2.1.gw G (by omega) (fun z => z), (G.gr (by omega) (fun z => z)).trans a2.2.1, a2.2.2.1.gw G (by omega) (fun z => z), a2.2.2.2.1, ?_⟩, ⟨(G.kt (by omega)).trans a3.1, (G.gr (by omega) (fun z => z)).trans a3.2.1, (G.gr (by omega) (fun z => z)).trans a3.2.2⟩, Ru.2.2.2.1, Ru.2.2.2.2, a6.gw G (fun j _ z => z), ?_, ?_, fun i => ?_⟩
    · rw [(e _ _ (by omega) (by omega)).1]; exact a2.2.2.2.2
    · rw [(e _ _ (by omega) (by omega)).1]; exact a7
    · rw [(e _ _ (by omega) (by omega)).1]; exact a8
    · have := pg_fn_off t i
      rw [(e _ _ (by omega) (by omega)).1]; exact a9 i
  refine ⟨hI, ⟨Ru, (e _ _ (by omega) (by omega)).1.trans d2, d3, fun k hk => ?_⟩, c3.bk (e _ _ (by omega) (by omega)).1 (fun y _ a u v j => by have := pg_fn_off t (y : Int); exact e a j (by omega) (by omega)), ?_, (e _ _ (by omega) (by omega)).1.trans c5⟩
  · have off := (d4 k hk).off
    obtain ⟨z1, z2, z3, z4, ⟨b1, b2, b3, b4, b5⟩, z6, z7, z8⟩ := d4 k hk
    refine ⟨Ru, Ru.2.2.2.1.tb (k : Int), (e _ _ (by omega) (by omega)).1.trans z3, z4.bk (fun y _ a u v j => by have := pg_fn_off t (y : Int); exact e a j (by omega) (by omega)), ⟨(e _ _ (by omega) (by omega)).1.trans b1, b2, (e _ _ (by omega) (by omega)).1.trans b3, b4, fun i hi => ?_⟩, fun i r hi hr => z6 i r hi (by rw [← G.gr (by omega) (fun z => z)]; exact hr), z7, z8⟩
    obtain ⟨r, r1, r2, r3⟩ := b5 i hi
    have ro := a6.2.1 _ i r ⟨z8, by omega, r1⟩
    exact ⟨r, (G.gr (by omega) (fun z => z)).trans r1, r2.bk (fun a u v j => e a j (by omega) (by omega)), r3⟩
  · rcases c4 with q | ⟨n1, n2, n3⟩
    · exact Or.inl ((e _ _ (by omega) (by omega)).1.trans q)
    · refine Or.inr ⟨(e _ _ (by omega) (by omega)).1.trans n1, fun k hk j hj => ?_, fun j hj => ?_⟩
      · have := pg_tb_off t (k : Int)
        rw [(e _ _ (by omega) (by omega)).1]; exact n2 k hk j hj
      · rw [(e _ _ (by omega) (by omega)).1, (e _ _ (by omega) (by omega)).1]; exact n3 j hj
end ST

/-! ===== before the first turn ===== -/
section BU
variable {b c s k d m : Nat} {w w' : bm_W}
theorem cl_S.gw (h : cl_S b w) (G : q_gw (fun a => b + 125 ≤ a) (fun a => b + 125 ≤ a) c s w w') (hz : b + 125 ≤ bm_sz w) : cl_S b w' := by
  obtain ⟨⟨a1, a2⟩, h1, ⟨h2, h2b⟩, h3, ⟨h4, h4a, h4b⟩, h5, ⟨h6, h6a, h6b⟩, h7, h8, h9⟩ := h
  refine ⟨⟨(G.kt (by omega)).trans a1, fun j hj => (G.gr (by omega) (by omega)).trans (a2 j hj)⟩, h1.gw G (by omega) (by omega), ⟨h2.gw G (by omega) (by omega), (G.gr (by omega) (by omega)).trans h2b⟩, h3.gw G (by omega) (Or.inr rfl) (fun x y => by omega), ⟨(G.kt (by omega)).trans h4, (G.gr (by omega) (by omega)).trans h4a, (G.gr (by omega) (by omega)).trans h4b⟩, h5.gw G (by omega) (by omega), ⟨(G.kt (by omega)).trans h6, (G.gr (by omega) (by omega)).trans h6a, (G.gr (by omega) (by omega)).trans h6b⟩, h7.gw G (by omega) (by omega), fun a x y j => ?_, (G.gi (by omega) (by omega)).trans h9⟩
  have z := h8 a x y j
  exact ⟨(G.gi (by omega) (by omega)).trans z.1, (G.gl (by omega) (by omega)).trans z.2⟩
theorem cl_lC (h : cl_S b w) (hz : b + 159 ≤ bm_sz w) {B : Int → Int} {D : Nat → Int} : lC b (b + 3) B ([], []) 0 0 D (-1) w := by
  obtain ⟨⟨a1, a2⟩, h1, ⟨h2, h2b⟩, h3, ⟨h4, h4a, h4b⟩, h5, ⟨h6, h6a, h6b⟩, h7, h8, h9⟩ := h
  obtain ⟨p1, p2⟩ := h3.pg
  have z4 : ∀ j, bm_gi w (b + 3 + 4) j = 0 := fun j => (h8 (b + 7) (by omega) (by omega) j).1
  have ru : sh_Ru (b + 3) w := ⟨h6, h6a, h6b, p1, h5⟩
  have fn : ∀ i : Int, bm_gi w (pg_fn (b + 3 + 4) i) 6 = 0 := fun i => by
    refine (h8 _ ?_ ?_ 6).1 <;> (unfold pg_fn; split <;> omega)
  refine ⟨⟨⟨⟨rfl, a1, a2 0 (by omega), a2 1 (by omega), a2 2 (by omega), a2 3 (by omega), a2 4 (by omega), a2 5 (by omega), a2 6 (by omega), h6, h6a, h6b, h7⟩, ⟨h2, h2b, h1, rfl, ?_, ?_⟩, ⟨h4, h4a, h4b⟩, p1, h5, ⟨by omega, ?_, ?_⟩, ?_, ?_, fun i => ?_⟩, ⟨ru, z4 5, by decide, fun k hk => absurd hk (by simp)⟩, ⟨z4 4, by decide, fun g hg => absurd hg (by simp)⟩, Or.inl (h8 (b + 120) (by omega) (by omega) 2).1, (h8 (b + 116) (by omega) (by omega) 6).1⟩, fun k i r hk => absurd hk (by simp), ⟨h1, (h8 (b + 1) (by omega) (by omega) 1).1, fun k hk => by omega⟩, z4 6, h9⟩
  · rw [(h8 (b + 1) (by omega) (by omega) 1).1]; omega
  · rw [(h8 (b + 1) (by omega) (by omega) 1).1]; omega
  · rintro T j r ⟨⟨i, rfl⟩, -, hr⟩
    rw [p2 i j] at hr
    cases hr
  · rintro T j r T' j' r' ⟨⟨i, rfl⟩, -, hr⟩
    rw [p2 i j] at hr
    cases hr
  · rw [z4 4]; omega
  · rw [z4 5]; omega
  · rw [fn i]; omega
theorem mi_lM (h : sh_Md m w) (hz : m + 31 < bm_sz w) (hN : mi_N m w) {B : Int → Int} {D : Nat → Int} : lM m B ([], []) 0 0 D (-1) w := by
  refine ⟨⟨h, hz, ⟨hN.2 18 (by omega), by decide, fun g hg => absurd hg (by simp), fun i j _ hj => absurd hj (by simp)⟩, ⟨hN.2 28 (by omega), by decide, fun g hg => absurd hg (by simp), fun i j _ hj => absurd hj (by simp)⟩, fun g hg => absurd hg (by simp), fun g hg => absurd hg (by simp)⟩, ⟨hN.2 2 (by omega), fun k hk => by omega⟩, hN.2 27 (by omega), hN.2 37 (by omega), hN.1⟩
/-- behind the law's four makings -/
theorem be_J {w1 w2 : bm_W} (h1 : cl_S b w1) (z1 : bm_sz w1 = b + 125) (h2 : sh_Md (b + 125) w2) (z2 : bm_sz w2 = b + 157) (hN : mi_N (b + 125) w2) (G : q_gw (fun a => a = b + 125) (fun a => a = b + 125) 31 k (bm_nw w1 12 0 43) w2) :
    lJ b (b + 3) 0 (bm_nw (bm_nw w2 22 1 1) 27 1 1) ∧ lt_K b (b + 3) (bm_nw (bm_nw w2 22 1 1) 27 1 1) := by
  have Ga : q_gw (fun a => b + 125 ≤ a) (fun a => b + 125 ≤ a) (0 + 1) (0 + 43) w1 (bm_nw w1 12 0 43) := q_gw.rf.nw
  have Gb : q_gw (fun a => b + 125 ≤ a) (fun a => b + 125 ≤ a) 31 k (bm_nw w1 12 0 43) w2 := G.mo (fun a z => by omega) (fun a z => by omega) (Nat.le_refl _) (Nat.le_refl _)
  have Gc : q_gw (fun a => a = b + 157) (fun a => a = b + 157) (0 + 1 + 1) (0 + 1 + 1) w2 (bm_nw (bm_nw w2 22 1 1) 27 1 1) := q_gw.rf.nw.nw
  have Gd : q_gw (fun a => b + 125 ≤ a) (fun a => b + 125 ≤ a) (0 + 1 + 1) (0 + 1 + 1) w2 (bm_nw (bm_nw w2 22 1 1) 27 1 1) := q_gw.rf.nw.nw
  have S := h1.gw ((Ga.tr Gb).tr Gd) (by omega)
  have M := h2.gw Gc (by omega) (by omega)
  have N : mi_N (b + 125) (bm_nw (bm_nw w2 22 1 1) 27 1 1) := ⟨(Gc.gi (by omega) (by omega)).trans hN.1, fun k hk => (Gc.gi (by omega) (by omega)).trans (hN.2 k hk)⟩
  have sz : bm_sz (bm_nw (bm_nw w2 22 1 1) 27 1 1) = b + 159 := by rw [bm_nw_sz, bm_nw_sz]; omega
  refine ⟨⟨fun _ => 0, ([], []), 0, fun _ => 0, -1, ⟨fun k hk => absurd hk (by simp), by decide, by decide, fun k hk => by omega⟩, cl_lC S (by omega), mi_lM M (by omega) N⟩, by omega, rfl, ?_, ?_, ?_, ?_, M.1, S.1.1⟩
  · show bm_kt _ (b + 157) = 22
    rw [bm_nw_kt, bm_nw_sz, if_neg (by omega), bm_nw_kt, if_pos (by omega)]
  · show bm_kn _ (b + 157) = 1
    rw [bm_nw_kn, bm_nw_sz, if_neg (by omega), bm_nw_kn, if_pos (by omega)]
  · show bm_kt _ (b + 158) = 27
    rw [bm_nw_kt, bm_nw_sz, if_pos (by omega)]
  · show bm_kn _ (b + 158) = 1
    rw [bm_nw_kn, bm_nw_sz, if_pos (by omega)]
end BU

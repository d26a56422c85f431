/-! ===== a new model ===== -/
/-- the model m, j of its rows made -/
def mi_S (m j : Nat) (w : bm_W) : Prop := (bm_sz w = m + 1 + j ∧ bm_kt w m = 12) ∧ ∀ i, i < j → bm_gr w m (md_tab.getD i (0, 0, 0, 0)).1 = some (m + (i + 1)) ∧ bm_kt w (m + (i + 1)) = (md_tab.getD i (0, 0, 0, 0)).2.2.1 ∧ bm_kn w (m + (i + 1)) = (md_tab.getD i (0, 0, 0, 0)).2.2.2
def mi_N (m : Nat) (w : bm_W) : Prop := bm_gi w m 3 = -1 ∧ ∀ k, k ≠ 3 → bm_gi w m k = 0
section MI
variable {m j c s n n' f t d : Nat} {w w' w0 : bm_W} {Φ : bm_Rt → bm_W → Prop} {v : Option Nat}
theorem md_fd : ∀ i, i < 31 → ∀ k, k < i → (md_tab.getD k (0, 0, 0, 0)).1 ≠ (md_tab.getD i (0, 0, 0, 0)).1 := by decide
theorem md_sd : ∀ i, i < 31 → (md_tab.getD i (0, 0, 0, 0)).2.1 = i + 1 := by decide
theorem mi_S.st {f t n : Nat} (S : mi_S m j w) (hj : j < 31) (h : md_tab.getD j (0, 0, 0, 0) = (f, j + 1, t, n)) : mi_S m (j + 1) (bm_sr (bm_nw w t n n) m f (some (bm_sz w))) := by
  obtain ⟨⟨h1, h2⟩, h3⟩ := S
  have h4 := md_fd j hj
  rw [h] at h4
  refine ⟨⟨by rw [bm_sr_sz, bm_nw_sz]; omega, by rw [bm_sr_kt, bm_nw_kt, if_neg (by omega)]; exact h2⟩, fun i hi => ?_⟩
  by_cases e : i = j
  · subst e
    rw [h]
    refine ⟨?_, ?_, ?_⟩
    · rw [bm_sr_gr, if_pos ⟨rfl, rfl⟩, h1]; congr 1; omega
    · rw [bm_sr_kt, bm_nw_kt, if_pos (by omega)]
    · rw [bm_sr_kn, bm_nw_kn, if_pos (by omega)]
  · have g := h3 i (by omega)
    have g4 := h4 i (by omega)
    refine ⟨?_, ?_, ?_⟩
    · rw [bm_sr_gr, if_neg (fun y => g4 y.2), bm_nw_gr, if_neg (by omega)]; exact g.1
    · rw [bm_sr_kt, bm_nw_kt, if_neg (by omega)]; exact g.2.1
    · rw [bm_sr_kn, bm_nw_kn, if_neg (by omega)]; exact g.2.2
theorem mi_N.st {z : Nat} (N : mi_N m w) (S : mi_S m j w) : mi_N m (bm_sr (bm_nw w t n z) m f v) := by
  have h1 := S.1.1
  exact ⟨by rw [bm_sr_gi, bm_nw_gi, if_neg (by omega)]; exact N.1, fun k hk => by rw [bm_sr_gi, bm_nw_gi, if_neg (by omega)]; exact N.2 k hk⟩
theorem mi_S.kt {z : Nat} (S : mi_S m j w) : bm_kt (bm_nw w t n z) m = 12 := by
  have h1 := S.1.1
  rw [bm_nw_kt, if_neg (by omega)]; exact S.1.2
theorem mi_S.kt1 {z : Nat} (S : mi_S m j w) : bm_kt (bm_sr (bm_nw w t n z) m f v) m = 12 := S.kt
theorem mi_S.kt2 {z t' z' n'' : Nat} (S : mi_S m j w) : bm_kt (bm_nw (bm_sr (bm_nw w t n z) m f v) t' n'' z') m = 12 := by
  have h1 := S.1.1
  rw [bm_nw_kt, bm_sr_sz, bm_nw_sz, if_neg (by omega)]; exact S.kt
theorem mi_g (G : q_gw (fun a => a = m) (fun a => a = m) c s w0 w) : q_gw (fun a => a = m) (fun a => a = m) (c + 1) (s + n) w0 (bm_sr (bm_nw w t n' n) m f v) := G.nw.sr (Or.inl rfl)
theorem mi_27 (S : mi_S m 2 w) (N : mi_N m w) (G : q_gw (fun a => a = m) (fun a => a = m) c s w0 w) (k : ∀ w', mi_S m 4 w' → mi_N m w' → q_gw (fun a => a = m) (fun a => a = m) (c + 1 + 1) (s + 1501 + 1501) w0 w' → bk_X12_init_45 d Φ m w') : bk_X12_init_27 d Φ m w :=
  vb_X12_init_27 ⟨by decide, S.kt, by decide, S.kt2, k _ ((S.st (n := 1501) (by decide) rfl).st (n := 1501) (by decide) rfl) ((N.st S).st (S.st (n := 1501) (by decide) rfl)) (mi_g (n := 1501) (mi_g (n := 1501) G))⟩
theorem mi_45 (S : mi_S m 4 w) (N : mi_N m w) (G : q_gw (fun a => a = m) (fun a => a = m) c s w0 w) (k : ∀ w', mi_S m 6 w' → mi_N m w' → q_gw (fun a => a = m) (fun a => a = m) (c + 1 + 1) (s + 1501 + 1501) w0 w' → bk_X12_init_63 d Φ m w') : bk_X12_init_45 d Φ m w :=
  vb_X12_init_45 ⟨by decide, S.kt, by decide, S.kt2, k _ ((S.st (n := 1501) (by decide) rfl).st (n := 1501) (by decide) rfl) ((N.st S).st (S.st (n := 1501) (by decide) rfl)) (mi_g (n := 1501) (mi_g (n := 1501) G))⟩
theorem mi_63 (S : mi_S m 6 w) (N : mi_N m w) (G : q_gw (fun a => a = m) (fun a => a = m) c s w0 w) (k : ∀ w', mi_S m 8 w' → mi_N m w' → q_gw (fun a => a = m) (fun a => a = m) (c + 1 + 1) (s + 1500 + 1500) w0 w' → bk_X12_init_81 d Φ m w') : bk_X12_init_63 d Φ m w :=
  vb_X12_init_63 ⟨by decide, S.kt, by decide, S.kt2, k _ ((S.st (n := 1500) (by decide) rfl).st (n := 1500) (by decide) rfl) ((N.st S).st (S.st (n := 1500) (by decide) rfl)) (mi_g (n := 1500) (mi_g (n := 1500) G))⟩
theorem mi_81 (S : mi_S m 8 w) (N : mi_N m w) (G : q_gw (fun a => a = m) (fun a => a = m) c s w0 w) (k : ∀ w', mi_S m 10 w' → mi_N m w' → q_gw (fun a => a = m) (fun a => a = m) (c + 1 + 1) (s + 1500 + 1500) w0 w' → bk_X12_init_99 d Φ m w') : bk_X12_init_81 d Φ m w :=
  vb_X12_init_81 ⟨by decide, S.kt, by decide, S.kt2, k _ ((S.st (n := 1500) (by decide) rfl).st (n := 1500) (by decide) rfl) ((N.st S).st (S.st (n := 1500) (by decide) rfl)) (mi_g (n := 1500) (mi_g (n := 1500) G))⟩
theorem mi_99 (S : mi_S m 10 w) (N : mi_N m w) (G : q_gw (fun a => a = m) (fun a => a = m) c s w0 w) (k : ∀ w', mi_S m 12 w' → mi_N m w' → q_gw (fun a => a = m) (fun a => a = m) (c + 1 + 1) (s + 1500 + 1500) w0 w' → bk_X12_init_117 d Φ m w') : bk_X12_init_99 d Φ m w :=
  vb_X12_init_99 ⟨by decide, S.kt, by decide, S.kt2, k _ ((S.st (n := 1500) (by decide) rfl).st (n := 1500) (by decide) rfl) ((N.st S).st (S.st (n := 1500) (by decide) rfl)) (mi_g (n := 1500) (mi_g (n := 1500) G))⟩
theorem mi_117 (S : mi_S m 12 w) (N : mi_N m w) (G : q_gw (fun a => a = m) (fun a => a = m) c s w0 w) (k : ∀ w', mi_S m 14 w' → mi_N m w' → q_gw (fun a => a = m) (fun a => a = m) (c + 1 + 1) (s + 6 + 6) w0 w' → bk_X12_init_133 d Φ m w') : bk_X12_init_117 d Φ m w :=
  vb_X12_init_117 ⟨by decide, S.kt, by decide, S.kt2, k _ ((S.st (n := 6) (by decide) rfl).st (n := 6) (by decide) rfl) ((N.st S).st (S.st (n := 6) (by decide) rfl)) (mi_g (n := 6) (mi_g (n := 6) G))⟩
theorem mi_133 (S : mi_S m 14 w) (N : mi_N m w) (G : q_gw (fun a => a = m) (fun a => a = m) c s w0 w) (k : ∀ w', mi_S m 16 w' → mi_N m w' → q_gw (fun a => a = m) (fun a => a = m) (c + 1 + 1) (s + 18 + 18) w0 w' → bk_X12_init_149 d Φ m w') : bk_X12_init_133 d Φ m w :=
  vb_X12_init_133 ⟨by decide, S.kt, by decide, S.kt2, k _ ((S.st (n := 18) (by decide) rfl).st (n := 18) (by decide) rfl) ((N.st S).st (S.st (n := 18) (by decide) rfl)) (mi_g (n := 18) (mi_g (n := 18) G))⟩
theorem mi_149 (S : mi_S m 16 w) (N : mi_N m w) (G : q_gw (fun a => a = m) (fun a => a = m) c s w0 w) (k : ∀ w', mi_S m 18 w' → mi_N m w' → q_gw (fun a => a = m) (fun a => a = m) (c + 1 + 1) (s + 18 + 6) w0 w' → bk_X12_init_165 d Φ m w') : bk_X12_init_149 d Φ m w :=
  vb_X12_init_149 ⟨by decide, S.kt, by decide, S.kt2, k _ ((S.st (n := 18) (by decide) rfl).st (n := 6) (by decide) rfl) ((N.st S).st (S.st (n := 18) (by decide) rfl)) (mi_g (n := 6) (mi_g (n := 18) G))⟩
theorem mi_165 (S : mi_S m 18 w) (N : mi_N m w) (G : q_gw (fun a => a = m) (fun a => a = m) c s w0 w) (k : ∀ w', mi_S m 20 w' → mi_N m w' → q_gw (fun a => a = m) (fun a => a = m) (c + 1 + 1) (s + 6 + 6) w0 w' → bk_X12_init_181 d Φ m w') : bk_X12_init_165 d Φ m w :=
  vb_X12_init_165 ⟨by decide, S.kt, by decide, S.kt2, k _ ((S.st (n := 6) (by decide) rfl).st (n := 6) (by decide) rfl) ((N.st S).st (S.st (n := 6) (by decide) rfl)) (mi_g (n := 6) (mi_g (n := 6) G))⟩
theorem mi_181 (S : mi_S m 20 w) (N : mi_N m w) (G : q_gw (fun a => a = m) (fun a => a = m) c s w0 w) (k : ∀ w', mi_S m 22 w' → mi_N m w' → q_gw (fun a => a = m) (fun a => a = m) (c + 1 + 1) (s + 6 + 6) w0 w' → bk_X12_init_197 d Φ m w') : bk_X12_init_181 d Φ m w :=
  vb_X12_init_181 ⟨by decide, S.kt, by decide, S.kt2, k _ ((S.st (n := 6) (by decide) rfl).st (n := 6) (by decide) rfl) ((N.st S).st (S.st (n := 6) (by decide) rfl)) (mi_g (n := 6) (mi_g (n := 6) G))⟩
theorem mi_197 (S : mi_S m 22 w) (N : mi_N m w) (G : q_gw (fun a => a = m) (fun a => a = m) c s w0 w) (k : ∀ w', mi_S m 24 w' → mi_N m w' → q_gw (fun a => a = m) (fun a => a = m) (c + 1 + 1) (s + 6 + 216) w0 w' → bk_X12_init_214 d Φ m w') : bk_X12_init_197 d Φ m w :=
  vb_X12_init_197 ⟨by decide, S.kt, by decide, S.kt2, k _ ((S.st (n := 6) (by decide) rfl).st (n := 216) (by decide) rfl) ((N.st S).st (S.st (n := 6) (by decide) rfl)) (mi_g (n := 216) (mi_g (n := 6) G))⟩
theorem mi_214 (S : mi_S m 24 w) (N : mi_N m w) (G : q_gw (fun a => a = m) (fun a => a = m) c s w0 w) (k : ∀ w', mi_S m 26 w' → mi_N m w' → q_gw (fun a => a = m) (fun a => a = m) (c + 1 + 1) (s + 216 + 72) w0 w' → bk_X12_init_231 d Φ m w') : bk_X12_init_214 d Φ m w :=
  vb_X12_init_214 ⟨by decide, S.kt, by decide, S.kt2, k _ ((S.st (n := 216) (by decide) rfl).st (n := 72) (by decide) rfl) ((N.st S).st (S.st (n := 216) (by decide) rfl)) (mi_g (n := 72) (mi_g (n := 216) G))⟩
theorem mi_231 (S : mi_S m 26 w) (N : mi_N m w) (G : q_gw (fun a => a = m) (fun a => a = m) c s w0 w) (k : ∀ w', mi_S m 28 w' → mi_N m w' → q_gw (fun a => a = m) (fun a => a = m) (c + 1 + 1) (s + 72 + 1500) w0 w' → bk_X12_init_248 d Φ m w') : bk_X12_init_231 d Φ m w :=
  vb_X12_init_231 ⟨by decide, S.kt, by decide, S.kt2, k _ ((S.st (n := 72) (by decide) rfl).st (n := 1500) (by decide) rfl) ((N.st S).st (S.st (n := 72) (by decide) rfl)) (mi_g (n := 1500) (mi_g (n := 72) G))⟩
theorem mi_248 (S : mi_S m 28 w) (N : mi_N m w) (G : q_gw (fun a => a = m) (fun a => a = m) c s w0 w) (k : ∀ w', mi_S m 30 w' → mi_N m w' → q_gw (fun a => a = m) (fun a => a = m) (c + 1 + 1) (s + 1500 + 6724) w0 w' → bk_X12_init_266 d Φ m w') : bk_X12_init_248 d Φ m w :=
  vb_X12_init_248 ⟨by decide, S.kt, by decide, S.kt2, k _ ((S.st (n := 1500) (by decide) rfl).st (n := 6724) (by decide) rfl) ((N.st S).st (S.st (n := 1500) (by decide) rfl)) (mi_g (n := 6724) (mi_g (n := 1500) G))⟩
theorem mi_266 (S : mi_S m 30 w) (N : mi_N m w) (G : q_gw (fun a => a = m) (fun a => a = m) c s w0 w) (k : ∀ w', mi_S m 31 w' → mi_N m w' → q_gw (fun a => a = m) (fun a => a = m) (c + 1) (s + 3) w0 w' → Φ (.inl none) w') : bk_X12_init_266 d Φ m w :=
  vb_X12_init_266 ⟨by decide, S.kt, k _ (S.st (n := 3) (by decide) rfl) (N.st S) (mi_g (n := 3) G)⟩
theorem mi_S.md (S : mi_S m 31 w) : sh_Md m w := by
  refine ⟨S.1.2, fun q hq => ?_⟩
  obtain ⟨i, hi, e⟩ := List.getElem_of_mem hq
  have hi2 : i < 31 := hi
  have e2 : md_tab.getD i (0, 0, 0, 0) = q := by rw [List.getD_eq_getElem?_getD, List.getElem?_eq_getElem hi, e]; rfl
  have h := S.2 i hi2
  have h2 := md_sd i hi2
  rw [e2] at h h2
  rw [h2]
  exact h
/-- the model -/
theorem mk_X12 (hp : m + 1 = bm_sz w) (hk : bm_kt w m = 12) (hz : ∀ k, bm_gi w m k = 0) : bm_Call bm_pg (d + 1) y_X12_init [bm_r (some m)] w (fun r w' => r = .inl none ∧ sh_Md m w' ∧ bm_sz w' = m + 32 ∧ mi_N m w' ∧ q_gw (fun a => a = m) (fun a => a = m) 31 28410 w w') := by
  have S0 : mi_S m 0 w := ⟨⟨by omega, hk⟩, fun i hi => by omega⟩
  have S1 := S0.st (f := 1) (t := 21) (n := 1500) (by decide) rfl
  have S2 : mi_S m 1 (bm_si (bm_sr (bm_nw w 21 1500 1500) m 1 (some (bm_sz w))) m 3 (-1)) := S1
  have N2 : mi_N m (bm_si (bm_sr (bm_nw w 21 1500 1500) m 1 (some (bm_sz w))) m 3 (-1)) := by
    refine ⟨by rw [bm_si_gi, if_pos ⟨rfl, rfl⟩], fun k hk => ?_⟩
    rw [bm_si_gi, if_neg (fun y => hk y.2), bm_sr_gi, bm_nw_gi, if_neg (by omega)]
    exact hz k
  have G2 : q_gw (fun a => a = m) (fun a => a = m) (0 + 1) (0 + 1500) w (bm_si (bm_sr (bm_nw w 21 1500 1500) m 1 (some (bm_sz w))) m 3 (-1)) := (mi_g q_gw.rf).si (Or.inl rfl)
  refine vc_X12_init ⟨rfl, by decide, S0.kt, S1.1.2, by decide, S2.kt, ?_⟩
  refine mi_27 (S2.st (n := 1501) (by decide) rfl) (N2.st S2) (mi_g (n := 1501) G2) (fun w3 S3 N3 G3 => ?_)
  refine mi_45 S3 N3 G3 (fun w4 S4 N4 G4 => ?_)
  refine mi_63 S4 N4 G4 (fun w5 S5 N5 G5 => ?_)
  refine mi_81 S5 N5 G5 (fun w6 S6 N6 G6 => ?_)
  refine mi_99 S6 N6 G6 (fun w7 S7 N7 G7 => ?_)
  refine mi_117 S7 N7 G7 (fun w8 S8 N8 G8 => ?_)
  refine mi_133 S8 N8 G8 (fun w9 S9 N9 G9 => ?_)
  refine mi_149 S9 N9 G9 (fun w10 S10 N10 G10 => ?_)
  refine mi_165 S10 N10 G10 (fun w11 S11 N11 G11 => ?_)
  refine mi_181 S11 N11 G11 (fun w12 S12 N12 G12 => ?_)
  refine mi_197 S12 N12 G12 (fun w13 S13 N13 G13 => ?_)
  refine mi_214 S13 N13 G13 (fun w14 S14 N14 G14 => ?_)
  refine mi_231 S14 N14 G14 (fun w15 S15 N15 G15 => ?_)
  refine mi_248 S15 N15 G15 (fun w16 S16 N16 G16 => ?_)
  refine mi_266 S16 N16 G16 (fun w17 S17 N17 G17 => ?_)
  exact ⟨rfl, S17.md, by have := S17.1.1; omega, N17, G17.mo (fun a z => z) (fun a z => z) (by omega) (by omega)⟩
end MI

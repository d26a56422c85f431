/-! ===== the law's front: the text, compiling ===== -/
section FT
variable {d b s m : Nat} {l : List Int} {w w' : bm_W} {Φ : bm_Rt → bm_W → Prop}
/-- while the text is made -/
def FS (b s m : Nat) (l : List Int) (S0 : Nat) (w : bm_W) : Prop := (bm_kt w s = 91 ∧ cl_E b w ∧ bm_gi w (b + 1) 1 = 0) ∧ (bm_kt w (b + 126) = 92 ∧ bm_kn w (b + 126) = 6 ∧ ∀ j : Nat, j < 6 → bm_gi w (b + 126) j = (j : Int) + 2) ∧ (bm_kt w (b + 127) = 92 ∧ bm_kn w (b + 127) = 5 ∧ ∀ j : Nat, j < 5 → bm_gi w (b + 127) j = (j : Int) + 8) ∧ (bm_sz w = b + 128 ∧ bm_sl w ≤ S0) ∧ tx_R (b + 125) l w ∧ l.length ≤ m
variable {S0 : Nat}
theorem FS.nx {l2 : List Int} {m2 : Nat} (h : FS b s m l S0 w) (F : q_fr (fun x => x = b + 125) w w') (R : tx_R (b + 125) l2 w') (hm : l2.length ≤ m2) : FS b s m2 l2 S0 w' := by
  obtain ⟨⟨a1, a2, a3⟩, ⟨b1, b2, b3⟩, ⟨c1, c2, c3⟩, ⟨d1, d2⟩, -, -⟩ := h
  refine ⟨⟨by rw [F.kt]; exact a1, a2.gw (q_gw.of (R := fun a => b + 125 ≤ a) (F.mo (A' := fun a => a = b + 1 ∨ a = b + 2 ∨ b + 125 ≤ a) (fun a z => by omega))) (by omega), (F.gi (by omega)).trans a3⟩, ⟨by rw [F.kt]; exact b1, by rw [F.kn]; exact b2, fun j hj => (F.gi (by omega)).trans (b3 j hj)⟩, ⟨by rw [F.kt]; exact c1, by rw [F.kn]; exact c2, fun j hj => (F.gi (by omega)).trans (c3 j hj)⟩, ⟨by rw [F.sz]; exact d1, by rw [F.sl]; exact d2⟩, R, hm⟩
theorem FS.pt {c m2 : Nat} (hc : c < 20) (h : FS b s m l S0 w) (hm : m + 22 ≤ m2) (h5 : m2 ≤ 500) (q : ∀ w', FS b s m2 (l ++ k_l c) S0 w' → Φ (.inl none) w') : bm_Call bm_pg (d + 1300) y_L_put [bm_r (some (b + 125)), bm_k (0, c)] w Φ := by
  have hl := h.2.2.2.2.2
  have hk := k_len_22 c hc
  have hn := k_l_len c hc
  exact tp_put (d := d + 1295) hc h.2.2.2.2.1 (by omega) (fun w' F R => q w' (h.nx F R (by rw [List.length_append]; omega)))
theorem FS.pn {v : Int} {m2 : Nat} (h0 : 0 ≤ v) (h9 : v ≤ 9) (h : FS b s m l S0 w) (hm : m + 1 ≤ m2) (h5 : m2 ≤ 500) (q : ∀ w', FS b s m2 (l ++ [48 + v]) S0 w' → Φ (.inl none) w') : bm_Call bm_pg (d + 1300) y_L_put_ [bm_r (some (b + 125)), bm_i v] w Φ := by
  have hl := h.2.2.2.2.2
  exact tp_putN (d := d + 1299) h0 h9 h.2.2.2.2.1 (by omega) (fun w' F R => q w' (h.nx F R (by rw [List.length_append]; show l.length + 1 ≤ _; omega)))
/-- a cell of the script, and what is below a number -/
theorem FS.ce {k n : Int} {f : Int → Int} (h : FS b s m l S0 w) (hk : 0 ≤ k) (hn : 0 < n) (hn2 : n ≤ 100) (q : ∀ r, 0 ≤ r → r < n → Φ (.inl (some (bm_i r))) w) : bm_Call bm_pg (d + 1300) y_L_cell [bm_r (some s), bm_i k] w (fun r1 w1 => bm_c1 (fun x1 => True ∧ bm_Call bm_pg (d + 1300) y_L_below [bm_i (f x1), bm_i n] w1 (fun r2 w2 => Φ r2 w2)) (fun _ => False) r1) := by
  refine tp_cell (d := d + 1299) h.1.1 hk (fun v => ?_)
  rw [bm_c1_v]
  exact ⟨trivial, tp_below (d := d + 1299) hn hn2 q⟩
theorem fr_253' (h : FS b s m l S0 w) (hm : m ≤ 500) (hb : ∀ j, j < l.length → 0 ≤ l.getD j 0 ∧ l.getD j 0 ≤ 255) : cTx (b + 1) (ly_D l) 0 w := ⟨h.1.2.1.2.1, h.1.2.2, fun k hk => absurd hk (by omega)⟩
/-- from the text on to laying it -/
theorem fr_228 (h : FS b s m l S0 w) (hm : m ≤ 400) (q : ∀ (rs : Nat) w', rs = 18 ∨ rs = 19 → FS b s 500 (l ++ k_l rs) S0 w' → bk_L_law_253 (d + 1300) Φ b (b + 125) w') : bk_L_law_228 (d + 1300) Φ s b (b + 125) w := by
  refine vb_L_law_228 ⟨trivial, tp_cell (d := d + 1299) h.1.1 (by decide) (fun v => ?_)⟩
  rw [bm_c1_v]
  refine ⟨trivial, tp_below (d := d + 1299) (by decide) (by decide) (fun r r0 r1 => ?_)⟩
  rw [bm_c1_v]
  by_cases c : r = 0
  · rw [if_neg (by simp [c])]
    refine vb_L_law_250 ⟨trivial, h.pt (m2 := 500) (by decide) (by omega) (by omega) (fun w' h' => ?_)⟩
    rw [bm_c0_v]
    exact q 18 w' (Or.inl rfl) h'
  · rw [if_pos (by simp [c])]
    refine vb_L_law_250 ⟨trivial, h.pt (m2 := 500) (by decide) (by omega) (by omega) (fun w' h' => ?_)⟩
    rw [bm_c0_v]
    exact q 19 w' (Or.inr rfl) h'
theorem fr_208 (h : FS b s m l S0 w) (hm : m ≤ 300) (q : ∀ (E : Int) (rs : Nat) w', 0 ≤ E ∧ E ≤ 9 → rs = 18 ∨ rs = 19 → FS b s 500 (l ++ [48 + E] ++ k_l 17 ++ k_l rs) S0 w' → bk_L_law_253 (d + 1300) Φ b (b + 125) w') : bk_L_law_208 (d + 1300) Φ s b (b + 125) w := by
  refine vb_L_law_208 ⟨trivial, tp_cell (d := d + 1299) h.1.1 (by decide) (fun v => ?_)⟩
  rw [bm_c1_v]
  refine ⟨trivial, tp_below (d := d + 1299) (by decide) (by decide) (fun r r0 r1 => ?_)⟩
  rw [bm_c1_v]
  refine ⟨trivial, h.pn (m2 := 320) r0 (by omega) (by omega) (by omega) (fun w1 h1 => ?_)⟩
  rw [bm_c0_v]
  refine vb_L_law_222 ⟨trivial, h1.pt (m2 := 350) (by decide) (by omega) (by omega) (fun w2 h2 => ?_)⟩
  rw [bm_c0_v]
  exact fr_228 h2 (by omega) (fun rs w' hr h' => q r rs w' ⟨r0, by omega⟩ hr h')
/-- a sign -/
theorem FS.sg {r : Int} (h : FS b s m l S0 w) (r0 : 0 ≤ r) (r1 : r < 5) : ((bm_kt w (b + 127) = 92 ∧ bm_in r (bm_kn w (b + 127))) ∧ 0 < bm_gi w (b + 127) r.toNat) ∧ (bm_gi w (b + 127) r.toNat).toNat - 1 = 7 + r.toNat := by
  obtain ⟨-, -, ⟨c1, c2, c3⟩, -⟩ := h
  have e := c3 r.toNat (by omega)
  rw [c2, e]
  exact ⟨⟨⟨c1, r0, by omega⟩, by omega⟩, by omega⟩
theorem FS.op {r : Int} (h : FS b s m l S0 w) (r0 : 0 ≤ r) (r1 : r < 6) : ((bm_kt w (b + 126) = 92 ∧ bm_in r (bm_kn w (b + 126))) ∧ 0 < bm_gi w (b + 126) r.toNat) ∧ (bm_gi w (b + 126) r.toNat).toNat - 1 = 1 + r.toNat := by
  obtain ⟨-, ⟨c1, c2, c3⟩, -⟩ := h
  have e := c3 r.toNat (by omega)
  rw [c2, e]
  exact ⟨⟨⟨c1, r0, by omega⟩, by omega⟩, by omega⟩
theorem fr_168 (h : FS b s m l S0 w) (hm : m ≤ 200) (q : ∀ (E : Int) (s1 s2 rs : Nat) w', (7 ≤ s1 ∧ s1 ≤ 11) → (7 ≤ s2 ∧ s2 ≤ 11) → 0 ≤ E ∧ E ≤ 9 → rs = 18 ∨ rs = 19 → FS b s 500 (l ++ k_l s1 ++ k_l 16 ++ k_l s2 ++ [48 + E] ++ k_l 17 ++ k_l rs) S0 w' → bk_L_law_253 (d + 1300) Φ b (b + 125) w') : bk_L_law_168 (d + 1300) Φ s b (b + 125) (b + 127) w := by
  refine vb_L_law_168 ⟨trivial, tp_cell (d := d + 1299) h.1.1 (by decide) (fun v => ?_)⟩
  rw [bm_c1_v]
  refine ⟨trivial, tp_below (d := d + 1299) (by decide) (by decide) (fun r r0 r1 => ?_)⟩
  obtain ⟨g1, e1⟩ := h.sg r0 r1
  rw [bm_c1_v, e1]
  refine ⟨g1, trivial, h.pt (m2 := 222) (by omega) (by omega) (by omega) (fun w1 h1 => ?_)⟩
  rw [bm_c0_v]
  refine vb_L_law_184 ⟨trivial, h1.pt (m2 := 244) (by decide) (by omega) (by omega) (fun w2 h2 => ?_)⟩
  rw [bm_c0_v]
  refine vb_L_law_190 ⟨trivial, tp_cell (d := d + 1299) h2.1.1 (by decide) (fun v => ?_)⟩
  rw [bm_c1_v]
  refine ⟨trivial, tp_below (d := d + 1299) (by decide) (by decide) (fun r' r0' r1' => ?_)⟩
  obtain ⟨g2, e2⟩ := h2.sg r0' r1'
  rw [bm_c1_v, e2]
  refine ⟨g2, trivial, h2.pt (m2 := 270) (by omega) (by omega) (by omega) (fun w3 h3 => ?_)⟩
  rw [bm_c0_v]
  exact fr_208 h3 (by omega) (fun E rs w' hE hr h' => q E (7 + r.toNat) (7 + r'.toNat) rs w' ⟨by omega, by omega⟩ ⟨by omega, by omega⟩ hE hr h')
theorem fr_131 (h : FS b s m l S0 w) (hm : m ≤ 100) (q : ∀ (C E : Int) (op s1 s2 rs : Nat) w', (1 ≤ op ∧ op ≤ 6) → 0 ≤ C ∧ C ≤ 9 → (7 ≤ s1 ∧ s1 ≤ 11) → (7 ≤ s2 ∧ s2 ≤ 11) → 0 ≤ E ∧ E ≤ 9 → rs = 18 ∨ rs = 19 → FS b s 500 (l ++ k_l op ++ [48 + C] ++ k_l 15 ++ k_l s1 ++ k_l 16 ++ k_l s2 ++ [48 + E] ++ k_l 17 ++ k_l rs) S0 w' → bk_L_law_253 (d + 1300) Φ b (b + 125) w') : bk_L_law_131 (d + 1300) Φ s b (b + 125) (b + 126) (b + 127) w := by
  refine vb_L_law_131 ⟨trivial, tp_cell (d := d + 1299) h.1.1 (by decide) (fun v => ?_)⟩
  rw [bm_c1_v]
  refine ⟨trivial, tp_below (d := d + 1299) (by decide) (by decide) (fun r r0 r1 => ?_)⟩
  obtain ⟨g1, e1⟩ := h.op r0 r1
  rw [bm_c1_v, e1]
  refine ⟨g1, trivial, h.pt (m2 := 122) (by omega) (by omega) (by omega) (fun w1 h1 => ?_)⟩
  rw [bm_c0_v]
  refine vb_L_law_147 ⟨trivial, tp_cell (d := d + 1299) h1.1.1 (by decide) (fun v => ?_)⟩
  rw [bm_c1_v]
  refine ⟨trivial, tp_below (d := d + 1299) (by decide) (by decide) (fun r' r0' r1' => ?_)⟩
  rw [bm_c1_v]
  refine ⟨trivial, h1.pn (m2 := 130) r0' (by omega) (by omega) (by omega) (fun w2 h2 => ?_)⟩
  rw [bm_c0_v]
  refine vb_L_law_162 ⟨trivial, h2.pt (m2 := 160) (by decide) (by omega) (by omega) (fun w3 h3 => ?_)⟩
  rw [bm_c0_v]
  exact fr_168 h3 (by omega) (fun E s1 s2 rs w' a1 a2 hE hr h' => q r' E (1 + r.toNat) s1 s2 rs w' ⟨by omega, by omega⟩ ⟨r0', by omega⟩ a1 a2 hE hr h')
theorem fr_81 (h : FS b s 0 [] S0 w) (q : ∀ (A B C E : Int) (op s1 s2 rs : Nat) w', (1 ≤ A ∧ A ≤ 4) → (1 ≤ B ∧ B ≤ 3) → 0 ≤ C ∧ C ≤ 9 → 0 ≤ E ∧ E ≤ 9 → (1 ≤ op ∧ op ≤ 6) → (7 ≤ s1 ∧ s1 ≤ 11) → (7 ≤ s2 ∧ s2 ≤ 11) → rs = 18 ∨ rs = 19 → FS b s 500 (lw_l A B C E op s1 s2 rs) S0 w' → bk_L_law_253 (d + 1300) Φ b (b + 125) w') : bk_L_law_81 (d + 1300) Φ s b (b + 125) (b + 126) (b + 127) w := by
  refine vb_L_law_81 ⟨trivial, h.pt (m2 := 22) (by decide) (by omega) (by omega) (fun w1 h1 => ?_)⟩
  rw [bm_c0_v]
  refine vb_L_law_87 ⟨trivial, tp_cell (d := d + 1299) h1.1.1 (by decide) (fun v => ?_)⟩
  rw [bm_c1_v]
  refine ⟨trivial, tp_below (d := d + 1299) (by decide) (by decide) (fun r r0 r1 => ?_)⟩
  rw [bm_c1_v, lq_w (x := (1 : Int) + r) (by omega) (by omega)]
  refine ⟨trivial, h1.pn (m2 := 23) (by omega) (by omega) (by omega) (by omega) (fun w2 h2 => ?_)⟩
  rw [bm_c0_v]
  refine vb_L_law_102 ⟨trivial, h2.pt (m2 := 45) (by decide) (by omega) (by omega) (fun w3 h3 => ?_)⟩
  rw [bm_c0_v]
  refine vb_L_law_108 ⟨trivial, tp_cell (d := d + 1299) h3.1.1 (by decide) (fun v => ?_)⟩
  rw [bm_c1_v]
  refine ⟨trivial, tp_below (d := d + 1299) (by decide) (by decide) (fun r' r0' r1' => ?_)⟩
  rw [bm_c1_v, lq_w (x := (1 : Int) + r') (by omega) (by omega)]
  refine ⟨trivial, h3.pn (m2 := 46) (by omega) (by omega) (by omega) (by omega) (fun w4 h4 => ?_)⟩
  rw [bm_c0_v]
  refine vb_L_law_125 ⟨trivial, h4.pt (m2 := 70) (by decide) (by omega) (by omega) (fun w5 h5 => ?_)⟩
  rw [bm_c0_v]
  exact fr_131 h5 (by omega) (fun C E op s1 s2 rs w' a1 hC a2 a3 hE hr h' => q (1 + r) (1 + r') C E op s1 s2 rs w' ⟨by omega, by omega⟩ ⟨by omega, by omega⟩ hC hE a1 a2 a3 hr h')
/-! the two rows of texts -/
def ST (n o : Nat) (w v : bm_W) : Prop := q_gw (fun _ => False) (fun _ => False) 1 n w v ∧ (bm_kt v (bm_sz w) = 92 ∧ bm_kn v (bm_sz w) = n ∧ ∀ j : Nat, j < n → bm_gi v (bm_sz w) j = (j : Int) + o) ∧ bm_sz v = bm_sz w + 1 ∧ bm_sl v = bm_sl w + n
theorem ST_6 (w : bm_W) : ST 6 2 w (bm_si (bm_si (bm_si (bm_si (bm_si (bm_si (bm_nw w 92 6 6) (bm_sz w) 0 2) (bm_sz w) 1 3) (bm_sz w) 2 4) (bm_sz w) 3 5) (bm_sz w) 4 6) (bm_sz w) 5 7) := by
  refine ⟨?_, ⟨?_, ?_, fun j hj => ?_⟩, rfl, rfl⟩
  · exact (((((((q_gw.rf (w := w)).nw (t := 92) (n := 6) (m := 6)).si (Or.inr (Nat.le_refl _))).si (Or.inr (Nat.le_refl _))).si (Or.inr (Nat.le_refl _))).si (Or.inr (Nat.le_refl _))).si (Or.inr (Nat.le_refl _))).si (Or.inr (Nat.le_refl _))
  · show bm_kt (bm_nw w 92 6 6) (bm_sz w) = 92
    rw [bm_nw_kt, if_pos rfl]
  · show bm_kn (bm_nw w 92 6 6) (bm_sz w) = 6
    rw [bm_nw_kn, if_pos rfl]
  · rcases (show j = 0 ∨ j = 1 ∨ j = 2 ∨ j = 3 ∨ j = 4 ∨ j = 5 by omega) with rfl | rfl | rfl | rfl | rfl | rfl <;> simp [bm_si_gi]
theorem ST_5 (w : bm_W) : ST 5 8 w (bm_si (bm_si (bm_si (bm_si (bm_si (bm_nw w 92 5 5) (bm_sz w) 0 8) (bm_sz w) 1 9) (bm_sz w) 2 10) (bm_sz w) 3 11) (bm_sz w) 4 12) := by
  refine ⟨?_, ⟨?_, ?_, fun j hj => ?_⟩, rfl, rfl⟩
  · exact ((((((q_gw.rf (w := w)).nw (t := 92) (n := 5) (m := 5)).si (Or.inr (Nat.le_refl _))).si (Or.inr (Nat.le_refl _))).si (Or.inr (Nat.le_refl _))).si (Or.inr (Nat.le_refl _))).si (Or.inr (Nat.le_refl _))
  · show bm_kt (bm_nw w 92 5 5) (bm_sz w) = 92
    rw [bm_nw_kt, if_pos rfl]
  · show bm_kn (bm_nw w 92 5 5) (bm_sz w) = 5
    rw [bm_nw_kn, if_pos rfl]
  · rcases (show j = 0 ∨ j = 1 ∨ j = 2 ∨ j = 3 ∨ j = 4 by omega) with rfl | rfl | rfl | rfl | rfl <;> simp [bm_si_gi]
/-- behind all that is made -/
theorem FS_0 {w1 v1 v2 : bm_W} (h : cl_S b w1) (z1 : bm_sz w1 = b + 125) (hs : bm_kt w1 s = 91) (sb : s < b) (T1 : ST 6 2 (bm_nw w1 21 600 600) v1) (T2 : ST 5 8 v1 v2) (hS : bm_sl w1 + 611 ≤ S0) : FS b s 0 [] S0 v2 := by
  obtain ⟨G1, ⟨a1, a2, a3⟩, s1, l1⟩ := T1
  obtain ⟨G2, ⟨b1, b2, b3⟩, s2, l2⟩ := T2
  have e0 : bm_sz (bm_nw w1 21 600 600) = b + 126 := by rw [bm_nw_sz, z1]
  rw [e0] at a1 a2 a3
  have e1 : bm_sz v1 = b + 127 := by rw [s1, e0]
  rw [e1] at b1 b2 b3
  have G0 : q_gw (fun _ => False) (fun _ => False) (0 + 1) (0 + 600) w1 (bm_nw w1 21 600 600) := q_gw.rf.nw
  have G := (G0.tr G1).tr G2
  have G' : q_gw (fun a => a = b + 1 ∨ a = b + 2 ∨ b + 125 ≤ a) (fun a => b + 125 ≤ a) (0 + 1 + 1 + 1) (0 + 600 + 6 + 5) w1 v2 := G.mo (fun a z => z.elim) (fun a z => z.elim) (Nat.le_refl _) (Nat.le_refl _)
  have H := G1.tr G2
  have k0 : bm_kt (bm_nw w1 21 600 600) (b + 125) = 21 := by rw [bm_nw_kt, if_pos z1.symm]
  have k1 : bm_kn (bm_nw w1 21 600 600) (b + 125) = 600 := by rw [bm_nw_kn, if_pos z1.symm]
  have k2 : bm_gi (bm_nw w1 21 600 600) (b + 125) 0 = 0 := by rw [bm_nw_gi, if_pos z1.symm]
  refine ⟨⟨(G.kt (by omega)).trans hs, h.E.gw G' (by omega), (G.gi (by omega) (fun z => z)).trans (h.2.2.2.2.2.2.2.2.1 (b + 1) (by omega) (by omega) 1).1⟩, ⟨(G2.kt (by omega)).trans a1, (G2.kn (by omega)).trans a2, fun j hj => (G2.gi (by omega) (fun z => z)).trans (a3 j hj)⟩, ⟨b1, b2, b3⟩, ⟨by omega, ?_⟩, ⟨(H.kt (by omega)).trans k0, (H.kn (by omega)).trans k1, (H.gi (by omega) (fun z => z)).trans k2, fun j hj => absurd hj (by simp)⟩, by decide⟩
  have : bm_sl (bm_nw w1 21 600 600) = bm_sl w1 + 600 := rfl
  omega
end FT

/-! ===== the law, from its entry to its end ===== -/
section WH
variable {d b s m : Nat} {l : List Int} {w w' : bm_W} {Φ : bm_Rt → bm_W → Prop} {S0 : Nat}
/-- the bytes of a text of the law -/
theorem lw_rng {A B C E : Int} {op s1 s2 rs : Nat} (hA : 1 ≤ A ∧ A ≤ 4) (hB : 1 ≤ B ∧ B ≤ 3) (hC : 0 ≤ C ∧ C ≤ 9) (hE : 0 ≤ E ∧ E ≤ 9) (h0 : 1 ≤ op ∧ op ≤ 6) (h1 : 7 ≤ s1 ∧ s1 ≤ 11) (h2 : 7 ≤ s2 ∧ s2 ≤ 11) (hr : rs = 18 ∨ rs = 19) : ∀ j, j < (lw_l A B C E op s1 s2 rs).length → 0 ≤ (lw_l A B C E op s1 s2 rs).getD j 0 ∧ (lw_l A B C E op s1 s2 rs).getD j 0 ≤ 255 := by
  have kr : ∀ c, c < 20 → ∀ x, x ∈ k_l c → 0 ≤ x ∧ x ≤ 255 := by decide +kernel
  have mem : ∀ x, x ∈ lw_l A B C E op s1 s2 rs → 0 ≤ x ∧ x ≤ 255 := by
    intro x hx
    unfold lw_l at hx
    simp only [List.mem_append, List.mem_singleton] at hx
    rcases hx with ((((((((((((hx | hx) | hx) | hx) | hx) | hx) | hx) | hx) | hx) | hx) | hx) | hx) | hx) | hx
    · exact kr 12 (by decide) x hx
    · omega
    · exact kr 13 (by decide) x hx
    · omega
    · exact kr 14 (by decide) x hx
    · exact kr op (by omega) x hx
    · omega
    · exact kr 15 (by decide) x hx
    · exact kr s1 (by omega) x hx
    · exact kr 16 (by decide) x hx
    · exact kr s2 (by omega) x hx
    · omega
    · exact kr 17 (by decide) x hx
    · exact kr rs (by omega) x hx
  intro j hj
  rw [List.getD_eq_getElem?_getD, List.getElem?_eq_getElem hj]
  exact mem _ (List.getElem_mem hj)
theorem tp_xb (h : cTx (b + 1) (ly_D l) l.length w) : tp_at w (b + 1) = xb l := by
  obtain ⟨h1, h2, h3⟩ := h
  funext p
  unfold tp_at xb
  rw [h2]
  by_cases c : 0 ≤ p ∧ p < (l.length : Int)
  · rw [if_pos c, if_pos c, h3 p.toNat (by omega)]
    unfold ly_D
    rw [if_pos (by omega)]
  · rw [if_neg c, if_neg c]
theorem lw_inr {A B rs : Int} {D : q_D} (hA : 1 ≤ A) (hB : 1 ≤ B) : y_inr (gp A B D [lw_R rs]) := by
  intro k hk i hi c hc
  have hk : k < 1 := hk
  obtain rfl : k = 0 := by omega
  have hi : i < 1 := hi
  obtain rfl : i = 0 := by omega
  rcases (show c = 0 ∨ c = 1 ∨ c = 2 by omega) with rfl | rfl | rfl
  · exact ⟨Int.le_refl 0, by show (0 : Int) ≤ A; omega⟩
  · exact ⟨Int.le_refl 0, by show (0 : Int) ≤ B; omega⟩
  · exact ⟨Int.le_refl 0, Int.le_refl 0⟩
theorem lw_tbs {A B rs : Int} {D : q_D} (hr : rs = 14 ∨ rs = 15) : y_tbs (gp A B D [lw_R rs]) := by
  intro k hk
  have hk : k < 1 := hk
  obtain rfl : k = 0 := by omega
  refine ⟨by show 0 < 1; decide, by show y_ct [lw_R rs] ≤ 100; simp [y_ct, y_cs, y_wd, lw_R], fun i hi => ?_⟩
  have hi : i < 1 := hi
  obtain rfl : i = 0 := by omega
  refine ⟨rfl, fun c hc => ?_, ?_⟩
  · have hc : c < 2 := hc
    rcases (show c = 0 ∨ c = 1 by omega) with rfl | rfl
    · exact ⟨by show (-20 : Int) ≤ 0; decide, Int.le_refl 0, by show (0 : Int) ≤ 20; decide⟩
    · exact ⟨by show (-20 : Int) ≤ 0; decide, Int.le_refl 0, by show (0 : Int) ≤ 20; decide⟩
  · show rs = 14 ∨ rs = 15 ∨ _
    omega
/-- compiling the law's text -/
theorem lw_comp {A B o r : Int} {s1 s2 : Int} (hz : b + 128 ≤ bm_sz w) (E : cl_E b w) (T : cTx (b + 1) (ly_D l) l.length w) (hL : l.length ≤ 500) (hT : lw_T (t_K (xb l)) (t_V (xb l)) A B o s1 s2 r) {X Y : Nat} (hX : bm_sz w + 336 ≤ X) (hY : bm_sl w + 1092 ≤ Y)
    (q : ∀ D w', gb_1 D → LW b (xb l) A B D X Y [lw_R r] w' → Φ (.inl (some (bm_i 0))) w') : bm_Call bm_pg (d + 1300) y_X11_compile [bm_r (some b)] w Φ := by
  have C := E.lC (B := xb l) hz T (by omega)
  have hA := hT.2.2.2.1
  have hB := hT.2.2.2.2.1
  have hr := hT.2.2.2.2.2.2.2.2
  obtain ⟨D, hD, ec⟩ := l_cmp hT
  have ef := l_form hT
  have eI := (l_I16 hT).2
  refine cp_compile (d := d + 44) C.1.1 (fun x pl N w1 I1 F1 l0 e7 r0 m6 hN hk hk0 ans => ?_)
  rw [tp_xb T, ef] at ans
  have ans : ans_c (b + 3) (xb l) (y_cmp (t_K (xb l)) (t_V (xb l))) (y_I (t_K (xb l)) 40) x pl w1 := ans
  rw [eI] at ans
  have hb : y_tbs (y_of (y_cmp (t_K (xb l)) (t_V (xb l)))) := by rw [ec]; exact lw_tbs hr
  obtain ⟨Z1, i1⟩ := ans_cZ I1 ans hb r0 (m6.trans C.1.2.2.2.2)
  have S1 := ans_zS ans
  rw [ec] at Z1 i1 S1 ans
  obtain ⟨rfl, hpl, -, -, i2⟩ := ans
  refine q D w1 hD ⟨⟨Z1, S1, ⟨I1.2.1.2.2.1, l0, fun k hk => absurd hk (by omega)⟩, i2, e7.trans hpl⟩, lw_inr hA.1 hB.1, ?_, ?_⟩
  · have := F1.2.1
    have := rm_le (t := b + 3) (w := w)
    omega
  · have := F1.2.2
    have := rm_le (t := b + 3) (w := w)
    omega
theorem fr_253 {A B C E : Int} {op s1 s2 rs : Nat} (hA : 1 ≤ A ∧ A ≤ 4) (hB : 1 ≤ B ∧ B ≤ 3) (hC : 0 ≤ C ∧ C ≤ 9) (hE : 0 ≤ E ∧ E ≤ 9) (h0 : 1 ≤ op ∧ op ≤ 6) (h1 : 7 ≤ s1 ∧ s1 ≤ 11) (h2 : 7 ≤ s2 ∧ s2 ≤ 11) (hr : rs = 18 ∨ rs = 19) (h : FS b s 500 (lw_l A B C E op s1 s2 rs) S0 w) (q : ∀ w', bm_sz w' ≤ b + 600 → bm_sl w' ≤ S0 + 1500 → Φ (.inl (some (bm_i 1))) w') : bk_L_law_253 (d + 1300) Φ b (b + 125) w := by
  have rg := lw_rng hA hB hC hE h0 h1 h2 hr
  obtain ⟨o, r, hT⟩ := lx_all hA hB hC hE h0.1 h0.2 h1 h2 hr
  generalize lw_l A B C E op s1 s2 rs = l at rg hT h
  obtain ⟨⟨a1, a2, a3⟩, -, -, ⟨z1, z2⟩, R, hl⟩ := h
  have T : cTx (b + 1) (ly_D l) 0 w := ⟨a2.2.1, a3, fun k hk => absurd hk (by omega)⟩
  refine vb_L_law_253 ⟨trivial, tp_lay (d := d + 1296) hl rg a2 T R (by omega) (fun w1 c1 c2 hc1 hc2 G E1 T1 R1 => ?_)⟩
  have g1 := G.1
  rw [bm_c1_v, if_neg (by decide)]
  refine ⟨E1.1.1, lw_comp (d := d) (X := b + 600) (Y := S0 + 1500) (by omega) E1 T1 hl hT (by omega) (by omega) (fun D w2 hD L => ?_)⟩
  rw [bm_c1_v, if_neg (by decide)]
  refine ⟨L.kt, L.fn ⟨by decide, by decide⟩ (fun w3 L3 => ?_)⟩
  have e6 : y_ft (gp A B D [lw_R r]) 0 1 = 6 := rfl
  rw [bm_c1_v, e6, if_pos (by decide)]
  refine s_281 L3 hA hB hD (fun R' hR' => ?_) (fun k k1 k2 => ?_) rfl (fun w' rows' L' => q w' ?_ ?_)
  · rw [List.mem_singleton.mp hR']
    simp [y_cs, y_wd, lw_R]
  · have k2 : k < 1 := k2
    omega
  · have := L'.2.2.1; omega
  · have := L'.2.2.2; omega
/-- the law answers true -/
theorem lw_law (hs : bm_kt w s = 91) (sb : s < bm_sz w) (q : ∀ w', bm_sz w' ≤ bm_sz w + 600 → bm_sl w' ≤ bm_sl w + 12000 → Φ (.inl (some (bm_i 1))) w') : bm_Call bm_pg (d + 1301) y_L_law [bm_r (some s)] w Φ := by
  refine vc_L_law1 ⟨trivial, bm_Call_mono bm_pg _ _ _ _ _ _ (fun r w1 z => ?_) (mk_X11g (d := d + 1295) (b := bm_sz w) (w := bm_nw w 11 0 8) rfl (by rw [bm_nw_kt, if_pos rfl]))⟩
  obtain ⟨rfl, z1, zk, z2, zS⟩ := z
  have hs1 : bm_kt w1 s = 91 := (zk s sb).trans (by rw [bm_nw_kt, if_neg (by omega)]; exact hs)
  have e2 : bm_sl (bm_nw w 11 0 8) = bm_sl w + 8 := rfl
  rw [bm_c5_v]
  have K6 : bm_kt (bm_nw (bm_nw w1 21 600 600) 92 6 6) (bm_sz (bm_nw w1 21 600 600)) = 92 := by rw [bm_nw_kt, if_pos rfl]
  have N6 : bm_kn (bm_nw (bm_nw w1 21 600 600) 92 6 6) (bm_sz (bm_nw w1 21 600 600)) = 6 := by rw [bm_nw_kn, if_pos rfl]
  have I6 : ∀ j : Int, 0 ≤ j → j < 6 → bm_in j (bm_kn (bm_nw (bm_nw w1 21 600 600) 92 6 6) (bm_sz (bm_nw w1 21 600 600))) := fun j j0 j1 => by rw [N6]; exact ⟨j0, by omega⟩
  refine ⟨⟨by decide, by decide⟩, ⟨by decide, by decide⟩, ⟨⟨K6, I6 0 (by decide) (by decide)⟩, by decide⟩, ⟨⟨K6, I6 1 (by decide) (by decide)⟩, by decide⟩, ⟨⟨K6, I6 2 (by decide) (by decide)⟩, by decide⟩, ⟨⟨K6, I6 3 (by decide) (by decide)⟩, by decide⟩, ⟨⟨K6, I6 4 (by decide) (by decide)⟩, by decide⟩, ⟨⟨K6, I6 5 (by decide) (by decide)⟩, by decide⟩, ?_⟩
  have main : ∀ v1, ST 6 2 (bm_nw w1 21 600 600) v1 → bk_L_law_50 (d + 1300) Φ s (bm_sz w) (bm_sz w1) (bm_sz (bm_nw w1 21 600 600)) v1 := by
    intro v1 T1
    have x1 : bm_sz (bm_nw w1 21 600 600) = bm_sz w + 126 := by rw [bm_nw_sz, z1]
    have x2 : bm_sz v1 = bm_sz w + 127 := by rw [T1.2.2.1, x1]
    have K5 : bm_kt (bm_nw v1 92 5 5) (bm_sz v1) = 92 := by rw [bm_nw_kt, if_pos rfl]
    have N5 : bm_kn (bm_nw v1 92 5 5) (bm_sz v1) = 5 := by rw [bm_nw_kn, if_pos rfl]
    have I5 : ∀ j : Int, 0 ≤ j → j < 5 → bm_in j (bm_kn (bm_nw v1 92 5 5) (bm_sz v1)) := fun j j0 j1 => by rw [N5]; exact ⟨j0, by omega⟩
    refine vb_L_law_50 ⟨⟨by decide, by decide⟩, ⟨⟨K5, I5 0 (by decide) (by decide)⟩, by decide⟩, ⟨⟨K5, I5 1 (by decide) (by decide)⟩, by decide⟩, ⟨⟨K5, I5 2 (by decide) (by decide)⟩, by decide⟩, ⟨⟨K5, I5 3 (by decide) (by decide)⟩, by decide⟩, ⟨⟨K5, I5 4 (by decide) (by decide)⟩, by decide⟩, ?_⟩
    have fin : ∀ v2, ST 5 8 v1 v2 → bk_L_law_81 (d + 1300) Φ s (bm_sz w) (bm_sz w1) (bm_sz (bm_nw w1 21 600 600)) (bm_sz v1) v2 := by
      intro v2 T2
      have F := FS_0 (S0 := bm_sl w + 10300) zS z1 hs1 sb T1 T2 (by omega)
      rw [x1, x2, z1]
      exact fr_81 F (fun A B C E op s1 s2 rs w' hA hB hC hE h0 h1 h2 hr F' => fr_253 hA hB hC hE h0 h1 h2 hr F' (fun w2 a1 a2 => q w2 a1 (by omega)))
    exact fin _ (ST_5 v1)
  exact main _ (ST_6 (bm_nw w1 21 600 600))
end WH

/-! ===== feed and trim, in the model ===== -/
section FD
variable {d m L : Nat} {x x1 x2 x3 x4 x5 : Int} {B : Int → Int} {D : Nat → Int} {pr : y_pr} {w w' : bm_W} {Φ : bm_Rt → bm_W → Prop}
theorem fd_63 {a i : Nat} {v : Int} (h : mA m B pr w) (hi : i < 5) (kt : bm_kt w a = 21) (kn : bm_kn w a = 5) (va : bm_gi w a i = v) (hT : mTx m D L w) (hL : L + 4 ≤ 1500) (hq : ∀ w', mTx m (fd_w v 4 D L) (L + 4) w' → q_fr (fun a => a = m ∨ a = m + 1) w w' → (∀ k, k ≠ 2 → bm_gi w' m k = bm_gi w m k) → bk_X12_feed_63 d Φ m a 5 ((i + 1 : Nat) : Int) w') : bk_X12_feed_63 d Φ m a 5 (i : Int) w := by
  refine vb_X12_feed_63 ?_
  rw [if_neg (fun y => by have := of_decide_eq_true y; omega)]
  refine ⟨⟨kt, by rw [kn]; exact ⟨by omega, by omega⟩⟩, ?_⟩
  rw [Int.toNat_natCast, va]
  refine fd_80 (w0 := w) (v := v) (B := D) (L := L) h.1 (fun B' L' w' c f k e1 e2 => ?_) 4 D L w (by decide) hT q_fr.rf (fun _ _ => rfl) hL rfl rfl
  rw [bm_w1 (show i < 2147483647 by omega)]
  rw [e1, e2] at c
  exact hq w' c f k
set_option maxRecDepth 20000 in
theorem mo_feed (h : mA m B pr w) (hT : mTx m D L w) (hL : L ≤ 1500) (q1 : L + 20 ≤ 1500 → ∀ w', mA m B pr w' → mTx m (fd_5 x1 x2 x3 x4 x5 D L) (L + 20) w' → bm_gi w' m 0 = 0 → q_gw (fun a => a = m ∨ a = m + 1) (fun _ => False) 1 5 w w' → (∀ k, k ≠ 0 → k ≠ 2 → bm_gi w' m k = bm_gi w m k) → Φ (.inl (some (bm_i ((L + 20 : Nat) : Int)))) w') (q0 : ¬ L + 20 ≤ 1500 → ∀ v w', mO m 0 0 w w' → bm_gi w' m 0 = 1 → Φ (.inl (some (bm_i v))) w') : bm_Call bm_pg (d + 2) y_X12_feed [bm_r (some m), bm_i x1, bm_i x2, bm_i x3, bm_i x4, bm_i x5] w Φ := by
  have h0 := h.thr (v := 0)
  have z0 : mO m 0 0 w (bm_si w m 0 0) := mO.rf.thr
  have e2 : bm_gi (bm_si w m 0 0) m 2 = (L : Int) := (q_gi_nk (by decide)).trans hT.1
  have hs := h.2.1
  refine vc_X12_feed ⟨h.1.1, h0.1.1, ?_⟩
  rw [e2, q_wI (x := (L : Int) + 20) ⟨by omega, by omega⟩]
  by_cases c : L + 20 ≤ 1500
  · rw [if_pos (decide_eq_true (by omega))]
    have kk : bm_kn (bm_nw (bm_si w m 0 0) 21 5 5) (bm_sz (bm_si w m 0 0)) = 5 := if_pos rfl
    have G : q_gw (fun a => a = m ∨ a = m + 1) (fun _ => False) (0 + 1) (0 + 5) w (bm_si (bm_si (bm_si (bm_si (bm_si (bm_nw (bm_si w m 0 0) 21 5 5) (bm_sz w) 0 x1) (bm_sz w) 1 x2) (bm_sz w) 2 x3) (bm_sz w) 3 x4) (bm_sz w) 4 x5) := ((((((((q_gw.rf (A := fun a => a = m ∨ a = m + 1) (R := fun _ => False)).si (Or.inl (Or.inl rfl))).nw (m := 5)).si (Or.inr (Nat.le_refl _))).si (Or.inr (Nat.le_refl _))).si (Or.inr (Nat.le_refl _))).si (Or.inr (Nat.le_refl _))).si (Or.inr (Nat.le_refl _)))
    have ge : ∀ a j, a ≤ m + 31 → bm_gi (bm_si (bm_si (bm_si (bm_si (bm_si (bm_nw (bm_si w m 0 0) 21 5 5) (bm_sz w) 0 x1) (bm_sz w) 1 x2) (bm_sz w) 2 x3) (bm_sz w) 3 x4) (bm_sz w) 4 x5) a j = bm_gi (bm_si w m 0 0) a j := fun a j ha => by
      rw [q_gi_ne (by omega), q_gi_ne (by omega), q_gi_ne (by omega), q_gi_ne (by omega), q_gi_ne (by omega)]
      exact if_neg (show ¬ a = bm_sz w by omega)
    have v0 : bm_gi (bm_si (bm_si (bm_si (bm_si (bm_si (bm_nw (bm_si w m 0 0) 21 5 5) (bm_sz w) 0 x1) (bm_sz w) 1 x2) (bm_sz w) 2 x3) (bm_sz w) 3 x4) (bm_sz w) 4 x5) (bm_sz w) 0 = x1 := by rw [q_gi_nk (by decide), q_gi_nk (by decide), q_gi_nk (by decide), q_gi_nk (by decide), q_gi_eq]
    have v1 : bm_gi (bm_si (bm_si (bm_si (bm_si (bm_si (bm_nw (bm_si w m 0 0) 21 5 5) (bm_sz w) 0 x1) (bm_sz w) 1 x2) (bm_sz w) 2 x3) (bm_sz w) 3 x4) (bm_sz w) 4 x5) (bm_sz w) 1 = x2 := by rw [q_gi_nk (by decide), q_gi_nk (by decide), q_gi_nk (by decide), q_gi_eq]
    have v2 : bm_gi (bm_si (bm_si (bm_si (bm_si (bm_si (bm_nw (bm_si w m 0 0) 21 5 5) (bm_sz w) 0 x1) (bm_sz w) 1 x2) (bm_sz w) 2 x3) (bm_sz w) 3 x4) (bm_sz w) 4 x5) (bm_sz w) 2 = x3 := by rw [q_gi_nk (by decide), q_gi_nk (by decide), q_gi_eq]
    have v3 : bm_gi (bm_si (bm_si (bm_si (bm_si (bm_si (bm_nw (bm_si w m 0 0) 21 5 5) (bm_sz w) 0 x1) (bm_sz w) 1 x2) (bm_sz w) 2 x3) (bm_sz w) 3 x4) (bm_sz w) 4 x5) (bm_sz w) 3 = x4 := by rw [q_gi_nk (by decide), q_gi_eq]
    have v4 : bm_gi (bm_si (bm_si (bm_si (bm_si (bm_si (bm_nw (bm_si w m 0 0) 21 5 5) (bm_sz w) 0 x1) (bm_sz w) 1 x2) (bm_sz w) 2 x3) (bm_sz w) 3 x4) (bm_sz w) 4 x5) (bm_sz w) 4 = x5 := q_gi_eq
    have kt1 : bm_kt (bm_si (bm_si (bm_si (bm_si (bm_si (bm_nw (bm_si w m 0 0) 21 5 5) (bm_sz w) 0 x1) (bm_sz w) 1 x2) (bm_sz w) 2 x3) (bm_sz w) 3 x4) (bm_sz w) 4 x5) (bm_sz w) = 21 := if_pos rfl
    have kn1 : bm_kn (bm_si (bm_si (bm_si (bm_si (bm_si (bm_nw (bm_si w m 0 0) 21 5 5) (bm_sz w) 0 x1) (bm_sz w) 1 x2) (bm_sz w) 2 x3) (bm_sz w) 3 x4) (bm_sz w) 4 x5) (bm_sz w) = 5 := kk
    have i5 : ∀ j : Int, 0 ≤ j → j < 5 → bm_in j (bm_kn (bm_nw (bm_si w m 0 0) 21 5 5) (bm_sz (bm_si w m 0 0))) := fun j a b => by rw [kk]; exact ⟨a, b⟩
    refine ⟨by decide, ⟨if_pos rfl, i5 0 (by decide) (by decide)⟩, ⟨if_pos rfl, i5 1 (by decide) (by decide)⟩, ⟨if_pos rfl, i5 2 (by decide) (by decide)⟩, ⟨if_pos rfl, i5 3 (by decide) (by decide)⟩, ⟨if_pos rfl, i5 4 (by decide) (by decide)⟩, ?_⟩
    refine vb_X12_feed_51 ?_
    show (20 ≤ bm_kt (bm_si (bm_si (bm_si (bm_si (bm_si (bm_nw (bm_si w m 0 0) 21 5 5) (bm_sz w) 0 x1) (bm_sz w) 1 x2) (bm_sz w) 2 x3) (bm_sz w) 3 x4) (bm_sz w) 4 x5) (bm_sz w) ∧ bm_kt (bm_si (bm_si (bm_si (bm_si (bm_si (bm_nw (bm_si w m 0 0) 21 5 5) (bm_sz w) 0 x1) (bm_sz w) 1 x2) (bm_sz w) 2 x3) (bm_sz w) 3 x4) (bm_sz w) 4 x5) (bm_sz w) < 27) ∧ bk_X12_feed_63 (d + 1) Φ m (bm_sz w) (bm_kn (bm_si (bm_si (bm_si (bm_si (bm_si (bm_nw (bm_si w m 0 0) 21 5 5) (bm_sz w) 0 x1) (bm_sz w) 1 x2) (bm_sz w) 2 x3) (bm_sz w) 3 x4) (bm_sz w) 4 x5) (bm_sz w) : Int) (0 : Int) (bm_si (bm_si (bm_si (bm_si (bm_si (bm_nw (bm_si w m 0 0) 21 5 5) (bm_sz w) 0 x1) (bm_sz w) 1 x2) (bm_sz w) 2 x3) (bm_sz w) 3 x4) (bm_sz w) 4 x5)
    generalize bm_si (bm_si (bm_si (bm_si (bm_si (bm_nw (bm_si w m 0 0) 21 5 5) (bm_sz w) 0 x1) (bm_sz w) 1 x2) (bm_sz w) 2 x3) (bm_sz w) 3 x4) (bm_sz w) 4 x5 = s0 at G ge v0 v1 v2 v3 v4 kt1 kn1 ⊢
    rw [kt1, kn1]
    refine ⟨by decide, ?_⟩
    have mv : ∀ w', q_gw (fun a => a = m ∨ a = m + 1) (fun _ => False) (0 + 1) (0 + 5) w w' → (∀ k, k ≠ 0 → k ≠ 2 → bm_gi w' m k = bm_gi w m k) → mA m B pr w' := fun w' G' k' => h.mv (h.1.gw G' hs (fun z => z)) (by have := G'.1.1; omega) (fun a j u v => ⟨G'.gi (by omega) (by omega), G'.gl (by omega) (by omega)⟩) (k' 18 (by decide) (by decide)) (k' 28 (by decide) (by decide)) (k' 11 (by decide) (by decide))
    have K0 : ∀ k, k ≠ 0 → k ≠ 2 → bm_gi s0 m k = bm_gi w m k := fun k a _ => (ge m k (by omega)).trans (q_gi_nk a)
    have T0 : mTx m D L s0 := ⟨(ge m 2 (by omega)).trans e2, fun k hk => by rw [ge _ _ (by omega), q_gi_ne (by omega)]; exact hT.2 k hk⟩
    have th0 : bm_gi s0 m 0 = 0 := (ge m 0 (by omega)).trans q_gi_eq
    have am : ¬ (bm_sz w = m ∨ bm_sz w = m + 1) := by omega
    refine fd_63 (i := 0) (v := x1) (mv s0 G K0) (by decide) kt1 kn1 v0 T0 (by omega) (fun w1 T1 F1 k1 => ?_)
    have G1 := G.fr F1
    have K1 : ∀ k, k ≠ 0 → k ≠ 2 → bm_gi w1 m k = bm_gi w m k := fun k a b => (k1 k b).trans (K0 k a b)
    refine fd_63 (i := 1) (v := x2) (mv w1 G1 K1) (by decide) (by rw [F1.kt]; exact kt1) (by rw [F1.kn]; exact kn1) ((F1.gi am).trans v1) T1 (by omega) (fun w2 T2 F2 k2 => ?_)
    have G2 := G1.fr F2
    have F12 := F1.tr F2
    have K2 : ∀ k, k ≠ 0 → k ≠ 2 → bm_gi w2 m k = bm_gi w m k := fun k a b => (k2 k b).trans (K1 k a b)
    refine fd_63 (i := 2) (v := x3) (mv w2 G2 K2) (by decide) (by rw [F12.kt]; exact kt1) (by rw [F12.kn]; exact kn1) ((F12.gi am).trans v2) T2 (by omega) (fun w3 T3 F3 k3 => ?_)
    have G3 := G2.fr F3
    have F13 := F12.tr F3
    have K3 : ∀ k, k ≠ 0 → k ≠ 2 → bm_gi w3 m k = bm_gi w m k := fun k a b => (k3 k b).trans (K2 k a b)
    refine fd_63 (i := 3) (v := x4) (mv w3 G3 K3) (by decide) (by rw [F13.kt]; exact kt1) (by rw [F13.kn]; exact kn1) ((F13.gi am).trans v3) T3 (by omega) (fun w4 T4 F4 k4 => ?_)
    have G4 := G3.fr F4
    have F14 := F13.tr F4
    have K4 : ∀ k, k ≠ 0 → k ≠ 2 → bm_gi w4 m k = bm_gi w m k := fun k a b => (k4 k b).trans (K3 k a b)
    refine fd_63 (i := 4) (v := x5) (mv w4 G4 K4) (by decide) (by rw [F14.kt]; exact kt1) (by rw [F14.kn]; exact kn1) ((F14.gi am).trans v4) T4 (by omega) (fun w5 T5 F5 k5 => ?_)
    have G5 := G4.fr F5
    have K5 : ∀ k, k ≠ 0 → k ≠ 2 → bm_gi w5 m k = bm_gi w m k := fun k a b => (k5 k b).trans (K4 k a b)
    have A5 := mv w5 G5 K5
    have hq := q1 c w5 A5 T5 (by rw [k5 0 (by decide), k4 0 (by decide), k3 0 (by decide), k2 0 (by decide), k1 0 (by decide)]; exact th0) G5 K5
    refine vb_X12_feed_63 ?_
    rw [if_pos (decide_eq_true (by decide)), T5.1]
    exact ⟨A5.1.1, hq⟩
  · rw [if_neg (fun y => by have := of_decide_eq_true y; omega)]
    refine ⟨h0.1.1, ?_⟩
    rw [mp_no (d := d) h0.1.1, bm_c1_v]
    exact q0 c 0 _ z0.thr q_gi_eq
theorem mo_trim (h : mA m B pr w) (hT : mTx m D L w) (hL : L ≤ 1500) (q1 : 0 ≤ x ∧ x ≤ (L : Int) → ∀ w', mA m B pr w' → mTx m D x.toNat w' → bm_gi w' m 0 = 0 → q_fr (fun a => a = m) w w' → (∀ k, k ≠ 0 → k ≠ 2 → bm_gi w' m k = bm_gi w m k) → Φ (.inl (some (bm_i x))) w') (q0 : ¬ (0 ≤ x ∧ x ≤ (L : Int)) → ∀ v w', mO m 0 0 w w' → bm_gi w' m 0 = 1 → Φ (.inl (some (bm_i v))) w') : bm_Call bm_pg (d + 2) y_X12_trim [bm_r (some m), bm_i x] w Φ := by
  have h0 := h.thr (v := 0)
  have z0 : mO m 0 0 w (bm_si w m 0 0) := mO.rf.thr
  have e2 : bm_gi (bm_si w m 0 0) m 2 = (L : Int) := (q_gi_nk (by decide)).trans hT.1
  refine vc_X12_trim ?_
  simp only [bm_c0_v, bm_c1_v, bm_c2_v, bm_c3_v, bm_c4_v, bm_c5_v, bm_u_some, decide_eq_true_eq, true_and, and_true, and_self, Bool.not_eq_true, Bool.not_eq_true', decide_eq_false_iff_not, if_true, if_false, ite_true, ite_false, eq_self, h.1.1, h0.1.1, e2, mp_isIn, bm_c1_v, mp_no h0.1.1]
  by_cases c : 0 ≤ x ∧ x ≤ (L : Int)
  · rw [if_pos (show ¬ (if 0 ≤ x ∧ x ≤ (L : Int) then (1 : Int) else 0) = 0 by rw [if_pos c]; decide)]
    have F : q_fr (fun a => a = m) w (bm_si (bm_si w m 0 0) m 2 x) := ((q_fr.rf (A := fun a => a = m)).si rfl).si rfl
    have K : ∀ k, k ≠ 0 → k ≠ 2 → bm_gi (bm_si (bm_si w m 0 0) m 2 x) m k = bm_gi w m k := fun k a b => (q_gi_nk b).trans (q_gi_nk a)
    refine q1 c _ (h.mv (h.1.fr F) h.2.1 (fun a j u v => ⟨F.gi (by omega), F.gl (by omega)⟩) (K 18 (by decide) (by decide)) (K 28 (by decide) (by decide)) (K 11 (by decide) (by decide))) ⟨by rw [q_gi_eq]; omega, fun k hk => by rw [F.gi (by omega)]; exact hT.2 k (by omega)⟩ ((q_gi_nk (by decide)).trans q_gi_eq) F K
  · rw [if_neg (show ¬ ¬ (if 0 ≤ x ∧ x ≤ (L : Int) then (1 : Int) else 0) = 0 by rw [if_neg c]; decide)]
    exact q0 c 0 _ z0.thr q_gi_eq
end FD

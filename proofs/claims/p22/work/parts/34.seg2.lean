/-! ===== what pieces of code come to: operators, and, or, if ===== -/
theorem mc_Q.cnt {m : Nat} {i : Int} {b : Bool} {w : bm_W} : mc_Q m [(i, b)] w (mc_cnt w m i (if b = true then 1 else 0)) := by
  refine ⟨mc_cnt_fr q_fr.rf (by omega) (by omega), ?_, fun j => ?_, fun j => ?_⟩
  · unfold mc_cnt
    split
    · split
      · exact q_gi_ne (by omega)
      · exact q_gi_ne (by omega)
    · rfl
  · by_cases c : bm_gi w m 6 ≠ 0 ∧ 0 ≤ i ∧ i < 54
    · cases b
      · simp [mc_cnt, q_bump, c, bm_si_gi]
      · simp only [mc_cnt, q_bump, c, bm_si_gi, and_self, if_true, true_and, ne_eq, not_false_eq_true]
        grind [bm_si_gi]
    · have c' : ∀ b', ¬ (bm_gi w m 6 ≠ 0 ∧ 0 ≤ i ∧ i < 54 ∧ b' = true) := fun b' z => c ⟨z.1, z.2.1, z.2.2.1⟩
      simp only [mc_cnt, q_bump, if_neg c, if_neg (c' b)]
  · by_cases c : bm_gi w m 6 ≠ 0 ∧ 0 ≤ i ∧ i < 54
    · cases b
      · simp only [mc_cnt, q_bump, c, bm_si_gi, and_self, if_true, true_and, ne_eq, not_false_eq_true]
        grind [bm_si_gi]
      · simp [mc_cnt, q_bump, c, bm_si_gi]
    · have c' : ∀ b', ¬ (bm_gi w m 6 ≠ 0 ∧ 0 ≤ i ∧ i < 54 ∧ b' = false) := fun b' z => c ⟨z.1, z.2.1, z.2.2.1⟩
      simp only [mc_cnt, q_bump, if_neg c, if_neg (c' b)]
theorem mc_cnt_k {w : bm_W} {m k : Nat} {i b : Int} : bm_gi (mc_cnt w m i b) m k = bm_gi w m k := by
  unfold mc_cnt
  split
  · split
    · exact q_gi_ne (by omega)
    · exact q_gi_ne (by omega)
  · rfl
theorem mc_cnt_l {w : bm_W} {m : Nat} {i b : Int} : bm_gl (mc_cnt w m i b) = bm_gl w := by
  unfold mc_cnt
  split
  · split <;> rfl
  · rfl
/-- and, or: 9, 10 -/
def d_lo (op pl : Int) (D E : q_D) : q_D := fun a ch => match (D a ch).1 with
  | none => (none, (D a ch).2)
  | some x => if (x = 0) = ((op = 9) = ¬ (¬ ch = -1 ∧ pl = ch)) then (some (if x = 0 then 0 else 1), (D a ch).2) else match (E a ch).1 with
    | none => (none, (D a ch).2 ++ (E a ch).2)
    | some y => (some (if y = 0 then 0 else 1), (D a ch).2 ++ (E a ch).2)
def d_if (i pl : Int) (D T E : q_D) : q_D := fun a ch => match (D a ch).1 with
  | none => (none, (D a ch).2)
  | some x => if (x = 0) = ¬ (¬ ch = -1 ∧ pl = ch) then ((E a ch).1, (D a ch).2 ++ (i, false) :: (E a ch).2) else ((T a ch).1, (D a ch).2 ++ (i, true) :: (T a ch).2)
section SEG
variable {m p f : Nat} {num : Int} {k : Nat} {w0 : bm_W}
theorem seg_bin (h : q_cd m p f w0) {c0 c1 c2 wt wt2 dp : Nat} {D E : q_D} (hD : q_seg m p f num k w0 c0 c1 D wt dp) (hE : q_seg m p f num k w0 c1 c2 E wt2 dp) (hc : (c2 : Int) < bm_gi w0 f 7) (ho : 22 ≤ bm_gi w0 (f + 5) c2 ∧ bm_gi w0 (f + 5) c2 ≤ 32) (hw : 1 ≤ wt) (hw2 : 1 ≤ wt2) (hdp : 2 ≤ dp) : q_seg m p f num k w0 c0 (c2 + 1) (d_bin (bm_gi w0 (f + 5) c2) (bm_gi w0 (f + 7) c2) D E) (wt + wt2) dp := by
  have l1 := hD.1
  have l2 := hE.1
  refine ⟨by omega, fun d Φ base n chg steps a w hd hf h5 h4 hn hb ha s0 s1 hS hN => ?_⟩
  refine hD.2 d Φ base n chg steps a w hd hf h5 h4 (by omega) hb ha s0 s1 (fun x hx w1 st1 hR t0 t1 => ?_) (fun hx w1 hQ h51 => ?_)
  · refine hE.2 d Φ base (n + 1) chg st1 a w1 hd (hf.tr hR.1.1) hR.2.2.1 hR.2.1 (by omega) (by omega) (fun i hi => (hR.2.2.2.2 _ (by omega)).trans (ha i hi)) t0 t1 (fun y hy w2 st2 hR2 u0 u1 => ?_) (fun hy w2 hQ2 h52 => ?_)
    · obtain ⟨d, rfl⟩ : ∃ d', d = d' + 2 := ⟨d - 2, by omega⟩
      have hf' := (hf.tr hR.1.1).tr hR2.1.1
      have g5 : bm_gi w2 (f + 5) c2 = bm_gi w0 (f + 5) c2 := hf'.gi (h.2.2.2 5 (by decide))
      have g7 : bm_gi w2 (f + 7) c2 = bm_gi w0 (f + 7) c2 := hf'.gi (h.2.2.2 7 (by decide))
      have gL : bm_gi w2 f 7 = bm_gi w0 f 7 := hf'.gi (h.2.2.2 0 (by decide))
      refine rn_bin (n := n) (h.1.fr hf') (h.2.1.fr hf') hR2.2.2.1 u0 u1 (by rw [gL]; exact hc) (by rw [gL]; exact h.2.2.1) hR2.2.1 (by omega) (by rw [g5]; exact ho) ?_
      have e1 : bm_gl w2 (m + 1) n = x := (hR2.2.2.2.2 n (by omega)).trans hR.2.2.2.1
      have e2 : bm_gl w2 (m + 1) (n + 1) = y := hR2.2.2.2.1
      have e3 : rn_op w2 f chg c2 = if ¬ chg = -1 ∧ bm_gi w0 (f + 7) c2 = chg then t_chg (bm_gi w0 (f + 5) c2) else bm_gi w0 (f + 5) c2 := by
        unfold rn_op rn_ch
        rw [g5, g7]
        by_cases z : ¬ chg = -1 ∧ bm_gi w0 (f + 7) c2 = chg
        · rw [if_pos z, if_pos z, if_neg (by decide)]
        · rw [if_neg z, if_neg z, if_pos rfl]
      rw [e1, e2, e3]
      have hv : d_bin (bm_gi w0 (f + 5) c2) (bm_gi w0 (f + 7) c2) D E a chg = (t_bin (if ¬ chg = -1 ∧ bm_gi w0 (f + 7) c2 = chg then t_chg (bm_gi w0 (f + 5) c2) else bm_gi w0 (f + 5) c2) x y, (D a chg).2 ++ (E a chg).2) := by
        unfold d_bin
        rw [hx]
        dsimp only
        rw [hy]
      rw [hv] at hS hN
      cases e4 : t_bin (if ¬ chg = -1 ∧ bm_gi w0 (f + 7) c2 = chg then t_chg (bm_gi w0 (f + 5) c2) else bm_gi w0 (f + 5) c2) x y with
      | some v => exact hS v e4 _ _ (mc_R.put (n' := n) (v' := 0) (hR.1.tr hR2.1) hR2.2.2.1 (fun j q => (hR2.2.2.2.2 j (by omega)).trans (hR.2.2.2.2 j q))) (by omega) (by omega)
      | none =>
        refine rn_fault (w := bm_si (bm_si w2 m 4 ((n : Int) + 1)) m 5 1) ?_ ?_ q_gi_eq (hN e4 _ (((hR.1.tr hR2.1).st (by decide)).st (by decide)) q_gi_eq)
        · exact (h.1.fr hf').1
        · exact (h.2.1.fr hf').1
    · have hv : d_bin (bm_gi w0 (f + 5) c2) (bm_gi w0 (f + 7) c2) D E a chg = (none, (D a chg).2 ++ (E a chg).2) := by
        unfold d_bin
        rw [hx]
        dsimp only
        rw [hy]
      rw [hv] at hN
      exact hN rfl w2 (hR.1.tr hQ2) h52
  · have hv : d_bin (bm_gi w0 (f + 5) c2) (bm_gi w0 (f + 7) c2) D E a chg = (none, (D a chg).2) := by
      unfold d_bin
      rw [hx]
    rw [hv] at hN
    exact hN rfl w1 hQ h51
theorem seg_lo (h : q_cd m p f w0) {c0 c1 c2 wt wt2 dp : Nat} {D E : q_D} (hD : q_seg m p f num k w0 c0 c1 D wt dp) (hE : q_seg m p f num k w0 (c1 + 1) c2 E wt2 dp) (hc : (c2 : Int) < bm_gi w0 f 7) (ho : bm_gi w0 (f + 5) c1 = 9 ∨ bm_gi w0 (f + 5) c1 = 10) (hj : bm_gi w0 (f + 6) c1 = ((c2 + 1 : Nat) : Int)) (ho2 : bm_gi w0 (f + 5) c2 = 37) (hp2 : bm_gi w0 (f + 7) c2 = -1) (hw : 1 ≤ wt) (hw2 : 1 ≤ wt2) (hdp : 2 ≤ dp) : q_seg m p f num k w0 c0 (c2 + 1) (d_lo (bm_gi w0 (f + 5) c1) (bm_gi w0 (f + 7) c1) D E) (wt + wt2) dp := by
  have l1 := hD.1
  have l2 := hE.1
  refine ⟨by omega, fun d Φ base n chg steps a w hd hf h5 h4 hn hb ha s0 s1 hS hN => ?_⟩
  refine hD.2 d Φ base n chg steps a w hd hf h5 h4 (by omega) hb ha s0 s1 (fun x hx w1 st1 hR t0 t1 => ?_) (fun hx w1 hQ h51 => ?_)
  · obtain ⟨d, rfl⟩ : ∃ d', d = d' + 2 := ⟨d - 2, by omega⟩
    have hf' := hf.tr hR.1.1
    have g5 : bm_gi w1 (f + 5) c1 = bm_gi w0 (f + 5) c1 := hf'.gi (h.2.2.2 5 (by decide))
    have g6 : bm_gi w1 (f + 6) c1 = bm_gi w0 (f + 6) c1 := hf'.gi (h.2.2.2 6 (by decide))
    have g7 : bm_gi w1 (f + 7) c1 = bm_gi w0 (f + 7) c1 := hf'.gi (h.2.2.2 7 (by decide))
    have gL : bm_gi w1 f 7 = bm_gi w0 f 7 := hf'.gi (h.2.2.2 0 (by decide))
    refine rn_and (n := n) (j := c2 + 1) (h.1.fr hf') (h.2.1.fr hf') hR.2.2.1 t0 t1 (by rw [gL]; omega) (by rw [gL]; exact h.2.2.1) hR.2.1 (by omega) (by rw [g5]; exact ho) (g6.trans hj) ?_
    have e0 : (rn_ch w1 f chg c1 = 0) = ¬ (¬ chg = -1 ∧ bm_gi w0 (f + 7) c1 = chg) := by
      unfold rn_ch
      rw [g7]
      by_cases z : ¬ chg = -1 ∧ bm_gi w0 (f + 7) c1 = chg
      · rw [if_pos z]; simp [z]
      · rw [if_neg z]; simp [z]
    have e1 : ((bm_gl w1 (m + 1) n = 0) = ((bm_gi w1 (f + 5) c1 = 9) = (rn_ch w1 f chg c1 = 0))) = ((x = 0) = ((bm_gi w0 (f + 5) c1 = 9) = ¬ (¬ chg = -1 ∧ bm_gi w0 (f + 7) c1 = chg))) := by rw [hR.2.2.2.1, g5, e0]
    by_cases z : (x = 0) = ((bm_gi w0 (f + 5) c1 = 9) = ¬ (¬ chg = -1 ∧ bm_gi w0 (f + 7) c1 = chg))
    · rw [if_pos (e1.mpr z), hR.2.2.2.1]
      have hv : d_lo (bm_gi w0 (f + 5) c1) (bm_gi w0 (f + 7) c1) D E a chg = (some (if x = 0 then 0 else 1), (D a chg).2) := by
        unfold d_lo
        rw [hx]
        dsimp only
        rw [if_pos z]
      rw [hv] at hS
      exact hS _ rfl _ _ (mc_R.put (n' := n) (v' := 0) hR.1 hR.2.2.1 hR.2.2.2.2) (by omega) (by omega)
    · rw [if_neg (fun zz => z (e1.mp zz))]
      refine hE.2 (d + 2) Φ base n chg _ a _ hd (hf'.si (by omega)) ((q_gi_nk (by decide)).trans hR.2.2.1) q_gi_eq (by omega) hb (fun i hi => (hR.2.2.2.2 _ (by omega)).trans (ha i hi)) (by omega) (by omega) (fun y hy w2 st2 hR2 u0 u1 => ?_) (fun hy w2 hQ2 h52 => ?_)
      · have hQ1 : mc_Q m (D a chg).2 w (bm_si w1 m 4 (n : Int)) := hR.1.st (by decide)
        have hf2 := (hf.tr hQ1.1).tr hR2.1.1
        have g5' : bm_gi w2 (f + 5) c2 = bm_gi w0 (f + 5) c2 := hf2.gi (h.2.2.2 5 (by decide))
        have g7' : bm_gi w2 (f + 7) c2 = bm_gi w0 (f + 7) c2 := hf2.gi (h.2.2.2 7 (by decide))
        have gL' : bm_gi w2 f 7 = bm_gi w0 f 7 := hf2.gi (h.2.2.2 0 (by decide))
        refine rn_un (n := n) (h.1.fr hf2) (h.2.1.fr hf2) hR2.2.2.1 u0 u1 (by rw [gL']; exact hc) (by rw [gL']; exact h.2.2.1) hR2.2.1 (by omega) (by rw [g5']; exact Or.inr (Or.inr ho2)) (g7'.trans hp2) ?_
        have hv : d_lo (bm_gi w0 (f + 5) c1) (bm_gi w0 (f + 7) c1) D E a chg = (some (if y = 0 then 0 else 1), (D a chg).2 ++ (E a chg).2) := by
          unfold d_lo
          rw [hx]
          dsimp only
          rw [if_neg z, hy]
        rw [hv] at hS
        refine hS _ ?_ _ _ (mc_R.put (n' := n) (v' := 0) (hQ1.tr hR2.1) hR2.2.2.1 (fun j q => (hR2.2.2.2.2 j q).trans (hR.2.2.2.2 j q))) (by omega) (by omega)
        rw [g5', ho2, hR2.2.2.2.1]
        rfl
      · have hv : d_lo (bm_gi w0 (f + 5) c1) (bm_gi w0 (f + 7) c1) D E a chg = (none, (D a chg).2 ++ (E a chg).2) := by
          unfold d_lo
          rw [hx]
          dsimp only
          rw [if_neg z, hy]
        rw [hv] at hN
        exact hN rfl w2 ((hR.1.st (by decide)).tr hQ2) h52
  · have hv : d_lo (bm_gi w0 (f + 5) c1) (bm_gi w0 (f + 7) c1) D E a chg = (none, (D a chg).2) := by
      unfold d_lo
      rw [hx]
    rw [hv] at hN
    exact hN rfl w1 hQ h51
end SEG

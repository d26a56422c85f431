/-! ===== what pieces of code come to: if ===== -/
section SEG
variable {m p f : Nat} {num : Int} {k : Nat} {w0 : bm_W}
theorem seg_if (h : q_cd m p f w0) {c0 c1 c2 c3 wt wt2 wt3 dp : Nat} {D T E : q_D} (hD : q_seg m p f num k w0 c0 c1 D wt dp) (hT : q_seg m p f num k w0 (c1 + 2) c2 T wt2 dp) (hE : q_seg m p f num k w0 (c2 + 1) c3 E wt3 dp)
    (hc : (c3 : Int) ≤ bm_gi w0 f 7) (ho : bm_gi w0 (f + 5) c1 = 6) (ho1 : bm_gi w0 (f + 5) (c1 + 1) = 38) (hj1 : bm_gi w0 (f + 6) (c1 + 1) = ((c2 + 1 : Nat) : Int)) (ho2 : bm_gi w0 (f + 5) c2 = 38) (hj2 : bm_gi w0 (f + 6) c2 = (c3 : Int)) (hw : 1 ≤ wt) (hdp : 2 ≤ dp) : q_seg m p f num k w0 c0 c3 (d_if (bm_gi w0 (f + 6) c1) (bm_gi w0 (f + 7) c1) D T E) (wt + wt2 + wt3) dp := by
  have l1 := hD.1
  have l2 := hT.1
  have l3 := hE.1
  refine ⟨by omega, fun d Φ base n chg steps a w hd hf h5 h4 hn hb ha s0 s1 hS hN => ?_⟩
  refine hD.2 d Φ base n chg steps a w hd hf h5 h4 (by omega) hb ha s0 s1 (fun x hx w1 st1 hR t0 t1 => ?_) (fun hx w1 hQ h51 => ?_)
  · obtain ⟨d, rfl⟩ : ∃ d', d = d' + 2 := ⟨d - 2, by omega⟩
    have hf' := hf.tr hR.1.1
    have g5 : bm_gi w1 (f + 5) c1 = bm_gi w0 (f + 5) c1 := hf'.gi (h.2.2.2 5 (by decide))
    have g6 : bm_gi w1 (f + 6) c1 = bm_gi w0 (f + 6) c1 := hf'.gi (h.2.2.2 6 (by decide))
    have g7 : bm_gi w1 (f + 7) c1 = bm_gi w0 (f + 7) c1 := hf'.gi (h.2.2.2 7 (by decide))
    have gL : bm_gi w1 f 7 = bm_gi w0 f 7 := hf'.gi (h.2.2.2 0 (by decide))
    refine rn_if (n := n) (h.1.fr hf') (h.2.1.fr hf') hR.2.2.1 t0 t1 (by rw [gL]; omega) (by rw [gL]; exact h.2.2.1) hR.2.1 (by omega) (by rw [g5]; exact ho) ?_
    have e0 : (rn_ch w1 f chg c1 = 0) = ¬ (¬ chg = -1 ∧ bm_gi w0 (f + 7) c1 = chg) := by
      unfold rn_ch
      rw [g7]
      by_cases z : ¬ chg = -1 ∧ bm_gi w0 (f + 7) c1 = chg
      · rw [if_pos z]; simp [z]
      · rw [if_neg z]; simp [z]
    have e1 : ((bm_gl w1 (m + 1) n = 0) = (rn_ch w1 f chg c1 = 0)) = ((x = 0) = ¬ (¬ chg = -1 ∧ bm_gi w0 (f + 7) c1 = chg)) := by rw [hR.2.2.2.1, e0]
    have Q1 : ∀ b : Bool, mc_Q m ((D a chg).2 ++ [(bm_gi w0 (f + 6) c1, b)]) w (mc_cnt (bm_si w1 m 4 (n : Int)) m (bm_gi w1 (f + 6) c1) (if b = true then 1 else 0)) := fun b => by
      rw [g6]
      exact (hR.1.st (by decide)).tr mc_Q.cnt
    have A5 : ∀ b : Int, bm_gi (mc_cnt (bm_si w1 m 4 (n : Int)) m (bm_gi w1 (f + 6) c1) b) m 5 = 0 := fun b => mc_cnt_k.trans ((q_gi_nk (by decide)).trans hR.2.2.1)
    have A4 : ∀ b : Int, bm_gi (mc_cnt (bm_si w1 m 4 (n : Int)) m (bm_gi w1 (f + 6) c1) b) m 4 = (n : Int) := fun b => mc_cnt_k.trans q_gi_eq
    have AL : ∀ b : Int, bm_gl (mc_cnt (bm_si w1 m 4 (n : Int)) m (bm_gi w1 (f + 6) c1) b) = bm_gl w1 := fun b => mc_cnt_l
    by_cases z : (x = 0) = ¬ (¬ chg = -1 ∧ bm_gi w0 (f + 7) c1 = chg)
    · rw [if_pos (e1.mpr z)]
      have hv : d_if (bm_gi w0 (f + 6) c1) (bm_gi w0 (f + 7) c1) D T E a chg = ((E a chg).1, (D a chg).2 ++ (bm_gi w0 (f + 6) c1, false) :: (E a chg).2) := by
        unfold d_if
        rw [hx]
        dsimp only
        rw [if_pos z]
      rw [hv] at hS hN
      have key : ∀ wB : bm_W, mc_Q m ((D a chg).2 ++ [(bm_gi w0 (f + 6) c1, false)]) w wB → bm_gi wB m 5 = 0 → bm_gi wB m 4 = (n : Int) → bm_gl wB = bm_gl w1 → bk_X2_run_16 (d + 2) Φ m num (base : Int) chg f ((c1 + 1 : Nat) : Int) (st1 + 1) wB := by
        intro wB q1 a5 a4 aL
        have hfB := hf.tr q1.1
        have gB5 : bm_gi wB (f + 5) (c1 + 1) = bm_gi w0 (f + 5) (c1 + 1) := hfB.gi (h.2.2.2 5 (by decide))
        have gB6 : bm_gi wB (f + 6) (c1 + 1) = bm_gi w0 (f + 6) (c1 + 1) := hfB.gi (h.2.2.2 6 (by decide))
        have gBL : bm_gi wB f 7 = bm_gi w0 f 7 := hfB.gi (h.2.2.2 0 (by decide))
        refine rn_jump (j := c2 + 1) (h.1.fr hfB) (h.2.1.fr hfB) a5 (by omega) (by omega) (by rw [gBL]; omega) (by rw [gBL]; exact h.2.2.1) (gB5.trans ho1) (gB6.trans hj1) ?_
        refine hE.2 (d + 2) Φ base n chg _ a wB hd hfB a5 a4 (by omega) hb (fun i hi => by rw [aL]; exact (hR.2.2.2.2 _ (by omega)).trans (ha i hi)) (by omega) (by omega) (fun y hy w2 st2 hR2 u0 u1 => ?_) (fun hy w2 hQ2 h52 => ?_)
        · refine hS y hy w2 st2 ⟨?_, hR2.2.1, hR2.2.2.1, hR2.2.2.2.1, fun j q => (hR2.2.2.2.2 j q).trans (by rw [aL]; exact hR.2.2.2.2 j q)⟩ u0 u1
          have := q1.tr hR2.1
          rw [List.append_assoc] at this
          exact this
        · refine hN hy w2 ?_ h52
          have := q1.tr hQ2
          rw [List.append_assoc] at this
          exact this
      have q1 := Q1 false
      rw [if_neg (by decide)] at q1
      exact key _ q1 (A5 0) (A4 0) (AL 0)
    · rw [if_neg (fun zz => z (e1.mp zz))]
      have hv : d_if (bm_gi w0 (f + 6) c1) (bm_gi w0 (f + 7) c1) D T E a chg = ((T a chg).1, (D a chg).2 ++ (bm_gi w0 (f + 6) c1, true) :: (T a chg).2) := by
        unfold d_if
        rw [hx]
        dsimp only
        rw [if_neg z]
      rw [hv] at hS hN
      have key : ∀ wB : bm_W, mc_Q m ((D a chg).2 ++ [(bm_gi w0 (f + 6) c1, true)]) w wB → bm_gi wB m 5 = 0 → bm_gi wB m 4 = (n : Int) → bm_gl wB = bm_gl w1 → bk_X2_run_16 (d + 2) Φ m num (base : Int) chg f ((c1 + 2 : Nat) : Int) (st1 + 1) wB := by
        intro wB q1 a5 a4 aL
        have hfB := hf.tr q1.1
        refine hT.2 (d + 2) Φ base n chg _ a wB hd hfB a5 a4 (by omega) hb (fun i hi => by rw [aL]; exact (hR.2.2.2.2 _ (by omega)).trans (ha i hi)) (by omega) (by omega) (fun y hy w2 st2 hR2 u0 u1 => ?_) (fun hy w2 hQ2 h52 => ?_)
        · have hf2 := hfB.tr hR2.1.1
          have gB5 : bm_gi w2 (f + 5) c2 = bm_gi w0 (f + 5) c2 := hf2.gi (h.2.2.2 5 (by decide))
          have gB6 : bm_gi w2 (f + 6) c2 = bm_gi w0 (f + 6) c2 := hf2.gi (h.2.2.2 6 (by decide))
          have gBL : bm_gi w2 f 7 = bm_gi w0 f 7 := hf2.gi (h.2.2.2 0 (by decide))
          refine rn_jump (j := c3) (h.1.fr hf2) (h.2.1.fr hf2) hR2.2.2.1 u0 u1 (by rw [gBL]; omega) (by rw [gBL]; exact h.2.2.1) (gB5.trans ho2) (gB6.trans hj2) ?_
          refine hS y hy w2 _ ⟨?_, hR2.2.1, hR2.2.2.1, hR2.2.2.2.1, fun j q => (hR2.2.2.2.2 j q).trans (by rw [aL]; exact hR.2.2.2.2 j q)⟩ (by omega) (by omega)
          have := q1.tr hR2.1
          rw [List.append_assoc] at this
          exact this
        · refine hN hy w2 ?_ h52
          have := q1.tr hQ2
          rw [List.append_assoc] at this
          exact this
      have q1 := Q1 true
      rw [if_pos rfl] at q1
      exact key _ q1 (A5 1) (A4 1) (AL 1)
  · have hv : d_if (bm_gi w0 (f + 6) c1) (bm_gi w0 (f + 7) c1) D T E a chg = (none, (D a chg).2) := by
      unfold d_if
      rw [hx]
    rw [hv] at hN
    exact hN rfl w1 hQ h51
end SEG

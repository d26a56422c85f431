/-! ===== calls, in the model ===== -/
section MK
variable {d m g a : Nat} {ch x y z : Int} {B : Int → Int} {pr : y_pr} {w : bm_W} {Φ : bm_Rt → bm_W → Prop}
/-- not too many places -/
def y_pls (pr : y_pr) : Prop := ∀ g, g < pr.1.length → (pr.1.getD g y_f0).2.2.1 ≤ 50
abbrev y_D (pr : y_pr) (g : Nat) : q_D := (pr.1.getD g y_f0).2.2.2.2
theorem mm_ct (h : mA m B pr w) (hg : g < pr.1.length) (kt : bm_kt w a = 21) (kn : bm_kn w a = 3) (ha : a ≠ m) (v0 : bm_gi w a 0 = x) (v1 : bm_gi w a 1 = y) (v2 : bm_gi w a 2 = z)
    (hS : ∀ v, (y_D pr g (q_abc x y z) ch).1 = some v → ∀ w', mO m 0 0 w w' → bm_gi w' m 0 = 0 → Φ (.inl (some (bm_l v))) w') (hN : (y_D pr g (q_abc x y z) ch).1 = none → ∀ w', mO m 0 0 w w' → bm_gi w' m 0 = 2 → Φ (.inl (some (bm_l 0))) w') : bm_Call bm_pg (d + 1201) y_X12_run [bm_r (some m), bm_i (g : Int), bm_r (some a), bm_i ch] w (fun r1 w1 =>
    bm_c2 (fun x1 => (bm_kt w1 m = 12) ∧
    (if (decide ((bm_gi w1 m 36) = 0)) = true then
      (bm_kt w1 m = 12) ∧
      (bm_kt (bm_si w1 m 0 (0 : Int)) m = 12) ∧
      (if (decide ((bm_gi (bm_si w1 m 0 (0 : Int)) m 36) = 0)) = true then
        Φ (.inl (some (bm_l x1))) (bm_si w1 m 0 (0 : Int))
      else
        Φ (.inl (some (bm_l (0 : Int)))) (bm_si w1 m 0 (0 : Int)))
    else
      (bm_kt w1 m = 12) ∧
      (bm_kt (bm_si w1 m 0 (2 : Int)) m = 12) ∧
      (if (decide ((bm_gi (bm_si w1 m 0 (2 : Int)) m 36) = 0)) = true then
        Φ (.inl (some (bm_l x1))) (bm_si w1 m 0 (2 : Int))
      else
        Φ (.inl (some (bm_l (0 : Int)))) (bm_si w1 m 0 (2 : Int))))) (fun E => Φ (.inr E) w1) r1) := by
  have g6 := h.2.2.1.2.1
  obtain ⟨-, -, -, -, -, -, -, nn, -, hm'⟩ := h.2.2.1.2.2.1 g hg
  have hm := hm' w (fun _ _ _ _ _ => rfl) (fun _ _ => ⟨rfl, rfl⟩) h.1
  refine mp_run (w0 := w) (d := d + 1200) h.1 (by omega) rfl hm (by omega) q_fr.rf ⟨kt, by omega⟩ ha (fun v hv w2 Q2 h36 => ?_) (fun hv w2 Q2 h36 => ?_)
  · rw [v0, v1, v2] at hv Q2
    have S2 := (h.mQ (mQ.md Q2)).1.1
    rw [bm_c2_v, if_pos (decide_eq_true h36), if_pos (decide_eq_true ((q_gi_nk (by decide)).trans h36))]
    exact ⟨S2, S2, S2, hS v hv _ (mO.mQ (mQ.md Q2)).thr q_gi_eq⟩
  · rw [v0, v1, v2] at hv Q2
    have S2 := (h.mQ (mQ.md Q2)).1.1
    rw [bm_c2_v, if_neg (fun y => by have := of_decide_eq_true y; omega)]
    have e : bm_gi (bm_si w2 m 0 2) m 36 = 1 := (q_gi_nk (by decide)).trans h36
    rw [if_neg (fun y => by have := of_decide_eq_true y; omega)]
    exact ⟨S2, S2, S2, hN hv _ (mO.mQ (mQ.md Q2)).thr q_gi_eq⟩
/-- three numbers, laid behind all else -/
theorem mm_abc (h : mA m B pr w) : mA m B pr (bm_si (bm_si (bm_si (bm_nw w 21 3 3) (bm_sz w) 0 x) (bm_sz w) 1 y) (bm_sz w) 2 z) ∧ mO m 1 3 w (bm_si (bm_si (bm_si (bm_nw w 21 3 3) (bm_sz w) 0 x) (bm_sz w) 1 y) (bm_sz w) 2 z) ∧ bm_gi (bm_si (bm_si (bm_si (bm_nw w 21 3 3) (bm_sz w) 0 x) (bm_sz w) 1 y) (bm_sz w) 2 z) (bm_sz w) 0 = x ∧ bm_gi (bm_si (bm_si (bm_si (bm_nw w 21 3 3) (bm_sz w) 0 x) (bm_sz w) 1 y) (bm_sz w) 2 z) (bm_sz w) 1 = y ∧ bm_gi (bm_si (bm_si (bm_si (bm_nw w 21 3 3) (bm_sz w) 0 x) (bm_sz w) 1 y) (bm_sz w) 2 z) (bm_sz w) 2 = z := by
  have hs := h.2.1
  have G : q_gw (fun a => a = m ∨ (m + 28 ≤ a ∧ a ≤ m + 31)) (fun _ => False) (0 + 1) (0 + 3) w (bm_si (bm_si (bm_si (bm_nw w 21 3 3) (bm_sz w) 0 x) (bm_sz w) 1 y) (bm_sz w) 2 z) := ((((q_gw.rf.nw (m := 3)).si (Or.inr (Nat.le_refl _))).si (Or.inr (Nat.le_refl _))).si (Or.inr (Nat.le_refl _)))
  have O : mO m 1 3 w (bm_si (bm_si (bm_si (bm_nw w 21 3 3) (bm_sz w) 0 x) (bm_sz w) 1 y) (bm_sz w) 2 z) := ⟨G, fun k _ _ => by
    rw [q_gi_ne (by omega), q_gi_ne (by omega), q_gi_ne (by omega)]
    exact if_neg (by omega)⟩
  exact ⟨h.mO O, O, by rw [q_gi_nk (by decide), q_gi_nk (by decide), q_gi_eq], by rw [q_gi_nk (by decide), q_gi_eq], q_gi_eq⟩
theorem mo_call {f : Int} (h : mA m B pr w) (hS : ∀ v, 0 ≤ f ∧ f < (pr.1.length : Int) → (y_D pr f.toNat (q_abc x y z) (-1)).1 = some v → ∀ w', mO m 1 3 w w' → bm_gi w' m 0 = 0 → Φ (.inl (some (bm_l v))) w') (hN : 0 ≤ f ∧ f < (pr.1.length : Int) → (y_D pr f.toNat (q_abc x y z) (-1)).1 = none → ∀ w', mO m 1 3 w w' → bm_gi w' m 0 = 2 → Φ (.inl (some (bm_l 0))) w') (q0 : ¬ (0 ≤ f ∧ f < (pr.1.length : Int)) → ∀ w', mO m 1 3 w w' → bm_gi w' m 0 = 1 → Φ (.inl (some (bm_l 0))) w') : bm_Call bm_pg (d + 1202) y_X12_call_ [bm_r (some m), bm_i f, bm_i x, bm_i y, bm_i z] w Φ := by
  have t3 : ((3 : Int)).toNat = 3 := rfl
  refine vc_X12_call_ ⟨h.1.1, ?_⟩
  rw [h.isFun (d := d + 1199), bm_c1_v]
  by_cases c : 0 ≤ f ∧ f < (pr.1.length : Int)
  · rw [if_pos c, if_neg (by decide)]
    obtain ⟨g, rfl⟩ : ∃ g : Nat, f = (g : Int) := ⟨f.toNat, by omega⟩
    rw [Int.toNat_natCast] at hS hN
    have h0 := h.thr (v := 0)
    obtain ⟨A, O, e0, e1, e2⟩ := mm_abc (x := x) (y := y) (z := z) h0
    have hs := h.2.1
    refine vb_X12_call__14 ⟨h.1.1, h0.1.1, ?_⟩
    rw [if_pos (decide_eq_true q_gi_eq)]
    refine ⟨by decide, ⟨if_pos rfl, ?_⟩, ⟨if_pos rfl, ?_⟩, ⟨if_pos rfl, ?_⟩, vb_X12_call__44 ⟨A.1.1, mm_ct (d := d) A (by omega) (if_pos rfl) (if_pos rfl) ?_ e0 e1 e2 (fun v hv w' O2 t2 => hS v c hv w' ?_ t2) (fun hv w' O2 t2 => hN c hv w' ?_ t2)⟩⟩
    · have k : bm_kn (bm_nw (bm_si w m 0 0) 21 3 3) (bm_sz (bm_si w m 0 0)) = 3 := if_pos rfl
      show bm_in 0 (bm_kn (bm_nw (bm_si w m 0 0) 21 3 3) (bm_sz (bm_si w m 0 0)))
      rw [k]; exact ⟨by decide, by decide⟩
    · have k : bm_kn (bm_nw (bm_si w m 0 0) 21 3 3) (bm_sz (bm_si w m 0 0)) = 3 := if_pos rfl
      show bm_in 1 (bm_kn (bm_nw (bm_si w m 0 0) 21 3 3) (bm_sz (bm_si w m 0 0)))
      rw [k]; exact ⟨by decide, by decide⟩
    · have k : bm_kn (bm_nw (bm_si w m 0 0) 21 3 3) (bm_sz (bm_si w m 0 0)) = 3 := if_pos rfl
      show bm_in 2 (bm_kn (bm_nw (bm_si w m 0 0) 21 3 3) (bm_sz (bm_si w m 0 0)))
      rw [k]; exact ⟨by decide, by decide⟩
    · show bm_sz w ≠ m; omega
    · exact (mO.rf.thr.tr O).tr O2
    · exact (mO.rf.thr.tr O).tr O2
  · rw [if_neg c, if_pos (by decide)]
    refine vb_X12_call__14 ⟨h.1.1, h.1.1, ?_⟩
    have e : bm_gi (bm_si w m 0 1) m 0 = 1 := q_gi_eq
    rw [if_neg (fun y => by have := of_decide_eq_true y; omega)]
    exact q0 c _ ⟨(mO.rf.thr (v := 1)).1.mo (fun _ z => z) (fun _ z => z) (by omega) (by omega), (mO.rf.thr (v := 1)).2⟩ e
theorem mo_callChanged {f pl : Int} (h : mA m B pr w) (hp : y_pls pr) (hS : ∀ v, (0 ≤ f ∧ f < (pr.1.length : Int)) ∧ 0 ≤ pl ∧ pl < ((pr.1.getD f.toNat y_f0).2.2.1 : Int) → (y_D pr f.toNat (q_abc x y z) pl).1 = some v → ∀ w', mO m 1 3 w w' → bm_gi w' m 0 = 0 → Φ (.inl (some (bm_l v))) w') (hN : (0 ≤ f ∧ f < (pr.1.length : Int)) ∧ 0 ≤ pl ∧ pl < ((pr.1.getD f.toNat y_f0).2.2.1 : Int) → (y_D pr f.toNat (q_abc x y z) pl).1 = none → ∀ w', mO m 1 3 w w' → bm_gi w' m 0 = 2 → Φ (.inl (some (bm_l 0))) w') (q0 : ¬ ((0 ≤ f ∧ f < (pr.1.length : Int)) ∧ 0 ≤ pl ∧ pl < ((pr.1.getD f.toNat y_f0).2.2.1 : Int)) → ∀ w', mO m 1 3 w w' → bm_gi w' m 0 = 1 → Φ (.inl (some (bm_l 0))) w') : bm_Call bm_pg (d + 1202) y_X12_callChanged [bm_r (some m), bm_i f, bm_i pl, bm_i x, bm_i y, bm_i z] w Φ := by
  have t3 : ((3 : Int)).toNat = 3 := rfl
  refine vc_X12_callChanged ⟨h.1.1, ?_⟩
  rw [h.isFun (d := d + 1199), bm_c1_v]
  have bad : ¬ ((0 ≤ f ∧ f < (pr.1.length : Int)) ∧ 0 ≤ pl ∧ pl < ((pr.1.getD f.toNat y_f0).2.2.1 : Int)) → bk_X12_callChanged_30 (d + 1201) Φ m f pl x y z 1 m w := fun c => by
    refine vb_X12_callChanged_30 ⟨h.1.1, h.1.1, ?_⟩
    have e : bm_gi (bm_si w m 0 1) m 0 = 1 := q_gi_eq
    rw [if_neg (fun y => by have := of_decide_eq_true y; omega)]
    exact q0 c _ ⟨(mO.rf.thr (v := 1)).1.mo (fun _ z => z) (fun _ z => z) (by omega) (by omega), (mO.rf.thr (v := 1)).2⟩ e
  by_cases c : 0 ≤ f ∧ f < (pr.1.length : Int)
  · rw [if_pos c, if_neg (by decide)]
    obtain ⟨g, rfl⟩ : ∃ g : Nat, f = (g : Int) := ⟨f.toNat, by omega⟩
    have fn := h.2.2.1.2.2.1 g (by omega)
    have g6 := h.2.2.1.2.1
    have p19 := fn.2.2.2.1
    rw [Int.toNat_natCast] at hS hN bad
    have pb := hp g (by omega)
    simp only [bm_c0_v, bm_c1_v, bm_c2_v, bm_c3_v, bm_c4_v, bm_c5_v, bm_u_some, decide_eq_true_eq, true_and, and_true, and_self, Bool.not_eq_true, Bool.not_eq_true', decide_eq_false_iff_not, if_true, if_false, ite_true, ite_false, eq_self, h.1.1, h.1.g25, h.1.t25, h.1.n25, bm_in, Int.toNat_natCast, p19, q_wI (x := ((pr.1.getD g y_f0).2.2.1 : Int) - 1) ⟨by omega, by omega⟩, mp_isIn, bm_c1_v]
    refine ⟨by omega, ?_⟩
    by_cases c2 : 0 ≤ pl ∧ pl < ((pr.1.getD g y_f0).2.2.1 : Int)
    · rw [if_neg (show ¬ (if 0 ≤ pl ∧ pl ≤ ((pr.1.getD g y_f0).2.2.1 : Int) - 1 then (1 : Int) else 0) = 0 by rw [if_pos ⟨by omega, by omega⟩]; decide)]
      have h0 := h.thr (v := 0)
      obtain ⟨A, O, e0, e1, e2⟩ := mm_abc (x := x) (y := y) (z := z) h0
      have hs := h.2.1
      refine vb_X12_callChanged_30 ⟨h.1.1, h0.1.1, ?_⟩
      rw [if_pos (decide_eq_true q_gi_eq)]
      have kk : bm_kn (bm_nw (bm_si w m 0 0) 21 3 3) (bm_sz (bm_si w m 0 0)) = 3 := if_pos rfl
      refine ⟨by decide, ⟨if_pos rfl, ?_⟩, ⟨if_pos rfl, ?_⟩, ⟨if_pos rfl, ?_⟩, vb_X12_callChanged_61 ⟨A.1.1, mm_ct (d := d) A (by omega) (if_pos rfl) (if_pos rfl) ?_ e0 e1 e2 (fun v hv w' O2 t2 => hS v ⟨c, c2⟩ hv w' ?_ t2) (fun hv w' O2 t2 => hN ⟨c, c2⟩ hv w' ?_ t2)⟩⟩
      · show bm_in 0 (bm_kn (bm_nw (bm_si w m 0 0) 21 3 3) (bm_sz (bm_si w m 0 0)))
        rw [kk]; exact ⟨by decide, by decide⟩
      · show bm_in 1 (bm_kn (bm_nw (bm_si w m 0 0) 21 3 3) (bm_sz (bm_si w m 0 0)))
        rw [kk]; exact ⟨by decide, by decide⟩
      · show bm_in 2 (bm_kn (bm_nw (bm_si w m 0 0) 21 3 3) (bm_sz (bm_si w m 0 0)))
        rw [kk]; exact ⟨by decide, by decide⟩
      · show bm_sz w ≠ m; omega
      · exact (mO.rf.thr.tr O).tr O2
      · exact (mO.rf.thr.tr O).tr O2
    · rw [if_pos (show (if 0 ≤ pl ∧ pl ≤ ((pr.1.getD g y_f0).2.2.1 : Int) - 1 then (1 : Int) else 0) = 0 by rw [if_neg (by omega)])]
      exact bad (fun z => c2 z.2)
  · rw [if_neg c, if_pos (by decide)]
    exact bad (fun z => c z.1)
end MK

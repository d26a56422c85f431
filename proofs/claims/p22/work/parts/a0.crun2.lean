/-! ===== all cases of a table, in the class: the loops ===== -/
section CV
variable {d t T g n : Nat} {B : Int → Int} {F : y_fn} {rows : List y_rw} {w : bm_W} {Φ : bm_Rt → bm_W → Prop}
theorem zC.ct (h : zC t T g n B F rows w) {i : Nat} (hi : i < rows.length) : 0 ≤ y_ct (rows.take i) ∧ y_ct (rows.take i) + y_cs (rows.getD i y_r0).1 ≤ y_ct rows ∧ y_ct rows ≤ 100 := by
  have hc := fun j hj => (h.cs j hj).1
  have a := y_ct_take rows i hc
  have mono : ∀ (m : Nat), y_ct (rows.take (i + 1)) ≤ y_ct (rows.take (i + 1 + m)) := fun m => by
    induction m with
    | zero => exact Int.le_refl _
    | succ m ih =>
      rcases Nat.lt_or_ge (i + 1 + m) rows.length with z | z
      · have b := (y_ct_take rows (i + 1 + m) hc).2 z
        have c := hc _ z
        rw [show i + 1 + (m + 1) = i + 1 + m + 1 from rfl, b]
        omega
      · rw [List.take_of_length_le z] at ih
        rw [List.take_of_length_le (show rows.length ≤ i + 1 + (m + 1) by omega)]
        exact ih
  have := mono (rows.length - (i + 1))
  rw [show i + 1 + (rows.length - (i + 1)) = rows.length by omega, List.take_length, a.2 hi] at this
  exact ⟨a.1, this, h.2.2.2.2.1.2.2.2.1⟩
theorem rt_32 (h : zC t T g n B F rows w) {i o m r : Nat} (hi : i < rows.length) (ho : (o : Int) = y_ct (rows.take i)) (hm : (m : Int) = y_cs (rows.getD i y_r0).1) (hr : tb_row w T (i : Int) = r) (hq : ∀ w2, zP t T F.2.2.2.2 rows (o + m) w w2 → bk_X6_runTable_4 (d + 24) Φ (t + 117) T ((o + m : Nat) : Int) ((i + 1 : Nat) : Int) w2) : ∀ (rem idx : Nat) (w1 : bm_W), idx + rem = m → zP t T F.2.2.2.2 rows (o + idx) w w1 → bk_X6_runTable_32 (d + 24) Φ (t + 117) T (o : Int) (i : Int) r (m : Int) (idx : Int) w1
  | 0, idx, w1, hx, hP => by
    have ct := h.ct hi
    refine vb_X6_runTable_32 ?_
    rw [if_pos (by simp; omega), bm_wN (show o + m < 2147483648 by omega), bm_w1 (show i < 2147483647 by have := h.2.2.2.2.1.2.1; omega)]
    have : idx = m := by omega
    subst this
    exact hq w1 hP
  | rem + 1, idx, w1, hx, hP => by
    have ct := h.ct hi
    have off := h.off
    have C1 := h.fr hP.1 (fun a z => z)
    obtain ⟨r', e1, e2, e3⟩ := C1.row hi
    have er : tb_row w1 T (i : Int) = tb_row w T (i : Int) := by unfold tb_row; rw [hP.1.gr]
    have rr : r' = r := by rw [← e1, er, hr]
    subst rr
    have cs := fun j hj => (h.cs j hj).1
    have at1 := s_at_off rows i (idx : Int) hi (by omega) (by omega) cs
    rw [← ho, ← Int.natCast_add] at at1
    have sin : s_in rows ((o + idx : Nat) : Int) = s_val (rows.getD i y_r0).1 (idx : Int) := by
      funext j
      unfold s_in
      rw [at1]
    have hold : s_hold F.2.2.2.2 rows ((o + idx : Nat) : Int) (-1) = s_ad (rows.getD i y_r0) (F.2.2.2.2 (s_val (rows.getD i y_r0).1 (idx : Int)) (-1)).1 := by
      unfold s_hold
      rw [sin, at1]
    have tc : s_tc F.2.2.2.2 rows ((o + idx : Nat) : Int) = (F.2.2.2.2 (s_val (rows.getD i y_r0).1 (idx : Int)) (-1)).2 := by
      unfold s_tc
      rw [sin]
    refine vb_X6_runTable_32 ?_
    rw [if_neg (by simp; omega)]
    simp only [C1.2.1.1, C1.1.1, true_and, C1.2.2.1]
    refine sp_isHolding (d := d) C1.1 C1.2.2.2.1 C1.2.2.2.2.2.2.1.1 C1.2.2.2.2.2.2.1.2.1 e2 C1.2.2.2.2.2.2.1.2.2.1 (by omega) (by omega) (by omega) (fun w2 Q2 => ?_)
    rw [bm_c1_v]
    have C2 := C1.fr Q2.1 (fun a z => Or.inl (by omega))
    refine ⟨C2.2.1.1, ?_⟩
    rw [bm_wN (show o + idx < 2147483648 by omega), sp_note C2.2.1 s_ad_01, bm_c0_v, if_pos ⟨by omega, by omega⟩, Int.toNat_natCast, bm_w1 (show idx < 2147483647 by omega)]
    rw [← tc] at Q2
    rw [← hold]
    exact rt_32 h hi ho hm hr hq rem (idx + 1) _ (by omega) (hP.step Q2 (by omega))
theorem rt_4 (h : zC t T g n B F rows w) (hq : ∀ w2, zP t T F.2.2.2.2 rows (y_ct rows).toNat w w2 → Φ (.inl none) w2) : ∀ (rem i o : Nat) (w1 : bm_W), i + rem = rows.length → (o : Int) = y_ct (rows.take i) → zP t T F.2.2.2.2 rows o w w1 → bk_X6_runTable_4 (d + 24) Φ (t + 117) T (o : Int) (i : Int) w1
  | 0, i, o, w1, hx, ho, hP => by
    have C1 := h.fr hP.1 (fun a z => z)
    refine vb_X6_runTable_4 ?_
    simp only [C1.2.1.1, true_and, C1.2.2.2.2.1.1]
    rw [if_pos (by simp; omega)]
    have : i = rows.length := by omega
    rw [this, List.take_length] at ho
    have e : o = (y_ct rows).toNat := by omega
    rw [e] at hP
    exact hq w1 hP
  | rem + 1, i, o, w1, hx, ho, hP => by
    have hi : i < rows.length := by omega
    have C1 := h.fr hP.1 (fun a z => z)
    obtain ⟨r, e1, e2, e3⟩ := C1.row hi
    have er : tb_row w1 T (i : Int) = tb_row w T (i : Int) := by unfold tb_row; rw [hP.1.gr]
    have cs := h.cs i hi
    obtain ⟨m, hm⟩ : ∃ m : Nat, (m : Int) = y_cs (rows.getD i y_r0).1 := ⟨(y_cs (rows.getD i y_r0).1).toNat, by omega⟩
    refine vb_X6_runTable_4 ?_
    simp only [C1.2.1.1, true_and, C1.2.2.2.2.1.1]
    rw [if_neg (by simp; omega), sp_rowAt (d := d + 23) C1.2.1, bm_c3_v, e1]
    simp only [e2.1.1, e2.1.2.1, bm_u_some, e2.1.2.2.1, true_and, sp_rc (d := d + 21) e2.rgl, bm_c1_v]
    rw [← hm]
    refine rt_32 (w := w) h hi ho hm (er.symm.trans e1) (fun w2 P2 => ?_) m 0 w1 (by omega) hP
    refine rt_4 h hq rem (i + 1) (o + m) w2 (by omega) ?_ P2
    rw [(y_ct_take rows i (fun j hj => (h.cs j hj).1)).2 hi]
    omega
theorem sp_runTable (h : zC t T g n B F rows w) (hq : ∀ w2, zP t T F.2.2.2.2 rows (y_ct rows).toNat w w2 → Φ (.inl none) w2) : bm_Call bm_pg (d + 25) y_X6_runTable [bm_r (some (t + 117)), bm_r (some T)] w Φ := by
  have := rt_4 (d := d) h hq rows.length 0 0 w (by omega) (by simp [y_ct]) zP.rf
  exact vc_X6_runTable this
end CV

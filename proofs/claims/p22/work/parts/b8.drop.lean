/-! ===== a row is dropped, in the class ===== -/
/-- the program with other rows in a table -/
def y_st (pr : y_pr) (k : Nat) (rows : List y_rw) : y_pr := (pr.1, pr.2.set k ((pr.2.getD k y_t0).1, (pr.2.getD k y_t0).2.1, rows))
section YS
variable {pr : y_pr} {k : Nat} {rows : List y_rw}
theorem y_st_len : (y_st pr k rows).2.length = pr.2.length := List.length_set
theorem y_st_at (hk : k < pr.2.length) (j : Nat) : (y_st pr k rows).2.getD j y_t0 = if j = k then ((pr.2.getD k y_t0).1, (pr.2.getD k y_t0).2.1, rows) else pr.2.getD j y_t0 := q_set hk
theorem y_st_f (hk : k < pr.2.length) (j : Nat) : ((y_st pr k rows).2.getD j y_t0).2.1 = (pr.2.getD j y_t0).2.1 := by
  rw [y_st_at hk]
  by_cases c : j = k
  · subst c
    rw [if_pos rfl]
  · rw [if_neg c]
theorem y_st_F (hk : k < pr.2.length) (j : Nat) : y_tF (y_st pr k rows) j = y_tF pr j := by
  unfold y_tF
  rw [y_st_f hk]
  rfl
theorem y_st_r (hk : k < pr.2.length) (j : Nat) : ((y_st pr k rows).2.getD j y_t0).2.2 = if j = k then rows else (pr.2.getD j y_t0).2.2 := by
  rw [y_st_at hk]
  by_cases c : j = k
  · rw [if_pos c, if_pos c]
  · rw [if_neg c, if_neg c]
theorem y_st_st (hk : k < pr.2.length) {rows' : List y_rw} : y_st (y_st pr k rows) k rows' = y_st pr k rows' := by
  show ((y_st pr k rows).1, (y_st pr k rows).2.set k (((y_st pr k rows).2.getD k y_t0).1, ((y_st pr k rows).2.getD k y_t0).2.1, rows')) = _
  rw [y_st_at hk, if_pos rfl]
  show (pr.1, (pr.2.set k _).set k _) = _
  rw [List.set_set]
  rfl
theorem q_erase {α : Type} {l : List α} {n i : Nat} {z : α} : (l.eraseIdx n).getD i z = if i < n then l.getD i z else l.getD (i + 1) z := by
  rw [List.getD_eq_getElem?_getD, List.getElem?_eraseIdx]
  split
  · rw [List.getD_eq_getElem?_getD]
  · rw [List.getD_eq_getElem?_getD]
theorem y_ct_erase : ∀ (rows : List y_rw) (n : Nat), n < rows.length → y_ct (rows.eraseIdx n) = y_ct rows - y_cs (rows.getD n y_r0).1
  | [], n, h => by simp at h
  | R :: l, 0, h => by
    show y_ct l = y_cs R.1 + y_ct l - y_cs R.1
    omega
  | R :: l, n + 1, h => by
    show y_cs R.1 + y_ct (l.eraseIdx n) = y_cs R.1 + y_ct l - y_cs (l.getD n y_r0).1
    rw [y_ct_erase l n (by simpa using h)]
    omega
/-- what the rows but one find is what the rows find without it -/
theorem s_ft_erase {D : q_D} {n p : Nat} (hn : n < rows.length) : s_ft D rows (some n) p rows.length = s_ft D (rows.eraseIdx n) none p (rows.eraseIdx n).length := by
  rw [Bool.eq_iff_iff, s_ft_iff, s_ft_iff, List.length_eraseIdx_of_lt hn]
  constructor
  · rintro ⟨i, h1, h2, h3⟩
    have ne : n ≠ i := fun z => h2 (by rw [z])
    by_cases c : i < n
    · exact ⟨i, by omega, by simp, by rw [q_erase, if_pos c]; exact h3⟩
    · exact ⟨i - 1, by omega, by simp, by rw [q_erase, if_neg (by omega), show i - 1 + 1 = i by omega]; exact h3⟩
  · rintro ⟨i, h1, -, h3⟩
    rw [q_erase] at h3
    by_cases c : i < n
    · rw [if_pos c] at h3
      exact ⟨i, by omega, fun z => by injection z with z; omega, h3⟩
    · rw [if_neg c] at h3
      exact ⟨i + 1, by omega, fun z => by injection z with z; omega, h3⟩
end YS
theorem rw_n_ext {g g' : Nat → Option Nat} : ∀ m : Nat, (∀ j, j < m → (g' j = none ↔ g j = none)) → rw_n g' m = rw_n g m
  | 0, _ => rfl
  | m + 1, h => by
    have ih := rw_n_ext m (fun j hj => h j (by omega))
    have e := h m (by omega)
    show rw_n g' m + (if g' m = none then 1 else 0) = rw_n g m + (if g m = none then 1 else 0)
    rw [ih]
    by_cases c : g m = none
    · rw [if_pos c, if_pos (e.mpr c)]
    · rw [if_neg c, if_neg (fun z => c (e.mp z))]
theorem rm_ext {t : Nat} {w w' : bm_W} (h : ∀ a, t ≤ a → a ≤ t + 111 → ∀ j, j < 12 → (bm_gr w' a j = none ↔ bm_gr w a j = none)) : rm t w' = rm t w := by
  unfold rm
  rw [rw_n_ext 12 (h (t + 16) (by omega) (by omega)), rw_n_ext 12 (h (t + 71) (by omega) (by omega)), rw_n_ext 12 (h (t + 78) (by omega) (by omega)), rw_n_ext 12 (h (t + 85) (by omega) (by omega)), rw_n_ext 12 (h (t + 92) (by omega) (by omega)), rw_n_ext 12 (h (t + 99) (by omega) (by omega)), rw_n_ext 12 (h (t + 106) (by omega) (by omega))]
/-- references of one array alone have changed -/
def q_rf (x : Nat) (w w' : bm_W) : Prop := (∀ a j, bm_gi w' a j = bm_gi w a j ∧ bm_gl w' a j = bm_gl w a j) ∧ bm_kt w' = bm_kt w ∧ bm_kn w' = bm_kn w ∧ bm_sz w' = bm_sz w ∧ bm_sl w' = bm_sl w ∧ ∀ a, a ≠ x → bm_gr w' a = bm_gr w a
theorem q_rf.rf {x : Nat} {w : bm_W} : q_rf x w w := ⟨fun _ _ => ⟨rfl, rfl⟩, rfl, rfl, rfl, rfl, fun _ _ => rfl⟩
theorem q_rf.sr {x k : Nat} {v : Option Nat} {w w' : bm_W} (h : q_rf x w w') : q_rf x w (bm_sr w' x k v) := ⟨h.1, h.2.1, h.2.2.1, h.2.2.2.1, h.2.2.2.2.1, fun a ha => (funext fun j => q_gr_ne ha).trans (h.2.2.2.2.2 a ha)⟩
section DR
variable {d b t k T n : Nat} {B : Int → Int} {pr : y_pr} {w w' : bm_W} {Φ : bm_Rt → bm_W → Prop}
theorem sh_Rg.rfq {x r : Nat} (h : q_rf x w w') (hr : r ≠ x) (hT : sh_Rg r w) : sh_Rg r w' := by
  obtain ⟨h1, h2, h3, h4, h5, h6, h7⟩ := hT
  unfold sh_Rg
  rw [h.2.1, h.2.2.1, h.2.2.2.2.2 r hr]
  exact ⟨h1, h2, h3, h4, h5, h6, h7⟩
theorem sh_Rw.rfq {x r : Nat} (h : q_rf x w w') (hr : r ≠ x) (hr2 : r + 1 ≠ x) (hT : sh_Rw r w) : sh_Rw r w' := by
  refine ⟨by rw [h.2.1]; exact hT.1, by rw [h.2.2.2.2.2 r hr]; exact hT.2.1, hT.2.2.rfq h hr2⟩
/-- a table whose rows change places -/
theorem sh_Tb.rfq (h : q_rf (T + 1) w w') (hT : sh_Tb T w) (hf : ∀ j r, j < 12 → bm_gr w' (T + 1) j = some r → ∃ i, i < 12 ∧ bm_gr w (T + 1) i = some r) (hr : ∀ j r, j < 12 → bm_gr w (T + 1) j = some r → T + 1 < r) : sh_Tb T w' := by
  obtain ⟨h1, h2, h3, h4, h5, h6, h7, h8, h9, h10⟩ := hT
  refine ⟨by rw [h.2.1]; exact h1, by rw [h.2.2.2.2.2 _ (by omega)]; exact h2, by rw [h.2.2.2.2.2 _ (by omega)]; exact h3, by rw [h.2.2.2.2.2 _ (by omega)]; exact h4, by rw [h.2.1]; exact h5, by rw [h.2.2.1]; exact h6, by rw [h.2.1]; exact h7, by rw [h.2.2.1]; exact h8, h9.rfq h (by omega) (by omega), fun j r hj hg => ?_⟩
  obtain ⟨i, hi, hg2⟩ := hf j r hj hg
  have := hr i r hi hg2
  exact (h10 i r hi hg2).rfq h (by omega) (by omega)
/-- references while a row is dropped, and then -/
def dr_g (g : Nat → Option Nat) (n i j : Nat) : Option Nat := if n ≤ j ∧ j < i then g (j + 1) else g j
def dr_f (g : Nat → Option Nat) (n L j : Nat) : Option Nat := if j = L then g n else dr_g g n L j
theorem dr_34 {L dr : Nat} (hT : sh_Tb T w) (h5 : bm_gi w T 5 = (L : Int)) (hL : L < 12) (hn : n ≤ L) (hsome : ∀ i, i ≤ L → ∃ r, bm_gr w (T + 1) i = some r ∧ T + 1 < r) (hbig : ∀ j r, j < 12 → bm_gr w (T + 1) j = some r → T + 1 < r) (hd : bm_gr w (T + 1) n = some dr) (hq : ∀ w', q_rf (T + 1) w w' → (∀ j, bm_gr w' (T + 1) j = dr_f (bm_gr w (T + 1)) n L j) → Φ (.inl none) w') : ∀ (rem i : Nat) (w1 : bm_W), i + rem = L → n ≤ i → q_rf (T + 1) w w1 → (∀ j, bm_gr w1 (T + 1) j = dr_g (bm_gr w (T + 1)) n i j) → bk_X7_drop_34 (d + 1) Φ T dr (i : Int) w1
  | 0, i, w1, hi, hni, F, hg => by
    have e5 : bm_gi w1 T 5 = (L : Int) := (F.1 _ _).1.trans h5
    have T1 : sh_Tb T w1 := hT.rfq F (fun j r hj hr => by
      rw [hg j] at hr
      unfold dr_g at hr
      by_cases c : n ≤ j ∧ j < i
      · rw [if_pos c] at hr
        exact ⟨j + 1, by omega, hr⟩
      · rw [if_neg c] at hr
        exact ⟨j, hj, hr⟩) hbig
    have kd : bm_kt w1 dr = 5 := by
      rw [F.2.1]
      exact (hT.2.2.2.2.2.2.2.2.2 n dr (by omega) hd).1
    refine vb_X7_drop_34 ?_
    simp only [bm_c0_v, bm_c1_v, bm_c2_v, bm_c3_v, bm_c4_v, bm_c5_v, bm_u_some, decide_eq_true_eq, true_and, and_true, and_self, Bool.not_eq_true, Bool.not_eq_true', decide_eq_false_iff_not, if_true, if_false, ite_true, ite_false, eq_self, T1.1, T1.2.1, T1.2.2.2.2.1, T1.2.2.2.2.2.1, e5, bm_in, Int.toNat_natCast, kd]
    rw [if_neg (by omega), if_pos (by omega), if_neg (by omega), if_neg (by omega)]
    have iL : i = L := by omega
    refine ⟨by decide, by omega, hq _ F.sr (fun j => ?_)⟩
    unfold dr_f
    by_cases c : j = L
    · rw [if_pos c, c, q_gr_eq, hd]
    · rw [if_neg c, q_gr_nk c, hg j, iL]
  | rem + 1, i, w1, hi, hni, F, hg => by
    have e5 : bm_gi w1 T 5 = (L : Int) := (F.1 _ _).1.trans h5
    have T1 : sh_Tb T w1 := hT.rfq F (fun j r hj hr => by
      rw [hg j] at hr
      unfold dr_g at hr
      by_cases c : n ≤ j ∧ j < i
      · rw [if_pos c] at hr
        exact ⟨j + 1, by omega, hr⟩
      · rw [if_neg c] at hr
        exact ⟨j, hj, hr⟩) hbig
    obtain ⟨r, hr, hrT⟩ := hsome (i + 1) (by omega)
    have hr1 : bm_gr w1 (T + 1) (i + 1) = some r := by
      rw [hg (i + 1)]
      unfold dr_g
      rw [if_neg (by omega)]
      exact hr
    have row : tb_row w1 T ((i + 1 : Nat) : Int) = r := by
      unfold tb_row
      rw [if_pos ⟨by omega, by omega⟩, Int.toNat_natCast, hr1]
      rfl
    have kr : bm_kt w1 r = 5 := (T1.2.2.2.2.2.2.2.2.2 (i + 1) r (by omega) hr1).1
    refine vb_X7_drop_34 ?_
    simp only [bm_c0_v, bm_c1_v, bm_c2_v, bm_c3_v, bm_c4_v, bm_c5_v, bm_u_some, decide_eq_true_eq, true_and, and_true, and_self, Bool.not_eq_true, Bool.not_eq_true', decide_eq_false_iff_not, if_true, if_false, ite_true, ite_false, eq_self, T1.1, T1.2.1, T1.2.2.2.2.1, T1.2.2.2.2.2.1, e5, bm_in, Int.toNat_natCast, bm_w1 (show i < 2147483647 by omega), sp_rowAt (d := d) T1, row, kr]
    rw [if_neg (by omega), if_neg (by omega), if_neg (by omega)]
    refine ⟨by decide, by omega, dr_34 hT h5 hL hn hsome hbig hd hq rem (i + 1) _ (by omega) (by omega) F.sr (fun j => ?_)⟩
    unfold dr_g
    by_cases c : j = i
    · rw [c, q_gr_eq, if_pos ⟨hni, by omega⟩, hr]
    · rw [q_gr_nk c, hg j]
      unfold dr_g
      by_cases y : n ≤ j ∧ j < i
      · rw [if_pos y, if_pos ⟨y.1, by omega⟩]
      · rw [if_neg y, if_neg (by omega)]
end DR

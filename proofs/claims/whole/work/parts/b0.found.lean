/-! ===== changes that a table finds, in the model ===== -/
/-- whether one of the first cases of a table finds a change -/
def s_fx (D : q_D) (rows : List y_rw) (p : Nat) : Nat → Bool
  | 0 => false
  | n + 1 => s_fx D rows p n || (decide (s_hold D rows (n : Int) (-1) = 1) && decide (s_hold D rows (n : Int) (p : Int) = 0))
theorem s_fx_iff {D : q_D} {rows : List y_rw} {p : Nat} : ∀ n : Nat, s_fx D rows p n = true ↔ ∃ k : Nat, k < n ∧ s_hold D rows (k : Int) (-1) = 1 ∧ s_hold D rows (k : Int) (p : Int) = 0
  | 0 => ⟨fun h => (by cases h), fun ⟨k, h, _⟩ => (by omega)⟩
  | n + 1 => by
    show (s_fx D rows p n || (decide (s_hold D rows (n : Int) (-1) = 1) && decide (s_hold D rows (n : Int) (p : Int) = 0))) = true ↔ _
    rw [Bool.or_eq_true, Bool.and_eq_true, decide_eq_true_eq, decide_eq_true_eq, s_fx_iff n]
    constructor
    · rintro (⟨k, h, h2⟩ | h)
      · exact ⟨k, by omega, h2⟩
      · exact ⟨n, by omega, h⟩
    · rintro ⟨k, h, h2⟩
      by_cases z : k = n
      · subst z
        exact Or.inr h2
      · exact Or.inl ⟨k, by omega, h2⟩
theorem s_fr_iff {D : q_D} {R : y_rw} {p : Nat} : ∀ n : Nat, s_fr D R p n = true ↔ ∃ k : Nat, k < n ∧ s_hr D R (k : Int) (-1) = 1 ∧ s_hr D R (k : Int) (p : Int) = 0
  | 0 => ⟨fun h => (by cases h), fun ⟨k, h, _⟩ => (by omega)⟩
  | n + 1 => by
    show (s_fr D R p n || (decide (s_hr D R (n : Int) (-1) = 1) && decide (s_hr D R (n : Int) (p : Int) = 0))) = true ↔ _
    rw [Bool.or_eq_true, Bool.and_eq_true, decide_eq_true_eq, decide_eq_true_eq, s_fr_iff n]
    constructor
    · rintro (⟨k, h, h2⟩ | h)
      · exact ⟨k, by omega, h2⟩
      · exact ⟨n, by omega, h⟩
    · rintro ⟨k, h, h2⟩
      by_cases z : k = n
      · subst z
        exact Or.inr h2
      · exact Or.inl ⟨k, by omega, h2⟩
theorem s_ft_iff {D : q_D} {rows : List y_rw} {x : Option Nat} {p : Nat} : ∀ n : Nat, s_ft D rows x p n = true ↔ ∃ i : Nat, i < n ∧ x ≠ some i ∧ s_fw D (rows.getD i y_r0) p = true
  | 0 => ⟨fun h => (by cases h), fun ⟨k, h, _⟩ => (by omega)⟩
  | n + 1 => by
    show (s_ft D rows x p n || (decide (x ≠ some n) && s_fw D (rows.getD n y_r0) p)) = true ↔ _
    rw [Bool.or_eq_true, Bool.and_eq_true, decide_eq_true_eq, s_ft_iff n]
    constructor
    · rintro (⟨k, h, h2⟩ | h)
      · exact ⟨k, by omega, h2⟩
      · exact ⟨n, by omega, h⟩
    · rintro ⟨k, h, h2⟩
      by_cases z : k = n
      · subst z
        exact Or.inr h2
      · exact Or.inl ⟨k, by omega, h2⟩
/-- the cases of a table are those of its rows -/
theorem s_fx_ft {D : q_D} {rows : List y_rw} (cs : ∀ j, j < rows.length → 1 ≤ y_cs (rows.getD j y_r0).1) (p : Nat) : s_fx D rows p (y_ct rows).toNat = s_ft D rows none p rows.length := by
  have nn : 0 ≤ y_ct rows := y_ct_nn _ cs
  rw [Bool.eq_iff_iff, s_fx_iff, s_ft_iff]
  constructor
  · rintro ⟨k, hk, h1, h2⟩
    have sa := s_at_rng rows (k : Int) (by omega) (by omega)
    refine ⟨_, sa.1, by simp, ?_⟩
    unfold s_fw
    rw [s_fr_iff]
    refine ⟨(s_at rows (k : Int)).2.toNat, by omega, ?_, ?_⟩
    · rw [Int.toNat_of_nonneg sa.2.1]; exact h1
    · rw [Int.toNat_of_nonneg sa.2.1]; exact h2
  · rintro ⟨i, hi, -, h⟩
    unfold s_fw at h
    rw [s_fr_iff] at h
    obtain ⟨idx, h0, h1, h2⟩ := h
    have so := s_at_off rows i (idx : Int) hi (by omega) (by have := cs i hi; omega) cs
    have t0 := (y_ct_take rows i cs).1
    have t1 := (y_ct_take rows i cs).2 hi
    have t2 := y_ct_le rows (i + 1) cs
    have e : ∀ ch, s_hold D rows (y_ct (rows.take i) + (idx : Int)) ch = s_hr D (rows.getD i y_r0) (idx : Int) ch := fun ch => by
      unfold s_hold s_hr
      have e2 : s_in rows (y_ct (rows.take i) + (idx : Int)) = s_val (rows.getD i y_r0).1 (idx : Int) := by
        funext j
        unfold s_in
        rw [so]
      rw [so, e2]
    refine ⟨(y_ct (rows.take i) + (idx : Int)).toNat, by omega, ?_, ?_⟩
    · rw [Int.toNat_of_nonneg (by omega), e]; exact h1
    · rw [Int.toNat_of_nonneg (by omega), e]; exact h2
/-- how many changes are found -/
def s_fn (D : q_D) (rows : List y_rw) (P : Nat) : Int := u_c (fun p => s_ft D rows none p rows.length) P
section FD
variable {d b t m k : Nat} {B : Int → Int} {pr : y_pr} {w w' : bm_W} {Φ : bm_Rt → bm_W → Prop}
theorem s_hold_01 {D : q_D} {rows : List y_rw} {x ch : Int} : s_hold D rows x ch = 0 ∨ s_hold D rows x ch = 1 := s_ad_01
theorem mp_9 {p : Nat} (hk : k < pr.2.length) (w : bm_W) (hq : ∀ w', mA m B pr w' → mO m 0 0 w w' → bm_gi w' m 0 = bm_gi w m 0 → Φ (.inl (some (bm_i (bm_bo (s_fx (y_tF pr k).2.2.2.2 (pr.2.getD k y_t0).2.2 p (y_ct (pr.2.getD k y_t0).2.2).toNat))))) w') : ∀ (rem j : Nat) (w1 : bm_W), (j : Int) + rem = y_ct (pr.2.getD k y_t0).2.2 → mA m B pr w1 → mO m 0 0 w w1 → bm_gi w1 m 0 = bm_gi w m 0 → s_fx (y_tF pr k).2.2.2.2 (pr.2.getD k y_t0).2.2 p j = false → bk_X12_findsAt_9 (d + 1202) Φ m (k : Int) (p : Int) (y_ct (pr.2.getD k y_t0).2.2) (j : Int) w1
  | 0, j, w1, hj, hA, hO, h0, hz => by
    refine vb_X12_findsAt_9 ?_
    rw [if_pos (decide_eq_true (by omega))]
    have e : (y_ct (pr.2.getD k y_t0).2.2).toNat = j := by omega
    rw [e, hz] at hq
    exact ⟨Or.inl rfl, hq w1 hA hO h0⟩
  | rem + 1, j, w1, hj, hA, hO, h0, hz => by
    have ct := (hA.ct k hk).2
    have es : s_fx (y_tF pr k).2.2.2.2 (pr.2.getD k y_t0).2.2 p (j + 1) = (s_fx (y_tF pr k).2.2.2.2 (pr.2.getD k y_t0).2.2 p j || (decide (s_hold (y_tF pr k).2.2.2.2 (pr.2.getD k y_t0).2.2 (j : Int) (-1) = 1) && decide (s_hold (y_tF pr k).2.2.2.2 (pr.2.getD k y_t0).2.2 (j : Int) (p : Int) = 0))) := rfl
    rw [hz, Bool.false_or] at es
    refine vb_X12_findsAt_9 ?_
    rw [if_neg (fun y => by have := of_decide_eq_true y; omega)]
    refine ⟨hA.1.1, mm_hold (d := d) hA hk (by omega) (by omega) (fun w2 Q2 => ?_)⟩
    rw [bm_c1_v, bm_w1 (show j < 2147483647 by omega)]
    have A2 := hA.mQ Q2
    have O2 : mO m 0 0 w w2 := hO.tr (mO.mQ Q2)
    have z2 : bm_gi w2 m 0 = bm_gi w m 0 := (Q2.2.1 0 (by decide)).trans h0
    rcases s_hold_01 (D := (y_tF pr k).2.2.2.2) (rows := (pr.2.getD k y_t0).2.2) (x := (j : Int)) (ch := -1) with z | z
    · rw [z, if_pos (by decide)]
      exact mp_9 hk w hq rem (j + 1) w2 (by omega) A2 O2 z2 (by rw [es, z]; rfl)
    · rw [z, if_neg (by decide)]
      refine ⟨A2.1.1, mm_hold (d := d) A2 hk (by omega) (by omega) (fun w3 Q3 => ?_)⟩
      rw [bm_c1_v]
      have A3 := A2.mQ Q3
      have O3 : mO m 0 0 w w3 := O2.tr (mO.mQ Q3)
      have z3 : bm_gi w3 m 0 = bm_gi w m 0 := (Q3.2.1 0 (by decide)).trans z2
      rcases s_hold_01 (D := (y_tF pr k).2.2.2.2) (rows := (pr.2.getD k y_t0).2.2) (x := (j : Int)) (ch := (p : Int)) with y | y
      · rw [y, if_neg (by decide)]
        have tr : s_fx (y_tF pr k).2.2.2.2 (pr.2.getD k y_t0).2.2 p (y_ct (pr.2.getD k y_t0).2.2).toNat = true := (s_fx_iff _).mpr ⟨j, by omega, z, y⟩
        rw [tr] at hq
        exact ⟨Or.inr rfl, hq w3 A3 O3 z3⟩
      · rw [y, if_pos (by decide)]
        exact mp_9 hk w hq rem (j + 1) w3 (by omega) A3 O3 z3 (by rw [es, y]; simp)
theorem mp_findsAt {p : Nat} (h : mA m B pr w) (hk : k < pr.2.length) (hq : ∀ w', mA m B pr w' → mO m 0 0 w w' → bm_gi w' m 0 = bm_gi w m 0 → Φ (.inl (some (bm_i (bm_bo (s_ft (y_tF pr k).2.2.2.2 (pr.2.getD k y_t0).2.2 none p (pr.2.getD k y_t0).2.2.length))))) w') : bm_Call bm_pg (d + 1203) y_X12_findsAt [bm_r (some m), bm_i (k : Int), bm_i (p : Int)] w Φ := by
  have T := (h.tab hk).1
  have ct := h.ct k hk
  refine vc_X12_findsAt ⟨h.1.1, ?_⟩
  rw [T.cases (d := d + 1200), bm_c1_v]
  have e := s_fx_ft (D := (y_tF pr k).2.2.2.2) (rows := (pr.2.getD k y_t0).2.2) (fun i hi => (y_cs_3 (T.lk hi).2.2 (by rw [(T.lk hi).2.1]; exact T.2.2.2.2.2.2.1)).1) p
  rw [← e] at hq
  exact mp_9 (d := d) hk w hq (y_ct (pr.2.getD k y_t0).2.2).toNat 0 w (by omega) h mO.rf rfl rfl
theorem mp_found4 (hk : k < pr.2.length) (hP : (y_tF pr k).2.2.1 ≤ 50) (w : bm_W) (hq : ∀ w', mA m B pr w' → mO m 0 0 w w' → bm_gi w' m 0 = bm_gi w m 0 → Φ (.inl (some (bm_i (s_fn (y_tF pr k).2.2.2.2 (pr.2.getD k y_t0).2.2 (y_tF pr k).2.2.1)))) w') : ∀ (rem p : Nat) (w1 : bm_W), p + rem = (y_tF pr k).2.2.1 → mA m B pr w1 → mO m 0 0 w w1 → bm_gi w1 m 0 = bm_gi w m 0 → bk_X12_found_4 (d + 1203) Φ m (k : Int) (u_c (fun p => s_ft (y_tF pr k).2.2.2.2 (pr.2.getD k y_t0).2.2 none p (pr.2.getD k y_t0).2.2.length) p) (p : Int) w1
  | 0, p, w1, hp, hA, hO, h0 => by
    obtain ⟨T, fn, -, -⟩ := hA.tab hk
    have S := hA.1
    have k6 := T.2.1
    have f6 := T.2.2.2.1
    refine vb_X12_found_4 ?_
    simp only [bm_c0_v, bm_c1_v, bm_c2_v, bm_c3_v, bm_c4_v, bm_c5_v, bm_u_some, decide_eq_true_eq, true_and, and_true, and_self, Bool.not_eq_true, Bool.not_eq_true', decide_eq_false_iff_not, if_true, if_false, ite_true, ite_false, eq_self, S.1, S.g25, S.t25, S.n25, S.g30, S.t30, S.n30, bm_in, Int.toNat_natCast, T.2.2.1, fn.2.2.2.1]
    rw [if_pos (by omega)]
    have : p = (y_tF pr k).2.2.1 := by omega
    rw [this]
    exact ⟨by omega, by omega, hq w1 hA hO h0⟩
  | rem + 1, p, w1, hp, hA, hO, h0 => by
    obtain ⟨T, fn, -, -⟩ := hA.tab hk
    have S := hA.1
    have k6 := T.2.1
    have f6 := T.2.2.2.1
    have r := u_c_rng (fun p => s_ft (y_tF pr k).2.2.2.2 (pr.2.getD k y_t0).2.2 none p (pr.2.getD k y_t0).2.2.length) p
    refine vb_X12_found_4 ?_
    simp only [bm_c0_v, bm_c1_v, bm_c2_v, bm_c3_v, bm_c4_v, bm_c5_v, bm_u_some, decide_eq_true_eq, true_and, and_true, and_self, Bool.not_eq_true, Bool.not_eq_true', decide_eq_false_iff_not, if_true, if_false, ite_true, ite_false, eq_self, S.1, S.g25, S.t25, S.n25, S.g30, S.t30, S.n30, bm_in, Int.toNat_natCast, T.2.2.1, fn.2.2.2.1, S.1]
    rw [if_neg (by omega)]
    refine ⟨by omega, by omega, mp_findsAt (d := d) hA hk (fun w2 A2 O2 z2 => ?_)⟩
    have ih := mp_found4 hk hP w hq rem (p + 1) w2 (by omega) A2 (hO.tr O2) (z2.trans h0)
    have e : u_c (fun p => s_ft (y_tF pr k).2.2.2.2 (pr.2.getD k y_t0).2.2 none p (pr.2.getD k y_t0).2.2.length) (p + 1) = u_c (fun p => s_ft (y_tF pr k).2.2.2.2 (pr.2.getD k y_t0).2.2 none p (pr.2.getD k y_t0).2.2.length) p + bm_bo (s_ft (y_tF pr k).2.2.2.2 (pr.2.getD k y_t0).2.2 none p (pr.2.getD k y_t0).2.2.length) := rfl
    rw [e] at ih
    rw [bm_c1_v, bm_w1 (show p < 2147483647 by omega)]
    rcases bm_bo_01 (s_ft (y_tF pr k).2.2.2.2 (pr.2.getD k y_t0).2.2 none p (pr.2.getD k y_t0).2.2.length) with z | z
    · rw [z] at ih ⊢
      rw [if_pos (by decide), q_wI (x := _ + 0) ⟨by omega, by omega⟩]
      exact ih
    · rw [z] at ih ⊢
      rw [if_neg (by decide), q_wI (x := _ + 1) ⟨by omega, by omega⟩]
      exact ih
theorem mp_foundT (h : mA m B pr w) (hk : k < pr.2.length) (hP : (y_tF pr k).2.2.1 ≤ 50) (hq : ∀ w', mA m B pr w' → mO m 0 0 w w' → bm_gi w' m 0 = bm_gi w m 0 → Φ (.inl (some (bm_i (s_fn (y_tF pr k).2.2.2.2 (pr.2.getD k y_t0).2.2 (y_tF pr k).2.2.1)))) w') : bm_Call bm_pg (d + 1204) y_X12_found [bm_r (some m), bm_i (k : Int)] w Φ :=
  vc_X12_found (mp_found4 (d := d) hk hP w hq (y_tF pr k).2.2.1 0 w (by omega) h mO.rf rfl)
/-- whether a change is there -/
abbrev y_ich (pr : y_pr) (x p : Int) : Prop := (0 ≤ x ∧ x < (pr.2.length : Int)) ∧ 0 ≤ p ∧ p < ((y_tF pr x.toNat).2.2.1 : Int)
theorem mo_finds {x p : Int} (h : mA m B pr w) (hp : y_pls pr) (q1 : y_ich pr x p → ∀ w', mO m 0 0 w w' → bm_gi w' m 0 = 0 → Φ (.inl (some (bm_i (bm_bo (s_ft (y_tF pr x.toNat).2.2.2.2 (pr.2.getD x.toNat y_t0).2.2 none p.toNat (pr.2.getD x.toNat y_t0).2.2.length))))) w') (q0 : ¬ y_ich pr x p → ∀ v w', mO m 0 0 w w' → bm_gi w' m 0 = 1 → Φ (.inl (some (bm_i v))) w') : bm_Call bm_pg (d + 1204) y_X12_finds [bm_r (some m), bm_i x, bm_i p] w Φ := by
  have h0 := h.thr (v := 0)
  have h1 := h.thr (v := 1)
  have z0 : mO m 0 0 w (bm_si w m 0 0) := mO.rf.thr
  have z1 : mO m 0 0 w (bm_si w m 0 1) := mO.rf.thr
  have e0 : bm_gi (bm_si w m 0 0) m 0 = 0 := q_gi_eq
  have e1 : bm_gi (bm_si w m 0 1) m 0 = 1 := q_gi_eq
  have S := h.1
  refine vc_X12_finds ?_
  simp only [bm_c0_v, bm_c1_v, bm_c2_v, bm_c3_v, bm_c4_v, bm_c5_v, bm_u_some, decide_eq_true_eq, true_and, and_true, and_self, Bool.not_eq_true, Bool.not_eq_true', decide_eq_false_iff_not, if_true, if_false, ite_true, ite_false, eq_self, h.1.1, h.isTable (d := d + 1201), h0.1.1, h1.1.1, bm_c1_v, e0, e1]
  by_cases c : 0 ≤ x ∧ x < (pr.2.length : Int)
  · rw [if_neg (show ¬ (if 0 ≤ x ∧ x < (pr.2.length : Int) then (1 : Int) else 0) = 0 by rw [if_pos c]; decide)]
    obtain ⟨k, rfl⟩ : ∃ k : Nat, x = (k : Int) := ⟨x.toNat, by omega⟩
    have hk : k < pr.2.length := by omega
    obtain ⟨T, fn, -, -⟩ := h.tab hk
    have k6 := T.2.1
    have f6 := T.2.2.2.1
    have p50 : (y_tF pr k).2.2.1 ≤ 50 := hp _ (h.2.2.2.1.2.2.1 k hk).2.2.1
    unfold y_ich at q1 q0
    rw [Int.toNat_natCast] at q1 q0
    simp only [bm_c0_v, bm_c1_v, bm_c2_v, bm_c3_v, bm_c4_v, bm_c5_v, bm_u_some, decide_eq_true_eq, true_and, and_true, and_self, Bool.not_eq_true, Bool.not_eq_true', decide_eq_false_iff_not, if_true, if_false, ite_true, ite_false, eq_self, S.1, S.g25, S.t25, S.n25, S.g30, S.t30, S.n30, bm_in, Int.toNat_natCast, T.2.2.1, fn.2.2.2.1, mp_isIn, bm_c1_v, q_wI (x := ((y_tF pr k).2.2.1 : Int) - 1) ⟨by omega, by omega⟩]
    refine ⟨by omega, by omega, ?_⟩
    by_cases c2 : 0 ≤ p ∧ p < ((y_tF pr k).2.2.1 : Int)
    · rw [if_neg (show ¬ (if 0 ≤ p ∧ p ≤ ((y_tF pr k).2.2.1 : Int) - 1 then (1 : Int) else 0) = 0 by rw [if_pos ⟨by omega, by omega⟩]; decide)]
      first | rw [if_neg (by decide)] | rw [e0, if_neg (by decide)]
      obtain ⟨p', rfl⟩ : ∃ p' : Nat, p = (p' : Int) := ⟨p.toNat, by omega⟩
      refine ⟨h0.1.1, h0.1.1, mp_findsAt (d := d) h0 hk (fun w2 A2 O2 z2 => ?_)⟩
      rw [bm_c1_v]
      have hq := q1 ⟨c, c2⟩ w2 (z0.tr O2) (z2.trans e0)
      rw [Int.toNat_natCast] at hq
      rcases bm_bo_01 (s_ft (y_tF pr k).2.2.2.2 (pr.2.getD k y_t0).2.2 none p' (pr.2.getD k y_t0).2.2.length) with z | z
      · rw [z] at hq ⊢
        rw [if_pos rfl]
        exact ⟨by first | exact Or.inl trivial | exact Or.inl rfl, hq⟩
      · rw [z] at hq ⊢
        rw [if_neg (by decide)]
        exact ⟨by first | exact Or.inr trivial | exact Or.inr rfl, hq⟩
    · rw [if_pos (show (if 0 ≤ p ∧ p ≤ ((y_tF pr k).2.2.1 : Int) - 1 then (1 : Int) else 0) = 0 by rw [if_neg (by omega)])]
      first | rw [if_pos (by decide)] | rw [e1, if_pos (by decide)]
      exact ⟨h1.1.1, Or.inl trivial, q0 (fun z => c2 z.2) 0 _ z1 e1⟩
  · rw [if_pos (show (if 0 ≤ x ∧ x < (pr.2.length : Int) then (1 : Int) else 0) = 0 by rw [if_neg c])]
    first | rw [if_pos (by decide)] | rw [e1, if_pos (by decide)]
    exact ⟨by first | exact Or.inl trivial | exact Or.inl rfl, q0 (fun z => c z.1) 0 _ z1 e1⟩
theorem sc_n64 : ∀ b, b < 51 → ∀ a, a < 51 → 1 ≤ b → vf_n64 (FP.ddiv (FP.i2d (Int32.ofInt ((a : Nat) : Int))) (FP.i2d (Int32.ofInt ((b : Nat) : Int)))) := by
  unfold vf_n64
  decide +kernel
end FD

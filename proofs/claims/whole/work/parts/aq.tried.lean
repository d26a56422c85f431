/-! ===== which pairs cases try ===== -/
theorem s_dig {n0 n1 n2 a0 a1 a2 : Int} (h0 : 0 ≤ a0 ∧ a0 < n0) (h1 : 0 ≤ a1 ∧ a1 < n1) (h2 : 0 ≤ a2 ∧ a2 < n2) : (0 ≤ a2 + n2 * (a1 + n1 * a0) ∧ a2 + n2 * (a1 + n1 * a0) < n0 * n1 * n2) ∧ (a2 + n2 * (a1 + n1 * a0)) / (n2 * n1) = a0 ∧ (a2 + n2 * (a1 + n1 * a0)) / n2 % n1 = a1 ∧ (a2 + n2 * (a1 + n1 * a0)) % n2 = a2 := by
  have e1 : (a2 + n2 * (a1 + n1 * a0)) / n2 = a1 + n1 * a0 := by
    rw [Int.add_mul_ediv_left a2 (a1 + n1 * a0) (show n2 ≠ 0 by omega), Int.ediv_eq_zero_of_lt h2.1 h2.2, Int.zero_add]
  have e2 : (a1 + n1 * a0) / n1 = a0 := by
    rw [Int.add_mul_ediv_left a1 a0 (show n1 ≠ 0 by omega), Int.ediv_eq_zero_of_lt h1.1 h1.2, Int.zero_add]
  have p1 : 0 ≤ n1 * a0 := Int.mul_nonneg (by omega) h0.1
  have p2 : 0 ≤ n2 * (a1 + n1 * a0) := Int.mul_nonneg (by omega) (by omega)
  have q1 : n1 * a0 ≤ n1 * (n0 - 1) := Int.mul_le_mul_of_nonneg_left (by omega) (by omega)
  have q2 : n2 * (a1 + n1 * a0) ≤ n2 * (n1 * n0 - 1) := Int.mul_le_mul_of_nonneg_left (by rw [Int.mul_sub, Int.mul_one] at q1; omega) (by omega)
  have q3 : n0 * n1 * n2 = n2 * (n1 * n0) := by grind
  refine ⟨⟨by omega, ?_⟩, ?_, ?_, ?_⟩
  · rw [Int.mul_sub, Int.mul_one] at q2
    omega
  · rw [← Int.ediv_ediv_of_nonneg (by omega), e1, e2]
  · rw [e1, Int.add_mul_emod_self_left, Int.emod_eq_of_lt h1.1 h1.2]
  · rw [Int.add_mul_emod_self_left, Int.emod_eq_of_lt h2.1 h2.2]
/-- values of a row of inputs by their digits -/
theorem s_val_dig {l : List (Int × Int)} (hl : l.length ≤ 3) {a0 a1 a2 : Int} (h0 : 0 ≤ a0 ∧ a0 < s_n l 0) (h1 : 0 ≤ a1 ∧ a1 < s_n l 1) (h2 : 0 ≤ a2 ∧ a2 < s_n l 2) : ∃ k : Int, 0 ≤ k ∧ k < y_cs l ∧ s_val l k 0 = (l.getD 0 (0, 0)).1 + a0 ∧ s_val l k 1 = (l.getD 1 (0, 0)).1 + a1 ∧ s_val l k 2 = (l.getD 2 (0, 0)).1 + a2 := by
  obtain ⟨⟨b1, b2⟩, b3, b4, b5⟩ := s_dig h0 h1 h2
  refine ⟨_, b1, by rw [y_cs_eq hl]; exact b2, ?_, ?_, ?_⟩
  · unfold s_val
    rw [show s_rep l 0 = s_n l 2 * s_n l 1 from rfl, b3, Int.emod_eq_of_lt h0.1 h0.2]
  · unfold s_val
    rw [show s_rep l 1 = s_n l 2 from rfl, b4]
  · unfold s_val
    rw [show s_rep l 2 = 1 from rfl, Int.ediv_one, b5]
theorem y_ct_le : ∀ (rows : List y_rw) (i : Nat), (∀ j, j < rows.length → 1 ≤ y_cs (rows.getD j y_r0).1) → y_ct (rows.take i) ≤ y_ct rows
  | [], i, _ => by simp [y_ct]
  | R :: l, 0, h => y_ct_nn (R :: l) h
  | R :: l, i + 1, h => by
    have := y_ct_le l i (fun j hj => h (j + 1) (by simp; omega))
    have e : ∀ x : List y_rw, y_ct (R :: x) = y_cs R.1 + y_ct x := fun x => rfl
    rw [List.take_succ_cons, e, e]
    omega
/-- whether one of the first cases tries values -/
def u_cs (rows : List y_rw) (p : Nat) (x y : Int) : Nat → Bool
  | 0 => false
  | k + 1 => u_cs rows p x y k || (decide (s_in rows (k : Int) (u_i p) = x) && decide (s_in rows (k : Int) (u_j p) = y))
theorem u_cs_iff {rows : List y_rw} {p : Nat} {x y : Int} : ∀ n : Nat, u_cs rows p x y n = true ↔ ∃ k : Nat, k < n ∧ s_in rows (k : Int) (u_i p) = x ∧ s_in rows (k : Int) (u_j p) = y
  | 0 => ⟨fun h => (by cases h), fun ⟨k, h, _⟩ => (by omega)⟩
  | n + 1 => by
    show (u_cs rows p x y n || (decide (s_in rows (n : Int) (u_i p) = x) && decide (s_in rows (n : Int) (u_j p) = y))) = true ↔ _
    rw [Bool.or_eq_true, Bool.and_eq_true, decide_eq_true_eq, decide_eq_true_eq, u_cs_iff n]
    constructor
    · rintro (⟨k, h, h2⟩ | h)
      · exact ⟨k, by omega, h2⟩
      · exact ⟨n, by omega, h⟩
    · rintro ⟨k, h, h2⟩
      by_cases z : k = n
      · subst z
        exact Or.inr h2
      · exact Or.inl ⟨k, by omega, h2⟩
theorem u_rs_iff {p : Nat} {x y : Int} : ∀ rows : List y_rw, u_rs p rows x y = true ↔ ∃ r : Nat, r < rows.length ∧ u_r p (rows.getD r y_r0).1 x y = true
  | [] => ⟨fun h => (by cases h), fun ⟨r, h, _⟩ => (by cases h)⟩
  | R :: l => by
    show (u_r p R.1 x y || u_rs p l x y) = true ↔ _
    rw [Bool.or_eq_true, u_rs_iff l]
    constructor
    · rintro (h | ⟨r, h, h2⟩)
      · exact ⟨0, by simp, h⟩
      · exact ⟨r + 1, by simp; omega, h2⟩
    · rintro ⟨r, h, h2⟩
      cases r with
      | zero => exact Or.inl h2
      | succ r => exact Or.inr ⟨r, by simpa using h, h2⟩
theorem u_ri_iff {l : List (Int × Int)} {i : Nat} {x : Int} : u_ri l i x = true ↔ (l.getD i (0, 0)).1 ≤ x ∧ x ≤ (l.getD i (0, 0)).2 := by unfold u_ri; exact decide_eq_true_iff
theorem u_cs_rs {rows : List y_rw} (hf : ∀ i, i < rows.length → y_lk (rows.getD i y_r0).1 ∧ (rows.getD i y_r0).1.length ≤ 3) (p : Nat) (x y : Int) : u_cs rows p x y (y_ct rows).toNat = u_rs p rows x y := by
  have cs : ∀ j, j < rows.length → 1 ≤ y_cs (rows.getD j y_r0).1 := fun j hj => (y_cs_3 (hf j hj).1 (hf j hj).2).1
  have nn : 0 ≤ y_ct rows := y_ct_nn _ cs
  rw [Bool.eq_iff_iff, u_cs_iff, u_rs_iff]
  constructor
  · rintro ⟨k, hk, h1, h2⟩
    have sa := s_at_rng rows (k : Int) (by omega) (by omega)
    refine ⟨_, sa.1, ?_⟩
    have lk := (hf _ sa.1).1
    unfold u_r
    rw [Bool.and_eq_true, u_ri_iff, u_ri_iff]
    have v1 := s_val_rng (k := (s_at rows (k : Int)).2) (i := u_i p) lk
    have v2 := s_val_rng (k := (s_at rows (k : Int)).2) (i := u_j p) lk
    unfold s_in at h1 h2
    rw [h1] at v1
    rw [h2] at v2
    exact ⟨v1.2.2, v2.2.2⟩
  · rintro ⟨r, hr, h⟩
    obtain ⟨lk, l3⟩ := hf r hr
    unfold u_r at h
    rw [Bool.and_eq_true, u_ri_iff, u_ri_iff] at h
    obtain ⟨g1, g2⟩ := h
    have n0 := s_n_rng lk 0
    have n1 := s_n_rng lk 1
    have n2 := s_n_rng lk 2
    have en : ∀ i, s_n (rows.getD r y_r0).1 i = ((rows.getD r y_r0).1.getD i (0, 0)).2 - ((rows.getD r y_r0).1.getD i (0, 0)).1 + 1 := fun i => rfl
    have E0 := en 0
    have E1 := en 1
    have E2 := en 2
    have ex : ∃ k : Int, 0 ≤ k ∧ k < y_cs (rows.getD r y_r0).1 ∧ s_val (rows.getD r y_r0).1 k (u_i p) = x ∧ s_val (rows.getD r y_r0).1 k (u_j p) = y := by
      by_cases p0 : p = 0
      · subst p0
        have e1 : u_i 0 = 0 := rfl
        have e2 : u_j 0 = 1 := rfl
        rw [e1] at g1 ⊢
        rw [e2] at g2 ⊢
        obtain ⟨k, k0, k1, a, b, c⟩ := s_val_dig l3 (a0 := x - ((rows.getD r y_r0).1.getD 0 (0, 0)).1) (a1 := y - ((rows.getD r y_r0).1.getD 1 (0, 0)).1) (a2 := 0) ⟨by omega, by omega⟩ ⟨by omega, by omega⟩ ⟨by omega, by omega⟩
        exact ⟨k, k0, k1, by omega, by omega⟩
      · by_cases p2 : p = 2
        · subst p2
          have e1 : u_i 2 = 1 := rfl
          have e2 : u_j 2 = 2 := rfl
          rw [e1] at g1 ⊢
          rw [e2] at g2 ⊢
          obtain ⟨k, k0, k1, a, b, c⟩ := s_val_dig l3 (a0 := 0) (a1 := x - ((rows.getD r y_r0).1.getD 1 (0, 0)).1) (a2 := y - ((rows.getD r y_r0).1.getD 2 (0, 0)).1) ⟨by omega, by omega⟩ ⟨by omega, by omega⟩ ⟨by omega, by omega⟩
          exact ⟨k, k0, k1, by omega, by omega⟩
        · have e1 : u_i p = 0 := if_neg p2
          have e2 : u_j p = 2 := if_neg p0
          rw [e1] at g1 ⊢
          rw [e2] at g2 ⊢
          obtain ⟨k, k0, k1, a, b, c⟩ := s_val_dig l3 (a0 := x - ((rows.getD r y_r0).1.getD 0 (0, 0)).1) (a1 := 0) (a2 := y - ((rows.getD r y_r0).1.getD 2 (0, 0)).1) ⟨by omega, by omega⟩ ⟨by omega, by omega⟩ ⟨by omega, by omega⟩
          exact ⟨k, k0, k1, by omega, by omega⟩
    obtain ⟨k, k0, k1, a, b⟩ := ex
    have so := s_at_off rows r k hr k0 k1 cs
    have t0 := (y_ct_take rows r cs).1
    have t1 := (y_ct_take rows r cs).2 hr
    have t2 : y_ct (rows.take (r + 1)) ≤ y_ct rows := y_ct_le rows (r + 1) cs
    refine ⟨(y_ct (rows.take r) + k).toNat, by omega, ?_, ?_⟩
    · unfold s_in
      rw [Int.toNat_of_nonneg (by omega), so]
      exact a
    · unfold s_in
      rw [Int.toNat_of_nonneg (by omega), so]
      exact b

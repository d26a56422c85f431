/-! ===== the law's program: pairs, proposals, growing ===== -/
section GQ
/-- what the best so far is -/
def gq_Q (o : Nat → Nat → Nat → Int) (n1 : Nat) (S : Nat → Nat → Prop) (s : Int × Int) : Prop :=
  (s = (-1, 0) ∧ ∀ x y, S x y → o x y 0 ≤ 0) ∨ ∃ x y, S x y ∧ y < n1 ∧ s = (((x * n1 + y : Nat) : Int), o x y 0) ∧ 0 < o x y 0
theorem gq_st {o : Nat → Nat → Nat → Int} {n1 a b : Nat} {S : Nat → Nat → Prop} {s : Int × Int} (h : gq_Q o n1 S s) (hb : b < n1) : gq_Q o n1 (fun x y => S x y ∨ (x = a ∧ y = b)) (u_fo (o a b) ((a * n1 + b) * 1) 1 s) := by
  show gq_Q o n1 _ (if s.2 < o a b 0 then ((((a * n1 + b) * 1 + 0 : Nat) : Int), o a b 0) else s)
  rw [Nat.mul_one, Nat.add_zero]
  rcases h with ⟨rfl, h⟩ | ⟨x, y, h1, h2, rfl, h4⟩
  · by_cases c : (0 : Int) < o a b 0
    · rw [if_pos c]
      exact Or.inr ⟨a, b, Or.inr ⟨rfl, rfl⟩, hb, rfl, c⟩
    · rw [if_neg c]
      refine Or.inl ⟨rfl, fun x y z => ?_⟩
      rcases z with z | ⟨rfl, rfl⟩
      · exact h x y z
      · omega
  · by_cases c : o x y 0 < o a b 0
    · rw [if_pos c]
      exact Or.inr ⟨a, b, Or.inr ⟨rfl, rfl⟩, hb, rfl, by omega⟩
    · rw [if_neg c]
      exact Or.inr ⟨x, y, Or.inl h1, h2, rfl, h4⟩
theorem gq_Q.mo {o : Nat → Nat → Nat → Int} {n1 : Nat} {S S' : Nat → Nat → Prop} {s : Int × Int} (h : gq_Q o n1 S s) (e : ∀ x y, S x y ↔ S' x y) : gq_Q o n1 S' s := by
  rcases h with ⟨h1, h2⟩ | ⟨x, y, h1, h2⟩
  · exact Or.inl ⟨h1, fun x y z => h2 x y ((e x y).mpr z)⟩
  · exact Or.inr ⟨x, y, (e x y).mp h1, h2⟩
theorem gq_2 {o : Nat → Nat → Nat → Int} {n1 a : Nat} {S : Nat → Nat → Prop} {s : Int × Int} (h : gq_Q o n1 S s) : ∀ b, b ≤ n1 → gq_Q o n1 (fun x y => S x y ∨ (x = a ∧ y < b)) (u_g2 o a n1 1 b s)
  | 0, _ => h.mo (fun x y => ⟨Or.inl, fun z => z.elim id (fun z => absurd z.2 (by omega))⟩)
  | b + 1, hb => by
    refine (gq_st (a := a) (b := b) (gq_2 h b (by omega)) (by omega)).mo (fun x y => ⟨fun z => ?_, fun z => ?_⟩)
    · rcases z with (z | ⟨z1, z2⟩) | ⟨z1, z2⟩
      · exact Or.inl z
      · exact Or.inr ⟨z1, by omega⟩
      · exact Or.inr ⟨z1, by omega⟩
    · rcases z with z | ⟨z1, z2⟩
      · exact Or.inl (Or.inl z)
      · by_cases c : y = b
        · exact Or.inr ⟨z1, c⟩
        · exact Or.inl (Or.inr ⟨z1, by omega⟩)
theorem gq_1 {o : Nat → Nat → Nat → Int} {n1 : Nat} : ∀ a, gq_Q o n1 (fun x y => x < a ∧ y < n1) (u_g1 o n1 1 a)
  | 0 => Or.inl ⟨rfl, fun x y z => absurd z.1 (by omega)⟩
  | a + 1 => by
    refine (gq_2 (a := a) (gq_1 (o := o) (n1 := n1) a) n1 (Nat.le_refl _)).mo (fun x y => ⟨fun z => ?_, fun z => ?_⟩)
    · rcases z with z | z
      · exact ⟨by omega, z.2⟩
      · exact ⟨by omega, z.2⟩
    · by_cases c : x = a
      · exact Or.inr ⟨c, z.2⟩
      · exact Or.inl ⟨by omega, z.2⟩
end GQ
/-! counting -/
theorem gc_le {g g' : Nat → Bool} : ∀ n : Nat, (∀ i, i < n → g' i = true → g i = true) → u_c g' n ≤ u_c g n
  | 0, _ => Int.le_refl _
  | n + 1, h => by
    have ih := gc_le n (fun i hi => h i (by omega))
    show u_c g' n + bm_bo (g' n) ≤ u_c g n + bm_bo (g n)
    have hn := h n (by omega)
    cases e : g' n with
    | false => have := bm_bo_01 (g n); show _ + 0 ≤ _; omega
    | true => rw [hn e]; omega
theorem gc_lt {g g' : Nat → Bool} : ∀ n : Nat, (∀ i, i < n → g' i = true → g i = true) → (∃ i, i < n ∧ g' i = false ∧ g i = true) → u_c g' n < u_c g n
  | 0, _, ⟨i, hi, _⟩ => absurd hi (by omega)
  | n + 1, h, ⟨i, hi, h1, h2⟩ => by
    show u_c g' n + bm_bo (g' n) < u_c g n + bm_bo (g n)
    by_cases c : i = n
    · subst c
      have ih := gc_le i (fun j hj => h j (by omega))
      rw [h1, h2]
      show _ + (0 : Int) < _ + (1 : Int)
      omega
    · have ih := gc_lt n (fun j hj => h j (by omega)) ⟨i, by omega, h1, h2⟩
      have hn := h n (by omega)
      cases e : g' n with
      | false => have := bm_bo_01 (g n); show _ + (0 : Int) < _; omega
      | true => rw [hn e]; omega
theorem gc_0 {g : Nat → Bool} : ∀ n : Nat, u_c g n = 0 → ∀ i, i < n → g i = false
  | 0, _, i, hi => absurd hi (by omega)
  | n + 1, h, i, hi => by
    have h : u_c g n + bm_bo (g n) = 0 := h
    have r := u_c_rng g n
    have r2 := bm_bo_01 (g n)
    by_cases c : i = n
    · subst c
      cases e : g i with
      | false => rfl
      | true => rw [e] at h; have h : u_c g i + 1 = 0 := h; omega
    · exact gc_0 n (by omega) i (by omega)
theorem gd_le {M M' : Nat → Nat → Bool} (h : ∀ a b, M' a b = true → M a b = true) : ∀ n : Nat, u_cc M' n ≤ u_cc M n
  | 0 => Int.le_refl _
  | n + 1 => by
    have ih := gd_le h n
    have := gc_le (g := M n) (g' := M' n) 41 (fun i _ => h n i)
    show u_cc M' n + u_c (M' n) 41 ≤ u_cc M n + u_c (M n) 41
    omega
theorem gd_lt {M M' : Nat → Nat → Bool} (h : ∀ a b, M' a b = true → M a b = true) {x y : Nat} (hy : y < 41) (h1 : M' x y = false) (h2 : M x y = true) : ∀ n : Nat, x < n → u_cc M' n < u_cc M n
  | 0, hx => absurd hx (by omega)
  | n + 1, hx => by
    show u_cc M' n + u_c (M' n) 41 < u_cc M n + u_c (M n) 41
    by_cases c : x = n
    · subst c
      have ih := gd_le h x
      have := gc_lt (g := M x) (g' := M' x) 41 (fun i _ => h x i) ⟨y, hy, h1, h2⟩
      omega
    · have ih := gd_lt h hy h1 h2 n (by omega)
      have := gc_le (g := M n) (g' := M' n) 41 (fun i _ => h n i)
      omega
theorem gd_0 {M : Nat → Nat → Bool} : ∀ n : Nat, u_cc M n = 0 → ∀ a b, a < n → b < 41 → M a b = false
  | 0, _, a, b, ha, _ => absurd ha (by omega)
  | n + 1, h, a, b, ha, hb => by
    have h : u_cc M n + u_c (M n) 41 = 0 := h
    have r := u_cc_rng M n
    have r2 := u_c_rng (M n) 41
    by_cases c : a = n
    · subst c
      exact gc_0 41 (by omega) b hb
    · exact gd_0 n (by omega) a b (by omega) hb
theorem gd_z {M : Nat → Nat → Bool} (h : ∀ a b, M a b = false) : ∀ n : Nat, u_cc M n = 0
  | 0 => rfl
  | n + 1 => by
    show u_cc M n + u_c (M n) 41 = 0
    have z : ∀ k : Nat, u_c (M n) k = 0 := by
      intro k
      induction k with
      | zero => rfl
      | succ k ih => show u_c (M n) k + bm_bo (M n k) = 0; rw [ih, h]; rfl
    rw [gd_z h n, z]
    rfl
section GP
variable {A B : Int} {D : q_D} {rows : List y_rw} {R : y_rw}
/-- the program with these rows -/
def gp (A B : Int) (D : q_D) (rows : List y_rw) : y_pr := ([lw_F A B D], [(30, 0, rows)])
theorem gp_0 {rs : Int} : lw_pr A B rs D = gp A B D [lw_R rs] := rfl
theorem gp_F : y_tF (gp A B D rows) 0 = lw_F A B D := rfl
theorem gp_r : (gp A B D rows).2.getD 0 y_t0 = (30, 0, rows) := rfl
theorem gp_f : (gp A B D rows).1.getD 0 y_f0 = lw_F A B D := rfl
theorem gp_gp : y_gp (gp A B D rows) 0 = gp A B D (rows ++ [y_gR (gp A B D rows) 0]) := rfl
theorem gp_st {r : List y_rw} : y_st (gp A B D rows) 0 r = gp A B D r := rfl
/-- the inputs' ranges -/
def gi_s (A B : Int) : List y_in := [(3, 0, A), (9, 0, B)]
theorem gi_n : s_n (y_rg (gi_s A B)) 0 = A + 1 ∧ s_n (y_rg (gi_s A B)) 1 = B + 1 ∧ s_n (y_rg (gi_s A B)) 2 = 1 := by
  refine ⟨?_, ?_, rfl⟩
  · show A - 0 + 1 = _; omega
  · show B - 0 + 1 = _; omega
/-- a pair that is not tried -/
def gM (A B : Int) (rows : List y_rw) (a b : Nat) : Bool := (decide ((a : Int) < A + 1) && decide ((b : Int) < B + 1)) && !u_rs 0 rows (a : Int) (b : Int)
theorem gM_eq (a b : Nat) : u_M (gp A B D rows) 0 (gi_s A B) 1 0 a b = gM A B rows a b := by
  obtain ⟨n0, n1, n2⟩ := gi_n (A := A) (B := B)
  have e1 : u_nr (gi_s A B) 0 = A + 1 := n0
  have e2 : s_n (y_rg (gi_s A B)) (u_j 0) = B + 1 := n1
  unfold u_M u_0 gM
  rw [e1, e2]
  have e3 : u_lo (gi_s A B) (u_i 0) = 0 := rfl
  have e4 : u_lo (gi_s A B) (u_j 0) = 0 := rfl
  rw [e3, e4, Int.zero_add, Int.zero_add]
  have e5 : u_ts (gp A B D rows) 0 0 (a : Int) (b : Int) 1 = (false || (decide ((0 : Nat) = 0) && u_rs 0 rows (a : Int) (b : Int))) := rfl
  rw [e5]
  simp
theorem gM_z {p : Nat} (hp : p = 1 ∨ p = 2) (a b : Nat) : u_M (gp A B D rows) 0 (gi_s A B) 1 p a b = false := by
  have e : u_nr (gi_s A B) p = 0 := by
    unfold u_nr
    rw [if_neg (by show ¬ (p = 0 ∨ 2 = 3); omega)]
  unfold u_M u_0
  rw [e, decide_eq_false (show ¬ (a : Int) < 0 by omega)]
  simp
theorem gp_ft : y_ft (gp A B D rows) 0 5 = u_cc (gM A B rows) 41 := by
  show u_tot (u_M (gp A B D rows) 0 (gi_s A B) 1) = _
  unfold u_tot
  rw [gd_z (M := u_M (gp A B D rows) 0 (gi_s A B) 1 1) (gM_z (Or.inl rfl)), gd_z (M := u_M (gp A B D rows) 0 (gi_s A B) 1 2) (gM_z (Or.inr rfl)), Int.add_zero, Int.add_zero]
  have e : u_M (gp A B D rows) 0 (gi_s A B) 1 0 = gM A B rows := funext fun a => funext fun b => gM_eq a b
  rw [e]
theorem gp_pp (hA : 1 ≤ A) (hB : 1 ≤ B) : (y_pp (gp A B D rows) 0 = -1 ∧ ∀ a b : Nat, gM A B rows a b = false) ∨ ∃ a b : Nat, gM A B rows a b = true ∧ (b : Int) < B + 1 ∧ y_pp (gp A B D rows) 0 = (a : Int) * (B + 1) + b := by
  obtain ⟨n0, n1, n2⟩ := gi_n (A := A) (B := B)
  have e : y_pp (gp A B D rows) 0 = (u_g1 (u_own (u_M (gp A B D rows) 0 (gi_s A B) 1)) (B + 1).toNat 1 (A + 1).toNat).1 := by
    show (u_g1 (u_own (u_M (gp A B D rows) 0 (gi_s A B) 1)) (s_n (y_rg (gi_s A B)) 1).toNat (s_n (y_rg (gi_s A B)) 2).toNat (s_n (y_rg (gi_s A B)) 0).toNat).1 = _
    rw [n0, n1, n2]
    rfl
  have ow : ∀ a b : Nat, u_own (u_M (gp A B D rows) 0 (gi_s A B) 1) a b 0 = bm_bo (gM A B rows a b) := by
    intro a b
    unfold u_own
    rw [gM_eq, gM_z (Or.inl rfl), gM_z (Or.inr rfl)]
    show _ + (0 : Int) + (0 : Int) = _
    omega
  have q := gq_1 (o := u_own (u_M (gp A B D rows) 0 (gi_s A B) 1)) (n1 := (B + 1).toNat) (A + 1).toNat
  rw [e]
  rcases q with ⟨q1, q2⟩ | ⟨x, y, ⟨q1, q2⟩, q3, q4, q5⟩
  · refine Or.inl ⟨by rw [q1], fun a b => ?_⟩
    cases hm : gM A B rows a b with
    | false => rfl
    | true =>
      have hm2 := hm
      unfold gM at hm2
      simp only [Bool.and_eq_true, decide_eq_true_eq] at hm2
      have := q2 a b ⟨by omega, by omega⟩
      rw [ow, hm] at this
      exact absurd this (by decide)
  · refine Or.inr ⟨x, y, ?_, by omega, ?_⟩
    · rw [ow] at q5
      cases hm : gM A B rows x y with
      | true => rfl
      | false => rw [hm] at q5; exact absurd q5 (by decide)
    · rw [q4]
      show ((x * (B + 1).toNat + y : Nat) : Int) = _
      rw [Int.natCast_add, Int.natCast_mul, Int.toNat_of_nonneg (by omega)]
theorem u_rs_app {p : Nat} {x y : Int} : ∀ l l2 : List y_rw, u_rs p (l ++ l2) x y = (u_rs p l x y || u_rs p l2 x y)
  | [], l2 => by simp [u_rs]
  | R :: l, l2 => by
    show (u_r p R.1 x y || u_rs p (l ++ l2) x y) = ((u_r p R.1 x y || u_rs p l x y) || u_rs p l2 x y)
    rw [u_rs_app l l2, Bool.or_assoc]
/-- the row that growing adds -/
theorem gp_gv {a b : Nat} (hA : 1 ≤ A) (hB : 1 ≤ B) (ha : (a : Int) < A + 1) (hb : (b : Int) < B + 1) (e : y_pp (gp A B D rows) 0 = (a : Int) * (B + 1) + b) : y_gv (gp A B D rows) 0 0 = a ∧ y_gv (gp A B D rows) 0 1 = b := by
  obtain ⟨n0, n1, n2⟩ := gi_n (A := A) (B := B)
  have g : ∀ i, y_gv (gp A B D rows) 0 i = s_val (y_rg (gi_s A B)) (y_pp (gp A B D rows) 0) i := fun _ => rfl
  rw [g, g, e]
  unfold s_val s_rep
  have l0 : ((y_rg (gi_s A B)).getD 0 (0, 0)).1 = 0 := rfl
  have l1 : ((y_rg (gi_s A B)).getD 1 (0, 0)).1 = 0 := rfl
  rw [l0, l1, if_pos rfl, if_neg (by decide), if_pos rfl, n0, n1, n2, Int.zero_add, Int.zero_add, Int.one_mul, Int.ediv_one]
  refine ⟨?_, ?_⟩
  · rw [Int.add_comm, Int.add_mul_ediv_right _ _ (show B + 1 ≠ 0 by omega), Int.ediv_eq_zero_of_lt (by omega) hb, Int.zero_add]
    exact Int.emod_eq_of_lt (by omega) ha
  · rw [Int.add_comm, Int.add_mul_emod_self_right]
    exact Int.emod_eq_of_lt (by omega) hb
theorem gp_gR : (y_gR (gp A B D rows) 0).1 = [(y_gv (gp A B D rows) 0 0, y_gv (gp A B D rows) 0 0), (y_gv (gp A B D rows) 0 1, y_gv (gp A B D rows) 0 1)] := rfl
/-- growing leaves fewer pairs -/
theorem gp_grow (hA : 1 ≤ A ∧ A ≤ 4) (hB : 1 ≤ B ∧ B ≤ 3) (h : 0 ≤ y_pp (gp A B D rows) 0) : y_ft (gp A B D (rows ++ [y_gR (gp A B D rows) 0])) 0 5 < y_ft (gp A B D rows) 0 5 := by
  rcases gp_pp (D := D) (rows := rows) hA.1 hB.1 with ⟨e, -⟩ | ⟨a, b, hm, hb, e⟩
  · omega
  have hm2 := hm
  unfold gM at hm2
  simp only [Bool.and_eq_true, decide_eq_true_eq] at hm2
  obtain ⟨g0, g1⟩ := gp_gv hA.1 hB.1 hm2.1.1 hm2.1.2 e
  rw [gp_ft, gp_ft]
  refine gd_lt (x := a) (y := b) (fun x y z => ?_) (by omega) ?_ hm 41 (by omega)
  · unfold gM at z ⊢
    rw [u_rs_app] at z
    simp only [Bool.and_eq_true, Bool.not_eq_true', Bool.or_eq_false_iff] at z ⊢
    exact ⟨z.1, z.2.1⟩
  · unfold gM
    rw [u_rs_app]
    have r : u_rs 0 [y_gR (gp A B D rows) 0] (a : Int) (b : Int) = true := by
      show (u_r 0 (y_gR (gp A B D rows) 0).1 (a : Int) (b : Int) || false) = true
      rw [gp_gR, g0, g1]
      simp [u_r, u_ri, u_i, u_j]
    rw [r]
    simp
/-- no proposal just where all is tried -/
theorem gp_none (hA : 1 ≤ A ∧ A ≤ 4) (hB : 1 ≤ B ∧ B ≤ 3) : y_pp (gp A B D rows) 0 < 0 ↔ y_ft (gp A B D rows) 0 5 = 0 := by
  rw [gp_ft]
  rcases gp_pp (D := D) (rows := rows) hA.1 hB.1 with ⟨e, z⟩ | ⟨a, b, hm, hb, e⟩
  · rw [e]
    exact ⟨fun _ => gd_z z 41, fun _ => by decide⟩
  · have hm2 := hm
    unfold gM at hm2
    simp only [Bool.and_eq_true, decide_eq_true_eq] at hm2
    have h0 : 0 ≤ (a : Int) * (B + 1) + b := by
      have := Int.mul_nonneg (show (0 : Int) ≤ a by omega) (show 0 ≤ B + 1 by omega)
      omega
    refine ⟨fun q => by omega, fun q => ?_⟩
    have := gd_0 41 q a b (by omega) (by omega)
    rw [hm] at this
    cases this
end GP

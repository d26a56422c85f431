/-! ===== the law's program: its cases, what is found, shortening ===== -/
section GR
variable {D : q_D} {rows : List y_rw} {R : y_rw}
theorem gt_app {l : List y_rw} {i : Nat} (h : i < l.length) : (l ++ [R]).getD i y_r0 = l.getD i y_r0 := by
  rw [List.getD_eq_getElem?_getD, List.getD_eq_getElem?_getD, List.getElem?_append_left h]
theorem gt_last {l : List y_rw} : (l ++ [R]).getD l.length y_r0 = R := by
  rw [List.getD_eq_getElem?_getD, List.getElem?_append_right (Nat.le_refl _), Nat.sub_self]
  rfl
/-- every row has one case -/
def go (rows : List y_rw) : Prop := ∀ R, R ∈ rows → y_cs R.1 = 1
theorem go_ct : ∀ {rows : List y_rw}, go rows → y_ct rows = (rows.length : Int)
  | [], _ => rfl
  | R :: l, h => by
    show y_cs R.1 + y_ct l = _
    rw [h R List.mem_cons_self, go_ct (fun R' hR => h R' (List.mem_cons_of_mem _ hR)), List.length_cons]
    omega
theorem go_at : ∀ {rows : List y_rw}, go rows → ∀ k : Nat, k < rows.length → s_at rows (k : Int) = (k, 0)
  | [], _, k, hk => absurd hk (by simp)
  | R :: l, h, 0, _ => by
    show (if ((0 : Nat) : Int) < y_cs R.1 then (0, ((0 : Nat) : Int)) else _) = _
    rw [h R List.mem_cons_self, if_pos (by decide)]
    rfl
  | R :: l, h, k + 1, hk => by
    show (if ((k + 1 : Nat) : Int) < y_cs R.1 then (0, ((k + 1 : Nat) : Int)) else ((s_at l (((k + 1 : Nat) : Int) - y_cs R.1)).1 + 1, (s_at l (((k + 1 : Nat) : Int) - y_cs R.1)).2)) = _
    rw [h R List.mem_cons_self, if_neg (by omega), show ((k + 1 : Nat) : Int) - 1 = (k : Int) by omega, go_at (fun R' hR => h R' (List.mem_cons_of_mem _ hR)) k (by simpa using hk)]
/-- the inputs of a row's first case -/
def gvx (R : y_rw) (i : Nat) : Int := s_val R.1 0 i
theorem go_hold (h : go rows) {k : Nat} (hk : k < rows.length) (ch : Int) : s_hold D rows (k : Int) ch = s_ad (rows.getD k y_r0) (D (gvx (rows.getD k y_r0)) ch).1 := by
  unfold s_hold s_in gvx
  rw [go_at h k hk]
theorem go_tc (h : go rows) {k : Nat} (hk : k < rows.length) : s_tc D rows (k : Int) = (D (gvx (rows.getD k y_r0)) (-1)).2 := by
  unfold s_tc s_in gvx
  rw [go_at h k hk]
/-- every row but the first holds -/
def gh (D : q_D) (rows : List y_rw) : Prop := ∀ k : Nat, 1 ≤ k → k < rows.length → s_ad (rows.getD k y_r0) (D (gvx (rows.getD k y_r0)) (-1)).1 = 1
/-- how many hold; the first that does not -/
theorem gh_cnt {h : Int → Int} : ∀ n : Nat, (∀ k : Nat, 1 ≤ k → k < n → h (k : Int) = 1) → (n : Int) - 1 ≤ s_cnt h n
  | 0, _ => by show ((0 : Nat) : Int) - 1 ≤ 0; omega
  | 1, _ => by
    show ((1 : Nat) : Int) - 1 ≤ 0 + (if h ((0 : Nat) : Int) = 0 then 0 else 1)
    split <;> omega
  | n + 2, hh => by
    have ih := gh_cnt (n + 1) (fun k h1 h2 => hh k h1 (by omega))
    show ((n + 2 : Nat) : Int) - 1 ≤ s_cnt h (n + 1) + (if h ((n + 1 : Nat) : Int) = 0 then 0 else 1)
    rw [hh (n + 1) (by omega) (by omega), if_neg (by decide)]
    omega
theorem gh_fst1 {h : Int → Int} : ∀ n k : Nat, (∀ j : Nat, k ≤ j → j < k + n → h (j : Int) = 1) → s_fst h k n = -1
  | 0, _, _ => rfl
  | n + 1, k, hh => by
    show (if h (k : Int) = 0 then (k : Int) else s_fst h (k + 1) n) = -1
    rw [hh k (Nat.le_refl _) (by omega), if_neg (by decide)]
    exact gh_fst1 n (k + 1) (fun j h1 h2 => hh j (by omega) (by omega))
theorem gh_fst {h : Int → Int} (n : Nat) (hh : ∀ k : Nat, 1 ≤ k → k < n → h (k : Int) = 1) : s_fst h 0 n ≤ 0 := by
  cases n with
  | zero => show (-1 : Int) ≤ 0; decide
  | succ n =>
    show (if h ((0 : Nat) : Int) = 0 then ((0 : Nat) : Int) else s_fst h 1 n) ≤ 0
    split
    · decide
    · rw [gh_fst1 n 1 (fun j h1 h2 => hh j h1 (by omega))]
      decide
/-! the branches -/
/-- the function goes through its if once -/
def gb_1 (D : q_D) : Prop := ∀ a, ∃ x b, D a (-1) = (x, [(0, b)])
theorem gb_app (on : Int) (c : Bool) : ∀ (l l2 : List (Int × Bool)) (g : Nat → Int), q_bump on c (l ++ l2) g = q_bump on c l2 (q_bump on c l g)
  | [], _, _ => rfl
  | (i, b') :: r, l2, g => by
    show q_bump on c (r ++ l2) _ = q_bump on c l2 (q_bump on c r _)
    exact gb_app on c r l2 _
theorem gb_tr (hD : gb_1 D) (h : go rows) : ∀ n : Nat, n ≤ rows.length → n ≤ 1000 → ∃ x y : Nat, x + y = n ∧ q_bump 1 true (s_tr D rows n) (fun _ => 0) 0 = (x : Int) ∧ q_bump 1 false (s_tr D rows n) (fun _ => 0) 0 = (y : Int)
  | 0, _, _ => ⟨0, 0, rfl, rfl, rfl⟩
  | n + 1, hn, hm => by
    obtain ⟨x, y, e, e1, e2⟩ := gb_tr hD h n (by omega) (by omega)
    obtain ⟨v, b, hb⟩ := hD (gvx (rows.getD n y_r0))
    have t : s_tr D rows (n + 1) = s_tr D rows n ++ [(0, b)] := by
      show s_tr D rows n ++ s_tc D rows (n : Int) = _
      rw [go_tc h (by omega), hb]
    rw [t, gb_app, gb_app]
    cases b with
    | true =>
      refine ⟨x + 1, y, by omega, ?_, ?_⟩
      · show bm_w (q_bump 1 true (s_tr D rows n) (fun _ => 0) 0 + 1) = _
        rw [e1, q_wI ⟨by omega, by omega⟩]
        omega
      · exact e2
    | false =>
      refine ⟨x, y + 1, by omega, ?_, ?_⟩
      · exact e1
      · show bm_w (q_bump 1 false (s_tr D rows n) (fun _ => 0) 0 + 1) = _
        rw [e2, q_wI ⟨by omega, by omega⟩]
        omega
/-! what is found -/
/-- a change is found by a row -/
def gf (D : q_D) (rows : List y_rw) (p : Nat) : Bool := s_ft D rows none p rows.length
theorem gf_iff {p : Nat} : gf D rows p = true ↔ ∃ i, i < rows.length ∧ s_fw D (rows.getD i y_r0) p = true := by
  unfold gf
  rw [s_ft_iff]
  constructor
  · rintro ⟨i, h1, -, h2⟩
    exact ⟨i, h1, h2⟩
  · rintro ⟨i, h1, h2⟩
    exact ⟨i, h1, fun q => (by cases q), h2⟩
theorem gf_mem {p : Nat} : gf D rows p = true ↔ ∃ R, R ∈ rows ∧ s_fw D R p = true := by
  rw [gf_iff]
  constructor
  · rintro ⟨i, h1, h2⟩
    refine ⟨rows.getD i y_r0, ?_, h2⟩
    rw [List.getD_eq_getElem?_getD, List.getElem?_eq_getElem h1]
    exact List.getElem_mem h1
  · rintro ⟨R, h1, h2⟩
    obtain ⟨i, hi, e⟩ := List.getElem_of_mem h1
    refine ⟨i, hi, ?_⟩
    rw [List.getD_eq_getElem?_getD, List.getElem?_eq_getElem hi, Option.getD_some, e]
    exact h2
theorem gf_fn {P : Nat} : s_fn D rows P = u_c (gf D rows) P := rfl
theorem gf_sub {l l2 : List y_rw} (h : ∀ R, R ∈ l → R ∈ l2) {p : Nat} (z : gf D l p = true) : gf D l2 p = true := by
  obtain ⟨R, h1, h2⟩ := gf_mem.mp z
  exact gf_mem.mpr ⟨R, h R h1, h2⟩
/-- a row without which less is found -/
def ge (D : q_D) (P : Nat) (rows : List y_rw) (i : Nat) : Prop := s_fn D (rows.eraseIdx i) P ≠ s_fn D rows P
theorem ge_ex {P i : Nat} (h : ge D P rows i) : ∃ p, p < P ∧ gf D rows p = true ∧ gf D (rows.eraseIdx i) p = false := by
  refine Classical.byContradiction (fun q => h ?_)
  show u_c (gf D (rows.eraseIdx i)) P = u_c (gf D rows) P
  refine u_c_ext (fun p hp => ?_)
  cases e : gf D (rows.eraseIdx i) p with
  | true => exact (gf_sub (fun R hR => List.mem_of_mem_eraseIdx hR) e).symm
  | false =>
    cases e2 : gf D rows p with
    | false => rfl
    | true => exact absurd ⟨p, hp, e2, e⟩ q
theorem ge_lt {P i : Nat} (h : ge D P rows i) : s_fn D (rows.eraseIdx i) P < s_fn D rows P := by
  obtain ⟨p, h1, h2, h3⟩ := ge_ex h
  exact gc_lt P (fun j _ z => gf_sub (fun R hR => List.mem_of_mem_eraseIdx hR) z) ⟨p, h1, h3, h2⟩
/-- dropping n keeps what is essential behind it -/
theorem er_comm {α : Type} : ∀ (l : List α) (n i : Nat), n ≤ i → (l.eraseIdx n).eraseIdx i = (l.eraseIdx (i + 1)).eraseIdx n
  | [], n, i, _ => by simp
  | x :: l, 0, i, _ => by
    show l.eraseIdx i = (x :: l.eraseIdx i).eraseIdx 0
    rfl
  | x :: l, n + 1, i, h => by
    obtain ⟨j, rfl⟩ : ∃ j, i = j + 1 := ⟨i - 1, by omega⟩
    show x :: (l.eraseIdx n).eraseIdx j = x :: (l.eraseIdx (j + 1)).eraseIdx n
    rw [er_comm l n j (by omega)]
theorem ge_drop {P n : Nat} (e : s_fn D (rows.eraseIdx n) P = s_fn D rows P) {i : Nat} (hi : n ≤ i) (h : ge D P rows (i + 1)) : ge D P (rows.eraseIdx n) i := by
  have h1 := ge_lt h
  unfold ge
  rw [er_comm rows n i hi, e]
  have h2 : s_fn D ((rows.eraseIdx (i + 1)).eraseIdx n) P ≤ s_fn D (rows.eraseIdx (i + 1)) P := gc_le P (fun j _ z => gf_sub (fun R hR => List.mem_of_mem_eraseIdx hR) z)
  omega
theorem sh_fn {P : Nat} : ∀ (n : Nat) (rows : List y_rw), s_fn D (s_sh D P n rows) P = s_fn D rows P
  | 0, _ => rfl
  | n + 1, rows => by
    rw [s_sh_s]
    split
    · split
      · rename_i e
        rw [sh_fn n, e]
      · exact sh_fn n rows
    · rfl
theorem sh_pos {P : Nat} : ∀ (n : Nat) (rows : List y_rw), 1 ≤ rows.length → 1 ≤ (s_sh D P n rows).length
  | 0, _, h => h
  | n + 1, rows, h => by
    rw [s_sh_s]
    split
    · rename_i c
      split
      · refine sh_pos n _ ?_
        rw [List.length_eraseIdx]
        split <;> omega
      · exact sh_pos n rows h
    · exact h
/-- what is left is essential -/
theorem sh_ess {P : Nat} : ∀ (n : Nat) (rows : List y_rw), n ≤ rows.length → (∀ i, n ≤ i → i < rows.length → ge D P rows i) → 1 < (s_sh D P n rows).length → ∀ i, i < (s_sh D P n rows).length → ge D P (s_sh D P n rows) i
  | 0, rows, _, h, _, i, hi => h i (by omega) hi
  | n + 1, rows, hn, h, h1, i, hi => by
    rw [s_sh_s] at h1 hi ⊢
    by_cases c : 1 < rows.length
    · rw [if_pos c] at h1 hi ⊢
      by_cases e : s_fn D (rows.eraseIdx n) P = s_fn D rows P
      · rw [if_pos e] at h1 hi ⊢
        have el : (rows.eraseIdx n).length = rows.length - 1 := by rw [List.length_eraseIdx, if_pos (by omega)]
        exact sh_ess n (rows.eraseIdx n) (by omega) (fun j j1 j2 => ge_drop e j1 (h (j + 1) (by omega) (by omega))) h1 i hi
      · rw [if_neg e] at h1 hi ⊢
        refine sh_ess n rows (by omega) (fun j j1 j2 => ?_) h1 i hi
        by_cases cj : j = n
        · subst cj; exact e
        · exact h j (by omega) j2
    · rw [if_neg c] at h1
      omega
/-- essential rows stay -/
theorem sh_stay {P : Nat} (h : ∀ i, i < rows.length → ge D P rows i) : ∀ n : Nat, n ≤ rows.length → s_sh D P n rows = rows
  | 0, _ => rfl
  | n + 1, hn => by
    rw [s_sh_s]
    split
    · rw [if_neg (h n (by omega))]
      exact sh_stay h n (by omega)
    · rfl
/-- as many changes as essential rows -/
theorem ge_take {P : Nat} (h : ∀ i, i < rows.length → ge D P rows i) : ∀ n : Nat, n ≤ rows.length → (n : Int) ≤ s_fn D (rows.take n) P
  | 0, _ => (u_c_rng _ P).1
  | n + 1, hn => by
    have ih := ge_take h n (by omega)
    obtain ⟨p, p1, p2, p3⟩ := ge_ex (h n (by omega))
    have lt : s_fn D (rows.take n) P < s_fn D (rows.take (n + 1)) P := by
      refine gc_lt P (fun j _ z => gf_sub (fun R hR => ?_) z) ⟨p, p1, ?_, ?_⟩
      · rw [List.take_succ]
        exact List.mem_append_left _ hR
      · cases e : gf D (rows.take n) p with
        | false => exact e
        | true =>
          have : gf D (rows.eraseIdx n) p = true := gf_sub (fun R hR => by
            rw [List.eraseIdx_eq_take_drop_succ]
            exact List.mem_append_left _ hR) e
          rw [p3] at this
          cases this
      · obtain ⟨R, r1, r2⟩ := gf_mem.mp p2
        refine gf_mem.mpr ⟨R, ?_, r2⟩
        rw [List.take_succ]
        have r3 : R ∉ rows.eraseIdx n := fun z => by
          have := gf_mem.mpr ⟨R, z, r2⟩
          rw [p3] at this
          cases this
        rw [List.eraseIdx_eq_take_drop_succ] at r3
        rw [← List.take_append_drop n rows, List.drop_eq_getElem_cons (show n < rows.length by omega)] at r1
        rcases List.mem_append.mp r1 with z | z
        · exact absurd (List.mem_append_left _ z) r3
        · rcases List.mem_cons.mp z with z | z
          · refine List.mem_append_right _ ?_
            rw [List.getElem?_eq_getElem (show n < rows.length by omega), z]
            exact List.mem_singleton.mpr rfl
          · exact absurd (List.mem_append_right _ z) r3
    omega
theorem ge_len {P : Nat} (h : ∀ i, i < rows.length → ge D P rows i) : (rows.length : Int) ≤ s_fn D rows P := by
  have := ge_take h rows.length (Nat.le_refl _)
  rwa [List.take_length] at this
/-- shortening, in all -/
theorem sh_all {P : Nat} (h1 : 1 ≤ rows.length) : s_fn D (s_sh D P rows.length rows) P = s_fn D rows P ∧ 1 ≤ (s_sh D P rows.length rows).length ∧ (((s_sh D P rows.length rows).length : Int) ≤ 1 ∨ ((s_sh D P rows.length rows).length : Int) ≤ s_fn D rows P) ∧ s_sh D P (s_sh D P rows.length rows).length (s_sh D P rows.length rows) = s_sh D P rows.length rows := by
  have ess := sh_ess (D := D) (P := P) rows.length rows (Nat.le_refl _) (fun i a b => absurd b (by omega))
  have fn := sh_fn (D := D) (P := P) rows.length rows
  have pos := sh_pos (D := D) (P := P) rows.length rows h1
  generalize s_sh D P rows.length rows = l at ess fn pos ⊢
  refine ⟨fn, pos, ?_, ?_⟩
  · by_cases c : 1 < l.length
    · exact Or.inr (by rw [← fn]; exact ge_len (ess c))
    · exact Or.inl (by omega)
  · by_cases c : 1 < l.length
    · exact sh_stay (ess c) l.length (Nat.le_refl _)
    · exact s_sh_1 c _
/-! growing keeps -/
variable {A B : Int}
theorem gw_go (h : go rows) (e : y_cs R.1 = 1) : go (rows ++ [R]) := fun R' hR => by
  rcases List.mem_append.mp hR with z | z
  · exact h R' z
  · rw [List.mem_singleton.mp z]; exact e
theorem gw_cs : y_cs (y_gR (gp A B D rows) 0).1 = 1 := by
  rw [gp_gR]
  show y_wd (_, _) * (y_wd (_, _) * 1) = 1
  unfold y_wd
  simp
theorem gw_hold (hD : q_loc 2 D) : s_ad (y_gR (gp A B D rows) 0) (D (gvx (y_gR (gp A B D rows) 0)) (-1)).1 = 1 := by
  have e : D (gvx (y_gR (gp A B D rows) 0)) (-1) = D (y_gv (gp A B D rows) 0) (-1) := by
    refine hD _ _ _ (fun i hi => ?_)
    unfold gvx s_val
    rw [gp_gR, Int.zero_ediv, Int.zero_emod, Int.add_zero]
    rcases (show i = 0 ∨ i = 1 by omega) with rfl | rfl <;> rfl
  rw [e]
  have e2 : y_gw (gp A B D rows) 0 = (D (y_gv (gp A B D rows) 0) (-1)).1 := rfl
  have r1 : (y_gR (gp A B D rows) 0).2.1 = if (y_gw (gp A B D rows) 0).isSome = true then 22 else 15 := rfl
  have r2 : (y_gR (gp A B D rows) 0).2.2 = (y_gw (gp A B D rows) 0).getD 0 := rfl
  rw [← e2]
  unfold s_ad
  rw [r1, r2]
  cases y_gw (gp A B D rows) 0 with
  | none => simp
  | some x => simp [t_rel]
theorem gw_gh (hD : q_loc 2 D) (h : gh D rows) : gh D (rows ++ [y_gR (gp A B D rows) 0]) := fun k h1 h2 => by
  rw [List.length_append] at h2
  have h2 : k < rows.length + 1 := h2
  by_cases c : k = rows.length
  · subst c
    rw [gt_last]
    exact gw_hold hD
  · rw [gt_app (by omega)]
    exact h k h1 (by omega)
end GR

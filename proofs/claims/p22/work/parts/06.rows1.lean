/-! ===== rows that leave the heap as it is ===== -/
theorem bm_nth_lv (D : bm_D) : ∀ (l : bm_L) (i j : Nat) (v : bm_V), bm_nth l i = some (some v) → (j + i, bm_val D v) ∈ bm_lv D j l
  | [], i, j, v, h => by simp [bm_nth] at h
  | none :: l, 0, j, v, h => by simp [bm_nth] at h
  | some u :: l, 0, j, v, h => by
    simp only [bm_nth, Option.some.injEq] at h
    subst h
    exact List.mem_cons_self
  | none :: l, i + 1, j, v, h => by
    have h2 := bm_nth_lv D l i (j + 1) v h
    rw [show j + (i + 1) = j + 1 + i by omega]
    exact h2
  | some u :: l, i + 1, j, v, h => by
    have h2 := bm_nth_lv D l i (j + 1) v h
    rw [show j + (i + 1) = j + 1 + i by omega]
    exact List.mem_cons_of_mem _ h2
theorem bm_at {D : bm_D} {ls : Array Slot} {nL : Nat} {lo : bm_L} (h : lv_has ls nL (bm_lv D 0 lo)) {i : Nat} {v : bm_V} (hi : bm_nth lo i = some (some v)) : ls[i]? = some (.val (bm_val D v)) := by
  have h2 := h.2.2 _ (bm_nth_lv D lo i 0 v hi)
  simpa using h2
theorem bm_nth_mem {α : Type} : ∀ (l : List α) (i : Nat) (v : α), bm_nth l i = some v → v ∈ l
  | [], i, v, h => by simp [bm_nth] at h
  | a :: l, 0, v, h => by
    simp only [bm_nth, Option.some.injEq] at h
    subst h
    exact List.mem_cons_self
  | a :: l, i + 1, v, h => List.mem_cons_of_mem _ (bm_nth_mem l i v h)
theorem bm_lv_ge (D : bm_D) : ∀ (l : bm_L) (j : Nat) (q : Nat × Value), q ∈ bm_lv D j l → j ≤ q.1
  | [], j, q, h => by simp [bm_lv] at h
  | none :: l, j, q, h => by
    have := bm_lv_ge D l (j + 1) q h
    omega
  | some u :: l, j, q, h => by
    simp only [bm_lv, List.mem_cons] at h
    rcases h with h | h
    · rw [h]; exact Nat.le_refl _
    · have := bm_lv_ge D l (j + 1) q h
      omega
theorem bm_val_cat (D : bm_D) (v : bm_V) : (bm_val D v).category = 2 ↔ bm_kl (some v) 0 = none := by
  rcases v with x | x | r | x | x
  · simp [bm_val, bm_kl, Value.category]
  · simp [bm_val, bm_kl, Value.category]
  · cases r <;> simp [bm_val, bm_kl, va_rf, Value.category]
  · simp [bm_val, bm_kl, Value.category]
  · simp [bm_val, bm_kl, bm_kv_cat]
theorem bm_kl_or (o : Option bm_V) (i : Nat) : bm_kl o i = none ∨ (bm_kl o i = o ∧ (i = 0 → ∀ v, o = some v → ¬ bm_kl (some v) 0 = none)) := by
  cases i with
  | succ i => exact Or.inr ⟨rfl, fun h => by omega⟩
  | zero =>
    rcases o with _ | x | x | r | x | x
    · exact Or.inl rfl
    · exact Or.inr ⟨rfl, fun _ v e => by cases e; simp [bm_kl]⟩
    · exact Or.inl rfl
    · exact Or.inr ⟨rfl, fun _ v e => by cases e; simp [bm_kl]⟩
    · exact Or.inl rfl
    · exact Or.inr ⟨rfl, fun _ v e => by cases e; simp [bm_kl]⟩
theorem bm_kl_head {D : bm_D} {o : Option bm_V} {i j : Nat} {q : Nat × Value} {l l2 : bm_L} (hq : q ∈ bm_lv D j (bm_kl o i :: l)) : q ∈ bm_lv D (j + 1) l ∨ (q ∈ bm_lv D j (o :: l2) ∧ q.1 = j ∧ ¬ (i = 0 ∧ q.2.category = 2)) := by
  rcases bm_kl_or o i with h | ⟨h, h2⟩
  · rw [h] at hq; exact Or.inl hq
  · rw [h] at hq
    cases o with
    | none => exact Or.inl hq
    | some v =>
      simp only [bm_lv, List.mem_cons] at hq
      rcases hq with e | e
      · refine Or.inr ⟨by simp only [bm_lv, List.mem_cons]; exact Or.inl e, by rw [e], fun z => h2 z.1 v rfl ((bm_val_cat D v).mp (by have := z.2; rw [e] at this; exact this))⟩
      · exact Or.inl e
theorem bm_st1_lv (D : bm_D) (v : bm_V) : ∀ (l : bm_L) (i j : Nat) (q : Nat × Value), q ∈ bm_lv D j (bm_st1 l i v) → q = (j + i, bm_val D v) ∨ (q ∈ bm_lv D j l ∧ q.1 ≠ j + i ∧ ¬ (q.1 + 1 = j + i ∧ q.2.category = 2))
  | [], i, j, q, h => by simp [bm_st1, bm_lv] at h
  | o :: l, 0, j, q, h => by
    simp only [bm_st1, bm_lv, List.mem_cons] at h
    rcases h with h | h
    · exact Or.inl h
    · have h2 := bm_lv_ge D l (j + 1) q h
      refine Or.inr ⟨?_, by omega, by omega⟩
      cases o with
      | none => exact h
      | some u => exact List.mem_cons_of_mem _ h
  | o :: l, i + 1, j, q, h => by
    simp only [bm_st1] at h
    rcases bm_kl_head (l2 := l) h with h2 | ⟨h2, h3, h4⟩
    · rcases bm_st1_lv D v l i (j + 1) q h2 with h5 | ⟨h5, h6, h7⟩
      · exact Or.inl (by rw [h5]; congr 1; omega)
      · refine Or.inr ⟨?_, by omega, by omega⟩
        cases o with
        | none => exact h5
        | some u => exact List.mem_cons_of_mem _ h5
    · exact Or.inr ⟨h2, by omega, fun z => h4 ⟨by omega, z.2⟩⟩
theorem bm_st2_lv (D : bm_D) (v : bm_V) : ∀ (l : bm_L) (i j : Nat) (q : Nat × Value), q ∈ bm_lv D j (bm_st2 l i v) → q = (j + i, bm_val D v) ∨ (q ∈ bm_lv D j l ∧ q.1 ≠ j + i ∧ q.1 ≠ j + i + 1 ∧ ¬ (q.1 + 1 = j + i ∧ q.2.category = 2))
  | [], i, j, q, h => by simp [bm_st2, bm_lv] at h
  | [o], 0, j, q, h => by
    simp only [bm_st2, bm_lv, List.mem_cons] at h
    rcases h with h | h
    · exact Or.inl h
    · cases h
  | o :: o2 :: l, 0, j, q, h => by
    simp only [bm_st2, bm_lv, List.mem_cons] at h
    rcases h with h | h
    · exact Or.inl h
    · have h2 := bm_lv_ge D l (j + 1 + 1) q h
      refine Or.inr ⟨?_, by omega, by omega, by omega⟩
      cases o with
      | none => cases o2 with
        | none => exact h
        | some u => exact List.mem_cons_of_mem _ h
      | some u => cases o2 with
        | none => exact List.mem_cons_of_mem _ h
        | some u => exact List.mem_cons_of_mem _ (List.mem_cons_of_mem _ h)
  | o :: l, i + 1, j, q, h => by
    simp only [bm_st2] at h
    rcases bm_kl_head (l2 := l) h with h2 | ⟨h2, h3, h4⟩
    · rcases bm_st2_lv D v l i (j + 1) q h2 with h5 | ⟨h5, h6, h7, h8⟩
      · exact Or.inl (by rw [h5]; congr 1; omega)
      · refine Or.inr ⟨?_, by omega, by omega, by omega⟩
        cases o with
        | none => exact h5
        | some u => exact List.mem_cons_of_mem _ h5
    · exact Or.inr ⟨h2, by omega, by omega, fun z => h4 ⟨by omega, z.2⟩⟩
theorem bm_st1_len (v : bm_V) : ∀ (l : bm_L) (i : Nat), (bm_st1 l i v).length = l.length
  | [], _ => rfl
  | _ :: _, 0 => rfl
  | _ :: l, i + 1 => congrArg (· + 1) (bm_st1_len v l i)
theorem bm_st2_len (v : bm_V) : ∀ (l : bm_L) (i : Nat), (bm_st2 l i v).length = l.length
  | [], _ => rfl
  | [_], 0 => rfl
  | _ :: _ :: _, 0 => rfl
  | [_], i + 1 => congrArg (· + 1) (bm_st2_len v [] i)
  | _ :: o :: l, i + 1 => congrArg (· + 1) (bm_st2_len v (o :: l) i)
theorem bm_kl_in {o : Option bm_V} {i : Nat} {u : bm_V} (h : some u = bm_kl o i) : some u = o := by
  rcases bm_kl_or o i with h2 | ⟨h2, -⟩
  · rw [h2] at h; cases h
  · rw [h2] at h; exact h
theorem bm_st1_in (v : bm_V) : ∀ (l : bm_L) (i : Nat) (u : bm_V), some u ∈ bm_st1 l i v → u = v ∨ some u ∈ l
  | [], i, u, h => by simp [bm_st1] at h
  | o :: l, 0, u, h => by
    simp only [bm_st1, List.mem_cons, Option.some.injEq] at h ⊢
    exact h.imp id Or.inr
  | o :: l, i + 1, u, h => by
    simp only [bm_st1, List.mem_cons] at h ⊢
    rcases h with h | h
    · exact Or.inr (Or.inl (bm_kl_in h))
    · exact (bm_st1_in v l i u h).imp id Or.inr
theorem bm_st2_in (v : bm_V) : ∀ (l : bm_L) (i : Nat) (u : bm_V), some u ∈ bm_st2 l i v → u = v ∨ some u ∈ l
  | [], i, u, h => by simp [bm_st2] at h
  | [o], 0, u, h => by
    simp only [bm_st2, List.mem_cons, Option.some.injEq] at h ⊢
    rcases h with h | h
    · exact Or.inl h
    · cases h
  | o :: o2 :: l, 0, u, h => by
    simp only [bm_st2, List.mem_cons, Option.some.injEq] at h ⊢
    rcases h with h | h | h
    · exact Or.inl h
    · cases h
    · exact Or.inr (Or.inr (Or.inr h))
  | [o], i + 1, u, h => by
    simp only [bm_st2, List.mem_cons] at h ⊢
    rcases h with h | h
    · exact Or.inr (Or.inl (bm_kl_in h))
    · cases h
  | o :: o2 :: l, i + 1, u, h => by
    simp only [bm_st2, List.mem_cons] at h
    rcases h with h | h
    · exact Or.inr (List.mem_cons.mpr (Or.inl (bm_kl_in h)))
    · exact (bm_st2_in v (o2 :: l) i u h).imp id (fun q => List.mem_cons_of_mem _ q)
theorem bm_has1 {D : bm_D} {ls' : Array Slot} {nL : Nat} {lo : bm_L} {i : Nat} {v : bm_V} (h : lv_has ls' nL ((i, bm_val D v) :: (bm_lv D 0 lo).filter (fun q => !(q.1 == i) && !(q.1 + 1 == i && q.2.category == 2)))) : lv_has ls' nL (bm_lv D 0 (bm_st1 lo i v)) := by
  refine ⟨h.1, h.2.1, fun q hq => h.2.2 q ?_⟩
  rcases bm_st1_lv D v lo i 0 q hq with h2 | ⟨h2, h3, h4⟩
  · rw [h2]; simp
  · refine List.mem_cons_of_mem _ (List.mem_filter.mpr ⟨h2, ?_⟩)
    have e1 : (q.1 == i) = false := by simpa using h3
    have e2 : (q.1 + 1 == i && q.2.category == 2) = false := by
      cases e : (q.1 + 1 == i && q.2.category == 2) with
      | false => rfl
      | true =>
        simp only [Bool.and_eq_true, beq_iff_eq] at e
        exact absurd ⟨by omega, e.2⟩ h4
    rw [e1, e2]; rfl
theorem bm_has2 {D : bm_D} {ls' : Array Slot} {nL : Nat} {lo : bm_L} {i : Nat} {v : bm_V} (h : lv_has ls' nL ((i, bm_val D v) :: (bm_lv D 0 lo).filter (fun q => !(q.1 == i) && (!(q.1 == i + 1) && !(q.1 + 1 == i && q.2.category == 2))))) : lv_has ls' nL (bm_lv D 0 (bm_st2 lo i v)) := by
  refine ⟨h.1, h.2.1, fun q hq => h.2.2 q ?_⟩
  rcases bm_st2_lv D v lo i 0 q hq with h2 | ⟨h2, h3, h5, h4⟩
  · rw [h2]; simp
  · refine List.mem_cons_of_mem _ (List.mem_filter.mpr ⟨h2, ?_⟩)
    have e1 : (q.1 == i) = false := by simpa using h3
    have e3 : (q.1 == i + 1) = false := by simpa using h5
    have e2 : (q.1 + 1 == i && q.2.category == 2) = false := by
      cases e : (q.1 + 1 == i && q.2.category == 2) with
      | false => rfl
      | true =>
        simp only [Bool.and_eq_true, beq_iff_eq] at e
        exact absurd ⟨by omega, e.2⟩ h4
    rw [e1, e2, e3]; rfl
theorem bm_InSt.hd {v : bm_V} {st : List bm_V} (h : bm_InSt (v :: st)) : bm_InV v := h v List.mem_cons_self
theorem bm_InSt.tl {v : bm_V} {st : List bm_V} (h : bm_InSt (v :: st)) : bm_InSt st := fun u hu => h u (List.mem_cons_of_mem _ hu)
theorem bm_InSt.cons {v : bm_V} {st : List bm_V} (h : bm_InV v) (h2 : bm_InSt st) : bm_InSt (v :: st) := fun u hu => (List.mem_cons.mp hu).elim (fun e => by rw [e]; exact h) (h2 u)
theorem bm_ofI (x : Int) : Int32.ofInt (bm_w x) = Int32.ofInt x := by
  rw [Int32.ofInt_eq_iff_bmod_eq_toInt, Int32.toInt_ofInt]
  unfold bm_w
  simp only [Int32.size, Int.bmod]
  omega
theorem bm_ofL (x : Int) : Int64.ofInt (bm_x x) = Int64.ofInt x := by
  rw [Int64.ofInt_eq_iff_bmod_eq_toInt, Int64.toInt_ofInt]
  unfold bm_x
  simp only [Int64.size, Int.bmod]
  omega
theorem bm_w_in (x : Int) : bm_InI (bm_w x) := by unfold bm_InI bm_w; omega
theorem bm_x_in (x : Int) : bm_InL (bm_x x) := by unfold bm_InL bm_x; omega
theorem bm_toI {x : Int} (h : bm_InI x) : (Int32.ofInt x).toInt = x := Int32.toInt_ofInt_of_le (by have := h.1; omega) (by have := h.2; omega)
theorem bm_toL {x : Int} (h : bm_InL x) : (Int64.ofInt x).toInt = x := Int64.toInt_ofInt_of_le (by have := h.1; omega) (by have := h.2; omega)
theorem bm_I_in (x : Int32) : bm_InI x.toInt := ⟨by have := x.le_toInt; omega, by have := x.toInt_lt; omega⟩
theorem bm_L_in (x : Int64) : bm_InL x.toInt := ⟨by have := x.le_toInt; omega, by have := x.toInt_lt; omega⟩
theorem bm_ltI {x y : Int} (hx : bm_InI x) (hy : bm_InI y) : Int32.ofInt x < Int32.ofInt y ↔ x < y := by rw [Int32.lt_iff_toInt_lt, bm_toI hx, bm_toI hy]
theorem bm_leI {x y : Int} (hx : bm_InI x) (hy : bm_InI y) : Int32.ofInt x ≤ Int32.ofInt y ↔ x ≤ y := by rw [Int32.le_iff_toInt_le, bm_toI hx, bm_toI hy]
theorem bm_eqI {x y : Int} (hx : bm_InI x) (hy : bm_InI y) : Int32.ofInt x = Int32.ofInt y ↔ x = y := by rw [← Int32.toInt_inj, bm_toI hx, bm_toI hy]
theorem bm_ltL {x y : Int} (hx : bm_InL x) (hy : bm_InL y) : Int64.ofInt x < Int64.ofInt y ↔ x < y := by rw [Int64.lt_iff_toInt_lt, bm_toL hx, bm_toL hy]
theorem bm_leL {x y : Int} (hx : bm_InL x) (hy : bm_InL y) : Int64.ofInt x ≤ Int64.ofInt y ↔ x ≤ y := by rw [Int64.le_iff_toInt_le, bm_toL hx, bm_toL hy]
theorem bm_eqL {x y : Int} (hx : bm_InL x) (hy : bm_InL y) : Int64.ofInt x = Int64.ofInt y ↔ x = y := by rw [← Int64.toInt_inj, bm_toL hx, bm_toL hy]
theorem bm_nd {c : Prop} [Decidable c] (h : ¬ c) : (!decide c) = true := by rw [decide_eq_false h]; rfl
theorem bm_nt {c : Prop} [Decidable c] (h : c) : (!decide c) = false := by rw [decide_eq_true h]; rfl
theorem bm_In0 : bm_InI 0 := by unfold bm_InI; omega
theorem bm_I0 : Int32.ofInt 0 = 0 := rfl
/-! the rows themselves -/
def bm_oK (v : bm_V) (nx : Nat) : bm_L → List bm_V → bm_W → Option bm_S := fun lo st w => some (nx, lo, v :: st, w)
def bm_oLi (i nx : Nat) : bm_L → List bm_V → bm_W → Option bm_S := fun lo st w => match bm_nth lo i with
  | some (some (.inl x)) => some (nx, lo, .inl x :: st, w)
  | _ => none
def bm_oLl (i nx : Nat) : bm_L → List bm_V → bm_W → Option bm_S := fun lo st w => match bm_nth lo i with
  | some (some (.inr (.inl x))) => some (nx, lo, .inr (.inl x) :: st, w)
  | _ => none
def bm_oLa (i nx : Nat) : bm_L → List bm_V → bm_W → Option bm_S := fun lo st w => match bm_nth lo i with
  | some (some (.inr (.inr (.inl x)))) => some (nx, lo, .inr (.inr (.inl x)) :: st, w)
  | some (some (.inr (.inr (.inr (.inr x))))) => some (nx, lo, .inr (.inr (.inr (.inr x))) :: st, w)
  | _ => none
def bm_oSi (i nx : Nat) : bm_L → List bm_V → bm_W → Option bm_S := fun lo st w => match st with
  | .inl x :: r => match i.blt lo.length with
    | true => some (nx, bm_st1 lo i (.inl x), r, w)
    | false => none
  | _ => none
def bm_oSl (i nx : Nat) : bm_L → List bm_V → bm_W → Option bm_S := fun lo st w => match st with
  | .inr (.inl x) :: r => match (i + 1).blt lo.length with
    | true => some (nx, bm_st2 lo i (.inr (.inl x)), r, w)
    | false => none
  | _ => none
def bm_oSa (i nx : Nat) : bm_L → List bm_V → bm_W → Option bm_S := fun lo st w => match st with
  | .inr (.inr (.inl x)) :: r => match i.blt lo.length with
    | true => some (nx, bm_st1 lo i (.inr (.inr (.inl x))), r, w)
    | false => none
  | .inr (.inr (.inr (.inr x))) :: r => match i.blt lo.length with
    | true => some (nx, bm_st1 lo i (.inr (.inr (.inr (.inr x)))), r, w)
    | false => none
  | _ => none
def bm_oInc (i : Nat) (n : Int) (nx : Nat) : bm_L → List bm_V → bm_W → Option bm_S := fun lo st w => match bm_nth lo i with
  | some (some (.inl x)) => some (nx, bm_st1 lo i (.inl (bm_w (x + n))), st, w)
  | _ => none
def bm_o2 (f : Int → Int → Int) (nx : Nat) : bm_L → List bm_V → bm_W → Option bm_S := fun lo st w => match st with
  | .inl y :: .inl x :: r => some (nx, lo, .inl (f x y) :: r, w)
  | _ => none
def bm_o2l (f : Int → Int → Int) (nx : Nat) : bm_L → List bm_V → bm_W → Option bm_S := fun lo st w => match st with
  | .inr (.inl y) :: .inr (.inl x) :: r => some (nx, lo, .inr (.inl (f x y)) :: r, w)
  | _ => none
def bm_o2s (f : Int → Int → Int) (nx : Nat) : bm_L → List bm_V → bm_W → Option bm_S := fun lo st w => match st with
  | .inl y :: .inr (.inl x) :: r => some (nx, lo, .inr (.inl (f x y)) :: r, w)
  | _ => none
def bm_o1 (f : Int → Int) (nx : Nat) : bm_L → List bm_V → bm_W → Option bm_S := fun lo st w => match st with
  | .inl x :: r => some (nx, lo, .inl (f x) :: r, w)
  | _ => none
def bm_o1l (f : Int → Int) (nx : Nat) : bm_L → List bm_V → bm_W → Option bm_S := fun lo st w => match st with
  | .inr (.inl x) :: r => some (nx, lo, .inr (.inl (f x)) :: r, w)
  | _ => none
def bm_oil (nx : Nat) : bm_L → List bm_V → bm_W → Option bm_S := fun lo st w => match st with
  | .inl x :: r => some (nx, lo, .inr (.inl x) :: r, w)
  | _ => none
def bm_oli (nx : Nat) : bm_L → List bm_V → bm_W → Option bm_S := fun lo st w => match st with
  | .inr (.inl x) :: r => some (nx, lo, .inl (bm_w x) :: r, w)
  | _ => none
def bm_oPop (nx : Nat) : bm_L → List bm_V → bm_W → Option bm_S := fun lo st w => match st with
  | .inl _ :: r => some (nx, lo, r, w)
  | .inr (.inr (.inl _)) :: r => some (nx, lo, r, w)
  | _ => none
def bm_oPop2 (nx : Nat) : bm_L → List bm_V → bm_W → Option bm_S := fun lo st w => match st with
  | .inr (.inl _) :: r => some (nx, lo, r, w)
  | _ => none
def bm_oDup (nx : Nat) : bm_L → List bm_V → bm_W → Option bm_S := fun lo st w => match st with
  | .inl x :: r => some (nx, lo, .inl x :: .inl x :: r, w)
  | .inr (.inr (.inl x)) :: r => some (nx, lo, .inr (.inr (.inl x)) :: .inr (.inr (.inl x)) :: r, w)
  | _ => none
def bm_oDup2 (nx : Nat) : bm_L → List bm_V → bm_W → Option bm_S := fun lo st w => match st with
  | .inl y :: .inr (.inr (.inl x)) :: r => some (nx, lo, .inl y :: .inr (.inr (.inl x)) :: .inl y :: .inr (.inr (.inl x)) :: r, w)
  | _ => none
def bm_oDupX1 (nx : Nat) : bm_L → List bm_V → bm_W → Option bm_S := fun lo st w => match st with
  | .inl y :: .inr (.inr (.inl x)) :: r => some (nx, lo, .inl y :: .inr (.inr (.inl x)) :: .inl y :: r, w)
  | _ => none
def bm_oGo (nx : Nat) : bm_L → List bm_V → bm_W → Option bm_S := fun lo st w => some (nx, lo, st, w)
def bm_oDi (f : Int → Int → Int) (nx : Nat) : bm_L → List bm_V → bm_W → Option (Prop × bm_S) := fun lo st w => match st with
  | .inl y :: .inl x :: r => some (¬ y = 0, nx, lo, .inl (f x y) :: r, w)
  | _ => none
def bm_oDl (f : Int → Int → Int) (nx : Nat) : bm_L → List bm_V → bm_W → Option (Prop × bm_S) := fun lo st w => match st with
  | .inr (.inl y) :: .inr (.inl x) :: r => some (¬ y = 0, nx, lo, .inr (.inl (f x y)) :: r, w)
  | _ => none
def bm_bz (f : Int → Bool) (tg nx : Nat) : bm_L → List bm_V → bm_W → Option (Bool × bm_S × bm_S) := fun lo st w => match st with
  | .inl x :: r => some (f x, (tg, lo, r, w), (nx, lo, r, w))
  | _ => none
def bm_bi (f : Int → Int → Bool) (tg nx : Nat) : bm_L → List bm_V → bm_W → Option (Bool × bm_S × bm_S) := fun lo st w => match st with
  | .inl y :: .inl x :: r => some (f x y, (tg, lo, r, w), (nx, lo, r, w))
  | _ => none
def bm_bl (f : Int → Int → Bool) (tg nx : Nat) : bm_L → List bm_V → bm_W → Option (Bool × bm_S × bm_S) := fun lo st w => match st with
  | .inr (.inl y) :: .inr (.inl x) :: r => some (f x y, (tg, lo, r, w), (nx, lo, r, w))
  | _ => none
def bm_bnn (tg nx : Nat) : bm_L → List bm_V → bm_W → Option (Bool × bm_S × bm_S) := fun lo st w => match st with
  | .inr (.inr (.inl x)) :: r => some (x.isSome, (tg, lo, r, w), (nx, lo, r, w))
  | _ => none
def bm_ba (f : Option Nat → Option Nat → Bool) (tg nx : Nat) : bm_L → List bm_V → bm_W → Option (Bool × bm_S × bm_S) := fun lo st w => match st with
  | .inr (.inr (.inl y)) :: .inr (.inr (.inl x)) :: r => some (f x y, (tg, lo, r, w), (nx, lo, r, w))
  | _ => none
section BMR
variable {K : bm_K} {pg : bm_Pg} {mi : bm_Mi} {cc : ByteArray} {nL : Nat} {own nm : String} {ret : Option FieldType} {pc : Nat}
/-- a walk that leaves heap and world alone, from (lo, st) at pc to t -/
def bm_Go (K : bm_K) (cc : ByteArray) (nL : Nat) (own nm : String) (ret : Option FieldType) (pc : Nat) (lo : bm_L) (st : List bm_V) (t : Nat × bm_L × List bm_V) : Prop :=
  ∀ (D : bm_D) (b0 mc ms d : Nat) (p : Program) (l : Launch) (e : Env) (R : Room) (s : State) (m : MethodId) (args : Array Value) (below : List Frame) (meth : Method) (c : Code) (H : Heap) (locs : List Loc) (cells slots : Nat) (Q : State → Prop) (ls : Array Slot),
    bm_Cx K D b0 mc ms d p l R s m args meth c cc nL own nm ret → va_S (bm_A b0) s.heap H locs → lv_has ls nL (bm_lv D 0 lo) →
    (∀ ls' : Array Slot, lv_has ls' nL (bm_lv D 0 t.2.1) → W p l e R s m args below meth c H locs cells slots Q (F0 m t.1 ls' (t.2.2.map (bm_val D)))) → W p l e R s m args below meth c H locs cells slots Q (F0 m pc ls (st.map (bm_val D)))
theorem bm_Sn.still {f : bm_L → List bm_V → bm_W → Option bm_S}
    (h : ∀ lo st w t, f lo st w = some t → t.2.2.2 = w ∧ (lo.length = nL → bm_InLo lo → bm_InSt st → (t.2.1.length = nL ∧ bm_InLo t.2.1 ∧ bm_InSt t.2.2.1) ∧ bm_Go K cc nL own nm ret pc lo st (t.1, t.2.1, t.2.2.1))) : bm_Sn K pg mi cc nL own nm ret pc (bm_P f) := by
  refine ⟨fun lo st w t e => by rw [(h lo st w t e).1]; exact bm_le.rf, ?_⟩
  intro D b0 mc ms d p l e R s m args below meth c w0 F hCx hCon hS hF lo st w hex
  simp only [bm_exe] at hex
  cases e2 : f lo st w with
  | none => rw [e2] at hex; exact hex.elim
  | some t =>
    rw [e2] at hex
    obtain ⟨hw, hgo⟩ := h lo st w t e2
    obtain ⟨pc', lo', st', w'⟩ := t
    dsimp only at hw hgo
    subst hw
    refine ⟨hex.1, fun H locs ls g1 g2 g3 g4 g5 g6 g7 => ?_⟩
    obtain ⟨⟨i1, i2, i3⟩, hgo⟩ := hgo g1 g2 g3
    exact hgo D b0 mc ms d p l e R s m args below meth c H locs _ _ _ ls hCx g5 g6 (fun ls' hl' => hex.2 H locs ls' i1 i2 i3 g4 g5 hl' g7)
theorem bm_Sn.stillG {f : bm_L → List bm_V → bm_W → Option (Prop × bm_S)}
    (h : ∀ lo st w g t, f lo st w = some (g, t) → t.2.2.2 = w ∧ (g → lo.length = nL → bm_InLo lo → bm_InSt st → (t.2.1.length = nL ∧ bm_InLo t.2.1 ∧ bm_InSt t.2.2.1) ∧ bm_Go K cc nL own nm ret pc lo st (t.1, t.2.1, t.2.2.1))) : bm_Sn K pg mi cc nL own nm ret pc (bm_G f) := by
  refine ⟨fun lo st w g t e _ => by rw [(h lo st w g t e).1]; exact bm_le.rf, ?_⟩
  intro D b0 mc ms d p l e R s m args below meth c w0 F hCx hCon hS hF lo st w hex
  simp only [bm_exe] at hex
  cases e2 : f lo st w with
  | none => rw [e2] at hex; exact hex.elim
  | some t =>
    rw [e2] at hex
    obtain ⟨g, pc', lo', st', w'⟩ := t
    obtain ⟨hw, hgo⟩ := h lo st w _ _ e2
    dsimp only at hw hgo
    subst hw
    obtain ⟨hg, hex⟩ := hex
    refine ⟨hex.1, fun H locs ls g1 g2 g3 g4 g5 g6 g7 => ?_⟩
    obtain ⟨⟨i1, i2, i3⟩, hgo⟩ := hgo hg g1 g2 g3
    exact hgo D b0 mc ms d p l e R s m args below meth c H locs _ _ _ ls hCx g5 g6 (fun ls' hl' => hex.2 H locs ls' i1 i2 i3 g4 g5 hl' g7)
/-- a branch -/
def bm_Br (K : bm_K) (cc : ByteArray) (nL : Nat) (own nm : String) (ret : Option FieldType) (pc : Nat) (st : List bm_V) (b : Bool) (tg nx : Nat) (st' : List bm_V) : Prop :=
  ∀ (D : bm_D) (b0 mc ms d : Nat) (p : Program) (l : Launch) (e : Env) (R : Room) (s : State) (m : MethodId) (args : Array Value) (below : List Frame) (meth : Method) (c : Code) (H : Heap) (locs : List Loc) (cells slots : Nat) (Q : State → Prop) (ls : Array Slot),
    bm_Cx K D b0 mc ms d p l R s m args meth c cc nL own nm ret → 
    (b = true → W p l e R s m args below meth c H locs cells slots Q (F0 m tg ls (st'.map (bm_val D)))) → (b = false → W p l e R s m args below meth c H locs cells slots Q (F0 m nx ls (st'.map (bm_val D)))) → W p l e R s m args below meth c H locs cells slots Q (F0 m pc ls (st.map (bm_val D)))
theorem bm_Sn.stillB {f : bm_L → List bm_V → bm_W → Option (Bool × bm_S × bm_S)} (tg nx : Nat)
    (h : ∀ lo st w b t u, f lo st w = some (b, t, u) → ∃ st', t = (tg, lo, st', w) ∧ u = (nx, lo, st', w) ∧ (bm_InSt st → bm_InSt st' ∧ bm_Br K cc nL own nm ret pc st b tg nx st')) : bm_Sn K pg mi cc nL own nm ret pc (bm_B f) := by
  refine ⟨fun lo st w b t u e => by obtain ⟨st', rfl, rfl, -⟩ := h lo st w b t u e; exact ⟨bm_le.rf, bm_le.rf⟩, ?_⟩
  intro D b0 mc ms d p l e R s m args below meth c w0 F hCx hCon hS hF lo st w hex
  simp only [bm_exe] at hex
  cases e2 : f lo st w with
  | none => rw [e2] at hex; exact hex.elim
  | some t =>
    rw [e2] at hex
    obtain ⟨b, t, u⟩ := t
    obtain ⟨st', rfl, rfl, hgo⟩ := h lo st w _ _ _ e2
    cases b with
    | true =>
      refine ⟨hex.1, fun H locs ls g1 g2 g3 g4 g5 g6 g7 => ?_⟩
      obtain ⟨i3, hgo⟩ := hgo g3
      exact hgo D b0 mc ms d p l e R s m args below meth c H locs _ _ _ ls hCx (fun _ => hex.2 H locs ls g1 g2 i3 g4 g5 g6 g7) (fun z => by cases z)
    | false =>
      refine ⟨hex.1, fun H locs ls g1 g2 g3 g4 g5 g6 g7 => ?_⟩
      obtain ⟨i3, hgo⟩ := hgo g3
      exact hgo D b0 mc ms d p l e R s m args below meth c H locs _ _ _ ls hCx (fun z => by cases z) (fun _ => hex.2 H locs ls g1 g2 i3 g4 g5 g6 g7)
theorem bm_s_iconst {n : Int} (nx : Nat) (hdg : decode cc pc = .ok (.iconst n, 1)) (hv : bm_InI n) (hn : nx = pc + 1 := by rfl) : bm_Sn K pg mi cc nL own nm ret pc (bm_P (bm_oK (.inl n) nx)) := by
  subst hn
  refine bm_Sn.still (fun lo st w t he => ?_)
  simp only [bm_oK, Option.some.injEq] at he
  subst he
  refine ⟨rfl, fun h1 h2 h3 => ⟨⟨h1, h2, bm_InSt.cons (hv) h3⟩, ?_⟩⟩
  intro D b0 mc ms d p l e R s m args below meth c H locs cells slots Q ls hCx hS hl k
  obtain ⟨hx, hb, -⟩ := hCx
  exact lv_iconst hx hb hdg rfl (k ls hl)
theorem bm_s_bipush {n : Int} (nx : Nat) (hdg : decode cc pc = .ok (.bipush n, 2)) (hv : (Int8.ofInt n).toInt32 = Int32.ofInt n ∧ bm_InI n) (hn : nx = pc + 2 := by rfl) : bm_Sn K pg mi cc nL own nm ret pc (bm_P (bm_oK (.inl n) nx)) := by
  subst hn
  refine bm_Sn.still (fun lo st w t he => ?_)
  simp only [bm_oK, Option.some.injEq] at he
  subst he
  refine ⟨rfl, fun h1 h2 h3 => ⟨⟨h1, h2, bm_InSt.cons (hv.2) h3⟩, ?_⟩⟩
  intro D b0 mc ms d p l e R s m args below meth c H locs cells slots Q ls hCx hS hl k
  obtain ⟨hx, hb, -⟩ := hCx
  exact lv_bipush hx hb hdg hv.1 (k ls hl)
theorem bm_s_sipush {n : Int} (nx : Nat) (hdg : decode cc pc = .ok (.sipush n, 3)) (hv : (Int16.ofInt n).toInt32 = Int32.ofInt n ∧ bm_InI n) (hn : nx = pc + 3 := by rfl) : bm_Sn K pg mi cc nL own nm ret pc (bm_P (bm_oK (.inl n) nx)) := by
  subst hn
  refine bm_Sn.still (fun lo st w t he => ?_)
  simp only [bm_oK, Option.some.injEq] at he
  subst he
  refine ⟨rfl, fun h1 h2 h3 => ⟨⟨h1, h2, bm_InSt.cons (hv.2) h3⟩, ?_⟩⟩
  intro D b0 mc ms d p l e R s m args below meth c H locs cells slots Q ls hCx hS hl k
  obtain ⟨hx, hb, -⟩ := hCx
  exact lv_sipush hx hb hdg hv.1 (k ls hl)
theorem bm_s_lconst {n : Fin 2} {z : Int} (nx : Nat) (hdg : decode cc pc = .ok (.lconst n, 1)) (hv : Int64.ofNat (n : Nat) = Int64.ofInt z ∧ bm_InL z) (hn : nx = pc + 1 := by rfl) : bm_Sn K pg mi cc nL own nm ret pc (bm_P (bm_oK (.inr (.inl z)) nx)) := by
  subst hn
  refine bm_Sn.still (fun lo st w t he => ?_)
  simp only [bm_oK, Option.some.injEq] at he
  subst he
  refine ⟨rfl, fun h1 h2 h3 => ⟨⟨h1, h2, bm_InSt.cons (hv.2) h3⟩, ?_⟩⟩
  intro D b0 mc ms d p l e R s m args below meth c H locs cells slots Q ls hCx hS hl k
  obtain ⟨hx, hb, -⟩ := hCx
  exact lv_lconst hx hb hdg hv.1 (k ls hl)
theorem bm_s_null  (nx : Nat) (hdg : decode cc pc = .ok (.aconst_null, 1)) (hn : nx = pc + 1 := by rfl) : bm_Sn K pg mi cc nL own nm ret pc (bm_P (bm_oK (.inr (.inr (.inl none))) nx)) := by
  subst hn
  refine bm_Sn.still (fun lo st w t he => ?_)
  simp only [bm_oK, Option.some.injEq] at he
  subst he
  refine ⟨rfl, fun h1 h2 h3 => ⟨⟨h1, h2, bm_InSt.cons (trivial) h3⟩, ?_⟩⟩
  intro D b0 mc ms d p l e R s m args below meth c H locs cells slots Q ls hCx hS hl k
  obtain ⟨hx, hb, -⟩ := hCx
  exact lv_null hx hb hdg (k ls hl)
theorem bm_s_iload_n {k : Fin 4} {i : Nat} (nx : Nat) (hdg : decode cc pc = .ok (.iload_n k, 1)) (hi0 : (k : Nat) = i) (hn : nx = pc + 1 := by rfl) : bm_Sn K pg mi cc nL own nm ret pc (bm_P (bm_oLi i nx)) := by
  subst hn
  refine bm_Sn.still (fun lo st w t he => ?_)
  unfold bm_oLi at he
  split at he
  · rename_i x hi
    cases he
    refine ⟨rfl, fun h1 h2 h3 => ⟨⟨h1, h2, bm_InSt.cons (h2 _ (bm_nth_mem _ _ _ hi)) h3⟩, ?_⟩⟩
    intro D b0 mc ms d p l e R s m args below meth c H locs cells slots Q ls hCx hS hl k
    obtain ⟨hx, hb, -⟩ := hCx
    exact lv_iload_n hx hb hdg hi0 (bm_at hl hi) (k ls hl)
  · cases he
theorem bm_s_iload {i : Nat} (nx : Nat) (hdg : decode cc pc = .ok (.iload i, 2)) (hn : nx = pc + 2 := by rfl) : bm_Sn K pg mi cc nL own nm ret pc (bm_P (bm_oLi i nx)) := by
  subst hn
  refine bm_Sn.still (fun lo st w t he => ?_)
  unfold bm_oLi at he
  split at he
  · rename_i x hi
    cases he
    refine ⟨rfl, fun h1 h2 h3 => ⟨⟨h1, h2, bm_InSt.cons (h2 _ (bm_nth_mem _ _ _ hi)) h3⟩, ?_⟩⟩
    intro D b0 mc ms d p l e R s m args below meth c H locs cells slots Q ls hCx hS hl k
    obtain ⟨hx, hb, -⟩ := hCx
    exact lv_iload hx hb hdg (bm_at hl hi) (k ls hl)
  · cases he
theorem bm_s_lload_n {k : Fin 4} {i : Nat} (nx : Nat) (hdg : decode cc pc = .ok (.lload_n k, 1)) (hi0 : (k : Nat) = i) (hn : nx = pc + 1 := by rfl) : bm_Sn K pg mi cc nL own nm ret pc (bm_P (bm_oLl i nx)) := by
  subst hn
  refine bm_Sn.still (fun lo st w t he => ?_)
  unfold bm_oLl at he
  split at he
  · rename_i x hi
    cases he
    refine ⟨rfl, fun h1 h2 h3 => ⟨⟨h1, h2, bm_InSt.cons (h2 _ (bm_nth_mem _ _ _ hi)) h3⟩, ?_⟩⟩
    intro D b0 mc ms d p l e R s m args below meth c H locs cells slots Q ls hCx hS hl k
    obtain ⟨hx, hb, -⟩ := hCx
    exact lv_lload_n hx hb hdg hi0 (bm_at hl hi) (k ls hl)
  · cases he
theorem bm_s_lload {i : Nat} (nx : Nat) (hdg : decode cc pc = .ok (.lload i, 2)) (hn : nx = pc + 2 := by rfl) : bm_Sn K pg mi cc nL own nm ret pc (bm_P (bm_oLl i nx)) := by
  subst hn
  refine bm_Sn.still (fun lo st w t he => ?_)
  unfold bm_oLl at he
  split at he
  · rename_i x hi
    cases he
    refine ⟨rfl, fun h1 h2 h3 => ⟨⟨h1, h2, bm_InSt.cons (h2 _ (bm_nth_mem _ _ _ hi)) h3⟩, ?_⟩⟩
    intro D b0 mc ms d p l e R s m args below meth c H locs cells slots Q ls hCx hS hl k
    obtain ⟨hx, hb, -⟩ := hCx
    exact lv_lload hx hb hdg (bm_at hl hi) (k ls hl)
  · cases he
theorem bm_s_aload_n {k : Fin 4} {i : Nat} (nx : Nat) (hdg : decode cc pc = .ok (.aload_n k, 1)) (hi0 : (k : Nat) = i) (hn : nx = pc + 1 := by rfl) : bm_Sn K pg mi cc nL own nm ret pc (bm_P (bm_oLa i nx)) := by
  subst hn
  refine bm_Sn.still (fun lo st w t he => ?_)
  unfold bm_oLa at he
  split at he
  · rename_i x hi
    cases he
    refine ⟨rfl, fun h1 h2 h3 => ⟨⟨h1, h2, bm_InSt.cons (h2 _ (bm_nth_mem _ _ _ hi)) h3⟩, ?_⟩⟩
    intro D b0 mc ms d p l e R s m args below meth c H locs cells slots Q ls hCx hS hl k
    obtain ⟨hx, hb, -⟩ := hCx
    cases x with
    | none => exact lv_aload_nN hx hb hdg hi0 (bm_at hl hi) (k ls hl)
    | some x => exact lv_aload_n hx hb hdg hi0 (bm_at hl hi) (k ls hl)
  · rename_i x hi
    cases he
    refine ⟨rfl, fun h1 h2 h3 => ⟨⟨h1, h2, bm_InSt.cons (h2 _ (bm_nth_mem _ _ _ hi)) h3⟩, ?_⟩⟩
    intro D b0 mc ms d p l e R s m args below meth c H locs cells slots Q ls hCx hS hl k
    obtain ⟨hx, hb, -⟩ := hCx
    have ha : ls[i]? = some (.val (bm_kv D x)) := bm_at hl hi
    have hk : W p l e R s m args below meth c H locs cells slots Q (F0 m (pc + 1) ls (bm_kv D x :: st.map (bm_val D))) := k ls hl
    rcases bm_kv_or D x with z | ⟨y, z⟩
    · rw [z] at ha hk
      exact lv_aload_nN hx hb hdg hi0 ha hk
    · rw [z] at ha hk
      exact lv_aload_n hx hb hdg hi0 ha hk
  · cases he
theorem bm_s_aload {i : Nat} (nx : Nat) (hdg : decode cc pc = .ok (.aload i, 2)) (hn : nx = pc + 2 := by rfl) : bm_Sn K pg mi cc nL own nm ret pc (bm_P (bm_oLa i nx)) := by
  subst hn
  refine bm_Sn.still (fun lo st w t he => ?_)
  unfold bm_oLa at he
  split at he
  · rename_i x hi
    cases he
    refine ⟨rfl, fun h1 h2 h3 => ⟨⟨h1, h2, bm_InSt.cons (h2 _ (bm_nth_mem _ _ _ hi)) h3⟩, ?_⟩⟩
    intro D b0 mc ms d p l e R s m args below meth c H locs cells slots Q ls hCx hS hl k
    obtain ⟨hx, hb, -⟩ := hCx
    cases x with
    | none => exact lv_aloadN hx hb hdg (bm_at hl hi) (k ls hl)
    | some x => exact lv_aload hx hb hdg (bm_at hl hi) (k ls hl)
  · rename_i x hi
    cases he
    refine ⟨rfl, fun h1 h2 h3 => ⟨⟨h1, h2, bm_InSt.cons (h2 _ (bm_nth_mem _ _ _ hi)) h3⟩, ?_⟩⟩
    intro D b0 mc ms d p l e R s m args below meth c H locs cells slots Q ls hCx hS hl k
    obtain ⟨hx, hb, -⟩ := hCx
    have ha : ls[i]? = some (.val (bm_kv D x)) := bm_at hl hi
    have hk : W p l e R s m args below meth c H locs cells slots Q (F0 m (pc + 2) ls (bm_kv D x :: st.map (bm_val D))) := k ls hl
    rcases bm_kv_or D x with z | ⟨y, z⟩
    · rw [z] at ha hk
      exact lv_aloadN hx hb hdg ha hk
    · rw [z] at ha hk
      exact lv_aload hx hb hdg ha hk
  · cases he
theorem bm_s_istore_n {k : Fin 4} {i : Nat} (nx : Nat) (hdg : decode cc pc = .ok (.istore_n k, 1)) (hi0 : (k : Nat) = i) (hn : nx = pc + 1 := by rfl) : bm_Sn K pg mi cc nL own nm ret pc (bm_P (bm_oSi i nx)) := by
  subst hn
  refine bm_Sn.still (fun lo st w t he => ?_)
  unfold bm_oSi at he
  split at he
  · rename_i x r
    split at he
    · rename_i hlt
      cases he
      refine ⟨rfl, fun h1 h2 h3 => ⟨⟨(bm_st1_len _ _ _).trans h1, fun v hv => (bm_st1_in _ _ _ _ hv).elim (fun z => by rw [z]; exact h3.hd) (h2 v), h3.tl⟩, ?_⟩⟩
      intro D b0 mc ms d p l e R s m args below meth c H locs cells slots Q ls hCx hS hl k
      obtain ⟨hx, hb, -⟩ := hCx
      have hlt2 : i < nL := by have := Nat.blt_eq.mp hlt; omega
      exact lv_istore_n hx hb hdg hi0 hl hlt2 rfl (fun ls2 hl2 => k ls2 (bm_has1 hl2))
    · cases he
  · cases he
theorem bm_s_istore {i : Nat} (nx : Nat) (hdg : decode cc pc = .ok (.istore i, 2)) (hn : nx = pc + 2 := by rfl) : bm_Sn K pg mi cc nL own nm ret pc (bm_P (bm_oSi i nx)) := by
  subst hn
  refine bm_Sn.still (fun lo st w t he => ?_)
  unfold bm_oSi at he
  split at he
  · rename_i x r
    split at he
    · rename_i hlt
      cases he
      refine ⟨rfl, fun h1 h2 h3 => ⟨⟨(bm_st1_len _ _ _).trans h1, fun v hv => (bm_st1_in _ _ _ _ hv).elim (fun z => by rw [z]; exact h3.hd) (h2 v), h3.tl⟩, ?_⟩⟩
      intro D b0 mc ms d p l e R s m args below meth c H locs cells slots Q ls hCx hS hl k
      obtain ⟨hx, hb, -⟩ := hCx
      have hlt2 : i < nL := by have := Nat.blt_eq.mp hlt; omega
      exact lv_istore hx hb hdg hl hlt2 rfl (fun ls2 hl2 => k ls2 (bm_has1 hl2))
    · cases he
  · cases he
theorem bm_s_lstore_n {k : Fin 4} {i : Nat} (nx : Nat) (hdg : decode cc pc = .ok (.lstore_n k, 1)) (hi0 : (k : Nat) = i) (hn : nx = pc + 1 := by rfl) : bm_Sn K pg mi cc nL own nm ret pc (bm_P (bm_oSl i nx)) := by
  subst hn
  refine bm_Sn.still (fun lo st w t he => ?_)
  unfold bm_oSl at he
  split at he
  · rename_i x r
    split at he
    · rename_i hlt
      cases he
      refine ⟨rfl, fun h1 h2 h3 => ⟨⟨(bm_st2_len _ _ _).trans h1, fun v hv => (bm_st2_in _ _ _ _ hv).elim (fun z => by rw [z]; exact h3.hd) (h2 v), h3.tl⟩, ?_⟩⟩
      intro D b0 mc ms d p l e R s m args below meth c H locs cells slots Q ls hCx hS hl k
      obtain ⟨hx, hb, -⟩ := hCx
      have hlt2 : i + 1 < nL := by have := Nat.blt_eq.mp hlt; omega
      exact lv_lstore_n hx hb hdg hi0 hl hlt2 rfl (fun ls2 hl2 => k ls2 (bm_has2 hl2))
    · cases he
  · cases he
theorem bm_s_lstore {i : Nat} (nx : Nat) (hdg : decode cc pc = .ok (.lstore i, 2)) (hn : nx = pc + 2 := by rfl) : bm_Sn K pg mi cc nL own nm ret pc (bm_P (bm_oSl i nx)) := by
  subst hn
  refine bm_Sn.still (fun lo st w t he => ?_)
  unfold bm_oSl at he
  split at he
  · rename_i x r
    split at he
    · rename_i hlt
      cases he
      refine ⟨rfl, fun h1 h2 h3 => ⟨⟨(bm_st2_len _ _ _).trans h1, fun v hv => (bm_st2_in _ _ _ _ hv).elim (fun z => by rw [z]; exact h3.hd) (h2 v), h3.tl⟩, ?_⟩⟩
      intro D b0 mc ms d p l e R s m args below meth c H locs cells slots Q ls hCx hS hl k
      obtain ⟨hx, hb, -⟩ := hCx
      have hlt2 : i + 1 < nL := by have := Nat.blt_eq.mp hlt; omega
      exact lv_lstore hx hb hdg hl hlt2 rfl (fun ls2 hl2 => k ls2 (bm_has2 hl2))
    · cases he
  · cases he
theorem bm_s_astore_n {k : Fin 4} {i : Nat} (nx : Nat) (hdg : decode cc pc = .ok (.astore_n k, 1)) (hi0 : (k : Nat) = i) (hn : nx = pc + 1 := by rfl) : bm_Sn K pg mi cc nL own nm ret pc (bm_P (bm_oSa i nx)) := by
  subst hn
  refine bm_Sn.still (fun lo st w t he => ?_)
  unfold bm_oSa at he
  split at he
  · rename_i x r
    split at he
    · rename_i hlt
      cases he
      refine ⟨rfl, fun h1 h2 h3 => ⟨⟨(bm_st1_len _ _ _).trans h1, fun v hv => (bm_st1_in _ _ _ _ hv).elim (fun z => by rw [z]; exact h3.hd) (h2 v), h3.tl⟩, ?_⟩⟩
      intro D b0 mc ms d p l e R s m args below meth c H locs cells slots Q ls hCx hS hl k
      obtain ⟨hx, hb, -⟩ := hCx
      have hlt2 : i < nL := by have := Nat.blt_eq.mp hlt; omega
      cases x with
      | none => exact lv_astore_nN hx hb hdg hi0 hl hlt2 rfl (fun ls2 hl2 => k ls2 (bm_has1 hl2))
      | some x => exact lv_astore_n hx hb hdg hi0 hl hlt2 rfl (fun ls2 hl2 => k ls2 (bm_has1 hl2))
    · cases he
  · rename_i x r
    split at he
    · rename_i hlt
      cases he
      refine ⟨rfl, fun h1 h2 h3 => ⟨⟨(bm_st1_len _ _ _).trans h1, fun v hv => (bm_st1_in _ _ _ _ hv).elim (fun z => by rw [z]; exact h3.hd) (h2 v), h3.tl⟩, ?_⟩⟩
      intro D b0 mc ms d p l e R s m args below meth c H locs cells slots Q ls hCx hS hl k
      obtain ⟨hx, hb, -⟩ := hCx
      have hlt2 : i < nL := by have := Nat.blt_eq.mp hlt; omega
      show W p l e R s m args below meth c H locs cells slots Q (F0 m pc ls (bm_kv D x :: r.map (bm_val D)))
      have hk : ∀ ls2, lv_has ls2 nL ((i, bm_kv D x) :: (bm_lv D 0 lo).filter (fun q => !(q.1 == i) && !(q.1 + 1 == i && q.2.category == 2))) → _ := fun ls2 hl2 => k ls2 (bm_has1 hl2)
      rcases bm_kv_or D x with z | ⟨y, z⟩
      · rw [z] at hk ⊢
        exact lv_astore_nN hx hb hdg hi0 hl hlt2 rfl hk
      · rw [z] at hk ⊢
        exact lv_astore_n hx hb hdg hi0 hl hlt2 rfl hk
    · cases he
  · cases he
theorem bm_s_astore {i : Nat} (nx : Nat) (hdg : decode cc pc = .ok (.astore i, 2)) (hn : nx = pc + 2 := by rfl) : bm_Sn K pg mi cc nL own nm ret pc (bm_P (bm_oSa i nx)) := by
  subst hn
  refine bm_Sn.still (fun lo st w t he => ?_)
  unfold bm_oSa at he
  split at he
  · rename_i x r
    split at he
    · rename_i hlt
      cases he
      refine ⟨rfl, fun h1 h2 h3 => ⟨⟨(bm_st1_len _ _ _).trans h1, fun v hv => (bm_st1_in _ _ _ _ hv).elim (fun z => by rw [z]; exact h3.hd) (h2 v), h3.tl⟩, ?_⟩⟩
      intro D b0 mc ms d p l e R s m args below meth c H locs cells slots Q ls hCx hS hl k
      obtain ⟨hx, hb, -⟩ := hCx
      have hlt2 : i < nL := by have := Nat.blt_eq.mp hlt; omega
      cases x with
      | none => exact lv_astoreN hx hb hdg hl hlt2 rfl (fun ls2 hl2 => k ls2 (bm_has1 hl2))
      | some x => exact lv_astore hx hb hdg hl hlt2 rfl (fun ls2 hl2 => k ls2 (bm_has1 hl2))
    · cases he
  · rename_i x r
    split at he
    · rename_i hlt
      cases he
      refine ⟨rfl, fun h1 h2 h3 => ⟨⟨(bm_st1_len _ _ _).trans h1, fun v hv => (bm_st1_in _ _ _ _ hv).elim (fun z => by rw [z]; exact h3.hd) (h2 v), h3.tl⟩, ?_⟩⟩
      intro D b0 mc ms d p l e R s m args below meth c H locs cells slots Q ls hCx hS hl k
      obtain ⟨hx, hb, -⟩ := hCx
      have hlt2 : i < nL := by have := Nat.blt_eq.mp hlt; omega
      show W p l e R s m args below meth c H locs cells slots Q (F0 m pc ls (bm_kv D x :: r.map (bm_val D)))
      have hk : ∀ ls2, lv_has ls2 nL ((i, bm_kv D x) :: (bm_lv D 0 lo).filter (fun q => !(q.1 == i) && !(q.1 + 1 == i && q.2.category == 2))) → _ := fun ls2 hl2 => k ls2 (bm_has1 hl2)
      rcases bm_kv_or D x with z | ⟨y, z⟩
      · rw [z] at hk ⊢
        exact lv_astoreN hx hb hdg hl hlt2 rfl hk
      · rw [z] at hk ⊢
        exact lv_astore hx hb hdg hl hlt2 rfl hk
    · cases he
  · cases he
theorem bm_nth_lt {α : Type} : ∀ (l : List α) (i : Nat) (v : α), bm_nth l i = some v → i < l.length
  | [], i, v, h => by simp [bm_nth] at h
  | a :: l, 0, v, h => Nat.zero_lt_succ _
  | a :: l, i + 1, v, h => Nat.succ_lt_succ (bm_nth_lt l i v h)
theorem bm_lv_pos (D : bm_D) : ∀ (l : bm_L) (i j : Nat) (v : bm_V), bm_nth l i = some (some v) → ∃ k : Nat, (bm_lv D j l)[k]? = some (j + i, bm_val D v) := fun l i j v h => List.getElem?_of_mem (bm_nth_lv D l i j v h)
theorem bm_s_iinc {i : Nat} {n : Int} (nx : Nat) (hdg : decode cc pc = .ok (.iinc i n, 3)) (hn : nx = pc + 3 := by rfl) : bm_Sn K pg mi cc nL own nm ret pc (bm_P (bm_oInc i n nx)) := by
  subst hn
  refine bm_Sn.still (fun lo st w t he => ?_)
  unfold bm_oInc at he
  split at he
  · rename_i x hi
    cases he
    refine ⟨rfl, fun h1 h2 h3 => ⟨⟨(bm_st1_len _ _ _).trans h1, fun v hv => (bm_st1_in _ _ _ _ hv).elim (fun z => by rw [z]; exact bm_w_in _) (h2 v), h3⟩, ?_⟩⟩
    intro D b0 mc ms d p l e R s m args below meth c H locs cells slots Q ls hCx hS hl k
    obtain ⟨hx, hb, -⟩ := hCx
    obtain ⟨q, hq⟩ := bm_lv_pos D lo i 0 _ hi
    rw [Nat.zero_add] at hq
    exact lv_iinc hx hb hdg hl hq (by rw [← Int32.ofInt_add, ← bm_ofI]) (by have := bm_nth_lt _ _ _ hi; omega) rfl (fun ls2 hl2 => k ls2 (bm_has1 hl2))
  · cases he
theorem bm_s_iadd (nx : Nat) (hdg : decode cc pc = .ok (.iadd, 1)) (hn : nx = pc + 1 := by rfl) : bm_Sn K pg mi cc nL own nm ret pc (bm_P (bm_o2 (fun x y => bm_w (x + y)) nx)) := by
  subst hn
  refine bm_Sn.still (fun lo st w t he => ?_)
  unfold bm_o2 at he
  split at he
  · rename_i y x r
    cases he
    refine ⟨rfl, fun h1 h2 h3 => ⟨⟨h1, h2, bm_InSt.cons (bm_w_in _) h3.tl.tl⟩, ?_⟩⟩
    intro D b0 mc ms d p l e R s m args below meth c H locs cells slots Q ls hCx hS hl k
    obtain ⟨hx, hb, -⟩ := hCx
    have kk := k ls hl
    exact lv_iadd hx hb hdg (by simpa only [List.map_cons, bm_val, bm_ofI, Int32.ofInt_add] using kk)
  · cases he
theorem bm_s_isub (nx : Nat) (hdg : decode cc pc = .ok (.isub, 1)) (hn : nx = pc + 1 := by rfl) : bm_Sn K pg mi cc nL own nm ret pc (bm_P (bm_o2 (fun x y => bm_w (x - y)) nx)) := by
  subst hn
  refine bm_Sn.still (fun lo st w t he => ?_)
  unfold bm_o2 at he
  split at he
  · rename_i y x r
    cases he
    refine ⟨rfl, fun h1 h2 h3 => ⟨⟨h1, h2, bm_InSt.cons (bm_w_in _) h3.tl.tl⟩, ?_⟩⟩
    intro D b0 mc ms d p l e R s m args below meth c H locs cells slots Q ls hCx hS hl k
    obtain ⟨hx, hb, -⟩ := hCx
    have kk := k ls hl
    exact lv_isub hx hb hdg (by simpa only [List.map_cons, bm_val, bm_ofI, Int32.ofInt_sub] using kk)
  · cases he
theorem bm_s_imul (nx : Nat) (hdg : decode cc pc = .ok (.imul, 1)) (hn : nx = pc + 1 := by rfl) : bm_Sn K pg mi cc nL own nm ret pc (bm_P (bm_o2 (fun x y => bm_w (x * y)) nx)) := by
  subst hn
  refine bm_Sn.still (fun lo st w t he => ?_)
  unfold bm_o2 at he
  split at he
  · rename_i y x r
    cases he
    refine ⟨rfl, fun h1 h2 h3 => ⟨⟨h1, h2, bm_InSt.cons (bm_w_in _) h3.tl.tl⟩, ?_⟩⟩
    intro D b0 mc ms d p l e R s m args below meth c H locs cells slots Q ls hCx hS hl k
    obtain ⟨hx, hb, -⟩ := hCx
    have kk := k ls hl
    exact lv_imul hx hb hdg (by simpa only [List.map_cons, bm_val, bm_ofI, Int32.ofInt_mul] using kk)
  · cases he
theorem bm_s_ladd (nx : Nat) (hdg : decode cc pc = .ok (.ladd, 1)) (hn : nx = pc + 1 := by rfl) : bm_Sn K pg mi cc nL own nm ret pc (bm_P (bm_o2l (fun x y => bm_x (x + y)) nx)) := by
  subst hn
  refine bm_Sn.still (fun lo st w t he => ?_)
  unfold bm_o2l at he
  split at he
  · rename_i y x r
    cases he
    refine ⟨rfl, fun h1 h2 h3 => ⟨⟨h1, h2, bm_InSt.cons (bm_x_in _) h3.tl.tl⟩, ?_⟩⟩
    intro D b0 mc ms d p l e R s m args below meth c H locs cells slots Q ls hCx hS hl k
    obtain ⟨hx, hb, -⟩ := hCx
    have kk := k ls hl
    exact lv_ladd hx hb hdg (by simpa only [List.map_cons, bm_val, bm_ofL, Int64.ofInt_add] using kk)
  · cases he
theorem bm_s_lsub (nx : Nat) (hdg : decode cc pc = .ok (.lsub, 1)) (hn : nx = pc + 1 := by rfl) : bm_Sn K pg mi cc nL own nm ret pc (bm_P (bm_o2l (fun x y => bm_x (x - y)) nx)) := by
  subst hn
  refine bm_Sn.still (fun lo st w t he => ?_)
  unfold bm_o2l at he
  split at he
  · rename_i y x r
    cases he
    refine ⟨rfl, fun h1 h2 h3 => ⟨⟨h1, h2, bm_InSt.cons (bm_x_in _) h3.tl.tl⟩, ?_⟩⟩
    intro D b0 mc ms d p l e R s m args below meth c H locs cells slots Q ls hCx hS hl k
    obtain ⟨hx, hb, -⟩ := hCx
    have kk := k ls hl
    exact lv_lsub hx hb hdg (by simpa only [List.map_cons, bm_val, bm_ofL, Int64.ofInt_sub] using kk)
  · cases he
theorem bm_s_lmul (nx : Nat) (hdg : decode cc pc = .ok (.lmul, 1)) (hn : nx = pc + 1 := by rfl) : bm_Sn K pg mi cc nL own nm ret pc (bm_P (bm_o2l (fun x y => bm_x (x * y)) nx)) := by
  subst hn
  refine bm_Sn.still (fun lo st w t he => ?_)
  unfold bm_o2l at he
  split at he
  · rename_i y x r
    cases he
    refine ⟨rfl, fun h1 h2 h3 => ⟨⟨h1, h2, bm_InSt.cons (bm_x_in _) h3.tl.tl⟩, ?_⟩⟩
    intro D b0 mc ms d p l e R s m args below meth c H locs cells slots Q ls hCx hS hl k
    obtain ⟨hx, hb, -⟩ := hCx
    have kk := k ls hl
    exact lv_lmul hx hb hdg (by simpa only [List.map_cons, bm_val, bm_ofL, Int64.ofInt_mul] using kk)
  · cases he
theorem bm_s_iand (nx : Nat) (hdg : decode cc pc = .ok (.iand, 1)) (hn : nx = pc + 1 := by rfl) : bm_Sn K pg mi cc nL own nm ret pc (bm_P (bm_o2 (fun x y => (Int32.ofInt x &&& Int32.ofInt y).toInt) nx)) := by
  subst hn
  refine bm_Sn.still (fun lo st w t he => ?_)
  unfold bm_o2 at he
  split at he
  · rename_i y x r
    cases he
    refine ⟨rfl, fun h1 h2 h3 => ⟨⟨h1, h2, bm_InSt.cons (bm_I_in _) h3.tl.tl⟩, ?_⟩⟩
    intro D b0 mc ms d p l e R s m args below meth c H locs cells slots Q ls hCx hS hl k
    obtain ⟨hx, hb, -⟩ := hCx
    have kk := k ls hl
    exact lv_iand hx hb hdg (by simpa only [List.map_cons, bm_val, Int32.ofInt_toInt] using kk)
  · cases he
theorem bm_s_ior (nx : Nat) (hdg : decode cc pc = .ok (.ior, 1)) (hn : nx = pc + 1 := by rfl) : bm_Sn K pg mi cc nL own nm ret pc (bm_P (bm_o2 (fun x y => (Int32.ofInt x ||| Int32.ofInt y).toInt) nx)) := by
  subst hn
  refine bm_Sn.still (fun lo st w t he => ?_)
  unfold bm_o2 at he
  split at he
  · rename_i y x r
    cases he
    refine ⟨rfl, fun h1 h2 h3 => ⟨⟨h1, h2, bm_InSt.cons (bm_I_in _) h3.tl.tl⟩, ?_⟩⟩
    intro D b0 mc ms d p l e R s m args below meth c H locs cells slots Q ls hCx hS hl k
    obtain ⟨hx, hb, -⟩ := hCx
    have kk := k ls hl
    exact lv_ior hx hb hdg (by simpa only [List.map_cons, bm_val, Int32.ofInt_toInt] using kk)
  · cases he
theorem bm_s_ixor (nx : Nat) (hdg : decode cc pc = .ok (.ixor, 1)) (hn : nx = pc + 1 := by rfl) : bm_Sn K pg mi cc nL own nm ret pc (bm_P (bm_o2 (fun x y => (Int32.ofInt x ^^^ Int32.ofInt y).toInt) nx)) := by
  subst hn
  refine bm_Sn.still (fun lo st w t he => ?_)
  unfold bm_o2 at he
  split at he
  · rename_i y x r
    cases he
    refine ⟨rfl, fun h1 h2 h3 => ⟨⟨h1, h2, bm_InSt.cons (bm_I_in _) h3.tl.tl⟩, ?_⟩⟩
    intro D b0 mc ms d p l e R s m args below meth c H locs cells slots Q ls hCx hS hl k
    obtain ⟨hx, hb, -⟩ := hCx
    have kk := k ls hl
    exact lv_ixor hx hb hdg (by simpa only [List.map_cons, bm_val, Int32.ofInt_toInt] using kk)
  · cases he
theorem bm_s_land (nx : Nat) (hdg : decode cc pc = .ok (.land, 1)) (hn : nx = pc + 1 := by rfl) : bm_Sn K pg mi cc nL own nm ret pc (bm_P (bm_o2l (fun x y => (Int64.ofInt x &&& Int64.ofInt y).toInt) nx)) := by
  subst hn
  refine bm_Sn.still (fun lo st w t he => ?_)
  unfold bm_o2l at he
  split at he
  · rename_i y x r
    cases he
    refine ⟨rfl, fun h1 h2 h3 => ⟨⟨h1, h2, bm_InSt.cons (bm_L_in _) h3.tl.tl⟩, ?_⟩⟩
    intro D b0 mc ms d p l e R s m args below meth c H locs cells slots Q ls hCx hS hl k
    obtain ⟨hx, hb, -⟩ := hCx
    have kk := k ls hl
    exact lv_land hx hb hdg (by simpa only [List.map_cons, bm_val, Int64.ofInt_toInt] using kk)
  · cases he
theorem bm_s_lor (nx : Nat) (hdg : decode cc pc = .ok (.lor, 1)) (hn : nx = pc + 1 := by rfl) : bm_Sn K pg mi cc nL own nm ret pc (bm_P (bm_o2l (fun x y => (Int64.ofInt x ||| Int64.ofInt y).toInt) nx)) := by
  subst hn
  refine bm_Sn.still (fun lo st w t he => ?_)
  unfold bm_o2l at he
  split at he
  · rename_i y x r
    cases he
    refine ⟨rfl, fun h1 h2 h3 => ⟨⟨h1, h2, bm_InSt.cons (bm_L_in _) h3.tl.tl⟩, ?_⟩⟩
    intro D b0 mc ms d p l e R s m args below meth c H locs cells slots Q ls hCx hS hl k
    obtain ⟨hx, hb, -⟩ := hCx
    have kk := k ls hl
    exact lv_lor hx hb hdg (by simpa only [List.map_cons, bm_val, Int64.ofInt_toInt] using kk)
  · cases he
theorem bm_s_lxor (nx : Nat) (hdg : decode cc pc = .ok (.lxor, 1)) (hn : nx = pc + 1 := by rfl) : bm_Sn K pg mi cc nL own nm ret pc (bm_P (bm_o2l (fun x y => (Int64.ofInt x ^^^ Int64.ofInt y).toInt) nx)) := by
  subst hn
  refine bm_Sn.still (fun lo st w t he => ?_)
  unfold bm_o2l at he
  split at he
  · rename_i y x r
    cases he
    refine ⟨rfl, fun h1 h2 h3 => ⟨⟨h1, h2, bm_InSt.cons (bm_L_in _) h3.tl.tl⟩, ?_⟩⟩
    intro D b0 mc ms d p l e R s m args below meth c H locs cells slots Q ls hCx hS hl k
    obtain ⟨hx, hb, -⟩ := hCx
    have kk := k ls hl
    exact lv_lxor hx hb hdg (by simpa only [List.map_cons, bm_val, Int64.ofInt_toInt] using kk)
  · cases he
theorem bm_s_ishr (nx : Nat) (hdg : decode cc pc = .ok (.ishr, 1)) (hn : nx = pc + 1 := by rfl) : bm_Sn K pg mi cc nL own nm ret pc (bm_P (bm_o2 (fun x y => (Int32.ofInt x >>> (Int32.ofInt y &&& 31)).toInt) nx)) := by
  subst hn
  refine bm_Sn.still (fun lo st w t he => ?_)
  unfold bm_o2 at he
  split at he
  · rename_i y x r
    cases he
    refine ⟨rfl, fun h1 h2 h3 => ⟨⟨h1, h2, bm_InSt.cons (bm_I_in _) h3.tl.tl⟩, ?_⟩⟩
    intro D b0 mc ms d p l e R s m args below meth c H locs cells slots Q ls hCx hS hl k
    obtain ⟨hx, hb, -⟩ := hCx
    have kk := k ls hl
    exact lv_ishr hx hb hdg (by simpa only [List.map_cons, bm_val, Int32.ofInt_toInt] using kk)
  · cases he
theorem bm_s_ishl (nx : Nat) (hdg : decode cc pc = .ok (.ishl, 1)) (hn : nx = pc + 1 := by rfl) : bm_Sn K pg mi cc nL own nm ret pc (bm_P (bm_o2 (fun x y => (Int32.ofInt x <<< (Int32.ofInt y &&& 31)).toInt) nx)) := by
  subst hn
  refine bm_Sn.still (fun lo st w t he => ?_)
  unfold bm_o2 at he
  split at he
  · rename_i y x r
    cases he
    refine ⟨rfl, fun h1 h2 h3 => ⟨⟨h1, h2, bm_InSt.cons (bm_I_in _) h3.tl.tl⟩, ?_⟩⟩
    intro D b0 mc ms d p l e R s m args below meth c H locs cells slots Q ls hCx hS hl k
    obtain ⟨hx, hb, -⟩ := hCx
    have kk := k ls hl
    exact lv_ishl hx hb hdg (by simpa only [List.map_cons, bm_val, Int32.ofInt_toInt] using kk)
  · cases he
theorem bm_s_lshl (nx : Nat) (hdg : decode cc pc = .ok (.lshl, 1)) (hn : nx = pc + 1 := by rfl) : bm_Sn K pg mi cc nL own nm ret pc (bm_P (bm_o2s (fun x y => (Int64.ofInt x <<< ((Int32.ofInt y).toInt64 &&& 63)).toInt) nx)) := by
  subst hn
  refine bm_Sn.still (fun lo st w t he => ?_)
  unfold bm_o2s at he
  split at he
  · rename_i y x r
    cases he
    refine ⟨rfl, fun h1 h2 h3 => ⟨⟨h1, h2, bm_InSt.cons (bm_L_in _) h3.tl.tl⟩, ?_⟩⟩
    intro D b0 mc ms d p l e R s m args below meth c H locs cells slots Q ls hCx hS hl k
    obtain ⟨hx, hb, -⟩ := hCx
    have kk := k ls hl
    simp only [List.map_cons, bm_val, Int64.ofInt_toInt] at kk
    exact lv_lshl hx hb hdg rfl kk
  · cases he
theorem bm_s_lshr (nx : Nat) (hdg : decode cc pc = .ok (.lshr, 1)) (hn : nx = pc + 1 := by rfl) : bm_Sn K pg mi cc nL own nm ret pc (bm_P (bm_o2s (fun x y => (Int64.ofInt x >>> ((Int32.ofInt y).toInt64 &&& 63)).toInt) nx)) := by
  subst hn
  refine bm_Sn.still (fun lo st w t he => ?_)
  unfold bm_o2s at he
  split at he
  · rename_i y x r
    cases he
    refine ⟨rfl, fun h1 h2 h3 => ⟨⟨h1, h2, bm_InSt.cons (bm_L_in _) h3.tl.tl⟩, ?_⟩⟩
    intro D b0 mc ms d p l e R s m args below meth c H locs cells slots Q ls hCx hS hl k
    obtain ⟨hx, hb, -⟩ := hCx
    have kk := k ls hl
    simp only [List.map_cons, bm_val, Int64.ofInt_toInt] at kk
    exact lv_lshr hx hb hdg rfl kk
  · cases he
theorem bm_s_lushr (nx : Nat) (hdg : decode cc pc = .ok (.lushr, 1)) (hn : nx = pc + 1 := by rfl) : bm_Sn K pg mi cc nL own nm ret pc (bm_P (bm_o2s (fun x y => ((Int64.ofInt x).toUInt64 >>> ((Int32.ofInt y).toInt64.toUInt64 &&& Int64.toUInt64 63)).toInt64.toInt) nx)) := by
  subst hn
  refine bm_Sn.still (fun lo st w t he => ?_)
  unfold bm_o2s at he
  split at he
  · rename_i y x r
    cases he
    refine ⟨rfl, fun h1 h2 h3 => ⟨⟨h1, h2, bm_InSt.cons (bm_L_in _) h3.tl.tl⟩, ?_⟩⟩
    intro D b0 mc ms d p l e R s m args below meth c H locs cells slots Q ls hCx hS hl k
    obtain ⟨hx, hb, -⟩ := hCx
    have kk := k ls hl
    simp only [List.map_cons, bm_val, Int64.ofInt_toInt] at kk
    exact lv_lushr hx hb hdg rfl kk
  · cases he
theorem bm_tdivi {x y : Int} (hx : bm_InI x) (hy : bm_InI y) : Int32.ofInt x / Int32.ofInt y = Int32.ofInt (bm_w (x.tdiv y)) := by
  rw [bm_ofI]
  refine (Int32.ofInt_eq_iff_bmod_eq_toInt _ _).mpr ?_ |>.symm
  rw [Int32.toInt_div, bm_toI hx, bm_toI hy]
theorem bm_tmodi {x y : Int} (hx : bm_InI x) (hy : bm_InI y) : Int32.ofInt x - Int32.ofInt x / Int32.ofInt y * Int32.ofInt y = Int32.ofInt (bm_w (x.tmod y)) := by
  rw [bm_tdivi hx hy, bm_ofI, bm_ofI, ← Int32.ofInt_mul, ← Int32.ofInt_sub, Int.tmod_def, Int.mul_comm]
theorem bm_s_idiv (nx : Nat) (hdg : decode cc pc = .ok (.idiv, 1)) (hn : nx = pc + 1 := by rfl) : bm_Sn K pg mi cc nL own nm ret pc (bm_G (bm_oDi (fun x y => bm_w (x.tdiv y)) nx)) := by
  subst hn
  refine bm_Sn.stillG (fun lo st w g t he => ?_)
  unfold bm_oDi at he
  split at he
  · rename_i y x r
    cases he
    refine ⟨rfl, fun hg h1 h2 h3 => ⟨⟨h1, h2, bm_InSt.cons (bm_w_in _) h3.tl.tl⟩, ?_⟩⟩
    intro D b0 mc ms d p l e R s m args below meth c H locs cells slots Q ls hCx hS hl k
    obtain ⟨hx, hb, -⟩ := hCx
    have hiy : bm_InI y := h3.hd
    have hix : bm_InI x := h3.tl.hd
    have kk := k ls hl
    simp only [List.map_cons, bm_val] at kk
    rw [← bm_tdivi hix hiy] at kk
    exact lv_idiv hx hb hdg (fun z => hg ((bm_eqI hiy bm_In0).mp (z.trans (show Int32.ofInt 0 = 0 from rfl).symm))) kk
  · cases he
theorem bm_s_irem (nx : Nat) (hdg : decode cc pc = .ok (.irem, 1)) (hn : nx = pc + 1 := by rfl) : bm_Sn K pg mi cc nL own nm ret pc (bm_G (bm_oDi (fun x y => bm_w (x.tmod y)) nx)) := by
  subst hn
  refine bm_Sn.stillG (fun lo st w g t he => ?_)
  unfold bm_oDi at he
  split at he
  · rename_i y x r
    cases he
    refine ⟨rfl, fun hg h1 h2 h3 => ⟨⟨h1, h2, bm_InSt.cons (bm_w_in _) h3.tl.tl⟩, ?_⟩⟩
    intro D b0 mc ms d p l e R s m args below meth c H locs cells slots Q ls hCx hS hl k
    obtain ⟨hx, hb, -⟩ := hCx
    have hiy : bm_InI y := h3.hd
    have hix : bm_InI x := h3.tl.hd
    have kk := k ls hl
    simp only [List.map_cons, bm_val] at kk
    rw [← bm_tmodi hix hiy] at kk
    exact lv_irem hx hb hdg (fun z => hg ((bm_eqI hiy bm_In0).mp (z.trans (show Int32.ofInt 0 = 0 from rfl).symm))) kk
  · cases he
theorem bm_tdivl {x y : Int} (hx : bm_InL x) (hy : bm_InL y) : Int64.ofInt x / Int64.ofInt y = Int64.ofInt (bm_x (x.tdiv y)) := by
  rw [bm_ofL]
  refine (Int64.ofInt_eq_iff_bmod_eq_toInt _ _).mpr ?_ |>.symm
  rw [Int64.toInt_div, bm_toL hx, bm_toL hy]
theorem bm_tmodl {x y : Int} (hx : bm_InL x) (hy : bm_InL y) : Int64.ofInt x - Int64.ofInt x / Int64.ofInt y * Int64.ofInt y = Int64.ofInt (bm_x (x.tmod y)) := by
  rw [bm_tdivl hx hy, bm_ofL, bm_ofL, ← Int64.ofInt_mul, ← Int64.ofInt_sub, Int.tmod_def, Int.mul_comm]
theorem bm_s_ldiv (nx : Nat) (hdg : decode cc pc = .ok (.ldiv, 1)) (hn : nx = pc + 1 := by rfl) : bm_Sn K pg mi cc nL own nm ret pc (bm_G (bm_oDl (fun x y => bm_x (x.tdiv y)) nx)) := by
  subst hn
  refine bm_Sn.stillG (fun lo st w g t he => ?_)
  unfold bm_oDl at he
  split at he
  · rename_i y x r
    cases he
    refine ⟨rfl, fun hg h1 h2 h3 => ⟨⟨h1, h2, bm_InSt.cons (bm_x_in _) h3.tl.tl⟩, ?_⟩⟩
    intro D b0 mc ms d p l e R s m args below meth c H locs cells slots Q ls hCx hS hl k
    obtain ⟨hx, hb, -⟩ := hCx
    have hiy : bm_InL y := h3.hd
    have hix : bm_InL x := h3.tl.hd
    have kk := k ls hl
    simp only [List.map_cons, bm_val] at kk
    rw [← bm_tdivl hix hiy] at kk
    exact lv_ldiv hx hb hdg (fun z => hg ((bm_eqL hiy (show bm_InL 0 by unfold bm_InL; omega)).mp (z.trans (show Int64.ofInt 0 = 0 from rfl).symm))) kk
  · cases he
theorem bm_s_lrem (nx : Nat) (hdg : decode cc pc = .ok (.lrem, 1)) (hn : nx = pc + 1 := by rfl) : bm_Sn K pg mi cc nL own nm ret pc (bm_G (bm_oDl (fun x y => bm_x (x.tmod y)) nx)) := by
  subst hn
  refine bm_Sn.stillG (fun lo st w g t he => ?_)
  unfold bm_oDl at he
  split at he
  · rename_i y x r
    cases he
    refine ⟨rfl, fun hg h1 h2 h3 => ⟨⟨h1, h2, bm_InSt.cons (bm_x_in _) h3.tl.tl⟩, ?_⟩⟩
    intro D b0 mc ms d p l e R s m args below meth c H locs cells slots Q ls hCx hS hl k
    obtain ⟨hx, hb, -⟩ := hCx
    have hiy : bm_InL y := h3.hd
    have hix : bm_InL x := h3.tl.hd
    have kk := k ls hl
    simp only [List.map_cons, bm_val] at kk
    rw [← bm_tmodl hix hiy] at kk
    exact lv_lrem hx hb hdg (fun z => hg ((bm_eqL hiy (show bm_InL 0 by unfold bm_InL; omega)).mp (z.trans (show Int64.ofInt 0 = 0 from rfl).symm))) kk
  · cases he
theorem bm_s_ineg (nx : Nat) (hdg : decode cc pc = .ok (.ineg, 1)) (hn : nx = pc + 1 := by rfl) : bm_Sn K pg mi cc nL own nm ret pc (bm_P (bm_o1 (fun x => bm_w (-x)) nx)) := by
  subst hn
  refine bm_Sn.still (fun lo st w t he => ?_)
  unfold bm_o1 at he
  split at he
  · rename_i x r
    cases he
    refine ⟨rfl, fun h1 h2 h3 => ⟨⟨h1, h2, bm_InSt.cons (bm_w_in _) h3.tl⟩, ?_⟩⟩
    intro D b0 mc ms d p l e R s m args below meth c H locs cells slots Q ls hCx hS hl k
    obtain ⟨hx, hb, -⟩ := hCx
    have hix := h3.hd
    have kk := k ls hl
    simp only [List.map_cons, bm_val] at kk
    exact lv_ineg hx hb hdg (by simpa only [bm_ofI, Int32.ofInt_neg] using kk)
  · cases he
theorem bm_s_lneg (nx : Nat) (hdg : decode cc pc = .ok (.lneg, 1)) (hn : nx = pc + 1 := by rfl) : bm_Sn K pg mi cc nL own nm ret pc (bm_P (bm_o1l (fun x => bm_x (-x)) nx)) := by
  subst hn
  refine bm_Sn.still (fun lo st w t he => ?_)
  unfold bm_o1l at he
  split at he
  · rename_i x r
    cases he
    refine ⟨rfl, fun h1 h2 h3 => ⟨⟨h1, h2, bm_InSt.cons (bm_x_in _) h3.tl⟩, ?_⟩⟩
    intro D b0 mc ms d p l e R s m args below meth c H locs cells slots Q ls hCx hS hl k
    obtain ⟨hx, hb, -⟩ := hCx
    have hix := h3.hd
    have kk := k ls hl
    simp only [List.map_cons, bm_val] at kk
    exact lv_lneg hx hb hdg (by simpa only [bm_ofL, Int64.ofInt_neg] using kk)
  · cases he
theorem bm_s_i2b (nx : Nat) (hdg : decode cc pc = .ok (.i2b, 1)) (hn : nx = pc + 1 := by rfl) : bm_Sn K pg mi cc nL own nm ret pc (bm_P (bm_o1 (fun x => (Int32.ofInt x).toInt8.toInt32.toInt) nx)) := by
  subst hn
  refine bm_Sn.still (fun lo st w t he => ?_)
  unfold bm_o1 at he
  split at he
  · rename_i x r
    cases he
    refine ⟨rfl, fun h1 h2 h3 => ⟨⟨h1, h2, bm_InSt.cons (bm_I_in _) h3.tl⟩, ?_⟩⟩
    intro D b0 mc ms d p l e R s m args below meth c H locs cells slots Q ls hCx hS hl k
    obtain ⟨hx, hb, -⟩ := hCx
    have hix := h3.hd
    have kk := k ls hl
    simp only [List.map_cons, bm_val] at kk
    exact lv_i2b hx hb hdg rfl (by simpa only [Int32.ofInt_toInt] using kk)
  · cases he
theorem bm_s_i2c (nx : Nat) (hdg : decode cc pc = .ok (.i2c, 1)) (hn : nx = pc + 1 := by rfl) : bm_Sn K pg mi cc nL own nm ret pc (bm_P (bm_o1 (fun x => ((Int32.ofInt x).toUInt32 % 65536).toInt32.toInt) nx)) := by
  subst hn
  refine bm_Sn.still (fun lo st w t he => ?_)
  unfold bm_o1 at he
  split at he
  · rename_i x r
    cases he
    refine ⟨rfl, fun h1 h2 h3 => ⟨⟨h1, h2, bm_InSt.cons (bm_I_in _) h3.tl⟩, ?_⟩⟩
    intro D b0 mc ms d p l e R s m args below meth c H locs cells slots Q ls hCx hS hl k
    obtain ⟨hx, hb, -⟩ := hCx
    have hix := h3.hd
    have kk := k ls hl
    simp only [List.map_cons, bm_val] at kk
    exact lv_i2c hx hb hdg rfl (by simpa only [Int32.ofInt_toInt] using kk)
  · cases he
theorem bm_s_i2l (nx : Nat) (hdg : decode cc pc = .ok (.i2l, 1)) (hn : nx = pc + 1 := by rfl) : bm_Sn K pg mi cc nL own nm ret pc (bm_P (bm_oil nx)) := by
  subst hn
  refine bm_Sn.still (fun lo st w t he => ?_)
  unfold bm_oil at he
  split at he
  · rename_i x r
    cases he
    refine ⟨rfl, fun h1 h2 h3 => ⟨⟨h1, h2, bm_InSt.cons ((by have h4 : bm_InI x := h3.hd; exact (⟨by have := h4.1; omega, by have := h4.2; omega⟩ : bm_InL x))) h3.tl⟩, ?_⟩⟩
    intro D b0 mc ms d p l e R s m args below meth c H locs cells slots Q ls hCx hS hl k
    obtain ⟨hx, hb, -⟩ := hCx
    have hix := h3.hd
    have kk := k ls hl
    simp only [List.map_cons, bm_val] at kk
    have h4 : bm_InI x := hix
    refine lv_i2l hx hb hdg ?_ kk
    rw [← Int64.toInt_inj, Int32.toInt_toInt64, bm_toI h4, bm_toL (show bm_InL x from ⟨by have := h4.1; omega, by have := h4.2; omega⟩)]
  · cases he
theorem bm_s_l2i (nx : Nat) (hdg : decode cc pc = .ok (.l2i, 1)) (hn : nx = pc + 1 := by rfl) : bm_Sn K pg mi cc nL own nm ret pc (bm_P (bm_oli nx)) := by
  subst hn
  refine bm_Sn.still (fun lo st w t he => ?_)
  unfold bm_oli at he
  split at he
  · rename_i x r
    cases he
    refine ⟨rfl, fun h1 h2 h3 => ⟨⟨h1, h2, bm_InSt.cons (bm_w_in _) h3.tl⟩, ?_⟩⟩
    intro D b0 mc ms d p l e R s m args below meth c H locs cells slots Q ls hCx hS hl k
    obtain ⟨hx, hb, -⟩ := hCx
    have hix := h3.hd
    have kk := k ls hl
    simp only [List.map_cons, bm_val] at kk
    refine lv_l2i hx hb hdg ?_ kk
    rw [bm_ofI, Int64.toInt32_ofInt]
  · cases he
theorem bm_s_pop (nx : Nat) (hdg : decode cc pc = .ok (.pop, 1)) (hn : nx = pc + 1 := by rfl) : bm_Sn K pg mi cc nL own nm ret pc (bm_P (bm_oPop nx)) := by
  subst hn
  refine bm_Sn.still (fun lo st w t he => ?_)
  unfold bm_oPop at he
  split at he
  · rename_i x r
    cases he
    refine ⟨rfl, fun h1 h2 h3 => ⟨⟨h1, h2, h3.tl⟩, ?_⟩⟩
    intro D b0 mc ms d p l e R s m args below meth c H locs cells slots Q ls hCx hS hl k
    obtain ⟨hx, hb, -⟩ := hCx
    have kk := k ls hl
    exact lv_pop hx hb hdg rfl kk
  · rename_i x r
    cases he
    refine ⟨rfl, fun h1 h2 h3 => ⟨⟨h1, h2, h3.tl⟩, ?_⟩⟩
    intro D b0 mc ms d p l e R s m args below meth c H locs cells slots Q ls hCx hS hl k
    obtain ⟨hx, hb, -⟩ := hCx
    have kk := k ls hl
    exact lv_pop hx hb hdg (by first | rfl | (cases x <;> rfl)) kk
  · cases he
theorem bm_s_pop2 (nx : Nat) (hdg : decode cc pc = .ok (.pop2, 1)) (hn : nx = pc + 1 := by rfl) : bm_Sn K pg mi cc nL own nm ret pc (bm_P (bm_oPop2 nx)) := by
  subst hn
  refine bm_Sn.still (fun lo st w t he => ?_)
  unfold bm_oPop2 at he
  split at he
  · rename_i x r
    cases he
    refine ⟨rfl, fun h1 h2 h3 => ⟨⟨h1, h2, h3.tl⟩, ?_⟩⟩
    intro D b0 mc ms d p l e R s m args below meth c H locs cells slots Q ls hCx hS hl k
    obtain ⟨hx, hb, -⟩ := hCx
    have kk := k ls hl
    exact lv_pop2_2 hx hb hdg rfl kk
  · cases he
theorem bm_s_dup (nx : Nat) (hdg : decode cc pc = .ok (.dup, 1)) (hn : nx = pc + 1 := by rfl) : bm_Sn K pg mi cc nL own nm ret pc (bm_P (bm_oDup nx)) := by
  subst hn
  refine bm_Sn.still (fun lo st w t he => ?_)
  unfold bm_oDup at he
  split at he
  · rename_i x r
    cases he
    refine ⟨rfl, fun h1 h2 h3 => ⟨⟨h1, h2, bm_InSt.cons h3.hd h3⟩, ?_⟩⟩
    intro D b0 mc ms d p l e R s m args below meth c H locs cells slots Q ls hCx hS hl k
    obtain ⟨hx, hb, -⟩ := hCx
    have kk := k ls hl
    exact lv_dup hx hb hdg rfl kk
  · rename_i x r
    cases he
    refine ⟨rfl, fun h1 h2 h3 => ⟨⟨h1, h2, bm_InSt.cons h3.hd h3⟩, ?_⟩⟩
    intro D b0 mc ms d p l e R s m args below meth c H locs cells slots Q ls hCx hS hl k
    obtain ⟨hx, hb, -⟩ := hCx
    have kk := k ls hl
    exact lv_dup hx hb hdg (va := va_rf x) (by cases x <;> rfl) kk
  · cases he
theorem bm_s_dup2 (nx : Nat) (hdg : decode cc pc = .ok (.dup2, 1)) (hn : nx = pc + 1 := by rfl) : bm_Sn K pg mi cc nL own nm ret pc (bm_P (bm_oDup2 nx)) := by
  subst hn
  refine bm_Sn.still (fun lo st w t he => ?_)
  unfold bm_oDup2 at he
  split at he
  · rename_i y x r
    cases he
    refine ⟨rfl, fun h1 h2 h3 => ⟨⟨h1, h2, bm_InSt.cons h3.hd (bm_InSt.cons trivial h3)⟩, ?_⟩⟩
    intro D b0 mc ms d p l e R s m args below meth c H locs cells slots Q ls hCx hS hl k
    obtain ⟨hx, hb, -⟩ := hCx
    have kk := k ls hl
    exact lv_dup2_11 hx hb hdg (vb := va_rf x) rfl (by cases x <;> rfl) kk
  · cases he
theorem bm_s_dup_x1 (nx : Nat) (hdg : decode cc pc = .ok (.dup_x1, 1)) (hn : nx = pc + 1 := by rfl) : bm_Sn K pg mi cc nL own nm ret pc (bm_P (bm_oDupX1 nx)) := by
  subst hn
  refine bm_Sn.still (fun lo st w t he => ?_)
  unfold bm_oDupX1 at he
  split at he
  · rename_i y x r
    cases he
    refine ⟨rfl, fun h1 h2 h3 => ⟨⟨h1, h2, bm_InSt.cons h3.hd (bm_InSt.cons trivial (bm_InSt.cons h3.hd h3.tl.tl))⟩, ?_⟩⟩
    intro D b0 mc ms d p l e R s m args below meth c H locs cells slots Q ls hCx hS hl k
    obtain ⟨hx, hb, -⟩ := hCx
    have kk := k ls hl
    exact lv_dup_x1 hx hb hdg (vb := va_rf x) rfl (by cases x <;> rfl) kk
  · cases he
theorem bm_s_goto {off : Int} (nx : Nat) (hdg : decode cc pc = .ok (.goto off, 3)) (hn : (pc : Int) + off = (nx : Int) := by decide) : bm_Sn K pg mi cc nL own nm ret pc (bm_P (bm_oGo nx)) := by
  refine bm_Sn.still (fun lo st w t he => ?_)
  cases he
  refine ⟨rfl, fun h1 h2 h3 => ⟨⟨h1, h2, h3⟩, ?_⟩⟩
  intro D b0 mc ms d p l e R s m args below meth c H locs cells slots Q ls hCx hS hl k
  obtain ⟨hx, hb, -⟩ := hCx
  exact lv_goto hx hb hdg hn (k ls hl)
theorem bm_s_ifz_eq {off : Int} (tg nx : Nat) (hdg : decode cc pc = .ok (.ifCond .eq off, 3)) (ht : (pc : Int) + off = (tg : Int) := by decide) (hn : nx = pc + 3 := by rfl) : bm_Sn K pg mi cc nL own nm ret pc (bm_B (bm_bz (fun x => decide (x = 0)) tg nx)) := by
  subst hn
  refine bm_Sn.stillB tg (pc + 3) (fun lo st w b t u he => ?_)
  unfold bm_bz at he
  split at he
  · rename_i x r
    cases he
    refine ⟨r, rfl, rfl, fun h3 => ⟨h3.tl, ?_⟩⟩
    have hix : bm_InI x := h3.hd
    intro D b0 mc ms d p l e R s m args below meth c H locs cells slots Q ls hCx kt kf
    obtain ⟨hx, hb, -⟩ := hCx
    exact lv_if_eq hx hb hdg ht (fun z => kt (decide_eq_true ((bm_eqI hix bm_In0).mp z))) (fun z => kf (decide_eq_false (fun q => z ((bm_eqI hix bm_In0).mpr q))))
  · cases he
theorem bm_s_ifz_ne {off : Int} (tg nx : Nat) (hdg : decode cc pc = .ok (.ifCond .ne off, 3)) (ht : (pc : Int) + off = (tg : Int) := by decide) (hn : nx = pc + 3 := by rfl) : bm_Sn K pg mi cc nL own nm ret pc (bm_B (bm_bz (fun x => !decide (x = 0)) tg nx)) := by
  subst hn
  refine bm_Sn.stillB tg (pc + 3) (fun lo st w b t u he => ?_)
  unfold bm_bz at he
  split at he
  · rename_i x r
    cases he
    refine ⟨r, rfl, rfl, fun h3 => ⟨h3.tl, ?_⟩⟩
    have hix : bm_InI x := h3.hd
    intro D b0 mc ms d p l e R s m args below meth c H locs cells slots Q ls hCx kt kf
    obtain ⟨hx, hb, -⟩ := hCx
    exact lv_if_ne hx hb hdg ht (fun z => kt (bm_nd (fun q => z ((bm_eqI hix bm_In0).mpr q)))) (fun z => kf (bm_nt ((bm_eqI hix bm_In0).mp z)))
  · cases he
theorem bm_s_ifz_lt {off : Int} (tg nx : Nat) (hdg : decode cc pc = .ok (.ifCond .lt off, 3)) (ht : (pc : Int) + off = (tg : Int) := by decide) (hn : nx = pc + 3 := by rfl) : bm_Sn K pg mi cc nL own nm ret pc (bm_B (bm_bz (fun x => decide (x < 0)) tg nx)) := by
  subst hn
  refine bm_Sn.stillB tg (pc + 3) (fun lo st w b t u he => ?_)
  unfold bm_bz at he
  split at he
  · rename_i x r
    cases he
    refine ⟨r, rfl, rfl, fun h3 => ⟨h3.tl, ?_⟩⟩
    have hix : bm_InI x := h3.hd
    intro D b0 mc ms d p l e R s m args below meth c H locs cells slots Q ls hCx kt kf
    obtain ⟨hx, hb, -⟩ := hCx
    exact lv_if_lt hx hb hdg ht (fun z => kt (decide_eq_true ((bm_ltI hix bm_In0).mp z))) (fun z => kf (decide_eq_false (fun q => z ((bm_ltI hix bm_In0).mpr q))))
  · cases he
theorem bm_s_ifz_ge {off : Int} (tg nx : Nat) (hdg : decode cc pc = .ok (.ifCond .ge off, 3)) (ht : (pc : Int) + off = (tg : Int) := by decide) (hn : nx = pc + 3 := by rfl) : bm_Sn K pg mi cc nL own nm ret pc (bm_B (bm_bz (fun x => decide (0 ≤ x)) tg nx)) := by
  subst hn
  refine bm_Sn.stillB tg (pc + 3) (fun lo st w b t u he => ?_)
  unfold bm_bz at he
  split at he
  · rename_i x r
    cases he
    refine ⟨r, rfl, rfl, fun h3 => ⟨h3.tl, ?_⟩⟩
    have hix : bm_InI x := h3.hd
    intro D b0 mc ms d p l e R s m args below meth c H locs cells slots Q ls hCx kt kf
    obtain ⟨hx, hb, -⟩ := hCx
    exact lv_if_ge hx hb hdg ht (fun z => kt (decide_eq_true ((bm_leI bm_In0 hix).mp z))) (fun z => kf (decide_eq_false (fun q => z ((bm_leI bm_In0 hix).mpr q))))
  · cases he
theorem bm_s_ifz_gt {off : Int} (tg nx : Nat) (hdg : decode cc pc = .ok (.ifCond .gt off, 3)) (ht : (pc : Int) + off = (tg : Int) := by decide) (hn : nx = pc + 3 := by rfl) : bm_Sn K pg mi cc nL own nm ret pc (bm_B (bm_bz (fun x => decide (0 < x)) tg nx)) := by
  subst hn
  refine bm_Sn.stillB tg (pc + 3) (fun lo st w b t u he => ?_)
  unfold bm_bz at he
  split at he
  · rename_i x r
    cases he
    refine ⟨r, rfl, rfl, fun h3 => ⟨h3.tl, ?_⟩⟩
    have hix : bm_InI x := h3.hd
    intro D b0 mc ms d p l e R s m args below meth c H locs cells slots Q ls hCx kt kf
    obtain ⟨hx, hb, -⟩ := hCx
    exact lv_if_gt hx hb hdg ht (fun z => kt (decide_eq_true ((bm_ltI bm_In0 hix).mp z))) (fun z => kf (decide_eq_false (fun q => z ((bm_ltI bm_In0 hix).mpr q))))
  · cases he
theorem bm_s_ifz_le {off : Int} (tg nx : Nat) (hdg : decode cc pc = .ok (.ifCond .le off, 3)) (ht : (pc : Int) + off = (tg : Int) := by decide) (hn : nx = pc + 3 := by rfl) : bm_Sn K pg mi cc nL own nm ret pc (bm_B (bm_bz (fun x => decide (x ≤ 0)) tg nx)) := by
  subst hn
  refine bm_Sn.stillB tg (pc + 3) (fun lo st w b t u he => ?_)
  unfold bm_bz at he
  split at he
  · rename_i x r
    cases he
    refine ⟨r, rfl, rfl, fun h3 => ⟨h3.tl, ?_⟩⟩
    have hix : bm_InI x := h3.hd
    intro D b0 mc ms d p l e R s m args below meth c H locs cells slots Q ls hCx kt kf
    obtain ⟨hx, hb, -⟩ := hCx
    exact lv_if_le hx hb hdg ht (fun z => kt (decide_eq_true ((bm_leI hix bm_In0).mp z))) (fun z => kf (decide_eq_false (fun q => z ((bm_leI hix bm_In0).mpr q))))
  · cases he
theorem bm_s_if_icmp_eq {off : Int} (tg nx : Nat) (hdg : decode cc pc = .ok (.if_icmp .eq off, 3)) (ht : (pc : Int) + off = (tg : Int) := by decide) (hn : nx = pc + 3 := by rfl) : bm_Sn K pg mi cc nL own nm ret pc (bm_B (bm_bi (fun x y => decide (x = y)) tg nx)) := by
  subst hn
  refine bm_Sn.stillB tg (pc + 3) (fun lo st w b t u he => ?_)
  unfold bm_bi at he
  split at he
  · rename_i y x r
    cases he
    refine ⟨r, rfl, rfl, fun h3 => ⟨h3.tl.tl, ?_⟩⟩
    have hiy : bm_InI y := h3.hd
    have hix : bm_InI x := h3.tl.hd
    intro D b0 mc ms d p l e R s m args below meth c H locs cells slots Q ls hCx kt kf
    obtain ⟨hx, hb, -⟩ := hCx
    exact lv_icmp_eq hx hb hdg ht (fun z => kt (decide_eq_true ((bm_eqI hix hiy).mp z))) (fun z => kf (decide_eq_false (fun q => z ((bm_eqI hix hiy).mpr q))))
  · cases he
theorem bm_s_if_icmp_ne {off : Int} (tg nx : Nat) (hdg : decode cc pc = .ok (.if_icmp .ne off, 3)) (ht : (pc : Int) + off = (tg : Int) := by decide) (hn : nx = pc + 3 := by rfl) : bm_Sn K pg mi cc nL own nm ret pc (bm_B (bm_bi (fun x y => !decide (x = y)) tg nx)) := by
  subst hn
  refine bm_Sn.stillB tg (pc + 3) (fun lo st w b t u he => ?_)
  unfold bm_bi at he
  split at he
  · rename_i y x r
    cases he
    refine ⟨r, rfl, rfl, fun h3 => ⟨h3.tl.tl, ?_⟩⟩
    have hiy : bm_InI y := h3.hd
    have hix : bm_InI x := h3.tl.hd
    intro D b0 mc ms d p l e R s m args below meth c H locs cells slots Q ls hCx kt kf
    obtain ⟨hx, hb, -⟩ := hCx
    exact lv_icmp_ne hx hb hdg ht (fun z => kt (bm_nd (fun q => z ((bm_eqI hix hiy).mpr q)))) (fun z => kf (bm_nt ((bm_eqI hix hiy).mp z)))
  · cases he
theorem bm_s_if_icmp_lt {off : Int} (tg nx : Nat) (hdg : decode cc pc = .ok (.if_icmp .lt off, 3)) (ht : (pc : Int) + off = (tg : Int) := by decide) (hn : nx = pc + 3 := by rfl) : bm_Sn K pg mi cc nL own nm ret pc (bm_B (bm_bi (fun x y => decide (x < y)) tg nx)) := by
  subst hn
  refine bm_Sn.stillB tg (pc + 3) (fun lo st w b t u he => ?_)
  unfold bm_bi at he
  split at he
  · rename_i y x r
    cases he
    refine ⟨r, rfl, rfl, fun h3 => ⟨h3.tl.tl, ?_⟩⟩
    have hiy : bm_InI y := h3.hd
    have hix : bm_InI x := h3.tl.hd
    intro D b0 mc ms d p l e R s m args below meth c H locs cells slots Q ls hCx kt kf
    obtain ⟨hx, hb, -⟩ := hCx
    exact lv_icmp_lt hx hb hdg ht (fun z => kt (decide_eq_true ((bm_ltI hix hiy).mp z))) (fun z => kf (decide_eq_false (fun q => z ((bm_ltI hix hiy).mpr q))))
  · cases he
theorem bm_s_if_icmp_ge {off : Int} (tg nx : Nat) (hdg : decode cc pc = .ok (.if_icmp .ge off, 3)) (ht : (pc : Int) + off = (tg : Int) := by decide) (hn : nx = pc + 3 := by rfl) : bm_Sn K pg mi cc nL own nm ret pc (bm_B (bm_bi (fun x y => decide (y ≤ x)) tg nx)) := by
  subst hn
  refine bm_Sn.stillB tg (pc + 3) (fun lo st w b t u he => ?_)
  unfold bm_bi at he
  split at he
  · rename_i y x r
    cases he
    refine ⟨r, rfl, rfl, fun h3 => ⟨h3.tl.tl, ?_⟩⟩
    have hiy : bm_InI y := h3.hd
    have hix : bm_InI x := h3.tl.hd
    intro D b0 mc ms d p l e R s m args below meth c H locs cells slots Q ls hCx kt kf
    obtain ⟨hx, hb, -⟩ := hCx
    exact lv_icmp_ge hx hb hdg ht (fun z => kt (decide_eq_true ((bm_leI hiy hix).mp z))) (fun z => kf (decide_eq_false (fun q => z ((bm_leI hiy hix).mpr q))))
  · cases he
theorem bm_s_if_icmp_gt {off : Int} (tg nx : Nat) (hdg : decode cc pc = .ok (.if_icmp .gt off, 3)) (ht : (pc : Int) + off = (tg : Int) := by decide) (hn : nx = pc + 3 := by rfl) : bm_Sn K pg mi cc nL own nm ret pc (bm_B (bm_bi (fun x y => decide (y < x)) tg nx)) := by
  subst hn
  refine bm_Sn.stillB tg (pc + 3) (fun lo st w b t u he => ?_)
  unfold bm_bi at he
  split at he
  · rename_i y x r
    cases he
    refine ⟨r, rfl, rfl, fun h3 => ⟨h3.tl.tl, ?_⟩⟩
    have hiy : bm_InI y := h3.hd
    have hix : bm_InI x := h3.tl.hd
    intro D b0 mc ms d p l e R s m args below meth c H locs cells slots Q ls hCx kt kf
    obtain ⟨hx, hb, -⟩ := hCx
    exact lv_icmp_gt hx hb hdg ht (fun z => kt (decide_eq_true ((bm_ltI hiy hix).mp z))) (fun z => kf (decide_eq_false (fun q => z ((bm_ltI hiy hix).mpr q))))
  · cases he
theorem bm_s_if_icmp_le {off : Int} (tg nx : Nat) (hdg : decode cc pc = .ok (.if_icmp .le off, 3)) (ht : (pc : Int) + off = (tg : Int) := by decide) (hn : nx = pc + 3 := by rfl) : bm_Sn K pg mi cc nL own nm ret pc (bm_B (bm_bi (fun x y => decide (x ≤ y)) tg nx)) := by
  subst hn
  refine bm_Sn.stillB tg (pc + 3) (fun lo st w b t u he => ?_)
  unfold bm_bi at he
  split at he
  · rename_i y x r
    cases he
    refine ⟨r, rfl, rfl, fun h3 => ⟨h3.tl.tl, ?_⟩⟩
    have hiy : bm_InI y := h3.hd
    have hix : bm_InI x := h3.tl.hd
    intro D b0 mc ms d p l e R s m args below meth c H locs cells slots Q ls hCx kt kf
    obtain ⟨hx, hb, -⟩ := hCx
    exact lv_icmp_le hx hb hdg ht (fun z => kt (decide_eq_true ((bm_leI hix hiy).mp z))) (fun z => kf (decide_eq_false (fun q => z ((bm_leI hix hiy).mpr q))))
  · cases he
theorem bm_s_lcmp_eq {off : Int} (tg nx : Nat) (hdg : decode cc pc = .ok (.lcmp, 1)) (hdg2 : decode cc (pc + 1) = .ok (.ifCond .eq off, 3)) (ht : ((pc + 1 : Nat) : Int) + off = (tg : Int) := by decide) (hn : nx = pc + 4 := by rfl) : bm_Sn K pg mi cc nL own nm ret pc (bm_B (bm_bl (fun x y => decide (x = y)) tg nx)) := by
  subst hn
  refine bm_Sn.stillB tg (pc + 4) (fun lo st w b t u he => ?_)
  unfold bm_bl at he
  split at he
  · rename_i y x r
    cases he
    refine ⟨r, rfl, rfl, fun h3 => ⟨h3.tl.tl, ?_⟩⟩
    have hiy : bm_InL y := h3.hd
    have hix : bm_InL x := h3.tl.hd
    intro D b0 mc ms d p l e R s m args below meth c H locs cells slots Q ls hCx kt kf
    obtain ⟨hx, hb, -⟩ := hCx
    exact W.lcmp hx hb hdg (lv_if_eq hx hb hdg2 ht (fun z => kt (decide_eq_true ((bm_eqL hix hiy).mp ((lg_cmp_eq _ _).mp z)))) (fun z => kf (decide_eq_false (fun q => z ((lg_cmp_eq _ _).mpr ((bm_eqL hix hiy).mpr q))))))
  · cases he
theorem bm_s_lcmp_ne {off : Int} (tg nx : Nat) (hdg : decode cc pc = .ok (.lcmp, 1)) (hdg2 : decode cc (pc + 1) = .ok (.ifCond .ne off, 3)) (ht : ((pc + 1 : Nat) : Int) + off = (tg : Int) := by decide) (hn : nx = pc + 4 := by rfl) : bm_Sn K pg mi cc nL own nm ret pc (bm_B (bm_bl (fun x y => !decide (x = y)) tg nx)) := by
  subst hn
  refine bm_Sn.stillB tg (pc + 4) (fun lo st w b t u he => ?_)
  unfold bm_bl at he
  split at he
  · rename_i y x r
    cases he
    refine ⟨r, rfl, rfl, fun h3 => ⟨h3.tl.tl, ?_⟩⟩
    have hiy : bm_InL y := h3.hd
    have hix : bm_InL x := h3.tl.hd
    intro D b0 mc ms d p l e R s m args below meth c H locs cells slots Q ls hCx kt kf
    obtain ⟨hx, hb, -⟩ := hCx
    exact W.lcmp hx hb hdg (lv_if_ne hx hb hdg2 ht (fun z => kt (bm_nd (fun q => z ((lg_cmp_eq _ _).mpr ((bm_eqL hix hiy).mpr q))))) (fun z => kf (bm_nt ((bm_eqL hix hiy).mp ((lg_cmp_eq _ _).mp z)))))
  · cases he
theorem bm_s_lcmp_lt {off : Int} (tg nx : Nat) (hdg : decode cc pc = .ok (.lcmp, 1)) (hdg2 : decode cc (pc + 1) = .ok (.ifCond .lt off, 3)) (ht : ((pc + 1 : Nat) : Int) + off = (tg : Int) := by decide) (hn : nx = pc + 4 := by rfl) : bm_Sn K pg mi cc nL own nm ret pc (bm_B (bm_bl (fun x y => decide (x < y)) tg nx)) := by
  subst hn
  refine bm_Sn.stillB tg (pc + 4) (fun lo st w b t u he => ?_)
  unfold bm_bl at he
  split at he
  · rename_i y x r
    cases he
    refine ⟨r, rfl, rfl, fun h3 => ⟨h3.tl.tl, ?_⟩⟩
    have hiy : bm_InL y := h3.hd
    have hix : bm_InL x := h3.tl.hd
    intro D b0 mc ms d p l e R s m args below meth c H locs cells slots Q ls hCx kt kf
    obtain ⟨hx, hb, -⟩ := hCx
    exact W.lcmp hx hb hdg (lv_if_lt hx hb hdg2 ht (fun z => kt (decide_eq_true ((bm_ltL hix hiy).mp ((lg_cmp_lt _ _).mp z)))) (fun z => kf (decide_eq_false (fun q => z ((lg_cmp_lt _ _).mpr ((bm_ltL hix hiy).mpr q))))))
  · cases he
theorem bm_s_lcmp_ge {off : Int} (tg nx : Nat) (hdg : decode cc pc = .ok (.lcmp, 1)) (hdg2 : decode cc (pc + 1) = .ok (.ifCond .ge off, 3)) (ht : ((pc + 1 : Nat) : Int) + off = (tg : Int) := by decide) (hn : nx = pc + 4 := by rfl) : bm_Sn K pg mi cc nL own nm ret pc (bm_B (bm_bl (fun x y => decide (y ≤ x)) tg nx)) := by
  subst hn
  refine bm_Sn.stillB tg (pc + 4) (fun lo st w b t u he => ?_)
  unfold bm_bl at he
  split at he
  · rename_i y x r
    cases he
    refine ⟨r, rfl, rfl, fun h3 => ⟨h3.tl.tl, ?_⟩⟩
    have hiy : bm_InL y := h3.hd
    have hix : bm_InL x := h3.tl.hd
    intro D b0 mc ms d p l e R s m args below meth c H locs cells slots Q ls hCx kt kf
    obtain ⟨hx, hb, -⟩ := hCx
    exact W.lcmp hx hb hdg (lv_if_ge hx hb hdg2 ht (fun z => kt (decide_eq_true ((bm_leL hiy hix).mp ((lg_cmp_ge _ _).mp z)))) (fun z => kf (decide_eq_false (fun q => z ((lg_cmp_ge _ _).mpr ((bm_leL hiy hix).mpr q))))))
  · cases he
theorem bm_s_lcmp_gt {off : Int} (tg nx : Nat) (hdg : decode cc pc = .ok (.lcmp, 1)) (hdg2 : decode cc (pc + 1) = .ok (.ifCond .gt off, 3)) (ht : ((pc + 1 : Nat) : Int) + off = (tg : Int) := by decide) (hn : nx = pc + 4 := by rfl) : bm_Sn K pg mi cc nL own nm ret pc (bm_B (bm_bl (fun x y => decide (y < x)) tg nx)) := by
  subst hn
  refine bm_Sn.stillB tg (pc + 4) (fun lo st w b t u he => ?_)
  unfold bm_bl at he
  split at he
  · rename_i y x r
    cases he
    refine ⟨r, rfl, rfl, fun h3 => ⟨h3.tl.tl, ?_⟩⟩
    have hiy : bm_InL y := h3.hd
    have hix : bm_InL x := h3.tl.hd
    intro D b0 mc ms d p l e R s m args below meth c H locs cells slots Q ls hCx kt kf
    obtain ⟨hx, hb, -⟩ := hCx
    exact W.lcmp hx hb hdg (lv_if_gt hx hb hdg2 ht (fun z => kt (decide_eq_true ((bm_ltL hiy hix).mp ((lg_cmp_gt _ _).mp z)))) (fun z => kf (decide_eq_false (fun q => z ((lg_cmp_gt _ _).mpr ((bm_ltL hiy hix).mpr q))))))
  · cases he
theorem bm_s_lcmp_le {off : Int} (tg nx : Nat) (hdg : decode cc pc = .ok (.lcmp, 1)) (hdg2 : decode cc (pc + 1) = .ok (.ifCond .le off, 3)) (ht : ((pc + 1 : Nat) : Int) + off = (tg : Int) := by decide) (hn : nx = pc + 4 := by rfl) : bm_Sn K pg mi cc nL own nm ret pc (bm_B (bm_bl (fun x y => decide (x ≤ y)) tg nx)) := by
  subst hn
  refine bm_Sn.stillB tg (pc + 4) (fun lo st w b t u he => ?_)
  unfold bm_bl at he
  split at he
  · rename_i y x r
    cases he
    refine ⟨r, rfl, rfl, fun h3 => ⟨h3.tl.tl, ?_⟩⟩
    have hiy : bm_InL y := h3.hd
    have hix : bm_InL x := h3.tl.hd
    intro D b0 mc ms d p l e R s m args below meth c H locs cells slots Q ls hCx kt kf
    obtain ⟨hx, hb, -⟩ := hCx
    exact W.lcmp hx hb hdg (lv_if_le hx hb hdg2 ht (fun z => kt (decide_eq_true ((bm_leL hix hiy).mp ((lg_cmp_le _ _).mp z)))) (fun z => kf (decide_eq_false (fun q => z ((lg_cmp_le _ _).mpr ((bm_leL hix hiy).mpr q))))))
  · cases he
theorem bm_s_ifnonnull {off : Int} (tg nx : Nat) (hdg : decode cc pc = .ok (.ifnonnull off, 3)) (ht : (pc : Int) + off = (tg : Int) := by decide) (hn : nx = pc + 3 := by rfl) : bm_Sn K pg mi cc nL own nm ret pc (bm_B (bm_bnn tg nx)) := by
  subst hn
  refine bm_Sn.stillB tg (pc + 3) (fun lo st w b t u he => ?_)
  unfold bm_bnn at he
  split at he
  · rename_i x r
    cases he
    refine ⟨r, rfl, rfl, fun h3 => ⟨h3.tl, ?_⟩⟩
    intro D b0 mc ms d p l e R s m args below meth c H locs cells slots Q ls hCx kt kf
    obtain ⟨hx, hb, -⟩ := hCx
    cases x with
    | none => exact lv_ifnonnullN hx hb hdg (kf rfl)
    | some x => exact lv_ifnonnull hx hb hdg ht (kt rfl)
  · cases he
theorem bm_s_acmp_eq {off : Int} (tg nx : Nat) (hdg : decode cc pc = .ok (.if_acmp .eq off, 3)) (ht : (pc : Int) + off = (tg : Int) := by decide) (hn : nx = pc + 3 := by rfl) : bm_Sn K pg mi cc nL own nm ret pc (bm_B (bm_ba (fun x y => decide (x = y)) tg nx)) := by
  subst hn
  refine bm_Sn.stillB tg (pc + 3) (fun lo st w b t u he => ?_)
  unfold bm_ba at he
  split at he
  · rename_i y x r
    cases he
    refine ⟨r, rfl, rfl, fun h3 => ⟨h3.tl.tl, ?_⟩⟩
    intro D b0 mc ms d p l e R s m args below meth c H locs cells slots Q ls hCx kt kf
    obtain ⟨hx, hb, -⟩ := hCx
    exact lv_acmp_eq hx hb hdg ht (fun z => kt (decide_eq_true z)) (fun z => kf (decide_eq_false z))
  · cases he
end BMR

/-! ===== items: their form and their meaning ===== -/
/-- all tokens are seen behind an expression -/
abbrev f_T : Nat := 1501
def f_opt (K : Nat → Int) (k : Int) (s : Bool × Nat) : Bool × Nat := if f_see K f_T s k k then (false, s.2 + 1) else s
abbrev f_x (K : Nat → Int) (k : Int) (s : Bool × Nat) : Bool × Nat := f_exp K f_T k s
def f_wh (K : Nat → Int) (s : Bool × Nat) : Bool × Nat := f_x K 2 (f_opt K 29 s)
def f_inp (K : Nat → Int) (s : Bool × Nat) : Bool × Nat := f_wh K (f_x K 33 (f_wh K (f_x K 5 (f_x K 3 s))))
def f_ins (K : Nat → Int) : Nat → Bool × Nat → Bool × Nat
  | 0, s => (true, s.2)
  | n + 1, s => if f_see K f_T (f_inp K s) 18 18 then f_ins K n (false, (f_inp K s).2 + 1) else f_inp K s
def f_bod (K : Nat → Int) (s : Bool × Nat) : Bool × Nat := f_ex K (s.2 + 50) 415 6 0 s
def f_fun (K : Nat → Int) (s : Bool × Nat) : Bool × Nat := f_x K 19 (f_bod K (f_x K 22 (f_x K 17 (f_ins K f_T (f_x K 16 (f_x K 3 s))))))
def f_cel (K : Nat → Int) (s : Bool × Nat) : Bool × Nat := if f_see K f_T s 30 30 then (false, s.2 + 1) else if f_see K f_T (f_wh K s) 33 33 then f_wh K (false, (f_wh K s).2 + 1) else f_wh K s
def f_cls (K : Nat → Int) : Nat → Bool × Nat → Bool × Nat
  | 0, s => (true, s.2)
  | n + 1, s => if f_see K f_T (f_cel K s) 18 18 then f_cls K n (false, (f_cel K s).2 + 1) else f_cel K s
def f_res (K : Nat → Int) (s : Bool × Nat) : Bool × Nat := if f_see K f_T s 22 27 then f_wh K (false, s.2 + 1) else if f_see K f_T s 14 14 then (false, s.2 + 1) else f_x K 15 s
def f_row (K : Nat → Int) (s : Bool × Nat) : Bool × Nat := f_res K (f_x K 20 (f_cls K f_T s))
def f_rws (K : Nat → Int) : Nat → Bool × Nat → Bool × Nat
  | 0, s => (true, s.2)
  | n + 1, s => if f_see K f_T (f_row K s) 21 21 then f_rws K n (false, (f_row K s).2 + 1) else f_row K s
def f_tab (K : Nat → Int) (s : Bool × Nat) : Bool × Nat := f_x K 19 (f_rws K f_T (f_x K 20 (f_x K 3 (f_x K 13 (f_x K 3 s)))))
def f_itm (K : Nat → Int) (s : Bool × Nat) : Bool × Nat := if f_see K f_T s 4 4 then f_fun K (false, s.2 + 1) else if f_see K f_T s 12 12 then f_tab K (false, s.2 + 1) else (true, s.2)
def f_its (K : Nat → Int) : Nat → Bool × Nat → Bool × Nat
  | 0, s => (true, s.2)
  | n + 1, s => if (f_itm K s).1 = false ∧ ¬ f_see K f_T (f_itm K s) 0 0 then f_its K n (f_itm K s) else f_itm K s
/-- how far it goes: on and on, not behind the end; what has failed stays -/
def f_far (K : Nat → Int) (N : Nat) (g : Bool × Nat → Bool × Nat) : Prop := ∀ s : Bool × Nat, s.2 ≤ N → s.2 ≤ (g s).2 ∧ (g s).2 ≤ N ∧ (s.1 = true → g s = (true, s.2))
theorem f_far.ok {K : Nat → Int} {N : Nat} {g : Bool × Nat → Bool × Nat} (h : f_far K N g) {s : Bool × Nat} (hs : s.2 ≤ N) (z : (g s).1 = false) : s.1 = false := by
  cases c : s.1 with
  | false => rfl
  | true =>
    rw [(h s hs).2.2 c] at z
    cases z
theorem f_far.co {K : Nat → Int} {N : Nat} {g g' : Bool × Nat → Bool × Nat} (h : f_far K N g) (h' : f_far K N g') : f_far K N (fun s => g' (g s)) := fun s hs => by
  obtain ⟨a1, a2, a3⟩ := h s hs
  obtain ⟨b1, b2, b3⟩ := h' (g s) a2
  refine ⟨Nat.le_trans a1 b1, b2, fun c => ?_⟩
  show g' (g s) = _
  rw [a3 c] at b3 ⊢
  exact b3 rfl
section FAR
variable {K : Nat → Int} {N : Nat}
theorem f_see_N (h0 : K N = 0) {s : Bool × Nat} {a b : Int} (ha : 0 < a) (hs : s.2 ≤ N) (h : f_see K f_T s a b) : s.2 + 1 ≤ N := by
  rcases Nat.lt_or_ge s.2 N with z | z
  · exact z
  · have := h.2.2
    rw [show s.2 = N by omega, h0] at this
    omega
theorem f_far_x (h0 : K N = 0) {k : Int} (hk : 0 < k) : f_far K N (f_x K k) := fun s hs => by
  unfold f_x f_exp
  by_cases c : f_see K f_T s k k
  · rw [if_pos c]
    exact ⟨Nat.le_succ _, f_see_N h0 hk hs c, fun z => by rw [c.1] at z; cases z⟩
  · rw [if_neg c]
    exact ⟨Nat.le_refl _, hs, fun _ => rfl⟩
theorem f_far_opt (h0 : K N = 0) {k : Int} (hk : 0 < k) : f_far K N (f_opt K k) := fun s hs => by
  unfold f_opt
  by_cases c : f_see K f_T s k k
  · rw [if_pos c]
    exact ⟨Nat.le_succ _, f_see_N h0 hk hs c, fun z => by rw [c.1] at z; cases z⟩
  · rw [if_neg c]
    exact ⟨Nat.le_refl _, hs, fun z => by rw [← z]⟩
theorem f_far_wh (h0 : K N = 0) : f_far K N (f_wh K) := (f_far_opt h0 (by decide)).co (f_far_x h0 (by decide))
theorem f_far_inp (h0 : K N = 0) : f_far K N (f_inp K) := ((((f_far_x h0 (by decide)).co (f_far_x h0 (by decide))).co (f_far_wh h0)).co (f_far_x h0 (by decide))).co (f_far_wh h0)
/-- behind a part, another one or none -/
theorem f_far_or (h0 : K N = 0) {g g' : Bool × Nat → Bool × Nat} {a b : Int} (hg : f_far K N g) (hg' : f_far K N g') (ha : 0 < a) : f_far K N (fun s => if f_see K f_T (g s) a b then g' (false, (g s).2 + 1) else g s) := fun s hs => by
  obtain ⟨a1, a2, a3⟩ := hg s hs
  by_cases c : f_see K f_T (g s) a b
  · simp only [if_pos c]
    obtain ⟨b1, b2, b3⟩ := hg' (false, (g s).2 + 1) (f_see_N h0 ha a2 c)
    exact ⟨by simp only at b1; omega, b2, fun z => by rw [a3 z] at c; have := c.1; cases this⟩
  · simp only [if_neg c]
    exact ⟨a1, a2, a3⟩
theorem f_far_no (h0 : K N = 0) : f_far K N (fun s => (true, s.2)) := fun s hs => ⟨Nat.le_refl _, hs, fun _ => rfl⟩
theorem f_far_ins (h0 : K N = 0) : ∀ n, f_far K N (f_ins K n)
  | 0 => f_far_no h0
  | n + 1 => f_far_or h0 (f_far_inp h0) (f_far_ins h0 n) (by decide)
theorem f_far_bod (h0 : K N = 0) : f_far K N (f_bod K) := fun s hs => by
  have := f_ex_rng (K := K) (L := s.2 + 50) (M := N) (fun q a b c => by
    rcases Nat.lt_or_ge q N with z | z
    · exact z
    · exact absurd (show K q = 0 by rw [show q = N by omega]; exact h0) c) 415 6 0 s (by decide) hs
  refine ⟨this.1, this.2.1, fun z => ?_⟩
  unfold f_bod
  rw [f_ex_true z (by decide)]
theorem f_far_fun (h0 : K N = 0) : f_far K N (f_fun K) := (((((f_far_x h0 (by decide)).co (f_far_x h0 (by decide))).co (f_far_ins h0 f_T)).co (f_far_x h0 (by decide))).co (f_far_x h0 (by decide))).co (f_far_bod h0) |>.co (f_far_x h0 (by decide))
theorem f_far_cel (h0 : K N = 0) : f_far K N (f_cel K) := fun s hs => by
  unfold f_cel
  by_cases c : f_see K f_T s 30 30
  · rw [if_pos c]
    exact ⟨Nat.le_succ _, f_see_N h0 (by decide) hs c, fun z => by rw [c.1] at z; cases z⟩
  · rw [if_neg c]
    exact f_far_or h0 (f_far_wh h0) (f_far_wh h0) (by decide) s hs
theorem f_far_cls (h0 : K N = 0) : ∀ n, f_far K N (f_cls K n)
  | 0 => f_far_no h0
  | n + 1 => f_far_or h0 (f_far_cel h0) (f_far_cls h0 n) (by decide)
theorem f_far_res (h0 : K N = 0) : f_far K N (f_res K) := fun s hs => by
  unfold f_res
  by_cases c : f_see K f_T s 22 27
  · rw [if_pos c]
    obtain ⟨b1, b2, b3⟩ := f_far_wh h0 (false, s.2 + 1) (f_see_N h0 (by decide) hs c)
    exact ⟨by simp only at b1; omega, b2, fun z => by rw [c.1] at z; cases z⟩
  · rw [if_neg c]
    by_cases c2 : f_see K f_T s 14 14
    · rw [if_pos c2]
      exact ⟨Nat.le_succ _, f_see_N h0 (by decide) hs c2, fun z => by rw [c2.1] at z; cases z⟩
    · rw [if_neg c2]
      exact f_far_x h0 (by decide) s hs
theorem f_far_row (h0 : K N = 0) : f_far K N (f_row K) := ((f_far_cls h0 f_T).co (f_far_x h0 (by decide))).co (f_far_res h0)
theorem f_far_rws (h0 : K N = 0) : ∀ n, f_far K N (f_rws K n)
  | 0 => f_far_no h0
  | n + 1 => f_far_or h0 (f_far_row h0) (f_far_rws h0 n) (by decide)
theorem f_far_tab (h0 : K N = 0) : f_far K N (f_tab K) := (((((f_far_x h0 (by decide)).co (f_far_x h0 (by decide))).co (f_far_x h0 (by decide))).co (f_far_x h0 (by decide))).co (f_far_rws h0 f_T)).co (f_far_x h0 (by decide))
end FAR
/-! what items tell -/
/-- an input: its name's token, its range -/
abbrev y_in : Type := Nat × Int × Int
/-- a function: its name's token, its inputs, its places, its size, its meaning -/
abbrev y_fn : Type := Nat × List y_in × Nat × Nat × q_D
/-- a row: ranges, what is to come out, a number -/
abbrev y_rw : Type := List (Int × Int) × Int × Int
/-- a table: its name's token, its function, its rows -/
abbrev y_tb : Type := Nat × Nat × List y_rw
abbrev y_pr : Type := List y_fn × List y_tb
/-- the first place of a name -/
def y_ix (V : Nat → Int) (v : Int) : List Nat → Int → Int
  | [], _ => -1
  | y :: l, i => if V y = v then i else y_ix V v l (i + 1)
theorem y_ix_rng {V : Nat → Int} {v : Int} : ∀ (l : List Nat) (i : Int), 0 ≤ i → y_ix V v l i = -1 ∨ (i ≤ y_ix V v l i ∧ y_ix V v l i < i + l.length)
  | [], _, _ => Or.inl rfl
  | y :: l, i, h => by
    unfold y_ix
    split
    · refine Or.inr ⟨Int.le_refl _, ?_⟩
      rw [List.length_cons]
      omega
    · rw [List.length_cons]
      rcases y_ix_rng l (i + 1) (by omega) with z | z
      · exact Or.inl z
      · exact Or.inr ⟨by omega, by omega⟩
def y_f0 : y_fn := (0, [], 0, 0, d_num 0 0)
/-- what names tell while an expression is looked at -/
def y_E (V : Nat → Int) (fs : List y_fn) (ins : List y_in) : q_E := (fun v => y_ix V v (ins.map (·.1)) 0, fun v => y_ix V v (fs.map (·.1)) 0, fun g => (fs.getD g.toNat y_f0).2.1.length, fun g => (fs.getD g.toNat y_f0).2.2.2.1, fun g => (fs.getD g.toNat y_f0).2.2.2.2)
def y_pb (K : Nat → Int) (fst q : Nat) : Bool := decide (fst ≤ q ∧ (K q = 2 ∨ K q = 6 ∨ K q = 9 ∨ K q = 10 ∨ (22 ≤ K q ∧ K q ≤ 32 ∧ (¬ K q = 29 ∨ (fst < q ∧ 1 ≤ q ∧ (K (q - 1) = 2 ∨ K (q - 1) = 3 ∨ K (q - 1) = 17))))))
def y_P (K : Nat → Int) (fst x : Nat) : Nat := t_n (y_pb K fst) x
def y_I (K : Nat → Int) (x : Nat) : Nat := t_n (f_if K) x
/-- an error, or what is told -/
def y_b {α β : Type} (r : (Int × Nat) ⊕ α) (k : α → (Int × Nat) ⊕ β) : (Int × Nat) ⊕ β := match r with
  | .inl e => .inl e
  | .inr a => k a
/-- a number with its sign -/
def y_wh (K V : Nat → Int) (p : Nat) (lo hi : Int) : (Int × Nat) ⊕ Int :=
  if K p = 29 then (if lo ≤ -V (p + 1) ∧ -V (p + 1) ≤ hi then .inr (-V (p + 1)) else .inl (5, p + 1)) else if lo ≤ V p ∧ V p ≤ hi then .inr (V p) else .inl (5, p)
section TOLD
variable (K V : Nat → Int)
def y_inp (ins : List y_in) (p : Nat) : (Int × Nat) ⊕ List y_in :=
  if 3 ≤ ins.length then .inl (4, p) else if 0 ≤ y_ix V (V p) (ins.map (·.1)) 0 then .inl (3, p) else
  y_b (y_wh K V (p + 2) (-20) 20) fun lo => y_b (y_wh K V ((f_wh K (false, p + 2)).2 + 1) lo 20) fun hi => .inr (ins ++ [(p, lo, hi)])
def y_ins : Nat → List y_in → Nat → (Int × Nat) ⊕ List y_in
  | 0, ins, _ => .inr ins
  | n + 1, ins, p => y_b (y_inp K V ins p) fun ins' => if f_see K f_T (f_inp K (false, p)) 18 18 then y_ins n ins' ((f_inp K (false, p)).2 + 1) else .inr ins'
/-- whether an item has a name -/
abbrev y_tk (pr : y_pr) (v : Int) : Prop := 0 ≤ y_ix V v (pr.1.map (·.1)) 0 ∨ 0 ≤ y_ix V v (pr.2.map (·.1)) 0
/-- a function behind the token fun at p -/
def y_fun (pr : y_pr) (p : Nat) : (Int × Nat) ⊕ y_pr :=
  if 6 ≤ pr.1.length then .inl (4, p) else if y_tk V pr (V (p + 1)) then .inl (3, p + 1) else
  y_b (y_ins K V f_T [] (p + 3)) fun ins =>
  match m_ex K V ((f_ins K f_T (false, p + 3)).2 + 2 + 50) (y_P K ((f_ins K f_T (false, p + 3)).2 + 2)) (y_I K) (y_E V pr.1 ins) 415 6 0 ((f_ins K f_T (false, p + 3)).2 + 2) [] with
  | .inl e => .inl e
  | .inr (l, z) => if 200 < (f_bod K (false, (f_ins K f_T (false, p + 3)).2 + 2)).2 - ((f_ins K f_T (false, p + 3)).2 + 2) + z then .inl (4, p + 1) else
    .inr (pr.1 ++ [(p + 1, ins, y_P K ((f_ins K f_T (false, p + 3)).2 + 2) (f_bod K (false, (f_ins K f_T (false, p + 3)).2 + 2)).2, (f_bod K (false, (f_ins K f_T (false, p + 3)).2 + 2)).2 - ((f_ins K f_T (false, p + 3)).2 + 2) + z, m_hd l)], pr.2)
def y_i0 : y_in := (0, 0, 0)
/-- a cell: its range, if there is an input for it -/
def y_cel (ins : List y_in) (c p : Nat) : (Int × Nat) ⊕ List (Int × Int) :=
  if c < ins.length then
    if K p = 30 then .inr [((ins.getD c y_i0).2.1, (ins.getD c y_i0).2.2)] else
    y_b (y_wh K V p (ins.getD c y_i0).2.1 (ins.getD c y_i0).2.2) fun one =>
    if f_see K f_T (f_wh K (false, p)) 33 33 then y_b (y_wh K V ((f_wh K (false, p)).2 + 1) one (ins.getD c y_i0).2.2) fun other => .inr [(one, other)] else .inr [(one, one)]
  else .inr []
/-- cells: their ranges, their number -/
def y_cls (ins : List y_in) : Nat → List (Int × Int) → Nat → Nat → (Int × Nat) ⊕ (List (Int × Int) × Nat)
  | 0, l, c, _ => .inr (l, c)
  | n + 1, l, c, p => y_b (y_cel K V ins c p) fun l' => if f_see K f_T (f_cel K (false, p)) 18 18 then y_cls ins n (l ++ l') (c + 1) ((f_cel K (false, p)).2 + 1) else .inr (l ++ l', c + 1)
/-- what is to come out -/
def y_res (p : Nat) : Int × Int := if 22 ≤ K p ∧ K p ≤ 27 then (K p, if K (p + 1) = 29 then -V (p + 2) else V (p + 1)) else if K p = 14 then (14, 0) else (15, 0)
def y_wd (r : Int × Int) : Int := r.2 - r.1 + 1
def y_cs (l : List (Int × Int)) : Int := match l with
  | [] => 1
  | r :: l => y_wd r * y_cs l
def y_ct (rows : List y_rw) : Int := match rows with
  | [] => 0
  | r :: l => y_cs r.1 + y_ct l
def y_row (ins : List y_in) (rows : List y_rw) (p : Nat) : (Int × Nat) ⊕ List y_rw :=
  if 12 ≤ rows.length then .inl (4, p) else
  y_b (y_cls K V ins f_T [] 0 p) fun lc => if lc.2 ≠ ins.length then .inl (6, p) else
  if 100 < y_ct (rows ++ [(lc.1, y_res K V ((f_cls K f_T (false, p)).2 + 1))]) then .inl (4, p) else .inr (rows ++ [(lc.1, y_res K V ((f_cls K f_T (false, p)).2 + 1))])
def y_rws (ins : List y_in) : Nat → List y_rw → Nat → (Int × Nat) ⊕ List y_rw
  | 0, rows, _ => .inr rows
  | n + 1, rows, p => y_b (y_row K V ins rows p) fun rows' => if f_see K f_T (f_row K (false, p)) 21 21 then y_rws ins n rows' ((f_row K (false, p)).2 + 1) else .inr rows'
/-- a table behind the token table at p -/
def y_tab (pr : y_pr) (p : Nat) : (Int × Nat) ⊕ y_pr :=
  if 6 ≤ pr.2.length then .inl (4, p) else if y_tk V pr (V (p + 1)) then .inl (3, p + 1) else
  if y_ix V (V (p + 3)) (pr.1.map (·.1)) 0 < 0 then .inl (2, p + 3) else
  y_b (y_rws K V (pr.1.getD (y_ix V (V (p + 3)) (pr.1.map (·.1)) 0).toNat y_f0).2.1 f_T [] (p + 5)) fun rows => .inr (pr.1, pr.2 ++ [(p + 1, (y_ix V (V (p + 3)) (pr.1.map (·.1)) 0).toNat, rows)])
def y_itm (pr : y_pr) (p : Nat) : (Int × Nat) ⊕ y_pr := if K p = 4 then y_fun K V pr p else y_tab K V pr p
def y_its : Nat → y_pr → Nat → (Int × Nat) ⊕ y_pr
  | 0, pr, _ => .inr pr
  | n + 1, pr, p => y_b (y_itm K V pr p) fun pr' => if (f_itm K (false, p)).1 = false ∧ ¬ f_see K f_T (f_itm K (false, p)) 0 0 then y_its n pr' (f_itm K (false, p)).2 else .inr pr'
end TOLD

/-! ===== the bench machine: values, worlds, rows, what a run comes to (pure; no JVM here) ===== -/
/-- a value: int, long, reference, double, a constant of the launch (a String, its bytes, a static row) -/
abbrev bm_V : Type := Int ⊕ (Int ⊕ (Option Nat ⊕ (UInt64 ⊕ (Nat × Nat))))
abbrev bm_i (x : Int) : bm_V := Sum.inl x
abbrev bm_l (x : Int) : bm_V := Sum.inr (Sum.inl x)
abbrev bm_r (x : Option Nat) : bm_V := Sum.inr (Sum.inr (Sum.inl x))
abbrev bm_d (x : UInt64) : bm_V := Sum.inr (Sum.inr (Sum.inr (Sum.inl x)))
abbrev bm_k (x : Nat × Nat) : bm_V := Sum.inr (Sum.inr (Sum.inr (Sum.inr x)))
abbrev bm_L : Type := List (Option bm_V)
/-- a world: ints, longs, references by address and place; the kind of an address (99: none), its length; the next address; slots made -/
abbrev bm_W : Type := (Nat → Nat → Int) × (Nat → Nat → Int) × (Nat → Nat → Option Nat) × (Nat → Nat) × (Nat → Nat) × Nat × Nat
def bm_gi (w : bm_W) : Nat → Nat → Int := w.1
def bm_gl (w : bm_W) : Nat → Nat → Int := w.2.1
def bm_gr (w : bm_W) : Nat → Nat → Option Nat := w.2.2.1
def bm_kt (w : bm_W) : Nat → Nat := w.2.2.2.1
def bm_kn (w : bm_W) : Nat → Nat := w.2.2.2.2.1
def bm_sz (w : bm_W) : Nat := w.2.2.2.2.2.1
def bm_sl (w : bm_W) : Nat := w.2.2.2.2.2.2
def bm_si (w : bm_W) (a k : Nat) (v : Int) : bm_W := (fun b j => if b = a ∧ j = k then v else w.1 b j, w.2)
def bm_sq (w : bm_W) (a k : Nat) (v : Int) : bm_W := (w.1, fun b j => if b = a ∧ j = k then v else w.2.1 b j, w.2.2)
def bm_sr (w : bm_W) (a k : Nat) (v : Option Nat) : bm_W := (w.1, w.2.1, fun b j => if b = a ∧ j = k then v else w.2.2.1 b j, w.2.2.2)
/-- a new cell of kind t, length n, with m slots -/
def bm_nw (w : bm_W) (t n m : Nat) : bm_W :=
  (fun b j => if b = bm_sz w then 0 else w.1 b j, fun b j => if b = bm_sz w then 0 else w.2.1 b j, fun b j => if b = bm_sz w then none else w.2.2.1 b j,
    fun b => if b = bm_sz w then t else w.2.2.2.1 b, fun b => if b = bm_sz w then n else w.2.2.2.2.1 b, bm_sz w + 1, bm_sl w + m)
/-- a new row that begins as a copy of the row a -/
def bm_cp (w : bm_W) (a : Nat) : bm_W :=
  (fun b j => if b = bm_sz w then w.1 a j else w.1 b j, fun b j => if b = bm_sz w then w.2.1 a j else w.2.1 b j, fun b j => if b = bm_sz w then none else w.2.2.1 b j,
    fun b => if b = bm_sz w then bm_kt w a else w.2.2.2.1 b, fun b => if b = bm_sz w then bm_kn w a else w.2.2.2.2.1 b, bm_sz w + 1, bm_sl w + bm_kn w a)
/-- n places of the row a, from p on, copied into the row b, from q on -/
def bm_ci (w : bm_W) (a p b q n : Nat) : bm_W := (fun c j => if c = b ∧ q ≤ j ∧ j < q + n then w.1 a (p + (j - q)) else w.1 c j, w.2)
def bm_cl (w : bm_W) (a p b q n : Nat) : bm_W := (w.1, fun c j => if c = b ∧ q ≤ j ∧ j < q + n then w.2.1 a (p + (j - q)) else w.2.1 c j, w.2.2)
/-- an exception has come: a cell of six slots at most -/
def bm_tw (w : bm_W) : bm_W := (w.1, w.2.1, w.2.2.1, w.2.2.2.1, w.2.2.2.2.1, bm_sz w + 1, bm_sl w + 6)
/-- wrap-around -/
def bm_w (x : Int) : Int := (x + 2147483648) % 4294967296 - 2147483648
def bm_x (x : Int) : Int := (x + 9223372036854775808) % 18446744073709551616 - 9223372036854775808
def bm_b8 (x : Int) : Int := (x + 128) % 256 - 128
def bm_InI (x : Int) : Prop := -2147483648 ≤ x ∧ x < 2147483648
def bm_InL (x : Int) : Prop := -9223372036854775808 ≤ x ∧ x < 9223372036854775808
/-- the i-th of a list, the locals -/
def bm_nth {α : Type} : List α → Nat → Option α
  | [], _ => none
  | a :: _, 0 => some a
  | _ :: l, n + 1 => bm_nth l n
def bm_kl (o : Option bm_V) : Nat → Option bm_V
  | 0 => match o with
    | some (.inr (.inl _)) => none
    | some (.inr (.inr (.inr (.inl _)))) => none
    | o => o
  | _ + 1 => o
def bm_st1 : bm_L → Nat → bm_V → bm_L
  | [], _, _ => []
  | _ :: r, 0, v => some v :: r
  | o :: r, i + 1, v => bm_kl o i :: bm_st1 r i v
def bm_st2 : bm_L → Nat → bm_V → bm_L
  | [], _, _ => []
  | [_], 0, v => [some v]
  | _ :: _ :: r, 0, v => some v :: none :: r
  | o :: r, i + 1, v => bm_kl o i :: bm_st2 r i v
def bm_mask : List Bool → bm_L → bm_L
  | [], l => l
  | _ :: _, [] => []
  | true :: m, o :: l => o :: bm_mask m l
  | false :: m, _ :: l => none :: bm_mask m l
abbrev bm_S : Type := Nat × bm_L × List bm_V × bm_W
abbrev bm_Rt : Type := Option bm_V ⊕ String
/-- a row of a method: plain; under a guard; a branch; a switch; a call (method, arguments, next, what it answers, its receiver: 0 none, 1 any object, 2 a String of the launch, t + 3 an object of class t); a return (0 void, 1 int, 2 truth, 3 long, 4 double, 5 reference, 6 char, 7 byte); a throw -/
abbrev bm_Row : Type := (bm_L → List bm_V → bm_W → Option bm_S) ⊕ ((bm_L → List bm_V → bm_W → Option (Prop × bm_S)) ⊕ ((bm_L → List bm_V → bm_W → Option (Bool × bm_S × bm_S)) ⊕ ((List bm_V → Option (Int × List (Int × Nat) × Nat × List bm_V)) ⊕ ((Nat × Nat × Nat × Nat × Nat) ⊕ (Nat ⊕ String)))))
abbrev bm_P (f : bm_L → List bm_V → bm_W → Option bm_S) : bm_Row := .inl f
abbrev bm_G (f : bm_L → List bm_V → bm_W → Option (Prop × bm_S)) : bm_Row := .inr (.inl f)
abbrev bm_B (f : bm_L → List bm_V → bm_W → Option (Bool × bm_S × bm_S)) : bm_Row := .inr (.inr (.inl f))
abbrev bm_Sw (f : List bm_V → Option (Int × List (Int × Nat) × Nat × List bm_V)) : bm_Row := .inr (.inr (.inr (.inl f)))
abbrev bm_C (y n nx rt rk : Nat) : bm_Row := .inr (.inr (.inr (.inr (.inl (y, n, nx, rt, rk)))))
abbrev bm_R (k : Nat) : bm_Row := .inr (.inr (.inr (.inr (.inr (.inl k)))))
abbrev bm_T (E : String) : bm_Row := .inr (.inr (.inr (.inr (.inr (.inr E)))))
abbrev bm_Tb : Type := List (Nat × List Bool × bm_Row)
def bm_look : bm_Tb → Nat → Option (List Bool × bm_Row)
  | [], _ => none
  | (p, r) :: l, n => if n.beq p = true then some r else bm_look l n
def bm_c0 (k : Prop) (kx : String → Prop) : bm_Rt → Prop
  | .inl none => k
  | .inl (some _) => False
  | .inr E => kx E
def bm_c1 (k : Int → Prop) (kx : String → Prop) : bm_Rt → Prop
  | .inl (some (.inl x)) => k x
  | .inl _ => False
  | .inr E => kx E
def bm_c2 (k : Int → Prop) (kx : String → Prop) : bm_Rt → Prop
  | .inl (some (.inr (.inl x))) => k x
  | .inl _ => False
  | .inr E => kx E
def bm_c3 (k : Nat → Prop) (kx : String → Prop) : bm_Rt → Prop
  | .inl (some (.inr (.inr (.inl (some x))))) => k x
  | .inl _ => False
  | .inr E => kx E
def bm_c4 (k : UInt64 → Prop) (kx : String → Prop) : bm_Rt → Prop
  | .inl (some (.inr (.inr (.inr (.inl x))))) => k x
  | .inl _ => False
  | .inr E => kx E
def bm_c5 (k : Prop) : bm_Rt → Prop
  | .inl none => k
  | .inl (some _) => False
  | .inr _ => False
def bm_sw (x : Int) (k : Nat → Prop) : List (Int × Nat) → Nat → Prop
  | [], d => k d
  | (a, p) :: r, d => if x = a then k p else bm_sw x k r d
/-- what lies under a call's arguments: at most 8 words -/
def bm_wt : List bm_V → Nat
  | [] => 0
  | .inr (.inl _) :: r => bm_wt r + 2
  | .inr (.inr (.inr (.inl _))) :: r => bm_wt r + 2
  | _ :: r => bm_wt r + 1
def bm_ok (n : Nat) (st : List bm_V) : Bool := match n.ble st.length with
  | true => (bm_wt (st.drop n)).ble 8
  | false => false
/-- the receiver of a call -/
def bm_rcv (w : bm_W) : Nat → List bm_V → Prop
  | 0, _ => True
  | 1, .inr (.inr (.inl (some _))) :: _ => True
  | 2, .inr (.inr (.inr (.inr (0, i)))) :: _ => i < 20
  | t + 3, .inr (.inr (.inl (some b))) :: _ => bm_kt w b = t
  | _, _ => False
abbrev bm_Ca : Type := Nat → List bm_V → bm_W → (bm_Rt → bm_W → Prop) → Prop
def bm_exe (C : bm_Ca) (r : bm_Row) (P : bm_S → Prop) (F : bm_Rt → bm_W → Prop) (lo : bm_L) (st : List bm_V) (w : bm_W) : Prop :=
  match r with
  | .inl f => match f lo st w with
    | some s => P s
    | none => False
  | .inr (.inl f) => match f lo st w with
    | some (g, s) => g ∧ P s
    | none => False
  | .inr (.inr (.inl f)) => match f lo st w with
    | some (b, s, t) => if b = true then P s else P t
    | none => False
  | .inr (.inr (.inr (.inl f))) => match f st with
    | some (x, cs, d, st') => bm_sw x (fun pc => P (pc, lo, st', w)) cs d
    | none => False
  | .inr (.inr (.inr (.inr (.inl (y, n, nx, rt, rk))))) => match bm_ok n st with
    | false => False
    | true => bm_rcv w rk (st.take n).reverse ∧ match rt with
      | 0 => C y (st.take n).reverse w (fun r w' => bm_c0 (P (nx, lo, st.drop n, w')) (fun E => F (.inr E) w') r)
      | 1 => C y (st.take n).reverse w (fun r w' => bm_c1 (fun x => P (nx, lo, bm_i x :: st.drop n, w')) (fun E => F (.inr E) w') r)
      | 2 => C y (st.take n).reverse w (fun r w' => bm_c2 (fun x => P (nx, lo, bm_l x :: st.drop n, w')) (fun E => F (.inr E) w') r)
      | 3 => C y (st.take n).reverse w (fun r w' => bm_c3 (fun x => P (nx, lo, bm_r (some x) :: st.drop n, w')) (fun E => F (.inr E) w') r)
      | 4 => C y (st.take n).reverse w (fun r w' => bm_c4 (fun x => P (nx, lo, bm_d x :: st.drop n, w')) (fun E => F (.inr E) w') r)
      | 5 => C y (st.take n).reverse w (fun r w' => bm_c5 (P (nx, lo, st.drop n, w')) r)
      | _ => C y (st.take n).reverse w (fun r w' => bm_c1 (fun x => P (nx, lo, bm_i x :: st.drop n, w')) (fun _ => False) r)
  | .inr (.inr (.inr (.inr (.inr (.inl k))))) => match k, st with
    | 0, [] => F (.inl none) w
    | 1, [.inl x] => F (.inl (some (.inl x))) w
    | 2, [.inl x] => (x = 0 ∨ x = 1) ∧ F (.inl (some (.inl x))) w
    | 3, [.inr (.inl x)] => F (.inl (some (.inr (.inl x)))) w
    | 4, [.inr (.inr (.inr (.inl x)))] => F (.inl (some (.inr (.inr (.inr (.inl x)))))) w
    | 5, [.inr (.inr (.inl x))] => F (.inl (some (.inr (.inr (.inl x))))) w
    | 6, [.inl x] => (0 ≤ x ∧ x < 65536) ∧ F (.inl (some (.inl x))) w
    | 7, [.inl x] => (-128 ≤ x ∧ x < 128) ∧ F (.inl (some (.inl x))) w
    | _, _ => False
  | .inr (.inr (.inr (.inr (.inr (.inr E))))) => match st with
    | [] => F (.inr E) (bm_tw w)
    | _ :: _ => False
def bm_stp (C : bm_Ca) (tb : bm_Tb) (P : bm_S → Prop) (F : bm_Rt → bm_W → Prop) (s : bm_S) : Prop :=
  match bm_look tb s.1 with
  | none => False
  | some (m, r) => bm_exe C r P F (bm_mask m s.2.1) s.2.2.1 s.2.2.2
/-- from s the run of the table comes to an end with F -/
def bm_Wp (C : bm_Ca) (tb : bm_Tb) (F : bm_Rt → bm_W → Prop) (s : bm_S) : Prop := ∀ P : bm_S → Prop, (∀ t, bm_stp C tb P F t → P t) → P s
def bm_mono (C : bm_Ca) : Prop := ∀ (y : Nat) (as : List bm_V) (w : bm_W) (F G : bm_Rt → bm_W → Prop), (∀ r w', F r w' → G r w') → C y as w F → C y as w G
theorem bm_c0_mono {k k' : Prop} {kx kx' : String → Prop} (h : k → k') (hx : ∀ E, kx E → kx' E) : ∀ r, bm_c0 k kx r → bm_c0 k' kx' r
  | .inl none, q => h q
  | .inl (some _), q => q
  | .inr E, q => hx E q
theorem bm_c1_mono {k k' : Int → Prop} {kx kx' : String → Prop} (h : ∀ x, k x → k' x) (hx : ∀ E, kx E → kx' E) : ∀ r, bm_c1 k kx r → bm_c1 k' kx' r
  | .inl (some (.inl x)), q => h x q
  | .inl none, q => q
  | .inl (some (.inr _)), q => q
  | .inr E, q => hx E q
theorem bm_c2_mono {k k' : Int → Prop} {kx kx' : String → Prop} (h : ∀ x, k x → k' x) (hx : ∀ E, kx E → kx' E) : ∀ r, bm_c2 k kx r → bm_c2 k' kx' r
  | .inl (some (.inr (.inl x))), q => h x q
  | .inl none, q => q
  | .inl (some (.inl _)), q => q
  | .inl (some (.inr (.inr _))), q => q
  | .inr E, q => hx E q
theorem bm_c3_mono {k k' : Nat → Prop} {kx kx' : String → Prop} (h : ∀ x, k x → k' x) (hx : ∀ E, kx E → kx' E) : ∀ r, bm_c3 k kx r → bm_c3 k' kx' r
  | .inl (some (.inr (.inr (.inl (some x))))), q => h x q
  | .inl (some (.inr (.inr (.inl none)))), q => q
  | .inl none, q => q
  | .inl (some (.inl _)), q => q
  | .inl (some (.inr (.inl _))), q => q
  | .inl (some (.inr (.inr (.inr _)))), q => q
  | .inr E, q => hx E q
theorem bm_c4_mono {k k' : UInt64 → Prop} {kx kx' : String → Prop} (h : ∀ x, k x → k' x) (hx : ∀ E, kx E → kx' E) : ∀ r, bm_c4 k kx r → bm_c4 k' kx' r
  | .inl (some (.inr (.inr (.inr (.inl x))))), q => h x q
  | .inl none, q => q
  | .inl (some (.inl _)), q => q
  | .inl (some (.inr (.inl _))), q => q
  | .inl (some (.inr (.inr (.inl _)))), q => q
  | .inl (some (.inr (.inr (.inr (.inr _))))), q => q
  | .inr E, q => hx E q
theorem bm_c5_mono {k k' : Prop} (h : k → k') : ∀ r, bm_c5 k r → bm_c5 k' r
  | .inl none, q => h q
  | .inl (some _), q => q
  | .inr _, q => q
theorem bm_sw_mono {x : Int} {k k' : Nat → Prop} (h : ∀ p, k p → k' p) : ∀ (cs : List (Int × Nat)) (d : Nat), bm_sw x k cs d → bm_sw x k' cs d
  | [], d, q => h d q
  | (a, p) :: r, d, q => by
    unfold bm_sw at q ⊢
    split
    · rename_i e; rw [if_pos e] at q; exact h p q
    · rename_i e; rw [if_neg e] at q; exact bm_sw_mono h r d q
theorem bm_exe_mono {C : bm_Ca} (hC : bm_mono C) {P P' : bm_S → Prop} {F F' : bm_Rt → bm_W → Prop} (hP : ∀ s, P s → P' s) (hF : ∀ r w, F r w → F' r w) (r : bm_Row) (lo : bm_L) (st : List bm_V) (w : bm_W) (h : bm_exe C r P F lo st w) : bm_exe C r P' F' lo st w := by
  rcases r with f | f | f | f | ⟨y, n, nx, rt, rk⟩ | k | E
  · simp only [bm_exe] at h ⊢
    cases e : f lo st w with
    | none => rw [e] at h; exact h
    | some s => rw [e] at h; exact hP s h
  · simp only [bm_exe] at h ⊢
    cases e : f lo st w with
    | none => rw [e] at h; exact h
    | some s => rw [e] at h; exact ⟨h.1, hP _ h.2⟩
  · simp only [bm_exe] at h ⊢
    cases e : f lo st w with
    | none => rw [e] at h; exact h
    | some s =>
      rw [e] at h
      obtain ⟨b, s1, s2⟩ := s
      cases b
      · exact hP _ h
      · exact hP _ h
  · simp only [bm_exe] at h ⊢
    cases e : f st with
    | none => rw [e] at h; exact h
    | some s =>
      rw [e] at h
      exact bm_sw_mono (fun p q => hP _ q) _ _ h
  · simp only [bm_exe] at h ⊢
    cases e : bm_ok n st with
    | false => rw [e] at h; exact h
    | true =>
    rw [e] at h
    refine ⟨h.1, ?_⟩
    replace h := h.2
    match rt, h with
    | 0, h => exact hC _ _ _ _ _ (fun r w' q => bm_c0_mono (fun z => hP _ z) (fun E z => hF _ _ z) r q) h
    | 1, h => exact hC _ _ _ _ _ (fun r w' q => bm_c1_mono (fun x z => hP _ z) (fun E z => hF _ _ z) r q) h
    | 2, h => exact hC _ _ _ _ _ (fun r w' q => bm_c2_mono (fun x z => hP _ z) (fun E z => hF _ _ z) r q) h
    | 3, h => exact hC _ _ _ _ _ (fun r w' q => bm_c3_mono (fun x z => hP _ z) (fun E z => hF _ _ z) r q) h
    | 4, h => exact hC _ _ _ _ _ (fun r w' q => bm_c4_mono (fun x z => hP _ z) (fun E z => hF _ _ z) r q) h
    | 5, h => exact hC _ _ _ _ _ (fun r w' q => bm_c5_mono (fun z => hP _ z) r q) h
    | _ + 6, h => exact hC _ _ _ _ _ (fun r w' q => bm_c1_mono (fun x z => hP _ z) (fun E z => z) r q) h
  · match k, st, h with
    | 0, [], h => exact hF _ _ h
    | 1, [.inl x], h => exact hF _ _ h
    | 2, [.inl x], h => exact ⟨h.1, hF _ _ h.2⟩
    | 3, [.inr (.inl x)], h => exact hF _ _ h
    | 4, [.inr (.inr (.inr (.inl x)))], h => exact hF _ _ h
    | 5, [.inr (.inr (.inl x))], h => exact hF _ _ h
    | 6, [.inl x], h => exact ⟨h.1, hF _ _ h.2⟩
    | 7, [.inl x], h => exact ⟨h.1, hF _ _ h.2⟩
  · match st, h with
    | [], h => exact hF _ _ h
theorem bm_stp_mono {C : bm_Ca} (hC : bm_mono C) {tb : bm_Tb} {P P' : bm_S → Prop} {F F' : bm_Rt → bm_W → Prop} (hP : ∀ s, P s → P' s) (hF : ∀ r w, F r w → F' r w) (s : bm_S) (h : bm_stp C tb P F s) : bm_stp C tb P' F' s := by
  unfold bm_stp at h ⊢
  cases e : bm_look tb s.1 with
  | none => rw [e] at h; exact h
  | some q =>
    rw [e] at h
    exact bm_exe_mono hC hP hF _ _ _ _ h
theorem bm_Wp.step {C : bm_Ca} (hC : bm_mono C) {tb : bm_Tb} {F : bm_Rt → bm_W → Prop} {s : bm_S} (h : bm_stp C tb (bm_Wp C tb F) F s) : bm_Wp C tb F s := fun P hP =>
  hP s (bm_stp_mono hC (fun t ht => ht P hP) (fun _ _ q => q) s h)
theorem bm_Wp.mono {C : bm_Ca} (hC : bm_mono C) {tb : bm_Tb} {F G : bm_Rt → bm_W → Prop} (hF : ∀ r w, F r w → G r w) {s : bm_S} (h : bm_Wp C tb F s) : bm_Wp C tb G s :=
  h (bm_Wp C tb G) (fun t ht => bm_Wp.step hC (bm_stp_mono hC (fun _ q => q) hF t ht))
theorem bm_Wp.inv {C : bm_Ca} (hC : bm_mono C) {tb : bm_Tb} {F : bm_Rt → bm_W → Prop} {s : bm_S} (h : bm_Wp C tb F s) : bm_stp C tb (bm_Wp C tb F) F s :=
  h (fun s => bm_stp C tb (bm_Wp C tb F) F s) (fun t ht => bm_stp_mono hC (fun _ q => bm_Wp.step hC q) (fun _ _ q => q) t ht)
theorem bm_mask_idem : ∀ (m : List Bool) (l : bm_L), bm_mask m (bm_mask m l) = bm_mask m l
  | [], _ => rfl
  | true :: _, [] => rfl
  | false :: _, [] => rfl
  | true :: m, o :: l => by simp only [bm_mask]; rw [bm_mask_idem m l]
  | false :: m, _ :: l => by simp only [bm_mask]; rw [bm_mask_idem m l]
def bm_msk (tb : bm_Tb) (s : bm_S) : bm_S := match bm_look tb s.1 with
  | none => s
  | some (m, _) => (s.1, bm_mask m s.2.1, s.2.2.1, s.2.2.2)
theorem bm_Wp.msk {C : bm_Ca} (hC : bm_mono C) {tb : bm_Tb} {F : bm_Rt → bm_W → Prop} {s : bm_S} (h : bm_Wp C tb F (bm_msk tb s)) : bm_Wp C tb F s := by
  refine bm_Wp.step hC ?_
  have h2 := bm_Wp.inv hC h
  unfold bm_msk at h2
  unfold bm_stp at h2 ⊢
  cases e : bm_look tb s.1 with
  | none => simp only [e] at h2
  | some q =>
    obtain ⟨m, r⟩ := q
    simp only [e] at h2
    rw [bm_mask_idem] at h2
    exact h2
/-- many rows at once, till one of the stops (seen at arrival) -/
def bm_vcg (C : bm_Ca) (tb : bm_Tb) (F : bm_Rt → bm_W → Prop) (stops : List Nat) : Nat → bm_S → Prop
  | 0, s => bm_Wp C tb F s
  | n + 1, s => bm_stp C tb (fun t => match stops.any (fun q => t.1.beq q) with
    | true => bm_Wp C tb F (bm_msk tb t)
    | false => bm_vcg C tb F stops n t) F s
theorem bm_go {C : bm_Ca} (hC : bm_mono C) {tb : bm_Tb} {F : bm_Rt → bm_W → Prop} (stops : List Nat) : ∀ (n : Nat) (s : bm_S), bm_vcg C tb F stops n s → bm_Wp C tb F s
  | 0, _, h => h
  | n + 1, s, h => by
    refine bm_Wp.step hC (bm_stp_mono hC (fun t ht => ?_) (fun _ _ q => q) s h)
    cases e : stops.any (fun q => t.1.beq q) with
    | true =>
      simp only [e] at ht
      exact bm_Wp.msk hC ht
    | false =>
      simp only [e] at ht
      exact bm_go hC stops n t ht
/-- the locals at a method's entry -/
def bm_arg : List bm_V → bm_L
  | [] => []
  | .inr (.inl x) :: r => some (.inr (.inl x)) :: none :: bm_arg r
  | .inr (.inr (.inr (.inl x))) :: r => some (.inr (.inr (.inr (.inl x)))) :: none :: bm_arg r
  | v :: r => some v :: bm_arg r
def bm_pad : Nat → bm_L → bm_L
  | 0, _ => []
  | n + 1, [] => none :: bm_pad n []
  | n + 1, o :: l => o :: bm_pad n l
abbrev bm_Pg : Type := Nat → bm_Tb × Nat
def bm_Call (pg : bm_Pg) : Nat → bm_Ca
  | 0 => fun _ _ _ _ => False
  | d + 1 => fun y as w F => (bm_arg as).length.ble (pg y).2 = true ∧ bm_Wp (bm_Call pg d) (pg y).1 F (0, bm_pad (pg y).2 (bm_arg as), [], w)
theorem bm_Call_mono (pg : bm_Pg) : ∀ d, bm_mono (bm_Call pg d)
  | 0 => fun _ _ _ _ _ _ h => h
  | d + 1 => fun _ _ _ _ _ hF h => ⟨h.1, bm_Wp.mono (bm_Call_mono pg d) hF h.2⟩
/-- a call comes to one end -/
def bm_det (C : bm_Ca) : Prop := ∀ (y : Nat) (as : List bm_V) (w : bm_W) (F : bm_Rt → bm_W → Prop), C y as w F → ∃ r w', F r w' ∧ C y as w (fun r2 w2 => r2 = r ∧ w2 = w')
theorem bm_sw_ex {x : Int} {k : Nat → Prop} : ∀ (cs : List (Int × Nat)) (d : Nat), bm_sw x k cs d → ∃ p, k p ∧ ∀ k' : Nat → Prop, k' p → bm_sw x k' cs d
  | [], d, q => ⟨d, q, fun _ h => h⟩
  | (a, p) :: r, d, q => by
    unfold bm_sw at q
    by_cases e : x = a
    · rw [if_pos e] at q
      exact ⟨p, q, fun k' h => by unfold bm_sw; rw [if_pos e]; exact h⟩
    · rw [if_neg e] at q
      obtain ⟨p2, h1, h2⟩ := bm_sw_ex r d q
      exact ⟨p2, h1, fun k' h => by unfold bm_sw; rw [if_neg e]; exact h2 k' h⟩
theorem bm_Wp.det {C : bm_Ca} (hC : bm_mono C) (hD : bm_det C) {tb : bm_Tb} {F : bm_Rt → bm_W → Prop} {s : bm_S} (h : bm_Wp C tb F s) : ∃ r w', F r w' ∧ bm_Wp C tb (fun r2 w2 => r2 = r ∧ w2 = w') s := by
  refine h (fun s => ∃ r w', F r w' ∧ bm_Wp C tb (fun r2 w2 => r2 = r ∧ w2 = w') s) (fun t ht => ?_)
  unfold bm_stp at ht
  cases e : bm_look tb t.1 with
  | none => rw [e] at ht; exact ht.elim
  | some q =>
    obtain ⟨m, row⟩ := q
    rw [e] at ht
    dsimp only at ht
    have key : ∀ G : bm_Rt → bm_W → Prop, bm_exe C row (bm_Wp C tb G) G (bm_mask m t.2.1) t.2.2.1 t.2.2.2 → bm_Wp C tb G t := fun G hG => bm_Wp.step hC (by unfold bm_stp; rw [e]; exact hG)
    generalize bm_mask m t.2.1 = lo at ht key
    generalize t.2.2.1 = st at ht key
    generalize t.2.2.2 = w at ht key
    rcases row with f | f | f | f | ⟨y, n, nx, rt, rk⟩ | k | E
    · simp only [bm_exe] at ht key
      cases e2 : f lo st w with
      | none => rw [e2] at ht; exact ht.elim
      | some s1 =>
        rw [e2] at ht
        obtain ⟨r, w', h1, h2⟩ := ht
        exact ⟨r, w', h1, key _ (by rw [e2]; exact h2)⟩
    · simp only [bm_exe] at ht key
      cases e2 : f lo st w with
      | none => rw [e2] at ht; exact ht.elim
      | some s1 =>
        rw [e2] at ht
        obtain ⟨hg, r, w', h1, h2⟩ := ht
        exact ⟨r, w', h1, key _ (by rw [e2]; exact ⟨hg, h2⟩)⟩
    · simp only [bm_exe] at ht key
      cases e2 : f lo st w with
      | none => rw [e2] at ht; exact ht.elim
      | some s1 =>
        rw [e2] at ht
        obtain ⟨b, s1, s2⟩ := s1
        cases b
        · obtain ⟨r, w', h1, h2⟩ := ht
          exact ⟨r, w', h1, key _ (by rw [e2]; exact h2)⟩
        · obtain ⟨r, w', h1, h2⟩ := ht
          exact ⟨r, w', h1, key _ (by rw [e2]; exact h2)⟩
    · simp only [bm_exe] at ht key
      cases e2 : f st with
      | none => rw [e2] at ht; exact ht.elim
      | some s1 =>
        rw [e2] at ht
        obtain ⟨p, ⟨r, w', h1, h2⟩, h3⟩ := bm_sw_ex _ _ ht
        exact ⟨r, w', h1, key _ (by rw [e2]; exact h3 _ h2)⟩
    · simp only [bm_exe] at ht key
      cases e2 : bm_ok n st with
      | false => rw [e2] at ht; exact ht.elim
      | true =>
      rw [e2] at ht key
      have hrc := ht.1
      replace ht := ht.2
      replace key := fun G (hG : _) => key G ⟨hrc, hG⟩
      match rt, ht, key with
      | 0, ht, key =>
        obtain ⟨r, w', h1, h2⟩ := hD _ _ _ _ ht
        match r, h1, h2 with
        | .inl none, ⟨r3, w3, g1, g2⟩, h2 => exact ⟨r3, w3, g1, key _ (hC _ _ _ _ _ (fun r4 w4 q => by obtain ⟨rfl, rfl⟩ := q; exact g2) h2)⟩
        | .inr E, h1, h2 => exact ⟨.inr E, w', h1, key _ (hC _ _ _ _ _ (fun r4 w4 q => by obtain ⟨rfl, rfl⟩ := q; exact ⟨rfl, rfl⟩) h2)⟩
      | 1, ht, key =>
        obtain ⟨r, w', h1, h2⟩ := hD _ _ _ _ ht
        match r, h1, h2 with
        | .inl (some (.inl x)), ⟨r3, w3, g1, g2⟩, h2 => exact ⟨r3, w3, g1, key _ (hC _ _ _ _ _ (fun r4 w4 q => by obtain ⟨rfl, rfl⟩ := q; exact g2) h2)⟩
        | .inr E, h1, h2 => exact ⟨.inr E, w', h1, key _ (hC _ _ _ _ _ (fun r4 w4 q => by obtain ⟨rfl, rfl⟩ := q; exact ⟨rfl, rfl⟩) h2)⟩
      | 2, ht, key =>
        obtain ⟨r, w', h1, h2⟩ := hD _ _ _ _ ht
        match r, h1, h2 with
        | .inl (some (.inr (.inl x))), ⟨r3, w3, g1, g2⟩, h2 => exact ⟨r3, w3, g1, key _ (hC _ _ _ _ _ (fun r4 w4 q => by obtain ⟨rfl, rfl⟩ := q; exact g2) h2)⟩
        | .inr E, h1, h2 => exact ⟨.inr E, w', h1, key _ (hC _ _ _ _ _ (fun r4 w4 q => by obtain ⟨rfl, rfl⟩ := q; exact ⟨rfl, rfl⟩) h2)⟩
      | 3, ht, key =>
        obtain ⟨r, w', h1, h2⟩ := hD _ _ _ _ ht
        match r, h1, h2 with
        | .inl (some (.inr (.inr (.inl (some x))))), ⟨r3, w3, g1, g2⟩, h2 => exact ⟨r3, w3, g1, key _ (hC _ _ _ _ _ (fun r4 w4 q => by obtain ⟨rfl, rfl⟩ := q; exact g2) h2)⟩
        | .inr E, h1, h2 => exact ⟨.inr E, w', h1, key _ (hC _ _ _ _ _ (fun r4 w4 q => by obtain ⟨rfl, rfl⟩ := q; exact ⟨rfl, rfl⟩) h2)⟩
      | 4, ht, key =>
        obtain ⟨r, w', h1, h2⟩ := hD _ _ _ _ ht
        match r, h1, h2 with
        | .inl (some (.inr (.inr (.inr (.inl x))))), ⟨r3, w3, g1, g2⟩, h2 => exact ⟨r3, w3, g1, key _ (hC _ _ _ _ _ (fun r4 w4 q => by obtain ⟨rfl, rfl⟩ := q; exact g2) h2)⟩
        | .inr E, h1, h2 => exact ⟨.inr E, w', h1, key _ (hC _ _ _ _ _ (fun r4 w4 q => by obtain ⟨rfl, rfl⟩ := q; exact ⟨rfl, rfl⟩) h2)⟩
      | 5, ht, key =>
        obtain ⟨r, w', h1, h2⟩ := hD _ _ _ _ ht
        match r, h1, h2 with
        | .inl none, ⟨r3, w3, g1, g2⟩, h2 => exact ⟨r3, w3, g1, key _ (hC _ _ _ _ _ (fun r4 w4 q => by obtain ⟨rfl, rfl⟩ := q; exact g2) h2)⟩
      | _ + 6, ht, key =>
        obtain ⟨r, w', h1, h2⟩ := hD _ _ _ _ ht
        match r, h1, h2 with
        | .inl (some (.inl x)), ⟨r3, w3, g1, g2⟩, h2 => exact ⟨r3, w3, g1, key _ (hC _ _ _ _ _ (fun r4 w4 q => by obtain ⟨rfl, rfl⟩ := q; exact g2) h2)⟩
    · match k, st, ht, key with
      | 0, [], ht, key => exact ⟨_, _, ht, key _ ⟨rfl, rfl⟩⟩
      | 1, [.inl x], ht, key => exact ⟨_, _, ht, key _ ⟨rfl, rfl⟩⟩
      | 2, [.inl x], ht, key => exact ⟨_, _, ht.2, key _ ⟨ht.1, rfl, rfl⟩⟩
      | 3, [.inr (.inl x)], ht, key => exact ⟨_, _, ht, key _ ⟨rfl, rfl⟩⟩
      | 4, [.inr (.inr (.inr (.inl x)))], ht, key => exact ⟨_, _, ht, key _ ⟨rfl, rfl⟩⟩
      | 5, [.inr (.inr (.inl x))], ht, key => exact ⟨_, _, ht, key _ ⟨rfl, rfl⟩⟩
      | 6, [.inl x], ht, key => exact ⟨_, _, ht.2, key _ ⟨ht.1, rfl, rfl⟩⟩
      | 7, [.inl x], ht, key => exact ⟨_, _, ht.2, key _ ⟨ht.1, rfl, rfl⟩⟩
    · match st, ht, key with
      | [], ht, key => exact ⟨_, _, ht, key _ ⟨rfl, rfl⟩⟩
theorem bm_Call_det (pg : bm_Pg) : ∀ d, bm_det (bm_Call pg d)
  | 0 => fun _ _ _ _ h => h.elim
  | d + 1 => fun _ _ _ _ h => (bm_Wp.det (bm_Call_mono pg d) (bm_Call_det pg d) h.2).elim fun r q => q.elim fun w' q => ⟨r, w', q.1, h.1, q.2⟩
theorem bm_enter {pg : bm_Pg} {d y : Nat} {as : List bm_V} {w : bm_W} {F : bm_Rt → bm_W → Prop} (h0 : (bm_arg as).length.ble (pg y).2 = true) (h : bm_Wp (bm_Call pg d) (pg y).1 F (0, bm_pad (pg y).2 (bm_arg as), [], w)) : bm_Call pg (d + 1) y as w F := ⟨h0, h⟩
/-- more depth does no harm -/
theorem bm_Wp.le {C C' : bm_Ca} (hC' : bm_mono C') (hCC : ∀ y as w F, C y as w F → C' y as w F) {tb : bm_Tb} {F : bm_Rt → bm_W → Prop} {s : bm_S} (h : bm_Wp C tb F s) : bm_Wp C' tb F s := by
  refine h (bm_Wp C' tb F) (fun t ht => bm_Wp.step hC' ?_)
  unfold bm_stp at ht ⊢
  cases e : bm_look tb t.1 with
  | none => rw [e] at ht; exact ht
  | some q =>
    obtain ⟨m, row⟩ := q
    rw [e] at ht
    dsimp only at ht ⊢
    rcases row with f | f | f | f | ⟨y, n, nx, rt, rk⟩ | k | E
    · exact ht
    · exact ht
    · exact ht
    · exact ht
    · simp only [bm_exe] at ht ⊢
      generalize t.2.2.1 = st at ht ⊢
      cases e2 : bm_ok n st with
      | false => rw [e2] at ht; exact ht
      | true =>
      rw [e2] at ht
      refine ⟨ht.1, ?_⟩
      replace ht := ht.2
      match rt, ht with
      | 0, ht => exact hCC _ _ _ _ ht
      | 1, ht => exact hCC _ _ _ _ ht
      | 2, ht => exact hCC _ _ _ _ ht
      | 3, ht => exact hCC _ _ _ _ ht
      | 4, ht => exact hCC _ _ _ _ ht
      | 5, ht => exact hCC _ _ _ _ ht
      | _ + 6, ht => exact hCC _ _ _ _ ht
    · exact ht
    · exact ht
theorem bm_Call_succ (pg : bm_Pg) : ∀ (d y : Nat) (as : List bm_V) (w : bm_W) (F : bm_Rt → bm_W → Prop), bm_Call pg d y as w F → bm_Call pg (d + 1) y as w F
  | 0 => fun _ _ _ _ h => h.elim
  | d + 1 => fun _ _ _ _ h => ⟨h.1, bm_Wp.le (bm_Call_mono pg (d + 1)) (bm_Call_succ pg d) h.2⟩
theorem bm_Call_le (pg : bm_Pg) {d d' y : Nat} {as : List bm_V} {w : bm_W} {F : bm_Rt → bm_W → Prop} (hd : d ≤ d') (h : bm_Call pg d y as w F) : bm_Call pg d' y as w F := by
  induction hd with
  | refl => exact h
  | step _ ih => exact bm_Call_succ pg _ _ _ _ _ ih

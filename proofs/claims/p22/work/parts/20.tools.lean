/-! ===== tools: a call comes to one end; what calls answer ===== -/
def bm_both (C : bm_Ca) : Prop := ∀ (y : Nat) (as : List bm_V) (w : bm_W) (F G : bm_Rt → bm_W → Prop), C y as w F → C y as w G → ∃ r w', F r w' ∧ G r w'
theorem bm_sw_both {x : Int} {k k' : Nat → Prop} : ∀ (cs : List (Int × Nat)) (d : Nat), bm_sw x k cs d → bm_sw x k' cs d → ∃ p, k p ∧ k' p
  | [], d, q, q' => ⟨d, q, q'⟩
  | (a, p) :: r, d, q, q' => by
    unfold bm_sw at q q'
    by_cases e : x = a
    · rw [if_pos e] at q q'
      exact ⟨p, q, q'⟩
    · rw [if_neg e] at q q'
      exact bm_sw_both r d q q'
theorem bm_Wp.both {C : bm_Ca} (hC : bm_mono C) (hD : bm_both C) {tb : bm_Tb} {F : bm_Rt → bm_W → Prop} {s : bm_S} (h : bm_Wp C tb F s) : ∀ G : bm_Rt → bm_W → Prop, bm_Wp C tb G s → ∃ r w', F r w' ∧ G r w' := by
  refine h (fun s => ∀ G : bm_Rt → bm_W → Prop, bm_Wp C tb G s → ∃ r w', F r w' ∧ G r w') (fun t ht G hG => ?_)
  replace hG := bm_Wp.inv hC hG
  unfold bm_stp at ht hG
  cases e : bm_look tb t.1 with
  | none => rw [e] at ht; exact ht.elim
  | some q =>
    obtain ⟨m, row⟩ := q
    rw [e] at ht hG
    dsimp only at ht hG
    generalize bm_mask m t.2.1 = lo at ht hG
    generalize t.2.2.1 = st at ht hG
    generalize t.2.2.2 = w at ht hG
    rcases row with f | f | f | f | ⟨y, n, nx, rt, rk⟩ | k | E
    · simp only [bm_exe] at ht hG
      cases e2 : f lo st w with
      | none => rw [e2] at ht; exact ht.elim
      | some s1 => rw [e2] at ht hG; exact ht G hG
    · simp only [bm_exe] at ht hG
      cases e2 : f lo st w with
      | none => rw [e2] at ht; exact ht.elim
      | some s1 => rw [e2] at ht hG; exact ht.2 G hG.2
    · simp only [bm_exe] at ht hG
      cases e2 : f lo st w with
      | none => rw [e2] at ht; exact ht.elim
      | some s1 =>
        rw [e2] at ht hG
        obtain ⟨b, s1, s2⟩ := s1
        cases b
        · exact ht G hG
        · exact ht G hG
    · simp only [bm_exe] at ht hG
      cases e2 : f st with
      | none => rw [e2] at ht; exact ht.elim
      | some s1 =>
        rw [e2] at ht hG
        obtain ⟨p, h1, h2⟩ := bm_sw_both _ _ ht hG
        exact h1 G h2
    · simp only [bm_exe] at ht hG
      cases e2 : bm_ok n st with
      | false => rw [e2] at ht; exact ht.elim
      | true =>
      rw [e2] at ht hG
      replace ht := ht.2
      replace hG := hG.2
      match rt, ht, hG with
      | 0, ht, hG =>
        obtain ⟨r, w', h1, h2⟩ := hD _ _ _ _ _ ht hG
        match r, h1, h2 with
        | .inl none, h1, h2 => exact h1 G h2
        | .inr E, h1, h2 => exact ⟨_, _, h1, h2⟩
      | 1, ht, hG =>
        obtain ⟨r, w', h1, h2⟩ := hD _ _ _ _ _ ht hG
        match r, h1, h2 with
        | .inl (some (.inl x)), h1, h2 => exact h1 G h2
        | .inr E, h1, h2 => exact ⟨_, _, h1, h2⟩
      | 2, ht, hG =>
        obtain ⟨r, w', h1, h2⟩ := hD _ _ _ _ _ ht hG
        match r, h1, h2 with
        | .inl (some (.inr (.inl x))), h1, h2 => exact h1 G h2
        | .inr E, h1, h2 => exact ⟨_, _, h1, h2⟩
      | 3, ht, hG =>
        obtain ⟨r, w', h1, h2⟩ := hD _ _ _ _ _ ht hG
        match r, h1, h2 with
        | .inl (some (.inr (.inr (.inl (some x))))), h1, h2 => exact h1 G h2
        | .inr E, h1, h2 => exact ⟨_, _, h1, h2⟩
      | 4, ht, hG =>
        obtain ⟨r, w', h1, h2⟩ := hD _ _ _ _ _ ht hG
        match r, h1, h2 with
        | .inl (some (.inr (.inr (.inr (.inl x))))), h1, h2 => exact h1 G h2
        | .inr E, h1, h2 => exact ⟨_, _, h1, h2⟩
      | 5, ht, hG =>
        obtain ⟨r, w', h1, h2⟩ := hD _ _ _ _ _ ht hG
        match r, h1, h2 with
        | .inl none, h1, h2 => exact h1 G h2
      | _ + 6, ht, hG =>
        obtain ⟨r, w', h1, h2⟩ := hD _ _ _ _ _ ht hG
        match r, h1, h2 with
        | .inl (some (.inl x)), h1, h2 => exact h1 G h2
    · match k, st, ht, hG with
      | 0, [], ht, hG => exact ⟨_, _, ht, hG⟩
      | 1, [.inl x], ht, hG => exact ⟨_, _, ht, hG⟩
      | 2, [.inl x], ht, hG => exact ⟨_, _, ht.2, hG.2⟩
      | 3, [.inr (.inl x)], ht, hG => exact ⟨_, _, ht, hG⟩
      | 4, [.inr (.inr (.inr (.inl x)))], ht, hG => exact ⟨_, _, ht, hG⟩
      | 5, [.inr (.inr (.inl x))], ht, hG => exact ⟨_, _, ht, hG⟩
      | 6, [.inl x], ht, hG => exact ⟨_, _, ht.2, hG.2⟩
      | 7, [.inl x], ht, hG => exact ⟨_, _, ht.2, hG.2⟩
    · match st, ht, hG with
      | [], ht, hG => exact ⟨_, _, ht, hG⟩
theorem bm_Call_both (pg : bm_Pg) : ∀ d, bm_both (bm_Call pg d)
  | 0 => fun _ _ _ _ _ h => h.elim
  | d + 1 => fun _ _ _ _ _ h h' => bm_Wp.both (bm_Call_mono pg d) (bm_Call_both pg d) h.2 _ h'.2
/-- a call of which one end is known -/
theorem bm_ans {d y : Nat} {as : List bm_V} {w : bm_W} {r0 : bm_Rt} {w0 : bm_W} {Φ : bm_Rt → bm_W → Prop} (h : ∀ Ψ : bm_Rt → bm_W → Prop, Ψ r0 w0 → bm_Call bm_pg d y as w Ψ) : bm_Call bm_pg d y as w Φ ↔ Φ r0 w0 :=
  ⟨fun q => by
    obtain ⟨r, w', h1, rfl, rfl⟩ := bm_Call_both bm_pg d _ _ _ _ _ q (h (fun r w' => r = r0 ∧ w' = w0) ⟨rfl, rfl⟩)
    exact h1, h Φ⟩
theorem bm_c0_v {k : Prop} {kx : String → Prop} : bm_c0 k kx (.inl none) = k := rfl
theorem bm_c1_v {k : Int → Prop} {kx : String → Prop} {x : Int} : bm_c1 k kx (.inl (some (.inl x))) = k x := rfl
theorem bm_c2_v {k : Int → Prop} {kx : String → Prop} {x : Int} : bm_c2 k kx (.inl (some (.inr (.inl x)))) = k x := rfl
theorem bm_c3_v {k : Nat → Prop} {kx : String → Prop} {x : Nat} : bm_c3 k kx (.inl (some (.inr (.inr (.inl (some x)))))) = k x := rfl
theorem bm_c4_v {k : UInt64 → Prop} {kx : String → Prop} {x : UInt64} : bm_c4 k kx (.inl (some (.inr (.inr (.inr (.inl x)))))) = k x := rfl
theorem bm_c5_v {k : Prop} : bm_c5 k (.inl none) = k := rfl
theorem bm_u_some (x : Nat) : bm_u (some x) = x := rfl
theorem q_wI {x : Int} (h : bm_InI x) : bm_w x = x := by
  have h1 := h.1
  have h2 := h.2
  unfold bm_w
  omega
theorem q_xL {x : Int} (h : bm_InL x) : bm_x x = x := by
  have h1 := h.1
  have h2 := h.2
  unfold bm_x
  omega
/-- one or nought -/
def bm_bo (b : Bool) : Int := if b = true then 1 else 0
theorem bm_bo_t : bm_bo true = 1 := rfl
theorem bm_bo_f : bm_bo false = 0 := rfl
theorem bm_bo_01 (b : Bool) : bm_bo b = 0 ∨ bm_bo b = 1 := by cases b <;> simp [bm_bo]
theorem bm_bo_0 (b : Bool) : (bm_bo b = 0) = (b = false) := by cases b <;> simp [bm_bo]

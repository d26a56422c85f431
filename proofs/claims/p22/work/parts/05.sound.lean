/-! ===== the bench machine stands over the JVM: what a row of a table owes ===== -/
abbrev bm_D : Type := va_G × (Nat → ClassId) × (Nat → Nat → Nat)
def bm_A (b0 : Nat) : Nat → Prop := fun q => b0 ≤ q
/-- a constant: a text, its bytes, a row of the class, or (3, j) a static field that is null or not -/
def bm_kv (D : bm_D) (k : Nat × Nat) : Value := bif Nat.beq k.1 3 then va_rf (bif Nat.beq (D.2.2 3 k.2) 0 then none else some (D.2.2 3 k.2 - 1)) else .ref (D.2.2 k.1 k.2)
theorem bm_kv_cat (D : bm_D) (k : Nat × Nat) : (bm_kv D k).category = 1 := by
  unfold bm_kv
  cases Nat.beq k.1 3
  · rfl
  · cases Nat.beq (D.2.2 3 k.2) 0 <;> rfl
theorem bm_kv_or (D : bm_D) (k : Nat × Nat) : bm_kv D k = .null ∨ ∃ a, bm_kv D k = .ref a := by
  unfold bm_kv
  cases Nat.beq k.1 3
  · exact Or.inr ⟨_, rfl⟩
  · cases Nat.beq (D.2.2 3 k.2) 0
    · exact Or.inr ⟨_, rfl⟩
    · exact Or.inl rfl
def bm_val (D : bm_D) : bm_V → Value
  | .inl x => .int (Int32.ofInt x)
  | .inr (.inl x) => .long (Int64.ofInt x)
  | .inr (.inr (.inl r)) => va_rf r
  | .inr (.inr (.inr (.inl d))) => .double d
  | .inr (.inr (.inr (.inr k))) => bm_kv D k
def bm_InV : bm_V → Prop
  | .inl x => bm_InI x
  | .inr (.inl x) => bm_InL x
  | _ => True
def bm_lv (D : bm_D) : Nat → bm_L → List (Nat × Value)
  | _, [] => []
  | i, none :: l => bm_lv D (i + 1) l
  | i, some v :: l => (i, bm_val D v) :: bm_lv D (i + 1) l
def bm_InLo (lo : bm_L) : Prop := ∀ v, some v ∈ lo → bm_InV v
def bm_InSt (st : List bm_V) : Prop := ∀ v ∈ st, bm_InV v
def bm_ty (t : Nat) : Nat → FieldType := match t with
  | 0 => tyX0 | 1 => tyX1 | 2 => tyX2 | 3 => tyX3 | 4 => tyX4 | 5 => tyX5 | 6 => tyX6 | 7 => tyX7 | 8 => tyX8 | 9 => tyX9 | 10 => tyX10 | 11 => tyX11 | _ => tyX12
def bm_fc (t : FieldType) : Nat := match t with
  | .long => 1
  | .object _ => 2
  | .array _ => 2
  | _ => 0
def bm_ec (t : Nat) : Nat := if t = 22 then 1 else if t < 24 then 0 else if t = 27 then 3 else 2
def bm_fv (c : Nat) (w : bm_W) (a k : Nat) : Value := match c with
  | 0 => .int (Int32.ofInt (bm_gi w a k))
  | 1 => .long (Int64.ofInt (bm_gl w a k))
  | 2 => va_rf (bm_gr w a k)
  | _ => .double (Int64.ofInt (bm_gl w a k)).toUInt64
def bm_cell (D : bm_D) (w : bm_W) (H : Heap) (a t : Nat) : Prop :=
  if t < 13 then ∃ r : vw_C, vwCl[t]? = some r ∧ t_OB a (D.1.1 t) r.2.2 (D.1.2 t) H (fun k => bm_fv (bm_fc (bm_ty t k)) w a k)
  else H[a]? = some (arrV (D.2.1 t) (bm_kn w a) (fun j => bm_fv (bm_ec t) w a j))
/-- the script (kind 91), and rows of texts (kind 92: the number of a text and 1, or 0) -/
def bm_tx (D : bm_D) (x : Int) : Value := if x ≤ 0 then .null else .ref (D.2.2 0 (x.toNat - 1))
def bm_HE (D : bm_D) (b0 : Nat) (w : bm_W) (H : Heap) : Prop := ∀ a, (bm_kt w a = 91 → a = D.2.2 4 0 ∧ bm_kn w a = D.2.2 5 0 ∧ ∀ k, bm_gi w a k = (Int32.ofNat (D.2.2 6 k)).toInt) ∧ (bm_kt w a = 92 → b0 ≤ a ∧ a < bm_sz w ∧ H[a]? = some (arrV (D.2.1 27) (bm_kn w a) (fun j => bm_tx D (bm_gi w a j))))
def bm_HC (D : bm_D) (b0 : Nat) (w : bm_W) (H : Heap) : Prop :=
  (∀ a k, bm_InI (bm_gi w a k) ∧ bm_InL (bm_gl w a k)) ∧ (∀ a, bm_kn w a < 2147483648) ∧ (∀ a, bm_kt w a < 90 → b0 ≤ a ∧ a < bm_sz w ∧ bm_cell D w H a (bm_kt w a)) ∧ (∀ a, bm_sz w ≤ a → bm_kt w a = 99) ∧ bm_HE D b0 w H
def bm_HR (D : bm_D) (b0 : Nat) (w : bm_W) (H : Heap) : Prop := H.size = bm_sz w ∧ bm_HC D b0 w H
def bm_HX (D : bm_D) (b0 : Nat) (w : bm_W) (H : Heap) : Prop := bm_HC D b0 (w.1, w.2.1, w.2.2.1, w.2.2.2.1, w.2.2.2.2.1, H.size, w.2.2.2.2.2.2) H
def bm_tys (D : bm_D) : List (ClassId × FieldType) := [(D.2.1 20, .byte), (D.2.1 21, .int), (D.2.1 22, .long), (D.2.1 23, .boolean), (D.2.1 24, .object "CaseTables$Fun"), (D.2.1 25, .object "CaseTables$Row"), (D.2.1 26, .object "CaseTables$Table"), (D.2.1 27, .object "java/lang/String")]
def bm_aty (t : Nat) : FieldType := match t with
  | 20 => .byte | 21 => .int | 22 => .long | 23 => .boolean | 24 => .object "CaseTables$Fun" | 25 => .object "CaseTables$Row" | _ => .object "CaseTables$Table"
theorem bm_tys_at (D : bm_D) {t : Nat} (h : 20 ≤ t) (h2 : t < 27) : (bm_tys D)[t - 20]? = some (D.2.1 t, bm_aty t) := by
  rcases (show t = 20 ∨ t = 21 ∨ t = 22 ∨ t = 23 ∨ t = 24 ∨ t = 25 ∨ t = 26 by omega) with rfl | rfl | rfl | rfl | rfl | rfl | rfl <;> rfl
/-- the words that calls hand on -/
def bm_ALL : List Cond := lw_tbl.filter goodWord
/-- words that only warm: nest mates, casts to Cloneable -/
def bm_nwk : Cond → Bool
  | .fieldLinkNest .. => true
  | .methodLinkNest .. => true
  | .castable .. => true
  | .declares .. => true
  | .arrayOver (.object _) => true
  | _ => false
def bm_NW : List Cond := lw_tbl.filter bm_nwk
theorem bm_nw_warm {w : Cond} (h : bm_nwk w = true) {s U : State} (hW : s.WarmedH U.vm) (hZ : va_Nw w s) : va_Nw w U := by
  cases w with
  | fieldLinkNest => exact va_Nw.warmF hW hZ
  | methodLinkNest => exact va_Nw.warmM hW hZ
  | castable => exact va_Nw.warmC hW hZ
  | declares => exact va_Nw.warmD hW hZ
  | arrayOver t => cases t with
    | object C => exact va_AO.moved hW.alike hZ
    | _ => exact absurd h (by simp [bm_nwk])
  | _ => exact absurd h (by simp [bm_nwk])
theorem bm_nw_use {w : Cond} (h : bm_nwk w = true) {A : Array Value} {U : State} (hZ : va_Nw w U) : w.before A U = true := by
  cases w with
  | fieldLinkNest => exact va_Nw.use rfl hZ
  | methodLinkNest => exact va_Nw.use rfl hZ
  | castable => exact va_Nw.use rfl hZ
  | declares => exact va_Nw.use rfl hZ
  | arrayOver t => cases t with
    | object C => exact va_AO.use hZ
    | _ => exact absurd h (by simp [bm_nwk])
  | _ => exact absurd h (by simp [bm_nwk])
/-- the launch's constants: Strings by number (their lengths, their bytes, where a class names them), static rows and numbers -/
abbrev bm_K : Type := (Nat × List Nat × List (List Int32)) × List (String × Nat × String × Nat) × List (String × String × String × bm_V) × (List Int64 × List Nat × List Nat)
def bm_ST (K : bm_K) (D : bm_D) (b0 : Nat) (U : State) (H : Heap) : Prop :=
  vk_S K.1.1 K.1.2.1 K.1.2.2 (D.2.2 0) (D.2.2 1) (bm_A b0) U H ∧ (∀ q ∈ K.2.1, vk_R q.1 q.2.1 q.2.2.1 (D.2.2 0 q.2.2.2) U) ∧ (∀ q ∈ K.2.2.1, va_Z q.1 q.2.1 q.2.2.1 (bm_val D q.2.2.2) (bm_A b0) U H) ∧
  va_T .long (D.2.2 2 0) K.2.2.2.1.length (fun k => .long (K.2.2.2.1.getD k 0)) (bm_A b0) U H ∧ va_T .int (D.2.2 4 0) (D.2.2 5 0) (fun k => .int (Int32.ofNat (D.2.2 6 k))) (bm_A b0) U H ∧ True ∧
  vx_Zq Bundle.tN "UNASSIGNED_STACK" Bundle.steD (bm_A b0) U H ∧ vx_Zq Bundle.tN "SUPPRESSED_SENTINEL" Bundle.listD (bm_A b0) U H ∧ ∀ w ∈ bm_NW, va_Nw w U
theorem bm_ST.moved {K : bm_K} {D : bm_D} {b0 : Nat} {s U : State} {H H1 : Heap} (hW : s.WarmedH U.vm) (hq : ∀ q : Nat, q < H.size → ¬ bm_A b0 q → H1[q]? = H[q]?) (h : bm_ST K D b0 s H) : bm_ST K D b0 U H1 := by
  obtain ⟨h1, h2, h3, h4, h5, h6, h7, h8, h9⟩ := h
  exact ⟨vk_S.moved hW.alike (vk_S.kept h1 hq), fun q hq2 => vk_R.warm hW (h2 q hq2), fun q hq2 => va_Z.moved hW.alike (va_Z.kept (h3 q hq2) hq), va_T.moved hW.alike (va_T.kept h4 hq), va_T.moved hW.alike (va_T.kept h5 hq), trivial,
    vx_Zq.moved hW.alike (h7.kept hq), vx_Zq.moved hW.alike (h8.kept hq), fun w hw => bm_nw_warm (List.mem_filter.mp hw).2 hW (h9 w hw)⟩
/-- a method's start, its end, its throw -/
def bm_Pc (K : bm_K) (D : bm_D) (b0 : Nat) (as : List bm_V) (w : bm_W) : Array Value → State → Prop :=
  va_Pc (as.map (bm_val D)) (fun U => b0 ≤ U.heap.size ∧ bm_HR D b0 w U.heap ∧ va_K D.1 vwCl (bm_tys D) U ∧ bm_ST K D b0 U U.heap)
def bm_Qc (D : bm_D) (b0 : Nat) (F : bm_Rt → bm_W → Prop) : Array Value → State → Outcome → State → Prop := fun _ st o t =>
  (∃ (r : Option bm_V) (w' : bm_W), o = .returned (r.map (bm_val D)) ∧ F (.inl r) w' ∧ (∀ v, r = some v → bm_InV v) ∧ bm_HR D b0 w' t.heap) ∧ va_F (bm_A b0) st t
def bm_XC (D : bm_D) (b0 : Nat) (F : bm_Rt → bm_W → Prop) : String → State → State → Prop := fun E st t =>
  (∃ w' : bm_W, F (.inr E) w' ∧ bm_HX D b0 w' t.heap) ∧ va_F (bm_A b0) st t
theorem bm_Pc.blind {K : bm_K} {D : bm_D} {b0 : Nat} {as : List bm_V} {w : bm_W} : FrameBlind (bm_Pc K D b0 as w) := fun a U g mk h => by
  obtain ⟨rfl, h1, h2, h3, h4⟩ := h
  exact ⟨rfl, h1, h2, va_K.moved (u := U) (U := U.calling g mk _) (Vm.Alike.refl U.vm) h3, bm_ST.moved (U := U.calling g mk _) (State.WarmedH.refl U) (fun _ _ _ => rfl) h4⟩
/-- the methods: by number, their names, bytes, answers -/
abbrev bm_Mi : Type := Nat → MethodName × ByteArray × Option FieldType
def bm_ws (mi : bm_Mi) (pg : bm_Pg) (y : Nat) : List Cond := Cond.code (mi y).1 (mi y).2.1 (pg y).2 (mi y).2.2 :: bm_ALL
def bm_rm (d mc ms : Nat) : Room := { frames := d + 12, cells := mc, slots := ms, locals := 40 * d + 400 }
def bm_le (w w' : bm_W) : Prop := bm_sz w ≤ bm_sz w' ∧ bm_sl w ≤ bm_sl w'
def bm_Bn (w0 : bm_W) (mc ms : Nat) (w : bm_W) : Prop := bm_sz w ≤ bm_sz w0 + mc ∧ bm_sl w ≤ bm_sl w0 + ms
/-- what depth d gives of every method -/
def bm_Con (K : bm_K) (pg : bm_Pg) (mi : bm_Mi) (l : Launch) (d : Nat) : Prop :=
  ∀ (D : bm_D) (b0 y : Nat) (as : List bm_V) (w : bm_W) (F : bm_Rt → bm_W → Prop) (mc ms : Nat), bm_InSt as → bm_Call pg d y as w F → (∀ r w', F r w' → bm_le w w' ∧ bm_Bn w mc ms w') →
    vx_Met l (mi y).1 (bm_ws mi pg y) (bm_rm d mc ms) (bm_Pc K D b0 as w) (bm_Qc D b0 F) (bm_XC D b0 F) mc ms (bm_A b0)
/-- a row never gives room back -/
def bm_Mo (r : bm_Row) : Prop := match r with
  | .inl f => ∀ lo st w t, f lo st w = some t → bm_le w t.2.2.2
  | .inr (.inl f) => ∀ lo st w g t, f lo st w = some (g, t) → g → bm_le w t.2.2.2
  | .inr (.inr (.inl f)) => ∀ lo st w b t u, f lo st w = some (b, t, u) → bm_le w t.2.2.2 ∧ bm_le w u.2.2.2
  | _ => True
theorem bm_le.rf {w : bm_W} : bm_le w w := ⟨Nat.le_refl _, Nat.le_refl _⟩
theorem bm_le.tr {a b c : bm_W} (h : bm_le a b) (h2 : bm_le b c) : bm_le a c := ⟨Nat.le_trans h.1 h2.1, Nat.le_trans h.2 h2.2⟩
def bm_CaMo (C : bm_Ca) : Prop := ∀ (y : Nat) (as : List bm_V) (w : bm_W) (F : bm_Rt → bm_W → Prop), C y as w F → C y as w (fun r w' => F r w' ∧ bm_le w w')
theorem bm_Wp.size {C : bm_Ca} (hC : bm_mono C) (hS : bm_CaMo C) {tb : bm_Tb} (hT : ∀ pc m r, bm_look tb pc = some (m, r) → bm_Mo r) {F : bm_Rt → bm_W → Prop} {s : bm_S} (h : bm_Wp C tb F s) : bm_Wp C tb (fun r w' => F r w' ∧ bm_le s.2.2.2 w') s := by
  refine h (fun s => bm_Wp C tb (fun r w' => F r w' ∧ bm_le s.2.2.2 w') s) (fun t ht => bm_Wp.step hC ?_)
  unfold bm_stp at ht ⊢
  cases e : bm_look tb t.1 with
  | none => rw [e] at ht; exact ht
  | some q =>
    obtain ⟨m, row⟩ := q
    have hm := hT _ _ _ e
    rw [e] at ht
    dsimp only at ht ⊢
    generalize bm_mask m t.2.1 = lo at ht ⊢
    generalize t.2.2.1 = st at ht ⊢
    generalize t.2.2.2 = w at ht ⊢
    have up : ∀ {w2 : bm_W} {u : bm_S}, u.2.2.2 = w2 → bm_le w w2 → bm_Wp C tb (fun r w' => F r w' ∧ bm_le u.2.2.2 w') u → bm_Wp C tb (fun r w' => F r w' ∧ bm_le w w') u := fun e2 h1 h2 => bm_Wp.mono hC (fun r w' q => ⟨q.1, bm_le.tr h1 (by rw [← e2]; exact q.2)⟩) h2
    rcases row with f | f | f | f | ⟨y, n, nx, rt, rk⟩ | k | E
    · simp only [bm_exe] at ht ⊢
      cases e2 : f lo st w with
      | none => rw [e2] at ht; exact ht
      | some u => rw [e2] at ht; exact up rfl (hm _ _ _ _ e2) ht
    · simp only [bm_exe] at ht ⊢
      cases e2 : f lo st w with
      | none => rw [e2] at ht; exact ht
      | some u => rw [e2] at ht; exact ⟨ht.1, up rfl (hm _ _ _ _ _ e2 ht.1) ht.2⟩
    · simp only [bm_exe] at ht ⊢
      cases e2 : f lo st w with
      | none => rw [e2] at ht; exact ht
      | some u =>
        obtain ⟨b, u1, u2⟩ := u
        rw [e2] at ht
        cases b
        · exact up rfl (hm _ _ _ _ _ _ e2).2 ht
        · exact up rfl (hm _ _ _ _ _ _ e2).1 ht
    · simp only [bm_exe] at ht ⊢
      cases e2 : f st with
      | none => rw [e2] at ht; exact ht
      | some u => rw [e2] at ht; exact ht
    · simp only [bm_exe] at ht ⊢
      cases e2 : bm_ok n st with
      | false => rw [e2] at ht; exact ht
      | true =>
      rw [e2] at ht
      refine ⟨ht.1, ?_⟩
      replace ht := ht.2
      match rt, ht with
      | 0, ht => exact hC _ _ _ _ _ (fun r w' q => bm_c0_mono (fun z => up rfl q.2 z) (fun E z => ⟨z, q.2⟩) r q.1) (hS _ _ _ _ ht)
      | 1, ht => exact hC _ _ _ _ _ (fun r w' q => bm_c1_mono (fun x z => up rfl q.2 z) (fun E z => ⟨z, q.2⟩) r q.1) (hS _ _ _ _ ht)
      | 2, ht => exact hC _ _ _ _ _ (fun r w' q => bm_c2_mono (fun x z => up rfl q.2 z) (fun E z => ⟨z, q.2⟩) r q.1) (hS _ _ _ _ ht)
      | 3, ht => exact hC _ _ _ _ _ (fun r w' q => bm_c3_mono (fun x z => up rfl q.2 z) (fun E z => ⟨z, q.2⟩) r q.1) (hS _ _ _ _ ht)
      | 4, ht => exact hC _ _ _ _ _ (fun r w' q => bm_c4_mono (fun x z => up rfl q.2 z) (fun E z => ⟨z, q.2⟩) r q.1) (hS _ _ _ _ ht)
      | 5, ht => exact hC _ _ _ _ _ (fun r w' q => bm_c5_mono (fun z => up rfl q.2 z) r q.1) (hS _ _ _ _ ht)
      | _ + 6, ht => exact hC _ _ _ _ _ (fun r w' q => bm_c1_mono (fun x z => up rfl q.2 z) (fun E z => z) r q.1) (hS _ _ _ _ ht)
    · match k, st, ht with
      | 0, [], ht => exact ⟨ht, bm_le.rf⟩
      | 1, [.inl x], ht => exact ⟨ht, bm_le.rf⟩
      | 2, [.inl x], ht => exact ⟨ht.1, ht.2, bm_le.rf⟩
      | 3, [.inr (.inl x)], ht => exact ⟨ht, bm_le.rf⟩
      | 4, [.inr (.inr (.inr (.inl x)))], ht => exact ⟨ht, bm_le.rf⟩
      | 5, [.inr (.inr (.inl x))], ht => exact ⟨ht, bm_le.rf⟩
      | 6, [.inl x], ht => exact ⟨ht.1, ht.2, bm_le.rf⟩
      | 7, [.inl x], ht => exact ⟨ht.1, ht.2, bm_le.rf⟩
    · match st, ht with
      | [], ht => exact ⟨ht, Nat.le_succ _, Nat.le_add_right _ 6⟩
theorem bm_Call_size {pg : bm_Pg} (hT : ∀ y pc m r, bm_look (pg y).1 pc = some (m, r) → bm_Mo r) : ∀ d, bm_CaMo (bm_Call pg d)
  | 0 => fun _ _ _ _ h => h
  | d + 1 => fun y _ _ _ h => ⟨h.1, bm_Wp.size (bm_Call_mono pg d) (bm_Call_size hT d) (hT y) h.2⟩
/-- where a walk of a method stands: machine, code, tables, constants, room -/
def bm_Cx (K : bm_K) (D : bm_D) (b0 mc ms d : Nat) (p : Program) (l : Launch) (R : Room) (s : State) (m : MethodId) (args : Array Value) (meth : Method) (c : Code) (cc : ByteArray) (nL : Nat) (own nm : String) (ret : Option FieldType) : Prop :=
  p.tables.exec = Jvm.exec ∧ c.code = cc ∧ c.maxLocals = nL ∧ s.vm.findClass own = some m.cls ∧ (∀ w ∈ bm_ALL, w.before args s = true) ∧ va_K D.1 vwCl (bm_tys D) s ∧ bm_ST K D b0 s s.heap ∧ meth.locks = false ∧ (∀ x ∈ c.exceptionTable.toList, False) ∧ l.stackTraces = false ∧
  b0 ≤ s.heap.size ∧ R.cells = mc ∧ R.slots = ms ∧ d + 13 ≤ R.frames ∧ 40 * d + 440 ≤ R.locals ∧ meth.sig.returnType = ret ∧ meth.name = nm
section BMW
variable {K : bm_K} {D : bm_D} {b0 mc ms d : Nat} {p : Program} {l : Launch} {e : Env} {R : Room} {s : State} {m : MethodId} {args : Array Value} {below : List Frame} {meth : Method} {c : Code} {cc : ByteArray} {nL : Nat} {own nm : String} {ret : Option FieldType} {w0 : bm_W} {F : bm_Rt → bm_W → Prop}
/-- the walk from a state of the bench machine -/
def bm_Wg (D : bm_D) (b0 mc ms : Nat) (p : Program) (l : Launch) (e : Env) (R : Room) (s : State) (m : MethodId) (args : Array Value) (below : List Frame) (meth : Method) (c : Code) (nL : Nat) (w0 : bm_W) (F : bm_Rt → bm_W → Prop) (t : bm_S) : Prop :=
  bm_Bn w0 mc ms t.2.2.2 ∧ ∀ (H : Heap) (locs : List Loc) (ls : Array Slot), t.2.1.length = nL → bm_InLo t.2.1 → bm_InSt t.2.2.1 → bm_HR D b0 t.2.2.2 H → va_S (bm_A b0) s.heap H locs → lv_has ls nL (bm_lv D 0 t.2.1) → bm_le w0 t.2.2.2 →
    W p l e R s m args below meth c H locs (bm_sz t.2.2.2 - bm_sz w0) (bm_sl t.2.2.2 - bm_sl w0) (vx_MQ below (bm_Qc D b0 F) (bm_XC D b0 F) args s mc ms (bm_A b0)) (F0 m t.1 ls (t.2.2.1.map (bm_val D)))
end BMW
/-- what a row owes -/
def bm_Sn (K : bm_K) (pg : bm_Pg) (mi : bm_Mi) (cc : ByteArray) (nL : Nat) (own nm : String) (ret : Option FieldType) (pc : Nat) (row : bm_Row) : Prop :=
  bm_Mo row ∧ ∀ (D : bm_D) (b0 mc ms d : Nat) (p : Program) (l : Launch) (e : Env) (R : Room) (s : State) (m : MethodId) (args : Array Value) (below : List Frame) (meth : Method) (c : Code) (w0 : bm_W) (F : bm_Rt → bm_W → Prop),
    bm_Cx K D b0 mc ms d p l R s m args meth c cc nL own nm ret → bm_Con K pg mi l d → bm_CaMo (bm_Call pg d) → (∀ r w', F r w' → bm_Bn w0 mc ms w') →
    ∀ (lo : bm_L) (st : List bm_V) (w : bm_W), bm_exe (bm_Call pg d) row (bm_Wg D b0 mc ms p l e R s m args below meth c nL w0 F) F lo st w → bm_Wg D b0 mc ms p l e R s m args below meth c nL w0 F (pc, lo, st, w)
theorem bm_lv_mask (D : bm_D) : ∀ (m : List Bool) (l : bm_L) (i : Nat), ∀ q ∈ bm_lv D i (bm_mask m l), q ∈ bm_lv D i l
  | [], l, i, q, h => h
  | _ :: _, [], i, q, h => by simp [bm_mask, bm_lv] at h
  | true :: m, none :: l, i, q, h => by
    simp only [bm_mask, bm_lv] at h ⊢
    exact bm_lv_mask D m l (i + 1) q h
  | true :: m, some v :: l, i, q, h => by
    simp only [bm_mask, bm_lv, List.mem_cons] at h ⊢
    exact h.imp id (bm_lv_mask D m l (i + 1) q)
  | false :: m, none :: l, i, q, h => by
    simp only [bm_mask, bm_lv] at h ⊢
    exact bm_lv_mask D m l (i + 1) q h
  | false :: m, some v :: l, i, q, h => by
    simp only [bm_mask, bm_lv, List.mem_cons] at h ⊢
    exact Or.inr (bm_lv_mask D m l (i + 1) q h)
theorem bm_in_mask : ∀ (m : List Bool) (l : bm_L) (v : bm_V), some v ∈ bm_mask m l → some v ∈ l
  | [], l, v, h => h
  | _ :: _, [], v, h => by simp [bm_mask] at h
  | true :: m, o :: l, v, h => by
    simp only [bm_mask, List.mem_cons] at h ⊢
    exact h.imp id (bm_in_mask m l v)
  | false :: m, _ :: l, v, h => by
    simp only [bm_mask, List.mem_cons] at h ⊢
    rcases h with h | h
    · cases h
    · exact Or.inr (bm_in_mask m l v h)
theorem bm_len_mask : ∀ (m : List Bool) (l : bm_L), m = [] ∨ m.length = l.length → (bm_mask m l).length = l.length
  | [], l, _ => rfl
  | _ :: _, [], h => by simp at h
  | true :: m, o :: l, h => by
    simp only [bm_mask, List.length_cons]
    rw [bm_len_mask m l (Or.inr (by simpa using h))]
  | false :: m, _ :: l, h => by
    simp only [bm_mask, List.length_cons]
    rw [bm_len_mask m l (Or.inr (by simpa using h))]
theorem bm_slc (v : Value) (vs : List Value) : (lg_sl (v :: vs)).length = (if v.category = 2 then 2 else 1) + (lg_sl vs).length := by
  unfold lg_sl
  rw [List.flatMap_cons, List.length_append]
  split <;> rfl
theorem bm_slot (D : bm_D) : ∀ as : List bm_V, (lg_sl (as.map (bm_val D))).length = (bm_arg as).length
  | [] => rfl
  | .inl x :: r => by rw [List.map_cons, bm_slc, bm_slot D r]; exact Nat.add_comm _ _
  | .inr (.inl x) :: r => by rw [List.map_cons, bm_slc, bm_slot D r]; exact Nat.add_comm _ _
  | .inr (.inr (.inl none)) :: r => by rw [List.map_cons, bm_slc, bm_slot D r]; exact Nat.add_comm _ _
  | .inr (.inr (.inl (some x))) :: r => by rw [List.map_cons, bm_slc, bm_slot D r]; exact Nat.add_comm _ _
  | .inr (.inr (.inr (.inl x))) :: r => by rw [List.map_cons, bm_slc, bm_slot D r]; exact Nat.add_comm _ _
  | .inr (.inr (.inr (.inr x))) :: r => by rw [List.map_cons, bm_slc, bm_slot D r, show (bm_val D (.inr (.inr (.inr (.inr x))))).category = 1 from bm_kv_cat D x]; exact Nat.add_comm _ _
theorem bm_lv_none (D : bm_D) : ∀ (n i : Nat), bm_lv D i (bm_pad n []) = []
  | 0, _ => rfl
  | n + 1, i => bm_lv_none D n (i + 1)
theorem bm_lv_pad (D : bm_D) : ∀ (n : Nat) (l : bm_L) (i : Nat), l.length ≤ n → bm_lv D i (bm_pad n l) = bm_lv D i l
  | 0, [], _, _ => rfl
  | 0, _ :: _, _, h => absurd h (by simp)
  | n + 1, [], i, _ => bm_lv_none D (n + 1) i
  | n + 1, none :: l, i, h => bm_lv_pad D n l (i + 1) (by simpa using h)
  | n + 1, some v :: l, i, h => by
    simp only [bm_pad, bm_lv]
    rw [bm_lv_pad D n l (i + 1) (by simpa using h)]
theorem bm_len_pad : ∀ (n : Nat) (l : bm_L), (bm_pad n l).length = n
  | 0, _ => rfl
  | n + 1, [] => by simp only [bm_pad, List.length_cons]; rw [bm_len_pad n []]
  | n + 1, _ :: l => by simp only [bm_pad, List.length_cons]; rw [bm_len_pad n l]
theorem bm_in_pad : ∀ (n : Nat) (l : bm_L) (v : bm_V), some v ∈ bm_pad n l → some v ∈ l
  | 0, _, v, h => by simp [bm_pad] at h
  | n + 1, [], v, h => by
    simp only [bm_pad, List.mem_cons] at h
    rcases h with h | h
    · cases h
    · exact bm_in_pad n [] v h
  | n + 1, o :: l, v, h => by
    simp only [bm_pad, List.mem_cons] at h ⊢
    exact h.imp id (bm_in_pad n l v)
theorem bm_lv_arg (D : bm_D) : ∀ (as : List bm_V) (i : Nat), bm_lv D i (bm_arg as) = lv_args i (as.map (bm_val D))
  | [], _ => rfl
  | .inl x :: r, i => by simp [bm_arg, bm_val, bm_lv, lv_args, Value.category, bm_lv_arg D r]
  | .inr (.inl x) :: r, i => by simp [bm_arg, bm_val, bm_lv, lv_args, Value.category, bm_lv_arg D r]
  | .inr (.inr (.inl none)) :: r, i => by simp [bm_arg, bm_val, bm_lv, lv_args, va_rf, Value.category, bm_lv_arg D r]
  | .inr (.inr (.inl (some x))) :: r, i => by simp [bm_arg, bm_val, bm_lv, lv_args, va_rf, Value.category, bm_lv_arg D r]
  | .inr (.inr (.inr (.inl x))) :: r, i => by simp [bm_arg, bm_val, bm_lv, lv_args, Value.category, bm_lv_arg D r]
  | .inr (.inr (.inr (.inr x))) :: r, i => by simp [bm_arg, bm_val, bm_lv, lv_args, bm_kv_cat, bm_lv_arg D r]
theorem bm_in_arg : ∀ (as : List bm_V) (v : bm_V), some v ∈ bm_arg as → v ∈ as
  | [], v, h => by simp [bm_arg] at h
  | .inl x :: r, v, h => by
    simp only [bm_arg, List.mem_cons, Option.some.injEq] at h ⊢
    exact h.imp id (bm_in_arg r v)
  | .inr (.inl x) :: r, v, h => by
    simp only [bm_arg, List.mem_cons, Option.some.injEq] at h ⊢
    rcases h with h | h | h
    · exact Or.inl h
    · cases h
    · exact Or.inr (bm_in_arg r v h)
  | .inr (.inr (.inl x)) :: r, v, h => by
    simp only [bm_arg, List.mem_cons, Option.some.injEq] at h ⊢
    exact h.imp id (bm_in_arg r v)
  | .inr (.inr (.inr (.inl x))) :: r, v, h => by
    simp only [bm_arg, List.mem_cons, Option.some.injEq] at h ⊢
    rcases h with h | h | h
    · exact Or.inl h
    · cases h
    · exact Or.inr (bm_in_arg r v h)
  | .inr (.inr (.inr (.inr x))) :: r, v, h => by
    simp only [bm_arg, List.mem_cons, Option.some.injEq] at h ⊢
    exact h.imp id (bm_in_arg r v)
/-- a method whose rows are sound keeps its contract -/
theorem bm_sound {K : bm_K} {pg : bm_Pg} {mi : bm_Mi} {l : Launch} (hl : l.stackTraces = false)
    (hR : ∀ y, plainName (mi y).1.cls = true ∧ ∀ pc m r, bm_look (pg y).1 pc = some (m, r) → (m = [] ∨ m.length = (pg y).2) ∧ bm_Sn K pg mi (mi y).2.1 (pg y).2 (mi y).1.cls (mi y).1.name (mi y).2.2 pc r) : ∀ d, bm_Con K pg mi l d := by
  have hS : ∀ d, bm_CaMo (bm_Call pg d) := bm_Call_size (fun y pc m r h => ((hR y).2 pc m r h).2.1)
  intro d
  induction d with
  | zero => intro D b0 y as w F mc ms _ h; exact h.elim
  | succ d ih =>
    intro D b0 y as w F mc ms hin hcall hF
    obtain ⟨ha, hcall⟩ := hcall
    have ha : (bm_arg as).length ≤ (pg y).2 := Nat.le_of_ble_eq_true ha
    refine vx_ofW (cc := (mi y).2.1) (maxL := (pg y).2) (ret := (mi y).2.2) (hR y).1 rfl ?_
    intro p e s m args below meth c s₁ B hml ht hPc
    obtain ⟨rfl, h1, h2, h3, h4⟩ := hPc
    have hat := atoms_spec (ws := bm_ws mi pg y) B.pre
    have hCx : bm_Cx K D b0 mc ms d p l (headSpec (bm_ws mi pg y) (bm_rm (d + 1) mc ms)).room s m (as.map (bm_val D)).toArray meth c (mi y).2.1 (pg y).2 (mi y).1.cls (mi y).1.name (mi y).2.2 :=
      ⟨B.exec, B.bytes, hml, findClass_of_methodNamed B.named, fun w hw => hat w (List.mem_cons_of_mem _ hw), h3, h4, B.notSynchronized, ht, hl, h1, rfl, rfl, Nat.le_refl _, Nat.le_of_eq (by show _ = 40 * (d + 1) + 400; omega), B.returns, (name_of_methodNamed B.named B.method).1⟩
    have main : bm_Wg D b0 mc ms p l e (headSpec (bm_ws mi pg y) (bm_rm (d + 1) mc ms)).room s m (as.map (bm_val D)).toArray below meth c (pg y).2 w F (0, bm_pad (pg y).2 (bm_arg as), [], w) := by
      refine hcall _ (fun t ht => ?_)
      unfold bm_stp at ht
      cases e2 : bm_look (pg y).1 t.1 with
      | none => rw [e2] at ht; exact ht.elim
      | some q =>
        obtain ⟨mk, row⟩ := q
        rw [e2] at ht
        dsimp only at ht
        obtain ⟨hmk, -, hsn⟩ := (hR y).2 _ _ _ e2
        obtain ⟨hb, hw⟩ := hsn D b0 mc ms d p l e _ s m _ below meth c w F hCx ih (hS d) (fun r w' q => (hF r w' q).2) _ _ _ ht
        refine ⟨hb, fun H locs ls g1 g2 g3 g4 g5 g6 g7 => ?_⟩
        have hlen : (bm_mask mk t.2.1).length = t.2.1.length := bm_len_mask _ _ (hmk.imp id fun q => q.trans g1.symm)
        exact hw H locs ls (hlen.trans g1) (fun v hv => g2 v (bm_in_mask _ _ _ hv)) g3 g4 g5 ⟨g6.1, g6.2.1, fun q hq => g6.2.2 q (bm_lv_mask D _ _ _ q hq)⟩ g7
    have hl0 := lv_entry (as.map (bm_val D)) (n := (pg y).2) (by rw [bm_slot]; exact ha)
    rw [lg_entry_eq]
    have h9 := main.2 s.heap [] _ (bm_len_pad _ _) (fun v hv => hin v (bm_in_arg as v (bm_in_pad _ _ v hv))) (fun v hv => by cases hv) h2 va_S.rf (by dsimp only; rw [bm_lv_pad D _ _ _ ha, bm_lv_arg]; exact hl0) bm_le.rf
    exact W.cs (Nat.sub_self _).symm (Nat.sub_self _).symm h9

/-! ===== the law's own code: kinds of answers, what its walks stand on, its calls ===== -/
/-- the kind of what a method answers -/
def bm_typ (k : Nat) : bm_Rt → Prop
  | .inr _ => True
  | .inl none => k = 0
  | .inl (some (.inl _)) => k = 1
  | .inl (some (.inr (.inl _))) => k = 3
  | .inl (some (.inr (.inr (.inl _)))) => k = 5
  | .inl (some (.inr (.inr (.inr (.inl _))))) => k = 4
  | .inl (some (.inr (.inr (.inr (.inr _))))) => False
def bm_rk (k : Nat) : bm_Row → Bool
  | .inr (.inr (.inr (.inr (.inr (.inl 0))))) => k.beq 0
  | .inr (.inr (.inr (.inr (.inr (.inl 1))))) => k.beq 1
  | .inr (.inr (.inr (.inr (.inr (.inl 2))))) => k.beq 1
  | .inr (.inr (.inr (.inr (.inr (.inl 3))))) => k.beq 3
  | .inr (.inr (.inr (.inr (.inr (.inl 4))))) => k.beq 4
  | .inr (.inr (.inr (.inr (.inr (.inl 5))))) => k.beq 5
  | .inr (.inr (.inr (.inr (.inr (.inl 6))))) => k.beq 1
  | .inr (.inr (.inr (.inr (.inr (.inl 7))))) => k.beq 1
  | _ => true
def bm_tbk (k : Nat) : bm_Tb → Bool
  | [] => true
  | (_, _, r) :: l => bm_rk k r && bm_tbk k l
theorem bm_tbk_at {k : Nat} : ∀ {l : bm_Tb}, bm_tbk k l = true → ∀ pc m r, bm_look l pc = some (m, r) → bm_rk k r = true
  | [], _, pc, m, r, h => by simp [bm_look] at h
  | (p, m', r') :: l, hb, pc, m, r, h => by
    simp only [bm_tbk, Bool.and_eq_true] at hb
    unfold bm_look at h
    cases e : pc.beq p with
    | true => rw [if_pos e] at h; cases h; exact hb.1
    | false => rw [if_neg (by rw [e]; exact Bool.false_ne_true)] at h; exact bm_tbk_at hb.2 pc m r h
theorem bm_Wp.typ {C : bm_Ca} (hC : bm_mono C) {tb : bm_Tb} {k : Nat} (hT : ∀ pc m r, bm_look tb pc = some (m, r) → bm_rk k r = true) {F : bm_Rt → bm_W → Prop} {s : bm_S} (h : bm_Wp C tb F s) : bm_Wp C tb (fun r w => F r w ∧ bm_typ k r) s := by
  refine h (fun s => bm_Wp C tb (fun r w => F r w ∧ bm_typ k r) s) (fun t ht => bm_Wp.step hC ?_)
  unfold bm_stp at ht ⊢
  cases e : bm_look tb t.1 with
  | none => rw [e] at ht; exact ht
  | some q =>
    obtain ⟨m, row⟩ := q
    have hm := hT _ _ _ e
    rw [e] at ht
    dsimp only at ht ⊢
    generalize bm_mask m t.2.1 = lo at ht ⊢
    generalize t.2.2.1 = st at ht ⊢
    generalize t.2.2.2 = w at ht ⊢
    rcases row with f | f | f | f | ⟨y, n, nx, rt, rk⟩ | j | E
    · exact ht
    · exact ht
    · exact ht
    · exact ht
    · simp only [bm_exe] at ht ⊢
      cases e2 : bm_ok n st with
      | false => rw [e2] at ht; exact ht
      | true =>
      rw [e2] at ht
      refine ⟨ht.1, ?_⟩
      replace ht := ht.2
      match rt, ht with
      | 0, ht => exact hC _ _ _ _ _ (fun r w' q => bm_c0_mono (fun z => z) (fun E z => ⟨z, trivial⟩) r q) ht
      | 1, ht => exact hC _ _ _ _ _ (fun r w' q => bm_c1_mono (fun x z => z) (fun E z => ⟨z, trivial⟩) r q) ht
      | 2, ht => exact hC _ _ _ _ _ (fun r w' q => bm_c2_mono (fun x z => z) (fun E z => ⟨z, trivial⟩) r q) ht
      | 3, ht => exact hC _ _ _ _ _ (fun r w' q => bm_c3_mono (fun x z => z) (fun E z => ⟨z, trivial⟩) r q) ht
      | 4, ht => exact hC _ _ _ _ _ (fun r w' q => bm_c4_mono (fun x z => z) (fun E z => ⟨z, trivial⟩) r q) ht
      | 5, ht => exact hC _ _ _ _ _ (fun r w' q => bm_c5_mono (fun z => z) r q) ht
      | _ + 6, ht => exact hC _ _ _ _ _ (fun r w' q => bm_c1_mono (fun x z => z) (fun E z => z) r q) ht
    · match j, st, ht, hm with
      | 0, [], ht, hm => exact ⟨ht, Nat.eq_of_beq_eq_true hm⟩
      | 1, [.inl x], ht, hm => exact ⟨ht, Nat.eq_of_beq_eq_true hm⟩
      | 2, [.inl x], ht, hm => exact ⟨ht.1, ht.2, Nat.eq_of_beq_eq_true hm⟩
      | 3, [.inr (.inl x)], ht, hm => exact ⟨ht, Nat.eq_of_beq_eq_true hm⟩
      | 4, [.inr (.inr (.inr (.inl x)))], ht, hm => exact ⟨ht, Nat.eq_of_beq_eq_true hm⟩
      | 5, [.inr (.inr (.inl x))], ht, hm => exact ⟨ht, Nat.eq_of_beq_eq_true hm⟩
      | 6, [.inl x], ht, hm => exact ⟨ht.1, ht.2, Nat.eq_of_beq_eq_true hm⟩
      | 7, [.inl x], ht, hm => exact ⟨ht.1, ht.2, Nat.eq_of_beq_eq_true hm⟩
    · match st, ht with
      | [], ht => exact ⟨ht, trivial⟩
theorem bm_Call_typ {y k : Nat} (hT : bm_tbk k (bm_pg y).1 = true) : ∀ {d : Nat} {as : List bm_V} {w : bm_W} {F : bm_Rt → bm_W → Prop}, bm_Call bm_pg d y as w F → bm_Call bm_pg d y as w (fun r w' => F r w' ∧ bm_typ k r)
  | 0, _, _, _, h => h.elim
  | d + 1, _, _, _, h => ⟨h.1, bm_Wp.typ (bm_Call_mono bm_pg d) (bm_tbk_at hT) h.2⟩
theorem bm_camo (d : Nat) : bm_CaMo (bm_Call bm_pg d) := bm_Call_size (fun y pc m r h => (bm_Al.look (bm_all_ok y).2 pc m r h).2.1) d
/-- two ends of one call are one -/
theorem bm_Call_and {d y : Nat} {as : List bm_V} {w : bm_W} {F G : bm_Rt → bm_W → Prop} (h : bm_Call bm_pg d y as w F) (h' : bm_Call bm_pg d y as w G) : bm_Call bm_pg d y as w (fun r w' => F r w' ∧ G r w') := by
  obtain ⟨r, w', hF, hex⟩ := bm_Call_det bm_pg d _ _ _ _ h
  obtain ⟨r2, w2, ⟨rfl, rfl⟩, hG⟩ := bm_Call_both bm_pg d _ _ _ _ _ hex h'
  exact bm_Call_mono bm_pg d _ _ _ _ _ (fun r3 w3 q => by obtain ⟨rfl, rfl⟩ := q; exact ⟨hF, hG⟩) hex
/-- what a walk over a method of the law stands on -/
def lz_X (D : bm_D) (b0 d : Nat) (p : Program) (l : Launch) (R : Room) (s : State) (m : MethodId) (args : Array Value) (c : Code) (cc : ByteArray) (nL : Nat) : Prop :=
  CallFix p m c cc nL s args bm_ALL RL ∧ va_K D.1 vwCl (bm_tys D) s ∧ bm_ST bm_KK D b0 s s.heap ∧ va_Nc "java/lang/IllegalStateException" "java/lang/IndexOutOfBoundsException" s ∧ b0 ≤ s.heap.size ∧ d + 13 ≤ R.frames ∧ 40 * d + 440 ≤ R.locals ∧ l.stackTraces = false
/-- a method of the law with a table of its own -/
def lh_ok (y : MethodName) (bytes : ByteArray) (maxL : Nat) (hh : List (Nat × Nat × Nat × Nat)) (n : Nat) : Prop :=
  Cond.codeWith y bytes maxL (some .int) hh ∈ bm_ALL ∧ Cond.initialized y.cls ∈ bm_ALL ∧ (y.cls ≠ "java/lang/invoke/MethodHandle" ∧ y.cls ≠ "java/lang/invoke/VarHandle") ∧ (parseMethodDescriptor y.desc).map (fun d => d.parameters.length) = some n ∧ maxL ≤ 21 ∧ Cond.static y ∈ bm_ALL
def lh_ws (y : MethodName) (bytes : ByteArray) (maxL : Nat) (hh : List (Nat × Nat × Nat × Nat)) : List Cond := Cond.codeWith y bytes maxL (some .int) hh :: bm_ALL
def lz_Pc (D : bm_D) (b0 : Nat) (as : List bm_V) (w : bm_W) : Array Value → State → Prop := fun a U => bm_Pc bm_KK D b0 as w a U ∧ va_Nc "java/lang/IllegalStateException" "java/lang/IndexOutOfBoundsException" U
theorem lz_Pc_blind {D : bm_D} {b0 : Nat} {as : List bm_V} {w : bm_W} : FrameBlind (lz_Pc D b0 as w) := fun a U g mk h => ⟨bm_Pc.blind a U g mk h.1, va_Nc.moved (u := U) (U := U.calling g mk _) (Vm.Alike.refl U.vm) h.2⟩
section LZ
variable {D : bm_D} {b0 d nL pc mc ms : Nat} {p : Program} {l : Launch} {e : Env} {R : Room} {s : State} {m : MethodId} {args : Array Value} {below : List Frame} {meth : Method} {c : Code} {H : Heap} {locs : List Loc} {cells slots : Nat} {Q : State → Prop} {cc : ByteArray} {ls : Array Slot} {w : bm_W}
theorem lz_pre (hX : lz_X D b0 d p l R s m args c cc nL) {as : List bm_V} (hH : bm_HR D b0 w H) (hS : va_S (bm_A b0) s.heap H locs) : ∀ U : State, U.heap = H → s.WarmedH U.vm → bm_Pc bm_KK D b0 as w (as.map (bm_val D)).toArray U := by
  intro U hU hW
  obtain ⟨-, hK, hST, -, hb0, -⟩ := hX
  exact ⟨rfl, by rw [hU]; exact Nat.le_trans hb0 hS.1, by rw [hU]; exact hH, va_K.moved hW.alike hK, by rw [hU]; exact hST.moved hW hS.2.1⟩
theorem lz_preH (hX : lz_X D b0 d p l R s m args c cc nL) {as : List bm_V} (hH : bm_HR D b0 w H) (hS : va_S (bm_A b0) s.heap H locs) : ∀ U : State, U.heap = H → s.WarmedH U.vm → lz_Pc D b0 as w (as.map (bm_val D)).toArray U := fun U hU hW => ⟨lz_pre hX hH hS U hU hW, va_Nc.moved hW.alike hX.2.2.2.1⟩
/-- from a callee's run to the walk -/
theorem lz_go {w' : bm_W} {r : bm_Rt} {mc' ms' : Nat} {a9 : Array Value} {st0 rest : List Value}
    (hr : vx_Run p l e R s m args below meth c H locs cells slots mc' ms' (F0 m pc ls st0) rest (bm_Qc D b0 (fun r2 w2 => r2 = r ∧ w2 = w') a9) (bm_XC D b0 (fun r2 w2 => r2 = r ∧ w2 = w')) (bm_A b0))
    (hS : va_S (bm_A b0) s.heap H locs) (hc : mc' ≤ mc) (hs : ms' ≤ ms)
    (kv : ∀ v, r = .inl v → ∀ H1 locs1, bm_HR D b0 w' H1 → va_S (bm_A b0) s.heap H1 locs1 → (∀ u, v = some u → bm_InV u) → W p l e R s m args below meth c H1 locs1 (cells + mc) (slots + ms) Q (F0 m (pc + 3) ls ((v.map (bm_val D)).toList ++ rest)))
    (kE : ∀ E, r = .inr E → ∀ H1 locs1 q ce, bm_HX D b0 w' H1 → H.size ≤ H1.size → va_S (bm_A b0) s.heap H1 locs1 → H1[q]? = some ce → ce.vm = .none → s.vm.findClass E = some ce.cls → vx_W p l e R s m args below meth c H1 locs1 (cells + mc) (slots + ms) Q (F0 m pc ls rest) q) :
    W p l e R s m args below meth c H locs cells slots Q (F0 m pc ls st0) := by
  intro T hT X
  rcases hr T hT X with ⟨v, st₀, t, T', L, h0, X', hL, f1, f2, ⟨⟨r2, w2, hv2, ⟨hr2, rfl⟩, hin, hHR⟩, hF⟩, stp⟩ | ⟨q, st₀, t, T', L, E, ce, h0, X', hL, f1, f2, ⟨⟨w2, ⟨hr2, rfl⟩, hHX⟩, hF⟩, hce, hcv, hcl, stp⟩
  · cases hv2
    obtain ⟨k1, k2, k3⟩ := vx_keep (A0 := bm_A b0) h0 f1 hS (fun q _ h => h) (fun q h => h) hL hF
    obtain ⟨t2, a1, b1⟩ := kv r2 hr2.symm T'.heap (locs ++ L) (by rw [f1]; exact hHR) k3 hin T' rfl (stand_widen X' (by omega) (by omega))
    exact ⟨t2, stp t2 a1, b1⟩
  · obtain ⟨k1, k2, k3⟩ := vx_keep (A0 := bm_A b0) h0 f1 hS (fun q _ h => h) (fun q h => h) hL hF
    obtain ⟨t2, a1, b1⟩ := kE E hr2.symm T'.heap (locs ++ L) q ce (by rw [f1]; exact hHX) k1 k3 (by rw [f1]; exact hce) hcv hcl T' rfl (stand_widen X' (by omega) (by omega))
    exact ⟨t2, stp.trans a1, b1⟩
theorem lz_lift {d' y : Nat} {as : List bm_V} {F : bm_Rt → bm_W → Prop} (h : bm_Call bm_pg d y as w F) (hd : d ≤ d' := by omega) : bm_Call bm_pg d' y as w F := bm_Call_le bm_pg hd h
/-- the one end of a call, and its room -/
theorem lz_end1 {y : Nat} {as : List bm_V} {F : bm_Rt → bm_W → Prop} (hcall : bm_Call bm_pg d y as w F) (hF : ∀ r w', F r w' → bm_Bn w mc ms w') : ∃ r w', F r w' ∧ bm_le w w' ∧ bm_sz w' - bm_sz w ≤ mc ∧ bm_sl w' - bm_sl w ≤ ms ∧ bm_Call bm_pg d y as w (fun r2 w2 => r2 = r ∧ w2 = w') := by
  obtain ⟨r, w', ⟨hFr, hle⟩, hex⟩ := bm_Call_det bm_pg d _ _ _ _ (bm_camo d _ _ _ _ hcall)
  have hb := hF r w' hFr
  have z1 : bm_sz w' ≤ bm_sz w + mc := hb.1
  have z2 : bm_sl w' ≤ bm_sl w + ms := hb.2
  exact ⟨r, w', hFr, hle, by omega, by omega, hex⟩
theorem lz_con (hX : lz_X D b0 d p l R s m args c cc nL) {y : Nat} {as : List bm_V} {r : bm_Rt} {w' : bm_W} (hin : bm_InSt as) (hle : bm_le w w') (hex : bm_Call bm_pg d y as w (fun r2 w2 => r2 = r ∧ w2 = w')) : vx_Met l (bm_mi y).1 (bm_ws bm_mi bm_pg y) (bm_rm d (bm_sz w' - bm_sz w) (bm_sl w' - bm_sl w)) (bm_Pc bm_KK D b0 as w) (bm_Qc D b0 (fun r2 w2 => r2 = r ∧ w2 = w')) (bm_XC D b0 (fun r2 w2 => r2 = r ∧ w2 = w')) (bm_sz w' - bm_sz w) (bm_sl w' - bm_sl w) (bm_A b0) := by
  have hle1 : bm_sz w ≤ bm_sz w' := hle.1
  have hle2 : bm_sl w ≤ bm_sl w' := hle.2
  exact bm_every l hX.2.2.2.2.2.2.2 d D b0 y as w (fun r2 w2 => r2 = r ∧ w2 = w') _ _ hin hex (fun r2 w2 q => by
    obtain ⟨rfl, rfl⟩ := q
    exact ⟨hle, ⟨by show bm_sz w2 ≤ _; omega, by show bm_sl w2 ≤ _; omega⟩⟩)
theorem lz_stk (D : bm_D) {as rest : List bm_V} {a : Nat} : (as.reverse ++ bm_r (some a) :: rest).map (bm_val D) = (as.map (bm_val D)).reverse ++ Value.ref a :: rest.map (bm_val D) := by
  rw [List.map_append, List.map_reverse, List.map_cons]
  rfl
/-- a call of a method of the class or of the model -/
theorem lz_callV {y n index t N a : Nat} {C : String} {T : u_T} {as rest : List bm_V} {F : bm_Rt → bm_W → Prop}
    (hX : lz_X D b0 d p l R s m args c cc nL) (hdg : decode cc pc = .ok (.invokevirtual index, 3)) (hw : bm_cw bm_mi bm_pg y n) (hC : bm_Cl t C T N) (hl : Cond.methodLink RL index (bm_mi y).1 ∈ bm_ALL) (hst : Cond.instanceMethod (bm_mi y).1 ∈ bm_ALL) (hse : Cond.selects C (bm_mi y).1 (bm_mi y).1 ∈ bm_ALL)
    (ha : bm_kt w a = t) (hlen : as.length = n) (hin : bm_InSt as) (hcall : bm_Call bm_pg d y (bm_r (some a) :: as) w F) (hF : ∀ r w', F r w' → bm_Bn w mc ms w') (hH : bm_HR D b0 w H) (hS : va_S (bm_A b0) s.heap H locs) (hls : ls.size = nL) (hwt : bm_wt rest ≤ 8) (hf : cells + mc ≤ R.cells ∧ slots + ms ≤ R.slots)
    (kv : ∀ v w', F (.inl v) w' → ∀ H1 locs1, bm_HR D b0 w' H1 → va_S (bm_A b0) s.heap H1 locs1 → (∀ u, v = some u → bm_InV u) → W p l e R s m args below meth c H1 locs1 (cells + mc) (slots + ms) Q (F0 m (pc + 3) ls ((v.map (bm_val D)).toList ++ rest.map (bm_val D))))
    (kE : ∀ E w', F (.inr E) w' → ∀ H1 locs1 q ce, bm_HX D b0 w' H1 → H.size ≤ H1.size → va_S (bm_A b0) s.heap H1 locs1 → H1[q]? = some ce → ce.vm = .none → s.vm.findClass E = some ce.cls → vx_W p l e R s m args below meth c H1 locs1 (cells + mc) (slots + ms) Q (F0 m pc ls (rest.map (bm_val D))) q) :
    W p l e R s m args below meth c H locs cells slots Q (F0 m pc ls ((as.reverse ++ bm_r (some a) :: rest).map (bm_val D))) := by
  obtain ⟨r, w', hFr, hle, z1, z2, hex⟩ := lz_end1 hcall hF
  have hM := lz_con hX (bm_InSt.cons (v := bm_r (some a)) trivial hin) hle hex
  obtain ⟨cell, q1, q2, q3, -⟩ := bm_ob hC hH ha
  have hfc : s.vm.findClass C = some cell.cls := by rw [q2]; exact (hX.2.1.1 t _ hC.2.1).2.1
  have hts := hX.1.2.2.2.2
  have hrun := vx_runV (p := p) (e := e) (below := below) (meth := meth) (locs := locs) (cells := cells) (slots := slots) (g := F0 m pc ls ((as.map (bm_val D)).reverse ++ Value.ref a :: rest.map (bm_val D))) (rest := rest.map (bm_val D)) (As := as.map (bm_val D)) hX.1 hM ⟨bm_callB hw hts hl hX.2.2.2.2.2.1 hX.2.2.2.2.2.2.1, hts _ hst, hts _ hse⟩ ⟨bm_Pc.blind, ⟨cell, q1, by rw [q3]; rfl, hfc⟩, lz_pre (as := bm_r (some a) :: as) hX hH hS⟩ rfl (by rw [List.length_map]; exact hlen) hls rfl (lv_room (by rw [bm_cats]; exact hwt)) hdg ⟨by omega, by omega⟩
  rw [lz_stk]
  exact lz_go hrun hS z1 z2 (fun v hv => kv v w' (by rw [← hv]; exact hFr)) (fun E hE => kE E w' (by rw [← hE]; exact hFr))
/-- a call of a constructor -/
theorem lz_callI {y n index a : Nat} {as rest : List bm_V} {F : bm_Rt → bm_W → Prop}
    (hX : lz_X D b0 d p l R s m args c cc nL) (hdg : decode cc pc = .ok (.invokespecial index, 3)) (hw : bm_cw bm_mi bm_pg y n) (hl : Cond.methodLink RL index (bm_mi y).1 ∈ bm_ALL) (hst : Cond.instanceMethod (bm_mi y).1 ∈ bm_ALL) (hi : (bm_mi y).1.name = "<init>") (hret : (bm_mi y).2.2 = none)
    (hlen : as.length = n) (hin : bm_InSt as) (hcall : bm_Call bm_pg d y (bm_r (some a) :: as) w F) (hF : ∀ r w', F r w' → r = .inl none ∧ bm_Bn w mc ms w') (hH : bm_HR D b0 w H) (hS : va_S (bm_A b0) s.heap H locs) (hls : ls.size = nL) (hwt : bm_wt rest ≤ 8) (hf : cells + mc ≤ R.cells ∧ slots + ms ≤ R.slots)
    (kv : ∀ w', F (.inl none) w' → ∀ H1 locs1, bm_HR D b0 w' H1 → va_S (bm_A b0) s.heap H1 locs1 → W p l e R s m args below meth c H1 locs1 (cells + mc) (slots + ms) Q (F0 m (pc + 3) ls (rest.map (bm_val D)))) :
    W p l e R s m args below meth c H locs cells slots Q (F0 m pc ls ((as.reverse ++ bm_r (some a) :: rest).map (bm_val D))) := by
  obtain ⟨r, w', hFr, hle, z1, z2, hex⟩ := lz_end1 hcall (fun r w' q => (hF r w' q).2)
  obtain rfl := (hF r w' hFr).1
  have hM := bm_met_of (lz_con hX (bm_InSt.cons (v := bm_r (some a)) trivial hin) hle hex) (fun E s t q => by obtain ⟨⟨w3, ⟨q1, -⟩, -⟩, -⟩ := q; cases q1)
  have hts := hX.1.2.2.2.2
  have hcb := bm_callB (mc' := bm_sz w' - bm_sz w) (ms' := bm_sl w' - bm_sl w) hw hts hl hX.2.2.2.2.2.1 hX.2.2.2.2.2.2.1
  rw [hret] at hcb
  have hrun := va_runI (p := p) (e := e) (below := below) (meth := meth) (locs := locs) (cells := cells) (slots := slots) (g := F0 m pc ls ((as.map (bm_val D)).reverse ++ Value.ref a :: rest.map (bm_val D))) (rest := rest.map (bm_val D)) (As := as.map (bm_val D)) hX.1 hM ⟨hcb, hi, hts _ hst⟩ ⟨bm_Pc.blind, lz_pre (as := bm_r (some a) :: as) hX hH hS⟩ rfl (by rw [List.length_map]; exact hlen) hls rfl (lv_room (by rw [bm_cats]; exact hwt)) hdg ⟨by omega, by omega⟩
  rw [lz_stk]
  exact lz_go (bm_run_of (XC := bm_XC D b0 (fun r2 w2 => r2 = .inl none ∧ w2 = w')) hrun) hS z1 z2 (fun v hv H1 locs1 i1 i2 _ => by cases hv; exact kv w' hFr H1 locs1 i1 i2) (fun E hE => by cases hE)
/-- a call of one of the law's own methods -/
theorem lz_callH {y : MethodName} {bytes : ByteArray} {maxL n index : Nat} {hh : List (Nat × Nat × Nat × Nat)} {as rest : List bm_V} {G : bm_Rt → bm_W → Prop}
    (hX : lz_X D b0 d p l R s m args c cc nL) (hdg : decode cc pc = .ok (.invokestatic index, 3)) (ok : lh_ok y bytes maxL hh n) (hl : Cond.methodLink RL index y ∈ bm_ALL) (hM : Met l y (lh_ws y bytes maxL hh) (bm_rm d mc ms) (lz_Pc D b0 as w) (bm_Qc D b0 G) mc ms (bm_A b0))
    (hlen : as.length = n) (hH : bm_HR D b0 w H) (hS : va_S (bm_A b0) s.heap H locs) (hls : ls.size = nL) (hwt : bm_wt rest ≤ 8) (hf : cells + mc ≤ R.cells ∧ slots + ms ≤ R.slots)
    (kv : ∀ v w', G (.inl v) w' → ∀ H1 locs1, bm_HR D b0 w' H1 → va_S (bm_A b0) s.heap H1 locs1 → (∀ u, v = some u → bm_InV u) → W p l e R s m args below meth c H1 locs1 (cells + mc) (slots + ms) Q (F0 m (pc + 3) ls ((v.map (bm_val D)).toList ++ rest.map (bm_val D)))) :
    W p l e R s m args below meth c H locs cells slots Q (F0 m pc ls ((as.reverse ++ rest).map (bm_val D))) := by
  obtain ⟨o1, o2, o3, o4, o5, o6⟩ := ok
  have hts := hX.1.2.2.2.2
  have f2 : 8 + (maxL + 11) + (bm_rm d mc ms).locals ≤ R.locals := bm_lo_ok o5 hX.2.2.2.2.2.2.1
  have f1 : (bm_rm d mc ms).frames + 1 ≤ R.frames := hX.2.2.2.2.2.1
  have hws : ∀ w ∈ lh_ws y bytes maxL hh, ∀ (a' : Array Value) (U : State), s.WarmedH U.vm → w.before a' U = true := fun w hw a' U hW => by
    have hw2 : w ∈ bm_ALL := (List.mem_cons.mp hw).elim (fun q => by rw [q]; exact o1) id
    exact word_at hW (good_of_word (List.mem_filter.mp hw2).2) (hts w hw2)
  have cw : vx_CSW R s args RL index y bytes maxL (some .int) hh (lh_ws y bytes maxL hh) (bm_rm d mc ms) mc ms n := ⟨⟨rfl, rfl, f1, f2, hws, List.mem_cons_self⟩, hts _ o1, hts _ o2, o3, fun sig hsg => by rw [hsg] at o4; exact (Option.some.inj o4).symm, hts _ hl, hts _ o6⟩
  have e9 : (as.reverse ++ rest).map (bm_val D) = (as.map (bm_val D)).reverse ++ rest.map (bm_val D) := by rw [List.map_append, List.map_reverse]
  have hrun := vx_runSW (p := p) (e := e) (below := below) (meth := meth) (locs := locs) (cells := cells) (slots := slots) (g := F0 m pc ls ((as.map (bm_val D)).reverse ++ rest.map (bm_val D))) (rest := rest.map (bm_val D)) (As := as.map (bm_val D)) hX.1 hM cw ⟨lz_Pc_blind, lz_preH (as := as) hX hH hS⟩ rfl (by rw [List.length_map]; exact hlen) hls rfl (lv_room (by rw [bm_cats]; exact hwt)) hdg hf
  rw [e9]
  intro T hT X
  obtain ⟨v, st₀, t, T', L, h0, X', hL, f1, f2, ⟨⟨r2, w2, hv2, hG, hin, hHR⟩, hF⟩, stp⟩ := hrun T hT X
  cases hv2
  obtain ⟨k1, k2, k3⟩ := vx_keep (A0 := bm_A b0) h0 f1 hS (fun q _ h => h) (fun q h => h) hL hF
  obtain ⟨t2, a1, b1⟩ := kv r2 w2 hG T'.heap (locs ++ L) (by rw [f1]; exact hHR) k3 hin T' rfl X'
  exact ⟨t2, stp t2 a1, b1⟩
/-- the end of one of the law's own methods -/
theorem lz_ret {k : Int} {w2 : bm_W} {G : bm_Rt → bm_W → Prop} (hX : lz_X D b0 d p l R s m args c cc nL) (hr : meth.sig.returnType = some .int) (hlocks : meth.locks = false) (hdg : decode cc pc = .ok (.ireturn, 1)) (hk : bm_InI k) (hG : G (.inl (some (bm_i k))) w2) (hH : bm_HR D b0 w2 H) (hS : va_S (bm_A b0) s.heap H locs) (hc : cells ≤ mc) (hs : slots ≤ ms) : W p l e R s m args below meth c H locs cells slots (vx_MQ below (bm_Qc D b0 G) (bm_XC D b0 G) args s mc ms (bm_A b0)) (F0 m pc ls [.int (Int32.ofInt k)]) := by
  refine W.widen (k := mc) (n := ms) hc hs ?_
  exact vx_ret (W.iret (v := Int32.ofInt k) hX.1.1 hX.1.2.1 hr (fun t ht hW => ⟨⟨some (bm_i k), w2, rfl, hG, fun v hv => by cases hv; exact hk, by rw [ht]; exact hH⟩, hS.F ht⟩) hS.2.2 hdg hlocks)
theorem lz_HX {w' : bm_W} {H1 : Heap} (h : bm_HX D b0 w' H1) : bm_HR D b0 (lU H1.size w') H1 := ⟨rfl, h⟩
end LZ

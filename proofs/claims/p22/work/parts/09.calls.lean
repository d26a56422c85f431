/-! ===== calls, returns, throws, switches, constants ===== -/
theorem bm_ok_of {n : Nat} {st : List bm_V} (h : bm_ok n st = true) : n ≤ st.length ∧ bm_wt (st.drop n) ≤ 8 := by
  unfold bm_ok at h
  cases e : n.ble st.length with
  | false => rw [e] at h; cases h
  | true => rw [e] at h; exact ⟨Nat.le_of_ble_eq_true e, Nat.le_of_ble_eq_true h⟩
theorem bm_exe_call {C : bm_Ca} (hm : bm_mono C) (hd : bm_det C) (hs : bm_CaMo C) {P : bm_S → Prop} {F : bm_Rt → bm_W → Prop} {lo : bm_L} {st : List bm_V} {w : bm_W} {y n nx rt rk : Nat} (h : bm_exe C (bm_C y n nx rt rk) P F lo st w) :
    (n ≤ st.length ∧ bm_wt (st.drop n) ≤ 8) ∧ bm_rcv w rk (st.take n).reverse ∧ ∃ r w', bm_le w w' ∧ C y (st.take n).reverse w (fun r2 w2 => r2 = r ∧ w2 = w') ∧ (∀ v, r = .inl v → P (nx, lo, v.toList ++ st.drop n, w')) ∧ (∀ E, r = .inr E → rt < 5 ∧ F (.inr E) w') := by
  simp only [bm_exe] at h
  cases e : bm_ok n st with
  | false => rw [e] at h; exact h.elim
  | true =>
    rw [e] at h
    obtain ⟨h1, h2⟩ := h
    refine ⟨bm_ok_of e, h1, ?_⟩
    match rt, h2 with
    | 0, h2 =>
      obtain ⟨r, w', ⟨g1, g2⟩, g3⟩ := hd _ _ _ _ (hs _ _ _ _ h2)
      refine ⟨r, w', g2, g3, fun v hv => ?_, fun E hE => ?_⟩
      · subst hv; rcases v with _ | v
        · exact g1
        · exact g1.elim
      · subst hE; exact ⟨by omega, g1⟩
    | 1, h2 =>
      obtain ⟨r, w', ⟨g1, g2⟩, g3⟩ := hd _ _ _ _ (hs _ _ _ _ h2)
      refine ⟨r, w', g2, g3, fun v hv => ?_, fun E hE => ?_⟩
      · subst hv; rcases v with _ | v | v
        · exact g1.elim
        · exact g1
        · exact g1.elim
      · subst hE; exact ⟨by omega, g1⟩
    | 2, h2 =>
      obtain ⟨r, w', ⟨g1, g2⟩, g3⟩ := hd _ _ _ _ (hs _ _ _ _ h2)
      refine ⟨r, w', g2, g3, fun v hv => ?_, fun E hE => ?_⟩
      · subst hv; rcases v with _ | v | v | v
        · exact g1.elim
        · exact g1.elim
        · exact g1
        · exact g1.elim
      · subst hE; exact ⟨by omega, g1⟩
    | 3, h2 =>
      obtain ⟨r, w', ⟨g1, g2⟩, g3⟩ := hd _ _ _ _ (hs _ _ _ _ h2)
      refine ⟨r, w', g2, g3, fun v hv => ?_, fun E hE => ?_⟩
      · subst hv; rcases v with _ | v | v | (_ | v) | v
        · exact g1.elim
        · exact g1.elim
        · exact g1.elim
        · exact g1.elim
        · exact g1
        · exact g1.elim
      · subst hE; exact ⟨by omega, g1⟩
    | 4, h2 =>
      obtain ⟨r, w', ⟨g1, g2⟩, g3⟩ := hd _ _ _ _ (hs _ _ _ _ h2)
      refine ⟨r, w', g2, g3, fun v hv => ?_, fun E hE => ?_⟩
      · subst hv; rcases v with _ | v | v | v | v | v
        · exact g1.elim
        · exact g1.elim
        · exact g1.elim
        · exact g1.elim
        · exact g1
        · exact g1.elim
      · subst hE; exact ⟨by omega, g1⟩
    | 5, h2 =>
      obtain ⟨r, w', ⟨g1, g2⟩, g3⟩ := hd _ _ _ _ (hs _ _ _ _ h2)
      refine ⟨r, w', g2, g3, fun v hv => ?_, fun E hE => ?_⟩
      · subst hv; rcases v with _ | v
        · exact g1
        · exact g1.elim
      · subst hE; exact g1.elim
    | _ + 6, h2 =>
      obtain ⟨r, w', ⟨g1, g2⟩, g3⟩ := hd _ _ _ _ (hs _ _ _ _ h2)
      refine ⟨r, w', g2, g3, fun v hv => ?_, fun E hE => ?_⟩
      · subst hv; rcases v with _ | v | v
        · exact g1.elim
        · exact g1
        · exact g1.elim
      · subst hE; exact g1.elim
theorem bm_cats (D : bm_D) : ∀ st : List bm_V, ((st.map (bm_val D)).map fun v => v.category).sum = bm_wt st
  | [] => rfl
  | .inl x :: r => by rw [List.map_cons, List.map_cons, List.sum_cons, bm_cats D r, Nat.add_comm]; rfl
  | .inr (.inl x) :: r => by rw [List.map_cons, List.map_cons, List.sum_cons, bm_cats D r, Nat.add_comm]; rfl
  | .inr (.inr (.inl none)) :: r => by rw [List.map_cons, List.map_cons, List.sum_cons, bm_cats D r, Nat.add_comm]; rfl
  | .inr (.inr (.inl (some x))) :: r => by rw [List.map_cons, List.map_cons, List.sum_cons, bm_cats D r, Nat.add_comm]; rfl
  | .inr (.inr (.inr (.inl x))) :: r => by rw [List.map_cons, List.map_cons, List.sum_cons, bm_cats D r, Nat.add_comm]; rfl
  | .inr (.inr (.inr (.inr x))) :: r => by rw [List.map_cons, List.map_cons, List.sum_cons, bm_cats D r, Nat.add_comm, show (bm_val D (.inr (.inr (.inr (.inr x))))).category = 1 from bm_kv_cat D x]; rfl
theorem bm_met_of {l : Launch} {y : MethodName} {ws : List Cond} {rm : Room} {Pc : Array Value → State → Prop} {Qc : Array Value → State → Outcome → State → Prop} {XC : String → State → State → Prop} {mc ms : Nat} {free : Addr → Prop} (h : vx_Met l y ws rm Pc Qc XC mc ms free) (hX : ∀ E s t, ¬ XC E s t) : Met l y ws rm Pc Qc mc ms free := by
  intro p e ha hc hk s m args below hf happ hP hK
  obtain ⟨n, o, h1, h2, h3, h4⟩ := h p e ha hc hk s m args below hf happ hP hK
  refine ⟨n, o, h1, h2, h3, ?_⟩
  rcases h4 with h4 | ⟨q, -, E, ce, L, hx, -⟩
  · exact h4
  · exact absurd hx (hX E _ _)
section BMC
variable {K : bm_K} {pg : bm_Pg} {mi : bm_Mi} {cc : ByteArray} {nL : Nat} {own nm : String} {ret : Option FieldType} {pc : Nat}
/-- from a callee's run to the caller's walk -/
theorem bm_callGo {D : bm_D} {b0 mc ms mc' ms' : Nat} {p : Program} {l : Launch} {e : Env} {R : Room} {s : State} {m : MethodId} {args a9 : Array Value} {below : List Frame} {meth : Method} {c : Code} {H : Heap} {locs : List Loc} {ls : Array Slot} {w w' w0 : bm_W} {F : bm_Rt → bm_W → Prop} {r : bm_Rt} {lo : bm_L} {st0 rest : List bm_V} {d : Nat}
    (hCx : bm_Cx K D b0 mc ms d p l R s m args meth c cc nL own nm ret)
    (hr : vx_Run p l e R s m args below meth c H locs (bm_sz w - bm_sz w0) (bm_sl w - bm_sl w0) mc' ms' (F0 m pc ls (st0.map (bm_val D))) (rest.map (bm_val D)) (bm_Qc D b0 (fun r2 w2 => r2 = r ∧ w2 = w') a9) (bm_XC D b0 (fun r2 w2 => r2 = r ∧ w2 = w')) (bm_A b0))
    (e1 : bm_sz w + mc' = bm_sz w') (e2 : bm_sl w + ms' = bm_sl w') (hle : bm_le w0 w) (g1 : lo.length = nL) (g2 : bm_InLo lo) (g3 : bm_InSt rest) (g5 : va_S (bm_A b0) s.heap H locs) (g6 : lv_has ls nL (bm_lv D 0 lo))
    (hv : ∀ v, r = .inl v → bm_Wg D b0 mc ms p l e R s m args below meth c nL w0 F (pc + 3, lo, v.toList ++ rest, w'))
    (hE : ∀ E, r = .inr E → F (.inr E) w' ∧ bm_Bn w0 mc ms w') :
    W p l e R s m args below meth c H locs (bm_sz w - bm_sz w0) (bm_sl w - bm_sl w0) (vx_MQ below (bm_Qc D b0 F) (bm_XC D b0 F) args s mc ms (bm_A b0)) (F0 m pc ls (st0.map (bm_val D))) := by
  obtain ⟨hl1, hl2⟩ := hle
  have c1 : bm_sz w - bm_sz w0 + mc' = bm_sz w' - bm_sz w0 := by omega
  have c2 : bm_sl w - bm_sl w0 + ms' = bm_sl w' - bm_sl w0 := by omega
  intro T hT X
  rcases hr T hT X with ⟨v, st₀, t, T', L, h0, X', hL, f1, f2, ⟨⟨r2, w2, hv2, ⟨hr2, rfl⟩, hin, hHR⟩, hF⟩, stp⟩ | ⟨q, st₀, t, T', L, E, ce, h0, X', hL, f1, f2, ⟨⟨w2, ⟨hr2, rfl⟩, hHX⟩, hF⟩, hce, hcv, hcl, stp⟩
  · cases hv2
    obtain ⟨k1, k2, k3⟩ := vx_keep (A0 := bm_A b0) h0 f1 g5 (fun q _ h => h) (fun q h => h) hL hF
    obtain ⟨hb, hw⟩ := hv r2 hr2.symm
    rw [c1, c2] at X'
    obtain ⟨t2, a1, b1⟩ := hw T'.heap (locs ++ L) ls g1 g2 (by
      cases r2 with
      | none => exact g3
      | some u => exact bm_InSt.cons (hin u rfl) g3) (by rw [f1]; exact hHR) k3 g6 ⟨by show bm_sz w0 ≤ bm_sz w2; omega, by show bm_sl w0 ≤ bm_sl w2; omega⟩ T' rfl X'
    refine ⟨t2, stp t2 ?_, b1⟩
    cases r2 with
    | none => exact a1
    | some u => exact a1
  · obtain ⟨hFE, hBn⟩ := hE E hr2.symm
    obtain ⟨k1, k2, k3⟩ := vx_keep (A0 := bm_A b0) h0 f1 g5 (fun q _ h => h) (fun q h => h) hL hF
    obtain ⟨hx, hb, hml, hown, hts, hK, hST, hlk, hex, -⟩ := hCx
    rw [c1, c2] at X'
    have hout := vx_out (p := p) (l := l) (e := e) (R := R) (s := s) (m := m) (args := args) (below := below) (meth := meth) (c := c) (H := T'.heap) (locs := locs ++ L) (cells := bm_sz w2 - bm_sz w0) (slots := bm_sl w2 - bm_sl w0) (Qc := bm_Qc D b0 F) (XC := bm_XC D b0 F) (mc := mc) (ms := ms) (free := bm_A b0) (ls := ls) (rest := rest.map (bm_val D)) (pc := pc) (E := E) (ce := ce) (q := q)
      (fun x hx2 => (hex x hx2).elim) hlk (by rw [f1]; exact hce) hcv hcl (fun t3 ht3 hvm3 => ⟨⟨w2, hFE, by rw [ht3, f1]; exact hHX⟩, k3.F ht3⟩) k3.2.2 (by have := hBn.1; omega) (by have := hBn.2; omega)
    obtain ⟨t2, a1, b1⟩ := hout T' rfl X'
    exact ⟨t2, stp.trans a1, b1⟩
/-- what a call row needs of the words -/
def bm_cw (mi : bm_Mi) (pg : bm_Pg) (y n : Nat) : Prop := Cond.code (mi y).1 (mi y).2.1 (pg y).2 (mi y).2.2 ∈ bm_ALL ∧ Cond.initialized (mi y).1.cls ∈ bm_ALL ∧ ((mi y).1.cls ≠ "java/lang/invoke/MethodHandle" ∧ (mi y).1.cls ≠ "java/lang/invoke/VarHandle") ∧ (parseMethodDescriptor (mi y).1.desc).map (fun d => d.parameters.length) = some n ∧ (pg y).2 ≤ 21
theorem bm_ws_ok {mi : bm_Mi} {pg : bm_Pg} {y n : Nat} {s : State} {args : Array Value} (h : bm_cw mi pg y n) (hts : ∀ w ∈ bm_ALL, w.before args s = true) : ∀ w ∈ bm_ws mi pg y, ∀ (a' : Array Value) (U : State), s.WarmedH U.vm → w.before a' U = true := by
  intro w hw a' U hW
  have hw2 : w ∈ bm_ALL := (List.mem_cons.mp hw).elim (fun q => by rw [q]; exact h.1) id
  exact word_at hW (good_of_word (List.mem_filter.mp hw2).2) (hts w hw2)
set_option maxRecDepth 100000 in
theorem bm_lo_ok {a b c : Nat} (h : a ≤ 21) (h2 : 40 * b + 440 ≤ c) : 8 + (a + 11) + (40 * b + 400) ≤ c := by omega
theorem bm_callB {mi : bm_Mi} {pg : bm_Pg} {y n index d mc' ms' : Nat} {R : Room} {s : State} {args : Array Value} (h : bm_cw mi pg y n) (hts : ∀ w ∈ bm_ALL, w.before args s = true) (hl : Cond.methodLink own index (mi y).1 ∈ bm_ALL) (hf : d + 13 ≤ R.frames) (hlo : 40 * d + 440 ≤ R.locals) : CallB R s args own index (mi y).1 (mi y).2.1 (pg y).2 (mi y).2.2 (bm_ws mi pg y) (bm_rm d mc' ms') mc' ms' n := by
  have h21 := h.2.2.2.2
  have f1 : (bm_rm d mc' ms').frames + 1 ≤ R.frames := hf
  have f2 : 8 + ((pg y).2 + 11) + (bm_rm d mc' ms').locals ≤ R.locals := bm_lo_ok h21 hlo
  refine ⟨rfl, rfl, f1, f2, bm_ws_ok h hts, List.mem_cons_self, hts _ h.1, hts _ h.2.1, h.2.2.1, fun sig hsg => ?_, hts _ hl⟩
  have h2 := h.2.2.2.1
  rw [hsg] at h2
  exact (Option.some.inj h2).symm
theorem bm_pre {D : bm_D} {b0 mc ms d : Nat} {p : Program} {l : Launch} {R : Room} {s : State} {m : MethodId} {args : Array Value} {meth : Method} {c : Code} {H : Heap} {locs : List Loc} {w : bm_W} {as : List bm_V} (hCx : bm_Cx K D b0 mc ms d p l R s m args meth c cc nL own nm ret) (hH : bm_HR D b0 w H) (hS : va_S (bm_A b0) s.heap H locs) :
    ∀ U : State, U.heap = H → s.WarmedH U.vm → bm_Pc K D b0 as w (as.map (bm_val D)).toArray U := by
  intro U hU hW
  obtain ⟨-, -, -, -, -, hK, hST, -, -, -, hb0, -⟩ := hCx
  exact ⟨rfl, by rw [hU]; exact Nat.le_trans hb0 hS.1, by rw [hU]; exact hH, va_K.moved hW.alike hK, by rw [hU]; exact hST.moved hW hS.2.1⟩
theorem bm_stk (D : bm_D) {st : List bm_V} {n : Nat} : st.map (bm_val D) = ((st.take n).reverse.map (bm_val D)).reverse ++ (st.drop n).map (bm_val D) := by
  rw [List.map_reverse, List.reverse_reverse, ← List.map_append, List.take_append_drop]
/-- the frame of all four kinds of call -/
theorem bm_Sn.call {y n rt rk : Nat}
    (h : ∀ (D : bm_D) (b0 mc ms mc' ms' d : Nat) (p : Program) (l : Launch) (e : Env) (R : Room) (s : State) (m : MethodId) (args : Array Value) (below : List Frame) (meth : Method) (c : Code) (H : Heap) (locs : List Loc) (ls : Array Slot) (w w' : bm_W) (r : bm_Rt) (cells slots : Nat) (st : List bm_V),
      bm_Cx K D b0 mc ms d p l R s m args meth c cc nL own nm ret → n ≤ st.length → bm_rcv w rk (st.take n).reverse → (rt < 5 ∨ ∀ E, ¬ r = .inr E) →
      vx_Met l (mi y).1 (bm_ws mi pg y) (bm_rm d mc' ms') (bm_Pc K D b0 (st.take n).reverse w) (bm_Qc D b0 (fun r2 w2 => r2 = r ∧ w2 = w')) (bm_XC D b0 (fun r2 w2 => r2 = r ∧ w2 = w')) mc' ms' (bm_A b0) →
      bm_HR D b0 w H → va_S (bm_A b0) s.heap H locs → ls.size = nL → (((st.drop n).map (bm_val D)).map fun v => v.category).sum ≤ 8 → (cells + mc' ≤ R.cells ∧ slots + ms' ≤ R.slots) →
      vx_Run p l e R s m args below meth c H locs cells slots mc' ms' (F0 m pc ls (st.map (bm_val D))) ((st.drop n).map (bm_val D)) (bm_Qc D b0 (fun r2 w2 => r2 = r ∧ w2 = w') ((st.take n).reverse.map (bm_val D)).toArray) (bm_XC D b0 (fun r2 w2 => r2 = r ∧ w2 = w')) (bm_A b0)) :
    bm_Sn K pg mi cc nL own nm ret pc (bm_C y n (pc + 3) rt rk) := by
  refine ⟨trivial, ?_⟩
  intro D b0 mc ms d p l e R s m args below meth c w0 F hCx hCon hS hF lo st w hex
  obtain ⟨⟨hn, hwt⟩, hrc, r, w', hle, hC, hv, hE⟩ := bm_exe_call (bm_Call_mono pg d) (bm_Call_det pg d) hS hex
  have hle1 : bm_sz w ≤ bm_sz w' := hle.1
  have hle2 : bm_sl w ≤ bm_sl w' := hle.2
  have c1 : bm_sz w + (bm_sz w' - bm_sz w) = bm_sz w' := Nat.add_sub_cancel' hle1
  have c2 : bm_sl w + (bm_sl w' - bm_sl w) = bm_sl w' := Nat.add_sub_cancel' hle2
  have hend : bm_Bn w0 mc ms w' := by
    match r, hv, hE with
    | .inl v, hv, hE => exact (hv v rfl).1
    | .inr E, hv, hE => exact hF _ _ (hE E rfl).2
  refine ⟨⟨Nat.le_trans hle.1 hend.1, Nat.le_trans hle.2 hend.2⟩, fun H locs ls g1 g2 g3 g4 g5 g6 g7 => ?_⟩
  have hin : bm_InSt (st.take n).reverse := fun v hv2 => g3 v (List.mem_of_mem_take (List.mem_reverse.mp hv2))
  have hM := hCon D b0 y (st.take n).reverse w (fun r2 w2 => r2 = r ∧ w2 = w') (bm_sz w' - bm_sz w) (bm_sl w' - bm_sl w) hin hC (fun r2 w2 q => by
    obtain ⟨rfl, rfl⟩ := q
    exact ⟨hle, ⟨Nat.le_of_eq c1.symm, Nat.le_of_eq c2.symm⟩⟩)
  have hrun := h D b0 mc ms (bm_sz w' - bm_sz w) (bm_sl w' - bm_sl w) d p l e R s m args below meth c H locs ls w w' r (bm_sz w - bm_sz w0) (bm_sl w - bm_sl w0) st hCx hn hrc (by
    rcases Nat.lt_or_ge rt 5 with q | q
    · exact Or.inl q
    · exact Or.inr (fun E hr => absurd (hE E hr).1 (by omega))) hM g4 g5 g6.1 (by rw [bm_cats]; exact hwt) (by
      obtain ⟨-, -, -, -, -, -, -, -, -, -, -, hRc, hRs, -⟩ := hCx
      have z1 : bm_sz w' ≤ bm_sz w0 + mc := hend.1
      have z2 : bm_sl w' ≤ bm_sl w0 + ms := hend.2
      have z3 : bm_sz w0 ≤ bm_sz w := g7.1
      have z4 : bm_sl w0 ≤ bm_sl w := g7.2
      exact ⟨by rw [hRc]; omega, by rw [hRs]; omega⟩)
  exact bm_callGo hCx hrun c1 c2 g7 g1 g2 (fun v hv2 => g3 v (List.mem_of_mem_drop hv2)) g5 g6 hv (fun E hr => ⟨(hE E hr).2, hend⟩)
theorem bm_fix {D : bm_D} {b0 mc ms d : Nat} {p : Program} {l : Launch} {R : Room} {s : State} {m : MethodId} {args : Array Value} {meth : Method} {c : Code} (hCx : bm_Cx K D b0 mc ms d p l R s m args meth c cc nL own nm ret) : CallFix p m c cc nL s args bm_ALL own := ⟨hCx.1, hCx.2.1, hCx.2.2.1, hCx.2.2.2.1, hCx.2.2.2.2.1⟩
theorem bm_len_take {st : List bm_V} {n : Nat} (h : n ≤ st.length) : (st.take n).reverse.length = n := by rw [List.length_reverse, List.length_take]; omega
/-- the receiver and the rest of the arguments -/
theorem bm_recv {D : bm_D} {st : List bm_V} {n : Nat} {b : Nat} {as : List bm_V} (e : (st.take (n + 1)).reverse = .inr (.inr (.inl (some b))) :: as) : st.map (bm_val D) = (as.map (bm_val D)).reverse ++ Value.ref b :: (st.drop (n + 1)).map (bm_val D) := by
  rw [bm_stk D (st := st) (n := n + 1), e, List.map_cons, List.reverse_cons, List.append_assoc]
  rfl
theorem bm_s_invS {y n rt index : Nat} (nx : Nat) (hdg : decode cc pc = .ok (.invokestatic index, 3)) (hw : bm_cw mi pg y n) (hl : Cond.methodLink own index (mi y).1 ∈ bm_ALL) (hst : Cond.static (mi y).1 ∈ bm_ALL) (hrt : rt < 5) (hn : nx = pc + 3 := by rfl) : bm_Sn K pg mi cc nL own nm ret pc (bm_C y n nx rt 0) := by
  subst hn
  refine bm_Sn.call (fun D b0 mc ms mc' ms' d p l e R s m args below meth c H locs ls w w' r cells slots st hCx hnl hrc hr5 hM hH hS hls hW hf => ?_)
  have hts := hCx.2.2.2.2.1
  exact vx_runS (As := (st.take n).reverse.map (bm_val D)) (bm_fix hCx) hM ⟨bm_callB hw hts hl hCx.2.2.2.2.2.2.2.2.2.2.2.2.2.1 hCx.2.2.2.2.2.2.2.2.2.2.2.2.2.2.1, hts _ hst⟩ ⟨bm_Pc.blind, bm_pre hCx hH hS⟩ rfl (by rw [List.length_map]; exact bm_len_take hnl) hls (bm_stk D) (lv_room hW) hdg hf
theorem bm_s_invV {y n rt index t N : Nat} {C : String} {T : u_T} (nx : Nat) (hdg : decode cc pc = .ok (.invokevirtual index, 3)) (hw : bm_cw mi pg y n) (hC : bm_Cl t C T N) (hl : Cond.methodLink own index (mi y).1 ∈ bm_ALL) (hst : Cond.instanceMethod (mi y).1 ∈ bm_ALL) (hse : Cond.selects C (mi y).1 (mi y).1 ∈ bm_ALL) (hrt : rt < 5) (hn : nx = pc + 3 := by rfl) : bm_Sn K pg mi cc nL own nm ret pc (bm_C y (n + 1) nx rt (t + 3)) := by
  subst hn
  refine bm_Sn.call (fun D b0 mc ms mc' ms' d p l e R s m args below meth c H locs ls w w' r cells slots st hCx hnl hrc hr5 hM hH hS hls hW hf => ?_)
  have hts := hCx.2.2.2.2.1
  have hlen := bm_len_take hnl
  generalize hae : (st.take (n + 1)).reverse = as at hrc hM hlen ⊢
  match as, hrc, hae, hM, hlen with
  | .inr (.inr (.inl (some b))) :: as, hrc, hae, hM, hlen =>
    obtain ⟨cell, q1, q2, q3, -⟩ := bm_ob hC hH hrc
    have hfc : s.vm.findClass C = some cell.cls := by rw [q2]; exact (hCx.2.2.2.2.2.1.1 t _ hC.2.1).2.1
    exact vx_runV (As := as.map (bm_val D)) (bm_fix hCx) hM ⟨bm_callB hw hts hl hCx.2.2.2.2.2.2.2.2.2.2.2.2.2.1 hCx.2.2.2.2.2.2.2.2.2.2.2.2.2.2.1, hts _ hst, hts _ hse⟩ ⟨bm_Pc.blind, ⟨cell, q1, by rw [q3]; rfl, hfc⟩, bm_pre hCx hH hS⟩ rfl (by rw [List.length_map]; simpa using hlen) hls (bm_recv hae) (lv_room hW) hdg hf
theorem bm_run_of {p : Program} {l : Launch} {e : Env} {R : Room} {s : State} {m : MethodId} {args : Array Value} {below : List Frame} {meth : Method} {c : Code} {H : Heap} {locs : List Loc} {cells slots mc ms : Nat} {g : JFrame} {rest : List Value} {Qa : State → Outcome → State → Prop} {XC : String → State → State → Prop} {free : Addr → Prop} (h : va_Run p l e R s m args below meth c H locs cells slots mc ms g rest Qa free) : vx_Run p l e R s m args below meth c H locs cells slots mc ms g rest Qa XC free := fun T hT X => Or.inl (h T hT X)
theorem bm_s_invSN {y n index : Nat} {host : String} (nx : Nat) (hdg : decode cc pc = .ok (.invokestatic index, 3)) (hw : bm_cw mi pg y n) (hl : Cond.methodLinkNest own index (mi y).1 host ∈ bm_NW) (hst : Cond.static (mi y).1 ∈ bm_ALL) (hn : nx = pc + 3 := by rfl) : bm_Sn K pg mi cc nL own nm ret pc (bm_C y n nx 6 0) := by
  subst hn
  refine bm_Sn.call (fun D b0 mc ms mc' ms' d p l e R s m args below meth c H locs ls w w' r cells slots st hCx hnl hrc hr5 hM hH hS hls hW hf => ?_)
  have hts := hCx.2.2.2.2.1
  have hr5 : ∀ E, ¬ r = .inr E := hr5.elim (fun q => absurd q (by omega)) id
  have hM' := bm_met_of hM (fun E s t q => by obtain ⟨⟨w3, ⟨q1, -⟩, -⟩, -⟩ := q; exact hr5 E q1.symm)
  have hf13 : d + 13 ≤ R.frames := hCx.2.2.2.2.2.2.2.2.2.2.2.2.2.1
  have hf40 : 40 * d + 440 ≤ R.locals := hCx.2.2.2.2.2.2.2.2.2.2.2.2.2.2.1
  have h21 := hw.2.2.2.2
  have f1 : (bm_rm d mc' ms').frames + 1 ≤ R.frames := hf13
  have f2 : 8 + ((pg y).2 + 11) + (bm_rm d mc' ms').locals ≤ R.locals := bm_lo_ok h21 hf40
  have hcn : va_CN R s args own index (mi y).1 host (mi y).2.1 (pg y).2 (mi y).2.2 (bm_ws mi pg y) (bm_rm d mc' ms') mc' ms' n := by
    refine ⟨⟨rfl, rfl, f1, f2, bm_ws_ok hw hts, List.mem_cons_self⟩, hts _ hw.1, hts _ hw.2.1, hw.2.2.1, fun sig hsg => ?_, va_Nw.use rfl (hCx.2.2.2.2.2.2.1.2.2.2.2.2.2.2.2 _ hl)⟩
    have h2 := hw.2.2.2.1
    rw [hsg] at h2
    exact (Option.some.inj h2).symm
  exact bm_run_of (va_runSN (As := (st.take n).reverse.map (bm_val D)) (bm_fix hCx) hM' ⟨hcn, hts _ hst, trivial⟩ ⟨bm_Pc.blind, bm_pre hCx hH hS⟩ rfl (by rw [List.length_map]; exact bm_len_take hnl) hls (bm_stk D) (lv_room hW) hdg hf)
theorem bm_s_invI {y n index : Nat} (nx : Nat) (hdg : decode cc pc = .ok (.invokespecial index, 3)) (hw : bm_cw mi pg y n) (hl : Cond.methodLink own index (mi y).1 ∈ bm_ALL ∨ ∃ host : String, Cond.methodLinkNest own index (mi y).1 host ∈ bm_NW) (hst : Cond.instanceMethod (mi y).1 ∈ bm_ALL) (hi : (mi y).1.name = "<init>") (hret : (mi y).2.2 = none) (hn : nx = pc + 3 := by rfl) : bm_Sn K pg mi cc nL own nm ret pc (bm_C y (n + 1) nx 5 1) := by
  subst hn
  refine bm_Sn.call (fun D b0 mc ms mc' ms' d p l e R s m args below meth c H locs ls w w' r cells slots st hCx hnl hrc hr5 hM hH hS hls hW hf => ?_)
  have hts := hCx.2.2.2.2.1
  have hlen := bm_len_take hnl
  have hr5 : ∀ E, ¬ r = .inr E := hr5.elim (fun q => absurd q (by omega)) id
  have hM' := bm_met_of hM (fun E s t q => by obtain ⟨⟨w3, ⟨q1, -⟩, -⟩, -⟩ := q; exact hr5 E q1.symm)
  generalize hae : (st.take (n + 1)).reverse = as at hrc hM' hlen ⊢
  have hf13 : d + 13 ≤ R.frames := hCx.2.2.2.2.2.2.2.2.2.2.2.2.2.1
  have hf40 : 40 * d + 440 ≤ R.locals := hCx.2.2.2.2.2.2.2.2.2.2.2.2.2.2.1
  match as, hrc, hae, hM', hlen with
  | .inr (.inr (.inl (some b))) :: as, hrc, hae, hM', hlen =>
    rcases hl with hl | ⟨host, hl⟩
    · have hcb := bm_callB (mc' := mc') (ms' := ms') hw hts hl hf13 hf40
      rw [hret] at hcb
      exact bm_run_of (va_runI (As := as.map (bm_val D)) (bm_fix hCx) hM' ⟨hcb, hi, hts _ hst⟩ ⟨bm_Pc.blind, bm_pre hCx hH hS⟩ rfl (by rw [List.length_map]; simpa using hlen) hls (bm_recv hae) (lv_room hW) hdg hf)
    · have h21 := hw.2.2.2.2
      have f1 : (bm_rm d mc' ms').frames + 1 ≤ R.frames := hf13
      have f2 : 8 + ((pg y).2 + 11) + (bm_rm d mc' ms').locals ≤ R.locals := bm_lo_ok h21 hf40
      have hcn : va_CN R s args own index (mi y).1 host (mi y).2.1 (pg y).2 none (bm_ws mi pg y) (bm_rm d mc' ms') mc' ms' n := by
        refine ⟨⟨rfl, rfl, f1, f2, bm_ws_ok hw hts, ?_⟩, ?_, hts _ hw.2.1, hw.2.2.1, fun sig hsg => ?_, va_Nw.use rfl (hCx.2.2.2.2.2.2.1.2.2.2.2.2.2.2.2 _ hl)⟩
        · rw [← hret]; exact List.mem_cons_self
        · have h9 := hts _ hw.1
          rw [hret] at h9
          exact h9
        · have h2 := hw.2.2.2.1
          rw [hsg] at h2
          exact (Option.some.inj h2).symm
      exact bm_run_of (va_runIN (As := as.map (bm_val D)) (bm_fix hCx) hM' ⟨hcn, hi, hts _ hst⟩ ⟨bm_Pc.blind, bm_pre hCx hH hS⟩ rfl (by rw [List.length_map]; simpa using hlen) hls (bm_recv hae) (lv_room hW) hdg hf)
end BMC

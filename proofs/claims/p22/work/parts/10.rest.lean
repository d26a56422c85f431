/-! ===== returns, throws, switches, constants, copies ===== -/
section BME
variable {K : bm_K} {pg : bm_Pg} {mi : bm_Mi} {cc : ByteArray} {nL : Nat} {own nm : String} {ret : Option FieldType} {pc : Nat}
theorem bm_Sn.rtn {k : Nat} (h : ∀ (st : List bm_V) (w : bm_W) (F : bm_Rt → bm_W → Prop) (lo : bm_L), bm_exe (fun _ _ _ _ => False) (bm_R k) (fun _ => False) F lo st w → ∃ r, F (.inl r) w ∧ st = r.toList ∧ (∀ v, r = some v → bm_InV v → 
      ∀ (D : bm_D) (b0 mc ms d : Nat) (p : Program) (l : Launch) (e : Env) (R : Room) (s : State) (m : MethodId) (args : Array Value) (below : List Frame) (meth : Method) (c : Code) (H : Heap) (locs : List Loc) (cells slots : Nat) (ls : Array Slot) (Qc : Array Value → State → Outcome → State → Prop), bm_Cx K D b0 mc ms d p l R s m args meth c cc nL own nm ret →
      (∀ t : State, t.heap = H → s.WarmedH t.vm → Qc args s (.returned (some (bm_val D v))) t) → (∀ q ∈ locs, bm_A b0 q.base) → W p l e R s m args below meth c H locs cells slots (MQ below Qc args s cells slots (bm_A b0)) (F0 m pc ls [bm_val D v])) ∧
      (r = none → ∀ (D : bm_D) (b0 mc ms d : Nat) (p : Program) (l : Launch) (e : Env) (R : Room) (s : State) (m : MethodId) (args : Array Value) (below : List Frame) (meth : Method) (c : Code) (H : Heap) (locs : List Loc) (cells slots : Nat) (ls : Array Slot) (Qc : Array Value → State → Outcome → State → Prop), bm_Cx K D b0 mc ms d p l R s m args meth c cc nL own nm ret →
      (∀ t : State, t.heap = H → s.WarmedH t.vm → Qc args s (.returned none) t) → (∀ q ∈ locs, bm_A b0 q.base) → W p l e R s m args below meth c H locs cells slots (MQ below Qc args s cells slots (bm_A b0)) (F0 m pc ls []))) : bm_Sn K pg mi cc nL own nm ret pc (bm_R k) := by
  refine ⟨trivial, ?_⟩
  intro D b0 mc ms d p l e R s m args below meth c w0 F hCx hCon hS hF lo st w hex
  obtain ⟨r, hFr, rfl, h1, h2⟩ := h st w F lo hex
  have hb := hF _ _ hFr
  refine ⟨hb, fun H locs ls g1 g2 g3 g4 g5 g6 g7 => ?_⟩
  refine W.widen (k := mc) (n := ms) (by have := hb.1; show bm_sz w - bm_sz w0 ≤ mc; omega) (by have := hb.2; show bm_sl w - bm_sl w0 ≤ ms; omega) (vx_ret ?_)
  cases r with
  | none => exact h2 rfl D b0 mc ms d p l e R s m args below meth c H locs mc ms ls _ hCx (fun t ht hW => ⟨⟨none, w, rfl, hFr, (fun v hv => by cases hv), by rw [ht]; exact g4⟩, g5.F ht⟩) g5.2.2
  | some v => exact h1 v rfl (g3 v (by simp)) D b0 mc ms d p l e R s m args below meth c H locs mc ms ls _ hCx (fun t ht hW => ⟨⟨some v, w, rfl, hFr, (fun u hu => by cases hu; exact g3 v (by simp)), by rw [ht]; exact g4⟩, g5.F ht⟩) g5.2.2
theorem bm_s_return (hdg : decode cc pc = .ok (.return_, 1)) (hr : ret = none) : bm_Sn K pg mi cc nL own nm ret pc (bm_R 0) := by
  refine bm_Sn.rtn (fun st w F lo h => ?_)
  match st, h with
  | [], h =>
    refine ⟨none, h, rfl, (fun v hv => by cases hv), fun _ D b0 mc ms d p l e R s m args below meth c H locs cells slots ls Qc hCx hq hf => ?_⟩
    exact W.vret hCx.1 hCx.2.1 (hCx.2.2.2.2.2.2.2.2.2.2.2.2.2.2.2.1.trans hr) hq hf hdg hCx.2.2.2.2.2.2.2.1
theorem bm_s_ireturn (hdg : decode cc pc = .ok (.ireturn, 1)) (hr : ret = some .int) : bm_Sn K pg mi cc nL own nm ret pc (bm_R 1) := by
  refine bm_Sn.rtn (fun st w F lo h => ?_)
  match st, h with
  | [.inl x], h =>
    refine ⟨some (.inl x), h, rfl, fun v hv hin => ?_, fun q => by cases q⟩
    cases hv
    intro D b0 mc ms d p l e R s m args below meth c H locs cells slots ls Qc hCx hq hf
    exact W.iret hCx.1 hCx.2.1 (hCx.2.2.2.2.2.2.2.2.2.2.2.2.2.2.2.1.trans hr) hq hf hdg hCx.2.2.2.2.2.2.2.1
theorem bm_s_zreturn (hdg : decode cc pc = .ok (.ireturn, 1)) (hr : ret = some .boolean) : bm_Sn K pg mi cc nL own nm ret pc (bm_R 2) := by
  refine bm_Sn.rtn (fun st w F lo h => ?_)
  match st, h with
  | [.inl x], h =>
    refine ⟨some (.inl x), h.2, rfl, fun v hv hin => ?_, fun q => by cases q⟩
    cases hv
    intro D b0 mc ms d p l e R s m args below meth c H locs cells slots ls Qc hCx hq hf
    exact W.zret hCx.1 hCx.2.1 (hCx.2.2.2.2.2.2.2.2.2.2.2.2.2.2.2.1.trans hr) (bm_ofB h.1).1 hq hf hdg hCx.2.2.2.2.2.2.2.1
theorem bm_s_lreturn (hdg : decode cc pc = .ok (.lreturn, 1)) (hr : ret = some .long) : bm_Sn K pg mi cc nL own nm ret pc (bm_R 3) := by
  refine bm_Sn.rtn (fun st w F lo h => ?_)
  match st, h with
  | [.inr (.inl x)], h =>
    refine ⟨some (.inr (.inl x)), h, rfl, fun v hv hin => ?_, fun q => by cases q⟩
    cases hv
    intro D b0 mc ms d p l e R s m args below meth c H locs cells slots ls Qc hCx hq hf
    exact W.lret hCx.1 hCx.2.1 (hCx.2.2.2.2.2.2.2.2.2.2.2.2.2.2.2.1.trans hr) hq hf hdg hCx.2.2.2.2.2.2.2.1
theorem bm_s_dreturn (hdg : decode cc pc = .ok (.dreturn, 1)) (hr : ret = some .double) : bm_Sn K pg mi cc nL own nm ret pc (bm_R 4) := by
  refine bm_Sn.rtn (fun st w F lo h => ?_)
  match st, h with
  | [.inr (.inr (.inr (.inl x)))], h =>
    refine ⟨some (.inr (.inr (.inr (.inl x)))), h, rfl, fun v hv hin => ?_, fun q => by cases q⟩
    cases hv
    intro D b0 mc ms d p l e R s m args below meth c H locs cells slots ls Qc hCx hq hf
    exact W.dret hCx.1 hCx.2.1 (hCx.2.2.2.2.2.2.2.2.2.2.2.2.2.2.2.1.trans hr) hq hf hdg hCx.2.2.2.2.2.2.2.1
theorem bm_s_areturn {rt : FieldType} (hdg : decode cc pc = .ok (.areturn, 1)) (hr : ret = some rt) (hrt : (∃ n, rt = .object n) ∨ ∃ t, rt = .array t) : bm_Sn K pg mi cc nL own nm ret pc (bm_R 5) := by
  refine bm_Sn.rtn (fun st w F lo h => ?_)
  match st, h with
  | [.inr (.inr (.inl x))], h =>
    refine ⟨some (.inr (.inr (.inl x))), h, rfl, fun v hv hin => ?_, fun q => by cases q⟩
    cases hv
    intro D b0 mc ms d p l e R s m args below meth c H locs cells slots ls Qc hCx hq hf
    exact W.aret hCx.1 hCx.2.1 (hCx.2.2.2.2.2.2.2.2.2.2.2.2.2.2.2.1.trans hr) hrt (va_rf_or x) hq hf hdg hCx.2.2.2.2.2.2.2.1
theorem bm_s_creturn (hdg : decode cc pc = .ok (.ireturn, 1)) (hr : ret = some .char) : bm_Sn K pg mi cc nL own nm ret pc (bm_R 6) := by
  refine bm_Sn.rtn (fun st w F lo h => ?_)
  match st, h with
  | [.inl x], h =>
    refine ⟨some (.inl x), h.2, rfl, fun v hv hin => ?_, fun q => by cases q⟩
    cases hv
    intro D b0 mc ms d p l e R s m args below meth c H locs cells slots ls Qc hCx hq hf
    refine W.zret hCx.1 hCx.2.1 (hCx.2.2.2.2.2.2.2.2.2.2.2.2.2.2.2.1.trans hr) ?_ hq hf hdg hCx.2.2.2.2.2.2.2.1
    obtain ⟨h1, h2⟩ := h.1
    obtain ⟨n, rfl⟩ := Int.eq_ofNat_of_zero_le h1
    have h3 := (pk_charN (q := n) (by omega)).1
    rw [show Int32.ofInt (n : Int) = nI n from Int32.ofInt_eq_ofNat]
    exact h3
theorem bm_s_breturn (hdg : decode cc pc = .ok (.ireturn, 1)) (hr : ret = some .byte) : bm_Sn K pg mi cc nL own nm ret pc (bm_R 7) := by
  refine bm_Sn.rtn (fun st w F lo h => ?_)
  match st, h with
  | [.inl x], h =>
    refine ⟨some (.inl x), h.2, rfl, fun v hv hin => ?_, fun q => by cases q⟩
    cases hv
    intro D b0 mc ms d p l e R s m args below meth c H locs cells slots ls Qc hCx hq hf
    refine W.zret hCx.1 hCx.2.1 (hCx.2.2.2.2.2.2.2.2.2.2.2.2.2.2.2.1.trans hr) ?_ hq hf hdg hCx.2.2.2.2.2.2.2.1
    obtain ⟨h1, h2⟩ := h.1
    show Value.int (Int32.ofInt x).toInt8.toInt32 = _
    congr 1
    have hx : bm_InI x := hin
    rw [← Int32.toInt_inj, Int8.toInt_toInt32, Int32.toInt_toInt8, bm_toI hx]
    simp only [Int.bmod]
    omega
/-- 'throw new E()': new, dup, <init>, athrow -/
theorem bm_s_throw {E : String} {names : List String} {ik ic : Nat} (d0 : decode cc pc = .ok (.new ik, 3)) (d3 : decode cc (pc + 3) = .ok (.dup, 1)) (d4 : decode cc (pc + 4) = .ok (.invokespecial ic, 3)) (d7 : decode cc (pc + 7) = .ok (.athrow, 1))
    (hcls : Bundle.fit E = true) (hnames : ∀ n ∈ names, Bundle.fit n = true) (hk : Cond.classLink own ik E ∈ bm_ALL) (hini : Cond.initialized E ∈ bm_ALL) (hat : ∀ w ∈ vx_at0 own ic E names, w ∈ bm_ALL ∨ w ∈ bm_NW) (hgood : ∀ w ∈ Cond.classLink own ik E :: Cond.initialized E :: vx_at0 own ic E names, vx_ot w = true) (hlen : names.length ≤ 5) :
    bm_Sn K pg mi cc nL own nm ret pc (bm_T E) := by
  refine ⟨trivial, ?_⟩
  intro D b0 mc ms d p l e R s m args below meth c w0 F hCx hCon hS hF lo st w hex
  match st, hex with
  | [], hex =>
  have hex : F (.inr E) (bm_tw w) := hex
  have hb := hF _ _ hex
  have hb1 : bm_sz w + 1 ≤ bm_sz w0 + mc := hb.1
  have hb2 : bm_sl w + 6 ≤ bm_sl w0 + ms := hb.2
  refine ⟨⟨by show bm_sz w ≤ _; omega, by show bm_sl w ≤ _; omega⟩, fun H locs ls g1 g2 g3 g4 g5 g6 g7 => ?_⟩
  obtain ⟨hx, hbb, hml, hown, hts, hK, hST, hlk, hext, hl, hb0, hRc, hRs, hRf, hRl, -, -⟩ := hCx
  have z3 : bm_sz w0 ≤ bm_sz w := g7.1
  have z4 : bm_sl w0 ≤ bm_sl w := g7.2
  have k1 : bm_sz w - bm_sz w0 + 1 ≤ mc := by omega
  have k2 : bm_sl w - bm_sl w0 + 6 ≤ ms := by omega
  refine vx_throw0 (rest := []) hx hbb hl hown hcls hnames (hts _ hk) (hts _ hini) (fun w hw => (hat w hw).elim (hts w) (fun q => bm_nw_use (List.mem_filter.mp q).2 (hST.2.2.2.2.2.2.2.2 w q))) hgood hST.2.2.2.2.2.2.1 hST.2.2.2.2.2.2.2.1 g5 (by rw [hml]; exact g6.1) d0 d3 d4 d7 (fun x hx2 => (hext x hx2).elim) (Nat.lt_of_lt_of_le (by omega) hRf) (Nat.le_trans (by show 0 + (13 * (names.length + 1) + 42) ≤ 440; omega) (Nat.le_trans (Nat.le_add_left _ _) hRl)) (by rw [hRc]; exact k1) (by rw [hRs]; exact k2) hlk (fun t hvm hz hq => ⟨⟨bm_tw w, hex, ?_⟩, Nat.le_trans g5.1 hz, fun q h1 h2 => (hq q (Nat.lt_of_lt_of_le h1 g5.1)).trans (g5.2.1 q h1 h2)⟩) g5.2.2 k1 k2
  obtain ⟨e1, e2, e3, e4, e5, e6⟩ := g4
  refine ⟨e2, e3, fun a ha => ?_, fun a ha => e5 a (Nat.le_trans (Nat.le_trans (Nat.le_of_eq e1.symm) hz) ha), fun a => ⟨(e6 a).1, fun q => ?_⟩⟩
  · obtain ⟨q1, q2, q3⟩ := e4 a ha
    exact ⟨q1, Nat.lt_of_lt_of_le q2 (Nat.le_trans (Nat.le_of_eq e1.symm) hz), q3.kept (hq a (by rw [e1]; exact q2)) rfl (fun k => ⟨rfl, rfl, rfl⟩)⟩
  · obtain ⟨q1, q2, q3⟩ := (e6 a).2 q
    exact ⟨q1, Nat.lt_of_lt_of_le q2 (Nat.le_trans (Nat.le_of_eq e1.symm) hz), (hq a (by rw [e1]; exact q2)).trans q3⟩
/-- what comes of a switch -/
def bm_swt (x : Int) : List (Int × Nat) → Nat → Nat
  | [], d => d
  | (a, p) :: r, d => if x = a then p else bm_swt x r d
theorem bm_sw_t {x : Int} {k : Nat → Prop} : ∀ (cs : List (Int × Nat)) (d : Nat), bm_sw x k cs d → k (bm_swt x cs d)
  | [], _, h => h
  | (a, p) :: r, d, h => by
    unfold bm_sw at h
    unfold bm_swt
    split
    · rename_i e; rw [if_pos e] at h; exact h
    · rename_i e; rw [if_neg e] at h; exact bm_sw_t r d h
theorem bm_swt_out {x : Int} : ∀ (cs : List (Int × Nat)) (d : Nat), (∀ q ∈ cs, x ≠ q.1) → bm_swt x cs d = d
  | [], _, _ => rfl
  | (a, p) :: r, d, h => by
    unfold bm_swt
    rw [if_neg (h (a, p) List.mem_cons_self)]
    exact bm_swt_out r d (fun q hq => h q (List.mem_cons_of_mem _ hq))
def bm_oSw (cs : List (Int × Nat)) (d : Nat) : List bm_V → Option (Int × List (Int × Nat) × Nat × List bm_V) := fun st => match st with
  | .inl x :: r => some (x, cs, d, r)
  | _ => none
theorem bm_Sn.sw {cs : List (Int × Nat)} {dn : Nat}
    (h : ∀ (x : Int), bm_InI x → ∀ (D : bm_D) (b0 mc ms d : Nat) (p : Program) (l : Launch) (e : Env) (R : Room) (s : State) (m : MethodId) (args : Array Value) (below : List Frame) (meth : Method) (c : Code) (H : Heap) (locs : List Loc) (cells slots : Nat) (Q : State → Prop) (ls : Array Slot) (rest : List Value),
      bm_Cx K D b0 mc ms d p l R s m args meth c cc nL own nm ret → W p l e R s m args below meth c H locs cells slots Q (F0 m (bm_swt x cs dn) ls rest) → W p l e R s m args below meth c H locs cells slots Q (F0 m pc ls (.int (Int32.ofInt x) :: rest))) : bm_Sn K pg mi cc nL own nm ret pc (bm_Sw (bm_oSw cs dn)) := by
  refine ⟨trivial, ?_⟩
  intro D b0 mc ms d p l e R s m args below meth c w0 F hCx hCon hS hF lo st w hex
  simp only [bm_exe] at hex
  cases e2 : bm_oSw cs dn st with
  | none => rw [e2] at hex; exact hex.elim
  | some u =>
    rw [e2] at hex
    unfold bm_oSw at e2
    split at e2
    · rename_i x r
      cases e2
      have h9 := bm_sw_t _ _ hex
      exact ⟨h9.1, fun H locs ls g1 g2 g3 g4 g5 g6 g7 => h x g3.hd D b0 mc ms d p l e R s m args below meth c H locs _ _ _ ls _ hCx (h9.2 H locs ls g1 g2 g3.tl g4 g5 g6 g7)⟩
    · cases e2
theorem bm_s_table {dflt lo hi : Int} {offs : Array Int} {len dn : Nat} {cs : List (Int × Nat)} (hdg : decode cc pc = .ok (.tableswitch dflt lo hi offs, len)) (hd : (pc : Int) + dflt = (dn : Int)) (hks : ∀ q ∈ cs, lo ≤ q.1 ∧ q.1 ≤ hi) (hsz : hi - lo + 1 = (offs.size : Int)) (hat : ∀ i, i < offs.size → (pc : Int) + offs.getD i 0 = (bm_swt (lo + (i : Int)) cs dn : Int)) : bm_Sn K pg mi cc nL own nm ret pc (bm_Sw (bm_oSw cs dn)) := by
  refine bm_Sn.sw (fun x hx D b0 mc ms d p l e R s m args below meth c H locs cells slots Q ls rest hCx k => ?_)
  obtain ⟨hx1, hb, -⟩ := hCx
  by_cases h1 : x < lo
  · refine lv_tableOut hx1 hb hdg (Or.inl (by rw [bm_toI hx]; exact h1)) hd ?_
    rw [bm_swt_out cs dn (fun q hq e => by have := (hks q hq).1; omega)] at k
    exact k
  · by_cases h2 : hi < x
    · refine lv_tableOut hx1 hb hdg (Or.inr (by rw [bm_toI hx]; exact h2)) hd ?_
      rw [bm_swt_out cs dn (fun q hq e => by have := (hks q hq).2; omega)] at k
      exact k
    · have hi2 : (x - lo).toNat < offs.size := by omega
      have h3 := hat _ hi2
      rw [show lo + ((x - lo).toNat : Int) = x by omega] at h3
      refine lv_tableIn hx1 hb hdg (by rw [bm_toI hx]; exact h1) (by rw [bm_toI hx]; exact h2) (off := offs.getD (x - lo).toNat 0) (by rw [bm_toI hx, Array.getD_eq_getD_getElem?, Array.getElem?_eq_getElem hi2]; rfl) h3 k
theorem bm_lookoff {pc : Nat} {dflt : Int} {dn : Nat} (hd : (pc : Int) + dflt = (dn : Int)) (x : Int) : ∀ (ps : List (Int × Int)) (cs : List (Int × Nat)), ps.map (fun q => (q.1, (pc : Int) + q.2)) = cs.map (fun q => (q.1, (q.2 : Int))) → (pc : Int) + Op.lookupswitch.offset ps dflt x = (bm_swt x cs dn : Int)
  | [], [], _ => hd
  | [], _ :: _, h => by simp at h
  | _ :: _, [], h => by simp at h
  | (a, o) :: ps, (b, p) :: cs, h => by
    simp only [List.map_cons, List.cons.injEq, Prod.mk.injEq] at h
    obtain ⟨⟨h1, h2⟩, h3⟩ := h
    subst h1
    rw [Op.lookupswitch.offset_cons]
    unfold bm_swt
    by_cases e : x = a
    · rw [if_pos e, if_pos e.symm]; exact h2
    · rw [if_neg e, if_neg (fun q => e q.symm)]; exact bm_lookoff hd x ps cs h3
theorem bm_s_lookup {dflt : Int} {ps : Array (Int × Int)} {len dn : Nat} {cs : List (Int × Nat)} (hdg : decode cc pc = .ok (.lookupswitch dflt ps, len)) (hp : (ps.toList.zip (ps.toList.drop 1)).all (fun (a, next) => a.1 < next.1) = true) (hd : (pc : Int) + dflt = (dn : Int)) (hcs : ps.toList.map (fun q => (q.1, (pc : Int) + q.2)) = cs.map (fun q => (q.1, (q.2 : Int)))) : bm_Sn K pg mi cc nL own nm ret pc (bm_Sw (bm_oSw cs dn)) := by
  refine bm_Sn.sw (fun x hx D b0 mc ms d p l e R s m args below meth c H locs cells slots Q ls rest hCx k => ?_)
  obtain ⟨hx1, hb, -⟩ := hCx
  refine lv_lookup hx1 hb hdg hp rfl (by rw [bm_toI hx]; exact bm_lookoff hd x _ _ hcs) k
end BME

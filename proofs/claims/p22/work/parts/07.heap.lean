/-! ===== rows that read and write the heap ===== -/
def bm_u : Option Nat → Nat
  | some x => x
  | none => 0
/-- what a cell is stays, where heap and world stay -/
theorem bm_cell.kept {D : bm_D} {w w' : bm_W} {H H1 : Heap} {a t : Nat} (h : bm_cell D w H a t) (hq : H1[a]? = H[a]?) (hk : bm_kn w' a = bm_kn w a) (hs : ∀ k, bm_gi w' a k = bm_gi w a k ∧ bm_gl w' a k = bm_gl w a k ∧ bm_gr w' a k = bm_gr w a k) : bm_cell D w' H1 a t := by
  have hv : ∀ c k, bm_fv c w' a k = bm_fv c w a k := by
    intro c k
    obtain ⟨h1, h2, h3⟩ := hs k
    match c with
    | 0 => show Value.int _ = Value.int _; rw [h1]
    | 1 => show Value.long _ = Value.long _; rw [h2]
    | 2 => show va_rf _ = va_rf _; rw [h3]
    | _ + 3 => show Value.double _ = Value.double _; rw [h2]
  unfold bm_cell at h ⊢
  split
  · rename_i ht
    rw [if_pos ht] at h
    obtain ⟨r, h1, h2⟩ := h
    exact ⟨r, h1, (h2.kept hq).to (fun k _ => (hv _ k).symm)⟩
  · rename_i ht
    rw [if_neg ht] at h
    rw [hq, h, hk]
    congr 2
    funext j
    exact (hv _ j).symm
theorem bm_HE.put {D : bm_D} {b0 : Nat} {w w' : bm_W} {H H1 : Heap} {a : Nat} (e6 : bm_HE D b0 w H) (h1 : bm_kt w' = bm_kt w) (h2 : bm_kn w' = bm_kn w) (h3 : bm_sz w' = bm_sz w) (ho : ∀ q : Nat, q ≠ a → H1[q]? = H[q]?) (hs : ∀ b, b ≠ a → ∀ k, bm_gi w' b k = bm_gi w b k ∧ bm_gl w' b k = bm_gl w b k ∧ bm_gr w' b k = bm_gr w b k) (h9 : bm_kt w a < 90) : bm_HE D b0 w' H1 := by
  intro b
  rw [h1, h2, h3]
  refine ⟨fun q => ?_, fun q => ?_⟩
  · have hb : b ≠ a := fun e => by rw [e] at q; omega
    obtain ⟨k1, k2, k3⟩ := (e6 b).1 q
    exact ⟨k1, k2, fun k => ((hs b hb k).1).trans (k3 k)⟩
  · have hb : b ≠ a := fun e => by rw [e] at q; omega
    obtain ⟨k1, k2, k3⟩ := (e6 b).2 q
    refine ⟨k1, k2, ?_⟩
    have e : (fun j => bm_tx D (bm_gi w' b j)) = (fun j => bm_tx D (bm_gi w b j)) := funext fun j => by rw [(hs b hb j).1]
    rw [ho b hb, k3, e]
/-- one cell is written -/
theorem bm_HR.put {D : bm_D} {b0 : Nat} {w w' : bm_W} {H H1 : Heap} {a : Nat} (h : bm_HR D b0 w H) (h1 : bm_kt w' = bm_kt w) (h2 : bm_kn w' = bm_kn w) (h3 : bm_sz w' = bm_sz w) (hr : ∀ b k, bm_InI (bm_gi w' b k) ∧ bm_InL (bm_gl w' b k))
    (hc : bm_cell D w' H1 a (bm_kt w a)) (hz : H1.size = H.size) (ho : ∀ q : Nat, q ≠ a → H1[q]? = H[q]?) (hs : ∀ b, b ≠ a → ∀ k, bm_gi w' b k = bm_gi w b k ∧ bm_gl w' b k = bm_gl w b k ∧ bm_gr w' b k = bm_gr w b k) (h9 : bm_kt w a < 90 := by omega) : bm_HR D b0 w' H1 := by
  obtain ⟨e1, e2, e3, e4, e5, e6⟩ := h
  refine ⟨by rw [hz, h3]; exact e1, hr, by rw [h2]; exact e3, fun b hb => ?_, by rw [h3, h1]; exact e5, e6.put h1 h2 h3 ho hs h9⟩
  rw [h1] at hb ⊢
  obtain ⟨g1, g2, g3⟩ := e4 b hb
  refine ⟨g1, by rw [h3]; exact g2, ?_⟩
  by_cases hba : b = a
  · rw [hba]; exact hc
  · exact g3.kept (ho b hba) (by rw [h2]) (hs b hba)
theorem bm_si_kt (w : bm_W) (a k : Nat) (v : Int) : bm_kt (bm_si w a k v) = bm_kt w := rfl
theorem bm_si_kn (w : bm_W) (a k : Nat) (v : Int) : bm_kn (bm_si w a k v) = bm_kn w := rfl
theorem bm_si_sz (w : bm_W) (a k : Nat) (v : Int) : bm_sz (bm_si w a k v) = bm_sz w := rfl
theorem bm_si_sl (w : bm_W) (a k : Nat) (v : Int) : bm_sl (bm_si w a k v) = bm_sl w := rfl
theorem bm_si_gl (w : bm_W) (a k : Nat) (v : Int) : bm_gl (bm_si w a k v) = bm_gl w := rfl
theorem bm_si_gr (w : bm_W) (a k : Nat) (v : Int) : bm_gr (bm_si w a k v) = bm_gr w := rfl
theorem bm_si_gi (w : bm_W) (a k : Nat) (v : Int) (b j : Nat) : bm_gi (bm_si w a k v) b j = if b = a ∧ j = k then v else bm_gi w b j := rfl
theorem bm_sq_kt (w : bm_W) (a k : Nat) (v : Int) : bm_kt (bm_sq w a k v) = bm_kt w := rfl
theorem bm_sq_kn (w : bm_W) (a k : Nat) (v : Int) : bm_kn (bm_sq w a k v) = bm_kn w := rfl
theorem bm_sq_sz (w : bm_W) (a k : Nat) (v : Int) : bm_sz (bm_sq w a k v) = bm_sz w := rfl
theorem bm_sq_sl (w : bm_W) (a k : Nat) (v : Int) : bm_sl (bm_sq w a k v) = bm_sl w := rfl
theorem bm_sq_gi (w : bm_W) (a k : Nat) (v : Int) : bm_gi (bm_sq w a k v) = bm_gi w := rfl
theorem bm_sq_gr (w : bm_W) (a k : Nat) (v : Int) : bm_gr (bm_sq w a k v) = bm_gr w := rfl
theorem bm_sq_gl (w : bm_W) (a k : Nat) (v : Int) (b j : Nat) : bm_gl (bm_sq w a k v) b j = if b = a ∧ j = k then v else bm_gl w b j := rfl
theorem bm_sr_kt (w : bm_W) (a k : Nat) (v : Option Nat) : bm_kt (bm_sr w a k v) = bm_kt w := rfl
theorem bm_sr_kn (w : bm_W) (a k : Nat) (v : Option Nat) : bm_kn (bm_sr w a k v) = bm_kn w := rfl
theorem bm_sr_sz (w : bm_W) (a k : Nat) (v : Option Nat) : bm_sz (bm_sr w a k v) = bm_sz w := rfl
theorem bm_sr_sl (w : bm_W) (a k : Nat) (v : Option Nat) : bm_sl (bm_sr w a k v) = bm_sl w := rfl
theorem bm_sr_gi (w : bm_W) (a k : Nat) (v : Option Nat) : bm_gi (bm_sr w a k v) = bm_gi w := rfl
theorem bm_sr_gl (w : bm_W) (a k : Nat) (v : Option Nat) : bm_gl (bm_sr w a k v) = bm_gl w := rfl
theorem bm_sr_gr (w : bm_W) (a k : Nat) (v : Option Nat) (b j : Nat) : bm_gr (bm_sr w a k v) b j = if b = a ∧ j = k then v else bm_gr w b j := rfl
/-- a walk that may change heap and world -/
def bm_Gw (K : bm_K) (cc : ByteArray) (nL : Nat) (own nm : String) (ret : Option FieldType) (pc : Nat) (lo : bm_L) (st : List bm_V) (w : bm_W) (t : bm_S) : Prop :=
  ∀ (D : bm_D) (b0 mc ms d : Nat) (p : Program) (l : Launch) (e : Env) (R : Room) (s : State) (m : MethodId) (args : Array Value) (below : List Frame) (meth : Method) (c : Code) (H : Heap) (locs : List Loc) (w0 : bm_W) (Q : State → Prop) (ls : Array Slot),
    bm_Cx K D b0 mc ms d p l R s m args meth c cc nL own nm ret → bm_Bn w0 mc ms t.2.2.2 → bm_le w0 w → lo.length = nL → bm_InLo lo → bm_InSt st → bm_HR D b0 w H → va_S (bm_A b0) s.heap H locs → lv_has ls nL (bm_lv D 0 lo) →
    (∀ (H1 : Heap) (locs1 : List Loc) (ls' : Array Slot), t.2.1.length = nL → bm_InLo t.2.1 → bm_InSt t.2.2.1 → bm_HR D b0 t.2.2.2 H1 → va_S (bm_A b0) s.heap H1 locs1 → lv_has ls' nL (bm_lv D 0 t.2.1) → W p l e R s m args below meth c H1 locs1 (bm_sz t.2.2.2 - bm_sz w0) (bm_sl t.2.2.2 - bm_sl w0) Q (F0 m t.1 ls' (t.2.2.1.map (bm_val D)))) →
    W p l e R s m args below meth c H locs (bm_sz w - bm_sz w0) (bm_sl w - bm_sl w0) Q (F0 m pc ls (st.map (bm_val D)))
section BMH
variable {K : bm_K} {pg : bm_Pg} {mi : bm_Mi} {cc : ByteArray} {nL : Nat} {own nm : String} {ret : Option FieldType} {pc : Nat}
theorem bm_Sn.heapG {f : bm_L → List bm_V → bm_W → Option (Prop × bm_S)}
    (h : ∀ lo st w g t, f lo st w = some (g, t) → g → bm_le w t.2.2.2 ∧ bm_Gw K cc nL own nm ret pc lo st w t) : bm_Sn K pg mi cc nL own nm ret pc (bm_G f) := by
  refine ⟨fun lo st w g t e hg => (h lo st w g t e hg).1, ?_⟩
  intro D b0 mc ms d p l e R s m args below meth c w0 F hCx hCon hS hF lo st w hex
  simp only [bm_exe] at hex
  cases e2 : f lo st w with
  | none => rw [e2] at hex; exact hex.elim
  | some t =>
    rw [e2] at hex
    obtain ⟨g, t⟩ := t
    obtain ⟨hg, hb, hex⟩ := hex
    obtain ⟨hle, hgo⟩ := h lo st w g t e2 hg
    exact ⟨⟨Nat.le_trans hle.1 hb.1, Nat.le_trans hle.2 hb.2⟩, fun H locs ls g1 g2 g3 g4 g5 g6 g7 => hgo D b0 mc ms d p l e R s m args below meth c H locs w0 _ ls hCx hb g7 g1 g2 g3 g4 g5 g6 (fun H1 locs1 ls' i1 i2 i3 i4 i5 i6 => hex H1 locs1 ls' i1 i2 i3 i4 i5 i6 (bm_le.tr g7 hle))⟩
theorem bm_Sn.heapP {f : bm_L → List bm_V → bm_W → Option bm_S}
    (h : ∀ lo st w t, f lo st w = some t → bm_le w t.2.2.2 ∧ bm_Gw K cc nL own nm ret pc lo st w t) : bm_Sn K pg mi cc nL own nm ret pc (bm_P f) := by
  refine ⟨fun lo st w t e => (h lo st w t e).1, ?_⟩
  intro D b0 mc ms d p l e R s m args below meth c w0 F hCx hCon hS hF lo st w hex
  simp only [bm_exe] at hex
  cases e2 : f lo st w with
  | none => rw [e2] at hex; exact hex.elim
  | some t =>
    rw [e2] at hex
    obtain ⟨hb, hex⟩ := hex
    obtain ⟨hle, hgo⟩ := h lo st w t e2
    exact ⟨⟨Nat.le_trans hle.1 hb.1, Nat.le_trans hle.2 hb.2⟩, fun H locs ls g1 g2 g3 g4 g5 g6 g7 => hgo D b0 mc ms d p l e R s m args below meth c H locs w0 _ ls hCx hb g7 g1 g2 g3 g4 g5 g6 (fun H1 locs1 ls' i1 i2 i3 i4 i5 i6 => hex H1 locs1 ls' i1 i2 i3 i4 i5 i6 (bm_le.tr g7 hle))⟩
/-- a class: its number, name, fields, count; its words among all; its fields' types, names apart -/
def bm_Cl (t : Nat) (C : String) (T : u_T) (N : Nat) : Prop :=
  t < 13 ∧ vwCl[t]? = some (C, T, N) ∧ (∀ w ∈ u_ws C T N, w ∈ bm_ALL) ∧ (∀ k, k < N → parseFieldDescriptor (T k).2.2.1 = some (bm_ty t k)) ∧ ∀ a, a < N → ∀ b, b < N → a ≠ b → (T a).2.1 ≠ (T b).2.1
theorem bm_ob {D : bm_D} {b0 : Nat} {w : bm_W} {H : Heap} {a t N : Nat} {C : String} {T : u_T} (hC : bm_Cl t C T N) (hH : bm_HR D b0 w H) (ha : bm_kt w a = t) : t_OB a (D.1.1 t) N (D.1.2 t) H (fun k => bm_fv (bm_fc (bm_ty t k)) w a k) := by
  obtain ⟨h1, h2, -⟩ := hC
  have h3 := (hH.2.2.2.1 a (by rw [ha]; omega)).2.2
  rw [ha] at h3
  unfold bm_cell at h3
  rw [if_pos h1] at h3
  obtain ⟨r, e1, e2⟩ := h3
  cases e1.symm.trans h2
  exact e2
/-- a field's link, own or a nest mate's -/
def bm_lk (own : String) (index : Nat) (ref n d : String) : Prop := Cond.fieldLink own index ref n d ∈ bm_ALL ∨ ∃ h : String, Cond.fieldLinkNest own index ref n d h ∈ bm_NW
theorem bm_getW {D : bm_D} {b0 mc ms d : Nat} {p : Program} {l : Launch} {e : Env} {R : Room} {s : State} {m : MethodId} {args : Array Value} {below : List Frame} {meth : Method} {c : Code} {H : Heap} {locs : List Loc} {cells slots : Nat} {Q : State → Prop} {ls : Array Slot} {rest : List Value} {w : bm_W} {a t N k index : Nat} {C : String} {T : u_T}
    (hCx : bm_Cx K D b0 mc ms d p l R s m args meth c cc nL own nm ret) (hC : bm_Cl t C T N) (hH : bm_HR D b0 w H) (ha : bm_kt w a = t) (hk : k < N) (hl : bm_lk own index (T k).1 (T k).2.1 (T k).2.2.1) (hdg : decode cc pc = .ok (.getfield index, 3))
    (kk : W p l e R s m args below meth c H locs cells slots Q (F0 m (pc + 3) ls (bm_fv (bm_fc (bm_ty t k)) w a k :: rest))) : W p l e R s m args below meth c H locs cells slots Q (F0 m pc ls (.ref a :: rest)) := by
  obtain ⟨hx, hb, -, hown, hts, hK, hST, -⟩ := hCx
  obtain ⟨cell, q1, q2, q3, q4⟩ := bm_ob hC hH ha
  obtain ⟨-, hc, hin, -⟩ := hC
  obtain ⟨hS, hfc, kC, hkC, hkind⟩ := hK.1 t _ hc
  obtain ⟨cf, kf, fi, f, hi, hsl⟩ := hS k hk
  have hst := (u_facts hfc hkC (u_lays hts hin hk) hi).1
  rcases hl with hl | ⟨h, hl⟩
  · exact W.getf hx hb hown (hts _ hl) hi hst q1 (by rw [q3]; exact fun h => by cases h) (by rw [hsl, q4 k hk]) rfl rfl hdg kk
  · exact va_Wgetf hx hb hown (va_Nw.use rfl (hST.2.2.2.2.2.2.2.2 _ hl)) hi hst q1 (by rw [q3]; exact fun h => by cases h) (by rw [hsl, q4 k hk]) rfl rfl hdg kk
def bm_gI (t k nx : Nat) : bm_L → List bm_V → bm_W → Option (Prop × bm_S) := fun lo st w => match st with
  | .inr (.inr (.inl (some a))) :: r => some (bm_kt w a = t, nx, lo, .inl (bm_gi w a k) :: r, w)
  | _ => none
def bm_gL (t k nx : Nat) : bm_L → List bm_V → bm_W → Option (Prop × bm_S) := fun lo st w => match st with
  | .inr (.inr (.inl (some a))) :: r => some (bm_kt w a = t, nx, lo, .inr (.inl (bm_gl w a k)) :: r, w)
  | _ => none
def bm_gN (t k nx : Nat) : bm_L → List bm_V → bm_W → Option (Prop × bm_S) := fun lo st w => match st with
  | .inr (.inr (.inl (some a))) :: r => some (bm_kt w a = t ∧ bm_gr w a k = some (bm_u (bm_gr w a k)), nx, lo, .inr (.inr (.inl (some (bm_u (bm_gr w a k))))) :: r, w)
  | _ => none
theorem bm_Gw.still {lo : bm_L} {st st' : List bm_V} {w : bm_W} {nx : Nat}
    (h : ∀ (D : bm_D) (b0 mc ms d : Nat) (p : Program) (l : Launch) (e : Env) (R : Room) (s : State) (m : MethodId) (args : Array Value) (below : List Frame) (meth : Method) (c : Code) (H : Heap) (locs : List Loc) (cells slots : Nat) (Q : State → Prop) (ls : Array Slot),
      bm_Cx K D b0 mc ms d p l R s m args meth c cc nL own nm ret → bm_InSt st → bm_HR D b0 w H → va_S (bm_A b0) s.heap H locs → ls.size = nL → bm_InSt st' ∧
      (W p l e R s m args below meth c H locs cells slots Q (F0 m nx ls (st'.map (bm_val D))) → W p l e R s m args below meth c H locs cells slots Q (F0 m pc ls (st.map (bm_val D))))) : bm_Gw K cc nL own nm ret pc lo st w (nx, lo, st', w) := by
  intro D b0 mc ms d p l e R s m args below meth c H locs w0 Q ls hCx hB hle g1 g2 g3 g4 g5 g6 k
  obtain ⟨h1, h2⟩ := h D b0 mc ms d p l e R s m args below meth c H locs _ _ Q ls hCx g3 g4 g5 g6.1
  exact h2 (k H locs ls g1 g2 h1 g4 g5 g6)
theorem bm_s_getI {t N k index : Nat} {C : String} {T : u_T} (nx : Nat) (hdg : decode cc pc = .ok (.getfield index, 3)) (hC : bm_Cl t C T N) (hk : k < N) (hl : bm_lk own index (T k).1 (T k).2.1 (T k).2.2.1) (hty : bm_fc (bm_ty t k) = 0) (hn : nx = pc + 3 := by rfl) : bm_Sn K pg mi cc nL own nm ret pc (bm_G (bm_gI t k nx)) := by
  subst hn
  refine bm_Sn.heapG (fun lo st w g u he hg => ?_)
  unfold bm_gI at he
  split at he
  · rename_i a r
    cases he
    refine ⟨bm_le.rf, bm_Gw.still (fun D b0 mc ms d p l e R s m args below meth c H locs cells slots Q ls hCx h3 hH hS hz => ⟨bm_InSt.cons (hH.2.1 a k).1 h3.tl, fun kk => ?_⟩)⟩
    refine bm_getW hCx hC hH hg hk hl hdg ?_
    rw [hty]; exact kk
  · cases he
theorem bm_s_getL {t N k index : Nat} {C : String} {T : u_T} (nx : Nat) (hdg : decode cc pc = .ok (.getfield index, 3)) (hC : bm_Cl t C T N) (hk : k < N) (hl : bm_lk own index (T k).1 (T k).2.1 (T k).2.2.1) (hty : bm_fc (bm_ty t k) = 1) (hn : nx = pc + 3 := by rfl) : bm_Sn K pg mi cc nL own nm ret pc (bm_G (bm_gL t k nx)) := by
  subst hn
  refine bm_Sn.heapG (fun lo st w g u he hg => ?_)
  unfold bm_gL at he
  split at he
  · rename_i a r
    cases he
    refine ⟨bm_le.rf, bm_Gw.still (fun D b0 mc ms d p l e R s m args below meth c H locs cells slots Q ls hCx h3 hH hS hz => ⟨bm_InSt.cons (hH.2.1 a k).2 h3.tl, fun kk => ?_⟩)⟩
    refine bm_getW hCx hC hH hg hk hl hdg ?_
    rw [hty]; exact kk
  · cases he
theorem bm_s_getN {t N k index : Nat} {C : String} {T : u_T} (nx : Nat) (hdg : decode cc pc = .ok (.getfield index, 3)) (hC : bm_Cl t C T N) (hk : k < N) (hl : bm_lk own index (T k).1 (T k).2.1 (T k).2.2.1) (hty : bm_fc (bm_ty t k) = 2) (hn : nx = pc + 3 := by rfl) : bm_Sn K pg mi cc nL own nm ret pc (bm_G (bm_gN t k nx)) := by
  subst hn
  refine bm_Sn.heapG (fun lo st w g u he hg => ?_)
  unfold bm_gN at he
  split at he
  · rename_i a r
    cases he
    refine ⟨bm_le.rf, bm_Gw.still (fun D b0 mc ms d p l e R s m args below meth c H locs cells slots Q ls hCx h3 hH hS hz => ⟨bm_InSt.cons trivial h3.tl, fun kk => ?_⟩)⟩
    refine bm_getW hCx hC hH hg.1 hk hl hdg ?_
    rw [hty]
    show W p l e R s m args below meth c H locs cells slots Q (F0 m (pc + 3) ls (va_rf (bm_gr w a k) :: _))
    rw [hg.2]; exact kk
  · cases he
/-! writing a field -/
theorem bm_putW {D : bm_D} {b0 mc ms d : Nat} {p : Program} {l : Launch} {e : Env} {R : Room} {s : State} {m : MethodId} {args : Array Value} {below : List Frame} {meth : Method} {c : Code} {H : Heap} {locs : List Loc} {cells slots : Nat} {Q : State → Prop} {ls : Array Slot} {rest : List Value} {w w' : bm_W} {a t N k index : Nat} {C : String} {T : u_T} {v : Value}
    (hCx : bm_Cx K D b0 mc ms d p l R s m args meth c cc nL own nm ret) (hC : bm_Cl t C T N) (hH : bm_HR D b0 w H) (hSv : va_S (bm_A b0) s.heap H locs) (ha : bm_kt w a = t) (hk : k < N) (hl : bm_lk own index (T k).1 (T k).2.1 (T k).2.2.1) (hfin : (T k).2.2.2 = false ∨ ((T k).2.2.2 = true ∧ nm = "<init>" ∧ (T k).1 = own ∧ Cond.fieldLink own index (T k).1 (T k).2.1 (T k).2.2.1 ∈ bm_ALL)) (hdg : decode cc pc = .ok (.putfield index, 3))
    (hn : narrow (bm_ty t k) v = v) (hfit : fits (bm_ty t k) v = true)
    (h1 : bm_kt w' = bm_kt w) (h2 : bm_kn w' = bm_kn w) (h3 : bm_sz w' = bm_sz w) (hr : ∀ b j, bm_InI (bm_gi w' b j) ∧ bm_InL (bm_gl w' b j)) (hs : ∀ b j, ¬ (b = a ∧ j = k) → bm_gi w' b j = bm_gi w b j ∧ bm_gl w' b j = bm_gl w b j ∧ bm_gr w' b j = bm_gr w b j) (hv : bm_fv (bm_fc (bm_ty t k)) w' a k = v)
    (kk : ∀ (H1 : Heap) (locs1 : List Loc), bm_HR D b0 w' H1 → va_S (bm_A b0) s.heap H1 locs1 → W p l e R s m args below meth c H1 locs1 cells slots Q (F0 m (pc + 3) ls rest)) : W p l e R s m args below meth c H locs cells slots Q (F0 m pc ls (v :: .ref a :: rest)) := by
  obtain ⟨hx, hb, -, hown, hts, hK, hST, -, -, -, -, -, -, -, -, -, hmn⟩ := hCx
  have hba : b0 ≤ a := (hH.2.2.2.1 a (by rw [ha]; exact Nat.lt_trans hC.1 (by omega))).1
  have hOB := bm_ob hC hH ha
  obtain ⟨cell, q1, q2, q3, q4⟩ := hOB
  obtain ⟨ht13, hc, hin, hty, hnm⟩ := hC
  have hap := va_apart (D := D.1) (own := own) hts hin (bm_ty t) hty hnm hK hc
  obtain ⟨hS, hfc, kC, hkC, hkind⟩ := hK.1 t _ hc
  obtain ⟨cf, kf, fi, f, hi, hsl⟩ := hS k hk
  have hst := (u_facts hfc hkC (u_lays hts hin hk) hi).1
  have fin : ∀ (H1 : Heap), H1[a]? = some (cell.setSlot (D.1.2 t k) v) → H1.size = H.size → (∀ q : Nat, q ≠ a → H1[q]? = H[q]?) → W p l e R s m args below meth c H1 (locs ++ [⟨a, D.1.2 t k⟩]) cells slots Q (F0 m (pc + 3) ls rest) := by
    intro H1 e1 e2 e3
    refine kk H1 _ (hH.put h1 h2 h3 hr ?_ e2 e3 (fun b hb2 j => hs b j (fun z => hb2 z.1))) (hSv.put e2 e3 hba)
    rw [ha]
    unfold bm_cell
    rw [if_pos ht13]
    refine ⟨_, hc, t_OB.to (V := updV (fun j => bm_fv (bm_fc (bm_ty t j)) w a j) k v) ⟨_, e1, q2, q3, t_set q4 hap hk v⟩ (fun j _ => ?_)⟩
    unfold updV
    by_cases hjk : j = k
    · rw [if_pos hjk, hjk]; exact hv.symm
    · rw [if_neg hjk]
      obtain ⟨g1, g2, g3⟩ := hs a j (fun z => hjk z.2)
      show bm_fv (bm_fc (bm_ty t j)) w a j = bm_fv (bm_fc (bm_ty t j)) w' a j
      generalize bm_fc (bm_ty t j) = cd
      match cd with
      | 0 => show Value.int _ = Value.int _; rw [g1]
      | 1 => show Value.long _ = Value.long _; rw [g2]
      | 2 => show va_rf _ = va_rf _; rw [g3]
      | _ + 3 => show Value.double _ = Value.double _; rw [g2]
  have hlay := hts _ (hin _ (u_in_lay hk))
  rcases hfin with hfin | ⟨hfin, hini, hdecl, hl2⟩
  · unfold u_lay at hlay
    rw [if_neg (by rw [hfin]; decide)] at hlay
    have h6 := u_store hfc hkC hkind hlay hi (hty k hk) hn hfit
    rcases hl with hl | ⟨h, hl⟩
    · refine W.putK hx hb (f := f) ⟨hown, hts _ hl, ⟨_, _, _, hi⟩, hst⟩ (by rw [q2]; exact h6) q1 q3 (by rw [hsl]; exact k2_hasslot (q4 k hk)) rfl rfl hdg fun H' e1 e2 e3 => ?_
      rw [hsl] at e1 ⊢
      exact fin H' e1 e2 e3
    · refine va_WputK hx hb hown (va_Nw.use rfl (hST.2.2.2.2.2.2.2.2 _ hl)) hi hst (by rw [q2]; exact h6) q1 q3 (by rw [hsl]; exact k2_hasslot (q4 k hk)) rfl rfl hdg fun H' e1 e2 e3 => ?_
      rw [hsl] at e1 ⊢
      exact fin H' e1 e2 e3
  · unfold u_lay at hlay
    rw [if_pos hfin] at hlay
    have hcf : m.cls = cf := by
      obtain ⟨_, _, c', _, _, _, -, -, hf', -, -, -, hown2, -⟩ := Cond.laysFinal_spec hlay
      have e1 : c' = cf := by have := hi.symm.trans hf'; simp at this; exact this.1.symm
      rw [hdecl] at hown2
      rw [← e1]; exact Option.some.inj (hown.symm.trans hown2)
    have h6 := u_fits hfc hkC hkind (Or.inr hlay) hi (hty k hk) hn hfit
    refine W.putFinK hx hb hown (hts _ hl2) hi hst hcf (hmn.trans hini) (by rw [q2]; exact h6) q1 q3 (by rw [hsl]; exact k2_hasslot (q4 k hk)) rfl rfl hdg fun H' e1 e2 e3 => ?_
    rw [hsl] at e1 ⊢
    exact fin H' e1 e2 e3
def bm_pI (t k nx : Nat) : bm_L → List bm_V → bm_W → Option (Prop × bm_S) := fun lo st w => match st with
  | .inl x :: .inr (.inr (.inl (some a))) :: r => some (bm_kt w a = t, nx, lo, r, bm_si w a k x)
  | _ => none
def bm_pZ (t k nx : Nat) : bm_L → List bm_V → bm_W → Option (Prop × bm_S) := fun lo st w => match st with
  | .inl x :: .inr (.inr (.inl (some a))) :: r => some (bm_kt w a = t ∧ (x = 0 ∨ x = 1), nx, lo, r, bm_si w a k x)
  | _ => none
def bm_pL (t k nx : Nat) : bm_L → List bm_V → bm_W → Option (Prop × bm_S) := fun lo st w => match st with
  | .inr (.inl x) :: .inr (.inr (.inl (some a))) :: r => some (bm_kt w a = t, nx, lo, r, bm_sq w a k x)
  | _ => none
def bm_pR (t k nx : Nat) : bm_L → List bm_V → bm_W → Option (Prop × bm_S) := fun lo st w => match st with
  | .inr (.inr (.inl x)) :: .inr (.inr (.inl (some a))) :: r => some (bm_kt w a = t, nx, lo, r, bm_sr w a k x)
  | _ => none
/-- whether a field may be written here -/
def bm_fin (own nm : String) (index : Nat) (q : String × String × String × Bool) : Prop := q.2.2.2 = false ∨ (q.2.2.2 = true ∧ nm = "<init>" ∧ q.1 = own ∧ Cond.fieldLink own index q.1 q.2.1 q.2.2.1 ∈ bm_ALL)
theorem bm_range_si {w : bm_W} {a k : Nat} {x : Int} (h : ∀ b j, bm_InI (bm_gi w b j) ∧ bm_InL (bm_gl w b j)) (hx : bm_InI x) : ∀ b j, bm_InI (bm_gi (bm_si w a k x) b j) ∧ bm_InL (bm_gl (bm_si w a k x) b j) := by
  intro b j
  refine ⟨?_, (h b j).2⟩
  rw [bm_si_gi]
  split
  · exact hx
  · exact (h b j).1
theorem bm_range_sq {w : bm_W} {a k : Nat} {x : Int} (h : ∀ b j, bm_InI (bm_gi w b j) ∧ bm_InL (bm_gl w b j)) (hx : bm_InL x) : ∀ b j, bm_InI (bm_gi (bm_sq w a k x) b j) ∧ bm_InL (bm_gl (bm_sq w a k x) b j) := by
  intro b j
  refine ⟨(h b j).1, ?_⟩
  rw [bm_sq_gl]
  split
  · exact hx
  · exact (h b j).2
theorem bm_ofB {x : Int} (h : x = 0 ∨ x = 1) : narrow .boolean (.int (Int32.ofInt x)) = .int (Int32.ofInt x) ∧ fits .boolean (.int (Int32.ofInt x)) = true := by
  rcases h with rfl | rfl <;> exact ⟨by decide, by decide⟩
theorem bm_s_putI {t N k index : Nat} {C : String} {T : u_T} (nx : Nat) (hdg : decode cc pc = .ok (.putfield index, 3)) (hC : bm_Cl t C T N) (hk : k < N) (hl : bm_lk own index (T k).1 (T k).2.1 (T k).2.2.1) (hf : bm_fin own nm index (T k)) (hty : bm_ty t k = .int) (hn : nx = pc + 3 := by rfl) : bm_Sn K pg mi cc nL own nm ret pc (bm_G (bm_pI t k nx)) := by
  subst hn
  refine bm_Sn.heapG (fun lo st w g u he hg => ?_)
  unfold bm_pI at he
  split at he
  · rename_i x a r
    cases he
    refine ⟨⟨Nat.le_refl _, Nat.le_refl _⟩, fun D b0 mc ms d p l e R s m args below meth c H locs w0 Q ls hCx hB hle g1 g2 g3 g4 g5 g6 kk => ?_⟩
    refine bm_putW hCx hC g4 g5 hg hk hl hf hdg (by rw [hty]; rfl) (by rw [hty]; rfl) (bm_si_kt w a k x) (bm_si_kn w a k x) (bm_si_sz w a k x) (bm_range_si g4.2.1 g3.hd) (fun b j hbj => ⟨by rw [bm_si_gi, if_neg hbj], rfl, rfl⟩) (by rw [hty]; show Value.int (Int32.ofInt (bm_gi (bm_si w a k x) a k)) = _; rw [bm_si_gi, if_pos ⟨rfl, rfl⟩]; rfl) (fun H1 locs1 i4 i5 => ?_)
    exact kk H1 locs1 ls g1 g2 g3.tl.tl i4 i5 g6
  · cases he
theorem bm_s_putZ {t N k index : Nat} {C : String} {T : u_T} (nx : Nat) (hdg : decode cc pc = .ok (.putfield index, 3)) (hC : bm_Cl t C T N) (hk : k < N) (hl : bm_lk own index (T k).1 (T k).2.1 (T k).2.2.1) (hf : bm_fin own nm index (T k)) (hty : bm_ty t k = .boolean) (hn : nx = pc + 3 := by rfl) : bm_Sn K pg mi cc nL own nm ret pc (bm_G (bm_pZ t k nx)) := by
  subst hn
  refine bm_Sn.heapG (fun lo st w g u he hg => ?_)
  unfold bm_pZ at he
  split at he
  · rename_i x a r
    cases he
    refine ⟨⟨Nat.le_refl _, Nat.le_refl _⟩, fun D b0 mc ms d p l e R s m args below meth c H locs w0 Q ls hCx hB hle g1 g2 g3 g4 g5 g6 kk => ?_⟩
    refine bm_putW hCx hC g4 g5 hg.1 hk hl hf hdg (by rw [hty]; exact (bm_ofB hg.2).1) (by rw [hty]; exact (bm_ofB hg.2).2) (bm_si_kt w a k x) (bm_si_kn w a k x) (bm_si_sz w a k x) (bm_range_si g4.2.1 g3.hd) (fun b j hbj => ⟨by rw [bm_si_gi, if_neg hbj], rfl, rfl⟩) (by rw [hty]; show Value.int (Int32.ofInt (bm_gi (bm_si w a k x) a k)) = _; rw [bm_si_gi, if_pos ⟨rfl, rfl⟩]; rfl) (fun H1 locs1 i4 i5 => ?_)
    exact kk H1 locs1 ls g1 g2 g3.tl.tl i4 i5 g6
  · cases he
theorem bm_s_putL {t N k index : Nat} {C : String} {T : u_T} (nx : Nat) (hdg : decode cc pc = .ok (.putfield index, 3)) (hC : bm_Cl t C T N) (hk : k < N) (hl : bm_lk own index (T k).1 (T k).2.1 (T k).2.2.1) (hf : bm_fin own nm index (T k)) (hty : bm_ty t k = .long) (hn : nx = pc + 3 := by rfl) : bm_Sn K pg mi cc nL own nm ret pc (bm_G (bm_pL t k nx)) := by
  subst hn
  refine bm_Sn.heapG (fun lo st w g u he hg => ?_)
  unfold bm_pL at he
  split at he
  · rename_i x a r
    cases he
    refine ⟨⟨Nat.le_refl _, Nat.le_refl _⟩, fun D b0 mc ms d p l e R s m args below meth c H locs w0 Q ls hCx hB hle g1 g2 g3 g4 g5 g6 kk => ?_⟩
    refine bm_putW hCx hC g4 g5 hg hk hl hf hdg (by rw [hty]; rfl) (by rw [hty]; rfl) (bm_sq_kt w a k x) (bm_sq_kn w a k x) (bm_sq_sz w a k x) (bm_range_sq g4.2.1 g3.hd) (fun b j hbj => ⟨rfl, by rw [bm_sq_gl, if_neg hbj], rfl⟩) (by rw [hty]; show Value.long (Int64.ofInt (bm_gl (bm_sq w a k x) a k)) = _; rw [bm_sq_gl, if_pos ⟨rfl, rfl⟩]; rfl) (fun H1 locs1 i4 i5 => ?_)
    exact kk H1 locs1 ls g1 g2 g3.tl.tl i4 i5 g6
  · cases he
theorem bm_ofR {ty : FieldType} (h : bm_fc ty = 2) (r : Option Nat) : narrow ty (va_rf r) = va_rf r ∧ fits ty (va_rf r) = true := by
  cases ty <;> first | (exact absurd h (by decide)) | (cases r <;> exact ⟨rfl, rfl⟩)
theorem bm_s_putR {t N k index : Nat} {C : String} {T : u_T} (nx : Nat) (hdg : decode cc pc = .ok (.putfield index, 3)) (hC : bm_Cl t C T N) (hk : k < N) (hl : bm_lk own index (T k).1 (T k).2.1 (T k).2.2.1) (hf : bm_fin own nm index (T k)) (hty : bm_fc (bm_ty t k) = 2) (hn : nx = pc + 3 := by rfl) : bm_Sn K pg mi cc nL own nm ret pc (bm_G (bm_pR t k nx)) := by
  subst hn
  refine bm_Sn.heapG (fun lo st w g u he hg => ?_)
  unfold bm_pR at he
  split at he
  · rename_i x a r
    cases he
    refine ⟨⟨Nat.le_refl _, Nat.le_refl _⟩, fun D b0 mc ms d p l e R s m args below meth c H locs w0 Q ls hCx hB hle g1 g2 g3 g4 g5 g6 kk => ?_⟩
    refine bm_putW hCx hC g4 g5 hg hk hl hf hdg (bm_ofR hty x).1 (bm_ofR hty x).2 (bm_sr_kt w a k x) (bm_sr_kn w a k x) (bm_sr_sz w a k x) g4.2.1 (fun b j hbj => ⟨rfl, rfl, by rw [bm_sr_gr, if_neg hbj]⟩) (by rw [hty]; show va_rf (bm_gr (bm_sr w a k x) a k) = _; rw [bm_sr_gr, if_pos ⟨rfl, rfl⟩]; rfl) (fun H1 locs1 i4 i5 => ?_)
    exact kk H1 locs1 ls g1 g2 g3.tl.tl i4 i5 g6
  · cases he
end BMH

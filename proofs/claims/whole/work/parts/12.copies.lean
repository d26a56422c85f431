/-! ===== clone and arraycopy of rows of numbers ===== -/
section BMY
variable {K : bm_K} {pg : bm_Pg} {mi : bm_Mi} {cc : ByteArray} {nL : Nat} {own nm : String} {ret : Option FieldType} {pc : Nat}
theorem bm_arrV_in {cA : ClassId} {n i : Nat} {f : Nat → Value} {v : Value} (h : (arrV cA n f).slots[i]? = some v) : i < n ∧ v = f i := by
  have hi : i < n := by
    have := (Array.getElem?_eq_some_iff.mp h).1
    rwa [arrV_size] at this
  exact ⟨hi, (Option.some.inj ((arrV_read cA f hi).symm.trans h)).symm⟩
def bm_oCl (t nx : Nat) : bm_L → List bm_V → bm_W → Option (Prop × bm_S) := fun lo st w => match st with
  | .inr (.inr (.inl (some a))) :: r => some ((bm_kt w a = t ∧ (bm_wt r).ble 8 = true), nx, lo, .inr (.inr (.inl (some (bm_sz w)))) :: r, bm_cp w a)
  | _ => none
theorem bm_nn {z : Int32} (hz : ¬ z < 0) : z.toInt = (z.toNatClampNeg : Int) := by
  have hz0 : (0 : Int) ≤ z.toInt := by
    have := Int32.not_lt.mp hz
    simpa using Int32.le_iff_toInt_le.mp this
  show z.toInt = ((z.toInt.toNat : Nat) : Int)
  omega
theorem bm_clamp {x : Int} (h : bm_InI x) : (Int32.ofInt x).toNatClampNeg = x.toNat := Int32.toNatClampNeg_ofInt_of_le (by have := h.1; omega) (by have := h.2; omega)
theorem bm_s_cloneI {index : Nat} (nx : Nat) (hdg : decode cc pc = .ok (.invokevirtual index, 3)) (hlink : Cond.methodLink own index ⟨"[I", "clone", "()Ljava/lang/Object;"⟩ ∈ bm_ALL) (hsame : Cond.sameMethod "[I" "java/lang/Object" "clone" "()Ljava/lang/Object;" ∈ bm_ALL) (hnat : Cond.native ⟨"java/lang/Object", "clone", "()Ljava/lang/Object;"⟩ ∈ bm_ALL) (hinst : Cond.instanceMethod ⟨"java/lang/Object", "clone", "()Ljava/lang/Object;"⟩ ∈ bm_ALL) (hsel : Cond.selects "[I" ⟨"[I", "clone", "()Ljava/lang/Object;"⟩ ⟨"java/lang/Object", "clone", "()Ljava/lang/Object;"⟩ ∈ bm_ALL) (hcl : Cond.castable "[I" "java/lang/Cloneable" ∈ bm_NW) (hn : nx = pc + 3 := by rfl) : bm_Sn K pg mi cc nL own nm ret pc (bm_G (bm_oCl 21 nx)) := by
  subst hn
  refine bm_Sn.heapG (fun lo st w g u he hg => ?_)
  unfold bm_oCl at he
  split at he
  · rename_i a r
    cases he
    refine ⟨⟨Nat.le_succ _, Nat.le_add_right _ _⟩, fun D b0 mc ms d p l e R s m args below meth c H locs w0 Q ls hCx hB hle g1 g2 g3 g4 g5 g6 kk => ?_⟩
    obtain ⟨hx, hb, hml, hown, hts, hK, hST, -, -, -, hb0, hRc, hRs, hRf, hRl, -⟩ := hCx
    obtain ⟨ha, hwt⟩ := hg
    have hw : bm_wt r ≤ 8 := Nat.le_of_ble_eq_true hwt
    obtain ⟨hB1, hB2⟩ := hB
    dsimp only [bm_cp_sz, bm_cp_sl] at hB1 hB2 kk
    obtain ⟨hl1, hl2⟩ := hle
    obtain ⟨e1, -⟩ := bm_arr g4 ha (by omega) (by omega)
    obtain ⟨hA, hRA⟩ := hK.2 _ _ (bm_tys_at D (t := 21) (by omega) (by omega))
    generalize hcell : arrV (D.2.1 21) (bm_kn w a) (fun j => bm_fv (bm_ec 21) w a j) = cell at e1
    have hsz : cell.slots.size = bm_kn w a := by rw [← hcell, arrV_size]
    have hvm0 : cell.vm = .none := by rw [← hcell]; rfl
    have hcl0 : cell.cls = D.2.1 21 := by rw [← hcell]; rfl
    have hcellE : ({ cls := cell.cls, slots := cell.slots } : Cell) = cell := by rw [← hcell]; rfl
    obtain ⟨c0, t0', f1, f2, f3⟩ := Cond.castable_spec (va_Nw.use (A := args) rfl (hST.2.2.2.2.2.2.2.2 _ hcl))
    cases (show s.vm.findClass "[I" = some (D.2.1 21) from hRA).symm.trans f1
    intro T hT X
    have hcellT : T.heap[a]? = some cell := by rw [hT]; exact e1
    obtain ⟨-, kA, hkA, comp, hkind⟩ := State.isArrayOf_alike X.warmed.alike (hA 0 (fun _ => .null))
    obtain ⟨-, kS, hkS, compS, hkindS⟩ := hA 0 (fun _ => .null)
    obtain ⟨vm', X', st⟩ := X.cloneArray hx hown (hts _ hlink) (hts _ hsame) (hts _ hnat) (hts _ hinst) (hts _ hsel) (a := a) (cell := cell) hcellT (fun k h => by rw [hvm0] at h; cases h) (by rw [hvm0]; exact fun h => by cases h) (by rw [hcl0]; exact hRA) f2 (by rw [hcl0]; exact f3)
      (fun i v hv => by
        rw [hcl0]
        have hk' : T.vm.classes[D.2.1 21]? = some kA := hkA
        have hv2 : v = bm_fv (bm_ec 21) w a i := by rw [← hcell] at hv; exact (bm_arrV_in hv).2
        have hf9 : fits .int v = true := by rw [hv2]; rfl
        have hst9 : T.slotType? (D.2.1 21) .none i = some .int := by
          simp [State.slotType?, hk', hkind]
          rfl
        unfold State.fitsSlot
        rw [hst9]
        exact hf9)
      (g := F0 m pc ls (.ref a :: r.map (bm_val D))) rfl (by rw [hml]; exact g6.1) rfl (by rw [hb]; exact hdg) (Nat.le_trans (Nat.le_add_left 1 _) (Nat.le_trans (Nat.add_le_add_left (by omega) d) hRf)) (Nat.le_trans (by show 2 * 0 + ((r.map (bm_val D)).map fun v => v.category).sum + 14 ≤ 440; rw [bm_cats]; omega) (Nat.le_trans (Nat.le_add_left _ _) hRl)) (by rw [hRc]; omega) (by rw [hsz, hRs]; omega) (hloader := by rw [hcl0]; exact Vm.clonesLoader_of_array hkS hkindS)
    rw [hcellE, hsz] at X'
    generalize hH1 : H.push cell = H1
    have z1 : H1.size = H.size + 1 := by rw [← hH1, Array.size_push]
    have e2 : H1[H.size]? = some cell := by rw [← hH1, Array.getElem?_push_size]
    have o1 : ∀ q : Nat, q < H.size → H1[q]? = H[q]? := fun q hq => by rw [← hH1, Array.getElem?_push, if_neg (Nat.ne_of_lt hq)]
    have hasz : a < bm_sz w := (g4.2.2.2.1 a (by rw [ha]; omega)).2.1
    rw [show bm_sz w - bm_sz w0 + 1 = bm_sz w + 1 - bm_sz w0 by omega, show bm_sl w - bm_sl w0 + bm_kn w a = bm_sl w + bm_kn w a - bm_sl w0 by omega] at X'
    obtain ⟨t, b1, b2⟩ := kk H1 locs ls g1 g2 (bm_InSt.cons trivial g3.tl) (g4.push (t := 21) (by rw [← g4.1]; exact Nat.le_trans hb0 g5.1) rfl z1 o1 (fun b hb2 => ⟨by rw [bm_cp_kt, if_neg hb2], by rw [bm_cp_kn, if_neg hb2], fun k => ⟨by rw [bm_cp_gi, if_neg hb2], by rw [bm_cp_gl, if_neg hb2], by rw [bm_cp_gr, if_neg hb2]⟩⟩)
        (by rw [bm_cp_kt, if_pos rfl]; exact ha) (by rw [bm_cp_kn, if_pos rfl]; exact g4.2.2.1 a) (fun k => ⟨by rw [bm_cp_gi, if_pos rfl]; exact (g4.2.1 a k).1, by rw [bm_cp_gl, if_pos rfl]; exact (g4.2.1 a k).2⟩) (by
          unfold bm_cell
          rw [if_neg (by omega), ← g4.1, e2, ← hcell, g4.1, bm_cp_kn, if_pos rfl]
          congr 2
          funext j
          show Value.int (Int32.ofInt _) = Value.int (Int32.ofInt _)
          rw [bm_cp_gi, if_pos rfl])) (bm_va_push g5 z1 o1) g6
      ((T.setVm vm').pushCell cell) (by rw [← hH1, ← hT]; rfl) X'
    refine ⟨t, st t ?_, b2⟩
    rw [hcellE, hT, g4.1]
    exact b1
  · cases he
theorem bm_s_cloneJ {index : Nat} (nx : Nat) (hdg : decode cc pc = .ok (.invokevirtual index, 3)) (hlink : Cond.methodLink own index ⟨"[J", "clone", "()Ljava/lang/Object;"⟩ ∈ bm_ALL) (hsame : Cond.sameMethod "[J" "java/lang/Object" "clone" "()Ljava/lang/Object;" ∈ bm_ALL) (hnat : Cond.native ⟨"java/lang/Object", "clone", "()Ljava/lang/Object;"⟩ ∈ bm_ALL) (hinst : Cond.instanceMethod ⟨"java/lang/Object", "clone", "()Ljava/lang/Object;"⟩ ∈ bm_ALL) (hsel : Cond.selects "[J" ⟨"[J", "clone", "()Ljava/lang/Object;"⟩ ⟨"java/lang/Object", "clone", "()Ljava/lang/Object;"⟩ ∈ bm_ALL) (hcl : Cond.castable "[J" "java/lang/Cloneable" ∈ bm_NW) (hn : nx = pc + 3 := by rfl) : bm_Sn K pg mi cc nL own nm ret pc (bm_G (bm_oCl 22 nx)) := by
  subst hn
  refine bm_Sn.heapG (fun lo st w g u he hg => ?_)
  unfold bm_oCl at he
  split at he
  · rename_i a r
    cases he
    refine ⟨⟨Nat.le_succ _, Nat.le_add_right _ _⟩, fun D b0 mc ms d p l e R s m args below meth c H locs w0 Q ls hCx hB hle g1 g2 g3 g4 g5 g6 kk => ?_⟩
    obtain ⟨hx, hb, hml, hown, hts, hK, hST, -, -, -, hb0, hRc, hRs, hRf, hRl, -⟩ := hCx
    obtain ⟨ha, hwt⟩ := hg
    have hw : bm_wt r ≤ 8 := Nat.le_of_ble_eq_true hwt
    obtain ⟨hB1, hB2⟩ := hB
    dsimp only [bm_cp_sz, bm_cp_sl] at hB1 hB2 kk
    obtain ⟨hl1, hl2⟩ := hle
    obtain ⟨e1, -⟩ := bm_arr g4 ha (by omega) (by omega)
    obtain ⟨hA, hRA⟩ := hK.2 _ _ (bm_tys_at D (t := 22) (by omega) (by omega))
    generalize hcell : arrV (D.2.1 22) (bm_kn w a) (fun j => bm_fv (bm_ec 22) w a j) = cell at e1
    have hsz : cell.slots.size = bm_kn w a := by rw [← hcell, arrV_size]
    have hvm0 : cell.vm = .none := by rw [← hcell]; rfl
    have hcl0 : cell.cls = D.2.1 22 := by rw [← hcell]; rfl
    have hcellE : ({ cls := cell.cls, slots := cell.slots } : Cell) = cell := by rw [← hcell]; rfl
    obtain ⟨c0, t0', f1, f2, f3⟩ := Cond.castable_spec (va_Nw.use (A := args) rfl (hST.2.2.2.2.2.2.2.2 _ hcl))
    cases (show s.vm.findClass "[J" = some (D.2.1 22) from hRA).symm.trans f1
    intro T hT X
    have hcellT : T.heap[a]? = some cell := by rw [hT]; exact e1
    obtain ⟨-, kA, hkA, comp, hkind⟩ := State.isArrayOf_alike X.warmed.alike (hA 0 (fun _ => .null))
    obtain ⟨-, kS, hkS, compS, hkindS⟩ := hA 0 (fun _ => .null)
    obtain ⟨vm', X', st⟩ := X.cloneArray hx hown (hts _ hlink) (hts _ hsame) (hts _ hnat) (hts _ hinst) (hts _ hsel) (a := a) (cell := cell) hcellT (fun k h => by rw [hvm0] at h; cases h) (by rw [hvm0]; exact fun h => by cases h) (by rw [hcl0]; exact hRA) f2 (by rw [hcl0]; exact f3)
      (fun i v hv => by
        rw [hcl0]
        have hk' : T.vm.classes[D.2.1 22]? = some kA := hkA
        have hv2 : v = bm_fv (bm_ec 22) w a i := by rw [← hcell] at hv; exact (bm_arrV_in hv).2
        have hf9 : fits .long v = true := by rw [hv2]; rfl
        have hst9 : T.slotType? (D.2.1 22) .none i = some .long := by
          simp [State.slotType?, hk', hkind]
          rfl
        unfold State.fitsSlot
        rw [hst9]
        exact hf9)
      (g := F0 m pc ls (.ref a :: r.map (bm_val D))) rfl (by rw [hml]; exact g6.1) rfl (by rw [hb]; exact hdg) (Nat.le_trans (Nat.le_add_left 1 _) (Nat.le_trans (Nat.add_le_add_left (by omega) d) hRf)) (Nat.le_trans (by show 2 * 0 + ((r.map (bm_val D)).map fun v => v.category).sum + 14 ≤ 440; rw [bm_cats]; omega) (Nat.le_trans (Nat.le_add_left _ _) hRl)) (by rw [hRc]; omega) (by rw [hsz, hRs]; omega) (hloader := by rw [hcl0]; exact Vm.clonesLoader_of_array hkS hkindS)
    rw [hcellE, hsz] at X'
    generalize hH1 : H.push cell = H1
    have z1 : H1.size = H.size + 1 := by rw [← hH1, Array.size_push]
    have e2 : H1[H.size]? = some cell := by rw [← hH1, Array.getElem?_push_size]
    have o1 : ∀ q : Nat, q < H.size → H1[q]? = H[q]? := fun q hq => by rw [← hH1, Array.getElem?_push, if_neg (Nat.ne_of_lt hq)]
    have hasz : a < bm_sz w := (g4.2.2.2.1 a (by rw [ha]; omega)).2.1
    rw [show bm_sz w - bm_sz w0 + 1 = bm_sz w + 1 - bm_sz w0 by omega, show bm_sl w - bm_sl w0 + bm_kn w a = bm_sl w + bm_kn w a - bm_sl w0 by omega] at X'
    obtain ⟨t, b1, b2⟩ := kk H1 locs ls g1 g2 (bm_InSt.cons trivial g3.tl) (g4.push (t := 22) (by rw [← g4.1]; exact Nat.le_trans hb0 g5.1) rfl z1 o1 (fun b hb2 => ⟨by rw [bm_cp_kt, if_neg hb2], by rw [bm_cp_kn, if_neg hb2], fun k => ⟨by rw [bm_cp_gi, if_neg hb2], by rw [bm_cp_gl, if_neg hb2], by rw [bm_cp_gr, if_neg hb2]⟩⟩)
        (by rw [bm_cp_kt, if_pos rfl]; exact ha) (by rw [bm_cp_kn, if_pos rfl]; exact g4.2.2.1 a) (fun k => ⟨by rw [bm_cp_gi, if_pos rfl]; exact (g4.2.1 a k).1, by rw [bm_cp_gl, if_pos rfl]; exact (g4.2.1 a k).2⟩) (by
          unfold bm_cell
          rw [if_neg (by omega), ← g4.1, e2, ← hcell, g4.1, bm_cp_kn, if_pos rfl]
          congr 2
          funext j
          show Value.long (Int64.ofInt _) = Value.long (Int64.ofInt _)
          rw [bm_cp_gl, if_pos rfl])) (bm_va_push g5 z1 o1) g6
      ((T.setVm vm').pushCell cell) (by rw [← hH1, ← hT]; rfl) X'
    refine ⟨t, st t ?_, b2⟩
    rw [hcellE, hT, g4.1]
    exact b1
  · cases he
theorem bm_ci_kt (w : bm_W) (a p b q n : Nat) : bm_kt (bm_ci w a p b q n) = bm_kt w := rfl
theorem bm_ci_kn (w : bm_W) (a p b q n : Nat) : bm_kn (bm_ci w a p b q n) = bm_kn w := rfl
theorem bm_ci_sz (w : bm_W) (a p b q n : Nat) : bm_sz (bm_ci w a p b q n) = bm_sz w := rfl
theorem bm_ci_sl (w : bm_W) (a p b q n : Nat) : bm_sl (bm_ci w a p b q n) = bm_sl w := rfl
theorem bm_ci_gl (w : bm_W) (a p b q n : Nat) : bm_gl (bm_ci w a p b q n) = bm_gl w := rfl
theorem bm_ci_gr (w : bm_W) (a p b q n : Nat) : bm_gr (bm_ci w a p b q n) = bm_gr w := rfl
theorem bm_ci_gi (w : bm_W) (a p b q n c j : Nat) : bm_gi (bm_ci w a p b q n) c j = if c = b ∧ q ≤ j ∧ j < q + n then bm_gi w a (p + (j - q)) else bm_gi w c j := rfl
theorem bm_cl_kt (w : bm_W) (a p b q n : Nat) : bm_kt (bm_cl w a p b q n) = bm_kt w := rfl
theorem bm_cl_kn (w : bm_W) (a p b q n : Nat) : bm_kn (bm_cl w a p b q n) = bm_kn w := rfl
theorem bm_cl_sz (w : bm_W) (a p b q n : Nat) : bm_sz (bm_cl w a p b q n) = bm_sz w := rfl
theorem bm_cl_sl (w : bm_W) (a p b q n : Nat) : bm_sl (bm_cl w a p b q n) = bm_sl w := rfl
theorem bm_cl_gi (w : bm_W) (a p b q n : Nat) : bm_gi (bm_cl w a p b q n) = bm_gi w := rfl
theorem bm_cl_gr (w : bm_W) (a p b q n : Nat) : bm_gr (bm_cl w a p b q n) = bm_gr w := rfl
theorem bm_cl_gl (w : bm_W) (a p b q n c j : Nat) : bm_gl (bm_cl w a p b q n) c j = if c = b ∧ q ≤ j ∧ j < q + n then bm_gl w a (p + (j - q)) else bm_gl w c j := rfl
def bm_oYi (nx : Nat) : bm_L → List bm_V → bm_W → Option (Prop × bm_S) := fun lo st w => match st with
  | .inl n :: .inl q :: .inr (.inr (.inl (some b))) :: .inl p :: .inr (.inr (.inl (some a))) :: r => some (((bm_kt w a = 21 ∧ bm_kt w b = 21) ∧ (0 ≤ p ∧ 0 ≤ q ∧ 0 ≤ n) ∧ p + n ≤ bm_kn w a ∧ q + n ≤ bm_kn w b) ∧ (bm_wt r).ble 8 = true, nx, lo, r, bm_ci w a p.toNat b q.toNat n.toNat)
  | _ => none
set_option maxHeartbeats 4000000 in
theorem bm_s_copyI {index : Nat} (nx : Nat) (hdg : decode cc pc = .ok (.invokestatic index, 3)) (hlink : Cond.methodLink own index arraycopyName ∈ bm_ALL) (hnat : Cond.native arraycopyName ∈ bm_ALL) (hstat : Cond.static arraycopyName ∈ bm_ALL) (hini : Cond.initialized "java/lang/System" ∈ bm_ALL) (hn : nx = pc + 3 := by rfl) : bm_Sn K pg mi cc nL own nm ret pc (bm_G (bm_oYi nx)) := by
  subst hn
  refine bm_Sn.heapG (fun lo st w g u he hg => ?_)
  unfold bm_oYi at he
  split at he
  · rename_i n q b p0 a r
    cases he
    refine ⟨⟨Nat.le_refl _, Nat.le_refl _⟩, fun D b0 mc ms d p l e R s m args below meth c H locs w0 Q ls hCx hB hle g1 g2 g3 g4 g5 g6 kk => ?_⟩
    obtain ⟨hx, hb, hml, hown, hts, hK, hST, -, -, -, hb0, hRc, hRs, hRf, hRl, -⟩ := hCx
    obtain ⟨⟨⟨ha, hbk⟩, ⟨hp0, hq0, hn0⟩, hpn, hqn⟩, hwt⟩ := hg
    have hw : bm_wt r ≤ 8 := Nat.le_of_ble_eq_true hwt
    have in1 : bm_InI n := g3.hd
    have in2 : bm_InI q := g3.tl.hd
    have in3 : bm_InI p0 := g3.tl.tl.tl.hd
    have h1 : ¬ Int32.ofInt p0 < 0 := fun z => by have := (bm_ltI in3 bm_In0).mp z; omega
    have h2 : ¬ Int32.ofInt q < 0 := fun z => by have := (bm_ltI in2 bm_In0).mp z; omega
    have h3 : ¬ Int32.ofInt n < 0 := fun z => by have := (bm_ltI in1 bm_In0).mp z; omega
    have c1 := bm_clamp in1
    have c2 := bm_clamp in2
    have c3 := bm_clamp in3
    obtain ⟨e1, -⟩ := bm_arr g4 ha (by omega) (by omega)
    obtain ⟨e2, hbA⟩ := bm_arr g4 hbk (by omega) (by omega)
    have hA := (hK.2 _ _ (bm_tys_at D (t := 21) (by omega) (by omega))).1
    obtain ⟨-, k0, hk0, cm0, hkk0⟩ := hA (bm_kn w a) (fun j => bm_fv (bm_ec 21) w a j)
    intro T hT X
    obtain ⟨vm', X', step⟩ := X.arraycopy hx hown (hts _ hlink) (hts _ hnat) (hts _ hstat) (hts _ hini) (src := a) (dst := b) (cs := arrV (D.2.1 21) (bm_kn w a) (fun j => bm_fv (bm_ec 21) w a j)) (cd := arrV (D.2.1 21) (bm_kn w b) (fun j => bm_fv (bm_ec 21) w b j)) (srcPos := Int32.ofInt p0) (destPos := Int32.ofInt q) (n := Int32.ofInt n) (by rw [hT]; exact e1) (by rw [hT]; exact e2)
      (fun _ h => by cases h) (fun _ h => by cases h) (fun h => by cases h) (fun h => by cases h) hk0 hk0 hkk0 hkk0 (by simp [show refKind .int = false from rfl]) h1 h2 h3
      (by rw [bm_nn h1, bm_nn h3, c1, c3, arrV_size]; omega)
      (by rw [bm_nn h2, bm_nn h3, c1, c2, arrV_size]; omega)
      (fun vm₁ _ i hi => by
        rw [c1] at hi
        have e9 : (arrV (D.2.1 21) (bm_kn w a) (fun j => bm_fv (bm_ec 21) w a j)).slots.getD ((Int32.ofInt p0).toNatClampNeg + i) .null = bm_fv (bm_ec 21) w a (p0.toNat + i) := by
          rw [Array.getD_eq_getD_getElem?, c3, arrV_read _ _ (by omega)]
          rfl
        refine ⟨?_, ?_⟩
        · rw [e9]
          rfl
        · rw [e9]
          exact trivial)
      (g := F0 m pc ls (.int (Int32.ofInt n) :: .int (Int32.ofInt q) :: .ref b :: .int (Int32.ofInt p0) :: .ref a :: r.map (bm_val D))) rfl (by rw [hml]; exact g6.1) (rest := r.map (bm_val D)) rfl (by rw [hb]; exact hdg) (Nat.le_trans (Nat.le_add_left 1 _) (Nat.le_trans (Nat.add_le_add_left (by omega) d) hRf)) (Nat.le_trans (by show 2 * 0 + ((r.map (bm_val D)).map fun v => v.category).sum + (nativeFrameWords "java/lang/System" "arraycopy" 5 + 11) ≤ 440; rw [bm_cats, show nativeFrameWords "java/lang/System" "arraycopy" 5 = 7 from by decide]; omega) (Nat.le_trans (Nat.le_add_left _ _) hRl))
    have e5 : copied (arrV (D.2.1 21) (bm_kn w a) (fun j => bm_fv (bm_ec 21) w a j)) (arrV (D.2.1 21) (bm_kn w b) (fun j => bm_fv (bm_ec 21) w b j)) (Int32.ofInt p0) (Int32.ofInt q) (Int32.ofInt n) = arrV (D.2.1 21) (bm_kn w b) (fun j => bm_fv (bm_ec 21) (bm_ci w a p0.toNat b q.toNat n.toNat) b j) := by
      have e6 := va_copied (fun z => Value.int (Int32.ofInt z)) (D.2.1 21) (D.2.1 21) (n0 := bm_kn w a) (n1 := bm_kn w b) (sp := p0.toNat) (dp := q.toNat) (n := n.toNat) (fun j => bm_gi w a j) (fun j => bm_gi w b j) (by omega)
      have e7 : copied (arrV (D.2.1 21) (bm_kn w a) (fun j => bm_fv (bm_ec 21) w a j)) (arrV (D.2.1 21) (bm_kn w b) (fun j => bm_fv (bm_ec 21) w b j)) (Int32.ofInt p0) (Int32.ofInt q) (Int32.ofInt n) = (arrV (D.2.1 21) (bm_kn w b) (fun j => bm_fv (bm_ec 21) w b j)).storeRun (Int32.ofInt q).toNatClampNeg ((arrV (D.2.1 21) (bm_kn w a) (fun j => bm_fv (bm_ec 21) w a j)).stretch (Int32.ofInt p0).toNatClampNeg (Int32.ofInt n).toNatClampNeg) := rfl
      rw [e7, c1, c2, c3]
      refine e6.trans ?_
      congr 1
      funext j
      show Value.int _ = Value.int _
      rw [bm_ci_gi]
      unfold va_cpy
      by_cases hj : q.toNat ≤ j ∧ j < q.toNat + n.toNat
      · rw [if_pos hj, if_pos ⟨rfl, hj⟩]
      · rw [if_neg hj, if_neg (fun z => hj z.2)]
    rw [e5] at X' step
    have hl : b < H.size := (Array.getElem?_eq_some_iff.mp e2).1
    generalize hcl : arrV (D.2.1 21) (bm_kn w b) (fun j => bm_fv (bm_ec 21) (bm_ci w a p0.toNat b q.toNat n.toNat) b j) = cn at X' step
    have oq : ∀ q : Nat, q ≠ b → (H.setIfInBounds b cn)[q]? = H[q]? := fun q hq => by simp [Array.getElem?_setIfInBounds, Ne.symm hq]
    have zq : (H.setIfInBounds b cn).size = H.size := by simp
    have eb : (H.setIfInBounds b cn)[b]? = some cn := by simp [Array.getElem?_setIfInBounds, hl]
    obtain ⟨t, a1, b1⟩ := kk (H.setIfInBounds b cn) _ ls g1 g2 g3.tl.tl.tl.tl.tl (g4.put (a := b) (w' := bm_ci w a p0.toNat b q.toNat n.toNat) rfl rfl rfl (fun b k => ⟨by rw [bm_ci_gi]; split; exact (g4.2.1 _ _).1; exact (g4.2.1 _ _).1, (g4.2.1 _ _).2⟩) (by
        rw [hbk]
        unfold bm_cell
        rw [if_neg (by omega), eb, ← hcl]
        rfl) zq oq (fun b2 hb2 k => ⟨by rw [bm_ci_gi, if_neg (fun q => hb2 q.1)], rfl, rfl⟩)) ⟨by rw [zq]; exact g5.1, fun z y1 y2 => by
          rw [oq z (fun ez => y2 (by rw [ez]; exact hbA))]
          exact g5.2.1 z y1 y2, fun z hz => by
          rcases List.mem_append.mp hz with h | h
          · exact g5.2.2 z h
          · obtain ⟨z2, -, hz2⟩ := List.mem_map.mp h
            rw [← hz2]
            exact hbA⟩ g6 _ (show ((T.setVm vm').setCell b cn).heap = _ by rw [← hT]; rfl) X'
    exact ⟨t, step t a1, b1⟩
  · cases he
def bm_oYl (nx : Nat) : bm_L → List bm_V → bm_W → Option (Prop × bm_S) := fun lo st w => match st with
  | .inl n :: .inl q :: .inr (.inr (.inl (some b))) :: .inl p :: .inr (.inr (.inl (some a))) :: r => some (((bm_kt w a = 22 ∧ bm_kt w b = 22) ∧ (0 ≤ p ∧ 0 ≤ q ∧ 0 ≤ n) ∧ p + n ≤ bm_kn w a ∧ q + n ≤ bm_kn w b) ∧ (bm_wt r).ble 8 = true, nx, lo, r, bm_cl w a p.toNat b q.toNat n.toNat)
  | _ => none
set_option maxHeartbeats 4000000 in
theorem bm_s_copyJ {index : Nat} (nx : Nat) (hdg : decode cc pc = .ok (.invokestatic index, 3)) (hlink : Cond.methodLink own index arraycopyName ∈ bm_ALL) (hnat : Cond.native arraycopyName ∈ bm_ALL) (hstat : Cond.static arraycopyName ∈ bm_ALL) (hini : Cond.initialized "java/lang/System" ∈ bm_ALL) (hn : nx = pc + 3 := by rfl) : bm_Sn K pg mi cc nL own nm ret pc (bm_G (bm_oYl nx)) := by
  subst hn
  refine bm_Sn.heapG (fun lo st w g u he hg => ?_)
  unfold bm_oYl at he
  split at he
  · rename_i n q b p0 a r
    cases he
    refine ⟨⟨Nat.le_refl _, Nat.le_refl _⟩, fun D b0 mc ms d p l e R s m args below meth c H locs w0 Q ls hCx hB hle g1 g2 g3 g4 g5 g6 kk => ?_⟩
    obtain ⟨hx, hb, hml, hown, hts, hK, hST, -, -, -, hb0, hRc, hRs, hRf, hRl, -⟩ := hCx
    obtain ⟨⟨⟨ha, hbk⟩, ⟨hp0, hq0, hn0⟩, hpn, hqn⟩, hwt⟩ := hg
    have hw : bm_wt r ≤ 8 := Nat.le_of_ble_eq_true hwt
    have in1 : bm_InI n := g3.hd
    have in2 : bm_InI q := g3.tl.hd
    have in3 : bm_InI p0 := g3.tl.tl.tl.hd
    have h1 : ¬ Int32.ofInt p0 < 0 := fun z => by have := (bm_ltI in3 bm_In0).mp z; omega
    have h2 : ¬ Int32.ofInt q < 0 := fun z => by have := (bm_ltI in2 bm_In0).mp z; omega
    have h3 : ¬ Int32.ofInt n < 0 := fun z => by have := (bm_ltI in1 bm_In0).mp z; omega
    have c1 := bm_clamp in1
    have c2 := bm_clamp in2
    have c3 := bm_clamp in3
    obtain ⟨e1, -⟩ := bm_arr g4 ha (by omega) (by omega)
    obtain ⟨e2, hbA⟩ := bm_arr g4 hbk (by omega) (by omega)
    have hA := (hK.2 _ _ (bm_tys_at D (t := 22) (by omega) (by omega))).1
    obtain ⟨-, k0, hk0, cm0, hkk0⟩ := hA (bm_kn w a) (fun j => bm_fv (bm_ec 22) w a j)
    intro T hT X
    obtain ⟨vm', X', step⟩ := X.arraycopy hx hown (hts _ hlink) (hts _ hnat) (hts _ hstat) (hts _ hini) (src := a) (dst := b) (cs := arrV (D.2.1 22) (bm_kn w a) (fun j => bm_fv (bm_ec 22) w a j)) (cd := arrV (D.2.1 22) (bm_kn w b) (fun j => bm_fv (bm_ec 22) w b j)) (srcPos := Int32.ofInt p0) (destPos := Int32.ofInt q) (n := Int32.ofInt n) (by rw [hT]; exact e1) (by rw [hT]; exact e2)
      (fun _ h => by cases h) (fun _ h => by cases h) (fun h => by cases h) (fun h => by cases h) hk0 hk0 hkk0 hkk0 (by simp [show refKind .long = false from rfl]) h1 h2 h3
      (by rw [bm_nn h1, bm_nn h3, c1, c3, arrV_size]; omega)
      (by rw [bm_nn h2, bm_nn h3, c1, c2, arrV_size]; omega)
      (fun vm₁ _ i hi => by
        rw [c1] at hi
        have e9 : (arrV (D.2.1 22) (bm_kn w a) (fun j => bm_fv (bm_ec 22) w a j)).slots.getD ((Int32.ofInt p0).toNatClampNeg + i) .null = bm_fv (bm_ec 22) w a (p0.toNat + i) := by
          rw [Array.getD_eq_getD_getElem?, c3, arrV_read _ _ (by omega)]
          rfl
        refine ⟨?_, ?_⟩
        · rw [e9]
          rfl
        · rw [e9]
          exact trivial)
      (g := F0 m pc ls (.int (Int32.ofInt n) :: .int (Int32.ofInt q) :: .ref b :: .int (Int32.ofInt p0) :: .ref a :: r.map (bm_val D))) rfl (by rw [hml]; exact g6.1) (rest := r.map (bm_val D)) rfl (by rw [hb]; exact hdg) (Nat.le_trans (Nat.le_add_left 1 _) (Nat.le_trans (Nat.add_le_add_left (by omega) d) hRf)) (Nat.le_trans (by show 2 * 0 + ((r.map (bm_val D)).map fun v => v.category).sum + (nativeFrameWords "java/lang/System" "arraycopy" 5 + 11) ≤ 440; rw [bm_cats, show nativeFrameWords "java/lang/System" "arraycopy" 5 = 7 from by decide]; omega) (Nat.le_trans (Nat.le_add_left _ _) hRl))
    have e5 : copied (arrV (D.2.1 22) (bm_kn w a) (fun j => bm_fv (bm_ec 22) w a j)) (arrV (D.2.1 22) (bm_kn w b) (fun j => bm_fv (bm_ec 22) w b j)) (Int32.ofInt p0) (Int32.ofInt q) (Int32.ofInt n) = arrV (D.2.1 22) (bm_kn w b) (fun j => bm_fv (bm_ec 22) (bm_cl w a p0.toNat b q.toNat n.toNat) b j) := by
      have e6 := va_copied (fun z => Value.long (Int64.ofInt z)) (D.2.1 22) (D.2.1 22) (n0 := bm_kn w a) (n1 := bm_kn w b) (sp := p0.toNat) (dp := q.toNat) (n := n.toNat) (fun j => bm_gl w a j) (fun j => bm_gl w b j) (by omega)
      have e7 : copied (arrV (D.2.1 22) (bm_kn w a) (fun j => bm_fv (bm_ec 22) w a j)) (arrV (D.2.1 22) (bm_kn w b) (fun j => bm_fv (bm_ec 22) w b j)) (Int32.ofInt p0) (Int32.ofInt q) (Int32.ofInt n) = (arrV (D.2.1 22) (bm_kn w b) (fun j => bm_fv (bm_ec 22) w b j)).storeRun (Int32.ofInt q).toNatClampNeg ((arrV (D.2.1 22) (bm_kn w a) (fun j => bm_fv (bm_ec 22) w a j)).stretch (Int32.ofInt p0).toNatClampNeg (Int32.ofInt n).toNatClampNeg) := rfl
      rw [e7, c1, c2, c3]
      refine e6.trans ?_
      congr 1
      funext j
      show Value.long _ = Value.long _
      rw [bm_cl_gl]
      unfold va_cpy
      by_cases hj : q.toNat ≤ j ∧ j < q.toNat + n.toNat
      · rw [if_pos hj, if_pos ⟨rfl, hj⟩]
      · rw [if_neg hj, if_neg (fun z => hj z.2)]
    rw [e5] at X' step
    have hl : b < H.size := (Array.getElem?_eq_some_iff.mp e2).1
    generalize hcl : arrV (D.2.1 22) (bm_kn w b) (fun j => bm_fv (bm_ec 22) (bm_cl w a p0.toNat b q.toNat n.toNat) b j) = cn at X' step
    have oq : ∀ q : Nat, q ≠ b → (H.setIfInBounds b cn)[q]? = H[q]? := fun q hq => by simp [Array.getElem?_setIfInBounds, Ne.symm hq]
    have zq : (H.setIfInBounds b cn).size = H.size := by simp
    have eb : (H.setIfInBounds b cn)[b]? = some cn := by simp [Array.getElem?_setIfInBounds, hl]
    obtain ⟨t, a1, b1⟩ := kk (H.setIfInBounds b cn) _ ls g1 g2 g3.tl.tl.tl.tl.tl (g4.put (a := b) (w' := bm_cl w a p0.toNat b q.toNat n.toNat) rfl rfl rfl (fun b k => ⟨(g4.2.1 _ _).1, by rw [bm_cl_gl]; split; exact (g4.2.1 _ _).2; exact (g4.2.1 _ _).2⟩) (by
        rw [hbk]
        unfold bm_cell
        rw [if_neg (by omega), eb, ← hcl]
        rfl) zq oq (fun b2 hb2 k => ⟨rfl, by rw [bm_cl_gl, if_neg (fun q => hb2 q.1)], rfl⟩)) ⟨by rw [zq]; exact g5.1, fun z y1 y2 => by
          rw [oq z (fun ez => y2 (by rw [ez]; exact hbA))]
          exact g5.2.1 z y1 y2, fun z hz => by
          rcases List.mem_append.mp hz with h | h
          · exact g5.2.2 z h
          · obtain ⟨z2, -, hz2⟩ := List.mem_map.mp h
            rw [← hz2]
            exact hbA⟩ g6 _ (show ((T.setVm vm').setCell b cn).heap = _ by rw [← hT]; rfl) X'
    exact ⟨t, step t a1, b1⟩
  · cases he
end BMY

/-! ===== rows of the law: the script, rows of texts, doubles ===== -/
section BMZ
variable {K : bm_K} {pg : bm_Pg} {mi : bm_Mi} {cc : ByteArray} {nL : Nat} {own nm : String} {ret : Option FieldType} {pc : Nat}
theorem bm_s_ldcI {index : Nat} {x : Int} (nx : Nat) (hdg : decode cc pc = .ok (.ldc index, 2)) (hl : Cond.constant own index (Int32.ofInt x) ∈ bm_ALL) (hin : bm_InI x) (hn : nx = pc + 2 := by rfl) : bm_Sn K pg mi cc nL own nm ret pc (bm_P (bm_oK (.inl x) nx)) := by
  subst hn
  refine bm_Sn.still (fun lo st w t he => ?_)
  simp only [bm_oK, Option.some.injEq] at he
  subst he
  refine ⟨rfl, fun h1 h2 h3 => ⟨⟨h1, h2, bm_InSt.cons hin h3⟩, ?_⟩⟩
  intro D b0 mc ms d p l e R s m args below meth c H locs cells slots Q ls hCx hS hls k
  obtain ⟨hx, hb, -, hown, hts, -⟩ := hCx
  exact lv_ldc hx hb hown (hts _ hl) hdg (k ls hls)
theorem bm_s_ldc2d {index : Nat} {x : UInt64} (nx : Nat) (hdg : decode cc pc = .ok (.ldc2_w index, 3)) (hl : Cond.constantDouble own index x ∈ bm_ALL) (hn : nx = pc + 3 := by rfl) : bm_Sn K pg mi cc nL own nm ret pc (bm_P (bm_oK (.inr (.inr (.inr (.inl x)))) nx)) := by
  subst hn
  refine bm_Sn.still (fun lo st w t he => ?_)
  simp only [bm_oK, Option.some.injEq] at he
  subst he
  refine ⟨rfl, fun h1 h2 h3 => ⟨⟨h1, h2, bm_InSt.cons trivial h3⟩, ?_⟩⟩
  intro D b0 mc ms d p l e R s m args below meth c H locs cells slots Q ls hCx hS hls k
  obtain ⟨hx, hb, -, hown, hts, -⟩ := hCx
  exact lv_ldc2d hx hb hown (hts _ hl) hdg (k ls hls)
def bm_bd (tg nx : Nat) : bm_L → List bm_V → bm_W → Option (Bool × bm_S × bm_S) := fun lo st w => match st with
  | .inr (.inr (.inr (.inl y))) :: .inr (.inr (.inr (.inl x))) :: r => some (decide (FP.dcmp x y = some .eq), (tg, lo, r, w), (nx, lo, r, w))
  | _ => none
theorem bm_cmpv (r : Option Ordering) : Op.cmpValue r .l = 0 ↔ r = some .eq := by
  rcases r with _ | o
  · exact ⟨fun h => absurd h (by decide), fun h => by cases h⟩
  · cases o
    · exact ⟨fun h => absurd h (by decide), fun h => by cases h⟩
    · exact ⟨fun _ => rfl, fun _ => rfl⟩
    · exact ⟨fun h => absurd h (by decide), fun h => by cases h⟩
theorem bm_s_dcmp_eq {off : Int} (tg nx : Nat) (hdg : decode cc pc = .ok (.dcmp .l, 1)) (hdg2 : decode cc (pc + 1) = .ok (.ifCond .eq off, 3)) (ht : ((pc + 1 : Nat) : Int) + off = (tg : Int) := by decide) (hn : nx = pc + 4 := by rfl) : bm_Sn K pg mi cc nL own nm ret pc (bm_B (bm_bd tg nx)) := by
  subst hn
  refine bm_Sn.stillB tg (pc + 4) (fun lo st w b t u he => ?_)
  unfold bm_bd at he
  split at he
  · rename_i y x r
    cases he
    refine ⟨r, rfl, rfl, fun h3 => ⟨h3.tl.tl, ?_⟩⟩
    intro D b0 mc ms d p l e R s m args below meth c H locs cells slots Q ls hCx kt kf
    obtain ⟨hx, hb, -⟩ := hCx
    exact lv_dcmp hx hb hdg (lv_if_eq hx hb hdg2 ht (fun z => kt (decide_eq_true ((bm_cmpv _).mp z))) (fun z => kf (decide_eq_false (fun q => z ((bm_cmpv _).mpr q)))))
  · cases he
/-! the script -/
def bm_aSn (nx : Nat) : bm_L → List bm_V → bm_W → Option (Prop × bm_S) := fun lo st w => match st with
  | .inr (.inr (.inl (some a))) :: r => some (bm_kt w a = 91, nx, lo, .inl (bm_kn w a : Nat) :: r, w)
  | _ => none
def bm_aS (nx : Nat) : bm_L → List bm_V → bm_W → Option (Prop × bm_S) := fun lo st w => match st with
  | .inl i :: .inr (.inr (.inl (some a))) :: r => some (bm_kt w a = 91 ∧ bm_in i (bm_kn w a), nx, lo, .inl (bm_gi w a i.toNat) :: r, w)
  | _ => none
theorem bm_s_alenS (nx : Nat) (hdg : decode cc pc = .ok (.arraylength, 1)) (hn : nx = pc + 1 := by rfl) : bm_Sn K pg mi cc nL own nm ret pc (bm_G (bm_aSn nx)) := by
  subst hn
  refine bm_Sn.heapG (fun lo st w g u he hg => ?_)
  unfold bm_aSn at he
  split at he
  · rename_i a r
    cases he
    refine ⟨bm_le.rf, bm_Gw.still (fun D b0 mc ms d p l e R s m args below meth c H locs cells slots Q ls hCx h3 hH hS hz => ⟨bm_InSt.cons (by have := hH.2.2.1 a; show bm_InI _; unfold bm_InI; omega) h3.tl, fun kk => ?_⟩)⟩
    obtain ⟨hx, hb, -, -, -, -, hST, -⟩ := hCx
    obtain ⟨k1, k2, k3⟩ := (hH.2.2.2.2.2 a).1 hg
    have e8 : Int32.ofNat (D.2.2 5 0) = Int32.ofInt (bm_kn w a : Nat) := by rw [k2]; exact Int32.ofInt_eq_ofNat.symm
    show W p l e R s m args below meth c H locs cells slots Q (F0 m pc ls (.ref a :: r.map (bm_val D)))
    have kk2 : W p l e R s m args below meth c H locs cells slots Q (F0 m (pc + 1) ls (.int (Int32.ofInt (bm_kn w a : Nat)) :: r.map (bm_val D))) := kk
    generalize Int32.ofInt (bm_kn w a : Nat) = v at e8 kk2
    rw [k1]
    exact va_tlen hx hb hST.2.2.2.2.1 hS e8 hdg kk2
  · cases he
theorem bm_s_ialdS (nx : Nat) (hdg : decode cc pc = .ok (.iaload, 1)) (hn : nx = pc + 1 := by rfl) : bm_Sn K pg mi cc nL own nm ret pc (bm_G (bm_aS nx)) := by
  subst hn
  refine bm_Sn.heapG (fun lo st w g u he hg => ?_)
  unfold bm_aS at he
  split at he
  · rename_i i a r
    cases he
    refine ⟨bm_le.rf, bm_Gw.still (fun D b0 mc ms d p l e R s m args below meth c H locs cells slots Q ls hCx h3 hH hS hz => ⟨bm_InSt.cons ((hH.2.1 a i.toNat).1) h3.tl.tl, fun kk => ?_⟩)⟩
    obtain ⟨hx, hb, -, -, -, -, hST, -⟩ := hCx
    obtain ⟨k1, k2, k3⟩ := (hH.2.2.2.2.2 a).1 hg.1
    obtain ⟨q1, q2, q3⟩ := bm_ix h3.hd hg.2
    have e8 : Value.int (Int32.ofNat (D.2.2 6 (Int32.ofInt i).toNatClampNeg)) = .int (Int32.ofInt (bm_gi w a i.toNat)) := by rw [q2, k3, Int32.ofInt_toInt]
    have kk2 : W p l e R s m args below meth c H locs cells slots Q (F0 m (pc + 1) ls (.int (Int32.ofInt (bm_gi w a i.toNat)) :: r.map (bm_val D))) := kk
    show W p l e R s m args below meth c H locs cells slots Q (F0 m pc ls (.int (Int32.ofInt i) :: .ref a :: r.map (bm_val D)))
    generalize Value.int (Int32.ofInt (bm_gi w a i.toNat)) = v at e8 kk2
    rw [k2] at q1
    rw [k1]
    exact va_ti hx hb hST.2.2.2.2.1 hS (i := Int32.ofInt i) q1 e8 hdg kk2
  · cases he
/-! rows of texts -/
theorem bm_s_anewaS {index : Nat} (nx : Nat) (hdg : decode cc pc = .ok (.anewarray index, 3)) (hcl : Cond.classLink own index "java/lang/String" ∈ bm_ALL) (hov : Cond.arrayOver (.object "java/lang/String") ∈ bm_NW) (hn : nx = pc + 3 := by rfl) : bm_Sn K pg mi cc nL own nm ret pc (bm_G (bm_oA 92 nx)) := by
  subst hn
  refine bm_Sn.heapG (fun lo st w g u he hg => ?_)
  unfold bm_oA at he
  split at he
  · rename_i n r
    cases he
    refine ⟨⟨Nat.le_succ _, Nat.le_add_right _ _⟩, fun D b0 mc ms d p l e R s m args below meth c H locs w0 Q ls hCx hB hle g1 g2 g3 g4 g5 g6 kk => ?_⟩
    obtain ⟨hx, hb, -, hown, hts, hK, hST, -, -, -, hb0, hRc, hRs, -⟩ := hCx
    obtain ⟨hB1, hB2⟩ := hB
    dsimp only [bm_nw_sz, bm_nw_sl] at hB1 hB2 kk
    obtain ⟨hl1, hl2⟩ := hle
    have hni : bm_InI n := g3.hd
    have hN : (Int32.ofInt n).toNatClampNeg = n.toNat := Int32.toNatClampNeg_ofInt_of_le (by have := hni.1; omega) (by have := hni.2; omega)
    obtain ⟨hA, kA0, comp0, hRA1, hRA2, hRA3, hRA⟩ := hK.2 7 (D.2.1 27, .object "java/lang/String") rfl
    refine W.anew hx hb hown (hts _ hcl) (va_AO.use (hST.2.2.2.2.2.2.2.2 _ hov)) rfl hdg rfl (fun q => by have := (bm_ltI hni bm_In0).mp q; have := hg.1; omega) (by rw [hN]; have h1 : n.toNat ≤ 100000 := (by have := hg.2; omega); omega) (by rw [hRc]; omega) (by rw [hRs, hN]; omega) fun cA kA comp f1 f2 f3 f4 => ?_
    rw [hN]
    have hcA : cA = D.2.1 27 := Option.some.inj (f1.symm.trans hRA)
    generalize hH1 : H.push ({ cls := cA, slots := Array.replicate n.toNat .null, vm := .none } : Cell) = H1
    have z1 : H1.size = H.size + 1 := by rw [← hH1, Array.size_push]
    have e1 : H1[H.size]? = some (arrV cA n.toNat (fun _ => .null)) := by rw [← hH1, Array.getElem?_push_size, ← arrV_new]
    have o1 : ∀ q : Nat, q < H.size → H1[q]? = H[q]? := fun q hq => by rw [← hH1, Array.getElem?_push, if_neg (Nat.ne_of_lt hq)]
    rw [g4.1] at e1 ⊢
    refine W.cs (show _ = bm_sz w + 1 - bm_sz w0 by omega) (show _ = bm_sl w + n.toNat - bm_sl w0 by omega) ?_
    exact kk H1 locs ls g1 g2 (bm_InSt.cons trivial g3.tl) (g4.pushG (t := 92) (by rw [← g4.1]; exact Nat.le_trans hb0 g5.1) rfl z1 o1 (fun b hb2 => ⟨by rw [bm_nw_kt, if_neg hb2], by rw [bm_nw_kn, if_neg hb2], fun k => ⟨by rw [bm_nw_gi, if_neg hb2], by rw [bm_nw_gl, if_neg hb2], by rw [bm_nw_gr, if_neg hb2]⟩⟩)
      (by rw [bm_nw_kt, if_pos rfl]) (by rw [bm_nw_kn, if_pos rfl]; have := hg.2; omega) (fun k => ⟨by rw [bm_nw_gi, if_pos rfl]; exact bm_In0, by rw [bm_nw_gl, if_pos rfl]; exact bm_InL0⟩) (fun h => absurd h (by omega)) (by omega) (fun _ => by
        rw [e1, hcA, bm_nw_kn, if_pos rfl]
        congr 2
        funext j
        rw [bm_nw_gi, if_pos rfl]; rfl) g4.sc) (bm_va_push g5 z1 o1) g6
  · cases he
/-- a place of a row of texts is written -/
theorem bm_HR.put9 {D : bm_D} {b0 : Nat} {w : bm_W} {H H1 : Heap} {a k : Nat} {x : Int} (h : bm_HR D b0 w H) (hx : bm_InI x) (ha : bm_kt w a = 92) (hc : H1[a]? = some (arrV (D.2.1 27) (bm_kn w a) (fun j => bm_tx D (bm_gi (bm_si w a k x) a j)))) (hz : H1.size = H.size) (ho : ∀ q : Nat, q ≠ a → H1[q]? = H[q]?) : bm_HR D b0 (bm_si w a k x) H1 := by
  obtain ⟨e1, e2, e3, e4, e5, e6⟩ := h
  have hs : ∀ b, b ≠ a → ∀ j, bm_gi (bm_si w a k x) b j = bm_gi w b j := fun b hb j => by rw [bm_si_gi, if_neg (fun q => hb q.1)]
  refine ⟨by rw [hz]; exact e1, bm_range_si e2 hx, e3, fun b hb => ?_, e5, fun b => ⟨fun q => ?_, fun q => ?_⟩⟩
  · have hb : bm_kt w b < 90 := hb
    have hba : b ≠ a := fun e => by rw [e] at hb; omega
    obtain ⟨g1, g2, g3⟩ := e4 b hb
    exact ⟨g1, g2, g3.kept (ho b hba) rfl (fun j => ⟨hs b hba j, rfl, rfl⟩)⟩
  · have q : bm_kt w b = 91 := q
    have hba : b ≠ a := fun e => by rw [e] at q; omega
    obtain ⟨g1, g2, g3⟩ := (e6 b).1 q
    exact ⟨g1, g2, fun j => (hs b hba j).trans (g3 j)⟩
  · have q : bm_kt w b = 92 := q
    obtain ⟨g1, g2, g3⟩ := (e6 b).2 q
    by_cases hba : b = a
    · subst hba
      exact ⟨g1, g2, hc⟩
    · have e : (fun j => bm_tx D (bm_gi (bm_si w a k x) b j)) = (fun j => bm_tx D (bm_gi w b j)) := funext fun j => by rw [hs b hba j]
      exact ⟨g1, g2, by rw [ho b hba, g3, e]; rfl⟩
def bm_xS (nx : Nat) : bm_L → List bm_V → bm_W → Option (Prop × bm_S) := fun lo st w => match st with
  | .inr (.inr (.inr (.inr (0, v)))) :: .inl i :: .inr (.inr (.inl (some a))) :: r => some ((bm_kt w a = 92 ∧ bm_in i (bm_kn w a)) ∧ v < 20, nx, lo, r, bm_si w a i.toNat ((v : Int) + 1))
  | _ => none
theorem bm_s_aastoreS (hall : 20 ≤ K.1.1) (nx : Nat) (hdg : decode cc pc = .ok (.aastore, 1)) (hini : Cond.initialized "java/lang/String" ∈ bm_ALL) (hn : nx = pc + 1 := by rfl) : bm_Sn K pg mi cc nL own nm ret pc (bm_G (bm_xS nx)) := by
  subst hn
  refine bm_Sn.heapG (fun lo st w g u he hg => ?_)
  unfold bm_xS at he
  split at he
  · rename_i v i a r
    cases he
    refine ⟨⟨Nat.le_refl _, Nat.le_refl _⟩, fun D b0 mc ms d p l e R s m args below meth c H locs w0 Q ls hCx hB hle g1 g2 g3 g4 g5 g6 kk => ?_⟩
    obtain ⟨hx, hb, -, -, hts, hK, hST, -⟩ := hCx
    obtain ⟨⟨h1, h2⟩, h3⟩ := hg
    obtain ⟨q1, q2, q3⟩ := bm_ix g3.tl.hd h2
    obtain ⟨hba, -, e1⟩ := (g4.2.2.2.2.2 a).2 h1
    obtain ⟨hA, kA, comp, k1, k2, k3, -⟩ := hK.2 7 (D.2.1 27, .object "java/lang/String") rfl
    obtain ⟨cellV, v1, v2, v3, v4⟩ := (hST.1.1 v (Nat.lt_of_lt_of_le h3 hall)).1
    have hcomp : comp = cellV.cls := Option.some.inj (k3.symm.trans v3)
    subst hcomp
    have v5 : H[D.2.2 0 v]? = some cellV := (g5.2.1 _ (Array.getElem?_eq_some_iff.mp v1).1 v4).trans v1
    have hi := hts _ hini
    obtain ⟨kC, hkC⟩ : ∃ kC, s.vm.classes[cellV.cls]? = some kC := by
      cases hq : s.vm.classes[cellV.cls]? with
      | none => simp [Cond.before, Cond.holds, Cond.value, v3, hq] at hi
      | some k => exact ⟨k, rfl⟩
    refine W.aast hx hb e1 (fun q h => by cases h) (fun h => by cases h) k1 k2 rfl hkC ⟨fun q => q1 (Or.inl q), by show _ < (arrV _ _ _).slots.size; rw [arrV_size, q2]; exact q3⟩ v5 (fun q h => by rw [h] at v2; cases v2) hkC (by unfold Vm.assignable Vm.assignableAux; simp only [beq_self_eq_true, Bool.true_or]) rfl rfl hdg fun H1 e z oq => ?_
    refine kk H1 _ ls g1 g2 g3.tl.tl.tl (g4.put9 (a := a) (x := (v : Int) + 1) ⟨by omega, by omega⟩ h1 ?_ z oq) (g5.put z oq hba) g6
    rw [e, q2, arrV_store]
    congr 2
    funext j
    unfold updV
    rw [bm_si_gi]
    by_cases hj : j = i.toNat
    · rw [if_pos hj, if_pos ⟨rfl, hj⟩]
      show Value.ref (D.2.2 0 v) = bm_tx D ((v : Int) + 1)
      unfold bm_tx
      rw [if_neg (by omega), show ((v : Int) + 1).toNat - 1 = v by omega]
    · rw [if_neg hj, if_neg (fun q => hj q.2)]
  · cases he
def bm_aT (nx : Nat) : bm_L → List bm_V → bm_W → Option (Prop × bm_S) := fun lo st w => match st with
  | .inl i :: .inr (.inr (.inl (some a))) :: r => some ((bm_kt w a = 92 ∧ bm_in i (bm_kn w a)) ∧ 0 < bm_gi w a i.toNat, nx, lo, .inr (.inr (.inr (.inr (0, (bm_gi w a i.toNat).toNat - 1)))) :: r, w)
  | _ => none
theorem bm_s_aaloadS (nx : Nat) (hdg : decode cc pc = .ok (.aaload, 1)) (hn : nx = pc + 1 := by rfl) : bm_Sn K pg mi cc nL own nm ret pc (bm_G (bm_aT nx)) := by
  subst hn
  refine bm_Sn.heapG (fun lo st w g u he hg => ?_)
  unfold bm_aT at he
  split at he
  · rename_i i a r
    cases he
    refine ⟨bm_le.rf, bm_Gw.still (fun D b0 mc ms d p l e R s m args below meth c H locs cells slots Q ls hCx h3 hH hS hz => ⟨bm_InSt.cons trivial h3.tl.tl, fun kk => ?_⟩)⟩
    obtain ⟨hx, hb, -, -, -, hK, -⟩ := hCx
    obtain ⟨⟨h1, h2⟩, h4⟩ := hg
    obtain ⟨q1, q2, q3⟩ := bm_ix h3.hd h2
    obtain ⟨-, -, e1⟩ := (hH.2.2.2.2.2 a).2 h1
    have hA := (hK.2 7 (D.2.1 27, .object "java/lang/String") rfl).1 (bm_kn w a) (fun j => bm_tx D (bm_gi w a j))
    refine W.aald (v := .ref (D.2.2 0 ((bm_gi w a i.toNat).toNat - 1))) hx hb e1 hA rfl (fun q => by cases q) (by rw [arrV_size]; exact q1) (by
      rw [q2, arrV_read _ _ q3]
      show some (bm_tx D _) = _
      unfold bm_tx
      rw [if_neg (by omega)]) rfl rfl hdg kk
  · cases he
end BMZ

/-! ===== the launch's constants, doubles, copies of rows ===== -/
section BMK
variable {K : bm_K} {pg : bm_Pg} {mi : bm_Mi} {cc : ByteArray} {nL : Nat} {own nm : String} {ret : Option FieldType} {pc : Nat}
def bm_oOI (nx : Nat) : bm_L → List bm_V → bm_W → Option (Prop × bm_S) := fun lo st w => match st with
  | .inr (.inr (.inl (some _))) :: r => some ((bm_wt r).ble 8 = true, nx, lo, r, w)
  | _ => none
theorem bm_s_objInit {index : Nat} (nx : Nat) (hdg : decode cc pc = .ok (.invokespecial index, 3)) (hl : Cond.methodLink own index objectInit ∈ bm_ALL) (hi : Cond.instanceMethod objectInit ∈ bm_ALL) (hc : Cond.code objectInit ⟨#[0xb1]⟩ 1 none ∈ bm_ALL) (hn : nx = pc + 3 := by rfl) : bm_Sn K pg mi cc nL own nm ret pc (bm_G (bm_oOI nx)) := by
  subst hn
  refine bm_Sn.heapG (fun lo st w g u he hg => ?_)
  unfold bm_oOI at he
  split at he
  · rename_i a r
    cases he
    refine ⟨bm_le.rf, bm_Gw.still (fun D b0 mc ms d p l e R s m args below meth c H locs cells slots Q ls hCx h3 hH hS hz => ⟨h3.tl, fun kk => ?_⟩)⟩
    obtain ⟨hx, hb, hml, hown, hts, -, -, -, -, -, -, -, -, hRf, hRl, -⟩ := hCx
    have hw : bm_wt r ≤ 8 := Nat.le_of_ble_eq_true hg
    refine W.objInit hx hb hown (hts _ hl) (hts _ hi) (hts _ hc) rfl (by rw [hml]; exact hz) rfl hdg (Nat.le_trans (Nat.le_add_left 1 _) (Nat.le_trans (Nat.add_le_add_left (by omega) d) hRf)) (Nat.le_trans (by show 2 * 0 + ((r.map (bm_val D)).map fun v => v.category).sum + 12 ≤ 440; rw [bm_cats]; omega) (Nat.le_trans (Nat.le_add_left _ _) hRl)) kk
  · cases he
theorem bm_s_getstatic {index : Nat} {C n dd : String} {v : bm_V} (nx : Nat) (hdg : decode cc pc = .ok (.getstatic index, 3)) (hm : (C, n, dd, v) ∈ K.2.2.1) (hl : Cond.fieldLink own index C n dd ∈ bm_ALL) (hv : bm_InV v) (hn : nx = pc + 3 := by rfl) : bm_Sn K pg mi cc nL own nm ret pc (bm_P (bm_oK v nx)) := by
  subst hn
  refine bm_Sn.still (fun lo st w t he => ?_)
  simp only [bm_oK, Option.some.injEq] at he
  subst he
  refine ⟨rfl, fun h1 h2 h3 => ⟨⟨h1, h2, bm_InSt.cons hv h3⟩, ?_⟩⟩
  intro D b0 mc ms d p l e R s m args below meth c H locs cells slots Q ls hCx hS hls k
  obtain ⟨hx, hb, -, hown, hts, -, hST, -⟩ := hCx
  exact va_gets hx hb (hST.2.2.1 _ hm) hS hown (hts _ hl) (fun _ q => q) hdg (k ls hls)
theorem bm_s_getstaticN {index : Nat} {C n dd host : String} {v : bm_V} (nx : Nat) (hdg : decode cc pc = .ok (.getstatic index, 3)) (hm : (C, n, dd, v) ∈ K.2.2.1) (hl : Cond.fieldLinkNest own index C n dd host ∈ bm_NW) (hv : bm_InV v) (hn : nx = pc + 3 := by rfl) : bm_Sn K pg mi cc nL own nm ret pc (bm_P (bm_oK v nx)) := by
  subst hn
  refine bm_Sn.still (fun lo st w t he => ?_)
  simp only [bm_oK, Option.some.injEq] at he
  subst he
  refine ⟨rfl, fun h1 h2 h3 => ⟨⟨h1, h2, bm_InSt.cons hv h3⟩, ?_⟩⟩
  intro D b0 mc ms d p l e R s m args below meth c H locs cells slots Q ls hCx hS hls k
  obtain ⟨hx, hb, -, hown, hts, -, hST, -⟩ := hCx
  exact va_getsN hx hb (hST.2.2.1 _ hm) hS hown (va_Nw.use rfl (hST.2.2.2.2.2.2.2.2 _ hl)) (fun _ q => q) hdg (k ls hls)
theorem bm_s_ldcS {index i : Nat} {tx : String} (nx : Nat) (hdg : decode cc pc = .ok (.ldc index, 2)) (hm : (own, index, tx, i) ∈ K.2.1) (hn : nx = pc + 2 := by rfl) : bm_Sn K pg mi cc nL own nm ret pc (bm_P (bm_oK (.inr (.inr (.inr (.inr (0, i))))) nx)) := by
  subst hn
  refine bm_Sn.still (fun lo st w t he => ?_)
  simp only [bm_oK, Option.some.injEq] at he
  subst he
  refine ⟨rfl, fun h1 h2 h3 => ⟨⟨h1, h2, bm_InSt.cons trivial h3⟩, ?_⟩⟩
  intro D b0 mc ms d p l e R s m args below meth c H locs cells slots Q ls hCx hS hls k
  obtain ⟨hx, hb, -, hown, hts, -, hST, -⟩ := hCx
  exact va_ldcS hx hb hown (hST.2.1 _ hm) hdg (k ls hls)
theorem bm_ldcW {p : Program} {l : Launch} {e : Env} {R : Room} {s : State} {m : MethodId} {args : Array Value} {below : List Frame} {meth : Method} {c : Code} {T : State} {locs : List Loc} {cells slots : Nat}
    (X : Stand p l e R s m args below meth c T locs cells slots) (hexec : p.tables.exec = Jvm.exec) {tx : String} {index : Nat} {a : Addr} {a9 : Array Value} (hown : s.vm.findClass own = some m.cls)
    (hconst : (Cond.stringRef own index tx).before a9 s = true) (hev : (Term.string own index).eval a9 s none [] s = some (.ref a)) {g : JFrame} (hg : g.method = m) (hdg : decode c.code g.pc = .ok (.ldc_w index, 3)) :
    ∀ target, Steps p.tables e below (T.setTop { g with pc := g.pc + 3, stack := .ref a :: g.stack }) target → Steps p.tables e below (T.setTop g) target := by
  obtain ⟨k, cf, i, a', hk, hcf, hcp, -, hr, hev'⟩ := Cond.stringRef_spec hown hconst
  cases hev.symm.trans hev'
  obtain ⟨k', hk', he⟩ := X.warmed.alike.2.2 _ _ hk
  have hr' : k'.resolved[index]? = some (some (.string a)) := by
    rcases X.warmed.entry hk hk' index with h | ⟨h, -⟩
    · rw [h]; exact hr
    · rw [hr] at h; cases h
  intro target hrest
  subst hg
  jvm_step X.here [hexec, hdg, ldc_w.wp_string (e := e) (s := T) (f := g) X.here.top hk' (by rw [he]; exact hcf) hcp hr']
  exact hrest
theorem bm_s_ldcW {index i : Nat} {tx : String} (nx : Nat) (hdg : decode cc pc = .ok (.ldc_w index, 3)) (hm : (own, index, tx, i) ∈ K.2.1) (hn : nx = pc + 3 := by rfl) : bm_Sn K pg mi cc nL own nm ret pc (bm_P (bm_oK (.inr (.inr (.inr (.inr (0, i))))) nx)) := by
  subst hn
  refine bm_Sn.still (fun lo st w t he => ?_)
  simp only [bm_oK, Option.some.injEq] at he
  subst he
  refine ⟨rfl, fun h1 h2 h3 => ⟨⟨h1, h2, bm_InSt.cons trivial h3⟩, ?_⟩⟩
  intro D b0 mc ms d p l e R s m args below meth c H locs cells slots Q ls hCx hS hls k
  obtain ⟨hx, hb, -, hown, hts, -, hST, -⟩ := hCx
  obtain ⟨z1, z2⟩ := hST.2.1 _ hm
  intro T hT X
  obtain ⟨t, a1, b1⟩ := k ls hls T hT X
  exact ⟨t, bm_ldcW X hx hown z1 z2 (g := F0 m pc ls (st.map (bm_val D))) rfl (by rw [hb]; exact hdg) t a1, b1⟩
theorem bm_s_ldc2 {index : Nat} {x : Int} (nx : Nat) (hdg : decode cc pc = .ok (.ldc2_w index, 3)) (hl : Cond.constantLong own index (Int64.ofInt x) ∈ bm_ALL) (hin : bm_InL x) (hn : nx = pc + 3 := by rfl) : bm_Sn K pg mi cc nL own nm ret pc (bm_P (bm_oK (.inr (.inl x)) nx)) := by
  subst hn
  refine bm_Sn.still (fun lo st w t he => ?_)
  simp only [bm_oK, Option.some.injEq] at he
  subst he
  refine ⟨rfl, fun h1 h2 h3 => ⟨⟨h1, h2, bm_InSt.cons hin h3⟩, ?_⟩⟩
  intro D b0 mc ms d p l e R s m args below meth c H locs cells slots Q ls hCx hS hls k
  obtain ⟨hx, hb, -, hown, hts, -⟩ := hCx
  exact lv_ldc2 hx hb hown (hts _ hl) hdg (k ls hls)
/-! Strings and static rows -/
def bm_kLen (K : bm_K) : Nat × Nat → Nat
  | (1, i) => K.1.2.1.getD i 0
  | (2, 0) => K.2.2.2.1.length
  | _ => 0
def bm_kIs (K : bm_K) : Nat × Nat → Prop
  | (1, i) => i < K.1.1
  | (2, j) => j < 1
  | _ => False
def bm_oKn (K : bm_K) (nx : Nat) : bm_L → List bm_V → bm_W → Option (Prop × bm_S) := fun lo st w => match st with
  | .inr (.inr (.inr (.inr k))) :: r => some (bm_kIs K k, nx, lo, .inl (bm_kLen K k : Nat) :: r, w)
  | _ => none
def bm_Kok (K : bm_K) : Prop := (∀ i, K.1.2.1.getD i 0 < 2147483648) ∧ K.2.2.2.1.length < 2147483648 ∧ K.2.2.2.2.1.length < 2147483648 ∧ K.2.2.2.2.2.length < 2147483648
theorem bm_kLen_in (hK : bm_Kok K) (k : Nat × Nat) : bm_InI (bm_kLen K k : Nat) := by
  obtain ⟨h1, h2, h3, h4⟩ := hK
  have h : bm_kLen K k < 2147483648 := by
    unfold bm_kLen
    split
    · exact h1 _
    · exact h2
    · omega
  unfold bm_InI
  omega
theorem bm_s_alenK (hK : bm_Kok K) (nx : Nat) (hdg : decode cc pc = .ok (.arraylength, 1)) (hn : nx = pc + 1 := by rfl) : bm_Sn K pg mi cc nL own nm ret pc (bm_G (bm_oKn K nx)) := by
  subst hn
  refine bm_Sn.heapG (fun lo st w g u he hg => ?_)
  unfold bm_oKn at he
  split at he
  · rename_i k r
    cases he
    refine ⟨bm_le.rf, bm_Gw.still (fun D b0 mc ms d p l e R s m args below meth c H locs cells slots Q ls hCx h3 hH hS hz => ⟨bm_InSt.cons (bm_kLen_in hK k) h3.tl, fun kk => ?_⟩)⟩
    obtain ⟨hx, hb, -, -, -, -, hST, -⟩ := hCx
    obtain ⟨s1, -, -, s4, s5, s6, -⟩ := hST
    match k, hg, kk with
    | (1, i), hg, kk => exact va_tlen hx hb (s1.1 i hg).2.2.2 hS Int32.ofInt_eq_ofNat.symm hdg kk
    | (2, 0), hg, kk => exact va_tlen hx hb s4 hS Int32.ofInt_eq_ofNat.symm hdg kk
    | (2, j + 1), hg, kk => exact absurd (show j + 1 < 1 from hg) (by omega)
  · cases he
def bm_oKb (K : bm_K) (nx : Nat) : bm_L → List bm_V → bm_W → Option (Prop × bm_S) := fun lo st w => match st with
  | .inl j :: .inr (.inr (.inr (.inr (1, i)))) :: r => some (i < K.1.1 ∧ bm_in j (K.1.2.1.getD i 0), nx, lo, .inl ((K.1.2.2.getD i []).getD j.toNat 0).toInt :: r, w)
  | _ => none
theorem bm_s_baloadK (nx : Nat) (hdg : decode cc pc = .ok (.baload, 1)) (hn : nx = pc + 1 := by rfl) : bm_Sn K pg mi cc nL own nm ret pc (bm_G (bm_oKb K nx)) := by
  subst hn
  refine bm_Sn.heapG (fun lo st w g u he hg => ?_)
  unfold bm_oKb at he
  split at he
  · rename_i j i r
    cases he
    refine ⟨bm_le.rf, bm_Gw.still (fun D b0 mc ms d p l e R s m args below meth c H locs cells slots Q ls hCx h3 hH hS hz => ⟨bm_InSt.cons (bm_I_in _) h3.tl.tl, fun kk => ?_⟩)⟩
    obtain ⟨hx, hb, -, -, -, -, hST, -⟩ := hCx
    obtain ⟨q1, q2, q3⟩ := bm_ix h3.hd hg.2
    refine va_tb hx hb (hST.1.1 i hg.1).2.2.2 hS (i := Int32.ofInt j) q1 (v := Value.int ((K.1.2.2.getD i []).getD j.toNat 0)) (by rw [q2]) hdg ?_
    simpa only [List.map_cons, bm_val, Int32.ofInt_toInt] using kk
  · cases he
def bm_oKl (K : bm_K) (nx : Nat) : bm_L → List bm_V → bm_W → Option (Prop × bm_S) := fun lo st w => match st with
  | .inl j :: .inr (.inr (.inr (.inr (2, 0)))) :: r => some (bm_in j K.2.2.2.1.length, nx, lo, .inr (.inl (K.2.2.2.1.getD j.toNat 0).toInt) :: r, w)
  | _ => none
theorem bm_s_laloadK (nx : Nat) (hdg : decode cc pc = .ok (.laload, 1)) (hn : nx = pc + 1 := by rfl) : bm_Sn K pg mi cc nL own nm ret pc (bm_G (bm_oKl K nx)) := by
  subst hn
  refine bm_Sn.heapG (fun lo st w g u he hg => ?_)
  unfold bm_oKl at he
  split at he
  · rename_i j r
    cases he
    refine ⟨bm_le.rf, bm_Gw.still (fun D b0 mc ms d p l e R s m args below meth c H locs cells slots Q ls hCx h3 hH hS hz => ⟨bm_InSt.cons (bm_L_in _) h3.tl.tl, fun kk => ?_⟩)⟩
    obtain ⟨hx, hb, -, -, -, -, hST, -⟩ := hCx
    obtain ⟨q1, q2, q3⟩ := bm_ix h3.hd hg
    refine va_tl hx hb hST.2.2.2.1 hS (i := Int32.ofInt j) q1 (v := Value.long (K.2.2.2.1.getD j.toNat 0)) (by rw [q2]) hdg ?_
    simpa only [List.map_cons, bm_val, Int64.ofInt_toInt] using kk
  · cases he
def bm_oKv (K : bm_K) (nx : Nat) : bm_L → List bm_V → bm_W → Option (Prop × bm_S) := fun lo st w => match st with
  | .inr (.inr (.inr (.inr (0, i)))) :: r => some (i < K.1.1, nx, lo, .inr (.inr (.inr (.inr (1, i)))) :: r, w)
  | _ => none
def bm_oKc (K : bm_K) (nx : Nat) : bm_L → List bm_V → bm_W → Option (Prop × bm_S) := fun lo st w => match st with
  | .inr (.inr (.inr (.inr (0, i)))) :: r => some (i < K.1.1, nx, lo, .inl 0 :: r, w)
  | _ => none
theorem bm_s_strValue {index : Nat} (nx : Nat) (hdg : decode cc pc = .ok (.getfield index, 3)) (hl : Cond.fieldLink own index "java/lang/String" "value" "[B" ∈ bm_ALL) (hn : nx = pc + 3 := by rfl) : bm_Sn K pg mi cc nL own nm ret pc (bm_G (bm_oKv K nx)) := by
  subst hn
  refine bm_Sn.heapG (fun lo st w g u he hg => ?_)
  unfold bm_oKv at he
  split at he
  · rename_i i r
    cases he
    refine ⟨bm_le.rf, bm_Gw.still (fun D b0 mc ms d p l e R s m args below meth c H locs cells slots Q ls hCx h3 hH hS hz => ⟨bm_InSt.cons trivial h3.tl, fun kk => ?_⟩)⟩
    obtain ⟨hx, hb, -, hown, hts, -, hST, -⟩ := hCx
    exact vk_getf hx hb (hST.1.1 i hg).2.2.1 hS hown (hts _ hl) (fun _ q => q) hdg kk
  · cases he
theorem bm_s_strCoder {index : Nat} (nx : Nat) (hdg : decode cc pc = .ok (.getfield index, 3)) (hl : Cond.fieldLink own index "java/lang/String" "coder" "B" ∈ bm_ALL) (hn : nx = pc + 3 := by rfl) : bm_Sn K pg mi cc nL own nm ret pc (bm_G (bm_oKc K nx)) := by
  subst hn
  refine bm_Sn.heapG (fun lo st w g u he hg => ?_)
  unfold bm_oKc at he
  split at he
  · rename_i i r
    cases he
    refine ⟨bm_le.rf, bm_Gw.still (fun D b0 mc ms d p l e R s m args below meth c H locs cells slots Q ls hCx h3 hH hS hz => ⟨bm_InSt.cons bm_In0 h3.tl, fun kk => ?_⟩)⟩
    obtain ⟨hx, hb, -, hown, hts, -, hST, -⟩ := hCx
    exact vk_getf hx hb (hST.1.1 i hg).2.1 hS hown (hts _ hl) (fun _ q => q) hdg kk
  · cases he
theorem bm_recvK {D : bm_D} {st : List bm_V} {n : Nat} {i : Nat} {as : List bm_V} (e : (st.take (n + 1)).reverse = .inr (.inr (.inr (.inr (0, i)))) :: as) : st.map (bm_val D) = (as.map (bm_val D)).reverse ++ Value.ref (D.2.2 0 i) :: (st.drop (n + 1)).map (bm_val D) := by
  rw [bm_stk D (st := st) (n := n + 1), e, List.map_cons, List.reverse_cons, List.append_assoc]
  rfl
theorem bm_s_invK {y n rt index : Nat} (nx : Nat) (hdg : decode cc pc = .ok (.invokevirtual index, 3)) (hw : bm_cw mi pg y n) (hl : Cond.methodLink own index (mi y).1 ∈ bm_ALL) (hst : Cond.instanceMethod (mi y).1 ∈ bm_ALL) (hse : Cond.selects "java/lang/String" (mi y).1 (mi y).1 ∈ bm_ALL) (hall : 20 ≤ K.1.1) (hrt : rt < 5) (hn : nx = pc + 3 := by rfl) : bm_Sn K pg mi cc nL own nm ret pc (bm_C y (n + 1) nx rt 2) := by
  subst hn
  refine bm_Sn.call (fun D b0 mc ms mc' ms' d p l e R s m args below meth c H locs ls w w' r cells slots st hCx hnl hrc hr5 hM hH hS hls hW hf => ?_)
  have hts := hCx.2.2.2.2.1
  have hlen := bm_len_take hnl
  generalize hae : (st.take (n + 1)).reverse = as at hrc hM hlen ⊢
  match as, hrc, hae, hM, hlen with
  | .inr (.inr (.inr (.inr (0, i)))) :: as, hrc, hae, hM, hlen =>
    have hi : i < K.1.1 := Nat.lt_of_lt_of_le hrc hall
    obtain ⟨cell, q1, q2, q3⟩ := vk_recv hCx.2.2.2.2.2.2.1.1 hi hS
    exact vx_runV (As := as.map (bm_val D)) (bm_fix hCx) hM ⟨bm_callB hw hts hl hCx.2.2.2.2.2.2.2.2.2.2.2.2.2.1 hCx.2.2.2.2.2.2.2.2.2.2.2.2.2.2.1, hts _ hst, hts _ hse⟩ ⟨bm_Pc.blind, ⟨cell, q1, q2, q3⟩, bm_pre hCx hH hS⟩ rfl (by rw [List.length_map]; simpa using hlen) hls (bm_recvK hae) (lv_room hW) hdg hf
/-! doubles -/
def bm_oid (nx : Nat) : bm_L → List bm_V → bm_W → Option bm_S := fun lo st w => match st with
  | .inl x :: r => some (nx, lo, .inr (.inr (.inr (.inl (FP.i2d (Int32.ofInt x))))) :: r, w)
  | _ => none
def bm_oDd (nx : Nat) : bm_L → List bm_V → bm_W → Option (Prop × bm_S) := fun lo st w => match st with
  | .inr (.inr (.inr (.inl y))) :: .inr (.inr (.inr (.inl x))) :: r => some (vf_n64 (FP.ddiv x y), nx, lo, .inr (.inr (.inr (.inl (FP.ddiv x y)))) :: r, w)
  | _ => none
theorem bm_s_i2d (nx : Nat) (hdg : decode cc pc = .ok (.i2d, 1)) (hn : nx = pc + 1 := by rfl) : bm_Sn K pg mi cc nL own nm ret pc (bm_P (bm_oid nx)) := by
  subst hn
  refine bm_Sn.still (fun lo st w t he => ?_)
  unfold bm_oid at he
  split at he
  · rename_i x r
    cases he
    refine ⟨rfl, fun h1 h2 h3 => ⟨⟨h1, h2, bm_InSt.cons trivial h3.tl⟩, ?_⟩⟩
    intro D b0 mc ms d p l e R s m args below meth c H locs cells slots Q ls hCx hS hl k
    exact lv_i2d hCx.1 hCx.2.1 hdg (k ls hl)
  · cases he
theorem bm_s_ddiv (nx : Nat) (hdg : decode cc pc = .ok (.ddiv, 1)) (hn : nx = pc + 1 := by rfl) : bm_Sn K pg mi cc nL own nm ret pc (bm_G (bm_oDd nx)) := by
  subst hn
  refine bm_Sn.stillG (fun lo st w g t he => ?_)
  unfold bm_oDd at he
  split at he
  · rename_i y x r
    cases he
    refine ⟨rfl, fun hg h1 h2 h3 => ⟨⟨h1, h2, bm_InSt.cons trivial h3.tl.tl⟩, ?_⟩⟩
    intro D b0 mc ms d p l e R s m args below meth c H locs cells slots Q ls hCx hS hl k
    exact lv_ddiv hCx.1 hCx.2.1 hdg hg (k ls hl)
  · cases he
theorem bm_s_dconst0 (nx : Nat) (hdg : decode cc pc = .ok (.dconst 0, 1)) (hn : nx = pc + 1 := by rfl) : bm_Sn K pg mi cc nL own nm ret pc (bm_P (bm_oK (.inr (.inr (.inr (.inl FP.dconst0)))) nx)) := by
  subst hn
  refine bm_Sn.still (fun lo st w t he => ?_)
  cases he
  refine ⟨rfl, fun h1 h2 h3 => ⟨⟨h1, h2, bm_InSt.cons trivial h3⟩, ?_⟩⟩
  intro D b0 mc ms d p l e R s m args below meth c H locs cells slots Q ls hCx hS hl k
  exact lv_dconst0 hCx.1 hCx.2.1 hdg (k ls hl)
theorem bm_s_dconst1 (nx : Nat) (hdg : decode cc pc = .ok (.dconst 1, 1)) (hn : nx = pc + 1 := by rfl) : bm_Sn K pg mi cc nL own nm ret pc (bm_P (bm_oK (.inr (.inr (.inr (.inl FP.dconst1)))) nx)) := by
  subst hn
  refine bm_Sn.still (fun lo st w t he => ?_)
  cases he
  refine ⟨rfl, fun h1 h2 h3 => ⟨⟨h1, h2, bm_InSt.cons trivial h3⟩, ?_⟩⟩
  intro D b0 mc ms d p l e R s m args below meth c H locs cells slots Q ls hCx hS hl k
  exact lv_dconst1 hCx.1 hCx.2.1 hdg (k ls hl)
end BMK

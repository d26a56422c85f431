/-! ===== the law's own code: what its helpers and its turns come to ===== -/
/-- the class's turn, told fully -/
def lz_F (b t d Y : Nat) (as : List bm_V) (mc ms lm : Nat) (E1 E2 : String) (κ : Nat) (two : Bool) (w : bm_W) (r : bm_Rt) (w1 : bm_W) : Prop := laF b t d Y as mc ms lm E1 E2 w r w1 ∧ bm_typ κ r ∧ (r = .inr E2 → two = true)
/-- what a helper comes to: its code, the world with what it wrote -/
def lh_G (f : bm_V → Int) (w : bm_W) (o : Nat) (F : bm_Rt → bm_W → Prop) (E1 E2 : String) (r2 : bm_Rt) (w2 : bm_W) : Prop :=
  (∃ v w', F (.inl (some v)) w' ∧ r2 = .inl (some (bm_i 0)) ∧ w2 = bm_sq w' o 0 (f v)) ∨ (∃ w' z, bm_sz w ≤ z ∧ F (.inr E1) w' ∧ r2 = .inl (some (bm_i 1)) ∧ w2 = lU z w') ∨ (∃ w' z, bm_sz w ≤ z ∧ F (.inr E2) w' ∧ r2 = .inl (some (bm_i 2)) ∧ w2 = lU z w')
theorem lh_G.no {f : bm_V → Int} {w w2 : bm_W} {o : Nat} {F : bm_Rt → bm_W → Prop} {E1 E2 E : String} (h : lh_G f w o F E1 E2 (.inr E) w2) : False := by
  rcases h with ⟨v, w', -, h, -⟩ | ⟨w', z, -, -, h, -⟩ | ⟨w', z, -, -, h, -⟩ <;> cases h
/-- what a helper asks of its callee -/
def lh_H (κ ko : Nat) (o : Nat) (mc ms : Nat) (w : bm_W) (F : bm_Rt → bm_W → Prop) (E1 E2 : String) (two : Bool) : Prop :=
  ∀ r w', F r w' → bm_Bn w mc ms w' ∧ bm_typ κ r ∧ ((∃ v, r = .inl (some v) ∧ bm_kt w' o = ko ∧ bm_kn w' o = 1) ∨ r = .inr E1 ∨ (r = .inr E2 ∧ two = true))
/-- what is written of an answer -/
def lh_i : bm_V → Int
  | .inl x => x
  | _ => 0
def lh_b : bm_V → Int
  | .inl x => if x = 0 then 0 else 1
  | _ => 0
def lh_l : bm_V → Int
  | .inr (.inl x) => x
  | _ => 0
def lh_d : bm_V → Int
  | .inr (.inr (.inr (.inl u))) => u.toInt64.toInt
  | _ => 0
/-- the kinds of the things of the law -/
def lt_K (b t : Nat) (w : bm_W) : Prop := t + 156 ≤ bm_sz w ∧ t = b + 3 ∧ bm_kt w (t + 154) = 22 ∧ bm_kn w (t + 154) = 1 ∧ bm_kt w (t + 155) = 27 ∧ bm_kn w (t + 155) = 1 ∧ bm_kt w (t + 122) = 12 ∧ bm_kt w b = 11
/-- what the model's turn comes to, behind the class's -/
def lt_N (b t κ mc ms lm o : Nat) (f : bm_V → Int) (k : Int) (w2 : bm_W) (r : bm_Rt) (w3 : bm_W) : Prop := (lR t mc ms w2 w3 ∧ ∃ u, r = .inl (some u) ∧ (k = 0 → bm_gl w2 o 0 = f u) ∧ bm_gi w3 (t + 122) 0 = k ∧ ∃ L', L' ≤ lm ∧ lJ b t L' w3) ∧ bm_typ κ r
/-- behind a helper -/
def lt_G (b t d Y κ mc ms lm o : Nat) (mas : List bm_V) (f : bm_V → Int) (r2 : bm_Rt) (w2 : bm_W) : Prop :=
  ∃ k : Int, 0 ≤ k ∧ k ≤ 2 ∧ r2 = .inl (some (bm_i k)) ∧ lt_K b t w2 ∧ bm_Call bm_pg (d + 1300) Y mas w2 (lt_N b t κ mc ms lm o f k w2)
section LW
variable {b t d Y y κ mc ms lm o n : Nat} {as mas : List bm_V} {E1 E2 : String} {two : Bool} {f : bm_V → Int} {w w' w2 w3 : bm_W} {r r2 : bm_Rt}
theorem lz_F2 (h : bm_Call bm_pg (d + 1300) y as w (laF b t d Y mas mc ms lm E1 E2 w)) (hT : bm_tbk κ (bm_pg y).1 = true) : bm_Call bm_pg (d + 1300) y as w (lz_F b t d Y mas mc ms lm E1 E2 κ true w) :=
  bm_Call_mono bm_pg _ _ _ _ _ _ (fun r w' q => ⟨q.1, q.2, fun _ => rfl⟩) (bm_Call_typ hT h)
theorem lz_F1 (h : ∀ E2, bm_Call bm_pg (d + 1300) y as w (laF b t d Y mas mc ms lm E1 E2 w)) (hT : bm_tbk κ (bm_pg y).1 = true) (hE : E1 ≠ "") : bm_Call bm_pg (d + 1300) y as w (lz_F b t d Y mas mc ms lm E1 "" κ false w) :=
  bm_Call_mono bm_pg _ _ _ _ _ _ (fun r w' q => ⟨q.1.1, q.1.2, fun e => by
    subst e
    rcases q.2.2 with ⟨v, h, -⟩ | ⟨h, -⟩ | ⟨h, -⟩
    · cases h
    · exact absurd (Sum.inr.inj h).symm hE
    · exact absurd (Sum.inr.inj h) (by decide)⟩) (bm_Call_and (bm_Call_typ hT (h "")) (h "x"))
theorem lt_K.eq (h : lt_K b t w) (hz : bm_sz w ≤ bm_sz w') (hk : ∀ a, a < bm_sz w → bm_kt w' a = bm_kt w a ∧ bm_kn w' a = bm_kn w a) : lt_K b t w' := by
  obtain ⟨h1, h2, h3, h4, h5, h6, h7, h8⟩ := h
  exact ⟨Nat.le_trans h1 hz, h2, by rw [(hk _ (by omega)).1]; exact h3, by rw [(hk _ (by omega)).2]; exact h4, by rw [(hk _ (by omega)).1]; exact h5, by rw [(hk _ (by omega)).2]; exact h6, by rw [(hk _ (by omega)).1]; exact h7, by rw [(hk _ (by omega)).1]; exact h8⟩
theorem lt_K.E (h : lt_K b t w) (e : lE mc ms w w') : lt_K b t w' := h.eq e.1.1 e.2.2
theorem lt_K.Uz {z : Nat} (h : lt_K b t w) (e : lE mc ms w w') (hz : bm_sz w ≤ z) : lt_K b t (lU z w') := h.eq (w' := lU z w') hz e.2.2
theorem lt_K.sq {x : Int} (h : lt_K b t w) : lt_K b t (bm_sq w o 0 x) := h.eq (Nat.le_refl _) (fun _ _ => ⟨rfl, rfl⟩)
theorem lO_sq {x : Int} (ho : o = t + 154 ∨ o = t + 155) : lO t w (bm_sq w o 0 x) := by
  refine ⟨⟨Nat.le_refl _, Nat.le_refl _, Nat.le_refl _, Nat.le_refl _⟩, fun a _ => ⟨⟨rfl, rfl⟩, fun _ _ => rfl, fun ha j => ⟨rfl, ?_⟩⟩⟩
  rw [bm_sq_gl, if_neg (fun q => ha (by omega))]
theorem lO_rf : lO t w w := q_gw.rf
theorem lh_H_of {ko : Nat} (hK : lt_K b t w) (ho : (o = t + 154 ∧ ko = 22) ∨ (o = t + 155 ∧ ko = 27)) : lh_H κ ko o 340 1100 w (lz_F b t d Y mas mc ms lm E1 E2 κ two w) E1 E2 two := by
  intro r w' h
  have K2 := hK.E h.1.1
  refine ⟨h.1.1.2.1, h.2.1, ?_⟩
  rcases h.1.2 with ⟨v, hv, -⟩ | ⟨hv, -⟩ | ⟨hv, -⟩
  · refine Or.inl ⟨v, hv, ?_⟩
    rcases ho with ⟨rfl, rfl⟩ | ⟨rfl, rfl⟩
    · exact ⟨K2.2.2.1, K2.2.2.2.1⟩
    · exact ⟨K2.2.2.2.2.1, K2.2.2.2.2.2.1⟩
  · exact Or.inr (Or.inl hv)
  · exact Or.inr (Or.inr ⟨hv, h.2.2 hv⟩)
theorem lt_N_of {k : Int} {v : bm_V} (hT : bm_tbk κ (bm_pg Y).1 = true) (h : laN b t d Y mas mc ms lm k v w) (g : lO t w w2) (hv : k = 0 → bm_gl w2 o 0 = f v) : bm_Call bm_pg (d + 1300) Y mas w2 (lt_N b t κ mc ms lm o f k w2) := by
  refine bm_Call_mono bm_pg _ _ _ _ _ _ (fun r w' q => ?_) (bm_Call_typ hT (h w2 g))
  obtain ⟨⟨h1, u, h2, h3, h4, h5⟩, h6⟩ := q
  exact ⟨⟨h1, u, h2, fun e => by rw [h3 e]; exact hv e, h4, h5⟩, h6⟩
theorem lt_of (hK : lt_K b t w) (ho : o = t + 154 ∨ o = t + 155) (hne : E1 ≠ E2) (hT : bm_tbk κ (bm_pg Y).1 = true) (h : lh_G f w o (lz_F b t d Y mas mc ms lm E1 E2 κ two w) E1 E2 r2 w2) : lt_G b t d Y κ mc ms lm o mas f r2 w2 := by
  rcases h with ⟨v, w', h1, h2, rfl⟩ | ⟨w', z, hz, h1, h2, rfl⟩ | ⟨w', z, hz, h1, h2, rfl⟩
  · refine ⟨0, by omega, by omega, h2, (hK.E h1.1.1).sq, ?_⟩
    rcases h1.1.2 with ⟨v', hv, hn⟩ | ⟨hv, -⟩ | ⟨hv, -⟩
    · cases hv
      exact lt_N_of hT hn (lO_sq ho) (fun _ => by rw [bm_sq_gl, if_pos ⟨rfl, rfl⟩])
    · cases hv
    · cases hv
  · refine ⟨1, by omega, by omega, h2, hK.Uz h1.1.1 hz, ?_⟩
    rcases h1.1.2 with ⟨v', hv, hn⟩ | ⟨hv, hn⟩ | ⟨hv, -⟩
    · cases hv
    · exact lt_N_of hT (hn z hz) lO_rf (fun e => absurd e (by omega))
    · exact absurd (Sum.inr.inj hv) hne
  · refine ⟨2, by omega, by omega, h2, hK.Uz h1.1.1 hz, ?_⟩
    rcases h1.1.2 with ⟨v', hv, hn⟩ | ⟨hv, hn⟩ | ⟨hv, hn⟩
    · cases hv
    · exact absurd (Sum.inr.inj hv).symm hne
    · exact lt_N_of hT (hn z hz) lO_rf (fun e => absurd e (by omega))
end LW
theorem lz_entry {D : bm_D} {p : Program} {l : Launch} {e : Env} {R : Room} {s : State} {m : MethodId} {args : Array Value} {below : List Frame} {meth : Method} {c : Code} {H : Heap} {locs : List Loc} {cells slots : Nat} {Q : State → Prop} {as : List bm_V} {n : Nat} (h : (bm_arg as).length ≤ n) (k : ∀ ls, lv_has ls n (lv_args 0 (as.map (bm_val D))) → W p l e R s m args below meth c H locs cells slots Q (F0 m 0 ls [])) : W p l e R s m args below meth c H locs cells slots Q (entryFrame m (as.map (bm_val D)).toArray n) := by
  have hl0 := lv_entry (as.map (bm_val D)) (n := n) (by rw [bm_slot]; exact h)
  rw [lg_entry_eq]
  exact k _ hl0
theorem bm_typ1 {v : Option bm_V} (h : bm_typ 1 (.inl v)) : ∃ x, v = some (bm_i x) := by
  rcases v with _ | x | x | x | x | x
  · cases h
  · exact ⟨x, rfl⟩
  · cases h
  · cases h
  · cases h
  · exact h.elim
theorem bm_typ3 {v : Option bm_V} (h : bm_typ 3 (.inl v)) : ∃ x, v = some (bm_l x) := by
  rcases v with _ | x | x | x | x | x
  · cases h
  · cases h
  · exact ⟨x, rfl⟩
  · cases h
  · cases h
  · exact h.elim
theorem bm_typ4 {v : Option bm_V} (h : bm_typ 4 (.inl v)) : ∃ x, v = some (bm_d x) := by
  rcases v with _ | x | x | x | x | x
  · cases h
  · cases h
  · cases h
  · cases h
  · exact ⟨x, rfl⟩
  · exact h.elim
theorem bm_In1 : bm_InI 1 := by unfold bm_InI; omega
theorem bm_In2 : bm_InI 2 := by unfold bm_InI; omega
theorem bm_InL1 : bm_InL 1 := by unfold bm_InL; omega
theorem bm_I2L {x : Int} (h : bm_InI x) : bm_InL x := by unfold bm_InI at h; unfold bm_InL; omega
/-- the law's locals between two turns -/
def lz_lo (a b t : Nat) (i : Int) : List (Nat × Value) := [(5, .int (Int32.ofInt i)), (4, .ref (t + 155)), (3, .ref (t + 154)), (2, .ref (t + 122)), (1, .ref b), (0, .ref a)]
/-- the script -/
def lz_v (xs : Nat → Int32) (i : Int) (k : Nat) : Int := (xs (i.toNat + k)).toInt
/-- where the law's body stands -/
def lz_C (D : bm_D) (p : Program) (l : Launch) (s : State) (m : MethodId) (args : Array Value) (c : Code) (a L : Nat) (xs : Nat → Int32) : Prop := lz_X D s.heap.size 1301 p l room_1 s m args c cL_law 9 ∧ va_X a L xs s s.heap ∧ a < s.heap.size ∧ L ≤ 3072
section LV2
variable {D : bm_D} {b t pc a L n : Nat} {xs : Nat → Int32} {p : Program} {l : Launch} {e : Env} {R : Room} {s : State} {m : MethodId} {args : Array Value} {below : List Frame} {meth : Method} {c : Code} {H : Heap} {locs : List Loc} {cells slots : Nat} {Q : State → Prop} {ls : Array Slot} {w : bm_W} {rest : List Value} {i : Int}
/-- where the next turn begins -/
def lz_K (D : bm_D) (p : Program) (l : Launch) (e : Env) (s : State) (m : MethodId) (args : Array Value) (below : List Frame) (meth : Method) (c : Code) (a b t n : Nat) (i : Int) (cells slots : Nat) (Q : State → Prop) : Prop :=
  ∀ H1 locs1 ls1 w1 n1 cells1 slots1, bm_HR D s.heap.size w1 H1 → va_S (bm_A s.heap.size) s.heap H1 locs1 → lJ b t n1 w1 → lt_K b t w1 → lv_has ls1 9 (lz_lo a b t i) → cells1 + n1 ≤ cells + n + 420 → slots1 + 3 * n1 ≤ slots + 3 * n + 8100 → W p l e room_1 s m args below meth c H1 locs1 cells1 slots1 Q (F0 m 1361 ls1 [])
theorem lz_vin (xs : Nat → Int32) (i : Int) (k : Nat) : bm_InI (lz_v xs i k) := bm_I_in _
/-- a cell of the script -/
theorem lz_ld {k : Nat} (C : lz_C D p l s m args c a L xs) (hS : va_S (bm_A s.heap.size) s.heap H locs) (h0 : ls[0]? = some (.val (.ref a))) (h5 : ls[5]? = some (.val (.int (Int32.ofInt i)))) (hi : 0 ≤ i) (hL : i.toNat + 6 ≤ L) (hk : k < 6)
    (d1 : decode cL_law pc = .ok (.aload_n 0, 1)) (d2 : decode cL_law (pc + 1) = .ok (.iload 5, 2)) (d3 : decode cL_law (pc + 3) = .ok (.iconst (k : Nat), 1)) (d4 : decode cL_law (pc + 4) = .ok (.iadd, 1)) (d5 : decode cL_law (pc + 5) = .ok (.iaload, 1))
    (kk : W p l e R s m args below meth c H locs cells slots Q (F0 m (pc + 6) ls (.int (Int32.ofInt (lz_v xs i k)) :: rest))) : W p l e R s m args below meth c H locs cells slots Q (F0 m pc ls rest) := by
  obtain ⟨⟨⟨hx, hb, -⟩, -⟩, hscr, hab, hL2⟩ := C
  refine lv_aload_n hx hb d1 rfl h0 ?_
  refine lv_iload hx hb d2 h5 ?_
  refine lv_iconst (v := Int32.ofInt (k : Nat)) hx hb d3 rfl ?_
  refine lv_iadd hx hb d4 ?_
  have e1 : Int32.ofInt i + Int32.ofInt (k : Nat) = Int32.ofInt (i + (k : Nat)) := by rw [Int32.ofInt_add]
  have e2 : (Int32.ofInt (i + (k : Nat))).toNatClampNeg = i.toNat + k := by
    rw [Int32.toNatClampNeg_ofInt_of_le (by omega) (by omega)]
    omega
  rw [e1]
  refine va_sld hx hb (A := bm_A s.heap.size) hscr hab (fun q => by unfold bm_A at q; omega) hS (fun q => ?_) d5 ?_
  · rcases q with q | q
    · have q2 := (bm_ltI (x := i + (k : Nat)) (y := 0) ⟨by omega, by omega⟩ bm_In0).mp q
      omega
    · rw [e2] at q
      omega
  · rw [e2]
    unfold lz_v at kk
    rw [Int32.ofInt_toInt] at kk
    exact kk
theorem lz_i2l {x : Int} (hx : bm_InI x) : (Int32.ofInt x).toInt64 = Int64.ofInt x := by
  rw [← Int64.toInt_inj, Int32.toInt_toInt64, bm_toI hx, bm_toL (by unfold bm_InI at hx; unfold bm_InL; omega)]
theorem lz_cmp0 (x : Int64) : lg_cmp x x = 0 := by
  unfold lg_cmp
  rw [if_neg (by simp only [gt_iff_lt, Int64.lt_iff_toInt_lt]; omega), if_pos rfl]
theorem lz_k0 {k : Int} (h0 : 0 ≤ k) (h2 : k ≤ 2) : Int32.ofInt k = 0 ↔ k = 0 := by
  rcases (show k = 0 ∨ k = 1 ∨ k = 2 by omega) with rfl | rfl | rfl <;> decide
/-- a truth out of a number -/
def lz_z (x : Int) : Int := if x = 0 then 0 else 1
theorem lz_i0 {x : Int} (hx : bm_InI x) : Int32.ofInt x = 0 ↔ x = 0 := by
  constructor
  · intro h
    have h2 := congrArg Int32.toInt h
    rw [bm_toI hx] at h2
    exact h2
  · rintro rfl
    rfl
theorem bm_InSt_nil : bm_InSt [] := fun v h => by cases h
theorem lz_zin (x : Int) : bm_InI (lz_z x) := by
  unfold lz_z
  split
  · exact bm_In0
  · exact bm_In1
theorem lt_thr {k : Int} (hK : lt_K b t w) (h : bm_gi w (t + 122) 0 = k) : bm_Call bm_pg 1301 y_X12_thrown [bm_r (some (t + 122))] w (fun r w' => r = .inl (some (bm_i k)) ∧ w' = w) :=
  vc_X12_thrown (d := 1300) ⟨hK.2.2.2.2.2.2.1, by rw [h], rfl⟩
theorem lt_thB {k : Int} {r : bm_Rt} {w' : bm_W} (q : r = .inl (some (bm_i k)) ∧ w' = w) : bm_Bn w 0 0 w' := by
  obtain ⟨-, rfl⟩ := q
  exact ⟨Nat.le_refl _, Nat.le_refl _⟩
/-- 'x != 0' as an argument -/
theorem lz_nz {x o1 o2 : Int} {t1 t2 : Nat} (hX : lz_X D s.heap.size 1301 p l room_1 s m args c cL_law 9) (hxi : bm_InI x) (d1 : decode cL_law pc = .ok (.ifCond .eq o1, 3)) (h1 : (pc : Int) + o1 = (t1 : Int)) (d2 : decode cL_law (pc + 3) = .ok (.iconst 1, 1)) (d3 : decode cL_law (pc + 3 + 1) = .ok (.goto o2, 3)) (h2 : ((pc + 3 + 1 : Nat) : Int) + o2 = (t2 : Int)) (d4 : decode cL_law t1 = .ok (.iconst 0, 1)) (h3 : t1 + 1 = t2)
    (kk : W p l e room_1 s m args below meth c H locs cells slots Q (F0 m t2 ls (.int (Int32.ofInt (lz_z x)) :: rest))) : W p l e room_1 s m args below meth c H locs cells slots Q (F0 m pc ls (.int (Int32.ofInt x) :: rest)) := by
  have hx := hX.1.1
  have hb := hX.1.2.1
  refine lv_if_eq (tgt := t1) hx hb d1 h1 (fun hz => ?_) (fun hz => ?_)
  · have e : lz_z x = 0 := if_pos ((lz_i0 hxi).mp hz)
    rw [e] at kk
    subst h3
    exact lv_iconst (v := Int32.ofInt 0) hx hb d4 rfl kk
  · have e : lz_z x = 1 := if_neg (fun y => hz ((lz_i0 hxi).mpr y))
    rw [e] at kk
    refine lv_iconst (v := Int32.ofInt 1) hx hb d2 rfl ?_
    exact lv_goto (tgt := t2) hx hb d3 h2 kk
theorem q_and31 (x : Int32) : 0 ≤ (x &&& 31).toInt ∧ (x &&& 31).toInt ≤ 31 := by
  have h : (x &&& 31).toBitVec.toNat ≤ 31 := by
    show (x.toBitVec &&& (31 : Int32).toBitVec).toNat ≤ 31
    rw [BitVec.toNat_and]
    exact Nat.le_trans Nat.and_le_right (by decide)
  have e : (x &&& 31).toInt = ((x &&& 31).toBitVec.toNat : Int) := BitVec.toInt_eq_toNat_of_lt (by omega)
  rw [e]
  omega
end LV2

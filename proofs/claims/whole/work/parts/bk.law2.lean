/-! ===== the law's own code: what it reads, writes and makes ===== -/
section LY
variable {D : bm_D} {b0 d nL pc o : Nat} {p : Program} {l : Launch} {e : Env} {R : Room} {s : State} {m : MethodId} {args : Array Value} {below : List Frame} {meth : Method} {c : Code} {H : Heap} {locs : List Loc} {cells slots : Nat} {Q : State → Prop} {cc : ByteArray} {ls : Array Slot} {w : bm_W} {rest : List Value}
theorem bm_arr27 (hH : bm_HR D b0 w H) (ha : bm_kt w o = 27) : H[o]? = some (arrV (D.2.1 27) (bm_kn w o) (fun j => bm_fv (bm_ec 27) w o j)) ∧ b0 ≤ o := by
  have h3 := hH.2.2.2.1 o (by rw [ha]; omega)
  refine ⟨?_, h3.1⟩
  have h4 := h3.2.2
  rw [ha] at h4
  unfold bm_cell at h4
  rw [if_neg (by omega)] at h4
  exact h4
theorem bm_in0 {n : Nat} (h : n = 1) : bm_in 0 n := ⟨by omega, by omega⟩
theorem lz_last {x : Int} (hX : lz_X D b0 d p l R s m args c cc nL) (hk : bm_kt w o = 22) (hn : bm_kn w o = 1) (hx : bm_InL x) (hdg : decode cc pc = .ok (.lastore, 1)) (hH : bm_HR D b0 w H) (hS : va_S (bm_A b0) s.heap H locs)
    (kk : ∀ H1 locs1, bm_HR D b0 (bm_sq w o 0 x) H1 → va_S (bm_A b0) s.heap H1 locs1 → W p l e R s m args below meth c H1 locs1 cells slots Q (F0 m (pc + 1) ls rest)) :
    W p l e R s m args below meth c H locs cells slots Q (F0 m pc ls (.long (Int64.ofInt x) :: .int (Int32.ofInt 0) :: .ref o :: rest)) := by
  obtain ⟨q1, q2, q3⟩ := bm_ix bm_In0 (bm_in0 hn)
  obtain ⟨e1, hba⟩ := bm_arr hH hk (by omega) (by omega)
  have hA := (hX.2.1.2 _ _ (bm_tys_at D (t := 22) (by omega) (by omega))).1 (bm_kn w o) (fun j => bm_fv (bm_ec 22) w o j)
  refine W.last hX.1.1 hX.1.2.1 e1 hA (fun q => by cases q) (by rw [arrV_size]; exact q1) rfl rfl hdg fun H1 e z oq => ?_
  refine kk H1 _ (hH.put (a := o) (bm_sq_kt w o 0 x) (bm_sq_kn w o 0 x) (bm_sq_sz w o 0 x) (bm_range_sq hH.2.1 hx) ?_ z oq (fun b hb2 k => ⟨rfl, by rw [bm_sq_gl, if_neg (fun q => hb2 q.1)], rfl⟩)) (hS.put z oq hba)
  rw [hk]
  unfold bm_cell
  rw [if_neg (by omega), e, q2, arrV_store]
  congr 2
  funext j
  unfold updV
  by_cases hj : j = (0 : Int).toNat
  · rw [if_pos hj, hj]
    show _ = Value.long _
    rw [bm_sq_gl, if_pos ⟨rfl, rfl⟩]
  · rw [if_neg hj]
    show Value.long _ = Value.long _
    rw [bm_sq_gl, if_neg (fun q => hj q.2)]
theorem lz_lald (hX : lz_X D b0 d p l R s m args c cc nL) (hk : bm_kt w o = 22) (hn : bm_kn w o = 1) (hdg : decode cc pc = .ok (.laload, 1)) (hH : bm_HR D b0 w H)
    (kk : W p l e R s m args below meth c H locs cells slots Q (F0 m (pc + 1) ls (.long (Int64.ofInt (bm_gl w o 0)) :: rest))) :
    W p l e R s m args below meth c H locs cells slots Q (F0 m pc ls (.int (Int32.ofInt 0) :: .ref o :: rest)) := by
  obtain ⟨q1, q2, q3⟩ := bm_ix bm_In0 (bm_in0 hn)
  obtain ⟨e1, -⟩ := bm_arr hH hk (by omega) (by omega)
  have hA := (hX.2.1.2 _ _ (bm_tys_at D (t := 22) (by omega) (by omega))).1 (bm_kn w o) (fun j => bm_fv (bm_ec 22) w o j)
  exact W.lald (v := .long (Int64.ofInt (bm_gl w o 0))) hX.1.1 hX.1.2.1 e1 hA (fun q => by cases q) (by rw [arrV_size]; exact q1) (by rw [q2, arrV_read _ _ q3]; rfl) rfl rfl hdg kk
theorem lz_u64 (u : UInt64) : (Int64.ofInt u.toInt64.toInt).toUInt64 = u := by
  rw [Int64.ofInt_toInt]
  rfl
theorem lz_dast {u : UInt64} (hX : lz_X D b0 d p l R s m args c cc nL) (hk : bm_kt w o = 27) (hn : bm_kn w o = 1) (hdg : decode cc pc = .ok (.dastore, 1)) (hH : bm_HR D b0 w H) (hS : va_S (bm_A b0) s.heap H locs)
    (kk : ∀ H1 locs1, bm_HR D b0 (bm_sq w o 0 u.toInt64.toInt) H1 → va_S (bm_A b0) s.heap H1 locs1 → W p l e R s m args below meth c H1 locs1 cells slots Q (F0 m (pc + 1) ls rest)) :
    W p l e R s m args below meth c H locs cells slots Q (F0 m pc ls (.double u :: .int (Int32.ofInt 0) :: .ref o :: rest)) := by
  obtain ⟨q1, q2, q3⟩ := bm_ix bm_In0 (bm_in0 hn)
  obtain ⟨e1, hba⟩ := bm_arr27 hH hk
  have hA := (hX.2.1.2 7 (D.2.1 27, .double) rfl).1 (bm_kn w o) (fun j => bm_fv (bm_ec 27) w o j)
  refine W.dast hX.1.1 hX.1.2.1 e1 hA (fun q => by cases q) (by rw [arrV_size]; exact q1) rfl rfl hdg fun H1 e z oq => ?_
  refine kk H1 _ (hH.put (a := o) (bm_sq_kt w o 0 u.toInt64.toInt) (bm_sq_kn w o 0 u.toInt64.toInt) (bm_sq_sz w o 0 u.toInt64.toInt) (bm_range_sq hH.2.1 (bm_L_in _)) ?_ z oq (fun b hb2 k => ⟨rfl, by rw [bm_sq_gl, if_neg (fun q => hb2 q.1)], rfl⟩)) (hS.put z oq hba)
  rw [hk]
  unfold bm_cell
  rw [if_neg (by omega), e, q2, arrV_store]
  congr 2
  funext j
  unfold updV
  by_cases hj : j = (0 : Int).toNat
  · rw [if_pos hj, hj]
    show Value.double u = Value.double _
    rw [bm_sq_gl, if_pos ⟨rfl, rfl⟩, lz_u64]
  · rw [if_neg hj]
    show Value.double _ = Value.double _
    rw [bm_sq_gl, if_neg (fun q => hj q.2)]
theorem lz_dald {u : UInt64} (hX : lz_X D b0 d p l R s m args c cc nL) (hk : bm_kt w o = 27) (hn : bm_kn w o = 1) (hu : bm_gl w o 0 = u.toInt64.toInt) (hdg : decode cc pc = .ok (.daload, 1)) (hH : bm_HR D b0 w H)
    (kk : W p l e R s m args below meth c H locs cells slots Q (F0 m (pc + 1) ls (.double u :: rest))) :
    W p l e R s m args below meth c H locs cells slots Q (F0 m pc ls (.int (Int32.ofInt 0) :: .ref o :: rest)) := by
  obtain ⟨q1, q2, q3⟩ := bm_ix bm_In0 (bm_in0 hn)
  obtain ⟨e1, -⟩ := bm_arr27 hH hk
  have hA := (hX.2.1.2 7 (D.2.1 27, .double) rfl).1 (bm_kn w o) (fun j => bm_fv (bm_ec 27) w o j)
  exact W.dald (v := .double u) hX.1.1 hX.1.2.1 e1 hA (fun q => by cases q) (by rw [arrV_size]; exact q1) (by
    rw [q2, arrV_read _ _ q3]
    show some (Value.double (Int64.ofInt (bm_gl w o 0)).toUInt64) = _
    rw [hu, lz_u64]) rfl rfl hdg kk
theorem lz_new {t N index : Nat} {C : String} {T : u_T} (hX : lz_X D b0 d p l R s m args c cc nL) (hdg : decode cc pc = .ok (.new index, 3)) (hC : bm_Cl t C T N) (hcl : Cond.classLink RL index C ∈ bm_ALL) (hins : Cond.instantiable C N ∈ bm_ALL) (hini : Cond.initialized C ∈ bm_ALL) (hty : ∀ k, k < N → bm_ty t k = .int ∨ bm_ty t k = .boolean ∨ bm_ty t k = .long ∨ bm_fc (bm_ty t k) = 2) (hH : bm_HR D b0 w H) (hS : va_S (bm_A b0) s.heap H locs) (hf : cells + 1 ≤ R.cells ∧ slots + N ≤ R.slots)
    (kk : ∀ H1, bm_HR D b0 (bm_nw w t 0 N) H1 → va_S (bm_A b0) s.heap H1 locs → W p l e R s m args below meth c H1 locs (cells + 1) (slots + N) Q (F0 m (pc + 3) ls (.ref (bm_sz w) :: rest))) :
    W p l e R s m args below meth c H locs cells slots Q (F0 m pc ls rest) := by
  obtain ⟨⟨hx, hb, -, hown, hts⟩, hK, -, -, hb0, -⟩ := hX
  obtain ⟨ht13, hc, hin, htyd, hnm⟩ := hC
  have hKn := hK.1 t _ hc
  refine W.newcK hx hb hown (hts _ hcl) (hts _ hins) (hts _ hini) rfl hdg hf.1 hf.2 hKn.2.1 rfl fun H1 kC hkC e1 z1 o1 => ?_
  rw [hH.1] at e1
  have e9 := kk H1 (hH.push (t := t) (by rw [← hH.1]; exact Nat.le_trans hb0 hS.1) rfl z1 o1 (fun b hb2 => ⟨by rw [bm_nw_kt, if_neg hb2], by rw [bm_nw_kn, if_neg hb2], fun k => ⟨by rw [bm_nw_gi, if_neg hb2], by rw [bm_nw_gl, if_neg hb2], by rw [bm_nw_gr, if_neg hb2]⟩⟩)
    (by rw [bm_nw_kt, if_pos rfl]) (by rw [bm_nw_kn, if_pos rfl]; omega) (fun k => ⟨by rw [bm_nw_gi, if_pos rfl]; exact bm_In0, by rw [bm_nw_gl, if_pos rfl]; exact bm_InL0⟩) (by
      unfold bm_cell
      rw [if_pos ht13]
      exact ⟨_, hc, (u_born (bm_ty t) hts hin hKn hkC e1 htyd).to (fun k hk => bm_dflt (hty k hk))⟩)) (bm_va_push hS z1 o1)
  rw [hH.1]
  exact e9
theorem lz_newaL (hX : lz_X D b0 d p l R s m args c cc nL) (hdg : decode cc pc = .ok (.newarray .long, 2)) (harr : Cond.arrayClass .long ∈ bm_ALL) (hH : bm_HR D b0 w H) (hS : va_S (bm_A b0) s.heap H locs) (hf : cells + 1 ≤ R.cells ∧ slots + 1 ≤ R.slots)
    (kk : ∀ H1, bm_HR D b0 (bm_nw w 22 1 1) H1 → va_S (bm_A b0) s.heap H1 locs → W p l e R s m args below meth c H1 locs (cells + 1) (slots + 1) Q (F0 m (pc + 2) ls (.ref (bm_sz w) :: rest))) :
    W p l e R s m args below meth c H locs cells slots Q (F0 m pc ls (.int (Int32.ofInt 1) :: rest)) := by
  obtain ⟨⟨hx, hb, -, hown, hts⟩, hK, -, -, hb0, -⟩ := hX
  obtain ⟨hA, hRA⟩ := hK.2 _ _ (bm_tys_at D (t := 22) (by omega) (by omega))
  refine va_newaK (h := bm_sz w) hx hb (atype := .long) (hts _ harr) rfl hdg rfl (by decide) (N := 1) (by decide) (by decide) hf.1 hf.2 hH.1 fun H1 cA e1 z1 o1 hAr hNm => ?_
  have hcA : cA = D.2.1 22 := Option.some.inj (hNm.symm.trans hRA)
  rw [← hH.1] at z1 o1
  exact kk H1 (hH.push (t := 22) (by rw [← hH.1]; exact Nat.le_trans hb0 hS.1) rfl z1 o1 (fun b hb2 => ⟨by rw [bm_nw_kt, if_neg hb2], by rw [bm_nw_kn, if_neg hb2], fun k => ⟨by rw [bm_nw_gi, if_neg hb2], by rw [bm_nw_gl, if_neg hb2], by rw [bm_nw_gr, if_neg hb2]⟩⟩)
    (by rw [bm_nw_kt, if_pos rfl]) (by rw [bm_nw_kn, if_pos rfl]; omega) (fun k => ⟨by rw [bm_nw_gi, if_pos rfl]; exact bm_In0, by rw [bm_nw_gl, if_pos rfl]; exact bm_InL0⟩) (by
      unfold bm_cell
      rw [if_neg (by omega), e1, hcA, bm_nw_kn, if_pos rfl]
      congr 2
      funext j
      exact bm_dflt (ty := .long) (by decide))) (bm_va_push hS z1 o1)
theorem lz_newaD (hX : lz_X D b0 d p l R s m args c cc nL) (hdg : decode cc pc = .ok (.newarray .double, 2)) (harr : Cond.arrayClass .double ∈ bm_ALL) (hH : bm_HR D b0 w H) (hS : va_S (bm_A b0) s.heap H locs) (hf : cells + 1 ≤ R.cells ∧ slots + 1 ≤ R.slots)
    (kk : ∀ H1, bm_HR D b0 (bm_nw w 27 1 1) H1 → va_S (bm_A b0) s.heap H1 locs → W p l e R s m args below meth c H1 locs (cells + 1) (slots + 1) Q (F0 m (pc + 2) ls (.ref (bm_sz w) :: rest))) :
    W p l e R s m args below meth c H locs cells slots Q (F0 m pc ls (.int (Int32.ofInt 1) :: rest)) := by
  obtain ⟨⟨hx, hb, -, hown, hts⟩, hK, -, -, hb0, -⟩ := hX
  obtain ⟨hA, hRA⟩ := hK.2 7 (D.2.1 27, .double) rfl
  refine va_newaK (h := bm_sz w) hx hb (atype := .double) (hts _ harr) rfl hdg rfl (by decide) (N := 1) (by decide) (by decide) hf.1 hf.2 hH.1 fun H1 cA e1 z1 o1 hAr hNm => ?_
  have hcA : cA = D.2.1 27 := Option.some.inj (hNm.symm.trans hRA)
  rw [← hH.1] at z1 o1
  exact kk H1 (hH.push (t := 27) (by rw [← hH.1]; exact Nat.le_trans hb0 hS.1) rfl z1 o1 (fun b hb2 => ⟨by rw [bm_nw_kt, if_neg hb2], by rw [bm_nw_kn, if_neg hb2], fun k => ⟨by rw [bm_nw_gi, if_neg hb2], by rw [bm_nw_gl, if_neg hb2], by rw [bm_nw_gr, if_neg hb2]⟩⟩)
    (by rw [bm_nw_kt, if_pos rfl]) (by rw [bm_nw_kn, if_pos rfl]; omega) (fun k => ⟨by rw [bm_nw_gi, if_pos rfl]; exact bm_In0, by rw [bm_nw_gl, if_pos rfl]; exact bm_InL0⟩) (by
      unfold bm_cell
      rw [if_neg (by omega), e1, hcA, bm_nw_kn, if_pos rfl]
      congr 2
      funext j
      show defaultValue .double = Value.double (Int64.ofInt (bm_gl (bm_nw w 27 1 1) (bm_sz w) j)).toUInt64
      rw [bm_nw_gl, if_pos rfl]
      rfl)) (bm_va_push hS z1 o1)
end LY

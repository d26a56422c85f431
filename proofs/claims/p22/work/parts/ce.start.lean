/-! ===== what the Statement gives of the start (laid by gen_start.py) ===== -/
/-- the words of the start -/
def st_fl : List Cond := flatC (Jvm.Cond.and given_1 narrow_1)
def st_ix : List Nat := [19, 44, 46, 48, 50, 52, 54, 56, 58, 60, 62, 64, 66, 76, 78, 80, 82, 84, 86, 88]
/-- the texts -/
def st_tm (i : Nat) : Term := .string "CaseTablesLaw" (st_ix.getD i 0)
def st_len (i : Nat) : Nat := bm_KK.1.2.1.getD i 0
def st_by (i j : Nat) : Int32 := (bm_KK.1.2.2.getD i []).getD j 0
set_option maxRecDepth 100000 in
theorem st_w1 : ∀ i, i < 20 → Cond.exactly (st_tm i) "java/lang/String" ∈ st_fl := by decide +kernel
set_option maxRecDepth 100000 in
theorem st_w2 : ∀ i, i < 20 → Cond.eq (.field (st_tm i) "java/lang/String" "coder" "B") (.int 0) ∈ st_fl := by decide +kernel
set_option maxRecDepth 100000 in
theorem st_w3 : ∀ i, i < 20 → Cond.arrayOf (.field (st_tm i) "java/lang/String" "value" "[B") .byte ∈ st_fl := by decide +kernel
set_option maxRecDepth 100000 in
theorem st_w4 : ∀ i, i < 20 → Cond.eq (.length (.field (st_tm i) "java/lang/String" "value" "[B")) (.int (Int32.ofNat (st_len i))) ∈ st_fl := by decide +kernel
set_option maxRecDepth 100000 in
theorem st_w5 : ∀ i, i < 20 → ∀ j, j < st_len i → Cond.eq (.elem (.field (st_tm i) "java/lang/String" "value" "[B") (.int (Int32.ofNat j))) (.int (st_by i j)) ∈ st_fl := by decide +kernel
/-- the texts are apart -/
theorem st_ap : ∀ i, i < 20 → ∀ j, j < 20 → i ≠ j → st_len i ≠ st_len j ∨ ∃ k, k < st_len i ∧ st_by i k ≠ st_by j k := by decide +kernel
theorem st_sm : ∀ i, i < 20 → st_len i < 100 := by decide +kernel
def st_k0 : Term := .static "CaseTables" "KEYWORDS" "[J"
def st_l0 : List Int64 := bm_KK.2.2.2.1
set_option maxRecDepth 100000 in
theorem st_v0 : (Cond.arrayOf st_k0 .long ∈ st_fl ∧ Cond.eq (.length st_k0) (.int (Int32.ofNat 12)) ∈ st_fl) ∧ ∀ j, j < 12 → Cond.eq (.elem st_k0 (.int (Int32.ofNat j))) (.long (st_l0.getD j 0)) ∈ st_fl := by decide +kernel
set_option maxRecDepth 100000 in
theorem st_v3 : Cond.eq (.static "java/lang/String" "COMPACT_STRINGS" "Z") (.int 1) ∈ st_fl ∧ Cond.isRef (.static "jdk/internal/util/Preconditions" "SIOOBE_FORMATTER" "Ljava/util/function/BiFunction;") ∈ st_fl ∧ Cond.isRef (.static "java/lang/Throwable" "UNASSIGNED_STACK" "[Ljava/lang/StackTraceElement;") ∈ st_fl ∧ Cond.isRef (.static "java/lang/Throwable" "SUPPRESSED_SENTINEL" "Ljava/util/List;") ∈ st_fl := by decide +kernel
def st_qs : List (String × Nat × String × Nat) := bm_KK.2.1
set_option maxRecDepth 100000 in
theorem st_q : ∀ i, i < 20 → (st_qs.getD i ("", 0, "", 0)).1 = "CaseTablesLaw" ∧ (st_qs.getD i ("", 0, "", 0)).2.1 = st_ix.getD i 0 ∧ (st_qs.getD i ("", 0, "", 0)).2.2.2 = i ∧ Cond.stringRef (st_qs.getD i ("", 0, "", 0)).1 (st_qs.getD i ("", 0, "", 0)).2.1 (st_qs.getD i ("", 0, "", 0)).2.2.1 ∈ lw_tbl := by decide +kernel
section ST
variable {args : Array Value} {s : State}
theorem st_eqr {t u : Term} {a : Nat} (h : (Cond.eq t u).before args s = true) (hu : u.eval args s none [] s = some (.ref a)) : t.eval args s none [] s = some (.ref a) := by
  cases hv : t.eval args s none [] s with
  | none => simp [Cond.before, Cond.holds, Cond.value, hv] at h
  | some w =>
    simp only [Cond.before, Cond.holds, Cond.value, hv, hu] at h
    cases w <;> simp_all
theorem st_arrP {ty : FieldType} (h : (Cond.arrayClass ty).before args s = true) : ∃ cA, ArrOfT s cA ty ∧ s.vm.findClass ("[" ++ ty.toString) = some cA := by
  obtain ⟨c, k, comp, h1, h2, h3⟩ := Cond.arrayClass_spec (args := args) (first := s) (o := none) (s := s) (idx := []) h
  exact ⟨c, fun n z => ⟨fun k h => (by cases h), k, h2, comp, h3⟩, h1⟩
theorem st_arrO {C : String} (h : (Cond.arrayOver (.object C)).before args s = true) : ∃ cA, ArrOfT s cA (.object C) ∧ va_RA s cA (.object C) := by
  obtain ⟨comp, c, k, h1, h2, h3, h4, h5⟩ := Cond.arrayOver_spec (args := args) (first := s) (o := none) (s := s) (idx := []) h
  exact ⟨c, fun n z => ⟨fun k h => (by cases h), k, h3, comp, h4⟩, k, comp, h3, h4, h1, h5⟩
theorem st_K (hts : ∀ w ∈ bm_ALL, w.before args s = true) : ∃ (dC : Nat → ClassId) (dI : Nat → Nat → Nat), ∀ (c : Nat) (q : vw_C), vwCl[c]? = some q → u_Kn s q.1 q.2.1 q.2.2 (dC c) (dI c) := by
  have h : ∀ c : Nat, ∃ x : ClassId × (Nat → Nat), ∀ q : vw_C, vwCl[c]? = some q → u_Kn s q.1 q.2.1 q.2.2 x.1 x.2 := by
    intro c
    match c with
    | 0 =>
      obtain ⟨a, b, h⟩ := u_known hts bm_cl_0.2.2.1 (hts _ wA_315)
      exact ⟨(a, b), fun q hq => by cases hq; exact h⟩
    | 1 =>
      obtain ⟨a, b, h⟩ := u_known hts bm_cl_1.2.2.1 (hts _ wA_148)
      exact ⟨(a, b), fun q hq => by cases hq; exact h⟩
    | 2 =>
      obtain ⟨a, b, h⟩ := u_known hts bm_cl_2.2.2.1 (hts _ wA_348)
      exact ⟨(a, b), fun q hq => by cases hq; exact h⟩
    | 3 =>
      obtain ⟨a, b, h⟩ := u_known hts bm_cl_3.2.2.1 (hts _ wA_139)
      exact ⟨(a, b), fun q hq => by cases hq; exact h⟩
    | 4 =>
      obtain ⟨a, b, h⟩ := u_known hts bm_cl_4.2.2.1 (hts _ wA_154)
      exact ⟨(a, b), fun q hq => by cases hq; exact h⟩
    | 5 =>
      obtain ⟨a, b, h⟩ := u_known hts bm_cl_5.2.2.1 (hts _ wA_217)
      exact ⟨(a, b), fun q hq => by cases hq; exact h⟩
    | 6 =>
      obtain ⟨a, b, h⟩ := u_known hts bm_cl_6.2.2.1 (hts _ wA_376)
      exact ⟨(a, b), fun q hq => by cases hq; exact h⟩
    | 7 =>
      obtain ⟨a, b, h⟩ := u_known hts bm_cl_7.2.2.1 (hts _ wA_210)
      exact ⟨(a, b), fun q hq => by cases hq; exact h⟩
    | 8 =>
      obtain ⟨a, b, h⟩ := u_known hts bm_cl_8.2.2.1 (hts _ wA_81)
      exact ⟨(a, b), fun q hq => by cases hq; exact h⟩
    | 9 =>
      obtain ⟨a, b, h⟩ := u_known hts bm_cl_9.2.2.1 (hts _ wA_95)
      exact ⟨(a, b), fun q hq => by cases hq; exact h⟩
    | 10 =>
      obtain ⟨a, b, h⟩ := u_known hts bm_cl_10.2.2.1 (hts _ wA_392)
      exact ⟨(a, b), fun q hq => by cases hq; exact h⟩
    | 11 =>
      obtain ⟨a, b, h⟩ := u_known hts bm_cl_11.2.2.1 (hts _ wA_73)
      exact ⟨(a, b), fun q hq => by cases hq; exact h⟩
    | n + 12 =>
      obtain ⟨a, b, h⟩ := u_known hts bm_cl_0.2.2.1 (hts _ wA_315)
      exact ⟨(a, b), fun q hq => by simp at hq⟩
  obtain ⟨f, hf⟩ := Classical.axiomOfChoice h
  exact ⟨fun c => (f c).1, fun c => (f c).2, hf⟩
theorem st_tys (hts : ∀ w ∈ bm_ALL, w.before args s = true) (hall : ∀ w ∈ lw_tbl, w.before args s = true) : ∃ f : Nat → ClassId, ∀ G : va_G, ∀ ad : Nat → Nat → Nat, ∀ (k : Nat) (q : ClassId × FieldType), (bm_tys (G, f, ad))[k]? = some q → ArrOfT s q.1 q.2 ∧ va_RA s q.1 q.2 := by
  obtain ⟨c20, x20, y20⟩ := st_arrP (ty := .byte) (hts _ wA_93)
  obtain ⟨c21, x21, y21⟩ := st_arrP (ty := .int) (hts _ wA_136)
  obtain ⟨c22, x22, y22⟩ := st_arrP (ty := .long) (hts _ wA_137)
  obtain ⟨c23, x23, y23⟩ := st_arrP (ty := .boolean) (hts _ wA_285)
  obtain ⟨c24, x24, y24⟩ := st_arrO (C := "CaseTables$Fun") (hall _ (show Jvm.Cond.arrayOver (Jvm.ClassFile.FieldType.object "CaseTables$Fun") ∈ lw_tbl from (bm_ch1 (List.mem_of_getElem? (i := 98) (by decide +kernel)))))
  obtain ⟨c25, x25, y25⟩ := st_arrO (C := "CaseTables$Row") (hall _ (show Jvm.Cond.arrayOver (Jvm.ClassFile.FieldType.object "CaseTables$Row") ∈ lw_tbl from (bm_ch1 (List.mem_of_getElem? (i := 169) (by decide +kernel)))))
  obtain ⟨c26, x26, y26⟩ := st_arrO (C := "CaseTables$Table") (hall _ (show Jvm.Cond.arrayOver (Jvm.ClassFile.FieldType.object "CaseTables$Table") ∈ lw_tbl from (bm_ch1 (List.mem_of_getElem? (i := 100) (by decide +kernel)))))
  obtain ⟨c27, x27, y27⟩ := st_arrO (C := "java/lang/String") (hall _ (show Jvm.Cond.arrayOver (Jvm.ClassFile.FieldType.object "java/lang/String") ∈ lw_tbl from (bm_ch5 (List.mem_of_getElem? (i := 206) (by decide +kernel)))))
  refine ⟨fun t => match t with | 20 => c20 | 21 => c21 | 22 => c22 | 23 => c23 | 24 => c24 | 25 => c25 | 26 => c26 | _ => c27, fun G ad k q hq => ?_⟩
  match k, hq with
  | 0, hq => cases hq; exact ⟨x20, y20⟩
  | 1, hq => cases hq; exact ⟨x21, y21⟩
  | 2, hq => cases hq; exact ⟨x22, y22⟩
  | 3, hq => cases hq; exact ⟨x23, y23⟩
  | 4, hq => cases hq; exact ⟨x24, y24⟩
  | 5, hq => cases hq; exact ⟨x25, y25⟩
  | 6, hq => cases hq; exact ⟨x26, y26⟩
  | 7, hq => cases hq; exact ⟨x27, y27⟩
  | n + 8, hq => simp [bm_tys] at hq
theorem st_nw (hall : ∀ w ∈ lw_tbl, w.before args s = true) : ∀ w ∈ bm_NW, va_Nw w s := by
  intro w hw
  obtain ⟨h1, h2⟩ := List.mem_filter.mp hw
  have h3 := hall w h1
  cases w with
  | fieldLinkNest => exact va_Nw.of rfl h3
  | methodLinkNest => exact va_Nw.of rfl h3
  | castable => exact va_Nw.of rfl h3
  | declares => exact va_Nw.of rfl h3
  | arrayOver t => cases t with
    | object C => exact h3
    | _ => exact absurd h2 (by simp [bm_nwk])
  | _ => exact absurd h2 (by simp [bm_nwk])
/-- the texts -/
theorem st_S (hfl : ∀ w ∈ st_fl, w.before args s = true) : ∃ adK adV : Nat → Nat, vk_S bm_KK.1.1 bm_KK.1.2.1 bm_KK.1.2.2 adK adV (bm_A s.heap.size) s s.heap ∧ ∀ i : Nat, i < 20 → (st_tm i).eval args s none [] s = some (.ref (adK i)) := by
  have hA : ∀ a : Nat, a < s.heap.size → ¬ bm_A s.heap.size a := fun a h q => by unfold bm_A at q; omega
  have h0 : ∀ i : Nat, ∃ q : Nat × Nat, i < 20 → (st_tm i).eval args s none [] s = some (.ref q.1) ∧ va_O "java/lang/String" q.1 (bm_A s.heap.size) s s.heap ∧ va_OF "java/lang/String" "coder" "B" (.int 0) q.1 (bm_A s.heap.size) s s.heap ∧ va_OF "java/lang/String" "value" "[B" (.ref q.2) q.1 (bm_A s.heap.size) s s.heap ∧ va_T .byte q.2 (st_len i) (fun j => .int (st_by i j)) (bm_A s.heap.size) s s.heap := by
    intro i
    by_cases hi : i < 20
    · obtain ⟨a, c, cA, kA, q1, q2, q3, q4, q5, q6, -⟩ := Cond.exactly_spec (args := args) (first := s) (o := none) (s := s) (idx := []) (t := st_tm i) (cls := "java/lang/String") (hfl _ (st_w1 i hi))
      have hs := st_sm i hi
      obtain ⟨t, ht, hT⟩ := va_Tof (f := fun j => .int (st_by i j)) (A := bm_A s.heap.size) (show st_len i < 2 ^ 31 by omega) (hfl _ (st_w3 i hi)) (va_eqt (hfl _ (st_w4 i hi))) (fun j hj => va_eqt (hfl _ (st_w5 i hi j hj))) hA
      exact ⟨(a, t), fun _ => ⟨q1, ⟨cA, q3, q5, by rw [q6]; exact q2, hA a (Array.getElem?_eq_some_iff.mp q3).1⟩, vk_OFof q1 (va_eqt (hfl _ (st_w2 i hi))) hA, vk_OFof q1 ht hA, hT⟩⟩
    · exact ⟨(0, 0), fun h => absurd h hi⟩
  obtain ⟨ad, had⟩ := Classical.axiomOfChoice h0
  refine ⟨fun i => (ad i).1, fun i => (ad i).2, ⟨fun i hi => (had i hi).2, fun i j hi hj e => ?_⟩, fun i hi => (had i hi).1⟩
  refine Classical.byContradiction (fun hij => ?_)
  have hi : i < 20 := hi
  have hj : j < 20 := hj
  obtain ⟨-, -, -, ⟨cf, kf, fi, f, cell, u1, u2, u3, u4, u5, -⟩, ti⟩ := had i hi
  obtain ⟨-, -, -, ⟨cf', kf', fi', f', cell', v1, v2, v3, v4, v5, -⟩, tj⟩ := had j hj
  cases u1.symm.trans v1
  rw [show (ad i).1 = (ad j).1 from e] at u3
  cases u3.symm.trans v3
  have e2 := Value.ref.inj (Option.some.inj (u5.symm.trans v5))
  rw [e2] at ti
  obtain ⟨c1, a1, a2, a3, a4, a5, a6, -⟩ := ti
  obtain ⟨c2, b1, b2, b3, b4, b5, b6, -⟩ := tj
  cases a1.symm.trans b1
  have si := st_sm i hi
  have sj := st_sm j hj
  have el : st_len i = st_len j := by
    have e3 := a5.symm.trans b5
    have e4 := congrArg Int32.toInt e3
    rw [← Int32.ofInt_eq_ofNat, ← Int32.ofInt_eq_ofNat, bm_toI ⟨by omega, by omega⟩, bm_toI ⟨by omega, by omega⟩] at e4
    omega
  rcases st_ap i hi j hj hij with z | ⟨k, hk, z⟩
  · exact z el
  · have x1 := a6 k hk
    have x2 := b6 k (by omega)
    exact z (Value.int.inj (Option.some.inj (x1.symm.trans x2)))
theorem st_o32 (x : Int32) : Int32.ofNat x.toBitVec.toNat = x := by
  rw [← Int32.toBitVec_inj]
  show BitVec.ofNat 32 x.toBitVec.toNat = x.toBitVec
  exact BitVec.eq_of_toNat_eq (by rw [BitVec.toNat_ofNat, Nat.mod_eq_of_lt x.toBitVec.isLt])
theorem st_ST {b L : Nat} {xs : Nat → Int32} (hall : ∀ w ∈ lw_tbl, w.before args s = true) (hfl : ∀ w ∈ st_fl, w.before args s = true) (hX : va_X b L xs s s.heap) (hb : b < s.heap.size) : ∃ ad : Nat → Nat → Nat, (ad 4 0 = b ∧ ad 5 0 = L ∧ ∀ k, Int32.ofNat (ad 6 k) = xs k) ∧ ∀ (G : va_G) (f : Nat → ClassId), bm_ST bm_KK (G, f, ad) s.heap.size s s.heap := by
  have hA : ∀ a : Nat, a < s.heap.size → ¬ bm_A s.heap.size a := fun a h q => by unfold bm_A at q; omega
  obtain ⟨adK, adV, hS, hev⟩ := st_S hfl
  obtain ⟨t0, e0, T0⟩ := va_Tof (tm := st_k0) (ty := .long) (N := 12) (f := fun j => .long (st_l0.getD j 0)) (A := bm_A s.heap.size) (by decide) (hfl _ st_v0.1.1) (va_eqt (hfl _ st_v0.1.2)) (fun j hj => va_eqtl (hfl _ (st_v0.2 j hj))) hA
  obtain ⟨scr, x1, x2, x3, x4, x5⟩ := hX

  have hz : ∃ z : Nat, va_Z "jdk/internal/util/Preconditions" "SIOOBE_FORMATTER" "Ljava/util/function/BiFunction;" (va_rf (bif Nat.beq z 0 then none else some (z - 1))) (bm_A s.heap.size) s s.heap := by
    rcases va_Zqof (hall _ (show Jvm.Cond.laysStatic "jdk/internal/util/Preconditions" "SIOOBE_FORMATTER" "Ljava/util/function/BiFunction;" ∈ lw_tbl from (bm_ch5 (List.mem_of_getElem? (i := 140) (by decide +kernel))))) (hall _ (show Jvm.Cond.initialized "jdk/internal/util/Preconditions" ∈ lw_tbl from (bm_ch1 (List.mem_of_getElem? (i := 15) (by decide +kernel))))) (hfl _ st_v3.2.1) hA with h | ⟨t, h⟩
    · exact ⟨0, h⟩
    · exact ⟨t + 1, h⟩
  obtain ⟨z, hz⟩ := hz
  refine ⟨fun k i => match k with | 0 => adK i | 1 => adV i | 2 => t0 | 4 => b | 5 => L | 6 => (xs i).toBitVec.toNat | _ => z, ⟨rfl, rfl, fun k => st_o32 (xs k)⟩, fun G f => ⟨hS, ?_, ?_, T0, ⟨scr, x1, x2, x3, Nat.le_of_eq x4.symm, by show scr.slots.size.toInt32 = Int32.ofNat L; rw [x4], fun j hj => ?_, hA b hb⟩, trivial, ?_, ?_, st_nw hall⟩⟩
  · intro q hq
    have hq : q ∈ st_qs := hq
    obtain ⟨i, hi, e⟩ := List.getElem_of_mem hq
    have hi2 : i < 20 := hi
    have h := st_q i hi2
    have e2 : st_qs.getD i ("", 0, "", 0) = q := by rw [List.getD_eq_getElem?_getD, List.getElem?_eq_getElem hi, e]; rfl
    rw [e2] at h
    obtain ⟨h1, h2, h3, h4⟩ := h
    have h5 := hev i hi2
    unfold st_tm at h5
    rw [← h2, ← h1] at h5
    exact vk_R.of (hall _ h4) (by rw [h3]; exact h5)
  · intro q hq
    simp only [bm_KK, List.mem_cons, List.not_mem_nil, or_false] at hq
    rcases hq with rfl | rfl | rfl
    · exact va_Zof (hall _ (show Jvm.Cond.laysStatic "CaseTables" "KEYWORDS" "[J" ∈ lw_tbl from (bm_ch2 (List.mem_of_getElem? (i := 199) (by decide +kernel))))) (hall _ (show Jvm.Cond.initialized "CaseTables" ∈ lw_tbl from (bm_ch1 (List.mem_of_getElem? (i := 1) (by decide +kernel))))) e0 hA
    · exact va_Zof (hall _ (show Jvm.Cond.laysStatic "java/lang/String" "COMPACT_STRINGS" "Z" ∈ lw_tbl from (bm_ch5 (List.mem_of_getElem? (i := 124) (by decide +kernel))))) (hall _ (show Jvm.Cond.initialized "java/lang/String" ∈ lw_tbl from (bm_ch1 (List.mem_of_getElem? (i := 13) (by decide +kernel))))) (va_eqi (hfl _ st_v3.1)) hA
    · exact hz
  · show scr.slots[j]? = some (.int (Int32.ofNat (xs j).toBitVec.toNat))
    rw [st_o32]
    exact x5 j hj
  · exact vx_Zqof (hall _ (show Jvm.Cond.laysStatic "java/lang/Throwable" "UNASSIGNED_STACK" "[Ljava/lang/StackTraceElement;" ∈ lw_tbl from (bm_ch4 (List.mem_of_getElem? (i := 14) (by decide +kernel))))) (hall _ (show Jvm.Cond.initialized "java/lang/Throwable" ∈ lw_tbl from (bm_ch1 (List.mem_of_getElem? (i := 17) (by decide +kernel))))) (hfl _ st_v3.2.2.1) hA
  · exact vx_Zqof (hall _ (show Jvm.Cond.laysStatic "java/lang/Throwable" "SUPPRESSED_SENTINEL" "Ljava/util/List;" ∈ lw_tbl from (bm_ch4 (List.mem_of_getElem? (i := 16) (by decide +kernel))))) (hall _ (show Jvm.Cond.initialized "java/lang/Throwable" ∈ lw_tbl from (bm_ch1 (List.mem_of_getElem? (i := 17) (by decide +kernel))))) (hfl _ st_v3.2.2.2) hA
end ST

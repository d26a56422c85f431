/-! ===== reading in the class: inputs, one and all ===== -/
theorem pz.cv {α β : Type} {t : Nat} {B : Int → Int} {s : Bool × Nat} {w w' : bm_W} {r : (Int × Nat) ⊕ α} {r' : (Int × Nat) ⊕ β} {G : α → Prop} {G' : β → Prop} (h : pz t B s r G w w') (e : s.1 = false → bm_gi w (t + 112) 2 = 0 → ym t B w' r G → ym t B w' r' G') : pz t B s r' G' w w' := fun z => ⟨(h z).1, fun c => e z c ((h z).2 c)⟩
theorem y_wh_in {K V : Nat → Int} {p : Nat} {lo hi v : Int} (h : y_wh K V p lo hi = .inr v) : lo ≤ v ∧ v ≤ hi := by
  unfold y_wh at h
  split at h
  · split at h
    · rename_i c
      cases h
      exact c
    · cases h
  · split at h
    · rename_i c
      cases h
      exact c
    · cases h
/-- where numbers with a sign end -/
theorem f_wh_ok {K : Nat → Int} {s : Bool × Nat} (h : (f_wh K s).1 = false) : s.1 = false := f_op_ok (k := 29) (L := f_T) (f_exp_k (L := f_T) (k := 2) (s := f_opt K 29 s) h).2.1
theorem f_x_ok {K : Nat → Int} {k : Int} {s : Bool × Nat} (h : (f_x K k s).1 = false) : s = (false, s.2) ∧ K s.2 = k ∧ f_x K k s = (false, s.2 + 1) := by
  obtain ⟨a1, a2, a3, a4⟩ := f_exp_k (L := f_T) h
  exact ⟨f_eta a2, a3, Prod.ext h a4⟩
theorem f_inp_ok {K : Nat → Int} {s : Bool × Nat} (h : (f_inp K s).1 = false) : s = (false, s.2) ∧ K s.2 = 3 ∧ f_x K 3 s = (false, s.2 + 1) ∧ K (s.2 + 1) = 5 ∧ f_x K 5 (f_x K 3 s) = (false, s.2 + 2) ∧ f_wh K (false, s.2 + 2) = (false, (f_wh K (false, s.2 + 2)).2) ∧ K (f_wh K (false, s.2 + 2)).2 = 33 ∧ f_x K 33 (f_wh K (f_x K 5 (f_x K 3 s))) = (false, (f_wh K (false, s.2 + 2)).2 + 1) := by
  have h1 := f_x_ok (f_wh_ok h)
  have h2 := f_x_ok (f_wh_ok (s := f_x K 5 (f_x K 3 s)) (by rw [h1.1]))
  have h3 := f_x_ok (k := 3) (s := s) (by rw [h2.1])
  rw [h3.2.2] at h1 h2 ⊢
  simp only at h1 h2
  rw [h2.2.2] at h1 ⊢
  exact ⟨h3.1, h3.2.1, rfl, h2.2.1, rfl, h1.1, h1.2.1, h1.2.2⟩
theorem fn_add_6 {w : bm_W} {f : Nat} {nm lo hi : Int} (h : 0 ≤ bm_gi w f 6 ∧ bm_gi w f 6 ≤ 3) : 0 ≤ bm_gi (fn_add w f nm lo hi) f 6 ∧ bm_gi (fn_add w f nm lo hi) f 6 ≤ 3 := by
  unfold fn_add
  split
  · rw [q_gi_eq]; omega
  · exact h
theorem q_gdl {α : Type} {l : List α} {a x : α} {i : Nat} (h : i < l.length) : (l ++ [x]).getD i a = l.getD i a := by
  rw [List.getD_eq_getElem?_getD, List.getD_eq_getElem?_getD, List.getElem?_append_left h]
theorem q_gde {α : Type} {l : List α} {a x : α} {i : Nat} (h : i = l.length) : (l ++ [x]).getD i a = x := by
  subst h
  rw [List.getD_eq_getElem?_getD, List.getElem?_concat_length]
  rfl
theorem yi.tf {t f : Nat} {B : Int → Int} {ins : List y_in} {w w' : bm_W} (h : yi f B ins w) (hf : tf t w w') (h1 : t + 7 ≤ f) (h2 : f ≤ t + 62) : yi f B ins w' := by
  obtain ⟨a1, a2, a3, a4⟩ := h
  refine ⟨(hf.1.gi (by omega)).trans a1, a2, fun i hi => ?_, fun i hi hi3 => ?_⟩
  · rw [hf.2.2.2, hf.1.gi (a := f + 3) (by omega), hf.1.gi (a := f + 4) (by omega)]
    exact a3 i hi
  · rw [hf.1.gi (a := f + 3) (by omega), hf.1.gi (a := f + 4) (by omega)]
    exact a4 i hi hi3
/-- one more input -/
theorem yi.add {f p : Nat} {B : Int → Int} {ins : List y_in} {w : bm_W} {lo hi : Int} (h : yi f B ins w) (hl : ins.length < 3) (h0 : -20 ≤ lo) (h1 : lo ≤ hi) (h2 : hi ≤ 20) : yi f B (ins ++ [(p, lo, hi)]) (fn_add w f (t_V B p) lo hi) := by
  obtain ⟨a1, a2, a3, a4⟩ := h
  have c : 0 ≤ bm_gi w f 6 ∧ bm_gi w f 6 < 3 := by omega
  have e : (bm_gi w f 6).toNat = ins.length := by omega
  have ll : (ins ++ [(p, lo, hi)]).length = ins.length + 1 := by simp
  have g1 : ∀ i, bm_gl (fn_add w f (t_V B p) lo hi) (f + 1) i = if i = ins.length then t_V B p else bm_gl w (f + 1) i := fun i => by
    unfold fn_add rg_put
    rw [if_pos c, if_pos c, e]
    show (if f + 1 = f + 1 ∧ i = ins.length then _ else _) = _
    simp
    rfl
  have g3 : ∀ i, bm_gi (fn_add w f (t_V B p) lo hi) (f + 3) i = if i = ins.length then lo else bm_gi w (f + 3) i := fun i => by
    unfold fn_add rg_put
    rw [if_pos c, if_pos c, e, q_gi_ne (by omega), q_gi_ne (by omega)]
    show (if f + 3 = f + 2 + 1 ∧ i = ins.length then _ else _) = _
    simp
    rfl
  have g4 : ∀ i, bm_gi (fn_add w f (t_V B p) lo hi) (f + 4) i = if i = ins.length then hi else bm_gi w (f + 4) i := fun i => by
    unfold fn_add rg_put
    rw [if_pos c, if_pos c, e, q_gi_ne (by omega)]
    show (if f + 4 = f + 2 + 2 ∧ i = ins.length then _ else bm_gi (bm_si _ (f + 2 + 1) ins.length lo) (f + 4) i) = _
    rw [q_gi_ne (by omega)]
    simp
    rfl
  refine ⟨?_, by omega, fun i hi => ?_, fun i hi hi3 => ?_⟩
  · unfold fn_add
    rw [if_pos c, q_gi_eq, ll, a1]
    omega
  · rw [g1, g3, g4]
    by_cases z : i = ins.length
    · rw [if_pos z, if_pos z, if_pos z, q_gde z]
      exact ⟨rfl, rfl, rfl, h0, h1, h2⟩
    · rw [if_neg z, if_neg z, if_neg z, q_gdl (by omega)]
      exact a3 i (by omega)
  · rw [g3, g4, if_neg (by omega), if_neg (by omega)]
    exact a4 i (by omega) hi3
section RI
variable {d t f N : Nat} {B : Int → Int} {s : Bool × Nat} {w : bm_W} {Φ : bm_Rt → bm_W → Prop} {ins : List y_in} {x : Int}
theorem rd_input (h : rt t N f_T B s w) (hk : rk t w) (hg : bm_gr w (t + 112) 4 = some f) (hf : sh_Fn f w) (h1 : t + 7 ≤ f) (h2 : f ≤ t + 62) (h6 : 0 ≤ bm_gi w f 6 ∧ bm_gi w f 6 ≤ 3) (hy : s.1 = false → bm_gi w (t + 112) 2 = 0 → yi f B ins w)
    (hq : ∀ w', rt t N f_T B (f_inp (t_K B) s) w' → nf t f w w' → (0 ≤ bm_gi w' f 6 ∧ bm_gi w' f 6 ≤ 3) → pz t B (f_inp (t_K B) s) (y_inp (t_K B) (t_V B) ins s.2) (fun ins' => yi f B ins' w') w w' → Φ (.inl none) w') : bm_Call bm_pg (d + 5) y_X0_readInput [bm_r (some (t + 112))] w Φ := by
  refine vc_X0_readInput ?_
  simp only [bm_c0_v, bm_c1_v, bm_c2_v, bm_c3_v, bm_c4_v, bm_c5_v, bm_u_some, decide_eq_true_eq, true_and, and_true, and_self, Bool.not_eq_true, Bool.not_eq_true', decide_eq_false_iff_not, if_true, if_false, ite_true, ite_false, eq_self, hk.1, hk.2.1, h.1.1.1, sp_valueHere h.1.1, h.value, sp_startHere h.1.1, h.start]
  refine rt_expect h (by decide) (fun w3 h3 f3 c3 => ?_)
  have hk3 := hk.tf f3
  have hg3 : bm_gr w3 (t + 112) 4 = some f := by rw [f3.1.gr]; exact hg
  have hf3 : sh_Fn f w3 := hf.fr f3.1
  have g6 : bm_gi w3 f 6 = bm_gi w f 6 := f3.1.gi (by omega)
  have ei : fn_in w3 f (t_V B s.2) = fn_in w f (t_V B s.2) := by unfold fn_in; rw [g6, f3.2.2.2]
  -- behind the checks of the name
  have fin : ∀ (w5 : bm_W) (r1 : (Int × Nat) ⊕ Unit), rt t N f_T B (f_x (t_K B) 3 s) w5 → tf t w w5 → pz t B (f_x (t_K B) 3 s) r1 (fun _ => True) w w5 → (yi f B ins w → s.1 = false → r1 = if 3 ≤ ins.length then .inl (4, s.2) else if 0 ≤ y_ix (t_V B) (t_V B s.2) (ins.map (·.1)) 0 then .inl (3, s.2) else .inr ()) → bk_X0_readInput_62 (d + 4) Φ (t + 112) (t_V B s.2) w5 := by
    intro w5 r1 h5 f5 p5 e5
    refine rd_input2 h5 (hk.tf f5) (by rw [f5.1.gr]; exact hg) (hf.fr f5.1) h1 h2 (fun w' h' n' p' q' => ?_)
    obtain ⟨w4, lo, hi, q1, q2⟩ := q'
    refine hq w' h' ((f5.nf h1 h2).tr n') ?_ ?_
    · rw [q2]
      refine fn_add_6 ?_
      rw [q1.1.gi (by omega), f5.1.gi (by omega)]
      exact h6
    · have pb := p5.bind (s2 := f_inp (t_K B) s) (k := fun _ => y_b (y_wh (t_K B) (t_V B) (f_x (t_K B) 5 (f_x (t_K B) 3 s)).2 (-20) 20) fun lo => y_b (y_wh (t_K B) (t_V B) (f_x (t_K B) 33 (f_wh (t_K B) (f_x (t_K B) 5 (f_x (t_K B) 3 s)))).2 lo 20) fun hi => .inr (lo, hi)) (G := fun lh => ∃ w4, tf t w5 w4 ∧ w' = fn_add w4 f (t_V B s.2) lh.1 lh.2) (w2 := w') (fun z => by rw [(f_inp_ok z).2.2.1]) (fun z => ⟨(p' z).1, fun a _ c0 _ => (p' z).2 c0⟩)
      refine pb.cv (fun z c0 => ?_)
      obtain ⟨o1, o2, o3, o4, o5, o6, o7, o8⟩ := f_inp_ok z
      have s0 : s.1 = false := by rw [o1]
      have y0 := hy s0 c0
      rw [o8, o5, e5 y0 s0]
      unfold y_inp
      by_cases b1 : 3 ≤ ins.length
      · rw [if_pos b1, if_pos b1]; exact fun y => y
      rw [if_neg b1, if_neg b1]
      by_cases b2 : 0 ≤ y_ix (t_V B) (t_V B s.2) (ins.map (·.1)) 0
      · rw [if_pos b2, if_pos b2]; exact fun y => y
      rw [if_neg b2, if_neg b2]
      simp only [y_b]
      cases e6 : y_wh (t_K B) (t_V B) (s.2 + 2) (-20) 20 with
      | inl e => exact fun y => y
      | inr lo =>
        simp only []
        cases e7 : y_wh (t_K B) (t_V B) ((f_wh (t_K B) (false, s.2 + 2)).2 + 1) lo 20 with
        | inl e => exact fun y => y
        | inr hi =>
          rintro ⟨y1, w4, y2, y3⟩
          refine ⟨y1, ?_⟩
          have i1 := y_wh_in e6
          have i2 := y_wh_in e7
          rw [y3]
          exact ((y0.tf f5 h1 h2).tf y2 h1 h2).add (by omega) i1.1 i2.1 i2.2
  simp only [bm_c0_v, bm_c1_v, bm_c2_v, bm_c3_v, bm_c4_v, bm_c5_v, bm_u_some, decide_eq_true_eq, true_and, and_true, and_self, Bool.not_eq_true, Bool.not_eq_true', decide_eq_false_iff_not, if_true, if_false, ite_true, ite_false, eq_self, hk3.1, hg3, hf3.1]
  by_cases c1 : bm_gi w3 f 6 < 3
  · rw [if_pos c1]
    simp only [bm_c0_v, bm_c1_v, bm_c2_v, bm_c3_v, bm_c4_v, bm_c5_v, bm_u_some, decide_eq_true_eq, true_and, and_true, and_self, Bool.not_eq_true, Bool.not_eq_true', decide_eq_false_iff_not, if_true, if_false, ite_true, ite_false, eq_self, sp_inputNamed hf3, ei]
    by_cases c2 : fn_in w f (t_V B s.2) < 0
    · rw [if_pos c2]
      refine fin w3 (.inr ()) h3 f3 (pz.ok c3 (fun _ _ => trivial)) (fun y _ => ?_)
      rw [if_neg (by have := y.1; omega), if_neg (by rw [← y.ix]; omega)]
    · rw [if_neg c2]
      simp only [bm_c0_v, bm_c1_v, bm_c2_v, bm_c3_v, bm_c4_v, bm_c5_v, bm_u_some, decide_eq_true_eq, true_and, and_true, and_self, Bool.not_eq_true, Bool.not_eq_true', decide_eq_false_iff_not, if_true, if_false, ite_true, ite_false, eq_self, hk3.1, sp_complain hk3.1]
      refine fin _ (.inl (3, s.2)) h3.put f3.put (pz.put c3 (by decide)) (fun y _ => ?_)
      rw [if_neg (by have := y.1; omega), if_pos (by rw [← y.ix]; omega)]
  · rw [if_neg c1]
    simp only [bm_c0_v, bm_c1_v, bm_c2_v, bm_c3_v, bm_c4_v, bm_c5_v, bm_u_some, decide_eq_true_eq, true_and, and_true, and_self, Bool.not_eq_true, Bool.not_eq_true', decide_eq_false_iff_not, if_true, if_false, ite_true, ite_false, eq_self, hk3.1, sp_complain hk3.1]
    refine fin _ (.inl (4, s.2)) h3.put f3.put (pz.put c3 (by decide)) (fun y _ => ?_)
    rw [if_pos (by have := y.1; omega)]
/-- further inputs -/
def f_it (K : Nat → Int) (n : Nat) (s : Bool × Nat) : Bool × Nat := if f_see K f_T s 18 18 then f_ins K n (false, s.2 + 1) else s
def y_it (K V : Nat → Int) (n : Nat) (ins : List y_in) (s : Bool × Nat) : (Int × Nat) ⊕ List y_in := if f_see K f_T s 18 18 then y_ins K V n ins (s.2 + 1) else .inr ins
theorem nf.shFn {w' : bm_W} (h : nf t f w w') (hf : sh_Fn f w) : sh_Fn f w' := hf.fr h.1
theorem nf.rk {w' : bm_W} (h : nf t f w w') (hk : rk t w) : rk t w' := ⟨by rw [h.1.kt]; exact hk.1, by rw [h.1.gr]; exact hk.2.1, by rw [h.1.gr]; exact hk.2.2⟩
theorem pz.cq {α : Type} {w1 w' : bm_W} {r : (Int × Nat) ⊕ α} {G : α → Prop} (hc : cq t w w1) (h : pz t B s r G w1 w') : pz t B s r G w w' := h.pre hc
theorem rd_inputs : ∀ (n : Nat) (v : Int) (s : Bool × Nat) (w : bm_W) (ins : List y_in), rt t N f_T B s w → rk t w → bm_gr w (t + 112) 4 = some f → sh_Fn f w → t + 7 ≤ f → f ≤ t + 62 → (0 ≤ bm_gi w f 6 ∧ bm_gi w f 6 ≤ 3) → (s.1 = false → bm_gi w (t + 112) 2 = 0 → yi f B ins w) → N ≤ n + s.2 → 1 ≤ v → v ≤ s.2 ∨ s.1 = true →
    (∀ w', rt t N f_T B (f_it (t_K B) n s) w' → nf t f w w' → (0 ≤ bm_gi w' f 6 ∧ bm_gi w' f 6 ≤ 3) → pz t B (f_it (t_K B) n s) (y_it (t_K B) (t_V B) n ins s) (fun ins' => yi f B ins' w') w w' → bk_X0_readFun_108 (d + 6) Φ (t + 112) x w') → bk_X0_readFun_79 (d + 6) Φ (t + 112) x v w := by
  intro n
  induction n with
  | zero =>
    intro v s w ins h hk hg hf h1 h2 h6 hy hn hv hv2 hq
    have nosee : ¬ f_see (t_K B) f_T s 18 18 := fun z => by
      have := f_see_N h.1.2.2.2 (by decide) h.2.2.2.2.1 z
      omega
    have e1 : f_it (t_K B) 0 s = s := if_neg nosee
    have e2 : y_it (t_K B) (t_V B) 0 ins s = .inr ins := if_neg nosee
    have e3 : f_op (t_K B) f_T 18 s = s := if_neg nosee
    rw [e1, e2] at hq
    refine vb_X0_readFun_79 ?_
    simp only [bm_c0_v, bm_c1_v, bm_c2_v, bm_c3_v, bm_c4_v, bm_c5_v, bm_u_some, decide_eq_true_eq, true_and, and_true, and_self, Bool.not_eq_true, Bool.not_eq_true', decide_eq_false_iff_not, if_true, if_false, ite_true, ite_false, eq_self, hk.1, hk.2.1, h.1.1.1]
    split
    · exact hq w h nf.rf h6 (pz.ok cq.rf hy)
    · refine rt_passes (d := d + 4) h (by decide) (fun w1 g1 f1 c1 => ?_)
      rw [e3] at g1
      rw [if_neg nosee, bm_c1_v, if_pos rfl]
      exact hq w1 g1 (f1.nf h1 h2) (by rw [f1.1.gi (by omega)]; exact h6) (pz.ok c1 (fun z c => (hy z c).tf f1 h1 h2))
  | succ n ih =>
    intro v s w ins h hk hg hf h1 h2 h6 hy hn hv hv2 hq
    by_cases see : f_see (t_K B) f_T s 18 18
    · have lN := f_see_N h.1.2.2.2 (by decide) h.2.2.2.2.1 see
      have N5 := h.1.2.2.1
      have s0 := see.1
      have e1 : f_it (t_K B) (n + 1) s = f_it (t_K B) n (f_inp (t_K B) (false, s.2 + 1)) := by
        unfold f_it
        rw [if_pos see]
        rfl
      have e2 : y_it (t_K B) (t_V B) (n + 1) ins s = y_b (y_inp (t_K B) (t_V B) ins (s.2 + 1)) fun ins' => y_it (t_K B) (t_V B) n ins' (f_inp (t_K B) (false, s.2 + 1)) := by
        unfold y_it
        rw [if_pos see]
        rfl
      have e3 : f_op (t_K B) f_T 18 s = (false, s.2 + 1) := if_pos see
      rw [e1, e2] at hq
      refine vb_X0_readFun_79 ?_
      simp only [bm_c0_v, bm_c1_v, bm_c2_v, bm_c3_v, bm_c4_v, bm_c5_v, bm_u_some, decide_eq_true_eq, true_and, and_true, and_self, Bool.not_eq_true, Bool.not_eq_true', decide_eq_false_iff_not, if_true, if_false, ite_true, ite_false, eq_self, hk.1, hk.2.1, h.1.1.1]
      rw [if_neg (by have := hv2.resolve_right (by rw [s0]; decide); omega)]
      refine rt_passes (d := d + 4) h (by decide) (fun w1 g1 f1 c1 => ?_)
      rw [e3] at g1
      rw [if_pos see, bm_c1_v, if_neg (by decide)]
      have hk1 := hk.tf f1
      refine ⟨hk1.1, rd_input (d := d + 1) (ins := ins) g1 hk1 (by rw [f1.1.gr]; exact hg) (hf.fr f1.1) h1 h2 (by rw [f1.1.gi (by omega)]; exact h6) (fun _ c => (hy s0 ((c1 2).symm.trans c)).tf f1 h1 h2) (fun w2 g2 n2 x6 p2 => ?_)⟩
      rw [bm_c0_v]
      have rng := f_far_inp h.1.2.2.2 (false, s.2 + 1) lN
      have vv : v ≤ s.2 := hv2.resolve_right (by rw [s0]; decide)
      rw [q_wI (x := v + 1) ⟨by omega, by omega⟩]
      have N2 := (f1.nf h1 h2).tr n2
      have p2' := p2.pre c1
      -- in each of both worlds of complaint
      cases r1 : y_inp (t_K B) (t_V B) ins (s.2 + 1) with
      | inl e =>
        rw [r1] at p2' hq
        refine ih (v + 1) _ w2 [] g2 (n2.rk hk1) (by rw [n2.1.gr, f1.1.gr]; exact hg) (n2.shFn (hf.fr f1.1)) h1 h2 x6 (fun z c => ?_) (by have := rng.1; simp only at this; omega) (by omega) (Or.inl (by have := rng.1; simp only at this; omega)) (fun w3 g3 n3 y6 p3 => hq w3 g3 (N2.tr n3) y6 (fun z => ?_))
        · have := p2' z
          by_cases c0 : bm_gi w (t + 112) 2 = 0
          · exact absurd c (by have := (this.2 c0); rw [this.2.1]; exact this.1)
          · exact absurd c (by rw [(this.1 c0).1]; exact c0)
        · have z1 : (f_inp (t_K B) (false, s.2 + 1)).1 = false := by
            unfold f_it at z
            split at z
            · rename_i q; exact q.1
            · exact z
          have a1 := p2' z1
          have a3 := p3 z
          refine ⟨a1.1.tr a3.1, fun c => ?_⟩
          have a2 := a1.2 c
          have := a3.1 (by rw [a2.2.1]; exact a2.1)
          exact ⟨a2.1, this.1.trans a2.2.1, this.2.trans a2.2.2⟩
      | inr ins' =>
        rw [r1] at p2' hq
        refine ih (v + 1) _ w2 ins' g2 (n2.rk hk1) (by rw [n2.1.gr, f1.1.gr]; exact hg) (n2.shFn (hf.fr f1.1)) h1 h2 x6 (fun z c => ?_) (by have := rng.1; simp only at this; omega) (by omega) (Or.inl (by have := rng.1; simp only at this; omega)) (fun w3 g3 n3 y6 p3 => hq w3 g3 (N2.tr n3) y6 (fun z => ?_))
        · have := p2' z
          by_cases c0 : bm_gi w (t + 112) 2 = 0
          · exact (this.2 c0).2
          · exact absurd c (by rw [(this.1 c0).1]; exact c0)
        · have z1 : (f_inp (t_K B) (false, s.2 + 1)).1 = false := by
            unfold f_it at z
            split at z
            · rename_i q; exact q.1
            · exact z
          have a1 := p2' z1
          have a3 := p3 z
          exact ⟨a1.1.tr a3.1, fun c => a3.2 (a1.2 c).1⟩
    · have e1 : f_it (t_K B) (n + 1) s = s := if_neg see
      have e2 : y_it (t_K B) (t_V B) (n + 1) ins s = .inr ins := if_neg see
      have e3 : f_op (t_K B) f_T 18 s = s := if_neg see
      rw [e1, e2] at hq
      refine vb_X0_readFun_79 ?_
      simp only [bm_c0_v, bm_c1_v, bm_c2_v, bm_c3_v, bm_c4_v, bm_c5_v, bm_u_some, decide_eq_true_eq, true_and, and_true, and_self, Bool.not_eq_true, Bool.not_eq_true', decide_eq_false_iff_not, if_true, if_false, ite_true, ite_false, eq_self, hk.1, hk.2.1, h.1.1.1]
      split
      · exact hq w h nf.rf h6 (pz.ok cq.rf hy)
      · refine rt_passes (d := d + 4) h (by decide) (fun w1 g1 f1 c1 => ?_)
        rw [e3] at g1
        rw [if_neg see, bm_c1_v, if_pos rfl]
        exact hq w1 g1 (f1.nf h1 h2) (by rw [f1.1.gi (by omega)]; exact h6) (pz.ok c1 (fun z c => (hy z c).tf f1 h1 h2))
end RI

/-! ===== reading in the class: names of items, inputs, second half ===== -/
theorem pz.cg {α : Type} {t : Nat} {B : Int → Int} {s : Bool × Nat} {w w' : bm_W} {r r' : (Int × Nat) ⊕ α} {G : α → Prop} (h : pz t B s r G w w') (e : s.1 = false → r = r') : pz t B s r' G w w' := fun z => by rw [← e z]; exact h z
theorem pz.mo {α : Type} {t : Nat} {B : Int → Int} {s : Bool × Nat} {w w' : bm_W} {r : (Int × Nat) ⊕ α} {G G' : α → Prop} (h : pz t B s r G w w') (hG : ∀ a, s.1 = false → bm_gi w (t + 112) 2 = 0 → r = .inr a → G a → G' a) : pz t B s r G' w w' := fun z => ⟨(h z).1, fun c => by
  have := (h z).2 c
  cases r with
  | inl e => exact this
  | inr a => exact ⟨this.1, hG a z c rfl this.2⟩⟩
section RI
variable {d t f N : Nat} {B : Int → Int} {s : Bool × Nat} {w : bm_W} {Φ : bm_Rt → bm_W → Prop}
theorem rd_itemName (h : rt t N f_T B s w) (hk : rk t w) (hP : sh_Pg (t + 4) w) (h4 : bm_gi w (t + 4) 4 ≤ 6) (h5 : bm_gi w (t + 4) 5 ≤ 6) (hq : ∀ w', rt t N f_T B (f_x (t_K B) 3 s) w' → tf t w w' → pz t B (f_x (t_K B) 3 s) (if 0 ≤ pg_ta w (t + 4) (t_V B s.2) 7 0 ∨ 0 ≤ pg_nm w (t + 4) (t_V B s.2) then .inl (3, s.2) else .inr ()) (fun _ => True) w w' → Φ (.inl (some (bm_l (t_V B s.2)))) w') : bm_Call bm_pg (d + 4) y_X0_readItemName [bm_r (some (t + 112))] w Φ := by
  refine vc_X0_readItemName ?_
  simp only [bm_c0_v, bm_c1_v, bm_c2_v, bm_c3_v, bm_c4_v, bm_c5_v, bm_u_some, decide_eq_true_eq, true_and, and_true, and_self, Bool.not_eq_true, Bool.not_eq_true', decide_eq_false_iff_not, if_true, if_false, ite_true, ite_false, eq_self, hk.1, hk.2.1, h.1.1.1, sp_valueHere h.1.1, h.value, sp_startHere h.1.1, h.start]
  refine rt_expect h (by decide) (fun w3 h3 f3 c3 => ?_)
  have hk3 := hk.tf f3
  have P3 : sh_Pg (t + 4) w3 := hP.fr f3.1
  have g4 : bm_gi w3 (t + 4) 4 = bm_gi w (t + 4) 4 := f3.1.gi (by omega)
  have g5 : bm_gi w3 (t + 4) 5 = bm_gi w (t + 4) 5 := f3.1.gi (by omega)
  have en : pg_nm w3 (t + 4) (t_V B s.2) = pg_nm w (t + 4) (t_V B s.2) := pg_nl_eq g4 (fun i => by rw [f3.2.2.2]) 7 0
  have et : ∀ (n : Nat) (i : Int), pg_ta w3 (t + 4) (t_V B s.2) n i = pg_ta w (t + 4) (t_V B s.2) n i := by
    intro n
    induction n with
    | zero => intro i; rfl
    | succ n ih => intro i; unfold pg_ta; rw [g5, f3.2.2.2, ih]
  by_cases c : f_see (t_K B) f_T s 3 3
  · rw [if_pos c, bm_c1_v, if_neg (by decide)]
    simp only [bm_c0_v, bm_c1_v, bm_c2_v, bm_c3_v, bm_c4_v, bm_c5_v, bm_u_some, decide_eq_true_eq, true_and, and_true, and_self, Bool.not_eq_true, Bool.not_eq_true', decide_eq_false_iff_not, if_true, if_false, ite_true, ite_false, eq_self, hk3.1, hk3.2.2, P3.1, sp_hasItem P3 (by rw [g4]; exact h4) (by rw [g5]; exact h5), en, et]
    by_cases c2 : 0 ≤ pg_ta w (t + 4) (t_V B s.2) 7 0 ∨ 0 ≤ pg_nm w (t + 4) (t_V B s.2)
    · rw [if_pos c2, if_neg (by decide)]
      rw [if_pos c2] at hq
      simp only [bm_c0_v, bm_c1_v, bm_c2_v, bm_c3_v, bm_c4_v, bm_c5_v, bm_u_some, decide_eq_true_eq, true_and, and_true, and_self, Bool.not_eq_true, Bool.not_eq_true', decide_eq_false_iff_not, if_true, if_false, ite_true, ite_false, eq_self, hk3.1, sp_complain hk3.1]
      exact hq _ h3.put f3.put (pz.put c3 (by decide))
    · rw [if_neg c2, if_pos rfl]
      rw [if_neg c2] at hq
      exact hq _ h3 f3 (pz.ok c3 (fun _ _ => trivial))
  · rw [if_neg c, bm_c1_v, if_pos (by decide)]
    refine hq _ h3 f3 (fun z => ?_)
    exact absurd (f_exp_k z).1 c
theorem rd_input2 {nm : Int} (h : rt t N f_T B s w) (hk : rk t w) (hg : bm_gr w (t + 112) 4 = some f) (hf : sh_Fn f w) (h1 : t + 7 ≤ f) (h2 : f ≤ t + 62)
    (hq : ∀ w', rt t N f_T B (f_wh (t_K B) (f_x (t_K B) 33 (f_wh (t_K B) (f_x (t_K B) 5 s)))) w' → nf t f w w' → pz t B (f_wh (t_K B) (f_x (t_K B) 33 (f_wh (t_K B) (f_x (t_K B) 5 s)))) (y_b (y_wh (t_K B) (t_V B) (f_x (t_K B) 5 s).2 (-20) 20) fun lo => y_b (y_wh (t_K B) (t_V B) (f_x (t_K B) 33 (f_wh (t_K B) (f_x (t_K B) 5 s))).2 lo 20) fun hi => .inr (lo, hi)) (fun lh => ∃ w4, tf t w w4 ∧ w' = fn_add w4 f nm lh.1 lh.2) w w' → (∃ w4 lo hi, tf t w w4 ∧ w' = fn_add w4 f nm lo hi) → Φ (.inl none) w') : bk_X0_readInput_62 (d + 4) Φ (t + 112) nm w := by
  refine vb_X0_readInput_62 ?_
  simp only [bm_c0_v, bm_c1_v, bm_c2_v, bm_c3_v, bm_c4_v, bm_c5_v, bm_u_some, decide_eq_true_eq, true_and, and_true, and_self, Bool.not_eq_true, Bool.not_eq_true', decide_eq_false_iff_not, if_true, if_false, ite_true, ite_false, eq_self, hk.1, hk.2.1, h.1.1.1]
  refine rt_expect h (by decide) (fun w1 h1' f1 c1 => ?_)
  have hk1 := hk.tf f1
  rw [bm_c1_v]
  refine ⟨hk1.1, rd_whole h1' hk1 (fun lo w2 h2' f2 p2 => ?_)⟩
  have hk2 := hk1.tf f2
  simp only [bm_c0_v, bm_c1_v, bm_c2_v, bm_c3_v, bm_c4_v, bm_c5_v, bm_u_some, decide_eq_true_eq, true_and, and_true, and_self, Bool.not_eq_true, Bool.not_eq_true', decide_eq_false_iff_not, if_true, if_false, ite_true, ite_false, eq_self, hk2.1, hk2.2.1, h2'.1.1.1]
  refine rt_expect h2' (by decide) (fun w3 h3 f3 c3 => ?_)
  have hk3 := hk2.tf f3
  rw [bm_c1_v]
  refine ⟨hk3.1, rd_whole h3 hk3 (fun hi w4 h4 f4 p4 => ?_)⟩
  have hk4 := hk3.tf f4
  have F4 : tf t w w4 := ((f1.tr f2).tr f3).tr f4
  have hf4 : sh_Fn f w4 := hf.fr F4.1
  have hg4 : bm_gr w4 (t + 112) 4 = some f := by rw [F4.1.gr]; exact hg
  simp only [bm_c0_v, bm_c1_v, bm_c2_v, bm_c3_v, bm_c4_v, bm_c5_v, bm_u_some, decide_eq_true_eq, true_and, and_true, and_self, Bool.not_eq_true, Bool.not_eq_true', decide_eq_false_iff_not, if_true, if_false, ite_true, ite_false, eq_self, hk4.1, hg4, hf4.1, sp_addInput hf4]
  have nfa : nf t f w (fn_add w4 f nm lo hi) := (F4.nf h1 h2).add h1 h2
  have nfb : nf t f w4 (fn_add w4 f nm lo hi) := (nf.rf).add h1 h2
  have cqb : cq t w4 (fn_add w4 f nm lo hi) := fun k => by
    by_cases c : k = 2 ∨ k = 3
    · unfold fn_add
      split
      · rename_i cc
        rw [q_gi_ne (by omega)]
        unfold rg_put
        rw [if_pos cc, q_gi_ne (by omega), q_gi_ne (by omega)]
        rfl
      · rfl
    · exact nfb.2.2.1 k (by omega) (by omega)
  have gt : ∀ k, bm_gi (fn_add w4 f nm lo hi) t k = bm_gi w4 t k := fun k => by
    unfold fn_add
    split
    · rename_i cc
      rw [q_gi_ne (by omega)]
      unfold rg_put
      rw [if_pos cc, q_gi_ne (by omega), q_gi_ne (by omega)]
      rfl
    · rfl
  have h5 : rt t N f_T B (f_wh (t_K B) (f_x (t_K B) 33 (f_wh (t_K B) (f_x (t_K B) 5 s)))) (fn_add w4 f nm lo hi) := by
    obtain ⟨⟨a1, a2, a3, a4⟩, b1, b2, b3, b4⟩ := h4
    refine ⟨⟨a1.fr nfb.1, fun j hj => ?_, a3, a4⟩, (gt 8).trans b1, (gt 10).trans b2, (gt 9).trans b3, b4⟩
    rw [nfb.1.gi (a := t + 1) (by omega), nfb.1.gi (a := t + 2) (by omega), nfb.2.2.2.2 (t + 3) j (by omega)]
    exact a2 j hj
  refine hq _ h5 nfa ?_ ⟨w4, lo, hi, F4, rfl⟩
  have q2 : pz t B (f_wh (t_K B) (f_x (t_K B) 5 s)) (y_wh (t_K B) (t_V B) (f_x (t_K B) 5 s).2 (-20) 20) (fun x => lo = x) w w2 := p2.pre c1
  refine q2.bind (s2 := f_wh (t_K B) (f_x (t_K B) 33 (f_wh (t_K B) (f_x (t_K B) 5 s)))) (fun z => ?_) (fun z => ?_)
  · have a := f_exp_k (L := f_T) (k := 2) (s := f_opt (t_K B) 29 (f_x (t_K B) 33 (f_wh (t_K B) (f_x (t_K B) 5 s)))) z
    exact (f_exp_k (f_op_ok (k := 29) (L := f_T) a.2.1)).2.1
  · obtain ⟨p5, p6⟩ := p4 z
    refine ⟨c3.st.tr (p5.tr cqb.st), fun a ha c0 hlo => ?_⟩
    subst hlo
    have p7 := p6 ((c3 2).trans c0)
    cases hr : y_wh (t_K B) (t_V B) (f_x (t_K B) 33 (f_wh (t_K B) (f_x (t_K B) 5 s))).2 lo 20 with
    | inl e =>
      rw [hr] at p7
      exact ⟨p7.1, (cqb 2).trans p7.2.1, (cqb 3).trans p7.2.2⟩
    | inr b =>
      rw [hr] at p7
      obtain ⟨p8, p9⟩ := p7
      subst p9
      exact ⟨(cqb 2).trans p8, w4, F4, rfl⟩
end RI

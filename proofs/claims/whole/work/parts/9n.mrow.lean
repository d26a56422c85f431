/-! ===== the model: meaning of rows ===== -/
theorem f_res_inv {K : Nat → Int} {p q : Nat} (h : f_res K (false, p) = (false, q)) (hp : p ≤ 1500) : (22 ≤ K p ∧ K p ≤ 27 ∧ f_wh K (false, p + 1) = (false, q)) ∨ (K p = 14 ∧ q = p + 1) ∨ (K p = 15 ∧ q = p + 1) := by
  unfold f_res at h
  by_cases c : 22 ≤ K p ∧ K p ≤ 27
  · rw [if_pos ⟨rfl, by show p < 1501; omega, by simp only; omega, by simp only; omega⟩] at h
    exact Or.inl ⟨c.1, c.2, h⟩
  rw [if_neg (fun z => c (by have := z.2.2; simp only at this; omega))] at h
  by_cases c2 : K p = 14
  · rw [if_pos ⟨rfl, by show p < 1501; omega, by simp only; omega, by simp only; omega⟩] at h
    exact Or.inr (Or.inl ⟨c2, (congrArg Prod.snd h).symm⟩)
  rw [if_neg (fun z => c2 (by have := z.2.2; simp only at this; omega))] at h
  have := f_x_ok (k := 15) (s := (false, p)) (by rw [h])
  rw [this.2.2] at h
  exact Or.inr (Or.inr ⟨this.2.1, (congrArg Prod.snd h).symm⟩)
/-- what row i of table k may change -/
def mR (m k i : Nat) (w w' : bm_W) : Prop := q_fr (fun a => a = m ∨ (m + 23 ≤ a ∧ a ≤ m + 27)) w w' ∧ (∀ j, j ≠ 3 → j ≠ 9 → bm_gi w' m j = bm_gi w m j) ∧ (∀ j, j ≠ k → bm_gi w' (m + 23) j = bm_gi w (m + 23) j) ∧ (∀ j, j < (12 * k + i) * 3 → bm_gi w' (m + 24) j = bm_gi w (m + 24) j ∧ bm_gi w' (m + 25) j = bm_gi w (m + 25) j) ∧ ∀ j, j < 12 * k + i → bm_gi w' (m + 26) j = bm_gi w (m + 26) j ∧ bm_gl w' (m + 27) j = bm_gl w (m + 27) j
section MN
variable {d m N p q f n k i i' : Nat} {B : Int → Int} {w w' w2 : bm_W} {Φ : bm_Rt → bm_W → Prop} {ins : List y_in} {rows : List y_rw} {l : List (Int × Int)}
theorem mR.rf : mR m k i w w := ⟨q_fr.rf, fun _ _ _ => rfl, fun _ _ => rfl, fun _ _ => ⟨rfl, rfl⟩, fun _ _ => ⟨rfl, rfl⟩⟩
theorem mR.tr (h : mR m k i w w') (h2 : mR m k i' w' w2) (hi : i ≤ i') : mR m k i w w2 := ⟨h.1.tr h2.1, fun j a b => (h2.2.1 j a b).trans (h.2.1 j a b), fun j a => (h2.2.2.1 j a).trans (h.2.2.1 j a), fun j a => ⟨(h2.2.2.2.1 j (by omega)).1.trans (h.2.2.2.1 j a).1, (h2.2.2.2.1 j (by omega)).2.trans (h.2.2.2.1 j a).2⟩, fun j a => ⟨(h2.2.2.2.2 j (by omega)).1.trans (h.2.2.2.2 j a).1, (h2.2.2.2.2 j (by omega)).2.trans (h.2.2.2.2 j a).2⟩⟩
theorem mR.at {j : Nat} {v : Int} (h : mR m k i w w') (hj : j = 3 ∨ j = 9) : mR m k i w (bm_si w' m j v) := h.tr ⟨q_fr.rf.si (Or.inl rfl), fun j a b => q_gi_nk (by omega), fun j _ => q_gi_ne (by omega), fun j _ => ⟨q_gi_ne (by omega), q_gi_ne (by omega)⟩, fun j _ => ⟨q_gi_ne (by omega), rfl⟩⟩ (Nat.le_refl _)
theorem mR.of {x : Nat} (h : mC m x w w') (hx : (12 * k + i) * 3 ≤ x) : mR m k i w w' := ⟨h.1.mo (fun a z => by omega), h.2.1, fun j _ => h.1.gi (by omega), fun j hj => h.2.2 j (by omega), fun j _ => ⟨h.1.gi (by omega), h.1.gl (by omega)⟩⟩
theorem md_Z.mR (h : md_Z m B N w) (hI : mR m k i w w') : md_Z m B N w' := md_Z.fr hI.1 (fun j h1 h2 => by omega) (hI.2.1 2 (by decide) (by decide)) h
theorem mrw.mv {R : y_rw} (h : mrw m k i R w) (hR : mR m k i' w w') (hi : i < i') (hl : R.1.length ≤ 3) : mrw m k i R w' := by
  obtain ⟨a1, a2, a3⟩ := h
  refine ⟨fun c hc => ?_, (hR.2.2.2.2 _ (by omega)).1.trans a2, (hR.2.2.2.2 _ (by omega)).2.trans a3⟩
  rw [(hR.2.2.2.1 _ (by omega)).1, (hR.2.2.2.1 _ (by omega)).2]
  exact a1 c hc
/-- a row that is told, counted -/
theorem mm_rend {R : y_rw} {p0 : Nat} (h : md_Z m B N w) (h9 : bm_gi w m 9 = (q : Int)) (hp0 : p0 ≤ N) (h28 : bm_gi w m 28 = (k : Int)) (hk : k < 6) (h22 : bm_gi w (m + 22) k = (f : Int)) (hf6 : f < 6) (h14 : bm_gi w (m + 14) f = (n : Int)) (hn : n ≤ 3) (hrs : mrs m k n rows w) (hr12 : rows.length < 12) (hnew : mrw m k rows.length R w) (hk2 : y_rk n R)
    (hq : ∀ v w', mR m k rows.length w w' → ma m w B (if 100 < y_ct (rows ++ [R]) then .inl (4, p0) else .inr (rows ++ [R])) v w' (fun rows' => bm_gi w' m 9 = (q : Int) ∧ mrs m k n rows' w') → Φ (.inl (some (bm_i v))) w') : bm_Call bm_pg (d + 2) y_X12_cases [bm_r (some m), bm_i (k : Int)] (bm_si w (m + 23) k ((rows.length + 1 : Nat) : Int)) (fun r1 w1 => bm_c1 (fun x1 => if x1 ≤ 100 then Φ (.inl (some (bm_i 0))) w1 else bm_kt w1 m = 12 ∧ bm_Call bm_pg (d + 2) y_X12_wrong [bm_r (some m), bm_i 4, bm_i (p0 : Int)] w1 (fun r2 w2 => bm_c1 (fun x2 => Φ (.inl (some (bm_i x2))) w2) (fun E => Φ (.inr E) w2) r2)) (fun E => Φ (.inr E) w1) r1) := by
  obtain ⟨b1, b2, b3, b4⟩ := hrs
  have F : mR m k rows.length w (bm_si w (m + 23) k ((rows.length + 1 : Nat) : Int)) := ⟨q_fr.rf.si (by omega), fun j _ _ => q_gi_ne (by omega), fun j hj => q_gi_nk hj, fun j _ => ⟨q_gi_ne (by omega), q_gi_ne (by omega)⟩, fun j _ => ⟨q_gi_ne (by omega), rfl⟩⟩
  have Z := h.mR F
  have hlen : (rows ++ [R]).length = rows.length + 1 := by rw [List.length_append]; rfl
  have g23 : bm_gi (bm_si w (m + 23) k ((rows.length + 1 : Nat) : Int)) (m + 23) k = ((rows ++ [R]).length : Int) := by rw [q_gi_eq, hlen]
  have hnew' : mrw m k rows.length R (bm_si w (m + 23) k ((rows.length + 1 : Nat) : Int)) := by
    obtain ⟨c1, c2, c3⟩ := hnew
    refine ⟨fun c hc => ?_, (q_gi_ne (by omega)).trans c2, c3⟩
    rw [q_gi_ne (by omega), q_gi_ne (by omega)]
    exact c1 c hc
  have hR : ∀ i, i < (rows ++ [R]).length → mrw m k i ((rows ++ [R]).getD i y_r0) (bm_si w (m + 23) k ((rows.length + 1 : Nat) : Int)) ∧ y_rk n ((rows ++ [R]).getD i y_r0) := fun i hi => by
    rw [hlen] at hi
    by_cases y : i = rows.length
    · rw [q_gde y, y]; exact ⟨hnew', hk2⟩
    · rw [q_gdl (by omega)]
      have := b4 i (by omega)
      exact ⟨this.1.mv F (by omega) (by rw [this.2.1]; exact hn), this.2⟩
  have cs := y_cs_3 (l := R.1) (fun c hc => hk2.2.1 c (by rw [← hk2.1]; exact hc)) (by rw [hk2.1]; exact hn)
  have ct : y_ct (rows ++ [R]) ≤ 70000 := by rw [y_ct_app]; omega
  refine mm_cases Z.1.1 hk ((q_gi_ne (by omega)).trans h22) hf6 ((q_gi_ne (by omega)).trans h14) hn g23 (by omega) hR ct ?_
  rw [bm_c1_v]
  by_cases c : 100 < y_ct (rows ++ [R])
  · rw [if_pos c] at hq
    rw [if_neg (by omega)]
    refine ⟨Z.1.1.1, mm_wrong (d := d + 1) Z hp0 (fun a => ?_)⟩
    rw [bm_c1_v]
    exact hq 4 _ (F.at (Or.inl rfl)) (ma_wr (by decide) a)
  · rw [if_neg c] at hq
    rw [if_pos (by omega)]
    exact hq 0 _ F ⟨rfl, q_gi_ne (by omega), (q_gi_ne (by omega)).trans h9, g23, by omega, by omega, hR⟩
theorem mm_184 {p0 : Nat} {s0 : Int} (h : md_Z m B N w) (h9 : bm_gi w m 9 = (p : Int)) (hN : p ≤ N) (hp0 : p0 ≤ N) (h28 : bm_gi w m 28 = (k : Int)) (hk : k < 6) (h22 : bm_gi w (m + 22) k = (f : Int)) (hf6 : f < 6) (h14 : bm_gi w (m + 14) f = (n : Int)) (hn : n ≤ 3) (hrs : mrs m k n rows w) (hr12 : rows.length < 12) (hl : l.length = n) (hlk : y_lk l) (hc : ∀ c, c < l.length → bm_gi w (m + 24) ((12 * k + rows.length) * 3 + c) = (l.getD c (0, 0)).1 ∧ bm_gi w (m + 25) ((12 * k + rows.length) * 3 + c) = (l.getD c (0, 0)).2) (h27 : bm_gl w (m + 27) (12 * k + rows.length) = 0) (hf : f_res (t_K B) (false, p) = (false, q)) (hs0 : s0 = t_rs (y_res (t_K B) (t_V B) p).1)
    (hq : ∀ v w', mR m k rows.length w w' → ma m w B (if 100 < y_ct (rows ++ [(l, y_res (t_K B) (t_V B) p)]) then .inl (4, p0) else .inr (rows ++ [(l, y_res (t_K B) (t_V B) p)])) v w' (fun rows' => bm_gi w' m 9 = (q : Int) ∧ mrs m k n rows' w') → Φ (.inl (some (bm_i v))) w') : bk_X12_row_184 (d + 8) Φ m (p0 : Int) ((12 * k + rows.length : Nat) : Int) s0 ((12 * k + rows.length : Nat) : Int) (m + 26) w := by
  have N5 := h.2.2.1
  have hinv := f_res_inv hf (by omega)
  have b := hrs
  obtain ⟨b1, b2, b3, b4⟩ := b
  have p1N : p + 1 ≤ N := h.nx hN (by rcases hinv with z | z | z <;> omega)
  -- the result, stored; the next token
  have F1 : mR m k rows.length w (bm_si w (m + 26) (12 * k + rows.length) s0) := ⟨q_fr.rf.si (by omega), fun j _ _ => q_gi_ne (by omega), fun j _ => q_gi_ne (by omega), fun j _ => ⟨q_gi_ne (by omega), q_gi_ne (by omega)⟩, fun j hj => ⟨q_gi_nk (by omega), rfl⟩⟩
  have Z1 := h.mR F1
  have F2 : mR m k rows.length w (bm_si (bm_si w (m + 26) (12 * k + rows.length) s0) m 9 ((p + 1 : Nat) : Int)) := F1.at (Or.inr rfl)
  have Z2 := h.mR F2
  have S := h.1.1
  have e9 : bm_gi (bm_si w (m + 26) (12 * k + rows.length) s0) m 9 = (p : Int) := (q_gi_ne (by omega)).trans h9
  have g26 : bm_gi (bm_si (bm_si w (m + 26) (12 * k + rows.length) s0) m 9 ((p + 1 : Nat) : Int)) (m + 26) (12 * k + rows.length) = s0 := by rw [q_gi_ne (by omega), q_gi_eq]
  have g28 : bm_gi (bm_si (bm_si w (m + 26) (12 * k + rows.length) s0) m 9 ((p + 1 : Nat) : Int)) m 28 = (k : Int) := (F2.2.1 28 (by decide) (by decide)).trans h28
  have g23 : bm_gi (bm_si (bm_si w (m + 26) (12 * k + rows.length) s0) m 9 ((p + 1 : Nat) : Int)) (m + 23) k = (rows.length : Int) := by rw [q_gi_ne (by omega), q_gi_ne (by omega)]; exact b1
  have hc2 : ∀ c, c < l.length → bm_gi (bm_si (bm_si w (m + 26) (12 * k + rows.length) s0) m 9 ((p + 1 : Nat) : Int)) (m + 24) ((12 * k + rows.length) * 3 + c) = (l.getD c (0, 0)).1 ∧ bm_gi (bm_si (bm_si w (m + 26) (12 * k + rows.length) s0) m 9 ((p + 1 : Nat) : Int)) (m + 25) ((12 * k + rows.length) * 3 + c) = (l.getD c (0, 0)).2 := fun c hcl => by
    rw [q_gi_ne (by omega), q_gi_ne (by omega), q_gi_ne (by omega), q_gi_ne (by omega)]
    exact hc c hcl
  have hrk : y_rk n (l, y_res (t_K B) (t_V B) p) := by
    refine ⟨hl, fun c hcn => hlk c (by omega), ?_⟩
    unfold y_res
    rcases hinv with z | z | z
    · rw [if_pos ⟨z.1, z.2.1⟩]; exact Or.inr (Or.inr ⟨z.1, z.2.1⟩)
    · rw [if_neg (by omega), if_pos z.1]; exact Or.inl rfl
    · rw [if_neg (by omega), if_neg (by omega)]; exact Or.inr (Or.inl rfl)
  refine vb_X12_row_184 ?_
  simp only [bm_c0_v, bm_c1_v, bm_c2_v, bm_c3_v, bm_c4_v, bm_c5_v, bm_u_some, decide_eq_true_eq, true_and, and_true, and_self, Bool.not_eq_true, Bool.not_eq_true', decide_eq_false_iff_not, if_true, if_false, ite_true, ite_false, eq_self, S.1, S.g26, S.t26, S.n26, bm_in, Int.toNat_natCast, e9, bm_w1 (show p < 2147483647 by omega)]
  generalize hW : bm_si (bm_si w (m + 26) (12 * k + rows.length) s0) m 9 ((p + 1 : Nat) : Int) = w2 at F2 Z2 g26 g28 g23 hc2 ⊢
  have S2 := Z2.1.1
  have S3 : sh_Md m (bm_si w2 (m + 23) k ((rows.length + 1 : Nat) : Int)) := S2
  have g28' : bm_gi (bm_si w2 (m + 23) k ((rows.length + 1 : Nat) : Int)) m 28 = (k : Int) := (q_gi_ne (by omega)).trans g28
  have h14' : bm_gi w2 (m + 14) f = (n : Int) := (F2.1.gi (by omega)).trans h14
  have h22' : bm_gi w2 (m + 22) k = (f : Int) := (F2.1.gi (by omega)).trans h22
  have g9 : bm_gi w2 m 9 = ((p + 1 : Nat) : Int) := by rw [← hW, q_gi_eq]
  have g3 : bm_gi w2 m 3 = bm_gi w m 3 := by rw [← hW, q_gi_nk (by decide), q_gi_ne (by omega)]
  have g27 : bm_gl w2 (m + 27) (12 * k + rows.length) = 0 := by rw [← hW]; exact h27
  have hrs2 : mrs m k n rows w2 := ⟨g23, b2, b3, fun i hi => ⟨(b4 i hi).1.mv F2 hi (by rw [(b4 i hi).2.1]; exact hn), (b4 i hi).2⟩⟩
  simp only [bm_c0_v, bm_c1_v, bm_c2_v, bm_c3_v, bm_c4_v, bm_c5_v, bm_u_some, decide_eq_true_eq, true_and, and_true, and_self, Bool.not_eq_true, Bool.not_eq_true', decide_eq_false_iff_not, if_true, if_false, ite_true, ite_false, eq_self, S.1, S.g34, S.t34, S.n34, S2.1, S2.g31, S2.t31, S2.n31, S2.g34, S2.t34, S2.n34, S2.g35, S2.t35, S2.n35, S.1, S2.1, Z1.1.1.1, g26, g28, g23, bm_in, Int.toNat_natCast, bm_w1 (show rows.length < 2147483647 by omega), S3.1, g28']
  rcases hinv with ⟨z1, z2, z3⟩ | z
  · have er : y_res (t_K B) (t_V B) p = (t_K B p, y_v (t_K B) (t_V B) (p + 1)) := by unfold y_res; rw [if_pos ⟨z1, z2⟩]; rfl
    have s20 : s0 = t_K B p - 20 := by
      rw [hs0, er]
      unfold t_rs
      rw [if_neg (by simp only; omega), if_neg (by simp only; omega)]
    rw [if_neg (by omega)]
    have x2 := f_wh_inv z3 (by omega)
    have qN : q ≤ N := by have := (f_far_wh (K := t_K B) h.2.2.2.2 (false, p + 1) p1N).2.1; rw [z3] at this; exact this
    refine ⟨by omega, by omega, mm_whole Z2 g9 p1N z3 (fun v1 v2 => ?_)⟩
    rw [bm_c1_v]
    have F3 : mR m k rows.length w2 (bm_si (bm_sq (bm_si w2 m 9 ((q - 1 : Nat) : Int)) (m + 27) (12 * k + rows.length) (y_v (t_K B) (t_V B) (p + 1))) m 9 ((q : Nat) : Int)) := ⟨((q_fr.rf.si (Or.inl rfl)).sq (by omega)).si (Or.inl rfl), fun j x y => by rw [q_gi_nk y, bm_sq_gi, q_gi_nk y], fun j _ => by rw [q_gi_ne (by omega), bm_sq_gi, q_gi_ne (by omega)], fun j _ => ⟨by rw [q_gi_ne (by omega), bm_sq_gi, q_gi_ne (by omega)], by rw [q_gi_ne (by omega), bm_sq_gi, q_gi_ne (by omega)]⟩, fun j hj => ⟨by rw [q_gi_ne (by omega), bm_sq_gi, q_gi_ne (by omega)], q_gl_nk (by omega)⟩⟩
    have u26 : bm_gi (bm_si (bm_sq (bm_si w2 m 9 ((q - 1 : Nat) : Int)) (m + 27) (12 * k + rows.length) (y_v (t_K B) (t_V B) (p + 1))) m 9 ((q : Nat) : Int)) (m + 26) (12 * k + rows.length) = s0 := by rw [q_gi_ne (by omega), bm_sq_gi, q_gi_ne (by omega)]; exact g26
    have u27 : bm_gl (bm_si (bm_sq (bm_si w2 m 9 ((q - 1 : Nat) : Int)) (m + 27) (12 * k + rows.length) (y_v (t_K B) (t_V B) (p + 1))) m 9 ((q : Nat) : Int)) (m + 27) (12 * k + rows.length) = y_v (t_K B) (t_V B) (p + 1) := q_gl_eq
    have uc : ∀ c, c < l.length → bm_gi (bm_si (bm_sq (bm_si w2 m 9 ((q - 1 : Nat) : Int)) (m + 27) (12 * k + rows.length) (y_v (t_K B) (t_V B) (p + 1))) m 9 ((q : Nat) : Int)) (m + 24) ((12 * k + rows.length) * 3 + c) = (l.getD c (0, 0)).1 ∧ bm_gi (bm_si (bm_sq (bm_si w2 m 9 ((q - 1 : Nat) : Int)) (m + 27) (12 * k + rows.length) (y_v (t_K B) (t_V B) (p + 1))) m 9 ((q : Nat) : Int)) (m + 25) ((12 * k + rows.length) * 3 + c) = (l.getD c (0, 0)).2 := fun c hcl => by
      rw [q_gi_ne (by omega), bm_sq_gi, q_gi_ne (by omega), q_gi_ne (by omega), bm_sq_gi, q_gi_ne (by omega)]
      exact hc2 c hcl
    have u9 : bm_gi (bm_si (bm_sq (bm_si w2 m 9 ((q - 1 : Nat) : Int)) (m + 27) (12 * k + rows.length) (y_v (t_K B) (t_V B) (p + 1))) m 9 ((q : Nat) : Int)) m 9 = (q : Int) := q_gi_eq
    have u3 : bm_gi (bm_si (bm_sq (bm_si w2 m 9 ((q - 1 : Nat) : Int)) (m + 27) (12 * k + rows.length) (y_v (t_K B) (t_V B) (p + 1))) m 9 ((q : Nat) : Int)) m 3 = bm_gi w2 m 3 := by rw [q_gi_nk (by decide), bm_sq_gi, q_gi_nk (by decide)]
    have u23 : bm_gi (bm_si (bm_sq (bm_si w2 m 9 ((q - 1 : Nat) : Int)) (m + 27) (12 * k + rows.length) (y_v (t_K B) (t_V B) (p + 1))) m 9 ((q : Nat) : Int)) (m + 23) k = (rows.length : Int) := by rw [q_gi_ne (by omega), bm_sq_gi, q_gi_ne (by omega)]; exact g23
    have e9 : bm_gi (bm_sq (bm_si w2 m 9 ((q - 1 : Nat) : Int)) (m + 27) (12 * k + rows.length) (y_v (t_K B) (t_V B) (p + 1))) m 9 = ((q - 1 : Nat) : Int) := q_gi_eq
    have T1 : sh_Md m (bm_si w2 m 9 ((q - 1 : Nat) : Int)) := S2
    have T2 : sh_Md m (bm_sq (bm_si w2 m 9 ((q - 1 : Nat) : Int)) (m + 27) (12 * k + rows.length) (y_v (t_K B) (t_V B) (p + 1))) := S2
    simp only [e9, bm_w1 (show q - 1 < 2147483647 by omega), show q - 1 + 1 = q by omega, T1.1, T1.g35, T1.t35, T1.n35, T2.1]
    generalize bm_si (bm_sq (bm_si w2 m 9 ((q - 1 : Nat) : Int)) (m + 27) (12 * k + rows.length) (y_v (t_K B) (t_V B) (p + 1))) m 9 ((q : Nat) : Int) = w4 at F3 u26 u27 uc u9 u3 u23 ⊢
    have Z4 := Z2.mR F3
    have S4 := Z4.1.1
    have S5 : sh_Md m (bm_si w4 (m + 23) k ((rows.length + 1 : Nat) : Int)) := S4
    have v28 : bm_gi w4 m 28 = (k : Int) := (F3.2.1 28 (by decide) (by decide)).trans g28
    have b4' : mrs m k n rows w4 := by
      exact ⟨u23, b2, b3, fun i hi => ⟨(hrs2.2.2.2 i hi).1.mv F3 hi (by rw [(b4 i hi).2.1]; exact hn), (b4 i hi).2⟩⟩
    have v28' : bm_gi (bm_si w4 (m + 23) k ((rows.length + 1 : Nat) : Int)) m 28 = (k : Int) := (q_gi_ne (by omega)).trans v28
    simp only [bm_c0_v, bm_c1_v, bm_c2_v, bm_c3_v, bm_c4_v, bm_c5_v, bm_u_some, decide_eq_true_eq, true_and, and_true, and_self, Bool.not_eq_true, Bool.not_eq_true', decide_eq_false_iff_not, if_true, if_false, ite_true, ite_false, eq_self, S4.1, S4.g31, S4.t31, S4.n31, S4.1, v28, b4'.1, Int.toNat_natCast, bm_w1 (show rows.length < 2147483647 by omega), S5.1, v28']
    refine ⟨by omega, by omega, by omega, mm_rend (d := d + 6) (R := (l, y_res (t_K B) (t_V B) p)) Z4 u9 hp0 v28 hk ((F3.1.gi (by omega)).trans h22') hf6 ((F3.1.gi (by omega)).trans h14') hn b4' hr12 ⟨uc, u26.trans hs0, ?_⟩ hrk (fun v w' F a => hq v w' ((F2.tr F3 (Nat.le_refl _)).tr F (Nat.le_refl _)) (a.w (u3.trans g3)))⟩
    rw [u27, er]
  · have er : y_res (t_K B) (t_V B) p = (t_K B p, 0) := by
      unfold y_res
      rcases z with z | z
      · rw [if_neg (by omega), if_pos z.1, z.1]
      · rw [if_neg (by omega), if_neg (by omega), z.1]
    have s20 : 20 ≤ s0 := by
      rw [hs0, er]
      unfold t_rs
      rcases z with z | z
      · rw [if_pos z.1]; decide
      · rw [if_neg (by simp only; omega), if_pos z.1]; decide
    have qq : q = p + 1 := by rcases z with z | z <;> exact z.2
    rw [if_pos s20]
    refine ⟨by omega, by omega, by omega, by omega, mm_rend (d := d + 6) (R := (l, y_res (t_K B) (t_V B) p)) Z2 (g9.trans (by rw [qq])) hp0 g28 hk h22' hf6 h14' hn hrs2 hr12 ⟨hc2, g26.trans hs0, ?_⟩ hrk (fun v w' F a => hq v w' (F2.tr F (Nat.le_refl _)) (a.w g3))⟩
    rw [g27, er]
/-- behind the cells of a row -/
theorem mm_44e {p0 : Nat} {c : Nat} (h : md_Z m B N w) (h9 : bm_gi w m 9 = (p : Int)) (hN : p ≤ N) (hp0 : p0 ≤ N) (h28 : bm_gi w m 28 = (k : Int)) (hk : k < 6) (h22 : bm_gi w (m + 22) k = (f : Int)) (hf6 : f < 6) (h14 : bm_gi w (m + 14) f = (n : Int)) (hn : n ≤ 3) (hrs : mrs m k n rows w) (hr12 : rows.length < 12) (hl : c = n → l.length = n) (hlk : y_lk l) (hc : ∀ c, c < l.length → bm_gi w (m + 24) ((12 * k + rows.length) * 3 + c) = (l.getD c (0, 0)).1 ∧ bm_gi w (m + 25) ((12 * k + rows.length) * 3 + c) = (l.getD c (0, 0)).2) (hk20 : t_K B p = 20) (hf : f_res (t_K B) (false, p + 1) = (false, q))
    (hq : ∀ v w', mR m k rows.length w w' → ma m w B (if c ≠ n then .inl (6, p0) else if 100 < y_ct (rows ++ [(l, y_res (t_K B) (t_V B) (p + 1))]) then .inl (4, p0) else .inr (rows ++ [(l, y_res (t_K B) (t_V B) (p + 1))])) v w' (fun rows' => bm_gi w' m 9 = (q : Int) ∧ mrs m k n rows' w') → Φ (.inl (some (bm_i v))) w') : bk_X12_row_44 (d + 8) Φ m (p0 : Int) (f : Int) (rows.length : Int) (c : Int) 0 w := by
  have N5 := h.2.2.1
  have S := h.1.1
  refine vb_X12_row_44 ?_
  rw [if_pos (by decide)]
  simp only [bm_c0_v, bm_c1_v, bm_c2_v, bm_c3_v, bm_c4_v, bm_c5_v, bm_u_some, decide_eq_true_eq, true_and, and_true, and_self, Bool.not_eq_true, Bool.not_eq_true', decide_eq_false_iff_not, if_true, if_false, ite_true, ite_false, eq_self, S.1, S.g20, S.t20, S.n20, bm_in, Int.toNat_natCast, h14]
  by_cases cn : c = n
  · rw [if_neg (fun z => z cn)] at hq
    rw [if_pos (by omega)]
    have p1N : p + 1 ≤ N := h.nx hN (by omega)
    have hinv := f_res_inv hf (by omega)
    have F1 : mR m k rows.length w (bm_sq (bm_si w m 9 ((p + 1 : Nat) : Int)) (m + 27) (12 * k + rows.length) 0) := ⟨(q_fr.rf.si (Or.inl rfl)).sq (by omega), fun j x y => q_gi_nk y, fun j _ => q_gi_ne (by omega), fun j _ => ⟨q_gi_ne (by omega), q_gi_ne (by omega)⟩, fun j hj => ⟨q_gi_ne (by omega), q_gl_nk (by omega)⟩⟩
    have u23 : bm_gi (bm_sq (bm_si w m 9 ((p + 1 : Nat) : Int)) (m + 27) (12 * k + rows.length) 0) (m + 23) k = (rows.length : Int) := by rw [bm_sq_gi, q_gi_ne (by omega)]; exact hrs.1
    have u27 : bm_gl (bm_sq (bm_si w m 9 ((p + 1 : Nat) : Int)) (m + 27) (12 * k + rows.length) 0) (m + 27) (12 * k + rows.length) = 0 := q_gl_eq
    have u9 : bm_gi (bm_sq (bm_si w m 9 ((p + 1 : Nat) : Int)) (m + 27) (12 * k + rows.length) 0) m 9 = ((p + 1 : Nat) : Int) := q_gi_eq
    have uc : ∀ c, c < l.length → bm_gi (bm_sq (bm_si w m 9 ((p + 1 : Nat) : Int)) (m + 27) (12 * k + rows.length) 0) (m + 24) ((12 * k + rows.length) * 3 + c) = (l.getD c (0, 0)).1 ∧ bm_gi (bm_sq (bm_si w m 9 ((p + 1 : Nat) : Int)) (m + 27) (12 * k + rows.length) 0) (m + 25) ((12 * k + rows.length) * 3 + c) = (l.getD c (0, 0)).2 := fun c hcl => by
      rw [bm_sq_gi, q_gi_ne (by omega), q_gi_ne (by omega)]
      exact hc c hcl
    have u3 : bm_gi (bm_sq (bm_si w m 9 ((p + 1 : Nat) : Int)) (m + 27) (12 * k + rows.length) 0) m 3 = bm_gi w m 3 := by rw [bm_sq_gi, q_gi_nk (by decide)]
    have T1 : sh_Md m (bm_si w m 9 ((p + 1 : Nat) : Int)) := S
    have T2 : sh_Md m (bm_sq (bm_si w m 9 ((p + 1 : Nat) : Int)) (m + 27) (12 * k + rows.length) 0) := S
    have t28 : bm_gi (bm_si w m 9 ((p + 1 : Nat) : Int)) m 28 = (k : Int) := (q_gi_nk (by decide)).trans h28
    have Z1 := h.mR F1
    simp only [bm_c0_v, bm_c1_v, bm_c2_v, bm_c3_v, bm_c4_v, bm_c5_v, bm_u_some, decide_eq_true_eq, true_and, and_true, and_self, Bool.not_eq_true, Bool.not_eq_true', decide_eq_false_iff_not, if_true, if_false, ite_true, ite_false, eq_self, S.1, h9, bm_w1 (show p < 2147483647 by omega), T1.1, T1.g35, T1.t35, T1.n35, t28, bm_w12 hk, bm_wN (show 12 * k + rows.length < 2147483648 by omega), Int.toNat_natCast, T2.1, T2.g34, T2.t34, T2.n34]
    generalize bm_sq (bm_si w m 9 ((p + 1 : Nat) : Int)) (m + 27) (12 * k + rows.length) 0 = w1 at F1 u23 u27 u9 u3 uc Z1 ⊢
    have k15 : t_kc 15 = 14 := rfl
    have k16 : t_kc 16 = 15 := rfl
    have hrs1 : mrs m k n rows w1 := ⟨u23, hrs.2.1, hrs.2.2.1, fun i hi => ⟨(hrs.2.2.2 i hi).1.mv F1 hi (by rw [(hrs.2.2.2 i hi).2.1]; exact hn), (hrs.2.2.2 i hi).2⟩⟩
    have fin : ∀ s0, s0 = t_rs (y_res (t_K B) (t_V B) (p + 1)).1 → bk_X12_row_184 (d + 8) Φ m (p0 : Int) ((12 * k + rows.length : Nat) : Int) s0 ((12 * k + rows.length : Nat) : Int) (m + 26) w1 := fun s0 e0 => mm_184 Z1 u9 p1N hp0 ((F1.2.1 28 (by decide) (by decide)).trans h28) hk ((F1.1.gi (by omega)).trans h22) hf6 ((F1.1.gi (by omega)).trans h14) hn hrs1 hr12 (hl cn) hlk uc u27 hf e0 (fun v w' F a => hq v w' (F1.tr F (Nat.le_refl _)) (a.w u3))
    simp only [Z1.1.1.1, true_and, mp_sees (d := d + 2) Z1 u9 p1N (show 1 ≤ 15 by decide) (show 15 < 31 by decide), mp_sees (d := d + 2) Z1 u9 p1N (show 1 ≤ 16 by decide) (show 16 < 31 by decide), k15, k16, bm_c1_v, u9, mp_operator (d := d + 2) Z1 p1N (show (0 : Int) ≤ 2 by decide) (show (8 : Int) ≤ 13 by decide)]
    refine ⟨by omega, by omega, ?_⟩
    rcases hinv with z | z | z
    · rw [if_neg (show ¬ t_K B (p + 1) = 14 by omega), if_neg (show ¬ t_K B (p + 1) = 15 by omega), if_pos rfl, if_pos rfl]
      refine fin _ ?_
      unfold y_res
      rw [if_pos ⟨z.1, z.2.1⟩]
      unfold t_rs t_opr
      simp only
      grind
    · rw [if_pos z.1, if_neg (by decide)]
      refine fin _ ?_
      unfold y_res
      rw [if_neg (by omega), if_pos z.1]
      rfl
    · rw [if_neg (show ¬ t_K B (p + 1) = 14 by omega), if_pos z.1, if_pos rfl, if_neg (by decide)]
      refine fin _ ?_
      unfold y_res
      rw [if_neg (by omega), if_neg (by omega)]
      rfl
  · rw [if_pos cn] at hq
    rw [if_neg (by omega)]
    refine ⟨by omega, mm_wrong (d := d + 7) h hp0 (fun a => ?_)⟩
    rw [bm_c1_v]
    exact hq 6 _ (mR.rf.at (Or.inl rfl)) (ma_wr (by decide) a)
end MN

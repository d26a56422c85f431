/-! ===== the model: meaning of inputs ===== -/
theorem bm_w3 {F : Nat} (h : F < 6) : bm_w (3 * (F : Int)) = ((3 * F : Nat) : Int) := by rw [q_wI ⟨by omega, by omega⟩]; omega
theorem bm_wN {a b : Nat} (h : a + b < 2147483648) : bm_w ((a : Int) + (b : Int)) = ((a + b : Nat) : Int) := by rw [q_wI ⟨by omega, by omega⟩]; omega
theorem bm_w1 {a : Nat} (h : a < 2147483647) : bm_w ((a : Int) + 1) = ((a + 1 : Nat) : Int) := by rw [q_wI ⟨by omega, by omega⟩]; omega
theorem bm_w2 {a : Nat} (h : a < 2147483646) : bm_w ((a : Int) + 2) = ((a + 2 : Nat) : Int) := by rw [q_wI ⟨by omega, by omega⟩]; omega
/-- a number with its sign -/
def y_v (K V : Nat → Int) (p : Nat) : Int := if K p = 29 then -V (p + 1) else V p
theorem f_wh_inv {K : Nat → Int} {p q : Nat} (h : f_wh K (false, p) = (false, q)) (hp : p ≤ 1500) : (K p = 29 ∧ K (p + 1) = 2 ∧ q = p + 2) ∨ (K p ≠ 29 ∧ K p = 2 ∧ q = p + 1) := by
  by_cases c : K p = 29
  · unfold f_wh at h
    rw [f_opt_t c hp] at h
    have a := f_x_ok (k := 2) (s := (false, p + 1)) (by rw [h])
    rw [a.2.2] at h
    exact Or.inl ⟨c, a.2.1, (congrArg Prod.snd h).symm⟩
  · unfold f_wh at h
    rw [f_opt_f c] at h
    have a := f_x_ok (k := 2) (s := (false, p)) (by rw [h])
    rw [a.2.2] at h
    exact Or.inr ⟨c, a.2.1, (congrArg Prod.snd h).symm⟩
theorem y_wh_v {K V : Nat → Int} {p q : Nat} {lo hi : Int} (h : f_wh K (false, p) = (false, q)) (hp : p ≤ 1500) : y_wh K V p lo hi = if lo ≤ y_v K V p ∧ y_v K V p ≤ hi then .inr (y_v K V p) else .inl (5, q - 1) := by
  unfold y_wh y_v
  rcases f_wh_inv h hp with ⟨a, b, c⟩ | ⟨a, b, c⟩
  · rw [if_pos a, if_pos a, c]
    rfl
  · rw [if_neg a, if_neg a, c]
    rfl
theorem ma_wr {α : Type} {m x : Nat} {B : Int → Int} {e : Int} {w w' : bm_W} {G : α → Prop} (he : e ≠ 0) (h : bm_gi w' m 3 = t_P B x) : ma m w B (.inl (e, x)) e w' G := ⟨rfl, he, h⟩
section MN
variable {d m N p q F : Nat} {B : Int → Int} {w : bm_W} {Φ : bm_Rt → bm_W → Prop} {ins : List y_in}
theorem md_Z.at9 {v : Int} (h : md_Z m B N w) : md_Z m B N (bm_si w m 9 v) := md_Z.fr (A := fun a => a = m) (q_fr.rf.si rfl) (fun j h1 _ => by omega) (q_gi_nk (by decide)) h
theorem mm_whole (h : md_Z m B N w) (h9 : bm_gi w m 9 = (p : Int)) (hp : p ≤ N) (hf : f_wh (t_K B) (false, p) = (false, q)) (hq : -9999 ≤ y_v (t_K B) (t_V B) p → y_v (t_K B) (t_V B) p ≤ 9999 → Φ (.inl (some (bm_i (y_v (t_K B) (t_V B) p)))) (bm_si w m 9 ((q - 1 : Nat) : Int))) : bm_Call bm_pg (d + 8) y_X12_whole [bm_r (some m)] w Φ := by
  have N5 := h.2.2.1
  have k1 : t_kc 1 = 29 := rfl
  have S0 : fS m w p w := ⟨q_fr.rf, h9, fun _ _ _ => rfl, fun _ => rfl⟩
  unfold y_v at hq
  refine vc_X12_whole ?_
  simp only [bm_c0_v, bm_c1_v, bm_c2_v, bm_c3_v, bm_c4_v, bm_c5_v, bm_u_some, decide_eq_true_eq, true_and, and_true, and_self, Bool.not_eq_true, Bool.not_eq_true', decide_eq_false_iff_not, if_true, if_false, ite_true, ite_false, eq_self, h.1.1.1]
  rcases f_wh_inv hf (by omega) with ⟨a, b, c⟩ | ⟨a, b, c⟩
  · have hp1 : p + 1 ≤ N := h.nx hp (by omega)
    have Z1 := h.at9 (v := ((p : Int) + 1))
    have k29 : (if t_K B p = t_kc 1 then (1 : Int) else 0) = 1 := if_pos (by rw [k1]; exact a)
    refine vc_X12_takes ?_
    simp only [bm_c0_v, bm_c1_v, bm_c2_v, bm_c3_v, bm_c4_v, bm_c5_v, bm_u_some, decide_eq_true_eq, true_and, and_true, and_self, Bool.not_eq_true, Bool.not_eq_true', decide_eq_false_iff_not, if_true, if_false, ite_true, ite_false, eq_self, h.1.1.1, true_or, or_true, mp_sees h h9 hp (show 1 ≤ 1 by decide) (show 1 < 31 by decide), S0.nx (by omega : p ≤ 1500), k29]
    rw [if_pos (by decide), if_neg (by decide)]
    have nf := mp_numberOf (d := d + 6) (Φ := fun r2 w2 => bm_c1 (fun x3 => Φ (.inl (some (bm_i (bm_w (-x3))))) w2) (fun E => Φ (.inr E) w2) r2) Z1 (n := p + 1) hp1 b
    have e9 : bm_gi (bm_si w m 9 ((p : Int) + 1)) m 9 = ((p + 1 : Nat) : Int) := by rw [q_gi_eq]; omega
    simp only [Z1.1.1.1, true_and, e9]
    refine nf.1.mpr ?_
    rw [bm_c1_v, q_wI ⟨by omega, by omega⟩]
    rw [if_pos a] at hq
    have e : ((q - 1 : Nat) : Int) = (p : Int) + 1 := by omega
    rw [e] at hq
    exact hq (by omega) (by omega)
  · have k29 : (if t_K B p = t_kc 1 then (1 : Int) else 0) = 0 := if_neg (by rw [k1]; exact a)
    refine vc_X12_takes ?_
    simp only [bm_c0_v, bm_c1_v, bm_c2_v, bm_c3_v, bm_c4_v, bm_c5_v, bm_u_some, decide_eq_true_eq, true_and, and_true, and_self, Bool.not_eq_true, Bool.not_eq_true', decide_eq_false_iff_not, if_true, if_false, ite_true, ite_false, eq_self, h.1.1.1, true_or, or_true, mp_sees h h9 hp (show 1 ≤ 1 by decide) (show 1 < 31 by decide), k29]
    have nf := mp_numberOf (d := d + 6) (Φ := fun r2 w2 => bm_c1 (fun x2 => Φ (.inl (some (bm_i x2))) w2) (fun E => Φ (.inr E) w2) r2) h (n := p) hp b
    simp only [h.1.1.1, true_and, h9]
    refine nf.1.mpr ?_
    rw [bm_c1_v]
    rw [if_neg a, q_si_self (by rw [h9]; omega)] at hq
    exact hq (by omega) (by omega)
/-- what reading inputs may change in the model -/
def mI (m F : Nat) (w w' : bm_W) : Prop := q_fr (fun a => a = m ∨ a = m + 14 ∨ a = m + 15 ∨ a = m + 16 ∨ a = m + 17) w w' ∧ (∀ k, k ≠ 3 → k ≠ 9 → bm_gi w' m k = bm_gi w m k) ∧ (∀ j, j ≠ F → bm_gi w' (m + 14) j = bm_gi w (m + 14) j) ∧ (∀ j, j < 3 * F → bm_gl w' (m + 15) j = bm_gl w (m + 15) j ∧ bm_gi w' (m + 16) j = bm_gi w (m + 16) j ∧ bm_gi w' (m + 17) j = bm_gi w (m + 17) j)
theorem mI.rf : mI m F w w := ⟨q_fr.rf, fun _ _ _ => rfl, fun _ _ => rfl, fun _ _ => ⟨rfl, rfl, rfl⟩⟩
theorem mI.tr {w1 w2 : bm_W} (h : mI m F w w1) (h2 : mI m F w1 w2) : mI m F w w2 := ⟨h.1.tr h2.1, fun k a b => (h2.2.1 k a b).trans (h.2.1 k a b), fun j a => (h2.2.2.1 j a).trans (h.2.2.1 j a), fun j a => ⟨(h2.2.2.2 j a).1.trans (h.2.2.2 j a).1, (h2.2.2.2 j a).2.1.trans (h.2.2.2 j a).2.1, (h2.2.2.2 j a).2.2.trans (h.2.2.2 j a).2.2⟩⟩
theorem mI.at {w1 : bm_W} {k : Nat} {v : Int} (h : mI m F w w1) (hk : k = 3 ∨ k = 9) : mI m F w (bm_si w1 m k v) := h.tr ⟨q_fr.rf.si (Or.inl rfl), fun j a b => q_gi_nk (by omega), fun j _ => q_gi_ne (by omega), fun j _ => ⟨rfl, q_gi_ne (by omega), q_gi_ne (by omega)⟩⟩
theorem md_Z.mI {w' : bm_W} (h : md_Z m B N w) (hI : mI m F w w') : md_Z m B N w' := md_Z.fr hI.1 (fun j h1 h2 => by omega) (hI.2.1 2 (by decide) (by decide)) h
theorem mm_wrong {e : Int} {x : Nat} (h : md_Z m B N w) (hx : x ≤ N) (hq : bm_gi (bm_si w m 3 (t_P B x)) m 3 = t_P B x → Φ (.inl (some (bm_i e))) (bm_si w m 3 (t_P B x))) : bm_Call bm_pg (d + 1) y_X12_wrong [bm_r (some m), bm_i e, bm_i (x : Int)] w Φ := by
  have N5 := h.2.2.1
  refine (mp_wrong h.1.1 (by omega)).mpr ?_
  rw [(h.2.1 x (by omega)).2.1]
  exact hq q_gi_eq
theorem mm_input (h : md_Z m B N w) (h9 : bm_gi w m 9 = (p : Int)) (hp : p ≤ N) (h18 : bm_gi w m 18 = (F : Int)) (hF : F < 6) (hi : mip m B F ins w) (hf : f_inp (t_K B) (false, p) = (false, q))
    (hq : ∀ x w', mI m F w w' → ma m w B (y_inp (t_K B) (t_V B) ins p) x w' (fun ins' => bm_gi w' m 9 = (q : Int) ∧ mip m B F ins' w') → Φ (.inl (some (bm_i x))) w') : bm_Call bm_pg (d + 9) y_X12_input [bm_r (some m)] w Φ := by
  have N5 := h.2.2.1
  obtain ⟨o1, o2, o3, o4, o5, o6, o7, o8⟩ := f_inp_ok (s := (false, p)) (by rw [hf])
  simp only at o2 o3 o4 o5 o6 o7 o8
  obtain ⟨q1, hq1⟩ : ∃ q1, q1 = (f_wh (t_K B) (false, p + 2)).2 := ⟨_, rfl⟩
  rw [← hq1] at o6 o7 o8
  have hf2 : f_wh (t_K B) (false, q1 + 1) = (false, q) := by
    have e : f_inp (t_K B) (false, p) = f_wh (t_K B) (f_x (t_K B) 33 (f_wh (t_K B) (f_x (t_K B) 5 (f_x (t_K B) 3 (false, p))))) := rfl
    rw [o8] at e
    exact e.symm.trans hf
  have p2N : p + 2 ≤ N := h.nx (p := p + 1) (h.nx hp (by omega)) (by omega)
  have q1N : q1 ≤ N := by have := (f_far_wh (K := t_K B) h.2.2.2.2 (false, p + 2) p2N).2.1; rw [o6] at this; exact this
  have p2q : p + 2 ≤ q1 := by have := (f_far_wh (K := t_K B) h.2.2.2.2 (false, p + 2) p2N).1; rw [o6] at this; exact this
  have q11 : q1 + 1 ≤ N := h.nx q1N (by omega)
  have qq : q1 + 1 ≤ q := by have := (f_far_wh (K := t_K B) h.2.2.2.2 (false, q1 + 1) q11).1; rw [hf2] at this; exact this
  have qN : q ≤ N := by have := (f_far_wh (K := t_K B) h.2.2.2.2 (false, q1 + 1) q11).2.1; rw [hf2] at this; exact this
  have x1 := f_wh_inv o6 (by omega)
  have x2 := f_wh_inv hf2 (by omega)
  have eY : y_inp (t_K B) (t_V B) ins p = if 3 ≤ ins.length then .inl (4, p) else if 0 ≤ y_ix (t_V B) (t_V B p) (ins.map (·.1)) 0 then .inl (3, p) else if -20 ≤ y_v (t_K B) (t_V B) (p + 2) ∧ y_v (t_K B) (t_V B) (p + 2) ≤ 20 then (if y_v (t_K B) (t_V B) (p + 2) ≤ y_v (t_K B) (t_V B) (q1 + 1) ∧ y_v (t_K B) (t_V B) (q1 + 1) ≤ 20 then .inr (ins ++ [(p, y_v (t_K B) (t_V B) (p + 2), y_v (t_K B) (t_V B) (q1 + 1))]) else .inl (5, q - 1)) else .inl (5, q1 - 1) := by
    unfold y_inp
    rw [← hq1, y_wh_v o6 (by omega)]
    by_cases c1 : 3 ≤ ins.length
    · rw [if_pos c1, if_pos c1]
    rw [if_neg c1, if_neg c1]
    by_cases c2 : 0 ≤ y_ix (t_V B) (t_V B p) (ins.map (·.1)) 0
    · rw [if_pos c2, if_pos c2]
    rw [if_neg c2, if_neg c2]
    by_cases c3 : -20 ≤ y_v (t_K B) (t_V B) (p + 2) ∧ y_v (t_K B) (t_V B) (p + 2) ≤ 20
    · rw [if_pos c3, if_pos c3, y_b_inr, y_wh_v hf2 (by omega)]
      by_cases c4 : y_v (t_K B) (t_V B) (p + 2) ≤ y_v (t_K B) (t_V B) (q1 + 1) ∧ y_v (t_K B) (t_V B) (q1 + 1) ≤ 20
      · rw [if_pos c4, if_pos c4, y_b_inr]
      · rw [if_neg c4, if_neg c4, y_b_inl]
    · rw [if_neg c3, if_neg c3, y_b_inl]
  rw [eY] at hq
  clear eY
  have h' := hi
  obtain ⟨i1, i2, i3, i4⟩ := h'
  refine vc_X12_input ?_
  simp only [bm_c0_v, bm_c1_v, bm_c2_v, bm_c3_v, bm_c4_v, bm_c5_v, bm_u_some, decide_eq_true_eq, true_and, and_true, and_self, Bool.not_eq_true, Bool.not_eq_true', decide_eq_false_iff_not, if_true, if_false, ite_true, ite_false, eq_self, h.1.1.1, h.1.1.g20, h.1.1.t20, h.1.1.n20, bm_in, h18, Int.toNat_natCast, i1, h9]
  refine ⟨by omega, ?_⟩
  by_cases c1 : 3 ≤ ins.length
  · rw [if_neg (by omega)]
    rw [if_pos c1] at hq
    refine mm_wrong (d := d + 7) h hp (fun a => ?_)
    rw [bm_c1_v]
    exact hq 4 _ (mI.rf.at (Or.inl rfl)) (ma_wr (by decide) a)
  rw [if_pos (by omega)]
  rw [if_neg c1] at hq
  have fd : t_fd (bm_gl w (m + 15)) (3 * F) (t_nm B p) ins.length = y_ix (t_V B) (t_V B p) (ins.map (·.1)) 0 := by
    have := t_fd_ix (B := B) (g := bm_gl w (m + 15)) (p := 3 * F) (x := p) (l := ins.map (·.1)) (fun j hj => by
      rw [List.length_map] at hj
      rw [q_gdm (a := y_i0) hj]
      exact (i3 j hj).1) i4 o2
    rw [List.length_map] at this
    exact this
  have hfind : ∀ Ψ, bm_Call bm_pg (d + 8) y_X12_find [bm_r (some (m + 15)), bm_i ((3 * F : Nat) : Int), bm_i (ins.length : Int), bm_l (t_nm B p)] w Ψ ↔ Ψ (.inl (some (bm_i (y_ix (t_V B) (t_V B p) (ins.map (·.1)) 0)))) w := fun Ψ => by
    rw [mp_find h.1.1.t21 (by rw [h.1.1.n21]; omega) (by rw [h.1.1.n21]; decide), fd]
  have nmo : ∀ Ψ, bm_Call bm_pg (d + 8) y_X12_nameOf [bm_r (some m), bm_i (p : Int)] w Ψ ↔ Ψ (.inl (some (bm_l (t_nm B p)))) w := fun Ψ => mp_nameOf h hp (by omega)
  simp only [bm_c0_v, bm_c1_v, bm_c2_v, bm_c3_v, bm_c4_v, bm_c5_v, bm_u_some, decide_eq_true_eq, true_and, and_true, and_self, Bool.not_eq_true, Bool.not_eq_true', decide_eq_false_iff_not, if_true, if_false, ite_true, ite_false, eq_self, h.1.1.1, h.1.1.g21, h.1.1.t21, h.1.1.n21, nmo, bm_w3 hF, hfind, h9, h18]
  have rg := y_ix_rng (V := t_V B) (v := t_V B p) (ins.map (·.1)) 0 (Int.le_refl _)
  by_cases c2 : 0 ≤ y_ix (t_V B) (t_V B p) (ins.map (·.1)) 0
  · rw [if_neg (by omega)]
    rw [if_pos c2] at hq
    refine mm_wrong (d := d + 7) h hp (fun a => ?_)
    rw [bm_c1_v]
    exact hq 3 _ (mI.rf.at (Or.inl rfl)) (ma_wr (by decide) a)
  rw [if_pos (by omega)]
  rw [if_neg c2] at hq
  have X1 : mI m F w (bm_sq w (m + 15) (3 * F + ins.length) (t_nm B p)) := ⟨q_fr.rf.sq (by omega), fun _ _ _ => rfl, fun _ _ => rfl, fun j hj => ⟨q_gl_nk (by omega), rfl, rfl⟩⟩
  have g1 : ∀ a j, bm_gi (bm_sq w (m + 15) (3 * F + ins.length) (t_nm B p)) a j = bm_gi w a j := fun _ _ => rfl
  have n1 : bm_gl (bm_sq w (m + 15) (3 * F + ins.length) (t_nm B p)) (m + 15) (3 * F + ins.length) = t_nm B p := q_gl_eq
  have n1' : ∀ j, j ≠ 3 * F + ins.length → bm_gl (bm_sq w (m + 15) (3 * F + ins.length) (t_nm B p)) (m + 15) j = bm_gl w (m + 15) j := fun j hj => q_gl_nk hj
  have h1 := h.mI X1
  simp only [bm_c0_v, bm_c1_v, bm_c2_v, bm_c3_v, bm_c4_v, bm_c5_v, bm_u_some, decide_eq_true_eq, true_and, and_true, and_self, Bool.not_eq_true, Bool.not_eq_true', decide_eq_false_iff_not, if_true, if_false, ite_true, ite_false, eq_self, h.1.1.1, h.1.1.g21, h.1.1.t21, h.1.1.n21, h1.1.1.1, bm_in, nmo, bm_w3 hF, h9, h18, bm_wN (show 3 * F + ins.length < 2147483648 by omega), Int.toNat_natCast, g1, bm_w2 (show p < 2147483646 by omega)]
  generalize bm_sq w (m + 15) (3 * F + ins.length) (t_nm B p) = w1 at X1 g1 n1 n1' h1 ⊢
  refine ⟨⟨by omega, by omega⟩, h1.1.1.1, mm_whole (h1.at9) q_gi_eq p2N o6 (fun b1 b2 => ?_)⟩
  rw [q_si_si, bm_c1_v]
  have Z2 := h1.at9 (v := ((q1 - 1 : Nat) : Int))
  simp only [mp_isIn, bm_c1_v]
  by_cases c3 : -20 ≤ y_v (t_K B) (t_V B) (p + 2) ∧ y_v (t_K B) (t_V B) (p + 2) ≤ 20
  · rw [if_pos c3] at hq
    have e9 : bm_gi (bm_si w1 m 9 ((q1 - 1 : Nat) : Int)) m 9 = ((q1 - 1 : Nat) : Int) := q_gi_eq
    simp only [c3, and_self, if_true, Z2.1.1.1, e9, bm_w2 (show q1 - 1 < 2147483646 by omega), show q1 - 1 + 2 = q1 + 1 by omega, true_and, q_si_si]
    refine ⟨h1.1.1.1, mm_whole (h1.at9) q_gi_eq q11 hf2 (fun b3 b4 => ?_)⟩
    rw [q_si_si, bm_c1_v]
    have Z3 := h1.at9 (v := ((q - 1 : Nat) : Int))
    have e9' : bm_gi (bm_si w1 m 9 ((q - 1 : Nat) : Int)) m 9 = ((q - 1 : Nat) : Int) := q_gi_eq
    by_cases c4 : y_v (t_K B) (t_V B) (p + 2) ≤ y_v (t_K B) (t_V B) (q1 + 1) ∧ y_v (t_K B) (t_V B) (q1 + 1) ≤ 20
    · rw [if_pos c4] at hq
      have Y1 : mI m F w (bm_si w1 m 9 ((q : Nat) : Int)) := X1.at (Or.inr rfl)
      have S1 := (h.mI Y1).1.1
      have s3 : bm_gi (bm_si w1 m 9 ((q : Nat) : Int)) m 3 = bm_gi w m 3 := by rw [q_gi_nk (by decide), g1]
      have s18 : bm_gi (bm_si w1 m 9 ((q : Nat) : Int)) m 18 = (F : Int) := (Y1.2.1 18 (by decide) (by decide)).trans h18
      have s9 : bm_gi (bm_si w1 m 9 ((q : Nat) : Int)) m 9 = (q : Int) := q_gi_eq
      have s14 : bm_gi (bm_si w1 m 9 ((q : Nat) : Int)) (m + 14) F = (ins.length : Int) := by rw [q_gi_ne (by omega), g1]; exact i1
      have s16 : ∀ j, bm_gi (bm_si w1 m 9 ((q : Nat) : Int)) (m + 16) j = bm_gi w (m + 16) j ∧ bm_gi (bm_si w1 m 9 ((q : Nat) : Int)) (m + 17) j = bm_gi w (m + 17) j := fun j => ⟨by rw [q_gi_ne (by omega), g1], by rw [q_gi_ne (by omega), g1]⟩
      have s15 : ∀ j, bm_gl (bm_si w1 m 9 ((q : Nat) : Int)) (m + 15) j = bm_gl w1 (m + 15) j := fun j => rfl
      have qe : q - 1 + 1 = q := by omega
      simp only [c4, and_self, if_true, Z3.1.1.1, e9', bm_w1 (show q - 1 < 2147483647 by omega), qe, true_and, q_si_si]
      generalize bm_si w1 m 9 ((q : Nat) : Int) = s1 at Y1 S1 s3 s18 s9 s14 s16 s15 ⊢
      have S2 : sh_Md m (bm_si s1 (m + 16) (3 * F + ins.length) (y_v (t_K B) (t_V B) (p + 2))) := S1
      have u18 : bm_gi (bm_si s1 (m + 16) (3 * F + ins.length) (y_v (t_K B) (t_V B) (p + 2))) m 18 = (F : Int) := (q_gi_ne (by omega)).trans s18
      have S3 : sh_Md m (bm_si (bm_si s1 (m + 16) (3 * F + ins.length) (y_v (t_K B) (t_V B) (p + 2))) (m + 17) (3 * F + ins.length) (y_v (t_K B) (t_V B) (q1 + 1))) := S1
      have v18 : bm_gi (bm_si (bm_si s1 (m + 16) (3 * F + ins.length) (y_v (t_K B) (t_V B) (p + 2))) (m + 17) (3 * F + ins.length) (y_v (t_K B) (t_V B) (q1 + 1))) m 18 = (F : Int) := (q_gi_ne (by omega)).trans u18
      have v14 : bm_gi (bm_si (bm_si s1 (m + 16) (3 * F + ins.length) (y_v (t_K B) (t_V B) (p + 2))) (m + 17) (3 * F + ins.length) (y_v (t_K B) (t_V B) (q1 + 1))) (m + 14) F = (ins.length : Int) := by rw [q_gi_ne (by omega), q_gi_ne (by omega)]; exact s14
      have Y4 : mI m F w (bm_si (bm_si (bm_si s1 (m + 16) (3 * F + ins.length) (y_v (t_K B) (t_V B) (p + 2))) (m + 17) (3 * F + ins.length) (y_v (t_K B) (t_V B) (q1 + 1))) (m + 14) F ((ins.length + 1 : Nat) : Int)) := Y1.tr ⟨((q_fr.rf.si (by omega)).si (by omega)).si (by omega), fun k a b => by rw [q_gi_ne (by omega), q_gi_ne (by omega), q_gi_ne (by omega)], fun j hj => by rw [q_gi_nk hj, q_gi_ne (by omega), q_gi_ne (by omega)], fun j hj => ⟨rfl, by rw [q_gi_ne (by omega), q_gi_ne (by omega), q_gi_nk (by omega)], by rw [q_gi_ne (by omega), q_gi_nk (by omega), q_gi_ne (by omega)]⟩⟩
      have t9 : bm_gi (bm_si (bm_si (bm_si s1 (m + 16) (3 * F + ins.length) (y_v (t_K B) (t_V B) (p + 2))) (m + 17) (3 * F + ins.length) (y_v (t_K B) (t_V B) (q1 + 1))) (m + 14) F ((ins.length + 1 : Nat) : Int)) m 9 = (q : Int) := by rw [q_gi_ne (by omega), q_gi_ne (by omega), q_gi_ne (by omega)]; exact s9
      have t14 : bm_gi (bm_si (bm_si (bm_si s1 (m + 16) (3 * F + ins.length) (y_v (t_K B) (t_V B) (p + 2))) (m + 17) (3 * F + ins.length) (y_v (t_K B) (t_V B) (q1 + 1))) (m + 14) F ((ins.length + 1 : Nat) : Int)) (m + 14) F = ((ins.length + 1 : Nat) : Int) := q_gi_eq
      have t16 : ∀ j, bm_gi (bm_si (bm_si (bm_si s1 (m + 16) (3 * F + ins.length) (y_v (t_K B) (t_V B) (p + 2))) (m + 17) (3 * F + ins.length) (y_v (t_K B) (t_V B) (q1 + 1))) (m + 14) F ((ins.length + 1 : Nat) : Int)) (m + 16) j = if j = 3 * F + ins.length then y_v (t_K B) (t_V B) (p + 2) else bm_gi w (m + 16) j := fun j => by
        rw [q_gi_ne (by omega), q_gi_ne (by omega)]
        by_cases z : j = 3 * F + ins.length
        · rw [if_pos z, z, q_gi_eq]
        · rw [if_neg z, q_gi_nk z]; exact (s16 j).1
      have t17 : ∀ j, bm_gi (bm_si (bm_si (bm_si s1 (m + 16) (3 * F + ins.length) (y_v (t_K B) (t_V B) (p + 2))) (m + 17) (3 * F + ins.length) (y_v (t_K B) (t_V B) (q1 + 1))) (m + 14) F ((ins.length + 1 : Nat) : Int)) (m + 17) j = if j = 3 * F + ins.length then y_v (t_K B) (t_V B) (q1 + 1) else bm_gi w (m + 17) j := fun j => by
        rw [q_gi_ne (by omega)]
        by_cases z : j = 3 * F + ins.length
        · rw [if_pos z, z, q_gi_eq]
        · rw [if_neg z, q_gi_nk z, q_gi_ne (by omega)]; exact (s16 j).2
      have t15 : ∀ j, bm_gl (bm_si (bm_si (bm_si s1 (m + 16) (3 * F + ins.length) (y_v (t_K B) (t_V B) (p + 2))) (m + 17) (3 * F + ins.length) (y_v (t_K B) (t_V B) (q1 + 1))) (m + 14) F ((ins.length + 1 : Nat) : Int)) (m + 15) j = if j = 3 * F + ins.length then t_nm B p else bm_gl w (m + 15) j := fun j => by
        show bm_gl s1 (m + 15) j = _
        rw [s15]
        by_cases z : j = 3 * F + ins.length
        · rw [if_pos z, z]; exact n1
        · rw [if_neg z]; exact n1' j z
      simp only [bm_c0_v, bm_c1_v, bm_c2_v, bm_c3_v, bm_c4_v, bm_c5_v, bm_u_some, decide_eq_true_eq, true_and, and_true, and_self, Bool.not_eq_true, Bool.not_eq_true', decide_eq_false_iff_not, if_true, if_false, ite_true, ite_false, eq_self, S1.1, S1.g22, S1.t22, S1.n22, s18, bm_w3 hF, bm_wN (show 3 * F + ins.length < 2147483648 by omega), Int.toNat_natCast, bm_in, S2.1, S2.g23, S2.t23, S2.n23, u18, S3.1, S3.g20, S3.t20, S3.n20, v18, v14, bm_w1 (show ins.length < 2147483647 by omega)]
      refine ⟨by omega, by omega, by omega, by omega, vb_X12_input_204 (hq 0 _ Y4 ⟨rfl, by rw [q_gi_ne (by omega), q_gi_ne (by omega), q_gi_ne (by omega)]; exact s3, t9, ?_, ?_, fun i hi => ?_, ?_⟩)⟩
      · rw [t14, List.length_append]
        rfl
      · rw [List.length_append]
        simp
        omega
      · rw [List.length_append, List.length_singleton] at hi
        rw [t15, t16, t17]
        by_cases z : i = ins.length
        · rw [if_pos (by omega), if_pos (by omega), if_pos (by omega), q_gde z]
          exact ⟨⟨o2, rfl⟩, rfl, rfl⟩
        · rw [if_neg (by omega), if_neg (by omega), if_neg (by omega), q_gdl (by omega)]
          exact i3 i (by omega)
      · rw [List.map_append]
        exact y_ds_snoc (x := p) i4 (by omega)
    · rw [if_neg c4] at hq ⊢
      rw [if_neg (by decide)]
      simp only [Z3.1.1.1, e9', true_and]
      refine mm_wrong (d := d + 7) Z3 (x := q - 1) (by omega) (fun a => ?_)
      rw [bm_c1_v]
      exact hq 5 _ ((X1.at (Or.inr rfl)).at (Or.inl rfl)) (ma_wr (by decide) a)
  · rw [if_neg c3] at hq ⊢
    rw [if_neg (by decide)]
    have e9 : bm_gi (bm_si w1 m 9 ((q1 - 1 : Nat) : Int)) m 9 = ((q1 - 1 : Nat) : Int) := q_gi_eq
    simp only [Z2.1.1.1, e9, true_and]
    refine mm_wrong (d := d + 7) Z2 (x := q1 - 1) (by omega) (fun a => ?_)
    rw [bm_c1_v]
    exact hq 5 _ ((X1.at (Or.inr rfl)).at (Or.inl rfl)) (ma_wr (by decide) a)
end MN

/-! ===== the model: meaning of functions ===== -/
theorem mf.fr2 {m F c : Nat} {w w' : bm_W} (h : mf m F c w w') (hs : m + 31 < bm_sz w) : mfr m F w w' ∧ mtr m w w' ∧ mG m c w w' := by
  have g : ∀ a j, a < m + 32 → ¬ (a = m ∨ (m + 7 ≤ a ∧ a ≤ m + 12) ∨ a = m + 20) → bm_gi w' a j = bm_gi w a j := fun a j h1 h2 => h.1.gi (by omega) h2
  have gl : ∀ a j, a < m + 32 → ¬ (a = m ∨ (m + 7 ≤ a ∧ a ≤ m + 12) ∨ a = m + 20) → bm_gl w' a j = bm_gl w a j := fun a j h1 h2 => h.1.gl (by omega) h2
  refine ⟨⟨fun x hx => ⟨gl _ _ (by omega) (by omega), g _ _ (by omega) (by omega), g _ _ (by omega) (by omega), g _ _ (by omega) (by omega), h.2.2.1 x (by omega)⟩, fun j _ => ⟨gl _ _ (by omega) (by omega), g _ _ (by omega) (by omega), g _ _ (by omega) (by omega)⟩, h.2.2.2.2, h.2.2.2.1⟩, ⟨h.2.1 28 (by decide) (by decide) (by decide) (by decide), fun a j x y => ⟨g _ _ (by omega) (by omega), gl _ _ (by omega) (by omega)⟩⟩, ⟨h.1.mo (fun a z => by omega) (fun _ z => z) (Nat.le_refl _) (Nat.le_refl _), fun k hk => h.2.1 k (by omega) (by omega) (by omega) (by omega)⟩⟩
section MN
variable {d m N p q b e F : Nat} {B : Int → Int} {w : bm_W} {Φ : bm_Rt → bm_W → Prop} {ins : List y_in} {pr : y_pr}
theorem mm_isTaken (h : md_Z m B N w) (hf : mfs m B pr.1 w) (ht : mts m B pr w) (hx : t_K B q = 3) (hq : Φ (.inl (some (bm_i (if y_tk (t_V B) pr (t_V B q) then 1 else 0)))) w) : bm_Call bm_pg (d + 2) y_X12_isTaken [bm_r (some m), bm_l (t_nm B q)] w Φ := by
  have f1 : t_fd (bm_gl w (m + 13)) 0 (t_nm B q) pr.1.length = y_ix (t_V B) (t_V B q) (pr.1.map (·.1)) 0 := by
    have := t_fd_ix (B := B) (g := bm_gl w (m + 13)) (p := 0) (x := q) (l := pr.1.map (·.1)) (fun j hj => by
      rw [List.length_map] at hj
      rw [q_gdm (a := y_f0) hj, Nat.zero_add]
      exact (hf.2.2.1 j hj).1) hf.2.2.2 hx
    rw [List.length_map] at this
    exact this
  have f2 : t_fd (bm_gl w (m + 21)) 0 (t_nm B q) pr.2.length = y_ix (t_V B) (t_V B q) (pr.2.map (·.1)) 0 := by
    have := t_fd_ix (B := B) (g := bm_gl w (m + 21)) (p := 0) (x := q) (l := pr.2.map (·.1)) (fun j hj => by
      rw [List.length_map] at hj
      rw [q_gdm (a := y_t0) hj, Nat.zero_add]
      exact (ht.2.2.1 j hj).1) ht.2.2.2 hx
    rw [List.length_map] at this
    exact this
  have n1 : ∀ Ψ, bm_Call bm_pg (d + 1) y_X12_find [bm_r (some (m + 13)), bm_i 0, bm_i (pr.1.length : Int), bm_l (t_nm B q)] w Ψ ↔ Ψ (.inl (some (bm_i (y_ix (t_V B) (t_V B q) (pr.1.map (·.1)) 0)))) w := fun Ψ => by
    have := mp_find (d := d) (Φ := Ψ) (p := 0) (k := pr.1.length) (v := t_nm B q) h.1.1.t19 (by rw [h.1.1.n19]; have := hf.2.1; omega) (by rw [h.1.1.n19]; decide)
    rw [f1] at this
    exact this
  have n2 : ∀ Ψ, bm_Call bm_pg (d + 1) y_X12_find [bm_r (some (m + 21)), bm_i 0, bm_i (pr.2.length : Int), bm_l (t_nm B q)] w Ψ ↔ Ψ (.inl (some (bm_i (y_ix (t_V B) (t_V B q) (pr.2.map (·.1)) 0)))) w := fun Ψ => by
    have := mp_find (d := d) (Φ := Ψ) (p := 0) (k := pr.2.length) (v := t_nm B q) h.1.1.t29 (by rw [h.1.1.n29]; have := ht.2.1; omega) (by rw [h.1.1.n29]; decide)
    rw [f2] at this
    exact this
  refine vc_X12_isTaken ?_
  simp only [bm_c0_v, bm_c1_v, bm_c2_v, bm_c3_v, bm_c4_v, bm_c5_v, bm_u_some, decide_eq_true_eq, true_and, and_true, and_self, Bool.not_eq_true, Bool.not_eq_true', decide_eq_false_iff_not, if_true, if_false, ite_true, ite_false, eq_self, h.1.1.1, h.1.1.g19, h.1.1.t19, h.1.1.n19, h.1.1.g29, h.1.1.t29, h.1.1.n29, hf.1, ht.1, n1, n2]
  have r1 := y_ix_rng (V := t_V B) (v := t_V B q) (pr.1.map (·.1)) 0 (Int.le_refl _)
  have r2 := y_ix_rng (V := t_V B) (v := t_V B q) (pr.2.map (·.1)) 0 (Int.le_refl _)
  unfold y_tk at hq
  by_cases c1 : 0 ≤ y_ix (t_V B) (t_V B q) (pr.1.map (·.1)) 0
  · rw [if_pos (Or.inl c1)] at hq
    rw [if_pos (by omega)]
    exact ⟨Or.inr trivial, hq⟩
  rw [if_neg (by omega)]
  by_cases c2 : 0 ≤ y_ix (t_V B) (t_V B q) (pr.2.map (·.1)) 0
  · rw [if_pos (Or.inr c2)] at hq
    rw [if_neg (by omega)]
    exact ⟨Or.inr trivial, hq⟩
  · rw [if_neg (fun z => z.elim c1 c2)] at hq
    rw [if_pos (by omega)]
    exact ⟨Or.inl trivial, hq⟩
theorem mm_walk {v2 v3 : Int} (he : e ≤ N) (hk : t_K B e = 19) : ∀ (k x : Nat) (w : bm_W), x + k = e → md_Z m B N w → bm_gi w m 9 = (x : Int) → (∀ y, x ≤ y → y < e → t_K B y ≠ 19) → bk_X12_fun_95 (d + 6) Φ m v2 v3 (bm_si w m 9 (e : Int)) → bk_X12_fun_95 (d + 6) Φ m v2 v3 w
  | 0, x, w, hx, h, h9, _, hq => by
    rw [q_si_self (show bm_gi w m 9 = (e : Int) by rw [h9]; omega)] at hq
    exact hq
  | k + 1, x, w, hx, h, h9, hn, hq => by
    have N5 := h.2.2.1
    have k6 : t_kc 6 = 19 := rfl
    refine vb_X12_fun_95 ?_
    simp only [bm_c0_v, bm_c1_v, bm_c2_v, bm_c3_v, bm_c4_v, bm_c5_v, bm_u_some, decide_eq_true_eq, true_and, and_true, and_self, Bool.not_eq_true, Bool.not_eq_true', decide_eq_false_iff_not, if_true, if_false, ite_true, ite_false, eq_self, h.1.1.1, true_or, or_true, mp_sees h h9 (show x ≤ N by omega) (show 1 ≤ 6 by decide) (show 6 < 31 by decide), k6, if_neg (hn x (Nat.le_refl _) (by omega)), h9, bm_w1 (show x < 2147483647 by omega)]
    rw [if_neg (by decide)]
    refine mm_walk he hk k (x + 1) _ (by omega) h.at9 q_gi_eq (fun y a b => hn y (by omega) b) ?_
    rw [q_si_si]
    exact hq
/-- what holds behind the head of a function -/
def mg (m N : Nat) (B : Int → Int) (pr : y_pr) (ins : List y_in) (p b : Nat) (w : bm_W) : Prop := md_Z m B N w ∧ m + 31 < bm_sz w ∧ mfs m B pr.1 w ∧ mts m B pr w ∧ bm_gi w m 27 = (y_I (t_K B) b : Int) ∧ (∃ n : Nat, bm_gi w m 11 = (n : Int) ∧ n ≤ b) ∧ y_I (t_K B) b ≤ 9 * pr.1.length ∧ pr.1.length < 6 ∧ mip m B pr.1.length ins w ∧ 1 ≤ ins.length ∧ t_K B (p + 1) = 3 ∧ p + 1 ≤ N ∧ p ≤ b ∧ y_ix (t_V B) (t_V B (p + 1)) (pr.1.map (·.1)) 0 < 0
/-- the body's world -/
theorem mg.mz {w2 : bm_W} (h : mg m N B pr ins p b w) (hk : t_K B e = 19) (hbe : b ≤ e) (he : e ≤ N) (he50 : e ≤ b + 50) (hm : mk_to m b e (t_K B) (y_P (t_K B) b) (y_I (t_K B)) (bm_si w m 9 (e : Int)) w2) (h19 : ∀ j, j ≠ pr.1.length → bm_gi w2 (m + 19) j = bm_gi w (m + 19) j) : mz m N b e pr.1.length ins.length B (y_E (t_V B) pr.1 ins) (y_P (t_K B) b) (y_I (t_K B)) (bm_si (bm_si w2 m 9 (b : Int)) (m + 20) pr.1.length ((e - b : Nat) : Int)) b := by
  obtain ⟨a1, a2, a3, a4, a5, ⟨n, a6, a7⟩, a8, a9, a10, a11, a12, a13, a14, a15⟩ := h
  obtain ⟨m1, m2, m3, m4⟩ := hm
  have Fr : q_fr (fun a => a = m ∨ a = m + 5 ∨ a = m + 6 ∨ a = m + 19 ∨ a = m + 20) w (bm_si (bm_si w2 m 9 (b : Int)) (m + 20) pr.1.length ((e - b : Nat) : Int)) := ((((q_fr.rf.si (A := fun a => a = m ∨ a = m + 5 ∨ a = m + 6 ∨ a = m + 19 ∨ a = m + 20) (Or.inl rfl)).tr (m1.mo (fun a z => by omega))).si (Or.inl rfl)).si (by omega))
  have fl : ∀ k, k ≠ 9 → k ≠ 27 → bm_gi (bm_si (bm_si w2 m 9 (b : Int)) (m + 20) pr.1.length ((e - b : Nat) : Int)) m k = bm_gi w m k := fun k x y => by
    rw [q_gi_ne (by omega), q_gi_nk x, m2 k y, q_gi_nk x]
  refine ⟨⟨md_Z.fr Fr (fun j h1 h2 => by omega) (fl 2 (by decide) (by decide)) a1, by rw [Fr.sz]; exact a2, (fl 18 (by decide) (by decide)).trans a3.1, a9, (Fr.gi (by omega)).trans a10.1, a10.2.1⟩, ⟨?_, by omega, Nat.le_refl _, n, (fl 11 (by decide) (by decide)).trans a6, a7⟩, fun x x1 x2 => ?_, fun x x1 x2 => ⟨?_, ?_⟩, fun g hg => ⟨?_, ?_⟩, ?_⟩
  · rw [q_gi_ne (by omega), q_gi_eq]
  · have := m4 x x1 x2
    rw [q_gi_ne (by omega), q_gi_ne (by omega), q_gi_ne (by omega), q_gi_ne (by omega)]
    exact ⟨this.1, this.2.2⟩
  · have := t_fd_ix (B := B) (g := bm_gl w (m + 15)) (p := 3 * pr.1.length) (x := x) (l := ins.map (·.1)) (fun j hj => by
      rw [List.length_map] at hj
      rw [q_gdm (a := y_i0) hj]
      exact (a10.2.2.1 j hj).1) a10.2.2.2 x2
    rw [List.length_map] at this
    rw [show bm_gl (bm_si (bm_si w2 m 9 (b : Int)) (m + 20) pr.1.length ((e - b : Nat) : Int)) (m + 15) = bm_gl w (m + 15) from funext fun j => Fr.gl (by omega)]
    exact this
  · have := t_fd_ix (B := B) (g := bm_gl w (m + 13)) (p := 0) (x := x) (l := pr.1.map (·.1)) (fun j hj => by
      rw [List.length_map] at hj
      rw [q_gdm (a := y_f0) hj, Nat.zero_add]
      exact (a3.2.2.1 j hj).1) a3.2.2.2 x2
    rw [List.length_map] at this
    rw [show bm_gl (bm_si (bm_si w2 m 9 (b : Int)) (m + 20) pr.1.length ((e - b : Nat) : Int)) (m + 13) = bm_gl w (m + 13) from funext fun j => Fr.gl (by omega)]
    exact this
  · rw [Fr.gi (by omega)]
    exact (a3.2.2.1 g hg).2.1.1
  · rw [q_gi_nk (by omega), q_gi_ne (by omega), m1.gi (by omega), q_gi_ne (by omega)]
    exact (a3.2.2.1 g hg).2.2.2.2.1
  · rw [q_gi_eq]
    omega
end MN

/-! ===== the best row of inputs, in the class ===== -/
/-- the first of n places with more than was found -/
def u_fo (f : Nat → Int) (base : Nat) : Nat → Int × Int → Int × Int
  | 0, s => s
  | n + 1, s => if (u_fo f base n s).2 < f n then (((base + n : Nat) : Int), f n) else u_fo f base n s
theorem u_fo_s (f : Nat → Int) (base n : Nat) (s : Int × Int) : u_fo f base (n + 1) s = if (u_fo f base n s).2 < f n then (((base + n : Nat) : Int), f n) else u_fo f base n s := rfl
theorem u_fo_add (f : Nat → Int) (base N : Nat) (s : Int × Int) : ∀ n : Nat, u_fo f base (N + n) s = u_fo (fun i => f (N + i)) (base + N) n (u_fo f base N s)
  | 0 => rfl
  | n + 1 => by
    rw [show N + (n + 1) = (N + n) + 1 from rfl, u_fo_s, u_fo_s, u_fo_add f base N s n, Nat.add_assoc]
theorem u_fo_ext {f g : Nat → Int} (base : Nat) (s : Int × Int) : ∀ n : Nat, (∀ i, i < n → f i = g i) → u_fo f base n s = u_fo g base n s
  | 0, _ => rfl
  | n + 1, h => by rw [u_fo_s, u_fo_s, u_fo_ext base s n (fun i hi => h i (by omega)), h n (by omega)]
theorem u_fo_best {f : Nat → Int} {base N c : Nat} {s : Int × Int} (h : u_best f N c) : u_fo f base N s = if s.2 < f c then (((base + c : Nat) : Int), f c) else s := by
  obtain ⟨h1, h2, h3⟩ := h
  have lo : ∀ n, n ≤ c → u_fo f base n s = s ∨ (s.2 < (u_fo f base n s).2 ∧ (u_fo f base n s).2 < f c) := by
    intro n
    induction n with
    | zero => intro _; exact Or.inl rfl
    | succ n ih =>
      intro hn
      have a := h3 n (by omega)
      rw [u_fo_s]
      by_cases z : (u_fo f base n s).2 < f n
      · rw [if_pos z]
        refine Or.inr ⟨?_, a⟩
        show s.2 < f n
        rcases ih (by omega) with y | y
        · rw [y] at z; exact z
        · omega
      · rw [if_neg z]
        exact ih (by omega)
  have hc : u_fo f base (c + 1) s = if s.2 < f c then (((base + c : Nat) : Int), f c) else s := by
    rw [u_fo_s]
    rcases lo c (Nat.le_refl _) with y | y
    · rw [y]
    · rw [if_pos y.2, if_pos (by omega)]
  have hi : ∀ m, c + 1 + m ≤ N → u_fo f base (c + 1 + m) s = if s.2 < f c then (((base + c : Nat) : Int), f c) else s := by
    intro m
    induction m with
    | zero => intro _; exact hc
    | succ m ih =>
      intro hm
      have a := h2 (c + 1 + m) (by omega)
      rw [show c + 1 + (m + 1) = (c + 1 + m) + 1 from rfl, u_fo_s, ih (by omega)]
      by_cases z : s.2 < f c
      · rw [if_pos z, if_neg (by show ¬ f c < _; omega)]
      · rw [if_neg z, if_neg (by omega)]
  have := hi (N - (c + 1)) (by omega)
  rw [show c + 1 + (N - (c + 1)) = N by omega] at this
  exact this
/-- over rows of inputs by their three values -/
def u_g2 (o : Nat → Nat → Nat → Int) (a n1 n2 : Nat) : Nat → Int × Int → Int × Int
  | 0, s => s
  | b + 1, s => u_fo (o a b) ((a * n1 + b) * n2) n2 (u_g2 o a n1 n2 b s)
def u_g1 (o : Nat → Nat → Nat → Int) (n1 n2 : Nat) : Nat → Int × Int
  | 0 => (-1, 0)
  | a + 1 => u_g2 o a n1 n2 n1 (u_g1 o n1 n2 a)
theorem u_g2_lin {o : Nat → Nat → Nat → Int} {a n1 n2 : Nat} {g : Nat → Int} {s : Int × Int} : ∀ b : Nat, (∀ b' c, b' < b → c < n2 → g (b' * n2 + c) = o a b' c) → u_g2 o a n1 n2 b s = u_fo g (a * n1 * n2) (b * n2) s
  | 0, _ => by rw [Nat.zero_mul]; rfl
  | b + 1, h => by
    show u_fo (o a b) ((a * n1 + b) * n2) n2 (u_g2 o a n1 n2 b s) = _
    rw [u_g2_lin b (fun b' c hb hc => h b' c (by omega) hc), Nat.succ_mul, u_fo_add, Nat.add_mul]
    exact u_fo_ext _ _ _ (fun i hi => (h b i (by omega) hi).symm)
theorem u_g1_lin {o : Nat → Nat → Nat → Int} {n1 n2 : Nat} {g : Nat → Int} : ∀ a : Nat, (∀ a' b c, a' < a → b < n1 → c < n2 → g ((a' * n1 + b) * n2 + c) = o a' b c) → u_g1 o n1 n2 a = u_fo g 0 (a * (n1 * n2)) (-1, 0)
  | 0, _ => by rw [Nat.zero_mul]; rfl
  | a + 1, h => by
    show u_g2 o a n1 n2 n1 (u_g1 o n1 n2 a) = _
    rw [u_g1_lin a (fun a' b c ha hb hc => h a' b c (by omega) hb hc), Nat.succ_mul, u_fo_add, Nat.zero_add, ← Nat.mul_assoc]
    refine u_g2_lin n1 (fun b c hb hc => ?_)
    rw [← h a b c (by omega) hb hc, Nat.add_mul, Nat.add_assoc]
theorem u_fo_rng {f : Nat → Int} {base : Nat} : ∀ (n : Nat) (s : Int × Int), (u_fo f base n s).1 = s.1 ∨ ∃ i : Nat, i < n ∧ (u_fo f base n s).1 = ((base + i : Nat) : Int)
  | 0, s => Or.inl rfl
  | n + 1, s => by
    rw [u_fo_s]
    by_cases z : (u_fo f base n s).2 < f n
    · rw [if_pos z]
      exact Or.inr ⟨n, by omega, rfl⟩
    · rw [if_neg z]
      rcases u_fo_rng (f := f) (base := base) n s with y | ⟨i, h1, h2⟩
      · exact Or.inl y
      · exact Or.inr ⟨i, by omega, h2⟩
/-- how many pairs a row of inputs has -/
def u_own (M : Nat → Nat → Nat → Bool) (a b c : Nat) : Int := bm_bo (M 0 a b) + bm_bo (M 1 a c) + bm_bo (M 2 b c)
section BR
variable {d u n0 n1 n2 : Nat} {w : bm_W} {Φ : bm_Rt → bm_W → Prop} {M : Nat → Nat → Nat → Bool}
theorem br_w {a b c : Nat} (ha : a < 41) (hb : b < 41) (hc : c < 41) (h1 : n1 ≤ 41) (h2 : n2 ≤ 41) : bm_w (bm_w (bm_w (bm_w ((a : Int) * (n1 : Int)) + (b : Int)) * (n2 : Int)) + (c : Int)) = (((a * n1 + b) * n2 + c : Nat) : Int) := by
  have m1 : a * n1 ≤ 40 * 41 := Nat.mul_le_mul (by omega) h1
  have m2 : (a * n1 + b) * n2 ≤ 1680 * 41 := Nat.mul_le_mul (by omega) h2
  have e1 : bm_w ((a : Int) * (n1 : Int)) = ((a * n1 : Nat) : Int) := by
    rw [← Int.natCast_mul]
    exact q_wI ⟨by omega, by omega⟩
  have e2 : bm_w (((a * n1 + b : Nat) : Int) * (n2 : Int)) = (((a * n1 + b) * n2 : Nat) : Int) := by
    rw [← Int.natCast_mul]
    exact q_wI ⟨by omega, by omega⟩
  rw [e1, bm_wN (by omega), e2, bm_wN (by omega)]
theorem br_17 (U : sh_Un u w) (hM : u_ms u M w) (e4 : bm_gi w u 4 = (n1 : Int)) (e5 : bm_gi w u 5 = (n2 : Int)) (h1 : 1 ≤ n1 ∧ n1 ≤ 41) (h2 : 1 ≤ n2 ∧ n2 ≤ 41) (z1 : ∀ x c, n2 ≤ c → M 1 x c = false) (z2 : ∀ x c, n2 ≤ c → M 2 x c = false) {a : Nat} (ha : a < 41) (s0 : Int × Int) (hq : bk_X10_bestRow_6 (d + 3) Φ u (u_g2 (u_own M) a n1 n2 n1 s0).1 (u_g2 (u_own M) a n1 n2 n1 s0).2 ((a + 1 : Nat) : Int) w) : ∀ (rem b : Nat), b + rem = n1 → bk_X10_bestRow_17 (d + 3) Φ u (u_g2 (u_own M) a n1 n2 b s0).1 (u_g2 (u_own M) a n1 n2 b s0).2 (a : Int) (b : Int) w
  | 0, b, hb => by
    refine vb_X10_bestRow_17 ?_
    simp only [bm_c0_v, bm_c1_v, bm_c2_v, bm_c3_v, bm_c4_v, bm_c5_v, bm_u_some, decide_eq_true_eq, true_and, and_true, and_self, Bool.not_eq_true, Bool.not_eq_true', decide_eq_false_iff_not, if_true, if_false, ite_true, ite_false, eq_self, U.1, e4]
    rw [if_pos (by omega), bm_w1 (show a < 2147483647 by omega)]
    have : b = n1 := by omega
    subst this
    exact hq
  | rem + 1, b, hb => by
    have ih := br_17 U hM e4 e5 h1 h2 z1 z2 ha s0 hq rem (b + 1) (by omega)
    refine vb_X10_bestRow_17 ?_
    simp only [bm_c0_v, bm_c1_v, bm_c2_v, bm_c3_v, bm_c4_v, bm_c5_v, bm_u_some, decide_eq_true_eq, true_and, and_true, and_self, Bool.not_eq_true, Bool.not_eq_true', decide_eq_false_iff_not, if_true, if_false, ite_true, ite_false, eq_self, U.1, e4, e5, bm_w1 (show b < 2147483647 by omega)]
    rw [if_neg (by omega)]
    refine sp_bestThird (d := d) (n2 := n2) U hM ha (by omega) h2 (z1 a) (z2 b) (fun c hc => ?_)
    rw [bm_c1_v]
    have c41 : c < 41 := by have := hc.1; omega
    simp only [bm_c0_v, bm_c1_v, bm_c2_v, bm_c3_v, bm_c4_v, bm_c5_v, bm_u_some, decide_eq_true_eq, true_and, and_true, and_self, Bool.not_eq_true, Bool.not_eq_true', decide_eq_false_iff_not, if_true, if_false, ite_true, ite_false, eq_self, U.1, e4, e5, sp_pairsIn (d := d) U hM ha (show b < 41 by omega) c41, br_w ha (show b < 41 by omega) c41 h1.2 h2.2]
    have hb2 : u_best (u_own M a b) n2 c := by
      obtain ⟨b1, b2, b3⟩ := hc
      simp only at b2 b3
      refine ⟨b1, fun i hi => ?_, fun i hi => ?_⟩
      · have := b2 i hi
        unfold u_own
        omega
      · have := b3 i hi
        unfold u_own
        omega
    have e : u_g2 (u_own M) a n1 n2 (b + 1) s0 = if (u_g2 (u_own M) a n1 n2 b s0).2 < u_own M a b c then ((((a * n1 + b) * n2 + c : Nat) : Int), u_own M a b c) else u_g2 (u_own M) a n1 n2 b s0 := u_fo_best hb2
    rw [e] at ih
    show if u_own M a b c ≤ (u_g2 (u_own M) a n1 n2 b s0).2 then _ else _
    by_cases z : (u_g2 (u_own M) a n1 n2 b s0).2 < u_own M a b c
    · rw [if_pos z] at ih
      rw [if_neg (by omega)]
      exact ih
    · rw [if_neg z] at ih
      rw [if_pos (by omega)]
      exact ih
theorem sp_bestRow (U : sh_Un u w) (hM : u_ms u M w) (e3 : bm_gi w u 3 = (n0 : Int)) (e4 : bm_gi w u 4 = (n1 : Int)) (e5 : bm_gi w u 5 = (n2 : Int)) (h0 : n0 ≤ 41) (h1 : 1 ≤ n1 ∧ n1 ≤ 41) (h2 : 1 ≤ n2 ∧ n2 ≤ 41) (z1 : ∀ x c, n2 ≤ c → M 1 x c = false) (z2 : ∀ x c, n2 ≤ c → M 2 x c = false) (hq : Φ (.inl (some (bm_i (u_g1 (u_own M) n1 n2 n0).1))) w) : bm_Call bm_pg (d + 4) y_X10_bestRow [bm_r (some u)] w Φ := by
  have lp : ∀ (rem a : Nat), a + rem = n0 → bk_X10_bestRow_6 (d + 3) Φ u (u_g1 (u_own M) n1 n2 a).1 (u_g1 (u_own M) n1 n2 a).2 (a : Int) w := by
    intro rem
    induction rem with
    | zero =>
      intro a ha
      refine vb_X10_bestRow_6 ?_
      simp only [bm_c0_v, bm_c1_v, bm_c2_v, bm_c3_v, bm_c4_v, bm_c5_v, bm_u_some, decide_eq_true_eq, true_and, and_true, and_self, Bool.not_eq_true, Bool.not_eq_true', decide_eq_false_iff_not, if_true, if_false, ite_true, ite_false, eq_self, U.1, e3]
      rw [if_pos (by omega)]
      have : a = n0 := by omega
      subst this
      exact hq
    | succ rem ih =>
      intro a ha
      refine vb_X10_bestRow_6 ?_
      simp only [bm_c0_v, bm_c1_v, bm_c2_v, bm_c3_v, bm_c4_v, bm_c5_v, bm_u_some, decide_eq_true_eq, true_and, and_true, and_self, Bool.not_eq_true, Bool.not_eq_true', decide_eq_false_iff_not, if_true, if_false, ite_true, ite_false, eq_self, U.1, e3]
      rw [if_neg (by omega)]
      exact br_17 (d := d) U hM e4 e5 h1 h2 z1 z2 (by omega) (u_g1 (u_own M) n1 n2 a) (ih (a + 1) (by omega)) n1 0 (by omega)
  exact vc_X10_bestRow (lp n0 0 (by omega))
end BR

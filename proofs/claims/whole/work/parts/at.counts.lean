/-! ===== pairs are counted alike ===== -/
def u_su (f : Nat → Int) : Nat → Int
  | 0 => 0
  | n + 1 => u_su f n + f n
theorem u_su_ext {f g : Nat → Int} : ∀ {n : Nat}, (∀ i, i < n → f i = g i) → u_su f n = u_su g n
  | 0, _ => rfl
  | n + 1, h => by
    show u_su f n + f n = u_su g n + g n
    rw [u_su_ext (fun i hi => h i (by omega)), h n (by omega)]
theorem u_su_add (f : Nat → Int) (a : Nat) : ∀ b : Nat, u_su f (a + b) = u_su f a + u_su (fun i => f (a + i)) b
  | 0 => (Int.add_zero _).symm
  | b + 1 => by
    show u_su f (a + b) + f (a + b) = u_su f a + (u_su (fun i => f (a + i)) b + f (a + b))
    rw [u_su_add f a b, Int.add_assoc]
theorem u_su_0 {f : Nat → Int} : ∀ {n : Nat}, (∀ i, i < n → f i = 0) → u_su f n = 0
  | 0, _ => rfl
  | n + 1, h => by
    show u_su f n + f n = 0
    rw [u_su_0 (fun i hi => h i (by omega)), h n (by omega)]; rfl
theorem u_su_pl (f g : Nat → Int) : ∀ n : Nat, u_su (fun i => f i + g i) n = u_su f n + u_su g n
  | 0 => rfl
  | n + 1 => by
    show u_su (fun i => f i + g i) n + (f n + g n) = (u_su f n + f n) + (u_su g n + g n)
    rw [u_su_pl f g n]
    omega
theorem u_su_c (c : Int) : ∀ n : Nat, u_su (fun _ => c) n = (n : Int) * c
  | 0 => (Int.zero_mul _).symm
  | n + 1 => by
    show u_su (fun _ => c) n + c = _
    rw [u_su_c c n, show ((n + 1 : Nat) : Int) = (n : Int) + 1 by omega, Int.add_mul, Int.one_mul]
theorem u_su_grid (f : Nat → Int) (W : Nat) : ∀ N : Nat, u_su f (N * W) = u_su (fun X => u_su (fun Y => f (X * W + Y)) W) N
  | 0 => by rw [Nat.zero_mul]; rfl
  | N + 1 => by
    rw [Nat.succ_mul, u_su_add, u_su_grid f W N]
    rfl
theorem u_c_su (g : Nat → Bool) : ∀ n : Nat, u_c g n = u_su (fun i => bm_bo (g i)) n
  | 0 => rfl
  | n + 1 => by
    show u_c g n + bm_bo (g n) = u_su _ n + bm_bo (g n)
    rw [u_c_su g n]
theorem u_cc_su (M : Nat → Nat → Bool) : ∀ n : Nat, u_cc M n = u_su (fun a => u_su (fun b => bm_bo (M a b)) 41) n
  | 0 => rfl
  | n + 1 => by
    show u_cc M n + u_c (M n) 41 = u_su _ n + u_su _ 41
    rw [u_cc_su M n, u_c_su]
/-- a stretch of values -/
theorem u_su_str {f : Nat → Int} {n : Int} (h0 : 0 ≤ n) (W : Nat) (hn : n ≤ W) : u_su (fun a => if (a : Int) < n then f a else 0) W = u_su f n.toNat := by
  obtain ⟨R, hR⟩ : ∃ R, W = n.toNat + R := ⟨W - n.toNat, by omega⟩
  rw [hR, u_su_add, u_su_0 (n := R) (f := fun i => if ((n.toNat + i : Nat) : Int) < n then f (n.toNat + i) else 0) (fun i _ => if_neg (by omega)), Int.add_zero]
  exact u_su_ext (fun i hi => if_pos (by omega))
theorem u_shift {g : Int → Int} {lo n : Int} (W : Nat) (h0 : -20 ≤ lo) (hn : 0 ≤ n) (h1 : lo + n + 20 ≤ W) (hz : ∀ x, ¬ (lo ≤ x ∧ x < lo + n) → g x = 0) : u_su (fun X => g ((X : Int) - 20)) W = u_su (fun a => if (a : Int) < n then g (lo + a) else 0) W := by
  rw [u_su_str (f := fun a => g (lo + a)) hn W (by omega)]
  obtain ⟨R, hR⟩ : ∃ R, W = (lo + 20).toNat + (n.toNat + R) := ⟨W - (lo + 20).toNat - n.toNat, by omega⟩
  rw [hR, u_su_add, u_su_add, u_su_0 (f := fun X => g ((X : Int) - 20)) (fun i hi => hz _ (by omega)), u_su_0 (n := R) (fun i hi => hz _ (by omega)), Int.zero_add, Int.add_zero]
  exact u_su_ext (fun i hi => congrArg g (by omega))
/-- tried pairs, over all values -/
def u_G (U : Nat → Int → Int → Bool) (W p : Nat) : Int := u_su (fun X => u_su (fun Y => bm_bo (U p ((X : Int) - 20) ((Y : Int) - 20))) W) W
theorem u_c_TT (n : Nat) (U : Nat → Int → Int → Bool) (h1 : 1 ≤ n) (h3 : n ≤ 3) : u_c (u_TT n U) 6724 = if n = 1 then u_G U 41 0 else if n = 2 then u_G U 41 0 else u_G U 41 0 + u_G U 41 1 + u_G U 41 2 := by
  have e0 : u_c (u_TT n U) 6724 = u_su (fun b => u_su (fun X => u_su (fun Y => bm_bo (u_TT n U (b * 1681 + (X * 41 + Y)))) 41) 41) 4 := by
    rw [u_c_su, show (6724 : Nat) = 4 * 1681 from rfl, u_su_grid]
    refine u_su_ext (fun b _ => ?_)
    rw [show (1681 : Nat) = 41 * 41 from rfl, u_su_grid]
  have e1 : ∀ b, b < 4 → u_su (fun X => u_su (fun Y => bm_bo (u_TT n U (b * 1681 + (X * 41 + Y)))) 41) 41 = if (if n = 1 then b = 0 else 1 ≤ b ∧ (n = 3 ∨ b = 1)) then u_G U 41 (b - 1) else 0 := fun b hb => by
    have ev : ∀ X Y, X < 41 → Y < 41 → u_TT n U (b * 1681 + (X * 41 + Y)) = ((if n = 1 then decide (b = 0) else decide (1 ≤ b ∧ (n = 3 ∨ b = 1))) && U (b - 1) ((X : Int) - 20) ((Y : Int) - 20)) := fun X Y hX hY => by
      unfold u_TT
      rw [show (b * 1681 + (X * 41 + Y)) / 1681 = b by omega, show (b * 1681 + (X * 41 + Y)) % 1681 / 41 = X by omega, show (b * 1681 + (X * 41 + Y)) % 41 = Y by omega]
    have es : u_su (fun X => u_su (fun Y => bm_bo (u_TT n U (b * 1681 + (X * 41 + Y)))) 41) 41 = u_su (fun X => u_su (fun Y => bm_bo ((if n = 1 then decide (b = 0) else decide (1 ≤ b ∧ (n = 3 ∨ b = 1))) && U (b - 1) ((X : Int) - 20) ((Y : Int) - 20))) 41) 41 := u_su_ext (fun X hX => u_su_ext (fun Y hY => by rw [ev X Y hX hY]))
    rw [es]
    by_cases c : (if n = 1 then b = 0 else 1 ≤ b ∧ (n = 3 ∨ b = 1))
    · rw [if_pos c]
      have : (if n = 1 then decide (b = 0) else decide (1 ≤ b ∧ (n = 3 ∨ b = 1))) = true := by
        by_cases z : n = 1
        · rw [if_pos z] at c ⊢; exact decide_eq_true c
        · rw [if_neg z] at c ⊢; exact decide_eq_true c
      rw [this]
      refine u_su_ext (fun X _ => u_su_ext (fun Y _ => by rw [Bool.true_and]))
    · rw [if_neg c]
      have : (if n = 1 then decide (b = 0) else decide (1 ≤ b ∧ (n = 3 ∨ b = 1))) = false := by
        by_cases z : n = 1
        · rw [if_pos z] at c ⊢; exact decide_eq_false c
        · rw [if_neg z] at c ⊢; exact decide_eq_false c
      rw [this]
      exact u_su_0 (fun X _ => u_su_0 (fun Y _ => by rw [Bool.false_and]; rfl))
  rw [e0]
  have e2 : u_su (fun b => u_su (fun X => u_su (fun Y => bm_bo (u_TT n U (b * 1681 + (X * 41 + Y)))) 41) 41) 4 = u_su (fun b => if (if n = 1 then b = 0 else 1 ≤ b ∧ (n = 3 ∨ b = 1)) then u_G U 41 (b - 1) else 0) 4 := u_su_ext e1
  rw [e2]
  clear e0 e1 e2
  generalize u_G U 41 = G
  show 0 + _ + _ + _ + _ = _
  rcases (show n = 1 ∨ n = 2 ∨ n = 3 by omega) with rfl | rfl | rfl
  · simp
  · simp
  · simp
section CT
variable {ins : List y_in} {U : Nat → Int → Int → Bool}
theorem u_lo_rng (hk : y_fk ins) (i : Nat) : -20 ≤ u_lo ins i ∧ 1 ≤ s_n (y_rg ins) i ∧ u_lo ins i + s_n (y_rg ins) i ≤ 21 := by
  have lk := y_rg_lk hk
  have n := s_n_rng lk i
  have e : s_n (y_rg ins) i = ((y_rg ins).getD i (0, 0)).2 - ((y_rg ins).getD i (0, 0)).1 + 1 := rfl
  unfold u_lo
  rcases Nat.lt_or_ge i (y_rg ins).length with z | z
  · have := lk i z
    omega
  · have e2 : (y_rg ins).getD i (0, 0) = (0, 0) := by rw [List.getD_eq_getElem?_getD, List.getElem?_eq_none z]; rfl
    rw [e2] at e ⊢
    simp only at e ⊢
    omega
/-- pairs that lie within the ranges -/
def u_in (ins : List y_in) (U : Nat → Int → Int → Bool) : Prop := ∀ p x y, U p x y = true → (u_lo ins (u_i p) ≤ x ∧ x < u_lo ins (u_i p) + s_n (y_rg ins) (u_i p)) ∧ u_lo ins (u_j p) ≤ y ∧ y < u_lo ins (u_j p) + s_n (y_rg ins) (u_j p)
theorem u_G_eq (hk : y_fk ins) (hU : u_in ins U) (p : Nat) : u_G U 41 p = u_su (fun a => u_su (fun b => bm_bo ((decide ((a : Int) < s_n (y_rg ins) (u_i p)) && decide ((b : Int) < s_n (y_rg ins) (u_j p))) && U p (u_lo ins (u_i p) + a) (u_lo ins (u_j p) + b))) 41) 41 := by
  have ri := u_lo_rng hk (u_i p)
  have rj := u_lo_rng hk (u_j p)
  have nb : ∀ b : Bool, b ≠ true → bm_bo b = 0 := fun b h => by cases b <;> first | rfl | exact absurd rfl h
  have e1 := u_shift (g := fun x => u_su (fun Y => bm_bo (U p x ((Y : Int) - 20))) 41) (lo := u_lo ins (u_i p)) (n := s_n (y_rg ins) (u_i p)) 41 ri.1 (by omega) (by omega) (fun x hx => u_su_0 (fun Y _ => nb _ (fun h => hx (hU _ _ _ h).1)))
  have e2 : ∀ x, u_su (fun Y => bm_bo (U p x ((Y : Int) - 20))) 41 = u_su (fun b => if (b : Int) < s_n (y_rg ins) (u_j p) then bm_bo (U p x (u_lo ins (u_j p) + b)) else 0) 41 := fun x => u_shift (g := fun y => bm_bo (U p x y)) (lo := u_lo ins (u_j p)) (n := s_n (y_rg ins) (u_j p)) 41 rj.1 (by omega) (by omega) (fun y hy => nb _ (fun h => hy (hU _ _ _ h).2))
  refine Eq.trans e1 (u_su_ext (fun a _ => ?_))
  by_cases c : (a : Int) < s_n (y_rg ins) (u_i p)
  · rw [if_pos c]
    refine Eq.trans (e2 _) (u_su_ext (fun b _ => ?_))
    rw [decide_eq_true c, Bool.true_and]
    by_cases c2 : (b : Int) < s_n (y_rg ins) (u_j p)
    · rw [if_pos c2, decide_eq_true c2, Bool.true_and]
    · rw [if_neg c2, decide_eq_false c2, Bool.false_and]; rfl
  · rw [if_neg c]
    refine (u_su_0 (fun b _ => ?_)).symm
    rw [decide_eq_false c, Bool.false_and, Bool.false_and]; rfl
theorem u_cc_split (V : Nat → Nat → Bool) {nr nj : Int} (h1 : 0 ≤ nr ∧ nr ≤ 41) (h2 : 0 ≤ nj ∧ nj ≤ 41) : u_cc (fun a b => (decide ((a : Int) < nr) && decide ((b : Int) < nj)) && !V a b) 41 = nr * nj - u_su (fun a => u_su (fun b => bm_bo ((decide ((a : Int) < nr) && decide ((b : Int) < nj)) && V a b)) 41) 41 := by
  have a1 : u_cc (fun a b => (decide ((a : Int) < nr) && decide ((b : Int) < nj)) && !V a b) 41 + u_su (fun a => u_su (fun b => bm_bo ((decide ((a : Int) < nr) && decide ((b : Int) < nj)) && V a b)) 41) 41 = u_su (fun a => u_su (fun b => bm_bo (decide ((a : Int) < nr) && decide ((b : Int) < nj))) 41) 41 := by
    rw [u_cc_su, ← u_su_pl]
    refine u_su_ext (fun a _ => ?_)
    rw [← u_su_pl]
    refine u_su_ext (fun b _ => ?_)
    cases (decide ((a : Int) < nr) && decide ((b : Int) < nj)) <;> cases V a b <;> rfl
  have a2 : u_su (fun a => u_su (fun b => bm_bo (decide ((a : Int) < nr) && decide ((b : Int) < nj))) 41) 41 = nr * nj := by
    have b1 : ∀ a : Nat, u_su (fun b => bm_bo (decide ((a : Int) < nr) && decide ((b : Int) < nj))) 41 = if (a : Int) < nr then nj else 0 := fun a => by
      by_cases c : (a : Int) < nr
      · rw [if_pos c]
        have := u_su_str (f := fun _ => 1) h2.1 41 (by omega)
        rw [u_su_c] at this
        refine Eq.trans (u_su_ext (fun b _ => ?_)) (this.trans (by omega))
        rw [decide_eq_true c, Bool.true_and]
        by_cases c2 : (b : Int) < nj
        · rw [if_pos c2, decide_eq_true c2]; rfl
        · rw [if_neg c2, decide_eq_false c2]; rfl
      · rw [if_neg c]
        refine u_su_0 (fun b _ => ?_)
        rw [decide_eq_false c, Bool.false_and]; rfl
    have := u_su_str (f := fun _ => nj) h1.1 41 (by omega)
    rw [u_su_c, Int.toNat_of_nonneg h1.1] at this
    exact (u_su_ext (fun a _ => b1 a)).trans this
  omega
/-- what both sides tell of the pairs that are not tried -/
theorem u_tot_eq {pr : y_pr} {f K : Nat} (hk : y_fk ins) (h1 : 1 ≤ ins.length) (h3 : ins.length ≤ 3) (hU : u_in ins (fun p x y => u_ts pr f p x y K)) : u_tot (u_M pr f ins K) = y_prs ins - u_c (u_TT ins.length (fun p x y => u_ts pr f p x y K)) 6724 := by
  have lk := y_rg_lk hk
  have n0 := s_n_rng lk 0
  have n1 := s_n_rng lk 1
  have n2 := s_n_rng lk 2
  rw [u_c_TT _ _ h1 h3]
  have nr : ∀ p, 0 ≤ u_nr ins p ∧ u_nr ins p ≤ 41 := fun p => by
    unfold u_nr
    have := s_n_rng lk (u_i p)
    split <;> omega
  have sp : ∀ p, u_cc (u_M pr f ins K p) 41 = u_nr ins p * s_n (y_rg ins) (u_j p) - u_su (fun a => u_su (fun b => bm_bo ((decide ((a : Int) < u_nr ins p) && decide ((b : Int) < s_n (y_rg ins) (u_j p))) && u_ts pr f p (u_lo ins (u_i p) + a) (u_lo ins (u_j p) + b) K)) 41) 41 := fun p => u_cc_split (fun a b => u_ts pr f p (u_lo ins (u_i p) + a) (u_lo ins (u_j p) + b) K) (nr p) ⟨by have := s_n_rng lk (u_j p); omega, (s_n_rng lk (u_j p)).2.1⟩
  have g := fun p => u_G_eq hk hU p
  have on : ∀ p, u_nr ins p = s_n (y_rg ins) (u_i p) → u_cc (u_M pr f ins K p) 41 = s_n (y_rg ins) (u_i p) * s_n (y_rg ins) (u_j p) - u_G (fun p x y => u_ts pr f p x y K) 41 p := fun p e => by
    rw [sp p, g p, e]
  have off : ∀ p, u_nr ins p = 0 → u_cc (u_M pr f ins K p) 41 = 0 := fun p e => by
    rw [sp p, e, Int.zero_mul, u_su_0 (fun a _ => u_su_0 (fun b _ => by rw [decide_eq_false (by omega), Bool.false_and, Bool.false_and]; rfl))]
    rfl
  unfold u_tot y_prs
  have o0 := on 0 (by unfold u_nr; rw [if_pos (Or.inl rfl)])
  have i0 : u_i 0 = 0 := rfl
  have i1 : u_i 1 = 0 := rfl
  have i2 : u_i 2 = 1 := rfl
  have j0 : u_j 0 = 1 := rfl
  have j1 : u_j 1 = 2 := rfl
  have j2 : u_j 2 = 2 := rfl
  rw [i0, j0] at o0
  by_cases c : ins.length = 3
  · have o1 := on 1 (by unfold u_nr; rw [if_pos (Or.inr c)])
    have o2 := on 2 (by unfold u_nr; rw [if_pos (Or.inr c)])
    rw [i1, j1] at o1
    rw [i2, j2] at o2
    rw [if_pos c, if_neg (by omega), if_neg (by omega), o0, o1, o2]
    omega
  · have o1 := off 1 (by unfold u_nr; rw [if_neg (by omega)])
    have o2 := off 2 (by unfold u_nr; rw [if_neg (by omega)])
    rw [if_neg c, o0, o1, o2]
    by_cases c1 : ins.length = 1
    · rw [if_pos c1]
      omega
    · rw [if_neg c1, if_pos (by omega)]
      omega
end CT

/-! ===== how many pairs are not tried, in the class ===== -/
def u_cc (M : Nat → Nat → Bool) : Nat → Int
  | 0 => 0
  | n + 1 => u_cc M n + u_c (M n) 41
theorem u_cc_rng (M : Nat → Nat → Bool) : ∀ n : Nat, 0 ≤ u_cc M n ∧ u_cc M n ≤ 41 * n
  | 0 => ⟨Int.le_refl _, Int.le_refl _⟩
  | n + 1 => by
    have := u_cc_rng M n
    have := u_c_rng (M n) 41
    show 0 ≤ u_cc M n + u_c (M n) 41 ∧ u_cc M n + u_c (M n) 41 ≤ 41 * ((n + 1 : Nat) : Int)
    omega
def u_tot (M : Nat → Nat → Nat → Bool) : Int := u_cc (M 0) 41 + u_cc (M 1) 41 + u_cc (M 2) 41
section UC
variable {d A u : Nat} {w : bm_W} {Φ : bm_Rt → bm_W → Prop} {M : Nat → Nat → Nat → Bool} {N : Nat → Nat → Bool}
theorem sp_bits4 (kt : bm_kt w A = 22) (kn : bm_kn w A = 41) (hM : ∀ a, a < 41 → bm_gl w A a = ((u_v (N a) 41 : Nat) : Int)) (hq : Φ (.inl (some (bm_i (u_cc N 41)))) w) : ∀ (rem j : Nat), j + rem = 41 → bk_X10_bits_4 (d + 1) Φ A (u_cc N j) (j : Int) w
  | 0, j, hj => by
    refine vb_X10_bits_4 ?_
    simp only [bm_c0_v, bm_c1_v, bm_c2_v, bm_c3_v, bm_c4_v, bm_c5_v, bm_u_some, decide_eq_true_eq, true_and, and_true, and_self, Bool.not_eq_true, Bool.not_eq_true', decide_eq_false_iff_not, if_true, if_false, ite_true, ite_false, eq_self, kt, kn]
    rw [if_pos (by omega)]
    have : j = 41 := by omega
    subst this
    exact ⟨by decide, hq⟩
  | rem + 1, j, hj => by
    have r := u_cc_rng N j
    have r2 := u_c_rng (N j) 41
    have ih := sp_bits4 kt kn hM hq rem (j + 1) (by omega)
    refine vb_X10_bits_4 ?_
    simp only [bm_c0_v, bm_c1_v, bm_c2_v, bm_c3_v, bm_c4_v, bm_c5_v, bm_u_some, decide_eq_true_eq, true_and, and_true, and_self, Bool.not_eq_true, Bool.not_eq_true', decide_eq_false_iff_not, if_true, if_false, ite_true, ite_false, eq_self, kt, kn, bm_in, Int.toNat_natCast, hM j (by omega), sp_bits_v (d := d) (show 41 ≤ 63 by decide), bm_w1 (show j < 2147483647 by omega), q_wI (x := u_cc N j + u_c (N j) 41) ⟨by omega, by omega⟩]
    rw [if_neg (by omega)]
    exact ⟨by decide, by omega, ih⟩
theorem sp_bits (kt : bm_kt w A = 22) (kn : bm_kn w A = 41) (hM : ∀ a, a < 41 → bm_gl w A a = ((u_v (N a) 41 : Nat) : Int)) : bm_Call bm_pg (d + 2) y_X10_bits [bm_r (some A)] w Φ ↔ Φ (.inl (some (bm_i (u_cc N 41)))) w :=
  bm_ans (fun Ψ q => vc_X10_bits (sp_bits4 (d := d) kt kn hM q 41 0 rfl))
theorem sp_unpairs (U : sh_Un u w) (hM : u_ms u M w) : bm_Call bm_pg (d + 3) y_X10_pairCount [bm_r (some u)] w Φ ↔ Φ (.inl (some (bm_i (u_tot M)))) w := by
  refine bm_ans (fun Ψ q => vc_X10_pairCount ?_)
  have b0 := fun Ψ => sp_bits (d := d) (A := u + 1) (N := M 0) (Φ := Ψ) U.2.2.2.2.1 U.2.2.2.2.2.1 (fun a ha => hM 0 a (by decide) ha)
  have b1 := fun Ψ => sp_bits (d := d) (A := u + 2) (N := M 1) (Φ := Ψ) U.2.2.2.2.2.2.1 U.2.2.2.2.2.2.2.1 (fun a ha => hM 1 a (by decide) ha)
  have b2 := fun Ψ => sp_bits (d := d) (A := u + 3) (N := M 2) (Φ := Ψ) U.2.2.2.2.2.2.2.2.1 U.2.2.2.2.2.2.2.2.2 (fun a ha => hM 2 a (by decide) ha)
  have r0 := u_cc_rng (M 0) 41
  have r1 := u_cc_rng (M 1) 41
  have r2 := u_cc_rng (M 2) 41
  simp only [bm_c0_v, bm_c1_v, bm_c2_v, bm_c3_v, bm_c4_v, bm_c5_v, bm_u_some, decide_eq_true_eq, true_and, and_true, and_self, Bool.not_eq_true, Bool.not_eq_true', decide_eq_false_iff_not, if_true, if_false, ite_true, ite_false, eq_self, U.1, U.2.1, U.2.2.1, U.2.2.2.1, b0, b1, b2, q_wI (x := u_cc (M 0) 41 + u_cc (M 1) 41) ⟨by omega, by omega⟩, q_wI (x := u_cc (M 0) 41 + u_cc (M 1) 41 + u_cc (M 2) 41) ⟨by omega, by omega⟩]
  exact q
/-- a bit of a mask -/
theorem sp_maskAt {a : Nat} (kt : bm_kt w A = 22) (kn : bm_kn w A = 41) (ha : a < 41) : bm_Call bm_pg (d + 1) y_X10_maskAt [bm_r (some A), bm_i (a : Int)] w Φ ↔ Φ (.inl (some (bm_l (bm_gl w A a)))) w := by
  refine bm_ans (fun Ψ q => vc_X10_maskAt ?_)
  simp only [bm_c0_v, bm_c1_v, bm_c2_v, bm_c3_v, bm_c4_v, bm_c5_v, bm_u_some, decide_eq_true_eq, true_and, and_true, and_self, Bool.not_eq_true, Bool.not_eq_true', decide_eq_false_iff_not, if_true, if_false, ite_true, ite_false, eq_self, kt, kn, bm_in, Int.toNat_natCast]
  rw [if_neg (by omega), if_neg (by omega)]
  exact ⟨by decide, by omega, q⟩
theorem sp_bitAt {a b : Nat} (kt : bm_kt w A = 22) (kn : bm_kn w A = 41) (hM : ∀ a, a < 41 → bm_gl w A a = ((u_v (N a) 41 : Nat) : Int)) (ha : a < 41) (hb : b < 41) : bm_Call bm_pg (d + 2) y_X10_bitAt [bm_r (some A), bm_i (a : Int), bm_i (b : Int)] w Φ ↔ Φ (.inl (some (bm_i (bm_bo (N a b))))) w := by
  refine bm_ans (fun Ψ q => vc_X10_bitAt ?_)
  rw [sp_maskAt (d := d) kt kn ha, bm_c2_v, hM a ha]
  have e := q_bit (g := N a) (n := 41) (k := b) (by decide) (by omega)
  unfold q_ld q_ss at e
  rw [e, decide_eq_true hb, Bool.true_and]
  refine ⟨trivial, ?_⟩
  rcases bm_bo_01 (N a b) with z | z
  · rw [z] at q ⊢
    exact q
  · rw [z] at q ⊢
    exact q
theorem sp_pairsIn {x y z : Nat} (U : sh_Un u w) (hM : u_ms u M w) (hx : x < 41) (hy : y < 41) (hz : z < 41) : bm_Call bm_pg (d + 3) y_X10_pairsIn [bm_r (some u), bm_i (x : Int), bm_i (y : Int), bm_i (z : Int)] w Φ ↔ Φ (.inl (some (bm_i (bm_bo (M 0 x y) + bm_bo (M 1 x z) + bm_bo (M 2 y z))))) w := by
  refine bm_ans (fun Ψ q => vc_X10_pairsIn ?_)
  have b0 := fun Ψ => sp_bitAt (d := d) (A := u + 1) (N := M 0) (Φ := Ψ) U.2.2.2.2.1 U.2.2.2.2.2.1 (fun a ha => hM 0 a (by decide) ha) hx hy
  have b1 := fun Ψ => sp_bitAt (d := d) (A := u + 2) (N := M 1) (Φ := Ψ) U.2.2.2.2.2.2.1 U.2.2.2.2.2.2.2.1 (fun a ha => hM 1 a (by decide) ha) hx hz
  have b2 := fun Ψ => sp_bitAt (d := d) (A := u + 3) (N := M 2) (Φ := Ψ) U.2.2.2.2.2.2.2.2.1 U.2.2.2.2.2.2.2.2.2 (fun a ha => hM 2 a (by decide) ha) hy hz
  have r0 := bm_bo_01 (M 0 x y)
  have r1 := bm_bo_01 (M 1 x z)
  have r2 := bm_bo_01 (M 2 y z)
  simp only [bm_c0_v, bm_c1_v, bm_c2_v, bm_c3_v, bm_c4_v, bm_c5_v, bm_u_some, decide_eq_true_eq, true_and, and_true, and_self, Bool.not_eq_true, Bool.not_eq_true', decide_eq_false_iff_not, if_true, if_false, ite_true, ite_false, eq_self, U.1, U.2.1, U.2.2.1, U.2.2.2.1, b0, b1, b2, q_wI (x := bm_bo (M 0 x y) + bm_bo (M 1 x z)) ⟨by omega, by omega⟩, q_wI (x := bm_bo (M 0 x y) + bm_bo (M 1 x z) + bm_bo (M 2 y z)) ⟨by omega, by omega⟩]
  exact q
/-- the third value with the most pairs -/
theorem u_first {g : Nat → Bool} : ∀ n : Nat, (∀ i, i < n → g i = false) ∨ ∃ k, k < n ∧ g k = true ∧ ∀ i, i < k → g i = false
  | 0 => Or.inl (fun i hi => by omega)
  | n + 1 => by
    rcases u_first (g := g) n with h | ⟨k, h1, h2, h3⟩
    · cases e : g n with
      | false => exact Or.inl (fun i hi => by
          by_cases z : i = n
          · rw [z]; exact e
          · exact h i (by omega))
      | true => exact Or.inr ⟨n, by omega, e, h⟩
    · exact Or.inr ⟨k, by omega, h2, h3⟩
/-- c is the first place where f is most, of n -/
def u_best (f : Nat → Int) (n c : Nat) : Prop := c < n ∧ (∀ i, i < n → f i ≤ f c) ∧ ∀ i, i < c → f i < f c
theorem sp_bestThird {x y n2 : Nat} (U : sh_Un u w) (hM : u_ms u M w) (hx : x < 41) (hy : y < 41) (hn : 1 ≤ n2 ∧ n2 ≤ 41) (h1 : ∀ c, n2 ≤ c → M 1 x c = false) (h2 : ∀ c, n2 ≤ c → M 2 y c = false) (hq : ∀ c : Nat, u_best (fun c => bm_bo (M 1 x c) + bm_bo (M 2 y c)) n2 c → Φ (.inl (some (bm_i (c : Int)))) w) : bm_Call bm_pg (d + 3) y_X10_bestThird [bm_r (some u), bm_i (x : Int), bm_i (y : Int)] w Φ := by
  refine vc_X10_bestThird ?_
  simp only [bm_c0_v, bm_c1_v, bm_c2_v, bm_c3_v, bm_c4_v, bm_c5_v, bm_u_some, decide_eq_true_eq, true_and, and_true, and_self, Bool.not_eq_true, Bool.not_eq_true', decide_eq_false_iff_not, if_true, if_false, ite_true, ite_false, eq_self, U.1, U.2.2.1, U.2.2.2.1, sp_maskAt (d := d + 1) (A := u + 2) U.2.2.2.2.2.2.1 U.2.2.2.2.2.2.2.1 hx, sp_maskAt (d := d + 1) (A := u + 3) U.2.2.2.2.2.2.2.2.1 U.2.2.2.2.2.2.2.2.2 hy]
  have e1 : bm_gl w (u + 2) x = ((u_v (M 1 x) 41 : Nat) : Int) := hM 1 x (by decide) hx
  have e2 : bm_gl w (u + 3) y = ((u_v (M 2 y) 41 : Nat) : Int) := hM 2 y (by decide) hy
  generalize hN : (41 : Nat) = N at e1 e2 hx hy hn
  have ea := q_ld_v (g := M 1 x) (g' := M 2 y) (n := N) (by omega)
  have eo := q_lo_v (g := M 1 x) (g' := M 2 y) (n := N) (by omega)
  unfold q_ld at ea
  unfold q_lo at eo
  rw [e1, e2, ea, eo]
  have bo : ∀ b : Bool, b = true → bm_bo b = 1 := fun b h => by rw [h]; rfl
  have bz : ∀ b : Bool, b = false → bm_bo b = 0 := fun b h => by rw [h]; rfl
  have b1 : ∀ b : Bool, 0 ≤ bm_bo b ∧ bm_bo b ≤ 1 := fun b => by have := bm_bo_01 b; omega
  have lt : ∀ (g : Nat → Bool) k, (∀ c, n2 ≤ c → g c = false) → g k = true → k < n2 := fun g k h hk => by
    rcases Nat.lt_or_ge k n2 with z | z
    · exact z
    · rw [h k z] at hk; cases hk
  rcases u_first (g := fun i => M 1 x i && M 2 y i) N with h | ⟨k, ha, hb, hc⟩
  · rw [u_v_0.mpr h]
    rw [if_neg (by simp)]
    rcases u_first (g := fun i => M 1 x i || M 2 y i) N with h' | ⟨k, ha, hb, hc⟩
    · rw [u_v_0.mpr h']
      rw [show ((0 : Nat) : Int) = 0 from rfl, sp_lowest0 (d := d), bm_c1_v]
      have z : ∀ i, i < N → bm_bo (M 1 x i) + bm_bo (M 2 y i) = 0 := fun i hi => by
        have := h' i hi
        simp only [Bool.or_eq_false_iff] at this
        rw [bz _ this.1, bz _ this.2]; rfl
      refine hq 0 ⟨by omega, fun i hi => ?_, fun i hi => by omega⟩
      show bm_bo (M 1 x i) + bm_bo (M 2 y i) ≤ bm_bo (M 1 x 0) + bm_bo (M 2 y 0)
      rw [z i (by omega), z 0 (by omega)]
      exact Int.le_refl _
    · rw [sp_lowestBit (d := d) (show N ≤ 63 by omega) ha hb hc, bm_c1_v]
      have k2 : k < n2 := lt (fun i => M 1 x i || M 2 y i) k (fun c hc => by simp only [h1 c hc, h2 c hc, Bool.or_self]) hb
      have up : ∀ i, i < N → bm_bo (M 1 x i) + bm_bo (M 2 y i) ≤ 1 := fun i hi => by
        have := h i hi
        simp only [Bool.and_eq_false_iff] at this
        have p := b1 (M 1 x i)
        have q := b1 (M 2 y i)
        rcases this with z | z
        · rw [bz _ z]; omega
        · rw [bz _ z]; omega
      have ek : bm_bo (M 1 x k) + bm_bo (M 2 y k) ≥ 1 := by
        simp only [Bool.or_eq_true] at hb
        have p := b1 (M 1 x k)
        have q := b1 (M 2 y k)
        rcases hb with z | z
        · rw [bo _ z]; omega
        · rw [bo _ z]; omega
      refine hq k ⟨k2, fun i hi => ?_, fun i hi => ?_⟩
      · show bm_bo (M 1 x i) + bm_bo (M 2 y i) ≤ bm_bo (M 1 x k) + bm_bo (M 2 y k)
        have := up i (by omega)
        omega
      · show bm_bo (M 1 x i) + bm_bo (M 2 y i) < bm_bo (M 1 x k) + bm_bo (M 2 y k)
        have := hc i hi
        simp only [Bool.or_eq_false_iff] at this
        rw [bz _ this.1, bz _ this.2]
        omega
  · have hk := hb
    simp only [Bool.and_eq_true] at hk
    have ne : u_v (fun i => M 1 x i && M 2 y i) N ≠ 0 := fun z => by
      have := u_v_0.mp z k ha
      rw [hb] at this
      cases this
    rw [if_pos (by simp; omega)]
    rw [sp_lowestBit (d := d) (show N ≤ 63 by omega) ha hb hc, bm_c1_v]
    have k2 : k < n2 := lt (M 1 x) k h1 hk.1
    refine hq k ⟨k2, fun i hi => ?_, fun i hi => ?_⟩
    · show bm_bo (M 1 x i) + bm_bo (M 2 y i) ≤ bm_bo (M 1 x k) + bm_bo (M 2 y k)
      rw [bo _ hk.1, bo _ hk.2]
      have p := b1 (M 1 x i)
      have q := b1 (M 2 y i)
      omega
    · show bm_bo (M 1 x i) + bm_bo (M 2 y i) < bm_bo (M 1 x k) + bm_bo (M 2 y k)
      rw [bo _ hk.1, bo _ hk.2]
      have p := b1 (M 1 x i)
      have q := b1 (M 2 y i)
      have := hc i hi
      simp only [Bool.and_eq_false_iff] at this
      rcases this with z | z
      · rw [bz _ z]; omega
      · rw [bz _ z]; omega
end UC

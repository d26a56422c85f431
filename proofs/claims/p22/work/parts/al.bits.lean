/-! ===== bits of masks ===== -/
/-- a number told by its bits -/
def u_v (g : Nat → Bool) : Nat → Nat
  | 0 => 0
  | n + 1 => 2 ^ n * (g n).toNat + u_v g n
theorem u_v_lt (g : Nat → Bool) : ∀ n, u_v g n < 2 ^ n
  | 0 => Nat.zero_lt_one
  | n + 1 => by
    have := u_v_lt g n
    show 2 ^ n * (g n).toNat + u_v g n < 2 ^ (n + 1)
    rw [Nat.pow_succ]
    cases g n
    · show 2 ^ n * 0 + _ < _
      omega
    · show 2 ^ n * 1 + _ < _
      omega
theorem u_v_bit (g : Nat → Bool) : ∀ n i, (u_v g n).testBit i = (decide (i < n) && g i)
  | 0, i => by simp [u_v]
  | n + 1, i => by
    show (2 ^ n * (g n).toNat + u_v g n).testBit i = _
    rw [Nat.testBit_two_pow_mul_add _ (u_v_lt g n), u_v_bit g n i]
    by_cases c : i < n
    · rw [if_pos c, decide_eq_true c, decide_eq_true (show i < n + 1 by omega)]
    · rw [if_neg c]
      by_cases e : i = n
      · subst e
        rw [Nat.sub_self, decide_eq_true (show i < i + 1 by omega)]
        cases g i <;> rfl
      · rw [decide_eq_false (show ¬ i < n + 1 by omega), Bool.false_and]
        obtain ⟨k, hk⟩ : ∃ k, i - n = k + 1 := ⟨i - n - 1, by omega⟩
        rw [hk, Nat.testBit_succ]
        cases g n <;> simp
theorem u_v_eq {g : Nat → Bool} {n M : Nat} (h : ∀ i, M.testBit i = (decide (i < n) && g i)) : M = u_v g n := Nat.eq_of_testBit_eq (fun i => by rw [h, u_v_bit])
theorem u_v_ext {g g' : Nat → Bool} {n : Nat} (h : ∀ i, i < n → g i = g' i) : u_v g n = u_v g' n := Nat.eq_of_testBit_eq (fun i => by
  rw [u_v_bit, u_v_bit]
  by_cases c : i < n
  · rw [h i c]
  · rw [decide_eq_false c, Bool.false_and, Bool.false_and])
theorem u_v_lt63 (g : Nat → Bool) {n : Nat} (hn : n ≤ 63) : u_v g n < 9223372036854775808 := Nat.lt_of_lt_of_le (u_v_lt g n) (show 2 ^ n ≤ 2 ^ 63 from Nat.pow_le_pow_right (by decide) hn)
theorem u_v_and (g g' : Nat → Bool) (n : Nat) : u_v g n &&& u_v g' n = u_v (fun i => g i && g' i) n := u_v_eq (fun i => by
  rw [Nat.testBit_and, u_v_bit, u_v_bit]
  cases decide (i < n) <;> simp)
theorem u_v_or (g g' : Nat → Bool) (n : Nat) : u_v g n ||| u_v g' n = u_v (fun i => g i || g' i) n := u_v_eq (fun i => by
  rw [Nat.testBit_or, u_v_bit, u_v_bit]
  cases decide (i < n) <;> simp)
theorem u_v_up {n k : Nat} (h : k ≤ n) : 2 ^ k - 1 = u_v (fun i => decide (i < k)) n := u_v_eq (fun i => by
  rw [Nat.testBit_two_pow_sub_one]
  by_cases c : i < k
  · rw [decide_eq_true c, decide_eq_true (show i < n by omega)]; rfl
  · rw [decide_eq_false c, Bool.and_false])
theorem u_v_one {n k : Nat} (h : k < n) : 2 ^ k = u_v (fun i => decide (i = k)) n := u_v_eq (fun i => by
  rw [Nat.testBit_two_pow]
  by_cases c : i = k
  · rw [decide_eq_true c, decide_eq_true c.symm, decide_eq_true (show i < n by omega)]; rfl
  · rw [decide_eq_false c, decide_eq_false (fun z => c z.symm), Bool.and_false])
theorem u_v_0 {g : Nat → Bool} {n : Nat} : u_v g n = 0 ↔ ∀ i, i < n → g i = false := by
  constructor
  · intro h i hi
    have := u_v_bit g n i
    rw [h, Nat.zero_testBit, decide_eq_true hi, Bool.true_and] at this
    exact this.symm
  · intro h
    have : u_v g n = u_v (fun _ => false) n := u_v_ext h
    rw [this]
    refine (u_v_eq (fun i => ?_)).symm
    rw [Nat.zero_testBit, Bool.and_false]
/-- how many of the first are set -/
def u_c (g : Nat → Bool) : Nat → Int
  | 0 => 0
  | n + 1 => u_c g n + bm_bo (g n)
theorem u_c_ext {g g' : Nat → Bool} : ∀ {n : Nat}, (∀ i, i < n → g i = g' i) → u_c g n = u_c g' n
  | 0, _ => rfl
  | n + 1, h => by
    show u_c g n + bm_bo (g n) = u_c g' n + bm_bo (g' n)
    rw [u_c_ext (fun i hi => h i (by omega)), h n (by omega)]
theorem u_c_rng (g : Nat → Bool) : ∀ n : Nat, 0 ≤ u_c g n ∧ u_c g n ≤ n
  | 0 => ⟨Int.le_refl _, Int.le_refl _⟩
  | n + 1 => by
    have := u_c_rng g n
    have := bm_bo_01 (g n)
    show 0 ≤ u_c g n + bm_bo (g n) ∧ u_c g n + bm_bo (g n) ≤ ((n + 1 : Nat) : Int)
    omega
theorem u_c_more {g : Nat → Bool} {n : Nat} (h : ∀ i, n ≤ i → g i = false) : ∀ m, u_c g (n + m) = u_c g n
  | 0 => rfl
  | m + 1 => by
    show u_c g (n + m) + bm_bo (g (n + m)) = _
    rw [u_c_more h m, h _ (by omega), bm_bo_f, Int.add_zero]
/-- the same, of a number's bits -/
def u_p : Nat → Nat → Nat
  | 0, _ => 0
  | n + 1, x => x % 2 + u_p n (x / 2)
theorem u_p_s : ∀ n x, u_p (n + 1) x = u_p n x + x / 2 ^ n % 2
  | 0, x => by simp [u_p]
  | n + 1, x => by
    show x % 2 + u_p (n + 1) (x / 2) = (x % 2 + u_p n (x / 2)) + x / 2 ^ (n + 1) % 2
    rw [u_p_s n (x / 2), Nat.div_div_eq_div_mul, ← Nat.pow_succ', Nat.succ_eq_add_one]
    omega
theorem u_p_c (x : Nat) : ∀ n : Nat, (u_p n x : Int) = u_c x.testBit n
  | 0 => rfl
  | n + 1 => by
    rw [u_p_s]
    show ((u_p n x + x / 2 ^ n % 2 : Nat) : Int) = u_c x.testBit n + bm_bo (x.testBit n)
    rw [← u_p_c x n, Nat.testBit_eq_decide_div_mod_eq]
    rcases Nat.mod_two_eq_zero_or_one (x / 2 ^ n) with z | z
    · rw [z]; simp [bm_bo]
    · rw [z]; simp [bm_bo]
theorem u_p_8 (m x : Nat) : u_p (m + 8) x = u_p 8 (x % 256) + u_p m (x / 256) := by
  have e : x / 2 / 2 / 2 / 2 / 2 / 2 / 2 / 2 = x / 256 := by omega
  simp only [u_p]
  rw [e]
  omega
/-! bits are counted -/
theorem u_cat (a b c d : Nat) (hb : b < 256) (hd : d < 256) : (256 * a + b) &&& (256 * c + d) = 256 * (a &&& c) + (b &&& d) := by
  have e : ∀ x y : Nat, y < 256 → ∀ j, (256 * x + y).testBit j = if j < 8 then y.testBit j else x.testBit (j - 8) := fun x y hy j => Nat.testBit_two_pow_mul_add (i := 8) x (show y < 2 ^ 8 from hy) j
  have hbd : b &&& d < 256 := Nat.lt_of_le_of_lt Nat.and_le_left hb
  refine Nat.eq_of_testBit_eq (fun j => ?_)
  rw [Nat.testBit_and, e _ _ hb, e _ _ hd, e _ _ hbd]
  split
  · rw [Nat.testBit_and]
  · rw [Nat.testBit_and]
def u_K (b : Nat) : Nat → Nat
  | 0 => 0
  | n + 1 => 256 * u_K b n + b
def u_1 (n x : Nat) : Nat := x - ((x / 2) &&& u_K 85 n)
def u_2 (n x : Nat) : Nat := (x &&& u_K 51 n) + ((x / 4) &&& u_K 51 n)
def u_3 (n x : Nat) : Nat := (x + x / 16) &&& u_K 15 n
def u_1b (b : Nat) : Nat := b - ((b / 2) &&& 85)
def u_2b (b : Nat) : Nat := (b &&& 51) + ((b / 4) &&& 51)
theorem u_f1 : ∀ b, b < 256 → (u_1b b < 256 ∧ (b / 2) &&& 85 ≤ b) ∧ ∀ u, u < 2 → (128 * u + b / 2) &&& 85 = (b / 2) &&& 85 := by decide +kernel
theorem u_f2 : ∀ b, b < 256 → ∀ u, u < 4 → (64 * u + b / 4) &&& 51 = (b / 4) &&& 51 := by decide +kernel
theorem u_f3 : ∀ b, b < 256 → u_2b (u_1b b) < 256 ∧ u_2b (u_1b b) % 16 ≤ 4 ∧ ∀ z, z < 5 → u_2b (u_1b b) + 16 * z + u_2b (u_1b b) / 16 < 256 ∧ (u_2b (u_1b b) + 16 * z + u_2b (u_1b b) / 16) &&& 15 = u_p 8 b := by decide +kernel
theorem u_1_s (n a b : Nat) (hb : b < 256) : u_1 (n + 1) (256 * a + b) = 256 * u_1 n a + u_1b b := by
  obtain ⟨⟨f1, f2⟩, f3⟩ := u_f1 b hb
  have e : (256 * a + b) / 2 = 256 * (a / 2) + (128 * (a % 2) + b / 2) := by omega
  have l : (a / 2) &&& u_K 85 n ≤ a / 2 := Nat.and_le_left
  unfold u_1
  show 256 * a + b - (((256 * a + b) / 2) &&& (256 * u_K 85 n + 85)) = _
  rw [e, u_cat _ _ _ _ (by omega) (by decide), f3 _ (by omega)]
  unfold u_1b
  omega
theorem u_2_s (n a b : Nat) (hb : b < 256) : u_2 (n + 1) (256 * a + b) = 256 * u_2 n a + u_2b b := by
  have e : (256 * a + b) / 4 = 256 * (a / 4) + (64 * (a % 4) + b / 4) := by omega
  unfold u_2
  show ((256 * a + b) &&& (256 * u_K 51 n + 51)) + (((256 * a + b) / 4) &&& (256 * u_K 51 n + 51)) = _
  rw [e, u_cat _ _ _ _ hb (by decide), u_cat _ _ _ _ (by omega) (by decide), u_f2 b hb _ (by omega)]
  unfold u_2b
  omega
/-- the counts of the bytes -/
def u_S : Nat → Nat → Nat
  | 0, _ => 0
  | n + 1, x => 256 * u_S n (x / 256) + u_p 8 (x % 256)
theorem u_S_eq : ∀ n x, x < 256 ^ n → u_2 n (u_1 n x) % 16 ≤ 4 ∧ u_3 n (u_2 n (u_1 n x)) = u_S n x
  | 0, x, h => by
    have : x = 0 := by simpa using h
    subst this
    decide
  | n + 1, x, h => by
    have h2 : x / 256 < 256 ^ n := by
      rw [Nat.pow_succ] at h
      omega
    obtain ⟨i1, i2⟩ := u_S_eq n (x / 256) h2
    have hb : x % 256 < 256 := by omega
    have ex : x = 256 * (x / 256) + x % 256 := by omega
    obtain ⟨f1, f2, f3⟩ := u_f3 _ hb
    have e1 := u_1_s n (x / 256) (x % 256) hb
    rw [← ex] at e1
    rw [e1, u_2_s n _ _ (u_f1 _ hb).1.1]
    show (256 * u_2 n (u_1 n (x / 256)) + u_2b (u_1b (x % 256))) % 16 ≤ 4 ∧ u_3 (n + 1) (256 * u_2 n (u_1 n (x / 256)) + u_2b (u_1b (x % 256))) = 256 * u_S n (x / 256) + u_p 8 (x % 256)
    rw [← i2]
    generalize u_2 n (u_1 n (x / 256)) = A at i1 ⊢
    generalize hB : u_2b (u_1b (x % 256)) = Bb at f1 f2 f3 ⊢
    refine ⟨by omega, ?_⟩
    obtain ⟨g1, g2⟩ := f3 (A % 16) (by omega)
    have e : 256 * A + Bb + (256 * A + Bb) / 16 = 256 * (A + A / 16) + (Bb + 16 * (A % 16) + Bb / 16) := by omega
    unfold u_3
    show (256 * A + Bb + (256 * A + Bb) / 16) &&& (256 * u_K 15 n + 15) = _
    rw [e, u_cat _ _ _ _ g1 (by decide), g2]
theorem u_p8_le : ∀ b, b < 256 → u_p 8 b ≤ 8 := by decide +kernel
/-- the last steps add up the bytes -/
def u_s8 (x : Nat) : Nat := x + x / 256
def u_s16 (x : Nat) : Nat := x + x / 65536
def u_s32 (x : Nat) : Nat := x + x / 4294967296
theorem u_add {p0 p1 p2 p3 p4 p5 p6 p7 : Nat} (h0 : p0 ≤ 8) (h1 : p1 ≤ 8) (h2 : p2 ≤ 8) (h3 : p3 ≤ 8) (h4 : p4 ≤ 8) (h5 : p5 ≤ 8) (h6 : p6 ≤ 8) (h7 : p7 ≤ 8) :
    u_s32 (u_s16 (u_s8 (256 * (256 * (256 * (256 * (256 * (256 * (256 * (256 * 0 + p7) + p6) + p5) + p4) + p3) + p2) + p1) + p0))) % 128 = p0 + (p1 + (p2 + (p3 + (p4 + (p5 + (p6 + p7)))))) ∧ u_s32 (u_s16 (u_s8 (256 * (256 * (256 * (256 * (256 * (256 * (256 * (256 * 0 + p7) + p6) + p5) + p4) + p3) + p2) + p1) + p0))) < 9223372036854775808 := by
  have e8 : u_s8 (256 * (256 * (256 * (256 * (256 * (256 * (256 * (256 * 0 + p7) + p6) + p5) + p4) + p3) + p2) + p1) + p0) = 256 * (256 * (256 * (256 * (256 * (256 * (256 * p7 + (p6 + p7)) + (p5 + p6)) + (p4 + p5)) + (p3 + p4)) + (p2 + p3)) + (p1 + p2)) + (p0 + p1) := by
    unfold u_s8; omega
  have e16 : u_s16 (256 * (256 * (256 * (256 * (256 * (256 * (256 * p7 + (p6 + p7)) + (p5 + p6)) + (p4 + p5)) + (p3 + p4)) + (p2 + p3)) + (p1 + p2)) + (p0 + p1)) = 256 * (256 * (256 * (256 * (256 * (256 * (256 * p7 + (p6 + p7)) + (p5 + p6 + p7)) + (p4 + p5 + p6 + p7)) + (p3 + p4 + p5 + p6)) + (p2 + p3 + p4 + p5)) + (p1 + p2 + p3 + p4)) + (p0 + p1 + p2 + p3) := by
    unfold u_s16; omega
  have e32 : u_s32 (256 * (256 * (256 * (256 * (256 * (256 * (256 * p7 + (p6 + p7)) + (p5 + p6 + p7)) + (p4 + p5 + p6 + p7)) + (p3 + p4 + p5 + p6)) + (p2 + p3 + p4 + p5)) + (p1 + p2 + p3 + p4)) + (p0 + p1 + p2 + p3)) = 256 * (256 * (256 * (256 * (256 * (256 * (256 * p7 + (p6 + p7)) + (p5 + p6 + p7)) + (p4 + p5 + p6 + p7)) + (p3 + p4 + p5 + p6)) + (p2 + p3 + p4 + p5)) + (p1 + p2 + p3 + p4)) + (p0 + p1 + p2 + p3) + (256 * (256 * (256 * p7 + (p6 + p7)) + (p5 + p6 + p7)) + (p4 + p5 + p6 + p7)) := by
    unfold u_s32; omega
  rw [e8, e16, e32]
  clear e8 e16 e32
  exact ⟨by omega, by omega⟩
/-! masks as longs -/
def q_us (v k : Int) : Int := ((Int64.ofInt v).toUInt64 >>> ((Int32.ofInt k).toInt64.toUInt64 &&& Int64.toUInt64 63)).toInt64.toInt
def q_ss (v k : Int) : Int := (Int64.ofInt v >>> ((Int32.ofInt k).toInt64 &&& 63)).toInt
def q_sl (v k : Int) : Int := (Int64.ofInt v <<< ((Int32.ofInt k).toInt64 &&& 63)).toInt
def q_ld (a b : Int) : Int := (Int64.ofInt a &&& Int64.ofInt b).toInt
def q_lo (a b : Int) : Int := (Int64.ofInt a ||| Int64.ofInt b).toInt
def q_no (a : Int) : Int := (Int64.ofInt a ^^^ Int64.ofInt (-1 : Int)).toInt
theorem q_bv (n : Nat) : (Int64.ofInt (n : Int)).toBitVec = BitVec.ofNat 64 n := by rw [Int64.toBitVec_ofInt, BitVec.ofInt_natCast]
theorem q_bn {n : Nat} (h : n < 9223372036854775808) : (BitVec.ofNat 64 n).toNat = n := by rw [BitVec.toNat_ofNat, Nat.mod_eq_of_lt (by omega)]
theorem q_bi {x : BitVec 64} {n : Nat} (e : x.toNat = n) (h : n < 9223372036854775808) : x.toInt = (n : Int) := by rw [BitVec.toInt_eq_toNat_of_lt (by omega), e]
theorem q_ld_n {a b : Nat} (ha : a < 9223372036854775808) (hb : b < 9223372036854775808) : q_ld (a : Int) (b : Int) = ((a &&& b : Nat) : Int) := by
  unfold q_ld
  rw [← Int64.toInt_toBitVec, Int64.toBitVec_and, q_bv, q_bv]
  exact q_bi (by rw [BitVec.toNat_and, q_bn ha, q_bn hb]) (Nat.lt_of_le_of_lt Nat.and_le_left ha)
theorem q_lo_v {g g' : Nat → Bool} {n : Nat} (hn : n ≤ 63) : q_lo (u_v g n : Int) (u_v g' n : Int) = ((u_v (fun i => g i || g' i) n : Nat) : Int) := by
  unfold q_lo
  rw [← Int64.toInt_toBitVec, Int64.toBitVec_or, q_bv, q_bv]
  exact q_bi (by rw [BitVec.toNat_or, q_bn (u_v_lt63 g hn), q_bn (u_v_lt63 g' hn), u_v_or]) (u_v_lt63 _ hn)
theorem q_ld_v {g g' : Nat → Bool} {n : Nat} (hn : n ≤ 63) : q_ld (u_v g n : Int) (u_v g' n : Int) = ((u_v (fun i => g i && g' i) n : Nat) : Int) := by
  rw [q_ld_n (u_v_lt63 g hn) (u_v_lt63 g' hn), u_v_and]
theorem q_m1 : (Int64.ofInt (-1 : Int)).toBitVec = BitVec.allOnes 64 := by decide
theorem q_nand {a b : Nat} (ha : a < 9223372036854775808) (hb : b < 9223372036854775808) {c : Nat} (hc : ∀ i, c.testBit i = (a.testBit i && !b.testBit i)) : q_ld (a : Int) (q_no (b : Int)) = (c : Int) := by
  unfold q_ld q_no
  rw [Int64.ofInt_toInt, ← Int64.toInt_toBitVec, Int64.toBitVec_and, Int64.toBitVec_xor, q_bv, q_bv, q_m1, BitVec.xor_allOnes]
  have e : (BitVec.ofNat 64 a &&& ~~~(BitVec.ofNat 64 b)).toNat = c := by
    refine Nat.eq_of_testBit_eq (fun i => ?_)
    rw [BitVec.testBit_toNat, BitVec.getLsbD_and, BitVec.getLsbD_not, hc, ← BitVec.testBit_toNat, ← BitVec.testBit_toNat, q_bn ha, q_bn hb]
    by_cases z : i < 64
    · rw [decide_eq_true z, Bool.true_and]
    · rw [Nat.testBit_lt_two_pow (Nat.lt_of_lt_of_le (show a < 2 ^ 64 by omega) (Nat.pow_le_pow_right (by decide) (by omega))), Bool.false_and, Bool.false_and]
  refine q_bi e (Nat.lt_of_le_of_lt ?_ ha)
  rw [← e, BitVec.toNat_and, q_bn ha]
  exact Nat.and_le_left
theorem q_nand_v {g g' : Nat → Bool} {n : Nat} (hn : n ≤ 63) : q_ld (u_v g n : Int) (q_no (u_v g' n : Int)) = ((u_v (fun i => g i && !g' i) n : Nat) : Int) := q_nand (u_v_lt63 g hn) (u_v_lt63 g' hn) (fun i => by
  rw [u_v_bit, u_v_bit, u_v_bit]
  cases decide (i < n) <;> simp)
theorem q_us_k : ∀ k, k < 64 → ((Int32.ofInt ((k : Nat) : Int)).toInt64.toUInt64 &&& Int64.toUInt64 63).toNat = k := by decide +kernel
theorem q_ss_k : ∀ k, k < 64 → (((Int32.ofInt ((k : Nat) : Int)).toInt64 &&& 63).toBitVec.smod 64).toNat = k := by decide +kernel
theorem q_us_n {n k : Nat} (hn : n < 9223372036854775808) (hk : k < 64) : q_us (n : Int) (k : Int) = ((n / 2 ^ k : Nat) : Int) := by
  unfold q_us
  have e0 : (Int64.ofInt (n : Int)).toUInt64.toNat = n := by
    show (Int64.ofInt (n : Int)).toBitVec.toNat = n
    rw [q_bv, q_bn hn]
  have e : ((Int64.ofInt (n : Int)).toUInt64 >>> ((Int32.ofInt ((k : Nat) : Int)).toInt64.toUInt64 &&& Int64.toUInt64 63)).toNat = n / 2 ^ k := by
    rw [UInt64.toNat_shiftRight, q_us_k k hk, e0, Nat.mod_eq_of_lt hk, Nat.shiftRight_eq_div_pow]
  exact q_bi (x := ((Int64.ofInt (n : Int)).toUInt64 >>> ((Int32.ofInt ((k : Nat) : Int)).toInt64.toUInt64 &&& Int64.toUInt64 63)).toBitVec) e (Nat.lt_of_le_of_lt (Nat.div_le_self _ _) hn)
theorem q_ss_n {n k : Nat} (hn : n < 9223372036854775808) (hk : k < 64) : q_ss (n : Int) (k : Int) = ((n / 2 ^ k : Nat) : Int) := by
  unfold q_ss
  rw [← Int64.toInt_toBitVec, Int64.toBitVec_shiftRight, q_bv, BitVec.sshiftRight_eq', q_ss_k k hk, BitVec.toInt_sshiftRight, q_bi (q_bn hn) hn, Int.shiftRight_eq_div_pow]
  omega
/-- a mask's bit -/
theorem q_bit {g : Nat → Bool} {n k : Nat} (hn : n ≤ 63) (hk : k < 64) : q_ld (q_ss (u_v g n : Int) (k : Int)) 1 = bm_bo (decide (k < n) && g k) := by
  rw [q_ss_n (u_v_lt63 g hn) hk]
  have := q_ld_n (a := u_v g n / 2 ^ k) (b := 1) (Nat.lt_of_le_of_lt (Nat.div_le_self _ _) (u_v_lt63 g hn)) (by decide)
  rw [show ((1 : Nat) : Int) = 1 from rfl] at this
  rw [this, Nat.and_one_is_mod, ← u_v_bit g n k, Nat.testBit_eq_decide_div_mod_eq]
  rcases Nat.mod_two_eq_zero_or_one (u_v g n / 2 ^ k) with z | z
  · rw [z]; rfl
  · rw [z]; rfl
theorem q_up_k : ∀ k, k < 63 → bm_x ((Int64.ofInt (1 : Int) <<< ((Int32.ofInt ((k : Nat) : Int)).toInt64 &&& 63)).toInt - 1) = ((2 ^ k - 1 : Nat) : Int) := by decide +kernel
theorem q_sl_k : ∀ k, k < 63 → q_sl 1 ((k : Nat) : Int) = ((2 ^ k : Nat) : Int) := by decide +kernel
/-! counting, lowest -/
def pc_1 (p : Int) : Int := bm_x (p - q_ld (q_us p 1) 6148914691236517205)
def pc_2 (p : Int) : Int := bm_x (q_ld p 3689348814741910323 + q_ld (q_us p 2) 3689348814741910323)
def pc_3 (p : Int) : Int := q_ld (bm_x (p + q_us p 4)) 1085102592571150095
def pc_4 (p : Int) : Int := bm_x (p + q_us p 8)
def pc_5 (p : Int) : Int := bm_x (p + q_us p 16)
def pc_6 (p : Int) : Int := bm_x (p + q_us p 32)
def pc_7 (p : Int) : Int := (Int32.ofInt (bm_w p) &&& Int32.ofInt (127 : Int)).toInt
theorem q_xN {n : Nat} (h : n < 9223372036854775808) : bm_x (n : Int) = (n : Int) := q_xL ⟨by omega, by omega⟩
theorem pc_7_n {n : Nat} : pc_7 (n : Int) = ((n % 128 : Nat) : Int) := by
  have e : (Int32.ofInt (bm_w (n : Int))).toBitVec.toNat % 128 = n % 128 := by
    rw [Int32.toBitVec_ofInt, BitVec.toNat_ofInt]
    unfold bm_w
    omega
  have l : ((Int32.ofInt (bm_w (n : Int))).toBitVec &&& 127#32).toNat = n % 128 := by
    rw [BitVec.toNat_and, ← e]
    exact Nat.and_two_pow_sub_one_eq_mod _ 7
  show ((Int32.ofInt (bm_w (n : Int))).toBitVec &&& 127#32).toInt = _
  rw [BitVec.toInt_eq_toNat_of_lt (by rw [l]; omega), l]
theorem pc_n {x : Nat} (h : x < 9223372036854775808) : pc_7 (pc_6 (pc_5 (pc_4 (pc_3 (pc_2 (pc_1 (x : Int))))))) = (u_p 64 x : Int) := by
  have h8 : x < 256 ^ 8 := Nat.lt_of_lt_of_le h (by decide)
  have K1 : u_K 85 8 = 6148914691236517205 := by decide
  have K2 : u_K 51 8 = 3689348814741910323 := by decide
  have K3 : u_K 15 8 = 1085102592571150095 := by decide
  have us : ∀ {n : Nat} (k : Nat), n < 9223372036854775808 → k < 64 → q_us (n : Int) (k : Int) = ((n / 2 ^ k : Nat) : Int) := fun k a b => q_us_n a b
  have us1 : ∀ {n : Nat}, n < 9223372036854775808 → q_us (n : Int) 1 = ((n / 2 : Nat) : Int) := fun a => us 1 a (by decide)
  have us2 : ∀ {n : Nat}, n < 9223372036854775808 → q_us (n : Int) 2 = ((n / 4 : Nat) : Int) := fun a => us 2 a (by decide)
  have us4 : ∀ {n : Nat}, n < 9223372036854775808 → q_us (n : Int) 4 = ((n / 16 : Nat) : Int) := fun a => us 4 a (by decide)
  have us8 : ∀ {n : Nat}, n < 9223372036854775808 → q_us (n : Int) 8 = ((n / 256 : Nat) : Int) := fun a => us 8 a (by decide)
  have us16 : ∀ {n : Nat}, n < 9223372036854775808 → q_us (n : Int) 16 = ((n / 65536 : Nat) : Int) := fun a => us 16 a (by decide)
  have us32 : ∀ {n : Nat}, n < 9223372036854775808 → q_us (n : Int) 32 = ((n / 4294967296 : Nat) : Int) := fun a => us 32 a (by decide)
  have dv : ∀ n k : Nat, n / k ≤ n := fun n k => Nat.div_le_self _ _
  have l1 : (x / 2) &&& u_K 85 8 ≤ x / 2 := Nat.and_le_left
  have e1 : pc_1 (x : Int) = ((u_1 8 x : Nat) : Int) := by
    unfold pc_1
    have a := q_ld_n (a := x / 2) (b := u_K 85 8) (by have := dv x 2; omega) (by rw [K1]; decide)
    rw [K1] at a l1
    rw [us1 h]
    show bm_x ((x : Int) - q_ld ((x / 2 : Nat) : Int) ((6148914691236517205 : Nat) : Int)) = _
    rw [a, q_xL ⟨by omega, by omega⟩]
    unfold u_1
    rw [K1]
    omega
  have b1 : u_1 8 x < 9223372036854775808 := Nat.lt_of_le_of_lt (Nat.sub_le _ _) h
  generalize hy : u_1 8 x = y at e1 b1
  have l2 : y &&& u_K 51 8 ≤ u_K 51 8 := Nat.and_le_right
  have l3 : (y / 4) &&& u_K 51 8 ≤ u_K 51 8 := Nat.and_le_right
  have e2 : pc_2 (y : Int) = ((u_2 8 y : Nat) : Int) := by
    unfold pc_2
    have a := q_ld_n (a := y / 4) (b := u_K 51 8) (by have := dv y 4; omega) (by rw [K2]; decide)
    have a2 := q_ld_n (a := y) (b := u_K 51 8) b1 (by rw [K2]; decide)
    rw [K2] at a a2 l2 l3
    rw [us2 b1]
    show bm_x (q_ld (y : Int) ((3689348814741910323 : Nat) : Int) + q_ld ((y / 4 : Nat) : Int) ((3689348814741910323 : Nat) : Int)) = _
    rw [a, a2, q_xL ⟨by omega, by omega⟩]
    unfold u_2
    rw [K2]
    omega
  have b2 : u_2 8 y ≤ 7378697629483820646 := by
    unfold u_2
    rw [K2] at l2 l3 ⊢
    omega
  have SS := (u_S_eq 8 x h8).2
  rw [hy] at SS
  generalize hz : u_2 8 y = z at e2 b2 SS
  have e3 : pc_3 (z : Int) = ((u_3 8 z : Nat) : Int) := by
    unfold pc_3
    have a := q_ld_n (a := z + z / 16) (b := u_K 15 8) (by omega) (by rw [K3]; decide)
    rw [K3] at a
    rw [us4 (by omega), ← Int.natCast_add, q_xN (by omega)]
    show q_ld ((z + z / 16 : Nat) : Int) ((1085102592571150095 : Nat) : Int) = _
    rw [a]
    unfold u_3
    rw [K3]
  rw [e1, e2, e3, SS]
  have p8 : ∀ n : Nat, u_p 8 (n % 256) ≤ 8 := fun n => u_p8_le _ (by omega)
  have eS : u_S 8 x = 256 * (256 * (256 * (256 * (256 * (256 * (256 * (256 * 0 + u_p 8 (x / 256 / 256 / 256 / 256 / 256 / 256 / 256 % 256)) + u_p 8 (x / 256 / 256 / 256 / 256 / 256 / 256 % 256)) + u_p 8 (x / 256 / 256 / 256 / 256 / 256 % 256)) + u_p 8 (x / 256 / 256 / 256 / 256 % 256)) + u_p 8 (x / 256 / 256 / 256 % 256)) + u_p 8 (x / 256 / 256 % 256)) + u_p 8 (x / 256 % 256)) + u_p 8 (x % 256) := rfl
  have A := u_add (p8 x) (p8 (x / 256)) (p8 (x / 256 / 256)) (p8 (x / 256 / 256 / 256)) (p8 (x / 256 / 256 / 256 / 256)) (p8 (x / 256 / 256 / 256 / 256 / 256)) (p8 (x / 256 / 256 / 256 / 256 / 256 / 256)) (p8 (x / 256 / 256 / 256 / 256 / 256 / 256 / 256))
  rw [← eS] at A
  have eP : u_p 64 x = u_p 8 (x % 256) + (u_p 8 (x / 256 % 256) + (u_p 8 (x / 256 / 256 % 256) + (u_p 8 (x / 256 / 256 / 256 % 256) + (u_p 8 (x / 256 / 256 / 256 / 256 % 256) + (u_p 8 (x / 256 / 256 / 256 / 256 / 256 % 256) + (u_p 8 (x / 256 / 256 / 256 / 256 / 256 / 256 % 256) + u_p 8 (x / 256 / 256 / 256 / 256 / 256 / 256 / 256 % 256))))))) := by
    have e7 : x / 256 / 256 / 256 / 256 / 256 / 256 / 256 % 256 = x / 256 / 256 / 256 / 256 / 256 / 256 / 256 := by omega
    rw [u_p_8 56, u_p_8 48, u_p_8 40, u_p_8 32, u_p_8 24, u_p_8 16, u_p_8 8, e7]
  rw [← eP] at A
  generalize u_S 8 x = s at A
  obtain ⟨A1, A2⟩ := A
  have c16 : u_s16 (u_s8 s) ≤ u_s32 (u_s16 (u_s8 s)) := by unfold u_s32; omega
  have c8 : u_s8 s ≤ u_s16 (u_s8 s) := by unfold u_s16; omega
  have c0 : s ≤ u_s8 s := by unfold u_s8; omega
  have e4 : pc_4 (s : Int) = ((u_s8 s : Nat) : Int) := by
    unfold pc_4
    rw [us8 (by omega), ← Int.natCast_add]
    exact q_xN (by show u_s8 s < _; omega)
  have e5 : pc_5 ((u_s8 s : Nat) : Int) = ((u_s16 (u_s8 s) : Nat) : Int) := by
    unfold pc_5
    rw [us16 (by omega), ← Int.natCast_add]
    exact q_xN (by show u_s16 (u_s8 s) < _; omega)
  have e6 : pc_6 ((u_s16 (u_s8 s) : Nat) : Int) = ((u_s32 (u_s16 (u_s8 s)) : Nat) : Int) := by
    unfold pc_6
    rw [us32 (by omega), ← Int.natCast_add]
    exact q_xN (by show u_s32 (u_s16 (u_s8 s)) < _; omega)
  rw [e4, e5, e6, pc_7_n, A1]
section BT
variable {d : Nat} {w : bm_W} {Φ : bm_Rt → bm_W → Prop}
theorem sp_bitCount {x : Nat} (h : x < 9223372036854775808) : bm_Call bm_pg (d + 1) y_J13_bitCount_95d88 [bm_l (x : Int)] w Φ ↔ Φ (.inl (some (bm_i (u_p 64 x : Int)))) w :=
  bm_ans (fun Ψ q => vc_J13_bitCount_95d88 (by
    rw [← pc_n h] at q
    exact q))
theorem sp_bits_v {g : Nat → Bool} {n : Nat} (hn : n ≤ 63) : bm_Call bm_pg (d + 1) y_J13_bitCount_95d88 [bm_l (u_v g n : Int)] w Φ ↔ Φ (.inl (some (bm_i (u_c g n)))) w := by
  have e : (u_p 64 (u_v g n) : Int) = u_c g n := by
    rw [u_p_c]
    obtain ⟨m, hm⟩ : ∃ m, 64 = n + m := ⟨64 - n, by omega⟩
    rw [hm, u_c_more (fun i hi => by rw [u_v_bit, decide_eq_false (by omega), Bool.false_and])]
    exact u_c_ext (fun i hi => by rw [u_v_bit, decide_eq_true hi, Bool.true_and])
  rw [sp_bitCount (u_v_lt63 g hn), e]
theorem sp_upTo {k : Nat} (hk : k < 63) : bm_Call bm_pg (d + 1) y_X10_upTo [bm_i (k : Int)] w Φ ↔ Φ (.inl (some (bm_l ((2 ^ k - 1 : Nat) : Int)))) w :=
  bm_ans (fun Ψ q => vc_X10_upTo (by
    rw [q_up_k k hk]
    exact q))
theorem u_low {g : Nat → Bool} {n k : Nat} (hk : k < n) (h1 : g k = true) (h0 : ∀ i, i < k → g i = false) : ∃ m, u_v g n = 2 ^ (k + 1) * m + 2 ^ k := by
  refine ⟨u_v g n / 2 ^ (k + 1), ?_⟩
  have e : u_v g n % 2 ^ (k + 1) = 2 ^ k := Nat.eq_of_testBit_eq (fun i => by
    rw [Nat.testBit_mod_two_pow, u_v_bit, Nat.testBit_two_pow]
    by_cases c : i < k
    · rw [h0 i c, Bool.and_false, Bool.and_false, decide_eq_false (by omega)]
    · by_cases c2 : i = k
      · subst c2
        rw [h1, decide_eq_true hk, decide_eq_true (show i < i + 1 by omega), decide_eq_true rfl]; rfl
      · rw [decide_eq_false (show ¬ i < k + 1 by omega), Bool.false_and, decide_eq_false (by omega)])
  have := Nat.div_add_mod (u_v g n) (2 ^ (k + 1))
  omega
theorem sp_lowestBit {g : Nat → Bool} {n k : Nat} (hn : n ≤ 63) (hk : k < n) (h1 : g k = true) (h0 : ∀ i, i < k → g i = false) : bm_Call bm_pg (d + 2) y_X10_lowestBit [bm_l (u_v g n : Int)] w Φ ↔ Φ (.inl (some (bm_i (k : Int)))) w := by
  obtain ⟨m, hm⟩ := u_low hk h1 h0
  have lt := u_v_lt63 g hn
  have pk : 0 < 2 ^ k := Nat.pow_pos (by decide)
  have pk2 : 2 ^ k < 2 ^ (k + 1) := by rw [Nat.pow_succ]; omega
  have b1 : u_v g n - 1 = 2 ^ (k + 1) * m + (2 ^ k - 1) := by omega
  have hneg : (Int64.ofInt (bm_x (-(u_v g n : Int)))).toBitVec = ~~~(BitVec.ofNat 64 (u_v g n - 1)) := by
    refine BitVec.eq_of_toNat_eq ?_
    rw [Int64.toBitVec_ofInt, BitVec.toNat_ofInt, BitVec.toNat_not, q_bn (by omega), q_xL ⟨by omega, by omega⟩]
    omega
  have e : (Int64.ofInt (u_v g n : Int) &&& Int64.ofInt (bm_x (-(u_v g n : Int)))).toInt = ((2 ^ k : Nat) : Int) := by
    have q := q_nand (a := u_v g n) (b := u_v g n - 1) (c := 2 ^ k) lt (by omega) (fun i => by
      rw [b1, hm, Nat.testBit_two_pow_mul_add _ pk2, Nat.testBit_two_pow_mul_add _ (by omega), Nat.testBit_two_pow, Nat.testBit_two_pow_sub_one]
      by_cases c : i < k + 1
      · rw [if_pos c, if_pos c]
        by_cases c2 : k = i
        · rw [decide_eq_true c2, decide_eq_false (show ¬ i < k by omega)]; rfl
        · rw [decide_eq_false c2]; rfl
      · rw [if_neg c, if_neg c, decide_eq_false (show ¬ k = i by omega)]
        cases m.testBit (i - (k + 1)) <;> rfl)
    unfold q_ld q_no at q
    rw [Int64.ofInt_toInt, ← Int64.toInt_toBitVec, Int64.toBitVec_and, Int64.toBitVec_xor, q_bv (u_v g n - 1), q_m1, BitVec.xor_allOnes] at q
    rw [← Int64.toInt_toBitVec, Int64.toBitVec_and, hneg]
    exact q
  refine bm_ans (fun Ψ q => vc_X10_lowestBit ?_)
  have k62 : k < 63 := by omega
  have p63 : 2 ^ k ≤ u_v g n := by omega
  have u := u_v_up (n := 63) (k := k) (by omega)
  have e2 : bm_x ((2 ^ k : Nat) - 1 : Int) = ((u_v (fun i => decide (i < k)) 63 : Nat) : Int) := by
    rw [← u, q_xL ⟨by omega, by omega⟩]
    omega
  rw [if_pos (by simp; omega), e, e2]
  refine ⟨trivial, ?_⟩
  rw [sp_bits_v (Nat.le_refl _), bm_c1_v]
  have e3 : u_c (fun i => decide (i < k)) 63 = (k : Int) := by
    obtain ⟨m, hm⟩ : ∃ m, 63 = k + m := ⟨63 - k, by omega⟩
    rw [hm, u_c_more (fun i hi => decide_eq_false (by omega))]
    clear hm e2 u e hneg b1 q
    have : ∀ j, j ≤ k → u_c (fun i => decide (i < k)) j = (j : Int) := by
      intro j
      induction j with
      | zero => intro _; rfl
      | succ j ih =>
        intro hj
        show u_c (fun i => decide (i < k)) j + bm_bo (decide (j < k)) = _
        rw [ih (by omega), decide_eq_true (show j < k by omega), bm_bo_t]
        omega
    exact this k (Nat.le_refl _)
  rw [e3]
  exact q
theorem sp_lowest0 : bm_Call bm_pg (d + 2) y_X10_lowestBit [bm_l 0] w Φ ↔ Φ (.inl (some (bm_i 0))) w :=
  bm_ans (fun Ψ q => vc_X10_lowestBit (by
    rw [if_neg (by simp)]
    exact q))
end BT

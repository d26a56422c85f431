/-! ===== code that means something: its pieces; steps of reading ===== -/
section QS
variable {t f k : Nat} {E : q_E} {num : Int} {w : bm_W}
theorem qs.mo {c0 c1 wt wt' : Nat} {D : q_D} (h : qs t f k E num w c0 c1 D wt) (hw : wt ≤ wt') : qs t f k E num w c0 c1 D wt' := fun w0 a b => seg_mo (h w0 a b) hw (Nat.le_refl _)
theorem qa.mo {c0 c1 wt wt' : Nat} {D : List q_D} (h : qa t f k E num w c0 c1 D wt) (hw : wt ≤ wt') : qa t f k E num w c0 c1 D wt' := fun w0 a b => args_mo (h w0 a b) hw (Nat.le_refl _)
theorem qs_num {c : Nat} {v q : Int} (h5 : bm_gi w (f + 5) c = 2) (h6 : bm_gi w (f + 6) c = v) (h7 : bm_gi w (f + 7) c = q) (hv : 0 ≤ v ∧ v ≤ 9999) : qs t f k E num w c (c + 1) (d_num v q) 1 := by
  intro w0 hb hc
  have g5 := (hb c (f + 5) (Or.inl rfl) (Nat.le_refl _) (Nat.lt_succ_self _)).trans h5
  have g6 := (hb c (f + 6) (Or.inr (Or.inl rfl)) (Nat.le_refl _) (Nat.lt_succ_self _)).trans h6
  have g7 := (hb c (f + 7) (Or.inr (Or.inr rfl)) (Nat.le_refl _) (Nat.lt_succ_self _)).trans h7
  have := seg_num (num := num) (k := k) hc.1 (c := c) (by have := hc.2.1; omega) g5 (by rw [g6]; exact hv)
  rw [g6, g7] at this
  exact seg_mo this (Nat.le_refl _) (by omega)
theorem qs_in {c i : Nat} (h5 : bm_gi w (f + 5) c = 34) (h6 : bm_gi w (f + 6) c = (i : Int)) (hi : i < k) : qs t f k E num w c (c + 1) (d_in i) 1 := by
  intro w0 hb hc
  have g5 := (hb c (f + 5) (Or.inl rfl) (Nat.le_refl _) (Nat.lt_succ_self _)).trans h5
  have g6 := (hb c (f + 6) (Or.inr (Or.inl rfl)) (Nat.le_refl _) (Nat.lt_succ_self _)).trans h6
  exact seg_mo (seg_in (num := num) (k := k) hc.1 (c := c) (by have := hc.2.1; omega) g5 g6 hi) (Nat.le_refl _) (by omega)
theorem qs_un {c0 c1 wt : Nat} {op : Int} {D : q_D} (h : qs t f k E num w c0 c1 D wt) (hl : c0 ≤ c1) (h5 : bm_gi w (f + 5) c1 = op) (h7 : bm_gi w (f + 7) c1 = -1) (ho : op = 36 ∨ op = 11) (hw : 1 ≤ wt) : qs t f k E num w c0 (c1 + 1) (d_un op D) wt := by
  intro w0 hb hc
  have g5 := (hb c1 (f + 5) (Or.inl rfl) hl (Nat.lt_succ_self _)).trans h5
  have g7 := (hb c1 (f + 7) (Or.inr (Or.inr rfl)) hl (Nat.lt_succ_self _)).trans h7
  have := seg_un hc.1 (h w0 (hb.sub (Nat.le_refl _) (Nat.le_succ _)) (hc.le (Nat.le_succ _))) (by have := hc.2.1; omega) (by rw [g5]; omega) g7 hw (by omega)
  rw [g5] at this
  exact this
theorem qs_bin {c00 c0 c1 wt wt2 : Nat} {op q : Int} {D T : q_D} (h : qs t f k E num w c00 c0 D wt) (h2 : qs t f k E num w c0 c1 T wt2) (hl : c00 ≤ c0) (hl2 : c0 ≤ c1) (h5 : bm_gi w (f + 5) c1 = op) (h7 : bm_gi w (f + 7) c1 = q) (ho : 22 ≤ op ∧ op ≤ 32) (hw : 1 ≤ wt) (hw2 : 1 ≤ wt2) : qs t f k E num w c00 (c1 + 1) (d_bin op q D T) (wt + wt2) := by
  intro w0 hb hc
  have g5 := (hb c1 (f + 5) (Or.inl rfl) (by omega) (Nat.lt_succ_self _)).trans h5
  have g7 := (hb c1 (f + 7) (Or.inr (Or.inr rfl)) (by omega) (Nat.lt_succ_self _)).trans h7
  have := seg_bin hc.1 (h w0 (hb.sub (Nat.le_refl _) (by omega)) (hc.le (by omega))) (h2 w0 (hb.sub hl (by omega)) (hc.le (by omega))) (by have := hc.2.1; omega) (by rw [g5]; exact ho) hw hw2 (by omega)
  rw [g5, g7] at this
  exact this
theorem qs_lo {c00 c0 c1 wt wt2 : Nat} {op q : Int} {D T : q_D} (h : qs t f k E num w c00 c0 D wt) (h2 : qs t f k E num w (c0 + 1) c1 T wt2) (hl : c00 ≤ c0) (hl2 : c0 + 1 ≤ c1) (h5 : bm_gi w (f + 5) c0 = op) (h6 : bm_gi w (f + 6) c0 = ((c1 + 1 : Nat) : Int)) (h7 : bm_gi w (f + 7) c0 = q) (ho : op = 9 ∨ op = 10) (i5 : bm_gi w (f + 5) c1 = 37) (i7 : bm_gi w (f + 7) c1 = -1) (hw : 1 ≤ wt) (hw2 : 1 ≤ wt2) : qs t f k E num w c00 (c1 + 1) (d_lo op q D T) (wt + wt2) := by
  intro w0 hb hc
  have g5 := (hb c0 (f + 5) (Or.inl rfl) (by omega) (by omega)).trans h5
  have g6 := (hb c0 (f + 6) (Or.inr (Or.inl rfl)) (by omega) (by omega)).trans h6
  have g7 := (hb c0 (f + 7) (Or.inr (Or.inr rfl)) (by omega) (by omega)).trans h7
  have j5 := (hb c1 (f + 5) (Or.inl rfl) (by omega) (by omega)).trans i5
  have j7 := (hb c1 (f + 7) (Or.inr (Or.inr rfl)) (by omega) (by omega)).trans i7
  have := seg_lo hc.1 (h w0 (hb.sub (Nat.le_refl _) (by omega)) (hc.le (by omega))) (h2 w0 (hb.sub (by omega) (by omega)) (hc.le (by omega))) (by have := hc.2.1; omega) (by rw [g5]; exact ho) g6 j5 j7 hw hw2 (by omega)
  rw [g5, g7] at this
  exact this
theorem qs_if {c0 c1 c2 c3 wt wt2 wt3 : Nat} {i q : Int} {D T F : q_D} (h : qs t f k E num w c0 c1 D wt) (h2 : qs t f k E num w (c1 + 2) c2 T wt2) (h3 : qs t f k E num w (c2 + 1) c3 F wt3) (hl : c0 ≤ c1) (hl2 : c1 + 2 ≤ c2) (hl3 : c2 + 1 ≤ c3) (h5 : bm_gi w (f + 5) c1 = 6) (h6 : bm_gi w (f + 6) c1 = i) (h7 : bm_gi w (f + 7) c1 = q) (i5 : bm_gi w (f + 5) (c1 + 1) = 38) (i6 : bm_gi w (f + 6) (c1 + 1) = ((c2 + 1 : Nat) : Int)) (j5 : bm_gi w (f + 5) c2 = 38) (j6 : bm_gi w (f + 6) c2 = (c3 : Int)) (hw : 1 ≤ wt) : qs t f k E num w c0 c3 (d_if i q D T F) (wt + wt2 + wt3) := by
  intro w0 hb hc
  have a5 := (hb c1 (f + 5) (Or.inl rfl) (by omega) (by omega)).trans h5
  have a6 := (hb c1 (f + 6) (Or.inr (Or.inl rfl)) (by omega) (by omega)).trans h6
  have a7 := (hb c1 (f + 7) (Or.inr (Or.inr rfl)) (by omega) (by omega)).trans h7
  have b5 := (hb (c1 + 1) (f + 5) (Or.inl rfl) (by omega) (by omega)).trans i5
  have b6 := (hb (c1 + 1) (f + 6) (Or.inr (Or.inl rfl)) (by omega) (by omega)).trans i6
  have d5 := (hb c2 (f + 5) (Or.inl rfl) (by omega) (by omega)).trans j5
  have d6 := (hb c2 (f + 6) (Or.inr (Or.inl rfl)) (by omega) (by omega)).trans j6
  have := seg_if hc.1 (h w0 (hb.sub (Nat.le_refl _) (by omega)) (hc.le (by omega))) (h2 w0 (hb.sub (by omega) (by omega)) (hc.le (by omega))) (h3 w0 (hb.sub (by omega) (by omega)) (hc.le (by omega))) (by have := hc.2.1; omega) a5 b5 b6 d5 d6 hw (by omega)
  rw [a6, a7] at this
  exact this
theorem qa_nil {c : Nat} : qa t f k E num w c c [] 0 := fun _ _ _ => args_nil
theorem qa_snoc {c0 c1 c2 wt wt2 : Nat} {Ds : List q_D} {D : q_D} (h : qa t f k E num w c0 c1 Ds wt) (h2 : qs t f k E num w c1 c2 D wt2) (hl : c0 ≤ c1) (hl2 : c1 ≤ c2) (hw : Ds.length ≤ wt) : qa t f k E num w c0 c2 (Ds ++ [D]) (wt + wt2) := by
  intro w0 hb hc
  exact args_snoc (h w0 (hb.sub (Nat.le_refl _) hl2) (hc.le hl2)) (h2 w0 (hb.sub hl (Nat.le_refl _)) hc) hw
theorem qs_call {c0 c1 wt : Nat} {g : Int} {Ds : List q_D} (h : qa t f k E num w c0 c1 Ds wt) (hl : c0 ≤ c1) (hg : 0 ≤ g ∧ g < num) (hn : Ds.length = E.2.2.1 g) (h5 : bm_gi w (f + 5) c1 = 35) (h6 : bm_gi w (f + 6) c1 = g) (hw : Ds.length ≤ wt) (hz : 1 ≤ E.2.2.2.1 g) : qs t f k E num w c0 (c1 + 1) (d_call (E.2.2.2.2 g) Ds) (wt + E.2.2.2.1 g) := by
  intro w0 hb hc
  have g5 := (hb c1 (f + 5) (Or.inl rfl) (by omega) (by omega)).trans h5
  have g6 := (hb c1 (f + 6) (Or.inr (Or.inl rfl)) (by omega) (by omega)).trans h6
  have hf := hc.2.2.2 g hg.1 hg.2
  rw [← hn] at hf
  exact seg_call hc.1 hc.2.2.1 (h w0 (hb.sub (Nat.le_refl _) (Nat.le_succ _)) (hc.le (Nat.le_succ _))) hf hg (by have := hc.2.1; omega) g5 g6 hw hz (by omega)
end QS
/-- only one object is changed -/
def sl (a : Nat) (w w' : bm_W) : Prop := ∀ b j, b ≠ a → bm_gi w' b j = bm_gi w b j
section RT
variable {t f k N L fst d : Nat} {B : Int → Int} {E : q_E} {num : Int} {s : Bool × Nat} {w : bm_W} {Φ : bm_Rt → bm_W → Prop}
theorem rs.see_t (h : rs t f k N L fst B E num s w) {q : Int} (c : f_see (t_K B) L s q q) : bm_Call bm_pg (d + 1) y_X9_sees [bm_r (some t), bm_i q] w Φ ↔ Φ (.inl (some (bm_i 1))) w := by rw [sp_sees h.1.1, if_pos ((h.see q).mpr c)]
theorem rs.see_f (h : rs t f k N L fst B E num s w) {q : Int} (c : ¬ f_see (t_K B) L s q q) : bm_Call bm_pg (d + 1) y_X9_sees [bm_r (some t), bm_i q] w Φ ↔ Φ (.inl (some (bm_i 0))) w := by rw [sp_sees h.1.1, if_neg (fun z => c ((h.see q).mp z))]
theorem rs.pass_t (h : rs t f k N L fst B E num s w) {q : Int} (c : f_see (t_K B) L s q q) : bm_Call bm_pg (d + 2) y_X9_passes [bm_r (some t), bm_i q] w Φ ↔ Φ (.inl (some (bm_i 1))) (bm_si w t 8 (bm_gi w t 8 + 1)) := by rw [sp_passes h.1.1, if_pos ((h.see q).mpr c), if_pos ((h.see q).mpr c)]
theorem rs.pass_f (h : rs t f k N L fst B E num s w) {q : Int} (c : ¬ f_see (t_K B) L s q q) : bm_Call bm_pg (d + 2) y_X9_passes [bm_r (some t), bm_i q] w Φ ↔ Φ (.inl (some (bm_i 0))) w := by rw [sp_passes h.1.1, if_neg (fun z => c ((h.see q).mp z)), if_neg (fun z => c ((h.see q).mp z))]
theorem rs.exp_t (h : rs t f k N L fst B E num s w) {q : Int} (c : f_see (t_K B) L s q q) : bm_Call bm_pg (d + 2) y_X9_expect [bm_r (some t), bm_i q] w Φ ↔ Φ (.inl (some (bm_i 1))) (bm_si w t 8 (bm_gi w t 8 + 1)) := by rw [sp_expect h.1.1, if_pos ((h.see q).mpr c), if_pos ((h.see q).mpr c)]
theorem rs.exp (h : rs t f k N L fst B E num s w) {q : Int} (hq : 0 < q) (H : ∀ (x : Int) (w1 : bm_W), rs t f k N L fst B E num (f_exp (t_K B) L q s) w1 → fx t f w w1 → sl t w w1 → Φ (.inl (some (bm_i x))) w1) : bm_Call bm_pg (d + 2) y_X9_expect [bm_r (some t), bm_i q] w Φ := by
  rw [sp_expect h.1.1]
  unfold f_exp at H
  by_cases c : f_see (t_K B) L s q q
  · rw [if_pos ((h.see q).mpr c), if_pos ((h.see q).mpr c)]
    rw [if_pos c] at H
    have := h.adv hq c
    exact H 1 _ this.1 this.2 (fun b j hb => q_gi_ne hb)
  · rw [if_neg (fun z => c ((h.see q).mp z)), if_neg (fun z => c ((h.see q).mp z))]
    rw [if_neg c] at H
    have := h.fail
    exact H 0 _ this.1 this.2 (fun b j hb => q_gi_ne hb)
end RT
/-- which tokens are places, which are ifs: how many stand ahead -/
def f_pl (K : Nat → Int) (fst q : Nat) : Prop := K q = 2 ∨ K q = 6 ∨ K q = 9 ∨ K q = 10 ∨ (22 ≤ K q ∧ K q ≤ 32 ∧ (K q = 29 → fst < q ∧ f_ve K q))
def hp (K : Nat → Int) (P I : Nat → Nat) (fst : Nat) : Prop := (∀ q, fst ≤ q → (f_pl K fst q → P (q + 1) = P q + 1) ∧ (¬ f_pl K fst q → P (q + 1) = P q)) ∧ (∀ q, (K q = 6 → I (q + 1) = I q + 1) ∧ (K q ≠ 6 → I (q + 1) = I q)) ∧ (∀ q, P q ≤ q) ∧ ∀ q, I q ≤ q
/-- what functions that are called have -/
def he0 (E : q_E) (num : Int) (k : Nat) : Prop := (∀ v, -1 ≤ E.1 v ∧ E.1 v < k) ∧ ∀ v, -1 ≤ E.2.1 v ∧ E.2.1 v < num
def he (E : q_E) (num : Int) (k : Nat) : Prop := (∀ v, -1 ≤ E.1 v ∧ E.1 v < k) ∧ (∀ v, -1 ≤ E.2.1 v ∧ E.2.1 v < num) ∧ ∀ g : Int, 0 ≤ g → g < num → 1 ≤ E.2.2.2.1 g ∧ E.2.2.2.1 g ≤ 200
/-- a number of four digits -/
theorem t_nval_rng {B : Int → Int} : ∀ (n k : Nat) (x v e : Int), t_nend B n x ≤ e → x + k = e → 0 ≤ v → v * 10 ^ k ≤ 10000 - 10 ^ k → 0 ≤ t_nval B n x v ∧ t_nval B n x v ≤ 9999
  | 0, k, x, v, e, h1, h2, h3, h4 => by
    have p1 : (1 : Int) ≤ 10 ^ k := Int.pow_pos (by decide)
    have p2 : v ≤ v * 10 ^ k := by have := Int.mul_le_mul_of_nonneg_left p1 h3; rw [Int.mul_one] at this; exact this
    exact ⟨h3, by show v ≤ 9999; omega⟩
  | n + 1, k, x, v, e, h1, h2, h3, h4 => by
    have p1 : (1 : Int) ≤ 10 ^ k := Int.pow_pos (by decide)
    have p2 : v ≤ v * 10 ^ k := by have := Int.mul_le_mul_of_nonneg_left p1 h3; rw [Int.mul_one] at this; exact this
    have fx1 := t_nend_fix (B := B) n (x + 1)
    unfold t_nend at h1
    unfold t_nval
    by_cases c : t_dig (B x)
    · rw [if_pos c] at h1 ⊢
      obtain ⟨k, rfl⟩ : ∃ k', k = k' + 1 := ⟨k - 1, by omega⟩
      rw [Int.pow_succ] at h4 p2
      have e10 : q_ten v (B x) = 10 * v + B x - 48 := by
        unfold q_ten
        rw [q_xL (x := v * 10) ⟨by omega, by omega⟩, q_xL (x := v * 10 + B x) ⟨by omega, by omega⟩, q_xL ⟨by omega, by omega⟩]
        omega
      rw [e10]
      refine t_nval_rng n k (x + 1) _ e h1 (by omega) (by omega) ?_
      have : (10 * v + B x - 48) * 10 ^ k ≤ (10 * v + 9) * 10 ^ k := Int.mul_le_mul_of_nonneg_right (by omega) (Int.le_of_lt (Int.pow_pos (by decide)))
      have e : (10 * v + 9) * (10 : Int) ^ k = v * (10 ^ k * 10) + 9 * 10 ^ k := by
        rw [Int.add_mul, Int.mul_comm 10 v, Int.mul_assoc, Int.mul_comm 10 (10 ^ k)]
      omega
    · rw [if_neg c]
      exact ⟨h3, by omega⟩
theorem t_V_num {B : Int → Int} {n : Nat} (hk : t_K B n = 2) : 0 ≤ t_V B n ∧ t_V B n ≤ 9999 := by
  have hw : ¬ B (t_P B n) < 0 ∧ ¬ t_let (B (t_P B n)) ∧ t_dig (B (t_P B n)) ∧ t_nend B 1501 (t_P B n) - t_P B n ≤ 4 := by
    have r2 := t_sk_rng (B (t_P B n)) (B (t_P B n + 1))
    have r3 := t_wk_rng (t_wval B 1501 (t_P B n) 0)
    unfold t_K t_k at hk
    grind
  have ev : t_V B n = t_nval B 1501 (t_P B n) 0 := by
    unfold t_V t_v
    rw [if_neg hw.1, if_neg hw.2.1, if_pos hw.2.2.1]
  rw [ev]
  exact t_nval_rng 1501 4 (t_P B n) 0 (t_P B n + 4) (by omega) rfl (Int.le_refl _) (by decide)

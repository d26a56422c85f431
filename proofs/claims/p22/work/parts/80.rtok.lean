/-! ===== items' facts that are pure ===== -/
theorem t_n_le {b : Nat → Bool} : ∀ q, t_n b q ≤ q
  | 0 => Nat.le_refl _
  | q + 1 => by
    have := t_n_le (b := b) q
    cases h : b q with
    | true => rw [t_n_1 h]; omega
    | false => rw [t_n_0 h]; omega
theorem y_pb_is {K : Nat → Int} {fst q : Nat} (h : fst ≤ q) : y_pb K fst q = true ↔ f_pl K fst q := by
  unfold y_pb f_pl f_ve
  rw [decide_eq_true_eq]
  constructor
  · rintro ⟨-, h⟩
    rcases h with h | h | h | h | ⟨h1, h2, h3⟩
    · exact Or.inl h
    · exact Or.inr (Or.inl h)
    · exact Or.inr (Or.inr (Or.inl h))
    · exact Or.inr (Or.inr (Or.inr (Or.inl h)))
    · exact Or.inr (Or.inr (Or.inr (Or.inr ⟨h1, h2, fun z => by
        rcases h3 with h3 | h3
        · exact absurd z h3
        · exact h3⟩)))
  · intro z
    refine ⟨h, ?_⟩
    rcases z with h | h | h | h | ⟨h1, h2, h3⟩
    · exact Or.inl h
    · exact Or.inr (Or.inl h)
    · exact Or.inr (Or.inr (Or.inl h))
    · exact Or.inr (Or.inr (Or.inr (Or.inl h)))
    · refine Or.inr (Or.inr (Or.inr (Or.inr ⟨h1, h2, ?_⟩)))
      by_cases c : K q = 29
      · exact Or.inr (h3 c)
      · exact Or.inl c
theorem y_hp (K : Nat → Int) (fst : Nat) : hp K (y_P K fst) (y_I K) fst := by
  refine ⟨fun q hq => ⟨fun h => t_n_1 ((y_pb_is hq).mpr h), fun h => t_n_0 ?_⟩, fun q => ⟨fun h => t_n_1 ?_, fun h => t_n_0 ?_⟩, fun q => t_n_le q, fun q => t_n_le q⟩
  · cases c : y_pb K fst q with
    | true => exact absurd ((y_pb_is hq).mp c) h
    | false => rfl
  · unfold f_if; rw [decide_eq_true_eq]; exact h
  · unfold f_if; rw [decide_eq_false_iff_not]; exact h
theorem y_P_0 (K : Nat → Int) (fst : Nat) : ∀ n, n ≤ fst → y_P K fst n = 0
  | 0, _ => rfl
  | n + 1, h => by
    have : y_pb K fst n = false := by
      unfold y_pb
      rw [decide_eq_false_iff_not]
      omega
    show t_n _ (n + 1) = 0
    rw [t_n_0 this]
    exact y_P_0 K fst n (by omega)
theorem y_he {V : Nat → Int} {fs : List y_fn} {ins : List y_in} (h : ∀ g : Nat, g < fs.length → 1 ≤ (fs.getD g y_f0).2.2.2.1 ∧ (fs.getD g y_f0).2.2.2.1 ≤ 200) : he (y_E V fs ins) fs.length ins.length := by
  refine ⟨fun v => ?_, fun v => ?_, fun g h0 h1 => ?_⟩
  · have := y_ix_rng (V := V) (v := v) (ins.map (·.1)) 0 (Int.le_refl _)
    rw [List.length_map] at this
    show -1 ≤ y_ix V v (ins.map (·.1)) 0 ∧ y_ix V v (ins.map (·.1)) 0 < _
    omega
  · have := y_ix_rng (V := V) (v := v) (fs.map (·.1)) 0 (Int.le_refl _)
    rw [List.length_map] at this
    show -1 ≤ y_ix V v (fs.map (·.1)) 0 ∧ y_ix V v (fs.map (·.1)) 0 < _
    omega
  · exact h g.toNat (by omega)
/-! ===== tokens, in the class, while items are read ===== -/
def rt (t N L : Nat) (B : Int → Int) (s : Bool × Nat) (w : bm_W) : Prop := (sh_Tk t w ∧ tk_tab w t B (N + 1) ∧ N ≤ 1500 ∧ t_K B N = 0) ∧ bm_gi w t 8 = (s.2 : Int) ∧ bm_gi w t 10 = bm_bo s.1 ∧ bm_gi w t 9 = (L : Int) ∧ s.2 ≤ N ∧ s.2 ≤ L
def rk (t : Nat) (w : bm_W) : Prop := bm_kt w (t + 112) = 0 ∧ bm_gr w (t + 112) 0 = some t ∧ bm_gr w (t + 112) 1 = some (t + 4)
/-- tokens and complaint alone have changed -/
def tf (t : Nat) (w w' : bm_W) : Prop := q_fr (fun a => a = t ∨ a = t + 112) w w' ∧ (∀ k, k ≠ 8 → k ≠ 9 → k ≠ 10 → bm_gi w' t k = bm_gi w t k) ∧ (∀ k, k ≠ 2 → k ≠ 3 → bm_gi w' (t + 112) k = bm_gi w (t + 112) k) ∧ bm_gl w' = bm_gl w
def cq (t : Nat) (w w' : bm_W) : Prop := ∀ k, bm_gi w' (t + 112) k = bm_gi w (t + 112) k
theorem tf.rf {t : Nat} {w : bm_W} : tf t w w := ⟨q_fr.rf, fun _ _ _ _ => rfl, fun _ _ _ => rfl, rfl⟩
theorem tf.tr {t : Nat} {w w1 w2 : bm_W} (h : tf t w w1) (h2 : tf t w1 w2) : tf t w w2 := ⟨h.1.tr h2.1, fun k a b c => (h2.2.1 k a b c).trans (h.2.1 k a b c), fun k a b => (h2.2.2.1 k a b).trans (h.2.2.1 k a b), h2.2.2.2.trans h.2.2.2⟩
theorem tf.si {t k : Nat} {v : Int} {w w' : bm_W} (h : tf t w w') (hk : k = 8 ∨ k = 9 ∨ k = 10) : tf t w (bm_si w' t k v) := ⟨h.1.si (Or.inl rfl), fun j a b c => (q_gi_nk (by omega)).trans (h.2.1 j a b c), fun j a b => (q_gi_ne (by omega)).trans (h.2.2.1 j a b), h.2.2.2⟩
theorem tf.put {t : Nat} {e a : Int} {w w' : bm_W} (h : tf t w w') : tf t w (cp_put w' (t + 112) e a) := by
  unfold cp_put
  split
  · exact ⟨(h.1.si (Or.inr rfl)).si (Or.inr rfl), fun j x y z => (q_gi_ne (by omega)).trans ((q_gi_ne (by omega)).trans (h.2.1 j x y z)), fun j x y => (q_gi_nk y).trans ((q_gi_nk x).trans (h.2.2.1 j x y)), h.2.2.2⟩
  · exact h
theorem cq.rf {t : Nat} {w : bm_W} : cq t w w := fun _ => rfl
theorem cq.tr {t : Nat} {w w1 w2 : bm_W} (h : cq t w w1) (h2 : cq t w1 w2) : cq t w w2 := fun k => (h2 k).trans (h k)
theorem cq.st {t : Nat} {w w' : bm_W} (h : cq t w w') : cp_st t w w' := cp_st.eq h
theorem rk.tf {t : Nat} {w w' : bm_W} (h : rk t w) (hf : tf t w w') : rk t w' := ⟨by rw [hf.1.kt]; exact h.1, by rw [hf.1.gr]; exact h.2.1, by rw [hf.1.gr]; exact h.2.2⟩
section RTK
variable {d t N L : Nat} {B : Int → Int} {s s' : Bool × Nat} {w w' : bm_W} {Φ : bm_Rt → bm_W → Prop}
theorem rt.tf {L' : Nat} (h : rt t N L B s w) (hf : tf t w w') (h8 : bm_gi w' t 8 = (s'.2 : Int)) (h10 : bm_gi w' t 10 = bm_bo s'.1) (h9 : bm_gi w' t 9 = (L' : Int)) (hN : s'.2 ≤ N) (hL : s'.2 ≤ L') : rt t N L' B s' w' := by
  obtain ⟨⟨a1, a2, a3, a4⟩, b⟩ := h
  refine ⟨⟨a1.fr hf.1, fun j hj => ?_, a3, a4⟩, h8, h10, h9, hN, hL⟩
  rw [hf.1.gi (a := t + 1) (by omega), hf.1.gi (a := t + 2) (by omega), hf.2.2.2]
  exact a2 j hj
theorem rt.see (h : rt t N L B s w) (q : Int) : tk_at w t q ↔ f_see (t_K B) L s q q := by
  obtain ⟨⟨a1, b1, b2, -⟩, c1, c2, c3, c4, c5⟩ := h
  have : bm_gi w (t + 1) s.2 = t_K B s.2 := (b1 s.2 (by omega)).1
  unfold tk_at f_see
  rw [c1, c2, c3, Int.toNat_natCast, this, bm_bo_0]
  constructor
  · intro z; exact ⟨z.1, by omega, by omega, by omega⟩
  · intro z; exact ⟨z.1, by omega, by omega, by omega, by omega⟩
theorem rt.one (h : rt t N L B s w) (a b : Int) : tk_one w t a b = if f_see (t_K B) L s a b then t_K B s.2 else -1 := by
  obtain ⟨⟨a1, b1, b2, -⟩, c1, c2, c3, c4, c5⟩ := h
  have e : bm_gi w (t + 1) s.2 = t_K B s.2 := (b1 s.2 (by omega)).1
  have hs : (bm_gi w t 10 = 0 ∧ 0 ≤ bm_gi w t 8 ∧ bm_gi w t 8 < bm_gi w t 9 ∧ bm_gi w t 8 < 1501 ∧ a ≤ bm_gi w (t + 1) (bm_gi w t 8).toNat ∧ bm_gi w (t + 1) (bm_gi w t 8).toNat ≤ b) ↔ f_see (t_K B) L s a b := by
    rw [c1, c2, c3, Int.toNat_natCast, e, bm_bo_0]
    exact ⟨fun y => ⟨y.1, by omega, y.2.2.2.2.1, y.2.2.2.2.2⟩, fun z => ⟨z.1, by omega, by omega, by omega, z.2.2.1, z.2.2.2⟩⟩
  unfold tk_one
  by_cases z : f_see (t_K B) L s a b
  · rw [if_pos z, if_pos (hs.mpr z), c1, Int.toNat_natCast, e]
  · rw [if_neg z, if_neg (fun y => z (hs.mp y))]
theorem rt.start (h : rt t N L B s w) : tk_start w t = t_P B s.2 := by
  obtain ⟨⟨a1, b1, b2, -⟩, c1, c2, c3, c4, c5⟩ := h
  have := (b1 s.2 (by omega)).2.1
  unfold tk_start
  rw [c1, if_pos (by omega), Int.toNat_natCast, this]
theorem rt.value (h : rt t N L B s w) : tk_value w t = t_V B s.2 := by
  obtain ⟨⟨a1, b1, b2, -⟩, c1, c2, c3, c4, c5⟩ := h
  have := (b1 s.2 (by omega)).2.2
  unfold tk_value
  rw [c1, if_pos (by omega), Int.toNat_natCast, this]
theorem rt.adv (h : rt t N L B s w) {a b : Int} (ha : 0 < a) (hs : f_see (t_K B) L s a b) : rt t N L B (false, s.2 + 1) (bm_si w t 8 (bm_gi w t 8 + 1)) := by
  have hN : s.2 + 1 ≤ N := by
    rcases Nat.lt_or_ge s.2 N with z | z
    · exact z
    · have := hs.2.2
      rw [show s.2 = N by have := h.2.2.2.2.1; omega, h.1.2.2.2] at this
      omega
  refine h.tf (tf.rf.si (Or.inl rfl)) ?_ ?_ ((q_gi_nk (by decide)).trans h.2.2.2.1) hN hs.2.1
  · rw [q_gi_eq, h.2.1]
    show ((s.2 : Nat) : Int) + 1 = ((s.2 + 1 : Nat) : Int)
    omega
  · rw [q_gi_nk (by decide), h.2.2.1, hs.1]
theorem rt.bad (h : rt t N L B s w) : rt t N L B (true, s.2) (bm_si w t 10 1) := by
  refine h.tf (tf.rf.si (Or.inr (Or.inr rfl))) ?_ ?_ ((q_gi_nk (by decide)).trans h.2.2.2.1) h.2.2.2.2.1 h.2.2.2.2.2
  · rw [q_gi_nk (by decide), h.2.1]
  · rw [q_gi_eq]; rfl
def f_op (K : Nat → Int) (L : Nat) (k : Int) (s : Bool × Nat) : Bool × Nat := if f_see K L s k k then (false, s.2 + 1) else s
theorem rt_passes {k : Int} (h : rt t N L B s w) (hk : 0 < k) (hq : ∀ w', rt t N L B (f_op (t_K B) L k s) w' → tf t w w' → cq t w w' → Φ (.inl (some (bm_i (if f_see (t_K B) L s k k then 1 else 0)))) w') : bm_Call bm_pg (d + 2) y_X9_passes [bm_r (some t), bm_i k] w Φ := by
  refine (sp_passes h.1.1).mpr ?_
  unfold f_op at hq
  by_cases c : f_see (t_K B) L s k k
  · rw [if_pos ((h.see k).mpr c), if_pos ((h.see k).mpr c)]
    rw [if_pos c] at hq
    have := hq _ (h.adv hk c) (tf.rf.si (Or.inl rfl)) (fun j => q_gi_ne (by omega))
    rw [if_pos c] at this
    exact this
  · rw [if_neg (fun z => c ((h.see k).mp z)), if_neg (fun z => c ((h.see k).mp z))]
    rw [if_neg c] at hq
    have := hq _ h tf.rf cq.rf
    rw [if_neg c] at this
    exact this
theorem rt_expect {k : Int} (h : rt t N L B s w) (hk : 0 < k) (hq : ∀ w', rt t N L B (f_exp (t_K B) L k s) w' → tf t w w' → cq t w w' → Φ (.inl (some (bm_i (if f_see (t_K B) L s k k then 1 else 0)))) w') : bm_Call bm_pg (d + 2) y_X9_expect [bm_r (some t), bm_i k] w Φ := by
  refine (sp_expect h.1.1).mpr ?_
  unfold f_exp at hq
  by_cases c : f_see (t_K B) L s k k
  · rw [if_pos ((h.see k).mpr c), if_pos ((h.see k).mpr c)]
    rw [if_pos c] at hq
    have := hq _ (h.adv hk c) (tf.rf.si (Or.inl rfl)) (fun j => q_gi_ne (by omega))
    rw [if_pos c] at this
    exact this
  · rw [if_neg (fun z => c ((h.see k).mp z)), if_neg (fun z => c ((h.see k).mp z))]
    rw [if_neg c] at hq
    have := hq _ h.bad (tf.rf.si (Or.inr (Or.inr rfl))) (fun j => q_gi_ne (by omega))
    rw [if_neg c] at this
    exact this
end RTK

/-! ===== the model: meaning of cells ===== -/
/-- fair ranges of inputs -/
def y_fk (ins : List y_in) : Prop := ∀ i, i < ins.length → -20 ≤ (ins.getD i y_i0).2.1 ∧ (ins.getD i y_i0).2.1 ≤ (ins.getD i y_i0).2.2 ∧ (ins.getD i y_i0).2.2 ≤ 20
theorem f_cel_inv {K : Nat → Int} {p q : Nat} (h : f_cel K (false, p) = (false, q)) (hp : p ≤ 1500) (hw : ∀ q1, f_wh K (false, p) = (false, q1) → q1 ≤ 1500) : (K p = 30 ∧ q = p + 1) ∨ (K p ≠ 30 ∧ ∃ q1, f_wh K (false, p) = (false, q1) ∧ ((K q1 = 33 ∧ f_wh K (false, q1 + 1) = (false, q)) ∨ (K q1 ≠ 33 ∧ q = q1))) := by
  unfold f_cel at h
  by_cases c : K p = 30
  · rw [if_pos ⟨rfl, by show p < 1501; omega, by simp only; omega, by simp only; omega⟩] at h
    exact Or.inl ⟨c, (congrArg Prod.snd h).symm⟩
  rw [if_neg (fun z => c (by have := z.2.2; simp only at this; omega))] at h
  refine Or.inr ⟨c, ?_⟩
  cases e : f_wh K (false, p) with
  | mk b q1 =>
    rw [e] at h
    cases b with
    | true => rw [if_neg f_no] at h; cases h
    | false =>
      refine ⟨q1, rfl, ?_⟩
      by_cases k : K q1 = 33
      · rw [if_pos ⟨rfl, by have := hw q1 e; show q1 < 1501; omega, by simp only; omega, by simp only; omega⟩] at h
        exact Or.inl ⟨k, h⟩
      · rw [if_neg (fun z => k (by have := z.2.2; simp only at this; omega))] at h
        exact Or.inr ⟨k, (congrArg Prod.snd h).symm⟩
/-- what a cell may change -/
def mC (m x : Nat) (w w' : bm_W) : Prop := q_fr (fun a => a = m ∨ a = m + 24 ∨ a = m + 25) w w' ∧ (∀ k, k ≠ 3 → k ≠ 9 → bm_gi w' m k = bm_gi w m k) ∧ ∀ j, j < x → bm_gi w' (m + 24) j = bm_gi w (m + 24) j ∧ bm_gi w' (m + 25) j = bm_gi w (m + 25) j
section MN
variable {d m N p q f x c : Nat} {B : Int → Int} {w : bm_W} {Φ : bm_Rt → bm_W → Prop} {ins : List y_in}
theorem mC.rf : mC m x w w := ⟨q_fr.rf, fun _ _ _ => rfl, fun _ _ => ⟨rfl, rfl⟩⟩
theorem mC.tr {x' : Nat} {w1 w2 : bm_W} (h : mC m x w w1) (h2 : mC m x' w1 w2) (hx : x ≤ x') : mC m x w w2 := ⟨h.1.tr h2.1, fun k a b => (h2.2.1 k a b).trans (h.2.1 k a b), fun j a => ⟨(h2.2.2 j (by omega)).1.trans (h.2.2 j a).1, (h2.2.2 j (by omega)).2.trans (h.2.2 j a).2⟩⟩
theorem mC.at {w1 : bm_W} {k : Nat} {v : Int} (h : mC m x w w1) (hk : k = 3 ∨ k = 9) : mC m x w (bm_si w1 m k v) := ⟨h.1.si (Or.inl rfl), fun j a b => (q_gi_nk (by omega)).trans (h.2.1 j a b), fun j a => ⟨(q_gi_ne (by omega)).trans (h.2.2 j a).1, (q_gi_ne (by omega)).trans (h.2.2 j a).2⟩⟩
theorem md_Z.mC {w' : bm_W} (h : md_Z m B N w) (hI : mC m x w w') : md_Z m B N w' := md_Z.fr hI.1 (fun j h1 h2 => by omega) (hI.2.1 2 (by decide) (by decide)) h
theorem mm_set {v4 a b : Int} (S : sh_Md m w) (hx : x + 2 < 216) (hi3 : ins.length ≤ 3) (hv : (c < ins.length ∧ v4 = 1) ∨ (ins.length ≤ c ∧ v4 = 0)) (hq : ∀ w', mC m (x + c) w w' → bm_gi w' m 3 = bm_gi w m 3 → bm_gi w' m 9 = bm_gi w m 9 → (c < ins.length → bm_gi w' (m + 24) (x + c) = a ∧ bm_gi w' (m + 25) (x + c) = b) → Φ (.inl none) w') : bm_Call bm_pg (d + 1) y_X12_setCell [bm_r (some m), bm_i (x : Int), bm_i (c : Int), bm_i v4, bm_i a, bm_i b] w Φ := by
  refine vc_X12_setCell ?_
  rcases hv with ⟨h1, rfl⟩ | ⟨h1, rfl⟩
  · rw [if_pos (by decide)]
    have S2 : sh_Md m (bm_si w (m + 24) (x + c) a) := S
    simp only [bm_c0_v, bm_c1_v, bm_c2_v, bm_c3_v, bm_c4_v, bm_c5_v, bm_u_some, decide_eq_true_eq, true_and, and_true, and_self, Bool.not_eq_true, Bool.not_eq_true', decide_eq_false_iff_not, if_true, if_false, ite_true, ite_false, eq_self, S.1, S.g32, S.t32, S.n32, bm_wN (show x + c < 2147483648 by omega), bm_in, Int.toNat_natCast, S2.1, S2.g33, S2.t33, S2.n33]
    refine ⟨by omega, by omega, hq _ ⟨(q_fr.rf.si (by omega)).si (by omega), fun k _ _ => by rw [q_gi_ne (by omega), q_gi_ne (by omega)], fun j hj => ⟨?_, ?_⟩⟩ (by rw [q_gi_ne (by omega), q_gi_ne (by omega)]) (by rw [q_gi_ne (by omega), q_gi_ne (by omega)]) (fun _ => ⟨?_, q_gi_eq⟩)⟩
    · rw [q_gi_ne (by omega), q_gi_nk (by omega)]
    · rw [q_gi_nk (by omega), q_gi_ne (by omega)]
    · rw [q_gi_ne (by omega), q_gi_eq]
  · rw [if_neg (by decide)]
    exact hq w mC.rf rfl rfl (fun z => by omega)
/-- what is there behind a cell -/
def cG (m c x q : Nat) (ins : List y_in) (w' : bm_W) (l : List (Int × Int)) : Prop := bm_gi w' m 9 = (q : Int) ∧ (c < ins.length → ∃ r, l = [r] ∧ (-20 ≤ r.1 ∧ r.1 ≤ r.2 ∧ r.2 ≤ 20) ∧ bm_gi w' (m + 24) (x + c) = r.1 ∧ bm_gi w' (m + 25) (x + c) = r.2) ∧ (ins.length ≤ c → l = [])
theorem mm_115 {v4 v6 v7 : Int} {q1 : Nat} (h : md_Z m B N w) (h9 : bm_gi w m 9 = ((q1 - 1 : Nat) : Int)) (h1 : 1 ≤ q1) (hN : q1 ≤ N) (hx : x + 2 < 216) (hi3 : ins.length ≤ 3) (hv : (c < ins.length ∧ v4 = 1) ∨ (ins.length ≤ c ∧ v4 = 0)) (hv7 : c < ins.length → -20 ≤ v7 ∧ v7 ≤ v6 ∧ v6 ≤ 20) (hr : (t_K B q1 = 33 ∧ f_wh (t_K B) (false, q1 + 1) = (false, q)) ∨ (t_K B q1 ≠ 33 ∧ q = q1))
    (hq : ∀ v w', mC m (x + c) w w' → ma m w B (if c < ins.length then (if t_K B q1 = 33 then y_b (y_wh (t_K B) (t_V B) (q1 + 1) v7 v6) fun other => .inr [(v7, other)] else .inr [(v7, v7)]) else .inr []) v w' (cG m c x q ins w') → Φ (.inl (some (bm_i v))) w') : bk_X12_cell_115 (d + 8) Φ m (x : Int) (c : Int) v4 v6 v7 w := by
  have N5 := h.2.2.1
  have k11 : t_kc 11 = 33 := rfl
  refine vb_X12_cell_115 ?_
  have Z1 := h.at9 (v := ((q1 : Nat) : Int))
  have e9 : bm_gi (bm_si w m 9 ((q1 : Nat) : Int)) m 9 = ((q1 : Nat) : Int) := q_gi_eq
  have C1 : mC m (x + c) w (bm_si w m 9 ((q1 : Nat) : Int)) := mC.rf.at (Or.inr rfl)
  simp only [h.1.1.1, true_and, h9, bm_w1 (show q1 - 1 < 2147483647 by omega), show q1 - 1 + 1 = q1 by omega, Z1.1.1.1]
  refine mm_takes (d := d + 1) Z1 e9 hN (by decide) (by decide) (fun k => ?_) (fun k k2 => ?_)
  · rw [k11] at k
    rw [if_neg k] at hq
    rw [bm_c1_v, if_pos (by decide)]
    have qq : q = q1 := by rcases hr with z | z <;> omega
    refine ⟨Z1.1.1.1, mm_set Z1.1.1 hx hi3 hv (fun w' C w3 w9 hc => ?_)⟩
    rw [bm_c0_v]
    refine hq 0 w' (C1.tr C (Nat.le_refl _)) ?_
    by_cases l1 : c < ins.length
    · rw [if_pos l1]
      exact ⟨rfl, w3.trans (q_gi_nk (by decide)), (w9.trans e9).trans (by rw [qq]), fun _ => ⟨(v7, v7), rfl, ⟨(hv7 l1).1, Int.le_refl _, by have := hv7 l1; simp only; omega⟩, hc l1⟩, fun z => by omega⟩
    · rw [if_neg l1]
      exact ⟨rfl, w3.trans (q_gi_nk (by decide)), (w9.trans e9).trans (by rw [qq]), fun z => absurd z l1, fun _ => rfl⟩
  · rw [k11] at k
    rw [if_pos k] at hq
    rw [bm_c1_v, if_neg (by decide), q_si_si]
    have Z2 := h.at9 (v := ((q1 + 1 : Nat) : Int))
    have hf2 : f_wh (t_K B) (false, q1 + 1) = (false, q) := by
      rcases hr with z | z
      · exact z.2
      · exact absurd k z.1
    have x2 := f_wh_inv hf2 (by omega)
    have qN : q ≤ N := by have := (f_far_wh (K := t_K B) h.2.2.2.2 (false, q1 + 1) k2).2.1; rw [hf2] at this; exact this
    rw [y_wh_v hf2 (by omega)] at hq
    refine ⟨Z2.1.1.1, mm_whole Z2 q_gi_eq k2 hf2 (fun b3 b4 => ?_)⟩
    rw [q_si_si, bm_c1_v]
    have Z3 := h.at9 (v := ((q - 1 : Nat) : Int))
    have e9' : bm_gi (bm_si w m 9 ((q - 1 : Nat) : Int)) m 9 = ((q - 1 : Nat) : Int) := q_gi_eq
    have Z4 := h.at9 (v := ((q : Nat) : Int))
    have e9'' : bm_gi (bm_si w m 9 ((q : Nat) : Int)) m 9 = ((q : Nat) : Int) := q_gi_eq
    have C4 : mC m (x + c) w (bm_si w m 9 ((q : Nat) : Int)) := mC.rf.at (Or.inr rfl)
    rcases hv with ⟨l1, rfl⟩ | ⟨l1, rfl⟩
    · rw [if_neg (by decide)]
      rw [if_pos l1] at hq
      simp only [mp_isIn, bm_c1_v, true_and]
      by_cases cc : v7 ≤ y_v (t_K B) (t_V B) (q1 + 1) ∧ y_v (t_K B) (t_V B) (q1 + 1) ≤ v6
      · rw [if_pos cc, y_b_inr] at hq
        rw [if_pos cc, if_pos (by decide)]
        simp only [Z3.1.1.1, e9', bm_w1 (show q - 1 < 2147483647 by omega), show q - 1 + 1 = q by omega, q_si_si, Z4.1.1.1, true_and]
        refine mm_set Z4.1.1 hx hi3 (Or.inl ⟨l1, rfl⟩) (fun w' C w3 w9 hc => ?_)
        rw [bm_c0_v]
        exact hq 0 w' (C4.tr C (Nat.le_refl _)) ⟨rfl, w3.trans (q_gi_nk (by decide)), w9.trans e9'', fun _ => ⟨(v7, _), rfl, ⟨(hv7 l1).1, cc.1, by have := hv7 l1; simp only; omega⟩, hc l1⟩, fun z => by omega⟩
      · rw [if_neg cc, y_b_inl] at hq
        rw [if_neg cc, if_neg (by decide)]
        simp only [Z3.1.1.1, e9', true_and]
        refine mm_wrong (d := d + 7) Z3 (x := q - 1) (by omega) (fun a => ?_)
        rw [bm_c1_v]
        exact hq 5 _ ((mC.rf.at (Or.inr rfl)).at (Or.inl rfl)) (ma_wr (by decide) a)
    · rw [if_pos (by decide)]
      rw [if_neg (by omega)] at hq
      simp only [Z3.1.1.1, e9', bm_w1 (show q - 1 < 2147483647 by omega), show q - 1 + 1 = q by omega, q_si_si, Z4.1.1.1, true_and]
      refine mm_set (ins := ins) Z4.1.1 hx hi3 (Or.inr ⟨l1, rfl⟩) (fun w' C w3 w9 hc => ?_)
      rw [bm_c0_v]
      exact hq 0 w' (C4.tr C (Nat.le_refl _)) ⟨rfl, w3.trans (q_gi_nk (by decide)), w9.trans e9'', fun z => by omega, fun _ => rfl⟩
theorem mm_57 {v4 v5 s0 : Int} (h : md_Z m B N w) (h9 : bm_gi w m 9 = (p : Int)) (hN : p ≤ N) (hx : x + 2 < 216) (hi3 : ins.length ≤ 3) (hv : (c < ins.length ∧ v4 = 1) ∨ (ins.length ≤ c ∧ v4 = 0)) (hr : y_fk ins) (hv5 : c < ins.length → v5 = (ins.getD c y_i0).2.1 ∧ s0 = (ins.getD c y_i0).2.2) (hf : f_cel (t_K B) (false, p) = (false, q))
    (hq : ∀ v w', mC m (x + c) w w' → ma m w B (y_cel (t_K B) (t_V B) ins c p) v w' (cG m c x q ins w') → Φ (.inl (some (bm_i v))) w') : bk_X12_cell_57 (d + 8) Φ m (x : Int) (c : Int) v4 v5 s0 w := by
  have N5 := h.2.2.1
  have k14 : t_kc 14 = 30 := rfl
  have hinv := f_cel_inv hf (by omega) (fun q1 e => by have := (f_far_wh (K := t_K B) h.2.2.2.2 (false, p) hN).2.1; rw [e] at this; simp only at this; omega)
  refine vb_X12_cell_57 ?_
  simp only [h.1.1.1, true_and]
  unfold y_cel at hq
  refine mm_takes (d := d + 1) h h9 hN (by decide) (by decide) (fun k => ?_) (fun k k2 => ?_)
  · rw [k14] at k
    rw [if_neg k] at hq
    rw [bm_c1_v, if_pos (by decide)]
    rcases hinv with z | ⟨-, q1, e1, hrest⟩
    · exact absurd z.1 k
    have x1 := f_wh_inv e1 (by omega)
    have q1N : q1 ≤ N := by have := (f_far_wh (K := t_K B) h.2.2.2.2 (false, p) hN).2.1; rw [e1] at this; exact this
    refine ⟨h.1.1.1, mm_whole h h9 hN e1 (fun b1 b2 => ?_)⟩
    rw [bm_c1_v]
    have Z1 := h.at9 (v := ((q1 - 1 : Nat) : Int))
    have e9 : bm_gi (bm_si w m 9 ((q1 - 1 : Nat) : Int)) m 9 = ((q1 - 1 : Nat) : Int) := q_gi_eq
    have C1 : mC m (x + c) w (bm_si w m 9 ((q1 - 1 : Nat) : Int)) := mC.rf.at (Or.inr rfl)
    rw [y_wh_v e1 (by omega), e1] at hq
    have see33 : f_see (t_K B) f_T (false, q1) 33 33 ↔ t_K B q1 = 33 := ⟨fun z => by have := z.2.2; simp only at this; omega, fun z => ⟨rfl, by show q1 < 1501; omega, by simp only; omega, by simp only; omega⟩⟩
    simp only [see33] at hq
    rcases hv with ⟨l1, rfl⟩ | ⟨l1, rfl⟩
    · rw [if_neg (by decide)]
      rw [if_pos l1] at hq
      have hr1 := hr c l1
      obtain ⟨w1, w2⟩ := hv5 l1
      rw [← w1, ← w2] at hr1 hq
      simp only [mp_isIn, bm_c1_v, true_and]
      by_cases cc : v5 ≤ y_v (t_K B) (t_V B) p ∧ y_v (t_K B) (t_V B) p ≤ s0
      · rw [if_pos cc, y_b_inr] at hq
        rw [if_pos cc, if_pos (by decide)]
        refine mm_115 (ins := ins) Z1 e9 (by omega) q1N hx hi3 (Or.inl ⟨l1, rfl⟩) (fun _ => ⟨by omega, cc.2, by omega⟩) hrest (fun v w' C a => hq v w' (C1.tr C (Nat.le_refl _)) ?_)
        rw [if_pos l1] at a
        exact a.w (q_gi_nk (by decide))
      · rw [if_neg cc, y_b_inl] at hq
        rw [if_neg cc, if_neg (by decide)]
        simp only [Z1.1.1.1, e9, true_and]
        refine mm_wrong (d := d + 7) Z1 (x := q1 - 1) (by omega) (fun a => ?_)
        rw [bm_c1_v]
        exact hq 5 _ (C1.at (Or.inl rfl)) (ma_wr (by decide) a)
    · rw [if_pos (by decide)]
      rw [if_neg (by omega)] at hq
      refine mm_115 (ins := ins) Z1 e9 (by omega) q1N hx hi3 (Or.inr ⟨l1, rfl⟩) (fun z => by omega) hrest (fun v w' C a => hq v w' (C1.tr C (Nat.le_refl _)) ?_)
      rw [if_neg (by omega)] at a
      exact a.w (q_gi_nk (by decide))
  · rw [k14] at k
    rw [if_pos k] at hq
    rw [bm_c1_v, if_neg (by decide)]
    have qq : q = p + 1 := by
      rcases hinv with z | z
      · exact z.2
      · exact absurd k z.1
    have Z1 := h.at9 (v := ((p + 1 : Nat) : Int))
    have C1 : mC m (x + c) w (bm_si w m 9 ((p + 1 : Nat) : Int)) := mC.rf.at (Or.inr rfl)
    have e9 : bm_gi (bm_si w m 9 ((p + 1 : Nat) : Int)) m 9 = ((p + 1 : Nat) : Int) := q_gi_eq
    refine ⟨Z1.1.1.1, mm_set Z1.1.1 hx hi3 hv (fun w' C w3 w9 hc => ?_)⟩
    rw [bm_c0_v]
    refine hq 0 w' (C1.tr C (Nat.le_refl _)) ?_
    by_cases l1 : c < ins.length
    · rw [if_pos l1]
      have hr1 := hr c l1
      obtain ⟨w1, w2⟩ := hv5 l1
      rw [← w1, ← w2] at hr1 ⊢
      exact ⟨rfl, w3.trans (q_gi_nk (by decide)), (w9.trans e9).trans (by rw [qq]), fun _ => ⟨(v5, s0), rfl, hr1, hc l1⟩, fun z => by omega⟩
    · rw [if_neg l1]
      exact ⟨rfl, w3.trans (q_gi_nk (by decide)), (w9.trans e9).trans (by rw [qq]), fun z => absurd z l1, fun _ => rfl⟩
theorem mm_cell (h : md_Z m B N w) (h9 : bm_gi w m 9 = (p : Int)) (hN : p ≤ N) (hi : mip m B f ins w) (hf6 : f < 6) (hx : x + 2 < 216) (hc : c < 2000) (hr : y_fk ins) (hf : f_cel (t_K B) (false, p) = (false, q))
    (hq : ∀ v w', mC m (x + c) w w' → ma m w B (y_cel (t_K B) (t_V B) ins c p) v w' (cG m c x q ins w') → Φ (.inl (some (bm_i v))) w') : bm_Call bm_pg (d + 9) y_X12_cell [bm_r (some m), bm_i (f : Int), bm_i (x : Int), bm_i (c : Int)] w Φ := by
  refine vc_X12_cell ?_
  obtain ⟨i1, i2, i3, i4⟩ := hi
  simp only [bm_c0_v, bm_c1_v, bm_c2_v, bm_c3_v, bm_c4_v, bm_c5_v, bm_u_some, decide_eq_true_eq, true_and, and_true, and_self, Bool.not_eq_true, Bool.not_eq_true', decide_eq_false_iff_not, if_true, if_false, ite_true, ite_false, eq_self, h.1.1.1, h.1.1.g20, h.1.1.t20, h.1.1.n20, bm_in, Int.toNat_natCast, i1]
  refine ⟨by omega, ?_⟩
  by_cases l1 : c < ins.length
  · rw [if_neg (by omega)]
    refine vb_X12_cell_15 ?_
    rw [if_neg (by decide), if_neg (by decide)]
    have := i3 c l1
    simp only [bm_c0_v, bm_c1_v, bm_c2_v, bm_c3_v, bm_c4_v, bm_c5_v, bm_u_some, decide_eq_true_eq, true_and, and_true, and_self, Bool.not_eq_true, Bool.not_eq_true', decide_eq_false_iff_not, if_true, if_false, ite_true, ite_false, eq_self, h.1.1.1, h.1.1.g22, h.1.1.t22, h.1.1.n22, h.1.1.g23, h.1.1.t23, h.1.1.n23, bm_in, bm_w3 hf6, bm_wN (show 3 * f + c < 2147483648 by omega), Int.toNat_natCast, this.2.1, this.2.2]
    refine ⟨by omega, by omega, mm_57 h h9 hN hx i2 (Or.inl ⟨l1, rfl⟩) hr (fun _ => ⟨rfl, rfl⟩) hf hq⟩
  · rw [if_pos (by omega)]
    refine vb_X12_cell_15 ?_
    rw [if_pos (by decide), if_pos (by decide)]
    exact mm_57 h h9 hN hx i2 (Or.inr ⟨by omega, rfl⟩) hr (fun z => absurd z l1) hf hq
end MN

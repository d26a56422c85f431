/-! ===== values of rows of inputs ===== -/
/-- ranges of inputs -/
def y_rg (ins : List y_in) : List (Int × Int) := ins.map (·.2)
theorem y_rg_len {ins : List y_in} : (y_rg ins).length = ins.length := List.length_map _
theorem y_rg_at {ins : List y_in} {i : Nat} : (y_rg ins).getD i (0, 0) = (ins.getD i y_i0).2 := by
  unfold y_rg
  rw [List.getD_eq_getElem?_getD, List.getElem?_map, List.getD_eq_getElem?_getD]
  cases ins[i]? with
  | none => rfl
  | some a => rfl
theorem y_rg_lk {ins : List y_in} (h : y_fk ins) : y_lk (y_rg ins) := fun c hc => by
  rw [y_rg_at]
  exact h c (by rw [← y_rg_len]; exact hc)
def s_n (l : List (Int × Int)) (i : Nat) : Int := y_wd (l.getD i (0, 0))
theorem s_n_rng {l : List (Int × Int)} (h : y_lk l) (i : Nat) : 1 ≤ s_n l i ∧ s_n l i ≤ 41 ∧ (l.length ≤ i → s_n l i = 1) := by
  unfold s_n y_wd
  rcases Nat.lt_or_ge i l.length with z | z
  · have := h i z
    omega
  · have e : l.getD i (0, 0) = (0, 0) := by rw [List.getD_eq_getElem?_getD, List.getElem?_eq_none z]; rfl
    rw [e]
    simp
/-- how often a value repeats -/
def s_rep (l : List (Int × Int)) (i : Nat) : Int := if i = 0 then s_n l 2 * s_n l 1 else if i = 1 then s_n l 2 else 1
/-- the value of input i in row k of the inputs -/
def s_val (l : List (Int × Int)) (k : Int) (i : Nat) : Int := (l.getD i (0, 0)).1 + k / s_rep l i % s_n l i
theorem s_rep_s {l : List (Int × Int)} {i : Nat} (hi : i < 2) : s_rep l i = s_rep l (i + 1) * s_n l (i + 1) := by
  rcases (show i = 0 ∨ i = 1 by omega) with rfl | rfl
  · rfl
  · show s_n l 2 = 1 * s_n l 2
    rw [Int.one_mul]
theorem s_rep_e {l : List (Int × Int)} (h : y_lk l) (h1 : 1 ≤ l.length) (h3 : l.length ≤ 3) : s_rep l (l.length - 1) = 1 := by
  unfold s_rep
  rcases (show l.length = 1 ∨ l.length = 2 ∨ l.length = 3 by omega) with z | z | z <;> rw [z]
  · rw [if_pos rfl, (s_n_rng h 2).2.2 (by omega), (s_n_rng h 1).2.2 (by omega)]; rfl
  · rw [if_neg (by decide), if_pos rfl, (s_n_rng h 2).2.2 (by omega)]
  · rw [if_neg (by decide), if_neg (by decide)]
theorem s_val_rng {l : List (Int × Int)} {k : Int} {i : Nat} (h : y_lk l) : -20 ≤ s_val l k i ∧ s_val l k i ≤ 20 ∧ (l.getD i (0, 0)).1 ≤ s_val l k i ∧ s_val l k i ≤ (l.getD i (0, 0)).2 := by
  unfold s_val
  have n := s_n_rng h i
  have a := Int.emod_nonneg (k / s_rep l i) (show s_n l i ≠ 0 by omega)
  have b := Int.emod_lt_of_pos (k / s_rep l i) (show 0 < s_n l i by omega)
  have e : s_n l i = (l.getD i (0, 0)).2 - (l.getD i (0, 0)).1 + 1 := rfl
  rcases Nat.lt_or_ge i l.length with z | z
  · have := h i z
    omega
  · have e2 : l.getD i (0, 0) = (0, 0) := by rw [List.getD_eq_getElem?_getD, List.getElem?_eq_none z]; rfl
    rw [e2] at e ⊢
    simp only at e ⊢
    omega
theorem q_gw.far {A R : Nat → Prop} {c s a : Nat} {w w1 w' : bm_W} (h : q_gw A R c s w w1) (F : q_fr (fun b => b = a) w1 w') (ha : bm_sz w ≤ a) : q_gw A R c s w w' := by
  refine ⟨by rw [F.sz, F.sl]; exact h.1, fun b hb => ⟨⟨by rw [F.kt]; exact (h.2 b hb).1.1, by rw [F.kn]; exact (h.2 b hb).1.2⟩, fun z j => by rw [F.gr]; exact (h.2 b hb).2.1 z j, fun z j => ⟨(F.gi (by omega)).trans ((h.2 b hb).2.2 z j).1, (F.gl (by omega)).trans ((h.2 b hb).2.2 z j).2⟩⟩⟩
section MV
variable {d m f a : Nat} {k : Int} {B : Int → Int} {w : bm_W} {Φ : bm_Rt → bm_W → Prop} {ins : List y_in}
theorem mp_span (S : sh_Md m w) (hi : mip m B f ins w) (hf : f < 6) (hk : y_fk ins) {i : Nat} (hn : i < ins.length) : bm_Call bm_pg (d + 1) y_X12_span [bm_r (some m), bm_i (f : Int), bm_i (i : Int)] w Φ ↔ Φ (.inl (some (bm_i (s_n (y_rg ins) i)))) w := by
  have a1 := (hi.2.2.1 i hn).2
  have n3 := hi.2.1
  have r := hk i hn
  have e : s_n (y_rg ins) i = bm_w (bm_w ((ins.getD i y_i0).2.2 - (ins.getD i y_i0).2.1) + 1) := by
    rw [q_wI (x := (ins.getD i y_i0).2.2 - (ins.getD i y_i0).2.1) ⟨by omega, by omega⟩, q_wI ⟨by omega, by omega⟩]
    unfold s_n y_wd
    rw [y_rg_at]
  refine bm_ans (fun Ψ q => vc_X12_span ?_)
  rw [e] at q
  simp only [bm_c0_v, bm_c1_v, bm_c2_v, bm_c3_v, bm_c4_v, bm_c5_v, bm_u_some, decide_eq_true_eq, true_and, and_true, and_self, Bool.not_eq_true, Bool.not_eq_true', decide_eq_false_iff_not, if_true, if_false, ite_true, ite_false, eq_self, S.1, S.g22, S.t22, S.n22, S.g23, S.t23, S.n23, bm_w3 hf, bm_wN (show 3 * f + i < 2147483648 by omega), bm_in, Int.toNat_natCast, a1.1, a1.2]
  exact ⟨by omega, by omega, q⟩
theorem mm_rowOf17 (hf : f < 6) (hk : y_fk ins) (h0 : 0 ≤ k) (hk2 : k < 2147483648) (ha : a < m ∨ m + 31 < a) : ∀ (i : Nat) (left : Int) (w : bm_W), sh_Md m w → mip m B f ins w → bm_kt w a = 21 → bm_kn w a = 3 → i ≤ ins.length → (0 < i → left = k / s_rep (y_rg ins) (i - 1)) → (∀ w', q_fr (fun b => b = a) w w' → (∀ j, j < i → bm_gi w' a j = s_val (y_rg ins) k j) → (∀ j, i ≤ j → bm_gi w' a j = bm_gi w a j) → Φ (.inl (some (bm_r (some a)))) w') → bk_X12_rowOf_17 (d + 1) Φ m (f : Int) a left ((i : Int) - 1) w
  | 0, left, w, S, hi, kt, kn, hn, hl, hq => by
    refine vb_X12_rowOf_17 ?_
    rw [if_pos (by decide)]
    exact hq w q_fr.rf (fun j hj => by omega) (fun j _ => rfl)
  | i + 1, left, w, S, hi, kt, kn, hn, hl, hq => by
    have n3 := hi.2.1
    have lk := y_rg_lk hk
    have n := s_n_rng lk i
    have hl' := hl (Nat.succ_pos _)
    simp only [Nat.add_sub_cancel] at hl'
    have rp : 1 ≤ s_rep (y_rg ins) i := by
      unfold s_rep
      have n1 := (s_n_rng lk 1).1
      have n2 := (s_n_rng lk 2).1
      split
      · have := Int.mul_le_mul n2 n1 (by decide) (by omega); omega
      · split <;> omega
    have l0 : 0 ≤ left := by rw [hl']; exact Int.ediv_nonneg h0 (by omega)
    have lk2 : left ≤ k := by rw [hl']; exact Int.ediv_le_self _ h0
    have v := s_val_rng (k := k) (i := i) lk
    have ve : s_val (y_rg ins) k i = (ins.getD i y_i0).2.1 + left % s_n (y_rg ins) i := by
      unfold s_val
      rw [y_rg_at, hl']
    have m1 := Int.emod_nonneg left (show s_n (y_rg ins) i ≠ 0 by omega)
    have m2 := Int.emod_lt_of_pos left (show 0 < s_n (y_rg ins) i by omega)
    have d1 : 0 ≤ left / s_n (y_rg ins) i := Int.ediv_nonneg l0 (by omega)
    have d2 : left / s_n (y_rg ins) i ≤ left := Int.ediv_le_self _ l0
    have a1 := (hi.2.2.1 i (by omega)).2
    have S2 : sh_Md m (bm_si w a i (s_val (y_rg ins) k i)) := S
    have hi2 : mip m B f ins (bm_si w a i (s_val (y_rg ins) k i)) := hi.mv (fun j => ⟨q_gi_ne (by omega), rfl, q_gi_ne (by omega), q_gi_ne (by omega)⟩)
    have ei : ((i + 1 : Nat) : Int) - 1 = (i : Int) := by omega
    refine vb_X12_rowOf_17 ?_
    rw [ei, if_neg (by simp)]
    simp only [bm_c0_v, bm_c1_v, bm_c2_v, bm_c3_v, bm_c4_v, bm_c5_v, bm_u_some, decide_eq_true_eq, true_and, and_true, and_self, Bool.not_eq_true, Bool.not_eq_true', decide_eq_false_iff_not, if_true, if_false, ite_true, ite_false, eq_self, S.1, S.g22, S.t22, S.n22, bm_w3 hf, bm_wN (show 3 * f + i < 2147483648 by omega), bm_in, Int.toNat_natCast, a1.1, mp_span S hi hf hk (show i < ins.length by omega), bm_c1_v, kt, kn, Int.tmod_eq_emod_of_nonneg l0, Int.tdiv_eq_ediv_of_nonneg l0, q_wI (x := left % s_n (y_rg ins) i) ⟨by omega, by omega⟩]
    rw [← ve, q_wI (x := s_val (y_rg ins) k i) ⟨by omega, by omega⟩]
    simp only [S.1, S2.1, mp_span S2 hi2 hf hk (show i < ins.length by omega), bm_c1_v, Int.tdiv_eq_ediv_of_nonneg l0, q_wI (x := left / s_n (y_rg ins) i) ⟨by omega, by omega⟩, q_wI (x := (i : Int) + (-1)) ⟨by omega, by omega⟩]
    have e3 : (i : Int) + -1 = (i : Int) - 1 := by omega
    rw [e3]
    refine ⟨by omega, by omega, by omega, trivial, by omega, ?_⟩
    refine mm_rowOf17 hf hk h0 hk2 ha i _ _ S2 hi2 kt kn (by omega) (fun ip => ?_) (fun w' F g1 g2 => hq w' ((q_fr.rf.si (A := fun b => b = a) rfl).tr F) (fun j hj => ?_) (fun j hj => ?_))
    · rw [hl', Int.ediv_ediv_of_nonneg (by omega)]
      have := s_rep_s (l := y_rg ins) (i := i - 1) (by omega)
      rw [show i - 1 + 1 = i by omega] at this
      rw [this]
    · rcases Nat.lt_or_ge j i with z | z
      · exact g1 j z
      · rw [show j = i by omega, g2 i (Nat.le_refl _), q_gi_eq]
    · rw [g2 j (by omega), q_gi_nk (by omega)]
/-- a new row of inputs -/
theorem mm_rowOf (S : sh_Md m w) (hs : m + 31 < bm_sz w) (hi : mip m B f ins w) (hf : f < 6) (hk : y_fk ins) (h1 : 1 ≤ ins.length) (h0 : 0 ≤ k) (hk2 : k < 2147483648) (hq : ∀ w', q_gw (fun _ => False) (fun _ => False) 1 3 w w' → bm_kt w' (bm_sz w) = 21 → bm_kn w' (bm_sz w) = 3 → bm_sz w' = bm_sz w + 1 → (∀ j, j < 3 → bm_gi w' (bm_sz w) j = if j < ins.length then s_val (y_rg ins) k j else 0) → Φ (.inl (some (bm_r (some (bm_sz w))))) w') : bm_Call bm_pg (d + 2) y_X12_rowOf [bm_r (some m), bm_i (f : Int), bm_i k] w Φ := by
  have n3 := hi.2.1
  have t3 : ((3 : Int)).toNat = 3 := rfl
  have G : q_gw (fun _ => False) (fun _ => False) 1 3 w (bm_nw w 21 3 3) := q_gw.rf.nw
  have e : ∀ y j, y ≤ m + 31 → bm_gi (bm_nw w 21 3 3) y j = bm_gi w y j := fun y j hy => if_neg (by omega)
  have S1 : sh_Md m (bm_nw w 21 3 3) := S.gw G hs (fun z => z)
  have i1 : mip m B f ins (bm_nw w 21 3 3) := hi.mv (fun j => ⟨e _ _ (by omega), G.gl (by omega) (fun z => z), e _ _ (by omega), e _ _ (by omega)⟩)
  have kt : bm_kt (bm_nw w 21 3 3) (bm_sz w) = 21 := if_pos rfl
  have kn : bm_kn (bm_nw w 21 3 3) (bm_sz w) = 3 := if_pos rfl
  have z0 : ∀ j, bm_gi (bm_nw w 21 3 3) (bm_sz w) j = 0 := fun j => if_pos rfl
  refine vc_X12_rowOf ?_
  simp only [bm_c0_v, bm_c1_v, bm_c2_v, bm_c3_v, bm_c4_v, bm_c5_v, bm_u_some, decide_eq_true_eq, true_and, and_true, and_self, Bool.not_eq_true, Bool.not_eq_true', decide_eq_false_iff_not, if_true, if_false, ite_true, ite_false, eq_self, t3, S1.1, S1.g20, S1.t20, S1.n20, bm_in, i1.1, Int.toNat_natCast, q_wI (x := (ins.length : Int) - 1) ⟨by omega, by omega⟩, S1.1]
  refine ⟨by decide, by omega, mm_rowOf17 (a := bm_sz w) hf hk h0 hk2 (by omega) ins.length k _ S1 i1 kt kn (Nat.le_refl _) (fun _ => ?_) (fun w' F g1 g2 => hq w' ?_ ?_ ?_ ?_ (fun j hj => ?_))⟩
  · have := s_rep_e (l := y_rg ins) (y_rg_lk hk) (by rw [y_rg_len]; exact h1) (by rw [y_rg_len]; exact n3)
    rw [y_rg_len] at this
    rw [this, Int.ediv_one]
  · exact G.far F (Nat.le_refl _)
  · rw [F.kt]; exact kt
  · rw [F.kn]; exact kn
  · rw [F.sz]; rfl
  · by_cases c : j < ins.length
    · rw [if_pos c]; exact g1 j c
    · rw [if_neg c, g2 j (by omega)]; exact z0 j
end MV

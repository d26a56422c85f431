/-! ===== the model: cases of rows ===== -/
theorem bm_w12 {k : Nat} (h : k < 6) : bm_w ((12 : Int) * (k : Int)) = ((12 * k : Nat) : Int) := by rw [q_wI ⟨by omega, by omega⟩]; omega
theorem bm_wM3 {a : Nat} (h : a < 1000) : bm_w ((a : Int) * (3 : Int)) = ((a * 3 : Nat) : Int) := by rw [q_wI ⟨by omega, by omega⟩]; omega
/-- fair cells -/
def y_lk (l : List (Int × Int)) : Prop := ∀ c, c < l.length → -20 ≤ (l.getD c (0, 0)).1 ∧ (l.getD c (0, 0)).1 ≤ (l.getD c (0, 0)).2 ∧ (l.getD c (0, 0)).2 ≤ 20
theorem y_lk_cons {a : Int × Int} {l : List (Int × Int)} (h : y_lk (a :: l)) : (-20 ≤ a.1 ∧ a.1 ≤ a.2 ∧ a.2 ≤ 20) ∧ y_lk l := ⟨h 0 (by simp), fun c hc => h (c + 1) (by simp; omega)⟩
theorem y_cs_bd : ∀ l : List (Int × Int), y_lk l → 1 ≤ y_cs l ∧ y_cs l ≤ 41 ^ l.length
  | [], _ => ⟨by simp [y_cs], by simp [y_cs]⟩
  | a :: l, h => by
    obtain ⟨h1, h2⟩ := y_lk_cons h
    have ih := y_cs_bd l h2
    have := mul_bd (a := y_wd a) (A := 41) (by unfold y_wd; omega) (by unfold y_wd; omega) ih.1 ih.2
    rw [List.length_cons, Int.pow_succ, Int.mul_comm (41 ^ l.length)]
    exact this
theorem y_cs_3 {l : List (Int × Int)} (h : y_lk l) (hl : l.length ≤ 3) : 1 ≤ y_cs l ∧ y_cs l ≤ 68921 := by
  have a := y_cs_bd l h
  rcases (show l.length = 0 ∨ l.length = 1 ∨ l.length = 2 ∨ l.length = 3 by omega) with z | z | z | z <;> rw [z] at a <;> omega
theorem y_ct_nn : ∀ rows : List y_rw, (∀ i, i < rows.length → 1 ≤ y_cs (rows.getD i y_r0).1) → 0 ≤ y_ct rows
  | [], _ => Int.le_refl _
  | a :: l, h => by
    have h1 : 1 ≤ y_cs a.1 := h 0 (by simp)
    have h2 := y_ct_nn l (fun i hi => h (i + 1) (by simp; omega))
    simp only [y_ct]
    omega
theorem q_drp {α : Type} {l : List α} {a z : α} {r : List α} {i : Nat} (h : l.drop i = a :: r) : i < l.length ∧ a = l.getD i z ∧ l.drop (i + 1) = r := by
  have hi : i < l.length := by
    rcases Nat.lt_or_ge i l.length with y | y
    · exact y
    · rw [List.drop_eq_nil_of_le y] at h; cases h
  rw [List.drop_eq_getElem_cons hi] at h
  injection h with h1 h2
  refine ⟨hi, ?_, h2⟩
  rw [List.getD_eq_getElem?_getD, List.getElem?_eq_getElem hi]
  exact h1.symm
section MN
variable {d m k i f : Nat} {w : bm_W} {Φ : bm_Rt → bm_W → Prop} {l : List (Int × Int)} {rows : List y_rw}
theorem mm_csl (S : sh_Md m w) (hk : k < 6) (hi : i < 12) (h22 : bm_gi w (m + 22) k = (f : Int)) (hf : f < 6) (h14 : bm_gi w (m + 14) f = (l.length : Int)) (hl : l.length ≤ 3) (hc : ∀ c, c < l.length → bm_gi w (m + 24) ((12 * k + i) * 3 + c) = (l.getD c (0, 0)).1 ∧ bm_gi w (m + 25) ((12 * k + i) * 3 + c) = (l.getD c (0, 0)).2) (hlk : y_lk l) (hq : Φ (.inl (some (bm_i (y_cs l)))) w) : ∀ (r : List (Int × Int)) (c : Nat) (v : Int), l.drop c = r → c ≤ l.length → 1 ≤ v → v * y_cs r = y_cs l → y_lk r → bk_X12_casesOf_5 d Φ m (k : Int) (i : Int) v (c : Int) w
  | [], c, v, hd, hcl, hv, he, _ => by
    have : l.length ≤ c := List.drop_eq_nil_iff.mp hd
    have e : v = y_cs l := by rw [← he]; simp [y_cs]
    refine vb_X12_casesOf_5 ?_
    simp only [bm_c0_v, bm_c1_v, bm_c2_v, bm_c3_v, bm_c4_v, bm_c5_v, bm_u_some, decide_eq_true_eq, true_and, and_true, and_self, Bool.not_eq_true, Bool.not_eq_true', decide_eq_false_iff_not, if_true, if_false, ite_true, ite_false, eq_self, S.1, S.g20, S.t20, S.n20, S.g30, S.t30, S.n30, bm_in, Int.toNat_natCast, h22, h14]
    rw [if_pos (by omega), e]
    exact ⟨by omega, by omega, hq⟩
  | a :: r, c, v, hd, hcl, hv, he, hr => by
    obtain ⟨d1, d2, d3⟩ := q_drp (z := (0, 0)) hd
    obtain ⟨h1, h2⟩ := y_lk_cons hr
    have hb := y_cs_3 hlk hl
    have hcs := (y_cs_bd r h2).1
    have hw : 1 ≤ y_wd a := by unfold y_wd; omega
    have he2 : v * y_wd a * y_cs r = y_cs l := by rw [Int.mul_assoc]; exact he
    have p1 : 1 ≤ v * y_wd a := by
      have := Int.mul_le_mul hv hw (by decide) (by omega)
      omega
    have p2 : v * y_wd a ≤ 68921 := by
      have := Int.mul_le_mul_of_nonneg_left hcs (show 0 ≤ v * y_wd a by omega)
      rw [he2] at this
      omega
    have hcc := hc c d1
    rw [← d2] at hcc
    have hwd : bm_w (bm_w (a.2 - a.1) + 1) = y_wd a := by
      unfold y_wd
      rw [q_wI (x := a.2 - a.1) ⟨by omega, by omega⟩, q_wI ⟨by omega, by omega⟩]
    refine vb_X12_casesOf_5 ?_
    simp only [bm_c0_v, bm_c1_v, bm_c2_v, bm_c3_v, bm_c4_v, bm_c5_v, bm_u_some, decide_eq_true_eq, true_and, and_true, and_self, Bool.not_eq_true, Bool.not_eq_true', decide_eq_false_iff_not, if_true, if_false, ite_true, ite_false, eq_self, S.1, S.g20, S.t20, S.n20, S.g30, S.t30, S.n30, S.g32, S.t32, S.n32, S.g33, S.t33, S.n33, bm_in, h22, h14, bm_w12 hk, bm_wN (show 12 * k + i < 2147483648 by omega), bm_wM3 (show 12 * k + i < 1000 by omega), bm_wN (show (12 * k + i) * 3 + c < 2147483648 by omega), Int.toNat_natCast, hcc.1, hcc.2, hwd, q_wI (x := v * y_wd a) ⟨by omega, by omega⟩, bm_w1 (show c < 2147483647 by omega)]
    rw [if_neg (by omega)]
    exact ⟨by omega, by omega, by omega, by omega, mm_csl S hk hi h22 hf h14 hl hc hlk hq r (c + 1) _ d3 (by omega) p1 he2 h2⟩
theorem mm_casesOf (S : sh_Md m w) (hk : k < 6) (hi : i < 12) (h22 : bm_gi w (m + 22) k = (f : Int)) (hf : f < 6) (h14 : bm_gi w (m + 14) f = (l.length : Int)) (hl : l.length ≤ 3) (hc : ∀ c, c < l.length → bm_gi w (m + 24) ((12 * k + i) * 3 + c) = (l.getD c (0, 0)).1 ∧ bm_gi w (m + 25) ((12 * k + i) * 3 + c) = (l.getD c (0, 0)).2) (hlk : y_lk l) (hq : Φ (.inl (some (bm_i (y_cs l)))) w) : bm_Call bm_pg (d + 1) y_X12_casesOf [bm_r (some m), bm_i (k : Int), bm_i (i : Int)] w Φ :=
  vc_X12_casesOf (mm_csl S hk hi h22 hf h14 hl hc hlk hq l 0 1 rfl (Nat.zero_le _) (Int.le_refl _) (Int.one_mul _) hlk)
theorem mm_ctl {n : Nat} (S : sh_Md m w) (hk : k < 6) (h22 : bm_gi w (m + 22) k = (f : Int)) (hf : f < 6) (h14 : bm_gi w (m + 14) f = (n : Int)) (hn : n ≤ 3) (h23 : bm_gi w (m + 23) k = (rows.length : Int)) (hr : rows.length ≤ 12) (hR : ∀ i, i < rows.length → mrw m k i (rows.getD i y_r0) w ∧ y_rk n (rows.getD i y_r0)) (hb : y_ct rows ≤ 70000) (hq : Φ (.inl (some (bm_i (y_ct rows)))) w) : ∀ (r : List y_rw) (i : Nat) (v : Int), rows.drop i = r → i ≤ rows.length → 0 ≤ v → v + y_ct r = y_ct rows → 0 ≤ y_ct r → bk_X12_cases_4 (d + 1) Φ m (k : Int) v (i : Int) w
  | [], i, v, hd, hil, hv, he, _ => by
    have : rows.length ≤ i := List.drop_eq_nil_iff.mp hd
    have e : v = y_ct rows := by rw [← he]; simp [y_ct]
    refine vb_X12_cases_4 ?_
    simp only [bm_c0_v, bm_c1_v, bm_c2_v, bm_c3_v, bm_c4_v, bm_c5_v, bm_u_some, decide_eq_true_eq, true_and, and_true, and_self, Bool.not_eq_true, Bool.not_eq_true', decide_eq_false_iff_not, if_true, if_false, ite_true, ite_false, eq_self, S.1, S.g31, S.t31, S.n31, bm_in, Int.toNat_natCast, h23]
    rw [if_pos (by omega), e]
    exact ⟨by omega, hq⟩
  | a :: r, i, v, hd, hil, hv, he, hnn => by
    obtain ⟨d1, d2, d3⟩ := q_drp (z := y_r0) hd
    have hRi := hR i d1
    rw [← d2] at hRi
    obtain ⟨hm, hk1, hk2, hk3⟩ := hRi
    have hlk : y_lk a.1 := fun c hc => hk2 c (by omega)
    have hcs := y_cs_3 hlk (by omega)
    have hrn : 0 ≤ y_ct r := by
      refine y_ct_nn r (fun j hj => ?_)
      have hj2 : i + 1 + j < rows.length := by
        have := congrArg List.length d3
        rw [List.length_drop] at this
        omega
      have ej : r.getD j y_r0 = rows.getD (i + 1 + j) y_r0 := by
        rw [← d3, List.getD_eq_getElem?_getD, List.getElem?_drop, List.getD_eq_getElem?_getD]
      obtain ⟨-, b1, b2, b3⟩ := hR _ hj2
      rw [ej]
      exact (y_cs_3 (fun c hc => b2 c (by omega)) (by omega)).1
    have hct : y_ct (a :: r) = y_cs a.1 + y_ct r := rfl
    rw [hct] at he
    refine vb_X12_cases_4 ?_
    simp only [bm_c0_v, bm_c1_v, bm_c2_v, bm_c3_v, bm_c4_v, bm_c5_v, bm_u_some, decide_eq_true_eq, true_and, and_true, and_self, Bool.not_eq_true, Bool.not_eq_true', decide_eq_false_iff_not, if_true, if_false, ite_true, ite_false, eq_self, S.1, S.g31, S.t31, S.n31, bm_in, Int.toNat_natCast, h23]
    rw [if_neg (by omega)]
    refine ⟨by omega, mm_casesOf S hk (by omega) h22 hf (h14.trans (by rw [hk1])) (by omega) hm.1 hlk ?_⟩
    rw [bm_c1_v, q_wI ⟨by omega, by omega⟩, bm_w1 (show i < 2147483647 by omega)]
    exact mm_ctl S hk h22 hf h14 hn h23 hr hR hb hq r (i + 1) _ d3 (by omega) (by omega) (by omega) hrn
theorem mm_cases {n : Nat} (S : sh_Md m w) (hk : k < 6) (h22 : bm_gi w (m + 22) k = (f : Int)) (hf : f < 6) (h14 : bm_gi w (m + 14) f = (n : Int)) (hn : n ≤ 3) (h23 : bm_gi w (m + 23) k = (rows.length : Int)) (hr : rows.length ≤ 12) (hR : ∀ i, i < rows.length → mrw m k i (rows.getD i y_r0) w ∧ y_rk n (rows.getD i y_r0)) (hb : y_ct rows ≤ 70000) (hq : Φ (.inl (some (bm_i (y_ct rows)))) w) : bm_Call bm_pg (d + 2) y_X12_cases [bm_r (some m), bm_i (k : Int)] w Φ :=
  vc_X12_cases (mm_ctl S hk h22 hf h14 hn h23 hr hR hb hq rows 0 0 rfl (Nat.zero_le _) (Int.le_refl _) (Int.zero_add _) (y_ct_nn rows (fun i hi => (y_cs_3 (fun c hc => (hR i hi).2.2.1 c (by rw [← (hR i hi).2.1]; exact hc)) (by rw [(hR i hi).2.1]; exact hn)).1)))
end MN

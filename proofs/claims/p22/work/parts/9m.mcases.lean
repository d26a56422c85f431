/-! ===== the model: cases of rows ===== -/
/-- fair cells -/
def y_lk (l : List (Int × Int)) : Prop := ∀ c, c < l.length → -20 ≤ (l.getD c (0, 0)).1 ∧ (l.getD c (0, 0)).1 ≤ (l.getD c (0, 0)).2 ∧ (l.getD c (0, 0)).2 ≤ 20
theorem y_lk_cons {a : Int × Int} {l : List (Int × Int)} (h : y_lk (a :: l)) : (-20 ≤ a.1 ∧ a.1 ≤ a.2 ∧ a.2 ≤ 20) ∧ y_lk l := ⟨h 0 (by simp), fun c hc => h (c + 1) (by simp; omega)⟩
theorem y_cs_bd : ∀ l : List (Int × Int), y_lk l → 1 ≤ y_cs l ∧ y_cs l ≤ 41 ^ l.length
  | [], _ => ⟨by simp [y_cs], by simp [y_cs]⟩
  | a :: l, h => by
    obtain ⟨h1, h2⟩ := y_lk_cons h
    have ih := y_cs_bd l h2
    have := mul_bd (a := y_wd a) (A := 41) (by unfold y_wd; omega) (by unfold y_wd; omega) ih.1 ih.2
    rw [List.length_cons, Int.pow_succ, Int.mul_comm (41 ^ l.length)]
    exact this
theorem y_cs_3 {l : List (Int × Int)} (h : y_lk l) (hl : l.length ≤ 3) : 1 ≤ y_cs l ∧ y_cs l ≤ 68921 := by
  have a := y_cs_bd l h
  rcases (show l.length = 0 ∨ l.length = 1 ∨ l.length = 2 ∨ l.length = 3 by omega) with z | z | z | z <;> rw [z] at a <;> omega
theorem y_ct_nn : ∀ rows : List y_rw, (∀ i, i < rows.length → 1 ≤ y_cs (rows.getD i y_r0).1) → 0 ≤ y_ct rows
  | [], _ => Int.le_refl _
  | a :: l, h => by
    have h1 : 1 ≤ y_cs a.1 := h 0 (by simp)
    have h2 := y_ct_nn l (fun i hi => h (i + 1) (by simp; omega))
    simp only [y_ct]
    omega
theorem q_drp {α : Type} {l : List α} {a z : α} {r : List α} {i : Nat} (h : l.drop i = a :: r) : i < l.length ∧ a = l.getD i z ∧ l.drop (i + 1) = r := by
  have hi : i < l.length := by
    rcases Nat.lt_or_ge i l.length with y | y
    · exact y
    · rw [List.drop_eq_nil_of_le y] at h; cases h
  rw [List.drop_eq_getElem_cons hi] at h
  injection h with h1 h2
  refine ⟨hi, ?_, h2⟩
  rw [List.getD_eq_getElem?_getD, List.getElem?_eq_getElem hi]
  exact h1.symm
section MN
variable {d m k i f : Nat} {w : bm_W} {Φ : bm_Rt → bm_W → Prop} {l : List (Int × Int)} {rows : List y_rw}
end MN

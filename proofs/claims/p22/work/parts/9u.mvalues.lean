/-! ===== values of rows of inputs ===== -/
/-- ranges of inputs -/
def y_rg (ins : List y_in) : List (Int × Int) := ins.map (·.2)
theorem y_rg_len {ins : List y_in} : (y_rg ins).length = ins.length := List.length_map _
theorem y_rg_at {ins : List y_in} {i : Nat} : (y_rg ins).getD i (0, 0) = (ins.getD i y_i0).2 := by
  unfold y_rg
  rw [List.getD_eq_getElem?_getD, List.getElem?_map, List.getD_eq_getElem?_getD]
  cases ins[i]? with
  | none => rfl
  | some a => rfl
theorem y_rg_lk {ins : List y_in} (h : y_fk ins) : y_lk (y_rg ins) := fun c hc => by
  rw [y_rg_at]
  exact h c (by rw [← y_rg_len]; exact hc)
def s_n (l : List (Int × Int)) (i : Nat) : Int := y_wd (l.getD i (0, 0))
theorem s_n_rng {l : List (Int × Int)} (h : y_lk l) (i : Nat) : 1 ≤ s_n l i ∧ s_n l i ≤ 41 ∧ (l.length ≤ i → s_n l i = 1) := by
  unfold s_n y_wd
  rcases Nat.lt_or_ge i l.length with z | z
  · have := h i z
    omega
  · have e : l.getD i (0, 0) = (0, 0) := by rw [List.getD_eq_getElem?_getD, List.getElem?_eq_none z]; rfl
    rw [e]
    simp
/-- how often a value repeats -/
def s_rep (l : List (Int × Int)) (i : Nat) : Int := if i = 0 then s_n l 2 * s_n l 1 else if i = 1 then s_n l 2 else 1
/-- the value of input i in row k of the inputs -/
def s_val (l : List (Int × Int)) (k : Int) (i : Nat) : Int := (l.getD i (0, 0)).1 + k / s_rep l i % s_n l i
theorem s_val_rng {l : List (Int × Int)} {k : Int} {i : Nat} (h : y_lk l) : -20 ≤ s_val l k i ∧ s_val l k i ≤ 20 ∧ (l.getD i (0, 0)).1 ≤ s_val l k i ∧ s_val l k i ≤ (l.getD i (0, 0)).2 := by
  unfold s_val
  have n := s_n_rng h i
  have a := Int.emod_nonneg (k / s_rep l i) (show s_n l i ≠ 0 by omega)
  have b := Int.emod_lt_of_pos (k / s_rep l i) (show 0 < s_n l i by omega)
  have e : s_n l i = (l.getD i (0, 0)).2 - (l.getD i (0, 0)).1 + 1 := rfl
  rcases Nat.lt_or_ge i l.length with z | z
  · have := h i z
    omega
  · have e2 : l.getD i (0, 0) = (0, 0) := by rw [List.getD_eq_getElem?_getD, List.getElem?_eq_none z]; rfl
    rw [e2] at e ⊢
    simp only at e ⊢
    omega
theorem q_gw.far {A R : Nat → Prop} {c s a : Nat} {w w1 w' : bm_W} (h : q_gw A R c s w w1) (F : q_fr (fun b => b = a) w1 w') (ha : bm_sz w ≤ a) : q_gw A R c s w w' := by
  refine ⟨by rw [F.sz, F.sl]; exact h.1, fun b hb => ⟨⟨by rw [F.kt]; exact (h.2 b hb).1.1, by rw [F.kn]; exact (h.2 b hb).1.2⟩, fun z j => by rw [F.gr]; exact (h.2 b hb).2.1 z j, fun z j => ⟨(F.gi (by omega)).trans ((h.2 b hb).2.2 z j).1, (F.gl (by omega)).trans ((h.2 b hb).2.2 z j).2⟩⟩⟩
section MV
variable {d m f a : Nat} {k : Int} {B : Int → Int} {w : bm_W} {Φ : bm_Rt → bm_W → Prop} {ins : List y_in}
end MV

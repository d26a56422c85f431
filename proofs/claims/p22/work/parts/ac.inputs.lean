/-! ===== rows of inputs of functions ===== -/
section IN
variable {d b t m f g : Nat} {B : Int → Int} {pr : y_pr} {ins : List y_in} {w w' : bm_W} {Φ : bm_Rt → bm_W → Prop}
theorem yi.rgl {a : Nat} (h : yi a B ins w) (S : sh_Fn a w) : rgl (a + 2) (y_rg ins) w := by
  obtain ⟨h1, h2, h3, h4⟩ := h
  refine ⟨S.rg, by rw [y_rg_len]; exact h2, y_rg_lk (fun i hi => by have := h3 i hi; exact ⟨this.2.2.2.1, this.2.2.2.2.1, this.2.2.2.2.2⟩), fun c hc => ?_⟩
  rw [y_rg_at]
  rcases Nat.lt_or_ge c ins.length with z | z
  · have := h3 c z
    exact ⟨this.2.1, this.2.2.1⟩
  · have e : ins.getD c y_i0 = y_i0 := by rw [List.getD_eq_getElem?_getD, List.getElem?_eq_none z]; rfl
    rw [e]
    exact h4 c z hc
/-- pairs of a function's inputs -/
def y_prs (ins : List y_in) : Int := s_n (y_rg ins) 0 * s_n (y_rg ins) 1 + if ins.length = 3 then s_n (y_rg ins) 0 * s_n (y_rg ins) 2 + s_n (y_rg ins) 1 * s_n (y_rg ins) 2 else 0
theorem sp_pairCount {a : Nat} (hi : yi a B ins w) (S : sh_Fn a w) : bm_Call bm_pg (d + 3) y_X1_pairCount [bm_r (some a)] w Φ ↔ Φ (.inl (some (bm_i (y_prs ins)))) w := by
  refine bm_ans (fun Ψ q => vc_X1_pairCount ?_)
  have gl := hi.rgl S
  have n0 := s_n_rng gl.2.2.1 0
  have n1 := s_n_rng gl.2.2.1 1
  have n2 := s_n_rng gl.2.2.1 2
  have m1 := mul_bd n0.1 n0.2.1 n1.1 n1.2.1
  have m2 := mul_bd n0.1 n0.2.1 n2.1 n2.2.1
  have m3 := mul_bd n1.1 n1.2.1 n2.1 n2.2.1
  have w0 : rg_wd w (a + 2) 0 = s_n (y_rg ins) 0 := gl.wd (i := 0) (by decide)
  have w1 : rg_wd w (a + 2) 1 = s_n (y_rg ins) 1 := gl.wd (i := 1) (by decide)
  have w2 : rg_wd w (a + 2) 2 = s_n (y_rg ins) 2 := gl.wd (i := 2) (by decide)
  unfold y_prs at q
  simp only [bm_c0_v, bm_c1_v, bm_c2_v, bm_c3_v, bm_c4_v, bm_c5_v, bm_u_some, decide_eq_true_eq, true_and, and_true, and_self, Bool.not_eq_true, Bool.not_eq_true', decide_eq_false_iff_not, if_true, if_false, ite_true, ite_false, eq_self, S.1, S.2.2.1, S.rg.1, sp_width (d := d) S.rg, w0, w1, w2, bm_c1_v, hi.1, q_wI (x := s_n (y_rg ins) 0 * s_n (y_rg ins) 1) ⟨by omega, by omega⟩, q_wI (x := s_n (y_rg ins) 0 * s_n (y_rg ins) 2) ⟨by omega, by omega⟩, q_wI (x := s_n (y_rg ins) 1 * s_n (y_rg ins) 2) ⟨by omega, by omega⟩, q_wI (x := s_n (y_rg ins) 0 * s_n (y_rg ins) 2 + s_n (y_rg ins) 1 * s_n (y_rg ins) 2) ⟨by omega, by omega⟩, q_wI (x := s_n (y_rg ins) 0 * s_n (y_rg ins) 1 + (s_n (y_rg ins) 0 * s_n (y_rg ins) 2 + s_n (y_rg ins) 1 * s_n (y_rg ins) 2)) ⟨by omega, by omega⟩]
  by_cases c : ins.length = 3
  · rw [if_pos c] at q
    rw [if_neg (by omega)]
    exact q
  · rw [if_neg c, Int.add_zero] at q
    rw [if_pos (by omega)]
    exact q
end IN

section CR
variable {d m k : Nat} {B : Int → Int} {pr : y_pr} {rows : List y_rw} {w w0 w' w1 : bm_W} {Φ : bm_Rt → bm_W → Prop}
theorem q_gw.cp {A R : Nat → Prop} {c s a : Nat} (h : q_gw A R c s w w') (ha : a < bm_sz w') : q_gw A R (c + 1) (s + bm_kn w' a) w (bm_cp w' a) := by
  obtain ⟨⟨a1, a2, a3, a4⟩, a5⟩ := h
  refine ⟨⟨?_, ?_, ?_, ?_⟩, fun x hx => ?_⟩
  · rw [bm_cp_sz]; omega
  · rw [bm_cp_sz]; omega
  · rw [bm_cp_sl]; omega
  · rw [bm_cp_sl]; omega
  · have ne : ¬ x = bm_sz w' := by omega
    obtain ⟨⟨b1, b2⟩, b3, b4⟩ := a5 x hx
    refine ⟨⟨by rw [bm_cp_kt, if_neg ne]; exact b1, by rw [bm_cp_kn, if_neg ne]; exact b2⟩, fun z j => by rw [bm_cp_gr, if_neg ne]; exact b3 z j, fun z j => ⟨by rw [bm_cp_gi, if_neg ne]; exact (b4 z j).1, by rw [bm_cp_gl, if_neg ne]; exact (b4 z j).2⟩⟩
end CR

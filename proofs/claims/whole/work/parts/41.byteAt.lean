/-! ===== the model's tape ===== -/
def md_at (w : bm_W) (m : Nat) (k : Int) : Int := if k < bm_gi w m 2 then bm_gi w (m + 1) k.toNat else -1
theorem mp_byteAt {d m : Nat} {k : Int} {w : bm_W} {Φ : bm_Rt → bm_W → Prop} (h : sh_Md m w) (h0 : 0 ≤ k) (hL : bm_gi w m 2 ≤ 1500) : bm_Call bm_pg (d + 1) y_X12_byteAt [bm_r (some m), bm_i k] w Φ ↔ Φ (.inl (some (bm_i (md_at w m k)))) w := by
  refine bm_ans (fun Ψ q => vc_X12_byteAt ?_)
  unfold md_at at q
  simp only [bm_c0_v, bm_c1_v, bm_c2_v, bm_c3_v, bm_c4_v, bm_c5_v, bm_u_some, decide_eq_true_eq, true_and, and_true, and_self, Bool.not_eq_true, Bool.not_eq_true', decide_eq_false_iff_not, if_true, if_false, ite_true, ite_false, eq_self, h.1, h.g1, h.t1, h.n1, bm_in]
  grind

/-! ===== the model's operators ===== -/
def t_mchg (op : Int) : Int := if op = 12 then 10 else if op % 2 = 0 then op + 1 else op - 1
theorem mp_changed {d : Nat} {op : Int} {w : bm_W} {Φ : bm_Rt → bm_W → Prop} (h : 0 ≤ op ∧ op ≤ 12) : bm_Call bm_pg (d + 1) y_X12_changed [bm_i op] w Φ ↔ Φ (.inl (some (bm_i (t_mchg op)))) w := by
  refine bm_ans (fun Ψ q => vc_X12_changed ?_)
  rcases (show op = 0 ∨ op = 1 ∨ op = 2 ∨ op = 3 ∨ op = 4 ∨ op = 5 ∨ op = 6 ∨ op = 7 ∨ op = 8 ∨ op = 9 ∨ op = 10 ∨ op = 11 ∨ op = 12 by omega) with rfl | rfl | rfl | rfl | rfl | rfl | rfl | rfl | rfl | rfl | rfl | rfl | rfl <;> exact q
theorem t_mchg_rng {op : Int} (h : 0 ≤ op ∧ op ≤ 12) : 0 ≤ t_mchg op ∧ t_mchg op ≤ 12 := by unfold t_mchg; split <;> (try split) <;> omega
theorem t_mchg_op {op : Int} (h : 2 ≤ op ∧ op ≤ 12) : 2 ≤ t_mchg op ∧ t_mchg op + 20 = t_chg (op + 20) := by
  rcases (show op = 2 ∨ op = 3 ∨ op = 4 ∨ op = 5 ∨ op = 6 ∨ op = 7 ∨ op = 8 ∨ op = 9 ∨ op = 10 ∨ op = 11 ∨ op = 12 by omega) with rfl | rfl | rfl | rfl | rfl | rfl | rfl | rfl | rfl | rfl | rfl <;> decide

/-! ===== the machine of the class: one instruction ===== -/
/-- a value is laid at n -/
def mc_put (w : bm_W) (m n : Nat) (v : Int) : bm_W := bm_si (bm_sq w (m + 1) n v) m 4 ((n : Int) + 1)
theorem mc_put_si (w : bm_W) (m n : Nat) (v u : Int) : mc_put (bm_si w m 4 u) m n v = mc_put w m n v := by
  unfold mc_put
  rw [q_sq_si, q_si_si]
def t_un (op x : Int) : Int := if op = 36 then bm_x (-x) else if op = 11 then (if x = 0 then 1 else 0) else (if x = 0 then 0 else 1)
theorem sp_apply1 {d m p n : Nat} {op : Int} {w : bm_W} {Φ : bm_Rt → bm_W → Prop} (h : sh_Mc m p w) (ht : bm_gi w m 4 = (n : Int) + 1) (hn : n < 203) (ho : op = 36 ∨ op = 11 ∨ op = 37) : bm_Call bm_pg (d + 2) y_X2_apply [bm_r (some m), bm_i op] w Φ ↔ Φ (.inl none) (mc_put w m n (t_un op (bm_gl w (m + 1) n))) := by
  refine bm_ans (fun Ψ q => vc_X2_apply ?_)
  have h' : sh_Mc m p (bm_si w m 4 (n : Int)) := h
  have e : ∀ v : Int, bm_si (bm_sq (bm_si w m 4 (n : Int)) (m + 1) n v) m 4 ((n : Int) + 1) = mc_put w m n v := fun v => mc_put_si w m n v _
  simp only [bm_c0_v, bm_c1_v, bm_c2_v, bm_c3_v, bm_c4_v, bm_c5_v, bm_u_some, decide_eq_true_eq, true_and, and_true, and_self, Bool.not_eq_true, Bool.not_eq_true', decide_eq_false_iff_not, if_true, if_false, ite_true, ite_false, eq_self, h.1, h.2.1, h.2.2.1, h.2.2.2.1, h.2.2.2.2.1, h.2.2.2.2.2.1, h.2.2.2.2.2.2.1, h.2.2.2.2.2.2.2.1, h.2.2.2.2.2.2.2.2.1, h.2.2.2.2.2.2.2.2.2.1, h.2.2.2.2.2.2.2.2.2.2, sp_pop h ht hn, sp_push (d := d) h' q_gi_eq hn, e, bm_si_kt, bm_si_kn, bm_si_sz, bm_si_sl, bm_si_gi, bm_si_gl, bm_si_gr, bm_sq_kt, bm_sq_kn, bm_sq_sz, bm_sq_sl, bm_sq_gi, bm_sq_gl, bm_sq_gr, bm_sr_kt, bm_sr_kn, bm_sr_sz, bm_sr_sl, bm_sr_gi, bm_sr_gl, bm_sr_gr]
  unfold t_un at q
  rcases ho with rfl | rfl | rfl
  · simp only [Int.reduceEq, if_true, if_false, reduceIte] at q ⊢
    exact q
  · simp only [Int.reduceEq, if_true, if_false, reduceIte] at q ⊢
    split
    · rename_i c; rw [if_neg c] at q; exact q
    · rename_i c; rw [if_pos (Decidable.not_not.mp c)] at q; exact q
  · simp only [Int.reduceEq, if_true, if_false, reduceIte] at q ⊢
    split
    · rename_i c; rw [if_neg c] at q; exact q
    · rename_i c; rw [if_pos (Decidable.not_not.mp c)] at q; exact q
def t_bin (op x y : Int) : Option Int := if op = 28 then some (bm_x (x + y)) else if op = 29 then some (bm_x (x - y)) else if op = 30 then some (bm_x (x * y)) else if op = 31 then (if y = 0 then none else some (bm_x (x.tdiv y))) else if op = 32 then (if y = 0 then none else some (bm_x (x.tmod y))) else some (if t_rel op x y then 1 else 0)
theorem sp_apply2 {d m p n : Nat} {op : Int} {w : bm_W} {Φ : bm_Rt → bm_W → Prop} (h : sh_Mc m p w) (ht : bm_gi w m 4 = (n : Int) + 1 + 1) (hn : n + 1 < 203) (ho : 22 ≤ op ∧ op ≤ 32) : bm_Call bm_pg (d + 2) y_X2_apply [bm_r (some m), bm_i op] w Φ ↔
    (match t_bin op (bm_gl w (m + 1) n) (bm_gl w (m + 1) (n + 1)) with
      | some v => Φ (.inl none) (mc_put w m n v)
      | none => Φ (.inl none) (bm_si (bm_si w m 4 ((n : Int) + 1)) m 5 1)) := by
  have h' : sh_Mc m p (bm_si w m 4 ((n : Int) + 1)) := h
  have h'' : sh_Mc m p (bm_si (bm_si w m 4 ((n : Int) + 1)) m 4 (n : Int)) := h
  have e0 : ((n + 1 : Nat) : Int) = (n : Int) + 1 := rfl
  have e : ∀ v : Int, bm_si (bm_sq (bm_si (bm_si w m 4 ((n : Int) + 1)) m 4 (n : Int)) (m + 1) n v) m 4 ((n : Int) + 1) = mc_put w m n v := fun v => by
    rw [q_si_si]
    exact mc_put_si w m n v _
  have hp : ∀ Ψ : bm_Rt → bm_W → Prop, (bm_Call bm_pg (d + 1) y_X2_pop [bm_r (some m)] w Ψ ↔ Ψ (.inl (some (bm_l (bm_gl w (m + 1) (n + 1))))) (bm_si w m 4 ((n : Int) + 1))) := fun Ψ => sp_pop (n := n + 1) h ht hn
  have hp2 : ∀ Ψ : bm_Rt → bm_W → Prop, (bm_Call bm_pg (d + 1) y_X2_pop [bm_r (some m)] (bm_si w m 4 ((n : Int) + 1)) Ψ ↔ Ψ (.inl (some (bm_l (bm_gl w (m + 1) n)))) (bm_si (bm_si w m 4 ((n : Int) + 1)) m 4 (n : Int))) := fun Ψ => sp_pop (n := n) h' q_gi_eq (by omega)
  generalize bm_gl w (m + 1) n = x at hp hp2
  generalize bm_gl w (m + 1) (n + 1) = y at hp hp2
  have key : ∀ (r0 : bm_Rt) (w0 : bm_W), (match t_bin op x y with | some v => r0 = .inl none ∧ w0 = mc_put w m n v | none => r0 = .inl none ∧ w0 = bm_si (bm_si w m 4 ((n : Int) + 1)) m 5 1) → ∀ Ψ : bm_Rt → bm_W → Prop, Ψ r0 w0 → bm_Call bm_pg (d + 2) y_X2_apply [bm_r (some m), bm_i op] w Ψ := by
    intro r0 w0 hk Ψ q
    refine vc_X2_apply ?_
    simp only [bm_c0_v, bm_c1_v, bm_c2_v, bm_c3_v, bm_c4_v, bm_c5_v, bm_u_some, decide_eq_true_eq, true_and, and_true, and_self, Bool.not_eq_true, Bool.not_eq_true', decide_eq_false_iff_not, if_true, if_false, ite_true, ite_false, eq_self, h.1, h.2.1, h.2.2.1, h.2.2.2.1, h.2.2.2.2.1, h.2.2.2.2.2.1, h.2.2.2.2.2.2.1, h.2.2.2.2.2.2.2.1, h.2.2.2.2.2.2.2.2.1, h.2.2.2.2.2.2.2.2.2.1, h.2.2.2.2.2.2.2.2.2.2, hp, hp2, sp_push (d := d) h'' q_gi_eq (by omega), sp_isRelated, e, bm_si_kt, bm_si_kn, bm_si_sz, bm_si_sl, bm_si_gi, bm_si_gl, bm_si_gr, bm_sq_kt, bm_sq_kn, bm_sq_sz, bm_sq_sl, bm_sq_gi, bm_sq_gl, bm_sq_gr, bm_sr_kt, bm_sr_kn, bm_sr_sz, bm_sr_sl, bm_sr_gi, bm_sr_gl, bm_sr_gr]
    unfold t_bin at hk
    rcases (show op = 22 ∨ op = 23 ∨ op = 24 ∨ op = 25 ∨ op = 26 ∨ op = 27 ∨ op = 28 ∨ op = 29 ∨ op = 30 ∨ op = 31 ∨ op = 32 by omega) with rfl | rfl | rfl | rfl | rfl | rfl | rfl | rfl | rfl | rfl | rfl
    all_goals simp only [Int.reduceEq, if_true, if_false, reduceIte] at hk ⊢
    all_goals grind
  cases hb : t_bin op x y with
  | some v => exact bm_ans (key _ _ (by rw [hb]; exact ⟨rfl, rfl⟩))
  | none => exact bm_ans (key _ _ (by rw [hb]; exact ⟨rfl, rfl⟩))

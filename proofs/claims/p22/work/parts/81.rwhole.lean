/-! ===== reading in the class: numbers with a sign, names, inputs ===== -/
/-- an error told, or none and what is told -/
def ym {α : Type} (t : Nat) (B : Int → Int) (w' : bm_W) (r : (Int × Nat) ⊕ α) (G : α → Prop) : Prop := match r with
  | .inl e => e.1 ≠ 0 ∧ bm_gi w' (t + 112) 2 = e.1 ∧ bm_gi w' (t + 112) 3 = t_P B e.2
  | .inr a => bm_gi w' (t + 112) 2 = 0 ∧ G a
def pz {α : Type} (t : Nat) (B : Int → Int) (s' : Bool × Nat) (r : (Int × Nat) ⊕ α) (G : α → Prop) (w w' : bm_W) : Prop := s'.1 = false → cp_st t w w' ∧ (bm_gi w (t + 112) 2 = 0 → ym t B w' r G)
section PZ
variable {t : Nat} {B : Int → Int} {s s1 s2 : Bool × Nat} {w w1 w2 : bm_W} {α β : Type}
theorem pz.ok {a : α} {G : α → Prop} (hc : cq t w w1) (hG : s.1 = false → bm_gi w (t + 112) 2 = 0 → G a) : pz t B s (.inr a) G w w1 := fun z => ⟨hc.st, fun c => ⟨(hc 2).trans c, hG z c⟩⟩
theorem pz.bind {r : (Int × Nat) ⊕ α} {k : α → (Int × Nat) ⊕ β} {G1 : α → Prop} {G : β → Prop} (h1 : pz t B s1 r G1 w w1) (hs : s2.1 = false → s1.1 = false) (ho : s2.1 = false → cp_st t w1 w2 ∧ ∀ a, r = .inr a → bm_gi w1 (t + 112) 2 = 0 → G1 a → ym t B w2 (k a) G) : pz t B s2 (y_b r k) G w w2 := fun z => by
  obtain ⟨a1, a2⟩ := h1 (hs z)
  obtain ⟨b1, b2⟩ := ho z
  refine ⟨a1.tr b1, fun c => ?_⟩
  have a3 := a2 c
  cases r with
  | inl e =>
    obtain ⟨q1, q2, q3⟩ := a3
    have := b1 (by rw [q2]; exact q1)
    exact ⟨q1, this.1.trans q2, this.2.trans q3⟩
  | inr a => exact b2 a rfl a3.1 a3.2
/-- behind it, steps that tell no error -/
theorem pz.sil {r : (Int × Nat) ⊕ α} {G G' : α → Prop} (h1 : pz t B s1 r G w w1) (hs : s2.1 = false → s1.1 = false) (hc : cq t w1 w2) (hG : ∀ a, s2.1 = false → bm_gi w1 (t + 112) 2 = 0 → r = .inr a → G a → G' a) : pz t B s2 r G' w w2 := fun z => by
  obtain ⟨a1, a2⟩ := h1 (hs z)
  refine ⟨a1.tr hc.st, fun c => ?_⟩
  have a3 := a2 c
  cases r with
  | inl e => exact ⟨a3.1, (hc 2).trans a3.2.1, (hc 3).trans a3.2.2⟩
  | inr a => exact ⟨(hc 2).trans a3.1, hG a z a3.1 rfl a3.2⟩
theorem pz.pre {r : (Int × Nat) ⊕ α} {G : α → Prop} (hc : cq t w w1) (h : pz t B s r G w1 w2) : pz t B s r G w w2 := fun z => ⟨hc.st.tr (h z).1, fun c => (h z).2 ((hc 2).trans c)⟩
theorem cp_put_st {e a : Int} : cp_st t w (cp_put w (t + 112) e a) := fun z => by
  unfold cp_put
  rw [if_neg z]
  exact ⟨rfl, rfl⟩
theorem cp_put_0 {e a : Int} (h : bm_gi w (t + 112) 2 = 0) : bm_gi (cp_put w (t + 112) e a) (t + 112) 2 = e ∧ bm_gi (cp_put w (t + 112) e a) (t + 112) 3 = a := by
  unfold cp_put
  rw [if_pos h]
  exact ⟨(q_gi_nk (by decide)).trans q_gi_eq, q_gi_eq⟩
/-- an error is told -/
theorem pz.put {e : Int} {q : Nat} {G : α → Prop} (hc : cq t w w1) (he : e ≠ 0) : pz t B s (.inl (e, q)) G w (cp_put w1 (t + 112) e (t_P B q)) := fun _ => ⟨hc.st.tr cp_put_st, fun c => ⟨he, (cp_put_0 ((hc 2).trans c)).1, (cp_put_0 ((hc 2).trans c)).2⟩⟩
end PZ
section RW
variable {d t N L : Nat} {B : Int → Int} {s s' : Bool × Nat} {w w' : bm_W} {Φ : bm_Rt → bm_W → Prop}
theorem rt.put {e a : Int} (h : rt t N L B s w) : rt t N L B s (cp_put w (t + 112) e a) := by
  have ht : t ≠ t + 112 := by omega
  have g : ∀ k, bm_gi (cp_put w (t + 112) e a) t k = bm_gi w t k := fun k => by
    unfold cp_put
    split
    · rw [q_gi_ne ht, q_gi_ne ht]
    · rfl
  exact h.tf (tf.rf.put) ((g 8).trans h.2.1) ((g 10).trans h.2.2.1) ((g 9).trans h.2.2.2.1) h.2.2.2.2.1 h.2.2.2.2.2
theorem rt.lt (h : rt t N L B s w) : s.2 < f_T := by
  have a := h.1.2.2.1
  have b := h.2.2.2.2.1
  show s.2 < 1501
  omega
theorem f_exp_k {K : Nat → Int} {L : Nat} {k : Int} {s : Bool × Nat} (h : (f_exp K L k s).1 = false) : f_see K L s k k ∧ s.1 = false ∧ K s.2 = k ∧ (f_exp K L k s).2 = s.2 + 1 := by
  have := f_exp_ok h
  rw [this.2]
  exact ⟨this.1, this.1.1, by have := this.1.2.2; omega, rfl⟩
theorem f_op_ok {K : Nat → Int} {L : Nat} {k : Int} {s : Bool × Nat} (h : (f_op K L k s).1 = false) : s.1 = false := by
  unfold f_op at h
  split at h
  · rename_i c; exact c.1
  · exact h
theorem rd_whole {lo hi : Int} (h : rt t N f_T B s w) (hk : rk t w) (hq : ∀ v w', rt t N f_T B (f_wh (t_K B) s) w' → tf t w w' → pz t B (f_wh (t_K B) s) (y_wh (t_K B) (t_V B) s.2 lo hi) (fun x => v = x) w w' → Φ (.inl (some (bm_i v))) w') : bm_Call bm_pg (d + 3) y_X0_readWhole [bm_r (some (t + 112)), bm_i lo, bm_i hi] w Φ := by
  refine vc_X0_readWhole ?_
  simp only [bm_c0_v, bm_c1_v, bm_c2_v, bm_c3_v, bm_c4_v, bm_c5_v, bm_u_some, decide_eq_true_eq, true_and, and_true, and_self, Bool.not_eq_true, Bool.not_eq_true', decide_eq_false_iff_not, if_true, if_false, ite_true, ite_false, eq_self, hk.1, hk.2.1, h.1.1.1]
  refine rt_passes h (by decide) (fun w1 h1 f1 c1 => ?_)
  have hk1 := hk.tf f1
  simp only [bm_c0_v, bm_c1_v, bm_c2_v, bm_c3_v, bm_c4_v, bm_c5_v, bm_u_some, decide_eq_true_eq, true_and, and_true, and_self, Bool.not_eq_true, Bool.not_eq_true', decide_eq_false_iff_not, if_true, if_false, ite_true, ite_false, eq_self, hk1.1, hk1.2.1, h1.1.1.1, sp_startHere h1.1.1, h1.start, sp_valueHere h1.1.1, h1.value]
  refine rt_expect h1 (by decide) (fun w4 h4 f4 c4 => ?_)
  have hk4 := hk1.tf f4
  have hlt := h.lt
  have fin : ∀ v : Int, ((f_wh (t_K B) s).1 = false → y_wh (t_K B) (t_V B) s.2 lo hi = if v < lo ∨ hi < v then .inl (5, (f_op (t_K B) f_T 29 s).2) else .inr v) → (if v < lo then bm_kt w4 (t + 112) = 0 ∧ bm_Call bm_pg (d + 2) y_X0_complain [bm_r (some (t + 112)), bm_i 5, bm_i (t_P B (f_op (t_K B) f_T 29 s).2)] w4 (fun r w5 => bm_c0 (Φ (.inl (some (bm_i v))) w5) (fun E => Φ (.inr E) w5) r) else if v ≤ hi then Φ (.inl (some (bm_i v))) w4 else bm_kt w4 (t + 112) = 0 ∧ bm_Call bm_pg (d + 2) y_X0_complain [bm_r (some (t + 112)), bm_i 5, bm_i (t_P B (f_op (t_K B) f_T 29 s).2)] w4 (fun r w5 => bm_c0 (Φ (.inl (some (bm_i v))) w5) (fun E => Φ (.inr E) w5) r)) := by
    intro v hv
    have bad : v < lo ∨ hi < v → bm_kt w4 (t + 112) = 0 ∧ bm_Call bm_pg (d + 2) y_X0_complain [bm_r (some (t + 112)), bm_i 5, bm_i (t_P B (f_op (t_K B) f_T 29 s).2)] w4 (fun r w5 => bm_c0 (Φ (.inl (some (bm_i v))) w5) (fun E => Φ (.inr E) w5) r) := fun c => by
      refine ⟨hk4.1, (sp_complain hk4.1).mpr ?_⟩
      rw [bm_c0_v]
      refine hq v _ h4.put (f1.tr f4).put (fun z => ?_)
      rw [hv z, if_pos c]
      exact pz.put (c1.tr c4) (by decide) z
    by_cases a1 : v < lo
    · rw [if_pos a1]; exact bad (Or.inl a1)
    · rw [if_neg a1]
      by_cases a2 : v ≤ hi
      · rw [if_pos a2]
        refine hq v w4 h4 (f1.tr f4) (fun z => ?_)
        rw [hv z, if_neg (by omega)]
        exact pz.ok (c1.tr c4) (fun _ _ => rfl) z
      · rw [if_neg a2]; exact bad (Or.inr (by omega))
  have key : (f_wh (t_K B) s).1 = false → s.1 = false ∧ t_K B (f_op (t_K B) f_T 29 s).2 = 2 := fun z => by
    have := f_exp_k (L := f_T) (k := 2) (s := f_op (t_K B) f_T 29 s) z
    exact ⟨f_op_ok this.2.1, this.2.2.1⟩
  by_cases c29 : f_see (t_K B) f_T s 29 29
  · have e1 : (f_op (t_K B) f_T 29 s) = (false, s.2 + 1) := by unfold f_op; rw [if_pos c29]
    rw [if_pos c29, if_neg (by decide)]
    rw [e1] at fin key ⊢
    refine fin _ (fun z => ?_)
    obtain ⟨z1, z2⟩ := key z
    have tv : 0 ≤ t_V B (s.2 + 1) ∧ t_V B (s.2 + 1) ≤ 9999 := t_V_num z2
    rw [q_wI (x := t_V B (s.2 + 1)) ⟨by omega, by omega⟩, q_wI ⟨by omega, by omega⟩]
    unfold y_wh
    have : t_K B s.2 = 29 := by have := c29.2.2; omega
    rw [if_pos this]
    by_cases y : lo ≤ -t_V B (s.2 + 1) ∧ -t_V B (s.2 + 1) ≤ hi
    · rw [if_pos y, if_neg (by omega)]
    · rw [if_neg y, if_pos (by omega)]
  · have e1 : (f_op (t_K B) f_T 29 s) = s := by unfold f_op; rw [if_neg c29]
    rw [if_neg c29, if_pos (by decide)]
    rw [e1] at fin key ⊢
    refine fin _ (fun z => ?_)
    obtain ⟨z1, z2⟩ := key z
    have tv := t_V_num z2
    rw [q_wI (x := t_V B s.2) ⟨by omega, by omega⟩]
    unfold y_wh
    rw [if_neg (by omega)]
    by_cases y : lo ≤ t_V B s.2 ∧ t_V B s.2 ≤ hi
    · rw [if_pos y, if_neg (by omega)]
    · rw [if_neg y, if_pos (by omega)]
end RW

/-! ===== the law's own code: kinds of answers, what its walks stand on, its calls ===== -/
/-- the kind of what a method answers -/
def bm_typ (k : Nat) : bm_Rt → Prop
  | .inr _ => True
  | .inl none => k = 0
  | .inl (some (.inl _)) => k = 1
  | .inl (some (.inr (.inl _))) => k = 3
  | .inl (some (.inr (.inr (.inl _)))) => k = 5
  | .inl (some (.inr (.inr (.inr (.inl _))))) => k = 4
  | .inl (some (.inr (.inr (.inr (.inr _))))) => False
def bm_rk (k : Nat) : bm_Row → Bool
  | .inr (.inr (.inr (.inr (.inr (.inl 0))))) => k.beq 0
  | .inr (.inr (.inr (.inr (.inr (.inl 1))))) => k.beq 1
  | .inr (.inr (.inr (.inr (.inr (.inl 2))))) => k.beq 1
  | .inr (.inr (.inr (.inr (.inr (.inl 3))))) => k.beq 3
  | .inr (.inr (.inr (.inr (.inr (.inl 4))))) => k.beq 4
  | .inr (.inr (.inr (.inr (.inr (.inl 5))))) => k.beq 5
  | .inr (.inr (.inr (.inr (.inr (.inl 6))))) => k.beq 1
  | .inr (.inr (.inr (.inr (.inr (.inl 7))))) => k.beq 1
  | _ => true
def bm_tbk (k : Nat) : bm_Tb → Bool
  | [] => true
  | (_, _, r) :: l => bm_rk k r && bm_tbk k l
theorem bm_tbk_at {k : Nat} : ∀ {l : bm_Tb}, bm_tbk k l = true → ∀ pc m r, bm_look l pc = some (m, r) → bm_rk k r = true
  | [], _, pc, m, r, h => by simp [bm_look] at h
  | (p, m', r') :: l, hb, pc, m, r, h => by
    simp only [bm_tbk, Bool.and_eq_true] at hb
    unfold bm_look at h
    cases e : pc.beq p with
    | true => rw [if_pos e] at h; cases h; exact hb.1
    | false => rw [if_neg (by rw [e]; exact Bool.false_ne_true)] at h; exact bm_tbk_at hb.2 pc m r h
theorem bm_Wp.typ {C : bm_Ca} (hC : bm_mono C) {tb : bm_Tb} {k : Nat} (hT : ∀ pc m r, bm_look tb pc = some (m, r) → bm_rk k r = true) {F : bm_Rt → bm_W → Prop} {s : bm_S} (h : bm_Wp C tb F s) : bm_Wp C tb (fun r w => F r w ∧ bm_typ k r) s := by
  refine h (fun s => bm_Wp C tb (fun r w => F r w ∧ bm_typ k r) s) (fun t ht => bm_Wp.step hC ?_)
  unfold bm_stp at ht ⊢
  cases e : bm_look tb t.1 with
  | none => rw [e] at ht; exact ht
  | some q =>
    obtain ⟨m, row⟩ := q
    have hm := hT _ _ _ e
    rw [e] at ht
    dsimp only at ht ⊢
    generalize bm_mask m t.2.1 = lo at ht ⊢
    generalize t.2.2.1 = st at ht ⊢
    generalize t.2.2.2 = w at ht ⊢
    rcases row with f | f | f | f | ⟨y, n, nx, rt, rk⟩ | j | E
    · exact ht
    · exact ht
    · exact ht
    · exact ht
    · simp only [bm_exe] at ht ⊢
      cases e2 : bm_ok n st with
      | false => rw [e2] at ht; exact ht
      | true =>
      rw [e2] at ht
      refine ⟨ht.1, ?_⟩
      replace ht := ht.2
      match rt, ht with
      | 0, ht => exact hC _ _ _ _ _ (fun r w' q => bm_c0_mono (fun z => z) (fun E z => ⟨z, trivial⟩) r q) ht
      | 1, ht => exact hC _ _ _ _ _ (fun r w' q => bm_c1_mono (fun x z => z) (fun E z => ⟨z, trivial⟩) r q) ht
      | 2, ht => exact hC _ _ _ _ _ (fun r w' q => bm_c2_mono (fun x z => z) (fun E z => ⟨z, trivial⟩) r q) ht
      | 3, ht => exact hC _ _ _ _ _ (fun r w' q => bm_c3_mono (fun x z => z) (fun E z => ⟨z, trivial⟩) r q) ht
      | 4, ht => exact hC _ _ _ _ _ (fun r w' q => bm_c4_mono (fun x z => z) (fun E z => ⟨z, trivial⟩) r q) ht
      | 5, ht => exact hC _ _ _ _ _ (fun r w' q => bm_c5_mono (fun z => z) r q) ht
      | _ + 6, ht => exact hC _ _ _ _ _ (fun r w' q => bm_c1_mono (fun x z => z) (fun E z => z) r q) ht
    · match j, st, ht, hm with
      | 0, [], ht, hm => exact ⟨ht, Nat.eq_of_beq_eq_true hm⟩
      | 1, [.inl x], ht, hm => exact ⟨ht, Nat.eq_of_beq_eq_true hm⟩
      | 2, [.inl x], ht, hm => exact ⟨ht.1, ht.2, Nat.eq_of_beq_eq_true hm⟩
      | 3, [.inr (.inl x)], ht, hm => exact ⟨ht, Nat.eq_of_beq_eq_true hm⟩
      | 4, [.inr (.inr (.inr (.inl x)))], ht, hm => exact ⟨ht, Nat.eq_of_beq_eq_true hm⟩
      | 5, [.inr (.inr (.inl x))], ht, hm => exact ⟨ht, Nat.eq_of_beq_eq_true hm⟩
      | 6, [.inl x], ht, hm => exact ⟨ht.1, ht.2, Nat.eq_of_beq_eq_true hm⟩
      | 7, [.inl x], ht, hm => exact ⟨ht.1, ht.2, Nat.eq_of_beq_eq_true hm⟩
    · match st, ht with
      | [], ht => exact ⟨ht, trivial⟩
theorem bm_Call_typ {y k : Nat} (hT : bm_tbk k (bm_pg y).1 = true) : ∀ {d : Nat} {as : List bm_V} {w : bm_W} {F : bm_Rt → bm_W → Prop}, bm_Call bm_pg d y as w F → bm_Call bm_pg d y as w (fun r w' => F r w' ∧ bm_typ k r)
  | 0, _, _, _, h => h.elim
  | d + 1, _, _, _, h => ⟨h.1, bm_Wp.typ (bm_Call_mono bm_pg d) (bm_tbk_at hT) h.2⟩
theorem bm_camo (d : Nat) : bm_CaMo (bm_Call bm_pg d) := bm_Call_size (fun y pc m r h => (bm_Al.look (bm_all_ok y).2 pc m r h).2.1) d
/-- two ends of one call are one -/
theorem bm_Call_and {d y : Nat} {as : List bm_V} {w : bm_W} {F G : bm_Rt → bm_W → Prop} (h : bm_Call bm_pg d y as w F) (h' : bm_Call bm_pg d y as w G) : bm_Call bm_pg d y as w (fun r w' => F r w' ∧ G r w') := by
  obtain ⟨r, w', hF, hex⟩ := bm_Call_det bm_pg d _ _ _ _ h
  obtain ⟨r2, w2, ⟨rfl, rfl⟩, hG⟩ := bm_Call_both bm_pg d _ _ _ _ _ hex h'
  exact bm_Call_mono bm_pg d _ _ _ _ _ (fun r3 w3 q => by obtain ⟨rfl, rfl⟩ := q; exact ⟨hF, hG⟩) hex
section LZ
variable {D : bm_D} {b0 d nL pc mc ms : Nat} {p : Program} {l : Launch} {e : Env} {R : Room} {s : State} {m : MethodId} {args : Array Value} {below : List Frame} {meth : Method} {c : Code} {H : Heap} {locs : List Loc} {cells slots : Nat} {Q : State → Prop} {cc : ByteArray} {ls : Array Slot} {w : bm_W}
end LZ

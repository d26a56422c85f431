/-! ===== calls, in the class ===== -/
theorem q_bump_0 (b : Bool) : ∀ (tr : List (Int × Bool)) (g : Nat → Int), q_bump 0 b tr g = g
  | [], _ => rfl
  | (i, b') :: l, g => by unfold q_bump; rw [if_neg (by simp)]; exact q_bump_0 b l g
section CK
variable {d b t g : Nat} {ch x y z : Int} {B : Int → Int} {pr : y_pr} {w w' : bm_W} {Φ : bm_Rt → bm_W → Prop}
theorem cZ.pls (h : cZ b t B pr w) : y_pls pr := fun g hg => (h.2.2.1.2.2 g hg).2.2.2.2.2.2.2.1
/-- a run that isn't counted keeps all -/
theorem cZ.mc {tr : List (Int × Bool)} (h : cZ b t B pr w) (hQ : mc_Q (t + 113) tr w w') : cZ b t B pr w' ∧ cO t 0 0 w w' := by
  obtain ⟨q1, q2, q3, q4⟩ := hQ
  have F : q_fr (fun a => zX t a ∨ a = t + 117) w w' := q1.mo (fun a z => Or.inl (Or.inl (by omega)))
  have h6 : bm_gi w (t + 113) 6 = 0 := h.2.2.2.2
  have e117 : bm_gi w' (t + 117) 2 = bm_gi w (t + 117) 2 := q1.gi (by omega)
  have q3' : ∀ j, bm_gi w' (t + 115) j = bm_gi w (t + 115) j := fun j => by have := q3 j; rw [h6, q_bump_0] at this; exact this
  have q4' : ∀ j, bm_gi w' (t + 116) j = bm_gi w (t + 116) j := fun j => by have := q4 j; rw [h6, q_bump_0] at this; exact this
  have eb := h.1.1.1
  refine ⟨⟨h.1.frA q1 (by omega) (by omega) (fun i => by have := pg_fn_off t i; omega), h.2.1.fr F (fun a z => z), h.2.2.1.bk (q1.gi (by omega)) (fun x _ a u v j => ?_), ?_, q2.trans h6⟩, cO.of F⟩
  · have := pg_fn_off t (x : Int)
    exact ⟨q1.gi (by omega), q1.gl (by omega)⟩
  · rcases h.2.2.2.1 with c | ⟨c1, c2, c3⟩
    · exact Or.inl (e117.trans c)
    · refine Or.inr ⟨e117.trans c1, fun k hk j hj => ?_, fun j hj => ?_⟩
      · have := h.2.1.tb (k := k) (by have := h.2.1.2.2.1; omega)
        rw [q1.gi (by have := h.2.1.2.2.1; omega)]
        exact c2 k hk j hj
      · rw [q3', q4']
        exact c3 j hj
theorem cZ.reckon (h : cZ b t B pr w) (hg : g < pr.1.length) (hS : ∀ v, (y_D pr g (q_abc x y z) ch).1 = some v → ∀ w', cO t 0 0 w w' → cZ b t B pr w' → bm_gi w' (t + 113) 5 = 0 → Φ (.inl (some (bm_l v))) w') (hN : (y_D pr g (q_abc x y z) ch).1 = none → ∀ w', cO t 0 0 w w' → cZ b t B pr w' → bm_gi w' (t + 113) 5 = 1 → Φ (.inl (some (bm_l 0))) w') : bm_Call bm_pg (d + 23) y_X2_reckon [bm_r (some (t + 113)), bm_i (g : Int), bm_i ch, bm_l x, bm_l y, bm_l z] w Φ := by
  have S := h.2.1.1
  have g6 := h.2.2.1.2.1
  obtain ⟨-, i1, -, -, -, s1, s2, -, hk⟩ := h.2.2.1.2.2 g hg
  have qf := hk w (fun _ _ _ _ _ => rfl) S.2.2.2.1 S.2.2.2.2
  refine sp_reckon (d := d + 20) (w0 := w) S.2.2.2.1 qf i1.2.1 (by omega) q_fr.rf s2 s1 (fun v hv w4 Q4 h5 => ?_) (fun hv w4 Q4 h5 => ?_)
  · have := h.mc Q4
    exact hS v hv w4 this.2 this.1 h5
  · have := h.mc Q4
    exact hN hv w4 this.2 this.1 h5
end CK

/-! ===== finds, score ===== -/
/-- what a table's score is -/
noncomputable def y_sc (pr : y_pr) (k : Nat) : UInt64 := if (y_tF pr k).2.2.1 = 0 then FP.dconst1 else FP.ddiv (FP.i2d (Int32.ofInt (s_fn (y_tF pr k).2.2.2.2 (pr.2.getD k y_t0).2.2 (y_tF pr k).2.2.1))) (FP.i2d (Int32.ofInt ((y_tF pr k).2.2.1 : Int)))
section FS
variable {d b t m k : Nat} {B : Int → Int} {pr : y_pr} {w w' : bm_W} {Φ : bm_Rt → bm_W → Prop}
theorem zS.gw {A R : Nat → Prop} {c s : Nat} (h : cZ b t B pr w) (hS : zS t pr w) (G : q_gw A R c s w w') (hA : ∀ a, t + 125 ≤ a → ¬ A a) (hR : ∀ k, k < 6 → ¬ R (pg_tb (t + 4) ((k : Nat) : Int) + 1)) : zS t pr w' := fun k i r hk hi hr => by
  have l6 := h.2.1.2.2.1
  have ok := h.1.2.2.2.2.2.1
  have tb := h.2.1.tb (k := k) (by omega)
  have r12 := (h.2.1.2.2.2 k hk).2.2.2.2.1.2.1
  have os := ok.1
  rw [G.gr (by omega) (hR k (by omega))] at hr
  have ro := ok.2.1 _ i r ⟨⟨(k : Int), rfl⟩, by omega, hr⟩
  rw [G.gi (by omega) (hA r ro.1), G.gl (by omega) (hA r ro.1)]
  exact hS k i r hk hi hr
theorem zS.cO {c s : Nat} (h : cZ b t B pr w) (hS : zS t pr w) (G : q_gw (fun a => zX t a ∨ (t + 117 ≤ a ∧ a ≤ t + 121)) (fun _ => False) c s w w') : zS t pr w' := hS.gw h G (fun a ha z => by
  rcases z with z | z
  · have := zX.no (Or.inl z); omega
  · omega) (fun _ _ z => z)
theorem sc_rng (D : q_D) (rows : List y_rw) (P : Nat) : 0 ≤ s_fn D rows P ∧ s_fn D rows P ≤ P := u_c_rng _ _
theorem hx0 {T : Nat} {rows : List y_rw} : ∀ i r, i < rows.length → bm_gr w (T + 1) i = some r → (some r = (none : Option Nat) ↔ (none : Option Nat) = some i) := fun i r _ _ => ⟨fun z => (by cases z), fun z => (by cases z)⟩
theorem co_finds {x p : Int} (h : cZ b t B pr w) (hS : zS t pr w) (q1 : y_ich pr x p → ∀ w', cS t w w' → cZ b t B pr w' → zS t pr w' → Φ (.inl (some (bm_i (bm_bo (s_ft (y_tF pr x.toNat).2.2.2.2 (pr.2.getD x.toNat y_t0).2.2 none p.toNat (pr.2.getD x.toNat y_t0).2.2.length))))) w') (q0 : ¬ y_ich pr x p → Φ (.inr "java/lang/IndexOutOfBoundsException") (bm_tw w)) : bm_Call bm_pg (d + 27) y_X11_finds [bm_r (some b), bm_i x, bm_i p] w Φ := by
  have c1 := h.1.1
  have S := h.2.1.1
  refine vc_X11_finds ⟨c1.2.1, h.exT (d := d + 24) (fun c => ?_) (fun c => q0 (fun z => c z.1))⟩
  rw [bm_c3_v]
  obtain ⟨k, rfl⟩ : ∃ k : Nat, x = (k : Int) := ⟨x.toNat, by omega⟩
  have hk : k < pr.2.length := by omega
  have Z := h.2.1.2.2.2 k hk
  have fn := Z.2.2.2.1
  have p50 := fn.2.2.2.2.2.2.2.1
  unfold y_ich at q1 q0
  rw [Int.toNat_natCast] at q1 q0
  simp only [bm_c0_v, bm_c1_v, bm_c2_v, bm_c3_v, bm_c4_v, bm_c5_v, bm_u_some, decide_eq_true_eq, true_and, and_true, and_self, Bool.not_eq_true, Bool.not_eq_true', decide_eq_false_iff_not, if_true, if_false, ite_true, ite_false, eq_self, c1.2.1, c1.2.2.2.2.1, Z.2.1.1, S.2.2.2.1.1, Z.2.2.1, sp_funAt (d := d + 25) S.2.2.2.1, (S.2.2.2.1.fn _).1, fn.2.2.2.1]
  refine sp_below (d := d + 25) (fun c2 => ?_) (fun c2 => q0 (fun z => c2 z.2))
  rw [bm_c0_v]
  obtain ⟨p', rfl⟩ : ∃ p' : Nat, p = (p' : Int) := ⟨p.toNat, by omega⟩
  have q1 := q1 ⟨c, c2⟩
  rw [Int.toNat_natCast] at q1
  simp only [bm_c0_v, bm_c1_v, bm_c2_v, bm_c3_v, bm_c4_v, bm_c5_v, bm_u_some, decide_eq_true_eq, true_and, and_true, and_self, Bool.not_eq_true, Bool.not_eq_true', decide_eq_false_iff_not, if_true, if_false, ite_true, ite_false, eq_self, c1.2.1, c1.2.2.2.2.2.2.2.1, S.1]
  refine h.changes (d := d) hS hk (x := none) hx0 (fun w2 Z2 S2 F2 => ?_)
  rw [bm_c2_v]
  have bq := q_bit (g := fun p => s_ft (y_tF pr k).2.2.2.2 (pr.2.getD k y_t0).2.2 none p (pr.2.getD k y_t0).2.2.length) (n := (y_tF pr k).2.2.1) (k := p') (by omega) (by omega)
  unfold q_ld q_ss at bq
  rw [decide_eq_true (show p' < (y_tF pr k).2.2.1 by omega), Bool.true_and] at bq
  rw [bq]
  have hq := q1 w2 F2 Z2 S2
  rcases bm_bo_01 (s_ft (y_tF pr k).2.2.2.2 (pr.2.getD k y_t0).2.2 none p' (pr.2.getD k y_t0).2.2.length) with z | z
  · rw [z] at hq ⊢
    rw [if_pos (by decide)]
    exact ⟨by first | exact Or.inl trivial | exact Or.inl rfl, hq⟩
  · rw [z] at hq ⊢
    rw [if_neg (by decide)]
    exact ⟨by first | exact Or.inr trivial | exact Or.inr rfl, hq⟩
theorem co_score {x : Int} (h : cZ b t B pr w) (hS : zS t pr w) (q1 : 0 ≤ x ∧ x < (pr.2.length : Int) → ∀ w', cS t w w' → cZ b t B pr w' → zS t pr w' → Φ (.inl (some (bm_d (y_sc pr x.toNat)))) w') (q0 : ¬ (0 ≤ x ∧ x < (pr.2.length : Int)) → Φ (.inr "java/lang/IndexOutOfBoundsException") (bm_tw w)) : bm_Call bm_pg (d + 27) y_X11_score [bm_r (some b), bm_i x] w Φ := by
  have c1 := h.1.1
  have S := h.2.1.1
  refine vc_X11_score ⟨c1.2.1, h.exT (d := d + 24) (fun c => ?_) q0⟩
  rw [bm_c3_v]
  obtain ⟨k, rfl⟩ : ∃ k : Nat, x = (k : Int) := ⟨x.toNat, by omega⟩
  have hk : k < pr.2.length := by omega
  have Z := h.2.1.2.2.2 k hk
  have fn := Z.2.2.2.1
  have p50 := fn.2.2.2.2.2.2.2.1
  have q1 := q1 c
  rw [Int.toNat_natCast] at q1
  unfold y_sc at q1
  simp only [bm_c0_v, bm_c1_v, bm_c2_v, bm_c3_v, bm_c4_v, bm_c5_v, bm_u_some, decide_eq_true_eq, true_and, and_true, and_self, Bool.not_eq_true, Bool.not_eq_true', decide_eq_false_iff_not, if_true, if_false, ite_true, ite_false, eq_self, c1.2.1, c1.2.2.2.2.1, c1.2.2.2.2.2.2.2.1, Z.2.1.1, S.1, S.2.2.2.1.1, Z.2.2.1, sp_funAt (d := d + 25) S.2.2.2.1, (S.2.2.2.1.fn _).1, fn.2.2.2.1]
  by_cases c0 : (y_tF pr k).2.2.1 = 0
  · rw [if_pos c0] at q1
    rw [if_neg (by omega)]
    exact q1 w q_fr.rf h hS
  · rw [if_neg c0] at q1
    rw [if_pos (by omega)]
    refine h.changes (d := d) hS hk (x := none) hx0 (fun w2 Z2 S2 F2 => ?_)
    rw [bm_c2_v, sp_bits_v (d := d + 25) (show (y_tF pr k).2.2.1 ≤ 63 by omega), bm_c1_v]
    have r := sc_rng (y_tF pr k).2.2.2.2 (pr.2.getD k y_t0).2.2 (y_tF pr k).2.2.1
    have n64 := sc_n64 (y_tF pr k).2.2.1 (by omega) (s_fn (y_tF pr k).2.2.2.2 (pr.2.getD k y_t0).2.2 (y_tF pr k).2.2.1).toNat (by omega) (by omega)
    rw [Int.toNat_of_nonneg r.1] at n64
    exact ⟨n64, q1 w2 F2 Z2 S2⟩
end FS

/-! ===== whether a case holds, in the class ===== -/
/-- the runner stands -/
def sh_Ru (t : Nat) (w : bm_W) : Prop := bm_kt w (t + 117) = 6 ∧ bm_gr w (t + 117) 0 = some (t + 4) ∧ bm_gr w (t + 117) 1 = some (t + 113) ∧ sh_Pg (t + 4) w ∧ sh_Mc (t + 113) (t + 4) w
theorem sh_Ru.fr {A : Nat → Prop} {t : Nat} {w w' : bm_W} (h : q_fr A w w') (hT : sh_Ru t w) : sh_Ru t w' := ⟨by rw [h.kt]; exact hT.1, by rw [h.gr]; exact hT.2.1, by rw [h.gr]; exact hT.2.2.1, hT.2.2.2.1.fr h, hT.2.2.2.2.fr h⟩
/-- a row that the class keeps -/
def cR (r n : Nat) (R : y_rw) (w : bm_W) : Prop := sh_Rw r w ∧ yrw r R w ∧ y_rk n R ∧ n ≤ 3
theorem s_ad_01 {R : y_rw} {v : Option Int} : s_ad R v = 0 ∨ s_ad R v = 1 := by
  unfold s_ad
  cases v with
  | none => by_cases c : R.2.1 = 15 <;> simp [c]
  | some y =>
    simp only
    by_cases c : R.2.1 = 15
    · rw [if_pos c]; exact Or.inl rfl
    · rw [if_neg c]
      by_cases c2 : R.2.1 = 14 ∨ t_rel R.2.1 y R.2.2
      · rw [if_pos c2]; exact Or.inr rfl
      · rw [if_neg c2]; exact Or.inl rfl
section CV
variable {d t g r n : Nat} {k ch : Int} {B : Int → Int} {R : y_rw} {F : y_fn} {w : bm_W} {Φ : bm_Rt → bm_W → Prop}
theorem cR.rgl (h : cR r n R w) : rgl (r + 1) R.1 w := ⟨h.1.2.2, by rw [h.2.2.1.1]; exact h.2.2.2, fun c hc => h.2.2.1.2.1 c (by rw [← h.2.2.1.1]; exact hc), h.2.1.1⟩
theorem yfn.mc {m' : Nat} {tr : List (Int × Bool)} {w' : bm_W} (h : yfn t B g F w) (hm : m' = t + 113) (hQ : mc_Q m' tr w w') : yfn t B g F w' := h.bk (fun x _ a u v j => by
  have := pg_fn_r (t + 4) (x : Int)
  exact ⟨hQ.1.gi (by omega), hQ.1.gl (by omega)⟩)
theorem cR.fr {A : Nat → Prop} {w' : bm_W} (h : cR r n R w) (hf : q_fr A w w') (hA : ∀ a, r ≤ a → a ≤ r + 3 → ¬ A a) : cR r n R w' := ⟨h.1.fr hf, h.2.1.bk (fun a u v j => ⟨hf.gi (hA a u (by omega)), hf.gl (hA a u (by omega))⟩), h.2.2⟩
theorem sp_isHolding (S : sh_Ru t w) (hF : yfn t B g F w) (hl : q_loc n F.2.2.2.2) (hn : F.2.1.length = n) (hR : cR r n R w) (hg : g < 6) (hr : r + 3 < t + 113 ∨ t + 116 < r) (h0 : 0 ≤ k) (h1 : k < 2147483648)
    (hq : ∀ w', mc_Q (t + 113) (F.2.2.2.2 (s_val R.1 k) ch).2 w w' → Φ (.inl (some (bm_i (s_ad R (F.2.2.2.2 (s_val R.1 k) ch).1)))) w') : bm_Call bm_pg (d + 24) y_X6_isHolding [bm_r (some (t + 117)), bm_i (g : Int), bm_r (some r), bm_i k, bm_i ch] w Φ := by
  have gl := hR.rgl
  have z0 := sp_valueAt (d := d + 20) (k := k) gl (i := 0) (by decide) h0 h1 (Φ := Φ)
  have va : ∀ (i : Nat) (Ψ : bm_Rt → bm_W → Prop), i < 3 → (bm_Call bm_pg (d + 23) y_X4_valueAt [bm_r (some (r + 1)), bm_i k, bm_i (i : Int)] w Ψ ↔ Ψ (.inl (some (bm_i (s_val R.1 k i)))) w) := fun i Ψ hi => sp_valueAt (d := d + 20) gl hi h0 h1
  have v0 := fun Ψ => va 0 Ψ (by decide)
  have v1 := fun Ψ => va 1 Ψ (by decide)
  have v2 := fun Ψ => va 2 Ψ (by decide)
  simp only [Int.ofNat_zero, Int.cast_ofNat_Int, Int.natCast_zero] at v0 v1 v2
  have n3 := hR.2.2.2
  have eD : F.2.2.2.2 (q_abc (s_val R.1 k 0) (s_val R.1 k 1) (s_val R.1 k 2)) ch = F.2.2.2.2 (s_val R.1 k) ch := hl _ _ ch (fun i hi => by
    rcases (show i = 0 ∨ i = 1 ∨ i = 2 by omega) with rfl | rfl | rfl <;> rfl)
  obtain ⟨-, -, -, -, -, s1, s2, -, hk⟩ := hF
  have qf := hk w (fun _ _ _ _ _ => rfl) S.2.2.2.1 S.2.2.2.2
  have rk2 := hR.2.2.1.2.2
  refine vc_X6_isHolding ?_
  simp only [bm_c0_v, bm_c1_v, bm_c2_v, bm_c3_v, bm_c4_v, bm_c5_v, bm_u_some, decide_eq_true_eq, true_and, and_true, and_self, Bool.not_eq_true, Bool.not_eq_true', decide_eq_false_iff_not, if_true, if_false, ite_true, ite_false, eq_self, hR.1.1, hR.1.2.1, S.1, S.2.2.1, hR.1.2.2.1, v0, v1, v2, bm_c1_v, S.2.2.2.2.1]
  have tail : ∀ (v x5 : Int) (w4 : bm_W), mc_Q (t + 113) (F.2.2.2.2 (s_val R.1 k) ch).2 w w4 → bm_gi w4 (t + 113) 5 = x5 → (x5 = 0 ∨ x5 = 1) → (if R.2.1 = 15 then x5 else if x5 = 0 ∧ (R.2.1 = 14 ∨ t_rel R.2.1 v R.2.2) then 1 else 0) = s_ad R (F.2.2.2.2 (s_val R.1 k) ch).1 → (bm_kt w4 (t + 117) = 6 ∧ bm_gr w4 (t + 117) 1 = some (bm_u (bm_gr w4 (t + 117) 1))) ∧ bm_kt w4 (bm_u (bm_gr w4 (t + 117) 1)) = 2 ∧ bm_Call bm_pg (d + 23) y_X2_hasFailed [bm_r (some (bm_u (bm_gr w4 (t + 117) 1)))] w4 (fun r5 w5 => bm_c1 (fun x5 => bm_kt w5 r = 5 ∧ bm_Call bm_pg (d + 23) y_X5_admits [bm_r (some r), bm_i x5, bm_l v] w5 (fun r6 w6 => bm_c1 (fun x6 => (x6 = 0 ∨ x6 = 1) ∧ Φ (.inl (some (bm_i x6))) w6) (fun E => Φ (.inr E) w6) r6)) (fun E => Φ (.inr E) w5) r5) := fun v x5 w4 Q4 h5 hx e => by
    have S4 := S.fr Q4.1
    have R4 := hR.fr Q4.1 (fun a u v => by omega)
    simp only [S4.1, S4.2.2.1, bm_u_some, S4.2.2.2.2.1, true_and, sp_hasFailed S4.2.2.2.2 (by rw [h5]; exact hx), bm_c1_v, R4.1.1, h5, sp_admits (d := d + 21) R4.1 hx, R4.2.1.2.1, R4.2.1.2.2, e]
    exact ⟨s_ad_01, hq w4 Q4⟩
  refine sp_reckon (d := d + 20) (w0 := w) S.2.2.2.1 qf (by omega) (by omega) q_fr.rf s2 s1 (fun v hv w4 Q4 h5 => ?_) (fun hv w4 Q4 h5 => ?_)
  · rw [eD] at hv Q4
    rw [bm_c2_v]
    refine tail v 0 w4 Q4 h5 (Or.inl rfl) ?_
    unfold s_ad
    rw [hv]
    simp
  · rw [eD] at hv Q4
    rw [bm_c2_v]
    refine tail 0 1 w4 Q4 h5 (Or.inr rfl) ?_
    unfold s_ad
    rw [hv]
    simp
end CV

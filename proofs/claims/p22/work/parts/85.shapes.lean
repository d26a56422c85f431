/-! ===== shapes while the world grows; rows are apart ===== -/
section SG
variable {A R : Nat → Prop} {c s : Nat} {w w' : bm_W}
theorem sh_Rg.gw {r : Nat} (h : q_gw A R c s w w') (hm : r + 2 < bm_sz w) (hR : ¬ R r) (hT : sh_Rg r w) : sh_Rg r w' := by
  obtain ⟨h1, h2, h3, h4, h5, h6, h7⟩ := hT
  exact ⟨(h.kt (by omega)).trans h1, (h.gr (by omega) hR).trans h2, (h.gr (by omega) hR).trans h3, (h.kt (by omega)).trans h4, (h.kn (by omega)).trans h5, (h.kt (by omega)).trans h6, (h.kn (by omega)).trans h7⟩
theorem sh_Fn.gw {f : Nat} (h : q_gw A R c s w w') (hm : f + 7 < bm_sz w) (hR : ¬ R f) (hR2 : ¬ R (f + 2)) (hT : sh_Fn f w) : sh_Fn f w' := by
  obtain ⟨h1, h2, h3, h4, h5, h6, h7, h8, h9, h10, h11, h12, h13, h14, h15⟩ := hT
  exact ⟨(h.kt (by omega)).trans h1, (h.gr (by omega) hR).trans h2, (h.gr (by omega) hR).trans h3, (h.gr (by omega) hR).trans h4, (h.gr (by omega) hR).trans h5, (h.gr (by omega) hR).trans h6, (h.kt (by omega)).trans h7, (h.kn (by omega)).trans h8, (h.kt (by omega)).trans h9, (h.kn (by omega)).trans h10, (h.kt (by omega)).trans h11, (h.kn (by omega)).trans h12, (h.kt (by omega)).trans h13, (h.kn (by omega)).trans h14, h15.gw h (by omega) hR2⟩
theorem sh_Rw.gw {r : Nat} (h : q_gw A R c s w w') (hm : r + 3 < bm_sz w) (hR : ¬ R r) (hR2 : ¬ R (r + 1)) (hT : sh_Rw r w) : sh_Rw r w' :=
  ⟨(h.kt (by omega)).trans hT.1, (h.gr (by omega) hR).trans hT.2.1, hT.2.2.gw h (by omega) hR2⟩
theorem sh_Tb.gw {T : Nat} (h : q_gw A R c s w w') (hm : T + 6 < bm_sz w) (hR : ∀ j, j ≤ 3 → ¬ R (T + j)) (hr : ∀ i r, i < 12 → bm_gr w (T + 1) i = some r → r + 3 < bm_sz w ∧ ¬ R r ∧ ¬ R (r + 1)) (hT : sh_Tb T w) : sh_Tb T w' := by
  obtain ⟨h1, h2, h3, h4, h5, h6, h7, h8, h9, h10⟩ := hT
  have g : ∀ j, bm_gr w' T j = bm_gr w T j := fun j => h.gr (by omega) (hR 0 (by decide))
  refine ⟨(h.kt (by omega)).trans h1, (g 0).trans h2, (g 1).trans h3, (g 2).trans h4, (h.kt (by omega)).trans h5, (h.kn (by omega)).trans h6, (h.kt (by omega)).trans h7, (h.kn (by omega)).trans h8, h9.gw h (by omega) (hR 2 (by decide)) (hR 3 (by decide)), fun i r hi hr2 => ?_⟩
  rw [h.gr (by omega) (hR 1 (by decide))] at hr2
  obtain ⟨a1, a2, a3⟩ := hr i r hi hr2
  exact (h10 i r hi hr2).gw h a1 a2 a3
theorem pg_tb_rng (p : Nat) (i : Int) : p + 11 ≤ pg_tb p i ∧ pg_tb p i ≤ p + 101 ∧ (pg_tb p i = p + 11 ∨ ∃ j, pg_tb p i = p + 66 + 7 * j ∧ j < 6) := by
  unfold pg_tb
  split
  · exact ⟨by omega, by omega, Or.inr ⟨i.toNat, rfl, by omega⟩⟩
  · exact ⟨by omega, by omega, Or.inl rfl⟩
theorem sh_Pg.gw {p : Nat} (h : q_gw A R c s w w') (hm : p + 107 < bm_sz w) (hR : ∀ j, j ≤ 65 → (j < 11 ∨ 17 < j) → ¬ R (p + j)) (hTb : ∀ i : Int, sh_Tb (pg_tb p i) w') (hT : sh_Pg p w) : sh_Pg p w' := by
  obtain ⟨h1, h2, h3, h4, h5, h6, h7, h8, h9, h10, h11, h12, h13⟩ := hT
  have g0 : ∀ j, bm_gr w' p j = bm_gr w p j := fun j => h.gr (by omega) (hR 0 (by decide) (by decide))
  refine ⟨(h.kt (by omega)).trans h1, (g0 0).trans h2, (g0 1).trans h3, (g0 2).trans h4, (g0 3).trans h5, (h.kt (by omega)).trans h6, (h.kn (by omega)).trans h7, (h.kt (by omega)).trans h8, (h.kn (by omega)).trans h9, h10.gw h (by omega) (hR 3 (by decide) (by decide)) (hR 5 (by decide) (by decide)), (by have := hTb (-1); unfold pg_tb at this; rw [if_neg (by decide)] at this; exact this), fun i hi => ⟨(h.gr (by omega) (hR 1 (by decide) (by decide))).trans (h12 i hi).1, ?_⟩, fun i hi => ⟨(h.gr (by omega) (hR 2 (by decide) (by decide))).trans (h13 i hi).1, ?_⟩⟩
  · have e1 := hR (18 + 8 * i) (by omega) (by omega)
    have e2 := hR (18 + 8 * i + 2) (by omega) (by omega)
    rw [show p + (18 + 8 * i) = p + 18 + 8 * i by omega] at e1
    rw [show p + (18 + 8 * i + 2) = p + 18 + 8 * i + 2 by omega] at e2
    exact (h12 i hi).2.gw h (by omega) e1 e2
  · have := hTb (i : Int)
    unfold pg_tb at this
    rw [if_pos (by omega)] at this
    exact this
theorem sh_Tk.gw {t : Nat} (h : q_gw A R c s w w') (hm : t + 3 < bm_sz w) (hR : ¬ R t) (hT : sh_Tk t w) : sh_Tk t w' := by
  obtain ⟨h1, h2, h3, h4, h5, h6, h7, h8, h9, h10⟩ := hT
  exact ⟨(h.kt (by omega)).trans h1, (h.gr (by omega) hR).trans h2, (h.gr (by omega) hR).trans h3, (h.gr (by omega) hR).trans h4, (h.kt (by omega)).trans h5, (h.kn (by omega)).trans h6, (h.kt (by omega)).trans h7, (h.kn (by omega)).trans h8, (h.kt (by omega)).trans h9, (h.kn (by omega)).trans h10⟩
theorem sh_Mc.gw {m p : Nat} (h : q_gw A R c s w w') (hm : m + 3 < bm_sz w) (hR : ¬ R m) (hT : sh_Mc m p w) : sh_Mc m p w' := by
  obtain ⟨h1, h2, h3, h4, h5, h6, h7, h8, h9, h10, h11⟩ := hT
  exact ⟨(h.kt (by omega)).trans h1, (h.gr (by omega) hR).trans h2, (h.gr (by omega) hR).trans h3, (h.gr (by omega) hR).trans h4, (h.gr (by omega) hR).trans h5, (h.kt (by omega)).trans h6, (h.kn (by omega)).trans h7, (h.kt (by omega)).trans h8, (h.kn (by omega)).trans h9, (h.kt (by omega)).trans h10, (h.kn (by omega)).trans h11⟩
end SG
/-- row r stands at place j of table T -/
def rw_at (t : Nat) (w : bm_W) (T j r : Nat) : Prop := (∃ i : Int, T = pg_tb (t + 4) i) ∧ j < 12 ∧ bm_gr w (T + 1) j = some r
/-- rows are made behind all else, and apart -/
def rw_ok (t : Nat) (w : bm_W) : Prop := t + 125 ≤ bm_sz w ∧ (∀ T j r, rw_at t w T j r → t + 125 ≤ r ∧ r + 4 ≤ bm_sz w) ∧ ∀ T j r T' j' r', rw_at t w T j r → rw_at t w T' j' r' → (T = T' ∧ j = j') ∨ r + 4 ≤ r' ∨ r' + 4 ≤ r
theorem rw_ok.gw {A R : Nat → Prop} {c s t : Nat} {w w' : bm_W} (h : q_gw A R c s w w') (hR : ∀ j, j ≤ 111 → ¬ R (t + j)) (hT : rw_ok t w) : rw_ok t w' := by
  obtain ⟨h1, h2, h3⟩ := hT
  have e : ∀ T j r, rw_at t w' T j r → rw_at t w T j r := fun T j r ⟨a1, a2, a3⟩ => by
    obtain ⟨i, hi⟩ := a1
    have rg := pg_tb_rng (t + 4) i
    refine ⟨⟨i, hi⟩, a2, ?_⟩
    have := hR (T + 1 - t) (by omega)
    rw [show t + (T + 1 - t) = T + 1 by omega] at this
    rw [← h.gr (by omega) this]
    exact a3
  have hs := h.1.1
  refine ⟨by omega, fun T j r a => ?_, fun T j r T' j' r' a b => h3 T j r T' j' r' (e T j r a) (e T' j' r' b)⟩
  have := h2 T j r (e T j r a)
  omega
theorem rw_ok.fr {A : Nat → Prop} {t : Nat} {w w' : bm_W} (h : q_fr A w w') (hT : rw_ok t w) : rw_ok t w' := rw_ok.gw (q_gw.of (R := fun _ => False) h) (fun _ _ z => z) hT
theorem sh_Tb.gwR {A R : Nat → Prop} {c s t : Nat} {i : Int} {w w' : bm_W} (h : q_gw A R c s w w') (ho : rw_ok t w) (hR : ∀ a, R a → a = t + 112) (hT : sh_Tb (pg_tb (t + 4) i) w) : sh_Tb (pg_tb (t + 4) i) w' := by
  have rg := pg_tb_rng (t + 4) i
  refine hT.gw h (by have := ho.1; omega) (fun j hj z => by have := hR _ z; omega) (fun j r hj hr => ?_)
  have := ho.2.1 _ j r ⟨⟨i, rfl⟩, hj, hr⟩
  exact ⟨by omega, fun z => by have := hR _ z; omega, fun z => by have := hR _ z; omega⟩
theorem sh_Pg.gwR {A R : Nat → Prop} {c s t : Nat} {w w' : bm_W} (h : q_gw A R c s w w') (ho : rw_ok t w) (hR : ∀ a, R a → a = t + 112) (hT : sh_Pg (t + 4) w) : sh_Pg (t + 4) w' :=
  hT.gw h (by have := ho.1; omega) (fun j hj _ z => by have := hR _ z; omega) (fun i => (hT.tb i).gwR h ho hR)
/-- a reference of the compiler is set -/
theorem q_gw.sr {A R : Nat → Prop} {c s a k : Nat} {v : Option Nat} {w w' : bm_W} (h : q_gw A R c s w w') (ha : R a ∨ bm_sz w ≤ a) : q_gw A R c s w (bm_sr w' a k v) := by
  obtain ⟨h1, h2⟩ := h
  refine ⟨h1, fun b hb => ⟨(h2 b hb).1, fun z j => ?_, (h2 b hb).2.2⟩⟩
  have e : bm_gr (bm_sr w' a k v) b j = bm_gr w' b j := if_neg (fun y => by
    have := y.1
    subst this
    exact ha.elim z (fun x => by omega))
  rw [e]
  exact (h2 b hb).2.1 z j
theorem q_gr_eq {w : bm_W} {a k : Nat} {v : Option Nat} : bm_gr (bm_sr w a k v) a k = v := if_pos ⟨rfl, rfl⟩
theorem q_gr_nk {w : bm_W} {a k b j : Nat} {v : Option Nat} (h : j ≠ k) : bm_gr (bm_sr w a k v) b j = bm_gr w b j := if_neg (fun q => h q.2)
theorem q_gr_ne {w : bm_W} {a k b j : Nat} {v : Option Nat} (h : b ≠ a) : bm_gr (bm_sr w a k v) b j = bm_gr w b j := if_neg (fun q => h q.1)
/-! reading in the class: the body of a function -/
section RB
variable {d t f k N : Nat} {B : Int → Int} {E : q_E} {num : Int} {P I : Nat → Nat} {s : Bool × Nat} {w : bm_W} {Φ : bm_Rt → bm_W → Prop}
/-- what a body changes -/
def bf (t f : Nat) (w w' : bm_W) : Prop := q_fr (fun a => a = t ∨ a = t + 4 ∨ a = t + 112 ∨ a = f ∨ a = f + 5 ∨ a = f + 6 ∨ a = f + 7) w w' ∧ (∀ k, k ≠ 8 → k ≠ 9 → k ≠ 10 → bm_gi w' t k = bm_gi w t k) ∧ (∀ k, k ≠ 6 → bm_gi w' (t + 4) k = bm_gi w (t + 4) k) ∧ (∀ k, k ≠ 2 → k ≠ 3 → bm_gi w' (t + 112) k = bm_gi w (t + 112) k) ∧ (∀ k, k < 7 ∨ 9 < k → bm_gi w' f k = bm_gi w f k) ∧ bm_gl w' = bm_gl w
theorem rd_body (hP : hp (t_K B) P I s.2) (hE : he0 E num k) (h : rt t N f_T B s w) (hk : rk t w) (hPg : sh_Pg (t + 4) w) (hg : bm_gr w (t + 112) 4 = some f) (hfe : f = pg_fn (t + 4) num) (h0 : 0 ≤ num) (h6 : num ≤ 6) (hk3 : k ≤ 3) (he : ev t f k E num w)
    (hq : ∀ w', rt t N f_T B (f_bod (t_K B) s) w' → bf t f w w' → ((f_bod (t_K B) s).1 = false → cp_st t w w' ∧ (bm_gi w (t + 112) 2 = 0 → m_is t B w' (m_ex (t_K B) (t_V B) (s.2 + 50) P I E 415 6 0 s.2 []) (fun l z => ∀ c0 : Nat, lf t f P I w c0 s.2 → c0 = 0 → bm_gi w f 9 = 0 → e_sz E num → ∃ c1 : Nat, lf t f P I w' c1 (f_bod (t_K B) s).2 ∧ c1 ≤ 100 ∧ bm_gi w' f 9 = ((f_bod (t_K B) s).2 : Int) - s.2 + z ∧ qs t f k E num w' 0 c1 (m_hd l) ((f_bod (t_K B) s).2 - s.2 + z)))) → Φ (.inl none) w') :
    bm_Call bm_pg (d + 1252) y_X0_readBody [bm_r (some (t + 112))] w Φ := by
  have hfr := pg_fn_rng (t + 4) num
  rw [← hfe] at hfr
  have N5 := h.1.2.2.1
  have sN := h.2.2.2.2.1
  have hf : sh_Fn f w := by rw [hfe]; exact hPg.fn num
  refine vc_X0_readBody ?_
  have e9 : bm_w (bm_gi w t 8 + 50) = ((s.2 + 50 : Nat) : Int) := by rw [h.2.1, q_wI ⟨by omega, by omega⟩]; omega
  simp only [bm_c0_v, bm_c1_v, bm_c2_v, bm_c3_v, bm_c4_v, bm_c5_v, bm_u_some, decide_eq_true_eq, true_and, and_true, and_self, Bool.not_eq_true, Bool.not_eq_true', decide_eq_false_iff_not, if_true, if_false, ite_true, ite_false, eq_self, hk.1, hk.2.1, h.1.1.1, sp_allow h.1.1, e9]
  have x1 : bf t f w (bm_si w t 9 ((s.2 + 50 : Nat) : Int)) := ⟨q_fr.rf.si (by omega), fun k _ h9 _ => q_gi_nk h9, fun k _ => q_gi_ne (by omega), fun k _ _ => q_gi_ne (by omega), fun k _ => q_gi_ne (by omega), rfl⟩
  have h1 : rt t N (s.2 + 50) B s (bm_si w t 9 ((s.2 + 50 : Nat) : Int)) := by
    refine h.tf (tf.rf.si (Or.inr (Or.inl rfl))) ((q_gi_nk (by decide)).trans h.2.1) ((q_gi_nk (by decide)).trans h.2.2.1) q_gi_eq sN (by omega)
  have k1 : ∀ a j, a ≠ t → bm_gi (bm_si w t 9 ((s.2 + 50 : Nat) : Int)) a j = bm_gi w a j := fun a j ha => q_gi_ne ha
  have hrs : rs t f k N (s.2 + 50) s.2 B E num s (bm_si w t 9 ((s.2 + 50 : Nat) : Int)) := by
    refine ⟨⟨h1.1.1, hPg.fr x1.1, hf.fr x1.1, hk.1, hk.2.1, hk.2.2, hg⟩, ⟨h1.1.2.1, N5, h1.1.2.2.2, hfe, h0, h6, Nat.le_refl _, hk3⟩, ⟨h1.2.1, h1.2.2.1, h1.2.2.2.1, sN, by omega, Nat.le_refl _⟩, ?_⟩
    obtain ⟨e1, e2, e3, e4, e5⟩ := he
    refine ⟨(k1 _ _ (by omega)).trans e1, (k1 _ _ (by omega)).trans e2, fun v => ?_, fun v => ?_, fun g g0 g1 => ?_⟩
    · rw [← e3 v]
      unfold fn_in
      rw [k1 _ _ (by omega)]
      rfl
    · rw [← e4 v]
      exact pg_nl_eq (k1 _ _ (by omega)) (fun i => rfl) 7 0
    · have gr := pg_fn_rng (t + 4) g
      rw [k1 _ _ (by omega), k1 _ _ (by omega)]
      exact e5 g g0 g1
  generalize hw1 : bm_si w t 9 ((s.2 + 50 : Nat) : Int) = w1 at *
  have kt1 : bm_kt w1 (t + 112) = 0 := hrs.1.2.2.2.1
  refine ⟨kt1, ?_⟩
  refine rd_expression hP hE 415 _ 0 s w1 _ hrs (fun _ z => absurd z.1 (Nat.lt_irrefl _)) (by decide) (by simp only; simp; omega) (by omega) (fun w2 p2 => ?_)
  have rng := hrs.rng 415 6 0 (b := s.1) (q := s.2) (by decide) sN (by omega)
  have hs2 : f_bod (t_K B) s = f_ex (t_K B) (s.2 + 50) 415 6 0 s := rfl
  rw [← hs2] at p2
  have rng' : s.2 ≤ (f_bod (t_K B) s).2 ∧ (f_bod (t_K B) s).2 ≤ N ∧ (f_bod (t_K B) s).2 ≤ s.2 + 50 := ⟨rng.1, rng.2.1, rng.2.2.1⟩
  have w2rs := hrs.mv (s' := f_bod (t_K B) s) p2.1 p2.2.1 p2.2.2.1 rng'.2.1 rng'.2.2 rng'.1
  obtain ⟨y1, y2, y3, y4, y5, y6, y7⟩ := w2rs.1
  simp only [bm_c0_v, bm_c1_v, bm_c2_v, bm_c3_v, bm_c4_v, bm_c5_v, bm_u_some, decide_eq_true_eq, true_and, and_true, and_self, Bool.not_eq_true, Bool.not_eq_true', decide_eq_false_iff_not, if_true, if_false, ite_true, ite_false, eq_self, y5, y1.1, sp_allowAll y1, y4, y7, y3.1]
  have y8 : bm_gr (bm_si w2 t 9 1501) (t + 112) 4 = some f := y7
  have y9 : bm_gr (bm_si w2 t 9 1501) (t + 112) 0 = some t := y5
  have y10 : bm_kt (bm_si w2 t 9 1501) f = 1 := y3.1
  have y11 : bm_kt (bm_si w2 t 9 1501) t = 9 := y1.1
  have y12 : bm_kt (bm_si w2 t 9 1501) (t + 112) = 0 := y4
  simp only [bm_c0_v, bm_c1_v, bm_c2_v, bm_c3_v, bm_c4_v, bm_c5_v, bm_u_some, decide_eq_true_eq, true_and, and_true, and_self, Bool.not_eq_true, Bool.not_eq_true', decide_eq_false_iff_not, if_true, if_false, ite_true, ite_false, eq_self, y8, y9, y10, y11, y12]
  have z8 : bm_gi (bm_si w2 t 9 1501) t 8 = ((f_bod (t_K B) s).2 : Int) := (q_gi_nk (by decide)).trans p2.2.1
  have z9 : bm_gi (bm_si w2 t 9 1501) f 9 = bm_gi w2 f 9 := q_gi_ne (by omega)
  have w8 : bm_gi w t 8 = (s.2 : Int) := h.2.1
  rw [z8, z9, w8, q_wI (x := ((f_bod (t_K B) s).2 : Int) - (s.2 : Int)) ⟨by omega, by omega⟩]
  have xa : bf t f w w2 := by
    obtain ⟨a1, a2, a3, a4, a5, a6⟩ := x1
    obtain ⟨b1, b2, b3, b4, b5, b6⟩ := p2.1
    exact ⟨a1.tr b1, fun k u v z => (b2 k u z).trans (a2 k u v z), fun k u => (b3 k u).trans (a3 k u), fun k u v => (b4 k u v).trans (a4 k u v), fun k u => (b5 k u).trans (a5 k u), b6.trans a6⟩
  have x3 : ∀ v : Int, bf t f w (bm_si (bm_si w2 t 9 1501) f 9 v) := fun v => by
    obtain ⟨a1, a2, a3, a4, a5, a6⟩ := xa
    refine ⟨(a1.si (Or.inl rfl)).si (by omega), fun k u v z => ?_, fun k u => ?_, fun k u v => ?_, fun k u => ?_, a6⟩
    · rw [q_gi_ne (by omega), q_gi_nk v]; exact a2 k u v z
    · rw [q_gi_ne (by omega), q_gi_ne (by omega)]; exact a3 k u
    · rw [q_gi_ne (by omega), q_gi_ne (by omega)]; exact a4 k u v
    · rw [q_gi_nk (by omega), q_gi_ne (by omega)]; exact a5 k u
  have xr : ∀ v : Int, rt t N f_T B (f_bod (t_K B) s) (bm_si (bm_si w2 t 9 1501) f 9 v) := fun v => by
    obtain ⟨⟨a1, a2, a3, a4⟩, -⟩ := h
    refine ⟨⟨a1.fr (x3 v).1, fun j hj => ?_, a3, a4⟩, ?_, ?_, ?_, rng'.2.1, ?_⟩
    · rw [(x3 v).1.gi (a := t + 1) (by omega), (x3 v).1.gi (a := t + 2) (by omega), (x3 v).2.2.2.2.2]
      exact a2 j hj
    · rw [q_gi_ne (by omega), q_gi_nk (by decide)]; exact p2.2.1
    · rw [q_gi_ne (by omega), q_gi_nk (by decide)]; exact p2.2.2.1
    · rw [q_gi_ne (by omega), q_gi_eq]; rfl
    · show _ ≤ 1501; omega
  have c1 : ∀ j, bm_gi w1 (t + 112) j = bm_gi w (t + 112) j := fun j => k1 _ _ (by omega)
  have c3 : ∀ (v : Int) j, bm_gi (bm_si (bm_si w2 t 9 1501) f 9 v) (t + 112) j = bm_gi w2 (t + 112) j := fun v j => by rw [q_gi_ne (by omega), q_gi_ne (by omega)]
  refine hq _ (xr _) (x3 _) (fun z => ?_)
  obtain ⟨p4, p5⟩ := p2.2.2.2 z
  refine ⟨((cp_st.eq c1).tr p4).tr (cp_st.eq (c3 _)), fun cz => ?_⟩
  have p6 := p5 ((c1 2).trans cz)
  cases hr : m_ex (t_K B) (t_V B) (s.2 + 50) P I E 415 6 0 s.2 [] with
  | inl e =>
    rw [hr] at p6
    exact ⟨p6.1, (c3 _ 2).trans p6.2.1, (c3 _ 3).trans p6.2.2⟩
  | inr lz =>
    obtain ⟨l, z0⟩ := lz
    rw [hr] at p6
    refine ⟨(c3 _ 2).trans p6.1, fun c0 lfc c00 n9 sz => ?_⟩
    subst c00
    have lf1 : lf t f P I w1 0 s.2 := ⟨(k1 _ _ (by omega)).trans lfc.1, (k1 _ _ (by omega)).trans lfc.2.1, (k1 _ _ (by omega)).trans lfc.2.2⟩
    have n1 : bm_gi w1 f 9 = 0 := (k1 _ _ (by omega)).trans n9
    obtain ⟨c1', d1, d2, d3, d4, d5, d6, d7⟩ := p6.2 0 lf1 (by omega) (by omega) (by omega) sz
    refine ⟨c1', ⟨?_, ?_, ?_⟩, by omega, ?_, ?_⟩
    · rw [q_gi_nk (by decide), q_gi_ne (by omega)]; exact d1.1
    · rw [q_gi_nk (by decide), q_gi_ne (by omega)]; exact d1.2.1
    · rw [q_gi_ne (by omega), q_gi_ne (by omega)]; exact d1.2.2
    · rw [q_gi_eq, d4, n1, q_wI ⟨by omega, by omega⟩]; omega
    · exact d7.fr (fun j a ha _ _ => by rw [q_gi_ne (by omega), q_gi_ne (by omega)])
end RB

/-! ===== the model: meaning of functions, the body ===== -/
theorem bm_wS {a b : Nat} (h : b ≤ a) (ha : a < 2147483648) : bm_w ((a : Int) - (b : Int)) = ((a - b : Nat) : Int) := by rw [q_wI ⟨by omega, by omega⟩]; omega
theorem mip.mv {m g : Nat} {B : Int → Int} {ins : List y_in} {w w' : bm_W} (h : mip m B g ins w) (hf : ∀ j, bm_gi w' (m + 14) j = bm_gi w (m + 14) j ∧ bm_gl w' (m + 15) j = bm_gl w (m + 15) j ∧ bm_gi w' (m + 16) j = bm_gi w (m + 16) j ∧ bm_gi w' (m + 17) j = bm_gi w (m + 17) j) : mip m B g ins w' :=
  ⟨(hf g).1.trans h.1, h.2.1, fun i hi => ⟨⟨(h.2.2.1 i hi).1.1, (hf _).2.1.trans (h.2.2.1 i hi).1.2⟩, (hf _).2.2.1.trans (h.2.2.1 i hi).2.1, (hf _).2.2.2.trans (h.2.2.1 i hi).2.2⟩, h.2.2.2⟩
theorem mfr.put {m F : Nat} {w : bm_W} {t nm v : Int} : mfr m F w (bm_si (bm_sq (bm_si w (m + 18) F t) (m + 13) F nm) m 18 v) := by
  have g : ∀ a j, ¬ (a = m ∧ j = 18) → ¬ (a = m + 18 ∧ j = F) → bm_gi (bm_si (bm_sq (bm_si w (m + 18) F t) (m + 13) F nm) m 18 v) a j = bm_gi w a j := fun a j h1 h2 => by
    simp only [bm_si_gi, bm_sq_gi]
    rw [if_neg (by omega), if_neg (by omega)]
  exact ⟨fun x hx => ⟨q_gl_nk (by omega), g _ _ (by omega) (by omega), g _ _ (by omega) (by omega), g _ _ (by omega) (by omega), g _ _ (by omega) (by omega)⟩, fun j _ => ⟨q_gl_ne (by omega), g _ _ (by omega) (by omega), g _ _ (by omega) (by omega)⟩, by rw [g _ _ (by omega) (by omega)]; exact Int.le_refl _, fun a j _ _ _ => g _ _ (by omega) (by omega)⟩
/-- the meaning of a new function -/
theorem mq.new {m dp : Nat} {B : Int → Int} {fs : List y_fn} {ins : List y_in} {D : q_D} {w w' : bm_W} (h : mfs m B fs w) (hn : qn m fs.length (y_E (t_V B) fs ins) w (bm_gi w m 40) D dp) (hd : dp ≤ 200) (hg : ∀ a j, m + 7 ≤ a → a ≤ m + 12 → bm_gi w' a j = bm_gi w a j) (h14 : ∀ j, bm_gi w' (m + 14) j = bm_gi w (m + 14) j) (h18 : ∀ j, j < fs.length → bm_gi w' (m + 18) j = bm_gi w (m + 18) j) (hF : bm_gi w' (m + 18) fs.length = bm_gi w m 40) : mq m fs.length (bm_gi w m 11).toNat D w' := fun w0 k1 k2 k3 => by
  obtain ⟨x, x1, x2, x3, x4⟩ := hn
  have hk : bm_gi w0 (m + 18) fs.length = bm_gi w m 40 := (k2 fs.length (Nat.le_refl _)).2.trans hF
  rw [hk]
  refine (x4 w0 (fun a j u v z => (k1 a j u v (by omega)).trans (hg a j u v)) ⟨k3, fun g hg1 => ?_⟩).mo (by omega)
  obtain ⟨b0, b1, b2, b3, b4, b5, b6, nn, b7, b8⟩ := h.2.2.1 g hg1
  refine ⟨((k2 g (by omega)).1.trans (h14 g)).trans b1.1, b8 w0 (fun a j u v z => (k1 a j u v (by omega)).trans (hg a j u v)) (fun y hy => ⟨(k2 y (by omega)).1.trans (h14 y), (k2 y (by omega)).2.trans (h18 y (by omega))⟩) k3⟩
theorem mG.si {m c a k : Nat} {v : Int} {w w' : bm_W} (h : mG m c w w') (ha : m ≤ a ∧ a ≤ m + 31) (hk : ¬ (a = m ∧ (k = 0 ∨ k = 37))) : mG m c w (bm_si w' a k v) := ⟨q_gw.si h.1 (Or.inl ha), fun j hj => by simp only [bm_si_gi]; rw [if_neg (by omega)]; exact h.2 j hj⟩
theorem mG.sq {m c a k : Nat} {v : Int} {w w' : bm_W} (h : mG m c w w') (ha : m ≤ a ∧ a ≤ m + 31) : mG m c w (bm_sq w' a k v) := ⟨q_gw.sq h.1 (Or.inl ha), h.2⟩
section MN
variable {d m N p q b e F : Nat} {B : Int → Int} {w : bm_W} {Φ : bm_Rt → bm_W → Prop} {ins : List y_in} {pr : y_pr}
theorem mm_body (h : mg m N B pr ins p b w) (h9 : bm_gi w m 9 = (b : Int)) (hb : b = q + 2) (hk : t_K B e = 19) (hbod : f_bod (t_K B) (false, b) = (false, e)) (he : e ≤ N)
    (hq : ∀ x w', mG m (e + 1 - p) w w' → ma m w B (y_fun3 (t_K B) (t_V B) pr ins p q) x w' (fun pr' => ml m N B pr' (e + 1) w' ∧ bm_gi w' m 9 = (e : Int)) → Φ (.inl (some (bm_i x))) w') : bk_X12_fun_95 (d + 1265) Φ m ((p + 1 : Nat) : Int) (b : Int) w := by
  have h' := h
  obtain ⟨a1, a2, a3, a4, a5, ⟨n, a6, a7⟩, a8, a9, a10, a11, a12, a13, a14, a15⟩ := h'
  have N5 := a1.2.2.1
  have rb := f_bod_rng (K := t_K B) (s := (false, b))
  have Ie := f_bod_if (K := t_K B) (s := (false, b)) (by rw [hbod])
  have rb3 : b < e := by have := rb.2.2 (by rw [hbod]); rw [hbod] at this; exact this
  rw [hbod] at rb Ie
  simp only at rb Ie
  have n19 := f_ex_n19 (K := t_K B) (L := b + 50) 415 6 0 (false, b) (by decide) (by show (f_bod (t_K B) (false, b)).1 = false; rw [hbod])
  have nn : ∀ y, b ≤ y → y < e → t_K B y ≠ 19 := fun y u v => n19 y u (by show y < (f_bod (t_K B) (false, b)).2; rw [hbod]; exact v)
  refine mm_walk (d := d + 1259) he hk (e - b) b w (by omega) a1 h9 nn ?_
  refine vb_X12_fun_95 ?_
  have Z1 := a1.at9 (v := (e : Int))
  have e9 : bm_gi (bm_si w m 9 (e : Int)) m 9 = (e : Int) := q_gi_eq
  have k6 : t_kc 6 = 19 := rfl
  simp only [bm_c0_v, bm_c1_v, bm_c2_v, bm_c3_v, bm_c4_v, bm_c5_v, bm_u_some, decide_eq_true_eq, true_and, and_true, and_self, Bool.not_eq_true, Bool.not_eq_true', decide_eq_false_iff_not, if_true, if_false, ite_true, ite_false, eq_self, a1.1.1.1, Z1.1.1.1, true_or, or_true, mp_sees Z1 e9 he (show 1 ≤ 6 by decide) (show 6 < 31 by decide), k6, hk, if_true, e9]
  rw [if_pos (by decide)]
  have e18 : bm_gi (bm_si w m 9 (e : Int)) m 18 = (pr.1.length : Int) := (q_gi_nk (by decide)).trans a3.1
  refine mp_mark (d := d + 1258) (y_hp _ b) (y_P_0 _ _ _ (Nat.le_refl b)) ((q_gi_nk (by decide)).trans a5) (by omega) he Z1 (by omega) (fun w2 m2 p2 j2 => ?_)
  rw [e18, Int.toNat_natCast] at p2 j2
  have j2' : ∀ j, j ≠ pr.1.length → bm_gi w2 (m + 19) j = bm_gi w (m + 19) j := fun j hj => (j2 j hj).trans (q_gi_ne (by omega))
  have MZ := h.mz hk (by omega) he (by omega) m2 j2'
  have S2 : sh_Md m w2 := Z1.1.1.fr m2.1
  have S3 : sh_Md m (bm_si w2 m 9 (b : Int)) := S2
  have S4 : sh_Md m (bm_si (bm_si w2 m 9 (b : Int)) (m + 20) pr.1.length ((e - b : Nat) : Int)) := S2
  have g18 : bm_gi w2 m 18 = (pr.1.length : Int) := (m2.2.1 18 (by decide)).trans e18
  have g18' : bm_gi (bm_si w2 m 9 (b : Int)) m 18 = (pr.1.length : Int) := (q_gi_nk (by decide)).trans g18
  have g9 : bm_gi w2 m 9 = (e : Int) := (m2.2.1 9 (by decide)).trans e9
  rw [bm_c0_v]
  simp only [bm_c0_v, bm_c1_v, bm_c2_v, bm_c3_v, bm_c4_v, bm_c5_v, bm_u_some, decide_eq_true_eq, true_and, and_true, and_self, Bool.not_eq_true, Bool.not_eq_true', decide_eq_false_iff_not, if_true, if_false, ite_true, ite_false, eq_self, S2.1, S3.1, S3.g26, S3.t26, S3.n26, g18', g9, bm_in, bm_wS (show b ≤ e by omega) (show e < 2147483648 by omega), Int.toNat_natCast]
  have Fr : q_fr (fun a => a = m ∨ a = m + 5 ∨ a = m + 6 ∨ a = m + 19 ∨ a = m + 20) w (bm_si (bm_si w2 m 9 (b : Int)) (m + 20) pr.1.length ((e - b : Nat) : Int)) := ((((q_fr.rf.si (A := fun a => a = m ∨ a = m + 5 ∨ a = m + 6 ∨ a = m + 19 ∨ a = m + 20) (Or.inl rfl)).tr (m2.1.mo (fun a z => by omega))).si (Or.inl rfl)).si (by omega))
  have fl : ∀ k, k ≠ 9 → k ≠ 27 → bm_gi (bm_si (bm_si w2 m 9 (b : Int)) (m + 20) pr.1.length ((e - b : Nat) : Int)) m k = bm_gi w m k := fun k x y => by
    rw [q_gi_ne (by omega), q_gi_nk x, m2.2.1 k y, q_gi_nk x]
  have u27 : bm_gi (bm_si (bm_si w2 m 9 (b : Int)) (m + 20) pr.1.length ((e - b : Nat) : Int)) m 27 = (y_I (t_K B) e : Int) := by
    rw [q_gi_ne (by omega), q_gi_nk (by decide)]; exact m2.2.2.1
  have u19 : bm_gi (bm_si (bm_si w2 m 9 (b : Int)) (m + 20) pr.1.length ((e - b : Nat) : Int)) (m + 19) pr.1.length = (y_P (t_K B) b e : Int) := by
    rw [q_gi_ne (by omega), q_gi_ne (by omega)]; exact p2
  have u20 : bm_gi (bm_si (bm_si w2 m 9 (b : Int)) (m + 20) pr.1.length ((e - b : Nat) : Int)) (m + 20) pr.1.length = ((e - b : Nat) : Int) := q_gi_eq
  have M4 : mfr m pr.1.length w (bm_si (bm_si w2 m 9 (b : Int)) (m + 20) pr.1.length ((e - b : Nat) : Int)) := by
    refine ⟨fun x hx => ⟨Fr.gl (by omega), Fr.gi (by omega), Fr.gi (by omega), ?_, ?_⟩, fun j _ => ⟨Fr.gl (by omega), Fr.gi (by omega), Fr.gi (by omega)⟩, by rw [fl 11 (by decide) (by decide)]; exact Int.le_refl _, fun a j u v _ => Fr.gi (by omega)⟩
    · rw [q_gi_ne (by omega), q_gi_ne (by omega)]; exact j2' x (by omega)
    · rw [q_gi_nk (by omega), q_gi_ne (by omega), m2.1.gi (by omega), q_gi_ne (by omega)]
  have T4 : mtr m w (bm_si (bm_si w2 m 9 (b : Int)) (m + 20) pr.1.length ((e - b : Nat) : Int)) := mtr.of Fr (fun a u v => by omega) (fl 28 (by decide) (by decide))
  have G4 : mG m 0 w (bm_si (bm_si w2 m 9 (b : Int)) (m + 20) pr.1.length ((e - b : Nat) : Int)) := mG.of Fr (fun a u => by omega) (fun k hk => fl k (by omega) (by omega))
  generalize bm_si (bm_si w2 m 9 (b : Int)) (m + 20) pr.1.length ((e - b : Nat) : Int) = w4 at MZ S4 Fr fl u27 u19 u20 M4 T4 G4 ⊢
  have hsz : m + 31 < bm_sz w4 := MZ.1.2.1
  have hfo : f_fo (t_K B) (b + 50) 6 e := ⟨fun z => by unfold f_go; rw [← z, hk]; omega, fun _ z => by omega⟩
  have h54 : ∀ x, b ≤ x → x < e → t_K B x = 6 → y_I (t_K B) x < 54 := fun x u v k6 => by
    have t1 : y_I (t_K B) (x + 1) = y_I (t_K B) x + 1 := ((y_hp (t_K B) b).2.1 x).1 k6
    have t2 : y_I (t_K B) (x + 1) ≤ y_I (t_K B) e := t_n_mo (b := f_if (t_K B)) (q := x + 1) e (by omega)
    omega
  have hE := y_he (V := t_V B) (fs := pr.1) (ins := ins) (fun g hg => ⟨(a3.2.2.1 g hg).2.2.2.2.2.1, (a3.2.2.1 g hg).2.2.2.2.2.2.1⟩)
  have hI : ∀ g : Nat, g < pr.1.length → 1 ≤ (y_E (t_V B) pr.1 ins).2.2.1 (g : Int) ∧ (y_E (t_V B) pr.1 ins).2.2.1 (g : Int) ≤ 3 := fun g hg => ⟨(a3.2.2.1 g hg).2.2.1, (a3.2.2.1 g hg).2.1.2.1⟩
  refine ⟨by omega, S4.1, (mm_all h54 hE hI 415).1 (d + 1265) 0 b e w4 _ MZ (by omega) hbod (Nat.le_refl e) hfo (by rw [if_pos rfl]; omega) (by omega) (fun x w5 hm => ?_)⟩
  rw [bm_c1_v]
  obtain ⟨hmf, hr⟩ := hm
  have N5' := hmf.fr2 hsz
  have G5 : mG m (e - b) w w5 := (G4.tr N5'.2.2).mo (by omega)
  subst hb
  unfold y_fun3 at hq
  rw [hbod] at hq
  cases hR : m_ex (t_K B) (t_V B) (q + 2 + 50) (y_P (t_K B) (q + 2)) (y_I (t_K B)) (y_E (t_V B) pr.1 ins) 415 6 0 (q + 2) [] with
  | inl e0 =>
    rw [hR] at hr hq
    rw [if_neg (by omega)]
    exact hq x w5 (G5.mo (by omega)) hr
  | inr y =>
    obtain ⟨l, z⟩ := y
    rw [hR] at hr hq
    obtain ⟨x0, r1, r2, r3, r4, r5⟩ := hr
    have M5 := M4.tr N5'.1
    have T5 := T4.tr N5'.2.1
    have S5 : sh_Md m w5 := S4.gw hmf.1 hsz (fun z => z)
    have h18 : bm_gi w5 m 18 = (pr.1.length : Int) := ((hmf.2.1 18 (by decide) (by decide) (by decide) (by decide)).trans (fl 18 (by decide) (by decide))).trans a3.1
    have h20 : bm_gi w5 (m + 20) pr.1.length = ((e - (q + 2) + z : Nat) : Int) := by rw [r3, u20]; omega
    have S6 : sh_Md m (bm_si w5 (m + 18) pr.1.length (bm_gi w5 m 40)) := S5
    have t18 : bm_gi (bm_si w5 (m + 18) pr.1.length (bm_gi w5 m 40)) m 18 = (pr.1.length : Int) := (q_gi_ne (by omega)).trans h18
    have t20 : bm_gi (bm_si w5 (m + 18) pr.1.length (bm_gi w5 m 40)) (m + 20) pr.1.length = ((e - (q + 2) + z : Nat) : Int) := (q_gi_ne (by omega)).trans h20
    simp only [x0, if_true, bm_c0_v, bm_c1_v, bm_c2_v, bm_c3_v, bm_c4_v, bm_c5_v, bm_u_some, decide_eq_true_eq, true_and, and_true, and_self, Bool.not_eq_true, Bool.not_eq_true', decide_eq_false_iff_not, if_true, if_false, ite_true, ite_false, eq_self, S5.1, S5.g24, S5.t24, S5.n24, h18, bm_in, Int.toNat_natCast, S6.1, S6.g26, S6.t26, S6.n26, t18, t20]
    simp only at hq
    have Z5 : md_Z m B N w5 := MZ.1.1.gw hmf.1 hsz (fun z => z) (fun j _ _ => by omega) (hmf.2.1 2 (by decide) (by decide) (by decide) (by decide))
    have Z6 : md_Z m B N (bm_si w5 (m + 18) pr.1.length (bm_gi w5 m 40)) := md_Z.fr (A := fun a => a = m + 18) (q_fr.rf.si rfl) (fun j _ _ => by omega) (q_gi_ne (by omega)) Z5
    refine ⟨by omega, by omega, ?_⟩
    by_cases c : 200 < e - (q + 2) + z
    · rw [if_pos c] at hq
      rw [if_neg (by omega)]
      refine mm_wrong (d := d + 1264) Z6 a13 (fun a => ?_)
      rw [bm_c1_v]
      exact hq 4 _ (((G5.mo (by omega)).si (by omega) (by omega)).si (by omega) (by omega)) (ma_wr (by decide) a)
    rw [if_neg c] at hq
    rw [if_pos (by omega)]
    have nmo : ∀ Ψ, bm_Call bm_pg (d + 1265) y_X12_nameOf [bm_r (some m), bm_i ((p + 1 : Nat) : Int)] (bm_si w5 (m + 18) pr.1.length (bm_gi w5 m 40)) Ψ ↔ Ψ (.inl (some (bm_l (t_nm B (p + 1))))) (bm_si w5 (m + 18) pr.1.length (bm_gi w5 m 40)) := fun Ψ => mp_nameOf Z6 a13 (by omega)
    simp only [bm_c0_v, bm_c1_v, bm_c2_v, bm_c3_v, bm_c4_v, bm_c5_v, bm_u_some, decide_eq_true_eq, true_and, and_true, and_self, Bool.not_eq_true, Bool.not_eq_true', decide_eq_false_iff_not, if_true, if_false, ite_true, ite_false, eq_self, S6.1, S6.g19, S6.t19, S6.n19, nmo]
    have t18' : bm_gi (bm_sq (bm_si w5 (m + 18) pr.1.length (bm_gi w5 m 40)) (m + 13) pr.1.length (t_nm B (p + 1))) m 18 = (pr.1.length : Int) := t18
    rw [t18', bm_w1 (show pr.1.length < 2147483647 by omega)]
    have M7 := M5.tr (mfr.put (m := m) (F := pr.1.length) (w := w5) (t := bm_gi w5 m 40) (nm := t_nm B (p + 1)) (v := ((pr.1.length + 1 : Nat) : Int)))
    have e14 : ∀ j, bm_gi w5 (m + 14) j = bm_gi w (m + 14) j ∧ bm_gl w5 (m + 15) j = bm_gl w (m + 15) j ∧ bm_gi w5 (m + 16) j = bm_gi w (m + 16) j ∧ bm_gi w5 (m + 17) j = bm_gi w (m + 17) j := fun j => ⟨(hmf.1.gi (by omega) (by omega)).trans (Fr.gi (by omega)), (hmf.1.gl (by omega) (by omega)).trans (Fr.gl (by omega)), (hmf.1.gi (by omega) (by omega)).trans (Fr.gi (by omega)), (hmf.1.gi (by omega) (by omega)).trans (Fr.gi (by omega))⟩
    have G7 : mG m (e + 1 - p) w (bm_si (bm_sq (bm_si w5 (m + 18) pr.1.length (bm_gi w5 m 40)) (m + 13) pr.1.length (t_nm B (p + 1))) m 18 ((pr.1.length + 1 : Nat) : Int)) := (((G5.mo (by omega)).si (by omega) (by omega)).sq (by omega)).si (by omega) (by omega)
    have gg : ∀ a j, ¬ (a = m ∧ j = 18) → ¬ (a = m + 18 ∧ j = pr.1.length) → bm_gi (bm_si (bm_sq (bm_si w5 (m + 18) pr.1.length (bm_gi w5 m 40)) (m + 13) pr.1.length (t_nm B (p + 1))) m 18 ((pr.1.length + 1 : Nat) : Int)) a j = bm_gi w5 a j := fun a j h1 h2 => by
      simp only [bm_si_gi, bm_sq_gi]
      rw [if_neg (by omega), if_neg (by omega)]
    have gl : ∀ a j, ¬ (a = m + 13 ∧ j = pr.1.length) → bm_gl (bm_si (bm_sq (bm_si w5 (m + 18) pr.1.length (bm_gi w5 m 40)) (m + 13) pr.1.length (t_nm B (p + 1))) m 18 ((pr.1.length + 1 : Nat) : Int)) a j = bm_gl w5 a j := fun a j h1 => by
      by_cases y : a = m + 13
      · rw [y]; exact q_gl_nk (by omega)
      · exact q_gl_ne y
    have n13 : bm_gl (bm_si (bm_sq (bm_si w5 (m + 18) pr.1.length (bm_gi w5 m 40)) (m + 13) pr.1.length (t_nm B (p + 1))) m 18 ((pr.1.length + 1 : Nat) : Int)) (m + 13) pr.1.length = t_nm B (p + 1) := q_gl_eq
    have v18 : bm_gi (bm_si (bm_sq (bm_si w5 (m + 18) pr.1.length (bm_gi w5 m 40)) (m + 13) pr.1.length (t_nm B (p + 1))) m 18 ((pr.1.length + 1 : Nat) : Int)) m 18 = ((pr.1.length + 1 : Nat) : Int) := q_gi_eq
    have vtop : bm_gi (bm_si (bm_sq (bm_si w5 (m + 18) pr.1.length (bm_gi w5 m 40)) (m + 13) pr.1.length (t_nm B (p + 1))) m 18 ((pr.1.length + 1 : Nat) : Int)) (m + 18) pr.1.length = bm_gi w5 m 40 := by
      rw [q_gi_ne (by omega)]; exact q_gi_eq
    have S7 : sh_Md m (bm_sq (bm_si w5 (m + 18) pr.1.length (bm_gi w5 m 40)) (m + 13) pr.1.length (t_nm B (p + 1))) := S5
    have Z7 : md_Z m B N (bm_si (bm_sq (bm_si w5 (m + 18) pr.1.length (bm_gi w5 m 40)) (m + 13) pr.1.length (t_nm B (p + 1))) m 18 ((pr.1.length + 1 : Nat) : Int)) := md_Z.fr (A := fun a => a = m ∨ a = m + 13 ∨ a = m + 18) (((q_fr.rf.si (by omega)).sq (by omega)).si (by omega)) (fun j _ _ => by omega) (gg m 2 (by omega) (by omega)) Z5
    have sz7 : bm_sz (bm_si (bm_sq (bm_si w5 (m + 18) pr.1.length (bm_gi w5 m 40)) (m + 13) pr.1.length (t_nm B (p + 1))) m 18 ((pr.1.length + 1 : Nat) : Int)) = bm_sz w5 := rfl
    have q5 := (a3.mv M5 (h18.trans a3.1.symm))
    have Q7 := mq.new (w' := bm_si (bm_sq (bm_si w5 (m + 18) pr.1.length (bm_gi w5 m 40)) (m + 13) pr.1.length (t_nm B (p + 1))) m 18 ((pr.1.length + 1 : Nat) : Int)) q5 r5.1 (by omega) (fun a j u v => gg a j (by omega) (by omega)) (fun j => gg _ _ (by omega) (by omega)) (fun j hj => gg _ _ (by omega) (by omega)) vtop
    refine ⟨by omega, S7.1, S7.1, hq 0 _ G7 ⟨rfl, (gg m 3 (by omega) (by omega)).trans (r5.2.trans (fl 3 (by decide) (by decide))), ?_, (gg m 9 (by omega) (by omega)).trans r1⟩⟩
    generalize bm_si (bm_sq (bm_si w5 (m + 18) pr.1.length (bm_gi w5 m 40)) (m + 13) pr.1.length (t_nm B (p + 1))) m 18 ((pr.1.length + 1 : Nat) : Int) = w7 at M7 G7 gg gl n13 v18 vtop Z7 sz7 Q7 ⊢
    have h11 : bm_gi w7 m 11 = bm_gi w5 m 11 := gg _ _ (by omega) (by omega)
    have sl5 := hmf.1.1.1
    have p11 : 0 ≤ bm_gi w5 m 11 := by
      have := hmf.2.2.2.2
      rw [fl 11 (by decide) (by decide)] at this
      omega
    have I7 : y_I (t_K B) (e + 1) = y_I (t_K B) e := y_I_no (by omega)
    refine ⟨Z7, by omega, ⟨?_, ?_, fun g hg => ?_, ?_⟩, ?_, ?_, ⟨(bm_gi w7 m 11).toNat, ?_, ?_⟩, ?_⟩
    · rw [v18, List.length_append]; rfl
    · rw [List.length_append]; simp; omega
    · rw [List.length_append, List.length_singleton] at hg
      by_cases y : g = pr.1.length
      · subst y
        rw [q_gde rfl]
        refine ⟨⟨a12, n13⟩, a10.mv (fun j => ?_), a11, ?_, ?_, ?_, ?_, (bm_gi w5 m 11).toNat, ?_, Q7⟩
        · rw [gg _ _ (by omega) (by omega), gl _ _ (by omega), gg _ _ (by omega) (by omega), gg _ _ (by omega) (by omega)]
          exact e14 j
        · rw [gg _ _ (by omega) (by omega), hmf.1.gi (by omega) (by omega)]
          exact u19
        · rw [gg _ _ (by omega) (by omega)]
          exact h20
        · show 1 ≤ e - (q + 2) + z
          omega
        · show e - (q + 2) + z ≤ 200
          omega
        · omega
      · rw [q_gdl (by omega)]
        exact (a3.2.2.1 g (by omega)).mv M7 (by omega)
    · rw [List.map_append]
      exact y_ds_snoc (x := p + 1) a3.2.2.2 a15
    · have T7 : mtr m w w7 := T5.tr ⟨gg _ _ (by omega) (by omega), fun a j u v => ⟨gg _ _ (by omega) (by omega), gl _ _ (by omega)⟩⟩
      exact a4.mv T7 rfl (by rw [List.length_append]; omega) (fun g hg => q_gdl hg)
    · rw [gg _ _ (by omega) (by omega), hmf.2.1 27 (by decide) (by decide) (by decide) (by decide), u27, I7]
    · have := hmf.2.2.2.2
      rw [fl 11 (by decide) (by decide)] at this
      omega
    · rw [fl 11 (by decide) (by decide)] at r2
      omega
    · rw [I7, List.length_append, List.length_singleton]
      omega
end MN

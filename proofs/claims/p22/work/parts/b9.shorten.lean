/-! ===== a table is shortened, in the class ===== -/
theorem q_setself {α : Type} {z : α} : ∀ (l : List α) (k : Nat), k < l.length → l.set k (l.getD k z) = l
  | [], k, h => by simp at h
  | a :: l, 0, h => rfl
  | a :: l, k + 1, h => by
    show a :: l.set k (l.getD k z) = a :: l
    rw [q_setself l k (by simpa using h)]
theorem y_st_self {pr : y_pr} {k : Nat} (hk : k < pr.2.length) : y_st pr k (pr.2.getD k y_t0).2.2 = pr := by
  show (pr.1, pr.2.set k (pr.2.getD k y_t0)) = pr
  rw [q_setself pr.2 k hk]
/-- the rows that are left -/
def s_sh (D : q_D) (P : Nat) : Nat → List y_rw → List y_rw
  | 0, rows => rows
  | n + 1, rows => if 1 < rows.length then (if s_fn D (rows.eraseIdx n) P = s_fn D rows P then s_sh D P n (rows.eraseIdx n) else s_sh D P n rows) else rows
theorem s_sh_s {D : q_D} {P n : Nat} {rows : List y_rw} : s_sh D P (n + 1) rows = if 1 < rows.length then (if s_fn D (rows.eraseIdx n) P = s_fn D rows P then s_sh D P n (rows.eraseIdx n) else s_sh D P n rows) else rows := rfl
theorem s_sh_1 {D : q_D} {P : Nat} {rows : List y_rw} (h : ¬ 1 < rows.length) : ∀ n, s_sh D P n rows = rows
  | 0 => rfl
  | n + 1 => by rw [s_sh_s, if_neg h]
def sg (n L j : Nat) : Nat := if j = L then n else if n ≤ j ∧ j < L then j + 1 else j
theorem dr_sg {g : Nat → Option Nat} {n L j : Nat} : dr_f g n L j = g (sg n L j) := by
  unfold dr_f dr_g sg
  by_cases c : j = L
  · rw [if_pos c, if_pos c]
  · rw [if_neg c, if_neg c]
    by_cases y : n ≤ j ∧ j < L
    · rw [if_pos y, if_pos y]
    · rw [if_neg y, if_neg y]
theorem sg_inj {n L j j' : Nat} (hn : n ≤ L) (h : sg n L j = sg n L j') : j = j' := by
  unfold sg at h
  split at h <;> split at h <;> (try split at h) <;> (try split at h) <;> omega
theorem sg_lt {n L j : Nat} (hn : n ≤ L) (hL : L < 12) (hj : j < 12) : sg n L j < 12 := by
  unfold sg
  split
  · omega
  · split <;> omega
theorem q_rf.gw {x : Nat} {w w' : bm_W} (h : q_rf x w w') : q_gw (fun _ => False) (fun a => a = x) 0 0 w w' := ⟨⟨by rw [h.2.2.2.1]; exact Nat.le_refl _, by rw [h.2.2.2.1]; exact Nat.le_refl _, by rw [h.2.2.2.2.1]; exact Nat.le_refl _, by rw [h.2.2.2.2.1]; exact Nat.le_refl _⟩, fun a _ => ⟨⟨by rw [h.2.1], by rw [h.2.2.1]⟩, fun z j => by rw [h.2.2.2.2.2 a z], fun _ j => h.1 a j⟩⟩
section SO
variable {d b t k n : Nat} {B : Int → Int} {pr : y_pr} {rows : List y_rw} {w w' : bm_W} {Φ : bm_Rt → bm_W → Prop}
abbrev cY (b t : Nat) (B : Int → Int) (pr : y_pr) (w : bm_W) : Prop := cQ (fun _ => True) b t B pr w
theorem cQ.dropped (h : cY b t B pr w) (hS : zS t pr w) (hk : k < pr.2.length) (hn : n < (pr.2.getD k y_t0).2.2.length) (hq : ∀ w', cY b t B (y_st pr k ((pr.2.getD k y_t0).2.2.eraseIdx n)) w' → zS t (y_st pr k ((pr.2.getD k y_t0).2.2.eraseIdx n)) w' → cL t 0 0 w w' → Φ (.inl none) w') : bm_Call bm_pg (d + 4) y_X7_drop [bm_r (some (pg_tb (t + 4) (k : Int))), bm_i (n : Int)] w Φ := by
  have Z := h.2.1.2.2.2 k hk
  have l6 := h.2.1.2.2.1
  have c5 := Z.2.2.2.2.1.1
  have r12 := Z.2.2.2.2.1.2.1
  have c6 := Z.2.2.2.2.1.2.2.1
  have ctle := Z.2.2.2.2.1.2.2.2.1
  have eb := h.1.1.1
  have tk := h.2.1.tb (k := k) (by omega)
  have os := h.1.2.2.2.2.2.1.1
  have ro := h.1.2.2.2.2.2.1
  obtain ⟨dr, g1, e1, e2, e3⟩ := Z.row2 hn
  have gl := e2.rgl
  have cs := gl.rc.2
  have cs1 := fun i hi => (Z.cs i hi).1
  have ctn := y_ct_nn _ cs1
  have cte := y_ct_erase (pr.2.getD k y_t0).2.2 n hn
  have ctn2 : 0 ≤ y_ct ((pr.2.getD k y_t0).2.2.eraseIdx n) := y_ct_nn _ (fun i hi => by
    rw [List.length_eraseIdx_of_lt hn] at hi
    rw [q_erase]
    split
    · exact cs1 i (by omega)
    · exact cs1 (i + 1) (by omega))
  obtain ⟨L, hL⟩ : ∃ L, (pr.2.getD k y_t0).2.2.length = L + 1 := ⟨(pr.2.getD k y_t0).2.2.length - 1, by omega⟩
  have hlen : ((pr.2.getD k y_t0).2.2.eraseIdx n).length = L := by rw [List.length_eraseIdx_of_lt hn]; omega
  have kt1 : bm_kt (bm_si w (pg_tb (t + 4) (k : Int)) 6 (y_ct ((pr.2.getD k y_t0).2.2.eraseIdx n))) (pg_tb (t + 4) (k : Int)) = 7 := Z.2.1.1
  have e5 : bm_gi (bm_si w (pg_tb (t + 4) (k : Int)) 6 (y_ct ((pr.2.getD k y_t0).2.2.eraseIdx n))) (pg_tb (t + 4) (k : Int)) 5 = ((pr.2.getD k y_t0).2.2.length : Int) := (q_gi_nk (by decide)).trans c5
  refine vc_X7_drop ?_
  simp only [bm_c0_v, bm_c1_v, bm_c2_v, bm_c3_v, bm_c4_v, bm_c5_v, bm_u_some, decide_eq_true_eq, true_and, and_true, and_self, Bool.not_eq_true, Bool.not_eq_true', decide_eq_false_iff_not, if_true, if_false, ite_true, ite_false, eq_self, Z.2.1.1, sp_rowAt (d := d + 2) Z.2.1, e1, e2.1.1, e2.1.2.1, e2.1.2.2.1, sp_rc (d := d) gl, c6, ← cte, q_wI (x := y_ct ((pr.2.getD k y_t0).2.2.eraseIdx n)) ⟨by omega, by omega⟩, kt1, e5, q_wI (x := ((pr.2.getD k y_t0).2.2.length : Int) - 1) ⟨by omega, by omega⟩]
  have F1 : q_fr (fun a => a = pg_tb (t + 4) (k : Int)) w (bm_si (bm_si w (pg_tb (t + 4) (k : Int)) 6 (y_ct ((pr.2.getD k y_t0).2.2.eraseIdx n))) (pg_tb (t + 4) (k : Int)) 5 (((pr.2.getD k y_t0).2.2.length : Int) - 1)) := q_fr.si (A := fun a => a = pg_tb (t + 4) (k : Int)) (q_fr.si q_fr.rf rfl) rfl
  have v5 : bm_gi (bm_si (bm_si w (pg_tb (t + 4) (k : Int)) 6 (y_ct ((pr.2.getD k y_t0).2.2.eraseIdx n))) (pg_tb (t + 4) (k : Int)) 5 (((pr.2.getD k y_t0).2.2.length : Int) - 1)) (pg_tb (t + 4) (k : Int)) 5 = (L : Int) := by rw [q_gi_eq]; omega
  have v6 : bm_gi (bm_si (bm_si w (pg_tb (t + 4) (k : Int)) 6 (y_ct ((pr.2.getD k y_t0).2.2.eraseIdx n))) (pg_tb (t + 4) (k : Int)) 5 (((pr.2.getD k y_t0).2.2.length : Int) - 1)) (pg_tb (t + 4) (k : Int)) 6 = y_ct ((pr.2.getD k y_t0).2.2.eraseIdx n) := by rw [q_gi_nk (by decide), q_gi_eq]
  have v4 : bm_gi (bm_si (bm_si w (pg_tb (t + 4) (k : Int)) 6 (y_ct ((pr.2.getD k y_t0).2.2.eraseIdx n))) (pg_tb (t + 4) (k : Int)) 5 (((pr.2.getD k y_t0).2.2.length : Int) - 1)) (pg_tb (t + 4) (k : Int)) 4 = ((pr.2.getD k y_t0).2.1 : Int) := by rw [q_gi_nk (by decide), q_gi_nk (by decide)]; exact Z.2.2.1
  clear kt1 e5
  generalize bm_si (bm_si w (pg_tb (t + 4) (k : Int)) 6 (y_ct ((pr.2.getD k y_t0).2.2.eraseIdx n))) (pg_tb (t + 4) (k : Int)) 5 (((pr.2.getD k y_t0).2.2.length : Int) - 1) = w1 at F1 v5 v6 v4 ⊢
  have I1 : cI b t w1 := h.1.frA F1 (by omega) (by omega) (fun i => by have := pg_fn_off t i; omega)
  have Tb1 := Z.2.1.fr F1
  have g0 : bm_gr w1 = bm_gr w := F1.gr
  have hbig : ∀ j r, j < 12 → bm_gr w (pg_tb (t + 4) (k : Int) + 1) j = some r → t + 125 ≤ r ∧ r + 4 ≤ bm_sz w := fun j r hj hr => ro.2.1 _ j r ⟨⟨_, rfl⟩, hj, hr⟩
  have hsome : ∀ i, i ≤ L → ∃ r, bm_gr w (pg_tb (t + 4) (k : Int) + 1) i = some r := fun i hi => by
    obtain ⟨r, x1, -⟩ := Z.row2 (show i < (pr.2.getD k y_t0).2.2.length by omega)
    exact ⟨r, x1⟩
  have n12 : n ≤ L := by omega
  refine dr_34 (d := d + 2) (L := L) (n := n) (dr := dr) Tb1 v5 (by omega) n12 (fun i hi => by
    obtain ⟨r, x1⟩ := hsome i hi
    have := hbig i r (by omega) x1
    exact ⟨r, by rw [g0]; exact x1, by omega⟩) (fun j r hj hr => by
    rw [g0] at hr
    have := hbig j r hj hr
    omega) (by rw [g0]; exact g1) (fun w2 F2 gd => ?_) (L - n) n w1 (by omega) (Nat.le_refl _) q_rf.rf (fun j => by
    unfold dr_g
    rw [if_neg (by omega)])
  rw [g0] at gd
  have gd' : ∀ j, bm_gr w2 (pg_tb (t + 4) (k : Int) + 1) j = bm_gr w (pg_tb (t + 4) (k : Int) + 1) (sg n L j) := fun j => by rw [gd j, dr_sg]
  have go : ∀ a, a ≠ pg_tb (t + 4) (k : Int) + 1 → bm_gr w2 a = bm_gr w a := fun a ha => (F2.2.2.2.2.2 a ha).trans (by rw [g0])
  have G2 := F2.gw
  have sz2 : bm_sz w2 = bm_sz w := F2.2.2.2.1.trans F1.sz
  have Tb2 : sh_Tb (pg_tb (t + 4) (k : Int)) w2 := Tb1.rfq F2 (fun j r hj hr => by
    rw [gd' j, ← g0] at hr
    exact ⟨_, sg_lt n12 (by omega) hj, hr⟩) (fun j r hj hr => by
    rw [g0] at hr
    have := hbig j r hj hr
    omega)
  -- where rows stand
  have at2 : ∀ T' j r, rw_at t w2 T' j r → (T' = pg_tb (t + 4) (k : Int) ∧ rw_at t w T' (sg n L j) r) ∨ (T' ≠ pg_tb (t + 4) (k : Int) ∧ rw_at t w T' j r) := fun T' j r ha => by
    obtain ⟨a1, a2, a3⟩ := ha
    by_cases c : T' = pg_tb (t + 4) (k : Int)
    · subst c
      rw [gd' j] at a3
      exact Or.inl ⟨rfl, a1, sg_lt n12 (by omega) a2, a3⟩
    · rw [go _ (by omega)] at a3
      exact Or.inr ⟨c, a1, a2, a3⟩
  have ro2 : rw_ok t w2 := by
    refine ⟨by rw [sz2]; exact os, fun T' j r ha => ?_, fun T' j r T'' j' r' ha hb => ?_⟩
    · rw [sz2]
      rcases at2 T' j r ha with ⟨-, z⟩ | ⟨-, z⟩
      · exact ro.2.1 _ _ _ z
      · exact ro.2.1 _ _ _ z
    · rcases at2 T' j r ha with ⟨x, z⟩ | ⟨x, z⟩
      · rcases at2 T'' j' r' hb with ⟨x', z'⟩ | ⟨x', z'⟩
        · rcases ro.2.2 _ _ _ _ _ _ z z' with ⟨q1, q2⟩ | q
          · exact Or.inl ⟨q1, sg_inj n12 q2⟩
          · exact Or.inr q
        · rcases ro.2.2 _ _ _ _ _ _ z z' with ⟨q1, q2⟩ | q
          · exact absurd (q1.symm.trans x) x'
          · exact Or.inr q
      · rcases at2 T'' j' r' hb with ⟨x', z'⟩ | ⟨x', z'⟩
        · rcases ro.2.2 _ _ _ _ _ _ z z' with ⟨q1, q2⟩ | q
          · exact absurd (q1.trans x') x
          · exact Or.inr q
        · rcases ro.2.2 _ _ _ _ _ _ z z' with ⟨q1, q2⟩ | q
          · exact Or.inl ⟨q1, q2⟩
          · exact Or.inr q
  have I2 : cI b t w2 := I1.gn (k := k) G2 (fun a z => z.elim) (by omega) (fun a z => z) Tb2 ro2
  have st : ∀ a, a ≠ pg_tb (t + 4) (k : Int) → ∀ j, bm_gi w2 a j = bm_gi w a j ∧ bm_gl w2 a j = bm_gl w a j := fun a ha j => ⟨(F2.1 a j).1.trans (F1.gi ha), (F2.1 a j).2.trans (F1.gl ha)⟩
  have fnb : ∀ g F', yfn t B g F' w → yfn t B g F' w2 := fun g F' hf => hf.bk (fun x _ a u v j => by
    have := pg_fn_off t (x : Int)
    exact st a (by omega) j)
  have er : ∀ i, i < L → ((pr.2.getD k y_t0).2.2.eraseIdx n).getD i y_r0 = (pr.2.getD k y_t0).2.2.getD (sg n L i) y_r0 ∧ sg n L i < (pr.2.getD k y_t0).2.2.length := fun i hi => by
    rw [q_erase]
    by_cases c : i < n
    · have es : sg n L i = i := by
        unfold sg
        rw [if_neg (show ¬ i = L by omega), if_neg (by omega)]
      rw [if_pos c, es]
      exact ⟨rfl, by omega⟩
    · have es : sg n L i = i + 1 := by
        unfold sg
        rw [if_neg (show ¬ i = L by omega), if_pos ⟨by omega, hi⟩]
      rw [if_neg c, es]
      exact ⟨rfl, by omega⟩
  have Ru2 : sh_Ru t w2 := ⟨I2.1.2.2.2.2.2.2.2.2.2.1, I2.1.2.2.2.2.2.2.2.2.2.2.1, I2.1.2.2.2.2.2.2.2.2.2.2.2.1, I2.2.2.2.1, I2.2.2.2.2.1⟩
  refine hq w2 ⟨I2, ⟨Ru2, by rw [y_st_len]; exact (st _ (by omega) _).1.trans h.2.1.2.1, by rw [y_st_len]; exact l6, fun k' hk' => ?_⟩, h.2.2.1.bk (st _ (by omega) _).1 (fun x _ a u v j => by have := pg_fn_off t (x : Int); exact st a (by omega) j), trivial, (st _ (by omega) _).1.trans h.2.2.2.2⟩ (fun k' i r hk' hi hr => ?_) ?_
  · rw [y_st_len] at hk'
    rw [y_st_f hk, y_st_F hk, y_st_r hk]
    have Z' := h.2.1.2.2.2 k' hk'
    have tk' := h.2.1.tb (k := k') (by omega)
    by_cases c : k' = k
    · subst c
      rw [if_pos rfl]
      refine ⟨Ru2, Tb2, ((F2.1 _ _).1.trans v4), fnb _ _ Z'.2.2.2.1, ⟨?_, ?_, ?_, ?_, fun i hi => ?_⟩, fun i r hi hr => (ro2.2.1 _ i r ⟨⟨_, rfl⟩, hi, hr⟩).1, Z'.2.2.2.2.2.2.1, ⟨_, rfl⟩⟩
      · rw [(F2.1 _ _).1, v5, hlen]
      · rw [hlen]; omega
      · rw [(F2.1 _ _).1, v6]
      · rw [cte]; omega
      · rw [hlen] at hi
        obtain ⟨x1, x2⟩ := er i hi
        obtain ⟨r, y1, -, ⟨-, y2, y3, -⟩, y4⟩ := Z'.row2 x2
        rw [x1]
        exact ⟨r, by rw [gd' i]; exact y1, y2.bk (fun a u v j => st a (by omega) j), y3⟩
    · rw [if_neg c]
      refine ⟨Ru2, I2.2.2.2.1.tb (k' : Int), (st _ (by omega) _).1.trans Z'.2.2.1, fnb _ _ Z'.2.2.2.1, Z'.2.2.2.2.1.mv (st _ (by omega) _).1 (st _ (by omega) _).1 (fun i hi => by rw [go _ (by omega)]) (fun i r hi hr a u v j => ?_), fun i r hi hr => (ro2.2.1 _ i r ⟨⟨_, rfl⟩, hi, hr⟩).1, Z'.2.2.2.2.2.2.1, ⟨_, rfl⟩⟩
      have := Z'.2.2.2.2.2.1 i r (by have := Z'.2.2.2.2.1.2.1; omega) hr
      exact st a (by omega) j
  · rw [y_st_len] at hk'
    rw [y_st_r hk] at hi
    rw [y_st_F hk, y_st_r hk]
    have Z' := h.2.1.2.2.2 k' hk'
    have tk' := h.2.1.tb (k := k') (by omega)
    by_cases c : k' = k
    · subst c
      rw [if_pos rfl] at hi ⊢
      rw [hlen] at hi
      obtain ⟨x1, x2⟩ := er i hi
      rw [gd' i] at hr
      have := Z'.2.2.2.2.2.1 _ r (by omega) hr
      rw [(st r (by omega) 4).1, (st r (by omega) 3).2, x1]
      exact hS k' _ r hk' x2 hr
    · rw [if_neg c] at hi ⊢
      rw [go _ (by omega)] at hr
      have := Z'.2.2.2.2.2.1 i r (by have := Z'.2.2.2.2.1.2.1; omega) hr
      rw [(st r (by omega) 4).1, (st r (by omega) 3).2]
      exact hS k' i r hk' hi hr
  · have rme : rm t w2 = rm t w := rm_ext (fun a h1 h2 j hj => by
      by_cases c : a = pg_tb (t + 4) (k : Int) + 1
      · subst c
        rw [gd' j]
        unfold sg
        by_cases c1 : j = L
        · rw [if_pos c1, c1, g1]
          obtain ⟨r, hr⟩ := hsome L (Nat.le_refl _)
          rw [hr]
          exact ⟨fun z => (by cases z), fun z => (by cases z)⟩
        · rw [if_neg c1]
          by_cases c2 : n ≤ j ∧ j < L
          · rw [if_pos c2]
            obtain ⟨r, hr⟩ := hsome j (by omega)
            obtain ⟨r', hr'⟩ := hsome (j + 1) (by omega)
            rw [hr, hr']
            exact ⟨fun z => (by cases z), fun z => (by cases z)⟩
          · rw [if_neg c2]
      · rw [go a c])
    refine ⟨⟨0, 0, ((q_gw.of F1).mo (A' := cB t) (R' := cA t) (fun a z => by unfold cB; omega) (fun a z => z) (Nat.le_refl _) (Nat.le_refl _)).tr (G2.mo (fun a z => z.elim) (fun a z => by unfold cA; omega) (Nat.le_refl _) (Nat.le_refl _))⟩, ?_, ?_⟩
    · rw [rme, sz2]; exact Nat.le_refl _
    · rw [rme, F2.2.2.2.2.1, F1.sl]; exact Nat.le_refl _
end SO

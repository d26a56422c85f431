/-! ===== all cases of a table, in the class ===== -/
theorem y_ct_take : ∀ (rows : List y_rw) (i : Nat), (∀ j, j < rows.length → 1 ≤ y_cs (rows.getD j y_r0).1) → 0 ≤ y_ct (rows.take i) ∧ (i < rows.length → y_ct (rows.take (i + 1)) = y_ct (rows.take i) + y_cs (rows.getD i y_r0).1)
  | [], i, _ => ⟨by simp [y_ct], fun h => by simp at h⟩
  | R :: l, 0, h => ⟨by simp [y_ct], fun _ => by simp [y_ct]⟩
  | R :: l, i + 1, h => by
    have h1 : 1 ≤ y_cs R.1 := h 0 (by simp)
    have ih := y_ct_take l i (fun j hj => h (j + 1) (by simp; omega))
    have e : ∀ x, y_ct ((R :: l).take (x + 1)) = y_cs R.1 + y_ct (l.take x) := fun x => rfl
    refine ⟨by rw [e]; omega, fun hi => ?_⟩
    rw [e, e, ih.2 (by simpa using hi)]
    show _ = y_cs R.1 + y_ct (l.take i) + y_cs (l.getD i y_r0).1
    omega
theorem s_at_off : ∀ (rows : List y_rw) (i : Nat) (idx : Int), i < rows.length → 0 ≤ idx → idx < y_cs (rows.getD i y_r0).1 → (∀ j, j < rows.length → 1 ≤ y_cs (rows.getD j y_r0).1) → s_at rows (y_ct (rows.take i) + idx) = (i, idx)
  | [], i, idx, hi, _, _, _ => by simp at hi
  | R :: l, 0, idx, hi, h0, h1, h => by
    have e : y_ct ((R :: l).take 0) = 0 := by simp [y_ct]
    rw [e, s_at_c, if_pos (by simpa using h1)]
    simp
  | R :: l, i + 1, idx, hi, h0, h1, h => by
    have hl : ∀ j, j < l.length → 1 ≤ y_cs (l.getD j y_r0).1 := fun j hj => h (j + 1) (by simp; omega)
    have nn := (y_ct_take l i hl).1
    have ih := s_at_off l i idx (by simpa using hi) h0 h1 hl
    have e : y_ct ((R :: l).take (i + 1)) = y_cs R.1 + y_ct (l.take i) := rfl
    rw [e, s_at_c, if_neg (by omega), show y_cs R.1 + y_ct (l.take i) + idx - y_cs R.1 = y_ct (l.take i) + idx by omega, ih]
/-- what a case comes to, the branches on the way -/
def s_hold (D : q_D) (rows : List y_rw) (k ch : Int) : Int := s_ad (rows.getD (s_at rows k).1 y_r0) (D (s_in rows k) ch).1
def s_tc (D : q_D) (rows : List y_rw) (k : Int) : List (Int × Bool) := (D (s_in rows k) (-1)).2
def s_tr (D : q_D) (rows : List y_rw) : Nat → List (Int × Bool)
  | 0 => []
  | n + 1 => s_tr D rows n ++ s_tc D rows (n : Int)
/-- rows that the class keeps -/
def zR (T n : Nat) (rows : List y_rw) (w : bm_W) : Prop := bm_gi w T 5 = (rows.length : Int) ∧ rows.length ≤ 12 ∧ bm_gi w T 6 = y_ct rows ∧ y_ct rows ≤ 100 ∧ ∀ i, i < rows.length → ∃ r, bm_gr w (T + 1) i = some r ∧ yrw r (rows.getD i y_r0) w ∧ y_rk n (rows.getD i y_r0)
/-- a table that the class keeps, its function -/
def zC (t T g n : Nat) (B : Int → Int) (F : y_fn) (rows : List y_rw) (w : bm_W) : Prop := sh_Ru t w ∧ sh_Tb T w ∧ bm_gi w T 4 = (g : Int) ∧ yfn t B g F w ∧ zR T n rows w ∧ (∀ i r, i < 12 → bm_gr w (T + 1) i = some r → t + 125 ≤ r) ∧ (q_loc n F.2.2.2.2 ∧ F.2.1.length = n ∧ g < 6 ∧ n ≤ 3) ∧ ∃ x : Int, T = pg_tb (t + 4) x
section CV
variable {d t T g n : Nat} {B : Int → Int} {F : y_fn} {rows : List y_rw} {w : bm_W} {Φ : bm_Rt → bm_W → Prop}
theorem zC.off (h : zC t T g n B F rows w) : T = t + 15 ∨ (t + 70 ≤ T ∧ T ≤ t + 105) := by
  obtain ⟨x, e⟩ := h.2.2.2.2.2.2.2
  rw [e]; exact pg_tb_off t x
theorem zC.fr {A : Nat → Prop} {w' : bm_W} (h : zC t T g n B F rows w) (hf : q_fr A w w') (hA : ∀ a, A a → (t + 113 ≤ a ∧ a ≤ t + 116) ∨ a = T + 6) : zC t T g n B F rows w' := by
  have off := h.off
  obtain ⟨h1, h2, h3, h4, ⟨b1, b2, b3, b4, b5⟩, h6, h7, h8⟩ := h
  have e : ∀ a j, ¬ ((t + 113 ≤ a ∧ a ≤ t + 116) ∨ a = T + 6) → bm_gi w' a j = bm_gi w a j ∧ bm_gl w' a j = bm_gl w a j := fun a j z => ⟨hf.gi (fun y => z (hA a y)), hf.gl (fun y => z (hA a y))⟩
  refine ⟨h1.fr hf, h2.fr hf, (e _ _ (by omega)).1.trans h3, h4.bk (fun x _ a u v j => ?_), ⟨(e _ _ (by omega)).1.trans b1, b2, (e _ _ (by omega)).1.trans b3, b4, fun i hi => ?_⟩, fun i r hi hr => h6 i r hi (by rw [← hf.gr]; exact hr), h7, h8⟩
  · have := pg_fn_off t (x : Int)
    exact e _ _ (by omega)
  · obtain ⟨r, r1, r2, r3⟩ := b5 i hi
    have := h6 i r (by omega) r1
    exact ⟨r, by rw [hf.gr]; exact r1, r2.bk (fun a u v j => e _ _ (by omega)), r3⟩
theorem zC.row {i : Nat} (h : zC t T g n B F rows w) (hi : i < rows.length) : ∃ r, tb_row w T (i : Int) = r ∧ cR r n (rows.getD i y_r0) w ∧ t + 125 ≤ r := by
  obtain ⟨h1, h2, h3, h4, ⟨b1, b2, b3, b4, b5⟩, h6, h7, h8⟩ := h
  obtain ⟨r, r1, r2, r3⟩ := b5 i hi
  refine ⟨r, ?_, ⟨h2.2.2.2.2.2.2.2.2.2 i r (by omega) r1, r2, r3, h7.2.2.2⟩, h6 i r (by omega) r1⟩
  unfold tb_row
  rw [if_pos ⟨by omega, by omega⟩, Int.toNat_natCast, r1]
  rfl
theorem zC.cs (h : zC t T g n B F rows w) : ∀ j, j < rows.length → 1 ≤ y_cs (rows.getD j y_r0).1 ∧ y_cs (rows.getD j y_r0).1 ≤ 68921 := fun j hj => by
  obtain ⟨r, -, h2, -⟩ := h.row hj
  exact h2.rgl.rc.2
/-- as far as cases are run -/
def zP (t T : Nat) (D : q_D) (rows : List y_rw) (c : Nat) (w w' : bm_W) : Prop := q_fr (fun a => (t + 113 ≤ a ∧ a ≤ t + 116) ∨ a = T + 6) w w' ∧ bm_gi w' (t + 113) 6 = bm_gi w (t + 113) 6 ∧ (∀ j, bm_gi w' (t + 115) j = q_bump (bm_gi w (t + 113) 6) true (s_tr D rows c) (bm_gi w (t + 115)) j) ∧ (∀ j, bm_gi w' (t + 116) j = q_bump (bm_gi w (t + 113) 6) false (s_tr D rows c) (bm_gi w (t + 116)) j) ∧ ∀ k : Nat, k < c → bm_gi w' (T + 6) k = s_hold D rows (k : Int) (-1)
theorem zP.rf {D : q_D} : zP t T D rows 0 w w := ⟨q_fr.rf, rfl, fun _ => rfl, fun _ => rfl, fun k hk => by omega⟩
theorem zP.step {D : q_D} {c : Nat} {w1 w2 : bm_W} (h : zP t T D rows c w w1) (hQ : mc_Q (t + 113) (s_tc D rows (c : Int)) w1 w2) (hT : T + 6 < t + 113) : zP t T D rows (c + 1) w (bm_si w2 (T + 6) c (s_hold D rows (c : Int) (-1))) := by
  obtain ⟨h1, h2, h3, h4, h5⟩ := h
  obtain ⟨q1, q2, q3, q4⟩ := hQ
  have e1 : bm_gi w1 (t + 115) = q_bump (bm_gi w (t + 113) 6) true (s_tr D rows c) (bm_gi w (t + 115)) := funext h3
  have e2 : bm_gi w1 (t + 116) = q_bump (bm_gi w (t + 113) 6) false (s_tr D rows c) (bm_gi w (t + 116)) := funext h4
  have q3' : ∀ j, bm_gi w2 (t + 115) j = q_bump (bm_gi w1 (t + 113) 6) true (s_tc D rows (c : Int)) (bm_gi w1 (t + 115)) j := q3
  have q4' : ∀ j, bm_gi w2 (t + 116) j = q_bump (bm_gi w1 (t + 113) 6) false (s_tc D rows (c : Int)) (bm_gi w1 (t + 116)) j := q4
  refine ⟨(h1.tr (q1.mo (fun a z => Or.inl z))).si (Or.inr rfl), (q_gi_ne (by omega)).trans (q2.trans h2), fun j => ?_, fun j => ?_, fun k hk => ?_⟩
  · rw [q_gi_ne (by omega), q3', h2, e1]
    show _ = q_bump _ true (s_tr D rows c ++ s_tc D rows (c : Int)) _ j
    rw [q_bump_app]
  · rw [q_gi_ne (by omega), q4', h2, e2]
    show _ = q_bump _ false (s_tr D rows c ++ s_tc D rows (c : Int)) _ j
    rw [q_bump_app]
  · by_cases z : k = c
    · rw [z, q_gi_eq]
    · rw [q_gi_nk z, q1.gi (by omega)]
      exact h5 k (by omega)
end CV

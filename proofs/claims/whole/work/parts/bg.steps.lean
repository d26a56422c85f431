/-! ===== the law's steps, both sides ===== -/
section IN
variable {pr : y_pr} {k : Nat}
theorem y_inr_gp (hin : y_inr pr) (hk : k < pr.2.length) (hf : y_fk (y_tF pr k).2.1) : y_inr (y_gp pr k) := fun j hj i hi c hc => by
  rw [y_gp_len] at hj
  rw [y_gp_F hk]
  rw [y_gp_r hk] at hi ⊢
  by_cases e : j = k
  · subst e
    rw [if_pos rfl] at hi ⊢
    rw [List.length_append, List.length_singleton] at hi
    by_cases z : i < (pr.2.getD j y_t0).2.2.length
    · rw [q_gdl z]
      exact hin j hj i z c hc
    · rw [q_gde (by omega), y_gR_c hf]
      have v := s_val_rng (k := y_pp pr (pr.2.getD j y_t0).2.1) (i := c) (y_rg_lk hf)
      exact ⟨v.2.2.1, v.2.2.2⟩
  · rw [if_neg e] at hi ⊢
    exact hin j hj i hi c hc
theorem s_sh_mem {D : q_D} {P : Nat} {R : y_rw} : ∀ (n : Nat) (rows : List y_rw), R ∈ s_sh D P n rows → R ∈ rows
  | 0, rows, h => h
  | n + 1, rows, h => by
    rw [s_sh_s] at h
    split at h
    · split at h
      · exact List.mem_of_mem_eraseIdx (s_sh_mem n _ h)
      · exact s_sh_mem n _ h
    · exact h
theorem y_inr_st {rows : List y_rw} (hin : y_inr pr) (hk : k < pr.2.length) (hr : ∀ R, R ∈ rows → R ∈ (pr.2.getD k y_t0).2.2) : y_inr (y_st pr k rows) := fun j hj i hi c hc => by
  rw [y_st_len] at hj
  rw [y_st_F hk]
  rw [y_st_r hk] at hi ⊢
  by_cases e : j = k
  · subst e
    rw [if_pos rfl] at hi ⊢
    have e1 : rows.getD i y_r0 = rows[i] := by rw [List.getD_eq_getElem?_getD, List.getElem?_eq_getElem hi]; rfl
    obtain ⟨i', hi', e2⟩ := List.getElem_of_mem (hr rows[i] (List.getElem_mem hi))
    have e3 : (pr.2.getD j y_t0).2.2.getD i' y_r0 = rows[i] := by rw [List.getD_eq_getElem?_getD, List.getElem?_eq_getElem hi', e2]; rfl
    rw [e1, ← e3]
    exact hin j hj i' hi' c hc
  · rw [if_neg e] at hi ⊢
    exact hin j hj i hi c hc
end IN
/-- the two sides, their program and their text -/
def lS (b t : Nat) (B : Int → Int) (pr : y_pr) (nI L : Nat) (D : Nat → Int) (e : Int) (c s : Nat) (w : bm_W) : Prop := lP pr nI L D ∧ lC b t B pr nI L D e w ∧ lM (t + 122) B pr nI L D e w ∧ lR t c s L w
/-- what the model's turn must come to -/
def laN (b t c s d Y : Nat) (as : List bm_V) (k : Int) (v : bm_V) (w1 : bm_W) : Prop := ∀ w2, lO t w1 w2 → bm_Call bm_pg (d + 1300) Y as w2 (fun r w3 => ∃ u, r = .inl (some u) ∧ (k = 0 → u = v) ∧ bm_gi w3 (t + 122) 0 = k ∧ lJ b t (t + 122) (c + 60) (s + 7000) w3)
/-- what the class's turn comes to -/
def laF (b t c s d Y : Nat) (as : List bm_V) (E1 E2 : String) (r : bm_Rt) (w1 : bm_W) : Prop := (∃ v, r = .inl (some v) ∧ laN b t c s d Y as 0 v w1) ∨ (r = .inr E1 ∧ laN b t c s d Y as 1 (bm_i 0) w1) ∨ (r = .inr E2 ∧ laN b t c s d Y as 2 (bm_i 0) w1)
section LS
variable {d b t nI L c s x y c' s' : Nat} {B : Int → Int} {pr pr' : y_pr} {D : Nat → Int} {e : Int} {w w' : bm_W} {E1 E2 : String}
theorem lS.cL (h : lS b t B pr nI L D e c s w) (G : cL t x y w w') (Z : cZ b t B pr w') (S : zS t pr w') : lS b t B pr nI L D e (c + x) (s + y) w' := ⟨h.1, h.2.1.cL G Z S, h.2.2.1.cL G, h.2.2.2.cL G⟩
theorem lS.cO (h : lS b t B pr nI L D e c s w) (G : cO t x y w w') (Z : cZ b t B pr w') : lS b t B pr nI L D e (c + x) (s + y) w' := h.cL (G.cL (by have := h.2.1.sz; omega)) Z (h.2.1.2.1.cO h.2.1.1 G)
theorem lS.cS (h : lS b t B pr nI L D e c s w) (G : cS t w w') (Z : cZ b t B pr w') (S : zS t pr w') : lS b t B pr nI L D e c s w' := h.cL G.cL Z S
theorem lS.tw (h : lS b t B pr nI L D e c s w) : lS b t B pr nI L D e (c + 1) (s + 6) (bm_tw w) := h.cL (c := c) (s := s) (x := 0 + 1) (y := 0 + 6) cL.rf.tw h.2.1.1.tw h.2.1.2.1
theorem lS.mO (h : lS b t B pr nI L D e c s w) (G : mO (t + 122) x y w w') : lS b t B pr nI L D e (c + x) (s + y) w' := ⟨h.1, h.2.1.far (G.1.mo (fun a z => by omega) (fun a z => z) (Nat.le_refl _) (Nat.le_refl _)), h.2.2.1.mO G, h.2.2.2.q G.1 (by have := h.2.1.sz; omega)⟩
theorem lS.out (h : lS b t B pr nI L D e c s w) (G : lO t w w') : lS b t B pr nI L D e c s w' := ⟨h.1, h.2.1.far (q_gw.mo (A' := fun a => t + 122 ≤ a ∧ a ≤ t + 155) (R' := fun _ => False) G (fun a z => by omega) (fun a z => z) (Nat.le_refl _) (Nat.le_refl _)), h.2.2.1.far G (fun a u v z => by omega) (fun z => z), h.2.2.2.q G (by have := h.2.1.sz; omega)⟩
theorem lS.J (h : lS b t B pr nI L D e c' s' w) (hc : c' ≤ c + 60) (hs : s' ≤ s + 7000) : lJ b t (t + 122) (c + 60) (s + 7000) w := ⟨B, pr, nI, L, D, e, h.1, h.2.1, h.2.2.1, h.2.2.2.mo hc hs⟩
theorem la_count {x : Int} (h : lS b t B pr nI L D e c s w) : bm_Call bm_pg (d + 1300) y_X11_count [bm_r (some b), bm_i x] w (laF b t c s d y_X12_count [bm_r (some (t + 122)), bm_i x] "java/lang/IndexOutOfBoundsException" E2) := by
  refine co_count (d := d + 1297) h.2.1.1 h.2.1.2.2.2.1 (fun z => Or.inl ⟨_, rfl, fun w2 G => ?_⟩) (fun z => Or.inr (Or.inl ⟨rfl, fun w2 G => ?_⟩))
  · have h2 := h.out G
    refine mo_count (d := d + 1296) h2.2.2.1.1 h2.2.2.1.2.2.1 (fun _ w3 G3 e0 => ⟨_, rfl, fun _ => ?_, e0, (h2.mO G3).J (by omega) (by omega)⟩) (fun q => absurd z q)
    rw [h2.2.2.1.2.1.1, h.2.1.2.2.1.2.1]
  · have h2 := h.tw.out G
    exact mo_count (d := d + 1296) h2.2.2.1.1 h2.2.2.1.2.2.1 (fun q => absurd q z) (fun _ v w3 G3 e0 => ⟨_, rfl, fun q => (by cases q), e0, (h2.mO G3).J (by omega) (by omega)⟩)
theorem la_fun {x what : Int} (h : lS b t B pr nI L D e c s w) : bm_Call bm_pg (d + 1300) y_X11_fun [bm_r (some b), bm_i x, bm_i what] w (laF b t c s d y_X12_fun_ [bm_r (some (t + 122)), bm_i x, bm_i what] "java/lang/IndexOutOfBoundsException" E2) := by
  refine co_fun (d := d + 1295) h.2.1.1 h.1.1 (fun z w1 G1 Z1 => Or.inl ⟨_, rfl, fun w2 G => ?_⟩) (fun z => Or.inr (Or.inl ⟨rfl, fun w2 G => ?_⟩))
  · have h2 := (h.cO G1 Z1).out G
    exact mo_fun (d := d + 1294) h2.2.2.1.1 h2.1.1 (fun _ w3 G3 e0 => ⟨_, rfl, fun _ => rfl, e0, (h2.mO G3).J (by omega) (by omega)⟩) (fun q => absurd z q)
  · have h2 := h.tw.out G
    exact mo_fun (d := d + 1294) h2.2.2.1.1 h2.1.1 (fun q => absurd q z) (fun _ v w3 G3 e0 => ⟨_, rfl, fun q => (by cases q), e0, (h2.mO G3).J (by omega) (by omega)⟩)
theorem la_call {f x y z : Int} (h : lS b t B pr nI L D e c s w) : bm_Call bm_pg (d + 1300) y_X11_call [bm_r (some b), bm_i f, bm_i x, bm_i y, bm_i z] w (laF b t c s d y_X12_call_ [bm_r (some (t + 122)), bm_i f, bm_i x, bm_i y, bm_i z] "java/lang/IndexOutOfBoundsException" "java/lang/IllegalStateException") := by
  refine co_call (d := d + 1275) h.2.1.1 (fun v z q w1 G1 Z1 => Or.inl ⟨_, rfl, fun w2 G => ?_⟩) (fun z q w1 G1 Z1 => Or.inr (Or.inr ⟨rfl, fun w2 G => ?_⟩)) (fun z => Or.inr (Or.inl ⟨rfl, fun w2 G => ?_⟩))
  · have h2 := (h.cO G1 Z1).out G
    exact mo_call (d := d + 98) h2.2.2.1.1 (fun v' _ q' w3 G3 e0 => ⟨_, rfl, fun _ => by rw [q] at q'; injection q' with q'; rw [q'], e0, (h2.mO G3).J (by omega) (by omega)⟩) (fun _ q' => by rw [q] at q'; cases q') (fun q' => absurd z q')
  · have h2 := (h.cO G1 Z1).out G
    exact mo_call (d := d + 98) h2.2.2.1.1 (fun v' _ q' => by rw [q] at q'; cases q') (fun _ q' w3 G3 e0 => ⟨_, rfl, fun q => (by cases q), e0, (h2.mO G3).J (by omega) (by omega)⟩) (fun q' => absurd z q')
  · have h2 := h.tw.out G
    exact mo_call (d := d + 98) h2.2.2.1.1 (fun v' q => absurd q z) (fun q => absurd q z) (fun _ w3 G3 e0 => ⟨_, rfl, fun q => (by cases q), e0, (h2.mO G3).J (by omega) (by omega)⟩)
theorem la_callChanged {f pl x y z : Int} (h : lS b t B pr nI L D e c s w) : bm_Call bm_pg (d + 1300) y_X11_callChanged [bm_r (some b), bm_i f, bm_i pl, bm_i x, bm_i y, bm_i z] w (laF b t c s d y_X12_callChanged [bm_r (some (t + 122)), bm_i f, bm_i pl, bm_i x, bm_i y, bm_i z] "java/lang/IndexOutOfBoundsException" "java/lang/IllegalStateException") := by
  refine co_callChanged (d := d + 1275) h.2.1.1 (fun v z q w1 G1 Z1 => Or.inl ⟨_, rfl, fun w2 G => ?_⟩) (fun z q w1 G1 Z1 => Or.inr (Or.inr ⟨rfl, fun w2 G => ?_⟩)) (fun z => Or.inr (Or.inl ⟨rfl, fun w2 G => ?_⟩))
  · have h2 := (h.cO G1 Z1).out G
    exact mo_callChanged (d := d + 98) h2.2.2.1.1 h.2.1.1.pls (fun v' _ q' w3 G3 e0 => ⟨_, rfl, fun _ => by rw [q] at q'; injection q' with q'; rw [q'], e0, (h2.mO G3).J (by omega) (by omega)⟩) (fun _ q' => by rw [q] at q'; cases q') (fun q' => absurd z q')
  · have h2 := (h.cO G1 Z1).out G
    exact mo_callChanged (d := d + 98) h2.2.2.1.1 h.2.1.1.pls (fun v' _ q' => by rw [q] at q'; cases q') (fun _ q' w3 G3 e0 => ⟨_, rfl, fun q => (by cases q), e0, (h2.mO G3).J (by omega) (by omega)⟩) (fun q' => absurd z q')
  · have h2 := h.tw.out G
    exact mo_callChanged (d := d + 98) h2.2.2.1.1 h.2.1.1.pls (fun v' q => absurd q z) (fun q => absurd q z) (fun _ w3 G3 e0 => ⟨_, rfl, fun q => (by cases q), e0, (h2.mO G3).J (by omega) (by omega)⟩)
theorem la_inputOf {f k i : Int} (h : lS b t B pr nI L D e c s w) : bm_Call bm_pg (d + 1300) y_X11_inputOf [bm_r (some b), bm_i f, bm_i k, bm_i i] w (laF b t c s d y_X12_inputOf [bm_r (some (t + 122)), bm_i f, bm_i k, bm_i i] "java/lang/IndexOutOfBoundsException" E2) := by
  refine co_inputOf (d := d + 1295) h.2.1.1 (fun z => Or.inl ⟨_, rfl, fun w2 G => ?_⟩) (fun z => Or.inr (Or.inl ⟨rfl, fun w2 G => ?_⟩))
  · have h2 := h.out G
    exact mo_inputOf (d := d + 1297) h2.2.2.1.1 (fun _ w3 G3 e0 => ⟨_, rfl, fun _ => rfl, e0, (h2.mO G3).J (by omega) (by omega)⟩) (fun q => absurd z q)
  · have h2 := h.tw.out G
    exact mo_inputOf (d := d + 1297) h2.2.2.1.1 (fun q => absurd q z) (fun _ v w3 G3 e0 => ⟨_, rfl, fun q => (by cases q), e0, (h2.mO G3).J (by omega) (by omega)⟩)
theorem la_propose {x : Int} (h : lS b t B pr nI L D e c s w) : bm_Call bm_pg (d + 1300) y_X11_propose [bm_r (some b), bm_i x] w (laF b t c s d y_X12_propose [bm_r (some (t + 122)), bm_i x] "java/lang/IndexOutOfBoundsException" E2) := by
  refine co_propose (d := d + 1295) h.2.1.1 h.1.1 (fun z w1 G1 Z1 => Or.inl ⟨_, rfl, fun w2 G => ?_⟩) (fun z => Or.inr (Or.inl ⟨rfl, fun w2 G => ?_⟩))
  · have h2 := (h.cO G1 Z1).out G
    exact mo_propose (d := d + 1295) h2.2.2.1.1 (fun _ w3 G3 e0 => ⟨_, rfl, fun _ => rfl, e0, (h2.mO G3).J (by omega) (by omega)⟩) (fun q => absurd z q)
  · have h2 := h.tw.out G
    exact mo_propose (d := d + 1295) h2.2.2.1.1 (fun q => absurd q z) (fun _ v w3 G3 e0 => ⟨_, rfl, fun q => (by cases q), e0, (h2.mO G3).J (by omega) (by omega)⟩)
theorem la_table {x what : Int} (h : lS b t B pr nI L D e c s w) : bm_Call bm_pg (d + 1300) y_X11_table [bm_r (some b), bm_i x, bm_i what] w (laF b t c s d y_X12_table_ [bm_r (some (t + 122)), bm_i x, bm_i what] "java/lang/IndexOutOfBoundsException" E2) := by
  refine co_table (d := d + 1273) h.2.1.1 (fun z w1 G1 Z1 => Or.inl ⟨_, rfl, fun w2 G => ?_⟩) (fun z => Or.inr (Or.inl ⟨rfl, fun w2 G => ?_⟩))
  · have h2 := (h.cO G1 Z1).out G
    exact mo_table (d := d + 96) h2.2.2.1.1 h2.2.2.1.2.2.2.1 (fun _ w3 G3 e0 => ⟨_, rfl, fun _ => rfl, e0, (h2.mO G3).J (by omega) (by omega)⟩) (fun q => absurd z q)
  · have h2 := h.tw.out G
    exact mo_table (d := d + 96) h2.2.2.1.1 h2.2.2.1.2.2.2.1 (fun q => absurd q z) (fun _ v w3 G3 e0 => ⟨_, rfl, fun q => (by cases q), e0, (h2.mO G3).J (by omega) (by omega)⟩)
theorem la_caseOf {x k i : Int} (h : lS b t B pr nI L D e c s w) : bm_Call bm_pg (d + 1300) y_X11_caseOf [bm_r (some b), bm_i x, bm_i k, bm_i i] w (laF b t c s d y_X12_caseOf [bm_r (some (t + 122)), bm_i x, bm_i k, bm_i i] "java/lang/IndexOutOfBoundsException" E2) := by
  refine co_caseOf (d := d + 1294) h.2.1.1 (fun z => Or.inl ⟨_, rfl, fun w2 G => ?_⟩) (fun z => Or.inr (Or.inl ⟨rfl, fun w2 G => ?_⟩))
  · have h2 := h.out G
    exact mo_caseOf (d := d + 1296) h2.2.2.1.1 (fun _ w3 G3 e0 => ⟨_, rfl, fun _ => rfl, e0, (h2.mO G3).J (by omega) (by omega)⟩) (fun q => absurd z q)
  · have h2 := h.tw.out G
    exact mo_caseOf (d := d + 1296) h2.2.2.1.1 (fun q => absurd q z) (fun _ v w3 G3 e0 => ⟨_, rfl, fun q => (by cases q), e0, (h2.mO G3).J (by omega) (by omega)⟩)
theorem la_holds {x k : Int} (h : lS b t B pr nI L D e c s w) : bm_Call bm_pg (d + 1300) y_X11_holds [bm_r (some b), bm_i x, bm_i k] w (laF b t c s d y_X12_holds_ [bm_r (some (t + 122)), bm_i x, bm_i k] "java/lang/IndexOutOfBoundsException" E2) := by
  refine co_holds (d := d + 1273) h.2.1.1 (fun z w1 G1 Z1 => Or.inl ⟨_, rfl, fun w2 G => ?_⟩) (fun z => Or.inr (Or.inl ⟨rfl, fun w2 G => ?_⟩))
  · have h2 := (h.cO G1 Z1).out G
    exact mo_holds (d := d + 97) h2.2.2.1.1 (fun _ w3 G3 e0 => ⟨_, rfl, fun _ => rfl, e0, (h2.mO G3).J (by omega) (by omega)⟩) (fun q => absurd z q)
  · have h2 := h.tw.out G
    exact mo_holds (d := d + 97) h2.2.2.1.1 (fun q => absurd q z) (fun _ v w3 G3 e0 => ⟨_, rfl, fun q => (by cases q), e0, (h2.mO G3).J (by omega) (by omega)⟩)
theorem la_taken {x v : Int} (h : lS b t B pr nI L D e c s w) : bm_Call bm_pg (d + 1300) y_X11_taken [bm_r (some b), bm_i x, bm_i v] w (laF b t c s d y_X12_taken [bm_r (some (t + 122)), bm_i x, bm_i v] "java/lang/IndexOutOfBoundsException" E2) := by
  refine co_taken (d := d + 1273) h.2.1.1 h.2.1.2.2.2.1 h.1.2.1 (fun z w1 G1 Z1 => Or.inl ⟨_, rfl, fun w2 G => ?_⟩) (fun z => Or.inr (Or.inl ⟨rfl, fun w2 G => ?_⟩))
  · have h2 := (h.cO G1 Z1).out G
    exact mo_taken (d := d + 97) h2.2.2.1.1 h2.2.2.1.2.2.1 h.1.2.1 h2.2.2.1.2.2.2.1 (fun _ w3 G3 e0 => ⟨_, rfl, fun _ => rfl, e0, (h2.mO G3).J (by omega) (by omega)⟩) (fun q => absurd z q)
  · have h2 := h.tw.out G
    exact mo_taken (d := d + 97) h2.2.2.1.1 h2.2.2.1.2.2.1 h.1.2.1 h2.2.2.1.2.2.2.1 (fun q => absurd q z) (fun _ v w3 G3 e0 => ⟨_, rfl, fun q => (by cases q), e0, (h2.mO G3).J (by omega) (by omega)⟩)
theorem la_finds {x p : Int} (h : lS b t B pr nI L D e c s w) : bm_Call bm_pg (d + 1300) y_X11_finds [bm_r (some b), bm_i x, bm_i p] w (laF b t c s d y_X12_finds [bm_r (some (t + 122)), bm_i x, bm_i p] "java/lang/IndexOutOfBoundsException" E2) := by
  refine co_finds (d := d + 1273) h.2.1.1 h.2.1.2.1 (fun z w1 G1 Z1 S1 => Or.inl ⟨_, rfl, fun w2 G => ?_⟩) (fun z => Or.inr (Or.inl ⟨rfl, fun w2 G => ?_⟩))
  · have h2 := (h.cS G1 Z1 S1).out G
    exact mo_finds (d := d + 96) h2.2.2.1.1 h.2.1.1.pls (fun _ w3 G3 e0 => ⟨_, rfl, fun _ => rfl, e0, (h2.mO G3).J (by omega) (by omega)⟩) (fun q => absurd z q)
  · have h2 := h.tw.out G
    exact mo_finds (d := d + 96) h2.2.2.1.1 h.2.1.1.pls (fun q => absurd q z) (fun _ v w3 G3 e0 => ⟨_, rfl, fun q => (by cases q), e0, (h2.mO G3).J (by omega) (by omega)⟩)
theorem la_score {x : Int} (h : lS b t B pr nI L D e c s w) : bm_Call bm_pg (d + 1300) y_X11_score [bm_r (some b), bm_i x] w (laF b t c s d y_X12_score [bm_r (some (t + 122)), bm_i x] "java/lang/IndexOutOfBoundsException" E2) := by
  refine co_score (d := d + 1273) h.2.1.1 h.2.1.2.1 (fun z w1 G1 Z1 S1 => Or.inl ⟨_, rfl, fun w2 G => ?_⟩) (fun z => Or.inr (Or.inl ⟨rfl, fun w2 G => ?_⟩))
  · have h2 := (h.cS G1 Z1 S1).out G
    exact mo_score (d := d + 95) h2.2.2.1.1 h.2.1.1.pls (fun _ w3 G3 e0 => ⟨_, rfl, fun _ => rfl, e0, (h2.mO G3).J (by omega) (by omega)⟩) (fun q => absurd z q)
  · have h2 := h.tw.out G
    exact mo_score (d := d + 95) h2.2.2.1.1 h.2.1.1.pls (fun q => absurd q z) (fun _ v w3 G3 e0 => ⟨_, rfl, fun q => (by cases q), e0, (h2.mO G3).J (by omega) (by omega)⟩)
end LS

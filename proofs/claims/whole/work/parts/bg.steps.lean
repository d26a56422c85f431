/-! ===== the law's steps, both sides ===== -/
section IN
variable {pr : y_pr} {k : Nat}
theorem y_inr_gp (hin : y_inr pr) (hk : k < pr.2.length) (hf : y_fk (y_tF pr k).2.1) : y_inr (y_gp pr k) := fun j hj i hi c hc => by
  rw [y_gp_len] at hj
  rw [y_gp_F hk]
  rw [y_gp_r hk] at hi ⊢
  by_cases e : j = k
  · subst e
    rw [if_pos rfl] at hi ⊢
    rw [List.length_append, List.length_singleton] at hi
    by_cases z : i < (pr.2.getD j y_t0).2.2.length
    · rw [q_gdl z]
      exact hin j hj i z c hc
    · rw [q_gde (by omega), y_gR_c hf]
      have v := s_val_rng (k := y_pp pr (pr.2.getD j y_t0).2.1) (i := c) (y_rg_lk hf)
      exact ⟨v.2.2.1, v.2.2.2⟩
  · rw [if_neg e] at hi ⊢
    exact hin j hj i hi c hc
theorem s_sh_mem {D : q_D} {P : Nat} {R : y_rw} : ∀ (n : Nat) (rows : List y_rw), R ∈ s_sh D P n rows → R ∈ rows
  | 0, rows, h => h
  | n + 1, rows, h => by
    rw [s_sh_s] at h
    split at h
    · split at h
      · exact List.mem_of_mem_eraseIdx (s_sh_mem n _ h)
      · exact s_sh_mem n _ h
    · exact h
theorem y_inr_st {rows : List y_rw} (hin : y_inr pr) (hk : k < pr.2.length) (hr : ∀ R, R ∈ rows → R ∈ (pr.2.getD k y_t0).2.2) : y_inr (y_st pr k rows) := fun j hj i hi c hc => by
  rw [y_st_len] at hj
  rw [y_st_F hk]
  rw [y_st_r hk] at hi ⊢
  by_cases e : j = k
  · subst e
    rw [if_pos rfl] at hi ⊢
    have e1 : rows.getD i y_r0 = rows[i] := by rw [List.getD_eq_getElem?_getD, List.getElem?_eq_getElem hi]; rfl
    obtain ⟨i', hi', e2⟩ := List.getElem_of_mem (hr rows[i] (List.getElem_mem hi))
    have e3 : (pr.2.getD j y_t0).2.2.getD i' y_r0 = rows[i] := by rw [List.getD_eq_getElem?_getD, List.getElem?_eq_getElem hi', e2]; rfl
    rw [e1, ← e3]
    exact hin j hj i' hi' c hc
  · rw [if_neg e] at hi ⊢
    exact hin j hj i hi c hc
end IN
/-- what the model's turn must come to -/
def laN (b t d Y : Nat) (as : List bm_V) (mc ms lm : Nat) (k : Int) (v : bm_V) (w1 : bm_W) : Prop := ∀ w2, lO t w1 w2 → bm_Call bm_pg (d + 1300) Y as w2 (fun r w3 => lR t mc ms w2 w3 ∧ ∃ u, r = .inl (some u) ∧ (k = 0 → u = v) ∧ bm_gi w3 (t + 122) 0 = k ∧ ∃ L', L' ≤ lm ∧ lJ b t L' w3)
/-- what the class's turn comes to -/
def laF (b t d Y : Nat) (as : List bm_V) (mc ms lm : Nat) (E1 E2 : String) (w : bm_W) (r : bm_Rt) (w1 : bm_W) : Prop := lE 340 1100 w w1 ∧ ((∃ v, r = .inl (some v) ∧ laN b t d Y as mc ms lm 0 v w1) ∨ (r = .inr E1 ∧ ∀ z, bm_sz w ≤ z → laN b t d Y as mc ms lm 1 (bm_i 0) (lU z w1)) ∨ (r = .inr E2 ∧ ∀ z, bm_sz w ≤ z → laN b t d Y as mc ms lm 2 (bm_i 0) (lU z w1)))
/-- what the class's turn comes to, where nothing is thrown -/
def laG (b t d Y : Nat) (as : List bm_V) (mc ms lm : Nat) (w : bm_W) (r : bm_Rt) (w1 : bm_W) : Prop := lE 340 1100 w w1 ∧ ∃ v, r = .inl (some v) ∧ laN b t d Y as mc ms lm 0 v w1
section LS
variable {d b t nI L c s x y c' s' mc ms lm Y : Nat} {as : List bm_V} {v : bm_V} {B : Int → Int} {pr pr' : y_pr} {D : Nat → Int} {e : Int} {w w1 w' : bm_W} {E1 E2 : String}
theorem lE_tw : lE 340 1100 w (bm_tw w) := cO.rom (t := 0) cO.t0 (by decide) (by decide)
theorem laF.ok (he : lE 340 1100 w w1) (h : laN b t d Y as mc ms lm 0 v w1) : laF b t d Y as mc ms lm E1 E2 w (.inl (some v)) w1 := ⟨he, Or.inl ⟨v, rfl, h⟩⟩
theorem laF.x1 (he : lE 340 1100 w w1) (h : ∀ z, bm_sz w ≤ z → laN b t d Y as mc ms lm 1 (bm_i 0) (lU z w1)) : laF b t d Y as mc ms lm E1 E2 w (.inr E1) w1 := ⟨he, Or.inr (Or.inl ⟨rfl, h⟩)⟩
theorem laF.x2 (he : lE 340 1100 w w1) (h : ∀ z, bm_sz w ≤ z → laN b t d Y as mc ms lm 2 (bm_i 0) (lU z w1)) : laF b t d Y as mc ms lm E1 E2 w (.inr E2) w1 := ⟨he, Or.inr (Or.inr ⟨rfl, h⟩)⟩
theorem la_count {x : Int} (h : lS b t B pr nI L D e w) : bm_Call bm_pg (d + 1300) y_X11_count [bm_r (some b), bm_i x] w (laF b t d y_X12_count [bm_r (some (t + 122)), bm_i x] 50 6920 (L + 20) "java/lang/IndexOutOfBoundsException" E2 w) := by
  refine co_count (d := d + 1297) h.2.1.1 h.2.1.2.2.2.1 (fun z => laF.ok lE.rf (fun w2 G => ?_)) (fun z => laF.x1 lE_tw (fun z0 hz w2 G => ?_))
  · have h2 := h.out G
    refine mo_count (d := d + 1296) h2.2.2.1 h2.2.2.2.2.1 (fun _ w3 G3 e0 => ⟨G3.1.rot h2.2.1.sz.1 (fun a z => by omega) (by decide) (by decide), _, rfl, fun _ => ?_, e0, L, by omega, (h2.mO G3).J⟩) (fun q => absurd z q)
    rw [h2.2.2.2.1.1, h.2.1.2.2.1.2.1]
  · have h2 := (lS_x0 h hz).out G
    exact mo_count (d := d + 1296) h2.2.2.1 h2.2.2.2.2.1 (fun q => absurd q z) (fun _ v w3 G3 e0 => ⟨G3.1.rot h2.2.1.sz.1 (fun a z => by omega) (by decide) (by decide), _, rfl, fun q => (by cases q), e0, L, by omega, (h2.mO G3).J⟩)
theorem la_fun {x what : Int} (h : lS b t B pr nI L D e w) : bm_Call bm_pg (d + 1300) y_X11_fun [bm_r (some b), bm_i x, bm_i what] w (laF b t d y_X12_fun_ [bm_r (some (t + 122)), bm_i x, bm_i what] 50 6920 (L + 20) "java/lang/IndexOutOfBoundsException" E2 w) := by
  refine co_fun (d := d + 1295) h.2.1.1 h.1.1 (fun z w1 G1 Z1 => laF.ok (G1.rom (by decide) (by decide)) (fun w2 G => ?_)) (fun z => laF.x1 lE_tw (fun z0 hz w2 G => ?_))
  · have h2 := (h.cO G1 Z1).out G
    exact mo_fun (d := d + 1294) h2.2.2.1 h2.1.1 (fun _ w3 G3 e0 => ⟨G3.1.rot h2.2.1.sz.1 (fun a z => by omega) (by decide) (by decide), _, rfl, fun _ => rfl, e0, L, by omega, (h2.mO G3).J⟩) (fun q => absurd z q)
  · have h2 := (lS_x0 h hz).out G
    exact mo_fun (d := d + 1294) h2.2.2.1 h2.1.1 (fun q => absurd q z) (fun _ v w3 G3 e0 => ⟨G3.1.rot h2.2.1.sz.1 (fun a z => by omega) (by decide) (by decide), _, rfl, fun q => (by cases q), e0, L, by omega, (h2.mO G3).J⟩)
theorem la_call {f x y z : Int} (h : lS b t B pr nI L D e w) : bm_Call bm_pg (d + 1300) y_X11_call [bm_r (some b), bm_i f, bm_i x, bm_i y, bm_i z] w (laF b t d y_X12_call_ [bm_r (some (t + 122)), bm_i f, bm_i x, bm_i y, bm_i z] 50 6920 (L + 20) "java/lang/IndexOutOfBoundsException" "java/lang/IllegalStateException" w) := by
  refine co_call (d := d + 1275) h.2.1.1 (fun v z q w1 G1 Z1 => laF.ok (G1.rom (by decide) (by decide)) (fun w2 G => ?_)) (fun z q w1 G1 Z1 => laF.x2 (G1.rom (by decide) (by decide)) (fun z0 hz w2 G => ?_)) (fun z => laF.x1 lE_tw (fun z0 hz w2 G => ?_))
  · have h2 := (h.cO G1 Z1).out G
    exact mo_call (d := d + 98) h2.2.2.1 (fun v' _ q' w3 G3 e0 => ⟨G3.1.rot h2.2.1.sz.1 (fun a z => by omega) (by decide) (by decide), _, rfl, fun _ => by rw [q] at q'; injection q' with q'; rw [q'], e0, L, by omega, (h2.mO G3).J⟩) (fun _ q' => by rw [q] at q'; cases q') (fun q' => absurd z q')
  · have h2 := (lS_thr h G1 Z1 hz).out G
    exact mo_call (d := d + 98) h2.2.2.1 (fun v' _ q' => by rw [q] at q'; cases q') (fun _ q' w3 G3 e0 => ⟨G3.1.rot h2.2.1.sz.1 (fun a z => by omega) (by decide) (by decide), _, rfl, fun q => (by cases q), e0, L, by omega, (h2.mO G3).J⟩) (fun q' => absurd z q')
  · have h2 := (lS_x0 h hz).out G
    exact mo_call (d := d + 98) h2.2.2.1 (fun v' q => absurd q z) (fun q => absurd q z) (fun _ w3 G3 e0 => ⟨G3.1.rot h2.2.1.sz.1 (fun a z => by omega) (by decide) (by decide), _, rfl, fun q => (by cases q), e0, L, by omega, (h2.mO G3).J⟩)
theorem la_callChanged {f pl x y z : Int} (h : lS b t B pr nI L D e w) : bm_Call bm_pg (d + 1300) y_X11_callChanged [bm_r (some b), bm_i f, bm_i pl, bm_i x, bm_i y, bm_i z] w (laF b t d y_X12_callChanged [bm_r (some (t + 122)), bm_i f, bm_i pl, bm_i x, bm_i y, bm_i z] 50 6920 (L + 20) "java/lang/IndexOutOfBoundsException" "java/lang/IllegalStateException" w) := by
  refine co_callChanged (d := d + 1275) h.2.1.1 (fun v z q w1 G1 Z1 => laF.ok (G1.rom (by decide) (by decide)) (fun w2 G => ?_)) (fun z q w1 G1 Z1 => laF.x2 (G1.rom (by decide) (by decide)) (fun z0 hz w2 G => ?_)) (fun z => laF.x1 lE_tw (fun z0 hz w2 G => ?_))
  · have h2 := (h.cO G1 Z1).out G
    exact mo_callChanged (d := d + 98) h2.2.2.1 h.2.1.1.pls (fun v' _ q' w3 G3 e0 => ⟨G3.1.rot h2.2.1.sz.1 (fun a z => by omega) (by decide) (by decide), _, rfl, fun _ => by rw [q] at q'; injection q' with q'; rw [q'], e0, L, by omega, (h2.mO G3).J⟩) (fun _ q' => by rw [q] at q'; cases q') (fun q' => absurd z q')
  · have h2 := (lS_thr h G1 Z1 hz).out G
    exact mo_callChanged (d := d + 98) h2.2.2.1 h.2.1.1.pls (fun v' _ q' => by rw [q] at q'; cases q') (fun _ q' w3 G3 e0 => ⟨G3.1.rot h2.2.1.sz.1 (fun a z => by omega) (by decide) (by decide), _, rfl, fun q => (by cases q), e0, L, by omega, (h2.mO G3).J⟩) (fun q' => absurd z q')
  · have h2 := (lS_x0 h hz).out G
    exact mo_callChanged (d := d + 98) h2.2.2.1 h.2.1.1.pls (fun v' q => absurd q z) (fun q => absurd q z) (fun _ w3 G3 e0 => ⟨G3.1.rot h2.2.1.sz.1 (fun a z => by omega) (by decide) (by decide), _, rfl, fun q => (by cases q), e0, L, by omega, (h2.mO G3).J⟩)
theorem la_inputOf {f k i : Int} (h : lS b t B pr nI L D e w) : bm_Call bm_pg (d + 1300) y_X11_inputOf [bm_r (some b), bm_i f, bm_i k, bm_i i] w (laF b t d y_X12_inputOf [bm_r (some (t + 122)), bm_i f, bm_i k, bm_i i] 50 6920 (L + 20) "java/lang/IndexOutOfBoundsException" E2 w) := by
  refine co_inputOf (d := d + 1295) h.2.1.1 (fun z => laF.ok lE.rf (fun w2 G => ?_)) (fun z => laF.x1 lE_tw (fun z0 hz w2 G => ?_))
  · have h2 := h.out G
    exact mo_inputOf (d := d + 1297) h2.2.2.1 (fun _ w3 G3 e0 => ⟨G3.1.rot h2.2.1.sz.1 (fun a z => by omega) (by decide) (by decide), _, rfl, fun _ => rfl, e0, L, by omega, (h2.mO G3).J⟩) (fun q => absurd z q)
  · have h2 := (lS_x0 h hz).out G
    exact mo_inputOf (d := d + 1297) h2.2.2.1 (fun q => absurd q z) (fun _ v w3 G3 e0 => ⟨G3.1.rot h2.2.1.sz.1 (fun a z => by omega) (by decide) (by decide), _, rfl, fun q => (by cases q), e0, L, by omega, (h2.mO G3).J⟩)
theorem la_propose {x : Int} (h : lS b t B pr nI L D e w) : bm_Call bm_pg (d + 1300) y_X11_propose [bm_r (some b), bm_i x] w (laF b t d y_X12_propose [bm_r (some (t + 122)), bm_i x] 50 6920 (L + 20) "java/lang/IndexOutOfBoundsException" E2 w) := by
  refine co_propose (d := d + 1295) h.2.1.1 h.1.1 (fun z w1 G1 Z1 => laF.ok (G1.rom (by decide) (by decide)) (fun w2 G => ?_)) (fun z => laF.x1 lE_tw (fun z0 hz w2 G => ?_))
  · have h2 := (h.cO G1 Z1).out G
    exact mo_propose (d := d + 1295) h2.2.2.1 (fun _ w3 G3 e0 => ⟨G3.1.rot h2.2.1.sz.1 (fun a z => by omega) (by decide) (by decide), _, rfl, fun _ => rfl, e0, L, by omega, (h2.mO G3).J⟩) (fun q => absurd z q)
  · have h2 := (lS_x0 h hz).out G
    exact mo_propose (d := d + 1295) h2.2.2.1 (fun q => absurd q z) (fun _ v w3 G3 e0 => ⟨G3.1.rot h2.2.1.sz.1 (fun a z => by omega) (by decide) (by decide), _, rfl, fun q => (by cases q), e0, L, by omega, (h2.mO G3).J⟩)
theorem la_table {x what : Int} (h : lS b t B pr nI L D e w) : bm_Call bm_pg (d + 1300) y_X11_table [bm_r (some b), bm_i x, bm_i what] w (laF b t d y_X12_table_ [bm_r (some (t + 122)), bm_i x, bm_i what] 50 6920 (L + 20) "java/lang/IndexOutOfBoundsException" E2 w) := by
  refine co_table (d := d + 1273) h.2.1.1 (fun z w1 G1 Z1 => laF.ok (G1.rom (by decide) (by decide)) (fun w2 G => ?_)) (fun z => laF.x1 lE_tw (fun z0 hz w2 G => ?_))
  · have h2 := (h.cO G1 Z1).out G
    exact mo_table (d := d + 96) h2.2.2.1 h2.2.2.2.2.2.1 (fun _ w3 G3 e0 => ⟨G3.1.rot h2.2.1.sz.1 (fun a z => by omega) (by decide) (by decide), _, rfl, fun _ => rfl, e0, L, by omega, (h2.mO G3).J⟩) (fun q => absurd z q)
  · have h2 := (lS_x0 h hz).out G
    exact mo_table (d := d + 96) h2.2.2.1 h2.2.2.2.2.2.1 (fun q => absurd q z) (fun _ v w3 G3 e0 => ⟨G3.1.rot h2.2.1.sz.1 (fun a z => by omega) (by decide) (by decide), _, rfl, fun q => (by cases q), e0, L, by omega, (h2.mO G3).J⟩)
theorem la_caseOf {x k i : Int} (h : lS b t B pr nI L D e w) : bm_Call bm_pg (d + 1300) y_X11_caseOf [bm_r (some b), bm_i x, bm_i k, bm_i i] w (laF b t d y_X12_caseOf [bm_r (some (t + 122)), bm_i x, bm_i k, bm_i i] 50 6920 (L + 20) "java/lang/IndexOutOfBoundsException" E2 w) := by
  refine co_caseOf (d := d + 1294) h.2.1.1 (fun z => laF.ok lE.rf (fun w2 G => ?_)) (fun z => laF.x1 lE_tw (fun z0 hz w2 G => ?_))
  · have h2 := h.out G
    exact mo_caseOf (d := d + 1296) h2.2.2.1 (fun _ w3 G3 e0 => ⟨G3.1.rot h2.2.1.sz.1 (fun a z => by omega) (by decide) (by decide), _, rfl, fun _ => rfl, e0, L, by omega, (h2.mO G3).J⟩) (fun q => absurd z q)
  · have h2 := (lS_x0 h hz).out G
    exact mo_caseOf (d := d + 1296) h2.2.2.1 (fun q => absurd q z) (fun _ v w3 G3 e0 => ⟨G3.1.rot h2.2.1.sz.1 (fun a z => by omega) (by decide) (by decide), _, rfl, fun q => (by cases q), e0, L, by omega, (h2.mO G3).J⟩)
theorem la_holds {x k : Int} (h : lS b t B pr nI L D e w) : bm_Call bm_pg (d + 1300) y_X11_holds [bm_r (some b), bm_i x, bm_i k] w (laF b t d y_X12_holds_ [bm_r (some (t + 122)), bm_i x, bm_i k] 50 6920 (L + 20) "java/lang/IndexOutOfBoundsException" E2 w) := by
  refine co_holds (d := d + 1273) h.2.1.1 (fun z w1 G1 Z1 => laF.ok (G1.rom (by decide) (by decide)) (fun w2 G => ?_)) (fun z => laF.x1 lE_tw (fun z0 hz w2 G => ?_))
  · have h2 := (h.cO G1 Z1).out G
    exact mo_holds (d := d + 97) h2.2.2.1 (fun _ w3 G3 e0 => ⟨G3.1.rot h2.2.1.sz.1 (fun a z => by omega) (by decide) (by decide), _, rfl, fun _ => rfl, e0, L, by omega, (h2.mO G3).J⟩) (fun q => absurd z q)
  · have h2 := (lS_x0 h hz).out G
    exact mo_holds (d := d + 97) h2.2.2.1 (fun q => absurd q z) (fun _ v w3 G3 e0 => ⟨G3.1.rot h2.2.1.sz.1 (fun a z => by omega) (by decide) (by decide), _, rfl, fun q => (by cases q), e0, L, by omega, (h2.mO G3).J⟩)
theorem la_taken {x v : Int} (h : lS b t B pr nI L D e w) : bm_Call bm_pg (d + 1300) y_X11_taken [bm_r (some b), bm_i x, bm_i v] w (laF b t d y_X12_taken [bm_r (some (t + 122)), bm_i x, bm_i v] 50 6920 (L + 20) "java/lang/IndexOutOfBoundsException" E2 w) := by
  refine co_taken (d := d + 1273) h.2.1.1 h.2.1.2.2.2.1 h.1.2.1 (fun z w1 G1 Z1 => laF.ok (G1.rom (by decide) (by decide)) (fun w2 G => ?_)) (fun z => laF.x1 lE_tw (fun z0 hz w2 G => ?_))
  · have h2 := (h.cO G1 Z1).out G
    exact mo_taken (d := d + 97) h2.2.2.1 h2.2.2.2.2.1 h.1.2.1 h2.2.2.2.2.2.1 (fun _ w3 G3 e0 => ⟨G3.1.rot h2.2.1.sz.1 (fun a z => by omega) (by decide) (by decide), _, rfl, fun _ => rfl, e0, L, by omega, (h2.mO G3).J⟩) (fun q => absurd z q)
  · have h2 := (lS_x0 h hz).out G
    exact mo_taken (d := d + 97) h2.2.2.1 h2.2.2.2.2.1 h.1.2.1 h2.2.2.2.2.2.1 (fun q => absurd q z) (fun _ v w3 G3 e0 => ⟨G3.1.rot h2.2.1.sz.1 (fun a z => by omega) (by decide) (by decide), _, rfl, fun q => (by cases q), e0, L, by omega, (h2.mO G3).J⟩)
theorem la_finds {x p : Int} (h : lS b t B pr nI L D e w) : bm_Call bm_pg (d + 1300) y_X11_finds [bm_r (some b), bm_i x, bm_i p] w (laF b t d y_X12_finds [bm_r (some (t + 122)), bm_i x, bm_i p] 50 6920 (L + 20) "java/lang/IndexOutOfBoundsException" E2 w) := by
  refine co_finds (d := d + 1273) h.2.1.1 h.2.1.2.1 (fun z w1 G1 Z1 S1 => laF.ok (G1.cL.rom (by decide) (by decide)) (fun w2 G => ?_)) (fun z => laF.x1 lE_tw (fun z0 hz w2 G => ?_))
  · have h2 := (h.cS G1 Z1 S1).out G
    exact mo_finds (d := d + 96) h2.2.2.1 h.2.1.1.pls (fun _ w3 G3 e0 => ⟨G3.1.rot h2.2.1.sz.1 (fun a z => by omega) (by decide) (by decide), _, rfl, fun _ => rfl, e0, L, by omega, (h2.mO G3).J⟩) (fun q => absurd z q)
  · have h2 := (lS_x0 h hz).out G
    exact mo_finds (d := d + 96) h2.2.2.1 h.2.1.1.pls (fun q => absurd q z) (fun _ v w3 G3 e0 => ⟨G3.1.rot h2.2.1.sz.1 (fun a z => by omega) (by decide) (by decide), _, rfl, fun q => (by cases q), e0, L, by omega, (h2.mO G3).J⟩)
theorem la_score {x : Int} (h : lS b t B pr nI L D e w) : bm_Call bm_pg (d + 1300) y_X11_score [bm_r (some b), bm_i x] w (laF b t d y_X12_score [bm_r (some (t + 122)), bm_i x] 50 6920 (L + 20) "java/lang/IndexOutOfBoundsException" E2 w) := by
  refine co_score (d := d + 1273) h.2.1.1 h.2.1.2.1 (fun z w1 G1 Z1 S1 => laF.ok (G1.cL.rom (by decide) (by decide)) (fun w2 G => ?_)) (fun z => laF.x1 lE_tw (fun z0 hz w2 G => ?_))
  · have h2 := (h.cS G1 Z1 S1).out G
    exact mo_score (d := d + 95) h2.2.2.1 h.2.1.1.pls (fun _ w3 G3 e0 => ⟨G3.1.rot h2.2.1.sz.1 (fun a z => by omega) (by decide) (by decide), _, rfl, fun _ => rfl, e0, L, by omega, (h2.mO G3).J⟩) (fun q => absurd z q)
  · have h2 := (lS_x0 h hz).out G
    exact mo_score (d := d + 95) h2.2.2.1 h.2.1.1.pls (fun q => absurd q z) (fun _ v w3 G3 e0 => ⟨G3.1.rot h2.2.1.sz.1 (fun a z => by omega) (by decide) (by decide), _, rfl, fun q => (by cases q), e0, L, by omega, (h2.mO G3).J⟩)
end LS

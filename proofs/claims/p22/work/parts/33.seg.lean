/-! ===== what a piece of code comes to ===== -/
/-- a meaning: inputs, change -> value or fault, and the branches taken -/
abbrev q_D : Type := (Nat → Int) → Int → Option Int × List (Int × Bool)
/-- the inputs a b c as a row -/
abbrev q_abc (a b c : Int) : Nat → Int := fun j => if j = 0 then a else if j = 1 then b else if j = 2 then c else 0
/-- counters behind a row of branches -/
def q_bump (on : Int) (b : Bool) : List (Int × Bool) → (Nat → Int) → Nat → Int
  | [], g => g
  | (i, b') :: r, g => q_bump on b r (if on ≠ 0 ∧ 0 ≤ i ∧ i < 54 ∧ b' = b then (fun j => if j = i.toNat then bm_w (g j + 1) else g j) else g)
theorem q_bump_app (on : Int) (b : Bool) : ∀ (t1 t2 : List (Int × Bool)) (g : Nat → Int), q_bump on b (t1 ++ t2) g = q_bump on b t2 (q_bump on b t1 g)
  | [], _, _ => rfl
  | (i, b') :: r, t2, g => q_bump_app on b r t2 _
/-- what a run leaves: its frame, the counters -/
def mc_Q (m : Nat) (tr : List (Int × Bool)) (w w' : bm_W) : Prop := q_fr (fun a => m ≤ a ∧ a ≤ m + 3) w w' ∧ bm_gi w' m 6 = bm_gi w m 6 ∧ (∀ j, bm_gi w' (m + 2) j = q_bump (bm_gi w m 6) true tr (bm_gi w (m + 2)) j) ∧ ∀ j, bm_gi w' (m + 3) j = q_bump (bm_gi w m 6) false tr (bm_gi w (m + 3)) j
/-- with a value on top of n others -/
def mc_R (m n : Nat) (tr : List (Int × Bool)) (v : Int) (w w' : bm_W) : Prop := mc_Q m tr w w' ∧ bm_gi w' m 4 = (n : Int) + 1 ∧ bm_gi w' m 5 = 0 ∧ bm_gl w' (m + 1) n = v ∧ ∀ j, j < n → bm_gl w' (m + 1) j = bm_gl w (m + 1) j
theorem mc_Q.rf {m : Nat} {w : bm_W} : mc_Q m [] w w := ⟨q_fr.rf, rfl, fun _ => rfl, fun _ => rfl⟩
theorem mc_Q.tr {m : Nat} {t1 t2 : List (Int × Bool)} {w w' w2 : bm_W} (h : mc_Q m t1 w w') (h2 : mc_Q m t2 w' w2) : mc_Q m (t1 ++ t2) w w2 := by
  refine ⟨h.1.tr h2.1, h2.2.1.trans h.2.1, fun j => ?_, fun j => ?_⟩
  · rw [h2.2.2.1, h.2.1, q_bump_app, show bm_gi w' (m + 2) = q_bump (bm_gi w m 6) true t1 (bm_gi w (m + 2)) from funext h.2.2.1]
  · rw [h2.2.2.2, h.2.1, q_bump_app, show bm_gi w' (m + 3) = q_bump (bm_gi w m 6) false t1 (bm_gi w (m + 3)) from funext h.2.2.2]
/-- steps that leave the counters alone -/
theorem mc_Q.st {m k : Nat} {u : Int} {t : List (Int × Bool)} {w w' : bm_W} (h : mc_Q m t w w') (hk : k ≠ 6) : mc_Q m t w (bm_si w' m k u) :=
  ⟨h.1.si (by omega), (q_gi_nk (by omega)).trans h.2.1, fun j => (q_gi_ne (by omega)).trans (h.2.2.1 j), fun j => (q_gi_ne (by omega)).trans (h.2.2.2 j)⟩
theorem mc_Q.sq {m k : Nat} {u : Int} {t : List (Int × Bool)} {w w' : bm_W} (h : mc_Q m t w w') : mc_Q m t w (bm_sq w' (m + 1) k u) :=
  ⟨h.1.sq (by omega), h.2.1, h.2.2.1, h.2.2.2⟩
theorem mc_Q.put {m n : Nat} {v : Int} {t : List (Int × Bool)} {w w' : bm_W} (h : mc_Q m t w w') : mc_Q m t w (mc_put w' m n v) := h.sq.st (by decide)
theorem mc_put_4 {w : bm_W} {m n : Nat} {v : Int} : bm_gi (mc_put w m n v) m 4 = (n : Int) + 1 := q_gi_eq
theorem mc_put_k {w : bm_W} {m n k : Nat} {v : Int} (h : k ≠ 4) : bm_gi (mc_put w m n v) m k = bm_gi w m k := q_gi_nk h
theorem mc_put_v {w : bm_W} {m n : Nat} {v : Int} : bm_gl (mc_put w m n v) (m + 1) n = v := q_gl_eq
theorem mc_put_j {w : bm_W} {m n j : Nat} {v : Int} (h : j ≠ n) : bm_gl (mc_put w m n v) (m + 1) j = bm_gl w (m + 1) j := q_gl_nk h
/-- a value laid behind a value: still a value on n others -/
theorem mc_R.put {m n n' : Nat} {v v' : Int} {t : List (Int × Bool)} {w w' : bm_W} (h : mc_Q m t w w') (h5 : bm_gi w' m 5 = 0) (hj : ∀ j, j < n → bm_gl w' (m + 1) j = bm_gl w (m + 1) j) : mc_R m n t v w (mc_put w' m n v) :=
  ⟨h.put, mc_put_4, (mc_put_k (by decide)).trans h5, mc_put_v, fun j q => (mc_put_j (by omega)).trans (hj j q)⟩
/-- the code from c0 to c1 of f means D: wt is what it takes of the stack, dp its depth -/
def q_seg (m p f : Nat) (num : Int) (k : Nat) (w0 : bm_W) (c0 c1 : Nat) (D : q_D) (wt dp : Nat) : Prop :=
  c0 ≤ c1 ∧ ∀ (d : Nat) (Φ : bm_Rt → bm_W → Prop) (base n : Nat) (chg steps : Int) (a : Nat → Int) (w : bm_W), dp ≤ d → q_fr (fun a => m ≤ a ∧ a ≤ m + 3) w0 w → bm_gi w m 5 = 0 → bm_gi w m 4 = (n : Int) → n + wt ≤ 203 → base + k ≤ n → (∀ i, i < k → bm_gl w (m + 1) (base + i) = a i) → 0 ≤ steps → steps ≤ c0 →
    (∀ v, (D a chg).1 = some v → ∀ (w' : bm_W) (steps' : Int), mc_R m n (D a chg).2 v w w' → 0 ≤ steps' → steps' ≤ c1 → bk_X2_run_16 d Φ m num (base : Int) chg f (c1 : Int) steps' w') →
    ((D a chg).1 = none → ∀ w' : bm_W, mc_Q m (D a chg).2 w w' → bm_gi w' m 5 = 1 → Φ (.inl none) w') → bk_X2_run_16 d Φ m num (base : Int) chg f (c0 : Int) steps w
/-- what stands in the code -/
def q_cd (m p f : Nat) (w0 : bm_W) : Prop := sh_Mc m p w0 ∧ sh_Fn f w0 ∧ bm_gi w0 f 7 ≤ 100 ∧ (∀ j, j ≤ 7 → ¬ (m ≤ f + j ∧ f + j ≤ m + 3))
def d_num (v pl : Int) : q_D := fun _ ch => (some (v + if ¬ ch = -1 ∧ pl = ch then 1 else 0), [])
def d_in (i : Nat) : q_D := fun a _ => (some (a i), [])
def d_un (op : Int) (D : q_D) : q_D := fun a ch => ((D a ch).1.map (t_un op), (D a ch).2)
def d_bin (op pl : Int) (D E : q_D) : q_D := fun a ch => match (D a ch).1 with
  | none => (none, (D a ch).2)
  | some x => match (E a ch).1 with
    | none => (none, (D a ch).2 ++ (E a ch).2)
    | some y => (t_bin (if ¬ ch = -1 ∧ pl = ch then t_chg op else op) x y, (D a ch).2 ++ (E a ch).2)
section SEG
variable {m p f : Nat} {num : Int} {k : Nat} {w0 : bm_W}
theorem seg_num (h : q_cd m p f w0) {c : Nat} (hc : (c : Int) < bm_gi w0 f 7) (ho : bm_gi w0 (f + 5) c = 2) (hv : 0 ≤ bm_gi w0 (f + 6) c ∧ bm_gi w0 (f + 6) c ≤ 9999) : q_seg m p f num k w0 c (c + 1) (d_num (bm_gi w0 (f + 6) c) (bm_gi w0 (f + 7) c)) 1 2 := by
  refine ⟨Nat.le_succ c, fun d Φ base n chg steps a w hd hf h5 h4 hn hb ha s0 s1 hS hN => ?_⟩
  obtain ⟨d, rfl⟩ : ∃ d', d = d' + 1 := ⟨d - 1, by omega⟩
  have g5 : bm_gi w (f + 5) c = bm_gi w0 (f + 5) c := hf.gi (h.2.2.2 5 (by decide))
  have g6 : bm_gi w (f + 6) c = bm_gi w0 (f + 6) c := hf.gi (h.2.2.2 6 (by decide))
  have g7 : bm_gi w (f + 7) c = bm_gi w0 (f + 7) c := hf.gi (h.2.2.2 7 (by decide))
  have gL : bm_gi w f 7 = bm_gi w0 f 7 := hf.gi (h.2.2.2 0 (by decide))
  refine rn_number (h.1.fr hf) (h.2.1.fr hf) h5 s0 s1 (by rw [gL]; exact hc) (by rw [gL]; exact h.2.2.1) h4 (by omega) (g5.trans ho) (by rw [g6]; exact hv) ?_
  refine hS _ ?_ _ _ (mc_R.put (n' := n) (v' := 0) mc_Q.rf h5 (fun _ _ => rfl)) (by omega) (by omega)
  show some _ = some _
  rw [g6, ← g7]
theorem seg_in (h : q_cd m p f w0) {c i : Nat} (hc : (c : Int) < bm_gi w0 f 7) (ho : bm_gi w0 (f + 5) c = 34) (hv : bm_gi w0 (f + 6) c = (i : Int)) (hi : i < k) : q_seg m p f num k w0 c (c + 1) (d_in i) 1 2 := by
  refine ⟨Nat.le_succ c, fun d Φ base n chg steps a w hd hf h5 h4 hn hb ha s0 s1 hS hN => ?_⟩
  obtain ⟨d, rfl⟩ : ∃ d', d = d' + 1 := ⟨d - 1, by omega⟩
  have g5 : bm_gi w (f + 5) c = bm_gi w0 (f + 5) c := hf.gi (h.2.2.2 5 (by decide))
  have g6 : bm_gi w (f + 6) c = bm_gi w0 (f + 6) c := hf.gi (h.2.2.2 6 (by decide))
  have gL : bm_gi w f 7 = bm_gi w0 f 7 := hf.gi (h.2.2.2 0 (by decide))
  refine rn_input (h.1.fr hf) (h.2.1.fr hf) h5 s0 s1 (by rw [gL]; exact hc) (by rw [gL]; exact h.2.2.1) h4 (by omega) (g5.trans ho) (g6.trans hv) rfl (by omega) ?_
  refine hS _ ?_ _ _ (mc_R.put (n' := n) (v' := 0) mc_Q.rf h5 (fun _ _ => rfl)) (by omega) (by omega)
  show some _ = some _
  rw [ha i hi]
theorem seg_un (h : q_cd m p f w0) {c0 c1 wt dp : Nat} {D : q_D} (hD : q_seg m p f num k w0 c0 c1 D wt dp) (hc : (c1 : Int) < bm_gi w0 f 7) (ho : bm_gi w0 (f + 5) c1 = 36 ∨ bm_gi w0 (f + 5) c1 = 11 ∨ bm_gi w0 (f + 5) c1 = 37) (hp : bm_gi w0 (f + 7) c1 = -1) (hw : 1 ≤ wt) (hdp : 2 ≤ dp) : q_seg m p f num k w0 c0 (c1 + 1) (d_un (bm_gi w0 (f + 5) c1) D) wt dp := by
  refine ⟨Nat.le_succ_of_le hD.1, fun d Φ base n chg steps a w hd hf h5 h4 hn hb ha s0 s1 hS hN => ?_⟩
  refine hD.2 d Φ base n chg steps a w hd hf h5 h4 hn hb ha s0 s1 (fun v hv w' st' hR t0 t1 => ?_) (fun hv w' hQ h51 => hN (by show ((D a chg).1.map _) = none; rw [hv]; rfl) w' hQ h51)
  obtain ⟨d, rfl⟩ : ∃ d', d = d' + 2 := ⟨d - 2, by omega⟩
  have hf' := hf.tr hR.1.1
  have g5 : bm_gi w' (f + 5) c1 = bm_gi w0 (f + 5) c1 := hf'.gi (h.2.2.2 5 (by decide))
  have g7 : bm_gi w' (f + 7) c1 = bm_gi w0 (f + 7) c1 := hf'.gi (h.2.2.2 7 (by decide))
  have gL : bm_gi w' f 7 = bm_gi w0 f 7 := hf'.gi (h.2.2.2 0 (by decide))
  refine rn_un (h.1.fr hf') (h.2.1.fr hf') hR.2.2.1 t0 t1 (by rw [gL]; exact hc) (by rw [gL]; exact h.2.2.1) hR.2.1 (by omega) (by rw [g5]; exact ho) (g7.trans hp) ?_
  refine hS _ ?_ _ _ (mc_R.put (n' := n) (v' := 0) hR.1 hR.2.2.1 hR.2.2.2.2) (by omega) (by omega)
  show ((D a chg).1.map _) = some _
  rw [hv, g5, hR.2.2.2.1]
  rfl
end SEG

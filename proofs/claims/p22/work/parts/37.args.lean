/-! ===== what arguments come to ===== -/
def d_args : List q_D → (Nat → Int) → Int → Option (List Int) × List (Int × Bool)
  | [], _, _ => (some [], [])
  | D :: r, a, ch => match (D a ch).1 with
    | none => (none, (D a ch).2)
    | some x => match (d_args r a ch).1 with
      | none => (none, (D a ch).2 ++ (d_args r a ch).2)
      | some xs => (some (x :: xs), (D a ch).2 ++ (d_args r a ch).2)
theorem d_args_snoc (E : q_D) (a : Nat → Int) (ch : Int) : ∀ Ds : List q_D, d_args (Ds ++ [E]) a ch = match (d_args Ds a ch).1 with
    | none => (none, (d_args Ds a ch).2)
    | some xs => match (E a ch).1 with
      | none => (none, (d_args Ds a ch).2 ++ (E a ch).2)
      | some x => (some (xs ++ [x]), (d_args Ds a ch).2 ++ (E a ch).2)
  | [] => by
    show d_args [E] a ch = _
    simp only [d_args]
    cases (E a ch).1 <;> simp
  | D :: r => by
    have ih := d_args_snoc E a ch r
    rw [List.cons_append]
    simp only [d_args, ih]
    cases (D a ch).1 with
    | none => rfl
    | some x =>
      dsimp only
      cases (d_args r a ch).1 with
      | none => rfl
      | some xs =>
        dsimp only
        cases (E a ch).1 with
        | none => simp only [List.append_assoc]
        | some y => simp only [List.append_assoc, List.cons_append]
theorem d_args_len (a : Nat → Int) (ch : Int) : ∀ (Ds : List q_D) (xs : List Int), (d_args Ds a ch).1 = some xs → xs.length = Ds.length
  | [], xs, h => by cases h; rfl
  | D :: r, xs, h => by
    simp only [d_args] at h
    cases e : (D a ch).1 with
    | none => rw [e] at h; cases h
    | some x =>
      rw [e] at h
      dsimp only at h
      cases e2 : (d_args r a ch).1 with
      | none => rw [e2] at h; cases h
      | some ys =>
        rw [e2] at h
        cases h
        rw [List.length_cons, List.length_cons, d_args_len a ch r ys e2]
/-- the code from c0 to c1 lays the values of all of Ds on the stack -/
def q_args (m p f : Nat) (num : Int) (k : Nat) (w0 : bm_W) (c0 c1 : Nat) (Ds : List q_D) (wt dp : Nat) : Prop :=
  c0 ≤ c1 ∧ ∀ (d : Nat) (Φ : bm_Rt → bm_W → Prop) (base n : Nat) (chg steps : Int) (a : Nat → Int) (w : bm_W), dp ≤ d → q_fr (fun a => m ≤ a ∧ a ≤ m + 3) w0 w → bm_gi w m 5 = 0 → bm_gi w m 4 = (n : Int) → n + wt ≤ 203 → base + k ≤ n → (∀ i, i < k → bm_gl w (m + 1) (base + i) = a i) → 0 ≤ steps → steps ≤ c0 →
    (∀ vs, (d_args Ds a chg).1 = some vs → ∀ (w' : bm_W) (steps' : Int), mc_Q m (d_args Ds a chg).2 w w' → bm_gi w' m 4 = ((n + Ds.length : Nat) : Int) → bm_gi w' m 5 = 0 → (∀ i, i < Ds.length → bm_gl w' (m + 1) (n + i) = vs.getD i 0) → (∀ j, j < n → bm_gl w' (m + 1) j = bm_gl w (m + 1) j) → 0 ≤ steps' → steps' ≤ c1 → bk_X2_run_16 d Φ m num (base : Int) chg f (c1 : Int) steps' w') →
    ((d_args Ds a chg).1 = none → ∀ w' : bm_W, mc_Q m (d_args Ds a chg).2 w w' → bm_gi w' m 5 = 1 → Φ (.inl none) w') → bk_X2_run_16 d Φ m num (base : Int) chg f (c0 : Int) steps w
section SEG
variable {m p f : Nat} {num : Int} {k : Nat} {w0 : bm_W}
theorem args_nil {c dp : Nat} : q_args m p f num k w0 c c [] 0 dp := by
  refine ⟨Nat.le_refl c, fun d Φ base n chg steps a w hd hf h5 h4 hn hb ha s0 s1 hS hN => ?_⟩
  exact hS [] rfl w steps mc_Q.rf h4 h5 (fun i hi => by cases hi) (fun _ _ => rfl) s0 s1
theorem args_snoc {c0 c1 c2 wt wt2 dp : Nat} {Ds : List q_D} {E : q_D} (hD : q_args m p f num k w0 c0 c1 Ds wt dp) (hE : q_seg m p f num k w0 c1 c2 E wt2 dp) (hw : Ds.length ≤ wt) : q_args m p f num k w0 c0 c2 (Ds ++ [E]) (wt + wt2) dp := by
  have l1 := hD.1
  have l2 := hE.1
  refine ⟨by omega, fun d Φ base n chg steps a w hd hf h5 h4 hn hb ha s0 s1 hS hN => ?_⟩
  rw [d_args_snoc] at hS hN
  refine hD.2 d Φ base n chg steps a w hd hf h5 h4 (by omega) hb ha s0 s1 (fun vs hv w1 st1 hQ g4 g5 gv gj t0 t1 => ?_) (fun hv w1 hQ h51 => ?_)
  · rw [hv] at hS hN
    have hlen := d_args_len a chg Ds vs hv
    refine hE.2 d Φ base (n + Ds.length) chg st1 a w1 hd (hf.tr hQ.1) g5 g4 (by omega) (by omega) (fun i hi => (gj _ (by omega)).trans (ha i hi)) t0 t1 (fun y hy w2 st2 hR u0 u1 => ?_) (fun hy w2 hQ2 h52 => ?_)
    · rw [hy] at hS
      refine hS (vs ++ [y]) rfl w2 st2 (hQ.tr hR.1) ?_ hR.2.2.1 (fun i hi => ?_) (fun j q => (hR.2.2.2.2 j (by omega)).trans (gj j q)) u0 u1
      · rw [hR.2.1, List.length_append]
        rfl
      · rw [List.length_append] at hi
        have hi' : i < Ds.length + 1 := hi
        rcases Nat.lt_or_ge i Ds.length with z | z
        · rw [hR.2.2.2.2 _ (by omega), gv i z, List.getD_eq_getElem?_getD, List.getD_eq_getElem?_getD, List.getElem?_append_left (by omega)]
        · obtain rfl : i = Ds.length := by omega
          rw [hR.2.2.2.1, ← hlen, List.getD_eq_getElem?_getD, List.getElem?_append_right (Nat.le_refl _), Nat.sub_self]
          rfl
    · rw [hy] at hN
      exact hN rfl w2 (hQ.tr hQ2) h52
  · rw [hv] at hN
    exact hN rfl w1 hQ h51
end SEG

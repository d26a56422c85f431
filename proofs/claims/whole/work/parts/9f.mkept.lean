/-! ===== the model: names; what is kept of items ===== -/
/-- a name, as the model keeps it -/
def t_nm (B : Int → Int) (x : Nat) : Int := t_37 (t_w B (t_P B x))
theorem t_nm_V {B : Int → Int} {x y : Nat} (hx : t_K B x = 3) (hy : t_K B y = 3) : t_nm B x = t_nm B y ↔ t_V B x = t_V B y := by
  have kk : ∀ z : Nat, t_K B z = 3 → t_lw (t_w B (t_P B z)) ∧ t_V B z = t_pk (t_w B (t_P B z)) := fun z hz => by
    have h := hz
    unfold t_K t_k at h
    by_cases c0 : B (t_P B z) < 0
    · rw [if_pos c0] at h; omega
    rw [if_neg c0] at h
    by_cases c1 : t_let (B (t_P B z))
    · rw [if_pos c1] at h
      by_cases c8 : t_wend B 1501 (t_P B z) - t_P B z ≤ 8
      · have := t_w_ok c1 c8
        exact ⟨this.1, this.2.1⟩
      · rw [if_neg c8] at h
        omega
    · rw [if_neg c1] at h
      by_cases c2 : t_dig (B (t_P B z))
      · rw [if_pos c2] at h
        split at h <;> omega
      · rw [if_neg c2] at h
        have r := t_sk_rng (B (t_P B z)) (B (t_P B z + 1))
        omega
  obtain ⟨x1, x2⟩ := kk x hx
  obtain ⟨y1, y2⟩ := kk y hy
  rw [x2, y2]
  unfold t_nm
  exact ⟨fun h => by rw [t_37_inj _ _ x1.1 y1.1 h], fun h => by rw [t_pk_inj _ _ x1.1 y1.1 h]⟩
/-- names that differ -/
def y_ds (V : Nat → Int) (l : List Nat) : Prop := ∀ i j, i < j → j < l.length → V (l.getD i 0) ≠ V (l.getD j 0)
theorem y_ix_no {V : Nat → Int} {v : Int} : ∀ (l : List Nat) (i : Int), 0 ≤ i → y_ix V v l i < 0 → ∀ j, j < l.length → V (l.getD j 0) ≠ v
  | [], _, _, _, j, hj => by simp at hj
  | y :: l, i, h, hn, j, hj => by
    unfold y_ix at hn
    by_cases c : V y = v
    · rw [if_pos c] at hn
      omega
    · rw [if_neg c] at hn
      cases j with
      | zero => exact c
      | succ j => exact y_ix_no l (i + 1) (by omega) hn j (by simpa using hj)
theorem y_ix_at {V : Nat → Int} {v : Int} : ∀ (l : List Nat) (i : Int), 0 ≤ i → 0 ≤ y_ix V v l i → V (l.getD (y_ix V v l i - i).toNat 0) = v ∧ i ≤ y_ix V v l i ∧ y_ix V v l i < i + l.length
  | [], i, h, hn => by simp [y_ix] at hn
  | y :: l, i, h, hn => by
    unfold y_ix at hn ⊢
    by_cases c : V y = v
    · rw [if_pos c] at hn ⊢
      refine ⟨?_, Int.le_refl _, by simp; omega⟩
      rw [Int.sub_self]
      exact c
    · rw [if_neg c] at hn ⊢
      obtain ⟨a1, a2, a3⟩ := y_ix_at l (i + 1) (by omega) hn
      refine ⟨?_, by omega, by simp; omega⟩
      rw [show (y_ix V v l (i + 1) - i).toNat = (y_ix V v l (i + 1) - (i + 1)).toNat + 1 by omega]
      exact a1
theorem t_fd_rng {g : Nat → Int} {p : Nat} {v : Int} : ∀ k : Nat, (t_fd g p v k = -1 ∧ ∀ j, j < k → g (p + j) ≠ v) ∨ ∃ j : Nat, t_fd g p v k = (j : Int) ∧ j < k ∧ g (p + j) = v
  | 0 => Or.inl ⟨rfl, fun j hj => by omega⟩
  | n + 1 => by
    unfold t_fd
    by_cases c : g (p + n) = v
    · rw [if_pos c]
      exact Or.inr ⟨n, rfl, Nat.lt_succ_self _, c⟩
    · rw [if_neg c]
      rcases t_fd_rng (g := g) (p := p) (v := v) n with ⟨h1, h2⟩ | ⟨j, h1, h2, h3⟩
      · refine Or.inl ⟨h1, fun j hj => ?_⟩
        rcases Nat.lt_or_ge j n with z | z
        · exact h2 j z
        · rw [show j = n by omega]
          exact c
      · exact Or.inr ⟨j, h1, by omega, h3⟩
/-- both ways to find a name -/
theorem t_fd_ix {B : Int → Int} {g : Nat → Int} {p x : Nat} {l : List Nat} (hk : ∀ j, j < l.length → t_K B (l.getD j 0) = 3 ∧ g (p + j) = t_nm B (l.getD j 0)) (hd : y_ds (t_V B) l) (hx : t_K B x = 3) : t_fd g p (t_nm B x) l.length = y_ix (t_V B) (t_V B x) l 0 := by
  rcases t_fd_rng (g := g) (p := p) (v := t_nm B x) l.length with ⟨h1, h2⟩ | ⟨j, h1, h2, h3⟩
  · rw [h1]
    rcases y_ix_rng (V := t_V B) (v := t_V B x) l 0 (Int.le_refl _) with z | z
    · exact z.symm
    · have a := y_ix_at (V := t_V B) (v := t_V B x) l 0 (Int.le_refl _) z.1
      have e := hk (y_ix (t_V B) (t_V B x) l 0 - 0).toNat (by omega)
      exact absurd (e.2.trans ((t_nm_V e.1 hx).mpr a.1)) (h2 _ (by omega))
  · rw [h1]
    have e := hk j h2
    have ev : t_V B (l.getD j 0) = t_V B x := (t_nm_V e.1 hx).mp (e.2.symm.trans h3)
    have ge : 0 ≤ y_ix (t_V B) (t_V B x) l 0 := by
      rcases Int.lt_or_le (y_ix (t_V B) (t_V B x) l 0) 0 with z | z
      · exact absurd ev (y_ix_no l 0 (Int.le_refl _) z j h2)
      · exact z
    have a := y_ix_at (V := t_V B) (v := t_V B x) l 0 (Int.le_refl _) ge
    have a1 := a.1
    rw [Int.sub_zero] at a1
    rcases Nat.lt_trichotomy j (y_ix (t_V B) (t_V B x) l 0).toNat with z | z | z
    · exact absurd (ev.trans a1.symm) (hd j _ z (by omega))
    · omega
    · exact absurd (a1.trans ev.symm) (hd _ j z h2)
theorem y_ds_snoc {V : Nat → Int} {l : List Nat} {x : Nat} (h : y_ds V l) (hx : y_ix V (V x) l 0 < 0) : y_ds V (l ++ [x]) := fun i j hij hj => by
  rw [List.length_append, List.length_singleton] at hj
  by_cases c : j = l.length
  · rw [q_gde (x := x) c, q_gdl (by omega)]
    exact y_ix_no l 0 (Int.le_refl _) hx i (by omega)
  · rw [q_gdl (x := x) (show j < l.length by omega), q_gdl (x := x) (show i < l.length by omega)]
    exact h i j hij (by omega)
/-! what is kept of functions and tables -/
/-- inputs of function g -/
def mip (m : Nat) (B : Int → Int) (g : Nat) (ins : List y_in) (w : bm_W) : Prop := bm_gi w (m + 14) g = (ins.length : Int) ∧ ins.length ≤ 3 ∧ (∀ i, i < ins.length → (t_K B (ins.getD i y_i0).1 = 3 ∧ bm_gl w (m + 15) (3 * g + i) = t_nm B (ins.getD i y_i0).1) ∧ bm_gi w (m + 16) (3 * g + i) = (ins.getD i y_i0).2.1 ∧ bm_gi w (m + 17) (3 * g + i) = (ins.getD i y_i0).2.2) ∧ y_ds (t_V B) (ins.map (·.1))
/-- function g means D wherever its nodes (below n) and the heads of functions up to it are kept -/
def mq (m g n : Nat) (D : q_D) (w : bm_W) : Prop := ∀ w0 : bm_W, (∀ a j, m + 7 ≤ a → a ≤ m + 12 → j < n → bm_gi w0 a j = bm_gi w a j) → (∀ h, h ≤ g → bm_gi w0 (m + 14) h = bm_gi w (m + 14) h ∧ bm_gi w0 (m + 18) h = bm_gi w (m + 18) h) → sh_Md m w0 → q_node m w0 (bm_gi w0 (m + 18) g) D (200 * (g + 1))
def mfn (m : Nat) (B : Int → Int) (g : Nat) (F : y_fn) (w : bm_W) : Prop := (t_K B F.1 = 3 ∧ bm_gl w (m + 13) g = t_nm B F.1) ∧ mip m B g F.2.1 w ∧ 1 ≤ F.2.1.length ∧ bm_gi w (m + 19) g = (F.2.2.1 : Int) ∧ bm_gi w (m + 20) g = (F.2.2.2.1 : Int) ∧ 1 ≤ F.2.2.2.1 ∧ F.2.2.2.1 ≤ 200 ∧ ∃ n : Nat, (n : Int) ≤ bm_gi w m 11 ∧ mq m g n F.2.2.2.2 w
def mfs (m : Nat) (B : Int → Int) (fs : List y_fn) (w : bm_W) : Prop := bm_gi w m 18 = (fs.length : Int) ∧ fs.length ≤ 6 ∧ (∀ g, g < fs.length → mfn m B g (fs.getD g y_f0) w) ∧ y_ds (t_V B) (fs.map (·.1))
/-- results as the model numbers them -/
def t_rs (x : Int) : Int := if x = 14 then 20 else if x = 15 then 21 else x - 20
def mrw (m k i : Nat) (R : y_rw) (w : bm_W) : Prop := (∀ c, c < R.1.length → bm_gi w (m + 24) ((12 * k + i) * 3 + c) = (R.1.getD c (0, 0)).1 ∧ bm_gi w (m + 25) ((12 * k + i) * 3 + c) = (R.1.getD c (0, 0)).2) ∧ bm_gi w (m + 26) (12 * k + i) = t_rs R.2.1 ∧ bm_gl w (m + 27) (12 * k + i) = R.2.2
/-- a fair row for n inputs -/
def y_rk (n : Nat) (R : y_rw) : Prop := R.1.length = n ∧ (∀ c, c < n → -20 ≤ (R.1.getD c (0, 0)).1 ∧ (R.1.getD c (0, 0)).1 ≤ (R.1.getD c (0, 0)).2 ∧ (R.1.getD c (0, 0)).2 ≤ 20) ∧ (R.2.1 = 14 ∨ R.2.1 = 15 ∨ (22 ≤ R.2.1 ∧ R.2.1 ≤ 27))
def mrs (m k n : Nat) (rows : List y_rw) (w : bm_W) : Prop := bm_gi w (m + 23) k = (rows.length : Int) ∧ rows.length ≤ 12 ∧ y_ct rows ≤ 100 ∧ ∀ i, i < rows.length → mrw m k i (rows.getD i y_r0) w ∧ y_rk n (rows.getD i y_r0)
def mtb (m : Nat) (B : Int → Int) (fs : List y_fn) (k : Nat) (Tb : y_tb) (w : bm_W) : Prop := (t_K B Tb.1 = 3 ∧ bm_gl w (m + 21) k = t_nm B Tb.1) ∧ bm_gi w (m + 22) k = (Tb.2.1 : Int) ∧ Tb.2.1 < fs.length ∧ mrs m k (fs.getD Tb.2.1 y_f0).2.1.length Tb.2.2 w
def mts (m : Nat) (B : Int → Int) (pr : y_pr) (w : bm_W) : Prop := bm_gi w m 28 = (pr.2.length : Int) ∧ pr.2.length ≤ 6 ∧ (∀ k, k < pr.2.length → mtb m B pr.1 k (pr.2.getD k y_t0) w) ∧ y_ds (t_V B) (pr.2.map (·.1))
/-- the model between items, p tokens read -/
def ml (m N : Nat) (B : Int → Int) (pr : y_pr) (p : Nat) (w : bm_W) : Prop := md_Z m B N w ∧ m + 31 < bm_sz w ∧ mfs m B pr.1 w ∧ mts m B pr w ∧ bm_gi w m 27 = (y_I (t_K B) p : Int) ∧ (∃ n : Nat, bm_gi w m 11 = (n : Int) ∧ n ≤ p) ∧ y_I (t_K B) p ≤ 9 * pr.1.length
/-- the answer of a part of the model's meaning -/
def ma {α : Type} (m : Nat) (w : bm_W) (B : Int → Int) (r : (Int × Nat) ⊕ α) (x : Int) (w' : bm_W) (G : α → Prop) : Prop := match r with
  | .inl e => x = e.1 ∧ e.1 ≠ 0 ∧ bm_gi w' m 3 = t_P B e.2
  | .inr a => x = 0 ∧ bm_gi w' m 3 = bm_gi w m 3 ∧ G a
theorem ma.w {α : Type} {m : Nat} {w w0 : bm_W} {B : Int → Int} {r : (Int × Nat) ⊕ α} {x : Int} {w' : bm_W} {G : α → Prop} (h : ma m w B r x w' G) (e : bm_gi w m 3 = bm_gi w0 m 3) : ma m w0 B r x w' G := by
  cases r with
  | inl y => exact h
  | inr a => exact ⟨h.1, h.2.1.trans e, h.2.2⟩
/-- what the model may change -/
def mG (m c : Nat) (w w' : bm_W) : Prop := q_gw (fun a => m ≤ a ∧ a ≤ m + 31) (fun _ => False) c (3 * c) w w' ∧ ∀ k, k = 0 ∨ k = 37 → bm_gi w' m k = bm_gi w m k
theorem mG.rf {m : Nat} {w : bm_W} : mG m 0 w w := ⟨q_gw.rf, fun _ _ => rfl⟩
theorem mG.tr {m c c' : Nat} {w w1 w2 : bm_W} (h : mG m c w w1) (h2 : mG m c' w1 w2) : mG m (c + c') w w2 := ⟨(q_gw.tr h.1 h2.1).mo (fun _ z => z) (fun _ z => z) (Nat.le_refl _) (by omega), fun k hk => (h2.2 k hk).trans (h.2 k hk)⟩
theorem mG.mo {m c c' : Nat} {w w1 : bm_W} (h : mG m c w w1) (hc : c ≤ c') : mG m c' w w1 := ⟨q_gw.mo h.1 (fun _ z => z) (fun _ z => z) hc (by omega), h.2⟩
theorem mG.of {A : Nat → Prop} {m : Nat} {w w' : bm_W} (h : q_fr A w w') (hA : ∀ a, A a → m ≤ a ∧ a ≤ m + 31) (h0 : ∀ k, k = 0 ∨ k = 37 → bm_gi w' m k = bm_gi w m k) : mG m 0 w w' := ⟨q_gw.of (h.mo hA), h0⟩

/-! ===== what both compiles leave ===== -/
/-- what is known of a program's tables -/
def y_tbs (pr : y_pr) : Prop := ∀ k, k < pr.2.length → (pr.2.getD k y_t0).2.1 < pr.1.length ∧ y_ct (pr.2.getD k y_t0).2.2 ≤ 100 ∧ ∀ i, i < (pr.2.getD k y_t0).2.2.length → y_rk (y_tF pr k).2.1.length ((pr.2.getD k y_t0).2.2.getD i y_r0)
def y_of (r : (Int × Nat) ⊕ y_pr) : y_pr := match r with
  | .inl _ => ([], [])
  | .inr pr => pr
def y_ifs (r : (Int × Nat) ⊕ y_pr) (n : Nat) : Nat := match r with
  | .inl _ => 0
  | .inr _ => n
section BC
variable {b t m N : Nat} {B : Int → Int} {pr : y_pr} {w : bm_W} {x pl : Int}
theorem mA.tbs (h : mA m B pr w) : y_tbs pr := fun k hk => by
  obtain ⟨b0, b1, b2, c1, c2, c3, c4⟩ := h.2.2.2.1.2.2.1 k hk
  exact ⟨b2, c3, fun i hi => (c4 i hi).2⟩
theorem ans_mA {K V : Nat → Int} (S : sh_Md m w) (hs : m + 31 < bm_sz w) (h : ans_m m B N (y_cmp K V) x w) : mA m B (y_of (y_cmp K V)) w ∧ bm_gi w m 27 = ((y_ifs (y_cmp K V) (y_I (t_K B) N) : Nat) : Int) ∧ y_ifs (y_cmp K V) (y_I (t_K B) N) ≤ 54 := by
  cases hr : y_cmp K V with
  | inl e =>
    rw [hr] at h
    obtain ⟨h1, h2, h3, h18, h28, h27⟩ := h
    refine ⟨⟨S, hs, ⟨h18, by simp [y_of], fun g hg => (by cases hg), fun i j _ hj => (by cases hj)⟩, ⟨h28, by simp [y_of], fun g hg => (by cases hg), fun i j _ hj => (by cases hj)⟩, fun g hg => (by cases hg), fun g hg => (by cases hg)⟩, h27, Nat.zero_le _⟩
  | inr pr =>
    rw [hr] at h
    obtain ⟨h1, h2, h3, h4, h5, h6, h7⟩ := h
    have l6 := h3.2.1
    exact ⟨⟨S, hs, h3, h4, h6, y_cmp_lcs hr⟩, h5, by show y_I (t_K B) N ≤ 54; omega⟩
theorem cZ.of (h : cI b t w) (hf : yfs t B pr.1 w) (ht : yts t B pr.2 w) (hb : y_tbs pr) (hl : y_lcs pr) (h2 : bm_gi w (t + 117) 2 = 0) (h6 : bm_gi w (t + 113) 6 = 0) : cZ b t B pr w := by
  have c1 := h.1
  have Ru : sh_Ru t w := ⟨c1.2.2.2.2.2.2.2.2.2.1, c1.2.2.2.2.2.2.2.2.2.2.1, c1.2.2.2.2.2.2.2.2.2.2.2.1, h.2.2.2.1, h.2.2.2.2.1⟩
  have ro := h.2.2.2.2.2.1
  have f6 := hf.2.1
  refine ⟨h, ⟨Ru, ht.1, ht.2.1, fun k hk => ?_⟩, hf, Or.inl h2, h6⟩
  obtain ⟨p1, p2, p3⟩ := hb k hk
  obtain ⟨-, t2, r1, r2, r3, r4, r5, r6⟩ := ht.2.2 k hk
  have fn := hf.2.2 _ p1
  refine ⟨Ru, h.2.2.2.1.tb (k : Int), t2, fn, ⟨r1, r2, r3, p2, fun i hi => ?_⟩, fun i r hi hr => (ro.2.1 _ i r ⟨⟨_, rfl⟩, hi, hr⟩).1, ⟨hl _ p1, rfl, by omega, fn.2.1.2.1⟩, ⟨_, rfl⟩⟩
  obtain ⟨r, s1, s2, -⟩ := r6 i hi
  exact ⟨r, s1, s2, p3 i hi⟩
theorem ans_cZ {K V : Nat → Int} {nI : Nat} (h : cI b t w) (ha : ans_c t B (y_cmp K V) nI x pl w) (hb : y_tbs (y_of (y_cmp K V))) (h2 : bm_gi w (t + 117) 2 = 0) (h6 : bm_gi w (t + 113) 6 = 0) : cZ b t B (y_of (y_cmp K V)) w ∧ bm_gi w (t + 4) 6 = ((y_ifs (y_cmp K V) nI : Nat) : Int) := by
  cases hr : y_cmp K V with
  | inl e =>
    rw [hr] at ha hb
    obtain ⟨a1, a2, a3, a4, a5, a6⟩ := ha
    exact ⟨cZ.of h ⟨a4, Nat.zero_le _, fun g hg => (by cases hg)⟩ ⟨a5, Nat.zero_le _, fun g hg => (by cases hg)⟩ hb (fun g hg => (by cases hg)) h2 h6, a6⟩
  | inr pr =>
    rw [hr] at ha hb
    obtain ⟨a1, a2, a3, a4, a5⟩ := ha
    exact ⟨cZ.of h a3 a4 hb (y_cmp_lcs hr) h2 h6, a5⟩
end BC

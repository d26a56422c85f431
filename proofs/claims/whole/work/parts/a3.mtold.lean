/-! ===== what a table tells, in the model ===== -/
/-- how many of the first n hold; the first that doesn't -/
def s_cnt (h : Int → Int) : Nat → Int
  | 0 => 0
  | n + 1 => s_cnt h n + if h (n : Int) = 0 then 0 else 1
theorem s_cnt_rng (h : Int → Int) : ∀ n : Nat, 0 ≤ s_cnt h n ∧ s_cnt h n ≤ n
  | 0 => ⟨Int.le_refl _, Int.le_refl _⟩
  | n + 1 => by
    have := s_cnt_rng h n
    unfold s_cnt
    split <;> omega
theorem s_cnt_mo (h : Int → Int) : ∀ (n m : Nat), s_cnt h n ≤ s_cnt h (n + m)
  | n, 0 => Int.le_refl _
  | n, m + 1 => by
    have := s_cnt_mo h n m
    show s_cnt h n ≤ s_cnt h (n + m) + if h ((n + m : Nat) : Int) = 0 then 0 else 1
    split <;> omega
def s_fst (h : Int → Int) : Nat → Nat → Int
  | _, 0 => -1
  | k, n + 1 => if h (k : Int) = 0 then (k : Int) else s_fst h (k + 1) n
/-- programs, as the model keeps them -/
def mA (m : Nat) (B : Int → Int) (pr : y_pr) (w : bm_W) : Prop := sh_Md m w ∧ m + 31 < bm_sz w ∧ mfs m B pr.1 w ∧ mts m B pr w ∧ y_fks pr ∧ y_lcs pr
section MT
variable {d m k : Nat} {B : Int → Int} {pr : y_pr} {w w' : bm_W} {Φ : bm_Rt → bm_W → Prop}
theorem mA.mv (h : mA m B pr w) (S : sh_Md m w') (hs : m + 31 < bm_sz w') (e : ∀ a j, m + 7 ≤ a → a ≤ m + 27 → bm_gi w' a j = bm_gi w a j ∧ bm_gl w' a j = bm_gl w a j) (h18 : bm_gi w' m 18 = bm_gi w m 18) (h28 : bm_gi w' m 28 = bm_gi w m 28) (h11 : bm_gi w' m 11 = bm_gi w m 11) : mA m B pr w' := by
  obtain ⟨a1, a2, a3, a4, a5, a6⟩ := h
  refine ⟨S, hs, a3.mv ⟨fun g _ => ⟨(e _ _ (by omega) (by omega)).2, (e _ _ (by omega) (by omega)).1, (e _ _ (by omega) (by omega)).1, (e _ _ (by omega) (by omega)).1, (e _ _ (by omega) (by omega)).1⟩, fun j _ => ⟨(e _ _ (by omega) (by omega)).2, (e _ _ (by omega) (by omega)).1, (e _ _ (by omega) (by omega)).1⟩, by rw [h11]; exact Int.le_refl _, fun a j u v _ => (e a j (by omega) (by omega)).1⟩ h18, a4.mv ⟨h28, fun a j u v => e a j (by omega) v⟩ rfl (Nat.le_refl _) (fun _ _ => rfl), a5, a6⟩
theorem mA.mQ {tr : List (Int × Bool)} (h : mA m B pr w) (hQ : mQ m tr w w') : mA m B pr w' := h.mv (h.1.fr hQ.1) (by rw [hQ.1.sz]; exact h.2.1) (fun a j u v => ⟨hQ.1.gi (by omega), hQ.1.gl (by omega)⟩) (hQ.2.1 18 (by decide)) (hQ.2.1 28 (by decide)) (hQ.2.1 11 (by decide))
/-- a table and its function -/
theorem mA.tab (h : mA m B pr w) (hk : k < pr.2.length) : mT m k (pr.2.getD k y_t0).2.1 (y_tF pr k).2.1.length (pr.2.getD k y_t0).2.2 w ∧ mfn m B (pr.2.getD k y_t0).2.1 (y_tF pr k) w ∧ q_loc (y_tF pr k).2.1.length (y_tF pr k).2.2.2.2 ∧ y_fk (y_tF pr k).2.1 := by
  obtain ⟨a1, a2, a3, a4, a5, a6⟩ := h
  obtain ⟨b0, b1, b2, b3⟩ := a4.2.2.1 k hk
  have k6 := a4.2.1
  have f6 := a3.2.1
  have fn := a3.2.2.1 _ b2
  exact ⟨⟨a1, by omega, b1, by omega, fn.2.1.1, fn.2.2.1, fn.2.1.2.1, b3⟩, fn, a6 _ b2, a5 _ b2⟩
abbrev y_h (pr : y_pr) (k : Nat) (x : Int) : Int := s_hold (y_tF pr k).2.2.2.2 (pr.2.getD k y_t0).2.2 x (-1)
theorem mm_hold {x : Int} (h : mA m B pr w) (hk : k < pr.2.length) (h0 : 0 ≤ x) (h1 : x < y_ct (pr.2.getD k y_t0).2.2) {ch : Int} (hq : ∀ w', mQ m ((y_tF pr k).2.2.2.2 (s_in (pr.2.getD k y_t0).2.2 x) ch).2 w w' → Φ (.inl (some (bm_i (s_hold (y_tF pr k).2.2.2.2 (pr.2.getD k y_t0).2.2 x ch)))) w') : bm_Call bm_pg (d + 1202) y_X12_holdsAt [bm_r (some m), bm_i (k : Int), bm_i x, bm_i ch] w Φ := by
  obtain ⟨t1, t2, t3, t4⟩ := h.tab hk
  exact mm_holdsAt t1 t2 t3 h0 h1 hq
theorem mm_52 {what : Int} (hk : k < pr.2.length) (hw : what = 3 ∨ what = 4) (w0 : bm_W) (h37 : bm_gi w0 m 37 = 0) (hq : ∀ w', mQ m [] w0 w' → mA m B pr w' → Φ (.inl (some (bm_i (if what = 3 then s_cnt (y_h pr k) (y_ct (pr.2.getD k y_t0).2.2).toNat else s_fst (y_h pr k) 0 (y_ct (pr.2.getD k y_t0).2.2).toNat)))) w') : ∀ (x n : Nat) (w : bm_W), x + n = (y_ct (pr.2.getD k y_t0).2.2).toNat → mA m B pr w → mQ m [] w0 w → bk_X12_tableTold_52 (d + 1202) Φ m (k : Int) what (s_cnt (y_h pr k) (x + n) - s_cnt (y_h pr k) x) (s_fst (y_h pr k) x n) ((x : Int) - 1) w
  | 0, n, w, hx, hA, hQ => by
    refine vb_X12_tableTold_52 ?_
    rw [if_pos (by decide)]
    have e0 : s_cnt (y_h pr k) 0 = 0 := rfl
    have hq := hq w hQ hA
    rw [← hx, Nat.zero_add] at hq
    rw [Nat.zero_add, e0, Int.sub_zero]
    rcases hw with rfl | rfl
    · rw [if_pos rfl] at hq
      rw [if_neg (by decide)]
      exact hq
    · rw [if_neg (by decide)] at hq
      rw [if_pos (by decide)]
      exact hq
  | x + 1, n, w, hx, hA, hQ => by
    have ct := (hA.tab hk).1.2.2.2.2.2.2.2.2.2.1
    have e1 : ((x + 1 : Nat) : Int) - 1 = (x : Int) := by omega
    have e2 : (x : Int) + -1 = (x : Int) - 1 := by omega
    have c1 := s_cnt_mo (y_h pr k) (x + 1) n
    have c2 := (s_cnt_rng (y_h pr k) (x + 1 + n)).2
    have c3 := (s_cnt_rng (y_h pr k) (x + 1)).1
    refine vb_X12_tableTold_52 ?_
    rw [e1, if_neg (by simp)]
    refine ⟨hA.1.1, mm_hold (d := d) hA hk (by omega) (by omega) (fun w2 Q2 => ?_)⟩
    rw [bm_c1_v, q_wI (x := (x : Int) + -1) ⟨by omega, by omega⟩, e2]
    have Q3 : mQ m [] w0 w2 := by
      obtain ⟨a1, a2, a3, a4⟩ := hQ
      obtain ⟨b1, b2, b3, b4⟩ := Q2
      have z : ∀ (b : Bool) (tr : List (Int × Bool)) (g : Nat → Int), q_bump 0 b tr g = g := fun b tr => by
        induction tr with
        | nil => intro g; rfl
        | cons y l ih => intro g; obtain ⟨i, b'⟩ := y; unfold q_bump; rw [if_neg (by simp)]; exact ih g
      have h37' : bm_gi w m 37 = 0 := (a2 37 (by decide)).trans h37
      refine ⟨a1.tr b1, fun j hj => (b2 j hj).trans (a2 j hj), fun j => ?_, fun j => ?_⟩
      · rw [b3 j, h37', z]; exact a3 j
      · rw [b4 j, h37', z]; exact a4 j
    have hA2 := hA.mQ Q2
    have sc : s_cnt (y_h pr k) (x + 1) = s_cnt (y_h pr k) x + if y_h pr k (x : Int) = 0 then 0 else 1 := rfl
    have sf : s_fst (y_h pr k) x (n + 1) = if y_h pr k (x : Int) = 0 then (x : Int) else s_fst (y_h pr k) (x + 1) n := rfl
    have ih := mm_52 hk hw w0 h37 hq x (n + 1) w2 (by omega) hA2 Q3
    rw [sf] at ih
    have ex : x + (n + 1) = x + 1 + n := by omega
    rw [ex] at ih
    by_cases c : y_h pr k (x : Int) = 0
    · rw [if_pos c] at sc ih
      rw [if_pos (decide_eq_true c), sc, Int.add_zero]
      exact ih
    · rw [if_neg c] at sc ih
      rw [if_neg (fun y => c (of_decide_eq_true y)), sc, q_wI (x := _ + 1) ⟨by omega, by omega⟩]
      rw [show s_cnt (y_h pr k) (x + 1 + n) - (s_cnt (y_h pr k) x + 1) + 1 = s_cnt (y_h pr k) (x + 1 + n) - s_cnt (y_h pr k) x by omega]
      exact ih
end MT

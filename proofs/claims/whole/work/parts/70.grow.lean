/-! ===== frames of worlds that grow ===== -/
/-- c cells and s slots at most are new; references stay off R, numbers off A -/
def q_gw (A R : Nat → Prop) (c s : Nat) (w w' : bm_W) : Prop := (bm_sz w ≤ bm_sz w' ∧ bm_sz w' ≤ bm_sz w + c ∧ bm_sl w ≤ bm_sl w' ∧ bm_sl w' ≤ bm_sl w + s) ∧ ∀ a, a < bm_sz w → (bm_kt w' a = bm_kt w a ∧ bm_kn w' a = bm_kn w a) ∧ (¬ R a → ∀ j, bm_gr w' a j = bm_gr w a j) ∧ (¬ A a → ∀ j, bm_gi w' a j = bm_gi w a j ∧ bm_gl w' a j = bm_gl w a j)
section GW
variable {A R : Nat → Prop} {c s c' s' : Nat} {w w' w2 : bm_W}
theorem q_gw.rf : q_gw A R 0 0 w w := ⟨⟨Nat.le_refl _, Nat.le_refl _, Nat.le_refl _, Nat.le_refl _⟩, fun _ _ => ⟨⟨rfl, rfl⟩, fun _ _ => rfl, fun _ _ => ⟨rfl, rfl⟩⟩⟩
theorem q_gw.tr (h : q_gw A R c s w w') (h2 : q_gw A R c' s' w' w2) : q_gw A R (c + c') (s + s') w w2 := by
  obtain ⟨⟨a1, a2, a3, a4⟩, a5⟩ := h
  obtain ⟨⟨b1, b2, b3, b4⟩, b5⟩ := h2
  refine ⟨⟨by omega, by omega, by omega, by omega⟩, fun a ha => ?_⟩
  obtain ⟨x1, x2, x3⟩ := a5 a ha
  obtain ⟨y1, y2, y3⟩ := b5 a (by omega)
  exact ⟨⟨y1.1.trans x1.1, y1.2.trans x1.2⟩, fun z j => (y2 z j).trans (x2 z j), fun z j => ⟨(y3 z j).1.trans (x3 z j).1, (y3 z j).2.trans (x3 z j).2⟩⟩
theorem q_gw.mo {A' R' : Nat → Prop} (h : q_gw A R c s w w') (hA : ∀ a, A a → A' a) (hR : ∀ a, R a → R' a) (hc : c ≤ c') (hs : s ≤ s') : q_gw A' R' c' s' w w' := by
  obtain ⟨⟨a1, a2, a3, a4⟩, a5⟩ := h
  exact ⟨⟨a1, by omega, a3, by omega⟩, fun a ha => ⟨(a5 a ha).1, fun z => (a5 a ha).2.1 (fun y => z (hR a y)), fun z => (a5 a ha).2.2 (fun y => z (hA a y))⟩⟩
theorem q_gw.of (h : q_fr A w w') : q_gw A R 0 0 w w' := by
  refine ⟨⟨by rw [h.sz]; exact Nat.le_refl _, by rw [h.sz]; exact Nat.le_refl _, by rw [h.sl]; exact Nat.le_refl _, by rw [h.sl]; exact Nat.le_refl _⟩, fun a _ => ⟨⟨by rw [h.kt], by rw [h.kn]⟩, fun _ j => by rw [h.gr], fun z j => ⟨h.gi z, h.gl z⟩⟩⟩
theorem q_gw.fr (h : q_gw A R c s w w') (h2 : q_fr A w' w2) : q_gw A R c s w w2 := h.tr (q_gw.of h2)
theorem q_gw.si {a k : Nat} {v : Int} (h : q_gw A R c s w w') (ha : A a ∨ bm_sz w ≤ a) : q_gw A R c s w (bm_si w' a k v) := by
  obtain ⟨h1, h2⟩ := h
  refine ⟨h1, fun b hb => ⟨(h2 b hb).1, (h2 b hb).2.1, fun z j => ⟨?_, ((h2 b hb).2.2 z j).2⟩⟩⟩
  rw [q_gi_ne (fun e => by rw [e] at z hb; exact ha.elim z (fun y => by omega))]
  exact ((h2 b hb).2.2 z j).1
theorem q_gw.sq {a k : Nat} {v : Int} (h : q_gw A R c s w w') (ha : A a ∨ bm_sz w ≤ a) : q_gw A R c s w (bm_sq w' a k v) := by
  obtain ⟨h1, h2⟩ := h
  refine ⟨h1, fun b hb => ⟨(h2 b hb).1, (h2 b hb).2.1, fun z j => ⟨((h2 b hb).2.2 z j).1, ?_⟩⟩⟩
  rw [q_gl_ne (fun e => by rw [e] at z hb; exact ha.elim z (fun y => by omega))]
  exact ((h2 b hb).2.2 z j).2
theorem q_gw.nw {t n m : Nat} (h : q_gw A R c s w w') : q_gw A R (c + 1) (s + m) w (bm_nw w' t n m) := by
  obtain ⟨⟨a1, a2, a3, a4⟩, h2⟩ := h
  refine ⟨⟨by show _ ≤ bm_sz w' + 1; omega, by show bm_sz w' + 1 ≤ _; omega, by show _ ≤ bm_sl w' + m; omega, by show bm_sl w' + m ≤ _; omega⟩, fun b hb => ?_⟩
  have hb' : ¬ b = bm_sz w' := by omega
  obtain ⟨x1, x2, x3⟩ := h2 b hb
  refine ⟨⟨?_, ?_⟩, fun z j => ?_, fun z j => ⟨?_, ?_⟩⟩
  · show (if b = bm_sz w' then t else bm_kt w' b) = _
    rw [if_neg hb']; exact x1.1
  · show (if b = bm_sz w' then n else bm_kn w' b) = _
    rw [if_neg hb']; exact x1.2
  · show (if b = bm_sz w' then none else bm_gr w' b j) = _
    rw [if_neg hb']; exact x2 z j
  · show (if b = bm_sz w' then 0 else bm_gi w' b j) = _
    rw [if_neg hb']; exact (x3 z j).1
  · show (if b = bm_sz w' then 0 else bm_gl w' b j) = _
    rw [if_neg hb']; exact (x3 z j).2
theorem q_gw.gi (h : q_gw A R c s w w') {a j : Nat} (ha : a < bm_sz w) (q : ¬ A a) : bm_gi w' a j = bm_gi w a j := ((h.2 a ha).2.2 q j).1
theorem q_gw.gl (h : q_gw A R c s w w') {a j : Nat} (ha : a < bm_sz w) (q : ¬ A a) : bm_gl w' a j = bm_gl w a j := ((h.2 a ha).2.2 q j).2
theorem q_gw.kt (h : q_gw A R c s w w') {a : Nat} (ha : a < bm_sz w) : bm_kt w' a = bm_kt w a := (h.2 a ha).1.1
theorem q_gw.kn (h : q_gw A R c s w w') {a : Nat} (ha : a < bm_sz w) : bm_kn w' a = bm_kn w a := (h.2 a ha).1.2
theorem q_gw.gr (h : q_gw A R c s w w') {a j : Nat} (ha : a < bm_sz w) (q : ¬ R a) : bm_gr w' a j = bm_gr w a j := (h.2 a ha).2.1 q j
theorem sh_Md.gw {m : Nat} (h : q_gw A R c s w w') (hm : m + 31 < bm_sz w) (hR : ¬ R m) (hT : sh_Md m w) : sh_Md m w' := by
  refine ⟨(h.kt (by omega)).trans hT.1, fun q hq => ?_⟩
  have h1 := hT.2 q hq
  have h2 : q.2.1 ≤ 31 := (by decide : ∀ q ∈ md_tab, q.2.1 ≤ 31) q hq
  exact ⟨(h.gr (by omega) hR).trans h1.1, (h.kt (by omega)).trans h1.2.1, (h.kn (by omega)).trans h1.2.2⟩
theorem md_Z.gw {m N : Nat} {B : Int → Int} (h : q_gw A R c s w w') (hm : m + 31 < bm_sz w) (hR : ¬ R m) (hA : ∀ j, 1 ≤ j → j ≤ 4 → ¬ A (m + j)) (h2 : bm_gi w' m 2 = bm_gi w m 2) (hT : md_Z m B N w) : md_Z m B N w' := by
  obtain ⟨⟨b1, b2, b3, b4, b5, b6⟩, t, r⟩ := hT
  refine ⟨⟨b1.gw h hm hR, by rw [h2]; exact b2, by rw [h2]; exact b3, fun k hk => ?_, by rw [h2]; exact b5, by rw [h2]; exact b6⟩, fun j hj => ?_, r⟩
  · have := b4 k hk
    unfold md_at at this ⊢
    rw [h2, h.gi (by omega) (hA 1 (by decide) (by decide))]
    exact this
  · rw [h.gi (a := m + 2) (by omega) (hA 2 (by decide) (by decide)), h.gi (a := m + 3) (by omega) (hA 3 (by decide) (by decide)), h.gi (a := m + 4) (by omega) (hA 4 (by decide) (by decide))]
    exact t j hj
end GW
/-! ===== small methods of the model's meaning ===== -/
/-- the last place of a name -/
def t_fd (g : Nat → Int) (p : Nat) (v : Int) : Nat → Int
  | 0 => -1
  | n + 1 => if g (p + n) = v then (n : Int) else t_fd g p v n
section ML
variable {d m : Nat} {w : bm_W} {Φ : bm_Rt → bm_W → Prop}
theorem fd_loop {a p k : Nat} {v : Int} (ht : bm_kt w a = 22) (hn : p + k ≤ bm_kn w a) (hk : bm_kn w a ≤ 1000) : ∀ (n i : Nat), i + n = k → Φ (.inl (some (bm_i (t_fd (bm_gl w a) p v k)))) w → bk_X12_find_6 d Φ a (p : Int) (k : Int) v (t_fd (bm_gl w a) p v i) (i : Int) w
  | 0, i, hi, q => by
    refine vb_X12_find_6 ?_
    rw [if_pos (by simp; omega), show i = k by omega]
    exact q
  | n + 1, i, hi, q => by
    refine vb_X12_find_6 ?_
    rw [if_neg (by simp; omega), q_wI (x := (p : Int) + i) ⟨by omega, by omega⟩, q_wI (x := (i : Int) + 1) ⟨by omega, by omega⟩]
    have e : ((p : Int) + i).toNat = p + i := by omega
    have ih := fd_loop ht hn hk n (i + 1) (by omega) q
    refine ⟨⟨ht, by omega, by omega⟩, ?_⟩
    unfold t_fd at ih
    rw [e]
    by_cases c : bm_gl w a (p + i) = v
    · rw [if_pos c] at ih
      rw [if_neg (by simp [c])]
      exact ih
    · rw [if_neg c] at ih
      rw [if_pos (by simp [c])]
      exact ih
theorem mp_find {a p k : Nat} {v : Int} (ht : bm_kt w a = 22) (hn : p + k ≤ bm_kn w a) (hk : bm_kn w a ≤ 1000) : bm_Call bm_pg (d + 1) y_X12_find [bm_r (some a), bm_i (p : Int), bm_i (k : Int), bm_l v] w Φ ↔ Φ (.inl (some (bm_i (t_fd (bm_gl w a) p v k)))) w :=
  bm_ans (fun Ψ q => vc_X12_find (fd_loop ht hn hk k 0 (by omega) q))
theorem mp_wrong {e : Int} {n : Nat} (h : sh_Md m w) (hn : n < 1501) : bm_Call bm_pg (d + 1) y_X12_wrong [bm_r (some m), bm_i e, bm_i (n : Int)] w Φ ↔ Φ (.inl (some (bm_i e))) (bm_si w m 3 (bm_gi w (m + 3) n)) := by
  refine bm_ans (fun Ψ q => vc_X12_wrong ?_)
  simp only [bm_c0_v, bm_c1_v, bm_c2_v, bm_c3_v, bm_c4_v, bm_c5_v, bm_u_some, decide_eq_true_eq, true_and, and_true, and_self, Bool.not_eq_true, Bool.not_eq_true', decide_eq_false_iff_not, if_true, if_false, ite_true, ite_false, eq_self, h.1, h.g5, h.t5, h.n5, bm_in, Int.toNat_natCast]
  exact ⟨by omega, q⟩
/-- a node is made -/
def md_nd (w : bm_W) (m n : Nat) (k a b c i p : Int) : bm_W := bm_si (bm_si (bm_si (bm_si (bm_si (bm_si (bm_si (bm_si w (m + 7) n k) (m + 8) n a) (m + 9) n b) (m + 10) n c) (m + 11) n i) (m + 12) n p) m 40 (n : Int)) m 11 ((n : Int) + 1)
end ML

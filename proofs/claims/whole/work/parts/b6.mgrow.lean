/-! ===== a table grows, in the model ===== -/
/-- what an op may change in the model -/
def mP (m c s : Nat) (w w' : bm_W) : Prop := q_gw (fun a => a = m ∨ (m + 23 ≤ a ∧ a ≤ m + 31)) (fun _ => False) c s w w' ∧ ∀ k, k ≠ 0 → k ≠ 36 → bm_gi w' m k = bm_gi w m k
theorem mP.rf {m : Nat} {w : bm_W} : mP m 0 0 w w := ⟨q_gw.rf, fun _ _ _ => rfl⟩
theorem mP.tr {m c s c' s' : Nat} {w w1 w2 : bm_W} (h : mP m c s w w1) (h2 : mP m c' s' w1 w2) : mP m (c + c') (s + s') w w2 := ⟨h.1.tr h2.1, fun k a b => (h2.2 k a b).trans (h.2 k a b)⟩
theorem mO.mP {m c s : Nat} {w w' : bm_W} (h : mO m c s w w') : mP m c s w w' := ⟨h.1.mo (fun a z => by omega) (fun _ z => z) (Nat.le_refl _) (Nat.le_refl _), h.2⟩
theorem mP.mo {m c s c' s' : Nat} {w w' : bm_W} (h : mP m c s w w') (hc : c ≤ c') (hs : s ≤ s') : mP m c' s' w w' := ⟨h.1.mo (fun _ z => z) (fun _ z => z) hc hs, h.2⟩
theorem mP.of {m : Nat} {A : Nat → Prop} {w w' : bm_W} (h : q_fr A w w') (hA : ∀ a, A a → m + 23 ≤ a ∧ a ≤ m + 31) : mP m 0 0 w w' := ⟨q_gw.of (h.mo (fun a z => Or.inr (hA a z))), fun k _ _ => h.gi (fun z => by have := hA _ z; omega)⟩
theorem q_mapset {α β : Type} {f : α → β} {x z : α} : ∀ (l : List α) (k : Nat), k < l.length → f x = f (l.getD k z) → (l.set k x).map f = l.map f
  | [], k, h, _ => by simp at h
  | a :: l, 0, h, e => by
    show f x :: l.map f = f a :: l.map f
    rw [e]
    rfl
  | a :: l, k + 1, h, e => by
    show f a :: (l.set k x).map f = f a :: l.map f
    rw [q_mapset (z := z) l k (by simpa using h) e]
section MG
variable {d m k : Nat} {B : Int → Int} {pr : y_pr} {w w' : bm_W} {Φ : bm_Rt → bm_W → Prop}
/-- functions stay -/
theorem mA.fs (h : mA m B pr w) (e : ∀ a j, m + 7 ≤ a → a ≤ m + 20 → bm_gi w' a j = bm_gi w a j ∧ bm_gl w' a j = bm_gl w a j) (h18 : bm_gi w' m 18 = bm_gi w m 18) (h11 : bm_gi w' m 11 = bm_gi w m 11) : mfs m B pr.1 w' := h.2.2.1.mv ⟨fun g _ => ⟨(e _ _ (by omega) (by omega)).2, (e _ _ (by omega) (by omega)).1, (e _ _ (by omega) (by omega)).1, (e _ _ (by omega) (by omega)).1, (e _ _ (by omega) (by omega)).1⟩, fun j _ => ⟨(e _ _ (by omega) (by omega)).2, (e _ _ (by omega) (by omega)).1, (e _ _ (by omega) (by omega)).1⟩, by rw [h11]; exact Int.le_refl _, fun a j u v _ => (e a j (by omega) (by omega)).1⟩ h18
theorem mm_setx {X c : Nat} {v4 a b : Int} (S : sh_Md m w) (hx : X + c < 216) : bm_Call bm_pg (d + 1) y_X12_setCell [bm_r (some m), bm_i (X : Int), bm_i (c : Int), bm_i v4, bm_i a, bm_i b] w Φ ↔ Φ (.inl none) (if v4 = 0 then w else bm_si (bm_si w (m + 24) (X + c) a) (m + 25) (X + c) b) := by
  refine bm_ans (fun Ψ q => vc_X12_setCell ?_)
  by_cases z : v4 = 0
  · rw [if_pos z] at q
    rw [if_neg (by simp [z])]
    exact q
  · rw [if_neg z] at q
    rw [if_pos (by simp [z])]
    have S2 : sh_Md m (bm_si w (m + 24) (X + c) a) := S
    simp only [bm_c0_v, bm_c1_v, bm_c2_v, bm_c3_v, bm_c4_v, bm_c5_v, bm_u_some, decide_eq_true_eq, true_and, and_true, and_self, Bool.not_eq_true, Bool.not_eq_true', decide_eq_false_iff_not, if_true, if_false, ite_true, ite_false, eq_self, S.1, S.g32, S.t32, S.n32, bm_wN (show X + c < 2147483648 by omega), bm_in, Int.toNat_natCast, S2.1, S2.g33, S2.t33, S2.n33]
    exact ⟨by omega, by omega, q⟩
theorem mg_88 {f r a n : Nat} {v : Nat → Int} (w0 : bm_W) (S : sh_Md m w0) (hf : f < 6) (h14 : bm_gi w0 (m + 14) f = (n : Int)) (hr : r < 72) (ha : m + 31 < a) (kt : bm_kt w0 a = 21) (kn : bm_kn w0 a = 3) (hv : ∀ c, c < n → bm_gi w0 a c = v c) (hq : ∀ w', q_fr (fun x => x = m + 24 ∨ x = m + 25) w0 w' → (∀ c, c < 3 → c < n → bm_gi w' (m + 24) (r * 3 + c) = v c ∧ bm_gi w' (m + 25) (r * 3 + c) = v c) → (∀ j, (j < r * 3 ∨ r * 3 + 3 ≤ j) → bm_gi w' (m + 24) j = bm_gi w0 (m + 24) j ∧ bm_gi w' (m + 25) j = bm_gi w0 (m + 25) j) → bk_X12_grow_88 (d + 1) Φ m (k : Int) (f : Int) a (r : Int) 3 w') : ∀ (rem c : Nat) (w : bm_W), c + rem = 3 → q_fr (fun x => x = m + 24 ∨ x = m + 25) w0 w → (∀ x, x < c → x < n → bm_gi w (m + 24) (r * 3 + x) = v x ∧ bm_gi w (m + 25) (r * 3 + x) = v x) → (∀ j, (j < r * 3 ∨ r * 3 + 3 ≤ j) → bm_gi w (m + 24) j = bm_gi w0 (m + 24) j ∧ bm_gi w (m + 25) j = bm_gi w0 (m + 25) j) → bk_X12_grow_88 (d + 1) Φ m (k : Int) (f : Int) a (r : Int) (c : Int) w
  | 0, c, w, hc, F, h1, h2 => by
    have : c = 3 := by omega
    subst this
    exact hq w F h1 h2
  | rem + 1, c, w, hc, F, h1, h2 => by
    have S1 := S.fr F
    have c3 : c < 3 := by omega
    have kt1 : bm_kt w a = 21 := by rw [F.kt]; exact kt
    have kn1 : bm_kn w a = 3 := by rw [F.kn]; exact kn
    have e14 : bm_gi w (m + 14) f = (n : Int) := (F.gi (by omega)).trans h14
    have ea : bm_gi w a c = bm_gi w0 a c := F.gi (by omega)
    have e3r : bm_w (3 * (r : Int)) = ((r * 3 : Nat) : Int) := by rw [q_wI ⟨by omega, by omega⟩]; omega
    refine vb_X12_grow_88 ?_
    rw [if_neg (fun z => by have := of_decide_eq_true z; omega)]
    simp only [bm_c0_v, bm_c1_v, bm_c2_v, bm_c3_v, bm_c4_v, bm_c5_v, bm_u_some, decide_eq_true_eq, true_and, and_true, and_self, Bool.not_eq_true, Bool.not_eq_true', decide_eq_false_iff_not, if_true, if_false, ite_true, ite_false, eq_self, S1.1, S1.1, S1.g20, S1.t20, S1.n20, bm_in, Int.toNat_natCast, e14, kt1, kn1, e3r, mm_setx (d := d) (X := r * 3) (c := c) S1 (show r * 3 + c < 216 by omega), bm_w1 (show c < 2147483647 by omega)]
    refine ⟨by omega, ?_⟩
    by_cases z : c < n
    · rw [if_neg (by omega)]
      have e := hv c z
      rw [← ea] at e
      refine ⟨by omega, by omega, ?_⟩
      rw [if_neg (by decide), e]
      refine mg_88 w0 S hf h14 hr ha kt kn hv hq rem (c + 1) _ (by omega) ((F.si (Or.inl rfl)).si (Or.inr rfl)) (fun x hx hx2 => ?_) (fun j hj => ?_)
      · by_cases y : x = c
        · subst y
          exact ⟨by rw [q_gi_ne (by omega), q_gi_eq], q_gi_eq⟩
        · rw [q_gi_ne (by omega), q_gi_nk (by omega), q_gi_nk (by omega), q_gi_ne (by omega)]
          exact h1 x (by omega) hx2
      · rw [q_gi_ne (by omega), q_gi_nk (by omega), q_gi_nk (by omega), q_gi_ne (by omega)]
        exact h2 j hj
    · rw [if_pos (by omega)]
      refine ⟨by omega, by omega, ?_⟩
      exact mg_88 w0 S hf h14 hr ha kt kn hv hq rem (c + 1) w (by omega) F (fun x hx hx2 => h1 x (by omega) hx2) h2
end MG

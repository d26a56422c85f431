/-! ===== what is kept of items, in the class ===== -/
/-- the code of functions up to g is the same -/
def fs_same (t g : Nat) (w w0 : bm_W) : Prop := ∀ h : Nat, h ≤ g → ∀ a j, (a = pg_fn (t + 4) (h : Int) ∨ a = pg_fn (t + 4) (h : Int) + 5 ∨ a = pg_fn (t + 4) (h : Int) + 6 ∨ a = pg_fn (t + 4) (h : Int) + 7) → bm_gi w0 a j = bm_gi w a j
/-- function g means D, wherever it and those ahead of it are kept -/
def qk (t g k : Nat) (D : q_D) (wt : Nat) (w : bm_W) : Prop := ∀ w0 : bm_W, fs_same t g w w0 → sh_Pg (t + 4) w0 → sh_Mc (t + 113) (t + 4) w0 → q_fun (t + 113) (t + 4) w0 (g : Int) k D wt (3 * g + 2)
theorem qk.mv {t g k wt : Nat} {D : q_D} {w w' : bm_W} (h : qk t g k D wt w) (hs : fs_same t g w w') : qk t g k D wt w' := fun w0 a b c => h w0 (fun x hx a' j ha => (a x hx a' j ha).trans (hs x hx a' j ha)) b c
/-- what is kept of a function -/
def yfn (t : Nat) (B : Int → Int) (g : Nat) (F : y_fn) (w : bm_W) : Prop := bm_gl w (pg_fn (t + 4) (g : Int)) 5 = t_V B F.1 ∧ yi (pg_fn (t + 4) (g : Int)) B F.2.1 w ∧ 1 ≤ F.2.1.length ∧ bm_gi w (pg_fn (t + 4) (g : Int)) 8 = (F.2.2.1 : Int) ∧ bm_gi w (pg_fn (t + 4) (g : Int)) 9 = (F.2.2.2.1 : Int) ∧ 1 ≤ F.2.2.2.1 ∧ F.2.2.2.1 ≤ 200 ∧ F.2.2.1 ≤ 50 ∧ qk t g F.2.1.length F.2.2.2.2 F.2.2.2.1 w
def yfs (t : Nat) (B : Int → Int) (fs : List y_fn) (w : bm_W) : Prop := bm_gi w (t + 4) 4 = (fs.length : Int) ∧ fs.length ≤ 6 ∧ ∀ g, g < fs.length → yfn t B g (fs.getD g y_f0) w
/-- a block of cells is the same -/
def q_bk (a n : Nat) (w w' : bm_W) : Prop := ∀ b, a ≤ b → b < a + n → ∀ j, bm_gi w' b j = bm_gi w b j ∧ bm_gl w' b j = bm_gl w b j
theorem q_bk.tr {a n : Nat} {w w1 w2 : bm_W} (h : q_bk a n w w1) (h2 : q_bk a n w1 w2) : q_bk a n w w2 := fun b x y j => ⟨(h2 b x y j).1.trans (h b x y j).1, (h2 b x y j).2.trans (h b x y j).2⟩
theorem yi.bk {f : Nat} {B : Int → Int} {ins : List y_in} {w w' : bm_W} (h : yi f B ins w) (hb : q_bk f 8 w w') : yi f B ins w' := by
  obtain ⟨a1, a2, a3, a4⟩ := h
  refine ⟨(hb f (by omega) (by omega) 6).1.trans a1, a2, fun i hi => ?_, fun i hi hi3 => ?_⟩
  · rw [(hb (f + 1) (by omega) (by omega) i).2, (hb (f + 3) (by omega) (by omega) i).1, (hb (f + 4) (by omega) (by omega) i).1]
    exact a3 i hi
  · rw [(hb (f + 3) (by omega) (by omega) i).1, (hb (f + 4) (by omega) (by omega) i).1]
    exact a4 i hi hi3
theorem yfn.bk {t g : Nat} {B : Int → Int} {F : y_fn} {w w' : bm_W} (h : yfn t B g F w) (hb : ∀ h : Nat, h ≤ g → q_bk (pg_fn (t + 4) (h : Int)) 8 w w') : yfn t B g F w' := by
  obtain ⟨a1, a2, a3, a4, a5, a6, a7, a8, a9⟩ := h
  have b := hb g (Nat.le_refl _)
  refine ⟨(b _ (Nat.le_refl _) (by omega) 5).2.trans a1, a2.bk b, a3, (b _ (Nat.le_refl _) (by omega) 8).1.trans a4, (b _ (Nat.le_refl _) (by omega) 9).1.trans a5, a6, a7, a8, a9.mv (fun x hx a j ha => ?_)⟩
  exact (hb x hx a (by omega) (by omega) j).1
theorem yfs.bk {t : Nat} {B : Int → Int} {fs : List y_fn} {w w' : bm_W} (h : yfs t B fs w) (h4 : bm_gi w' (t + 4) 4 = bm_gi w (t + 4) 4) (hb : ∀ h : Nat, h < fs.length → q_bk (pg_fn (t + 4) (h : Int)) 8 w w') : yfs t B fs w' :=
  ⟨h4.trans h.1, h.2.1, fun g hg => (h.2.2 g hg).bk (fun x hx => hb x (by omega))⟩
/-- what is kept of a row -/
def yrw (r : Nat) (R : y_rw) (w : bm_W) : Prop := (∀ c, c < 3 → bm_gi w (r + 2) c = (R.1.getD c (0, 0)).1 ∧ bm_gi w (r + 3) c = (R.1.getD c (0, 0)).2) ∧ bm_gi w r 1 = R.2.1 ∧ bm_gl w r 2 = R.2.2
theorem yrw.bk {r : Nat} {R : y_rw} {w w' : bm_W} (h : yrw r R w) (hb : q_bk r 4 w w') : yrw r R w' := by
  obtain ⟨a1, a2, a3⟩ := h
  refine ⟨fun c hc => ?_, (hb r (by omega) (by omega) 1).1.trans a2, (hb r (by omega) (by omega) 2).2.trans a3⟩
  rw [(hb (r + 2) (by omega) (by omega) c).1, (hb (r + 3) (by omega) (by omega) c).1]
  exact a1 c hc
def y_r0 : y_rw := ([], 14, 0)
def y_t0 : y_tb := (0, 0, [])
/-- rows, as a table keeps them -/
def yrs (T : Nat) (rows : List y_rw) (w : bm_W) : Prop := bm_gi w T 5 = (rows.length : Int) ∧ rows.length ≤ 12 ∧ bm_gi w T 6 = y_ct rows ∧ 0 ≤ y_ct rows ∧ y_ct rows ≤ 70000 ∧ ∀ i, i < rows.length → ∃ r, bm_gr w (T + 1) i = some r ∧ yrw r (rows.getD i y_r0) w ∧ bm_gi w r 4 = 0
def ytb (t : Nat) (B : Int → Int) (k : Nat) (Tb : y_tb) (w : bm_W) : Prop := bm_gl w (pg_tb (t + 4) (k : Int)) 3 = t_V B Tb.1 ∧ bm_gi w (pg_tb (t + 4) (k : Int)) 4 = (Tb.2.1 : Int) ∧ yrs (pg_tb (t + 4) (k : Int)) Tb.2.2 w
def yts (t : Nat) (B : Int → Int) (ts : List y_tb) (w : bm_W) : Prop := bm_gi w (t + 4) 5 = (ts.length : Int) ∧ ts.length ≤ 6 ∧ ∀ k, k < ts.length → ytb t B k (ts.getD k y_t0) w
theorem yrs.bk {T : Nat} {rows : List y_rw} {w w' : bm_W} (h : yrs T rows w) (h1 : ∀ j, bm_gi w' T j = bm_gi w T j) (h2 : ∀ j, bm_gr w' (T + 1) j = bm_gr w (T + 1) j) (hb : ∀ i r, i < rows.length → bm_gr w (T + 1) i = some r → q_bk r 4 w w') : yrs T rows w' := by
  obtain ⟨a1, a2, a3, a4, a5, a6⟩ := h
  refine ⟨(h1 5).trans a1, a2, (h1 6).trans a3, a4, a5, fun i hi => ?_⟩
  obtain ⟨r, b1, b2, b3⟩ := a6 i hi
  have q := hb i r hi b1
  exact ⟨r, (h2 i).trans b1, b2.bk q, (q r (by omega) (by omega) 4).1.trans b3⟩
theorem ytb.bk {t k : Nat} {B : Int → Int} {Tb : y_tb} {w w' : bm_W} (h : ytb t B k Tb w) (h0 : ∀ j, bm_gl w' (pg_tb (t + 4) (k : Int)) j = bm_gl w (pg_tb (t + 4) (k : Int)) j) (h1 : ∀ j, bm_gi w' (pg_tb (t + 4) (k : Int)) j = bm_gi w (pg_tb (t + 4) (k : Int)) j) (h2 : ∀ j, bm_gr w' (pg_tb (t + 4) (k : Int) + 1) j = bm_gr w (pg_tb (t + 4) (k : Int) + 1) j) (hb : ∀ i r, i < 12 → bm_gr w (pg_tb (t + 4) (k : Int) + 1) i = some r → q_bk r 4 w w') : ytb t B k Tb w' :=
  ⟨(h0 3).trans h.1, (h1 4).trans h.2.1, h.2.2.bk h1 h2 (fun i r hi => hb i r (by have := h.2.2.2.1; omega))⟩
/-- null places of rows -/
def rw_n (g : Nat → Option Nat) : Nat → Nat
  | 0 => 0
  | n + 1 => rw_n g n + (if g n = none then 1 else 0)
def rm (t : Nat) (w : bm_W) : Nat := rw_n (bm_gr w (t + 16)) 12 + rw_n (bm_gr w (t + 71)) 12 + rw_n (bm_gr w (t + 78)) 12 + rw_n (bm_gr w (t + 85)) 12 + rw_n (bm_gr w (t + 92)) 12 + rw_n (bm_gr w (t + 99)) 12 + rw_n (bm_gr w (t + 106)) 12
/-- what compiling may change, and what room it takes -/
def kA (t a : Nat) : Prop := (t ≤ a ∧ a ≤ t + 112) ∨ t + 125 ≤ a
def kR (t a : Nat) : Prop := a = t + 112 ∨ (t + 16 ≤ a ∧ a ≤ t + 111) ∨ t + 125 ≤ a
def kf (t : Nat) (w w' : bm_W) : Prop := (∃ c s, q_gw (kA t) (kR t) c s w w') ∧ bm_sz w' + 4 * rm t w' = bm_sz w + 4 * rm t w ∧ bm_sl w' + 13 * rm t w' = bm_sl w + 13 * rm t w
theorem kf.rf {t : Nat} {w : bm_W} : kf t w w := ⟨⟨0, 0, q_gw.rf⟩, rfl, rfl⟩
theorem kf.tr {t : Nat} {w w1 w2 : bm_W} (h : kf t w w1) (h2 : kf t w1 w2) : kf t w w2 := by
  obtain ⟨⟨c, s, a1⟩, a2, a3⟩ := h
  obtain ⟨⟨c', s', b1⟩, b2, b3⟩ := h2
  exact ⟨⟨_, _, a1.tr b1⟩, by omega, by omega⟩
theorem rm_eq {t : Nat} {w w' : bm_W} (h : ∀ a, t ≤ a → a ≤ t + 111 → ∀ j, bm_gr w' a j = bm_gr w a j) : rm t w' = rm t w := by
  have e : ∀ a, t ≤ a → a ≤ t + 111 → bm_gr w' a = bm_gr w a := fun a x y => funext (h a x y)
  unfold rm
  rw [e _ (by omega) (by omega), e (t + 71) (by omega) (by omega), e (t + 78) (by omega) (by omega), e (t + 85) (by omega) (by omega), e (t + 92) (by omega) (by omega), e (t + 99) (by omega) (by omega), e (t + 106) (by omega) (by omega)]
theorem kf.of {A : Nat → Prop} {t : Nat} {w w' : bm_W} (h : q_fr A w w') (hA : ∀ a, A a → kA t a) : kf t w w' := by
  refine ⟨⟨0, 0, q_gw.of (h.mo hA)⟩, ?_, ?_⟩
  · rw [rm_eq (t := t) (w := w) (w' := w') (fun a _ _ j => by rw [h.gr]), h.sz]
  · rw [rm_eq (t := t) (w := w) (w' := w') (fun a _ _ j => by rw [h.gr]), h.sl]
theorem kf.sr {t k : Nat} {v : Option Nat} {w : bm_W} : kf t w (bm_sr w (t + 112) k v) := by
  refine ⟨⟨0, 0, q_gw.rf.sr (Or.inl (Or.inl rfl))⟩, ?_, ?_⟩
  · rw [rm_eq (t := t) (w := w) (w' := bm_sr w (t + 112) k v) (fun a _ _ j => q_gr_ne (by omega))]; rfl
  · rw [rm_eq (t := t) (w := w) (w' := bm_sr w (t + 112) k v) (fun a _ _ j => q_gr_ne (by omega))]; rfl
/-! no ifs outside of bodies -/
def f_noi (K : Nat → Int) (g : Bool × Nat → Bool × Nat) : Prop := ∀ s : Bool × Nat, (g s).1 = false → s.1 = false ∧ y_I K (g s).2 = y_I K s.2
theorem f_noi.co {K : Nat → Int} {g g' : Bool × Nat → Bool × Nat} (h : f_noi K g) (h' : f_noi K g') : f_noi K (fun s => g' (g s)) := fun s z => by
  obtain ⟨a1, a2⟩ := h' (g s) z
  obtain ⟨b1, b2⟩ := h s a1
  exact ⟨b1, a2.trans b2⟩
section NI
variable {K : Nat → Int}
theorem y_I_no {q : Nat} (h : K q ≠ 6) : y_I K (q + 1) = y_I K q := t_n_0 (by unfold f_if; rw [decide_eq_false_iff_not]; exact h)
theorem f_noi_x {k : Int} (hk : k ≠ 6) : f_noi K (f_x K k) := fun s z => by
  have := f_exp_k (L := f_T) z
  rw [this.2.2.2]
  exact ⟨this.2.1, y_I_no (by rw [this.2.2.1]; exact hk)⟩
theorem f_noi_opt {k : Int} (hk : k ≠ 6) : f_noi K (f_opt K k) := fun s z => by
  unfold f_opt at z ⊢
  by_cases c : f_see K f_T s k k
  · rw [if_pos c]
    exact ⟨c.1, y_I_no (by have := c.2.2; omega)⟩
  · rw [if_neg c] at z ⊢
    exact ⟨z, rfl⟩
theorem f_noi_wh : f_noi K (f_wh K) := (f_noi_opt (by decide)).co (f_noi_x (by decide))
theorem f_noi_inp : f_noi K (f_inp K) := ((((f_noi_x (by decide)).co (f_noi_x (by decide))).co f_noi_wh).co (f_noi_x (by decide))).co f_noi_wh
theorem f_noi_or {g g' : Bool × Nat → Bool × Nat} {k : Int} (hg : f_noi K g) (hg' : f_noi K g') (hk : k ≠ 6) : f_noi K (fun s => if f_see K f_T (g s) k k then g' (false, (g s).2 + 1) else g s) := fun s z => by
  by_cases c : f_see K f_T (g s) k k
  · simp only [if_pos c] at z ⊢
    have a := hg s c.1
    have b := hg' (false, (g s).2 + 1) z
    refine ⟨a.1, b.2.trans (Eq.trans ?_ a.2)⟩
    exact y_I_no (by have := c.2.2; omega)
  · simp only [if_neg c] at z ⊢
    exact hg s z
theorem f_noi_no : f_noi K (fun s => (true, s.2)) := fun s z => by cases z
theorem f_noi_ins : ∀ n, f_noi K (f_ins K n)
  | 0 => f_noi_no
  | n + 1 => f_noi_or f_noi_inp (f_noi_ins n) (by decide)
theorem f_noi_cel : f_noi K (f_cel K) := fun s z => by
  unfold f_cel at z ⊢
  by_cases c : f_see K f_T s 30 30
  · rw [if_pos c]
    exact ⟨c.1, y_I_no (by have := c.2.2; omega)⟩
  · rw [if_neg c] at z ⊢
    exact f_noi_or f_noi_wh f_noi_wh (by decide) s z
theorem f_noi_cls : ∀ n, f_noi K (f_cls K n)
  | 0 => f_noi_no
  | n + 1 => f_noi_or f_noi_cel (f_noi_cls n) (by decide)
theorem f_noi_res : f_noi K (f_res K) := fun s z => by
  unfold f_res at z ⊢
  by_cases c : f_see K f_T s 22 27
  · rw [if_pos c] at z ⊢
    have b := f_noi_wh (false, s.2 + 1) z
    exact ⟨c.1, b.2.trans (y_I_no (by have := c.2.2; omega))⟩
  · rw [if_neg c] at z ⊢
    by_cases c2 : f_see K f_T s 14 14
    · rw [if_pos c2]
      exact ⟨c2.1, y_I_no (by have := c2.2.2; omega)⟩
    · rw [if_neg c2] at z ⊢
      exact f_noi_x (by decide) s z
/-- ahead of a body -/
def f_hd (K : Nat → Int) (s : Bool × Nat) : Bool × Nat := f_x K 22 (f_x K 17 (f_ins K f_T (f_x K 16 (f_x K 3 s))))
theorem f_far_hd {N : Nat} (h0 : K N = 0) : f_far K N (f_hd K) := ((((f_far_x h0 (by decide)).co (f_far_x h0 (by decide))).co (f_far_ins h0 f_T)).co (f_far_x h0 (by decide))).co (f_far_x h0 (by decide))
end NI
/-- what holds while items are read -/
def ci (t N : Nat) (B : Int → Int) (s : Bool × Nat) (w : bm_W) : Prop := rt t N f_T B s w ∧ rk t w ∧ sh_Pg (t + 4) w ∧ sh_Mc (t + 113) (t + 4) w ∧ rw_ok t w ∧ (0 ≤ bm_gi w (t + 4) 4 ∧ bm_gi w (t + 4) 4 ≤ 6) ∧ (0 ≤ bm_gi w (t + 4) 5 ∧ bm_gi w (t + 4) 5 ≤ 6) ∧ ∀ i : Int, 0 ≤ bm_gi w (pg_fn (t + 4) i) 6 ∧ bm_gi w (pg_fn (t + 4) i) 6 ≤ 3
/-- what is told so far, if there is no error so far -/
def yl (t : Nat) (B : Int → Int) (pr : y_pr) (q : Nat) (w : bm_W) : Prop := yfs t B pr.1 w ∧ yts t B pr.2 w ∧ bm_gi w (t + 4) 6 = (y_I (t_K B) q : Int)
theorem rt.same {t N L : Nat} {B : Int → Int} {s : Bool × Nat} {w w' : bm_W} (h : rt t N L B s w) (hs : sh_Tk t w') (hi : ∀ a j, t ≤ a → a ≤ t + 2 → bm_gi w' a j = bm_gi w a j) (hl : ∀ j, bm_gl w' (t + 3) j = bm_gl w (t + 3) j) : rt t N L B s w' := by
  obtain ⟨⟨a1, a2, a3, a4⟩, b1, b2, b3, b4⟩ := h
  refine ⟨⟨hs, fun j hj => ?_, a3, a4⟩, (hi _ _ (by omega) (by omega)).trans b1, (hi _ _ (by omega) (by omega)).trans b2, (hi _ _ (by omega) (by omega)).trans b3, b4⟩
  rw [hi _ _ (by omega) (by omega), hi _ _ (by omega) (by omega), hl]
  exact a2 j hj

/-! ===== reading in the class: a function behind its inputs ===== -/
theorem y_P_le {K : Nat → Int} {fst : Nat} : ∀ x, fst ≤ x → y_P K fst x + fst ≤ x
  | 0, h => by rw [y_P_0 K fst 0 (Nat.zero_le _)]; omega
  | x + 1, h => by
    rcases Nat.lt_or_ge x fst with z | z
    · rw [y_P_0 K fst (x + 1) (by omega)]; omega
    · have := y_P_le (K := K) x z
      show t_n (y_pb K fst) (x + 1) + fst ≤ x + 1
      have e : t_n (y_pb K fst) x = y_P K fst x := rfl
      cases c : y_pb K fst x with
      | true => rw [t_n_1 c, e]; omega
      | false => rw [t_n_0 c, e]; omega
theorem f_bod_rng {K : Nat → Int} {s : Bool × Nat} : s.2 ≤ (f_bod K s).2 ∧ (f_bod K s).2 ≤ s.2 + 50 ∧ ((f_bod K s).1 = false → s.2 < (f_bod K s).2) := by
  have := f_ex_rng (K := K) (L := s.2 + 50) (M := s.2 + 50) (fun q _ a _ => a) 415 6 0 s (by decide) (by omega)
  exact ⟨this.1, this.2.1, fun z => this.2.2 z (by decide)⟩
theorem pg_fn_r (p : Nat) (i : Int) : p + 3 ≤ pg_fn p i ∧ pg_fn p i ≤ p + 58 := ⟨(pg_fn_rng p i).1, (pg_fn_rng p i).2.1⟩
def y_fun3 (K V : Nat → Int) (pr : y_pr) (ins : List y_in) (p q : Nat) : (Int × Nat) ⊕ y_pr := match m_ex K V (q + 2 + 50) (y_P K (q + 2)) (y_I K) (y_E V pr.1 ins) 415 6 0 (q + 2) [] with
  | .inl e => .inl e
  | .inr (l, z) => if 200 < (f_bod K (false, q + 2)).2 - (q + 2) + z then .inl (4, p + 1) else .inr (pr.1 ++ [(p + 1, ins, y_P K (q + 2) (f_bod K (false, q + 2)).2, (f_bod K (false, q + 2)).2 - (q + 2) + z, m_hd l)], pr.2)
theorem y_fun_eq {K V : Nat → Int} {pr : y_pr} {p : Nat} : y_fun K V pr p = if 6 ≤ pr.1.length then .inl (4, p) else if y_tk V pr (V (p + 1)) then .inl (3, p + 1) else y_b (y_ins K V f_T [] (p + 3)) fun ins => y_fun3 K V pr ins p (f_ins K f_T (false, p + 3)).2 := by
  unfold y_fun y_fun3
  rfl
theorem ci.mv {A : Nat → Prop} {t N : Nat} {B : Int → Int} {s s' : Bool × Nat} {w w' : bm_W} (h : ci t N B s w) (hf : q_fr A w w') (hr : rt t N f_T B s' w') (h4 : 0 ≤ bm_gi w' (t + 4) 4 ∧ bm_gi w' (t + 4) 4 ≤ 6) (h5 : 0 ≤ bm_gi w' (t + 4) 5 ∧ bm_gi w' (t + 4) 5 ≤ 6) (h6 : ∀ i : Int, 0 ≤ bm_gi w' (pg_fn (t + 4) i) 6 ∧ bm_gi w' (pg_fn (t + 4) i) 6 ≤ 3) : ci t N B s' w' := by
  obtain ⟨a1, a2, a3, a4, a5, -⟩ := h
  exact ⟨hr, ⟨by rw [hf.kt]; exact a2.1, by rw [hf.gr]; exact a2.2.1, by rw [hf.gr]; exact a2.2.2⟩, a3.fr hf, a4.fr hf, a5.fr hf, h4, h5, h6⟩
/-- tokens and complaint alone have changed -/
theorem ci.tf {t N : Nat} {B : Int → Int} {s s' : Bool × Nat} {w w' : bm_W} (h : ci t N B s w) (hf : tf t w w') (hr : rt t N f_T B s' w') : ci t N B s' w' := by
  have h6 := h.2.2.2.2.2
  refine h.mv hf.1 hr ?_ ?_ (fun i => ?_)
  · rw [hf.1.gi (by omega)]; exact h6.1
  · rw [hf.1.gi (by omega)]; exact h6.2.1
  · have := pg_fn_r (t + 4) i
    rw [hf.1.gi (by omega)]; exact h6.2.2 i
theorem kf.tf {t : Nat} {w w' : bm_W} (h : tf t w w') : kf t w w' := kf.of h.1 (fun a z => Or.inl (by omega))
/-- a function on the way: its name, its inputs stand -/
def yg (t : Nat) (B : Int → Int) (pr : y_pr) (ins : List y_in) (nm q : Nat) (w : bm_W) : Prop := yl t B pr q w ∧ pr.1.length < 6 ∧ bm_gl w (pg_fn (t + 4) (pr.1.length : Int)) 5 = t_V B nm ∧ yi (pg_fn (t + 4) (pr.1.length : Int)) B ins w ∧ 1 ≤ ins.length ∧ bm_gi w (pg_fn (t + 4) (pr.1.length : Int)) 7 = 0 ∧ bm_gi w (pg_fn (t + 4) (pr.1.length : Int)) 8 = 0 ∧ bm_gi w (pg_fn (t + 4) (pr.1.length : Int)) 9 = 0
/-- what is kept while only tokens and a function that isn't kept yet change -/
theorem yts.mv {t : Nat} {B : Int → Int} {ts : List y_tb} {w w' : bm_W} (h : yts t B ts w) (ho : rw_ok t w) (h5 : bm_gi w' (t + 4) 5 = bm_gi w (t + 4) 5) (hg : ∀ a j, t + 15 ≤ a → a ≤ t + 21 ∨ t + 70 ≤ a → a ≠ t + 112 → (bm_gi w' a j = bm_gi w a j ∧ bm_gl w' a j = bm_gl w a j) ∧ bm_gr w' a j = bm_gr w a j) : yts t B ts w' := by
  refine ⟨h5.trans h.1, h.2.1, fun k hk => ?_⟩
  have rg := pg_tb_rng (t + 4) (k : Int)
  have b := hg (pg_tb (t + 4) (k : Int))
  have b1 := hg (pg_tb (t + 4) (k : Int) + 1)
  refine (h.2.2 k hk).bk (fun j => (b j (by omega) (by omega) (by omega)).1.2) (fun j => (b j (by omega) (by omega) (by omega)).1.1) (fun j => (b1 j (by omega) (by omega) (by omega)).2) (fun i r hi hr => ?_)
  have := ho.2.1 _ i r ⟨⟨_, rfl⟩, hi, hr⟩
  exact fun a x y j => (hg a j (by omega) (by omega) (by omega)).1
section RF
variable {d t N : Nat} {B : Int → Int} {s : Bool × Nat} {w : bm_W} {Φ : bm_Rt → bm_W → Prop} {pr : y_pr} {ins : List y_in} {p f : Nat}
theorem yg.ev (h : yg t B pr ins p s.2 w) : ev t (pg_fn (t + 4) (pr.1.length : Int)) ins.length (y_E (t_V B) pr.1 ins) (pr.1.length : Int) w ∧ he0 (y_E (t_V B) pr.1 ins) (pr.1.length : Int) ins.length ∧ e_sz (y_E (t_V B) pr.1 ins) (pr.1.length : Int) := by
  obtain ⟨⟨y1, y2, y3⟩, y4, y5, y6, y7, y8, y9, y10⟩ := h
  have sz : ∀ g : Nat, g < pr.1.length → 1 ≤ (pr.1.getD g y_f0).2.2.2.1 ∧ (pr.1.getD g y_f0).2.2.2.1 ≤ 200 := fun g hg => ⟨(y1.2.2 g hg).2.2.2.2.2.1, (y1.2.2 g hg).2.2.2.2.2.2.1⟩
  have := y_he (V := t_V B) (ins := ins) sz
  refine ⟨⟨y1.1, y6.1, fun v => y6.ix, fun v => ?_, fun g g0 g1 => ?_⟩, ⟨this.1, this.2.1⟩, this.2.2⟩
  · have := pg_nl_ix (w := w) (p := t + 4) (v := v) (V := t_V B) 7 0 (pr.1.map (·.1)) (by rw [List.length_map]; omega) (by rw [List.length_map, Nat.zero_add]; exact y1.1) (fun j hj => by
      rw [List.length_map] at hj
      rw [q_gdm (a := y_f0) hj, Nat.zero_add]
      exact (y1.2.2 j hj).1)
    exact this
  · obtain ⟨n, rfl⟩ : ∃ n : Nat, g = (n : Int) := ⟨g.toNat, by omega⟩
    have a := y1.2.2 n (by omega)
    refine ⟨a.2.1.1.trans ?_, fun _ => a.2.2.2.2.1⟩
    show _ = (((pr.1.getD (n : Int).toNat y_f0).2.1.length : Nat) : Int)
    rw [Int.toNat_natCast]
/-- names of a program whose names nobody looks at -/
theorem ev.dead (hf : f = pg_fn (t + 4) (bm_gi w (t + 4) 4)) (h6 : ∀ i : Int, 0 ≤ bm_gi w (pg_fn (t + 4) i) 6 ∧ bm_gi w (pg_fn (t + 4) i) 6 ≤ 3) (h0 : 0 ≤ bm_gi w (t + 4) 4) : ∃ (E : q_E) (k : Nat), k ≤ 3 ∧ ev t f k E (bm_gi w (t + 4) 4) w ∧ he0 E (bm_gi w (t + 4) 4) k := by
  have f6 := h6 (bm_gi w (t + 4) 4)
  rw [← hf] at f6
  refine ⟨(fun v => fn_in w f v, fun v => pg_nm w (t + 4) v, fun g => (bm_gi w (pg_fn (t + 4) g) 6).toNat, fun _ => 0, fun _ => d_num 0 0), (bm_gi w f 6).toNat, by omega, ⟨rfl, by omega, fun _ => rfl, fun _ => rfl, fun g g0 g1 => ⟨?_, fun z => ?_⟩⟩, fun v => ?_, fun v => ?_⟩
  · have := h6 g
    show _ = (((bm_gi w (pg_fn (t + 4) g) 6).toNat : Nat) : Int)
    omega
  · have := (z g g0 g1).1
    simp only at this
    omega
  · show -1 ≤ fn_in w f v ∧ fn_in w f v < _
    unfold fn_in
    split
    · omega
    · split
      · omega
      · split
        · omega
        · omega
  · show -1 ≤ pg_nm w (t + 4) v ∧ pg_nm w (t + 4) v < _
    rcases pg_nl_rng (w := w) (p := t + 4) (v := v) 7 0 (Int.le_refl _) with z | z
    · unfold pg_nm
      rw [z]
      omega
    · unfold pg_nm
      omega
theorem yl.tf {q q' : Nat} {w' : bm_W} (h : yl t B pr q w) (ho : rw_ok t w) (hf : tf t w w') (hI : y_I (t_K B) q' = y_I (t_K B) q) : yl t B pr q' w' := by
  refine ⟨h.1.bk (hf.1.gi (by omega)) (fun x _ a u v j => ?_), h.2.1.mv ho (hf.1.gi (by omega)) (fun a j u v z => ⟨⟨hf.1.gi (by omega), by rw [hf.2.2.2]⟩, by rw [hf.1.gr]⟩), ?_⟩
  · have := pg_fn_r (t + 4) (x : Int)
    exact ⟨hf.1.gi (by omega), by rw [hf.2.2.2]⟩
  · rw [hf.1.gi (by omega), hI]
    exact h.2.2
theorem yg.tf {q q' : Nat} {w' : bm_W} (h : yg t B pr ins p q w) (ho : rw_ok t w) (hf : tf t w w') (hI : y_I (t_K B) q' = y_I (t_K B) q) : yg t B pr ins p q' w' := by
  obtain ⟨y1, y4, y5, y6, y7, y8, y9, y10⟩ := h
  have := pg_fn_r (t + 4) (pr.1.length : Int)
  have g : ∀ j, bm_gi w' (pg_fn (t + 4) (pr.1.length : Int)) j = bm_gi w (pg_fn (t + 4) (pr.1.length : Int)) j := fun j => hf.1.gi (by omega)
  exact ⟨y1.tf ho hf hI, y4, by rw [hf.2.2.2]; exact y5, y6.tf hf (by omega) (by omega), y7, (g 7).trans y8, (g 8).trans y9, (g 9).trans y10⟩
/-- a body is read: a function stands -/
theorem yg.done {q : Nat} {w' : bm_W} {l : List q_D} {z c1 : Nat} (h : yg t B pr ins p q w) (ho : rw_ok t w) (hb : bf t (pg_fn (t + 4) (pr.1.length : Int)) w w') (hok : (f_bod (t_K B) (false, q)).1 = false) (lf1 : lf t (pg_fn (t + 4) (pr.1.length : Int)) (y_P (t_K B) q) (y_I (t_K B)) w' c1 (f_bod (t_K B) (false, q)).2) (hc : c1 ≤ 100) (h9 : bm_gi w' (pg_fn (t + 4) (pr.1.length : Int)) 9 = ((f_bod (t_K B) (false, q)).2 : Int) - q + z) (hqs : qs t (pg_fn (t + 4) (pr.1.length : Int)) ins.length (y_E (t_V B) pr.1 ins) (pr.1.length : Int) w' 0 c1 (m_hd l) ((f_bod (t_K B) (false, q)).2 - q + z)) (h2 : (f_bod (t_K B) (false, q)).2 - q + z ≤ 200) :
    yl t B pr (f_bod (t_K B) (false, q)).2 w' ∧ yfn t B pr.1.length (p, ins, y_P (t_K B) q (f_bod (t_K B) (false, q)).2, (f_bod (t_K B) (false, q)).2 - q + z, m_hd l) w' := by
  obtain ⟨⟨y1, y2, y3⟩, y4, y5, y6, y7, y8, y9, y10⟩ := h
  have rf := pg_fn_r (t + 4) (pr.1.length : Int)
  have ef : pg_fn (t + 4) (pr.1.length : Int) = t + 22 + 8 * pr.1.length := by
    unfold pg_fn
    rw [if_pos (by omega)]
    omega
  have rb := f_bod_rng (K := t_K B) (s := (false, q))
  simp only at rb
  have blk : ∀ x : Nat, x < pr.1.length → q_bk (pg_fn (t + 4) (x : Int)) 8 w w' := fun x hx a u v j => by
    have r1 := pg_fn_r (t + 4) (x : Int)
    have r2 := pg_fn_ne (p := t + 4) (i := (x : Int)) (j := (pr.1.length : Int)) (by omega) (by omega) (by omega)
    exact ⟨hb.1.gi (by omega), by rw [hb.2.2.2.2.2]⟩
  have ys : yfs t B pr.1 w' := y1.bk (hb.2.2.1 4 (by decide)) blk
  refine ⟨⟨ys, y2.mv ho (hb.2.2.1 5 (by decide)) (fun a j u v zz => ⟨⟨hb.1.gi (by omega), by rw [hb.2.2.2.2.2]⟩, by rw [hb.1.gr]⟩), lf1.2.2⟩, ?_⟩
  have k0 : ∀ k, k < 7 ∨ 9 < k → bm_gi w' (pg_fn (t + 4) (pr.1.length : Int)) k = bm_gi w (pg_fn (t + 4) (pr.1.length : Int)) k := hb.2.2.2.2.1
  have yi' : yi (pg_fn (t + 4) (pr.1.length : Int)) B ins w' := by
    obtain ⟨i1, i2, i3, i4⟩ := y6
    refine ⟨(k0 6 (by decide)).trans i1, i2, fun i hi => ?_, fun i hi hi3 => ?_⟩
    · rw [hb.2.2.2.2.2, hb.1.gi (by omega), hb.1.gi (by omega)]; exact i3 i hi
    · rw [hb.1.gi (by omega), hb.1.gi (by omega)]; exact i4 i hi hi3
  have ple := y_P_le (K := t_K B) (fst := q) (f_bod (t_K B) (false, q)).2 rb.1
  refine ⟨by rw [hb.2.2.2.2.2]; exact y5, yi', y7, lf1.2.1, ?_, ?_, h2, ?_, ?_⟩
  · rw [h9]
    show _ = (((f_bod (t_K B) (false, q)).2 - q + z : Nat) : Int)
    have := rb.1
    omega
  · have := rb.2.2 hok
    show 1 ≤ (f_bod (t_K B) (false, q)).2 - q + z
    omega
  · show y_P (t_K B) q (f_bod (t_K B) (false, q)).2 ≤ 50
    omega
  · intro w0 hs hP hM
    have g0 := hs pr.1.length (Nat.le_refl _)
    have cd : q_cd (t + 113) (t + 4) (pg_fn (t + 4) (pr.1.length : Int)) w0 := ⟨hM, hP.fn _, by rw [g0 _ 7 (Or.inl rfl), lf1.1]; omega, fun j hj => by omega⟩
    refine ⟨cd, ?_, c1, ?_, ?_⟩
    · rw [g0 _ 6 (Or.inl rfl)]; exact yi'.1
    · rw [g0 _ 7 (Or.inl rfl)]; exact lf1.1
    · have := hqs w0 (fun j a ha _ _ => g0 a j (Or.inr ha)) ⟨cd, by rw [g0 _ 7 (Or.inl rfl), lf1.1]; omega, hP, fun g g1 g2 => ?_⟩
      · rw [Int.toNat_natCast] at this
        exact this
      · obtain ⟨n, rfl⟩ : ∃ n : Nat, g = (n : Int) := ⟨g.toNat, by omega⟩
        have a := (ys.2.2 n (by omega)).2.2.2.2.2.2.2.2 w0 (fun x hx => hs x (by omega)) hP hM
        show q_fun _ _ w0 (n : Int) (pr.1.getD (n : Int).toNat y_f0).2.1.length (pr.1.getD (n : Int).toNat y_f0).2.2.2.2 (pr.1.getD (n : Int).toNat y_f0).2.2.2.1 _
        rw [Int.toNat_natCast]
        exact a
end RF

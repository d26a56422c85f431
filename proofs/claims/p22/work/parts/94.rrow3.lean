/-! ===== reading in the class: rows, all of it ===== -/
section RR
variable {d t f T r N c : Nat} {B : Int → Int} {s : Bool × Nat} {w : bm_W} {Φ : bm_Rt → bm_W → Prop} {pr : y_pr} {nm g p : Nat} {rows : List y_rw} {l : List (Int × Int)}
/-- the row is kept -/
theorem yk_keep {q : Nat} {x : Int × Int} (h : yh t B pr nm g rows q w ∧ rows.length < 12 ∧ ycl r (pr.1.getD g y_f0).2.1 c l w ∧ bm_gr w (pg_tb (t + 4) (pr.2.length : Int) + 1) rows.length = some r ∧ bm_gi w r 4 = 0) (ho : rw_ok t w) (hT : T = pg_tb (t + 4) (pr.2.length : Int)) (hrT : t + 125 ≤ r) (hap : ∀ T' j r', rw_at t w T' j r' → (T' = T ∧ (j : Int) = bm_gi w T 5) ∨ r' + 4 ≤ r ∨ r + 4 ≤ r') (hc : c = (pr.1.getD g y_f0).2.1.length) (h12 : bm_gi w r 1 = x.1 ∧ bm_gl w r 2 = x.2) :
    yl t B pr q (tb_keep w T) ∧ yrs T (rows ++ [(l, x)]) (tb_keep w T) ∧ bm_gl (tb_keep w T) T 3 = t_V B nm ∧ bm_gi (tb_keep w T) T 4 = (g : Int) := by
  obtain ⟨⟨⟨a1, a2, a3⟩, a4, a5, a6, a7, a8, a9⟩, b1, b2, b3, b5⟩ := h
  rw [← hT] at a6 a7 a8 b3
  have e := pg_tb_in (t + 4) pr.2.length a4
  rw [← hT] at e
  obtain ⟨u1, u2, u3, u4, u5, u6⟩ := a8
  have hyi := (a1.2.2 g a5).2.1
  obtain ⟨v1, v2, v3, v4⟩ := b2
  have ll : l.length = (pr.1.getD g y_f0).2.1.length := by rw [v3, hc]; omega
  have er : tb_row w T (bm_gi w T 5) = r := by
    unfold tb_row
    rw [u1, if_pos ⟨by omega, by omega⟩, Int.toNat_natCast, b3]
    rfl
  have rng : ∀ i, i < 3 → bm_gi w (r + 2) i = (l.getD i (0, 0)).1 ∧ bm_gi w (r + 3) i = (l.getD i (0, 0)).2 := fun i hi => by
    rcases Nat.lt_or_ge i l.length with z | z
    · exact v1 i z
    · have := v2 i (by omega) hi
      rw [List.getD_eq_getElem?_getD, List.getElem?_eq_none z]
      exact this
  have fair : ∀ i, i < l.length → -20 ≤ (l.getD i (0, 0)).1 ∧ (l.getD i (0, 0)).1 ≤ (l.getD i (0, 0)).2 ∧ (l.getD i (0, 0)).2 ≤ 20 := fun i hi => by
    have x1 := v4 i hi
    have x2 := hyi.2.2.1 i (by omega)
    omega
  have rc := yrw_rc rng (by have := hyi.2.1; omega) fair
  have lt : ¬ 12 ≤ bm_gi w T 5 := by omega
  have s6 : bm_w (bm_gi w T 6 + rg_rc w (r + 1)) = y_ct rows + y_cs l := by rw [u3, rc.1, q_wI ⟨by omega, by omega⟩]
  have s5 : bm_w (bm_gi (bm_si w T 6 (y_ct rows + y_cs l)) T 5 + 1) = ((rows.length + 1 : Nat) : Int) := by rw [q_gi_nk (by decide), u1, q_wI ⟨by omega, by omega⟩]; omega
  have ek : tb_keep w T = bm_si (bm_si w T 6 (y_ct rows + y_cs l)) T 5 ((rows.length + 1 : Nat) : Int) := by
    have s5' : bm_w (bm_gi w T 5 + 1) = ((rows.length + 1 : Nat) : Int) := by rw [u1, q_wI ⟨by omega, by omega⟩]; omega
    unfold tb_keep
    rw [if_neg lt, er, s6]
    first
      | rw [s5]
      | rw [s5']
  rw [ek]
  have F : q_fr (fun a => a = T) w (bm_si (bm_si w T 6 (y_ct rows + y_cs l)) T 5 ((rows.length + 1 : Nat) : Int)) := q_fr.si (A := fun a => a = T) (q_fr.si q_fr.rf rfl) rfl
  have os := ho.1
  refine ⟨⟨a1.bk (F.gi (by omega)) (fun x hx a u v j => ?_), a2.mvT ho hT (fun k hk => ?_) (F.gi (by omega)) (Or.inr hrT) (fun T' j r' at1 ne => ?_) (fun a j _ hn => ⟨F.gi (by omega), F.gl (by omega)⟩) (fun a j _ _ _ => by rw [F.gr]), by rw [F.gi (by omega)]; exact a3⟩, ⟨?_, ?_, ?_, ?_, ?_, fun i hi => ?_⟩, by rw [show bm_gl (bm_si (bm_si w T 6 (y_ct rows + y_cs l)) T 5 ((rows.length + 1 : Nat) : Int)) T 3 = bm_gl w T 3 from rfl]; exact a6, ?_⟩
  · have := pg_fn_off t (x : Int)
    exact ⟨F.gi (by omega), F.gl (by omega)⟩
  · rw [pg_tb_in (t + 4) k (by omega), e]
    omega
  · exact (hap _ _ _ at1).resolve_left (fun z => ne z.1)
  · rw [q_gi_eq, List.length_append]; rfl
  · rw [List.length_append]; simp; omega
  · rw [q_gi_nk (by decide), q_gi_eq, y_ct_app]
  · rw [y_ct_app]; simp only; omega
  · rw [y_ct_app]; simp only; omega
  · rw [List.length_append, List.length_singleton] at hi
    rw [F.gr]
    by_cases z : i = rows.length
    · subst z
      have ne : r ≠ T := by omega
      refine ⟨r, b3, ?_, by rw [F.gi (by omega)]; exact b5⟩
      rw [q_gde rfl]
      refine ⟨fun c hc => ?_, ?_, ?_⟩
      · rw [F.gi (by omega), F.gi (by omega)]; exact rng c hc
      · rw [F.gi (by omega)]; exact h12.1
      · rw [F.gl (by omega)]; exact h12.2
    · obtain ⟨r', q1, q2, q3⟩ := u6 i (by omega)
      have at1 : rw_at t w T i r' := ⟨⟨_, hT⟩, by omega, q1⟩
      have o1 := ho.2.1 _ _ _ at1
      refine ⟨r', q1, ?_, by rw [F.gi (by omega)]; exact q3⟩
      rw [q_gdl (by omega)]
      exact q2.bk (fun b x y j => ⟨F.gi (by omega), F.gl (by omega)⟩)
  · rw [q_gi_nk (by decide), q_gi_nk (by decide)]; exact a7
theorem rd_row73 {x : Int} (hc : ci t N B s w) (hgT : bm_gr w (t + 112) 5 = some T) (hT : T = pg_tb (t + 4) (bm_gi w (t + 4) 5)) (hg : bm_gr w (t + 112) 4 = some f) (hff : ∃ i : Int, f = pg_fn (t + 4) i) (hr : sh_Rw r w) (hrT : r = T + 2 ∨ t + 125 ≤ r) (hrn : 0 ≤ bm_gi w T 5 → bm_gi w T 5 < 12 → t + 125 ≤ r) (hap : ∀ T' j r', rw_at t w T' j r' → (T' = T ∧ (j : Int) = bm_gi w T 5) ∨ r' + 4 ≤ r ∨ r + 4 ≤ r') (hx : x = t_P B p)
    (hl : s.1 = false → bm_gi w (t + 112) 2 = 0 → yk t B pr nm g rows r c l s.2 w ∧ f = pg_fn (t + 4) (g : Int))
    (hq : ∀ w', ci t N B (f_res (t_K B) (f_x (t_K B) 20 s)) w' → kf t w w' → bm_gr w' = bm_gr w → bm_gi w' (t + 4) 5 = bm_gi w (t + 4) 5 → pz t B (f_res (t_K B) (f_x (t_K B) 20 s)) (y_row73 (t_K B) (t_V B) (pr.1.getD g y_f0).2.1 rows p c l s.2) (fun rows' => yh t B pr nm g rows' (f_res (t_K B) (f_x (t_K B) 20 s)).2 w') w w' → Φ (.inl none) w') : bk_X0_readRow_73 (d + 5) Φ (t + 112) x r (c : Int) w := by
  subst hx
  have hcc := hc
  obtain ⟨c1, c2, c3, c4, c5, c6, c7, c8⟩ := hc
  have offT := pg_tb_off t (bm_gi w (t + 4) 5)
  rw [← hT] at offT
  have hrp : rp t r := by unfold rp; omega
  have hf : sh_Fn f w := by
    obtain ⟨i, hi⟩ := hff
    rw [hi]; exact c3.fn i
  have hTb : sh_Tb T w := by rw [hT]; exact c3.tb _
  have offF : f = t + 7 ∨ (t + 22 ≤ f ∧ f ≤ t + 62) := by
    obtain ⟨i, hi⟩ := hff
    rw [hi]; exact pg_fn_off t i
  have rne : r ≠ T ∧ r ≠ t ∧ r ≠ t + 4 ∧ r ≠ t + 112 := by omega
  -- behind the number of cells
  have tail : ∀ (w0 : bm_W) (r0 : (Int × Nat) ⊕ Unit), tf t w w0 → pz t B s r0 (fun _ => True) w w0 → (s.1 = false → bm_gi w (t + 112) 2 = 0 → r0 = if c ≠ (pr.1.getD g y_f0).2.1.length then .inl (6, p) else .inr ()) →
      ∀ w1, rt t N f_T B (f_x (t_K B) 20 s) w1 → tf t w0 w1 → cq t w0 w1 → (bm_kt w1 (t + 112) = 0) ∧ bm_Call bm_pg (d + 5) y_X0_readResult [bm_r (some (t + 112)), bm_r (some r)] w1 (fun r2 w2 =>
        bm_c0 ((bm_kt w2 (t + 112) = 0 ∧ bm_gr w2 (t + 112) 5 = some (bm_u (bm_gr w2 (t + 112) 5))) ∧
        (bm_kt w2 (bm_u (bm_gr w2 (t + 112) 5)) = 7) ∧ bm_Call bm_pg (d + 5) y_X7_keepRow [bm_r (some (bm_u (bm_gr w2 (t + 112) 5)))] w2 (fun r3 w3 =>
          bm_c0 ((bm_kt w3 (t + 112) = 0 ∧ bm_gr w3 (t + 112) 5 = some (bm_u (bm_gr w3 (t + 112) 5))) ∧
          (bm_kt w3 (bm_u (bm_gr w3 (t + 112) 5)) = 7) ∧
          (if (bm_gi w3 (bm_u (bm_gr w3 (t + 112) 5)) 6) ≤ (100 : Int) then
            Φ (.inl none) w3
          else
            (bm_kt w3 (t + 112) = 0) ∧ bm_Call bm_pg (d + 5) y_X0_complain [bm_r (some (t + 112)), bm_i (4 : Int), bm_i (t_P B p)] w3 (fun r4 w4 =>
              bm_c0 (Φ (.inl none) w4) (fun E => Φ (.inr E) w4) r4))) (fun E => Φ (.inr E) w3) r3)) (fun E => Φ (.inr E) w2) r2) := by
    intro w0 r0 f0 p0 e0 w1 h1 f1 q1
    have F1 := f0.tr f1
    have C1 := hcc.tf F1 h1
    have hk1 := C1.2.1
    have gT1 : bm_gr w1 (t + 112) 5 = some T := by rw [F1.1.gr]; exact hgT
    have nq : (f_x (t_K B) 20 s).1 = false → s.1 = false ∧ (f_x (t_K B) 20 s).2 = s.2 + 1 ∧ y_I (t_K B) (f_x (t_K B) 20 s).2 = y_I (t_K B) s.2 := fun z => by
      have a := f_noi_x (K := t_K B) (k := 20) (by decide) s z
      have b := f_x_ok z
      exact ⟨a.1, by rw [b.2.2], a.2⟩
    have L1 : (f_x (t_K B) 20 s).1 = false → bm_gi w (t + 112) 2 = 0 → yk t B pr nm g rows r c l (f_x (t_K B) 20 s).2 w1 := fun z c0 => (hl (nq z).1 c0).1.mv c5 (F1.1) (nq z).2.2
    have r1l : ∀ j, bm_gl w1 r j = bm_gl w r j := fun j => by rw [F1.2.2.2]
    refine ⟨hk1.1, rd_result (d := d + 1) h1 hk1 (hr.fr F1.1) hrp (fun z c0 => ?_) (fun w2 h2 n2 m2 p2 => ?_)⟩
    · have cz : bm_gi w (t + 112) 2 = 0 := (p0.z0 (nq z).1 ((q1 2).symm.trans c0)).1
      exact (L1 z cz).2.2.2.2.1
    rw [bm_c0_v]
    have gT2 : bm_gr w2 (t + 112) 5 = some T := by rw [n2.gr]; exact gT1
    have hTb2 : sh_Tb T w2 := (hTb.fr F1.1).fr n2
    have C2 : ci t N B (f_res (t_K B) (f_x (t_K B) 20 s)) w2 := by
      refine C1.mv n2 h2 ?_ ?_ (fun i => ?_)
      · rw [n2.gi (by omega)]; exact C1.2.2.2.2.2.1
      · rw [n2.gi (by omega)]; exact C1.2.2.2.2.2.2.1
      · have := pg_fn_off t i
        rw [n2.gi (by omega)]; exact C1.2.2.2.2.2.2.2 i
    have hk2 := C2.2.1
    simp only [bm_c0_v, bm_c1_v, bm_c2_v, bm_c3_v, bm_c4_v, bm_c5_v, bm_u_some, decide_eq_true_eq, true_and, and_true, and_self, Bool.not_eq_true, Bool.not_eq_true', decide_eq_false_iff_not, if_true, if_false, ite_true, ite_false, eq_self, hk2.1, gT2, hTb2.1, sp_keepRow hTb2]
    have KF : q_fr (fun a => a = T) w2 (tb_keep w2 T) := by
      unfold tb_keep
      split
      · exact q_fr.rf.si rfl
      · exact q_fr.si (A := fun a => a = T) (q_fr.si q_fr.rf rfl) rfl
    have C3 : ci t N B (f_res (t_K B) (f_x (t_K B) 20 s)) (tb_keep w2 T) := by
      refine C2.mv KF (h2.same (h2.1.1.fr KF) (fun a j _ _ => KF.gi (by omega)) (fun j => KF.gl (by omega))) ?_ ?_ (fun i => ?_)
      · rw [KF.gi (by omega)]; exact C2.2.2.2.2.2.1
      · rw [KF.gi (by omega)]; exact C2.2.2.2.2.2.2.1
      · have := pg_fn_off t i
        rw [KF.gi (by omega)]; exact C2.2.2.2.2.2.2.2 i
    have F02 : q_fr (fun a => a = t ∨ a = t + 112 ∨ a = T ∨ a = r) w (tb_keep w2 T) := ((F1.1.mo (fun a z => by omega)).tr (n2.mo (fun a z => by omega))).tr (KF.mo (fun a z => by omega))
    have K3 : kf t w (tb_keep w2 T) := kf.of F02 (fun a z => by unfold kA; omega)
    have q3 : cq t w2 (tb_keep w2 T) := fun j => KF.gi (by omega)
    -- what it tells
    have okR : (f_res (t_K B) (f_x (t_K B) 20 s)).1 = false → (f_x (t_K B) 20 s).1 = false ∧ y_I (t_K B) (f_res (t_K B) (f_x (t_K B) 20 s)).2 = y_I (t_K B) (f_x (t_K B) 20 s).2 := fun z => f_noi_res _ z
    have P2 := (p0.sil (s2 := f_x (t_K B) 20 s) (G' := fun _ => True) (fun z => (nq z).1) q1 (fun _ _ _ _ _ => trivial)).bind (s2 := f_res (t_K B) (f_x (t_K B) 20 s)) (k := fun _ => .inr (y_res (t_K B) (t_V B) (f_x (t_K B) 20 s).2)) (G := fun x => bm_gi w2 r 1 = x.1 ∧ bm_gl w2 r 2 = x.2) (w2 := w2) (fun z => (okR z).1) (fun z => ⟨(p2 z).1, fun a _ c0 _ => (p2 z).2 c0⟩)
    have LV : (f_res (t_K B) (f_x (t_K B) 20 s)).1 = false → bm_gi w (t + 112) 2 = 0 → bm_gi w2 r 1 = (y_res (t_K B) (t_V B) (s.2 + 1)).1 ∧ bm_gl w2 r 2 = (y_res (t_K B) (t_V B) (s.2 + 1)).2 → c = (pr.1.getD g y_f0).2.1.length → yl t B pr (f_res (t_K B) (f_x (t_K B) 20 s)).2 (tb_keep w2 T) ∧ yrs T (rows ++ [(l, y_res (t_K B) (t_V B) (s.2 + 1))]) (tb_keep w2 T) ∧ bm_gl (tb_keep w2 T) T 3 = t_V B nm ∧ bm_gi (tb_keep w2 T) T 4 = (g : Int) := fun z c0 hv hcl => by
      obtain ⟨z1, z2⟩ := okR z
      obtain ⟨l1, l2⟩ := hl (nq z1).1 c0
      have ee : bm_gi w (t + 4) 5 = (pr.2.length : Int) := l1.1.1.2.1.1
      have hT' : T = pg_tb (t + 4) (pr.2.length : Int) := by rw [hT, ee]
      have n5 : bm_gi w T 5 = (rows.length : Int) := by rw [hT']; exact l1.1.2.2.2.2.2.1.1
      have lt := l1.2.1
      have h156 : t + 125 ≤ r := hrn (by omega) (by omega)
      -- the row on the way, in the world behind the result
      have l3 := l1.mv c5 F1.1 (q' := (f_res (t_K B) (f_x (t_K B) 20 s)).2) (z2.trans (nq z1).2.2)
      have o1 : rw_ok t w1 := c5.fr F1.1
      have y2 : yk t B pr nm g rows r c l (f_res (t_K B) (f_x (t_K B) 20 s)).2 w1 := l3
      obtain ⟨⟨⟨a1, a2, a3⟩, a4, a5, a6, a7, a8, a9⟩, b1, b2, b3, b4, b5⟩ := y2
      rw [← hT'] at a6 a7 a8 b3
      have o2 : rw_ok t w2 := o1.fr n2
      have ap1 : ∀ T' j r', rw_at t w1 T' j r' → (T' = T ∧ (j : Int) = rows.length) ∨ r' + 4 ≤ r ∨ r + 4 ≤ r' := fun T' j r' a => by
        obtain ⟨q1, q2, q3⟩ := a
        rw [F1.1.gr] at q3
        have := hap T' j r' ⟨q1, q2, q3⟩
        rw [n5] at this
        exact this
      have y3 : yl t B pr (f_res (t_K B) (f_x (t_K B) 20 s)).2 w2 := by
        refine ⟨a1.bk (n2.gi (by omega)) (fun x hx a u v j => ?_), a2.mvT o1 hT' (fun k hk => ?_) (n2.gi (by omega)) (Or.inr h156) (fun T' j r' at1 ne => (ap1 _ _ _ at1).resolve_left (fun z => ne z.1)) (fun a j _ hn => ⟨n2.gi (by omega), n2.gl (by omega)⟩) (fun a j _ _ _ => by rw [n2.gr]), by rw [n2.gi (by omega)]; exact a3⟩
        · have := pg_fn_off t (x : Int)
          exact ⟨n2.gi (by omega), n2.gl (by omega)⟩
        · have e := pg_tb_in (t + 4) pr.2.length a4
          rw [hT', pg_tb_in (t + 4) k (by omega), e]
          omega
      have a8' : yrs T rows w2 := a8.bk (fun j => n2.gi (by omega)) (fun j => by rw [n2.gr]) (fun i r' hi hr' => by
        have at1 : rw_at t w1 T i r' := ⟨⟨_, hT'⟩, by omega, hr'⟩
        have o := o1.2.1 _ _ _ at1
        have ap := (ap1 _ _ _ at1).resolve_left (fun z => by omega)
        exact fun b x y j => ⟨n2.gi (by omega), n2.gl (by omega)⟩)
      have g5 : bm_gi w2 r 4 = 0 := (m2 4 (by decide)).trans b5
      have cl2 : ycl r (pr.1.getD g y_f0).2.1 c l w2 := ⟨fun i hi => by rw [n2.gi (by omega), n2.gi (by omega)]; exact b2.1 i hi, fun i x y => by rw [n2.gi (by omega), n2.gi (by omega)]; exact b2.2.1 i x y, b2.2.2⟩
      refine yk_keep (w := w2) ⟨⟨y3, a4, a5, ?_, ?_, ?_, a9⟩, b1, cl2, ?_, g5⟩ o2 hT' h156 (fun T2 j r2 at2 => ?_) hcl hv
      · rw [← hT', n2.gl (by omega)]; exact a6
      · rw [← hT', n2.gi (by omega)]; exact a7
      · rw [← hT']; exact a8'
      · rw [← hT', n2.gr]; exact b3
      · obtain ⟨q1, q2, q3⟩ := at2
        rw [n2.gr] at q3
        rw [n2.gi (by omega), F1.1.gi (by omega), n5]
        exact ap1 _ _ _ ⟨q1, q2, q3⟩
    have hk3 := C3.2.1
    have gT3 : bm_gr (tb_keep w2 T) (t + 112) 5 = some T := by rw [KF.gr]; exact gT2
    have hTb3 : sh_Tb T (tb_keep w2 T) := hTb2.fr KF
    have GR3 : bm_gr (tb_keep w2 T) = bm_gr w := by rw [KF.gr, n2.gr, F1.1.gr]
    have P3 := P2.sil (s2 := f_res (t_K B) (f_x (t_K B) 20 s)) (G' := fun x => bm_gi w2 r 1 = x.1 ∧ bm_gl w2 r 2 = x.2) (fun z => z) q3 (fun a _ _ _ h => h)
    have hT5 : ∀ w', tf t (tb_keep w2 T) w' → bm_gi w' (t + 4) 5 = bm_gi w (t + 4) 5 := fun w' f => by rw [f.1.gi (by omega), F02.gi (by omega)]
    by_cases c100 : bm_gi (tb_keep w2 T) T 6 ≤ 100
    · simp only [bm_c0_v, bm_c1_v, bm_c2_v, bm_c3_v, bm_c4_v, bm_c5_v, bm_u_some, decide_eq_true_eq, true_and, and_true, and_self, Bool.not_eq_true, Bool.not_eq_true', decide_eq_false_iff_not, if_true, if_false, ite_true, ite_false, eq_self, hk3.1, gT3, hTb3.1]
      rw [if_pos c100]
      refine hq _ C3 K3 GR3 (hT5 _ tf.rf) (P3.cv (fun z c0 => ?_))
      rw [e0 (nq (okR z).1).1 c0]
      unfold y_row73
      by_cases hcl : c = (pr.1.getD g y_f0).2.1.length
      · rw [if_neg (fun h => h hcl), if_neg (fun h => h hcl), y_b_inr]
        rintro ⟨q0, hv⟩
        rw [(nq (okR z).1).2.1] at hv
        obtain ⟨v1, v2, v3, v4⟩ := LV z c0 hv hcl
        have l1 := (hl (nq (okR z).1).1 c0).1.1
        have ee : bm_gi w (t + 4) 5 = (pr.2.length : Int) := l1.1.2.1.1
        have hT' : T = pg_tb (t + 4) (pr.2.length : Int) := by rw [hT, ee]
        have y6 := v2.2.2.1
        rw [if_neg (by omega)]
        exact ⟨q0, v1, l1.2.1, l1.2.2.1, by rw [← hT']; exact v3, by rw [← hT']; exact v4, by rw [← hT']; exact v2, by omega⟩
      · rw [if_pos hcl, if_pos hcl, y_b_inl]
        exact fun h => h
    · have tp : tf t (tb_keep w2 T) (cp_put (tb_keep w2 T) (t + 112) 4 (t_P B p)) := tf.rf.put
      simp only [bm_c0_v, bm_c1_v, bm_c2_v, bm_c3_v, bm_c4_v, bm_c5_v, bm_u_some, decide_eq_true_eq, true_and, and_true, and_self, Bool.not_eq_true, Bool.not_eq_true', decide_eq_false_iff_not, if_true, if_false, ite_true, ite_false, eq_self, hk3.1, gT3, hTb3.1, sp_complain hk3.1]
      rw [if_neg c100]
      refine hq _ (C3.tf tp C3.1.put) (K3.tr (kf.tf tp)) (by rw [tp.1.gr]; exact GR3) (hT5 _ tp) (fun z => ?_)
      have a := P3 z
      refine ⟨a.1.tr cp_put_st, fun c0 => ?_⟩
      have y := a.2 c0
      rw [e0 (nq (okR z).1).1 c0] at y
      unfold y_row73
      by_cases hcl : c = (pr.1.getD g y_f0).2.1.length
      · rw [if_neg (fun h => h hcl), y_b_inr] at y
        rw [if_neg (fun h => h hcl)]
        obtain ⟨q0, hv⟩ := y
        rw [(nq (okR z).1).2.1] at hv
        obtain ⟨v1, v2, v3, v4⟩ := LV z c0 hv hcl
        have y6 := v2.2.2.1
        rw [if_pos (by omega)]
        exact ⟨(show (4 : Int) ≠ 0 by decide), (cp_put_0 q0).1, (cp_put_0 q0).2⟩
      · rw [if_pos hcl, y_b_inl] at y
        rw [if_pos hcl]
        have := cp_put_st (t := t) (w := tb_keep w2 T) (e := 4) (a := t_P B p) (by rw [y.2.1]; exact y.1)
        exact ⟨y.1, this.1.trans y.2.1, this.2.trans y.2.2⟩
  refine vb_X0_readRow_73 ?_
  simp only [bm_c0_v, bm_c1_v, bm_c2_v, bm_c3_v, bm_c4_v, bm_c5_v, bm_u_some, decide_eq_true_eq, true_and, and_true, and_self, Bool.not_eq_true, Bool.not_eq_true', decide_eq_false_iff_not, if_true, if_false, ite_true, ite_false, eq_self, c2.1, hg, hf.1, c2.2.1, c1.1.1.1]
  by_cases hcl : (c : Int) = bm_gi w f 6
  · rw [if_pos hcl]
    refine rt_expect c1 (by decide) (fun w1 h1 f1 q1 => ?_)
    rw [bm_c1_v]
    refine tail w (.inr ()) tf.rf (pz.ok cq.rf (fun _ _ => trivial)) (fun z c0 => ?_) w1 h1 f1 q1
    obtain ⟨l1, l2⟩ := hl z c0
    have y6 := (l1.1.1.1.2.2 g l1.1.2.2.1).2.1.1
    rw [← l2] at y6
    rw [if_neg (fun h => h (by omega))]
  · rw [if_neg hcl]
    have tp : tf t w (cp_put w (t + 112) 6 (t_P B p)) := tf.rf.put
    have hk0 := c2.tf tp
    simp only [bm_c0_v, bm_c1_v, bm_c2_v, bm_c3_v, bm_c4_v, bm_c5_v, bm_u_some, decide_eq_true_eq, true_and, and_true, and_self, Bool.not_eq_true, Bool.not_eq_true', decide_eq_false_iff_not, if_true, if_false, ite_true, ite_false, eq_self, sp_complain c2.1, hk0.1, hk0.2.1, c1.put.1.1.1]
    refine rt_expect c1.put (by decide) (fun w1 h1 f1 q1 => ?_)
    rw [bm_c1_v]
    refine tail (cp_put w (t + 112) 6 (t_P B p)) (.inl (6, p)) tp (pz.put cq.rf (by decide)) (fun z c0 => ?_) w1 h1 f1 q1
    obtain ⟨l1, l2⟩ := hl z c0
    have y6 := (l1.1.1.1.2.2 g l1.1.2.2.1).2.1.1
    rw [← l2] at y6
    rw [if_pos (fun h => hcl (by omega))]
end RR

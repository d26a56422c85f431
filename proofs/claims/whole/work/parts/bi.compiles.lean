/-! ===== the law's step that compiles ===== -/
section LC
variable {d b t nI L c s x y c' s' : Nat} {B : Int → Int} {pr pr' : y_pr} {D : Nat → Int} {e : Int} {w w' : bm_W}
theorem f_its_N {K : Nat → Int} {N : Nat} (hN : N ≤ 1500) (hk : ∀ j, j < N → K j ≠ 0) (h0 : K N = 0) (hf : (f_its K f_T (false, 0)).1 = false) : (f_its K f_T (false, 0)).2 = N := by
  have e : f_its K f_T (false, 0) = (false, (f_its K f_T (false, 0)).2) := Prod.ext hf rfl
  obtain ⟨a1, a2, a3⟩ := f_its_end h0 hN f_T 0 _ (Nat.zero_le _) e
  by_cases z : (f_its K f_T (false, 0)).2 < N
  · exact absurd a1 (hk _ z)
  · omega
theorem y_ifs_N {K V : Nat → Int} {N : Nat} (hN : N ≤ 1500) (hk : ∀ j, j < N → K j ≠ 0) (h0 : K N = 0) : y_ifs (y_cmp K V) (y_I K (f_its K f_T (false, 0)).2) = y_ifs (y_cmp K V) (y_I K N) := by
  cases hr : y_cmp K V with
  | inl e => rfl
  | inr pr =>
    have hf : (f_its K f_T (false, 0)).1 = false := by
      unfold y_cmp at hr
      split at hr
      · cases hr
      · rename_i z
        cases q : (f_its K f_T (false, 0)).1 with
        | true => exact absurd q z
        | false => rfl
    rw [f_its_N hN hk h0 hf]
theorem ans_zS {r : (Int × Nat) ⊕ y_pr} {nI : Nat} {x pl : Int} (ha : ans_c t B r nI x pl w) : zS t (y_of r) w := by
  cases r with
  | inl e => exact fun k i r hk => (by cases hk)
  | inr pr =>
    obtain ⟨a1, a2, a3, a4, a5⟩ := ha
    intro k i r hk hi hr
    obtain ⟨-, t2, r1, r2, r3, r4, r5, r6⟩ := a4.2.2 k hk
    obtain ⟨r', s1, s2, s3⟩ := r6 i hi
    have hr' : bm_gr w (pg_tb (t + 4) (k : Int) + 1) i = some r := hr
    rw [s1] at hr'
    injection hr' with hr'
    rw [← hr']
    exact Or.inl s3
theorem la_compile (h : lS b t B pr nI L D e w) : bm_Call bm_pg (d + 1300) y_X11_compile [bm_r (some b)] w (laG b t d y_X12_compile [bm_r (some (t + 122))] L (3 * L) 0 w) := by
  have sz := h.2.1.sz
  have hL := h.1.2.2.1
  refine cp_compile (d := d + 44) h.2.1.1.1 (fun x pl N w1 I1 F1 l0 e7 r0 m6 hN hk hk0 ans => ⟨?_, _, rfl, fun w2 G => ?_⟩)
  · obtain ⟨⟨c1, s1, G1⟩, g1, g2⟩ := F1
    have g := G1.1
    have r := rm_le (t := t) (w := w)
    exact ⟨⟨g.1, g.2.2.1⟩, ⟨by omega, by omega⟩, fun a ha => (G1.2 a ha).1⟩
  obtain ⟨⟨c1, s1, G1⟩, g1, g2⟩ := F1
  have M1 := h.2.2.far G1 (fun a u v z => by unfold cA at z; omega) (fun z => by unfold cA at z; omega)
  have os1 := I1.2.2.2.2.2.1.1
  have M2 := M1.out G
  have B2 := md_B.of M2.1.1 h.2.1.2.2.1 M2.2.1 hL h.1.2.2.2
  generalize tp_at w (b + 1) = A at hk hk0 ans B2
  refine mp_compile (d := d + 31) B2 M2.1.2.1 (fun x' N' w3 G3 hN1 hN2 hk' hk0' l2 e0 m37 ans' => ?_)
  have n1 : N' ≤ L := by
    rw [M2.2.1.1] at hN1
    omega
  have S3 : sh_Md (t + 122) w3 := M2.1.1.gw G3 M2.1.2.1 (fun z => z)
  have s3 := G3.1
  have hs2 := M2.1.2.1
  obtain ⟨A3, i3, i54⟩ := ans_mA S3 (by omega) ans'
  have hb : y_tbs (y_of (y_cmp (t_K A) (t_V A))) := A3.tbs
  obtain ⟨Z1, i1⟩ := ans_cZ I1 ans hb r0 (m6.trans h.2.1.1.2.2.2.2)
  rw [y_ifs_N hN hk hk0] at i1
  have nn : N' = N := by
    rcases Nat.lt_trichotomy N N' with z | z | z
    · exact absurd hk0 (hk' _ z)
    · exact z.symm
    · exact absurd hk0' (hk _ z)
  have C1 : lC b t A (y_of (y_cmp (t_K A) (t_V A))) (y_ifs (y_cmp (t_K A) (t_V A)) (y_I (t_K A) N)) 0 D pl w1 := ⟨Z1, ans_zS ans, ⟨I1.2.1.2.2.1, l0, fun k hk => by omega⟩, i1, e7⟩
  have C3 := (C1.out G).far (G3.mo (A' := fun a => t + 122 ≤ a ∧ a ≤ t + 155) (R' := fun _ => False) (fun a z => by omega) (fun a z => z) (Nat.le_refl _) (Nat.le_refl _))
  have ee : x' = x ∧ bm_gi w3 (t + 122) 3 = pl := by
    cases hr : y_cmp (t_K A) (t_V A) with
    | inl q =>
      rw [hr] at ans ans'
      exact ⟨ans'.1.trans ans.1.symm, ans'.2.2.1.trans ans.2.1.symm⟩
    | inr q =>
      rw [hr] at ans ans'
      exact ⟨ans'.1.trans ans.1.symm, ans'.2.1.trans ans.2.1.symm⟩
  refine ⟨G3.rot (C1.out G).sz.1 (fun a z => by omega) n1 (by omega), _, rfl, fun _ => by rw [ee.1], e0, 0, Nat.le_refl _, A, _, _, D, pl, ⟨y_of_inr hb, ?_, Nat.zero_le _, fun k hk => by omega⟩, C3, ⟨A3, ⟨l2, fun k hk => by omega⟩, ?_, m37.trans M2.2.2.2.1, ee.2⟩⟩
  · rw [← nn]; exact i54
  · rw [← nn]; exact i3
end LC

/-! ===== more of the class half ===== -/
/-! ===== the law's step that compiles ===== -/
section LC
variable {d b t nI L c s x y c' s' : Nat} {B : Int → Int} {pr pr' : y_pr} {D : Nat → Int} {e : Int} {w w' : bm_W}
theorem ans_zS {r : (Int × Nat) ⊕ y_pr} {nI : Nat} {x pl : Int} (ha : ans_c t B r nI x pl w) : zS t (y_of r) w := by
  cases r with
  | inl e => exact fun k i r hk => (by cases hk)
  | inr pr =>
    obtain ⟨a1, a2, a3, a4, a5⟩ := ha
    intro k i r hk hi hr
    obtain ⟨-, t2, r1, r2, r3, r4, r5, r6⟩ := a4.2.2 k hk
    obtain ⟨r', s1, s2, s3⟩ := r6 i hi
    have hr' : bm_gr w (pg_tb (t + 4) (k : Int) + 1) i = some r := hr
    rw [s1] at hr'
    injection hr' with hr'
    rw [← hr']
    exact Or.inl s3
end LC

/-! ===== reading, in the class: all expressions; a body ===== -/
section RD
variable {t f k N L fst : Nat} {B : Int → Int} {E : q_E} {num : Int} {P I : Nat → Nat}
theorem rc_0 {u y n : Nat} (h : n < 8) : rc t f k N L fst B E num P I u y n := fun d depth s w Φ hrs _ _ hn _ _ => by
  have := hrs.2.2.1.2.2.2.2.1
  omega
theorem rl_0 {u n : Nat} {X : Nat → (bm_Rt → bm_W → Prop) → Int → Int → Int → bm_W → Prop} (h : n < 8) : rl t f k N L fst B E num P I u n X := fun d depth s w Φ acc terms op hrs _ _ hn => by
  have := hrs.2.2.1.2.2.2.2.1
  omega
theorem ra_0 {n : Nat} (h : n < 8) : ra t f k N L fst B E num P I n := fun d depth q0 g s w Φ acc hrs _ _ hn => by
  have := hrs.2.2.1.2.2.2.2.1
  omega
/-- all that reads expressions, at a measure -/
def rdA (t f k N L fst : Nat) (B : Int → Int) (E : q_E) (num : Int) (P I : Nat → Nat) (n : Nat) : Prop :=
  rc t f k N L fst B E num P I 6 y_X0_readExpression n ∧ rc t f k N L fst B E num P I 1 y_X0_readBoth n ∧ rc t f k N L fst B E num P I 2 y_X0_readRelation n ∧ rc t f k N L fst B E num P I 3 y_X0_readSum n ∧ rc t f k N L fst B E num P I 4 y_X0_readProduct n ∧ rc t f k N L fst B E num P I 5 y_X0_readFactor n ∧
  rl t f k N L fst B E num P I 7 n (fun d Φ dep op terms w => bk_X0_readExpression_25 d Φ (t + 112) dep terms w) ∧ rl t f k N L fst B E num P I 8 n (fun d Φ dep op terms w => bk_X0_readBoth_7 d Φ (t + 112) dep terms w) ∧ rl t f k N L fst B E num P I 10 n (fun d Φ dep op terms w => bk_X0_readSum_19 d Φ (t + 112) dep op terms w) ∧ rl t f k N L fst B E num P I 11 n (fun d Φ dep op terms w => bk_X0_readProduct_19 d Φ (t + 112) dep op terms w) ∧ ra t f k N L fst B E num P I n
theorem rd_all (hP : hp (t_K B) P I fst) (hE : he0 E num k) : ∀ n, rdA t f k N L fst B E num P I n ∧ rdA t f k N L fst B E num P I (n + 1)
  | 0 => ⟨⟨rc_0 (by decide), rc_0 (by decide), rc_0 (by decide), rc_0 (by decide), rc_0 (by decide), rc_0 (by decide), rl_0 (by decide), rl_0 (by decide), rl_0 (by decide), rl_0 (by decide), ra_0 (by decide)⟩, ⟨rc_0 (by decide), rc_0 (by decide), rc_0 (by decide), rc_0 (by decide), rc_0 (by decide), rc_0 (by decide), rl_0 (by decide), rl_0 (by decide), rl_0 (by decide), rl_0 (by decide), ra_0 (by decide)⟩⟩
  | n + 1 => by
    obtain ⟨⟨a1, a2, a3, a4, a5, a6, a7, a8, a9, a10, a11⟩, b⟩ := rd_all hP hE n
    have b' := b
    obtain ⟨b1, b2, b3, b4, b5, b6, b7, b8, b9, b10, b11⟩ := b'
    refine ⟨b, ⟨rd_expr hP b1 a2 a7, rd_lv_Both b3 b8, rd_rel hP b4 a4, rd_lv_Sum b5 b9, rd_lv_Product b6 b10, rd_factor hP hE b1 b6 b11, rd_lp_Expression hP b2 b7, rd_lp_Both hP b3 b8, rd_lp_Sum hP b5 b9, rd_lp_Product hP b6 b10, rd_args hP hE b1 b11⟩⟩
theorem rd_expression (hP : hp (t_K B) P I fst) (hE : he0 E num k) (n : Nat) : rc t f k N L fst B E num P I 6 y_X0_readExpression n := (rd_all hP hE n).1.1
end RD

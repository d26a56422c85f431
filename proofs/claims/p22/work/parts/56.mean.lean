/-! ===== the meaning of expressions ===== -/
/-- an error (its code, its token), or meanings, and the sizes of what is called -/
abbrev q_M : Type := (Int × Nat) ⊕ (List q_D × Nat)
def m_bind (r : q_M) (k : List q_D → Nat → q_M) : q_M := match r with
  | .inl e => .inl e
  | .inr (l, z) => k l z
def m_add (z : Nat) (r : q_M) : q_M := match r with
  | .inl e => .inl e
  | .inr (l, z') => .inr (l, z + z')
def m_hd (l : List q_D) : q_D := l.headD (d_num 0 0)
def m_op (u : Nat) (op pl : Int) (D E : q_D) : q_D := if u = 7 ∨ u = 8 then d_lo op pl D E else d_bin op pl D E
/-- what names tell: inputs, functions, how many inputs a function has, its size, its meaning -/
abbrev q_E : Type := (Int → Int) × (Int → Int) × (Int → Nat) × (Int → Nat) × (Int → q_D)
def m_ex (K V : Nat → Int) (L : Nat) (P I : Nat → Nat) (E : q_E) : Nat → Nat → Nat → Nat → List q_D → q_M
  | 0, _, _, _, acc => .inr (acc, 0)
  | n + 1, u, d, p, acc =>
    if u = 6 then
      if f_see K L (false, p) 6 6 then
        m_bind (m_ex K V L P I E n 6 (d + 1) (p + 1) []) fun l1 z1 =>
        m_bind (m_ex K V L P I E n 6 (d + 1) ((f_ex K L n 6 (d + 1) (false, p + 1)).2 + 1) []) fun l2 z2 =>
        m_bind (m_ex K V L P I E n 6 (d + 1) ((f_ex K L n 6 (d + 1) (false, (f_ex K L n 6 (d + 1) (false, p + 1)).2 + 1)).2 + 1) []) fun l3 z3 =>
        .inr ([d_if (I p : Nat) (P p : Nat) (m_hd l1) (m_hd l2) (m_hd l3)], z1 + z2 + z3)
      else m_ex K V L P I E n 0 d p acc
    else if u = 5 then
      if f_see K L (false, p) 2 2 then .inr ([d_num (V p) (P p : Nat)], 0)
      else if f_see K L (false, p) 3 3 then
        if f_see K L (false, p + 1) 16 16 then
          if E.2.1 (V p) < 0 then .inl (2, p) else
          m_bind (m_ex K V L P I E n 6 (d + 1) (p + 2) []) fun l1 z1 =>
          m_bind (m_ex K V L P I E n 12 (d + 1) (f_ex K L n 6 (d + 1) (false, p + 2)).2 [m_hd l1]) fun l2 z2 =>
          if l2.length = E.2.2.1 (E.2.1 (V p)) then .inr ([d_call (E.2.2.2.2 (E.2.1 (V p))) l2], z1 + z2 + E.2.2.2.1 (E.2.1 (V p))) else .inl (6, p)
        else if E.1 (V p) < 0 then .inl (2, p) else .inr ([d_in (E.1 (V p)).toNat], 0)
      else if f_see K L (false, p) 16 16 then m_ex K V L P I E n 6 (d + 1) (p + 1) []
      else m_bind (m_ex K V L P I E n 5 (d + 1) (p + 1) []) fun l z => .inr ([d_un (if K p = 29 then 36 else 11) (m_hd l)], z)
    else if u = 12 then
      if f_see K L (false, p) 18 18 then m_bind (m_ex K V L P I E n 6 d (p + 1) []) fun l z => m_add z (m_ex K V L P I E n 12 d (f_ex K L n 6 d (false, p + 1)).2 (acc ++ [m_hd l]))
      else .inr (acc, 0)
    else if u < 5 then m_bind (m_ex K V L P I E n (u + 1) d p []) fun l z => m_add z (m_ex K V L P I E n (7 + u) d (f_ex K L n (u + 1) d (false, p)).2 [m_hd l])
    else if f_see K L (false, p) (f_lo u) (f_hi u) then
      m_bind (m_ex K V L P I E n (u - 6) d (p + 1) []) fun l z =>
      if u = 9 then .inr ([m_op u (K p) (P p : Nat) (m_hd acc) (m_hd l)], z)
      else m_add z (m_ex K V L P I E n u d (f_ex K L n (u - 6) d (false, p + 1)).2 [m_op u (K p) (P p : Nat) (m_hd acc) (m_hd l)])
    else .inr (acc, 0)
section MEAN
variable {K V : Nat → Int} {L : Nat} {P I : Nat → Nat} {E : q_E}
theorem m_ex_6 {n d p : Nat} {acc : List q_D} : m_ex K V L P I E (n + 1) 6 d p acc = if f_see K L (false, p) 6 6 then
        m_bind (m_ex K V L P I E n 6 (d + 1) (p + 1) []) fun l1 z1 =>
        m_bind (m_ex K V L P I E n 6 (d + 1) ((f_ex K L n 6 (d + 1) (false, p + 1)).2 + 1) []) fun l2 z2 =>
        m_bind (m_ex K V L P I E n 6 (d + 1) ((f_ex K L n 6 (d + 1) (false, (f_ex K L n 6 (d + 1) (false, p + 1)).2 + 1)).2 + 1) []) fun l3 z3 =>
        .inr ([d_if (I p : Nat) (P p : Nat) (m_hd l1) (m_hd l2) (m_hd l3)], z1 + z2 + z3)
      else m_ex K V L P I E n 0 d p acc := rfl
theorem m_ex_5 {n d p : Nat} {acc : List q_D} : m_ex K V L P I E (n + 1) 5 d p acc = if f_see K L (false, p) 2 2 then .inr ([d_num (V p) (P p : Nat)], 0)
      else if f_see K L (false, p) 3 3 then
        if f_see K L (false, p + 1) 16 16 then
          if E.2.1 (V p) < 0 then .inl (2, p) else
          m_bind (m_ex K V L P I E n 6 (d + 1) (p + 2) []) fun l1 z1 =>
          m_bind (m_ex K V L P I E n 12 (d + 1) (f_ex K L n 6 (d + 1) (false, p + 2)).2 [m_hd l1]) fun l2 z2 =>
          if l2.length = E.2.2.1 (E.2.1 (V p)) then .inr ([d_call (E.2.2.2.2 (E.2.1 (V p))) l2], z1 + z2 + E.2.2.2.1 (E.2.1 (V p))) else .inl (6, p)
        else if E.1 (V p) < 0 then .inl (2, p) else .inr ([d_in (E.1 (V p)).toNat], 0)
      else if f_see K L (false, p) 16 16 then m_ex K V L P I E n 6 (d + 1) (p + 1) []
      else m_bind (m_ex K V L P I E n 5 (d + 1) (p + 1) []) fun l z => .inr ([d_un (if K p = 29 then 36 else 11) (m_hd l)], z) := rfl
theorem m_ex_12 {n d p : Nat} {acc : List q_D} : m_ex K V L P I E (n + 1) 12 d p acc = if f_see K L (false, p) 18 18 then m_bind (m_ex K V L P I E n 6 d (p + 1) []) fun l z => m_add z (m_ex K V L P I E n 12 d (f_ex K L n 6 d (false, p + 1)).2 (acc ++ [m_hd l]))
      else .inr (acc, 0) := rfl
theorem m_ex_lv {n u d p : Nat} {acc : List q_D} (h : u < 5) : m_ex K V L P I E (n + 1) u d p acc = m_bind (m_ex K V L P I E n (u + 1) d p []) fun l z => m_add z (m_ex K V L P I E n (7 + u) d (f_ex K L n (u + 1) d (false, p)).2 [m_hd l]) := by
  rw [m_ex, if_neg (by omega), if_neg (by omega), if_neg (by omega), if_pos h]
theorem m_ex_lp {n u d p : Nat} {acc : List q_D} (h : 7 ≤ u) (h2 : u ≤ 11) : m_ex K V L P I E (n + 1) u d p acc = if f_see K L (false, p) (f_lo u) (f_hi u) then
      m_bind (m_ex K V L P I E n (u - 6) d (p + 1) []) fun l z =>
      if u = 9 then .inr ([m_op u (K p) (P p : Nat) (m_hd acc) (m_hd l)], z)
      else m_add z (m_ex K V L P I E n u d (f_ex K L n (u - 6) d (false, p + 1)).2 [m_op u (K p) (P p : Nat) (m_hd acc) (m_hd l)])
    else .inr (acc, 0) := by
  rw [m_ex, if_neg (by omega), if_neg (by omega), if_neg (by omega), if_neg (by omega)]
end MEAN

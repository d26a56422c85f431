/-! ===== the shape of the model (laid by program) ===== -/
/-- field, place behind the object, kind, length -/
def md_tab : List (Nat × Nat × Nat × Nat) := [(1, 1, 21, 1500), (4, 2, 21, 1501), (5, 3, 21, 1501), (6, 4, 21, 1501), (7, 5, 21, 1501), (8, 6, 21, 1501), (12, 7, 21, 1500), (13, 8, 21, 1500), (14, 9, 21, 1500), (15, 10, 21, 1500), (16, 11, 21, 1500), (17, 12, 21, 1500), (19, 13, 22, 6), (20, 14, 21, 6), (21, 15, 22, 18), (22, 16, 21, 18), (23, 17, 21, 18), (24, 18, 21, 6), (25, 19, 21, 6), (26, 20, 21, 6), (29, 21, 22, 6), (30, 22, 21, 6), (31, 23, 21, 6), (32, 24, 21, 216), (33, 25, 21, 216), (34, 26, 21, 72), (35, 27, 22, 72), (38, 28, 21, 1500), (39, 29, 21, 1500), (41, 30, 23, 6724), (42, 31, 21, 3)]
def sh_Md (m : Nat) (w : bm_W) : Prop := bm_kt w m = 12 ∧ ∀ q ∈ md_tab, bm_gr w m q.1 = some (m + q.2.1) ∧ bm_kt w (m + q.2.1) = q.2.2.1 ∧ bm_kn w (m + q.2.1) = q.2.2.2
theorem sh_Md.fr {A : Nat → Prop} {m : Nat} {w w' : bm_W} (h : q_fr A w w') (hT : sh_Md m w) : sh_Md m w' := by
  unfold sh_Md
  rw [h.kt, h.kn, h.gr]
  exact hT
/-- tape -/
theorem sh_Md.g1 {m : Nat} {w : bm_W} (h : sh_Md m w) : bm_gr w m 1 = some (m + 1) := (h.2 (1, 1, 21, 1500) (by decide)).1
theorem sh_Md.t1 {m : Nat} {w : bm_W} (h : sh_Md m w) : bm_kt w (m + 1) = 21 := (h.2 (1, 1, 21, 1500) (by decide)).2.1
theorem sh_Md.n1 {m : Nat} {w : bm_W} (h : sh_Md m w) : bm_kn w (m + 1) = 1500 := (h.2 (1, 1, 21, 1500) (by decide)).2.2
/-- kinds -/
theorem sh_Md.g4 {m : Nat} {w : bm_W} (h : sh_Md m w) : bm_gr w m 4 = some (m + 2) := (h.2 (4, 2, 21, 1501) (by decide)).1
theorem sh_Md.t4 {m : Nat} {w : bm_W} (h : sh_Md m w) : bm_kt w (m + 2) = 21 := (h.2 (4, 2, 21, 1501) (by decide)).2.1
theorem sh_Md.n4 {m : Nat} {w : bm_W} (h : sh_Md m w) : bm_kn w (m + 2) = 1501 := (h.2 (4, 2, 21, 1501) (by decide)).2.2
/-- froms -/
theorem sh_Md.g5 {m : Nat} {w : bm_W} (h : sh_Md m w) : bm_gr w m 5 = some (m + 3) := (h.2 (5, 3, 21, 1501) (by decide)).1
theorem sh_Md.t5 {m : Nat} {w : bm_W} (h : sh_Md m w) : bm_kt w (m + 3) = 21 := (h.2 (5, 3, 21, 1501) (by decide)).2.1
theorem sh_Md.n5 {m : Nat} {w : bm_W} (h : sh_Md m w) : bm_kn w (m + 3) = 1501 := (h.2 (5, 3, 21, 1501) (by decide)).2.2
/-- ends -/
theorem sh_Md.g6 {m : Nat} {w : bm_W} (h : sh_Md m w) : bm_gr w m 6 = some (m + 4) := (h.2 (6, 4, 21, 1501) (by decide)).1
theorem sh_Md.t6 {m : Nat} {w : bm_W} (h : sh_Md m w) : bm_kt w (m + 4) = 21 := (h.2 (6, 4, 21, 1501) (by decide)).2.1
theorem sh_Md.n6 {m : Nat} {w : bm_W} (h : sh_Md m w) : bm_kn w (m + 4) = 1501 := (h.2 (6, 4, 21, 1501) (by decide)).2.2
/-- placeOf -/
theorem sh_Md.g7 {m : Nat} {w : bm_W} (h : sh_Md m w) : bm_gr w m 7 = some (m + 5) := (h.2 (7, 5, 21, 1501) (by decide)).1
theorem sh_Md.t7 {m : Nat} {w : bm_W} (h : sh_Md m w) : bm_kt w (m + 5) = 21 := (h.2 (7, 5, 21, 1501) (by decide)).2.1
theorem sh_Md.n7 {m : Nat} {w : bm_W} (h : sh_Md m w) : bm_kn w (m + 5) = 1501 := (h.2 (7, 5, 21, 1501) (by decide)).2.2
/-- ifOf -/
theorem sh_Md.g8 {m : Nat} {w : bm_W} (h : sh_Md m w) : bm_gr w m 8 = some (m + 6) := (h.2 (8, 6, 21, 1501) (by decide)).1
theorem sh_Md.t8 {m : Nat} {w : bm_W} (h : sh_Md m w) : bm_kt w (m + 6) = 21 := (h.2 (8, 6, 21, 1501) (by decide)).2.1
theorem sh_Md.n8 {m : Nat} {w : bm_W} (h : sh_Md m w) : bm_kn w (m + 6) = 1501 := (h.2 (8, 6, 21, 1501) (by decide)).2.2
/-- nodeKind -/
theorem sh_Md.g12 {m : Nat} {w : bm_W} (h : sh_Md m w) : bm_gr w m 12 = some (m + 7) := (h.2 (12, 7, 21, 1500) (by decide)).1
theorem sh_Md.t12 {m : Nat} {w : bm_W} (h : sh_Md m w) : bm_kt w (m + 7) = 21 := (h.2 (12, 7, 21, 1500) (by decide)).2.1
theorem sh_Md.n12 {m : Nat} {w : bm_W} (h : sh_Md m w) : bm_kn w (m + 7) = 1500 := (h.2 (12, 7, 21, 1500) (by decide)).2.2
/-- nodeA -/
theorem sh_Md.g13 {m : Nat} {w : bm_W} (h : sh_Md m w) : bm_gr w m 13 = some (m + 8) := (h.2 (13, 8, 21, 1500) (by decide)).1
theorem sh_Md.t13 {m : Nat} {w : bm_W} (h : sh_Md m w) : bm_kt w (m + 8) = 21 := (h.2 (13, 8, 21, 1500) (by decide)).2.1
theorem sh_Md.n13 {m : Nat} {w : bm_W} (h : sh_Md m w) : bm_kn w (m + 8) = 1500 := (h.2 (13, 8, 21, 1500) (by decide)).2.2
/-- nodeB -/
theorem sh_Md.g14 {m : Nat} {w : bm_W} (h : sh_Md m w) : bm_gr w m 14 = some (m + 9) := (h.2 (14, 9, 21, 1500) (by decide)).1
theorem sh_Md.t14 {m : Nat} {w : bm_W} (h : sh_Md m w) : bm_kt w (m + 9) = 21 := (h.2 (14, 9, 21, 1500) (by decide)).2.1
theorem sh_Md.n14 {m : Nat} {w : bm_W} (h : sh_Md m w) : bm_kn w (m + 9) = 1500 := (h.2 (14, 9, 21, 1500) (by decide)).2.2
/-- nodeC -/
theorem sh_Md.g15 {m : Nat} {w : bm_W} (h : sh_Md m w) : bm_gr w m 15 = some (m + 10) := (h.2 (15, 10, 21, 1500) (by decide)).1
theorem sh_Md.t15 {m : Nat} {w : bm_W} (h : sh_Md m w) : bm_kt w (m + 10) = 21 := (h.2 (15, 10, 21, 1500) (by decide)).2.1
theorem sh_Md.n15 {m : Nat} {w : bm_W} (h : sh_Md m w) : bm_kn w (m + 10) = 1500 := (h.2 (15, 10, 21, 1500) (by decide)).2.2
/-- nodeIs -/
theorem sh_Md.g16 {m : Nat} {w : bm_W} (h : sh_Md m w) : bm_gr w m 16 = some (m + 11) := (h.2 (16, 11, 21, 1500) (by decide)).1
theorem sh_Md.t16 {m : Nat} {w : bm_W} (h : sh_Md m w) : bm_kt w (m + 11) = 21 := (h.2 (16, 11, 21, 1500) (by decide)).2.1
theorem sh_Md.n16 {m : Nat} {w : bm_W} (h : sh_Md m w) : bm_kn w (m + 11) = 1500 := (h.2 (16, 11, 21, 1500) (by decide)).2.2
/-- nodePlace -/
theorem sh_Md.g17 {m : Nat} {w : bm_W} (h : sh_Md m w) : bm_gr w m 17 = some (m + 12) := (h.2 (17, 12, 21, 1500) (by decide)).1
theorem sh_Md.t17 {m : Nat} {w : bm_W} (h : sh_Md m w) : bm_kt w (m + 12) = 21 := (h.2 (17, 12, 21, 1500) (by decide)).2.1
theorem sh_Md.n17 {m : Nat} {w : bm_W} (h : sh_Md m w) : bm_kn w (m + 12) = 1500 := (h.2 (17, 12, 21, 1500) (by decide)).2.2
/-- funNames -/
theorem sh_Md.g19 {m : Nat} {w : bm_W} (h : sh_Md m w) : bm_gr w m 19 = some (m + 13) := (h.2 (19, 13, 22, 6) (by decide)).1
theorem sh_Md.t19 {m : Nat} {w : bm_W} (h : sh_Md m w) : bm_kt w (m + 13) = 22 := (h.2 (19, 13, 22, 6) (by decide)).2.1
theorem sh_Md.n19 {m : Nat} {w : bm_W} (h : sh_Md m w) : bm_kn w (m + 13) = 6 := (h.2 (19, 13, 22, 6) (by decide)).2.2
/-- inputs -/
theorem sh_Md.g20 {m : Nat} {w : bm_W} (h : sh_Md m w) : bm_gr w m 20 = some (m + 14) := (h.2 (20, 14, 21, 6) (by decide)).1
theorem sh_Md.t20 {m : Nat} {w : bm_W} (h : sh_Md m w) : bm_kt w (m + 14) = 21 := (h.2 (20, 14, 21, 6) (by decide)).2.1
theorem sh_Md.n20 {m : Nat} {w : bm_W} (h : sh_Md m w) : bm_kn w (m + 14) = 6 := (h.2 (20, 14, 21, 6) (by decide)).2.2
/-- inputNames -/
theorem sh_Md.g21 {m : Nat} {w : bm_W} (h : sh_Md m w) : bm_gr w m 21 = some (m + 15) := (h.2 (21, 15, 22, 18) (by decide)).1
theorem sh_Md.t21 {m : Nat} {w : bm_W} (h : sh_Md m w) : bm_kt w (m + 15) = 22 := (h.2 (21, 15, 22, 18) (by decide)).2.1
theorem sh_Md.n21 {m : Nat} {w : bm_W} (h : sh_Md m w) : bm_kn w (m + 15) = 18 := (h.2 (21, 15, 22, 18) (by decide)).2.2
/-- lows -/
theorem sh_Md.g22 {m : Nat} {w : bm_W} (h : sh_Md m w) : bm_gr w m 22 = some (m + 16) := (h.2 (22, 16, 21, 18) (by decide)).1
theorem sh_Md.t22 {m : Nat} {w : bm_W} (h : sh_Md m w) : bm_kt w (m + 16) = 21 := (h.2 (22, 16, 21, 18) (by decide)).2.1
theorem sh_Md.n22 {m : Nat} {w : bm_W} (h : sh_Md m w) : bm_kn w (m + 16) = 18 := (h.2 (22, 16, 21, 18) (by decide)).2.2
/-- highs -/
theorem sh_Md.g23 {m : Nat} {w : bm_W} (h : sh_Md m w) : bm_gr w m 23 = some (m + 17) := (h.2 (23, 17, 21, 18) (by decide)).1
theorem sh_Md.t23 {m : Nat} {w : bm_W} (h : sh_Md m w) : bm_kt w (m + 17) = 21 := (h.2 (23, 17, 21, 18) (by decide)).2.1
theorem sh_Md.n23 {m : Nat} {w : bm_W} (h : sh_Md m w) : bm_kn w (m + 17) = 18 := (h.2 (23, 17, 21, 18) (by decide)).2.2
/-- tops -/
theorem sh_Md.g24 {m : Nat} {w : bm_W} (h : sh_Md m w) : bm_gr w m 24 = some (m + 18) := (h.2 (24, 18, 21, 6) (by decide)).1
theorem sh_Md.t24 {m : Nat} {w : bm_W} (h : sh_Md m w) : bm_kt w (m + 18) = 21 := (h.2 (24, 18, 21, 6) (by decide)).2.1
theorem sh_Md.n24 {m : Nat} {w : bm_W} (h : sh_Md m w) : bm_kn w (m + 18) = 6 := (h.2 (24, 18, 21, 6) (by decide)).2.2
/-- places -/
theorem sh_Md.g25 {m : Nat} {w : bm_W} (h : sh_Md m w) : bm_gr w m 25 = some (m + 19) := (h.2 (25, 19, 21, 6) (by decide)).1
theorem sh_Md.t25 {m : Nat} {w : bm_W} (h : sh_Md m w) : bm_kt w (m + 19) = 21 := (h.2 (25, 19, 21, 6) (by decide)).2.1
theorem sh_Md.n25 {m : Nat} {w : bm_W} (h : sh_Md m w) : bm_kn w (m + 19) = 6 := (h.2 (25, 19, 21, 6) (by decide)).2.2
/-- sizes -/
theorem sh_Md.g26 {m : Nat} {w : bm_W} (h : sh_Md m w) : bm_gr w m 26 = some (m + 20) := (h.2 (26, 20, 21, 6) (by decide)).1
theorem sh_Md.t26 {m : Nat} {w : bm_W} (h : sh_Md m w) : bm_kt w (m + 20) = 21 := (h.2 (26, 20, 21, 6) (by decide)).2.1
theorem sh_Md.n26 {m : Nat} {w : bm_W} (h : sh_Md m w) : bm_kn w (m + 20) = 6 := (h.2 (26, 20, 21, 6) (by decide)).2.2
/-- tableNames -/
theorem sh_Md.g29 {m : Nat} {w : bm_W} (h : sh_Md m w) : bm_gr w m 29 = some (m + 21) := (h.2 (29, 21, 22, 6) (by decide)).1
theorem sh_Md.t29 {m : Nat} {w : bm_W} (h : sh_Md m w) : bm_kt w (m + 21) = 22 := (h.2 (29, 21, 22, 6) (by decide)).2.1
theorem sh_Md.n29 {m : Nat} {w : bm_W} (h : sh_Md m w) : bm_kn w (m + 21) = 6 := (h.2 (29, 21, 22, 6) (by decide)).2.2
/-- funOf -/
theorem sh_Md.g30 {m : Nat} {w : bm_W} (h : sh_Md m w) : bm_gr w m 30 = some (m + 22) := (h.2 (30, 22, 21, 6) (by decide)).1
theorem sh_Md.t30 {m : Nat} {w : bm_W} (h : sh_Md m w) : bm_kt w (m + 22) = 21 := (h.2 (30, 22, 21, 6) (by decide)).2.1
theorem sh_Md.n30 {m : Nat} {w : bm_W} (h : sh_Md m w) : bm_kn w (m + 22) = 6 := (h.2 (30, 22, 21, 6) (by decide)).2.2
/-- rows -/
theorem sh_Md.g31 {m : Nat} {w : bm_W} (h : sh_Md m w) : bm_gr w m 31 = some (m + 23) := (h.2 (31, 23, 21, 6) (by decide)).1
theorem sh_Md.t31 {m : Nat} {w : bm_W} (h : sh_Md m w) : bm_kt w (m + 23) = 21 := (h.2 (31, 23, 21, 6) (by decide)).2.1
theorem sh_Md.n31 {m : Nat} {w : bm_W} (h : sh_Md m w) : bm_kn w (m + 23) = 6 := (h.2 (31, 23, 21, 6) (by decide)).2.2
/-- cellLows -/
theorem sh_Md.g32 {m : Nat} {w : bm_W} (h : sh_Md m w) : bm_gr w m 32 = some (m + 24) := (h.2 (32, 24, 21, 216) (by decide)).1
theorem sh_Md.t32 {m : Nat} {w : bm_W} (h : sh_Md m w) : bm_kt w (m + 24) = 21 := (h.2 (32, 24, 21, 216) (by decide)).2.1
theorem sh_Md.n32 {m : Nat} {w : bm_W} (h : sh_Md m w) : bm_kn w (m + 24) = 216 := (h.2 (32, 24, 21, 216) (by decide)).2.2
/-- cellHighs -/
theorem sh_Md.g33 {m : Nat} {w : bm_W} (h : sh_Md m w) : bm_gr w m 33 = some (m + 25) := (h.2 (33, 25, 21, 216) (by decide)).1
theorem sh_Md.t33 {m : Nat} {w : bm_W} (h : sh_Md m w) : bm_kt w (m + 25) = 21 := (h.2 (33, 25, 21, 216) (by decide)).2.1
theorem sh_Md.n33 {m : Nat} {w : bm_W} (h : sh_Md m w) : bm_kn w (m + 25) = 216 := (h.2 (33, 25, 21, 216) (by decide)).2.2
/-- results -/
theorem sh_Md.g34 {m : Nat} {w : bm_W} (h : sh_Md m w) : bm_gr w m 34 = some (m + 26) := (h.2 (34, 26, 21, 72) (by decide)).1
theorem sh_Md.t34 {m : Nat} {w : bm_W} (h : sh_Md m w) : bm_kt w (m + 26) = 21 := (h.2 (34, 26, 21, 72) (by decide)).2.1
theorem sh_Md.n34 {m : Nat} {w : bm_W} (h : sh_Md m w) : bm_kn w (m + 26) = 72 := (h.2 (34, 26, 21, 72) (by decide)).2.2
/-- numbers -/
theorem sh_Md.g35 {m : Nat} {w : bm_W} (h : sh_Md m w) : bm_gr w m 35 = some (m + 27) := (h.2 (35, 27, 22, 72) (by decide)).1
theorem sh_Md.t35 {m : Nat} {w : bm_W} (h : sh_Md m w) : bm_kt w (m + 27) = 22 := (h.2 (35, 27, 22, 72) (by decide)).2.1
theorem sh_Md.n35 {m : Nat} {w : bm_W} (h : sh_Md m w) : bm_kn w (m + 27) = 72 := (h.2 (35, 27, 22, 72) (by decide)).2.2
/-- thens -/
theorem sh_Md.g38 {m : Nat} {w : bm_W} (h : sh_Md m w) : bm_gr w m 38 = some (m + 28) := (h.2 (38, 28, 21, 1500) (by decide)).1
theorem sh_Md.t38 {m : Nat} {w : bm_W} (h : sh_Md m w) : bm_kt w (m + 28) = 21 := (h.2 (38, 28, 21, 1500) (by decide)).2.1
theorem sh_Md.n38 {m : Nat} {w : bm_W} (h : sh_Md m w) : bm_kn w (m + 28) = 1500 := (h.2 (38, 28, 21, 1500) (by decide)).2.2
/-- elses -/
theorem sh_Md.g39 {m : Nat} {w : bm_W} (h : sh_Md m w) : bm_gr w m 39 = some (m + 29) := (h.2 (39, 29, 21, 1500) (by decide)).1
theorem sh_Md.t39 {m : Nat} {w : bm_W} (h : sh_Md m w) : bm_kt w (m + 29) = 21 := (h.2 (39, 29, 21, 1500) (by decide)).2.1
theorem sh_Md.n39 {m : Nat} {w : bm_W} (h : sh_Md m w) : bm_kn w (m + 29) = 1500 := (h.2 (39, 29, 21, 1500) (by decide)).2.2
/-- tried -/
theorem sh_Md.g41 {m : Nat} {w : bm_W} (h : sh_Md m w) : bm_gr w m 41 = some (m + 30) := (h.2 (41, 30, 23, 6724) (by decide)).1
theorem sh_Md.t41 {m : Nat} {w : bm_W} (h : sh_Md m w) : bm_kt w (m + 30) = 23 := (h.2 (41, 30, 23, 6724) (by decide)).2.1
theorem sh_Md.n41 {m : Nat} {w : bm_W} (h : sh_Md m w) : bm_kn w (m + 30) = 6724 := (h.2 (41, 30, 23, 6724) (by decide)).2.2
/-- caseNow -/
theorem sh_Md.g42 {m : Nat} {w : bm_W} (h : sh_Md m w) : bm_gr w m 42 = some (m + 31) := (h.2 (42, 31, 21, 3) (by decide)).1
theorem sh_Md.t42 {m : Nat} {w : bm_W} (h : sh_Md m w) : bm_kt w (m + 31) = 21 := (h.2 (42, 31, 21, 3) (by decide)).2.1
theorem sh_Md.n42 {m : Nat} {w : bm_W} (h : sh_Md m w) : bm_kn w (m + 31) = 3 := (h.2 (42, 31, 21, 3) (by decide)).2.2

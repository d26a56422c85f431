/-! what the rows of the methods come to (laid by program) -/
/-! CaseTablesModel.is(ILjava/lang/String;)Z -/
def bk_X12_is_49 (d : Nat) (Φ : bm_Rt → bm_W → Prop) (v0 : Nat) (v1 : Int) (v2 : Nat) (v3 : Int) (v4 : Int) (w : bm_W) : Prop := bm_Wp (bm_Call bm_pg d) tb_X12_is Φ (49, [some (bm_r (some v0)), some (bm_i v1), some (bm_k (0, v2)), some (bm_i v3), some (bm_i v4)], [], w)
set_option maxRecDepth 20000 in
theorem vc_X12_is {d : Nat} {Φ : bm_Rt → bm_W → Prop} {p0 : Nat} {p1 : Int} {p2 : Nat} {w : bm_W} (h :
  (bm_kt w p0 = 12 ∧ bm_gr w p0 4 = some (bm_u (bm_gr w p0 4))) ∧
  (bm_kt w (bm_u (bm_gr w p0 4)) = 21 ∧ bm_in p1 (bm_kn w (bm_u (bm_gr w p0 4)))) ∧
  (if (decide ((bm_gi w (bm_u (bm_gr w p0 4)) (p1).toNat) = (1 : Int))) = true then
    (bm_kt w p0 = 12 ∧ bm_gr w p0 6 = some (bm_u (bm_gr w p0 6))) ∧
    (bm_kt w (bm_u (bm_gr w p0 6)) = 21 ∧ bm_in p1 (bm_kn w (bm_u (bm_gr w p0 6)))) ∧
    (bm_kt w p0 = 12 ∧ bm_gr w p0 5 = some (bm_u (bm_gr w p0 5))) ∧
    (bm_kt w (bm_u (bm_gr w p0 5)) = 21 ∧ bm_in p1 (bm_kn w (bm_u (bm_gr w p0 5)))) ∧
    (p2 < 31) ∧ bm_Call bm_pg d y_J0_length_8abf5 [bm_k (0, p2)] w (fun r1 w1 => 
      bm_c1 (fun x1 => (if (!decide ((bm_w ((bm_gi w (bm_u (bm_gr w p0 6)) (p1).toNat) - (bm_gi w (bm_u (bm_gr w p0 5)) (p1).toNat))) = x1)) = true then
        bk_X12_is_49 d Φ p0 p1 p2 (0 : Int) (0 : Int) w1
      else
        bk_X12_is_49 d Φ p0 p1 p2 (1 : Int) (0 : Int) w1)) (fun E => Φ (.inr E) w1) r1)
  else
    (bm_kt w p0 = 12 ∧ bm_gr w p0 4 = some (bm_u (bm_gr w p0 4))) ∧
    (bm_kt w (bm_u (bm_gr w p0 4)) = 21 ∧ bm_in p1 (bm_kn w (bm_u (bm_gr w p0 4)))) ∧
    (if (!decide ((bm_gi w (bm_u (bm_gr w p0 4)) (p1).toNat) = (3 : Int))) = true then
      bk_X12_is_49 d Φ p0 p1 p2 (0 : Int) (0 : Int) w
    else
      (bm_kt w p0 = 12 ∧ bm_gr w p0 6 = some (bm_u (bm_gr w p0 6))) ∧
      (bm_kt w (bm_u (bm_gr w p0 6)) = 21 ∧ bm_in p1 (bm_kn w (bm_u (bm_gr w p0 6)))) ∧
      (bm_kt w p0 = 12 ∧ bm_gr w p0 5 = some (bm_u (bm_gr w p0 5))) ∧
      (bm_kt w (bm_u (bm_gr w p0 5)) = 21 ∧ bm_in p1 (bm_kn w (bm_u (bm_gr w p0 5)))) ∧
      (p2 < 31) ∧ bm_Call bm_pg d y_J0_length_8abf5 [bm_k (0, p2)] w (fun r2 w2 => 
        bm_c1 (fun x2 => (if (!decide ((bm_w ((bm_gi w (bm_u (bm_gr w p0 6)) (p1).toNat) - (bm_gi w (bm_u (bm_gr w p0 5)) (p1).toNat))) = x2)) = true then
          bk_X12_is_49 d Φ p0 p1 p2 (0 : Int) (0 : Int) w2
        else
          bk_X12_is_49 d Φ p0 p1 p2 (1 : Int) (0 : Int) w2)) (fun E => Φ (.inr E) w2) r2)))) : bm_Call bm_pg (d + 1) y_X12_is [bm_r (some p0), bm_i p1, bm_k (0, p2)] w Φ := bm_enter rfl (bm_go (bm_Call_mono _ _) [49] 59 _ h)
set_option maxRecDepth 20000 in
theorem vb_X12_is_49 {d : Nat} {Φ : bm_Rt → bm_W → Prop} {v0 : Nat} {v1 : Int} {v2 : Nat} {v3 : Int} {v4 : Int} {w : bm_W} (h :
  (v2 < 31) ∧ bm_Call bm_pg d y_J0_length_8abf5 [bm_k (0, v2)] w (fun r1 w1 => 
    bm_c1 (fun x1 => (if (decide (x1 ≤ v4)) = true then
      (v3 = 0 ∨ v3 = 1) ∧ Φ (.inl (some (bm_i v3))) w1
    else
      (if (decide (v3 = 0)) = true then
        (v3 = 0 ∨ v3 = 1) ∧ Φ (.inl (some (bm_i v3))) w1
      else
        (bm_kt w1 v0 = 12 ∧ bm_gr w1 v0 1 = some (bm_u (bm_gr w1 v0 1))) ∧
        (bm_kt w1 v0 = 12 ∧ bm_gr w1 v0 5 = some (bm_u (bm_gr w1 v0 5))) ∧
        (bm_kt w1 (bm_u (bm_gr w1 v0 5)) = 21 ∧ bm_in v1 (bm_kn w1 (bm_u (bm_gr w1 v0 5)))) ∧
        (bm_kt w1 (bm_u (bm_gr w1 v0 1)) = 21 ∧ bm_in (bm_w ((bm_gi w1 (bm_u (bm_gr w1 v0 5)) (v1).toNat) + v4)) (bm_kn w1 (bm_u (bm_gr w1 v0 1)))) ∧
        (v2 < 31) ∧ bm_Call bm_pg d y_J0_charAt_5068e [bm_k (0, v2), bm_i v4] w1 (fun r2 w2 => 
          bm_c1 (fun x2 => (if (!decide ((bm_gi w1 (bm_u (bm_gr w1 v0 1)) ((bm_w ((bm_gi w1 (bm_u (bm_gr w1 v0 5)) (v1).toNat) + v4))).toNat) = x2)) = true then
            bk_X12_is_49 d Φ v0 v1 v2 (0 : Int) (bm_w (v4 + 1)) w2
          else
            bk_X12_is_49 d Φ v0 v1 v2 (1 : Int) (bm_w (v4 + 1)) w2)) (fun E => Φ (.inr E) w2) r2)))) (fun E => Φ (.inr E) w1) r1)) : bk_X12_is_49 d Φ v0 v1 v2 v3 v4 w := bm_go (bm_Call_mono _ _) [49] 59 _ h
/-! CaseTablesModel.isName(I)Z -/
def bk_X12_isName_27 (d : Nat) (Φ : bm_Rt → bm_W → Prop) (v0 : Nat) (v1 : Int) (v2 : Int) (v4 : Int) (v5 : Int) (w : bm_W) : Prop := bm_Wp (bm_Call bm_pg d) tb_X12_isName Φ (27, [some (bm_r (some v0)), some (bm_i v1), some (bm_i v2), some (bm_k (2, 1)), some (bm_i v4), some (bm_i v5), none], [], w)
set_option maxRecDepth 20000 in
theorem vc_X12_isName {d : Nat} {Φ : bm_Rt → bm_W → Prop} {p0 : Nat} {p1 : Int} {w : bm_W} (h :
  (bm_kt w p0 = 12 ∧ bm_gr w p0 4 = some (bm_u (bm_gr w p0 4))) ∧
  (bm_kt w (bm_u (bm_gr w p0 4)) = 21 ∧ bm_in p1 (bm_kn w (bm_u (bm_gr w p0 4)))) ∧
  (if (!decide ((bm_gi w (bm_u (bm_gr w p0 4)) (p1).toNat) = (1 : Int))) = true then
    (bm_kIs bm_KK (2, 1)) ∧
    bk_X12_isName_27 d Φ p0 p1 (0 : Int) (bm_kLen bm_KK (2, 1) : Int) (0 : Int) w
  else
    (bm_kIs bm_KK (2, 1)) ∧
    bk_X12_isName_27 d Φ p0 p1 (1 : Int) (bm_kLen bm_KK (2, 1) : Int) (0 : Int) w)) : bm_Call bm_pg (d + 1) y_X12_isName [bm_r (some p0), bm_i p1] w Φ := bm_enter rfl (bm_go (bm_Call_mono _ _) [27] 41 _ h)
set_option maxRecDepth 20000 in
theorem vb_X12_isName_27 {d : Nat} {Φ : bm_Rt → bm_W → Prop} {v0 : Nat} {v1 : Int} {v2 : Int} {v4 : Int} {v5 : Int} {w : bm_W} (h :
  (if (decide (v4 ≤ v5)) = true then
    (v2 = 0 ∨ v2 = 1) ∧ Φ (.inl (some (bm_i v2))) w
  else
    (bm_in v5 bm_KK.2.2.2.2.1.length) ∧
    (if (decide (v2 = 0)) = true then
      bk_X12_isName_27 d Φ v0 v1 (0 : Int) v4 (bm_w (v5 + 1)) w
    else
      (bm_kt w v0 = 12) ∧ bm_Call bm_pg d y_X12_is [bm_r (some v0), bm_i v1, bm_k (0, (bm_KK.2.2.2.2.1.getD (v5).toNat 0))] w (fun r1 w1 => 
        bm_c1 (fun x1 => (if (!decide (x1 = 0)) = true then
          bk_X12_isName_27 d Φ v0 v1 (0 : Int) v4 (bm_w (v5 + 1)) w1
        else
          bk_X12_isName_27 d Φ v0 v1 (1 : Int) v4 (bm_w (v5 + 1)) w1)) (fun E => Φ (.inr E) w1) r1)))) : bk_X12_isName_27 d Φ v0 v1 v2 v4 v5 w := bm_go (bm_Call_mono _ _) [27] 41 _ h
/-! CaseTablesModel.nameOf(I)J -/
def bk_X12_nameOf_10 (d : Nat) (Φ : bm_Rt → bm_W → Prop) (v0 : Nat) (v1 : Int) (v2 : Int) (v4 : Int) (w : bm_W) : Prop := bm_Wp (bm_Call bm_pg d) tb_X12_nameOf Φ (10, [some (bm_r (some v0)), some (bm_i v1), some (bm_l v2), none, some (bm_i v4)], [], w)
set_option maxRecDepth 20000 in
theorem vc_X12_nameOf {d : Nat} {Φ : bm_Rt → bm_W → Prop} {p0 : Nat} {p1 : Int} {w : bm_W} (h :
  (bm_kt w p0 = 12 ∧ bm_gr w p0 5 = some (bm_u (bm_gr w p0 5))) ∧
  (bm_kt w (bm_u (bm_gr w p0 5)) = 21 ∧ bm_in p1 (bm_kn w (bm_u (bm_gr w p0 5)))) ∧
  bk_X12_nameOf_10 d Φ p0 p1 (0 : Int) (bm_gi w (bm_u (bm_gr w p0 5)) (p1).toNat) w) : bm_Call bm_pg (d + 1) y_X12_nameOf [bm_r (some p0), bm_i p1] w Φ := bm_enter rfl (bm_go (bm_Call_mono _ _) [10] 44 _ h)
set_option maxRecDepth 20000 in
theorem vb_X12_nameOf_10 {d : Nat} {Φ : bm_Rt → bm_W → Prop} {v0 : Nat} {v1 : Int} {v2 : Int} {v4 : Int} {w : bm_W} (h :
  (bm_kt w v0 = 12 ∧ bm_gr w v0 6 = some (bm_u (bm_gr w v0 6))) ∧
  (bm_kt w (bm_u (bm_gr w v0 6)) = 21 ∧ bm_in v1 (bm_kn w (bm_u (bm_gr w v0 6)))) ∧
  (if (decide ((bm_gi w (bm_u (bm_gr w v0 6)) (v1).toNat) ≤ v4)) = true then
    Φ (.inl (some (bm_l v2))) w
  else
    (bm_kt w v0 = 12 ∧ bm_gr w v0 1 = some (bm_u (bm_gr w v0 1))) ∧
    (bm_kt w (bm_u (bm_gr w v0 1)) = 21 ∧ bm_in v4 (bm_kn w (bm_u (bm_gr w v0 1)))) ∧
    (True) ∧ bm_Call bm_pg d y_X12_isDigit [bm_i (bm_gi w (bm_u (bm_gr w v0 1)) (v4).toNat)] w (fun r1 w1 => 
      bm_c1 (fun x1 => (if (decide (x1 = 0)) = true then
        (bm_kt w1 v0 = 12 ∧ bm_gr w1 v0 1 = some (bm_u (bm_gr w1 v0 1))) ∧
        (bm_kt w1 (bm_u (bm_gr w1 v0 1)) = 21 ∧ bm_in v4 (bm_kn w1 (bm_u (bm_gr w1 v0 1)))) ∧
        bk_X12_nameOf_10 d Φ v0 v1 (bm_x ((bm_x ((37 : Int) * v2)) + (bm_w ((bm_gi w1 (bm_u (bm_gr w1 v0 1)) (v4).toNat) - (86 : Int))))) (bm_w (v4 + 1)) w1
      else
        (bm_kt w1 v0 = 12 ∧ bm_gr w1 v0 1 = some (bm_u (bm_gr w1 v0 1))) ∧
        (bm_kt w1 (bm_u (bm_gr w1 v0 1)) = 21 ∧ bm_in v4 (bm_kn w1 (bm_u (bm_gr w1 v0 1)))) ∧
        bk_X12_nameOf_10 d Φ v0 v1 (bm_x ((bm_x ((37 : Int) * v2)) + (bm_w ((bm_gi w1 (bm_u (bm_gr w1 v0 1)) (v4).toNat) - (47 : Int))))) (bm_w (v4 + 1)) w1)) (fun E => Φ (.inr E) w1) r1))) : bk_X12_nameOf_10 d Φ v0 v1 v2 v4 w := bm_go (bm_Call_mono _ _) [10] 44 _ h
/-! CaseTablesModel.numberOf(I)I -/
def bk_X12_numberOf_9 (d : Nat) (Φ : bm_Rt → bm_W → Prop) (v0 : Nat) (v1 : Int) (v2 : Int) (v3 : Int) (w : bm_W) : Prop := bm_Wp (bm_Call bm_pg d) tb_X12_numberOf Φ (9, [some (bm_r (some v0)), some (bm_i v1), some (bm_i v2), some (bm_i v3)], [], w)
set_option maxRecDepth 20000 in
theorem vc_X12_numberOf {d : Nat} {Φ : bm_Rt → bm_W → Prop} {p0 : Nat} {p1 : Int} {w : bm_W} (h :
  (bm_kt w p0 = 12 ∧ bm_gr w p0 5 = some (bm_u (bm_gr w p0 5))) ∧
  (bm_kt w (bm_u (bm_gr w p0 5)) = 21 ∧ bm_in p1 (bm_kn w (bm_u (bm_gr w p0 5)))) ∧
  bk_X12_numberOf_9 d Φ p0 p1 (0 : Int) (bm_gi w (bm_u (bm_gr w p0 5)) (p1).toNat) w) : bm_Call bm_pg (d + 1) y_X12_numberOf [bm_r (some p0), bm_i p1] w Φ := bm_enter rfl (bm_go (bm_Call_mono _ _) [9] 30 _ h)
set_option maxRecDepth 20000 in
theorem vb_X12_numberOf_9 {d : Nat} {Φ : bm_Rt → bm_W → Prop} {v0 : Nat} {v1 : Int} {v2 : Int} {v3 : Int} {w : bm_W} (h :
  (bm_kt w v0 = 12 ∧ bm_gr w v0 6 = some (bm_u (bm_gr w v0 6))) ∧
  (bm_kt w (bm_u (bm_gr w v0 6)) = 21 ∧ bm_in v1 (bm_kn w (bm_u (bm_gr w v0 6)))) ∧
  (if (decide ((bm_gi w (bm_u (bm_gr w v0 6)) (v1).toNat) ≤ v3)) = true then
    Φ (.inl (some (bm_i v2))) w
  else
    (bm_kt w v0 = 12 ∧ bm_gr w v0 1 = some (bm_u (bm_gr w v0 1))) ∧
    (bm_kt w (bm_u (bm_gr w v0 1)) = 21 ∧ bm_in v3 (bm_kn w (bm_u (bm_gr w v0 1)))) ∧
    bk_X12_numberOf_9 d Φ v0 v1 (bm_w ((bm_w ((bm_w ((10 : Int) * v2)) + (bm_gi w (bm_u (bm_gr w v0 1)) (v3).toNat))) - (48 : Int))) (bm_w (v3 + 1)) w)) : bk_X12_numberOf_9 d Φ v0 v1 v2 v3 w := bm_go (bm_Call_mono _ _) [9] 30 _ h
/-! CaseTablesModel.operator(III)I -/
def bk_X12_operator_6 (d : Nat) (Φ : bm_Rt → bm_W → Prop) (v0 : Nat) (v1 : Int) (v3 : Int) (v4 : Int) (v5 : Int) (w : bm_W) : Prop := bm_Wp (bm_Call bm_pg d) tb_X12_operator Φ (6, [some (bm_r (some v0)), some (bm_i v1), none, some (bm_i v3), some (bm_i v4), some (bm_i v5)], [], w)
set_option maxRecDepth 20000 in
theorem vc_X12_operator {d : Nat} {Φ : bm_Rt → bm_W → Prop} {p0 : Nat} {p1 : Int} {p2 : Int} {p3 : Int} {w : bm_W} (h :
  bk_X12_operator_6 d Φ p0 p1 p3 (-1 : Int) p2 w) : bm_Call bm_pg (d + 1) y_X12_operator [bm_r (some p0), bm_i p1, bm_i p2, bm_i p3] w Φ := bm_enter rfl (bm_go (bm_Call_mono _ _) [6] 22 _ h)
set_option maxRecDepth 20000 in
theorem vb_X12_operator_6 {d : Nat} {Φ : bm_Rt → bm_W → Prop} {v0 : Nat} {v1 : Int} {v3 : Int} {v4 : Int} {v5 : Int} {w : bm_W} (h :
  (if (decide (v3 ≤ v5)) = true then
    Φ (.inl (some (bm_i v4))) w
  else
    (bm_in v5 bm_KK.2.2.2.2.2.length) ∧
    (bm_kt w v0 = 12) ∧ bm_Call bm_pg d y_X12_is [bm_r (some v0), bm_i v1, bm_k (0, (bm_KK.2.2.2.2.2.getD (v5).toNat 0))] w (fun r1 w1 => 
      bm_c1 (fun x1 => (if (decide (x1 = 0)) = true then
        bk_X12_operator_6 d Φ v0 v1 v3 v4 (bm_w (v5 + 1)) w1
      else
        bk_X12_operator_6 d Φ v0 v1 v3 v5 (bm_w (v5 + 1)) w1)) (fun E => Φ (.inr E) w1) r1))) : bk_X12_operator_6 d Φ v0 v1 v3 v4 v5 w := bm_go (bm_Call_mono _ _) [6] 22 _ h
/-! CaseTablesModel.sees(Ljava/lang/String;)Z -/
set_option maxRecDepth 20000 in
theorem vc_X12_sees {d : Nat} {Φ : bm_Rt → bm_W → Prop} {p0 : Nat} {p1 : Nat} {w : bm_W} (h :
  (bm_kt w p0 = 12) ∧
  (bm_kt w p0 = 12) ∧ bm_Call bm_pg d y_X12_is [bm_r (some p0), bm_i (bm_gi w p0 9), bm_k (0, p1)] w (fun r1 w1 => 
    bm_c1 (fun x1 => (x1 = 0 ∨ x1 = 1) ∧ Φ (.inl (some (bm_i x1))) w1) (fun E => Φ (.inr E) w1) r1)) : bm_Call bm_pg (d + 1) y_X12_sees [bm_r (some p0), bm_k (0, p1)] w Φ := bm_enter rfl (bm_go (bm_Call_mono _ _) [] 8 _ h)
/-! CaseTablesModel.takes(Ljava/lang/String;)Z -/
set_option maxRecDepth 20000 in
theorem vc_X12_takes {d : Nat} {Φ : bm_Rt → bm_W → Prop} {p0 : Nat} {p1 : Nat} {w : bm_W} (h :
  (bm_kt w p0 = 12) ∧ bm_Call bm_pg d y_X12_sees [bm_r (some p0), bm_k (0, p1)] w (fun r1 w1 => 
    bm_c1 (fun x1 => (if (!decide (x1 = 0)) = true then
      (bm_kt w1 p0 = 12) ∧
      (bm_kt w1 p0 = 12) ∧
      ((1 : Int) = 0 ∨ (1 : Int) = 1) ∧ Φ (.inl (some (bm_i (1 : Int)))) (bm_si w1 p0 9 (bm_w ((bm_gi w1 p0 9) + (1 : Int))))
    else
      ((0 : Int) = 0 ∨ (0 : Int) = 1) ∧ Φ (.inl (some (bm_i (0 : Int)))) w1)) (fun E => Φ (.inr E) w1) r1)) : bm_Call bm_pg (d + 1) y_X12_takes [bm_r (some p0), bm_k (0, p1)] w Φ := bm_enter rfl (bm_go (bm_Call_mono _ _) [] 16 _ h)
/-! CaseTablesModel.takesName()Z -/
set_option maxRecDepth 20000 in
theorem vc_X12_takesName {d : Nat} {Φ : bm_Rt → bm_W → Prop} {p0 : Nat} {w : bm_W} (h :
  (bm_kt w p0 = 12) ∧
  (bm_kt w p0 = 12) ∧ bm_Call bm_pg d y_X12_isName [bm_r (some p0), bm_i (bm_gi w p0 9)] w (fun r1 w1 => 
    bm_c1 (fun x1 => (if (!decide (x1 = 0)) = true then
      (bm_kt w1 p0 = 12) ∧
      (bm_kt w1 p0 = 12) ∧
      ((1 : Int) = 0 ∨ (1 : Int) = 1) ∧ Φ (.inl (some (bm_i (1 : Int)))) (bm_si w1 p0 9 (bm_w ((bm_gi w1 p0 9) + (1 : Int))))
    else
      ((0 : Int) = 0 ∨ (0 : Int) = 1) ∧ Φ (.inl (some (bm_i (0 : Int)))) w1)) (fun E => Φ (.inr E) w1) r1)) : bm_Call bm_pg (d + 1) y_X12_takesName [bm_r (some p0)] w Φ := bm_enter rfl (bm_go (bm_Call_mono _ _) [] 17 _ h)
/-! CaseTablesModel.takesWhole()Z -/
set_option maxRecDepth 20000 in
theorem vc_X12_takesWhole {d : Nat} {Φ : bm_Rt → bm_W → Prop} {p0 : Nat} {w : bm_W} (h :
  (bm_kt w p0 = 12) ∧ bm_Call bm_pg d y_X12_takes [bm_r (some p0), bm_k (0, 1)] w (fun r1 w1 => 
    bm_c1 (fun x1 => (bm_kt w1 p0 = 12 ∧ bm_gr w1 p0 4 = some (bm_u (bm_gr w1 p0 4))) ∧
    (bm_kt w1 p0 = 12) ∧
    (bm_kt w1 (bm_u (bm_gr w1 p0 4)) = 21 ∧ bm_in (bm_gi w1 p0 9) (bm_kn w1 (bm_u (bm_gr w1 p0 4)))) ∧
    (if (decide ((bm_gi w1 (bm_u (bm_gr w1 p0 4)) ((bm_gi w1 p0 9)).toNat) = (2 : Int))) = true then
      (bm_kt w1 p0 = 12) ∧
      (bm_kt w1 p0 = 12) ∧
      ((1 : Int) = 0 ∨ (1 : Int) = 1) ∧ Φ (.inl (some (bm_i (1 : Int)))) (bm_si w1 p0 9 (bm_w ((bm_gi w1 p0 9) + (1 : Int))))
    else
      ((0 : Int) = 0 ∨ (0 : Int) = 1) ∧ Φ (.inl (some (bm_i (0 : Int)))) w1)) (fun E => Φ (.inr E) w1) r1)) : bm_Call bm_pg (d + 1) y_X12_takesWhole [bm_r (some p0)] w Φ := bm_enter rfl (bm_go (bm_Call_mono _ _) [] 23 _ h)
/-! CaseTablesModel.program()Z -/
def bk_X12_program_0 (d : Nat) (Φ : bm_Rt → bm_W → Prop) (v0 : Nat) (w : bm_W) : Prop := bm_Wp (bm_Call bm_pg d) tb_X12_program Φ (0, [some (bm_r (some v0))], [], w)
set_option maxRecDepth 20000 in
theorem vc_X12_program {d : Nat} {Φ : bm_Rt → bm_W → Prop} {p0 : Nat} {w : bm_W} (h :
  (bm_kt w p0 = 12) ∧ bm_Call bm_pg d y_X12_item [bm_r (some p0)] w (fun r1 w1 => 
    bm_c1 (fun x1 => (if (!decide (x1 = 0)) = true then
      (bm_kt w1 p0 = 12 ∧ bm_gr w1 p0 4 = some (bm_u (bm_gr w1 p0 4))) ∧
      (bm_kt w1 p0 = 12) ∧
      (bm_kt w1 (bm_u (bm_gr w1 p0 4)) = 21 ∧ bm_in (bm_gi w1 p0 9) (bm_kn w1 (bm_u (bm_gr w1 p0 4)))) ∧
      (if (!decide ((bm_gi w1 (bm_u (bm_gr w1 p0 4)) ((bm_gi w1 p0 9)).toNat) = 0)) = true then
        bk_X12_program_0 d Φ p0 w1
      else
        ((1 : Int) = 0 ∨ (1 : Int) = 1) ∧ Φ (.inl (some (bm_i (1 : Int)))) w1)
    else
      ((0 : Int) = 0 ∨ (0 : Int) = 1) ∧ Φ (.inl (some (bm_i (0 : Int)))) w1)) (fun E => Φ (.inr E) w1) r1)) : bm_Call bm_pg (d + 1) y_X12_program [bm_r (some p0)] w Φ := bm_enter rfl (bm_go (bm_Call_mono _ _) [0] 15 _ h)
set_option maxRecDepth 20000 in
theorem ve_X12_program {d : Nat} {Φ : bm_Rt → bm_W → Prop} {p0 : Nat} {w : bm_W} (h : bk_X12_program_0 d Φ p0 w) : bm_Call bm_pg (d + 1) y_X12_program [bm_r (some p0)] w Φ := bm_enter rfl (bm_Wp.msk (bm_Call_mono _ _) h)
set_option maxRecDepth 20000 in
theorem vb_X12_program_0 {d : Nat} {Φ : bm_Rt → bm_W → Prop} {v0 : Nat} {w : bm_W} (h :
  (bm_kt w v0 = 12) ∧ bm_Call bm_pg d y_X12_item [bm_r (some v0)] w (fun r1 w1 => 
    bm_c1 (fun x1 => (if (!decide (x1 = 0)) = true then
      (bm_kt w1 v0 = 12 ∧ bm_gr w1 v0 4 = some (bm_u (bm_gr w1 v0 4))) ∧
      (bm_kt w1 v0 = 12) ∧
      (bm_kt w1 (bm_u (bm_gr w1 v0 4)) = 21 ∧ bm_in (bm_gi w1 v0 9) (bm_kn w1 (bm_u (bm_gr w1 v0 4)))) ∧
      (if (!decide ((bm_gi w1 (bm_u (bm_gr w1 v0 4)) ((bm_gi w1 v0 9)).toNat) = 0)) = true then
        bk_X12_program_0 d Φ v0 w1
      else
        ((1 : Int) = 0 ∨ (1 : Int) = 1) ∧ Φ (.inl (some (bm_i (1 : Int)))) w1)
    else
      ((0 : Int) = 0 ∨ (0 : Int) = 1) ∧ Φ (.inl (some (bm_i (0 : Int)))) w1)) (fun E => Φ (.inr E) w1) r1)) : bk_X12_program_0 d Φ v0 w := bm_go (bm_Call_mono _ _) [0] 15 _ h
/-! CaseTablesModel.item()Z -/
set_option maxRecDepth 20000 in
theorem vc_X12_item {d : Nat} {Φ : bm_Rt → bm_W → Prop} {p0 : Nat} {w : bm_W} (h :
  (bm_kt w p0 = 12) ∧ bm_Call bm_pg d y_X12_takes [bm_r (some p0), bm_k (0, 2)] w (fun r1 w1 => 
    bm_c1 (fun x1 => (if (decide (x1 = 0)) = true then
      (bm_kt w1 p0 = 12) ∧ bm_Call bm_pg d y_X12_takes [bm_r (some p0), bm_k (0, 7)] w1 (fun r2 w2 => 
        bm_c1 (fun x2 => (if (decide (x2 = 0)) = true then
          ((0 : Int) = 0 ∨ (0 : Int) = 1) ∧ Φ (.inl (some (bm_i (0 : Int)))) w2
        else
          (bm_kt w2 p0 = 12) ∧ bm_Call bm_pg d y_X12_takesName [bm_r (some p0)] w2 (fun r3 w3 => 
            bm_c1 (fun x3 => (if (decide (x3 = 0)) = true then
              ((0 : Int) = 0 ∨ (0 : Int) = 1) ∧ Φ (.inl (some (bm_i (0 : Int)))) w3
            else
              (bm_kt w3 p0 = 12) ∧ bm_Call bm_pg d y_X12_takes [bm_r (some p0), bm_k (0, 8)] w3 (fun r4 w4 => 
                bm_c1 (fun x4 => (if (decide (x4 = 0)) = true then
                  ((0 : Int) = 0 ∨ (0 : Int) = 1) ∧ Φ (.inl (some (bm_i (0 : Int)))) w4
                else
                  (bm_kt w4 p0 = 12) ∧ bm_Call bm_pg d y_X12_takesName [bm_r (some p0)] w4 (fun r5 w5 => 
                    bm_c1 (fun x5 => (if (decide (x5 = 0)) = true then
                      ((0 : Int) = 0 ∨ (0 : Int) = 1) ∧ Φ (.inl (some (bm_i (0 : Int)))) w5
                    else
                      (bm_kt w5 p0 = 12) ∧ bm_Call bm_pg d y_X12_takes [bm_r (some p0), bm_k (0, 9)] w5 (fun r6 w6 => 
                        bm_c1 (fun x6 => (if (decide (x6 = 0)) = true then
                          ((0 : Int) = 0 ∨ (0 : Int) = 1) ∧ Φ (.inl (some (bm_i (0 : Int)))) w6
                        else
                          (bm_kt w6 p0 = 12) ∧ bm_Call bm_pg d y_X12_rowsForm [bm_r (some p0)] w6 (fun r7 w7 => 
                            bm_c1 (fun x7 => (if (decide (x7 = 0)) = true then
                              ((0 : Int) = 0 ∨ (0 : Int) = 1) ∧ Φ (.inl (some (bm_i (0 : Int)))) w7
                            else
                              (bm_kt w7 p0 = 12) ∧ bm_Call bm_pg d y_X12_takes [bm_r (some p0), bm_k (0, 6)] w7 (fun r8 w8 => 
                                bm_c1 (fun x8 => (if (decide (x8 = 0)) = true then
                                  ((0 : Int) = 0 ∨ (0 : Int) = 1) ∧ Φ (.inl (some (bm_i (0 : Int)))) w8
                                else
                                  ((1 : Int) = 0 ∨ (1 : Int) = 1) ∧ Φ (.inl (some (bm_i (1 : Int)))) w8)) (fun E => Φ (.inr E) w8) r8))) (fun E => Φ (.inr E) w7) r7))) (fun E => Φ (.inr E) w6) r6))) (fun E => Φ (.inr E) w5) r5))) (fun E => Φ (.inr E) w4) r4))) (fun E => Φ (.inr E) w3) r3))) (fun E => Φ (.inr E) w2) r2)
    else
      (bm_kt w1 p0 = 12) ∧ bm_Call bm_pg d y_X12_takesName [bm_r (some p0)] w1 (fun r9 w9 => 
        bm_c1 (fun x9 => (if (decide (x9 = 0)) = true then
          ((0 : Int) = 0 ∨ (0 : Int) = 1) ∧ Φ (.inl (some (bm_i (0 : Int)))) w9
        else
          (bm_kt w9 p0 = 12) ∧ bm_Call bm_pg d y_X12_takes [bm_r (some p0), bm_k (0, 3)] w9 (fun r10 w10 => 
            bm_c1 (fun x10 => (if (decide (x10 = 0)) = true then
              ((0 : Int) = 0 ∨ (0 : Int) = 1) ∧ Φ (.inl (some (bm_i (0 : Int)))) w10
            else
              (bm_kt w10 p0 = 12) ∧ bm_Call bm_pg d y_X12_inputsForm [bm_r (some p0)] w10 (fun r11 w11 => 
                bm_c1 (fun x11 => (if (decide (x11 = 0)) = true then
                  ((0 : Int) = 0 ∨ (0 : Int) = 1) ∧ Φ (.inl (some (bm_i (0 : Int)))) w11
                else
                  (bm_kt w11 p0 = 12) ∧ bm_Call bm_pg d y_X12_takes [bm_r (some p0), bm_k (0, 4)] w11 (fun r12 w12 => 
                    bm_c1 (fun x12 => (if (decide (x12 = 0)) = true then
                      ((0 : Int) = 0 ∨ (0 : Int) = 1) ∧ Φ (.inl (some (bm_i (0 : Int)))) w12
                    else
                      (bm_kt w12 p0 = 12) ∧ bm_Call bm_pg d y_X12_takes [bm_r (some p0), bm_k (0, 5)] w12 (fun r13 w13 => 
                        bm_c1 (fun x13 => (if (decide (x13 = 0)) = true then
                          ((0 : Int) = 0 ∨ (0 : Int) = 1) ∧ Φ (.inl (some (bm_i (0 : Int)))) w13
                        else
                          (bm_kt w13 p0 = 12) ∧ bm_Call bm_pg d y_X12_wholeExpression [bm_r (some p0)] w13 (fun r14 w14 => 
                            bm_c1 (fun x14 => (if (decide (x14 = 0)) = true then
                              ((0 : Int) = 0 ∨ (0 : Int) = 1) ∧ Φ (.inl (some (bm_i (0 : Int)))) w14
                            else
                              (bm_kt w14 p0 = 12) ∧ bm_Call bm_pg d y_X12_takes [bm_r (some p0), bm_k (0, 6)] w14 (fun r15 w15 => 
                                bm_c1 (fun x15 => (if (decide (x15 = 0)) = true then
                                  ((0 : Int) = 0 ∨ (0 : Int) = 1) ∧ Φ (.inl (some (bm_i (0 : Int)))) w15
                                else
                                  ((1 : Int) = 0 ∨ (1 : Int) = 1) ∧ Φ (.inl (some (bm_i (1 : Int)))) w15)) (fun E => Φ (.inr E) w15) r15))) (fun E => Φ (.inr E) w14) r14))) (fun E => Φ (.inr E) w13) r13))) (fun E => Φ (.inr E) w12) r12))) (fun E => Φ (.inr E) w11) r11))) (fun E => Φ (.inr E) w10) r10))) (fun E => Φ (.inr E) w9) r9))) (fun E => Φ (.inr E) w1) r1)) : bm_Call bm_pg (d + 1) y_X12_item [bm_r (some p0)] w Φ := bm_enter rfl (bm_go (bm_Call_mono _ _) [] 64 _ h)
/-! CaseTablesModel.inputsForm()Z -/
def bk_X12_inputsForm_0 (d : Nat) (Φ : bm_Rt → bm_W → Prop) (v0 : Nat) (w : bm_W) : Prop := bm_Wp (bm_Call bm_pg d) tb_X12_inputsForm Φ (0, [some (bm_r (some v0))], [], w)
set_option maxRecDepth 20000 in
theorem vc_X12_inputsForm {d : Nat} {Φ : bm_Rt → bm_W → Prop} {p0 : Nat} {w : bm_W} (h :
  (bm_kt w p0 = 12) ∧ bm_Call bm_pg d y_X12_takesName [bm_r (some p0)] w (fun r1 w1 => 
    bm_c1 (fun x1 => (if (decide (x1 = 0)) = true then
      ((0 : Int) = 0 ∨ (0 : Int) = 1) ∧ Φ (.inl (some (bm_i (0 : Int)))) w1
    else
      (bm_kt w1 p0 = 12) ∧ bm_Call bm_pg d y_X12_takes [bm_r (some p0), bm_k (0, 10)] w1 (fun r2 w2 => 
        bm_c1 (fun x2 => (if (decide (x2 = 0)) = true then
          ((0 : Int) = 0 ∨ (0 : Int) = 1) ∧ Φ (.inl (some (bm_i (0 : Int)))) w2
        else
          (bm_kt w2 p0 = 12) ∧ bm_Call bm_pg d y_X12_takesWhole [bm_r (some p0)] w2 (fun r3 w3 => 
            bm_c1 (fun x3 => (if (decide (x3 = 0)) = true then
              ((0 : Int) = 0 ∨ (0 : Int) = 1) ∧ Φ (.inl (some (bm_i (0 : Int)))) w3
            else
              (bm_kt w3 p0 = 12) ∧ bm_Call bm_pg d y_X12_takes [bm_r (some p0), bm_k (0, 11)] w3 (fun r4 w4 => 
                bm_c1 (fun x4 => (if (decide (x4 = 0)) = true then
                  ((0 : Int) = 0 ∨ (0 : Int) = 1) ∧ Φ (.inl (some (bm_i (0 : Int)))) w4
                else
                  (bm_kt w4 p0 = 12) ∧ bm_Call bm_pg d y_X12_takesWhole [bm_r (some p0)] w4 (fun r5 w5 => 
                    bm_c1 (fun x5 => (if (!decide (x5 = 0)) = true then
                      (bm_kt w5 p0 = 12) ∧ bm_Call bm_pg d y_X12_takes [bm_r (some p0), bm_k (0, 12)] w5 (fun r6 w6 => 
                        bm_c1 (fun x6 => (if (!decide (x6 = 0)) = true then
                          bk_X12_inputsForm_0 d Φ p0 w6
                        else
                          ((1 : Int) = 0 ∨ (1 : Int) = 1) ∧ Φ (.inl (some (bm_i (1 : Int)))) w6)) (fun E => Φ (.inr E) w6) r6)
                    else
                      ((0 : Int) = 0 ∨ (0 : Int) = 1) ∧ Φ (.inl (some (bm_i (0 : Int)))) w5)) (fun E => Φ (.inr E) w5) r5))) (fun E => Φ (.inr E) w4) r4))) (fun E => Φ (.inr E) w3) r3))) (fun E => Φ (.inr E) w2) r2))) (fun E => Φ (.inr E) w1) r1)) : bm_Call bm_pg (d + 1) y_X12_inputsForm [bm_r (some p0)] w Φ := bm_enter rfl (bm_go (bm_Call_mono _ _) [0] 27 _ h)
set_option maxRecDepth 20000 in
theorem ve_X12_inputsForm {d : Nat} {Φ : bm_Rt → bm_W → Prop} {p0 : Nat} {w : bm_W} (h : bk_X12_inputsForm_0 d Φ p0 w) : bm_Call bm_pg (d + 1) y_X12_inputsForm [bm_r (some p0)] w Φ := bm_enter rfl (bm_Wp.msk (bm_Call_mono _ _) h)
set_option maxRecDepth 20000 in
theorem vb_X12_inputsForm_0 {d : Nat} {Φ : bm_Rt → bm_W → Prop} {v0 : Nat} {w : bm_W} (h :
  (bm_kt w v0 = 12) ∧ bm_Call bm_pg d y_X12_takesName [bm_r (some v0)] w (fun r1 w1 => 
    bm_c1 (fun x1 => (if (decide (x1 = 0)) = true then
      ((0 : Int) = 0 ∨ (0 : Int) = 1) ∧ Φ (.inl (some (bm_i (0 : Int)))) w1
    else
      (bm_kt w1 v0 = 12) ∧ bm_Call bm_pg d y_X12_takes [bm_r (some v0), bm_k (0, 10)] w1 (fun r2 w2 => 
        bm_c1 (fun x2 => (if (decide (x2 = 0)) = true then
          ((0 : Int) = 0 ∨ (0 : Int) = 1) ∧ Φ (.inl (some (bm_i (0 : Int)))) w2
        else
          (bm_kt w2 v0 = 12) ∧ bm_Call bm_pg d y_X12_takesWhole [bm_r (some v0)] w2 (fun r3 w3 => 
            bm_c1 (fun x3 => (if (decide (x3 = 0)) = true then
              ((0 : Int) = 0 ∨ (0 : Int) = 1) ∧ Φ (.inl (some (bm_i (0 : Int)))) w3
            else
              (bm_kt w3 v0 = 12) ∧ bm_Call bm_pg d y_X12_takes [bm_r (some v0), bm_k (0, 11)] w3 (fun r4 w4 => 
                bm_c1 (fun x4 => (if (decide (x4 = 0)) = true then
                  ((0 : Int) = 0 ∨ (0 : Int) = 1) ∧ Φ (.inl (some (bm_i (0 : Int)))) w4
                else
                  (bm_kt w4 v0 = 12) ∧ bm_Call bm_pg d y_X12_takesWhole [bm_r (some v0)] w4 (fun r5 w5 => 
                    bm_c1 (fun x5 => (if (!decide (x5 = 0)) = true then
                      (bm_kt w5 v0 = 12) ∧ bm_Call bm_pg d y_X12_takes [bm_r (some v0), bm_k (0, 12)] w5 (fun r6 w6 => 
                        bm_c1 (fun x6 => (if (!decide (x6 = 0)) = true then
                          bk_X12_inputsForm_0 d Φ v0 w6
                        else
                          ((1 : Int) = 0 ∨ (1 : Int) = 1) ∧ Φ (.inl (some (bm_i (1 : Int)))) w6)) (fun E => Φ (.inr E) w6) r6)
                    else
                      ((0 : Int) = 0 ∨ (0 : Int) = 1) ∧ Φ (.inl (some (bm_i (0 : Int)))) w5)) (fun E => Φ (.inr E) w5) r5))) (fun E => Φ (.inr E) w4) r4))) (fun E => Φ (.inr E) w3) r3))) (fun E => Φ (.inr E) w2) r2))) (fun E => Φ (.inr E) w1) r1)) : bk_X12_inputsForm_0 d Φ v0 w := bm_go (bm_Call_mono _ _) [0] 27 _ h
/-! CaseTablesModel.rowsForm()Z -/
def bk_X12_rowsForm_0 (d : Nat) (Φ : bm_Rt → bm_W → Prop) (v0 : Nat) (w : bm_W) : Prop := bm_Wp (bm_Call bm_pg d) tb_X12_rowsForm Φ (0, [some (bm_r (some v0))], [], w)
set_option maxRecDepth 20000 in
theorem vc_X12_rowsForm {d : Nat} {Φ : bm_Rt → bm_W → Prop} {p0 : Nat} {w : bm_W} (h :
  (bm_kt w p0 = 12) ∧ bm_Call bm_pg d y_X12_cellsForm [bm_r (some p0)] w (fun r1 w1 => 
    bm_c1 (fun x1 => (if (decide (x1 = 0)) = true then
      ((0 : Int) = 0 ∨ (0 : Int) = 1) ∧ Φ (.inl (some (bm_i (0 : Int)))) w1
    else
      (bm_kt w1 p0 = 12) ∧ bm_Call bm_pg d y_X12_takes [bm_r (some p0), bm_k (0, 9)] w1 (fun r2 w2 => 
        bm_c1 (fun x2 => (if (decide (x2 = 0)) = true then
          ((0 : Int) = 0 ∨ (0 : Int) = 1) ∧ Φ (.inl (some (bm_i (0 : Int)))) w2
        else
          (bm_kt w2 p0 = 12) ∧ bm_Call bm_pg d y_X12_resultForm [bm_r (some p0)] w2 (fun r3 w3 => 
            bm_c1 (fun x3 => (if (!decide (x3 = 0)) = true then
              (bm_kt w3 p0 = 12) ∧ bm_Call bm_pg d y_X12_takes [bm_r (some p0), bm_k (0, 13)] w3 (fun r4 w4 => 
                bm_c1 (fun x4 => (if (!decide (x4 = 0)) = true then
                  bk_X12_rowsForm_0 d Φ p0 w4
                else
                  ((1 : Int) = 0 ∨ (1 : Int) = 1) ∧ Φ (.inl (some (bm_i (1 : Int)))) w4)) (fun E => Φ (.inr E) w4) r4)
            else
              ((0 : Int) = 0 ∨ (0 : Int) = 1) ∧ Φ (.inl (some (bm_i (0 : Int)))) w3)) (fun E => Φ (.inr E) w3) r3))) (fun E => Φ (.inr E) w2) r2))) (fun E => Φ (.inr E) w1) r1)) : bm_Call bm_pg (d + 1) y_X12_rowsForm [bm_r (some p0)] w Φ := bm_enter rfl (bm_go (bm_Call_mono _ _) [0] 20 _ h)
set_option maxRecDepth 20000 in
theorem ve_X12_rowsForm {d : Nat} {Φ : bm_Rt → bm_W → Prop} {p0 : Nat} {w : bm_W} (h : bk_X12_rowsForm_0 d Φ p0 w) : bm_Call bm_pg (d + 1) y_X12_rowsForm [bm_r (some p0)] w Φ := bm_enter rfl (bm_Wp.msk (bm_Call_mono _ _) h)
set_option maxRecDepth 20000 in
theorem vb_X12_rowsForm_0 {d : Nat} {Φ : bm_Rt → bm_W → Prop} {v0 : Nat} {w : bm_W} (h :
  (bm_kt w v0 = 12) ∧ bm_Call bm_pg d y_X12_cellsForm [bm_r (some v0)] w (fun r1 w1 => 
    bm_c1 (fun x1 => (if (decide (x1 = 0)) = true then
      ((0 : Int) = 0 ∨ (0 : Int) = 1) ∧ Φ (.inl (some (bm_i (0 : Int)))) w1
    else
      (bm_kt w1 v0 = 12) ∧ bm_Call bm_pg d y_X12_takes [bm_r (some v0), bm_k (0, 9)] w1 (fun r2 w2 => 
        bm_c1 (fun x2 => (if (decide (x2 = 0)) = true then
          ((0 : Int) = 0 ∨ (0 : Int) = 1) ∧ Φ (.inl (some (bm_i (0 : Int)))) w2
        else
          (bm_kt w2 v0 = 12) ∧ bm_Call bm_pg d y_X12_resultForm [bm_r (some v0)] w2 (fun r3 w3 => 
            bm_c1 (fun x3 => (if (!decide (x3 = 0)) = true then
              (bm_kt w3 v0 = 12) ∧ bm_Call bm_pg d y_X12_takes [bm_r (some v0), bm_k (0, 13)] w3 (fun r4 w4 => 
                bm_c1 (fun x4 => (if (!decide (x4 = 0)) = true then
                  bk_X12_rowsForm_0 d Φ v0 w4
                else
                  ((1 : Int) = 0 ∨ (1 : Int) = 1) ∧ Φ (.inl (some (bm_i (1 : Int)))) w4)) (fun E => Φ (.inr E) w4) r4)
            else
              ((0 : Int) = 0 ∨ (0 : Int) = 1) ∧ Φ (.inl (some (bm_i (0 : Int)))) w3)) (fun E => Φ (.inr E) w3) r3))) (fun E => Φ (.inr E) w2) r2))) (fun E => Φ (.inr E) w1) r1)) : bk_X12_rowsForm_0 d Φ v0 w := bm_go (bm_Call_mono _ _) [0] 20 _ h
/-! CaseTablesModel.cellsForm()Z -/
def bk_X12_cellsForm_0 (d : Nat) (Φ : bm_Rt → bm_W → Prop) (v0 : Nat) (w : bm_W) : Prop := bm_Wp (bm_Call bm_pg d) tb_X12_cellsForm Φ (0, [some (bm_r (some v0))], [], w)
set_option maxRecDepth 20000 in
theorem vc_X12_cellsForm {d : Nat} {Φ : bm_Rt → bm_W → Prop} {p0 : Nat} {w : bm_W} (h :
  (bm_kt w p0 = 12) ∧ bm_Call bm_pg d y_X12_takes [bm_r (some p0), bm_k (0, 14)] w (fun r1 w1 => 
    bm_c1 (fun x1 => (if (!decide (x1 = 0)) = true then
      (bm_kt w1 p0 = 12) ∧ bm_Call bm_pg d y_X12_takes [bm_r (some p0), bm_k (0, 12)] w1 (fun r2 w2 => 
        bm_c1 (fun x2 => (if (!decide (x2 = 0)) = true then
          bk_X12_cellsForm_0 d Φ p0 w2
        else
          ((1 : Int) = 0 ∨ (1 : Int) = 1) ∧ Φ (.inl (some (bm_i (1 : Int)))) w2)) (fun E => Φ (.inr E) w2) r2)
    else
      (bm_kt w1 p0 = 12) ∧ bm_Call bm_pg d y_X12_takesWhole [bm_r (some p0)] w1 (fun r3 w3 => 
        bm_c1 (fun x3 => (if (decide (x3 = 0)) = true then
          ((0 : Int) = 0 ∨ (0 : Int) = 1) ∧ Φ (.inl (some (bm_i (0 : Int)))) w3
        else
          (bm_kt w3 p0 = 12) ∧ bm_Call bm_pg d y_X12_takes [bm_r (some p0), bm_k (0, 11)] w3 (fun r4 w4 => 
            bm_c1 (fun x4 => (if (decide (x4 = 0)) = true then
              (bm_kt w4 p0 = 12) ∧ bm_Call bm_pg d y_X12_takes [bm_r (some p0), bm_k (0, 12)] w4 (fun r5 w5 => 
                bm_c1 (fun x5 => (if (!decide (x5 = 0)) = true then
                  bk_X12_cellsForm_0 d Φ p0 w5
                else
                  ((1 : Int) = 0 ∨ (1 : Int) = 1) ∧ Φ (.inl (some (bm_i (1 : Int)))) w5)) (fun E => Φ (.inr E) w5) r5)
            else
              (bm_kt w4 p0 = 12) ∧ bm_Call bm_pg d y_X12_takesWhole [bm_r (some p0)] w4 (fun r6 w6 => 
                bm_c1 (fun x6 => (if (!decide (x6 = 0)) = true then
                  (bm_kt w6 p0 = 12) ∧ bm_Call bm_pg d y_X12_takes [bm_r (some p0), bm_k (0, 12)] w6 (fun r7 w7 => 
                    bm_c1 (fun x7 => (if (!decide (x7 = 0)) = true then
                      bk_X12_cellsForm_0 d Φ p0 w7
                    else
                      ((1 : Int) = 0 ∨ (1 : Int) = 1) ∧ Φ (.inl (some (bm_i (1 : Int)))) w7)) (fun E => Φ (.inr E) w7) r7)
                else
                  ((0 : Int) = 0 ∨ (0 : Int) = 1) ∧ Φ (.inl (some (bm_i (0 : Int)))) w6)) (fun E => Φ (.inr E) w6) r6))) (fun E => Φ (.inr E) w4) r4))) (fun E => Φ (.inr E) w3) r3))) (fun E => Φ (.inr E) w1) r1)) : bm_Call bm_pg (d + 1) y_X12_cellsForm [bm_r (some p0)] w Φ := bm_enter rfl (bm_go (bm_Call_mono _ _) [0] 24 _ h)
set_option maxRecDepth 20000 in
theorem ve_X12_cellsForm {d : Nat} {Φ : bm_Rt → bm_W → Prop} {p0 : Nat} {w : bm_W} (h : bk_X12_cellsForm_0 d Φ p0 w) : bm_Call bm_pg (d + 1) y_X12_cellsForm [bm_r (some p0)] w Φ := bm_enter rfl (bm_Wp.msk (bm_Call_mono _ _) h)
set_option maxRecDepth 20000 in
theorem vb_X12_cellsForm_0 {d : Nat} {Φ : bm_Rt → bm_W → Prop} {v0 : Nat} {w : bm_W} (h :
  (bm_kt w v0 = 12) ∧ bm_Call bm_pg d y_X12_takes [bm_r (some v0), bm_k (0, 14)] w (fun r1 w1 => 
    bm_c1 (fun x1 => (if (!decide (x1 = 0)) = true then
      (bm_kt w1 v0 = 12) ∧ bm_Call bm_pg d y_X12_takes [bm_r (some v0), bm_k (0, 12)] w1 (fun r2 w2 => 
        bm_c1 (fun x2 => (if (!decide (x2 = 0)) = true then
          bk_X12_cellsForm_0 d Φ v0 w2
        else
          ((1 : Int) = 0 ∨ (1 : Int) = 1) ∧ Φ (.inl (some (bm_i (1 : Int)))) w2)) (fun E => Φ (.inr E) w2) r2)
    else
      (bm_kt w1 v0 = 12) ∧ bm_Call bm_pg d y_X12_takesWhole [bm_r (some v0)] w1 (fun r3 w3 => 
        bm_c1 (fun x3 => (if (decide (x3 = 0)) = true then
          ((0 : Int) = 0 ∨ (0 : Int) = 1) ∧ Φ (.inl (some (bm_i (0 : Int)))) w3
        else
          (bm_kt w3 v0 = 12) ∧ bm_Call bm_pg d y_X12_takes [bm_r (some v0), bm_k (0, 11)] w3 (fun r4 w4 => 
            bm_c1 (fun x4 => (if (decide (x4 = 0)) = true then
              (bm_kt w4 v0 = 12) ∧ bm_Call bm_pg d y_X12_takes [bm_r (some v0), bm_k (0, 12)] w4 (fun r5 w5 => 
                bm_c1 (fun x5 => (if (!decide (x5 = 0)) = true then
                  bk_X12_cellsForm_0 d Φ v0 w5
                else
                  ((1 : Int) = 0 ∨ (1 : Int) = 1) ∧ Φ (.inl (some (bm_i (1 : Int)))) w5)) (fun E => Φ (.inr E) w5) r5)
            else
              (bm_kt w4 v0 = 12) ∧ bm_Call bm_pg d y_X12_takesWhole [bm_r (some v0)] w4 (fun r6 w6 => 
                bm_c1 (fun x6 => (if (!decide (x6 = 0)) = true then
                  (bm_kt w6 v0 = 12) ∧ bm_Call bm_pg d y_X12_takes [bm_r (some v0), bm_k (0, 12)] w6 (fun r7 w7 => 
                    bm_c1 (fun x7 => (if (!decide (x7 = 0)) = true then
                      bk_X12_cellsForm_0 d Φ v0 w7
                    else
                      ((1 : Int) = 0 ∨ (1 : Int) = 1) ∧ Φ (.inl (some (bm_i (1 : Int)))) w7)) (fun E => Φ (.inr E) w7) r7)
                else
                  ((0 : Int) = 0 ∨ (0 : Int) = 1) ∧ Φ (.inl (some (bm_i (0 : Int)))) w6)) (fun E => Φ (.inr E) w6) r6))) (fun E => Φ (.inr E) w4) r4))) (fun E => Φ (.inr E) w3) r3))) (fun E => Φ (.inr E) w1) r1)) : bk_X12_cellsForm_0 d Φ v0 w := bm_go (bm_Call_mono _ _) [0] 24 _ h
/-! CaseTablesModel.resultForm()Z -/
set_option maxRecDepth 20000 in
theorem vc_X12_resultForm {d : Nat} {Φ : bm_Rt → bm_W → Prop} {p0 : Nat} {w : bm_W} (h :
  (bm_kt w p0 = 12) ∧ bm_Call bm_pg d y_X12_takes [bm_r (some p0), bm_k (0, 15)] w (fun r1 w1 => 
    bm_c1 (fun x1 => (if (!decide (x1 = 0)) = true then
      ((1 : Int) = 0 ∨ (1 : Int) = 1) ∧ Φ (.inl (some (bm_i (1 : Int)))) w1
    else
      (bm_kt w1 p0 = 12) ∧ bm_Call bm_pg d y_X12_takes [bm_r (some p0), bm_k (0, 16)] w1 (fun r2 w2 => 
        bm_c1 (fun x2 => (if (decide (x2 = 0)) = true then
          (bm_kt w2 p0 = 12) ∧
          (bm_kt w2 p0 = 12) ∧ bm_Call bm_pg d y_X12_operator [bm_r (some p0), bm_i (bm_gi w2 p0 9), bm_i (2 : Int), bm_i (8 : Int)] w2 (fun r3 w3 => 
            bm_c1 (fun x3 => (if (!decide (x3 = (-1 : Int))) = true then
              (bm_kt w3 p0 = 12) ∧
              (bm_kt w3 p0 = 12) ∧
              (bm_kt (bm_si w3 p0 9 (bm_w ((bm_gi w3 p0 9) + (1 : Int)))) p0 = 12) ∧ bm_Call bm_pg d y_X12_takesWhole [bm_r (some p0)] (bm_si w3 p0 9 (bm_w ((bm_gi w3 p0 9) + (1 : Int)))) (fun r4 w4 => 
                bm_c1 (fun x4 => (x4 = 0 ∨ x4 = 1) ∧ Φ (.inl (some (bm_i x4))) w4) (fun E => Φ (.inr E) w4) r4)
            else
              ((0 : Int) = 0 ∨ (0 : Int) = 1) ∧ Φ (.inl (some (bm_i (0 : Int)))) w3)) (fun E => Φ (.inr E) w3) r3)
        else
          ((1 : Int) = 0 ∨ (1 : Int) = 1) ∧ Φ (.inl (some (bm_i (1 : Int)))) w2)) (fun E => Φ (.inr E) w2) r2))) (fun E => Φ (.inr E) w1) r1)) : bm_Call bm_pg (d + 1) y_X12_resultForm [bm_r (some p0)] w Φ := bm_enter rfl (bm_go (bm_Call_mono _ _) [] 31 _ h)
/-! CaseTablesModel.wholeExpression()Z -/
set_option maxRecDepth 20000 in
theorem vc_X12_wholeExpression {d : Nat} {Φ : bm_Rt → bm_W → Prop} {p0 : Nat} {w : bm_W} (h :
  (bm_kt w p0 = 12) ∧
  (bm_kt w p0 = 12) ∧
  (bm_kt (bm_si w p0 10 (bm_gi w p0 9)) p0 = 12) ∧ bm_Call bm_pg d y_X12_expressionForm [bm_r (some p0), bm_i (0 : Int)] (bm_si w p0 10 (bm_gi w p0 9)) (fun r1 w1 => 
    bm_c1 (fun x1 => (x1 = 0 ∨ x1 = 1) ∧ Φ (.inl (some (bm_i x1))) w1) (fun E => Φ (.inr E) w1) r1)) : bm_Call bm_pg (d + 1) y_X12_wholeExpression [bm_r (some p0)] w Φ := bm_enter rfl (bm_go (bm_Call_mono _ _) [] 10 _ h)
/-! CaseTablesModel.goes()Z -/
set_option maxRecDepth 20000 in
theorem vc_X12_goes {d : Nat} {Φ : bm_Rt → bm_W → Prop} {p0 : Nat} {w : bm_W} (h :
  (bm_kt w p0 = 12) ∧
  (bm_kt w p0 = 12) ∧
  (if (!decide ((bm_w ((bm_gi w p0 9) - (bm_gi w p0 10))) = (50 : Int))) = true then
    (bm_kt w p0 = 12) ∧
    (bm_kt w p0 = 12) ∧
    ((1 : Int) = 0 ∨ (1 : Int) = 1) ∧ Φ (.inl (some (bm_i (1 : Int)))) (bm_si w p0 9 (bm_w ((bm_gi w p0 9) + (1 : Int))))
  else
    ((0 : Int) = 0 ∨ (0 : Int) = 1) ∧ Φ (.inl (some (bm_i (0 : Int)))) w)) : bm_Call bm_pg (d + 1) y_X12_goes [bm_r (some p0)] w Φ := bm_enter rfl (bm_go (bm_Call_mono _ _) [] 19 _ h)
/-! CaseTablesModel.goes(Ljava/lang/String;)Z -/
set_option maxRecDepth 20000 in
theorem vc_X12_goes_ {d : Nat} {Φ : bm_Rt → bm_W → Prop} {p0 : Nat} {p1 : Nat} {w : bm_W} (h :
  (bm_kt w p0 = 12) ∧ bm_Call bm_pg d y_X12_sees [bm_r (some p0), bm_k (0, p1)] w (fun r1 w1 => 
    bm_c1 (fun x1 => (if (decide (x1 = 0)) = true then
      ((0 : Int) = 0 ∨ (0 : Int) = 1) ∧ Φ (.inl (some (bm_i (0 : Int)))) w1
    else
      (bm_kt w1 p0 = 12) ∧ bm_Call bm_pg d y_X12_goes [bm_r (some p0)] w1 (fun r2 w2 => 
        bm_c1 (fun x2 => (if (decide (x2 = 0)) = true then
          ((0 : Int) = 0 ∨ (0 : Int) = 1) ∧ Φ (.inl (some (bm_i (0 : Int)))) w2
        else
          ((1 : Int) = 0 ∨ (1 : Int) = 1) ∧ Φ (.inl (some (bm_i (1 : Int)))) w2)) (fun E => Φ (.inr E) w2) r2))) (fun E => Φ (.inr E) w1) r1)) : bm_Call bm_pg (d + 1) y_X12_goes_ [bm_r (some p0), bm_k (0, p1)] w Φ := bm_enter rfl (bm_go (bm_Call_mono _ _) [] 13 _ h)
/-! CaseTablesModel.expressionForm(I)Z -/
set_option maxRecDepth 20000 in
theorem vc_X12_expressionForm {d : Nat} {Φ : bm_Rt → bm_W → Prop} {p0 : Nat} {p1 : Int} {w : bm_W} (h :
  (bm_kt w p0 = 12) ∧ bm_Call bm_pg d y_X12_sees [bm_r (some p0), bm_k (0, 17)] w (fun r1 w1 => 
    bm_c1 (fun x1 => (if (!decide (x1 = 0)) = true then
      (if (decide (p1 = (8 : Int))) = true then
        ((0 : Int) = 0 ∨ (0 : Int) = 1) ∧ Φ (.inl (some (bm_i (0 : Int)))) w1
      else
        (bm_kt w1 p0 = 12) ∧ bm_Call bm_pg d y_X12_goes [bm_r (some p0)] w1 (fun r2 w2 => 
          bm_c1 (fun x2 => (if (!decide (x2 = 0)) = true then
            (bm_kt w2 p0 = 12) ∧ bm_Call bm_pg d y_X12_expressionForm [bm_r (some p0), bm_i (bm_w (p1 + (1 : Int)))] w2 (fun r3 w3 => 
              bm_c1 (fun x3 => (if (decide (x3 = 0)) = true then
                ((0 : Int) = 0 ∨ (0 : Int) = 1) ∧ Φ (.inl (some (bm_i (0 : Int)))) w3
              else
                (bm_kt w3 p0 = 12) ∧ bm_Call bm_pg d y_X12_goes_ [bm_r (some p0), bm_k (0, 18)] w3 (fun r4 w4 => 
                  bm_c1 (fun x4 => (if (decide (x4 = 0)) = true then
                    ((0 : Int) = 0 ∨ (0 : Int) = 1) ∧ Φ (.inl (some (bm_i (0 : Int)))) w4
                  else
                    (bm_kt w4 p0 = 12) ∧ bm_Call bm_pg d y_X12_expressionForm [bm_r (some p0), bm_i (bm_w (p1 + (1 : Int)))] w4 (fun r5 w5 => 
                      bm_c1 (fun x5 => (if (decide (x5 = 0)) = true then
                        ((0 : Int) = 0 ∨ (0 : Int) = 1) ∧ Φ (.inl (some (bm_i (0 : Int)))) w5
                      else
                        (bm_kt w5 p0 = 12) ∧ bm_Call bm_pg d y_X12_goes_ [bm_r (some p0), bm_k (0, 19)] w5 (fun r6 w6 => 
                          bm_c1 (fun x6 => (if (decide (x6 = 0)) = true then
                            ((0 : Int) = 0 ∨ (0 : Int) = 1) ∧ Φ (.inl (some (bm_i (0 : Int)))) w6
                          else
                            (bm_kt w6 p0 = 12) ∧ bm_Call bm_pg d y_X12_expressionForm [bm_r (some p0), bm_i (bm_w (p1 + (1 : Int)))] w6 (fun r7 w7 => 
                              bm_c1 (fun x7 => (if (decide (x7 = 0)) = true then
                                ((0 : Int) = 0 ∨ (0 : Int) = 1) ∧ Φ (.inl (some (bm_i (0 : Int)))) w7
                              else
                                ((1 : Int) = 0 ∨ (1 : Int) = 1) ∧ Φ (.inl (some (bm_i (1 : Int)))) w7)) (fun E => Φ (.inr E) w7) r7))) (fun E => Φ (.inr E) w6) r6))) (fun E => Φ (.inr E) w5) r5))) (fun E => Φ (.inr E) w4) r4))) (fun E => Φ (.inr E) w3) r3)
          else
            ((0 : Int) = 0 ∨ (0 : Int) = 1) ∧ Φ (.inl (some (bm_i (0 : Int)))) w2)) (fun E => Φ (.inr E) w2) r2))
    else
      (bm_kt w1 p0 = 12) ∧ bm_Call bm_pg d y_X12_levelForm [bm_r (some p0), bm_i p1, bm_i (0 : Int)] w1 (fun r8 w8 => 
        bm_c1 (fun x8 => (x8 = 0 ∨ x8 = 1) ∧ Φ (.inl (some (bm_i x8))) w8) (fun E => Φ (.inr E) w8) r8))) (fun E => Φ (.inr E) w1) r1)) : bm_Call bm_pg (d + 1) y_X12_expressionForm [bm_r (some p0), bm_i p1] w Φ := bm_enter rfl (bm_go (bm_Call_mono _ _) [] 49 _ h)
/-! CaseTablesModel.levelForm(II)Z -/
def bk_X12_levelForm_76 (d : Nat) (Φ : bm_Rt → bm_W → Prop) (v0 : Nat) (v1 : Int) (v2 : Int) (v3 : Int) (v4 : Int) (w : bm_W) : Prop := bm_Wp (bm_Call bm_pg d) tb_X12_levelForm Φ (76, [some (bm_r (some v0)), some (bm_i v1), some (bm_i v2), some (bm_i v3), some (bm_i v4)], [], w)
set_option maxRecDepth 20000 in
theorem vc_X12_levelForm {d : Nat} {Φ : bm_Rt → bm_W → Prop} {p0 : Nat} {p1 : Int} {p2 : Int} {w : bm_W} (h :
  (if (!decide (p2 = (13 : Int))) = true then
    (if (!decide (p2 = 0)) = true then
      (if (!decide (p2 = (1 : Int))) = true then
        (if (!decide (p2 = (2 : Int))) = true then
          (if (!decide (p2 = (8 : Int))) = true then
            (bm_kt w p0 = 12) ∧ bm_Call bm_pg d y_X12_levelForm [bm_r (some p0), bm_i p1, bm_i (13 : Int)] w (fun r1 w1 => 
              bm_c1 (fun x1 => (if (!decide (x1 = 0)) = true then
                (if (!decide (p2 = (2 : Int))) = true then
                  bk_X12_levelForm_76 d Φ p0 p1 p2 (13 : Int) (0 : Int) w1
                else
                  bk_X12_levelForm_76 d Φ p0 p1 p2 (13 : Int) (1 : Int) w1)
              else
                ((0 : Int) = 0 ∨ (0 : Int) = 1) ∧ Φ (.inl (some (bm_i (0 : Int)))) w1)) (fun E => Φ (.inr E) w1) r1)
          else
            (bm_kt w p0 = 12) ∧ bm_Call bm_pg d y_X12_levelForm [bm_r (some p0), bm_i p1, bm_i (10 : Int)] w (fun r2 w2 => 
              bm_c1 (fun x2 => (if (!decide (x2 = 0)) = true then
                (if (!decide (p2 = (2 : Int))) = true then
                  bk_X12_levelForm_76 d Φ p0 p1 p2 (10 : Int) (0 : Int) w2
                else
                  bk_X12_levelForm_76 d Φ p0 p1 p2 (10 : Int) (1 : Int) w2)
              else
                ((0 : Int) = 0 ∨ (0 : Int) = 1) ∧ Φ (.inl (some (bm_i (0 : Int)))) w2)) (fun E => Φ (.inr E) w2) r2))
        else
          (bm_kt w p0 = 12) ∧ bm_Call bm_pg d y_X12_levelForm [bm_r (some p0), bm_i p1, bm_i (8 : Int)] w (fun r3 w3 => 
            bm_c1 (fun x3 => (if (!decide (x3 = 0)) = true then
              (if (!decide (p2 = (2 : Int))) = true then
                bk_X12_levelForm_76 d Φ p0 p1 p2 (8 : Int) (0 : Int) w3
              else
                bk_X12_levelForm_76 d Φ p0 p1 p2 (8 : Int) (1 : Int) w3)
            else
              ((0 : Int) = 0 ∨ (0 : Int) = 1) ∧ Φ (.inl (some (bm_i (0 : Int)))) w3)) (fun E => Φ (.inr E) w3) r3))
      else
        (bm_kt w p0 = 12) ∧ bm_Call bm_pg d y_X12_levelForm [bm_r (some p0), bm_i p1, bm_i (2 : Int)] w (fun r4 w4 => 
          bm_c1 (fun x4 => (if (!decide (x4 = 0)) = true then
            (if (!decide (p2 = (2 : Int))) = true then
              bk_X12_levelForm_76 d Φ p0 p1 p2 (2 : Int) (0 : Int) w4
            else
              bk_X12_levelForm_76 d Φ p0 p1 p2 (2 : Int) (1 : Int) w4)
          else
            ((0 : Int) = 0 ∨ (0 : Int) = 1) ∧ Φ (.inl (some (bm_i (0 : Int)))) w4)) (fun E => Φ (.inr E) w4) r4))
    else
      (bm_kt w p0 = 12) ∧ bm_Call bm_pg d y_X12_levelForm [bm_r (some p0), bm_i p1, bm_i (1 : Int)] w (fun r5 w5 => 
        bm_c1 (fun x5 => (if (!decide (x5 = 0)) = true then
          (if (!decide (p2 = (2 : Int))) = true then
            bk_X12_levelForm_76 d Φ p0 p1 p2 (1 : Int) (0 : Int) w5
          else
            bk_X12_levelForm_76 d Φ p0 p1 p2 (1 : Int) (1 : Int) w5)
        else
          ((0 : Int) = 0 ∨ (0 : Int) = 1) ∧ Φ (.inl (some (bm_i (0 : Int)))) w5)) (fun E => Φ (.inr E) w5) r5))
  else
    (bm_kt w p0 = 12) ∧ bm_Call bm_pg d y_X12_factorForm [bm_r (some p0), bm_i p1] w (fun r6 w6 => 
      bm_c1 (fun x6 => (x6 = 0 ∨ x6 = 1) ∧ Φ (.inl (some (bm_i x6))) w6) (fun E => Φ (.inr E) w6) r6))) : bm_Call bm_pg (d + 1) y_X12_levelForm [bm_r (some p0), bm_i p1, bm_i p2] w Φ := bm_enter rfl (bm_go (bm_Call_mono _ _) [76] 68 _ h)
set_option maxRecDepth 20000 in
theorem vb_X12_levelForm_76 {d : Nat} {Φ : bm_Rt → bm_W → Prop} {v0 : Nat} {v1 : Int} {v2 : Int} {v3 : Int} {v4 : Int} {w : bm_W} (h :
  (bm_kt w v0 = 12) ∧
  (bm_kt w v0 = 12) ∧ bm_Call bm_pg d y_X12_operator [bm_r (some v0), bm_i (bm_gi w v0 9), bm_i v2, bm_i v3] w (fun r1 w1 => 
    bm_c1 (fun x1 => (if (decide (x1 = (-1 : Int))) = true then
      ((1 : Int) = 0 ∨ (1 : Int) = 1) ∧ Φ (.inl (some (bm_i (1 : Int)))) w1
    else
      (bm_kt w1 v0 = 12) ∧ bm_Call bm_pg d y_X12_goes [bm_r (some v0)] w1 (fun r2 w2 => 
        bm_c1 (fun x2 => (if (decide (x2 = 0)) = true then
          ((0 : Int) = 0 ∨ (0 : Int) = 1) ∧ Φ (.inl (some (bm_i (0 : Int)))) w2
        else
          (bm_kt w2 v0 = 12) ∧ bm_Call bm_pg d y_X12_levelForm [bm_r (some v0), bm_i v1, bm_i v3] w2 (fun r3 w3 => 
            bm_c1 (fun x3 => (if (!decide (x3 = 0)) = true then
              (if (decide (v4 = 0)) = true then
                bk_X12_levelForm_76 d Φ v0 v1 v2 v3 v4 w3
              else
                ((1 : Int) = 0 ∨ (1 : Int) = 1) ∧ Φ (.inl (some (bm_i (1 : Int)))) w3)
            else
              ((0 : Int) = 0 ∨ (0 : Int) = 1) ∧ Φ (.inl (some (bm_i (0 : Int)))) w3)) (fun E => Φ (.inr E) w3) r3))) (fun E => Φ (.inr E) w2) r2))) (fun E => Φ (.inr E) w1) r1)) : bk_X12_levelForm_76 d Φ v0 v1 v2 v3 v4 w := bm_go (bm_Call_mono _ _) [76] 68 _ h
/-! CaseTablesModel.factorForm(I)Z -/
def bk_X12_factorForm_112 (d : Nat) (Φ : bm_Rt → bm_W → Prop) (v0 : Nat) (v1 : Int) (v2 : Int) (w : bm_W) : Prop := bm_Wp (bm_Call bm_pg d) tb_X12_factorForm Φ (112, [some (bm_r (some v0)), some (bm_i v1), some (bm_i v2)], [], w)
set_option maxRecDepth 20000 in
theorem vc_X12_factorForm {d : Nat} {Φ : bm_Rt → bm_W → Prop} {p0 : Nat} {p1 : Int} {w : bm_W} (h :
  (bm_kt w p0 = 12 ∧ bm_gr w p0 4 = some (bm_u (bm_gr w p0 4))) ∧
  (bm_kt w p0 = 12) ∧
  (bm_kt w (bm_u (bm_gr w p0 4)) = 21 ∧ bm_in (bm_gi w p0 9) (bm_kn w (bm_u (bm_gr w p0 4)))) ∧
  (if (!decide ((bm_gi w (bm_u (bm_gr w p0 4)) ((bm_gi w p0 9)).toNat) = (2 : Int))) = true then
    (bm_kt w p0 = 12) ∧
    (bm_kt w p0 = 12) ∧ bm_Call bm_pg d y_X12_isName [bm_r (some p0), bm_i (bm_gi w p0 9)] w (fun r1 w1 => 
      bm_c1 (fun x1 => (if (decide (x1 = 0)) = true then
        (bm_kt w1 p0 = 12) ∧ bm_Call bm_pg d y_X12_sees [bm_r (some p0), bm_k (0, 1)] w1 (fun r2 w2 => 
          bm_c1 (fun x2 => (if (!decide (x2 = 0)) = true then
            (if (!decide ((1 : Int) = 0)) = true then
              bk_X12_factorForm_112 d Φ p0 p1 (1 : Int) w2
            else
              (bm_kt w2 p0 = 12) ∧ bm_Call bm_pg d y_X12_sees [bm_r (some p0), bm_k (0, 3)] w2 (fun r3 w3 => 
                bm_c1 (fun x3 => (if (decide (x3 = 0)) = true then
                  ((0 : Int) = 0 ∨ (0 : Int) = 1) ∧ Φ (.inl (some (bm_i (0 : Int)))) w3
                else
                  bk_X12_factorForm_112 d Φ p0 p1 (1 : Int) w3)) (fun E => Φ (.inr E) w3) r3))
          else
            (bm_kt w2 p0 = 12) ∧ bm_Call bm_pg d y_X12_sees [bm_r (some p0), bm_k (0, 20)] w2 (fun r4 w4 => 
              bm_c1 (fun x4 => (if (decide (x4 = 0)) = true then
                (if (!decide ((0 : Int) = 0)) = true then
                  bk_X12_factorForm_112 d Φ p0 p1 (0 : Int) w4
                else
                  (bm_kt w4 p0 = 12) ∧ bm_Call bm_pg d y_X12_sees [bm_r (some p0), bm_k (0, 3)] w4 (fun r5 w5 => 
                    bm_c1 (fun x5 => (if (decide (x5 = 0)) = true then
                      ((0 : Int) = 0 ∨ (0 : Int) = 1) ∧ Φ (.inl (some (bm_i (0 : Int)))) w5
                    else
                      bk_X12_factorForm_112 d Φ p0 p1 (0 : Int) w5)) (fun E => Φ (.inr E) w5) r5))
              else
                (if (!decide ((1 : Int) = 0)) = true then
                  bk_X12_factorForm_112 d Φ p0 p1 (1 : Int) w4
                else
                  (bm_kt w4 p0 = 12) ∧ bm_Call bm_pg d y_X12_sees [bm_r (some p0), bm_k (0, 3)] w4 (fun r6 w6 => 
                    bm_c1 (fun x6 => (if (decide (x6 = 0)) = true then
                      ((0 : Int) = 0 ∨ (0 : Int) = 1) ∧ Φ (.inl (some (bm_i (0 : Int)))) w6
                    else
                      bk_X12_factorForm_112 d Φ p0 p1 (1 : Int) w6)) (fun E => Φ (.inr E) w6) r6)))) (fun E => Φ (.inr E) w4) r4))) (fun E => Φ (.inr E) w2) r2)
      else
        (bm_kt w1 p0 = 12) ∧ bm_Call bm_pg d y_X12_goes [bm_r (some p0)] w1 (fun r7 w7 => 
          bm_c1 (fun x7 => (if (decide (x7 = 0)) = true then
            ((0 : Int) = 0 ∨ (0 : Int) = 1) ∧ Φ (.inl (some (bm_i (0 : Int)))) w7
          else
            (bm_kt w7 p0 = 12) ∧ bm_Call bm_pg d y_X12_sees [bm_r (some p0), bm_k (0, 3)] w7 (fun r8 w8 => 
              bm_c1 (fun x8 => (if (decide (x8 = 0)) = true then
                ((1 : Int) = 0 ∨ (1 : Int) = 1) ∧ Φ (.inl (some (bm_i (1 : Int)))) w8
              else
                (if (decide ((8 : Int) ≤ p1)) = true then
                  ((0 : Int) = 0 ∨ (0 : Int) = 1) ∧ Φ (.inl (some (bm_i (0 : Int)))) w8
                else
                  (bm_kt w8 p0 = 12) ∧ bm_Call bm_pg d y_X12_goes [bm_r (some p0)] w8 (fun r9 w9 => 
                    bm_c1 (fun x9 => (if (decide (x9 = 0)) = true then
                      ((0 : Int) = 0 ∨ (0 : Int) = 1) ∧ Φ (.inl (some (bm_i (0 : Int)))) w9
                    else
                      (bm_kt w9 p0 = 12) ∧ bm_Call bm_pg d y_X12_argumentsForm [bm_r (some p0), bm_i (bm_w (p1 + (1 : Int)))] w9 (fun r10 w10 => 
                        bm_c1 (fun x10 => (if (decide (x10 = 0)) = true then
                          ((0 : Int) = 0 ∨ (0 : Int) = 1) ∧ Φ (.inl (some (bm_i (0 : Int)))) w10
                        else
                          ((1 : Int) = 0 ∨ (1 : Int) = 1) ∧ Φ (.inl (some (bm_i (1 : Int)))) w10)) (fun E => Φ (.inr E) w10) r10))) (fun E => Φ (.inr E) w9) r9)))) (fun E => Φ (.inr E) w8) r8))) (fun E => Φ (.inr E) w7) r7))) (fun E => Φ (.inr E) w1) r1)
  else
    (bm_kt w p0 = 12) ∧ bm_Call bm_pg d y_X12_goes [bm_r (some p0)] w (fun r11 w11 => 
      bm_c1 (fun x11 => (x11 = 0 ∨ x11 = 1) ∧ Φ (.inl (some (bm_i x11))) w11) (fun E => Φ (.inr E) w11) r11))) : bm_Call bm_pg (d + 1) y_X12_factorForm [bm_r (some p0), bm_i p1] w Φ := bm_enter rfl (bm_go (bm_Call_mono _ _) [112] 88 _ h)
set_option maxRecDepth 20000 in
theorem vb_X12_factorForm_112 {d : Nat} {Φ : bm_Rt → bm_W → Prop} {v0 : Nat} {v1 : Int} {v2 : Int} {w : bm_W} (h :
  (if (decide (v1 = (8 : Int))) = true then
    ((0 : Int) = 0 ∨ (0 : Int) = 1) ∧ Φ (.inl (some (bm_i (0 : Int)))) w
  else
    (bm_kt w v0 = 12) ∧ bm_Call bm_pg d y_X12_goes [bm_r (some v0)] w (fun r1 w1 => 
      bm_c1 (fun x1 => (if (!decide (x1 = 0)) = true then
        (if (decide (v2 = 0)) = true then
          (bm_kt w1 v0 = 12) ∧ bm_Call bm_pg d y_X12_expressionForm [bm_r (some v0), bm_i (bm_w (v1 + (1 : Int)))] w1 (fun r2 w2 => 
            bm_c1 (fun x2 => (if (decide (x2 = 0)) = true then
              ((0 : Int) = 0 ∨ (0 : Int) = 1) ∧ Φ (.inl (some (bm_i (0 : Int)))) w2
            else
              (bm_kt w2 v0 = 12) ∧ bm_Call bm_pg d y_X12_goes_ [bm_r (some v0), bm_k (0, 4)] w2 (fun r3 w3 => 
                bm_c1 (fun x3 => (if (decide (x3 = 0)) = true then
                  ((0 : Int) = 0 ∨ (0 : Int) = 1) ∧ Φ (.inl (some (bm_i (0 : Int)))) w3
                else
                  ((1 : Int) = 0 ∨ (1 : Int) = 1) ∧ Φ (.inl (some (bm_i (1 : Int)))) w3)) (fun E => Φ (.inr E) w3) r3))) (fun E => Φ (.inr E) w2) r2)
        else
          (bm_kt w1 v0 = 12) ∧ bm_Call bm_pg d y_X12_factorForm [bm_r (some v0), bm_i (bm_w (v1 + (1 : Int)))] w1 (fun r4 w4 => 
            bm_c1 (fun x4 => (x4 = 0 ∨ x4 = 1) ∧ Φ (.inl (some (bm_i x4))) w4) (fun E => Φ (.inr E) w4) r4))
      else
        ((0 : Int) = 0 ∨ (0 : Int) = 1) ∧ Φ (.inl (some (bm_i (0 : Int)))) w1)) (fun E => Φ (.inr E) w1) r1))) : bk_X12_factorForm_112 d Φ v0 v1 v2 w := bm_go (bm_Call_mono _ _) [112] 88 _ h
/-! CaseTablesModel.argumentsForm(I)Z -/
def bk_X12_argumentsForm_0 (d : Nat) (Φ : bm_Rt → bm_W → Prop) (v0 : Nat) (v1 : Int) (w : bm_W) : Prop := bm_Wp (bm_Call bm_pg d) tb_X12_argumentsForm Φ (0, [some (bm_r (some v0)), some (bm_i v1)], [], w)
set_option maxRecDepth 20000 in
theorem vc_X12_argumentsForm {d : Nat} {Φ : bm_Rt → bm_W → Prop} {p0 : Nat} {p1 : Int} {w : bm_W} (h :
  (bm_kt w p0 = 12) ∧ bm_Call bm_pg d y_X12_expressionForm [bm_r (some p0), bm_i p1] w (fun r1 w1 => 
    bm_c1 (fun x1 => (if (!decide (x1 = 0)) = true then
      (bm_kt w1 p0 = 12) ∧ bm_Call bm_pg d y_X12_goes_ [bm_r (some p0), bm_k (0, 4)] w1 (fun r2 w2 => 
        bm_c1 (fun x2 => (if (decide (x2 = 0)) = true then
          (bm_kt w2 p0 = 12) ∧ bm_Call bm_pg d y_X12_goes_ [bm_r (some p0), bm_k (0, 12)] w2 (fun r3 w3 => 
            bm_c1 (fun x3 => (if (!decide (x3 = 0)) = true then
              bk_X12_argumentsForm_0 d Φ p0 p1 w3
            else
              ((0 : Int) = 0 ∨ (0 : Int) = 1) ∧ Φ (.inl (some (bm_i (0 : Int)))) w3)) (fun E => Φ (.inr E) w3) r3)
        else
          ((1 : Int) = 0 ∨ (1 : Int) = 1) ∧ Φ (.inl (some (bm_i (1 : Int)))) w2)) (fun E => Φ (.inr E) w2) r2)
    else
      ((0 : Int) = 0 ∨ (0 : Int) = 1) ∧ Φ (.inl (some (bm_i (0 : Int)))) w1)) (fun E => Φ (.inr E) w1) r1)) : bm_Call bm_pg (d + 1) y_X12_argumentsForm [bm_r (some p0), bm_i p1] w Φ := bm_enter rfl (bm_go (bm_Call_mono _ _) [0] 20 _ h)
set_option maxRecDepth 20000 in
theorem ve_X12_argumentsForm {d : Nat} {Φ : bm_Rt → bm_W → Prop} {p0 : Nat} {p1 : Int} {w : bm_W} (h : bk_X12_argumentsForm_0 d Φ p0 p1 w) : bm_Call bm_pg (d + 1) y_X12_argumentsForm [bm_r (some p0), bm_i p1] w Φ := bm_enter rfl (bm_Wp.msk (bm_Call_mono _ _) h)
set_option maxRecDepth 20000 in
theorem vb_X12_argumentsForm_0 {d : Nat} {Φ : bm_Rt → bm_W → Prop} {v0 : Nat} {v1 : Int} {w : bm_W} (h :
  (bm_kt w v0 = 12) ∧ bm_Call bm_pg d y_X12_expressionForm [bm_r (some v0), bm_i v1] w (fun r1 w1 => 
    bm_c1 (fun x1 => (if (!decide (x1 = 0)) = true then
      (bm_kt w1 v0 = 12) ∧ bm_Call bm_pg d y_X12_goes_ [bm_r (some v0), bm_k (0, 4)] w1 (fun r2 w2 => 
        bm_c1 (fun x2 => (if (decide (x2 = 0)) = true then
          (bm_kt w2 v0 = 12) ∧ bm_Call bm_pg d y_X12_goes_ [bm_r (some v0), bm_k (0, 12)] w2 (fun r3 w3 => 
            bm_c1 (fun x3 => (if (!decide (x3 = 0)) = true then
              bk_X12_argumentsForm_0 d Φ v0 v1 w3
            else
              ((0 : Int) = 0 ∨ (0 : Int) = 1) ∧ Φ (.inl (some (bm_i (0 : Int)))) w3)) (fun E => Φ (.inr E) w3) r3)
        else
          ((1 : Int) = 0 ∨ (1 : Int) = 1) ∧ Φ (.inl (some (bm_i (1 : Int)))) w2)) (fun E => Φ (.inr E) w2) r2)
    else
      ((0 : Int) = 0 ∨ (0 : Int) = 1) ∧ Φ (.inl (some (bm_i (0 : Int)))) w1)) (fun E => Φ (.inr E) w1) r1)) : bk_X12_argumentsForm_0 d Φ v0 v1 w := bm_go (bm_Call_mono _ _) [0] 20 _ h
/-! CaseTablesModel.markPlaces(II)V -/
def bk_X12_markPlaces_5 (d : Nat) (Φ : bm_Rt → bm_W → Prop) (v0 : Nat) (v1 : Int) (v2 : Int) (v3 : Int) (v4 : Int) (w : bm_W) : Prop := bm_Wp (bm_Call bm_pg d) tb_X12_markPlaces Φ (5, [some (bm_r (some v0)), some (bm_i v1), some (bm_i v2), some (bm_i v3), some (bm_i v4), none, none], [], w)
def bk_X12_markPlaces_67 (d : Nat) (Φ : bm_Rt → bm_W → Prop) (v0 : Nat) (v1 : Int) (v2 : Int) (v3 : Int) (v4 : Int) (s0 : Int) (w : bm_W) : Prop := bm_Wp (bm_Call bm_pg d) tb_X12_markPlaces Φ (67, [some (bm_r (some v0)), some (bm_i v1), some (bm_i v2), some (bm_i v3), some (bm_i v4), none, none], [bm_i s0], w)
def bk_X12_markPlaces_125 (d : Nat) (Φ : bm_Rt → bm_W → Prop) (v0 : Nat) (v1 : Int) (v2 : Int) (v3 : Int) (v4 : Int) (s0 : Int) (w : bm_W) : Prop := bm_Wp (bm_Call bm_pg d) tb_X12_markPlaces Φ (125, [some (bm_r (some v0)), some (bm_i v1), some (bm_i v2), some (bm_i v3), some (bm_i v4), none, none], [bm_i s0], w)
set_option maxRecDepth 20000 in
theorem vc_X12_markPlaces {d : Nat} {Φ : bm_Rt → bm_W → Prop} {p0 : Nat} {p1 : Int} {p2 : Int} {w : bm_W} (h :
  bk_X12_markPlaces_5 d Φ p0 p1 p2 (0 : Int) p1 w) : bm_Call bm_pg (d + 1) y_X12_markPlaces [bm_r (some p0), bm_i p1, bm_i p2] w Φ := bm_enter rfl (bm_go (bm_Call_mono _ _) [5, 67, 125] 104 _ h)
set_option maxRecDepth 20000 in
theorem vb_X12_markPlaces_5 {d : Nat} {Φ : bm_Rt → bm_W → Prop} {v0 : Nat} {v1 : Int} {v2 : Int} {v3 : Int} {v4 : Int} {w : bm_W} (h :
  (if (decide (v2 ≤ v4)) = true then
    (bm_kt w v0 = 12 ∧ bm_gr w v0 25 = some (bm_u (bm_gr w v0 25))) ∧
    (bm_kt w v0 = 12) ∧
    (bm_kt w (bm_u (bm_gr w v0 25)) = 21 ∧ bm_in (bm_gi w v0 18) (bm_kn w (bm_u (bm_gr w v0 25)))) ∧
    Φ (.inl none) (bm_si w (bm_u (bm_gr w v0 25)) ((bm_gi w v0 18)).toNat v3)
  else
    (bm_kt w v0 = 12 ∧ bm_gr w v0 7 = some (bm_u (bm_gr w v0 7))) ∧
    (bm_kt w (bm_u (bm_gr w v0 7)) = 21 ∧ bm_in v4 (bm_kn w (bm_u (bm_gr w v0 7)))) ∧
    (if (decide (v4 ≤ v1)) = true then
      bk_X12_markPlaces_67 d Φ v0 v1 v2 v3 v4 (0 : Int) (bm_si w (bm_u (bm_gr w v0 7)) (v4).toNat (-1 : Int))
    else
      (bm_kt (bm_si w (bm_u (bm_gr w v0 7)) (v4).toNat (-1 : Int)) v0 = 12 ∧ bm_gr (bm_si w (bm_u (bm_gr w v0 7)) (v4).toNat (-1 : Int)) v0 4 = some (bm_u (bm_gr (bm_si w (bm_u (bm_gr w v0 7)) (v4).toNat (-1 : Int)) v0 4))) ∧
      (bm_kt (bm_si w (bm_u (bm_gr w v0 7)) (v4).toNat (-1 : Int)) (bm_u (bm_gr (bm_si w (bm_u (bm_gr w v0 7)) (v4).toNat (-1 : Int)) v0 4)) = 21 ∧ bm_in (bm_w (v4 - (1 : Int))) (bm_kn (bm_si w (bm_u (bm_gr w v0 7)) (v4).toNat (-1 : Int)) (bm_u (bm_gr (bm_si w (bm_u (bm_gr w v0 7)) (v4).toNat (-1 : Int)) v0 4)))) ∧
      (if (decide ((bm_gi (bm_si w (bm_u (bm_gr w v0 7)) (v4).toNat (-1 : Int)) (bm_u (bm_gr (bm_si w (bm_u (bm_gr w v0 7)) (v4).toNat (-1 : Int)) v0 4)) ((bm_w (v4 - (1 : Int)))).toNat) = (2 : Int))) = true then
        bk_X12_markPlaces_67 d Φ v0 v1 v2 v3 v4 (1 : Int) (bm_si w (bm_u (bm_gr w v0 7)) (v4).toNat (-1 : Int))
      else
        (bm_kt (bm_si w (bm_u (bm_gr w v0 7)) (v4).toNat (-1 : Int)) v0 = 12) ∧ bm_Call bm_pg d y_X12_isName [bm_r (some v0), bm_i (bm_w (v4 - (1 : Int)))] (bm_si w (bm_u (bm_gr w v0 7)) (v4).toNat (-1 : Int)) (fun r1 w1 => 
          bm_c1 (fun x1 => (if (!decide (x1 = 0)) = true then
            bk_X12_markPlaces_67 d Φ v0 v1 v2 v3 v4 (1 : Int) w1
          else
            (bm_kt w1 v0 = 12) ∧ bm_Call bm_pg d y_X12_is [bm_r (some v0), bm_i (bm_w (v4 - (1 : Int))), bm_k (0, 4)] w1 (fun r2 w2 => 
              bm_c1 (fun x2 => (if (decide (x2 = 0)) = true then
                bk_X12_markPlaces_67 d Φ v0 v1 v2 v3 v4 (0 : Int) w2
              else
                bk_X12_markPlaces_67 d Φ v0 v1 v2 v3 v4 (1 : Int) w2)) (fun E => Φ (.inr E) w2) r2))) (fun E => Φ (.inr E) w1) r1))))) : bk_X12_markPlaces_5 d Φ v0 v1 v2 v3 v4 w := bm_go (bm_Call_mono _ _) [5, 67, 125] 104 _ h
set_option maxRecDepth 20000 in
theorem vb_X12_markPlaces_67 {d : Nat} {Φ : bm_Rt → bm_W → Prop} {v0 : Nat} {v1 : Int} {v2 : Int} {v3 : Int} {v4 : Int} {s0 : Int} {w : bm_W} (h :
  (bm_kt w v0 = 12 ∧ bm_gr w v0 4 = some (bm_u (bm_gr w v0 4))) ∧
  (bm_kt w (bm_u (bm_gr w v0 4)) = 21 ∧ bm_in v4 (bm_kn w (bm_u (bm_gr w v0 4)))) ∧
  (if (decide ((bm_gi w (bm_u (bm_gr w v0 4)) (v4).toNat) = (2 : Int))) = true then
    bk_X12_markPlaces_125 d Φ v0 v1 v2 v3 v4 (1 : Int) w
  else
    (bm_kt w v0 = 12) ∧ bm_Call bm_pg d y_X12_is [bm_r (some v0), bm_i v4, bm_k (0, 17)] w (fun r1 w1 => 
      bm_c1 (fun x1 => (if (!decide (x1 = 0)) = true then
        bk_X12_markPlaces_125 d Φ v0 v1 v2 v3 v4 (1 : Int) w1
      else
        (bm_kt w1 v0 = 12) ∧ bm_Call bm_pg d y_X12_operator [bm_r (some v0), bm_i v4, bm_i (0 : Int), bm_i (13 : Int)] w1 (fun r2 w2 => 
          bm_c1 (fun x2 => (if (decide (x2 = (-1 : Int))) = true then
            bk_X12_markPlaces_125 d Φ v0 v1 v2 v3 v4 (0 : Int) w2
          else
            (bm_kt w2 v0 = 12) ∧ bm_Call bm_pg d y_X12_is [bm_r (some v0), bm_i v4, bm_k (0, 1)] w2 (fun r3 w3 => 
              bm_c1 (fun x3 => (if (decide (x3 = 0)) = true then
                bk_X12_markPlaces_125 d Φ v0 v1 v2 v3 v4 (1 : Int) w3
              else
                (if (decide (s0 = 0)) = true then
                  bk_X12_markPlaces_125 d Φ v0 v1 v2 v3 v4 (0 : Int) w3
                else
                  bk_X12_markPlaces_125 d Φ v0 v1 v2 v3 v4 (1 : Int) w3))) (fun E => Φ (.inr E) w3) r3))) (fun E => Φ (.inr E) w2) r2))) (fun E => Φ (.inr E) w1) r1))) : bk_X12_markPlaces_67 d Φ v0 v1 v2 v3 v4 s0 w := bm_go (bm_Call_mono _ _) [5, 67, 125] 104 _ h
set_option maxRecDepth 20000 in
theorem vb_X12_markPlaces_125 {d : Nat} {Φ : bm_Rt → bm_W → Prop} {v0 : Nat} {v1 : Int} {v2 : Int} {v3 : Int} {v4 : Int} {s0 : Int} {w : bm_W} (h :
  (if (decide (s0 = 0)) = true then
    (bm_kt w v0 = 12) ∧ bm_Call bm_pg d y_X12_is [bm_r (some v0), bm_i v4, bm_k (0, 17)] w (fun r1 w1 => 
      bm_c1 (fun x1 => (if (decide (x1 = 0)) = true then
        bk_X12_markPlaces_5 d Φ v0 v1 v2 v3 (bm_w (v4 + 1)) w1
      else
        (bm_kt w1 v0 = 12 ∧ bm_gr w1 v0 8 = some (bm_u (bm_gr w1 v0 8))) ∧
        (bm_kt w1 v0 = 12) ∧
        (bm_kt w1 v0 = 12) ∧
        (bm_kt (bm_si w1 v0 27 (bm_w ((bm_gi w1 v0 27) + (1 : Int)))) (bm_u (bm_gr w1 v0 8)) = 21 ∧ bm_in v4 (bm_kn (bm_si w1 v0 27 (bm_w ((bm_gi w1 v0 27) + (1 : Int)))) (bm_u (bm_gr w1 v0 8)))) ∧
        bk_X12_markPlaces_5 d Φ v0 v1 v2 v3 (bm_w (v4 + 1)) (bm_si (bm_si w1 v0 27 (bm_w ((bm_gi w1 v0 27) + (1 : Int)))) (bm_u (bm_gr w1 v0 8)) (v4).toNat (bm_gi w1 v0 27)))) (fun E => Φ (.inr E) w1) r1)
  else
    (bm_kt w v0 = 12 ∧ bm_gr w v0 7 = some (bm_u (bm_gr w v0 7))) ∧
    (bm_kt w (bm_u (bm_gr w v0 7)) = 21 ∧ bm_in v4 (bm_kn w (bm_u (bm_gr w v0 7)))) ∧
    (bm_kt (bm_si w (bm_u (bm_gr w v0 7)) (v4).toNat v3) v0 = 12) ∧ bm_Call bm_pg d y_X12_is [bm_r (some v0), bm_i v4, bm_k (0, 17)] (bm_si w (bm_u (bm_gr w v0 7)) (v4).toNat v3) (fun r2 w2 => 
      bm_c1 (fun x2 => (if (decide (x2 = 0)) = true then
        bk_X12_markPlaces_5 d Φ v0 v1 v2 (bm_w (v3 + 1)) (bm_w (v4 + 1)) w2
      else
        (bm_kt w2 v0 = 12 ∧ bm_gr w2 v0 8 = some (bm_u (bm_gr w2 v0 8))) ∧
        (bm_kt w2 v0 = 12) ∧
        (bm_kt w2 v0 = 12) ∧
        (bm_kt (bm_si w2 v0 27 (bm_w ((bm_gi w2 v0 27) + (1 : Int)))) (bm_u (bm_gr w2 v0 8)) = 21 ∧ bm_in v4 (bm_kn (bm_si w2 v0 27 (bm_w ((bm_gi w2 v0 27) + (1 : Int)))) (bm_u (bm_gr w2 v0 8)))) ∧
        bk_X12_markPlaces_5 d Φ v0 v1 v2 (bm_w (v3 + 1)) (bm_w (v4 + 1)) (bm_si (bm_si w2 v0 27 (bm_w ((bm_gi w2 v0 27) + (1 : Int)))) (bm_u (bm_gr w2 v0 8)) (v4).toNat (bm_gi w2 v0 27)))) (fun E => Φ (.inr E) w2) r2))) : bk_X12_markPlaces_125 d Φ v0 v1 v2 v3 v4 s0 w := bm_go (bm_Call_mono _ _) [5, 67, 125] 104 _ h
/-! CaseTablesModel.wrong(II)I -/
set_option maxRecDepth 20000 in
theorem vc_X12_wrong {d : Nat} {Φ : bm_Rt → bm_W → Prop} {p0 : Nat} {p1 : Int} {p2 : Int} {w : bm_W} (h :
  (bm_kt w p0 = 12 ∧ bm_gr w p0 5 = some (bm_u (bm_gr w p0 5))) ∧
  (bm_kt w (bm_u (bm_gr w p0 5)) = 21 ∧ bm_in p2 (bm_kn w (bm_u (bm_gr w p0 5)))) ∧
  (bm_kt w p0 = 12) ∧
  Φ (.inl (some (bm_i p1))) (bm_si w p0 3 (bm_gi w (bm_u (bm_gr w p0 5)) (p2).toNat))) : bm_Call bm_pg (d + 1) y_X12_wrong [bm_r (some p0), bm_i p1, bm_i p2] w Φ := bm_enter rfl (bm_go (bm_Call_mono _ _) [] 10 _ h)
/-! CaseTablesModel.find([JIIJ)I -/
def bk_X12_find_6 (d : Nat) (Φ : bm_Rt → bm_W → Prop) (v0 : Nat) (v1 : Int) (v2 : Int) (v3 : Int) (v5 : Int) (v6 : Int) (w : bm_W) : Prop := bm_Wp (bm_Call bm_pg d) tb_X12_find Φ (6, [some (bm_r (some v0)), some (bm_i v1), some (bm_i v2), some (bm_l v3), none, some (bm_i v5), some (bm_i v6)], [], w)
set_option maxRecDepth 20000 in
theorem vc_X12_find {d : Nat} {Φ : bm_Rt → bm_W → Prop} {p0 : Nat} {p1 : Int} {p2 : Int} {p3 : Int} {w : bm_W} (h :
  bk_X12_find_6 d Φ p0 p1 p2 p3 (-1 : Int) (0 : Int) w) : bm_Call bm_pg (d + 1) y_X12_find [bm_r (some p0), bm_i p1, bm_i p2, bm_l p3] w Φ := bm_enter rfl (bm_go (bm_Call_mono _ _) [6] 22 _ h)
set_option maxRecDepth 20000 in
theorem vb_X12_find_6 {d : Nat} {Φ : bm_Rt → bm_W → Prop} {v0 : Nat} {v1 : Int} {v2 : Int} {v3 : Int} {v5 : Int} {v6 : Int} {w : bm_W} (h :
  (if (decide (v2 ≤ v6)) = true then
    Φ (.inl (some (bm_i v5))) w
  else
    (bm_kt w v0 = 22 ∧ bm_in (bm_w (v1 + v6)) (bm_kn w v0)) ∧
    (if (!decide ((bm_gl w v0 ((bm_w (v1 + v6))).toNat) = v3)) = true then
      bk_X12_find_6 d Φ v0 v1 v2 v3 v5 (bm_w (v6 + 1)) w
    else
      bk_X12_find_6 d Φ v0 v1 v2 v3 v6 (bm_w (v6 + 1)) w))) : bk_X12_find_6 d Φ v0 v1 v2 v3 v5 v6 w := bm_go (bm_Call_mono _ _) [6] 22 _ h
/-! CaseTablesModel.isTaken(J)Z -/
set_option maxRecDepth 20000 in
theorem vc_X12_isTaken {d : Nat} {Φ : bm_Rt → bm_W → Prop} {p0 : Nat} {p1 : Int} {w : bm_W} (h :
  (bm_kt w p0 = 12 ∧ bm_gr w p0 19 = some (bm_u (bm_gr w p0 19))) ∧
  (bm_kt w p0 = 12) ∧
  (True) ∧ bm_Call bm_pg d y_X12_find [bm_r (some (bm_u (bm_gr w p0 19))), bm_i (0 : Int), bm_i (bm_gi w p0 18), bm_l p1] w (fun r1 w1 => 
    bm_c1 (fun x1 => (if (!decide (x1 = (-1 : Int))) = true then
      ((1 : Int) = 0 ∨ (1 : Int) = 1) ∧ Φ (.inl (some (bm_i (1 : Int)))) w1
    else
      (bm_kt w1 p0 = 12 ∧ bm_gr w1 p0 29 = some (bm_u (bm_gr w1 p0 29))) ∧
      (bm_kt w1 p0 = 12) ∧
      (True) ∧ bm_Call bm_pg d y_X12_find [bm_r (some (bm_u (bm_gr w1 p0 29))), bm_i (0 : Int), bm_i (bm_gi w1 p0 28), bm_l p1] w1 (fun r2 w2 => 
        bm_c1 (fun x2 => (if (decide (x2 = (-1 : Int))) = true then
          ((0 : Int) = 0 ∨ (0 : Int) = 1) ∧ Φ (.inl (some (bm_i (0 : Int)))) w2
        else
          ((1 : Int) = 0 ∨ (1 : Int) = 1) ∧ Φ (.inl (some (bm_i (1 : Int)))) w2)) (fun E => Φ (.inr E) w2) r2))) (fun E => Φ (.inr E) w1) r1)) : bm_Call bm_pg (d + 1) y_X12_isTaken [bm_r (some p0), bm_l p1] w Φ := bm_enter rfl (bm_go (bm_Call_mono _ _) [] 24 _ h)
/-! CaseTablesModel.whole()I -/
set_option maxRecDepth 20000 in
theorem vc_X12_whole {d : Nat} {Φ : bm_Rt → bm_W → Prop} {p0 : Nat} {w : bm_W} (h :
  (bm_kt w p0 = 12) ∧ bm_Call bm_pg d y_X12_takes [bm_r (some p0), bm_k (0, 1)] w (fun r1 w1 => 
    bm_c1 (fun x1 => (if (decide (x1 = 0)) = true then
      (bm_kt w1 p0 = 12) ∧
      (bm_kt w1 p0 = 12) ∧ bm_Call bm_pg d y_X12_numberOf [bm_r (some p0), bm_i (bm_gi w1 p0 9)] w1 (fun r2 w2 => 
        bm_c1 (fun x2 => Φ (.inl (some (bm_i x2))) w2) (fun E => Φ (.inr E) w2) r2)
    else
      (bm_kt w1 p0 = 12) ∧
      (bm_kt w1 p0 = 12) ∧ bm_Call bm_pg d y_X12_numberOf [bm_r (some p0), bm_i (bm_gi w1 p0 9)] w1 (fun r3 w3 => 
        bm_c1 (fun x3 => Φ (.inl (some (bm_i (bm_w (-x3))))) w3) (fun E => Φ (.inr E) w3) r3))) (fun E => Φ (.inr E) w1) r1)) : bm_Call bm_pg (d + 1) y_X12_whole [bm_r (some p0)] w Φ := bm_enter rfl (bm_go (bm_Call_mono _ _) [] 19 _ h)
/-! CaseTablesModel.meaning()I -/
def bk_X12_meaning_0 (d : Nat) (Φ : bm_Rt → bm_W → Prop) (v0 : Nat) (w : bm_W) : Prop := bm_Wp (bm_Call bm_pg d) tb_X12_meaning Φ (0, [some (bm_r (some v0)), none, none], [], w)
set_option maxRecDepth 20000 in
theorem vc_X12_meaning {d : Nat} {Φ : bm_Rt → bm_W → Prop} {p0 : Nat} {w : bm_W} (h :
  (bm_kt w p0 = 12 ∧ bm_gr w p0 4 = some (bm_u (bm_gr w p0 4))) ∧
  (bm_kt w p0 = 12) ∧
  (bm_kt w (bm_u (bm_gr w p0 4)) = 21 ∧ bm_in (bm_gi w p0 9) (bm_kn w (bm_u (bm_gr w p0 4)))) ∧
  (if (decide ((bm_gi w (bm_u (bm_gr w p0 4)) ((bm_gi w p0 9)).toNat) = 0)) = true then
    Φ (.inl (some (bm_i (0 : Int)))) w
  else
    (bm_kt w p0 = 12) ∧
    (bm_kt w p0 = 12) ∧
    (bm_kt w p0 = 12) ∧
    (bm_kt (bm_si w p0 9 (bm_w ((bm_gi w p0 9) + (1 : Int)))) p0 = 12) ∧ bm_Call bm_pg d y_X12_is [bm_r (some p0), bm_i (bm_gi w p0 9), bm_k (0, 2)] (bm_si w p0 9 (bm_w ((bm_gi w p0 9) + (1 : Int)))) (fun r1 w1 => 
      bm_c1 (fun x1 => (if (decide (x1 = 0)) = true then
        (bm_kt w1 p0 = 12) ∧ bm_Call bm_pg d y_X12_table [bm_r (some p0), bm_i (bm_gi w p0 9)] w1 (fun r2 w2 => 
          bm_c1 (fun x2 => (if (decide (x2 = 0)) = true then
            (bm_kt w2 p0 = 12) ∧
            (bm_kt w2 p0 = 12) ∧
            bk_X12_meaning_0 d Φ p0 (bm_si w2 p0 9 (bm_w ((bm_gi w2 p0 9) + (1 : Int))))
          else
            Φ (.inl (some (bm_i x2))) w2)) (fun E => Φ (.inr E) w2) r2)
      else
        (bm_kt w1 p0 = 12) ∧ bm_Call bm_pg d y_X12_fun [bm_r (some p0), bm_i (bm_gi w p0 9)] w1 (fun r3 w3 => 
          bm_c1 (fun x3 => (if (decide (x3 = 0)) = true then
            (bm_kt w3 p0 = 12) ∧
            (bm_kt w3 p0 = 12) ∧
            bk_X12_meaning_0 d Φ p0 (bm_si w3 p0 9 (bm_w ((bm_gi w3 p0 9) + (1 : Int))))
          else
            Φ (.inl (some (bm_i x3))) w3)) (fun E => Φ (.inr E) w3) r3))) (fun E => Φ (.inr E) w1) r1))) : bm_Call bm_pg (d + 1) y_X12_meaning [bm_r (some p0)] w Φ := bm_enter rfl (bm_go (bm_Call_mono _ _) [0] 43 _ h)
set_option maxRecDepth 20000 in
theorem ve_X12_meaning {d : Nat} {Φ : bm_Rt → bm_W → Prop} {p0 : Nat} {w : bm_W} (h : bk_X12_meaning_0 d Φ p0 w) : bm_Call bm_pg (d + 1) y_X12_meaning [bm_r (some p0)] w Φ := bm_enter rfl (bm_Wp.msk (bm_Call_mono _ _) h)
set_option maxRecDepth 20000 in
theorem vb_X12_meaning_0 {d : Nat} {Φ : bm_Rt → bm_W → Prop} {v0 : Nat} {w : bm_W} (h :
  (bm_kt w v0 = 12 ∧ bm_gr w v0 4 = some (bm_u (bm_gr w v0 4))) ∧
  (bm_kt w v0 = 12) ∧
  (bm_kt w (bm_u (bm_gr w v0 4)) = 21 ∧ bm_in (bm_gi w v0 9) (bm_kn w (bm_u (bm_gr w v0 4)))) ∧
  (if (decide ((bm_gi w (bm_u (bm_gr w v0 4)) ((bm_gi w v0 9)).toNat) = 0)) = true then
    Φ (.inl (some (bm_i (0 : Int)))) w
  else
    (bm_kt w v0 = 12) ∧
    (bm_kt w v0 = 12) ∧
    (bm_kt w v0 = 12) ∧
    (bm_kt (bm_si w v0 9 (bm_w ((bm_gi w v0 9) + (1 : Int)))) v0 = 12) ∧ bm_Call bm_pg d y_X12_is [bm_r (some v0), bm_i (bm_gi w v0 9), bm_k (0, 2)] (bm_si w v0 9 (bm_w ((bm_gi w v0 9) + (1 : Int)))) (fun r1 w1 => 
      bm_c1 (fun x1 => (if (decide (x1 = 0)) = true then
        (bm_kt w1 v0 = 12) ∧ bm_Call bm_pg d y_X12_table [bm_r (some v0), bm_i (bm_gi w v0 9)] w1 (fun r2 w2 => 
          bm_c1 (fun x2 => (if (decide (x2 = 0)) = true then
            (bm_kt w2 v0 = 12) ∧
            (bm_kt w2 v0 = 12) ∧
            bk_X12_meaning_0 d Φ v0 (bm_si w2 v0 9 (bm_w ((bm_gi w2 v0 9) + (1 : Int))))
          else
            Φ (.inl (some (bm_i x2))) w2)) (fun E => Φ (.inr E) w2) r2)
      else
        (bm_kt w1 v0 = 12) ∧ bm_Call bm_pg d y_X12_fun [bm_r (some v0), bm_i (bm_gi w v0 9)] w1 (fun r3 w3 => 
          bm_c1 (fun x3 => (if (decide (x3 = 0)) = true then
            (bm_kt w3 v0 = 12) ∧
            (bm_kt w3 v0 = 12) ∧
            bk_X12_meaning_0 d Φ v0 (bm_si w3 v0 9 (bm_w ((bm_gi w3 v0 9) + (1 : Int))))
          else
            Φ (.inl (some (bm_i x3))) w3)) (fun E => Φ (.inr E) w3) r3))) (fun E => Φ (.inr E) w1) r1))) : bk_X12_meaning_0 d Φ v0 w := bm_go (bm_Call_mono _ _) [0] 43 _ h
/-! CaseTablesModel.fun(I)I -/
def bk_X12_fun_60 (d : Nat) (Φ : bm_Rt → bm_W → Prop) (v0 : Nat) (v2 : Int) (w : bm_W) : Prop := bm_Wp (bm_Call bm_pg d) tb_X12_fun Φ (60, [some (bm_r (some v0)), none, some (bm_i v2), none, none, none], [], w)
def bk_X12_fun_95 (d : Nat) (Φ : bm_Rt → bm_W → Prop) (v0 : Nat) (v2 : Int) (v3 : Int) (w : bm_W) : Prop := bm_Wp (bm_Call bm_pg d) tb_X12_fun Φ (95, [some (bm_r (some v0)), none, some (bm_i v2), some (bm_i v3), none, none], [], w)
set_option maxRecDepth 20000 in
theorem vc_X12_fun {d : Nat} {Φ : bm_Rt → bm_W → Prop} {p0 : Nat} {p1 : Int} {w : bm_W} (h :
  (bm_kt w p0 = 12) ∧
  (if (!decide ((bm_gi w p0 18) = (6 : Int))) = true then
    (bm_kt w p0 = 12) ∧
    (bm_kt w p0 = 12) ∧ bm_Call bm_pg d y_X12_nameOf [bm_r (some p0), bm_i (bm_gi w p0 9)] w (fun r1 w1 => 
      bm_c2 (fun x1 => (bm_kt w1 p0 = 12) ∧ bm_Call bm_pg d y_X12_isTaken [bm_r (some p0), bm_l x1] w1 (fun r2 w2 => 
        bm_c1 (fun x2 => (if (decide (x2 = 0)) = true then
          (bm_kt w2 p0 = 12) ∧
          (bm_kt w2 p0 = 12) ∧
          (bm_kt (bm_si w2 p0 9 (bm_w ((bm_gi w2 p0 9) + (2 : Int)))) p0 = 12 ∧ bm_gr (bm_si w2 p0 9 (bm_w ((bm_gi w2 p0 9) + (2 : Int)))) p0 20 = some (bm_u (bm_gr (bm_si w2 p0 9 (bm_w ((bm_gi w2 p0 9) + (2 : Int)))) p0 20))) ∧
          (bm_kt (bm_si w2 p0 9 (bm_w ((bm_gi w2 p0 9) + (2 : Int)))) p0 = 12) ∧
          (bm_kt (bm_si w2 p0 9 (bm_w ((bm_gi w2 p0 9) + (2 : Int)))) (bm_u (bm_gr (bm_si w2 p0 9 (bm_w ((bm_gi w2 p0 9) + (2 : Int)))) p0 20)) = 21 ∧ bm_in (bm_gi (bm_si w2 p0 9 (bm_w ((bm_gi w2 p0 9) + (2 : Int)))) p0 18) (bm_kn (bm_si w2 p0 9 (bm_w ((bm_gi w2 p0 9) + (2 : Int)))) (bm_u (bm_gr (bm_si w2 p0 9 (bm_w ((bm_gi w2 p0 9) + (2 : Int)))) p0 20)))) ∧
          bk_X12_fun_60 d Φ p0 (bm_gi w p0 9) (bm_si (bm_si w2 p0 9 (bm_w ((bm_gi w2 p0 9) + (2 : Int)))) (bm_u (bm_gr (bm_si w2 p0 9 (bm_w ((bm_gi w2 p0 9) + (2 : Int)))) p0 20)) ((bm_gi (bm_si w2 p0 9 (bm_w ((bm_gi w2 p0 9) + (2 : Int)))) p0 18)).toNat (0 : Int))
        else
          (bm_kt w2 p0 = 12) ∧ bm_Call bm_pg d y_X12_wrong [bm_r (some p0), bm_i (3 : Int), bm_i (bm_gi w p0 9)] w2 (fun r3 w3 => 
            bm_c1 (fun x3 => Φ (.inl (some (bm_i x3))) w3) (fun E => Φ (.inr E) w3) r3))) (fun E => Φ (.inr E) w2) r2)) (fun E => Φ (.inr E) w1) r1)
  else
    (bm_kt w p0 = 12) ∧ bm_Call bm_pg d y_X12_wrong [bm_r (some p0), bm_i (4 : Int), bm_i p1] w (fun r4 w4 => 
      bm_c1 (fun x4 => Φ (.inl (some (bm_i x4))) w4) (fun E => Φ (.inr E) w4) r4))) : bm_Call bm_pg (d + 1) y_X12_fun [bm_r (some p0), bm_i p1] w Φ := bm_enter rfl (bm_go (bm_Call_mono _ _) [60, 95] 129 _ h)
set_option maxRecDepth 20000 in
theorem vb_X12_fun_60 {d : Nat} {Φ : bm_Rt → bm_W → Prop} {v0 : Nat} {v2 : Int} {w : bm_W} (h :
  (bm_kt w v0 = 12) ∧ bm_Call bm_pg d y_X12_input [bm_r (some v0)] w (fun r1 w1 => 
    bm_c1 (fun x1 => (if (decide (x1 = 0)) = true then
      (bm_kt w1 v0 = 12) ∧ bm_Call bm_pg d y_X12_takes [bm_r (some v0), bm_k (0, 12)] w1 (fun r2 w2 => 
        bm_c1 (fun x2 => (if (!decide (x2 = 0)) = true then
          bk_X12_fun_60 d Φ v0 v2 w2
        else
          (bm_kt w2 v0 = 12) ∧
          (bm_kt w2 v0 = 12) ∧
          (bm_kt (bm_si w2 v0 9 (bm_w ((bm_gi w2 v0 9) + (2 : Int)))) v0 = 12) ∧
          bk_X12_fun_95 d Φ v0 v2 (bm_gi (bm_si w2 v0 9 (bm_w ((bm_gi w2 v0 9) + (2 : Int)))) v0 9) (bm_si w2 v0 9 (bm_w ((bm_gi w2 v0 9) + (2 : Int)))))) (fun E => Φ (.inr E) w2) r2)
    else
      Φ (.inl (some (bm_i x1))) w1)) (fun E => Φ (.inr E) w1) r1)) : bk_X12_fun_60 d Φ v0 v2 w := bm_go (bm_Call_mono _ _) [60, 95] 129 _ h
set_option maxRecDepth 20000 in
theorem vb_X12_fun_95 {d : Nat} {Φ : bm_Rt → bm_W → Prop} {v0 : Nat} {v2 : Int} {v3 : Int} {w : bm_W} (h :
  (bm_kt w v0 = 12) ∧ bm_Call bm_pg d y_X12_sees [bm_r (some v0), bm_k (0, 6)] w (fun r1 w1 => 
    bm_c1 (fun x1 => (if (!decide (x1 = 0)) = true then
      (bm_kt w1 v0 = 12) ∧
      (bm_kt w1 v0 = 12) ∧ bm_Call bm_pg d y_X12_markPlaces [bm_r (some v0), bm_i v3, bm_i (bm_gi w1 v0 9)] w1 (fun r2 w2 => 
        bm_c0 ((bm_kt w2 v0 = 12) ∧
        (bm_kt w2 v0 = 12) ∧
        (bm_kt (bm_si w2 v0 9 v3) v0 = 12 ∧ bm_gr (bm_si w2 v0 9 v3) v0 26 = some (bm_u (bm_gr (bm_si w2 v0 9 v3) v0 26))) ∧
        (bm_kt (bm_si w2 v0 9 v3) v0 = 12) ∧
        (bm_kt (bm_si w2 v0 9 v3) (bm_u (bm_gr (bm_si w2 v0 9 v3) v0 26)) = 21 ∧ bm_in (bm_gi (bm_si w2 v0 9 v3) v0 18) (bm_kn (bm_si w2 v0 9 v3) (bm_u (bm_gr (bm_si w2 v0 9 v3) v0 26)))) ∧
        (bm_kt (bm_si (bm_si w2 v0 9 v3) (bm_u (bm_gr (bm_si w2 v0 9 v3) v0 26)) ((bm_gi (bm_si w2 v0 9 v3) v0 18)).toNat (bm_w ((bm_gi w2 v0 9) - v3))) v0 = 12) ∧ bm_Call bm_pg d y_X12_expression [bm_r (some v0)] (bm_si (bm_si w2 v0 9 v3) (bm_u (bm_gr (bm_si w2 v0 9 v3) v0 26)) ((bm_gi (bm_si w2 v0 9 v3) v0 18)).toNat (bm_w ((bm_gi w2 v0 9) - v3))) (fun r3 w3 => 
          bm_c1 (fun x3 => (if (decide (x3 = 0)) = true then
            (bm_kt w3 v0 = 12 ∧ bm_gr w3 v0 24 = some (bm_u (bm_gr w3 v0 24))) ∧
            (bm_kt w3 v0 = 12) ∧
            (bm_kt w3 v0 = 12) ∧
            (bm_kt w3 (bm_u (bm_gr w3 v0 24)) = 21 ∧ bm_in (bm_gi w3 v0 18) (bm_kn w3 (bm_u (bm_gr w3 v0 24)))) ∧
            (bm_kt (bm_si w3 (bm_u (bm_gr w3 v0 24)) ((bm_gi w3 v0 18)).toNat (bm_gi w3 v0 40)) v0 = 12 ∧ bm_gr (bm_si w3 (bm_u (bm_gr w3 v0 24)) ((bm_gi w3 v0 18)).toNat (bm_gi w3 v0 40)) v0 26 = some (bm_u (bm_gr (bm_si w3 (bm_u (bm_gr w3 v0 24)) ((bm_gi w3 v0 18)).toNat (bm_gi w3 v0 40)) v0 26))) ∧
            (bm_kt (bm_si w3 (bm_u (bm_gr w3 v0 24)) ((bm_gi w3 v0 18)).toNat (bm_gi w3 v0 40)) v0 = 12) ∧
            (bm_kt (bm_si w3 (bm_u (bm_gr w3 v0 24)) ((bm_gi w3 v0 18)).toNat (bm_gi w3 v0 40)) (bm_u (bm_gr (bm_si w3 (bm_u (bm_gr w3 v0 24)) ((bm_gi w3 v0 18)).toNat (bm_gi w3 v0 40)) v0 26)) = 21 ∧ bm_in (bm_gi (bm_si w3 (bm_u (bm_gr w3 v0 24)) ((bm_gi w3 v0 18)).toNat (bm_gi w3 v0 40)) v0 18) (bm_kn (bm_si w3 (bm_u (bm_gr w3 v0 24)) ((bm_gi w3 v0 18)).toNat (bm_gi w3 v0 40)) (bm_u (bm_gr (bm_si w3 (bm_u (bm_gr w3 v0 24)) ((bm_gi w3 v0 18)).toNat (bm_gi w3 v0 40)) v0 26)))) ∧
            (if (decide ((bm_gi (bm_si w3 (bm_u (bm_gr w3 v0 24)) ((bm_gi w3 v0 18)).toNat (bm_gi w3 v0 40)) (bm_u (bm_gr (bm_si w3 (bm_u (bm_gr w3 v0 24)) ((bm_gi w3 v0 18)).toNat (bm_gi w3 v0 40)) v0 26)) ((bm_gi (bm_si w3 (bm_u (bm_gr w3 v0 24)) ((bm_gi w3 v0 18)).toNat (bm_gi w3 v0 40)) v0 18)).toNat) ≤ (200 : Int))) = true then
              (bm_kt (bm_si w3 (bm_u (bm_gr w3 v0 24)) ((bm_gi w3 v0 18)).toNat (bm_gi w3 v0 40)) v0 = 12 ∧ bm_gr (bm_si w3 (bm_u (bm_gr w3 v0 24)) ((bm_gi w3 v0 18)).toNat (bm_gi w3 v0 40)) v0 19 = some (bm_u (bm_gr (bm_si w3 (bm_u (bm_gr w3 v0 24)) ((bm_gi w3 v0 18)).toNat (bm_gi w3 v0 40)) v0 19))) ∧
              (bm_kt (bm_si w3 (bm_u (bm_gr w3 v0 24)) ((bm_gi w3 v0 18)).toNat (bm_gi w3 v0 40)) v0 = 12) ∧
              (bm_kt (bm_si w3 (bm_u (bm_gr w3 v0 24)) ((bm_gi w3 v0 18)).toNat (bm_gi w3 v0 40)) v0 = 12) ∧ bm_Call bm_pg d y_X12_nameOf [bm_r (some v0), bm_i v2] (bm_si w3 (bm_u (bm_gr w3 v0 24)) ((bm_gi w3 v0 18)).toNat (bm_gi w3 v0 40)) (fun r4 w4 => 
                bm_c2 (fun x4 => (bm_kt w4 (bm_u (bm_gr (bm_si w3 (bm_u (bm_gr w3 v0 24)) ((bm_gi w3 v0 18)).toNat (bm_gi w3 v0 40)) v0 19)) = 22 ∧ bm_in (bm_gi (bm_si w3 (bm_u (bm_gr w3 v0 24)) ((bm_gi w3 v0 18)).toNat (bm_gi w3 v0 40)) v0 18) (bm_kn w4 (bm_u (bm_gr (bm_si w3 (bm_u (bm_gr w3 v0 24)) ((bm_gi w3 v0 18)).toNat (bm_gi w3 v0 40)) v0 19)))) ∧
                (bm_kt (bm_sq w4 (bm_u (bm_gr (bm_si w3 (bm_u (bm_gr w3 v0 24)) ((bm_gi w3 v0 18)).toNat (bm_gi w3 v0 40)) v0 19)) ((bm_gi (bm_si w3 (bm_u (bm_gr w3 v0 24)) ((bm_gi w3 v0 18)).toNat (bm_gi w3 v0 40)) v0 18)).toNat x4) v0 = 12) ∧
                (bm_kt (bm_sq w4 (bm_u (bm_gr (bm_si w3 (bm_u (bm_gr w3 v0 24)) ((bm_gi w3 v0 18)).toNat (bm_gi w3 v0 40)) v0 19)) ((bm_gi (bm_si w3 (bm_u (bm_gr w3 v0 24)) ((bm_gi w3 v0 18)).toNat (bm_gi w3 v0 40)) v0 18)).toNat x4) v0 = 12) ∧
                Φ (.inl (some (bm_i (0 : Int)))) (bm_si (bm_sq w4 (bm_u (bm_gr (bm_si w3 (bm_u (bm_gr w3 v0 24)) ((bm_gi w3 v0 18)).toNat (bm_gi w3 v0 40)) v0 19)) ((bm_gi (bm_si w3 (bm_u (bm_gr w3 v0 24)) ((bm_gi w3 v0 18)).toNat (bm_gi w3 v0 40)) v0 18)).toNat x4) v0 18 (bm_w ((bm_gi (bm_sq w4 (bm_u (bm_gr (bm_si w3 (bm_u (bm_gr w3 v0 24)) ((bm_gi w3 v0 18)).toNat (bm_gi w3 v0 40)) v0 19)) ((bm_gi (bm_si w3 (bm_u (bm_gr w3 v0 24)) ((bm_gi w3 v0 18)).toNat (bm_gi w3 v0 40)) v0 18)).toNat x4) v0 18) + (1 : Int))))) (fun E => Φ (.inr E) w4) r4)
            else
              (bm_kt (bm_si w3 (bm_u (bm_gr w3 v0 24)) ((bm_gi w3 v0 18)).toNat (bm_gi w3 v0 40)) v0 = 12) ∧ bm_Call bm_pg d y_X12_wrong [bm_r (some v0), bm_i (4 : Int), bm_i v2] (bm_si w3 (bm_u (bm_gr w3 v0 24)) ((bm_gi w3 v0 18)).toNat (bm_gi w3 v0 40)) (fun r5 w5 => 
                bm_c1 (fun x5 => Φ (.inl (some (bm_i x5))) w5) (fun E => Φ (.inr E) w5) r5))
          else
            Φ (.inl (some (bm_i x3))) w3)) (fun E => Φ (.inr E) w3) r3)) (fun E => Φ (.inr E) w2) r2)
    else
      (bm_kt w1 v0 = 12) ∧
      (bm_kt w1 v0 = 12) ∧
      bk_X12_fun_95 d Φ v0 v2 v3 (bm_si w1 v0 9 (bm_w ((bm_gi w1 v0 9) + (1 : Int)))))) (fun E => Φ (.inr E) w1) r1)) : bk_X12_fun_95 d Φ v0 v2 v3 w := bm_go (bm_Call_mono _ _) [60, 95] 129 _ h

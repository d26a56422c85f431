/-! what the rows of the methods come to (laid by program) -/
/-! CaseTables$Untried.pairCount()I -/
set_option maxRecDepth 20000 in
theorem vc_X10_pairCount {d : Nat} {Φ : bm_Rt → bm_W → Prop} {p0 : Nat} {w : bm_W} (h :
  (bm_kt w p0 = 10 ∧ bm_gr w p0 0 = some (bm_u (bm_gr w p0 0))) ∧
  (True) ∧ bm_Call bm_pg d y_X10_bits [bm_r (some (bm_u (bm_gr w p0 0)))] w (fun r1 w1 => 
    bm_c1 (fun x1 => (bm_kt w1 p0 = 10 ∧ bm_gr w1 p0 1 = some (bm_u (bm_gr w1 p0 1))) ∧
    (True) ∧ bm_Call bm_pg d y_X10_bits [bm_r (some (bm_u (bm_gr w1 p0 1)))] w1 (fun r2 w2 => 
      bm_c1 (fun x2 => (bm_kt w2 p0 = 10 ∧ bm_gr w2 p0 2 = some (bm_u (bm_gr w2 p0 2))) ∧
      (True) ∧ bm_Call bm_pg d y_X10_bits [bm_r (some (bm_u (bm_gr w2 p0 2)))] w2 (fun r3 w3 => 
        bm_c1 (fun x3 => Φ (.inl (some (bm_i (bm_w ((bm_w (x1 + x2)) + x3))))) w3) (fun E => Φ (.inr E) w3) r3)) (fun E => Φ (.inr E) w2) r2)) (fun E => Φ (.inr E) w1) r1)) : bm_Call bm_pg (d + 1) y_X10_pairCount [bm_r (some p0)] w Φ := bm_enter rfl (bm_go (bm_Call_mono _ _) [] 14 _ h)
/-! CaseTables$Untried.bestRow()I -/
def bk_X10_bestRow_6 (d : Nat) (Φ : bm_Rt → bm_W → Prop) (v0 : Nat) (v1 : Int) (v2 : Int) (v3 : Int) (w : bm_W) : Prop := bm_Wp (bm_Call bm_pg d) tb_X10_bestRow Φ (6, [some (bm_r (some v0)), some (bm_i v1), some (bm_i v2), some (bm_i v3), none, none, none], [], w)
def bk_X10_bestRow_17 (d : Nat) (Φ : bm_Rt → bm_W → Prop) (v0 : Nat) (v1 : Int) (v2 : Int) (v3 : Int) (v4 : Int) (w : bm_W) : Prop := bm_Wp (bm_Call bm_pg d) tb_X10_bestRow Φ (17, [some (bm_r (some v0)), some (bm_i v1), some (bm_i v2), some (bm_i v3), some (bm_i v4), none, none], [], w)
set_option maxRecDepth 20000 in
theorem vc_X10_bestRow {d : Nat} {Φ : bm_Rt → bm_W → Prop} {p0 : Nat} {w : bm_W} (h :
  bk_X10_bestRow_6 d Φ p0 (-1 : Int) (0 : Int) (0 : Int) w) : bm_Call bm_pg (d + 1) y_X10_bestRow [bm_r (some p0)] w Φ := bm_enter rfl (bm_go (bm_Call_mono _ _) [6, 17] 52 _ h)
set_option maxRecDepth 20000 in
theorem vb_X10_bestRow_6 {d : Nat} {Φ : bm_Rt → bm_W → Prop} {v0 : Nat} {v1 : Int} {v2 : Int} {v3 : Int} {w : bm_W} (h :
  (bm_kt w v0 = 10) ∧
  (if (decide ((bm_gi w v0 3) ≤ v3)) = true then
    Φ (.inl (some (bm_i v1))) w
  else
    bk_X10_bestRow_17 d Φ v0 v1 v2 v3 (0 : Int) w)) : bk_X10_bestRow_6 d Φ v0 v1 v2 v3 w := bm_go (bm_Call_mono _ _) [6, 17] 52 _ h
set_option maxRecDepth 20000 in
theorem vb_X10_bestRow_17 {d : Nat} {Φ : bm_Rt → bm_W → Prop} {v0 : Nat} {v1 : Int} {v2 : Int} {v3 : Int} {v4 : Int} {w : bm_W} (h :
  (bm_kt w v0 = 10) ∧
  (if (decide ((bm_gi w v0 4) ≤ v4)) = true then
    bk_X10_bestRow_6 d Φ v0 v1 v2 (bm_w (v3 + 1)) w
  else
    (bm_kt w v0 = 10) ∧ bm_Call bm_pg d y_X10_bestThird [bm_r (some v0), bm_i v3, bm_i v4] w (fun r1 w1 => 
      bm_c1 (fun x1 => (bm_kt w1 v0 = 10) ∧ bm_Call bm_pg d y_X10_pairsIn [bm_r (some v0), bm_i v3, bm_i v4, bm_i x1] w1 (fun r2 w2 => 
        bm_c1 (fun x2 => (if (decide (x2 ≤ v2)) = true then
          bk_X10_bestRow_17 d Φ v0 v1 v2 v3 (bm_w (v4 + 1)) w2
        else
          (bm_kt w2 v0 = 10) ∧
          (bm_kt w2 v0 = 10) ∧
          bk_X10_bestRow_17 d Φ v0 (bm_w ((bm_w ((bm_w ((bm_w (v3 * (bm_gi w2 v0 4))) + v4)) * (bm_gi w2 v0 5))) + x1)) x2 v3 (bm_w (v4 + 1)) w2)) (fun E => Φ (.inr E) w2) r2)) (fun E => Φ (.inr E) w1) r1))) : bk_X10_bestRow_17 d Φ v0 v1 v2 v3 v4 w := bm_go (bm_Call_mono _ _) [6, 17] 52 _ h
/-! CaseTables$Untried.bestThird(II)I -/
set_option maxRecDepth 20000 in
theorem vc_X10_bestThird {d : Nat} {Φ : bm_Rt → bm_W → Prop} {p0 : Nat} {p1 : Int} {p2 : Int} {w : bm_W} (h :
  (bm_kt w p0 = 10 ∧ bm_gr w p0 1 = some (bm_u (bm_gr w p0 1))) ∧
  (True) ∧ bm_Call bm_pg d y_X10_maskAt [bm_r (some (bm_u (bm_gr w p0 1))), bm_i p1] w (fun r1 w1 => 
    bm_c2 (fun x1 => (bm_kt w1 p0 = 10 ∧ bm_gr w1 p0 2 = some (bm_u (bm_gr w1 p0 2))) ∧
    (True) ∧ bm_Call bm_pg d y_X10_maskAt [bm_r (some (bm_u (bm_gr w1 p0 2))), bm_i p2] w1 (fun r2 w2 => 
      bm_c2 (fun x2 => (if (!decide (((Int64.ofInt x1 &&& Int64.ofInt x2).toInt) = (0 : Int))) = true then
        (True) ∧ bm_Call bm_pg d y_X10_lowestBit [bm_l ((Int64.ofInt x1 &&& Int64.ofInt x2).toInt)] w2 (fun r3 w3 => 
          bm_c1 (fun x3 => Φ (.inl (some (bm_i x3))) w3) (fun E => Φ (.inr E) w3) r3)
      else
        (True) ∧ bm_Call bm_pg d y_X10_lowestBit [bm_l ((Int64.ofInt x1 ||| Int64.ofInt x2).toInt)] w2 (fun r4 w4 => 
          bm_c1 (fun x4 => Φ (.inl (some (bm_i x4))) w4) (fun E => Φ (.inr E) w4) r4))) (fun E => Φ (.inr E) w2) r2)) (fun E => Φ (.inr E) w1) r1)) : bm_Call bm_pg (d + 1) y_X10_bestThird [bm_r (some p0), bm_i p1, bm_i p2] w Φ := bm_enter rfl (bm_go (bm_Call_mono _ _) [] 26 _ h)
/-! CaseTables$Untried.pairsIn(III)I -/
set_option maxRecDepth 20000 in
theorem vc_X10_pairsIn {d : Nat} {Φ : bm_Rt → bm_W → Prop} {p0 : Nat} {p1 : Int} {p2 : Int} {p3 : Int} {w : bm_W} (h :
  (bm_kt w p0 = 10 ∧ bm_gr w p0 0 = some (bm_u (bm_gr w p0 0))) ∧
  (True) ∧ bm_Call bm_pg d y_X10_bitAt [bm_r (some (bm_u (bm_gr w p0 0))), bm_i p1, bm_i p2] w (fun r1 w1 => 
    bm_c1 (fun x1 => (bm_kt w1 p0 = 10 ∧ bm_gr w1 p0 1 = some (bm_u (bm_gr w1 p0 1))) ∧
    (True) ∧ bm_Call bm_pg d y_X10_bitAt [bm_r (some (bm_u (bm_gr w1 p0 1))), bm_i p1, bm_i p3] w1 (fun r2 w2 => 
      bm_c1 (fun x2 => (bm_kt w2 p0 = 10 ∧ bm_gr w2 p0 2 = some (bm_u (bm_gr w2 p0 2))) ∧
      (True) ∧ bm_Call bm_pg d y_X10_bitAt [bm_r (some (bm_u (bm_gr w2 p0 2))), bm_i p2, bm_i p3] w2 (fun r3 w3 => 
        bm_c1 (fun x3 => Φ (.inl (some (bm_i (bm_w ((bm_w (x1 + x2)) + x3))))) w3) (fun E => Φ (.inr E) w3) r3)) (fun E => Φ (.inr E) w2) r2)) (fun E => Φ (.inr E) w1) r1)) : bm_Call bm_pg (d + 1) y_X10_pairsIn [bm_r (some p0), bm_i p1, bm_i p2, bm_i p3] w Φ := bm_enter rfl (bm_go (bm_Call_mono _ _) [] 20 _ h)
/-! CaseTables$Untried.fill([JII)V -/
def bk_X10_fill_2 (d : Nat) (Φ : bm_Rt → bm_W → Prop) (v0 : Nat) (v1 : Int) (v2 : Int) (v3 : Int) (w : bm_W) : Prop := bm_Wp (bm_Call bm_pg d) tb_X10_fill Φ (2, [some (bm_r (some v0)), some (bm_i v1), some (bm_i v2), some (bm_i v3)], [], w)
set_option maxRecDepth 20000 in
theorem vc_X10_fill {d : Nat} {Φ : bm_Rt → bm_W → Prop} {p0 : Nat} {p1 : Int} {p2 : Int} {w : bm_W} (h :
  bk_X10_fill_2 d Φ p0 p1 p2 (0 : Int) w) : bm_Call bm_pg (d + 1) y_X10_fill [bm_r (some p0), bm_i p1, bm_i p2] w Φ := bm_enter rfl (bm_go (bm_Call_mono _ _) [2] 21 _ h)
set_option maxRecDepth 20000 in
theorem vb_X10_fill_2 {d : Nat} {Φ : bm_Rt → bm_W → Prop} {v0 : Nat} {v1 : Int} {v2 : Int} {v3 : Int} {w : bm_W} (h :
  (20 ≤ bm_kt w v0 ∧ bm_kt w v0 < 27) ∧
  (if (decide ((bm_kn w v0 : Int) ≤ v3)) = true then
    Φ (.inl none) w
  else
    (if (decide (v1 ≤ v3)) = true then
      (bm_kt w v0 = 22 ∧ bm_in v3 (bm_kn w v0)) ∧
      bk_X10_fill_2 d Φ v0 v1 v2 (bm_w (v3 + 1)) (bm_sq w v0 (v3).toNat (0 : Int))
    else
      (True) ∧ bm_Call bm_pg d y_X10_upTo [bm_i v2] w (fun r1 w1 => 
        bm_c2 (fun x1 => (bm_kt w1 v0 = 22 ∧ bm_in v3 (bm_kn w1 v0)) ∧
        bk_X10_fill_2 d Φ v0 v1 v2 (bm_w (v3 + 1)) (bm_sq w1 v0 (v3).toNat x1)) (fun E => Φ (.inr E) w1) r1)))) : bk_X10_fill_2 d Φ v0 v1 v2 v3 w := bm_go (bm_Call_mono _ _) [2] 21 _ h
/-! CaseTables$Untried.strike([JLCaseTables$Ranges;LCaseTables$Ranges;II)V -/
def bk_X10_strike_67 (d : Nat) (Φ : bm_Rt → bm_W → Prop) (v0 : Nat) (v5 : Int) (v7 : Int) (v8 : Int) (w : bm_W) : Prop := bm_Wp (bm_Call bm_pg d) tb_X10_strike Φ (67, [some (bm_r (some v0)), none, none, none, none, some (bm_l v5), none, some (bm_i v7), some (bm_i v8)], [], w)
set_option maxRecDepth 20000 in
theorem vc_X10_strike {d : Nat} {Φ : bm_Rt → bm_W → Prop} {p0 : Nat} {p1 : Nat} {p2 : Nat} {p3 : Int} {p4 : Int} {w : bm_W} (h :
  (bm_kt w p2 = 4) ∧ bm_Call bm_pg d y_X4_high [bm_r (some p2), bm_i p4] w (fun r1 w1 => 
    bm_c1 (fun x1 => (bm_kt w1 p1 = 4) ∧ bm_Call bm_pg d y_X4_low [bm_r (some p1), bm_i p4] w1 (fun r2 w2 => 
      bm_c1 (fun x2 => (True) ∧ bm_Call bm_pg d y_X10_upTo [bm_i (bm_w ((bm_w (x1 - x2)) + (1 : Int)))] w2 (fun r3 w3 => 
        bm_c2 (fun x3 => (bm_kt w3 p2 = 4) ∧ bm_Call bm_pg d y_X4_low [bm_r (some p2), bm_i p4] w3 (fun r4 w4 => 
          bm_c1 (fun x4 => (bm_kt w4 p1 = 4) ∧ bm_Call bm_pg d y_X4_low [bm_r (some p1), bm_i p4] w4 (fun r5 w5 => 
            bm_c1 (fun x5 => (True) ∧ bm_Call bm_pg d y_X10_upTo [bm_i (bm_w (x4 - x5))] w5 (fun r6 w6 => 
              bm_c2 (fun x6 => (bm_kt w6 p2 = 4) ∧ bm_Call bm_pg d y_X4_high [bm_r (some p2), bm_i p3] w6 (fun r7 w7 => 
                bm_c1 (fun x7 => (bm_kt w7 p1 = 4) ∧ bm_Call bm_pg d y_X4_low [bm_r (some p1), bm_i p3] w7 (fun r8 w8 => 
                  bm_c1 (fun x8 => (bm_kt w8 p2 = 4) ∧ bm_Call bm_pg d y_X4_low [bm_r (some p2), bm_i p3] w8 (fun r9 w9 => 
                    bm_c1 (fun x9 => (bm_kt w9 p1 = 4) ∧ bm_Call bm_pg d y_X4_low [bm_r (some p1), bm_i p3] w9 (fun r10 w10 => 
                      bm_c1 (fun x10 => bk_X10_strike_67 d Φ p0 ((Int64.ofInt x3 &&& Int64.ofInt ((Int64.ofInt x6 ^^^ Int64.ofInt (-1 : Int)).toInt)).toInt) (bm_w (x7 - x8)) (bm_w (x9 - x10)) w10) (fun E => Φ (.inr E) w10) r10)) (fun E => Φ (.inr E) w9) r9)) (fun E => Φ (.inr E) w8) r8)) (fun E => Φ (.inr E) w7) r7)) (fun E => Φ (.inr E) w6) r6)) (fun E => Φ (.inr E) w5) r5)) (fun E => Φ (.inr E) w4) r4)) (fun E => Φ (.inr E) w3) r3)) (fun E => Φ (.inr E) w2) r2)) (fun E => Φ (.inr E) w1) r1)) : bm_Call bm_pg (d + 1) y_X10_strike [bm_r (some p0), bm_r (some p1), bm_r (some p2), bm_i p3, bm_i p4] w Φ := bm_enter rfl (bm_go (bm_Call_mono _ _) [67] 61 _ h)
set_option maxRecDepth 20000 in
theorem vb_X10_strike_67 {d : Nat} {Φ : bm_Rt → bm_W → Prop} {v0 : Nat} {v5 : Int} {v7 : Int} {v8 : Int} {w : bm_W} (h :
  (if (decide (v7 < v8)) = true then
    Φ (.inl none) w
  else
    (if (decide (v8 < 0)) = true then
      bk_X10_strike_67 d Φ v0 v5 v7 (bm_w (v8 + 1)) w
    else
      (20 ≤ bm_kt w v0 ∧ bm_kt w v0 < 27) ∧
      (if (decide ((bm_kn w v0 : Int) ≤ v8)) = true then
        bk_X10_strike_67 d Φ v0 v5 v7 (bm_w (v8 + 1)) w
      else
        (bm_kt w v0 = 22 ∧ bm_in v8 (bm_kn w v0)) ∧
        (bm_kt w v0 = 22 ∧ bm_in v8 (bm_kn w v0)) ∧
        bk_X10_strike_67 d Φ v0 v5 v7 (bm_w (v8 + 1)) (bm_sq w v0 (v8).toNat ((Int64.ofInt (bm_gl w v0 (v8).toNat) &&& Int64.ofInt ((Int64.ofInt v5 ^^^ Int64.ofInt (-1 : Int)).toInt)).toInt)))))) : bk_X10_strike_67 d Φ v0 v5 v7 v8 w := bm_go (bm_Call_mono _ _) [67] 61 _ h
/-! CaseTables$Untried.lowestBit(J)I -/
set_option maxRecDepth 20000 in
theorem vc_X10_lowestBit {d : Nat} {Φ : bm_Rt → bm_W → Prop} {p0 : Int} {w : bm_W} (h :
  (if (!decide (p0 = (0 : Int))) = true then
    (True) ∧ bm_Call bm_pg d y_J13_bitCount_95d88 [bm_l (bm_x (((Int64.ofInt p0 &&& Int64.ofInt (bm_x (-p0))).toInt) - (1 : Int)))] w (fun r1 w1 => 
      bm_c1 (fun x1 => Φ (.inl (some (bm_i x1))) w1) (fun E => Φ (.inr E) w1) r1)
  else
    Φ (.inl (some (bm_i (0 : Int)))) w)) : bm_Call bm_pg (d + 1) y_X10_lowestBit [bm_l p0] w Φ := bm_enter rfl (bm_go (bm_Call_mono _ _) [] 15 _ h)
/-! CaseTables$Untried.upTo(I)J -/
set_option maxRecDepth 20000 in
theorem vc_X10_upTo {d : Nat} {Φ : bm_Rt → bm_W → Prop} {p0 : Int} {w : bm_W} (h :
  Φ (.inl (some (bm_l (bm_x (((Int64.ofInt (1 : Int) <<< ((Int32.ofInt p0).toInt64 &&& 63)).toInt) - (1 : Int)))))) w) : bm_Call bm_pg (d + 1) y_X10_upTo [bm_i p0] w Φ := bm_enter rfl (bm_go (bm_Call_mono _ _) [] 8 _ h)
/-! CaseTables$Untried.bits([J)I -/
def bk_X10_bits_4 (d : Nat) (Φ : bm_Rt → bm_W → Prop) (v0 : Nat) (v1 : Int) (v2 : Int) (w : bm_W) : Prop := bm_Wp (bm_Call bm_pg d) tb_X10_bits Φ (4, [some (bm_r (some v0)), some (bm_i v1), some (bm_i v2)], [], w)
set_option maxRecDepth 20000 in
theorem vc_X10_bits {d : Nat} {Φ : bm_Rt → bm_W → Prop} {p0 : Nat} {w : bm_W} (h :
  bk_X10_bits_4 d Φ p0 (0 : Int) (0 : Int) w) : bm_Call bm_pg (d + 1) y_X10_bits [bm_r (some p0)] w Φ := bm_enter rfl (bm_go (bm_Call_mono _ _) [4] 21 _ h)
set_option maxRecDepth 20000 in
theorem vb_X10_bits_4 {d : Nat} {Φ : bm_Rt → bm_W → Prop} {v0 : Nat} {v1 : Int} {v2 : Int} {w : bm_W} (h :
  (20 ≤ bm_kt w v0 ∧ bm_kt w v0 < 27) ∧
  (if (decide ((bm_kn w v0 : Int) ≤ v2)) = true then
    Φ (.inl (some (bm_i v1))) w
  else
    (bm_kt w v0 = 22 ∧ bm_in v2 (bm_kn w v0)) ∧
    (True) ∧ bm_Call bm_pg d y_J13_bitCount_95d88 [bm_l (bm_gl w v0 (v2).toNat)] w (fun r1 w1 => 
      bm_c1 (fun x1 => bk_X10_bits_4 d Φ v0 (bm_w (v1 + x1)) (bm_w (v2 + 1)) w1) (fun E => Φ (.inr E) w1) r1))) : bk_X10_bits_4 d Φ v0 v1 v2 w := bm_go (bm_Call_mono _ _) [4] 21 _ h
/-! CaseTables$Untried.maskAt([JI)J -/
set_option maxRecDepth 20000 in
theorem vc_X10_maskAt {d : Nat} {Φ : bm_Rt → bm_W → Prop} {p0 : Nat} {p1 : Int} {w : bm_W} (h :
  (if (decide (p1 < 0)) = true then
    Φ (.inl (some (bm_l (0 : Int)))) w
  else
    (20 ≤ bm_kt w p0 ∧ bm_kt w p0 < 27) ∧
    (if (decide ((bm_kn w p0 : Int) ≤ p1)) = true then
      Φ (.inl (some (bm_l (0 : Int)))) w
    else
      (bm_kt w p0 = 22 ∧ bm_in p1 (bm_kn w p0)) ∧
      Φ (.inl (some (bm_l (bm_gl w p0 (p1).toNat)))) w))) : bm_Call bm_pg (d + 1) y_X10_maskAt [bm_r (some p0), bm_i p1] w Φ := bm_enter rfl (bm_go (bm_Call_mono _ _) [] 14 _ h)
/-! CaseTables$Untried.bitAt([JII)I -/
set_option maxRecDepth 20000 in
theorem vc_X10_bitAt {d : Nat} {Φ : bm_Rt → bm_W → Prop} {p0 : Nat} {p1 : Int} {p2 : Int} {w : bm_W} (h :
  (True) ∧ bm_Call bm_pg d y_X10_maskAt [bm_r (some p0), bm_i p1] w (fun r1 w1 => 
    bm_c2 (fun x1 => Φ (.inl (some (bm_i (bm_w ((Int64.ofInt ((Int64.ofInt x1 >>> ((Int32.ofInt p2).toInt64 &&& 63)).toInt) &&& Int64.ofInt (1 : Int)).toInt))))) w1) (fun E => Φ (.inr E) w1) r1)) : bm_Call bm_pg (d + 1) y_X10_bitAt [bm_r (some p0), bm_i p1, bm_i p2] w Φ := bm_enter rfl (bm_go (bm_Call_mono _ _) [] 11 _ h)
/-! CaseTables.<init>()V -/
set_option maxRecDepth 20000 in
theorem vc_X11_init {d : Nat} {Φ : bm_Rt → bm_W → Prop} {p0 : Nat} {w : bm_W} (h :
  (true = true) ∧
  (True) ∧ bm_Call bm_pg d y_X8_init [bm_r (some (bm_sz w))] (bm_nw w 8 0 2) (fun r1 w1 => 
    bm_c5 ((bm_kt w1 p0 = 11) ∧
    (bm_kt (bm_nw (bm_sr w1 p0 0 (some (bm_sz w))) 9 0 11) p0 = 11 ∧ bm_gr (bm_nw (bm_sr w1 p0 0 (some (bm_sz w))) 9 0 11) p0 0 = some (bm_u (bm_gr (bm_nw (bm_sr w1 p0 0 (some (bm_sz w))) 9 0 11) p0 0))) ∧
    (True) ∧ bm_Call bm_pg d y_X9_init [bm_r (some (bm_sz (bm_sr w1 p0 0 (some (bm_sz w))))), bm_r (some (bm_u (bm_gr (bm_nw (bm_sr w1 p0 0 (some (bm_sz w))) 9 0 11) p0 0)))] (bm_nw (bm_sr w1 p0 0 (some (bm_sz w))) 9 0 11) (fun r2 w2 => 
      bm_c5 ((bm_kt w2 p0 = 11) ∧
      (True) ∧ bm_Call bm_pg d y_X3_init [bm_r (some (bm_sz (bm_sr w2 p0 1 (some (bm_sz (bm_sr w1 p0 0 (some (bm_sz w))))))))] (bm_nw (bm_sr w2 p0 1 (some (bm_sz (bm_sr w1 p0 0 (some (bm_sz w)))))) 3 0 7) (fun r3 w3 => 
        bm_c5 ((bm_kt w3 p0 = 11) ∧
        (bm_kt (bm_nw (bm_sr w3 p0 2 (some (bm_sz (bm_sr w2 p0 1 (some (bm_sz (bm_sr w1 p0 0 (some (bm_sz w))))))))) 0 0 6) p0 = 11 ∧ bm_gr (bm_nw (bm_sr w3 p0 2 (some (bm_sz (bm_sr w2 p0 1 (some (bm_sz (bm_sr w1 p0 0 (some (bm_sz w))))))))) 0 0 6) p0 1 = some (bm_u (bm_gr (bm_nw (bm_sr w3 p0 2 (some (bm_sz (bm_sr w2 p0 1 (some (bm_sz (bm_sr w1 p0 0 (some (bm_sz w))))))))) 0 0 6) p0 1))) ∧
        (bm_kt (bm_nw (bm_sr w3 p0 2 (some (bm_sz (bm_sr w2 p0 1 (some (bm_sz (bm_sr w1 p0 0 (some (bm_sz w))))))))) 0 0 6) p0 = 11 ∧ bm_gr (bm_nw (bm_sr w3 p0 2 (some (bm_sz (bm_sr w2 p0 1 (some (bm_sz (bm_sr w1 p0 0 (some (bm_sz w))))))))) 0 0 6) p0 2 = some (bm_u (bm_gr (bm_nw (bm_sr w3 p0 2 (some (bm_sz (bm_sr w2 p0 1 (some (bm_sz (bm_sr w1 p0 0 (some (bm_sz w))))))))) 0 0 6) p0 2))) ∧
        (True) ∧ bm_Call bm_pg d y_X0_init [bm_r (some (bm_sz (bm_sr w3 p0 2 (some (bm_sz (bm_sr w2 p0 1 (some (bm_sz (bm_sr w1 p0 0 (some (bm_sz w))))))))))), bm_r (some (bm_u (bm_gr (bm_nw (bm_sr w3 p0 2 (some (bm_sz (bm_sr w2 p0 1 (some (bm_sz (bm_sr w1 p0 0 (some (bm_sz w))))))))) 0 0 6) p0 1))), bm_r (some (bm_u (bm_gr (bm_nw (bm_sr w3 p0 2 (some (bm_sz (bm_sr w2 p0 1 (some (bm_sz (bm_sr w1 p0 0 (some (bm_sz w))))))))) 0 0 6) p0 2)))] (bm_nw (bm_sr w3 p0 2 (some (bm_sz (bm_sr w2 p0 1 (some (bm_sz (bm_sr w1 p0 0 (some (bm_sz w))))))))) 0 0 6) (fun r4 w4 => 
          bm_c5 ((bm_kt w4 p0 = 11) ∧
          (bm_kt (bm_nw (bm_sr w4 p0 3 (some (bm_sz (bm_sr w3 p0 2 (some (bm_sz (bm_sr w2 p0 1 (some (bm_sz (bm_sr w1 p0 0 (some (bm_sz w)))))))))))) 2 0 7) p0 = 11 ∧ bm_gr (bm_nw (bm_sr w4 p0 3 (some (bm_sz (bm_sr w3 p0 2 (some (bm_sz (bm_sr w2 p0 1 (some (bm_sz (bm_sr w1 p0 0 (some (bm_sz w)))))))))))) 2 0 7) p0 2 = some (bm_u (bm_gr (bm_nw (bm_sr w4 p0 3 (some (bm_sz (bm_sr w3 p0 2 (some (bm_sz (bm_sr w2 p0 1 (some (bm_sz (bm_sr w1 p0 0 (some (bm_sz w)))))))))))) 2 0 7) p0 2))) ∧
          (True) ∧ bm_Call bm_pg d y_X2_init [bm_r (some (bm_sz (bm_sr w4 p0 3 (some (bm_sz (bm_sr w3 p0 2 (some (bm_sz (bm_sr w2 p0 1 (some (bm_sz (bm_sr w1 p0 0 (some (bm_sz w)))))))))))))), bm_r (some (bm_u (bm_gr (bm_nw (bm_sr w4 p0 3 (some (bm_sz (bm_sr w3 p0 2 (some (bm_sz (bm_sr w2 p0 1 (some (bm_sz (bm_sr w1 p0 0 (some (bm_sz w)))))))))))) 2 0 7) p0 2)))] (bm_nw (bm_sr w4 p0 3 (some (bm_sz (bm_sr w3 p0 2 (some (bm_sz (bm_sr w2 p0 1 (some (bm_sz (bm_sr w1 p0 0 (some (bm_sz w)))))))))))) 2 0 7) (fun r5 w5 => 
            bm_c5 ((bm_kt w5 p0 = 11) ∧
            (bm_kt (bm_nw (bm_sr w5 p0 4 (some (bm_sz (bm_sr w4 p0 3 (some (bm_sz (bm_sr w3 p0 2 (some (bm_sz (bm_sr w2 p0 1 (some (bm_sz (bm_sr w1 p0 0 (some (bm_sz w))))))))))))))) 6 0 3) p0 = 11 ∧ bm_gr (bm_nw (bm_sr w5 p0 4 (some (bm_sz (bm_sr w4 p0 3 (some (bm_sz (bm_sr w3 p0 2 (some (bm_sz (bm_sr w2 p0 1 (some (bm_sz (bm_sr w1 p0 0 (some (bm_sz w))))))))))))))) 6 0 3) p0 2 = some (bm_u (bm_gr (bm_nw (bm_sr w5 p0 4 (some (bm_sz (bm_sr w4 p0 3 (some (bm_sz (bm_sr w3 p0 2 (some (bm_sz (bm_sr w2 p0 1 (some (bm_sz (bm_sr w1 p0 0 (some (bm_sz w))))))))))))))) 6 0 3) p0 2))) ∧
            (bm_kt (bm_nw (bm_sr w5 p0 4 (some (bm_sz (bm_sr w4 p0 3 (some (bm_sz (bm_sr w3 p0 2 (some (bm_sz (bm_sr w2 p0 1 (some (bm_sz (bm_sr w1 p0 0 (some (bm_sz w))))))))))))))) 6 0 3) p0 = 11 ∧ bm_gr (bm_nw (bm_sr w5 p0 4 (some (bm_sz (bm_sr w4 p0 3 (some (bm_sz (bm_sr w3 p0 2 (some (bm_sz (bm_sr w2 p0 1 (some (bm_sz (bm_sr w1 p0 0 (some (bm_sz w))))))))))))))) 6 0 3) p0 4 = some (bm_u (bm_gr (bm_nw (bm_sr w5 p0 4 (some (bm_sz (bm_sr w4 p0 3 (some (bm_sz (bm_sr w3 p0 2 (some (bm_sz (bm_sr w2 p0 1 (some (bm_sz (bm_sr w1 p0 0 (some (bm_sz w))))))))))))))) 6 0 3) p0 4))) ∧
            (True) ∧ bm_Call bm_pg d y_X6_init [bm_r (some (bm_sz (bm_sr w5 p0 4 (some (bm_sz (bm_sr w4 p0 3 (some (bm_sz (bm_sr w3 p0 2 (some (bm_sz (bm_sr w2 p0 1 (some (bm_sz (bm_sr w1 p0 0 (some (bm_sz w))))))))))))))))), bm_r (some (bm_u (bm_gr (bm_nw (bm_sr w5 p0 4 (some (bm_sz (bm_sr w4 p0 3 (some (bm_sz (bm_sr w3 p0 2 (some (bm_sz (bm_sr w2 p0 1 (some (bm_sz (bm_sr w1 p0 0 (some (bm_sz w))))))))))))))) 6 0 3) p0 2))), bm_r (some (bm_u (bm_gr (bm_nw (bm_sr w5 p0 4 (some (bm_sz (bm_sr w4 p0 3 (some (bm_sz (bm_sr w3 p0 2 (some (bm_sz (bm_sr w2 p0 1 (some (bm_sz (bm_sr w1 p0 0 (some (bm_sz w))))))))))))))) 6 0 3) p0 4)))] (bm_nw (bm_sr w5 p0 4 (some (bm_sz (bm_sr w4 p0 3 (some (bm_sz (bm_sr w3 p0 2 (some (bm_sz (bm_sr w2 p0 1 (some (bm_sz (bm_sr w1 p0 0 (some (bm_sz w))))))))))))))) 6 0 3) (fun r6 w6 => 
              bm_c5 ((bm_kt w6 p0 = 11) ∧
              (True) ∧ bm_Call bm_pg d y_X10_init [bm_r (some (bm_sz (bm_sr w6 p0 5 (some (bm_sz (bm_sr w5 p0 4 (some (bm_sz (bm_sr w4 p0 3 (some (bm_sz (bm_sr w3 p0 2 (some (bm_sz (bm_sr w2 p0 1 (some (bm_sz (bm_sr w1 p0 0 (some (bm_sz w))))))))))))))))))))] (bm_nw (bm_sr w6 p0 5 (some (bm_sz (bm_sr w5 p0 4 (some (bm_sz (bm_sr w4 p0 3 (some (bm_sz (bm_sr w3 p0 2 (some (bm_sz (bm_sr w2 p0 1 (some (bm_sz (bm_sr w1 p0 0 (some (bm_sz w)))))))))))))))))) 10 0 6) (fun r7 w7 => 
                bm_c5 ((bm_kt w7 p0 = 11) ∧
                (bm_kt (bm_sr w7 p0 6 (some (bm_sz (bm_sr w6 p0 5 (some (bm_sz (bm_sr w5 p0 4 (some (bm_sz (bm_sr w4 p0 3 (some (bm_sz (bm_sr w3 p0 2 (some (bm_sz (bm_sr w2 p0 1 (some (bm_sz (bm_sr w1 p0 0 (some (bm_sz w))))))))))))))))))))) p0 = 11) ∧
                Φ (.inl none) (bm_si (bm_sr w7 p0 6 (some (bm_sz (bm_sr w6 p0 5 (some (bm_sz (bm_sr w5 p0 4 (some (bm_sz (bm_sr w4 p0 3 (some (bm_sz (bm_sr w3 p0 2 (some (bm_sz (bm_sr w2 p0 1 (some (bm_sz (bm_sr w1 p0 0 (some (bm_sz w))))))))))))))))))))) p0 7 (-1 : Int))) r7)) r6)) r5)) r4)) r3)) r2)) r1)) : bm_Call bm_pg (d + 1) y_X11_init [bm_r (some p0)] w Φ := bm_enter rfl (bm_go (bm_Call_mono _ _) [] 55 _ h)
/-! CaseTables.feed(IIIII)I -/
set_option maxRecDepth 20000 in
theorem vc_X11_feed {d : Nat} {Φ : bm_Rt → bm_W → Prop} {p0 : Nat} {p1 : Int} {p2 : Int} {p3 : Int} {p4 : Int} {p5 : Int} {w : bm_W} (h :
  (bm_kt w p0 = 11 ∧ bm_gr w p0 0 = some (bm_u (bm_gr w p0 0))) ∧
  (bm_kt w (bm_u (bm_gr w p0 0)) = 8) ∧ bm_Call bm_pg d y_X8_room [bm_r (some (bm_u (bm_gr w p0 0)))] w (fun r1 w1 => 
    bm_c1 (fun x1 => (if (decide ((20 : Int) ≤ x1)) = true then
      (bm_kt w1 p0 = 11 ∧ bm_gr w1 p0 0 = some (bm_u (bm_gr w1 p0 0))) ∧
      (bm_kt w1 (bm_u (bm_gr w1 p0 0)) = 8) ∧ bm_Call bm_pg d y_X8_append [bm_r (some (bm_u (bm_gr w1 p0 0))), bm_i p1] w1 (fun r2 w2 => 
        bm_c0 ((bm_kt w2 p0 = 11 ∧ bm_gr w2 p0 0 = some (bm_u (bm_gr w2 p0 0))) ∧
        (bm_kt w2 (bm_u (bm_gr w2 p0 0)) = 8) ∧ bm_Call bm_pg d y_X8_append [bm_r (some (bm_u (bm_gr w2 p0 0))), bm_i p2] w2 (fun r3 w3 => 
          bm_c0 ((bm_kt w3 p0 = 11 ∧ bm_gr w3 p0 0 = some (bm_u (bm_gr w3 p0 0))) ∧
          (bm_kt w3 (bm_u (bm_gr w3 p0 0)) = 8) ∧ bm_Call bm_pg d y_X8_append [bm_r (some (bm_u (bm_gr w3 p0 0))), bm_i p3] w3 (fun r4 w4 => 
            bm_c0 ((bm_kt w4 p0 = 11 ∧ bm_gr w4 p0 0 = some (bm_u (bm_gr w4 p0 0))) ∧
            (bm_kt w4 (bm_u (bm_gr w4 p0 0)) = 8) ∧ bm_Call bm_pg d y_X8_append [bm_r (some (bm_u (bm_gr w4 p0 0))), bm_i p4] w4 (fun r5 w5 => 
              bm_c0 ((bm_kt w5 p0 = 11 ∧ bm_gr w5 p0 0 = some (bm_u (bm_gr w5 p0 0))) ∧
              (bm_kt w5 (bm_u (bm_gr w5 p0 0)) = 8) ∧ bm_Call bm_pg d y_X8_append [bm_r (some (bm_u (bm_gr w5 p0 0))), bm_i p5] w5 (fun r6 w6 => 
                bm_c0 ((bm_kt w6 p0 = 11 ∧ bm_gr w6 p0 0 = some (bm_u (bm_gr w6 p0 0))) ∧
                (bm_kt w6 (bm_u (bm_gr w6 p0 0)) = 8) ∧ bm_Call bm_pg d y_X8_length [bm_r (some (bm_u (bm_gr w6 p0 0)))] w6 (fun r7 w7 => 
                  bm_c1 (fun x7 => Φ (.inl (some (bm_i x7))) w7) (fun E => Φ (.inr E) w7) r7)) (fun E => Φ (.inr E) w6) r6)) (fun E => Φ (.inr E) w5) r5)) (fun E => Φ (.inr E) w4) r4)) (fun E => Φ (.inr E) w3) r3)) (fun E => Φ (.inr E) w2) r2)
    else
      Φ (.inr "java/lang/IllegalStateException") (bm_tw w1))) (fun E => Φ (.inr E) w1) r1)) : bm_Call bm_pg (d + 1) y_X11_feed [bm_r (some p0), bm_i p1, bm_i p2, bm_i p3, bm_i p4, bm_i p5] w Φ := bm_enter rfl (bm_go (bm_Call_mono _ _) [] 32 _ h)
/-! CaseTables.trim(I)I -/
set_option maxRecDepth 20000 in
theorem vc_X11_trim {d : Nat} {Φ : bm_Rt → bm_W → Prop} {p0 : Nat} {p1 : Int} {w : bm_W} (h :
  (if (decide (p1 < 0)) = true then
    Φ (.inr "java/lang/IllegalArgumentException") (bm_tw w)
  else
    (bm_kt w p0 = 11 ∧ bm_gr w p0 0 = some (bm_u (bm_gr w p0 0))) ∧
    (bm_kt w (bm_u (bm_gr w p0 0)) = 8) ∧ bm_Call bm_pg d y_X8_length [bm_r (some (bm_u (bm_gr w p0 0)))] w (fun r1 w1 => 
      bm_c1 (fun x1 => (if (decide (p1 ≤ x1)) = true then
        (bm_kt w1 p0 = 11 ∧ bm_gr w1 p0 0 = some (bm_u (bm_gr w1 p0 0))) ∧
        (bm_kt w1 (bm_u (bm_gr w1 p0 0)) = 8) ∧ bm_Call bm_pg d y_X8_cutTo [bm_r (some (bm_u (bm_gr w1 p0 0))), bm_i p1] w1 (fun r2 w2 => 
          bm_c0 (Φ (.inl (some (bm_i p1))) w2) (fun E => Φ (.inr E) w2) r2)
      else
        Φ (.inr "java/lang/IllegalArgumentException") (bm_tw w1))) (fun E => Φ (.inr E) w1) r1))) : bm_Call bm_pg (d + 1) y_X11_trim [bm_r (some p0), bm_i p1] w Φ := bm_enter rfl (bm_go (bm_Call_mono _ _) [] 16 _ h)
/-! CaseTables.compile()I -/
set_option maxRecDepth 20000 in
theorem vc_X11_compile {d : Nat} {Φ : bm_Rt → bm_W → Prop} {p0 : Nat} {w : bm_W} (h :
  (bm_kt w p0 = 11 ∧ bm_gr w p0 1 = some (bm_u (bm_gr w p0 1))) ∧
  (bm_kt w (bm_u (bm_gr w p0 1)) = 9) ∧ bm_Call bm_pg d y_X9_scan [bm_r (some (bm_u (bm_gr w p0 1)))] w (fun r1 w1 => 
    bm_c0 ((bm_kt w1 p0 = 11 ∧ bm_gr w1 p0 3 = some (bm_u (bm_gr w1 p0 3))) ∧
    (bm_kt w1 (bm_u (bm_gr w1 p0 3)) = 0) ∧ bm_Call bm_pg d y_X0_translate [bm_r (some (bm_u (bm_gr w1 p0 3)))] w1 (fun r2 w2 => 
      bm_c1 (fun x2 => (bm_kt w2 p0 = 11 ∧ bm_gr w2 p0 3 = some (bm_u (bm_gr w2 p0 3))) ∧
      (bm_kt w2 (bm_u (bm_gr w2 p0 3)) = 0) ∧ bm_Call bm_pg d y_X0_errorPlace [bm_r (some (bm_u (bm_gr w2 p0 3)))] w2 (fun r3 w3 => 
        bm_c1 (fun x3 => (bm_kt w3 p0 = 11) ∧
        (bm_kt (bm_si w3 p0 7 x3) p0 = 11 ∧ bm_gr (bm_si w3 p0 7 x3) p0 5 = some (bm_u (bm_gr (bm_si w3 p0 7 x3) p0 5))) ∧
        (bm_kt (bm_si w3 p0 7 x3) (bm_u (bm_gr (bm_si w3 p0 7 x3) p0 5)) = 6) ∧ bm_Call bm_pg d y_X6_forget [bm_r (some (bm_u (bm_gr (bm_si w3 p0 7 x3) p0 5)))] (bm_si w3 p0 7 x3) (fun r4 w4 => 
          bm_c0 ((bm_kt w4 p0 = 11 ∧ bm_gr w4 p0 0 = some (bm_u (bm_gr w4 p0 0))) ∧
          (bm_kt w4 (bm_u (bm_gr w4 p0 0)) = 8) ∧ bm_Call bm_pg d y_X8_cutTo [bm_r (some (bm_u (bm_gr w4 p0 0))), bm_i (0 : Int)] w4 (fun r5 w5 => 
            bm_c0 (Φ (.inl (some (bm_i x2))) w5) (fun E => Φ (.inr E) w5) r5)) (fun E => Φ (.inr E) w4) r4)) (fun E => Φ (.inr E) w3) r3)) (fun E => Φ (.inr E) w2) r2)) (fun E => Φ (.inr E) w1) r1)) : bm_Call bm_pg (d + 1) y_X11_compile [bm_r (some p0)] w Φ := bm_enter rfl (bm_go (bm_Call_mono _ _) [] 23 _ h)
/-! CaseTables.count(I)I -/
set_option maxRecDepth 20000 in
theorem vc_X11_count {d : Nat} {Φ : bm_Rt → bm_W → Prop} {p0 : Nat} {p1 : Int} {w : bm_W} (h :
  (if p1 = 0 then
    (bm_kt w p0 = 11 ∧ bm_gr w p0 2 = some (bm_u (bm_gr w p0 2))) ∧
    (bm_kt w (bm_u (bm_gr w p0 2)) = 3) ∧
    Φ (.inl (some (bm_i (bm_gi w (bm_u (bm_gr w p0 2)) 4)))) w
  else (if p1 = 1 then
    (bm_kt w p0 = 11 ∧ bm_gr w p0 2 = some (bm_u (bm_gr w p0 2))) ∧
    (bm_kt w (bm_u (bm_gr w p0 2)) = 3) ∧
    Φ (.inl (some (bm_i (bm_gi w (bm_u (bm_gr w p0 2)) 5)))) w
  else (if p1 = 2 then
    (bm_kt w p0 = 11 ∧ bm_gr w p0 2 = some (bm_u (bm_gr w p0 2))) ∧
    (bm_kt w (bm_u (bm_gr w p0 2)) = 3) ∧
    Φ (.inl (some (bm_i (bm_gi w (bm_u (bm_gr w p0 2)) 6)))) w
  else (if p1 = 3 then
    (bm_kt w p0 = 11 ∧ bm_gr w p0 2 = some (bm_u (bm_gr w p0 2))) ∧
    (bm_kt w (bm_u (bm_gr w p0 2)) = 3) ∧ bm_Call bm_pg d y_X3_caseCount [bm_r (some (bm_u (bm_gr w p0 2)))] w (fun r1 w1 => 
      bm_c1 (fun x1 => Φ (.inl (some (bm_i x1))) w1) (fun E => Φ (.inr E) w1) r1)
  else (if p1 = 4 then
    (bm_kt w p0 = 11 ∧ bm_gr w p0 0 = some (bm_u (bm_gr w p0 0))) ∧
    (bm_kt w (bm_u (bm_gr w p0 0)) = 8) ∧ bm_Call bm_pg d y_X8_length [bm_r (some (bm_u (bm_gr w p0 0)))] w (fun r2 w2 => 
      bm_c1 (fun x2 => Φ (.inl (some (bm_i x2))) w2) (fun E => Φ (.inr E) w2) r2)
  else Φ (.inr "java/lang/IndexOutOfBoundsException") (bm_tw w))))))) : bm_Call bm_pg (d + 1) y_X11_count [bm_r (some p0), bm_i p1] w Φ := bm_enter rfl (bm_go (bm_Call_mono _ _) [] 25 _ h)
/-! CaseTables.fun(II)I -/
set_option maxRecDepth 20000 in
theorem vc_X11_fun {d : Nat} {Φ : bm_Rt → bm_W → Prop} {p0 : Nat} {p1 : Int} {p2 : Int} {w : bm_W} (h :
  (bm_kt w p0 = 11) ∧ bm_Call bm_pg d y_X11_existingFun [bm_r (some p0), bm_i p1] w (fun r1 w1 => 
    bm_c3 (fun x1 => (if p2 = 0 then
      (bm_kt w1 x1 = 1) ∧
      Φ (.inl (some (bm_i (bm_gi w1 x1 6)))) w1
    else (if p2 = 1 then
      (bm_kt w1 x1 = 1) ∧
      Φ (.inl (some (bm_i (bm_gi w1 x1 8)))) w1
    else (if p2 = 2 then
      (bm_kt w1 p0 = 11 ∧ bm_gr w1 p0 2 = some (bm_u (bm_gr w1 p0 2))) ∧
      (bm_kt w1 (bm_u (bm_gr w1 p0 2)) = 3) ∧ bm_Call bm_pg d y_X3_tablesOf [bm_r (some (bm_u (bm_gr w1 p0 2))), bm_i p1] w1 (fun r2 w2 => 
        bm_c1 (fun x2 => Φ (.inl (some (bm_i x2))) w2) (fun E => Φ (.inr E) w2) r2)
    else (if p2 = 3 then
      (bm_kt w1 x1 = 1 ∧ bm_gr w1 x1 1 = some (bm_u (bm_gr w1 x1 1))) ∧
      (bm_kt w1 (bm_u (bm_gr w1 x1 1)) = 4) ∧ bm_Call bm_pg d y_X4_rowCount [bm_r (some (bm_u (bm_gr w1 x1 1)))] w1 (fun r3 w3 => 
        bm_c1 (fun x3 => Φ (.inl (some (bm_i x3))) w3) (fun E => Φ (.inr E) w3) r3)
    else (if p2 = 4 then
      (bm_kt w1 x1 = 1) ∧ bm_Call bm_pg d y_X1_pairCount [bm_r (some x1)] w1 (fun r4 w4 => 
        bm_c1 (fun x4 => Φ (.inl (some (bm_i x4))) w4) (fun E => Φ (.inr E) w4) r4)
    else (if p2 = 5 then
      (bm_kt w1 p0 = 11) ∧ bm_Call bm_pg d y_X11_findUntried [bm_r (some p0), bm_i p1] w1 (fun r5 w5 => 
        bm_c0 ((bm_kt w5 p0 = 11 ∧ bm_gr w5 p0 6 = some (bm_u (bm_gr w5 p0 6))) ∧
        (bm_kt w5 (bm_u (bm_gr w5 p0 6)) = 10) ∧ bm_Call bm_pg d y_X10_pairCount [bm_r (some (bm_u (bm_gr w5 p0 6)))] w5 (fun r6 w6 => 
          bm_c1 (fun x6 => Φ (.inl (some (bm_i x6))) w6) (fun E => Φ (.inr E) w6) r6)) (fun E => Φ (.inr E) w5) r5)
    else Φ (.inr "java/lang/IndexOutOfBoundsException") (bm_tw w1)))))))) (fun E => Φ (.inr E) w1) r1)) : bm_Call bm_pg (d + 1) y_X11_fun [bm_r (some p0), bm_i p1, bm_i p2] w Φ := bm_enter rfl (bm_go (bm_Call_mono _ _) [] 34 _ h)
/-! CaseTables.propose(I)I -/
set_option maxRecDepth 20000 in
theorem vc_X11_propose {d : Nat} {Φ : bm_Rt → bm_W → Prop} {p0 : Nat} {p1 : Int} {w : bm_W} (h :
  (bm_kt w p0 = 11) ∧ bm_Call bm_pg d y_X11_existingFun [bm_r (some p0), bm_i p1] w (fun r1 w1 => 
    bm_c3 (fun x1 => (bm_kt w1 p0 = 11) ∧ bm_Call bm_pg d y_X11_findUntried [bm_r (some p0), bm_i p1] w1 (fun r2 w2 => 
      bm_c0 ((bm_kt w2 p0 = 11 ∧ bm_gr w2 p0 6 = some (bm_u (bm_gr w2 p0 6))) ∧
      (bm_kt w2 (bm_u (bm_gr w2 p0 6)) = 10) ∧ bm_Call bm_pg d y_X10_bestRow [bm_r (some (bm_u (bm_gr w2 p0 6)))] w2 (fun r3 w3 => 
        bm_c1 (fun x3 => Φ (.inl (some (bm_i x3))) w3) (fun E => Φ (.inr E) w3) r3)) (fun E => Φ (.inr E) w2) r2)) (fun E => Φ (.inr E) w1) r1)) : bm_Call bm_pg (d + 1) y_X11_propose [bm_r (some p0), bm_i p1] w Φ := bm_enter rfl (bm_go (bm_Call_mono _ _) [] 13 _ h)
/-! CaseTables.table(II)I -/
set_option maxRecDepth 20000 in
theorem vc_X11_table {d : Nat} {Φ : bm_Rt → bm_W → Prop} {p0 : Nat} {p1 : Int} {p2 : Int} {w : bm_W} (h :
  (bm_kt w p0 = 11) ∧ bm_Call bm_pg d y_X11_existingTable [bm_r (some p0), bm_i p1] w (fun r1 w1 => 
    bm_c3 (fun x1 => (True) ∧ bm_Call bm_pg d y_X11_requireBelow [bm_i p2, bm_i (5 : Int)] w1 (fun r2 w2 => 
      bm_c0 ((if (decide (p2 < (3 : Int))) = true then
        (bm_kt w2 x1 = 7) ∧ bm_Call bm_pg d y_X7_tell [bm_r (some x1), bm_i p2] w2 (fun r3 w3 => 
          bm_c1 (fun x3 => Φ (.inl (some (bm_i x3))) w3) (fun E => Φ (.inr E) w3) r3)
      else
        (bm_kt w2 p0 = 11 ∧ bm_gr w2 p0 5 = some (bm_u (bm_gr w2 p0 5))) ∧
        (bm_kt w2 (bm_u (bm_gr w2 p0 5)) = 6) ∧ bm_Call bm_pg d y_X6_refresh [bm_r (some (bm_u (bm_gr w2 p0 5)))] w2 (fun r4 w4 => 
          bm_c0 ((bm_kt w4 x1 = 7) ∧ bm_Call bm_pg d y_X7_tell [bm_r (some x1), bm_i p2] w4 (fun r5 w5 => 
            bm_c1 (fun x5 => Φ (.inl (some (bm_i x5))) w5) (fun E => Φ (.inr E) w5) r5)) (fun E => Φ (.inr E) w4) r4))) (fun E => Φ (.inr E) w2) r2)) (fun E => Φ (.inr E) w1) r1)) : bm_Call bm_pg (d + 1) y_X11_table [bm_r (some p0), bm_i p1, bm_i p2] w Φ := bm_enter rfl (bm_go (bm_Call_mono _ _) [] 19 _ h)
/-! CaseTables.holds(II)Z -/
set_option maxRecDepth 20000 in
theorem vc_X11_holds {d : Nat} {Φ : bm_Rt → bm_W → Prop} {p0 : Nat} {p1 : Int} {p2 : Int} {w : bm_W} (h :
  (bm_kt w p0 = 11) ∧ bm_Call bm_pg d y_X11_existingTable [bm_r (some p0), bm_i p1] w (fun r1 w1 => 
    bm_c3 (fun x1 => (bm_kt w1 x1 = 7) ∧
    (True) ∧ bm_Call bm_pg d y_X11_requireBelow [bm_i p2, bm_i (bm_gi w1 x1 6)] w1 (fun r2 w2 => 
      bm_c0 ((bm_kt w2 p0 = 11 ∧ bm_gr w2 p0 5 = some (bm_u (bm_gr w2 p0 5))) ∧
      (bm_kt w2 (bm_u (bm_gr w2 p0 5)) = 6) ∧ bm_Call bm_pg d y_X6_refresh [bm_r (some (bm_u (bm_gr w2 p0 5)))] w2 (fun r3 w3 => 
        bm_c0 ((bm_kt w3 x1 = 7) ∧ bm_Call bm_pg d y_X7_isHolding [bm_r (some x1), bm_i p2] w3 (fun r4 w4 => 
          bm_c1 (fun x4 => (x4 = 0 ∨ x4 = 1) ∧ Φ (.inl (some (bm_i x4))) w4) (fun E => Φ (.inr E) w4) r4)) (fun E => Φ (.inr E) w3) r3)) (fun E => Φ (.inr E) w2) r2)) (fun E => Φ (.inr E) w1) r1)) : bm_Call bm_pg (d + 1) y_X11_holds [bm_r (some p0), bm_i p1, bm_i p2] w Φ := bm_enter rfl (bm_go (bm_Call_mono _ _) [] 17 _ h)
/-! CaseTables.taken(IZ)I -/
set_option maxRecDepth 20000 in
theorem vc_X11_taken {d : Nat} {Φ : bm_Rt → bm_W → Prop} {p0 : Nat} {p1 : Int} {p2 : Int} {w : bm_W} (h :
  (bm_kt w p0 = 11 ∧ bm_gr w p0 2 = some (bm_u (bm_gr w p0 2))) ∧
  (bm_kt w (bm_u (bm_gr w p0 2)) = 3) ∧
  (True) ∧ bm_Call bm_pg d y_X11_requireBelow [bm_i p1, bm_i (bm_gi w (bm_u (bm_gr w p0 2)) 6)] w (fun r1 w1 => 
    bm_c0 ((bm_kt w1 p0 = 11 ∧ bm_gr w1 p0 5 = some (bm_u (bm_gr w1 p0 5))) ∧
    (bm_kt w1 (bm_u (bm_gr w1 p0 5)) = 6) ∧ bm_Call bm_pg d y_X6_refresh [bm_r (some (bm_u (bm_gr w1 p0 5)))] w1 (fun r2 w2 => 
      bm_c0 ((bm_kt w2 p0 = 11 ∧ bm_gr w2 p0 4 = some (bm_u (bm_gr w2 p0 4))) ∧
      (bm_kt w2 (bm_u (bm_gr w2 p0 4)) = 2) ∧ bm_Call bm_pg d y_X2_branchCount [bm_r (some (bm_u (bm_gr w2 p0 4))), bm_i p1, bm_i p2] w2 (fun r3 w3 => 
        bm_c1 (fun x3 => Φ (.inl (some (bm_i x3))) w3) (fun E => Φ (.inr E) w3) r3)) (fun E => Φ (.inr E) w2) r2)) (fun E => Φ (.inr E) w1) r1)) : bm_Call bm_pg (d + 1) y_X11_taken [bm_r (some p0), bm_i p1, bm_i p2] w Φ := bm_enter rfl (bm_go (bm_Call_mono _ _) [] 16 _ h)
/-! CaseTables.finds(II)Z -/
set_option maxRecDepth 20000 in
theorem vc_X11_finds {d : Nat} {Φ : bm_Rt → bm_W → Prop} {p0 : Nat} {p1 : Int} {p2 : Int} {w : bm_W} (h :
  (bm_kt w p0 = 11) ∧ bm_Call bm_pg d y_X11_existingTable [bm_r (some p0), bm_i p1] w (fun r1 w1 => 
    bm_c3 (fun x1 => (bm_kt w1 p0 = 11 ∧ bm_gr w1 p0 2 = some (bm_u (bm_gr w1 p0 2))) ∧
    (bm_kt w1 x1 = 7) ∧
    (bm_kt w1 (bm_u (bm_gr w1 p0 2)) = 3) ∧ bm_Call bm_pg d y_X3_funAt [bm_r (some (bm_u (bm_gr w1 p0 2))), bm_i (bm_gi w1 x1 4)] w1 (fun r2 w2 => 
      bm_c3 (fun x2 => (bm_kt w2 x2 = 1) ∧
      (True) ∧ bm_Call bm_pg d y_X11_requireBelow [bm_i p2, bm_i (bm_gi w2 x2 8)] w2 (fun r3 w3 => 
        bm_c0 ((bm_kt w3 p0 = 11 ∧ bm_gr w3 p0 5 = some (bm_u (bm_gr w3 p0 5))) ∧
        (bm_kt w3 (bm_u (bm_gr w3 p0 5)) = 6) ∧ bm_Call bm_pg d y_X6_changesFound [bm_r (some (bm_u (bm_gr w3 p0 5))), bm_r (some x1), bm_r (none : Option Nat)] w3 (fun r4 w4 => 
          bm_c2 (fun x4 => (if (decide (((Int64.ofInt ((Int64.ofInt x4 >>> ((Int32.ofInt p2).toInt64 &&& 63)).toInt) &&& Int64.ofInt (1 : Int)).toInt) = (0 : Int))) = true then
            ((0 : Int) = 0 ∨ (0 : Int) = 1) ∧ Φ (.inl (some (bm_i (0 : Int)))) w4
          else
            ((1 : Int) = 0 ∨ (1 : Int) = 1) ∧ Φ (.inl (some (bm_i (1 : Int)))) w4)) (fun E => Φ (.inr E) w4) r4)) (fun E => Φ (.inr E) w3) r3)) (fun E => Φ (.inr E) w2) r2)) (fun E => Φ (.inr E) w1) r1)) : bm_Call bm_pg (d + 1) y_X11_finds [bm_r (some p0), bm_i p1, bm_i p2] w Φ := bm_enter rfl (bm_go (bm_Call_mono _ _) [] 29 _ h)
/-! CaseTables.score(I)D -/
set_option maxRecDepth 20000 in
theorem vc_X11_score {d : Nat} {Φ : bm_Rt → bm_W → Prop} {p0 : Nat} {p1 : Int} {w : bm_W} (h :
  (bm_kt w p0 = 11) ∧ bm_Call bm_pg d y_X11_existingTable [bm_r (some p0), bm_i p1] w (fun r1 w1 => 
    bm_c3 (fun x1 => (bm_kt w1 p0 = 11 ∧ bm_gr w1 p0 2 = some (bm_u (bm_gr w1 p0 2))) ∧
    (bm_kt w1 x1 = 7) ∧
    (bm_kt w1 (bm_u (bm_gr w1 p0 2)) = 3) ∧ bm_Call bm_pg d y_X3_funAt [bm_r (some (bm_u (bm_gr w1 p0 2))), bm_i (bm_gi w1 x1 4)] w1 (fun r2 w2 => 
      bm_c3 (fun x2 => (bm_kt w2 x2 = 1) ∧
      (if (!decide ((bm_gi w2 x2 8) = 0)) = true then
        (bm_kt w2 p0 = 11 ∧ bm_gr w2 p0 5 = some (bm_u (bm_gr w2 p0 5))) ∧
        (bm_kt w2 (bm_u (bm_gr w2 p0 5)) = 6) ∧ bm_Call bm_pg d y_X6_changesFound [bm_r (some (bm_u (bm_gr w2 p0 5))), bm_r (some x1), bm_r (none : Option Nat)] w2 (fun r3 w3 => 
          bm_c2 (fun x3 => (True) ∧ bm_Call bm_pg d y_J13_bitCount_95d88 [bm_l x3] w3 (fun r4 w4 => 
            bm_c1 (fun x4 => (vf_n64 (FP.ddiv (FP.i2d (Int32.ofInt x4)) (FP.i2d (Int32.ofInt (bm_gi w2 x2 8))))) ∧
            Φ (.inl (some (bm_d (FP.ddiv (FP.i2d (Int32.ofInt x4)) (FP.i2d (Int32.ofInt (bm_gi w2 x2 8))))))) w4) (fun E => Φ (.inr E) w4) r4)) (fun E => Φ (.inr E) w3) r3)
      else
        Φ (.inl (some (bm_d FP.dconst1))) w2)) (fun E => Φ (.inr E) w2) r2)) (fun E => Φ (.inr E) w1) r1)) : bm_Call bm_pg (d + 1) y_X11_score [bm_r (some p0), bm_i p1] w Φ := bm_enter rfl (bm_go (bm_Call_mono _ _) [] 28 _ h)
/-! CaseTables.grow(I)I -/
set_option maxRecDepth 20000 in
theorem vc_X11_grow {d : Nat} {Φ : bm_Rt → bm_W → Prop} {p0 : Nat} {p1 : Int} {w : bm_W} (h :
  (bm_kt w p0 = 11) ∧ bm_Call bm_pg d y_X11_existingTable [bm_r (some p0), bm_i p1] w (fun r1 w1 => 
    bm_c3 (fun x1 => (bm_kt w1 x1 = 7) ∧
    (bm_kt w1 p0 = 11) ∧ bm_Call bm_pg d y_X11_findUntried [bm_r (some p0), bm_i (bm_gi w1 x1 4)] w1 (fun r2 w2 => 
      bm_c0 ((bm_kt w2 p0 = 11 ∧ bm_gr w2 p0 6 = some (bm_u (bm_gr w2 p0 6))) ∧
      (bm_kt w2 (bm_u (bm_gr w2 p0 6)) = 10) ∧ bm_Call bm_pg d y_X10_bestRow [bm_r (some (bm_u (bm_gr w2 p0 6)))] w2 (fun r3 w3 => 
        bm_c1 (fun x3 => (if (decide (x3 < 0)) = true then
          Φ (.inr "java/lang/IllegalStateException") (bm_tw w3)
        else
          (bm_kt w3 x1 = 7) ∧
          (if (decide ((12 : Int) ≤ (bm_gi w3 x1 5))) = true then
            Φ (.inr "java/lang/IllegalStateException") (bm_tw w3)
          else
            (bm_kt w3 x1 = 7) ∧
            (if (decide ((bm_gi w3 x1 6) < (100 : Int))) = true then
              (bm_kt w3 p0 = 11) ∧ bm_Call bm_pg d y_X11_addCase [bm_r (some p0), bm_r (some x1), bm_i x3] w3 (fun r4 w4 => 
                bm_c0 ((bm_kt w4 p0 = 11 ∧ bm_gr w4 p0 5 = some (bm_u (bm_gr w4 p0 5))) ∧
                (bm_kt w4 (bm_u (bm_gr w4 p0 5)) = 6) ∧ bm_Call bm_pg d y_X6_forget [bm_r (some (bm_u (bm_gr w4 p0 5)))] w4 (fun r5 w5 => 
                  bm_c0 ((bm_kt w5 x1 = 7) ∧
                  Φ (.inl (some (bm_i (bm_gi w5 x1 6)))) w5) (fun E => Φ (.inr E) w5) r5)) (fun E => Φ (.inr E) w4) r4)
            else
              Φ (.inr "java/lang/IllegalStateException") (bm_tw w3))))) (fun E => Φ (.inr E) w3) r3)) (fun E => Φ (.inr E) w2) r2)) (fun E => Φ (.inr E) w1) r1)) : bm_Call bm_pg (d + 1) y_X11_grow [bm_r (some p0), bm_i p1] w Φ := bm_enter rfl (bm_go (bm_Call_mono _ _) [] 35 _ h)
/-! CaseTables.shorten(I)I -/
def bk_X11_shorten_13 (d : Nat) (Φ : bm_Rt → bm_W → Prop) (v0 : Nat) (v2 : Nat) (v3 : Int) (w : bm_W) : Prop := bm_Wp (bm_Call bm_pg d) tb_X11_shorten Φ (13, [some (bm_r (some v0)), none, some (bm_r (some v2)), some (bm_i v3), none, none], [], w)
set_option maxRecDepth 20000 in
theorem vc_X11_shorten {d : Nat} {Φ : bm_Rt → bm_W → Prop} {p0 : Nat} {p1 : Int} {w : bm_W} (h :
  (bm_kt w p0 = 11) ∧ bm_Call bm_pg d y_X11_existingTable [bm_r (some p0), bm_i p1] w (fun r1 w1 => 
    bm_c3 (fun x1 => (bm_kt w1 x1 = 7) ∧
    bk_X11_shorten_13 d Φ p0 x1 (bm_w ((bm_gi w1 x1 5) - (1 : Int))) w1) (fun E => Φ (.inr E) w1) r1)) : bm_Call bm_pg (d + 1) y_X11_shorten [bm_r (some p0), bm_i p1] w Φ := bm_enter rfl (bm_go (bm_Call_mono _ _) [13] 45 _ h)
set_option maxRecDepth 20000 in
theorem vb_X11_shorten_13 {d : Nat} {Φ : bm_Rt → bm_W → Prop} {v0 : Nat} {v2 : Nat} {v3 : Int} {w : bm_W} (h :
  (if (decide (v3 < 0)) = true then
    (bm_kt w v0 = 11 ∧ bm_gr w v0 5 = some (bm_u (bm_gr w v0 5))) ∧
    (bm_kt w (bm_u (bm_gr w v0 5)) = 6) ∧ bm_Call bm_pg d y_X6_forget [bm_r (some (bm_u (bm_gr w v0 5)))] w (fun r1 w1 => 
      bm_c0 ((bm_kt w1 v2 = 7) ∧
      Φ (.inl (some (bm_i (bm_gi w1 v2 5)))) w1) (fun E => Φ (.inr E) w1) r1)
  else
    (bm_kt w v2 = 7) ∧
    (if (decide ((bm_gi w v2 5) ≤ (1 : Int))) = true then
      (bm_kt w v0 = 11 ∧ bm_gr w v0 5 = some (bm_u (bm_gr w v0 5))) ∧
      (bm_kt w (bm_u (bm_gr w v0 5)) = 6) ∧ bm_Call bm_pg d y_X6_forget [bm_r (some (bm_u (bm_gr w v0 5)))] w (fun r2 w2 => 
        bm_c0 ((bm_kt w2 v2 = 7) ∧
        Φ (.inl (some (bm_i (bm_gi w2 v2 5)))) w2) (fun E => Φ (.inr E) w2) r2)
    else
      (bm_kt w v0 = 11 ∧ bm_gr w v0 5 = some (bm_u (bm_gr w v0 5))) ∧
      (bm_kt w v2 = 7) ∧ bm_Call bm_pg d y_X7_rowAt [bm_r (some v2), bm_i v3] w (fun r3 w3 => 
        bm_c3 (fun x3 => (bm_kt w3 (bm_u (bm_gr w v0 5)) = 6) ∧ bm_Call bm_pg d y_X6_changesFound [bm_r (some (bm_u (bm_gr w v0 5))), bm_r (some v2), bm_r (some x3)] w3 (fun r4 w4 => 
          bm_c2 (fun x4 => (True) ∧ bm_Call bm_pg d y_J13_bitCount_95d88 [bm_l x4] w4 (fun r5 w5 => 
            bm_c1 (fun x5 => (bm_kt w5 v0 = 11 ∧ bm_gr w5 v0 5 = some (bm_u (bm_gr w5 v0 5))) ∧
            (bm_kt w5 (bm_u (bm_gr w5 v0 5)) = 6) ∧ bm_Call bm_pg d y_X6_changesFound [bm_r (some (bm_u (bm_gr w5 v0 5))), bm_r (some v2), bm_r (none : Option Nat)] w5 (fun r6 w6 => 
              bm_c2 (fun x6 => (True) ∧ bm_Call bm_pg d y_J13_bitCount_95d88 [bm_l x6] w6 (fun r7 w7 => 
                bm_c1 (fun x7 => (if (!decide (x5 = x7)) = true then
                  bk_X11_shorten_13 d Φ v0 v2 (bm_w (v3 + (-1))) w7
                else
                  (bm_kt w7 v2 = 7) ∧ bm_Call bm_pg d y_X7_drop [bm_r (some v2), bm_i v3] w7 (fun r8 w8 => 
                    bm_c0 (bk_X11_shorten_13 d Φ v0 v2 (bm_w (v3 + (-1))) w8) (fun E => Φ (.inr E) w8) r8))) (fun E => Φ (.inr E) w7) r7)) (fun E => Φ (.inr E) w6) r6)) (fun E => Φ (.inr E) w5) r5)) (fun E => Φ (.inr E) w4) r4)) (fun E => Φ (.inr E) w3) r3)))) : bk_X11_shorten_13 d Φ v0 v2 v3 w := bm_go (bm_Call_mono _ _) [13] 45 _ h
/-! CaseTables.digest()J -/
def bk_X11_digest_13 (d : Nat) (Φ : bm_Rt → bm_W → Prop) (v0 : Nat) (v1 : Int) (v3 : Int) (w : bm_W) : Prop := bm_Wp (bm_Call bm_pg d) tb_X11_digest Φ (13, [some (bm_r (some v0)), some (bm_l v1), none, some (bm_i v3), none], [], w)
def bk_X11_digest_39 (d : Nat) (Φ : bm_Rt → bm_W → Prop) (v0 : Nat) (v1 : Int) (v3 : Int) (w : bm_W) : Prop := bm_Wp (bm_Call bm_pg d) tb_X11_digest Φ (39, [some (bm_r (some v0)), some (bm_l v1), none, some (bm_i v3), none], [], w)
def bk_X11_digest_53 (d : Nat) (Φ : bm_Rt → bm_W → Prop) (v0 : Nat) (v1 : Int) (v3 : Int) (v4 : Int) (w : bm_W) : Prop := bm_Wp (bm_Call bm_pg d) tb_X11_digest Φ (53, [some (bm_r (some v0)), some (bm_l v1), none, some (bm_i v3), some (bm_i v4)], [], w)
def bk_X11_digest_88 (d : Nat) (Φ : bm_Rt → bm_W → Prop) (v0 : Nat) (v1 : Int) (v3 : Int) (w : bm_W) : Prop := bm_Wp (bm_Call bm_pg d) tb_X11_digest Φ (88, [some (bm_r (some v0)), some (bm_l v1), none, some (bm_i v3), none], [], w)
def bk_X11_digest_121 (d : Nat) (Φ : bm_Rt → bm_W → Prop) (v0 : Nat) (v1 : Int) (v3 : Int) (w : bm_W) : Prop := bm_Wp (bm_Call bm_pg d) tb_X11_digest Φ (121, [some (bm_r (some v0)), some (bm_l v1), none, some (bm_i v3), none], [], w)
set_option maxRecDepth 20000 in
theorem vc_X11_digest {d : Nat} {Φ : bm_Rt → bm_W → Prop} {p0 : Nat} {w : bm_W} (h :
  (bm_kt w p0 = 11 ∧ bm_gr w p0 5 = some (bm_u (bm_gr w p0 5))) ∧
  (bm_kt w (bm_u (bm_gr w p0 5)) = 6) ∧ bm_Call bm_pg d y_X6_refresh [bm_r (some (bm_u (bm_gr w p0 5)))] w (fun r1 w1 => 
    bm_c0 (bk_X11_digest_13 d Φ p0 (373 : Int) (0 : Int) w1) (fun E => Φ (.inr E) w1) r1)) : bm_Call bm_pg (d + 1) y_X11_digest [bm_r (some p0)] w Φ := bm_enter rfl (bm_go (bm_Call_mono _ _) [13, 39, 53, 88, 121] 99 _ h)
set_option maxRecDepth 20000 in
theorem vb_X11_digest_13 {d : Nat} {Φ : bm_Rt → bm_W → Prop} {v0 : Nat} {v1 : Int} {v3 : Int} {w : bm_W} (h :
  (if (decide ((4 : Int) < v3)) = true then
    bk_X11_digest_39 d Φ v0 v1 (0 : Int) w
  else
    (bm_kt w v0 = 11) ∧ bm_Call bm_pg d y_X11_count [bm_r (some v0), bm_i v3] w (fun r1 w1 => 
      bm_c1 (fun x1 => bk_X11_digest_13 d Φ v0 (bm_x ((bm_x (v1 * (31 : Int))) + x1)) (bm_w (v3 + 1)) w1) (fun E => Φ (.inr E) w1) r1))) : bk_X11_digest_13 d Φ v0 v1 v3 w := bm_go (bm_Call_mono _ _) [13, 39, 53, 88, 121] 99 _ h
set_option maxRecDepth 20000 in
theorem vb_X11_digest_39 {d : Nat} {Φ : bm_Rt → bm_W → Prop} {v0 : Nat} {v1 : Int} {v3 : Int} {w : bm_W} (h :
  (bm_kt w v0 = 11 ∧ bm_gr w v0 2 = some (bm_u (bm_gr w v0 2))) ∧
  (bm_kt w (bm_u (bm_gr w v0 2)) = 3) ∧
  (if (decide ((bm_gi w (bm_u (bm_gr w v0 2)) 4) ≤ v3)) = true then
    bk_X11_digest_88 d Φ v0 v1 (0 : Int) w
  else
    bk_X11_digest_53 d Φ v0 v1 v3 (0 : Int) w)) : bk_X11_digest_39 d Φ v0 v1 v3 w := bm_go (bm_Call_mono _ _) [13, 39, 53, 88, 121] 99 _ h
set_option maxRecDepth 20000 in
theorem vb_X11_digest_53 {d : Nat} {Φ : bm_Rt → bm_W → Prop} {v0 : Nat} {v1 : Int} {v3 : Int} {v4 : Int} {w : bm_W} (h :
  (if (decide ((5 : Int) < v4)) = true then
    bk_X11_digest_39 d Φ v0 v1 (bm_w (v3 + 1)) w
  else
    (bm_kt w v0 = 11) ∧ bm_Call bm_pg d y_X11_fun [bm_r (some v0), bm_i v3, bm_i v4] w (fun r1 w1 => 
      bm_c1 (fun x1 => bk_X11_digest_53 d Φ v0 (bm_x ((bm_x (v1 * (31 : Int))) + x1)) v3 (bm_w (v4 + 1)) w1) (fun E => Φ (.inr E) w1) r1))) : bk_X11_digest_53 d Φ v0 v1 v3 v4 w := bm_go (bm_Call_mono _ _) [13, 39, 53, 88, 121] 99 _ h
set_option maxRecDepth 20000 in
theorem vb_X11_digest_88 {d : Nat} {Φ : bm_Rt → bm_W → Prop} {v0 : Nat} {v1 : Int} {v3 : Int} {w : bm_W} (h :
  (bm_kt w v0 = 11 ∧ bm_gr w v0 2 = some (bm_u (bm_gr w v0 2))) ∧
  (bm_kt w (bm_u (bm_gr w v0 2)) = 3) ∧
  (if (decide ((bm_gi w (bm_u (bm_gr w v0 2)) 5) ≤ v3)) = true then
    bk_X11_digest_121 d Φ v0 v1 (0 : Int) w
  else
    (bm_kt w v0 = 11 ∧ bm_gr w v0 2 = some (bm_u (bm_gr w v0 2))) ∧
    (bm_kt w (bm_u (bm_gr w v0 2)) = 3) ∧ bm_Call bm_pg d y_X3_tableAt [bm_r (some (bm_u (bm_gr w v0 2))), bm_i v3] w (fun r1 w1 => 
      bm_c3 (fun x1 => (bm_kt w1 v0 = 11) ∧ bm_Call bm_pg d y_X11_addTable [bm_r (some v0), bm_l v1, bm_r (some x1)] w1 (fun r2 w2 => 
        bm_c2 (fun x2 => bk_X11_digest_88 d Φ v0 x2 (bm_w (v3 + 1)) w2) (fun E => Φ (.inr E) w2) r2)) (fun E => Φ (.inr E) w1) r1))) : bk_X11_digest_88 d Φ v0 v1 v3 w := bm_go (bm_Call_mono _ _) [13, 39, 53, 88, 121] 99 _ h
set_option maxRecDepth 20000 in
theorem vb_X11_digest_121 {d : Nat} {Φ : bm_Rt → bm_W → Prop} {v0 : Nat} {v1 : Int} {v3 : Int} {w : bm_W} (h :
  (bm_kt w v0 = 11 ∧ bm_gr w v0 2 = some (bm_u (bm_gr w v0 2))) ∧
  (bm_kt w (bm_u (bm_gr w v0 2)) = 3) ∧
  (if (decide ((bm_gi w (bm_u (bm_gr w v0 2)) 6) ≤ v3)) = true then
    Φ (.inl (some (bm_l v1))) w
  else
    (bm_kt w v0 = 11 ∧ bm_gr w v0 4 = some (bm_u (bm_gr w v0 4))) ∧
    (bm_kt w (bm_u (bm_gr w v0 4)) = 2) ∧ bm_Call bm_pg d y_X2_branchCount [bm_r (some (bm_u (bm_gr w v0 4))), bm_i v3, bm_i (1 : Int)] w (fun r1 w1 => 
      bm_c1 (fun x1 => (bm_kt w1 v0 = 11 ∧ bm_gr w1 v0 4 = some (bm_u (bm_gr w1 v0 4))) ∧
      (bm_kt w1 (bm_u (bm_gr w1 v0 4)) = 2) ∧ bm_Call bm_pg d y_X2_branchCount [bm_r (some (bm_u (bm_gr w1 v0 4))), bm_i v3, bm_i (0 : Int)] w1 (fun r2 w2 => 
        bm_c1 (fun x2 => bk_X11_digest_121 d Φ v0 (bm_x ((bm_x ((bm_x ((bm_x (v1 * (31 : Int))) + x1)) * (31 : Int))) + x2)) (bm_w (v3 + 1)) w2) (fun E => Φ (.inr E) w2) r2)) (fun E => Φ (.inr E) w1) r1))) : bk_X11_digest_121 d Φ v0 v1 v3 w := bm_go (bm_Call_mono _ _) [13, 39, 53, 88, 121] 99 _ h
/-! CaseTables.addTable(JLCaseTables$Table;)J -/
def bk_X11_addTable_6 (d : Nat) (Φ : bm_Rt → bm_W → Prop) (v0 : Nat) (v3 : Nat) (v4 : Int) (v6 : Int) (w : bm_W) : Prop := bm_Wp (bm_Call bm_pg d) tb_X11_addTable Φ (6, [some (bm_r (some v0)), none, none, some (bm_r (some v3)), some (bm_l v4), none, some (bm_i v6), none, none], [], w)
def bk_X11_addTable_53 (d : Nat) (Φ : bm_Rt → bm_W → Prop) (v3 : Nat) (v4 : Int) (v6 : Int) (v7 : Int) (w : bm_W) : Prop := bm_Wp (bm_Call bm_pg d) tb_X11_addTable Φ (53, [none, none, none, some (bm_r (some v3)), some (bm_l v4), none, some (bm_i v6), some (bm_i v7), none], [], w)
def bk_X11_addTable_65 (d : Nat) (Φ : bm_Rt → bm_W → Prop) (v3 : Nat) (v4 : Int) (v6 : Int) (v7 : Int) (v8 : Int) (w : bm_W) : Prop := bm_Wp (bm_Call bm_pg d) tb_X11_addTable Φ (65, [none, none, none, some (bm_r (some v3)), some (bm_l v4), none, some (bm_i v6), some (bm_i v7), some (bm_i v8)], [], w)
set_option maxRecDepth 20000 in
theorem vc_X11_addTable {d : Nat} {Φ : bm_Rt → bm_W → Prop} {p0 : Nat} {p1 : Int} {p2 : Nat} {w : bm_W} (h :
  bk_X11_addTable_6 d Φ p0 p2 p1 (0 : Int) w) : bm_Call bm_pg (d + 1) y_X11_addTable [bm_r (some p0), bm_l p1, bm_r (some p2)] w Φ := bm_enter rfl (bm_go (bm_Call_mono _ _) [6, 53, 65] 54 _ h)
set_option maxRecDepth 20000 in
theorem vb_X11_addTable_6 {d : Nat} {Φ : bm_Rt → bm_W → Prop} {v0 : Nat} {v3 : Nat} {v4 : Int} {v6 : Int} {w : bm_W} (h :
  (if (decide ((4 : Int) < v6)) = true then
    (bm_kt w v0 = 11 ∧ bm_gr w v0 2 = some (bm_u (bm_gr w v0 2))) ∧
    (bm_kt w v3 = 7) ∧
    (bm_kt w (bm_u (bm_gr w v0 2)) = 3) ∧ bm_Call bm_pg d y_X3_funAt [bm_r (some (bm_u (bm_gr w v0 2))), bm_i (bm_gi w v3 4)] w (fun r1 w1 => 
      bm_c3 (fun x1 => (bm_kt w1 x1 = 1) ∧
      bk_X11_addTable_53 d Φ v3 v4 (bm_gi w1 x1 6) (0 : Int) w1) (fun E => Φ (.inr E) w1) r1)
  else
    (bm_kt w v3 = 7) ∧ bm_Call bm_pg d y_X7_tell [bm_r (some v3), bm_i v6] w (fun r2 w2 => 
      bm_c1 (fun x2 => bk_X11_addTable_6 d Φ v0 v3 (bm_x ((bm_x (v4 * (31 : Int))) + x2)) (bm_w (v6 + 1)) w2) (fun E => Φ (.inr E) w2) r2))) : bk_X11_addTable_6 d Φ v0 v3 v4 v6 w := bm_go (bm_Call_mono _ _) [6, 53, 65] 54 _ h
set_option maxRecDepth 20000 in
theorem vb_X11_addTable_53 {d : Nat} {Φ : bm_Rt → bm_W → Prop} {v3 : Nat} {v4 : Int} {v6 : Int} {v7 : Int} {w : bm_W} (h :
  (bm_kt w v3 = 7) ∧
  (if (decide ((bm_gi w v3 6) ≤ v7)) = true then
    Φ (.inl (some (bm_l v4))) w
  else
    bk_X11_addTable_65 d Φ v3 v4 v6 v7 (0 : Int) w)) : bk_X11_addTable_53 d Φ v3 v4 v6 v7 w := bm_go (bm_Call_mono _ _) [6, 53, 65] 54 _ h
set_option maxRecDepth 20000 in
theorem vb_X11_addTable_65 {d : Nat} {Φ : bm_Rt → bm_W → Prop} {v3 : Nat} {v4 : Int} {v6 : Int} {v7 : Int} {v8 : Int} {w : bm_W} (h :
  (if (decide (v6 ≤ v8)) = true then
    bk_X11_addTable_53 d Φ v3 v4 v6 (bm_w (v7 + 1)) w
  else
    (bm_kt w v3 = 7) ∧ bm_Call bm_pg d y_X7_valueAt [bm_r (some v3), bm_i v7, bm_i v8] w (fun r1 w1 => 
      bm_c1 (fun x1 => bk_X11_addTable_65 d Φ v3 (bm_x ((bm_x (v4 * (31 : Int))) + x1)) v6 v7 (bm_w (v8 + 1)) w1) (fun E => Φ (.inr E) w1) r1))) : bk_X11_addTable_65 d Φ v3 v4 v6 v7 v8 w := bm_go (bm_Call_mono _ _) [6, 53, 65] 54 _ h
/-! CaseTables.requireBelow(II)V -/
set_option maxRecDepth 20000 in
theorem vc_X11_requireBelow {d : Nat} {Φ : bm_Rt → bm_W → Prop} {p0 : Int} {p1 : Int} {w : bm_W} (h :
  (if (decide (p0 < 0)) = true then
    Φ (.inr "java/lang/IndexOutOfBoundsException") (bm_tw w)
  else
    (if (decide (p0 < p1)) = true then
      Φ (.inl none) w
    else
      Φ (.inr "java/lang/IndexOutOfBoundsException") (bm_tw w)))) : bm_Call bm_pg (d + 1) y_X11_requireBelow [bm_i p0, bm_i p1] w Φ := bm_enter rfl (bm_go (bm_Call_mono _ _) [] 9 _ h)
/-! CaseTables.existingFun(I)LCaseTables$Fun; -/
set_option maxRecDepth 20000 in
theorem vc_X11_existingFun {d : Nat} {Φ : bm_Rt → bm_W → Prop} {p0 : Nat} {p1 : Int} {w : bm_W} (h :
  (bm_kt w p0 = 11 ∧ bm_gr w p0 2 = some (bm_u (bm_gr w p0 2))) ∧
  (bm_kt w (bm_u (bm_gr w p0 2)) = 3) ∧
  (True) ∧ bm_Call bm_pg d y_X11_requireBelow [bm_i p1, bm_i (bm_gi w (bm_u (bm_gr w p0 2)) 4)] w (fun r1 w1 => 
    bm_c0 ((bm_kt w1 p0 = 11 ∧ bm_gr w1 p0 2 = some (bm_u (bm_gr w1 p0 2))) ∧
    (bm_kt w1 (bm_u (bm_gr w1 p0 2)) = 3) ∧ bm_Call bm_pg d y_X3_funAt [bm_r (some (bm_u (bm_gr w1 p0 2))), bm_i p1] w1 (fun r2 w2 => 
      bm_c3 (fun x2 => Φ (.inl (some (bm_r (some x2)))) w2) (fun E => Φ (.inr E) w2) r2)) (fun E => Φ (.inr E) w1) r1)) : bm_Call bm_pg (d + 1) y_X11_existingFun [bm_r (some p0), bm_i p1] w Φ := bm_enter rfl (bm_go (bm_Call_mono _ _) [] 12 _ h)
/-! CaseTables.existingTable(I)LCaseTables$Table; -/
set_option maxRecDepth 20000 in
theorem vc_X11_existingTable {d : Nat} {Φ : bm_Rt → bm_W → Prop} {p0 : Nat} {p1 : Int} {w : bm_W} (h :
  (bm_kt w p0 = 11 ∧ bm_gr w p0 2 = some (bm_u (bm_gr w p0 2))) ∧
  (bm_kt w (bm_u (bm_gr w p0 2)) = 3) ∧
  (True) ∧ bm_Call bm_pg d y_X11_requireBelow [bm_i p1, bm_i (bm_gi w (bm_u (bm_gr w p0 2)) 5)] w (fun r1 w1 => 
    bm_c0 ((bm_kt w1 p0 = 11 ∧ bm_gr w1 p0 2 = some (bm_u (bm_gr w1 p0 2))) ∧
    (bm_kt w1 (bm_u (bm_gr w1 p0 2)) = 3) ∧ bm_Call bm_pg d y_X3_tableAt [bm_r (some (bm_u (bm_gr w1 p0 2))), bm_i p1] w1 (fun r2 w2 => 
      bm_c3 (fun x2 => Φ (.inl (some (bm_r (some x2)))) w2) (fun E => Φ (.inr E) w2) r2)) (fun E => Φ (.inr E) w1) r1)) : bm_Call bm_pg (d + 1) y_X11_existingTable [bm_r (some p0), bm_i p1] w Φ := bm_enter rfl (bm_go (bm_Call_mono _ _) [] 12 _ h)
/-! CaseTables.findUntried(I)V -/
def bk_X11_findUntried_19 (d : Nat) (Φ : bm_Rt → bm_W → Prop) (v0 : Nat) (v1 : Int) (v2 : Nat) (v3 : Int) (w : bm_W) : Prop := bm_Wp (bm_Call bm_pg d) tb_X11_findUntried Φ (19, [some (bm_r (some v0)), some (bm_i v1), some (bm_r (some v2)), some (bm_i v3), none], [], w)
set_option maxRecDepth 20000 in
theorem vc_X11_findUntried {d : Nat} {Φ : bm_Rt → bm_W → Prop} {p0 : Nat} {p1 : Int} {w : bm_W} (h :
  (bm_kt w p0 = 11 ∧ bm_gr w p0 2 = some (bm_u (bm_gr w p0 2))) ∧
  (bm_kt w (bm_u (bm_gr w p0 2)) = 3) ∧ bm_Call bm_pg d y_X3_funAt [bm_r (some (bm_u (bm_gr w p0 2))), bm_i p1] w (fun r1 w1 => 
    bm_c3 (fun x1 => (bm_kt w1 p0 = 11 ∧ bm_gr w1 p0 6 = some (bm_u (bm_gr w1 p0 6))) ∧
    (bm_kt w1 (bm_u (bm_gr w1 p0 6)) = 10) ∧ bm_Call bm_pg d y_X10_begin [bm_r (some (bm_u (bm_gr w1 p0 6))), bm_r (some x1)] w1 (fun r2 w2 => 
      bm_c0 (bk_X11_findUntried_19 d Φ p0 p1 x1 (0 : Int) w2) (fun E => Φ (.inr E) w2) r2)) (fun E => Φ (.inr E) w1) r1)) : bm_Call bm_pg (d + 1) y_X11_findUntried [bm_r (some p0), bm_i p1] w Φ := bm_enter rfl (bm_go (bm_Call_mono _ _) [19] 36 _ h)
set_option maxRecDepth 20000 in
theorem vb_X11_findUntried_19 {d : Nat} {Φ : bm_Rt → bm_W → Prop} {v0 : Nat} {v1 : Int} {v2 : Nat} {v3 : Int} {w : bm_W} (h :
  (bm_kt w v0 = 11 ∧ bm_gr w v0 2 = some (bm_u (bm_gr w v0 2))) ∧
  (bm_kt w (bm_u (bm_gr w v0 2)) = 3) ∧
  (if (decide ((bm_gi w (bm_u (bm_gr w v0 2)) 5) ≤ v3)) = true then
    Φ (.inl none) w
  else
    (bm_kt w v0 = 11 ∧ bm_gr w v0 2 = some (bm_u (bm_gr w v0 2))) ∧
    (bm_kt w (bm_u (bm_gr w v0 2)) = 3) ∧ bm_Call bm_pg d y_X3_tableAt [bm_r (some (bm_u (bm_gr w v0 2))), bm_i v3] w (fun r1 w1 => 
      bm_c3 (fun x1 => (bm_kt w1 x1 = 7) ∧
      (if (!decide ((bm_gi w1 x1 4) = v1)) = true then
        bk_X11_findUntried_19 d Φ v0 v1 v2 (bm_w (v3 + 1)) w1
      else
        (bm_kt w1 v0 = 11 ∧ bm_gr w1 v0 6 = some (bm_u (bm_gr w1 v0 6))) ∧
        (bm_kt w1 v2 = 1 ∧ bm_gr w1 v2 1 = some (bm_u (bm_gr w1 v2 1))) ∧
        (bm_kt w1 (bm_u (bm_gr w1 v0 6)) = 10) ∧ bm_Call bm_pg d y_X10_strikeTable [bm_r (some (bm_u (bm_gr w1 v0 6))), bm_r (some (bm_u (bm_gr w1 v2 1))), bm_r (some x1)] w1 (fun r2 w2 => 
          bm_c0 (bk_X11_findUntried_19 d Φ v0 v1 v2 (bm_w (v3 + 1)) w2) (fun E => Φ (.inr E) w2) r2))) (fun E => Φ (.inr E) w1) r1))) : bk_X11_findUntried_19 d Φ v0 v1 v2 v3 w := bm_go (bm_Call_mono _ _) [19] 36 _ h
/-! CaseTables.addCase(LCaseTables$Table;I)V -/
def bk_X11_addCase_24 (d : Nat) (Φ : bm_Rt → bm_W → Prop) (v0 : Nat) (v1 : Nat) (v2 : Int) (v3 : Nat) (v4 : Nat) (v5 : Int) (w : bm_W) : Prop := bm_Wp (bm_Call bm_pg d) tb_X11_addCase Φ (24, [some (bm_r (some v0)), some (bm_r (some v1)), some (bm_i v2), some (bm_r (some v3)), some (bm_r (some v4)), some (bm_i v5), none], [], w)
set_option maxRecDepth 20000 in
theorem vc_X11_addCase {d : Nat} {Φ : bm_Rt → bm_W → Prop} {p0 : Nat} {p1 : Nat} {p2 : Int} {w : bm_W} (h :
  (bm_kt w p0 = 11 ∧ bm_gr w p0 2 = some (bm_u (bm_gr w p0 2))) ∧
  (bm_kt w p1 = 7) ∧
  (bm_kt w (bm_u (bm_gr w p0 2)) = 3) ∧ bm_Call bm_pg d y_X3_funAt [bm_r (some (bm_u (bm_gr w p0 2))), bm_i (bm_gi w p1 4)] w (fun r1 w1 => 
    bm_c3 (fun x1 => (bm_kt w1 x1 = 1 ∧ bm_gr w1 x1 1 = some (bm_u (bm_gr w1 x1 1))) ∧
    (bm_kt w1 p1 = 7) ∧ bm_Call bm_pg d y_X7_nextRow [bm_r (some p1)] w1 (fun r2 w2 => 
      bm_c3 (fun x2 => bk_X11_addCase_24 d Φ p0 p1 p2 (bm_u (bm_gr w1 x1 1)) x2 (0 : Int) w2) (fun E => Φ (.inr E) w2) r2)) (fun E => Φ (.inr E) w1) r1)) : bm_Call bm_pg (d + 1) y_X11_addCase [bm_r (some p0), bm_r (some p1), bm_i p2] w Φ := bm_enter rfl (bm_go (bm_Call_mono _ _) [24] 65 _ h)
set_option maxRecDepth 20000 in
theorem vb_X11_addCase_24 {d : Nat} {Φ : bm_Rt → bm_W → Prop} {v0 : Nat} {v1 : Nat} {v2 : Int} {v3 : Nat} {v4 : Nat} {v5 : Int} {w : bm_W} (h :
  (if (decide ((3 : Int) ≤ v5)) = true then
    (bm_kt w v4 = 5 ∧ bm_gr w v4 0 = some (bm_u (bm_gr w v4 0))) ∧
    (bm_kt w v0 = 11 ∧ bm_gr w v0 4 = some (bm_u (bm_gr w v0 4))) ∧
    (bm_kt w v1 = 7) ∧
    (bm_kt w (bm_u (bm_gr w v4 0)) = 4) ∧ bm_Call bm_pg d y_X4_low [bm_r (some (bm_u (bm_gr w v4 0))), bm_i (0 : Int)] w (fun r1 w1 => 
      bm_c1 (fun x1 => (bm_kt w1 (bm_u (bm_gr w v4 0)) = 4) ∧ bm_Call bm_pg d y_X4_low [bm_r (some (bm_u (bm_gr w v4 0))), bm_i (1 : Int)] w1 (fun r2 w2 => 
        bm_c1 (fun x2 => (bm_kt w2 (bm_u (bm_gr w v4 0)) = 4) ∧ bm_Call bm_pg d y_X4_low [bm_r (some (bm_u (bm_gr w v4 0))), bm_i (2 : Int)] w2 (fun r3 w3 => 
          bm_c1 (fun x3 => (bm_kt w3 (bm_u (bm_gr w v0 4)) = 2) ∧ bm_Call bm_pg d y_X2_reckon [bm_r (some (bm_u (bm_gr w v0 4))), bm_i (bm_gi w v1 4), bm_i (-1 : Int), bm_l x1, bm_l x2, bm_l x3] w3 (fun r4 w4 => 
            bm_c2 (fun x4 => (bm_kt w4 v4 = 5) ∧
            (bm_kt (bm_sq w4 v4 2 x4) v0 = 11 ∧ bm_gr (bm_sq w4 v4 2 x4) v0 4 = some (bm_u (bm_gr (bm_sq w4 v4 2 x4) v0 4))) ∧
            (bm_kt (bm_sq w4 v4 2 x4) (bm_u (bm_gr (bm_sq w4 v4 2 x4) v0 4)) = 2) ∧ bm_Call bm_pg d y_X2_hasFailed [bm_r (some (bm_u (bm_gr (bm_sq w4 v4 2 x4) v0 4)))] (bm_sq w4 v4 2 x4) (fun r5 w5 => 
              bm_c1 (fun x5 => (if (decide (x5 = 0)) = true then
                (bm_kt w5 v4 = 5) ∧
                (bm_kt (bm_si w5 v4 1 (22 : Int)) v1 = 7) ∧ bm_Call bm_pg d y_X7_keepRow [bm_r (some v1)] (bm_si w5 v4 1 (22 : Int)) (fun r6 w6 => 
                  bm_c0 (Φ (.inl none) w6) (fun E => Φ (.inr E) w6) r6)
              else
                (bm_kt w5 v4 = 5) ∧
                (bm_kt (bm_si w5 v4 1 (15 : Int)) v1 = 7) ∧ bm_Call bm_pg d y_X7_keepRow [bm_r (some v1)] (bm_si w5 v4 1 (15 : Int)) (fun r7 w7 => 
                  bm_c0 (Φ (.inl none) w7) (fun E => Φ (.inr E) w7) r7))) (fun E => Φ (.inr E) w5) r5)) (fun E => Φ (.inr E) w4) r4)) (fun E => Φ (.inr E) w3) r3)) (fun E => Φ (.inr E) w2) r2)) (fun E => Φ (.inr E) w1) r1)
  else
    (bm_kt w v3 = 4) ∧ bm_Call bm_pg d y_X4_valueAt [bm_r (some v3), bm_i v2, bm_i v5] w (fun r8 w8 => 
      bm_c1 (fun x8 => (bm_kt w8 v4 = 5 ∧ bm_gr w8 v4 0 = some (bm_u (bm_gr w8 v4 0))) ∧
      (bm_kt w8 (bm_u (bm_gr w8 v4 0)) = 4) ∧ bm_Call bm_pg d y_X4_put [bm_r (some (bm_u (bm_gr w8 v4 0))), bm_i v5, bm_i x8, bm_i x8] w8 (fun r9 w9 => 
        bm_c0 (bk_X11_addCase_24 d Φ v0 v1 v2 v3 v4 (bm_w (v5 + 1)) w9) (fun E => Φ (.inr E) w9) r9)) (fun E => Φ (.inr E) w8) r8))) : bk_X11_addCase_24 d Φ v0 v1 v2 v3 v4 v5 w := bm_go (bm_Call_mono _ _) [24] 65 _ h
/-! CaseTables.isRelated(IJJ)Z -/
set_option maxRecDepth 20000 in
theorem vc_X11_isRelated {d : Nat} {Φ : bm_Rt → bm_W → Prop} {p0 : Int} {p1 : Int} {p2 : Int} {w : bm_W} (h :
  (if p0 = 22 then
    (if (!decide (p1 = p2)) = true then
      ((0 : Int) = 0 ∨ (0 : Int) = 1) ∧ Φ (.inl (some (bm_i (0 : Int)))) w
    else
      ((1 : Int) = 0 ∨ (1 : Int) = 1) ∧ Φ (.inl (some (bm_i (1 : Int)))) w)
  else (if p0 = 23 then
    (if (decide (p1 = p2)) = true then
      ((0 : Int) = 0 ∨ (0 : Int) = 1) ∧ Φ (.inl (some (bm_i (0 : Int)))) w
    else
      ((1 : Int) = 0 ∨ (1 : Int) = 1) ∧ Φ (.inl (some (bm_i (1 : Int)))) w)
  else (if p0 = 24 then
    (if (decide (p2 ≤ p1)) = true then
      ((0 : Int) = 0 ∨ (0 : Int) = 1) ∧ Φ (.inl (some (bm_i (0 : Int)))) w
    else
      ((1 : Int) = 0 ∨ (1 : Int) = 1) ∧ Φ (.inl (some (bm_i (1 : Int)))) w)
  else (if p0 = 25 then
    (if (decide (p2 < p1)) = true then
      ((0 : Int) = 0 ∨ (0 : Int) = 1) ∧ Φ (.inl (some (bm_i (0 : Int)))) w
    else
      ((1 : Int) = 0 ∨ (1 : Int) = 1) ∧ Φ (.inl (some (bm_i (1 : Int)))) w)
  else (if p0 = 26 then
    (if (decide (p1 ≤ p2)) = true then
      ((0 : Int) = 0 ∨ (0 : Int) = 1) ∧ Φ (.inl (some (bm_i (0 : Int)))) w
    else
      ((1 : Int) = 0 ∨ (1 : Int) = 1) ∧ Φ (.inl (some (bm_i (1 : Int)))) w)
  else (if (decide (p1 < p2)) = true then
      ((0 : Int) = 0 ∨ (0 : Int) = 1) ∧ Φ (.inl (some (bm_i (0 : Int)))) w
    else
      ((1 : Int) = 0 ∨ (1 : Int) = 1) ∧ Φ (.inl (some (bm_i (1 : Int)))) w))))))) : bm_Call bm_pg (d + 1) y_X11_isRelated [bm_i p0, bm_l p1, bm_l p2] w Φ := bm_enter rfl (bm_go (bm_Call_mono _ _) [] 46 _ h)
/-! java/lang/String.length()I -/
set_option maxRecDepth 20000 in
theorem vc_J0_length_8abf5 {d : Nat} {Φ : bm_Rt → bm_W → Prop} {p0 : Nat} {w : bm_W} (h :
  (p0 < 20) ∧
  (bm_kIs bm_KK (1, p0)) ∧
  (p0 < 20) ∧ bm_Call bm_pg d y_J0_coder_7d493 [bm_k (0, p0)] w (fun r1 w1 => 
    bm_c1 (fun x1 => Φ (.inl (some (bm_i ((Int32.ofInt (bm_kLen bm_KK (1, p0) : Int) >>> (Int32.ofInt x1 &&& 31)).toInt)))) w1) (fun E => Φ (.inr E) w1) r1)) : bm_Call bm_pg (d + 1) y_J0_length_8abf5 [bm_k (0, p0)] w Φ := bm_enter rfl (bm_go (bm_Call_mono _ _) [] 9 _ h)
/-! java/lang/String.coder()B -/
set_option maxRecDepth 20000 in
theorem vc_J0_coder_7d493 {d : Nat} {Φ : bm_Rt → bm_W → Prop} {p0 : Nat} {w : bm_W} (h :
  (if (decide ((1 : Int) = 0)) = true then
    (-128 ≤ (1 : Int) ∧ (1 : Int) < 128) ∧ Φ (.inl (some (bm_i (1 : Int)))) w
  else
    (p0 < 20) ∧
    (-128 ≤ (0 : Int) ∧ (0 : Int) < 128) ∧ Φ (.inl (some (bm_i (0 : Int)))) w)) : bm_Call bm_pg (d + 1) y_J0_coder_7d493 [bm_k (0, p0)] w Φ := bm_enter rfl (bm_go (bm_Call_mono _ _) [] 9 _ h)
/-! java/lang/String.charAt(I)C -/
set_option maxRecDepth 20000 in
theorem vc_J0_charAt_5068e {d : Nat} {Φ : bm_Rt → bm_W → Prop} {p0 : Nat} {p1 : Int} {w : bm_W} (h :
  (p0 < 20) ∧ bm_Call bm_pg d y_J0_isLatin1_aae02 [bm_k (0, p0)] w (fun r1 w1 => 
    bm_c1 (fun x1 => (if (decide (x1 = 0)) = true then
      (p0 < 20) ∧
      False
    else
      (p0 < 20) ∧
      (True) ∧ bm_Call bm_pg d y_J1_charAt_3b067 [bm_k (1, p0), bm_i p1] w1 (fun r2 w2 => 
        bm_c1 (fun x2 => (0 ≤ x2 ∧ x2 < 65536) ∧ Φ (.inl (some (bm_i x2))) w2) (fun E => Φ (.inr E) w2) r2))) (fun E => Φ (.inr E) w1) r1)) : bm_Call bm_pg (d + 1) y_J0_charAt_5068e [bm_k (0, p0), bm_i p1] w Φ := bm_enter rfl (bm_go (bm_Call_mono _ _) [] 14 _ h)
/-! java/lang/String.isLatin1()Z -/
set_option maxRecDepth 20000 in
theorem vc_J0_isLatin1_aae02 {d : Nat} {Φ : bm_Rt → bm_W → Prop} {p0 : Nat} {w : bm_W} (h :
  (if (decide ((1 : Int) = 0)) = true then
    ((0 : Int) = 0 ∨ (0 : Int) = 1) ∧ Φ (.inl (some (bm_i (0 : Int)))) w
  else
    (p0 < 20) ∧
    (if (!decide ((0 : Int) = 0)) = true then
      ((0 : Int) = 0 ∨ (0 : Int) = 1) ∧ Φ (.inl (some (bm_i (0 : Int)))) w
    else
      ((1 : Int) = 0 ∨ (1 : Int) = 1) ∧ Φ (.inl (some (bm_i (1 : Int)))) w))) : bm_Call bm_pg (d + 1) y_J0_isLatin1_aae02 [bm_k (0, p0)] w Φ := bm_enter rfl (bm_go (bm_Call_mono _ _) [] 11 _ h)
/-! java/lang/StringLatin1.charAt([BI)C -/
set_option maxRecDepth 20000 in
theorem vc_J1_charAt_3b067 {d : Nat} {Φ : bm_Rt → bm_W → Prop} {p0 : Nat} {p1 : Int} {w : bm_W} (h :
  (bm_kIs bm_KK (1, p0)) ∧
  (True) ∧ bm_Call bm_pg d y_J0_checkIndex_df160 [bm_i p1, bm_i (bm_kLen bm_KK (1, p0) : Int)] w (fun r1 w1 => 
    bm_c0 ((p0 < 20 ∧ bm_in p1 (bm_KK.1.2.1.getD p0 0)) ∧
    (0 ≤ (((Int32.ofInt ((Int32.ofInt (((bm_KK.1.2.2.getD p0 []).getD (p1).toNat 0).toInt) &&& Int32.ofInt (255 : Int)).toInt)).toUInt32 % 65536).toInt32.toInt) ∧ (((Int32.ofInt ((Int32.ofInt (((bm_KK.1.2.2.getD p0 []).getD (p1).toNat 0).toInt) &&& Int32.ofInt (255 : Int)).toInt)).toUInt32 % 65536).toInt32.toInt) < 65536) ∧ Φ (.inl (some (bm_i (((Int32.ofInt ((Int32.ofInt (((bm_KK.1.2.2.getD p0 []).getD (p1).toNat 0).toInt) &&& Int32.ofInt (255 : Int)).toInt)).toUInt32 % 65536).toInt32.toInt)))) w1) (fun E => Φ (.inr E) w1) r1)) : bm_Call bm_pg (d + 1) y_J1_charAt_3b067 [bm_k (1, p0), bm_i p1] w Φ := bm_enter rfl (bm_go (bm_Call_mono _ _) [] 13 _ h)
/-! java/lang/Long.bitCount(J)I -/
set_option maxRecDepth 20000 in
theorem vc_J13_bitCount_95d88 {d : Nat} {Φ : bm_Rt → bm_W → Prop} {p0 : Int} {w : bm_W} (h :
  Φ (.inl (some (bm_i ((Int32.ofInt (bm_w (bm_x ((bm_x ((bm_x (((Int64.ofInt (bm_x ((bm_x (((Int64.ofInt (bm_x (p0 - ((Int64.ofInt (((Int64.ofInt p0).toUInt64 >>> ((Int32.ofInt (1 : Int)).toInt64.toUInt64 &&& Int64.toUInt64 63)).toInt64.toInt) &&& Int64.ofInt (6148914691236517205 : Int)).toInt))) &&& Int64.ofInt (3689348814741910323 : Int)).toInt) + ((Int64.ofInt (((Int64.ofInt (bm_x (p0 - ((Int64.ofInt (((Int64.ofInt p0).toUInt64 >>> ((Int32.ofInt (1 : Int)).toInt64.toUInt64 &&& Int64.toUInt64 63)).toInt64.toInt) &&& Int64.ofInt (6148914691236517205 : Int)).toInt)))).toUInt64 >>> ((Int32.ofInt (2 : Int)).toInt64.toUInt64 &&& Int64.toUInt64 63)).toInt64.toInt) &&& Int64.ofInt (3689348814741910323 : Int)).toInt))) + (((Int64.ofInt (bm_x (((Int64.ofInt (bm_x (p0 - ((Int64.ofInt (((Int64.ofInt p0).toUInt64 >>> ((Int32.ofInt (1 : Int)).toInt64.toUInt64 &&& Int64.toUInt64 63)).toInt64.toInt) &&& Int64.ofInt (6148914691236517205 : Int)).toInt))) &&& Int64.ofInt (3689348814741910323 : Int)).toInt) + ((Int64.ofInt (((Int64.ofInt (bm_x (p0 - ((Int64.ofInt (((Int64.ofInt p0).toUInt64 >>> ((Int32.ofInt (1 : Int)).toInt64.toUInt64 &&& Int64.toUInt64 63)).toInt64.toInt) &&& Int64.ofInt (6148914691236517205 : Int)).toInt)))).toUInt64 >>> ((Int32.ofInt (2 : Int)).toInt64.toUInt64 &&& Int64.toUInt64 63)).toInt64.toInt) &&& Int64.ofInt (3689348814741910323 : Int)).toInt)))).toUInt64 >>> ((Int32.ofInt (4 : Int)).toInt64.toUInt64 &&& Int64.toUInt64 63)).toInt64.toInt))) &&& Int64.ofInt (1085102592571150095 : Int)).toInt) + (((Int64.ofInt ((Int64.ofInt (bm_x ((bm_x (((Int64.ofInt (bm_x (p0 - ((Int64.ofInt (((Int64.ofInt p0).toUInt64 >>> ((Int32.ofInt (1 : Int)).toInt64.toUInt64 &&& Int64.toUInt64 63)).toInt64.toInt) &&& Int64.ofInt (6148914691236517205 : Int)).toInt))) &&& Int64.ofInt (3689348814741910323 : Int)).toInt) + ((Int64.ofInt (((Int64.ofInt (bm_x (p0 - ((Int64.ofInt (((Int64.ofInt p0).toUInt64 >>> ((Int32.ofInt (1 : Int)).toInt64.toUInt64 &&& Int64.toUInt64 63)).toInt64.toInt) &&& Int64.ofInt (6148914691236517205 : Int)).toInt)))).toUInt64 >>> ((Int32.ofInt (2 : Int)).toInt64.toUInt64 &&& Int64.toUInt64 63)).toInt64.toInt) &&& Int64.ofInt (3689348814741910323 : Int)).toInt))) + (((Int64.ofInt (bm_x (((Int64.ofInt (bm_x (p0 - ((Int64.ofInt (((Int64.ofInt p0).toUInt64 >>> ((Int32.ofInt (1 : Int)).toInt64.toUInt64 &&& Int64.toUInt64 63)).toInt64.toInt) &&& Int64.ofInt (6148914691236517205 : Int)).toInt))) &&& Int64.ofInt (3689348814741910323 : Int)).toInt) + ((Int64.ofInt (((Int64.ofInt (bm_x (p0 - ((Int64.ofInt (((Int64.ofInt p0).toUInt64 >>> ((Int32.ofInt (1 : Int)).toInt64.toUInt64 &&& Int64.toUInt64 63)).toInt64.toInt) &&& Int64.ofInt (6148914691236517205 : Int)).toInt)))).toUInt64 >>> ((Int32.ofInt (2 : Int)).toInt64.toUInt64 &&& Int64.toUInt64 63)).toInt64.toInt) &&& Int64.ofInt (3689348814741910323 : Int)).toInt)))).toUInt64 >>> ((Int32.ofInt (4 : Int)).toInt64.toUInt64 &&& Int64.toUInt64 63)).toInt64.toInt))) &&& Int64.ofInt (1085102592571150095 : Int)).toInt)).toUInt64 >>> ((Int32.ofInt (8 : Int)).toInt64.toUInt64 &&& Int64.toUInt64 63)).toInt64.toInt))) + (((Int64.ofInt (bm_x (((Int64.ofInt (bm_x ((bm_x (((Int64.ofInt (bm_x (p0 - ((Int64.ofInt (((Int64.ofInt p0).toUInt64 >>> ((Int32.ofInt (1 : Int)).toInt64.toUInt64 &&& Int64.toUInt64 63)).toInt64.toInt) &&& Int64.ofInt (6148914691236517205 : Int)).toInt))) &&& Int64.ofInt (3689348814741910323 : Int)).toInt) + ((Int64.ofInt (((Int64.ofInt (bm_x (p0 - ((Int64.ofInt (((Int64.ofInt p0).toUInt64 >>> ((Int32.ofInt (1 : Int)).toInt64.toUInt64 &&& Int64.toUInt64 63)).toInt64.toInt) &&& Int64.ofInt (6148914691236517205 : Int)).toInt)))).toUInt64 >>> ((Int32.ofInt (2 : Int)).toInt64.toUInt64 &&& Int64.toUInt64 63)).toInt64.toInt) &&& Int64.ofInt (3689348814741910323 : Int)).toInt))) + (((Int64.ofInt (bm_x (((Int64.ofInt (bm_x (p0 - ((Int64.ofInt (((Int64.ofInt p0).toUInt64 >>> ((Int32.ofInt (1 : Int)).toInt64.toUInt64 &&& Int64.toUInt64 63)).toInt64.toInt) &&& Int64.ofInt (6148914691236517205 : Int)).toInt))) &&& Int64.ofInt (3689348814741910323 : Int)).toInt) + ((Int64.ofInt (((Int64.ofInt (bm_x (p0 - ((Int64.ofInt (((Int64.ofInt p0).toUInt64 >>> ((Int32.ofInt (1 : Int)).toInt64.toUInt64 &&& Int64.toUInt64 63)).toInt64.toInt) &&& Int64.ofInt (6148914691236517205 : Int)).toInt)))).toUInt64 >>> ((Int32.ofInt (2 : Int)).toInt64.toUInt64 &&& Int64.toUInt64 63)).toInt64.toInt) &&& Int64.ofInt (3689348814741910323 : Int)).toInt)))).toUInt64 >>> ((Int32.ofInt (4 : Int)).toInt64.toUInt64 &&& Int64.toUInt64 63)).toInt64.toInt))) &&& Int64.ofInt (1085102592571150095 : Int)).toInt) + (((Int64.ofInt ((Int64.ofInt (bm_x ((bm_x (((Int64.ofInt (bm_x (p0 - ((Int64.ofInt (((Int64.ofInt p0).toUInt64 >>> ((Int32.ofInt (1 : Int)).toInt64.toUInt64 &&& Int64.toUInt64 63)).toInt64.toInt) &&& Int64.ofInt (6148914691236517205 : Int)).toInt))) &&& Int64.ofInt (3689348814741910323 : Int)).toInt) + ((Int64.ofInt (((Int64.ofInt (bm_x (p0 - ((Int64.ofInt (((Int64.ofInt p0).toUInt64 >>> ((Int32.ofInt (1 : Int)).toInt64.toUInt64 &&& Int64.toUInt64 63)).toInt64.toInt) &&& Int64.ofInt (6148914691236517205 : Int)).toInt)))).toUInt64 >>> ((Int32.ofInt (2 : Int)).toInt64.toUInt64 &&& Int64.toUInt64 63)).toInt64.toInt) &&& Int64.ofInt (3689348814741910323 : Int)).toInt))) + (((Int64.ofInt (bm_x (((Int64.ofInt (bm_x (p0 - ((Int64.ofInt (((Int64.ofInt p0).toUInt64 >>> ((Int32.ofInt (1 : Int)).toInt64.toUInt64 &&& Int64.toUInt64 63)).toInt64.toInt) &&& Int64.ofInt (6148914691236517205 : Int)).toInt))) &&& Int64.ofInt (3689348814741910323 : Int)).toInt) + ((Int64.ofInt (((Int64.ofInt (bm_x (p0 - ((Int64.ofInt (((Int64.ofInt p0).toUInt64 >>> ((Int32.ofInt (1 : Int)).toInt64.toUInt64 &&& Int64.toUInt64 63)).toInt64.toInt) &&& Int64.ofInt (6148914691236517205 : Int)).toInt)))).toUInt64 >>> ((Int32.ofInt (2 : Int)).toInt64.toUInt64 &&& Int64.toUInt64 63)).toInt64.toInt) &&& Int64.ofInt (3689348814741910323 : Int)).toInt)))).toUInt64 >>> ((Int32.ofInt (4 : Int)).toInt64.toUInt64 &&& Int64.toUInt64 63)).toInt64.toInt))) &&& Int64.ofInt (1085102592571150095 : Int)).toInt)).toUInt64 >>> ((Int32.ofInt (8 : Int)).toInt64.toUInt64 &&& Int64.toUInt64 63)).toInt64.toInt)))).toUInt64 >>> ((Int32.ofInt (16 : Int)).toInt64.toUInt64 &&& Int64.toUInt64 63)).toInt64.toInt))) + (((Int64.ofInt (bm_x ((bm_x (((Int64.ofInt (bm_x ((bm_x (((Int64.ofInt (bm_x (p0 - ((Int64.ofInt (((Int64.ofInt p0).toUInt64 >>> ((Int32.ofInt (1 : Int)).toInt64.toUInt64 &&& Int64.toUInt64 63)).toInt64.toInt) &&& Int64.ofInt (6148914691236517205 : Int)).toInt))) &&& Int64.ofInt (3689348814741910323 : Int)).toInt) + ((Int64.ofInt (((Int64.ofInt (bm_x (p0 - ((Int64.ofInt (((Int64.ofInt p0).toUInt64 >>> ((Int32.ofInt (1 : Int)).toInt64.toUInt64 &&& Int64.toUInt64 63)).toInt64.toInt) &&& Int64.ofInt (6148914691236517205 : Int)).toInt)))).toUInt64 >>> ((Int32.ofInt (2 : Int)).toInt64.toUInt64 &&& Int64.toUInt64 63)).toInt64.toInt) &&& Int64.ofInt (3689348814741910323 : Int)).toInt))) + (((Int64.ofInt (bm_x (((Int64.ofInt (bm_x (p0 - ((Int64.ofInt (((Int64.ofInt p0).toUInt64 >>> ((Int32.ofInt (1 : Int)).toInt64.toUInt64 &&& Int64.toUInt64 63)).toInt64.toInt) &&& Int64.ofInt (6148914691236517205 : Int)).toInt))) &&& Int64.ofInt (3689348814741910323 : Int)).toInt) + ((Int64.ofInt (((Int64.ofInt (bm_x (p0 - ((Int64.ofInt (((Int64.ofInt p0).toUInt64 >>> ((Int32.ofInt (1 : Int)).toInt64.toUInt64 &&& Int64.toUInt64 63)).toInt64.toInt) &&& Int64.ofInt (6148914691236517205 : Int)).toInt)))).toUInt64 >>> ((Int32.ofInt (2 : Int)).toInt64.toUInt64 &&& Int64.toUInt64 63)).toInt64.toInt) &&& Int64.ofInt (3689348814741910323 : Int)).toInt)))).toUInt64 >>> ((Int32.ofInt (4 : Int)).toInt64.toUInt64 &&& Int64.toUInt64 63)).toInt64.toInt))) &&& Int64.ofInt (1085102592571150095 : Int)).toInt) + (((Int64.ofInt ((Int64.ofInt (bm_x ((bm_x (((Int64.ofInt (bm_x (p0 - ((Int64.ofInt (((Int64.ofInt p0).toUInt64 >>> ((Int32.ofInt (1 : Int)).toInt64.toUInt64 &&& Int64.toUInt64 63)).toInt64.toInt) &&& Int64.ofInt (6148914691236517205 : Int)).toInt))) &&& Int64.ofInt (3689348814741910323 : Int)).toInt) + ((Int64.ofInt (((Int64.ofInt (bm_x (p0 - ((Int64.ofInt (((Int64.ofInt p0).toUInt64 >>> ((Int32.ofInt (1 : Int)).toInt64.toUInt64 &&& Int64.toUInt64 63)).toInt64.toInt) &&& Int64.ofInt (6148914691236517205 : Int)).toInt)))).toUInt64 >>> ((Int32.ofInt (2 : Int)).toInt64.toUInt64 &&& Int64.toUInt64 63)).toInt64.toInt) &&& Int64.ofInt (3689348814741910323 : Int)).toInt))) + (((Int64.ofInt (bm_x (((Int64.ofInt (bm_x (p0 - ((Int64.ofInt (((Int64.ofInt p0).toUInt64 >>> ((Int32.ofInt (1 : Int)).toInt64.toUInt64 &&& Int64.toUInt64 63)).toInt64.toInt) &&& Int64.ofInt (6148914691236517205 : Int)).toInt))) &&& Int64.ofInt (3689348814741910323 : Int)).toInt) + ((Int64.ofInt (((Int64.ofInt (bm_x (p0 - ((Int64.ofInt (((Int64.ofInt p0).toUInt64 >>> ((Int32.ofInt (1 : Int)).toInt64.toUInt64 &&& Int64.toUInt64 63)).toInt64.toInt) &&& Int64.ofInt (6148914691236517205 : Int)).toInt)))).toUInt64 >>> ((Int32.ofInt (2 : Int)).toInt64.toUInt64 &&& Int64.toUInt64 63)).toInt64.toInt) &&& Int64.ofInt (3689348814741910323 : Int)).toInt)))).toUInt64 >>> ((Int32.ofInt (4 : Int)).toInt64.toUInt64 &&& Int64.toUInt64 63)).toInt64.toInt))) &&& Int64.ofInt (1085102592571150095 : Int)).toInt)).toUInt64 >>> ((Int32.ofInt (8 : Int)).toInt64.toUInt64 &&& Int64.toUInt64 63)).toInt64.toInt))) + (((Int64.ofInt (bm_x (((Int64.ofInt (bm_x ((bm_x (((Int64.ofInt (bm_x (p0 - ((Int64.ofInt (((Int64.ofInt p0).toUInt64 >>> ((Int32.ofInt (1 : Int)).toInt64.toUInt64 &&& Int64.toUInt64 63)).toInt64.toInt) &&& Int64.ofInt (6148914691236517205 : Int)).toInt))) &&& Int64.ofInt (3689348814741910323 : Int)).toInt) + ((Int64.ofInt (((Int64.ofInt (bm_x (p0 - ((Int64.ofInt (((Int64.ofInt p0).toUInt64 >>> ((Int32.ofInt (1 : Int)).toInt64.toUInt64 &&& Int64.toUInt64 63)).toInt64.toInt) &&& Int64.ofInt (6148914691236517205 : Int)).toInt)))).toUInt64 >>> ((Int32.ofInt (2 : Int)).toInt64.toUInt64 &&& Int64.toUInt64 63)).toInt64.toInt) &&& Int64.ofInt (3689348814741910323 : Int)).toInt))) + (((Int64.ofInt (bm_x (((Int64.ofInt (bm_x (p0 - ((Int64.ofInt (((Int64.ofInt p0).toUInt64 >>> ((Int32.ofInt (1 : Int)).toInt64.toUInt64 &&& Int64.toUInt64 63)).toInt64.toInt) &&& Int64.ofInt (6148914691236517205 : Int)).toInt))) &&& Int64.ofInt (3689348814741910323 : Int)).toInt) + ((Int64.ofInt (((Int64.ofInt (bm_x (p0 - ((Int64.ofInt (((Int64.ofInt p0).toUInt64 >>> ((Int32.ofInt (1 : Int)).toInt64.toUInt64 &&& Int64.toUInt64 63)).toInt64.toInt) &&& Int64.ofInt (6148914691236517205 : Int)).toInt)))).toUInt64 >>> ((Int32.ofInt (2 : Int)).toInt64.toUInt64 &&& Int64.toUInt64 63)).toInt64.toInt) &&& Int64.ofInt (3689348814741910323 : Int)).toInt)))).toUInt64 >>> ((Int32.ofInt (4 : Int)).toInt64.toUInt64 &&& Int64.toUInt64 63)).toInt64.toInt))) &&& Int64.ofInt (1085102592571150095 : Int)).toInt) + (((Int64.ofInt ((Int64.ofInt (bm_x ((bm_x (((Int64.ofInt (bm_x (p0 - ((Int64.ofInt (((Int64.ofInt p0).toUInt64 >>> ((Int32.ofInt (1 : Int)).toInt64.toUInt64 &&& Int64.toUInt64 63)).toInt64.toInt) &&& Int64.ofInt (6148914691236517205 : Int)).toInt))) &&& Int64.ofInt (3689348814741910323 : Int)).toInt) + ((Int64.ofInt (((Int64.ofInt (bm_x (p0 - ((Int64.ofInt (((Int64.ofInt p0).toUInt64 >>> ((Int32.ofInt (1 : Int)).toInt64.toUInt64 &&& Int64.toUInt64 63)).toInt64.toInt) &&& Int64.ofInt (6148914691236517205 : Int)).toInt)))).toUInt64 >>> ((Int32.ofInt (2 : Int)).toInt64.toUInt64 &&& Int64.toUInt64 63)).toInt64.toInt) &&& Int64.ofInt (3689348814741910323 : Int)).toInt))) + (((Int64.ofInt (bm_x (((Int64.ofInt (bm_x (p0 - ((Int64.ofInt (((Int64.ofInt p0).toUInt64 >>> ((Int32.ofInt (1 : Int)).toInt64.toUInt64 &&& Int64.toUInt64 63)).toInt64.toInt) &&& Int64.ofInt (6148914691236517205 : Int)).toInt))) &&& Int64.ofInt (3689348814741910323 : Int)).toInt) + ((Int64.ofInt (((Int64.ofInt (bm_x (p0 - ((Int64.ofInt (((Int64.ofInt p0).toUInt64 >>> ((Int32.ofInt (1 : Int)).toInt64.toUInt64 &&& Int64.toUInt64 63)).toInt64.toInt) &&& Int64.ofInt (6148914691236517205 : Int)).toInt)))).toUInt64 >>> ((Int32.ofInt (2 : Int)).toInt64.toUInt64 &&& Int64.toUInt64 63)).toInt64.toInt) &&& Int64.ofInt (3689348814741910323 : Int)).toInt)))).toUInt64 >>> ((Int32.ofInt (4 : Int)).toInt64.toUInt64 &&& Int64.toUInt64 63)).toInt64.toInt))) &&& Int64.ofInt (1085102592571150095 : Int)).toInt)).toUInt64 >>> ((Int32.ofInt (8 : Int)).toInt64.toUInt64 &&& Int64.toUInt64 63)).toInt64.toInt)))).toUInt64 >>> ((Int32.ofInt (16 : Int)).toInt64.toUInt64 &&& Int64.toUInt64 63)).toInt64.toInt)))).toUInt64 >>> ((Int32.ofInt (32 : Int)).toInt64.toUInt64 &&& Int64.toUInt64 63)).toInt64.toInt)))) &&& Int32.ofInt (127 : Int)).toInt)))) w) : bm_Call bm_pg (d + 1) y_J13_bitCount_95d88 [bm_l p0] w Φ := bm_enter rfl (bm_go (bm_Call_mono _ _) [] 51 _ h)
/-! jdk/internal/util/Preconditions.checkIndex(IILjava/util/function/BiFunction;)I -/
set_option maxRecDepth 20000 in
theorem vc_J3_checkIndex_8e157 {d : Nat} {Φ : bm_Rt → bm_W → Prop} {p0 : Int} {p1 : Int} {p2 : Nat} {w : bm_W} (h :
  (if (decide (p0 < 0)) = true then
    False
  else
    (if (decide (p0 < p1)) = true then
      Φ (.inl (some (bm_i p0))) w
    else
      False))) : bm_Call bm_pg (d + 1) y_J3_checkIndex_8e157 [bm_i p0, bm_i p1, bm_k (3, p2)] w Φ := bm_enter rfl (bm_go (bm_Call_mono _ _) [] 12 _ h)
/-! java/lang/String.checkIndex(II)V -/
set_option maxRecDepth 20000 in
theorem vc_J0_checkIndex_df160 {d : Nat} {Φ : bm_Rt → bm_W → Prop} {p0 : Int} {p1 : Int} {w : bm_W} (h :
  (True) ∧ bm_Call bm_pg d y_J3_checkIndex_8e157 [bm_i p0, bm_i p1, bm_k (3, 0)] w (fun r1 w1 => 
    bm_c1 (fun x1 => Φ (.inl none) w1) (fun E => Φ (.inr E) w1) r1)) : bm_Call bm_pg (d + 1) y_J0_checkIndex_df160 [bm_i p0, bm_i p1] w Φ := bm_enter rfl (bm_go (bm_Call_mono _ _) [] 8 _ h)
/-! CaseTablesLaw.below(II)I -/
set_option maxRecDepth 20000 in
theorem vc_L_below {d : Nat} {Φ : bm_Rt → bm_W → Prop} {p0 : Int} {p1 : Int} {w : bm_W} (h :
  (¬ p1 = 0) ∧
  Φ (.inl (some (bm_i (bm_w (((Int32.ofInt p0 &&& Int32.ofInt (2147483647 : Int)).toInt).tmod p1))))) w) : bm_Call bm_pg (d + 1) y_L_below [bm_i p0, bm_i p1] w Φ := bm_enter rfl (bm_go (bm_Call_mono _ _) [] 8 _ h)
/-! CaseTablesLaw.cell([II)I -/
set_option maxRecDepth 20000 in
theorem vc_L_cell {d : Nat} {Φ : bm_Rt → bm_W → Prop} {p0 : Nat} {p1 : Int} {w : bm_W} (h :
  (bm_kt w p0 = 91) ∧
  (if (decide ((bm_kn w p0 : Int) ≤ p1)) = true then
    Φ (.inl (some (bm_i (bm_w ((790386105 : Int) * (bm_w (p1 + (3 : Int)))))))) w
  else
    (bm_kt w p0 = 91 ∧ bm_in p1 (bm_kn w p0)) ∧
    Φ (.inl (some (bm_i (bm_gi w p0 (p1).toNat)))) w)) : bm_Call bm_pg (d + 1) y_L_cell [bm_r (some p0), bm_i p1] w Φ := bm_enter rfl (bm_go (bm_Call_mono _ _) [] 16 _ h)
/-! CaseTablesLaw.put([ILjava/lang/String;)V -/
def bk_L_put_2 (d : Nat) (Φ : bm_Rt → bm_W → Prop) (v0 : Nat) (v1 : Nat) (v2 : Int) (w : bm_W) : Prop := bm_Wp (bm_Call bm_pg d) tb_L_put Φ (2, [some (bm_r (some v0)), some (bm_k (0, v1)), some (bm_i v2)], [], w)
set_option maxRecDepth 20000 in
theorem vc_L_put {d : Nat} {Φ : bm_Rt → bm_W → Prop} {p0 : Nat} {p1 : Nat} {w : bm_W} (h :
  bk_L_put_2 d Φ p0 p1 (0 : Int) w) : bm_Call bm_pg (d + 1) y_L_put [bm_r (some p0), bm_k (0, p1)] w Φ := bm_enter rfl (bm_go (bm_Call_mono _ _) [2] 31 _ h)
set_option maxRecDepth 20000 in
theorem vb_L_put_2 {d : Nat} {Φ : bm_Rt → bm_W → Prop} {v0 : Nat} {v1 : Nat} {v2 : Int} {w : bm_W} (h :
  (v1 < 20) ∧ bm_Call bm_pg d y_J0_length_8abf5 [bm_k (0, v1)] w (fun r1 w1 => 
    bm_c1 (fun x1 => (if (decide (x1 ≤ v2)) = true then
      (bm_kt w1 v0 = 21 ∧ bm_in (0 : Int) (bm_kn w1 v0)) ∧
      (v1 < 20) ∧ bm_Call bm_pg d y_J0_length_8abf5 [bm_k (0, v1)] w1 (fun r2 w2 => 
        bm_c1 (fun x2 => (bm_kt w2 v0 = 21 ∧ bm_in (0 : Int) (bm_kn w2 v0)) ∧
        Φ (.inl none) (bm_si w2 v0 ((0 : Int)).toNat (bm_w ((bm_gi w1 v0 ((0 : Int)).toNat) + x2)))) (fun E => Φ (.inr E) w2) r2)
    else
      (bm_kt w1 v0 = 21 ∧ bm_in (0 : Int) (bm_kn w1 v0)) ∧
      (v1 < 20) ∧ bm_Call bm_pg d y_J0_charAt_5068e [bm_k (0, v1), bm_i v2] w1 (fun r3 w3 => 
        bm_c1 (fun x3 => (bm_kt w3 v0 = 21 ∧ bm_in (bm_w ((bm_w ((1 : Int) + (bm_gi w1 v0 ((0 : Int)).toNat))) + v2)) (bm_kn w3 v0)) ∧
        bk_L_put_2 d Φ v0 v1 (bm_w (v2 + 1)) (bm_si w3 v0 ((bm_w ((bm_w ((1 : Int) + (bm_gi w1 v0 ((0 : Int)).toNat))) + v2))).toNat x3)) (fun E => Φ (.inr E) w3) r3))) (fun E => Φ (.inr E) w1) r1)) : bk_L_put_2 d Φ v0 v1 v2 w := bm_go (bm_Call_mono _ _) [2] 31 _ h
/-! CaseTablesLaw.put([II)V -/
set_option maxRecDepth 20000 in
theorem vc_L_put_ {d : Nat} {Φ : bm_Rt → bm_W → Prop} {p0 : Nat} {p1 : Int} {w : bm_W} (h :
  (if (decide (0 ≤ p1)) = true then
    (if (decide (p1 ≤ (9 : Int))) = true then
      (bm_kt w p0 = 21 ∧ bm_in (0 : Int) (bm_kn w p0)) ∧
      (¬ (10 : Int) = 0) ∧
      (bm_kt w p0 = 21 ∧ bm_in (bm_w ((1 : Int) + (bm_gi w p0 ((0 : Int)).toNat))) (bm_kn w p0)) ∧
      (bm_kt (bm_si w p0 ((bm_w ((1 : Int) + (bm_gi w p0 ((0 : Int)).toNat)))).toNat (bm_w ((48 : Int) + (bm_w (p1.tmod (10 : Int)))))) p0 = 21 ∧ bm_in (0 : Int) (bm_kn (bm_si w p0 ((bm_w ((1 : Int) + (bm_gi w p0 ((0 : Int)).toNat)))).toNat (bm_w ((48 : Int) + (bm_w (p1.tmod (10 : Int)))))) p0)) ∧
      (bm_kt (bm_si w p0 ((bm_w ((1 : Int) + (bm_gi w p0 ((0 : Int)).toNat)))).toNat (bm_w ((48 : Int) + (bm_w (p1.tmod (10 : Int)))))) p0 = 21 ∧ bm_in (0 : Int) (bm_kn (bm_si w p0 ((bm_w ((1 : Int) + (bm_gi w p0 ((0 : Int)).toNat)))).toNat (bm_w ((48 : Int) + (bm_w (p1.tmod (10 : Int)))))) p0)) ∧
      Φ (.inl none) (bm_si (bm_si w p0 ((bm_w ((1 : Int) + (bm_gi w p0 ((0 : Int)).toNat)))).toNat (bm_w ((48 : Int) + (bm_w (p1.tmod (10 : Int)))))) p0 ((0 : Int)).toNat (bm_w ((bm_gi (bm_si w p0 ((bm_w ((1 : Int) + (bm_gi w p0 ((0 : Int)).toNat)))).toNat (bm_w ((48 : Int) + (bm_w (p1.tmod (10 : Int)))))) p0 ((0 : Int)).toNat) + (1 : Int))))
    else
      (¬ (10 : Int) = 0) ∧
      (True) ∧ bm_Call bm_pg d y_L_put_ [bm_r (some p0), bm_i (bm_w (p1.tdiv (10 : Int)))] w (fun r1 w1 => 
        bm_c0 ((bm_kt w1 p0 = 21 ∧ bm_in (0 : Int) (bm_kn w1 p0)) ∧
        (¬ (10 : Int) = 0) ∧
        (bm_kt w1 p0 = 21 ∧ bm_in (bm_w ((1 : Int) + (bm_gi w1 p0 ((0 : Int)).toNat))) (bm_kn w1 p0)) ∧
        (bm_kt (bm_si w1 p0 ((bm_w ((1 : Int) + (bm_gi w1 p0 ((0 : Int)).toNat)))).toNat (bm_w ((48 : Int) + (bm_w (p1.tmod (10 : Int)))))) p0 = 21 ∧ bm_in (0 : Int) (bm_kn (bm_si w1 p0 ((bm_w ((1 : Int) + (bm_gi w1 p0 ((0 : Int)).toNat)))).toNat (bm_w ((48 : Int) + (bm_w (p1.tmod (10 : Int)))))) p0)) ∧
        (bm_kt (bm_si w1 p0 ((bm_w ((1 : Int) + (bm_gi w1 p0 ((0 : Int)).toNat)))).toNat (bm_w ((48 : Int) + (bm_w (p1.tmod (10 : Int)))))) p0 = 21 ∧ bm_in (0 : Int) (bm_kn (bm_si w1 p0 ((bm_w ((1 : Int) + (bm_gi w1 p0 ((0 : Int)).toNat)))).toNat (bm_w ((48 : Int) + (bm_w (p1.tmod (10 : Int)))))) p0)) ∧
        Φ (.inl none) (bm_si (bm_si w1 p0 ((bm_w ((1 : Int) + (bm_gi w1 p0 ((0 : Int)).toNat)))).toNat (bm_w ((48 : Int) + (bm_w (p1.tmod (10 : Int)))))) p0 ((0 : Int)).toNat (bm_w ((bm_gi (bm_si w1 p0 ((bm_w ((1 : Int) + (bm_gi w1 p0 ((0 : Int)).toNat)))).toNat (bm_w ((48 : Int) + (bm_w (p1.tmod (10 : Int)))))) p0 ((0 : Int)).toNat) + (1 : Int))))) (fun E => Φ (.inr E) w1) r1))
  else
    (True) ∧ bm_Call bm_pg d y_L_put [bm_r (some p0), bm_k (0, 0)] w (fun r2 w2 => 
      bm_c0 ((True) ∧ bm_Call bm_pg d y_L_put_ [bm_r (some p0), bm_i (bm_w (-p1))] w2 (fun r3 w3 => 
        bm_c0 (Φ (.inl none) w3) (fun E => Φ (.inr E) w3) r3)) (fun E => Φ (.inr E) w2) r2))) : bm_Call bm_pg (d + 1) y_L_put_ [bm_r (some p0), bm_i p1] w Φ := bm_enter rfl (bm_go (bm_Call_mono _ _) [] 40 _ h)
/-! CaseTablesLaw.lay(LCaseTables;[I)Z -/
def bk_L_lay_13 (d : Nat) (Φ : bm_Rt → bm_W → Prop) (v0 : Nat) (v1 : Nat) (v2 : Int) (v3 : Int) (v4 : Int) (w : bm_W) : Prop := bm_Wp (bm_Call bm_pg d) tb_L_lay Φ (13, [some (bm_r (some v0)), some (bm_r (some v1)), some (bm_i v2), some (bm_i v3), some (bm_i v4), none, none], [], w)
def bk_L_lay_27 (d : Nat) (Φ : bm_Rt → bm_W → Prop) (v0 : Nat) (v1 : Nat) (v2 : Int) (v3 : Int) (v4 : Int) (v5 : Nat) (v6 : Int) (w : bm_W) : Prop := bm_Wp (bm_Call bm_pg d) tb_L_lay Φ (27, [some (bm_r (some v0)), some (bm_r (some v1)), some (bm_i v2), some (bm_i v3), some (bm_i v4), some (bm_r (some v5)), some (bm_i v6)], [], w)
set_option maxRecDepth 20000 in
theorem vc_L_lay {d : Nat} {Φ : bm_Rt → bm_W → Prop} {p0 : Nat} {p1 : Nat} {w : bm_W} (h :
  (bm_kt w p0 = 11) ∧ bm_Call bm_pg d y_X11_count [bm_r (some p0), bm_i (4 : Int)] w (fun r1 w1 => 
    bm_c1 (fun x1 => (bm_kt w1 p1 = 21 ∧ bm_in (0 : Int) (bm_kn w1 p1)) ∧
    bk_L_lay_13 d Φ p0 p1 x1 (bm_gi w1 p1 ((0 : Int)).toNat) (0 : Int) w1) (fun E => Φ (.inr E) w1) r1)) : bm_Call bm_pg (d + 1) y_L_lay [bm_r (some p0), bm_r (some p1)] w Φ := bm_enter rfl (bm_go (bm_Call_mono _ _) [13, 27] 85 _ h)
set_option maxRecDepth 20000 in
theorem vb_L_lay_13 {d : Nat} {Φ : bm_Rt → bm_W → Prop} {v0 : Nat} {v1 : Nat} {v2 : Int} {v3 : Int} {v4 : Int} {w : bm_W} (h :
  (if (decide (v3 ≤ v4)) = true then
    (bm_kt w v0 = 11) ∧ bm_Call bm_pg d y_X11_trim [bm_r (some v0), bm_i (bm_w (v2 + v3))] w (fun r1 w1 => 
      bm_c1 (fun x1 => (if (!decide (x1 = (bm_w (v2 + v3)))) = true then
        ((0 : Int) = 0 ∨ (0 : Int) = 1) ∧ Φ (.inl (some (bm_i (0 : Int)))) w1
      else
        ((1 : Int) = 0 ∨ (1 : Int) = 1) ∧ Φ (.inl (some (bm_i (1 : Int)))) w1)) (fun E => Φ (.inr E) w1) r1)
  else
    (0 ≤ (5 : Int) ∧ (5 : Int) ≤ 100000) ∧
    bk_L_lay_27 d Φ v0 v1 v2 v3 v4 (bm_sz w) (0 : Int) (bm_nw w 21 ((5 : Int)).toNat ((5 : Int)).toNat))) : bk_L_lay_13 d Φ v0 v1 v2 v3 v4 w := bm_go (bm_Call_mono _ _) [13, 27] 85 _ h
set_option maxRecDepth 20000 in
theorem vb_L_lay_27 {d : Nat} {Φ : bm_Rt → bm_W → Prop} {v0 : Nat} {v1 : Nat} {v2 : Int} {v3 : Int} {v4 : Int} {v5 : Nat} {v6 : Int} {w : bm_W} (h :
  (if (decide ((20 : Int) ≤ v6)) = true then
    (bm_kt w v5 = 21 ∧ bm_in (0 : Int) (bm_kn w v5)) ∧
    (bm_kt w v5 = 21 ∧ bm_in (1 : Int) (bm_kn w v5)) ∧
    (bm_kt w v5 = 21 ∧ bm_in (2 : Int) (bm_kn w v5)) ∧
    (bm_kt w v5 = 21 ∧ bm_in (3 : Int) (bm_kn w v5)) ∧
    (bm_kt w v5 = 21 ∧ bm_in (4 : Int) (bm_kn w v5)) ∧
    (bm_kt w v0 = 11) ∧ bm_Call bm_pg d y_X11_feed [bm_r (some v0), bm_i (bm_gi w v5 ((0 : Int)).toNat), bm_i (bm_gi w v5 ((1 : Int)).toNat), bm_i (bm_gi w v5 ((2 : Int)).toNat), bm_i (bm_gi w v5 ((3 : Int)).toNat), bm_i (bm_gi w v5 ((4 : Int)).toNat)] w (fun r1 w1 => 
      bm_c1 (fun x1 => bk_L_lay_13 d Φ v0 v1 v2 v3 (bm_w (v4 + 20)) w1) (fun E => Φ (.inr E) w1) r1)
  else
    (¬ (4 : Int) = 0) ∧
    (¬ (4 : Int) = 0) ∧
    (bm_kt w v5 = 21 ∧ bm_in (bm_w (v6.tdiv (4 : Int))) (bm_kn w v5)) ∧
    (if (decide (v3 ≤ (bm_w (v4 + v6)))) = true then
      (bm_kt w v5 = 21 ∧ bm_in (bm_w (v6.tdiv (4 : Int))) (bm_kn w v5)) ∧
      bk_L_lay_27 d Φ v0 v1 v2 v3 v4 v5 (bm_w (v6 + 1)) (bm_si w v5 ((bm_w (v6.tdiv (4 : Int)))).toNat ((Int32.ofInt ((Int32.ofInt (bm_gi w v5 ((bm_w (v6.tdiv (4 : Int)))).toNat) <<< (Int32.ofInt (8 : Int) &&& 31)).toInt) ||| Int32.ofInt (32 : Int)).toInt))
    else
      (bm_kt w v1 = 21 ∧ bm_in (bm_w ((bm_w ((1 : Int) + v4)) + v6)) (bm_kn w v1)) ∧
      (bm_kt w v5 = 21 ∧ bm_in (bm_w (v6.tdiv (4 : Int))) (bm_kn w v5)) ∧
      bk_L_lay_27 d Φ v0 v1 v2 v3 v4 v5 (bm_w (v6 + 1)) (bm_si w v5 ((bm_w (v6.tdiv (4 : Int)))).toNat ((Int32.ofInt ((Int32.ofInt (bm_gi w v5 ((bm_w (v6.tdiv (4 : Int)))).toNat) <<< (Int32.ofInt (8 : Int) &&& 31)).toInt) ||| Int32.ofInt (bm_gi w v1 ((bm_w ((bm_w ((1 : Int) + v4)) + v6))).toNat)).toInt))))) : bk_L_lay_27 d Φ v0 v1 v2 v3 v4 v5 v6 w := bm_go (bm_Call_mono _ _) [13, 27] 85 _ h
/-! CaseTablesLaw.law([I)Z -/
def bk_L_law_50 (d : Nat) (Φ : bm_Rt → bm_W → Prop) (v0 : Nat) (v1 : Nat) (v2 : Nat) (v3 : Nat) (w : bm_W) : Prop := bm_Wp (bm_Call bm_pg d) tb_L_law Φ (50, [some (bm_r (some v0)), some (bm_r (some v1)), some (bm_r (some v2)), some (bm_r (some v3)), none, none, none, none, none, none, none], [], w)
def bk_L_law_81 (d : Nat) (Φ : bm_Rt → bm_W → Prop) (v0 : Nat) (v1 : Nat) (v2 : Nat) (v3 : Nat) (v4 : Nat) (w : bm_W) : Prop := bm_Wp (bm_Call bm_pg d) tb_L_law Φ (81, [some (bm_r (some v0)), some (bm_r (some v1)), some (bm_r (some v2)), some (bm_r (some v3)), some (bm_r (some v4)), none, none, none, none, none, none], [], w)
def bk_L_law_87 (d : Nat) (Φ : bm_Rt → bm_W → Prop) (v0 : Nat) (v1 : Nat) (v2 : Nat) (v3 : Nat) (v4 : Nat) (w : bm_W) : Prop := bm_Wp (bm_Call bm_pg d) tb_L_law Φ (87, [some (bm_r (some v0)), some (bm_r (some v1)), some (bm_r (some v2)), some (bm_r (some v3)), some (bm_r (some v4)), none, none, none, none, none, none], [], w)
def bk_L_law_102 (d : Nat) (Φ : bm_Rt → bm_W → Prop) (v0 : Nat) (v1 : Nat) (v2 : Nat) (v3 : Nat) (v4 : Nat) (w : bm_W) : Prop := bm_Wp (bm_Call bm_pg d) tb_L_law Φ (102, [some (bm_r (some v0)), some (bm_r (some v1)), some (bm_r (some v2)), some (bm_r (some v3)), some (bm_r (some v4)), none, none, none, none, none, none], [], w)
def bk_L_law_108 (d : Nat) (Φ : bm_Rt → bm_W → Prop) (v0 : Nat) (v1 : Nat) (v2 : Nat) (v3 : Nat) (v4 : Nat) (w : bm_W) : Prop := bm_Wp (bm_Call bm_pg d) tb_L_law Φ (108, [some (bm_r (some v0)), some (bm_r (some v1)), some (bm_r (some v2)), some (bm_r (some v3)), some (bm_r (some v4)), none, none, none, none, none, none], [], w)
def bk_L_law_125 (d : Nat) (Φ : bm_Rt → bm_W → Prop) (v0 : Nat) (v1 : Nat) (v2 : Nat) (v3 : Nat) (v4 : Nat) (w : bm_W) : Prop := bm_Wp (bm_Call bm_pg d) tb_L_law Φ (125, [some (bm_r (some v0)), some (bm_r (some v1)), some (bm_r (some v2)), some (bm_r (some v3)), some (bm_r (some v4)), none, none, none, none, none, none], [], w)
def bk_L_law_131 (d : Nat) (Φ : bm_Rt → bm_W → Prop) (v0 : Nat) (v1 : Nat) (v2 : Nat) (v3 : Nat) (v4 : Nat) (w : bm_W) : Prop := bm_Wp (bm_Call bm_pg d) tb_L_law Φ (131, [some (bm_r (some v0)), some (bm_r (some v1)), some (bm_r (some v2)), some (bm_r (some v3)), some (bm_r (some v4)), none, none, none, none, none, none], [], w)
def bk_L_law_147 (d : Nat) (Φ : bm_Rt → bm_W → Prop) (v0 : Nat) (v1 : Nat) (v2 : Nat) (v4 : Nat) (w : bm_W) : Prop := bm_Wp (bm_Call bm_pg d) tb_L_law Φ (147, [some (bm_r (some v0)), some (bm_r (some v1)), some (bm_r (some v2)), none, some (bm_r (some v4)), none, none, none, none, none, none], [], w)
def bk_L_law_162 (d : Nat) (Φ : bm_Rt → bm_W → Prop) (v0 : Nat) (v1 : Nat) (v2 : Nat) (v4 : Nat) (w : bm_W) : Prop := bm_Wp (bm_Call bm_pg d) tb_L_law Φ (162, [some (bm_r (some v0)), some (bm_r (some v1)), some (bm_r (some v2)), none, some (bm_r (some v4)), none, none, none, none, none, none], [], w)
def bk_L_law_168 (d : Nat) (Φ : bm_Rt → bm_W → Prop) (v0 : Nat) (v1 : Nat) (v2 : Nat) (v4 : Nat) (w : bm_W) : Prop := bm_Wp (bm_Call bm_pg d) tb_L_law Φ (168, [some (bm_r (some v0)), some (bm_r (some v1)), some (bm_r (some v2)), none, some (bm_r (some v4)), none, none, none, none, none, none], [], w)
def bk_L_law_184 (d : Nat) (Φ : bm_Rt → bm_W → Prop) (v0 : Nat) (v1 : Nat) (v2 : Nat) (v4 : Nat) (w : bm_W) : Prop := bm_Wp (bm_Call bm_pg d) tb_L_law Φ (184, [some (bm_r (some v0)), some (bm_r (some v1)), some (bm_r (some v2)), none, some (bm_r (some v4)), none, none, none, none, none, none], [], w)
def bk_L_law_190 (d : Nat) (Φ : bm_Rt → bm_W → Prop) (v0 : Nat) (v1 : Nat) (v2 : Nat) (v4 : Nat) (w : bm_W) : Prop := bm_Wp (bm_Call bm_pg d) tb_L_law Φ (190, [some (bm_r (some v0)), some (bm_r (some v1)), some (bm_r (some v2)), none, some (bm_r (some v4)), none, none, none, none, none, none], [], w)
def bk_L_law_208 (d : Nat) (Φ : bm_Rt → bm_W → Prop) (v0 : Nat) (v1 : Nat) (v2 : Nat) (w : bm_W) : Prop := bm_Wp (bm_Call bm_pg d) tb_L_law Φ (208, [some (bm_r (some v0)), some (bm_r (some v1)), some (bm_r (some v2)), none, none, none, none, none, none, none, none], [], w)
def bk_L_law_222 (d : Nat) (Φ : bm_Rt → bm_W → Prop) (v0 : Nat) (v1 : Nat) (v2 : Nat) (w : bm_W) : Prop := bm_Wp (bm_Call bm_pg d) tb_L_law Φ (222, [some (bm_r (some v0)), some (bm_r (some v1)), some (bm_r (some v2)), none, none, none, none, none, none, none, none], [], w)
def bk_L_law_228 (d : Nat) (Φ : bm_Rt → bm_W → Prop) (v0 : Nat) (v1 : Nat) (v2 : Nat) (w : bm_W) : Prop := bm_Wp (bm_Call bm_pg d) tb_L_law Φ (228, [some (bm_r (some v0)), some (bm_r (some v1)), some (bm_r (some v2)), none, none, none, none, none, none, none, none], [], w)
def bk_L_law_250 (d : Nat) (Φ : bm_Rt → bm_W → Prop) (v1 : Nat) (v2 : Nat) (s0 : Nat) (s1 : Nat) (w : bm_W) : Prop := bm_Wp (bm_Call bm_pg d) tb_L_law Φ (250, [none, some (bm_r (some v1)), some (bm_r (some v2)), none, none, none, none, none, none, none, none], [bm_k (0, s0), bm_r (some s1)], w)
def bk_L_law_253 (d : Nat) (Φ : bm_Rt → bm_W → Prop) (v1 : Nat) (v2 : Nat) (w : bm_W) : Prop := bm_Wp (bm_Call bm_pg d) tb_L_law Φ (253, [none, some (bm_r (some v1)), some (bm_r (some v2)), none, none, none, none, none, none, none, none], [], w)
def bk_L_law_281 (d : Nat) (Φ : bm_Rt → bm_W → Prop) (v1 : Nat) (w : bm_W) : Prop := bm_Wp (bm_Call bm_pg d) tb_L_law Φ (281, [none, some (bm_r (some v1)), none, none, none, none, none, none, none, none, none], [], w)
def bk_L_law_292 (d : Nat) (Φ : bm_Rt → bm_W → Prop) (v1 : Nat) (v5 : Int) (v6 : Int) (w : bm_W) : Prop := bm_Wp (bm_Call bm_pg d) tb_L_law Φ (292, [none, some (bm_r (some v1)), none, none, none, some (bm_i v5), some (bm_i v6), none, none, none, none], [], w)
def bk_L_law_299 (d : Nat) (Φ : bm_Rt → bm_W → Prop) (v1 : Nat) (v5 : Int) (v6 : Int) (w : bm_W) : Prop := bm_Wp (bm_Call bm_pg d) tb_L_law Φ (299, [none, some (bm_r (some v1)), none, none, none, some (bm_i v5), some (bm_i v6), none, none, none, none], [], w)
def bk_L_law_318 (d : Nat) (Φ : bm_Rt → bm_W → Prop) (v1 : Nat) (v5 : Int) (v6 : Int) (w : bm_W) : Prop := bm_Wp (bm_Call bm_pg d) tb_L_law Φ (318, [none, some (bm_r (some v1)), none, none, none, some (bm_i v5), some (bm_i v6), none, none, none, none], [], w)
def bk_L_law_326 (d : Nat) (Φ : bm_Rt → bm_W → Prop) (v1 : Nat) (v5 : Int) (v6 : Int) (v7 : Int) (w : bm_W) : Prop := bm_Wp (bm_Call bm_pg d) tb_L_law Φ (326, [none, some (bm_r (some v1)), none, none, none, some (bm_i v5), some (bm_i v6), some (bm_i v7), none, none, none], [], w)
def bk_L_law_361 (d : Nat) (Φ : bm_Rt → bm_W → Prop) (v1 : Nat) (v6 : Int) (w : bm_W) : Prop := bm_Wp (bm_Call bm_pg d) tb_L_law Φ (361, [none, some (bm_r (some v1)), none, none, none, none, some (bm_i v6), none, none, none, none], [], w)
def bk_L_law_375 (d : Nat) (Φ : bm_Rt → bm_W → Prop) (v1 : Nat) (w : bm_W) : Prop := bm_Wp (bm_Call bm_pg d) tb_L_law Φ (375, [none, some (bm_r (some v1)), none, none, none, none, none, none, none, none, none], [], w)
def bk_L_law_388 (d : Nat) (Φ : bm_Rt → bm_W → Prop) (v1 : Nat) (s0 : Int) (w : bm_W) : Prop := bm_Wp (bm_Call bm_pg d) tb_L_law Φ (388, [none, some (bm_r (some v1)), none, none, none, none, none, none, none, none, none], [bm_i s0], w)
def bk_L_law_405 (d : Nat) (Φ : bm_Rt → bm_W → Prop) (v1 : Nat) (w : bm_W) : Prop := bm_Wp (bm_Call bm_pg d) tb_L_law Φ (405, [none, some (bm_r (some v1)), none, none, none, none, none, none, none, none, none], [], w)
def bk_L_law_426 (d : Nat) (Φ : bm_Rt → bm_W → Prop) (v1 : Nat) (w : bm_W) : Prop := bm_Wp (bm_Call bm_pg d) tb_L_law Φ (426, [none, some (bm_r (some v1)), none, none, none, none, none, none, none, none, none], [], w)
def bk_L_law_435 (d : Nat) (Φ : bm_Rt → bm_W → Prop) (v1 : Nat) (w : bm_W) : Prop := bm_Wp (bm_Call bm_pg d) tb_L_law Φ (435, [none, some (bm_r (some v1)), none, none, none, none, none, none, none, none, none], [], w)
def bk_L_law_454 (d : Nat) (Φ : bm_Rt → bm_W → Prop) (v1 : Nat) (w : bm_W) : Prop := bm_Wp (bm_Call bm_pg d) tb_L_law Φ (454, [none, some (bm_r (some v1)), none, none, none, none, none, none, none, none, none], [], w)
def bk_L_law_478 (d : Nat) (Φ : bm_Rt → bm_W → Prop) (v1 : Nat) (w : bm_W) : Prop := bm_Wp (bm_Call bm_pg d) tb_L_law Φ (478, [none, some (bm_r (some v1)), none, none, none, none, none, none, none, none, none], [], w)
def bk_L_law_484 (d : Nat) (Φ : bm_Rt → bm_W → Prop) (v1 : Nat) (v6 : Int) (v7 : Int) (w : bm_W) : Prop := bm_Wp (bm_Call bm_pg d) tb_L_law Φ (484, [none, some (bm_r (some v1)), none, none, none, none, some (bm_i v6), some (bm_i v7), none, none, none], [], w)
def bk_L_law_517 (d : Nat) (Φ : bm_Rt → bm_W → Prop) (v1 : Nat) (v6 : Int) (w : bm_W) : Prop := bm_Wp (bm_Call bm_pg d) tb_L_law Φ (517, [none, some (bm_r (some v1)), none, none, none, none, some (bm_i v6), none, none, none, none], [], w)
def bk_L_law_535 (d : Nat) (Φ : bm_Rt → bm_W → Prop) (v1 : Nat) (v6 : Int) (w : bm_W) : Prop := bm_Wp (bm_Call bm_pg d) tb_L_law Φ (535, [none, some (bm_r (some v1)), none, none, none, none, some (bm_i v6), none, none, none, none], [], w)
def bk_L_law_548 (d : Nat) (Φ : bm_Rt → bm_W → Prop) (v1 : Nat) (v6 : Int) (v7 : Int) (v8 : Int) (v9 : Int) (w : bm_W) : Prop := bm_Wp (bm_Call bm_pg d) tb_L_law Φ (548, [none, some (bm_r (some v1)), none, none, none, none, some (bm_i v6), some (bm_i v7), some (bm_i v8), some (bm_i v9), none], [], w)
def bk_L_law_581 (d : Nat) (Φ : bm_Rt → bm_W → Prop) (v1 : Nat) (v6 : Int) (v7 : Int) (v8 : Int) (w : bm_W) : Prop := bm_Wp (bm_Call bm_pg d) tb_L_law Φ (581, [none, some (bm_r (some v1)), none, none, none, none, some (bm_i v6), some (bm_i v7), some (bm_i v8), none, none], [], w)
def bk_L_law_605 (d : Nat) (Φ : bm_Rt → bm_W → Prop) (v1 : Nat) (v7 : Int) (w : bm_W) : Prop := bm_Wp (bm_Call bm_pg d) tb_L_law Φ (605, [none, some (bm_r (some v1)), none, none, none, none, none, some (bm_i v7), none, none, none], [], w)
def bk_L_law_629 (d : Nat) (Φ : bm_Rt → bm_W → Prop) (v1 : Nat) (v7 : Int) (w : bm_W) : Prop := bm_Wp (bm_Call bm_pg d) tb_L_law Φ (629, [none, some (bm_r (some v1)), none, none, none, none, none, some (bm_i v7), none, none, none], [], w)
def bk_L_law_635 (d : Nat) (Φ : bm_Rt → bm_W → Prop) (v1 : Nat) (v7 : Int) (v9 : Int) (w : bm_W) : Prop := bm_Wp (bm_Call bm_pg d) tb_L_law Φ (635, [none, some (bm_r (some v1)), none, none, none, none, none, some (bm_i v7), none, some (bm_l v9), none], [], w)
set_option maxRecDepth 20000 in
theorem vc_L_law {d : Nat} {Φ : bm_Rt → bm_W → Prop} {p0 : Nat} {p1 : Nat} {w : bm_W} (h :
  (True) ∧ bm_Call bm_pg d y_X11_init [bm_r (some (bm_sz w))] (bm_nw w 11 0 8) (fun r1 w1 => 
    bm_c5 ((0 ≤ (600 : Int) ∧ (600 : Int) ≤ 100000) ∧
    (0 ≤ (6 : Int) ∧ (6 : Int) ≤ 100000) ∧
    ((bm_kt (bm_nw (bm_nw w1 21 ((600 : Int)).toNat ((600 : Int)).toNat) 92 ((6 : Int)).toNat ((6 : Int)).toNat) (bm_sz (bm_nw w1 21 ((600 : Int)).toNat ((600 : Int)).toNat)) = 92 ∧ bm_in (0 : Int) (bm_kn (bm_nw (bm_nw w1 21 ((600 : Int)).toNat ((600 : Int)).toNat) 92 ((6 : Int)).toNat ((6 : Int)).toNat) (bm_sz (bm_nw w1 21 ((600 : Int)).toNat ((600 : Int)).toNat)))) ∧ 1 < 20) ∧
    ((bm_kt (bm_si (bm_nw (bm_nw w1 21 ((600 : Int)).toNat ((600 : Int)).toNat) 92 ((6 : Int)).toNat ((6 : Int)).toNat) (bm_sz (bm_nw w1 21 ((600 : Int)).toNat ((600 : Int)).toNat)) ((0 : Int)).toNat ((1 : Nat) + 1)) (bm_sz (bm_nw w1 21 ((600 : Int)).toNat ((600 : Int)).toNat)) = 92 ∧ bm_in (1 : Int) (bm_kn (bm_si (bm_nw (bm_nw w1 21 ((600 : Int)).toNat ((600 : Int)).toNat) 92 ((6 : Int)).toNat ((6 : Int)).toNat) (bm_sz (bm_nw w1 21 ((600 : Int)).toNat ((600 : Int)).toNat)) ((0 : Int)).toNat ((1 : Nat) + 1)) (bm_sz (bm_nw w1 21 ((600 : Int)).toNat ((600 : Int)).toNat)))) ∧ 2 < 20) ∧
    ((bm_kt (bm_si (bm_si (bm_nw (bm_nw w1 21 ((600 : Int)).toNat ((600 : Int)).toNat) 92 ((6 : Int)).toNat ((6 : Int)).toNat) (bm_sz (bm_nw w1 21 ((600 : Int)).toNat ((600 : Int)).toNat)) ((0 : Int)).toNat ((1 : Nat) + 1)) (bm_sz (bm_nw w1 21 ((600 : Int)).toNat ((600 : Int)).toNat)) ((1 : Int)).toNat ((2 : Nat) + 1)) (bm_sz (bm_nw w1 21 ((600 : Int)).toNat ((600 : Int)).toNat)) = 92 ∧ bm_in (2 : Int) (bm_kn (bm_si (bm_si (bm_nw (bm_nw w1 21 ((600 : Int)).toNat ((600 : Int)).toNat) 92 ((6 : Int)).toNat ((6 : Int)).toNat) (bm_sz (bm_nw w1 21 ((600 : Int)).toNat ((600 : Int)).toNat)) ((0 : Int)).toNat ((1 : Nat) + 1)) (bm_sz (bm_nw w1 21 ((600 : Int)).toNat ((600 : Int)).toNat)) ((1 : Int)).toNat ((2 : Nat) + 1)) (bm_sz (bm_nw w1 21 ((600 : Int)).toNat ((600 : Int)).toNat)))) ∧ 3 < 20) ∧
    ((bm_kt (bm_si (bm_si (bm_si (bm_nw (bm_nw w1 21 ((600 : Int)).toNat ((600 : Int)).toNat) 92 ((6 : Int)).toNat ((6 : Int)).toNat) (bm_sz (bm_nw w1 21 ((600 : Int)).toNat ((600 : Int)).toNat)) ((0 : Int)).toNat ((1 : Nat) + 1)) (bm_sz (bm_nw w1 21 ((600 : Int)).toNat ((600 : Int)).toNat)) ((1 : Int)).toNat ((2 : Nat) + 1)) (bm_sz (bm_nw w1 21 ((600 : Int)).toNat ((600 : Int)).toNat)) ((2 : Int)).toNat ((3 : Nat) + 1)) (bm_sz (bm_nw w1 21 ((600 : Int)).toNat ((600 : Int)).toNat)) = 92 ∧ bm_in (3 : Int) (bm_kn (bm_si (bm_si (bm_si (bm_nw (bm_nw w1 21 ((600 : Int)).toNat ((600 : Int)).toNat) 92 ((6 : Int)).toNat ((6 : Int)).toNat) (bm_sz (bm_nw w1 21 ((600 : Int)).toNat ((600 : Int)).toNat)) ((0 : Int)).toNat ((1 : Nat) + 1)) (bm_sz (bm_nw w1 21 ((600 : Int)).toNat ((600 : Int)).toNat)) ((1 : Int)).toNat ((2 : Nat) + 1)) (bm_sz (bm_nw w1 21 ((600 : Int)).toNat ((600 : Int)).toNat)) ((2 : Int)).toNat ((3 : Nat) + 1)) (bm_sz (bm_nw w1 21 ((600 : Int)).toNat ((600 : Int)).toNat)))) ∧ 4 < 20) ∧
    ((bm_kt (bm_si (bm_si (bm_si (bm_si (bm_nw (bm_nw w1 21 ((600 : Int)).toNat ((600 : Int)).toNat) 92 ((6 : Int)).toNat ((6 : Int)).toNat) (bm_sz (bm_nw w1 21 ((600 : Int)).toNat ((600 : Int)).toNat)) ((0 : Int)).toNat ((1 : Nat) + 1)) (bm_sz (bm_nw w1 21 ((600 : Int)).toNat ((600 : Int)).toNat)) ((1 : Int)).toNat ((2 : Nat) + 1)) (bm_sz (bm_nw w1 21 ((600 : Int)).toNat ((600 : Int)).toNat)) ((2 : Int)).toNat ((3 : Nat) + 1)) (bm_sz (bm_nw w1 21 ((600 : Int)).toNat ((600 : Int)).toNat)) ((3 : Int)).toNat ((4 : Nat) + 1)) (bm_sz (bm_nw w1 21 ((600 : Int)).toNat ((600 : Int)).toNat)) = 92 ∧ bm_in (4 : Int) (bm_kn (bm_si (bm_si (bm_si (bm_si (bm_nw (bm_nw w1 21 ((600 : Int)).toNat ((600 : Int)).toNat) 92 ((6 : Int)).toNat ((6 : Int)).toNat) (bm_sz (bm_nw w1 21 ((600 : Int)).toNat ((600 : Int)).toNat)) ((0 : Int)).toNat ((1 : Nat) + 1)) (bm_sz (bm_nw w1 21 ((600 : Int)).toNat ((600 : Int)).toNat)) ((1 : Int)).toNat ((2 : Nat) + 1)) (bm_sz (bm_nw w1 21 ((600 : Int)).toNat ((600 : Int)).toNat)) ((2 : Int)).toNat ((3 : Nat) + 1)) (bm_sz (bm_nw w1 21 ((600 : Int)).toNat ((600 : Int)).toNat)) ((3 : Int)).toNat ((4 : Nat) + 1)) (bm_sz (bm_nw w1 21 ((600 : Int)).toNat ((600 : Int)).toNat)))) ∧ 5 < 20) ∧
    ((bm_kt (bm_si (bm_si (bm_si (bm_si (bm_si (bm_nw (bm_nw w1 21 ((600 : Int)).toNat ((600 : Int)).toNat) 92 ((6 : Int)).toNat ((6 : Int)).toNat) (bm_sz (bm_nw w1 21 ((600 : Int)).toNat ((600 : Int)).toNat)) ((0 : Int)).toNat ((1 : Nat) + 1)) (bm_sz (bm_nw w1 21 ((600 : Int)).toNat ((600 : Int)).toNat)) ((1 : Int)).toNat ((2 : Nat) + 1)) (bm_sz (bm_nw w1 21 ((600 : Int)).toNat ((600 : Int)).toNat)) ((2 : Int)).toNat ((3 : Nat) + 1)) (bm_sz (bm_nw w1 21 ((600 : Int)).toNat ((600 : Int)).toNat)) ((3 : Int)).toNat ((4 : Nat) + 1)) (bm_sz (bm_nw w1 21 ((600 : Int)).toNat ((600 : Int)).toNat)) ((4 : Int)).toNat ((5 : Nat) + 1)) (bm_sz (bm_nw w1 21 ((600 : Int)).toNat ((600 : Int)).toNat)) = 92 ∧ bm_in (5 : Int) (bm_kn (bm_si (bm_si (bm_si (bm_si (bm_si (bm_nw (bm_nw w1 21 ((600 : Int)).toNat ((600 : Int)).toNat) 92 ((6 : Int)).toNat ((6 : Int)).toNat) (bm_sz (bm_nw w1 21 ((600 : Int)).toNat ((600 : Int)).toNat)) ((0 : Int)).toNat ((1 : Nat) + 1)) (bm_sz (bm_nw w1 21 ((600 : Int)).toNat ((600 : Int)).toNat)) ((1 : Int)).toNat ((2 : Nat) + 1)) (bm_sz (bm_nw w1 21 ((600 : Int)).toNat ((600 : Int)).toNat)) ((2 : Int)).toNat ((3 : Nat) + 1)) (bm_sz (bm_nw w1 21 ((600 : Int)).toNat ((600 : Int)).toNat)) ((3 : Int)).toNat ((4 : Nat) + 1)) (bm_sz (bm_nw w1 21 ((600 : Int)).toNat ((600 : Int)).toNat)) ((4 : Int)).toNat ((5 : Nat) + 1)) (bm_sz (bm_nw w1 21 ((600 : Int)).toNat ((600 : Int)).toNat)))) ∧ 6 < 20) ∧
    bk_L_law_50 d Φ p0 (bm_sz w) (bm_sz w1) (bm_sz (bm_nw w1 21 ((600 : Int)).toNat ((600 : Int)).toNat)) (bm_si (bm_si (bm_si (bm_si (bm_si (bm_si (bm_nw (bm_nw w1 21 ((600 : Int)).toNat ((600 : Int)).toNat) 92 ((6 : Int)).toNat ((6 : Int)).toNat) (bm_sz (bm_nw w1 21 ((600 : Int)).toNat ((600 : Int)).toNat)) ((0 : Int)).toNat ((1 : Nat) + 1)) (bm_sz (bm_nw w1 21 ((600 : Int)).toNat ((600 : Int)).toNat)) ((1 : Int)).toNat ((2 : Nat) + 1)) (bm_sz (bm_nw w1 21 ((600 : Int)).toNat ((600 : Int)).toNat)) ((2 : Int)).toNat ((3 : Nat) + 1)) (bm_sz (bm_nw w1 21 ((600 : Int)).toNat ((600 : Int)).toNat)) ((3 : Int)).toNat ((4 : Nat) + 1)) (bm_sz (bm_nw w1 21 ((600 : Int)).toNat ((600 : Int)).toNat)) ((4 : Int)).toNat ((5 : Nat) + 1)) (bm_sz (bm_nw w1 21 ((600 : Int)).toNat ((600 : Int)).toNat)) ((5 : Int)).toNat ((6 : Nat) + 1))) r1)) : bm_Call bm_pg (d + 1) y_L_law [bm_r (some p0), bm_r (some p1)] w Φ := bm_enter rfl (bm_go (bm_Call_mono _ _) [50, 81, 87, 102, 108, 125, 131, 147, 162, 168, 184, 190, 208, 222, 228, 250, 253, 281, 292, 299, 318, 326, 361, 375, 388, 405, 426, 435, 454, 478, 484, 517, 535, 548, 581, 605, 629, 635] 379 _ h)
set_option maxRecDepth 20000 in
theorem vb_L_law_50 {d : Nat} {Φ : bm_Rt → bm_W → Prop} {v0 : Nat} {v1 : Nat} {v2 : Nat} {v3 : Nat} {w : bm_W} (h :
  (0 ≤ (5 : Int) ∧ (5 : Int) ≤ 100000) ∧
  ((bm_kt (bm_nw w 92 ((5 : Int)).toNat ((5 : Int)).toNat) (bm_sz w) = 92 ∧ bm_in (0 : Int) (bm_kn (bm_nw w 92 ((5 : Int)).toNat ((5 : Int)).toNat) (bm_sz w))) ∧ 7 < 20) ∧
  ((bm_kt (bm_si (bm_nw w 92 ((5 : Int)).toNat ((5 : Int)).toNat) (bm_sz w) ((0 : Int)).toNat ((7 : Nat) + 1)) (bm_sz w) = 92 ∧ bm_in (1 : Int) (bm_kn (bm_si (bm_nw w 92 ((5 : Int)).toNat ((5 : Int)).toNat) (bm_sz w) ((0 : Int)).toNat ((7 : Nat) + 1)) (bm_sz w))) ∧ 8 < 20) ∧
  ((bm_kt (bm_si (bm_si (bm_nw w 92 ((5 : Int)).toNat ((5 : Int)).toNat) (bm_sz w) ((0 : Int)).toNat ((7 : Nat) + 1)) (bm_sz w) ((1 : Int)).toNat ((8 : Nat) + 1)) (bm_sz w) = 92 ∧ bm_in (2 : Int) (bm_kn (bm_si (bm_si (bm_nw w 92 ((5 : Int)).toNat ((5 : Int)).toNat) (bm_sz w) ((0 : Int)).toNat ((7 : Nat) + 1)) (bm_sz w) ((1 : Int)).toNat ((8 : Nat) + 1)) (bm_sz w))) ∧ 9 < 20) ∧
  ((bm_kt (bm_si (bm_si (bm_si (bm_nw w 92 ((5 : Int)).toNat ((5 : Int)).toNat) (bm_sz w) ((0 : Int)).toNat ((7 : Nat) + 1)) (bm_sz w) ((1 : Int)).toNat ((8 : Nat) + 1)) (bm_sz w) ((2 : Int)).toNat ((9 : Nat) + 1)) (bm_sz w) = 92 ∧ bm_in (3 : Int) (bm_kn (bm_si (bm_si (bm_si (bm_nw w 92 ((5 : Int)).toNat ((5 : Int)).toNat) (bm_sz w) ((0 : Int)).toNat ((7 : Nat) + 1)) (bm_sz w) ((1 : Int)).toNat ((8 : Nat) + 1)) (bm_sz w) ((2 : Int)).toNat ((9 : Nat) + 1)) (bm_sz w))) ∧ 10 < 20) ∧
  ((bm_kt (bm_si (bm_si (bm_si (bm_si (bm_nw w 92 ((5 : Int)).toNat ((5 : Int)).toNat) (bm_sz w) ((0 : Int)).toNat ((7 : Nat) + 1)) (bm_sz w) ((1 : Int)).toNat ((8 : Nat) + 1)) (bm_sz w) ((2 : Int)).toNat ((9 : Nat) + 1)) (bm_sz w) ((3 : Int)).toNat ((10 : Nat) + 1)) (bm_sz w) = 92 ∧ bm_in (4 : Int) (bm_kn (bm_si (bm_si (bm_si (bm_si (bm_nw w 92 ((5 : Int)).toNat ((5 : Int)).toNat) (bm_sz w) ((0 : Int)).toNat ((7 : Nat) + 1)) (bm_sz w) ((1 : Int)).toNat ((8 : Nat) + 1)) (bm_sz w) ((2 : Int)).toNat ((9 : Nat) + 1)) (bm_sz w) ((3 : Int)).toNat ((10 : Nat) + 1)) (bm_sz w))) ∧ 11 < 20) ∧
  bk_L_law_81 d Φ v0 v1 v2 v3 (bm_sz w) (bm_si (bm_si (bm_si (bm_si (bm_si (bm_nw w 92 ((5 : Int)).toNat ((5 : Int)).toNat) (bm_sz w) ((0 : Int)).toNat ((7 : Nat) + 1)) (bm_sz w) ((1 : Int)).toNat ((8 : Nat) + 1)) (bm_sz w) ((2 : Int)).toNat ((9 : Nat) + 1)) (bm_sz w) ((3 : Int)).toNat ((10 : Nat) + 1)) (bm_sz w) ((4 : Int)).toNat ((11 : Nat) + 1))) : bk_L_law_50 d Φ v0 v1 v2 v3 w := bm_go (bm_Call_mono _ _) [50, 81, 87, 102, 108, 125, 131, 147, 162, 168, 184, 190, 208, 222, 228, 250, 253, 281, 292, 299, 318, 326, 361, 375, 388, 405, 426, 435, 454, 478, 484, 517, 535, 548, 581, 605, 629, 635] 379 _ h
set_option maxRecDepth 20000 in
theorem vb_L_law_81 {d : Nat} {Φ : bm_Rt → bm_W → Prop} {v0 : Nat} {v1 : Nat} {v2 : Nat} {v3 : Nat} {v4 : Nat} {w : bm_W} (h :
  (True) ∧ bm_Call bm_pg d y_L_put [bm_r (some v2), bm_k (0, 12)] w (fun r1 w1 => 
    bm_c0 (bk_L_law_87 d Φ v0 v1 v2 v3 v4 w1) (fun E => Φ (.inr E) w1) r1)) : bk_L_law_81 d Φ v0 v1 v2 v3 v4 w := bm_go (bm_Call_mono _ _) [50, 81, 87, 102, 108, 125, 131, 147, 162, 168, 184, 190, 208, 222, 228, 250, 253, 281, 292, 299, 318, 326, 361, 375, 388, 405, 426, 435, 454, 478, 484, 517, 535, 548, 581, 605, 629, 635] 379 _ h
set_option maxRecDepth 20000 in
theorem vb_L_law_87 {d : Nat} {Φ : bm_Rt → bm_W → Prop} {v0 : Nat} {v1 : Nat} {v2 : Nat} {v3 : Nat} {v4 : Nat} {w : bm_W} (h :
  (True) ∧ bm_Call bm_pg d y_L_cell [bm_r (some v0), bm_i (0 : Int)] w (fun r1 w1 => 
    bm_c1 (fun x1 => (True) ∧ bm_Call bm_pg d y_L_below [bm_i x1, bm_i (4 : Int)] w1 (fun r2 w2 => 
      bm_c1 (fun x2 => (True) ∧ bm_Call bm_pg d y_L_put_ [bm_r (some v2), bm_i (bm_w ((1 : Int) + x2))] w2 (fun r3 w3 => 
        bm_c0 (bk_L_law_102 d Φ v0 v1 v2 v3 v4 w3) (fun E => Φ (.inr E) w3) r3)) (fun E => Φ (.inr E) w2) r2)) (fun E => Φ (.inr E) w1) r1)) : bk_L_law_87 d Φ v0 v1 v2 v3 v4 w := bm_go (bm_Call_mono _ _) [50, 81, 87, 102, 108, 125, 131, 147, 162, 168, 184, 190, 208, 222, 228, 250, 253, 281, 292, 299, 318, 326, 361, 375, 388, 405, 426, 435, 454, 478, 484, 517, 535, 548, 581, 605, 629, 635] 379 _ h
set_option maxRecDepth 20000 in
theorem vb_L_law_102 {d : Nat} {Φ : bm_Rt → bm_W → Prop} {v0 : Nat} {v1 : Nat} {v2 : Nat} {v3 : Nat} {v4 : Nat} {w : bm_W} (h :
  (True) ∧ bm_Call bm_pg d y_L_put [bm_r (some v2), bm_k (0, 13)] w (fun r1 w1 => 
    bm_c0 (bk_L_law_108 d Φ v0 v1 v2 v3 v4 w1) (fun E => Φ (.inr E) w1) r1)) : bk_L_law_102 d Φ v0 v1 v2 v3 v4 w := bm_go (bm_Call_mono _ _) [50, 81, 87, 102, 108, 125, 131, 147, 162, 168, 184, 190, 208, 222, 228, 250, 253, 281, 292, 299, 318, 326, 361, 375, 388, 405, 426, 435, 454, 478, 484, 517, 535, 548, 581, 605, 629, 635] 379 _ h
set_option maxRecDepth 20000 in
theorem vb_L_law_108 {d : Nat} {Φ : bm_Rt → bm_W → Prop} {v0 : Nat} {v1 : Nat} {v2 : Nat} {v3 : Nat} {v4 : Nat} {w : bm_W} (h :
  (True) ∧ bm_Call bm_pg d y_L_cell [bm_r (some v0), bm_i (0 : Int)] w (fun r1 w1 => 
    bm_c1 (fun x1 => (True) ∧ bm_Call bm_pg d y_L_below [bm_i ((Int32.ofInt x1 >>> (Int32.ofInt (4 : Int) &&& 31)).toInt), bm_i (3 : Int)] w1 (fun r2 w2 => 
      bm_c1 (fun x2 => (True) ∧ bm_Call bm_pg d y_L_put_ [bm_r (some v2), bm_i (bm_w ((1 : Int) + x2))] w2 (fun r3 w3 => 
        bm_c0 (bk_L_law_125 d Φ v0 v1 v2 v3 v4 w3) (fun E => Φ (.inr E) w3) r3)) (fun E => Φ (.inr E) w2) r2)) (fun E => Φ (.inr E) w1) r1)) : bk_L_law_108 d Φ v0 v1 v2 v3 v4 w := bm_go (bm_Call_mono _ _) [50, 81, 87, 102, 108, 125, 131, 147, 162, 168, 184, 190, 208, 222, 228, 250, 253, 281, 292, 299, 318, 326, 361, 375, 388, 405, 426, 435, 454, 478, 484, 517, 535, 548, 581, 605, 629, 635] 379 _ h
set_option maxRecDepth 20000 in
theorem vb_L_law_125 {d : Nat} {Φ : bm_Rt → bm_W → Prop} {v0 : Nat} {v1 : Nat} {v2 : Nat} {v3 : Nat} {v4 : Nat} {w : bm_W} (h :
  (True) ∧ bm_Call bm_pg d y_L_put [bm_r (some v2), bm_k (0, 14)] w (fun r1 w1 => 
    bm_c0 (bk_L_law_131 d Φ v0 v1 v2 v3 v4 w1) (fun E => Φ (.inr E) w1) r1)) : bk_L_law_125 d Φ v0 v1 v2 v3 v4 w := bm_go (bm_Call_mono _ _) [50, 81, 87, 102, 108, 125, 131, 147, 162, 168, 184, 190, 208, 222, 228, 250, 253, 281, 292, 299, 318, 326, 361, 375, 388, 405, 426, 435, 454, 478, 484, 517, 535, 548, 581, 605, 629, 635] 379 _ h
set_option maxRecDepth 20000 in
theorem vb_L_law_131 {d : Nat} {Φ : bm_Rt → bm_W → Prop} {v0 : Nat} {v1 : Nat} {v2 : Nat} {v3 : Nat} {v4 : Nat} {w : bm_W} (h :
  (True) ∧ bm_Call bm_pg d y_L_cell [bm_r (some v0), bm_i (1 : Int)] w (fun r1 w1 => 
    bm_c1 (fun x1 => (True) ∧ bm_Call bm_pg d y_L_below [bm_i x1, bm_i (6 : Int)] w1 (fun r2 w2 => 
      bm_c1 (fun x2 => ((bm_kt w2 v3 = 92 ∧ bm_in x2 (bm_kn w2 v3)) ∧ 0 < bm_gi w2 v3 (x2).toNat) ∧
      (True) ∧ bm_Call bm_pg d y_L_put [bm_r (some v2), bm_k (0, ((bm_gi w2 v3 (x2).toNat).toNat - 1))] w2 (fun r3 w3 => 
        bm_c0 (bk_L_law_147 d Φ v0 v1 v2 v4 w3) (fun E => Φ (.inr E) w3) r3)) (fun E => Φ (.inr E) w2) r2)) (fun E => Φ (.inr E) w1) r1)) : bk_L_law_131 d Φ v0 v1 v2 v3 v4 w := bm_go (bm_Call_mono _ _) [50, 81, 87, 102, 108, 125, 131, 147, 162, 168, 184, 190, 208, 222, 228, 250, 253, 281, 292, 299, 318, 326, 361, 375, 388, 405, 426, 435, 454, 478, 484, 517, 535, 548, 581, 605, 629, 635] 379 _ h
set_option maxRecDepth 20000 in
theorem vb_L_law_147 {d : Nat} {Φ : bm_Rt → bm_W → Prop} {v0 : Nat} {v1 : Nat} {v2 : Nat} {v4 : Nat} {w : bm_W} (h :
  (True) ∧ bm_Call bm_pg d y_L_cell [bm_r (some v0), bm_i (1 : Int)] w (fun r1 w1 => 
    bm_c1 (fun x1 => (True) ∧ bm_Call bm_pg d y_L_below [bm_i ((Int32.ofInt x1 >>> (Int32.ofInt (4 : Int) &&& 31)).toInt), bm_i (4 : Int)] w1 (fun r2 w2 => 
      bm_c1 (fun x2 => (True) ∧ bm_Call bm_pg d y_L_put_ [bm_r (some v2), bm_i x2] w2 (fun r3 w3 => 
        bm_c0 (bk_L_law_162 d Φ v0 v1 v2 v4 w3) (fun E => Φ (.inr E) w3) r3)) (fun E => Φ (.inr E) w2) r2)) (fun E => Φ (.inr E) w1) r1)) : bk_L_law_147 d Φ v0 v1 v2 v4 w := bm_go (bm_Call_mono _ _) [50, 81, 87, 102, 108, 125, 131, 147, 162, 168, 184, 190, 208, 222, 228, 250, 253, 281, 292, 299, 318, 326, 361, 375, 388, 405, 426, 435, 454, 478, 484, 517, 535, 548, 581, 605, 629, 635] 379 _ h
set_option maxRecDepth 20000 in
theorem vb_L_law_162 {d : Nat} {Φ : bm_Rt → bm_W → Prop} {v0 : Nat} {v1 : Nat} {v2 : Nat} {v4 : Nat} {w : bm_W} (h :
  (True) ∧ bm_Call bm_pg d y_L_put [bm_r (some v2), bm_k (0, 15)] w (fun r1 w1 => 
    bm_c0 (bk_L_law_168 d Φ v0 v1 v2 v4 w1) (fun E => Φ (.inr E) w1) r1)) : bk_L_law_162 d Φ v0 v1 v2 v4 w := bm_go (bm_Call_mono _ _) [50, 81, 87, 102, 108, 125, 131, 147, 162, 168, 184, 190, 208, 222, 228, 250, 253, 281, 292, 299, 318, 326, 361, 375, 388, 405, 426, 435, 454, 478, 484, 517, 535, 548, 581, 605, 629, 635] 379 _ h
set_option maxRecDepth 20000 in
theorem vb_L_law_168 {d : Nat} {Φ : bm_Rt → bm_W → Prop} {v0 : Nat} {v1 : Nat} {v2 : Nat} {v4 : Nat} {w : bm_W} (h :
  (True) ∧ bm_Call bm_pg d y_L_cell [bm_r (some v0), bm_i (2 : Int)] w (fun r1 w1 => 
    bm_c1 (fun x1 => (True) ∧ bm_Call bm_pg d y_L_below [bm_i x1, bm_i (5 : Int)] w1 (fun r2 w2 => 
      bm_c1 (fun x2 => ((bm_kt w2 v4 = 92 ∧ bm_in x2 (bm_kn w2 v4)) ∧ 0 < bm_gi w2 v4 (x2).toNat) ∧
      (True) ∧ bm_Call bm_pg d y_L_put [bm_r (some v2), bm_k (0, ((bm_gi w2 v4 (x2).toNat).toNat - 1))] w2 (fun r3 w3 => 
        bm_c0 (bk_L_law_184 d Φ v0 v1 v2 v4 w3) (fun E => Φ (.inr E) w3) r3)) (fun E => Φ (.inr E) w2) r2)) (fun E => Φ (.inr E) w1) r1)) : bk_L_law_168 d Φ v0 v1 v2 v4 w := bm_go (bm_Call_mono _ _) [50, 81, 87, 102, 108, 125, 131, 147, 162, 168, 184, 190, 208, 222, 228, 250, 253, 281, 292, 299, 318, 326, 361, 375, 388, 405, 426, 435, 454, 478, 484, 517, 535, 548, 581, 605, 629, 635] 379 _ h
set_option maxRecDepth 20000 in
theorem vb_L_law_184 {d : Nat} {Φ : bm_Rt → bm_W → Prop} {v0 : Nat} {v1 : Nat} {v2 : Nat} {v4 : Nat} {w : bm_W} (h :
  (True) ∧ bm_Call bm_pg d y_L_put [bm_r (some v2), bm_k (0, 16)] w (fun r1 w1 => 
    bm_c0 (bk_L_law_190 d Φ v0 v1 v2 v4 w1) (fun E => Φ (.inr E) w1) r1)) : bk_L_law_184 d Φ v0 v1 v2 v4 w := bm_go (bm_Call_mono _ _) [50, 81, 87, 102, 108, 125, 131, 147, 162, 168, 184, 190, 208, 222, 228, 250, 253, 281, 292, 299, 318, 326, 361, 375, 388, 405, 426, 435, 454, 478, 484, 517, 535, 548, 581, 605, 629, 635] 379 _ h
set_option maxRecDepth 20000 in
theorem vb_L_law_190 {d : Nat} {Φ : bm_Rt → bm_W → Prop} {v0 : Nat} {v1 : Nat} {v2 : Nat} {v4 : Nat} {w : bm_W} (h :
  (True) ∧ bm_Call bm_pg d y_L_cell [bm_r (some v0), bm_i (2 : Int)] w (fun r1 w1 => 
    bm_c1 (fun x1 => (True) ∧ bm_Call bm_pg d y_L_below [bm_i ((Int32.ofInt x1 >>> (Int32.ofInt (4 : Int) &&& 31)).toInt), bm_i (5 : Int)] w1 (fun r2 w2 => 
      bm_c1 (fun x2 => ((bm_kt w2 v4 = 92 ∧ bm_in x2 (bm_kn w2 v4)) ∧ 0 < bm_gi w2 v4 (x2).toNat) ∧
      (True) ∧ bm_Call bm_pg d y_L_put [bm_r (some v2), bm_k (0, ((bm_gi w2 v4 (x2).toNat).toNat - 1))] w2 (fun r3 w3 => 
        bm_c0 (bk_L_law_208 d Φ v0 v1 v2 w3) (fun E => Φ (.inr E) w3) r3)) (fun E => Φ (.inr E) w2) r2)) (fun E => Φ (.inr E) w1) r1)) : bk_L_law_190 d Φ v0 v1 v2 v4 w := bm_go (bm_Call_mono _ _) [50, 81, 87, 102, 108, 125, 131, 147, 162, 168, 184, 190, 208, 222, 228, 250, 253, 281, 292, 299, 318, 326, 361, 375, 388, 405, 426, 435, 454, 478, 484, 517, 535, 548, 581, 605, 629, 635] 379 _ h
set_option maxRecDepth 20000 in
theorem vb_L_law_208 {d : Nat} {Φ : bm_Rt → bm_W → Prop} {v0 : Nat} {v1 : Nat} {v2 : Nat} {w : bm_W} (h :
  (True) ∧ bm_Call bm_pg d y_L_cell [bm_r (some v0), bm_i (3 : Int)] w (fun r1 w1 => 
    bm_c1 (fun x1 => (True) ∧ bm_Call bm_pg d y_L_below [bm_i x1, bm_i (9 : Int)] w1 (fun r2 w2 => 
      bm_c1 (fun x2 => (True) ∧ bm_Call bm_pg d y_L_put_ [bm_r (some v2), bm_i x2] w2 (fun r3 w3 => 
        bm_c0 (bk_L_law_222 d Φ v0 v1 v2 w3) (fun E => Φ (.inr E) w3) r3)) (fun E => Φ (.inr E) w2) r2)) (fun E => Φ (.inr E) w1) r1)) : bk_L_law_208 d Φ v0 v1 v2 w := bm_go (bm_Call_mono _ _) [50, 81, 87, 102, 108, 125, 131, 147, 162, 168, 184, 190, 208, 222, 228, 250, 253, 281, 292, 299, 318, 326, 361, 375, 388, 405, 426, 435, 454, 478, 484, 517, 535, 548, 581, 605, 629, 635] 379 _ h
set_option maxRecDepth 20000 in
theorem vb_L_law_222 {d : Nat} {Φ : bm_Rt → bm_W → Prop} {v0 : Nat} {v1 : Nat} {v2 : Nat} {w : bm_W} (h :
  (True) ∧ bm_Call bm_pg d y_L_put [bm_r (some v2), bm_k (0, 17)] w (fun r1 w1 => 
    bm_c0 (bk_L_law_228 d Φ v0 v1 v2 w1) (fun E => Φ (.inr E) w1) r1)) : bk_L_law_222 d Φ v0 v1 v2 w := bm_go (bm_Call_mono _ _) [50, 81, 87, 102, 108, 125, 131, 147, 162, 168, 184, 190, 208, 222, 228, 250, 253, 281, 292, 299, 318, 326, 361, 375, 388, 405, 426, 435, 454, 478, 484, 517, 535, 548, 581, 605, 629, 635] 379 _ h
set_option maxRecDepth 20000 in
theorem vb_L_law_228 {d : Nat} {Φ : bm_Rt → bm_W → Prop} {v0 : Nat} {v1 : Nat} {v2 : Nat} {w : bm_W} (h :
  (True) ∧ bm_Call bm_pg d y_L_cell [bm_r (some v0), bm_i (3 : Int)] w (fun r1 w1 => 
    bm_c1 (fun x1 => (True) ∧ bm_Call bm_pg d y_L_below [bm_i ((Int32.ofInt x1 >>> (Int32.ofInt (5 : Int) &&& 31)).toInt), bm_i (2 : Int)] w1 (fun r2 w2 => 
      bm_c1 (fun x2 => (if (!decide (x2 = 0)) = true then
        bk_L_law_250 d Φ v1 v2 19 v2 w2
      else
        bk_L_law_250 d Φ v1 v2 18 v2 w2)) (fun E => Φ (.inr E) w2) r2)) (fun E => Φ (.inr E) w1) r1)) : bk_L_law_228 d Φ v0 v1 v2 w := bm_go (bm_Call_mono _ _) [50, 81, 87, 102, 108, 125, 131, 147, 162, 168, 184, 190, 208, 222, 228, 250, 253, 281, 292, 299, 318, 326, 361, 375, 388, 405, 426, 435, 454, 478, 484, 517, 535, 548, 581, 605, 629, 635] 379 _ h
set_option maxRecDepth 20000 in
theorem vb_L_law_250 {d : Nat} {Φ : bm_Rt → bm_W → Prop} {v1 : Nat} {v2 : Nat} {s0 : Nat} {s1 : Nat} {w : bm_W} (h :
  (True) ∧ bm_Call bm_pg d y_L_put [bm_r (some s1), bm_k (0, s0)] w (fun r1 w1 => 
    bm_c0 (bk_L_law_253 d Φ v1 v2 w1) (fun E => Φ (.inr E) w1) r1)) : bk_L_law_250 d Φ v1 v2 s0 s1 w := bm_go (bm_Call_mono _ _) [50, 81, 87, 102, 108, 125, 131, 147, 162, 168, 184, 190, 208, 222, 228, 250, 253, 281, 292, 299, 318, 326, 361, 375, 388, 405, 426, 435, 454, 478, 484, 517, 535, 548, 581, 605, 629, 635] 379 _ h
set_option maxRecDepth 20000 in
theorem vb_L_law_253 {d : Nat} {Φ : bm_Rt → bm_W → Prop} {v1 : Nat} {v2 : Nat} {w : bm_W} (h :
  (True) ∧ bm_Call bm_pg d y_L_lay [bm_r (some v1), bm_r (some v2)] w (fun r1 w1 => 
    bm_c1 (fun x1 => (if (decide (x1 = 0)) = true then
      ((0 : Int) = 0 ∨ (0 : Int) = 1) ∧ Φ (.inl (some (bm_i (0 : Int)))) w1
    else
      (bm_kt w1 v1 = 11) ∧ bm_Call bm_pg d y_X11_compile [bm_r (some v1)] w1 (fun r2 w2 => 
        bm_c1 (fun x2 => (if (!decide (x2 = 0)) = true then
          ((0 : Int) = 0 ∨ (0 : Int) = 1) ∧ Φ (.inl (some (bm_i (0 : Int)))) w2
        else
          (bm_kt w2 v1 = 11) ∧ bm_Call bm_pg d y_X11_fun [bm_r (some v1), bm_i (0 : Int), bm_i (1 : Int)] w2 (fun r3 w3 => 
            bm_c1 (fun x3 => (if (decide (x3 = (6 : Int))) = true then
              bk_L_law_281 d Φ v1 w3
            else
              ((0 : Int) = 0 ∨ (0 : Int) = 1) ∧ Φ (.inl (some (bm_i (0 : Int)))) w3)) (fun E => Φ (.inr E) w3) r3))) (fun E => Φ (.inr E) w2) r2))) (fun E => Φ (.inr E) w1) r1)) : bk_L_law_253 d Φ v1 v2 w := bm_go (bm_Call_mono _ _) [50, 81, 87, 102, 108, 125, 131, 147, 162, 168, 184, 190, 208, 222, 228, 250, 253, 281, 292, 299, 318, 326, 361, 375, 388, 405, 426, 435, 454, 478, 484, 517, 535, 548, 581, 605, 629, 635] 379 _ h
set_option maxRecDepth 20000 in
theorem vb_L_law_281 {d : Nat} {Φ : bm_Rt → bm_W → Prop} {v1 : Nat} {w : bm_W} (h :
  (bm_kt w v1 = 11) ∧ bm_Call bm_pg d y_X11_fun [bm_r (some v1), bm_i (0 : Int), bm_i (5 : Int)] w (fun r1 w1 => 
    bm_c1 (fun x1 => bk_L_law_292 d Φ v1 x1 (0 : Int) w1) (fun E => Φ (.inr E) w1) r1)) : bk_L_law_281 d Φ v1 w := bm_go (bm_Call_mono _ _) [50, 81, 87, 102, 108, 125, 131, 147, 162, 168, 184, 190, 208, 222, 228, 250, 253, 281, 292, 299, 318, 326, 361, 375, 388, 405, 426, 435, 454, 478, 484, 517, 535, 548, 581, 605, 629, 635] 379 _ h
set_option maxRecDepth 20000 in
theorem vb_L_law_292 {d : Nat} {Φ : bm_Rt → bm_W → Prop} {v1 : Nat} {v5 : Int} {v6 : Int} {w : bm_W} (h :
  (if (decide ((12 : Int) ≤ v6)) = true then
    bk_L_law_375 d Φ v1 w
  else
    bk_L_law_299 d Φ v1 v5 v6 w)) : bk_L_law_292 d Φ v1 v5 v6 w := bm_go (bm_Call_mono _ _) [50, 81, 87, 102, 108, 125, 131, 147, 162, 168, 184, 190, 208, 222, 228, 250, 253, 281, 292, 299, 318, 326, 361, 375, 388, 405, 426, 435, 454, 478, 484, 517, 535, 548, 581, 605, 629, 635] 379 _ h
set_option maxRecDepth 20000 in
theorem vb_L_law_299 {d : Nat} {Φ : bm_Rt → bm_W → Prop} {v1 : Nat} {v5 : Int} {v6 : Int} {w : bm_W} (h :
  (bm_kt w v1 = 11) ∧ bm_Call bm_pg d y_X11_propose [bm_r (some v1), bm_i (0 : Int)] w (fun r1 w1 => 
    bm_c1 (fun x1 => (if (decide (x1 < 0)) = true then
      bk_L_law_375 d Φ v1 w1
    else
      (bm_kt w1 v1 = 11) ∧ bm_Call bm_pg d y_X11_table [bm_r (some v1), bm_i (0 : Int), bm_i (1 : Int)] w1 (fun r2 w2 => 
        bm_c1 (fun x2 => (if (decide ((12 : Int) ≤ x2)) = true then
          bk_L_law_375 d Φ v1 w2
        else
          bk_L_law_318 d Φ v1 v5 v6 w2)) (fun E => Φ (.inr E) w2) r2))) (fun E => Φ (.inr E) w1) r1)) : bk_L_law_299 d Φ v1 v5 v6 w := bm_go (bm_Call_mono _ _) [50, 81, 87, 102, 108, 125, 131, 147, 162, 168, 184, 190, 208, 222, 228, 250, 253, 281, 292, 299, 318, 326, 361, 375, 388, 405, 426, 435, 454, 478, 484, 517, 535, 548, 581, 605, 629, 635] 379 _ h
set_option maxRecDepth 20000 in
theorem vb_L_law_318 {d : Nat} {Φ : bm_Rt → bm_W → Prop} {v1 : Nat} {v5 : Int} {v6 : Int} {w : bm_W} (h :
  (bm_kt w v1 = 11) ∧ bm_Call bm_pg d y_X11_table [bm_r (some v1), bm_i (0 : Int), bm_i (2 : Int)] w (fun r1 w1 => 
    bm_c1 (fun x1 => bk_L_law_326 d Φ v1 v5 v6 x1 w1) (fun E => Φ (.inr E) w1) r1)) : bk_L_law_318 d Φ v1 v5 v6 w := bm_go (bm_Call_mono _ _) [50, 81, 87, 102, 108, 125, 131, 147, 162, 168, 184, 190, 208, 222, 228, 250, 253, 281, 292, 299, 318, 326, 361, 375, 388, 405, 426, 435, 454, 478, 484, 517, 535, 548, 581, 605, 629, 635] 379 _ h
set_option maxRecDepth 20000 in
theorem vb_L_law_326 {d : Nat} {Φ : bm_Rt → bm_W → Prop} {v1 : Nat} {v5 : Int} {v6 : Int} {v7 : Int} {w : bm_W} (h :
  (bm_kt w v1 = 11) ∧ bm_Call bm_pg d y_X11_grow [bm_r (some v1), bm_i (0 : Int)] w (fun r1 w1 => 
    bm_c1 (fun x1 => (if (!decide (x1 = (bm_w (v7 + (1 : Int))))) = true then
      ((0 : Int) = 0 ∨ (0 : Int) = 1) ∧ Φ (.inl (some (bm_i (0 : Int)))) w1
    else
      (bm_kt w1 v1 = 11) ∧ bm_Call bm_pg d y_X11_holds [bm_r (some v1), bm_i (0 : Int), bm_i v7] w1 (fun r2 w2 => 
        bm_c1 (fun x2 => (if (decide (x2 = 0)) = true then
          ((0 : Int) = 0 ∨ (0 : Int) = 1) ∧ Φ (.inl (some (bm_i (0 : Int)))) w2
        else
          (bm_kt w2 v1 = 11) ∧ bm_Call bm_pg d y_X11_fun [bm_r (some v1), bm_i (0 : Int), bm_i (5 : Int)] w2 (fun r3 w3 => 
            bm_c1 (fun x3 => (if (decide (x3 < v5)) = true then
              bk_L_law_361 d Φ v1 v6 w3
            else
              ((0 : Int) = 0 ∨ (0 : Int) = 1) ∧ Φ (.inl (some (bm_i (0 : Int)))) w3)) (fun E => Φ (.inr E) w3) r3))) (fun E => Φ (.inr E) w2) r2))) (fun E => Φ (.inr E) w1) r1)) : bk_L_law_326 d Φ v1 v5 v6 v7 w := bm_go (bm_Call_mono _ _) [50, 81, 87, 102, 108, 125, 131, 147, 162, 168, 184, 190, 208, 222, 228, 250, 253, 281, 292, 299, 318, 326, 361, 375, 388, 405, 426, 435, 454, 478, 484, 517, 535, 548, 581, 605, 629, 635] 379 _ h
set_option maxRecDepth 20000 in
theorem vb_L_law_361 {d : Nat} {Φ : bm_Rt → bm_W → Prop} {v1 : Nat} {v6 : Int} {w : bm_W} (h :
  (bm_kt w v1 = 11) ∧ bm_Call bm_pg d y_X11_fun [bm_r (some v1), bm_i (0 : Int), bm_i (5 : Int)] w (fun r1 w1 => 
    bm_c1 (fun x1 => bk_L_law_292 d Φ v1 x1 (bm_w (v6 + 1)) w1) (fun E => Φ (.inr E) w1) r1)) : bk_L_law_361 d Φ v1 v6 w := bm_go (bm_Call_mono _ _) [50, 81, 87, 102, 108, 125, 131, 147, 162, 168, 184, 190, 208, 222, 228, 250, 253, 281, 292, 299, 318, 326, 361, 375, 388, 405, 426, 435, 454, 478, 484, 517, 535, 548, 581, 605, 629, 635] 379 _ h
set_option maxRecDepth 20000 in
theorem vb_L_law_375 {d : Nat} {Φ : bm_Rt → bm_W → Prop} {v1 : Nat} {w : bm_W} (h :
  (bm_kt w v1 = 11) ∧ bm_Call bm_pg d y_X11_propose [bm_r (some v1), bm_i (0 : Int)] w (fun r1 w1 => 
    bm_c1 (fun x1 => (if (decide (0 ≤ x1)) = true then
      bk_L_law_388 d Φ v1 (0 : Int) w1
    else
      bk_L_law_388 d Φ v1 (1 : Int) w1)) (fun E => Φ (.inr E) w1) r1)) : bk_L_law_375 d Φ v1 w := bm_go (bm_Call_mono _ _) [50, 81, 87, 102, 108, 125, 131, 147, 162, 168, 184, 190, 208, 222, 228, 250, 253, 281, 292, 299, 318, 326, 361, 375, 388, 405, 426, 435, 454, 478, 484, 517, 535, 548, 581, 605, 629, 635] 379 _ h
set_option maxRecDepth 20000 in
theorem vb_L_law_388 {d : Nat} {Φ : bm_Rt → bm_W → Prop} {v1 : Nat} {s0 : Int} {w : bm_W} (h :
  (bm_kt w v1 = 11) ∧ bm_Call bm_pg d y_X11_fun [bm_r (some v1), bm_i (0 : Int), bm_i (5 : Int)] w (fun r1 w1 => 
    bm_c1 (fun x1 => (if (!decide (x1 = 0)) = true then
      (if (!decide (s0 = (0 : Int))) = true then
        ((0 : Int) = 0 ∨ (0 : Int) = 1) ∧ Φ (.inl (some (bm_i (0 : Int)))) w1
      else
        bk_L_law_405 d Φ v1 w1)
    else
      (if (!decide (s0 = (1 : Int))) = true then
        ((0 : Int) = 0 ∨ (0 : Int) = 1) ∧ Φ (.inl (some (bm_i (0 : Int)))) w1
      else
        bk_L_law_405 d Φ v1 w1))) (fun E => Φ (.inr E) w1) r1)) : bk_L_law_388 d Φ v1 s0 w := bm_go (bm_Call_mono _ _) [50, 81, 87, 102, 108, 125, 131, 147, 162, 168, 184, 190, 208, 222, 228, 250, 253, 281, 292, 299, 318, 326, 361, 375, 388, 405, 426, 435, 454, 478, 484, 517, 535, 548, 581, 605, 629, 635] 379 _ h
set_option maxRecDepth 20000 in
theorem vb_L_law_405 {d : Nat} {Φ : bm_Rt → bm_W → Prop} {v1 : Nat} {w : bm_W} (h :
  (bm_kt w v1 = 11) ∧ bm_Call bm_pg d y_X11_propose [bm_r (some v1), bm_i (0 : Int)] w (fun r1 w1 => 
    bm_c1 (fun x1 => (if (decide (x1 < 0)) = true then
      bk_L_law_426 d Φ v1 w1
    else
      (bm_kt w1 v1 = 11) ∧ bm_Call bm_pg d y_X11_table [bm_r (some v1), bm_i (0 : Int), bm_i (1 : Int)] w1 (fun r2 w2 => 
        bm_c1 (fun x2 => (if (decide (x2 = (12 : Int))) = true then
          bk_L_law_426 d Φ v1 w2
        else
          ((0 : Int) = 0 ∨ (0 : Int) = 1) ∧ Φ (.inl (some (bm_i (0 : Int)))) w2)) (fun E => Φ (.inr E) w2) r2))) (fun E => Φ (.inr E) w1) r1)) : bk_L_law_405 d Φ v1 w := bm_go (bm_Call_mono _ _) [50, 81, 87, 102, 108, 125, 131, 147, 162, 168, 184, 190, 208, 222, 228, 250, 253, 281, 292, 299, 318, 326, 361, 375, 388, 405, 426, 435, 454, 478, 484, 517, 535, 548, 581, 605, 629, 635] 379 _ h
set_option maxRecDepth 20000 in
theorem vb_L_law_426 {d : Nat} {Φ : bm_Rt → bm_W → Prop} {v1 : Nat} {w : bm_W} (h :
  (bm_kt w v1 = 11) ∧ bm_Call bm_pg d y_X11_table [bm_r (some v1), bm_i (0 : Int), bm_i (4 : Int)] w (fun r1 w1 => 
    bm_c1 (fun x1 => (if (decide (0 < x1)) = true then
      ((0 : Int) = 0 ∨ (0 : Int) = 1) ∧ Φ (.inl (some (bm_i (0 : Int)))) w1
    else
      bk_L_law_435 d Φ v1 w1)) (fun E => Φ (.inr E) w1) r1)) : bk_L_law_426 d Φ v1 w := bm_go (bm_Call_mono _ _) [50, 81, 87, 102, 108, 125, 131, 147, 162, 168, 184, 190, 208, 222, 228, 250, 253, 281, 292, 299, 318, 326, 361, 375, 388, 405, 426, 435, 454, 478, 484, 517, 535, 548, 581, 605, 629, 635] 379 _ h
set_option maxRecDepth 20000 in
theorem vb_L_law_435 {d : Nat} {Φ : bm_Rt → bm_W → Prop} {v1 : Nat} {w : bm_W} (h :
  (bm_kt w v1 = 11) ∧ bm_Call bm_pg d y_X11_table [bm_r (some v1), bm_i (0 : Int), bm_i (3 : Int)] w (fun r1 w1 => 
    bm_c1 (fun x1 => (bm_kt w1 v1 = 11) ∧ bm_Call bm_pg d y_X11_table [bm_r (some v1), bm_i (0 : Int), bm_i (2 : Int)] w1 (fun r2 w2 => 
      bm_c1 (fun x2 => (if (decide ((bm_w (x2 - (1 : Int))) ≤ x1)) = true then
        bk_L_law_454 d Φ v1 w2
      else
        ((0 : Int) = 0 ∨ (0 : Int) = 1) ∧ Φ (.inl (some (bm_i (0 : Int)))) w2)) (fun E => Φ (.inr E) w2) r2)) (fun E => Φ (.inr E) w1) r1)) : bk_L_law_435 d Φ v1 w := bm_go (bm_Call_mono _ _) [50, 81, 87, 102, 108, 125, 131, 147, 162, 168, 184, 190, 208, 222, 228, 250, 253, 281, 292, 299, 318, 326, 361, 375, 388, 405, 426, 435, 454, 478, 484, 517, 535, 548, 581, 605, 629, 635] 379 _ h
set_option maxRecDepth 20000 in
theorem vb_L_law_454 {d : Nat} {Φ : bm_Rt → bm_W → Prop} {v1 : Nat} {w : bm_W} (h :
  (bm_kt w v1 = 11) ∧ bm_Call bm_pg d y_X11_taken [bm_r (some v1), bm_i (0 : Int), bm_i (1 : Int)] w (fun r1 w1 => 
    bm_c1 (fun x1 => (bm_kt w1 v1 = 11) ∧ bm_Call bm_pg d y_X11_taken [bm_r (some v1), bm_i (0 : Int), bm_i (0 : Int)] w1 (fun r2 w2 => 
      bm_c1 (fun x2 => (bm_kt w2 v1 = 11) ∧ bm_Call bm_pg d y_X11_table [bm_r (some v1), bm_i (0 : Int), bm_i (2 : Int)] w2 (fun r3 w3 => 
        bm_c1 (fun x3 => (if (decide ((bm_w (x1 + x2)) = x3)) = true then
          bk_L_law_478 d Φ v1 w3
        else
          ((0 : Int) = 0 ∨ (0 : Int) = 1) ∧ Φ (.inl (some (bm_i (0 : Int)))) w3)) (fun E => Φ (.inr E) w3) r3)) (fun E => Φ (.inr E) w2) r2)) (fun E => Φ (.inr E) w1) r1)) : bk_L_law_454 d Φ v1 w := bm_go (bm_Call_mono _ _) [50, 81, 87, 102, 108, 125, 131, 147, 162, 168, 184, 190, 208, 222, 228, 250, 253, 281, 292, 299, 318, 326, 361, 375, 388, 405, 426, 435, 454, 478, 484, 517, 535, 548, 581, 605, 629, 635] 379 _ h
set_option maxRecDepth 20000 in
theorem vb_L_law_478 {d : Nat} {Φ : bm_Rt → bm_W → Prop} {v1 : Nat} {w : bm_W} (h :
  bk_L_law_484 d Φ v1 (0 : Int) (0 : Int) w) : bk_L_law_478 d Φ v1 w := bm_go (bm_Call_mono _ _) [50, 81, 87, 102, 108, 125, 131, 147, 162, 168, 184, 190, 208, 222, 228, 250, 253, 281, 292, 299, 318, 326, 361, 375, 388, 405, 426, 435, 454, 478, 484, 517, 535, 548, 581, 605, 629, 635] 379 _ h
set_option maxRecDepth 20000 in
theorem vb_L_law_484 {d : Nat} {Φ : bm_Rt → bm_W → Prop} {v1 : Nat} {v6 : Int} {v7 : Int} {w : bm_W} (h :
  (if (decide ((6 : Int) ≤ v7)) = true then
    bk_L_law_517 d Φ v1 v6 w
  else
    (bm_kt w v1 = 11) ∧ bm_Call bm_pg d y_X11_finds [bm_r (some v1), bm_i (0 : Int), bm_i v7] w (fun r1 w1 => 
      bm_c1 (fun x1 => (if (decide (x1 = 0)) = true then
        bk_L_law_484 d Φ v1 (bm_w (v6 + (0 : Int))) (bm_w (v7 + 1)) w1
      else
        bk_L_law_484 d Φ v1 (bm_w (v6 + (1 : Int))) (bm_w (v7 + 1)) w1)) (fun E => Φ (.inr E) w1) r1))) : bk_L_law_484 d Φ v1 v6 v7 w := bm_go (bm_Call_mono _ _) [50, 81, 87, 102, 108, 125, 131, 147, 162, 168, 184, 190, 208, 222, 228, 250, 253, 281, 292, 299, 318, 326, 361, 375, 388, 405, 426, 435, 454, 478, 484, 517, 535, 548, 581, 605, 629, 635] 379 _ h
set_option maxRecDepth 20000 in
theorem vb_L_law_517 {d : Nat} {Φ : bm_Rt → bm_W → Prop} {v1 : Nat} {v6 : Int} {w : bm_W} (h :
  (bm_kt w v1 = 11) ∧ bm_Call bm_pg d y_X11_score [bm_r (some v1), bm_i (0 : Int)] w (fun r1 w1 => 
    bm_c4 (fun x1 => (vf_n64 (FP.ddiv (FP.i2d (Int32.ofInt v6)) (4618441417868443648 : UInt64))) ∧
    (if (decide (FP.dcmp x1 (FP.ddiv (FP.i2d (Int32.ofInt v6)) (4618441417868443648 : UInt64)) = some .eq)) = true then
      bk_L_law_535 d Φ v1 v6 w1
    else
      ((0 : Int) = 0 ∨ (0 : Int) = 1) ∧ Φ (.inl (some (bm_i (0 : Int)))) w1)) (fun E => Φ (.inr E) w1) r1)) : bk_L_law_517 d Φ v1 v6 w := bm_go (bm_Call_mono _ _) [50, 81, 87, 102, 108, 125, 131, 147, 162, 168, 184, 190, 208, 222, 228, 250, 253, 281, 292, 299, 318, 326, 361, 375, 388, 405, 426, 435, 454, 478, 484, 517, 535, 548, 581, 605, 629, 635] 379 _ h
set_option maxRecDepth 20000 in
theorem vb_L_law_535 {d : Nat} {Φ : bm_Rt → bm_W → Prop} {v1 : Nat} {v6 : Int} {w : bm_W} (h :
  (bm_kt w v1 = 11) ∧ bm_Call bm_pg d y_X11_shorten [bm_r (some v1), bm_i (0 : Int)] w (fun r1 w1 => 
    bm_c1 (fun x1 => bk_L_law_548 d Φ v1 v6 x1 (0 : Int) (0 : Int) w1) (fun E => Φ (.inr E) w1) r1)) : bk_L_law_535 d Φ v1 v6 w := bm_go (bm_Call_mono _ _) [50, 81, 87, 102, 108, 125, 131, 147, 162, 168, 184, 190, 208, 222, 228, 250, 253, 281, 292, 299, 318, 326, 361, 375, 388, 405, 426, 435, 454, 478, 484, 517, 535, 548, 581, 605, 629, 635] 379 _ h
set_option maxRecDepth 20000 in
theorem vb_L_law_548 {d : Nat} {Φ : bm_Rt → bm_W → Prop} {v1 : Nat} {v6 : Int} {v7 : Int} {v8 : Int} {v9 : Int} {w : bm_W} (h :
  (if (decide ((6 : Int) ≤ v9)) = true then
    bk_L_law_581 d Φ v1 v6 v7 v8 w
  else
    (bm_kt w v1 = 11) ∧ bm_Call bm_pg d y_X11_finds [bm_r (some v1), bm_i (0 : Int), bm_i v9] w (fun r1 w1 => 
      bm_c1 (fun x1 => (if (decide (x1 = 0)) = true then
        bk_L_law_548 d Φ v1 v6 v7 (bm_w (v8 + (0 : Int))) (bm_w (v9 + 1)) w1
      else
        bk_L_law_548 d Φ v1 v6 v7 (bm_w (v8 + (1 : Int))) (bm_w (v9 + 1)) w1)) (fun E => Φ (.inr E) w1) r1))) : bk_L_law_548 d Φ v1 v6 v7 v8 v9 w := bm_go (bm_Call_mono _ _) [50, 81, 87, 102, 108, 125, 131, 147, 162, 168, 184, 190, 208, 222, 228, 250, 253, 281, 292, 299, 318, 326, 361, 375, 388, 405, 426, 435, 454, 478, 484, 517, 535, 548, 581, 605, 629, 635] 379 _ h
set_option maxRecDepth 20000 in
theorem vb_L_law_581 {d : Nat} {Φ : bm_Rt → bm_W → Prop} {v1 : Nat} {v6 : Int} {v7 : Int} {v8 : Int} {w : bm_W} (h :
  (if (!decide (v8 = v6)) = true then
    ((0 : Int) = 0 ∨ (0 : Int) = 1) ∧ Φ (.inl (some (bm_i (0 : Int)))) w
  else
    (if (decide (v7 < (1 : Int))) = true then
      ((0 : Int) = 0 ∨ (0 : Int) = 1) ∧ Φ (.inl (some (bm_i (0 : Int)))) w
    else
      (true = true) ∧
      (if (decide ((if (1 : Int) < v6 then v6 else (1 : Int)) < v7)) = true then
        ((0 : Int) = 0 ∨ (0 : Int) = 1) ∧ Φ (.inl (some (bm_i (0 : Int)))) w
      else
        bk_L_law_605 d Φ v1 v7 w)))) : bk_L_law_581 d Φ v1 v6 v7 v8 w := bm_go (bm_Call_mono _ _) [50, 81, 87, 102, 108, 125, 131, 147, 162, 168, 184, 190, 208, 222, 228, 250, 253, 281, 292, 299, 318, 326, 361, 375, 388, 405, 426, 435, 454, 478, 484, 517, 535, 548, 581, 605, 629, 635] 379 _ h
set_option maxRecDepth 20000 in
theorem vb_L_law_605 {d : Nat} {Φ : bm_Rt → bm_W → Prop} {v1 : Nat} {v7 : Int} {w : bm_W} (h :
  (bm_kt w v1 = 11) ∧ bm_Call bm_pg d y_X11_table [bm_r (some v1), bm_i (0 : Int), bm_i (1 : Int)] w (fun r1 w1 => 
    bm_c1 (fun x1 => (if (!decide (x1 = v7)) = true then
      ((0 : Int) = 0 ∨ (0 : Int) = 1) ∧ Φ (.inl (some (bm_i (0 : Int)))) w1
    else
      (bm_kt w1 v1 = 11) ∧ bm_Call bm_pg d y_X11_table [bm_r (some v1), bm_i (0 : Int), bm_i (2 : Int)] w1 (fun r2 w2 => 
        bm_c1 (fun x2 => (if (decide (x2 = v7)) = true then
          bk_L_law_629 d Φ v1 v7 w2
        else
          ((0 : Int) = 0 ∨ (0 : Int) = 1) ∧ Φ (.inl (some (bm_i (0 : Int)))) w2)) (fun E => Φ (.inr E) w2) r2))) (fun E => Φ (.inr E) w1) r1)) : bk_L_law_605 d Φ v1 v7 w := bm_go (bm_Call_mono _ _) [50, 81, 87, 102, 108, 125, 131, 147, 162, 168, 184, 190, 208, 222, 228, 250, 253, 281, 292, 299, 318, 326, 361, 375, 388, 405, 426, 435, 454, 478, 484, 517, 535, 548, 581, 605, 629, 635] 379 _ h
set_option maxRecDepth 20000 in
theorem vb_L_law_629 {d : Nat} {Φ : bm_Rt → bm_W → Prop} {v1 : Nat} {v7 : Int} {w : bm_W} (h :
  (bm_kt w v1 = 11) ∧ bm_Call bm_pg d y_X11_digest [bm_r (some v1)] w (fun r1 w1 => 
    bm_c2 (fun x1 => bk_L_law_635 d Φ v1 v7 x1 w1) (fun E => Φ (.inr E) w1) r1)) : bk_L_law_629 d Φ v1 v7 w := bm_go (bm_Call_mono _ _) [50, 81, 87, 102, 108, 125, 131, 147, 162, 168, 184, 190, 208, 222, 228, 250, 253, 281, 292, 299, 318, 326, 361, 375, 388, 405, 426, 435, 454, 478, 484, 517, 535, 548, 581, 605, 629, 635] 379 _ h
set_option maxRecDepth 20000 in
theorem vb_L_law_635 {d : Nat} {Φ : bm_Rt → bm_W → Prop} {v1 : Nat} {v7 : Int} {v9 : Int} {w : bm_W} (h :
  (bm_kt w v1 = 11) ∧ bm_Call bm_pg d y_X11_shorten [bm_r (some v1), bm_i (0 : Int)] w (fun r1 w1 => 
    bm_c1 (fun x1 => (if (!decide (x1 = v7)) = true then
      ((0 : Int) = 0 ∨ (0 : Int) = 1) ∧ Φ (.inl (some (bm_i (0 : Int)))) w1
    else
      (bm_kt w1 v1 = 11) ∧ bm_Call bm_pg d y_X11_digest [bm_r (some v1)] w1 (fun r2 w2 => 
        bm_c2 (fun x2 => (if (!decide (x2 = v9)) = true then
          ((0 : Int) = 0 ∨ (0 : Int) = 1) ∧ Φ (.inl (some (bm_i (0 : Int)))) w2
        else
          ((1 : Int) = 0 ∨ (1 : Int) = 1) ∧ Φ (.inl (some (bm_i (1 : Int)))) w2)) (fun E => Φ (.inr E) w2) r2))) (fun E => Φ (.inr E) w1) r1)) : bk_L_law_635 d Φ v1 v7 v9 w := bm_go (bm_Call_mono _ _) [50, 81, 87, 102, 108, 125, 131, 147, 162, 168, 184, 190, 208, 222, 228, 250, 253, 281, 292, 299, 318, 326, 361, 375, 388, 405, 426, 435, 454, 478, 484, 517, 535, 548, 581, 605, 629, 635] 379 _ h

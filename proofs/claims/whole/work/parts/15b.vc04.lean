/-! what the rows of the methods come to (laid by program) -/
/-! CaseTables$Untried.pairCount()I -/
set_option maxRecDepth 20000 in
theorem vc_X10_pairCount {d : Nat} {Φ : bm_Rt → bm_W → Prop} {p0 : Nat} {w : bm_W} (h :
  (bm_kt w p0 = 10 ∧ bm_gr w p0 0 = some (bm_u (bm_gr w p0 0))) ∧
  (True) ∧ bm_Call bm_pg d y_X10_bits [bm_r (some (bm_u (bm_gr w p0 0)))] w (fun r1 w1 => 
    bm_c1 (fun x1 => (bm_kt w1 p0 = 10 ∧ bm_gr w1 p0 1 = some (bm_u (bm_gr w1 p0 1))) ∧
    (True) ∧ bm_Call bm_pg d y_X10_bits [bm_r (some (bm_u (bm_gr w1 p0 1)))] w1 (fun r2 w2 => 
      bm_c1 (fun x2 => (bm_kt w2 p0 = 10 ∧ bm_gr w2 p0 2 = some (bm_u (bm_gr w2 p0 2))) ∧
      (True) ∧ bm_Call bm_pg d y_X10_bits [bm_r (some (bm_u (bm_gr w2 p0 2)))] w2 (fun r3 w3 => 
        bm_c1 (fun x3 => Φ (.inl (some (bm_i (bm_w ((bm_w (x1 + x2)) + x3))))) w3) (fun E => Φ (.inr E) w3) r3)) (fun E => Φ (.inr E) w2) r2)) (fun E => Φ (.inr E) w1) r1)) : bm_Call bm_pg (d + 1) y_X10_pairCount [bm_r (some p0)] w Φ := bm_enter rfl (bm_go (bm_Call_mono _ _) [] 14 _ h)
/-! CaseTables$Untried.bestRow()I -/
def bk_X10_bestRow_6 (d : Nat) (Φ : bm_Rt → bm_W → Prop) (v0 : Nat) (v1 : Int) (v2 : Int) (v3 : Int) (w : bm_W) : Prop := bm_Wp (bm_Call bm_pg d) tb_X10_bestRow Φ (6, [some (bm_r (some v0)), some (bm_i v1), some (bm_i v2), some (bm_i v3), none, none, none], [], w)
def bk_X10_bestRow_17 (d : Nat) (Φ : bm_Rt → bm_W → Prop) (v0 : Nat) (v1 : Int) (v2 : Int) (v3 : Int) (v4 : Int) (w : bm_W) : Prop := bm_Wp (bm_Call bm_pg d) tb_X10_bestRow Φ (17, [some (bm_r (some v0)), some (bm_i v1), some (bm_i v2), some (bm_i v3), some (bm_i v4), none, none], [], w)
set_option maxRecDepth 20000 in
theorem vc_X10_bestRow {d : Nat} {Φ : bm_Rt → bm_W → Prop} {p0 : Nat} {w : bm_W} (h :
  bk_X10_bestRow_6 d Φ p0 (-1 : Int) (0 : Int) (0 : Int) w) : bm_Call bm_pg (d + 1) y_X10_bestRow [bm_r (some p0)] w Φ := bm_enter rfl (bm_go (bm_Call_mono _ _) [6, 17] 52 _ h)
set_option maxRecDepth 20000 in
theorem vb_X10_bestRow_6 {d : Nat} {Φ : bm_Rt → bm_W → Prop} {v0 : Nat} {v1 : Int} {v2 : Int} {v3 : Int} {w : bm_W} (h :
  (bm_kt w v0 = 10) ∧
  (if (decide ((bm_gi w v0 3) ≤ v3)) = true then
    Φ (.inl (some (bm_i v1))) w
  else
    bk_X10_bestRow_17 d Φ v0 v1 v2 v3 (0 : Int) w)) : bk_X10_bestRow_6 d Φ v0 v1 v2 v3 w := bm_go (bm_Call_mono _ _) [6, 17] 52 _ h
set_option maxRecDepth 20000 in
theorem vb_X10_bestRow_17 {d : Nat} {Φ : bm_Rt → bm_W → Prop} {v0 : Nat} {v1 : Int} {v2 : Int} {v3 : Int} {v4 : Int} {w : bm_W} (h :
  (bm_kt w v0 = 10) ∧
  (if (decide ((bm_gi w v0 4) ≤ v4)) = true then
    bk_X10_bestRow_6 d Φ v0 v1 v2 (bm_w (v3 + 1)) w
  else
    (bm_kt w v0 = 10) ∧ bm_Call bm_pg d y_X10_bestThird [bm_r (some v0), bm_i v3, bm_i v4] w (fun r1 w1 => 
      bm_c1 (fun x1 => (bm_kt w1 v0 = 10) ∧ bm_Call bm_pg d y_X10_pairsIn [bm_r (some v0), bm_i v3, bm_i v4, bm_i x1] w1 (fun r2 w2 => 
        bm_c1 (fun x2 => (if (decide (x2 ≤ v2)) = true then
          bk_X10_bestRow_17 d Φ v0 v1 v2 v3 (bm_w (v4 + 1)) w2
        else
          (bm_kt w2 v0 = 10) ∧
          (bm_kt w2 v0 = 10) ∧
          bk_X10_bestRow_17 d Φ v0 (bm_w ((bm_w ((bm_w ((bm_w (v3 * (bm_gi w2 v0 4))) + v4)) * (bm_gi w2 v0 5))) + x1)) x2 v3 (bm_w (v4 + 1)) w2)) (fun E => Φ (.inr E) w2) r2)) (fun E => Φ (.inr E) w1) r1))) : bk_X10_bestRow_17 d Φ v0 v1 v2 v3 v4 w := bm_go (bm_Call_mono _ _) [6, 17] 52 _ h
/-! CaseTables$Untried.bestThird(II)I -/
set_option maxRecDepth 20000 in
theorem vc_X10_bestThird {d : Nat} {Φ : bm_Rt → bm_W → Prop} {p0 : Nat} {p1 : Int} {p2 : Int} {w : bm_W} (h :
  (bm_kt w p0 = 10 ∧ bm_gr w p0 1 = some (bm_u (bm_gr w p0 1))) ∧
  (True) ∧ bm_Call bm_pg d y_X10_maskAt [bm_r (some (bm_u (bm_gr w p0 1))), bm_i p1] w (fun r1 w1 => 
    bm_c2 (fun x1 => (bm_kt w1 p0 = 10 ∧ bm_gr w1 p0 2 = some (bm_u (bm_gr w1 p0 2))) ∧
    (True) ∧ bm_Call bm_pg d y_X10_maskAt [bm_r (some (bm_u (bm_gr w1 p0 2))), bm_i p2] w1 (fun r2 w2 => 
      bm_c2 (fun x2 => (if (!decide (((Int64.ofInt x1 &&& Int64.ofInt x2).toInt) = (0 : Int))) = true then
        (True) ∧ bm_Call bm_pg d y_X10_lowestBit [bm_l ((Int64.ofInt x1 &&& Int64.ofInt x2).toInt)] w2 (fun r3 w3 => 
          bm_c1 (fun x3 => Φ (.inl (some (bm_i x3))) w3) (fun E => Φ (.inr E) w3) r3)
      else
        (True) ∧ bm_Call bm_pg d y_X10_lowestBit [bm_l ((Int64.ofInt x1 ||| Int64.ofInt x2).toInt)] w2 (fun r4 w4 => 
          bm_c1 (fun x4 => Φ (.inl (some (bm_i x4))) w4) (fun E => Φ (.inr E) w4) r4))) (fun E => Φ (.inr E) w2) r2)) (fun E => Φ (.inr E) w1) r1)) : bm_Call bm_pg (d + 1) y_X10_bestThird [bm_r (some p0), bm_i p1, bm_i p2] w Φ := bm_enter rfl (bm_go (bm_Call_mono _ _) [] 26 _ h)
/-! CaseTables$Untried.pairsIn(III)I -/
set_option maxRecDepth 20000 in
theorem vc_X10_pairsIn {d : Nat} {Φ : bm_Rt → bm_W → Prop} {p0 : Nat} {p1 : Int} {p2 : Int} {p3 : Int} {w : bm_W} (h :
  (bm_kt w p0 = 10 ∧ bm_gr w p0 0 = some (bm_u (bm_gr w p0 0))) ∧
  (True) ∧ bm_Call bm_pg d y_X10_bitAt [bm_r (some (bm_u (bm_gr w p0 0))), bm_i p1, bm_i p2] w (fun r1 w1 => 
    bm_c1 (fun x1 => (bm_kt w1 p0 = 10 ∧ bm_gr w1 p0 1 = some (bm_u (bm_gr w1 p0 1))) ∧
    (True) ∧ bm_Call bm_pg d y_X10_bitAt [bm_r (some (bm_u (bm_gr w1 p0 1))), bm_i p1, bm_i p3] w1 (fun r2 w2 => 
      bm_c1 (fun x2 => (bm_kt w2 p0 = 10 ∧ bm_gr w2 p0 2 = some (bm_u (bm_gr w2 p0 2))) ∧
      (True) ∧ bm_Call bm_pg d y_X10_bitAt [bm_r (some (bm_u (bm_gr w2 p0 2))), bm_i p2, bm_i p3] w2 (fun r3 w3 => 
        bm_c1 (fun x3 => Φ (.inl (some (bm_i (bm_w ((bm_w (x1 + x2)) + x3))))) w3) (fun E => Φ (.inr E) w3) r3)) (fun E => Φ (.inr E) w2) r2)) (fun E => Φ (.inr E) w1) r1)) : bm_Call bm_pg (d + 1) y_X10_pairsIn [bm_r (some p0), bm_i p1, bm_i p2, bm_i p3] w Φ := bm_enter rfl (bm_go (bm_Call_mono _ _) [] 20 _ h)
/-! CaseTables$Untried.fill([JII)V -/
def bk_X10_fill_2 (d : Nat) (Φ : bm_Rt → bm_W → Prop) (v0 : Nat) (v1 : Int) (v2 : Int) (v3 : Int) (w : bm_W) : Prop := bm_Wp (bm_Call bm_pg d) tb_X10_fill Φ (2, [some (bm_r (some v0)), some (bm_i v1), some (bm_i v2), some (bm_i v3)], [], w)
set_option maxRecDepth 20000 in
theorem vc_X10_fill {d : Nat} {Φ : bm_Rt → bm_W → Prop} {p0 : Nat} {p1 : Int} {p2 : Int} {w : bm_W} (h :
  bk_X10_fill_2 d Φ p0 p1 p2 (0 : Int) w) : bm_Call bm_pg (d + 1) y_X10_fill [bm_r (some p0), bm_i p1, bm_i p2] w Φ := bm_enter rfl (bm_go (bm_Call_mono _ _) [2] 21 _ h)
set_option maxRecDepth 20000 in
theorem vb_X10_fill_2 {d : Nat} {Φ : bm_Rt → bm_W → Prop} {v0 : Nat} {v1 : Int} {v2 : Int} {v3 : Int} {w : bm_W} (h :
  (20 ≤ bm_kt w v0 ∧ bm_kt w v0 < 27) ∧
  (if (decide ((bm_kn w v0 : Int) ≤ v3)) = true then
    Φ (.inl none) w
  else
    (if (decide (v1 ≤ v3)) = true then
      (bm_kt w v0 = 22 ∧ bm_in v3 (bm_kn w v0)) ∧
      bk_X10_fill_2 d Φ v0 v1 v2 (bm_w (v3 + 1)) (bm_sq w v0 (v3).toNat (0 : Int))
    else
      (True) ∧ bm_Call bm_pg d y_X10_upTo [bm_i v2] w (fun r1 w1 => 
        bm_c2 (fun x1 => (bm_kt w1 v0 = 22 ∧ bm_in v3 (bm_kn w1 v0)) ∧
        bk_X10_fill_2 d Φ v0 v1 v2 (bm_w (v3 + 1)) (bm_sq w1 v0 (v3).toNat x1)) (fun E => Φ (.inr E) w1) r1)))) : bk_X10_fill_2 d Φ v0 v1 v2 v3 w := bm_go (bm_Call_mono _ _) [2] 21 _ h
/-! CaseTables$Untried.strike([JLCaseTables$Ranges;LCaseTables$Ranges;II)V -/
def bk_X10_strike_67 (d : Nat) (Φ : bm_Rt → bm_W → Prop) (v0 : Nat) (v5 : Int) (v7 : Int) (v8 : Int) (w : bm_W) : Prop := bm_Wp (bm_Call bm_pg d) tb_X10_strike Φ (67, [some (bm_r (some v0)), none, none, none, none, some (bm_l v5), none, some (bm_i v7), some (bm_i v8)], [], w)
set_option maxRecDepth 20000 in
theorem vc_X10_strike {d : Nat} {Φ : bm_Rt → bm_W → Prop} {p0 : Nat} {p1 : Nat} {p2 : Nat} {p3 : Int} {p4 : Int} {w : bm_W} (h :
  (bm_kt w p2 = 4) ∧ bm_Call bm_pg d y_X4_high [bm_r (some p2), bm_i p4] w (fun r1 w1 => 
    bm_c1 (fun x1 => (bm_kt w1 p1 = 4) ∧ bm_Call bm_pg d y_X4_low [bm_r (some p1), bm_i p4] w1 (fun r2 w2 => 
      bm_c1 (fun x2 => (True) ∧ bm_Call bm_pg d y_X10_upTo [bm_i (bm_w ((bm_w (x1 - x2)) + (1 : Int)))] w2 (fun r3 w3 => 
        bm_c2 (fun x3 => (bm_kt w3 p2 = 4) ∧ bm_Call bm_pg d y_X4_low [bm_r (some p2), bm_i p4] w3 (fun r4 w4 => 
          bm_c1 (fun x4 => (bm_kt w4 p1 = 4) ∧ bm_Call bm_pg d y_X4_low [bm_r (some p1), bm_i p4] w4 (fun r5 w5 => 
            bm_c1 (fun x5 => (True) ∧ bm_Call bm_pg d y_X10_upTo [bm_i (bm_w (x4 - x5))] w5 (fun r6 w6 => 
              bm_c2 (fun x6 => (bm_kt w6 p2 = 4) ∧ bm_Call bm_pg d y_X4_high [bm_r (some p2), bm_i p3] w6 (fun r7 w7 => 
                bm_c1 (fun x7 => (bm_kt w7 p1 = 4) ∧ bm_Call bm_pg d y_X4_low [bm_r (some p1), bm_i p3] w7 (fun r8 w8 => 
                  bm_c1 (fun x8 => (bm_kt w8 p2 = 4) ∧ bm_Call bm_pg d y_X4_low [bm_r (some p2), bm_i p3] w8 (fun r9 w9 => 
                    bm_c1 (fun x9 => (bm_kt w9 p1 = 4) ∧ bm_Call bm_pg d y_X4_low [bm_r (some p1), bm_i p3] w9 (fun r10 w10 => 
                      bm_c1 (fun x10 => bk_X10_strike_67 d Φ p0 ((Int64.ofInt x3 &&& Int64.ofInt ((Int64.ofInt x6 ^^^ Int64.ofInt (-1 : Int)).toInt)).toInt) (bm_w (x7 - x8)) (bm_w (x9 - x10)) w10) (fun E => Φ (.inr E) w10) r10)) (fun E => Φ (.inr E) w9) r9)) (fun E => Φ (.inr E) w8) r8)) (fun E => Φ (.inr E) w7) r7)) (fun E => Φ (.inr E) w6) r6)) (fun E => Φ (.inr E) w5) r5)) (fun E => Φ (.inr E) w4) r4)) (fun E => Φ (.inr E) w3) r3)) (fun E => Φ (.inr E) w2) r2)) (fun E => Φ (.inr E) w1) r1)) : bm_Call bm_pg (d + 1) y_X10_strike [bm_r (some p0), bm_r (some p1), bm_r (some p2), bm_i p3, bm_i p4] w Φ := bm_enter rfl (bm_go (bm_Call_mono _ _) [67] 61 _ h)
set_option maxRecDepth 20000 in
theorem vb_X10_strike_67 {d : Nat} {Φ : bm_Rt → bm_W → Prop} {v0 : Nat} {v5 : Int} {v7 : Int} {v8 : Int} {w : bm_W} (h :
  (if (decide (v7 < v8)) = true then
    Φ (.inl none) w
  else
    (if (decide (v8 < 0)) = true then
      bk_X10_strike_67 d Φ v0 v5 v7 (bm_w (v8 + 1)) w
    else
      (20 ≤ bm_kt w v0 ∧ bm_kt w v0 < 27) ∧
      (if (decide ((bm_kn w v0 : Int) ≤ v8)) = true then
        bk_X10_strike_67 d Φ v0 v5 v7 (bm_w (v8 + 1)) w
      else
        (bm_kt w v0 = 22 ∧ bm_in v8 (bm_kn w v0)) ∧
        (bm_kt w v0 = 22 ∧ bm_in v8 (bm_kn w v0)) ∧
        bk_X10_strike_67 d Φ v0 v5 v7 (bm_w (v8 + 1)) (bm_sq w v0 (v8).toNat ((Int64.ofInt (bm_gl w v0 (v8).toNat) &&& Int64.ofInt ((Int64.ofInt v5 ^^^ Int64.ofInt (-1 : Int)).toInt)).toInt)))))) : bk_X10_strike_67 d Φ v0 v5 v7 v8 w := bm_go (bm_Call_mono _ _) [67] 61 _ h
/-! CaseTables$Untried.lowestBit(J)I -/
set_option maxRecDepth 20000 in
theorem vc_X10_lowestBit {d : Nat} {Φ : bm_Rt → bm_W → Prop} {p0 : Int} {w : bm_W} (h :
  (if (!decide (p0 = (0 : Int))) = true then
    (True) ∧ bm_Call bm_pg d y_J13_bitCount_95d88 [bm_l (bm_x (((Int64.ofInt p0 &&& Int64.ofInt (bm_x (-p0))).toInt) - (1 : Int)))] w (fun r1 w1 => 
      bm_c1 (fun x1 => Φ (.inl (some (bm_i x1))) w1) (fun E => Φ (.inr E) w1) r1)
  else
    Φ (.inl (some (bm_i (0 : Int)))) w)) : bm_Call bm_pg (d + 1) y_X10_lowestBit [bm_l p0] w Φ := bm_enter rfl (bm_go (bm_Call_mono _ _) [] 15 _ h)
/-! CaseTables$Untried.upTo(I)J -/
set_option maxRecDepth 20000 in
theorem vc_X10_upTo {d : Nat} {Φ : bm_Rt → bm_W → Prop} {p0 : Int} {w : bm_W} (h :
  Φ (.inl (some (bm_l (bm_x (((Int64.ofInt (1 : Int) <<< ((Int32.ofInt p0).toInt64 &&& 63)).toInt) - (1 : Int)))))) w) : bm_Call bm_pg (d + 1) y_X10_upTo [bm_i p0] w Φ := bm_enter rfl (bm_go (bm_Call_mono _ _) [] 8 _ h)
/-! CaseTables$Untried.bits([J)I -/
def bk_X10_bits_4 (d : Nat) (Φ : bm_Rt → bm_W → Prop) (v0 : Nat) (v1 : Int) (v2 : Int) (w : bm_W) : Prop := bm_Wp (bm_Call bm_pg d) tb_X10_bits Φ (4, [some (bm_r (some v0)), some (bm_i v1), some (bm_i v2)], [], w)
set_option maxRecDepth 20000 in
theorem vc_X10_bits {d : Nat} {Φ : bm_Rt → bm_W → Prop} {p0 : Nat} {w : bm_W} (h :
  bk_X10_bits_4 d Φ p0 (0 : Int) (0 : Int) w) : bm_Call bm_pg (d + 1) y_X10_bits [bm_r (some p0)] w Φ := bm_enter rfl (bm_go (bm_Call_mono _ _) [4] 21 _ h)
set_option maxRecDepth 20000 in
theorem vb_X10_bits_4 {d : Nat} {Φ : bm_Rt → bm_W → Prop} {v0 : Nat} {v1 : Int} {v2 : Int} {w : bm_W} (h :
  (20 ≤ bm_kt w v0 ∧ bm_kt w v0 < 27) ∧
  (if (decide ((bm_kn w v0 : Int) ≤ v2)) = true then
    Φ (.inl (some (bm_i v1))) w
  else
    (bm_kt w v0 = 22 ∧ bm_in v2 (bm_kn w v0)) ∧
    (True) ∧ bm_Call bm_pg d y_J13_bitCount_95d88 [bm_l (bm_gl w v0 (v2).toNat)] w (fun r1 w1 => 
      bm_c1 (fun x1 => bk_X10_bits_4 d Φ v0 (bm_w (v1 + x1)) (bm_w (v2 + 1)) w1) (fun E => Φ (.inr E) w1) r1))) : bk_X10_bits_4 d Φ v0 v1 v2 w := bm_go (bm_Call_mono _ _) [4] 21 _ h
/-! CaseTables$Untried.maskAt([JI)J -/
set_option maxRecDepth 20000 in
theorem vc_X10_maskAt {d : Nat} {Φ : bm_Rt → bm_W → Prop} {p0 : Nat} {p1 : Int} {w : bm_W} (h :
  (if (decide (p1 < 0)) = true then
    Φ (.inl (some (bm_l (0 : Int)))) w
  else
    (20 ≤ bm_kt w p0 ∧ bm_kt w p0 < 27) ∧
    (if (decide ((bm_kn w p0 : Int) ≤ p1)) = true then
      Φ (.inl (some (bm_l (0 : Int)))) w
    else
      (bm_kt w p0 = 22 ∧ bm_in p1 (bm_kn w p0)) ∧
      Φ (.inl (some (bm_l (bm_gl w p0 (p1).toNat)))) w))) : bm_Call bm_pg (d + 1) y_X10_maskAt [bm_r (some p0), bm_i p1] w Φ := bm_enter rfl (bm_go (bm_Call_mono _ _) [] 14 _ h)
/-! CaseTables$Untried.bitAt([JII)I -/
set_option maxRecDepth 20000 in
theorem vc_X10_bitAt {d : Nat} {Φ : bm_Rt → bm_W → Prop} {p0 : Nat} {p1 : Int} {p2 : Int} {w : bm_W} (h :
  (True) ∧ bm_Call bm_pg d y_X10_maskAt [bm_r (some p0), bm_i p1] w (fun r1 w1 => 
    bm_c2 (fun x1 => Φ (.inl (some (bm_i (bm_w ((Int64.ofInt ((Int64.ofInt x1 >>> ((Int32.ofInt p2).toInt64 &&& 63)).toInt) &&& Int64.ofInt (1 : Int)).toInt))))) w1) (fun E => Φ (.inr E) w1) r1)) : bm_Call bm_pg (d + 1) y_X10_bitAt [bm_r (some p0), bm_i p1, bm_i p2] w Φ := bm_enter rfl (bm_go (bm_Call_mono _ _) [] 11 _ h)
/-! CaseTables.<init>()V -/
set_option maxRecDepth 20000 in
theorem vc_X11_init {d : Nat} {Φ : bm_Rt → bm_W → Prop} {p0 : Nat} {w : bm_W} (h :
  (true = true) ∧
  (True) ∧ bm_Call bm_pg d y_X8_init [bm_r (some (bm_sz w))] (bm_nw w 8 0 2) (fun r1 w1 => 
    bm_c5 ((bm_kt w1 p0 = 11) ∧
    (bm_kt (bm_nw (bm_sr w1 p0 0 (some (bm_sz w))) 9 0 11) p0 = 11 ∧ bm_gr (bm_nw (bm_sr w1 p0 0 (some (bm_sz w))) 9 0 11) p0 0 = some (bm_u (bm_gr (bm_nw (bm_sr w1 p0 0 (some (bm_sz w))) 9 0 11) p0 0))) ∧
    (True) ∧ bm_Call bm_pg d y_X9_init [bm_r (some (bm_sz (bm_sr w1 p0 0 (some (bm_sz w))))), bm_r (some (bm_u (bm_gr (bm_nw (bm_sr w1 p0 0 (some (bm_sz w))) 9 0 11) p0 0)))] (bm_nw (bm_sr w1 p0 0 (some (bm_sz w))) 9 0 11) (fun r2 w2 => 
      bm_c5 ((bm_kt w2 p0 = 11) ∧
      (True) ∧ bm_Call bm_pg d y_X3_init [bm_r (some (bm_sz (bm_sr w2 p0 1 (some (bm_sz (bm_sr w1 p0 0 (some (bm_sz w))))))))] (bm_nw (bm_sr w2 p0 1 (some (bm_sz (bm_sr w1 p0 0 (some (bm_sz w)))))) 3 0 7) (fun r3 w3 => 
        bm_c5 ((bm_kt w3 p0 = 11) ∧
        (bm_kt (bm_nw (bm_sr w3 p0 2 (some (bm_sz (bm_sr w2 p0 1 (some (bm_sz (bm_sr w1 p0 0 (some (bm_sz w))))))))) 0 0 6) p0 = 11 ∧ bm_gr (bm_nw (bm_sr w3 p0 2 (some (bm_sz (bm_sr w2 p0 1 (some (bm_sz (bm_sr w1 p0 0 (some (bm_sz w))))))))) 0 0 6) p0 1 = some (bm_u (bm_gr (bm_nw (bm_sr w3 p0 2 (some (bm_sz (bm_sr w2 p0 1 (some (bm_sz (bm_sr w1 p0 0 (some (bm_sz w))))))))) 0 0 6) p0 1))) ∧
        (bm_kt (bm_nw (bm_sr w3 p0 2 (some (bm_sz (bm_sr w2 p0 1 (some (bm_sz (bm_sr w1 p0 0 (some (bm_sz w))))))))) 0 0 6) p0 = 11 ∧ bm_gr (bm_nw (bm_sr w3 p0 2 (some (bm_sz (bm_sr w2 p0 1 (some (bm_sz (bm_sr w1 p0 0 (some (bm_sz w))))))))) 0 0 6) p0 2 = some (bm_u (bm_gr (bm_nw (bm_sr w3 p0 2 (some (bm_sz (bm_sr w2 p0 1 (some (bm_sz (bm_sr w1 p0 0 (some (bm_sz w))))))))) 0 0 6) p0 2))) ∧
        (True) ∧ bm_Call bm_pg d y_X0_init [bm_r (some (bm_sz (bm_sr w3 p0 2 (some (bm_sz (bm_sr w2 p0 1 (some (bm_sz (bm_sr w1 p0 0 (some (bm_sz w))))))))))), bm_r (some (bm_u (bm_gr (bm_nw (bm_sr w3 p0 2 (some (bm_sz (bm_sr w2 p0 1 (some (bm_sz (bm_sr w1 p0 0 (some (bm_sz w))))))))) 0 0 6) p0 1))), bm_r (some (bm_u (bm_gr (bm_nw (bm_sr w3 p0 2 (some (bm_sz (bm_sr w2 p0 1 (some (bm_sz (bm_sr w1 p0 0 (some (bm_sz w))))))))) 0 0 6) p0 2)))] (bm_nw (bm_sr w3 p0 2 (some (bm_sz (bm_sr w2 p0 1 (some (bm_sz (bm_sr w1 p0 0 (some (bm_sz w))))))))) 0 0 6) (fun r4 w4 => 
          bm_c5 ((bm_kt w4 p0 = 11) ∧
          (bm_kt (bm_nw (bm_sr w4 p0 3 (some (bm_sz (bm_sr w3 p0 2 (some (bm_sz (bm_sr w2 p0 1 (some (bm_sz (bm_sr w1 p0 0 (some (bm_sz w)))))))))))) 2 0 7) p0 = 11 ∧ bm_gr (bm_nw (bm_sr w4 p0 3 (some (bm_sz (bm_sr w3 p0 2 (some (bm_sz (bm_sr w2 p0 1 (some (bm_sz (bm_sr w1 p0 0 (some (bm_sz w)))))))))))) 2 0 7) p0 2 = some (bm_u (bm_gr (bm_nw (bm_sr w4 p0 3 (some (bm_sz (bm_sr w3 p0 2 (some (bm_sz (bm_sr w2 p0 1 (some (bm_sz (bm_sr w1 p0 0 (some (bm_sz w)))))))))))) 2 0 7) p0 2))) ∧
          (True) ∧ bm_Call bm_pg d y_X2_init [bm_r (some (bm_sz (bm_sr w4 p0 3 (some (bm_sz (bm_sr w3 p0 2 (some (bm_sz (bm_sr w2 p0 1 (some (bm_sz (bm_sr w1 p0 0 (some (bm_sz w)))))))))))))), bm_r (some (bm_u (bm_gr (bm_nw (bm_sr w4 p0 3 (some (bm_sz (bm_sr w3 p0 2 (some (bm_sz (bm_sr w2 p0 1 (some (bm_sz (bm_sr w1 p0 0 (some (bm_sz w)))))))))))) 2 0 7) p0 2)))] (bm_nw (bm_sr w4 p0 3 (some (bm_sz (bm_sr w3 p0 2 (some (bm_sz (bm_sr w2 p0 1 (some (bm_sz (bm_sr w1 p0 0 (some (bm_sz w)))))))))))) 2 0 7) (fun r5 w5 => 
            bm_c5 ((bm_kt w5 p0 = 11) ∧
            (bm_kt (bm_nw (bm_sr w5 p0 4 (some (bm_sz (bm_sr w4 p0 3 (some (bm_sz (bm_sr w3 p0 2 (some (bm_sz (bm_sr w2 p0 1 (some (bm_sz (bm_sr w1 p0 0 (some (bm_sz w))))))))))))))) 6 0 3) p0 = 11 ∧ bm_gr (bm_nw (bm_sr w5 p0 4 (some (bm_sz (bm_sr w4 p0 3 (some (bm_sz (bm_sr w3 p0 2 (some (bm_sz (bm_sr w2 p0 1 (some (bm_sz (bm_sr w1 p0 0 (some (bm_sz w))))))))))))))) 6 0 3) p0 2 = some (bm_u (bm_gr (bm_nw (bm_sr w5 p0 4 (some (bm_sz (bm_sr w4 p0 3 (some (bm_sz (bm_sr w3 p0 2 (some (bm_sz (bm_sr w2 p0 1 (some (bm_sz (bm_sr w1 p0 0 (some (bm_sz w))))))))))))))) 6 0 3) p0 2))) ∧
            (bm_kt (bm_nw (bm_sr w5 p0 4 (some (bm_sz (bm_sr w4 p0 3 (some (bm_sz (bm_sr w3 p0 2 (some (bm_sz (bm_sr w2 p0 1 (some (bm_sz (bm_sr w1 p0 0 (some (bm_sz w))))))))))))))) 6 0 3) p0 = 11 ∧ bm_gr (bm_nw (bm_sr w5 p0 4 (some (bm_sz (bm_sr w4 p0 3 (some (bm_sz (bm_sr w3 p0 2 (some (bm_sz (bm_sr w2 p0 1 (some (bm_sz (bm_sr w1 p0 0 (some (bm_sz w))))))))))))))) 6 0 3) p0 4 = some (bm_u (bm_gr (bm_nw (bm_sr w5 p0 4 (some (bm_sz (bm_sr w4 p0 3 (some (bm_sz (bm_sr w3 p0 2 (some (bm_sz (bm_sr w2 p0 1 (some (bm_sz (bm_sr w1 p0 0 (some (bm_sz w))))))))))))))) 6 0 3) p0 4))) ∧
            (True) ∧ bm_Call bm_pg d y_X6_init [bm_r (some (bm_sz (bm_sr w5 p0 4 (some (bm_sz (bm_sr w4 p0 3 (some (bm_sz (bm_sr w3 p0 2 (some (bm_sz (bm_sr w2 p0 1 (some (bm_sz (bm_sr w1 p0 0 (some (bm_sz w))))))))))))))))), bm_r (some (bm_u (bm_gr (bm_nw (bm_sr w5 p0 4 (some (bm_sz (bm_sr w4 p0 3 (some (bm_sz (bm_sr w3 p0 2 (some (bm_sz (bm_sr w2 p0 1 (some (bm_sz (bm_sr w1 p0 0 (some (bm_sz w))))))))))))))) 6 0 3) p0 2))), bm_r (some (bm_u (bm_gr (bm_nw (bm_sr w5 p0 4 (some (bm_sz (bm_sr w4 p0 3 (some (bm_sz (bm_sr w3 p0 2 (some (bm_sz (bm_sr w2 p0 1 (some (bm_sz (bm_sr w1 p0 0 (some (bm_sz w))))))))))))))) 6 0 3) p0 4)))] (bm_nw (bm_sr w5 p0 4 (some (bm_sz (bm_sr w4 p0 3 (some (bm_sz (bm_sr w3 p0 2 (some (bm_sz (bm_sr w2 p0 1 (some (bm_sz (bm_sr w1 p0 0 (some (bm_sz w))))))))))))))) 6 0 3) (fun r6 w6 => 
              bm_c5 ((bm_kt w6 p0 = 11) ∧
              (True) ∧ bm_Call bm_pg d y_X10_init [bm_r (some (bm_sz (bm_sr w6 p0 5 (some (bm_sz (bm_sr w5 p0 4 (some (bm_sz (bm_sr w4 p0 3 (some (bm_sz (bm_sr w3 p0 2 (some (bm_sz (bm_sr w2 p0 1 (some (bm_sz (bm_sr w1 p0 0 (some (bm_sz w))))))))))))))))))))] (bm_nw (bm_sr w6 p0 5 (some (bm_sz (bm_sr w5 p0 4 (some (bm_sz (bm_sr w4 p0 3 (some (bm_sz (bm_sr w3 p0 2 (some (bm_sz (bm_sr w2 p0 1 (some (bm_sz (bm_sr w1 p0 0 (some (bm_sz w)))))))))))))))))) 10 0 6) (fun r7 w7 => 
                bm_c5 ((bm_kt w7 p0 = 11) ∧
                (bm_kt (bm_sr w7 p0 6 (some (bm_sz (bm_sr w6 p0 5 (some (bm_sz (bm_sr w5 p0 4 (some (bm_sz (bm_sr w4 p0 3 (some (bm_sz (bm_sr w3 p0 2 (some (bm_sz (bm_sr w2 p0 1 (some (bm_sz (bm_sr w1 p0 0 (some (bm_sz w))))))))))))))))))))) p0 = 11) ∧
                Φ (.inl none) (bm_si (bm_sr w7 p0 6 (some (bm_sz (bm_sr w6 p0 5 (some (bm_sz (bm_sr w5 p0 4 (some (bm_sz (bm_sr w4 p0 3 (some (bm_sz (bm_sr w3 p0 2 (some (bm_sz (bm_sr w2 p0 1 (some (bm_sz (bm_sr w1 p0 0 (some (bm_sz w))))))))))))))))))))) p0 7 (-1 : Int))) r7)) r6)) r5)) r4)) r3)) r2)) r1)) : bm_Call bm_pg (d + 1) y_X11_init [bm_r (some p0)] w Φ := bm_enter rfl (bm_go (bm_Call_mono _ _) [] 55 _ h)
/-! CaseTables.feed(IIIII)I -/
set_option maxRecDepth 20000 in
theorem vc_X11_feed {d : Nat} {Φ : bm_Rt → bm_W → Prop} {p0 : Nat} {p1 : Int} {p2 : Int} {p3 : Int} {p4 : Int} {p5 : Int} {w : bm_W} (h :
  (bm_kt w p0 = 11 ∧ bm_gr w p0 0 = some (bm_u (bm_gr w p0 0))) ∧
  (bm_kt w (bm_u (bm_gr w p0 0)) = 8) ∧ bm_Call bm_pg d y_X8_room [bm_r (some (bm_u (bm_gr w p0 0)))] w (fun r1 w1 => 
    bm_c1 (fun x1 => (if (decide ((20 : Int) ≤ x1)) = true then
      (bm_kt w1 p0 = 11 ∧ bm_gr w1 p0 0 = some (bm_u (bm_gr w1 p0 0))) ∧
      (bm_kt w1 (bm_u (bm_gr w1 p0 0)) = 8) ∧ bm_Call bm_pg d y_X8_append [bm_r (some (bm_u (bm_gr w1 p0 0))), bm_i p1] w1 (fun r2 w2 => 
        bm_c0 ((bm_kt w2 p0 = 11 ∧ bm_gr w2 p0 0 = some (bm_u (bm_gr w2 p0 0))) ∧
        (bm_kt w2 (bm_u (bm_gr w2 p0 0)) = 8) ∧ bm_Call bm_pg d y_X8_append [bm_r (some (bm_u (bm_gr w2 p0 0))), bm_i p2] w2 (fun r3 w3 => 
          bm_c0 ((bm_kt w3 p0 = 11 ∧ bm_gr w3 p0 0 = some (bm_u (bm_gr w3 p0 0))) ∧
          (bm_kt w3 (bm_u (bm_gr w3 p0 0)) = 8) ∧ bm_Call bm_pg d y_X8_append [bm_r (some (bm_u (bm_gr w3 p0 0))), bm_i p3] w3 (fun r4 w4 => 
            bm_c0 ((bm_kt w4 p0 = 11 ∧ bm_gr w4 p0 0 = some (bm_u (bm_gr w4 p0 0))) ∧
            (bm_kt w4 (bm_u (bm_gr w4 p0 0)) = 8) ∧ bm_Call bm_pg d y_X8_append [bm_r (some (bm_u (bm_gr w4 p0 0))), bm_i p4] w4 (fun r5 w5 => 
              bm_c0 ((bm_kt w5 p0 = 11 ∧ bm_gr w5 p0 0 = some (bm_u (bm_gr w5 p0 0))) ∧
              (bm_kt w5 (bm_u (bm_gr w5 p0 0)) = 8) ∧ bm_Call bm_pg d y_X8_append [bm_r (some (bm_u (bm_gr w5 p0 0))), bm_i p5] w5 (fun r6 w6 => 
                bm_c0 ((bm_kt w6 p0 = 11 ∧ bm_gr w6 p0 0 = some (bm_u (bm_gr w6 p0 0))) ∧
                (bm_kt w6 (bm_u (bm_gr w6 p0 0)) = 8) ∧ bm_Call bm_pg d y_X8_length [bm_r (some (bm_u (bm_gr w6 p0 0)))] w6 (fun r7 w7 => 
                  bm_c1 (fun x7 => Φ (.inl (some (bm_i x7))) w7) (fun E => Φ (.inr E) w7) r7)) (fun E => Φ (.inr E) w6) r6)) (fun E => Φ (.inr E) w5) r5)) (fun E => Φ (.inr E) w4) r4)) (fun E => Φ (.inr E) w3) r3)) (fun E => Φ (.inr E) w2) r2)
    else
      Φ (.inr "java/lang/IllegalStateException") (bm_tw w1))) (fun E => Φ (.inr E) w1) r1)) : bm_Call bm_pg (d + 1) y_X11_feed [bm_r (some p0), bm_i p1, bm_i p2, bm_i p3, bm_i p4, bm_i p5] w Φ := bm_enter rfl (bm_go (bm_Call_mono _ _) [] 32 _ h)
/-! CaseTables.trim(I)I -/
set_option maxRecDepth 20000 in
theorem vc_X11_trim {d : Nat} {Φ : bm_Rt → bm_W → Prop} {p0 : Nat} {p1 : Int} {w : bm_W} (h :
  (if (decide (p1 < 0)) = true then
    Φ (.inr "java/lang/IllegalArgumentException") (bm_tw w)
  else
    (bm_kt w p0 = 11 ∧ bm_gr w p0 0 = some (bm_u (bm_gr w p0 0))) ∧
    (bm_kt w (bm_u (bm_gr w p0 0)) = 8) ∧ bm_Call bm_pg d y_X8_length [bm_r (some (bm_u (bm_gr w p0 0)))] w (fun r1 w1 => 
      bm_c1 (fun x1 => (if (decide (p1 ≤ x1)) = true then
        (bm_kt w1 p0 = 11 ∧ bm_gr w1 p0 0 = some (bm_u (bm_gr w1 p0 0))) ∧
        (bm_kt w1 (bm_u (bm_gr w1 p0 0)) = 8) ∧ bm_Call bm_pg d y_X8_cutTo [bm_r (some (bm_u (bm_gr w1 p0 0))), bm_i p1] w1 (fun r2 w2 => 
          bm_c0 (Φ (.inl (some (bm_i p1))) w2) (fun E => Φ (.inr E) w2) r2)
      else
        Φ (.inr "java/lang/IllegalArgumentException") (bm_tw w1))) (fun E => Φ (.inr E) w1) r1))) : bm_Call bm_pg (d + 1) y_X11_trim [bm_r (some p0), bm_i p1] w Φ := bm_enter rfl (bm_go (bm_Call_mono _ _) [] 16 _ h)
/-! CaseTables.compile()I -/
set_option maxRecDepth 20000 in
theorem vc_X11_compile {d : Nat} {Φ : bm_Rt → bm_W → Prop} {p0 : Nat} {w : bm_W} (h :
  (bm_kt w p0 = 11 ∧ bm_gr w p0 1 = some (bm_u (bm_gr w p0 1))) ∧
  (bm_kt w (bm_u (bm_gr w p0 1)) = 9) ∧ bm_Call bm_pg d y_X9_scan [bm_r (some (bm_u (bm_gr w p0 1)))] w (fun r1 w1 => 
    bm_c0 ((bm_kt w1 p0 = 11 ∧ bm_gr w1 p0 3 = some (bm_u (bm_gr w1 p0 3))) ∧
    (bm_kt w1 (bm_u (bm_gr w1 p0 3)) = 0) ∧ bm_Call bm_pg d y_X0_translate [bm_r (some (bm_u (bm_gr w1 p0 3)))] w1 (fun r2 w2 => 
      bm_c1 (fun x2 => (bm_kt w2 p0 = 11 ∧ bm_gr w2 p0 3 = some (bm_u (bm_gr w2 p0 3))) ∧
      (bm_kt w2 (bm_u (bm_gr w2 p0 3)) = 0) ∧ bm_Call bm_pg d y_X0_errorPlace [bm_r (some (bm_u (bm_gr w2 p0 3)))] w2 (fun r3 w3 => 
        bm_c1 (fun x3 => (bm_kt w3 p0 = 11) ∧
        (bm_kt (bm_si w3 p0 7 x3) p0 = 11 ∧ bm_gr (bm_si w3 p0 7 x3) p0 5 = some (bm_u (bm_gr (bm_si w3 p0 7 x3) p0 5))) ∧
        (bm_kt (bm_si w3 p0 7 x3) (bm_u (bm_gr (bm_si w3 p0 7 x3) p0 5)) = 6) ∧ bm_Call bm_pg d y_X6_forget [bm_r (some (bm_u (bm_gr (bm_si w3 p0 7 x3) p0 5)))] (bm_si w3 p0 7 x3) (fun r4 w4 => 
          bm_c0 ((bm_kt w4 p0 = 11 ∧ bm_gr w4 p0 0 = some (bm_u (bm_gr w4 p0 0))) ∧
          (bm_kt w4 (bm_u (bm_gr w4 p0 0)) = 8) ∧ bm_Call bm_pg d y_X8_cutTo [bm_r (some (bm_u (bm_gr w4 p0 0))), bm_i (0 : Int)] w4 (fun r5 w5 => 
            bm_c0 (Φ (.inl (some (bm_i x2))) w5) (fun E => Φ (.inr E) w5) r5)) (fun E => Φ (.inr E) w4) r4)) (fun E => Φ (.inr E) w3) r3)) (fun E => Φ (.inr E) w2) r2)) (fun E => Φ (.inr E) w1) r1)) : bm_Call bm_pg (d + 1) y_X11_compile [bm_r (some p0)] w Φ := bm_enter rfl (bm_go (bm_Call_mono _ _) [] 23 _ h)
/-! CaseTables.errorAt()I -/
set_option maxRecDepth 20000 in
theorem vc_X11_errorAt {d : Nat} {Φ : bm_Rt → bm_W → Prop} {p0 : Nat} {w : bm_W} (h :
  (bm_kt w p0 = 11) ∧
  Φ (.inl (some (bm_i (bm_gi w p0 7)))) w) : bm_Call bm_pg (d + 1) y_X11_errorAt [bm_r (some p0)] w Φ := bm_enter rfl (bm_go (bm_Call_mono _ _) [] 5 _ h)
/-! CaseTables.count(I)I -/
set_option maxRecDepth 20000 in
theorem vc_X11_count {d : Nat} {Φ : bm_Rt → bm_W → Prop} {p0 : Nat} {p1 : Int} {w : bm_W} (h :
  (if p1 = 0 then
    (bm_kt w p0 = 11 ∧ bm_gr w p0 2 = some (bm_u (bm_gr w p0 2))) ∧
    (bm_kt w (bm_u (bm_gr w p0 2)) = 3) ∧
    Φ (.inl (some (bm_i (bm_gi w (bm_u (bm_gr w p0 2)) 4)))) w
  else (if p1 = 1 then
    (bm_kt w p0 = 11 ∧ bm_gr w p0 2 = some (bm_u (bm_gr w p0 2))) ∧
    (bm_kt w (bm_u (bm_gr w p0 2)) = 3) ∧
    Φ (.inl (some (bm_i (bm_gi w (bm_u (bm_gr w p0 2)) 5)))) w
  else (if p1 = 2 then
    (bm_kt w p0 = 11 ∧ bm_gr w p0 2 = some (bm_u (bm_gr w p0 2))) ∧
    (bm_kt w (bm_u (bm_gr w p0 2)) = 3) ∧
    Φ (.inl (some (bm_i (bm_gi w (bm_u (bm_gr w p0 2)) 6)))) w
  else (if p1 = 3 then
    (bm_kt w p0 = 11 ∧ bm_gr w p0 2 = some (bm_u (bm_gr w p0 2))) ∧
    (bm_kt w (bm_u (bm_gr w p0 2)) = 3) ∧ bm_Call bm_pg d y_X3_caseCount [bm_r (some (bm_u (bm_gr w p0 2)))] w (fun r1 w1 => 
      bm_c1 (fun x1 => Φ (.inl (some (bm_i x1))) w1) (fun E => Φ (.inr E) w1) r1)
  else (if p1 = 4 then
    (bm_kt w p0 = 11 ∧ bm_gr w p0 0 = some (bm_u (bm_gr w p0 0))) ∧
    (bm_kt w (bm_u (bm_gr w p0 0)) = 8) ∧ bm_Call bm_pg d y_X8_length [bm_r (some (bm_u (bm_gr w p0 0)))] w (fun r2 w2 => 
      bm_c1 (fun x2 => Φ (.inl (some (bm_i x2))) w2) (fun E => Φ (.inr E) w2) r2)
  else Φ (.inr "java/lang/IndexOutOfBoundsException") (bm_tw w))))))) : bm_Call bm_pg (d + 1) y_X11_count [bm_r (some p0), bm_i p1] w Φ := bm_enter rfl (bm_go (bm_Call_mono _ _) [] 25 _ h)
/-! CaseTables.fun(II)I -/
set_option maxRecDepth 20000 in
theorem vc_X11_fun {d : Nat} {Φ : bm_Rt → bm_W → Prop} {p0 : Nat} {p1 : Int} {p2 : Int} {w : bm_W} (h :
  (bm_kt w p0 = 11) ∧ bm_Call bm_pg d y_X11_existingFun [bm_r (some p0), bm_i p1] w (fun r1 w1 => 
    bm_c3 (fun x1 => (if p2 = 0 then
      (bm_kt w1 x1 = 1) ∧
      Φ (.inl (some (bm_i (bm_gi w1 x1 6)))) w1
    else (if p2 = 1 then
      (bm_kt w1 x1 = 1) ∧
      Φ (.inl (some (bm_i (bm_gi w1 x1 8)))) w1
    else (if p2 = 2 then
      (bm_kt w1 p0 = 11 ∧ bm_gr w1 p0 2 = some (bm_u (bm_gr w1 p0 2))) ∧
      (bm_kt w1 (bm_u (bm_gr w1 p0 2)) = 3) ∧ bm_Call bm_pg d y_X3_tablesOf [bm_r (some (bm_u (bm_gr w1 p0 2))), bm_i p1] w1 (fun r2 w2 => 
        bm_c1 (fun x2 => Φ (.inl (some (bm_i x2))) w2) (fun E => Φ (.inr E) w2) r2)
    else (if p2 = 3 then
      (bm_kt w1 x1 = 1 ∧ bm_gr w1 x1 1 = some (bm_u (bm_gr w1 x1 1))) ∧
      (bm_kt w1 (bm_u (bm_gr w1 x1 1)) = 4) ∧ bm_Call bm_pg d y_X4_rowCount [bm_r (some (bm_u (bm_gr w1 x1 1)))] w1 (fun r3 w3 => 
        bm_c1 (fun x3 => Φ (.inl (some (bm_i x3))) w3) (fun E => Φ (.inr E) w3) r3)
    else (if p2 = 4 then
      (bm_kt w1 x1 = 1) ∧ bm_Call bm_pg d y_X1_pairCount [bm_r (some x1)] w1 (fun r4 w4 => 
        bm_c1 (fun x4 => Φ (.inl (some (bm_i x4))) w4) (fun E => Φ (.inr E) w4) r4)
    else (if p2 = 5 then
      (bm_kt w1 p0 = 11) ∧ bm_Call bm_pg d y_X11_findUntried [bm_r (some p0), bm_i p1] w1 (fun r5 w5 => 
        bm_c0 ((bm_kt w5 p0 = 11 ∧ bm_gr w5 p0 6 = some (bm_u (bm_gr w5 p0 6))) ∧
        (bm_kt w5 (bm_u (bm_gr w5 p0 6)) = 10) ∧ bm_Call bm_pg d y_X10_pairCount [bm_r (some (bm_u (bm_gr w5 p0 6)))] w5 (fun r6 w6 => 
          bm_c1 (fun x6 => Φ (.inl (some (bm_i x6))) w6) (fun E => Φ (.inr E) w6) r6)) (fun E => Φ (.inr E) w5) r5)
    else Φ (.inr "java/lang/IndexOutOfBoundsException") (bm_tw w1)))))))) (fun E => Φ (.inr E) w1) r1)) : bm_Call bm_pg (d + 1) y_X11_fun [bm_r (some p0), bm_i p1, bm_i p2] w Φ := bm_enter rfl (bm_go (bm_Call_mono _ _) [] 34 _ h)
/-! CaseTables.call(IIII)J -/
set_option maxRecDepth 20000 in
theorem vc_X11_call {d : Nat} {Φ : bm_Rt → bm_W → Prop} {p0 : Nat} {p1 : Int} {p2 : Int} {p3 : Int} {p4 : Int} {w : bm_W} (h :
  (bm_kt w p0 = 11) ∧ bm_Call bm_pg d y_X11_existingFun [bm_r (some p0), bm_i p1] w (fun r1 w1 => 
    bm_c3 (fun x1 => (bm_kt w1 p0 = 11) ∧ bm_Call bm_pg d y_X11_valueOrThrow [bm_r (some p0), bm_i p1, bm_i (-1 : Int), bm_i p2, bm_i p3, bm_i p4] w1 (fun r2 w2 => 
      bm_c2 (fun x2 => Φ (.inl (some (bm_l x2))) w2) (fun E => Φ (.inr E) w2) r2)) (fun E => Φ (.inr E) w1) r1)) : bm_Call bm_pg (d + 1) y_X11_call [bm_r (some p0), bm_i p1, bm_i p2, bm_i p3, bm_i p4] w Φ := bm_enter rfl (bm_go (bm_Call_mono _ _) [] 14 _ h)
/-! CaseTables.callChanged(IIIII)J -/
set_option maxRecDepth 20000 in
theorem vc_X11_callChanged {d : Nat} {Φ : bm_Rt → bm_W → Prop} {p0 : Nat} {p1 : Int} {p2 : Int} {p3 : Int} {p4 : Int} {p5 : Int} {w : bm_W} (h :
  (bm_kt w p0 = 11) ∧ bm_Call bm_pg d y_X11_existingFun [bm_r (some p0), bm_i p1] w (fun r1 w1 => 
    bm_c3 (fun x1 => (bm_kt w1 x1 = 1) ∧
    (True) ∧ bm_Call bm_pg d y_X11_requireBelow [bm_i p2, bm_i (bm_gi w1 x1 8)] w1 (fun r2 w2 => 
      bm_c0 ((bm_kt w2 p0 = 11) ∧ bm_Call bm_pg d y_X11_valueOrThrow [bm_r (some p0), bm_i p1, bm_i p2, bm_i p3, bm_i p4, bm_i p5] w2 (fun r3 w3 => 
        bm_c2 (fun x3 => Φ (.inl (some (bm_l x3))) w3) (fun E => Φ (.inr E) w3) r3)) (fun E => Φ (.inr E) w2) r2)) (fun E => Φ (.inr E) w1) r1)) : bm_Call bm_pg (d + 1) y_X11_callChanged [bm_r (some p0), bm_i p1, bm_i p2, bm_i p3, bm_i p4, bm_i p5] w Φ := bm_enter rfl (bm_go (bm_Call_mono _ _) [] 16 _ h)
/-! CaseTables.inputOf(III)I -/
set_option maxRecDepth 20000 in
theorem vc_X11_inputOf {d : Nat} {Φ : bm_Rt → bm_W → Prop} {p0 : Nat} {p1 : Int} {p2 : Int} {p3 : Int} {w : bm_W} (h :
  (bm_kt w p0 = 11) ∧ bm_Call bm_pg d y_X11_existingFun [bm_r (some p0), bm_i p1] w (fun r1 w1 => 
    bm_c3 (fun x1 => (bm_kt w1 x1 = 1 ∧ bm_gr w1 x1 1 = some (bm_u (bm_gr w1 x1 1))) ∧
    (bm_kt w1 (bm_u (bm_gr w1 x1 1)) = 4) ∧ bm_Call bm_pg d y_X4_rowCount [bm_r (some (bm_u (bm_gr w1 x1 1)))] w1 (fun r2 w2 => 
      bm_c1 (fun x2 => (True) ∧ bm_Call bm_pg d y_X11_requireBelow [bm_i p2, bm_i x2] w2 (fun r3 w3 => 
        bm_c0 ((bm_kt w3 x1 = 1) ∧
        (True) ∧ bm_Call bm_pg d y_X11_requireBelow [bm_i p3, bm_i (bm_gi w3 x1 6)] w3 (fun r4 w4 => 
          bm_c0 ((bm_kt w4 x1 = 1 ∧ bm_gr w4 x1 1 = some (bm_u (bm_gr w4 x1 1))) ∧
          (bm_kt w4 (bm_u (bm_gr w4 x1 1)) = 4) ∧ bm_Call bm_pg d y_X4_valueAt [bm_r (some (bm_u (bm_gr w4 x1 1))), bm_i p2, bm_i p3] w4 (fun r5 w5 => 
            bm_c1 (fun x5 => Φ (.inl (some (bm_i x5))) w5) (fun E => Φ (.inr E) w5) r5)) (fun E => Φ (.inr E) w4) r4)) (fun E => Φ (.inr E) w3) r3)) (fun E => Φ (.inr E) w2) r2)) (fun E => Φ (.inr E) w1) r1)) : bm_Call bm_pg (d + 1) y_X11_inputOf [bm_r (some p0), bm_i p1, bm_i p2, bm_i p3] w Φ := bm_enter rfl (bm_go (bm_Call_mono _ _) [] 21 _ h)
/-! CaseTables.propose(I)I -/
set_option maxRecDepth 20000 in
theorem vc_X11_propose {d : Nat} {Φ : bm_Rt → bm_W → Prop} {p0 : Nat} {p1 : Int} {w : bm_W} (h :
  (bm_kt w p0 = 11) ∧ bm_Call bm_pg d y_X11_existingFun [bm_r (some p0), bm_i p1] w (fun r1 w1 => 
    bm_c3 (fun x1 => (bm_kt w1 p0 = 11) ∧ bm_Call bm_pg d y_X11_findUntried [bm_r (some p0), bm_i p1] w1 (fun r2 w2 => 
      bm_c0 ((bm_kt w2 p0 = 11 ∧ bm_gr w2 p0 6 = some (bm_u (bm_gr w2 p0 6))) ∧
      (bm_kt w2 (bm_u (bm_gr w2 p0 6)) = 10) ∧ bm_Call bm_pg d y_X10_bestRow [bm_r (some (bm_u (bm_gr w2 p0 6)))] w2 (fun r3 w3 => 
        bm_c1 (fun x3 => Φ (.inl (some (bm_i x3))) w3) (fun E => Φ (.inr E) w3) r3)) (fun E => Φ (.inr E) w2) r2)) (fun E => Φ (.inr E) w1) r1)) : bm_Call bm_pg (d + 1) y_X11_propose [bm_r (some p0), bm_i p1] w Φ := bm_enter rfl (bm_go (bm_Call_mono _ _) [] 13 _ h)
/-! CaseTables.table(II)I -/
set_option maxRecDepth 20000 in
theorem vc_X11_table {d : Nat} {Φ : bm_Rt → bm_W → Prop} {p0 : Nat} {p1 : Int} {p2 : Int} {w : bm_W} (h :
  (bm_kt w p0 = 11) ∧ bm_Call bm_pg d y_X11_existingTable [bm_r (some p0), bm_i p1] w (fun r1 w1 => 
    bm_c3 (fun x1 => (True) ∧ bm_Call bm_pg d y_X11_requireBelow [bm_i p2, bm_i (5 : Int)] w1 (fun r2 w2 => 
      bm_c0 ((if (decide (p2 < (3 : Int))) = true then
        (bm_kt w2 x1 = 7) ∧ bm_Call bm_pg d y_X7_tell [bm_r (some x1), bm_i p2] w2 (fun r3 w3 => 
          bm_c1 (fun x3 => Φ (.inl (some (bm_i x3))) w3) (fun E => Φ (.inr E) w3) r3)
      else
        (bm_kt w2 p0 = 11 ∧ bm_gr w2 p0 5 = some (bm_u (bm_gr w2 p0 5))) ∧
        (bm_kt w2 (bm_u (bm_gr w2 p0 5)) = 6) ∧ bm_Call bm_pg d y_X6_refresh [bm_r (some (bm_u (bm_gr w2 p0 5)))] w2 (fun r4 w4 => 
          bm_c0 ((bm_kt w4 x1 = 7) ∧ bm_Call bm_pg d y_X7_tell [bm_r (some x1), bm_i p2] w4 (fun r5 w5 => 
            bm_c1 (fun x5 => Φ (.inl (some (bm_i x5))) w5) (fun E => Φ (.inr E) w5) r5)) (fun E => Φ (.inr E) w4) r4))) (fun E => Φ (.inr E) w2) r2)) (fun E => Φ (.inr E) w1) r1)) : bm_Call bm_pg (d + 1) y_X11_table [bm_r (some p0), bm_i p1, bm_i p2] w Φ := bm_enter rfl (bm_go (bm_Call_mono _ _) [] 19 _ h)
/-! CaseTables.caseOf(III)I -/
set_option maxRecDepth 20000 in
theorem vc_X11_caseOf {d : Nat} {Φ : bm_Rt → bm_W → Prop} {p0 : Nat} {p1 : Int} {p2 : Int} {p3 : Int} {w : bm_W} (h :
  (bm_kt w p0 = 11) ∧ bm_Call bm_pg d y_X11_existingTable [bm_r (some p0), bm_i p1] w (fun r1 w1 => 
    bm_c3 (fun x1 => (bm_kt w1 x1 = 7) ∧
    (True) ∧ bm_Call bm_pg d y_X11_requireBelow [bm_i p2, bm_i (bm_gi w1 x1 6)] w1 (fun r2 w2 => 
      bm_c0 ((bm_kt w2 p0 = 11 ∧ bm_gr w2 p0 2 = some (bm_u (bm_gr w2 p0 2))) ∧
      (bm_kt w2 x1 = 7) ∧
      (bm_kt w2 (bm_u (bm_gr w2 p0 2)) = 3) ∧ bm_Call bm_pg d y_X3_funAt [bm_r (some (bm_u (bm_gr w2 p0 2))), bm_i (bm_gi w2 x1 4)] w2 (fun r3 w3 => 
        bm_c3 (fun x3 => (bm_kt w3 x3 = 1) ∧
        (True) ∧ bm_Call bm_pg d y_X11_requireBelow [bm_i p3, bm_i (bm_gi w3 x3 6)] w3 (fun r4 w4 => 
          bm_c0 ((bm_kt w4 x1 = 7) ∧ bm_Call bm_pg d y_X7_valueAt [bm_r (some x1), bm_i p2, bm_i p3] w4 (fun r5 w5 => 
            bm_c1 (fun x5 => Φ (.inl (some (bm_i x5))) w5) (fun E => Φ (.inr E) w5) r5)) (fun E => Φ (.inr E) w4) r4)) (fun E => Φ (.inr E) w3) r3)) (fun E => Φ (.inr E) w2) r2)) (fun E => Φ (.inr E) w1) r1)) : bm_Call bm_pg (d + 1) y_X11_caseOf [bm_r (some p0), bm_i p1, bm_i p2, bm_i p3] w Φ := bm_enter rfl (bm_go (bm_Call_mono _ _) [] 23 _ h)
/-! CaseTables.holds(II)Z -/
set_option maxRecDepth 20000 in
theorem vc_X11_holds {d : Nat} {Φ : bm_Rt → bm_W → Prop} {p0 : Nat} {p1 : Int} {p2 : Int} {w : bm_W} (h :
  (bm_kt w p0 = 11) ∧ bm_Call bm_pg d y_X11_existingTable [bm_r (some p0), bm_i p1] w (fun r1 w1 => 
    bm_c3 (fun x1 => (bm_kt w1 x1 = 7) ∧
    (True) ∧ bm_Call bm_pg d y_X11_requireBelow [bm_i p2, bm_i (bm_gi w1 x1 6)] w1 (fun r2 w2 => 
      bm_c0 ((bm_kt w2 p0 = 11 ∧ bm_gr w2 p0 5 = some (bm_u (bm_gr w2 p0 5))) ∧
      (bm_kt w2 (bm_u (bm_gr w2 p0 5)) = 6) ∧ bm_Call bm_pg d y_X6_refresh [bm_r (some (bm_u (bm_gr w2 p0 5)))] w2 (fun r3 w3 => 
        bm_c0 ((bm_kt w3 x1 = 7) ∧ bm_Call bm_pg d y_X7_isHolding [bm_r (some x1), bm_i p2] w3 (fun r4 w4 => 
          bm_c1 (fun x4 => (x4 = 0 ∨ x4 = 1) ∧ Φ (.inl (some (bm_i x4))) w4) (fun E => Φ (.inr E) w4) r4)) (fun E => Φ (.inr E) w3) r3)) (fun E => Φ (.inr E) w2) r2)) (fun E => Φ (.inr E) w1) r1)) : bm_Call bm_pg (d + 1) y_X11_holds [bm_r (some p0), bm_i p1, bm_i p2] w Φ := bm_enter rfl (bm_go (bm_Call_mono _ _) [] 17 _ h)
/-! CaseTables.taken(IZ)I -/
set_option maxRecDepth 20000 in
theorem vc_X11_taken {d : Nat} {Φ : bm_Rt → bm_W → Prop} {p0 : Nat} {p1 : Int} {p2 : Int} {w : bm_W} (h :
  (bm_kt w p0 = 11 ∧ bm_gr w p0 2 = some (bm_u (bm_gr w p0 2))) ∧
  (bm_kt w (bm_u (bm_gr w p0 2)) = 3) ∧
  (True) ∧ bm_Call bm_pg d y_X11_requireBelow [bm_i p1, bm_i (bm_gi w (bm_u (bm_gr w p0 2)) 6)] w (fun r1 w1 => 
    bm_c0 ((bm_kt w1 p0 = 11 ∧ bm_gr w1 p0 5 = some (bm_u (bm_gr w1 p0 5))) ∧
    (bm_kt w1 (bm_u (bm_gr w1 p0 5)) = 6) ∧ bm_Call bm_pg d y_X6_refresh [bm_r (some (bm_u (bm_gr w1 p0 5)))] w1 (fun r2 w2 => 
      bm_c0 ((bm_kt w2 p0 = 11 ∧ bm_gr w2 p0 4 = some (bm_u (bm_gr w2 p0 4))) ∧
      (bm_kt w2 (bm_u (bm_gr w2 p0 4)) = 2) ∧ bm_Call bm_pg d y_X2_branchCount [bm_r (some (bm_u (bm_gr w2 p0 4))), bm_i p1, bm_i p2] w2 (fun r3 w3 => 
        bm_c1 (fun x3 => Φ (.inl (some (bm_i x3))) w3) (fun E => Φ (.inr E) w3) r3)) (fun E => Φ (.inr E) w2) r2)) (fun E => Φ (.inr E) w1) r1)) : bm_Call bm_pg (d + 1) y_X11_taken [bm_r (some p0), bm_i p1, bm_i p2] w Φ := bm_enter rfl (bm_go (bm_Call_mono _ _) [] 16 _ h)
/-! CaseTables.finds(II)Z -/
set_option maxRecDepth 20000 in
theorem vc_X11_finds {d : Nat} {Φ : bm_Rt → bm_W → Prop} {p0 : Nat} {p1 : Int} {p2 : Int} {w : bm_W} (h :
  (bm_kt w p0 = 11) ∧ bm_Call bm_pg d y_X11_existingTable [bm_r (some p0), bm_i p1] w (fun r1 w1 => 
    bm_c3 (fun x1 => (bm_kt w1 p0 = 11 ∧ bm_gr w1 p0 2 = some (bm_u (bm_gr w1 p0 2))) ∧
    (bm_kt w1 x1 = 7) ∧
    (bm_kt w1 (bm_u (bm_gr w1 p0 2)) = 3) ∧ bm_Call bm_pg d y_X3_funAt [bm_r (some (bm_u (bm_gr w1 p0 2))), bm_i (bm_gi w1 x1 4)] w1 (fun r2 w2 => 
      bm_c3 (fun x2 => (bm_kt w2 x2 = 1) ∧
      (True) ∧ bm_Call bm_pg d y_X11_requireBelow [bm_i p2, bm_i (bm_gi w2 x2 8)] w2 (fun r3 w3 => 
        bm_c0 ((bm_kt w3 p0 = 11 ∧ bm_gr w3 p0 5 = some (bm_u (bm_gr w3 p0 5))) ∧
        (bm_kt w3 (bm_u (bm_gr w3 p0 5)) = 6) ∧ bm_Call bm_pg d y_X6_changesFound [bm_r (some (bm_u (bm_gr w3 p0 5))), bm_r (some x1), bm_r (none : Option Nat)] w3 (fun r4 w4 => 
          bm_c2 (fun x4 => (if (decide (((Int64.ofInt ((Int64.ofInt x4 >>> ((Int32.ofInt p2).toInt64 &&& 63)).toInt) &&& Int64.ofInt (1 : Int)).toInt) = (0 : Int))) = true then
            ((0 : Int) = 0 ∨ (0 : Int) = 1) ∧ Φ (.inl (some (bm_i (0 : Int)))) w4
          else
            ((1 : Int) = 0 ∨ (1 : Int) = 1) ∧ Φ (.inl (some (bm_i (1 : Int)))) w4)) (fun E => Φ (.inr E) w4) r4)) (fun E => Φ (.inr E) w3) r3)) (fun E => Φ (.inr E) w2) r2)) (fun E => Φ (.inr E) w1) r1)) : bm_Call bm_pg (d + 1) y_X11_finds [bm_r (some p0), bm_i p1, bm_i p2] w Φ := bm_enter rfl (bm_go (bm_Call_mono _ _) [] 29 _ h)
/-! CaseTables.score(I)D -/
set_option maxRecDepth 20000 in
theorem vc_X11_score {d : Nat} {Φ : bm_Rt → bm_W → Prop} {p0 : Nat} {p1 : Int} {w : bm_W} (h :
  (bm_kt w p0 = 11) ∧ bm_Call bm_pg d y_X11_existingTable [bm_r (some p0), bm_i p1] w (fun r1 w1 => 
    bm_c3 (fun x1 => (bm_kt w1 p0 = 11 ∧ bm_gr w1 p0 2 = some (bm_u (bm_gr w1 p0 2))) ∧
    (bm_kt w1 x1 = 7) ∧
    (bm_kt w1 (bm_u (bm_gr w1 p0 2)) = 3) ∧ bm_Call bm_pg d y_X3_funAt [bm_r (some (bm_u (bm_gr w1 p0 2))), bm_i (bm_gi w1 x1 4)] w1 (fun r2 w2 => 
      bm_c3 (fun x2 => (bm_kt w2 x2 = 1) ∧
      (if (!decide ((bm_gi w2 x2 8) = 0)) = true then
        (bm_kt w2 p0 = 11 ∧ bm_gr w2 p0 5 = some (bm_u (bm_gr w2 p0 5))) ∧
        (bm_kt w2 (bm_u (bm_gr w2 p0 5)) = 6) ∧ bm_Call bm_pg d y_X6_changesFound [bm_r (some (bm_u (bm_gr w2 p0 5))), bm_r (some x1), bm_r (none : Option Nat)] w2 (fun r3 w3 => 
          bm_c2 (fun x3 => (True) ∧ bm_Call bm_pg d y_J13_bitCount_95d88 [bm_l x3] w3 (fun r4 w4 => 
            bm_c1 (fun x4 => (vf_n64 (FP.ddiv (FP.i2d (Int32.ofInt x4)) (FP.i2d (Int32.ofInt (bm_gi w2 x2 8))))) ∧
            Φ (.inl (some (bm_d (FP.ddiv (FP.i2d (Int32.ofInt x4)) (FP.i2d (Int32.ofInt (bm_gi w2 x2 8))))))) w4) (fun E => Φ (.inr E) w4) r4)) (fun E => Φ (.inr E) w3) r3)
      else
        Φ (.inl (some (bm_d FP.dconst1))) w2)) (fun E => Φ (.inr E) w2) r2)) (fun E => Φ (.inr E) w1) r1)) : bm_Call bm_pg (d + 1) y_X11_score [bm_r (some p0), bm_i p1] w Φ := bm_enter rfl (bm_go (bm_Call_mono _ _) [] 28 _ h)
/-! CaseTables.grow(I)I -/
set_option maxRecDepth 20000 in
theorem vc_X11_grow {d : Nat} {Φ : bm_Rt → bm_W → Prop} {p0 : Nat} {p1 : Int} {w : bm_W} (h :
  (bm_kt w p0 = 11) ∧ bm_Call bm_pg d y_X11_existingTable [bm_r (some p0), bm_i p1] w (fun r1 w1 => 
    bm_c3 (fun x1 => (bm_kt w1 x1 = 7) ∧
    (bm_kt w1 p0 = 11) ∧ bm_Call bm_pg d y_X11_findUntried [bm_r (some p0), bm_i (bm_gi w1 x1 4)] w1 (fun r2 w2 => 
      bm_c0 ((bm_kt w2 p0 = 11 ∧ bm_gr w2 p0 6 = some (bm_u (bm_gr w2 p0 6))) ∧
      (bm_kt w2 (bm_u (bm_gr w2 p0 6)) = 10) ∧ bm_Call bm_pg d y_X10_bestRow [bm_r (some (bm_u (bm_gr w2 p0 6)))] w2 (fun r3 w3 => 
        bm_c1 (fun x3 => (if (decide (x3 < 0)) = true then
          Φ (.inr "java/lang/IllegalStateException") (bm_tw w3)
        else
          (bm_kt w3 x1 = 7) ∧
          (if (decide ((12 : Int) ≤ (bm_gi w3 x1 5))) = true then
            Φ (.inr "java/lang/IllegalStateException") (bm_tw w3)
          else
            (bm_kt w3 x1 = 7) ∧
            (if (decide ((bm_gi w3 x1 6) < (100 : Int))) = true then
              (bm_kt w3 p0 = 11) ∧ bm_Call bm_pg d y_X11_addCase [bm_r (some p0), bm_r (some x1), bm_i x3] w3 (fun r4 w4 => 
                bm_c0 ((bm_kt w4 p0 = 11 ∧ bm_gr w4 p0 5 = some (bm_u (bm_gr w4 p0 5))) ∧
                (bm_kt w4 (bm_u (bm_gr w4 p0 5)) = 6) ∧ bm_Call bm_pg d y_X6_forget [bm_r (some (bm_u (bm_gr w4 p0 5)))] w4 (fun r5 w5 => 
                  bm_c0 ((bm_kt w5 x1 = 7) ∧
                  Φ (.inl (some (bm_i (bm_gi w5 x1 6)))) w5) (fun E => Φ (.inr E) w5) r5)) (fun E => Φ (.inr E) w4) r4)
            else
              Φ (.inr "java/lang/IllegalStateException") (bm_tw w3))))) (fun E => Φ (.inr E) w3) r3)) (fun E => Φ (.inr E) w2) r2)) (fun E => Φ (.inr E) w1) r1)) : bm_Call bm_pg (d + 1) y_X11_grow [bm_r (some p0), bm_i p1] w Φ := bm_enter rfl (bm_go (bm_Call_mono _ _) [] 35 _ h)
/-! CaseTables.shorten(I)I -/
def bk_X11_shorten_13 (d : Nat) (Φ : bm_Rt → bm_W → Prop) (v0 : Nat) (v2 : Nat) (v3 : Int) (w : bm_W) : Prop := bm_Wp (bm_Call bm_pg d) tb_X11_shorten Φ (13, [some (bm_r (some v0)), none, some (bm_r (some v2)), some (bm_i v3), none, none], [], w)
set_option maxRecDepth 20000 in
theorem vc_X11_shorten {d : Nat} {Φ : bm_Rt → bm_W → Prop} {p0 : Nat} {p1 : Int} {w : bm_W} (h :
  (bm_kt w p0 = 11) ∧ bm_Call bm_pg d y_X11_existingTable [bm_r (some p0), bm_i p1] w (fun r1 w1 => 
    bm_c3 (fun x1 => (bm_kt w1 x1 = 7) ∧
    bk_X11_shorten_13 d Φ p0 x1 (bm_w ((bm_gi w1 x1 5) - (1 : Int))) w1) (fun E => Φ (.inr E) w1) r1)) : bm_Call bm_pg (d + 1) y_X11_shorten [bm_r (some p0), bm_i p1] w Φ := bm_enter rfl (bm_go (bm_Call_mono _ _) [13] 45 _ h)
set_option maxRecDepth 20000 in
theorem vb_X11_shorten_13 {d : Nat} {Φ : bm_Rt → bm_W → Prop} {v0 : Nat} {v2 : Nat} {v3 : Int} {w : bm_W} (h :
  (if (decide (v3 < 0)) = true then
    (bm_kt w v0 = 11 ∧ bm_gr w v0 5 = some (bm_u (bm_gr w v0 5))) ∧
    (bm_kt w (bm_u (bm_gr w v0 5)) = 6) ∧ bm_Call bm_pg d y_X6_forget [bm_r (some (bm_u (bm_gr w v0 5)))] w (fun r1 w1 => 
      bm_c0 ((bm_kt w1 v2 = 7) ∧
      Φ (.inl (some (bm_i (bm_gi w1 v2 5)))) w1) (fun E => Φ (.inr E) w1) r1)
  else
    (bm_kt w v2 = 7) ∧
    (if (decide ((bm_gi w v2 5) ≤ (1 : Int))) = true then
      (bm_kt w v0 = 11 ∧ bm_gr w v0 5 = some (bm_u (bm_gr w v0 5))) ∧
      (bm_kt w (bm_u (bm_gr w v0 5)) = 6) ∧ bm_Call bm_pg d y_X6_forget [bm_r (some (bm_u (bm_gr w v0 5)))] w (fun r2 w2 => 
        bm_c0 ((bm_kt w2 v2 = 7) ∧
        Φ (.inl (some (bm_i (bm_gi w2 v2 5)))) w2) (fun E => Φ (.inr E) w2) r2)
    else
      (bm_kt w v0 = 11 ∧ bm_gr w v0 5 = some (bm_u (bm_gr w v0 5))) ∧
      (bm_kt w v2 = 7) ∧ bm_Call bm_pg d y_X7_rowAt [bm_r (some v2), bm_i v3] w (fun r3 w3 => 
        bm_c3 (fun x3 => (bm_kt w3 (bm_u (bm_gr w v0 5)) = 6) ∧ bm_Call bm_pg d y_X6_changesFound [bm_r (some (bm_u (bm_gr w v0 5))), bm_r (some v2), bm_r (some x3)] w3 (fun r4 w4 => 
          bm_c2 (fun x4 => (True) ∧ bm_Call bm_pg d y_J13_bitCount_95d88 [bm_l x4] w4 (fun r5 w5 => 
            bm_c1 (fun x5 => (bm_kt w5 v0 = 11 ∧ bm_gr w5 v0 5 = some (bm_u (bm_gr w5 v0 5))) ∧
            (bm_kt w5 (bm_u (bm_gr w5 v0 5)) = 6) ∧ bm_Call bm_pg d y_X6_changesFound [bm_r (some (bm_u (bm_gr w5 v0 5))), bm_r (some v2), bm_r (none : Option Nat)] w5 (fun r6 w6 => 
              bm_c2 (fun x6 => (True) ∧ bm_Call bm_pg d y_J13_bitCount_95d88 [bm_l x6] w6 (fun r7 w7 => 
                bm_c1 (fun x7 => (if (!decide (x5 = x7)) = true then
                  bk_X11_shorten_13 d Φ v0 v2 (bm_w (v3 + (-1))) w7
                else
                  (bm_kt w7 v2 = 7) ∧ bm_Call bm_pg d y_X7_drop [bm_r (some v2), bm_i v3] w7 (fun r8 w8 => 
                    bm_c0 (bk_X11_shorten_13 d Φ v0 v2 (bm_w (v3 + (-1))) w8) (fun E => Φ (.inr E) w8) r8))) (fun E => Φ (.inr E) w7) r7)) (fun E => Φ (.inr E) w6) r6)) (fun E => Φ (.inr E) w5) r5)) (fun E => Φ (.inr E) w4) r4)) (fun E => Φ (.inr E) w3) r3)))) : bk_X11_shorten_13 d Φ v0 v2 v3 w := bm_go (bm_Call_mono _ _) [13] 45 _ h
/-! CaseTables.digest()J -/
def bk_X11_digest_13 (d : Nat) (Φ : bm_Rt → bm_W → Prop) (v0 : Nat) (v1 : Int) (v3 : Int) (w : bm_W) : Prop := bm_Wp (bm_Call bm_pg d) tb_X11_digest Φ (13, [some (bm_r (some v0)), some (bm_l v1), none, some (bm_i v3), none], [], w)
def bk_X11_digest_39 (d : Nat) (Φ : bm_Rt → bm_W → Prop) (v0 : Nat) (v1 : Int) (v3 : Int) (w : bm_W) : Prop := bm_Wp (bm_Call bm_pg d) tb_X11_digest Φ (39, [some (bm_r (some v0)), some (bm_l v1), none, some (bm_i v3), none], [], w)
def bk_X11_digest_53 (d : Nat) (Φ : bm_Rt → bm_W → Prop) (v0 : Nat) (v1 : Int) (v3 : Int) (v4 : Int) (w : bm_W) : Prop := bm_Wp (bm_Call bm_pg d) tb_X11_digest Φ (53, [some (bm_r (some v0)), some (bm_l v1), none, some (bm_i v3), some (bm_i v4)], [], w)
def bk_X11_digest_88 (d : Nat) (Φ : bm_Rt → bm_W → Prop) (v0 : Nat) (v1 : Int) (v3 : Int) (w : bm_W) : Prop := bm_Wp (bm_Call bm_pg d) tb_X11_digest Φ (88, [some (bm_r (some v0)), some (bm_l v1), none, some (bm_i v3), none], [], w)
def bk_X11_digest_121 (d : Nat) (Φ : bm_Rt → bm_W → Prop) (v0 : Nat) (v1 : Int) (v3 : Int) (w : bm_W) : Prop := bm_Wp (bm_Call bm_pg d) tb_X11_digest Φ (121, [some (bm_r (some v0)), some (bm_l v1), none, some (bm_i v3), none], [], w)
set_option maxRecDepth 20000 in
theorem vc_X11_digest {d : Nat} {Φ : bm_Rt → bm_W → Prop} {p0 : Nat} {w : bm_W} (h :
  (bm_kt w p0 = 11 ∧ bm_gr w p0 5 = some (bm_u (bm_gr w p0 5))) ∧
  (bm_kt w (bm_u (bm_gr w p0 5)) = 6) ∧ bm_Call bm_pg d y_X6_refresh [bm_r (some (bm_u (bm_gr w p0 5)))] w (fun r1 w1 => 
    bm_c0 (bk_X11_digest_13 d Φ p0 (373 : Int) (0 : Int) w1) (fun E => Φ (.inr E) w1) r1)) : bm_Call bm_pg (d + 1) y_X11_digest [bm_r (some p0)] w Φ := bm_enter rfl (bm_go (bm_Call_mono _ _) [13, 39, 53, 88, 121] 99 _ h)
set_option maxRecDepth 20000 in
theorem vb_X11_digest_13 {d : Nat} {Φ : bm_Rt → bm_W → Prop} {v0 : Nat} {v1 : Int} {v3 : Int} {w : bm_W} (h :
  (if (decide ((4 : Int) < v3)) = true then
    bk_X11_digest_39 d Φ v0 v1 (0 : Int) w
  else
    (bm_kt w v0 = 11) ∧ bm_Call bm_pg d y_X11_count [bm_r (some v0), bm_i v3] w (fun r1 w1 => 
      bm_c1 (fun x1 => bk_X11_digest_13 d Φ v0 (bm_x ((bm_x (v1 * (31 : Int))) + x1)) (bm_w (v3 + 1)) w1) (fun E => Φ (.inr E) w1) r1))) : bk_X11_digest_13 d Φ v0 v1 v3 w := bm_go (bm_Call_mono _ _) [13, 39, 53, 88, 121] 99 _ h
set_option maxRecDepth 20000 in
theorem vb_X11_digest_39 {d : Nat} {Φ : bm_Rt → bm_W → Prop} {v0 : Nat} {v1 : Int} {v3 : Int} {w : bm_W} (h :
  (bm_kt w v0 = 11 ∧ bm_gr w v0 2 = some (bm_u (bm_gr w v0 2))) ∧
  (bm_kt w (bm_u (bm_gr w v0 2)) = 3) ∧
  (if (decide ((bm_gi w (bm_u (bm_gr w v0 2)) 4) ≤ v3)) = true then
    bk_X11_digest_88 d Φ v0 v1 (0 : Int) w
  else
    bk_X11_digest_53 d Φ v0 v1 v3 (0 : Int) w)) : bk_X11_digest_39 d Φ v0 v1 v3 w := bm_go (bm_Call_mono _ _) [13, 39, 53, 88, 121] 99 _ h
set_option maxRecDepth 20000 in
theorem vb_X11_digest_53 {d : Nat} {Φ : bm_Rt → bm_W → Prop} {v0 : Nat} {v1 : Int} {v3 : Int} {v4 : Int} {w : bm_W} (h :
  (if (decide ((5 : Int) < v4)) = true then
    bk_X11_digest_39 d Φ v0 v1 (bm_w (v3 + 1)) w
  else
    (bm_kt w v0 = 11) ∧ bm_Call bm_pg d y_X11_fun [bm_r (some v0), bm_i v3, bm_i v4] w (fun r1 w1 => 
      bm_c1 (fun x1 => bk_X11_digest_53 d Φ v0 (bm_x ((bm_x (v1 * (31 : Int))) + x1)) v3 (bm_w (v4 + 1)) w1) (fun E => Φ (.inr E) w1) r1))) : bk_X11_digest_53 d Φ v0 v1 v3 v4 w := bm_go (bm_Call_mono _ _) [13, 39, 53, 88, 121] 99 _ h
set_option maxRecDepth 20000 in
theorem vb_X11_digest_88 {d : Nat} {Φ : bm_Rt → bm_W → Prop} {v0 : Nat} {v1 : Int} {v3 : Int} {w : bm_W} (h :
  (bm_kt w v0 = 11 ∧ bm_gr w v0 2 = some (bm_u (bm_gr w v0 2))) ∧
  (bm_kt w (bm_u (bm_gr w v0 2)) = 3) ∧
  (if (decide ((bm_gi w (bm_u (bm_gr w v0 2)) 5) ≤ v3)) = true then
    bk_X11_digest_121 d Φ v0 v1 (0 : Int) w
  else
    (bm_kt w v0 = 11 ∧ bm_gr w v0 2 = some (bm_u (bm_gr w v0 2))) ∧
    (bm_kt w (bm_u (bm_gr w v0 2)) = 3) ∧ bm_Call bm_pg d y_X3_tableAt [bm_r (some (bm_u (bm_gr w v0 2))), bm_i v3] w (fun r1 w1 => 
      bm_c3 (fun x1 => (bm_kt w1 v0 = 11) ∧ bm_Call bm_pg d y_X11_addTable [bm_r (some v0), bm_l v1, bm_r (some x1)] w1 (fun r2 w2 => 
        bm_c2 (fun x2 => bk_X11_digest_88 d Φ v0 x2 (bm_w (v3 + 1)) w2) (fun E => Φ (.inr E) w2) r2)) (fun E => Φ (.inr E) w1) r1))) : bk_X11_digest_88 d Φ v0 v1 v3 w := bm_go (bm_Call_mono _ _) [13, 39, 53, 88, 121] 99 _ h
set_option maxRecDepth 20000 in
theorem vb_X11_digest_121 {d : Nat} {Φ : bm_Rt → bm_W → Prop} {v0 : Nat} {v1 : Int} {v3 : Int} {w : bm_W} (h :
  (bm_kt w v0 = 11 ∧ bm_gr w v0 2 = some (bm_u (bm_gr w v0 2))) ∧
  (bm_kt w (bm_u (bm_gr w v0 2)) = 3) ∧
  (if (decide ((bm_gi w (bm_u (bm_gr w v0 2)) 6) ≤ v3)) = true then
    Φ (.inl (some (bm_l v1))) w
  else
    (bm_kt w v0 = 11 ∧ bm_gr w v0 4 = some (bm_u (bm_gr w v0 4))) ∧
    (bm_kt w (bm_u (bm_gr w v0 4)) = 2) ∧ bm_Call bm_pg d y_X2_branchCount [bm_r (some (bm_u (bm_gr w v0 4))), bm_i v3, bm_i (1 : Int)] w (fun r1 w1 => 
      bm_c1 (fun x1 => (bm_kt w1 v0 = 11 ∧ bm_gr w1 v0 4 = some (bm_u (bm_gr w1 v0 4))) ∧
      (bm_kt w1 (bm_u (bm_gr w1 v0 4)) = 2) ∧ bm_Call bm_pg d y_X2_branchCount [bm_r (some (bm_u (bm_gr w1 v0 4))), bm_i v3, bm_i (0 : Int)] w1 (fun r2 w2 => 
        bm_c1 (fun x2 => bk_X11_digest_121 d Φ v0 (bm_x ((bm_x ((bm_x ((bm_x (v1 * (31 : Int))) + x1)) * (31 : Int))) + x2)) (bm_w (v3 + 1)) w2) (fun E => Φ (.inr E) w2) r2)) (fun E => Φ (.inr E) w1) r1))) : bk_X11_digest_121 d Φ v0 v1 v3 w := bm_go (bm_Call_mono _ _) [13, 39, 53, 88, 121] 99 _ h
/-! CaseTables.addTable(JLCaseTables$Table;)J -/
def bk_X11_addTable_6 (d : Nat) (Φ : bm_Rt → bm_W → Prop) (v0 : Nat) (v3 : Nat) (v4 : Int) (v6 : Int) (w : bm_W) : Prop := bm_Wp (bm_Call bm_pg d) tb_X11_addTable Φ (6, [some (bm_r (some v0)), none, none, some (bm_r (some v3)), some (bm_l v4), none, some (bm_i v6), none, none], [], w)
def bk_X11_addTable_53 (d : Nat) (Φ : bm_Rt → bm_W → Prop) (v3 : Nat) (v4 : Int) (v6 : Int) (v7 : Int) (w : bm_W) : Prop := bm_Wp (bm_Call bm_pg d) tb_X11_addTable Φ (53, [none, none, none, some (bm_r (some v3)), some (bm_l v4), none, some (bm_i v6), some (bm_i v7), none], [], w)
def bk_X11_addTable_65 (d : Nat) (Φ : bm_Rt → bm_W → Prop) (v3 : Nat) (v4 : Int) (v6 : Int) (v7 : Int) (v8 : Int) (w : bm_W) : Prop := bm_Wp (bm_Call bm_pg d) tb_X11_addTable Φ (65, [none, none, none, some (bm_r (some v3)), some (bm_l v4), none, some (bm_i v6), some (bm_i v7), some (bm_i v8)], [], w)
set_option maxRecDepth 20000 in
theorem vc_X11_addTable {d : Nat} {Φ : bm_Rt → bm_W → Prop} {p0 : Nat} {p1 : Int} {p2 : Nat} {w : bm_W} (h :
  bk_X11_addTable_6 d Φ p0 p2 p1 (0 : Int) w) : bm_Call bm_pg (d + 1) y_X11_addTable [bm_r (some p0), bm_l p1, bm_r (some p2)] w Φ := bm_enter rfl (bm_go (bm_Call_mono _ _) [6, 53, 65] 54 _ h)
set_option maxRecDepth 20000 in
theorem vb_X11_addTable_6 {d : Nat} {Φ : bm_Rt → bm_W → Prop} {v0 : Nat} {v3 : Nat} {v4 : Int} {v6 : Int} {w : bm_W} (h :
  (if (decide ((4 : Int) < v6)) = true then
    (bm_kt w v0 = 11 ∧ bm_gr w v0 2 = some (bm_u (bm_gr w v0 2))) ∧
    (bm_kt w v3 = 7) ∧
    (bm_kt w (bm_u (bm_gr w v0 2)) = 3) ∧ bm_Call bm_pg d y_X3_funAt [bm_r (some (bm_u (bm_gr w v0 2))), bm_i (bm_gi w v3 4)] w (fun r1 w1 => 
      bm_c3 (fun x1 => (bm_kt w1 x1 = 1) ∧
      bk_X11_addTable_53 d Φ v3 v4 (bm_gi w1 x1 6) (0 : Int) w1) (fun E => Φ (.inr E) w1) r1)
  else
    (bm_kt w v3 = 7) ∧ bm_Call bm_pg d y_X7_tell [bm_r (some v3), bm_i v6] w (fun r2 w2 => 
      bm_c1 (fun x2 => bk_X11_addTable_6 d Φ v0 v3 (bm_x ((bm_x (v4 * (31 : Int))) + x2)) (bm_w (v6 + 1)) w2) (fun E => Φ (.inr E) w2) r2))) : bk_X11_addTable_6 d Φ v0 v3 v4 v6 w := bm_go (bm_Call_mono _ _) [6, 53, 65] 54 _ h
set_option maxRecDepth 20000 in
theorem vb_X11_addTable_53 {d : Nat} {Φ : bm_Rt → bm_W → Prop} {v3 : Nat} {v4 : Int} {v6 : Int} {v7 : Int} {w : bm_W} (h :
  (bm_kt w v3 = 7) ∧
  (if (decide ((bm_gi w v3 6) ≤ v7)) = true then
    Φ (.inl (some (bm_l v4))) w
  else
    bk_X11_addTable_65 d Φ v3 v4 v6 v7 (0 : Int) w)) : bk_X11_addTable_53 d Φ v3 v4 v6 v7 w := bm_go (bm_Call_mono _ _) [6, 53, 65] 54 _ h
set_option maxRecDepth 20000 in
theorem vb_X11_addTable_65 {d : Nat} {Φ : bm_Rt → bm_W → Prop} {v3 : Nat} {v4 : Int} {v6 : Int} {v7 : Int} {v8 : Int} {w : bm_W} (h :
  (if (decide (v6 ≤ v8)) = true then
    bk_X11_addTable_53 d Φ v3 v4 v6 (bm_w (v7 + 1)) w
  else
    (bm_kt w v3 = 7) ∧ bm_Call bm_pg d y_X7_valueAt [bm_r (some v3), bm_i v7, bm_i v8] w (fun r1 w1 => 
      bm_c1 (fun x1 => bk_X11_addTable_65 d Φ v3 (bm_x ((bm_x (v4 * (31 : Int))) + x1)) v6 v7 (bm_w (v8 + 1)) w1) (fun E => Φ (.inr E) w1) r1))) : bk_X11_addTable_65 d Φ v3 v4 v6 v7 v8 w := bm_go (bm_Call_mono _ _) [6, 53, 65] 54 _ h
/-! CaseTables.requireBelow(II)V -/
set_option maxRecDepth 20000 in
theorem vc_X11_requireBelow {d : Nat} {Φ : bm_Rt → bm_W → Prop} {p0 : Int} {p1 : Int} {w : bm_W} (h :
  (if (decide (p0 < 0)) = true then
    Φ (.inr "java/lang/IndexOutOfBoundsException") (bm_tw w)
  else
    (if (decide (p0 < p1)) = true then
      Φ (.inl none) w
    else
      Φ (.inr "java/lang/IndexOutOfBoundsException") (bm_tw w)))) : bm_Call bm_pg (d + 1) y_X11_requireBelow [bm_i p0, bm_i p1] w Φ := bm_enter rfl (bm_go (bm_Call_mono _ _) [] 9 _ h)
/-! CaseTables.existingFun(I)LCaseTables$Fun; -/
set_option maxRecDepth 20000 in
theorem vc_X11_existingFun {d : Nat} {Φ : bm_Rt → bm_W → Prop} {p0 : Nat} {p1 : Int} {w : bm_W} (h :
  (bm_kt w p0 = 11 ∧ bm_gr w p0 2 = some (bm_u (bm_gr w p0 2))) ∧
  (bm_kt w (bm_u (bm_gr w p0 2)) = 3) ∧
  (True) ∧ bm_Call bm_pg d y_X11_requireBelow [bm_i p1, bm_i (bm_gi w (bm_u (bm_gr w p0 2)) 4)] w (fun r1 w1 => 
    bm_c0 ((bm_kt w1 p0 = 11 ∧ bm_gr w1 p0 2 = some (bm_u (bm_gr w1 p0 2))) ∧
    (bm_kt w1 (bm_u (bm_gr w1 p0 2)) = 3) ∧ bm_Call bm_pg d y_X3_funAt [bm_r (some (bm_u (bm_gr w1 p0 2))), bm_i p1] w1 (fun r2 w2 => 
      bm_c3 (fun x2 => Φ (.inl (some (bm_r (some x2)))) w2) (fun E => Φ (.inr E) w2) r2)) (fun E => Φ (.inr E) w1) r1)) : bm_Call bm_pg (d + 1) y_X11_existingFun [bm_r (some p0), bm_i p1] w Φ := bm_enter rfl (bm_go (bm_Call_mono _ _) [] 12 _ h)
/-! CaseTables.existingTable(I)LCaseTables$Table; -/
set_option maxRecDepth 20000 in
theorem vc_X11_existingTable {d : Nat} {Φ : bm_Rt → bm_W → Prop} {p0 : Nat} {p1 : Int} {w : bm_W} (h :
  (bm_kt w p0 = 11 ∧ bm_gr w p0 2 = some (bm_u (bm_gr w p0 2))) ∧
  (bm_kt w (bm_u (bm_gr w p0 2)) = 3) ∧
  (True) ∧ bm_Call bm_pg d y_X11_requireBelow [bm_i p1, bm_i (bm_gi w (bm_u (bm_gr w p0 2)) 5)] w (fun r1 w1 => 
    bm_c0 ((bm_kt w1 p0 = 11 ∧ bm_gr w1 p0 2 = some (bm_u (bm_gr w1 p0 2))) ∧
    (bm_kt w1 (bm_u (bm_gr w1 p0 2)) = 3) ∧ bm_Call bm_pg d y_X3_tableAt [bm_r (some (bm_u (bm_gr w1 p0 2))), bm_i p1] w1 (fun r2 w2 => 
      bm_c3 (fun x2 => Φ (.inl (some (bm_r (some x2)))) w2) (fun E => Φ (.inr E) w2) r2)) (fun E => Φ (.inr E) w1) r1)) : bm_Call bm_pg (d + 1) y_X11_existingTable [bm_r (some p0), bm_i p1] w Φ := bm_enter rfl (bm_go (bm_Call_mono _ _) [] 12 _ h)
/-! CaseTables.valueOrThrow(IIIII)J -/
set_option maxRecDepth 20000 in
theorem vc_X11_valueOrThrow {d : Nat} {Φ : bm_Rt → bm_W → Prop} {p0 : Nat} {p1 : Int} {p2 : Int} {p3 : Int} {p4 : Int} {p5 : Int} {w : bm_W} (h :
  (bm_kt w p0 = 11 ∧ bm_gr w p0 4 = some (bm_u (bm_gr w p0 4))) ∧
  (bm_kt w (bm_u (bm_gr w p0 4)) = 2) ∧ bm_Call bm_pg d y_X2_reckon [bm_r (some (bm_u (bm_gr w p0 4))), bm_i p1, bm_i p2, bm_l p3, bm_l p4, bm_l p5] w (fun r1 w1 => 
    bm_c2 (fun x1 => (bm_kt w1 p0 = 11 ∧ bm_gr w1 p0 4 = some (bm_u (bm_gr w1 p0 4))) ∧
    (bm_kt w1 (bm_u (bm_gr w1 p0 4)) = 2) ∧ bm_Call bm_pg d y_X2_hasFailed [bm_r (some (bm_u (bm_gr w1 p0 4)))] w1 (fun r2 w2 => 
      bm_c1 (fun x2 => (if (decide (x2 = 0)) = true then
        Φ (.inl (some (bm_l x1))) w2
      else
        Φ (.inr "java/lang/IllegalStateException") (bm_tw w2))) (fun E => Φ (.inr E) w2) r2)) (fun E => Φ (.inr E) w1) r1)) : bm_Call bm_pg (d + 1) y_X11_valueOrThrow [bm_r (some p0), bm_i p1, bm_i p2, bm_i p3, bm_i p4, bm_i p5] w Φ := bm_enter rfl (bm_go (bm_Call_mono _ _) [] 21 _ h)
/-! CaseTables.findUntried(I)V -/
def bk_X11_findUntried_19 (d : Nat) (Φ : bm_Rt → bm_W → Prop) (v0 : Nat) (v1 : Int) (v2 : Nat) (v3 : Int) (w : bm_W) : Prop := bm_Wp (bm_Call bm_pg d) tb_X11_findUntried Φ (19, [some (bm_r (some v0)), some (bm_i v1), some (bm_r (some v2)), some (bm_i v3), none], [], w)
set_option maxRecDepth 20000 in
theorem vc_X11_findUntried {d : Nat} {Φ : bm_Rt → bm_W → Prop} {p0 : Nat} {p1 : Int} {w : bm_W} (h :
  (bm_kt w p0 = 11 ∧ bm_gr w p0 2 = some (bm_u (bm_gr w p0 2))) ∧
  (bm_kt w (bm_u (bm_gr w p0 2)) = 3) ∧ bm_Call bm_pg d y_X3_funAt [bm_r (some (bm_u (bm_gr w p0 2))), bm_i p1] w (fun r1 w1 => 
    bm_c3 (fun x1 => (bm_kt w1 p0 = 11 ∧ bm_gr w1 p0 6 = some (bm_u (bm_gr w1 p0 6))) ∧
    (bm_kt w1 (bm_u (bm_gr w1 p0 6)) = 10) ∧ bm_Call bm_pg d y_X10_begin [bm_r (some (bm_u (bm_gr w1 p0 6))), bm_r (some x1)] w1 (fun r2 w2 => 
      bm_c0 (bk_X11_findUntried_19 d Φ p0 p1 x1 (0 : Int) w2) (fun E => Φ (.inr E) w2) r2)) (fun E => Φ (.inr E) w1) r1)) : bm_Call bm_pg (d + 1) y_X11_findUntried [bm_r (some p0), bm_i p1] w Φ := bm_enter rfl (bm_go (bm_Call_mono _ _) [19] 36 _ h)
set_option maxRecDepth 20000 in
theorem vb_X11_findUntried_19 {d : Nat} {Φ : bm_Rt → bm_W → Prop} {v0 : Nat} {v1 : Int} {v2 : Nat} {v3 : Int} {w : bm_W} (h :
  (bm_kt w v0 = 11 ∧ bm_gr w v0 2 = some (bm_u (bm_gr w v0 2))) ∧
  (bm_kt w (bm_u (bm_gr w v0 2)) = 3) ∧
  (if (decide ((bm_gi w (bm_u (bm_gr w v0 2)) 5) ≤ v3)) = true then
    Φ (.inl none) w
  else
    (bm_kt w v0 = 11 ∧ bm_gr w v0 2 = some (bm_u (bm_gr w v0 2))) ∧
    (bm_kt w (bm_u (bm_gr w v0 2)) = 3) ∧ bm_Call bm_pg d y_X3_tableAt [bm_r (some (bm_u (bm_gr w v0 2))), bm_i v3] w (fun r1 w1 => 
      bm_c3 (fun x1 => (bm_kt w1 x1 = 7) ∧
      (if (!decide ((bm_gi w1 x1 4) = v1)) = true then
        bk_X11_findUntried_19 d Φ v0 v1 v2 (bm_w (v3 + 1)) w1
      else
        (bm_kt w1 v0 = 11 ∧ bm_gr w1 v0 6 = some (bm_u (bm_gr w1 v0 6))) ∧
        (bm_kt w1 v2 = 1 ∧ bm_gr w1 v2 1 = some (bm_u (bm_gr w1 v2 1))) ∧
        (bm_kt w1 (bm_u (bm_gr w1 v0 6)) = 10) ∧ bm_Call bm_pg d y_X10_strikeTable [bm_r (some (bm_u (bm_gr w1 v0 6))), bm_r (some (bm_u (bm_gr w1 v2 1))), bm_r (some x1)] w1 (fun r2 w2 => 
          bm_c0 (bk_X11_findUntried_19 d Φ v0 v1 v2 (bm_w (v3 + 1)) w2) (fun E => Φ (.inr E) w2) r2))) (fun E => Φ (.inr E) w1) r1))) : bk_X11_findUntried_19 d Φ v0 v1 v2 v3 w := bm_go (bm_Call_mono _ _) [19] 36 _ h
/-! CaseTables.addCase(LCaseTables$Table;I)V -/
def bk_X11_addCase_24 (d : Nat) (Φ : bm_Rt → bm_W → Prop) (v0 : Nat) (v1 : Nat) (v2 : Int) (v3 : Nat) (v4 : Nat) (v5 : Int) (w : bm_W) : Prop := bm_Wp (bm_Call bm_pg d) tb_X11_addCase Φ (24, [some (bm_r (some v0)), some (bm_r (some v1)), some (bm_i v2), some (bm_r (some v3)), some (bm_r (some v4)), some (bm_i v5), none], [], w)
set_option maxRecDepth 20000 in
theorem vc_X11_addCase {d : Nat} {Φ : bm_Rt → bm_W → Prop} {p0 : Nat} {p1 : Nat} {p2 : Int} {w : bm_W} (h :
  (bm_kt w p0 = 11 ∧ bm_gr w p0 2 = some (bm_u (bm_gr w p0 2))) ∧
  (bm_kt w p1 = 7) ∧
  (bm_kt w (bm_u (bm_gr w p0 2)) = 3) ∧ bm_Call bm_pg d y_X3_funAt [bm_r (some (bm_u (bm_gr w p0 2))), bm_i (bm_gi w p1 4)] w (fun r1 w1 => 
    bm_c3 (fun x1 => (bm_kt w1 x1 = 1 ∧ bm_gr w1 x1 1 = some (bm_u (bm_gr w1 x1 1))) ∧
    (bm_kt w1 p1 = 7) ∧ bm_Call bm_pg d y_X7_nextRow [bm_r (some p1)] w1 (fun r2 w2 => 
      bm_c3 (fun x2 => bk_X11_addCase_24 d Φ p0 p1 p2 (bm_u (bm_gr w1 x1 1)) x2 (0 : Int) w2) (fun E => Φ (.inr E) w2) r2)) (fun E => Φ (.inr E) w1) r1)) : bm_Call bm_pg (d + 1) y_X11_addCase [bm_r (some p0), bm_r (some p1), bm_i p2] w Φ := bm_enter rfl (bm_go (bm_Call_mono _ _) [24] 65 _ h)
set_option maxRecDepth 20000 in
theorem vb_X11_addCase_24 {d : Nat} {Φ : bm_Rt → bm_W → Prop} {v0 : Nat} {v1 : Nat} {v2 : Int} {v3 : Nat} {v4 : Nat} {v5 : Int} {w : bm_W} (h :
  (if (decide ((3 : Int) ≤ v5)) = true then
    (bm_kt w v4 = 5 ∧ bm_gr w v4 0 = some (bm_u (bm_gr w v4 0))) ∧
    (bm_kt w v0 = 11 ∧ bm_gr w v0 4 = some (bm_u (bm_gr w v0 4))) ∧
    (bm_kt w v1 = 7) ∧
    (bm_kt w (bm_u (bm_gr w v4 0)) = 4) ∧ bm_Call bm_pg d y_X4_low [bm_r (some (bm_u (bm_gr w v4 0))), bm_i (0 : Int)] w (fun r1 w1 => 
      bm_c1 (fun x1 => (bm_kt w1 (bm_u (bm_gr w v4 0)) = 4) ∧ bm_Call bm_pg d y_X4_low [bm_r (some (bm_u (bm_gr w v4 0))), bm_i (1 : Int)] w1 (fun r2 w2 => 
        bm_c1 (fun x2 => (bm_kt w2 (bm_u (bm_gr w v4 0)) = 4) ∧ bm_Call bm_pg d y_X4_low [bm_r (some (bm_u (bm_gr w v4 0))), bm_i (2 : Int)] w2 (fun r3 w3 => 
          bm_c1 (fun x3 => (bm_kt w3 (bm_u (bm_gr w v0 4)) = 2) ∧ bm_Call bm_pg d y_X2_reckon [bm_r (some (bm_u (bm_gr w v0 4))), bm_i (bm_gi w v1 4), bm_i (-1 : Int), bm_l x1, bm_l x2, bm_l x3] w3 (fun r4 w4 => 
            bm_c2 (fun x4 => (bm_kt w4 v4 = 5) ∧
            (bm_kt (bm_sq w4 v4 2 x4) v0 = 11 ∧ bm_gr (bm_sq w4 v4 2 x4) v0 4 = some (bm_u (bm_gr (bm_sq w4 v4 2 x4) v0 4))) ∧
            (bm_kt (bm_sq w4 v4 2 x4) (bm_u (bm_gr (bm_sq w4 v4 2 x4) v0 4)) = 2) ∧ bm_Call bm_pg d y_X2_hasFailed [bm_r (some (bm_u (bm_gr (bm_sq w4 v4 2 x4) v0 4)))] (bm_sq w4 v4 2 x4) (fun r5 w5 => 
              bm_c1 (fun x5 => (if (decide (x5 = 0)) = true then
                (bm_kt w5 v4 = 5) ∧
                (bm_kt (bm_si w5 v4 1 (22 : Int)) v1 = 7) ∧ bm_Call bm_pg d y_X7_keepRow [bm_r (some v1)] (bm_si w5 v4 1 (22 : Int)) (fun r6 w6 => 
                  bm_c0 (Φ (.inl none) w6) (fun E => Φ (.inr E) w6) r6)
              else
                (bm_kt w5 v4 = 5) ∧
                (bm_kt (bm_si w5 v4 1 (15 : Int)) v1 = 7) ∧ bm_Call bm_pg d y_X7_keepRow [bm_r (some v1)] (bm_si w5 v4 1 (15 : Int)) (fun r7 w7 => 
                  bm_c0 (Φ (.inl none) w7) (fun E => Φ (.inr E) w7) r7))) (fun E => Φ (.inr E) w5) r5)) (fun E => Φ (.inr E) w4) r4)) (fun E => Φ (.inr E) w3) r3)) (fun E => Φ (.inr E) w2) r2)) (fun E => Φ (.inr E) w1) r1)
  else
    (bm_kt w v3 = 4) ∧ bm_Call bm_pg d y_X4_valueAt [bm_r (some v3), bm_i v2, bm_i v5] w (fun r8 w8 => 
      bm_c1 (fun x8 => (bm_kt w8 v4 = 5 ∧ bm_gr w8 v4 0 = some (bm_u (bm_gr w8 v4 0))) ∧
      (bm_kt w8 (bm_u (bm_gr w8 v4 0)) = 4) ∧ bm_Call bm_pg d y_X4_put [bm_r (some (bm_u (bm_gr w8 v4 0))), bm_i v5, bm_i x8, bm_i x8] w8 (fun r9 w9 => 
        bm_c0 (bk_X11_addCase_24 d Φ v0 v1 v2 v3 v4 (bm_w (v5 + 1)) w9) (fun E => Φ (.inr E) w9) r9)) (fun E => Φ (.inr E) w8) r8))) : bk_X11_addCase_24 d Φ v0 v1 v2 v3 v4 v5 w := bm_go (bm_Call_mono _ _) [24] 65 _ h
/-! CaseTables.isRelated(IJJ)Z -/
set_option maxRecDepth 20000 in
theorem vc_X11_isRelated {d : Nat} {Φ : bm_Rt → bm_W → Prop} {p0 : Int} {p1 : Int} {p2 : Int} {w : bm_W} (h :
  (if p0 = 22 then
    (if (!decide (p1 = p2)) = true then
      ((0 : Int) = 0 ∨ (0 : Int) = 1) ∧ Φ (.inl (some (bm_i (0 : Int)))) w
    else
      ((1 : Int) = 0 ∨ (1 : Int) = 1) ∧ Φ (.inl (some (bm_i (1 : Int)))) w)
  else (if p0 = 23 then
    (if (decide (p1 = p2)) = true then
      ((0 : Int) = 0 ∨ (0 : Int) = 1) ∧ Φ (.inl (some (bm_i (0 : Int)))) w
    else
      ((1 : Int) = 0 ∨ (1 : Int) = 1) ∧ Φ (.inl (some (bm_i (1 : Int)))) w)
  else (if p0 = 24 then
    (if (decide (p2 ≤ p1)) = true then
      ((0 : Int) = 0 ∨ (0 : Int) = 1) ∧ Φ (.inl (some (bm_i (0 : Int)))) w
    else
      ((1 : Int) = 0 ∨ (1 : Int) = 1) ∧ Φ (.inl (some (bm_i (1 : Int)))) w)
  else (if p0 = 25 then
    (if (decide (p2 < p1)) = true then
      ((0 : Int) = 0 ∨ (0 : Int) = 1) ∧ Φ (.inl (some (bm_i (0 : Int)))) w
    else
      ((1 : Int) = 0 ∨ (1 : Int) = 1) ∧ Φ (.inl (some (bm_i (1 : Int)))) w)
  else (if p0 = 26 then
    (if (decide (p1 ≤ p2)) = true then
      ((0 : Int) = 0 ∨ (0 : Int) = 1) ∧ Φ (.inl (some (bm_i (0 : Int)))) w
    else
      ((1 : Int) = 0 ∨ (1 : Int) = 1) ∧ Φ (.inl (some (bm_i (1 : Int)))) w)
  else (if (decide (p1 < p2)) = true then
      ((0 : Int) = 0 ∨ (0 : Int) = 1) ∧ Φ (.inl (some (bm_i (0 : Int)))) w
    else
      ((1 : Int) = 0 ∨ (1 : Int) = 1) ∧ Φ (.inl (some (bm_i (1 : Int)))) w))))))) : bm_Call bm_pg (d + 1) y_X11_isRelated [bm_i p0, bm_l p1, bm_l p2] w Φ := bm_enter rfl (bm_go (bm_Call_mono _ _) [] 46 _ h)
/-! CaseTablesModel.<init>()V -/
def bk_X12_init_27 (d : Nat) (Φ : bm_Rt → bm_W → Prop) (v0 : Nat) (w : bm_W) : Prop := bm_Wp (bm_Call bm_pg d) tb_X12_init Φ (27, [some (bm_r (some v0))], [], w)
def bk_X12_init_45 (d : Nat) (Φ : bm_Rt → bm_W → Prop) (v0 : Nat) (w : bm_W) : Prop := bm_Wp (bm_Call bm_pg d) tb_X12_init Φ (45, [some (bm_r (some v0))], [], w)
def bk_X12_init_63 (d : Nat) (Φ : bm_Rt → bm_W → Prop) (v0 : Nat) (w : bm_W) : Prop := bm_Wp (bm_Call bm_pg d) tb_X12_init Φ (63, [some (bm_r (some v0))], [], w)
def bk_X12_init_81 (d : Nat) (Φ : bm_Rt → bm_W → Prop) (v0 : Nat) (w : bm_W) : Prop := bm_Wp (bm_Call bm_pg d) tb_X12_init Φ (81, [some (bm_r (some v0))], [], w)
def bk_X12_init_99 (d : Nat) (Φ : bm_Rt → bm_W → Prop) (v0 : Nat) (w : bm_W) : Prop := bm_Wp (bm_Call bm_pg d) tb_X12_init Φ (99, [some (bm_r (some v0))], [], w)
def bk_X12_init_117 (d : Nat) (Φ : bm_Rt → bm_W → Prop) (v0 : Nat) (w : bm_W) : Prop := bm_Wp (bm_Call bm_pg d) tb_X12_init Φ (117, [some (bm_r (some v0))], [], w)
def bk_X12_init_133 (d : Nat) (Φ : bm_Rt → bm_W → Prop) (v0 : Nat) (w : bm_W) : Prop := bm_Wp (bm_Call bm_pg d) tb_X12_init Φ (133, [some (bm_r (some v0))], [], w)
def bk_X12_init_149 (d : Nat) (Φ : bm_Rt → bm_W → Prop) (v0 : Nat) (w : bm_W) : Prop := bm_Wp (bm_Call bm_pg d) tb_X12_init Φ (149, [some (bm_r (some v0))], [], w)
def bk_X12_init_165 (d : Nat) (Φ : bm_Rt → bm_W → Prop) (v0 : Nat) (w : bm_W) : Prop := bm_Wp (bm_Call bm_pg d) tb_X12_init Φ (165, [some (bm_r (some v0))], [], w)
def bk_X12_init_181 (d : Nat) (Φ : bm_Rt → bm_W → Prop) (v0 : Nat) (w : bm_W) : Prop := bm_Wp (bm_Call bm_pg d) tb_X12_init Φ (181, [some (bm_r (some v0))], [], w)
def bk_X12_init_197 (d : Nat) (Φ : bm_Rt → bm_W → Prop) (v0 : Nat) (w : bm_W) : Prop := bm_Wp (bm_Call bm_pg d) tb_X12_init Φ (197, [some (bm_r (some v0))], [], w)
def bk_X12_init_214 (d : Nat) (Φ : bm_Rt → bm_W → Prop) (v0 : Nat) (w : bm_W) : Prop := bm_Wp (bm_Call bm_pg d) tb_X12_init Φ (214, [some (bm_r (some v0))], [], w)
def bk_X12_init_231 (d : Nat) (Φ : bm_Rt → bm_W → Prop) (v0 : Nat) (w : bm_W) : Prop := bm_Wp (bm_Call bm_pg d) tb_X12_init Φ (231, [some (bm_r (some v0))], [], w)
def bk_X12_init_248 (d : Nat) (Φ : bm_Rt → bm_W → Prop) (v0 : Nat) (w : bm_W) : Prop := bm_Wp (bm_Call bm_pg d) tb_X12_init Φ (248, [some (bm_r (some v0))], [], w)
def bk_X12_init_266 (d : Nat) (Φ : bm_Rt → bm_W → Prop) (v0 : Nat) (w : bm_W) : Prop := bm_Wp (bm_Call bm_pg d) tb_X12_init Φ (266, [some (bm_r (some v0))], [], w)
set_option maxRecDepth 20000 in
theorem vc_X12_init {d : Nat} {Φ : bm_Rt → bm_W → Prop} {p0 : Nat} {w : bm_W} (h :
  (true = true) ∧
  (0 ≤ (1500 : Int) ∧ (1500 : Int) ≤ 100000) ∧
  (bm_kt (bm_nw w 21 ((1500 : Int)).toNat ((1500 : Int)).toNat) p0 = 12) ∧
  (bm_kt (bm_sr (bm_nw w 21 ((1500 : Int)).toNat ((1500 : Int)).toNat) p0 1 (some (bm_sz w))) p0 = 12) ∧
  (0 ≤ (1501 : Int) ∧ (1501 : Int) ≤ 100000) ∧
  (bm_kt (bm_nw (bm_si (bm_sr (bm_nw w 21 ((1500 : Int)).toNat ((1500 : Int)).toNat) p0 1 (some (bm_sz w))) p0 3 (-1 : Int)) 21 ((1501 : Int)).toNat ((1501 : Int)).toNat) p0 = 12) ∧
  bk_X12_init_27 d Φ p0 (bm_sr (bm_nw (bm_si (bm_sr (bm_nw w 21 ((1500 : Int)).toNat ((1500 : Int)).toNat) p0 1 (some (bm_sz w))) p0 3 (-1 : Int)) 21 ((1501 : Int)).toNat ((1501 : Int)).toNat) p0 4 (some (bm_sz (bm_si (bm_sr (bm_nw w 21 ((1500 : Int)).toNat ((1500 : Int)).toNat) p0 1 (some (bm_sz w))) p0 3 (-1 : Int)))))) : bm_Call bm_pg (d + 1) y_X12_init [bm_r (some p0)] w Φ := bm_enter rfl (bm_go (bm_Call_mono _ _) [27, 45, 63, 81, 99, 117, 133, 149, 165, 181, 197, 214, 231, 248, 266] 132 _ h)
set_option maxRecDepth 20000 in
theorem vb_X12_init_27 {d : Nat} {Φ : bm_Rt → bm_W → Prop} {v0 : Nat} {w : bm_W} (h :
  (0 ≤ (1501 : Int) ∧ (1501 : Int) ≤ 100000) ∧
  (bm_kt (bm_nw w 21 ((1501 : Int)).toNat ((1501 : Int)).toNat) v0 = 12) ∧
  (0 ≤ (1501 : Int) ∧ (1501 : Int) ≤ 100000) ∧
  (bm_kt (bm_nw (bm_sr (bm_nw w 21 ((1501 : Int)).toNat ((1501 : Int)).toNat) v0 5 (some (bm_sz w))) 21 ((1501 : Int)).toNat ((1501 : Int)).toNat) v0 = 12) ∧
  bk_X12_init_45 d Φ v0 (bm_sr (bm_nw (bm_sr (bm_nw w 21 ((1501 : Int)).toNat ((1501 : Int)).toNat) v0 5 (some (bm_sz w))) 21 ((1501 : Int)).toNat ((1501 : Int)).toNat) v0 6 (some (bm_sz (bm_sr (bm_nw w 21 ((1501 : Int)).toNat ((1501 : Int)).toNat) v0 5 (some (bm_sz w))))))) : bk_X12_init_27 d Φ v0 w := bm_go (bm_Call_mono _ _) [27, 45, 63, 81, 99, 117, 133, 149, 165, 181, 197, 214, 231, 248, 266] 132 _ h
set_option maxRecDepth 20000 in
theorem vb_X12_init_45 {d : Nat} {Φ : bm_Rt → bm_W → Prop} {v0 : Nat} {w : bm_W} (h :
  (0 ≤ (1501 : Int) ∧ (1501 : Int) ≤ 100000) ∧
  (bm_kt (bm_nw w 21 ((1501 : Int)).toNat ((1501 : Int)).toNat) v0 = 12) ∧
  (0 ≤ (1501 : Int) ∧ (1501 : Int) ≤ 100000) ∧
  (bm_kt (bm_nw (bm_sr (bm_nw w 21 ((1501 : Int)).toNat ((1501 : Int)).toNat) v0 7 (some (bm_sz w))) 21 ((1501 : Int)).toNat ((1501 : Int)).toNat) v0 = 12) ∧
  bk_X12_init_63 d Φ v0 (bm_sr (bm_nw (bm_sr (bm_nw w 21 ((1501 : Int)).toNat ((1501 : Int)).toNat) v0 7 (some (bm_sz w))) 21 ((1501 : Int)).toNat ((1501 : Int)).toNat) v0 8 (some (bm_sz (bm_sr (bm_nw w 21 ((1501 : Int)).toNat ((1501 : Int)).toNat) v0 7 (some (bm_sz w))))))) : bk_X12_init_45 d Φ v0 w := bm_go (bm_Call_mono _ _) [27, 45, 63, 81, 99, 117, 133, 149, 165, 181, 197, 214, 231, 248, 266] 132 _ h
set_option maxRecDepth 20000 in
theorem vb_X12_init_63 {d : Nat} {Φ : bm_Rt → bm_W → Prop} {v0 : Nat} {w : bm_W} (h :
  (0 ≤ (1500 : Int) ∧ (1500 : Int) ≤ 100000) ∧
  (bm_kt (bm_nw w 21 ((1500 : Int)).toNat ((1500 : Int)).toNat) v0 = 12) ∧
  (0 ≤ (1500 : Int) ∧ (1500 : Int) ≤ 100000) ∧
  (bm_kt (bm_nw (bm_sr (bm_nw w 21 ((1500 : Int)).toNat ((1500 : Int)).toNat) v0 12 (some (bm_sz w))) 21 ((1500 : Int)).toNat ((1500 : Int)).toNat) v0 = 12) ∧
  bk_X12_init_81 d Φ v0 (bm_sr (bm_nw (bm_sr (bm_nw w 21 ((1500 : Int)).toNat ((1500 : Int)).toNat) v0 12 (some (bm_sz w))) 21 ((1500 : Int)).toNat ((1500 : Int)).toNat) v0 13 (some (bm_sz (bm_sr (bm_nw w 21 ((1500 : Int)).toNat ((1500 : Int)).toNat) v0 12 (some (bm_sz w))))))) : bk_X12_init_63 d Φ v0 w := bm_go (bm_Call_mono _ _) [27, 45, 63, 81, 99, 117, 133, 149, 165, 181, 197, 214, 231, 248, 266] 132 _ h
set_option maxRecDepth 20000 in
theorem vb_X12_init_81 {d : Nat} {Φ : bm_Rt → bm_W → Prop} {v0 : Nat} {w : bm_W} (h :
  (0 ≤ (1500 : Int) ∧ (1500 : Int) ≤ 100000) ∧
  (bm_kt (bm_nw w 21 ((1500 : Int)).toNat ((1500 : Int)).toNat) v0 = 12) ∧
  (0 ≤ (1500 : Int) ∧ (1500 : Int) ≤ 100000) ∧
  (bm_kt (bm_nw (bm_sr (bm_nw w 21 ((1500 : Int)).toNat ((1500 : Int)).toNat) v0 14 (some (bm_sz w))) 21 ((1500 : Int)).toNat ((1500 : Int)).toNat) v0 = 12) ∧
  bk_X12_init_99 d Φ v0 (bm_sr (bm_nw (bm_sr (bm_nw w 21 ((1500 : Int)).toNat ((1500 : Int)).toNat) v0 14 (some (bm_sz w))) 21 ((1500 : Int)).toNat ((1500 : Int)).toNat) v0 15 (some (bm_sz (bm_sr (bm_nw w 21 ((1500 : Int)).toNat ((1500 : Int)).toNat) v0 14 (some (bm_sz w))))))) : bk_X12_init_81 d Φ v0 w := bm_go (bm_Call_mono _ _) [27, 45, 63, 81, 99, 117, 133, 149, 165, 181, 197, 214, 231, 248, 266] 132 _ h
set_option maxRecDepth 20000 in
theorem vb_X12_init_99 {d : Nat} {Φ : bm_Rt → bm_W → Prop} {v0 : Nat} {w : bm_W} (h :
  (0 ≤ (1500 : Int) ∧ (1500 : Int) ≤ 100000) ∧
  (bm_kt (bm_nw w 21 ((1500 : Int)).toNat ((1500 : Int)).toNat) v0 = 12) ∧
  (0 ≤ (1500 : Int) ∧ (1500 : Int) ≤ 100000) ∧
  (bm_kt (bm_nw (bm_sr (bm_nw w 21 ((1500 : Int)).toNat ((1500 : Int)).toNat) v0 16 (some (bm_sz w))) 21 ((1500 : Int)).toNat ((1500 : Int)).toNat) v0 = 12) ∧
  bk_X12_init_117 d Φ v0 (bm_sr (bm_nw (bm_sr (bm_nw w 21 ((1500 : Int)).toNat ((1500 : Int)).toNat) v0 16 (some (bm_sz w))) 21 ((1500 : Int)).toNat ((1500 : Int)).toNat) v0 17 (some (bm_sz (bm_sr (bm_nw w 21 ((1500 : Int)).toNat ((1500 : Int)).toNat) v0 16 (some (bm_sz w))))))) : bk_X12_init_99 d Φ v0 w := bm_go (bm_Call_mono _ _) [27, 45, 63, 81, 99, 117, 133, 149, 165, 181, 197, 214, 231, 248, 266] 132 _ h
set_option maxRecDepth 20000 in
theorem vb_X12_init_117 {d : Nat} {Φ : bm_Rt → bm_W → Prop} {v0 : Nat} {w : bm_W} (h :
  (0 ≤ (6 : Int) ∧ (6 : Int) ≤ 100000) ∧
  (bm_kt (bm_nw w 22 ((6 : Int)).toNat ((6 : Int)).toNat) v0 = 12) ∧
  (0 ≤ (6 : Int) ∧ (6 : Int) ≤ 100000) ∧
  (bm_kt (bm_nw (bm_sr (bm_nw w 22 ((6 : Int)).toNat ((6 : Int)).toNat) v0 19 (some (bm_sz w))) 21 ((6 : Int)).toNat ((6 : Int)).toNat) v0 = 12) ∧
  bk_X12_init_133 d Φ v0 (bm_sr (bm_nw (bm_sr (bm_nw w 22 ((6 : Int)).toNat ((6 : Int)).toNat) v0 19 (some (bm_sz w))) 21 ((6 : Int)).toNat ((6 : Int)).toNat) v0 20 (some (bm_sz (bm_sr (bm_nw w 22 ((6 : Int)).toNat ((6 : Int)).toNat) v0 19 (some (bm_sz w))))))) : bk_X12_init_117 d Φ v0 w := bm_go (bm_Call_mono _ _) [27, 45, 63, 81, 99, 117, 133, 149, 165, 181, 197, 214, 231, 248, 266] 132 _ h
set_option maxRecDepth 20000 in
theorem vb_X12_init_133 {d : Nat} {Φ : bm_Rt → bm_W → Prop} {v0 : Nat} {w : bm_W} (h :
  (0 ≤ (18 : Int) ∧ (18 : Int) ≤ 100000) ∧
  (bm_kt (bm_nw w 22 ((18 : Int)).toNat ((18 : Int)).toNat) v0 = 12) ∧
  (0 ≤ (18 : Int) ∧ (18 : Int) ≤ 100000) ∧
  (bm_kt (bm_nw (bm_sr (bm_nw w 22 ((18 : Int)).toNat ((18 : Int)).toNat) v0 21 (some (bm_sz w))) 21 ((18 : Int)).toNat ((18 : Int)).toNat) v0 = 12) ∧
  bk_X12_init_149 d Φ v0 (bm_sr (bm_nw (bm_sr (bm_nw w 22 ((18 : Int)).toNat ((18 : Int)).toNat) v0 21 (some (bm_sz w))) 21 ((18 : Int)).toNat ((18 : Int)).toNat) v0 22 (some (bm_sz (bm_sr (bm_nw w 22 ((18 : Int)).toNat ((18 : Int)).toNat) v0 21 (some (bm_sz w))))))) : bk_X12_init_133 d Φ v0 w := bm_go (bm_Call_mono _ _) [27, 45, 63, 81, 99, 117, 133, 149, 165, 181, 197, 214, 231, 248, 266] 132 _ h
set_option maxRecDepth 20000 in
theorem vb_X12_init_149 {d : Nat} {Φ : bm_Rt → bm_W → Prop} {v0 : Nat} {w : bm_W} (h :
  (0 ≤ (18 : Int) ∧ (18 : Int) ≤ 100000) ∧
  (bm_kt (bm_nw w 21 ((18 : Int)).toNat ((18 : Int)).toNat) v0 = 12) ∧
  (0 ≤ (6 : Int) ∧ (6 : Int) ≤ 100000) ∧
  (bm_kt (bm_nw (bm_sr (bm_nw w 21 ((18 : Int)).toNat ((18 : Int)).toNat) v0 23 (some (bm_sz w))) 21 ((6 : Int)).toNat ((6 : Int)).toNat) v0 = 12) ∧
  bk_X12_init_165 d Φ v0 (bm_sr (bm_nw (bm_sr (bm_nw w 21 ((18 : Int)).toNat ((18 : Int)).toNat) v0 23 (some (bm_sz w))) 21 ((6 : Int)).toNat ((6 : Int)).toNat) v0 24 (some (bm_sz (bm_sr (bm_nw w 21 ((18 : Int)).toNat ((18 : Int)).toNat) v0 23 (some (bm_sz w))))))) : bk_X12_init_149 d Φ v0 w := bm_go (bm_Call_mono _ _) [27, 45, 63, 81, 99, 117, 133, 149, 165, 181, 197, 214, 231, 248, 266] 132 _ h
set_option maxRecDepth 20000 in
theorem vb_X12_init_165 {d : Nat} {Φ : bm_Rt → bm_W → Prop} {v0 : Nat} {w : bm_W} (h :
  (0 ≤ (6 : Int) ∧ (6 : Int) ≤ 100000) ∧
  (bm_kt (bm_nw w 21 ((6 : Int)).toNat ((6 : Int)).toNat) v0 = 12) ∧
  (0 ≤ (6 : Int) ∧ (6 : Int) ≤ 100000) ∧
  (bm_kt (bm_nw (bm_sr (bm_nw w 21 ((6 : Int)).toNat ((6 : Int)).toNat) v0 25 (some (bm_sz w))) 21 ((6 : Int)).toNat ((6 : Int)).toNat) v0 = 12) ∧
  bk_X12_init_181 d Φ v0 (bm_sr (bm_nw (bm_sr (bm_nw w 21 ((6 : Int)).toNat ((6 : Int)).toNat) v0 25 (some (bm_sz w))) 21 ((6 : Int)).toNat ((6 : Int)).toNat) v0 26 (some (bm_sz (bm_sr (bm_nw w 21 ((6 : Int)).toNat ((6 : Int)).toNat) v0 25 (some (bm_sz w))))))) : bk_X12_init_165 d Φ v0 w := bm_go (bm_Call_mono _ _) [27, 45, 63, 81, 99, 117, 133, 149, 165, 181, 197, 214, 231, 248, 266] 132 _ h
set_option maxRecDepth 20000 in
theorem vb_X12_init_181 {d : Nat} {Φ : bm_Rt → bm_W → Prop} {v0 : Nat} {w : bm_W} (h :
  (0 ≤ (6 : Int) ∧ (6 : Int) ≤ 100000) ∧
  (bm_kt (bm_nw w 22 ((6 : Int)).toNat ((6 : Int)).toNat) v0 = 12) ∧
  (0 ≤ (6 : Int) ∧ (6 : Int) ≤ 100000) ∧
  (bm_kt (bm_nw (bm_sr (bm_nw w 22 ((6 : Int)).toNat ((6 : Int)).toNat) v0 29 (some (bm_sz w))) 21 ((6 : Int)).toNat ((6 : Int)).toNat) v0 = 12) ∧
  bk_X12_init_197 d Φ v0 (bm_sr (bm_nw (bm_sr (bm_nw w 22 ((6 : Int)).toNat ((6 : Int)).toNat) v0 29 (some (bm_sz w))) 21 ((6 : Int)).toNat ((6 : Int)).toNat) v0 30 (some (bm_sz (bm_sr (bm_nw w 22 ((6 : Int)).toNat ((6 : Int)).toNat) v0 29 (some (bm_sz w))))))) : bk_X12_init_181 d Φ v0 w := bm_go (bm_Call_mono _ _) [27, 45, 63, 81, 99, 117, 133, 149, 165, 181, 197, 214, 231, 248, 266] 132 _ h
set_option maxRecDepth 20000 in
theorem vb_X12_init_197 {d : Nat} {Φ : bm_Rt → bm_W → Prop} {v0 : Nat} {w : bm_W} (h :
  (0 ≤ (6 : Int) ∧ (6 : Int) ≤ 100000) ∧
  (bm_kt (bm_nw w 21 ((6 : Int)).toNat ((6 : Int)).toNat) v0 = 12) ∧
  (0 ≤ (216 : Int) ∧ (216 : Int) ≤ 100000) ∧
  (bm_kt (bm_nw (bm_sr (bm_nw w 21 ((6 : Int)).toNat ((6 : Int)).toNat) v0 31 (some (bm_sz w))) 21 ((216 : Int)).toNat ((216 : Int)).toNat) v0 = 12) ∧
  bk_X12_init_214 d Φ v0 (bm_sr (bm_nw (bm_sr (bm_nw w 21 ((6 : Int)).toNat ((6 : Int)).toNat) v0 31 (some (bm_sz w))) 21 ((216 : Int)).toNat ((216 : Int)).toNat) v0 32 (some (bm_sz (bm_sr (bm_nw w 21 ((6 : Int)).toNat ((6 : Int)).toNat) v0 31 (some (bm_sz w))))))) : bk_X12_init_197 d Φ v0 w := bm_go (bm_Call_mono _ _) [27, 45, 63, 81, 99, 117, 133, 149, 165, 181, 197, 214, 231, 248, 266] 132 _ h
set_option maxRecDepth 20000 in
theorem vb_X12_init_214 {d : Nat} {Φ : bm_Rt → bm_W → Prop} {v0 : Nat} {w : bm_W} (h :
  (0 ≤ (216 : Int) ∧ (216 : Int) ≤ 100000) ∧
  (bm_kt (bm_nw w 21 ((216 : Int)).toNat ((216 : Int)).toNat) v0 = 12) ∧
  (0 ≤ (72 : Int) ∧ (72 : Int) ≤ 100000) ∧
  (bm_kt (bm_nw (bm_sr (bm_nw w 21 ((216 : Int)).toNat ((216 : Int)).toNat) v0 33 (some (bm_sz w))) 21 ((72 : Int)).toNat ((72 : Int)).toNat) v0 = 12) ∧
  bk_X12_init_231 d Φ v0 (bm_sr (bm_nw (bm_sr (bm_nw w 21 ((216 : Int)).toNat ((216 : Int)).toNat) v0 33 (some (bm_sz w))) 21 ((72 : Int)).toNat ((72 : Int)).toNat) v0 34 (some (bm_sz (bm_sr (bm_nw w 21 ((216 : Int)).toNat ((216 : Int)).toNat) v0 33 (some (bm_sz w))))))) : bk_X12_init_214 d Φ v0 w := bm_go (bm_Call_mono _ _) [27, 45, 63, 81, 99, 117, 133, 149, 165, 181, 197, 214, 231, 248, 266] 132 _ h
set_option maxRecDepth 20000 in
theorem vb_X12_init_231 {d : Nat} {Φ : bm_Rt → bm_W → Prop} {v0 : Nat} {w : bm_W} (h :
  (0 ≤ (72 : Int) ∧ (72 : Int) ≤ 100000) ∧
  (bm_kt (bm_nw w 22 ((72 : Int)).toNat ((72 : Int)).toNat) v0 = 12) ∧
  (0 ≤ (1500 : Int) ∧ (1500 : Int) ≤ 100000) ∧
  (bm_kt (bm_nw (bm_sr (bm_nw w 22 ((72 : Int)).toNat ((72 : Int)).toNat) v0 35 (some (bm_sz w))) 21 ((1500 : Int)).toNat ((1500 : Int)).toNat) v0 = 12) ∧
  bk_X12_init_248 d Φ v0 (bm_sr (bm_nw (bm_sr (bm_nw w 22 ((72 : Int)).toNat ((72 : Int)).toNat) v0 35 (some (bm_sz w))) 21 ((1500 : Int)).toNat ((1500 : Int)).toNat) v0 38 (some (bm_sz (bm_sr (bm_nw w 22 ((72 : Int)).toNat ((72 : Int)).toNat) v0 35 (some (bm_sz w))))))) : bk_X12_init_231 d Φ v0 w := bm_go (bm_Call_mono _ _) [27, 45, 63, 81, 99, 117, 133, 149, 165, 181, 197, 214, 231, 248, 266] 132 _ h
set_option maxRecDepth 20000 in
theorem vb_X12_init_248 {d : Nat} {Φ : bm_Rt → bm_W → Prop} {v0 : Nat} {w : bm_W} (h :
  (0 ≤ (1500 : Int) ∧ (1500 : Int) ≤ 100000) ∧
  (bm_kt (bm_nw w 21 ((1500 : Int)).toNat ((1500 : Int)).toNat) v0 = 12) ∧
  (0 ≤ (6724 : Int) ∧ (6724 : Int) ≤ 100000) ∧
  (bm_kt (bm_nw (bm_sr (bm_nw w 21 ((1500 : Int)).toNat ((1500 : Int)).toNat) v0 39 (some (bm_sz w))) 23 ((6724 : Int)).toNat ((6724 : Int)).toNat) v0 = 12) ∧
  bk_X12_init_266 d Φ v0 (bm_sr (bm_nw (bm_sr (bm_nw w 21 ((1500 : Int)).toNat ((1500 : Int)).toNat) v0 39 (some (bm_sz w))) 23 ((6724 : Int)).toNat ((6724 : Int)).toNat) v0 41 (some (bm_sz (bm_sr (bm_nw w 21 ((1500 : Int)).toNat ((1500 : Int)).toNat) v0 39 (some (bm_sz w))))))) : bk_X12_init_248 d Φ v0 w := bm_go (bm_Call_mono _ _) [27, 45, 63, 81, 99, 117, 133, 149, 165, 181, 197, 214, 231, 248, 266] 132 _ h
set_option maxRecDepth 20000 in
theorem vb_X12_init_266 {d : Nat} {Φ : bm_Rt → bm_W → Prop} {v0 : Nat} {w : bm_W} (h :
  (0 ≤ (3 : Int) ∧ (3 : Int) ≤ 100000) ∧
  (bm_kt (bm_nw w 21 ((3 : Int)).toNat ((3 : Int)).toNat) v0 = 12) ∧
  Φ (.inl none) (bm_sr (bm_nw w 21 ((3 : Int)).toNat ((3 : Int)).toNat) v0 42 (some (bm_sz w)))) : bk_X12_init_266 d Φ v0 w := bm_go (bm_Call_mono _ _) [27, 45, 63, 81, 99, 117, 133, 149, 165, 181, 197, 214, 231, 248, 266] 132 _ h
/-! CaseTablesModel.thrown()I -/
set_option maxRecDepth 20000 in
theorem vc_X12_thrown {d : Nat} {Φ : bm_Rt → bm_W → Prop} {p0 : Nat} {w : bm_W} (h :
  (bm_kt w p0 = 12) ∧
  Φ (.inl (some (bm_i (bm_gi w p0 0)))) w) : bm_Call bm_pg (d + 1) y_X12_thrown [bm_r (some p0)] w Φ := bm_enter rfl (bm_go (bm_Call_mono _ _) [] 5 _ h)
/-! CaseTablesModel.no(I)I -/
set_option maxRecDepth 20000 in
theorem vc_X12_no {d : Nat} {Φ : bm_Rt → bm_W → Prop} {p0 : Nat} {p1 : Int} {w : bm_W} (h :
  (bm_kt w p0 = 12) ∧
  Φ (.inl (some (bm_i (0 : Int)))) (bm_si w p0 0 p1)) : bm_Call bm_pg (d + 1) y_X12_no [bm_r (some p0), bm_i p1] w Φ := bm_enter rfl (bm_go (bm_Call_mono _ _) [] 7 _ h)
/-! CaseTablesModel.isIn(III)Z -/
set_option maxRecDepth 20000 in
theorem vc_X12_isIn {d : Nat} {Φ : bm_Rt → bm_W → Prop} {p0 : Int} {p1 : Int} {p2 : Int} {w : bm_W} (h :
  (if (decide (p0 < p1)) = true then
    ((0 : Int) = 0 ∨ (0 : Int) = 1) ∧ Φ (.inl (some (bm_i (0 : Int)))) w
  else
    (if (decide (p2 < p0)) = true then
      ((0 : Int) = 0 ∨ (0 : Int) = 1) ∧ Φ (.inl (some (bm_i (0 : Int)))) w
    else
      ((1 : Int) = 0 ∨ (1 : Int) = 1) ∧ Φ (.inl (some (bm_i (1 : Int)))) w))) : bm_Call bm_pg (d + 1) y_X12_isIn [bm_i p0, bm_i p1, bm_i p2] w Φ := bm_enter rfl (bm_go (bm_Call_mono _ _) [] 12 _ h)
/-! CaseTablesModel.feed(IIIII)I -/
def bk_X12_feed_51 (d : Nat) (Φ : bm_Rt → bm_W → Prop) (v0 : Nat) (v6 : Nat) (w : bm_W) : Prop := bm_Wp (bm_Call bm_pg d) tb_X12_feed Φ (51, [some (bm_r (some v0)), none, none, none, none, none, some (bm_r (some v6)), none, none, none, none, none], [], w)
def bk_X12_feed_63 (d : Nat) (Φ : bm_Rt → bm_W → Prop) (v0 : Nat) (v7 : Nat) (v8 : Int) (v9 : Int) (w : bm_W) : Prop := bm_Wp (bm_Call bm_pg d) tb_X12_feed Φ (63, [some (bm_r (some v0)), none, none, none, none, none, none, some (bm_r (some v7)), some (bm_i v8), some (bm_i v9), none, none], [], w)
def bk_X12_feed_80 (d : Nat) (Φ : bm_Rt → bm_W → Prop) (v0 : Nat) (v7 : Nat) (v8 : Int) (v9 : Int) (v10 : Int) (v11 : Int) (w : bm_W) : Prop := bm_Wp (bm_Call bm_pg d) tb_X12_feed Φ (80, [some (bm_r (some v0)), none, none, none, none, none, none, some (bm_r (some v7)), some (bm_i v8), some (bm_i v9), some (bm_i v10), some (bm_i v11)], [], w)
set_option maxRecDepth 20000 in
theorem vc_X12_feed {d : Nat} {Φ : bm_Rt → bm_W → Prop} {p0 : Nat} {p1 : Int} {p2 : Int} {p3 : Int} {p4 : Int} {p5 : Int} {w : bm_W} (h :
  (bm_kt w p0 = 12) ∧
  (bm_kt (bm_si w p0 0 (0 : Int)) p0 = 12) ∧
  (if (decide ((bm_w ((bm_gi (bm_si w p0 0 (0 : Int)) p0 2) + (20 : Int))) ≤ (1500 : Int))) = true then
    (0 ≤ (5 : Int) ∧ (5 : Int) ≤ 100000) ∧
    (bm_kt (bm_nw (bm_si w p0 0 (0 : Int)) 21 ((5 : Int)).toNat ((5 : Int)).toNat) (bm_sz (bm_si w p0 0 (0 : Int))) = 21 ∧ bm_in (0 : Int) (bm_kn (bm_nw (bm_si w p0 0 (0 : Int)) 21 ((5 : Int)).toNat ((5 : Int)).toNat) (bm_sz (bm_si w p0 0 (0 : Int))))) ∧
    (bm_kt (bm_si (bm_nw (bm_si w p0 0 (0 : Int)) 21 ((5 : Int)).toNat ((5 : Int)).toNat) (bm_sz (bm_si w p0 0 (0 : Int))) ((0 : Int)).toNat p1) (bm_sz (bm_si w p0 0 (0 : Int))) = 21 ∧ bm_in (1 : Int) (bm_kn (bm_si (bm_nw (bm_si w p0 0 (0 : Int)) 21 ((5 : Int)).toNat ((5 : Int)).toNat) (bm_sz (bm_si w p0 0 (0 : Int))) ((0 : Int)).toNat p1) (bm_sz (bm_si w p0 0 (0 : Int))))) ∧
    (bm_kt (bm_si (bm_si (bm_nw (bm_si w p0 0 (0 : Int)) 21 ((5 : Int)).toNat ((5 : Int)).toNat) (bm_sz (bm_si w p0 0 (0 : Int))) ((0 : Int)).toNat p1) (bm_sz (bm_si w p0 0 (0 : Int))) ((1 : Int)).toNat p2) (bm_sz (bm_si w p0 0 (0 : Int))) = 21 ∧ bm_in (2 : Int) (bm_kn (bm_si (bm_si (bm_nw (bm_si w p0 0 (0 : Int)) 21 ((5 : Int)).toNat ((5 : Int)).toNat) (bm_sz (bm_si w p0 0 (0 : Int))) ((0 : Int)).toNat p1) (bm_sz (bm_si w p0 0 (0 : Int))) ((1 : Int)).toNat p2) (bm_sz (bm_si w p0 0 (0 : Int))))) ∧
    (bm_kt (bm_si (bm_si (bm_si (bm_nw (bm_si w p0 0 (0 : Int)) 21 ((5 : Int)).toNat ((5 : Int)).toNat) (bm_sz (bm_si w p0 0 (0 : Int))) ((0 : Int)).toNat p1) (bm_sz (bm_si w p0 0 (0 : Int))) ((1 : Int)).toNat p2) (bm_sz (bm_si w p0 0 (0 : Int))) ((2 : Int)).toNat p3) (bm_sz (bm_si w p0 0 (0 : Int))) = 21 ∧ bm_in (3 : Int) (bm_kn (bm_si (bm_si (bm_si (bm_nw (bm_si w p0 0 (0 : Int)) 21 ((5 : Int)).toNat ((5 : Int)).toNat) (bm_sz (bm_si w p0 0 (0 : Int))) ((0 : Int)).toNat p1) (bm_sz (bm_si w p0 0 (0 : Int))) ((1 : Int)).toNat p2) (bm_sz (bm_si w p0 0 (0 : Int))) ((2 : Int)).toNat p3) (bm_sz (bm_si w p0 0 (0 : Int))))) ∧
    (bm_kt (bm_si (bm_si (bm_si (bm_si (bm_nw (bm_si w p0 0 (0 : Int)) 21 ((5 : Int)).toNat ((5 : Int)).toNat) (bm_sz (bm_si w p0 0 (0 : Int))) ((0 : Int)).toNat p1) (bm_sz (bm_si w p0 0 (0 : Int))) ((1 : Int)).toNat p2) (bm_sz (bm_si w p0 0 (0 : Int))) ((2 : Int)).toNat p3) (bm_sz (bm_si w p0 0 (0 : Int))) ((3 : Int)).toNat p4) (bm_sz (bm_si w p0 0 (0 : Int))) = 21 ∧ bm_in (4 : Int) (bm_kn (bm_si (bm_si (bm_si (bm_si (bm_nw (bm_si w p0 0 (0 : Int)) 21 ((5 : Int)).toNat ((5 : Int)).toNat) (bm_sz (bm_si w p0 0 (0 : Int))) ((0 : Int)).toNat p1) (bm_sz (bm_si w p0 0 (0 : Int))) ((1 : Int)).toNat p2) (bm_sz (bm_si w p0 0 (0 : Int))) ((2 : Int)).toNat p3) (bm_sz (bm_si w p0 0 (0 : Int))) ((3 : Int)).toNat p4) (bm_sz (bm_si w p0 0 (0 : Int))))) ∧
    bk_X12_feed_51 d Φ p0 (bm_sz (bm_si w p0 0 (0 : Int))) (bm_si (bm_si (bm_si (bm_si (bm_si (bm_nw (bm_si w p0 0 (0 : Int)) 21 ((5 : Int)).toNat ((5 : Int)).toNat) (bm_sz (bm_si w p0 0 (0 : Int))) ((0 : Int)).toNat p1) (bm_sz (bm_si w p0 0 (0 : Int))) ((1 : Int)).toNat p2) (bm_sz (bm_si w p0 0 (0 : Int))) ((2 : Int)).toNat p3) (bm_sz (bm_si w p0 0 (0 : Int))) ((3 : Int)).toNat p4) (bm_sz (bm_si w p0 0 (0 : Int))) ((4 : Int)).toNat p5)
  else
    (bm_kt (bm_si w p0 0 (0 : Int)) p0 = 12) ∧ bm_Call bm_pg d y_X12_no [bm_r (some p0), bm_i (1 : Int)] (bm_si w p0 0 (0 : Int)) (fun r1 w1 => 
      bm_c1 (fun x1 => Φ (.inl (some (bm_i x1))) w1) (fun E => Φ (.inr E) w1) r1))) : bm_Call bm_pg (d + 1) y_X12_feed [bm_r (some p0), bm_i p1, bm_i p2, bm_i p3, bm_i p4, bm_i p5] w Φ := bm_enter rfl (bm_go (bm_Call_mono _ _) [51, 63, 80] 81 _ h)
set_option maxRecDepth 20000 in
theorem vb_X12_feed_51 {d : Nat} {Φ : bm_Rt → bm_W → Prop} {v0 : Nat} {v6 : Nat} {w : bm_W} (h :
  (20 ≤ bm_kt w v6 ∧ bm_kt w v6 < 27) ∧
  bk_X12_feed_63 d Φ v0 v6 (bm_kn w v6 : Int) (0 : Int) w) : bk_X12_feed_51 d Φ v0 v6 w := bm_go (bm_Call_mono _ _) [51, 63, 80] 81 _ h
set_option maxRecDepth 20000 in
theorem vb_X12_feed_63 {d : Nat} {Φ : bm_Rt → bm_W → Prop} {v0 : Nat} {v7 : Nat} {v8 : Int} {v9 : Int} {w : bm_W} (h :
  (if (decide (v8 ≤ v9)) = true then
    (bm_kt w v0 = 12) ∧
    Φ (.inl (some (bm_i (bm_gi w v0 2)))) w
  else
    (bm_kt w v7 = 21 ∧ bm_in v9 (bm_kn w v7)) ∧
    bk_X12_feed_80 d Φ v0 v7 v8 v9 (bm_gi w v7 (v9).toNat) (3 : Int) w)) : bk_X12_feed_63 d Φ v0 v7 v8 v9 w := bm_go (bm_Call_mono _ _) [51, 63, 80] 81 _ h
set_option maxRecDepth 20000 in
theorem vb_X12_feed_80 {d : Nat} {Φ : bm_Rt → bm_W → Prop} {v0 : Nat} {v7 : Nat} {v8 : Int} {v9 : Int} {v10 : Int} {v11 : Int} {w : bm_W} (h :
  (if (decide (v11 < 0)) = true then
    bk_X12_feed_63 d Φ v0 v7 v8 (bm_w (v9 + 1)) w
  else
    (bm_kt w v0 = 12 ∧ bm_gr w v0 1 = some (bm_u (bm_gr w v0 1))) ∧
    (bm_kt w v0 = 12) ∧
    (bm_kt w (bm_u (bm_gr w v0 1)) = 21 ∧ bm_in (bm_gi w v0 2) (bm_kn w (bm_u (bm_gr w v0 1)))) ∧
    (bm_kt (bm_si w (bm_u (bm_gr w v0 1)) ((bm_gi w v0 2)).toNat ((Int32.ofInt ((Int32.ofInt v10 >>> (Int32.ofInt (bm_w ((8 : Int) * v11)) &&& 31)).toInt) &&& Int32.ofInt (255 : Int)).toInt)) v0 = 12) ∧
    (bm_kt (bm_si w (bm_u (bm_gr w v0 1)) ((bm_gi w v0 2)).toNat ((Int32.ofInt ((Int32.ofInt v10 >>> (Int32.ofInt (bm_w ((8 : Int) * v11)) &&& 31)).toInt) &&& Int32.ofInt (255 : Int)).toInt)) v0 = 12) ∧
    bk_X12_feed_80 d Φ v0 v7 v8 v9 v10 (bm_w (v11 + (-1))) (bm_si (bm_si w (bm_u (bm_gr w v0 1)) ((bm_gi w v0 2)).toNat ((Int32.ofInt ((Int32.ofInt v10 >>> (Int32.ofInt (bm_w ((8 : Int) * v11)) &&& 31)).toInt) &&& Int32.ofInt (255 : Int)).toInt)) v0 2 (bm_w ((bm_gi (bm_si w (bm_u (bm_gr w v0 1)) ((bm_gi w v0 2)).toNat ((Int32.ofInt ((Int32.ofInt v10 >>> (Int32.ofInt (bm_w ((8 : Int) * v11)) &&& 31)).toInt) &&& Int32.ofInt (255 : Int)).toInt)) v0 2) + (1 : Int)))))) : bk_X12_feed_80 d Φ v0 v7 v8 v9 v10 v11 w := bm_go (bm_Call_mono _ _) [51, 63, 80] 81 _ h
/-! CaseTablesModel.trim(I)I -/
set_option maxRecDepth 20000 in
theorem vc_X12_trim {d : Nat} {Φ : bm_Rt → bm_W → Prop} {p0 : Nat} {p1 : Int} {w : bm_W} (h :
  (bm_kt w p0 = 12) ∧
  (bm_kt (bm_si w p0 0 (0 : Int)) p0 = 12) ∧
  (True) ∧ bm_Call bm_pg d y_X12_isIn [bm_i p1, bm_i (0 : Int), bm_i (bm_gi (bm_si w p0 0 (0 : Int)) p0 2)] (bm_si w p0 0 (0 : Int)) (fun r1 w1 => 
    bm_c1 (fun x1 => (if (!decide (x1 = 0)) = true then
      (bm_kt w1 p0 = 12) ∧
      Φ (.inl (some (bm_i p1))) (bm_si w1 p0 2 p1)
    else
      (bm_kt w1 p0 = 12) ∧ bm_Call bm_pg d y_X12_no [bm_r (some p0), bm_i (1 : Int)] w1 (fun r2 w2 => 
        bm_c1 (fun x2 => Φ (.inl (some (bm_i x2))) w2) (fun E => Φ (.inr E) w2) r2))) (fun E => Φ (.inr E) w1) r1)) : bm_Call bm_pg (d + 1) y_X12_trim [bm_r (some p0), bm_i p1] w Φ := bm_enter rfl (bm_go (bm_Call_mono _ _) [] 20 _ h)
/-! CaseTablesModel.byteAt(I)I -/
set_option maxRecDepth 20000 in
theorem vc_X12_byteAt {d : Nat} {Φ : bm_Rt → bm_W → Prop} {p0 : Nat} {p1 : Int} {w : bm_W} (h :
  (bm_kt w p0 = 12) ∧
  (if (decide ((bm_gi w p0 2) ≤ p1)) = true then
    Φ (.inl (some (bm_i (-1 : Int)))) w
  else
    (bm_kt w p0 = 12 ∧ bm_gr w p0 1 = some (bm_u (bm_gr w p0 1))) ∧
    (bm_kt w (bm_u (bm_gr w p0 1)) = 21 ∧ bm_in p1 (bm_kn w (bm_u (bm_gr w p0 1)))) ∧
    Φ (.inl (some (bm_i (bm_gi w (bm_u (bm_gr w p0 1)) (p1).toNat)))) w)) : bm_Call bm_pg (d + 1) y_X12_byteAt [bm_r (some p0), bm_i p1] w Φ := bm_enter rfl (bm_go (bm_Call_mono _ _) [] 13 _ h)
/-! CaseTablesModel.isLetter(I)Z -/
set_option maxRecDepth 20000 in
theorem vc_X12_isLetter {d : Nat} {Φ : bm_Rt → bm_W → Prop} {p0 : Int} {w : bm_W} (h :
  (True) ∧ bm_Call bm_pg d y_X12_isIn [bm_i p0, bm_i (97 : Int), bm_i (122 : Int)] w (fun r1 w1 => 
    bm_c1 (fun x1 => (x1 = 0 ∨ x1 = 1) ∧ Φ (.inl (some (bm_i x1))) w1) (fun E => Φ (.inr E) w1) r1)) : bm_Call bm_pg (d + 1) y_X12_isLetter [bm_i p0] w Φ := bm_enter rfl (bm_go (bm_Call_mono _ _) [] 7 _ h)
/-! CaseTablesModel.isDigit(I)Z -/
set_option maxRecDepth 20000 in
theorem vc_X12_isDigit {d : Nat} {Φ : bm_Rt → bm_W → Prop} {p0 : Int} {w : bm_W} (h :
  (True) ∧ bm_Call bm_pg d y_X12_isIn [bm_i p0, bm_i (48 : Int), bm_i (57 : Int)] w (fun r1 w1 => 
    bm_c1 (fun x1 => (x1 = 0 ∨ x1 = 1) ∧ Φ (.inl (some (bm_i x1))) w1) (fun E => Φ (.inr E) w1) r1)) : bm_Call bm_pg (d + 1) y_X12_isDigit [bm_i p0] w Φ := bm_enter rfl (bm_go (bm_Call_mono _ _) [] 7 _ h)
/-! CaseTablesModel.symbolAt(I)I -/
def bk_X12_symbolAt_50 (d : Nat) (Φ : bm_Rt → bm_W → Prop) (v2 : Int) (v3 : Int) (w : bm_W) : Prop := bm_Wp (bm_Call bm_pg d) tb_X12_symbolAt Φ (50, [none, none, some (bm_i v2), some (bm_i v3)], [], w)
set_option maxRecDepth 20000 in
theorem vc_X12_symbolAt {d : Nat} {Φ : bm_Rt → bm_W → Prop} {p0 : Nat} {p1 : Int} {w : bm_W} (h :
  (bm_kt w p0 = 12) ∧ bm_Call bm_pg d y_X12_byteAt [bm_r (some p0), bm_i p1] w (fun r1 w1 => 
    bm_c1 (fun x1 => (bm_kt w1 p0 = 12) ∧ bm_Call bm_pg d y_X12_byteAt [bm_r (some p0), bm_i (bm_w (p1 + (1 : Int)))] w1 (fun r2 w2 => 
      bm_c1 (fun x2 => (if (!decide (x1 = (46 : Int))) = true then
        (if (!decide (x1 = (60 : Int))) = true then
          bk_X12_symbolAt_50 d Φ x1 x2 w2
        else
          (if (decide (x2 = (61 : Int))) = true then
            Φ (.inl (some (bm_i (2 : Int)))) w2
          else
            (if (decide (x2 = (62 : Int))) = true then
              Φ (.inl (some (bm_i (2 : Int)))) w2
            else
              bk_X12_symbolAt_50 d Φ x1 x2 w2)))
      else
        (if (!decide (x2 = (46 : Int))) = true then
          Φ (.inl (some (bm_i (0 : Int)))) w2
        else
          Φ (.inl (some (bm_i (2 : Int)))) w2))) (fun E => Φ (.inr E) w2) r2)) (fun E => Φ (.inr E) w1) r1)) : bm_Call bm_pg (d + 1) y_X12_symbolAt [bm_r (some p0), bm_i p1] w Φ := bm_enter rfl (bm_go (bm_Call_mono _ _) [50] 49 _ h)
set_option maxRecDepth 20000 in
theorem vb_X12_symbolAt_50 {d : Nat} {Φ : bm_Rt → bm_W → Prop} {v2 : Int} {v3 : Int} {w : bm_W} (h :
  (if (!decide (v2 = (62 : Int))) = true then
    (if (decide (v2 ≤ 0)) = true then
      Φ (.inl (some (bm_i (0 : Int)))) w
    else
      (0 < 31) ∧ bm_Call bm_pg d y_J0_indexOf_0f7a4 [bm_k (0, 0), bm_i v2] w (fun r1 w1 => 
        bm_c1 (fun x1 => (if (decide (x1 < 0)) = true then
          Φ (.inl (some (bm_i (0 : Int)))) w1
        else
          Φ (.inl (some (bm_i (1 : Int)))) w1)) (fun E => Φ (.inr E) w1) r1))
  else
    (if (!decide (v3 = (61 : Int))) = true then
      (if (decide (v2 ≤ 0)) = true then
        Φ (.inl (some (bm_i (0 : Int)))) w
      else
        (0 < 31) ∧ bm_Call bm_pg d y_J0_indexOf_0f7a4 [bm_k (0, 0), bm_i v2] w (fun r2 w2 => 
          bm_c1 (fun x2 => (if (decide (x2 < 0)) = true then
            Φ (.inl (some (bm_i (0 : Int)))) w2
          else
            Φ (.inl (some (bm_i (1 : Int)))) w2)) (fun E => Φ (.inr E) w2) r2))
    else
      Φ (.inl (some (bm_i (2 : Int)))) w))) : bk_X12_symbolAt_50 d Φ v2 v3 w := bm_go (bm_Call_mono _ _) [50] 49 _ h
/-! CaseTablesModel.scan()V -/
def bk_X12_scan_6 (d : Nat) (Φ : bm_Rt → bm_W → Prop) (v0 : Nat) (v1 : Int) (v2 : Int) (v3 : Int) (w : bm_W) : Prop := bm_Wp (bm_Call bm_pg d) tb_X12_scan Φ (6, [some (bm_r (some v0)), some (bm_i v1), some (bm_i v2), some (bm_i v3), none, none], [], w)
def bk_X12_scan_10 (d : Nat) (Φ : bm_Rt → bm_W → Prop) (v0 : Nat) (v1 : Int) (v2 : Int) (w : bm_W) : Prop := bm_Wp (bm_Call bm_pg d) tb_X12_scan Φ (10, [some (bm_r (some v0)), some (bm_i v1), some (bm_i v2), none, none, none], [], w)
def bk_X12_scan_53 (d : Nat) (Φ : bm_Rt → bm_W → Prop) (v0 : Nat) (v1 : Int) (v2 : Int) (v4 : Int) (w : bm_W) : Prop := bm_Wp (bm_Call bm_pg d) tb_X12_scan Φ (53, [some (bm_r (some v0)), some (bm_i v1), some (bm_i v2), none, some (bm_i v4), none], [], w)
def bk_X12_scan_113 (d : Nat) (Φ : bm_Rt → bm_W → Prop) (v0 : Nat) (v1 : Int) (v2 : Int) (v4 : Int) (w : bm_W) : Prop := bm_Wp (bm_Call bm_pg d) tb_X12_scan Φ (113, [some (bm_r (some v0)), some (bm_i v1), some (bm_i v2), none, some (bm_i v4), none], [], w)
def bk_X12_scan_186 (d : Nat) (Φ : bm_Rt → bm_W → Prop) (v0 : Nat) (v1 : Int) (v2 : Int) (v4 : Int) (v5 : Int) (w : bm_W) : Prop := bm_Wp (bm_Call bm_pg d) tb_X12_scan Φ (186, [some (bm_r (some v0)), some (bm_i v1), some (bm_i v2), none, some (bm_i v4), some (bm_i v5)], [], w)
set_option maxRecDepth 20000 in
theorem vc_X12_scan {d : Nat} {Φ : bm_Rt → bm_W → Prop} {p0 : Nat} {w : bm_W} (h :
  bk_X12_scan_6 d Φ p0 (0 : Int) (0 : Int) (1 : Int) w) : bm_Call bm_pg (d + 1) y_X12_scan [bm_r (some p0)] w Φ := bm_enter rfl (bm_go (bm_Call_mono _ _) [6, 10, 53, 113, 186] 121 _ h)
set_option maxRecDepth 20000 in
theorem vb_X12_scan_6 {d : Nat} {Φ : bm_Rt → bm_W → Prop} {v0 : Nat} {v1 : Int} {v2 : Int} {v3 : Int} {w : bm_W} (h :
  (if (decide (v3 = 0)) = true then
    Φ (.inl none) w
  else
    bk_X12_scan_10 d Φ v0 v1 v2 w)) : bk_X12_scan_6 d Φ v0 v1 v2 v3 w := bm_go (bm_Call_mono _ _) [6, 10, 53, 113, 186] 121 _ h
set_option maxRecDepth 20000 in
theorem vb_X12_scan_10 {d : Nat} {Φ : bm_Rt → bm_W → Prop} {v0 : Nat} {v1 : Int} {v2 : Int} {w : bm_W} (h :
  (bm_kt w v0 = 12) ∧ bm_Call bm_pg d y_X12_byteAt [bm_r (some v0), bm_i v2] w (fun r1 w1 => 
    bm_c1 (fun x1 => (if (decide (x1 = (32 : Int))) = true then
      bk_X12_scan_10 d Φ v0 v1 (bm_w (v2 + 1)) w1
    else
      (bm_kt w1 v0 = 12) ∧ bm_Call bm_pg d y_X12_byteAt [bm_r (some v0), bm_i v2] w1 (fun r2 w2 => 
        bm_c1 (fun x2 => (if (!decide (x2 = (10 : Int))) = true then
          (bm_kt w2 v0 = 12) ∧ bm_Call bm_pg d y_X12_byteAt [bm_r (some v0), bm_i v2] w2 (fun r3 w3 => 
            bm_c1 (fun x3 => (True) ∧ bm_Call bm_pg d y_X12_isLetter [bm_i x3] w3 (fun r4 w4 => 
              bm_c1 (fun x4 => (if (decide (x4 = 0)) = true then
                (bm_kt w4 v0 = 12) ∧ bm_Call bm_pg d y_X12_byteAt [bm_r (some v0), bm_i v2] w4 (fun r5 w5 => 
                  bm_c1 (fun x5 => (True) ∧ bm_Call bm_pg d y_X12_isDigit [bm_i x5] w5 (fun r6 w6 => 
                    bm_c1 (fun x6 => (if (decide (x6 = 0)) = true then
                      (bm_kt w6 v0 = 12) ∧
                      (if (decide ((bm_gi w6 v0 2) ≤ v2)) = true then
                        bk_X12_scan_186 d Φ v0 v1 v2 v2 (0 : Int) w6
                      else
                        (bm_kt w6 v0 = 12) ∧ bm_Call bm_pg d y_X12_symbolAt [bm_r (some v0), bm_i v2] w6 (fun r7 w7 => 
                          bm_c1 (fun x7 => (true = true) ∧
                          (bm_kt w7 v0 = 12) ∧ bm_Call bm_pg d y_X12_symbolAt [bm_r (some v0), bm_i v2] w7 (fun r8 w8 => 
                            bm_c1 (fun x8 => (if (decide (x8 ≤ 0)) = true then
                              bk_X12_scan_186 d Φ v0 v1 v2 (bm_w (v2 + (if (1 : Int) < x7 then x7 else (1 : Int)))) (4 : Int) w8
                            else
                              bk_X12_scan_186 d Φ v0 v1 v2 (bm_w (v2 + (if (1 : Int) < x7 then x7 else (1 : Int)))) (3 : Int) w8)) (fun E => Φ (.inr E) w8) r8)) (fun E => Φ (.inr E) w7) r7))
                    else
                      bk_X12_scan_113 d Φ v0 v1 v2 v2 w6)) (fun E => Φ (.inr E) w6) r6)) (fun E => Φ (.inr E) w5) r5)
              else
                bk_X12_scan_53 d Φ v0 v1 v2 v2 w4)) (fun E => Φ (.inr E) w4) r4)) (fun E => Φ (.inr E) w3) r3)
        else
          bk_X12_scan_10 d Φ v0 v1 (bm_w (v2 + 1)) w2)) (fun E => Φ (.inr E) w2) r2))) (fun E => Φ (.inr E) w1) r1)) : bk_X12_scan_10 d Φ v0 v1 v2 w := bm_go (bm_Call_mono _ _) [6, 10, 53, 113, 186] 121 _ h
set_option maxRecDepth 20000 in
theorem vb_X12_scan_53 {d : Nat} {Φ : bm_Rt → bm_W → Prop} {v0 : Nat} {v1 : Int} {v2 : Int} {v4 : Int} {w : bm_W} (h :
  (bm_kt w v0 = 12) ∧ bm_Call bm_pg d y_X12_byteAt [bm_r (some v0), bm_i v4] w (fun r1 w1 => 
    bm_c1 (fun x1 => (True) ∧ bm_Call bm_pg d y_X12_isLetter [bm_i x1] w1 (fun r2 w2 => 
      bm_c1 (fun x2 => (if (!decide (x2 = 0)) = true then
        bk_X12_scan_53 d Φ v0 v1 v2 (bm_w (v4 + 1)) w2
      else
        (bm_kt w2 v0 = 12) ∧ bm_Call bm_pg d y_X12_byteAt [bm_r (some v0), bm_i v4] w2 (fun r3 w3 => 
          bm_c1 (fun x3 => (True) ∧ bm_Call bm_pg d y_X12_isDigit [bm_i x3] w3 (fun r4 w4 => 
            bm_c1 (fun x4 => (if (decide (x4 = 0)) = true then
              (if (decide ((8 : Int) < (bm_w (v4 - v2)))) = true then
                bk_X12_scan_186 d Φ v0 v1 v2 v4 (4 : Int) w4
              else
                bk_X12_scan_186 d Φ v0 v1 v2 v4 (1 : Int) w4)
            else
              bk_X12_scan_53 d Φ v0 v1 v2 (bm_w (v4 + 1)) w4)) (fun E => Φ (.inr E) w4) r4)) (fun E => Φ (.inr E) w3) r3))) (fun E => Φ (.inr E) w2) r2)) (fun E => Φ (.inr E) w1) r1)) : bk_X12_scan_53 d Φ v0 v1 v2 v4 w := bm_go (bm_Call_mono _ _) [6, 10, 53, 113, 186] 121 _ h
set_option maxRecDepth 20000 in
theorem vb_X12_scan_113 {d : Nat} {Φ : bm_Rt → bm_W → Prop} {v0 : Nat} {v1 : Int} {v2 : Int} {v4 : Int} {w : bm_W} (h :
  (bm_kt w v0 = 12) ∧ bm_Call bm_pg d y_X12_byteAt [bm_r (some v0), bm_i v4] w (fun r1 w1 => 
    bm_c1 (fun x1 => (True) ∧ bm_Call bm_pg d y_X12_isDigit [bm_i x1] w1 (fun r2 w2 => 
      bm_c1 (fun x2 => (if (decide (x2 = 0)) = true then
        (if (decide ((4 : Int) < (bm_w (v4 - v2)))) = true then
          bk_X12_scan_186 d Φ v0 v1 v2 v4 (4 : Int) w2
        else
          bk_X12_scan_186 d Φ v0 v1 v2 v4 (2 : Int) w2)
      else
        bk_X12_scan_113 d Φ v0 v1 v2 (bm_w (v4 + 1)) w2)) (fun E => Φ (.inr E) w2) r2)) (fun E => Φ (.inr E) w1) r1)) : bk_X12_scan_113 d Φ v0 v1 v2 v4 w := bm_go (bm_Call_mono _ _) [6, 10, 53, 113, 186] 121 _ h
set_option maxRecDepth 20000 in
theorem vb_X12_scan_186 {d : Nat} {Φ : bm_Rt → bm_W → Prop} {v0 : Nat} {v1 : Int} {v2 : Int} {v4 : Int} {v5 : Int} {w : bm_W} (h :
  (bm_kt w v0 = 12 ∧ bm_gr w v0 4 = some (bm_u (bm_gr w v0 4))) ∧
  (bm_kt w (bm_u (bm_gr w v0 4)) = 21 ∧ bm_in v1 (bm_kn w (bm_u (bm_gr w v0 4)))) ∧
  (bm_kt (bm_si w (bm_u (bm_gr w v0 4)) (v1).toNat v5) v0 = 12 ∧ bm_gr (bm_si w (bm_u (bm_gr w v0 4)) (v1).toNat v5) v0 5 = some (bm_u (bm_gr (bm_si w (bm_u (bm_gr w v0 4)) (v1).toNat v5) v0 5))) ∧
  (bm_kt (bm_si w (bm_u (bm_gr w v0 4)) (v1).toNat v5) (bm_u (bm_gr (bm_si w (bm_u (bm_gr w v0 4)) (v1).toNat v5) v0 5)) = 21 ∧ bm_in v1 (bm_kn (bm_si w (bm_u (bm_gr w v0 4)) (v1).toNat v5) (bm_u (bm_gr (bm_si w (bm_u (bm_gr w v0 4)) (v1).toNat v5) v0 5)))) ∧
  (bm_kt (bm_si (bm_si w (bm_u (bm_gr w v0 4)) (v1).toNat v5) (bm_u (bm_gr (bm_si w (bm_u (bm_gr w v0 4)) (v1).toNat v5) v0 5)) (v1).toNat v2) v0 = 12 ∧ bm_gr (bm_si (bm_si w (bm_u (bm_gr w v0 4)) (v1).toNat v5) (bm_u (bm_gr (bm_si w (bm_u (bm_gr w v0 4)) (v1).toNat v5) v0 5)) (v1).toNat v2) v0 6 = some (bm_u (bm_gr (bm_si (bm_si w (bm_u (bm_gr w v0 4)) (v1).toNat v5) (bm_u (bm_gr (bm_si w (bm_u (bm_gr w v0 4)) (v1).toNat v5) v0 5)) (v1).toNat v2) v0 6))) ∧
  (bm_kt (bm_si (bm_si w (bm_u (bm_gr w v0 4)) (v1).toNat v5) (bm_u (bm_gr (bm_si w (bm_u (bm_gr w v0 4)) (v1).toNat v5) v0 5)) (v1).toNat v2) (bm_u (bm_gr (bm_si (bm_si w (bm_u (bm_gr w v0 4)) (v1).toNat v5) (bm_u (bm_gr (bm_si w (bm_u (bm_gr w v0 4)) (v1).toNat v5) v0 5)) (v1).toNat v2) v0 6)) = 21 ∧ bm_in v1 (bm_kn (bm_si (bm_si w (bm_u (bm_gr w v0 4)) (v1).toNat v5) (bm_u (bm_gr (bm_si w (bm_u (bm_gr w v0 4)) (v1).toNat v5) v0 5)) (v1).toNat v2) (bm_u (bm_gr (bm_si (bm_si w (bm_u (bm_gr w v0 4)) (v1).toNat v5) (bm_u (bm_gr (bm_si w (bm_u (bm_gr w v0 4)) (v1).toNat v5) v0 5)) (v1).toNat v2) v0 6)))) ∧
  (if (decide (v5 = 0)) = true then
    bk_X12_scan_6 d Φ v0 (bm_w (v1 + 1)) v4 (0 : Int) (bm_si (bm_si (bm_si w (bm_u (bm_gr w v0 4)) (v1).toNat v5) (bm_u (bm_gr (bm_si w (bm_u (bm_gr w v0 4)) (v1).toNat v5) v0 5)) (v1).toNat v2) (bm_u (bm_gr (bm_si (bm_si w (bm_u (bm_gr w v0 4)) (v1).toNat v5) (bm_u (bm_gr (bm_si w (bm_u (bm_gr w v0 4)) (v1).toNat v5) v0 5)) (v1).toNat v2) v0 6)) (v1).toNat v4)
  else
    bk_X12_scan_6 d Φ v0 (bm_w (v1 + 1)) v4 (1 : Int) (bm_si (bm_si (bm_si w (bm_u (bm_gr w v0 4)) (v1).toNat v5) (bm_u (bm_gr (bm_si w (bm_u (bm_gr w v0 4)) (v1).toNat v5) v0 5)) (v1).toNat v2) (bm_u (bm_gr (bm_si (bm_si w (bm_u (bm_gr w v0 4)) (v1).toNat v5) (bm_u (bm_gr (bm_si w (bm_u (bm_gr w v0 4)) (v1).toNat v5) v0 5)) (v1).toNat v2) v0 6)) (v1).toNat v4))) : bk_X12_scan_186 d Φ v0 v1 v2 v4 v5 w := bm_go (bm_Call_mono _ _) [6, 10, 53, 113, 186] 121 _ h

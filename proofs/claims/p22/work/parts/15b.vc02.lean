/-! what the rows of the methods come to (laid by program) -/
/-! CaseTables$Fun.aimHere(I)V -/
set_option maxRecDepth 20000 in
theorem vc_X1_aimHere {d : Nat} {Φ : bm_Rt → bm_W → Prop} {p0 : Nat} {p1 : Int} {w : bm_W} (h :
  (if (decide (p1 < 0)) = true then
    Φ (.inl none) w
  else
    (bm_kt w p0 = 1 ∧ bm_gr w p0 3 = some (bm_u (bm_gr w p0 3))) ∧
    (20 ≤ bm_kt w (bm_u (bm_gr w p0 3)) ∧ bm_kt w (bm_u (bm_gr w p0 3)) < 27) ∧
    (if (decide ((bm_kn w (bm_u (bm_gr w p0 3)) : Int) ≤ p1)) = true then
      Φ (.inl none) w
    else
      (bm_kt w p0 = 1 ∧ bm_gr w p0 3 = some (bm_u (bm_gr w p0 3))) ∧
      (bm_kt w p0 = 1) ∧
      (bm_kt w (bm_u (bm_gr w p0 3)) = 21 ∧ bm_in p1 (bm_kn w (bm_u (bm_gr w p0 3)))) ∧
      Φ (.inl none) (bm_si w (bm_u (bm_gr w p0 3)) (p1).toNat (bm_gi w p0 7))))) : bm_Call bm_pg (d + 1) y_X1_aimHere [bm_r (some p0), bm_i p1] w Φ := bm_enter rfl (bm_go (bm_Call_mono _ _) [] 16 _ h)
/-! CaseTables$Fun.operationAt(I)I -/
set_option maxRecDepth 20000 in
theorem vc_X1_operationAt {d : Nat} {Φ : bm_Rt → bm_W → Prop} {p0 : Nat} {p1 : Int} {w : bm_W} (h :
  (if (decide (p1 < 0)) = true then
    Φ (.inl (some (bm_i (37 : Int)))) w
  else
    (bm_kt w p0 = 1 ∧ bm_gr w p0 2 = some (bm_u (bm_gr w p0 2))) ∧
    (20 ≤ bm_kt w (bm_u (bm_gr w p0 2)) ∧ bm_kt w (bm_u (bm_gr w p0 2)) < 27) ∧
    (if (decide ((bm_kn w (bm_u (bm_gr w p0 2)) : Int) ≤ p1)) = true then
      Φ (.inl (some (bm_i (37 : Int)))) w
    else
      (bm_kt w p0 = 1 ∧ bm_gr w p0 2 = some (bm_u (bm_gr w p0 2))) ∧
      (bm_kt w (bm_u (bm_gr w p0 2)) = 21 ∧ bm_in p1 (bm_kn w (bm_u (bm_gr w p0 2)))) ∧
      Φ (.inl (some (bm_i (bm_gi w (bm_u (bm_gr w p0 2)) (p1).toNat)))) w))) : bm_Call bm_pg (d + 1) y_X1_operationAt [bm_r (some p0), bm_i p1] w Φ := bm_enter rfl (bm_go (bm_Call_mono _ _) [] 16 _ h)
/-! CaseTables$Fun.operandAt(I)I -/
set_option maxRecDepth 20000 in
theorem vc_X1_operandAt {d : Nat} {Φ : bm_Rt → bm_W → Prop} {p0 : Nat} {p1 : Int} {w : bm_W} (h :
  (if (decide (p1 < 0)) = true then
    Φ (.inl (some (bm_i (0 : Int)))) w
  else
    (bm_kt w p0 = 1 ∧ bm_gr w p0 3 = some (bm_u (bm_gr w p0 3))) ∧
    (20 ≤ bm_kt w (bm_u (bm_gr w p0 3)) ∧ bm_kt w (bm_u (bm_gr w p0 3)) < 27) ∧
    (if (decide ((bm_kn w (bm_u (bm_gr w p0 3)) : Int) ≤ p1)) = true then
      Φ (.inl (some (bm_i (0 : Int)))) w
    else
      (bm_kt w p0 = 1 ∧ bm_gr w p0 3 = some (bm_u (bm_gr w p0 3))) ∧
      (bm_kt w (bm_u (bm_gr w p0 3)) = 21 ∧ bm_in p1 (bm_kn w (bm_u (bm_gr w p0 3)))) ∧
      Φ (.inl (some (bm_i (bm_gi w (bm_u (bm_gr w p0 3)) (p1).toNat)))) w))) : bm_Call bm_pg (d + 1) y_X1_operandAt [bm_r (some p0), bm_i p1] w Φ := bm_enter rfl (bm_go (bm_Call_mono _ _) [] 16 _ h)
/-! CaseTables$Fun.placeAt(I)I -/
set_option maxRecDepth 20000 in
theorem vc_X1_placeAt {d : Nat} {Φ : bm_Rt → bm_W → Prop} {p0 : Nat} {p1 : Int} {w : bm_W} (h :
  (if (decide (p1 < 0)) = true then
    Φ (.inl (some (bm_i (-1 : Int)))) w
  else
    (bm_kt w p0 = 1 ∧ bm_gr w p0 4 = some (bm_u (bm_gr w p0 4))) ∧
    (20 ≤ bm_kt w (bm_u (bm_gr w p0 4)) ∧ bm_kt w (bm_u (bm_gr w p0 4)) < 27) ∧
    (if (decide ((bm_kn w (bm_u (bm_gr w p0 4)) : Int) ≤ p1)) = true then
      Φ (.inl (some (bm_i (-1 : Int)))) w
    else
      (bm_kt w p0 = 1 ∧ bm_gr w p0 4 = some (bm_u (bm_gr w p0 4))) ∧
      (bm_kt w (bm_u (bm_gr w p0 4)) = 21 ∧ bm_in p1 (bm_kn w (bm_u (bm_gr w p0 4)))) ∧
      Φ (.inl (some (bm_i (bm_gi w (bm_u (bm_gr w p0 4)) (p1).toNat)))) w))) : bm_Call bm_pg (d + 1) y_X1_placeAt [bm_r (some p0), bm_i p1] w Φ := bm_enter rfl (bm_go (bm_Call_mono _ _) [] 16 _ h)
/-! CaseTables$Fun.pairCount()I -/
set_option maxRecDepth 20000 in
theorem vc_X1_pairCount {d : Nat} {Φ : bm_Rt → bm_W → Prop} {p0 : Nat} {w : bm_W} (h :
  (bm_kt w p0 = 1 ∧ bm_gr w p0 1 = some (bm_u (bm_gr w p0 1))) ∧
  (bm_kt w (bm_u (bm_gr w p0 1)) = 4) ∧ bm_Call bm_pg d y_X4_width [bm_r (some (bm_u (bm_gr w p0 1))), bm_i (0 : Int)] w (fun r1 w1 => 
    bm_c1 (fun x1 => (bm_kt w1 p0 = 1 ∧ bm_gr w1 p0 1 = some (bm_u (bm_gr w1 p0 1))) ∧
    (bm_kt w1 (bm_u (bm_gr w1 p0 1)) = 4) ∧ bm_Call bm_pg d y_X4_width [bm_r (some (bm_u (bm_gr w1 p0 1))), bm_i (1 : Int)] w1 (fun r2 w2 => 
      bm_c1 (fun x2 => (bm_kt w2 p0 = 1) ∧
      (if (!decide ((bm_gi w2 p0 6) = (3 : Int))) = true then
        Φ (.inl (some (bm_i (bm_w (x1 * x2))))) w2
      else
        (bm_kt w2 p0 = 1 ∧ bm_gr w2 p0 1 = some (bm_u (bm_gr w2 p0 1))) ∧
        (bm_kt w2 (bm_u (bm_gr w2 p0 1)) = 4) ∧ bm_Call bm_pg d y_X4_width [bm_r (some (bm_u (bm_gr w2 p0 1))), bm_i (0 : Int)] w2 (fun r3 w3 => 
          bm_c1 (fun x3 => (bm_kt w3 p0 = 1 ∧ bm_gr w3 p0 1 = some (bm_u (bm_gr w3 p0 1))) ∧
          (bm_kt w3 (bm_u (bm_gr w3 p0 1)) = 4) ∧ bm_Call bm_pg d y_X4_width [bm_r (some (bm_u (bm_gr w3 p0 1))), bm_i (2 : Int)] w3 (fun r4 w4 => 
            bm_c1 (fun x4 => (bm_kt w4 p0 = 1 ∧ bm_gr w4 p0 1 = some (bm_u (bm_gr w4 p0 1))) ∧
            (bm_kt w4 (bm_u (bm_gr w4 p0 1)) = 4) ∧ bm_Call bm_pg d y_X4_width [bm_r (some (bm_u (bm_gr w4 p0 1))), bm_i (1 : Int)] w4 (fun r5 w5 => 
              bm_c1 (fun x5 => (bm_kt w5 p0 = 1 ∧ bm_gr w5 p0 1 = some (bm_u (bm_gr w5 p0 1))) ∧
              (bm_kt w5 (bm_u (bm_gr w5 p0 1)) = 4) ∧ bm_Call bm_pg d y_X4_width [bm_r (some (bm_u (bm_gr w5 p0 1))), bm_i (2 : Int)] w5 (fun r6 w6 => 
                bm_c1 (fun x6 => Φ (.inl (some (bm_i (bm_w ((bm_w (x1 * x2)) + (bm_w ((bm_w (x3 * x4)) + (bm_w (x5 * x6))))))))) w6) (fun E => Φ (.inr E) w6) r6)) (fun E => Φ (.inr E) w5) r5)) (fun E => Φ (.inr E) w4) r4)) (fun E => Φ (.inr E) w3) r3))) (fun E => Φ (.inr E) w2) r2)) (fun E => Φ (.inr E) w1) r1)) : bm_Call bm_pg (d + 1) y_X1_pairCount [bm_r (some p0)] w Φ := bm_enter rfl (bm_go (bm_Call_mono _ _) [] 40 _ h)
/-! CaseTables$Machine.<init>(LCaseTables$Program;)V -/
def bk_X2_init_21 (d : Nat) (Φ : bm_Rt → bm_W → Prop) (v0 : Nat) (v1 : Nat) (w : bm_W) : Prop := bm_Wp (bm_Call bm_pg d) tb_X2_init Φ (21, [some (bm_r (some v0)), some (bm_r (some v1))], [], w)
set_option maxRecDepth 20000 in
theorem vc_X2_init {d : Nat} {Φ : bm_Rt → bm_W → Prop} {p0 : Nat} {p1 : Nat} {w : bm_W} (h :
  (true = true) ∧
  (0 ≤ (203 : Int) ∧ (203 : Int) ≤ 100000) ∧
  (bm_kt (bm_nw w 22 ((203 : Int)).toNat ((203 : Int)).toNat) p0 = 2) ∧
  (0 ≤ (54 : Int) ∧ (54 : Int) ≤ 100000) ∧
  (bm_kt (bm_nw (bm_sr (bm_nw w 22 ((203 : Int)).toNat ((203 : Int)).toNat) p0 1 (some (bm_sz w))) 21 ((54 : Int)).toNat ((54 : Int)).toNat) p0 = 2) ∧
  bk_X2_init_21 d Φ p0 p1 (bm_sr (bm_nw (bm_sr (bm_nw w 22 ((203 : Int)).toNat ((203 : Int)).toNat) p0 1 (some (bm_sz w))) 21 ((54 : Int)).toNat ((54 : Int)).toNat) p0 2 (some (bm_sz (bm_sr (bm_nw w 22 ((203 : Int)).toNat ((203 : Int)).toNat) p0 1 (some (bm_sz w))))))) : bm_Call bm_pg (d + 1) y_X2_init [bm_r (some p0), bm_r (some p1)] w Φ := bm_enter rfl (bm_go (bm_Call_mono _ _) [21] 20 _ h)
set_option maxRecDepth 20000 in
theorem vb_X2_init_21 {d : Nat} {Φ : bm_Rt → bm_W → Prop} {v0 : Nat} {v1 : Nat} {w : bm_W} (h :
  (0 ≤ (54 : Int) ∧ (54 : Int) ≤ 100000) ∧
  (bm_kt (bm_nw w 21 ((54 : Int)).toNat ((54 : Int)).toNat) v0 = 2) ∧
  (bm_kt (bm_sr (bm_nw w 21 ((54 : Int)).toNat ((54 : Int)).toNat) v0 3 (some (bm_sz w))) v0 = 2) ∧
  Φ (.inl none) (bm_sr (bm_sr (bm_nw w 21 ((54 : Int)).toNat ((54 : Int)).toNat) v0 3 (some (bm_sz w))) v0 0 (some v1))) : bk_X2_init_21 d Φ v0 v1 w := bm_go (bm_Call_mono _ _) [21] 20 _ h
/-! CaseTables$Machine.reckon(IIJJJ)J -/
set_option maxRecDepth 20000 in
theorem vc_X2_reckon {d : Nat} {Φ : bm_Rt → bm_W → Prop} {p0 : Nat} {p1 : Int} {p2 : Int} {p3 : Int} {p4 : Int} {p5 : Int} {w : bm_W} (h :
  (bm_kt w p0 = 2 ∧ ((0 : Int) = 0 ∨ (0 : Int) = 1)) ∧
  (bm_kt (bm_si w p0 5 (0 : Int)) p0 = 2) ∧
  (bm_kt (bm_si (bm_si w p0 5 (0 : Int)) p0 4 (0 : Int)) p0 = 2) ∧ bm_Call bm_pg d y_X2_push [bm_r (some p0), bm_l p3] (bm_si (bm_si w p0 5 (0 : Int)) p0 4 (0 : Int)) (fun r1 w1 => 
    bm_c0 ((bm_kt w1 p0 = 2) ∧ bm_Call bm_pg d y_X2_push [bm_r (some p0), bm_l p4] w1 (fun r2 w2 => 
      bm_c0 ((bm_kt w2 p0 = 2) ∧ bm_Call bm_pg d y_X2_push [bm_r (some p0), bm_l p5] w2 (fun r3 w3 => 
        bm_c0 ((bm_kt w3 p0 = 2) ∧ bm_Call bm_pg d y_X2_run [bm_r (some p0), bm_i p1, bm_i (0 : Int), bm_i p2] w3 (fun r4 w4 => 
          bm_c0 ((bm_kt w4 p0 = 2) ∧
          (if (decide ((bm_gi w4 p0 5) = 0)) = true then
            (bm_kt w4 p0 = 2) ∧ bm_Call bm_pg d y_X2_pop [bm_r (some p0)] w4 (fun r5 w5 => 
              bm_c2 (fun x5 => Φ (.inl (some (bm_l x5))) w5) (fun E => Φ (.inr E) w5) r5)
          else
            Φ (.inl (some (bm_l (0 : Int)))) w4)) (fun E => Φ (.inr E) w4) r4)) (fun E => Φ (.inr E) w3) r3)) (fun E => Φ (.inr E) w2) r2)) (fun E => Φ (.inr E) w1) r1)) : bm_Call bm_pg (d + 1) y_X2_reckon [bm_r (some p0), bm_i p1, bm_i p2, bm_l p3, bm_l p4, bm_l p5] w Φ := bm_enter rfl (bm_go (bm_Call_mono _ _) [] 30 _ h)
/-! CaseTables$Machine.hasFailed()Z -/
set_option maxRecDepth 20000 in
theorem vc_X2_hasFailed {d : Nat} {Φ : bm_Rt → bm_W → Prop} {p0 : Nat} {w : bm_W} (h :
  (bm_kt w p0 = 2) ∧
  ((bm_gi w p0 5) = 0 ∨ (bm_gi w p0 5) = 1) ∧ Φ (.inl (some (bm_i (bm_gi w p0 5)))) w) : bm_Call bm_pg (d + 1) y_X2_hasFailed [bm_r (some p0)] w Φ := bm_enter rfl (bm_go (bm_Call_mono _ _) [] 5 _ h)
/-! CaseTables$Machine.startCounting()V -/
def bk_X2_startCounting_7 (d : Nat) (Φ : bm_Rt → bm_W → Prop) (v0 : Nat) (v1 : Int) (w : bm_W) : Prop := bm_Wp (bm_Call bm_pg d) tb_X2_startCounting Φ (7, [some (bm_r (some v0)), some (bm_i v1)], [], w)
def bk_X2_startCounting_31 (d : Nat) (Φ : bm_Rt → bm_W → Prop) (v0 : Nat) (v1 : Int) (w : bm_W) : Prop := bm_Wp (bm_Call bm_pg d) tb_X2_startCounting Φ (31, [some (bm_r (some v0)), some (bm_i v1)], [], w)
set_option maxRecDepth 20000 in
theorem vc_X2_startCounting {d : Nat} {Φ : bm_Rt → bm_W → Prop} {p0 : Nat} {w : bm_W} (h :
  (bm_kt w p0 = 2 ∧ ((1 : Int) = 0 ∨ (1 : Int) = 1)) ∧
  bk_X2_startCounting_7 d Φ p0 (0 : Int) (bm_si w p0 6 (1 : Int))) : bm_Call bm_pg (d + 1) y_X2_startCounting [bm_r (some p0)] w Φ := bm_enter rfl (bm_go (bm_Call_mono _ _) [7, 31] 34 _ h)
set_option maxRecDepth 20000 in
theorem vb_X2_startCounting_7 {d : Nat} {Φ : bm_Rt → bm_W → Prop} {v0 : Nat} {v1 : Int} {w : bm_W} (h :
  (bm_kt w v0 = 2 ∧ bm_gr w v0 2 = some (bm_u (bm_gr w v0 2))) ∧
  (20 ≤ bm_kt w (bm_u (bm_gr w v0 2)) ∧ bm_kt w (bm_u (bm_gr w v0 2)) < 27) ∧
  (if (decide ((bm_kn w (bm_u (bm_gr w v0 2)) : Int) ≤ v1)) = true then
    bk_X2_startCounting_31 d Φ v0 (0 : Int) w
  else
    (bm_kt w v0 = 2 ∧ bm_gr w v0 2 = some (bm_u (bm_gr w v0 2))) ∧
    (bm_kt w (bm_u (bm_gr w v0 2)) = 21 ∧ bm_in v1 (bm_kn w (bm_u (bm_gr w v0 2)))) ∧
    bk_X2_startCounting_7 d Φ v0 (bm_w (v1 + 1)) (bm_si w (bm_u (bm_gr w v0 2)) (v1).toNat (0 : Int)))) : bk_X2_startCounting_7 d Φ v0 v1 w := bm_go (bm_Call_mono _ _) [7, 31] 34 _ h
set_option maxRecDepth 20000 in
theorem vb_X2_startCounting_31 {d : Nat} {Φ : bm_Rt → bm_W → Prop} {v0 : Nat} {v1 : Int} {w : bm_W} (h :
  (bm_kt w v0 = 2 ∧ bm_gr w v0 3 = some (bm_u (bm_gr w v0 3))) ∧
  (20 ≤ bm_kt w (bm_u (bm_gr w v0 3)) ∧ bm_kt w (bm_u (bm_gr w v0 3)) < 27) ∧
  (if (decide ((bm_kn w (bm_u (bm_gr w v0 3)) : Int) ≤ v1)) = true then
    Φ (.inl none) w
  else
    (bm_kt w v0 = 2 ∧ bm_gr w v0 3 = some (bm_u (bm_gr w v0 3))) ∧
    (bm_kt w (bm_u (bm_gr w v0 3)) = 21 ∧ bm_in v1 (bm_kn w (bm_u (bm_gr w v0 3)))) ∧
    bk_X2_startCounting_31 d Φ v0 (bm_w (v1 + 1)) (bm_si w (bm_u (bm_gr w v0 3)) (v1).toNat (0 : Int)))) : bk_X2_startCounting_31 d Φ v0 v1 w := bm_go (bm_Call_mono _ _) [7, 31] 34 _ h
/-! CaseTables$Machine.stopCounting()V -/
set_option maxRecDepth 20000 in
theorem vc_X2_stopCounting {d : Nat} {Φ : bm_Rt → bm_W → Prop} {p0 : Nat} {w : bm_W} (h :
  (bm_kt w p0 = 2 ∧ ((0 : Int) = 0 ∨ (0 : Int) = 1)) ∧
  Φ (.inl none) (bm_si w p0 6 (0 : Int))) : bm_Call bm_pg (d + 1) y_X2_stopCounting [bm_r (some p0)] w Φ := bm_enter rfl (bm_go (bm_Call_mono _ _) [] 6 _ h)
/-! CaseTables$Machine.branchCount(IZ)I -/
set_option maxRecDepth 20000 in
theorem vc_X2_branchCount {d : Nat} {Φ : bm_Rt → bm_W → Prop} {p0 : Nat} {p1 : Int} {p2 : Int} {w : bm_W} (h :
  (if (decide (p2 = 0)) = true then
    (bm_kt w p0 = 2 ∧ bm_gr w p0 3 = some (bm_u (bm_gr w p0 3))) ∧
    (if (decide (p1 < 0)) = true then
      Φ (.inl (some (bm_i (0 : Int)))) w
    else
      (20 ≤ bm_kt w (bm_u (bm_gr w p0 3)) ∧ bm_kt w (bm_u (bm_gr w p0 3)) < 27) ∧
      (if (decide ((bm_kn w (bm_u (bm_gr w p0 3)) : Int) ≤ p1)) = true then
        Φ (.inl (some (bm_i (0 : Int)))) w
      else
        (bm_kt w (bm_u (bm_gr w p0 3)) = 21 ∧ bm_in p1 (bm_kn w (bm_u (bm_gr w p0 3)))) ∧
        Φ (.inl (some (bm_i (bm_gi w (bm_u (bm_gr w p0 3)) (p1).toNat)))) w))
  else
    (bm_kt w p0 = 2 ∧ bm_gr w p0 2 = some (bm_u (bm_gr w p0 2))) ∧
    (if (decide (p1 < 0)) = true then
      Φ (.inl (some (bm_i (0 : Int)))) w
    else
      (20 ≤ bm_kt w (bm_u (bm_gr w p0 2)) ∧ bm_kt w (bm_u (bm_gr w p0 2)) < 27) ∧
      (if (decide ((bm_kn w (bm_u (bm_gr w p0 2)) : Int) ≤ p1)) = true then
        Φ (.inl (some (bm_i (0 : Int)))) w
      else
        (bm_kt w (bm_u (bm_gr w p0 2)) = 21 ∧ bm_in p1 (bm_kn w (bm_u (bm_gr w p0 2)))) ∧
        Φ (.inl (some (bm_i (bm_gi w (bm_u (bm_gr w p0 2)) (p1).toNat)))) w)))) : bm_Call bm_pg (d + 1) y_X2_branchCount [bm_r (some p0), bm_i p1, bm_i p2] w Φ := bm_enter rfl (bm_go (bm_Call_mono _ _) [] 22 _ h)
/-! CaseTables$Machine.countBranch(IZ)V -/
set_option maxRecDepth 20000 in
theorem vc_X2_countBranch {d : Nat} {Φ : bm_Rt → bm_W → Prop} {p0 : Nat} {p1 : Int} {p2 : Int} {w : bm_W} (h :
  (if (decide (p2 = 0)) = true then
    (bm_kt w p0 = 2 ∧ bm_gr w p0 3 = some (bm_u (bm_gr w p0 3))) ∧
    (bm_kt w p0 = 2) ∧
    (if (decide ((bm_gi w p0 6) = 0)) = true then
      Φ (.inl none) w
    else
      (if (decide (p1 < 0)) = true then
        Φ (.inl none) w
      else
        (20 ≤ bm_kt w (bm_u (bm_gr w p0 3)) ∧ bm_kt w (bm_u (bm_gr w p0 3)) < 27) ∧
        (if (decide ((bm_kn w (bm_u (bm_gr w p0 3)) : Int) ≤ p1)) = true then
          Φ (.inl none) w
        else
          (bm_kt w (bm_u (bm_gr w p0 3)) = 21 ∧ bm_in p1 (bm_kn w (bm_u (bm_gr w p0 3)))) ∧
          (bm_kt w (bm_u (bm_gr w p0 3)) = 21 ∧ bm_in p1 (bm_kn w (bm_u (bm_gr w p0 3)))) ∧
          Φ (.inl none) (bm_si w (bm_u (bm_gr w p0 3)) (p1).toNat (bm_w ((bm_gi w (bm_u (bm_gr w p0 3)) (p1).toNat) + (1 : Int)))))))
  else
    (bm_kt w p0 = 2 ∧ bm_gr w p0 2 = some (bm_u (bm_gr w p0 2))) ∧
    (bm_kt w p0 = 2) ∧
    (if (decide ((bm_gi w p0 6) = 0)) = true then
      Φ (.inl none) w
    else
      (if (decide (p1 < 0)) = true then
        Φ (.inl none) w
      else
        (20 ≤ bm_kt w (bm_u (bm_gr w p0 2)) ∧ bm_kt w (bm_u (bm_gr w p0 2)) < 27) ∧
        (if (decide ((bm_kn w (bm_u (bm_gr w p0 2)) : Int) ≤ p1)) = true then
          Φ (.inl none) w
        else
          (bm_kt w (bm_u (bm_gr w p0 2)) = 21 ∧ bm_in p1 (bm_kn w (bm_u (bm_gr w p0 2)))) ∧
          (bm_kt w (bm_u (bm_gr w p0 2)) = 21 ∧ bm_in p1 (bm_kn w (bm_u (bm_gr w p0 2)))) ∧
          Φ (.inl none) (bm_si w (bm_u (bm_gr w p0 2)) (p1).toNat (bm_w ((bm_gi w (bm_u (bm_gr w p0 2)) (p1).toNat) + (1 : Int))))))))) : bm_Call bm_pg (d + 1) y_X2_countBranch [bm_r (some p0), bm_i p1, bm_i p2] w Φ := bm_enter rfl (bm_go (bm_Call_mono _ _) [] 27 _ h)
/-! CaseTables$Machine.push(J)V -/
set_option maxRecDepth 20000 in
theorem vc_X2_push {d : Nat} {Φ : bm_Rt → bm_W → Prop} {p0 : Nat} {p1 : Int} {w : bm_W} (h :
  (bm_kt w p0 = 2) ∧
  (if (decide ((bm_gi w p0 4) < 0)) = true then
    Φ (.inl none) w
  else
    (bm_kt w p0 = 2) ∧
    (bm_kt w p0 = 2 ∧ bm_gr w p0 1 = some (bm_u (bm_gr w p0 1))) ∧
    (20 ≤ bm_kt w (bm_u (bm_gr w p0 1)) ∧ bm_kt w (bm_u (bm_gr w p0 1)) < 27) ∧
    (if (decide ((bm_kn w (bm_u (bm_gr w p0 1)) : Int) ≤ (bm_gi w p0 4))) = true then
      Φ (.inl none) w
    else
      (bm_kt w p0 = 2 ∧ bm_gr w p0 1 = some (bm_u (bm_gr w p0 1))) ∧
      (bm_kt w p0 = 2) ∧
      (bm_kt w (bm_u (bm_gr w p0 1)) = 22 ∧ bm_in (bm_gi w p0 4) (bm_kn w (bm_u (bm_gr w p0 1)))) ∧
      (bm_kt (bm_sq w (bm_u (bm_gr w p0 1)) ((bm_gi w p0 4)).toNat p1) p0 = 2) ∧
      (bm_kt (bm_sq w (bm_u (bm_gr w p0 1)) ((bm_gi w p0 4)).toNat p1) p0 = 2) ∧
      Φ (.inl none) (bm_si (bm_sq w (bm_u (bm_gr w p0 1)) ((bm_gi w p0 4)).toNat p1) p0 4 (bm_w ((bm_gi (bm_sq w (bm_u (bm_gr w p0 1)) ((bm_gi w p0 4)).toNat p1) p0 4) + (1 : Int))))))) : bm_Call bm_pg (d + 1) y_X2_push [bm_r (some p0), bm_l p1] w Φ := bm_enter rfl (bm_go (bm_Call_mono _ _) [] 24 _ h)
/-! CaseTables$Machine.pop()J -/
set_option maxRecDepth 20000 in
theorem vc_X2_pop {d : Nat} {Φ : bm_Rt → bm_W → Prop} {p0 : Nat} {w : bm_W} (h :
  (bm_kt w p0 = 2) ∧
  (if (decide ((bm_gi w p0 4) ≤ 0)) = true then
    Φ (.inl (some (bm_l (0 : Int)))) w
  else
    (bm_kt w p0 = 2) ∧
    (bm_kt w p0 = 2 ∧ bm_gr w p0 1 = some (bm_u (bm_gr w p0 1))) ∧
    (20 ≤ bm_kt w (bm_u (bm_gr w p0 1)) ∧ bm_kt w (bm_u (bm_gr w p0 1)) < 27) ∧
    (if (decide ((bm_gi w p0 4) ≤ (bm_kn w (bm_u (bm_gr w p0 1)) : Int))) = true then
      (bm_kt w p0 = 2) ∧
      (bm_kt w p0 = 2) ∧
      (bm_kt (bm_si w p0 4 (bm_w ((bm_gi w p0 4) - (1 : Int)))) p0 = 2 ∧ bm_gr (bm_si w p0 4 (bm_w ((bm_gi w p0 4) - (1 : Int)))) p0 1 = some (bm_u (bm_gr (bm_si w p0 4 (bm_w ((bm_gi w p0 4) - (1 : Int)))) p0 1))) ∧
      (bm_kt (bm_si w p0 4 (bm_w ((bm_gi w p0 4) - (1 : Int)))) p0 = 2) ∧
      (bm_kt (bm_si w p0 4 (bm_w ((bm_gi w p0 4) - (1 : Int)))) (bm_u (bm_gr (bm_si w p0 4 (bm_w ((bm_gi w p0 4) - (1 : Int)))) p0 1)) = 22 ∧ bm_in (bm_gi (bm_si w p0 4 (bm_w ((bm_gi w p0 4) - (1 : Int)))) p0 4) (bm_kn (bm_si w p0 4 (bm_w ((bm_gi w p0 4) - (1 : Int)))) (bm_u (bm_gr (bm_si w p0 4 (bm_w ((bm_gi w p0 4) - (1 : Int)))) p0 1)))) ∧
      Φ (.inl (some (bm_l (bm_gl (bm_si w p0 4 (bm_w ((bm_gi w p0 4) - (1 : Int)))) (bm_u (bm_gr (bm_si w p0 4 (bm_w ((bm_gi w p0 4) - (1 : Int)))) p0 1)) ((bm_gi (bm_si w p0 4 (bm_w ((bm_gi w p0 4) - (1 : Int)))) p0 4)).toNat)))) (bm_si w p0 4 (bm_w ((bm_gi w p0 4) - (1 : Int))))
    else
      Φ (.inl (some (bm_l (0 : Int)))) w))) : bm_Call bm_pg (d + 1) y_X2_pop [bm_r (some p0)] w Φ := bm_enter rfl (bm_go (bm_Call_mono _ _) [] 25 _ h)
/-! CaseTables$Machine.valueAt(I)J -/
set_option maxRecDepth 20000 in
theorem vc_X2_valueAt {d : Nat} {Φ : bm_Rt → bm_W → Prop} {p0 : Nat} {p1 : Int} {w : bm_W} (h :
  (if (decide (p1 < 0)) = true then
    Φ (.inl (some (bm_l (0 : Int)))) w
  else
    (bm_kt w p0 = 2 ∧ bm_gr w p0 1 = some (bm_u (bm_gr w p0 1))) ∧
    (20 ≤ bm_kt w (bm_u (bm_gr w p0 1)) ∧ bm_kt w (bm_u (bm_gr w p0 1)) < 27) ∧
    (if (decide ((bm_kn w (bm_u (bm_gr w p0 1)) : Int) ≤ p1)) = true then
      Φ (.inl (some (bm_l (0 : Int)))) w
    else
      (bm_kt w p0 = 2 ∧ bm_gr w p0 1 = some (bm_u (bm_gr w p0 1))) ∧
      (bm_kt w (bm_u (bm_gr w p0 1)) = 22 ∧ bm_in p1 (bm_kn w (bm_u (bm_gr w p0 1)))) ∧
      Φ (.inl (some (bm_l (bm_gl w (bm_u (bm_gr w p0 1)) (p1).toNat)))) w))) : bm_Call bm_pg (d + 1) y_X2_valueAt [bm_r (some p0), bm_i p1] w Φ := bm_enter rfl (bm_go (bm_Call_mono _ _) [] 16 _ h)
/-! CaseTables$Machine.run(III)V -/
def bk_X2_run_16 (d : Nat) (Φ : bm_Rt → bm_W → Prop) (v0 : Nat) (v1 : Int) (v2 : Int) (v3 : Int) (v4 : Nat) (v5 : Int) (v6 : Int) (w : bm_W) : Prop := bm_Wp (bm_Call bm_pg d) tb_X2_run Φ (16, [some (bm_r (some v0)), some (bm_i v1), some (bm_i v2), some (bm_i v3), some (bm_r (some v4)), some (bm_i v5), some (bm_i v6), none, none, none], [], w)
def bk_X2_run_79 (d : Nat) (Φ : bm_Rt → bm_W → Prop) (v0 : Nat) (v1 : Int) (v2 : Int) (v3 : Int) (v4 : Nat) (v5 : Int) (v6 : Int) (v7 : Int) (v8 : Int) (s0 : Int) (w : bm_W) : Prop := bm_Wp (bm_Call bm_pg d) tb_X2_run Φ (79, [some (bm_r (some v0)), some (bm_i v1), some (bm_i v2), some (bm_i v3), some (bm_r (some v4)), some (bm_i v5), some (bm_i v6), some (bm_i v7), some (bm_i v8), none], [bm_i s0], w)
set_option maxRecDepth 20000 in
theorem vc_X2_run {d : Nat} {Φ : bm_Rt → bm_W → Prop} {p0 : Nat} {p1 : Int} {p2 : Int} {p3 : Int} {w : bm_W} (h :
  (bm_kt w p0 = 2 ∧ bm_gr w p0 0 = some (bm_u (bm_gr w p0 0))) ∧
  (bm_kt w (bm_u (bm_gr w p0 0)) = 3) ∧ bm_Call bm_pg d y_X3_funAt [bm_r (some (bm_u (bm_gr w p0 0))), bm_i p1] w (fun r1 w1 => 
    bm_c3 (fun x1 => bk_X2_run_16 d Φ p0 p1 p2 p3 x1 (0 : Int) (0 : Int) w1) (fun E => Φ (.inr E) w1) r1)) : bm_Call bm_pg (d + 1) y_X2_run [bm_r (some p0), bm_i p1, bm_i p2, bm_i p3] w Φ := bm_enter rfl (bm_go (bm_Call_mono _ _) [16, 79] 117 _ h)
set_option maxRecDepth 20000 in
theorem vb_X2_run_16 {d : Nat} {Φ : bm_Rt → bm_W → Prop} {v0 : Nat} {v1 : Int} {v2 : Int} {v3 : Int} {v4 : Nat} {v5 : Int} {v6 : Int} {w : bm_W} (h :
  (if (decide ((100 : Int) ≤ v6)) = true then
    Φ (.inl none) w
  else
    (bm_kt w v4 = 1) ∧
    (if (decide ((bm_gi w v4 7) ≤ v5)) = true then
      Φ (.inl none) w
    else
      (bm_kt w v0 = 2) ∧
      (if (!decide ((bm_gi w v0 5) = 0)) = true then
        Φ (.inl none) w
      else
        (bm_kt w v4 = 1) ∧ bm_Call bm_pg d y_X1_operationAt [bm_r (some v4), bm_i v5] w (fun r1 w1 => 
          bm_c1 (fun x1 => (bm_kt w1 v4 = 1) ∧ bm_Call bm_pg d y_X1_operandAt [bm_r (some v4), bm_i v5] w1 (fun r2 w2 => 
            bm_c1 (fun x2 => (if (decide (v3 = (-1 : Int))) = true then
              bk_X2_run_79 d Φ v0 v1 v2 v3 v4 v5 v6 x1 x2 (0 : Int) w2
            else
              (bm_kt w2 v4 = 1) ∧ bm_Call bm_pg d y_X1_placeAt [bm_r (some v4), bm_i v5] w2 (fun r3 w3 => 
                bm_c1 (fun x3 => (if (!decide (x3 = v3)) = true then
                  bk_X2_run_79 d Φ v0 v1 v2 v3 v4 v5 v6 x1 x2 (0 : Int) w3
                else
                  bk_X2_run_79 d Φ v0 v1 v2 v3 v4 v5 v6 x1 x2 (1 : Int) w3)) (fun E => Φ (.inr E) w3) r3))) (fun E => Φ (.inr E) w2) r2)) (fun E => Φ (.inr E) w1) r1))))) : bk_X2_run_16 d Φ v0 v1 v2 v3 v4 v5 v6 w := bm_go (bm_Call_mono _ _) [16, 79] 117 _ h
set_option maxRecDepth 20000 in
theorem vb_X2_run_79 {d : Nat} {Φ : bm_Rt → bm_W → Prop} {v0 : Nat} {v1 : Int} {v2 : Int} {v3 : Int} {v4 : Nat} {v5 : Int} {v6 : Int} {v7 : Int} {v8 : Int} {s0 : Int} {w : bm_W} (h :
  (if v7 = 2 then
    (if (decide (s0 = 0)) = true then
      (bm_kt w v0 = 2) ∧ bm_Call bm_pg d y_X2_push [bm_r (some v0), bm_l v8] w (fun r1 w1 => 
        bm_c0 (bk_X2_run_16 d Φ v0 v1 v2 v3 v4 (bm_w (v5 + 1)) (bm_w (v6 + 1)) w1) (fun E => Φ (.inr E) w1) r1)
    else
      (bm_kt w v0 = 2) ∧ bm_Call bm_pg d y_X2_push [bm_r (some v0), bm_l (bm_w (v8 + (1 : Int)))] w (fun r2 w2 => 
        bm_c0 (bk_X2_run_16 d Φ v0 v1 v2 v3 v4 (bm_w (v5 + 1)) (bm_w (v6 + 1)) w2) (fun E => Φ (.inr E) w2) r2))
  else (if v7 = 6 then
    (bm_kt w v0 = 2) ∧ bm_Call bm_pg d y_X2_takesThen [bm_r (some v0), bm_i v8, bm_i s0] w (fun r3 w3 => 
      bm_c1 (fun x3 => (if (decide (x3 = 0)) = true then
        bk_X2_run_16 d Φ v0 v1 v2 v3 v4 (bm_w ((bm_w (v5 + 1)) + (0 : Int))) (bm_w (v6 + 1)) w3
      else
        bk_X2_run_16 d Φ v0 v1 v2 v3 v4 (bm_w ((bm_w (v5 + 1)) + (1 : Int))) (bm_w (v6 + 1)) w3)) (fun E => Φ (.inr E) w3) r3)
  else (if v7 = 9 then
    (bm_kt w v0 = 2) ∧ bm_Call bm_pg d y_X2_isDecided [bm_r (some v0), bm_i s0] w (fun r4 w4 => 
      bm_c1 (fun x4 => (if (decide (x4 = 0)) = true then
        bk_X2_run_16 d Φ v0 v1 v2 v3 v4 (bm_w (v5 + 1)) (bm_w (v6 + 1)) w4
      else
        bk_X2_run_16 d Φ v0 v1 v2 v3 v4 v8 (bm_w (v6 + 1)) w4)) (fun E => Φ (.inr E) w4) r4)
  else (if v7 = 10 then
    (if (!decide (s0 = 0)) = true then
      (bm_kt w v0 = 2) ∧ bm_Call bm_pg d y_X2_isDecided [bm_r (some v0), bm_i (0 : Int)] w (fun r5 w5 => 
        bm_c1 (fun x5 => (if (decide (x5 = 0)) = true then
          bk_X2_run_16 d Φ v0 v1 v2 v3 v4 (bm_w (v5 + 1)) (bm_w (v6 + 1)) w5
        else
          bk_X2_run_16 d Φ v0 v1 v2 v3 v4 v8 (bm_w (v6 + 1)) w5)) (fun E => Φ (.inr E) w5) r5)
    else
      (bm_kt w v0 = 2) ∧ bm_Call bm_pg d y_X2_isDecided [bm_r (some v0), bm_i (1 : Int)] w (fun r6 w6 => 
        bm_c1 (fun x6 => (if (decide (x6 = 0)) = true then
          bk_X2_run_16 d Φ v0 v1 v2 v3 v4 (bm_w (v5 + 1)) (bm_w (v6 + 1)) w6
        else
          bk_X2_run_16 d Φ v0 v1 v2 v3 v4 v8 (bm_w (v6 + 1)) w6)) (fun E => Φ (.inr E) w6) r6))
  else (if v7 = 34 then
    (bm_kt w v0 = 2) ∧ bm_Call bm_pg d y_X2_valueAt [bm_r (some v0), bm_i (bm_w (v2 + v8))] w (fun r7 w7 => 
      bm_c2 (fun x7 => (bm_kt w7 v0 = 2) ∧ bm_Call bm_pg d y_X2_push [bm_r (some v0), bm_l x7] w7 (fun r8 w8 => 
        bm_c0 (bk_X2_run_16 d Φ v0 v1 v2 v3 v4 (bm_w (v5 + 1)) (bm_w (v6 + 1)) w8) (fun E => Φ (.inr E) w8) r8)) (fun E => Φ (.inr E) w7) r7)
  else (if v7 = 35 then
    (bm_kt w v0 = 2) ∧ bm_Call bm_pg d y_X2_runCalled [bm_r (some v0), bm_i v1, bm_i v8] w (fun r9 w9 => 
      bm_c0 (bk_X2_run_16 d Φ v0 v1 v2 v3 v4 (bm_w (v5 + 1)) (bm_w (v6 + 1)) w9) (fun E => Φ (.inr E) w9) r9)
  else (if v7 = 38 then
    bk_X2_run_16 d Φ v0 v1 v2 v3 v4 v8 (bm_w (v6 + 1)) w
  else (if (decide (s0 = 0)) = true then
      (bm_kt w v0 = 2) ∧ bm_Call bm_pg d y_X2_apply [bm_r (some v0), bm_i v7] w (fun r10 w10 => 
        bm_c0 (bk_X2_run_16 d Φ v0 v1 v2 v3 v4 (bm_w (v5 + 1)) (bm_w (v6 + 1)) w10) (fun E => Φ (.inr E) w10) r10)
    else
      (True) ∧ bm_Call bm_pg d y_X2_changedOperator [bm_i v7] w (fun r11 w11 => 
        bm_c1 (fun x11 => (bm_kt w11 v0 = 2) ∧ bm_Call bm_pg d y_X2_apply [bm_r (some v0), bm_i x11] w11 (fun r12 w12 => 
          bm_c0 (bk_X2_run_16 d Φ v0 v1 v2 v3 v4 (bm_w (v5 + 1)) (bm_w (v6 + 1)) w12) (fun E => Φ (.inr E) w12) r12)) (fun E => Φ (.inr E) w11) r11)))))))))) : bk_X2_run_79 d Φ v0 v1 v2 v3 v4 v5 v6 v7 v8 s0 w := bm_go (bm_Call_mono _ _) [16, 79] 117 _ h
/-! CaseTables$Machine.runCalled(II)V -/
set_option maxRecDepth 20000 in
theorem vc_X2_runCalled {d : Nat} {Φ : bm_Rt → bm_W → Prop} {p0 : Nat} {p1 : Int} {p2 : Int} {w : bm_W} (h :
  (if (decide (p2 < 0)) = true then
    (bm_kt w p0 = 2 ∧ ((1 : Int) = 0 ∨ (1 : Int) = 1)) ∧
    Φ (.inl none) (bm_si w p0 5 (1 : Int))
  else
    (if (decide (p2 < p1)) = true then
      (bm_kt w p0 = 2) ∧
      (bm_kt w p0 = 2 ∧ bm_gr w p0 0 = some (bm_u (bm_gr w p0 0))) ∧
      (bm_kt w (bm_u (bm_gr w p0 0)) = 3) ∧ bm_Call bm_pg d y_X3_funAt [bm_r (some (bm_u (bm_gr w p0 0))), bm_i p2] w (fun r1 w1 => 
        bm_c3 (fun x1 => (bm_kt w1 x1 = 1) ∧
        (bm_kt w1 p0 = 2) ∧ bm_Call bm_pg d y_X2_run [bm_r (some p0), bm_i p2, bm_i (bm_w ((bm_gi w p0 4) - (bm_gi w1 x1 6))), bm_i (-1 : Int)] w1 (fun r2 w2 => 
          bm_c0 ((bm_kt w2 p0 = 2) ∧ bm_Call bm_pg d y_X2_pop [bm_r (some p0)] w2 (fun r3 w3 => 
            bm_c2 (fun x3 => (bm_kt w3 p0 = 2) ∧
            (bm_kt (bm_si w3 p0 4 (bm_w ((bm_gi w p0 4) - (bm_gi w1 x1 6)))) p0 = 2) ∧ bm_Call bm_pg d y_X2_push [bm_r (some p0), bm_l x3] (bm_si w3 p0 4 (bm_w ((bm_gi w p0 4) - (bm_gi w1 x1 6)))) (fun r4 w4 => 
              bm_c0 (Φ (.inl none) w4) (fun E => Φ (.inr E) w4) r4)) (fun E => Φ (.inr E) w3) r3)) (fun E => Φ (.inr E) w2) r2)) (fun E => Φ (.inr E) w1) r1)
    else
      (bm_kt w p0 = 2 ∧ ((1 : Int) = 0 ∨ (1 : Int) = 1)) ∧
      Φ (.inl none) (bm_si w p0 5 (1 : Int))))) : bm_Call bm_pg (d + 1) y_X2_runCalled [bm_r (some p0), bm_i p1, bm_i p2] w Φ := bm_enter rfl (bm_go (bm_Call_mono _ _) [] 35 _ h)
/-! CaseTables$Machine.takesThen(IZ)Z -/
set_option maxRecDepth 20000 in
theorem vc_X2_takesThen {d : Nat} {Φ : bm_Rt → bm_W → Prop} {p0 : Nat} {p1 : Int} {p2 : Int} {w : bm_W} (h :
  (bm_kt w p0 = 2) ∧ bm_Call bm_pg d y_X2_pop [bm_r (some p0)] w (fun r1 w1 => 
    bm_c2 (fun x1 => (if (decide (x1 = (0 : Int))) = true then
      (if (decide ((0 : Int) = p2)) = true then
        (bm_kt w1 p0 = 2) ∧ bm_Call bm_pg d y_X2_countBranch [bm_r (some p0), bm_i p1, bm_i (0 : Int)] w1 (fun r2 w2 => 
          bm_c0 (((0 : Int) = 0 ∨ (0 : Int) = 1) ∧ Φ (.inl (some (bm_i (0 : Int)))) w2) (fun E => Φ (.inr E) w2) r2)
      else
        (bm_kt w1 p0 = 2) ∧ bm_Call bm_pg d y_X2_countBranch [bm_r (some p0), bm_i p1, bm_i (1 : Int)] w1 (fun r3 w3 => 
          bm_c0 (((1 : Int) = 0 ∨ (1 : Int) = 1) ∧ Φ (.inl (some (bm_i (1 : Int)))) w3) (fun E => Φ (.inr E) w3) r3))
    else
      (if (decide ((1 : Int) = p2)) = true then
        (bm_kt w1 p0 = 2) ∧ bm_Call bm_pg d y_X2_countBranch [bm_r (some p0), bm_i p1, bm_i (0 : Int)] w1 (fun r4 w4 => 
          bm_c0 (((0 : Int) = 0 ∨ (0 : Int) = 1) ∧ Φ (.inl (some (bm_i (0 : Int)))) w4) (fun E => Φ (.inr E) w4) r4)
      else
        (bm_kt w1 p0 = 2) ∧ bm_Call bm_pg d y_X2_countBranch [bm_r (some p0), bm_i p1, bm_i (1 : Int)] w1 (fun r5 w5 => 
          bm_c0 (((1 : Int) = 0 ∨ (1 : Int) = 1) ∧ Φ (.inl (some (bm_i (1 : Int)))) w5) (fun E => Φ (.inr E) w5) r5)))) (fun E => Φ (.inr E) w1) r1)) : bm_Call bm_pg (d + 1) y_X2_takesThen [bm_r (some p0), bm_i p1, bm_i p2] w Φ := bm_enter rfl (bm_go (bm_Call_mono _ _) [] 23 _ h)
/-! CaseTables$Machine.isDecided(Z)Z -/
set_option maxRecDepth 20000 in
theorem vc_X2_isDecided {d : Nat} {Φ : bm_Rt → bm_W → Prop} {p0 : Nat} {p1 : Int} {w : bm_W} (h :
  (bm_kt w p0 = 2) ∧ bm_Call bm_pg d y_X2_pop [bm_r (some p0)] w (fun r1 w1 => 
    bm_c2 (fun x1 => (if (decide (x1 = (0 : Int))) = true then
      (if (decide ((0 : Int) = p1)) = true then
        (if (decide ((0 : Int) = 0)) = true then
          (bm_kt w1 p0 = 2) ∧ bm_Call bm_pg d y_X2_push [bm_r (some p0), bm_l (0 : Int)] w1 (fun r2 w2 => 
            bm_c0 (((1 : Int) = 0 ∨ (1 : Int) = 1) ∧ Φ (.inl (some (bm_i (1 : Int)))) w2) (fun E => Φ (.inr E) w2) r2)
        else
          (bm_kt w1 p0 = 2) ∧ bm_Call bm_pg d y_X2_push [bm_r (some p0), bm_l (1 : Int)] w1 (fun r3 w3 => 
            bm_c0 (((1 : Int) = 0 ∨ (1 : Int) = 1) ∧ Φ (.inl (some (bm_i (1 : Int)))) w3) (fun E => Φ (.inr E) w3) r3))
      else
        ((0 : Int) = 0 ∨ (0 : Int) = 1) ∧ Φ (.inl (some (bm_i (0 : Int)))) w1)
    else
      (if (decide ((1 : Int) = p1)) = true then
        (if (decide ((1 : Int) = 0)) = true then
          (bm_kt w1 p0 = 2) ∧ bm_Call bm_pg d y_X2_push [bm_r (some p0), bm_l (0 : Int)] w1 (fun r4 w4 => 
            bm_c0 (((1 : Int) = 0 ∨ (1 : Int) = 1) ∧ Φ (.inl (some (bm_i (1 : Int)))) w4) (fun E => Φ (.inr E) w4) r4)
        else
          (bm_kt w1 p0 = 2) ∧ bm_Call bm_pg d y_X2_push [bm_r (some p0), bm_l (1 : Int)] w1 (fun r5 w5 => 
            bm_c0 (((1 : Int) = 0 ∨ (1 : Int) = 1) ∧ Φ (.inl (some (bm_i (1 : Int)))) w5) (fun E => Φ (.inr E) w5) r5))
      else
        ((0 : Int) = 0 ∨ (0 : Int) = 1) ∧ Φ (.inl (some (bm_i (0 : Int)))) w1))) (fun E => Φ (.inr E) w1) r1)) : bm_Call bm_pg (d + 1) y_X2_isDecided [bm_r (some p0), bm_i p1] w Φ := bm_enter rfl (bm_go (bm_Call_mono _ _) [] 24 _ h)
/-! CaseTables$Machine.apply(I)V -/
set_option maxRecDepth 20000 in
theorem vc_X2_apply {d : Nat} {Φ : bm_Rt → bm_W → Prop} {p0 : Nat} {p1 : Int} {w : bm_W} (h :
  (bm_kt w p0 = 2) ∧ bm_Call bm_pg d y_X2_pop [bm_r (some p0)] w (fun r1 w1 => 
    bm_c2 (fun x1 => (if p1 = 11 then
      (if (!decide (x1 = (0 : Int))) = true then
        (bm_kt w1 p0 = 2) ∧ bm_Call bm_pg d y_X2_push [bm_r (some p0), bm_l (0 : Int)] w1 (fun r2 w2 => 
          bm_c0 (Φ (.inl none) w2) (fun E => Φ (.inr E) w2) r2)
      else
        (bm_kt w1 p0 = 2) ∧ bm_Call bm_pg d y_X2_push [bm_r (some p0), bm_l (1 : Int)] w1 (fun r3 w3 => 
          bm_c0 (Φ (.inl none) w3) (fun E => Φ (.inr E) w3) r3))
    else (if p1 = 28 then
      (bm_kt w1 p0 = 2) ∧ bm_Call bm_pg d y_X2_pop [bm_r (some p0)] w1 (fun r4 w4 => 
        bm_c2 (fun x4 => (bm_kt w4 p0 = 2) ∧ bm_Call bm_pg d y_X2_push [bm_r (some p0), bm_l (bm_x (x4 + x1))] w4 (fun r5 w5 => 
          bm_c0 (Φ (.inl none) w5) (fun E => Φ (.inr E) w5) r5)) (fun E => Φ (.inr E) w4) r4)
    else (if p1 = 29 then
      (bm_kt w1 p0 = 2) ∧ bm_Call bm_pg d y_X2_pop [bm_r (some p0)] w1 (fun r6 w6 => 
        bm_c2 (fun x6 => (bm_kt w6 p0 = 2) ∧ bm_Call bm_pg d y_X2_push [bm_r (some p0), bm_l (bm_x (x6 - x1))] w6 (fun r7 w7 => 
          bm_c0 (Φ (.inl none) w7) (fun E => Φ (.inr E) w7) r7)) (fun E => Φ (.inr E) w6) r6)
    else (if p1 = 30 then
      (bm_kt w1 p0 = 2) ∧ bm_Call bm_pg d y_X2_pop [bm_r (some p0)] w1 (fun r8 w8 => 
        bm_c2 (fun x8 => (bm_kt w8 p0 = 2) ∧ bm_Call bm_pg d y_X2_push [bm_r (some p0), bm_l (bm_x (x8 * x1))] w8 (fun r9 w9 => 
          bm_c0 (Φ (.inl none) w9) (fun E => Φ (.inr E) w9) r9)) (fun E => Φ (.inr E) w8) r8)
    else (if p1 = 31 then
      (if (!decide (x1 = (0 : Int))) = true then
        (bm_kt w1 p0 = 2) ∧ bm_Call bm_pg d y_X2_pop [bm_r (some p0)] w1 (fun r10 w10 => 
          bm_c2 (fun x10 => (if (!decide (p1 = (31 : Int))) = true then
            (¬ x1 = 0) ∧
            (bm_kt w10 p0 = 2) ∧ bm_Call bm_pg d y_X2_push [bm_r (some p0), bm_l (bm_x (x10.tmod x1))] w10 (fun r11 w11 => 
              bm_c0 (Φ (.inl none) w11) (fun E => Φ (.inr E) w11) r11)
          else
            (¬ x1 = 0) ∧
            (bm_kt w10 p0 = 2) ∧ bm_Call bm_pg d y_X2_push [bm_r (some p0), bm_l (bm_x (x10.tdiv x1))] w10 (fun r12 w12 => 
              bm_c0 (Φ (.inl none) w12) (fun E => Φ (.inr E) w12) r12))) (fun E => Φ (.inr E) w10) r10)
      else
        (bm_kt w1 p0 = 2 ∧ ((1 : Int) = 0 ∨ (1 : Int) = 1)) ∧
        Φ (.inl none) (bm_si w1 p0 5 (1 : Int)))
    else (if p1 = 32 then
      (if (!decide (x1 = (0 : Int))) = true then
        (bm_kt w1 p0 = 2) ∧ bm_Call bm_pg d y_X2_pop [bm_r (some p0)] w1 (fun r13 w13 => 
          bm_c2 (fun x13 => (if (!decide (p1 = (31 : Int))) = true then
            (¬ x1 = 0) ∧
            (bm_kt w13 p0 = 2) ∧ bm_Call bm_pg d y_X2_push [bm_r (some p0), bm_l (bm_x (x13.tmod x1))] w13 (fun r14 w14 => 
              bm_c0 (Φ (.inl none) w14) (fun E => Φ (.inr E) w14) r14)
          else
            (¬ x1 = 0) ∧
            (bm_kt w13 p0 = 2) ∧ bm_Call bm_pg d y_X2_push [bm_r (some p0), bm_l (bm_x (x13.tdiv x1))] w13 (fun r15 w15 => 
              bm_c0 (Φ (.inl none) w15) (fun E => Φ (.inr E) w15) r15))) (fun E => Φ (.inr E) w13) r13)
      else
        (bm_kt w1 p0 = 2 ∧ ((1 : Int) = 0 ∨ (1 : Int) = 1)) ∧
        Φ (.inl none) (bm_si w1 p0 5 (1 : Int)))
    else (if p1 = 36 then
      (bm_kt w1 p0 = 2) ∧ bm_Call bm_pg d y_X2_push [bm_r (some p0), bm_l (bm_x (-x1))] w1 (fun r16 w16 => 
        bm_c0 (Φ (.inl none) w16) (fun E => Φ (.inr E) w16) r16)
    else (if p1 = 37 then
      (if (!decide (x1 = (0 : Int))) = true then
        (bm_kt w1 p0 = 2) ∧ bm_Call bm_pg d y_X2_push [bm_r (some p0), bm_l (1 : Int)] w1 (fun r17 w17 => 
          bm_c0 (Φ (.inl none) w17) (fun E => Φ (.inr E) w17) r17)
      else
        (bm_kt w1 p0 = 2) ∧ bm_Call bm_pg d y_X2_push [bm_r (some p0), bm_l (0 : Int)] w1 (fun r18 w18 => 
          bm_c0 (Φ (.inl none) w18) (fun E => Φ (.inr E) w18) r18))
    else (bm_kt w1 p0 = 2) ∧ bm_Call bm_pg d y_X2_pop [bm_r (some p0)] w1 (fun r19 w19 => 
        bm_c2 (fun x19 => (True) ∧ bm_Call bm_pg d y_X11_isRelated [bm_i p1, bm_l x19, bm_l x1] w19 (fun r20 w20 => 
          bm_c1 (fun x20 => (if (decide (x20 = 0)) = true then
            (bm_kt w20 p0 = 2) ∧ bm_Call bm_pg d y_X2_push [bm_r (some p0), bm_l (0 : Int)] w20 (fun r21 w21 => 
              bm_c0 (Φ (.inl none) w21) (fun E => Φ (.inr E) w21) r21)
          else
            (bm_kt w20 p0 = 2) ∧ bm_Call bm_pg d y_X2_push [bm_r (some p0), bm_l (1 : Int)] w20 (fun r22 w22 => 
              bm_c0 (Φ (.inl none) w22) (fun E => Φ (.inr E) w22) r22))) (fun _ => False) r20)) (fun E => Φ (.inr E) w19) r19)))))))))) (fun E => Φ (.inr E) w1) r1)) : bm_Call bm_pg (d + 1) y_X2_apply [bm_r (some p0), bm_i p1] w Φ := bm_enter rfl (bm_go (bm_Call_mono _ _) [] 86 _ h)
/-! CaseTables$Machine.changedOperator(I)I -/
set_option maxRecDepth 20000 in
theorem vc_X2_changedOperator {d : Nat} {Φ : bm_Rt → bm_W → Prop} {p0 : Int} {w : bm_W} (h :
  (if p0 = 22 then
    Φ (.inl (some (bm_i (23 : Int)))) w
  else (if p0 = 23 then
    Φ (.inl (some (bm_i (22 : Int)))) w
  else (if p0 = 24 then
    Φ (.inl (some (bm_i (25 : Int)))) w
  else (if p0 = 25 then
    Φ (.inl (some (bm_i (24 : Int)))) w
  else (if p0 = 26 then
    Φ (.inl (some (bm_i (27 : Int)))) w
  else (if p0 = 27 then
    Φ (.inl (some (bm_i (26 : Int)))) w
  else (if p0 = 28 then
    Φ (.inl (some (bm_i (29 : Int)))) w
  else (if p0 = 29 then
    Φ (.inl (some (bm_i (28 : Int)))) w
  else (if p0 = 30 then
    Φ (.inl (some (bm_i (31 : Int)))) w
  else Φ (.inl (some (bm_i (30 : Int)))) w)))))))))) : bm_Call bm_pg (d + 1) y_X2_changedOperator [bm_i p0] w Φ := bm_enter rfl (bm_go (bm_Call_mono _ _) [] 24 _ h)
/-! CaseTables$Program.<init>()V -/
def bk_X3_init_22 (d : Nat) (Φ : bm_Rt → bm_W → Prop) (v0 : Nat) (w : bm_W) : Prop := bm_Wp (bm_Call bm_pg d) tb_X3_init Φ (22, [some (bm_r (some v0)), none], [], w)
def bk_X3_init_46 (d : Nat) (Φ : bm_Rt → bm_W → Prop) (v0 : Nat) (v1 : Int) (w : bm_W) : Prop := bm_Wp (bm_Call bm_pg d) tb_X3_init Φ (46, [some (bm_r (some v0)), some (bm_i v1)], [], w)
def bk_X3_init_76 (d : Nat) (Φ : bm_Rt → bm_W → Prop) (v0 : Nat) (v1 : Int) (w : bm_W) : Prop := bm_Wp (bm_Call bm_pg d) tb_X3_init Φ (76, [some (bm_r (some v0)), some (bm_i v1)], [], w)
set_option maxRecDepth 20000 in
theorem vc_X3_init {d : Nat} {Φ : bm_Rt → bm_W → Prop} {p0 : Nat} {w : bm_W} (h :
  (true = true) ∧
  (0 ≤ (6 : Int) ∧ (6 : Int) ≤ 100000) ∧
  (bm_kt (bm_nw w 24 ((6 : Int)).toNat ((6 : Int)).toNat) p0 = 3) ∧
  (0 ≤ (6 : Int) ∧ (6 : Int) ≤ 100000) ∧
  (bm_kt (bm_nw (bm_sr (bm_nw w 24 ((6 : Int)).toNat ((6 : Int)).toNat) p0 0 (some (bm_sz w))) 26 ((6 : Int)).toNat ((6 : Int)).toNat) p0 = 3) ∧
  bk_X3_init_22 d Φ p0 (bm_sr (bm_nw (bm_sr (bm_nw w 24 ((6 : Int)).toNat ((6 : Int)).toNat) p0 0 (some (bm_sz w))) 26 ((6 : Int)).toNat ((6 : Int)).toNat) p0 1 (some (bm_sz (bm_sr (bm_nw w 24 ((6 : Int)).toNat ((6 : Int)).toNat) p0 0 (some (bm_sz w))))))) : bm_Call bm_pg (d + 1) y_X3_init [bm_r (some p0)] w Φ := bm_enter rfl (bm_go (bm_Call_mono _ _) [22, 46, 76] 55 _ h)
set_option maxRecDepth 20000 in
theorem vb_X3_init_22 {d : Nat} {Φ : bm_Rt → bm_W → Prop} {v0 : Nat} {w : bm_W} (h :
  (True) ∧ bm_Call bm_pg d y_X1_init [bm_r (some (bm_sz w))] (bm_nw w 1 0 10) (fun r1 w1 => 
    bm_c5 ((bm_kt w1 v0 = 3) ∧
    (True) ∧ bm_Call bm_pg d y_X7_init [bm_r (some (bm_sz (bm_sr w1 v0 2 (some (bm_sz w)))))] (bm_nw (bm_sr w1 v0 2 (some (bm_sz w))) 7 0 7) (fun r2 w2 => 
      bm_c5 ((bm_kt w2 v0 = 3) ∧
      bk_X3_init_46 d Φ v0 (0 : Int) (bm_sr w2 v0 3 (some (bm_sz (bm_sr w1 v0 2 (some (bm_sz w))))))) r2)) r1)) : bk_X3_init_22 d Φ v0 w := bm_go (bm_Call_mono _ _) [22, 46, 76] 55 _ h
set_option maxRecDepth 20000 in
theorem vb_X3_init_46 {d : Nat} {Φ : bm_Rt → bm_W → Prop} {v0 : Nat} {v1 : Int} {w : bm_W} (h :
  (bm_kt w v0 = 3 ∧ bm_gr w v0 0 = some (bm_u (bm_gr w v0 0))) ∧
  (20 ≤ bm_kt w (bm_u (bm_gr w v0 0)) ∧ bm_kt w (bm_u (bm_gr w v0 0)) < 27) ∧
  (if (decide ((bm_kn w (bm_u (bm_gr w v0 0)) : Int) ≤ v1)) = true then
    bk_X3_init_76 d Φ v0 (0 : Int) w
  else
    (bm_kt w v0 = 3 ∧ bm_gr w v0 0 = some (bm_u (bm_gr w v0 0))) ∧
    (True) ∧ bm_Call bm_pg d y_X1_init [bm_r (some (bm_sz w))] (bm_nw w 1 0 10) (fun r1 w1 => 
      bm_c5 (((bm_kt w1 (bm_u (bm_gr w v0 0)) = 24 ∧ bm_in v1 (bm_kn w1 (bm_u (bm_gr w v0 0)))) ∧ bm_kt w1 (bm_sz w) = 1) ∧
      bk_X3_init_46 d Φ v0 (bm_w (v1 + 1)) (bm_sr w1 (bm_u (bm_gr w v0 0)) (v1).toNat (some (bm_sz w)))) r1))) : bk_X3_init_46 d Φ v0 v1 w := bm_go (bm_Call_mono _ _) [22, 46, 76] 55 _ h
set_option maxRecDepth 20000 in
theorem vb_X3_init_76 {d : Nat} {Φ : bm_Rt → bm_W → Prop} {v0 : Nat} {v1 : Int} {w : bm_W} (h :
  (bm_kt w v0 = 3 ∧ bm_gr w v0 1 = some (bm_u (bm_gr w v0 1))) ∧
  (20 ≤ bm_kt w (bm_u (bm_gr w v0 1)) ∧ bm_kt w (bm_u (bm_gr w v0 1)) < 27) ∧
  (if (decide ((bm_kn w (bm_u (bm_gr w v0 1)) : Int) ≤ v1)) = true then
    Φ (.inl none) w
  else
    (bm_kt w v0 = 3 ∧ bm_gr w v0 1 = some (bm_u (bm_gr w v0 1))) ∧
    (True) ∧ bm_Call bm_pg d y_X7_init [bm_r (some (bm_sz w))] (bm_nw w 7 0 7) (fun r1 w1 => 
      bm_c5 (((bm_kt w1 (bm_u (bm_gr w v0 1)) = 26 ∧ bm_in v1 (bm_kn w1 (bm_u (bm_gr w v0 1)))) ∧ bm_kt w1 (bm_sz w) = 7) ∧
      bk_X3_init_76 d Φ v0 (bm_w (v1 + 1)) (bm_sr w1 (bm_u (bm_gr w v0 1)) (v1).toNat (some (bm_sz w)))) r1))) : bk_X3_init_76 d Φ v0 v1 w := bm_go (bm_Call_mono _ _) [22, 46, 76] 55 _ h
/-! CaseTables$Program.clear()V -/
set_option maxRecDepth 20000 in
theorem vc_X3_clear {d : Nat} {Φ : bm_Rt → bm_W → Prop} {p0 : Nat} {w : bm_W} (h :
  (bm_kt w p0 = 3) ∧
  (bm_kt (bm_si w p0 4 (0 : Int)) p0 = 3) ∧
  (bm_kt (bm_si (bm_si w p0 4 (0 : Int)) p0 5 (0 : Int)) p0 = 3) ∧
  Φ (.inl none) (bm_si (bm_si (bm_si w p0 4 (0 : Int)) p0 5 (0 : Int)) p0 6 (0 : Int))) : bm_Call bm_pg (d + 1) y_X3_clear [bm_r (some p0)] w Φ := bm_enter rfl (bm_go (bm_Call_mono _ _) [] 12 _ h)
/-! CaseTables$Program.funAt(I)LCaseTables$Fun; -/
set_option maxRecDepth 20000 in
theorem vc_X3_funAt {d : Nat} {Φ : bm_Rt → bm_W → Prop} {p0 : Nat} {p1 : Int} {w : bm_W} (h :
  (if (decide (p1 < 0)) = true then
    (if (((none : Option Nat)).isSome) = true then
      Φ (.inl (some (bm_r (none : Option Nat)))) w
    else
      (bm_kt w p0 = 3 ∧ bm_gr w p0 2 = some (bm_u (bm_gr w p0 2))) ∧
      Φ (.inl (some (bm_r (some (bm_u (bm_gr w p0 2)))))) w)
  else
    (bm_kt w p0 = 3 ∧ bm_gr w p0 0 = some (bm_u (bm_gr w p0 0))) ∧
    (20 ≤ bm_kt w (bm_u (bm_gr w p0 0)) ∧ bm_kt w (bm_u (bm_gr w p0 0)) < 27) ∧
    (if (decide ((bm_kn w (bm_u (bm_gr w p0 0)) : Int) ≤ p1)) = true then
      (if (((none : Option Nat)).isSome) = true then
        Φ (.inl (some (bm_r (none : Option Nat)))) w
      else
        (bm_kt w p0 = 3 ∧ bm_gr w p0 2 = some (bm_u (bm_gr w p0 2))) ∧
        Φ (.inl (some (bm_r (some (bm_u (bm_gr w p0 2)))))) w)
    else
      (bm_kt w p0 = 3 ∧ bm_gr w p0 0 = some (bm_u (bm_gr w p0 0))) ∧
      (bm_kt w (bm_u (bm_gr w p0 0)) = 24 ∧ bm_in p1 (bm_kn w (bm_u (bm_gr w p0 0)))) ∧
      (if (((bm_gr w (bm_u (bm_gr w p0 0)) (p1).toNat)).isSome) = true then
        Φ (.inl (some (bm_r (bm_gr w (bm_u (bm_gr w p0 0)) (p1).toNat)))) w
      else
        (bm_kt w p0 = 3 ∧ bm_gr w p0 2 = some (bm_u (bm_gr w p0 2))) ∧
        Φ (.inl (some (bm_r (some (bm_u (bm_gr w p0 2)))))) w)))) : bm_Call bm_pg (d + 1) y_X3_funAt [bm_r (some p0), bm_i p1] w Φ := bm_enter rfl (bm_go (bm_Call_mono _ _) [] 23 _ h)
/-! CaseTables$Program.tableAt(I)LCaseTables$Table; -/
set_option maxRecDepth 20000 in
theorem vc_X3_tableAt {d : Nat} {Φ : bm_Rt → bm_W → Prop} {p0 : Nat} {p1 : Int} {w : bm_W} (h :
  (if (decide (p1 < 0)) = true then
    (if (((none : Option Nat)).isSome) = true then
      Φ (.inl (some (bm_r (none : Option Nat)))) w
    else
      (bm_kt w p0 = 3 ∧ bm_gr w p0 3 = some (bm_u (bm_gr w p0 3))) ∧
      Φ (.inl (some (bm_r (some (bm_u (bm_gr w p0 3)))))) w)
  else
    (bm_kt w p0 = 3 ∧ bm_gr w p0 1 = some (bm_u (bm_gr w p0 1))) ∧
    (20 ≤ bm_kt w (bm_u (bm_gr w p0 1)) ∧ bm_kt w (bm_u (bm_gr w p0 1)) < 27) ∧
    (if (decide ((bm_kn w (bm_u (bm_gr w p0 1)) : Int) ≤ p1)) = true then
      (if (((none : Option Nat)).isSome) = true then
        Φ (.inl (some (bm_r (none : Option Nat)))) w
      else
        (bm_kt w p0 = 3 ∧ bm_gr w p0 3 = some (bm_u (bm_gr w p0 3))) ∧
        Φ (.inl (some (bm_r (some (bm_u (bm_gr w p0 3)))))) w)
    else
      (bm_kt w p0 = 3 ∧ bm_gr w p0 1 = some (bm_u (bm_gr w p0 1))) ∧
      (bm_kt w (bm_u (bm_gr w p0 1)) = 26 ∧ bm_in p1 (bm_kn w (bm_u (bm_gr w p0 1)))) ∧
      (if (((bm_gr w (bm_u (bm_gr w p0 1)) (p1).toNat)).isSome) = true then
        Φ (.inl (some (bm_r (bm_gr w (bm_u (bm_gr w p0 1)) (p1).toNat)))) w
      else
        (bm_kt w p0 = 3 ∧ bm_gr w p0 3 = some (bm_u (bm_gr w p0 3))) ∧
        Φ (.inl (some (bm_r (some (bm_u (bm_gr w p0 3)))))) w)))) : bm_Call bm_pg (d + 1) y_X3_tableAt [bm_r (some p0), bm_i p1] w Φ := bm_enter rfl (bm_go (bm_Call_mono _ _) [] 23 _ h)
/-! CaseTables$Program.nextFun()LCaseTables$Fun; -/
set_option maxRecDepth 20000 in
theorem vc_X3_nextFun {d : Nat} {Φ : bm_Rt → bm_W → Prop} {p0 : Nat} {w : bm_W} (h :
  (bm_kt w p0 = 3) ∧
  (bm_kt w p0 = 3) ∧ bm_Call bm_pg d y_X3_funAt [bm_r (some p0), bm_i (bm_gi w p0 4)] w (fun r1 w1 => 
    bm_c3 (fun x1 => (bm_kt w1 x1 = 1) ∧ bm_Call bm_pg d y_X1_clear [bm_r (some x1)] w1 (fun r2 w2 => 
      bm_c0 (Φ (.inl (some (bm_r (some x1)))) w2) (fun E => Φ (.inr E) w2) r2)) (fun E => Φ (.inr E) w1) r1)) : bm_Call bm_pg (d + 1) y_X3_nextFun [bm_r (some p0)] w Φ := bm_enter rfl (bm_go (bm_Call_mono _ _) [] 11 _ h)
/-! CaseTables$Program.keepFun()V -/
set_option maxRecDepth 20000 in
theorem vc_X3_keepFun {d : Nat} {Φ : bm_Rt → bm_W → Prop} {p0 : Nat} {w : bm_W} (h :
  (bm_kt w p0 = 3) ∧
  (if (decide ((6 : Int) ≤ (bm_gi w p0 4))) = true then
    Φ (.inl none) w
  else
    (bm_kt w p0 = 3) ∧
    (bm_kt w p0 = 3) ∧
    Φ (.inl none) (bm_si w p0 4 (bm_w ((bm_gi w p0 4) + (1 : Int)))))) : bm_Call bm_pg (d + 1) y_X3_keepFun [bm_r (some p0)] w Φ := bm_enter rfl (bm_go (bm_Call_mono _ _) [] 13 _ h)
/-! CaseTables$Program.nextTable()LCaseTables$Table; -/
set_option maxRecDepth 20000 in
theorem vc_X3_nextTable {d : Nat} {Φ : bm_Rt → bm_W → Prop} {p0 : Nat} {w : bm_W} (h :
  (bm_kt w p0 = 3) ∧
  (bm_kt w p0 = 3) ∧ bm_Call bm_pg d y_X3_tableAt [bm_r (some p0), bm_i (bm_gi w p0 5)] w (fun r1 w1 => 
    bm_c3 (fun x1 => (bm_kt w1 x1 = 7) ∧ bm_Call bm_pg d y_X7_clear [bm_r (some x1)] w1 (fun r2 w2 => 
      bm_c0 (Φ (.inl (some (bm_r (some x1)))) w2) (fun E => Φ (.inr E) w2) r2)) (fun E => Φ (.inr E) w1) r1)) : bm_Call bm_pg (d + 1) y_X3_nextTable [bm_r (some p0)] w Φ := bm_enter rfl (bm_go (bm_Call_mono _ _) [] 11 _ h)
/-! CaseTables$Program.keepTable()V -/
set_option maxRecDepth 20000 in
theorem vc_X3_keepTable {d : Nat} {Φ : bm_Rt → bm_W → Prop} {p0 : Nat} {w : bm_W} (h :
  (bm_kt w p0 = 3) ∧
  (if (decide ((6 : Int) ≤ (bm_gi w p0 5))) = true then
    Φ (.inl none) w
  else
    (bm_kt w p0 = 3) ∧
    (bm_kt w p0 = 3) ∧
    Φ (.inl none) (bm_si w p0 5 (bm_w ((bm_gi w p0 5) + (1 : Int)))))) : bm_Call bm_pg (d + 1) y_X3_keepTable [bm_r (some p0)] w Φ := bm_enter rfl (bm_go (bm_Call_mono _ _) [] 13 _ h)
/-! CaseTables$Program.nextIf()I -/
set_option maxRecDepth 20000 in
theorem vc_X3_nextIf {d : Nat} {Φ : bm_Rt → bm_W → Prop} {p0 : Nat} {w : bm_W} (h :
  (bm_kt w p0 = 3) ∧
  (bm_kt w p0 = 3) ∧
  (bm_kt (bm_si w p0 6 (bm_w ((bm_gi w p0 6) + (1 : Int)))) p0 = 3) ∧
  Φ (.inl (some (bm_i (bm_w ((bm_gi (bm_si w p0 6 (bm_w ((bm_gi w p0 6) + (1 : Int)))) p0 6) - (1 : Int)))))) (bm_si w p0 6 (bm_w ((bm_gi w p0 6) + (1 : Int))))) : bm_Call bm_pg (d + 1) y_X3_nextIf [bm_r (some p0)] w Φ := bm_enter rfl (bm_go (bm_Call_mono _ _) [] 13 _ h)
/-! CaseTables$Program.funNamed(J)I -/
def bk_X3_funNamed_2 (d : Nat) (Φ : bm_Rt → bm_W → Prop) (v0 : Nat) (v1 : Int) (v3 : Int) (w : bm_W) : Prop := bm_Wp (bm_Call bm_pg d) tb_X3_funNamed Φ (2, [some (bm_r (some v0)), some (bm_l v1), none, some (bm_i v3)], [], w)
set_option maxRecDepth 20000 in
theorem vc_X3_funNamed {d : Nat} {Φ : bm_Rt → bm_W → Prop} {p0 : Nat} {p1 : Int} {w : bm_W} (h :
  bk_X3_funNamed_2 d Φ p0 p1 (0 : Int) w) : bm_Call bm_pg (d + 1) y_X3_funNamed [bm_r (some p0), bm_l p1] w Φ := bm_enter rfl (bm_go (bm_Call_mono _ _) [2] 20 _ h)
set_option maxRecDepth 20000 in
theorem vb_X3_funNamed_2 {d : Nat} {Φ : bm_Rt → bm_W → Prop} {v0 : Nat} {v1 : Int} {v3 : Int} {w : bm_W} (h :
  (bm_kt w v0 = 3) ∧
  (if (decide ((bm_gi w v0 4) ≤ v3)) = true then
    Φ (.inl (some (bm_i (-1 : Int)))) w
  else
    (bm_kt w v0 = 3) ∧ bm_Call bm_pg d y_X3_funAt [bm_r (some v0), bm_i v3] w (fun r1 w1 => 
      bm_c3 (fun x1 => (bm_kt w1 x1 = 1) ∧
      (if (!decide ((bm_gl w1 x1 5) = v1)) = true then
        bk_X3_funNamed_2 d Φ v0 v1 (bm_w (v3 + 1)) w1
      else
        Φ (.inl (some (bm_i v3))) w1)) (fun E => Φ (.inr E) w1) r1))) : bk_X3_funNamed_2 d Φ v0 v1 v3 w := bm_go (bm_Call_mono _ _) [2] 20 _ h
/-! CaseTables$Program.hasItem(J)Z -/
def bk_X3_hasItem_2 (d : Nat) (Φ : bm_Rt → bm_W → Prop) (v0 : Nat) (v1 : Int) (v3 : Int) (w : bm_W) : Prop := bm_Wp (bm_Call bm_pg d) tb_X3_hasItem Φ (2, [some (bm_r (some v0)), some (bm_l v1), none, some (bm_i v3)], [], w)
set_option maxRecDepth 20000 in
theorem vc_X3_hasItem {d : Nat} {Φ : bm_Rt → bm_W → Prop} {p0 : Nat} {p1 : Int} {w : bm_W} (h :
  bk_X3_hasItem_2 d Φ p0 p1 (0 : Int) w) : bm_Call bm_pg (d + 1) y_X3_hasItem [bm_r (some p0), bm_l p1] w Φ := bm_enter rfl (bm_go (bm_Call_mono _ _) [2] 26 _ h)
set_option maxRecDepth 20000 in
theorem vb_X3_hasItem_2 {d : Nat} {Φ : bm_Rt → bm_W → Prop} {v0 : Nat} {v1 : Int} {v3 : Int} {w : bm_W} (h :
  (bm_kt w v0 = 3) ∧
  (if (decide ((bm_gi w v0 5) ≤ v3)) = true then
    (bm_kt w v0 = 3) ∧ bm_Call bm_pg d y_X3_funNamed [bm_r (some v0), bm_l v1] w (fun r1 w1 => 
      bm_c1 (fun x1 => (if (decide (x1 < 0)) = true then
        ((0 : Int) = 0 ∨ (0 : Int) = 1) ∧ Φ (.inl (some (bm_i (0 : Int)))) w1
      else
        ((1 : Int) = 0 ∨ (1 : Int) = 1) ∧ Φ (.inl (some (bm_i (1 : Int)))) w1)) (fun E => Φ (.inr E) w1) r1)
  else
    (bm_kt w v0 = 3) ∧ bm_Call bm_pg d y_X3_tableAt [bm_r (some v0), bm_i v3] w (fun r2 w2 => 
      bm_c3 (fun x2 => (bm_kt w2 x2 = 7) ∧
      (if (!decide ((bm_gl w2 x2 3) = v1)) = true then
        bk_X3_hasItem_2 d Φ v0 v1 (bm_w (v3 + 1)) w2
      else
        ((1 : Int) = 0 ∨ (1 : Int) = 1) ∧ Φ (.inl (some (bm_i (1 : Int)))) w2)) (fun E => Φ (.inr E) w2) r2))) : bk_X3_hasItem_2 d Φ v0 v1 v3 w := bm_go (bm_Call_mono _ _) [2] 26 _ h
/-! CaseTables$Program.tablesOf(I)I -/
def bk_X3_tablesOf_4 (d : Nat) (Φ : bm_Rt → bm_W → Prop) (v0 : Nat) (v1 : Int) (v2 : Int) (v3 : Int) (w : bm_W) : Prop := bm_Wp (bm_Call bm_pg d) tb_X3_tablesOf Φ (4, [some (bm_r (some v0)), some (bm_i v1), some (bm_i v2), some (bm_i v3)], [], w)
set_option maxRecDepth 20000 in
theorem vc_X3_tablesOf {d : Nat} {Φ : bm_Rt → bm_W → Prop} {p0 : Nat} {p1 : Int} {w : bm_W} (h :
  bk_X3_tablesOf_4 d Φ p0 p1 (0 : Int) (0 : Int) w) : bm_Call bm_pg (d + 1) y_X3_tablesOf [bm_r (some p0), bm_i p1] w Φ := bm_enter rfl (bm_go (bm_Call_mono _ _) [4] 21 _ h)
set_option maxRecDepth 20000 in
theorem vb_X3_tablesOf_4 {d : Nat} {Φ : bm_Rt → bm_W → Prop} {v0 : Nat} {v1 : Int} {v2 : Int} {v3 : Int} {w : bm_W} (h :
  (bm_kt w v0 = 3) ∧
  (if (decide ((bm_gi w v0 5) ≤ v3)) = true then
    Φ (.inl (some (bm_i v2))) w
  else
    (bm_kt w v0 = 3) ∧ bm_Call bm_pg d y_X3_tableAt [bm_r (some v0), bm_i v3] w (fun r1 w1 => 
      bm_c3 (fun x1 => (bm_kt w1 x1 = 7) ∧
      (if (!decide ((bm_gi w1 x1 4) = v1)) = true then
        bk_X3_tablesOf_4 d Φ v0 v1 v2 (bm_w (v3 + 1)) w1
      else
        bk_X3_tablesOf_4 d Φ v0 v1 (bm_w (v2 + 1)) (bm_w (v3 + 1)) w1)) (fun E => Φ (.inr E) w1) r1))) : bk_X3_tablesOf_4 d Φ v0 v1 v2 v3 w := bm_go (bm_Call_mono _ _) [4] 21 _ h
/-! CaseTables$Program.caseCount()I -/
def bk_X3_caseCount_4 (d : Nat) (Φ : bm_Rt → bm_W → Prop) (v0 : Nat) (v1 : Int) (v2 : Int) (w : bm_W) : Prop := bm_Wp (bm_Call bm_pg d) tb_X3_caseCount Φ (4, [some (bm_r (some v0)), some (bm_i v1), some (bm_i v2)], [], w)
set_option maxRecDepth 20000 in
theorem vc_X3_caseCount {d : Nat} {Φ : bm_Rt → bm_W → Prop} {p0 : Nat} {w : bm_W} (h :
  bk_X3_caseCount_4 d Φ p0 (0 : Int) (0 : Int) w) : bm_Call bm_pg (d + 1) y_X3_caseCount [bm_r (some p0)] w Φ := bm_enter rfl (bm_go (bm_Call_mono _ _) [4] 21 _ h)
set_option maxRecDepth 20000 in
theorem vb_X3_caseCount_4 {d : Nat} {Φ : bm_Rt → bm_W → Prop} {v0 : Nat} {v1 : Int} {v2 : Int} {w : bm_W} (h :
  (bm_kt w v0 = 3) ∧
  (if (decide ((bm_gi w v0 5) ≤ v2)) = true then
    Φ (.inl (some (bm_i v1))) w
  else
    (bm_kt w v0 = 3) ∧ bm_Call bm_pg d y_X3_tableAt [bm_r (some v0), bm_i v2] w (fun r1 w1 => 
      bm_c3 (fun x1 => (bm_kt w1 x1 = 7) ∧
      bk_X3_caseCount_4 d Φ v0 (bm_w (v1 + (bm_gi w1 x1 6))) (bm_w (v2 + 1)) w1) (fun E => Φ (.inr E) w1) r1))) : bk_X3_caseCount_4 d Φ v0 v1 v2 w := bm_go (bm_Call_mono _ _) [4] 21 _ h
/-! CaseTables$Ranges.<init>()V -/
def bk_X4_init_18 (d : Nat) (Φ : bm_Rt → bm_W → Prop)  (w : bm_W) : Prop := bm_Wp (bm_Call bm_pg d) tb_X4_init Φ (18, [none], [], w)
set_option maxRecDepth 20000 in
theorem vc_X4_init {d : Nat} {Φ : bm_Rt → bm_W → Prop} {p0 : Nat} {w : bm_W} (h :
  (true = true) ∧
  (0 ≤ (3 : Int) ∧ (3 : Int) ≤ 100000) ∧
  (bm_kt (bm_nw w 21 ((3 : Int)).toNat ((3 : Int)).toNat) p0 = 4) ∧
  (0 ≤ (3 : Int) ∧ (3 : Int) ≤ 100000) ∧
  (bm_kt (bm_nw (bm_sr (bm_nw w 21 ((3 : Int)).toNat ((3 : Int)).toNat) p0 0 (some (bm_sz w))) 21 ((3 : Int)).toNat ((3 : Int)).toNat) p0 = 4) ∧
  bk_X4_init_18 d Φ  (bm_sr (bm_nw (bm_sr (bm_nw w 21 ((3 : Int)).toNat ((3 : Int)).toNat) p0 0 (some (bm_sz w))) 21 ((3 : Int)).toNat ((3 : Int)).toNat) p0 1 (some (bm_sz (bm_sr (bm_nw w 21 ((3 : Int)).toNat ((3 : Int)).toNat) p0 0 (some (bm_sz w))))))) : bm_Call bm_pg (d + 1) y_X4_init [bm_r (some p0)] w Φ := bm_enter rfl (bm_go (bm_Call_mono _ _) [18] 13 _ h)
set_option maxRecDepth 20000 in
theorem vb_X4_init_18 {d : Nat} {Φ : bm_Rt → bm_W → Prop}  {w : bm_W} (h :
  Φ (.inl none) w) : bk_X4_init_18 d Φ  w := bm_go (bm_Call_mono _ _) [18] 13 _ h
/-! CaseTables$Ranges.clear()V -/
def bk_X4_clear_2 (d : Nat) (Φ : bm_Rt → bm_W → Prop) (v0 : Nat) (v1 : Int) (w : bm_W) : Prop := bm_Wp (bm_Call bm_pg d) tb_X4_clear Φ (2, [some (bm_r (some v0)), some (bm_i v1)], [], w)
set_option maxRecDepth 20000 in
theorem vc_X4_clear {d : Nat} {Φ : bm_Rt → bm_W → Prop} {p0 : Nat} {w : bm_W} (h :
  bk_X4_clear_2 d Φ p0 (0 : Int) w) : bm_Call bm_pg (d + 1) y_X4_clear [bm_r (some p0)] w Φ := bm_enter rfl (bm_go (bm_Call_mono _ _) [2] 15 _ h)
set_option maxRecDepth 20000 in
theorem vb_X4_clear_2 {d : Nat} {Φ : bm_Rt → bm_W → Prop} {v0 : Nat} {v1 : Int} {w : bm_W} (h :
  (if (decide ((3 : Int) ≤ v1)) = true then
    Φ (.inl none) w
  else
    (bm_kt w v0 = 4) ∧ bm_Call bm_pg d y_X4_put [bm_r (some v0), bm_i v1, bm_i (0 : Int), bm_i (0 : Int)] w (fun r1 w1 => 
      bm_c0 (bk_X4_clear_2 d Φ v0 (bm_w (v1 + 1)) w1) (fun E => Φ (.inr E) w1) r1))) : bk_X4_clear_2 d Φ v0 v1 w := bm_go (bm_Call_mono _ _) [2] 15 _ h
/-! CaseTables$Ranges.put(III)V -/
set_option maxRecDepth 20000 in
theorem vc_X4_put {d : Nat} {Φ : bm_Rt → bm_W → Prop} {p0 : Nat} {p1 : Int} {p2 : Int} {p3 : Int} {w : bm_W} (h :
  (if (decide (p1 < 0)) = true then
    Φ (.inl none) w
  else
    (bm_kt w p0 = 4 ∧ bm_gr w p0 0 = some (bm_u (bm_gr w p0 0))) ∧
    (20 ≤ bm_kt w (bm_u (bm_gr w p0 0)) ∧ bm_kt w (bm_u (bm_gr w p0 0)) < 27) ∧
    (if (decide ((bm_kn w (bm_u (bm_gr w p0 0)) : Int) ≤ p1)) = true then
      Φ (.inl none) w
    else
      (bm_kt w p0 = 4 ∧ bm_gr w p0 1 = some (bm_u (bm_gr w p0 1))) ∧
      (20 ≤ bm_kt w (bm_u (bm_gr w p0 1)) ∧ bm_kt w (bm_u (bm_gr w p0 1)) < 27) ∧
      (if (decide ((bm_kn w (bm_u (bm_gr w p0 1)) : Int) ≤ p1)) = true then
        Φ (.inl none) w
      else
        (bm_kt w p0 = 4 ∧ bm_gr w p0 0 = some (bm_u (bm_gr w p0 0))) ∧
        (bm_kt w (bm_u (bm_gr w p0 0)) = 21 ∧ bm_in p1 (bm_kn w (bm_u (bm_gr w p0 0)))) ∧
        (bm_kt (bm_si w (bm_u (bm_gr w p0 0)) (p1).toNat p2) p0 = 4 ∧ bm_gr (bm_si w (bm_u (bm_gr w p0 0)) (p1).toNat p2) p0 1 = some (bm_u (bm_gr (bm_si w (bm_u (bm_gr w p0 0)) (p1).toNat p2) p0 1))) ∧
        (bm_kt (bm_si w (bm_u (bm_gr w p0 0)) (p1).toNat p2) (bm_u (bm_gr (bm_si w (bm_u (bm_gr w p0 0)) (p1).toNat p2) p0 1)) = 21 ∧ bm_in p1 (bm_kn (bm_si w (bm_u (bm_gr w p0 0)) (p1).toNat p2) (bm_u (bm_gr (bm_si w (bm_u (bm_gr w p0 0)) (p1).toNat p2) p0 1)))) ∧
        Φ (.inl none) (bm_si (bm_si w (bm_u (bm_gr w p0 0)) (p1).toNat p2) (bm_u (bm_gr (bm_si w (bm_u (bm_gr w p0 0)) (p1).toNat p2) p0 1)) (p1).toNat p3))))) : bm_Call bm_pg (d + 1) y_X4_put [bm_r (some p0), bm_i p1, bm_i p2, bm_i p3] w Φ := bm_enter rfl (bm_go (bm_Call_mono _ _) [] 25 _ h)
/-! CaseTables$Ranges.low(I)I -/
set_option maxRecDepth 20000 in
theorem vc_X4_low {d : Nat} {Φ : bm_Rt → bm_W → Prop} {p0 : Nat} {p1 : Int} {w : bm_W} (h :
  (if (decide (p1 < 0)) = true then
    Φ (.inl (some (bm_i (0 : Int)))) w
  else
    (bm_kt w p0 = 4 ∧ bm_gr w p0 0 = some (bm_u (bm_gr w p0 0))) ∧
    (20 ≤ bm_kt w (bm_u (bm_gr w p0 0)) ∧ bm_kt w (bm_u (bm_gr w p0 0)) < 27) ∧
    (if (decide ((bm_kn w (bm_u (bm_gr w p0 0)) : Int) ≤ p1)) = true then
      Φ (.inl (some (bm_i (0 : Int)))) w
    else
      (bm_kt w p0 = 4 ∧ bm_gr w p0 0 = some (bm_u (bm_gr w p0 0))) ∧
      (bm_kt w (bm_u (bm_gr w p0 0)) = 21 ∧ bm_in p1 (bm_kn w (bm_u (bm_gr w p0 0)))) ∧
      Φ (.inl (some (bm_i (bm_gi w (bm_u (bm_gr w p0 0)) (p1).toNat)))) w))) : bm_Call bm_pg (d + 1) y_X4_low [bm_r (some p0), bm_i p1] w Φ := bm_enter rfl (bm_go (bm_Call_mono _ _) [] 16 _ h)
/-! CaseTables$Ranges.high(I)I -/
set_option maxRecDepth 20000 in
theorem vc_X4_high {d : Nat} {Φ : bm_Rt → bm_W → Prop} {p0 : Nat} {p1 : Int} {w : bm_W} (h :
  (if (decide (p1 < 0)) = true then
    Φ (.inl (some (bm_i (0 : Int)))) w
  else
    (bm_kt w p0 = 4 ∧ bm_gr w p0 1 = some (bm_u (bm_gr w p0 1))) ∧
    (20 ≤ bm_kt w (bm_u (bm_gr w p0 1)) ∧ bm_kt w (bm_u (bm_gr w p0 1)) < 27) ∧
    (if (decide ((bm_kn w (bm_u (bm_gr w p0 1)) : Int) ≤ p1)) = true then
      Φ (.inl (some (bm_i (0 : Int)))) w
    else
      (bm_kt w p0 = 4 ∧ bm_gr w p0 1 = some (bm_u (bm_gr w p0 1))) ∧
      (bm_kt w (bm_u (bm_gr w p0 1)) = 21 ∧ bm_in p1 (bm_kn w (bm_u (bm_gr w p0 1)))) ∧
      Φ (.inl (some (bm_i (bm_gi w (bm_u (bm_gr w p0 1)) (p1).toNat)))) w))) : bm_Call bm_pg (d + 1) y_X4_high [bm_r (some p0), bm_i p1] w Φ := bm_enter rfl (bm_go (bm_Call_mono _ _) [] 16 _ h)
/-! CaseTables$Ranges.width(I)I -/
set_option maxRecDepth 20000 in
theorem vc_X4_width {d : Nat} {Φ : bm_Rt → bm_W → Prop} {p0 : Nat} {p1 : Int} {w : bm_W} (h :
  (bm_kt w p0 = 4) ∧ bm_Call bm_pg d y_X4_high [bm_r (some p0), bm_i p1] w (fun r1 w1 => 
    bm_c1 (fun x1 => (bm_kt w1 p0 = 4) ∧ bm_Call bm_pg d y_X4_low [bm_r (some p0), bm_i p1] w1 (fun r2 w2 => 
      bm_c1 (fun x2 => Φ (.inl (some (bm_i (bm_w ((bm_w (x1 - x2)) + (1 : Int)))))) w2) (fun E => Φ (.inr E) w2) r2)) (fun E => Φ (.inr E) w1) r1)) : bm_Call bm_pg (d + 1) y_X4_width [bm_r (some p0), bm_i p1] w Φ := bm_enter rfl (bm_go (bm_Call_mono _ _) [] 12 _ h)
/-! CaseTables$Ranges.rowCount()I -/
set_option maxRecDepth 20000 in
theorem vc_X4_rowCount {d : Nat} {Φ : bm_Rt → bm_W → Prop} {p0 : Nat} {w : bm_W} (h :
  (bm_kt w p0 = 4) ∧ bm_Call bm_pg d y_X4_width [bm_r (some p0), bm_i (0 : Int)] w (fun r1 w1 => 
    bm_c1 (fun x1 => (bm_kt w1 p0 = 4) ∧ bm_Call bm_pg d y_X4_width [bm_r (some p0), bm_i (1 : Int)] w1 (fun r2 w2 => 
      bm_c1 (fun x2 => (bm_kt w2 p0 = 4) ∧ bm_Call bm_pg d y_X4_width [bm_r (some p0), bm_i (2 : Int)] w2 (fun r3 w3 => 
        bm_c1 (fun x3 => Φ (.inl (some (bm_i (bm_w ((bm_w (x1 * x2)) * x3))))) w3) (fun E => Φ (.inr E) w3) r3)) (fun E => Φ (.inr E) w2) r2)) (fun E => Φ (.inr E) w1) r1)) : bm_Call bm_pg (d + 1) y_X4_rowCount [bm_r (some p0)] w Φ := bm_enter rfl (bm_go (bm_Call_mono _ _) [] 14 _ h)
/-! CaseTables$Ranges.valueAt(II)I -/
def bk_X4_valueAt_7 (d : Nat) (Φ : bm_Rt → bm_W → Prop) (v0 : Nat) (v1 : Int) (v2 : Int) (v3 : Int) (v4 : Int) (w : bm_W) : Prop := bm_Wp (bm_Call bm_pg d) tb_X4_valueAt Φ (7, [some (bm_r (some v0)), some (bm_i v1), some (bm_i v2), some (bm_i v3), some (bm_i v4)], [], w)
set_option maxRecDepth 20000 in
theorem vc_X4_valueAt {d : Nat} {Φ : bm_Rt → bm_W → Prop} {p0 : Nat} {p1 : Int} {p2 : Int} {w : bm_W} (h :
  bk_X4_valueAt_7 d Φ p0 p1 p2 (1 : Int) (bm_w (p2 + (1 : Int))) w) : bm_Call bm_pg (d + 1) y_X4_valueAt [bm_r (some p0), bm_i p1, bm_i p2] w Φ := bm_enter rfl (bm_go (bm_Call_mono _ _) [7] 41 _ h)
set_option maxRecDepth 20000 in
theorem vb_X4_valueAt_7 {d : Nat} {Φ : bm_Rt → bm_W → Prop} {v0 : Nat} {v1 : Int} {v2 : Int} {v3 : Int} {v4 : Int} {w : bm_W} (h :
  (if (decide ((3 : Int) ≤ v4)) = true then
    (bm_kt w v0 = 4) ∧ bm_Call bm_pg d y_X4_width [bm_r (some v0), bm_i v2] w (fun r1 w1 => 
      bm_c1 (fun x1 => (if (decide (v3 < (1 : Int))) = true then
        Φ (.inl (some (bm_i (0 : Int)))) w1
      else
        (if (decide ((1 : Int) ≤ x1)) = true then
          (bm_kt w1 v0 = 4) ∧ bm_Call bm_pg d y_X4_low [bm_r (some v0), bm_i v2] w1 (fun r2 w2 => 
            bm_c1 (fun x2 => (¬ v3 = 0) ∧
            (¬ x1 = 0) ∧
            Φ (.inl (some (bm_i (bm_w (x2 + (bm_w ((bm_w (v1.tdiv v3)).tmod x1))))))) w2) (fun E => Φ (.inr E) w2) r2)
        else
          Φ (.inl (some (bm_i (0 : Int)))) w1))) (fun E => Φ (.inr E) w1) r1)
  else
    (bm_kt w v0 = 4) ∧ bm_Call bm_pg d y_X4_width [bm_r (some v0), bm_i v4] w (fun r3 w3 => 
      bm_c1 (fun x3 => bk_X4_valueAt_7 d Φ v0 v1 v2 (bm_w (v3 * x3)) (bm_w (v4 + 1)) w3) (fun E => Φ (.inr E) w3) r3))) : bk_X4_valueAt_7 d Φ v0 v1 v2 v3 v4 w := bm_go (bm_Call_mono _ _) [7] 41 _ h
/-! CaseTables$Row.<init>()V -/
set_option maxRecDepth 20000 in
theorem vc_X5_init {d : Nat} {Φ : bm_Rt → bm_W → Prop} {p0 : Nat} {w : bm_W} (h :
  (true = true) ∧
  (True) ∧ bm_Call bm_pg d y_X4_init [bm_r (some (bm_sz w))] (bm_nw w 4 0 2) (fun r1 w1 => 
    bm_c5 ((bm_kt w1 p0 = 5) ∧
    Φ (.inl none) (bm_sr w1 p0 0 (some (bm_sz w)))) r1)) : bm_Call bm_pg (d + 1) y_X5_init [bm_r (some p0)] w Φ := bm_enter rfl (bm_go (bm_Call_mono _ _) [] 10 _ h)
/-! CaseTables$Row.clear()V -/
set_option maxRecDepth 20000 in
theorem vc_X5_clear {d : Nat} {Φ : bm_Rt → bm_W → Prop} {p0 : Nat} {w : bm_W} (h :
  (bm_kt w p0 = 5 ∧ bm_gr w p0 0 = some (bm_u (bm_gr w p0 0))) ∧
  (bm_kt w (bm_u (bm_gr w p0 0)) = 4) ∧ bm_Call bm_pg d y_X4_clear [bm_r (some (bm_u (bm_gr w p0 0)))] w (fun r1 w1 => 
    bm_c0 ((bm_kt w1 p0 = 5) ∧
    (bm_kt (bm_si w1 p0 1 (14 : Int)) p0 = 5) ∧
    (bm_kt (bm_sq (bm_si w1 p0 1 (14 : Int)) p0 2 (0 : Int)) p0 = 5 ∧ ((0 : Int) = 0 ∨ (0 : Int) = 1)) ∧
    Φ (.inl none) (bm_si (bm_sq (bm_si w1 p0 1 (14 : Int)) p0 2 (0 : Int)) p0 4 (0 : Int))) (fun E => Φ (.inr E) w1) r1)) : bm_Call bm_pg (d + 1) y_X5_clear [bm_r (some p0)] w Φ := bm_enter rfl (bm_go (bm_Call_mono _ _) [] 15 _ h)
/-! CaseTables$Row.admits(ZJ)Z -/
set_option maxRecDepth 20000 in
theorem vc_X5_admits {d : Nat} {Φ : bm_Rt → bm_W → Prop} {p0 : Nat} {p1 : Int} {p2 : Int} {w : bm_W} (h :
  (bm_kt w p0 = 5) ∧
  (if (!decide ((bm_gi w p0 1) = (15 : Int))) = true then
    (if (!decide (p1 = 0)) = true then
      ((0 : Int) = 0 ∨ (0 : Int) = 1) ∧ Φ (.inl (some (bm_i (0 : Int)))) w
    else
      (bm_kt w p0 = 5) ∧
      (if (decide ((bm_gi w p0 1) = (14 : Int))) = true then
        ((1 : Int) = 0 ∨ (1 : Int) = 1) ∧ Φ (.inl (some (bm_i (1 : Int)))) w
      else
        (bm_kt w p0 = 5) ∧
        (bm_kt w p0 = 5) ∧
        (True) ∧ bm_Call bm_pg d y_X11_isRelated [bm_i (bm_gi w p0 1), bm_l p2, bm_l (bm_gl w p0 2)] w (fun r1 w1 => 
          bm_c1 (fun x1 => (if (decide (x1 = 0)) = true then
            ((0 : Int) = 0 ∨ (0 : Int) = 1) ∧ Φ (.inl (some (bm_i (0 : Int)))) w1
          else
            ((1 : Int) = 0 ∨ (1 : Int) = 1) ∧ Φ (.inl (some (bm_i (1 : Int)))) w1)) (fun _ => False) r1)))
  else
    (p1 = 0 ∨ p1 = 1) ∧ Φ (.inl (some (bm_i p1))) w)) : bm_Call bm_pg (d + 1) y_X5_admits [bm_r (some p0), bm_i p1, bm_l p2] w Φ := bm_enter rfl (bm_go (bm_Call_mono _ _) [] 25 _ h)
/-! CaseTables$Runner.<init>(LCaseTables$Program;LCaseTables$Machine;)V -/
set_option maxRecDepth 20000 in
theorem vc_X6_init {d : Nat} {Φ : bm_Rt → bm_W → Prop} {p0 : Nat} {p1 : Nat} {p2 : Nat} {w : bm_W} (h :
  (true = true) ∧
  (bm_kt w p0 = 6) ∧
  (bm_kt (bm_sr w p0 0 (some p1)) p0 = 6) ∧
  Φ (.inl none) (bm_sr (bm_sr w p0 0 (some p1)) p0 1 (some p2))) : bm_Call bm_pg (d + 1) y_X6_init [bm_r (some p0), bm_r (some p1), bm_r (some p2)] w Φ := bm_enter rfl (bm_go (bm_Call_mono _ _) [] 11 _ h)
/-! CaseTables$Runner.forget()V -/
set_option maxRecDepth 20000 in
theorem vc_X6_forget {d : Nat} {Φ : bm_Rt → bm_W → Prop} {p0 : Nat} {w : bm_W} (h :
  (bm_kt w p0 = 6 ∧ ((0 : Int) = 0 ∨ (0 : Int) = 1)) ∧
  Φ (.inl none) (bm_si w p0 2 (0 : Int))) : bm_Call bm_pg (d + 1) y_X6_forget [bm_r (some p0)] w Φ := bm_enter rfl (bm_go (bm_Call_mono _ _) [] 6 _ h)
/-! CaseTables$Runner.refresh()V -/
def bk_X6_refresh_22 (d : Nat) (Φ : bm_Rt → bm_W → Prop) (v0 : Nat) (v1 : Int) (w : bm_W) : Prop := bm_Wp (bm_Call bm_pg d) tb_X6_refresh Φ (22, [some (bm_r (some v0)), some (bm_i v1)], [], w)
set_option maxRecDepth 20000 in
theorem vc_X6_refresh {d : Nat} {Φ : bm_Rt → bm_W → Prop} {p0 : Nat} {w : bm_W} (h :
  (bm_kt w p0 = 6) ∧
  (if (decide ((bm_gi w p0 2) = 0)) = true then
    (bm_kt w p0 = 6 ∧ ((1 : Int) = 0 ∨ (1 : Int) = 1)) ∧
    (bm_kt (bm_si w p0 2 (1 : Int)) p0 = 6 ∧ bm_gr (bm_si w p0 2 (1 : Int)) p0 1 = some (bm_u (bm_gr (bm_si w p0 2 (1 : Int)) p0 1))) ∧
    (bm_kt (bm_si w p0 2 (1 : Int)) (bm_u (bm_gr (bm_si w p0 2 (1 : Int)) p0 1)) = 2) ∧ bm_Call bm_pg d y_X2_startCounting [bm_r (some (bm_u (bm_gr (bm_si w p0 2 (1 : Int)) p0 1)))] (bm_si w p0 2 (1 : Int)) (fun r1 w1 => 
      bm_c0 (bk_X6_refresh_22 d Φ p0 (0 : Int) w1) (fun E => Φ (.inr E) w1) r1)
  else
    Φ (.inl none) w)) : bm_Call bm_pg (d + 1) y_X6_refresh [bm_r (some p0)] w Φ := bm_enter rfl (bm_go (bm_Call_mono _ _) [22] 31 _ h)
set_option maxRecDepth 20000 in
theorem vb_X6_refresh_22 {d : Nat} {Φ : bm_Rt → bm_W → Prop} {v0 : Nat} {v1 : Int} {w : bm_W} (h :
  (bm_kt w v0 = 6 ∧ bm_gr w v0 0 = some (bm_u (bm_gr w v0 0))) ∧
  (bm_kt w (bm_u (bm_gr w v0 0)) = 3) ∧
  (if (decide ((bm_gi w (bm_u (bm_gr w v0 0)) 5) ≤ v1)) = true then
    (bm_kt w v0 = 6 ∧ bm_gr w v0 1 = some (bm_u (bm_gr w v0 1))) ∧
    (bm_kt w (bm_u (bm_gr w v0 1)) = 2) ∧ bm_Call bm_pg d y_X2_stopCounting [bm_r (some (bm_u (bm_gr w v0 1)))] w (fun r1 w1 => 
      bm_c0 (Φ (.inl none) w1) (fun E => Φ (.inr E) w1) r1)
  else
    (bm_kt w v0 = 6 ∧ bm_gr w v0 0 = some (bm_u (bm_gr w v0 0))) ∧
    (bm_kt w (bm_u (bm_gr w v0 0)) = 3) ∧ bm_Call bm_pg d y_X3_tableAt [bm_r (some (bm_u (bm_gr w v0 0))), bm_i v1] w (fun r2 w2 => 
      bm_c3 (fun x2 => (bm_kt w2 v0 = 6) ∧ bm_Call bm_pg d y_X6_runTable [bm_r (some v0), bm_r (some x2)] w2 (fun r3 w3 => 
        bm_c0 (bk_X6_refresh_22 d Φ v0 (bm_w (v1 + 1)) w3) (fun E => Φ (.inr E) w3) r3)) (fun E => Φ (.inr E) w2) r2))) : bk_X6_refresh_22 d Φ v0 v1 w := bm_go (bm_Call_mono _ _) [22] 31 _ h
/-! CaseTables$Runner.runTable(LCaseTables$Table;)V -/
def bk_X6_runTable_4 (d : Nat) (Φ : bm_Rt → bm_W → Prop) (v0 : Nat) (v1 : Nat) (v2 : Int) (v3 : Int) (w : bm_W) : Prop := bm_Wp (bm_Call bm_pg d) tb_X6_runTable Φ (4, [some (bm_r (some v0)), some (bm_r (some v1)), some (bm_i v2), some (bm_i v3), none, none, none], [], w)
def bk_X6_runTable_32 (d : Nat) (Φ : bm_Rt → bm_W → Prop) (v0 : Nat) (v1 : Nat) (v2 : Int) (v3 : Int) (v4 : Nat) (v5 : Int) (v6 : Int) (w : bm_W) : Prop := bm_Wp (bm_Call bm_pg d) tb_X6_runTable Φ (32, [some (bm_r (some v0)), some (bm_r (some v1)), some (bm_i v2), some (bm_i v3), some (bm_r (some v4)), some (bm_i v5), some (bm_i v6)], [], w)
set_option maxRecDepth 20000 in
theorem vc_X6_runTable {d : Nat} {Φ : bm_Rt → bm_W → Prop} {p0 : Nat} {p1 : Nat} {w : bm_W} (h :
  bk_X6_runTable_4 d Φ p0 p1 (0 : Int) (0 : Int) w) : bm_Call bm_pg (d + 1) y_X6_runTable [bm_r (some p0), bm_r (some p1)] w Φ := bm_enter rfl (bm_go (bm_Call_mono _ _) [4, 32] 44 _ h)
set_option maxRecDepth 20000 in
theorem vb_X6_runTable_4 {d : Nat} {Φ : bm_Rt → bm_W → Prop} {v0 : Nat} {v1 : Nat} {v2 : Int} {v3 : Int} {w : bm_W} (h :
  (bm_kt w v1 = 7) ∧
  (if (decide ((bm_gi w v1 5) ≤ v3)) = true then
    Φ (.inl none) w
  else
    (bm_kt w v1 = 7) ∧ bm_Call bm_pg d y_X7_rowAt [bm_r (some v1), bm_i v3] w (fun r1 w1 => 
      bm_c3 (fun x1 => (bm_kt w1 x1 = 5 ∧ bm_gr w1 x1 0 = some (bm_u (bm_gr w1 x1 0))) ∧
      (bm_kt w1 (bm_u (bm_gr w1 x1 0)) = 4) ∧ bm_Call bm_pg d y_X4_rowCount [bm_r (some (bm_u (bm_gr w1 x1 0)))] w1 (fun r2 w2 => 
        bm_c1 (fun x2 => bk_X6_runTable_32 d Φ v0 v1 v2 v3 x1 x2 (0 : Int) w2) (fun E => Φ (.inr E) w2) r2)) (fun E => Φ (.inr E) w1) r1))) : bk_X6_runTable_4 d Φ v0 v1 v2 v3 w := bm_go (bm_Call_mono _ _) [4, 32] 44 _ h
set_option maxRecDepth 20000 in
theorem vb_X6_runTable_32 {d : Nat} {Φ : bm_Rt → bm_W → Prop} {v0 : Nat} {v1 : Nat} {v2 : Int} {v3 : Int} {v4 : Nat} {v5 : Int} {v6 : Int} {w : bm_W} (h :
  (if (decide (v5 ≤ v6)) = true then
    bk_X6_runTable_4 d Φ v0 v1 (bm_w (v2 + v5)) (bm_w (v3 + 1)) w
  else
    (bm_kt w v1 = 7) ∧
    (bm_kt w v0 = 6) ∧ bm_Call bm_pg d y_X6_isHolding [bm_r (some v0), bm_i (bm_gi w v1 4), bm_r (some v4), bm_i v6, bm_i (-1 : Int)] w (fun r1 w1 => 
      bm_c1 (fun x1 => (bm_kt w1 v1 = 7) ∧ bm_Call bm_pg d y_X7_note [bm_r (some v1), bm_i (bm_w (v2 + v6)), bm_i x1] w1 (fun r2 w2 => 
        bm_c0 (bk_X6_runTable_32 d Φ v0 v1 v2 v3 v4 v5 (bm_w (v6 + 1)) w2) (fun E => Φ (.inr E) w2) r2)) (fun E => Φ (.inr E) w1) r1))) : bk_X6_runTable_32 d Φ v0 v1 v2 v3 v4 v5 v6 w := bm_go (bm_Call_mono _ _) [4, 32] 44 _ h
/-! CaseTables$Runner.isHolding(ILCaseTables$Row;II)Z -/
set_option maxRecDepth 20000 in
theorem vc_X6_isHolding {d : Nat} {Φ : bm_Rt → bm_W → Prop} {p0 : Nat} {p1 : Int} {p2 : Nat} {p3 : Int} {p4 : Int} {w : bm_W} (h :
  (bm_kt w p2 = 5 ∧ bm_gr w p2 0 = some (bm_u (bm_gr w p2 0))) ∧
  (bm_kt w p0 = 6 ∧ bm_gr w p0 1 = some (bm_u (bm_gr w p0 1))) ∧
  (bm_kt w (bm_u (bm_gr w p2 0)) = 4) ∧ bm_Call bm_pg d y_X4_valueAt [bm_r (some (bm_u (bm_gr w p2 0))), bm_i p3, bm_i (0 : Int)] w (fun r1 w1 => 
    bm_c1 (fun x1 => (bm_kt w1 (bm_u (bm_gr w p2 0)) = 4) ∧ bm_Call bm_pg d y_X4_valueAt [bm_r (some (bm_u (bm_gr w p2 0))), bm_i p3, bm_i (1 : Int)] w1 (fun r2 w2 => 
      bm_c1 (fun x2 => (bm_kt w2 (bm_u (bm_gr w p2 0)) = 4) ∧ bm_Call bm_pg d y_X4_valueAt [bm_r (some (bm_u (bm_gr w p2 0))), bm_i p3, bm_i (2 : Int)] w2 (fun r3 w3 => 
        bm_c1 (fun x3 => (bm_kt w3 (bm_u (bm_gr w p0 1)) = 2) ∧ bm_Call bm_pg d y_X2_reckon [bm_r (some (bm_u (bm_gr w p0 1))), bm_i p1, bm_i p4, bm_l x1, bm_l x2, bm_l x3] w3 (fun r4 w4 => 
          bm_c2 (fun x4 => (bm_kt w4 p0 = 6 ∧ bm_gr w4 p0 1 = some (bm_u (bm_gr w4 p0 1))) ∧
          (bm_kt w4 (bm_u (bm_gr w4 p0 1)) = 2) ∧ bm_Call bm_pg d y_X2_hasFailed [bm_r (some (bm_u (bm_gr w4 p0 1)))] w4 (fun r5 w5 => 
            bm_c1 (fun x5 => (bm_kt w5 p2 = 5) ∧ bm_Call bm_pg d y_X5_admits [bm_r (some p2), bm_i x5, bm_l x4] w5 (fun r6 w6 => 
              bm_c1 (fun x6 => (x6 = 0 ∨ x6 = 1) ∧ Φ (.inl (some (bm_i x6))) w6) (fun E => Φ (.inr E) w6) r6)) (fun E => Φ (.inr E) w5) r5)) (fun E => Φ (.inr E) w4) r4)) (fun E => Φ (.inr E) w3) r3)) (fun E => Φ (.inr E) w2) r2)) (fun E => Φ (.inr E) w1) r1)) : bm_Call bm_pg (d + 1) y_X6_isHolding [bm_r (some p0), bm_i p1, bm_r (some p2), bm_i p3, bm_i p4] w Φ := bm_enter rfl (bm_go (bm_Call_mono _ _) [] 33 _ h)
/-! CaseTables$Runner.changesFound(LCaseTables$Table;LCaseTables$Row;)J -/
def bk_X6_changesFound_5 (d : Nat) (Φ : bm_Rt → bm_W → Prop) (v0 : Nat) (v1 : Nat) (v2 : Option Nat) (v3 : Int) (v5 : Int) (w : bm_W) : Prop := bm_Wp (bm_Call bm_pg d) tb_X6_changesFound Φ (5, [some (bm_r (some v0)), some (bm_r (some v1)), some (bm_r v2), some (bm_l v3), none, some (bm_i v5), none], [], w)
set_option maxRecDepth 20000 in
theorem vc_X6_changesFound {d : Nat} {Φ : bm_Rt → bm_W → Prop} {p0 : Nat} {p1 : Nat} {p2 : Option Nat} {w : bm_W} (h :
  bk_X6_changesFound_5 d Φ p0 p1 p2 (0 : Int) (0 : Int) w) : bm_Call bm_pg (d + 1) y_X6_changesFound [bm_r (some p0), bm_r (some p1), bm_r p2] w Φ := bm_enter rfl (bm_go (bm_Call_mono _ _) [5] 31 _ h)
set_option maxRecDepth 20000 in
theorem vb_X6_changesFound_5 {d : Nat} {Φ : bm_Rt → bm_W → Prop} {v0 : Nat} {v1 : Nat} {v2 : Option Nat} {v3 : Int} {v5 : Int} {w : bm_W} (h :
  (bm_kt w v1 = 7) ∧
  (if (decide ((bm_gi w v1 5) ≤ v5)) = true then
    Φ (.inl (some (bm_l v3))) w
  else
    (bm_kt w v1 = 7) ∧ bm_Call bm_pg d y_X7_rowAt [bm_r (some v1), bm_i v5] w (fun r1 w1 => 
      bm_c3 (fun x1 => (if (decide ((some x1) = v2)) = true then
        bk_X6_changesFound_5 d Φ v0 v1 v2 v3 (bm_w (v5 + 1)) w1
      else
        (bm_kt w1 v1 = 7) ∧
        (bm_kt w1 v0 = 6) ∧ bm_Call bm_pg d y_X6_search [bm_r (some v0), bm_i (bm_gi w1 v1 4), bm_r (some x1)] w1 (fun r2 w2 => 
          bm_c0 ((bm_kt w2 x1 = 5) ∧
          bk_X6_changesFound_5 d Φ v0 v1 v2 ((Int64.ofInt v3 ||| Int64.ofInt (bm_gl w2 x1 3)).toInt) (bm_w (v5 + 1)) w2) (fun E => Φ (.inr E) w2) r2))) (fun E => Φ (.inr E) w1) r1))) : bk_X6_changesFound_5 d Φ v0 v1 v2 v3 v5 w := bm_go (bm_Call_mono _ _) [5] 31 _ h

/-! what the rows of the methods come to (laid by program) -/
/-! CaseTables$Compiler.<init>(LCaseTables$Tokens;LCaseTables$Program;)V -/
set_option maxRecDepth 20000 in
theorem vc_X0_init {d : Nat} {Φ : bm_Rt → bm_W → Prop} {p0 : Nat} {p1 : Nat} {p2 : Nat} {w : bm_W} (h :
  (true = true) ∧
  (bm_kt w p0 = 0) ∧
  (bm_kt (bm_sr w p0 0 (some p1)) p0 = 0) ∧
  (bm_kt (bm_sr (bm_sr w p0 0 (some p1)) p0 1 (some p2)) p2 = 3) ∧ bm_Call bm_pg d y_X3_funAt [bm_r (some p2), bm_i (0 : Int)] (bm_sr (bm_sr w p0 0 (some p1)) p0 1 (some p2)) (fun r1 w1 => 
    bm_c3 (fun x1 => (bm_kt w1 p0 = 0) ∧
    (bm_kt (bm_sr w1 p0 4 (some x1)) p2 = 3) ∧ bm_Call bm_pg d y_X3_tableAt [bm_r (some p2), bm_i (0 : Int)] (bm_sr w1 p0 4 (some x1)) (fun r2 w2 => 
      bm_c3 (fun x2 => (bm_kt w2 p0 = 0) ∧
      Φ (.inl none) (bm_sr w2 p0 5 (some x2))) (fun E => Φ (.inr E) w2) r2)) (fun E => Φ (.inr E) w1) r1)) : bm_Call bm_pg (d + 1) y_X0_init [bm_r (some p0), bm_r (some p1), bm_r (some p2)] w Φ := bm_enter rfl (bm_go (bm_Call_mono _ _) [] 21 _ h)
/-! CaseTables$Compiler.translate()I -/
def bk_X0_translate_16 (d : Nat) (Φ : bm_Rt → bm_W → Prop) (v0 : Nat) (v1 : Int) (v2 : Int) (w : bm_W) : Prop := bm_Wp (bm_Call bm_pg d) tb_X0_translate Φ (16, [some (bm_r (some v0)), some (bm_i v1), some (bm_i v2)], [], w)
def bk_X0_translate_71 (d : Nat) (Φ : bm_Rt → bm_W → Prop) (v0 : Nat) (v2 : Int) (w : bm_W) : Prop := bm_Wp (bm_Call bm_pg d) tb_X0_translate Φ (71, [some (bm_r (some v0)), none, some (bm_i v2)], [], w)
def bk_X0_translate_104 (d : Nat) (Φ : bm_Rt → bm_W → Prop) (v0 : Nat) (w : bm_W) : Prop := bm_Wp (bm_Call bm_pg d) tb_X0_translate Φ (104, [some (bm_r (some v0)), none, none], [], w)
set_option maxRecDepth 20000 in
theorem vc_X0_translate {d : Nat} {Φ : bm_Rt → bm_W → Prop} {p0 : Nat} {w : bm_W} (h :
  (bm_kt w p0 = 0) ∧
  (bm_kt (bm_si w p0 2 (0 : Int)) p0 = 0 ∧ bm_gr (bm_si w p0 2 (0 : Int)) p0 1 = some (bm_u (bm_gr (bm_si w p0 2 (0 : Int)) p0 1))) ∧
  (bm_kt (bm_si w p0 2 (0 : Int)) (bm_u (bm_gr (bm_si w p0 2 (0 : Int)) p0 1)) = 3) ∧ bm_Call bm_pg d y_X3_clear [bm_r (some (bm_u (bm_gr (bm_si w p0 2 (0 : Int)) p0 1)))] (bm_si w p0 2 (0 : Int)) (fun r1 w1 => 
    bm_c0 (bk_X0_translate_16 d Φ p0 (1 : Int) (0 : Int) w1) (fun E => Φ (.inr E) w1) r1)) : bm_Call bm_pg (d + 1) y_X0_translate [bm_r (some p0)] w Φ := bm_enter rfl (bm_go (bm_Call_mono _ _) [16, 71, 104] 67 _ h)
set_option maxRecDepth 20000 in
theorem vb_X0_translate_16 {d : Nat} {Φ : bm_Rt → bm_W → Prop} {v0 : Nat} {v1 : Int} {v2 : Int} {w : bm_W} (h :
  (if (decide ((1500 : Int) ≤ v2)) = true then
    bk_X0_translate_104 d Φ v0 w
  else
    (if (decide (v1 = 0)) = true then
      bk_X0_translate_104 d Φ v0 w
    else
      (bm_kt w v0 = 0 ∧ bm_gr w v0 0 = some (bm_u (bm_gr w v0 0))) ∧
      (bm_kt w (bm_u (bm_gr w v0 0)) = 9) ∧ bm_Call bm_pg d y_X9_sees [bm_r (some (bm_u (bm_gr w v0 0))), bm_i (4 : Int)] w (fun r1 w1 => 
        bm_c1 (fun x1 => (if (decide (x1 = 0)) = true then
          (bm_kt w1 v0 = 0 ∧ bm_gr w1 v0 0 = some (bm_u (bm_gr w1 v0 0))) ∧
          (bm_kt w1 (bm_u (bm_gr w1 v0 0)) = 9) ∧ bm_Call bm_pg d y_X9_sees [bm_r (some (bm_u (bm_gr w1 v0 0))), bm_i (12 : Int)] w1 (fun r2 w2 => 
            bm_c1 (fun x2 => (if (decide (x2 = 0)) = true then
              (bm_kt w2 v0 = 0 ∧ bm_gr w2 v0 0 = some (bm_u (bm_gr w2 v0 0))) ∧
              (bm_kt w2 (bm_u (bm_gr w2 v0 0)) = 9) ∧ bm_Call bm_pg d y_X9_fail [bm_r (some (bm_u (bm_gr w2 v0 0)))] w2 (fun r3 w3 => 
                bm_c0 (bk_X0_translate_71 d Φ v0 v2 w3) (fun E => Φ (.inr E) w3) r3)
            else
              (bm_kt w2 v0 = 0) ∧ bm_Call bm_pg d y_X0_readTable [bm_r (some v0)] w2 (fun r4 w4 => 
                bm_c0 (bk_X0_translate_71 d Φ v0 v2 w4) (fun E => Φ (.inr E) w4) r4))) (fun E => Φ (.inr E) w2) r2)
        else
          (bm_kt w1 v0 = 0) ∧ bm_Call bm_pg d y_X0_readFun [bm_r (some v0)] w1 (fun r5 w5 => 
            bm_c0 (bk_X0_translate_71 d Φ v0 v2 w5) (fun E => Φ (.inr E) w5) r5))) (fun E => Φ (.inr E) w1) r1)))) : bk_X0_translate_16 d Φ v0 v1 v2 w := bm_go (bm_Call_mono _ _) [16, 71, 104] 67 _ h
set_option maxRecDepth 20000 in
theorem vb_X0_translate_71 {d : Nat} {Φ : bm_Rt → bm_W → Prop} {v0 : Nat} {v2 : Int} {w : bm_W} (h :
  (bm_kt w v0 = 0 ∧ bm_gr w v0 0 = some (bm_u (bm_gr w v0 0))) ∧
  (bm_kt w (bm_u (bm_gr w v0 0)) = 9) ∧
  (if (!decide ((bm_gi w (bm_u (bm_gr w v0 0)) 10) = 0)) = true then
    bk_X0_translate_16 d Φ v0 (0 : Int) (bm_w (v2 + 1)) w
  else
    (bm_kt w v0 = 0 ∧ bm_gr w v0 0 = some (bm_u (bm_gr w v0 0))) ∧
    (bm_kt w (bm_u (bm_gr w v0 0)) = 9) ∧ bm_Call bm_pg d y_X9_sees [bm_r (some (bm_u (bm_gr w v0 0))), bm_i (0 : Int)] w (fun r1 w1 => 
      bm_c1 (fun x1 => (if (!decide (x1 = 0)) = true then
        bk_X0_translate_16 d Φ v0 (0 : Int) (bm_w (v2 + 1)) w1
      else
        bk_X0_translate_16 d Φ v0 (1 : Int) (bm_w (v2 + 1)) w1)) (fun E => Φ (.inr E) w1) r1))) : bk_X0_translate_71 d Φ v0 v2 w := bm_go (bm_Call_mono _ _) [16, 71, 104] 67 _ h
set_option maxRecDepth 20000 in
theorem vb_X0_translate_104 {d : Nat} {Φ : bm_Rt → bm_W → Prop} {v0 : Nat} {w : bm_W} (h :
  (bm_kt w v0 = 0 ∧ bm_gr w v0 0 = some (bm_u (bm_gr w v0 0))) ∧
  (bm_kt w (bm_u (bm_gr w v0 0)) = 9) ∧
  (if (decide ((bm_gi w (bm_u (bm_gr w v0 0)) 10) = 0)) = true then
    (bm_kt w v0 = 0) ∧
    (if (decide ((bm_gi w v0 2) = 0)) = true then
      Φ (.inl (some (bm_i (bm_gi w v0 2)))) w
    else
      (bm_kt w v0 = 0 ∧ bm_gr w v0 1 = some (bm_u (bm_gr w v0 1))) ∧
      (bm_kt w (bm_u (bm_gr w v0 1)) = 3) ∧ bm_Call bm_pg d y_X3_clear [bm_r (some (bm_u (bm_gr w v0 1)))] w (fun r1 w1 => 
        bm_c0 (Φ (.inl (some (bm_i (bm_gi w v0 2)))) w1) (fun E => Φ (.inr E) w1) r1))
  else
    (if (decide ((1 : Int) = 0)) = true then
      Φ (.inl (some (bm_i (1 : Int)))) w
    else
      (bm_kt w v0 = 0 ∧ bm_gr w v0 1 = some (bm_u (bm_gr w v0 1))) ∧
      (bm_kt w (bm_u (bm_gr w v0 1)) = 3) ∧ bm_Call bm_pg d y_X3_clear [bm_r (some (bm_u (bm_gr w v0 1)))] w (fun r2 w2 => 
        bm_c0 (Φ (.inl (some (bm_i (1 : Int)))) w2) (fun E => Φ (.inr E) w2) r2)))) : bk_X0_translate_104 d Φ v0 w := bm_go (bm_Call_mono _ _) [16, 71, 104] 67 _ h
/-! CaseTables$Compiler.errorPlace()I -/
set_option maxRecDepth 20000 in
theorem vc_X0_errorPlace {d : Nat} {Φ : bm_Rt → bm_W → Prop} {p0 : Nat} {w : bm_W} (h :
  (bm_kt w p0 = 0 ∧ bm_gr w p0 0 = some (bm_u (bm_gr w p0 0))) ∧
  (bm_kt w (bm_u (bm_gr w p0 0)) = 9) ∧
  (if (decide ((bm_gi w (bm_u (bm_gr w p0 0)) 10) = 0)) = true then
    (bm_kt w p0 = 0) ∧
    (if (!decide ((bm_gi w p0 2) = 0)) = true then
      (bm_kt w p0 = 0) ∧
      Φ (.inl (some (bm_i (bm_gi w p0 3)))) w
    else
      Φ (.inl (some (bm_i (-1 : Int)))) w)
  else
    (bm_kt w p0 = 0 ∧ bm_gr w p0 0 = some (bm_u (bm_gr w p0 0))) ∧
    (bm_kt w (bm_u (bm_gr w p0 0)) = 9) ∧ bm_Call bm_pg d y_X9_startHere [bm_r (some (bm_u (bm_gr w p0 0)))] w (fun r1 w1 => 
      bm_c1 (fun x1 => Φ (.inl (some (bm_i x1))) w1) (fun E => Φ (.inr E) w1) r1))) : bm_Call bm_pg (d + 1) y_X0_errorPlace [bm_r (some p0)] w Φ := bm_enter rfl (bm_go (bm_Call_mono _ _) [] 18 _ h)
/-! CaseTables$Compiler.complain(II)V -/
set_option maxRecDepth 20000 in
theorem vc_X0_complain {d : Nat} {Φ : bm_Rt → bm_W → Prop} {p0 : Nat} {p1 : Int} {p2 : Int} {w : bm_W} (h :
  (bm_kt w p0 = 0) ∧
  (if (!decide ((bm_gi w p0 2) = 0)) = true then
    Φ (.inl none) w
  else
    (bm_kt w p0 = 0) ∧
    (bm_kt (bm_si w p0 2 p1) p0 = 0) ∧
    Φ (.inl none) (bm_si (bm_si w p0 2 p1) p0 3 p2))) : bm_Call bm_pg (d + 1) y_X0_complain [bm_r (some p0), bm_i p1, bm_i p2] w Φ := bm_enter rfl (bm_go (bm_Call_mono _ _) [] 12 _ h)
/-! CaseTables$Compiler.readWhole(II)I -/
set_option maxRecDepth 20000 in
theorem vc_X0_readWhole {d : Nat} {Φ : bm_Rt → bm_W → Prop} {p0 : Nat} {p1 : Int} {p2 : Int} {w : bm_W} (h :
  (bm_kt w p0 = 0 ∧ bm_gr w p0 0 = some (bm_u (bm_gr w p0 0))) ∧
  (bm_kt w (bm_u (bm_gr w p0 0)) = 9) ∧ bm_Call bm_pg d y_X9_passes [bm_r (some (bm_u (bm_gr w p0 0))), bm_i (29 : Int)] w (fun r1 w1 => 
    bm_c1 (fun x1 => (bm_kt w1 p0 = 0 ∧ bm_gr w1 p0 0 = some (bm_u (bm_gr w1 p0 0))) ∧
    (bm_kt w1 (bm_u (bm_gr w1 p0 0)) = 9) ∧ bm_Call bm_pg d y_X9_startHere [bm_r (some (bm_u (bm_gr w1 p0 0)))] w1 (fun r2 w2 => 
      bm_c1 (fun x2 => (bm_kt w2 p0 = 0 ∧ bm_gr w2 p0 0 = some (bm_u (bm_gr w2 p0 0))) ∧
      (bm_kt w2 (bm_u (bm_gr w2 p0 0)) = 9) ∧ bm_Call bm_pg d y_X9_valueHere [bm_r (some (bm_u (bm_gr w2 p0 0)))] w2 (fun r3 w3 => 
        bm_c2 (fun x3 => (bm_kt w3 p0 = 0 ∧ bm_gr w3 p0 0 = some (bm_u (bm_gr w3 p0 0))) ∧
        (bm_kt w3 (bm_u (bm_gr w3 p0 0)) = 9) ∧ bm_Call bm_pg d y_X9_expect [bm_r (some (bm_u (bm_gr w3 p0 0))), bm_i (2 : Int)] w3 (fun r4 w4 => 
          bm_c1 (fun x4 => (if (decide (x1 = 0)) = true then
            (if (decide ((bm_w x3) < p1)) = true then
              (bm_kt w4 p0 = 0) ∧ bm_Call bm_pg d y_X0_complain [bm_r (some p0), bm_i (5 : Int), bm_i x2] w4 (fun r5 w5 => 
                bm_c0 (Φ (.inl (some (bm_i (bm_w x3)))) w5) (fun E => Φ (.inr E) w5) r5)
            else
              (if (decide ((bm_w x3) ≤ p2)) = true then
                Φ (.inl (some (bm_i (bm_w x3)))) w4
              else
                (bm_kt w4 p0 = 0) ∧ bm_Call bm_pg d y_X0_complain [bm_r (some p0), bm_i (5 : Int), bm_i x2] w4 (fun r6 w6 => 
                  bm_c0 (Φ (.inl (some (bm_i (bm_w x3)))) w6) (fun E => Φ (.inr E) w6) r6)))
          else
            (if (decide ((bm_w (-(bm_w x3))) < p1)) = true then
              (bm_kt w4 p0 = 0) ∧ bm_Call bm_pg d y_X0_complain [bm_r (some p0), bm_i (5 : Int), bm_i x2] w4 (fun r7 w7 => 
                bm_c0 (Φ (.inl (some (bm_i (bm_w (-(bm_w x3)))))) w7) (fun E => Φ (.inr E) w7) r7)
            else
              (if (decide ((bm_w (-(bm_w x3))) ≤ p2)) = true then
                Φ (.inl (some (bm_i (bm_w (-(bm_w x3)))))) w4
              else
                (bm_kt w4 p0 = 0) ∧ bm_Call bm_pg d y_X0_complain [bm_r (some p0), bm_i (5 : Int), bm_i x2] w4 (fun r8 w8 => 
                  bm_c0 (Φ (.inl (some (bm_i (bm_w (-(bm_w x3)))))) w8) (fun E => Φ (.inr E) w8) r8))))) (fun E => Φ (.inr E) w4) r4)) (fun E => Φ (.inr E) w3) r3)) (fun E => Φ (.inr E) w2) r2)) (fun E => Φ (.inr E) w1) r1)) : bm_Call bm_pg (d + 1) y_X0_readWhole [bm_r (some p0), bm_i p1, bm_i p2] w Φ := bm_enter rfl (bm_go (bm_Call_mono _ _) [] 40 _ h)
/-! CaseTables$Compiler.readItemName()J -/
set_option maxRecDepth 20000 in
theorem vc_X0_readItemName {d : Nat} {Φ : bm_Rt → bm_W → Prop} {p0 : Nat} {w : bm_W} (h :
  (bm_kt w p0 = 0 ∧ bm_gr w p0 0 = some (bm_u (bm_gr w p0 0))) ∧
  (bm_kt w (bm_u (bm_gr w p0 0)) = 9) ∧ bm_Call bm_pg d y_X9_valueHere [bm_r (some (bm_u (bm_gr w p0 0)))] w (fun r1 w1 => 
    bm_c2 (fun x1 => (bm_kt w1 p0 = 0 ∧ bm_gr w1 p0 0 = some (bm_u (bm_gr w1 p0 0))) ∧
    (bm_kt w1 (bm_u (bm_gr w1 p0 0)) = 9) ∧ bm_Call bm_pg d y_X9_startHere [bm_r (some (bm_u (bm_gr w1 p0 0)))] w1 (fun r2 w2 => 
      bm_c1 (fun x2 => (bm_kt w2 p0 = 0 ∧ bm_gr w2 p0 0 = some (bm_u (bm_gr w2 p0 0))) ∧
      (bm_kt w2 (bm_u (bm_gr w2 p0 0)) = 9) ∧ bm_Call bm_pg d y_X9_expect [bm_r (some (bm_u (bm_gr w2 p0 0))), bm_i (3 : Int)] w2 (fun r3 w3 => 
        bm_c1 (fun x3 => (if (decide (x3 = 0)) = true then
          Φ (.inl (some (bm_l x1))) w3
        else
          (bm_kt w3 p0 = 0 ∧ bm_gr w3 p0 1 = some (bm_u (bm_gr w3 p0 1))) ∧
          (bm_kt w3 (bm_u (bm_gr w3 p0 1)) = 3) ∧ bm_Call bm_pg d y_X3_hasItem [bm_r (some (bm_u (bm_gr w3 p0 1))), bm_l x1] w3 (fun r4 w4 => 
            bm_c1 (fun x4 => (if (decide (x4 = 0)) = true then
              Φ (.inl (some (bm_l x1))) w4
            else
              (bm_kt w4 p0 = 0) ∧ bm_Call bm_pg d y_X0_complain [bm_r (some p0), bm_i (3 : Int), bm_i x2] w4 (fun r5 w5 => 
                bm_c0 (Φ (.inl (some (bm_l x1))) w5) (fun E => Φ (.inr E) w5) r5))) (fun E => Φ (.inr E) w4) r4))) (fun E => Φ (.inr E) w3) r3)) (fun E => Φ (.inr E) w2) r2)) (fun E => Φ (.inr E) w1) r1)) : bm_Call bm_pg (d + 1) y_X0_readItemName [bm_r (some p0)] w Φ := bm_enter rfl (bm_go (bm_Call_mono _ _) [] 26 _ h)
/-! CaseTables$Compiler.readFun()V -/
def bk_X0_readFun_24 (d : Nat) (Φ : bm_Rt → bm_W → Prop) (v0 : Nat) (w : bm_W) : Prop := bm_Wp (bm_Call bm_pg d) tb_X0_readFun Φ (24, [some (bm_r (some v0)), none, none], [], w)
def bk_X0_readFun_79 (d : Nat) (Φ : bm_Rt → bm_W → Prop) (v0 : Nat) (v1 : Int) (v2 : Int) (w : bm_W) : Prop := bm_Wp (bm_Call bm_pg d) tb_X0_readFun Φ (79, [some (bm_r (some v0)), some (bm_i v1), some (bm_i v2)], [], w)
def bk_X0_readFun_108 (d : Nat) (Φ : bm_Rt → bm_W → Prop) (v0 : Nat) (v1 : Int) (w : bm_W) : Prop := bm_Wp (bm_Call bm_pg d) tb_X0_readFun Φ (108, [some (bm_r (some v0)), some (bm_i v1), none], [], w)
set_option maxRecDepth 20000 in
theorem vc_X0_readFun {d : Nat} {Φ : bm_Rt → bm_W → Prop} {p0 : Nat} {w : bm_W} (h :
  (bm_kt w p0 = 0 ∧ bm_gr w p0 1 = some (bm_u (bm_gr w p0 1))) ∧
  (bm_kt w (bm_u (bm_gr w p0 1)) = 3) ∧
  (if (decide ((bm_gi w (bm_u (bm_gr w p0 1)) 4) < (6 : Int))) = true then
    bk_X0_readFun_24 d Φ p0 w
  else
    (bm_kt w p0 = 0 ∧ bm_gr w p0 0 = some (bm_u (bm_gr w p0 0))) ∧
    (bm_kt w (bm_u (bm_gr w p0 0)) = 9) ∧ bm_Call bm_pg d y_X9_startHere [bm_r (some (bm_u (bm_gr w p0 0)))] w (fun r1 w1 => 
      bm_c1 (fun x1 => (bm_kt w1 p0 = 0) ∧ bm_Call bm_pg d y_X0_complain [bm_r (some p0), bm_i (4 : Int), bm_i x1] w1 (fun r2 w2 => 
        bm_c0 (bk_X0_readFun_24 d Φ p0 w2) (fun E => Φ (.inr E) w2) r2)) (fun E => Φ (.inr E) w1) r1))) : bm_Call bm_pg (d + 1) y_X0_readFun [bm_r (some p0)] w Φ := bm_enter rfl (bm_go (bm_Call_mono _ _) [24, 79, 108] 83 _ h)
set_option maxRecDepth 20000 in
theorem vb_X0_readFun_24 {d : Nat} {Φ : bm_Rt → bm_W → Prop} {v0 : Nat} {w : bm_W} (h :
  (bm_kt w v0 = 0 ∧ bm_gr w v0 0 = some (bm_u (bm_gr w v0 0))) ∧
  (bm_kt w (bm_u (bm_gr w v0 0)) = 9) ∧ bm_Call bm_pg d y_X9_expect [bm_r (some (bm_u (bm_gr w v0 0))), bm_i (4 : Int)] w (fun r1 w1 => 
    bm_c1 (fun x1 => (bm_kt w1 v0 = 0 ∧ bm_gr w1 v0 1 = some (bm_u (bm_gr w1 v0 1))) ∧
    (bm_kt w1 (bm_u (bm_gr w1 v0 1)) = 3) ∧ bm_Call bm_pg d y_X3_nextFun [bm_r (some (bm_u (bm_gr w1 v0 1)))] w1 (fun r2 w2 => 
      bm_c3 (fun x2 => (bm_kt w2 v0 = 0) ∧
      (bm_kt (bm_sr w2 v0 4 (some x2)) v0 = 0 ∧ bm_gr (bm_sr w2 v0 4 (some x2)) v0 0 = some (bm_u (bm_gr (bm_sr w2 v0 4 (some x2)) v0 0))) ∧
      (bm_kt (bm_sr w2 v0 4 (some x2)) (bm_u (bm_gr (bm_sr w2 v0 4 (some x2)) v0 0)) = 9) ∧ bm_Call bm_pg d y_X9_startHere [bm_r (some (bm_u (bm_gr (bm_sr w2 v0 4 (some x2)) v0 0)))] (bm_sr w2 v0 4 (some x2)) (fun r3 w3 => 
        bm_c1 (fun x3 => (bm_kt w3 v0 = 0 ∧ bm_gr w3 v0 4 = some (bm_u (bm_gr w3 v0 4))) ∧
        (bm_kt w3 v0 = 0) ∧ bm_Call bm_pg d y_X0_readItemName [bm_r (some v0)] w3 (fun r4 w4 => 
          bm_c2 (fun x4 => (bm_kt w4 (bm_u (bm_gr w3 v0 4)) = 1) ∧
          (bm_kt (bm_sq w4 (bm_u (bm_gr w3 v0 4)) 5 x4) v0 = 0 ∧ bm_gr (bm_sq w4 (bm_u (bm_gr w3 v0 4)) 5 x4) v0 0 = some (bm_u (bm_gr (bm_sq w4 (bm_u (bm_gr w3 v0 4)) 5 x4) v0 0))) ∧
          (bm_kt (bm_sq w4 (bm_u (bm_gr w3 v0 4)) 5 x4) (bm_u (bm_gr (bm_sq w4 (bm_u (bm_gr w3 v0 4)) 5 x4) v0 0)) = 9) ∧ bm_Call bm_pg d y_X9_expect [bm_r (some (bm_u (bm_gr (bm_sq w4 (bm_u (bm_gr w3 v0 4)) 5 x4) v0 0))), bm_i (16 : Int)] (bm_sq w4 (bm_u (bm_gr w3 v0 4)) 5 x4) (fun r5 w5 => 
            bm_c1 (fun x5 => (bm_kt w5 v0 = 0) ∧ bm_Call bm_pg d y_X0_readInput [bm_r (some v0)] w5 (fun r6 w6 => 
              bm_c0 (bk_X0_readFun_79 d Φ v0 x3 (1 : Int) w6) (fun E => Φ (.inr E) w6) r6)) (fun E => Φ (.inr E) w5) r5)) (fun E => Φ (.inr E) w4) r4)) (fun E => Φ (.inr E) w3) r3)) (fun E => Φ (.inr E) w2) r2)) (fun E => Φ (.inr E) w1) r1)) : bk_X0_readFun_24 d Φ v0 w := bm_go (bm_Call_mono _ _) [24, 79, 108] 83 _ h
set_option maxRecDepth 20000 in
theorem vb_X0_readFun_79 {d : Nat} {Φ : bm_Rt → bm_W → Prop} {v0 : Nat} {v1 : Int} {v2 : Int} {w : bm_W} (h :
  (if (decide ((1500 : Int) ≤ v2)) = true then
    bk_X0_readFun_108 d Φ v0 v1 w
  else
    (bm_kt w v0 = 0 ∧ bm_gr w v0 0 = some (bm_u (bm_gr w v0 0))) ∧
    (bm_kt w (bm_u (bm_gr w v0 0)) = 9) ∧ bm_Call bm_pg d y_X9_passes [bm_r (some (bm_u (bm_gr w v0 0))), bm_i (18 : Int)] w (fun r1 w1 => 
      bm_c1 (fun x1 => (if (decide (x1 = 0)) = true then
        bk_X0_readFun_108 d Φ v0 v1 w1
      else
        (bm_kt w1 v0 = 0) ∧ bm_Call bm_pg d y_X0_readInput [bm_r (some v0)] w1 (fun r2 w2 => 
          bm_c0 (bk_X0_readFun_79 d Φ v0 v1 (bm_w (v2 + 1)) w2) (fun E => Φ (.inr E) w2) r2))) (fun E => Φ (.inr E) w1) r1))) : bk_X0_readFun_79 d Φ v0 v1 v2 w := bm_go (bm_Call_mono _ _) [24, 79, 108] 83 _ h
set_option maxRecDepth 20000 in
theorem vb_X0_readFun_108 {d : Nat} {Φ : bm_Rt → bm_W → Prop} {v0 : Nat} {v1 : Int} {w : bm_W} (h :
  (bm_kt w v0 = 0 ∧ bm_gr w v0 0 = some (bm_u (bm_gr w v0 0))) ∧
  (bm_kt w (bm_u (bm_gr w v0 0)) = 9) ∧ bm_Call bm_pg d y_X9_expect [bm_r (some (bm_u (bm_gr w v0 0))), bm_i (17 : Int)] w (fun r1 w1 => 
    bm_c1 (fun x1 => (bm_kt w1 v0 = 0 ∧ bm_gr w1 v0 0 = some (bm_u (bm_gr w1 v0 0))) ∧
    (bm_kt w1 (bm_u (bm_gr w1 v0 0)) = 9) ∧ bm_Call bm_pg d y_X9_expect [bm_r (some (bm_u (bm_gr w1 v0 0))), bm_i (22 : Int)] w1 (fun r2 w2 => 
      bm_c1 (fun x2 => (bm_kt w2 v0 = 0) ∧ bm_Call bm_pg d y_X0_readBody [bm_r (some v0)] w2 (fun r3 w3 => 
        bm_c0 ((bm_kt w3 v0 = 0 ∧ bm_gr w3 v0 4 = some (bm_u (bm_gr w3 v0 4))) ∧
        (bm_kt w3 (bm_u (bm_gr w3 v0 4)) = 1) ∧
        (if (decide ((bm_gi w3 (bm_u (bm_gr w3 v0 4)) 9) ≤ (200 : Int))) = true then
          (bm_kt w3 v0 = 0 ∧ bm_gr w3 v0 0 = some (bm_u (bm_gr w3 v0 0))) ∧
          (bm_kt w3 (bm_u (bm_gr w3 v0 0)) = 9) ∧ bm_Call bm_pg d y_X9_expect [bm_r (some (bm_u (bm_gr w3 v0 0))), bm_i (19 : Int)] w3 (fun r4 w4 => 
            bm_c1 (fun x4 => (bm_kt w4 v0 = 0 ∧ bm_gr w4 v0 1 = some (bm_u (bm_gr w4 v0 1))) ∧
            (bm_kt w4 (bm_u (bm_gr w4 v0 1)) = 3) ∧ bm_Call bm_pg d y_X3_keepFun [bm_r (some (bm_u (bm_gr w4 v0 1)))] w4 (fun r5 w5 => 
              bm_c0 (Φ (.inl none) w5) (fun E => Φ (.inr E) w5) r5)) (fun E => Φ (.inr E) w4) r4)
        else
          (bm_kt w3 v0 = 0) ∧ bm_Call bm_pg d y_X0_complain [bm_r (some v0), bm_i (4 : Int), bm_i v1] w3 (fun r6 w6 => 
            bm_c0 ((bm_kt w6 v0 = 0 ∧ bm_gr w6 v0 0 = some (bm_u (bm_gr w6 v0 0))) ∧
            (bm_kt w6 (bm_u (bm_gr w6 v0 0)) = 9) ∧ bm_Call bm_pg d y_X9_expect [bm_r (some (bm_u (bm_gr w6 v0 0))), bm_i (19 : Int)] w6 (fun r7 w7 => 
              bm_c1 (fun x7 => (bm_kt w7 v0 = 0 ∧ bm_gr w7 v0 1 = some (bm_u (bm_gr w7 v0 1))) ∧
              (bm_kt w7 (bm_u (bm_gr w7 v0 1)) = 3) ∧ bm_Call bm_pg d y_X3_keepFun [bm_r (some (bm_u (bm_gr w7 v0 1)))] w7 (fun r8 w8 => 
                bm_c0 (Φ (.inl none) w8) (fun E => Φ (.inr E) w8) r8)) (fun E => Φ (.inr E) w7) r7)) (fun E => Φ (.inr E) w6) r6))) (fun E => Φ (.inr E) w3) r3)) (fun E => Φ (.inr E) w2) r2)) (fun E => Φ (.inr E) w1) r1)) : bk_X0_readFun_108 d Φ v0 v1 w := bm_go (bm_Call_mono _ _) [24, 79, 108] 83 _ h
/-! CaseTables$Compiler.readInput()V -/
def bk_X0_readInput_62 (d : Nat) (Φ : bm_Rt → bm_W → Prop) (v0 : Nat) (v1 : Int) (w : bm_W) : Prop := bm_Wp (bm_Call bm_pg d) tb_X0_readInput Φ (62, [some (bm_r (some v0)), some (bm_l v1), none, none, none, none], [], w)
set_option maxRecDepth 20000 in
theorem vc_X0_readInput {d : Nat} {Φ : bm_Rt → bm_W → Prop} {p0 : Nat} {w : bm_W} (h :
  (bm_kt w p0 = 0 ∧ bm_gr w p0 0 = some (bm_u (bm_gr w p0 0))) ∧
  (bm_kt w (bm_u (bm_gr w p0 0)) = 9) ∧ bm_Call bm_pg d y_X9_valueHere [bm_r (some (bm_u (bm_gr w p0 0)))] w (fun r1 w1 => 
    bm_c2 (fun x1 => (bm_kt w1 p0 = 0 ∧ bm_gr w1 p0 0 = some (bm_u (bm_gr w1 p0 0))) ∧
    (bm_kt w1 (bm_u (bm_gr w1 p0 0)) = 9) ∧ bm_Call bm_pg d y_X9_startHere [bm_r (some (bm_u (bm_gr w1 p0 0)))] w1 (fun r2 w2 => 
      bm_c1 (fun x2 => (bm_kt w2 p0 = 0 ∧ bm_gr w2 p0 0 = some (bm_u (bm_gr w2 p0 0))) ∧
      (bm_kt w2 (bm_u (bm_gr w2 p0 0)) = 9) ∧ bm_Call bm_pg d y_X9_expect [bm_r (some (bm_u (bm_gr w2 p0 0))), bm_i (3 : Int)] w2 (fun r3 w3 => 
        bm_c1 (fun x3 => (bm_kt w3 p0 = 0 ∧ bm_gr w3 p0 4 = some (bm_u (bm_gr w3 p0 4))) ∧
        (bm_kt w3 (bm_u (bm_gr w3 p0 4)) = 1) ∧
        (if (decide ((bm_gi w3 (bm_u (bm_gr w3 p0 4)) 6) < (3 : Int))) = true then
          (bm_kt w3 p0 = 0 ∧ bm_gr w3 p0 4 = some (bm_u (bm_gr w3 p0 4))) ∧
          (bm_kt w3 (bm_u (bm_gr w3 p0 4)) = 1) ∧ bm_Call bm_pg d y_X1_inputNamed [bm_r (some (bm_u (bm_gr w3 p0 4))), bm_l x1] w3 (fun r4 w4 => 
            bm_c1 (fun x4 => (if (decide (x4 < 0)) = true then
              bk_X0_readInput_62 d Φ p0 x1 w4
            else
              (bm_kt w4 p0 = 0) ∧ bm_Call bm_pg d y_X0_complain [bm_r (some p0), bm_i (3 : Int), bm_i x2] w4 (fun r5 w5 => 
                bm_c0 (bk_X0_readInput_62 d Φ p0 x1 w5) (fun E => Φ (.inr E) w5) r5))) (fun E => Φ (.inr E) w4) r4)
        else
          (bm_kt w3 p0 = 0) ∧ bm_Call bm_pg d y_X0_complain [bm_r (some p0), bm_i (4 : Int), bm_i x2] w3 (fun r6 w6 => 
            bm_c0 (bk_X0_readInput_62 d Φ p0 x1 w6) (fun E => Φ (.inr E) w6) r6))) (fun E => Φ (.inr E) w3) r3)) (fun E => Φ (.inr E) w2) r2)) (fun E => Φ (.inr E) w1) r1)) : bm_Call bm_pg (d + 1) y_X0_readInput [bm_r (some p0)] w Φ := bm_enter rfl (bm_go (bm_Call_mono _ _) [62] 61 _ h)
set_option maxRecDepth 20000 in
theorem vb_X0_readInput_62 {d : Nat} {Φ : bm_Rt → bm_W → Prop} {v0 : Nat} {v1 : Int} {w : bm_W} (h :
  (bm_kt w v0 = 0 ∧ bm_gr w v0 0 = some (bm_u (bm_gr w v0 0))) ∧
  (bm_kt w (bm_u (bm_gr w v0 0)) = 9) ∧ bm_Call bm_pg d y_X9_expect [bm_r (some (bm_u (bm_gr w v0 0))), bm_i (5 : Int)] w (fun r1 w1 => 
    bm_c1 (fun x1 => (bm_kt w1 v0 = 0) ∧ bm_Call bm_pg d y_X0_readWhole [bm_r (some v0), bm_i (-20 : Int), bm_i (20 : Int)] w1 (fun r2 w2 => 
      bm_c1 (fun x2 => (bm_kt w2 v0 = 0 ∧ bm_gr w2 v0 0 = some (bm_u (bm_gr w2 v0 0))) ∧
      (bm_kt w2 (bm_u (bm_gr w2 v0 0)) = 9) ∧ bm_Call bm_pg d y_X9_expect [bm_r (some (bm_u (bm_gr w2 v0 0))), bm_i (33 : Int)] w2 (fun r3 w3 => 
        bm_c1 (fun x3 => (bm_kt w3 v0 = 0) ∧ bm_Call bm_pg d y_X0_readWhole [bm_r (some v0), bm_i x2, bm_i (20 : Int)] w3 (fun r4 w4 => 
          bm_c1 (fun x4 => (bm_kt w4 v0 = 0 ∧ bm_gr w4 v0 4 = some (bm_u (bm_gr w4 v0 4))) ∧
          (bm_kt w4 (bm_u (bm_gr w4 v0 4)) = 1) ∧ bm_Call bm_pg d y_X1_addInput [bm_r (some (bm_u (bm_gr w4 v0 4))), bm_l v1, bm_i x2, bm_i x4] w4 (fun r5 w5 => 
            bm_c0 (Φ (.inl none) w5) (fun E => Φ (.inr E) w5) r5)) (fun E => Φ (.inr E) w4) r4)) (fun E => Φ (.inr E) w3) r3)) (fun E => Φ (.inr E) w2) r2)) (fun E => Φ (.inr E) w1) r1)) : bk_X0_readInput_62 d Φ v0 v1 w := bm_go (bm_Call_mono _ _) [62] 61 _ h
/-! CaseTables$Compiler.readTable()V -/
def bk_X0_readTable_24 (d : Nat) (Φ : bm_Rt → bm_W → Prop) (v0 : Nat) (w : bm_W) : Prop := bm_Wp (bm_Call bm_pg d) tb_X0_readTable Φ (24, [some (bm_r (some v0)), none, none], [], w)
def bk_X0_readTable_154 (d : Nat) (Φ : bm_Rt → bm_W → Prop) (v0 : Nat) (v2 : Int) (w : bm_W) : Prop := bm_Wp (bm_Call bm_pg d) tb_X0_readTable Φ (154, [some (bm_r (some v0)), none, some (bm_i v2)], [], w)
set_option maxRecDepth 20000 in
theorem vc_X0_readTable {d : Nat} {Φ : bm_Rt → bm_W → Prop} {p0 : Nat} {w : bm_W} (h :
  (bm_kt w p0 = 0 ∧ bm_gr w p0 1 = some (bm_u (bm_gr w p0 1))) ∧
  (bm_kt w (bm_u (bm_gr w p0 1)) = 3) ∧
  (if (decide ((bm_gi w (bm_u (bm_gr w p0 1)) 5) < (6 : Int))) = true then
    bk_X0_readTable_24 d Φ p0 w
  else
    (bm_kt w p0 = 0 ∧ bm_gr w p0 0 = some (bm_u (bm_gr w p0 0))) ∧
    (bm_kt w (bm_u (bm_gr w p0 0)) = 9) ∧ bm_Call bm_pg d y_X9_startHere [bm_r (some (bm_u (bm_gr w p0 0)))] w (fun r1 w1 => 
      bm_c1 (fun x1 => (bm_kt w1 p0 = 0) ∧ bm_Call bm_pg d y_X0_complain [bm_r (some p0), bm_i (4 : Int), bm_i x1] w1 (fun r2 w2 => 
        bm_c0 (bk_X0_readTable_24 d Φ p0 w2) (fun E => Φ (.inr E) w2) r2)) (fun E => Φ (.inr E) w1) r1))) : bm_Call bm_pg (d + 1) y_X0_readTable [bm_r (some p0)] w Φ := bm_enter rfl (bm_go (bm_Call_mono _ _) [24, 154] 97 _ h)
set_option maxRecDepth 20000 in
theorem vb_X0_readTable_24 {d : Nat} {Φ : bm_Rt → bm_W → Prop} {v0 : Nat} {w : bm_W} (h :
  (bm_kt w v0 = 0 ∧ bm_gr w v0 0 = some (bm_u (bm_gr w v0 0))) ∧
  (bm_kt w (bm_u (bm_gr w v0 0)) = 9) ∧ bm_Call bm_pg d y_X9_expect [bm_r (some (bm_u (bm_gr w v0 0))), bm_i (12 : Int)] w (fun r1 w1 => 
    bm_c1 (fun x1 => (bm_kt w1 v0 = 0 ∧ bm_gr w1 v0 1 = some (bm_u (bm_gr w1 v0 1))) ∧
    (bm_kt w1 (bm_u (bm_gr w1 v0 1)) = 3) ∧ bm_Call bm_pg d y_X3_nextTable [bm_r (some (bm_u (bm_gr w1 v0 1)))] w1 (fun r2 w2 => 
      bm_c3 (fun x2 => (bm_kt w2 v0 = 0) ∧
      (bm_kt (bm_sr w2 v0 5 (some x2)) v0 = 0 ∧ bm_gr (bm_sr w2 v0 5 (some x2)) v0 5 = some (bm_u (bm_gr (bm_sr w2 v0 5 (some x2)) v0 5))) ∧
      (bm_kt (bm_sr w2 v0 5 (some x2)) v0 = 0) ∧ bm_Call bm_pg d y_X0_readItemName [bm_r (some v0)] (bm_sr w2 v0 5 (some x2)) (fun r3 w3 => 
        bm_c2 (fun x3 => (bm_kt w3 (bm_u (bm_gr (bm_sr w2 v0 5 (some x2)) v0 5)) = 7) ∧
        (bm_kt (bm_sq w3 (bm_u (bm_gr (bm_sr w2 v0 5 (some x2)) v0 5)) 3 x3) v0 = 0 ∧ bm_gr (bm_sq w3 (bm_u (bm_gr (bm_sr w2 v0 5 (some x2)) v0 5)) 3 x3) v0 0 = some (bm_u (bm_gr (bm_sq w3 (bm_u (bm_gr (bm_sr w2 v0 5 (some x2)) v0 5)) 3 x3) v0 0))) ∧
        (bm_kt (bm_sq w3 (bm_u (bm_gr (bm_sr w2 v0 5 (some x2)) v0 5)) 3 x3) (bm_u (bm_gr (bm_sq w3 (bm_u (bm_gr (bm_sr w2 v0 5 (some x2)) v0 5)) 3 x3) v0 0)) = 9) ∧ bm_Call bm_pg d y_X9_expect [bm_r (some (bm_u (bm_gr (bm_sq w3 (bm_u (bm_gr (bm_sr w2 v0 5 (some x2)) v0 5)) 3 x3) v0 0))), bm_i (13 : Int)] (bm_sq w3 (bm_u (bm_gr (bm_sr w2 v0 5 (some x2)) v0 5)) 3 x3) (fun r4 w4 => 
          bm_c1 (fun x4 => (bm_kt w4 v0 = 0 ∧ bm_gr w4 v0 0 = some (bm_u (bm_gr w4 v0 0))) ∧
          (bm_kt w4 (bm_u (bm_gr w4 v0 0)) = 9) ∧ bm_Call bm_pg d y_X9_startHere [bm_r (some (bm_u (bm_gr w4 v0 0)))] w4 (fun r5 w5 => 
            bm_c1 (fun x5 => (bm_kt w5 v0 = 0 ∧ bm_gr w5 v0 5 = some (bm_u (bm_gr w5 v0 5))) ∧
            (bm_kt w5 v0 = 0 ∧ bm_gr w5 v0 1 = some (bm_u (bm_gr w5 v0 1))) ∧
            (bm_kt w5 v0 = 0 ∧ bm_gr w5 v0 0 = some (bm_u (bm_gr w5 v0 0))) ∧
            (bm_kt w5 (bm_u (bm_gr w5 v0 0)) = 9) ∧ bm_Call bm_pg d y_X9_valueHere [bm_r (some (bm_u (bm_gr w5 v0 0)))] w5 (fun r6 w6 => 
              bm_c2 (fun x6 => (bm_kt w6 (bm_u (bm_gr w5 v0 1)) = 3) ∧ bm_Call bm_pg d y_X3_funNamed [bm_r (some (bm_u (bm_gr w5 v0 1))), bm_l x6] w6 (fun r7 w7 => 
                bm_c1 (fun x7 => (bm_kt w7 (bm_u (bm_gr w5 v0 5)) = 7) ∧
                (bm_kt (bm_si w7 (bm_u (bm_gr w5 v0 5)) 4 x7) v0 = 0 ∧ bm_gr (bm_si w7 (bm_u (bm_gr w5 v0 5)) 4 x7) v0 0 = some (bm_u (bm_gr (bm_si w7 (bm_u (bm_gr w5 v0 5)) 4 x7) v0 0))) ∧
                (bm_kt (bm_si w7 (bm_u (bm_gr w5 v0 5)) 4 x7) (bm_u (bm_gr (bm_si w7 (bm_u (bm_gr w5 v0 5)) 4 x7) v0 0)) = 9) ∧ bm_Call bm_pg d y_X9_expect [bm_r (some (bm_u (bm_gr (bm_si w7 (bm_u (bm_gr w5 v0 5)) 4 x7) v0 0))), bm_i (3 : Int)] (bm_si w7 (bm_u (bm_gr w5 v0 5)) 4 x7) (fun r8 w8 => 
                  bm_c1 (fun x8 => (bm_kt w8 v0 = 0 ∧ bm_gr w8 v0 5 = some (bm_u (bm_gr w8 v0 5))) ∧
                  (bm_kt w8 (bm_u (bm_gr w8 v0 5)) = 7) ∧
                  (if (decide (0 ≤ (bm_gi w8 (bm_u (bm_gr w8 v0 5)) 4))) = true then
                    (bm_kt w8 v0 = 0 ∧ bm_gr w8 v0 1 = some (bm_u (bm_gr w8 v0 1))) ∧
                    (bm_kt w8 v0 = 0 ∧ bm_gr w8 v0 5 = some (bm_u (bm_gr w8 v0 5))) ∧
                    (bm_kt w8 (bm_u (bm_gr w8 v0 5)) = 7) ∧
                    (bm_kt w8 (bm_u (bm_gr w8 v0 1)) = 3) ∧ bm_Call bm_pg d y_X3_funAt [bm_r (some (bm_u (bm_gr w8 v0 1))), bm_i (bm_gi w8 (bm_u (bm_gr w8 v0 5)) 4)] w8 (fun r9 w9 => 
                      bm_c3 (fun x9 => (bm_kt w9 v0 = 0) ∧
                      (bm_kt (bm_sr w9 v0 4 (some x9)) v0 = 0 ∧ bm_gr (bm_sr w9 v0 4 (some x9)) v0 0 = some (bm_u (bm_gr (bm_sr w9 v0 4 (some x9)) v0 0))) ∧
                      (bm_kt (bm_sr w9 v0 4 (some x9)) (bm_u (bm_gr (bm_sr w9 v0 4 (some x9)) v0 0)) = 9) ∧ bm_Call bm_pg d y_X9_expect [bm_r (some (bm_u (bm_gr (bm_sr w9 v0 4 (some x9)) v0 0))), bm_i (20 : Int)] (bm_sr w9 v0 4 (some x9)) (fun r10 w10 => 
                        bm_c1 (fun x10 => (bm_kt w10 v0 = 0) ∧ bm_Call bm_pg d y_X0_readRow [bm_r (some v0)] w10 (fun r11 w11 => 
                          bm_c0 (bk_X0_readTable_154 d Φ v0 (1 : Int) w11) (fun E => Φ (.inr E) w11) r11)) (fun E => Φ (.inr E) w10) r10)) (fun E => Φ (.inr E) w9) r9)
                  else
                    (bm_kt w8 v0 = 0) ∧ bm_Call bm_pg d y_X0_complain [bm_r (some v0), bm_i (2 : Int), bm_i x5] w8 (fun r12 w12 => 
                      bm_c0 ((bm_kt w12 v0 = 0 ∧ bm_gr w12 v0 1 = some (bm_u (bm_gr w12 v0 1))) ∧
                      (bm_kt w12 v0 = 0 ∧ bm_gr w12 v0 5 = some (bm_u (bm_gr w12 v0 5))) ∧
                      (bm_kt w12 (bm_u (bm_gr w12 v0 5)) = 7) ∧
                      (bm_kt w12 (bm_u (bm_gr w12 v0 1)) = 3) ∧ bm_Call bm_pg d y_X3_funAt [bm_r (some (bm_u (bm_gr w12 v0 1))), bm_i (bm_gi w12 (bm_u (bm_gr w12 v0 5)) 4)] w12 (fun r13 w13 => 
                        bm_c3 (fun x13 => (bm_kt w13 v0 = 0) ∧
                        (bm_kt (bm_sr w13 v0 4 (some x13)) v0 = 0 ∧ bm_gr (bm_sr w13 v0 4 (some x13)) v0 0 = some (bm_u (bm_gr (bm_sr w13 v0 4 (some x13)) v0 0))) ∧
                        (bm_kt (bm_sr w13 v0 4 (some x13)) (bm_u (bm_gr (bm_sr w13 v0 4 (some x13)) v0 0)) = 9) ∧ bm_Call bm_pg d y_X9_expect [bm_r (some (bm_u (bm_gr (bm_sr w13 v0 4 (some x13)) v0 0))), bm_i (20 : Int)] (bm_sr w13 v0 4 (some x13)) (fun r14 w14 => 
                          bm_c1 (fun x14 => (bm_kt w14 v0 = 0) ∧ bm_Call bm_pg d y_X0_readRow [bm_r (some v0)] w14 (fun r15 w15 => 
                            bm_c0 (bk_X0_readTable_154 d Φ v0 (1 : Int) w15) (fun E => Φ (.inr E) w15) r15)) (fun E => Φ (.inr E) w14) r14)) (fun E => Φ (.inr E) w13) r13)) (fun E => Φ (.inr E) w12) r12))) (fun E => Φ (.inr E) w8) r8)) (fun E => Φ (.inr E) w7) r7)) (fun E => Φ (.inr E) w6) r6)) (fun E => Φ (.inr E) w5) r5)) (fun E => Φ (.inr E) w4) r4)) (fun E => Φ (.inr E) w3) r3)) (fun E => Φ (.inr E) w2) r2)) (fun E => Φ (.inr E) w1) r1)) : bk_X0_readTable_24 d Φ v0 w := bm_go (bm_Call_mono _ _) [24, 154] 97 _ h
set_option maxRecDepth 20000 in
theorem vb_X0_readTable_154 {d : Nat} {Φ : bm_Rt → bm_W → Prop} {v0 : Nat} {v2 : Int} {w : bm_W} (h :
  (if (decide ((1500 : Int) ≤ v2)) = true then
    (bm_kt w v0 = 0 ∧ bm_gr w v0 0 = some (bm_u (bm_gr w v0 0))) ∧
    (bm_kt w (bm_u (bm_gr w v0 0)) = 9) ∧ bm_Call bm_pg d y_X9_expect [bm_r (some (bm_u (bm_gr w v0 0))), bm_i (19 : Int)] w (fun r1 w1 => 
      bm_c1 (fun x1 => (bm_kt w1 v0 = 0 ∧ bm_gr w1 v0 1 = some (bm_u (bm_gr w1 v0 1))) ∧
      (bm_kt w1 (bm_u (bm_gr w1 v0 1)) = 3) ∧ bm_Call bm_pg d y_X3_keepTable [bm_r (some (bm_u (bm_gr w1 v0 1)))] w1 (fun r2 w2 => 
        bm_c0 (Φ (.inl none) w2) (fun E => Φ (.inr E) w2) r2)) (fun E => Φ (.inr E) w1) r1)
  else
    (bm_kt w v0 = 0 ∧ bm_gr w v0 0 = some (bm_u (bm_gr w v0 0))) ∧
    (bm_kt w (bm_u (bm_gr w v0 0)) = 9) ∧ bm_Call bm_pg d y_X9_passes [bm_r (some (bm_u (bm_gr w v0 0))), bm_i (21 : Int)] w (fun r3 w3 => 
      bm_c1 (fun x3 => (if (decide (x3 = 0)) = true then
        (bm_kt w3 v0 = 0 ∧ bm_gr w3 v0 0 = some (bm_u (bm_gr w3 v0 0))) ∧
        (bm_kt w3 (bm_u (bm_gr w3 v0 0)) = 9) ∧ bm_Call bm_pg d y_X9_expect [bm_r (some (bm_u (bm_gr w3 v0 0))), bm_i (19 : Int)] w3 (fun r4 w4 => 
          bm_c1 (fun x4 => (bm_kt w4 v0 = 0 ∧ bm_gr w4 v0 1 = some (bm_u (bm_gr w4 v0 1))) ∧
          (bm_kt w4 (bm_u (bm_gr w4 v0 1)) = 3) ∧ bm_Call bm_pg d y_X3_keepTable [bm_r (some (bm_u (bm_gr w4 v0 1)))] w4 (fun r5 w5 => 
            bm_c0 (Φ (.inl none) w5) (fun E => Φ (.inr E) w5) r5)) (fun E => Φ (.inr E) w4) r4)
      else
        (bm_kt w3 v0 = 0) ∧ bm_Call bm_pg d y_X0_readRow [bm_r (some v0)] w3 (fun r6 w6 => 
          bm_c0 (bk_X0_readTable_154 d Φ v0 (bm_w (v2 + 1)) w6) (fun E => Φ (.inr E) w6) r6))) (fun E => Φ (.inr E) w3) r3))) : bk_X0_readTable_154 d Φ v0 v2 w := bm_go (bm_Call_mono _ _) [24, 154] 97 _ h
/-! CaseTables$Compiler.readRow()V -/
def bk_X0_readRow_42 (d : Nat) (Φ : bm_Rt → bm_W → Prop) (v0 : Nat) (v1 : Int) (v2 : Nat) (v3 : Int) (w : bm_W) : Prop := bm_Wp (bm_Call bm_pg d) tb_X0_readRow Φ (42, [some (bm_r (some v0)), some (bm_i v1), some (bm_r (some v2)), some (bm_i v3)], [], w)
def bk_X0_readRow_73 (d : Nat) (Φ : bm_Rt → bm_W → Prop) (v0 : Nat) (v1 : Int) (v2 : Nat) (v3 : Int) (w : bm_W) : Prop := bm_Wp (bm_Call bm_pg d) tb_X0_readRow Φ (73, [some (bm_r (some v0)), some (bm_i v1), some (bm_r (some v2)), some (bm_i v3)], [], w)
set_option maxRecDepth 20000 in
theorem vc_X0_readRow {d : Nat} {Φ : bm_Rt → bm_W → Prop} {p0 : Nat} {w : bm_W} (h :
  (bm_kt w p0 = 0 ∧ bm_gr w p0 0 = some (bm_u (bm_gr w p0 0))) ∧
  (bm_kt w (bm_u (bm_gr w p0 0)) = 9) ∧ bm_Call bm_pg d y_X9_startHere [bm_r (some (bm_u (bm_gr w p0 0)))] w (fun r1 w1 => 
    bm_c1 (fun x1 => (bm_kt w1 p0 = 0 ∧ bm_gr w1 p0 5 = some (bm_u (bm_gr w1 p0 5))) ∧
    (bm_kt w1 (bm_u (bm_gr w1 p0 5)) = 7) ∧
    (if (decide ((bm_gi w1 (bm_u (bm_gr w1 p0 5)) 5) < (12 : Int))) = true then
      (bm_kt w1 p0 = 0 ∧ bm_gr w1 p0 5 = some (bm_u (bm_gr w1 p0 5))) ∧
      (bm_kt w1 (bm_u (bm_gr w1 p0 5)) = 7) ∧ bm_Call bm_pg d y_X7_nextRow [bm_r (some (bm_u (bm_gr w1 p0 5)))] w1 (fun r2 w2 => 
        bm_c3 (fun x2 => (bm_kt w2 p0 = 0) ∧ bm_Call bm_pg d y_X0_readCell [bm_r (some p0), bm_r (some x2), bm_i (0 : Int)] w2 (fun r3 w3 => 
          bm_c0 (bk_X0_readRow_42 d Φ p0 x1 x2 (1 : Int) w3) (fun E => Φ (.inr E) w3) r3)) (fun E => Φ (.inr E) w2) r2)
    else
      (bm_kt w1 p0 = 0) ∧ bm_Call bm_pg d y_X0_complain [bm_r (some p0), bm_i (4 : Int), bm_i x1] w1 (fun r4 w4 => 
        bm_c0 ((bm_kt w4 p0 = 0 ∧ bm_gr w4 p0 5 = some (bm_u (bm_gr w4 p0 5))) ∧
        (bm_kt w4 (bm_u (bm_gr w4 p0 5)) = 7) ∧ bm_Call bm_pg d y_X7_nextRow [bm_r (some (bm_u (bm_gr w4 p0 5)))] w4 (fun r5 w5 => 
          bm_c3 (fun x5 => (bm_kt w5 p0 = 0) ∧ bm_Call bm_pg d y_X0_readCell [bm_r (some p0), bm_r (some x5), bm_i (0 : Int)] w5 (fun r6 w6 => 
            bm_c0 (bk_X0_readRow_42 d Φ p0 x1 x5 (1 : Int) w6) (fun E => Φ (.inr E) w6) r6)) (fun E => Φ (.inr E) w5) r5)) (fun E => Φ (.inr E) w4) r4))) (fun E => Φ (.inr E) w1) r1)) : bm_Call bm_pg (d + 1) y_X0_readRow [bm_r (some p0)] w Φ := bm_enter rfl (bm_go (bm_Call_mono _ _) [42, 73] 69 _ h)
set_option maxRecDepth 20000 in
theorem vb_X0_readRow_42 {d : Nat} {Φ : bm_Rt → bm_W → Prop} {v0 : Nat} {v1 : Int} {v2 : Nat} {v3 : Int} {w : bm_W} (h :
  (if (decide ((1500 : Int) ≤ v3)) = true then
    bk_X0_readRow_73 d Φ v0 v1 v2 v3 w
  else
    (bm_kt w v0 = 0 ∧ bm_gr w v0 0 = some (bm_u (bm_gr w v0 0))) ∧
    (bm_kt w (bm_u (bm_gr w v0 0)) = 9) ∧ bm_Call bm_pg d y_X9_passes [bm_r (some (bm_u (bm_gr w v0 0))), bm_i (18 : Int)] w (fun r1 w1 => 
      bm_c1 (fun x1 => (if (decide (x1 = 0)) = true then
        bk_X0_readRow_73 d Φ v0 v1 v2 v3 w1
      else
        (bm_kt w1 v0 = 0) ∧ bm_Call bm_pg d y_X0_readCell [bm_r (some v0), bm_r (some v2), bm_i v3] w1 (fun r2 w2 => 
          bm_c0 (bk_X0_readRow_42 d Φ v0 v1 v2 (bm_w (v3 + 1)) w2) (fun E => Φ (.inr E) w2) r2))) (fun E => Φ (.inr E) w1) r1))) : bk_X0_readRow_42 d Φ v0 v1 v2 v3 w := bm_go (bm_Call_mono _ _) [42, 73] 69 _ h
set_option maxRecDepth 20000 in
theorem vb_X0_readRow_73 {d : Nat} {Φ : bm_Rt → bm_W → Prop} {v0 : Nat} {v1 : Int} {v2 : Nat} {v3 : Int} {w : bm_W} (h :
  (bm_kt w v0 = 0 ∧ bm_gr w v0 4 = some (bm_u (bm_gr w v0 4))) ∧
  (bm_kt w (bm_u (bm_gr w v0 4)) = 1) ∧
  (if (decide (v3 = (bm_gi w (bm_u (bm_gr w v0 4)) 6))) = true then
    (bm_kt w v0 = 0 ∧ bm_gr w v0 0 = some (bm_u (bm_gr w v0 0))) ∧
    (bm_kt w (bm_u (bm_gr w v0 0)) = 9) ∧ bm_Call bm_pg d y_X9_expect [bm_r (some (bm_u (bm_gr w v0 0))), bm_i (20 : Int)] w (fun r1 w1 => 
      bm_c1 (fun x1 => (bm_kt w1 v0 = 0) ∧ bm_Call bm_pg d y_X0_readResult [bm_r (some v0), bm_r (some v2)] w1 (fun r2 w2 => 
        bm_c0 ((bm_kt w2 v0 = 0 ∧ bm_gr w2 v0 5 = some (bm_u (bm_gr w2 v0 5))) ∧
        (bm_kt w2 (bm_u (bm_gr w2 v0 5)) = 7) ∧ bm_Call bm_pg d y_X7_keepRow [bm_r (some (bm_u (bm_gr w2 v0 5)))] w2 (fun r3 w3 => 
          bm_c0 ((bm_kt w3 v0 = 0 ∧ bm_gr w3 v0 5 = some (bm_u (bm_gr w3 v0 5))) ∧
          (bm_kt w3 (bm_u (bm_gr w3 v0 5)) = 7) ∧
          (if (decide ((bm_gi w3 (bm_u (bm_gr w3 v0 5)) 6) ≤ (100 : Int))) = true then
            Φ (.inl none) w3
          else
            (bm_kt w3 v0 = 0) ∧ bm_Call bm_pg d y_X0_complain [bm_r (some v0), bm_i (4 : Int), bm_i v1] w3 (fun r4 w4 => 
              bm_c0 (Φ (.inl none) w4) (fun E => Φ (.inr E) w4) r4))) (fun E => Φ (.inr E) w3) r3)) (fun E => Φ (.inr E) w2) r2)) (fun E => Φ (.inr E) w1) r1)
  else
    (bm_kt w v0 = 0) ∧ bm_Call bm_pg d y_X0_complain [bm_r (some v0), bm_i (6 : Int), bm_i v1] w (fun r5 w5 => 
      bm_c0 ((bm_kt w5 v0 = 0 ∧ bm_gr w5 v0 0 = some (bm_u (bm_gr w5 v0 0))) ∧
      (bm_kt w5 (bm_u (bm_gr w5 v0 0)) = 9) ∧ bm_Call bm_pg d y_X9_expect [bm_r (some (bm_u (bm_gr w5 v0 0))), bm_i (20 : Int)] w5 (fun r6 w6 => 
        bm_c1 (fun x6 => (bm_kt w6 v0 = 0) ∧ bm_Call bm_pg d y_X0_readResult [bm_r (some v0), bm_r (some v2)] w6 (fun r7 w7 => 
          bm_c0 ((bm_kt w7 v0 = 0 ∧ bm_gr w7 v0 5 = some (bm_u (bm_gr w7 v0 5))) ∧
          (bm_kt w7 (bm_u (bm_gr w7 v0 5)) = 7) ∧ bm_Call bm_pg d y_X7_keepRow [bm_r (some (bm_u (bm_gr w7 v0 5)))] w7 (fun r8 w8 => 
            bm_c0 ((bm_kt w8 v0 = 0 ∧ bm_gr w8 v0 5 = some (bm_u (bm_gr w8 v0 5))) ∧
            (bm_kt w8 (bm_u (bm_gr w8 v0 5)) = 7) ∧
            (if (decide ((bm_gi w8 (bm_u (bm_gr w8 v0 5)) 6) ≤ (100 : Int))) = true then
              Φ (.inl none) w8
            else
              (bm_kt w8 v0 = 0) ∧ bm_Call bm_pg d y_X0_complain [bm_r (some v0), bm_i (4 : Int), bm_i v1] w8 (fun r9 w9 => 
                bm_c0 (Φ (.inl none) w9) (fun E => Φ (.inr E) w9) r9))) (fun E => Φ (.inr E) w8) r8)) (fun E => Φ (.inr E) w7) r7)) (fun E => Φ (.inr E) w6) r6)) (fun E => Φ (.inr E) w5) r5))) : bk_X0_readRow_73 d Φ v0 v1 v2 v3 w := bm_go (bm_Call_mono _ _) [42, 73] 69 _ h
/-! CaseTables$Compiler.readCell(LCaseTables$Row;I)V -/
def bk_X0_readCell_16 (d : Nat) (Φ : bm_Rt → bm_W → Prop) (v0 : Nat) (v1 : Nat) (v2 : Int) (s0 : Int) (w : bm_W) : Prop := bm_Wp (bm_Call bm_pg d) tb_X0_readCell Φ (16, [some (bm_r (some v0)), some (bm_r (some v1)), some (bm_i v2), none, none, none, none, none], [bm_i s0], w)
def bk_X0_readCell_61 (d : Nat) (Φ : bm_Rt → bm_W → Prop) (v0 : Nat) (v1 : Nat) (v2 : Int) (v3 : Int) (v4 : Int) (s0 : Int) (w : bm_W) : Prop := bm_Wp (bm_Call bm_pg d) tb_X0_readCell Φ (61, [some (bm_r (some v0)), some (bm_r (some v1)), some (bm_i v2), some (bm_i v3), some (bm_i v4), none, none, none], [bm_i s0], w)
set_option maxRecDepth 20000 in
theorem vc_X0_readCell {d : Nat} {Φ : bm_Rt → bm_W → Prop} {p0 : Nat} {p1 : Nat} {p2 : Int} {w : bm_W} (h :
  (bm_kt w p0 = 0 ∧ bm_gr w p0 4 = some (bm_u (bm_gr w p0 4))) ∧
  (bm_kt w (bm_u (bm_gr w p0 4)) = 1) ∧
  (if (decide ((bm_gi w (bm_u (bm_gr w p0 4)) 6) ≤ p2)) = true then
    bk_X0_readCell_16 d Φ p0 p1 p2 (0 : Int) w
  else
    bk_X0_readCell_16 d Φ p0 p1 p2 (1 : Int) w)) : bm_Call bm_pg (d + 1) y_X0_readCell [bm_r (some p0), bm_r (some p1), bm_i p2] w Φ := bm_enter rfl (bm_go (bm_Call_mono _ _) [16, 61] 71 _ h)
set_option maxRecDepth 20000 in
theorem vb_X0_readCell_16 {d : Nat} {Φ : bm_Rt → bm_W → Prop} {v0 : Nat} {v1 : Nat} {v2 : Int} {s0 : Int} {w : bm_W} (h :
  (if (decide (s0 = 0)) = true then
    (if (decide (s0 = 0)) = true then
      bk_X0_readCell_61 d Φ v0 v1 v2 s0 (-9999 : Int) (9999 : Int) w
    else
      (bm_kt w v0 = 0 ∧ bm_gr w v0 4 = some (bm_u (bm_gr w v0 4))) ∧
      (bm_kt w (bm_u (bm_gr w v0 4)) = 1 ∧ bm_gr w (bm_u (bm_gr w v0 4)) 1 = some (bm_u (bm_gr w (bm_u (bm_gr w v0 4)) 1))) ∧
      (bm_kt w (bm_u (bm_gr w (bm_u (bm_gr w v0 4)) 1)) = 4) ∧ bm_Call bm_pg d y_X4_high [bm_r (some (bm_u (bm_gr w (bm_u (bm_gr w v0 4)) 1))), bm_i v2] w (fun r1 w1 => 
        bm_c1 (fun x1 => bk_X0_readCell_61 d Φ v0 v1 v2 s0 (-9999 : Int) x1 w1) (fun E => Φ (.inr E) w1) r1))
  else
    (bm_kt w v0 = 0 ∧ bm_gr w v0 4 = some (bm_u (bm_gr w v0 4))) ∧
    (bm_kt w (bm_u (bm_gr w v0 4)) = 1 ∧ bm_gr w (bm_u (bm_gr w v0 4)) 1 = some (bm_u (bm_gr w (bm_u (bm_gr w v0 4)) 1))) ∧
    (bm_kt w (bm_u (bm_gr w (bm_u (bm_gr w v0 4)) 1)) = 4) ∧ bm_Call bm_pg d y_X4_low [bm_r (some (bm_u (bm_gr w (bm_u (bm_gr w v0 4)) 1))), bm_i v2] w (fun r2 w2 => 
      bm_c1 (fun x2 => (if (decide (s0 = 0)) = true then
        bk_X0_readCell_61 d Φ v0 v1 v2 s0 x2 (9999 : Int) w2
      else
        (bm_kt w2 v0 = 0 ∧ bm_gr w2 v0 4 = some (bm_u (bm_gr w2 v0 4))) ∧
        (bm_kt w2 (bm_u (bm_gr w2 v0 4)) = 1 ∧ bm_gr w2 (bm_u (bm_gr w2 v0 4)) 1 = some (bm_u (bm_gr w2 (bm_u (bm_gr w2 v0 4)) 1))) ∧
        (bm_kt w2 (bm_u (bm_gr w2 (bm_u (bm_gr w2 v0 4)) 1)) = 4) ∧ bm_Call bm_pg d y_X4_high [bm_r (some (bm_u (bm_gr w2 (bm_u (bm_gr w2 v0 4)) 1))), bm_i v2] w2 (fun r3 w3 => 
          bm_c1 (fun x3 => bk_X0_readCell_61 d Φ v0 v1 v2 s0 x2 x3 w3) (fun E => Φ (.inr E) w3) r3))) (fun E => Φ (.inr E) w2) r2))) : bk_X0_readCell_16 d Φ v0 v1 v2 s0 w := bm_go (bm_Call_mono _ _) [16, 61] 71 _ h
set_option maxRecDepth 20000 in
theorem vb_X0_readCell_61 {d : Nat} {Φ : bm_Rt → bm_W → Prop} {v0 : Nat} {v1 : Nat} {v2 : Int} {v3 : Int} {v4 : Int} {s0 : Int} {w : bm_W} (h :
  (bm_kt w v0 = 0 ∧ bm_gr w v0 0 = some (bm_u (bm_gr w v0 0))) ∧
  (bm_kt w (bm_u (bm_gr w v0 0)) = 9) ∧ bm_Call bm_pg d y_X9_passes [bm_r (some (bm_u (bm_gr w v0 0))), bm_i (30 : Int)] w (fun r1 w1 => 
    bm_c1 (fun x1 => (if (decide (x1 = 0)) = true then
      (bm_kt w1 v0 = 0) ∧ bm_Call bm_pg d y_X0_readWhole [bm_r (some v0), bm_i v4, bm_i s0] w1 (fun r2 w2 => 
        bm_c1 (fun x2 => (bm_kt w2 v0 = 0 ∧ bm_gr w2 v0 0 = some (bm_u (bm_gr w2 v0 0))) ∧
        (bm_kt w2 (bm_u (bm_gr w2 v0 0)) = 9) ∧ bm_Call bm_pg d y_X9_passes [bm_r (some (bm_u (bm_gr w2 v0 0))), bm_i (33 : Int)] w2 (fun r3 w3 => 
          bm_c1 (fun x3 => (if (decide (x3 = 0)) = true then
            (bm_kt w3 v1 = 5 ∧ bm_gr w3 v1 0 = some (bm_u (bm_gr w3 v1 0))) ∧
            (bm_kt w3 (bm_u (bm_gr w3 v1 0)) = 4) ∧ bm_Call bm_pg d y_X4_put [bm_r (some (bm_u (bm_gr w3 v1 0))), bm_i v2, bm_i x2, bm_i x2] w3 (fun r4 w4 => 
              bm_c0 (Φ (.inl none) w4) (fun E => Φ (.inr E) w4) r4)
          else
            (if (decide (v3 = 0)) = true then
              (bm_kt w3 v0 = 0) ∧ bm_Call bm_pg d y_X0_readWhole [bm_r (some v0), bm_i v4, bm_i s0] w3 (fun r5 w5 => 
                bm_c1 (fun x5 => (bm_kt w5 v1 = 5 ∧ bm_gr w5 v1 0 = some (bm_u (bm_gr w5 v1 0))) ∧
                (bm_kt w5 (bm_u (bm_gr w5 v1 0)) = 4) ∧ bm_Call bm_pg d y_X4_put [bm_r (some (bm_u (bm_gr w5 v1 0))), bm_i v2, bm_i x2, bm_i x5] w5 (fun r6 w6 => 
                  bm_c0 (Φ (.inl none) w6) (fun E => Φ (.inr E) w6) r6)) (fun E => Φ (.inr E) w5) r5)
            else
              (bm_kt w3 v0 = 0) ∧ bm_Call bm_pg d y_X0_readWhole [bm_r (some v0), bm_i x2, bm_i s0] w3 (fun r7 w7 => 
                bm_c1 (fun x7 => (bm_kt w7 v1 = 5 ∧ bm_gr w7 v1 0 = some (bm_u (bm_gr w7 v1 0))) ∧
                (bm_kt w7 (bm_u (bm_gr w7 v1 0)) = 4) ∧ bm_Call bm_pg d y_X4_put [bm_r (some (bm_u (bm_gr w7 v1 0))), bm_i v2, bm_i x2, bm_i x7] w7 (fun r8 w8 => 
                  bm_c0 (Φ (.inl none) w8) (fun E => Φ (.inr E) w8) r8)) (fun E => Φ (.inr E) w7) r7)))) (fun E => Φ (.inr E) w3) r3)) (fun E => Φ (.inr E) w2) r2)
    else
      (bm_kt w1 v1 = 5 ∧ bm_gr w1 v1 0 = some (bm_u (bm_gr w1 v1 0))) ∧
      (bm_kt w1 (bm_u (bm_gr w1 v1 0)) = 4) ∧ bm_Call bm_pg d y_X4_put [bm_r (some (bm_u (bm_gr w1 v1 0))), bm_i v2, bm_i v4, bm_i s0] w1 (fun r9 w9 => 
        bm_c0 (Φ (.inl none) w9) (fun E => Φ (.inr E) w9) r9))) (fun E => Φ (.inr E) w1) r1)) : bk_X0_readCell_61 d Φ v0 v1 v2 v3 v4 s0 w := bm_go (bm_Call_mono _ _) [16, 61] 71 _ h
/-! CaseTables$Compiler.readResult(LCaseTables$Row;)V -/
set_option maxRecDepth 20000 in
theorem vc_X0_readResult {d : Nat} {Φ : bm_Rt → bm_W → Prop} {p0 : Nat} {p1 : Nat} {w : bm_W} (h :
  (bm_kt w p0 = 0 ∧ bm_gr w p0 0 = some (bm_u (bm_gr w p0 0))) ∧
  (bm_kt w (bm_u (bm_gr w p0 0)) = 9) ∧ bm_Call bm_pg d y_X9_oneOf [bm_r (some (bm_u (bm_gr w p0 0))), bm_i (22 : Int), bm_i (27 : Int)] w (fun r1 w1 => 
    bm_c1 (fun x1 => (bm_kt w1 p0 = 0 ∧ bm_gr w1 p0 0 = some (bm_u (bm_gr w1 p0 0))) ∧
    (bm_kt w1 (bm_u (bm_gr w1 p0 0)) = 9) ∧ bm_Call bm_pg d y_X9_passes [bm_r (some (bm_u (bm_gr w1 p0 0))), bm_i x1] w1 (fun r2 w2 => 
      bm_c1 (fun x2 => (if (decide (x2 = 0)) = true then
        (bm_kt w2 p0 = 0 ∧ bm_gr w2 p0 0 = some (bm_u (bm_gr w2 p0 0))) ∧
        (bm_kt w2 (bm_u (bm_gr w2 p0 0)) = 9) ∧ bm_Call bm_pg d y_X9_passes [bm_r (some (bm_u (bm_gr w2 p0 0))), bm_i (14 : Int)] w2 (fun r3 w3 => 
          bm_c1 (fun x3 => (if (decide (x3 = 0)) = true then
            (bm_kt w3 p0 = 0 ∧ bm_gr w3 p0 0 = some (bm_u (bm_gr w3 p0 0))) ∧
            (bm_kt w3 (bm_u (bm_gr w3 p0 0)) = 9) ∧ bm_Call bm_pg d y_X9_expect [bm_r (some (bm_u (bm_gr w3 p0 0))), bm_i (15 : Int)] w3 (fun r4 w4 => 
              bm_c1 (fun x4 => (bm_kt w4 p1 = 5) ∧
              Φ (.inl none) (bm_si w4 p1 1 (15 : Int))) (fun E => Φ (.inr E) w4) r4)
          else
            (bm_kt w3 p1 = 5) ∧
            Φ (.inl none) (bm_si w3 p1 1 (14 : Int)))) (fun E => Φ (.inr E) w3) r3)
      else
        (bm_kt w2 p1 = 5) ∧
        (bm_kt (bm_si w2 p1 1 x1) p0 = 0) ∧ bm_Call bm_pg d y_X0_readWhole [bm_r (some p0), bm_i (-9999 : Int), bm_i (9999 : Int)] (bm_si w2 p1 1 x1) (fun r5 w5 => 
          bm_c1 (fun x5 => (bm_kt w5 p1 = 5) ∧
          Φ (.inl none) (bm_sq w5 p1 2 x5)) (fun E => Φ (.inr E) w5) r5))) (fun E => Φ (.inr E) w2) r2)) (fun E => Φ (.inr E) w1) r1)) : bm_Call bm_pg (d + 1) y_X0_readResult [bm_r (some p0), bm_r (some p1)] w Φ := bm_enter rfl (bm_go (bm_Call_mono _ _) [] 42 _ h)
/-! CaseTables$Compiler.readBody()V -/
set_option maxRecDepth 20000 in
theorem vc_X0_readBody {d : Nat} {Φ : bm_Rt → bm_W → Prop} {p0 : Nat} {w : bm_W} (h :
  (bm_kt w p0 = 0 ∧ bm_gr w p0 0 = some (bm_u (bm_gr w p0 0))) ∧
  (bm_kt w (bm_u (bm_gr w p0 0)) = 9) ∧
  (bm_kt w p0 = 0 ∧ bm_gr w p0 0 = some (bm_u (bm_gr w p0 0))) ∧
  (bm_kt w (bm_u (bm_gr w p0 0)) = 9) ∧ bm_Call bm_pg d y_X9_allow [bm_r (some (bm_u (bm_gr w p0 0))), bm_i (50 : Int)] w (fun r1 w1 => 
    bm_c0 ((bm_kt w1 p0 = 0) ∧ bm_Call bm_pg d y_X0_readExpression [bm_r (some p0), bm_i (0 : Int)] w1 (fun r2 w2 => 
      bm_c0 ((bm_kt w2 p0 = 0 ∧ bm_gr w2 p0 0 = some (bm_u (bm_gr w2 p0 0))) ∧
      (bm_kt w2 (bm_u (bm_gr w2 p0 0)) = 9) ∧ bm_Call bm_pg d y_X9_allowAll [bm_r (some (bm_u (bm_gr w2 p0 0)))] w2 (fun r3 w3 => 
        bm_c0 ((bm_kt w3 p0 = 0 ∧ bm_gr w3 p0 4 = some (bm_u (bm_gr w3 p0 4))) ∧
        (bm_kt w3 (bm_u (bm_gr w3 p0 4)) = 1) ∧
        (bm_kt w3 p0 = 0 ∧ bm_gr w3 p0 0 = some (bm_u (bm_gr w3 p0 0))) ∧
        (bm_kt w3 (bm_u (bm_gr w3 p0 0)) = 9) ∧
        (bm_kt w3 (bm_u (bm_gr w3 p0 4)) = 1) ∧
        Φ (.inl none) (bm_si w3 (bm_u (bm_gr w3 p0 4)) 9 (bm_w ((bm_gi w3 (bm_u (bm_gr w3 p0 4)) 9) + (bm_w ((bm_gi w3 (bm_u (bm_gr w3 p0 0)) 8) - (bm_gi w (bm_u (bm_gr w p0 0)) 8))))))) (fun E => Φ (.inr E) w3) r3)) (fun E => Φ (.inr E) w2) r2)) (fun E => Φ (.inr E) w1) r1)) : bm_Call bm_pg (d + 1) y_X0_readBody [bm_r (some p0)] w Φ := bm_enter rfl (bm_go (bm_Call_mono _ _) [] 28 _ h)
/-! CaseTables$Compiler.readExpression(I)V -/
def bk_X0_readExpression_25 (d : Nat) (Φ : bm_Rt → bm_W → Prop) (v0 : Nat) (v1 : Int) (v2 : Int) (w : bm_W) : Prop := bm_Wp (bm_Call bm_pg d) tb_X0_readExpression Φ (25, [some (bm_r (some v0)), some (bm_i v1), some (bm_i v2), none], [], w)
set_option maxRecDepth 20000 in
theorem vc_X0_readExpression {d : Nat} {Φ : bm_Rt → bm_W → Prop} {p0 : Nat} {p1 : Int} {w : bm_W} (h :
  (bm_kt w p0 = 0 ∧ bm_gr w p0 0 = some (bm_u (bm_gr w p0 0))) ∧
  (bm_kt w (bm_u (bm_gr w p0 0)) = 9) ∧ bm_Call bm_pg d y_X9_sees [bm_r (some (bm_u (bm_gr w p0 0))), bm_i (6 : Int)] w (fun r1 w1 => 
    bm_c1 (fun x1 => (if (decide (x1 = 0)) = true then
      (bm_kt w1 p0 = 0) ∧ bm_Call bm_pg d y_X0_readBoth [bm_r (some p0), bm_i p1] w1 (fun r2 w2 => 
        bm_c0 (bk_X0_readExpression_25 d Φ p0 p1 (1 : Int) w2) (fun E => Φ (.inr E) w2) r2)
    else
      (bm_kt w1 p0 = 0) ∧ bm_Call bm_pg d y_X0_readChoice [bm_r (some p0), bm_i p1] w1 (fun r3 w3 => 
        bm_c0 (Φ (.inl none) w3) (fun E => Φ (.inr E) w3) r3))) (fun E => Φ (.inr E) w1) r1)) : bm_Call bm_pg (d + 1) y_X0_readExpression [bm_r (some p0), bm_i p1] w Φ := bm_enter rfl (bm_go (bm_Call_mono _ _) [25] 42 _ h)
set_option maxRecDepth 20000 in
theorem vb_X0_readExpression_25 {d : Nat} {Φ : bm_Rt → bm_W → Prop} {v0 : Nat} {v1 : Int} {v2 : Int} {w : bm_W} (h :
  (if (decide ((50 : Int) ≤ v2)) = true then
    Φ (.inl none) w
  else
    (bm_kt w v0 = 0 ∧ bm_gr w v0 0 = some (bm_u (bm_gr w v0 0))) ∧
    (bm_kt w (bm_u (bm_gr w v0 0)) = 9) ∧ bm_Call bm_pg d y_X9_passes [bm_r (some (bm_u (bm_gr w v0 0))), bm_i (10 : Int)] w (fun r1 w1 => 
      bm_c1 (fun x1 => (if (decide (x1 = 0)) = true then
        Φ (.inl none) w1
      else
        (bm_kt w1 v0 = 0 ∧ bm_gr w1 v0 4 = some (bm_u (bm_gr w1 v0 4))) ∧
        (bm_kt w1 v0 = 0 ∧ bm_gr w1 v0 4 = some (bm_u (bm_gr w1 v0 4))) ∧
        (bm_kt w1 (bm_u (bm_gr w1 v0 4)) = 1) ∧ bm_Call bm_pg d y_X1_nextPlace [bm_r (some (bm_u (bm_gr w1 v0 4)))] w1 (fun r2 w2 => 
          bm_c1 (fun x2 => (bm_kt w2 (bm_u (bm_gr w1 v0 4)) = 1) ∧ bm_Call bm_pg d y_X1_emit [bm_r (some (bm_u (bm_gr w1 v0 4))), bm_i (10 : Int), bm_i (0 : Int), bm_i x2] w2 (fun r3 w3 => 
            bm_c1 (fun x3 => (bm_kt w3 v0 = 0) ∧ bm_Call bm_pg d y_X0_readBoth [bm_r (some v0), bm_i v1] w3 (fun r4 w4 => 
              bm_c0 ((bm_kt w4 v0 = 0) ∧ bm_Call bm_pg d y_X0_endSecond [bm_r (some v0), bm_i x3] w4 (fun r5 w5 => 
                bm_c0 (bk_X0_readExpression_25 d Φ v0 v1 (bm_w (v2 + 1)) w5) (fun E => Φ (.inr E) w5) r5)) (fun E => Φ (.inr E) w4) r4)) (fun E => Φ (.inr E) w3) r3)) (fun E => Φ (.inr E) w2) r2))) (fun E => Φ (.inr E) w1) r1))) : bk_X0_readExpression_25 d Φ v0 v1 v2 w := bm_go (bm_Call_mono _ _) [25] 42 _ h
/-! CaseTables$Compiler.readBoth(I)V -/
def bk_X0_readBoth_7 (d : Nat) (Φ : bm_Rt → bm_W → Prop) (v0 : Nat) (v1 : Int) (v2 : Int) (w : bm_W) : Prop := bm_Wp (bm_Call bm_pg d) tb_X0_readBoth Φ (7, [some (bm_r (some v0)), some (bm_i v1), some (bm_i v2), none], [], w)
set_option maxRecDepth 20000 in
theorem vc_X0_readBoth {d : Nat} {Φ : bm_Rt → bm_W → Prop} {p0 : Nat} {p1 : Int} {w : bm_W} (h :
  (bm_kt w p0 = 0) ∧ bm_Call bm_pg d y_X0_readRelation [bm_r (some p0), bm_i p1] w (fun r1 w1 => 
    bm_c0 (bk_X0_readBoth_7 d Φ p0 p1 (1 : Int) w1) (fun E => Φ (.inr E) w1) r1)) : bm_Call bm_pg (d + 1) y_X0_readBoth [bm_r (some p0), bm_i p1] w Φ := bm_enter rfl (bm_go (bm_Call_mono _ _) [7] 33 _ h)
set_option maxRecDepth 20000 in
theorem vb_X0_readBoth_7 {d : Nat} {Φ : bm_Rt → bm_W → Prop} {v0 : Nat} {v1 : Int} {v2 : Int} {w : bm_W} (h :
  (if (decide ((50 : Int) ≤ v2)) = true then
    Φ (.inl none) w
  else
    (bm_kt w v0 = 0 ∧ bm_gr w v0 0 = some (bm_u (bm_gr w v0 0))) ∧
    (bm_kt w (bm_u (bm_gr w v0 0)) = 9) ∧ bm_Call bm_pg d y_X9_passes [bm_r (some (bm_u (bm_gr w v0 0))), bm_i (9 : Int)] w (fun r1 w1 => 
      bm_c1 (fun x1 => (if (decide (x1 = 0)) = true then
        Φ (.inl none) w1
      else
        (bm_kt w1 v0 = 0 ∧ bm_gr w1 v0 4 = some (bm_u (bm_gr w1 v0 4))) ∧
        (bm_kt w1 v0 = 0 ∧ bm_gr w1 v0 4 = some (bm_u (bm_gr w1 v0 4))) ∧
        (bm_kt w1 (bm_u (bm_gr w1 v0 4)) = 1) ∧ bm_Call bm_pg d y_X1_nextPlace [bm_r (some (bm_u (bm_gr w1 v0 4)))] w1 (fun r2 w2 => 
          bm_c1 (fun x2 => (bm_kt w2 (bm_u (bm_gr w1 v0 4)) = 1) ∧ bm_Call bm_pg d y_X1_emit [bm_r (some (bm_u (bm_gr w1 v0 4))), bm_i (9 : Int), bm_i (0 : Int), bm_i x2] w2 (fun r3 w3 => 
            bm_c1 (fun x3 => (bm_kt w3 v0 = 0) ∧ bm_Call bm_pg d y_X0_readRelation [bm_r (some v0), bm_i v1] w3 (fun r4 w4 => 
              bm_c0 ((bm_kt w4 v0 = 0) ∧ bm_Call bm_pg d y_X0_endSecond [bm_r (some v0), bm_i x3] w4 (fun r5 w5 => 
                bm_c0 (bk_X0_readBoth_7 d Φ v0 v1 (bm_w (v2 + 1)) w5) (fun E => Φ (.inr E) w5) r5)) (fun E => Φ (.inr E) w4) r4)) (fun E => Φ (.inr E) w3) r3)) (fun E => Φ (.inr E) w2) r2))) (fun E => Φ (.inr E) w1) r1))) : bk_X0_readBoth_7 d Φ v0 v1 v2 w := bm_go (bm_Call_mono _ _) [7] 33 _ h
/-! CaseTables$Compiler.endSecond(I)V -/
set_option maxRecDepth 20000 in
theorem vc_X0_endSecond {d : Nat} {Φ : bm_Rt → bm_W → Prop} {p0 : Nat} {p1 : Int} {w : bm_W} (h :
  (bm_kt w p0 = 0 ∧ bm_gr w p0 4 = some (bm_u (bm_gr w p0 4))) ∧
  (bm_kt w (bm_u (bm_gr w p0 4)) = 1) ∧ bm_Call bm_pg d y_X1_emit [bm_r (some (bm_u (bm_gr w p0 4))), bm_i (37 : Int), bm_i (0 : Int), bm_i (-1 : Int)] w (fun r1 w1 => 
    bm_c1 (fun x1 => (bm_kt w1 p0 = 0 ∧ bm_gr w1 p0 4 = some (bm_u (bm_gr w1 p0 4))) ∧
    (bm_kt w1 (bm_u (bm_gr w1 p0 4)) = 1) ∧ bm_Call bm_pg d y_X1_aimHere [bm_r (some (bm_u (bm_gr w1 p0 4))), bm_i p1] w1 (fun r2 w2 => 
      bm_c0 (Φ (.inl none) w2) (fun E => Φ (.inr E) w2) r2)) (fun E => Φ (.inr E) w1) r1)) : bm_Call bm_pg (d + 1) y_X0_endSecond [bm_r (some p0), bm_i p1] w Φ := bm_enter rfl (bm_go (bm_Call_mono _ _) [] 14 _ h)
/-! CaseTables$Compiler.readChoice(I)V -/
set_option maxRecDepth 20000 in
theorem vc_X0_readChoice {d : Nat} {Φ : bm_Rt → bm_W → Prop} {p0 : Nat} {p1 : Int} {w : bm_W} (h :
  (if (decide (p1 < (8 : Int))) = true then
    (bm_kt w p0 = 0 ∧ bm_gr w p0 0 = some (bm_u (bm_gr w p0 0))) ∧
    (bm_kt w (bm_u (bm_gr w p0 0)) = 9) ∧ bm_Call bm_pg d y_X9_expect [bm_r (some (bm_u (bm_gr w p0 0))), bm_i (6 : Int)] w (fun r1 w1 => 
      bm_c1 (fun x1 => (bm_kt w1 p0 = 0 ∧ bm_gr w1 p0 4 = some (bm_u (bm_gr w1 p0 4))) ∧
      (bm_kt w1 (bm_u (bm_gr w1 p0 4)) = 1) ∧ bm_Call bm_pg d y_X1_nextPlace [bm_r (some (bm_u (bm_gr w1 p0 4)))] w1 (fun r2 w2 => 
        bm_c1 (fun x2 => (bm_kt w2 p0 = 0 ∧ bm_gr w2 p0 1 = some (bm_u (bm_gr w2 p0 1))) ∧
        (bm_kt w2 (bm_u (bm_gr w2 p0 1)) = 3) ∧ bm_Call bm_pg d y_X3_nextIf [bm_r (some (bm_u (bm_gr w2 p0 1)))] w2 (fun r3 w3 => 
          bm_c1 (fun x3 => (bm_kt w3 p0 = 0) ∧ bm_Call bm_pg d y_X0_readExpression [bm_r (some p0), bm_i (bm_w (p1 + (1 : Int)))] w3 (fun r4 w4 => 
            bm_c0 ((bm_kt w4 p0 = 0 ∧ bm_gr w4 p0 4 = some (bm_u (bm_gr w4 p0 4))) ∧
            (bm_kt w4 (bm_u (bm_gr w4 p0 4)) = 1) ∧ bm_Call bm_pg d y_X1_emit [bm_r (some (bm_u (bm_gr w4 p0 4))), bm_i (6 : Int), bm_i x3, bm_i x2] w4 (fun r5 w5 => 
              bm_c1 (fun x5 => (bm_kt w5 p0 = 0 ∧ bm_gr w5 p0 4 = some (bm_u (bm_gr w5 p0 4))) ∧
              (bm_kt w5 (bm_u (bm_gr w5 p0 4)) = 1) ∧ bm_Call bm_pg d y_X1_emit [bm_r (some (bm_u (bm_gr w5 p0 4))), bm_i (38 : Int), bm_i (0 : Int), bm_i (-1 : Int)] w5 (fun r6 w6 => 
                bm_c1 (fun x6 => (bm_kt w6 p0 = 0 ∧ bm_gr w6 p0 0 = some (bm_u (bm_gr w6 p0 0))) ∧
                (bm_kt w6 (bm_u (bm_gr w6 p0 0)) = 9) ∧ bm_Call bm_pg d y_X9_expect [bm_r (some (bm_u (bm_gr w6 p0 0))), bm_i (7 : Int)] w6 (fun r7 w7 => 
                  bm_c1 (fun x7 => (bm_kt w7 p0 = 0) ∧ bm_Call bm_pg d y_X0_readExpression [bm_r (some p0), bm_i (bm_w (p1 + (1 : Int)))] w7 (fun r8 w8 => 
                    bm_c0 ((bm_kt w8 p0 = 0 ∧ bm_gr w8 p0 4 = some (bm_u (bm_gr w8 p0 4))) ∧
                    (bm_kt w8 (bm_u (bm_gr w8 p0 4)) = 1) ∧ bm_Call bm_pg d y_X1_emit [bm_r (some (bm_u (bm_gr w8 p0 4))), bm_i (38 : Int), bm_i (0 : Int), bm_i (-1 : Int)] w8 (fun r9 w9 => 
                      bm_c1 (fun x9 => (bm_kt w9 p0 = 0 ∧ bm_gr w9 p0 0 = some (bm_u (bm_gr w9 p0 0))) ∧
                      (bm_kt w9 (bm_u (bm_gr w9 p0 0)) = 9) ∧ bm_Call bm_pg d y_X9_expect [bm_r (some (bm_u (bm_gr w9 p0 0))), bm_i (8 : Int)] w9 (fun r10 w10 => 
                        bm_c1 (fun x10 => (bm_kt w10 p0 = 0 ∧ bm_gr w10 p0 4 = some (bm_u (bm_gr w10 p0 4))) ∧
                        (bm_kt w10 (bm_u (bm_gr w10 p0 4)) = 1) ∧ bm_Call bm_pg d y_X1_aimHere [bm_r (some (bm_u (bm_gr w10 p0 4))), bm_i x6] w10 (fun r11 w11 => 
                          bm_c0 ((bm_kt w11 p0 = 0) ∧ bm_Call bm_pg d y_X0_readExpression [bm_r (some p0), bm_i (bm_w (p1 + (1 : Int)))] w11 (fun r12 w12 => 
                            bm_c0 ((bm_kt w12 p0 = 0 ∧ bm_gr w12 p0 4 = some (bm_u (bm_gr w12 p0 4))) ∧
                            (bm_kt w12 (bm_u (bm_gr w12 p0 4)) = 1) ∧ bm_Call bm_pg d y_X1_aimHere [bm_r (some (bm_u (bm_gr w12 p0 4))), bm_i x9] w12 (fun r13 w13 => 
                              bm_c0 (Φ (.inl none) w13) (fun E => Φ (.inr E) w13) r13)) (fun E => Φ (.inr E) w12) r12)) (fun E => Φ (.inr E) w11) r11)) (fun E => Φ (.inr E) w10) r10)) (fun E => Φ (.inr E) w9) r9)) (fun E => Φ (.inr E) w8) r8)) (fun E => Φ (.inr E) w7) r7)) (fun E => Φ (.inr E) w6) r6)) (fun E => Φ (.inr E) w5) r5)) (fun E => Φ (.inr E) w4) r4)) (fun E => Φ (.inr E) w3) r3)) (fun E => Φ (.inr E) w2) r2)) (fun E => Φ (.inr E) w1) r1)
  else
    (bm_kt w p0 = 0 ∧ bm_gr w p0 0 = some (bm_u (bm_gr w p0 0))) ∧
    (bm_kt w (bm_u (bm_gr w p0 0)) = 9) ∧ bm_Call bm_pg d y_X9_fail [bm_r (some (bm_u (bm_gr w p0 0)))] w (fun r14 w14 => 
      bm_c0 (Φ (.inl none) w14) (fun E => Φ (.inr E) w14) r14))) : bm_Call bm_pg (d + 1) y_X0_readChoice [bm_r (some p0), bm_i p1] w Φ := bm_enter rfl (bm_go (bm_Call_mono _ _) [] 77 _ h)
/-! CaseTables$Compiler.readRelation(I)V -/
set_option maxRecDepth 20000 in
theorem vc_X0_readRelation {d : Nat} {Φ : bm_Rt → bm_W → Prop} {p0 : Nat} {p1 : Int} {w : bm_W} (h :
  (bm_kt w p0 = 0) ∧ bm_Call bm_pg d y_X0_readSum [bm_r (some p0), bm_i p1] w (fun r1 w1 => 
    bm_c0 ((bm_kt w1 p0 = 0 ∧ bm_gr w1 p0 0 = some (bm_u (bm_gr w1 p0 0))) ∧
    (bm_kt w1 (bm_u (bm_gr w1 p0 0)) = 9) ∧ bm_Call bm_pg d y_X9_oneOf [bm_r (some (bm_u (bm_gr w1 p0 0))), bm_i (22 : Int), bm_i (27 : Int)] w1 (fun r2 w2 => 
      bm_c1 (fun x2 => (bm_kt w2 p0 = 0 ∧ bm_gr w2 p0 0 = some (bm_u (bm_gr w2 p0 0))) ∧
      (bm_kt w2 (bm_u (bm_gr w2 p0 0)) = 9) ∧ bm_Call bm_pg d y_X9_passes [bm_r (some (bm_u (bm_gr w2 p0 0))), bm_i x2] w2 (fun r3 w3 => 
        bm_c1 (fun x3 => (if (decide (x3 = 0)) = true then
          Φ (.inl none) w3
        else
          (bm_kt w3 p0 = 0 ∧ bm_gr w3 p0 4 = some (bm_u (bm_gr w3 p0 4))) ∧
          (bm_kt w3 (bm_u (bm_gr w3 p0 4)) = 1) ∧ bm_Call bm_pg d y_X1_nextPlace [bm_r (some (bm_u (bm_gr w3 p0 4)))] w3 (fun r4 w4 => 
            bm_c1 (fun x4 => (bm_kt w4 p0 = 0) ∧ bm_Call bm_pg d y_X0_readSum [bm_r (some p0), bm_i p1] w4 (fun r5 w5 => 
              bm_c0 ((bm_kt w5 p0 = 0 ∧ bm_gr w5 p0 4 = some (bm_u (bm_gr w5 p0 4))) ∧
              (bm_kt w5 (bm_u (bm_gr w5 p0 4)) = 1) ∧ bm_Call bm_pg d y_X1_emit [bm_r (some (bm_u (bm_gr w5 p0 4))), bm_i x2, bm_i (0 : Int), bm_i x4] w5 (fun r6 w6 => 
                bm_c1 (fun x6 => Φ (.inl none) w6) (fun E => Φ (.inr E) w6) r6)) (fun E => Φ (.inr E) w5) r5)) (fun E => Φ (.inr E) w4) r4))) (fun E => Φ (.inr E) w3) r3)) (fun E => Φ (.inr E) w2) r2)) (fun E => Φ (.inr E) w1) r1)) : bm_Call bm_pg (d + 1) y_X0_readRelation [bm_r (some p0), bm_i p1] w Φ := bm_enter rfl (bm_go (bm_Call_mono _ _) [] 31 _ h)
/-! CaseTables$Compiler.readSum(I)V -/
def bk_X0_readSum_19 (d : Nat) (Φ : bm_Rt → bm_W → Prop) (v0 : Nat) (v1 : Int) (v2 : Int) (v3 : Int) (w : bm_W) : Prop := bm_Wp (bm_Call bm_pg d) tb_X0_readSum Φ (19, [some (bm_r (some v0)), some (bm_i v1), some (bm_i v2), some (bm_i v3), none], [], w)
set_option maxRecDepth 20000 in
theorem vc_X0_readSum {d : Nat} {Φ : bm_Rt → bm_W → Prop} {p0 : Nat} {p1 : Int} {w : bm_W} (h :
  (bm_kt w p0 = 0) ∧ bm_Call bm_pg d y_X0_readProduct [bm_r (some p0), bm_i p1] w (fun r1 w1 => 
    bm_c0 ((bm_kt w1 p0 = 0 ∧ bm_gr w1 p0 0 = some (bm_u (bm_gr w1 p0 0))) ∧
    (bm_kt w1 (bm_u (bm_gr w1 p0 0)) = 9) ∧ bm_Call bm_pg d y_X9_oneOf [bm_r (some (bm_u (bm_gr w1 p0 0))), bm_i (28 : Int), bm_i (29 : Int)] w1 (fun r2 w2 => 
      bm_c1 (fun x2 => bk_X0_readSum_19 d Φ p0 p1 x2 (1 : Int) w2) (fun E => Φ (.inr E) w2) r2)) (fun E => Φ (.inr E) w1) r1)) : bm_Call bm_pg (d + 1) y_X0_readSum [bm_r (some p0), bm_i p1] w Φ := bm_enter rfl (bm_go (bm_Call_mono _ _) [19] 44 _ h)
set_option maxRecDepth 20000 in
theorem vb_X0_readSum_19 {d : Nat} {Φ : bm_Rt → bm_W → Prop} {v0 : Nat} {v1 : Int} {v2 : Int} {v3 : Int} {w : bm_W} (h :
  (if (decide ((50 : Int) ≤ v3)) = true then
    Φ (.inl none) w
  else
    (bm_kt w v0 = 0 ∧ bm_gr w v0 0 = some (bm_u (bm_gr w v0 0))) ∧
    (bm_kt w (bm_u (bm_gr w v0 0)) = 9) ∧ bm_Call bm_pg d y_X9_passes [bm_r (some (bm_u (bm_gr w v0 0))), bm_i v2] w (fun r1 w1 => 
      bm_c1 (fun x1 => (if (decide (x1 = 0)) = true then
        Φ (.inl none) w1
      else
        (bm_kt w1 v0 = 0 ∧ bm_gr w1 v0 4 = some (bm_u (bm_gr w1 v0 4))) ∧
        (bm_kt w1 (bm_u (bm_gr w1 v0 4)) = 1) ∧ bm_Call bm_pg d y_X1_nextPlace [bm_r (some (bm_u (bm_gr w1 v0 4)))] w1 (fun r2 w2 => 
          bm_c1 (fun x2 => (bm_kt w2 v0 = 0) ∧ bm_Call bm_pg d y_X0_readProduct [bm_r (some v0), bm_i v1] w2 (fun r3 w3 => 
            bm_c0 ((bm_kt w3 v0 = 0 ∧ bm_gr w3 v0 4 = some (bm_u (bm_gr w3 v0 4))) ∧
            (bm_kt w3 (bm_u (bm_gr w3 v0 4)) = 1) ∧ bm_Call bm_pg d y_X1_emit [bm_r (some (bm_u (bm_gr w3 v0 4))), bm_i v2, bm_i (0 : Int), bm_i x2] w3 (fun r4 w4 => 
              bm_c1 (fun x4 => (bm_kt w4 v0 = 0 ∧ bm_gr w4 v0 0 = some (bm_u (bm_gr w4 v0 0))) ∧
              (bm_kt w4 (bm_u (bm_gr w4 v0 0)) = 9) ∧ bm_Call bm_pg d y_X9_oneOf [bm_r (some (bm_u (bm_gr w4 v0 0))), bm_i (28 : Int), bm_i (29 : Int)] w4 (fun r5 w5 => 
                bm_c1 (fun x5 => bk_X0_readSum_19 d Φ v0 v1 x5 (bm_w (v3 + 1)) w5) (fun E => Φ (.inr E) w5) r5)) (fun E => Φ (.inr E) w4) r4)) (fun E => Φ (.inr E) w3) r3)) (fun E => Φ (.inr E) w2) r2))) (fun E => Φ (.inr E) w1) r1))) : bk_X0_readSum_19 d Φ v0 v1 v2 v3 w := bm_go (bm_Call_mono _ _) [19] 44 _ h
/-! CaseTables$Compiler.readProduct(I)V -/
def bk_X0_readProduct_19 (d : Nat) (Φ : bm_Rt → bm_W → Prop) (v0 : Nat) (v1 : Int) (v2 : Int) (v3 : Int) (w : bm_W) : Prop := bm_Wp (bm_Call bm_pg d) tb_X0_readProduct Φ (19, [some (bm_r (some v0)), some (bm_i v1), some (bm_i v2), some (bm_i v3), none], [], w)
set_option maxRecDepth 20000 in
theorem vc_X0_readProduct {d : Nat} {Φ : bm_Rt → bm_W → Prop} {p0 : Nat} {p1 : Int} {w : bm_W} (h :
  (bm_kt w p0 = 0) ∧ bm_Call bm_pg d y_X0_readFactor [bm_r (some p0), bm_i p1] w (fun r1 w1 => 
    bm_c0 ((bm_kt w1 p0 = 0 ∧ bm_gr w1 p0 0 = some (bm_u (bm_gr w1 p0 0))) ∧
    (bm_kt w1 (bm_u (bm_gr w1 p0 0)) = 9) ∧ bm_Call bm_pg d y_X9_oneOf [bm_r (some (bm_u (bm_gr w1 p0 0))), bm_i (30 : Int), bm_i (32 : Int)] w1 (fun r2 w2 => 
      bm_c1 (fun x2 => bk_X0_readProduct_19 d Φ p0 p1 x2 (1 : Int) w2) (fun E => Φ (.inr E) w2) r2)) (fun E => Φ (.inr E) w1) r1)) : bm_Call bm_pg (d + 1) y_X0_readProduct [bm_r (some p0), bm_i p1] w Φ := bm_enter rfl (bm_go (bm_Call_mono _ _) [19] 44 _ h)
set_option maxRecDepth 20000 in
theorem vb_X0_readProduct_19 {d : Nat} {Φ : bm_Rt → bm_W → Prop} {v0 : Nat} {v1 : Int} {v2 : Int} {v3 : Int} {w : bm_W} (h :
  (if (decide ((50 : Int) ≤ v3)) = true then
    Φ (.inl none) w
  else
    (bm_kt w v0 = 0 ∧ bm_gr w v0 0 = some (bm_u (bm_gr w v0 0))) ∧
    (bm_kt w (bm_u (bm_gr w v0 0)) = 9) ∧ bm_Call bm_pg d y_X9_passes [bm_r (some (bm_u (bm_gr w v0 0))), bm_i v2] w (fun r1 w1 => 
      bm_c1 (fun x1 => (if (decide (x1 = 0)) = true then
        Φ (.inl none) w1
      else
        (bm_kt w1 v0 = 0 ∧ bm_gr w1 v0 4 = some (bm_u (bm_gr w1 v0 4))) ∧
        (bm_kt w1 (bm_u (bm_gr w1 v0 4)) = 1) ∧ bm_Call bm_pg d y_X1_nextPlace [bm_r (some (bm_u (bm_gr w1 v0 4)))] w1 (fun r2 w2 => 
          bm_c1 (fun x2 => (bm_kt w2 v0 = 0) ∧ bm_Call bm_pg d y_X0_readFactor [bm_r (some v0), bm_i v1] w2 (fun r3 w3 => 
            bm_c0 ((bm_kt w3 v0 = 0 ∧ bm_gr w3 v0 4 = some (bm_u (bm_gr w3 v0 4))) ∧
            (bm_kt w3 (bm_u (bm_gr w3 v0 4)) = 1) ∧ bm_Call bm_pg d y_X1_emit [bm_r (some (bm_u (bm_gr w3 v0 4))), bm_i v2, bm_i (0 : Int), bm_i x2] w3 (fun r4 w4 => 
              bm_c1 (fun x4 => (bm_kt w4 v0 = 0 ∧ bm_gr w4 v0 0 = some (bm_u (bm_gr w4 v0 0))) ∧
              (bm_kt w4 (bm_u (bm_gr w4 v0 0)) = 9) ∧ bm_Call bm_pg d y_X9_oneOf [bm_r (some (bm_u (bm_gr w4 v0 0))), bm_i (30 : Int), bm_i (32 : Int)] w4 (fun r5 w5 => 
                bm_c1 (fun x5 => bk_X0_readProduct_19 d Φ v0 v1 x5 (bm_w (v3 + 1)) w5) (fun E => Φ (.inr E) w5) r5)) (fun E => Φ (.inr E) w4) r4)) (fun E => Φ (.inr E) w3) r3)) (fun E => Φ (.inr E) w2) r2))) (fun E => Φ (.inr E) w1) r1))) : bk_X0_readProduct_19 d Φ v0 v1 v2 v3 w := bm_go (bm_Call_mono _ _) [19] 44 _ h
/-! CaseTables$Compiler.readFactor(I)V -/
set_option maxRecDepth 20000 in
theorem vc_X0_readFactor {d : Nat} {Φ : bm_Rt → bm_W → Prop} {p0 : Nat} {p1 : Int} {w : bm_W} (h :
  (bm_kt w p0 = 0 ∧ bm_gr w p0 0 = some (bm_u (bm_gr w p0 0))) ∧
  (bm_kt w (bm_u (bm_gr w p0 0)) = 9) ∧ bm_Call bm_pg d y_X9_valueHere [bm_r (some (bm_u (bm_gr w p0 0)))] w (fun r1 w1 => 
    bm_c2 (fun x1 => (bm_kt w1 p0 = 0 ∧ bm_gr w1 p0 0 = some (bm_u (bm_gr w1 p0 0))) ∧
    (bm_kt w1 (bm_u (bm_gr w1 p0 0)) = 9) ∧ bm_Call bm_pg d y_X9_startHere [bm_r (some (bm_u (bm_gr w1 p0 0)))] w1 (fun r2 w2 => 
      bm_c1 (fun x2 => (bm_kt w2 p0 = 0 ∧ bm_gr w2 p0 0 = some (bm_u (bm_gr w2 p0 0))) ∧
      (bm_kt w2 (bm_u (bm_gr w2 p0 0)) = 9) ∧ bm_Call bm_pg d y_X9_passes [bm_r (some (bm_u (bm_gr w2 p0 0))), bm_i (2 : Int)] w2 (fun r3 w3 => 
        bm_c1 (fun x3 => (if (decide (x3 = 0)) = true then
          (bm_kt w3 p0 = 0 ∧ bm_gr w3 p0 0 = some (bm_u (bm_gr w3 p0 0))) ∧
          (bm_kt w3 (bm_u (bm_gr w3 p0 0)) = 9) ∧ bm_Call bm_pg d y_X9_passes [bm_r (some (bm_u (bm_gr w3 p0 0))), bm_i (3 : Int)] w3 (fun r4 w4 => 
            bm_c1 (fun x4 => (if (decide (x4 = 0)) = true then
              (if (decide (p1 < (8 : Int))) = true then
                (bm_kt w4 p0 = 0 ∧ bm_gr w4 p0 0 = some (bm_u (bm_gr w4 p0 0))) ∧
                (bm_kt w4 (bm_u (bm_gr w4 p0 0)) = 9) ∧ bm_Call bm_pg d y_X9_passes [bm_r (some (bm_u (bm_gr w4 p0 0))), bm_i (16 : Int)] w4 (fun r5 w5 => 
                  bm_c1 (fun x5 => (if (decide (x5 = 0)) = true then
                    (bm_kt w5 p0 = 0 ∧ bm_gr w5 p0 0 = some (bm_u (bm_gr w5 p0 0))) ∧
                    (bm_kt w5 (bm_u (bm_gr w5 p0 0)) = 9) ∧ bm_Call bm_pg d y_X9_passes [bm_r (some (bm_u (bm_gr w5 p0 0))), bm_i (29 : Int)] w5 (fun r6 w6 => 
                      bm_c1 (fun x6 => (if (decide (x6 = 0)) = true then
                        (bm_kt w6 p0 = 0 ∧ bm_gr w6 p0 0 = some (bm_u (bm_gr w6 p0 0))) ∧
                        (bm_kt w6 (bm_u (bm_gr w6 p0 0)) = 9) ∧ bm_Call bm_pg d y_X9_passes [bm_r (some (bm_u (bm_gr w6 p0 0))), bm_i (11 : Int)] w6 (fun r7 w7 => 
                          bm_c1 (fun x7 => (if (decide (x7 = 0)) = true then
                            (bm_kt w7 p0 = 0 ∧ bm_gr w7 p0 0 = some (bm_u (bm_gr w7 p0 0))) ∧
                            (bm_kt w7 (bm_u (bm_gr w7 p0 0)) = 9) ∧ bm_Call bm_pg d y_X9_fail [bm_r (some (bm_u (bm_gr w7 p0 0)))] w7 (fun r8 w8 => 
                              bm_c0 (Φ (.inl none) w8) (fun E => Φ (.inr E) w8) r8)
                          else
                            (bm_kt w7 p0 = 0) ∧ bm_Call bm_pg d y_X0_readFactor [bm_r (some p0), bm_i (bm_w (p1 + (1 : Int)))] w7 (fun r9 w9 => 
                              bm_c0 ((bm_kt w9 p0 = 0 ∧ bm_gr w9 p0 4 = some (bm_u (bm_gr w9 p0 4))) ∧
                              (bm_kt w9 (bm_u (bm_gr w9 p0 4)) = 1) ∧ bm_Call bm_pg d y_X1_emit [bm_r (some (bm_u (bm_gr w9 p0 4))), bm_i (11 : Int), bm_i (0 : Int), bm_i (-1 : Int)] w9 (fun r10 w10 => 
                                bm_c1 (fun x10 => Φ (.inl none) w10) (fun E => Φ (.inr E) w10) r10)) (fun E => Φ (.inr E) w9) r9))) (fun E => Φ (.inr E) w7) r7)
                      else
                        (bm_kt w6 p0 = 0) ∧ bm_Call bm_pg d y_X0_readFactor [bm_r (some p0), bm_i (bm_w (p1 + (1 : Int)))] w6 (fun r11 w11 => 
                          bm_c0 ((bm_kt w11 p0 = 0 ∧ bm_gr w11 p0 4 = some (bm_u (bm_gr w11 p0 4))) ∧
                          (bm_kt w11 (bm_u (bm_gr w11 p0 4)) = 1) ∧ bm_Call bm_pg d y_X1_emit [bm_r (some (bm_u (bm_gr w11 p0 4))), bm_i (36 : Int), bm_i (0 : Int), bm_i (-1 : Int)] w11 (fun r12 w12 => 
                            bm_c1 (fun x12 => Φ (.inl none) w12) (fun E => Φ (.inr E) w12) r12)) (fun E => Φ (.inr E) w11) r11))) (fun E => Φ (.inr E) w6) r6)
                  else
                    (bm_kt w5 p0 = 0) ∧ bm_Call bm_pg d y_X0_readExpression [bm_r (some p0), bm_i (bm_w (p1 + (1 : Int)))] w5 (fun r13 w13 => 
                      bm_c0 ((bm_kt w13 p0 = 0 ∧ bm_gr w13 p0 0 = some (bm_u (bm_gr w13 p0 0))) ∧
                      (bm_kt w13 (bm_u (bm_gr w13 p0 0)) = 9) ∧ bm_Call bm_pg d y_X9_expect [bm_r (some (bm_u (bm_gr w13 p0 0))), bm_i (17 : Int)] w13 (fun r14 w14 => 
                        bm_c1 (fun x14 => Φ (.inl none) w14) (fun E => Φ (.inr E) w14) r14)) (fun E => Φ (.inr E) w13) r13))) (fun E => Φ (.inr E) w5) r5)
              else
                (bm_kt w4 p0 = 0 ∧ bm_gr w4 p0 0 = some (bm_u (bm_gr w4 p0 0))) ∧
                (bm_kt w4 (bm_u (bm_gr w4 p0 0)) = 9) ∧ bm_Call bm_pg d y_X9_fail [bm_r (some (bm_u (bm_gr w4 p0 0)))] w4 (fun r15 w15 => 
                  bm_c0 (Φ (.inl none) w15) (fun E => Φ (.inr E) w15) r15))
            else
              (bm_kt w4 p0 = 0) ∧ bm_Call bm_pg d y_X0_readNamed [bm_r (some p0), bm_l x1, bm_i x2, bm_i p1] w4 (fun r16 w16 => 
                bm_c0 (Φ (.inl none) w16) (fun E => Φ (.inr E) w16) r16))) (fun E => Φ (.inr E) w4) r4)
        else
          (bm_kt w3 p0 = 0 ∧ bm_gr w3 p0 4 = some (bm_u (bm_gr w3 p0 4))) ∧
          (bm_kt w3 p0 = 0 ∧ bm_gr w3 p0 4 = some (bm_u (bm_gr w3 p0 4))) ∧
          (bm_kt w3 (bm_u (bm_gr w3 p0 4)) = 1) ∧ bm_Call bm_pg d y_X1_nextPlace [bm_r (some (bm_u (bm_gr w3 p0 4)))] w3 (fun r17 w17 => 
            bm_c1 (fun x17 => (bm_kt w17 (bm_u (bm_gr w3 p0 4)) = 1) ∧ bm_Call bm_pg d y_X1_emit [bm_r (some (bm_u (bm_gr w3 p0 4))), bm_i (2 : Int), bm_i (bm_w x1), bm_i x17] w17 (fun r18 w18 => 
              bm_c1 (fun x18 => Φ (.inl none) w18) (fun E => Φ (.inr E) w18) r18)) (fun E => Φ (.inr E) w17) r17))) (fun E => Φ (.inr E) w3) r3)) (fun E => Φ (.inr E) w2) r2)) (fun E => Φ (.inr E) w1) r1)) : bm_Call bm_pg (d + 1) y_X0_readFactor [bm_r (some p0), bm_i p1] w Φ := bm_enter rfl (bm_go (bm_Call_mono _ _) [] 100 _ h)
/-! CaseTables$Compiler.readNamed(JII)V -/
set_option maxRecDepth 20000 in
theorem vc_X0_readNamed {d : Nat} {Φ : bm_Rt → bm_W → Prop} {p0 : Nat} {p1 : Int} {p2 : Int} {p3 : Int} {w : bm_W} (h :
  (bm_kt w p0 = 0 ∧ bm_gr w p0 0 = some (bm_u (bm_gr w p0 0))) ∧
  (bm_kt w (bm_u (bm_gr w p0 0)) = 9) ∧ bm_Call bm_pg d y_X9_sees [bm_r (some (bm_u (bm_gr w p0 0))), bm_i (16 : Int)] w (fun r1 w1 => 
    bm_c1 (fun x1 => (if (decide (x1 = 0)) = true then
      (bm_kt w1 p0 = 0 ∧ bm_gr w1 p0 4 = some (bm_u (bm_gr w1 p0 4))) ∧
      (bm_kt w1 (bm_u (bm_gr w1 p0 4)) = 1) ∧ bm_Call bm_pg d y_X1_inputNamed [bm_r (some (bm_u (bm_gr w1 p0 4))), bm_l p1] w1 (fun r2 w2 => 
        bm_c1 (fun x2 => (if (decide (0 ≤ x2)) = true then
          (bm_kt w2 p0 = 0 ∧ bm_gr w2 p0 4 = some (bm_u (bm_gr w2 p0 4))) ∧
          (bm_kt w2 (bm_u (bm_gr w2 p0 4)) = 1) ∧ bm_Call bm_pg d y_X1_emit [bm_r (some (bm_u (bm_gr w2 p0 4))), bm_i (34 : Int), bm_i x2, bm_i (-1 : Int)] w2 (fun r3 w3 => 
            bm_c1 (fun x3 => Φ (.inl none) w3) (fun E => Φ (.inr E) w3) r3)
        else
          (bm_kt w2 p0 = 0) ∧ bm_Call bm_pg d y_X0_complain [bm_r (some p0), bm_i (2 : Int), bm_i p2] w2 (fun r4 w4 => 
            bm_c0 ((bm_kt w4 p0 = 0 ∧ bm_gr w4 p0 4 = some (bm_u (bm_gr w4 p0 4))) ∧
            (bm_kt w4 (bm_u (bm_gr w4 p0 4)) = 1) ∧ bm_Call bm_pg d y_X1_emit [bm_r (some (bm_u (bm_gr w4 p0 4))), bm_i (34 : Int), bm_i x2, bm_i (-1 : Int)] w4 (fun r5 w5 => 
              bm_c1 (fun x5 => Φ (.inl none) w5) (fun E => Φ (.inr E) w5) r5)) (fun E => Φ (.inr E) w4) r4))) (fun E => Φ (.inr E) w2) r2)
    else
      (bm_kt w1 p0 = 0) ∧ bm_Call bm_pg d y_X0_readArguments [bm_r (some p0), bm_l p1, bm_i p2, bm_i p3] w1 (fun r6 w6 => 
        bm_c0 (Φ (.inl none) w6) (fun E => Φ (.inr E) w6) r6))) (fun E => Φ (.inr E) w1) r1)) : bm_Call bm_pg (d + 1) y_X0_readNamed [bm_r (some p0), bm_l p1, bm_i p2, bm_i p3] w Φ := bm_enter rfl (bm_go (bm_Call_mono _ _) [] 32 _ h)
/-! CaseTables$Compiler.readArguments(JII)V -/
def bk_X0_readArguments_57 (d : Nat) (Φ : bm_Rt → bm_W → Prop) (v0 : Nat) (v3 : Int) (v4 : Int) (v5 : Int) (v6 : Int) (w : bm_W) : Prop := bm_Wp (bm_Call bm_pg d) tb_X0_readArguments Φ (57, [some (bm_r (some v0)), none, none, some (bm_i v3), some (bm_i v4), some (bm_i v5), some (bm_i v6), none], [], w)
def bk_X0_readArguments_90 (d : Nat) (Φ : bm_Rt → bm_W → Prop) (v0 : Nat) (v3 : Int) (v5 : Int) (v6 : Int) (w : bm_W) : Prop := bm_Wp (bm_Call bm_pg d) tb_X0_readArguments Φ (90, [some (bm_r (some v0)), none, none, some (bm_i v3), none, some (bm_i v5), some (bm_i v6), none], [], w)
set_option maxRecDepth 20000 in
theorem vc_X0_readArguments {d : Nat} {Φ : bm_Rt → bm_W → Prop} {p0 : Nat} {p1 : Int} {p2 : Int} {p3 : Int} {w : bm_W} (h :
  (if (decide (p3 < (8 : Int))) = true then
    (bm_kt w p0 = 0 ∧ bm_gr w p0 0 = some (bm_u (bm_gr w p0 0))) ∧
    (bm_kt w (bm_u (bm_gr w p0 0)) = 9) ∧ bm_Call bm_pg d y_X9_expect [bm_r (some (bm_u (bm_gr w p0 0))), bm_i (16 : Int)] w (fun r1 w1 => 
      bm_c1 (fun x1 => (bm_kt w1 p0 = 0 ∧ bm_gr w1 p0 1 = some (bm_u (bm_gr w1 p0 1))) ∧
      (bm_kt w1 (bm_u (bm_gr w1 p0 1)) = 3) ∧ bm_Call bm_pg d y_X3_funNamed [bm_r (some (bm_u (bm_gr w1 p0 1))), bm_l p1] w1 (fun r2 w2 => 
        bm_c1 (fun x2 => (if (decide (0 ≤ x2)) = true then
          (bm_kt w2 p0 = 0) ∧ bm_Call bm_pg d y_X0_readExpression [bm_r (some p0), bm_i (bm_w (p3 + (1 : Int)))] w2 (fun r3 w3 => 
            bm_c0 (bk_X0_readArguments_57 d Φ p0 p2 p3 x2 (1 : Int) w3) (fun E => Φ (.inr E) w3) r3)
        else
          (bm_kt w2 p0 = 0) ∧ bm_Call bm_pg d y_X0_complain [bm_r (some p0), bm_i (2 : Int), bm_i p2] w2 (fun r4 w4 => 
            bm_c0 ((bm_kt w4 p0 = 0) ∧ bm_Call bm_pg d y_X0_readExpression [bm_r (some p0), bm_i (bm_w (p3 + (1 : Int)))] w4 (fun r5 w5 => 
              bm_c0 (bk_X0_readArguments_57 d Φ p0 p2 p3 x2 (1 : Int) w5) (fun E => Φ (.inr E) w5) r5)) (fun E => Φ (.inr E) w4) r4))) (fun E => Φ (.inr E) w2) r2)) (fun E => Φ (.inr E) w1) r1)
  else
    (bm_kt w p0 = 0 ∧ bm_gr w p0 0 = some (bm_u (bm_gr w p0 0))) ∧
    (bm_kt w (bm_u (bm_gr w p0 0)) = 9) ∧ bm_Call bm_pg d y_X9_fail [bm_r (some (bm_u (bm_gr w p0 0)))] w (fun r6 w6 => 
      bm_c0 (Φ (.inl none) w6) (fun E => Φ (.inr E) w6) r6))) : bm_Call bm_pg (d + 1) y_X0_readArguments [bm_r (some p0), bm_l p1, bm_i p2, bm_i p3] w Φ := bm_enter rfl (bm_go (bm_Call_mono _ _) [57, 90] 81 _ h)
set_option maxRecDepth 20000 in
theorem vb_X0_readArguments_57 {d : Nat} {Φ : bm_Rt → bm_W → Prop} {v0 : Nat} {v3 : Int} {v4 : Int} {v5 : Int} {v6 : Int} {w : bm_W} (h :
  (if (decide ((50 : Int) ≤ v6)) = true then
    bk_X0_readArguments_90 d Φ v0 v3 v5 v6 w
  else
    (bm_kt w v0 = 0 ∧ bm_gr w v0 0 = some (bm_u (bm_gr w v0 0))) ∧
    (bm_kt w (bm_u (bm_gr w v0 0)) = 9) ∧ bm_Call bm_pg d y_X9_passes [bm_r (some (bm_u (bm_gr w v0 0))), bm_i (18 : Int)] w (fun r1 w1 => 
      bm_c1 (fun x1 => (if (decide (x1 = 0)) = true then
        bk_X0_readArguments_90 d Φ v0 v3 v5 v6 w1
      else
        (bm_kt w1 v0 = 0) ∧ bm_Call bm_pg d y_X0_readExpression [bm_r (some v0), bm_i (bm_w (v4 + (1 : Int)))] w1 (fun r2 w2 => 
          bm_c0 (bk_X0_readArguments_57 d Φ v0 v3 v4 v5 (bm_w (v6 + 1)) w2) (fun E => Φ (.inr E) w2) r2))) (fun E => Φ (.inr E) w1) r1))) : bk_X0_readArguments_57 d Φ v0 v3 v4 v5 v6 w := bm_go (bm_Call_mono _ _) [57, 90] 81 _ h
set_option maxRecDepth 20000 in
theorem vb_X0_readArguments_90 {d : Nat} {Φ : bm_Rt → bm_W → Prop} {v0 : Nat} {v3 : Int} {v5 : Int} {v6 : Int} {w : bm_W} (h :
  (bm_kt w v0 = 0 ∧ bm_gr w v0 0 = some (bm_u (bm_gr w v0 0))) ∧
  (bm_kt w (bm_u (bm_gr w v0 0)) = 9) ∧ bm_Call bm_pg d y_X9_expect [bm_r (some (bm_u (bm_gr w v0 0))), bm_i (17 : Int)] w (fun r1 w1 => 
    bm_c1 (fun x1 => (bm_kt w1 v0 = 0 ∧ bm_gr w1 v0 1 = some (bm_u (bm_gr w1 v0 1))) ∧
    (bm_kt w1 (bm_u (bm_gr w1 v0 1)) = 3) ∧ bm_Call bm_pg d y_X3_funAt [bm_r (some (bm_u (bm_gr w1 v0 1))), bm_i v5] w1 (fun r2 w2 => 
      bm_c3 (fun x2 => (bm_kt w2 x2 = 1) ∧
      (if (decide (v6 = (bm_gi w2 x2 6))) = true then
        (bm_kt w2 v0 = 0 ∧ bm_gr w2 v0 4 = some (bm_u (bm_gr w2 v0 4))) ∧
        (bm_kt w2 (bm_u (bm_gr w2 v0 4)) = 1) ∧
        (bm_kt w2 x2 = 1) ∧
        (bm_kt w2 (bm_u (bm_gr w2 v0 4)) = 1) ∧
        (bm_kt (bm_si w2 (bm_u (bm_gr w2 v0 4)) 9 (bm_w ((bm_gi w2 (bm_u (bm_gr w2 v0 4)) 9) + (bm_gi w2 x2 9)))) v0 = 0 ∧ bm_gr (bm_si w2 (bm_u (bm_gr w2 v0 4)) 9 (bm_w ((bm_gi w2 (bm_u (bm_gr w2 v0 4)) 9) + (bm_gi w2 x2 9)))) v0 4 = some (bm_u (bm_gr (bm_si w2 (bm_u (bm_gr w2 v0 4)) 9 (bm_w ((bm_gi w2 (bm_u (bm_gr w2 v0 4)) 9) + (bm_gi w2 x2 9)))) v0 4))) ∧
        (bm_kt (bm_si w2 (bm_u (bm_gr w2 v0 4)) 9 (bm_w ((bm_gi w2 (bm_u (bm_gr w2 v0 4)) 9) + (bm_gi w2 x2 9)))) (bm_u (bm_gr (bm_si w2 (bm_u (bm_gr w2 v0 4)) 9 (bm_w ((bm_gi w2 (bm_u (bm_gr w2 v0 4)) 9) + (bm_gi w2 x2 9)))) v0 4)) = 1) ∧ bm_Call bm_pg d y_X1_emit [bm_r (some (bm_u (bm_gr (bm_si w2 (bm_u (bm_gr w2 v0 4)) 9 (bm_w ((bm_gi w2 (bm_u (bm_gr w2 v0 4)) 9) + (bm_gi w2 x2 9)))) v0 4))), bm_i (35 : Int), bm_i v5, bm_i (-1 : Int)] (bm_si w2 (bm_u (bm_gr w2 v0 4)) 9 (bm_w ((bm_gi w2 (bm_u (bm_gr w2 v0 4)) 9) + (bm_gi w2 x2 9)))) (fun r3 w3 => 
          bm_c1 (fun x3 => Φ (.inl none) w3) (fun E => Φ (.inr E) w3) r3)
      else
        (bm_kt w2 v0 = 0) ∧ bm_Call bm_pg d y_X0_complain [bm_r (some v0), bm_i (6 : Int), bm_i v3] w2 (fun r4 w4 => 
          bm_c0 ((bm_kt w4 v0 = 0 ∧ bm_gr w4 v0 4 = some (bm_u (bm_gr w4 v0 4))) ∧
          (bm_kt w4 (bm_u (bm_gr w4 v0 4)) = 1) ∧
          (bm_kt w4 x2 = 1) ∧
          (bm_kt w4 (bm_u (bm_gr w4 v0 4)) = 1) ∧
          (bm_kt (bm_si w4 (bm_u (bm_gr w4 v0 4)) 9 (bm_w ((bm_gi w4 (bm_u (bm_gr w4 v0 4)) 9) + (bm_gi w4 x2 9)))) v0 = 0 ∧ bm_gr (bm_si w4 (bm_u (bm_gr w4 v0 4)) 9 (bm_w ((bm_gi w4 (bm_u (bm_gr w4 v0 4)) 9) + (bm_gi w4 x2 9)))) v0 4 = some (bm_u (bm_gr (bm_si w4 (bm_u (bm_gr w4 v0 4)) 9 (bm_w ((bm_gi w4 (bm_u (bm_gr w4 v0 4)) 9) + (bm_gi w4 x2 9)))) v0 4))) ∧
          (bm_kt (bm_si w4 (bm_u (bm_gr w4 v0 4)) 9 (bm_w ((bm_gi w4 (bm_u (bm_gr w4 v0 4)) 9) + (bm_gi w4 x2 9)))) (bm_u (bm_gr (bm_si w4 (bm_u (bm_gr w4 v0 4)) 9 (bm_w ((bm_gi w4 (bm_u (bm_gr w4 v0 4)) 9) + (bm_gi w4 x2 9)))) v0 4)) = 1) ∧ bm_Call bm_pg d y_X1_emit [bm_r (some (bm_u (bm_gr (bm_si w4 (bm_u (bm_gr w4 v0 4)) 9 (bm_w ((bm_gi w4 (bm_u (bm_gr w4 v0 4)) 9) + (bm_gi w4 x2 9)))) v0 4))), bm_i (35 : Int), bm_i v5, bm_i (-1 : Int)] (bm_si w4 (bm_u (bm_gr w4 v0 4)) 9 (bm_w ((bm_gi w4 (bm_u (bm_gr w4 v0 4)) 9) + (bm_gi w4 x2 9)))) (fun r5 w5 => 
            bm_c1 (fun x5 => Φ (.inl none) w5) (fun E => Φ (.inr E) w5) r5)) (fun E => Φ (.inr E) w4) r4))) (fun E => Φ (.inr E) w2) r2)) (fun E => Φ (.inr E) w1) r1)) : bk_X0_readArguments_90 d Φ v0 v3 v5 v6 w := bm_go (bm_Call_mono _ _) [57, 90] 81 _ h
/-! CaseTables$Fun.<init>()V -/
def bk_X1_init_38 (d : Nat) (Φ : bm_Rt → bm_W → Prop) (v0 : Nat) (w : bm_W) : Prop := bm_Wp (bm_Call bm_pg d) tb_X1_init Φ (38, [some (bm_r (some v0))], [], w)
set_option maxRecDepth 20000 in
theorem vc_X1_init {d : Nat} {Φ : bm_Rt → bm_W → Prop} {p0 : Nat} {w : bm_W} (h :
  (true = true) ∧
  (0 ≤ (3 : Int) ∧ (3 : Int) ≤ 100000) ∧
  (bm_kt (bm_nw w 22 ((3 : Int)).toNat ((3 : Int)).toNat) p0 = 1) ∧
  (True) ∧ bm_Call bm_pg d y_X4_init [bm_r (some (bm_sz (bm_sr (bm_nw w 22 ((3 : Int)).toNat ((3 : Int)).toNat) p0 0 (some (bm_sz w)))))] (bm_nw (bm_sr (bm_nw w 22 ((3 : Int)).toNat ((3 : Int)).toNat) p0 0 (some (bm_sz w))) 4 0 2) (fun r1 w1 => 
    bm_c5 ((bm_kt w1 p0 = 1) ∧
    (0 ≤ (100 : Int) ∧ (100 : Int) ≤ 100000) ∧
    (bm_kt (bm_nw (bm_sr w1 p0 1 (some (bm_sz (bm_sr (bm_nw w 22 ((3 : Int)).toNat ((3 : Int)).toNat) p0 0 (some (bm_sz w)))))) 21 ((100 : Int)).toNat ((100 : Int)).toNat) p0 = 1) ∧
    (0 ≤ (100 : Int) ∧ (100 : Int) ≤ 100000) ∧
    (bm_kt (bm_nw (bm_sr (bm_nw (bm_sr w1 p0 1 (some (bm_sz (bm_sr (bm_nw w 22 ((3 : Int)).toNat ((3 : Int)).toNat) p0 0 (some (bm_sz w)))))) 21 ((100 : Int)).toNat ((100 : Int)).toNat) p0 2 (some (bm_sz (bm_sr w1 p0 1 (some (bm_sz (bm_sr (bm_nw w 22 ((3 : Int)).toNat ((3 : Int)).toNat) p0 0 (some (bm_sz w))))))))) 21 ((100 : Int)).toNat ((100 : Int)).toNat) p0 = 1) ∧
    bk_X1_init_38 d Φ p0 (bm_sr (bm_nw (bm_sr (bm_nw (bm_sr w1 p0 1 (some (bm_sz (bm_sr (bm_nw w 22 ((3 : Int)).toNat ((3 : Int)).toNat) p0 0 (some (bm_sz w)))))) 21 ((100 : Int)).toNat ((100 : Int)).toNat) p0 2 (some (bm_sz (bm_sr w1 p0 1 (some (bm_sz (bm_sr (bm_nw w 22 ((3 : Int)).toNat ((3 : Int)).toNat) p0 0 (some (bm_sz w))))))))) 21 ((100 : Int)).toNat ((100 : Int)).toNat) p0 3 (some (bm_sz (bm_sr (bm_nw (bm_sr w1 p0 1 (some (bm_sz (bm_sr (bm_nw w 22 ((3 : Int)).toNat ((3 : Int)).toNat) p0 0 (some (bm_sz w)))))) 21 ((100 : Int)).toNat ((100 : Int)).toNat) p0 2 (some (bm_sz (bm_sr w1 p0 1 (some (bm_sz (bm_sr (bm_nw w 22 ((3 : Int)).toNat ((3 : Int)).toNat) p0 0 (some (bm_sz w))))))))))))) r1)) : bm_Call bm_pg (d + 1) y_X1_init [bm_r (some p0)] w Φ := bm_enter rfl (bm_go (bm_Call_mono _ _) [38] 26 _ h)
set_option maxRecDepth 20000 in
theorem vb_X1_init_38 {d : Nat} {Φ : bm_Rt → bm_W → Prop} {v0 : Nat} {w : bm_W} (h :
  (0 ≤ (100 : Int) ∧ (100 : Int) ≤ 100000) ∧
  (bm_kt (bm_nw w 21 ((100 : Int)).toNat ((100 : Int)).toNat) v0 = 1) ∧
  Φ (.inl none) (bm_sr (bm_nw w 21 ((100 : Int)).toNat ((100 : Int)).toNat) v0 4 (some (bm_sz w)))) : bk_X1_init_38 d Φ v0 w := bm_go (bm_Call_mono _ _) [38] 26 _ h
/-! CaseTables$Fun.clear()V -/
def bk_X1_clear_27 (d : Nat) (Φ : bm_Rt → bm_W → Prop) (v0 : Nat) (w : bm_W) : Prop := bm_Wp (bm_Call bm_pg d) tb_X1_clear Φ (27, [some (bm_r (some v0))], [], w)
set_option maxRecDepth 20000 in
theorem vc_X1_clear {d : Nat} {Φ : bm_Rt → bm_W → Prop} {p0 : Nat} {w : bm_W} (h :
  (bm_kt w p0 = 1 ∧ bm_gr w p0 1 = some (bm_u (bm_gr w p0 1))) ∧
  (bm_kt w (bm_u (bm_gr w p0 1)) = 4) ∧ bm_Call bm_pg d y_X4_clear [bm_r (some (bm_u (bm_gr w p0 1)))] w (fun r1 w1 => 
    bm_c0 ((bm_kt w1 p0 = 1) ∧
    (bm_kt (bm_sq w1 p0 5 (0 : Int)) p0 = 1) ∧
    (bm_kt (bm_si (bm_sq w1 p0 5 (0 : Int)) p0 6 (0 : Int)) p0 = 1) ∧
    (bm_kt (bm_si (bm_si (bm_sq w1 p0 5 (0 : Int)) p0 6 (0 : Int)) p0 7 (0 : Int)) p0 = 1) ∧
    bk_X1_clear_27 d Φ p0 (bm_si (bm_si (bm_si (bm_sq w1 p0 5 (0 : Int)) p0 6 (0 : Int)) p0 7 (0 : Int)) p0 8 (0 : Int))) (fun E => Φ (.inr E) w1) r1)) : bm_Call bm_pg (d + 1) y_X1_clear [bm_r (some p0)] w Φ := bm_enter rfl (bm_go (bm_Call_mono _ _) [27] 21 _ h)
set_option maxRecDepth 20000 in
theorem vb_X1_clear_27 {d : Nat} {Φ : bm_Rt → bm_W → Prop} {v0 : Nat} {w : bm_W} (h :
  (bm_kt w v0 = 1) ∧
  Φ (.inl none) (bm_si w v0 9 (0 : Int))) : bk_X1_clear_27 d Φ v0 w := bm_go (bm_Call_mono _ _) [27] 21 _ h
/-! CaseTables$Fun.addInput(JII)V -/
set_option maxRecDepth 20000 in
theorem vc_X1_addInput {d : Nat} {Φ : bm_Rt → bm_W → Prop} {p0 : Nat} {p1 : Int} {p2 : Int} {p3 : Int} {w : bm_W} (h :
  (bm_kt w p0 = 1) ∧
  (if (decide ((bm_gi w p0 6) < 0)) = true then
    Φ (.inl none) w
  else
    (bm_kt w p0 = 1) ∧
    (bm_kt w p0 = 1 ∧ bm_gr w p0 0 = some (bm_u (bm_gr w p0 0))) ∧
    (20 ≤ bm_kt w (bm_u (bm_gr w p0 0)) ∧ bm_kt w (bm_u (bm_gr w p0 0)) < 27) ∧
    (if (decide ((bm_kn w (bm_u (bm_gr w p0 0)) : Int) ≤ (bm_gi w p0 6))) = true then
      Φ (.inl none) w
    else
      (bm_kt w p0 = 1 ∧ bm_gr w p0 0 = some (bm_u (bm_gr w p0 0))) ∧
      (bm_kt w p0 = 1) ∧
      (bm_kt w (bm_u (bm_gr w p0 0)) = 22 ∧ bm_in (bm_gi w p0 6) (bm_kn w (bm_u (bm_gr w p0 0)))) ∧
      (bm_kt (bm_sq w (bm_u (bm_gr w p0 0)) ((bm_gi w p0 6)).toNat p1) p0 = 1 ∧ bm_gr (bm_sq w (bm_u (bm_gr w p0 0)) ((bm_gi w p0 6)).toNat p1) p0 1 = some (bm_u (bm_gr (bm_sq w (bm_u (bm_gr w p0 0)) ((bm_gi w p0 6)).toNat p1) p0 1))) ∧
      (bm_kt (bm_sq w (bm_u (bm_gr w p0 0)) ((bm_gi w p0 6)).toNat p1) p0 = 1) ∧
      (bm_kt (bm_sq w (bm_u (bm_gr w p0 0)) ((bm_gi w p0 6)).toNat p1) (bm_u (bm_gr (bm_sq w (bm_u (bm_gr w p0 0)) ((bm_gi w p0 6)).toNat p1) p0 1)) = 4) ∧ bm_Call bm_pg d y_X4_put [bm_r (some (bm_u (bm_gr (bm_sq w (bm_u (bm_gr w p0 0)) ((bm_gi w p0 6)).toNat p1) p0 1))), bm_i (bm_gi (bm_sq w (bm_u (bm_gr w p0 0)) ((bm_gi w p0 6)).toNat p1) p0 6), bm_i p2, bm_i p3] (bm_sq w (bm_u (bm_gr w p0 0)) ((bm_gi w p0 6)).toNat p1) (fun r1 w1 => 
        bm_c0 ((bm_kt w1 p0 = 1) ∧
        (bm_kt w1 p0 = 1) ∧
        Φ (.inl none) (bm_si w1 p0 6 (bm_w ((bm_gi w1 p0 6) + (1 : Int))))) (fun E => Φ (.inr E) w1) r1)))) : bm_Call bm_pg (d + 1) y_X1_addInput [bm_r (some p0), bm_l p1, bm_i p2, bm_i p3] w Φ := bm_enter rfl (bm_go (bm_Call_mono _ _) [] 31 _ h)
/-! CaseTables$Fun.inputNamed(J)I -/
def bk_X1_inputNamed_2 (d : Nat) (Φ : bm_Rt → bm_W → Prop) (v0 : Nat) (v1 : Int) (v3 : Int) (w : bm_W) : Prop := bm_Wp (bm_Call bm_pg d) tb_X1_inputNamed Φ (2, [some (bm_r (some v0)), some (bm_l v1), none, some (bm_i v3)], [], w)
set_option maxRecDepth 20000 in
theorem vc_X1_inputNamed {d : Nat} {Φ : bm_Rt → bm_W → Prop} {p0 : Nat} {p1 : Int} {w : bm_W} (h :
  bk_X1_inputNamed_2 d Φ p0 p1 (0 : Int) w) : bm_Call bm_pg (d + 1) y_X1_inputNamed [bm_r (some p0), bm_l p1] w Φ := bm_enter rfl (bm_go (bm_Call_mono _ _) [2] 25 _ h)
set_option maxRecDepth 20000 in
theorem vb_X1_inputNamed_2 {d : Nat} {Φ : bm_Rt → bm_W → Prop} {v0 : Nat} {v1 : Int} {v3 : Int} {w : bm_W} (h :
  (bm_kt w v0 = 1) ∧
  (if (decide ((bm_gi w v0 6) ≤ v3)) = true then
    Φ (.inl (some (bm_i (-1 : Int)))) w
  else
    (bm_kt w v0 = 1 ∧ bm_gr w v0 0 = some (bm_u (bm_gr w v0 0))) ∧
    (20 ≤ bm_kt w (bm_u (bm_gr w v0 0)) ∧ bm_kt w (bm_u (bm_gr w v0 0)) < 27) ∧
    (if (decide ((bm_kn w (bm_u (bm_gr w v0 0)) : Int) ≤ v3)) = true then
      Φ (.inl (some (bm_i (-1 : Int)))) w
    else
      (bm_kt w v0 = 1 ∧ bm_gr w v0 0 = some (bm_u (bm_gr w v0 0))) ∧
      (bm_kt w (bm_u (bm_gr w v0 0)) = 22 ∧ bm_in v3 (bm_kn w (bm_u (bm_gr w v0 0)))) ∧
      (if (!decide ((bm_gl w (bm_u (bm_gr w v0 0)) (v3).toNat) = v1)) = true then
        bk_X1_inputNamed_2 d Φ v0 v1 (bm_w (v3 + 1)) w
      else
        Φ (.inl (some (bm_i v3))) w)))) : bk_X1_inputNamed_2 d Φ v0 v1 v3 w := bm_go (bm_Call_mono _ _) [2] 25 _ h
/-! CaseTables$Fun.nextPlace()I -/
set_option maxRecDepth 20000 in
theorem vc_X1_nextPlace {d : Nat} {Φ : bm_Rt → bm_W → Prop} {p0 : Nat} {w : bm_W} (h :
  (bm_kt w p0 = 1) ∧
  (bm_kt w p0 = 1) ∧
  (bm_kt (bm_si w p0 8 (bm_w ((bm_gi w p0 8) + (1 : Int)))) p0 = 1) ∧
  Φ (.inl (some (bm_i (bm_w ((bm_gi (bm_si w p0 8 (bm_w ((bm_gi w p0 8) + (1 : Int)))) p0 8) - (1 : Int)))))) (bm_si w p0 8 (bm_w ((bm_gi w p0 8) + (1 : Int))))) : bm_Call bm_pg (d + 1) y_X1_nextPlace [bm_r (some p0)] w Φ := bm_enter rfl (bm_go (bm_Call_mono _ _) [] 13 _ h)
/-! CaseTables$Fun.emit(III)I -/
def bk_X1_emit_75 (d : Nat) (Φ : bm_Rt → bm_W → Prop) (v4 : Int) (w : bm_W) : Prop := bm_Wp (bm_Call bm_pg d) tb_X1_emit Φ (75, [none, none, none, none, some (bm_i v4)], [], w)
set_option maxRecDepth 20000 in
theorem vc_X1_emit {d : Nat} {Φ : bm_Rt → bm_W → Prop} {p0 : Nat} {p1 : Int} {p2 : Int} {p3 : Int} {w : bm_W} (h :
  (bm_kt w p0 = 1) ∧
  (if (decide ((bm_gi w p0 7) < 0)) = true then
    bk_X1_emit_75 d Φ (bm_gi w p0 7) w
  else
    (bm_kt w p0 = 1 ∧ bm_gr w p0 2 = some (bm_u (bm_gr w p0 2))) ∧
    (20 ≤ bm_kt w (bm_u (bm_gr w p0 2)) ∧ bm_kt w (bm_u (bm_gr w p0 2)) < 27) ∧
    (if (decide ((bm_kn w (bm_u (bm_gr w p0 2)) : Int) ≤ (bm_gi w p0 7))) = true then
      bk_X1_emit_75 d Φ (bm_gi w p0 7) w
    else
      (bm_kt w p0 = 1 ∧ bm_gr w p0 3 = some (bm_u (bm_gr w p0 3))) ∧
      (20 ≤ bm_kt w (bm_u (bm_gr w p0 3)) ∧ bm_kt w (bm_u (bm_gr w p0 3)) < 27) ∧
      (if (decide ((bm_kn w (bm_u (bm_gr w p0 3)) : Int) ≤ (bm_gi w p0 7))) = true then
        bk_X1_emit_75 d Φ (bm_gi w p0 7) w
      else
        (bm_kt w p0 = 1 ∧ bm_gr w p0 4 = some (bm_u (bm_gr w p0 4))) ∧
        (20 ≤ bm_kt w (bm_u (bm_gr w p0 4)) ∧ bm_kt w (bm_u (bm_gr w p0 4)) < 27) ∧
        (if (decide ((bm_kn w (bm_u (bm_gr w p0 4)) : Int) ≤ (bm_gi w p0 7))) = true then
          bk_X1_emit_75 d Φ (bm_gi w p0 7) w
        else
          (bm_kt w p0 = 1 ∧ bm_gr w p0 2 = some (bm_u (bm_gr w p0 2))) ∧
          (bm_kt w (bm_u (bm_gr w p0 2)) = 21 ∧ bm_in (bm_gi w p0 7) (bm_kn w (bm_u (bm_gr w p0 2)))) ∧
          (bm_kt (bm_si w (bm_u (bm_gr w p0 2)) ((bm_gi w p0 7)).toNat p1) p0 = 1 ∧ bm_gr (bm_si w (bm_u (bm_gr w p0 2)) ((bm_gi w p0 7)).toNat p1) p0 3 = some (bm_u (bm_gr (bm_si w (bm_u (bm_gr w p0 2)) ((bm_gi w p0 7)).toNat p1) p0 3))) ∧
          (bm_kt (bm_si w (bm_u (bm_gr w p0 2)) ((bm_gi w p0 7)).toNat p1) (bm_u (bm_gr (bm_si w (bm_u (bm_gr w p0 2)) ((bm_gi w p0 7)).toNat p1) p0 3)) = 21 ∧ bm_in (bm_gi w p0 7) (bm_kn (bm_si w (bm_u (bm_gr w p0 2)) ((bm_gi w p0 7)).toNat p1) (bm_u (bm_gr (bm_si w (bm_u (bm_gr w p0 2)) ((bm_gi w p0 7)).toNat p1) p0 3)))) ∧
          (bm_kt (bm_si (bm_si w (bm_u (bm_gr w p0 2)) ((bm_gi w p0 7)).toNat p1) (bm_u (bm_gr (bm_si w (bm_u (bm_gr w p0 2)) ((bm_gi w p0 7)).toNat p1) p0 3)) ((bm_gi w p0 7)).toNat p2) p0 = 1 ∧ bm_gr (bm_si (bm_si w (bm_u (bm_gr w p0 2)) ((bm_gi w p0 7)).toNat p1) (bm_u (bm_gr (bm_si w (bm_u (bm_gr w p0 2)) ((bm_gi w p0 7)).toNat p1) p0 3)) ((bm_gi w p0 7)).toNat p2) p0 4 = some (bm_u (bm_gr (bm_si (bm_si w (bm_u (bm_gr w p0 2)) ((bm_gi w p0 7)).toNat p1) (bm_u (bm_gr (bm_si w (bm_u (bm_gr w p0 2)) ((bm_gi w p0 7)).toNat p1) p0 3)) ((bm_gi w p0 7)).toNat p2) p0 4))) ∧
          (bm_kt (bm_si (bm_si w (bm_u (bm_gr w p0 2)) ((bm_gi w p0 7)).toNat p1) (bm_u (bm_gr (bm_si w (bm_u (bm_gr w p0 2)) ((bm_gi w p0 7)).toNat p1) p0 3)) ((bm_gi w p0 7)).toNat p2) (bm_u (bm_gr (bm_si (bm_si w (bm_u (bm_gr w p0 2)) ((bm_gi w p0 7)).toNat p1) (bm_u (bm_gr (bm_si w (bm_u (bm_gr w p0 2)) ((bm_gi w p0 7)).toNat p1) p0 3)) ((bm_gi w p0 7)).toNat p2) p0 4)) = 21 ∧ bm_in (bm_gi w p0 7) (bm_kn (bm_si (bm_si w (bm_u (bm_gr w p0 2)) ((bm_gi w p0 7)).toNat p1) (bm_u (bm_gr (bm_si w (bm_u (bm_gr w p0 2)) ((bm_gi w p0 7)).toNat p1) p0 3)) ((bm_gi w p0 7)).toNat p2) (bm_u (bm_gr (bm_si (bm_si w (bm_u (bm_gr w p0 2)) ((bm_gi w p0 7)).toNat p1) (bm_u (bm_gr (bm_si w (bm_u (bm_gr w p0 2)) ((bm_gi w p0 7)).toNat p1) p0 3)) ((bm_gi w p0 7)).toNat p2) p0 4)))) ∧
          (bm_kt (bm_si (bm_si (bm_si w (bm_u (bm_gr w p0 2)) ((bm_gi w p0 7)).toNat p1) (bm_u (bm_gr (bm_si w (bm_u (bm_gr w p0 2)) ((bm_gi w p0 7)).toNat p1) p0 3)) ((bm_gi w p0 7)).toNat p2) (bm_u (bm_gr (bm_si (bm_si w (bm_u (bm_gr w p0 2)) ((bm_gi w p0 7)).toNat p1) (bm_u (bm_gr (bm_si w (bm_u (bm_gr w p0 2)) ((bm_gi w p0 7)).toNat p1) p0 3)) ((bm_gi w p0 7)).toNat p2) p0 4)) ((bm_gi w p0 7)).toNat p3) p0 = 1) ∧
          (bm_kt (bm_si (bm_si (bm_si w (bm_u (bm_gr w p0 2)) ((bm_gi w p0 7)).toNat p1) (bm_u (bm_gr (bm_si w (bm_u (bm_gr w p0 2)) ((bm_gi w p0 7)).toNat p1) p0 3)) ((bm_gi w p0 7)).toNat p2) (bm_u (bm_gr (bm_si (bm_si w (bm_u (bm_gr w p0 2)) ((bm_gi w p0 7)).toNat p1) (bm_u (bm_gr (bm_si w (bm_u (bm_gr w p0 2)) ((bm_gi w p0 7)).toNat p1) p0 3)) ((bm_gi w p0 7)).toNat p2) p0 4)) ((bm_gi w p0 7)).toNat p3) p0 = 1) ∧
          bk_X1_emit_75 d Φ (bm_gi w p0 7) (bm_si (bm_si (bm_si (bm_si w (bm_u (bm_gr w p0 2)) ((bm_gi w p0 7)).toNat p1) (bm_u (bm_gr (bm_si w (bm_u (bm_gr w p0 2)) ((bm_gi w p0 7)).toNat p1) p0 3)) ((bm_gi w p0 7)).toNat p2) (bm_u (bm_gr (bm_si (bm_si w (bm_u (bm_gr w p0 2)) ((bm_gi w p0 7)).toNat p1) (bm_u (bm_gr (bm_si w (bm_u (bm_gr w p0 2)) ((bm_gi w p0 7)).toNat p1) p0 3)) ((bm_gi w p0 7)).toNat p2) p0 4)) ((bm_gi w p0 7)).toNat p3) p0 7 (bm_w ((bm_gi (bm_si (bm_si (bm_si w (bm_u (bm_gr w p0 2)) ((bm_gi w p0 7)).toNat p1) (bm_u (bm_gr (bm_si w (bm_u (bm_gr w p0 2)) ((bm_gi w p0 7)).toNat p1) p0 3)) ((bm_gi w p0 7)).toNat p2) (bm_u (bm_gr (bm_si (bm_si w (bm_u (bm_gr w p0 2)) ((bm_gi w p0 7)).toNat p1) (bm_u (bm_gr (bm_si w (bm_u (bm_gr w p0 2)) ((bm_gi w p0 7)).toNat p1) p0 3)) ((bm_gi w p0 7)).toNat p2) p0 4)) ((bm_gi w p0 7)).toNat p3) p0 7) + (1 : Int))))))))) : bm_Call bm_pg (d + 1) y_X1_emit [bm_r (some p0), bm_i p1, bm_i p2, bm_i p3] w Φ := bm_enter rfl (bm_go (bm_Call_mono _ _) [75] 45 _ h)
set_option maxRecDepth 20000 in
theorem vb_X1_emit_75 {d : Nat} {Φ : bm_Rt → bm_W → Prop} {v4 : Int} {w : bm_W} (h :
  Φ (.inl (some (bm_i v4))) w) : bk_X1_emit_75 d Φ v4 w := bm_go (bm_Call_mono _ _) [75] 45 _ h

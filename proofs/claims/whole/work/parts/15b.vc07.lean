/-! what the rows of the methods come to (laid by program) -/
/-! CaseTablesModel.both(IIJJJJI)J -/
def bk_X12_both_25 (d : Nat) (Φ : bm_Rt → bm_W → Prop) (v0 : Nat) (v1 : Int) (v2 : Int) (v3 : Int) (v5 : Int) (v7 : Int) (v9 : Int) (v11 : Int) (w : bm_W) : Prop := bm_Wp (bm_Call bm_pg d) tb_X12_both Φ (25, [some (bm_r (some v0)), some (bm_i v1), some (bm_i v2), some (bm_l v3), none, some (bm_l v5), none, some (bm_l v7), none, some (bm_l v9), none, some (bm_i v11), none, none], [], w)
set_option maxRecDepth 20000 in
theorem vc_X12_both {d : Nat} {Φ : bm_Rt → bm_W → Prop} {p0 : Nat} {p1 : Int} {p2 : Int} {p3 : Int} {p4 : Int} {p5 : Int} {p6 : Int} {p7 : Int} {w : bm_W} (h :
  (if (!decide (p2 = 0)) = true then
    (if (!decide (p2 = (1 : Int))) = true then
      bk_X12_both_25 d Φ p0 p1 p2 p3 p4 p5 p6 p7 w
    else
      (if (!decide (p3 = (0 : Int))) = true then
        bk_X12_both_25 d Φ p0 p1 p2 p3 p4 p5 p6 p7 w
      else
        Φ (.inl (some (bm_l (0 : Int)))) w))
  else
    (if (decide (p3 = (0 : Int))) = true then
      (if (!decide (p2 = (1 : Int))) = true then
        bk_X12_both_25 d Φ p0 p1 p2 p3 p4 p5 p6 p7 w
      else
        (if (!decide (p3 = (0 : Int))) = true then
          bk_X12_both_25 d Φ p0 p1 p2 p3 p4 p5 p6 p7 w
        else
          Φ (.inl (some (bm_l (0 : Int)))) w))
    else
      Φ (.inl (some (bm_l (1 : Int)))) w))) : bm_Call bm_pg (d + 1) y_X12_both [bm_r (some p0), bm_i p1, bm_i p2, bm_l p3, bm_l p4, bm_l p5, bm_l p6, bm_i p7] w Φ := bm_enter rfl (bm_go (bm_Call_mono _ _) [25] 91 _ h)
set_option maxRecDepth 20000 in
theorem vb_X12_both_25 {d : Nat} {Φ : bm_Rt → bm_W → Prop} {v0 : Nat} {v1 : Int} {v2 : Int} {v3 : Int} {v5 : Int} {v7 : Int} {v9 : Int} {v11 : Int} {w : bm_W} (h :
  (bm_kt w v0 = 12 ∧ bm_gr w v0 14 = some (bm_u (bm_gr w v0 14))) ∧
  (bm_kt w (bm_u (bm_gr w v0 14)) = 21 ∧ bm_in v1 (bm_kn w (bm_u (bm_gr w v0 14)))) ∧
  (bm_kt w v0 = 12) ∧ bm_Call bm_pg d y_X12_worth [bm_r (some v0), bm_i (bm_gi w (bm_u (bm_gr w v0 14)) (v1).toNat), bm_l v5, bm_l v7, bm_l v9, bm_i v11] w (fun r1 w1 => 
    bm_c2 (fun x1 => (bm_kt w1 v0 = 12) ∧
    (if (decide ((bm_gi w1 v0 36) = 0)) = true then
      (if (decide ((2 : Int) ≤ v2)) = true then
        (if (decide ((8 : Int) ≤ v2)) = true then
          (if (!decide (v2 = (8 : Int))) = true then
            (if (!decide (v2 = (9 : Int))) = true then
              (if (!decide (v2 = (10 : Int))) = true then
                (if (!decide (x1 = (0 : Int))) = true then
                  (if (!decide (v2 = (11 : Int))) = true then
                    (¬ x1 = 0) ∧
                    Φ (.inl (some (bm_l (bm_x (v3.tmod x1))))) w1
                  else
                    (¬ x1 = 0) ∧
                    Φ (.inl (some (bm_l (bm_x (v3.tdiv x1))))) w1)
                else
                  (bm_kt w1 v0 = 12) ∧ bm_Call bm_pg d y_X12_fault [bm_r (some v0)] w1 (fun r2 w2 => 
                    bm_c2 (fun x2 => Φ (.inl (some (bm_l x2))) w2) (fun E => Φ (.inr E) w2) r2))
              else
                Φ (.inl (some (bm_l (bm_x (v3 * x1))))) w1)
            else
              Φ (.inl (some (bm_l (bm_x (v3 - x1))))) w1)
          else
            Φ (.inl (some (bm_l (bm_x (v3 + x1))))) w1)
        else
          (True) ∧ bm_Call bm_pg d y_X12_holds [bm_i v2, bm_l v3, bm_l x1] w1 (fun r3 w3 => 
            bm_c1 (fun x3 => (True) ∧ bm_Call bm_pg d y_X12_truth [bm_i x3] w3 (fun r4 w4 => 
              bm_c2 (fun x4 => Φ (.inl (some (bm_l x4))) w4) (fun E => Φ (.inr E) w4) r4)) (fun E => Φ (.inr E) w3) r3))
      else
        (if (decide (x1 = (0 : Int))) = true then
          (True) ∧ bm_Call bm_pg d y_X12_truth [bm_i (0 : Int)] w1 (fun r5 w5 => 
            bm_c2 (fun x5 => Φ (.inl (some (bm_l x5))) w5) (fun E => Φ (.inr E) w5) r5)
        else
          (True) ∧ bm_Call bm_pg d y_X12_truth [bm_i (1 : Int)] w1 (fun r6 w6 => 
            bm_c2 (fun x6 => Φ (.inl (some (bm_l x6))) w6) (fun E => Φ (.inr E) w6) r6)))
    else
      Φ (.inl (some (bm_l (0 : Int)))) w1)) (fun E => Φ (.inr E) w1) r1)) : bk_X12_both_25 d Φ v0 v1 v2 v3 v5 v7 v9 v11 w := bm_go (bm_Call_mono _ _) [25] 91 _ h
/-! CaseTablesModel.called(IJJJI)J -/
def bk_X12_called_66 (d : Nat) (Φ : bm_Rt → bm_W → Prop) (v0 : Nat) (v1 : Int) (v2 : Int) (v4 : Int) (v6 : Int) (v8 : Int) (v9 : Int) (v10 : Int) (s0 : Int) (w : bm_W) : Prop := bm_Wp (bm_Call bm_pg d) tb_X12_called Φ (66, [some (bm_r (some v0)), some (bm_i v1), some (bm_l v2), none, some (bm_l v4), none, some (bm_l v6), none, some (bm_i v8), some (bm_i v9), some (bm_l v10), none, none, none, none, none], [bm_l s0], w)
set_option maxRecDepth 20000 in
theorem vc_X12_called {d : Nat} {Φ : bm_Rt → bm_W → Prop} {p0 : Nat} {p1 : Int} {p2 : Int} {p3 : Int} {p4 : Int} {p5 : Int} {w : bm_W} (h :
  (bm_kt w p0 = 12 ∧ bm_gr w p0 20 = some (bm_u (bm_gr w p0 20))) ∧
  (bm_kt w p0 = 12 ∧ bm_gr w p0 16 = some (bm_u (bm_gr w p0 16))) ∧
  (bm_kt w (bm_u (bm_gr w p0 16)) = 21 ∧ bm_in p1 (bm_kn w (bm_u (bm_gr w p0 16)))) ∧
  (bm_kt w (bm_u (bm_gr w p0 20)) = 21 ∧ bm_in (bm_gi w (bm_u (bm_gr w p0 16)) (p1).toNat) (bm_kn w (bm_u (bm_gr w p0 20)))) ∧
  (bm_kt w p0 = 12 ∧ bm_gr w p0 13 = some (bm_u (bm_gr w p0 13))) ∧
  (bm_kt w (bm_u (bm_gr w p0 13)) = 21 ∧ bm_in p1 (bm_kn w (bm_u (bm_gr w p0 13)))) ∧
  (bm_kt w p0 = 12) ∧ bm_Call bm_pg d y_X12_worth [bm_r (some p0), bm_i (bm_gi w (bm_u (bm_gr w p0 13)) (p1).toNat), bm_l p2, bm_l p3, bm_l p4, bm_i p5] w (fun r1 w1 => 
    bm_c2 (fun x1 => (if (decide ((bm_gi w (bm_u (bm_gr w p0 20)) ((bm_gi w (bm_u (bm_gr w p0 16)) (p1).toNat)).toNat) ≤ (1 : Int))) = true then
      bk_X12_called_66 d Φ p0 p1 p2 p3 p4 p5 (bm_gi w (bm_u (bm_gr w p0 20)) ((bm_gi w (bm_u (bm_gr w p0 16)) (p1).toNat)).toNat) x1 (0 : Int) w1
    else
      (bm_kt w1 p0 = 12) ∧
      (if (!decide ((bm_gi w1 p0 36) = 0)) = true then
        bk_X12_called_66 d Φ p0 p1 p2 p3 p4 p5 (bm_gi w (bm_u (bm_gr w p0 20)) ((bm_gi w (bm_u (bm_gr w p0 16)) (p1).toNat)).toNat) x1 (0 : Int) w1
      else
        (bm_kt w1 p0 = 12 ∧ bm_gr w1 p0 14 = some (bm_u (bm_gr w1 p0 14))) ∧
        (bm_kt w1 (bm_u (bm_gr w1 p0 14)) = 21 ∧ bm_in p1 (bm_kn w1 (bm_u (bm_gr w1 p0 14)))) ∧
        (bm_kt w1 p0 = 12) ∧ bm_Call bm_pg d y_X12_worth [bm_r (some p0), bm_i (bm_gi w1 (bm_u (bm_gr w1 p0 14)) (p1).toNat), bm_l p2, bm_l p3, bm_l p4, bm_i p5] w1 (fun r2 w2 => 
          bm_c2 (fun x2 => bk_X12_called_66 d Φ p0 p1 p2 p3 p4 p5 (bm_gi w (bm_u (bm_gr w p0 20)) ((bm_gi w (bm_u (bm_gr w p0 16)) (p1).toNat)).toNat) x1 x2 w2) (fun E => Φ (.inr E) w2) r2)))) (fun E => Φ (.inr E) w1) r1)) : bm_Call bm_pg (d + 1) y_X12_called [bm_r (some p0), bm_i p1, bm_l p2, bm_l p3, bm_l p4, bm_i p5] w Φ := bm_enter rfl (bm_go (bm_Call_mono _ _) [66] 78 _ h)
set_option maxRecDepth 20000 in
theorem vb_X12_called_66 {d : Nat} {Φ : bm_Rt → bm_W → Prop} {v0 : Nat} {v1 : Int} {v2 : Int} {v4 : Int} {v6 : Int} {v8 : Int} {v9 : Int} {v10 : Int} {s0 : Int} {w : bm_W} (h :
  (if (decide (v9 ≤ (2 : Int))) = true then
    (bm_kt w v0 = 12) ∧
    (if (decide ((bm_gi w v0 36) = 0)) = true then
      (bm_kt w v0 = 12 ∧ bm_gr w v0 24 = some (bm_u (bm_gr w v0 24))) ∧
      (bm_kt w v0 = 12 ∧ bm_gr w v0 16 = some (bm_u (bm_gr w v0 16))) ∧
      (bm_kt w (bm_u (bm_gr w v0 16)) = 21 ∧ bm_in v1 (bm_kn w (bm_u (bm_gr w v0 16)))) ∧
      (bm_kt w (bm_u (bm_gr w v0 24)) = 21 ∧ bm_in (bm_gi w (bm_u (bm_gr w v0 16)) (v1).toNat) (bm_kn w (bm_u (bm_gr w v0 24)))) ∧
      (bm_kt w v0 = 12) ∧ bm_Call bm_pg d y_X12_worth [bm_r (some v0), bm_i (bm_gi w (bm_u (bm_gr w v0 24)) ((bm_gi w (bm_u (bm_gr w v0 16)) (v1).toNat)).toNat), bm_l v10, bm_l s0, bm_l (0 : Int), bm_i (-1 : Int)] w (fun r1 w1 => 
        bm_c2 (fun x1 => Φ (.inl (some (bm_l x1))) w1) (fun E => Φ (.inr E) w1) r1)
    else
      Φ (.inl (some (bm_l (0 : Int)))) w)
  else
    (bm_kt w v0 = 12) ∧
    (if (!decide ((bm_gi w v0 36) = 0)) = true then
      (bm_kt w v0 = 12) ∧
      (if (decide ((bm_gi w v0 36) = 0)) = true then
        (bm_kt w v0 = 12 ∧ bm_gr w v0 24 = some (bm_u (bm_gr w v0 24))) ∧
        (bm_kt w v0 = 12 ∧ bm_gr w v0 16 = some (bm_u (bm_gr w v0 16))) ∧
        (bm_kt w (bm_u (bm_gr w v0 16)) = 21 ∧ bm_in v1 (bm_kn w (bm_u (bm_gr w v0 16)))) ∧
        (bm_kt w (bm_u (bm_gr w v0 24)) = 21 ∧ bm_in (bm_gi w (bm_u (bm_gr w v0 16)) (v1).toNat) (bm_kn w (bm_u (bm_gr w v0 24)))) ∧
        (bm_kt w v0 = 12) ∧ bm_Call bm_pg d y_X12_worth [bm_r (some v0), bm_i (bm_gi w (bm_u (bm_gr w v0 24)) ((bm_gi w (bm_u (bm_gr w v0 16)) (v1).toNat)).toNat), bm_l v10, bm_l s0, bm_l (0 : Int), bm_i (-1 : Int)] w (fun r2 w2 => 
          bm_c2 (fun x2 => Φ (.inl (some (bm_l x2))) w2) (fun E => Φ (.inr E) w2) r2)
      else
        Φ (.inl (some (bm_l (0 : Int)))) w)
    else
      (bm_kt w v0 = 12 ∧ bm_gr w v0 15 = some (bm_u (bm_gr w v0 15))) ∧
      (bm_kt w (bm_u (bm_gr w v0 15)) = 21 ∧ bm_in v1 (bm_kn w (bm_u (bm_gr w v0 15)))) ∧
      (bm_kt w v0 = 12) ∧ bm_Call bm_pg d y_X12_worth [bm_r (some v0), bm_i (bm_gi w (bm_u (bm_gr w v0 15)) (v1).toNat), bm_l v2, bm_l v4, bm_l v6, bm_i v8] w (fun r3 w3 => 
        bm_c2 (fun x3 => (bm_kt w3 v0 = 12) ∧
        (if (decide ((bm_gi w3 v0 36) = 0)) = true then
          (bm_kt w3 v0 = 12 ∧ bm_gr w3 v0 24 = some (bm_u (bm_gr w3 v0 24))) ∧
          (bm_kt w3 v0 = 12 ∧ bm_gr w3 v0 16 = some (bm_u (bm_gr w3 v0 16))) ∧
          (bm_kt w3 (bm_u (bm_gr w3 v0 16)) = 21 ∧ bm_in v1 (bm_kn w3 (bm_u (bm_gr w3 v0 16)))) ∧
          (bm_kt w3 (bm_u (bm_gr w3 v0 24)) = 21 ∧ bm_in (bm_gi w3 (bm_u (bm_gr w3 v0 16)) (v1).toNat) (bm_kn w3 (bm_u (bm_gr w3 v0 24)))) ∧
          (bm_kt w3 v0 = 12) ∧ bm_Call bm_pg d y_X12_worth [bm_r (some v0), bm_i (bm_gi w3 (bm_u (bm_gr w3 v0 24)) ((bm_gi w3 (bm_u (bm_gr w3 v0 16)) (v1).toNat)).toNat), bm_l v10, bm_l s0, bm_l x3, bm_i (-1 : Int)] w3 (fun r4 w4 => 
            bm_c2 (fun x4 => Φ (.inl (some (bm_l x4))) w4) (fun E => Φ (.inr E) w4) r4)
        else
          Φ (.inl (some (bm_l (0 : Int)))) w3)) (fun E => Φ (.inr E) w3) r3)))) : bk_X12_called_66 d Φ v0 v1 v2 v4 v6 v8 v9 v10 s0 w := bm_go (bm_Call_mono _ _) [66] 78 _ h
/-! CaseTablesModel.run(I[II)J -/
set_option maxRecDepth 20000 in
theorem vc_X12_run {d : Nat} {Φ : bm_Rt → bm_W → Prop} {p0 : Nat} {p1 : Int} {p2 : Nat} {p3 : Int} {w : bm_W} (h :
  (bm_kt w p0 = 12 ∧ ((0 : Int) = 0 ∨ (0 : Int) = 1)) ∧
  (bm_kt (bm_si w p0 36 (0 : Int)) p0 = 12 ∧ bm_gr (bm_si w p0 36 (0 : Int)) p0 24 = some (bm_u (bm_gr (bm_si w p0 36 (0 : Int)) p0 24))) ∧
  (bm_kt (bm_si w p0 36 (0 : Int)) (bm_u (bm_gr (bm_si w p0 36 (0 : Int)) p0 24)) = 21 ∧ bm_in p1 (bm_kn (bm_si w p0 36 (0 : Int)) (bm_u (bm_gr (bm_si w p0 36 (0 : Int)) p0 24)))) ∧
  (bm_kt (bm_si w p0 36 (0 : Int)) p2 = 21 ∧ bm_in (0 : Int) (bm_kn (bm_si w p0 36 (0 : Int)) p2)) ∧
  (bm_kt (bm_si w p0 36 (0 : Int)) p2 = 21 ∧ bm_in (1 : Int) (bm_kn (bm_si w p0 36 (0 : Int)) p2)) ∧
  (bm_kt (bm_si w p0 36 (0 : Int)) p2 = 21 ∧ bm_in (2 : Int) (bm_kn (bm_si w p0 36 (0 : Int)) p2)) ∧
  (bm_kt (bm_si w p0 36 (0 : Int)) p0 = 12) ∧ bm_Call bm_pg d y_X12_worth [bm_r (some p0), bm_i (bm_gi (bm_si w p0 36 (0 : Int)) (bm_u (bm_gr (bm_si w p0 36 (0 : Int)) p0 24)) (p1).toNat), bm_l (bm_gi (bm_si w p0 36 (0 : Int)) p2 ((0 : Int)).toNat), bm_l (bm_gi (bm_si w p0 36 (0 : Int)) p2 ((1 : Int)).toNat), bm_l (bm_gi (bm_si w p0 36 (0 : Int)) p2 ((2 : Int)).toNat), bm_i p3] (bm_si w p0 36 (0 : Int)) (fun r1 w1 => 
    bm_c2 (fun x1 => Φ (.inl (some (bm_l x1))) w1) (fun E => Φ (.inr E) w1) r1)) : bm_Call bm_pg (d + 1) y_X12_run [bm_r (some p0), bm_i p1, bm_r (some p2), bm_i p3] w Φ := bm_enter rfl (bm_go (bm_Call_mono _ _) [] 25 _ h)
/-! CaseTablesModel.casesOf(II)I -/
def bk_X12_casesOf_5 (d : Nat) (Φ : bm_Rt → bm_W → Prop) (v0 : Nat) (v1 : Int) (v2 : Int) (v3 : Int) (v4 : Int) (w : bm_W) : Prop := bm_Wp (bm_Call bm_pg d) tb_X12_casesOf Φ (5, [some (bm_r (some v0)), some (bm_i v1), some (bm_i v2), some (bm_i v3), some (bm_i v4), none], [], w)
set_option maxRecDepth 20000 in
theorem vc_X12_casesOf {d : Nat} {Φ : bm_Rt → bm_W → Prop} {p0 : Nat} {p1 : Int} {p2 : Int} {w : bm_W} (h :
  bk_X12_casesOf_5 d Φ p0 p1 p2 (1 : Int) (0 : Int) w) : bm_Call bm_pg (d + 1) y_X12_casesOf [bm_r (some p0), bm_i p1, bm_i p2] w Φ := bm_enter rfl (bm_go (bm_Call_mono _ _) [5] 43 _ h)
set_option maxRecDepth 20000 in
theorem vb_X12_casesOf_5 {d : Nat} {Φ : bm_Rt → bm_W → Prop} {v0 : Nat} {v1 : Int} {v2 : Int} {v3 : Int} {v4 : Int} {w : bm_W} (h :
  (bm_kt w v0 = 12 ∧ bm_gr w v0 20 = some (bm_u (bm_gr w v0 20))) ∧
  (bm_kt w v0 = 12 ∧ bm_gr w v0 30 = some (bm_u (bm_gr w v0 30))) ∧
  (bm_kt w (bm_u (bm_gr w v0 30)) = 21 ∧ bm_in v1 (bm_kn w (bm_u (bm_gr w v0 30)))) ∧
  (bm_kt w (bm_u (bm_gr w v0 20)) = 21 ∧ bm_in (bm_gi w (bm_u (bm_gr w v0 30)) (v1).toNat) (bm_kn w (bm_u (bm_gr w v0 20)))) ∧
  (if (decide ((bm_gi w (bm_u (bm_gr w v0 20)) ((bm_gi w (bm_u (bm_gr w v0 30)) (v1).toNat)).toNat) ≤ v4)) = true then
    Φ (.inl (some (bm_i v3))) w
  else
    (bm_kt w v0 = 12 ∧ bm_gr w v0 33 = some (bm_u (bm_gr w v0 33))) ∧
    (bm_kt w (bm_u (bm_gr w v0 33)) = 21 ∧ bm_in (bm_w ((bm_w ((bm_w ((bm_w ((12 : Int) * v1)) + v2)) * (3 : Int))) + v4)) (bm_kn w (bm_u (bm_gr w v0 33)))) ∧
    (bm_kt w v0 = 12 ∧ bm_gr w v0 32 = some (bm_u (bm_gr w v0 32))) ∧
    (bm_kt w (bm_u (bm_gr w v0 32)) = 21 ∧ bm_in (bm_w ((bm_w ((bm_w ((bm_w ((12 : Int) * v1)) + v2)) * (3 : Int))) + v4)) (bm_kn w (bm_u (bm_gr w v0 32)))) ∧
    bk_X12_casesOf_5 d Φ v0 v1 v2 (bm_w (v3 * (bm_w ((bm_w ((bm_gi w (bm_u (bm_gr w v0 33)) ((bm_w ((bm_w ((bm_w ((bm_w ((12 : Int) * v1)) + v2)) * (3 : Int))) + v4))).toNat) - (bm_gi w (bm_u (bm_gr w v0 32)) ((bm_w ((bm_w ((bm_w ((bm_w ((12 : Int) * v1)) + v2)) * (3 : Int))) + v4))).toNat))) + (1 : Int))))) (bm_w (v4 + 1)) w)) : bk_X12_casesOf_5 d Φ v0 v1 v2 v3 v4 w := bm_go (bm_Call_mono _ _) [5] 43 _ h
/-! CaseTablesModel.cases(I)I -/
def bk_X12_cases_4 (d : Nat) (Φ : bm_Rt → bm_W → Prop) (v0 : Nat) (v1 : Int) (v2 : Int) (v3 : Int) (w : bm_W) : Prop := bm_Wp (bm_Call bm_pg d) tb_X12_cases Φ (4, [some (bm_r (some v0)), some (bm_i v1), some (bm_i v2), some (bm_i v3)], [], w)
set_option maxRecDepth 20000 in
theorem vc_X12_cases {d : Nat} {Φ : bm_Rt → bm_W → Prop} {p0 : Nat} {p1 : Int} {w : bm_W} (h :
  bk_X12_cases_4 d Φ p0 p1 (0 : Int) (0 : Int) w) : bm_Call bm_pg (d + 1) y_X12_cases [bm_r (some p0), bm_i p1] w Φ := bm_enter rfl (bm_go (bm_Call_mono _ _) [4] 23 _ h)
set_option maxRecDepth 20000 in
theorem vb_X12_cases_4 {d : Nat} {Φ : bm_Rt → bm_W → Prop} {v0 : Nat} {v1 : Int} {v2 : Int} {v3 : Int} {w : bm_W} (h :
  (bm_kt w v0 = 12 ∧ bm_gr w v0 31 = some (bm_u (bm_gr w v0 31))) ∧
  (bm_kt w (bm_u (bm_gr w v0 31)) = 21 ∧ bm_in v1 (bm_kn w (bm_u (bm_gr w v0 31)))) ∧
  (if (decide ((bm_gi w (bm_u (bm_gr w v0 31)) (v1).toNat) ≤ v3)) = true then
    Φ (.inl (some (bm_i v2))) w
  else
    (bm_kt w v0 = 12) ∧ bm_Call bm_pg d y_X12_casesOf [bm_r (some v0), bm_i v1, bm_i v3] w (fun r1 w1 => 
      bm_c1 (fun x1 => bk_X12_cases_4 d Φ v0 v1 (bm_w (v2 + x1)) (bm_w (v3 + 1)) w1) (fun E => Φ (.inr E) w1) r1))) : bk_X12_cases_4 d Φ v0 v1 v2 v3 w := bm_go (bm_Call_mono _ _) [4] 23 _ h
/-! CaseTablesModel.counted(I)I -/
def bk_X12_counted_9 (d : Nat) (Φ : bm_Rt → bm_W → Prop) (v0 : Nat) (v2 : Int) (v3 : Int) (w : bm_W) : Prop := bm_Wp (bm_Call bm_pg d) tb_X12_counted Φ (9, [some (bm_r (some v0)), none, some (bm_i v2), some (bm_i v3)], [], w)
set_option maxRecDepth 20000 in
theorem vc_X12_counted {d : Nat} {Φ : bm_Rt → bm_W → Prop} {p0 : Nat} {p1 : Int} {w : bm_W} (h :
  (if (!decide (p1 = (3 : Int))) = true then
    (if (!decide (p1 = 0)) = true then
      (if (!decide (p1 = (1 : Int))) = true then
        (if (!decide (p1 = (2 : Int))) = true then
          (bm_kt w p0 = 12) ∧
          Φ (.inl (some (bm_i (bm_gi w p0 2)))) w
        else
          (bm_kt w p0 = 12) ∧
          Φ (.inl (some (bm_i (bm_gi w p0 27)))) w)
      else
        (bm_kt w p0 = 12) ∧
        Φ (.inl (some (bm_i (bm_gi w p0 28)))) w)
    else
      (bm_kt w p0 = 12) ∧
      Φ (.inl (some (bm_i (bm_gi w p0 18)))) w)
  else
    bk_X12_counted_9 d Φ p0 (0 : Int) (0 : Int) w)) : bm_Call bm_pg (d + 1) y_X12_counted [bm_r (some p0), bm_i p1] w Φ := bm_enter rfl (bm_go (bm_Call_mono _ _) [9] 43 _ h)
set_option maxRecDepth 20000 in
theorem vb_X12_counted_9 {d : Nat} {Φ : bm_Rt → bm_W → Prop} {v0 : Nat} {v2 : Int} {v3 : Int} {w : bm_W} (h :
  (bm_kt w v0 = 12) ∧
  (if (decide ((bm_gi w v0 28) ≤ v3)) = true then
    Φ (.inl (some (bm_i v2))) w
  else
    (bm_kt w v0 = 12) ∧ bm_Call bm_pg d y_X12_cases [bm_r (some v0), bm_i v3] w (fun r1 w1 => 
      bm_c1 (fun x1 => bk_X12_counted_9 d Φ v0 (bm_w (v2 + x1)) (bm_w (v3 + 1)) w1) (fun E => Φ (.inr E) w1) r1))) : bk_X12_counted_9 d Φ v0 v2 v3 w := bm_go (bm_Call_mono _ _) [9] 43 _ h
/-! CaseTablesModel.count(I)I -/
set_option maxRecDepth 20000 in
theorem vc_X12_count {d : Nat} {Φ : bm_Rt → bm_W → Prop} {p0 : Nat} {p1 : Int} {w : bm_W} (h :
  (bm_kt w p0 = 12) ∧
  (True) ∧ bm_Call bm_pg d y_X12_isIn [bm_i p1, bm_i (0 : Int), bm_i (4 : Int)] (bm_si w p0 0 (0 : Int)) (fun r1 w1 => 
    bm_c1 (fun x1 => (if (decide (x1 = 0)) = true then
      (bm_kt w1 p0 = 12) ∧ bm_Call bm_pg d y_X12_no [bm_r (some p0), bm_i (1 : Int)] w1 (fun r2 w2 => 
        bm_c1 (fun x2 => Φ (.inl (some (bm_i x2))) w2) (fun E => Φ (.inr E) w2) r2)
    else
      (bm_kt w1 p0 = 12) ∧ bm_Call bm_pg d y_X12_counted [bm_r (some p0), bm_i p1] w1 (fun r3 w3 => 
        bm_c1 (fun x3 => Φ (.inl (some (bm_i x3))) w3) (fun E => Φ (.inr E) w3) r3))) (fun E => Φ (.inr E) w1) r1)) : bm_Call bm_pg (d + 1) y_X12_count [bm_r (some p0), bm_i p1] w Φ := bm_enter rfl (bm_go (bm_Call_mono _ _) [] 18 _ h)
/-! CaseTablesModel.span(II)I -/
set_option maxRecDepth 20000 in
theorem vc_X12_span {d : Nat} {Φ : bm_Rt → bm_W → Prop} {p0 : Nat} {p1 : Int} {p2 : Int} {w : bm_W} (h :
  (bm_kt w p0 = 12 ∧ bm_gr w p0 23 = some (bm_u (bm_gr w p0 23))) ∧
  (bm_kt w (bm_u (bm_gr w p0 23)) = 21 ∧ bm_in (bm_w ((bm_w ((3 : Int) * p1)) + p2)) (bm_kn w (bm_u (bm_gr w p0 23)))) ∧
  (bm_kt w p0 = 12 ∧ bm_gr w p0 22 = some (bm_u (bm_gr w p0 22))) ∧
  (bm_kt w (bm_u (bm_gr w p0 22)) = 21 ∧ bm_in (bm_w ((bm_w ((3 : Int) * p1)) + p2)) (bm_kn w (bm_u (bm_gr w p0 22)))) ∧
  Φ (.inl (some (bm_i (bm_w ((bm_w ((bm_gi w (bm_u (bm_gr w p0 23)) ((bm_w ((bm_w ((3 : Int) * p1)) + p2))).toNat) - (bm_gi w (bm_u (bm_gr w p0 22)) ((bm_w ((bm_w ((3 : Int) * p1)) + p2))).toNat))) + (1 : Int)))))) w) : bm_Call bm_pg (d + 1) y_X12_span [bm_r (some p0), bm_i p1, bm_i p2] w Φ := bm_enter rfl (bm_go (bm_Call_mono _ _) [] 22 _ h)
/-! CaseTablesModel.all(I)I -/
def bk_X12_all_4 (d : Nat) (Φ : bm_Rt → bm_W → Prop) (v0 : Nat) (v1 : Int) (v2 : Int) (v3 : Int) (w : bm_W) : Prop := bm_Wp (bm_Call bm_pg d) tb_X12_all Φ (4, [some (bm_r (some v0)), some (bm_i v1), some (bm_i v2), some (bm_i v3)], [], w)
set_option maxRecDepth 20000 in
theorem vc_X12_all {d : Nat} {Φ : bm_Rt → bm_W → Prop} {p0 : Nat} {p1 : Int} {w : bm_W} (h :
  bk_X12_all_4 d Φ p0 p1 (1 : Int) (0 : Int) w) : bm_Call bm_pg (d + 1) y_X12_all [bm_r (some p0), bm_i p1] w Φ := bm_enter rfl (bm_go (bm_Call_mono _ _) [4] 23 _ h)
set_option maxRecDepth 20000 in
theorem vb_X12_all_4 {d : Nat} {Φ : bm_Rt → bm_W → Prop} {v0 : Nat} {v1 : Int} {v2 : Int} {v3 : Int} {w : bm_W} (h :
  (bm_kt w v0 = 12 ∧ bm_gr w v0 20 = some (bm_u (bm_gr w v0 20))) ∧
  (bm_kt w (bm_u (bm_gr w v0 20)) = 21 ∧ bm_in v1 (bm_kn w (bm_u (bm_gr w v0 20)))) ∧
  (if (decide ((bm_gi w (bm_u (bm_gr w v0 20)) (v1).toNat) ≤ v3)) = true then
    Φ (.inl (some (bm_i v2))) w
  else
    (bm_kt w v0 = 12) ∧ bm_Call bm_pg d y_X12_span [bm_r (some v0), bm_i v1, bm_i v3] w (fun r1 w1 => 
      bm_c1 (fun x1 => bk_X12_all_4 d Φ v0 v1 (bm_w (v2 * x1)) (bm_w (v3 + 1)) w1) (fun E => Φ (.inr E) w1) r1))) : bk_X12_all_4 d Φ v0 v1 v2 v3 w := bm_go (bm_Call_mono _ _) [4] 23 _ h
/-! CaseTablesModel.rowOf(II)[I -/
def bk_X12_rowOf_17 (d : Nat) (Φ : bm_Rt → bm_W → Prop) (v0 : Nat) (v1 : Int) (v3 : Nat) (v4 : Int) (v5 : Int) (w : bm_W) : Prop := bm_Wp (bm_Call bm_pg d) tb_X12_rowOf Φ (17, [some (bm_r (some v0)), some (bm_i v1), none, some (bm_r (some v3)), some (bm_i v4), some (bm_i v5)], [], w)
set_option maxRecDepth 20000 in
theorem vc_X12_rowOf {d : Nat} {Φ : bm_Rt → bm_W → Prop} {p0 : Nat} {p1 : Int} {p2 : Int} {w : bm_W} (h :
  (0 ≤ (3 : Int) ∧ (3 : Int) ≤ 100000) ∧
  (bm_kt (bm_nw w 21 ((3 : Int)).toNat ((3 : Int)).toNat) p0 = 12 ∧ bm_gr (bm_nw w 21 ((3 : Int)).toNat ((3 : Int)).toNat) p0 20 = some (bm_u (bm_gr (bm_nw w 21 ((3 : Int)).toNat ((3 : Int)).toNat) p0 20))) ∧
  (bm_kt (bm_nw w 21 ((3 : Int)).toNat ((3 : Int)).toNat) (bm_u (bm_gr (bm_nw w 21 ((3 : Int)).toNat ((3 : Int)).toNat) p0 20)) = 21 ∧ bm_in p1 (bm_kn (bm_nw w 21 ((3 : Int)).toNat ((3 : Int)).toNat) (bm_u (bm_gr (bm_nw w 21 ((3 : Int)).toNat ((3 : Int)).toNat) p0 20)))) ∧
  bk_X12_rowOf_17 d Φ p0 p1 (bm_sz w) p2 (bm_w ((bm_gi (bm_nw w 21 ((3 : Int)).toNat ((3 : Int)).toNat) (bm_u (bm_gr (bm_nw w 21 ((3 : Int)).toNat ((3 : Int)).toNat) p0 20)) (p1).toNat) - (1 : Int))) (bm_nw w 21 ((3 : Int)).toNat ((3 : Int)).toNat)) : bm_Call bm_pg (d + 1) y_X12_rowOf [bm_r (some p0), bm_i p1, bm_i p2] w Φ := bm_enter rfl (bm_go (bm_Call_mono _ _) [17] 45 _ h)
set_option maxRecDepth 20000 in
theorem vb_X12_rowOf_17 {d : Nat} {Φ : bm_Rt → bm_W → Prop} {v0 : Nat} {v1 : Int} {v3 : Nat} {v4 : Int} {v5 : Int} {w : bm_W} (h :
  (if (decide (v5 < 0)) = true then
    Φ (.inl (some (bm_r (some v3)))) w
  else
    (bm_kt w v0 = 12 ∧ bm_gr w v0 22 = some (bm_u (bm_gr w v0 22))) ∧
    (bm_kt w (bm_u (bm_gr w v0 22)) = 21 ∧ bm_in (bm_w ((bm_w ((3 : Int) * v1)) + v5)) (bm_kn w (bm_u (bm_gr w v0 22)))) ∧
    (bm_kt w v0 = 12) ∧ bm_Call bm_pg d y_X12_span [bm_r (some v0), bm_i v1, bm_i v5] w (fun r1 w1 => 
      bm_c1 (fun x1 => (¬ x1 = 0) ∧
      (bm_kt w1 v3 = 21 ∧ bm_in v5 (bm_kn w1 v3)) ∧
      (bm_kt (bm_si w1 v3 (v5).toNat (bm_w ((bm_gi w (bm_u (bm_gr w v0 22)) ((bm_w ((bm_w ((3 : Int) * v1)) + v5))).toNat) + (bm_w (v4.tmod x1))))) v0 = 12) ∧ bm_Call bm_pg d y_X12_span [bm_r (some v0), bm_i v1, bm_i v5] (bm_si w1 v3 (v5).toNat (bm_w ((bm_gi w (bm_u (bm_gr w v0 22)) ((bm_w ((bm_w ((3 : Int) * v1)) + v5))).toNat) + (bm_w (v4.tmod x1))))) (fun r2 w2 => 
        bm_c1 (fun x2 => (¬ x2 = 0) ∧
        bk_X12_rowOf_17 d Φ v0 v1 v3 (bm_w (v4.tdiv x2)) (bm_w (v5 + (-1))) w2) (fun E => Φ (.inr E) w2) r2)) (fun E => Φ (.inr E) w1) r1))) : bk_X12_rowOf_17 d Φ v0 v1 v3 v4 v5 w := bm_go (bm_Call_mono _ _) [17] 45 _ h
/-! CaseTablesModel.pairAt(IIII)I -/
set_option maxRecDepth 20000 in
theorem vc_X12_pairAt {d : Nat} {Φ : bm_Rt → bm_W → Prop} {p0 : Int} {p1 : Int} {p2 : Int} {p3 : Int} {w : bm_W} (h :
  Φ (.inl (some (bm_i (bm_w ((bm_w ((bm_w ((bm_w ((bm_w ((bm_w (p0 + p1)) * (41 : Int))) * (41 : Int))) + (bm_w ((bm_w (p2 + (20 : Int))) * (41 : Int))))) + p3)) + (20 : Int)))))) w) : bm_Call bm_pg (d + 1) y_X12_pairAt [bm_i p0, bm_i p1, bm_i p2, bm_i p3] w Φ := bm_enter rfl (bm_go (bm_Call_mono _ _) [] 20 _ h)
/-! CaseTablesModel.mark(I[I)V -/
def bk_X12_mark_27 (d : Nat) (Φ : bm_Rt → bm_W → Prop) (v0 : Nat) (v1 : Int) (v2 : Nat) (v3 : Int) (w : bm_W) : Prop := bm_Wp (bm_Call bm_pg d) tb_X12_mark Φ (27, [some (bm_r (some v0)), some (bm_i v1), some (bm_r (some v2)), some (bm_i v3), none], [], w)
def bk_X12_mark_42 (d : Nat) (Φ : bm_Rt → bm_W → Prop) (v0 : Nat) (v1 : Int) (v2 : Nat) (v3 : Int) (v4 : Int) (w : bm_W) : Prop := bm_Wp (bm_Call bm_pg d) tb_X12_mark Φ (42, [some (bm_r (some v0)), some (bm_i v1), some (bm_r (some v2)), some (bm_i v3), some (bm_i v4)], [], w)
set_option maxRecDepth 20000 in
theorem vc_X12_mark {d : Nat} {Φ : bm_Rt → bm_W → Prop} {p0 : Nat} {p1 : Int} {p2 : Nat} {w : bm_W} (h :
  (bm_kt w p0 = 12 ∧ bm_gr w p0 20 = some (bm_u (bm_gr w p0 20))) ∧
  (bm_kt w (bm_u (bm_gr w p0 20)) = 21 ∧ bm_in p1 (bm_kn w (bm_u (bm_gr w p0 20)))) ∧
  (if (!decide ((bm_gi w (bm_u (bm_gr w p0 20)) (p1).toNat) = (1 : Int))) = true then
    bk_X12_mark_27 d Φ p0 p1 p2 (0 : Int) w
  else
    (bm_kt w p0 = 12 ∧ bm_gr w p0 41 = some (bm_u (bm_gr w p0 41))) ∧
    (bm_kt w p2 = 21 ∧ bm_in (0 : Int) (bm_kn w p2)) ∧
    (True) ∧ bm_Call bm_pg d y_X12_pairAt [bm_i (0 : Int), bm_i (0 : Int), bm_i (bm_gi w p2 ((0 : Int)).toNat), bm_i (0 : Int)] w (fun r1 w1 => 
      bm_c1 (fun x1 => ((bm_kt w1 (bm_u (bm_gr w p0 41)) = 23 ∧ bm_in x1 (bm_kn w1 (bm_u (bm_gr w p0 41)))) ∧ ((1 : Int) = 0 ∨ (1 : Int) = 1)) ∧
      bk_X12_mark_27 d Φ p0 p1 p2 (0 : Int) (bm_si w1 (bm_u (bm_gr w p0 41)) (x1).toNat (1 : Int))) (fun E => Φ (.inr E) w1) r1))) : bm_Call bm_pg (d + 1) y_X12_mark [bm_r (some p0), bm_i p1, bm_r (some p2)] w Φ := bm_enter rfl (bm_go (bm_Call_mono _ _) [27, 42] 55 _ h)
set_option maxRecDepth 20000 in
theorem vb_X12_mark_27 {d : Nat} {Φ : bm_Rt → bm_W → Prop} {v0 : Nat} {v1 : Int} {v2 : Nat} {v3 : Int} {w : bm_W} (h :
  (bm_kt w v0 = 12 ∧ bm_gr w v0 20 = some (bm_u (bm_gr w v0 20))) ∧
  (bm_kt w (bm_u (bm_gr w v0 20)) = 21 ∧ bm_in v1 (bm_kn w (bm_u (bm_gr w v0 20)))) ∧
  (if (decide ((bm_gi w (bm_u (bm_gr w v0 20)) (v1).toNat) ≤ v3)) = true then
    Φ (.inl none) w
  else
    bk_X12_mark_42 d Φ v0 v1 v2 v3 (bm_w (v3 + (1 : Int))) w)) : bk_X12_mark_27 d Φ v0 v1 v2 v3 w := bm_go (bm_Call_mono _ _) [27, 42] 55 _ h
set_option maxRecDepth 20000 in
theorem vb_X12_mark_42 {d : Nat} {Φ : bm_Rt → bm_W → Prop} {v0 : Nat} {v1 : Int} {v2 : Nat} {v3 : Int} {v4 : Int} {w : bm_W} (h :
  (bm_kt w v0 = 12 ∧ bm_gr w v0 20 = some (bm_u (bm_gr w v0 20))) ∧
  (bm_kt w (bm_u (bm_gr w v0 20)) = 21 ∧ bm_in v1 (bm_kn w (bm_u (bm_gr w v0 20)))) ∧
  (if (decide ((bm_gi w (bm_u (bm_gr w v0 20)) (v1).toNat) ≤ v4)) = true then
    bk_X12_mark_27 d Φ v0 v1 v2 (bm_w (v3 + 1)) w
  else
    (bm_kt w v0 = 12 ∧ bm_gr w v0 41 = some (bm_u (bm_gr w v0 41))) ∧
    (bm_kt w v2 = 21 ∧ bm_in v3 (bm_kn w v2)) ∧
    (bm_kt w v2 = 21 ∧ bm_in v4 (bm_kn w v2)) ∧
    (True) ∧ bm_Call bm_pg d y_X12_pairAt [bm_i v3, bm_i v4, bm_i (bm_gi w v2 (v3).toNat), bm_i (bm_gi w v2 (v4).toNat)] w (fun r1 w1 => 
      bm_c1 (fun x1 => ((bm_kt w1 (bm_u (bm_gr w v0 41)) = 23 ∧ bm_in x1 (bm_kn w1 (bm_u (bm_gr w v0 41)))) ∧ ((1 : Int) = 0 ∨ (1 : Int) = 1)) ∧
      bk_X12_mark_42 d Φ v0 v1 v2 v3 (bm_w (v4 + 1)) (bm_si w1 (bm_u (bm_gr w v0 41)) (x1).toNat (1 : Int))) (fun E => Φ (.inr E) w1) r1))) : bk_X12_mark_42 d Φ v0 v1 v2 v3 v4 w := bm_go (bm_Call_mono _ _) [27, 42] 55 _ h
/-! CaseTablesModel.markAll(I)V -/
def bk_X12_markAll_2 (d : Nat) (Φ : bm_Rt → bm_W → Prop) (v0 : Nat) (v1 : Int) (v2 : Int) (w : bm_W) : Prop := bm_Wp (bm_Call bm_pg d) tb_X12_markAll Φ (2, [some (bm_r (some v0)), some (bm_i v1), some (bm_i v2), none, none], [], w)
def bk_X12_markAll_26 (d : Nat) (Φ : bm_Rt → bm_W → Prop) (v0 : Nat) (v1 : Int) (v2 : Int) (w : bm_W) : Prop := bm_Wp (bm_Call bm_pg d) tb_X12_markAll Φ (26, [some (bm_r (some v0)), some (bm_i v1), some (bm_i v2), none, none], [], w)
def bk_X12_markAll_57 (d : Nat) (Φ : bm_Rt → bm_W → Prop) (v0 : Nat) (v1 : Int) (v2 : Int) (v3 : Int) (v4 : Int) (w : bm_W) : Prop := bm_Wp (bm_Call bm_pg d) tb_X12_markAll Φ (57, [some (bm_r (some v0)), some (bm_i v1), some (bm_i v2), some (bm_i v3), some (bm_i v4)], [], w)
set_option maxRecDepth 20000 in
theorem vc_X12_markAll {d : Nat} {Φ : bm_Rt → bm_W → Prop} {p0 : Nat} {p1 : Int} {w : bm_W} (h :
  bk_X12_markAll_2 d Φ p0 p1 (0 : Int) w) : bm_Call bm_pg (d + 1) y_X12_markAll [bm_r (some p0), bm_i p1] w Φ := bm_enter rfl (bm_go (bm_Call_mono _ _) [2, 26, 57] 51 _ h)
set_option maxRecDepth 20000 in
theorem vb_X12_markAll_2 {d : Nat} {Φ : bm_Rt → bm_W → Prop} {v0 : Nat} {v1 : Int} {v2 : Int} {w : bm_W} (h :
  (bm_kt w v0 = 12 ∧ bm_gr w v0 41 = some (bm_u (bm_gr w v0 41))) ∧
  (20 ≤ bm_kt w (bm_u (bm_gr w v0 41)) ∧ bm_kt w (bm_u (bm_gr w v0 41)) < 27) ∧
  (if (decide ((bm_kn w (bm_u (bm_gr w v0 41)) : Int) ≤ v2)) = true then
    bk_X12_markAll_26 d Φ v0 v1 (0 : Int) w
  else
    (bm_kt w v0 = 12 ∧ bm_gr w v0 41 = some (bm_u (bm_gr w v0 41))) ∧
    ((bm_kt w (bm_u (bm_gr w v0 41)) = 23 ∧ bm_in v2 (bm_kn w (bm_u (bm_gr w v0 41)))) ∧ ((0 : Int) = 0 ∨ (0 : Int) = 1)) ∧
    bk_X12_markAll_2 d Φ v0 v1 (bm_w (v2 + 1)) (bm_si w (bm_u (bm_gr w v0 41)) (v2).toNat (0 : Int)))) : bk_X12_markAll_2 d Φ v0 v1 v2 w := bm_go (bm_Call_mono _ _) [2, 26, 57] 51 _ h
set_option maxRecDepth 20000 in
theorem vb_X12_markAll_26 {d : Nat} {Φ : bm_Rt → bm_W → Prop} {v0 : Nat} {v1 : Int} {v2 : Int} {w : bm_W} (h :
  (bm_kt w v0 = 12) ∧
  (if (decide ((bm_gi w v0 28) ≤ v2)) = true then
    Φ (.inl none) w
  else
    (bm_kt w v0 = 12 ∧ bm_gr w v0 30 = some (bm_u (bm_gr w v0 30))) ∧
    (bm_kt w (bm_u (bm_gr w v0 30)) = 21 ∧ bm_in v2 (bm_kn w (bm_u (bm_gr w v0 30)))) ∧
    (if (!decide ((bm_gi w (bm_u (bm_gr w v0 30)) (v2).toNat) = v1)) = true then
      bk_X12_markAll_57 d Φ v0 v1 v2 (0 : Int) (0 : Int) w
    else
      (bm_kt w v0 = 12) ∧ bm_Call bm_pg d y_X12_cases [bm_r (some v0), bm_i v2] w (fun r1 w1 => 
        bm_c1 (fun x1 => bk_X12_markAll_57 d Φ v0 v1 v2 x1 (0 : Int) w1) (fun E => Φ (.inr E) w1) r1)))) : bk_X12_markAll_26 d Φ v0 v1 v2 w := bm_go (bm_Call_mono _ _) [2, 26, 57] 51 _ h
set_option maxRecDepth 20000 in
theorem vb_X12_markAll_57 {d : Nat} {Φ : bm_Rt → bm_W → Prop} {v0 : Nat} {v1 : Int} {v2 : Int} {v3 : Int} {v4 : Int} {w : bm_W} (h :
  (if (decide (v3 ≤ v4)) = true then
    bk_X12_markAll_26 d Φ v0 v1 (bm_w (v2 + 1)) w
  else
    (bm_kt w v0 = 12) ∧ bm_Call bm_pg d y_X12_caseInputs [bm_r (some v0), bm_i v2, bm_i v4] w (fun r1 w1 => 
      bm_c3 (fun x1 => (bm_kt w1 v0 = 12) ∧ bm_Call bm_pg d y_X12_mark [bm_r (some v0), bm_i v1, bm_r (some x1)] w1 (fun r2 w2 => 
        bm_c0 (bk_X12_markAll_57 d Φ v0 v1 v2 v3 (bm_w (v4 + 1)) w2) (fun E => Φ (.inr E) w2) r2)) (fun E => Φ (.inr E) w1) r1))) : bk_X12_markAll_57 d Φ v0 v1 v2 v3 v4 w := bm_go (bm_Call_mono _ _) [2, 26, 57] 51 _ h
/-! CaseTablesModel.untried(I[I)I -/
def bk_X12_untried_38 (d : Nat) (Φ : bm_Rt → bm_W → Prop) (v0 : Nat) (v1 : Int) (v2 : Nat) (v3 : Int) (v4 : Int) (w : bm_W) : Prop := bm_Wp (bm_Call bm_pg d) tb_X12_untried Φ (38, [some (bm_r (some v0)), some (bm_i v1), some (bm_r (some v2)), some (bm_i v3), some (bm_i v4), none], [], w)
def bk_X12_untried_55 (d : Nat) (Φ : bm_Rt → bm_W → Prop) (v0 : Nat) (v1 : Int) (v2 : Nat) (v3 : Int) (v4 : Int) (v5 : Int) (w : bm_W) : Prop := bm_Wp (bm_Call bm_pg d) tb_X12_untried Φ (55, [some (bm_r (some v0)), some (bm_i v1), some (bm_r (some v2)), some (bm_i v3), some (bm_i v4), some (bm_i v5)], [], w)
set_option maxRecDepth 20000 in
theorem vc_X12_untried {d : Nat} {Φ : bm_Rt → bm_W → Prop} {p0 : Nat} {p1 : Int} {p2 : Nat} {w : bm_W} (h :
  (bm_kt w p0 = 12 ∧ bm_gr w p0 20 = some (bm_u (bm_gr w p0 20))) ∧
  (bm_kt w (bm_u (bm_gr w p0 20)) = 21 ∧ bm_in p1 (bm_kn w (bm_u (bm_gr w p0 20)))) ∧
  (if (!decide ((bm_gi w (bm_u (bm_gr w p0 20)) (p1).toNat) = (1 : Int))) = true then
    bk_X12_untried_38 d Φ p0 p1 p2 (0 : Int) (0 : Int) w
  else
    (bm_kt w p0 = 12 ∧ bm_gr w p0 41 = some (bm_u (bm_gr w p0 41))) ∧
    (bm_kt w p2 = 21 ∧ bm_in (0 : Int) (bm_kn w p2)) ∧
    (True) ∧ bm_Call bm_pg d y_X12_pairAt [bm_i (0 : Int), bm_i (0 : Int), bm_i (bm_gi w p2 ((0 : Int)).toNat), bm_i (0 : Int)] w (fun r1 w1 => 
      bm_c1 (fun x1 => (bm_kt w1 (bm_u (bm_gr w p0 41)) = 23 ∧ bm_in x1 (bm_kn w1 (bm_u (bm_gr w p0 41)))) ∧
      (if (decide ((bm_gi w1 (bm_u (bm_gr w p0 41)) (x1).toNat) = 0)) = true then
        Φ (.inl (some (bm_i (1 : Int)))) w1
      else
        Φ (.inl (some (bm_i (0 : Int)))) w1)) (fun E => Φ (.inr E) w1) r1))) : bm_Call bm_pg (d + 1) y_X12_untried [bm_r (some p0), bm_i p1, bm_r (some p2)] w Φ := bm_enter rfl (bm_go (bm_Call_mono _ _) [38, 55] 68 _ h)
set_option maxRecDepth 20000 in
theorem vb_X12_untried_38 {d : Nat} {Φ : bm_Rt → bm_W → Prop} {v0 : Nat} {v1 : Int} {v2 : Nat} {v3 : Int} {v4 : Int} {w : bm_W} (h :
  (bm_kt w v0 = 12 ∧ bm_gr w v0 20 = some (bm_u (bm_gr w v0 20))) ∧
  (bm_kt w (bm_u (bm_gr w v0 20)) = 21 ∧ bm_in v1 (bm_kn w (bm_u (bm_gr w v0 20)))) ∧
  (if (decide ((bm_gi w (bm_u (bm_gr w v0 20)) (v1).toNat) ≤ v4)) = true then
    Φ (.inl (some (bm_i v3))) w
  else
    bk_X12_untried_55 d Φ v0 v1 v2 v3 v4 (bm_w (v4 + (1 : Int))) w)) : bk_X12_untried_38 d Φ v0 v1 v2 v3 v4 w := bm_go (bm_Call_mono _ _) [38, 55] 68 _ h
set_option maxRecDepth 20000 in
theorem vb_X12_untried_55 {d : Nat} {Φ : bm_Rt → bm_W → Prop} {v0 : Nat} {v1 : Int} {v2 : Nat} {v3 : Int} {v4 : Int} {v5 : Int} {w : bm_W} (h :
  (bm_kt w v0 = 12 ∧ bm_gr w v0 20 = some (bm_u (bm_gr w v0 20))) ∧
  (bm_kt w (bm_u (bm_gr w v0 20)) = 21 ∧ bm_in v1 (bm_kn w (bm_u (bm_gr w v0 20)))) ∧
  (if (decide ((bm_gi w (bm_u (bm_gr w v0 20)) (v1).toNat) ≤ v5)) = true then
    bk_X12_untried_38 d Φ v0 v1 v2 v3 (bm_w (v4 + 1)) w
  else
    (bm_kt w v0 = 12 ∧ bm_gr w v0 41 = some (bm_u (bm_gr w v0 41))) ∧
    (bm_kt w v2 = 21 ∧ bm_in v4 (bm_kn w v2)) ∧
    (bm_kt w v2 = 21 ∧ bm_in v5 (bm_kn w v2)) ∧
    (True) ∧ bm_Call bm_pg d y_X12_pairAt [bm_i v4, bm_i v5, bm_i (bm_gi w v2 (v4).toNat), bm_i (bm_gi w v2 (v5).toNat)] w (fun r1 w1 => 
      bm_c1 (fun x1 => (bm_kt w1 (bm_u (bm_gr w v0 41)) = 23 ∧ bm_in x1 (bm_kn w1 (bm_u (bm_gr w v0 41)))) ∧
      (if (decide ((bm_gi w1 (bm_u (bm_gr w v0 41)) (x1).toNat) = 0)) = true then
        bk_X12_untried_55 d Φ v0 v1 v2 (bm_w (v3 + (1 : Int))) v4 (bm_w (v5 + 1)) w1
      else
        bk_X12_untried_55 d Φ v0 v1 v2 (bm_w (v3 + (0 : Int))) v4 (bm_w (v5 + 1)) w1)) (fun E => Φ (.inr E) w1) r1))) : bk_X12_untried_55 d Φ v0 v1 v2 v3 v4 v5 w := bm_go (bm_Call_mono _ _) [38, 55] 68 _ h
/-! CaseTablesModel.pairs(I)I -/
def bk_X12_pairs_21 (d : Nat) (Φ : bm_Rt → bm_W → Prop) (v0 : Nat) (v1 : Int) (v2 : Int) (v3 : Int) (w : bm_W) : Prop := bm_Wp (bm_Call bm_pg d) tb_X12_pairs Φ (21, [some (bm_r (some v0)), some (bm_i v1), some (bm_i v2), some (bm_i v3), none], [], w)
def bk_X12_pairs_36 (d : Nat) (Φ : bm_Rt → bm_W → Prop) (v0 : Nat) (v1 : Int) (v2 : Int) (v3 : Int) (v4 : Int) (w : bm_W) : Prop := bm_Wp (bm_Call bm_pg d) tb_X12_pairs Φ (36, [some (bm_r (some v0)), some (bm_i v1), some (bm_i v2), some (bm_i v3), some (bm_i v4)], [], w)
set_option maxRecDepth 20000 in
theorem vc_X12_pairs {d : Nat} {Φ : bm_Rt → bm_W → Prop} {p0 : Nat} {p1 : Int} {w : bm_W} (h :
  (bm_kt w p0 = 12 ∧ bm_gr w p0 20 = some (bm_u (bm_gr w p0 20))) ∧
  (bm_kt w (bm_u (bm_gr w p0 20)) = 21 ∧ bm_in p1 (bm_kn w (bm_u (bm_gr w p0 20)))) ∧
  (if (!decide ((bm_gi w (bm_u (bm_gr w p0 20)) (p1).toNat) = (1 : Int))) = true then
    bk_X12_pairs_21 d Φ p0 p1 (0 : Int) (0 : Int) w
  else
    (bm_kt w p0 = 12) ∧ bm_Call bm_pg d y_X12_span [bm_r (some p0), bm_i p1, bm_i (0 : Int)] w (fun r1 w1 => 
      bm_c1 (fun x1 => Φ (.inl (some (bm_i x1))) w1) (fun E => Φ (.inr E) w1) r1))) : bm_Call bm_pg (d + 1) y_X12_pairs [bm_r (some p0), bm_i p1] w Φ := bm_enter rfl (bm_go (bm_Call_mono _ _) [21, 36] 51 _ h)
set_option maxRecDepth 20000 in
theorem vb_X12_pairs_21 {d : Nat} {Φ : bm_Rt → bm_W → Prop} {v0 : Nat} {v1 : Int} {v2 : Int} {v3 : Int} {w : bm_W} (h :
  (bm_kt w v0 = 12 ∧ bm_gr w v0 20 = some (bm_u (bm_gr w v0 20))) ∧
  (bm_kt w (bm_u (bm_gr w v0 20)) = 21 ∧ bm_in v1 (bm_kn w (bm_u (bm_gr w v0 20)))) ∧
  (if (decide ((bm_gi w (bm_u (bm_gr w v0 20)) (v1).toNat) ≤ v3)) = true then
    Φ (.inl (some (bm_i v2))) w
  else
    bk_X12_pairs_36 d Φ v0 v1 v2 v3 (bm_w (v3 + (1 : Int))) w)) : bk_X12_pairs_21 d Φ v0 v1 v2 v3 w := bm_go (bm_Call_mono _ _) [21, 36] 51 _ h
set_option maxRecDepth 20000 in
theorem vb_X12_pairs_36 {d : Nat} {Φ : bm_Rt → bm_W → Prop} {v0 : Nat} {v1 : Int} {v2 : Int} {v3 : Int} {v4 : Int} {w : bm_W} (h :
  (bm_kt w v0 = 12 ∧ bm_gr w v0 20 = some (bm_u (bm_gr w v0 20))) ∧
  (bm_kt w (bm_u (bm_gr w v0 20)) = 21 ∧ bm_in v1 (bm_kn w (bm_u (bm_gr w v0 20)))) ∧
  (if (decide ((bm_gi w (bm_u (bm_gr w v0 20)) (v1).toNat) ≤ v4)) = true then
    bk_X12_pairs_21 d Φ v0 v1 v2 (bm_w (v3 + 1)) w
  else
    (bm_kt w v0 = 12) ∧ bm_Call bm_pg d y_X12_span [bm_r (some v0), bm_i v1, bm_i v3] w (fun r1 w1 => 
      bm_c1 (fun x1 => (bm_kt w1 v0 = 12) ∧ bm_Call bm_pg d y_X12_span [bm_r (some v0), bm_i v1, bm_i v4] w1 (fun r2 w2 => 
        bm_c1 (fun x2 => bk_X12_pairs_36 d Φ v0 v1 (bm_w (v2 + (bm_w (x1 * x2)))) v3 (bm_w (v4 + 1)) w2) (fun E => Φ (.inr E) w2) r2)) (fun E => Φ (.inr E) w1) r1))) : bk_X12_pairs_36 d Φ v0 v1 v2 v3 v4 w := bm_go (bm_Call_mono _ _) [21, 36] 51 _ h
/-! CaseTablesModel.pairsTried(I)I -/
def bk_X12_pairsTried_19 (d : Nat) (Φ : bm_Rt → bm_W → Prop) (v2 : Int) (v3 : Nat) (v4 : Int) (v5 : Int) (w : bm_W) : Prop := bm_Wp (bm_Call bm_pg d) tb_X12_pairsTried Φ (19, [none, none, some (bm_i v2), some (bm_r (some v3)), some (bm_i v4), some (bm_i v5), none], [], w)
set_option maxRecDepth 20000 in
theorem vc_X12_pairsTried {d : Nat} {Φ : bm_Rt → bm_W → Prop} {p0 : Nat} {p1 : Int} {w : bm_W} (h :
  (bm_kt w p0 = 12) ∧ bm_Call bm_pg d y_X12_markAll [bm_r (some p0), bm_i p1] w (fun r1 w1 => 
    bm_c0 ((bm_kt w1 p0 = 12 ∧ bm_gr w1 p0 41 = some (bm_u (bm_gr w1 p0 41))) ∧
    (20 ≤ bm_kt w1 (bm_u (bm_gr w1 p0 41)) ∧ bm_kt w1 (bm_u (bm_gr w1 p0 41)) < 27) ∧
    bk_X12_pairsTried_19 d Φ (0 : Int) (bm_u (bm_gr w1 p0 41)) (bm_kn w1 (bm_u (bm_gr w1 p0 41)) : Int) (0 : Int) w1) (fun E => Φ (.inr E) w1) r1)) : bm_Call bm_pg (d + 1) y_X12_pairsTried [bm_r (some p0), bm_i p1] w Φ := bm_enter rfl (bm_go (bm_Call_mono _ _) [19] 34 _ h)
set_option maxRecDepth 20000 in
theorem vb_X12_pairsTried_19 {d : Nat} {Φ : bm_Rt → bm_W → Prop} {v2 : Int} {v3 : Nat} {v4 : Int} {v5 : Int} {w : bm_W} (h :
  (if (decide (v4 ≤ v5)) = true then
    Φ (.inl (some (bm_i v2))) w
  else
    (bm_kt w v3 = 23 ∧ bm_in v5 (bm_kn w v3)) ∧
    (if (decide ((bm_gi w v3 (v5).toNat) = 0)) = true then
      bk_X12_pairsTried_19 d Φ (bm_w (v2 + (0 : Int))) v3 v4 (bm_w (v5 + 1)) w
    else
      bk_X12_pairsTried_19 d Φ (bm_w (v2 + (1 : Int))) v3 v4 (bm_w (v5 + 1)) w))) : bk_X12_pairsTried_19 d Φ v2 v3 v4 v5 w := bm_go (bm_Call_mono _ _) [19] 34 _ h
/-! CaseTablesModel.tablesOf(I)I -/
def bk_X12_tablesOf_4 (d : Nat) (Φ : bm_Rt → bm_W → Prop) (v0 : Nat) (v1 : Int) (v2 : Int) (v3 : Int) (w : bm_W) : Prop := bm_Wp (bm_Call bm_pg d) tb_X12_tablesOf Φ (4, [some (bm_r (some v0)), some (bm_i v1), some (bm_i v2), some (bm_i v3)], [], w)
set_option maxRecDepth 20000 in
theorem vc_X12_tablesOf {d : Nat} {Φ : bm_Rt → bm_W → Prop} {p0 : Nat} {p1 : Int} {w : bm_W} (h :
  bk_X12_tablesOf_4 d Φ p0 p1 (0 : Int) (0 : Int) w) : bm_Call bm_pg (d + 1) y_X12_tablesOf [bm_r (some p0), bm_i p1] w Φ := bm_enter rfl (bm_go (bm_Call_mono _ _) [4] 26 _ h)
set_option maxRecDepth 20000 in
theorem vb_X12_tablesOf_4 {d : Nat} {Φ : bm_Rt → bm_W → Prop} {v0 : Nat} {v1 : Int} {v2 : Int} {v3 : Int} {w : bm_W} (h :
  (bm_kt w v0 = 12) ∧
  (if (decide ((bm_gi w v0 28) ≤ v3)) = true then
    Φ (.inl (some (bm_i v2))) w
  else
    (bm_kt w v0 = 12 ∧ bm_gr w v0 30 = some (bm_u (bm_gr w v0 30))) ∧
    (bm_kt w (bm_u (bm_gr w v0 30)) = 21 ∧ bm_in v3 (bm_kn w (bm_u (bm_gr w v0 30)))) ∧
    (if (!decide ((bm_gi w (bm_u (bm_gr w v0 30)) (v3).toNat) = v1)) = true then
      bk_X12_tablesOf_4 d Φ v0 v1 (bm_w (v2 + (0 : Int))) (bm_w (v3 + 1)) w
    else
      bk_X12_tablesOf_4 d Φ v0 v1 (bm_w (v2 + (1 : Int))) (bm_w (v3 + 1)) w))) : bk_X12_tablesOf_4 d Φ v0 v1 v2 v3 w := bm_go (bm_Call_mono _ _) [4] 26 _ h
/-! CaseTablesModel.funTold(II)I -/
set_option maxRecDepth 20000 in
theorem vc_X12_funTold {d : Nat} {Φ : bm_Rt → bm_W → Prop} {p0 : Nat} {p1 : Int} {p2 : Int} {w : bm_W} (h :
  (if (!decide (p2 = 0)) = true then
    (if (!decide (p2 = (1 : Int))) = true then
      (if (!decide (p2 = (2 : Int))) = true then
        (if (!decide (p2 = (3 : Int))) = true then
          (if (!decide (p2 = (4 : Int))) = true then
            (bm_kt w p0 = 12) ∧ bm_Call bm_pg d y_X12_pairs [bm_r (some p0), bm_i p1] w (fun r1 w1 => 
              bm_c1 (fun x1 => (bm_kt w1 p0 = 12) ∧ bm_Call bm_pg d y_X12_pairsTried [bm_r (some p0), bm_i p1] w1 (fun r2 w2 => 
                bm_c1 (fun x2 => Φ (.inl (some (bm_i (bm_w (x1 - x2))))) w2) (fun E => Φ (.inr E) w2) r2)) (fun E => Φ (.inr E) w1) r1)
          else
            (bm_kt w p0 = 12) ∧ bm_Call bm_pg d y_X12_pairs [bm_r (some p0), bm_i p1] w (fun r3 w3 => 
              bm_c1 (fun x3 => Φ (.inl (some (bm_i x3))) w3) (fun E => Φ (.inr E) w3) r3))
        else
          (bm_kt w p0 = 12) ∧ bm_Call bm_pg d y_X12_all [bm_r (some p0), bm_i p1] w (fun r4 w4 => 
            bm_c1 (fun x4 => Φ (.inl (some (bm_i x4))) w4) (fun E => Φ (.inr E) w4) r4))
      else
        (bm_kt w p0 = 12) ∧ bm_Call bm_pg d y_X12_tablesOf [bm_r (some p0), bm_i p1] w (fun r5 w5 => 
          bm_c1 (fun x5 => Φ (.inl (some (bm_i x5))) w5) (fun E => Φ (.inr E) w5) r5))
    else
      (bm_kt w p0 = 12 ∧ bm_gr w p0 25 = some (bm_u (bm_gr w p0 25))) ∧
      (bm_kt w (bm_u (bm_gr w p0 25)) = 21 ∧ bm_in p1 (bm_kn w (bm_u (bm_gr w p0 25)))) ∧
      Φ (.inl (some (bm_i (bm_gi w (bm_u (bm_gr w p0 25)) (p1).toNat)))) w)
  else
    (bm_kt w p0 = 12 ∧ bm_gr w p0 20 = some (bm_u (bm_gr w p0 20))) ∧
    (bm_kt w (bm_u (bm_gr w p0 20)) = 21 ∧ bm_in p1 (bm_kn w (bm_u (bm_gr w p0 20)))) ∧
    Φ (.inl (some (bm_i (bm_gi w (bm_u (bm_gr w p0 20)) (p1).toNat)))) w)) : bm_Call bm_pg (d + 1) y_X12_funTold [bm_r (some p0), bm_i p1, bm_i p2] w Φ := bm_enter rfl (bm_go (bm_Call_mono _ _) [] 46 _ h)
/-! CaseTablesModel.isFun(I)Z -/
set_option maxRecDepth 20000 in
theorem vc_X12_isFun {d : Nat} {Φ : bm_Rt → bm_W → Prop} {p0 : Nat} {p1 : Int} {w : bm_W} (h :
  (bm_kt w p0 = 12) ∧
  (True) ∧ bm_Call bm_pg d y_X12_isIn [bm_i p1, bm_i (0 : Int), bm_i (bm_w ((bm_gi w p0 18) - (1 : Int)))] w (fun r1 w1 => 
    bm_c1 (fun x1 => (x1 = 0 ∨ x1 = 1) ∧ Φ (.inl (some (bm_i x1))) w1) (fun E => Φ (.inr E) w1) r1)) : bm_Call bm_pg (d + 1) y_X12_isFun [bm_r (some p0), bm_i p1] w Φ := bm_enter rfl (bm_go (bm_Call_mono _ _) [] 10 _ h)
/-! CaseTablesModel.fun(II)I -/
set_option maxRecDepth 20000 in
theorem vc_X12_fun_ {d : Nat} {Φ : bm_Rt → bm_W → Prop} {p0 : Nat} {p1 : Int} {p2 : Int} {w : bm_W} (h :
  (bm_kt w p0 = 12) ∧
  (bm_kt (bm_si w p0 0 (0 : Int)) p0 = 12) ∧ bm_Call bm_pg d y_X12_isFun [bm_r (some p0), bm_i p1] (bm_si w p0 0 (0 : Int)) (fun r1 w1 => 
    bm_c1 (fun x1 => (if (decide (x1 = 0)) = true then
      (bm_kt w1 p0 = 12) ∧ bm_Call bm_pg d y_X12_no [bm_r (some p0), bm_i (1 : Int)] w1 (fun r2 w2 => 
        bm_c1 (fun x2 => Φ (.inl (some (bm_i x2))) w2) (fun E => Φ (.inr E) w2) r2)
    else
      (True) ∧ bm_Call bm_pg d y_X12_isIn [bm_i p2, bm_i (0 : Int), bm_i (5 : Int)] w1 (fun r3 w3 => 
        bm_c1 (fun x3 => (if (decide (x3 = 0)) = true then
          (bm_kt w3 p0 = 12) ∧ bm_Call bm_pg d y_X12_no [bm_r (some p0), bm_i (1 : Int)] w3 (fun r4 w4 => 
            bm_c1 (fun x4 => Φ (.inl (some (bm_i x4))) w4) (fun E => Φ (.inr E) w4) r4)
        else
          (bm_kt w3 p0 = 12) ∧ bm_Call bm_pg d y_X12_funTold [bm_r (some p0), bm_i p1, bm_i p2] w3 (fun r5 w5 => 
            bm_c1 (fun x5 => Φ (.inl (some (bm_i x5))) w5) (fun E => Φ (.inr E) w5) r5))) (fun E => Φ (.inr E) w3) r3))) (fun E => Φ (.inr E) w1) r1)) : bm_Call bm_pg (d + 1) y_X12_fun_ [bm_r (some p0), bm_i p1, bm_i p2] w Φ := bm_enter rfl (bm_go (bm_Call_mono _ _) [] 23 _ h)
/-! CaseTablesModel.call(IIII)J -/
def bk_X12_call__14 (d : Nat) (Φ : bm_Rt → bm_W → Prop) (v0 : Nat) (v1 : Int) (v2 : Int) (v3 : Int) (v4 : Int) (s0 : Int) (s1 : Nat) (w : bm_W) : Prop := bm_Wp (bm_Call bm_pg d) tb_X12_call_ Φ (14, [some (bm_r (some v0)), some (bm_i v1), some (bm_i v2), some (bm_i v3), some (bm_i v4), none, none, none], [bm_i s0, bm_r (some s1)], w)
def bk_X12_call__44 (d : Nat) (Φ : bm_Rt → bm_W → Prop) (v0 : Nat) (v1 : Int) (v5 : Nat) (w : bm_W) : Prop := bm_Wp (bm_Call bm_pg d) tb_X12_call_ Φ (44, [some (bm_r (some v0)), some (bm_i v1), none, none, none, some (bm_r (some v5)), none, none], [], w)
set_option maxRecDepth 20000 in
theorem vc_X12_call_ {d : Nat} {Φ : bm_Rt → bm_W → Prop} {p0 : Nat} {p1 : Int} {p2 : Int} {p3 : Int} {p4 : Int} {w : bm_W} (h :
  (bm_kt w p0 = 12) ∧ bm_Call bm_pg d y_X12_isFun [bm_r (some p0), bm_i p1] w (fun r1 w1 => 
    bm_c1 (fun x1 => (if (decide (x1 = 0)) = true then
      bk_X12_call__14 d Φ p0 p1 p2 p3 p4 (1 : Int) p0 w1
    else
      bk_X12_call__14 d Φ p0 p1 p2 p3 p4 (0 : Int) p0 w1)) (fun E => Φ (.inr E) w1) r1)) : bm_Call bm_pg (d + 1) y_X12_call_ [bm_r (some p0), bm_i p1, bm_i p2, bm_i p3, bm_i p4] w Φ := bm_enter rfl (bm_go (bm_Call_mono _ _) [14, 44] 52 _ h)
set_option maxRecDepth 20000 in
theorem vb_X12_call__14 {d : Nat} {Φ : bm_Rt → bm_W → Prop} {v0 : Nat} {v1 : Int} {v2 : Int} {v3 : Int} {v4 : Int} {s0 : Int} {s1 : Nat} {w : bm_W} (h :
  (bm_kt w s1 = 12) ∧
  (bm_kt (bm_si w s1 0 s0) v0 = 12) ∧
  (if (decide ((bm_gi (bm_si w s1 0 s0) v0 0) = 0)) = true then
    (0 ≤ (3 : Int) ∧ (3 : Int) ≤ 100000) ∧
    (bm_kt (bm_nw (bm_si w s1 0 s0) 21 ((3 : Int)).toNat ((3 : Int)).toNat) (bm_sz (bm_si w s1 0 s0)) = 21 ∧ bm_in (0 : Int) (bm_kn (bm_nw (bm_si w s1 0 s0) 21 ((3 : Int)).toNat ((3 : Int)).toNat) (bm_sz (bm_si w s1 0 s0)))) ∧
    (bm_kt (bm_si (bm_nw (bm_si w s1 0 s0) 21 ((3 : Int)).toNat ((3 : Int)).toNat) (bm_sz (bm_si w s1 0 s0)) ((0 : Int)).toNat v2) (bm_sz (bm_si w s1 0 s0)) = 21 ∧ bm_in (1 : Int) (bm_kn (bm_si (bm_nw (bm_si w s1 0 s0) 21 ((3 : Int)).toNat ((3 : Int)).toNat) (bm_sz (bm_si w s1 0 s0)) ((0 : Int)).toNat v2) (bm_sz (bm_si w s1 0 s0)))) ∧
    (bm_kt (bm_si (bm_si (bm_nw (bm_si w s1 0 s0) 21 ((3 : Int)).toNat ((3 : Int)).toNat) (bm_sz (bm_si w s1 0 s0)) ((0 : Int)).toNat v2) (bm_sz (bm_si w s1 0 s0)) ((1 : Int)).toNat v3) (bm_sz (bm_si w s1 0 s0)) = 21 ∧ bm_in (2 : Int) (bm_kn (bm_si (bm_si (bm_nw (bm_si w s1 0 s0) 21 ((3 : Int)).toNat ((3 : Int)).toNat) (bm_sz (bm_si w s1 0 s0)) ((0 : Int)).toNat v2) (bm_sz (bm_si w s1 0 s0)) ((1 : Int)).toNat v3) (bm_sz (bm_si w s1 0 s0)))) ∧
    bk_X12_call__44 d Φ v0 v1 (bm_sz (bm_si w s1 0 s0)) (bm_si (bm_si (bm_si (bm_nw (bm_si w s1 0 s0) 21 ((3 : Int)).toNat ((3 : Int)).toNat) (bm_sz (bm_si w s1 0 s0)) ((0 : Int)).toNat v2) (bm_sz (bm_si w s1 0 s0)) ((1 : Int)).toNat v3) (bm_sz (bm_si w s1 0 s0)) ((2 : Int)).toNat v4)
  else
    Φ (.inl (some (bm_l (0 : Int)))) (bm_si w s1 0 s0))) : bk_X12_call__14 d Φ v0 v1 v2 v3 v4 s0 s1 w := bm_go (bm_Call_mono _ _) [14, 44] 52 _ h
set_option maxRecDepth 20000 in
theorem vb_X12_call__44 {d : Nat} {Φ : bm_Rt → bm_W → Prop} {v0 : Nat} {v1 : Int} {v5 : Nat} {w : bm_W} (h :
  (bm_kt w v0 = 12) ∧ bm_Call bm_pg d y_X12_run [bm_r (some v0), bm_i v1, bm_r (some v5), bm_i (-1 : Int)] w (fun r1 w1 => 
    bm_c2 (fun x1 => (bm_kt w1 v0 = 12) ∧
    (if (decide ((bm_gi w1 v0 36) = 0)) = true then
      (bm_kt w1 v0 = 12) ∧
      (bm_kt (bm_si w1 v0 0 (0 : Int)) v0 = 12) ∧
      (if (decide ((bm_gi (bm_si w1 v0 0 (0 : Int)) v0 36) = 0)) = true then
        Φ (.inl (some (bm_l x1))) (bm_si w1 v0 0 (0 : Int))
      else
        Φ (.inl (some (bm_l (0 : Int)))) (bm_si w1 v0 0 (0 : Int)))
    else
      (bm_kt w1 v0 = 12) ∧
      (bm_kt (bm_si w1 v0 0 (2 : Int)) v0 = 12) ∧
      (if (decide ((bm_gi (bm_si w1 v0 0 (2 : Int)) v0 36) = 0)) = true then
        Φ (.inl (some (bm_l x1))) (bm_si w1 v0 0 (2 : Int))
      else
        Φ (.inl (some (bm_l (0 : Int)))) (bm_si w1 v0 0 (2 : Int))))) (fun E => Φ (.inr E) w1) r1)) : bk_X12_call__44 d Φ v0 v1 v5 w := bm_go (bm_Call_mono _ _) [14, 44] 52 _ h
/-! CaseTablesModel.callChanged(IIIII)J -/
def bk_X12_callChanged_30 (d : Nat) (Φ : bm_Rt → bm_W → Prop) (v0 : Nat) (v1 : Int) (v2 : Int) (v3 : Int) (v4 : Int) (v5 : Int) (s0 : Int) (s1 : Nat) (w : bm_W) : Prop := bm_Wp (bm_Call bm_pg d) tb_X12_callChanged Φ (30, [some (bm_r (some v0)), some (bm_i v1), some (bm_i v2), some (bm_i v3), some (bm_i v4), some (bm_i v5), none, none, none], [bm_i s0, bm_r (some s1)], w)
def bk_X12_callChanged_61 (d : Nat) (Φ : bm_Rt → bm_W → Prop) (v0 : Nat) (v1 : Int) (v2 : Int) (v6 : Nat) (w : bm_W) : Prop := bm_Wp (bm_Call bm_pg d) tb_X12_callChanged Φ (61, [some (bm_r (some v0)), some (bm_i v1), some (bm_i v2), none, none, none, some (bm_r (some v6)), none, none], [], w)
set_option maxRecDepth 20000 in
theorem vc_X12_callChanged {d : Nat} {Φ : bm_Rt → bm_W → Prop} {p0 : Nat} {p1 : Int} {p2 : Int} {p3 : Int} {p4 : Int} {p5 : Int} {w : bm_W} (h :
  (bm_kt w p0 = 12) ∧ bm_Call bm_pg d y_X12_isFun [bm_r (some p0), bm_i p1] w (fun r1 w1 => 
    bm_c1 (fun x1 => (if (decide (x1 = 0)) = true then
      bk_X12_callChanged_30 d Φ p0 p1 p2 p3 p4 p5 (1 : Int) p0 w1
    else
      (bm_kt w1 p0 = 12 ∧ bm_gr w1 p0 25 = some (bm_u (bm_gr w1 p0 25))) ∧
      (bm_kt w1 (bm_u (bm_gr w1 p0 25)) = 21 ∧ bm_in p1 (bm_kn w1 (bm_u (bm_gr w1 p0 25)))) ∧
      (True) ∧ bm_Call bm_pg d y_X12_isIn [bm_i p2, bm_i (0 : Int), bm_i (bm_w ((bm_gi w1 (bm_u (bm_gr w1 p0 25)) (p1).toNat) - (1 : Int)))] w1 (fun r2 w2 => 
        bm_c1 (fun x2 => (if (decide (x2 = 0)) = true then
          bk_X12_callChanged_30 d Φ p0 p1 p2 p3 p4 p5 (1 : Int) p0 w2
        else
          bk_X12_callChanged_30 d Φ p0 p1 p2 p3 p4 p5 (0 : Int) p0 w2)) (fun E => Φ (.inr E) w2) r2))) (fun E => Φ (.inr E) w1) r1)) : bm_Call bm_pg (d + 1) y_X12_callChanged [bm_r (some p0), bm_i p1, bm_i p2, bm_i p3, bm_i p4, bm_i p5] w Φ := bm_enter rfl (bm_go (bm_Call_mono _ _) [30, 61] 62 _ h)
set_option maxRecDepth 20000 in
theorem vb_X12_callChanged_30 {d : Nat} {Φ : bm_Rt → bm_W → Prop} {v0 : Nat} {v1 : Int} {v2 : Int} {v3 : Int} {v4 : Int} {v5 : Int} {s0 : Int} {s1 : Nat} {w : bm_W} (h :
  (bm_kt w s1 = 12) ∧
  (bm_kt (bm_si w s1 0 s0) v0 = 12) ∧
  (if (decide ((bm_gi (bm_si w s1 0 s0) v0 0) = 0)) = true then
    (0 ≤ (3 : Int) ∧ (3 : Int) ≤ 100000) ∧
    (bm_kt (bm_nw (bm_si w s1 0 s0) 21 ((3 : Int)).toNat ((3 : Int)).toNat) (bm_sz (bm_si w s1 0 s0)) = 21 ∧ bm_in (0 : Int) (bm_kn (bm_nw (bm_si w s1 0 s0) 21 ((3 : Int)).toNat ((3 : Int)).toNat) (bm_sz (bm_si w s1 0 s0)))) ∧
    (bm_kt (bm_si (bm_nw (bm_si w s1 0 s0) 21 ((3 : Int)).toNat ((3 : Int)).toNat) (bm_sz (bm_si w s1 0 s0)) ((0 : Int)).toNat v3) (bm_sz (bm_si w s1 0 s0)) = 21 ∧ bm_in (1 : Int) (bm_kn (bm_si (bm_nw (bm_si w s1 0 s0) 21 ((3 : Int)).toNat ((3 : Int)).toNat) (bm_sz (bm_si w s1 0 s0)) ((0 : Int)).toNat v3) (bm_sz (bm_si w s1 0 s0)))) ∧
    (bm_kt (bm_si (bm_si (bm_nw (bm_si w s1 0 s0) 21 ((3 : Int)).toNat ((3 : Int)).toNat) (bm_sz (bm_si w s1 0 s0)) ((0 : Int)).toNat v3) (bm_sz (bm_si w s1 0 s0)) ((1 : Int)).toNat v4) (bm_sz (bm_si w s1 0 s0)) = 21 ∧ bm_in (2 : Int) (bm_kn (bm_si (bm_si (bm_nw (bm_si w s1 0 s0) 21 ((3 : Int)).toNat ((3 : Int)).toNat) (bm_sz (bm_si w s1 0 s0)) ((0 : Int)).toNat v3) (bm_sz (bm_si w s1 0 s0)) ((1 : Int)).toNat v4) (bm_sz (bm_si w s1 0 s0)))) ∧
    bk_X12_callChanged_61 d Φ v0 v1 v2 (bm_sz (bm_si w s1 0 s0)) (bm_si (bm_si (bm_si (bm_nw (bm_si w s1 0 s0) 21 ((3 : Int)).toNat ((3 : Int)).toNat) (bm_sz (bm_si w s1 0 s0)) ((0 : Int)).toNat v3) (bm_sz (bm_si w s1 0 s0)) ((1 : Int)).toNat v4) (bm_sz (bm_si w s1 0 s0)) ((2 : Int)).toNat v5)
  else
    Φ (.inl (some (bm_l (0 : Int)))) (bm_si w s1 0 s0))) : bk_X12_callChanged_30 d Φ v0 v1 v2 v3 v4 v5 s0 s1 w := bm_go (bm_Call_mono _ _) [30, 61] 62 _ h
set_option maxRecDepth 20000 in
theorem vb_X12_callChanged_61 {d : Nat} {Φ : bm_Rt → bm_W → Prop} {v0 : Nat} {v1 : Int} {v2 : Int} {v6 : Nat} {w : bm_W} (h :
  (bm_kt w v0 = 12) ∧ bm_Call bm_pg d y_X12_run [bm_r (some v0), bm_i v1, bm_r (some v6), bm_i v2] w (fun r1 w1 => 
    bm_c2 (fun x1 => (bm_kt w1 v0 = 12) ∧
    (if (decide ((bm_gi w1 v0 36) = 0)) = true then
      (bm_kt w1 v0 = 12) ∧
      (bm_kt (bm_si w1 v0 0 (0 : Int)) v0 = 12) ∧
      (if (decide ((bm_gi (bm_si w1 v0 0 (0 : Int)) v0 36) = 0)) = true then
        Φ (.inl (some (bm_l x1))) (bm_si w1 v0 0 (0 : Int))
      else
        Φ (.inl (some (bm_l (0 : Int)))) (bm_si w1 v0 0 (0 : Int)))
    else
      (bm_kt w1 v0 = 12) ∧
      (bm_kt (bm_si w1 v0 0 (2 : Int)) v0 = 12) ∧
      (if (decide ((bm_gi (bm_si w1 v0 0 (2 : Int)) v0 36) = 0)) = true then
        Φ (.inl (some (bm_l x1))) (bm_si w1 v0 0 (2 : Int))
      else
        Φ (.inl (some (bm_l (0 : Int)))) (bm_si w1 v0 0 (2 : Int))))) (fun E => Φ (.inr E) w1) r1)) : bk_X12_callChanged_61 d Φ v0 v1 v2 v6 w := bm_go (bm_Call_mono _ _) [30, 61] 62 _ h
/-! CaseTablesModel.inputOf(III)I -/
set_option maxRecDepth 20000 in
theorem vc_X12_inputOf {d : Nat} {Φ : bm_Rt → bm_W → Prop} {p0 : Nat} {p1 : Int} {p2 : Int} {p3 : Int} {w : bm_W} (h :
  (bm_kt w p0 = 12) ∧
  (bm_kt (bm_si w p0 0 (0 : Int)) p0 = 12) ∧ bm_Call bm_pg d y_X12_isFun [bm_r (some p0), bm_i p1] (bm_si w p0 0 (0 : Int)) (fun r1 w1 => 
    bm_c1 (fun x1 => (if (decide (x1 = 0)) = true then
      (bm_kt w1 p0 = 12) ∧ bm_Call bm_pg d y_X12_no [bm_r (some p0), bm_i (1 : Int)] w1 (fun r2 w2 => 
        bm_c1 (fun x2 => Φ (.inl (some (bm_i x2))) w2) (fun E => Φ (.inr E) w2) r2)
    else
      (bm_kt w1 p0 = 12) ∧ bm_Call bm_pg d y_X12_all [bm_r (some p0), bm_i p1] w1 (fun r3 w3 => 
        bm_c1 (fun x3 => (True) ∧ bm_Call bm_pg d y_X12_isIn [bm_i p2, bm_i (0 : Int), bm_i (bm_w (x3 - (1 : Int)))] w3 (fun r4 w4 => 
          bm_c1 (fun x4 => (if (decide (x4 = 0)) = true then
            (bm_kt w4 p0 = 12) ∧ bm_Call bm_pg d y_X12_no [bm_r (some p0), bm_i (1 : Int)] w4 (fun r5 w5 => 
              bm_c1 (fun x5 => Φ (.inl (some (bm_i x5))) w5) (fun E => Φ (.inr E) w5) r5)
          else
            (bm_kt w4 p0 = 12 ∧ bm_gr w4 p0 20 = some (bm_u (bm_gr w4 p0 20))) ∧
            (bm_kt w4 (bm_u (bm_gr w4 p0 20)) = 21 ∧ bm_in p1 (bm_kn w4 (bm_u (bm_gr w4 p0 20)))) ∧
            (True) ∧ bm_Call bm_pg d y_X12_isIn [bm_i p3, bm_i (0 : Int), bm_i (bm_w ((bm_gi w4 (bm_u (bm_gr w4 p0 20)) (p1).toNat) - (1 : Int)))] w4 (fun r6 w6 => 
              bm_c1 (fun x6 => (if (decide (x6 = 0)) = true then
                (bm_kt w6 p0 = 12) ∧ bm_Call bm_pg d y_X12_no [bm_r (some p0), bm_i (1 : Int)] w6 (fun r7 w7 => 
                  bm_c1 (fun x7 => Φ (.inl (some (bm_i x7))) w7) (fun E => Φ (.inr E) w7) r7)
              else
                (bm_kt w6 p0 = 12) ∧ bm_Call bm_pg d y_X12_rowOf [bm_r (some p0), bm_i p1, bm_i p2] w6 (fun r8 w8 => 
                  bm_c3 (fun x8 => (bm_kt w8 x8 = 21 ∧ bm_in p3 (bm_kn w8 x8)) ∧
                  Φ (.inl (some (bm_i (bm_gi w8 x8 (p3).toNat)))) w8) (fun E => Φ (.inr E) w8) r8))) (fun E => Φ (.inr E) w6) r6))) (fun E => Φ (.inr E) w4) r4)) (fun E => Φ (.inr E) w3) r3))) (fun E => Φ (.inr E) w1) r1)) : bm_Call bm_pg (d + 1) y_X12_inputOf [bm_r (some p0), bm_i p1, bm_i p2, bm_i p3] w Φ := bm_enter rfl (bm_go (bm_Call_mono _ _) [] 39 _ h)
/-! CaseTablesModel.proposed(I)I -/
def bk_X12_proposed_27 (d : Nat) (Φ : bm_Rt → bm_W → Prop) (v0 : Nat) (v1 : Int) (v2 : Int) (v3 : Int) (v4 : Nat) (v5 : Int) (v6 : Int) (w : bm_W) : Prop := bm_Wp (bm_Call bm_pg d) tb_X12_proposed Φ (27, [some (bm_r (some v0)), some (bm_i v1), some (bm_i v2), some (bm_i v3), some (bm_r (some v4)), some (bm_i v5), some (bm_i v6), none, none], [], w)
def bk_X12_proposed_65 (d : Nat) (Φ : bm_Rt → bm_W → Prop) (v0 : Nat) (v1 : Int) (v2 : Int) (v3 : Int) (v4 : Nat) (v5 : Int) (v6 : Int) (v8 : Int) (w : bm_W) : Prop := bm_Wp (bm_Call bm_pg d) tb_X12_proposed Φ (65, [some (bm_r (some v0)), some (bm_i v1), some (bm_i v2), some (bm_i v3), some (bm_r (some v4)), some (bm_i v5), some (bm_i v6), none, some (bm_i v8)], [], w)
set_option maxRecDepth 20000 in
theorem vc_X12_proposed {d : Nat} {Φ : bm_Rt → bm_W → Prop} {p0 : Nat} {p1 : Int} {w : bm_W} (h :
  (bm_kt w p0 = 12) ∧ bm_Call bm_pg d y_X12_markAll [bm_r (some p0), bm_i p1] w (fun r1 w1 => 
    bm_c0 ((bm_kt w1 p0 = 12) ∧ bm_Call bm_pg d y_X12_rowOf [bm_r (some p0), bm_i p1, bm_i (0 : Int)] w1 (fun r2 w2 => 
      bm_c3 (fun x2 => (bm_kt w2 p0 = 12) ∧ bm_Call bm_pg d y_X12_all [bm_r (some p0), bm_i p1] w2 (fun r3 w3 => 
        bm_c1 (fun x3 => bk_X12_proposed_27 d Φ p0 p1 (-1 : Int) (0 : Int) x2 x3 (0 : Int) w3) (fun E => Φ (.inr E) w3) r3)) (fun E => Φ (.inr E) w2) r2)) (fun E => Φ (.inr E) w1) r1)) : bm_Call bm_pg (d + 1) y_X12_proposed [bm_r (some p0), bm_i p1] w Φ := bm_enter rfl (bm_go (bm_Call_mono _ _) [27, 65] 82 _ h)
set_option maxRecDepth 20000 in
theorem vb_X12_proposed_27 {d : Nat} {Φ : bm_Rt → bm_W → Prop} {v0 : Nat} {v1 : Int} {v2 : Int} {v3 : Int} {v4 : Nat} {v5 : Int} {v6 : Int} {w : bm_W} (h :
  (if (decide (v5 ≤ v6)) = true then
    Φ (.inl (some (bm_i v2))) w
  else
    (bm_kt w v0 = 12) ∧ bm_Call bm_pg d y_X12_untried [bm_r (some v0), bm_i v1, bm_r (some v4)] w (fun r1 w1 => 
      bm_c1 (fun x1 => (if (decide (x1 ≤ v3)) = true then
        (bm_kt w1 v0 = 12 ∧ bm_gr w1 v0 20 = some (bm_u (bm_gr w1 v0 20))) ∧
        (bm_kt w1 (bm_u (bm_gr w1 v0 20)) = 21 ∧ bm_in v1 (bm_kn w1 (bm_u (bm_gr w1 v0 20)))) ∧
        bk_X12_proposed_65 d Φ v0 v1 v2 v3 v4 v5 v6 (bm_w ((bm_gi w1 (bm_u (bm_gr w1 v0 20)) (v1).toNat) - (1 : Int))) w1
      else
        (bm_kt w1 v0 = 12 ∧ bm_gr w1 v0 20 = some (bm_u (bm_gr w1 v0 20))) ∧
        (bm_kt w1 (bm_u (bm_gr w1 v0 20)) = 21 ∧ bm_in v1 (bm_kn w1 (bm_u (bm_gr w1 v0 20)))) ∧
        bk_X12_proposed_65 d Φ v0 v1 v6 x1 v4 v5 v6 (bm_w ((bm_gi w1 (bm_u (bm_gr w1 v0 20)) (v1).toNat) - (1 : Int))) w1)) (fun E => Φ (.inr E) w1) r1))) : bk_X12_proposed_27 d Φ v0 v1 v2 v3 v4 v5 v6 w := bm_go (bm_Call_mono _ _) [27, 65] 82 _ h
set_option maxRecDepth 20000 in
theorem vb_X12_proposed_65 {d : Nat} {Φ : bm_Rt → bm_W → Prop} {v0 : Nat} {v1 : Int} {v2 : Int} {v3 : Int} {v4 : Nat} {v5 : Int} {v6 : Int} {v8 : Int} {w : bm_W} (h :
  (if (decide (v8 < 0)) = true then
    (if (decide (v8 < 0)) = true then
      bk_X12_proposed_27 d Φ v0 v1 v2 v3 v4 v5 (bm_w (v6 + 1)) w
    else
      (bm_kt w v4 = 21 ∧ bm_in v8 (bm_kn w v4)) ∧
      (bm_kt w v4 = 21 ∧ bm_in v8 (bm_kn w v4)) ∧
      bk_X12_proposed_27 d Φ v0 v1 v2 v3 v4 v5 (bm_w (v6 + 1)) (bm_si w v4 (v8).toNat (bm_w ((bm_gi w v4 (v8).toNat) + (1 : Int)))))
  else
    (bm_kt w v4 = 21 ∧ bm_in v8 (bm_kn w v4)) ∧
    (bm_kt w v0 = 12 ∧ bm_gr w v0 23 = some (bm_u (bm_gr w v0 23))) ∧
    (bm_kt w (bm_u (bm_gr w v0 23)) = 21 ∧ bm_in (bm_w ((bm_w ((3 : Int) * v1)) + v8)) (bm_kn w (bm_u (bm_gr w v0 23)))) ∧
    (if (!decide ((bm_gi w v4 (v8).toNat) = (bm_gi w (bm_u (bm_gr w v0 23)) ((bm_w ((bm_w ((3 : Int) * v1)) + v8))).toNat))) = true then
      (if (decide (v8 < 0)) = true then
        bk_X12_proposed_27 d Φ v0 v1 v2 v3 v4 v5 (bm_w (v6 + 1)) w
      else
        (bm_kt w v4 = 21 ∧ bm_in v8 (bm_kn w v4)) ∧
        (bm_kt w v4 = 21 ∧ bm_in v8 (bm_kn w v4)) ∧
        bk_X12_proposed_27 d Φ v0 v1 v2 v3 v4 v5 (bm_w (v6 + 1)) (bm_si w v4 (v8).toNat (bm_w ((bm_gi w v4 (v8).toNat) + (1 : Int)))))
    else
      (bm_kt w v0 = 12 ∧ bm_gr w v0 22 = some (bm_u (bm_gr w v0 22))) ∧
      (bm_kt w (bm_u (bm_gr w v0 22)) = 21 ∧ bm_in (bm_w ((bm_w ((3 : Int) * v1)) + v8)) (bm_kn w (bm_u (bm_gr w v0 22)))) ∧
      (bm_kt w v4 = 21 ∧ bm_in v8 (bm_kn w v4)) ∧
      bk_X12_proposed_65 d Φ v0 v1 v2 v3 v4 v5 v6 (bm_w (v8 + (-1))) (bm_si w v4 (v8).toNat (bm_gi w (bm_u (bm_gr w v0 22)) ((bm_w ((bm_w ((3 : Int) * v1)) + v8))).toNat))))) : bk_X12_proposed_65 d Φ v0 v1 v2 v3 v4 v5 v6 v8 w := bm_go (bm_Call_mono _ _) [27, 65] 82 _ h
/-! CaseTablesModel.propose(I)I -/
set_option maxRecDepth 20000 in
theorem vc_X12_propose {d : Nat} {Φ : bm_Rt → bm_W → Prop} {p0 : Nat} {p1 : Int} {w : bm_W} (h :
  (bm_kt w p0 = 12) ∧
  (bm_kt (bm_si w p0 0 (0 : Int)) p0 = 12) ∧ bm_Call bm_pg d y_X12_isFun [bm_r (some p0), bm_i p1] (bm_si w p0 0 (0 : Int)) (fun r1 w1 => 
    bm_c1 (fun x1 => (if (decide (x1 = 0)) = true then
      (bm_kt w1 p0 = 12) ∧ bm_Call bm_pg d y_X12_no [bm_r (some p0), bm_i (1 : Int)] w1 (fun r2 w2 => 
        bm_c1 (fun x2 => Φ (.inl (some (bm_i x2))) w2) (fun E => Φ (.inr E) w2) r2)
    else
      (bm_kt w1 p0 = 12) ∧ bm_Call bm_pg d y_X12_proposed [bm_r (some p0), bm_i p1] w1 (fun r3 w3 => 
        bm_c1 (fun x3 => Φ (.inl (some (bm_i x3))) w3) (fun E => Φ (.inr E) w3) r3))) (fun E => Φ (.inr E) w1) r1)) : bm_Call bm_pg (d + 1) y_X12_propose [bm_r (some p0), bm_i p1] w Φ := bm_enter rfl (bm_go (bm_Call_mono _ _) [] 17 _ h)
/-! CaseTablesModel.rowAt(II)I -/
def bk_X12_rowAt_5 (d : Nat) (Φ : bm_Rt → bm_W → Prop) (v0 : Nat) (v1 : Int) (v3 : Int) (v4 : Int) (w : bm_W) : Prop := bm_Wp (bm_Call bm_pg d) tb_X12_rowAt Φ (5, [some (bm_r (some v0)), some (bm_i v1), none, some (bm_i v3), some (bm_i v4)], [], w)
set_option maxRecDepth 20000 in
theorem vc_X12_rowAt {d : Nat} {Φ : bm_Rt → bm_W → Prop} {p0 : Nat} {p1 : Int} {p2 : Int} {w : bm_W} (h :
  bk_X12_rowAt_5 d Φ p0 p1 p2 (0 : Int) w) : bm_Call bm_pg (d + 1) y_X12_rowAt [bm_r (some p0), bm_i p1, bm_i p2] w Φ := bm_enter rfl (bm_go (bm_Call_mono _ _) [5] 23 _ h)
set_option maxRecDepth 20000 in
theorem vb_X12_rowAt_5 {d : Nat} {Φ : bm_Rt → bm_W → Prop} {v0 : Nat} {v1 : Int} {v3 : Int} {v4 : Int} {w : bm_W} (h :
  (bm_kt w v0 = 12) ∧ bm_Call bm_pg d y_X12_casesOf [bm_r (some v0), bm_i v1, bm_i v4] w (fun r1 w1 => 
    bm_c1 (fun x1 => (if (decide (v3 < x1)) = true then
      Φ (.inl (some (bm_i v4))) w1
    else
      (bm_kt w1 v0 = 12) ∧ bm_Call bm_pg d y_X12_casesOf [bm_r (some v0), bm_i v1, bm_i v4] w1 (fun r2 w2 => 
        bm_c1 (fun x2 => bk_X12_rowAt_5 d Φ v0 v1 (bm_w (v3 - x2)) (bm_w (v4 + 1)) w2) (fun E => Φ (.inr E) w2) r2))) (fun E => Φ (.inr E) w1) r1)) : bk_X12_rowAt_5 d Φ v0 v1 v3 v4 w := bm_go (bm_Call_mono _ _) [5] 23 _ h
/-! CaseTablesModel.caseInputs(II)[I -/
def bk_X12_caseInputs_5 (d : Nat) (Φ : bm_Rt → bm_W → Prop) (v0 : Nat) (v1 : Int) (v3 : Int) (v4 : Int) (w : bm_W) : Prop := bm_Wp (bm_Call bm_pg d) tb_X12_caseInputs Φ (5, [some (bm_r (some v0)), some (bm_i v1), none, some (bm_i v3), some (bm_i v4), none, none, none, none], [], w)
def bk_X12_caseInputs_53 (d : Nat) (Φ : bm_Rt → bm_W → Prop) (v0 : Nat) (v1 : Int) (v3 : Int) (v4 : Int) (v5 : Nat) (v6 : Int) (w : bm_W) : Prop := bm_Wp (bm_Call bm_pg d) tb_X12_caseInputs Φ (53, [some (bm_r (some v0)), some (bm_i v1), none, some (bm_i v3), some (bm_i v4), some (bm_r (some v5)), some (bm_i v6), none, none], [], w)
set_option maxRecDepth 20000 in
theorem vc_X12_caseInputs {d : Nat} {Φ : bm_Rt → bm_W → Prop} {p0 : Nat} {p1 : Int} {p2 : Int} {w : bm_W} (h :
  bk_X12_caseInputs_5 d Φ p0 p1 p2 (0 : Int) w) : bm_Call bm_pg (d + 1) y_X12_caseInputs [bm_r (some p0), bm_i p1, bm_i p2] w Φ := bm_enter rfl (bm_go (bm_Call_mono _ _) [5, 53] 77 _ h)
set_option maxRecDepth 20000 in
theorem vb_X12_caseInputs_5 {d : Nat} {Φ : bm_Rt → bm_W → Prop} {v0 : Nat} {v1 : Int} {v3 : Int} {v4 : Int} {w : bm_W} (h :
  (bm_kt w v0 = 12) ∧ bm_Call bm_pg d y_X12_casesOf [bm_r (some v0), bm_i v1, bm_i v4] w (fun r1 w1 => 
    bm_c1 (fun x1 => (if (decide (v3 < x1)) = true then
      (bm_kt w1 v0 = 12 ∧ bm_gr w1 v0 42 = some (bm_u (bm_gr w1 v0 42))) ∧
      (bm_kt w1 v0 = 12 ∧ bm_gr w1 v0 20 = some (bm_u (bm_gr w1 v0 20))) ∧
      (bm_kt w1 v0 = 12 ∧ bm_gr w1 v0 30 = some (bm_u (bm_gr w1 v0 30))) ∧
      (bm_kt w1 (bm_u (bm_gr w1 v0 30)) = 21 ∧ bm_in v1 (bm_kn w1 (bm_u (bm_gr w1 v0 30)))) ∧
      (bm_kt w1 (bm_u (bm_gr w1 v0 20)) = 21 ∧ bm_in (bm_gi w1 (bm_u (bm_gr w1 v0 30)) (v1).toNat) (bm_kn w1 (bm_u (bm_gr w1 v0 20)))) ∧
      bk_X12_caseInputs_53 d Φ v0 v1 v3 v4 (bm_u (bm_gr w1 v0 42)) (bm_w ((bm_gi w1 (bm_u (bm_gr w1 v0 20)) ((bm_gi w1 (bm_u (bm_gr w1 v0 30)) (v1).toNat)).toNat) - (1 : Int))) w1
    else
      (bm_kt w1 v0 = 12) ∧ bm_Call bm_pg d y_X12_casesOf [bm_r (some v0), bm_i v1, bm_i v4] w1 (fun r2 w2 => 
        bm_c1 (fun x2 => bk_X12_caseInputs_5 d Φ v0 v1 (bm_w (v3 - x2)) (bm_w (v4 + 1)) w2) (fun E => Φ (.inr E) w2) r2))) (fun E => Φ (.inr E) w1) r1)) : bk_X12_caseInputs_5 d Φ v0 v1 v3 v4 w := bm_go (bm_Call_mono _ _) [5, 53] 77 _ h
set_option maxRecDepth 20000 in
theorem vb_X12_caseInputs_53 {d : Nat} {Φ : bm_Rt → bm_W → Prop} {v0 : Nat} {v1 : Int} {v3 : Int} {v4 : Int} {v5 : Nat} {v6 : Int} {w : bm_W} (h :
  (if (decide (v6 < 0)) = true then
    Φ (.inl (some (bm_r (some v5)))) w
  else
    (bm_kt w v0 = 12 ∧ bm_gr w v0 33 = some (bm_u (bm_gr w v0 33))) ∧
    (bm_kt w (bm_u (bm_gr w v0 33)) = 21 ∧ bm_in (bm_w ((bm_w ((bm_w ((bm_w ((12 : Int) * v1)) + v4)) * (3 : Int))) + v6)) (bm_kn w (bm_u (bm_gr w v0 33)))) ∧
    (bm_kt w v0 = 12 ∧ bm_gr w v0 32 = some (bm_u (bm_gr w v0 32))) ∧
    (bm_kt w (bm_u (bm_gr w v0 32)) = 21 ∧ bm_in (bm_w ((bm_w ((bm_w ((bm_w ((12 : Int) * v1)) + v4)) * (3 : Int))) + v6)) (bm_kn w (bm_u (bm_gr w v0 32)))) ∧
    (bm_kt w v0 = 12 ∧ bm_gr w v0 32 = some (bm_u (bm_gr w v0 32))) ∧
    (bm_kt w (bm_u (bm_gr w v0 32)) = 21 ∧ bm_in (bm_w ((bm_w ((bm_w ((bm_w ((12 : Int) * v1)) + v4)) * (3 : Int))) + v6)) (bm_kn w (bm_u (bm_gr w v0 32)))) ∧
    (¬ (bm_w ((bm_w ((bm_gi w (bm_u (bm_gr w v0 33)) ((bm_w ((bm_w ((bm_w ((bm_w ((12 : Int) * v1)) + v4)) * (3 : Int))) + v6))).toNat) - (bm_gi w (bm_u (bm_gr w v0 32)) ((bm_w ((bm_w ((bm_w ((bm_w ((12 : Int) * v1)) + v4)) * (3 : Int))) + v6))).toNat))) + (1 : Int))) = 0) ∧
    (bm_kt w v5 = 21 ∧ bm_in v6 (bm_kn w v5)) ∧
    (¬ (bm_w ((bm_w ((bm_gi w (bm_u (bm_gr w v0 33)) ((bm_w ((bm_w ((bm_w ((bm_w ((12 : Int) * v1)) + v4)) * (3 : Int))) + v6))).toNat) - (bm_gi w (bm_u (bm_gr w v0 32)) ((bm_w ((bm_w ((bm_w ((bm_w ((12 : Int) * v1)) + v4)) * (3 : Int))) + v6))).toNat))) + (1 : Int))) = 0) ∧
    bk_X12_caseInputs_53 d Φ v0 v1 (bm_w (v3.tdiv (bm_w ((bm_w ((bm_gi w (bm_u (bm_gr w v0 33)) ((bm_w ((bm_w ((bm_w ((bm_w ((12 : Int) * v1)) + v4)) * (3 : Int))) + v6))).toNat) - (bm_gi w (bm_u (bm_gr w v0 32)) ((bm_w ((bm_w ((bm_w ((bm_w ((12 : Int) * v1)) + v4)) * (3 : Int))) + v6))).toNat))) + (1 : Int))))) v4 v5 (bm_w (v6 + (-1))) (bm_si w v5 (v6).toNat (bm_w ((bm_gi w (bm_u (bm_gr w v0 32)) ((bm_w ((bm_w ((bm_w ((bm_w ((12 : Int) * v1)) + v4)) * (3 : Int))) + v6))).toNat) + (bm_w (v3.tmod (bm_w ((bm_w ((bm_gi w (bm_u (bm_gr w v0 33)) ((bm_w ((bm_w ((bm_w ((bm_w ((12 : Int) * v1)) + v4)) * (3 : Int))) + v6))).toNat) - (bm_gi w (bm_u (bm_gr w v0 32)) ((bm_w ((bm_w ((bm_w ((bm_w ((12 : Int) * v1)) + v4)) * (3 : Int))) + v6))).toNat))) + (1 : Int)))))))))) : bk_X12_caseInputs_53 d Φ v0 v1 v3 v4 v5 v6 w := bm_go (bm_Call_mono _ _) [5, 53] 77 _ h
/-! CaseTablesModel.holdsAt(III)Z -/
set_option maxRecDepth 20000 in
theorem vc_X12_holdsAt {d : Nat} {Φ : bm_Rt → bm_W → Prop} {p0 : Nat} {p1 : Int} {p2 : Int} {p3 : Int} {w : bm_W} (h :
  (bm_kt w p0 = 12 ∧ bm_gr w p0 30 = some (bm_u (bm_gr w p0 30))) ∧
  (bm_kt w (bm_u (bm_gr w p0 30)) = 21 ∧ bm_in p1 (bm_kn w (bm_u (bm_gr w p0 30)))) ∧
  (bm_kt w p0 = 12) ∧ bm_Call bm_pg d y_X12_caseInputs [bm_r (some p0), bm_i p1, bm_i p2] w (fun r1 w1 => 
    bm_c3 (fun x1 => (bm_kt w1 p0 = 12) ∧ bm_Call bm_pg d y_X12_run [bm_r (some p0), bm_i (bm_gi w (bm_u (bm_gr w p0 30)) (p1).toNat), bm_r (some x1), bm_i p3] w1 (fun r2 w2 => 
      bm_c2 (fun x2 => (bm_kt w2 p0 = 12) ∧ bm_Call bm_pg d y_X12_rowAt [bm_r (some p0), bm_i p1, bm_i p2] w2 (fun r3 w3 => 
        bm_c1 (fun x3 => (bm_kt w3 p0 = 12 ∧ bm_gr w3 p0 34 = some (bm_u (bm_gr w3 p0 34))) ∧
        (bm_kt w3 (bm_u (bm_gr w3 p0 34)) = 21 ∧ bm_in (bm_w ((bm_w ((12 : Int) * p1)) + x3)) (bm_kn w3 (bm_u (bm_gr w3 p0 34)))) ∧
        (if (!decide ((bm_gi w3 (bm_u (bm_gr w3 p0 34)) ((bm_w ((bm_w ((12 : Int) * p1)) + x3))).toNat) = (21 : Int))) = true then
          (bm_kt w3 p0 = 12) ∧
          (if (!decide ((bm_gi w3 p0 36) = 0)) = true then
            ((0 : Int) = 0 ∨ (0 : Int) = 1) ∧ Φ (.inl (some (bm_i (0 : Int)))) w3
          else
            (bm_kt w3 p0 = 12 ∧ bm_gr w3 p0 34 = some (bm_u (bm_gr w3 p0 34))) ∧
            (bm_kt w3 (bm_u (bm_gr w3 p0 34)) = 21 ∧ bm_in (bm_w ((bm_w ((12 : Int) * p1)) + x3)) (bm_kn w3 (bm_u (bm_gr w3 p0 34)))) ∧
            (if (decide ((bm_gi w3 (bm_u (bm_gr w3 p0 34)) ((bm_w ((bm_w ((12 : Int) * p1)) + x3))).toNat) = (20 : Int))) = true then
              ((1 : Int) = 0 ∨ (1 : Int) = 1) ∧ Φ (.inl (some (bm_i (1 : Int)))) w3
            else
              (bm_kt w3 p0 = 12 ∧ bm_gr w3 p0 34 = some (bm_u (bm_gr w3 p0 34))) ∧
              (bm_kt w3 (bm_u (bm_gr w3 p0 34)) = 21 ∧ bm_in (bm_w ((bm_w ((12 : Int) * p1)) + x3)) (bm_kn w3 (bm_u (bm_gr w3 p0 34)))) ∧
              (bm_kt w3 p0 = 12 ∧ bm_gr w3 p0 35 = some (bm_u (bm_gr w3 p0 35))) ∧
              (bm_kt w3 (bm_u (bm_gr w3 p0 35)) = 22 ∧ bm_in (bm_w ((bm_w ((12 : Int) * p1)) + x3)) (bm_kn w3 (bm_u (bm_gr w3 p0 35)))) ∧
              (True) ∧ bm_Call bm_pg d y_X12_holds [bm_i (bm_gi w3 (bm_u (bm_gr w3 p0 34)) ((bm_w ((bm_w ((12 : Int) * p1)) + x3))).toNat), bm_l x2, bm_l (bm_gl w3 (bm_u (bm_gr w3 p0 35)) ((bm_w ((bm_w ((12 : Int) * p1)) + x3))).toNat)] w3 (fun r4 w4 => 
                bm_c1 (fun x4 => (if (decide (x4 = 0)) = true then
                  ((0 : Int) = 0 ∨ (0 : Int) = 1) ∧ Φ (.inl (some (bm_i (0 : Int)))) w4
                else
                  ((1 : Int) = 0 ∨ (1 : Int) = 1) ∧ Φ (.inl (some (bm_i (1 : Int)))) w4)) (fun E => Φ (.inr E) w4) r4)))
        else
          (bm_kt w3 p0 = 12) ∧
          ((bm_gi w3 p0 36) = 0 ∨ (bm_gi w3 p0 36) = 1) ∧ Φ (.inl (some (bm_i (bm_gi w3 p0 36)))) w3)) (fun E => Φ (.inr E) w3) r3)) (fun E => Φ (.inr E) w2) r2)) (fun E => Φ (.inr E) w1) r1)) : bm_Call bm_pg (d + 1) y_X12_holdsAt [bm_r (some p0), bm_i p1, bm_i p2, bm_i p3] w Φ := bm_enter rfl (bm_go (bm_Call_mono _ _) [] 56 _ h)
/-! CaseTablesModel.tableTold(II)I -/
def bk_X12_tableTold_52 (d : Nat) (Φ : bm_Rt → bm_W → Prop) (v0 : Nat) (v1 : Int) (v2 : Int) (v3 : Int) (v4 : Int) (v5 : Int) (w : bm_W) : Prop := bm_Wp (bm_Call bm_pg d) tb_X12_tableTold Φ (52, [some (bm_r (some v0)), some (bm_i v1), some (bm_i v2), some (bm_i v3), some (bm_i v4), some (bm_i v5)], [], w)
set_option maxRecDepth 20000 in
theorem vc_X12_tableTold {d : Nat} {Φ : bm_Rt → bm_W → Prop} {p0 : Nat} {p1 : Int} {p2 : Int} {w : bm_W} (h :
  (if (decide ((3 : Int) ≤ p2)) = true then
    (bm_kt w p0 = 12) ∧ bm_Call bm_pg d y_X12_cases [bm_r (some p0), bm_i p1] w (fun r1 w1 => 
      bm_c1 (fun x1 => bk_X12_tableTold_52 d Φ p0 p1 p2 (0 : Int) (-1 : Int) (bm_w (x1 - (1 : Int))) w1) (fun E => Φ (.inr E) w1) r1)
  else
    (if (!decide (p2 = 0)) = true then
      (if (!decide (p2 = (1 : Int))) = true then
        (bm_kt w p0 = 12) ∧ bm_Call bm_pg d y_X12_cases [bm_r (some p0), bm_i p1] w (fun r2 w2 => 
          bm_c1 (fun x2 => Φ (.inl (some (bm_i x2))) w2) (fun E => Φ (.inr E) w2) r2)
      else
        (bm_kt w p0 = 12 ∧ bm_gr w p0 31 = some (bm_u (bm_gr w p0 31))) ∧
        (bm_kt w (bm_u (bm_gr w p0 31)) = 21 ∧ bm_in p1 (bm_kn w (bm_u (bm_gr w p0 31)))) ∧
        Φ (.inl (some (bm_i (bm_gi w (bm_u (bm_gr w p0 31)) (p1).toNat)))) w)
    else
      (bm_kt w p0 = 12 ∧ bm_gr w p0 30 = some (bm_u (bm_gr w p0 30))) ∧
      (bm_kt w (bm_u (bm_gr w p0 30)) = 21 ∧ bm_in p1 (bm_kn w (bm_u (bm_gr w p0 30)))) ∧
      Φ (.inl (some (bm_i (bm_gi w (bm_u (bm_gr w p0 30)) (p1).toNat)))) w))) : bm_Call bm_pg (d + 1) y_X12_tableTold [bm_r (some p0), bm_i p1, bm_i p2] w Φ := bm_enter rfl (bm_go (bm_Call_mono _ _) [52] 55 _ h)
set_option maxRecDepth 20000 in
theorem vb_X12_tableTold_52 {d : Nat} {Φ : bm_Rt → bm_W → Prop} {v0 : Nat} {v1 : Int} {v2 : Int} {v3 : Int} {v4 : Int} {v5 : Int} {w : bm_W} (h :
  (if (decide (v5 < 0)) = true then
    (if (!decide (v2 = (3 : Int))) = true then
      Φ (.inl (some (bm_i v4))) w
    else
      Φ (.inl (some (bm_i v3))) w)
  else
    (bm_kt w v0 = 12) ∧ bm_Call bm_pg d y_X12_holdsAt [bm_r (some v0), bm_i v1, bm_i v5, bm_i (-1 : Int)] w (fun r1 w1 => 
      bm_c1 (fun x1 => (if (decide (x1 = 0)) = true then
        bk_X12_tableTold_52 d Φ v0 v1 v2 v3 v5 (bm_w (v5 + (-1))) w1
      else
        bk_X12_tableTold_52 d Φ v0 v1 v2 (bm_w (v3 + 1)) v4 (bm_w (v5 + (-1))) w1)) (fun E => Φ (.inr E) w1) r1))) : bk_X12_tableTold_52 d Φ v0 v1 v2 v3 v4 v5 w := bm_go (bm_Call_mono _ _) [52] 55 _ h
/-! CaseTablesModel.isTable(I)Z -/
set_option maxRecDepth 20000 in
theorem vc_X12_isTable {d : Nat} {Φ : bm_Rt → bm_W → Prop} {p0 : Nat} {p1 : Int} {w : bm_W} (h :
  (bm_kt w p0 = 12) ∧
  (True) ∧ bm_Call bm_pg d y_X12_isIn [bm_i p1, bm_i (0 : Int), bm_i (bm_w ((bm_gi w p0 28) - (1 : Int)))] w (fun r1 w1 => 
    bm_c1 (fun x1 => (x1 = 0 ∨ x1 = 1) ∧ Φ (.inl (some (bm_i x1))) w1) (fun E => Φ (.inr E) w1) r1)) : bm_Call bm_pg (d + 1) y_X12_isTable [bm_r (some p0), bm_i p1] w Φ := bm_enter rfl (bm_go (bm_Call_mono _ _) [] 10 _ h)
/-! CaseTablesModel.isCase(II)Z -/
set_option maxRecDepth 20000 in
theorem vc_X12_isCase {d : Nat} {Φ : bm_Rt → bm_W → Prop} {p0 : Nat} {p1 : Int} {p2 : Int} {w : bm_W} (h :
  (bm_kt w p0 = 12) ∧ bm_Call bm_pg d y_X12_isTable [bm_r (some p0), bm_i p1] w (fun r1 w1 => 
    bm_c1 (fun x1 => (if (decide (x1 = 0)) = true then
      ((0 : Int) = 0 ∨ (0 : Int) = 1) ∧ Φ (.inl (some (bm_i (0 : Int)))) w1
    else
      (bm_kt w1 p0 = 12) ∧ bm_Call bm_pg d y_X12_cases [bm_r (some p0), bm_i p1] w1 (fun r2 w2 => 
        bm_c1 (fun x2 => (True) ∧ bm_Call bm_pg d y_X12_isIn [bm_i p2, bm_i (0 : Int), bm_i (bm_w (x2 - (1 : Int)))] w2 (fun r3 w3 => 
          bm_c1 (fun x3 => (if (decide (x3 = 0)) = true then
            ((0 : Int) = 0 ∨ (0 : Int) = 1) ∧ Φ (.inl (some (bm_i (0 : Int)))) w3
          else
            ((1 : Int) = 0 ∨ (1 : Int) = 1) ∧ Φ (.inl (some (bm_i (1 : Int)))) w3)) (fun E => Φ (.inr E) w3) r3)) (fun E => Φ (.inr E) w2) r2))) (fun E => Φ (.inr E) w1) r1)) : bm_Call bm_pg (d + 1) y_X12_isCase [bm_r (some p0), bm_i p1, bm_i p2] w Φ := bm_enter rfl (bm_go (bm_Call_mono _ _) [] 19 _ h)
/-! CaseTablesModel.table(II)I -/
set_option maxRecDepth 20000 in
theorem vc_X12_table_ {d : Nat} {Φ : bm_Rt → bm_W → Prop} {p0 : Nat} {p1 : Int} {p2 : Int} {w : bm_W} (h :
  (bm_kt w p0 = 12) ∧
  (bm_kt (bm_si w p0 0 (0 : Int)) p0 = 12) ∧ bm_Call bm_pg d y_X12_isTable [bm_r (some p0), bm_i p1] (bm_si w p0 0 (0 : Int)) (fun r1 w1 => 
    bm_c1 (fun x1 => (if (decide (x1 = 0)) = true then
      (bm_kt w1 p0 = 12) ∧ bm_Call bm_pg d y_X12_no [bm_r (some p0), bm_i (1 : Int)] w1 (fun r2 w2 => 
        bm_c1 (fun x2 => Φ (.inl (some (bm_i x2))) w2) (fun E => Φ (.inr E) w2) r2)
    else
      (True) ∧ bm_Call bm_pg d y_X12_isIn [bm_i p2, bm_i (0 : Int), bm_i (4 : Int)] w1 (fun r3 w3 => 
        bm_c1 (fun x3 => (if (decide (x3 = 0)) = true then
          (bm_kt w3 p0 = 12) ∧ bm_Call bm_pg d y_X12_no [bm_r (some p0), bm_i (1 : Int)] w3 (fun r4 w4 => 
            bm_c1 (fun x4 => Φ (.inl (some (bm_i x4))) w4) (fun E => Φ (.inr E) w4) r4)
        else
          (bm_kt w3 p0 = 12) ∧ bm_Call bm_pg d y_X12_tableTold [bm_r (some p0), bm_i p1, bm_i p2] w3 (fun r5 w5 => 
            bm_c1 (fun x5 => Φ (.inl (some (bm_i x5))) w5) (fun E => Φ (.inr E) w5) r5))) (fun E => Φ (.inr E) w3) r3))) (fun E => Φ (.inr E) w1) r1)) : bm_Call bm_pg (d + 1) y_X12_table_ [bm_r (some p0), bm_i p1, bm_i p2] w Φ := bm_enter rfl (bm_go (bm_Call_mono _ _) [] 23 _ h)

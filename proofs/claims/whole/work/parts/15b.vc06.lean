/-! what the rows of the methods come to (laid by program) -/
/-! CaseTablesModel.input()I -/
def bk_X12_input_204 (d : Nat) (Φ : bm_Rt → bm_W → Prop)  (w : bm_W) : Prop := bm_Wp (bm_Call bm_pg d) tb_X12_input Φ (204, [none, none, none, none], [], w)
set_option maxRecDepth 20000 in
theorem vc_X12_input {d : Nat} {Φ : bm_Rt → bm_W → Prop} {p0 : Nat} {w : bm_W} (h :
  (bm_kt w p0 = 12 ∧ bm_gr w p0 20 = some (bm_u (bm_gr w p0 20))) ∧
  (bm_kt w p0 = 12) ∧
  (bm_kt w (bm_u (bm_gr w p0 20)) = 21 ∧ bm_in (bm_gi w p0 18) (bm_kn w (bm_u (bm_gr w p0 20)))) ∧
  (if (!decide ((bm_gi w (bm_u (bm_gr w p0 20)) ((bm_gi w p0 18)).toNat) = (3 : Int))) = true then
    (bm_kt w p0 = 12 ∧ bm_gr w p0 21 = some (bm_u (bm_gr w p0 21))) ∧
    (bm_kt w p0 = 12) ∧
    (bm_kt w p0 = 12) ∧
    (bm_kt w p0 = 12) ∧ bm_Call bm_pg d y_X12_nameOf [bm_r (some p0), bm_i (bm_gi w p0 9)] w (fun r1 w1 => 
      bm_c2 (fun x1 => (True) ∧ bm_Call bm_pg d y_X12_find [bm_r (some (bm_u (bm_gr w p0 21))), bm_i (bm_w ((3 : Int) * (bm_gi w p0 18))), bm_i (bm_gi w (bm_u (bm_gr w p0 20)) ((bm_gi w p0 18)).toNat), bm_l x1] w1 (fun r2 w2 => 
        bm_c1 (fun x2 => (if (decide (x2 = (-1 : Int))) = true then
          (bm_kt w2 p0 = 12 ∧ bm_gr w2 p0 21 = some (bm_u (bm_gr w2 p0 21))) ∧
          (bm_kt w2 p0 = 12) ∧
          (bm_kt w2 p0 = 12) ∧
          (bm_kt w2 p0 = 12) ∧ bm_Call bm_pg d y_X12_nameOf [bm_r (some p0), bm_i (bm_gi w2 p0 9)] w2 (fun r3 w3 => 
            bm_c2 (fun x3 => (bm_kt w3 (bm_u (bm_gr w2 p0 21)) = 22 ∧ bm_in (bm_w ((bm_w ((3 : Int) * (bm_gi w2 p0 18))) + (bm_gi w (bm_u (bm_gr w p0 20)) ((bm_gi w p0 18)).toNat))) (bm_kn w3 (bm_u (bm_gr w2 p0 21)))) ∧
            (bm_kt (bm_sq w3 (bm_u (bm_gr w2 p0 21)) ((bm_w ((bm_w ((3 : Int) * (bm_gi w2 p0 18))) + (bm_gi w (bm_u (bm_gr w p0 20)) ((bm_gi w p0 18)).toNat)))).toNat x3) p0 = 12) ∧
            (bm_kt (bm_sq w3 (bm_u (bm_gr w2 p0 21)) ((bm_w ((bm_w ((3 : Int) * (bm_gi w2 p0 18))) + (bm_gi w (bm_u (bm_gr w p0 20)) ((bm_gi w p0 18)).toNat)))).toNat x3) p0 = 12) ∧
            (bm_kt (bm_si (bm_sq w3 (bm_u (bm_gr w2 p0 21)) ((bm_w ((bm_w ((3 : Int) * (bm_gi w2 p0 18))) + (bm_gi w (bm_u (bm_gr w p0 20)) ((bm_gi w p0 18)).toNat)))).toNat x3) p0 9 (bm_w ((bm_gi (bm_sq w3 (bm_u (bm_gr w2 p0 21)) ((bm_w ((bm_w ((3 : Int) * (bm_gi w2 p0 18))) + (bm_gi w (bm_u (bm_gr w p0 20)) ((bm_gi w p0 18)).toNat)))).toNat x3) p0 9) + (2 : Int)))) p0 = 12) ∧ bm_Call bm_pg d y_X12_whole [bm_r (some p0)] (bm_si (bm_sq w3 (bm_u (bm_gr w2 p0 21)) ((bm_w ((bm_w ((3 : Int) * (bm_gi w2 p0 18))) + (bm_gi w (bm_u (bm_gr w p0 20)) ((bm_gi w p0 18)).toNat)))).toNat x3) p0 9 (bm_w ((bm_gi (bm_sq w3 (bm_u (bm_gr w2 p0 21)) ((bm_w ((bm_w ((3 : Int) * (bm_gi w2 p0 18))) + (bm_gi w (bm_u (bm_gr w p0 20)) ((bm_gi w p0 18)).toNat)))).toNat x3) p0 9) + (2 : Int)))) (fun r4 w4 => 
              bm_c1 (fun x4 => (True) ∧ bm_Call bm_pg d y_X12_isIn [bm_i x4, bm_i (-20 : Int), bm_i (20 : Int)] w4 (fun r5 w5 => 
                bm_c1 (fun x5 => (if (!decide (x5 = 0)) = true then
                  (bm_kt w5 p0 = 12) ∧
                  (bm_kt w5 p0 = 12) ∧
                  (bm_kt (bm_si w5 p0 9 (bm_w ((bm_gi w5 p0 9) + (2 : Int)))) p0 = 12) ∧ bm_Call bm_pg d y_X12_whole [bm_r (some p0)] (bm_si w5 p0 9 (bm_w ((bm_gi w5 p0 9) + (2 : Int)))) (fun r6 w6 => 
                    bm_c1 (fun x6 => (True) ∧ bm_Call bm_pg d y_X12_isIn [bm_i x6, bm_i x4, bm_i (20 : Int)] w6 (fun r7 w7 => 
                      bm_c1 (fun x7 => (if (!decide (x7 = 0)) = true then
                        (bm_kt w7 p0 = 12) ∧
                        (bm_kt w7 p0 = 12) ∧
                        (bm_kt (bm_si w7 p0 9 (bm_w ((bm_gi w7 p0 9) + (1 : Int)))) p0 = 12 ∧ bm_gr (bm_si w7 p0 9 (bm_w ((bm_gi w7 p0 9) + (1 : Int)))) p0 22 = some (bm_u (bm_gr (bm_si w7 p0 9 (bm_w ((bm_gi w7 p0 9) + (1 : Int)))) p0 22))) ∧
                        (bm_kt (bm_si w7 p0 9 (bm_w ((bm_gi w7 p0 9) + (1 : Int)))) p0 = 12) ∧
                        (bm_kt (bm_si w7 p0 9 (bm_w ((bm_gi w7 p0 9) + (1 : Int)))) (bm_u (bm_gr (bm_si w7 p0 9 (bm_w ((bm_gi w7 p0 9) + (1 : Int)))) p0 22)) = 21 ∧ bm_in (bm_w ((bm_w ((3 : Int) * (bm_gi (bm_si w7 p0 9 (bm_w ((bm_gi w7 p0 9) + (1 : Int)))) p0 18))) + (bm_gi w (bm_u (bm_gr w p0 20)) ((bm_gi w p0 18)).toNat))) (bm_kn (bm_si w7 p0 9 (bm_w ((bm_gi w7 p0 9) + (1 : Int)))) (bm_u (bm_gr (bm_si w7 p0 9 (bm_w ((bm_gi w7 p0 9) + (1 : Int)))) p0 22)))) ∧
                        (bm_kt (bm_si (bm_si w7 p0 9 (bm_w ((bm_gi w7 p0 9) + (1 : Int)))) (bm_u (bm_gr (bm_si w7 p0 9 (bm_w ((bm_gi w7 p0 9) + (1 : Int)))) p0 22)) ((bm_w ((bm_w ((3 : Int) * (bm_gi (bm_si w7 p0 9 (bm_w ((bm_gi w7 p0 9) + (1 : Int)))) p0 18))) + (bm_gi w (bm_u (bm_gr w p0 20)) ((bm_gi w p0 18)).toNat)))).toNat x4) p0 = 12 ∧ bm_gr (bm_si (bm_si w7 p0 9 (bm_w ((bm_gi w7 p0 9) + (1 : Int)))) (bm_u (bm_gr (bm_si w7 p0 9 (bm_w ((bm_gi w7 p0 9) + (1 : Int)))) p0 22)) ((bm_w ((bm_w ((3 : Int) * (bm_gi (bm_si w7 p0 9 (bm_w ((bm_gi w7 p0 9) + (1 : Int)))) p0 18))) + (bm_gi w (bm_u (bm_gr w p0 20)) ((bm_gi w p0 18)).toNat)))).toNat x4) p0 23 = some (bm_u (bm_gr (bm_si (bm_si w7 p0 9 (bm_w ((bm_gi w7 p0 9) + (1 : Int)))) (bm_u (bm_gr (bm_si w7 p0 9 (bm_w ((bm_gi w7 p0 9) + (1 : Int)))) p0 22)) ((bm_w ((bm_w ((3 : Int) * (bm_gi (bm_si w7 p0 9 (bm_w ((bm_gi w7 p0 9) + (1 : Int)))) p0 18))) + (bm_gi w (bm_u (bm_gr w p0 20)) ((bm_gi w p0 18)).toNat)))).toNat x4) p0 23))) ∧
                        (bm_kt (bm_si (bm_si w7 p0 9 (bm_w ((bm_gi w7 p0 9) + (1 : Int)))) (bm_u (bm_gr (bm_si w7 p0 9 (bm_w ((bm_gi w7 p0 9) + (1 : Int)))) p0 22)) ((bm_w ((bm_w ((3 : Int) * (bm_gi (bm_si w7 p0 9 (bm_w ((bm_gi w7 p0 9) + (1 : Int)))) p0 18))) + (bm_gi w (bm_u (bm_gr w p0 20)) ((bm_gi w p0 18)).toNat)))).toNat x4) p0 = 12) ∧
                        (bm_kt (bm_si (bm_si w7 p0 9 (bm_w ((bm_gi w7 p0 9) + (1 : Int)))) (bm_u (bm_gr (bm_si w7 p0 9 (bm_w ((bm_gi w7 p0 9) + (1 : Int)))) p0 22)) ((bm_w ((bm_w ((3 : Int) * (bm_gi (bm_si w7 p0 9 (bm_w ((bm_gi w7 p0 9) + (1 : Int)))) p0 18))) + (bm_gi w (bm_u (bm_gr w p0 20)) ((bm_gi w p0 18)).toNat)))).toNat x4) (bm_u (bm_gr (bm_si (bm_si w7 p0 9 (bm_w ((bm_gi w7 p0 9) + (1 : Int)))) (bm_u (bm_gr (bm_si w7 p0 9 (bm_w ((bm_gi w7 p0 9) + (1 : Int)))) p0 22)) ((bm_w ((bm_w ((3 : Int) * (bm_gi (bm_si w7 p0 9 (bm_w ((bm_gi w7 p0 9) + (1 : Int)))) p0 18))) + (bm_gi w (bm_u (bm_gr w p0 20)) ((bm_gi w p0 18)).toNat)))).toNat x4) p0 23)) = 21 ∧ bm_in (bm_w ((bm_w ((3 : Int) * (bm_gi (bm_si (bm_si w7 p0 9 (bm_w ((bm_gi w7 p0 9) + (1 : Int)))) (bm_u (bm_gr (bm_si w7 p0 9 (bm_w ((bm_gi w7 p0 9) + (1 : Int)))) p0 22)) ((bm_w ((bm_w ((3 : Int) * (bm_gi (bm_si w7 p0 9 (bm_w ((bm_gi w7 p0 9) + (1 : Int)))) p0 18))) + (bm_gi w (bm_u (bm_gr w p0 20)) ((bm_gi w p0 18)).toNat)))).toNat x4) p0 18))) + (bm_gi w (bm_u (bm_gr w p0 20)) ((bm_gi w p0 18)).toNat))) (bm_kn (bm_si (bm_si w7 p0 9 (bm_w ((bm_gi w7 p0 9) + (1 : Int)))) (bm_u (bm_gr (bm_si w7 p0 9 (bm_w ((bm_gi w7 p0 9) + (1 : Int)))) p0 22)) ((bm_w ((bm_w ((3 : Int) * (bm_gi (bm_si w7 p0 9 (bm_w ((bm_gi w7 p0 9) + (1 : Int)))) p0 18))) + (bm_gi w (bm_u (bm_gr w p0 20)) ((bm_gi w p0 18)).toNat)))).toNat x4) (bm_u (bm_gr (bm_si (bm_si w7 p0 9 (bm_w ((bm_gi w7 p0 9) + (1 : Int)))) (bm_u (bm_gr (bm_si w7 p0 9 (bm_w ((bm_gi w7 p0 9) + (1 : Int)))) p0 22)) ((bm_w ((bm_w ((3 : Int) * (bm_gi (bm_si w7 p0 9 (bm_w ((bm_gi w7 p0 9) + (1 : Int)))) p0 18))) + (bm_gi w (bm_u (bm_gr w p0 20)) ((bm_gi w p0 18)).toNat)))).toNat x4) p0 23)))) ∧
                        (bm_kt (bm_si (bm_si (bm_si w7 p0 9 (bm_w ((bm_gi w7 p0 9) + (1 : Int)))) (bm_u (bm_gr (bm_si w7 p0 9 (bm_w ((bm_gi w7 p0 9) + (1 : Int)))) p0 22)) ((bm_w ((bm_w ((3 : Int) * (bm_gi (bm_si w7 p0 9 (bm_w ((bm_gi w7 p0 9) + (1 : Int)))) p0 18))) + (bm_gi w (bm_u (bm_gr w p0 20)) ((bm_gi w p0 18)).toNat)))).toNat x4) (bm_u (bm_gr (bm_si (bm_si w7 p0 9 (bm_w ((bm_gi w7 p0 9) + (1 : Int)))) (bm_u (bm_gr (bm_si w7 p0 9 (bm_w ((bm_gi w7 p0 9) + (1 : Int)))) p0 22)) ((bm_w ((bm_w ((3 : Int) * (bm_gi (bm_si w7 p0 9 (bm_w ((bm_gi w7 p0 9) + (1 : Int)))) p0 18))) + (bm_gi w (bm_u (bm_gr w p0 20)) ((bm_gi w p0 18)).toNat)))).toNat x4) p0 23)) ((bm_w ((bm_w ((3 : Int) * (bm_gi (bm_si (bm_si w7 p0 9 (bm_w ((bm_gi w7 p0 9) + (1 : Int)))) (bm_u (bm_gr (bm_si w7 p0 9 (bm_w ((bm_gi w7 p0 9) + (1 : Int)))) p0 22)) ((bm_w ((bm_w ((3 : Int) * (bm_gi (bm_si w7 p0 9 (bm_w ((bm_gi w7 p0 9) + (1 : Int)))) p0 18))) + (bm_gi w (bm_u (bm_gr w p0 20)) ((bm_gi w p0 18)).toNat)))).toNat x4) p0 18))) + (bm_gi w (bm_u (bm_gr w p0 20)) ((bm_gi w p0 18)).toNat)))).toNat x6) p0 = 12 ∧ bm_gr (bm_si (bm_si (bm_si w7 p0 9 (bm_w ((bm_gi w7 p0 9) + (1 : Int)))) (bm_u (bm_gr (bm_si w7 p0 9 (bm_w ((bm_gi w7 p0 9) + (1 : Int)))) p0 22)) ((bm_w ((bm_w ((3 : Int) * (bm_gi (bm_si w7 p0 9 (bm_w ((bm_gi w7 p0 9) + (1 : Int)))) p0 18))) + (bm_gi w (bm_u (bm_gr w p0 20)) ((bm_gi w p0 18)).toNat)))).toNat x4) (bm_u (bm_gr (bm_si (bm_si w7 p0 9 (bm_w ((bm_gi w7 p0 9) + (1 : Int)))) (bm_u (bm_gr (bm_si w7 p0 9 (bm_w ((bm_gi w7 p0 9) + (1 : Int)))) p0 22)) ((bm_w ((bm_w ((3 : Int) * (bm_gi (bm_si w7 p0 9 (bm_w ((bm_gi w7 p0 9) + (1 : Int)))) p0 18))) + (bm_gi w (bm_u (bm_gr w p0 20)) ((bm_gi w p0 18)).toNat)))).toNat x4) p0 23)) ((bm_w ((bm_w ((3 : Int) * (bm_gi (bm_si (bm_si w7 p0 9 (bm_w ((bm_gi w7 p0 9) + (1 : Int)))) (bm_u (bm_gr (bm_si w7 p0 9 (bm_w ((bm_gi w7 p0 9) + (1 : Int)))) p0 22)) ((bm_w ((bm_w ((3 : Int) * (bm_gi (bm_si w7 p0 9 (bm_w ((bm_gi w7 p0 9) + (1 : Int)))) p0 18))) + (bm_gi w (bm_u (bm_gr w p0 20)) ((bm_gi w p0 18)).toNat)))).toNat x4) p0 18))) + (bm_gi w (bm_u (bm_gr w p0 20)) ((bm_gi w p0 18)).toNat)))).toNat x6) p0 20 = some (bm_u (bm_gr (bm_si (bm_si (bm_si w7 p0 9 (bm_w ((bm_gi w7 p0 9) + (1 : Int)))) (bm_u (bm_gr (bm_si w7 p0 9 (bm_w ((bm_gi w7 p0 9) + (1 : Int)))) p0 22)) ((bm_w ((bm_w ((3 : Int) * (bm_gi (bm_si w7 p0 9 (bm_w ((bm_gi w7 p0 9) + (1 : Int)))) p0 18))) + (bm_gi w (bm_u (bm_gr w p0 20)) ((bm_gi w p0 18)).toNat)))).toNat x4) (bm_u (bm_gr (bm_si (bm_si w7 p0 9 (bm_w ((bm_gi w7 p0 9) + (1 : Int)))) (bm_u (bm_gr (bm_si w7 p0 9 (bm_w ((bm_gi w7 p0 9) + (1 : Int)))) p0 22)) ((bm_w ((bm_w ((3 : Int) * (bm_gi (bm_si w7 p0 9 (bm_w ((bm_gi w7 p0 9) + (1 : Int)))) p0 18))) + (bm_gi w (bm_u (bm_gr w p0 20)) ((bm_gi w p0 18)).toNat)))).toNat x4) p0 23)) ((bm_w ((bm_w ((3 : Int) * (bm_gi (bm_si (bm_si w7 p0 9 (bm_w ((bm_gi w7 p0 9) + (1 : Int)))) (bm_u (bm_gr (bm_si w7 p0 9 (bm_w ((bm_gi w7 p0 9) + (1 : Int)))) p0 22)) ((bm_w ((bm_w ((3 : Int) * (bm_gi (bm_si w7 p0 9 (bm_w ((bm_gi w7 p0 9) + (1 : Int)))) p0 18))) + (bm_gi w (bm_u (bm_gr w p0 20)) ((bm_gi w p0 18)).toNat)))).toNat x4) p0 18))) + (bm_gi w (bm_u (bm_gr w p0 20)) ((bm_gi w p0 18)).toNat)))).toNat x6) p0 20))) ∧
                        (bm_kt (bm_si (bm_si (bm_si w7 p0 9 (bm_w ((bm_gi w7 p0 9) + (1 : Int)))) (bm_u (bm_gr (bm_si w7 p0 9 (bm_w ((bm_gi w7 p0 9) + (1 : Int)))) p0 22)) ((bm_w ((bm_w ((3 : Int) * (bm_gi (bm_si w7 p0 9 (bm_w ((bm_gi w7 p0 9) + (1 : Int)))) p0 18))) + (bm_gi w (bm_u (bm_gr w p0 20)) ((bm_gi w p0 18)).toNat)))).toNat x4) (bm_u (bm_gr (bm_si (bm_si w7 p0 9 (bm_w ((bm_gi w7 p0 9) + (1 : Int)))) (bm_u (bm_gr (bm_si w7 p0 9 (bm_w ((bm_gi w7 p0 9) + (1 : Int)))) p0 22)) ((bm_w ((bm_w ((3 : Int) * (bm_gi (bm_si w7 p0 9 (bm_w ((bm_gi w7 p0 9) + (1 : Int)))) p0 18))) + (bm_gi w (bm_u (bm_gr w p0 20)) ((bm_gi w p0 18)).toNat)))).toNat x4) p0 23)) ((bm_w ((bm_w ((3 : Int) * (bm_gi (bm_si (bm_si w7 p0 9 (bm_w ((bm_gi w7 p0 9) + (1 : Int)))) (bm_u (bm_gr (bm_si w7 p0 9 (bm_w ((bm_gi w7 p0 9) + (1 : Int)))) p0 22)) ((bm_w ((bm_w ((3 : Int) * (bm_gi (bm_si w7 p0 9 (bm_w ((bm_gi w7 p0 9) + (1 : Int)))) p0 18))) + (bm_gi w (bm_u (bm_gr w p0 20)) ((bm_gi w p0 18)).toNat)))).toNat x4) p0 18))) + (bm_gi w (bm_u (bm_gr w p0 20)) ((bm_gi w p0 18)).toNat)))).toNat x6) p0 = 12) ∧
                        (bm_kt (bm_si (bm_si (bm_si w7 p0 9 (bm_w ((bm_gi w7 p0 9) + (1 : Int)))) (bm_u (bm_gr (bm_si w7 p0 9 (bm_w ((bm_gi w7 p0 9) + (1 : Int)))) p0 22)) ((bm_w ((bm_w ((3 : Int) * (bm_gi (bm_si w7 p0 9 (bm_w ((bm_gi w7 p0 9) + (1 : Int)))) p0 18))) + (bm_gi w (bm_u (bm_gr w p0 20)) ((bm_gi w p0 18)).toNat)))).toNat x4) (bm_u (bm_gr (bm_si (bm_si w7 p0 9 (bm_w ((bm_gi w7 p0 9) + (1 : Int)))) (bm_u (bm_gr (bm_si w7 p0 9 (bm_w ((bm_gi w7 p0 9) + (1 : Int)))) p0 22)) ((bm_w ((bm_w ((3 : Int) * (bm_gi (bm_si w7 p0 9 (bm_w ((bm_gi w7 p0 9) + (1 : Int)))) p0 18))) + (bm_gi w (bm_u (bm_gr w p0 20)) ((bm_gi w p0 18)).toNat)))).toNat x4) p0 23)) ((bm_w ((bm_w ((3 : Int) * (bm_gi (bm_si (bm_si w7 p0 9 (bm_w ((bm_gi w7 p0 9) + (1 : Int)))) (bm_u (bm_gr (bm_si w7 p0 9 (bm_w ((bm_gi w7 p0 9) + (1 : Int)))) p0 22)) ((bm_w ((bm_w ((3 : Int) * (bm_gi (bm_si w7 p0 9 (bm_w ((bm_gi w7 p0 9) + (1 : Int)))) p0 18))) + (bm_gi w (bm_u (bm_gr w p0 20)) ((bm_gi w p0 18)).toNat)))).toNat x4) p0 18))) + (bm_gi w (bm_u (bm_gr w p0 20)) ((bm_gi w p0 18)).toNat)))).toNat x6) (bm_u (bm_gr (bm_si (bm_si (bm_si w7 p0 9 (bm_w ((bm_gi w7 p0 9) + (1 : Int)))) (bm_u (bm_gr (bm_si w7 p0 9 (bm_w ((bm_gi w7 p0 9) + (1 : Int)))) p0 22)) ((bm_w ((bm_w ((3 : Int) * (bm_gi (bm_si w7 p0 9 (bm_w ((bm_gi w7 p0 9) + (1 : Int)))) p0 18))) + (bm_gi w (bm_u (bm_gr w p0 20)) ((bm_gi w p0 18)).toNat)))).toNat x4) (bm_u (bm_gr (bm_si (bm_si w7 p0 9 (bm_w ((bm_gi w7 p0 9) + (1 : Int)))) (bm_u (bm_gr (bm_si w7 p0 9 (bm_w ((bm_gi w7 p0 9) + (1 : Int)))) p0 22)) ((bm_w ((bm_w ((3 : Int) * (bm_gi (bm_si w7 p0 9 (bm_w ((bm_gi w7 p0 9) + (1 : Int)))) p0 18))) + (bm_gi w (bm_u (bm_gr w p0 20)) ((bm_gi w p0 18)).toNat)))).toNat x4) p0 23)) ((bm_w ((bm_w ((3 : Int) * (bm_gi (bm_si (bm_si w7 p0 9 (bm_w ((bm_gi w7 p0 9) + (1 : Int)))) (bm_u (bm_gr (bm_si w7 p0 9 (bm_w ((bm_gi w7 p0 9) + (1 : Int)))) p0 22)) ((bm_w ((bm_w ((3 : Int) * (bm_gi (bm_si w7 p0 9 (bm_w ((bm_gi w7 p0 9) + (1 : Int)))) p0 18))) + (bm_gi w (bm_u (bm_gr w p0 20)) ((bm_gi w p0 18)).toNat)))).toNat x4) p0 18))) + (bm_gi w (bm_u (bm_gr w p0 20)) ((bm_gi w p0 18)).toNat)))).toNat x6) p0 20)) = 21 ∧ bm_in (bm_gi (bm_si (bm_si (bm_si w7 p0 9 (bm_w ((bm_gi w7 p0 9) + (1 : Int)))) (bm_u (bm_gr (bm_si w7 p0 9 (bm_w ((bm_gi w7 p0 9) + (1 : Int)))) p0 22)) ((bm_w ((bm_w ((3 : Int) * (bm_gi (bm_si w7 p0 9 (bm_w ((bm_gi w7 p0 9) + (1 : Int)))) p0 18))) + (bm_gi w (bm_u (bm_gr w p0 20)) ((bm_gi w p0 18)).toNat)))).toNat x4) (bm_u (bm_gr (bm_si (bm_si w7 p0 9 (bm_w ((bm_gi w7 p0 9) + (1 : Int)))) (bm_u (bm_gr (bm_si w7 p0 9 (bm_w ((bm_gi w7 p0 9) + (1 : Int)))) p0 22)) ((bm_w ((bm_w ((3 : Int) * (bm_gi (bm_si w7 p0 9 (bm_w ((bm_gi w7 p0 9) + (1 : Int)))) p0 18))) + (bm_gi w (bm_u (bm_gr w p0 20)) ((bm_gi w p0 18)).toNat)))).toNat x4) p0 23)) ((bm_w ((bm_w ((3 : Int) * (bm_gi (bm_si (bm_si w7 p0 9 (bm_w ((bm_gi w7 p0 9) + (1 : Int)))) (bm_u (bm_gr (bm_si w7 p0 9 (bm_w ((bm_gi w7 p0 9) + (1 : Int)))) p0 22)) ((bm_w ((bm_w ((3 : Int) * (bm_gi (bm_si w7 p0 9 (bm_w ((bm_gi w7 p0 9) + (1 : Int)))) p0 18))) + (bm_gi w (bm_u (bm_gr w p0 20)) ((bm_gi w p0 18)).toNat)))).toNat x4) p0 18))) + (bm_gi w (bm_u (bm_gr w p0 20)) ((bm_gi w p0 18)).toNat)))).toNat x6) p0 18) (bm_kn (bm_si (bm_si (bm_si w7 p0 9 (bm_w ((bm_gi w7 p0 9) + (1 : Int)))) (bm_u (bm_gr (bm_si w7 p0 9 (bm_w ((bm_gi w7 p0 9) + (1 : Int)))) p0 22)) ((bm_w ((bm_w ((3 : Int) * (bm_gi (bm_si w7 p0 9 (bm_w ((bm_gi w7 p0 9) + (1 : Int)))) p0 18))) + (bm_gi w (bm_u (bm_gr w p0 20)) ((bm_gi w p0 18)).toNat)))).toNat x4) (bm_u (bm_gr (bm_si (bm_si w7 p0 9 (bm_w ((bm_gi w7 p0 9) + (1 : Int)))) (bm_u (bm_gr (bm_si w7 p0 9 (bm_w ((bm_gi w7 p0 9) + (1 : Int)))) p0 22)) ((bm_w ((bm_w ((3 : Int) * (bm_gi (bm_si w7 p0 9 (bm_w ((bm_gi w7 p0 9) + (1 : Int)))) p0 18))) + (bm_gi w (bm_u (bm_gr w p0 20)) ((bm_gi w p0 18)).toNat)))).toNat x4) p0 23)) ((bm_w ((bm_w ((3 : Int) * (bm_gi (bm_si (bm_si w7 p0 9 (bm_w ((bm_gi w7 p0 9) + (1 : Int)))) (bm_u (bm_gr (bm_si w7 p0 9 (bm_w ((bm_gi w7 p0 9) + (1 : Int)))) p0 22)) ((bm_w ((bm_w ((3 : Int) * (bm_gi (bm_si w7 p0 9 (bm_w ((bm_gi w7 p0 9) + (1 : Int)))) p0 18))) + (bm_gi w (bm_u (bm_gr w p0 20)) ((bm_gi w p0 18)).toNat)))).toNat x4) p0 18))) + (bm_gi w (bm_u (bm_gr w p0 20)) ((bm_gi w p0 18)).toNat)))).toNat x6) (bm_u (bm_gr (bm_si (bm_si (bm_si w7 p0 9 (bm_w ((bm_gi w7 p0 9) + (1 : Int)))) (bm_u (bm_gr (bm_si w7 p0 9 (bm_w ((bm_gi w7 p0 9) + (1 : Int)))) p0 22)) ((bm_w ((bm_w ((3 : Int) * (bm_gi (bm_si w7 p0 9 (bm_w ((bm_gi w7 p0 9) + (1 : Int)))) p0 18))) + (bm_gi w (bm_u (bm_gr w p0 20)) ((bm_gi w p0 18)).toNat)))).toNat x4) (bm_u (bm_gr (bm_si (bm_si w7 p0 9 (bm_w ((bm_gi w7 p0 9) + (1 : Int)))) (bm_u (bm_gr (bm_si w7 p0 9 (bm_w ((bm_gi w7 p0 9) + (1 : Int)))) p0 22)) ((bm_w ((bm_w ((3 : Int) * (bm_gi (bm_si w7 p0 9 (bm_w ((bm_gi w7 p0 9) + (1 : Int)))) p0 18))) + (bm_gi w (bm_u (bm_gr w p0 20)) ((bm_gi w p0 18)).toNat)))).toNat x4) p0 23)) ((bm_w ((bm_w ((3 : Int) * (bm_gi (bm_si (bm_si w7 p0 9 (bm_w ((bm_gi w7 p0 9) + (1 : Int)))) (bm_u (bm_gr (bm_si w7 p0 9 (bm_w ((bm_gi w7 p0 9) + (1 : Int)))) p0 22)) ((bm_w ((bm_w ((3 : Int) * (bm_gi (bm_si w7 p0 9 (bm_w ((bm_gi w7 p0 9) + (1 : Int)))) p0 18))) + (bm_gi w (bm_u (bm_gr w p0 20)) ((bm_gi w p0 18)).toNat)))).toNat x4) p0 18))) + (bm_gi w (bm_u (bm_gr w p0 20)) ((bm_gi w p0 18)).toNat)))).toNat x6) p0 20)))) ∧
                        (bm_kt (bm_si (bm_si (bm_si w7 p0 9 (bm_w ((bm_gi w7 p0 9) + (1 : Int)))) (bm_u (bm_gr (bm_si w7 p0 9 (bm_w ((bm_gi w7 p0 9) + (1 : Int)))) p0 22)) ((bm_w ((bm_w ((3 : Int) * (bm_gi (bm_si w7 p0 9 (bm_w ((bm_gi w7 p0 9) + (1 : Int)))) p0 18))) + (bm_gi w (bm_u (bm_gr w p0 20)) ((bm_gi w p0 18)).toNat)))).toNat x4) (bm_u (bm_gr (bm_si (bm_si w7 p0 9 (bm_w ((bm_gi w7 p0 9) + (1 : Int)))) (bm_u (bm_gr (bm_si w7 p0 9 (bm_w ((bm_gi w7 p0 9) + (1 : Int)))) p0 22)) ((bm_w ((bm_w ((3 : Int) * (bm_gi (bm_si w7 p0 9 (bm_w ((bm_gi w7 p0 9) + (1 : Int)))) p0 18))) + (bm_gi w (bm_u (bm_gr w p0 20)) ((bm_gi w p0 18)).toNat)))).toNat x4) p0 23)) ((bm_w ((bm_w ((3 : Int) * (bm_gi (bm_si (bm_si w7 p0 9 (bm_w ((bm_gi w7 p0 9) + (1 : Int)))) (bm_u (bm_gr (bm_si w7 p0 9 (bm_w ((bm_gi w7 p0 9) + (1 : Int)))) p0 22)) ((bm_w ((bm_w ((3 : Int) * (bm_gi (bm_si w7 p0 9 (bm_w ((bm_gi w7 p0 9) + (1 : Int)))) p0 18))) + (bm_gi w (bm_u (bm_gr w p0 20)) ((bm_gi w p0 18)).toNat)))).toNat x4) p0 18))) + (bm_gi w (bm_u (bm_gr w p0 20)) ((bm_gi w p0 18)).toNat)))).toNat x6) (bm_u (bm_gr (bm_si (bm_si (bm_si w7 p0 9 (bm_w ((bm_gi w7 p0 9) + (1 : Int)))) (bm_u (bm_gr (bm_si w7 p0 9 (bm_w ((bm_gi w7 p0 9) + (1 : Int)))) p0 22)) ((bm_w ((bm_w ((3 : Int) * (bm_gi (bm_si w7 p0 9 (bm_w ((bm_gi w7 p0 9) + (1 : Int)))) p0 18))) + (bm_gi w (bm_u (bm_gr w p0 20)) ((bm_gi w p0 18)).toNat)))).toNat x4) (bm_u (bm_gr (bm_si (bm_si w7 p0 9 (bm_w ((bm_gi w7 p0 9) + (1 : Int)))) (bm_u (bm_gr (bm_si w7 p0 9 (bm_w ((bm_gi w7 p0 9) + (1 : Int)))) p0 22)) ((bm_w ((bm_w ((3 : Int) * (bm_gi (bm_si w7 p0 9 (bm_w ((bm_gi w7 p0 9) + (1 : Int)))) p0 18))) + (bm_gi w (bm_u (bm_gr w p0 20)) ((bm_gi w p0 18)).toNat)))).toNat x4) p0 23)) ((bm_w ((bm_w ((3 : Int) * (bm_gi (bm_si (bm_si w7 p0 9 (bm_w ((bm_gi w7 p0 9) + (1 : Int)))) (bm_u (bm_gr (bm_si w7 p0 9 (bm_w ((bm_gi w7 p0 9) + (1 : Int)))) p0 22)) ((bm_w ((bm_w ((3 : Int) * (bm_gi (bm_si w7 p0 9 (bm_w ((bm_gi w7 p0 9) + (1 : Int)))) p0 18))) + (bm_gi w (bm_u (bm_gr w p0 20)) ((bm_gi w p0 18)).toNat)))).toNat x4) p0 18))) + (bm_gi w (bm_u (bm_gr w p0 20)) ((bm_gi w p0 18)).toNat)))).toNat x6) p0 20)) = 21 ∧ bm_in (bm_gi (bm_si (bm_si (bm_si w7 p0 9 (bm_w ((bm_gi w7 p0 9) + (1 : Int)))) (bm_u (bm_gr (bm_si w7 p0 9 (bm_w ((bm_gi w7 p0 9) + (1 : Int)))) p0 22)) ((bm_w ((bm_w ((3 : Int) * (bm_gi (bm_si w7 p0 9 (bm_w ((bm_gi w7 p0 9) + (1 : Int)))) p0 18))) + (bm_gi w (bm_u (bm_gr w p0 20)) ((bm_gi w p0 18)).toNat)))).toNat x4) (bm_u (bm_gr (bm_si (bm_si w7 p0 9 (bm_w ((bm_gi w7 p0 9) + (1 : Int)))) (bm_u (bm_gr (bm_si w7 p0 9 (bm_w ((bm_gi w7 p0 9) + (1 : Int)))) p0 22)) ((bm_w ((bm_w ((3 : Int) * (bm_gi (bm_si w7 p0 9 (bm_w ((bm_gi w7 p0 9) + (1 : Int)))) p0 18))) + (bm_gi w (bm_u (bm_gr w p0 20)) ((bm_gi w p0 18)).toNat)))).toNat x4) p0 23)) ((bm_w ((bm_w ((3 : Int) * (bm_gi (bm_si (bm_si w7 p0 9 (bm_w ((bm_gi w7 p0 9) + (1 : Int)))) (bm_u (bm_gr (bm_si w7 p0 9 (bm_w ((bm_gi w7 p0 9) + (1 : Int)))) p0 22)) ((bm_w ((bm_w ((3 : Int) * (bm_gi (bm_si w7 p0 9 (bm_w ((bm_gi w7 p0 9) + (1 : Int)))) p0 18))) + (bm_gi w (bm_u (bm_gr w p0 20)) ((bm_gi w p0 18)).toNat)))).toNat x4) p0 18))) + (bm_gi w (bm_u (bm_gr w p0 20)) ((bm_gi w p0 18)).toNat)))).toNat x6) p0 18) (bm_kn (bm_si (bm_si (bm_si w7 p0 9 (bm_w ((bm_gi w7 p0 9) + (1 : Int)))) (bm_u (bm_gr (bm_si w7 p0 9 (bm_w ((bm_gi w7 p0 9) + (1 : Int)))) p0 22)) ((bm_w ((bm_w ((3 : Int) * (bm_gi (bm_si w7 p0 9 (bm_w ((bm_gi w7 p0 9) + (1 : Int)))) p0 18))) + (bm_gi w (bm_u (bm_gr w p0 20)) ((bm_gi w p0 18)).toNat)))).toNat x4) (bm_u (bm_gr (bm_si (bm_si w7 p0 9 (bm_w ((bm_gi w7 p0 9) + (1 : Int)))) (bm_u (bm_gr (bm_si w7 p0 9 (bm_w ((bm_gi w7 p0 9) + (1 : Int)))) p0 22)) ((bm_w ((bm_w ((3 : Int) * (bm_gi (bm_si w7 p0 9 (bm_w ((bm_gi w7 p0 9) + (1 : Int)))) p0 18))) + (bm_gi w (bm_u (bm_gr w p0 20)) ((bm_gi w p0 18)).toNat)))).toNat x4) p0 23)) ((bm_w ((bm_w ((3 : Int) * (bm_gi (bm_si (bm_si w7 p0 9 (bm_w ((bm_gi w7 p0 9) + (1 : Int)))) (bm_u (bm_gr (bm_si w7 p0 9 (bm_w ((bm_gi w7 p0 9) + (1 : Int)))) p0 22)) ((bm_w ((bm_w ((3 : Int) * (bm_gi (bm_si w7 p0 9 (bm_w ((bm_gi w7 p0 9) + (1 : Int)))) p0 18))) + (bm_gi w (bm_u (bm_gr w p0 20)) ((bm_gi w p0 18)).toNat)))).toNat x4) p0 18))) + (bm_gi w (bm_u (bm_gr w p0 20)) ((bm_gi w p0 18)).toNat)))).toNat x6) (bm_u (bm_gr (bm_si (bm_si (bm_si w7 p0 9 (bm_w ((bm_gi w7 p0 9) + (1 : Int)))) (bm_u (bm_gr (bm_si w7 p0 9 (bm_w ((bm_gi w7 p0 9) + (1 : Int)))) p0 22)) ((bm_w ((bm_w ((3 : Int) * (bm_gi (bm_si w7 p0 9 (bm_w ((bm_gi w7 p0 9) + (1 : Int)))) p0 18))) + (bm_gi w (bm_u (bm_gr w p0 20)) ((bm_gi w p0 18)).toNat)))).toNat x4) (bm_u (bm_gr (bm_si (bm_si w7 p0 9 (bm_w ((bm_gi w7 p0 9) + (1 : Int)))) (bm_u (bm_gr (bm_si w7 p0 9 (bm_w ((bm_gi w7 p0 9) + (1 : Int)))) p0 22)) ((bm_w ((bm_w ((3 : Int) * (bm_gi (bm_si w7 p0 9 (bm_w ((bm_gi w7 p0 9) + (1 : Int)))) p0 18))) + (bm_gi w (bm_u (bm_gr w p0 20)) ((bm_gi w p0 18)).toNat)))).toNat x4) p0 23)) ((bm_w ((bm_w ((3 : Int) * (bm_gi (bm_si (bm_si w7 p0 9 (bm_w ((bm_gi w7 p0 9) + (1 : Int)))) (bm_u (bm_gr (bm_si w7 p0 9 (bm_w ((bm_gi w7 p0 9) + (1 : Int)))) p0 22)) ((bm_w ((bm_w ((3 : Int) * (bm_gi (bm_si w7 p0 9 (bm_w ((bm_gi w7 p0 9) + (1 : Int)))) p0 18))) + (bm_gi w (bm_u (bm_gr w p0 20)) ((bm_gi w p0 18)).toNat)))).toNat x4) p0 18))) + (bm_gi w (bm_u (bm_gr w p0 20)) ((bm_gi w p0 18)).toNat)))).toNat x6) p0 20)))) ∧
                        bk_X12_input_204 d Φ  (bm_si (bm_si (bm_si (bm_si w7 p0 9 (bm_w ((bm_gi w7 p0 9) + (1 : Int)))) (bm_u (bm_gr (bm_si w7 p0 9 (bm_w ((bm_gi w7 p0 9) + (1 : Int)))) p0 22)) ((bm_w ((bm_w ((3 : Int) * (bm_gi (bm_si w7 p0 9 (bm_w ((bm_gi w7 p0 9) + (1 : Int)))) p0 18))) + (bm_gi w (bm_u (bm_gr w p0 20)) ((bm_gi w p0 18)).toNat)))).toNat x4) (bm_u (bm_gr (bm_si (bm_si w7 p0 9 (bm_w ((bm_gi w7 p0 9) + (1 : Int)))) (bm_u (bm_gr (bm_si w7 p0 9 (bm_w ((bm_gi w7 p0 9) + (1 : Int)))) p0 22)) ((bm_w ((bm_w ((3 : Int) * (bm_gi (bm_si w7 p0 9 (bm_w ((bm_gi w7 p0 9) + (1 : Int)))) p0 18))) + (bm_gi w (bm_u (bm_gr w p0 20)) ((bm_gi w p0 18)).toNat)))).toNat x4) p0 23)) ((bm_w ((bm_w ((3 : Int) * (bm_gi (bm_si (bm_si w7 p0 9 (bm_w ((bm_gi w7 p0 9) + (1 : Int)))) (bm_u (bm_gr (bm_si w7 p0 9 (bm_w ((bm_gi w7 p0 9) + (1 : Int)))) p0 22)) ((bm_w ((bm_w ((3 : Int) * (bm_gi (bm_si w7 p0 9 (bm_w ((bm_gi w7 p0 9) + (1 : Int)))) p0 18))) + (bm_gi w (bm_u (bm_gr w p0 20)) ((bm_gi w p0 18)).toNat)))).toNat x4) p0 18))) + (bm_gi w (bm_u (bm_gr w p0 20)) ((bm_gi w p0 18)).toNat)))).toNat x6) (bm_u (bm_gr (bm_si (bm_si (bm_si w7 p0 9 (bm_w ((bm_gi w7 p0 9) + (1 : Int)))) (bm_u (bm_gr (bm_si w7 p0 9 (bm_w ((bm_gi w7 p0 9) + (1 : Int)))) p0 22)) ((bm_w ((bm_w ((3 : Int) * (bm_gi (bm_si w7 p0 9 (bm_w ((bm_gi w7 p0 9) + (1 : Int)))) p0 18))) + (bm_gi w (bm_u (bm_gr w p0 20)) ((bm_gi w p0 18)).toNat)))).toNat x4) (bm_u (bm_gr (bm_si (bm_si w7 p0 9 (bm_w ((bm_gi w7 p0 9) + (1 : Int)))) (bm_u (bm_gr (bm_si w7 p0 9 (bm_w ((bm_gi w7 p0 9) + (1 : Int)))) p0 22)) ((bm_w ((bm_w ((3 : Int) * (bm_gi (bm_si w7 p0 9 (bm_w ((bm_gi w7 p0 9) + (1 : Int)))) p0 18))) + (bm_gi w (bm_u (bm_gr w p0 20)) ((bm_gi w p0 18)).toNat)))).toNat x4) p0 23)) ((bm_w ((bm_w ((3 : Int) * (bm_gi (bm_si (bm_si w7 p0 9 (bm_w ((bm_gi w7 p0 9) + (1 : Int)))) (bm_u (bm_gr (bm_si w7 p0 9 (bm_w ((bm_gi w7 p0 9) + (1 : Int)))) p0 22)) ((bm_w ((bm_w ((3 : Int) * (bm_gi (bm_si w7 p0 9 (bm_w ((bm_gi w7 p0 9) + (1 : Int)))) p0 18))) + (bm_gi w (bm_u (bm_gr w p0 20)) ((bm_gi w p0 18)).toNat)))).toNat x4) p0 18))) + (bm_gi w (bm_u (bm_gr w p0 20)) ((bm_gi w p0 18)).toNat)))).toNat x6) p0 20)) ((bm_gi (bm_si (bm_si (bm_si w7 p0 9 (bm_w ((bm_gi w7 p0 9) + (1 : Int)))) (bm_u (bm_gr (bm_si w7 p0 9 (bm_w ((bm_gi w7 p0 9) + (1 : Int)))) p0 22)) ((bm_w ((bm_w ((3 : Int) * (bm_gi (bm_si w7 p0 9 (bm_w ((bm_gi w7 p0 9) + (1 : Int)))) p0 18))) + (bm_gi w (bm_u (bm_gr w p0 20)) ((bm_gi w p0 18)).toNat)))).toNat x4) (bm_u (bm_gr (bm_si (bm_si w7 p0 9 (bm_w ((bm_gi w7 p0 9) + (1 : Int)))) (bm_u (bm_gr (bm_si w7 p0 9 (bm_w ((bm_gi w7 p0 9) + (1 : Int)))) p0 22)) ((bm_w ((bm_w ((3 : Int) * (bm_gi (bm_si w7 p0 9 (bm_w ((bm_gi w7 p0 9) + (1 : Int)))) p0 18))) + (bm_gi w (bm_u (bm_gr w p0 20)) ((bm_gi w p0 18)).toNat)))).toNat x4) p0 23)) ((bm_w ((bm_w ((3 : Int) * (bm_gi (bm_si (bm_si w7 p0 9 (bm_w ((bm_gi w7 p0 9) + (1 : Int)))) (bm_u (bm_gr (bm_si w7 p0 9 (bm_w ((bm_gi w7 p0 9) + (1 : Int)))) p0 22)) ((bm_w ((bm_w ((3 : Int) * (bm_gi (bm_si w7 p0 9 (bm_w ((bm_gi w7 p0 9) + (1 : Int)))) p0 18))) + (bm_gi w (bm_u (bm_gr w p0 20)) ((bm_gi w p0 18)).toNat)))).toNat x4) p0 18))) + (bm_gi w (bm_u (bm_gr w p0 20)) ((bm_gi w p0 18)).toNat)))).toNat x6) p0 18)).toNat (bm_w ((bm_gi (bm_si (bm_si (bm_si w7 p0 9 (bm_w ((bm_gi w7 p0 9) + (1 : Int)))) (bm_u (bm_gr (bm_si w7 p0 9 (bm_w ((bm_gi w7 p0 9) + (1 : Int)))) p0 22)) ((bm_w ((bm_w ((3 : Int) * (bm_gi (bm_si w7 p0 9 (bm_w ((bm_gi w7 p0 9) + (1 : Int)))) p0 18))) + (bm_gi w (bm_u (bm_gr w p0 20)) ((bm_gi w p0 18)).toNat)))).toNat x4) (bm_u (bm_gr (bm_si (bm_si w7 p0 9 (bm_w ((bm_gi w7 p0 9) + (1 : Int)))) (bm_u (bm_gr (bm_si w7 p0 9 (bm_w ((bm_gi w7 p0 9) + (1 : Int)))) p0 22)) ((bm_w ((bm_w ((3 : Int) * (bm_gi (bm_si w7 p0 9 (bm_w ((bm_gi w7 p0 9) + (1 : Int)))) p0 18))) + (bm_gi w (bm_u (bm_gr w p0 20)) ((bm_gi w p0 18)).toNat)))).toNat x4) p0 23)) ((bm_w ((bm_w ((3 : Int) * (bm_gi (bm_si (bm_si w7 p0 9 (bm_w ((bm_gi w7 p0 9) + (1 : Int)))) (bm_u (bm_gr (bm_si w7 p0 9 (bm_w ((bm_gi w7 p0 9) + (1 : Int)))) p0 22)) ((bm_w ((bm_w ((3 : Int) * (bm_gi (bm_si w7 p0 9 (bm_w ((bm_gi w7 p0 9) + (1 : Int)))) p0 18))) + (bm_gi w (bm_u (bm_gr w p0 20)) ((bm_gi w p0 18)).toNat)))).toNat x4) p0 18))) + (bm_gi w (bm_u (bm_gr w p0 20)) ((bm_gi w p0 18)).toNat)))).toNat x6) (bm_u (bm_gr (bm_si (bm_si (bm_si w7 p0 9 (bm_w ((bm_gi w7 p0 9) + (1 : Int)))) (bm_u (bm_gr (bm_si w7 p0 9 (bm_w ((bm_gi w7 p0 9) + (1 : Int)))) p0 22)) ((bm_w ((bm_w ((3 : Int) * (bm_gi (bm_si w7 p0 9 (bm_w ((bm_gi w7 p0 9) + (1 : Int)))) p0 18))) + (bm_gi w (bm_u (bm_gr w p0 20)) ((bm_gi w p0 18)).toNat)))).toNat x4) (bm_u (bm_gr (bm_si (bm_si w7 p0 9 (bm_w ((bm_gi w7 p0 9) + (1 : Int)))) (bm_u (bm_gr (bm_si w7 p0 9 (bm_w ((bm_gi w7 p0 9) + (1 : Int)))) p0 22)) ((bm_w ((bm_w ((3 : Int) * (bm_gi (bm_si w7 p0 9 (bm_w ((bm_gi w7 p0 9) + (1 : Int)))) p0 18))) + (bm_gi w (bm_u (bm_gr w p0 20)) ((bm_gi w p0 18)).toNat)))).toNat x4) p0 23)) ((bm_w ((bm_w ((3 : Int) * (bm_gi (bm_si (bm_si w7 p0 9 (bm_w ((bm_gi w7 p0 9) + (1 : Int)))) (bm_u (bm_gr (bm_si w7 p0 9 (bm_w ((bm_gi w7 p0 9) + (1 : Int)))) p0 22)) ((bm_w ((bm_w ((3 : Int) * (bm_gi (bm_si w7 p0 9 (bm_w ((bm_gi w7 p0 9) + (1 : Int)))) p0 18))) + (bm_gi w (bm_u (bm_gr w p0 20)) ((bm_gi w p0 18)).toNat)))).toNat x4) p0 18))) + (bm_gi w (bm_u (bm_gr w p0 20)) ((bm_gi w p0 18)).toNat)))).toNat x6) p0 20)) ((bm_gi (bm_si (bm_si (bm_si w7 p0 9 (bm_w ((bm_gi w7 p0 9) + (1 : Int)))) (bm_u (bm_gr (bm_si w7 p0 9 (bm_w ((bm_gi w7 p0 9) + (1 : Int)))) p0 22)) ((bm_w ((bm_w ((3 : Int) * (bm_gi (bm_si w7 p0 9 (bm_w ((bm_gi w7 p0 9) + (1 : Int)))) p0 18))) + (bm_gi w (bm_u (bm_gr w p0 20)) ((bm_gi w p0 18)).toNat)))).toNat x4) (bm_u (bm_gr (bm_si (bm_si w7 p0 9 (bm_w ((bm_gi w7 p0 9) + (1 : Int)))) (bm_u (bm_gr (bm_si w7 p0 9 (bm_w ((bm_gi w7 p0 9) + (1 : Int)))) p0 22)) ((bm_w ((bm_w ((3 : Int) * (bm_gi (bm_si w7 p0 9 (bm_w ((bm_gi w7 p0 9) + (1 : Int)))) p0 18))) + (bm_gi w (bm_u (bm_gr w p0 20)) ((bm_gi w p0 18)).toNat)))).toNat x4) p0 23)) ((bm_w ((bm_w ((3 : Int) * (bm_gi (bm_si (bm_si w7 p0 9 (bm_w ((bm_gi w7 p0 9) + (1 : Int)))) (bm_u (bm_gr (bm_si w7 p0 9 (bm_w ((bm_gi w7 p0 9) + (1 : Int)))) p0 22)) ((bm_w ((bm_w ((3 : Int) * (bm_gi (bm_si w7 p0 9 (bm_w ((bm_gi w7 p0 9) + (1 : Int)))) p0 18))) + (bm_gi w (bm_u (bm_gr w p0 20)) ((bm_gi w p0 18)).toNat)))).toNat x4) p0 18))) + (bm_gi w (bm_u (bm_gr w p0 20)) ((bm_gi w p0 18)).toNat)))).toNat x6) p0 18)).toNat) + (1 : Int))))
                      else
                        (bm_kt w7 p0 = 12) ∧
                        (bm_kt w7 p0 = 12) ∧ bm_Call bm_pg d y_X12_wrong [bm_r (some p0), bm_i (5 : Int), bm_i (bm_gi w7 p0 9)] w7 (fun r8 w8 => 
                          bm_c1 (fun x8 => Φ (.inl (some (bm_i x8))) w8) (fun E => Φ (.inr E) w8) r8))) (fun E => Φ (.inr E) w7) r7)) (fun E => Φ (.inr E) w6) r6)
                else
                  (bm_kt w5 p0 = 12) ∧
                  (bm_kt w5 p0 = 12) ∧ bm_Call bm_pg d y_X12_wrong [bm_r (some p0), bm_i (5 : Int), bm_i (bm_gi w5 p0 9)] w5 (fun r9 w9 => 
                    bm_c1 (fun x9 => Φ (.inl (some (bm_i x9))) w9) (fun E => Φ (.inr E) w9) r9))) (fun E => Φ (.inr E) w5) r5)) (fun E => Φ (.inr E) w4) r4)) (fun E => Φ (.inr E) w3) r3)
        else
          (bm_kt w2 p0 = 12) ∧
          (bm_kt w2 p0 = 12) ∧ bm_Call bm_pg d y_X12_wrong [bm_r (some p0), bm_i (3 : Int), bm_i (bm_gi w2 p0 9)] w2 (fun r10 w10 => 
            bm_c1 (fun x10 => Φ (.inl (some (bm_i x10))) w10) (fun E => Φ (.inr E) w10) r10))) (fun E => Φ (.inr E) w2) r2)) (fun E => Φ (.inr E) w1) r1)
  else
    (bm_kt w p0 = 12) ∧
    (bm_kt w p0 = 12) ∧ bm_Call bm_pg d y_X12_wrong [bm_r (some p0), bm_i (4 : Int), bm_i (bm_gi w p0 9)] w (fun r11 w11 => 
      bm_c1 (fun x11 => Φ (.inl (some (bm_i x11))) w11) (fun E => Φ (.inr E) w11) r11))) : bm_Call bm_pg (d + 1) y_X12_input [bm_r (some p0)] w Φ := bm_enter rfl (bm_go (bm_Call_mono _ _) [204] 127 _ h)
set_option maxRecDepth 20000 in
theorem vb_X12_input_204 {d : Nat} {Φ : bm_Rt → bm_W → Prop}  {w : bm_W} (h :
  Φ (.inl (some (bm_i (0 : Int)))) w) : bk_X12_input_204 d Φ  w := bm_go (bm_Call_mono _ _) [204] 127 _ h
/-! CaseTablesModel.node(IIIIII)I -/
def bk_X12_node_41 (d : Nat) (Φ : bm_Rt → bm_W → Prop) (v0 : Nat) (v5 : Int) (v6 : Int) (w : bm_W) : Prop := bm_Wp (bm_Call bm_pg d) tb_X12_node Φ (41, [some (bm_r (some v0)), none, none, none, none, some (bm_i v5), some (bm_i v6)], [], w)
def bk_X12_node_81 (d : Nat) (Φ : bm_Rt → bm_W → Prop)  (w : bm_W) : Prop := bm_Wp (bm_Call bm_pg d) tb_X12_node Φ (81, [none, none, none, none, none, none, none], [], w)
set_option maxRecDepth 20000 in
theorem vc_X12_node {d : Nat} {Φ : bm_Rt → bm_W → Prop} {p0 : Nat} {p1 : Int} {p2 : Int} {p3 : Int} {p4 : Int} {p5 : Int} {p6 : Int} {w : bm_W} (h :
  (bm_kt w p0 = 12 ∧ bm_gr w p0 12 = some (bm_u (bm_gr w p0 12))) ∧
  (bm_kt w p0 = 12) ∧
  (bm_kt w (bm_u (bm_gr w p0 12)) = 21 ∧ bm_in (bm_gi w p0 11) (bm_kn w (bm_u (bm_gr w p0 12)))) ∧
  (bm_kt (bm_si w (bm_u (bm_gr w p0 12)) ((bm_gi w p0 11)).toNat p1) p0 = 12 ∧ bm_gr (bm_si w (bm_u (bm_gr w p0 12)) ((bm_gi w p0 11)).toNat p1) p0 13 = some (bm_u (bm_gr (bm_si w (bm_u (bm_gr w p0 12)) ((bm_gi w p0 11)).toNat p1) p0 13))) ∧
  (bm_kt (bm_si w (bm_u (bm_gr w p0 12)) ((bm_gi w p0 11)).toNat p1) p0 = 12) ∧
  (bm_kt (bm_si w (bm_u (bm_gr w p0 12)) ((bm_gi w p0 11)).toNat p1) (bm_u (bm_gr (bm_si w (bm_u (bm_gr w p0 12)) ((bm_gi w p0 11)).toNat p1) p0 13)) = 21 ∧ bm_in (bm_gi (bm_si w (bm_u (bm_gr w p0 12)) ((bm_gi w p0 11)).toNat p1) p0 11) (bm_kn (bm_si w (bm_u (bm_gr w p0 12)) ((bm_gi w p0 11)).toNat p1) (bm_u (bm_gr (bm_si w (bm_u (bm_gr w p0 12)) ((bm_gi w p0 11)).toNat p1) p0 13)))) ∧
  (bm_kt (bm_si (bm_si w (bm_u (bm_gr w p0 12)) ((bm_gi w p0 11)).toNat p1) (bm_u (bm_gr (bm_si w (bm_u (bm_gr w p0 12)) ((bm_gi w p0 11)).toNat p1) p0 13)) ((bm_gi (bm_si w (bm_u (bm_gr w p0 12)) ((bm_gi w p0 11)).toNat p1) p0 11)).toNat p2) p0 = 12 ∧ bm_gr (bm_si (bm_si w (bm_u (bm_gr w p0 12)) ((bm_gi w p0 11)).toNat p1) (bm_u (bm_gr (bm_si w (bm_u (bm_gr w p0 12)) ((bm_gi w p0 11)).toNat p1) p0 13)) ((bm_gi (bm_si w (bm_u (bm_gr w p0 12)) ((bm_gi w p0 11)).toNat p1) p0 11)).toNat p2) p0 14 = some (bm_u (bm_gr (bm_si (bm_si w (bm_u (bm_gr w p0 12)) ((bm_gi w p0 11)).toNat p1) (bm_u (bm_gr (bm_si w (bm_u (bm_gr w p0 12)) ((bm_gi w p0 11)).toNat p1) p0 13)) ((bm_gi (bm_si w (bm_u (bm_gr w p0 12)) ((bm_gi w p0 11)).toNat p1) p0 11)).toNat p2) p0 14))) ∧
  (bm_kt (bm_si (bm_si w (bm_u (bm_gr w p0 12)) ((bm_gi w p0 11)).toNat p1) (bm_u (bm_gr (bm_si w (bm_u (bm_gr w p0 12)) ((bm_gi w p0 11)).toNat p1) p0 13)) ((bm_gi (bm_si w (bm_u (bm_gr w p0 12)) ((bm_gi w p0 11)).toNat p1) p0 11)).toNat p2) p0 = 12) ∧
  (bm_kt (bm_si (bm_si w (bm_u (bm_gr w p0 12)) ((bm_gi w p0 11)).toNat p1) (bm_u (bm_gr (bm_si w (bm_u (bm_gr w p0 12)) ((bm_gi w p0 11)).toNat p1) p0 13)) ((bm_gi (bm_si w (bm_u (bm_gr w p0 12)) ((bm_gi w p0 11)).toNat p1) p0 11)).toNat p2) (bm_u (bm_gr (bm_si (bm_si w (bm_u (bm_gr w p0 12)) ((bm_gi w p0 11)).toNat p1) (bm_u (bm_gr (bm_si w (bm_u (bm_gr w p0 12)) ((bm_gi w p0 11)).toNat p1) p0 13)) ((bm_gi (bm_si w (bm_u (bm_gr w p0 12)) ((bm_gi w p0 11)).toNat p1) p0 11)).toNat p2) p0 14)) = 21 ∧ bm_in (bm_gi (bm_si (bm_si w (bm_u (bm_gr w p0 12)) ((bm_gi w p0 11)).toNat p1) (bm_u (bm_gr (bm_si w (bm_u (bm_gr w p0 12)) ((bm_gi w p0 11)).toNat p1) p0 13)) ((bm_gi (bm_si w (bm_u (bm_gr w p0 12)) ((bm_gi w p0 11)).toNat p1) p0 11)).toNat p2) p0 11) (bm_kn (bm_si (bm_si w (bm_u (bm_gr w p0 12)) ((bm_gi w p0 11)).toNat p1) (bm_u (bm_gr (bm_si w (bm_u (bm_gr w p0 12)) ((bm_gi w p0 11)).toNat p1) p0 13)) ((bm_gi (bm_si w (bm_u (bm_gr w p0 12)) ((bm_gi w p0 11)).toNat p1) p0 11)).toNat p2) (bm_u (bm_gr (bm_si (bm_si w (bm_u (bm_gr w p0 12)) ((bm_gi w p0 11)).toNat p1) (bm_u (bm_gr (bm_si w (bm_u (bm_gr w p0 12)) ((bm_gi w p0 11)).toNat p1) p0 13)) ((bm_gi (bm_si w (bm_u (bm_gr w p0 12)) ((bm_gi w p0 11)).toNat p1) p0 11)).toNat p2) p0 14)))) ∧
  (bm_kt (bm_si (bm_si (bm_si w (bm_u (bm_gr w p0 12)) ((bm_gi w p0 11)).toNat p1) (bm_u (bm_gr (bm_si w (bm_u (bm_gr w p0 12)) ((bm_gi w p0 11)).toNat p1) p0 13)) ((bm_gi (bm_si w (bm_u (bm_gr w p0 12)) ((bm_gi w p0 11)).toNat p1) p0 11)).toNat p2) (bm_u (bm_gr (bm_si (bm_si w (bm_u (bm_gr w p0 12)) ((bm_gi w p0 11)).toNat p1) (bm_u (bm_gr (bm_si w (bm_u (bm_gr w p0 12)) ((bm_gi w p0 11)).toNat p1) p0 13)) ((bm_gi (bm_si w (bm_u (bm_gr w p0 12)) ((bm_gi w p0 11)).toNat p1) p0 11)).toNat p2) p0 14)) ((bm_gi (bm_si (bm_si w (bm_u (bm_gr w p0 12)) ((bm_gi w p0 11)).toNat p1) (bm_u (bm_gr (bm_si w (bm_u (bm_gr w p0 12)) ((bm_gi w p0 11)).toNat p1) p0 13)) ((bm_gi (bm_si w (bm_u (bm_gr w p0 12)) ((bm_gi w p0 11)).toNat p1) p0 11)).toNat p2) p0 11)).toNat p3) p0 = 12 ∧ bm_gr (bm_si (bm_si (bm_si w (bm_u (bm_gr w p0 12)) ((bm_gi w p0 11)).toNat p1) (bm_u (bm_gr (bm_si w (bm_u (bm_gr w p0 12)) ((bm_gi w p0 11)).toNat p1) p0 13)) ((bm_gi (bm_si w (bm_u (bm_gr w p0 12)) ((bm_gi w p0 11)).toNat p1) p0 11)).toNat p2) (bm_u (bm_gr (bm_si (bm_si w (bm_u (bm_gr w p0 12)) ((bm_gi w p0 11)).toNat p1) (bm_u (bm_gr (bm_si w (bm_u (bm_gr w p0 12)) ((bm_gi w p0 11)).toNat p1) p0 13)) ((bm_gi (bm_si w (bm_u (bm_gr w p0 12)) ((bm_gi w p0 11)).toNat p1) p0 11)).toNat p2) p0 14)) ((bm_gi (bm_si (bm_si w (bm_u (bm_gr w p0 12)) ((bm_gi w p0 11)).toNat p1) (bm_u (bm_gr (bm_si w (bm_u (bm_gr w p0 12)) ((bm_gi w p0 11)).toNat p1) p0 13)) ((bm_gi (bm_si w (bm_u (bm_gr w p0 12)) ((bm_gi w p0 11)).toNat p1) p0 11)).toNat p2) p0 11)).toNat p3) p0 15 = some (bm_u (bm_gr (bm_si (bm_si (bm_si w (bm_u (bm_gr w p0 12)) ((bm_gi w p0 11)).toNat p1) (bm_u (bm_gr (bm_si w (bm_u (bm_gr w p0 12)) ((bm_gi w p0 11)).toNat p1) p0 13)) ((bm_gi (bm_si w (bm_u (bm_gr w p0 12)) ((bm_gi w p0 11)).toNat p1) p0 11)).toNat p2) (bm_u (bm_gr (bm_si (bm_si w (bm_u (bm_gr w p0 12)) ((bm_gi w p0 11)).toNat p1) (bm_u (bm_gr (bm_si w (bm_u (bm_gr w p0 12)) ((bm_gi w p0 11)).toNat p1) p0 13)) ((bm_gi (bm_si w (bm_u (bm_gr w p0 12)) ((bm_gi w p0 11)).toNat p1) p0 11)).toNat p2) p0 14)) ((bm_gi (bm_si (bm_si w (bm_u (bm_gr w p0 12)) ((bm_gi w p0 11)).toNat p1) (bm_u (bm_gr (bm_si w (bm_u (bm_gr w p0 12)) ((bm_gi w p0 11)).toNat p1) p0 13)) ((bm_gi (bm_si w (bm_u (bm_gr w p0 12)) ((bm_gi w p0 11)).toNat p1) p0 11)).toNat p2) p0 11)).toNat p3) p0 15))) ∧
  (bm_kt (bm_si (bm_si (bm_si w (bm_u (bm_gr w p0 12)) ((bm_gi w p0 11)).toNat p1) (bm_u (bm_gr (bm_si w (bm_u (bm_gr w p0 12)) ((bm_gi w p0 11)).toNat p1) p0 13)) ((bm_gi (bm_si w (bm_u (bm_gr w p0 12)) ((bm_gi w p0 11)).toNat p1) p0 11)).toNat p2) (bm_u (bm_gr (bm_si (bm_si w (bm_u (bm_gr w p0 12)) ((bm_gi w p0 11)).toNat p1) (bm_u (bm_gr (bm_si w (bm_u (bm_gr w p0 12)) ((bm_gi w p0 11)).toNat p1) p0 13)) ((bm_gi (bm_si w (bm_u (bm_gr w p0 12)) ((bm_gi w p0 11)).toNat p1) p0 11)).toNat p2) p0 14)) ((bm_gi (bm_si (bm_si w (bm_u (bm_gr w p0 12)) ((bm_gi w p0 11)).toNat p1) (bm_u (bm_gr (bm_si w (bm_u (bm_gr w p0 12)) ((bm_gi w p0 11)).toNat p1) p0 13)) ((bm_gi (bm_si w (bm_u (bm_gr w p0 12)) ((bm_gi w p0 11)).toNat p1) p0 11)).toNat p2) p0 11)).toNat p3) p0 = 12) ∧
  (bm_kt (bm_si (bm_si (bm_si w (bm_u (bm_gr w p0 12)) ((bm_gi w p0 11)).toNat p1) (bm_u (bm_gr (bm_si w (bm_u (bm_gr w p0 12)) ((bm_gi w p0 11)).toNat p1) p0 13)) ((bm_gi (bm_si w (bm_u (bm_gr w p0 12)) ((bm_gi w p0 11)).toNat p1) p0 11)).toNat p2) (bm_u (bm_gr (bm_si (bm_si w (bm_u (bm_gr w p0 12)) ((bm_gi w p0 11)).toNat p1) (bm_u (bm_gr (bm_si w (bm_u (bm_gr w p0 12)) ((bm_gi w p0 11)).toNat p1) p0 13)) ((bm_gi (bm_si w (bm_u (bm_gr w p0 12)) ((bm_gi w p0 11)).toNat p1) p0 11)).toNat p2) p0 14)) ((bm_gi (bm_si (bm_si w (bm_u (bm_gr w p0 12)) ((bm_gi w p0 11)).toNat p1) (bm_u (bm_gr (bm_si w (bm_u (bm_gr w p0 12)) ((bm_gi w p0 11)).toNat p1) p0 13)) ((bm_gi (bm_si w (bm_u (bm_gr w p0 12)) ((bm_gi w p0 11)).toNat p1) p0 11)).toNat p2) p0 11)).toNat p3) (bm_u (bm_gr (bm_si (bm_si (bm_si w (bm_u (bm_gr w p0 12)) ((bm_gi w p0 11)).toNat p1) (bm_u (bm_gr (bm_si w (bm_u (bm_gr w p0 12)) ((bm_gi w p0 11)).toNat p1) p0 13)) ((bm_gi (bm_si w (bm_u (bm_gr w p0 12)) ((bm_gi w p0 11)).toNat p1) p0 11)).toNat p2) (bm_u (bm_gr (bm_si (bm_si w (bm_u (bm_gr w p0 12)) ((bm_gi w p0 11)).toNat p1) (bm_u (bm_gr (bm_si w (bm_u (bm_gr w p0 12)) ((bm_gi w p0 11)).toNat p1) p0 13)) ((bm_gi (bm_si w (bm_u (bm_gr w p0 12)) ((bm_gi w p0 11)).toNat p1) p0 11)).toNat p2) p0 14)) ((bm_gi (bm_si (bm_si w (bm_u (bm_gr w p0 12)) ((bm_gi w p0 11)).toNat p1) (bm_u (bm_gr (bm_si w (bm_u (bm_gr w p0 12)) ((bm_gi w p0 11)).toNat p1) p0 13)) ((bm_gi (bm_si w (bm_u (bm_gr w p0 12)) ((bm_gi w p0 11)).toNat p1) p0 11)).toNat p2) p0 11)).toNat p3) p0 15)) = 21 ∧ bm_in (bm_gi (bm_si (bm_si (bm_si w (bm_u (bm_gr w p0 12)) ((bm_gi w p0 11)).toNat p1) (bm_u (bm_gr (bm_si w (bm_u (bm_gr w p0 12)) ((bm_gi w p0 11)).toNat p1) p0 13)) ((bm_gi (bm_si w (bm_u (bm_gr w p0 12)) ((bm_gi w p0 11)).toNat p1) p0 11)).toNat p2) (bm_u (bm_gr (bm_si (bm_si w (bm_u (bm_gr w p0 12)) ((bm_gi w p0 11)).toNat p1) (bm_u (bm_gr (bm_si w (bm_u (bm_gr w p0 12)) ((bm_gi w p0 11)).toNat p1) p0 13)) ((bm_gi (bm_si w (bm_u (bm_gr w p0 12)) ((bm_gi w p0 11)).toNat p1) p0 11)).toNat p2) p0 14)) ((bm_gi (bm_si (bm_si w (bm_u (bm_gr w p0 12)) ((bm_gi w p0 11)).toNat p1) (bm_u (bm_gr (bm_si w (bm_u (bm_gr w p0 12)) ((bm_gi w p0 11)).toNat p1) p0 13)) ((bm_gi (bm_si w (bm_u (bm_gr w p0 12)) ((bm_gi w p0 11)).toNat p1) p0 11)).toNat p2) p0 11)).toNat p3) p0 11) (bm_kn (bm_si (bm_si (bm_si w (bm_u (bm_gr w p0 12)) ((bm_gi w p0 11)).toNat p1) (bm_u (bm_gr (bm_si w (bm_u (bm_gr w p0 12)) ((bm_gi w p0 11)).toNat p1) p0 13)) ((bm_gi (bm_si w (bm_u (bm_gr w p0 12)) ((bm_gi w p0 11)).toNat p1) p0 11)).toNat p2) (bm_u (bm_gr (bm_si (bm_si w (bm_u (bm_gr w p0 12)) ((bm_gi w p0 11)).toNat p1) (bm_u (bm_gr (bm_si w (bm_u (bm_gr w p0 12)) ((bm_gi w p0 11)).toNat p1) p0 13)) ((bm_gi (bm_si w (bm_u (bm_gr w p0 12)) ((bm_gi w p0 11)).toNat p1) p0 11)).toNat p2) p0 14)) ((bm_gi (bm_si (bm_si w (bm_u (bm_gr w p0 12)) ((bm_gi w p0 11)).toNat p1) (bm_u (bm_gr (bm_si w (bm_u (bm_gr w p0 12)) ((bm_gi w p0 11)).toNat p1) p0 13)) ((bm_gi (bm_si w (bm_u (bm_gr w p0 12)) ((bm_gi w p0 11)).toNat p1) p0 11)).toNat p2) p0 11)).toNat p3) (bm_u (bm_gr (bm_si (bm_si (bm_si w (bm_u (bm_gr w p0 12)) ((bm_gi w p0 11)).toNat p1) (bm_u (bm_gr (bm_si w (bm_u (bm_gr w p0 12)) ((bm_gi w p0 11)).toNat p1) p0 13)) ((bm_gi (bm_si w (bm_u (bm_gr w p0 12)) ((bm_gi w p0 11)).toNat p1) p0 11)).toNat p2) (bm_u (bm_gr (bm_si (bm_si w (bm_u (bm_gr w p0 12)) ((bm_gi w p0 11)).toNat p1) (bm_u (bm_gr (bm_si w (bm_u (bm_gr w p0 12)) ((bm_gi w p0 11)).toNat p1) p0 13)) ((bm_gi (bm_si w (bm_u (bm_gr w p0 12)) ((bm_gi w p0 11)).toNat p1) p0 11)).toNat p2) p0 14)) ((bm_gi (bm_si (bm_si w (bm_u (bm_gr w p0 12)) ((bm_gi w p0 11)).toNat p1) (bm_u (bm_gr (bm_si w (bm_u (bm_gr w p0 12)) ((bm_gi w p0 11)).toNat p1) p0 13)) ((bm_gi (bm_si w (bm_u (bm_gr w p0 12)) ((bm_gi w p0 11)).toNat p1) p0 11)).toNat p2) p0 11)).toNat p3) p0 15)))) ∧
  bk_X12_node_41 d Φ p0 p5 p6 (bm_si (bm_si (bm_si (bm_si w (bm_u (bm_gr w p0 12)) ((bm_gi w p0 11)).toNat p1) (bm_u (bm_gr (bm_si w (bm_u (bm_gr w p0 12)) ((bm_gi w p0 11)).toNat p1) p0 13)) ((bm_gi (bm_si w (bm_u (bm_gr w p0 12)) ((bm_gi w p0 11)).toNat p1) p0 11)).toNat p2) (bm_u (bm_gr (bm_si (bm_si w (bm_u (bm_gr w p0 12)) ((bm_gi w p0 11)).toNat p1) (bm_u (bm_gr (bm_si w (bm_u (bm_gr w p0 12)) ((bm_gi w p0 11)).toNat p1) p0 13)) ((bm_gi (bm_si w (bm_u (bm_gr w p0 12)) ((bm_gi w p0 11)).toNat p1) p0 11)).toNat p2) p0 14)) ((bm_gi (bm_si (bm_si w (bm_u (bm_gr w p0 12)) ((bm_gi w p0 11)).toNat p1) (bm_u (bm_gr (bm_si w (bm_u (bm_gr w p0 12)) ((bm_gi w p0 11)).toNat p1) p0 13)) ((bm_gi (bm_si w (bm_u (bm_gr w p0 12)) ((bm_gi w p0 11)).toNat p1) p0 11)).toNat p2) p0 11)).toNat p3) (bm_u (bm_gr (bm_si (bm_si (bm_si w (bm_u (bm_gr w p0 12)) ((bm_gi w p0 11)).toNat p1) (bm_u (bm_gr (bm_si w (bm_u (bm_gr w p0 12)) ((bm_gi w p0 11)).toNat p1) p0 13)) ((bm_gi (bm_si w (bm_u (bm_gr w p0 12)) ((bm_gi w p0 11)).toNat p1) p0 11)).toNat p2) (bm_u (bm_gr (bm_si (bm_si w (bm_u (bm_gr w p0 12)) ((bm_gi w p0 11)).toNat p1) (bm_u (bm_gr (bm_si w (bm_u (bm_gr w p0 12)) ((bm_gi w p0 11)).toNat p1) p0 13)) ((bm_gi (bm_si w (bm_u (bm_gr w p0 12)) ((bm_gi w p0 11)).toNat p1) p0 11)).toNat p2) p0 14)) ((bm_gi (bm_si (bm_si w (bm_u (bm_gr w p0 12)) ((bm_gi w p0 11)).toNat p1) (bm_u (bm_gr (bm_si w (bm_u (bm_gr w p0 12)) ((bm_gi w p0 11)).toNat p1) p0 13)) ((bm_gi (bm_si w (bm_u (bm_gr w p0 12)) ((bm_gi w p0 11)).toNat p1) p0 11)).toNat p2) p0 11)).toNat p3) p0 15)) ((bm_gi (bm_si (bm_si (bm_si w (bm_u (bm_gr w p0 12)) ((bm_gi w p0 11)).toNat p1) (bm_u (bm_gr (bm_si w (bm_u (bm_gr w p0 12)) ((bm_gi w p0 11)).toNat p1) p0 13)) ((bm_gi (bm_si w (bm_u (bm_gr w p0 12)) ((bm_gi w p0 11)).toNat p1) p0 11)).toNat p2) (bm_u (bm_gr (bm_si (bm_si w (bm_u (bm_gr w p0 12)) ((bm_gi w p0 11)).toNat p1) (bm_u (bm_gr (bm_si w (bm_u (bm_gr w p0 12)) ((bm_gi w p0 11)).toNat p1) p0 13)) ((bm_gi (bm_si w (bm_u (bm_gr w p0 12)) ((bm_gi w p0 11)).toNat p1) p0 11)).toNat p2) p0 14)) ((bm_gi (bm_si (bm_si w (bm_u (bm_gr w p0 12)) ((bm_gi w p0 11)).toNat p1) (bm_u (bm_gr (bm_si w (bm_u (bm_gr w p0 12)) ((bm_gi w p0 11)).toNat p1) p0 13)) ((bm_gi (bm_si w (bm_u (bm_gr w p0 12)) ((bm_gi w p0 11)).toNat p1) p0 11)).toNat p2) p0 11)).toNat p3) p0 11)).toNat p4)) : bm_Call bm_pg (d + 1) y_X12_node [bm_r (some p0), bm_i p1, bm_i p2, bm_i p3, bm_i p4, bm_i p5, bm_i p6] w Φ := bm_enter rfl (bm_go (bm_Call_mono _ _) [41, 81] 50 _ h)
set_option maxRecDepth 20000 in
theorem vb_X12_node_41 {d : Nat} {Φ : bm_Rt → bm_W → Prop} {v0 : Nat} {v5 : Int} {v6 : Int} {w : bm_W} (h :
  (bm_kt w v0 = 12 ∧ bm_gr w v0 16 = some (bm_u (bm_gr w v0 16))) ∧
  (bm_kt w v0 = 12) ∧
  (bm_kt w (bm_u (bm_gr w v0 16)) = 21 ∧ bm_in (bm_gi w v0 11) (bm_kn w (bm_u (bm_gr w v0 16)))) ∧
  (bm_kt (bm_si w (bm_u (bm_gr w v0 16)) ((bm_gi w v0 11)).toNat v5) v0 = 12 ∧ bm_gr (bm_si w (bm_u (bm_gr w v0 16)) ((bm_gi w v0 11)).toNat v5) v0 17 = some (bm_u (bm_gr (bm_si w (bm_u (bm_gr w v0 16)) ((bm_gi w v0 11)).toNat v5) v0 17))) ∧
  (bm_kt (bm_si w (bm_u (bm_gr w v0 16)) ((bm_gi w v0 11)).toNat v5) v0 = 12) ∧
  (bm_kt (bm_si w (bm_u (bm_gr w v0 16)) ((bm_gi w v0 11)).toNat v5) (bm_u (bm_gr (bm_si w (bm_u (bm_gr w v0 16)) ((bm_gi w v0 11)).toNat v5) v0 17)) = 21 ∧ bm_in (bm_gi (bm_si w (bm_u (bm_gr w v0 16)) ((bm_gi w v0 11)).toNat v5) v0 11) (bm_kn (bm_si w (bm_u (bm_gr w v0 16)) ((bm_gi w v0 11)).toNat v5) (bm_u (bm_gr (bm_si w (bm_u (bm_gr w v0 16)) ((bm_gi w v0 11)).toNat v5) v0 17)))) ∧
  (bm_kt (bm_si (bm_si w (bm_u (bm_gr w v0 16)) ((bm_gi w v0 11)).toNat v5) (bm_u (bm_gr (bm_si w (bm_u (bm_gr w v0 16)) ((bm_gi w v0 11)).toNat v5) v0 17)) ((bm_gi (bm_si w (bm_u (bm_gr w v0 16)) ((bm_gi w v0 11)).toNat v5) v0 11)).toNat v6) v0 = 12) ∧
  (bm_kt (bm_si (bm_si w (bm_u (bm_gr w v0 16)) ((bm_gi w v0 11)).toNat v5) (bm_u (bm_gr (bm_si w (bm_u (bm_gr w v0 16)) ((bm_gi w v0 11)).toNat v5) v0 17)) ((bm_gi (bm_si w (bm_u (bm_gr w v0 16)) ((bm_gi w v0 11)).toNat v5) v0 11)).toNat v6) v0 = 12) ∧
  (bm_kt (bm_si (bm_si (bm_si w (bm_u (bm_gr w v0 16)) ((bm_gi w v0 11)).toNat v5) (bm_u (bm_gr (bm_si w (bm_u (bm_gr w v0 16)) ((bm_gi w v0 11)).toNat v5) v0 17)) ((bm_gi (bm_si w (bm_u (bm_gr w v0 16)) ((bm_gi w v0 11)).toNat v5) v0 11)).toNat v6) v0 40 (bm_gi (bm_si (bm_si w (bm_u (bm_gr w v0 16)) ((bm_gi w v0 11)).toNat v5) (bm_u (bm_gr (bm_si w (bm_u (bm_gr w v0 16)) ((bm_gi w v0 11)).toNat v5) v0 17)) ((bm_gi (bm_si w (bm_u (bm_gr w v0 16)) ((bm_gi w v0 11)).toNat v5) v0 11)).toNat v6) v0 11)) v0 = 12) ∧
  (bm_kt (bm_si (bm_si (bm_si w (bm_u (bm_gr w v0 16)) ((bm_gi w v0 11)).toNat v5) (bm_u (bm_gr (bm_si w (bm_u (bm_gr w v0 16)) ((bm_gi w v0 11)).toNat v5) v0 17)) ((bm_gi (bm_si w (bm_u (bm_gr w v0 16)) ((bm_gi w v0 11)).toNat v5) v0 11)).toNat v6) v0 40 (bm_gi (bm_si (bm_si w (bm_u (bm_gr w v0 16)) ((bm_gi w v0 11)).toNat v5) (bm_u (bm_gr (bm_si w (bm_u (bm_gr w v0 16)) ((bm_gi w v0 11)).toNat v5) v0 17)) ((bm_gi (bm_si w (bm_u (bm_gr w v0 16)) ((bm_gi w v0 11)).toNat v5) v0 11)).toNat v6) v0 11)) v0 = 12) ∧
  bk_X12_node_81 d Φ  (bm_si (bm_si (bm_si (bm_si w (bm_u (bm_gr w v0 16)) ((bm_gi w v0 11)).toNat v5) (bm_u (bm_gr (bm_si w (bm_u (bm_gr w v0 16)) ((bm_gi w v0 11)).toNat v5) v0 17)) ((bm_gi (bm_si w (bm_u (bm_gr w v0 16)) ((bm_gi w v0 11)).toNat v5) v0 11)).toNat v6) v0 40 (bm_gi (bm_si (bm_si w (bm_u (bm_gr w v0 16)) ((bm_gi w v0 11)).toNat v5) (bm_u (bm_gr (bm_si w (bm_u (bm_gr w v0 16)) ((bm_gi w v0 11)).toNat v5) v0 17)) ((bm_gi (bm_si w (bm_u (bm_gr w v0 16)) ((bm_gi w v0 11)).toNat v5) v0 11)).toNat v6) v0 11)) v0 11 (bm_w ((bm_gi (bm_si (bm_si (bm_si w (bm_u (bm_gr w v0 16)) ((bm_gi w v0 11)).toNat v5) (bm_u (bm_gr (bm_si w (bm_u (bm_gr w v0 16)) ((bm_gi w v0 11)).toNat v5) v0 17)) ((bm_gi (bm_si w (bm_u (bm_gr w v0 16)) ((bm_gi w v0 11)).toNat v5) v0 11)).toNat v6) v0 40 (bm_gi (bm_si (bm_si w (bm_u (bm_gr w v0 16)) ((bm_gi w v0 11)).toNat v5) (bm_u (bm_gr (bm_si w (bm_u (bm_gr w v0 16)) ((bm_gi w v0 11)).toNat v5) v0 17)) ((bm_gi (bm_si w (bm_u (bm_gr w v0 16)) ((bm_gi w v0 11)).toNat v5) v0 11)).toNat v6) v0 11)) v0 11) + (1 : Int))))) : bk_X12_node_41 d Φ v0 v5 v6 w := bm_go (bm_Call_mono _ _) [41, 81] 50 _ h
set_option maxRecDepth 20000 in
theorem vb_X12_node_81 {d : Nat} {Φ : bm_Rt → bm_W → Prop}  {w : bm_W} (h :
  Φ (.inl (some (bm_i (0 : Int)))) w) : bk_X12_node_81 d Φ  w := bm_go (bm_Call_mono _ _) [41, 81] 50 _ h
/-! CaseTablesModel.expression()I -/
def bk_X12_expression_26 (d : Nat) (Φ : bm_Rt → bm_W → Prop) (v0 : Nat) (v1 : Int) (v2 : Nat) (v3 : Int) (w : bm_W) : Prop := bm_Wp (bm_Call bm_pg d) tb_X12_expression Φ (26, [some (bm_r (some v0)), some (bm_i v1), some (bm_r (some v2)), some (bm_i v3), none], [], w)
set_option maxRecDepth 20000 in
theorem vc_X12_expression {d : Nat} {Φ : bm_Rt → bm_W → Prop} {p0 : Nat} {w : bm_W} (h :
  (bm_kt w p0 = 12) ∧ bm_Call bm_pg d y_X12_sees [bm_r (some p0), bm_k (0, 17)] w (fun r1 w1 => 
    bm_c1 (fun x1 => (if (!decide (x1 = 0)) = true then
      (bm_kt w1 p0 = 12) ∧
      (0 ≤ (3 : Int) ∧ (3 : Int) ≤ 100000) ∧
      bk_X12_expression_26 d Φ p0 (bm_gi w1 p0 9) (bm_sz w1) (0 : Int) (bm_nw w1 21 ((3 : Int)).toNat ((3 : Int)).toNat)
    else
      (bm_kt w1 p0 = 12) ∧ bm_Call bm_pg d y_X12_level [bm_r (some p0), bm_i (0 : Int)] w1 (fun r2 w2 => 
        bm_c1 (fun x2 => Φ (.inl (some (bm_i x2))) w2) (fun E => Φ (.inr E) w2) r2))) (fun E => Φ (.inr E) w1) r1)) : bm_Call bm_pg (d + 1) y_X12_expression [bm_r (some p0)] w Φ := bm_enter rfl (bm_go (bm_Call_mono _ _) [26] 62 _ h)
set_option maxRecDepth 20000 in
theorem vb_X12_expression_26 {d : Nat} {Φ : bm_Rt → bm_W → Prop} {v0 : Nat} {v1 : Int} {v2 : Nat} {v3 : Int} {w : bm_W} (h :
  (if (decide ((3 : Int) ≤ v3)) = true then
    (bm_kt w v2 = 21 ∧ bm_in (0 : Int) (bm_kn w v2)) ∧
    (bm_kt w v2 = 21 ∧ bm_in (1 : Int) (bm_kn w v2)) ∧
    (bm_kt w v2 = 21 ∧ bm_in (2 : Int) (bm_kn w v2)) ∧
    (bm_kt w v0 = 12 ∧ bm_gr w v0 8 = some (bm_u (bm_gr w v0 8))) ∧
    (bm_kt w (bm_u (bm_gr w v0 8)) = 21 ∧ bm_in v1 (bm_kn w (bm_u (bm_gr w v0 8)))) ∧
    (bm_kt w v0 = 12 ∧ bm_gr w v0 7 = some (bm_u (bm_gr w v0 7))) ∧
    (bm_kt w (bm_u (bm_gr w v0 7)) = 21 ∧ bm_in v1 (bm_kn w (bm_u (bm_gr w v0 7)))) ∧
    (bm_kt w v0 = 12) ∧ bm_Call bm_pg d y_X12_node [bm_r (some v0), bm_i (6 : Int), bm_i (bm_gi w v2 ((0 : Int)).toNat), bm_i (bm_gi w v2 ((1 : Int)).toNat), bm_i (bm_gi w v2 ((2 : Int)).toNat), bm_i (bm_gi w (bm_u (bm_gr w v0 8)) (v1).toNat), bm_i (bm_gi w (bm_u (bm_gr w v0 7)) (v1).toNat)] w (fun r1 w1 => 
      bm_c1 (fun x1 => Φ (.inl (some (bm_i x1))) w1) (fun E => Φ (.inr E) w1) r1)
  else
    (bm_kt w v0 = 12) ∧
    (bm_kt w v0 = 12) ∧
    (bm_kt (bm_si w v0 9 (bm_w ((bm_gi w v0 9) + (1 : Int)))) v0 = 12) ∧ bm_Call bm_pg d y_X12_expression [bm_r (some v0)] (bm_si w v0 9 (bm_w ((bm_gi w v0 9) + (1 : Int)))) (fun r2 w2 => 
      bm_c1 (fun x2 => (if (decide (x2 = 0)) = true then
        (bm_kt w2 v0 = 12) ∧
        (bm_kt w2 v2 = 21 ∧ bm_in v3 (bm_kn w2 v2)) ∧
        bk_X12_expression_26 d Φ v0 v1 v2 (bm_w (v3 + 1)) (bm_si w2 v2 (v3).toNat (bm_gi w2 v0 40))
      else
        Φ (.inl (some (bm_i x2))) w2)) (fun E => Φ (.inr E) w2) r2))) : bk_X12_expression_26 d Φ v0 v1 v2 v3 w := bm_go (bm_Call_mono _ _) [26] 62 _ h
/-! CaseTablesModel.level(I)I -/
def bk_X12_level_58 (d : Nat) (Φ : bm_Rt → bm_W → Prop) (v0 : Nat) (v1 : Int) (v2 : Int) (v3 : Int) (w : bm_W) : Prop := bm_Wp (bm_Call bm_pg d) tb_X12_level Φ (58, [some (bm_r (some v0)), some (bm_i v1), some (bm_i v2), some (bm_i v3), none, none], [], w)
set_option maxRecDepth 20000 in
theorem vc_X12_level {d : Nat} {Φ : bm_Rt → bm_W → Prop} {p0 : Nat} {p1 : Int} {w : bm_W} (h :
  (if (!decide (p1 = (13 : Int))) = true then
    (if (!decide (p1 = 0)) = true then
      (if (!decide (p1 = (1 : Int))) = true then
        (if (!decide (p1 = (2 : Int))) = true then
          (if (!decide (p1 = (8 : Int))) = true then
            (bm_kt w p0 = 12) ∧ bm_Call bm_pg d y_X12_level [bm_r (some p0), bm_i (13 : Int)] w (fun r1 w1 => 
              bm_c1 (fun x1 => bk_X12_level_58 d Φ p0 p1 (13 : Int) x1 w1) (fun E => Φ (.inr E) w1) r1)
          else
            (bm_kt w p0 = 12) ∧ bm_Call bm_pg d y_X12_level [bm_r (some p0), bm_i (10 : Int)] w (fun r2 w2 => 
              bm_c1 (fun x2 => bk_X12_level_58 d Φ p0 p1 (10 : Int) x2 w2) (fun E => Φ (.inr E) w2) r2))
        else
          (bm_kt w p0 = 12) ∧ bm_Call bm_pg d y_X12_level [bm_r (some p0), bm_i (8 : Int)] w (fun r3 w3 => 
            bm_c1 (fun x3 => bk_X12_level_58 d Φ p0 p1 (8 : Int) x3 w3) (fun E => Φ (.inr E) w3) r3))
      else
        (bm_kt w p0 = 12) ∧ bm_Call bm_pg d y_X12_level [bm_r (some p0), bm_i (2 : Int)] w (fun r4 w4 => 
          bm_c1 (fun x4 => bk_X12_level_58 d Φ p0 p1 (2 : Int) x4 w4) (fun E => Φ (.inr E) w4) r4))
    else
      (bm_kt w p0 = 12) ∧ bm_Call bm_pg d y_X12_level [bm_r (some p0), bm_i (1 : Int)] w (fun r5 w5 => 
        bm_c1 (fun x5 => bk_X12_level_58 d Φ p0 p1 (1 : Int) x5 w5) (fun E => Φ (.inr E) w5) r5))
  else
    (bm_kt w p0 = 12) ∧ bm_Call bm_pg d y_X12_factor [bm_r (some p0)] w (fun r6 w6 => 
      bm_c1 (fun x6 => Φ (.inl (some (bm_i x6))) w6) (fun E => Φ (.inr E) w6) r6))) : bm_Call bm_pg (d + 1) y_X12_level [bm_r (some p0), bm_i p1] w Φ := bm_enter rfl (bm_go (bm_Call_mono _ _) [58] 81 _ h)
set_option maxRecDepth 20000 in
theorem vb_X12_level_58 {d : Nat} {Φ : bm_Rt → bm_W → Prop} {v0 : Nat} {v1 : Int} {v2 : Int} {v3 : Int} {w : bm_W} (h :
  (if (!decide (v3 = 0)) = true then
    Φ (.inl (some (bm_i v3))) w
  else
    (bm_kt w v0 = 12) ∧
    (bm_kt w v0 = 12) ∧ bm_Call bm_pg d y_X12_operator [bm_r (some v0), bm_i (bm_gi w v0 9), bm_i v1, bm_i v2] w (fun r1 w1 => 
      bm_c1 (fun x1 => (if (decide (x1 = (-1 : Int))) = true then
        Φ (.inl (some (bm_i v3))) w1
      else
        (bm_kt w1 v0 = 12) ∧
        (bm_kt w1 v0 = 12) ∧
        (bm_kt w1 v0 = 12) ∧
        (bm_kt w1 v0 = 12) ∧
        (bm_kt (bm_si w1 v0 9 (bm_w ((bm_gi w1 v0 9) + (1 : Int)))) v0 = 12) ∧ bm_Call bm_pg d y_X12_level [bm_r (some v0), bm_i v2] (bm_si w1 v0 9 (bm_w ((bm_gi w1 v0 9) + (1 : Int)))) (fun r2 w2 => 
          bm_c1 (fun x2 => (if (!decide (x2 = 0)) = true then
            bk_X12_level_58 d Φ v0 v1 v2 x2 w2
          else
            (bm_kt w2 v0 = 12) ∧
            (bm_kt w2 v0 = 12) ∧ bm_Call bm_pg d y_X12_operator [bm_r (some v0), bm_i (bm_gi w1 v0 9), bm_i v1, bm_i v2] w2 (fun r3 w3 => 
              bm_c1 (fun x3 => (bm_kt w3 v0 = 12 ∧ bm_gr w3 v0 7 = some (bm_u (bm_gr w3 v0 7))) ∧
              (bm_kt w3 (bm_u (bm_gr w3 v0 7)) = 21 ∧ bm_in (bm_gi w1 v0 9) (bm_kn w3 (bm_u (bm_gr w3 v0 7)))) ∧
              (bm_kt w3 v0 = 12) ∧ bm_Call bm_pg d y_X12_node [bm_r (some v0), bm_i (5 : Int), bm_i (bm_gi w1 v0 40), bm_i (bm_gi w2 v0 40), bm_i (-1 : Int), bm_i x3, bm_i (bm_gi w3 (bm_u (bm_gr w3 v0 7)) ((bm_gi w1 v0 9)).toNat)] w3 (fun r4 w4 => 
                bm_c1 (fun x4 => bk_X12_level_58 d Φ v0 v1 v2 x2 w4) (fun E => Φ (.inr E) w4) r4)) (fun E => Φ (.inr E) w3) r3))) (fun E => Φ (.inr E) w2) r2))) (fun E => Φ (.inr E) w1) r1))) : bk_X12_level_58 d Φ v0 v1 v2 v3 w := bm_go (bm_Call_mono _ _) [58] 81 _ h
/-! CaseTablesModel.factor()I -/
set_option maxRecDepth 20000 in
theorem vc_X12_factor {d : Nat} {Φ : bm_Rt → bm_W → Prop} {p0 : Nat} {w : bm_W} (h :
  (bm_kt w p0 = 12) ∧
  (bm_kt w p0 = 12) ∧
  (bm_kt w p0 = 12) ∧
  (bm_kt (bm_si w p0 9 (bm_w ((bm_gi w p0 9) + (1 : Int)))) p0 = 12 ∧ bm_gr (bm_si w p0 9 (bm_w ((bm_gi w p0 9) + (1 : Int)))) p0 4 = some (bm_u (bm_gr (bm_si w p0 9 (bm_w ((bm_gi w p0 9) + (1 : Int)))) p0 4))) ∧
  (bm_kt (bm_si w p0 9 (bm_w ((bm_gi w p0 9) + (1 : Int)))) (bm_u (bm_gr (bm_si w p0 9 (bm_w ((bm_gi w p0 9) + (1 : Int)))) p0 4)) = 21 ∧ bm_in (bm_gi w p0 9) (bm_kn (bm_si w p0 9 (bm_w ((bm_gi w p0 9) + (1 : Int)))) (bm_u (bm_gr (bm_si w p0 9 (bm_w ((bm_gi w p0 9) + (1 : Int)))) p0 4)))) ∧
  (if (!decide ((bm_gi (bm_si w p0 9 (bm_w ((bm_gi w p0 9) + (1 : Int)))) (bm_u (bm_gr (bm_si w p0 9 (bm_w ((bm_gi w p0 9) + (1 : Int)))) p0 4)) ((bm_gi w p0 9)).toNat) = (2 : Int))) = true then
    (bm_kt (bm_si w p0 9 (bm_w ((bm_gi w p0 9) + (1 : Int)))) p0 = 12) ∧ bm_Call bm_pg d y_X12_isName [bm_r (some p0), bm_i (bm_gi w p0 9)] (bm_si w p0 9 (bm_w ((bm_gi w p0 9) + (1 : Int)))) (fun r1 w1 => 
      bm_c1 (fun x1 => (if (decide (x1 = 0)) = true then
        (bm_kt w1 p0 = 12) ∧ bm_Call bm_pg d y_X12_is [bm_r (some p0), bm_i (bm_gi w p0 9), bm_k (0, 3)] w1 (fun r2 w2 => 
          bm_c1 (fun x2 => (if (decide (x2 = 0)) = true then
            (bm_kt w2 p0 = 12) ∧ bm_Call bm_pg d y_X12_factor [bm_r (some p0)] w2 (fun r3 w3 => 
              bm_c1 (fun x3 => (if (!decide (x3 = 0)) = true then
                Φ (.inl (some (bm_i x3))) w3
              else
                (bm_kt w3 p0 = 12) ∧ bm_Call bm_pg d y_X12_is [bm_r (some p0), bm_i (bm_gi w p0 9), bm_k (0, 1)] w3 (fun r4 w4 => 
                  bm_c1 (fun x4 => (if (decide (x4 = 0)) = true then
                    (bm_kt w4 p0 = 12) ∧
                    (bm_kt w4 p0 = 12) ∧ bm_Call bm_pg d y_X12_node [bm_r (some p0), bm_i (4 : Int), bm_i (bm_gi w4 p0 40), bm_i (-1 : Int), bm_i (-1 : Int), bm_i (0 : Int), bm_i (-1 : Int)] w4 (fun r5 w5 => 
                      bm_c1 (fun x5 => Φ (.inl (some (bm_i x5))) w5) (fun E => Φ (.inr E) w5) r5)
                  else
                    (bm_kt w4 p0 = 12) ∧
                    (bm_kt w4 p0 = 12) ∧ bm_Call bm_pg d y_X12_node [bm_r (some p0), bm_i (3 : Int), bm_i (bm_gi w4 p0 40), bm_i (-1 : Int), bm_i (-1 : Int), bm_i (0 : Int), bm_i (-1 : Int)] w4 (fun r6 w6 => 
                      bm_c1 (fun x6 => Φ (.inl (some (bm_i x6))) w6) (fun E => Φ (.inr E) w6) r6))) (fun E => Φ (.inr E) w4) r4))) (fun E => Φ (.inr E) w3) r3)
          else
            (bm_kt w2 p0 = 12) ∧ bm_Call bm_pg d y_X12_expression [bm_r (some p0)] w2 (fun r7 w7 => 
              bm_c1 (fun x7 => (bm_kt w7 p0 = 12) ∧
              (bm_kt w7 p0 = 12) ∧
              Φ (.inl (some (bm_i x7))) (bm_si w7 p0 9 (bm_w ((bm_gi w7 p0 9) + (1 : Int))))) (fun E => Φ (.inr E) w7) r7))) (fun E => Φ (.inr E) w2) r2)
      else
        (bm_kt w1 p0 = 12) ∧ bm_Call bm_pg d y_X12_sees [bm_r (some p0), bm_k (0, 3)] w1 (fun r8 w8 => 
          bm_c1 (fun x8 => (if (decide (x8 = 0)) = true then
            (bm_kt w8 p0 = 12) ∧ bm_Call bm_pg d y_X12_inputNamed [bm_r (some p0), bm_i (bm_gi w p0 9)] w8 (fun r9 w9 => 
              bm_c1 (fun x9 => Φ (.inl (some (bm_i x9))) w9) (fun E => Φ (.inr E) w9) r9)
          else
            (bm_kt w8 p0 = 12) ∧ bm_Call bm_pg d y_X12_call [bm_r (some p0), bm_i (bm_gi w p0 9)] w8 (fun r10 w10 => 
              bm_c1 (fun x10 => Φ (.inl (some (bm_i x10))) w10) (fun E => Φ (.inr E) w10) r10))) (fun E => Φ (.inr E) w8) r8))) (fun E => Φ (.inr E) w1) r1)
  else
    (bm_kt (bm_si w p0 9 (bm_w ((bm_gi w p0 9) + (1 : Int)))) p0 = 12) ∧ bm_Call bm_pg d y_X12_numberOf [bm_r (some p0), bm_i (bm_gi w p0 9)] (bm_si w p0 9 (bm_w ((bm_gi w p0 9) + (1 : Int)))) (fun r11 w11 => 
      bm_c1 (fun x11 => (bm_kt w11 p0 = 12 ∧ bm_gr w11 p0 7 = some (bm_u (bm_gr w11 p0 7))) ∧
      (bm_kt w11 (bm_u (bm_gr w11 p0 7)) = 21 ∧ bm_in (bm_gi w p0 9) (bm_kn w11 (bm_u (bm_gr w11 p0 7)))) ∧
      (bm_kt w11 p0 = 12) ∧ bm_Call bm_pg d y_X12_node [bm_r (some p0), bm_i (0 : Int), bm_i (-1 : Int), bm_i (-1 : Int), bm_i (-1 : Int), bm_i x11, bm_i (bm_gi w11 (bm_u (bm_gr w11 p0 7)) ((bm_gi w p0 9)).toNat)] w11 (fun r12 w12 => 
        bm_c1 (fun x12 => Φ (.inl (some (bm_i x12))) w12) (fun E => Φ (.inr E) w12) r12)) (fun E => Φ (.inr E) w11) r11))) : bm_Call bm_pg (d + 1) y_X12_factor [bm_r (some p0)] w Φ := bm_enter rfl (bm_go (bm_Call_mono _ _) [] 87 _ h)
/-! CaseTablesModel.inputNamed(I)I -/
set_option maxRecDepth 20000 in
theorem vc_X12_inputNamed {d : Nat} {Φ : bm_Rt → bm_W → Prop} {p0 : Nat} {p1 : Int} {w : bm_W} (h :
  (bm_kt w p0 = 12 ∧ bm_gr w p0 21 = some (bm_u (bm_gr w p0 21))) ∧
  (bm_kt w p0 = 12) ∧
  (bm_kt w p0 = 12 ∧ bm_gr w p0 20 = some (bm_u (bm_gr w p0 20))) ∧
  (bm_kt w p0 = 12) ∧
  (bm_kt w (bm_u (bm_gr w p0 20)) = 21 ∧ bm_in (bm_gi w p0 18) (bm_kn w (bm_u (bm_gr w p0 20)))) ∧
  (bm_kt w p0 = 12) ∧ bm_Call bm_pg d y_X12_nameOf [bm_r (some p0), bm_i p1] w (fun r1 w1 => 
    bm_c2 (fun x1 => (True) ∧ bm_Call bm_pg d y_X12_find [bm_r (some (bm_u (bm_gr w p0 21))), bm_i (bm_w ((3 : Int) * (bm_gi w p0 18))), bm_i (bm_gi w (bm_u (bm_gr w p0 20)) ((bm_gi w p0 18)).toNat), bm_l x1] w1 (fun r2 w2 => 
      bm_c1 (fun x2 => (if (!decide (x2 = (-1 : Int))) = true then
        (bm_kt w2 p0 = 12) ∧ bm_Call bm_pg d y_X12_node [bm_r (some p0), bm_i (1 : Int), bm_i (-1 : Int), bm_i (-1 : Int), bm_i (-1 : Int), bm_i x2, bm_i (-1 : Int)] w2 (fun r3 w3 => 
          bm_c1 (fun x3 => Φ (.inl (some (bm_i x3))) w3) (fun E => Φ (.inr E) w3) r3)
      else
        (bm_kt w2 p0 = 12) ∧ bm_Call bm_pg d y_X12_wrong [bm_r (some p0), bm_i (2 : Int), bm_i p1] w2 (fun r4 w4 => 
          bm_c1 (fun x4 => Φ (.inl (some (bm_i x4))) w4) (fun E => Φ (.inr E) w4) r4))) (fun E => Φ (.inr E) w2) r2)) (fun E => Φ (.inr E) w1) r1)) : bm_Call bm_pg (d + 1) y_X12_inputNamed [bm_r (some p0), bm_i p1] w Φ := bm_enter rfl (bm_go (bm_Call_mono _ _) [] 35 _ h)
/-! CaseTablesModel.call(I)I -/
def bk_X12_call_46 (d : Nat) (Φ : bm_Rt → bm_W → Prop) (v0 : Nat) (v1 : Int) (v2 : Int) (v3 : Nat) (w : bm_W) : Prop := bm_Wp (bm_Call bm_pg d) tb_X12_call Φ (46, [some (bm_r (some v0)), some (bm_i v1), some (bm_i v2), some (bm_r (some v3)), none, none], [], w)
def bk_X12_call_49 (d : Nat) (Φ : bm_Rt → bm_W → Prop) (v0 : Nat) (v1 : Int) (v2 : Int) (v3 : Nat) (v4 : Int) (w : bm_W) : Prop := bm_Wp (bm_Call bm_pg d) tb_X12_call Φ (49, [some (bm_r (some v0)), some (bm_i v1), some (bm_i v2), some (bm_r (some v3)), some (bm_i v4), none], [], w)
def bk_X12_call_87 (d : Nat) (Φ : bm_Rt → bm_W → Prop) (v0 : Nat) (v1 : Int) (v2 : Int) (v3 : Nat) (v4 : Int) (w : bm_W) : Prop := bm_Wp (bm_Call bm_pg d) tb_X12_call Φ (87, [some (bm_r (some v0)), some (bm_i v1), some (bm_i v2), some (bm_r (some v3)), some (bm_i v4), none], [], w)
set_option maxRecDepth 20000 in
theorem vc_X12_call {d : Nat} {Φ : bm_Rt → bm_W → Prop} {p0 : Nat} {p1 : Int} {w : bm_W} (h :
  (bm_kt w p0 = 12 ∧ bm_gr w p0 19 = some (bm_u (bm_gr w p0 19))) ∧
  (bm_kt w p0 = 12) ∧
  (bm_kt w p0 = 12) ∧ bm_Call bm_pg d y_X12_nameOf [bm_r (some p0), bm_i p1] w (fun r1 w1 => 
    bm_c2 (fun x1 => (True) ∧ bm_Call bm_pg d y_X12_find [bm_r (some (bm_u (bm_gr w p0 19))), bm_i (0 : Int), bm_i (bm_gi w p0 18), bm_l x1] w1 (fun r2 w2 => 
      bm_c1 (fun x2 => (if (!decide (x2 = (-1 : Int))) = true then
        (0 ≤ (3 : Int) ∧ (3 : Int) ≤ 100000) ∧
        (bm_kt (bm_nw w2 21 ((3 : Int)).toNat ((3 : Int)).toNat) (bm_sz w2) = 21 ∧ bm_in (0 : Int) (bm_kn (bm_nw w2 21 ((3 : Int)).toNat ((3 : Int)).toNat) (bm_sz w2))) ∧
        (bm_kt (bm_si (bm_nw w2 21 ((3 : Int)).toNat ((3 : Int)).toNat) (bm_sz w2) ((0 : Int)).toNat (-1 : Int)) (bm_sz w2) = 21 ∧ bm_in (1 : Int) (bm_kn (bm_si (bm_nw w2 21 ((3 : Int)).toNat ((3 : Int)).toNat) (bm_sz w2) ((0 : Int)).toNat (-1 : Int)) (bm_sz w2))) ∧
        (bm_kt (bm_si (bm_si (bm_nw w2 21 ((3 : Int)).toNat ((3 : Int)).toNat) (bm_sz w2) ((0 : Int)).toNat (-1 : Int)) (bm_sz w2) ((1 : Int)).toNat (-1 : Int)) (bm_sz w2) = 21 ∧ bm_in (2 : Int) (bm_kn (bm_si (bm_si (bm_nw w2 21 ((3 : Int)).toNat ((3 : Int)).toNat) (bm_sz w2) ((0 : Int)).toNat (-1 : Int)) (bm_sz w2) ((1 : Int)).toNat (-1 : Int)) (bm_sz w2))) ∧
        bk_X12_call_46 d Φ p0 p1 x2 (bm_sz w2) (bm_si (bm_si (bm_si (bm_nw w2 21 ((3 : Int)).toNat ((3 : Int)).toNat) (bm_sz w2) ((0 : Int)).toNat (-1 : Int)) (bm_sz w2) ((1 : Int)).toNat (-1 : Int)) (bm_sz w2) ((2 : Int)).toNat (-1 : Int))
      else
        (bm_kt w2 p0 = 12) ∧ bm_Call bm_pg d y_X12_wrong [bm_r (some p0), bm_i (2 : Int), bm_i p1] w2 (fun r3 w3 => 
          bm_c1 (fun x3 => Φ (.inl (some (bm_i x3))) w3) (fun E => Φ (.inr E) w3) r3))) (fun E => Φ (.inr E) w2) r2)) (fun E => Φ (.inr E) w1) r1)) : bm_Call bm_pg (d + 1) y_X12_call [bm_r (some p0), bm_i p1] w Φ := bm_enter rfl (bm_go (bm_Call_mono _ _) [46, 49, 87] 107 _ h)
set_option maxRecDepth 20000 in
theorem vb_X12_call_46 {d : Nat} {Φ : bm_Rt → bm_W → Prop} {v0 : Nat} {v1 : Int} {v2 : Int} {v3 : Nat} {w : bm_W} (h :
  bk_X12_call_49 d Φ v0 v1 v2 v3 (0 : Int) w) : bk_X12_call_46 d Φ v0 v1 v2 v3 w := bm_go (bm_Call_mono _ _) [46, 49, 87] 107 _ h
set_option maxRecDepth 20000 in
theorem vb_X12_call_49 {d : Nat} {Φ : bm_Rt → bm_W → Prop} {v0 : Nat} {v1 : Int} {v2 : Int} {v3 : Nat} {v4 : Int} {w : bm_W} (h :
  (bm_kt w v0 = 12) ∧
  (bm_kt w v0 = 12) ∧
  (bm_kt (bm_si w v0 9 (bm_w ((bm_gi w v0 9) + (1 : Int)))) v0 = 12) ∧ bm_Call bm_pg d y_X12_expression [bm_r (some v0)] (bm_si w v0 9 (bm_w ((bm_gi w v0 9) + (1 : Int)))) (fun r1 w1 => 
    bm_c1 (fun x1 => (if (decide (x1 = 0)) = true then
      (if (decide ((3 : Int) ≤ v4)) = true then
        bk_X12_call_87 d Φ v0 v1 v2 v3 v4 w1
      else
        (bm_kt w1 v0 = 12) ∧
        (bm_kt w1 v3 = 21 ∧ bm_in v4 (bm_kn w1 v3)) ∧
        bk_X12_call_87 d Φ v0 v1 v2 v3 v4 (bm_si w1 v3 (v4).toNat (bm_gi w1 v0 40)))
    else
      Φ (.inl (some (bm_i x1))) w1)) (fun E => Φ (.inr E) w1) r1)) : bk_X12_call_49 d Φ v0 v1 v2 v3 v4 w := bm_go (bm_Call_mono _ _) [46, 49, 87] 107 _ h
set_option maxRecDepth 20000 in
theorem vb_X12_call_87 {d : Nat} {Φ : bm_Rt → bm_W → Prop} {v0 : Nat} {v1 : Int} {v2 : Int} {v3 : Nat} {v4 : Int} {w : bm_W} (h :
  (bm_kt w v0 = 12) ∧ bm_Call bm_pg d y_X12_sees [bm_r (some v0), bm_k (0, 12)] w (fun r1 w1 => 
    bm_c1 (fun x1 => (if (!decide (x1 = 0)) = true then
      bk_X12_call_49 d Φ v0 v1 v2 v3 (bm_w (v4 + 1)) w1
    else
      (bm_kt w1 v0 = 12) ∧
      (bm_kt w1 v0 = 12) ∧
      (bm_kt (bm_si w1 v0 9 (bm_w ((bm_gi w1 v0 9) + (1 : Int)))) v0 = 12 ∧ bm_gr (bm_si w1 v0 9 (bm_w ((bm_gi w1 v0 9) + (1 : Int)))) v0 20 = some (bm_u (bm_gr (bm_si w1 v0 9 (bm_w ((bm_gi w1 v0 9) + (1 : Int)))) v0 20))) ∧
      (bm_kt (bm_si w1 v0 9 (bm_w ((bm_gi w1 v0 9) + (1 : Int)))) (bm_u (bm_gr (bm_si w1 v0 9 (bm_w ((bm_gi w1 v0 9) + (1 : Int)))) v0 20)) = 21 ∧ bm_in v2 (bm_kn (bm_si w1 v0 9 (bm_w ((bm_gi w1 v0 9) + (1 : Int)))) (bm_u (bm_gr (bm_si w1 v0 9 (bm_w ((bm_gi w1 v0 9) + (1 : Int)))) v0 20)))) ∧
      (if (decide ((bm_w (v4 + 1)) = (bm_gi (bm_si w1 v0 9 (bm_w ((bm_gi w1 v0 9) + (1 : Int)))) (bm_u (bm_gr (bm_si w1 v0 9 (bm_w ((bm_gi w1 v0 9) + (1 : Int)))) v0 20)) (v2).toNat))) = true then
        (bm_kt (bm_si w1 v0 9 (bm_w ((bm_gi w1 v0 9) + (1 : Int)))) v0 = 12 ∧ bm_gr (bm_si w1 v0 9 (bm_w ((bm_gi w1 v0 9) + (1 : Int)))) v0 26 = some (bm_u (bm_gr (bm_si w1 v0 9 (bm_w ((bm_gi w1 v0 9) + (1 : Int)))) v0 26))) ∧
        (bm_kt (bm_si w1 v0 9 (bm_w ((bm_gi w1 v0 9) + (1 : Int)))) v0 = 12) ∧
        (bm_kt (bm_si w1 v0 9 (bm_w ((bm_gi w1 v0 9) + (1 : Int)))) (bm_u (bm_gr (bm_si w1 v0 9 (bm_w ((bm_gi w1 v0 9) + (1 : Int)))) v0 26)) = 21 ∧ bm_in (bm_gi (bm_si w1 v0 9 (bm_w ((bm_gi w1 v0 9) + (1 : Int)))) v0 18) (bm_kn (bm_si w1 v0 9 (bm_w ((bm_gi w1 v0 9) + (1 : Int)))) (bm_u (bm_gr (bm_si w1 v0 9 (bm_w ((bm_gi w1 v0 9) + (1 : Int)))) v0 26)))) ∧
        (bm_kt (bm_si w1 v0 9 (bm_w ((bm_gi w1 v0 9) + (1 : Int)))) v0 = 12 ∧ bm_gr (bm_si w1 v0 9 (bm_w ((bm_gi w1 v0 9) + (1 : Int)))) v0 26 = some (bm_u (bm_gr (bm_si w1 v0 9 (bm_w ((bm_gi w1 v0 9) + (1 : Int)))) v0 26))) ∧
        (bm_kt (bm_si w1 v0 9 (bm_w ((bm_gi w1 v0 9) + (1 : Int)))) (bm_u (bm_gr (bm_si w1 v0 9 (bm_w ((bm_gi w1 v0 9) + (1 : Int)))) v0 26)) = 21 ∧ bm_in v2 (bm_kn (bm_si w1 v0 9 (bm_w ((bm_gi w1 v0 9) + (1 : Int)))) (bm_u (bm_gr (bm_si w1 v0 9 (bm_w ((bm_gi w1 v0 9) + (1 : Int)))) v0 26)))) ∧
        (bm_kt (bm_si w1 v0 9 (bm_w ((bm_gi w1 v0 9) + (1 : Int)))) (bm_u (bm_gr (bm_si w1 v0 9 (bm_w ((bm_gi w1 v0 9) + (1 : Int)))) v0 26)) = 21 ∧ bm_in (bm_gi (bm_si w1 v0 9 (bm_w ((bm_gi w1 v0 9) + (1 : Int)))) v0 18) (bm_kn (bm_si w1 v0 9 (bm_w ((bm_gi w1 v0 9) + (1 : Int)))) (bm_u (bm_gr (bm_si w1 v0 9 (bm_w ((bm_gi w1 v0 9) + (1 : Int)))) v0 26)))) ∧
        (bm_kt (bm_si (bm_si w1 v0 9 (bm_w ((bm_gi w1 v0 9) + (1 : Int)))) (bm_u (bm_gr (bm_si w1 v0 9 (bm_w ((bm_gi w1 v0 9) + (1 : Int)))) v0 26)) ((bm_gi (bm_si w1 v0 9 (bm_w ((bm_gi w1 v0 9) + (1 : Int)))) v0 18)).toNat (bm_w ((bm_gi (bm_si w1 v0 9 (bm_w ((bm_gi w1 v0 9) + (1 : Int)))) (bm_u (bm_gr (bm_si w1 v0 9 (bm_w ((bm_gi w1 v0 9) + (1 : Int)))) v0 26)) ((bm_gi (bm_si w1 v0 9 (bm_w ((bm_gi w1 v0 9) + (1 : Int)))) v0 18)).toNat) + (bm_gi (bm_si w1 v0 9 (bm_w ((bm_gi w1 v0 9) + (1 : Int)))) (bm_u (bm_gr (bm_si w1 v0 9 (bm_w ((bm_gi w1 v0 9) + (1 : Int)))) v0 26)) (v2).toNat)))) v3 = 21 ∧ bm_in (0 : Int) (bm_kn (bm_si (bm_si w1 v0 9 (bm_w ((bm_gi w1 v0 9) + (1 : Int)))) (bm_u (bm_gr (bm_si w1 v0 9 (bm_w ((bm_gi w1 v0 9) + (1 : Int)))) v0 26)) ((bm_gi (bm_si w1 v0 9 (bm_w ((bm_gi w1 v0 9) + (1 : Int)))) v0 18)).toNat (bm_w ((bm_gi (bm_si w1 v0 9 (bm_w ((bm_gi w1 v0 9) + (1 : Int)))) (bm_u (bm_gr (bm_si w1 v0 9 (bm_w ((bm_gi w1 v0 9) + (1 : Int)))) v0 26)) ((bm_gi (bm_si w1 v0 9 (bm_w ((bm_gi w1 v0 9) + (1 : Int)))) v0 18)).toNat) + (bm_gi (bm_si w1 v0 9 (bm_w ((bm_gi w1 v0 9) + (1 : Int)))) (bm_u (bm_gr (bm_si w1 v0 9 (bm_w ((bm_gi w1 v0 9) + (1 : Int)))) v0 26)) (v2).toNat)))) v3)) ∧
        (bm_kt (bm_si (bm_si w1 v0 9 (bm_w ((bm_gi w1 v0 9) + (1 : Int)))) (bm_u (bm_gr (bm_si w1 v0 9 (bm_w ((bm_gi w1 v0 9) + (1 : Int)))) v0 26)) ((bm_gi (bm_si w1 v0 9 (bm_w ((bm_gi w1 v0 9) + (1 : Int)))) v0 18)).toNat (bm_w ((bm_gi (bm_si w1 v0 9 (bm_w ((bm_gi w1 v0 9) + (1 : Int)))) (bm_u (bm_gr (bm_si w1 v0 9 (bm_w ((bm_gi w1 v0 9) + (1 : Int)))) v0 26)) ((bm_gi (bm_si w1 v0 9 (bm_w ((bm_gi w1 v0 9) + (1 : Int)))) v0 18)).toNat) + (bm_gi (bm_si w1 v0 9 (bm_w ((bm_gi w1 v0 9) + (1 : Int)))) (bm_u (bm_gr (bm_si w1 v0 9 (bm_w ((bm_gi w1 v0 9) + (1 : Int)))) v0 26)) (v2).toNat)))) v3 = 21 ∧ bm_in (1 : Int) (bm_kn (bm_si (bm_si w1 v0 9 (bm_w ((bm_gi w1 v0 9) + (1 : Int)))) (bm_u (bm_gr (bm_si w1 v0 9 (bm_w ((bm_gi w1 v0 9) + (1 : Int)))) v0 26)) ((bm_gi (bm_si w1 v0 9 (bm_w ((bm_gi w1 v0 9) + (1 : Int)))) v0 18)).toNat (bm_w ((bm_gi (bm_si w1 v0 9 (bm_w ((bm_gi w1 v0 9) + (1 : Int)))) (bm_u (bm_gr (bm_si w1 v0 9 (bm_w ((bm_gi w1 v0 9) + (1 : Int)))) v0 26)) ((bm_gi (bm_si w1 v0 9 (bm_w ((bm_gi w1 v0 9) + (1 : Int)))) v0 18)).toNat) + (bm_gi (bm_si w1 v0 9 (bm_w ((bm_gi w1 v0 9) + (1 : Int)))) (bm_u (bm_gr (bm_si w1 v0 9 (bm_w ((bm_gi w1 v0 9) + (1 : Int)))) v0 26)) (v2).toNat)))) v3)) ∧
        (bm_kt (bm_si (bm_si w1 v0 9 (bm_w ((bm_gi w1 v0 9) + (1 : Int)))) (bm_u (bm_gr (bm_si w1 v0 9 (bm_w ((bm_gi w1 v0 9) + (1 : Int)))) v0 26)) ((bm_gi (bm_si w1 v0 9 (bm_w ((bm_gi w1 v0 9) + (1 : Int)))) v0 18)).toNat (bm_w ((bm_gi (bm_si w1 v0 9 (bm_w ((bm_gi w1 v0 9) + (1 : Int)))) (bm_u (bm_gr (bm_si w1 v0 9 (bm_w ((bm_gi w1 v0 9) + (1 : Int)))) v0 26)) ((bm_gi (bm_si w1 v0 9 (bm_w ((bm_gi w1 v0 9) + (1 : Int)))) v0 18)).toNat) + (bm_gi (bm_si w1 v0 9 (bm_w ((bm_gi w1 v0 9) + (1 : Int)))) (bm_u (bm_gr (bm_si w1 v0 9 (bm_w ((bm_gi w1 v0 9) + (1 : Int)))) v0 26)) (v2).toNat)))) v3 = 21 ∧ bm_in (2 : Int) (bm_kn (bm_si (bm_si w1 v0 9 (bm_w ((bm_gi w1 v0 9) + (1 : Int)))) (bm_u (bm_gr (bm_si w1 v0 9 (bm_w ((bm_gi w1 v0 9) + (1 : Int)))) v0 26)) ((bm_gi (bm_si w1 v0 9 (bm_w ((bm_gi w1 v0 9) + (1 : Int)))) v0 18)).toNat (bm_w ((bm_gi (bm_si w1 v0 9 (bm_w ((bm_gi w1 v0 9) + (1 : Int)))) (bm_u (bm_gr (bm_si w1 v0 9 (bm_w ((bm_gi w1 v0 9) + (1 : Int)))) v0 26)) ((bm_gi (bm_si w1 v0 9 (bm_w ((bm_gi w1 v0 9) + (1 : Int)))) v0 18)).toNat) + (bm_gi (bm_si w1 v0 9 (bm_w ((bm_gi w1 v0 9) + (1 : Int)))) (bm_u (bm_gr (bm_si w1 v0 9 (bm_w ((bm_gi w1 v0 9) + (1 : Int)))) v0 26)) (v2).toNat)))) v3)) ∧
        (bm_kt (bm_si (bm_si w1 v0 9 (bm_w ((bm_gi w1 v0 9) + (1 : Int)))) (bm_u (bm_gr (bm_si w1 v0 9 (bm_w ((bm_gi w1 v0 9) + (1 : Int)))) v0 26)) ((bm_gi (bm_si w1 v0 9 (bm_w ((bm_gi w1 v0 9) + (1 : Int)))) v0 18)).toNat (bm_w ((bm_gi (bm_si w1 v0 9 (bm_w ((bm_gi w1 v0 9) + (1 : Int)))) (bm_u (bm_gr (bm_si w1 v0 9 (bm_w ((bm_gi w1 v0 9) + (1 : Int)))) v0 26)) ((bm_gi (bm_si w1 v0 9 (bm_w ((bm_gi w1 v0 9) + (1 : Int)))) v0 18)).toNat) + (bm_gi (bm_si w1 v0 9 (bm_w ((bm_gi w1 v0 9) + (1 : Int)))) (bm_u (bm_gr (bm_si w1 v0 9 (bm_w ((bm_gi w1 v0 9) + (1 : Int)))) v0 26)) (v2).toNat)))) v0 = 12) ∧ bm_Call bm_pg d y_X12_node [bm_r (some v0), bm_i (2 : Int), bm_i (bm_gi (bm_si (bm_si w1 v0 9 (bm_w ((bm_gi w1 v0 9) + (1 : Int)))) (bm_u (bm_gr (bm_si w1 v0 9 (bm_w ((bm_gi w1 v0 9) + (1 : Int)))) v0 26)) ((bm_gi (bm_si w1 v0 9 (bm_w ((bm_gi w1 v0 9) + (1 : Int)))) v0 18)).toNat (bm_w ((bm_gi (bm_si w1 v0 9 (bm_w ((bm_gi w1 v0 9) + (1 : Int)))) (bm_u (bm_gr (bm_si w1 v0 9 (bm_w ((bm_gi w1 v0 9) + (1 : Int)))) v0 26)) ((bm_gi (bm_si w1 v0 9 (bm_w ((bm_gi w1 v0 9) + (1 : Int)))) v0 18)).toNat) + (bm_gi (bm_si w1 v0 9 (bm_w ((bm_gi w1 v0 9) + (1 : Int)))) (bm_u (bm_gr (bm_si w1 v0 9 (bm_w ((bm_gi w1 v0 9) + (1 : Int)))) v0 26)) (v2).toNat)))) v3 ((0 : Int)).toNat), bm_i (bm_gi (bm_si (bm_si w1 v0 9 (bm_w ((bm_gi w1 v0 9) + (1 : Int)))) (bm_u (bm_gr (bm_si w1 v0 9 (bm_w ((bm_gi w1 v0 9) + (1 : Int)))) v0 26)) ((bm_gi (bm_si w1 v0 9 (bm_w ((bm_gi w1 v0 9) + (1 : Int)))) v0 18)).toNat (bm_w ((bm_gi (bm_si w1 v0 9 (bm_w ((bm_gi w1 v0 9) + (1 : Int)))) (bm_u (bm_gr (bm_si w1 v0 9 (bm_w ((bm_gi w1 v0 9) + (1 : Int)))) v0 26)) ((bm_gi (bm_si w1 v0 9 (bm_w ((bm_gi w1 v0 9) + (1 : Int)))) v0 18)).toNat) + (bm_gi (bm_si w1 v0 9 (bm_w ((bm_gi w1 v0 9) + (1 : Int)))) (bm_u (bm_gr (bm_si w1 v0 9 (bm_w ((bm_gi w1 v0 9) + (1 : Int)))) v0 26)) (v2).toNat)))) v3 ((1 : Int)).toNat), bm_i (bm_gi (bm_si (bm_si w1 v0 9 (bm_w ((bm_gi w1 v0 9) + (1 : Int)))) (bm_u (bm_gr (bm_si w1 v0 9 (bm_w ((bm_gi w1 v0 9) + (1 : Int)))) v0 26)) ((bm_gi (bm_si w1 v0 9 (bm_w ((bm_gi w1 v0 9) + (1 : Int)))) v0 18)).toNat (bm_w ((bm_gi (bm_si w1 v0 9 (bm_w ((bm_gi w1 v0 9) + (1 : Int)))) (bm_u (bm_gr (bm_si w1 v0 9 (bm_w ((bm_gi w1 v0 9) + (1 : Int)))) v0 26)) ((bm_gi (bm_si w1 v0 9 (bm_w ((bm_gi w1 v0 9) + (1 : Int)))) v0 18)).toNat) + (bm_gi (bm_si w1 v0 9 (bm_w ((bm_gi w1 v0 9) + (1 : Int)))) (bm_u (bm_gr (bm_si w1 v0 9 (bm_w ((bm_gi w1 v0 9) + (1 : Int)))) v0 26)) (v2).toNat)))) v3 ((2 : Int)).toNat), bm_i v2, bm_i (-1 : Int)] (bm_si (bm_si w1 v0 9 (bm_w ((bm_gi w1 v0 9) + (1 : Int)))) (bm_u (bm_gr (bm_si w1 v0 9 (bm_w ((bm_gi w1 v0 9) + (1 : Int)))) v0 26)) ((bm_gi (bm_si w1 v0 9 (bm_w ((bm_gi w1 v0 9) + (1 : Int)))) v0 18)).toNat (bm_w ((bm_gi (bm_si w1 v0 9 (bm_w ((bm_gi w1 v0 9) + (1 : Int)))) (bm_u (bm_gr (bm_si w1 v0 9 (bm_w ((bm_gi w1 v0 9) + (1 : Int)))) v0 26)) ((bm_gi (bm_si w1 v0 9 (bm_w ((bm_gi w1 v0 9) + (1 : Int)))) v0 18)).toNat) + (bm_gi (bm_si w1 v0 9 (bm_w ((bm_gi w1 v0 9) + (1 : Int)))) (bm_u (bm_gr (bm_si w1 v0 9 (bm_w ((bm_gi w1 v0 9) + (1 : Int)))) v0 26)) (v2).toNat)))) (fun r2 w2 => 
          bm_c1 (fun x2 => Φ (.inl (some (bm_i x2))) w2) (fun E => Φ (.inr E) w2) r2)
      else
        (bm_kt (bm_si w1 v0 9 (bm_w ((bm_gi w1 v0 9) + (1 : Int)))) v0 = 12) ∧ bm_Call bm_pg d y_X12_wrong [bm_r (some v0), bm_i (6 : Int), bm_i v1] (bm_si w1 v0 9 (bm_w ((bm_gi w1 v0 9) + (1 : Int)))) (fun r3 w3 => 
          bm_c1 (fun x3 => Φ (.inl (some (bm_i x3))) w3) (fun E => Φ (.inr E) w3) r3)))) (fun E => Φ (.inr E) w1) r1)) : bk_X12_call_87 d Φ v0 v1 v2 v3 v4 w := bm_go (bm_Call_mono _ _) [46, 49, 87] 107 _ h
/-! CaseTablesModel.table(I)I -/
def bk_X12_table_116 (d : Nat) (Φ : bm_Rt → bm_W → Prop) (v0 : Nat) (v2 : Int) (w : bm_W) : Prop := bm_Wp (bm_Call bm_pg d) tb_X12_table Φ (116, [some (bm_r (some v0)), none, some (bm_i v2), none, none], [], w)
set_option maxRecDepth 20000 in
theorem vc_X12_table {d : Nat} {Φ : bm_Rt → bm_W → Prop} {p0 : Nat} {p1 : Int} {w : bm_W} (h :
  (bm_kt w p0 = 12) ∧
  (if (!decide ((bm_gi w p0 28) = (6 : Int))) = true then
    (bm_kt w p0 = 12) ∧
    (bm_kt w p0 = 12) ∧ bm_Call bm_pg d y_X12_nameOf [bm_r (some p0), bm_i (bm_gi w p0 9)] w (fun r1 w1 => 
      bm_c2 (fun x1 => (bm_kt w1 p0 = 12) ∧ bm_Call bm_pg d y_X12_isTaken [bm_r (some p0), bm_l x1] w1 (fun r2 w2 => 
        bm_c1 (fun x2 => (if (decide (x2 = 0)) = true then
          (bm_kt w2 p0 = 12) ∧
          (bm_kt w2 p0 = 12) ∧
          (bm_kt (bm_si w2 p0 9 (bm_w ((bm_gi w2 p0 9) + (2 : Int)))) p0 = 12 ∧ bm_gr (bm_si w2 p0 9 (bm_w ((bm_gi w2 p0 9) + (2 : Int)))) p0 19 = some (bm_u (bm_gr (bm_si w2 p0 9 (bm_w ((bm_gi w2 p0 9) + (2 : Int)))) p0 19))) ∧
          (bm_kt (bm_si w2 p0 9 (bm_w ((bm_gi w2 p0 9) + (2 : Int)))) p0 = 12) ∧
          (bm_kt (bm_si w2 p0 9 (bm_w ((bm_gi w2 p0 9) + (2 : Int)))) p0 = 12) ∧
          (bm_kt (bm_si w2 p0 9 (bm_w ((bm_gi w2 p0 9) + (2 : Int)))) p0 = 12) ∧ bm_Call bm_pg d y_X12_nameOf [bm_r (some p0), bm_i (bm_gi (bm_si w2 p0 9 (bm_w ((bm_gi w2 p0 9) + (2 : Int)))) p0 9)] (bm_si w2 p0 9 (bm_w ((bm_gi w2 p0 9) + (2 : Int)))) (fun r3 w3 => 
            bm_c2 (fun x3 => (True) ∧ bm_Call bm_pg d y_X12_find [bm_r (some (bm_u (bm_gr (bm_si w2 p0 9 (bm_w ((bm_gi w2 p0 9) + (2 : Int)))) p0 19))), bm_i (0 : Int), bm_i (bm_gi (bm_si w2 p0 9 (bm_w ((bm_gi w2 p0 9) + (2 : Int)))) p0 18), bm_l x3] w3 (fun r4 w4 => 
              bm_c1 (fun x4 => (if (!decide (x4 = (-1 : Int))) = true then
                (bm_kt w4 p0 = 12 ∧ bm_gr w4 p0 30 = some (bm_u (bm_gr w4 p0 30))) ∧
                (bm_kt w4 p0 = 12) ∧
                (bm_kt w4 (bm_u (bm_gr w4 p0 30)) = 21 ∧ bm_in (bm_gi w4 p0 28) (bm_kn w4 (bm_u (bm_gr w4 p0 30)))) ∧
                (bm_kt (bm_si w4 (bm_u (bm_gr w4 p0 30)) ((bm_gi w4 p0 28)).toNat x4) p0 = 12 ∧ bm_gr (bm_si w4 (bm_u (bm_gr w4 p0 30)) ((bm_gi w4 p0 28)).toNat x4) p0 31 = some (bm_u (bm_gr (bm_si w4 (bm_u (bm_gr w4 p0 30)) ((bm_gi w4 p0 28)).toNat x4) p0 31))) ∧
                (bm_kt (bm_si w4 (bm_u (bm_gr w4 p0 30)) ((bm_gi w4 p0 28)).toNat x4) p0 = 12) ∧
                (bm_kt (bm_si w4 (bm_u (bm_gr w4 p0 30)) ((bm_gi w4 p0 28)).toNat x4) (bm_u (bm_gr (bm_si w4 (bm_u (bm_gr w4 p0 30)) ((bm_gi w4 p0 28)).toNat x4) p0 31)) = 21 ∧ bm_in (bm_gi (bm_si w4 (bm_u (bm_gr w4 p0 30)) ((bm_gi w4 p0 28)).toNat x4) p0 28) (bm_kn (bm_si w4 (bm_u (bm_gr w4 p0 30)) ((bm_gi w4 p0 28)).toNat x4) (bm_u (bm_gr (bm_si w4 (bm_u (bm_gr w4 p0 30)) ((bm_gi w4 p0 28)).toNat x4) p0 31)))) ∧
                (bm_kt (bm_si (bm_si w4 (bm_u (bm_gr w4 p0 30)) ((bm_gi w4 p0 28)).toNat x4) (bm_u (bm_gr (bm_si w4 (bm_u (bm_gr w4 p0 30)) ((bm_gi w4 p0 28)).toNat x4) p0 31)) ((bm_gi (bm_si w4 (bm_u (bm_gr w4 p0 30)) ((bm_gi w4 p0 28)).toNat x4) p0 28)).toNat (0 : Int)) p0 = 12) ∧
                (bm_kt (bm_si (bm_si w4 (bm_u (bm_gr w4 p0 30)) ((bm_gi w4 p0 28)).toNat x4) (bm_u (bm_gr (bm_si w4 (bm_u (bm_gr w4 p0 30)) ((bm_gi w4 p0 28)).toNat x4) p0 31)) ((bm_gi (bm_si w4 (bm_u (bm_gr w4 p0 30)) ((bm_gi w4 p0 28)).toNat x4) p0 28)).toNat (0 : Int)) p0 = 12) ∧
                bk_X12_table_116 d Φ p0 (bm_gi w p0 9) (bm_si (bm_si (bm_si w4 (bm_u (bm_gr w4 p0 30)) ((bm_gi w4 p0 28)).toNat x4) (bm_u (bm_gr (bm_si w4 (bm_u (bm_gr w4 p0 30)) ((bm_gi w4 p0 28)).toNat x4) p0 31)) ((bm_gi (bm_si w4 (bm_u (bm_gr w4 p0 30)) ((bm_gi w4 p0 28)).toNat x4) p0 28)).toNat (0 : Int)) p0 9 (bm_w ((bm_gi (bm_si (bm_si w4 (bm_u (bm_gr w4 p0 30)) ((bm_gi w4 p0 28)).toNat x4) (bm_u (bm_gr (bm_si w4 (bm_u (bm_gr w4 p0 30)) ((bm_gi w4 p0 28)).toNat x4) p0 31)) ((bm_gi (bm_si w4 (bm_u (bm_gr w4 p0 30)) ((bm_gi w4 p0 28)).toNat x4) p0 28)).toNat (0 : Int)) p0 9) + (1 : Int))))
              else
                (bm_kt w4 p0 = 12) ∧
                (bm_kt w4 p0 = 12) ∧ bm_Call bm_pg d y_X12_wrong [bm_r (some p0), bm_i (2 : Int), bm_i (bm_gi w4 p0 9)] w4 (fun r5 w5 => 
                  bm_c1 (fun x5 => Φ (.inl (some (bm_i x5))) w5) (fun E => Φ (.inr E) w5) r5))) (fun E => Φ (.inr E) w4) r4)) (fun E => Φ (.inr E) w3) r3)
        else
          (bm_kt w2 p0 = 12) ∧ bm_Call bm_pg d y_X12_wrong [bm_r (some p0), bm_i (3 : Int), bm_i (bm_gi w p0 9)] w2 (fun r6 w6 => 
            bm_c1 (fun x6 => Φ (.inl (some (bm_i x6))) w6) (fun E => Φ (.inr E) w6) r6))) (fun E => Φ (.inr E) w2) r2)) (fun E => Φ (.inr E) w1) r1)
  else
    (bm_kt w p0 = 12) ∧ bm_Call bm_pg d y_X12_wrong [bm_r (some p0), bm_i (4 : Int), bm_i p1] w (fun r7 w7 => 
      bm_c1 (fun x7 => Φ (.inl (some (bm_i x7))) w7) (fun E => Φ (.inr E) w7) r7))) : bm_Call bm_pg (d + 1) y_X12_table [bm_r (some p0), bm_i p1] w Φ := bm_enter rfl (bm_go (bm_Call_mono _ _) [116] 102 _ h)
set_option maxRecDepth 20000 in
theorem vb_X12_table_116 {d : Nat} {Φ : bm_Rt → bm_W → Prop} {v0 : Nat} {v2 : Int} {w : bm_W} (h :
  (bm_kt w v0 = 12) ∧
  (bm_kt w v0 = 12) ∧
  (bm_kt (bm_si w v0 9 (bm_w ((bm_gi w v0 9) + (1 : Int)))) v0 = 12) ∧ bm_Call bm_pg d y_X12_row [bm_r (some v0)] (bm_si w v0 9 (bm_w ((bm_gi w v0 9) + (1 : Int)))) (fun r1 w1 => 
    bm_c1 (fun x1 => (if (decide (x1 = 0)) = true then
      (bm_kt w1 v0 = 12) ∧ bm_Call bm_pg d y_X12_sees [bm_r (some v0), bm_k (0, 13)] w1 (fun r2 w2 => 
        bm_c1 (fun x2 => (if (!decide (x2 = 0)) = true then
          bk_X12_table_116 d Φ v0 v2 w2
        else
          (bm_kt w2 v0 = 12 ∧ bm_gr w2 v0 29 = some (bm_u (bm_gr w2 v0 29))) ∧
          (bm_kt w2 v0 = 12) ∧
          (bm_kt w2 v0 = 12) ∧ bm_Call bm_pg d y_X12_nameOf [bm_r (some v0), bm_i v2] w2 (fun r3 w3 => 
            bm_c2 (fun x3 => (bm_kt w3 (bm_u (bm_gr w2 v0 29)) = 22 ∧ bm_in (bm_gi w2 v0 28) (bm_kn w3 (bm_u (bm_gr w2 v0 29)))) ∧
            (bm_kt (bm_sq w3 (bm_u (bm_gr w2 v0 29)) ((bm_gi w2 v0 28)).toNat x3) v0 = 12) ∧
            (bm_kt (bm_sq w3 (bm_u (bm_gr w2 v0 29)) ((bm_gi w2 v0 28)).toNat x3) v0 = 12) ∧
            Φ (.inl (some (bm_i (0 : Int)))) (bm_si (bm_sq w3 (bm_u (bm_gr w2 v0 29)) ((bm_gi w2 v0 28)).toNat x3) v0 28 (bm_w ((bm_gi (bm_sq w3 (bm_u (bm_gr w2 v0 29)) ((bm_gi w2 v0 28)).toNat x3) v0 28) + (1 : Int))))) (fun E => Φ (.inr E) w3) r3))) (fun E => Φ (.inr E) w2) r2)
    else
      Φ (.inl (some (bm_i x1))) w1)) (fun E => Φ (.inr E) w1) r1)) : bk_X12_table_116 d Φ v0 v2 w := bm_go (bm_Call_mono _ _) [116] 102 _ h
/-! CaseTablesModel.row()I -/
def bk_X12_row_44 (d : Nat) (Φ : bm_Rt → bm_W → Prop) (v0 : Nat) (v1 : Int) (v2 : Int) (v3 : Int) (v4 : Int) (v5 : Int) (w : bm_W) : Prop := bm_Wp (bm_Call bm_pg d) tb_X12_row Φ (44, [some (bm_r (some v0)), some (bm_i v1), some (bm_i v2), some (bm_i v3), some (bm_i v4), some (bm_i v5), none], [], w)
def bk_X12_row_184 (d : Nat) (Φ : bm_Rt → bm_W → Prop) (v0 : Nat) (v1 : Int) (v6 : Int) (s0 : Int) (s1 : Int) (s2 : Nat) (w : bm_W) : Prop := bm_Wp (bm_Call bm_pg d) tb_X12_row Φ (184, [some (bm_r (some v0)), some (bm_i v1), none, none, none, none, some (bm_i v6)], [bm_i s0, bm_i s1, bm_r (some s2)], w)
set_option maxRecDepth 20000 in
theorem vc_X12_row {d : Nat} {Φ : bm_Rt → bm_W → Prop} {p0 : Nat} {w : bm_W} (h :
  (bm_kt w p0 = 12) ∧
  (bm_kt w p0 = 12 ∧ bm_gr w p0 30 = some (bm_u (bm_gr w p0 30))) ∧
  (bm_kt w p0 = 12) ∧
  (bm_kt w (bm_u (bm_gr w p0 30)) = 21 ∧ bm_in (bm_gi w p0 28) (bm_kn w (bm_u (bm_gr w p0 30)))) ∧
  (bm_kt w p0 = 12 ∧ bm_gr w p0 31 = some (bm_u (bm_gr w p0 31))) ∧
  (bm_kt w p0 = 12) ∧
  (bm_kt w (bm_u (bm_gr w p0 31)) = 21 ∧ bm_in (bm_gi w p0 28) (bm_kn w (bm_u (bm_gr w p0 31)))) ∧
  (if (!decide ((bm_gi w (bm_u (bm_gr w p0 31)) ((bm_gi w p0 28)).toNat) = (12 : Int))) = true then
    bk_X12_row_44 d Φ p0 (bm_gi w p0 9) (bm_gi w (bm_u (bm_gr w p0 30)) ((bm_gi w p0 28)).toNat) (bm_gi w (bm_u (bm_gr w p0 31)) ((bm_gi w p0 28)).toNat) (0 : Int) (1 : Int) w
  else
    (bm_kt w p0 = 12) ∧ bm_Call bm_pg d y_X12_wrong [bm_r (some p0), bm_i (4 : Int), bm_i (bm_gi w p0 9)] w (fun r1 w1 => 
      bm_c1 (fun x1 => Φ (.inl (some (bm_i x1))) w1) (fun E => Φ (.inr E) w1) r1))) : bm_Call bm_pg (d + 1) y_X12_row [bm_r (some p0)] w Φ := bm_enter rfl (bm_go (bm_Call_mono _ _) [44, 184] 152 _ h)
set_option maxRecDepth 20000 in
theorem vb_X12_row_44 {d : Nat} {Φ : bm_Rt → bm_W → Prop} {v0 : Nat} {v1 : Int} {v2 : Int} {v3 : Int} {v4 : Int} {v5 : Int} {w : bm_W} (h :
  (if (decide (v5 = 0)) = true then
    (bm_kt w v0 = 12 ∧ bm_gr w v0 20 = some (bm_u (bm_gr w v0 20))) ∧
    (bm_kt w (bm_u (bm_gr w v0 20)) = 21 ∧ bm_in v2 (bm_kn w (bm_u (bm_gr w v0 20)))) ∧
    (if (decide (v4 = (bm_gi w (bm_u (bm_gr w v0 20)) (v2).toNat))) = true then
      (bm_kt w v0 = 12) ∧
      (bm_kt w v0 = 12) ∧
      (bm_kt (bm_si w v0 9 (bm_w ((bm_gi w v0 9) + (1 : Int)))) v0 = 12) ∧
      (bm_kt (bm_si w v0 9 (bm_w ((bm_gi w v0 9) + (1 : Int)))) v0 = 12 ∧ bm_gr (bm_si w v0 9 (bm_w ((bm_gi w v0 9) + (1 : Int)))) v0 35 = some (bm_u (bm_gr (bm_si w v0 9 (bm_w ((bm_gi w v0 9) + (1 : Int)))) v0 35))) ∧
      (bm_kt (bm_si w v0 9 (bm_w ((bm_gi w v0 9) + (1 : Int)))) (bm_u (bm_gr (bm_si w v0 9 (bm_w ((bm_gi w v0 9) + (1 : Int)))) v0 35)) = 22 ∧ bm_in (bm_w ((bm_w ((12 : Int) * (bm_gi (bm_si w v0 9 (bm_w ((bm_gi w v0 9) + (1 : Int)))) v0 28))) + v3)) (bm_kn (bm_si w v0 9 (bm_w ((bm_gi w v0 9) + (1 : Int)))) (bm_u (bm_gr (bm_si w v0 9 (bm_w ((bm_gi w v0 9) + (1 : Int)))) v0 35)))) ∧
      (bm_kt (bm_sq (bm_si w v0 9 (bm_w ((bm_gi w v0 9) + (1 : Int)))) (bm_u (bm_gr (bm_si w v0 9 (bm_w ((bm_gi w v0 9) + (1 : Int)))) v0 35)) ((bm_w ((bm_w ((12 : Int) * (bm_gi (bm_si w v0 9 (bm_w ((bm_gi w v0 9) + (1 : Int)))) v0 28))) + v3))).toNat (0 : Int)) v0 = 12 ∧ bm_gr (bm_sq (bm_si w v0 9 (bm_w ((bm_gi w v0 9) + (1 : Int)))) (bm_u (bm_gr (bm_si w v0 9 (bm_w ((bm_gi w v0 9) + (1 : Int)))) v0 35)) ((bm_w ((bm_w ((12 : Int) * (bm_gi (bm_si w v0 9 (bm_w ((bm_gi w v0 9) + (1 : Int)))) v0 28))) + v3))).toNat (0 : Int)) v0 34 = some (bm_u (bm_gr (bm_sq (bm_si w v0 9 (bm_w ((bm_gi w v0 9) + (1 : Int)))) (bm_u (bm_gr (bm_si w v0 9 (bm_w ((bm_gi w v0 9) + (1 : Int)))) v0 35)) ((bm_w ((bm_w ((12 : Int) * (bm_gi (bm_si w v0 9 (bm_w ((bm_gi w v0 9) + (1 : Int)))) v0 28))) + v3))).toNat (0 : Int)) v0 34))) ∧
      (bm_kt (bm_sq (bm_si w v0 9 (bm_w ((bm_gi w v0 9) + (1 : Int)))) (bm_u (bm_gr (bm_si w v0 9 (bm_w ((bm_gi w v0 9) + (1 : Int)))) v0 35)) ((bm_w ((bm_w ((12 : Int) * (bm_gi (bm_si w v0 9 (bm_w ((bm_gi w v0 9) + (1 : Int)))) v0 28))) + v3))).toNat (0 : Int)) v0 = 12) ∧ bm_Call bm_pg d y_X12_sees [bm_r (some v0), bm_k (0, 15)] (bm_sq (bm_si w v0 9 (bm_w ((bm_gi w v0 9) + (1 : Int)))) (bm_u (bm_gr (bm_si w v0 9 (bm_w ((bm_gi w v0 9) + (1 : Int)))) v0 35)) ((bm_w ((bm_w ((12 : Int) * (bm_gi (bm_si w v0 9 (bm_w ((bm_gi w v0 9) + (1 : Int)))) v0 28))) + v3))).toNat (0 : Int)) (fun r1 w1 => 
        bm_c1 (fun x1 => (if (decide (x1 = 0)) = true then
          (bm_kt w1 v0 = 12) ∧ bm_Call bm_pg d y_X12_sees [bm_r (some v0), bm_k (0, 16)] w1 (fun r2 w2 => 
            bm_c1 (fun x2 => (if (decide (x2 = 0)) = true then
              (bm_kt w2 v0 = 12) ∧
              (bm_kt w2 v0 = 12) ∧ bm_Call bm_pg d y_X12_operator [bm_r (some v0), bm_i (bm_gi w2 v0 9), bm_i (2 : Int), bm_i (8 : Int)] w2 (fun r3 w3 => 
                bm_c1 (fun x3 => bk_X12_row_184 d Φ v0 v1 (bm_w ((bm_w ((12 : Int) * (bm_gi (bm_si w v0 9 (bm_w ((bm_gi w v0 9) + (1 : Int)))) v0 28))) + v3)) x3 (bm_w ((bm_w ((12 : Int) * (bm_gi (bm_si w v0 9 (bm_w ((bm_gi w v0 9) + (1 : Int)))) v0 28))) + v3)) (bm_u (bm_gr (bm_sq (bm_si w v0 9 (bm_w ((bm_gi w v0 9) + (1 : Int)))) (bm_u (bm_gr (bm_si w v0 9 (bm_w ((bm_gi w v0 9) + (1 : Int)))) v0 35)) ((bm_w ((bm_w ((12 : Int) * (bm_gi (bm_si w v0 9 (bm_w ((bm_gi w v0 9) + (1 : Int)))) v0 28))) + v3))).toNat (0 : Int)) v0 34)) w3) (fun E => Φ (.inr E) w3) r3)
            else
              bk_X12_row_184 d Φ v0 v1 (bm_w ((bm_w ((12 : Int) * (bm_gi (bm_si w v0 9 (bm_w ((bm_gi w v0 9) + (1 : Int)))) v0 28))) + v3)) (21 : Int) (bm_w ((bm_w ((12 : Int) * (bm_gi (bm_si w v0 9 (bm_w ((bm_gi w v0 9) + (1 : Int)))) v0 28))) + v3)) (bm_u (bm_gr (bm_sq (bm_si w v0 9 (bm_w ((bm_gi w v0 9) + (1 : Int)))) (bm_u (bm_gr (bm_si w v0 9 (bm_w ((bm_gi w v0 9) + (1 : Int)))) v0 35)) ((bm_w ((bm_w ((12 : Int) * (bm_gi (bm_si w v0 9 (bm_w ((bm_gi w v0 9) + (1 : Int)))) v0 28))) + v3))).toNat (0 : Int)) v0 34)) w2)) (fun E => Φ (.inr E) w2) r2)
        else
          bk_X12_row_184 d Φ v0 v1 (bm_w ((bm_w ((12 : Int) * (bm_gi (bm_si w v0 9 (bm_w ((bm_gi w v0 9) + (1 : Int)))) v0 28))) + v3)) (20 : Int) (bm_w ((bm_w ((12 : Int) * (bm_gi (bm_si w v0 9 (bm_w ((bm_gi w v0 9) + (1 : Int)))) v0 28))) + v3)) (bm_u (bm_gr (bm_sq (bm_si w v0 9 (bm_w ((bm_gi w v0 9) + (1 : Int)))) (bm_u (bm_gr (bm_si w v0 9 (bm_w ((bm_gi w v0 9) + (1 : Int)))) v0 35)) ((bm_w ((bm_w ((12 : Int) * (bm_gi (bm_si w v0 9 (bm_w ((bm_gi w v0 9) + (1 : Int)))) v0 28))) + v3))).toNat (0 : Int)) v0 34)) w1)) (fun E => Φ (.inr E) w1) r1)
    else
      (bm_kt w v0 = 12) ∧ bm_Call bm_pg d y_X12_wrong [bm_r (some v0), bm_i (6 : Int), bm_i v1] w (fun r4 w4 => 
        bm_c1 (fun x4 => Φ (.inl (some (bm_i x4))) w4) (fun E => Φ (.inr E) w4) r4))
  else
    (bm_kt w v0 = 12) ∧
    (bm_kt w v0 = 12) ∧ bm_Call bm_pg d y_X12_cell [bm_r (some v0), bm_i v2, bm_i (bm_w ((bm_w ((bm_w ((12 : Int) * (bm_gi w v0 28))) + v3)) * (3 : Int))), bm_i v4] w (fun r5 w5 => 
      bm_c1 (fun x5 => (if (decide (x5 = 0)) = true then
        (bm_kt w5 v0 = 12) ∧ bm_Call bm_pg d y_X12_takes [bm_r (some v0), bm_k (0, 12)] w5 (fun r6 w6 => 
          bm_c1 (fun x6 => bk_X12_row_44 d Φ v0 v1 v2 v3 (bm_w (v4 + 1)) x6 w6) (fun E => Φ (.inr E) w6) r6)
      else
        Φ (.inl (some (bm_i x5))) w5)) (fun E => Φ (.inr E) w5) r5))) : bk_X12_row_44 d Φ v0 v1 v2 v3 v4 v5 w := bm_go (bm_Call_mono _ _) [44, 184] 152 _ h
set_option maxRecDepth 20000 in
theorem vb_X12_row_184 {d : Nat} {Φ : bm_Rt → bm_W → Prop} {v0 : Nat} {v1 : Int} {v6 : Int} {s0 : Int} {s1 : Int} {s2 : Nat} {w : bm_W} (h :
  (bm_kt w s2 = 21 ∧ bm_in s1 (bm_kn w s2)) ∧
  (bm_kt (bm_si w s2 (s1).toNat s0) v0 = 12) ∧
  (bm_kt (bm_si w s2 (s1).toNat s0) v0 = 12) ∧
  (bm_kt (bm_si (bm_si w s2 (s1).toNat s0) v0 9 (bm_w ((bm_gi (bm_si w s2 (s1).toNat s0) v0 9) + (1 : Int)))) v0 = 12 ∧ bm_gr (bm_si (bm_si w s2 (s1).toNat s0) v0 9 (bm_w ((bm_gi (bm_si w s2 (s1).toNat s0) v0 9) + (1 : Int)))) v0 34 = some (bm_u (bm_gr (bm_si (bm_si w s2 (s1).toNat s0) v0 9 (bm_w ((bm_gi (bm_si w s2 (s1).toNat s0) v0 9) + (1 : Int)))) v0 34))) ∧
  (bm_kt (bm_si (bm_si w s2 (s1).toNat s0) v0 9 (bm_w ((bm_gi (bm_si w s2 (s1).toNat s0) v0 9) + (1 : Int)))) (bm_u (bm_gr (bm_si (bm_si w s2 (s1).toNat s0) v0 9 (bm_w ((bm_gi (bm_si w s2 (s1).toNat s0) v0 9) + (1 : Int)))) v0 34)) = 21 ∧ bm_in v6 (bm_kn (bm_si (bm_si w s2 (s1).toNat s0) v0 9 (bm_w ((bm_gi (bm_si w s2 (s1).toNat s0) v0 9) + (1 : Int)))) (bm_u (bm_gr (bm_si (bm_si w s2 (s1).toNat s0) v0 9 (bm_w ((bm_gi (bm_si w s2 (s1).toNat s0) v0 9) + (1 : Int)))) v0 34)))) ∧
  (if (decide ((20 : Int) ≤ (bm_gi (bm_si (bm_si w s2 (s1).toNat s0) v0 9 (bm_w ((bm_gi (bm_si w s2 (s1).toNat s0) v0 9) + (1 : Int)))) (bm_u (bm_gr (bm_si (bm_si w s2 (s1).toNat s0) v0 9 (bm_w ((bm_gi (bm_si w s2 (s1).toNat s0) v0 9) + (1 : Int)))) v0 34)) (v6).toNat))) = true then
    (bm_kt (bm_si (bm_si w s2 (s1).toNat s0) v0 9 (bm_w ((bm_gi (bm_si w s2 (s1).toNat s0) v0 9) + (1 : Int)))) v0 = 12 ∧ bm_gr (bm_si (bm_si w s2 (s1).toNat s0) v0 9 (bm_w ((bm_gi (bm_si w s2 (s1).toNat s0) v0 9) + (1 : Int)))) v0 31 = some (bm_u (bm_gr (bm_si (bm_si w s2 (s1).toNat s0) v0 9 (bm_w ((bm_gi (bm_si w s2 (s1).toNat s0) v0 9) + (1 : Int)))) v0 31))) ∧
    (bm_kt (bm_si (bm_si w s2 (s1).toNat s0) v0 9 (bm_w ((bm_gi (bm_si w s2 (s1).toNat s0) v0 9) + (1 : Int)))) v0 = 12) ∧
    (bm_kt (bm_si (bm_si w s2 (s1).toNat s0) v0 9 (bm_w ((bm_gi (bm_si w s2 (s1).toNat s0) v0 9) + (1 : Int)))) (bm_u (bm_gr (bm_si (bm_si w s2 (s1).toNat s0) v0 9 (bm_w ((bm_gi (bm_si w s2 (s1).toNat s0) v0 9) + (1 : Int)))) v0 31)) = 21 ∧ bm_in (bm_gi (bm_si (bm_si w s2 (s1).toNat s0) v0 9 (bm_w ((bm_gi (bm_si w s2 (s1).toNat s0) v0 9) + (1 : Int)))) v0 28) (bm_kn (bm_si (bm_si w s2 (s1).toNat s0) v0 9 (bm_w ((bm_gi (bm_si w s2 (s1).toNat s0) v0 9) + (1 : Int)))) (bm_u (bm_gr (bm_si (bm_si w s2 (s1).toNat s0) v0 9 (bm_w ((bm_gi (bm_si w s2 (s1).toNat s0) v0 9) + (1 : Int)))) v0 31)))) ∧
    (bm_kt (bm_si (bm_si w s2 (s1).toNat s0) v0 9 (bm_w ((bm_gi (bm_si w s2 (s1).toNat s0) v0 9) + (1 : Int)))) (bm_u (bm_gr (bm_si (bm_si w s2 (s1).toNat s0) v0 9 (bm_w ((bm_gi (bm_si w s2 (s1).toNat s0) v0 9) + (1 : Int)))) v0 31)) = 21 ∧ bm_in (bm_gi (bm_si (bm_si w s2 (s1).toNat s0) v0 9 (bm_w ((bm_gi (bm_si w s2 (s1).toNat s0) v0 9) + (1 : Int)))) v0 28) (bm_kn (bm_si (bm_si w s2 (s1).toNat s0) v0 9 (bm_w ((bm_gi (bm_si w s2 (s1).toNat s0) v0 9) + (1 : Int)))) (bm_u (bm_gr (bm_si (bm_si w s2 (s1).toNat s0) v0 9 (bm_w ((bm_gi (bm_si w s2 (s1).toNat s0) v0 9) + (1 : Int)))) v0 31)))) ∧
    (bm_kt (bm_si (bm_si (bm_si w s2 (s1).toNat s0) v0 9 (bm_w ((bm_gi (bm_si w s2 (s1).toNat s0) v0 9) + (1 : Int)))) (bm_u (bm_gr (bm_si (bm_si w s2 (s1).toNat s0) v0 9 (bm_w ((bm_gi (bm_si w s2 (s1).toNat s0) v0 9) + (1 : Int)))) v0 31)) ((bm_gi (bm_si (bm_si w s2 (s1).toNat s0) v0 9 (bm_w ((bm_gi (bm_si w s2 (s1).toNat s0) v0 9) + (1 : Int)))) v0 28)).toNat (bm_w ((bm_gi (bm_si (bm_si w s2 (s1).toNat s0) v0 9 (bm_w ((bm_gi (bm_si w s2 (s1).toNat s0) v0 9) + (1 : Int)))) (bm_u (bm_gr (bm_si (bm_si w s2 (s1).toNat s0) v0 9 (bm_w ((bm_gi (bm_si w s2 (s1).toNat s0) v0 9) + (1 : Int)))) v0 31)) ((bm_gi (bm_si (bm_si w s2 (s1).toNat s0) v0 9 (bm_w ((bm_gi (bm_si w s2 (s1).toNat s0) v0 9) + (1 : Int)))) v0 28)).toNat) + (1 : Int)))) v0 = 12) ∧
    (bm_kt (bm_si (bm_si (bm_si w s2 (s1).toNat s0) v0 9 (bm_w ((bm_gi (bm_si w s2 (s1).toNat s0) v0 9) + (1 : Int)))) (bm_u (bm_gr (bm_si (bm_si w s2 (s1).toNat s0) v0 9 (bm_w ((bm_gi (bm_si w s2 (s1).toNat s0) v0 9) + (1 : Int)))) v0 31)) ((bm_gi (bm_si (bm_si w s2 (s1).toNat s0) v0 9 (bm_w ((bm_gi (bm_si w s2 (s1).toNat s0) v0 9) + (1 : Int)))) v0 28)).toNat (bm_w ((bm_gi (bm_si (bm_si w s2 (s1).toNat s0) v0 9 (bm_w ((bm_gi (bm_si w s2 (s1).toNat s0) v0 9) + (1 : Int)))) (bm_u (bm_gr (bm_si (bm_si w s2 (s1).toNat s0) v0 9 (bm_w ((bm_gi (bm_si w s2 (s1).toNat s0) v0 9) + (1 : Int)))) v0 31)) ((bm_gi (bm_si (bm_si w s2 (s1).toNat s0) v0 9 (bm_w ((bm_gi (bm_si w s2 (s1).toNat s0) v0 9) + (1 : Int)))) v0 28)).toNat) + (1 : Int)))) v0 = 12) ∧ bm_Call bm_pg d y_X12_cases [bm_r (some v0), bm_i (bm_gi (bm_si (bm_si (bm_si w s2 (s1).toNat s0) v0 9 (bm_w ((bm_gi (bm_si w s2 (s1).toNat s0) v0 9) + (1 : Int)))) (bm_u (bm_gr (bm_si (bm_si w s2 (s1).toNat s0) v0 9 (bm_w ((bm_gi (bm_si w s2 (s1).toNat s0) v0 9) + (1 : Int)))) v0 31)) ((bm_gi (bm_si (bm_si w s2 (s1).toNat s0) v0 9 (bm_w ((bm_gi (bm_si w s2 (s1).toNat s0) v0 9) + (1 : Int)))) v0 28)).toNat (bm_w ((bm_gi (bm_si (bm_si w s2 (s1).toNat s0) v0 9 (bm_w ((bm_gi (bm_si w s2 (s1).toNat s0) v0 9) + (1 : Int)))) (bm_u (bm_gr (bm_si (bm_si w s2 (s1).toNat s0) v0 9 (bm_w ((bm_gi (bm_si w s2 (s1).toNat s0) v0 9) + (1 : Int)))) v0 31)) ((bm_gi (bm_si (bm_si w s2 (s1).toNat s0) v0 9 (bm_w ((bm_gi (bm_si w s2 (s1).toNat s0) v0 9) + (1 : Int)))) v0 28)).toNat) + (1 : Int)))) v0 28)] (bm_si (bm_si (bm_si w s2 (s1).toNat s0) v0 9 (bm_w ((bm_gi (bm_si w s2 (s1).toNat s0) v0 9) + (1 : Int)))) (bm_u (bm_gr (bm_si (bm_si w s2 (s1).toNat s0) v0 9 (bm_w ((bm_gi (bm_si w s2 (s1).toNat s0) v0 9) + (1 : Int)))) v0 31)) ((bm_gi (bm_si (bm_si w s2 (s1).toNat s0) v0 9 (bm_w ((bm_gi (bm_si w s2 (s1).toNat s0) v0 9) + (1 : Int)))) v0 28)).toNat (bm_w ((bm_gi (bm_si (bm_si w s2 (s1).toNat s0) v0 9 (bm_w ((bm_gi (bm_si w s2 (s1).toNat s0) v0 9) + (1 : Int)))) (bm_u (bm_gr (bm_si (bm_si w s2 (s1).toNat s0) v0 9 (bm_w ((bm_gi (bm_si w s2 (s1).toNat s0) v0 9) + (1 : Int)))) v0 31)) ((bm_gi (bm_si (bm_si w s2 (s1).toNat s0) v0 9 (bm_w ((bm_gi (bm_si w s2 (s1).toNat s0) v0 9) + (1 : Int)))) v0 28)).toNat) + (1 : Int)))) (fun r1 w1 => 
      bm_c1 (fun x1 => (if (decide (x1 ≤ (100 : Int))) = true then
        Φ (.inl (some (bm_i (0 : Int)))) w1
      else
        (bm_kt w1 v0 = 12) ∧ bm_Call bm_pg d y_X12_wrong [bm_r (some v0), bm_i (4 : Int), bm_i v1] w1 (fun r2 w2 => 
          bm_c1 (fun x2 => Φ (.inl (some (bm_i x2))) w2) (fun E => Φ (.inr E) w2) r2))) (fun E => Φ (.inr E) w1) r1)
  else
    (bm_kt (bm_si (bm_si w s2 (s1).toNat s0) v0 9 (bm_w ((bm_gi (bm_si w s2 (s1).toNat s0) v0 9) + (1 : Int)))) v0 = 12 ∧ bm_gr (bm_si (bm_si w s2 (s1).toNat s0) v0 9 (bm_w ((bm_gi (bm_si w s2 (s1).toNat s0) v0 9) + (1 : Int)))) v0 35 = some (bm_u (bm_gr (bm_si (bm_si w s2 (s1).toNat s0) v0 9 (bm_w ((bm_gi (bm_si w s2 (s1).toNat s0) v0 9) + (1 : Int)))) v0 35))) ∧
    (bm_kt (bm_si (bm_si w s2 (s1).toNat s0) v0 9 (bm_w ((bm_gi (bm_si w s2 (s1).toNat s0) v0 9) + (1 : Int)))) v0 = 12) ∧ bm_Call bm_pg d y_X12_whole [bm_r (some v0)] (bm_si (bm_si w s2 (s1).toNat s0) v0 9 (bm_w ((bm_gi (bm_si w s2 (s1).toNat s0) v0 9) + (1 : Int)))) (fun r3 w3 => 
      bm_c1 (fun x3 => (bm_kt w3 (bm_u (bm_gr (bm_si (bm_si w s2 (s1).toNat s0) v0 9 (bm_w ((bm_gi (bm_si w s2 (s1).toNat s0) v0 9) + (1 : Int)))) v0 35)) = 22 ∧ bm_in v6 (bm_kn w3 (bm_u (bm_gr (bm_si (bm_si w s2 (s1).toNat s0) v0 9 (bm_w ((bm_gi (bm_si w s2 (s1).toNat s0) v0 9) + (1 : Int)))) v0 35)))) ∧
      (bm_kt (bm_sq w3 (bm_u (bm_gr (bm_si (bm_si w s2 (s1).toNat s0) v0 9 (bm_w ((bm_gi (bm_si w s2 (s1).toNat s0) v0 9) + (1 : Int)))) v0 35)) (v6).toNat x3) v0 = 12) ∧
      (bm_kt (bm_sq w3 (bm_u (bm_gr (bm_si (bm_si w s2 (s1).toNat s0) v0 9 (bm_w ((bm_gi (bm_si w s2 (s1).toNat s0) v0 9) + (1 : Int)))) v0 35)) (v6).toNat x3) v0 = 12) ∧
      (bm_kt (bm_si (bm_sq w3 (bm_u (bm_gr (bm_si (bm_si w s2 (s1).toNat s0) v0 9 (bm_w ((bm_gi (bm_si w s2 (s1).toNat s0) v0 9) + (1 : Int)))) v0 35)) (v6).toNat x3) v0 9 (bm_w ((bm_gi (bm_sq w3 (bm_u (bm_gr (bm_si (bm_si w s2 (s1).toNat s0) v0 9 (bm_w ((bm_gi (bm_si w s2 (s1).toNat s0) v0 9) + (1 : Int)))) v0 35)) (v6).toNat x3) v0 9) + (1 : Int)))) v0 = 12 ∧ bm_gr (bm_si (bm_sq w3 (bm_u (bm_gr (bm_si (bm_si w s2 (s1).toNat s0) v0 9 (bm_w ((bm_gi (bm_si w s2 (s1).toNat s0) v0 9) + (1 : Int)))) v0 35)) (v6).toNat x3) v0 9 (bm_w ((bm_gi (bm_sq w3 (bm_u (bm_gr (bm_si (bm_si w s2 (s1).toNat s0) v0 9 (bm_w ((bm_gi (bm_si w s2 (s1).toNat s0) v0 9) + (1 : Int)))) v0 35)) (v6).toNat x3) v0 9) + (1 : Int)))) v0 31 = some (bm_u (bm_gr (bm_si (bm_sq w3 (bm_u (bm_gr (bm_si (bm_si w s2 (s1).toNat s0) v0 9 (bm_w ((bm_gi (bm_si w s2 (s1).toNat s0) v0 9) + (1 : Int)))) v0 35)) (v6).toNat x3) v0 9 (bm_w ((bm_gi (bm_sq w3 (bm_u (bm_gr (bm_si (bm_si w s2 (s1).toNat s0) v0 9 (bm_w ((bm_gi (bm_si w s2 (s1).toNat s0) v0 9) + (1 : Int)))) v0 35)) (v6).toNat x3) v0 9) + (1 : Int)))) v0 31))) ∧
      (bm_kt (bm_si (bm_sq w3 (bm_u (bm_gr (bm_si (bm_si w s2 (s1).toNat s0) v0 9 (bm_w ((bm_gi (bm_si w s2 (s1).toNat s0) v0 9) + (1 : Int)))) v0 35)) (v6).toNat x3) v0 9 (bm_w ((bm_gi (bm_sq w3 (bm_u (bm_gr (bm_si (bm_si w s2 (s1).toNat s0) v0 9 (bm_w ((bm_gi (bm_si w s2 (s1).toNat s0) v0 9) + (1 : Int)))) v0 35)) (v6).toNat x3) v0 9) + (1 : Int)))) v0 = 12) ∧
      (bm_kt (bm_si (bm_sq w3 (bm_u (bm_gr (bm_si (bm_si w s2 (s1).toNat s0) v0 9 (bm_w ((bm_gi (bm_si w s2 (s1).toNat s0) v0 9) + (1 : Int)))) v0 35)) (v6).toNat x3) v0 9 (bm_w ((bm_gi (bm_sq w3 (bm_u (bm_gr (bm_si (bm_si w s2 (s1).toNat s0) v0 9 (bm_w ((bm_gi (bm_si w s2 (s1).toNat s0) v0 9) + (1 : Int)))) v0 35)) (v6).toNat x3) v0 9) + (1 : Int)))) (bm_u (bm_gr (bm_si (bm_sq w3 (bm_u (bm_gr (bm_si (bm_si w s2 (s1).toNat s0) v0 9 (bm_w ((bm_gi (bm_si w s2 (s1).toNat s0) v0 9) + (1 : Int)))) v0 35)) (v6).toNat x3) v0 9 (bm_w ((bm_gi (bm_sq w3 (bm_u (bm_gr (bm_si (bm_si w s2 (s1).toNat s0) v0 9 (bm_w ((bm_gi (bm_si w s2 (s1).toNat s0) v0 9) + (1 : Int)))) v0 35)) (v6).toNat x3) v0 9) + (1 : Int)))) v0 31)) = 21 ∧ bm_in (bm_gi (bm_si (bm_sq w3 (bm_u (bm_gr (bm_si (bm_si w s2 (s1).toNat s0) v0 9 (bm_w ((bm_gi (bm_si w s2 (s1).toNat s0) v0 9) + (1 : Int)))) v0 35)) (v6).toNat x3) v0 9 (bm_w ((bm_gi (bm_sq w3 (bm_u (bm_gr (bm_si (bm_si w s2 (s1).toNat s0) v0 9 (bm_w ((bm_gi (bm_si w s2 (s1).toNat s0) v0 9) + (1 : Int)))) v0 35)) (v6).toNat x3) v0 9) + (1 : Int)))) v0 28) (bm_kn (bm_si (bm_sq w3 (bm_u (bm_gr (bm_si (bm_si w s2 (s1).toNat s0) v0 9 (bm_w ((bm_gi (bm_si w s2 (s1).toNat s0) v0 9) + (1 : Int)))) v0 35)) (v6).toNat x3) v0 9 (bm_w ((bm_gi (bm_sq w3 (bm_u (bm_gr (bm_si (bm_si w s2 (s1).toNat s0) v0 9 (bm_w ((bm_gi (bm_si w s2 (s1).toNat s0) v0 9) + (1 : Int)))) v0 35)) (v6).toNat x3) v0 9) + (1 : Int)))) (bm_u (bm_gr (bm_si (bm_sq w3 (bm_u (bm_gr (bm_si (bm_si w s2 (s1).toNat s0) v0 9 (bm_w ((bm_gi (bm_si w s2 (s1).toNat s0) v0 9) + (1 : Int)))) v0 35)) (v6).toNat x3) v0 9 (bm_w ((bm_gi (bm_sq w3 (bm_u (bm_gr (bm_si (bm_si w s2 (s1).toNat s0) v0 9 (bm_w ((bm_gi (bm_si w s2 (s1).toNat s0) v0 9) + (1 : Int)))) v0 35)) (v6).toNat x3) v0 9) + (1 : Int)))) v0 31)))) ∧
      (bm_kt (bm_si (bm_sq w3 (bm_u (bm_gr (bm_si (bm_si w s2 (s1).toNat s0) v0 9 (bm_w ((bm_gi (bm_si w s2 (s1).toNat s0) v0 9) + (1 : Int)))) v0 35)) (v6).toNat x3) v0 9 (bm_w ((bm_gi (bm_sq w3 (bm_u (bm_gr (bm_si (bm_si w s2 (s1).toNat s0) v0 9 (bm_w ((bm_gi (bm_si w s2 (s1).toNat s0) v0 9) + (1 : Int)))) v0 35)) (v6).toNat x3) v0 9) + (1 : Int)))) (bm_u (bm_gr (bm_si (bm_sq w3 (bm_u (bm_gr (bm_si (bm_si w s2 (s1).toNat s0) v0 9 (bm_w ((bm_gi (bm_si w s2 (s1).toNat s0) v0 9) + (1 : Int)))) v0 35)) (v6).toNat x3) v0 9 (bm_w ((bm_gi (bm_sq w3 (bm_u (bm_gr (bm_si (bm_si w s2 (s1).toNat s0) v0 9 (bm_w ((bm_gi (bm_si w s2 (s1).toNat s0) v0 9) + (1 : Int)))) v0 35)) (v6).toNat x3) v0 9) + (1 : Int)))) v0 31)) = 21 ∧ bm_in (bm_gi (bm_si (bm_sq w3 (bm_u (bm_gr (bm_si (bm_si w s2 (s1).toNat s0) v0 9 (bm_w ((bm_gi (bm_si w s2 (s1).toNat s0) v0 9) + (1 : Int)))) v0 35)) (v6).toNat x3) v0 9 (bm_w ((bm_gi (bm_sq w3 (bm_u (bm_gr (bm_si (bm_si w s2 (s1).toNat s0) v0 9 (bm_w ((bm_gi (bm_si w s2 (s1).toNat s0) v0 9) + (1 : Int)))) v0 35)) (v6).toNat x3) v0 9) + (1 : Int)))) v0 28) (bm_kn (bm_si (bm_sq w3 (bm_u (bm_gr (bm_si (bm_si w s2 (s1).toNat s0) v0 9 (bm_w ((bm_gi (bm_si w s2 (s1).toNat s0) v0 9) + (1 : Int)))) v0 35)) (v6).toNat x3) v0 9 (bm_w ((bm_gi (bm_sq w3 (bm_u (bm_gr (bm_si (bm_si w s2 (s1).toNat s0) v0 9 (bm_w ((bm_gi (bm_si w s2 (s1).toNat s0) v0 9) + (1 : Int)))) v0 35)) (v6).toNat x3) v0 9) + (1 : Int)))) (bm_u (bm_gr (bm_si (bm_sq w3 (bm_u (bm_gr (bm_si (bm_si w s2 (s1).toNat s0) v0 9 (bm_w ((bm_gi (bm_si w s2 (s1).toNat s0) v0 9) + (1 : Int)))) v0 35)) (v6).toNat x3) v0 9 (bm_w ((bm_gi (bm_sq w3 (bm_u (bm_gr (bm_si (bm_si w s2 (s1).toNat s0) v0 9 (bm_w ((bm_gi (bm_si w s2 (s1).toNat s0) v0 9) + (1 : Int)))) v0 35)) (v6).toNat x3) v0 9) + (1 : Int)))) v0 31)))) ∧
      (bm_kt (bm_si (bm_si (bm_sq w3 (bm_u (bm_gr (bm_si (bm_si w s2 (s1).toNat s0) v0 9 (bm_w ((bm_gi (bm_si w s2 (s1).toNat s0) v0 9) + (1 : Int)))) v0 35)) (v6).toNat x3) v0 9 (bm_w ((bm_gi (bm_sq w3 (bm_u (bm_gr (bm_si (bm_si w s2 (s1).toNat s0) v0 9 (bm_w ((bm_gi (bm_si w s2 (s1).toNat s0) v0 9) + (1 : Int)))) v0 35)) (v6).toNat x3) v0 9) + (1 : Int)))) (bm_u (bm_gr (bm_si (bm_sq w3 (bm_u (bm_gr (bm_si (bm_si w s2 (s1).toNat s0) v0 9 (bm_w ((bm_gi (bm_si w s2 (s1).toNat s0) v0 9) + (1 : Int)))) v0 35)) (v6).toNat x3) v0 9 (bm_w ((bm_gi (bm_sq w3 (bm_u (bm_gr (bm_si (bm_si w s2 (s1).toNat s0) v0 9 (bm_w ((bm_gi (bm_si w s2 (s1).toNat s0) v0 9) + (1 : Int)))) v0 35)) (v6).toNat x3) v0 9) + (1 : Int)))) v0 31)) ((bm_gi (bm_si (bm_sq w3 (bm_u (bm_gr (bm_si (bm_si w s2 (s1).toNat s0) v0 9 (bm_w ((bm_gi (bm_si w s2 (s1).toNat s0) v0 9) + (1 : Int)))) v0 35)) (v6).toNat x3) v0 9 (bm_w ((bm_gi (bm_sq w3 (bm_u (bm_gr (bm_si (bm_si w s2 (s1).toNat s0) v0 9 (bm_w ((bm_gi (bm_si w s2 (s1).toNat s0) v0 9) + (1 : Int)))) v0 35)) (v6).toNat x3) v0 9) + (1 : Int)))) v0 28)).toNat (bm_w ((bm_gi (bm_si (bm_sq w3 (bm_u (bm_gr (bm_si (bm_si w s2 (s1).toNat s0) v0 9 (bm_w ((bm_gi (bm_si w s2 (s1).toNat s0) v0 9) + (1 : Int)))) v0 35)) (v6).toNat x3) v0 9 (bm_w ((bm_gi (bm_sq w3 (bm_u (bm_gr (bm_si (bm_si w s2 (s1).toNat s0) v0 9 (bm_w ((bm_gi (bm_si w s2 (s1).toNat s0) v0 9) + (1 : Int)))) v0 35)) (v6).toNat x3) v0 9) + (1 : Int)))) (bm_u (bm_gr (bm_si (bm_sq w3 (bm_u (bm_gr (bm_si (bm_si w s2 (s1).toNat s0) v0 9 (bm_w ((bm_gi (bm_si w s2 (s1).toNat s0) v0 9) + (1 : Int)))) v0 35)) (v6).toNat x3) v0 9 (bm_w ((bm_gi (bm_sq w3 (bm_u (bm_gr (bm_si (bm_si w s2 (s1).toNat s0) v0 9 (bm_w ((bm_gi (bm_si w s2 (s1).toNat s0) v0 9) + (1 : Int)))) v0 35)) (v6).toNat x3) v0 9) + (1 : Int)))) v0 31)) ((bm_gi (bm_si (bm_sq w3 (bm_u (bm_gr (bm_si (bm_si w s2 (s1).toNat s0) v0 9 (bm_w ((bm_gi (bm_si w s2 (s1).toNat s0) v0 9) + (1 : Int)))) v0 35)) (v6).toNat x3) v0 9 (bm_w ((bm_gi (bm_sq w3 (bm_u (bm_gr (bm_si (bm_si w s2 (s1).toNat s0) v0 9 (bm_w ((bm_gi (bm_si w s2 (s1).toNat s0) v0 9) + (1 : Int)))) v0 35)) (v6).toNat x3) v0 9) + (1 : Int)))) v0 28)).toNat) + (1 : Int)))) v0 = 12) ∧
      (bm_kt (bm_si (bm_si (bm_sq w3 (bm_u (bm_gr (bm_si (bm_si w s2 (s1).toNat s0) v0 9 (bm_w ((bm_gi (bm_si w s2 (s1).toNat s0) v0 9) + (1 : Int)))) v0 35)) (v6).toNat x3) v0 9 (bm_w ((bm_gi (bm_sq w3 (bm_u (bm_gr (bm_si (bm_si w s2 (s1).toNat s0) v0 9 (bm_w ((bm_gi (bm_si w s2 (s1).toNat s0) v0 9) + (1 : Int)))) v0 35)) (v6).toNat x3) v0 9) + (1 : Int)))) (bm_u (bm_gr (bm_si (bm_sq w3 (bm_u (bm_gr (bm_si (bm_si w s2 (s1).toNat s0) v0 9 (bm_w ((bm_gi (bm_si w s2 (s1).toNat s0) v0 9) + (1 : Int)))) v0 35)) (v6).toNat x3) v0 9 (bm_w ((bm_gi (bm_sq w3 (bm_u (bm_gr (bm_si (bm_si w s2 (s1).toNat s0) v0 9 (bm_w ((bm_gi (bm_si w s2 (s1).toNat s0) v0 9) + (1 : Int)))) v0 35)) (v6).toNat x3) v0 9) + (1 : Int)))) v0 31)) ((bm_gi (bm_si (bm_sq w3 (bm_u (bm_gr (bm_si (bm_si w s2 (s1).toNat s0) v0 9 (bm_w ((bm_gi (bm_si w s2 (s1).toNat s0) v0 9) + (1 : Int)))) v0 35)) (v6).toNat x3) v0 9 (bm_w ((bm_gi (bm_sq w3 (bm_u (bm_gr (bm_si (bm_si w s2 (s1).toNat s0) v0 9 (bm_w ((bm_gi (bm_si w s2 (s1).toNat s0) v0 9) + (1 : Int)))) v0 35)) (v6).toNat x3) v0 9) + (1 : Int)))) v0 28)).toNat (bm_w ((bm_gi (bm_si (bm_sq w3 (bm_u (bm_gr (bm_si (bm_si w s2 (s1).toNat s0) v0 9 (bm_w ((bm_gi (bm_si w s2 (s1).toNat s0) v0 9) + (1 : Int)))) v0 35)) (v6).toNat x3) v0 9 (bm_w ((bm_gi (bm_sq w3 (bm_u (bm_gr (bm_si (bm_si w s2 (s1).toNat s0) v0 9 (bm_w ((bm_gi (bm_si w s2 (s1).toNat s0) v0 9) + (1 : Int)))) v0 35)) (v6).toNat x3) v0 9) + (1 : Int)))) (bm_u (bm_gr (bm_si (bm_sq w3 (bm_u (bm_gr (bm_si (bm_si w s2 (s1).toNat s0) v0 9 (bm_w ((bm_gi (bm_si w s2 (s1).toNat s0) v0 9) + (1 : Int)))) v0 35)) (v6).toNat x3) v0 9 (bm_w ((bm_gi (bm_sq w3 (bm_u (bm_gr (bm_si (bm_si w s2 (s1).toNat s0) v0 9 (bm_w ((bm_gi (bm_si w s2 (s1).toNat s0) v0 9) + (1 : Int)))) v0 35)) (v6).toNat x3) v0 9) + (1 : Int)))) v0 31)) ((bm_gi (bm_si (bm_sq w3 (bm_u (bm_gr (bm_si (bm_si w s2 (s1).toNat s0) v0 9 (bm_w ((bm_gi (bm_si w s2 (s1).toNat s0) v0 9) + (1 : Int)))) v0 35)) (v6).toNat x3) v0 9 (bm_w ((bm_gi (bm_sq w3 (bm_u (bm_gr (bm_si (bm_si w s2 (s1).toNat s0) v0 9 (bm_w ((bm_gi (bm_si w s2 (s1).toNat s0) v0 9) + (1 : Int)))) v0 35)) (v6).toNat x3) v0 9) + (1 : Int)))) v0 28)).toNat) + (1 : Int)))) v0 = 12) ∧ bm_Call bm_pg d y_X12_cases [bm_r (some v0), bm_i (bm_gi (bm_si (bm_si (bm_sq w3 (bm_u (bm_gr (bm_si (bm_si w s2 (s1).toNat s0) v0 9 (bm_w ((bm_gi (bm_si w s2 (s1).toNat s0) v0 9) + (1 : Int)))) v0 35)) (v6).toNat x3) v0 9 (bm_w ((bm_gi (bm_sq w3 (bm_u (bm_gr (bm_si (bm_si w s2 (s1).toNat s0) v0 9 (bm_w ((bm_gi (bm_si w s2 (s1).toNat s0) v0 9) + (1 : Int)))) v0 35)) (v6).toNat x3) v0 9) + (1 : Int)))) (bm_u (bm_gr (bm_si (bm_sq w3 (bm_u (bm_gr (bm_si (bm_si w s2 (s1).toNat s0) v0 9 (bm_w ((bm_gi (bm_si w s2 (s1).toNat s0) v0 9) + (1 : Int)))) v0 35)) (v6).toNat x3) v0 9 (bm_w ((bm_gi (bm_sq w3 (bm_u (bm_gr (bm_si (bm_si w s2 (s1).toNat s0) v0 9 (bm_w ((bm_gi (bm_si w s2 (s1).toNat s0) v0 9) + (1 : Int)))) v0 35)) (v6).toNat x3) v0 9) + (1 : Int)))) v0 31)) ((bm_gi (bm_si (bm_sq w3 (bm_u (bm_gr (bm_si (bm_si w s2 (s1).toNat s0) v0 9 (bm_w ((bm_gi (bm_si w s2 (s1).toNat s0) v0 9) + (1 : Int)))) v0 35)) (v6).toNat x3) v0 9 (bm_w ((bm_gi (bm_sq w3 (bm_u (bm_gr (bm_si (bm_si w s2 (s1).toNat s0) v0 9 (bm_w ((bm_gi (bm_si w s2 (s1).toNat s0) v0 9) + (1 : Int)))) v0 35)) (v6).toNat x3) v0 9) + (1 : Int)))) v0 28)).toNat (bm_w ((bm_gi (bm_si (bm_sq w3 (bm_u (bm_gr (bm_si (bm_si w s2 (s1).toNat s0) v0 9 (bm_w ((bm_gi (bm_si w s2 (s1).toNat s0) v0 9) + (1 : Int)))) v0 35)) (v6).toNat x3) v0 9 (bm_w ((bm_gi (bm_sq w3 (bm_u (bm_gr (bm_si (bm_si w s2 (s1).toNat s0) v0 9 (bm_w ((bm_gi (bm_si w s2 (s1).toNat s0) v0 9) + (1 : Int)))) v0 35)) (v6).toNat x3) v0 9) + (1 : Int)))) (bm_u (bm_gr (bm_si (bm_sq w3 (bm_u (bm_gr (bm_si (bm_si w s2 (s1).toNat s0) v0 9 (bm_w ((bm_gi (bm_si w s2 (s1).toNat s0) v0 9) + (1 : Int)))) v0 35)) (v6).toNat x3) v0 9 (bm_w ((bm_gi (bm_sq w3 (bm_u (bm_gr (bm_si (bm_si w s2 (s1).toNat s0) v0 9 (bm_w ((bm_gi (bm_si w s2 (s1).toNat s0) v0 9) + (1 : Int)))) v0 35)) (v6).toNat x3) v0 9) + (1 : Int)))) v0 31)) ((bm_gi (bm_si (bm_sq w3 (bm_u (bm_gr (bm_si (bm_si w s2 (s1).toNat s0) v0 9 (bm_w ((bm_gi (bm_si w s2 (s1).toNat s0) v0 9) + (1 : Int)))) v0 35)) (v6).toNat x3) v0 9 (bm_w ((bm_gi (bm_sq w3 (bm_u (bm_gr (bm_si (bm_si w s2 (s1).toNat s0) v0 9 (bm_w ((bm_gi (bm_si w s2 (s1).toNat s0) v0 9) + (1 : Int)))) v0 35)) (v6).toNat x3) v0 9) + (1 : Int)))) v0 28)).toNat) + (1 : Int)))) v0 28)] (bm_si (bm_si (bm_sq w3 (bm_u (bm_gr (bm_si (bm_si w s2 (s1).toNat s0) v0 9 (bm_w ((bm_gi (bm_si w s2 (s1).toNat s0) v0 9) + (1 : Int)))) v0 35)) (v6).toNat x3) v0 9 (bm_w ((bm_gi (bm_sq w3 (bm_u (bm_gr (bm_si (bm_si w s2 (s1).toNat s0) v0 9 (bm_w ((bm_gi (bm_si w s2 (s1).toNat s0) v0 9) + (1 : Int)))) v0 35)) (v6).toNat x3) v0 9) + (1 : Int)))) (bm_u (bm_gr (bm_si (bm_sq w3 (bm_u (bm_gr (bm_si (bm_si w s2 (s1).toNat s0) v0 9 (bm_w ((bm_gi (bm_si w s2 (s1).toNat s0) v0 9) + (1 : Int)))) v0 35)) (v6).toNat x3) v0 9 (bm_w ((bm_gi (bm_sq w3 (bm_u (bm_gr (bm_si (bm_si w s2 (s1).toNat s0) v0 9 (bm_w ((bm_gi (bm_si w s2 (s1).toNat s0) v0 9) + (1 : Int)))) v0 35)) (v6).toNat x3) v0 9) + (1 : Int)))) v0 31)) ((bm_gi (bm_si (bm_sq w3 (bm_u (bm_gr (bm_si (bm_si w s2 (s1).toNat s0) v0 9 (bm_w ((bm_gi (bm_si w s2 (s1).toNat s0) v0 9) + (1 : Int)))) v0 35)) (v6).toNat x3) v0 9 (bm_w ((bm_gi (bm_sq w3 (bm_u (bm_gr (bm_si (bm_si w s2 (s1).toNat s0) v0 9 (bm_w ((bm_gi (bm_si w s2 (s1).toNat s0) v0 9) + (1 : Int)))) v0 35)) (v6).toNat x3) v0 9) + (1 : Int)))) v0 28)).toNat (bm_w ((bm_gi (bm_si (bm_sq w3 (bm_u (bm_gr (bm_si (bm_si w s2 (s1).toNat s0) v0 9 (bm_w ((bm_gi (bm_si w s2 (s1).toNat s0) v0 9) + (1 : Int)))) v0 35)) (v6).toNat x3) v0 9 (bm_w ((bm_gi (bm_sq w3 (bm_u (bm_gr (bm_si (bm_si w s2 (s1).toNat s0) v0 9 (bm_w ((bm_gi (bm_si w s2 (s1).toNat s0) v0 9) + (1 : Int)))) v0 35)) (v6).toNat x3) v0 9) + (1 : Int)))) (bm_u (bm_gr (bm_si (bm_sq w3 (bm_u (bm_gr (bm_si (bm_si w s2 (s1).toNat s0) v0 9 (bm_w ((bm_gi (bm_si w s2 (s1).toNat s0) v0 9) + (1 : Int)))) v0 35)) (v6).toNat x3) v0 9 (bm_w ((bm_gi (bm_sq w3 (bm_u (bm_gr (bm_si (bm_si w s2 (s1).toNat s0) v0 9 (bm_w ((bm_gi (bm_si w s2 (s1).toNat s0) v0 9) + (1 : Int)))) v0 35)) (v6).toNat x3) v0 9) + (1 : Int)))) v0 31)) ((bm_gi (bm_si (bm_sq w3 (bm_u (bm_gr (bm_si (bm_si w s2 (s1).toNat s0) v0 9 (bm_w ((bm_gi (bm_si w s2 (s1).toNat s0) v0 9) + (1 : Int)))) v0 35)) (v6).toNat x3) v0 9 (bm_w ((bm_gi (bm_sq w3 (bm_u (bm_gr (bm_si (bm_si w s2 (s1).toNat s0) v0 9 (bm_w ((bm_gi (bm_si w s2 (s1).toNat s0) v0 9) + (1 : Int)))) v0 35)) (v6).toNat x3) v0 9) + (1 : Int)))) v0 28)).toNat) + (1 : Int)))) (fun r4 w4 => 
        bm_c1 (fun x4 => (if (decide (x4 ≤ (100 : Int))) = true then
          Φ (.inl (some (bm_i (0 : Int)))) w4
        else
          (bm_kt w4 v0 = 12) ∧ bm_Call bm_pg d y_X12_wrong [bm_r (some v0), bm_i (4 : Int), bm_i v1] w4 (fun r5 w5 => 
            bm_c1 (fun x5 => Φ (.inl (some (bm_i x5))) w5) (fun E => Φ (.inr E) w5) r5))) (fun E => Φ (.inr E) w4) r4)) (fun E => Φ (.inr E) w3) r3))) : bk_X12_row_184 d Φ v0 v1 v6 s0 s1 s2 w := bm_go (bm_Call_mono _ _) [44, 184] 152 _ h
/-! CaseTablesModel.cell(III)I -/
def bk_X12_cell_15 (d : Nat) (Φ : bm_Rt → bm_W → Prop) (v0 : Nat) (v1 : Int) (v2 : Int) (v3 : Int) (s0 : Int) (w : bm_W) : Prop := bm_Wp (bm_Call bm_pg d) tb_X12_cell Φ (15, [some (bm_r (some v0)), some (bm_i v1), some (bm_i v2), some (bm_i v3), none, none, none, none, none], [bm_i s0], w)
def bk_X12_cell_57 (d : Nat) (Φ : bm_Rt → bm_W → Prop) (v0 : Nat) (v2 : Int) (v3 : Int) (v4 : Int) (v5 : Int) (s0 : Int) (w : bm_W) : Prop := bm_Wp (bm_Call bm_pg d) tb_X12_cell Φ (57, [some (bm_r (some v0)), none, some (bm_i v2), some (bm_i v3), some (bm_i v4), some (bm_i v5), none, none, none], [bm_i s0], w)
def bk_X12_cell_115 (d : Nat) (Φ : bm_Rt → bm_W → Prop) (v0 : Nat) (v2 : Int) (v3 : Int) (v4 : Int) (v6 : Int) (v7 : Int) (w : bm_W) : Prop := bm_Wp (bm_Call bm_pg d) tb_X12_cell Φ (115, [some (bm_r (some v0)), none, some (bm_i v2), some (bm_i v3), some (bm_i v4), none, some (bm_i v6), some (bm_i v7), none], [], w)
set_option maxRecDepth 20000 in
theorem vc_X12_cell {d : Nat} {Φ : bm_Rt → bm_W → Prop} {p0 : Nat} {p1 : Int} {p2 : Int} {p3 : Int} {w : bm_W} (h :
  (bm_kt w p0 = 12 ∧ bm_gr w p0 20 = some (bm_u (bm_gr w p0 20))) ∧
  (bm_kt w (bm_u (bm_gr w p0 20)) = 21 ∧ bm_in p1 (bm_kn w (bm_u (bm_gr w p0 20)))) ∧
  (if (decide ((bm_gi w (bm_u (bm_gr w p0 20)) (p1).toNat) ≤ p3)) = true then
    bk_X12_cell_15 d Φ p0 p1 p2 p3 (0 : Int) w
  else
    bk_X12_cell_15 d Φ p0 p1 p2 p3 (1 : Int) w)) : bm_Call bm_pg (d + 1) y_X12_cell [bm_r (some p0), bm_i p1, bm_i p2, bm_i p3] w Φ := bm_enter rfl (bm_go (bm_Call_mono _ _) [15, 57, 115] 110 _ h)
set_option maxRecDepth 20000 in
theorem vb_X12_cell_15 {d : Nat} {Φ : bm_Rt → bm_W → Prop} {v0 : Nat} {v1 : Int} {v2 : Int} {v3 : Int} {s0 : Int} {w : bm_W} (h :
  (if (decide (s0 = 0)) = true then
    (if (decide (s0 = 0)) = true then
      bk_X12_cell_57 d Φ v0 v2 v3 s0 (0 : Int) (0 : Int) w
    else
      (bm_kt w v0 = 12 ∧ bm_gr w v0 23 = some (bm_u (bm_gr w v0 23))) ∧
      (bm_kt w (bm_u (bm_gr w v0 23)) = 21 ∧ bm_in (bm_w ((bm_w ((3 : Int) * v1)) + v3)) (bm_kn w (bm_u (bm_gr w v0 23)))) ∧
      bk_X12_cell_57 d Φ v0 v2 v3 s0 (0 : Int) (bm_gi w (bm_u (bm_gr w v0 23)) ((bm_w ((bm_w ((3 : Int) * v1)) + v3))).toNat) w)
  else
    (bm_kt w v0 = 12 ∧ bm_gr w v0 22 = some (bm_u (bm_gr w v0 22))) ∧
    (bm_kt w (bm_u (bm_gr w v0 22)) = 21 ∧ bm_in (bm_w ((bm_w ((3 : Int) * v1)) + v3)) (bm_kn w (bm_u (bm_gr w v0 22)))) ∧
    (if (decide (s0 = 0)) = true then
      bk_X12_cell_57 d Φ v0 v2 v3 s0 (bm_gi w (bm_u (bm_gr w v0 22)) ((bm_w ((bm_w ((3 : Int) * v1)) + v3))).toNat) (0 : Int) w
    else
      (bm_kt w v0 = 12 ∧ bm_gr w v0 23 = some (bm_u (bm_gr w v0 23))) ∧
      (bm_kt w (bm_u (bm_gr w v0 23)) = 21 ∧ bm_in (bm_w ((bm_w ((3 : Int) * v1)) + v3)) (bm_kn w (bm_u (bm_gr w v0 23)))) ∧
      bk_X12_cell_57 d Φ v0 v2 v3 s0 (bm_gi w (bm_u (bm_gr w v0 22)) ((bm_w ((bm_w ((3 : Int) * v1)) + v3))).toNat) (bm_gi w (bm_u (bm_gr w v0 23)) ((bm_w ((bm_w ((3 : Int) * v1)) + v3))).toNat) w))) : bk_X12_cell_15 d Φ v0 v1 v2 v3 s0 w := bm_go (bm_Call_mono _ _) [15, 57, 115] 110 _ h
set_option maxRecDepth 20000 in
theorem vb_X12_cell_57 {d : Nat} {Φ : bm_Rt → bm_W → Prop} {v0 : Nat} {v2 : Int} {v3 : Int} {v4 : Int} {v5 : Int} {s0 : Int} {w : bm_W} (h :
  (bm_kt w v0 = 12) ∧ bm_Call bm_pg d y_X12_takes [bm_r (some v0), bm_k (0, 14)] w (fun r1 w1 => 
    bm_c1 (fun x1 => (if (decide (x1 = 0)) = true then
      (bm_kt w1 v0 = 12) ∧ bm_Call bm_pg d y_X12_whole [bm_r (some v0)] w1 (fun r2 w2 => 
        bm_c1 (fun x2 => (if (decide (v4 = 0)) = true then
          bk_X12_cell_115 d Φ v0 v2 v3 v4 s0 x2 w2
        else
          (True) ∧ bm_Call bm_pg d y_X12_isIn [bm_i x2, bm_i v5, bm_i s0] w2 (fun r3 w3 => 
            bm_c1 (fun x3 => (if (!decide (x3 = 0)) = true then
              bk_X12_cell_115 d Φ v0 v2 v3 v4 s0 x2 w3
            else
              (bm_kt w3 v0 = 12) ∧
              (bm_kt w3 v0 = 12) ∧ bm_Call bm_pg d y_X12_wrong [bm_r (some v0), bm_i (5 : Int), bm_i (bm_gi w3 v0 9)] w3 (fun r4 w4 => 
                bm_c1 (fun x4 => Φ (.inl (some (bm_i x4))) w4) (fun E => Φ (.inr E) w4) r4))) (fun E => Φ (.inr E) w3) r3))) (fun E => Φ (.inr E) w2) r2)
    else
      (bm_kt w1 v0 = 12) ∧ bm_Call bm_pg d y_X12_setCell [bm_r (some v0), bm_i v2, bm_i v3, bm_i v4, bm_i v5, bm_i s0] w1 (fun r5 w5 => 
        bm_c0 (Φ (.inl (some (bm_i (0 : Int)))) w5) (fun E => Φ (.inr E) w5) r5))) (fun E => Φ (.inr E) w1) r1)) : bk_X12_cell_57 d Φ v0 v2 v3 v4 v5 s0 w := bm_go (bm_Call_mono _ _) [15, 57, 115] 110 _ h
set_option maxRecDepth 20000 in
theorem vb_X12_cell_115 {d : Nat} {Φ : bm_Rt → bm_W → Prop} {v0 : Nat} {v2 : Int} {v3 : Int} {v4 : Int} {v6 : Int} {v7 : Int} {w : bm_W} (h :
  (bm_kt w v0 = 12) ∧
  (bm_kt w v0 = 12) ∧
  (bm_kt (bm_si w v0 9 (bm_w ((bm_gi w v0 9) + (1 : Int)))) v0 = 12) ∧ bm_Call bm_pg d y_X12_takes [bm_r (some v0), bm_k (0, 11)] (bm_si w v0 9 (bm_w ((bm_gi w v0 9) + (1 : Int)))) (fun r1 w1 => 
    bm_c1 (fun x1 => (if (decide (x1 = 0)) = true then
      (bm_kt w1 v0 = 12) ∧ bm_Call bm_pg d y_X12_setCell [bm_r (some v0), bm_i v2, bm_i v3, bm_i v4, bm_i v7, bm_i v7] w1 (fun r2 w2 => 
        bm_c0 (Φ (.inl (some (bm_i (0 : Int)))) w2) (fun E => Φ (.inr E) w2) r2)
    else
      (bm_kt w1 v0 = 12) ∧ bm_Call bm_pg d y_X12_whole [bm_r (some v0)] w1 (fun r3 w3 => 
        bm_c1 (fun x3 => (if (decide (v4 = 0)) = true then
          (bm_kt w3 v0 = 12) ∧
          (bm_kt w3 v0 = 12) ∧
          (bm_kt (bm_si w3 v0 9 (bm_w ((bm_gi w3 v0 9) + (1 : Int)))) v0 = 12) ∧ bm_Call bm_pg d y_X12_setCell [bm_r (some v0), bm_i v2, bm_i v3, bm_i v4, bm_i v7, bm_i x3] (bm_si w3 v0 9 (bm_w ((bm_gi w3 v0 9) + (1 : Int)))) (fun r4 w4 => 
            bm_c0 (Φ (.inl (some (bm_i (0 : Int)))) w4) (fun E => Φ (.inr E) w4) r4)
        else
          (True) ∧ bm_Call bm_pg d y_X12_isIn [bm_i x3, bm_i v7, bm_i v6] w3 (fun r5 w5 => 
            bm_c1 (fun x5 => (if (!decide (x5 = 0)) = true then
              (bm_kt w5 v0 = 12) ∧
              (bm_kt w5 v0 = 12) ∧
              (bm_kt (bm_si w5 v0 9 (bm_w ((bm_gi w5 v0 9) + (1 : Int)))) v0 = 12) ∧ bm_Call bm_pg d y_X12_setCell [bm_r (some v0), bm_i v2, bm_i v3, bm_i v4, bm_i v7, bm_i x3] (bm_si w5 v0 9 (bm_w ((bm_gi w5 v0 9) + (1 : Int)))) (fun r6 w6 => 
                bm_c0 (Φ (.inl (some (bm_i (0 : Int)))) w6) (fun E => Φ (.inr E) w6) r6)
            else
              (bm_kt w5 v0 = 12) ∧
              (bm_kt w5 v0 = 12) ∧ bm_Call bm_pg d y_X12_wrong [bm_r (some v0), bm_i (5 : Int), bm_i (bm_gi w5 v0 9)] w5 (fun r7 w7 => 
                bm_c1 (fun x7 => Φ (.inl (some (bm_i x7))) w7) (fun E => Φ (.inr E) w7) r7))) (fun E => Φ (.inr E) w5) r5))) (fun E => Φ (.inr E) w3) r3))) (fun E => Φ (.inr E) w1) r1)) : bk_X12_cell_115 d Φ v0 v2 v3 v4 v6 v7 w := bm_go (bm_Call_mono _ _) [15, 57, 115] 110 _ h
/-! CaseTablesModel.setCell(IIZII)V -/
set_option maxRecDepth 20000 in
theorem vc_X12_setCell {d : Nat} {Φ : bm_Rt → bm_W → Prop} {p0 : Nat} {p1 : Int} {p2 : Int} {p3 : Int} {p4 : Int} {p5 : Int} {w : bm_W} (h :
  (if (!decide (p3 = 0)) = true then
    (bm_kt w p0 = 12 ∧ bm_gr w p0 32 = some (bm_u (bm_gr w p0 32))) ∧
    (bm_kt w (bm_u (bm_gr w p0 32)) = 21 ∧ bm_in (bm_w (p1 + p2)) (bm_kn w (bm_u (bm_gr w p0 32)))) ∧
    (bm_kt (bm_si w (bm_u (bm_gr w p0 32)) ((bm_w (p1 + p2))).toNat p4) p0 = 12 ∧ bm_gr (bm_si w (bm_u (bm_gr w p0 32)) ((bm_w (p1 + p2))).toNat p4) p0 33 = some (bm_u (bm_gr (bm_si w (bm_u (bm_gr w p0 32)) ((bm_w (p1 + p2))).toNat p4) p0 33))) ∧
    (bm_kt (bm_si w (bm_u (bm_gr w p0 32)) ((bm_w (p1 + p2))).toNat p4) (bm_u (bm_gr (bm_si w (bm_u (bm_gr w p0 32)) ((bm_w (p1 + p2))).toNat p4) p0 33)) = 21 ∧ bm_in (bm_w (p1 + p2)) (bm_kn (bm_si w (bm_u (bm_gr w p0 32)) ((bm_w (p1 + p2))).toNat p4) (bm_u (bm_gr (bm_si w (bm_u (bm_gr w p0 32)) ((bm_w (p1 + p2))).toNat p4) p0 33)))) ∧
    Φ (.inl none) (bm_si (bm_si w (bm_u (bm_gr w p0 32)) ((bm_w (p1 + p2))).toNat p4) (bm_u (bm_gr (bm_si w (bm_u (bm_gr w p0 32)) ((bm_w (p1 + p2))).toNat p4) p0 33)) ((bm_w (p1 + p2))).toNat p5)
  else
    Φ (.inl none) w)) : bm_Call bm_pg (d + 1) y_X12_setCell [bm_r (some p0), bm_i p1, bm_i p2, bm_i p3, bm_i p4, bm_i p5] w Φ := bm_enter rfl (bm_go (bm_Call_mono _ _) [] 20 _ h)
/-! CaseTablesModel.forget()V -/
def bk_X12_forget_20 (d : Nat) (Φ : bm_Rt → bm_W → Prop)  (w : bm_W) : Prop := bm_Wp (bm_Call bm_pg d) tb_X12_forget Φ (20, [none], [], w)
set_option maxRecDepth 20000 in
theorem vc_X12_forget {d : Nat} {Φ : bm_Rt → bm_W → Prop} {p0 : Nat} {w : bm_W} (h :
  (bm_kt w p0 = 12) ∧
  (bm_kt (bm_si w p0 18 (0 : Int)) p0 = 12) ∧
  (bm_kt (bm_si (bm_si w p0 18 (0 : Int)) p0 28 (0 : Int)) p0 = 12) ∧
  (bm_kt (bm_si (bm_si (bm_si w p0 18 (0 : Int)) p0 28 (0 : Int)) p0 27 (0 : Int)) p0 = 12) ∧
  bk_X12_forget_20 d Φ  (bm_si (bm_si (bm_si (bm_si w p0 18 (0 : Int)) p0 28 (0 : Int)) p0 27 (0 : Int)) p0 11 (0 : Int))) : bm_Call bm_pg (d + 1) y_X12_forget [bm_r (some p0)] w Φ := bm_enter rfl (bm_go (bm_Call_mono _ _) [20] 15 _ h)
set_option maxRecDepth 20000 in
theorem vb_X12_forget_20 {d : Nat} {Φ : bm_Rt → bm_W → Prop}  {w : bm_W} (h :
  Φ (.inl none) w) : bk_X12_forget_20 d Φ  w := bm_go (bm_Call_mono _ _) [20] 15 _ h
/-! CaseTablesModel.compile()I -/
def bk_X12_compile_43 (d : Nat) (Φ : bm_Rt → bm_W → Prop) (v0 : Nat) (s0 : Int) (w : bm_W) : Prop := bm_Wp (bm_Call bm_pg d) tb_X12_compile Φ (43, [some (bm_r (some v0)), none], [bm_i s0], w)
set_option maxRecDepth 20000 in
theorem vc_X12_compile {d : Nat} {Φ : bm_Rt → bm_W → Prop} {p0 : Nat} {w : bm_W} (h :
  (bm_kt w p0 = 12) ∧
  (bm_kt (bm_si w p0 0 (0 : Int)) p0 = 12) ∧ bm_Call bm_pg d y_X12_forget [bm_r (some p0)] (bm_si w p0 0 (0 : Int)) (fun r1 w1 => 
    bm_c0 ((bm_kt w1 p0 = 12) ∧
    (bm_kt (bm_si w1 p0 3 (-1 : Int)) p0 = 12) ∧ bm_Call bm_pg d y_X12_scan [bm_r (some p0)] (bm_si w1 p0 3 (-1 : Int)) (fun r2 w2 => 
      bm_c0 ((bm_kt w2 p0 = 12) ∧
      (bm_kt (bm_si w2 p0 9 (0 : Int)) p0 = 12) ∧ bm_Call bm_pg d y_X12_program [bm_r (some p0)] (bm_si w2 p0 9 (0 : Int)) (fun r3 w3 => 
        bm_c1 (fun x3 => (if (decide (x3 = 0)) = true then
          (bm_kt w3 p0 = 12) ∧
          (bm_kt w3 p0 = 12) ∧ bm_Call bm_pg d y_X12_wrong [bm_r (some p0), bm_i (1 : Int), bm_i (bm_gi w3 p0 9)] w3 (fun r4 w4 => 
            bm_c1 (fun x4 => bk_X12_compile_43 d Φ p0 x4 w4) (fun E => Φ (.inr E) w4) r4)
        else
          bk_X12_compile_43 d Φ p0 (0 : Int) w3)) (fun E => Φ (.inr E) w3) r3)) (fun E => Φ (.inr E) w2) r2)) (fun E => Φ (.inr E) w1) r1)) : bm_Call bm_pg (d + 1) y_X12_compile [bm_r (some p0)] w Φ := bm_enter rfl (bm_go (bm_Call_mono _ _) [43] 43 _ h)
set_option maxRecDepth 20000 in
theorem vb_X12_compile_43 {d : Nat} {Φ : bm_Rt → bm_W → Prop} {v0 : Nat} {s0 : Int} {w : bm_W} (h :
  (bm_kt w v0 = 12) ∧
  (if (!decide (s0 = 0)) = true then
    (bm_kt (bm_si w v0 9 (0 : Int)) v0 = 12) ∧
    (if (decide (s0 = 0)) = true then
      Φ (.inl (some (bm_i s0))) (bm_si (bm_si w v0 9 (0 : Int)) v0 2 (0 : Int))
    else
      (bm_kt (bm_si (bm_si w v0 9 (0 : Int)) v0 2 (0 : Int)) v0 = 12) ∧ bm_Call bm_pg d y_X12_forget [bm_r (some v0)] (bm_si (bm_si w v0 9 (0 : Int)) v0 2 (0 : Int)) (fun r1 w1 => 
        bm_c0 (Φ (.inl (some (bm_i s0))) w1) (fun E => Φ (.inr E) w1) r1))
  else
    (bm_kt (bm_si w v0 9 (0 : Int)) v0 = 12) ∧ bm_Call bm_pg d y_X12_meaning [bm_r (some v0)] (bm_si w v0 9 (0 : Int)) (fun r2 w2 => 
      bm_c1 (fun x2 => (bm_kt w2 v0 = 12) ∧
      (if (decide (x2 = 0)) = true then
        Φ (.inl (some (bm_i x2))) (bm_si w2 v0 2 (0 : Int))
      else
        (bm_kt (bm_si w2 v0 2 (0 : Int)) v0 = 12) ∧ bm_Call bm_pg d y_X12_forget [bm_r (some v0)] (bm_si w2 v0 2 (0 : Int)) (fun r3 w3 => 
          bm_c0 (Φ (.inl (some (bm_i x2))) w3) (fun E => Φ (.inr E) w3) r3))) (fun E => Φ (.inr E) w2) r2))) : bk_X12_compile_43 d Φ v0 s0 w := bm_go (bm_Call_mono _ _) [43] 43 _ h
/-! CaseTablesModel.errorAt()I -/
set_option maxRecDepth 20000 in
theorem vc_X12_errorAt {d : Nat} {Φ : bm_Rt → bm_W → Prop} {p0 : Nat} {w : bm_W} (h :
  (bm_kt w p0 = 12) ∧
  (bm_kt (bm_si w p0 0 (0 : Int)) p0 = 12) ∧
  Φ (.inl (some (bm_i (bm_gi (bm_si w p0 0 (0 : Int)) p0 3)))) (bm_si w p0 0 (0 : Int))) : bm_Call bm_pg (d + 1) y_X12_errorAt [bm_r (some p0)] w Φ := bm_enter rfl (bm_go (bm_Call_mono _ _) [] 8 _ h)
/-! CaseTablesModel.truth(Z)J -/
set_option maxRecDepth 20000 in
theorem vc_X12_truth {d : Nat} {Φ : bm_Rt → bm_W → Prop} {p0 : Int} {w : bm_W} (h :
  (if (decide (p0 = 0)) = true then
    Φ (.inl (some (bm_l (0 : Int)))) w
  else
    Φ (.inl (some (bm_l (1 : Int)))) w)) : bm_Call bm_pg (d + 1) y_X12_truth [bm_i p0] w Φ := bm_enter rfl (bm_go (bm_Call_mono _ _) [] 8 _ h)
/-! CaseTablesModel.changed(I)I -/
set_option maxRecDepth 20000 in
theorem vc_X12_changed {d : Nat} {Φ : bm_Rt → bm_W → Prop} {p0 : Int} {w : bm_W} (h :
  (if (!decide (p0 = (12 : Int))) = true then
    Φ (.inl (some (bm_i ((Int32.ofInt p0 ^^^ Int32.ofInt (1 : Int)).toInt)))) w
  else
    Φ (.inl (some (bm_i (10 : Int)))) w)) : bm_Call bm_pg (d + 1) y_X12_changed [bm_i p0] w Φ := bm_enter rfl (bm_go (bm_Call_mono _ _) [] 11 _ h)
/-! CaseTablesModel.fault()J -/
set_option maxRecDepth 20000 in
theorem vc_X12_fault {d : Nat} {Φ : bm_Rt → bm_W → Prop} {p0 : Nat} {w : bm_W} (h :
  (bm_kt w p0 = 12 ∧ ((1 : Int) = 0 ∨ (1 : Int) = 1)) ∧
  Φ (.inl (some (bm_l (0 : Int)))) (bm_si w p0 36 (1 : Int))) : bm_Call bm_pg (d + 1) y_X12_fault [bm_r (some p0)] w Φ := bm_enter rfl (bm_go (bm_Call_mono _ _) [] 7 _ h)
/-! CaseTablesModel.holds(IJJ)Z -/
set_option maxRecDepth 20000 in
theorem vc_X12_holds {d : Nat} {Φ : bm_Rt → bm_W → Prop} {p0 : Int} {p1 : Int} {p2 : Int} {w : bm_W} (h :
  (if (!decide (p0 = (2 : Int))) = true then
    (if (!decide (p0 = (3 : Int))) = true then
      (if (!decide (p0 = (4 : Int))) = true then
        (if (!decide (p0 = (5 : Int))) = true then
          (if (!decide (p0 = (6 : Int))) = true then
            (if (decide (p1 < p2)) = true then
              ((0 : Int) = 0 ∨ (0 : Int) = 1) ∧ Φ (.inl (some (bm_i (0 : Int)))) w
            else
              ((1 : Int) = 0 ∨ (1 : Int) = 1) ∧ Φ (.inl (some (bm_i (1 : Int)))) w)
          else
            (if (decide (p1 ≤ p2)) = true then
              ((0 : Int) = 0 ∨ (0 : Int) = 1) ∧ Φ (.inl (some (bm_i (0 : Int)))) w
            else
              ((1 : Int) = 0 ∨ (1 : Int) = 1) ∧ Φ (.inl (some (bm_i (1 : Int)))) w))
        else
          (if (decide (p2 < p1)) = true then
            ((0 : Int) = 0 ∨ (0 : Int) = 1) ∧ Φ (.inl (some (bm_i (0 : Int)))) w
          else
            ((1 : Int) = 0 ∨ (1 : Int) = 1) ∧ Φ (.inl (some (bm_i (1 : Int)))) w))
      else
        (if (decide (p2 ≤ p1)) = true then
          ((0 : Int) = 0 ∨ (0 : Int) = 1) ∧ Φ (.inl (some (bm_i (0 : Int)))) w
        else
          ((1 : Int) = 0 ∨ (1 : Int) = 1) ∧ Φ (.inl (some (bm_i (1 : Int)))) w))
    else
      (if (decide (p1 = p2)) = true then
        ((0 : Int) = 0 ∨ (0 : Int) = 1) ∧ Φ (.inl (some (bm_i (0 : Int)))) w
      else
        ((1 : Int) = 0 ∨ (1 : Int) = 1) ∧ Φ (.inl (some (bm_i (1 : Int)))) w))
  else
    (if (!decide (p1 = p2)) = true then
      ((0 : Int) = 0 ∨ (0 : Int) = 1) ∧ Φ (.inl (some (bm_i (0 : Int)))) w
    else
      ((1 : Int) = 0 ∨ (1 : Int) = 1) ∧ Φ (.inl (some (bm_i (1 : Int)))) w))) : bm_Call bm_pg (d + 1) y_X12_holds [bm_i p0, bm_l p1, bm_l p2] w Φ := bm_enter rfl (bm_go (bm_Call_mono _ _) [] 59 _ h)
/-! CaseTablesModel.worth(IJJJI)J -/
def bk_X12_worth_30 (d : Nat) (Φ : bm_Rt → bm_W → Prop) (v0 : Nat) (v1 : Int) (v2 : Int) (v4 : Int) (v6 : Int) (v8 : Int) (v9 : Int) (s0 : Int) (w : bm_W) : Prop := bm_Wp (bm_Call bm_pg d) tb_X12_worth Φ (30, [some (bm_r (some v0)), some (bm_i v1), some (bm_l v2), none, some (bm_l v4), none, some (bm_l v6), none, some (bm_i v8), some (bm_i v9), none, none, none, none], [bm_i s0], w)
def bk_X12_worth_228 (d : Nat) (Φ : bm_Rt → bm_W → Prop) (v0 : Nat) (v1 : Int) (v2 : Int) (v4 : Int) (v6 : Int) (v8 : Int) (v10 : Int) (s0 : Int) (w : bm_W) : Prop := bm_Wp (bm_Call bm_pg d) tb_X12_worth Φ (228, [some (bm_r (some v0)), some (bm_i v1), some (bm_l v2), none, some (bm_l v4), none, some (bm_l v6), none, some (bm_i v8), none, some (bm_i v10), none, none, none], [bm_i s0], w)
def bk_X12_worth_267 (d : Nat) (Φ : bm_Rt → bm_W → Prop) (v0 : Nat) (v1 : Int) (v2 : Int) (v4 : Int) (v6 : Int) (v8 : Int) (v13 : Int) (w : bm_W) : Prop := bm_Wp (bm_Call bm_pg d) tb_X12_worth Φ (267, [some (bm_r (some v0)), some (bm_i v1), some (bm_l v2), none, some (bm_l v4), none, some (bm_l v6), none, some (bm_i v8), none, none, none, none, some (bm_i v13)], [], w)
set_option maxRecDepth 20000 in
theorem vc_X12_worth {d : Nat} {Φ : bm_Rt → bm_W → Prop} {p0 : Nat} {p1 : Int} {p2 : Int} {p3 : Int} {p4 : Int} {p5 : Int} {w : bm_W} (h :
  (bm_kt w p0 = 12 ∧ bm_gr w p0 12 = some (bm_u (bm_gr w p0 12))) ∧
  (bm_kt w (bm_u (bm_gr w p0 12)) = 21 ∧ bm_in p1 (bm_kn w (bm_u (bm_gr w p0 12)))) ∧
  (if (decide (p5 = (-1 : Int))) = true then
    bk_X12_worth_30 d Φ p0 p1 p2 p3 p4 p5 (bm_gi w (bm_u (bm_gr w p0 12)) (p1).toNat) (0 : Int) w
  else
    (bm_kt w p0 = 12 ∧ bm_gr w p0 17 = some (bm_u (bm_gr w p0 17))) ∧
    (bm_kt w (bm_u (bm_gr w p0 17)) = 21 ∧ bm_in p1 (bm_kn w (bm_u (bm_gr w p0 17)))) ∧
    (if (!decide ((bm_gi w (bm_u (bm_gr w p0 17)) (p1).toNat) = p5)) = true then
      bk_X12_worth_30 d Φ p0 p1 p2 p3 p4 p5 (bm_gi w (bm_u (bm_gr w p0 12)) (p1).toNat) (0 : Int) w
    else
      bk_X12_worth_30 d Φ p0 p1 p2 p3 p4 p5 (bm_gi w (bm_u (bm_gr w p0 12)) (p1).toNat) (1 : Int) w))) : bm_Call bm_pg (d + 1) y_X12_worth [bm_r (some p0), bm_i p1, bm_l p2, bm_l p3, bm_l p4, bm_i p5] w Φ := bm_enter rfl (bm_go (bm_Call_mono _ _) [30, 228, 267] 184 _ h)
set_option maxRecDepth 20000 in
theorem vb_X12_worth_30 {d : Nat} {Φ : bm_Rt → bm_W → Prop} {v0 : Nat} {v1 : Int} {v2 : Int} {v4 : Int} {v6 : Int} {v8 : Int} {v9 : Int} {s0 : Int} {w : bm_W} (h :
  (if (!decide (v9 = 0)) = true then
    (if (!decide (v9 = (1 : Int))) = true then
      (if (!decide (v9 = (2 : Int))) = true then
        (bm_kt w v0 = 12 ∧ bm_gr w v0 13 = some (bm_u (bm_gr w v0 13))) ∧
        (bm_kt w (bm_u (bm_gr w v0 13)) = 21 ∧ bm_in v1 (bm_kn w (bm_u (bm_gr w v0 13)))) ∧
        (bm_kt w v0 = 12) ∧ bm_Call bm_pg d y_X12_worth [bm_r (some v0), bm_i (bm_gi w (bm_u (bm_gr w v0 13)) (v1).toNat), bm_l v2, bm_l v4, bm_l v6, bm_i v8] w (fun r1 w1 => 
          bm_c2 (fun x1 => (bm_kt w1 v0 = 12) ∧
          (if (decide ((bm_gi w1 v0 36) = 0)) = true then
            (if (!decide (v9 = (3 : Int))) = true then
              (if (!decide (v9 = (4 : Int))) = true then
                (if (!decide (v9 = (5 : Int))) = true then
                  (if (decide (x1 = (0 : Int))) = true then
                    bk_X12_worth_228 d Φ v0 v1 v2 v4 v6 v8 s0 (0 : Int) w1
                  else
                    bk_X12_worth_228 d Φ v0 v1 v2 v4 v6 v8 s0 (1 : Int) w1)
                else
                  (if (decide (s0 = 0)) = true then
                    (bm_kt w1 v0 = 12 ∧ bm_gr w1 v0 16 = some (bm_u (bm_gr w1 v0 16))) ∧
                    (bm_kt w1 (bm_u (bm_gr w1 v0 16)) = 21 ∧ bm_in v1 (bm_kn w1 (bm_u (bm_gr w1 v0 16)))) ∧
                    (bm_kt w1 v0 = 12) ∧ bm_Call bm_pg d y_X12_both [bm_r (some v0), bm_i v1, bm_i (bm_gi w1 (bm_u (bm_gr w1 v0 16)) (v1).toNat), bm_l x1, bm_l v2, bm_l v4, bm_l v6, bm_i v8] w1 (fun r2 w2 => 
                      bm_c2 (fun x2 => Φ (.inl (some (bm_l x2))) w2) (fun E => Φ (.inr E) w2) r2)
                  else
                    (bm_kt w1 v0 = 12 ∧ bm_gr w1 v0 16 = some (bm_u (bm_gr w1 v0 16))) ∧
                    (bm_kt w1 (bm_u (bm_gr w1 v0 16)) = 21 ∧ bm_in v1 (bm_kn w1 (bm_u (bm_gr w1 v0 16)))) ∧
                    (True) ∧ bm_Call bm_pg d y_X12_changed [bm_i (bm_gi w1 (bm_u (bm_gr w1 v0 16)) (v1).toNat)] w1 (fun r3 w3 => 
                      bm_c1 (fun x3 => (bm_kt w3 v0 = 12) ∧ bm_Call bm_pg d y_X12_both [bm_r (some v0), bm_i v1, bm_i x3, bm_l x1, bm_l v2, bm_l v4, bm_l v6, bm_i v8] w3 (fun r4 w4 => 
                        bm_c2 (fun x4 => Φ (.inl (some (bm_l x4))) w4) (fun E => Φ (.inr E) w4) r4)) (fun E => Φ (.inr E) w3) r3)))
              else
                (if (!decide (x1 = (0 : Int))) = true then
                  (True) ∧ bm_Call bm_pg d y_X12_truth [bm_i (0 : Int)] w1 (fun r5 w5 => 
                    bm_c2 (fun x5 => Φ (.inl (some (bm_l x5))) w5) (fun E => Φ (.inr E) w5) r5)
                else
                  (True) ∧ bm_Call bm_pg d y_X12_truth [bm_i (1 : Int)] w1 (fun r6 w6 => 
                    bm_c2 (fun x6 => Φ (.inl (some (bm_l x6))) w6) (fun E => Φ (.inr E) w6) r6)))
            else
              Φ (.inl (some (bm_l (bm_x (-x1))))) w1)
          else
            Φ (.inl (some (bm_l (0 : Int)))) w1)) (fun E => Φ (.inr E) w1) r1)
      else
        (bm_kt w v0 = 12) ∧ bm_Call bm_pg d y_X12_called [bm_r (some v0), bm_i v1, bm_l v2, bm_l v4, bm_l v6, bm_i v8] w (fun r7 w7 => 
          bm_c2 (fun x7 => Φ (.inl (some (bm_l x7))) w7) (fun E => Φ (.inr E) w7) r7))
    else
      (bm_kt w v0 = 12 ∧ bm_gr w v0 16 = some (bm_u (bm_gr w v0 16))) ∧
      (bm_kt w (bm_u (bm_gr w v0 16)) = 21 ∧ bm_in v1 (bm_kn w (bm_u (bm_gr w v0 16)))) ∧
      (if (!decide ((bm_gi w (bm_u (bm_gr w v0 16)) (v1).toNat) = 0)) = true then
        (bm_kt w v0 = 12 ∧ bm_gr w v0 16 = some (bm_u (bm_gr w v0 16))) ∧
        (bm_kt w (bm_u (bm_gr w v0 16)) = 21 ∧ bm_in v1 (bm_kn w (bm_u (bm_gr w v0 16)))) ∧
        (if (!decide ((bm_gi w (bm_u (bm_gr w v0 16)) (v1).toNat) = (1 : Int))) = true then
          Φ (.inl (some (bm_l v6))) w
        else
          Φ (.inl (some (bm_l v4))) w)
      else
        Φ (.inl (some (bm_l v2))) w))
  else
    (bm_kt w v0 = 12 ∧ bm_gr w v0 16 = some (bm_u (bm_gr w v0 16))) ∧
    (bm_kt w (bm_u (bm_gr w v0 16)) = 21 ∧ bm_in v1 (bm_kn w (bm_u (bm_gr w v0 16)))) ∧
    (if (decide (s0 = 0)) = true then
      Φ (.inl (some (bm_l (bm_w ((bm_gi w (bm_u (bm_gr w v0 16)) (v1).toNat) + (0 : Int)))))) w
    else
      Φ (.inl (some (bm_l (bm_w ((bm_gi w (bm_u (bm_gr w v0 16)) (v1).toNat) + (1 : Int)))))) w))) : bk_X12_worth_30 d Φ v0 v1 v2 v4 v6 v8 v9 s0 w := bm_go (bm_Call_mono _ _) [30, 228, 267] 184 _ h
set_option maxRecDepth 20000 in
theorem vb_X12_worth_228 {d : Nat} {Φ : bm_Rt → bm_W → Prop} {v0 : Nat} {v1 : Int} {v2 : Int} {v4 : Int} {v6 : Int} {v8 : Int} {v10 : Int} {s0 : Int} {w : bm_W} (h :
  (if (decide (s0 = v10)) = true then
    (bm_kt w v0 = 12) ∧
    (if (decide ((bm_gi w v0 37) = 0)) = true then
      bk_X12_worth_267 d Φ v0 v1 v2 v4 v6 v8 (0 : Int) w
    else
      (if (decide ((0 : Int) = 0)) = true then
        bk_X12_worth_267 d Φ v0 v1 v2 v4 v6 v8 (0 : Int) w
      else
        (bm_kt w v0 = 12 ∧ bm_gr w v0 38 = some (bm_u (bm_gr w v0 38))) ∧
        (bm_kt w v0 = 12 ∧ bm_gr w v0 16 = some (bm_u (bm_gr w v0 16))) ∧
        (bm_kt w (bm_u (bm_gr w v0 16)) = 21 ∧ bm_in v1 (bm_kn w (bm_u (bm_gr w v0 16)))) ∧
        (bm_kt w (bm_u (bm_gr w v0 38)) = 21 ∧ bm_in (bm_gi w (bm_u (bm_gr w v0 16)) (v1).toNat) (bm_kn w (bm_u (bm_gr w v0 38)))) ∧
        (bm_kt w (bm_u (bm_gr w v0 38)) = 21 ∧ bm_in (bm_gi w (bm_u (bm_gr w v0 16)) (v1).toNat) (bm_kn w (bm_u (bm_gr w v0 38)))) ∧
        bk_X12_worth_267 d Φ v0 v1 v2 v4 v6 v8 (0 : Int) (bm_si w (bm_u (bm_gr w v0 38)) ((bm_gi w (bm_u (bm_gr w v0 16)) (v1).toNat)).toNat (bm_w ((bm_gi w (bm_u (bm_gr w v0 38)) ((bm_gi w (bm_u (bm_gr w v0 16)) (v1).toNat)).toNat) + (1 : Int))))))
  else
    (bm_kt w v0 = 12) ∧
    (if (decide ((bm_gi w v0 37) = 0)) = true then
      bk_X12_worth_267 d Φ v0 v1 v2 v4 v6 v8 (1 : Int) w
    else
      (if (decide ((1 : Int) = 0)) = true then
        bk_X12_worth_267 d Φ v0 v1 v2 v4 v6 v8 (1 : Int) w
      else
        (bm_kt w v0 = 12 ∧ bm_gr w v0 38 = some (bm_u (bm_gr w v0 38))) ∧
        (bm_kt w v0 = 12 ∧ bm_gr w v0 16 = some (bm_u (bm_gr w v0 16))) ∧
        (bm_kt w (bm_u (bm_gr w v0 16)) = 21 ∧ bm_in v1 (bm_kn w (bm_u (bm_gr w v0 16)))) ∧
        (bm_kt w (bm_u (bm_gr w v0 38)) = 21 ∧ bm_in (bm_gi w (bm_u (bm_gr w v0 16)) (v1).toNat) (bm_kn w (bm_u (bm_gr w v0 38)))) ∧
        (bm_kt w (bm_u (bm_gr w v0 38)) = 21 ∧ bm_in (bm_gi w (bm_u (bm_gr w v0 16)) (v1).toNat) (bm_kn w (bm_u (bm_gr w v0 38)))) ∧
        bk_X12_worth_267 d Φ v0 v1 v2 v4 v6 v8 (1 : Int) (bm_si w (bm_u (bm_gr w v0 38)) ((bm_gi w (bm_u (bm_gr w v0 16)) (v1).toNat)).toNat (bm_w ((bm_gi w (bm_u (bm_gr w v0 38)) ((bm_gi w (bm_u (bm_gr w v0 16)) (v1).toNat)).toNat) + (1 : Int)))))))) : bk_X12_worth_228 d Φ v0 v1 v2 v4 v6 v8 v10 s0 w := bm_go (bm_Call_mono _ _) [30, 228, 267] 184 _ h
set_option maxRecDepth 20000 in
theorem vb_X12_worth_267 {d : Nat} {Φ : bm_Rt → bm_W → Prop} {v0 : Nat} {v1 : Int} {v2 : Int} {v4 : Int} {v6 : Int} {v8 : Int} {v13 : Int} {w : bm_W} (h :
  (bm_kt w v0 = 12) ∧
  (if (decide ((bm_gi w v0 37) = 0)) = true then
    (if (decide (v13 = 0)) = true then
      (bm_kt w v0 = 12 ∧ bm_gr w v0 15 = some (bm_u (bm_gr w v0 15))) ∧
      (bm_kt w (bm_u (bm_gr w v0 15)) = 21 ∧ bm_in v1 (bm_kn w (bm_u (bm_gr w v0 15)))) ∧
      (bm_kt w v0 = 12) ∧ bm_Call bm_pg d y_X12_worth [bm_r (some v0), bm_i (bm_gi w (bm_u (bm_gr w v0 15)) (v1).toNat), bm_l v2, bm_l v4, bm_l v6, bm_i v8] w (fun r1 w1 => 
        bm_c2 (fun x1 => Φ (.inl (some (bm_l x1))) w1) (fun E => Φ (.inr E) w1) r1)
    else
      (bm_kt w v0 = 12 ∧ bm_gr w v0 14 = some (bm_u (bm_gr w v0 14))) ∧
      (bm_kt w (bm_u (bm_gr w v0 14)) = 21 ∧ bm_in v1 (bm_kn w (bm_u (bm_gr w v0 14)))) ∧
      (bm_kt w v0 = 12) ∧ bm_Call bm_pg d y_X12_worth [bm_r (some v0), bm_i (bm_gi w (bm_u (bm_gr w v0 14)) (v1).toNat), bm_l v2, bm_l v4, bm_l v6, bm_i v8] w (fun r2 w2 => 
        bm_c2 (fun x2 => Φ (.inl (some (bm_l x2))) w2) (fun E => Φ (.inr E) w2) r2))
  else
    (if (!decide (v13 = 0)) = true then
      (if (decide (v13 = 0)) = true then
        (bm_kt w v0 = 12 ∧ bm_gr w v0 15 = some (bm_u (bm_gr w v0 15))) ∧
        (bm_kt w (bm_u (bm_gr w v0 15)) = 21 ∧ bm_in v1 (bm_kn w (bm_u (bm_gr w v0 15)))) ∧
        (bm_kt w v0 = 12) ∧ bm_Call bm_pg d y_X12_worth [bm_r (some v0), bm_i (bm_gi w (bm_u (bm_gr w v0 15)) (v1).toNat), bm_l v2, bm_l v4, bm_l v6, bm_i v8] w (fun r3 w3 => 
          bm_c2 (fun x3 => Φ (.inl (some (bm_l x3))) w3) (fun E => Φ (.inr E) w3) r3)
      else
        (bm_kt w v0 = 12 ∧ bm_gr w v0 14 = some (bm_u (bm_gr w v0 14))) ∧
        (bm_kt w (bm_u (bm_gr w v0 14)) = 21 ∧ bm_in v1 (bm_kn w (bm_u (bm_gr w v0 14)))) ∧
        (bm_kt w v0 = 12) ∧ bm_Call bm_pg d y_X12_worth [bm_r (some v0), bm_i (bm_gi w (bm_u (bm_gr w v0 14)) (v1).toNat), bm_l v2, bm_l v4, bm_l v6, bm_i v8] w (fun r4 w4 => 
          bm_c2 (fun x4 => Φ (.inl (some (bm_l x4))) w4) (fun E => Φ (.inr E) w4) r4))
    else
      (bm_kt w v0 = 12 ∧ bm_gr w v0 39 = some (bm_u (bm_gr w v0 39))) ∧
      (bm_kt w v0 = 12 ∧ bm_gr w v0 16 = some (bm_u (bm_gr w v0 16))) ∧
      (bm_kt w (bm_u (bm_gr w v0 16)) = 21 ∧ bm_in v1 (bm_kn w (bm_u (bm_gr w v0 16)))) ∧
      (bm_kt w (bm_u (bm_gr w v0 39)) = 21 ∧ bm_in (bm_gi w (bm_u (bm_gr w v0 16)) (v1).toNat) (bm_kn w (bm_u (bm_gr w v0 39)))) ∧
      (bm_kt w (bm_u (bm_gr w v0 39)) = 21 ∧ bm_in (bm_gi w (bm_u (bm_gr w v0 16)) (v1).toNat) (bm_kn w (bm_u (bm_gr w v0 39)))) ∧
      (if (decide (v13 = 0)) = true then
        (bm_kt (bm_si w (bm_u (bm_gr w v0 39)) ((bm_gi w (bm_u (bm_gr w v0 16)) (v1).toNat)).toNat (bm_w ((bm_gi w (bm_u (bm_gr w v0 39)) ((bm_gi w (bm_u (bm_gr w v0 16)) (v1).toNat)).toNat) + (1 : Int)))) v0 = 12 ∧ bm_gr (bm_si w (bm_u (bm_gr w v0 39)) ((bm_gi w (bm_u (bm_gr w v0 16)) (v1).toNat)).toNat (bm_w ((bm_gi w (bm_u (bm_gr w v0 39)) ((bm_gi w (bm_u (bm_gr w v0 16)) (v1).toNat)).toNat) + (1 : Int)))) v0 15 = some (bm_u (bm_gr (bm_si w (bm_u (bm_gr w v0 39)) ((bm_gi w (bm_u (bm_gr w v0 16)) (v1).toNat)).toNat (bm_w ((bm_gi w (bm_u (bm_gr w v0 39)) ((bm_gi w (bm_u (bm_gr w v0 16)) (v1).toNat)).toNat) + (1 : Int)))) v0 15))) ∧
        (bm_kt (bm_si w (bm_u (bm_gr w v0 39)) ((bm_gi w (bm_u (bm_gr w v0 16)) (v1).toNat)).toNat (bm_w ((bm_gi w (bm_u (bm_gr w v0 39)) ((bm_gi w (bm_u (bm_gr w v0 16)) (v1).toNat)).toNat) + (1 : Int)))) (bm_u (bm_gr (bm_si w (bm_u (bm_gr w v0 39)) ((bm_gi w (bm_u (bm_gr w v0 16)) (v1).toNat)).toNat (bm_w ((bm_gi w (bm_u (bm_gr w v0 39)) ((bm_gi w (bm_u (bm_gr w v0 16)) (v1).toNat)).toNat) + (1 : Int)))) v0 15)) = 21 ∧ bm_in v1 (bm_kn (bm_si w (bm_u (bm_gr w v0 39)) ((bm_gi w (bm_u (bm_gr w v0 16)) (v1).toNat)).toNat (bm_w ((bm_gi w (bm_u (bm_gr w v0 39)) ((bm_gi w (bm_u (bm_gr w v0 16)) (v1).toNat)).toNat) + (1 : Int)))) (bm_u (bm_gr (bm_si w (bm_u (bm_gr w v0 39)) ((bm_gi w (bm_u (bm_gr w v0 16)) (v1).toNat)).toNat (bm_w ((bm_gi w (bm_u (bm_gr w v0 39)) ((bm_gi w (bm_u (bm_gr w v0 16)) (v1).toNat)).toNat) + (1 : Int)))) v0 15)))) ∧
        (bm_kt (bm_si w (bm_u (bm_gr w v0 39)) ((bm_gi w (bm_u (bm_gr w v0 16)) (v1).toNat)).toNat (bm_w ((bm_gi w (bm_u (bm_gr w v0 39)) ((bm_gi w (bm_u (bm_gr w v0 16)) (v1).toNat)).toNat) + (1 : Int)))) v0 = 12) ∧ bm_Call bm_pg d y_X12_worth [bm_r (some v0), bm_i (bm_gi (bm_si w (bm_u (bm_gr w v0 39)) ((bm_gi w (bm_u (bm_gr w v0 16)) (v1).toNat)).toNat (bm_w ((bm_gi w (bm_u (bm_gr w v0 39)) ((bm_gi w (bm_u (bm_gr w v0 16)) (v1).toNat)).toNat) + (1 : Int)))) (bm_u (bm_gr (bm_si w (bm_u (bm_gr w v0 39)) ((bm_gi w (bm_u (bm_gr w v0 16)) (v1).toNat)).toNat (bm_w ((bm_gi w (bm_u (bm_gr w v0 39)) ((bm_gi w (bm_u (bm_gr w v0 16)) (v1).toNat)).toNat) + (1 : Int)))) v0 15)) (v1).toNat), bm_l v2, bm_l v4, bm_l v6, bm_i v8] (bm_si w (bm_u (bm_gr w v0 39)) ((bm_gi w (bm_u (bm_gr w v0 16)) (v1).toNat)).toNat (bm_w ((bm_gi w (bm_u (bm_gr w v0 39)) ((bm_gi w (bm_u (bm_gr w v0 16)) (v1).toNat)).toNat) + (1 : Int)))) (fun r5 w5 => 
          bm_c2 (fun x5 => Φ (.inl (some (bm_l x5))) w5) (fun E => Φ (.inr E) w5) r5)
      else
        (bm_kt (bm_si w (bm_u (bm_gr w v0 39)) ((bm_gi w (bm_u (bm_gr w v0 16)) (v1).toNat)).toNat (bm_w ((bm_gi w (bm_u (bm_gr w v0 39)) ((bm_gi w (bm_u (bm_gr w v0 16)) (v1).toNat)).toNat) + (1 : Int)))) v0 = 12 ∧ bm_gr (bm_si w (bm_u (bm_gr w v0 39)) ((bm_gi w (bm_u (bm_gr w v0 16)) (v1).toNat)).toNat (bm_w ((bm_gi w (bm_u (bm_gr w v0 39)) ((bm_gi w (bm_u (bm_gr w v0 16)) (v1).toNat)).toNat) + (1 : Int)))) v0 14 = some (bm_u (bm_gr (bm_si w (bm_u (bm_gr w v0 39)) ((bm_gi w (bm_u (bm_gr w v0 16)) (v1).toNat)).toNat (bm_w ((bm_gi w (bm_u (bm_gr w v0 39)) ((bm_gi w (bm_u (bm_gr w v0 16)) (v1).toNat)).toNat) + (1 : Int)))) v0 14))) ∧
        (bm_kt (bm_si w (bm_u (bm_gr w v0 39)) ((bm_gi w (bm_u (bm_gr w v0 16)) (v1).toNat)).toNat (bm_w ((bm_gi w (bm_u (bm_gr w v0 39)) ((bm_gi w (bm_u (bm_gr w v0 16)) (v1).toNat)).toNat) + (1 : Int)))) (bm_u (bm_gr (bm_si w (bm_u (bm_gr w v0 39)) ((bm_gi w (bm_u (bm_gr w v0 16)) (v1).toNat)).toNat (bm_w ((bm_gi w (bm_u (bm_gr w v0 39)) ((bm_gi w (bm_u (bm_gr w v0 16)) (v1).toNat)).toNat) + (1 : Int)))) v0 14)) = 21 ∧ bm_in v1 (bm_kn (bm_si w (bm_u (bm_gr w v0 39)) ((bm_gi w (bm_u (bm_gr w v0 16)) (v1).toNat)).toNat (bm_w ((bm_gi w (bm_u (bm_gr w v0 39)) ((bm_gi w (bm_u (bm_gr w v0 16)) (v1).toNat)).toNat) + (1 : Int)))) (bm_u (bm_gr (bm_si w (bm_u (bm_gr w v0 39)) ((bm_gi w (bm_u (bm_gr w v0 16)) (v1).toNat)).toNat (bm_w ((bm_gi w (bm_u (bm_gr w v0 39)) ((bm_gi w (bm_u (bm_gr w v0 16)) (v1).toNat)).toNat) + (1 : Int)))) v0 14)))) ∧
        (bm_kt (bm_si w (bm_u (bm_gr w v0 39)) ((bm_gi w (bm_u (bm_gr w v0 16)) (v1).toNat)).toNat (bm_w ((bm_gi w (bm_u (bm_gr w v0 39)) ((bm_gi w (bm_u (bm_gr w v0 16)) (v1).toNat)).toNat) + (1 : Int)))) v0 = 12) ∧ bm_Call bm_pg d y_X12_worth [bm_r (some v0), bm_i (bm_gi (bm_si w (bm_u (bm_gr w v0 39)) ((bm_gi w (bm_u (bm_gr w v0 16)) (v1).toNat)).toNat (bm_w ((bm_gi w (bm_u (bm_gr w v0 39)) ((bm_gi w (bm_u (bm_gr w v0 16)) (v1).toNat)).toNat) + (1 : Int)))) (bm_u (bm_gr (bm_si w (bm_u (bm_gr w v0 39)) ((bm_gi w (bm_u (bm_gr w v0 16)) (v1).toNat)).toNat (bm_w ((bm_gi w (bm_u (bm_gr w v0 39)) ((bm_gi w (bm_u (bm_gr w v0 16)) (v1).toNat)).toNat) + (1 : Int)))) v0 14)) (v1).toNat), bm_l v2, bm_l v4, bm_l v6, bm_i v8] (bm_si w (bm_u (bm_gr w v0 39)) ((bm_gi w (bm_u (bm_gr w v0 16)) (v1).toNat)).toNat (bm_w ((bm_gi w (bm_u (bm_gr w v0 39)) ((bm_gi w (bm_u (bm_gr w v0 16)) (v1).toNat)).toNat) + (1 : Int)))) (fun r6 w6 => 
          bm_c2 (fun x6 => Φ (.inl (some (bm_l x6))) w6) (fun E => Φ (.inr E) w6) r6))))) : bk_X12_worth_267 d Φ v0 v1 v2 v4 v6 v8 v13 w := bm_go (bm_Call_mono _ _) [30, 228, 267] 184 _ h

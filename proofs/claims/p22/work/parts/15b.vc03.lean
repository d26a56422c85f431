/-! what the rows of the methods come to (laid by program) -/
/-! CaseTables$Runner.search(ILCaseTables$Row;)V -/
def bk_X6_search_42 (d : Nat) (Φ : bm_Rt → bm_W → Prop) (v0 : Nat) (v1 : Int) (v2 : Nat) (v3 : Int) (v4 : Int) (v5 : Int) (w : bm_W) : Prop := bm_Wp (bm_Call bm_pg d) tb_X6_search Φ (42, [some (bm_r (some v0)), some (bm_i v1), some (bm_r (some v2)), some (bm_i v3), some (bm_i v4), some (bm_i v5), none, none, none], [], w)
def bk_X6_search_62 (d : Nat) (Φ : bm_Rt → bm_W → Prop) (v0 : Nat) (v1 : Int) (v2 : Nat) (v3 : Int) (v4 : Int) (v5 : Int) (v6 : Int) (v7 : Int) (w : bm_W) : Prop := bm_Wp (bm_Call bm_pg d) tb_X6_search Φ (62, [some (bm_r (some v0)), some (bm_i v1), some (bm_r (some v2)), some (bm_i v3), some (bm_i v4), some (bm_i v5), some (bm_i v6), some (bm_i v7), none], [], w)
def bk_X6_search_93 (d : Nat) (Φ : bm_Rt → bm_W → Prop) (v0 : Nat) (v1 : Int) (v2 : Nat) (v3 : Int) (v4 : Int) (v5 : Int) (v6 : Int) (v7 : Int) (s0 : Int) (w : bm_W) : Prop := bm_Wp (bm_Call bm_pg d) tb_X6_search Φ (93, [some (bm_r (some v0)), some (bm_i v1), some (bm_r (some v2)), some (bm_i v3), some (bm_i v4), some (bm_i v5), some (bm_i v6), some (bm_i v7), none], [bm_i s0], w)
set_option maxRecDepth 20000 in
theorem vc_X6_search {d : Nat} {Φ : bm_Rt → bm_W → Prop} {p0 : Nat} {p1 : Int} {p2 : Nat} {w : bm_W} (h :
  (bm_kt w p2 = 5) ∧
  (if (decide ((bm_gi w p2 4) = 0)) = true then
    (bm_kt w p2 = 5 ∧ ((1 : Int) = 0 ∨ (1 : Int) = 1)) ∧
    (bm_kt (bm_si w p2 4 (1 : Int)) p2 = 5) ∧
    (bm_kt (bm_sq (bm_si w p2 4 (1 : Int)) p2 3 (0 : Int)) p2 = 5 ∧ bm_gr (bm_sq (bm_si w p2 4 (1 : Int)) p2 3 (0 : Int)) p2 0 = some (bm_u (bm_gr (bm_sq (bm_si w p2 4 (1 : Int)) p2 3 (0 : Int)) p2 0))) ∧
    (bm_kt (bm_sq (bm_si w p2 4 (1 : Int)) p2 3 (0 : Int)) (bm_u (bm_gr (bm_sq (bm_si w p2 4 (1 : Int)) p2 3 (0 : Int)) p2 0)) = 4) ∧ bm_Call bm_pg d y_X4_rowCount [bm_r (some (bm_u (bm_gr (bm_sq (bm_si w p2 4 (1 : Int)) p2 3 (0 : Int)) p2 0)))] (bm_sq (bm_si w p2 4 (1 : Int)) p2 3 (0 : Int)) (fun r1 w1 => 
      bm_c1 (fun x1 => (bm_kt w1 p0 = 6 ∧ bm_gr w1 p0 0 = some (bm_u (bm_gr w1 p0 0))) ∧
      (bm_kt w1 (bm_u (bm_gr w1 p0 0)) = 3) ∧ bm_Call bm_pg d y_X3_funAt [bm_r (some (bm_u (bm_gr w1 p0 0))), bm_i p1] w1 (fun r2 w2 => 
        bm_c3 (fun x2 => (bm_kt w2 x2 = 1) ∧
        bk_X6_search_42 d Φ p0 p1 p2 x1 (bm_gi w2 x2 8) (0 : Int) w2) (fun E => Φ (.inr E) w2) r2)) (fun E => Φ (.inr E) w1) r1)
  else
    Φ (.inl none) w)) : bm_Call bm_pg (d + 1) y_X6_search [bm_r (some p0), bm_i p1, bm_r (some p2)] w Φ := bm_enter rfl (bm_go (bm_Call_mono _ _) [42, 62, 93] 75 _ h)
set_option maxRecDepth 20000 in
theorem vb_X6_search_42 {d : Nat} {Φ : bm_Rt → bm_W → Prop} {v0 : Nat} {v1 : Int} {v2 : Nat} {v3 : Int} {v4 : Int} {v5 : Int} {w : bm_W} (h :
  (if (decide (v3 ≤ v5)) = true then
    Φ (.inl none) w
  else
    (bm_kt w v0 = 6) ∧ bm_Call bm_pg d y_X6_isHolding [bm_r (some v0), bm_i v1, bm_r (some v2), bm_i v5, bm_i (-1 : Int)] w (fun r1 w1 => 
      bm_c1 (fun x1 => bk_X6_search_62 d Φ v0 v1 v2 v3 v4 v5 x1 (0 : Int) w1) (fun E => Φ (.inr E) w1) r1))) : bk_X6_search_42 d Φ v0 v1 v2 v3 v4 v5 w := bm_go (bm_Call_mono _ _) [42, 62, 93] 75 _ h
set_option maxRecDepth 20000 in
theorem vb_X6_search_62 {d : Nat} {Φ : bm_Rt → bm_W → Prop} {v0 : Nat} {v1 : Int} {v2 : Nat} {v3 : Int} {v4 : Int} {v5 : Int} {v6 : Int} {v7 : Int} {w : bm_W} (h :
  (if (decide (v4 ≤ v7)) = true then
    bk_X6_search_42 d Φ v0 v1 v2 v3 v4 (bm_w (v5 + 1)) w
  else
    (if (decide (v6 = 0)) = true then
      bk_X6_search_42 d Φ v0 v1 v2 v3 v4 (bm_w (v5 + 1)) w
    else
      (bm_kt w v2 = 5) ∧
      (if (decide (((Int64.ofInt ((Int64.ofInt (bm_gl w v2 3) >>> ((Int32.ofInt v7).toInt64 &&& 63)).toInt) &&& Int64.ofInt (1 : Int)).toInt) = (0 : Int))) = true then
        bk_X6_search_93 d Φ v0 v1 v2 v3 v4 v5 v6 v7 (0 : Int) w
      else
        bk_X6_search_93 d Φ v0 v1 v2 v3 v4 v5 v6 v7 (1 : Int) w)))) : bk_X6_search_62 d Φ v0 v1 v2 v3 v4 v5 v6 v7 w := bm_go (bm_Call_mono _ _) [42, 62, 93] 75 _ h
set_option maxRecDepth 20000 in
theorem vb_X6_search_93 {d : Nat} {Φ : bm_Rt → bm_W → Prop} {v0 : Nat} {v1 : Int} {v2 : Nat} {v3 : Int} {v4 : Int} {v5 : Int} {v6 : Int} {v7 : Int} {s0 : Int} {w : bm_W} (h :
  (if (!decide (s0 = 0)) = true then
    bk_X6_search_62 d Φ v0 v1 v2 v3 v4 v5 v6 (bm_w (v7 + 1)) w
  else
    (bm_kt w v0 = 6) ∧ bm_Call bm_pg d y_X6_isHolding [bm_r (some v0), bm_i v1, bm_r (some v2), bm_i v5, bm_i v7] w (fun r1 w1 => 
      bm_c1 (fun x1 => (if (!decide (x1 = 0)) = true then
        bk_X6_search_62 d Φ v0 v1 v2 v3 v4 v5 v6 (bm_w (v7 + 1)) w1
      else
        (bm_kt w1 v2 = 5) ∧
        (bm_kt w1 v2 = 5) ∧
        bk_X6_search_62 d Φ v0 v1 v2 v3 v4 v5 v6 (bm_w (v7 + 1)) (bm_sq w1 v2 3 ((Int64.ofInt (bm_gl w1 v2 3) ||| Int64.ofInt ((Int64.ofInt (1 : Int) <<< ((Int32.ofInt v7).toInt64 &&& 63)).toInt)).toInt)))) (fun E => Φ (.inr E) w1) r1))) : bk_X6_search_93 d Φ v0 v1 v2 v3 v4 v5 v6 v7 s0 w := bm_go (bm_Call_mono _ _) [42, 62, 93] 75 _ h
/-! CaseTables$Table.<init>()V -/
set_option maxRecDepth 20000 in
theorem vc_X7_init {d : Nat} {Φ : bm_Rt → bm_W → Prop} {p0 : Nat} {w : bm_W} (h :
  (true = true) ∧
  (0 ≤ (12 : Int) ∧ (12 : Int) ≤ 100000) ∧
  (bm_kt (bm_nw w 25 ((12 : Int)).toNat ((12 : Int)).toNat) p0 = 7) ∧
  (True) ∧ bm_Call bm_pg d y_X5_init [bm_r (some (bm_sz (bm_sr (bm_nw w 25 ((12 : Int)).toNat ((12 : Int)).toNat) p0 0 (some (bm_sz w)))))] (bm_nw (bm_sr (bm_nw w 25 ((12 : Int)).toNat ((12 : Int)).toNat) p0 0 (some (bm_sz w))) 5 0 5) (fun r1 w1 => 
    bm_c5 ((bm_kt w1 p0 = 7) ∧
    (0 ≤ (100 : Int) ∧ (100 : Int) ≤ 100000) ∧
    (bm_kt (bm_nw (bm_sr w1 p0 1 (some (bm_sz (bm_sr (bm_nw w 25 ((12 : Int)).toNat ((12 : Int)).toNat) p0 0 (some (bm_sz w)))))) 23 ((100 : Int)).toNat ((100 : Int)).toNat) p0 = 7) ∧
    Φ (.inl none) (bm_sr (bm_nw (bm_sr w1 p0 1 (some (bm_sz (bm_sr (bm_nw w 25 ((12 : Int)).toNat ((12 : Int)).toNat) p0 0 (some (bm_sz w)))))) 23 ((100 : Int)).toNat ((100 : Int)).toNat) p0 2 (some (bm_sz (bm_sr w1 p0 1 (some (bm_sz (bm_sr (bm_nw w 25 ((12 : Int)).toNat ((12 : Int)).toNat) p0 0 (some (bm_sz w)))))))))) r1)) : bm_Call bm_pg (d + 1) y_X7_init [bm_r (some p0)] w Φ := bm_enter rfl (bm_go (bm_Call_mono _ _) [] 18 _ h)
/-! CaseTables$Table.clear()V -/
def bk_X7_clear_20 (d : Nat) (Φ : bm_Rt → bm_W → Prop)  (w : bm_W) : Prop := bm_Wp (bm_Call bm_pg d) tb_X7_clear Φ (20, [none], [], w)
set_option maxRecDepth 20000 in
theorem vc_X7_clear {d : Nat} {Φ : bm_Rt → bm_W → Prop} {p0 : Nat} {w : bm_W} (h :
  (bm_kt w p0 = 7) ∧
  (bm_kt (bm_sq w p0 3 (0 : Int)) p0 = 7) ∧
  (bm_kt (bm_si (bm_sq w p0 3 (0 : Int)) p0 4 (0 : Int)) p0 = 7) ∧
  (bm_kt (bm_si (bm_si (bm_sq w p0 3 (0 : Int)) p0 4 (0 : Int)) p0 5 (0 : Int)) p0 = 7) ∧
  bk_X7_clear_20 d Φ  (bm_si (bm_si (bm_si (bm_sq w p0 3 (0 : Int)) p0 4 (0 : Int)) p0 5 (0 : Int)) p0 6 (0 : Int))) : bm_Call bm_pg (d + 1) y_X7_clear [bm_r (some p0)] w Φ := bm_enter rfl (bm_go (bm_Call_mono _ _) [20] 15 _ h)
set_option maxRecDepth 20000 in
theorem vb_X7_clear_20 {d : Nat} {Φ : bm_Rt → bm_W → Prop}  {w : bm_W} (h :
  Φ (.inl none) w) : bk_X7_clear_20 d Φ  w := bm_go (bm_Call_mono _ _) [20] 15 _ h
/-! CaseTables$Table.rowAt(I)LCaseTables$Row; -/
set_option maxRecDepth 20000 in
theorem vc_X7_rowAt {d : Nat} {Φ : bm_Rt → bm_W → Prop} {p0 : Nat} {p1 : Int} {w : bm_W} (h :
  (if (decide (p1 < 0)) = true then
    (if (((none : Option Nat)).isSome) = true then
      Φ (.inl (some (bm_r (none : Option Nat)))) w
    else
      (bm_kt w p0 = 7 ∧ bm_gr w p0 1 = some (bm_u (bm_gr w p0 1))) ∧
      Φ (.inl (some (bm_r (some (bm_u (bm_gr w p0 1)))))) w)
  else
    (bm_kt w p0 = 7 ∧ bm_gr w p0 0 = some (bm_u (bm_gr w p0 0))) ∧
    (20 ≤ bm_kt w (bm_u (bm_gr w p0 0)) ∧ bm_kt w (bm_u (bm_gr w p0 0)) < 27) ∧
    (if (decide ((bm_kn w (bm_u (bm_gr w p0 0)) : Int) ≤ p1)) = true then
      (if (((none : Option Nat)).isSome) = true then
        Φ (.inl (some (bm_r (none : Option Nat)))) w
      else
        (bm_kt w p0 = 7 ∧ bm_gr w p0 1 = some (bm_u (bm_gr w p0 1))) ∧
        Φ (.inl (some (bm_r (some (bm_u (bm_gr w p0 1)))))) w)
    else
      (bm_kt w p0 = 7 ∧ bm_gr w p0 0 = some (bm_u (bm_gr w p0 0))) ∧
      (bm_kt w (bm_u (bm_gr w p0 0)) = 25 ∧ bm_in p1 (bm_kn w (bm_u (bm_gr w p0 0)))) ∧
      (if (((bm_gr w (bm_u (bm_gr w p0 0)) (p1).toNat)).isSome) = true then
        Φ (.inl (some (bm_r (bm_gr w (bm_u (bm_gr w p0 0)) (p1).toNat)))) w
      else
        (bm_kt w p0 = 7 ∧ bm_gr w p0 1 = some (bm_u (bm_gr w p0 1))) ∧
        Φ (.inl (some (bm_r (some (bm_u (bm_gr w p0 1)))))) w)))) : bm_Call bm_pg (d + 1) y_X7_rowAt [bm_r (some p0), bm_i p1] w Φ := bm_enter rfl (bm_go (bm_Call_mono _ _) [] 23 _ h)
/-! CaseTables$Table.nextRow()LCaseTables$Row; -/
set_option maxRecDepth 20000 in
theorem vc_X7_nextRow {d : Nat} {Φ : bm_Rt → bm_W → Prop} {p0 : Nat} {w : bm_W} (h :
  (bm_kt w p0 = 7) ∧
  (if (decide ((bm_gi w p0 5) < 0)) = true then
    (bm_kt w p0 = 7) ∧
    (bm_kt w p0 = 7) ∧ bm_Call bm_pg d y_X7_rowAt [bm_r (some p0), bm_i (bm_gi w p0 5)] w (fun r1 w1 => 
      bm_c3 (fun x1 => (bm_kt w1 x1 = 5) ∧ bm_Call bm_pg d y_X5_clear [bm_r (some x1)] w1 (fun r2 w2 => 
        bm_c0 (Φ (.inl (some (bm_r (some x1)))) w2) (fun E => Φ (.inr E) w2) r2)) (fun E => Φ (.inr E) w1) r1)
  else
    (bm_kt w p0 = 7) ∧
    (bm_kt w p0 = 7 ∧ bm_gr w p0 0 = some (bm_u (bm_gr w p0 0))) ∧
    (20 ≤ bm_kt w (bm_u (bm_gr w p0 0)) ∧ bm_kt w (bm_u (bm_gr w p0 0)) < 27) ∧
    (if (decide ((bm_kn w (bm_u (bm_gr w p0 0)) : Int) ≤ (bm_gi w p0 5))) = true then
      (bm_kt w p0 = 7) ∧
      (bm_kt w p0 = 7) ∧ bm_Call bm_pg d y_X7_rowAt [bm_r (some p0), bm_i (bm_gi w p0 5)] w (fun r3 w3 => 
        bm_c3 (fun x3 => (bm_kt w3 x3 = 5) ∧ bm_Call bm_pg d y_X5_clear [bm_r (some x3)] w3 (fun r4 w4 => 
          bm_c0 (Φ (.inl (some (bm_r (some x3)))) w4) (fun E => Φ (.inr E) w4) r4)) (fun E => Φ (.inr E) w3) r3)
    else
      (bm_kt w p0 = 7 ∧ bm_gr w p0 0 = some (bm_u (bm_gr w p0 0))) ∧
      (bm_kt w p0 = 7) ∧
      (bm_kt w (bm_u (bm_gr w p0 0)) = 25 ∧ bm_in (bm_gi w p0 5) (bm_kn w (bm_u (bm_gr w p0 0)))) ∧
      (if (((bm_gr w (bm_u (bm_gr w p0 0)) ((bm_gi w p0 5)).toNat)).isSome) = true then
        (bm_kt w p0 = 7) ∧
        (bm_kt w p0 = 7) ∧ bm_Call bm_pg d y_X7_rowAt [bm_r (some p0), bm_i (bm_gi w p0 5)] w (fun r5 w5 => 
          bm_c3 (fun x5 => (bm_kt w5 x5 = 5) ∧ bm_Call bm_pg d y_X5_clear [bm_r (some x5)] w5 (fun r6 w6 => 
            bm_c0 (Φ (.inl (some (bm_r (some x5)))) w6) (fun E => Φ (.inr E) w6) r6)) (fun E => Φ (.inr E) w5) r5)
      else
        (bm_kt w p0 = 7 ∧ bm_gr w p0 0 = some (bm_u (bm_gr w p0 0))) ∧
        (bm_kt w p0 = 7) ∧
        (True) ∧ bm_Call bm_pg d y_X5_init [bm_r (some (bm_sz w))] (bm_nw w 5 0 5) (fun r7 w7 => 
          bm_c5 (((bm_kt w7 (bm_u (bm_gr w p0 0)) = 25 ∧ bm_in (bm_gi w p0 5) (bm_kn w7 (bm_u (bm_gr w p0 0)))) ∧ bm_kt w7 (bm_sz w) = 5) ∧
          (bm_kt (bm_sr w7 (bm_u (bm_gr w p0 0)) ((bm_gi w p0 5)).toNat (some (bm_sz w))) p0 = 7) ∧
          (bm_kt (bm_sr w7 (bm_u (bm_gr w p0 0)) ((bm_gi w p0 5)).toNat (some (bm_sz w))) p0 = 7) ∧ bm_Call bm_pg d y_X7_rowAt [bm_r (some p0), bm_i (bm_gi (bm_sr w7 (bm_u (bm_gr w p0 0)) ((bm_gi w p0 5)).toNat (some (bm_sz w))) p0 5)] (bm_sr w7 (bm_u (bm_gr w p0 0)) ((bm_gi w p0 5)).toNat (some (bm_sz w))) (fun r8 w8 => 
            bm_c3 (fun x8 => (bm_kt w8 x8 = 5) ∧ bm_Call bm_pg d y_X5_clear [bm_r (some x8)] w8 (fun r9 w9 => 
              bm_c0 (Φ (.inl (some (bm_r (some x8)))) w9) (fun E => Φ (.inr E) w9) r9)) (fun E => Φ (.inr E) w8) r8)) r7))))) : bm_Call bm_pg (d + 1) y_X7_nextRow [bm_r (some p0)] w Φ := bm_enter rfl (bm_go (bm_Call_mono _ _) [] 34 _ h)
/-! CaseTables$Table.keepRow()V -/
set_option maxRecDepth 20000 in
theorem vc_X7_keepRow {d : Nat} {Φ : bm_Rt → bm_W → Prop} {p0 : Nat} {w : bm_W} (h :
  (bm_kt w p0 = 7) ∧
  (bm_kt w p0 = 7) ∧
  (bm_kt w p0 = 7) ∧ bm_Call bm_pg d y_X7_rowAt [bm_r (some p0), bm_i (bm_gi w p0 5)] w (fun r1 w1 => 
    bm_c3 (fun x1 => (bm_kt w1 x1 = 5 ∧ bm_gr w1 x1 0 = some (bm_u (bm_gr w1 x1 0))) ∧
    (bm_kt w1 (bm_u (bm_gr w1 x1 0)) = 4) ∧ bm_Call bm_pg d y_X4_rowCount [bm_r (some (bm_u (bm_gr w1 x1 0)))] w1 (fun r2 w2 => 
      bm_c1 (fun x2 => (bm_kt w2 p0 = 7) ∧
      (bm_kt (bm_si w2 p0 6 (bm_w ((bm_gi w p0 6) + x2))) p0 = 7) ∧
      (if (decide ((12 : Int) ≤ (bm_gi (bm_si w2 p0 6 (bm_w ((bm_gi w p0 6) + x2))) p0 5))) = true then
        Φ (.inl none) (bm_si w2 p0 6 (bm_w ((bm_gi w p0 6) + x2)))
      else
        (bm_kt (bm_si w2 p0 6 (bm_w ((bm_gi w p0 6) + x2))) p0 = 7) ∧
        (bm_kt (bm_si w2 p0 6 (bm_w ((bm_gi w p0 6) + x2))) p0 = 7) ∧
        Φ (.inl none) (bm_si (bm_si w2 p0 6 (bm_w ((bm_gi w p0 6) + x2))) p0 5 (bm_w ((bm_gi (bm_si w2 p0 6 (bm_w ((bm_gi w p0 6) + x2))) p0 5) + (1 : Int)))))) (fun E => Φ (.inr E) w2) r2)) (fun E => Φ (.inr E) w1) r1)) : bm_Call bm_pg (d + 1) y_X7_keepRow [bm_r (some p0)] w Φ := bm_enter rfl (bm_go (bm_Call_mono _ _) [] 24 _ h)
/-! CaseTables$Table.drop(I)V -/
def bk_X7_drop_34 (d : Nat) (Φ : bm_Rt → bm_W → Prop) (v0 : Nat) (v2 : Nat) (v3 : Int) (w : bm_W) : Prop := bm_Wp (bm_Call bm_pg d) tb_X7_drop Φ (34, [some (bm_r (some v0)), none, some (bm_r (some v2)), some (bm_i v3)], [], w)
set_option maxRecDepth 20000 in
theorem vc_X7_drop {d : Nat} {Φ : bm_Rt → bm_W → Prop} {p0 : Nat} {p1 : Int} {w : bm_W} (h :
  (bm_kt w p0 = 7) ∧ bm_Call bm_pg d y_X7_rowAt [bm_r (some p0), bm_i p1] w (fun r1 w1 => 
    bm_c3 (fun x1 => (bm_kt w1 p0 = 7) ∧
    (bm_kt w1 x1 = 5 ∧ bm_gr w1 x1 0 = some (bm_u (bm_gr w1 x1 0))) ∧
    (bm_kt w1 (bm_u (bm_gr w1 x1 0)) = 4) ∧ bm_Call bm_pg d y_X4_rowCount [bm_r (some (bm_u (bm_gr w1 x1 0)))] w1 (fun r2 w2 => 
      bm_c1 (fun x2 => (bm_kt w2 p0 = 7) ∧
      (bm_kt (bm_si w2 p0 6 (bm_w ((bm_gi w1 p0 6) - x2))) p0 = 7) ∧
      (bm_kt (bm_si w2 p0 6 (bm_w ((bm_gi w1 p0 6) - x2))) p0 = 7) ∧
      bk_X7_drop_34 d Φ p0 x1 p1 (bm_si (bm_si w2 p0 6 (bm_w ((bm_gi w1 p0 6) - x2))) p0 5 (bm_w ((bm_gi (bm_si w2 p0 6 (bm_w ((bm_gi w1 p0 6) - x2))) p0 5) - (1 : Int))))) (fun E => Φ (.inr E) w2) r2)) (fun E => Φ (.inr E) w1) r1)) : bm_Call bm_pg (d + 1) y_X7_drop [bm_r (some p0), bm_i p1] w Φ := bm_enter rfl (bm_go (bm_Call_mono _ _) [34] 60 _ h)
set_option maxRecDepth 20000 in
theorem vb_X7_drop_34 {d : Nat} {Φ : bm_Rt → bm_W → Prop} {v0 : Nat} {v2 : Nat} {v3 : Int} {w : bm_W} (h :
  (if (decide (v3 < 0)) = true then
    (bm_kt w v0 = 7) ∧
    (if (decide ((bm_gi w v0 5) < 0)) = true then
      Φ (.inl none) w
    else
      (bm_kt w v0 = 7) ∧
      (bm_kt w v0 = 7 ∧ bm_gr w v0 0 = some (bm_u (bm_gr w v0 0))) ∧
      (20 ≤ bm_kt w (bm_u (bm_gr w v0 0)) ∧ bm_kt w (bm_u (bm_gr w v0 0)) < 27) ∧
      (if (decide ((bm_kn w (bm_u (bm_gr w v0 0)) : Int) ≤ (bm_gi w v0 5))) = true then
        Φ (.inl none) w
      else
        (bm_kt w v0 = 7 ∧ bm_gr w v0 0 = some (bm_u (bm_gr w v0 0))) ∧
        (bm_kt w v0 = 7) ∧
        ((bm_kt w (bm_u (bm_gr w v0 0)) = 25 ∧ bm_in (bm_gi w v0 5) (bm_kn w (bm_u (bm_gr w v0 0)))) ∧ bm_kt w v2 = 5) ∧
        Φ (.inl none) (bm_sr w (bm_u (bm_gr w v0 0)) ((bm_gi w v0 5)).toNat (some v2))))
  else
    (bm_kt w v0 = 7) ∧
    (if (decide ((bm_gi w v0 5) ≤ v3)) = true then
      (bm_kt w v0 = 7) ∧
      (if (decide ((bm_gi w v0 5) < 0)) = true then
        Φ (.inl none) w
      else
        (bm_kt w v0 = 7) ∧
        (bm_kt w v0 = 7 ∧ bm_gr w v0 0 = some (bm_u (bm_gr w v0 0))) ∧
        (20 ≤ bm_kt w (bm_u (bm_gr w v0 0)) ∧ bm_kt w (bm_u (bm_gr w v0 0)) < 27) ∧
        (if (decide ((bm_kn w (bm_u (bm_gr w v0 0)) : Int) ≤ (bm_gi w v0 5))) = true then
          Φ (.inl none) w
        else
          (bm_kt w v0 = 7 ∧ bm_gr w v0 0 = some (bm_u (bm_gr w v0 0))) ∧
          (bm_kt w v0 = 7) ∧
          ((bm_kt w (bm_u (bm_gr w v0 0)) = 25 ∧ bm_in (bm_gi w v0 5) (bm_kn w (bm_u (bm_gr w v0 0)))) ∧ bm_kt w v2 = 5) ∧
          Φ (.inl none) (bm_sr w (bm_u (bm_gr w v0 0)) ((bm_gi w v0 5)).toNat (some v2))))
    else
      (bm_kt w v0 = 7 ∧ bm_gr w v0 0 = some (bm_u (bm_gr w v0 0))) ∧
      (20 ≤ bm_kt w (bm_u (bm_gr w v0 0)) ∧ bm_kt w (bm_u (bm_gr w v0 0)) < 27) ∧
      (if (decide ((bm_kn w (bm_u (bm_gr w v0 0)) : Int) ≤ v3)) = true then
        (bm_kt w v0 = 7) ∧
        (if (decide ((bm_gi w v0 5) < 0)) = true then
          Φ (.inl none) w
        else
          (bm_kt w v0 = 7) ∧
          (bm_kt w v0 = 7 ∧ bm_gr w v0 0 = some (bm_u (bm_gr w v0 0))) ∧
          (20 ≤ bm_kt w (bm_u (bm_gr w v0 0)) ∧ bm_kt w (bm_u (bm_gr w v0 0)) < 27) ∧
          (if (decide ((bm_kn w (bm_u (bm_gr w v0 0)) : Int) ≤ (bm_gi w v0 5))) = true then
            Φ (.inl none) w
          else
            (bm_kt w v0 = 7 ∧ bm_gr w v0 0 = some (bm_u (bm_gr w v0 0))) ∧
            (bm_kt w v0 = 7) ∧
            ((bm_kt w (bm_u (bm_gr w v0 0)) = 25 ∧ bm_in (bm_gi w v0 5) (bm_kn w (bm_u (bm_gr w v0 0)))) ∧ bm_kt w v2 = 5) ∧
            Φ (.inl none) (bm_sr w (bm_u (bm_gr w v0 0)) ((bm_gi w v0 5)).toNat (some v2))))
      else
        (bm_kt w v0 = 7 ∧ bm_gr w v0 0 = some (bm_u (bm_gr w v0 0))) ∧
        (bm_kt w v0 = 7) ∧ bm_Call bm_pg d y_X7_rowAt [bm_r (some v0), bm_i (bm_w (v3 + (1 : Int)))] w (fun r1 w1 => 
          bm_c3 (fun x1 => ((bm_kt w1 (bm_u (bm_gr w v0 0)) = 25 ∧ bm_in v3 (bm_kn w1 (bm_u (bm_gr w v0 0)))) ∧ bm_kt w1 x1 = 5) ∧
          bk_X7_drop_34 d Φ v0 v2 (bm_w (v3 + 1)) (bm_sr w1 (bm_u (bm_gr w v0 0)) (v3).toNat (some x1))) (fun E => Φ (.inr E) w1) r1))))) : bk_X7_drop_34 d Φ v0 v2 v3 w := bm_go (bm_Call_mono _ _) [34] 60 _ h
/-! CaseTables$Table.valueAt(II)I -/
def bk_X7_valueAt_5 (d : Nat) (Φ : bm_Rt → bm_W → Prop) (v0 : Nat) (v2 : Int) (v3 : Int) (v4 : Int) (w : bm_W) : Prop := bm_Wp (bm_Call bm_pg d) tb_X7_valueAt Φ (5, [some (bm_r (some v0)), none, some (bm_i v2), some (bm_i v3), some (bm_i v4), none], [], w)
set_option maxRecDepth 20000 in
theorem vc_X7_valueAt {d : Nat} {Φ : bm_Rt → bm_W → Prop} {p0 : Nat} {p1 : Int} {p2 : Int} {w : bm_W} (h :
  bk_X7_valueAt_5 d Φ p0 p2 p1 (0 : Int) w) : bm_Call bm_pg (d + 1) y_X7_valueAt [bm_r (some p0), bm_i p1, bm_i p2] w Φ := bm_enter rfl (bm_go (bm_Call_mono _ _) [5] 33 _ h)
set_option maxRecDepth 20000 in
theorem vb_X7_valueAt_5 {d : Nat} {Φ : bm_Rt → bm_W → Prop} {v0 : Nat} {v2 : Int} {v3 : Int} {v4 : Int} {w : bm_W} (h :
  (bm_kt w v0 = 7) ∧
  (if (decide ((bm_gi w v0 5) ≤ v4)) = true then
    Φ (.inl (some (bm_i (0 : Int)))) w
  else
    (bm_kt w v0 = 7) ∧ bm_Call bm_pg d y_X7_rowAt [bm_r (some v0), bm_i v4] w (fun r1 w1 => 
      bm_c3 (fun x1 => (bm_kt w1 x1 = 5 ∧ bm_gr w1 x1 0 = some (bm_u (bm_gr w1 x1 0))) ∧
      (bm_kt w1 (bm_u (bm_gr w1 x1 0)) = 4) ∧ bm_Call bm_pg d y_X4_rowCount [bm_r (some (bm_u (bm_gr w1 x1 0)))] w1 (fun r2 w2 => 
        bm_c1 (fun x2 => (if (decide (x2 ≤ v3)) = true then
          (bm_kt w2 (bm_u (bm_gr w1 x1 0)) = 4) ∧ bm_Call bm_pg d y_X4_rowCount [bm_r (some (bm_u (bm_gr w1 x1 0)))] w2 (fun r3 w3 => 
            bm_c1 (fun x3 => bk_X7_valueAt_5 d Φ v0 v2 (bm_w (v3 - x3)) (bm_w (v4 + 1)) w3) (fun E => Φ (.inr E) w3) r3)
        else
          (bm_kt w2 (bm_u (bm_gr w1 x1 0)) = 4) ∧ bm_Call bm_pg d y_X4_valueAt [bm_r (some (bm_u (bm_gr w1 x1 0))), bm_i v3, bm_i v2] w2 (fun r4 w4 => 
            bm_c1 (fun x4 => Φ (.inl (some (bm_i x4))) w4) (fun E => Φ (.inr E) w4) r4))) (fun E => Φ (.inr E) w2) r2)) (fun E => Φ (.inr E) w1) r1))) : bk_X7_valueAt_5 d Φ v0 v2 v3 v4 w := bm_go (bm_Call_mono _ _) [5] 33 _ h
/-! CaseTables$Table.note(IZ)V -/
set_option maxRecDepth 20000 in
theorem vc_X7_note {d : Nat} {Φ : bm_Rt → bm_W → Prop} {p0 : Nat} {p1 : Int} {p2 : Int} {w : bm_W} (h :
  (if (decide (p1 < 0)) = true then
    Φ (.inl none) w
  else
    (bm_kt w p0 = 7 ∧ bm_gr w p0 2 = some (bm_u (bm_gr w p0 2))) ∧
    (20 ≤ bm_kt w (bm_u (bm_gr w p0 2)) ∧ bm_kt w (bm_u (bm_gr w p0 2)) < 27) ∧
    (if (decide ((bm_kn w (bm_u (bm_gr w p0 2)) : Int) ≤ p1)) = true then
      Φ (.inl none) w
    else
      (bm_kt w p0 = 7 ∧ bm_gr w p0 2 = some (bm_u (bm_gr w p0 2))) ∧
      ((bm_kt w (bm_u (bm_gr w p0 2)) = 23 ∧ bm_in p1 (bm_kn w (bm_u (bm_gr w p0 2)))) ∧ (p2 = 0 ∨ p2 = 1)) ∧
      Φ (.inl none) (bm_si w (bm_u (bm_gr w p0 2)) (p1).toNat p2)))) : bm_Call bm_pg (d + 1) y_X7_note [bm_r (some p0), bm_i p1, bm_i p2] w Φ := bm_enter rfl (bm_go (bm_Call_mono _ _) [] 15 _ h)
/-! CaseTables$Table.isHolding(I)Z -/
set_option maxRecDepth 20000 in
theorem vc_X7_isHolding {d : Nat} {Φ : bm_Rt → bm_W → Prop} {p0 : Nat} {p1 : Int} {w : bm_W} (h :
  (if (decide (p1 < 0)) = true then
    ((0 : Int) = 0 ∨ (0 : Int) = 1) ∧ Φ (.inl (some (bm_i (0 : Int)))) w
  else
    (bm_kt w p0 = 7 ∧ bm_gr w p0 2 = some (bm_u (bm_gr w p0 2))) ∧
    (20 ≤ bm_kt w (bm_u (bm_gr w p0 2)) ∧ bm_kt w (bm_u (bm_gr w p0 2)) < 27) ∧
    (if (decide ((bm_kn w (bm_u (bm_gr w p0 2)) : Int) ≤ p1)) = true then
      ((0 : Int) = 0 ∨ (0 : Int) = 1) ∧ Φ (.inl (some (bm_i (0 : Int)))) w
    else
      (bm_kt w p0 = 7 ∧ bm_gr w p0 2 = some (bm_u (bm_gr w p0 2))) ∧
      (bm_kt w (bm_u (bm_gr w p0 2)) = 23 ∧ bm_in p1 (bm_kn w (bm_u (bm_gr w p0 2)))) ∧
      (if (decide ((bm_gi w (bm_u (bm_gr w p0 2)) (p1).toNat) = 0)) = true then
        ((0 : Int) = 0 ∨ (0 : Int) = 1) ∧ Φ (.inl (some (bm_i (0 : Int)))) w
      else
        ((1 : Int) = 0 ∨ (1 : Int) = 1) ∧ Φ (.inl (some (bm_i (1 : Int)))) w)))) : bm_Call bm_pg (d + 1) y_X7_isHolding [bm_r (some p0), bm_i p1] w Φ := bm_enter rfl (bm_go (bm_Call_mono _ _) [] 18 _ h)
/-! CaseTables$Table.tell(I)I -/
set_option maxRecDepth 20000 in
theorem vc_X7_tell {d : Nat} {Φ : bm_Rt → bm_W → Prop} {p0 : Nat} {p1 : Int} {w : bm_W} (h :
  (if p1 = 0 then
    (bm_kt w p0 = 7) ∧
    Φ (.inl (some (bm_i (bm_gi w p0 4)))) w
  else (if p1 = 1 then
    (bm_kt w p0 = 7) ∧
    Φ (.inl (some (bm_i (bm_gi w p0 5)))) w
  else (if p1 = 2 then
    (bm_kt w p0 = 7) ∧
    Φ (.inl (some (bm_i (bm_gi w p0 6)))) w
  else (if p1 = 3 then
    (bm_kt w p0 = 7) ∧ bm_Call bm_pg d y_X7_holdingCount [bm_r (some p0)] w (fun r1 w1 => 
      bm_c1 (fun x1 => Φ (.inl (some (bm_i x1))) w1) (fun E => Φ (.inr E) w1) r1)
  else (bm_kt w p0 = 7) ∧ bm_Call bm_pg d y_X7_firstNotHolding [bm_r (some p0)] w (fun r2 w2 => 
      bm_c1 (fun x2 => Φ (.inl (some (bm_i x2))) w2) (fun E => Φ (.inr E) w2) r2)))))) : bm_Call bm_pg (d + 1) y_X7_tell [bm_r (some p0), bm_i p1] w Φ := bm_enter rfl (bm_go (bm_Call_mono _ _) [] 19 _ h)
/-! CaseTables$Table.holdingCount()I -/
def bk_X7_holdingCount_4 (d : Nat) (Φ : bm_Rt → bm_W → Prop) (v0 : Nat) (v1 : Int) (v2 : Int) (w : bm_W) : Prop := bm_Wp (bm_Call bm_pg d) tb_X7_holdingCount Φ (4, [some (bm_r (some v0)), some (bm_i v1), some (bm_i v2)], [], w)
set_option maxRecDepth 20000 in
theorem vc_X7_holdingCount {d : Nat} {Φ : bm_Rt → bm_W → Prop} {p0 : Nat} {w : bm_W} (h :
  bk_X7_holdingCount_4 d Φ p0 (0 : Int) (0 : Int) w) : bm_Call bm_pg (d + 1) y_X7_holdingCount [bm_r (some p0)] w Φ := bm_enter rfl (bm_go (bm_Call_mono _ _) [4] 19 _ h)
set_option maxRecDepth 20000 in
theorem vb_X7_holdingCount_4 {d : Nat} {Φ : bm_Rt → bm_W → Prop} {v0 : Nat} {v1 : Int} {v2 : Int} {w : bm_W} (h :
  (bm_kt w v0 = 7) ∧
  (if (decide ((bm_gi w v0 6) ≤ v2)) = true then
    Φ (.inl (some (bm_i v1))) w
  else
    (bm_kt w v0 = 7) ∧ bm_Call bm_pg d y_X7_isHolding [bm_r (some v0), bm_i v2] w (fun r1 w1 => 
      bm_c1 (fun x1 => (if (decide (x1 = 0)) = true then
        bk_X7_holdingCount_4 d Φ v0 v1 (bm_w (v2 + 1)) w1
      else
        bk_X7_holdingCount_4 d Φ v0 (bm_w (v1 + 1)) (bm_w (v2 + 1)) w1)) (fun E => Φ (.inr E) w1) r1))) : bk_X7_holdingCount_4 d Φ v0 v1 v2 w := bm_go (bm_Call_mono _ _) [4] 19 _ h
/-! CaseTables$Table.firstNotHolding()I -/
def bk_X7_firstNotHolding_2 (d : Nat) (Φ : bm_Rt → bm_W → Prop) (v0 : Nat) (v1 : Int) (w : bm_W) : Prop := bm_Wp (bm_Call bm_pg d) tb_X7_firstNotHolding Φ (2, [some (bm_r (some v0)), some (bm_i v1)], [], w)
set_option maxRecDepth 20000 in
theorem vc_X7_firstNotHolding {d : Nat} {Φ : bm_Rt → bm_W → Prop} {p0 : Nat} {w : bm_W} (h :
  bk_X7_firstNotHolding_2 d Φ p0 (0 : Int) w) : bm_Call bm_pg (d + 1) y_X7_firstNotHolding [bm_r (some p0)] w Φ := bm_enter rfl (bm_go (bm_Call_mono _ _) [2] 18 _ h)
set_option maxRecDepth 20000 in
theorem vb_X7_firstNotHolding_2 {d : Nat} {Φ : bm_Rt → bm_W → Prop} {v0 : Nat} {v1 : Int} {w : bm_W} (h :
  (bm_kt w v0 = 7) ∧
  (if (decide ((bm_gi w v0 6) ≤ v1)) = true then
    Φ (.inl (some (bm_i (-1 : Int)))) w
  else
    (bm_kt w v0 = 7) ∧ bm_Call bm_pg d y_X7_isHolding [bm_r (some v0), bm_i v1] w (fun r1 w1 => 
      bm_c1 (fun x1 => (if (!decide (x1 = 0)) = true then
        bk_X7_firstNotHolding_2 d Φ v0 (bm_w (v1 + 1)) w1
      else
        Φ (.inl (some (bm_i v1))) w1)) (fun E => Φ (.inr E) w1) r1))) : bk_X7_firstNotHolding_2 d Φ v0 v1 w := bm_go (bm_Call_mono _ _) [2] 18 _ h
/-! CaseTables$Tape.<init>()V -/
set_option maxRecDepth 20000 in
theorem vc_X8_init {d : Nat} {Φ : bm_Rt → bm_W → Prop} {p0 : Nat} {w : bm_W} (h :
  (true = true) ∧
  (0 ≤ (1500 : Int) ∧ (1500 : Int) ≤ 100000) ∧
  (bm_kt (bm_nw w 20 ((1500 : Int)).toNat ((1500 : Int)).toNat) p0 = 8) ∧
  Φ (.inl none) (bm_sr (bm_nw w 20 ((1500 : Int)).toNat ((1500 : Int)).toNat) p0 0 (some (bm_sz w)))) : bm_Call bm_pg (d + 1) y_X8_init [bm_r (some p0)] w Φ := bm_enter rfl (bm_go (bm_Call_mono _ _) [] 9 _ h)
/-! CaseTables$Tape.length()I -/
set_option maxRecDepth 20000 in
theorem vc_X8_length {d : Nat} {Φ : bm_Rt → bm_W → Prop} {p0 : Nat} {w : bm_W} (h :
  (bm_kt w p0 = 8) ∧
  Φ (.inl (some (bm_i (bm_gi w p0 1)))) w) : bm_Call bm_pg (d + 1) y_X8_length [bm_r (some p0)] w Φ := bm_enter rfl (bm_go (bm_Call_mono _ _) [] 5 _ h)
/-! CaseTables$Tape.room()I -/
set_option maxRecDepth 20000 in
theorem vc_X8_room {d : Nat} {Φ : bm_Rt → bm_W → Prop} {p0 : Nat} {w : bm_W} (h :
  (bm_kt w p0 = 8) ∧
  Φ (.inl (some (bm_i (bm_w ((1500 : Int) - (bm_gi w p0 1)))))) w) : bm_Call bm_pg (d + 1) y_X8_room [bm_r (some p0)] w Φ := bm_enter rfl (bm_go (bm_Call_mono _ _) [] 7 _ h)
/-! CaseTables$Tape.cutTo(I)V -/
set_option maxRecDepth 20000 in
theorem vc_X8_cutTo {d : Nat} {Φ : bm_Rt → bm_W → Prop} {p0 : Nat} {p1 : Int} {w : bm_W} (h :
  (bm_kt w p0 = 8) ∧
  Φ (.inl none) (bm_si w p0 1 p1)) : bm_Call bm_pg (d + 1) y_X8_cutTo [bm_r (some p0), bm_i p1] w Φ := bm_enter rfl (bm_go (bm_Call_mono _ _) [] 6 _ h)
/-! CaseTables$Tape.append(I)V -/
def bk_X8_append_3 (d : Nat) (Φ : bm_Rt → bm_W → Prop) (v0 : Nat) (v1 : Int) (v2 : Int) (w : bm_W) : Prop := bm_Wp (bm_Call bm_pg d) tb_X8_append Φ (3, [some (bm_r (some v0)), some (bm_i v1), some (bm_i v2)], [], w)
set_option maxRecDepth 20000 in
theorem vc_X8_append {d : Nat} {Φ : bm_Rt → bm_W → Prop} {p0 : Nat} {p1 : Int} {w : bm_W} (h :
  bk_X8_append_3 d Φ p0 p1 (24 : Int) w) : bm_Call bm_pg (d + 1) y_X8_append [bm_r (some p0), bm_i p1] w Φ := bm_enter rfl (bm_go (bm_Call_mono _ _) [3] 33 _ h)
set_option maxRecDepth 20000 in
theorem vb_X8_append_3 {d : Nat} {Φ : bm_Rt → bm_W → Prop} {v0 : Nat} {v1 : Int} {v2 : Int} {w : bm_W} (h :
  (if (decide (v2 < 0)) = true then
    Φ (.inl none) w
  else
    (bm_kt w v0 = 8) ∧
    (if (decide ((bm_gi w v0 1) < 0)) = true then
      bk_X8_append_3 d Φ v0 v1 (bm_w (v2 + (-8))) w
    else
      (bm_kt w v0 = 8) ∧
      (bm_kt w v0 = 8 ∧ bm_gr w v0 0 = some (bm_u (bm_gr w v0 0))) ∧
      (20 ≤ bm_kt w (bm_u (bm_gr w v0 0)) ∧ bm_kt w (bm_u (bm_gr w v0 0)) < 27) ∧
      (if (decide ((bm_kn w (bm_u (bm_gr w v0 0)) : Int) ≤ (bm_gi w v0 1))) = true then
        bk_X8_append_3 d Φ v0 v1 (bm_w (v2 + (-8))) w
      else
        (bm_kt w v0 = 8 ∧ bm_gr w v0 0 = some (bm_u (bm_gr w v0 0))) ∧
        (bm_kt w v0 = 8) ∧
        (bm_kt w (bm_u (bm_gr w v0 0)) = 20 ∧ bm_in (bm_gi w v0 1) (bm_kn w (bm_u (bm_gr w v0 0)))) ∧
        (bm_kt (bm_si w (bm_u (bm_gr w v0 0)) ((bm_gi w v0 1)).toNat ((Int32.ofInt ((Int32.ofInt ((Int32.ofInt v1 >>> (Int32.ofInt v2 &&& 31)).toInt)).toInt8.toInt32.toInt)).toInt8.toInt32.toInt)) v0 = 8) ∧
        (bm_kt (bm_si w (bm_u (bm_gr w v0 0)) ((bm_gi w v0 1)).toNat ((Int32.ofInt ((Int32.ofInt ((Int32.ofInt v1 >>> (Int32.ofInt v2 &&& 31)).toInt)).toInt8.toInt32.toInt)).toInt8.toInt32.toInt)) v0 = 8) ∧
        bk_X8_append_3 d Φ v0 v1 (bm_w (v2 + (-8))) (bm_si (bm_si w (bm_u (bm_gr w v0 0)) ((bm_gi w v0 1)).toNat ((Int32.ofInt ((Int32.ofInt ((Int32.ofInt v1 >>> (Int32.ofInt v2 &&& 31)).toInt)).toInt8.toInt32.toInt)).toInt8.toInt32.toInt)) v0 1 (bm_w ((bm_gi (bm_si w (bm_u (bm_gr w v0 0)) ((bm_gi w v0 1)).toNat ((Int32.ofInt ((Int32.ofInt ((Int32.ofInt v1 >>> (Int32.ofInt v2 &&& 31)).toInt)).toInt8.toInt32.toInt)).toInt8.toInt32.toInt)) v0 1) + (1 : Int)))))))) : bk_X8_append_3 d Φ v0 v1 v2 w := bm_go (bm_Call_mono _ _) [3] 33 _ h
/-! CaseTables$Tape.byteAt(I)I -/
set_option maxRecDepth 20000 in
theorem vc_X8_byteAt {d : Nat} {Φ : bm_Rt → bm_W → Prop} {p0 : Nat} {p1 : Int} {w : bm_W} (h :
  (if (decide (p1 < 0)) = true then
    Φ (.inl (some (bm_i (-1 : Int)))) w
  else
    (bm_kt w p0 = 8) ∧
    (if (decide ((bm_gi w p0 1) ≤ p1)) = true then
      Φ (.inl (some (bm_i (-1 : Int)))) w
    else
      (bm_kt w p0 = 8 ∧ bm_gr w p0 0 = some (bm_u (bm_gr w p0 0))) ∧
      (20 ≤ bm_kt w (bm_u (bm_gr w p0 0)) ∧ bm_kt w (bm_u (bm_gr w p0 0)) < 27) ∧
      (if (decide (p1 < (bm_kn w (bm_u (bm_gr w p0 0)) : Int))) = true then
        (bm_kt w p0 = 8 ∧ bm_gr w p0 0 = some (bm_u (bm_gr w p0 0))) ∧
        (bm_kt w (bm_u (bm_gr w p0 0)) = 20 ∧ bm_in p1 (bm_kn w (bm_u (bm_gr w p0 0)))) ∧
        Φ (.inl (some (bm_i ((Int32.ofInt (bm_gi w (bm_u (bm_gr w p0 0)) (p1).toNat) &&& Int32.ofInt (255 : Int)).toInt)))) w
      else
        Φ (.inl (some (bm_i (-1 : Int)))) w)))) : bm_Call bm_pg (d + 1) y_X8_byteAt [bm_r (some p0), bm_i p1] w Φ := bm_enter rfl (bm_go (bm_Call_mono _ _) [] 22 _ h)
/-! CaseTables$Tokens.<init>(LCaseTables$Tape;)V -/
def bk_X9_init_22 (d : Nat) (Φ : bm_Rt → bm_W → Prop) (v0 : Nat) (v1 : Nat) (w : bm_W) : Prop := bm_Wp (bm_Call bm_pg d) tb_X9_init Φ (22, [some (bm_r (some v0)), some (bm_r (some v1))], [], w)
set_option maxRecDepth 20000 in
theorem vc_X9_init {d : Nat} {Φ : bm_Rt → bm_W → Prop} {p0 : Nat} {p1 : Nat} {w : bm_W} (h :
  (true = true) ∧
  (0 ≤ (1501 : Int) ∧ (1501 : Int) ≤ 100000) ∧
  (bm_kt (bm_nw w 21 ((1501 : Int)).toNat ((1501 : Int)).toNat) p0 = 9) ∧
  (0 ≤ (1501 : Int) ∧ (1501 : Int) ≤ 100000) ∧
  (bm_kt (bm_nw (bm_sr (bm_nw w 21 ((1501 : Int)).toNat ((1501 : Int)).toNat) p0 1 (some (bm_sz w))) 21 ((1501 : Int)).toNat ((1501 : Int)).toNat) p0 = 9) ∧
  bk_X9_init_22 d Φ p0 p1 (bm_sr (bm_nw (bm_sr (bm_nw w 21 ((1501 : Int)).toNat ((1501 : Int)).toNat) p0 1 (some (bm_sz w))) 21 ((1501 : Int)).toNat ((1501 : Int)).toNat) p0 2 (some (bm_sz (bm_sr (bm_nw w 21 ((1501 : Int)).toNat ((1501 : Int)).toNat) p0 1 (some (bm_sz w))))))) : bm_Call bm_pg (d + 1) y_X9_init [bm_r (some p0), bm_r (some p1)] w Φ := bm_enter rfl (bm_go (bm_Call_mono _ _) [22] 20 _ h)
set_option maxRecDepth 20000 in
theorem vb_X9_init_22 {d : Nat} {Φ : bm_Rt → bm_W → Prop} {v0 : Nat} {v1 : Nat} {w : bm_W} (h :
  (0 ≤ (1501 : Int) ∧ (1501 : Int) ≤ 100000) ∧
  (bm_kt (bm_nw w 22 ((1501 : Int)).toNat ((1501 : Int)).toNat) v0 = 9) ∧
  (bm_kt (bm_sr (bm_nw w 22 ((1501 : Int)).toNat ((1501 : Int)).toNat) v0 3 (some (bm_sz w))) v0 = 9) ∧
  Φ (.inl none) (bm_sr (bm_sr (bm_nw w 22 ((1501 : Int)).toNat ((1501 : Int)).toNat) v0 3 (some (bm_sz w))) v0 0 (some v1))) : bk_X9_init_22 d Φ v0 v1 w := bm_go (bm_Call_mono _ _) [22] 20 _ h
/-! CaseTables$Tokens.scan()V -/
def bk_X9_scan_24 (d : Nat) (Φ : bm_Rt → bm_W → Prop) (v0 : Nat) (w : bm_W) : Prop := bm_Wp (bm_Call bm_pg d) tb_X9_scan Φ (24, [some (bm_r (some v0)), none], [], w)
def bk_X9_scan_31 (d : Nat) (Φ : bm_Rt → bm_W → Prop) (v0 : Nat) (v1 : Int) (w : bm_W) : Prop := bm_Wp (bm_Call bm_pg d) tb_X9_scan Φ (31, [some (bm_r (some v0)), some (bm_i v1)], [], w)
set_option maxRecDepth 20000 in
theorem vc_X9_scan {d : Nat} {Φ : bm_Rt → bm_W → Prop} {p0 : Nat} {w : bm_W} (h :
  (bm_kt w p0 = 9) ∧
  (bm_kt (bm_si w p0 4 (0 : Int)) p0 = 9) ∧
  (bm_kt (bm_si (bm_si w p0 4 (0 : Int)) p0 8 (0 : Int)) p0 = 9 ∧ bm_gr (bm_si (bm_si w p0 4 (0 : Int)) p0 8 (0 : Int)) p0 1 = some (bm_u (bm_gr (bm_si (bm_si w p0 4 (0 : Int)) p0 8 (0 : Int)) p0 1))) ∧
  (20 ≤ bm_kt (bm_si (bm_si w p0 4 (0 : Int)) p0 8 (0 : Int)) (bm_u (bm_gr (bm_si (bm_si w p0 4 (0 : Int)) p0 8 (0 : Int)) p0 1)) ∧ bm_kt (bm_si (bm_si w p0 4 (0 : Int)) p0 8 (0 : Int)) (bm_u (bm_gr (bm_si (bm_si w p0 4 (0 : Int)) p0 8 (0 : Int)) p0 1)) < 27) ∧
  (bm_kt (bm_si (bm_si w p0 4 (0 : Int)) p0 8 (0 : Int)) p0 = 9) ∧
  (bm_kt (bm_si (bm_si (bm_si w p0 4 (0 : Int)) p0 8 (0 : Int)) p0 9 (bm_kn (bm_si (bm_si w p0 4 (0 : Int)) p0 8 (0 : Int)) (bm_u (bm_gr (bm_si (bm_si w p0 4 (0 : Int)) p0 8 (0 : Int)) p0 1)) : Int)) p0 = 9 ∧ ((0 : Int) = 0 ∨ (0 : Int) = 1)) ∧
  bk_X9_scan_24 d Φ p0 (bm_si (bm_si (bm_si (bm_si w p0 4 (0 : Int)) p0 8 (0 : Int)) p0 9 (bm_kn (bm_si (bm_si w p0 4 (0 : Int)) p0 8 (0 : Int)) (bm_u (bm_gr (bm_si (bm_si w p0 4 (0 : Int)) p0 8 (0 : Int)) p0 1)) : Int)) p0 10 (0 : Int))) : bm_Call bm_pg (d + 1) y_X9_scan [bm_r (some p0)] w Φ := bm_enter rfl (bm_go (bm_Call_mono _ _) [24, 31] 62 _ h)
set_option maxRecDepth 20000 in
theorem vb_X9_scan_24 {d : Nat} {Φ : bm_Rt → bm_W → Prop} {v0 : Nat} {w : bm_W} (h :
  (bm_kt w v0 = 9) ∧
  bk_X9_scan_31 d Φ v0 (0 : Int) (bm_si w v0 5 (1 : Int))) : bk_X9_scan_24 d Φ v0 w := bm_go (bm_Call_mono _ _) [24, 31] 62 _ h
set_option maxRecDepth 20000 in
theorem vb_X9_scan_31 {d : Nat} {Φ : bm_Rt → bm_W → Prop} {v0 : Nat} {v1 : Int} {w : bm_W} (h :
  (bm_kt w v0 = 9 ∧ bm_gr w v0 1 = some (bm_u (bm_gr w v0 1))) ∧
  (20 ≤ bm_kt w (bm_u (bm_gr w v0 1)) ∧ bm_kt w (bm_u (bm_gr w v0 1)) < 27) ∧
  (if (decide ((bm_kn w (bm_u (bm_gr w v0 1)) : Int) ≤ v1)) = true then
    Φ (.inl none) w
  else
    (bm_kt w v0 = 9 ∧ bm_gr w v0 2 = some (bm_u (bm_gr w v0 2))) ∧
    (20 ≤ bm_kt w (bm_u (bm_gr w v0 2)) ∧ bm_kt w (bm_u (bm_gr w v0 2)) < 27) ∧
    (if (decide ((bm_kn w (bm_u (bm_gr w v0 2)) : Int) ≤ v1)) = true then
      Φ (.inl none) w
    else
      (bm_kt w v0 = 9 ∧ bm_gr w v0 3 = some (bm_u (bm_gr w v0 3))) ∧
      (20 ≤ bm_kt w (bm_u (bm_gr w v0 3)) ∧ bm_kt w (bm_u (bm_gr w v0 3)) < 27) ∧
      (if (decide ((bm_kn w (bm_u (bm_gr w v0 3)) : Int) ≤ v1)) = true then
        Φ (.inl none) w
      else
        (bm_kt w v0 = 9) ∧
        (if (decide ((bm_gi w v0 5) = 0)) = true then
          Φ (.inl none) w
        else
          (bm_kt w v0 = 9) ∧ bm_Call bm_pg d y_X9_scanOne [bm_r (some v0)] w (fun r1 w1 => 
            bm_c0 ((bm_kt w1 v0 = 9 ∧ bm_gr w1 v0 1 = some (bm_u (bm_gr w1 v0 1))) ∧
            (bm_kt w1 v0 = 9) ∧
            (bm_kt w1 (bm_u (bm_gr w1 v0 1)) = 21 ∧ bm_in v1 (bm_kn w1 (bm_u (bm_gr w1 v0 1)))) ∧
            (bm_kt (bm_si w1 (bm_u (bm_gr w1 v0 1)) (v1).toNat (bm_gi w1 v0 5)) v0 = 9 ∧ bm_gr (bm_si w1 (bm_u (bm_gr w1 v0 1)) (v1).toNat (bm_gi w1 v0 5)) v0 2 = some (bm_u (bm_gr (bm_si w1 (bm_u (bm_gr w1 v0 1)) (v1).toNat (bm_gi w1 v0 5)) v0 2))) ∧
            (bm_kt (bm_si w1 (bm_u (bm_gr w1 v0 1)) (v1).toNat (bm_gi w1 v0 5)) v0 = 9) ∧
            (bm_kt (bm_si w1 (bm_u (bm_gr w1 v0 1)) (v1).toNat (bm_gi w1 v0 5)) (bm_u (bm_gr (bm_si w1 (bm_u (bm_gr w1 v0 1)) (v1).toNat (bm_gi w1 v0 5)) v0 2)) = 21 ∧ bm_in v1 (bm_kn (bm_si w1 (bm_u (bm_gr w1 v0 1)) (v1).toNat (bm_gi w1 v0 5)) (bm_u (bm_gr (bm_si w1 (bm_u (bm_gr w1 v0 1)) (v1).toNat (bm_gi w1 v0 5)) v0 2)))) ∧
            (bm_kt (bm_si (bm_si w1 (bm_u (bm_gr w1 v0 1)) (v1).toNat (bm_gi w1 v0 5)) (bm_u (bm_gr (bm_si w1 (bm_u (bm_gr w1 v0 1)) (v1).toNat (bm_gi w1 v0 5)) v0 2)) (v1).toNat (bm_gi (bm_si w1 (bm_u (bm_gr w1 v0 1)) (v1).toNat (bm_gi w1 v0 5)) v0 6)) v0 = 9 ∧ bm_gr (bm_si (bm_si w1 (bm_u (bm_gr w1 v0 1)) (v1).toNat (bm_gi w1 v0 5)) (bm_u (bm_gr (bm_si w1 (bm_u (bm_gr w1 v0 1)) (v1).toNat (bm_gi w1 v0 5)) v0 2)) (v1).toNat (bm_gi (bm_si w1 (bm_u (bm_gr w1 v0 1)) (v1).toNat (bm_gi w1 v0 5)) v0 6)) v0 3 = some (bm_u (bm_gr (bm_si (bm_si w1 (bm_u (bm_gr w1 v0 1)) (v1).toNat (bm_gi w1 v0 5)) (bm_u (bm_gr (bm_si w1 (bm_u (bm_gr w1 v0 1)) (v1).toNat (bm_gi w1 v0 5)) v0 2)) (v1).toNat (bm_gi (bm_si w1 (bm_u (bm_gr w1 v0 1)) (v1).toNat (bm_gi w1 v0 5)) v0 6)) v0 3))) ∧
            (bm_kt (bm_si (bm_si w1 (bm_u (bm_gr w1 v0 1)) (v1).toNat (bm_gi w1 v0 5)) (bm_u (bm_gr (bm_si w1 (bm_u (bm_gr w1 v0 1)) (v1).toNat (bm_gi w1 v0 5)) v0 2)) (v1).toNat (bm_gi (bm_si w1 (bm_u (bm_gr w1 v0 1)) (v1).toNat (bm_gi w1 v0 5)) v0 6)) v0 = 9) ∧
            (bm_kt (bm_si (bm_si w1 (bm_u (bm_gr w1 v0 1)) (v1).toNat (bm_gi w1 v0 5)) (bm_u (bm_gr (bm_si w1 (bm_u (bm_gr w1 v0 1)) (v1).toNat (bm_gi w1 v0 5)) v0 2)) (v1).toNat (bm_gi (bm_si w1 (bm_u (bm_gr w1 v0 1)) (v1).toNat (bm_gi w1 v0 5)) v0 6)) (bm_u (bm_gr (bm_si (bm_si w1 (bm_u (bm_gr w1 v0 1)) (v1).toNat (bm_gi w1 v0 5)) (bm_u (bm_gr (bm_si w1 (bm_u (bm_gr w1 v0 1)) (v1).toNat (bm_gi w1 v0 5)) v0 2)) (v1).toNat (bm_gi (bm_si w1 (bm_u (bm_gr w1 v0 1)) (v1).toNat (bm_gi w1 v0 5)) v0 6)) v0 3)) = 22 ∧ bm_in v1 (bm_kn (bm_si (bm_si w1 (bm_u (bm_gr w1 v0 1)) (v1).toNat (bm_gi w1 v0 5)) (bm_u (bm_gr (bm_si w1 (bm_u (bm_gr w1 v0 1)) (v1).toNat (bm_gi w1 v0 5)) v0 2)) (v1).toNat (bm_gi (bm_si w1 (bm_u (bm_gr w1 v0 1)) (v1).toNat (bm_gi w1 v0 5)) v0 6)) (bm_u (bm_gr (bm_si (bm_si w1 (bm_u (bm_gr w1 v0 1)) (v1).toNat (bm_gi w1 v0 5)) (bm_u (bm_gr (bm_si w1 (bm_u (bm_gr w1 v0 1)) (v1).toNat (bm_gi w1 v0 5)) v0 2)) (v1).toNat (bm_gi (bm_si w1 (bm_u (bm_gr w1 v0 1)) (v1).toNat (bm_gi w1 v0 5)) v0 6)) v0 3)))) ∧
            bk_X9_scan_31 d Φ v0 (bm_w (v1 + 1)) (bm_sq (bm_si (bm_si w1 (bm_u (bm_gr w1 v0 1)) (v1).toNat (bm_gi w1 v0 5)) (bm_u (bm_gr (bm_si w1 (bm_u (bm_gr w1 v0 1)) (v1).toNat (bm_gi w1 v0 5)) v0 2)) (v1).toNat (bm_gi (bm_si w1 (bm_u (bm_gr w1 v0 1)) (v1).toNat (bm_gi w1 v0 5)) v0 6)) (bm_u (bm_gr (bm_si (bm_si w1 (bm_u (bm_gr w1 v0 1)) (v1).toNat (bm_gi w1 v0 5)) (bm_u (bm_gr (bm_si w1 (bm_u (bm_gr w1 v0 1)) (v1).toNat (bm_gi w1 v0 5)) v0 2)) (v1).toNat (bm_gi (bm_si w1 (bm_u (bm_gr w1 v0 1)) (v1).toNat (bm_gi w1 v0 5)) v0 6)) v0 3)) (v1).toNat (bm_gl (bm_si (bm_si w1 (bm_u (bm_gr w1 v0 1)) (v1).toNat (bm_gi w1 v0 5)) (bm_u (bm_gr (bm_si w1 (bm_u (bm_gr w1 v0 1)) (v1).toNat (bm_gi w1 v0 5)) v0 2)) (v1).toNat (bm_gi (bm_si w1 (bm_u (bm_gr w1 v0 1)) (v1).toNat (bm_gi w1 v0 5)) v0 6)) v0 7))) (fun E => Φ (.inr E) w1) r1)))))) : bk_X9_scan_31 d Φ v0 v1 w := bm_go (bm_Call_mono _ _) [24, 31] 62 _ h
/-! CaseTables$Tokens.sees(I)Z -/
set_option maxRecDepth 20000 in
theorem vc_X9_sees {d : Nat} {Φ : bm_Rt → bm_W → Prop} {p0 : Nat} {p1 : Int} {w : bm_W} (h :
  (bm_kt w p0 = 9) ∧
  (if (!decide ((bm_gi w p0 10) = 0)) = true then
    ((0 : Int) = 0 ∨ (0 : Int) = 1) ∧ Φ (.inl (some (bm_i (0 : Int)))) w
  else
    (bm_kt w p0 = 9) ∧
    (if (decide ((bm_gi w p0 8) < 0)) = true then
      ((0 : Int) = 0 ∨ (0 : Int) = 1) ∧ Φ (.inl (some (bm_i (0 : Int)))) w
    else
      (bm_kt w p0 = 9) ∧
      (bm_kt w p0 = 9) ∧
      (if (decide ((bm_gi w p0 9) ≤ (bm_gi w p0 8))) = true then
        ((0 : Int) = 0 ∨ (0 : Int) = 1) ∧ Φ (.inl (some (bm_i (0 : Int)))) w
      else
        (bm_kt w p0 = 9) ∧
        (bm_kt w p0 = 9 ∧ bm_gr w p0 1 = some (bm_u (bm_gr w p0 1))) ∧
        (20 ≤ bm_kt w (bm_u (bm_gr w p0 1)) ∧ bm_kt w (bm_u (bm_gr w p0 1)) < 27) ∧
        (if (decide ((bm_kn w (bm_u (bm_gr w p0 1)) : Int) ≤ (bm_gi w p0 8))) = true then
          ((0 : Int) = 0 ∨ (0 : Int) = 1) ∧ Φ (.inl (some (bm_i (0 : Int)))) w
        else
          (bm_kt w p0 = 9 ∧ bm_gr w p0 1 = some (bm_u (bm_gr w p0 1))) ∧
          (bm_kt w p0 = 9) ∧
          (bm_kt w (bm_u (bm_gr w p0 1)) = 21 ∧ bm_in (bm_gi w p0 8) (bm_kn w (bm_u (bm_gr w p0 1)))) ∧
          (if (!decide ((bm_gi w (bm_u (bm_gr w p0 1)) ((bm_gi w p0 8)).toNat) = p1)) = true then
            ((0 : Int) = 0 ∨ (0 : Int) = 1) ∧ Φ (.inl (some (bm_i (0 : Int)))) w
          else
            ((1 : Int) = 0 ∨ (1 : Int) = 1) ∧ Φ (.inl (some (bm_i (1 : Int)))) w)))))) : bm_Call bm_pg (d + 1) y_X9_sees [bm_r (some p0), bm_i p1] w Φ := bm_enter rfl (bm_go (bm_Call_mono _ _) [] 30 _ h)
/-! CaseTables$Tokens.passes(I)Z -/
set_option maxRecDepth 20000 in
theorem vc_X9_passes {d : Nat} {Φ : bm_Rt → bm_W → Prop} {p0 : Nat} {p1 : Int} {w : bm_W} (h :
  (bm_kt w p0 = 9) ∧ bm_Call bm_pg d y_X9_sees [bm_r (some p0), bm_i p1] w (fun r1 w1 => 
    bm_c1 (fun x1 => (if (!decide (x1 = 0)) = true then
      (bm_kt w1 p0 = 9) ∧
      (bm_kt w1 p0 = 9) ∧
      ((1 : Int) = 0 ∨ (1 : Int) = 1) ∧ Φ (.inl (some (bm_i (1 : Int)))) (bm_si w1 p0 8 (bm_w ((bm_gi w1 p0 8) + (1 : Int))))
    else
      ((0 : Int) = 0 ∨ (0 : Int) = 1) ∧ Φ (.inl (some (bm_i (0 : Int)))) w1)) (fun E => Φ (.inr E) w1) r1)) : bm_Call bm_pg (d + 1) y_X9_passes [bm_r (some p0), bm_i p1] w Φ := bm_enter rfl (bm_go (bm_Call_mono _ _) [] 16 _ h)
/-! CaseTables$Tokens.expect(I)Z -/
set_option maxRecDepth 20000 in
theorem vc_X9_expect {d : Nat} {Φ : bm_Rt → bm_W → Prop} {p0 : Nat} {p1 : Int} {w : bm_W} (h :
  (bm_kt w p0 = 9) ∧ bm_Call bm_pg d y_X9_sees [bm_r (some p0), bm_i p1] w (fun r1 w1 => 
    bm_c1 (fun x1 => (if (!decide (x1 = 0)) = true then
      (bm_kt w1 p0 = 9) ∧
      (bm_kt w1 p0 = 9) ∧
      ((1 : Int) = 0 ∨ (1 : Int) = 1) ∧ Φ (.inl (some (bm_i (1 : Int)))) (bm_si w1 p0 8 (bm_w ((bm_gi w1 p0 8) + (1 : Int))))
    else
      (bm_kt w1 p0 = 9) ∧ bm_Call bm_pg d y_X9_fail [bm_r (some p0)] w1 (fun r2 w2 => 
        bm_c0 (((0 : Int) = 0 ∨ (0 : Int) = 1) ∧ Φ (.inl (some (bm_i (0 : Int)))) w2) (fun E => Φ (.inr E) w2) r2))) (fun E => Φ (.inr E) w1) r1)) : bm_Call bm_pg (d + 1) y_X9_expect [bm_r (some p0), bm_i p1] w Φ := bm_enter rfl (bm_go (bm_Call_mono _ _) [] 18 _ h)
/-! CaseTables$Tokens.oneOf(II)I -/
set_option maxRecDepth 20000 in
theorem vc_X9_oneOf {d : Nat} {Φ : bm_Rt → bm_W → Prop} {p0 : Nat} {p1 : Int} {p2 : Int} {w : bm_W} (h :
  (bm_kt w p0 = 9) ∧
  (if (!decide ((bm_gi w p0 10) = 0)) = true then
    Φ (.inl (some (bm_i (-1 : Int)))) w
  else
    (bm_kt w p0 = 9) ∧
    (if (decide ((bm_gi w p0 8) < 0)) = true then
      Φ (.inl (some (bm_i (-1 : Int)))) w
    else
      (bm_kt w p0 = 9) ∧
      (bm_kt w p0 = 9) ∧
      (if (decide ((bm_gi w p0 9) ≤ (bm_gi w p0 8))) = true then
        Φ (.inl (some (bm_i (-1 : Int)))) w
      else
        (bm_kt w p0 = 9) ∧
        (bm_kt w p0 = 9 ∧ bm_gr w p0 1 = some (bm_u (bm_gr w p0 1))) ∧
        (20 ≤ bm_kt w (bm_u (bm_gr w p0 1)) ∧ bm_kt w (bm_u (bm_gr w p0 1)) < 27) ∧
        (if (decide ((bm_gi w p0 8) < (bm_kn w (bm_u (bm_gr w p0 1)) : Int))) = true then
          (bm_kt w p0 = 9 ∧ bm_gr w p0 1 = some (bm_u (bm_gr w p0 1))) ∧
          (bm_kt w p0 = 9) ∧
          (bm_kt w (bm_u (bm_gr w p0 1)) = 21 ∧ bm_in (bm_gi w p0 8) (bm_kn w (bm_u (bm_gr w p0 1)))) ∧
          (if (decide ((bm_gi w (bm_u (bm_gr w p0 1)) ((bm_gi w p0 8)).toNat) < p1)) = true then
            Φ (.inl (some (bm_i (-1 : Int)))) w
          else
            (bm_kt w p0 = 9 ∧ bm_gr w p0 1 = some (bm_u (bm_gr w p0 1))) ∧
            (bm_kt w p0 = 9) ∧
            (bm_kt w (bm_u (bm_gr w p0 1)) = 21 ∧ bm_in (bm_gi w p0 8) (bm_kn w (bm_u (bm_gr w p0 1)))) ∧
            (if (decide (p2 < (bm_gi w (bm_u (bm_gr w p0 1)) ((bm_gi w p0 8)).toNat))) = true then
              Φ (.inl (some (bm_i (-1 : Int)))) w
            else
              (bm_kt w p0 = 9 ∧ bm_gr w p0 1 = some (bm_u (bm_gr w p0 1))) ∧
              (bm_kt w p0 = 9) ∧
              (bm_kt w (bm_u (bm_gr w p0 1)) = 21 ∧ bm_in (bm_gi w p0 8) (bm_kn w (bm_u (bm_gr w p0 1)))) ∧
              Φ (.inl (some (bm_i (bm_gi w (bm_u (bm_gr w p0 1)) ((bm_gi w p0 8)).toNat)))) w))
        else
          Φ (.inl (some (bm_i (-1 : Int)))) w))))) : bm_Call bm_pg (d + 1) y_X9_oneOf [bm_r (some p0), bm_i p1, bm_i p2] w Φ := bm_enter rfl (bm_go (bm_Call_mono _ _) [] 43 _ h)
/-! CaseTables$Tokens.fail()V -/
set_option maxRecDepth 20000 in
theorem vc_X9_fail {d : Nat} {Φ : bm_Rt → bm_W → Prop} {p0 : Nat} {w : bm_W} (h :
  (bm_kt w p0 = 9 ∧ ((1 : Int) = 0 ∨ (1 : Int) = 1)) ∧
  Φ (.inl none) (bm_si w p0 10 (1 : Int))) : bm_Call bm_pg (d + 1) y_X9_fail [bm_r (some p0)] w Φ := bm_enter rfl (bm_go (bm_Call_mono _ _) [] 6 _ h)
/-! CaseTables$Tokens.startHere()I -/
set_option maxRecDepth 20000 in
theorem vc_X9_startHere {d : Nat} {Φ : bm_Rt → bm_W → Prop} {p0 : Nat} {w : bm_W} (h :
  (bm_kt w p0 = 9) ∧
  (if (decide ((bm_gi w p0 8) < 0)) = true then
    Φ (.inl (some (bm_i (0 : Int)))) w
  else
    (bm_kt w p0 = 9) ∧
    (bm_kt w p0 = 9 ∧ bm_gr w p0 2 = some (bm_u (bm_gr w p0 2))) ∧
    (20 ≤ bm_kt w (bm_u (bm_gr w p0 2)) ∧ bm_kt w (bm_u (bm_gr w p0 2)) < 27) ∧
    (if (decide ((bm_kn w (bm_u (bm_gr w p0 2)) : Int) ≤ (bm_gi w p0 8))) = true then
      Φ (.inl (some (bm_i (0 : Int)))) w
    else
      (bm_kt w p0 = 9 ∧ bm_gr w p0 2 = some (bm_u (bm_gr w p0 2))) ∧
      (bm_kt w p0 = 9) ∧
      (bm_kt w (bm_u (bm_gr w p0 2)) = 21 ∧ bm_in (bm_gi w p0 8) (bm_kn w (bm_u (bm_gr w p0 2)))) ∧
      Φ (.inl (some (bm_i (bm_gi w (bm_u (bm_gr w p0 2)) ((bm_gi w p0 8)).toNat)))) w))) : bm_Call bm_pg (d + 1) y_X9_startHere [bm_r (some p0)] w Φ := bm_enter rfl (bm_go (bm_Call_mono _ _) [] 19 _ h)
/-! CaseTables$Tokens.valueHere()J -/
set_option maxRecDepth 20000 in
theorem vc_X9_valueHere {d : Nat} {Φ : bm_Rt → bm_W → Prop} {p0 : Nat} {w : bm_W} (h :
  (bm_kt w p0 = 9) ∧
  (if (decide ((bm_gi w p0 8) < 0)) = true then
    Φ (.inl (some (bm_l (0 : Int)))) w
  else
    (bm_kt w p0 = 9) ∧
    (bm_kt w p0 = 9 ∧ bm_gr w p0 3 = some (bm_u (bm_gr w p0 3))) ∧
    (20 ≤ bm_kt w (bm_u (bm_gr w p0 3)) ∧ bm_kt w (bm_u (bm_gr w p0 3)) < 27) ∧
    (if (decide ((bm_kn w (bm_u (bm_gr w p0 3)) : Int) ≤ (bm_gi w p0 8))) = true then
      Φ (.inl (some (bm_l (0 : Int)))) w
    else
      (bm_kt w p0 = 9 ∧ bm_gr w p0 3 = some (bm_u (bm_gr w p0 3))) ∧
      (bm_kt w p0 = 9) ∧
      (bm_kt w (bm_u (bm_gr w p0 3)) = 22 ∧ bm_in (bm_gi w p0 8) (bm_kn w (bm_u (bm_gr w p0 3)))) ∧
      Φ (.inl (some (bm_l (bm_gl w (bm_u (bm_gr w p0 3)) ((bm_gi w p0 8)).toNat)))) w))) : bm_Call bm_pg (d + 1) y_X9_valueHere [bm_r (some p0)] w Φ := bm_enter rfl (bm_go (bm_Call_mono _ _) [] 19 _ h)
/-! CaseTables$Tokens.allow(I)V -/
set_option maxRecDepth 20000 in
theorem vc_X9_allow {d : Nat} {Φ : bm_Rt → bm_W → Prop} {p0 : Nat} {p1 : Int} {w : bm_W} (h :
  (bm_kt w p0 = 9) ∧
  (bm_kt w p0 = 9) ∧
  Φ (.inl none) (bm_si w p0 9 (bm_w ((bm_gi w p0 8) + p1)))) : bm_Call bm_pg (d + 1) y_X9_allow [bm_r (some p0), bm_i p1] w Φ := bm_enter rfl (bm_go (bm_Call_mono _ _) [] 9 _ h)
/-! CaseTables$Tokens.allowAll()V -/
set_option maxRecDepth 20000 in
theorem vc_X9_allowAll {d : Nat} {Φ : bm_Rt → bm_W → Prop} {p0 : Nat} {w : bm_W} (h :
  (bm_kt w p0 = 9 ∧ bm_gr w p0 1 = some (bm_u (bm_gr w p0 1))) ∧
  (20 ≤ bm_kt w (bm_u (bm_gr w p0 1)) ∧ bm_kt w (bm_u (bm_gr w p0 1)) < 27) ∧
  (bm_kt w p0 = 9) ∧
  Φ (.inl none) (bm_si w p0 9 (bm_kn w (bm_u (bm_gr w p0 1)) : Int))) : bm_Call bm_pg (d + 1) y_X9_allowAll [bm_r (some p0)] w Φ := bm_enter rfl (bm_go (bm_Call_mono _ _) [] 8 _ h)
/-! CaseTables$Tokens.scanOne()V -/
set_option maxRecDepth 20000 in
theorem vc_X9_scanOne {d : Nat} {Φ : bm_Rt → bm_W → Prop} {p0 : Nat} {w : bm_W} (h :
  (bm_kt w p0 = 9) ∧ bm_Call bm_pg d y_X9_skipBlanks [bm_r (some p0)] w (fun r1 w1 => 
    bm_c0 ((bm_kt w1 p0 = 9) ∧
    (bm_kt w1 p0 = 9) ∧
    (bm_kt (bm_si w1 p0 6 (bm_gi w1 p0 4)) p0 = 9) ∧
    (bm_kt (bm_sq (bm_si w1 p0 6 (bm_gi w1 p0 4)) p0 7 (0 : Int)) p0 = 9 ∧ bm_gr (bm_sq (bm_si w1 p0 6 (bm_gi w1 p0 4)) p0 7 (0 : Int)) p0 0 = some (bm_u (bm_gr (bm_sq (bm_si w1 p0 6 (bm_gi w1 p0 4)) p0 7 (0 : Int)) p0 0))) ∧
    (bm_kt (bm_sq (bm_si w1 p0 6 (bm_gi w1 p0 4)) p0 7 (0 : Int)) p0 = 9) ∧
    (bm_kt (bm_sq (bm_si w1 p0 6 (bm_gi w1 p0 4)) p0 7 (0 : Int)) (bm_u (bm_gr (bm_sq (bm_si w1 p0 6 (bm_gi w1 p0 4)) p0 7 (0 : Int)) p0 0)) = 8) ∧ bm_Call bm_pg d y_X8_byteAt [bm_r (some (bm_u (bm_gr (bm_sq (bm_si w1 p0 6 (bm_gi w1 p0 4)) p0 7 (0 : Int)) p0 0))), bm_i (bm_gi (bm_sq (bm_si w1 p0 6 (bm_gi w1 p0 4)) p0 7 (0 : Int)) p0 4)] (bm_sq (bm_si w1 p0 6 (bm_gi w1 p0 4)) p0 7 (0 : Int)) (fun r2 w2 => 
      bm_c1 (fun x2 => (if (decide (0 ≤ x2)) = true then
        (True) ∧ bm_Call bm_pg d y_X9_isLetter [bm_i x2] w2 (fun r3 w3 => 
          bm_c1 (fun x3 => (if (decide (x3 = 0)) = true then
            (True) ∧ bm_Call bm_pg d y_X9_isDigit [bm_i x2] w3 (fun r4 w4 => 
              bm_c1 (fun x4 => (if (decide (x4 = 0)) = true then
                (bm_kt w4 p0 = 9) ∧
                (bm_kt w4 p0 = 9) ∧
                (bm_kt (bm_si w4 p0 4 (bm_w ((bm_gi w4 p0 4) + (1 : Int)))) p0 = 9) ∧ bm_Call bm_pg d y_X9_symbolKind [bm_r (some p0), bm_i x2] (bm_si w4 p0 4 (bm_w ((bm_gi w4 p0 4) + (1 : Int)))) (fun r5 w5 => 
                  bm_c1 (fun x5 => (bm_kt w5 p0 = 9) ∧
                  Φ (.inl none) (bm_si w5 p0 5 x5)) (fun E => Φ (.inr E) w5) r5)
              else
                (bm_kt w4 p0 = 9) ∧ bm_Call bm_pg d y_X9_scanNumber [bm_r (some p0)] w4 (fun r6 w6 => 
                  bm_c0 (Φ (.inl none) w6) (fun E => Φ (.inr E) w6) r6))) (fun E => Φ (.inr E) w4) r4)
          else
            (bm_kt w3 p0 = 9) ∧ bm_Call bm_pg d y_X9_scanWord [bm_r (some p0)] w3 (fun r7 w7 => 
              bm_c0 (Φ (.inl none) w7) (fun E => Φ (.inr E) w7) r7))) (fun E => Φ (.inr E) w3) r3)
      else
        (bm_kt w2 p0 = 9) ∧
        Φ (.inl none) (bm_si w2 p0 5 (0 : Int)))) (fun E => Φ (.inr E) w2) r2)) (fun E => Φ (.inr E) w1) r1)) : bm_Call bm_pg (d + 1) y_X9_scanOne [bm_r (some p0)] w Φ := bm_enter rfl (bm_go (bm_Call_mono _ _) [] 47 _ h)
/-! CaseTables$Tokens.skipBlanks()V -/
def bk_X9_skipBlanks_0 (d : Nat) (Φ : bm_Rt → bm_W → Prop) (v0 : Nat) (w : bm_W) : Prop := bm_Wp (bm_Call bm_pg d) tb_X9_skipBlanks Φ (0, [some (bm_r (some v0))], [], w)
set_option maxRecDepth 20000 in
theorem vc_X9_skipBlanks {d : Nat} {Φ : bm_Rt → bm_W → Prop} {p0 : Nat} {w : bm_W} (h :
  (bm_kt w p0 = 9) ∧
  (bm_kt w p0 = 9 ∧ bm_gr w p0 0 = some (bm_u (bm_gr w p0 0))) ∧
  (bm_kt w (bm_u (bm_gr w p0 0)) = 8) ∧ bm_Call bm_pg d y_X8_length [bm_r (some (bm_u (bm_gr w p0 0)))] w (fun r1 w1 => 
    bm_c1 (fun x1 => (if (decide (x1 ≤ (bm_gi w p0 4))) = true then
      Φ (.inl none) w1
    else
      (bm_kt w1 p0 = 9 ∧ bm_gr w1 p0 0 = some (bm_u (bm_gr w1 p0 0))) ∧
      (bm_kt w1 p0 = 9) ∧
      (bm_kt w1 (bm_u (bm_gr w1 p0 0)) = 8) ∧ bm_Call bm_pg d y_X8_byteAt [bm_r (some (bm_u (bm_gr w1 p0 0))), bm_i (bm_gi w1 p0 4)] w1 (fun r2 w2 => 
        bm_c1 (fun x2 => (True) ∧ bm_Call bm_pg d y_X9_isBlank [bm_i x2] w2 (fun r3 w3 => 
          bm_c1 (fun x3 => (if (decide (x3 = 0)) = true then
            Φ (.inl none) w3
          else
            (bm_kt w3 p0 = 9) ∧
            (bm_kt w3 p0 = 9) ∧
            bk_X9_skipBlanks_0 d Φ p0 (bm_si w3 p0 4 (bm_w ((bm_gi w3 p0 4) + (1 : Int)))))) (fun E => Φ (.inr E) w3) r3)) (fun E => Φ (.inr E) w2) r2))) (fun E => Φ (.inr E) w1) r1)) : bm_Call bm_pg (d + 1) y_X9_skipBlanks [bm_r (some p0)] w Φ := bm_enter rfl (bm_go (bm_Call_mono _ _) [0] 23 _ h)
set_option maxRecDepth 20000 in
theorem ve_X9_skipBlanks {d : Nat} {Φ : bm_Rt → bm_W → Prop} {p0 : Nat} {w : bm_W} (h : bk_X9_skipBlanks_0 d Φ p0 w) : bm_Call bm_pg (d + 1) y_X9_skipBlanks [bm_r (some p0)] w Φ := bm_enter rfl (bm_Wp.msk (bm_Call_mono _ _) h)
set_option maxRecDepth 20000 in
theorem vb_X9_skipBlanks_0 {d : Nat} {Φ : bm_Rt → bm_W → Prop} {v0 : Nat} {w : bm_W} (h :
  (bm_kt w v0 = 9) ∧
  (bm_kt w v0 = 9 ∧ bm_gr w v0 0 = some (bm_u (bm_gr w v0 0))) ∧
  (bm_kt w (bm_u (bm_gr w v0 0)) = 8) ∧ bm_Call bm_pg d y_X8_length [bm_r (some (bm_u (bm_gr w v0 0)))] w (fun r1 w1 => 
    bm_c1 (fun x1 => (if (decide (x1 ≤ (bm_gi w v0 4))) = true then
      Φ (.inl none) w1
    else
      (bm_kt w1 v0 = 9 ∧ bm_gr w1 v0 0 = some (bm_u (bm_gr w1 v0 0))) ∧
      (bm_kt w1 v0 = 9) ∧
      (bm_kt w1 (bm_u (bm_gr w1 v0 0)) = 8) ∧ bm_Call bm_pg d y_X8_byteAt [bm_r (some (bm_u (bm_gr w1 v0 0))), bm_i (bm_gi w1 v0 4)] w1 (fun r2 w2 => 
        bm_c1 (fun x2 => (True) ∧ bm_Call bm_pg d y_X9_isBlank [bm_i x2] w2 (fun r3 w3 => 
          bm_c1 (fun x3 => (if (decide (x3 = 0)) = true then
            Φ (.inl none) w3
          else
            (bm_kt w3 v0 = 9) ∧
            (bm_kt w3 v0 = 9) ∧
            bk_X9_skipBlanks_0 d Φ v0 (bm_si w3 v0 4 (bm_w ((bm_gi w3 v0 4) + (1 : Int)))))) (fun E => Φ (.inr E) w3) r3)) (fun E => Φ (.inr E) w2) r2))) (fun E => Φ (.inr E) w1) r1)) : bk_X9_skipBlanks_0 d Φ v0 w := bm_go (bm_Call_mono _ _) [0] 23 _ h
/-! CaseTables$Tokens.scanWord()V -/
def bk_X9_scanWord_0 (d : Nat) (Φ : bm_Rt → bm_W → Prop) (v0 : Nat) (w : bm_W) : Prop := bm_Wp (bm_Call bm_pg d) tb_X9_scanWord Φ (0, [some (bm_r (some v0))], [], w)
set_option maxRecDepth 20000 in
theorem vc_X9_scanWord {d : Nat} {Φ : bm_Rt → bm_W → Prop} {p0 : Nat} {w : bm_W} (h :
  (bm_kt w p0 = 9) ∧
  (bm_kt w p0 = 9 ∧ bm_gr w p0 0 = some (bm_u (bm_gr w p0 0))) ∧
  (bm_kt w (bm_u (bm_gr w p0 0)) = 8) ∧ bm_Call bm_pg d y_X8_length [bm_r (some (bm_u (bm_gr w p0 0)))] w (fun r1 w1 => 
    bm_c1 (fun x1 => (if (decide (x1 ≤ (bm_gi w p0 4))) = true then
      (bm_kt w1 p0 = 9) ∧
      (bm_kt w1 p0 = 9) ∧
      (if (decide ((bm_w ((bm_gi w1 p0 4) - (bm_gi w1 p0 6))) ≤ (8 : Int))) = true then
        (bm_kt w1 p0 = 9) ∧ bm_Call bm_pg d y_X9_wordKind [bm_r (some p0)] w1 (fun r2 w2 => 
          bm_c1 (fun x2 => (bm_kt w2 p0 = 9) ∧
          Φ (.inl none) (bm_si w2 p0 5 x2)) (fun E => Φ (.inr E) w2) r2)
      else
        (bm_kt w1 p0 = 9) ∧
        Φ (.inl none) (bm_si w1 p0 5 (1 : Int)))
    else
      (bm_kt w1 p0 = 9 ∧ bm_gr w1 p0 0 = some (bm_u (bm_gr w1 p0 0))) ∧
      (bm_kt w1 p0 = 9) ∧
      (bm_kt w1 (bm_u (bm_gr w1 p0 0)) = 8) ∧ bm_Call bm_pg d y_X8_byteAt [bm_r (some (bm_u (bm_gr w1 p0 0))), bm_i (bm_gi w1 p0 4)] w1 (fun r3 w3 => 
        bm_c1 (fun x3 => (True) ∧ bm_Call bm_pg d y_X9_isWordSign [bm_i x3] w3 (fun r4 w4 => 
          bm_c1 (fun x4 => (if (decide (x4 = 0)) = true then
            (bm_kt w4 p0 = 9) ∧
            (bm_kt w4 p0 = 9) ∧
            (if (decide ((bm_w ((bm_gi w4 p0 4) - (bm_gi w4 p0 6))) ≤ (8 : Int))) = true then
              (bm_kt w4 p0 = 9) ∧ bm_Call bm_pg d y_X9_wordKind [bm_r (some p0)] w4 (fun r5 w5 => 
                bm_c1 (fun x5 => (bm_kt w5 p0 = 9) ∧
                Φ (.inl none) (bm_si w5 p0 5 x5)) (fun E => Φ (.inr E) w5) r5)
            else
              (bm_kt w4 p0 = 9) ∧
              Φ (.inl none) (bm_si w4 p0 5 (1 : Int)))
          else
            (bm_kt w4 p0 = 9) ∧
            (bm_kt w4 p0 = 9 ∧ bm_gr w4 p0 0 = some (bm_u (bm_gr w4 p0 0))) ∧
            (bm_kt w4 p0 = 9) ∧
            (bm_kt w4 (bm_u (bm_gr w4 p0 0)) = 8) ∧ bm_Call bm_pg d y_X8_byteAt [bm_r (some (bm_u (bm_gr w4 p0 0))), bm_i (bm_gi w4 p0 4)] w4 (fun r6 w6 => 
              bm_c1 (fun x6 => (bm_kt w6 p0 = 9) ∧
              (bm_kt (bm_sq w6 p0 7 ((Int64.ofInt ((Int64.ofInt (bm_gl w4 p0 7) <<< ((Int32.ofInt (8 : Int)).toInt64 &&& 63)).toInt) ||| Int64.ofInt x6).toInt)) p0 = 9) ∧
              (bm_kt (bm_sq w6 p0 7 ((Int64.ofInt ((Int64.ofInt (bm_gl w4 p0 7) <<< ((Int32.ofInt (8 : Int)).toInt64 &&& 63)).toInt) ||| Int64.ofInt x6).toInt)) p0 = 9) ∧
              bk_X9_scanWord_0 d Φ p0 (bm_si (bm_sq w6 p0 7 ((Int64.ofInt ((Int64.ofInt (bm_gl w4 p0 7) <<< ((Int32.ofInt (8 : Int)).toInt64 &&& 63)).toInt) ||| Int64.ofInt x6).toInt)) p0 4 (bm_w ((bm_gi (bm_sq w6 p0 7 ((Int64.ofInt ((Int64.ofInt (bm_gl w4 p0 7) <<< ((Int32.ofInt (8 : Int)).toInt64 &&& 63)).toInt) ||| Int64.ofInt x6).toInt)) p0 4) + (1 : Int))))) (fun E => Φ (.inr E) w6) r6))) (fun E => Φ (.inr E) w4) r4)) (fun E => Φ (.inr E) w3) r3))) (fun E => Φ (.inr E) w1) r1)) : bm_Call bm_pg (d + 1) y_X9_scanWord [bm_r (some p0)] w Φ := bm_enter rfl (bm_go (bm_Call_mono _ _) [0] 49 _ h)
set_option maxRecDepth 20000 in
theorem ve_X9_scanWord {d : Nat} {Φ : bm_Rt → bm_W → Prop} {p0 : Nat} {w : bm_W} (h : bk_X9_scanWord_0 d Φ p0 w) : bm_Call bm_pg (d + 1) y_X9_scanWord [bm_r (some p0)] w Φ := bm_enter rfl (bm_Wp.msk (bm_Call_mono _ _) h)
set_option maxRecDepth 20000 in
theorem vb_X9_scanWord_0 {d : Nat} {Φ : bm_Rt → bm_W → Prop} {v0 : Nat} {w : bm_W} (h :
  (bm_kt w v0 = 9) ∧
  (bm_kt w v0 = 9 ∧ bm_gr w v0 0 = some (bm_u (bm_gr w v0 0))) ∧
  (bm_kt w (bm_u (bm_gr w v0 0)) = 8) ∧ bm_Call bm_pg d y_X8_length [bm_r (some (bm_u (bm_gr w v0 0)))] w (fun r1 w1 => 
    bm_c1 (fun x1 => (if (decide (x1 ≤ (bm_gi w v0 4))) = true then
      (bm_kt w1 v0 = 9) ∧
      (bm_kt w1 v0 = 9) ∧
      (if (decide ((bm_w ((bm_gi w1 v0 4) - (bm_gi w1 v0 6))) ≤ (8 : Int))) = true then
        (bm_kt w1 v0 = 9) ∧ bm_Call bm_pg d y_X9_wordKind [bm_r (some v0)] w1 (fun r2 w2 => 
          bm_c1 (fun x2 => (bm_kt w2 v0 = 9) ∧
          Φ (.inl none) (bm_si w2 v0 5 x2)) (fun E => Φ (.inr E) w2) r2)
      else
        (bm_kt w1 v0 = 9) ∧
        Φ (.inl none) (bm_si w1 v0 5 (1 : Int)))
    else
      (bm_kt w1 v0 = 9 ∧ bm_gr w1 v0 0 = some (bm_u (bm_gr w1 v0 0))) ∧
      (bm_kt w1 v0 = 9) ∧
      (bm_kt w1 (bm_u (bm_gr w1 v0 0)) = 8) ∧ bm_Call bm_pg d y_X8_byteAt [bm_r (some (bm_u (bm_gr w1 v0 0))), bm_i (bm_gi w1 v0 4)] w1 (fun r3 w3 => 
        bm_c1 (fun x3 => (True) ∧ bm_Call bm_pg d y_X9_isWordSign [bm_i x3] w3 (fun r4 w4 => 
          bm_c1 (fun x4 => (if (decide (x4 = 0)) = true then
            (bm_kt w4 v0 = 9) ∧
            (bm_kt w4 v0 = 9) ∧
            (if (decide ((bm_w ((bm_gi w4 v0 4) - (bm_gi w4 v0 6))) ≤ (8 : Int))) = true then
              (bm_kt w4 v0 = 9) ∧ bm_Call bm_pg d y_X9_wordKind [bm_r (some v0)] w4 (fun r5 w5 => 
                bm_c1 (fun x5 => (bm_kt w5 v0 = 9) ∧
                Φ (.inl none) (bm_si w5 v0 5 x5)) (fun E => Φ (.inr E) w5) r5)
            else
              (bm_kt w4 v0 = 9) ∧
              Φ (.inl none) (bm_si w4 v0 5 (1 : Int)))
          else
            (bm_kt w4 v0 = 9) ∧
            (bm_kt w4 v0 = 9 ∧ bm_gr w4 v0 0 = some (bm_u (bm_gr w4 v0 0))) ∧
            (bm_kt w4 v0 = 9) ∧
            (bm_kt w4 (bm_u (bm_gr w4 v0 0)) = 8) ∧ bm_Call bm_pg d y_X8_byteAt [bm_r (some (bm_u (bm_gr w4 v0 0))), bm_i (bm_gi w4 v0 4)] w4 (fun r6 w6 => 
              bm_c1 (fun x6 => (bm_kt w6 v0 = 9) ∧
              (bm_kt (bm_sq w6 v0 7 ((Int64.ofInt ((Int64.ofInt (bm_gl w4 v0 7) <<< ((Int32.ofInt (8 : Int)).toInt64 &&& 63)).toInt) ||| Int64.ofInt x6).toInt)) v0 = 9) ∧
              (bm_kt (bm_sq w6 v0 7 ((Int64.ofInt ((Int64.ofInt (bm_gl w4 v0 7) <<< ((Int32.ofInt (8 : Int)).toInt64 &&& 63)).toInt) ||| Int64.ofInt x6).toInt)) v0 = 9) ∧
              bk_X9_scanWord_0 d Φ v0 (bm_si (bm_sq w6 v0 7 ((Int64.ofInt ((Int64.ofInt (bm_gl w4 v0 7) <<< ((Int32.ofInt (8 : Int)).toInt64 &&& 63)).toInt) ||| Int64.ofInt x6).toInt)) v0 4 (bm_w ((bm_gi (bm_sq w6 v0 7 ((Int64.ofInt ((Int64.ofInt (bm_gl w4 v0 7) <<< ((Int32.ofInt (8 : Int)).toInt64 &&& 63)).toInt) ||| Int64.ofInt x6).toInt)) v0 4) + (1 : Int))))) (fun E => Φ (.inr E) w6) r6))) (fun E => Φ (.inr E) w4) r4)) (fun E => Φ (.inr E) w3) r3))) (fun E => Φ (.inr E) w1) r1)) : bk_X9_scanWord_0 d Φ v0 w := bm_go (bm_Call_mono _ _) [0] 49 _ h
/-! CaseTables$Tokens.wordKind()I -/
def bk_X9_wordKind_2 (d : Nat) (Φ : bm_Rt → bm_W → Prop) (v0 : Nat) (v1 : Int) (w : bm_W) : Prop := bm_Wp (bm_Call bm_pg d) tb_X9_wordKind Φ (2, [some (bm_r (some v0)), some (bm_i v1)], [], w)
set_option maxRecDepth 20000 in
theorem vc_X9_wordKind {d : Nat} {Φ : bm_Rt → bm_W → Prop} {p0 : Nat} {w : bm_W} (h :
  bk_X9_wordKind_2 d Φ p0 (0 : Int) w) : bm_Call bm_pg (d + 1) y_X9_wordKind [bm_r (some p0)] w Φ := bm_enter rfl (bm_go (bm_Call_mono _ _) [2] 22 _ h)
set_option maxRecDepth 20000 in
theorem vb_X9_wordKind_2 {d : Nat} {Φ : bm_Rt → bm_W → Prop} {v0 : Nat} {v1 : Int} {w : bm_W} (h :
  (bm_kIs bm_KK (2, 0)) ∧
  (if (decide ((bm_kLen bm_KK (2, 0) : Int) ≤ v1)) = true then
    Φ (.inl (some (bm_i (3 : Int)))) w
  else
    (bm_in v1 bm_KK.2.2.2.1.length) ∧
    (bm_kt w v0 = 9) ∧
    (if (!decide (((bm_KK.2.2.2.1.getD (v1).toNat 0).toInt) = (bm_gl w v0 7))) = true then
      bk_X9_wordKind_2 d Φ v0 (bm_w (v1 + 1)) w
    else
      Φ (.inl (some (bm_i (bm_w ((4 : Int) + v1))))) w))) : bk_X9_wordKind_2 d Φ v0 v1 w := bm_go (bm_Call_mono _ _) [2] 22 _ h
/-! CaseTables$Tokens.scanNumber()V -/
def bk_X9_scanNumber_0 (d : Nat) (Φ : bm_Rt → bm_W → Prop) (v0 : Nat) (w : bm_W) : Prop := bm_Wp (bm_Call bm_pg d) tb_X9_scanNumber Φ (0, [some (bm_r (some v0))], [], w)
set_option maxRecDepth 20000 in
theorem vc_X9_scanNumber {d : Nat} {Φ : bm_Rt → bm_W → Prop} {p0 : Nat} {w : bm_W} (h :
  (bm_kt w p0 = 9) ∧
  (bm_kt w p0 = 9 ∧ bm_gr w p0 0 = some (bm_u (bm_gr w p0 0))) ∧
  (bm_kt w (bm_u (bm_gr w p0 0)) = 8) ∧ bm_Call bm_pg d y_X8_length [bm_r (some (bm_u (bm_gr w p0 0)))] w (fun r1 w1 => 
    bm_c1 (fun x1 => (if (decide (x1 ≤ (bm_gi w p0 4))) = true then
      (bm_kt w1 p0 = 9) ∧
      (bm_kt w1 p0 = 9) ∧
      (if (decide ((bm_w ((bm_gi w1 p0 4) - (bm_gi w1 p0 6))) ≤ (4 : Int))) = true then
        (bm_kt w1 p0 = 9) ∧
        Φ (.inl none) (bm_si w1 p0 5 (2 : Int))
      else
        (bm_kt w1 p0 = 9) ∧
        Φ (.inl none) (bm_si w1 p0 5 (1 : Int)))
    else
      (bm_kt w1 p0 = 9 ∧ bm_gr w1 p0 0 = some (bm_u (bm_gr w1 p0 0))) ∧
      (bm_kt w1 p0 = 9) ∧
      (bm_kt w1 (bm_u (bm_gr w1 p0 0)) = 8) ∧ bm_Call bm_pg d y_X8_byteAt [bm_r (some (bm_u (bm_gr w1 p0 0))), bm_i (bm_gi w1 p0 4)] w1 (fun r2 w2 => 
        bm_c1 (fun x2 => (True) ∧ bm_Call bm_pg d y_X9_isDigit [bm_i x2] w2 (fun r3 w3 => 
          bm_c1 (fun x3 => (if (decide (x3 = 0)) = true then
            (bm_kt w3 p0 = 9) ∧
            (bm_kt w3 p0 = 9) ∧
            (if (decide ((bm_w ((bm_gi w3 p0 4) - (bm_gi w3 p0 6))) ≤ (4 : Int))) = true then
              (bm_kt w3 p0 = 9) ∧
              Φ (.inl none) (bm_si w3 p0 5 (2 : Int))
            else
              (bm_kt w3 p0 = 9) ∧
              Φ (.inl none) (bm_si w3 p0 5 (1 : Int)))
          else
            (bm_kt w3 p0 = 9) ∧
            (bm_kt w3 p0 = 9 ∧ bm_gr w3 p0 0 = some (bm_u (bm_gr w3 p0 0))) ∧
            (bm_kt w3 p0 = 9) ∧
            (bm_kt w3 (bm_u (bm_gr w3 p0 0)) = 8) ∧ bm_Call bm_pg d y_X8_byteAt [bm_r (some (bm_u (bm_gr w3 p0 0))), bm_i (bm_gi w3 p0 4)] w3 (fun r4 w4 => 
              bm_c1 (fun x4 => (bm_kt w4 p0 = 9) ∧
              (bm_kt (bm_sq w4 p0 7 (bm_x ((bm_x ((bm_x ((bm_gl w3 p0 7) * (10 : Int))) + x4)) - (48 : Int)))) p0 = 9) ∧
              (bm_kt (bm_sq w4 p0 7 (bm_x ((bm_x ((bm_x ((bm_gl w3 p0 7) * (10 : Int))) + x4)) - (48 : Int)))) p0 = 9) ∧
              bk_X9_scanNumber_0 d Φ p0 (bm_si (bm_sq w4 p0 7 (bm_x ((bm_x ((bm_x ((bm_gl w3 p0 7) * (10 : Int))) + x4)) - (48 : Int)))) p0 4 (bm_w ((bm_gi (bm_sq w4 p0 7 (bm_x ((bm_x ((bm_x ((bm_gl w3 p0 7) * (10 : Int))) + x4)) - (48 : Int)))) p0 4) + (1 : Int))))) (fun E => Φ (.inr E) w4) r4))) (fun E => Φ (.inr E) w3) r3)) (fun E => Φ (.inr E) w2) r2))) (fun E => Φ (.inr E) w1) r1)) : bm_Call bm_pg (d + 1) y_X9_scanNumber [bm_r (some p0)] w Φ := bm_enter rfl (bm_go (bm_Call_mono _ _) [0] 50 _ h)
set_option maxRecDepth 20000 in
theorem ve_X9_scanNumber {d : Nat} {Φ : bm_Rt → bm_W → Prop} {p0 : Nat} {w : bm_W} (h : bk_X9_scanNumber_0 d Φ p0 w) : bm_Call bm_pg (d + 1) y_X9_scanNumber [bm_r (some p0)] w Φ := bm_enter rfl (bm_Wp.msk (bm_Call_mono _ _) h)
set_option maxRecDepth 20000 in
theorem vb_X9_scanNumber_0 {d : Nat} {Φ : bm_Rt → bm_W → Prop} {v0 : Nat} {w : bm_W} (h :
  (bm_kt w v0 = 9) ∧
  (bm_kt w v0 = 9 ∧ bm_gr w v0 0 = some (bm_u (bm_gr w v0 0))) ∧
  (bm_kt w (bm_u (bm_gr w v0 0)) = 8) ∧ bm_Call bm_pg d y_X8_length [bm_r (some (bm_u (bm_gr w v0 0)))] w (fun r1 w1 => 
    bm_c1 (fun x1 => (if (decide (x1 ≤ (bm_gi w v0 4))) = true then
      (bm_kt w1 v0 = 9) ∧
      (bm_kt w1 v0 = 9) ∧
      (if (decide ((bm_w ((bm_gi w1 v0 4) - (bm_gi w1 v0 6))) ≤ (4 : Int))) = true then
        (bm_kt w1 v0 = 9) ∧
        Φ (.inl none) (bm_si w1 v0 5 (2 : Int))
      else
        (bm_kt w1 v0 = 9) ∧
        Φ (.inl none) (bm_si w1 v0 5 (1 : Int)))
    else
      (bm_kt w1 v0 = 9 ∧ bm_gr w1 v0 0 = some (bm_u (bm_gr w1 v0 0))) ∧
      (bm_kt w1 v0 = 9) ∧
      (bm_kt w1 (bm_u (bm_gr w1 v0 0)) = 8) ∧ bm_Call bm_pg d y_X8_byteAt [bm_r (some (bm_u (bm_gr w1 v0 0))), bm_i (bm_gi w1 v0 4)] w1 (fun r2 w2 => 
        bm_c1 (fun x2 => (True) ∧ bm_Call bm_pg d y_X9_isDigit [bm_i x2] w2 (fun r3 w3 => 
          bm_c1 (fun x3 => (if (decide (x3 = 0)) = true then
            (bm_kt w3 v0 = 9) ∧
            (bm_kt w3 v0 = 9) ∧
            (if (decide ((bm_w ((bm_gi w3 v0 4) - (bm_gi w3 v0 6))) ≤ (4 : Int))) = true then
              (bm_kt w3 v0 = 9) ∧
              Φ (.inl none) (bm_si w3 v0 5 (2 : Int))
            else
              (bm_kt w3 v0 = 9) ∧
              Φ (.inl none) (bm_si w3 v0 5 (1 : Int)))
          else
            (bm_kt w3 v0 = 9) ∧
            (bm_kt w3 v0 = 9 ∧ bm_gr w3 v0 0 = some (bm_u (bm_gr w3 v0 0))) ∧
            (bm_kt w3 v0 = 9) ∧
            (bm_kt w3 (bm_u (bm_gr w3 v0 0)) = 8) ∧ bm_Call bm_pg d y_X8_byteAt [bm_r (some (bm_u (bm_gr w3 v0 0))), bm_i (bm_gi w3 v0 4)] w3 (fun r4 w4 => 
              bm_c1 (fun x4 => (bm_kt w4 v0 = 9) ∧
              (bm_kt (bm_sq w4 v0 7 (bm_x ((bm_x ((bm_x ((bm_gl w3 v0 7) * (10 : Int))) + x4)) - (48 : Int)))) v0 = 9) ∧
              (bm_kt (bm_sq w4 v0 7 (bm_x ((bm_x ((bm_x ((bm_gl w3 v0 7) * (10 : Int))) + x4)) - (48 : Int)))) v0 = 9) ∧
              bk_X9_scanNumber_0 d Φ v0 (bm_si (bm_sq w4 v0 7 (bm_x ((bm_x ((bm_x ((bm_gl w3 v0 7) * (10 : Int))) + x4)) - (48 : Int)))) v0 4 (bm_w ((bm_gi (bm_sq w4 v0 7 (bm_x ((bm_x ((bm_x ((bm_gl w3 v0 7) * (10 : Int))) + x4)) - (48 : Int)))) v0 4) + (1 : Int))))) (fun E => Φ (.inr E) w4) r4))) (fun E => Φ (.inr E) w3) r3)) (fun E => Φ (.inr E) w2) r2))) (fun E => Φ (.inr E) w1) r1)) : bk_X9_scanNumber_0 d Φ v0 w := bm_go (bm_Call_mono _ _) [0] 50 _ h
/-! CaseTables$Tokens.symbolKind(I)I -/
set_option maxRecDepth 20000 in
theorem vc_X9_symbolKind {d : Nat} {Φ : bm_Rt → bm_W → Prop} {p0 : Nat} {p1 : Int} {w : bm_W} (h :
  (if p1 = 37 then
    Φ (.inl (some (bm_i (32 : Int)))) w
  else (if p1 = 40 then
    Φ (.inl (some (bm_i (16 : Int)))) w
  else (if p1 = 41 then
    Φ (.inl (some (bm_i (17 : Int)))) w
  else (if p1 = 42 then
    Φ (.inl (some (bm_i (30 : Int)))) w
  else (if p1 = 43 then
    Φ (.inl (some (bm_i (28 : Int)))) w
  else (if p1 = 44 then
    Φ (.inl (some (bm_i (18 : Int)))) w
  else (if p1 = 45 then
    Φ (.inl (some (bm_i (29 : Int)))) w
  else (if p1 = 46 then
    (bm_kt w p0 = 9) ∧ bm_Call bm_pg d y_X9_follows [bm_r (some p0), bm_i (46 : Int)] w (fun r1 w1 => 
      bm_c1 (fun x1 => (if (decide (x1 = 0)) = true then
        Φ (.inl (some (bm_i (1 : Int)))) w1
      else
        Φ (.inl (some (bm_i (33 : Int)))) w1)) (fun E => Φ (.inr E) w1) r1)
  else (if p1 = 47 then
    Φ (.inl (some (bm_i (31 : Int)))) w
  else (if p1 = 58 then
    Φ (.inl (some (bm_i (20 : Int)))) w
  else (if p1 = 59 then
    Φ (.inl (some (bm_i (19 : Int)))) w
  else (if p1 = 60 then
    (bm_kt w p0 = 9) ∧ bm_Call bm_pg d y_X9_follows [bm_r (some p0), bm_i (61 : Int)] w (fun r2 w2 => 
      bm_c1 (fun x2 => (if (decide (x2 = 0)) = true then
        (bm_kt w2 p0 = 9) ∧ bm_Call bm_pg d y_X9_follows [bm_r (some p0), bm_i (62 : Int)] w2 (fun r3 w3 => 
          bm_c1 (fun x3 => (if (decide (x3 = 0)) = true then
            Φ (.inl (some (bm_i (24 : Int)))) w3
          else
            Φ (.inl (some (bm_i (23 : Int)))) w3)) (fun E => Φ (.inr E) w3) r3)
      else
        Φ (.inl (some (bm_i (25 : Int)))) w2)) (fun E => Φ (.inr E) w2) r2)
  else (if p1 = 61 then
    Φ (.inl (some (bm_i (22 : Int)))) w
  else (if p1 = 62 then
    (bm_kt w p0 = 9) ∧ bm_Call bm_pg d y_X9_follows [bm_r (some p0), bm_i (61 : Int)] w (fun r4 w4 => 
      bm_c1 (fun x4 => (if (decide (x4 = 0)) = true then
        Φ (.inl (some (bm_i (26 : Int)))) w4
      else
        Φ (.inl (some (bm_i (27 : Int)))) w4)) (fun E => Φ (.inr E) w4) r4)
  else (if p1 = 124 then
    Φ (.inl (some (bm_i (21 : Int)))) w
  else Φ (.inl (some (bm_i (1 : Int)))) w)))))))))))))))) : bm_Call bm_pg (d + 1) y_X9_symbolKind [bm_r (some p0), bm_i p1] w Φ := bm_enter rfl (bm_go (bm_Call_mono _ _) [] 60 _ h)
/-! CaseTables$Tokens.follows(I)Z -/
set_option maxRecDepth 20000 in
theorem vc_X9_follows {d : Nat} {Φ : bm_Rt → bm_W → Prop} {p0 : Nat} {p1 : Int} {w : bm_W} (h :
  (bm_kt w p0 = 9 ∧ bm_gr w p0 0 = some (bm_u (bm_gr w p0 0))) ∧
  (bm_kt w p0 = 9) ∧
  (bm_kt w (bm_u (bm_gr w p0 0)) = 8) ∧ bm_Call bm_pg d y_X8_byteAt [bm_r (some (bm_u (bm_gr w p0 0))), bm_i (bm_gi w p0 4)] w (fun r1 w1 => 
    bm_c1 (fun x1 => (if (decide (x1 = p1)) = true then
      (bm_kt w1 p0 = 9) ∧
      (bm_kt w1 p0 = 9) ∧
      ((1 : Int) = 0 ∨ (1 : Int) = 1) ∧ Φ (.inl (some (bm_i (1 : Int)))) (bm_si w1 p0 4 (bm_w ((bm_gi w1 p0 4) + (1 : Int))))
    else
      ((0 : Int) = 0 ∨ (0 : Int) = 1) ∧ Φ (.inl (some (bm_i (0 : Int)))) w1)) (fun E => Φ (.inr E) w1) r1)) : bm_Call bm_pg (d + 1) y_X9_follows [bm_r (some p0), bm_i p1] w Φ := bm_enter rfl (bm_go (bm_Call_mono _ _) [] 19 _ h)
/-! CaseTables$Tokens.isBlank(I)Z -/
set_option maxRecDepth 20000 in
theorem vc_X9_isBlank {d : Nat} {Φ : bm_Rt → bm_W → Prop} {p0 : Int} {w : bm_W} (h :
  (if (decide (p0 = (32 : Int))) = true then
    ((1 : Int) = 0 ∨ (1 : Int) = 1) ∧ Φ (.inl (some (bm_i (1 : Int)))) w
  else
    (if (!decide (p0 = (10 : Int))) = true then
      ((0 : Int) = 0 ∨ (0 : Int) = 1) ∧ Φ (.inl (some (bm_i (0 : Int)))) w
    else
      ((1 : Int) = 0 ∨ (1 : Int) = 1) ∧ Φ (.inl (some (bm_i (1 : Int)))) w))) : bm_Call bm_pg (d + 1) y_X9_isBlank [bm_i p0] w Φ := bm_enter rfl (bm_go (bm_Call_mono _ _) [] 12 _ h)
/-! CaseTables$Tokens.isLetter(I)Z -/
set_option maxRecDepth 20000 in
theorem vc_X9_isLetter {d : Nat} {Φ : bm_Rt → bm_W → Prop} {p0 : Int} {w : bm_W} (h :
  (if (decide (p0 < (97 : Int))) = true then
    ((0 : Int) = 0 ∨ (0 : Int) = 1) ∧ Φ (.inl (some (bm_i (0 : Int)))) w
  else
    (if (decide ((122 : Int) < p0)) = true then
      ((0 : Int) = 0 ∨ (0 : Int) = 1) ∧ Φ (.inl (some (bm_i (0 : Int)))) w
    else
      ((1 : Int) = 0 ∨ (1 : Int) = 1) ∧ Φ (.inl (some (bm_i (1 : Int)))) w))) : bm_Call bm_pg (d + 1) y_X9_isLetter [bm_i p0] w Φ := bm_enter rfl (bm_go (bm_Call_mono _ _) [] 12 _ h)
/-! CaseTables$Tokens.isDigit(I)Z -/
set_option maxRecDepth 20000 in
theorem vc_X9_isDigit {d : Nat} {Φ : bm_Rt → bm_W → Prop} {p0 : Int} {w : bm_W} (h :
  (if (decide (p0 < (48 : Int))) = true then
    ((0 : Int) = 0 ∨ (0 : Int) = 1) ∧ Φ (.inl (some (bm_i (0 : Int)))) w
  else
    (if (decide ((57 : Int) < p0)) = true then
      ((0 : Int) = 0 ∨ (0 : Int) = 1) ∧ Φ (.inl (some (bm_i (0 : Int)))) w
    else
      ((1 : Int) = 0 ∨ (1 : Int) = 1) ∧ Φ (.inl (some (bm_i (1 : Int)))) w))) : bm_Call bm_pg (d + 1) y_X9_isDigit [bm_i p0] w Φ := bm_enter rfl (bm_go (bm_Call_mono _ _) [] 12 _ h)
/-! CaseTables$Tokens.isWordSign(I)Z -/
set_option maxRecDepth 20000 in
theorem vc_X9_isWordSign {d : Nat} {Φ : bm_Rt → bm_W → Prop} {p0 : Int} {w : bm_W} (h :
  (True) ∧ bm_Call bm_pg d y_X9_isLetter [bm_i p0] w (fun r1 w1 => 
    bm_c1 (fun x1 => (if (!decide (x1 = 0)) = true then
      ((1 : Int) = 0 ∨ (1 : Int) = 1) ∧ Φ (.inl (some (bm_i (1 : Int)))) w1
    else
      (True) ∧ bm_Call bm_pg d y_X9_isDigit [bm_i p0] w1 (fun r2 w2 => 
        bm_c1 (fun x2 => (if (decide (x2 = 0)) = true then
          ((0 : Int) = 0 ∨ (0 : Int) = 1) ∧ Φ (.inl (some (bm_i (0 : Int)))) w2
        else
          ((1 : Int) = 0 ∨ (1 : Int) = 1) ∧ Φ (.inl (some (bm_i (1 : Int)))) w2)) (fun E => Φ (.inr E) w2) r2))) (fun E => Φ (.inr E) w1) r1)) : bm_Call bm_pg (d + 1) y_X9_isWordSign [bm_i p0] w Φ := bm_enter rfl (bm_go (bm_Call_mono _ _) [] 12 _ h)
/-! CaseTables$Untried.<init>()V -/
def bk_X10_init_20 (d : Nat) (Φ : bm_Rt → bm_W → Prop) (v0 : Nat) (w : bm_W) : Prop := bm_Wp (bm_Call bm_pg d) tb_X10_init Φ (20, [some (bm_r (some v0))], [], w)
set_option maxRecDepth 20000 in
theorem vc_X10_init {d : Nat} {Φ : bm_Rt → bm_W → Prop} {p0 : Nat} {w : bm_W} (h :
  (true = true) ∧
  (0 ≤ (41 : Int) ∧ (41 : Int) ≤ 100000) ∧
  (bm_kt (bm_nw w 22 ((41 : Int)).toNat ((41 : Int)).toNat) p0 = 10) ∧
  (0 ≤ (41 : Int) ∧ (41 : Int) ≤ 100000) ∧
  (bm_kt (bm_nw (bm_sr (bm_nw w 22 ((41 : Int)).toNat ((41 : Int)).toNat) p0 0 (some (bm_sz w))) 22 ((41 : Int)).toNat ((41 : Int)).toNat) p0 = 10) ∧
  bk_X10_init_20 d Φ p0 (bm_sr (bm_nw (bm_sr (bm_nw w 22 ((41 : Int)).toNat ((41 : Int)).toNat) p0 0 (some (bm_sz w))) 22 ((41 : Int)).toNat ((41 : Int)).toNat) p0 1 (some (bm_sz (bm_sr (bm_nw w 22 ((41 : Int)).toNat ((41 : Int)).toNat) p0 0 (some (bm_sz w))))))) : bm_Call bm_pg (d + 1) y_X10_init [bm_r (some p0)] w Φ := bm_enter rfl (bm_go (bm_Call_mono _ _) [20] 17 _ h)
set_option maxRecDepth 20000 in
theorem vb_X10_init_20 {d : Nat} {Φ : bm_Rt → bm_W → Prop} {v0 : Nat} {w : bm_W} (h :
  (0 ≤ (41 : Int) ∧ (41 : Int) ≤ 100000) ∧
  (bm_kt (bm_nw w 22 ((41 : Int)).toNat ((41 : Int)).toNat) v0 = 10) ∧
  Φ (.inl none) (bm_sr (bm_nw w 22 ((41 : Int)).toNat ((41 : Int)).toNat) v0 2 (some (bm_sz w)))) : bk_X10_init_20 d Φ v0 w := bm_go (bm_Call_mono _ _) [20] 17 _ h
/-! CaseTables$Untried.begin(LCaseTables$Fun;)V -/
def bk_X10_begin_49 (d : Nat) (Φ : bm_Rt → bm_W → Prop) (v0 : Nat) (s0 : Int) (w : bm_W) : Prop := bm_Wp (bm_Call bm_pg d) tb_X10_begin Φ (49, [some (bm_r (some v0)), none, none], [bm_i s0], w)
set_option maxRecDepth 20000 in
theorem vc_X10_begin {d : Nat} {Φ : bm_Rt → bm_W → Prop} {p0 : Nat} {p1 : Nat} {w : bm_W} (h :
  (bm_kt w p1 = 1 ∧ bm_gr w p1 1 = some (bm_u (bm_gr w p1 1))) ∧
  (bm_kt w (bm_u (bm_gr w p1 1)) = 4) ∧ bm_Call bm_pg d y_X4_width [bm_r (some (bm_u (bm_gr w p1 1))), bm_i (0 : Int)] w (fun r1 w1 => 
    bm_c1 (fun x1 => (bm_kt w1 p0 = 10) ∧
    (bm_kt (bm_si w1 p0 3 x1) p1 = 1 ∧ bm_gr (bm_si w1 p0 3 x1) p1 1 = some (bm_u (bm_gr (bm_si w1 p0 3 x1) p1 1))) ∧
    (bm_kt (bm_si w1 p0 3 x1) (bm_u (bm_gr (bm_si w1 p0 3 x1) p1 1)) = 4) ∧ bm_Call bm_pg d y_X4_width [bm_r (some (bm_u (bm_gr (bm_si w1 p0 3 x1) p1 1))), bm_i (1 : Int)] (bm_si w1 p0 3 x1) (fun r2 w2 => 
      bm_c1 (fun x2 => (bm_kt w2 p0 = 10) ∧
      (bm_kt (bm_si w2 p0 4 x2) p1 = 1 ∧ bm_gr (bm_si w2 p0 4 x2) p1 1 = some (bm_u (bm_gr (bm_si w2 p0 4 x2) p1 1))) ∧
      (bm_kt (bm_si w2 p0 4 x2) (bm_u (bm_gr (bm_si w2 p0 4 x2) p1 1)) = 4) ∧ bm_Call bm_pg d y_X4_width [bm_r (some (bm_u (bm_gr (bm_si w2 p0 4 x2) p1 1))), bm_i (2 : Int)] (bm_si w2 p0 4 x2) (fun r3 w3 => 
        bm_c1 (fun x3 => (bm_kt w3 p0 = 10) ∧
        (bm_kt (bm_si w3 p0 5 x3) p1 = 1) ∧
        (if (!decide ((bm_gi (bm_si w3 p0 5 x3) p1 6) = (3 : Int))) = true then
          bk_X10_begin_49 d Φ p0 (0 : Int) (bm_si w3 p0 5 x3)
        else
          bk_X10_begin_49 d Φ p0 (1 : Int) (bm_si w3 p0 5 x3))) (fun E => Φ (.inr E) w3) r3)) (fun E => Φ (.inr E) w2) r2)) (fun E => Φ (.inr E) w1) r1)) : bm_Call bm_pg (d + 1) y_X10_begin [bm_r (some p0), bm_r (some p1)] w Φ := bm_enter rfl (bm_go (bm_Call_mono _ _) [49] 58 _ h)
set_option maxRecDepth 20000 in
theorem vb_X10_begin_49 {d : Nat} {Φ : bm_Rt → bm_W → Prop} {v0 : Nat} {s0 : Int} {w : bm_W} (h :
  (bm_kt w v0 = 10 ∧ bm_gr w v0 0 = some (bm_u (bm_gr w v0 0))) ∧
  (bm_kt w v0 = 10) ∧
  (bm_kt w v0 = 10) ∧
  (True) ∧ bm_Call bm_pg d y_X10_fill [bm_r (some (bm_u (bm_gr w v0 0))), bm_i (bm_gi w v0 3), bm_i (bm_gi w v0 4)] w (fun r1 w1 => 
    bm_c0 ((bm_kt w1 v0 = 10 ∧ bm_gr w1 v0 1 = some (bm_u (bm_gr w1 v0 1))) ∧
    (if (decide (s0 = 0)) = true then
      (bm_kt w1 v0 = 10) ∧
      (True) ∧ bm_Call bm_pg d y_X10_fill [bm_r (some (bm_u (bm_gr w1 v0 1))), bm_i (0 : Int), bm_i (bm_gi w1 v0 5)] w1 (fun r2 w2 => 
        bm_c0 ((bm_kt w2 v0 = 10 ∧ bm_gr w2 v0 2 = some (bm_u (bm_gr w2 v0 2))) ∧
        (if (decide (s0 = 0)) = true then
          (bm_kt w2 v0 = 10) ∧
          (True) ∧ bm_Call bm_pg d y_X10_fill [bm_r (some (bm_u (bm_gr w2 v0 2))), bm_i (0 : Int), bm_i (bm_gi w2 v0 5)] w2 (fun r3 w3 => 
            bm_c0 (Φ (.inl none) w3) (fun E => Φ (.inr E) w3) r3)
        else
          (bm_kt w2 v0 = 10) ∧
          (bm_kt w2 v0 = 10) ∧
          (True) ∧ bm_Call bm_pg d y_X10_fill [bm_r (some (bm_u (bm_gr w2 v0 2))), bm_i (bm_gi w2 v0 4), bm_i (bm_gi w2 v0 5)] w2 (fun r4 w4 => 
            bm_c0 (Φ (.inl none) w4) (fun E => Φ (.inr E) w4) r4))) (fun E => Φ (.inr E) w2) r2)
    else
      (bm_kt w1 v0 = 10) ∧
      (bm_kt w1 v0 = 10) ∧
      (True) ∧ bm_Call bm_pg d y_X10_fill [bm_r (some (bm_u (bm_gr w1 v0 1))), bm_i (bm_gi w1 v0 3), bm_i (bm_gi w1 v0 5)] w1 (fun r5 w5 => 
        bm_c0 ((bm_kt w5 v0 = 10 ∧ bm_gr w5 v0 2 = some (bm_u (bm_gr w5 v0 2))) ∧
        (if (decide (s0 = 0)) = true then
          (bm_kt w5 v0 = 10) ∧
          (True) ∧ bm_Call bm_pg d y_X10_fill [bm_r (some (bm_u (bm_gr w5 v0 2))), bm_i (0 : Int), bm_i (bm_gi w5 v0 5)] w5 (fun r6 w6 => 
            bm_c0 (Φ (.inl none) w6) (fun E => Φ (.inr E) w6) r6)
        else
          (bm_kt w5 v0 = 10) ∧
          (bm_kt w5 v0 = 10) ∧
          (True) ∧ bm_Call bm_pg d y_X10_fill [bm_r (some (bm_u (bm_gr w5 v0 2))), bm_i (bm_gi w5 v0 4), bm_i (bm_gi w5 v0 5)] w5 (fun r7 w7 => 
            bm_c0 (Φ (.inl none) w7) (fun E => Φ (.inr E) w7) r7))) (fun E => Φ (.inr E) w5) r5))) (fun E => Φ (.inr E) w1) r1)) : bk_X10_begin_49 d Φ v0 s0 w := bm_go (bm_Call_mono _ _) [49] 58 _ h
/-! CaseTables$Untried.strikeTable(LCaseTables$Ranges;LCaseTables$Table;)V -/
def bk_X10_strikeTable_2 (d : Nat) (Φ : bm_Rt → bm_W → Prop) (v0 : Nat) (v1 : Nat) (v2 : Nat) (v3 : Int) (w : bm_W) : Prop := bm_Wp (bm_Call bm_pg d) tb_X10_strikeTable Φ (2, [some (bm_r (some v0)), some (bm_r (some v1)), some (bm_r (some v2)), some (bm_i v3), none], [], w)
set_option maxRecDepth 20000 in
theorem vc_X10_strikeTable {d : Nat} {Φ : bm_Rt → bm_W → Prop} {p0 : Nat} {p1 : Nat} {p2 : Nat} {w : bm_W} (h :
  bk_X10_strikeTable_2 d Φ p0 p1 p2 (0 : Int) w) : bm_Call bm_pg (d + 1) y_X10_strikeTable [bm_r (some p0), bm_r (some p1), bm_r (some p2)] w Φ := bm_enter rfl (bm_go (bm_Call_mono _ _) [2] 37 _ h)
set_option maxRecDepth 20000 in
theorem vb_X10_strikeTable_2 {d : Nat} {Φ : bm_Rt → bm_W → Prop} {v0 : Nat} {v1 : Nat} {v2 : Nat} {v3 : Int} {w : bm_W} (h :
  (bm_kt w v2 = 7) ∧
  (if (decide ((bm_gi w v2 5) ≤ v3)) = true then
    Φ (.inl none) w
  else
    (bm_kt w v2 = 7) ∧ bm_Call bm_pg d y_X7_rowAt [bm_r (some v2), bm_i v3] w (fun r1 w1 => 
      bm_c3 (fun x1 => (bm_kt w1 x1 = 5 ∧ bm_gr w1 x1 0 = some (bm_u (bm_gr w1 x1 0))) ∧
      (bm_kt w1 v0 = 10 ∧ bm_gr w1 v0 0 = some (bm_u (bm_gr w1 v0 0))) ∧
      (True) ∧ bm_Call bm_pg d y_X10_strike [bm_r (some (bm_u (bm_gr w1 v0 0))), bm_r (some v1), bm_r (some (bm_u (bm_gr w1 x1 0))), bm_i (0 : Int), bm_i (1 : Int)] w1 (fun r2 w2 => 
        bm_c0 ((bm_kt w2 v0 = 10 ∧ bm_gr w2 v0 1 = some (bm_u (bm_gr w2 v0 1))) ∧
        (True) ∧ bm_Call bm_pg d y_X10_strike [bm_r (some (bm_u (bm_gr w2 v0 1))), bm_r (some v1), bm_r (some (bm_u (bm_gr w1 x1 0))), bm_i (0 : Int), bm_i (2 : Int)] w2 (fun r3 w3 => 
          bm_c0 ((bm_kt w3 v0 = 10 ∧ bm_gr w3 v0 2 = some (bm_u (bm_gr w3 v0 2))) ∧
          (True) ∧ bm_Call bm_pg d y_X10_strike [bm_r (some (bm_u (bm_gr w3 v0 2))), bm_r (some v1), bm_r (some (bm_u (bm_gr w1 x1 0))), bm_i (1 : Int), bm_i (2 : Int)] w3 (fun r4 w4 => 
            bm_c0 (bk_X10_strikeTable_2 d Φ v0 v1 v2 (bm_w (v3 + 1)) w4) (fun E => Φ (.inr E) w4) r4)) (fun E => Φ (.inr E) w3) r3)) (fun E => Φ (.inr E) w2) r2)) (fun E => Φ (.inr E) w1) r1))) : bk_X10_strikeTable_2 d Φ v0 v1 v2 v3 w := bm_go (bm_Call_mono _ _) [2] 37 _ h

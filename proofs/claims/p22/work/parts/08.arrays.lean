/-! ===== rows over arrays; what is made ===== -/
section BMA
variable {K : bm_K} {pg : bm_Pg} {mi : bm_Mi} {cc : ByteArray} {nL : Nat} {own nm : String} {ret : Option FieldType} {pc : Nat}
def bm_in (i : Int) (n : Nat) : Prop := 0 ≤ i ∧ i < n
theorem bm_ix {i : Int} {n : Nat} (hi : bm_InI i) (h : bm_in i n) : ¬ (Int32.ofInt i < 0 ∨ n ≤ (Int32.ofInt i).toNatClampNeg) ∧ (Int32.ofInt i).toNatClampNeg = i.toNat ∧ i.toNat < n := by
  have e : (Int32.ofInt i).toNatClampNeg = i.toNat := Int32.toNatClampNeg_ofInt_of_le (by have := hi.1; omega) (by have := hi.2; omega)
  have h2 : i.toNat < n := by have := h.1; have := h.2; omega
  refine ⟨fun q => ?_, e, h2⟩
  rcases q with q | q
  · have q2 := (bm_ltI hi bm_In0).mp q
    have := h.1; omega
  · rw [e] at q; omega
theorem bm_arr {D : bm_D} {b0 : Nat} {w : bm_W} {H : Heap} {a t : Nat} (hH : bm_HR D b0 w H) (ha : bm_kt w a = t) (h13 : 20 ≤ t) (h27 : t < 27) : H[a]? = some (arrV (D.2.1 t) (bm_kn w a) (fun j => bm_fv (bm_ec t) w a j)) ∧ b0 ≤ a := by
  have h3 := hH.2.2.2.1 a (by rw [ha]; omega)
  refine ⟨?_, h3.1⟩
  have h4 := h3.2.2
  rw [ha] at h4
  unfold bm_cell at h4
  rw [if_neg (by omega)] at h4
  exact h4
def bm_aI (t nx : Nat) : bm_L → List bm_V → bm_W → Option (Prop × bm_S) := fun lo st w => match st with
  | .inl i :: .inr (.inr (.inl (some a))) :: r => some (bm_kt w a = t ∧ bm_in i (bm_kn w a), nx, lo, .inl (bm_gi w a i.toNat) :: r, w)
  | _ => none
def bm_aL (t nx : Nat) : bm_L → List bm_V → bm_W → Option (Prop × bm_S) := fun lo st w => match st with
  | .inl i :: .inr (.inr (.inl (some a))) :: r => some (bm_kt w a = t ∧ bm_in i (bm_kn w a), nx, lo, .inr (.inl (bm_gl w a i.toNat)) :: r, w)
  | _ => none
def bm_aR (t nx : Nat) : bm_L → List bm_V → bm_W → Option (Prop × bm_S) := fun lo st w => match st with
  | .inl i :: .inr (.inr (.inl (some a))) :: r => some (bm_kt w a = t ∧ bm_in i (bm_kn w a), nx, lo, .inr (.inr (.inl (bm_gr w a i.toNat))) :: r, w)
  | _ => none
def bm_aN (nx : Nat) : bm_L → List bm_V → bm_W → Option (Prop × bm_S) := fun lo st w => match st with
  | .inr (.inr (.inl (some a))) :: r => some (20 ≤ bm_kt w a ∧ bm_kt w a < 27, nx, lo, .inl (bm_kn w a : Nat) :: r, w)
  | _ => none
-- BEGIN laid by program
theorem bm_s_iaload (nx : Nat) (hdg : decode cc pc = .ok (.iaload, 1)) (hn : nx = pc + 1 := by rfl) : bm_Sn K pg mi cc nL own nm ret pc (bm_G (bm_aI 21 nx)) := by
  subst hn
  refine bm_Sn.heapG (fun lo st w g u he hg => ?_)
  unfold bm_aI at he
  split at he
  · rename_i i a r
    cases he
    refine ⟨bm_le.rf, bm_Gw.still (fun D b0 mc ms d p l e R s m args below meth c H locs cells slots Q ls hCx h3 hH hS hz => ⟨bm_InSt.cons ((hH.2.1 a i.toNat).1) h3.tl.tl, fun kk => ?_⟩)⟩
    obtain ⟨hx, hb, -, -, -, hK, -⟩ := hCx
    obtain ⟨h1, h2⟩ := hg
    obtain ⟨q1, q2, q3⟩ := bm_ix h3.hd h2
    obtain ⟨e1, -⟩ := bm_arr hH h1 (by omega) (by omega)
    have hA := (hK.2 _ _ (bm_tys_at D (t := 21) (by omega) (by omega))).1 (bm_kn w a) (fun j => bm_fv (bm_ec 21) w a j)
    refine W.iald (v := .int (Int32.ofInt (bm_gi w a i.toNat))) hx hb e1 hA (fun q => by cases q) (by rw [arrV_size]; exact q1) (by rw [q2, arrV_read _ _ q3]; rfl) rfl rfl hdg kk
  · cases he
theorem bm_s_baload (nx : Nat) (hdg : decode cc pc = .ok (.baload, 1)) (hn : nx = pc + 1 := by rfl) : bm_Sn K pg mi cc nL own nm ret pc (bm_G (bm_aI 20 nx)) := by
  subst hn
  refine bm_Sn.heapG (fun lo st w g u he hg => ?_)
  unfold bm_aI at he
  split at he
  · rename_i i a r
    cases he
    refine ⟨bm_le.rf, bm_Gw.still (fun D b0 mc ms d p l e R s m args below meth c H locs cells slots Q ls hCx h3 hH hS hz => ⟨bm_InSt.cons ((hH.2.1 a i.toNat).1) h3.tl.tl, fun kk => ?_⟩)⟩
    obtain ⟨hx, hb, -, -, -, hK, -⟩ := hCx
    obtain ⟨h1, h2⟩ := hg
    obtain ⟨q1, q2, q3⟩ := bm_ix h3.hd h2
    obtain ⟨e1, -⟩ := bm_arr hH h1 (by omega) (by omega)
    have hA := (hK.2 _ _ (bm_tys_at D (t := 20) (by omega) (by omega))).1 (bm_kn w a) (fun j => bm_fv (bm_ec 20) w a j)
    refine W.bald (v := .int (Int32.ofInt (bm_gi w a i.toNat))) hx hb e1 hA (fun q => by cases q) (by rw [arrV_size]; exact q1) (by rw [q2, arrV_read _ _ q3]; rfl) rfl rfl hdg kk
  · cases he
theorem bm_s_zaload (nx : Nat) (hdg : decode cc pc = .ok (.baload, 1)) (hn : nx = pc + 1 := by rfl) : bm_Sn K pg mi cc nL own nm ret pc (bm_G (bm_aI 23 nx)) := by
  subst hn
  refine bm_Sn.heapG (fun lo st w g u he hg => ?_)
  unfold bm_aI at he
  split at he
  · rename_i i a r
    cases he
    refine ⟨bm_le.rf, bm_Gw.still (fun D b0 mc ms d p l e R s m args below meth c H locs cells slots Q ls hCx h3 hH hS hz => ⟨bm_InSt.cons ((hH.2.1 a i.toNat).1) h3.tl.tl, fun kk => ?_⟩)⟩
    obtain ⟨hx, hb, -, -, -, hK, -⟩ := hCx
    obtain ⟨h1, h2⟩ := hg
    obtain ⟨q1, q2, q3⟩ := bm_ix h3.hd h2
    obtain ⟨e1, -⟩ := bm_arr hH h1 (by omega) (by omega)
    have hA := (hK.2 _ _ (bm_tys_at D (t := 23) (by omega) (by omega))).1 (bm_kn w a) (fun j => bm_fv (bm_ec 23) w a j)
    refine W.zald (v := .int (Int32.ofInt (bm_gi w a i.toNat))) hx hb e1 hA (fun q => by cases q) (by rw [arrV_size]; exact q1) (by rw [q2, arrV_read _ _ q3]; rfl) rfl rfl hdg kk
  · cases he
theorem bm_s_laload (nx : Nat) (hdg : decode cc pc = .ok (.laload, 1)) (hn : nx = pc + 1 := by rfl) : bm_Sn K pg mi cc nL own nm ret pc (bm_G (bm_aL 22 nx)) := by
  subst hn
  refine bm_Sn.heapG (fun lo st w g u he hg => ?_)
  unfold bm_aL at he
  split at he
  · rename_i i a r
    cases he
    refine ⟨bm_le.rf, bm_Gw.still (fun D b0 mc ms d p l e R s m args below meth c H locs cells slots Q ls hCx h3 hH hS hz => ⟨bm_InSt.cons ((hH.2.1 a i.toNat).2) h3.tl.tl, fun kk => ?_⟩)⟩
    obtain ⟨hx, hb, -, -, -, hK, -⟩ := hCx
    obtain ⟨h1, h2⟩ := hg
    obtain ⟨q1, q2, q3⟩ := bm_ix h3.hd h2
    obtain ⟨e1, -⟩ := bm_arr hH h1 (by omega) (by omega)
    have hA := (hK.2 _ _ (bm_tys_at D (t := 22) (by omega) (by omega))).1 (bm_kn w a) (fun j => bm_fv (bm_ec 22) w a j)
    refine W.lald (v := .long (Int64.ofInt (bm_gl w a i.toNat))) hx hb e1 hA (fun q => by cases q) (by rw [arrV_size]; exact q1) (by rw [q2, arrV_read _ _ q3]; rfl) rfl rfl hdg kk
  · cases he
theorem bm_s_aaload24 (nx : Nat) (hdg : decode cc pc = .ok (.aaload, 1)) (hn : nx = pc + 1 := by rfl) : bm_Sn K pg mi cc nL own nm ret pc (bm_G (bm_aR 24 nx)) := by
  subst hn
  refine bm_Sn.heapG (fun lo st w g u he hg => ?_)
  unfold bm_aR at he
  split at he
  · rename_i i a r
    cases he
    refine ⟨bm_le.rf, bm_Gw.still (fun D b0 mc ms d p l e R s m args below meth c H locs cells slots Q ls hCx h3 hH hS hz => ⟨bm_InSt.cons (trivial) h3.tl.tl, fun kk => ?_⟩)⟩
    obtain ⟨hx, hb, -, -, -, hK, -⟩ := hCx
    obtain ⟨h1, h2⟩ := hg
    obtain ⟨q1, q2, q3⟩ := bm_ix h3.hd h2
    obtain ⟨e1, -⟩ := bm_arr hH h1 (by omega) (by omega)
    have hA := (hK.2 _ _ (bm_tys_at D (t := 24) (by omega) (by omega))).1 (bm_kn w a) (fun j => bm_fv (bm_ec 24) w a j)
    refine W.aald (v := va_rf (bm_gr w a i.toNat)) hx hb e1 hA rfl (fun q => by cases q) (by rw [arrV_size]; exact q1) (by rw [q2, arrV_read _ _ q3]; rfl) rfl rfl hdg kk
  · cases he
theorem bm_s_aaload25 (nx : Nat) (hdg : decode cc pc = .ok (.aaload, 1)) (hn : nx = pc + 1 := by rfl) : bm_Sn K pg mi cc nL own nm ret pc (bm_G (bm_aR 25 nx)) := by
  subst hn
  refine bm_Sn.heapG (fun lo st w g u he hg => ?_)
  unfold bm_aR at he
  split at he
  · rename_i i a r
    cases he
    refine ⟨bm_le.rf, bm_Gw.still (fun D b0 mc ms d p l e R s m args below meth c H locs cells slots Q ls hCx h3 hH hS hz => ⟨bm_InSt.cons (trivial) h3.tl.tl, fun kk => ?_⟩)⟩
    obtain ⟨hx, hb, -, -, -, hK, -⟩ := hCx
    obtain ⟨h1, h2⟩ := hg
    obtain ⟨q1, q2, q3⟩ := bm_ix h3.hd h2
    obtain ⟨e1, -⟩ := bm_arr hH h1 (by omega) (by omega)
    have hA := (hK.2 _ _ (bm_tys_at D (t := 25) (by omega) (by omega))).1 (bm_kn w a) (fun j => bm_fv (bm_ec 25) w a j)
    refine W.aald (v := va_rf (bm_gr w a i.toNat)) hx hb e1 hA rfl (fun q => by cases q) (by rw [arrV_size]; exact q1) (by rw [q2, arrV_read _ _ q3]; rfl) rfl rfl hdg kk
  · cases he
theorem bm_s_aaload26 (nx : Nat) (hdg : decode cc pc = .ok (.aaload, 1)) (hn : nx = pc + 1 := by rfl) : bm_Sn K pg mi cc nL own nm ret pc (bm_G (bm_aR 26 nx)) := by
  subst hn
  refine bm_Sn.heapG (fun lo st w g u he hg => ?_)
  unfold bm_aR at he
  split at he
  · rename_i i a r
    cases he
    refine ⟨bm_le.rf, bm_Gw.still (fun D b0 mc ms d p l e R s m args below meth c H locs cells slots Q ls hCx h3 hH hS hz => ⟨bm_InSt.cons (trivial) h3.tl.tl, fun kk => ?_⟩)⟩
    obtain ⟨hx, hb, -, -, -, hK, -⟩ := hCx
    obtain ⟨h1, h2⟩ := hg
    obtain ⟨q1, q2, q3⟩ := bm_ix h3.hd h2
    obtain ⟨e1, -⟩ := bm_arr hH h1 (by omega) (by omega)
    have hA := (hK.2 _ _ (bm_tys_at D (t := 26) (by omega) (by omega))).1 (bm_kn w a) (fun j => bm_fv (bm_ec 26) w a j)
    refine W.aald (v := va_rf (bm_gr w a i.toNat)) hx hb e1 hA rfl (fun q => by cases q) (by rw [arrV_size]; exact q1) (by rw [q2, arrV_read _ _ q3]; rfl) rfl rfl hdg kk
  · cases he
theorem bm_s_alen (nx : Nat) (hdg : decode cc pc = .ok (.arraylength, 1)) (hn : nx = pc + 1 := by rfl) : bm_Sn K pg mi cc nL own nm ret pc (bm_G (bm_aN nx)) := by
  subst hn
  refine bm_Sn.heapG (fun lo st w g u he hg => ?_)
  unfold bm_aN at he
  split at he
  · rename_i a r
    cases he
    refine ⟨bm_le.rf, bm_Gw.still (fun D b0 mc ms d p l e R s m args below meth c H locs cells slots Q ls hCx h3 hH hS hz => ⟨bm_InSt.cons (by have := hH.2.2.1 a; show bm_InI _; unfold bm_InI; omega) h3.tl, fun kk => ?_⟩)⟩
    obtain ⟨hx, hb, -, -, -, hK, -⟩ := hCx
    obtain ⟨e1, -⟩ := bm_arr hH rfl hg.1 hg.2
    have hA := (hK.2 _ _ (bm_tys_at D hg.1 hg.2)).1 (bm_kn w a) (fun j => bm_fv (bm_ec (bm_kt w a)) w a j)
    exact W.alen (n := Int32.ofInt (bm_kn w a : Nat)) hx hb e1 hA (by rw [arrV_size, Int32.ofInt_eq_ofNat]) rfl rfl hdg kk
  · cases he
def bm_xI (t nx : Nat) : bm_L → List bm_V → bm_W → Option (Prop × bm_S) := fun lo st w => match st with
  | .inl x :: .inl i :: .inr (.inr (.inl (some a))) :: r => some ((bm_kt w a = t ∧ bm_in i (bm_kn w a)), nx, lo, r, bm_si w a i.toNat x)
  | _ => none
theorem bm_s_iastore (nx : Nat) (hdg : decode cc pc = .ok (.iastore, 1)) (hn : nx = pc + 1 := by rfl) : bm_Sn K pg mi cc nL own nm ret pc (bm_G (bm_xI 21 nx)) := by
  subst hn
  refine bm_Sn.heapG (fun lo st w g u he hg => ?_)
  unfold bm_xI at he
  split at he
  · rename_i x i a r
    cases he
    refine ⟨⟨Nat.le_refl _, Nat.le_refl _⟩, fun D b0 mc ms d p l e R s m args below meth c H locs w0 Q ls hCx hB hle g1 g2 g3 g4 g5 g6 kk => ?_⟩
    obtain ⟨hx, hb, -, -, -, hK, -⟩ := hCx
    have hg0 : bm_kt w a = 21 ∧ bm_in i (bm_kn w a) := hg
    obtain ⟨h1, h2⟩ := hg0
    obtain ⟨q1, q2, q3⟩ := bm_ix g3.tl.hd h2
    obtain ⟨e1, hba⟩ := bm_arr g4 h1 (by omega) (by omega)
    have hA := (hK.2 _ _ (bm_tys_at D (t := 21) (by omega) (by omega))).1 (bm_kn w a) (fun j => bm_fv (bm_ec 21) w a j)
    refine W.iast hx hb e1 hA (fun q => by cases q) (by rw [arrV_size]; exact q1) rfl rfl hdg fun H1 e z oq => ?_
    refine kk H1 _ ls g1 g2 g3.tl.tl.tl (g4.put (a := a) (bm_si_kt w a i.toNat (x)) (bm_si_kn w a i.toNat (x)) (bm_si_sz w a i.toNat (x)) (bm_range_si g4.2.1 g3.hd) ?_ z oq (fun b hb2 k => ⟨by rw [bm_si_gi, if_neg (fun q => hb2 q.1)], rfl, rfl⟩)) (g5.put z oq hba) g6
    rw [h1]
    unfold bm_cell
    rw [if_neg (by omega), e, q2, arrV_store]
    congr 2
    funext j
    unfold updV
    by_cases hj : j = i.toNat
    · rw [if_pos hj, hj]
      show _ = Value.int _
      rw [bm_si_gi, if_pos ⟨rfl, rfl⟩]
    · rw [if_neg hj]
      show Value.int _ = Value.int _
      rw [bm_si_gi, if_neg (fun q => hj q.2)]
  · cases he
def bm_xB (t nx : Nat) : bm_L → List bm_V → bm_W → Option (Prop × bm_S) := fun lo st w => match st with
  | .inl x :: .inl i :: .inr (.inr (.inl (some a))) :: r => some ((bm_kt w a = t ∧ bm_in i (bm_kn w a)), nx, lo, r, bm_si w a i.toNat ((Int32.ofInt x).toInt8.toInt32.toInt))
  | _ => none
theorem bm_s_bastore (nx : Nat) (hdg : decode cc pc = .ok (.bastore, 1)) (hn : nx = pc + 1 := by rfl) : bm_Sn K pg mi cc nL own nm ret pc (bm_G (bm_xB 20 nx)) := by
  subst hn
  refine bm_Sn.heapG (fun lo st w g u he hg => ?_)
  unfold bm_xB at he
  split at he
  · rename_i x i a r
    cases he
    refine ⟨⟨Nat.le_refl _, Nat.le_refl _⟩, fun D b0 mc ms d p l e R s m args below meth c H locs w0 Q ls hCx hB hle g1 g2 g3 g4 g5 g6 kk => ?_⟩
    obtain ⟨hx, hb, -, -, -, hK, -⟩ := hCx
    have hg0 : bm_kt w a = 20 ∧ bm_in i (bm_kn w a) := hg
    obtain ⟨h1, h2⟩ := hg0
    obtain ⟨q1, q2, q3⟩ := bm_ix g3.tl.hd h2
    obtain ⟨e1, hba⟩ := bm_arr g4 h1 (by omega) (by omega)
    have hA := (hK.2 _ _ (bm_tys_at D (t := 20) (by omega) (by omega))).1 (bm_kn w a) (fun j => bm_fv (bm_ec 20) w a j)
    refine W.bast hx hb e1 hA (fun q => by cases q) (by rw [arrV_size]; exact q1) rfl rfl hdg fun H1 e z oq => ?_
    refine kk H1 _ ls g1 g2 g3.tl.tl.tl (g4.put (a := a) (bm_si_kt w a i.toNat (((Int32.ofInt x).toInt8.toInt32.toInt))) (bm_si_kn w a i.toNat (((Int32.ofInt x).toInt8.toInt32.toInt))) (bm_si_sz w a i.toNat (((Int32.ofInt x).toInt8.toInt32.toInt))) (bm_range_si g4.2.1 (bm_I_in _)) ?_ z oq (fun b hb2 k => ⟨by rw [bm_si_gi, if_neg (fun q => hb2 q.1)], rfl, rfl⟩)) (g5.put z oq hba) g6
    rw [h1]
    unfold bm_cell
    rw [if_neg (by omega), e, q2, arrV_store]
    congr 2
    funext j
    unfold updV
    by_cases hj : j = i.toNat
    · rw [if_pos hj, hj]
      show _ = Value.int _
      rw [bm_si_gi, if_pos ⟨rfl, rfl⟩]
      rw [Int32.ofInt_toInt]; rfl
    · rw [if_neg hj]
      show Value.int _ = Value.int _
      rw [bm_si_gi, if_neg (fun q => hj q.2)]
  · cases he
def bm_xZ (t nx : Nat) : bm_L → List bm_V → bm_W → Option (Prop × bm_S) := fun lo st w => match st with
  | .inl x :: .inl i :: .inr (.inr (.inl (some a))) :: r => some ((bm_kt w a = t ∧ bm_in i (bm_kn w a)) ∧ (x = 0 ∨ x = 1), nx, lo, r, bm_si w a i.toNat x)
  | _ => none
theorem bm_s_zastore (nx : Nat) (hdg : decode cc pc = .ok (.bastore, 1)) (hn : nx = pc + 1 := by rfl) : bm_Sn K pg mi cc nL own nm ret pc (bm_G (bm_xZ 23 nx)) := by
  subst hn
  refine bm_Sn.heapG (fun lo st w g u he hg => ?_)
  unfold bm_xZ at he
  split at he
  · rename_i x i a r
    cases he
    refine ⟨⟨Nat.le_refl _, Nat.le_refl _⟩, fun D b0 mc ms d p l e R s m args below meth c H locs w0 Q ls hCx hB hle g1 g2 g3 g4 g5 g6 kk => ?_⟩
    obtain ⟨hx, hb, -, -, -, hK, -⟩ := hCx
    have hg0 : bm_kt w a = 23 ∧ bm_in i (bm_kn w a) := hg.1
    obtain ⟨h1, h2⟩ := hg0
    obtain ⟨q1, q2, q3⟩ := bm_ix g3.tl.hd h2
    obtain ⟨e1, hba⟩ := bm_arr g4 h1 (by omega) (by omega)
    have hA := (hK.2 _ _ (bm_tys_at D (t := 23) (by omega) (by omega))).1 (bm_kn w a) (fun j => bm_fv (bm_ec 23) w a j)
    refine W.zast hx hb e1 hA (fun q => by cases q) (by rw [arrV_size]; exact q1) rfl rfl hdg fun H1 e z oq => ?_
    refine kk H1 _ ls g1 g2 g3.tl.tl.tl (g4.put (a := a) (bm_si_kt w a i.toNat (x)) (bm_si_kn w a i.toNat (x)) (bm_si_sz w a i.toNat (x)) (bm_range_si g4.2.1 g3.hd) ?_ z oq (fun b hb2 k => ⟨by rw [bm_si_gi, if_neg (fun q => hb2 q.1)], rfl, rfl⟩)) (g5.put z oq hba) g6
    rw [h1]
    unfold bm_cell
    rw [if_neg (by omega), e, q2, arrV_store]
    congr 2
    funext j
    unfold updV
    by_cases hj : j = i.toNat
    · rw [if_pos hj, hj]
      show _ = Value.int _
      rw [bm_si_gi, if_pos ⟨rfl, rfl⟩]
      exact (bm_ofB hg.2).1
    · rw [if_neg hj]
      show Value.int _ = Value.int _
      rw [bm_si_gi, if_neg (fun q => hj q.2)]
  · cases he
def bm_xL (t nx : Nat) : bm_L → List bm_V → bm_W → Option (Prop × bm_S) := fun lo st w => match st with
  | .inr (.inl x) :: .inl i :: .inr (.inr (.inl (some a))) :: r => some ((bm_kt w a = t ∧ bm_in i (bm_kn w a)), nx, lo, r, bm_sq w a i.toNat x)
  | _ => none
theorem bm_s_lastore (nx : Nat) (hdg : decode cc pc = .ok (.lastore, 1)) (hn : nx = pc + 1 := by rfl) : bm_Sn K pg mi cc nL own nm ret pc (bm_G (bm_xL 22 nx)) := by
  subst hn
  refine bm_Sn.heapG (fun lo st w g u he hg => ?_)
  unfold bm_xL at he
  split at he
  · rename_i x i a r
    cases he
    refine ⟨⟨Nat.le_refl _, Nat.le_refl _⟩, fun D b0 mc ms d p l e R s m args below meth c H locs w0 Q ls hCx hB hle g1 g2 g3 g4 g5 g6 kk => ?_⟩
    obtain ⟨hx, hb, -, -, -, hK, -⟩ := hCx
    have hg0 : bm_kt w a = 22 ∧ bm_in i (bm_kn w a) := hg
    obtain ⟨h1, h2⟩ := hg0
    obtain ⟨q1, q2, q3⟩ := bm_ix g3.tl.hd h2
    obtain ⟨e1, hba⟩ := bm_arr g4 h1 (by omega) (by omega)
    have hA := (hK.2 _ _ (bm_tys_at D (t := 22) (by omega) (by omega))).1 (bm_kn w a) (fun j => bm_fv (bm_ec 22) w a j)
    refine W.last hx hb e1 hA (fun q => by cases q) (by rw [arrV_size]; exact q1) rfl rfl hdg fun H1 e z oq => ?_
    refine kk H1 _ ls g1 g2 g3.tl.tl.tl (g4.put (a := a) (bm_sq_kt w a i.toNat (x)) (bm_sq_kn w a i.toNat (x)) (bm_sq_sz w a i.toNat (x)) (bm_range_sq g4.2.1 g3.hd) ?_ z oq (fun b hb2 k => ⟨rfl, by rw [bm_sq_gl, if_neg (fun q => hb2 q.1)], rfl⟩)) (g5.put z oq hba) g6
    rw [h1]
    unfold bm_cell
    rw [if_neg (by omega), e, q2, arrV_store]
    congr 2
    funext j
    unfold updV
    by_cases hj : j = i.toNat
    · rw [if_pos hj, hj]
      show _ = Value.long _
      rw [bm_sq_gl, if_pos ⟨rfl, rfl⟩]
    · rw [if_neg hj]
      show Value.long _ = Value.long _
      rw [bm_sq_gl, if_neg (fun q => hj q.2)]
  · cases he
/-! what is made -/
theorem bm_nw_kt (w : bm_W) (t n m b : Nat) : bm_kt (bm_nw w t n m) b = if b = bm_sz w then t else bm_kt w b := rfl
theorem bm_nw_kn (w : bm_W) (t n m b : Nat) : bm_kn (bm_nw w t n m) b = if b = bm_sz w then n else bm_kn w b := rfl
theorem bm_nw_gi (w : bm_W) (t n m b j : Nat) : bm_gi (bm_nw w t n m) b j = if b = bm_sz w then 0 else bm_gi w b j := rfl
theorem bm_nw_gl (w : bm_W) (t n m b j : Nat) : bm_gl (bm_nw w t n m) b j = if b = bm_sz w then 0 else bm_gl w b j := rfl
theorem bm_nw_gr (w : bm_W) (t n m b j : Nat) : bm_gr (bm_nw w t n m) b j = if b = bm_sz w then none else bm_gr w b j := rfl
theorem bm_nw_sz (w : bm_W) (t n m : Nat) : bm_sz (bm_nw w t n m) = bm_sz w + 1 := rfl
theorem bm_nw_sl (w : bm_W) (t n m : Nat) : bm_sl (bm_nw w t n m) = bm_sl w + m := rfl
theorem bm_cp_kt (w : bm_W) (a b : Nat) : bm_kt (bm_cp w a) b = if b = bm_sz w then bm_kt w a else bm_kt w b := rfl
theorem bm_cp_kn (w : bm_W) (a b : Nat) : bm_kn (bm_cp w a) b = if b = bm_sz w then bm_kn w a else bm_kn w b := rfl
theorem bm_cp_gi (w : bm_W) (a b j : Nat) : bm_gi (bm_cp w a) b j = if b = bm_sz w then bm_gi w a j else bm_gi w b j := rfl
theorem bm_cp_gl (w : bm_W) (a b j : Nat) : bm_gl (bm_cp w a) b j = if b = bm_sz w then bm_gl w a j else bm_gl w b j := rfl
theorem bm_cp_gr (w : bm_W) (a b j : Nat) : bm_gr (bm_cp w a) b j = if b = bm_sz w then none else bm_gr w b j := rfl
theorem bm_cp_sz (w : bm_W) (a : Nat) : bm_sz (bm_cp w a) = bm_sz w + 1 := rfl
theorem bm_cp_sl (w : bm_W) (a : Nat) : bm_sl (bm_cp w a) = bm_sl w + bm_kn w a := rfl
theorem bm_InL0 : bm_InL 0 := by unfold bm_InL; omega
/-- a cell has come -/
theorem bm_HR.pushG {D : bm_D} {b0 : Nat} {w w' : bm_W} {H H1 : Heap} {t : Nat} (h : bm_HR D b0 w H) (hb : b0 ≤ bm_sz w) (hsz : bm_sz w' = bm_sz w + 1) (hz : H1.size = H.size + 1) (ho : ∀ q : Nat, q < H.size → H1[q]? = H[q]?)
    (hold : ∀ b, b ≠ bm_sz w → bm_kt w' b = bm_kt w b ∧ bm_kn w' b = bm_kn w b ∧ ∀ k, bm_gi w' b k = bm_gi w b k ∧ bm_gl w' b k = bm_gl w b k ∧ bm_gr w' b k = bm_gr w b k)
    (hk : bm_kt w' (bm_sz w) = t) (hn : bm_kn w' (bm_sz w) < 2147483648) (hr : ∀ k, bm_InI (bm_gi w' (bm_sz w) k) ∧ bm_InL (bm_gl w' (bm_sz w) k)) (hc : t < 90 → bm_cell D w' H1 (bm_sz w) t) (h91 : t ≠ 91) (h92 : t = 92 → H1[bm_sz w]? = some (arrV (D.2.1 27) (bm_kn w' (bm_sz w)) (fun j => bm_tx D (bm_gi w' (bm_sz w) j)))) (hsc : ∀ a, bm_kt w a = 91 → a < bm_sz w) : bm_HR D b0 w' H1 := by
  obtain ⟨e1, e2, e3, e4, e5, e6⟩ := h
  refine ⟨by rw [hz, hsz, e1], fun a k => ?_, fun a => ?_, fun a ha => ?_, fun a ha => ?_, fun a => ⟨fun q => ?_, fun q => ?_⟩⟩
  · by_cases h : a = bm_sz w
    · rw [h]; exact hr k
    · obtain ⟨-, -, q⟩ := hold a h
      rw [(q k).1, (q k).2.1]; exact e2 a k
  · by_cases h : a = bm_sz w
    · rw [h]; exact hn
    · rw [(hold a h).2.1]; exact e3 a
  · by_cases h : a = bm_sz w
    · rw [h, hk] at ha
      rw [h, hk]
      exact ⟨hb, by rw [hsz]; exact Nat.lt_succ_self _, hc ha⟩
    · obtain ⟨q1, q2, q3⟩ := hold a h
      rw [q1] at ha ⊢
      obtain ⟨g1, g2, g3⟩ := e4 a ha
      exact ⟨g1, by rw [hsz]; exact Nat.lt_succ_of_lt g2, g3.kept (ho a (by rw [e1]; exact g2)) q2 q3⟩
  · rw [hsz] at ha
    rw [(hold a (by omega)).1]
    exact e5 a (by omega)
  · by_cases h : a = bm_sz w
    · rw [h, hk] at q; exact absurd q h91
    · obtain ⟨q1, q2, q3⟩ := hold a h
      rw [q1] at q
      obtain ⟨g1, g2, g3⟩ := (e6 a).1 q
      exact ⟨g1, q2.trans g2, fun k => ((q3 k).1).trans (g3 k)⟩
  · by_cases h : a = bm_sz w
    · rw [h, hk] at q
      rw [h]
      exact ⟨hb, by rw [hsz]; exact Nat.lt_succ_self _, h92 q⟩
    · obtain ⟨q1, q2, q3⟩ := hold a h
      rw [q1] at q
      obtain ⟨g1, g2, g3⟩ := (e6 a).2 q
      have e : (fun j => bm_tx D (bm_gi w' a j)) = (fun j => bm_tx D (bm_gi w a j)) := funext fun j => by rw [(q3 j).1]
      exact ⟨g1, by rw [hsz]; exact Nat.lt_succ_of_lt g2, by rw [ho a (by rw [e1]; exact g2), g3, q2, e]⟩
theorem bm_HR.sc {D : bm_D} {b0 : Nat} {w : bm_W} {H : Heap} (h : bm_HR D b0 w H) : ∀ a, bm_kt w a = 91 → a < bm_sz w := fun a ha => by
  have := h.2.2.2.2.1 a
  by_cases q : bm_sz w ≤ a
  · have := this q; omega
  · omega
theorem bm_HR.push {D : bm_D} {b0 : Nat} {w w' : bm_W} {H H1 : Heap} {t : Nat} (h : bm_HR D b0 w H) (hb : b0 ≤ bm_sz w) (hsz : bm_sz w' = bm_sz w + 1) (hz : H1.size = H.size + 1) (ho : ∀ q : Nat, q < H.size → H1[q]? = H[q]?)
    (hold : ∀ b, b ≠ bm_sz w → bm_kt w' b = bm_kt w b ∧ bm_kn w' b = bm_kn w b ∧ ∀ k, bm_gi w' b k = bm_gi w b k ∧ bm_gl w' b k = bm_gl w b k ∧ bm_gr w' b k = bm_gr w b k)
    (hk : bm_kt w' (bm_sz w) = t) (hn : bm_kn w' (bm_sz w) < 2147483648) (hr : ∀ k, bm_InI (bm_gi w' (bm_sz w) k) ∧ bm_InL (bm_gl w' (bm_sz w) k)) (hc : bm_cell D w' H1 (bm_sz w) t) (h9 : t < 90 := by omega) : bm_HR D b0 w' H1 :=
  h.pushG hb hsz hz ho hold hk hn hr (fun _ => hc) (by omega) (fun q => by omega) h.sc
theorem bm_va_push {b0 : Nat} {H0 H H1 : Heap} {locs : List Loc} (h : va_S (bm_A b0) H0 H locs) (hz : H1.size = H.size + 1) (ho : ∀ q : Nat, q < H.size → H1[q]? = H[q]?) : va_S (bm_A b0) H0 H1 locs :=
  ⟨by rw [hz]; exact Nat.le_succ_of_le h.1, fun q h1 h2 => (ho q (Nat.lt_of_lt_of_le h1 h.1)).trans (h.2.1 q h1 h2), h.2.2⟩
def bm_oN (t N nx : Nat) : bm_L → List bm_V → bm_W → Option bm_S := fun lo st w => some (nx, lo, .inr (.inr (.inl (some (bm_sz w)))) :: st, bm_nw w t 0 N)
theorem bm_dflt {ty : FieldType} (h : ty = .int ∨ ty = .boolean ∨ ty = .long ∨ bm_fc ty = 2) {w : bm_W} {t n m k : Nat} : defaultValue ty = bm_fv (bm_fc ty) (bm_nw w t n m) (bm_sz w) k := by
  rcases h with rfl | rfl | rfl | h
  · show Value.int 0 = Value.int _; rw [bm_nw_gi, if_pos rfl]; rfl
  · show Value.int 0 = Value.int _; rw [bm_nw_gi, if_pos rfl]; rfl
  · show Value.long 0 = Value.long _; rw [bm_nw_gl, if_pos rfl]; rfl
  · have h2 : bm_fv (bm_fc ty) (bm_nw w t n m) (bm_sz w) k = Value.null := by
      rw [h]; show va_rf _ = _; rw [bm_nw_gr, if_pos rfl]; rfl
    rw [h2]
    cases ty <;> first | (exact absurd h (by decide)) | rfl
theorem bm_s_new {t N index : Nat} {C : String} {T : u_T} (nx : Nat) (hdg : decode cc pc = .ok (.new index, 3)) (hC : bm_Cl t C T N) (hcl : Cond.classLink own index C ∈ bm_ALL) (hins : Cond.instantiable C N ∈ bm_ALL) (hini : Cond.initialized C ∈ bm_ALL) (hty : ∀ k, k < N → bm_ty t k = .int ∨ bm_ty t k = .boolean ∨ bm_ty t k = .long ∨ bm_fc (bm_ty t k) = 2) (hn : nx = pc + 3 := by rfl) : bm_Sn K pg mi cc nL own nm ret pc (bm_P (bm_oN t N nx)) := by
  subst hn
  refine bm_Sn.heapP (fun lo st w u he => ?_)
  cases he
  refine ⟨⟨Nat.le_succ _, Nat.le_add_right _ _⟩, fun D b0 mc ms d p l e R s m args below meth c H locs w0 Q ls hCx hB hle g1 g2 g3 g4 g5 g6 kk => ?_⟩
  obtain ⟨hx, hb, -, hown, hts, hK, -, -, -, -, hb0, hRc, hRs, -⟩ := hCx
  obtain ⟨ht13, hc, hin, htyd, hnm⟩ := hC
  have hKn := hK.1 t _ hc
  obtain ⟨hB1, hB2⟩ := hB
  dsimp only [bm_nw_sz, bm_nw_sl] at hB1 hB2 kk
  obtain ⟨hl1, hl2⟩ := hle
  refine W.newcK hx hb hown (hts _ hcl) (hts _ hins) (hts _ hini) rfl hdg (by rw [hRc]; omega) (by rw [hRs]; omega) hKn.2.1 rfl fun H1 kC hkC e1 z1 o1 => ?_
  rw [g4.1] at e1
  refine W.cs (show _ = bm_sz w + 1 - bm_sz w0 by omega) (show _ = bm_sl w + N - bm_sl w0 by omega) ?_
  have e9 := kk H1 locs ls g1 g2 (bm_InSt.cons trivial g3) (g4.push (t := t) (by rw [← g4.1]; exact Nat.le_trans hb0 g5.1) rfl z1 o1 (fun b hb2 => ⟨by rw [bm_nw_kt, if_neg hb2], by rw [bm_nw_kn, if_neg hb2], fun k => ⟨by rw [bm_nw_gi, if_neg hb2], by rw [bm_nw_gl, if_neg hb2], by rw [bm_nw_gr, if_neg hb2]⟩⟩)
    (by rw [bm_nw_kt, if_pos rfl]) (by rw [bm_nw_kn, if_pos rfl]; omega) (fun k => ⟨by rw [bm_nw_gi, if_pos rfl]; exact bm_In0, by rw [bm_nw_gl, if_pos rfl]; exact bm_InL0⟩) (by
      unfold bm_cell
      rw [if_pos ht13]
      exact ⟨_, hc, (u_born (bm_ty t) hts hin hKn hkC e1 htyd).to (fun k hk => bm_dflt (hty k hk))⟩)) (bm_va_push g5 z1 o1) g6
  rw [g4.1]
  exact e9
def bm_oA (t nx : Nat) : bm_L → List bm_V → bm_W → Option (Prop × bm_S) := fun lo st w => match st with
  | .inl n :: r => some (0 ≤ n ∧ n ≤ 100000, nx, lo, .inr (.inr (.inl (some (bm_sz w)))) :: r, bm_nw w t n.toNat n.toNat)
  | _ => none
theorem bm_s_newa_byte (nx : Nat) (hdg : decode cc pc = .ok (.newarray .byte, 2)) (harr : Cond.arrayClass .byte ∈ bm_ALL) (hn : nx = pc + 2 := by rfl) : bm_Sn K pg mi cc nL own nm ret pc (bm_G (bm_oA 20 nx)) := by
  subst hn
  refine bm_Sn.heapG (fun lo st w g u he hg => ?_)
  unfold bm_oA at he
  split at he
  · rename_i n r
    cases he
    refine ⟨⟨Nat.le_succ _, Nat.le_add_right _ _⟩, fun D b0 mc ms d p l e R s m args below meth c H locs w0 Q ls hCx hB hle g1 g2 g3 g4 g5 g6 kk => ?_⟩
    obtain ⟨hx, hb, -, hown, hts, hK, -, -, -, -, hb0, hRc, hRs, -⟩ := hCx
    obtain ⟨hB1, hB2⟩ := hB
    dsimp only [bm_nw_sz, bm_nw_sl] at hB1 hB2 kk
    obtain ⟨hl1, hl2⟩ := hle
    have hni : bm_InI n := g3.hd
    have hN : (Int32.ofInt n).toNatClampNeg = n.toNat := Int32.toNatClampNeg_ofInt_of_le (by have := hni.1; omega) (by have := hni.2; omega)
    obtain ⟨hA, hRA⟩ := hK.2 _ _ (bm_tys_at D (t := 20) (by omega) (by omega))
    refine va_newaK (h := bm_sz w) hx hb (atype := .byte) (hts _ harr) rfl hdg rfl (fun q => by have := (bm_ltI hni bm_In0).mp q; have := hg.1; omega) hN (by have h1 : n.toNat ≤ 100000 := (by have := hg.2; omega); have h2 : componentBytes (newarray.typeOf .byte) ≤ 8 := (by decide); exact Nat.le_trans (Nat.mul_le_mul h1 h2) (by omega)) (by rw [hRc]; omega) (by rw [hRs]; omega) g4.1 fun H1 cA e1 z1 o1 hAr hNm => ?_
    have hcA : cA = D.2.1 20 := Option.some.inj (hNm.symm.trans hRA)
    rw [← g4.1] at z1 o1
    refine W.cs (show _ = bm_sz w + 1 - bm_sz w0 by omega) (show _ = bm_sl w + n.toNat - bm_sl w0 by omega) ?_
    exact kk H1 locs ls g1 g2 (bm_InSt.cons trivial g3.tl) (g4.push (t := 20) (by rw [← g4.1]; exact Nat.le_trans hb0 g5.1) rfl z1 o1 (fun b hb2 => ⟨by rw [bm_nw_kt, if_neg hb2], by rw [bm_nw_kn, if_neg hb2], fun k => ⟨by rw [bm_nw_gi, if_neg hb2], by rw [bm_nw_gl, if_neg hb2], by rw [bm_nw_gr, if_neg hb2]⟩⟩)
      (by rw [bm_nw_kt, if_pos rfl]) (by rw [bm_nw_kn, if_pos rfl]; have := hg.2; omega) (fun k => ⟨by rw [bm_nw_gi, if_pos rfl]; exact bm_In0, by rw [bm_nw_gl, if_pos rfl]; exact bm_InL0⟩) (by
        unfold bm_cell
        rw [if_neg (by omega), e1, hcA, bm_nw_kn, if_pos rfl]
        congr 2
        funext j
        exact bm_dflt (ty := .int) (by decide))) (bm_va_push g5 z1 o1) g6
  · cases he
theorem bm_s_newa_int (nx : Nat) (hdg : decode cc pc = .ok (.newarray .int, 2)) (harr : Cond.arrayClass .int ∈ bm_ALL) (hn : nx = pc + 2 := by rfl) : bm_Sn K pg mi cc nL own nm ret pc (bm_G (bm_oA 21 nx)) := by
  subst hn
  refine bm_Sn.heapG (fun lo st w g u he hg => ?_)
  unfold bm_oA at he
  split at he
  · rename_i n r
    cases he
    refine ⟨⟨Nat.le_succ _, Nat.le_add_right _ _⟩, fun D b0 mc ms d p l e R s m args below meth c H locs w0 Q ls hCx hB hle g1 g2 g3 g4 g5 g6 kk => ?_⟩
    obtain ⟨hx, hb, -, hown, hts, hK, -, -, -, -, hb0, hRc, hRs, -⟩ := hCx
    obtain ⟨hB1, hB2⟩ := hB
    dsimp only [bm_nw_sz, bm_nw_sl] at hB1 hB2 kk
    obtain ⟨hl1, hl2⟩ := hle
    have hni : bm_InI n := g3.hd
    have hN : (Int32.ofInt n).toNatClampNeg = n.toNat := Int32.toNatClampNeg_ofInt_of_le (by have := hni.1; omega) (by have := hni.2; omega)
    obtain ⟨hA, hRA⟩ := hK.2 _ _ (bm_tys_at D (t := 21) (by omega) (by omega))
    refine va_newaK (h := bm_sz w) hx hb (atype := .int) (hts _ harr) rfl hdg rfl (fun q => by have := (bm_ltI hni bm_In0).mp q; have := hg.1; omega) hN (by have h1 : n.toNat ≤ 100000 := (by have := hg.2; omega); have h2 : componentBytes (newarray.typeOf .int) ≤ 8 := (by decide); exact Nat.le_trans (Nat.mul_le_mul h1 h2) (by omega)) (by rw [hRc]; omega) (by rw [hRs]; omega) g4.1 fun H1 cA e1 z1 o1 hAr hNm => ?_
    have hcA : cA = D.2.1 21 := Option.some.inj (hNm.symm.trans hRA)
    rw [← g4.1] at z1 o1
    refine W.cs (show _ = bm_sz w + 1 - bm_sz w0 by omega) (show _ = bm_sl w + n.toNat - bm_sl w0 by omega) ?_
    exact kk H1 locs ls g1 g2 (bm_InSt.cons trivial g3.tl) (g4.push (t := 21) (by rw [← g4.1]; exact Nat.le_trans hb0 g5.1) rfl z1 o1 (fun b hb2 => ⟨by rw [bm_nw_kt, if_neg hb2], by rw [bm_nw_kn, if_neg hb2], fun k => ⟨by rw [bm_nw_gi, if_neg hb2], by rw [bm_nw_gl, if_neg hb2], by rw [bm_nw_gr, if_neg hb2]⟩⟩)
      (by rw [bm_nw_kt, if_pos rfl]) (by rw [bm_nw_kn, if_pos rfl]; have := hg.2; omega) (fun k => ⟨by rw [bm_nw_gi, if_pos rfl]; exact bm_In0, by rw [bm_nw_gl, if_pos rfl]; exact bm_InL0⟩) (by
        unfold bm_cell
        rw [if_neg (by omega), e1, hcA, bm_nw_kn, if_pos rfl]
        congr 2
        funext j
        exact bm_dflt (ty := .int) (by decide))) (bm_va_push g5 z1 o1) g6
  · cases he
theorem bm_s_newa_long (nx : Nat) (hdg : decode cc pc = .ok (.newarray .long, 2)) (harr : Cond.arrayClass .long ∈ bm_ALL) (hn : nx = pc + 2 := by rfl) : bm_Sn K pg mi cc nL own nm ret pc (bm_G (bm_oA 22 nx)) := by
  subst hn
  refine bm_Sn.heapG (fun lo st w g u he hg => ?_)
  unfold bm_oA at he
  split at he
  · rename_i n r
    cases he
    refine ⟨⟨Nat.le_succ _, Nat.le_add_right _ _⟩, fun D b0 mc ms d p l e R s m args below meth c H locs w0 Q ls hCx hB hle g1 g2 g3 g4 g5 g6 kk => ?_⟩
    obtain ⟨hx, hb, -, hown, hts, hK, -, -, -, -, hb0, hRc, hRs, -⟩ := hCx
    obtain ⟨hB1, hB2⟩ := hB
    dsimp only [bm_nw_sz, bm_nw_sl] at hB1 hB2 kk
    obtain ⟨hl1, hl2⟩ := hle
    have hni : bm_InI n := g3.hd
    have hN : (Int32.ofInt n).toNatClampNeg = n.toNat := Int32.toNatClampNeg_ofInt_of_le (by have := hni.1; omega) (by have := hni.2; omega)
    obtain ⟨hA, hRA⟩ := hK.2 _ _ (bm_tys_at D (t := 22) (by omega) (by omega))
    refine va_newaK (h := bm_sz w) hx hb (atype := .long) (hts _ harr) rfl hdg rfl (fun q => by have := (bm_ltI hni bm_In0).mp q; have := hg.1; omega) hN (by have h1 : n.toNat ≤ 100000 := (by have := hg.2; omega); have h2 : componentBytes (newarray.typeOf .long) ≤ 8 := (by decide); exact Nat.le_trans (Nat.mul_le_mul h1 h2) (by omega)) (by rw [hRc]; omega) (by rw [hRs]; omega) g4.1 fun H1 cA e1 z1 o1 hAr hNm => ?_
    have hcA : cA = D.2.1 22 := Option.some.inj (hNm.symm.trans hRA)
    rw [← g4.1] at z1 o1
    refine W.cs (show _ = bm_sz w + 1 - bm_sz w0 by omega) (show _ = bm_sl w + n.toNat - bm_sl w0 by omega) ?_
    exact kk H1 locs ls g1 g2 (bm_InSt.cons trivial g3.tl) (g4.push (t := 22) (by rw [← g4.1]; exact Nat.le_trans hb0 g5.1) rfl z1 o1 (fun b hb2 => ⟨by rw [bm_nw_kt, if_neg hb2], by rw [bm_nw_kn, if_neg hb2], fun k => ⟨by rw [bm_nw_gi, if_neg hb2], by rw [bm_nw_gl, if_neg hb2], by rw [bm_nw_gr, if_neg hb2]⟩⟩)
      (by rw [bm_nw_kt, if_pos rfl]) (by rw [bm_nw_kn, if_pos rfl]; have := hg.2; omega) (fun k => ⟨by rw [bm_nw_gi, if_pos rfl]; exact bm_In0, by rw [bm_nw_gl, if_pos rfl]; exact bm_InL0⟩) (by
        unfold bm_cell
        rw [if_neg (by omega), e1, hcA, bm_nw_kn, if_pos rfl]
        congr 2
        funext j
        exact bm_dflt (ty := .long) (by decide))) (bm_va_push g5 z1 o1) g6
  · cases he
theorem bm_s_newa_boolean (nx : Nat) (hdg : decode cc pc = .ok (.newarray .boolean, 2)) (harr : Cond.arrayClass .boolean ∈ bm_ALL) (hn : nx = pc + 2 := by rfl) : bm_Sn K pg mi cc nL own nm ret pc (bm_G (bm_oA 23 nx)) := by
  subst hn
  refine bm_Sn.heapG (fun lo st w g u he hg => ?_)
  unfold bm_oA at he
  split at he
  · rename_i n r
    cases he
    refine ⟨⟨Nat.le_succ _, Nat.le_add_right _ _⟩, fun D b0 mc ms d p l e R s m args below meth c H locs w0 Q ls hCx hB hle g1 g2 g3 g4 g5 g6 kk => ?_⟩
    obtain ⟨hx, hb, -, hown, hts, hK, -, -, -, -, hb0, hRc, hRs, -⟩ := hCx
    obtain ⟨hB1, hB2⟩ := hB
    dsimp only [bm_nw_sz, bm_nw_sl] at hB1 hB2 kk
    obtain ⟨hl1, hl2⟩ := hle
    have hni : bm_InI n := g3.hd
    have hN : (Int32.ofInt n).toNatClampNeg = n.toNat := Int32.toNatClampNeg_ofInt_of_le (by have := hni.1; omega) (by have := hni.2; omega)
    obtain ⟨hA, hRA⟩ := hK.2 _ _ (bm_tys_at D (t := 23) (by omega) (by omega))
    refine va_newaK (h := bm_sz w) hx hb (atype := .boolean) (hts _ harr) rfl hdg rfl (fun q => by have := (bm_ltI hni bm_In0).mp q; have := hg.1; omega) hN (by have h1 : n.toNat ≤ 100000 := (by have := hg.2; omega); have h2 : componentBytes (newarray.typeOf .boolean) ≤ 8 := (by decide); exact Nat.le_trans (Nat.mul_le_mul h1 h2) (by omega)) (by rw [hRc]; omega) (by rw [hRs]; omega) g4.1 fun H1 cA e1 z1 o1 hAr hNm => ?_
    have hcA : cA = D.2.1 23 := Option.some.inj (hNm.symm.trans hRA)
    rw [← g4.1] at z1 o1
    refine W.cs (show _ = bm_sz w + 1 - bm_sz w0 by omega) (show _ = bm_sl w + n.toNat - bm_sl w0 by omega) ?_
    exact kk H1 locs ls g1 g2 (bm_InSt.cons trivial g3.tl) (g4.push (t := 23) (by rw [← g4.1]; exact Nat.le_trans hb0 g5.1) rfl z1 o1 (fun b hb2 => ⟨by rw [bm_nw_kt, if_neg hb2], by rw [bm_nw_kn, if_neg hb2], fun k => ⟨by rw [bm_nw_gi, if_neg hb2], by rw [bm_nw_gl, if_neg hb2], by rw [bm_nw_gr, if_neg hb2]⟩⟩)
      (by rw [bm_nw_kt, if_pos rfl]) (by rw [bm_nw_kn, if_pos rfl]; have := hg.2; omega) (fun k => ⟨by rw [bm_nw_gi, if_pos rfl]; exact bm_In0, by rw [bm_nw_gl, if_pos rfl]; exact bm_InL0⟩) (by
        unfold bm_cell
        rw [if_neg (by omega), e1, hcA, bm_nw_kn, if_pos rfl]
        congr 2
        funext j
        exact bm_dflt (ty := .boolean) (by decide))) (bm_va_push g5 z1 o1) g6
  · cases he
theorem bm_s_anewa24 {index : Nat} (nx : Nat) (hdg : decode cc pc = .ok (.anewarray index, 3)) (hcl : Cond.classLink own index "CaseTables$Fun" ∈ bm_ALL) (hov : Cond.arrayOver (.object "CaseTables$Fun") ∈ bm_NW) (hn : nx = pc + 3 := by rfl) : bm_Sn K pg mi cc nL own nm ret pc (bm_G (bm_oA 24 nx)) := by
  subst hn
  refine bm_Sn.heapG (fun lo st w g u he hg => ?_)
  unfold bm_oA at he
  split at he
  · rename_i n r
    cases he
    refine ⟨⟨Nat.le_succ _, Nat.le_add_right _ _⟩, fun D b0 mc ms d p l e R s m args below meth c H locs w0 Q ls hCx hB hle g1 g2 g3 g4 g5 g6 kk => ?_⟩
    obtain ⟨hx, hb, -, hown, hts, hK, hST, -, -, -, hb0, hRc, hRs, -⟩ := hCx
    obtain ⟨hB1, hB2⟩ := hB
    dsimp only [bm_nw_sz, bm_nw_sl] at hB1 hB2 kk
    obtain ⟨hl1, hl2⟩ := hle
    have hni : bm_InI n := g3.hd
    have hN : (Int32.ofInt n).toNatClampNeg = n.toNat := Int32.toNatClampNeg_ofInt_of_le (by have := hni.1; omega) (by have := hni.2; omega)
    obtain ⟨hA, kA0, comp0, hRA1, hRA2, hRA3, hRA⟩ := hK.2 _ _ (bm_tys_at D (t := 24) (by omega) (by omega))
    refine W.anew hx hb hown (hts _ hcl) (va_AO.use (hST.2.2.2.2.2.2.2.2 _ hov)) rfl hdg rfl (fun q => by have := (bm_ltI hni bm_In0).mp q; have := hg.1; omega) (by rw [hN]; have h1 : n.toNat ≤ 100000 := (by have := hg.2; omega); omega) (by rw [hRc]; omega) (by rw [hRs, hN]; omega) fun cA kA comp f1 f2 f3 f4 => ?_
    rw [hN]
    have hcA : cA = D.2.1 24 := Option.some.inj (f1.symm.trans hRA)
    generalize hH1 : H.push ({ cls := cA, slots := Array.replicate n.toNat .null, vm := .none } : Cell) = H1
    have z1 : H1.size = H.size + 1 := by rw [← hH1, Array.size_push]
    have e1 : H1[H.size]? = some (arrV cA n.toNat (fun _ => .null)) := by rw [← hH1, Array.getElem?_push_size, ← arrV_new]
    have o1 : ∀ q : Nat, q < H.size → H1[q]? = H[q]? := fun q hq => by rw [← hH1, Array.getElem?_push, if_neg (Nat.ne_of_lt hq)]
    rw [g4.1] at e1 ⊢
    refine W.cs (show _ = bm_sz w + 1 - bm_sz w0 by omega) (show _ = bm_sl w + n.toNat - bm_sl w0 by omega) ?_
    exact kk H1 locs ls g1 g2 (bm_InSt.cons trivial g3.tl) (g4.push (t := 24) (by rw [← g4.1]; exact Nat.le_trans hb0 g5.1) rfl z1 o1 (fun b hb2 => ⟨by rw [bm_nw_kt, if_neg hb2], by rw [bm_nw_kn, if_neg hb2], fun k => ⟨by rw [bm_nw_gi, if_neg hb2], by rw [bm_nw_gl, if_neg hb2], by rw [bm_nw_gr, if_neg hb2]⟩⟩)
      (by rw [bm_nw_kt, if_pos rfl]) (by rw [bm_nw_kn, if_pos rfl]; have := hg.2; omega) (fun k => ⟨by rw [bm_nw_gi, if_pos rfl]; exact bm_In0, by rw [bm_nw_gl, if_pos rfl]; exact bm_InL0⟩) (by
        unfold bm_cell
        rw [if_neg (by omega), e1, hcA, bm_nw_kn, if_pos rfl]
        congr 2
        funext j
        show Value.null = va_rf _
        rw [bm_nw_gr, if_pos rfl]; rfl)) (bm_va_push g5 z1 o1) g6
  · cases he
theorem bm_s_anewa25 {index : Nat} (nx : Nat) (hdg : decode cc pc = .ok (.anewarray index, 3)) (hcl : Cond.classLink own index "CaseTables$Row" ∈ bm_ALL) (hov : Cond.arrayOver (.object "CaseTables$Row") ∈ bm_NW) (hn : nx = pc + 3 := by rfl) : bm_Sn K pg mi cc nL own nm ret pc (bm_G (bm_oA 25 nx)) := by
  subst hn
  refine bm_Sn.heapG (fun lo st w g u he hg => ?_)
  unfold bm_oA at he
  split at he
  · rename_i n r
    cases he
    refine ⟨⟨Nat.le_succ _, Nat.le_add_right _ _⟩, fun D b0 mc ms d p l e R s m args below meth c H locs w0 Q ls hCx hB hle g1 g2 g3 g4 g5 g6 kk => ?_⟩
    obtain ⟨hx, hb, -, hown, hts, hK, hST, -, -, -, hb0, hRc, hRs, -⟩ := hCx
    obtain ⟨hB1, hB2⟩ := hB
    dsimp only [bm_nw_sz, bm_nw_sl] at hB1 hB2 kk
    obtain ⟨hl1, hl2⟩ := hle
    have hni : bm_InI n := g3.hd
    have hN : (Int32.ofInt n).toNatClampNeg = n.toNat := Int32.toNatClampNeg_ofInt_of_le (by have := hni.1; omega) (by have := hni.2; omega)
    obtain ⟨hA, kA0, comp0, hRA1, hRA2, hRA3, hRA⟩ := hK.2 _ _ (bm_tys_at D (t := 25) (by omega) (by omega))
    refine W.anew hx hb hown (hts _ hcl) (va_AO.use (hST.2.2.2.2.2.2.2.2 _ hov)) rfl hdg rfl (fun q => by have := (bm_ltI hni bm_In0).mp q; have := hg.1; omega) (by rw [hN]; have h1 : n.toNat ≤ 100000 := (by have := hg.2; omega); omega) (by rw [hRc]; omega) (by rw [hRs, hN]; omega) fun cA kA comp f1 f2 f3 f4 => ?_
    rw [hN]
    have hcA : cA = D.2.1 25 := Option.some.inj (f1.symm.trans hRA)
    generalize hH1 : H.push ({ cls := cA, slots := Array.replicate n.toNat .null, vm := .none } : Cell) = H1
    have z1 : H1.size = H.size + 1 := by rw [← hH1, Array.size_push]
    have e1 : H1[H.size]? = some (arrV cA n.toNat (fun _ => .null)) := by rw [← hH1, Array.getElem?_push_size, ← arrV_new]
    have o1 : ∀ q : Nat, q < H.size → H1[q]? = H[q]? := fun q hq => by rw [← hH1, Array.getElem?_push, if_neg (Nat.ne_of_lt hq)]
    rw [g4.1] at e1 ⊢
    refine W.cs (show _ = bm_sz w + 1 - bm_sz w0 by omega) (show _ = bm_sl w + n.toNat - bm_sl w0 by omega) ?_
    exact kk H1 locs ls g1 g2 (bm_InSt.cons trivial g3.tl) (g4.push (t := 25) (by rw [← g4.1]; exact Nat.le_trans hb0 g5.1) rfl z1 o1 (fun b hb2 => ⟨by rw [bm_nw_kt, if_neg hb2], by rw [bm_nw_kn, if_neg hb2], fun k => ⟨by rw [bm_nw_gi, if_neg hb2], by rw [bm_nw_gl, if_neg hb2], by rw [bm_nw_gr, if_neg hb2]⟩⟩)
      (by rw [bm_nw_kt, if_pos rfl]) (by rw [bm_nw_kn, if_pos rfl]; have := hg.2; omega) (fun k => ⟨by rw [bm_nw_gi, if_pos rfl]; exact bm_In0, by rw [bm_nw_gl, if_pos rfl]; exact bm_InL0⟩) (by
        unfold bm_cell
        rw [if_neg (by omega), e1, hcA, bm_nw_kn, if_pos rfl]
        congr 2
        funext j
        show Value.null = va_rf _
        rw [bm_nw_gr, if_pos rfl]; rfl)) (bm_va_push g5 z1 o1) g6
  · cases he
theorem bm_s_anewa26 {index : Nat} (nx : Nat) (hdg : decode cc pc = .ok (.anewarray index, 3)) (hcl : Cond.classLink own index "CaseTables$Table" ∈ bm_ALL) (hov : Cond.arrayOver (.object "CaseTables$Table") ∈ bm_NW) (hn : nx = pc + 3 := by rfl) : bm_Sn K pg mi cc nL own nm ret pc (bm_G (bm_oA 26 nx)) := by
  subst hn
  refine bm_Sn.heapG (fun lo st w g u he hg => ?_)
  unfold bm_oA at he
  split at he
  · rename_i n r
    cases he
    refine ⟨⟨Nat.le_succ _, Nat.le_add_right _ _⟩, fun D b0 mc ms d p l e R s m args below meth c H locs w0 Q ls hCx hB hle g1 g2 g3 g4 g5 g6 kk => ?_⟩
    obtain ⟨hx, hb, -, hown, hts, hK, hST, -, -, -, hb0, hRc, hRs, -⟩ := hCx
    obtain ⟨hB1, hB2⟩ := hB
    dsimp only [bm_nw_sz, bm_nw_sl] at hB1 hB2 kk
    obtain ⟨hl1, hl2⟩ := hle
    have hni : bm_InI n := g3.hd
    have hN : (Int32.ofInt n).toNatClampNeg = n.toNat := Int32.toNatClampNeg_ofInt_of_le (by have := hni.1; omega) (by have := hni.2; omega)
    obtain ⟨hA, kA0, comp0, hRA1, hRA2, hRA3, hRA⟩ := hK.2 _ _ (bm_tys_at D (t := 26) (by omega) (by omega))
    refine W.anew hx hb hown (hts _ hcl) (va_AO.use (hST.2.2.2.2.2.2.2.2 _ hov)) rfl hdg rfl (fun q => by have := (bm_ltI hni bm_In0).mp q; have := hg.1; omega) (by rw [hN]; have h1 : n.toNat ≤ 100000 := (by have := hg.2; omega); omega) (by rw [hRc]; omega) (by rw [hRs, hN]; omega) fun cA kA comp f1 f2 f3 f4 => ?_
    rw [hN]
    have hcA : cA = D.2.1 26 := Option.some.inj (f1.symm.trans hRA)
    generalize hH1 : H.push ({ cls := cA, slots := Array.replicate n.toNat .null, vm := .none } : Cell) = H1
    have z1 : H1.size = H.size + 1 := by rw [← hH1, Array.size_push]
    have e1 : H1[H.size]? = some (arrV cA n.toNat (fun _ => .null)) := by rw [← hH1, Array.getElem?_push_size, ← arrV_new]
    have o1 : ∀ q : Nat, q < H.size → H1[q]? = H[q]? := fun q hq => by rw [← hH1, Array.getElem?_push, if_neg (Nat.ne_of_lt hq)]
    rw [g4.1] at e1 ⊢
    refine W.cs (show _ = bm_sz w + 1 - bm_sz w0 by omega) (show _ = bm_sl w + n.toNat - bm_sl w0 by omega) ?_
    exact kk H1 locs ls g1 g2 (bm_InSt.cons trivial g3.tl) (g4.push (t := 26) (by rw [← g4.1]; exact Nat.le_trans hb0 g5.1) rfl z1 o1 (fun b hb2 => ⟨by rw [bm_nw_kt, if_neg hb2], by rw [bm_nw_kn, if_neg hb2], fun k => ⟨by rw [bm_nw_gi, if_neg hb2], by rw [bm_nw_gl, if_neg hb2], by rw [bm_nw_gr, if_neg hb2]⟩⟩)
      (by rw [bm_nw_kt, if_pos rfl]) (by rw [bm_nw_kn, if_pos rfl]; have := hg.2; omega) (fun k => ⟨by rw [bm_nw_gi, if_pos rfl]; exact bm_In0, by rw [bm_nw_gl, if_pos rfl]; exact bm_InL0⟩) (by
        unfold bm_cell
        rw [if_neg (by omega), e1, hcA, bm_nw_kn, if_pos rfl]
        congr 2
        funext j
        show Value.null = va_rf _
        rw [bm_nw_gr, if_pos rfl]; rfl)) (bm_va_push g5 z1 o1) g6
  · cases he
def bm_xR (t ci nx : Nat) : bm_L → List bm_V → bm_W → Option (Prop × bm_S) := fun lo st w => match st with
  | .inr (.inr (.inl (some v))) :: .inl i :: .inr (.inr (.inl (some a))) :: r => some ((bm_kt w a = t ∧ bm_in i (bm_kn w a)) ∧ bm_kt w v = ci, nx, lo, r, bm_sr w a i.toNat (some v))
  | _ => none
theorem bm_s_aastore24 (nx : Nat) (hdg : decode cc pc = .ok (.aastore, 1)) (hC : bm_Cl 1 "CaseTables$Fun" TX1 (vwCl.getD 1 ("", TX0, 0)).2.2) (hn : nx = pc + 1 := by rfl) : bm_Sn K pg mi cc nL own nm ret pc (bm_G (bm_xR 24 1 nx)) := by
  subst hn
  refine bm_Sn.heapG (fun lo st w g u he hg => ?_)
  unfold bm_xR at he
  split at he
  · rename_i v i a r
    cases he
    refine ⟨⟨Nat.le_refl _, Nat.le_refl _⟩, fun D b0 mc ms d p l e R s m args below meth c H locs w0 Q ls hCx hB hle g1 g2 g3 g4 g5 g6 kk => ?_⟩
    obtain ⟨hx, hb, -, -, -, hK, -⟩ := hCx
    obtain ⟨⟨h1, h2⟩, h3⟩ := hg
    obtain ⟨q1, q2, q3⟩ := bm_ix g3.tl.hd h2
    obtain ⟨e1, hba⟩ := bm_arr g4 h1 (by omega) (by omega)
    obtain ⟨hA, kA, comp, k1, k2, k3, -⟩ := hK.2 _ _ (bm_tys_at D (t := 24) (by omega) (by omega))
    obtain ⟨cellV, v1, v2, v3, -⟩ := bm_ob hC g4 h3
    have hcls := (hK.1 1 _ hC.2.1).2
    have hcomp : comp = D.1.1 1 := Option.some.inj (k3.symm.trans hcls.1)
    subst hcomp
    obtain ⟨kC, hkC, -⟩ := hcls.2
    refine W.aast hx hb e1 (fun q h => by cases h) (fun h => by cases h) k1 k2 rfl hkC ⟨fun q => q1 (Or.inl q), by show _ < (arrV _ _ _).slots.size; rw [arrV_size, q2]; exact q3⟩ v1 (fun q h => by rw [v3] at h; cases h) (by rw [v2]; exact hkC) (by rw [v2]; exact va_assign hcls) rfl rfl hdg fun H1 e z oq => ?_
    refine kk H1 _ ls g1 g2 g3.tl.tl.tl (g4.put (a := a) (bm_sr_kt w a i.toNat (some v)) (bm_sr_kn w a i.toNat (some v)) (bm_sr_sz w a i.toNat (some v)) g4.2.1 ?_ z oq (fun b hb2 k => ⟨rfl, rfl, by rw [bm_sr_gr, if_neg (fun q => hb2 q.1)]⟩)) (g5.put z oq hba) g6
    rw [h1]
    unfold bm_cell
    rw [if_neg (by omega), e, q2, arrV_store]
    congr 2
    funext j
    unfold updV
    by_cases hj : j = i.toNat
    · rw [if_pos hj, hj]
      show Value.ref v = va_rf _
      rw [bm_sr_gr, if_pos ⟨rfl, rfl⟩]; rfl
    · rw [if_neg hj]
      show va_rf _ = va_rf _
      rw [bm_sr_gr, if_neg (fun q => hj q.2)]
  · cases he
theorem bm_s_aastore25 (nx : Nat) (hdg : decode cc pc = .ok (.aastore, 1)) (hC : bm_Cl 5 "CaseTables$Row" TX5 (vwCl.getD 5 ("", TX0, 0)).2.2) (hn : nx = pc + 1 := by rfl) : bm_Sn K pg mi cc nL own nm ret pc (bm_G (bm_xR 25 5 nx)) := by
  subst hn
  refine bm_Sn.heapG (fun lo st w g u he hg => ?_)
  unfold bm_xR at he
  split at he
  · rename_i v i a r
    cases he
    refine ⟨⟨Nat.le_refl _, Nat.le_refl _⟩, fun D b0 mc ms d p l e R s m args below meth c H locs w0 Q ls hCx hB hle g1 g2 g3 g4 g5 g6 kk => ?_⟩
    obtain ⟨hx, hb, -, -, -, hK, -⟩ := hCx
    obtain ⟨⟨h1, h2⟩, h3⟩ := hg
    obtain ⟨q1, q2, q3⟩ := bm_ix g3.tl.hd h2
    obtain ⟨e1, hba⟩ := bm_arr g4 h1 (by omega) (by omega)
    obtain ⟨hA, kA, comp, k1, k2, k3, -⟩ := hK.2 _ _ (bm_tys_at D (t := 25) (by omega) (by omega))
    obtain ⟨cellV, v1, v2, v3, -⟩ := bm_ob hC g4 h3
    have hcls := (hK.1 5 _ hC.2.1).2
    have hcomp : comp = D.1.1 5 := Option.some.inj (k3.symm.trans hcls.1)
    subst hcomp
    obtain ⟨kC, hkC, -⟩ := hcls.2
    refine W.aast hx hb e1 (fun q h => by cases h) (fun h => by cases h) k1 k2 rfl hkC ⟨fun q => q1 (Or.inl q), by show _ < (arrV _ _ _).slots.size; rw [arrV_size, q2]; exact q3⟩ v1 (fun q h => by rw [v3] at h; cases h) (by rw [v2]; exact hkC) (by rw [v2]; exact va_assign hcls) rfl rfl hdg fun H1 e z oq => ?_
    refine kk H1 _ ls g1 g2 g3.tl.tl.tl (g4.put (a := a) (bm_sr_kt w a i.toNat (some v)) (bm_sr_kn w a i.toNat (some v)) (bm_sr_sz w a i.toNat (some v)) g4.2.1 ?_ z oq (fun b hb2 k => ⟨rfl, rfl, by rw [bm_sr_gr, if_neg (fun q => hb2 q.1)]⟩)) (g5.put z oq hba) g6
    rw [h1]
    unfold bm_cell
    rw [if_neg (by omega), e, q2, arrV_store]
    congr 2
    funext j
    unfold updV
    by_cases hj : j = i.toNat
    · rw [if_pos hj, hj]
      show Value.ref v = va_rf _
      rw [bm_sr_gr, if_pos ⟨rfl, rfl⟩]; rfl
    · rw [if_neg hj]
      show va_rf _ = va_rf _
      rw [bm_sr_gr, if_neg (fun q => hj q.2)]
  · cases he
theorem bm_s_aastore26 (nx : Nat) (hdg : decode cc pc = .ok (.aastore, 1)) (hC : bm_Cl 7 "CaseTables$Table" TX7 (vwCl.getD 7 ("", TX0, 0)).2.2) (hn : nx = pc + 1 := by rfl) : bm_Sn K pg mi cc nL own nm ret pc (bm_G (bm_xR 26 7 nx)) := by
  subst hn
  refine bm_Sn.heapG (fun lo st w g u he hg => ?_)
  unfold bm_xR at he
  split at he
  · rename_i v i a r
    cases he
    refine ⟨⟨Nat.le_refl _, Nat.le_refl _⟩, fun D b0 mc ms d p l e R s m args below meth c H locs w0 Q ls hCx hB hle g1 g2 g3 g4 g5 g6 kk => ?_⟩
    obtain ⟨hx, hb, -, -, -, hK, -⟩ := hCx
    obtain ⟨⟨h1, h2⟩, h3⟩ := hg
    obtain ⟨q1, q2, q3⟩ := bm_ix g3.tl.hd h2
    obtain ⟨e1, hba⟩ := bm_arr g4 h1 (by omega) (by omega)
    obtain ⟨hA, kA, comp, k1, k2, k3, -⟩ := hK.2 _ _ (bm_tys_at D (t := 26) (by omega) (by omega))
    obtain ⟨cellV, v1, v2, v3, -⟩ := bm_ob hC g4 h3
    have hcls := (hK.1 7 _ hC.2.1).2
    have hcomp : comp = D.1.1 7 := Option.some.inj (k3.symm.trans hcls.1)
    subst hcomp
    obtain ⟨kC, hkC, -⟩ := hcls.2
    refine W.aast hx hb e1 (fun q h => by cases h) (fun h => by cases h) k1 k2 rfl hkC ⟨fun q => q1 (Or.inl q), by show _ < (arrV _ _ _).slots.size; rw [arrV_size, q2]; exact q3⟩ v1 (fun q h => by rw [v3] at h; cases h) (by rw [v2]; exact hkC) (by rw [v2]; exact va_assign hcls) rfl rfl hdg fun H1 e z oq => ?_
    refine kk H1 _ ls g1 g2 g3.tl.tl.tl (g4.put (a := a) (bm_sr_kt w a i.toNat (some v)) (bm_sr_kn w a i.toNat (some v)) (bm_sr_sz w a i.toNat (some v)) g4.2.1 ?_ z oq (fun b hb2 k => ⟨rfl, rfl, by rw [bm_sr_gr, if_neg (fun q => hb2 q.1)]⟩)) (g5.put z oq hba) g6
    rw [h1]
    unfold bm_cell
    rw [if_neg (by omega), e, q2, arrV_store]
    congr 2
    funext j
    unfold updV
    by_cases hj : j = i.toNat
    · rw [if_pos hj, hj]
      show Value.ref v = va_rf _
      rw [bm_sr_gr, if_pos ⟨rfl, rfl⟩]; rfl
    · rw [if_neg hj]
      show va_rf _ = va_rf _
      rw [bm_sr_gr, if_neg (fun q => hj q.2)]
  · cases he
end BMA

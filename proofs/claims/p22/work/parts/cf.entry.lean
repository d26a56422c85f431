/-! ===== from the entry ===== -/
theorem en_W {y d b0 mc ms : Nat} {D : bm_D} {p : Program} {l : Launch} {e : Env} {R : Room} {s : State} {m : MethodId} {args : Array Value} {below : List Frame} {meth : Method} {c : Code} {as : List bm_V} {w : bm_W} {F : bm_Rt → bm_W → Prop}
    (hCx : bm_Cx bm_KK D b0 mc ms d p l R s m args meth c (bm_mi y).2.1 (bm_pg y).2 (bm_mi y).1.cls (bm_mi y).1.name (bm_mi y).2.2) (hin : bm_InSt as) (hcall : bm_Call bm_pg (d + 1) y as w F) (hF : ∀ r w', F r w' → bm_Bn w mc ms w') (hH : bm_HR D b0 w s.heap) (hargs : args = (as.map (bm_val D)).toArray) :
    W p l e R s m args below meth c s.heap [] 0 0 (vx_MQ below (bm_Qc D b0 F) (bm_XC D b0 F) args s mc ms (bm_A b0)) (entryFrame m args (bm_pg y).2) := by
  subst hargs
  obtain ⟨ha, hcall⟩ := hcall
  have ha : (bm_arg as).length ≤ (bm_pg y).2 := Nat.le_of_ble_eq_true ha
  have hl : l.stackTraces = false := hCx.2.2.2.2.2.2.2.2.2.1
  have ih := bm_every l hl d
  have main : bm_Wg D b0 mc ms p l e R s m (as.map (bm_val D)).toArray below meth c (bm_pg y).2 w F (0, bm_pad (bm_pg y).2 (bm_arg as), [], w) := by
    refine hcall _ (fun t ht => ?_)
    unfold bm_stp at ht
    cases e2 : bm_look (bm_pg y).1 t.1 with
    | none => rw [e2] at ht; exact ht.elim
    | some q =>
      obtain ⟨mk, row⟩ := q
      rw [e2] at ht
      dsimp only at ht
      obtain ⟨hmk, -, hsn⟩ := bm_Al.look (bm_all_ok y).2 _ _ _ e2
      obtain ⟨hb, hw⟩ := hsn D b0 mc ms d p l e _ s m _ below meth c w F hCx ih (bm_camo d) hF _ _ _ ht
      refine ⟨hb, fun H locs ls g1 g2 g3 g4 g5 g6 g7 => ?_⟩
      have hlen : (bm_mask mk t.2.1).length = t.2.1.length := bm_len_mask _ _ (hmk.imp id fun q => q.trans g1.symm)
      exact hw H locs ls (hlen.trans g1) (fun v hv => g2 v (bm_in_mask _ _ _ hv)) g3 g4 g5 ⟨g6.1, g6.2.1, fun q hq => g6.2.2 q (bm_lv_mask D _ _ _ q hq)⟩ g7
  have hl0 := lv_entry (as.map (bm_val D)) (n := (bm_pg y).2) (by rw [bm_slot]; exact ha)
  rw [lg_entry_eq]
  have h9 := main.2 s.heap [] _ (bm_len_pad _ _) (fun v hv => hin v (bm_in_arg as v (bm_in_pad _ _ v hv))) (fun v hv => by cases hv) hH va_S.rf (by dsimp only; rw [bm_lv_pad D _ _ _ ha, bm_lv_arg]; exact hl0) bm_le.rf
  exact W.cs (Nat.sub_self _).symm (Nat.sub_self _).symm h9
/-- the world at the law's entry: the script alone -/
def en_w (b L : Nat) (xs : Nat → Int32) (z : Nat) : bm_W := (fun a k => if a = b then (xs k).toInt else 0, fun _ _ => 0, fun _ _ => none, fun a => if a = b then 91 else 99, fun a => if a = b then L else 0, z, 0)
theorem en_HR {D : bm_D} {H : Heap} {b L : Nat} {xs : Nat → Int32} (hL : L ≤ 260) (hb : b < H.size) (h4 : D.2.2 4 0 = b) (h5 : D.2.2 5 0 = L) (h6 : ∀ k, Int32.ofNat (D.2.2 6 k) = xs k) : bm_HR D H.size (en_w b L xs H.size) H := by
  have kt : ∀ a, bm_kt (en_w b L xs H.size) a = if a = b then 91 else 99 := fun _ => rfl
  have kn : ∀ a, bm_kn (en_w b L xs H.size) a = if a = b then L else 0 := fun _ => rfl
  have gi : ∀ a k, bm_gi (en_w b L xs H.size) a k = if a = b then (xs k).toInt else 0 := fun _ _ => rfl
  refine ⟨rfl, fun a k => ⟨?_, bm_InL0⟩, fun a => ?_, fun a ha => ?_, fun a ha => ?_, fun a => ⟨fun q => ?_, fun q => ?_⟩⟩
  · rw [gi]
    split
    · exact bm_I_in _
    · exact bm_In0
  · rw [kn]
    split <;> omega
  · rw [kt] at ha
    split at ha <;> omega
  · have ha : H.size ≤ a := ha
    rw [kt, if_neg (by omega)]
  · rw [kt] at q
    by_cases c : a = b
    · refine ⟨c.trans h4.symm, by rw [kn, if_pos c, h5], fun k => by rw [gi, if_pos c, h6]⟩
    · rw [if_neg c] at q; omega
  · rw [kt] at q
    split at q <;> omega

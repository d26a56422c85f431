/-! ===== texts of the model: length, charAt, indexOf ===== -/
def k_len (c : Nat) : Nat := bm_KK.1.2.1.getD c 0
def k_b (c i : Nat) : Int := ((bm_KK.1.2.2.getD c []).getD i 0).toInt
theorem k_len_14 : ∀ c, c < 31 → k_len c ≤ 14 := by decide +kernel
theorem k_b_rng : ∀ c, c < 31 → ∀ i, i < k_len c → 33 ≤ k_b c i ∧ k_b c i < 127 := by decide +kernel
theorem k_sh0 : ∀ n, n < 15 → (Int32.ofInt ((n : Nat) : Int) >>> (Int32.ofInt 0 &&& 31)).toInt = (n : Int) := by decide +kernel
theorem k_and : ∀ n, n < 127 → ((Int32.ofInt ((Int32.ofInt ((n : Nat) : Int) &&& Int32.ofInt (255 : Int)).toInt)).toUInt32 % 65536).toInt32.toInt = (n : Int) := by decide +kernel
theorem k_i8 : ∀ n, n < 256 → ((Int32.ofInt ((n : Nat) : Int)).toInt8.toInt32.toInt) = if n < 128 then (n : Int) else (n : Int) - 256 := by decide +kernel
theorem mp_len {d c : Nat} {w : bm_W} {Φ : bm_Rt → bm_W → Prop} (hc : c < 31) : bm_Call bm_pg (d + 2) y_J0_length_8abf5 [bm_k (0, c)] w Φ ↔ Φ (.inl (some (bm_i (k_len c)))) w := by
  refine bm_ans (fun Ψ q => vc_J0_length_8abf5 ?_)
  have e : bm_kLen bm_KK (1, c) = k_len c := rfl
  have h := k_sh0 (k_len c) (by have := k_len_14 c hc; omega)
  refine ⟨hc, hc, hc, vc_J0_coder_7d493 ?_⟩
  rw [if_neg (by decide)]
  refine ⟨hc, by decide, ?_⟩
  rw [bm_c1_v, e, h]
  exact q
theorem mp_latin {d c : Nat} {w : bm_W} {Φ : bm_Rt → bm_W → Prop} (hc : c < 31) : bm_Call bm_pg (d + 1) y_J0_isLatin1_aae02 [bm_k (0, c)] w Φ ↔ Φ (.inl (some (bm_i 1))) w := by
  refine bm_ans (fun Ψ q => vc_J0_isLatin1_aae02 ?_)
  rw [if_neg (by decide)]
  refine ⟨hc, ?_⟩
  rw [if_neg (by decide)]
  exact ⟨by decide, q⟩
theorem mp_charAt {d c i : Nat} {w : bm_W} {Φ : bm_Rt → bm_W → Prop} (hc : c < 31) (hi : i < k_len c) : bm_Call bm_pg (d + 4) y_J0_charAt_5068e [bm_k (0, c), bm_i (i : Int)] w Φ ↔ Φ (.inl (some (bm_i (k_b c i)))) w := by
  refine bm_ans (fun Ψ q => vc_J0_charAt_5068e ?_)
  refine ⟨hc, ?_⟩
  rw [mp_latin hc, bm_c1_v, if_neg (by decide)]
  have hr := k_b_rng c hc i hi
  have h := k_and (k_b c i).toNat (by omega)
  rw [show (((k_b c i).toNat : Nat) : Int) = k_b c i by omega] at h
  refine ⟨hc, trivial, vc_J1_charAt_3b067 ⟨hc, trivial, vc_J0_checkIndex_df160 ⟨trivial, vc_J3_checkIndex_8e157 ?_⟩⟩⟩
  have e : bm_kLen bm_KK (1, c) = k_len c := rfl
  rw [if_neg (by simp), if_pos (by simp [e]; omega)]
  rw [bm_c1_v, bm_c0_v]
  refine ⟨⟨hc, ⟨Int.natCast_nonneg i, show (i : Int) < (k_len c : Nat) by omega⟩⟩, ?_⟩
  rw [Int.toNat_natCast]
  have hh : ((((Int32.ofInt ((Int32.ofInt (((bm_KK.1.2.2.getD c []).getD i 0).toInt) &&& Int32.ofInt (255 : Int)).toInt)).toUInt32 % 65536).toInt32.toInt)) = k_b c i := h
  rw [hh, bm_c1_v]
  exact ⟨by omega, by omega, q⟩
def t_ix (b : Int) : Int := if b = 40 then 0 else if b = 41 then 1 else if b = 44 then 2 else if b = 59 then 3 else if b = 58 then 4 else if b = 124 then 5 else if b = 61 then 6 else if b = 43 then 7 else if b = 45 then 8 else if b = 42 then 9 else if b = 47 then 10 else if b = 37 then 11 else if b = 60 then 12 else if b = 62 then 13 else -1
theorem mp_ixc {d : Nat} {b : Int} {w : bm_W} {Φ : bm_Rt → bm_W → Prop} (h0 : 0 < b) (h1 : b ≤ 255) (q : Φ (.inl (some (bm_i (t_ix b)))) w) : bk_J1_indexOfChar_4cfef_7 d Φ 0 14 (if b.toNat < 128 then ((b.toNat : Nat) : Int) else ((b.toNat : Nat) : Int) - 256) 0 w := by
  have hb : ∀ v : Int, 0 < v → v < 128 → ((v = if b.toNat < 128 then ((b.toNat : Nat) : Int) else ((b.toNat : Nat) : Int) - 256) ↔ b = v) := by
    intro v v0 v1
    split <;> omega
  generalize (if b.toNat < 128 then ((b.toNat : Nat) : Int) else ((b.toNat : Nat) : Int) - 256) = b8 at hb ⊢
  have st : ∀ (i v : Int), 0 ≤ i → i < 14 → 0 < v → v < 128 → (((bm_KK.1.2.2.getD 0 []).getD i.toNat 0).toInt = v) → (if b = v then Φ (.inl (some (bm_i i))) w else bk_J1_indexOfChar_4cfef_7 d Φ 0 14 b8 (i + 1) w) → bk_J1_indexOfChar_4cfef_7 d Φ 0 14 b8 i w := by
    intro i v i0 i1 v0 v1 hv hh
    refine vb_J1_indexOfChar_4cfef_7 ?_
    rw [if_neg (by simp; omega), hv]
    refine ⟨⟨by decide, i0, by show i < 14; exact i1⟩, ?_⟩
    by_cases c : b = v
    · rw [if_pos c] at hh
      rw [if_neg (by simp [(hb v v0 v1).mpr c])]
      exact hh
    · rw [if_neg c] at hh
      rw [if_pos (by simp only [Bool.not_eq_true', decide_eq_false_iff_not]; exact fun z => c ((hb v v0 v1).mp z)), q_wI ⟨by omega, by omega⟩]
      exact hh
  unfold t_ix at q
  refine st 0 40 (by decide) (by decide) (by decide) (by decide) rfl ?_
  split
  · rename_i e; rw [if_pos e] at q; exact q
  rename_i e; rw [if_neg e] at q
  refine st _ 41 (by decide) (by decide) (by decide) (by decide) rfl ?_
  split
  · rename_i e; rw [if_pos e] at q; exact q
  rename_i e; rw [if_neg e] at q
  refine st _ 44 (by decide) (by decide) (by decide) (by decide) rfl ?_
  split
  · rename_i e; rw [if_pos e] at q; exact q
  rename_i e; rw [if_neg e] at q
  refine st _ 59 (by decide) (by decide) (by decide) (by decide) rfl ?_
  split
  · rename_i e; rw [if_pos e] at q; exact q
  rename_i e; rw [if_neg e] at q
  refine st _ 58 (by decide) (by decide) (by decide) (by decide) rfl ?_
  split
  · rename_i e; rw [if_pos e] at q; exact q
  rename_i e; rw [if_neg e] at q
  refine st _ 124 (by decide) (by decide) (by decide) (by decide) rfl ?_
  split
  · rename_i e; rw [if_pos e] at q; exact q
  rename_i e; rw [if_neg e] at q
  refine st _ 61 (by decide) (by decide) (by decide) (by decide) rfl ?_
  split
  · rename_i e; rw [if_pos e] at q; exact q
  rename_i e; rw [if_neg e] at q
  refine st _ 43 (by decide) (by decide) (by decide) (by decide) rfl ?_
  split
  · rename_i e; rw [if_pos e] at q; exact q
  rename_i e; rw [if_neg e] at q
  refine st _ 45 (by decide) (by decide) (by decide) (by decide) rfl ?_
  split
  · rename_i e; rw [if_pos e] at q; exact q
  rename_i e; rw [if_neg e] at q
  refine st _ 42 (by decide) (by decide) (by decide) (by decide) rfl ?_
  split
  · rename_i e; rw [if_pos e] at q; exact q
  rename_i e; rw [if_neg e] at q
  refine st _ 47 (by decide) (by decide) (by decide) (by decide) rfl ?_
  split
  · rename_i e; rw [if_pos e] at q; exact q
  rename_i e; rw [if_neg e] at q
  refine st _ 37 (by decide) (by decide) (by decide) (by decide) rfl ?_
  split
  · rename_i e; rw [if_pos e] at q; exact q
  rename_i e; rw [if_neg e] at q
  refine st _ 60 (by decide) (by decide) (by decide) (by decide) rfl ?_
  split
  · rename_i e; rw [if_pos e] at q; exact q
  rename_i e; rw [if_neg e] at q
  refine st _ 62 (by decide) (by decide) (by decide) (by decide) rfl ?_
  split
  · rename_i e; rw [if_pos e] at q; exact q
  rename_i e; rw [if_neg e] at q
  refine vb_J1_indexOfChar_4cfef_7 ?_
  rw [if_pos (by decide)]
  exact q
theorem mp_indexOf {d : Nat} {b : Int} {w : bm_W} {Φ : bm_Rt → bm_W → Prop} (h0 : 0 < b) (h1 : b ≤ 255) : bm_Call bm_pg (d + 5) y_J0_indexOf_0f7a4 [bm_k (0, 0), bm_i b] w Φ ↔ Φ (.inl (some (bm_i (t_ix b)))) w := by
  refine bm_ans (fun Ψ q => vc_J0_indexOf_0f7a4 ?_)
  refine ⟨by decide, vc_J0_indexOf_7cf53 ⟨by decide, ?_⟩⟩
  rw [mp_latin (by decide), bm_c1_v, if_neg (by decide)]
  refine ⟨by decide, by decide, ?_⟩
  rw [mp_len (by decide), bm_c1_v]
  refine ⟨trivial, vc_J1_indexOf_4cfef ⟨trivial, vc_J1_canEncode_9a6ad ?_⟩⟩
  rw [if_neg (by simp; omega), if_neg (by simp; omega)]
  refine ⟨by decide, ?_⟩
  rw [bm_c1_v, if_pos (by decide)]
  refine ⟨rfl, (show (0 : Nat) < 31 by decide), rfl, ?_⟩
  have e : (bm_kLen bm_KK (1, 0) : Int) = 14 := rfl
  have e2 : (k_len 0 : Int) = 14 := rfl
  rw [e, e2, if_pos (by decide)]
  refine ⟨trivial, vc_J1_indexOfChar_4cfef ?_⟩
  have h8 := k_i8 b.toNat (by omega)
  have hb : ((b.toNat : Nat) : Int) = b := by omega
  rw [hb] at h8
  rw [h8, ← hb]
  rw [show (if (0 : Int) < 0 then (0 : Int) else 0) = 0 from rfl, show (if (14 : Int) < 14 then (14 : Int) else 14) = 14 from rfl]
  rw [hb]
  have := mp_ixc (d := d + 1) (b := b) (w := w) (Φ := fun r w => bm_c1 (fun x => bm_c1 (fun x => bm_c1 (fun x => Ψ (.inl (some (bm_i x))) w) (fun E => Ψ (.inr E) w) (.inl (some (bm_i x)))) (fun E => Ψ (.inr E) w) (.inl (some (bm_i x)))) (fun E => Ψ (.inr E) w) r) h0 h1 q
  rw [hb] at this
  exact this

/-! ===== words: what tells them apart ===== -/
def t_kc (c : Nat) : Int := [0, 29, 4, 16, 17, 22, 19, 12, 13, 20, 5, 33, 18, 21, 30, 14, 15, 6, 7, 8, 11, 9, 10, 23, 24, 25, 26, 27, 28, 31, 32].getD c 0
/-- bytes from p on -/
def t_wl (B : Int → Int) : Nat → Int → List Int
  | 0, _ => []
  | n + 1, p => B p :: t_wl B n (p + 1)
def t_pk : List Int → Int
  | [] => 0
  | b :: l => 256 * t_pk l + b
def t_37 : List Int → Int
  | [] => 0
  | b :: l => 37 * t_37 l + (if t_dig b then b - 47 else b - 86)
/-- letters and digits alone, eight at most -/
def t_lw (l : List Int) : Prop := (∀ b ∈ l, t_let b ∨ t_dig b) ∧ l.length ≤ 8
theorem t_pk_rng : ∀ l : List Int, (∀ b ∈ l, t_let b ∨ t_dig b) → 0 ≤ t_pk l
  | [], _ => Int.le_refl _
  | b :: l, h => by
    have := t_pk_rng l (fun x hx => h x (List.mem_cons_of_mem _ hx))
    have := h b List.mem_cons_self
    unfold t_pk
    omega
theorem t_37_rng : ∀ l : List Int, (∀ b ∈ l, t_let b ∨ t_dig b) → 0 ≤ t_37 l
  | [], _ => Int.le_refl _
  | b :: l, h => by
    have := t_37_rng l (fun x hx => h x (List.mem_cons_of_mem _ hx))
    have := h b List.mem_cons_self
    unfold t_37
    split <;> omega
theorem t_pk_inj : ∀ l l' : List Int, (∀ b ∈ l, t_let b ∨ t_dig b) → (∀ b ∈ l', t_let b ∨ t_dig b) → t_pk l = t_pk l' → l = l'
  | [], [], _, _, _ => rfl
  | [], b :: l', _, h', e => by
    have := t_pk_rng l' (fun x hx => h' x (List.mem_cons_of_mem _ hx))
    have := h' b List.mem_cons_self
    simp only [t_pk] at e
    omega
  | b :: l, [], h, _, e => by
    have := t_pk_rng l (fun x hx => h x (List.mem_cons_of_mem _ hx))
    have := h b List.mem_cons_self
    simp only [t_pk] at e
    omega
  | b :: l, b' :: l', h, h', e => by
    have h1 := h b List.mem_cons_self
    have h2 := h' b' List.mem_cons_self
    simp only [t_pk] at e
    have e1 : b = b' := by omega
    have e2 : t_pk l = t_pk l' := by omega
    rw [e1, t_pk_inj l l' (fun x hx => h x (List.mem_cons_of_mem _ hx)) (fun x hx => h' x (List.mem_cons_of_mem _ hx)) e2]
theorem t_37_inj : ∀ l l' : List Int, (∀ b ∈ l, t_let b ∨ t_dig b) → (∀ b ∈ l', t_let b ∨ t_dig b) → t_37 l = t_37 l' → l = l'
  | [], [], _, _, _ => rfl
  | [], b :: l', _, h', e => by
    have := t_37_rng l' (fun x hx => h' x (List.mem_cons_of_mem _ hx))
    have := h' b List.mem_cons_self
    simp only [t_37] at e
    split at e <;> omega
  | b :: l, [], h, _, e => by
    have := t_37_rng l (fun x hx => h x (List.mem_cons_of_mem _ hx))
    have := h b List.mem_cons_self
    simp only [t_37] at e
    split at e <;> omega
  | b :: l, b' :: l', h, h', e => by
    have h1 := h b List.mem_cons_self
    have h2 := h' b' List.mem_cons_self
    simp only [t_37] at e
    have e1 : b = b' := by split at e <;> split at e <;> omega
    rw [e1] at e
    have e2 : t_37 l = t_37 l' := by omega
    rw [e1, t_37_inj l l' (fun x hx => h x (List.mem_cons_of_mem _ hx)) (fun x hx => h' x (List.mem_cons_of_mem _ hx)) e2]
theorem q_sh8_eq {n b : Nat} (hn : n < 36028797018963968) (hb : b < 256) : q_sh8 (n : Int) (b : Int) = ((256 * n + b : Nat) : Int) := by
  unfold q_sh8
  have e1 : ((Int32.ofInt (8 : Int)).toInt64 &&& 63) = 8 := by decide
  rw [e1]
  have e2 : (Int64.ofInt (n : Int) <<< (8 : Int64)).toInt = ((n * 256 : Nat) : Int) := by
    rw [← Int64.toInt_toBitVec, Int64.toBitVec_shiftLeft]
    have e3 : (Int64.toBitVec 8).smod 64 = 8#64 := by decide
    rw [e3, Int64.toBitVec_ofInt, BitVec.ofInt_natCast]
    have e4 : (BitVec.ofNat 64 n <<< 8#64).toNat = n * 256 := by
      rw [BitVec.shiftLeft_eq', BitVec.toNat_shiftLeft, BitVec.toNat_ofNat, BitVec.toNat_ofNat, Nat.shiftLeft_eq, Nat.mod_eq_of_lt (a := n) (by omega)]
      show n * 2 ^ 8 % 2 ^ 64 = n * 256
      omega
    rw [BitVec.toInt_eq_toNat_of_lt (by rw [e4]; omega), e4]
  rw [e2, ← Int64.toInt_toBitVec, Int64.toBitVec_or, Int64.toBitVec_ofInt, Int64.toBitVec_ofInt, BitVec.ofInt_natCast, BitVec.ofInt_natCast]
  have e5 : (BitVec.ofNat 64 (n * 256) ||| BitVec.ofNat 64 b).toNat = 256 * n + b := by
    rw [BitVec.toNat_or, BitVec.toNat_ofNat, BitVec.toNat_ofNat, Nat.mod_eq_of_lt (by omega), Nat.mod_eq_of_lt (by omega)]
    have := Nat.shiftLeft_add_eq_or_of_lt (i := 8) (b := b) (by omega) n
    rw [Nat.shiftLeft_eq, show (2 : Nat) ^ 8 = 256 from rfl] at this
    omega
  rw [BitVec.toInt_eq_toNat_of_lt (by rw [e5]; omega), e5]
theorem t_wend_fix {B : Int → Int} : ∀ (n : Nat) (p : Int), p ≤ t_wend B n p
  | 0, p => Int.le_refl _
  | n + 1, p => by
    unfold t_wend
    split
    · have := t_wend_fix (B := B) n (p + 1); omega
    · exact Int.le_refl _
/-- the bytes of a word, the last one first -/
theorem t_wval_pk {B : Int → Int} : ∀ (n : Nat) (p : Int) (l : List Int), t_lw l → (t_wend B n p - p).toNat + l.length ≤ 8 → t_wval B n p (t_pk l) = t_pk ((t_wl B (t_wend B n p - p).toNat p).reverse ++ l) ∧ t_lw ((t_wl B (t_wend B n p - p).toNat p).reverse ++ l)
  | 0, p, l, hl, hn => by
    rw [show (t_wend B 0 p - p).toNat = 0 by unfold t_wend; omega]
    exact ⟨rfl, hl⟩
  | n + 1, p, l, hl, hn => by
    have fx := t_wend_fix (B := B) n (p + 1)
    unfold t_wend at hn ⊢
    unfold t_wval
    by_cases c : t_let (B p) ∨ t_dig (B p)
    · simp only [if_pos c] at hn ⊢
      have e : (t_wend B n (p + 1) - p).toNat = (t_wend B n (p + 1) - (p + 1)).toNat + 1 := by omega
      have hl2 : t_lw (B p :: l) := ⟨fun b hb => by
        rcases List.mem_cons.mp hb with rfl | hb
        · exact c
        · exact hl.1 b hb, by rw [List.length_cons]; omega⟩
      have h0 := t_pk_rng l hl.1
      have hs : q_sh8 (t_pk l) (B p) = t_pk (B p :: l) := by
        have hlt : t_pk l < 36028797018963968 := by
          have key : ∀ (k : Nat) (l : List Int), l.length ≤ k → (∀ b ∈ l, t_let b ∨ t_dig b) → t_pk l < 128 * 256 ^ (k - 1) := by
            intro k
            induction k with
            | zero => intro l h1 h2; cases l with
              | nil => decide
              | cons b l => simp at h1
            | succ k ih => intro l h1 h2; cases l with
              | nil =>
                show (0 : Int) < _
                have : (0 : Int) < 256 ^ k := Int.pow_pos (by decide)
                rw [Nat.add_sub_cancel]
                omega
              | cons b l =>
                have i1 := ih l (by simpa using h1) (fun x hx => h2 x (List.mem_cons_of_mem _ hx))
                have i2 := h2 b List.mem_cons_self
                show 256 * t_pk l + b < _
                cases k with
                | zero =>
                  have : l = [] := by cases l with
                    | nil => rfl
                    | cons _ _ => simp at h1
                  rw [this]
                  show (256 * 0 + b : Int) < 128 * 256 ^ 0
                  omega
                | succ k =>
                  simp only [Nat.add_sub_cancel] at i1 ⊢
                  rw [Int.pow_succ]
                  omega
          have := key 7 l (by omega) hl.1
          omega
        have := q_sh8_eq (n := (t_pk l).toNat) (b := (B p).toNat) (by omega) (by omega)
        rw [show (((t_pk l).toNat : Nat) : Int) = t_pk l by omega, show (((B p).toNat : Nat) : Int) = B p by omega] at this
        rw [this]
        show _ = 256 * t_pk l + B p
        omega
      rw [hs, e]
      have ih := t_wval_pk (B := B) n (p + 1) (B p :: l) hl2 (by rw [List.length_cons]; omega)
      rw [ih.1]
      have e2 : (t_wl B ((t_wend B n (p + 1) - (p + 1)).toNat + 1) p).reverse ++ l = (t_wl B (t_wend B n (p + 1) - (p + 1)).toNat (p + 1)).reverse ++ B p :: l := by
        show (B p :: t_wl B _ (p + 1)).reverse ++ l = _
        rw [List.reverse_cons, List.append_assoc]
        rfl
      rw [e2]
      exact ⟨rfl, ih.2⟩
    · simp only [if_neg c, show (p - p).toNat = 0 by omega]
      exact ⟨rfl, hl⟩
theorem t_wl_len (B : Int → Int) : ∀ (n : Nat) (p : Int), (t_wl B n p).length = n
  | 0, _ => rfl
  | n + 1, p => by rw [t_wl, List.length_cons, t_wl_len B n]
theorem t_wl_get (B : Int → Int) : ∀ (n : Nat) (p : Int) (l : List Int), l.length = n → ((∀ k, k < n → B (p + k) = l.getD k 0) ↔ t_wl B n p = l)
  | 0, p, l, h => by
    cases l with
    | nil => exact ⟨fun _ => rfl, fun _ k hk => by omega⟩
    | cons _ _ => simp at h
  | n + 1, p, l, h => by
    cases l with
    | nil => simp at h
    | cons b l =>
      have ih := t_wl_get B n (p + 1) l (by simpa using h)
      rw [t_wl, List.cons.injEq, ← ih]
      constructor
      · intro q
        refine ⟨by have := q 0 (by omega); simpa using this, fun k hk => ?_⟩
        have := q (k + 1) (by omega)
        rw [show p + ((k + 1 : Nat) : Int) = p + 1 + k by omega] at this
        simpa using this
      · intro q k hk
        cases k with
        | zero => simpa using q.1
        | succ k =>
          have := q.2 k (by omega)
          rw [show p + ((k + 1 : Nat) : Int) = p + 1 + k by omega]
          simpa using this
/-- the bytes of the word at p -/
def t_w (B : Int → Int) (p : Int) : List Int := (t_wl B (t_wend B 1501 p - p).toNat p).reverse
theorem t_w_ok {B : Int → Int} {p : Int} (h1 : t_let (B p)) (h2 : t_wend B 1501 p - p ≤ 8) : t_lw (t_w B p) ∧ t_v B p = t_pk (t_w B p) ∧ t_k B p = t_wk (t_pk (t_w B p)) := by
  have fx := t_wend_fix (B := B) 1501 p
  have h := t_wval_pk (B := B) 1501 p [] ⟨fun b hb => (by cases hb), by decide⟩ (by simp; omega)
  rw [List.append_nil] at h
  have e : t_wval B 1501 p 0 = t_pk (t_w B p) := h.1
  refine ⟨h.2, ?_, ?_⟩
  · unfold t_v
    rw [if_neg (by omega), if_pos h1, e]
  · unfold t_k
    rw [if_neg (by omega), if_pos h1, if_pos h2, e]
/-- a text of the model, the last byte first -/
def k_l (c : Nat) : List Int := ((bm_KK.1.2.2.getD c []).map (fun x => x.toInt)).reverse
theorem t_wk_is : ∀ (l : List Int), t_lw l → ∀ c, 1 ≤ c → c < 31 → (t_wk (t_pk l) = t_kc c ↔ l = k_l c) := by
  intro l hl c h1 h2
  have inj := fun l' h => t_pk_inj l l' hl.1 h
  have r := t_wk_rng (t_pk l)
  rcases (show c = 1 ∨ c = 2 ∨ c = 3 ∨ c = 4 ∨ c = 5 ∨ c = 6 ∨ c = 7 ∨ c = 8 ∨ c = 9 ∨ c = 10 ∨ c = 11 ∨ c = 12 ∨ c = 13 ∨ c = 14 ∨ c = 15 ∨ c = 16 ∨ c = 17 ∨ c = 18 ∨ c = 19 ∨ c = 20 ∨ c = 21 ∨ c = 22 ∨ c = 23 ∨ c = 24 ∨ c = 25 ∨ c = 26 ∨ c = 27 ∨ c = 28 ∨ c = 29 ∨ c = 30 by omega) with rfl | rfl | rfl | rfl | rfl | rfl | rfl | rfl | rfl | rfl | rfl | rfl | rfl | rfl | rfl | rfl | rfl | rfl | rfl | rfl | rfl | rfl | rfl | rfl | rfl | rfl | rfl | rfl | rfl | rfl
  · have e2 : t_kc 1 = 29 := rfl
    rw [e2]
    refine ⟨fun z => by omega, fun z => ?_⟩
    have := hl.1 45 (by rw [z]; decide)
    omega
  · have i := inj (k_l 2) (by decide)
    have e : t_pk (k_l 2) = 6714734 := rfl
    have e2 : t_kc 2 = 4 := rfl
    rw [e] at i
    rw [e2]
    refine ⟨fun z => i ?_, fun z => by rw [z, e]; rfl⟩
    unfold t_wk at z
    grind (splits := 40)
  · have e2 : t_kc 3 = 16 := rfl
    rw [e2]
    refine ⟨fun z => by omega, fun z => ?_⟩
    have := hl.1 40 (by rw [z]; decide)
    omega
  · have e2 : t_kc 4 = 17 := rfl
    rw [e2]
    refine ⟨fun z => by omega, fun z => ?_⟩
    have := hl.1 41 (by rw [z]; decide)
    omega
  · have e2 : t_kc 5 = 22 := rfl
    rw [e2]
    refine ⟨fun z => by omega, fun z => ?_⟩
    have := hl.1 61 (by rw [z]; decide)
    omega
  · have e2 : t_kc 6 = 19 := rfl
    rw [e2]
    refine ⟨fun z => by omega, fun z => ?_⟩
    have := hl.1 59 (by rw [z]; decide)
    omega
  · have i := inj (k_l 7) (by decide)
    have e : t_pk (k_l 7) = 499850046565 := rfl
    have e2 : t_kc 7 = 12 := rfl
    rw [e] at i
    rw [e2]
    refine ⟨fun z => i ?_, fun z => by rw [z, e]; rfl⟩
    unfold t_wk at z
    grind (splits := 40)
  · have i := inj (k_l 8) (by decide)
    have e : t_pk (k_l 8) = 28518 := rfl
    have e2 : t_kc 8 = 13 := rfl
    rw [e] at i
    rw [e2]
    refine ⟨fun z => i ?_, fun z => by rw [z, e]; rfl⟩
    unfold t_wk at z
    grind (splits := 40)
  · have e2 : t_kc 9 = 20 := rfl
    rw [e2]
    refine ⟨fun z => by omega, fun z => ?_⟩
    have := hl.1 58 (by rw [z]; decide)
    omega
  · have i := inj (k_l 10) (by decide)
    have e : t_pk (k_l 10) = 26990 := rfl
    have e2 : t_kc 10 = 5 := rfl
    rw [e] at i
    rw [e2]
    refine ⟨fun z => i ?_, fun z => by rw [z, e]; rfl⟩
    unfold t_wk at z
    grind (splits := 40)
  · have e2 : t_kc 11 = 33 := rfl
    rw [e2]
    refine ⟨fun z => by omega, fun z => ?_⟩
    have := hl.1 46 (by rw [z]; decide)
    omega
  · have e2 : t_kc 12 = 18 := rfl
    rw [e2]
    refine ⟨fun z => by omega, fun z => ?_⟩
    have := hl.1 44 (by rw [z]; decide)
    omega
  · have e2 : t_kc 13 = 21 := rfl
    rw [e2]
    refine ⟨fun z => by omega, fun z => ?_⟩
    have := hl.1 124 (by rw [z]; decide)
    omega
  · have e2 : t_kc 14 = 30 := rfl
    rw [e2]
    refine ⟨fun z => by omega, fun z => ?_⟩
    have := hl.1 42 (by rw [z]; decide)
    omega
  · have i := inj (k_l 15) (by decide)
    have e : t_pk (k_l 15) = 6385273 := rfl
    have e2 : t_kc 15 = 14 := rfl
    rw [e] at i
    rw [e2]
    refine ⟨fun z => i ?_, fun z => by rw [z, e]; rfl⟩
    unfold t_wk at z
    grind (splits := 40)
  · have i := inj (k_l 16) (by decide)
    have e : t_pk (k_l 16) = 435711799154 := rfl
    have e2 : t_kc 16 = 15 := rfl
    rw [e] at i
    rw [e2]
    refine ⟨fun z => i ?_, fun z => by rw [z, e]; rfl⟩
    unfold t_wk at z
    grind (splits := 40)
  · have i := inj (k_l 17) (by decide)
    have e : t_pk (k_l 17) = 26982 := rfl
    have e2 : t_kc 17 = 6 := rfl
    rw [e] at i
    rw [e2]
    refine ⟨fun z => i ?_, fun z => by rw [z, e]; rfl⟩
    unfold t_wk at z
    grind (splits := 40)
  · have i := inj (k_l 18) (by decide)
    have e : t_pk (k_l 18) = 1952998766 := rfl
    have e2 : t_kc 18 = 7 := rfl
    rw [e] at i
    rw [e2]
    refine ⟨fun z => i ?_, fun z => by rw [z, e]; rfl⟩
    unfold t_wk at z
    grind (splits := 40)
  · have i := inj (k_l 19) (by decide)
    have e : t_pk (k_l 19) = 1701606245 := rfl
    have e2 : t_kc 19 = 8 := rfl
    rw [e] at i
    rw [e2]
    refine ⟨fun z => i ?_, fun z => by rw [z, e]; rfl⟩
    unfold t_wk at z
    grind (splits := 40)
  · have i := inj (k_l 20) (by decide)
    have e : t_pk (k_l 20) = 7237492 := rfl
    have e2 : t_kc 20 = 11 := rfl
    rw [e] at i
    rw [e2]
    refine ⟨fun z => i ?_, fun z => by rw [z, e]; rfl⟩
    unfold t_wk at z
    grind (splits := 40)
  · have i := inj (k_l 21) (by decide)
    have e : t_pk (k_l 21) = 6385252 := rfl
    have e2 : t_kc 21 = 9 := rfl
    rw [e] at i
    rw [e2]
    refine ⟨fun z => i ?_, fun z => by rw [z, e]; rfl⟩
    unfold t_wk at z
    grind (splits := 40)
  · have i := inj (k_l 22) (by decide)
    have e : t_pk (k_l 22) = 28530 := rfl
    have e2 : t_kc 22 = 10 := rfl
    rw [e] at i
    rw [e2]
    refine ⟨fun z => i ?_, fun z => by rw [z, e]; rfl⟩
    unfold t_wk at z
    grind (splits := 40)
  · have e2 : t_kc 23 = 23 := rfl
    rw [e2]
    refine ⟨fun z => by omega, fun z => ?_⟩
    have := hl.1 60 (by rw [z]; decide)
    omega
  · have e2 : t_kc 24 = 24 := rfl
    rw [e2]
    refine ⟨fun z => by omega, fun z => ?_⟩
    have := hl.1 60 (by rw [z]; decide)
    omega
  · have e2 : t_kc 25 = 25 := rfl
    rw [e2]
    refine ⟨fun z => by omega, fun z => ?_⟩
    have := hl.1 60 (by rw [z]; decide)
    omega
  · have e2 : t_kc 26 = 26 := rfl
    rw [e2]
    refine ⟨fun z => by omega, fun z => ?_⟩
    have := hl.1 62 (by rw [z]; decide)
    omega
  · have e2 : t_kc 27 = 27 := rfl
    rw [e2]
    refine ⟨fun z => by omega, fun z => ?_⟩
    have := hl.1 62 (by rw [z]; decide)
    omega
  · have e2 : t_kc 28 = 28 := rfl
    rw [e2]
    refine ⟨fun z => by omega, fun z => ?_⟩
    have := hl.1 43 (by rw [z]; decide)
    omega
  · have e2 : t_kc 29 = 31 := rfl
    rw [e2]
    refine ⟨fun z => by omega, fun z => ?_⟩
    have := hl.1 47 (by rw [z]; decide)
    omega
  · have e2 : t_kc 30 = 32 := rfl
    rw [e2]
    refine ⟨fun z => by omega, fun z => ?_⟩
    have := hl.1 37 (by rw [z]; decide)
    omega
theorem t_sk_is (c : Nat) (h1 : 1 ≤ c) (h2 : c < 31) (b b2 : Int) (n1 : ¬ t_let b) (n2 : ¬ t_dig b) : (1 + t_sl b b2 = k_len c ∧ b = k_b c 0 ∧ (k_len c = 2 → b2 = k_b c 1)) ↔ t_sk b b2 = t_kc c := by
  rcases (show c = 1 ∨ c = 2 ∨ c = 3 ∨ c = 4 ∨ c = 5 ∨ c = 6 ∨ c = 7 ∨ c = 8 ∨ c = 9 ∨ c = 10 ∨ c = 11 ∨ c = 12 ∨ c = 13 ∨ c = 14 ∨ c = 15 ∨ c = 16 ∨ c = 17 ∨ c = 18 ∨ c = 19 ∨ c = 20 ∨ c = 21 ∨ c = 22 ∨ c = 23 ∨ c = 24 ∨ c = 25 ∨ c = 26 ∨ c = 27 ∨ c = 28 ∨ c = 29 ∨ c = 30 by omega) with rfl | rfl | rfl | rfl | rfl | rfl | rfl | rfl | rfl | rfl | rfl | rfl | rfl | rfl | rfl | rfl | rfl | rfl | rfl | rfl | rfl | rfl | rfl | rfl | rfl | rfl | rfl | rfl | rfl | rfl
  · have e1 : k_len 1 = 1 := rfl
    have e2 : k_b 1 0 = 45 := rfl
    have e3 : k_b 1 1 = k_b 1 1 := rfl
    have e4 : t_kc 1 = 29 := rfl
    rw [e1, e2, e3, e4]
    unfold t_sl t_sk
    grind (splits := 60)
  · have e1 : k_len 2 = 3 := rfl
    have e2 : k_b 2 0 = 102 := rfl
    have e3 : k_b 2 1 = k_b 2 1 := rfl
    have e4 : t_kc 2 = 4 := rfl
    rw [e1, e2, e4]
    have := t_sk_rng b b2
    exact ⟨fun z => absurd (show t_let b by omega) n1, fun z => by omega⟩
  · have e1 : k_len 3 = 1 := rfl
    have e2 : k_b 3 0 = 40 := rfl
    have e3 : k_b 3 1 = k_b 3 1 := rfl
    have e4 : t_kc 3 = 16 := rfl
    rw [e1, e2, e3, e4]
    unfold t_sl t_sk
    grind (splits := 60)
  · have e1 : k_len 4 = 1 := rfl
    have e2 : k_b 4 0 = 41 := rfl
    have e3 : k_b 4 1 = k_b 4 1 := rfl
    have e4 : t_kc 4 = 17 := rfl
    rw [e1, e2, e3, e4]
    unfold t_sl t_sk
    grind (splits := 60)
  · have e1 : k_len 5 = 1 := rfl
    have e2 : k_b 5 0 = 61 := rfl
    have e3 : k_b 5 1 = k_b 5 1 := rfl
    have e4 : t_kc 5 = 22 := rfl
    rw [e1, e2, e3, e4]
    unfold t_sl t_sk
    grind (splits := 60)
  · have e1 : k_len 6 = 1 := rfl
    have e2 : k_b 6 0 = 59 := rfl
    have e3 : k_b 6 1 = k_b 6 1 := rfl
    have e4 : t_kc 6 = 19 := rfl
    rw [e1, e2, e3, e4]
    unfold t_sl t_sk
    grind (splits := 60)
  · have e1 : k_len 7 = 5 := rfl
    have e2 : k_b 7 0 = 116 := rfl
    have e3 : k_b 7 1 = k_b 7 1 := rfl
    have e4 : t_kc 7 = 12 := rfl
    rw [e1, e2, e4]
    have := t_sk_rng b b2
    exact ⟨fun z => absurd (show t_let b by omega) n1, fun z => by omega⟩
  · have e1 : k_len 8 = 2 := rfl
    have e2 : k_b 8 0 = 111 := rfl
    have e3 : k_b 8 1 = 102 := rfl
    have e4 : t_kc 8 = 13 := rfl
    rw [e1, e2, e4]
    have := t_sk_rng b b2
    exact ⟨fun z => absurd (show t_let b by omega) n1, fun z => by omega⟩
  · have e1 : k_len 9 = 1 := rfl
    have e2 : k_b 9 0 = 58 := rfl
    have e3 : k_b 9 1 = k_b 9 1 := rfl
    have e4 : t_kc 9 = 20 := rfl
    rw [e1, e2, e3, e4]
    unfold t_sl t_sk
    grind (splits := 60)
  · have e1 : k_len 10 = 2 := rfl
    have e2 : k_b 10 0 = 105 := rfl
    have e3 : k_b 10 1 = 110 := rfl
    have e4 : t_kc 10 = 5 := rfl
    rw [e1, e2, e4]
    have := t_sk_rng b b2
    exact ⟨fun z => absurd (show t_let b by omega) n1, fun z => by omega⟩
  · have e1 : k_len 11 = 2 := rfl
    have e2 : k_b 11 0 = 46 := rfl
    have e3 : k_b 11 1 = 46 := rfl
    have e4 : t_kc 11 = 33 := rfl
    rw [e1, e2, e3, e4]
    unfold t_sl t_sk
    grind (splits := 60)
  · have e1 : k_len 12 = 1 := rfl
    have e2 : k_b 12 0 = 44 := rfl
    have e3 : k_b 12 1 = k_b 12 1 := rfl
    have e4 : t_kc 12 = 18 := rfl
    rw [e1, e2, e3, e4]
    unfold t_sl t_sk
    grind (splits := 60)
  · have e1 : k_len 13 = 1 := rfl
    have e2 : k_b 13 0 = 124 := rfl
    have e3 : k_b 13 1 = k_b 13 1 := rfl
    have e4 : t_kc 13 = 21 := rfl
    rw [e1, e2, e3, e4]
    unfold t_sl t_sk
    grind (splits := 60)
  · have e1 : k_len 14 = 1 := rfl
    have e2 : k_b 14 0 = 42 := rfl
    have e3 : k_b 14 1 = k_b 14 1 := rfl
    have e4 : t_kc 14 = 30 := rfl
    rw [e1, e2, e3, e4]
    unfold t_sl t_sk
    grind (splits := 60)
  · have e1 : k_len 15 = 3 := rfl
    have e2 : k_b 15 0 = 97 := rfl
    have e3 : k_b 15 1 = k_b 15 1 := rfl
    have e4 : t_kc 15 = 14 := rfl
    rw [e1, e2, e4]
    have := t_sk_rng b b2
    exact ⟨fun z => absurd (show t_let b by omega) n1, fun z => by omega⟩
  · have e1 : k_len 16 = 5 := rfl
    have e2 : k_b 16 0 = 101 := rfl
    have e3 : k_b 16 1 = k_b 16 1 := rfl
    have e4 : t_kc 16 = 15 := rfl
    rw [e1, e2, e4]
    have := t_sk_rng b b2
    exact ⟨fun z => absurd (show t_let b by omega) n1, fun z => by omega⟩
  · have e1 : k_len 17 = 2 := rfl
    have e2 : k_b 17 0 = 105 := rfl
    have e3 : k_b 17 1 = 102 := rfl
    have e4 : t_kc 17 = 6 := rfl
    rw [e1, e2, e4]
    have := t_sk_rng b b2
    exact ⟨fun z => absurd (show t_let b by omega) n1, fun z => by omega⟩
  · have e1 : k_len 18 = 4 := rfl
    have e2 : k_b 18 0 = 116 := rfl
    have e3 : k_b 18 1 = k_b 18 1 := rfl
    have e4 : t_kc 18 = 7 := rfl
    rw [e1, e2, e4]
    have := t_sk_rng b b2
    exact ⟨fun z => absurd (show t_let b by omega) n1, fun z => by omega⟩
  · have e1 : k_len 19 = 4 := rfl
    have e2 : k_b 19 0 = 101 := rfl
    have e3 : k_b 19 1 = k_b 19 1 := rfl
    have e4 : t_kc 19 = 8 := rfl
    rw [e1, e2, e4]
    have := t_sk_rng b b2
    exact ⟨fun z => absurd (show t_let b by omega) n1, fun z => by omega⟩
  · have e1 : k_len 20 = 3 := rfl
    have e2 : k_b 20 0 = 110 := rfl
    have e3 : k_b 20 1 = k_b 20 1 := rfl
    have e4 : t_kc 20 = 11 := rfl
    rw [e1, e2, e4]
    have := t_sk_rng b b2
    exact ⟨fun z => absurd (show t_let b by omega) n1, fun z => by omega⟩
  · have e1 : k_len 21 = 3 := rfl
    have e2 : k_b 21 0 = 97 := rfl
    have e3 : k_b 21 1 = k_b 21 1 := rfl
    have e4 : t_kc 21 = 9 := rfl
    rw [e1, e2, e4]
    have := t_sk_rng b b2
    exact ⟨fun z => absurd (show t_let b by omega) n1, fun z => by omega⟩
  · have e1 : k_len 22 = 2 := rfl
    have e2 : k_b 22 0 = 111 := rfl
    have e3 : k_b 22 1 = 114 := rfl
    have e4 : t_kc 22 = 10 := rfl
    rw [e1, e2, e4]
    have := t_sk_rng b b2
    exact ⟨fun z => absurd (show t_let b by omega) n1, fun z => by omega⟩
  · have e1 : k_len 23 = 2 := rfl
    have e2 : k_b 23 0 = 60 := rfl
    have e3 : k_b 23 1 = 62 := rfl
    have e4 : t_kc 23 = 23 := rfl
    rw [e1, e2, e3, e4]
    unfold t_sl t_sk
    grind (splits := 60)
  · have e1 : k_len 24 = 1 := rfl
    have e2 : k_b 24 0 = 60 := rfl
    have e3 : k_b 24 1 = k_b 24 1 := rfl
    have e4 : t_kc 24 = 24 := rfl
    rw [e1, e2, e3, e4]
    unfold t_sl t_sk
    grind (splits := 60)
  · have e1 : k_len 25 = 2 := rfl
    have e2 : k_b 25 0 = 60 := rfl
    have e3 : k_b 25 1 = 61 := rfl
    have e4 : t_kc 25 = 25 := rfl
    rw [e1, e2, e3, e4]
    unfold t_sl t_sk
    grind (splits := 60)
  · have e1 : k_len 26 = 1 := rfl
    have e2 : k_b 26 0 = 62 := rfl
    have e3 : k_b 26 1 = k_b 26 1 := rfl
    have e4 : t_kc 26 = 26 := rfl
    rw [e1, e2, e3, e4]
    unfold t_sl t_sk
    grind (splits := 60)
  · have e1 : k_len 27 = 2 := rfl
    have e2 : k_b 27 0 = 62 := rfl
    have e3 : k_b 27 1 = 61 := rfl
    have e4 : t_kc 27 = 27 := rfl
    rw [e1, e2, e3, e4]
    unfold t_sl t_sk
    grind (splits := 60)
  · have e1 : k_len 28 = 1 := rfl
    have e2 : k_b 28 0 = 43 := rfl
    have e3 : k_b 28 1 = k_b 28 1 := rfl
    have e4 : t_kc 28 = 28 := rfl
    rw [e1, e2, e3, e4]
    unfold t_sl t_sk
    grind (splits := 60)
  · have e1 : k_len 29 = 1 := rfl
    have e2 : k_b 29 0 = 47 := rfl
    have e3 : k_b 29 1 = k_b 29 1 := rfl
    have e4 : t_kc 29 = 31 := rfl
    rw [e1, e2, e3, e4]
    unfold t_sl t_sk
    grind (splits := 60)
  · have e1 : k_len 30 = 1 := rfl
    have e2 : k_b 30 0 = 37 := rfl
    have e3 : k_b 30 1 = k_b 30 1 := rfl
    have e4 : t_kc 30 = 32 := rfl
    rw [e1, e2, e3, e4]
    unfold t_sl t_sk
    grind (splits := 60)

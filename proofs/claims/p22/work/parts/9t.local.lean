/-! ===== meanings look at no more than their inputs ===== -/
def q_loc (k : Nat) (D : q_D) : Prop := ∀ (a a' : Nat → Int) (ch : Int), (∀ i, i < k → a i = a' i) → D a ch = D a' ch
section LOC
variable {k : Nat} {D D2 D3 : q_D} {Ds : List q_D}
theorem q_loc.num {v pl : Int} : q_loc k (d_num v pl) := fun _ _ _ _ => rfl
theorem q_loc.inp {i : Nat} (h : i < k) : q_loc k (d_in i) := fun a a' ch e => by
  show (some (a i), []) = (some (a' i), [])
  rw [e i h]
theorem q_loc.un {op : Int} (h : q_loc k D) : q_loc k (d_un op D) := fun a a' ch e => by
  show ((D a ch).1.map (t_un op), (D a ch).2) = _
  rw [h a a' ch e]
  rfl
theorem q_loc.bin {op pl : Int} (h : q_loc k D) (h2 : q_loc k D2) : q_loc k (d_bin op pl D D2) := fun a a' ch e => by
  unfold d_bin
  rw [h a a' ch e, h2 a a' ch e]
theorem q_loc.lo {op pl : Int} (h : q_loc k D) (h2 : q_loc k D2) : q_loc k (d_lo op pl D D2) := fun a a' ch e => by
  unfold d_lo
  rw [h a a' ch e, h2 a a' ch e]
theorem q_loc.iff {i pl : Int} (h : q_loc k D) (h2 : q_loc k D2) (h3 : q_loc k D3) : q_loc k (d_if i pl D D2 D3) := fun a a' ch e => by
  unfold d_if
  rw [h a a' ch e, h2 a a' ch e, h3 a a' ch e]
theorem d_args_loc {a a' : Nat → Int} {ch : Int} (e : ∀ i, i < k → a i = a' i) : ∀ Ds : List q_D, (∀ D ∈ Ds, q_loc k D) → d_args Ds a ch = d_args Ds a' ch
  | [], _ => rfl
  | D :: r, h => by
    have h1 := h D (List.mem_cons_self) a a' ch e
    have h2 := d_args_loc (ch := ch) e r (fun D hD => h D (List.mem_cons_of_mem _ hD))
    unfold d_args
    rw [h1, h2]
theorem q_loc.call {F : q_D} (h : ∀ D ∈ Ds, q_loc k D) : q_loc k (d_call F Ds) := fun a a' ch e => by
  unfold d_call
  rw [d_args_loc e Ds h]
theorem q_loc.op {u : Nat} {op pl : Int} (h : q_loc k D) (h2 : q_loc k D2) : q_loc k (m_op u op pl D D2) := by
  unfold m_op
  split
  · exact h.lo h2
  · exact h.bin h2
theorem q_loc.hd {l : List q_D} (h : ∀ D ∈ l, q_loc k D) : q_loc k (m_hd l) := by
  cases l with
  | nil => exact q_loc.num
  | cons D l => exact h D List.mem_cons_self
end LOC
/-- functions that look at no more than their inputs -/
def y_lcs (pr : y_pr) : Prop := ∀ g, g < pr.1.length → q_loc (pr.1.getD g y_f0).2.1.length (pr.1.getD g y_f0).2.2.2.2

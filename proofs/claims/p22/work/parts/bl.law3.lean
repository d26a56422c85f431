/-! ===== the law's own code: what its helpers and its turns come to ===== -/
section LW
variable {b t d Y y κ mc ms lm o n : Nat} {as mas : List bm_V} {E1 E2 : String} {two : Bool} {f : bm_V → Int} {w w' w2 w3 : bm_W} {r r2 : bm_Rt}
end LW
theorem bm_typ1 {v : Option bm_V} (h : bm_typ 1 (.inl v)) : ∃ x, v = some (bm_i x) := by
  rcases v with _ | x | x | x | x | x
  · cases h
  · exact ⟨x, rfl⟩
  · cases h
  · cases h
  · cases h
  · exact h.elim
theorem bm_typ3 {v : Option bm_V} (h : bm_typ 3 (.inl v)) : ∃ x, v = some (bm_l x) := by
  rcases v with _ | x | x | x | x | x
  · cases h
  · cases h
  · exact ⟨x, rfl⟩
  · cases h
  · cases h
  · exact h.elim
theorem bm_typ4 {v : Option bm_V} (h : bm_typ 4 (.inl v)) : ∃ x, v = some (bm_d x) := by
  rcases v with _ | x | x | x | x | x
  · cases h
  · cases h
  · cases h
  · cases h
  · exact ⟨x, rfl⟩
  · exact h.elim
section LV2
variable {D : bm_D} {b t pc a L n : Nat} {xs : Nat → Int32} {p : Program} {l : Launch} {e : Env} {R : Room} {s : State} {m : MethodId} {args : Array Value} {below : List Frame} {meth : Method} {c : Code} {H : Heap} {locs : List Loc} {cells slots : Nat} {Q : State → Prop} {ls : Array Slot} {w : bm_W} {rest : List Value} {i : Int}
end LV2

/-! ===== the constructor leaves the kinds of old cells ===== -/
section CIG
variable {p q c s c' s' b k d j x1 x2 : Nat} {A R : Nat → Prop} {w w' w1 w2 : bm_W} {Φ : bm_Rt → bm_W → Prop}
set_option maxHeartbeats 4000000 in
theorem mk_X11g (hp : b + 1 = bm_sz w) (hk : bm_kt w b = 11) : bm_Call bm_pg (d + 5) y_X11_init [bm_r (some b)] w (fun r w' => r = .inl none ∧ bm_sz w' = b + 125 ∧ (∀ a, a < b → bm_kt w' a = bm_kt w a) ∧ bm_sl w' = bm_sl w + 9662 ∧ cl_S b w') := by
  -- the tape
  have I0 : cl_I b 0 w := ⟨hk, fun j hj => by omega⟩
  refine vc_X11_init ⟨rfl, trivial, mk_R_mono (mk_X8 (d := d + 3) (p := bm_sz w) (w := bm_nw w 8 0 2) rfl (by rw [bm_nw_kt, if_pos rfl])) (fun v1 g1 S1 => ?_)⟩
  obtain ⟨I0, G1⟩ := cl_go I0 (by omega) g1
  have z1 := G1.sz
  obtain ⟨I1, H1⟩ := cl_st I0 (bm_sz w) (by show _ = b + 1; omega)
  rw [← hp] at S1
  have S1 := S1.gw H1.gw (by omega) (by omega)
  refine ⟨I0.1, ?_⟩
  generalize bm_sr v1 b 0 (some (bm_sz w)) = u1 at I1 H1 S1 ⊢
  have y1 := H1.sz
  refine ⟨cl_g I1 (by omega) 9 11 0 (by omega), trivial, ?_⟩
  rw [cl_r I1 (by omega) 9 11 0 (by omega)]
  -- the tokens
  have e2 : bm_sz u1 = b + 3 := by omega
  refine mk_R_mono (mk_X9 (d := d + 3) (p := bm_sz u1) (q := b + 1) (w := bm_nw u1 9 0 11) rfl (by rw [bm_nw_kt, if_pos rfl])) (fun v2 g2 S2 => ?_)
  obtain ⟨I1, G2⟩ := cl_go I1 (by omega) g2
  have z2 := G2.sz
  obtain ⟨I2, H2⟩ := cl_st I1 (bm_sz u1) e2
  rw [e2] at S2
  have S2a := S2.1.gw H2.gw (by omega) (by omega)
  have S2b := (H2.gr (by omega) (by omega) 0).trans S2.2
  refine ⟨I1.1, trivial, ?_⟩
  generalize bm_sr v2 b 1 (some (bm_sz u1)) = u2 at I2 H2 S2a S2b ⊢
  have y2 := H2.sz
  have e3 : bm_sz u2 = b + 7 := by omega
  -- the program
  refine mk_R_mono (mk_X3 (d := d) (p := bm_sz u2) (w := bm_nw u2 3 0 7) rfl (by rw [bm_nw_kt, if_pos rfl])) (fun v3 g3 S3 => ?_)
  obtain ⟨I2, G3⟩ := cl_go I2 (by omega) g3
  have z3 := G3.sz
  obtain ⟨I3, H3⟩ := cl_st I2 (bm_sz u2) e3
  rw [e3] at S3
  have S3 := S3.gw H3.gw (by omega) (Or.inr rfl) (fun x y => by omega)
  refine ⟨I2.1, ?_⟩
  generalize bm_sr v3 b 2 (some (bm_sz u2)) = u3 at I3 H3 S3 ⊢
  have y3 := H3.sz
  have e4 : bm_sz u3 = b + 115 := by omega
  refine ⟨cl_g I3 (by omega) 0 6 1 (by omega), cl_g I3 (by omega) 0 6 2 (by omega), trivial, ?_⟩
  rw [cl_r I3 (by omega) 0 6 1 (by omega), cl_r I3 (by omega) 0 6 2 (by omega)]
  -- the compiler
  have S3n := S3.gw ((mk_G.rf (p := b)).nw (t := 0) (n := 0) (m := 6)).gw (by omega) (Or.inr rfl) (fun x y => by omega)
  refine mk_R_mono (mk_X0 (d := d + 2) (p := bm_sz u3) (x1 := b + 3) (x2 := b + 7) (w := bm_nw u3 0 0 6) (by rw [bm_nw_kt, if_pos rfl]) S3n.pg.1 (by omega) (fun i hi => by omega) (by rw [bm_nw_sz]; omega) S3n.pg.2 (by rw [bm_nw_sz]; omega)) (fun v4 g4 S4 => ?_)
  obtain ⟨I3, G4⟩ := cl_go I3 (by omega) g4
  have z4 := G4.sz
  obtain ⟨I4, H4⟩ := cl_st I3 (bm_sz u3) e4
  rw [e4] at S4
  have S4 : bm_kt (bm_sr v4 b 3 (some (bm_sz u3))) (b + 115) = 0 ∧ bm_gr (bm_sr v4 b 3 (some (bm_sz u3))) (b + 115) 0 = some (b + 3) ∧ bm_gr (bm_sr v4 b 3 (some (bm_sz u3))) (b + 115) 1 = some (b + 7) := ⟨S4.1, (H4.gr (by omega) (by omega) 0).trans S4.2.1, (H4.gr (by omega) (by omega) 1).trans S4.2.2⟩
  refine ⟨I3.1, ?_⟩
  generalize bm_sr v4 b 3 (some (bm_sz u3)) = u4 at I4 H4 S4 ⊢
  have y4 := H4.sz
  have e5 : bm_sz u4 = b + 116 := by omega
  refine ⟨cl_g I4 (by omega) 2 7 2 (by omega), trivial, ?_⟩
  rw [cl_r I4 (by omega) 2 7 2 (by omega)]
  -- the machine
  refine mk_R_mono (mk_X2 (d := d + 3) (p := bm_sz u4) (q := b + 7) (w := bm_nw u4 2 0 7) rfl (by rw [bm_nw_kt, if_pos rfl])) (fun v5 g5 S5 => ?_)
  obtain ⟨I4, G5⟩ := cl_go I4 (by omega) g5
  have z5 := G5.sz
  obtain ⟨I5, H5⟩ := cl_st I4 (bm_sz u4) e5
  rw [e5] at S5
  have S5 := S5.gw H5.gw (by omega) (by omega)
  refine ⟨I4.1, ?_⟩
  generalize bm_sr v5 b 4 (some (bm_sz u4)) = u5 at I5 H5 S5 ⊢
  have y5 := H5.sz
  have e6 : bm_sz u5 = b + 120 := by omega
  refine ⟨cl_g I5 (by omega) 6 3 2 (by omega), cl_g I5 (by omega) 6 3 4 (by omega), trivial, ?_⟩
  rw [cl_r I5 (by omega) 6 3 2 (by omega), cl_r I5 (by omega) 6 3 4 (by omega)]
  -- the runner
  refine mk_R_mono (mk_X6 (d := d + 3) (p := bm_sz u5) (x1 := b + 7) (x2 := b + 116) (w := bm_nw u5 6 0 3) (by rw [bm_nw_kt, if_pos rfl])) (fun v6 g6 S6 => ?_)
  obtain ⟨I5, G6⟩ := cl_go I5 (by omega) g6
  have z6 := G6.sz
  obtain ⟨I6, H6⟩ := cl_st I5 (bm_sz u5) e6
  rw [e6] at S6
  have S6 : bm_kt (bm_sr v6 b 5 (some (bm_sz u5))) (b + 120) = 6 ∧ bm_gr (bm_sr v6 b 5 (some (bm_sz u5))) (b + 120) 0 = some (b + 7) ∧ bm_gr (bm_sr v6 b 5 (some (bm_sz u5))) (b + 120) 1 = some (b + 116) := ⟨S6.1, (H6.gr (by omega) (by omega) 0).trans S6.2.1, (H6.gr (by omega) (by omega) 1).trans S6.2.2⟩
  refine ⟨I5.1, trivial, ?_⟩
  generalize bm_sr v6 b 5 (some (bm_sz u5)) = u6 at I6 H6 S6 ⊢
  have y6 := H6.sz
  have e7 : bm_sz u6 = b + 121 := by omega
  -- what is untried
  refine mk_R_mono (mk_X10 (d := d + 3) (p := bm_sz u6) (w := bm_nw u6 10 0 6) rfl (by rw [bm_nw_kt, if_pos rfl])) (fun v7 g7 S7 => ?_)
  obtain ⟨I6, G7⟩ := cl_go I6 (by omega) g7
  have z7 := G7.sz
  obtain ⟨I7, H7⟩ := cl_st I6 (bm_sz u6) e7
  rw [e7] at S7
  have S7 := S7.gw H7.gw (by omega) (by omega)
  refine ⟨I6.1, ?_⟩
  generalize bm_sr v7 b 6 (some (bm_sz u6)) = u7 at I7 H7 S7 ⊢
  have y7 := H7.sz
  have K6 : mk_G b 4 129 u6 u7 := (G7.tr H7 (Or.inl rfl)).cs
  have K5 : mk_G b 5 132 u5 u7 := ((G6.tr H6 (Or.inl rfl)).tr K6 (Or.inl rfl)).cs
  have K4 : mk_G b 9 450 u4 u7 := ((G5.tr H5 (Or.inl rfl)).tr K5 (Or.inl rfl)).cs
  have K3 : mk_G b 10 456 u3 u7 := ((G4.tr H4 (Or.inl rfl)).tr K4 (Or.inl rfl)).cs
  have K2 : mk_G b 118 3646 u2 u7 := ((G3.tr H3 (Or.inl rfl)).tr K3 (Or.inl rfl)).cs
  have K1 : mk_G b 122 8160 u1 u7 := ((G2.tr H2 (Or.inl rfl)).tr K2 (Or.inl rfl)).cs
  have K0 : mk_G b 124 9662 w u7 := ((G1.tr H1 (Or.inl rfl)).tr K1 (Or.inl rfl)).cs
  have F1 : sh_Tp (b + 1) u7 := S1.gw K1.gw (by omega) (by omega)
  have F2 : sh_Tk (b + 3) u7 := S2a.gw K2.gw (by omega) (by omega)
  have F2b : bm_gr u7 (b + 3) 0 = some (b + 1) := (K2.gr (by omega) (by omega) 0).trans S2b
  have F3 : pg_I (b + 7) 6 6 u7 := S3.gw K3.gw (by omega) (Or.inr rfl) (fun x y => by omega)
  have F5 : sh_Mc (b + 116) (b + 7) u7 := S5.gw K5.gw (by omega) (by omega)
  refine ⟨I7.1, rfl, ?_, fun a ha => K0.kt (by omega), K0.1.2, ⟨I7.1, I7.2⟩, F1, ⟨F2, F2b⟩, F3, ⟨(K4.kt (by omega)).trans S4.1, (K4.gr (by omega) (by omega) 0).trans S4.2.1, (K4.gr (by omega) (by omega) 1).trans S4.2.2⟩, F5, ⟨(K6.kt (by omega)).trans S6.1, (K6.gr (by omega) (by omega) 0).trans S6.2.1, (K6.gr (by omega) (by omega) 1).trans S6.2.2⟩, S7, fun a h1 h2 j => ?_, ?_⟩
  · show bm_sz u7 = _
    omega
  · have z := K0.2.2 a (by omega) (by omega) j
    exact ⟨by rw [bm_si_gi, if_neg (by omega)]; exact z.1, z.2⟩
  · rw [bm_si_gi, if_pos ⟨rfl, rfl⟩]
end CIG

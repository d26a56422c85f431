/-! ===== the law's steps, both sides: what changes programs and texts ===== -/
section LS2
variable {d b t nI L c s x y c' s' : Nat} {B : Int → Int} {pr pr' : y_pr} {D : Nat → Int} {e : Int} {w w' : bm_W} {E1 E2 : String}
theorem la_grow {x : Int} (h : lS b t B pr nI L D e w) : bm_Call bm_pg (d + 1300) y_X11_grow [bm_r (some b), bm_i x] w (laF b t d y_X12_grow [bm_r (some (t + 122)), bm_i x] 50 6920 (L + 20) "java/lang/IndexOutOfBoundsException" "java/lang/IllegalStateException" w) := by
  have hb : ∀ k, k < pr.2.length → (pr.2.getD k y_t0).2.1 < pr.1.length := fun k hk => (h.2.2.1.tbs k hk).1
  refine co_grow (d := d + 1275) h.2.1.1 h.2.1.2.1 h.1.1 hb (fun z ok w1 G1 Z1 S1 => laF.ok (G1.rom (by decide) (by decide)) (fun w2 G => ?_)) (fun z no w1 G1 Z1 => laF.x2 (G1.rom (by decide) (by decide)) (fun z0 hz w2 G => ?_)) (fun z => laF.x1 lE_tw (fun z0 hz w2 G => ?_))
  · have C2 := (h.2.1.cL G1 Z1 S1).out G
    have M2 := (h.2.2.cL G1).out G
    have hk : x.toNat < pr.2.length := by omega
    refine mo_grow (d := d + 97) M2.1 M2.2.2.2.1 (fun _ _ w3 G3 e0 A3 => ⟨G3.1.rot C2.sz.1 (fun a z => by omega) (by decide) (by decide), _, rfl, fun _ => rfl, e0, L, by omega, B, y_gp pr x.toNat, nI, D, e, ⟨y_inr_gp h.1.1 hk (h.2.1.1.fk (hb _ hk)), h.1.2⟩, C2.far (G3.1.mo (fun a z => by omega) (fun a z => z) (Nat.le_refl _) (Nat.le_refl _)), M2.mP G3 A3⟩) (fun _ q => absurd ok q) (fun q => absurd z q)
  · have h2 := (lS_thr h G1 Z1 hz).out G
    exact mo_grow (d := d + 97) h2.2.2.1 h2.2.2.2.2.2.1 (fun _ q => absurd q no) (fun _ _ v w3 G3 e0 => ⟨G3.1.rot h2.2.1.sz.1 (fun a z => by omega) (by decide) (by decide), _, rfl, fun q => (by cases q), e0, L, by omega, (h2.mO G3).J⟩) (fun q => absurd z q)
  · have h2 := (lS_x0 h hz).out G
    exact mo_grow (d := d + 97) h2.2.2.1 h2.2.2.2.2.2.1 (fun q => absurd q z) (fun q => absurd q z) (fun _ v w3 G3 e0 => ⟨G3.1.rot h2.2.1.sz.1 (fun a z => by omega) (by decide) (by decide), _, rfl, fun q => (by cases q), e0, L, by omega, (h2.mO G3).J⟩)
theorem la_shorten {x : Int} (h : lS b t B pr nI L D e w) : bm_Call bm_pg (d + 1300) y_X11_shorten [bm_r (some b), bm_i x] w (laF b t d y_X12_shorten [bm_r (some (t + 122)), bm_i x] 50 6920 (L + 20) "java/lang/IndexOutOfBoundsException" E2 w) := by
  refine co_shorten (d := d + 1273) h.2.1.1 h.2.1.2.1 (fun z w1 G1 Z1 S1 => laF.ok (G1.rom (by decide) (by decide)) (fun w2 G => ?_)) (fun z => laF.x1 lE_tw (fun z0 hz w2 G => ?_))
  · have C2 := (h.2.1.cL G1 Z1 S1).out G
    have M2 := (h.2.2.cL G1).out G
    have hk : x.toNat < pr.2.length := by omega
    exact mo_shorten (d := d + 95) M2.1 h.2.1.1.pls (fun _ w3 G3 e0 A3 => ⟨G3.1.rot C2.sz.1 (fun a z => by omega) (by decide) (by decide), _, rfl, fun _ => rfl, e0, L, by omega, B, _, nI, D, e, ⟨y_inr_st h.1.1 hk (fun R hR => s_sh_mem _ _ hR), h.1.2⟩, C2.far (G3.1.mo (fun a z => by omega) (fun a z => z) (Nat.le_refl _) (Nat.le_refl _)), M2.mP G3 A3⟩) (fun q => absurd z q)
  · have h2 := (lS_x0 h hz).out G
    exact mo_shorten (d := d + 95) h2.2.2.1 h.2.1.1.pls (fun q => absurd q z) (fun _ v w3 G3 e0 => ⟨G3.1.rot h2.2.1.sz.1 (fun a z => by omega) (by decide) (by decide), _, rfl, fun q => (by cases q), e0, L, by omega, (h2.mO G3).J⟩)
theorem la_digest (h : lS b t B pr nI L D e w) : bm_Call bm_pg (d + 1300) y_X11_digest [bm_r (some b)] w (laG b t d y_X12_digest [bm_r (some (t + 122))] 50 6920 (L + 20) w) := by
  refine co_digest (d := d + 1273) h.2.1.1 h.1.1 h.2.1.2.2.2.1 h.1.2.1 (fun w1 G1 Z1 => ⟨G1.rom (by decide) (by decide), _, rfl, fun w2 G => ?_⟩)
  have h2 := (h.cO G1 Z1).out G
  refine mo_digest (d := d + 96) h2.2.2.1 h.1.1 h2.2.2.2.2.2.1 h2.2.2.2.2.1 h.1.2.1 (fun w3 G3 e0 _ => ⟨G3.1.rot h2.2.1.sz.1 (fun a z => by omega) (by decide) (by decide), _, rfl, fun _ => ?_, e0, L, by omega, (h2.mO G3).J⟩)
  rw [h2.2.2.2.1.1, h.2.1.2.2.1.2.1]
theorem la_errorAt (h : lS b t B pr nI L D e w) : bm_Call bm_pg (d + 1300) y_X11_errorAt [bm_r (some b)] w (laG b t d y_X12_errorAt [bm_r (some (t + 122))] 50 6920 (L + 20) w) := by
  refine vc_X11_errorAt ⟨h.2.1.1.1.1.2.1, lE.rf, _, rfl, fun w2 G => ?_⟩
  have h2 := h.out G
  have z0 : mO (t + 122) 0 0 w2 (bm_si w2 (t + 122) 0 0) := mO.rf.thr
  have kt := h2.2.2.1.1.1
  refine vc_X12_errorAt ⟨kt, kt, z0.1.rot h2.2.1.sz.1 (fun a z => by omega) (by decide) (by decide), _, rfl, fun _ => ?_, q_gi_eq, L, by omega, (h2.mO z0).J⟩
  rw [q_gi_nk (by decide), h2.2.2.2.2.2.2, h.2.1.2.2.2.2]
theorem la_feed {x1 x2 x3 x4 x5 : Int} (h : lS b t B pr nI L D e w) : bm_Call bm_pg (d + 1300) y_X11_feed [bm_r (some b), bm_i x1, bm_i x2, bm_i x3, bm_i x4, bm_i x5] w (laF b t d y_X12_feed [bm_r (some (t + 122)), bm_i x1, bm_i x2, bm_i x3, bm_i x4, bm_i x5] 50 6920 (L + 20) "java/lang/IllegalStateException" E2 w) := by
  have sz := h.2.1.sz
  have hL := h.1.2.2.1
  refine co_feed (d := d + 1298) h.2.1.1 h.2.1.2.2.1 hL (fun z w1 Z1 T1 F1 => laF.ok ((q_gw.of (R := fun _ => False) F1).rom (by decide) (by decide)) (fun w2 G => ?_)) (fun z => laF.x1 lE_tw (fun z0 hz w2 G => ?_))
  · have G1 := q_gw.of (R := fun _ => False) F1
    have C1 : lC b t B pr nI (L + 20) (fd_5 x1 x2 x3 x4 x5 D L) e w1 := ⟨Z1, h.2.1.2.1.gw h.2.1.1 G1 (fun a ha z => by omega) (fun _ _ z => z), T1, (F1.gi (by omega)).trans h.2.1.2.2.2.1, (F1.gi (by omega)).trans h.2.1.2.2.2.2⟩
    have M1 := h.2.2.far G1 (fun a u v z => by omega) (fun z => z)
    have C2 := C1.out G
    have M2 := M1.out G
    exact mo_feed (d := d + 1298) M2.1 M2.2.1 hL (fun _ w3 A3 T3 e0 G3 K3 => ⟨G3.rot C2.sz.1 (fun a z => by omega) (by decide) (by decide), _, rfl, fun _ => rfl, e0, L + 20, Nat.le_refl _, B, pr, nI, _, e, ⟨h.1.1, h.1.2.1, z, h.1.2.2.2.five⟩, C2.far (G3.mo (fun a z => by omega) (fun a z => z) (Nat.le_refl _) (Nat.le_refl _)), ⟨A3, T3, (K3 27 (by decide) (by decide)).trans M2.2.2.1, (K3 37 (by decide) (by decide)).trans M2.2.2.2.1, (K3 3 (by decide) (by decide)).trans M2.2.2.2.2⟩⟩) (fun q => absurd z q)
  · have h2 := (lS_x0 h hz).out G
    exact mo_feed (d := d + 1298) h2.2.2.1 h2.2.2.2.1 hL (fun q => absurd q z) (fun _ v w3 G3 e0 => ⟨G3.1.rot h2.2.1.sz.1 (fun a z => by omega) (by decide) (by decide), _, rfl, fun q => (by cases q), e0, L, by omega, (h2.mO G3).J⟩)
theorem la_trim {x : Int} (h : lS b t B pr nI L D e w) : bm_Call bm_pg (d + 1300) y_X11_trim [bm_r (some b), bm_i x] w (laF b t d y_X12_trim [bm_r (some (t + 122)), bm_i x] 50 6920 (L + 20) "java/lang/IllegalArgumentException" E2 w) := by
  have sz := h.2.1.sz
  have hL := h.1.2.2.1
  refine co_trim (d := d + 1298) h.2.1.1 h.2.1.2.2.1 hL (fun z w1 Z1 T1 F1 => laF.ok ((q_gw.of (R := fun _ => False) F1).rom (by decide) (by decide)) (fun w2 G => ?_)) (fun z => laF.x1 lE_tw (fun z0 hz w2 G => ?_))
  · have G1 := q_gw.of (R := fun _ => False) F1
    have C1 : lC b t B pr nI x.toNat D e w1 := ⟨Z1, h.2.1.2.1.gw h.2.1.1 G1 (fun a ha z => by omega) (fun _ _ z => z), T1, (F1.gi (by omega)).trans h.2.1.2.2.2.1, (F1.gi (by omega)).trans h.2.1.2.2.2.2⟩
    have M1 := h.2.2.far G1 (fun a u v z => by omega) (fun z => z)
    have C2 := C1.out G
    have M2 := M1.out G
    exact mo_trim (d := d + 1298) M2.1 M2.2.1 hL (fun _ w3 A3 T3 e0 F3 K3 => ⟨(q_gw.of (R := fun _ => False) F3).rot C2.sz.1 (fun a z => by omega) (by decide) (by decide), _, rfl, fun _ => rfl, e0, x.toNat, by omega, B, pr, nI, D, e, ⟨h.1.1, h.1.2.1, by omega, fun k hk => h.1.2.2.2 k (by omega)⟩, C2.far ((q_gw.of (R := fun _ => False) F3).mo (fun a z => by omega) (fun a z => z) (Nat.le_refl _) (Nat.le_refl _)), ⟨A3, T3, (K3 27 (by decide) (by decide)).trans M2.2.2.1, (K3 37 (by decide) (by decide)).trans M2.2.2.2.1, (K3 3 (by decide) (by decide)).trans M2.2.2.2.2⟩⟩) (fun q => absurd z q)
  · have h2 := (lS_x0 h hz).out G
    exact mo_trim (d := d + 1298) h2.2.2.1 h2.2.2.2.1 hL (fun q => absurd q z) (fun _ v w3 G3 e0 => ⟨G3.1.rot h2.2.1.sz.1 (fun a z => by omega) (by decide) (by decide), _, rfl, fun q => (by cases q), e0, L, by omega, (h2.mO G3).J⟩)
end LS2

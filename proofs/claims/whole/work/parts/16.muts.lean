def FX3_setLimit (θ : Int32) (ρ : RS) (S0 : RS) (S1 : RS) (S2 : RS) (S3 : RS) (x1 : Int32) (x2 : Int32) : Option (Nat ⊕ (Int32 × Int32 × RS × RS × RS × RS × RS)) :=
  bX (FX3_checkRack x1) fun z1 =>
  bX (FX3_checkRange x2 (0 : Int32) (500 : Int32)) fun z3 =>
  (FX3_save θ ρ S0 S1 S2 S3).bind fun z5 =>
  gd (¬ (x1 < 0 ∨ 6 ≤ (x1).toNatClampNeg)) (
  gd (¬ (x1 < 0 ∨ 6 ≤ (x1).toNatClampNeg)) (
  nmv (upd ρ.2.2.2.2.1 (x1).toNatClampNeg x2) fun fw11 =>
  some (.inr (ρ.2.2.2.2.1 (x1).toNatClampNeg, z5.1, (ρ.1, ρ.2.1, ρ.2.2.1, ρ.2.2.2.1, fw11, ρ.2.2.2.2.2.1, ρ.2.2.2.2.2.2.1, ρ.2.2.2.2.2.2.2.1, ρ.2.2.2.2.2.2.2.2.1, ρ.2.2.2.2.2.2.2.2.2.1, ρ.2.2.2.2.2.2.2.2.2.2.1, ρ.2.2.2.2.2.2.2.2.2.2.2.1, ρ.2.2.2.2.2.2.2.2.2.2.2.2.1, ρ.2.2.2.2.2.2.2.2.2.2.2.2.2), z5.2.1, z5.2.2.1, z5.2.2.2.1, z5.2.2.2.2))))
abbrev rmX3_setLimit : Room := { frames := 4, cells := 0, slots := 0, locals := 124 }
set_option maxHeartbeats 4000000 in
set_option maxRecDepth 100000 in
theorem CX3_setLimit (l : Launch) (D : va_G) (aθ : Nat) (pθ_spare : Nat) (pθ_text : Nat) (aρ : Nat → Nat) (aν : Nat) (aS0 : Nat → Nat) (aS1 : Nat → Nat) (aS2 : Nat → Nat) (aS3 : Nat → Nat) (θ : Int32) (ρ : RS) (S0 : RS) (S1 : RS) (S2 : RS) (S3 : RS) (x1 : Int32) (x2 : Int32) (r0 : Int32) (θ0 : Int32) (ρ0 : RS) (S00 : RS) (S10 : RS) (S20 : RS) (S30 : RS) (hF : FX3_setLimit θ ρ S0 S1 S2 S3 x1 x2 = some (.inr (r0, θ0, ρ0, S00, S10, S20, S30))) : Ct l D yX3_setLimit cX3_setLimit 4 (some .int) rmX3_setLimit 0 0 [.ref aθ, .int x1, .int x2] ([rkW D aθ (aρ 0) pθ_spare aν pθ_text θ, rmW D aρ ρ, tlW D aν aS0 aS1 aS2 aS3 S0 S1 S2 S3].flatten) (fun v w => v = some (.int r0) ∧ ∃ (bS0 : Nat → Nat) (bS1 : Nat → Nat) (bS2 : Nat → Nat) (bS3 : Nat → Nat), w = [rkW D aθ (aρ 0) pθ_spare aν pθ_text θ0, rmW D aρ ρ0, tlW D aν bS0 bS1 bS2 bS3 S00 S10 S20 S30].flatten) := by
  refine Ct.of (own := RX3) (lv := [(0, .ref aθ), (1, .int x1), (2, .int x2)]) (by decide +kernel) rfl (Nat.le_of_ble_eq_true rfl) rfl (fun X h hr => ?_)
  unfold FX3_setLimit at hF
  refine r_iload_n h 1 rfl rfl dX3_setLimit_0 ?_
  rcases o_bX hF with ⟨k_z1, e2, hF⟩ | ⟨z1, e2, hF⟩
  · cases hF
  · refine r_callSv (rest := []) h hd_X3_checkRack wm_445 dX3_setLimit_1 (CX3_checkRack l D x1 e2) rfl ⟨rfl, rfl⟩ ⟨by decide, by decide⟩ (Nat.le_of_ble_eq_true rfl) ⟨by decide, by decide⟩ rfl ?_
    refine r_iload_n h 2 rfl rfl dX3_setLimit_4 ?_
    refine r_iconst (v := 0) h dX3_setLimit_5 (by decide) ?_
    refine r_sipush (v := 500) h dX3_setLimit_6 (by decide) ?_
    rcases o_bX hF with ⟨k_z3, e4, hF⟩ | ⟨z3, e4, hF⟩
    · cases hF
    · refine r_callSv (rest := []) h hd_X3_checkRange wm_360 dX3_setLimit_9 (CX3_checkRange l D x2 (0 : Int32) (500 : Int32) e4) rfl ⟨rfl, rfl⟩ ⟨by decide, by decide⟩ (Nat.le_of_ble_eq_true rfl) ⟨by decide, by decide⟩ rfl ?_
      refine r_aload_n h 0 rfl rfl dX3_setLimit_12 ?_
      obtain ⟨z5, e6, hF⟩ := o_bind hF
      refine r_callVB (N0 := 3) (q0 := 0) (rest := []) h [rkW D aθ (aρ 0) pθ_spare aν pθ_text θ, rmW D aρ ρ, tlW D aν aS0 aS1 aS2 aS3 S0 S1 S2 S3] [0, 1, 2] [] hd_X3_save wm_209 dX3_setLimit_13 (CX3_save l D aθ pθ_spare pθ_text aρ aν aS0 aS1 aS2 aS3 θ ρ S0 S1 S2 S3 z5.1 z5.2.1 z5.2.2.1 z5.2.2.2.1 z5.2.2.2.2 e6) rfl rfl rfl (by decide +kernel) rfl rfl rfl ⟨rfl, rfl⟩ ⟨by decide, by decide⟩ (Nat.le_of_ble_eq_true rfl) ⟨by decide, by decide⟩ rfl (fun v w' hp => ?_)
      obtain ⟨rfl, a7, a8, a9, a10, rfl⟩ := hp
      refine J.blk2 (ws' := [rkW D aθ (aρ 0) pθ_spare aν pθ_text z5.1, rmW D aρ ρ, tlW D aν a7 a8 a9 a10 z5.2.1 z5.2.2.1 z5.2.2.2.1 z5.2.2.2.2].flatten) 3 (pkB [rkW D aθ (aρ 0) pθ_spare aν pθ_text θ, rmW D aρ ρ, tlW D aν aS0 aS1 aS2 aS3 S0 S1 S2 S3] []) ([rkW D aθ (aρ 0) pθ_spare aν pθ_text z5.1, rmW D aρ ρ, tlW D aν a7 a8 a9 a10 z5.2.1 z5.2.2.1 z5.2.2.2.1 z5.2.2.2.2]) [0, 1, 2] rfl rfl rfl rfl (by decide +kernel) ?_
      refine r_aload_n h 0 rfl rfl dX3_setLimit_16 ?_
      refine r_get h fl_X3_12 0 rfl rfl dX3_setLimit_17 ?_
      refine r_get h fl_X3_45 1 rfl rfl dX3_setLimit_20 ?_
      refine r_iload_n h 1 rfl rfl dX3_setLimit_23 ?_
      obtain ⟨hN, hF⟩ := o_gd hF
      refine r_iald h 6 rfl hN dX3_setLimit_24 ?_
      refine r_istore_n (lv' := [(3, .int (ρ.2.2.2.2.1 (x1).toNatClampNeg)), (0, .ref aθ), (1, .int x1), (2, .int x2)]) h rfl dX3_setLimit_25 (by decide) rfl ?_
      refine r_aload_n h 1 rfl rfl dX3_setLimit_26 ?_
      refine r_get h fl_X3_12 0 rfl rfl dX3_setLimit_27 ?_
      refine r_get h fl_X3_45 1 rfl rfl dX3_setLimit_30 ?_
      refine r_iload_n h 2 rfl rfl dX3_setLimit_33 ?_
      refine r_iload_n h 3 rfl rfl dX3_setLimit_34 ?_
      obtain ⟨hN, hF⟩ := o_gd hF
      obtain ⟨fw11, hfw11, hF⟩ := o_nm hF
      refine r_iast (ws' := [rkW D aθ (aρ 0) pθ_spare aν pθ_text z5.1, rmW D aρ (ρ.1, ρ.2.1, ρ.2.2.1, ρ.2.2.2.1, fw11, ρ.2.2.2.2.2.1, ρ.2.2.2.2.2.2.1, ρ.2.2.2.2.2.2.2.1, ρ.2.2.2.2.2.2.2.2.1, ρ.2.2.2.2.2.2.2.2.2.1, ρ.2.2.2.2.2.2.2.2.2.2.1, ρ.2.2.2.2.2.2.2.2.2.2.2.1, ρ.2.2.2.2.2.2.2.2.2.2.2.2.1, ρ.2.2.2.2.2.2.2.2.2.2.2.2.2), tlW D aν a7 a8 a9 a10 z5.2.1 z5.2.2.1 z5.2.2.2.1 z5.2.2.2.2].flatten) h 6 rfl hN (by rw [hfw11]; rfl) dX3_setLimit_35 ?_
      refine r_iload_n h 0 rfl rfl dX3_setLimit_36 ?_
      cases hF
      exact r_iret h hr dX3_setLimit_37 ⟨rfl, a7, a8, a9, a10, rfl⟩

abbrev rmTX3_setLimit : Room := { frames := 7, cells := 1, slots := 6, locals := 124 }
set_option maxHeartbeats 4000000 in
set_option maxRecDepth 100000 in
theorem TX3_setLimit (l : Launch) (hl0 : l.stackTraces = false) (D : va_G) (aθ : Nat) (pθ_spare : Nat) (pθ_text : Nat) (aρ : Nat → Nat) (aν : Nat) (aS0 : Nat → Nat) (aS1 : Nat → Nat) (aS2 : Nat → Nat) (aS3 : Nat → Nat) (θ : Int32) (ρ : RS) (S0 : RS) (S1 : RS) (S2 : RS) (S3 : RS) (x1 : Int32) (x2 : Int32) (k0 : Nat) (hF : FX3_setLimit θ ρ S0 S1 S2 S3 x1 x2 = some (.inl k0)) : CtT l D yX3_setLimit cX3_setLimit 4 (some .int) rmTX3_setLimit 1 6 [.ref aθ, .int x1, .int x2] ([rkW D aθ (aρ 0) pθ_spare aν pθ_text θ, rmW D aρ ρ, tlW D aν aS0 aS1 aS2 aS3 S0 S1 S2 S3].flatten) (exn k0) := by
  refine CtT.of (own := RX3) (lv := [(0, .ref aθ), (1, .int x1), (2, .int x2)]) (by decide +kernel) rfl (Nat.le_of_ble_eq_true rfl) rfl (fun X h hx ht => ?_)
  unfold FX3_setLimit at hF
  refine r_iload_n h 1 rfl rfl dX3_setLimit_0 ?_
  rcases o_bX hF with ⟨k_z1, e2, hF⟩ | ⟨z1, e2, hF⟩
  · cases hF
    exact r_callTSp (rest := []) h hx ht hd_X3_checkRack wm_445 dX3_setLimit_1 (TX3_checkRack l hl0 D x1 _ e2) rfl ⟨rfl, rfl⟩ ⟨by decide, by decide⟩ (Nat.le_of_ble_eq_true rfl) ⟨by decide, by decide⟩ ⟨by decide, by decide⟩ rfl
  · refine r_callSv (rest := []) h hd_X3_checkRack wm_445 dX3_setLimit_1 (CX3_checkRack l D x1 e2) rfl ⟨rfl, rfl⟩ ⟨by decide, by decide⟩ (Nat.le_of_ble_eq_true rfl) ⟨by decide, by decide⟩ rfl ?_
    refine r_iload_n h 2 rfl rfl dX3_setLimit_4 ?_
    refine r_iconst (v := 0) h dX3_setLimit_5 (by decide) ?_
    refine r_sipush (v := 500) h dX3_setLimit_6 (by decide) ?_
    rcases o_bX hF with ⟨k_z3, e4, hF⟩ | ⟨z3, e4, hF⟩
    · cases hF
      exact r_callTSp (rest := []) h hx ht hd_X3_checkRange wm_360 dX3_setLimit_9 (TX3_checkRange l hl0 D x2 (0 : Int32) (500 : Int32) _ e4) rfl ⟨rfl, rfl⟩ ⟨by decide, by decide⟩ (Nat.le_of_ble_eq_true rfl) ⟨by decide, by decide⟩ ⟨by decide, by decide⟩ rfl
    · refine r_callSv (rest := []) h hd_X3_checkRange wm_360 dX3_setLimit_9 (CX3_checkRange l D x2 (0 : Int32) (500 : Int32) e4) rfl ⟨rfl, rfl⟩ ⟨by decide, by decide⟩ (Nat.le_of_ble_eq_true rfl) ⟨by decide, by decide⟩ rfl ?_
      refine r_aload_n h 0 rfl rfl dX3_setLimit_12 ?_
      obtain ⟨z5, e6, hF⟩ := o_bind hF
      refine r_callVB (N0 := 3) (q0 := 0) (rest := []) h [rkW D aθ (aρ 0) pθ_spare aν pθ_text θ, rmW D aρ ρ, tlW D aν aS0 aS1 aS2 aS3 S0 S1 S2 S3] [0, 1, 2] [] hd_X3_save wm_209 dX3_setLimit_13 (CX3_save l D aθ pθ_spare pθ_text aρ aν aS0 aS1 aS2 aS3 θ ρ S0 S1 S2 S3 z5.1 z5.2.1 z5.2.2.1 z5.2.2.2.1 z5.2.2.2.2 e6) rfl rfl rfl (by decide +kernel) rfl rfl rfl ⟨rfl, rfl⟩ ⟨by decide, by decide⟩ (Nat.le_of_ble_eq_true rfl) ⟨by decide, by decide⟩ rfl (fun v w' hp => ?_)
      obtain ⟨rfl, a7, a8, a9, a10, rfl⟩ := hp
      refine J.blk2 (ws' := [rkW D aθ (aρ 0) pθ_spare aν pθ_text z5.1, rmW D aρ ρ, tlW D aν a7 a8 a9 a10 z5.2.1 z5.2.2.1 z5.2.2.2.1 z5.2.2.2.2].flatten) 3 (pkB [rkW D aθ (aρ 0) pθ_spare aν pθ_text θ, rmW D aρ ρ, tlW D aν aS0 aS1 aS2 aS3 S0 S1 S2 S3] []) ([rkW D aθ (aρ 0) pθ_spare aν pθ_text z5.1, rmW D aρ ρ, tlW D aν a7 a8 a9 a10 z5.2.1 z5.2.2.1 z5.2.2.2.1 z5.2.2.2.2]) [0, 1, 2] rfl rfl rfl rfl (by decide +kernel) ?_
      refine r_aload_n h 0 rfl rfl dX3_setLimit_16 ?_
      refine r_get h fl_X3_12 0 rfl rfl dX3_setLimit_17 ?_
      refine r_get h fl_X3_45 1 rfl rfl dX3_setLimit_20 ?_
      refine r_iload_n h 1 rfl rfl dX3_setLimit_23 ?_
      obtain ⟨hN, hF⟩ := o_gd hF
      refine r_iald h 6 rfl hN dX3_setLimit_24 ?_
      refine r_istore_n (lv' := [(3, .int (ρ.2.2.2.2.1 (x1).toNatClampNeg)), (0, .ref aθ), (1, .int x1), (2, .int x2)]) h rfl dX3_setLimit_25 (by decide) rfl ?_
      refine r_aload_n h 1 rfl rfl dX3_setLimit_26 ?_
      refine r_get h fl_X3_12 0 rfl rfl dX3_setLimit_27 ?_
      refine r_get h fl_X3_45 1 rfl rfl dX3_setLimit_30 ?_
      refine r_iload_n h 2 rfl rfl dX3_setLimit_33 ?_
      refine r_iload_n h 3 rfl rfl dX3_setLimit_34 ?_
      obtain ⟨hN, hF⟩ := o_gd hF
      obtain ⟨fw11, hfw11, hF⟩ := o_nm hF
      refine r_iast (ws' := [rkW D aθ (aρ 0) pθ_spare aν pθ_text z5.1, rmW D aρ (ρ.1, ρ.2.1, ρ.2.2.1, ρ.2.2.2.1, fw11, ρ.2.2.2.2.2.1, ρ.2.2.2.2.2.2.1, ρ.2.2.2.2.2.2.2.1, ρ.2.2.2.2.2.2.2.2.1, ρ.2.2.2.2.2.2.2.2.2.1, ρ.2.2.2.2.2.2.2.2.2.2.1, ρ.2.2.2.2.2.2.2.2.2.2.2.1, ρ.2.2.2.2.2.2.2.2.2.2.2.2.1, ρ.2.2.2.2.2.2.2.2.2.2.2.2.2), tlW D aν a7 a8 a9 a10 z5.2.1 z5.2.2.1 z5.2.2.2.1 z5.2.2.2.2].flatten) h 6 rfl hN (by rw [hfw11]; rfl) dX3_setLimit_35 ?_
      refine r_iload_n h 0 rfl rfl dX3_setLimit_36 ?_
      cases hF

def FX3_setTray (θ : Int32) (ρ : RS) (S0 : RS) (S1 : RS) (S2 : RS) (S3 : RS) (x1 : Int32) (x2 : Int32) : Option (Nat ⊕ (Int32 × Int32 × RS × RS × RS × RS × RS)) :=
  bX (FX3_checkTray x1) fun z1 =>
  bX (FX3_checkRange x2 (0 : Int32) (9 : Int32)) fun z3 =>
  (FX3_save θ ρ S0 S1 S2 S3).bind fun z5 =>
  gd (¬ (x1 < 0 ∨ 5 ≤ (x1).toNatClampNeg)) (
  gd (¬ (x1 < 0 ∨ 5 ≤ (x1).toNatClampNeg)) (
  nmv (upd ρ.2.2.2.2.2.1 (x1).toNatClampNeg x2) fun fw11 =>
  some (.inr (ρ.2.2.2.2.2.1 (x1).toNatClampNeg, z5.1, (ρ.1, ρ.2.1, ρ.2.2.1, ρ.2.2.2.1, ρ.2.2.2.2.1, fw11, ρ.2.2.2.2.2.2.1, ρ.2.2.2.2.2.2.2.1, ρ.2.2.2.2.2.2.2.2.1, ρ.2.2.2.2.2.2.2.2.2.1, ρ.2.2.2.2.2.2.2.2.2.2.1, ρ.2.2.2.2.2.2.2.2.2.2.2.1, ρ.2.2.2.2.2.2.2.2.2.2.2.2.1, ρ.2.2.2.2.2.2.2.2.2.2.2.2.2), z5.2.1, z5.2.2.1, z5.2.2.2.1, z5.2.2.2.2))))
abbrev rmX3_setTray : Room := { frames := 4, cells := 0, slots := 0, locals := 124 }
set_option maxHeartbeats 4000000 in
set_option maxRecDepth 100000 in
theorem CX3_setTray (l : Launch) (D : va_G) (aθ : Nat) (pθ_spare : Nat) (pθ_text : Nat) (aρ : Nat → Nat) (aν : Nat) (aS0 : Nat → Nat) (aS1 : Nat → Nat) (aS2 : Nat → Nat) (aS3 : Nat → Nat) (θ : Int32) (ρ : RS) (S0 : RS) (S1 : RS) (S2 : RS) (S3 : RS) (x1 : Int32) (x2 : Int32) (r0 : Int32) (θ0 : Int32) (ρ0 : RS) (S00 : RS) (S10 : RS) (S20 : RS) (S30 : RS) (hF : FX3_setTray θ ρ S0 S1 S2 S3 x1 x2 = some (.inr (r0, θ0, ρ0, S00, S10, S20, S30))) : Ct l D yX3_setTray cX3_setTray 4 (some .int) rmX3_setTray 0 0 [.ref aθ, .int x1, .int x2] ([rkW D aθ (aρ 0) pθ_spare aν pθ_text θ, rmW D aρ ρ, tlW D aν aS0 aS1 aS2 aS3 S0 S1 S2 S3].flatten) (fun v w => v = some (.int r0) ∧ ∃ (bS0 : Nat → Nat) (bS1 : Nat → Nat) (bS2 : Nat → Nat) (bS3 : Nat → Nat), w = [rkW D aθ (aρ 0) pθ_spare aν pθ_text θ0, rmW D aρ ρ0, tlW D aν bS0 bS1 bS2 bS3 S00 S10 S20 S30].flatten) := by
  refine Ct.of (own := RX3) (lv := [(0, .ref aθ), (1, .int x1), (2, .int x2)]) (by decide +kernel) rfl (Nat.le_of_ble_eq_true rfl) rfl (fun X h hr => ?_)
  unfold FX3_setTray at hF
  refine r_iload_n h 1 rfl rfl dX3_setTray_0 ?_
  rcases o_bX hF with ⟨k_z1, e2, hF⟩ | ⟨z1, e2, hF⟩
  · cases hF
  · refine r_callSv (rest := []) h hd_X3_checkTray wm_490 dX3_setTray_1 (CX3_checkTray l D x1 e2) rfl ⟨rfl, rfl⟩ ⟨by decide, by decide⟩ (Nat.le_of_ble_eq_true rfl) ⟨by decide, by decide⟩ rfl ?_
    refine r_iload_n h 2 rfl rfl dX3_setTray_4 ?_
    refine r_iconst (v := 0) h dX3_setTray_5 (by decide) ?_
    refine r_bipush (v := 9) h dX3_setTray_6 (by decide) ?_
    rcases o_bX hF with ⟨k_z3, e4, hF⟩ | ⟨z3, e4, hF⟩
    · cases hF
    · refine r_callSv (rest := []) h hd_X3_checkRange wm_360 dX3_setTray_8 (CX3_checkRange l D x2 (0 : Int32) (9 : Int32) e4) rfl ⟨rfl, rfl⟩ ⟨by decide, by decide⟩ (Nat.le_of_ble_eq_true rfl) ⟨by decide, by decide⟩ rfl ?_
      refine r_aload_n h 0 rfl rfl dX3_setTray_11 ?_
      obtain ⟨z5, e6, hF⟩ := o_bind hF
      refine r_callVB (N0 := 3) (q0 := 0) (rest := []) h [rkW D aθ (aρ 0) pθ_spare aν pθ_text θ, rmW D aρ ρ, tlW D aν aS0 aS1 aS2 aS3 S0 S1 S2 S3] [0, 1, 2] [] hd_X3_save wm_209 dX3_setTray_12 (CX3_save l D aθ pθ_spare pθ_text aρ aν aS0 aS1 aS2 aS3 θ ρ S0 S1 S2 S3 z5.1 z5.2.1 z5.2.2.1 z5.2.2.2.1 z5.2.2.2.2 e6) rfl rfl rfl (by decide +kernel) rfl rfl rfl ⟨rfl, rfl⟩ ⟨by decide, by decide⟩ (Nat.le_of_ble_eq_true rfl) ⟨by decide, by decide⟩ rfl (fun v w' hp => ?_)
      obtain ⟨rfl, a7, a8, a9, a10, rfl⟩ := hp
      refine J.blk2 (ws' := [rkW D aθ (aρ 0) pθ_spare aν pθ_text z5.1, rmW D aρ ρ, tlW D aν a7 a8 a9 a10 z5.2.1 z5.2.2.1 z5.2.2.2.1 z5.2.2.2.2].flatten) 3 (pkB [rkW D aθ (aρ 0) pθ_spare aν pθ_text θ, rmW D aρ ρ, tlW D aν aS0 aS1 aS2 aS3 S0 S1 S2 S3] []) ([rkW D aθ (aρ 0) pθ_spare aν pθ_text z5.1, rmW D aρ ρ, tlW D aν a7 a8 a9 a10 z5.2.1 z5.2.2.1 z5.2.2.2.1 z5.2.2.2.2]) [0, 1, 2] rfl rfl rfl rfl (by decide +kernel) ?_
      refine r_aload_n h 0 rfl rfl dX3_setTray_15 ?_
      refine r_get h fl_X3_12 0 rfl rfl dX3_setTray_16 ?_
      refine r_get h fl_X3_52 1 rfl rfl dX3_setTray_19 ?_
      refine r_iload_n h 1 rfl rfl dX3_setTray_22 ?_
      obtain ⟨hN, hF⟩ := o_gd hF
      refine r_iald h 7 rfl hN dX3_setTray_23 ?_
      refine r_istore_n (lv' := [(3, .int (ρ.2.2.2.2.2.1 (x1).toNatClampNeg)), (0, .ref aθ), (1, .int x1), (2, .int x2)]) h rfl dX3_setTray_24 (by decide) rfl ?_
      refine r_aload_n h 1 rfl rfl dX3_setTray_25 ?_
      refine r_get h fl_X3_12 0 rfl rfl dX3_setTray_26 ?_
      refine r_get h fl_X3_52 1 rfl rfl dX3_setTray_29 ?_
      refine r_iload_n h 2 rfl rfl dX3_setTray_32 ?_
      refine r_iload_n h 3 rfl rfl dX3_setTray_33 ?_
      obtain ⟨hN, hF⟩ := o_gd hF
      obtain ⟨fw11, hfw11, hF⟩ := o_nm hF
      refine r_iast (ws' := [rkW D aθ (aρ 0) pθ_spare aν pθ_text z5.1, rmW D aρ (ρ.1, ρ.2.1, ρ.2.2.1, ρ.2.2.2.1, ρ.2.2.2.2.1, fw11, ρ.2.2.2.2.2.2.1, ρ.2.2.2.2.2.2.2.1, ρ.2.2.2.2.2.2.2.2.1, ρ.2.2.2.2.2.2.2.2.2.1, ρ.2.2.2.2.2.2.2.2.2.2.1, ρ.2.2.2.2.2.2.2.2.2.2.2.1, ρ.2.2.2.2.2.2.2.2.2.2.2.2.1, ρ.2.2.2.2.2.2.2.2.2.2.2.2.2), tlW D aν a7 a8 a9 a10 z5.2.1 z5.2.2.1 z5.2.2.2.1 z5.2.2.2.2].flatten) h 7 rfl hN (by rw [hfw11]; rfl) dX3_setTray_34 ?_
      refine r_iload_n h 0 rfl rfl dX3_setTray_35 ?_
      cases hF
      exact r_iret h hr dX3_setTray_36 ⟨rfl, a7, a8, a9, a10, rfl⟩

abbrev rmTX3_setTray : Room := { frames := 7, cells := 1, slots := 6, locals := 124 }
set_option maxHeartbeats 4000000 in
set_option maxRecDepth 100000 in
theorem TX3_setTray (l : Launch) (hl0 : l.stackTraces = false) (D : va_G) (aθ : Nat) (pθ_spare : Nat) (pθ_text : Nat) (aρ : Nat → Nat) (aν : Nat) (aS0 : Nat → Nat) (aS1 : Nat → Nat) (aS2 : Nat → Nat) (aS3 : Nat → Nat) (θ : Int32) (ρ : RS) (S0 : RS) (S1 : RS) (S2 : RS) (S3 : RS) (x1 : Int32) (x2 : Int32) (k0 : Nat) (hF : FX3_setTray θ ρ S0 S1 S2 S3 x1 x2 = some (.inl k0)) : CtT l D yX3_setTray cX3_setTray 4 (some .int) rmTX3_setTray 1 6 [.ref aθ, .int x1, .int x2] ([rkW D aθ (aρ 0) pθ_spare aν pθ_text θ, rmW D aρ ρ, tlW D aν aS0 aS1 aS2 aS3 S0 S1 S2 S3].flatten) (exn k0) := by
  refine CtT.of (own := RX3) (lv := [(0, .ref aθ), (1, .int x1), (2, .int x2)]) (by decide +kernel) rfl (Nat.le_of_ble_eq_true rfl) rfl (fun X h hx ht => ?_)
  unfold FX3_setTray at hF
  refine r_iload_n h 1 rfl rfl dX3_setTray_0 ?_
  rcases o_bX hF with ⟨k_z1, e2, hF⟩ | ⟨z1, e2, hF⟩
  · cases hF
    exact r_callTSp (rest := []) h hx ht hd_X3_checkTray wm_490 dX3_setTray_1 (TX3_checkTray l hl0 D x1 _ e2) rfl ⟨rfl, rfl⟩ ⟨by decide, by decide⟩ (Nat.le_of_ble_eq_true rfl) ⟨by decide, by decide⟩ ⟨by decide, by decide⟩ rfl
  · refine r_callSv (rest := []) h hd_X3_checkTray wm_490 dX3_setTray_1 (CX3_checkTray l D x1 e2) rfl ⟨rfl, rfl⟩ ⟨by decide, by decide⟩ (Nat.le_of_ble_eq_true rfl) ⟨by decide, by decide⟩ rfl ?_
    refine r_iload_n h 2 rfl rfl dX3_setTray_4 ?_
    refine r_iconst (v := 0) h dX3_setTray_5 (by decide) ?_
    refine r_bipush (v := 9) h dX3_setTray_6 (by decide) ?_
    rcases o_bX hF with ⟨k_z3, e4, hF⟩ | ⟨z3, e4, hF⟩
    · cases hF
      exact r_callTSp (rest := []) h hx ht hd_X3_checkRange wm_360 dX3_setTray_8 (TX3_checkRange l hl0 D x2 (0 : Int32) (9 : Int32) _ e4) rfl ⟨rfl, rfl⟩ ⟨by decide, by decide⟩ (Nat.le_of_ble_eq_true rfl) ⟨by decide, by decide⟩ ⟨by decide, by decide⟩ rfl
    · refine r_callSv (rest := []) h hd_X3_checkRange wm_360 dX3_setTray_8 (CX3_checkRange l D x2 (0 : Int32) (9 : Int32) e4) rfl ⟨rfl, rfl⟩ ⟨by decide, by decide⟩ (Nat.le_of_ble_eq_true rfl) ⟨by decide, by decide⟩ rfl ?_
      refine r_aload_n h 0 rfl rfl dX3_setTray_11 ?_
      obtain ⟨z5, e6, hF⟩ := o_bind hF
      refine r_callVB (N0 := 3) (q0 := 0) (rest := []) h [rkW D aθ (aρ 0) pθ_spare aν pθ_text θ, rmW D aρ ρ, tlW D aν aS0 aS1 aS2 aS3 S0 S1 S2 S3] [0, 1, 2] [] hd_X3_save wm_209 dX3_setTray_12 (CX3_save l D aθ pθ_spare pθ_text aρ aν aS0 aS1 aS2 aS3 θ ρ S0 S1 S2 S3 z5.1 z5.2.1 z5.2.2.1 z5.2.2.2.1 z5.2.2.2.2 e6) rfl rfl rfl (by decide +kernel) rfl rfl rfl ⟨rfl, rfl⟩ ⟨by decide, by decide⟩ (Nat.le_of_ble_eq_true rfl) ⟨by decide, by decide⟩ rfl (fun v w' hp => ?_)
      obtain ⟨rfl, a7, a8, a9, a10, rfl⟩ := hp
      refine J.blk2 (ws' := [rkW D aθ (aρ 0) pθ_spare aν pθ_text z5.1, rmW D aρ ρ, tlW D aν a7 a8 a9 a10 z5.2.1 z5.2.2.1 z5.2.2.2.1 z5.2.2.2.2].flatten) 3 (pkB [rkW D aθ (aρ 0) pθ_spare aν pθ_text θ, rmW D aρ ρ, tlW D aν aS0 aS1 aS2 aS3 S0 S1 S2 S3] []) ([rkW D aθ (aρ 0) pθ_spare aν pθ_text z5.1, rmW D aρ ρ, tlW D aν a7 a8 a9 a10 z5.2.1 z5.2.2.1 z5.2.2.2.1 z5.2.2.2.2]) [0, 1, 2] rfl rfl rfl rfl (by decide +kernel) ?_
      refine r_aload_n h 0 rfl rfl dX3_setTray_15 ?_
      refine r_get h fl_X3_12 0 rfl rfl dX3_setTray_16 ?_
      refine r_get h fl_X3_52 1 rfl rfl dX3_setTray_19 ?_
      refine r_iload_n h 1 rfl rfl dX3_setTray_22 ?_
      obtain ⟨hN, hF⟩ := o_gd hF
      refine r_iald h 7 rfl hN dX3_setTray_23 ?_
      refine r_istore_n (lv' := [(3, .int (ρ.2.2.2.2.2.1 (x1).toNatClampNeg)), (0, .ref aθ), (1, .int x1), (2, .int x2)]) h rfl dX3_setTray_24 (by decide) rfl ?_
      refine r_aload_n h 1 rfl rfl dX3_setTray_25 ?_
      refine r_get h fl_X3_12 0 rfl rfl dX3_setTray_26 ?_
      refine r_get h fl_X3_52 1 rfl rfl dX3_setTray_29 ?_
      refine r_iload_n h 2 rfl rfl dX3_setTray_32 ?_
      refine r_iload_n h 3 rfl rfl dX3_setTray_33 ?_
      obtain ⟨hN, hF⟩ := o_gd hF
      obtain ⟨fw11, hfw11, hF⟩ := o_nm hF
      refine r_iast (ws' := [rkW D aθ (aρ 0) pθ_spare aν pθ_text z5.1, rmW D aρ (ρ.1, ρ.2.1, ρ.2.2.1, ρ.2.2.2.1, ρ.2.2.2.2.1, fw11, ρ.2.2.2.2.2.2.1, ρ.2.2.2.2.2.2.2.1, ρ.2.2.2.2.2.2.2.2.1, ρ.2.2.2.2.2.2.2.2.2.1, ρ.2.2.2.2.2.2.2.2.2.2.1, ρ.2.2.2.2.2.2.2.2.2.2.2.1, ρ.2.2.2.2.2.2.2.2.2.2.2.2.1, ρ.2.2.2.2.2.2.2.2.2.2.2.2.2), tlW D aν a7 a8 a9 a10 z5.2.1 z5.2.2.1 z5.2.2.2.1 z5.2.2.2.2].flatten) h 7 rfl hN (by rw [hfw11]; rfl) dX3_setTray_34 ?_
      refine r_iload_n h 0 rfl rfl dX3_setTray_35 ?_
      cases hF

def FX3_setLevel (θ : Int32) (ρ : RS) (S0 : RS) (S1 : RS) (S2 : RS) (S3 : RS) (x1 : Int32) : Option (Nat ⊕ (Int32 × Int32 × RS × RS × RS × RS × RS)) :=
  bX (FX3_checkRange x1 (0 : Int32) (500 : Int32)) fun z1 =>
  (FX3_save θ ρ S0 S1 S2 S3).bind fun z3 =>
  some (.inr (ρ.2.2.2.2.2.2.2.2.2.2.1, z3.1, (ρ.1, ρ.2.1, ρ.2.2.1, ρ.2.2.2.1, ρ.2.2.2.2.1, ρ.2.2.2.2.2.1, ρ.2.2.2.2.2.2.1, ρ.2.2.2.2.2.2.2.1, ρ.2.2.2.2.2.2.2.2.1, ρ.2.2.2.2.2.2.2.2.2.1, x1, ρ.2.2.2.2.2.2.2.2.2.2.2.1, ρ.2.2.2.2.2.2.2.2.2.2.2.2.1, ρ.2.2.2.2.2.2.2.2.2.2.2.2.2), z3.2.1, z3.2.2.1, z3.2.2.2.1, z3.2.2.2.2))
abbrev rmX3_setLevel : Room := { frames := 4, cells := 0, slots := 0, locals := 124 }
set_option maxHeartbeats 4000000 in
set_option maxRecDepth 100000 in
theorem CX3_setLevel (l : Launch) (D : va_G) (aθ : Nat) (pθ_spare : Nat) (pθ_text : Nat) (aρ : Nat → Nat) (aν : Nat) (aS0 : Nat → Nat) (aS1 : Nat → Nat) (aS2 : Nat → Nat) (aS3 : Nat → Nat) (θ : Int32) (ρ : RS) (S0 : RS) (S1 : RS) (S2 : RS) (S3 : RS) (x1 : Int32) (r0 : Int32) (θ0 : Int32) (ρ0 : RS) (S00 : RS) (S10 : RS) (S20 : RS) (S30 : RS) (hF : FX3_setLevel θ ρ S0 S1 S2 S3 x1 = some (.inr (r0, θ0, ρ0, S00, S10, S20, S30))) : Ct l D yX3_setLevel cX3_setLevel 3 (some .int) rmX3_setLevel 0 0 [.ref aθ, .int x1] ([rkW D aθ (aρ 0) pθ_spare aν pθ_text θ, rmW D aρ ρ, tlW D aν aS0 aS1 aS2 aS3 S0 S1 S2 S3].flatten) (fun v w => v = some (.int r0) ∧ ∃ (bS0 : Nat → Nat) (bS1 : Nat → Nat) (bS2 : Nat → Nat) (bS3 : Nat → Nat), w = [rkW D aθ (aρ 0) pθ_spare aν pθ_text θ0, rmW D aρ ρ0, tlW D aν bS0 bS1 bS2 bS3 S00 S10 S20 S30].flatten) := by
  refine Ct.of (own := RX3) (lv := [(0, .ref aθ), (1, .int x1)]) (by decide +kernel) rfl (Nat.le_of_ble_eq_true rfl) rfl (fun X h hr => ?_)
  unfold FX3_setLevel at hF
  refine r_iload_n h 1 rfl rfl dX3_setLevel_0 ?_
  refine r_iconst (v := 0) h dX3_setLevel_1 (by decide) ?_
  refine r_sipush (v := 500) h dX3_setLevel_2 (by decide) ?_
  rcases o_bX hF with ⟨k_z1, e2, hF⟩ | ⟨z1, e2, hF⟩
  · cases hF
  · refine r_callSv (rest := []) h hd_X3_checkRange wm_360 dX3_setLevel_5 (CX3_checkRange l D x1 (0 : Int32) (500 : Int32) e2) rfl ⟨rfl, rfl⟩ ⟨by decide, by decide⟩ (Nat.le_of_ble_eq_true rfl) ⟨by decide, by decide⟩ rfl ?_
    refine r_aload_n h 0 rfl rfl dX3_setLevel_8 ?_
    obtain ⟨z3, e4, hF⟩ := o_bind hF
    refine r_callVB (N0 := 3) (q0 := 0) (rest := []) h [rkW D aθ (aρ 0) pθ_spare aν pθ_text θ, rmW D aρ ρ, tlW D aν aS0 aS1 aS2 aS3 S0 S1 S2 S3] [0, 1, 2] [] hd_X3_save wm_209 dX3_setLevel_9 (CX3_save l D aθ pθ_spare pθ_text aρ aν aS0 aS1 aS2 aS3 θ ρ S0 S1 S2 S3 z3.1 z3.2.1 z3.2.2.1 z3.2.2.2.1 z3.2.2.2.2 e4) rfl rfl rfl (by decide +kernel) rfl rfl rfl ⟨rfl, rfl⟩ ⟨by decide, by decide⟩ (Nat.le_of_ble_eq_true rfl) ⟨by decide, by decide⟩ rfl (fun v w' hp => ?_)
    obtain ⟨rfl, a5, a6, a7, a8, rfl⟩ := hp
    refine J.blk2 (ws' := [rkW D aθ (aρ 0) pθ_spare aν pθ_text z3.1, rmW D aρ ρ, tlW D aν a5 a6 a7 a8 z3.2.1 z3.2.2.1 z3.2.2.2.1 z3.2.2.2.2].flatten) 3 (pkB [rkW D aθ (aρ 0) pθ_spare aν pθ_text θ, rmW D aρ ρ, tlW D aν aS0 aS1 aS2 aS3 S0 S1 S2 S3] []) ([rkW D aθ (aρ 0) pθ_spare aν pθ_text z3.1, rmW D aρ ρ, tlW D aν a5 a6 a7 a8 z3.2.1 z3.2.2.1 z3.2.2.2.1 z3.2.2.2.2]) [0, 1, 2] rfl rfl rfl rfl (by decide +kernel) ?_
    refine r_aload_n h 0 rfl rfl dX3_setLevel_12 ?_
    refine r_get h fl_X3_12 0 rfl rfl dX3_setLevel_13 ?_
    refine r_get h fl_X3_55 1 rfl rfl dX3_setLevel_16 ?_
    refine r_istore_n (lv' := [(2, .int ρ.2.2.2.2.2.2.2.2.2.2.1), (0, .ref aθ), (1, .int x1)]) h rfl dX3_setLevel_19 (by decide) rfl ?_
    refine r_aload_n h 1 rfl rfl dX3_setLevel_20 ?_
    refine r_get h fl_X3_12 0 rfl rfl dX3_setLevel_21 ?_
    refine r_iload_n h 2 rfl rfl dX3_setLevel_24 ?_
    refine r_put (ws' := [rkW D aθ (aρ 0) pθ_spare aν pθ_text z3.1, rmW D aρ (ρ.1, ρ.2.1, ρ.2.2.1, ρ.2.2.2.1, ρ.2.2.2.2.1, ρ.2.2.2.2.2.1, ρ.2.2.2.2.2.2.1, ρ.2.2.2.2.2.2.2.1, ρ.2.2.2.2.2.2.2.2.1, ρ.2.2.2.2.2.2.2.2.2.1, x1, ρ.2.2.2.2.2.2.2.2.2.2.2.1, ρ.2.2.2.2.2.2.2.2.2.2.2.2.1, ρ.2.2.2.2.2.2.2.2.2.2.2.2.2), tlW D aν a5 a6 a7 a8 z3.2.1 z3.2.2.1 z3.2.2.2.1 z3.2.2.2.2].flatten) h fp_X3_55 1 rfl (Nat.le_of_ble_eq_true rfl) rfl rfl rfl dX3_setLevel_25 ?_
    refine r_iload_n h 0 rfl rfl dX3_setLevel_28 ?_
    cases hF
    exact r_iret h hr dX3_setLevel_29 ⟨rfl, a5, a6, a7, a8, rfl⟩

abbrev rmTX3_setLevel : Room := { frames := 7, cells := 1, slots := 6, locals := 124 }
set_option maxHeartbeats 4000000 in
set_option maxRecDepth 100000 in
theorem TX3_setLevel (l : Launch) (hl0 : l.stackTraces = false) (D : va_G) (aθ : Nat) (pθ_spare : Nat) (pθ_text : Nat) (aρ : Nat → Nat) (aν : Nat) (aS0 : Nat → Nat) (aS1 : Nat → Nat) (aS2 : Nat → Nat) (aS3 : Nat → Nat) (θ : Int32) (ρ : RS) (S0 : RS) (S1 : RS) (S2 : RS) (S3 : RS) (x1 : Int32) (k0 : Nat) (hF : FX3_setLevel θ ρ S0 S1 S2 S3 x1 = some (.inl k0)) : CtT l D yX3_setLevel cX3_setLevel 3 (some .int) rmTX3_setLevel 1 6 [.ref aθ, .int x1] ([rkW D aθ (aρ 0) pθ_spare aν pθ_text θ, rmW D aρ ρ, tlW D aν aS0 aS1 aS2 aS3 S0 S1 S2 S3].flatten) (exn k0) := by
  refine CtT.of (own := RX3) (lv := [(0, .ref aθ), (1, .int x1)]) (by decide +kernel) rfl (Nat.le_of_ble_eq_true rfl) rfl (fun X h hx ht => ?_)
  unfold FX3_setLevel at hF
  refine r_iload_n h 1 rfl rfl dX3_setLevel_0 ?_
  refine r_iconst (v := 0) h dX3_setLevel_1 (by decide) ?_
  refine r_sipush (v := 500) h dX3_setLevel_2 (by decide) ?_
  rcases o_bX hF with ⟨k_z1, e2, hF⟩ | ⟨z1, e2, hF⟩
  · cases hF
    exact r_callTSp (rest := []) h hx ht hd_X3_checkRange wm_360 dX3_setLevel_5 (TX3_checkRange l hl0 D x1 (0 : Int32) (500 : Int32) _ e2) rfl ⟨rfl, rfl⟩ ⟨by decide, by decide⟩ (Nat.le_of_ble_eq_true rfl) ⟨by decide, by decide⟩ ⟨by decide, by decide⟩ rfl
  · refine r_callSv (rest := []) h hd_X3_checkRange wm_360 dX3_setLevel_5 (CX3_checkRange l D x1 (0 : Int32) (500 : Int32) e2) rfl ⟨rfl, rfl⟩ ⟨by decide, by decide⟩ (Nat.le_of_ble_eq_true rfl) ⟨by decide, by decide⟩ rfl ?_
    refine r_aload_n h 0 rfl rfl dX3_setLevel_8 ?_
    obtain ⟨z3, e4, hF⟩ := o_bind hF
    refine r_callVB (N0 := 3) (q0 := 0) (rest := []) h [rkW D aθ (aρ 0) pθ_spare aν pθ_text θ, rmW D aρ ρ, tlW D aν aS0 aS1 aS2 aS3 S0 S1 S2 S3] [0, 1, 2] [] hd_X3_save wm_209 dX3_setLevel_9 (CX3_save l D aθ pθ_spare pθ_text aρ aν aS0 aS1 aS2 aS3 θ ρ S0 S1 S2 S3 z3.1 z3.2.1 z3.2.2.1 z3.2.2.2.1 z3.2.2.2.2 e4) rfl rfl rfl (by decide +kernel) rfl rfl rfl ⟨rfl, rfl⟩ ⟨by decide, by decide⟩ (Nat.le_of_ble_eq_true rfl) ⟨by decide, by decide⟩ rfl (fun v w' hp => ?_)
    obtain ⟨rfl, a5, a6, a7, a8, rfl⟩ := hp
    refine J.blk2 (ws' := [rkW D aθ (aρ 0) pθ_spare aν pθ_text z3.1, rmW D aρ ρ, tlW D aν a5 a6 a7 a8 z3.2.1 z3.2.2.1 z3.2.2.2.1 z3.2.2.2.2].flatten) 3 (pkB [rkW D aθ (aρ 0) pθ_spare aν pθ_text θ, rmW D aρ ρ, tlW D aν aS0 aS1 aS2 aS3 S0 S1 S2 S3] []) ([rkW D aθ (aρ 0) pθ_spare aν pθ_text z3.1, rmW D aρ ρ, tlW D aν a5 a6 a7 a8 z3.2.1 z3.2.2.1 z3.2.2.2.1 z3.2.2.2.2]) [0, 1, 2] rfl rfl rfl rfl (by decide +kernel) ?_
    refine r_aload_n h 0 rfl rfl dX3_setLevel_12 ?_
    refine r_get h fl_X3_12 0 rfl rfl dX3_setLevel_13 ?_
    refine r_get h fl_X3_55 1 rfl rfl dX3_setLevel_16 ?_
    refine r_istore_n (lv' := [(2, .int ρ.2.2.2.2.2.2.2.2.2.2.1), (0, .ref aθ), (1, .int x1)]) h rfl dX3_setLevel_19 (by decide) rfl ?_
    refine r_aload_n h 1 rfl rfl dX3_setLevel_20 ?_
    refine r_get h fl_X3_12 0 rfl rfl dX3_setLevel_21 ?_
    refine r_iload_n h 2 rfl rfl dX3_setLevel_24 ?_
    refine r_put (ws' := [rkW D aθ (aρ 0) pθ_spare aν pθ_text z3.1, rmW D aρ (ρ.1, ρ.2.1, ρ.2.2.1, ρ.2.2.2.1, ρ.2.2.2.2.1, ρ.2.2.2.2.2.1, ρ.2.2.2.2.2.2.1, ρ.2.2.2.2.2.2.2.1, ρ.2.2.2.2.2.2.2.2.1, ρ.2.2.2.2.2.2.2.2.2.1, x1, ρ.2.2.2.2.2.2.2.2.2.2.2.1, ρ.2.2.2.2.2.2.2.2.2.2.2.2.1, ρ.2.2.2.2.2.2.2.2.2.2.2.2.2), tlW D aν a5 a6 a7 a8 z3.2.1 z3.2.2.1 z3.2.2.2.1 z3.2.2.2.2].flatten) h fp_X3_55 1 rfl (Nat.le_of_ble_eq_true rfl) rfl rfl rfl dX3_setLevel_25 ?_
    refine r_iload_n h 0 rfl rfl dX3_setLevel_28 ?_
    cases hF

def FX3_addMachine (θ : Int32) (ρ : RS) (S0 : RS) (S1 : RS) (S2 : RS) (S3 : RS) (x1 : Int32) (x2 : Int32) (x3 : Int32) (x4 : Int32) : Option (Nat ⊕ (Int32 × Int32 × RS × RS × RS × RS × RS)) :=
  bX (FX3_checkRange x1 (1 : Int32) (4 : Int32)) fun z1 =>
  bX (FX3_checkRange x2 (1 : Int32) (99 : Int32)) fun z3 =>
  bX (FX3_checkRange x3 (0 : Int32) (2 : Int32)) fun z5 =>
  bX (FX3_checkRange x4 (0 : Int32) (3 : Int32)) fun z7 =>
  bX (FX3_checkSpace (12 : Int32) (6 : Int32) 72 (ρ.2.2.2.2.2.2.1, ρ.1)) fun z9 =>
  (FX3_save θ ρ S0 S1 S2 S3).bind fun z11 =>
  (FX2_addRow (12 : Int32) (6 : Int32) 72 (ρ.2.2.2.2.2.2.1, ρ.1)).bind fun z17 =>
  (FX2_put (12 : Int32) (6 : Int32) 72 (z17.2.1, z17.2.2) z17.1 (0 : Int32) x1).bind fun z19 =>
  (FX2_put (12 : Int32) (6 : Int32) 72 (z19.1, z19.2) z17.1 (1 : Int32) x2).bind fun z21 =>
  (FX2_put (12 : Int32) (6 : Int32) 72 (z21.1, z21.2) z17.1 (3 : Int32) x4).bind fun z23 =>
  (FX1_place (z23.2, ρ.2.1, ρ.2.2.1, ρ.2.2.2.1, ρ.2.2.2.2.1, ρ.2.2.2.2.2.1, z23.1, ρ.2.2.2.2.2.2.2.1, ρ.2.2.2.2.2.2.2.2.1, ρ.2.2.2.2.2.2.2.2.2.1, ρ.2.2.2.2.2.2.2.2.2.2.1, ρ.2.2.2.2.2.2.2.2.2.2.2.1, ρ.2.2.2.2.2.2.2.2.2.2.2.2.1, ρ.2.2.2.2.2.2.2.2.2.2.2.2.2) z17.1 (-1 : Int32) (-1 : Int32) x3).bind fun z25 =>
  some (.inr (z17.1, z11.1, z25, z11.2.1, z11.2.2.1, z11.2.2.2.1, z11.2.2.2.2))
abbrev rmX3_addMachine : Room := { frames := 4, cells := 0, slots := 0, locals := 124 }
set_option maxHeartbeats 4000000 in
set_option maxRecDepth 100000 in
theorem CX3_addMachine (l : Launch) (D : va_G) (aθ : Nat) (pθ_spare : Nat) (pθ_text : Nat) (aρ : Nat → Nat) (aν : Nat) (aS0 : Nat → Nat) (aS1 : Nat → Nat) (aS2 : Nat → Nat) (aS3 : Nat → Nat) (θ : Int32) (ρ : RS) (S0 : RS) (S1 : RS) (S2 : RS) (S3 : RS) (x1 : Int32) (x2 : Int32) (x3 : Int32) (x4 : Int32) (r0 : Int32) (θ0 : Int32) (ρ0 : RS) (S00 : RS) (S10 : RS) (S20 : RS) (S30 : RS) (hF : FX3_addMachine θ ρ S0 S1 S2 S3 x1 x2 x3 x4 = some (.inr (r0, θ0, ρ0, S00, S10, S20, S30))) : Ct l D yX3_addMachine cX3_addMachine 6 (some .int) rmX3_addMachine 0 0 [.ref aθ, .int x1, .int x2, .int x3, .int x4] ([rkW D aθ (aρ 0) pθ_spare aν pθ_text θ, rmW D aρ ρ, tlW D aν aS0 aS1 aS2 aS3 S0 S1 S2 S3].flatten) (fun v w => v = some (.int r0) ∧ ∃ (bS0 : Nat → Nat) (bS1 : Nat → Nat) (bS2 : Nat → Nat) (bS3 : Nat → Nat), w = [rkW D aθ (aρ 0) pθ_spare aν pθ_text θ0, rmW D aρ ρ0, tlW D aν bS0 bS1 bS2 bS3 S00 S10 S20 S30].flatten) := by
  refine Ct.of (own := RX3) (lv := [(0, .ref aθ), (1, .int x1), (2, .int x2), (3, .int x3), (4, .int x4)]) (by decide +kernel) rfl (Nat.le_of_ble_eq_true rfl) rfl (fun X h hr => ?_)
  unfold FX3_addMachine at hF
  refine r_iload_n h 1 rfl rfl dX3_addMachine_0 ?_
  refine r_iconst (v := 1) h dX3_addMachine_1 (by decide) ?_
  refine r_iconst (v := 4) h dX3_addMachine_2 (by decide) ?_
  rcases o_bX hF with ⟨k_z1, e2, hF⟩ | ⟨z1, e2, hF⟩
  · cases hF
  · refine r_callSv (rest := []) h hd_X3_checkRange wm_360 dX3_addMachine_3 (CX3_checkRange l D x1 (1 : Int32) (4 : Int32) e2) rfl ⟨rfl, rfl⟩ ⟨by decide, by decide⟩ (Nat.le_of_ble_eq_true rfl) ⟨by decide, by decide⟩ rfl ?_
    refine r_iload_n h 2 rfl rfl dX3_addMachine_6 ?_
    refine r_iconst (v := 1) h dX3_addMachine_7 (by decide) ?_
    refine r_bipush (v := 99) h dX3_addMachine_8 (by decide) ?_
    rcases o_bX hF with ⟨k_z3, e4, hF⟩ | ⟨z3, e4, hF⟩
    · cases hF
    · refine r_callSv (rest := []) h hd_X3_checkRange wm_360 dX3_addMachine_10 (CX3_checkRange l D x2 (1 : Int32) (99 : Int32) e4) rfl ⟨rfl, rfl⟩ ⟨by decide, by decide⟩ (Nat.le_of_ble_eq_true rfl) ⟨by decide, by decide⟩ rfl ?_
      refine r_iload_n h 3 rfl rfl dX3_addMachine_13 ?_
      refine r_iconst (v := 0) h dX3_addMachine_14 (by decide) ?_
      refine r_iconst (v := 2) h dX3_addMachine_15 (by decide) ?_
      rcases o_bX hF with ⟨k_z5, e6, hF⟩ | ⟨z5, e6, hF⟩
      · cases hF
      · refine r_callSv (rest := []) h hd_X3_checkRange wm_360 dX3_addMachine_16 (CX3_checkRange l D x3 (0 : Int32) (2 : Int32) e6) rfl ⟨rfl, rfl⟩ ⟨by decide, by decide⟩ (Nat.le_of_ble_eq_true rfl) ⟨by decide, by decide⟩ rfl ?_
        refine r_iload h 4 rfl dX3_addMachine_19 ?_
        refine r_iconst (v := 0) h dX3_addMachine_21 (by decide) ?_
        refine r_iconst (v := 3) h dX3_addMachine_22 (by decide) ?_
        rcases o_bX hF with ⟨k_z7, e8, hF⟩ | ⟨z7, e8, hF⟩
        · cases hF
        · refine r_callSv (rest := []) h hd_X3_checkRange wm_360 dX3_addMachine_23 (CX3_checkRange l D x4 (0 : Int32) (3 : Int32) e8) rfl ⟨rfl, rfl⟩ ⟨by decide, by decide⟩ (Nat.le_of_ble_eq_true rfl) ⟨by decide, by decide⟩ rfl ?_
          refine r_aload_n h 0 rfl rfl dX3_addMachine_26 ?_
          refine r_get h fl_X3_12 0 rfl rfl dX3_addMachine_27 ?_
          refine r_get h fl_X3_58 1 rfl rfl dX3_addMachine_30 ?_
          rcases o_bX hF with ⟨k_z9, e10, hF⟩ | ⟨z9, e10, hF⟩
          · cases hF
          · refine r_callSB (N0 := 13) (rest := []) h (bk (rkW D aθ (aρ 0) pθ_spare aν pθ_text θ ++ rmW D aρ ρ) ++ [tlW D aν aS0 aS1 aS2 aS3 S0 S1 S2 S3]) [2, 8] [0, 1, 3, 4, 5, 6, 7, 9, 10, 11, 12] hd_X3_checkSpace wm_557 dX3_addMachine_33 (CX3_checkSpace l D (aρ 1) (aρ 7) (12 : Int32) (6 : Int32) 72 (ρ.2.2.2.2.2.2.1, ρ.1) e10) rfl rfl rfl (by decide +kernel) rfl ⟨rfl, rfl⟩ ⟨by decide, by decide⟩ (Nat.le_of_ble_eq_true rfl) ⟨by decide, by decide⟩ rfl (fun v w' hp => ?_)
            obtain ⟨rfl, rfl⟩ := hp
            refine J.blk2 (ws' := [rkW D aθ (aρ 0) pθ_spare aν pθ_text θ, rmW D aρ ρ, tlW D aν aS0 aS1 aS2 aS3 S0 S1 S2 S3].flatten) 13 (pkB (bk (rkW D aθ (aρ 0) pθ_spare aν pθ_text θ ++ rmW D aρ ρ) ++ [tlW D aν aS0 aS1 aS2 aS3 S0 S1 S2 S3]) [0, 1, 3, 4, 5, 6, 7, 9, 10, 11, 12]) (bk (tbW D (aρ 1) (aρ 7) (12 : Int32) (6 : Int32) 72 (ρ.2.2.2.2.2.2.1, ρ.1))) [0, 1, 11, 2, 3, 4, 5, 6, 12, 7, 8, 9, 10] rfl rfl rfl rfl (by decide +kernel) ?_
            refine r_aload_n h 0 rfl rfl dX3_addMachine_36 ?_
            obtain ⟨z11, e12, hF⟩ := o_bind hF
            refine r_callVB (N0 := 3) (q0 := 0) (rest := []) h [rkW D aθ (aρ 0) pθ_spare aν pθ_text θ, rmW D aρ ρ, tlW D aν aS0 aS1 aS2 aS3 S0 S1 S2 S3] [0, 1, 2] [] hd_X3_save wm_209 dX3_addMachine_37 (CX3_save l D aθ pθ_spare pθ_text aρ aν aS0 aS1 aS2 aS3 θ ρ S0 S1 S2 S3 z11.1 z11.2.1 z11.2.2.1 z11.2.2.2.1 z11.2.2.2.2 e12) rfl rfl rfl (by decide +kernel) rfl rfl rfl ⟨rfl, rfl⟩ ⟨by decide, by decide⟩ (Nat.le_of_ble_eq_true rfl) ⟨by decide, by decide⟩ rfl (fun v w' hp => ?_)
            obtain ⟨rfl, a13, a14, a15, a16, rfl⟩ := hp
            refine J.blk2 (ws' := [rkW D aθ (aρ 0) pθ_spare aν pθ_text z11.1, rmW D aρ ρ, tlW D aν a13 a14 a15 a16 z11.2.1 z11.2.2.1 z11.2.2.2.1 z11.2.2.2.2].flatten) 3 (pkB [rkW D aθ (aρ 0) pθ_spare aν pθ_text θ, rmW D aρ ρ, tlW D aν aS0 aS1 aS2 aS3 S0 S1 S2 S3] []) ([rkW D aθ (aρ 0) pθ_spare aν pθ_text z11.1, rmW D aρ ρ, tlW D aν a13 a14 a15 a16 z11.2.1 z11.2.2.1 z11.2.2.2.1 z11.2.2.2.2]) [0, 1, 2] rfl rfl rfl rfl (by decide +kernel) ?_
            refine r_aload_n h 0 rfl rfl dX3_addMachine_40 ?_
            refine r_get h fl_X3_12 0 rfl rfl dX3_addMachine_41 ?_
            refine r_get h fl_X3_58 1 rfl rfl dX3_addMachine_44 ?_
            obtain ⟨z17, e18, hF⟩ := o_bind hF
            refine r_callVB (N0 := 13) (q0 := 0) (rest := []) h (bk (rkW D aθ (aρ 0) pθ_spare aν pθ_text z11.1 ++ rmW D aρ ρ) ++ [tlW D aν a13 a14 a15 a16 z11.2.1 z11.2.2.1 z11.2.2.2.1 z11.2.2.2.2]) [2, 8] [0, 1, 3, 4, 5, 6, 7, 9, 10, 11, 12] hd_X2_addRow wm_577 dX3_addMachine_47 (CX2_addRow l D (aρ 1) (aρ 7) (12 : Int32) (6 : Int32) 72 (ρ.2.2.2.2.2.2.1, ρ.1) z17.1 z17.2 e18) rfl rfl rfl (by decide +kernel) rfl rfl rfl ⟨rfl, rfl⟩ ⟨by decide, by decide⟩ (Nat.le_of_ble_eq_true rfl) ⟨by decide, by decide⟩ rfl (fun v w' hp => ?_)
            obtain ⟨rfl, rfl⟩ := hp
            refine J.blk2 (ws' := [rkW D aθ (aρ 0) pθ_spare aν pθ_text z11.1, rmW D aρ (z17.2.2, ρ.2.1, ρ.2.2.1, ρ.2.2.2.1, ρ.2.2.2.2.1, ρ.2.2.2.2.2.1, z17.2.1, ρ.2.2.2.2.2.2.2.1, ρ.2.2.2.2.2.2.2.2.1, ρ.2.2.2.2.2.2.2.2.2.1, ρ.2.2.2.2.2.2.2.2.2.2.1, ρ.2.2.2.2.2.2.2.2.2.2.2.1, ρ.2.2.2.2.2.2.2.2.2.2.2.2.1, ρ.2.2.2.2.2.2.2.2.2.2.2.2.2), tlW D aν a13 a14 a15 a16 z11.2.1 z11.2.2.1 z11.2.2.2.1 z11.2.2.2.2].flatten) 13 (pkB (bk (rkW D aθ (aρ 0) pθ_spare aν pθ_text z11.1 ++ rmW D aρ ρ) ++ [tlW D aν a13 a14 a15 a16 z11.2.1 z11.2.2.1 z11.2.2.2.1 z11.2.2.2.2]) [0, 1, 3, 4, 5, 6, 7, 9, 10, 11, 12]) (bk (tbW D (aρ 1) (aρ 7) (12 : Int32) (6 : Int32) 72 (z17.2.1, z17.2.2))) [0, 1, 11, 2, 3, 4, 5, 6, 12, 7, 8, 9, 10] rfl rfl rfl rfl (by decide +kernel) ?_
            refine r_istore (lv' := [(5, .int z17.1), (0, .ref aθ), (1, .int x1), (2, .int x2), (3, .int x3), (4, .int x4)]) h dX3_addMachine_50 (by decide) rfl ?_
            refine r_aload_n h 1 rfl rfl dX3_addMachine_52 ?_
            refine r_get h fl_X3_12 0 rfl rfl dX3_addMachine_53 ?_
            refine r_get h fl_X3_58 1 rfl rfl dX3_addMachine_56 ?_
            refine r_iload h 0 rfl dX3_addMachine_59 ?_
            refine r_iconst (v := 0) h dX3_addMachine_61 (by decide) ?_
            refine r_iload_n h 2 rfl rfl dX3_addMachine_62 ?_
            obtain ⟨z19, e20, hF⟩ := o_bind hF
            refine r_callVB (N0 := 13) (q0 := 0) (rest := []) h (bk (rkW D aθ (aρ 0) pθ_spare aν pθ_text z11.1 ++ rmW D aρ (z17.2.2, ρ.2.1, ρ.2.2.1, ρ.2.2.2.1, ρ.2.2.2.2.1, ρ.2.2.2.2.2.1, z17.2.1, ρ.2.2.2.2.2.2.2.1, ρ.2.2.2.2.2.2.2.2.1, ρ.2.2.2.2.2.2.2.2.2.1, ρ.2.2.2.2.2.2.2.2.2.2.1, ρ.2.2.2.2.2.2.2.2.2.2.2.1, ρ.2.2.2.2.2.2.2.2.2.2.2.2.1, ρ.2.2.2.2.2.2.2.2.2.2.2.2.2)) ++ [tlW D aν a13 a14 a15 a16 z11.2.1 z11.2.2.1 z11.2.2.2.1 z11.2.2.2.2]) [2, 8] [0, 1, 3, 4, 5, 6, 7, 9, 10, 11, 12] hd_X2_put wm_578 dX3_addMachine_63 (CX2_put l D (aρ 1) (aρ 7) (12 : Int32) (6 : Int32) 72 (z17.2.1, z17.2.2) z17.1 (0 : Int32) x1 z19 e20) rfl rfl rfl (by decide +kernel) rfl rfl rfl ⟨rfl, rfl⟩ ⟨by decide, by decide⟩ (Nat.le_of_ble_eq_true rfl) ⟨by decide, by decide⟩ rfl (fun v w' hp => ?_)
            obtain ⟨rfl, rfl⟩ := hp
            refine J.blk2 (ws' := [rkW D aθ (aρ 0) pθ_spare aν pθ_text z11.1, rmW D aρ (z19.2, ρ.2.1, ρ.2.2.1, ρ.2.2.2.1, ρ.2.2.2.2.1, ρ.2.2.2.2.2.1, z19.1, ρ.2.2.2.2.2.2.2.1, ρ.2.2.2.2.2.2.2.2.1, ρ.2.2.2.2.2.2.2.2.2.1, ρ.2.2.2.2.2.2.2.2.2.2.1, ρ.2.2.2.2.2.2.2.2.2.2.2.1, ρ.2.2.2.2.2.2.2.2.2.2.2.2.1, ρ.2.2.2.2.2.2.2.2.2.2.2.2.2), tlW D aν a13 a14 a15 a16 z11.2.1 z11.2.2.1 z11.2.2.2.1 z11.2.2.2.2].flatten) 13 (pkB (bk (rkW D aθ (aρ 0) pθ_spare aν pθ_text z11.1 ++ rmW D aρ (z17.2.2, ρ.2.1, ρ.2.2.1, ρ.2.2.2.1, ρ.2.2.2.2.1, ρ.2.2.2.2.2.1, z17.2.1, ρ.2.2.2.2.2.2.2.1, ρ.2.2.2.2.2.2.2.2.1, ρ.2.2.2.2.2.2.2.2.2.1, ρ.2.2.2.2.2.2.2.2.2.2.1, ρ.2.2.2.2.2.2.2.2.2.2.2.1, ρ.2.2.2.2.2.2.2.2.2.2.2.2.1, ρ.2.2.2.2.2.2.2.2.2.2.2.2.2)) ++ [tlW D aν a13 a14 a15 a16 z11.2.1 z11.2.2.1 z11.2.2.2.1 z11.2.2.2.2]) [0, 1, 3, 4, 5, 6, 7, 9, 10, 11, 12]) (bk (tbW D (aρ 1) (aρ 7) (12 : Int32) (6 : Int32) 72 (z19.1, z19.2))) [0, 1, 11, 2, 3, 4, 5, 6, 12, 7, 8, 9, 10] rfl rfl rfl rfl (by decide +kernel) ?_
            refine r_aload_n h 1 rfl rfl dX3_addMachine_66 ?_
            refine r_get h fl_X3_12 0 rfl rfl dX3_addMachine_67 ?_
            refine r_get h fl_X3_58 1 rfl rfl dX3_addMachine_70 ?_
            refine r_iload h 0 rfl dX3_addMachine_73 ?_
            refine r_iconst (v := 1) h dX3_addMachine_75 (by decide) ?_
            refine r_iload_n h 3 rfl rfl dX3_addMachine_76 ?_
            obtain ⟨z21, e22, hF⟩ := o_bind hF
            refine r_callVB (N0 := 13) (q0 := 0) (rest := []) h (bk (rkW D aθ (aρ 0) pθ_spare aν pθ_text z11.1 ++ rmW D aρ (z19.2, ρ.2.1, ρ.2.2.1, ρ.2.2.2.1, ρ.2.2.2.2.1, ρ.2.2.2.2.2.1, z19.1, ρ.2.2.2.2.2.2.2.1, ρ.2.2.2.2.2.2.2.2.1, ρ.2.2.2.2.2.2.2.2.2.1, ρ.2.2.2.2.2.2.2.2.2.2.1, ρ.2.2.2.2.2.2.2.2.2.2.2.1, ρ.2.2.2.2.2.2.2.2.2.2.2.2.1, ρ.2.2.2.2.2.2.2.2.2.2.2.2.2)) ++ [tlW D aν a13 a14 a15 a16 z11.2.1 z11.2.2.1 z11.2.2.2.1 z11.2.2.2.2]) [2, 8] [0, 1, 3, 4, 5, 6, 7, 9, 10, 11, 12] hd_X2_put wm_578 dX3_addMachine_77 (CX2_put l D (aρ 1) (aρ 7) (12 : Int32) (6 : Int32) 72 (z19.1, z19.2) z17.1 (1 : Int32) x2 z21 e22) rfl rfl rfl (by decide +kernel) rfl rfl rfl ⟨rfl, rfl⟩ ⟨by decide, by decide⟩ (Nat.le_of_ble_eq_true rfl) ⟨by decide, by decide⟩ rfl (fun v w' hp => ?_)
            obtain ⟨rfl, rfl⟩ := hp
            refine J.blk2 (ws' := [rkW D aθ (aρ 0) pθ_spare aν pθ_text z11.1, rmW D aρ (z21.2, ρ.2.1, ρ.2.2.1, ρ.2.2.2.1, ρ.2.2.2.2.1, ρ.2.2.2.2.2.1, z21.1, ρ.2.2.2.2.2.2.2.1, ρ.2.2.2.2.2.2.2.2.1, ρ.2.2.2.2.2.2.2.2.2.1, ρ.2.2.2.2.2.2.2.2.2.2.1, ρ.2.2.2.2.2.2.2.2.2.2.2.1, ρ.2.2.2.2.2.2.2.2.2.2.2.2.1, ρ.2.2.2.2.2.2.2.2.2.2.2.2.2), tlW D aν a13 a14 a15 a16 z11.2.1 z11.2.2.1 z11.2.2.2.1 z11.2.2.2.2].flatten) 13 (pkB (bk (rkW D aθ (aρ 0) pθ_spare aν pθ_text z11.1 ++ rmW D aρ (z19.2, ρ.2.1, ρ.2.2.1, ρ.2.2.2.1, ρ.2.2.2.2.1, ρ.2.2.2.2.2.1, z19.1, ρ.2.2.2.2.2.2.2.1, ρ.2.2.2.2.2.2.2.2.1, ρ.2.2.2.2.2.2.2.2.2.1, ρ.2.2.2.2.2.2.2.2.2.2.1, ρ.2.2.2.2.2.2.2.2.2.2.2.1, ρ.2.2.2.2.2.2.2.2.2.2.2.2.1, ρ.2.2.2.2.2.2.2.2.2.2.2.2.2)) ++ [tlW D aν a13 a14 a15 a16 z11.2.1 z11.2.2.1 z11.2.2.2.1 z11.2.2.2.2]) [0, 1, 3, 4, 5, 6, 7, 9, 10, 11, 12]) (bk (tbW D (aρ 1) (aρ 7) (12 : Int32) (6 : Int32) 72 (z21.1, z21.2))) [0, 1, 11, 2, 3, 4, 5, 6, 12, 7, 8, 9, 10] rfl rfl rfl rfl (by decide +kernel) ?_
            refine r_aload_n h 1 rfl rfl dX3_addMachine_80 ?_
            refine r_get h fl_X3_12 0 rfl rfl dX3_addMachine_81 ?_
            refine r_get h fl_X3_58 1 rfl rfl dX3_addMachine_84 ?_
            refine r_iload h 0 rfl dX3_addMachine_87 ?_
            refine r_iconst (v := 3) h dX3_addMachine_89 (by decide) ?_
            refine r_iload h 5 rfl dX3_addMachine_90 ?_
            obtain ⟨z23, e24, hF⟩ := o_bind hF
            refine r_callVB (N0 := 13) (q0 := 0) (rest := []) h (bk (rkW D aθ (aρ 0) pθ_spare aν pθ_text z11.1 ++ rmW D aρ (z21.2, ρ.2.1, ρ.2.2.1, ρ.2.2.2.1, ρ.2.2.2.2.1, ρ.2.2.2.2.2.1, z21.1, ρ.2.2.2.2.2.2.2.1, ρ.2.2.2.2.2.2.2.2.1, ρ.2.2.2.2.2.2.2.2.2.1, ρ.2.2.2.2.2.2.2.2.2.2.1, ρ.2.2.2.2.2.2.2.2.2.2.2.1, ρ.2.2.2.2.2.2.2.2.2.2.2.2.1, ρ.2.2.2.2.2.2.2.2.2.2.2.2.2)) ++ [tlW D aν a13 a14 a15 a16 z11.2.1 z11.2.2.1 z11.2.2.2.1 z11.2.2.2.2]) [2, 8] [0, 1, 3, 4, 5, 6, 7, 9, 10, 11, 12] hd_X2_put wm_578 dX3_addMachine_92 (CX2_put l D (aρ 1) (aρ 7) (12 : Int32) (6 : Int32) 72 (z21.1, z21.2) z17.1 (3 : Int32) x4 z23 e24) rfl rfl rfl (by decide +kernel) rfl rfl rfl ⟨rfl, rfl⟩ ⟨by decide, by decide⟩ (Nat.le_of_ble_eq_true rfl) ⟨by decide, by decide⟩ rfl (fun v w' hp => ?_)
            obtain ⟨rfl, rfl⟩ := hp
            refine J.blk2 (ws' := [rkW D aθ (aρ 0) pθ_spare aν pθ_text z11.1, rmW D aρ (z23.2, ρ.2.1, ρ.2.2.1, ρ.2.2.2.1, ρ.2.2.2.2.1, ρ.2.2.2.2.2.1, z23.1, ρ.2.2.2.2.2.2.2.1, ρ.2.2.2.2.2.2.2.2.1, ρ.2.2.2.2.2.2.2.2.2.1, ρ.2.2.2.2.2.2.2.2.2.2.1, ρ.2.2.2.2.2.2.2.2.2.2.2.1, ρ.2.2.2.2.2.2.2.2.2.2.2.2.1, ρ.2.2.2.2.2.2.2.2.2.2.2.2.2), tlW D aν a13 a14 a15 a16 z11.2.1 z11.2.2.1 z11.2.2.2.1 z11.2.2.2.2].flatten) 13 (pkB (bk (rkW D aθ (aρ 0) pθ_spare aν pθ_text z11.1 ++ rmW D aρ (z21.2, ρ.2.1, ρ.2.2.1, ρ.2.2.2.1, ρ.2.2.2.2.1, ρ.2.2.2.2.2.1, z21.1, ρ.2.2.2.2.2.2.2.1, ρ.2.2.2.2.2.2.2.2.1, ρ.2.2.2.2.2.2.2.2.2.1, ρ.2.2.2.2.2.2.2.2.2.2.1, ρ.2.2.2.2.2.2.2.2.2.2.2.1, ρ.2.2.2.2.2.2.2.2.2.2.2.2.1, ρ.2.2.2.2.2.2.2.2.2.2.2.2.2)) ++ [tlW D aν a13 a14 a15 a16 z11.2.1 z11.2.2.1 z11.2.2.2.1 z11.2.2.2.2]) [0, 1, 3, 4, 5, 6, 7, 9, 10, 11, 12]) (bk (tbW D (aρ 1) (aρ 7) (12 : Int32) (6 : Int32) 72 (z23.1, z23.2))) [0, 1, 11, 2, 3, 4, 5, 6, 12, 7, 8, 9, 10] rfl rfl rfl rfl (by decide +kernel) ?_
            refine r_aload_n h 1 rfl rfl dX3_addMachine_95 ?_
            refine r_get h fl_X3_12 0 rfl rfl dX3_addMachine_96 ?_
            refine r_iload h 0 rfl dX3_addMachine_99 ?_
            refine r_iconst (v := -1) h dX3_addMachine_101 (by decide) ?_
            refine r_iconst (v := -1) h dX3_addMachine_102 (by decide) ?_
            refine r_iload_n h 4 rfl rfl dX3_addMachine_103 ?_
            obtain ⟨z25, e26, hF⟩ := o_bind hF
            refine r_callVB (N0 := 3) (q0 := 0) (rest := []) h [rkW D aθ (aρ 0) pθ_spare aν pθ_text z11.1, rmW D aρ (z23.2, ρ.2.1, ρ.2.2.1, ρ.2.2.2.1, ρ.2.2.2.2.1, ρ.2.2.2.2.2.1, z23.1, ρ.2.2.2.2.2.2.2.1, ρ.2.2.2.2.2.2.2.2.1, ρ.2.2.2.2.2.2.2.2.2.1, ρ.2.2.2.2.2.2.2.2.2.2.1, ρ.2.2.2.2.2.2.2.2.2.2.2.1, ρ.2.2.2.2.2.2.2.2.2.2.2.2.1, ρ.2.2.2.2.2.2.2.2.2.2.2.2.2), tlW D aν a13 a14 a15 a16 z11.2.1 z11.2.2.1 z11.2.2.2.1 z11.2.2.2.2] [1] [0, 2] hd_X1_place wm_579 dX3_addMachine_104 (CX1_place l D aρ (z23.2, ρ.2.1, ρ.2.2.1, ρ.2.2.2.1, ρ.2.2.2.2.1, ρ.2.2.2.2.2.1, z23.1, ρ.2.2.2.2.2.2.2.1, ρ.2.2.2.2.2.2.2.2.1, ρ.2.2.2.2.2.2.2.2.2.1, ρ.2.2.2.2.2.2.2.2.2.2.1, ρ.2.2.2.2.2.2.2.2.2.2.2.1, ρ.2.2.2.2.2.2.2.2.2.2.2.2.1, ρ.2.2.2.2.2.2.2.2.2.2.2.2.2) z17.1 (-1 : Int32) (-1 : Int32) x3 z25 e26) rfl rfl rfl (by decide +kernel) rfl rfl rfl ⟨rfl, rfl⟩ ⟨by decide, by decide⟩ (Nat.le_of_ble_eq_true rfl) ⟨by decide, by decide⟩ rfl (fun v w' hp => ?_)
            obtain ⟨rfl, rfl⟩ := hp
            refine J.blk2 (ws' := [rkW D aθ (aρ 0) pθ_spare aν pθ_text z11.1, rmW D aρ z25, tlW D aν a13 a14 a15 a16 z11.2.1 z11.2.2.1 z11.2.2.2.1 z11.2.2.2.2].flatten) 3 (pkB [rkW D aθ (aρ 0) pθ_spare aν pθ_text z11.1, rmW D aρ (z23.2, ρ.2.1, ρ.2.2.1, ρ.2.2.2.1, ρ.2.2.2.2.1, ρ.2.2.2.2.2.1, z23.1, ρ.2.2.2.2.2.2.2.1, ρ.2.2.2.2.2.2.2.2.1, ρ.2.2.2.2.2.2.2.2.2.1, ρ.2.2.2.2.2.2.2.2.2.2.1, ρ.2.2.2.2.2.2.2.2.2.2.2.1, ρ.2.2.2.2.2.2.2.2.2.2.2.2.1, ρ.2.2.2.2.2.2.2.2.2.2.2.2.2), tlW D aν a13 a14 a15 a16 z11.2.1 z11.2.2.1 z11.2.2.2.1 z11.2.2.2.2] [0, 2]) ([rmW D aρ z25]) [0, 2, 1] rfl rfl rfl rfl (by decide +kernel) ?_
            refine r_iload h 0 rfl dX3_addMachine_107 ?_
            cases hF
            exact r_iret h hr dX3_addMachine_109 ⟨rfl, a13, a14, a15, a16, rfl⟩

abbrev rmTX3_addMachine : Room := { frames := 7, cells := 1, slots := 6, locals := 124 }
set_option maxHeartbeats 4000000 in
set_option maxRecDepth 100000 in
theorem TX3_addMachine (l : Launch) (hl0 : l.stackTraces = false) (D : va_G) (aθ : Nat) (pθ_spare : Nat) (pθ_text : Nat) (aρ : Nat → Nat) (aν : Nat) (aS0 : Nat → Nat) (aS1 : Nat → Nat) (aS2 : Nat → Nat) (aS3 : Nat → Nat) (θ : Int32) (ρ : RS) (S0 : RS) (S1 : RS) (S2 : RS) (S3 : RS) (x1 : Int32) (x2 : Int32) (x3 : Int32) (x4 : Int32) (k0 : Nat) (hF : FX3_addMachine θ ρ S0 S1 S2 S3 x1 x2 x3 x4 = some (.inl k0)) : CtT l D yX3_addMachine cX3_addMachine 6 (some .int) rmTX3_addMachine 1 6 [.ref aθ, .int x1, .int x2, .int x3, .int x4] ([rkW D aθ (aρ 0) pθ_spare aν pθ_text θ, rmW D aρ ρ, tlW D aν aS0 aS1 aS2 aS3 S0 S1 S2 S3].flatten) (exn k0) := by
  refine CtT.of (own := RX3) (lv := [(0, .ref aθ), (1, .int x1), (2, .int x2), (3, .int x3), (4, .int x4)]) (by decide +kernel) rfl (Nat.le_of_ble_eq_true rfl) rfl (fun X h hx ht => ?_)
  unfold FX3_addMachine at hF
  refine r_iload_n h 1 rfl rfl dX3_addMachine_0 ?_
  refine r_iconst (v := 1) h dX3_addMachine_1 (by decide) ?_
  refine r_iconst (v := 4) h dX3_addMachine_2 (by decide) ?_
  rcases o_bX hF with ⟨k_z1, e2, hF⟩ | ⟨z1, e2, hF⟩
  · cases hF
    exact r_callTSp (rest := []) h hx ht hd_X3_checkRange wm_360 dX3_addMachine_3 (TX3_checkRange l hl0 D x1 (1 : Int32) (4 : Int32) _ e2) rfl ⟨rfl, rfl⟩ ⟨by decide, by decide⟩ (Nat.le_of_ble_eq_true rfl) ⟨by decide, by decide⟩ ⟨by decide, by decide⟩ rfl
  · refine r_callSv (rest := []) h hd_X3_checkRange wm_360 dX3_addMachine_3 (CX3_checkRange l D x1 (1 : Int32) (4 : Int32) e2) rfl ⟨rfl, rfl⟩ ⟨by decide, by decide⟩ (Nat.le_of_ble_eq_true rfl) ⟨by decide, by decide⟩ rfl ?_
    refine r_iload_n h 2 rfl rfl dX3_addMachine_6 ?_
    refine r_iconst (v := 1) h dX3_addMachine_7 (by decide) ?_
    refine r_bipush (v := 99) h dX3_addMachine_8 (by decide) ?_
    rcases o_bX hF with ⟨k_z3, e4, hF⟩ | ⟨z3, e4, hF⟩
    · cases hF
      exact r_callTSp (rest := []) h hx ht hd_X3_checkRange wm_360 dX3_addMachine_10 (TX3_checkRange l hl0 D x2 (1 : Int32) (99 : Int32) _ e4) rfl ⟨rfl, rfl⟩ ⟨by decide, by decide⟩ (Nat.le_of_ble_eq_true rfl) ⟨by decide, by decide⟩ ⟨by decide, by decide⟩ rfl
    · refine r_callSv (rest := []) h hd_X3_checkRange wm_360 dX3_addMachine_10 (CX3_checkRange l D x2 (1 : Int32) (99 : Int32) e4) rfl ⟨rfl, rfl⟩ ⟨by decide, by decide⟩ (Nat.le_of_ble_eq_true rfl) ⟨by decide, by decide⟩ rfl ?_
      refine r_iload_n h 3 rfl rfl dX3_addMachine_13 ?_
      refine r_iconst (v := 0) h dX3_addMachine_14 (by decide) ?_
      refine r_iconst (v := 2) h dX3_addMachine_15 (by decide) ?_
      rcases o_bX hF with ⟨k_z5, e6, hF⟩ | ⟨z5, e6, hF⟩
      · cases hF
        exact r_callTSp (rest := []) h hx ht hd_X3_checkRange wm_360 dX3_addMachine_16 (TX3_checkRange l hl0 D x3 (0 : Int32) (2 : Int32) _ e6) rfl ⟨rfl, rfl⟩ ⟨by decide, by decide⟩ (Nat.le_of_ble_eq_true rfl) ⟨by decide, by decide⟩ ⟨by decide, by decide⟩ rfl
      · refine r_callSv (rest := []) h hd_X3_checkRange wm_360 dX3_addMachine_16 (CX3_checkRange l D x3 (0 : Int32) (2 : Int32) e6) rfl ⟨rfl, rfl⟩ ⟨by decide, by decide⟩ (Nat.le_of_ble_eq_true rfl) ⟨by decide, by decide⟩ rfl ?_
        refine r_iload h 4 rfl dX3_addMachine_19 ?_
        refine r_iconst (v := 0) h dX3_addMachine_21 (by decide) ?_
        refine r_iconst (v := 3) h dX3_addMachine_22 (by decide) ?_
        rcases o_bX hF with ⟨k_z7, e8, hF⟩ | ⟨z7, e8, hF⟩
        · cases hF
          exact r_callTSp (rest := []) h hx ht hd_X3_checkRange wm_360 dX3_addMachine_23 (TX3_checkRange l hl0 D x4 (0 : Int32) (3 : Int32) _ e8) rfl ⟨rfl, rfl⟩ ⟨by decide, by decide⟩ (Nat.le_of_ble_eq_true rfl) ⟨by decide, by decide⟩ ⟨by decide, by decide⟩ rfl
        · refine r_callSv (rest := []) h hd_X3_checkRange wm_360 dX3_addMachine_23 (CX3_checkRange l D x4 (0 : Int32) (3 : Int32) e8) rfl ⟨rfl, rfl⟩ ⟨by decide, by decide⟩ (Nat.le_of_ble_eq_true rfl) ⟨by decide, by decide⟩ rfl ?_
          refine r_aload_n h 0 rfl rfl dX3_addMachine_26 ?_
          refine r_get h fl_X3_12 0 rfl rfl dX3_addMachine_27 ?_
          refine r_get h fl_X3_58 1 rfl rfl dX3_addMachine_30 ?_
          rcases o_bX hF with ⟨k_z9, e10, hF⟩ | ⟨z9, e10, hF⟩
          · cases hF
            exact r_callTSB (N0 := 13) (rest := []) h hx ht (bk (rkW D aθ (aρ 0) pθ_spare aν pθ_text θ ++ rmW D aρ ρ) ++ [tlW D aν aS0 aS1 aS2 aS3 S0 S1 S2 S3]) [2, 8] [0, 1, 3, 4, 5, 6, 7, 9, 10, 11, 12] hd_X3_checkSpace wm_557 dX3_addMachine_33 (TX3_checkSpace l hl0 D (aρ 1) (aρ 7) (12 : Int32) (6 : Int32) 72 (ρ.2.2.2.2.2.2.1, ρ.1) _ e10) rfl rfl rfl (by decide +kernel) rfl ⟨rfl, rfl⟩ ⟨by decide, by decide⟩ (Nat.le_of_ble_eq_true rfl) ⟨by decide, by decide⟩ ⟨by decide, by decide⟩ rfl
          · refine r_callSB (N0 := 13) (rest := []) h (bk (rkW D aθ (aρ 0) pθ_spare aν pθ_text θ ++ rmW D aρ ρ) ++ [tlW D aν aS0 aS1 aS2 aS3 S0 S1 S2 S3]) [2, 8] [0, 1, 3, 4, 5, 6, 7, 9, 10, 11, 12] hd_X3_checkSpace wm_557 dX3_addMachine_33 (CX3_checkSpace l D (aρ 1) (aρ 7) (12 : Int32) (6 : Int32) 72 (ρ.2.2.2.2.2.2.1, ρ.1) e10) rfl rfl rfl (by decide +kernel) rfl ⟨rfl, rfl⟩ ⟨by decide, by decide⟩ (Nat.le_of_ble_eq_true rfl) ⟨by decide, by decide⟩ rfl (fun v w' hp => ?_)
            obtain ⟨rfl, rfl⟩ := hp
            refine J.blk2 (ws' := [rkW D aθ (aρ 0) pθ_spare aν pθ_text θ, rmW D aρ ρ, tlW D aν aS0 aS1 aS2 aS3 S0 S1 S2 S3].flatten) 13 (pkB (bk (rkW D aθ (aρ 0) pθ_spare aν pθ_text θ ++ rmW D aρ ρ) ++ [tlW D aν aS0 aS1 aS2 aS3 S0 S1 S2 S3]) [0, 1, 3, 4, 5, 6, 7, 9, 10, 11, 12]) (bk (tbW D (aρ 1) (aρ 7) (12 : Int32) (6 : Int32) 72 (ρ.2.2.2.2.2.2.1, ρ.1))) [0, 1, 11, 2, 3, 4, 5, 6, 12, 7, 8, 9, 10] rfl rfl rfl rfl (by decide +kernel) ?_
            refine r_aload_n h 0 rfl rfl dX3_addMachine_36 ?_
            obtain ⟨z11, e12, hF⟩ := o_bind hF
            refine r_callVB (N0 := 3) (q0 := 0) (rest := []) h [rkW D aθ (aρ 0) pθ_spare aν pθ_text θ, rmW D aρ ρ, tlW D aν aS0 aS1 aS2 aS3 S0 S1 S2 S3] [0, 1, 2] [] hd_X3_save wm_209 dX3_addMachine_37 (CX3_save l D aθ pθ_spare pθ_text aρ aν aS0 aS1 aS2 aS3 θ ρ S0 S1 S2 S3 z11.1 z11.2.1 z11.2.2.1 z11.2.2.2.1 z11.2.2.2.2 e12) rfl rfl rfl (by decide +kernel) rfl rfl rfl ⟨rfl, rfl⟩ ⟨by decide, by decide⟩ (Nat.le_of_ble_eq_true rfl) ⟨by decide, by decide⟩ rfl (fun v w' hp => ?_)
            obtain ⟨rfl, a13, a14, a15, a16, rfl⟩ := hp
            refine J.blk2 (ws' := [rkW D aθ (aρ 0) pθ_spare aν pθ_text z11.1, rmW D aρ ρ, tlW D aν a13 a14 a15 a16 z11.2.1 z11.2.2.1 z11.2.2.2.1 z11.2.2.2.2].flatten) 3 (pkB [rkW D aθ (aρ 0) pθ_spare aν pθ_text θ, rmW D aρ ρ, tlW D aν aS0 aS1 aS2 aS3 S0 S1 S2 S3] []) ([rkW D aθ (aρ 0) pθ_spare aν pθ_text z11.1, rmW D aρ ρ, tlW D aν a13 a14 a15 a16 z11.2.1 z11.2.2.1 z11.2.2.2.1 z11.2.2.2.2]) [0, 1, 2] rfl rfl rfl rfl (by decide +kernel) ?_
            refine r_aload_n h 0 rfl rfl dX3_addMachine_40 ?_
            refine r_get h fl_X3_12 0 rfl rfl dX3_addMachine_41 ?_
            refine r_get h fl_X3_58 1 rfl rfl dX3_addMachine_44 ?_
            obtain ⟨z17, e18, hF⟩ := o_bind hF
            refine r_callVB (N0 := 13) (q0 := 0) (rest := []) h (bk (rkW D aθ (aρ 0) pθ_spare aν pθ_text z11.1 ++ rmW D aρ ρ) ++ [tlW D aν a13 a14 a15 a16 z11.2.1 z11.2.2.1 z11.2.2.2.1 z11.2.2.2.2]) [2, 8] [0, 1, 3, 4, 5, 6, 7, 9, 10, 11, 12] hd_X2_addRow wm_577 dX3_addMachine_47 (CX2_addRow l D (aρ 1) (aρ 7) (12 : Int32) (6 : Int32) 72 (ρ.2.2.2.2.2.2.1, ρ.1) z17.1 z17.2 e18) rfl rfl rfl (by decide +kernel) rfl rfl rfl ⟨rfl, rfl⟩ ⟨by decide, by decide⟩ (Nat.le_of_ble_eq_true rfl) ⟨by decide, by decide⟩ rfl (fun v w' hp => ?_)
            obtain ⟨rfl, rfl⟩ := hp
            refine J.blk2 (ws' := [rkW D aθ (aρ 0) pθ_spare aν pθ_text z11.1, rmW D aρ (z17.2.2, ρ.2.1, ρ.2.2.1, ρ.2.2.2.1, ρ.2.2.2.2.1, ρ.2.2.2.2.2.1, z17.2.1, ρ.2.2.2.2.2.2.2.1, ρ.2.2.2.2.2.2.2.2.1, ρ.2.2.2.2.2.2.2.2.2.1, ρ.2.2.2.2.2.2.2.2.2.2.1, ρ.2.2.2.2.2.2.2.2.2.2.2.1, ρ.2.2.2.2.2.2.2.2.2.2.2.2.1, ρ.2.2.2.2.2.2.2.2.2.2.2.2.2), tlW D aν a13 a14 a15 a16 z11.2.1 z11.2.2.1 z11.2.2.2.1 z11.2.2.2.2].flatten) 13 (pkB (bk (rkW D aθ (aρ 0) pθ_spare aν pθ_text z11.1 ++ rmW D aρ ρ) ++ [tlW D aν a13 a14 a15 a16 z11.2.1 z11.2.2.1 z11.2.2.2.1 z11.2.2.2.2]) [0, 1, 3, 4, 5, 6, 7, 9, 10, 11, 12]) (bk (tbW D (aρ 1) (aρ 7) (12 : Int32) (6 : Int32) 72 (z17.2.1, z17.2.2))) [0, 1, 11, 2, 3, 4, 5, 6, 12, 7, 8, 9, 10] rfl rfl rfl rfl (by decide +kernel) ?_
            refine r_istore (lv' := [(5, .int z17.1), (0, .ref aθ), (1, .int x1), (2, .int x2), (3, .int x3), (4, .int x4)]) h dX3_addMachine_50 (by decide) rfl ?_
            refine r_aload_n h 1 rfl rfl dX3_addMachine_52 ?_
            refine r_get h fl_X3_12 0 rfl rfl dX3_addMachine_53 ?_
            refine r_get h fl_X3_58 1 rfl rfl dX3_addMachine_56 ?_
            refine r_iload h 0 rfl dX3_addMachine_59 ?_
            refine r_iconst (v := 0) h dX3_addMachine_61 (by decide) ?_
            refine r_iload_n h 2 rfl rfl dX3_addMachine_62 ?_
            obtain ⟨z19, e20, hF⟩ := o_bind hF
            refine r_callVB (N0 := 13) (q0 := 0) (rest := []) h (bk (rkW D aθ (aρ 0) pθ_spare aν pθ_text z11.1 ++ rmW D aρ (z17.2.2, ρ.2.1, ρ.2.2.1, ρ.2.2.2.1, ρ.2.2.2.2.1, ρ.2.2.2.2.2.1, z17.2.1, ρ.2.2.2.2.2.2.2.1, ρ.2.2.2.2.2.2.2.2.1, ρ.2.2.2.2.2.2.2.2.2.1, ρ.2.2.2.2.2.2.2.2.2.2.1, ρ.2.2.2.2.2.2.2.2.2.2.2.1, ρ.2.2.2.2.2.2.2.2.2.2.2.2.1, ρ.2.2.2.2.2.2.2.2.2.2.2.2.2)) ++ [tlW D aν a13 a14 a15 a16 z11.2.1 z11.2.2.1 z11.2.2.2.1 z11.2.2.2.2]) [2, 8] [0, 1, 3, 4, 5, 6, 7, 9, 10, 11, 12] hd_X2_put wm_578 dX3_addMachine_63 (CX2_put l D (aρ 1) (aρ 7) (12 : Int32) (6 : Int32) 72 (z17.2.1, z17.2.2) z17.1 (0 : Int32) x1 z19 e20) rfl rfl rfl (by decide +kernel) rfl rfl rfl ⟨rfl, rfl⟩ ⟨by decide, by decide⟩ (Nat.le_of_ble_eq_true rfl) ⟨by decide, by decide⟩ rfl (fun v w' hp => ?_)
            obtain ⟨rfl, rfl⟩ := hp
            refine J.blk2 (ws' := [rkW D aθ (aρ 0) pθ_spare aν pθ_text z11.1, rmW D aρ (z19.2, ρ.2.1, ρ.2.2.1, ρ.2.2.2.1, ρ.2.2.2.2.1, ρ.2.2.2.2.2.1, z19.1, ρ.2.2.2.2.2.2.2.1, ρ.2.2.2.2.2.2.2.2.1, ρ.2.2.2.2.2.2.2.2.2.1, ρ.2.2.2.2.2.2.2.2.2.2.1, ρ.2.2.2.2.2.2.2.2.2.2.2.1, ρ.2.2.2.2.2.2.2.2.2.2.2.2.1, ρ.2.2.2.2.2.2.2.2.2.2.2.2.2), tlW D aν a13 a14 a15 a16 z11.2.1 z11.2.2.1 z11.2.2.2.1 z11.2.2.2.2].flatten) 13 (pkB (bk (rkW D aθ (aρ 0) pθ_spare aν pθ_text z11.1 ++ rmW D aρ (z17.2.2, ρ.2.1, ρ.2.2.1, ρ.2.2.2.1, ρ.2.2.2.2.1, ρ.2.2.2.2.2.1, z17.2.1, ρ.2.2.2.2.2.2.2.1, ρ.2.2.2.2.2.2.2.2.1, ρ.2.2.2.2.2.2.2.2.2.1, ρ.2.2.2.2.2.2.2.2.2.2.1, ρ.2.2.2.2.2.2.2.2.2.2.2.1, ρ.2.2.2.2.2.2.2.2.2.2.2.2.1, ρ.2.2.2.2.2.2.2.2.2.2.2.2.2)) ++ [tlW D aν a13 a14 a15 a16 z11.2.1 z11.2.2.1 z11.2.2.2.1 z11.2.2.2.2]) [0, 1, 3, 4, 5, 6, 7, 9, 10, 11, 12]) (bk (tbW D (aρ 1) (aρ 7) (12 : Int32) (6 : Int32) 72 (z19.1, z19.2))) [0, 1, 11, 2, 3, 4, 5, 6, 12, 7, 8, 9, 10] rfl rfl rfl rfl (by decide +kernel) ?_
            refine r_aload_n h 1 rfl rfl dX3_addMachine_66 ?_
            refine r_get h fl_X3_12 0 rfl rfl dX3_addMachine_67 ?_
            refine r_get h fl_X3_58 1 rfl rfl dX3_addMachine_70 ?_
            refine r_iload h 0 rfl dX3_addMachine_73 ?_
            refine r_iconst (v := 1) h dX3_addMachine_75 (by decide) ?_
            refine r_iload_n h 3 rfl rfl dX3_addMachine_76 ?_
            obtain ⟨z21, e22, hF⟩ := o_bind hF
            refine r_callVB (N0 := 13) (q0 := 0) (rest := []) h (bk (rkW D aθ (aρ 0) pθ_spare aν pθ_text z11.1 ++ rmW D aρ (z19.2, ρ.2.1, ρ.2.2.1, ρ.2.2.2.1, ρ.2.2.2.2.1, ρ.2.2.2.2.2.1, z19.1, ρ.2.2.2.2.2.2.2.1, ρ.2.2.2.2.2.2.2.2.1, ρ.2.2.2.2.2.2.2.2.2.1, ρ.2.2.2.2.2.2.2.2.2.2.1, ρ.2.2.2.2.2.2.2.2.2.2.2.1, ρ.2.2.2.2.2.2.2.2.2.2.2.2.1, ρ.2.2.2.2.2.2.2.2.2.2.2.2.2)) ++ [tlW D aν a13 a14 a15 a16 z11.2.1 z11.2.2.1 z11.2.2.2.1 z11.2.2.2.2]) [2, 8] [0, 1, 3, 4, 5, 6, 7, 9, 10, 11, 12] hd_X2_put wm_578 dX3_addMachine_77 (CX2_put l D (aρ 1) (aρ 7) (12 : Int32) (6 : Int32) 72 (z19.1, z19.2) z17.1 (1 : Int32) x2 z21 e22) rfl rfl rfl (by decide +kernel) rfl rfl rfl ⟨rfl, rfl⟩ ⟨by decide, by decide⟩ (Nat.le_of_ble_eq_true rfl) ⟨by decide, by decide⟩ rfl (fun v w' hp => ?_)
            obtain ⟨rfl, rfl⟩ := hp
            refine J.blk2 (ws' := [rkW D aθ (aρ 0) pθ_spare aν pθ_text z11.1, rmW D aρ (z21.2, ρ.2.1, ρ.2.2.1, ρ.2.2.2.1, ρ.2.2.2.2.1, ρ.2.2.2.2.2.1, z21.1, ρ.2.2.2.2.2.2.2.1, ρ.2.2.2.2.2.2.2.2.1, ρ.2.2.2.2.2.2.2.2.2.1, ρ.2.2.2.2.2.2.2.2.2.2.1, ρ.2.2.2.2.2.2.2.2.2.2.2.1, ρ.2.2.2.2.2.2.2.2.2.2.2.2.1, ρ.2.2.2.2.2.2.2.2.2.2.2.2.2), tlW D aν a13 a14 a15 a16 z11.2.1 z11.2.2.1 z11.2.2.2.1 z11.2.2.2.2].flatten) 13 (pkB (bk (rkW D aθ (aρ 0) pθ_spare aν pθ_text z11.1 ++ rmW D aρ (z19.2, ρ.2.1, ρ.2.2.1, ρ.2.2.2.1, ρ.2.2.2.2.1, ρ.2.2.2.2.2.1, z19.1, ρ.2.2.2.2.2.2.2.1, ρ.2.2.2.2.2.2.2.2.1, ρ.2.2.2.2.2.2.2.2.2.1, ρ.2.2.2.2.2.2.2.2.2.2.1, ρ.2.2.2.2.2.2.2.2.2.2.2.1, ρ.2.2.2.2.2.2.2.2.2.2.2.2.1, ρ.2.2.2.2.2.2.2.2.2.2.2.2.2)) ++ [tlW D aν a13 a14 a15 a16 z11.2.1 z11.2.2.1 z11.2.2.2.1 z11.2.2.2.2]) [0, 1, 3, 4, 5, 6, 7, 9, 10, 11, 12]) (bk (tbW D (aρ 1) (aρ 7) (12 : Int32) (6 : Int32) 72 (z21.1, z21.2))) [0, 1, 11, 2, 3, 4, 5, 6, 12, 7, 8, 9, 10] rfl rfl rfl rfl (by decide +kernel) ?_
            refine r_aload_n h 1 rfl rfl dX3_addMachine_80 ?_
            refine r_get h fl_X3_12 0 rfl rfl dX3_addMachine_81 ?_
            refine r_get h fl_X3_58 1 rfl rfl dX3_addMachine_84 ?_
            refine r_iload h 0 rfl dX3_addMachine_87 ?_
            refine r_iconst (v := 3) h dX3_addMachine_89 (by decide) ?_
            refine r_iload h 5 rfl dX3_addMachine_90 ?_
            obtain ⟨z23, e24, hF⟩ := o_bind hF
            refine r_callVB (N0 := 13) (q0 := 0) (rest := []) h (bk (rkW D aθ (aρ 0) pθ_spare aν pθ_text z11.1 ++ rmW D aρ (z21.2, ρ.2.1, ρ.2.2.1, ρ.2.2.2.1, ρ.2.2.2.2.1, ρ.2.2.2.2.2.1, z21.1, ρ.2.2.2.2.2.2.2.1, ρ.2.2.2.2.2.2.2.2.1, ρ.2.2.2.2.2.2.2.2.2.1, ρ.2.2.2.2.2.2.2.2.2.2.1, ρ.2.2.2.2.2.2.2.2.2.2.2.1, ρ.2.2.2.2.2.2.2.2.2.2.2.2.1, ρ.2.2.2.2.2.2.2.2.2.2.2.2.2)) ++ [tlW D aν a13 a14 a15 a16 z11.2.1 z11.2.2.1 z11.2.2.2.1 z11.2.2.2.2]) [2, 8] [0, 1, 3, 4, 5, 6, 7, 9, 10, 11, 12] hd_X2_put wm_578 dX3_addMachine_92 (CX2_put l D (aρ 1) (aρ 7) (12 : Int32) (6 : Int32) 72 (z21.1, z21.2) z17.1 (3 : Int32) x4 z23 e24) rfl rfl rfl (by decide +kernel) rfl rfl rfl ⟨rfl, rfl⟩ ⟨by decide, by decide⟩ (Nat.le_of_ble_eq_true rfl) ⟨by decide, by decide⟩ rfl (fun v w' hp => ?_)
            obtain ⟨rfl, rfl⟩ := hp
            refine J.blk2 (ws' := [rkW D aθ (aρ 0) pθ_spare aν pθ_text z11.1, rmW D aρ (z23.2, ρ.2.1, ρ.2.2.1, ρ.2.2.2.1, ρ.2.2.2.2.1, ρ.2.2.2.2.2.1, z23.1, ρ.2.2.2.2.2.2.2.1, ρ.2.2.2.2.2.2.2.2.1, ρ.2.2.2.2.2.2.2.2.2.1, ρ.2.2.2.2.2.2.2.2.2.2.1, ρ.2.2.2.2.2.2.2.2.2.2.2.1, ρ.2.2.2.2.2.2.2.2.2.2.2.2.1, ρ.2.2.2.2.2.2.2.2.2.2.2.2.2), tlW D aν a13 a14 a15 a16 z11.2.1 z11.2.2.1 z11.2.2.2.1 z11.2.2.2.2].flatten) 13 (pkB (bk (rkW D aθ (aρ 0) pθ_spare aν pθ_text z11.1 ++ rmW D aρ (z21.2, ρ.2.1, ρ.2.2.1, ρ.2.2.2.1, ρ.2.2.2.2.1, ρ.2.2.2.2.2.1, z21.1, ρ.2.2.2.2.2.2.2.1, ρ.2.2.2.2.2.2.2.2.1, ρ.2.2.2.2.2.2.2.2.2.1, ρ.2.2.2.2.2.2.2.2.2.2.1, ρ.2.2.2.2.2.2.2.2.2.2.2.1, ρ.2.2.2.2.2.2.2.2.2.2.2.2.1, ρ.2.2.2.2.2.2.2.2.2.2.2.2.2)) ++ [tlW D aν a13 a14 a15 a16 z11.2.1 z11.2.2.1 z11.2.2.2.1 z11.2.2.2.2]) [0, 1, 3, 4, 5, 6, 7, 9, 10, 11, 12]) (bk (tbW D (aρ 1) (aρ 7) (12 : Int32) (6 : Int32) 72 (z23.1, z23.2))) [0, 1, 11, 2, 3, 4, 5, 6, 12, 7, 8, 9, 10] rfl rfl rfl rfl (by decide +kernel) ?_
            refine r_aload_n h 1 rfl rfl dX3_addMachine_95 ?_
            refine r_get h fl_X3_12 0 rfl rfl dX3_addMachine_96 ?_
            refine r_iload h 0 rfl dX3_addMachine_99 ?_
            refine r_iconst (v := -1) h dX3_addMachine_101 (by decide) ?_
            refine r_iconst (v := -1) h dX3_addMachine_102 (by decide) ?_
            refine r_iload_n h 4 rfl rfl dX3_addMachine_103 ?_
            obtain ⟨z25, e26, hF⟩ := o_bind hF
            refine r_callVB (N0 := 3) (q0 := 0) (rest := []) h [rkW D aθ (aρ 0) pθ_spare aν pθ_text z11.1, rmW D aρ (z23.2, ρ.2.1, ρ.2.2.1, ρ.2.2.2.1, ρ.2.2.2.2.1, ρ.2.2.2.2.2.1, z23.1, ρ.2.2.2.2.2.2.2.1, ρ.2.2.2.2.2.2.2.2.1, ρ.2.2.2.2.2.2.2.2.2.1, ρ.2.2.2.2.2.2.2.2.2.2.1, ρ.2.2.2.2.2.2.2.2.2.2.2.1, ρ.2.2.2.2.2.2.2.2.2.2.2.2.1, ρ.2.2.2.2.2.2.2.2.2.2.2.2.2), tlW D aν a13 a14 a15 a16 z11.2.1 z11.2.2.1 z11.2.2.2.1 z11.2.2.2.2] [1] [0, 2] hd_X1_place wm_579 dX3_addMachine_104 (CX1_place l D aρ (z23.2, ρ.2.1, ρ.2.2.1, ρ.2.2.2.1, ρ.2.2.2.2.1, ρ.2.2.2.2.2.1, z23.1, ρ.2.2.2.2.2.2.2.1, ρ.2.2.2.2.2.2.2.2.1, ρ.2.2.2.2.2.2.2.2.2.1, ρ.2.2.2.2.2.2.2.2.2.2.1, ρ.2.2.2.2.2.2.2.2.2.2.2.1, ρ.2.2.2.2.2.2.2.2.2.2.2.2.1, ρ.2.2.2.2.2.2.2.2.2.2.2.2.2) z17.1 (-1 : Int32) (-1 : Int32) x3 z25 e26) rfl rfl rfl (by decide +kernel) rfl rfl rfl ⟨rfl, rfl⟩ ⟨by decide, by decide⟩ (Nat.le_of_ble_eq_true rfl) ⟨by decide, by decide⟩ rfl (fun v w' hp => ?_)
            obtain ⟨rfl, rfl⟩ := hp
            refine J.blk2 (ws' := [rkW D aθ (aρ 0) pθ_spare aν pθ_text z11.1, rmW D aρ z25, tlW D aν a13 a14 a15 a16 z11.2.1 z11.2.2.1 z11.2.2.2.1 z11.2.2.2.2].flatten) 3 (pkB [rkW D aθ (aρ 0) pθ_spare aν pθ_text z11.1, rmW D aρ (z23.2, ρ.2.1, ρ.2.2.1, ρ.2.2.2.1, ρ.2.2.2.2.1, ρ.2.2.2.2.2.1, z23.1, ρ.2.2.2.2.2.2.2.1, ρ.2.2.2.2.2.2.2.2.1, ρ.2.2.2.2.2.2.2.2.2.1, ρ.2.2.2.2.2.2.2.2.2.2.1, ρ.2.2.2.2.2.2.2.2.2.2.2.1, ρ.2.2.2.2.2.2.2.2.2.2.2.2.1, ρ.2.2.2.2.2.2.2.2.2.2.2.2.2), tlW D aν a13 a14 a15 a16 z11.2.1 z11.2.2.1 z11.2.2.2.1 z11.2.2.2.2] [0, 2]) ([rmW D aρ z25]) [0, 2, 1] rfl rfl rfl rfl (by decide +kernel) ?_
            refine r_iload h 0 rfl dX3_addMachine_107 ?_
            cases hF

def FX3_addCable (θ : Int32) (ρ : RS) (S0 : RS) (S1 : RS) (S2 : RS) (S3 : RS) (x1 : Int32) (x2 : Int32) (x3 : Int32) : Option (Nat ⊕ (Int32 × Int32 × RS × RS × RS × RS × RS)) :=
  bX (FX3_checkMachine θ ρ x1) fun z1 =>
  bX (FX3_checkMachine θ ρ x2) fun z3 =>
  if x1 = x2 then
  (some (.inl 2))
else
  (bX (FX3_checkRange x3 (1 : Int32) (20 : Int32)) fun z6 =>
  bX (FX3_checkSpace (10 : Int32) (3 : Int32) 30 (ρ.2.2.2.2.2.2.2.1, ρ.2.1)) fun z8 =>
  (FX3_save θ ρ S0 S1 S2 S3).bind fun z10 =>
  (FX2_addRow (10 : Int32) (3 : Int32) 30 (ρ.2.2.2.2.2.2.2.1, ρ.2.1)).bind fun z16 =>
  (FX2_put (10 : Int32) (3 : Int32) 30 (z16.2.1, z16.2.2) z16.1 (0 : Int32) x1).bind fun z18 =>
  (FX2_put (10 : Int32) (3 : Int32) 30 (z18.1, z18.2) z16.1 (1 : Int32) x2).bind fun z20 =>
  (FX2_put (10 : Int32) (3 : Int32) 30 (z20.1, z20.2) z16.1 (2 : Int32) x3).bind fun z22 =>
  some (.inr (z16.1, z10.1, (ρ.1, z22.2, ρ.2.2.1, ρ.2.2.2.1, ρ.2.2.2.2.1, ρ.2.2.2.2.2.1, ρ.2.2.2.2.2.2.1, z22.1, ρ.2.2.2.2.2.2.2.2.1, ρ.2.2.2.2.2.2.2.2.2.1, ρ.2.2.2.2.2.2.2.2.2.2.1, ρ.2.2.2.2.2.2.2.2.2.2.2.1, ρ.2.2.2.2.2.2.2.2.2.2.2.2.1, ρ.2.2.2.2.2.2.2.2.2.2.2.2.2), z10.2.1, z10.2.2.1, z10.2.2.2.1, z10.2.2.2.2)))
abbrev rmX3_addCable : Room := { frames := 4, cells := 0, slots := 0, locals := 124 }
set_option maxHeartbeats 4000000 in
set_option maxRecDepth 100000 in
theorem CX3_addCable (l : Launch) (D : va_G) (aθ : Nat) (pθ_spare : Nat) (pθ_text : Nat) (aρ : Nat → Nat) (aν : Nat) (aS0 : Nat → Nat) (aS1 : Nat → Nat) (aS2 : Nat → Nat) (aS3 : Nat → Nat) (θ : Int32) (ρ : RS) (S0 : RS) (S1 : RS) (S2 : RS) (S3 : RS) (x1 : Int32) (x2 : Int32) (x3 : Int32) (r0 : Int32) (θ0 : Int32) (ρ0 : RS) (S00 : RS) (S10 : RS) (S20 : RS) (S30 : RS) (hF : FX3_addCable θ ρ S0 S1 S2 S3 x1 x2 x3 = some (.inr (r0, θ0, ρ0, S00, S10, S20, S30))) : Ct l D yX3_addCable cX3_addCable 5 (some .int) rmX3_addCable 0 0 [.ref aθ, .int x1, .int x2, .int x3] ([rkW D aθ (aρ 0) pθ_spare aν pθ_text θ, rmW D aρ ρ, tlW D aν aS0 aS1 aS2 aS3 S0 S1 S2 S3].flatten) (fun v w => v = some (.int r0) ∧ ∃ (bS0 : Nat → Nat) (bS1 : Nat → Nat) (bS2 : Nat → Nat) (bS3 : Nat → Nat), w = [rkW D aθ (aρ 0) pθ_spare aν pθ_text θ0, rmW D aρ ρ0, tlW D aν bS0 bS1 bS2 bS3 S00 S10 S20 S30].flatten) := by
  refine Ct.of (own := RX3) (lv := [(0, .ref aθ), (1, .int x1), (2, .int x2), (3, .int x3)]) (by decide +kernel) rfl (Nat.le_of_ble_eq_true rfl) rfl (fun X h hr => ?_)
  unfold FX3_addCable at hF
  refine r_aload_n h 0 rfl rfl dX3_addCable_0 ?_
  refine r_iload_n h 1 rfl rfl dX3_addCable_1 ?_
  rcases o_bX hF with ⟨k_z1, e2, hF⟩ | ⟨z1, e2, hF⟩
  · cases hF
  · refine r_callVB (N0 := 3) (q0 := 0) (rest := []) h [rkW D aθ (aρ 0) pθ_spare aν pθ_text θ, rmW D aρ ρ, tlW D aν aS0 aS1 aS2 aS3 S0 S1 S2 S3] [0, 1] [2] hd_X3_checkMachine wm_499 dX3_addCable_2 (CX3_checkMachine l D aθ pθ_spare aν pθ_text aρ θ ρ x1 e2) rfl rfl rfl (by decide +kernel) rfl rfl rfl ⟨rfl, rfl⟩ ⟨by decide, by decide⟩ (Nat.le_of_ble_eq_true rfl) ⟨by decide, by decide⟩ rfl (fun v w' hp => ?_)
    obtain ⟨rfl, rfl⟩ := hp
    refine J.blk2 (ws' := [rkW D aθ (aρ 0) pθ_spare aν pθ_text θ, rmW D aρ ρ, tlW D aν aS0 aS1 aS2 aS3 S0 S1 S2 S3].flatten) 3 (pkB [rkW D aθ (aρ 0) pθ_spare aν pθ_text θ, rmW D aρ ρ, tlW D aν aS0 aS1 aS2 aS3 S0 S1 S2 S3] [2]) ([rkW D aθ (aρ 0) pθ_spare aν pθ_text θ, rmW D aρ ρ]) [1, 2, 0] rfl rfl rfl rfl (by decide +kernel) ?_
    refine r_aload_n h 0 rfl rfl dX3_addCable_5 ?_
    refine r_iload_n h 2 rfl rfl dX3_addCable_6 ?_
    rcases o_bX hF with ⟨k_z3, e4, hF⟩ | ⟨z3, e4, hF⟩
    · cases hF
    · refine r_callVB (N0 := 3) (q0 := 0) (rest := []) h [rkW D aθ (aρ 0) pθ_spare aν pθ_text θ, rmW D aρ ρ, tlW D aν aS0 aS1 aS2 aS3 S0 S1 S2 S3] [0, 1] [2] hd_X3_checkMachine wm_499 dX3_addCable_7 (CX3_checkMachine l D aθ pθ_spare aν pθ_text aρ θ ρ x2 e4) rfl rfl rfl (by decide +kernel) rfl rfl rfl ⟨rfl, rfl⟩ ⟨by decide, by decide⟩ (Nat.le_of_ble_eq_true rfl) ⟨by decide, by decide⟩ rfl (fun v w' hp => ?_)
      obtain ⟨rfl, rfl⟩ := hp
      refine J.blk2 (ws' := [rkW D aθ (aρ 0) pθ_spare aν pθ_text θ, rmW D aρ ρ, tlW D aν aS0 aS1 aS2 aS3 S0 S1 S2 S3].flatten) 3 (pkB [rkW D aθ (aρ 0) pθ_spare aν pθ_text θ, rmW D aρ ρ, tlW D aν aS0 aS1 aS2 aS3 S0 S1 S2 S3] [2]) ([rkW D aθ (aρ 0) pθ_spare aν pθ_text θ, rmW D aρ ρ]) [1, 2, 0] rfl rfl rfl rfl (by decide +kernel) ?_
      refine r_iload_n h 1 rfl rfl dX3_addCable_10 ?_
      refine r_iload_n h 2 rfl rfl dX3_addCable_11 ?_
      refine r_icmp_ne h 25 dX3_addCable_12 (by decide) (fun c5 => ?_) (fun c5 => ?_)
      · replace hF := o_neg c5 hF
        refine r_iload_n h 3 rfl rfl dX3_addCable_25 ?_
        refine r_iconst (v := 1) h dX3_addCable_26 (by decide) ?_
        refine r_bipush (v := 20) h dX3_addCable_27 (by decide) ?_
        rcases o_bX hF with ⟨k_z6, e7, hF⟩ | ⟨z6, e7, hF⟩
        · cases hF
        · refine r_callSv (rest := []) h hd_X3_checkRange wm_360 dX3_addCable_29 (CX3_checkRange l D x3 (1 : Int32) (20 : Int32) e7) rfl ⟨rfl, rfl⟩ ⟨by decide, by decide⟩ (Nat.le_of_ble_eq_true rfl) ⟨by decide, by decide⟩ rfl ?_
          refine r_aload_n h 0 rfl rfl dX3_addCable_32 ?_
          refine r_get h fl_X3_12 0 rfl rfl dX3_addCable_33 ?_
          refine r_get h fl_X3_89 1 rfl rfl dX3_addCable_36 ?_
          rcases o_bX hF with ⟨k_z8, e9, hF⟩ | ⟨z8, e9, hF⟩
          · cases hF
          · refine r_callSB (N0 := 13) (rest := []) h (bk (rkW D aθ (aρ 0) pθ_spare aν pθ_text θ ++ rmW D aρ ρ) ++ [tlW D aν aS0 aS1 aS2 aS3 S0 S1 S2 S3]) [3, 9] [0, 1, 2, 4, 5, 6, 7, 8, 10, 11, 12] hd_X3_checkSpace wm_557 dX3_addCable_39 (CX3_checkSpace l D (aρ 2) (aρ 8) (10 : Int32) (3 : Int32) 30 (ρ.2.2.2.2.2.2.2.1, ρ.2.1) e9) rfl rfl rfl (by decide +kernel) rfl ⟨rfl, rfl⟩ ⟨by decide, by decide⟩ (Nat.le_of_ble_eq_true rfl) ⟨by decide, by decide⟩ rfl (fun v w' hp => ?_)
            obtain ⟨rfl, rfl⟩ := hp
            refine J.blk2 (ws' := [rkW D aθ (aρ 0) pθ_spare aν pθ_text θ, rmW D aρ ρ, tlW D aν aS0 aS1 aS2 aS3 S0 S1 S2 S3].flatten) 13 (pkB (bk (rkW D aθ (aρ 0) pθ_spare aν pθ_text θ ++ rmW D aρ ρ) ++ [tlW D aν aS0 aS1 aS2 aS3 S0 S1 S2 S3]) [0, 1, 2, 4, 5, 6, 7, 8, 10, 11, 12]) (bk (tbW D (aρ 2) (aρ 8) (10 : Int32) (3 : Int32) 30 (ρ.2.2.2.2.2.2.2.1, ρ.2.1))) [0, 1, 2, 11, 3, 4, 5, 6, 7, 12, 8, 9, 10] rfl rfl rfl rfl (by decide +kernel) ?_
            refine r_aload_n h 0 rfl rfl dX3_addCable_42 ?_
            obtain ⟨z10, e11, hF⟩ := o_bind hF
            refine r_callVB (N0 := 3) (q0 := 0) (rest := []) h [rkW D aθ (aρ 0) pθ_spare aν pθ_text θ, rmW D aρ ρ, tlW D aν aS0 aS1 aS2 aS3 S0 S1 S2 S3] [0, 1, 2] [] hd_X3_save wm_209 dX3_addCable_43 (CX3_save l D aθ pθ_spare pθ_text aρ aν aS0 aS1 aS2 aS3 θ ρ S0 S1 S2 S3 z10.1 z10.2.1 z10.2.2.1 z10.2.2.2.1 z10.2.2.2.2 e11) rfl rfl rfl (by decide +kernel) rfl rfl rfl ⟨rfl, rfl⟩ ⟨by decide, by decide⟩ (Nat.le_of_ble_eq_true rfl) ⟨by decide, by decide⟩ rfl (fun v w' hp => ?_)
            obtain ⟨rfl, a12, a13, a14, a15, rfl⟩ := hp
            refine J.blk2 (ws' := [rkW D aθ (aρ 0) pθ_spare aν pθ_text z10.1, rmW D aρ ρ, tlW D aν a12 a13 a14 a15 z10.2.1 z10.2.2.1 z10.2.2.2.1 z10.2.2.2.2].flatten) 3 (pkB [rkW D aθ (aρ 0) pθ_spare aν pθ_text θ, rmW D aρ ρ, tlW D aν aS0 aS1 aS2 aS3 S0 S1 S2 S3] []) ([rkW D aθ (aρ 0) pθ_spare aν pθ_text z10.1, rmW D aρ ρ, tlW D aν a12 a13 a14 a15 z10.2.1 z10.2.2.1 z10.2.2.2.1 z10.2.2.2.2]) [0, 1, 2] rfl rfl rfl rfl (by decide +kernel) ?_
            refine r_aload_n h 0 rfl rfl dX3_addCable_46 ?_
            refine r_get h fl_X3_12 0 rfl rfl dX3_addCable_47 ?_
            refine r_get h fl_X3_89 1 rfl rfl dX3_addCable_50 ?_
            obtain ⟨z16, e17, hF⟩ := o_bind hF
            refine r_callVB (N0 := 13) (q0 := 0) (rest := []) h (bk (rkW D aθ (aρ 0) pθ_spare aν pθ_text z10.1 ++ rmW D aρ ρ) ++ [tlW D aν a12 a13 a14 a15 z10.2.1 z10.2.2.1 z10.2.2.2.1 z10.2.2.2.2]) [3, 9] [0, 1, 2, 4, 5, 6, 7, 8, 10, 11, 12] hd_X2_addRow wm_577 dX3_addCable_53 (CX2_addRow l D (aρ 2) (aρ 8) (10 : Int32) (3 : Int32) 30 (ρ.2.2.2.2.2.2.2.1, ρ.2.1) z16.1 z16.2 e17) rfl rfl rfl (by decide +kernel) rfl rfl rfl ⟨rfl, rfl⟩ ⟨by decide, by decide⟩ (Nat.le_of_ble_eq_true rfl) ⟨by decide, by decide⟩ rfl (fun v w' hp => ?_)
            obtain ⟨rfl, rfl⟩ := hp
            refine J.blk2 (ws' := [rkW D aθ (aρ 0) pθ_spare aν pθ_text z10.1, rmW D aρ (ρ.1, z16.2.2, ρ.2.2.1, ρ.2.2.2.1, ρ.2.2.2.2.1, ρ.2.2.2.2.2.1, ρ.2.2.2.2.2.2.1, z16.2.1, ρ.2.2.2.2.2.2.2.2.1, ρ.2.2.2.2.2.2.2.2.2.1, ρ.2.2.2.2.2.2.2.2.2.2.1, ρ.2.2.2.2.2.2.2.2.2.2.2.1, ρ.2.2.2.2.2.2.2.2.2.2.2.2.1, ρ.2.2.2.2.2.2.2.2.2.2.2.2.2), tlW D aν a12 a13 a14 a15 z10.2.1 z10.2.2.1 z10.2.2.2.1 z10.2.2.2.2].flatten) 13 (pkB (bk (rkW D aθ (aρ 0) pθ_spare aν pθ_text z10.1 ++ rmW D aρ ρ) ++ [tlW D aν a12 a13 a14 a15 z10.2.1 z10.2.2.1 z10.2.2.2.1 z10.2.2.2.2]) [0, 1, 2, 4, 5, 6, 7, 8, 10, 11, 12]) (bk (tbW D (aρ 2) (aρ 8) (10 : Int32) (3 : Int32) 30 (z16.2.1, z16.2.2))) [0, 1, 2, 11, 3, 4, 5, 6, 7, 12, 8, 9, 10] rfl rfl rfl rfl (by decide +kernel) ?_
            refine r_istore (lv' := [(4, .int z16.1), (0, .ref aθ), (1, .int x1), (2, .int x2), (3, .int x3)]) h dX3_addCable_56 (by decide) rfl ?_
            refine r_aload_n h 1 rfl rfl dX3_addCable_58 ?_
            refine r_get h fl_X3_12 0 rfl rfl dX3_addCable_59 ?_
            refine r_get h fl_X3_89 1 rfl rfl dX3_addCable_62 ?_
            refine r_iload h 0 rfl dX3_addCable_65 ?_
            refine r_iconst (v := 0) h dX3_addCable_67 (by decide) ?_
            refine r_iload_n h 2 rfl rfl dX3_addCable_68 ?_
            obtain ⟨z18, e19, hF⟩ := o_bind hF
            refine r_callVB (N0 := 13) (q0 := 0) (rest := []) h (bk (rkW D aθ (aρ 0) pθ_spare aν pθ_text z10.1 ++ rmW D aρ (ρ.1, z16.2.2, ρ.2.2.1, ρ.2.2.2.1, ρ.2.2.2.2.1, ρ.2.2.2.2.2.1, ρ.2.2.2.2.2.2.1, z16.2.1, ρ.2.2.2.2.2.2.2.2.1, ρ.2.2.2.2.2.2.2.2.2.1, ρ.2.2.2.2.2.2.2.2.2.2.1, ρ.2.2.2.2.2.2.2.2.2.2.2.1, ρ.2.2.2.2.2.2.2.2.2.2.2.2.1, ρ.2.2.2.2.2.2.2.2.2.2.2.2.2)) ++ [tlW D aν a12 a13 a14 a15 z10.2.1 z10.2.2.1 z10.2.2.2.1 z10.2.2.2.2]) [3, 9] [0, 1, 2, 4, 5, 6, 7, 8, 10, 11, 12] hd_X2_put wm_578 dX3_addCable_69 (CX2_put l D (aρ 2) (aρ 8) (10 : Int32) (3 : Int32) 30 (z16.2.1, z16.2.2) z16.1 (0 : Int32) x1 z18 e19) rfl rfl rfl (by decide +kernel) rfl rfl rfl ⟨rfl, rfl⟩ ⟨by decide, by decide⟩ (Nat.le_of_ble_eq_true rfl) ⟨by decide, by decide⟩ rfl (fun v w' hp => ?_)
            obtain ⟨rfl, rfl⟩ := hp
            refine J.blk2 (ws' := [rkW D aθ (aρ 0) pθ_spare aν pθ_text z10.1, rmW D aρ (ρ.1, z18.2, ρ.2.2.1, ρ.2.2.2.1, ρ.2.2.2.2.1, ρ.2.2.2.2.2.1, ρ.2.2.2.2.2.2.1, z18.1, ρ.2.2.2.2.2.2.2.2.1, ρ.2.2.2.2.2.2.2.2.2.1, ρ.2.2.2.2.2.2.2.2.2.2.1, ρ.2.2.2.2.2.2.2.2.2.2.2.1, ρ.2.2.2.2.2.2.2.2.2.2.2.2.1, ρ.2.2.2.2.2.2.2.2.2.2.2.2.2), tlW D aν a12 a13 a14 a15 z10.2.1 z10.2.2.1 z10.2.2.2.1 z10.2.2.2.2].flatten) 13 (pkB (bk (rkW D aθ (aρ 0) pθ_spare aν pθ_text z10.1 ++ rmW D aρ (ρ.1, z16.2.2, ρ.2.2.1, ρ.2.2.2.1, ρ.2.2.2.2.1, ρ.2.2.2.2.2.1, ρ.2.2.2.2.2.2.1, z16.2.1, ρ.2.2.2.2.2.2.2.2.1, ρ.2.2.2.2.2.2.2.2.2.1, ρ.2.2.2.2.2.2.2.2.2.2.1, ρ.2.2.2.2.2.2.2.2.2.2.2.1, ρ.2.2.2.2.2.2.2.2.2.2.2.2.1, ρ.2.2.2.2.2.2.2.2.2.2.2.2.2)) ++ [tlW D aν a12 a13 a14 a15 z10.2.1 z10.2.2.1 z10.2.2.2.1 z10.2.2.2.2]) [0, 1, 2, 4, 5, 6, 7, 8, 10, 11, 12]) (bk (tbW D (aρ 2) (aρ 8) (10 : Int32) (3 : Int32) 30 (z18.1, z18.2))) [0, 1, 2, 11, 3, 4, 5, 6, 7, 12, 8, 9, 10] rfl rfl rfl rfl (by decide +kernel) ?_
            refine r_aload_n h 1 rfl rfl dX3_addCable_72 ?_
            refine r_get h fl_X3_12 0 rfl rfl dX3_addCable_73 ?_
            refine r_get h fl_X3_89 1 rfl rfl dX3_addCable_76 ?_
            refine r_iload h 0 rfl dX3_addCable_79 ?_
            refine r_iconst (v := 1) h dX3_addCable_81 (by decide) ?_
            refine r_iload_n h 3 rfl rfl dX3_addCable_82 ?_
            obtain ⟨z20, e21, hF⟩ := o_bind hF
            refine r_callVB (N0 := 13) (q0 := 0) (rest := []) h (bk (rkW D aθ (aρ 0) pθ_spare aν pθ_text z10.1 ++ rmW D aρ (ρ.1, z18.2, ρ.2.2.1, ρ.2.2.2.1, ρ.2.2.2.2.1, ρ.2.2.2.2.2.1, ρ.2.2.2.2.2.2.1, z18.1, ρ.2.2.2.2.2.2.2.2.1, ρ.2.2.2.2.2.2.2.2.2.1, ρ.2.2.2.2.2.2.2.2.2.2.1, ρ.2.2.2.2.2.2.2.2.2.2.2.1, ρ.2.2.2.2.2.2.2.2.2.2.2.2.1, ρ.2.2.2.2.2.2.2.2.2.2.2.2.2)) ++ [tlW D aν a12 a13 a14 a15 z10.2.1 z10.2.2.1 z10.2.2.2.1 z10.2.2.2.2]) [3, 9] [0, 1, 2, 4, 5, 6, 7, 8, 10, 11, 12] hd_X2_put wm_578 dX3_addCable_83 (CX2_put l D (aρ 2) (aρ 8) (10 : Int32) (3 : Int32) 30 (z18.1, z18.2) z16.1 (1 : Int32) x2 z20 e21) rfl rfl rfl (by decide +kernel) rfl rfl rfl ⟨rfl, rfl⟩ ⟨by decide, by decide⟩ (Nat.le_of_ble_eq_true rfl) ⟨by decide, by decide⟩ rfl (fun v w' hp => ?_)
            obtain ⟨rfl, rfl⟩ := hp
            refine J.blk2 (ws' := [rkW D aθ (aρ 0) pθ_spare aν pθ_text z10.1, rmW D aρ (ρ.1, z20.2, ρ.2.2.1, ρ.2.2.2.1, ρ.2.2.2.2.1, ρ.2.2.2.2.2.1, ρ.2.2.2.2.2.2.1, z20.1, ρ.2.2.2.2.2.2.2.2.1, ρ.2.2.2.2.2.2.2.2.2.1, ρ.2.2.2.2.2.2.2.2.2.2.1, ρ.2.2.2.2.2.2.2.2.2.2.2.1, ρ.2.2.2.2.2.2.2.2.2.2.2.2.1, ρ.2.2.2.2.2.2.2.2.2.2.2.2.2), tlW D aν a12 a13 a14 a15 z10.2.1 z10.2.2.1 z10.2.2.2.1 z10.2.2.2.2].flatten) 13 (pkB (bk (rkW D aθ (aρ 0) pθ_spare aν pθ_text z10.1 ++ rmW D aρ (ρ.1, z18.2, ρ.2.2.1, ρ.2.2.2.1, ρ.2.2.2.2.1, ρ.2.2.2.2.2.1, ρ.2.2.2.2.2.2.1, z18.1, ρ.2.2.2.2.2.2.2.2.1, ρ.2.2.2.2.2.2.2.2.2.1, ρ.2.2.2.2.2.2.2.2.2.2.1, ρ.2.2.2.2.2.2.2.2.2.2.2.1, ρ.2.2.2.2.2.2.2.2.2.2.2.2.1, ρ.2.2.2.2.2.2.2.2.2.2.2.2.2)) ++ [tlW D aν a12 a13 a14 a15 z10.2.1 z10.2.2.1 z10.2.2.2.1 z10.2.2.2.2]) [0, 1, 2, 4, 5, 6, 7, 8, 10, 11, 12]) (bk (tbW D (aρ 2) (aρ 8) (10 : Int32) (3 : Int32) 30 (z20.1, z20.2))) [0, 1, 2, 11, 3, 4, 5, 6, 7, 12, 8, 9, 10] rfl rfl rfl rfl (by decide +kernel) ?_
            refine r_aload_n h 1 rfl rfl dX3_addCable_86 ?_
            refine r_get h fl_X3_12 0 rfl rfl dX3_addCable_87 ?_
            refine r_get h fl_X3_89 1 rfl rfl dX3_addCable_90 ?_
            refine r_iload h 0 rfl dX3_addCable_93 ?_
            refine r_iconst (v := 2) h dX3_addCable_95 (by decide) ?_
            refine r_iload_n h 4 rfl rfl dX3_addCable_96 ?_
            obtain ⟨z22, e23, hF⟩ := o_bind hF
            refine r_callVB (N0 := 13) (q0 := 0) (rest := []) h (bk (rkW D aθ (aρ 0) pθ_spare aν pθ_text z10.1 ++ rmW D aρ (ρ.1, z20.2, ρ.2.2.1, ρ.2.2.2.1, ρ.2.2.2.2.1, ρ.2.2.2.2.2.1, ρ.2.2.2.2.2.2.1, z20.1, ρ.2.2.2.2.2.2.2.2.1, ρ.2.2.2.2.2.2.2.2.2.1, ρ.2.2.2.2.2.2.2.2.2.2.1, ρ.2.2.2.2.2.2.2.2.2.2.2.1, ρ.2.2.2.2.2.2.2.2.2.2.2.2.1, ρ.2.2.2.2.2.2.2.2.2.2.2.2.2)) ++ [tlW D aν a12 a13 a14 a15 z10.2.1 z10.2.2.1 z10.2.2.2.1 z10.2.2.2.2]) [3, 9] [0, 1, 2, 4, 5, 6, 7, 8, 10, 11, 12] hd_X2_put wm_578 dX3_addCable_97 (CX2_put l D (aρ 2) (aρ 8) (10 : Int32) (3 : Int32) 30 (z20.1, z20.2) z16.1 (2 : Int32) x3 z22 e23) rfl rfl rfl (by decide +kernel) rfl rfl rfl ⟨rfl, rfl⟩ ⟨by decide, by decide⟩ (Nat.le_of_ble_eq_true rfl) ⟨by decide, by decide⟩ rfl (fun v w' hp => ?_)
            obtain ⟨rfl, rfl⟩ := hp
            refine J.blk2 (ws' := [rkW D aθ (aρ 0) pθ_spare aν pθ_text z10.1, rmW D aρ (ρ.1, z22.2, ρ.2.2.1, ρ.2.2.2.1, ρ.2.2.2.2.1, ρ.2.2.2.2.2.1, ρ.2.2.2.2.2.2.1, z22.1, ρ.2.2.2.2.2.2.2.2.1, ρ.2.2.2.2.2.2.2.2.2.1, ρ.2.2.2.2.2.2.2.2.2.2.1, ρ.2.2.2.2.2.2.2.2.2.2.2.1, ρ.2.2.2.2.2.2.2.2.2.2.2.2.1, ρ.2.2.2.2.2.2.2.2.2.2.2.2.2), tlW D aν a12 a13 a14 a15 z10.2.1 z10.2.2.1 z10.2.2.2.1 z10.2.2.2.2].flatten) 13 (pkB (bk (rkW D aθ (aρ 0) pθ_spare aν pθ_text z10.1 ++ rmW D aρ (ρ.1, z20.2, ρ.2.2.1, ρ.2.2.2.1, ρ.2.2.2.2.1, ρ.2.2.2.2.2.1, ρ.2.2.2.2.2.2.1, z20.1, ρ.2.2.2.2.2.2.2.2.1, ρ.2.2.2.2.2.2.2.2.2.1, ρ.2.2.2.2.2.2.2.2.2.2.1, ρ.2.2.2.2.2.2.2.2.2.2.2.1, ρ.2.2.2.2.2.2.2.2.2.2.2.2.1, ρ.2.2.2.2.2.2.2.2.2.2.2.2.2)) ++ [tlW D aν a12 a13 a14 a15 z10.2.1 z10.2.2.1 z10.2.2.2.1 z10.2.2.2.2]) [0, 1, 2, 4, 5, 6, 7, 8, 10, 11, 12]) (bk (tbW D (aρ 2) (aρ 8) (10 : Int32) (3 : Int32) 30 (z22.1, z22.2))) [0, 1, 2, 11, 3, 4, 5, 6, 7, 12, 8, 9, 10] rfl rfl rfl rfl (by decide +kernel) ?_
            refine r_iload h 0 rfl dX3_addCable_100 ?_
            cases hF
            exact r_iret h hr dX3_addCable_102 ⟨rfl, a12, a13, a14, a15, rfl⟩
      · replace hF := o_pos c5 hF
        cases hF

abbrev rmTX3_addCable : Room := { frames := 7, cells := 1, slots := 6, locals := 124 }
set_option maxHeartbeats 4000000 in
set_option maxRecDepth 100000 in
theorem TX3_addCable (l : Launch) (hl0 : l.stackTraces = false) (D : va_G) (aθ : Nat) (pθ_spare : Nat) (pθ_text : Nat) (aρ : Nat → Nat) (aν : Nat) (aS0 : Nat → Nat) (aS1 : Nat → Nat) (aS2 : Nat → Nat) (aS3 : Nat → Nat) (θ : Int32) (ρ : RS) (S0 : RS) (S1 : RS) (S2 : RS) (S3 : RS) (x1 : Int32) (x2 : Int32) (x3 : Int32) (k0 : Nat) (hF : FX3_addCable θ ρ S0 S1 S2 S3 x1 x2 x3 = some (.inl k0)) : CtT l D yX3_addCable cX3_addCable 5 (some .int) rmTX3_addCable 1 6 [.ref aθ, .int x1, .int x2, .int x3] ([rkW D aθ (aρ 0) pθ_spare aν pθ_text θ, rmW D aρ ρ, tlW D aν aS0 aS1 aS2 aS3 S0 S1 S2 S3].flatten) (exn k0) := by
  refine CtT.of (own := RX3) (lv := [(0, .ref aθ), (1, .int x1), (2, .int x2), (3, .int x3)]) (by decide +kernel) rfl (Nat.le_of_ble_eq_true rfl) rfl (fun X h hx ht => ?_)
  unfold FX3_addCable at hF
  refine r_aload_n h 0 rfl rfl dX3_addCable_0 ?_
  refine r_iload_n h 1 rfl rfl dX3_addCable_1 ?_
  rcases o_bX hF with ⟨k_z1, e2, hF⟩ | ⟨z1, e2, hF⟩
  · cases hF
    exact r_callTVB (N0 := 3) (q0 := 0) (rest := []) h hx ht [rkW D aθ (aρ 0) pθ_spare aν pθ_text θ, rmW D aρ ρ, tlW D aν aS0 aS1 aS2 aS3 S0 S1 S2 S3] [0, 1] [2] hd_X3_checkMachine wm_499 dX3_addCable_2 (TX3_checkMachine l hl0 D aθ pθ_spare aν pθ_text aρ θ ρ x1 _ e2) rfl rfl rfl (by decide +kernel) rfl rfl rfl ⟨rfl, rfl⟩ ⟨by decide, by decide⟩ (Nat.le_of_ble_eq_true rfl) ⟨by decide, by decide⟩ ⟨by decide, by decide⟩ rfl
  · refine r_callVB (N0 := 3) (q0 := 0) (rest := []) h [rkW D aθ (aρ 0) pθ_spare aν pθ_text θ, rmW D aρ ρ, tlW D aν aS0 aS1 aS2 aS3 S0 S1 S2 S3] [0, 1] [2] hd_X3_checkMachine wm_499 dX3_addCable_2 (CX3_checkMachine l D aθ pθ_spare aν pθ_text aρ θ ρ x1 e2) rfl rfl rfl (by decide +kernel) rfl rfl rfl ⟨rfl, rfl⟩ ⟨by decide, by decide⟩ (Nat.le_of_ble_eq_true rfl) ⟨by decide, by decide⟩ rfl (fun v w' hp => ?_)
    obtain ⟨rfl, rfl⟩ := hp
    refine J.blk2 (ws' := [rkW D aθ (aρ 0) pθ_spare aν pθ_text θ, rmW D aρ ρ, tlW D aν aS0 aS1 aS2 aS3 S0 S1 S2 S3].flatten) 3 (pkB [rkW D aθ (aρ 0) pθ_spare aν pθ_text θ, rmW D aρ ρ, tlW D aν aS0 aS1 aS2 aS3 S0 S1 S2 S3] [2]) ([rkW D aθ (aρ 0) pθ_spare aν pθ_text θ, rmW D aρ ρ]) [1, 2, 0] rfl rfl rfl rfl (by decide +kernel) ?_
    refine r_aload_n h 0 rfl rfl dX3_addCable_5 ?_
    refine r_iload_n h 2 rfl rfl dX3_addCable_6 ?_
    rcases o_bX hF with ⟨k_z3, e4, hF⟩ | ⟨z3, e4, hF⟩
    · cases hF
      exact r_callTVB (N0 := 3) (q0 := 0) (rest := []) h hx ht [rkW D aθ (aρ 0) pθ_spare aν pθ_text θ, rmW D aρ ρ, tlW D aν aS0 aS1 aS2 aS3 S0 S1 S2 S3] [0, 1] [2] hd_X3_checkMachine wm_499 dX3_addCable_7 (TX3_checkMachine l hl0 D aθ pθ_spare aν pθ_text aρ θ ρ x2 _ e4) rfl rfl rfl (by decide +kernel) rfl rfl rfl ⟨rfl, rfl⟩ ⟨by decide, by decide⟩ (Nat.le_of_ble_eq_true rfl) ⟨by decide, by decide⟩ ⟨by decide, by decide⟩ rfl
    · refine r_callVB (N0 := 3) (q0 := 0) (rest := []) h [rkW D aθ (aρ 0) pθ_spare aν pθ_text θ, rmW D aρ ρ, tlW D aν aS0 aS1 aS2 aS3 S0 S1 S2 S3] [0, 1] [2] hd_X3_checkMachine wm_499 dX3_addCable_7 (CX3_checkMachine l D aθ pθ_spare aν pθ_text aρ θ ρ x2 e4) rfl rfl rfl (by decide +kernel) rfl rfl rfl ⟨rfl, rfl⟩ ⟨by decide, by decide⟩ (Nat.le_of_ble_eq_true rfl) ⟨by decide, by decide⟩ rfl (fun v w' hp => ?_)
      obtain ⟨rfl, rfl⟩ := hp
      refine J.blk2 (ws' := [rkW D aθ (aρ 0) pθ_spare aν pθ_text θ, rmW D aρ ρ, tlW D aν aS0 aS1 aS2 aS3 S0 S1 S2 S3].flatten) 3 (pkB [rkW D aθ (aρ 0) pθ_spare aν pθ_text θ, rmW D aρ ρ, tlW D aν aS0 aS1 aS2 aS3 S0 S1 S2 S3] [2]) ([rkW D aθ (aρ 0) pθ_spare aν pθ_text θ, rmW D aρ ρ]) [1, 2, 0] rfl rfl rfl rfl (by decide +kernel) ?_
      refine r_iload_n h 1 rfl rfl dX3_addCable_10 ?_
      refine r_iload_n h 2 rfl rfl dX3_addCable_11 ?_
      refine r_icmp_ne h 25 dX3_addCable_12 (by decide) (fun c5 => ?_) (fun c5 => ?_)
      · replace hF := o_neg c5 hF
        refine r_iload_n h 3 rfl rfl dX3_addCable_25 ?_
        refine r_iconst (v := 1) h dX3_addCable_26 (by decide) ?_
        refine r_bipush (v := 20) h dX3_addCable_27 (by decide) ?_
        rcases o_bX hF with ⟨k_z6, e7, hF⟩ | ⟨z6, e7, hF⟩
        · cases hF
          exact r_callTSp (rest := []) h hx ht hd_X3_checkRange wm_360 dX3_addCable_29 (TX3_checkRange l hl0 D x3 (1 : Int32) (20 : Int32) _ e7) rfl ⟨rfl, rfl⟩ ⟨by decide, by decide⟩ (Nat.le_of_ble_eq_true rfl) ⟨by decide, by decide⟩ ⟨by decide, by decide⟩ rfl
        · refine r_callSv (rest := []) h hd_X3_checkRange wm_360 dX3_addCable_29 (CX3_checkRange l D x3 (1 : Int32) (20 : Int32) e7) rfl ⟨rfl, rfl⟩ ⟨by decide, by decide⟩ (Nat.le_of_ble_eq_true rfl) ⟨by decide, by decide⟩ rfl ?_
          refine r_aload_n h 0 rfl rfl dX3_addCable_32 ?_
          refine r_get h fl_X3_12 0 rfl rfl dX3_addCable_33 ?_
          refine r_get h fl_X3_89 1 rfl rfl dX3_addCable_36 ?_
          rcases o_bX hF with ⟨k_z8, e9, hF⟩ | ⟨z8, e9, hF⟩
          · cases hF
            exact r_callTSB (N0 := 13) (rest := []) h hx ht (bk (rkW D aθ (aρ 0) pθ_spare aν pθ_text θ ++ rmW D aρ ρ) ++ [tlW D aν aS0 aS1 aS2 aS3 S0 S1 S2 S3]) [3, 9] [0, 1, 2, 4, 5, 6, 7, 8, 10, 11, 12] hd_X3_checkSpace wm_557 dX3_addCable_39 (TX3_checkSpace l hl0 D (aρ 2) (aρ 8) (10 : Int32) (3 : Int32) 30 (ρ.2.2.2.2.2.2.2.1, ρ.2.1) _ e9) rfl rfl rfl (by decide +kernel) rfl ⟨rfl, rfl⟩ ⟨by decide, by decide⟩ (Nat.le_of_ble_eq_true rfl) ⟨by decide, by decide⟩ ⟨by decide, by decide⟩ rfl
          · refine r_callSB (N0 := 13) (rest := []) h (bk (rkW D aθ (aρ 0) pθ_spare aν pθ_text θ ++ rmW D aρ ρ) ++ [tlW D aν aS0 aS1 aS2 aS3 S0 S1 S2 S3]) [3, 9] [0, 1, 2, 4, 5, 6, 7, 8, 10, 11, 12] hd_X3_checkSpace wm_557 dX3_addCable_39 (CX3_checkSpace l D (aρ 2) (aρ 8) (10 : Int32) (3 : Int32) 30 (ρ.2.2.2.2.2.2.2.1, ρ.2.1) e9) rfl rfl rfl (by decide +kernel) rfl ⟨rfl, rfl⟩ ⟨by decide, by decide⟩ (Nat.le_of_ble_eq_true rfl) ⟨by decide, by decide⟩ rfl (fun v w' hp => ?_)
            obtain ⟨rfl, rfl⟩ := hp
            refine J.blk2 (ws' := [rkW D aθ (aρ 0) pθ_spare aν pθ_text θ, rmW D aρ ρ, tlW D aν aS0 aS1 aS2 aS3 S0 S1 S2 S3].flatten) 13 (pkB (bk (rkW D aθ (aρ 0) pθ_spare aν pθ_text θ ++ rmW D aρ ρ) ++ [tlW D aν aS0 aS1 aS2 aS3 S0 S1 S2 S3]) [0, 1, 2, 4, 5, 6, 7, 8, 10, 11, 12]) (bk (tbW D (aρ 2) (aρ 8) (10 : Int32) (3 : Int32) 30 (ρ.2.2.2.2.2.2.2.1, ρ.2.1))) [0, 1, 2, 11, 3, 4, 5, 6, 7, 12, 8, 9, 10] rfl rfl rfl rfl (by decide +kernel) ?_
            refine r_aload_n h 0 rfl rfl dX3_addCable_42 ?_
            obtain ⟨z10, e11, hF⟩ := o_bind hF
            refine r_callVB (N0 := 3) (q0 := 0) (rest := []) h [rkW D aθ (aρ 0) pθ_spare aν pθ_text θ, rmW D aρ ρ, tlW D aν aS0 aS1 aS2 aS3 S0 S1 S2 S3] [0, 1, 2] [] hd_X3_save wm_209 dX3_addCable_43 (CX3_save l D aθ pθ_spare pθ_text aρ aν aS0 aS1 aS2 aS3 θ ρ S0 S1 S2 S3 z10.1 z10.2.1 z10.2.2.1 z10.2.2.2.1 z10.2.2.2.2 e11) rfl rfl rfl (by decide +kernel) rfl rfl rfl ⟨rfl, rfl⟩ ⟨by decide, by decide⟩ (Nat.le_of_ble_eq_true rfl) ⟨by decide, by decide⟩ rfl (fun v w' hp => ?_)
            obtain ⟨rfl, a12, a13, a14, a15, rfl⟩ := hp
            refine J.blk2 (ws' := [rkW D aθ (aρ 0) pθ_spare aν pθ_text z10.1, rmW D aρ ρ, tlW D aν a12 a13 a14 a15 z10.2.1 z10.2.2.1 z10.2.2.2.1 z10.2.2.2.2].flatten) 3 (pkB [rkW D aθ (aρ 0) pθ_spare aν pθ_text θ, rmW D aρ ρ, tlW D aν aS0 aS1 aS2 aS3 S0 S1 S2 S3] []) ([rkW D aθ (aρ 0) pθ_spare aν pθ_text z10.1, rmW D aρ ρ, tlW D aν a12 a13 a14 a15 z10.2.1 z10.2.2.1 z10.2.2.2.1 z10.2.2.2.2]) [0, 1, 2] rfl rfl rfl rfl (by decide +kernel) ?_
            refine r_aload_n h 0 rfl rfl dX3_addCable_46 ?_
            refine r_get h fl_X3_12 0 rfl rfl dX3_addCable_47 ?_
            refine r_get h fl_X3_89 1 rfl rfl dX3_addCable_50 ?_
            obtain ⟨z16, e17, hF⟩ := o_bind hF
            refine r_callVB (N0 := 13) (q0 := 0) (rest := []) h (bk (rkW D aθ (aρ 0) pθ_spare aν pθ_text z10.1 ++ rmW D aρ ρ) ++ [tlW D aν a12 a13 a14 a15 z10.2.1 z10.2.2.1 z10.2.2.2.1 z10.2.2.2.2]) [3, 9] [0, 1, 2, 4, 5, 6, 7, 8, 10, 11, 12] hd_X2_addRow wm_577 dX3_addCable_53 (CX2_addRow l D (aρ 2) (aρ 8) (10 : Int32) (3 : Int32) 30 (ρ.2.2.2.2.2.2.2.1, ρ.2.1) z16.1 z16.2 e17) rfl rfl rfl (by decide +kernel) rfl rfl rfl ⟨rfl, rfl⟩ ⟨by decide, by decide⟩ (Nat.le_of_ble_eq_true rfl) ⟨by decide, by decide⟩ rfl (fun v w' hp => ?_)
            obtain ⟨rfl, rfl⟩ := hp
            refine J.blk2 (ws' := [rkW D aθ (aρ 0) pθ_spare aν pθ_text z10.1, rmW D aρ (ρ.1, z16.2.2, ρ.2.2.1, ρ.2.2.2.1, ρ.2.2.2.2.1, ρ.2.2.2.2.2.1, ρ.2.2.2.2.2.2.1, z16.2.1, ρ.2.2.2.2.2.2.2.2.1, ρ.2.2.2.2.2.2.2.2.2.1, ρ.2.2.2.2.2.2.2.2.2.2.1, ρ.2.2.2.2.2.2.2.2.2.2.2.1, ρ.2.2.2.2.2.2.2.2.2.2.2.2.1, ρ.2.2.2.2.2.2.2.2.2.2.2.2.2), tlW D aν a12 a13 a14 a15 z10.2.1 z10.2.2.1 z10.2.2.2.1 z10.2.2.2.2].flatten) 13 (pkB (bk (rkW D aθ (aρ 0) pθ_spare aν pθ_text z10.1 ++ rmW D aρ ρ) ++ [tlW D aν a12 a13 a14 a15 z10.2.1 z10.2.2.1 z10.2.2.2.1 z10.2.2.2.2]) [0, 1, 2, 4, 5, 6, 7, 8, 10, 11, 12]) (bk (tbW D (aρ 2) (aρ 8) (10 : Int32) (3 : Int32) 30 (z16.2.1, z16.2.2))) [0, 1, 2, 11, 3, 4, 5, 6, 7, 12, 8, 9, 10] rfl rfl rfl rfl (by decide +kernel) ?_
            refine r_istore (lv' := [(4, .int z16.1), (0, .ref aθ), (1, .int x1), (2, .int x2), (3, .int x3)]) h dX3_addCable_56 (by decide) rfl ?_
            refine r_aload_n h 1 rfl rfl dX3_addCable_58 ?_
            refine r_get h fl_X3_12 0 rfl rfl dX3_addCable_59 ?_
            refine r_get h fl_X3_89 1 rfl rfl dX3_addCable_62 ?_
            refine r_iload h 0 rfl dX3_addCable_65 ?_
            refine r_iconst (v := 0) h dX3_addCable_67 (by decide) ?_
            refine r_iload_n h 2 rfl rfl dX3_addCable_68 ?_
            obtain ⟨z18, e19, hF⟩ := o_bind hF
            refine r_callVB (N0 := 13) (q0 := 0) (rest := []) h (bk (rkW D aθ (aρ 0) pθ_spare aν pθ_text z10.1 ++ rmW D aρ (ρ.1, z16.2.2, ρ.2.2.1, ρ.2.2.2.1, ρ.2.2.2.2.1, ρ.2.2.2.2.2.1, ρ.2.2.2.2.2.2.1, z16.2.1, ρ.2.2.2.2.2.2.2.2.1, ρ.2.2.2.2.2.2.2.2.2.1, ρ.2.2.2.2.2.2.2.2.2.2.1, ρ.2.2.2.2.2.2.2.2.2.2.2.1, ρ.2.2.2.2.2.2.2.2.2.2.2.2.1, ρ.2.2.2.2.2.2.2.2.2.2.2.2.2)) ++ [tlW D aν a12 a13 a14 a15 z10.2.1 z10.2.2.1 z10.2.2.2.1 z10.2.2.2.2]) [3, 9] [0, 1, 2, 4, 5, 6, 7, 8, 10, 11, 12] hd_X2_put wm_578 dX3_addCable_69 (CX2_put l D (aρ 2) (aρ 8) (10 : Int32) (3 : Int32) 30 (z16.2.1, z16.2.2) z16.1 (0 : Int32) x1 z18 e19) rfl rfl rfl (by decide +kernel) rfl rfl rfl ⟨rfl, rfl⟩ ⟨by decide, by decide⟩ (Nat.le_of_ble_eq_true rfl) ⟨by decide, by decide⟩ rfl (fun v w' hp => ?_)
            obtain ⟨rfl, rfl⟩ := hp
            refine J.blk2 (ws' := [rkW D aθ (aρ 0) pθ_spare aν pθ_text z10.1, rmW D aρ (ρ.1, z18.2, ρ.2.2.1, ρ.2.2.2.1, ρ.2.2.2.2.1, ρ.2.2.2.2.2.1, ρ.2.2.2.2.2.2.1, z18.1, ρ.2.2.2.2.2.2.2.2.1, ρ.2.2.2.2.2.2.2.2.2.1, ρ.2.2.2.2.2.2.2.2.2.2.1, ρ.2.2.2.2.2.2.2.2.2.2.2.1, ρ.2.2.2.2.2.2.2.2.2.2.2.2.1, ρ.2.2.2.2.2.2.2.2.2.2.2.2.2), tlW D aν a12 a13 a14 a15 z10.2.1 z10.2.2.1 z10.2.2.2.1 z10.2.2.2.2].flatten) 13 (pkB (bk (rkW D aθ (aρ 0) pθ_spare aν pθ_text z10.1 ++ rmW D aρ (ρ.1, z16.2.2, ρ.2.2.1, ρ.2.2.2.1, ρ.2.2.2.2.1, ρ.2.2.2.2.2.1, ρ.2.2.2.2.2.2.1, z16.2.1, ρ.2.2.2.2.2.2.2.2.1, ρ.2.2.2.2.2.2.2.2.2.1, ρ.2.2.2.2.2.2.2.2.2.2.1, ρ.2.2.2.2.2.2.2.2.2.2.2.1, ρ.2.2.2.2.2.2.2.2.2.2.2.2.1, ρ.2.2.2.2.2.2.2.2.2.2.2.2.2)) ++ [tlW D aν a12 a13 a14 a15 z10.2.1 z10.2.2.1 z10.2.2.2.1 z10.2.2.2.2]) [0, 1, 2, 4, 5, 6, 7, 8, 10, 11, 12]) (bk (tbW D (aρ 2) (aρ 8) (10 : Int32) (3 : Int32) 30 (z18.1, z18.2))) [0, 1, 2, 11, 3, 4, 5, 6, 7, 12, 8, 9, 10] rfl rfl rfl rfl (by decide +kernel) ?_
            refine r_aload_n h 1 rfl rfl dX3_addCable_72 ?_
            refine r_get h fl_X3_12 0 rfl rfl dX3_addCable_73 ?_
            refine r_get h fl_X3_89 1 rfl rfl dX3_addCable_76 ?_
            refine r_iload h 0 rfl dX3_addCable_79 ?_
            refine r_iconst (v := 1) h dX3_addCable_81 (by decide) ?_
            refine r_iload_n h 3 rfl rfl dX3_addCable_82 ?_
            obtain ⟨z20, e21, hF⟩ := o_bind hF
            refine r_callVB (N0 := 13) (q0 := 0) (rest := []) h (bk (rkW D aθ (aρ 0) pθ_spare aν pθ_text z10.1 ++ rmW D aρ (ρ.1, z18.2, ρ.2.2.1, ρ.2.2.2.1, ρ.2.2.2.2.1, ρ.2.2.2.2.2.1, ρ.2.2.2.2.2.2.1, z18.1, ρ.2.2.2.2.2.2.2.2.1, ρ.2.2.2.2.2.2.2.2.2.1, ρ.2.2.2.2.2.2.2.2.2.2.1, ρ.2.2.2.2.2.2.2.2.2.2.2.1, ρ.2.2.2.2.2.2.2.2.2.2.2.2.1, ρ.2.2.2.2.2.2.2.2.2.2.2.2.2)) ++ [tlW D aν a12 a13 a14 a15 z10.2.1 z10.2.2.1 z10.2.2.2.1 z10.2.2.2.2]) [3, 9] [0, 1, 2, 4, 5, 6, 7, 8, 10, 11, 12] hd_X2_put wm_578 dX3_addCable_83 (CX2_put l D (aρ 2) (aρ 8) (10 : Int32) (3 : Int32) 30 (z18.1, z18.2) z16.1 (1 : Int32) x2 z20 e21) rfl rfl rfl (by decide +kernel) rfl rfl rfl ⟨rfl, rfl⟩ ⟨by decide, by decide⟩ (Nat.le_of_ble_eq_true rfl) ⟨by decide, by decide⟩ rfl (fun v w' hp => ?_)
            obtain ⟨rfl, rfl⟩ := hp
            refine J.blk2 (ws' := [rkW D aθ (aρ 0) pθ_spare aν pθ_text z10.1, rmW D aρ (ρ.1, z20.2, ρ.2.2.1, ρ.2.2.2.1, ρ.2.2.2.2.1, ρ.2.2.2.2.2.1, ρ.2.2.2.2.2.2.1, z20.1, ρ.2.2.2.2.2.2.2.2.1, ρ.2.2.2.2.2.2.2.2.2.1, ρ.2.2.2.2.2.2.2.2.2.2.1, ρ.2.2.2.2.2.2.2.2.2.2.2.1, ρ.2.2.2.2.2.2.2.2.2.2.2.2.1, ρ.2.2.2.2.2.2.2.2.2.2.2.2.2), tlW D aν a12 a13 a14 a15 z10.2.1 z10.2.2.1 z10.2.2.2.1 z10.2.2.2.2].flatten) 13 (pkB (bk (rkW D aθ (aρ 0) pθ_spare aν pθ_text z10.1 ++ rmW D aρ (ρ.1, z18.2, ρ.2.2.1, ρ.2.2.2.1, ρ.2.2.2.2.1, ρ.2.2.2.2.2.1, ρ.2.2.2.2.2.2.1, z18.1, ρ.2.2.2.2.2.2.2.2.1, ρ.2.2.2.2.2.2.2.2.2.1, ρ.2.2.2.2.2.2.2.2.2.2.1, ρ.2.2.2.2.2.2.2.2.2.2.2.1, ρ.2.2.2.2.2.2.2.2.2.2.2.2.1, ρ.2.2.2.2.2.2.2.2.2.2.2.2.2)) ++ [tlW D aν a12 a13 a14 a15 z10.2.1 z10.2.2.1 z10.2.2.2.1 z10.2.2.2.2]) [0, 1, 2, 4, 5, 6, 7, 8, 10, 11, 12]) (bk (tbW D (aρ 2) (aρ 8) (10 : Int32) (3 : Int32) 30 (z20.1, z20.2))) [0, 1, 2, 11, 3, 4, 5, 6, 7, 12, 8, 9, 10] rfl rfl rfl rfl (by decide +kernel) ?_
            refine r_aload_n h 1 rfl rfl dX3_addCable_86 ?_
            refine r_get h fl_X3_12 0 rfl rfl dX3_addCable_87 ?_
            refine r_get h fl_X3_89 1 rfl rfl dX3_addCable_90 ?_
            refine r_iload h 0 rfl dX3_addCable_93 ?_
            refine r_iconst (v := 2) h dX3_addCable_95 (by decide) ?_
            refine r_iload_n h 4 rfl rfl dX3_addCable_96 ?_
            obtain ⟨z22, e23, hF⟩ := o_bind hF
            refine r_callVB (N0 := 13) (q0 := 0) (rest := []) h (bk (rkW D aθ (aρ 0) pθ_spare aν pθ_text z10.1 ++ rmW D aρ (ρ.1, z20.2, ρ.2.2.1, ρ.2.2.2.1, ρ.2.2.2.2.1, ρ.2.2.2.2.2.1, ρ.2.2.2.2.2.2.1, z20.1, ρ.2.2.2.2.2.2.2.2.1, ρ.2.2.2.2.2.2.2.2.2.1, ρ.2.2.2.2.2.2.2.2.2.2.1, ρ.2.2.2.2.2.2.2.2.2.2.2.1, ρ.2.2.2.2.2.2.2.2.2.2.2.2.1, ρ.2.2.2.2.2.2.2.2.2.2.2.2.2)) ++ [tlW D aν a12 a13 a14 a15 z10.2.1 z10.2.2.1 z10.2.2.2.1 z10.2.2.2.2]) [3, 9] [0, 1, 2, 4, 5, 6, 7, 8, 10, 11, 12] hd_X2_put wm_578 dX3_addCable_97 (CX2_put l D (aρ 2) (aρ 8) (10 : Int32) (3 : Int32) 30 (z20.1, z20.2) z16.1 (2 : Int32) x3 z22 e23) rfl rfl rfl (by decide +kernel) rfl rfl rfl ⟨rfl, rfl⟩ ⟨by decide, by decide⟩ (Nat.le_of_ble_eq_true rfl) ⟨by decide, by decide⟩ rfl (fun v w' hp => ?_)
            obtain ⟨rfl, rfl⟩ := hp
            refine J.blk2 (ws' := [rkW D aθ (aρ 0) pθ_spare aν pθ_text z10.1, rmW D aρ (ρ.1, z22.2, ρ.2.2.1, ρ.2.2.2.1, ρ.2.2.2.2.1, ρ.2.2.2.2.2.1, ρ.2.2.2.2.2.2.1, z22.1, ρ.2.2.2.2.2.2.2.2.1, ρ.2.2.2.2.2.2.2.2.2.1, ρ.2.2.2.2.2.2.2.2.2.2.1, ρ.2.2.2.2.2.2.2.2.2.2.2.1, ρ.2.2.2.2.2.2.2.2.2.2.2.2.1, ρ.2.2.2.2.2.2.2.2.2.2.2.2.2), tlW D aν a12 a13 a14 a15 z10.2.1 z10.2.2.1 z10.2.2.2.1 z10.2.2.2.2].flatten) 13 (pkB (bk (rkW D aθ (aρ 0) pθ_spare aν pθ_text z10.1 ++ rmW D aρ (ρ.1, z20.2, ρ.2.2.1, ρ.2.2.2.1, ρ.2.2.2.2.1, ρ.2.2.2.2.2.1, ρ.2.2.2.2.2.2.1, z20.1, ρ.2.2.2.2.2.2.2.2.1, ρ.2.2.2.2.2.2.2.2.2.1, ρ.2.2.2.2.2.2.2.2.2.2.1, ρ.2.2.2.2.2.2.2.2.2.2.2.1, ρ.2.2.2.2.2.2.2.2.2.2.2.2.1, ρ.2.2.2.2.2.2.2.2.2.2.2.2.2)) ++ [tlW D aν a12 a13 a14 a15 z10.2.1 z10.2.2.1 z10.2.2.2.1 z10.2.2.2.2]) [0, 1, 2, 4, 5, 6, 7, 8, 10, 11, 12]) (bk (tbW D (aρ 2) (aρ 8) (10 : Int32) (3 : Int32) 30 (z22.1, z22.2))) [0, 1, 2, 11, 3, 4, 5, 6, 7, 12, 8, 9, 10] rfl rfl rfl rfl (by decide +kernel) ?_
            refine r_iload h 0 rfl dX3_addCable_100 ?_
            cases hF
      · replace hF := o_pos c5 hF
        cases hF
        exact r_throw (E := exn 2) (text := "a cable joins two different machines") h hx ht hl0 thf_2 (by decide +kernel) dX3_addCable_15 dX3_addCable_18 dX3_addCable_19 dX3_addCable_21 dX3_addCable_24 ⟨by decide, Nat.le_of_ble_eq_true rfl, by decide, by decide⟩ ⟨by decide, by decide⟩

def FX3_removeCable (θ : Int32) (ρ : RS) (S0 : RS) (S1 : RS) (S2 : RS) (S3 : RS) (x1 : Int32) : Option (Nat ⊕ (Int32 × Int32 × RS × RS × RS × RS × RS)) :=
  bX (FX3_checkCable θ ρ x1) fun z1 =>
  (FX3_save θ ρ S0 S1 S2 S3).bind fun z3 =>
  (FX2_removeRow (10 : Int32) (3 : Int32) 30 (ρ.2.2.2.2.2.2.2.1, ρ.2.1) x1).bind fun z9 =>
  some (.inr (z9.1, z3.1, (ρ.1, z9.2, ρ.2.2.1, ρ.2.2.2.1, ρ.2.2.2.2.1, ρ.2.2.2.2.2.1, ρ.2.2.2.2.2.2.1, z9.1, ρ.2.2.2.2.2.2.2.2.1, ρ.2.2.2.2.2.2.2.2.2.1, ρ.2.2.2.2.2.2.2.2.2.2.1, ρ.2.2.2.2.2.2.2.2.2.2.2.1, ρ.2.2.2.2.2.2.2.2.2.2.2.2.1, ρ.2.2.2.2.2.2.2.2.2.2.2.2.2), z3.2.1, z3.2.2.1, z3.2.2.2.1, z3.2.2.2.2))
abbrev rmX3_removeCable : Room := { frames := 4, cells := 0, slots := 0, locals := 124 }
set_option maxHeartbeats 4000000 in
set_option maxRecDepth 100000 in
theorem CX3_removeCable (l : Launch) (D : va_G) (aθ : Nat) (pθ_spare : Nat) (pθ_text : Nat) (aρ : Nat → Nat) (aν : Nat) (aS0 : Nat → Nat) (aS1 : Nat → Nat) (aS2 : Nat → Nat) (aS3 : Nat → Nat) (θ : Int32) (ρ : RS) (S0 : RS) (S1 : RS) (S2 : RS) (S3 : RS) (x1 : Int32) (r0 : Int32) (θ0 : Int32) (ρ0 : RS) (S00 : RS) (S10 : RS) (S20 : RS) (S30 : RS) (hF : FX3_removeCable θ ρ S0 S1 S2 S3 x1 = some (.inr (r0, θ0, ρ0, S00, S10, S20, S30))) : Ct l D yX3_removeCable cX3_removeCable 2 (some .int) rmX3_removeCable 0 0 [.ref aθ, .int x1] ([rkW D aθ (aρ 0) pθ_spare aν pθ_text θ, rmW D aρ ρ, tlW D aν aS0 aS1 aS2 aS3 S0 S1 S2 S3].flatten) (fun v w => v = some (.int r0) ∧ ∃ (bS0 : Nat → Nat) (bS1 : Nat → Nat) (bS2 : Nat → Nat) (bS3 : Nat → Nat), w = [rkW D aθ (aρ 0) pθ_spare aν pθ_text θ0, rmW D aρ ρ0, tlW D aν bS0 bS1 bS2 bS3 S00 S10 S20 S30].flatten) := by
  refine Ct.of (own := RX3) (lv := [(0, .ref aθ), (1, .int x1)]) (by decide +kernel) rfl (Nat.le_of_ble_eq_true rfl) rfl (fun X h hr => ?_)
  unfold FX3_removeCable at hF
  refine r_aload_n h 0 rfl rfl dX3_removeCable_0 ?_
  refine r_iload_n h 1 rfl rfl dX3_removeCable_1 ?_
  rcases o_bX hF with ⟨k_z1, e2, hF⟩ | ⟨z1, e2, hF⟩
  · cases hF
  · refine r_callVB (N0 := 3) (q0 := 0) (rest := []) h [rkW D aθ (aρ 0) pθ_spare aν pθ_text θ, rmW D aρ ρ, tlW D aν aS0 aS1 aS2 aS3 S0 S1 S2 S3] [0, 1] [2] hd_X3_checkCable wm_515 dX3_removeCable_2 (CX3_checkCable l D aθ pθ_spare aν pθ_text aρ θ ρ x1 e2) rfl rfl rfl (by decide +kernel) rfl rfl rfl ⟨rfl, rfl⟩ ⟨by decide, by decide⟩ (Nat.le_of_ble_eq_true rfl) ⟨by decide, by decide⟩ rfl (fun v w' hp => ?_)
    obtain ⟨rfl, rfl⟩ := hp
    refine J.blk2 (ws' := [rkW D aθ (aρ 0) pθ_spare aν pθ_text θ, rmW D aρ ρ, tlW D aν aS0 aS1 aS2 aS3 S0 S1 S2 S3].flatten) 3 (pkB [rkW D aθ (aρ 0) pθ_spare aν pθ_text θ, rmW D aρ ρ, tlW D aν aS0 aS1 aS2 aS3 S0 S1 S2 S3] [2]) ([rkW D aθ (aρ 0) pθ_spare aν pθ_text θ, rmW D aρ ρ]) [1, 2, 0] rfl rfl rfl rfl (by decide +kernel) ?_
    refine r_aload_n h 0 rfl rfl dX3_removeCable_5 ?_
    obtain ⟨z3, e4, hF⟩ := o_bind hF
    refine r_callVB (N0 := 3) (q0 := 0) (rest := []) h [rkW D aθ (aρ 0) pθ_spare aν pθ_text θ, rmW D aρ ρ, tlW D aν aS0 aS1 aS2 aS3 S0 S1 S2 S3] [0, 1, 2] [] hd_X3_save wm_209 dX3_removeCable_6 (CX3_save l D aθ pθ_spare pθ_text aρ aν aS0 aS1 aS2 aS3 θ ρ S0 S1 S2 S3 z3.1 z3.2.1 z3.2.2.1 z3.2.2.2.1 z3.2.2.2.2 e4) rfl rfl rfl (by decide +kernel) rfl rfl rfl ⟨rfl, rfl⟩ ⟨by decide, by decide⟩ (Nat.le_of_ble_eq_true rfl) ⟨by decide, by decide⟩ rfl (fun v w' hp => ?_)
    obtain ⟨rfl, a5, a6, a7, a8, rfl⟩ := hp
    refine J.blk2 (ws' := [rkW D aθ (aρ 0) pθ_spare aν pθ_text z3.1, rmW D aρ ρ, tlW D aν a5 a6 a7 a8 z3.2.1 z3.2.2.1 z3.2.2.2.1 z3.2.2.2.2].flatten) 3 (pkB [rkW D aθ (aρ 0) pθ_spare aν pθ_text θ, rmW D aρ ρ, tlW D aν aS0 aS1 aS2 aS3 S0 S1 S2 S3] []) ([rkW D aθ (aρ 0) pθ_spare aν pθ_text z3.1, rmW D aρ ρ, tlW D aν a5 a6 a7 a8 z3.2.1 z3.2.2.1 z3.2.2.2.1 z3.2.2.2.2]) [0, 1, 2] rfl rfl rfl rfl (by decide +kernel) ?_
    refine r_aload_n h 0 rfl rfl dX3_removeCable_9 ?_
    refine r_get h fl_X3_12 0 rfl rfl dX3_removeCable_10 ?_
    refine r_get h fl_X3_89 1 rfl rfl dX3_removeCable_13 ?_
    refine r_iload_n h 1 rfl rfl dX3_removeCable_16 ?_
    obtain ⟨z9, e10, hF⟩ := o_bind hF
    refine r_callVB (N0 := 13) (q0 := 0) (rest := []) h (bk (rkW D aθ (aρ 0) pθ_spare aν pθ_text z3.1 ++ rmW D aρ ρ) ++ [tlW D aν a5 a6 a7 a8 z3.2.1 z3.2.2.1 z3.2.2.2.1 z3.2.2.2.2]) [3, 9] [0, 1, 2, 4, 5, 6, 7, 8, 10, 11, 12] hd_X2_removeRow wm_595 dX3_removeCable_17 (CX2_removeRow l D (aρ 2) (aρ 8) (10 : Int32) (3 : Int32) 30 (ρ.2.2.2.2.2.2.2.1, ρ.2.1) x1 z9 e10) rfl rfl rfl (by decide +kernel) rfl rfl rfl ⟨rfl, rfl⟩ ⟨by decide, by decide⟩ (Nat.le_of_ble_eq_true rfl) ⟨by decide, by decide⟩ rfl (fun v w' hp => ?_)
    obtain ⟨rfl, rfl⟩ := hp
    refine J.blk2 (ws' := [rkW D aθ (aρ 0) pθ_spare aν pθ_text z3.1, rmW D aρ (ρ.1, z9.2, ρ.2.2.1, ρ.2.2.2.1, ρ.2.2.2.2.1, ρ.2.2.2.2.2.1, ρ.2.2.2.2.2.2.1, z9.1, ρ.2.2.2.2.2.2.2.2.1, ρ.2.2.2.2.2.2.2.2.2.1, ρ.2.2.2.2.2.2.2.2.2.2.1, ρ.2.2.2.2.2.2.2.2.2.2.2.1, ρ.2.2.2.2.2.2.2.2.2.2.2.2.1, ρ.2.2.2.2.2.2.2.2.2.2.2.2.2), tlW D aν a5 a6 a7 a8 z3.2.1 z3.2.2.1 z3.2.2.2.1 z3.2.2.2.2].flatten) 13 (pkB (bk (rkW D aθ (aρ 0) pθ_spare aν pθ_text z3.1 ++ rmW D aρ ρ) ++ [tlW D aν a5 a6 a7 a8 z3.2.1 z3.2.2.1 z3.2.2.2.1 z3.2.2.2.2]) [0, 1, 2, 4, 5, 6, 7, 8, 10, 11, 12]) (bk (tbW D (aρ 2) (aρ 8) (10 : Int32) (3 : Int32) 30 (z9.1, z9.2))) [0, 1, 2, 11, 3, 4, 5, 6, 7, 12, 8, 9, 10] rfl rfl rfl rfl (by decide +kernel) ?_
    refine r_aload_n h 0 rfl rfl dX3_removeCable_20 ?_
    refine r_get h fl_X3_12 0 rfl rfl dX3_removeCable_21 ?_
    refine r_get h fl_X3_89 1 rfl rfl dX3_removeCable_24 ?_
    refine r_get h fl_X3_98 3 rfl rfl dX3_removeCable_27 ?_
    cases hF
    exact r_iret h hr dX3_removeCable_30 ⟨rfl, a5, a6, a7, a8, rfl⟩

abbrev rmTX3_removeCable : Room := { frames := 7, cells := 1, slots := 6, locals := 124 }
set_option maxHeartbeats 4000000 in
set_option maxRecDepth 100000 in
theorem TX3_removeCable (l : Launch) (hl0 : l.stackTraces = false) (D : va_G) (aθ : Nat) (pθ_spare : Nat) (pθ_text : Nat) (aρ : Nat → Nat) (aν : Nat) (aS0 : Nat → Nat) (aS1 : Nat → Nat) (aS2 : Nat → Nat) (aS3 : Nat → Nat) (θ : Int32) (ρ : RS) (S0 : RS) (S1 : RS) (S2 : RS) (S3 : RS) (x1 : Int32) (k0 : Nat) (hF : FX3_removeCable θ ρ S0 S1 S2 S3 x1 = some (.inl k0)) : CtT l D yX3_removeCable cX3_removeCable 2 (some .int) rmTX3_removeCable 1 6 [.ref aθ, .int x1] ([rkW D aθ (aρ 0) pθ_spare aν pθ_text θ, rmW D aρ ρ, tlW D aν aS0 aS1 aS2 aS3 S0 S1 S2 S3].flatten) (exn k0) := by
  refine CtT.of (own := RX3) (lv := [(0, .ref aθ), (1, .int x1)]) (by decide +kernel) rfl (Nat.le_of_ble_eq_true rfl) rfl (fun X h hx ht => ?_)
  unfold FX3_removeCable at hF
  refine r_aload_n h 0 rfl rfl dX3_removeCable_0 ?_
  refine r_iload_n h 1 rfl rfl dX3_removeCable_1 ?_
  rcases o_bX hF with ⟨k_z1, e2, hF⟩ | ⟨z1, e2, hF⟩
  · cases hF
    exact r_callTVB (N0 := 3) (q0 := 0) (rest := []) h hx ht [rkW D aθ (aρ 0) pθ_spare aν pθ_text θ, rmW D aρ ρ, tlW D aν aS0 aS1 aS2 aS3 S0 S1 S2 S3] [0, 1] [2] hd_X3_checkCable wm_515 dX3_removeCable_2 (TX3_checkCable l hl0 D aθ pθ_spare aν pθ_text aρ θ ρ x1 _ e2) rfl rfl rfl (by decide +kernel) rfl rfl rfl ⟨rfl, rfl⟩ ⟨by decide, by decide⟩ (Nat.le_of_ble_eq_true rfl) ⟨by decide, by decide⟩ ⟨by decide, by decide⟩ rfl
  · refine r_callVB (N0 := 3) (q0 := 0) (rest := []) h [rkW D aθ (aρ 0) pθ_spare aν pθ_text θ, rmW D aρ ρ, tlW D aν aS0 aS1 aS2 aS3 S0 S1 S2 S3] [0, 1] [2] hd_X3_checkCable wm_515 dX3_removeCable_2 (CX3_checkCable l D aθ pθ_spare aν pθ_text aρ θ ρ x1 e2) rfl rfl rfl (by decide +kernel) rfl rfl rfl ⟨rfl, rfl⟩ ⟨by decide, by decide⟩ (Nat.le_of_ble_eq_true rfl) ⟨by decide, by decide⟩ rfl (fun v w' hp => ?_)
    obtain ⟨rfl, rfl⟩ := hp
    refine J.blk2 (ws' := [rkW D aθ (aρ 0) pθ_spare aν pθ_text θ, rmW D aρ ρ, tlW D aν aS0 aS1 aS2 aS3 S0 S1 S2 S3].flatten) 3 (pkB [rkW D aθ (aρ 0) pθ_spare aν pθ_text θ, rmW D aρ ρ, tlW D aν aS0 aS1 aS2 aS3 S0 S1 S2 S3] [2]) ([rkW D aθ (aρ 0) pθ_spare aν pθ_text θ, rmW D aρ ρ]) [1, 2, 0] rfl rfl rfl rfl (by decide +kernel) ?_
    refine r_aload_n h 0 rfl rfl dX3_removeCable_5 ?_
    obtain ⟨z3, e4, hF⟩ := o_bind hF
    refine r_callVB (N0 := 3) (q0 := 0) (rest := []) h [rkW D aθ (aρ 0) pθ_spare aν pθ_text θ, rmW D aρ ρ, tlW D aν aS0 aS1 aS2 aS3 S0 S1 S2 S3] [0, 1, 2] [] hd_X3_save wm_209 dX3_removeCable_6 (CX3_save l D aθ pθ_spare pθ_text aρ aν aS0 aS1 aS2 aS3 θ ρ S0 S1 S2 S3 z3.1 z3.2.1 z3.2.2.1 z3.2.2.2.1 z3.2.2.2.2 e4) rfl rfl rfl (by decide +kernel) rfl rfl rfl ⟨rfl, rfl⟩ ⟨by decide, by decide⟩ (Nat.le_of_ble_eq_true rfl) ⟨by decide, by decide⟩ rfl (fun v w' hp => ?_)
    obtain ⟨rfl, a5, a6, a7, a8, rfl⟩ := hp
    refine J.blk2 (ws' := [rkW D aθ (aρ 0) pθ_spare aν pθ_text z3.1, rmW D aρ ρ, tlW D aν a5 a6 a7 a8 z3.2.1 z3.2.2.1 z3.2.2.2.1 z3.2.2.2.2].flatten) 3 (pkB [rkW D aθ (aρ 0) pθ_spare aν pθ_text θ, rmW D aρ ρ, tlW D aν aS0 aS1 aS2 aS3 S0 S1 S2 S3] []) ([rkW D aθ (aρ 0) pθ_spare aν pθ_text z3.1, rmW D aρ ρ, tlW D aν a5 a6 a7 a8 z3.2.1 z3.2.2.1 z3.2.2.2.1 z3.2.2.2.2]) [0, 1, 2] rfl rfl rfl rfl (by decide +kernel) ?_
    refine r_aload_n h 0 rfl rfl dX3_removeCable_9 ?_
    refine r_get h fl_X3_12 0 rfl rfl dX3_removeCable_10 ?_
    refine r_get h fl_X3_89 1 rfl rfl dX3_removeCable_13 ?_
    refine r_iload_n h 1 rfl rfl dX3_removeCable_16 ?_
    obtain ⟨z9, e10, hF⟩ := o_bind hF
    refine r_callVB (N0 := 13) (q0 := 0) (rest := []) h (bk (rkW D aθ (aρ 0) pθ_spare aν pθ_text z3.1 ++ rmW D aρ ρ) ++ [tlW D aν a5 a6 a7 a8 z3.2.1 z3.2.2.1 z3.2.2.2.1 z3.2.2.2.2]) [3, 9] [0, 1, 2, 4, 5, 6, 7, 8, 10, 11, 12] hd_X2_removeRow wm_595 dX3_removeCable_17 (CX2_removeRow l D (aρ 2) (aρ 8) (10 : Int32) (3 : Int32) 30 (ρ.2.2.2.2.2.2.2.1, ρ.2.1) x1 z9 e10) rfl rfl rfl (by decide +kernel) rfl rfl rfl ⟨rfl, rfl⟩ ⟨by decide, by decide⟩ (Nat.le_of_ble_eq_true rfl) ⟨by decide, by decide⟩ rfl (fun v w' hp => ?_)
    obtain ⟨rfl, rfl⟩ := hp
    refine J.blk2 (ws' := [rkW D aθ (aρ 0) pθ_spare aν pθ_text z3.1, rmW D aρ (ρ.1, z9.2, ρ.2.2.1, ρ.2.2.2.1, ρ.2.2.2.2.1, ρ.2.2.2.2.2.1, ρ.2.2.2.2.2.2.1, z9.1, ρ.2.2.2.2.2.2.2.2.1, ρ.2.2.2.2.2.2.2.2.2.1, ρ.2.2.2.2.2.2.2.2.2.2.1, ρ.2.2.2.2.2.2.2.2.2.2.2.1, ρ.2.2.2.2.2.2.2.2.2.2.2.2.1, ρ.2.2.2.2.2.2.2.2.2.2.2.2.2), tlW D aν a5 a6 a7 a8 z3.2.1 z3.2.2.1 z3.2.2.2.1 z3.2.2.2.2].flatten) 13 (pkB (bk (rkW D aθ (aρ 0) pθ_spare aν pθ_text z3.1 ++ rmW D aρ ρ) ++ [tlW D aν a5 a6 a7 a8 z3.2.1 z3.2.2.1 z3.2.2.2.1 z3.2.2.2.2]) [0, 1, 2, 4, 5, 6, 7, 8, 10, 11, 12]) (bk (tbW D (aρ 2) (aρ 8) (10 : Int32) (3 : Int32) 30 (z9.1, z9.2))) [0, 1, 2, 11, 3, 4, 5, 6, 7, 12, 8, 9, 10] rfl rfl rfl rfl (by decide +kernel) ?_
    refine r_aload_n h 0 rfl rfl dX3_removeCable_20 ?_
    refine r_get h fl_X3_12 0 rfl rfl dX3_removeCable_21 ?_
    refine r_get h fl_X3_89 1 rfl rfl dX3_removeCable_24 ?_
    refine r_get h fl_X3_98 3 rfl rfl dX3_removeCable_27 ?_
    cases hF

def FX3_addFreeze (θ : Int32) (ρ : RS) (S0 : RS) (S1 : RS) (S2 : RS) (S3 : RS) (x1 : Int32) (x2 : Int32) (x3 : Int32) : Option (Nat ⊕ (Int32 × Int32 × RS × RS × RS × RS × RS)) :=
  bX (FX3_checkRange x1 (0 : Int32) (3 : Int32)) fun z1 =>
  bX (FX3_checkRange x2 (0 : Int32) (999 : Int32)) fun z3 =>
  bX (FX3_checkRange x3 (1 : Int32) (99 : Int32)) fun z5 =>
  bX (FX3_checkSpace (6 : Int32) (3 : Int32) 18 (ρ.2.2.2.2.2.2.2.2.1, ρ.2.2.1)) fun z7 =>
  (FX3_save θ ρ S0 S1 S2 S3).bind fun z9 =>
  (FX2_addRow (6 : Int32) (3 : Int32) 18 (ρ.2.2.2.2.2.2.2.2.1, ρ.2.2.1)).bind fun z15 =>
  (FX2_put (6 : Int32) (3 : Int32) 18 (z15.2.1, z15.2.2) z15.1 (0 : Int32) x1).bind fun z17 =>
  (FX2_put (6 : Int32) (3 : Int32) 18 (z17.1, z17.2) z15.1 (1 : Int32) x2).bind fun z19 =>
  (FX2_put (6 : Int32) (3 : Int32) 18 (z19.1, z19.2) z15.1 (2 : Int32) x3).bind fun z21 =>
  some (.inr (z15.1, z9.1, (ρ.1, ρ.2.1, z21.2, ρ.2.2.2.1, ρ.2.2.2.2.1, ρ.2.2.2.2.2.1, ρ.2.2.2.2.2.2.1, ρ.2.2.2.2.2.2.2.1, z21.1, ρ.2.2.2.2.2.2.2.2.2.1, ρ.2.2.2.2.2.2.2.2.2.2.1, ρ.2.2.2.2.2.2.2.2.2.2.2.1, ρ.2.2.2.2.2.2.2.2.2.2.2.2.1, ρ.2.2.2.2.2.2.2.2.2.2.2.2.2), z9.2.1, z9.2.2.1, z9.2.2.2.1, z9.2.2.2.2))
abbrev rmX3_addFreeze : Room := { frames := 4, cells := 0, slots := 0, locals := 124 }
set_option maxHeartbeats 4000000 in
set_option maxRecDepth 100000 in
theorem CX3_addFreeze (l : Launch) (D : va_G) (aθ : Nat) (pθ_spare : Nat) (pθ_text : Nat) (aρ : Nat → Nat) (aν : Nat) (aS0 : Nat → Nat) (aS1 : Nat → Nat) (aS2 : Nat → Nat) (aS3 : Nat → Nat) (θ : Int32) (ρ : RS) (S0 : RS) (S1 : RS) (S2 : RS) (S3 : RS) (x1 : Int32) (x2 : Int32) (x3 : Int32) (r0 : Int32) (θ0 : Int32) (ρ0 : RS) (S00 : RS) (S10 : RS) (S20 : RS) (S30 : RS) (hF : FX3_addFreeze θ ρ S0 S1 S2 S3 x1 x2 x3 = some (.inr (r0, θ0, ρ0, S00, S10, S20, S30))) : Ct l D yX3_addFreeze cX3_addFreeze 5 (some .int) rmX3_addFreeze 0 0 [.ref aθ, .int x1, .int x2, .int x3] ([rkW D aθ (aρ 0) pθ_spare aν pθ_text θ, rmW D aρ ρ, tlW D aν aS0 aS1 aS2 aS3 S0 S1 S2 S3].flatten) (fun v w => v = some (.int r0) ∧ ∃ (bS0 : Nat → Nat) (bS1 : Nat → Nat) (bS2 : Nat → Nat) (bS3 : Nat → Nat), w = [rkW D aθ (aρ 0) pθ_spare aν pθ_text θ0, rmW D aρ ρ0, tlW D aν bS0 bS1 bS2 bS3 S00 S10 S20 S30].flatten) := by
  refine Ct.of (own := RX3) (lv := [(0, .ref aθ), (1, .int x1), (2, .int x2), (3, .int x3)]) (by decide +kernel) rfl (Nat.le_of_ble_eq_true rfl) rfl (fun X h hr => ?_)
  unfold FX3_addFreeze at hF
  refine r_iload_n h 1 rfl rfl dX3_addFreeze_0 ?_
  refine r_iconst (v := 0) h dX3_addFreeze_1 (by decide) ?_
  refine r_iconst (v := 3) h dX3_addFreeze_2 (by decide) ?_
  rcases o_bX hF with ⟨k_z1, e2, hF⟩ | ⟨z1, e2, hF⟩
  · cases hF
  · refine r_callSv (rest := []) h hd_X3_checkRange wm_360 dX3_addFreeze_3 (CX3_checkRange l D x1 (0 : Int32) (3 : Int32) e2) rfl ⟨rfl, rfl⟩ ⟨by decide, by decide⟩ (Nat.le_of_ble_eq_true rfl) ⟨by decide, by decide⟩ rfl ?_
    refine r_iload_n h 2 rfl rfl dX3_addFreeze_6 ?_
    refine r_iconst (v := 0) h dX3_addFreeze_7 (by decide) ?_
    refine r_sipush (v := 999) h dX3_addFreeze_8 (by decide) ?_
    rcases o_bX hF with ⟨k_z3, e4, hF⟩ | ⟨z3, e4, hF⟩
    · cases hF
    · refine r_callSv (rest := []) h hd_X3_checkRange wm_360 dX3_addFreeze_11 (CX3_checkRange l D x2 (0 : Int32) (999 : Int32) e4) rfl ⟨rfl, rfl⟩ ⟨by decide, by decide⟩ (Nat.le_of_ble_eq_true rfl) ⟨by decide, by decide⟩ rfl ?_
      refine r_iload_n h 3 rfl rfl dX3_addFreeze_14 ?_
      refine r_iconst (v := 1) h dX3_addFreeze_15 (by decide) ?_
      refine r_bipush (v := 99) h dX3_addFreeze_16 (by decide) ?_
      rcases o_bX hF with ⟨k_z5, e6, hF⟩ | ⟨z5, e6, hF⟩
      · cases hF
      · refine r_callSv (rest := []) h hd_X3_checkRange wm_360 dX3_addFreeze_18 (CX3_checkRange l D x3 (1 : Int32) (99 : Int32) e6) rfl ⟨rfl, rfl⟩ ⟨by decide, by decide⟩ (Nat.le_of_ble_eq_true rfl) ⟨by decide, by decide⟩ rfl ?_
        refine r_aload_n h 0 rfl rfl dX3_addFreeze_21 ?_
        refine r_get h fl_X3_12 0 rfl rfl dX3_addFreeze_22 ?_
        refine r_get h fl_X3_101 1 rfl rfl dX3_addFreeze_25 ?_
        rcases o_bX hF with ⟨k_z7, e8, hF⟩ | ⟨z7, e8, hF⟩
        · cases hF
        · refine r_callSB (N0 := 13) (rest := []) h (bk (rkW D aθ (aρ 0) pθ_spare aν pθ_text θ ++ rmW D aρ ρ) ++ [tlW D aν aS0 aS1 aS2 aS3 S0 S1 S2 S3]) [4, 10] [0, 1, 2, 3, 5, 6, 7, 8, 9, 11, 12] hd_X3_checkSpace wm_557 dX3_addFreeze_28 (CX3_checkSpace l D (aρ 3) (aρ 9) (6 : Int32) (3 : Int32) 18 (ρ.2.2.2.2.2.2.2.2.1, ρ.2.2.1) e8) rfl rfl rfl (by decide +kernel) rfl ⟨rfl, rfl⟩ ⟨by decide, by decide⟩ (Nat.le_of_ble_eq_true rfl) ⟨by decide, by decide⟩ rfl (fun v w' hp => ?_)
          obtain ⟨rfl, rfl⟩ := hp
          refine J.blk2 (ws' := [rkW D aθ (aρ 0) pθ_spare aν pθ_text θ, rmW D aρ ρ, tlW D aν aS0 aS1 aS2 aS3 S0 S1 S2 S3].flatten) 13 (pkB (bk (rkW D aθ (aρ 0) pθ_spare aν pθ_text θ ++ rmW D aρ ρ) ++ [tlW D aν aS0 aS1 aS2 aS3 S0 S1 S2 S3]) [0, 1, 2, 3, 5, 6, 7, 8, 9, 11, 12]) (bk (tbW D (aρ 3) (aρ 9) (6 : Int32) (3 : Int32) 18 (ρ.2.2.2.2.2.2.2.2.1, ρ.2.2.1))) [0, 1, 2, 3, 11, 4, 5, 6, 7, 8, 12, 9, 10] rfl rfl rfl rfl (by decide +kernel) ?_
          refine r_aload_n h 0 rfl rfl dX3_addFreeze_31 ?_
          obtain ⟨z9, e10, hF⟩ := o_bind hF
          refine r_callVB (N0 := 3) (q0 := 0) (rest := []) h [rkW D aθ (aρ 0) pθ_spare aν pθ_text θ, rmW D aρ ρ, tlW D aν aS0 aS1 aS2 aS3 S0 S1 S2 S3] [0, 1, 2] [] hd_X3_save wm_209 dX3_addFreeze_32 (CX3_save l D aθ pθ_spare pθ_text aρ aν aS0 aS1 aS2 aS3 θ ρ S0 S1 S2 S3 z9.1 z9.2.1 z9.2.2.1 z9.2.2.2.1 z9.2.2.2.2 e10) rfl rfl rfl (by decide +kernel) rfl rfl rfl ⟨rfl, rfl⟩ ⟨by decide, by decide⟩ (Nat.le_of_ble_eq_true rfl) ⟨by decide, by decide⟩ rfl (fun v w' hp => ?_)
          obtain ⟨rfl, a11, a12, a13, a14, rfl⟩ := hp
          refine J.blk2 (ws' := [rkW D aθ (aρ 0) pθ_spare aν pθ_text z9.1, rmW D aρ ρ, tlW D aν a11 a12 a13 a14 z9.2.1 z9.2.2.1 z9.2.2.2.1 z9.2.2.2.2].flatten) 3 (pkB [rkW D aθ (aρ 0) pθ_spare aν pθ_text θ, rmW D aρ ρ, tlW D aν aS0 aS1 aS2 aS3 S0 S1 S2 S3] []) ([rkW D aθ (aρ 0) pθ_spare aν pθ_text z9.1, rmW D aρ ρ, tlW D aν a11 a12 a13 a14 z9.2.1 z9.2.2.1 z9.2.2.2.1 z9.2.2.2.2]) [0, 1, 2] rfl rfl rfl rfl (by decide +kernel) ?_
          refine r_aload_n h 0 rfl rfl dX3_addFreeze_35 ?_
          refine r_get h fl_X3_12 0 rfl rfl dX3_addFreeze_36 ?_
          refine r_get h fl_X3_101 1 rfl rfl dX3_addFreeze_39 ?_
          obtain ⟨z15, e16, hF⟩ := o_bind hF
          refine r_callVB (N0 := 13) (q0 := 0) (rest := []) h (bk (rkW D aθ (aρ 0) pθ_spare aν pθ_text z9.1 ++ rmW D aρ ρ) ++ [tlW D aν a11 a12 a13 a14 z9.2.1 z9.2.2.1 z9.2.2.2.1 z9.2.2.2.2]) [4, 10] [0, 1, 2, 3, 5, 6, 7, 8, 9, 11, 12] hd_X2_addRow wm_577 dX3_addFreeze_42 (CX2_addRow l D (aρ 3) (aρ 9) (6 : Int32) (3 : Int32) 18 (ρ.2.2.2.2.2.2.2.2.1, ρ.2.2.1) z15.1 z15.2 e16) rfl rfl rfl (by decide +kernel) rfl rfl rfl ⟨rfl, rfl⟩ ⟨by decide, by decide⟩ (Nat.le_of_ble_eq_true rfl) ⟨by decide, by decide⟩ rfl (fun v w' hp => ?_)
          obtain ⟨rfl, rfl⟩ := hp
          refine J.blk2 (ws' := [rkW D aθ (aρ 0) pθ_spare aν pθ_text z9.1, rmW D aρ (ρ.1, ρ.2.1, z15.2.2, ρ.2.2.2.1, ρ.2.2.2.2.1, ρ.2.2.2.2.2.1, ρ.2.2.2.2.2.2.1, ρ.2.2.2.2.2.2.2.1, z15.2.1, ρ.2.2.2.2.2.2.2.2.2.1, ρ.2.2.2.2.2.2.2.2.2.2.1, ρ.2.2.2.2.2.2.2.2.2.2.2.1, ρ.2.2.2.2.2.2.2.2.2.2.2.2.1, ρ.2.2.2.2.2.2.2.2.2.2.2.2.2), tlW D aν a11 a12 a13 a14 z9.2.1 z9.2.2.1 z9.2.2.2.1 z9.2.2.2.2].flatten) 13 (pkB (bk (rkW D aθ (aρ 0) pθ_spare aν pθ_text z9.1 ++ rmW D aρ ρ) ++ [tlW D aν a11 a12 a13 a14 z9.2.1 z9.2.2.1 z9.2.2.2.1 z9.2.2.2.2]) [0, 1, 2, 3, 5, 6, 7, 8, 9, 11, 12]) (bk (tbW D (aρ 3) (aρ 9) (6 : Int32) (3 : Int32) 18 (z15.2.1, z15.2.2))) [0, 1, 2, 3, 11, 4, 5, 6, 7, 8, 12, 9, 10] rfl rfl rfl rfl (by decide +kernel) ?_
          refine r_istore (lv' := [(4, .int z15.1), (0, .ref aθ), (1, .int x1), (2, .int x2), (3, .int x3)]) h dX3_addFreeze_45 (by decide) rfl ?_
          refine r_aload_n h 1 rfl rfl dX3_addFreeze_47 ?_
          refine r_get h fl_X3_12 0 rfl rfl dX3_addFreeze_48 ?_
          refine r_get h fl_X3_101 1 rfl rfl dX3_addFreeze_51 ?_
          refine r_iload h 0 rfl dX3_addFreeze_54 ?_
          refine r_iconst (v := 0) h dX3_addFreeze_56 (by decide) ?_
          refine r_iload_n h 2 rfl rfl dX3_addFreeze_57 ?_
          obtain ⟨z17, e18, hF⟩ := o_bind hF
          refine r_callVB (N0 := 13) (q0 := 0) (rest := []) h (bk (rkW D aθ (aρ 0) pθ_spare aν pθ_text z9.1 ++ rmW D aρ (ρ.1, ρ.2.1, z15.2.2, ρ.2.2.2.1, ρ.2.2.2.2.1, ρ.2.2.2.2.2.1, ρ.2.2.2.2.2.2.1, ρ.2.2.2.2.2.2.2.1, z15.2.1, ρ.2.2.2.2.2.2.2.2.2.1, ρ.2.2.2.2.2.2.2.2.2.2.1, ρ.2.2.2.2.2.2.2.2.2.2.2.1, ρ.2.2.2.2.2.2.2.2.2.2.2.2.1, ρ.2.2.2.2.2.2.2.2.2.2.2.2.2)) ++ [tlW D aν a11 a12 a13 a14 z9.2.1 z9.2.2.1 z9.2.2.2.1 z9.2.2.2.2]) [4, 10] [0, 1, 2, 3, 5, 6, 7, 8, 9, 11, 12] hd_X2_put wm_578 dX3_addFreeze_58 (CX2_put l D (aρ 3) (aρ 9) (6 : Int32) (3 : Int32) 18 (z15.2.1, z15.2.2) z15.1 (0 : Int32) x1 z17 e18) rfl rfl rfl (by decide +kernel) rfl rfl rfl ⟨rfl, rfl⟩ ⟨by decide, by decide⟩ (Nat.le_of_ble_eq_true rfl) ⟨by decide, by decide⟩ rfl (fun v w' hp => ?_)
          obtain ⟨rfl, rfl⟩ := hp
          refine J.blk2 (ws' := [rkW D aθ (aρ 0) pθ_spare aν pθ_text z9.1, rmW D aρ (ρ.1, ρ.2.1, z17.2, ρ.2.2.2.1, ρ.2.2.2.2.1, ρ.2.2.2.2.2.1, ρ.2.2.2.2.2.2.1, ρ.2.2.2.2.2.2.2.1, z17.1, ρ.2.2.2.2.2.2.2.2.2.1, ρ.2.2.2.2.2.2.2.2.2.2.1, ρ.2.2.2.2.2.2.2.2.2.2.2.1, ρ.2.2.2.2.2.2.2.2.2.2.2.2.1, ρ.2.2.2.2.2.2.2.2.2.2.2.2.2), tlW D aν a11 a12 a13 a14 z9.2.1 z9.2.2.1 z9.2.2.2.1 z9.2.2.2.2].flatten) 13 (pkB (bk (rkW D aθ (aρ 0) pθ_spare aν pθ_text z9.1 ++ rmW D aρ (ρ.1, ρ.2.1, z15.2.2, ρ.2.2.2.1, ρ.2.2.2.2.1, ρ.2.2.2.2.2.1, ρ.2.2.2.2.2.2.1, ρ.2.2.2.2.2.2.2.1, z15.2.1, ρ.2.2.2.2.2.2.2.2.2.1, ρ.2.2.2.2.2.2.2.2.2.2.1, ρ.2.2.2.2.2.2.2.2.2.2.2.1, ρ.2.2.2.2.2.2.2.2.2.2.2.2.1, ρ.2.2.2.2.2.2.2.2.2.2.2.2.2)) ++ [tlW D aν a11 a12 a13 a14 z9.2.1 z9.2.2.1 z9.2.2.2.1 z9.2.2.2.2]) [0, 1, 2, 3, 5, 6, 7, 8, 9, 11, 12]) (bk (tbW D (aρ 3) (aρ 9) (6 : Int32) (3 : Int32) 18 (z17.1, z17.2))) [0, 1, 2, 3, 11, 4, 5, 6, 7, 8, 12, 9, 10] rfl rfl rfl rfl (by decide +kernel) ?_
          refine r_aload_n h 1 rfl rfl dX3_addFreeze_61 ?_
          refine r_get h fl_X3_12 0 rfl rfl dX3_addFreeze_62 ?_
          refine r_get h fl_X3_101 1 rfl rfl dX3_addFreeze_65 ?_
          refine r_iload h 0 rfl dX3_addFreeze_68 ?_
          refine r_iconst (v := 1) h dX3_addFreeze_70 (by decide) ?_
          refine r_iload_n h 3 rfl rfl dX3_addFreeze_71 ?_
          obtain ⟨z19, e20, hF⟩ := o_bind hF
          refine r_callVB (N0 := 13) (q0 := 0) (rest := []) h (bk (rkW D aθ (aρ 0) pθ_spare aν pθ_text z9.1 ++ rmW D aρ (ρ.1, ρ.2.1, z17.2, ρ.2.2.2.1, ρ.2.2.2.2.1, ρ.2.2.2.2.2.1, ρ.2.2.2.2.2.2.1, ρ.2.2.2.2.2.2.2.1, z17.1, ρ.2.2.2.2.2.2.2.2.2.1, ρ.2.2.2.2.2.2.2.2.2.2.1, ρ.2.2.2.2.2.2.2.2.2.2.2.1, ρ.2.2.2.2.2.2.2.2.2.2.2.2.1, ρ.2.2.2.2.2.2.2.2.2.2.2.2.2)) ++ [tlW D aν a11 a12 a13 a14 z9.2.1 z9.2.2.1 z9.2.2.2.1 z9.2.2.2.2]) [4, 10] [0, 1, 2, 3, 5, 6, 7, 8, 9, 11, 12] hd_X2_put wm_578 dX3_addFreeze_72 (CX2_put l D (aρ 3) (aρ 9) (6 : Int32) (3 : Int32) 18 (z17.1, z17.2) z15.1 (1 : Int32) x2 z19 e20) rfl rfl rfl (by decide +kernel) rfl rfl rfl ⟨rfl, rfl⟩ ⟨by decide, by decide⟩ (Nat.le_of_ble_eq_true rfl) ⟨by decide, by decide⟩ rfl (fun v w' hp => ?_)
          obtain ⟨rfl, rfl⟩ := hp
          refine J.blk2 (ws' := [rkW D aθ (aρ 0) pθ_spare aν pθ_text z9.1, rmW D aρ (ρ.1, ρ.2.1, z19.2, ρ.2.2.2.1, ρ.2.2.2.2.1, ρ.2.2.2.2.2.1, ρ.2.2.2.2.2.2.1, ρ.2.2.2.2.2.2.2.1, z19.1, ρ.2.2.2.2.2.2.2.2.2.1, ρ.2.2.2.2.2.2.2.2.2.2.1, ρ.2.2.2.2.2.2.2.2.2.2.2.1, ρ.2.2.2.2.2.2.2.2.2.2.2.2.1, ρ.2.2.2.2.2.2.2.2.2.2.2.2.2), tlW D aν a11 a12 a13 a14 z9.2.1 z9.2.2.1 z9.2.2.2.1 z9.2.2.2.2].flatten) 13 (pkB (bk (rkW D aθ (aρ 0) pθ_spare aν pθ_text z9.1 ++ rmW D aρ (ρ.1, ρ.2.1, z17.2, ρ.2.2.2.1, ρ.2.2.2.2.1, ρ.2.2.2.2.2.1, ρ.2.2.2.2.2.2.1, ρ.2.2.2.2.2.2.2.1, z17.1, ρ.2.2.2.2.2.2.2.2.2.1, ρ.2.2.2.2.2.2.2.2.2.2.1, ρ.2.2.2.2.2.2.2.2.2.2.2.1, ρ.2.2.2.2.2.2.2.2.2.2.2.2.1, ρ.2.2.2.2.2.2.2.2.2.2.2.2.2)) ++ [tlW D aν a11 a12 a13 a14 z9.2.1 z9.2.2.1 z9.2.2.2.1 z9.2.2.2.2]) [0, 1, 2, 3, 5, 6, 7, 8, 9, 11, 12]) (bk (tbW D (aρ 3) (aρ 9) (6 : Int32) (3 : Int32) 18 (z19.1, z19.2))) [0, 1, 2, 3, 11, 4, 5, 6, 7, 8, 12, 9, 10] rfl rfl rfl rfl (by decide +kernel) ?_
          refine r_aload_n h 1 rfl rfl dX3_addFreeze_75 ?_
          refine r_get h fl_X3_12 0 rfl rfl dX3_addFreeze_76 ?_
          refine r_get h fl_X3_101 1 rfl rfl dX3_addFreeze_79 ?_
          refine r_iload h 0 rfl dX3_addFreeze_82 ?_
          refine r_iconst (v := 2) h dX3_addFreeze_84 (by decide) ?_
          refine r_iload_n h 4 rfl rfl dX3_addFreeze_85 ?_
          obtain ⟨z21, e22, hF⟩ := o_bind hF
          refine r_callVB (N0 := 13) (q0 := 0) (rest := []) h (bk (rkW D aθ (aρ 0) pθ_spare aν pθ_text z9.1 ++ rmW D aρ (ρ.1, ρ.2.1, z19.2, ρ.2.2.2.1, ρ.2.2.2.2.1, ρ.2.2.2.2.2.1, ρ.2.2.2.2.2.2.1, ρ.2.2.2.2.2.2.2.1, z19.1, ρ.2.2.2.2.2.2.2.2.2.1, ρ.2.2.2.2.2.2.2.2.2.2.1, ρ.2.2.2.2.2.2.2.2.2.2.2.1, ρ.2.2.2.2.2.2.2.2.2.2.2.2.1, ρ.2.2.2.2.2.2.2.2.2.2.2.2.2)) ++ [tlW D aν a11 a12 a13 a14 z9.2.1 z9.2.2.1 z9.2.2.2.1 z9.2.2.2.2]) [4, 10] [0, 1, 2, 3, 5, 6, 7, 8, 9, 11, 12] hd_X2_put wm_578 dX3_addFreeze_86 (CX2_put l D (aρ 3) (aρ 9) (6 : Int32) (3 : Int32) 18 (z19.1, z19.2) z15.1 (2 : Int32) x3 z21 e22) rfl rfl rfl (by decide +kernel) rfl rfl rfl ⟨rfl, rfl⟩ ⟨by decide, by decide⟩ (Nat.le_of_ble_eq_true rfl) ⟨by decide, by decide⟩ rfl (fun v w' hp => ?_)
          obtain ⟨rfl, rfl⟩ := hp
          refine J.blk2 (ws' := [rkW D aθ (aρ 0) pθ_spare aν pθ_text z9.1, rmW D aρ (ρ.1, ρ.2.1, z21.2, ρ.2.2.2.1, ρ.2.2.2.2.1, ρ.2.2.2.2.2.1, ρ.2.2.2.2.2.2.1, ρ.2.2.2.2.2.2.2.1, z21.1, ρ.2.2.2.2.2.2.2.2.2.1, ρ.2.2.2.2.2.2.2.2.2.2.1, ρ.2.2.2.2.2.2.2.2.2.2.2.1, ρ.2.2.2.2.2.2.2.2.2.2.2.2.1, ρ.2.2.2.2.2.2.2.2.2.2.2.2.2), tlW D aν a11 a12 a13 a14 z9.2.1 z9.2.2.1 z9.2.2.2.1 z9.2.2.2.2].flatten) 13 (pkB (bk (rkW D aθ (aρ 0) pθ_spare aν pθ_text z9.1 ++ rmW D aρ (ρ.1, ρ.2.1, z19.2, ρ.2.2.2.1, ρ.2.2.2.2.1, ρ.2.2.2.2.2.1, ρ.2.2.2.2.2.2.1, ρ.2.2.2.2.2.2.2.1, z19.1, ρ.2.2.2.2.2.2.2.2.2.1, ρ.2.2.2.2.2.2.2.2.2.2.1, ρ.2.2.2.2.2.2.2.2.2.2.2.1, ρ.2.2.2.2.2.2.2.2.2.2.2.2.1, ρ.2.2.2.2.2.2.2.2.2.2.2.2.2)) ++ [tlW D aν a11 a12 a13 a14 z9.2.1 z9.2.2.1 z9.2.2.2.1 z9.2.2.2.2]) [0, 1, 2, 3, 5, 6, 7, 8, 9, 11, 12]) (bk (tbW D (aρ 3) (aρ 9) (6 : Int32) (3 : Int32) 18 (z21.1, z21.2))) [0, 1, 2, 3, 11, 4, 5, 6, 7, 8, 12, 9, 10] rfl rfl rfl rfl (by decide +kernel) ?_
          refine r_iload h 0 rfl dX3_addFreeze_89 ?_
          cases hF
          exact r_iret h hr dX3_addFreeze_91 ⟨rfl, a11, a12, a13, a14, rfl⟩

abbrev rmTX3_addFreeze : Room := { frames := 7, cells := 1, slots := 6, locals := 124 }
set_option maxHeartbeats 4000000 in
set_option maxRecDepth 100000 in
theorem TX3_addFreeze (l : Launch) (hl0 : l.stackTraces = false) (D : va_G) (aθ : Nat) (pθ_spare : Nat) (pθ_text : Nat) (aρ : Nat → Nat) (aν : Nat) (aS0 : Nat → Nat) (aS1 : Nat → Nat) (aS2 : Nat → Nat) (aS3 : Nat → Nat) (θ : Int32) (ρ : RS) (S0 : RS) (S1 : RS) (S2 : RS) (S3 : RS) (x1 : Int32) (x2 : Int32) (x3 : Int32) (k0 : Nat) (hF : FX3_addFreeze θ ρ S0 S1 S2 S3 x1 x2 x3 = some (.inl k0)) : CtT l D yX3_addFreeze cX3_addFreeze 5 (some .int) rmTX3_addFreeze 1 6 [.ref aθ, .int x1, .int x2, .int x3] ([rkW D aθ (aρ 0) pθ_spare aν pθ_text θ, rmW D aρ ρ, tlW D aν aS0 aS1 aS2 aS3 S0 S1 S2 S3].flatten) (exn k0) := by
  refine CtT.of (own := RX3) (lv := [(0, .ref aθ), (1, .int x1), (2, .int x2), (3, .int x3)]) (by decide +kernel) rfl (Nat.le_of_ble_eq_true rfl) rfl (fun X h hx ht => ?_)
  unfold FX3_addFreeze at hF
  refine r_iload_n h 1 rfl rfl dX3_addFreeze_0 ?_
  refine r_iconst (v := 0) h dX3_addFreeze_1 (by decide) ?_
  refine r_iconst (v := 3) h dX3_addFreeze_2 (by decide) ?_
  rcases o_bX hF with ⟨k_z1, e2, hF⟩ | ⟨z1, e2, hF⟩
  · cases hF
    exact r_callTSp (rest := []) h hx ht hd_X3_checkRange wm_360 dX3_addFreeze_3 (TX3_checkRange l hl0 D x1 (0 : Int32) (3 : Int32) _ e2) rfl ⟨rfl, rfl⟩ ⟨by decide, by decide⟩ (Nat.le_of_ble_eq_true rfl) ⟨by decide, by decide⟩ ⟨by decide, by decide⟩ rfl
  · refine r_callSv (rest := []) h hd_X3_checkRange wm_360 dX3_addFreeze_3 (CX3_checkRange l D x1 (0 : Int32) (3 : Int32) e2) rfl ⟨rfl, rfl⟩ ⟨by decide, by decide⟩ (Nat.le_of_ble_eq_true rfl) ⟨by decide, by decide⟩ rfl ?_
    refine r_iload_n h 2 rfl rfl dX3_addFreeze_6 ?_
    refine r_iconst (v := 0) h dX3_addFreeze_7 (by decide) ?_
    refine r_sipush (v := 999) h dX3_addFreeze_8 (by decide) ?_
    rcases o_bX hF with ⟨k_z3, e4, hF⟩ | ⟨z3, e4, hF⟩
    · cases hF
      exact r_callTSp (rest := []) h hx ht hd_X3_checkRange wm_360 dX3_addFreeze_11 (TX3_checkRange l hl0 D x2 (0 : Int32) (999 : Int32) _ e4) rfl ⟨rfl, rfl⟩ ⟨by decide, by decide⟩ (Nat.le_of_ble_eq_true rfl) ⟨by decide, by decide⟩ ⟨by decide, by decide⟩ rfl
    · refine r_callSv (rest := []) h hd_X3_checkRange wm_360 dX3_addFreeze_11 (CX3_checkRange l D x2 (0 : Int32) (999 : Int32) e4) rfl ⟨rfl, rfl⟩ ⟨by decide, by decide⟩ (Nat.le_of_ble_eq_true rfl) ⟨by decide, by decide⟩ rfl ?_
      refine r_iload_n h 3 rfl rfl dX3_addFreeze_14 ?_
      refine r_iconst (v := 1) h dX3_addFreeze_15 (by decide) ?_
      refine r_bipush (v := 99) h dX3_addFreeze_16 (by decide) ?_
      rcases o_bX hF with ⟨k_z5, e6, hF⟩ | ⟨z5, e6, hF⟩
      · cases hF
        exact r_callTSp (rest := []) h hx ht hd_X3_checkRange wm_360 dX3_addFreeze_18 (TX3_checkRange l hl0 D x3 (1 : Int32) (99 : Int32) _ e6) rfl ⟨rfl, rfl⟩ ⟨by decide, by decide⟩ (Nat.le_of_ble_eq_true rfl) ⟨by decide, by decide⟩ ⟨by decide, by decide⟩ rfl
      · refine r_callSv (rest := []) h hd_X3_checkRange wm_360 dX3_addFreeze_18 (CX3_checkRange l D x3 (1 : Int32) (99 : Int32) e6) rfl ⟨rfl, rfl⟩ ⟨by decide, by decide⟩ (Nat.le_of_ble_eq_true rfl) ⟨by decide, by decide⟩ rfl ?_
        refine r_aload_n h 0 rfl rfl dX3_addFreeze_21 ?_
        refine r_get h fl_X3_12 0 rfl rfl dX3_addFreeze_22 ?_
        refine r_get h fl_X3_101 1 rfl rfl dX3_addFreeze_25 ?_
        rcases o_bX hF with ⟨k_z7, e8, hF⟩ | ⟨z7, e8, hF⟩
        · cases hF
          exact r_callTSB (N0 := 13) (rest := []) h hx ht (bk (rkW D aθ (aρ 0) pθ_spare aν pθ_text θ ++ rmW D aρ ρ) ++ [tlW D aν aS0 aS1 aS2 aS3 S0 S1 S2 S3]) [4, 10] [0, 1, 2, 3, 5, 6, 7, 8, 9, 11, 12] hd_X3_checkSpace wm_557 dX3_addFreeze_28 (TX3_checkSpace l hl0 D (aρ 3) (aρ 9) (6 : Int32) (3 : Int32) 18 (ρ.2.2.2.2.2.2.2.2.1, ρ.2.2.1) _ e8) rfl rfl rfl (by decide +kernel) rfl ⟨rfl, rfl⟩ ⟨by decide, by decide⟩ (Nat.le_of_ble_eq_true rfl) ⟨by decide, by decide⟩ ⟨by decide, by decide⟩ rfl
        · refine r_callSB (N0 := 13) (rest := []) h (bk (rkW D aθ (aρ 0) pθ_spare aν pθ_text θ ++ rmW D aρ ρ) ++ [tlW D aν aS0 aS1 aS2 aS3 S0 S1 S2 S3]) [4, 10] [0, 1, 2, 3, 5, 6, 7, 8, 9, 11, 12] hd_X3_checkSpace wm_557 dX3_addFreeze_28 (CX3_checkSpace l D (aρ 3) (aρ 9) (6 : Int32) (3 : Int32) 18 (ρ.2.2.2.2.2.2.2.2.1, ρ.2.2.1) e8) rfl rfl rfl (by decide +kernel) rfl ⟨rfl, rfl⟩ ⟨by decide, by decide⟩ (Nat.le_of_ble_eq_true rfl) ⟨by decide, by decide⟩ rfl (fun v w' hp => ?_)
          obtain ⟨rfl, rfl⟩ := hp
          refine J.blk2 (ws' := [rkW D aθ (aρ 0) pθ_spare aν pθ_text θ, rmW D aρ ρ, tlW D aν aS0 aS1 aS2 aS3 S0 S1 S2 S3].flatten) 13 (pkB (bk (rkW D aθ (aρ 0) pθ_spare aν pθ_text θ ++ rmW D aρ ρ) ++ [tlW D aν aS0 aS1 aS2 aS3 S0 S1 S2 S3]) [0, 1, 2, 3, 5, 6, 7, 8, 9, 11, 12]) (bk (tbW D (aρ 3) (aρ 9) (6 : Int32) (3 : Int32) 18 (ρ.2.2.2.2.2.2.2.2.1, ρ.2.2.1))) [0, 1, 2, 3, 11, 4, 5, 6, 7, 8, 12, 9, 10] rfl rfl rfl rfl (by decide +kernel) ?_
          refine r_aload_n h 0 rfl rfl dX3_addFreeze_31 ?_
          obtain ⟨z9, e10, hF⟩ := o_bind hF
          refine r_callVB (N0 := 3) (q0 := 0) (rest := []) h [rkW D aθ (aρ 0) pθ_spare aν pθ_text θ, rmW D aρ ρ, tlW D aν aS0 aS1 aS2 aS3 S0 S1 S2 S3] [0, 1, 2] [] hd_X3_save wm_209 dX3_addFreeze_32 (CX3_save l D aθ pθ_spare pθ_text aρ aν aS0 aS1 aS2 aS3 θ ρ S0 S1 S2 S3 z9.1 z9.2.1 z9.2.2.1 z9.2.2.2.1 z9.2.2.2.2 e10) rfl rfl rfl (by decide +kernel) rfl rfl rfl ⟨rfl, rfl⟩ ⟨by decide, by decide⟩ (Nat.le_of_ble_eq_true rfl) ⟨by decide, by decide⟩ rfl (fun v w' hp => ?_)
          obtain ⟨rfl, a11, a12, a13, a14, rfl⟩ := hp
          refine J.blk2 (ws' := [rkW D aθ (aρ 0) pθ_spare aν pθ_text z9.1, rmW D aρ ρ, tlW D aν a11 a12 a13 a14 z9.2.1 z9.2.2.1 z9.2.2.2.1 z9.2.2.2.2].flatten) 3 (pkB [rkW D aθ (aρ 0) pθ_spare aν pθ_text θ, rmW D aρ ρ, tlW D aν aS0 aS1 aS2 aS3 S0 S1 S2 S3] []) ([rkW D aθ (aρ 0) pθ_spare aν pθ_text z9.1, rmW D aρ ρ, tlW D aν a11 a12 a13 a14 z9.2.1 z9.2.2.1 z9.2.2.2.1 z9.2.2.2.2]) [0, 1, 2] rfl rfl rfl rfl (by decide +kernel) ?_
          refine r_aload_n h 0 rfl rfl dX3_addFreeze_35 ?_
          refine r_get h fl_X3_12 0 rfl rfl dX3_addFreeze_36 ?_
          refine r_get h fl_X3_101 1 rfl rfl dX3_addFreeze_39 ?_
          obtain ⟨z15, e16, hF⟩ := o_bind hF
          refine r_callVB (N0 := 13) (q0 := 0) (rest := []) h (bk (rkW D aθ (aρ 0) pθ_spare aν pθ_text z9.1 ++ rmW D aρ ρ) ++ [tlW D aν a11 a12 a13 a14 z9.2.1 z9.2.2.1 z9.2.2.2.1 z9.2.2.2.2]) [4, 10] [0, 1, 2, 3, 5, 6, 7, 8, 9, 11, 12] hd_X2_addRow wm_577 dX3_addFreeze_42 (CX2_addRow l D (aρ 3) (aρ 9) (6 : Int32) (3 : Int32) 18 (ρ.2.2.2.2.2.2.2.2.1, ρ.2.2.1) z15.1 z15.2 e16) rfl rfl rfl (by decide +kernel) rfl rfl rfl ⟨rfl, rfl⟩ ⟨by decide, by decide⟩ (Nat.le_of_ble_eq_true rfl) ⟨by decide, by decide⟩ rfl (fun v w' hp => ?_)
          obtain ⟨rfl, rfl⟩ := hp
          refine J.blk2 (ws' := [rkW D aθ (aρ 0) pθ_spare aν pθ_text z9.1, rmW D aρ (ρ.1, ρ.2.1, z15.2.2, ρ.2.2.2.1, ρ.2.2.2.2.1, ρ.2.2.2.2.2.1, ρ.2.2.2.2.2.2.1, ρ.2.2.2.2.2.2.2.1, z15.2.1, ρ.2.2.2.2.2.2.2.2.2.1, ρ.2.2.2.2.2.2.2.2.2.2.1, ρ.2.2.2.2.2.2.2.2.2.2.2.1, ρ.2.2.2.2.2.2.2.2.2.2.2.2.1, ρ.2.2.2.2.2.2.2.2.2.2.2.2.2), tlW D aν a11 a12 a13 a14 z9.2.1 z9.2.2.1 z9.2.2.2.1 z9.2.2.2.2].flatten) 13 (pkB (bk (rkW D aθ (aρ 0) pθ_spare aν pθ_text z9.1 ++ rmW D aρ ρ) ++ [tlW D aν a11 a12 a13 a14 z9.2.1 z9.2.2.1 z9.2.2.2.1 z9.2.2.2.2]) [0, 1, 2, 3, 5, 6, 7, 8, 9, 11, 12]) (bk (tbW D (aρ 3) (aρ 9) (6 : Int32) (3 : Int32) 18 (z15.2.1, z15.2.2))) [0, 1, 2, 3, 11, 4, 5, 6, 7, 8, 12, 9, 10] rfl rfl rfl rfl (by decide +kernel) ?_
          refine r_istore (lv' := [(4, .int z15.1), (0, .ref aθ), (1, .int x1), (2, .int x2), (3, .int x3)]) h dX3_addFreeze_45 (by decide) rfl ?_
          refine r_aload_n h 1 rfl rfl dX3_addFreeze_47 ?_
          refine r_get h fl_X3_12 0 rfl rfl dX3_addFreeze_48 ?_
          refine r_get h fl_X3_101 1 rfl rfl dX3_addFreeze_51 ?_
          refine r_iload h 0 rfl dX3_addFreeze_54 ?_
          refine r_iconst (v := 0) h dX3_addFreeze_56 (by decide) ?_
          refine r_iload_n h 2 rfl rfl dX3_addFreeze_57 ?_
          obtain ⟨z17, e18, hF⟩ := o_bind hF
          refine r_callVB (N0 := 13) (q0 := 0) (rest := []) h (bk (rkW D aθ (aρ 0) pθ_spare aν pθ_text z9.1 ++ rmW D aρ (ρ.1, ρ.2.1, z15.2.2, ρ.2.2.2.1, ρ.2.2.2.2.1, ρ.2.2.2.2.2.1, ρ.2.2.2.2.2.2.1, ρ.2.2.2.2.2.2.2.1, z15.2.1, ρ.2.2.2.2.2.2.2.2.2.1, ρ.2.2.2.2.2.2.2.2.2.2.1, ρ.2.2.2.2.2.2.2.2.2.2.2.1, ρ.2.2.2.2.2.2.2.2.2.2.2.2.1, ρ.2.2.2.2.2.2.2.2.2.2.2.2.2)) ++ [tlW D aν a11 a12 a13 a14 z9.2.1 z9.2.2.1 z9.2.2.2.1 z9.2.2.2.2]) [4, 10] [0, 1, 2, 3, 5, 6, 7, 8, 9, 11, 12] hd_X2_put wm_578 dX3_addFreeze_58 (CX2_put l D (aρ 3) (aρ 9) (6 : Int32) (3 : Int32) 18 (z15.2.1, z15.2.2) z15.1 (0 : Int32) x1 z17 e18) rfl rfl rfl (by decide +kernel) rfl rfl rfl ⟨rfl, rfl⟩ ⟨by decide, by decide⟩ (Nat.le_of_ble_eq_true rfl) ⟨by decide, by decide⟩ rfl (fun v w' hp => ?_)
          obtain ⟨rfl, rfl⟩ := hp
          refine J.blk2 (ws' := [rkW D aθ (aρ 0) pθ_spare aν pθ_text z9.1, rmW D aρ (ρ.1, ρ.2.1, z17.2, ρ.2.2.2.1, ρ.2.2.2.2.1, ρ.2.2.2.2.2.1, ρ.2.2.2.2.2.2.1, ρ.2.2.2.2.2.2.2.1, z17.1, ρ.2.2.2.2.2.2.2.2.2.1, ρ.2.2.2.2.2.2.2.2.2.2.1, ρ.2.2.2.2.2.2.2.2.2.2.2.1, ρ.2.2.2.2.2.2.2.2.2.2.2.2.1, ρ.2.2.2.2.2.2.2.2.2.2.2.2.2), tlW D aν a11 a12 a13 a14 z9.2.1 z9.2.2.1 z9.2.2.2.1 z9.2.2.2.2].flatten) 13 (pkB (bk (rkW D aθ (aρ 0) pθ_spare aν pθ_text z9.1 ++ rmW D aρ (ρ.1, ρ.2.1, z15.2.2, ρ.2.2.2.1, ρ.2.2.2.2.1, ρ.2.2.2.2.2.1, ρ.2.2.2.2.2.2.1, ρ.2.2.2.2.2.2.2.1, z15.2.1, ρ.2.2.2.2.2.2.2.2.2.1, ρ.2.2.2.2.2.2.2.2.2.2.1, ρ.2.2.2.2.2.2.2.2.2.2.2.1, ρ.2.2.2.2.2.2.2.2.2.2.2.2.1, ρ.2.2.2.2.2.2.2.2.2.2.2.2.2)) ++ [tlW D aν a11 a12 a13 a14 z9.2.1 z9.2.2.1 z9.2.2.2.1 z9.2.2.2.2]) [0, 1, 2, 3, 5, 6, 7, 8, 9, 11, 12]) (bk (tbW D (aρ 3) (aρ 9) (6 : Int32) (3 : Int32) 18 (z17.1, z17.2))) [0, 1, 2, 3, 11, 4, 5, 6, 7, 8, 12, 9, 10] rfl rfl rfl rfl (by decide +kernel) ?_
          refine r_aload_n h 1 rfl rfl dX3_addFreeze_61 ?_
          refine r_get h fl_X3_12 0 rfl rfl dX3_addFreeze_62 ?_
          refine r_get h fl_X3_101 1 rfl rfl dX3_addFreeze_65 ?_
          refine r_iload h 0 rfl dX3_addFreeze_68 ?_
          refine r_iconst (v := 1) h dX3_addFreeze_70 (by decide) ?_
          refine r_iload_n h 3 rfl rfl dX3_addFreeze_71 ?_
          obtain ⟨z19, e20, hF⟩ := o_bind hF
          refine r_callVB (N0 := 13) (q0 := 0) (rest := []) h (bk (rkW D aθ (aρ 0) pθ_spare aν pθ_text z9.1 ++ rmW D aρ (ρ.1, ρ.2.1, z17.2, ρ.2.2.2.1, ρ.2.2.2.2.1, ρ.2.2.2.2.2.1, ρ.2.2.2.2.2.2.1, ρ.2.2.2.2.2.2.2.1, z17.1, ρ.2.2.2.2.2.2.2.2.2.1, ρ.2.2.2.2.2.2.2.2.2.2.1, ρ.2.2.2.2.2.2.2.2.2.2.2.1, ρ.2.2.2.2.2.2.2.2.2.2.2.2.1, ρ.2.2.2.2.2.2.2.2.2.2.2.2.2)) ++ [tlW D aν a11 a12 a13 a14 z9.2.1 z9.2.2.1 z9.2.2.2.1 z9.2.2.2.2]) [4, 10] [0, 1, 2, 3, 5, 6, 7, 8, 9, 11, 12] hd_X2_put wm_578 dX3_addFreeze_72 (CX2_put l D (aρ 3) (aρ 9) (6 : Int32) (3 : Int32) 18 (z17.1, z17.2) z15.1 (1 : Int32) x2 z19 e20) rfl rfl rfl (by decide +kernel) rfl rfl rfl ⟨rfl, rfl⟩ ⟨by decide, by decide⟩ (Nat.le_of_ble_eq_true rfl) ⟨by decide, by decide⟩ rfl (fun v w' hp => ?_)
          obtain ⟨rfl, rfl⟩ := hp
          refine J.blk2 (ws' := [rkW D aθ (aρ 0) pθ_spare aν pθ_text z9.1, rmW D aρ (ρ.1, ρ.2.1, z19.2, ρ.2.2.2.1, ρ.2.2.2.2.1, ρ.2.2.2.2.2.1, ρ.2.2.2.2.2.2.1, ρ.2.2.2.2.2.2.2.1, z19.1, ρ.2.2.2.2.2.2.2.2.2.1, ρ.2.2.2.2.2.2.2.2.2.2.1, ρ.2.2.2.2.2.2.2.2.2.2.2.1, ρ.2.2.2.2.2.2.2.2.2.2.2.2.1, ρ.2.2.2.2.2.2.2.2.2.2.2.2.2), tlW D aν a11 a12 a13 a14 z9.2.1 z9.2.2.1 z9.2.2.2.1 z9.2.2.2.2].flatten) 13 (pkB (bk (rkW D aθ (aρ 0) pθ_spare aν pθ_text z9.1 ++ rmW D aρ (ρ.1, ρ.2.1, z17.2, ρ.2.2.2.1, ρ.2.2.2.2.1, ρ.2.2.2.2.2.1, ρ.2.2.2.2.2.2.1, ρ.2.2.2.2.2.2.2.1, z17.1, ρ.2.2.2.2.2.2.2.2.2.1, ρ.2.2.2.2.2.2.2.2.2.2.1, ρ.2.2.2.2.2.2.2.2.2.2.2.1, ρ.2.2.2.2.2.2.2.2.2.2.2.2.1, ρ.2.2.2.2.2.2.2.2.2.2.2.2.2)) ++ [tlW D aν a11 a12 a13 a14 z9.2.1 z9.2.2.1 z9.2.2.2.1 z9.2.2.2.2]) [0, 1, 2, 3, 5, 6, 7, 8, 9, 11, 12]) (bk (tbW D (aρ 3) (aρ 9) (6 : Int32) (3 : Int32) 18 (z19.1, z19.2))) [0, 1, 2, 3, 11, 4, 5, 6, 7, 8, 12, 9, 10] rfl rfl rfl rfl (by decide +kernel) ?_
          refine r_aload_n h 1 rfl rfl dX3_addFreeze_75 ?_
          refine r_get h fl_X3_12 0 rfl rfl dX3_addFreeze_76 ?_
          refine r_get h fl_X3_101 1 rfl rfl dX3_addFreeze_79 ?_
          refine r_iload h 0 rfl dX3_addFreeze_82 ?_
          refine r_iconst (v := 2) h dX3_addFreeze_84 (by decide) ?_
          refine r_iload_n h 4 rfl rfl dX3_addFreeze_85 ?_
          obtain ⟨z21, e22, hF⟩ := o_bind hF
          refine r_callVB (N0 := 13) (q0 := 0) (rest := []) h (bk (rkW D aθ (aρ 0) pθ_spare aν pθ_text z9.1 ++ rmW D aρ (ρ.1, ρ.2.1, z19.2, ρ.2.2.2.1, ρ.2.2.2.2.1, ρ.2.2.2.2.2.1, ρ.2.2.2.2.2.2.1, ρ.2.2.2.2.2.2.2.1, z19.1, ρ.2.2.2.2.2.2.2.2.2.1, ρ.2.2.2.2.2.2.2.2.2.2.1, ρ.2.2.2.2.2.2.2.2.2.2.2.1, ρ.2.2.2.2.2.2.2.2.2.2.2.2.1, ρ.2.2.2.2.2.2.2.2.2.2.2.2.2)) ++ [tlW D aν a11 a12 a13 a14 z9.2.1 z9.2.2.1 z9.2.2.2.1 z9.2.2.2.2]) [4, 10] [0, 1, 2, 3, 5, 6, 7, 8, 9, 11, 12] hd_X2_put wm_578 dX3_addFreeze_86 (CX2_put l D (aρ 3) (aρ 9) (6 : Int32) (3 : Int32) 18 (z19.1, z19.2) z15.1 (2 : Int32) x3 z21 e22) rfl rfl rfl (by decide +kernel) rfl rfl rfl ⟨rfl, rfl⟩ ⟨by decide, by decide⟩ (Nat.le_of_ble_eq_true rfl) ⟨by decide, by decide⟩ rfl (fun v w' hp => ?_)
          obtain ⟨rfl, rfl⟩ := hp
          refine J.blk2 (ws' := [rkW D aθ (aρ 0) pθ_spare aν pθ_text z9.1, rmW D aρ (ρ.1, ρ.2.1, z21.2, ρ.2.2.2.1, ρ.2.2.2.2.1, ρ.2.2.2.2.2.1, ρ.2.2.2.2.2.2.1, ρ.2.2.2.2.2.2.2.1, z21.1, ρ.2.2.2.2.2.2.2.2.2.1, ρ.2.2.2.2.2.2.2.2.2.2.1, ρ.2.2.2.2.2.2.2.2.2.2.2.1, ρ.2.2.2.2.2.2.2.2.2.2.2.2.1, ρ.2.2.2.2.2.2.2.2.2.2.2.2.2), tlW D aν a11 a12 a13 a14 z9.2.1 z9.2.2.1 z9.2.2.2.1 z9.2.2.2.2].flatten) 13 (pkB (bk (rkW D aθ (aρ 0) pθ_spare aν pθ_text z9.1 ++ rmW D aρ (ρ.1, ρ.2.1, z19.2, ρ.2.2.2.1, ρ.2.2.2.2.1, ρ.2.2.2.2.2.1, ρ.2.2.2.2.2.2.1, ρ.2.2.2.2.2.2.2.1, z19.1, ρ.2.2.2.2.2.2.2.2.2.1, ρ.2.2.2.2.2.2.2.2.2.2.1, ρ.2.2.2.2.2.2.2.2.2.2.2.1, ρ.2.2.2.2.2.2.2.2.2.2.2.2.1, ρ.2.2.2.2.2.2.2.2.2.2.2.2.2)) ++ [tlW D aν a11 a12 a13 a14 z9.2.1 z9.2.2.1 z9.2.2.2.1 z9.2.2.2.2]) [0, 1, 2, 3, 5, 6, 7, 8, 9, 11, 12]) (bk (tbW D (aρ 3) (aρ 9) (6 : Int32) (3 : Int32) 18 (z21.1, z21.2))) [0, 1, 2, 3, 11, 4, 5, 6, 7, 8, 12, 9, 10] rfl rfl rfl rfl (by decide +kernel) ?_
          refine r_iload h 0 rfl dX3_addFreeze_89 ?_
          cases hF

def FX3_removeFreeze (θ : Int32) (ρ : RS) (S0 : RS) (S1 : RS) (S2 : RS) (S3 : RS) (x1 : Int32) : Option (Nat ⊕ (Int32 × Int32 × RS × RS × RS × RS × RS)) :=
  (FX2_hasRow (6 : Int32) (3 : Int32) 18 (ρ.2.2.2.2.2.2.2.2.1, ρ.2.2.1) x1).bind fun z1 =>
  if z1 = 0 then
  (some (.inl 1))
else
  ((FX3_save θ ρ S0 S1 S2 S3).bind fun z4 =>
  (FX2_removeRow (6 : Int32) (3 : Int32) 18 (ρ.2.2.2.2.2.2.2.2.1, ρ.2.2.1) x1).bind fun z10 =>
  some (.inr (z10.1, z4.1, (ρ.1, ρ.2.1, z10.2, ρ.2.2.2.1, ρ.2.2.2.2.1, ρ.2.2.2.2.2.1, ρ.2.2.2.2.2.2.1, ρ.2.2.2.2.2.2.2.1, z10.1, ρ.2.2.2.2.2.2.2.2.2.1, ρ.2.2.2.2.2.2.2.2.2.2.1, ρ.2.2.2.2.2.2.2.2.2.2.2.1, ρ.2.2.2.2.2.2.2.2.2.2.2.2.1, ρ.2.2.2.2.2.2.2.2.2.2.2.2.2), z4.2.1, z4.2.2.1, z4.2.2.2.1, z4.2.2.2.2)))
abbrev rmX3_removeFreeze : Room := { frames := 4, cells := 0, slots := 0, locals := 124 }
set_option maxHeartbeats 4000000 in
set_option maxRecDepth 100000 in
theorem CX3_removeFreeze (l : Launch) (D : va_G) (aθ : Nat) (pθ_spare : Nat) (pθ_text : Nat) (aρ : Nat → Nat) (aν : Nat) (aS0 : Nat → Nat) (aS1 : Nat → Nat) (aS2 : Nat → Nat) (aS3 : Nat → Nat) (θ : Int32) (ρ : RS) (S0 : RS) (S1 : RS) (S2 : RS) (S3 : RS) (x1 : Int32) (r0 : Int32) (θ0 : Int32) (ρ0 : RS) (S00 : RS) (S10 : RS) (S20 : RS) (S30 : RS) (hF : FX3_removeFreeze θ ρ S0 S1 S2 S3 x1 = some (.inr (r0, θ0, ρ0, S00, S10, S20, S30))) : Ct l D yX3_removeFreeze cX3_removeFreeze 2 (some .int) rmX3_removeFreeze 0 0 [.ref aθ, .int x1] ([rkW D aθ (aρ 0) pθ_spare aν pθ_text θ, rmW D aρ ρ, tlW D aν aS0 aS1 aS2 aS3 S0 S1 S2 S3].flatten) (fun v w => v = some (.int r0) ∧ ∃ (bS0 : Nat → Nat) (bS1 : Nat → Nat) (bS2 : Nat → Nat) (bS3 : Nat → Nat), w = [rkW D aθ (aρ 0) pθ_spare aν pθ_text θ0, rmW D aρ ρ0, tlW D aν bS0 bS1 bS2 bS3 S00 S10 S20 S30].flatten) := by
  refine Ct.of (own := RX3) (lv := [(0, .ref aθ), (1, .int x1)]) (by decide +kernel) rfl (Nat.le_of_ble_eq_true rfl) rfl (fun X h hr => ?_)
  unfold FX3_removeFreeze at hF
  refine r_aload_n h 0 rfl rfl dX3_removeFreeze_0 ?_
  refine r_get h fl_X3_12 0 rfl rfl dX3_removeFreeze_1 ?_
  refine r_get h fl_X3_101 1 rfl rfl dX3_removeFreeze_4 ?_
  refine r_iload_n h 1 rfl rfl dX3_removeFreeze_7 ?_
  obtain ⟨z1, e2, hF⟩ := o_bind hF
  refine r_callVB (N0 := 13) (q0 := 0) (rest := []) h (bk (rkW D aθ (aρ 0) pθ_spare aν pθ_text θ ++ rmW D aρ ρ) ++ [tlW D aν aS0 aS1 aS2 aS3 S0 S1 S2 S3]) [4, 10] [0, 1, 2, 3, 5, 6, 7, 8, 9, 11, 12] hd_X2_hasRow wm_503 dX3_removeFreeze_8 (CX2_hasRow l D (aρ 3) (aρ 9) (6 : Int32) (3 : Int32) 18 (ρ.2.2.2.2.2.2.2.2.1, ρ.2.2.1) x1 z1 e2) rfl rfl rfl (by decide +kernel) rfl rfl rfl ⟨rfl, rfl⟩ ⟨by decide, by decide⟩ (Nat.le_of_ble_eq_true rfl) ⟨by decide, by decide⟩ rfl (fun v w' hp => ?_)
  obtain ⟨rfl, rfl⟩ := hp
  refine J.blk2 (ws' := [rkW D aθ (aρ 0) pθ_spare aν pθ_text θ, rmW D aρ ρ, tlW D aν aS0 aS1 aS2 aS3 S0 S1 S2 S3].flatten) 13 (pkB (bk (rkW D aθ (aρ 0) pθ_spare aν pθ_text θ ++ rmW D aρ ρ) ++ [tlW D aν aS0 aS1 aS2 aS3 S0 S1 S2 S3]) [0, 1, 2, 3, 5, 6, 7, 8, 9, 11, 12]) (bk (tbW D (aρ 3) (aρ 9) (6 : Int32) (3 : Int32) 18 (ρ.2.2.2.2.2.2.2.2.1, ρ.2.2.1))) [0, 1, 2, 3, 11, 4, 5, 6, 7, 8, 12, 9, 10] rfl rfl rfl rfl (by decide +kernel) ?_
  refine r_if_ne h 24 dX3_removeFreeze_11 (by decide) (fun c3 => ?_) (fun c3 => ?_)
  · replace hF := o_neg c3 hF
    refine r_aload_n h 0 rfl rfl dX3_removeFreeze_24 ?_
    obtain ⟨z4, e5, hF⟩ := o_bind hF
    refine r_callVB (N0 := 3) (q0 := 0) (rest := []) h [rkW D aθ (aρ 0) pθ_spare aν pθ_text θ, rmW D aρ ρ, tlW D aν aS0 aS1 aS2 aS3 S0 S1 S2 S3] [0, 1, 2] [] hd_X3_save wm_209 dX3_removeFreeze_25 (CX3_save l D aθ pθ_spare pθ_text aρ aν aS0 aS1 aS2 aS3 θ ρ S0 S1 S2 S3 z4.1 z4.2.1 z4.2.2.1 z4.2.2.2.1 z4.2.2.2.2 e5) rfl rfl rfl (by decide +kernel) rfl rfl rfl ⟨rfl, rfl⟩ ⟨by decide, by decide⟩ (Nat.le_of_ble_eq_true rfl) ⟨by decide, by decide⟩ rfl (fun v w' hp => ?_)
    obtain ⟨rfl, a6, a7, a8, a9, rfl⟩ := hp
    refine J.blk2 (ws' := [rkW D aθ (aρ 0) pθ_spare aν pθ_text z4.1, rmW D aρ ρ, tlW D aν a6 a7 a8 a9 z4.2.1 z4.2.2.1 z4.2.2.2.1 z4.2.2.2.2].flatten) 3 (pkB [rkW D aθ (aρ 0) pθ_spare aν pθ_text θ, rmW D aρ ρ, tlW D aν aS0 aS1 aS2 aS3 S0 S1 S2 S3] []) ([rkW D aθ (aρ 0) pθ_spare aν pθ_text z4.1, rmW D aρ ρ, tlW D aν a6 a7 a8 a9 z4.2.1 z4.2.2.1 z4.2.2.2.1 z4.2.2.2.2]) [0, 1, 2] rfl rfl rfl rfl (by decide +kernel) ?_
    refine r_aload_n h 0 rfl rfl dX3_removeFreeze_28 ?_
    refine r_get h fl_X3_12 0 rfl rfl dX3_removeFreeze_29 ?_
    refine r_get h fl_X3_101 1 rfl rfl dX3_removeFreeze_32 ?_
    refine r_iload_n h 1 rfl rfl dX3_removeFreeze_35 ?_
    obtain ⟨z10, e11, hF⟩ := o_bind hF
    refine r_callVB (N0 := 13) (q0 := 0) (rest := []) h (bk (rkW D aθ (aρ 0) pθ_spare aν pθ_text z4.1 ++ rmW D aρ ρ) ++ [tlW D aν a6 a7 a8 a9 z4.2.1 z4.2.2.1 z4.2.2.2.1 z4.2.2.2.2]) [4, 10] [0, 1, 2, 3, 5, 6, 7, 8, 9, 11, 12] hd_X2_removeRow wm_595 dX3_removeFreeze_36 (CX2_removeRow l D (aρ 3) (aρ 9) (6 : Int32) (3 : Int32) 18 (ρ.2.2.2.2.2.2.2.2.1, ρ.2.2.1) x1 z10 e11) rfl rfl rfl (by decide +kernel) rfl rfl rfl ⟨rfl, rfl⟩ ⟨by decide, by decide⟩ (Nat.le_of_ble_eq_true rfl) ⟨by decide, by decide⟩ rfl (fun v w' hp => ?_)
    obtain ⟨rfl, rfl⟩ := hp
    refine J.blk2 (ws' := [rkW D aθ (aρ 0) pθ_spare aν pθ_text z4.1, rmW D aρ (ρ.1, ρ.2.1, z10.2, ρ.2.2.2.1, ρ.2.2.2.2.1, ρ.2.2.2.2.2.1, ρ.2.2.2.2.2.2.1, ρ.2.2.2.2.2.2.2.1, z10.1, ρ.2.2.2.2.2.2.2.2.2.1, ρ.2.2.2.2.2.2.2.2.2.2.1, ρ.2.2.2.2.2.2.2.2.2.2.2.1, ρ.2.2.2.2.2.2.2.2.2.2.2.2.1, ρ.2.2.2.2.2.2.2.2.2.2.2.2.2), tlW D aν a6 a7 a8 a9 z4.2.1 z4.2.2.1 z4.2.2.2.1 z4.2.2.2.2].flatten) 13 (pkB (bk (rkW D aθ (aρ 0) pθ_spare aν pθ_text z4.1 ++ rmW D aρ ρ) ++ [tlW D aν a6 a7 a8 a9 z4.2.1 z4.2.2.1 z4.2.2.2.1 z4.2.2.2.2]) [0, 1, 2, 3, 5, 6, 7, 8, 9, 11, 12]) (bk (tbW D (aρ 3) (aρ 9) (6 : Int32) (3 : Int32) 18 (z10.1, z10.2))) [0, 1, 2, 3, 11, 4, 5, 6, 7, 8, 12, 9, 10] rfl rfl rfl rfl (by decide +kernel) ?_
    refine r_aload_n h 0 rfl rfl dX3_removeFreeze_39 ?_
    refine r_get h fl_X3_12 0 rfl rfl dX3_removeFreeze_40 ?_
    refine r_get h fl_X3_101 1 rfl rfl dX3_removeFreeze_43 ?_
    refine r_get h fl_X3_98 4 rfl rfl dX3_removeFreeze_46 ?_
    cases hF
    exact r_iret h hr dX3_removeFreeze_49 ⟨rfl, a6, a7, a8, a9, rfl⟩
  · replace hF := o_pos c3 hF
    cases hF

abbrev rmTX3_removeFreeze : Room := { frames := 6, cells := 1, slots := 6, locals := 124 }
set_option maxHeartbeats 4000000 in
set_option maxRecDepth 100000 in
theorem TX3_removeFreeze (l : Launch) (hl0 : l.stackTraces = false) (D : va_G) (aθ : Nat) (pθ_spare : Nat) (pθ_text : Nat) (aρ : Nat → Nat) (aν : Nat) (aS0 : Nat → Nat) (aS1 : Nat → Nat) (aS2 : Nat → Nat) (aS3 : Nat → Nat) (θ : Int32) (ρ : RS) (S0 : RS) (S1 : RS) (S2 : RS) (S3 : RS) (x1 : Int32) (k0 : Nat) (hF : FX3_removeFreeze θ ρ S0 S1 S2 S3 x1 = some (.inl k0)) : CtT l D yX3_removeFreeze cX3_removeFreeze 2 (some .int) rmTX3_removeFreeze 1 6 [.ref aθ, .int x1] ([rkW D aθ (aρ 0) pθ_spare aν pθ_text θ, rmW D aρ ρ, tlW D aν aS0 aS1 aS2 aS3 S0 S1 S2 S3].flatten) (exn k0) := by
  refine CtT.of (own := RX3) (lv := [(0, .ref aθ), (1, .int x1)]) (by decide +kernel) rfl (Nat.le_of_ble_eq_true rfl) rfl (fun X h hx ht => ?_)
  unfold FX3_removeFreeze at hF
  refine r_aload_n h 0 rfl rfl dX3_removeFreeze_0 ?_
  refine r_get h fl_X3_12 0 rfl rfl dX3_removeFreeze_1 ?_
  refine r_get h fl_X3_101 1 rfl rfl dX3_removeFreeze_4 ?_
  refine r_iload_n h 1 rfl rfl dX3_removeFreeze_7 ?_
  obtain ⟨z1, e2, hF⟩ := o_bind hF
  refine r_callVB (N0 := 13) (q0 := 0) (rest := []) h (bk (rkW D aθ (aρ 0) pθ_spare aν pθ_text θ ++ rmW D aρ ρ) ++ [tlW D aν aS0 aS1 aS2 aS3 S0 S1 S2 S3]) [4, 10] [0, 1, 2, 3, 5, 6, 7, 8, 9, 11, 12] hd_X2_hasRow wm_503 dX3_removeFreeze_8 (CX2_hasRow l D (aρ 3) (aρ 9) (6 : Int32) (3 : Int32) 18 (ρ.2.2.2.2.2.2.2.2.1, ρ.2.2.1) x1 z1 e2) rfl rfl rfl (by decide +kernel) rfl rfl rfl ⟨rfl, rfl⟩ ⟨by decide, by decide⟩ (Nat.le_of_ble_eq_true rfl) ⟨by decide, by decide⟩ rfl (fun v w' hp => ?_)
  obtain ⟨rfl, rfl⟩ := hp
  refine J.blk2 (ws' := [rkW D aθ (aρ 0) pθ_spare aν pθ_text θ, rmW D aρ ρ, tlW D aν aS0 aS1 aS2 aS3 S0 S1 S2 S3].flatten) 13 (pkB (bk (rkW D aθ (aρ 0) pθ_spare aν pθ_text θ ++ rmW D aρ ρ) ++ [tlW D aν aS0 aS1 aS2 aS3 S0 S1 S2 S3]) [0, 1, 2, 3, 5, 6, 7, 8, 9, 11, 12]) (bk (tbW D (aρ 3) (aρ 9) (6 : Int32) (3 : Int32) 18 (ρ.2.2.2.2.2.2.2.2.1, ρ.2.2.1))) [0, 1, 2, 3, 11, 4, 5, 6, 7, 8, 12, 9, 10] rfl rfl rfl rfl (by decide +kernel) ?_
  refine r_if_ne h 24 dX3_removeFreeze_11 (by decide) (fun c3 => ?_) (fun c3 => ?_)
  · replace hF := o_neg c3 hF
    refine r_aload_n h 0 rfl rfl dX3_removeFreeze_24 ?_
    obtain ⟨z4, e5, hF⟩ := o_bind hF
    refine r_callVB (N0 := 3) (q0 := 0) (rest := []) h [rkW D aθ (aρ 0) pθ_spare aν pθ_text θ, rmW D aρ ρ, tlW D aν aS0 aS1 aS2 aS3 S0 S1 S2 S3] [0, 1, 2] [] hd_X3_save wm_209 dX3_removeFreeze_25 (CX3_save l D aθ pθ_spare pθ_text aρ aν aS0 aS1 aS2 aS3 θ ρ S0 S1 S2 S3 z4.1 z4.2.1 z4.2.2.1 z4.2.2.2.1 z4.2.2.2.2 e5) rfl rfl rfl (by decide +kernel) rfl rfl rfl ⟨rfl, rfl⟩ ⟨by decide, by decide⟩ (Nat.le_of_ble_eq_true rfl) ⟨by decide, by decide⟩ rfl (fun v w' hp => ?_)
    obtain ⟨rfl, a6, a7, a8, a9, rfl⟩ := hp
    refine J.blk2 (ws' := [rkW D aθ (aρ 0) pθ_spare aν pθ_text z4.1, rmW D aρ ρ, tlW D aν a6 a7 a8 a9 z4.2.1 z4.2.2.1 z4.2.2.2.1 z4.2.2.2.2].flatten) 3 (pkB [rkW D aθ (aρ 0) pθ_spare aν pθ_text θ, rmW D aρ ρ, tlW D aν aS0 aS1 aS2 aS3 S0 S1 S2 S3] []) ([rkW D aθ (aρ 0) pθ_spare aν pθ_text z4.1, rmW D aρ ρ, tlW D aν a6 a7 a8 a9 z4.2.1 z4.2.2.1 z4.2.2.2.1 z4.2.2.2.2]) [0, 1, 2] rfl rfl rfl rfl (by decide +kernel) ?_
    refine r_aload_n h 0 rfl rfl dX3_removeFreeze_28 ?_
    refine r_get h fl_X3_12 0 rfl rfl dX3_removeFreeze_29 ?_
    refine r_get h fl_X3_101 1 rfl rfl dX3_removeFreeze_32 ?_
    refine r_iload_n h 1 rfl rfl dX3_removeFreeze_35 ?_
    obtain ⟨z10, e11, hF⟩ := o_bind hF
    refine r_callVB (N0 := 13) (q0 := 0) (rest := []) h (bk (rkW D aθ (aρ 0) pθ_spare aν pθ_text z4.1 ++ rmW D aρ ρ) ++ [tlW D aν a6 a7 a8 a9 z4.2.1 z4.2.2.1 z4.2.2.2.1 z4.2.2.2.2]) [4, 10] [0, 1, 2, 3, 5, 6, 7, 8, 9, 11, 12] hd_X2_removeRow wm_595 dX3_removeFreeze_36 (CX2_removeRow l D (aρ 3) (aρ 9) (6 : Int32) (3 : Int32) 18 (ρ.2.2.2.2.2.2.2.2.1, ρ.2.2.1) x1 z10 e11) rfl rfl rfl (by decide +kernel) rfl rfl rfl ⟨rfl, rfl⟩ ⟨by decide, by decide⟩ (Nat.le_of_ble_eq_true rfl) ⟨by decide, by decide⟩ rfl (fun v w' hp => ?_)
    obtain ⟨rfl, rfl⟩ := hp
    refine J.blk2 (ws' := [rkW D aθ (aρ 0) pθ_spare aν pθ_text z4.1, rmW D aρ (ρ.1, ρ.2.1, z10.2, ρ.2.2.2.1, ρ.2.2.2.2.1, ρ.2.2.2.2.2.1, ρ.2.2.2.2.2.2.1, ρ.2.2.2.2.2.2.2.1, z10.1, ρ.2.2.2.2.2.2.2.2.2.1, ρ.2.2.2.2.2.2.2.2.2.2.1, ρ.2.2.2.2.2.2.2.2.2.2.2.1, ρ.2.2.2.2.2.2.2.2.2.2.2.2.1, ρ.2.2.2.2.2.2.2.2.2.2.2.2.2), tlW D aν a6 a7 a8 a9 z4.2.1 z4.2.2.1 z4.2.2.2.1 z4.2.2.2.2].flatten) 13 (pkB (bk (rkW D aθ (aρ 0) pθ_spare aν pθ_text z4.1 ++ rmW D aρ ρ) ++ [tlW D aν a6 a7 a8 a9 z4.2.1 z4.2.2.1 z4.2.2.2.1 z4.2.2.2.2]) [0, 1, 2, 3, 5, 6, 7, 8, 9, 11, 12]) (bk (tbW D (aρ 3) (aρ 9) (6 : Int32) (3 : Int32) 18 (z10.1, z10.2))) [0, 1, 2, 3, 11, 4, 5, 6, 7, 8, 12, 9, 10] rfl rfl rfl rfl (by decide +kernel) ?_
    refine r_aload_n h 0 rfl rfl dX3_removeFreeze_39 ?_
    refine r_get h fl_X3_12 0 rfl rfl dX3_removeFreeze_40 ?_
    refine r_get h fl_X3_101 1 rfl rfl dX3_removeFreeze_43 ?_
    refine r_get h fl_X3_98 4 rfl rfl dX3_removeFreeze_46 ?_
    cases hF
  · replace hF := o_pos c3 hF
    cases hF
    exact r_throw (E := exn 1) (text := "no such freeze") h hx ht hl0 thf_1 (by decide +kernel) dX3_removeFreeze_14 dX3_removeFreeze_17 dX3_removeFreeze_18 dX3_removeFreeze_20 dX3_removeFreeze_23 ⟨by decide, Nat.le_of_ble_eq_true rfl, by decide, by decide⟩ ⟨by decide, by decide⟩

def FX3_pass (θ : Int32) (ρ : RS) (S0 : RS) (S1 : RS) (S2 : RS) (S3 : RS) (x1 : Int32) : Option (Nat ⊕ (Int32 × Int32 × RS × RS × RS × RS × RS)) :=
  bX (FX3_checkRange x1 (1 : Int32) (99 : Int32)) fun z1 =>
  if (ρ.2.2.2.2.2.2.2.2.2.2.2.1 + x1) ≤ (2000 : Int32) then
  ((FX3_save θ ρ S0 S1 S2 S3).bind fun z4 =>
  some (.inr (ρ.2.2.2.2.2.2.2.2.2.2.2.1 + x1, z4.1, (ρ.1, ρ.2.1, ρ.2.2.1, ρ.2.2.2.1, ρ.2.2.2.2.1, ρ.2.2.2.2.2.1, ρ.2.2.2.2.2.2.1, ρ.2.2.2.2.2.2.2.1, ρ.2.2.2.2.2.2.2.2.1, ρ.2.2.2.2.2.2.2.2.2.1, ρ.2.2.2.2.2.2.2.2.2.2.1, ρ.2.2.2.2.2.2.2.2.2.2.2.1 + x1, ρ.2.2.2.2.2.2.2.2.2.2.2.2.1, ρ.2.2.2.2.2.2.2.2.2.2.2.2.2), z4.2.1, z4.2.2.1, z4.2.2.2.1, z4.2.2.2.2)))
else
  (some (.inl 3))
abbrev rmX3_pass : Room := { frames := 4, cells := 0, slots := 0, locals := 124 }
set_option maxHeartbeats 4000000 in
set_option maxRecDepth 100000 in
theorem CX3_pass (l : Launch) (D : va_G) (aθ : Nat) (pθ_spare : Nat) (pθ_text : Nat) (aρ : Nat → Nat) (aν : Nat) (aS0 : Nat → Nat) (aS1 : Nat → Nat) (aS2 : Nat → Nat) (aS3 : Nat → Nat) (θ : Int32) (ρ : RS) (S0 : RS) (S1 : RS) (S2 : RS) (S3 : RS) (x1 : Int32) (r0 : Int32) (θ0 : Int32) (ρ0 : RS) (S00 : RS) (S10 : RS) (S20 : RS) (S30 : RS) (hF : FX3_pass θ ρ S0 S1 S2 S3 x1 = some (.inr (r0, θ0, ρ0, S00, S10, S20, S30))) : Ct l D yX3_pass cX3_pass 2 (some .int) rmX3_pass 0 0 [.ref aθ, .int x1] ([rkW D aθ (aρ 0) pθ_spare aν pθ_text θ, rmW D aρ ρ, tlW D aν aS0 aS1 aS2 aS3 S0 S1 S2 S3].flatten) (fun v w => v = some (.int r0) ∧ ∃ (bS0 : Nat → Nat) (bS1 : Nat → Nat) (bS2 : Nat → Nat) (bS3 : Nat → Nat), w = [rkW D aθ (aρ 0) pθ_spare aν pθ_text θ0, rmW D aρ ρ0, tlW D aν bS0 bS1 bS2 bS3 S00 S10 S20 S30].flatten) := by
  refine Ct.of (own := RX3) (lv := [(0, .ref aθ), (1, .int x1)]) (by decide +kernel) rfl (Nat.le_of_ble_eq_true rfl) rfl (fun X h hr => ?_)
  unfold FX3_pass at hF
  refine r_iload_n h 1 rfl rfl dX3_pass_0 ?_
  refine r_iconst (v := 1) h dX3_pass_1 (by decide) ?_
  refine r_bipush (v := 99) h dX3_pass_2 (by decide) ?_
  rcases o_bX hF with ⟨k_z1, e2, hF⟩ | ⟨z1, e2, hF⟩
  · cases hF
  · refine r_callSv (rest := []) h hd_X3_checkRange wm_360 dX3_pass_4 (CX3_checkRange l D x1 (1 : Int32) (99 : Int32) e2) rfl ⟨rfl, rfl⟩ ⟨by decide, by decide⟩ (Nat.le_of_ble_eq_true rfl) ⟨by decide, by decide⟩ rfl ?_
    refine r_aload_n h 0 rfl rfl dX3_pass_7 ?_
    refine r_get h fl_X3_12 0 rfl rfl dX3_pass_8 ?_
    refine r_get h fl_X3_113 1 rfl rfl dX3_pass_11 ?_
    refine r_iload_n h 1 rfl rfl dX3_pass_14 ?_
    refine r_iadd h dX3_pass_15 ?_
    refine r_sipush (v := 2000) h dX3_pass_16 (by decide) ?_
    refine r_icmp_le h 32 dX3_pass_19 (by decide) (fun c3 => ?_) (fun c3 => ?_)
    · replace hF := o_pos c3 hF
      refine r_aload_n h 0 rfl rfl dX3_pass_32 ?_
      obtain ⟨z4, e5, hF⟩ := o_bind hF
      refine r_callVB (N0 := 3) (q0 := 0) (rest := []) h [rkW D aθ (aρ 0) pθ_spare aν pθ_text θ, rmW D aρ ρ, tlW D aν aS0 aS1 aS2 aS3 S0 S1 S2 S3] [0, 1, 2] [] hd_X3_save wm_209 dX3_pass_33 (CX3_save l D aθ pθ_spare pθ_text aρ aν aS0 aS1 aS2 aS3 θ ρ S0 S1 S2 S3 z4.1 z4.2.1 z4.2.2.1 z4.2.2.2.1 z4.2.2.2.2 e5) rfl rfl rfl (by decide +kernel) rfl rfl rfl ⟨rfl, rfl⟩ ⟨by decide, by decide⟩ (Nat.le_of_ble_eq_true rfl) ⟨by decide, by decide⟩ rfl (fun v w' hp => ?_)
      obtain ⟨rfl, a6, a7, a8, a9, rfl⟩ := hp
      refine J.blk2 (ws' := [rkW D aθ (aρ 0) pθ_spare aν pθ_text z4.1, rmW D aρ ρ, tlW D aν a6 a7 a8 a9 z4.2.1 z4.2.2.1 z4.2.2.2.1 z4.2.2.2.2].flatten) 3 (pkB [rkW D aθ (aρ 0) pθ_spare aν pθ_text θ, rmW D aρ ρ, tlW D aν aS0 aS1 aS2 aS3 S0 S1 S2 S3] []) ([rkW D aθ (aρ 0) pθ_spare aν pθ_text z4.1, rmW D aρ ρ, tlW D aν a6 a7 a8 a9 z4.2.1 z4.2.2.1 z4.2.2.2.1 z4.2.2.2.2]) [0, 1, 2] rfl rfl rfl rfl (by decide +kernel) ?_
      refine r_aload_n h 0 rfl rfl dX3_pass_36 ?_
      refine r_get h fl_X3_12 0 rfl rfl dX3_pass_37 ?_
      refine r_dup h rfl dX3_pass_40 ?_
      refine r_get h fl_X3_113 1 rfl rfl dX3_pass_41 ?_
      refine r_iload_n h 1 rfl rfl dX3_pass_44 ?_
      refine r_iadd h dX3_pass_45 ?_
      refine r_put (ws' := [rkW D aθ (aρ 0) pθ_spare aν pθ_text z4.1, rmW D aρ (ρ.1, ρ.2.1, ρ.2.2.1, ρ.2.2.2.1, ρ.2.2.2.2.1, ρ.2.2.2.2.2.1, ρ.2.2.2.2.2.2.1, ρ.2.2.2.2.2.2.2.1, ρ.2.2.2.2.2.2.2.2.1, ρ.2.2.2.2.2.2.2.2.2.1, ρ.2.2.2.2.2.2.2.2.2.2.1, ρ.2.2.2.2.2.2.2.2.2.2.2.1 + x1, ρ.2.2.2.2.2.2.2.2.2.2.2.2.1, ρ.2.2.2.2.2.2.2.2.2.2.2.2.2), tlW D aν a6 a7 a8 a9 z4.2.1 z4.2.2.1 z4.2.2.2.1 z4.2.2.2.2].flatten) h fp_X3_113 1 rfl (Nat.le_of_ble_eq_true rfl) rfl rfl rfl dX3_pass_46 ?_
      refine r_aload_n h 0 rfl rfl dX3_pass_49 ?_
      refine r_get h fl_X3_12 0 rfl rfl dX3_pass_50 ?_
      refine r_get h fl_X3_113 1 rfl rfl dX3_pass_53 ?_
      cases hF
      exact r_iret h hr dX3_pass_56 ⟨rfl, a6, a7, a8, a9, rfl⟩
    · replace hF := o_neg c3 hF
      cases hF

abbrev rmTX3_pass : Room := { frames := 7, cells := 1, slots := 6, locals := 124 }
set_option maxHeartbeats 4000000 in
set_option maxRecDepth 100000 in
theorem TX3_pass (l : Launch) (hl0 : l.stackTraces = false) (D : va_G) (aθ : Nat) (pθ_spare : Nat) (pθ_text : Nat) (aρ : Nat → Nat) (aν : Nat) (aS0 : Nat → Nat) (aS1 : Nat → Nat) (aS2 : Nat → Nat) (aS3 : Nat → Nat) (θ : Int32) (ρ : RS) (S0 : RS) (S1 : RS) (S2 : RS) (S3 : RS) (x1 : Int32) (k0 : Nat) (hF : FX3_pass θ ρ S0 S1 S2 S3 x1 = some (.inl k0)) : CtT l D yX3_pass cX3_pass 2 (some .int) rmTX3_pass 1 6 [.ref aθ, .int x1] ([rkW D aθ (aρ 0) pθ_spare aν pθ_text θ, rmW D aρ ρ, tlW D aν aS0 aS1 aS2 aS3 S0 S1 S2 S3].flatten) (exn k0) := by
  refine CtT.of (own := RX3) (lv := [(0, .ref aθ), (1, .int x1)]) (by decide +kernel) rfl (Nat.le_of_ble_eq_true rfl) rfl (fun X h hx ht => ?_)
  unfold FX3_pass at hF
  refine r_iload_n h 1 rfl rfl dX3_pass_0 ?_
  refine r_iconst (v := 1) h dX3_pass_1 (by decide) ?_
  refine r_bipush (v := 99) h dX3_pass_2 (by decide) ?_
  rcases o_bX hF with ⟨k_z1, e2, hF⟩ | ⟨z1, e2, hF⟩
  · cases hF
    exact r_callTSp (rest := []) h hx ht hd_X3_checkRange wm_360 dX3_pass_4 (TX3_checkRange l hl0 D x1 (1 : Int32) (99 : Int32) _ e2) rfl ⟨rfl, rfl⟩ ⟨by decide, by decide⟩ (Nat.le_of_ble_eq_true rfl) ⟨by decide, by decide⟩ ⟨by decide, by decide⟩ rfl
  · refine r_callSv (rest := []) h hd_X3_checkRange wm_360 dX3_pass_4 (CX3_checkRange l D x1 (1 : Int32) (99 : Int32) e2) rfl ⟨rfl, rfl⟩ ⟨by decide, by decide⟩ (Nat.le_of_ble_eq_true rfl) ⟨by decide, by decide⟩ rfl ?_
    refine r_aload_n h 0 rfl rfl dX3_pass_7 ?_
    refine r_get h fl_X3_12 0 rfl rfl dX3_pass_8 ?_
    refine r_get h fl_X3_113 1 rfl rfl dX3_pass_11 ?_
    refine r_iload_n h 1 rfl rfl dX3_pass_14 ?_
    refine r_iadd h dX3_pass_15 ?_
    refine r_sipush (v := 2000) h dX3_pass_16 (by decide) ?_
    refine r_icmp_le h 32 dX3_pass_19 (by decide) (fun c3 => ?_) (fun c3 => ?_)
    · replace hF := o_pos c3 hF
      refine r_aload_n h 0 rfl rfl dX3_pass_32 ?_
      obtain ⟨z4, e5, hF⟩ := o_bind hF
      refine r_callVB (N0 := 3) (q0 := 0) (rest := []) h [rkW D aθ (aρ 0) pθ_spare aν pθ_text θ, rmW D aρ ρ, tlW D aν aS0 aS1 aS2 aS3 S0 S1 S2 S3] [0, 1, 2] [] hd_X3_save wm_209 dX3_pass_33 (CX3_save l D aθ pθ_spare pθ_text aρ aν aS0 aS1 aS2 aS3 θ ρ S0 S1 S2 S3 z4.1 z4.2.1 z4.2.2.1 z4.2.2.2.1 z4.2.2.2.2 e5) rfl rfl rfl (by decide +kernel) rfl rfl rfl ⟨rfl, rfl⟩ ⟨by decide, by decide⟩ (Nat.le_of_ble_eq_true rfl) ⟨by decide, by decide⟩ rfl (fun v w' hp => ?_)
      obtain ⟨rfl, a6, a7, a8, a9, rfl⟩ := hp
      refine J.blk2 (ws' := [rkW D aθ (aρ 0) pθ_spare aν pθ_text z4.1, rmW D aρ ρ, tlW D aν a6 a7 a8 a9 z4.2.1 z4.2.2.1 z4.2.2.2.1 z4.2.2.2.2].flatten) 3 (pkB [rkW D aθ (aρ 0) pθ_spare aν pθ_text θ, rmW D aρ ρ, tlW D aν aS0 aS1 aS2 aS3 S0 S1 S2 S3] []) ([rkW D aθ (aρ 0) pθ_spare aν pθ_text z4.1, rmW D aρ ρ, tlW D aν a6 a7 a8 a9 z4.2.1 z4.2.2.1 z4.2.2.2.1 z4.2.2.2.2]) [0, 1, 2] rfl rfl rfl rfl (by decide +kernel) ?_
      refine r_aload_n h 0 rfl rfl dX3_pass_36 ?_
      refine r_get h fl_X3_12 0 rfl rfl dX3_pass_37 ?_
      refine r_dup h rfl dX3_pass_40 ?_
      refine r_get h fl_X3_113 1 rfl rfl dX3_pass_41 ?_
      refine r_iload_n h 1 rfl rfl dX3_pass_44 ?_
      refine r_iadd h dX3_pass_45 ?_
      refine r_put (ws' := [rkW D aθ (aρ 0) pθ_spare aν pθ_text z4.1, rmW D aρ (ρ.1, ρ.2.1, ρ.2.2.1, ρ.2.2.2.1, ρ.2.2.2.2.1, ρ.2.2.2.2.2.1, ρ.2.2.2.2.2.2.1, ρ.2.2.2.2.2.2.2.1, ρ.2.2.2.2.2.2.2.2.1, ρ.2.2.2.2.2.2.2.2.2.1, ρ.2.2.2.2.2.2.2.2.2.2.1, ρ.2.2.2.2.2.2.2.2.2.2.2.1 + x1, ρ.2.2.2.2.2.2.2.2.2.2.2.2.1, ρ.2.2.2.2.2.2.2.2.2.2.2.2.2), tlW D aν a6 a7 a8 a9 z4.2.1 z4.2.2.1 z4.2.2.2.1 z4.2.2.2.2].flatten) h fp_X3_113 1 rfl (Nat.le_of_ble_eq_true rfl) rfl rfl rfl dX3_pass_46 ?_
      refine r_aload_n h 0 rfl rfl dX3_pass_49 ?_
      refine r_get h fl_X3_12 0 rfl rfl dX3_pass_50 ?_
      refine r_get h fl_X3_113 1 rfl rfl dX3_pass_53 ?_
      cases hF
    · replace hF := o_neg c3 hF
      cases hF
      exact r_throw (E := exn 3) (text := "the hour would be too great") h hx ht hl0 thf_3 (by decide +kernel) dX3_pass_22 dX3_pass_25 dX3_pass_26 dX3_pass_28 dX3_pass_31 ⟨by decide, Nat.le_of_ble_eq_true rfl, by decide, by decide⟩ ⟨by decide, by decide⟩

def FX3_move (θ : Int32) (ρ : RS) (S0 : RS) (S1 : RS) (S2 : RS) (S3 : RS) (x1 : Int32) (x2 : Int32) : Option (Nat ⊕ (Int32 × Int32 × RS × RS × RS × RS × RS)) :=
  bX (FX3_checkMachine θ ρ x1) fun z1 =>
  bX (FX3_checkRange x2 (-1 : Int32) (5 : Int32)) fun z3 =>
  (FX1_whyNotMove ρ x1 x2).bind fun z5 =>
  if z5.1 = 0 then
  ((FX3_save θ z5.2 S0 S1 S2 S3).bind fun z8 =>
  (FX1_doMove z5.2 x1 x2).bind fun z14 =>
  some (.inr (z5.1, z8.1, z14, z8.2.1, z8.2.2.1, z8.2.2.2.1, z8.2.2.2.2)))
else
  (some (.inr (z5.1, θ, z5.2, S0, S1, S2, S3)))
abbrev rmX3_move : Room := { frames := 6, cells := 0, slots := 0, locals := 142 }
set_option maxHeartbeats 4000000 in
set_option maxRecDepth 100000 in
theorem CX3_move (l : Launch) (D : va_G) (aθ : Nat) (pθ_spare : Nat) (pθ_text : Nat) (aρ : Nat → Nat) (aν : Nat) (aS0 : Nat → Nat) (aS1 : Nat → Nat) (aS2 : Nat → Nat) (aS3 : Nat → Nat) (θ : Int32) (ρ : RS) (S0 : RS) (S1 : RS) (S2 : RS) (S3 : RS) (x1 : Int32) (x2 : Int32) (r0 : Int32) (θ0 : Int32) (ρ0 : RS) (S00 : RS) (S10 : RS) (S20 : RS) (S30 : RS) (hF : FX3_move θ ρ S0 S1 S2 S3 x1 x2 = some (.inr (r0, θ0, ρ0, S00, S10, S20, S30))) : Ct l D yX3_move cX3_move 4 (some .int) rmX3_move 0 0 [.ref aθ, .int x1, .int x2] ([rkW D aθ (aρ 0) pθ_spare aν pθ_text θ, rmW D aρ ρ, tlW D aν aS0 aS1 aS2 aS3 S0 S1 S2 S3].flatten) (fun v w => v = some (.int r0) ∧ ∃ (bS0 : Nat → Nat) (bS1 : Nat → Nat) (bS2 : Nat → Nat) (bS3 : Nat → Nat), w = [rkW D aθ (aρ 0) pθ_spare aν pθ_text θ0, rmW D aρ ρ0, tlW D aν bS0 bS1 bS2 bS3 S00 S10 S20 S30].flatten) := by
  refine Ct.of (own := RX3) (lv := [(0, .ref aθ), (1, .int x1), (2, .int x2)]) (by decide +kernel) rfl (Nat.le_of_ble_eq_true rfl) rfl (fun X h hr => ?_)
  unfold FX3_move at hF
  refine r_aload_n h 0 rfl rfl dX3_move_0 ?_
  refine r_iload_n h 1 rfl rfl dX3_move_1 ?_
  rcases o_bX hF with ⟨k_z1, e2, hF⟩ | ⟨z1, e2, hF⟩
  · cases hF
  · refine r_callVB (N0 := 3) (q0 := 0) (rest := []) h [rkW D aθ (aρ 0) pθ_spare aν pθ_text θ, rmW D aρ ρ, tlW D aν aS0 aS1 aS2 aS3 S0 S1 S2 S3] [0, 1] [2] hd_X3_checkMachine wm_499 dX3_move_2 (CX3_checkMachine l D aθ pθ_spare aν pθ_text aρ θ ρ x1 e2) rfl rfl rfl (by decide +kernel) rfl rfl rfl ⟨rfl, rfl⟩ ⟨by decide, by decide⟩ (Nat.le_of_ble_eq_true rfl) ⟨by decide, by decide⟩ rfl (fun v w' hp => ?_)
    obtain ⟨rfl, rfl⟩ := hp
    refine J.blk2 (ws' := [rkW D aθ (aρ 0) pθ_spare aν pθ_text θ, rmW D aρ ρ, tlW D aν aS0 aS1 aS2 aS3 S0 S1 S2 S3].flatten) 3 (pkB [rkW D aθ (aρ 0) pθ_spare aν pθ_text θ, rmW D aρ ρ, tlW D aν aS0 aS1 aS2 aS3 S0 S1 S2 S3] [2]) ([rkW D aθ (aρ 0) pθ_spare aν pθ_text θ, rmW D aρ ρ]) [1, 2, 0] rfl rfl rfl rfl (by decide +kernel) ?_
    refine r_iload_n h 2 rfl rfl dX3_move_5 ?_
    refine r_iconst (v := -1) h dX3_move_6 (by decide) ?_
    refine r_iconst (v := 5) h dX3_move_7 (by decide) ?_
    rcases o_bX hF with ⟨k_z3, e4, hF⟩ | ⟨z3, e4, hF⟩
    · cases hF
    · refine r_callSv (rest := []) h hd_X3_checkRange wm_360 dX3_move_8 (CX3_checkRange l D x2 (-1 : Int32) (5 : Int32) e4) rfl ⟨rfl, rfl⟩ ⟨by decide, by decide⟩ (Nat.le_of_ble_eq_true rfl) ⟨by decide, by decide⟩ rfl ?_
      refine r_aload_n h 0 rfl rfl dX3_move_11 ?_
      refine r_get h fl_X3_12 0 rfl rfl dX3_move_12 ?_
      refine r_iload_n h 1 rfl rfl dX3_move_15 ?_
      refine r_iload_n h 2 rfl rfl dX3_move_16 ?_
      obtain ⟨z5, e6, hF⟩ := o_bind hF
      refine r_callVB (N0 := 3) (q0 := 0) (rest := []) h [rkW D aθ (aρ 0) pθ_spare aν pθ_text θ, rmW D aρ ρ, tlW D aν aS0 aS1 aS2 aS3 S0 S1 S2 S3] [1] [0, 2] hd_X1_whyNotMove wm_650 dX3_move_17 (CX1_whyNotMove l D aρ ρ x1 x2 z5.1 z5.2 e6) rfl rfl rfl (by decide +kernel) rfl rfl rfl ⟨rfl, rfl⟩ ⟨by decide, by decide⟩ (Nat.le_of_ble_eq_true rfl) ⟨by decide, by decide⟩ rfl (fun v w' hp => ?_)
      obtain ⟨rfl, rfl⟩ := hp
      refine J.blk2 (ws' := [rkW D aθ (aρ 0) pθ_spare aν pθ_text θ, rmW D aρ z5.2, tlW D aν aS0 aS1 aS2 aS3 S0 S1 S2 S3].flatten) 3 (pkB [rkW D aθ (aρ 0) pθ_spare aν pθ_text θ, rmW D aρ ρ, tlW D aν aS0 aS1 aS2 aS3 S0 S1 S2 S3] [0, 2]) ([rmW D aρ z5.2]) [0, 2, 1] rfl rfl rfl rfl (by decide +kernel) ?_
      refine r_istore_n (lv' := [(3, .int z5.1), (0, .ref aθ), (1, .int x1), (2, .int x2)]) h rfl dX3_move_20 (by decide) rfl ?_
      refine r_iload_n h 0 rfl rfl dX3_move_21 ?_
      refine r_if_ne h 38 dX3_move_22 (by decide) (fun c7 => ?_) (fun c7 => ?_)
      · replace hF := o_neg c7 hF
        refine r_iload_n h 0 rfl rfl dX3_move_38 ?_
        cases hF
        exact r_iret h hr dX3_move_39 ⟨rfl, aS0, aS1, aS2, aS3, rfl⟩
      · replace hF := o_pos c7 hF
        refine r_aload_n h 1 rfl rfl dX3_move_25 ?_
        obtain ⟨z8, e9, hF⟩ := o_bind hF
        refine r_callVB (N0 := 3) (q0 := 0) (rest := []) h [rkW D aθ (aρ 0) pθ_spare aν pθ_text θ, rmW D aρ z5.2, tlW D aν aS0 aS1 aS2 aS3 S0 S1 S2 S3] [0, 1, 2] [] hd_X3_save wm_209 dX3_move_26 (CX3_save l D aθ pθ_spare pθ_text aρ aν aS0 aS1 aS2 aS3 θ z5.2 S0 S1 S2 S3 z8.1 z8.2.1 z8.2.2.1 z8.2.2.2.1 z8.2.2.2.2 e9) rfl rfl rfl (by decide +kernel) rfl rfl rfl ⟨rfl, rfl⟩ ⟨by decide, by decide⟩ (Nat.le_of_ble_eq_true rfl) ⟨by decide, by decide⟩ rfl (fun v w' hp => ?_)
        obtain ⟨rfl, a10, a11, a12, a13, rfl⟩ := hp
        refine J.blk2 (ws' := [rkW D aθ (aρ 0) pθ_spare aν pθ_text z8.1, rmW D aρ z5.2, tlW D aν a10 a11 a12 a13 z8.2.1 z8.2.2.1 z8.2.2.2.1 z8.2.2.2.2].flatten) 3 (pkB [rkW D aθ (aρ 0) pθ_spare aν pθ_text θ, rmW D aρ z5.2, tlW D aν aS0 aS1 aS2 aS3 S0 S1 S2 S3] []) ([rkW D aθ (aρ 0) pθ_spare aν pθ_text z8.1, rmW D aρ z5.2, tlW D aν a10 a11 a12 a13 z8.2.1 z8.2.2.1 z8.2.2.2.1 z8.2.2.2.2]) [0, 1, 2] rfl rfl rfl rfl (by decide +kernel) ?_
        refine r_aload_n h 1 rfl rfl dX3_move_29 ?_
        refine r_get h fl_X3_12 0 rfl rfl dX3_move_30 ?_
        refine r_iload_n h 2 rfl rfl dX3_move_33 ?_
        refine r_iload_n h 3 rfl rfl dX3_move_34 ?_
        obtain ⟨z14, e15, hF⟩ := o_bind hF
        refine r_callVB (N0 := 3) (q0 := 0) (rest := []) h [rkW D aθ (aρ 0) pθ_spare aν pθ_text z8.1, rmW D aρ z5.2, tlW D aν a10 a11 a12 a13 z8.2.1 z8.2.2.1 z8.2.2.2.1 z8.2.2.2.2] [1] [0, 2] hd_X1_doMove wm_651 dX3_move_35 (CX1_doMove l D aρ z5.2 x1 x2 z14 e15) rfl rfl rfl (by decide +kernel) rfl rfl rfl ⟨rfl, rfl⟩ ⟨by decide, by decide⟩ (Nat.le_of_ble_eq_true rfl) ⟨by decide, by decide⟩ rfl (fun v w' hp => ?_)
        obtain ⟨rfl, rfl⟩ := hp
        refine J.blk2 (ws' := [rkW D aθ (aρ 0) pθ_spare aν pθ_text z8.1, rmW D aρ z14, tlW D aν a10 a11 a12 a13 z8.2.1 z8.2.2.1 z8.2.2.2.1 z8.2.2.2.2].flatten) 3 (pkB [rkW D aθ (aρ 0) pθ_spare aν pθ_text z8.1, rmW D aρ z5.2, tlW D aν a10 a11 a12 a13 z8.2.1 z8.2.2.1 z8.2.2.2.1 z8.2.2.2.2] [0, 2]) ([rmW D aρ z14]) [0, 2, 1] rfl rfl rfl rfl (by decide +kernel) ?_
        refine r_iload_n h 0 rfl rfl dX3_move_38 ?_
        cases hF
        exact r_iret h hr dX3_move_39 ⟨rfl, a10, a11, a12, a13, rfl⟩

abbrev rmTX3_move : Room := { frames := 7, cells := 1, slots := 6, locals := 142 }
set_option maxHeartbeats 4000000 in
set_option maxRecDepth 100000 in
theorem TX3_move (l : Launch) (hl0 : l.stackTraces = false) (D : va_G) (aθ : Nat) (pθ_spare : Nat) (pθ_text : Nat) (aρ : Nat → Nat) (aν : Nat) (aS0 : Nat → Nat) (aS1 : Nat → Nat) (aS2 : Nat → Nat) (aS3 : Nat → Nat) (θ : Int32) (ρ : RS) (S0 : RS) (S1 : RS) (S2 : RS) (S3 : RS) (x1 : Int32) (x2 : Int32) (k0 : Nat) (hF : FX3_move θ ρ S0 S1 S2 S3 x1 x2 = some (.inl k0)) : CtT l D yX3_move cX3_move 4 (some .int) rmTX3_move 1 6 [.ref aθ, .int x1, .int x2] ([rkW D aθ (aρ 0) pθ_spare aν pθ_text θ, rmW D aρ ρ, tlW D aν aS0 aS1 aS2 aS3 S0 S1 S2 S3].flatten) (exn k0) := by
  refine CtT.of (own := RX3) (lv := [(0, .ref aθ), (1, .int x1), (2, .int x2)]) (by decide +kernel) rfl (Nat.le_of_ble_eq_true rfl) rfl (fun X h hx ht => ?_)
  unfold FX3_move at hF
  refine r_aload_n h 0 rfl rfl dX3_move_0 ?_
  refine r_iload_n h 1 rfl rfl dX3_move_1 ?_
  rcases o_bX hF with ⟨k_z1, e2, hF⟩ | ⟨z1, e2, hF⟩
  · cases hF
    exact r_callTVB (N0 := 3) (q0 := 0) (rest := []) h hx ht [rkW D aθ (aρ 0) pθ_spare aν pθ_text θ, rmW D aρ ρ, tlW D aν aS0 aS1 aS2 aS3 S0 S1 S2 S3] [0, 1] [2] hd_X3_checkMachine wm_499 dX3_move_2 (TX3_checkMachine l hl0 D aθ pθ_spare aν pθ_text aρ θ ρ x1 _ e2) rfl rfl rfl (by decide +kernel) rfl rfl rfl ⟨rfl, rfl⟩ ⟨by decide, by decide⟩ (Nat.le_of_ble_eq_true rfl) ⟨by decide, by decide⟩ ⟨by decide, by decide⟩ rfl
  · refine r_callVB (N0 := 3) (q0 := 0) (rest := []) h [rkW D aθ (aρ 0) pθ_spare aν pθ_text θ, rmW D aρ ρ, tlW D aν aS0 aS1 aS2 aS3 S0 S1 S2 S3] [0, 1] [2] hd_X3_checkMachine wm_499 dX3_move_2 (CX3_checkMachine l D aθ pθ_spare aν pθ_text aρ θ ρ x1 e2) rfl rfl rfl (by decide +kernel) rfl rfl rfl ⟨rfl, rfl⟩ ⟨by decide, by decide⟩ (Nat.le_of_ble_eq_true rfl) ⟨by decide, by decide⟩ rfl (fun v w' hp => ?_)
    obtain ⟨rfl, rfl⟩ := hp
    refine J.blk2 (ws' := [rkW D aθ (aρ 0) pθ_spare aν pθ_text θ, rmW D aρ ρ, tlW D aν aS0 aS1 aS2 aS3 S0 S1 S2 S3].flatten) 3 (pkB [rkW D aθ (aρ 0) pθ_spare aν pθ_text θ, rmW D aρ ρ, tlW D aν aS0 aS1 aS2 aS3 S0 S1 S2 S3] [2]) ([rkW D aθ (aρ 0) pθ_spare aν pθ_text θ, rmW D aρ ρ]) [1, 2, 0] rfl rfl rfl rfl (by decide +kernel) ?_
    refine r_iload_n h 2 rfl rfl dX3_move_5 ?_
    refine r_iconst (v := -1) h dX3_move_6 (by decide) ?_
    refine r_iconst (v := 5) h dX3_move_7 (by decide) ?_
    rcases o_bX hF with ⟨k_z3, e4, hF⟩ | ⟨z3, e4, hF⟩
    · cases hF
      exact r_callTSp (rest := []) h hx ht hd_X3_checkRange wm_360 dX3_move_8 (TX3_checkRange l hl0 D x2 (-1 : Int32) (5 : Int32) _ e4) rfl ⟨rfl, rfl⟩ ⟨by decide, by decide⟩ (Nat.le_of_ble_eq_true rfl) ⟨by decide, by decide⟩ ⟨by decide, by decide⟩ rfl
    · refine r_callSv (rest := []) h hd_X3_checkRange wm_360 dX3_move_8 (CX3_checkRange l D x2 (-1 : Int32) (5 : Int32) e4) rfl ⟨rfl, rfl⟩ ⟨by decide, by decide⟩ (Nat.le_of_ble_eq_true rfl) ⟨by decide, by decide⟩ rfl ?_
      refine r_aload_n h 0 rfl rfl dX3_move_11 ?_
      refine r_get h fl_X3_12 0 rfl rfl dX3_move_12 ?_
      refine r_iload_n h 1 rfl rfl dX3_move_15 ?_
      refine r_iload_n h 2 rfl rfl dX3_move_16 ?_
      obtain ⟨z5, e6, hF⟩ := o_bind hF
      refine r_callVB (N0 := 3) (q0 := 0) (rest := []) h [rkW D aθ (aρ 0) pθ_spare aν pθ_text θ, rmW D aρ ρ, tlW D aν aS0 aS1 aS2 aS3 S0 S1 S2 S3] [1] [0, 2] hd_X1_whyNotMove wm_650 dX3_move_17 (CX1_whyNotMove l D aρ ρ x1 x2 z5.1 z5.2 e6) rfl rfl rfl (by decide +kernel) rfl rfl rfl ⟨rfl, rfl⟩ ⟨by decide, by decide⟩ (Nat.le_of_ble_eq_true rfl) ⟨by decide, by decide⟩ rfl (fun v w' hp => ?_)
      obtain ⟨rfl, rfl⟩ := hp
      refine J.blk2 (ws' := [rkW D aθ (aρ 0) pθ_spare aν pθ_text θ, rmW D aρ z5.2, tlW D aν aS0 aS1 aS2 aS3 S0 S1 S2 S3].flatten) 3 (pkB [rkW D aθ (aρ 0) pθ_spare aν pθ_text θ, rmW D aρ ρ, tlW D aν aS0 aS1 aS2 aS3 S0 S1 S2 S3] [0, 2]) ([rmW D aρ z5.2]) [0, 2, 1] rfl rfl rfl rfl (by decide +kernel) ?_
      refine r_istore_n (lv' := [(3, .int z5.1), (0, .ref aθ), (1, .int x1), (2, .int x2)]) h rfl dX3_move_20 (by decide) rfl ?_
      refine r_iload_n h 0 rfl rfl dX3_move_21 ?_
      refine r_if_ne h 38 dX3_move_22 (by decide) (fun c7 => ?_) (fun c7 => ?_)
      · replace hF := o_neg c7 hF
        refine r_iload_n h 0 rfl rfl dX3_move_38 ?_
        cases hF
      · replace hF := o_pos c7 hF
        refine r_aload_n h 1 rfl rfl dX3_move_25 ?_
        obtain ⟨z8, e9, hF⟩ := o_bind hF
        refine r_callVB (N0 := 3) (q0 := 0) (rest := []) h [rkW D aθ (aρ 0) pθ_spare aν pθ_text θ, rmW D aρ z5.2, tlW D aν aS0 aS1 aS2 aS3 S0 S1 S2 S3] [0, 1, 2] [] hd_X3_save wm_209 dX3_move_26 (CX3_save l D aθ pθ_spare pθ_text aρ aν aS0 aS1 aS2 aS3 θ z5.2 S0 S1 S2 S3 z8.1 z8.2.1 z8.2.2.1 z8.2.2.2.1 z8.2.2.2.2 e9) rfl rfl rfl (by decide +kernel) rfl rfl rfl ⟨rfl, rfl⟩ ⟨by decide, by decide⟩ (Nat.le_of_ble_eq_true rfl) ⟨by decide, by decide⟩ rfl (fun v w' hp => ?_)
        obtain ⟨rfl, a10, a11, a12, a13, rfl⟩ := hp
        refine J.blk2 (ws' := [rkW D aθ (aρ 0) pθ_spare aν pθ_text z8.1, rmW D aρ z5.2, tlW D aν a10 a11 a12 a13 z8.2.1 z8.2.2.1 z8.2.2.2.1 z8.2.2.2.2].flatten) 3 (pkB [rkW D aθ (aρ 0) pθ_spare aν pθ_text θ, rmW D aρ z5.2, tlW D aν aS0 aS1 aS2 aS3 S0 S1 S2 S3] []) ([rkW D aθ (aρ 0) pθ_spare aν pθ_text z8.1, rmW D aρ z5.2, tlW D aν a10 a11 a12 a13 z8.2.1 z8.2.2.1 z8.2.2.2.1 z8.2.2.2.2]) [0, 1, 2] rfl rfl rfl rfl (by decide +kernel) ?_
        refine r_aload_n h 1 rfl rfl dX3_move_29 ?_
        refine r_get h fl_X3_12 0 rfl rfl dX3_move_30 ?_
        refine r_iload_n h 2 rfl rfl dX3_move_33 ?_
        refine r_iload_n h 3 rfl rfl dX3_move_34 ?_
        obtain ⟨z14, e15, hF⟩ := o_bind hF
        refine r_callVB (N0 := 3) (q0 := 0) (rest := []) h [rkW D aθ (aρ 0) pθ_spare aν pθ_text z8.1, rmW D aρ z5.2, tlW D aν a10 a11 a12 a13 z8.2.1 z8.2.2.1 z8.2.2.2.1 z8.2.2.2.2] [1] [0, 2] hd_X1_doMove wm_651 dX3_move_35 (CX1_doMove l D aρ z5.2 x1 x2 z14 e15) rfl rfl rfl (by decide +kernel) rfl rfl rfl ⟨rfl, rfl⟩ ⟨by decide, by decide⟩ (Nat.le_of_ble_eq_true rfl) ⟨by decide, by decide⟩ rfl (fun v w' hp => ?_)
        obtain ⟨rfl, rfl⟩ := hp
        refine J.blk2 (ws' := [rkW D aθ (aρ 0) pθ_spare aν pθ_text z8.1, rmW D aρ z14, tlW D aν a10 a11 a12 a13 z8.2.1 z8.2.2.1 z8.2.2.2.1 z8.2.2.2.2].flatten) 3 (pkB [rkW D aθ (aρ 0) pθ_spare aν pθ_text z8.1, rmW D aρ z5.2, tlW D aν a10 a11 a12 a13 z8.2.1 z8.2.2.1 z8.2.2.2.1 z8.2.2.2.2] [0, 2]) ([rmW D aρ z14]) [0, 2, 1] rfl rfl rfl rfl (by decide +kernel) ?_
        refine r_iload_n h 0 rfl rfl dX3_move_38 ?_
        cases hF

def FX3_change (θ : Int32) (ρ : RS) (S0 : RS) (S1 : RS) (S2 : RS) (S3 : RS) (x1 : Int32) (x2 : Int32) : Option (Nat ⊕ (Int32 × Int32 × RS × RS × RS × RS × RS)) :=
  bX (FX3_checkMachine θ ρ x1) fun z1 =>
  bX (FX3_checkRange x2 (0 : Int32) (2 : Int32)) fun z3 =>
  (FX1_whyNotChange ρ x1 x2).bind fun z5 =>
  if z5.1 = 0 then
  ((FX3_save θ z5.2 S0 S1 S2 S3).bind fun z8 =>
  (FX1_doChange z5.2 x1 x2).bind fun z14 =>
  some (.inr (z5.1, z8.1, z14, z8.2.1, z8.2.2.1, z8.2.2.2.1, z8.2.2.2.2)))
else
  (some (.inr (z5.1, θ, z5.2, S0, S1, S2, S3)))
abbrev rmX3_change : Room := { frames := 6, cells := 0, slots := 0, locals := 141 }
set_option maxHeartbeats 4000000 in
set_option maxRecDepth 100000 in
theorem CX3_change (l : Launch) (D : va_G) (aθ : Nat) (pθ_spare : Nat) (pθ_text : Nat) (aρ : Nat → Nat) (aν : Nat) (aS0 : Nat → Nat) (aS1 : Nat → Nat) (aS2 : Nat → Nat) (aS3 : Nat → Nat) (θ : Int32) (ρ : RS) (S0 : RS) (S1 : RS) (S2 : RS) (S3 : RS) (x1 : Int32) (x2 : Int32) (r0 : Int32) (θ0 : Int32) (ρ0 : RS) (S00 : RS) (S10 : RS) (S20 : RS) (S30 : RS) (hF : FX3_change θ ρ S0 S1 S2 S3 x1 x2 = some (.inr (r0, θ0, ρ0, S00, S10, S20, S30))) : Ct l D yX3_change cX3_change 4 (some .int) rmX3_change 0 0 [.ref aθ, .int x1, .int x2] ([rkW D aθ (aρ 0) pθ_spare aν pθ_text θ, rmW D aρ ρ, tlW D aν aS0 aS1 aS2 aS3 S0 S1 S2 S3].flatten) (fun v w => v = some (.int r0) ∧ ∃ (bS0 : Nat → Nat) (bS1 : Nat → Nat) (bS2 : Nat → Nat) (bS3 : Nat → Nat), w = [rkW D aθ (aρ 0) pθ_spare aν pθ_text θ0, rmW D aρ ρ0, tlW D aν bS0 bS1 bS2 bS3 S00 S10 S20 S30].flatten) := by
  refine Ct.of (own := RX3) (lv := [(0, .ref aθ), (1, .int x1), (2, .int x2)]) (by decide +kernel) rfl (Nat.le_of_ble_eq_true rfl) rfl (fun X h hr => ?_)
  unfold FX3_change at hF
  refine r_aload_n h 0 rfl rfl dX3_change_0 ?_
  refine r_iload_n h 1 rfl rfl dX3_change_1 ?_
  rcases o_bX hF with ⟨k_z1, e2, hF⟩ | ⟨z1, e2, hF⟩
  · cases hF
  · refine r_callVB (N0 := 3) (q0 := 0) (rest := []) h [rkW D aθ (aρ 0) pθ_spare aν pθ_text θ, rmW D aρ ρ, tlW D aν aS0 aS1 aS2 aS3 S0 S1 S2 S3] [0, 1] [2] hd_X3_checkMachine wm_499 dX3_change_2 (CX3_checkMachine l D aθ pθ_spare aν pθ_text aρ θ ρ x1 e2) rfl rfl rfl (by decide +kernel) rfl rfl rfl ⟨rfl, rfl⟩ ⟨by decide, by decide⟩ (Nat.le_of_ble_eq_true rfl) ⟨by decide, by decide⟩ rfl (fun v w' hp => ?_)
    obtain ⟨rfl, rfl⟩ := hp
    refine J.blk2 (ws' := [rkW D aθ (aρ 0) pθ_spare aν pθ_text θ, rmW D aρ ρ, tlW D aν aS0 aS1 aS2 aS3 S0 S1 S2 S3].flatten) 3 (pkB [rkW D aθ (aρ 0) pθ_spare aν pθ_text θ, rmW D aρ ρ, tlW D aν aS0 aS1 aS2 aS3 S0 S1 S2 S3] [2]) ([rkW D aθ (aρ 0) pθ_spare aν pθ_text θ, rmW D aρ ρ]) [1, 2, 0] rfl rfl rfl rfl (by decide +kernel) ?_
    refine r_iload_n h 2 rfl rfl dX3_change_5 ?_
    refine r_iconst (v := 0) h dX3_change_6 (by decide) ?_
    refine r_iconst (v := 2) h dX3_change_7 (by decide) ?_
    rcases o_bX hF with ⟨k_z3, e4, hF⟩ | ⟨z3, e4, hF⟩
    · cases hF
    · refine r_callSv (rest := []) h hd_X3_checkRange wm_360 dX3_change_8 (CX3_checkRange l D x2 (0 : Int32) (2 : Int32) e4) rfl ⟨rfl, rfl⟩ ⟨by decide, by decide⟩ (Nat.le_of_ble_eq_true rfl) ⟨by decide, by decide⟩ rfl ?_
      refine r_aload_n h 0 rfl rfl dX3_change_11 ?_
      refine r_get h fl_X3_12 0 rfl rfl dX3_change_12 ?_
      refine r_iload_n h 1 rfl rfl dX3_change_15 ?_
      refine r_iload_n h 2 rfl rfl dX3_change_16 ?_
      obtain ⟨z5, e6, hF⟩ := o_bind hF
      refine r_callVB (N0 := 3) (q0 := 0) (rest := []) h [rkW D aθ (aρ 0) pθ_spare aν pθ_text θ, rmW D aρ ρ, tlW D aν aS0 aS1 aS2 aS3 S0 S1 S2 S3] [1] [0, 2] hd_X1_whyNotChange wm_246 dX3_change_17 (CX1_whyNotChange l D aρ ρ x1 x2 z5.1 z5.2 e6) rfl rfl rfl (by decide +kernel) rfl rfl rfl ⟨rfl, rfl⟩ ⟨by decide, by decide⟩ (Nat.le_of_ble_eq_true rfl) ⟨by decide, by decide⟩ rfl (fun v w' hp => ?_)
      obtain ⟨rfl, rfl⟩ := hp
      refine J.blk2 (ws' := [rkW D aθ (aρ 0) pθ_spare aν pθ_text θ, rmW D aρ z5.2, tlW D aν aS0 aS1 aS2 aS3 S0 S1 S2 S3].flatten) 3 (pkB [rkW D aθ (aρ 0) pθ_spare aν pθ_text θ, rmW D aρ ρ, tlW D aν aS0 aS1 aS2 aS3 S0 S1 S2 S3] [0, 2]) ([rmW D aρ z5.2]) [0, 2, 1] rfl rfl rfl rfl (by decide +kernel) ?_
      refine r_istore_n (lv' := [(3, .int z5.1), (0, .ref aθ), (1, .int x1), (2, .int x2)]) h rfl dX3_change_20 (by decide) rfl ?_
      refine r_iload_n h 0 rfl rfl dX3_change_21 ?_
      refine r_if_ne h 38 dX3_change_22 (by decide) (fun c7 => ?_) (fun c7 => ?_)
      · replace hF := o_neg c7 hF
        refine r_iload_n h 0 rfl rfl dX3_change_38 ?_
        cases hF
        exact r_iret h hr dX3_change_39 ⟨rfl, aS0, aS1, aS2, aS3, rfl⟩
      · replace hF := o_pos c7 hF
        refine r_aload_n h 1 rfl rfl dX3_change_25 ?_
        obtain ⟨z8, e9, hF⟩ := o_bind hF
        refine r_callVB (N0 := 3) (q0 := 0) (rest := []) h [rkW D aθ (aρ 0) pθ_spare aν pθ_text θ, rmW D aρ z5.2, tlW D aν aS0 aS1 aS2 aS3 S0 S1 S2 S3] [0, 1, 2] [] hd_X3_save wm_209 dX3_change_26 (CX3_save l D aθ pθ_spare pθ_text aρ aν aS0 aS1 aS2 aS3 θ z5.2 S0 S1 S2 S3 z8.1 z8.2.1 z8.2.2.1 z8.2.2.2.1 z8.2.2.2.2 e9) rfl rfl rfl (by decide +kernel) rfl rfl rfl ⟨rfl, rfl⟩ ⟨by decide, by decide⟩ (Nat.le_of_ble_eq_true rfl) ⟨by decide, by decide⟩ rfl (fun v w' hp => ?_)
        obtain ⟨rfl, a10, a11, a12, a13, rfl⟩ := hp
        refine J.blk2 (ws' := [rkW D aθ (aρ 0) pθ_spare aν pθ_text z8.1, rmW D aρ z5.2, tlW D aν a10 a11 a12 a13 z8.2.1 z8.2.2.1 z8.2.2.2.1 z8.2.2.2.2].flatten) 3 (pkB [rkW D aθ (aρ 0) pθ_spare aν pθ_text θ, rmW D aρ z5.2, tlW D aν aS0 aS1 aS2 aS3 S0 S1 S2 S3] []) ([rkW D aθ (aρ 0) pθ_spare aν pθ_text z8.1, rmW D aρ z5.2, tlW D aν a10 a11 a12 a13 z8.2.1 z8.2.2.1 z8.2.2.2.1 z8.2.2.2.2]) [0, 1, 2] rfl rfl rfl rfl (by decide +kernel) ?_
        refine r_aload_n h 1 rfl rfl dX3_change_29 ?_
        refine r_get h fl_X3_12 0 rfl rfl dX3_change_30 ?_
        refine r_iload_n h 2 rfl rfl dX3_change_33 ?_
        refine r_iload_n h 3 rfl rfl dX3_change_34 ?_
        obtain ⟨z14, e15, hF⟩ := o_bind hF
        refine r_callVB (N0 := 3) (q0 := 0) (rest := []) h [rkW D aθ (aρ 0) pθ_spare aν pθ_text z8.1, rmW D aρ z5.2, tlW D aν a10 a11 a12 a13 z8.2.1 z8.2.2.1 z8.2.2.2.1 z8.2.2.2.2] [1] [0, 2] hd_X1_doChange wm_659 dX3_change_35 (CX1_doChange l D aρ z5.2 x1 x2 z14 e15) rfl rfl rfl (by decide +kernel) rfl rfl rfl ⟨rfl, rfl⟩ ⟨by decide, by decide⟩ (Nat.le_of_ble_eq_true rfl) ⟨by decide, by decide⟩ rfl (fun v w' hp => ?_)
        obtain ⟨rfl, rfl⟩ := hp
        refine J.blk2 (ws' := [rkW D aθ (aρ 0) pθ_spare aν pθ_text z8.1, rmW D aρ z14, tlW D aν a10 a11 a12 a13 z8.2.1 z8.2.2.1 z8.2.2.2.1 z8.2.2.2.2].flatten) 3 (pkB [rkW D aθ (aρ 0) pθ_spare aν pθ_text z8.1, rmW D aρ z5.2, tlW D aν a10 a11 a12 a13 z8.2.1 z8.2.2.1 z8.2.2.2.1 z8.2.2.2.2] [0, 2]) ([rmW D aρ z14]) [0, 2, 1] rfl rfl rfl rfl (by decide +kernel) ?_
        refine r_iload_n h 0 rfl rfl dX3_change_38 ?_
        cases hF
        exact r_iret h hr dX3_change_39 ⟨rfl, a10, a11, a12, a13, rfl⟩

abbrev rmTX3_change : Room := { frames := 7, cells := 1, slots := 6, locals := 141 }
set_option maxHeartbeats 4000000 in
set_option maxRecDepth 100000 in
theorem TX3_change (l : Launch) (hl0 : l.stackTraces = false) (D : va_G) (aθ : Nat) (pθ_spare : Nat) (pθ_text : Nat) (aρ : Nat → Nat) (aν : Nat) (aS0 : Nat → Nat) (aS1 : Nat → Nat) (aS2 : Nat → Nat) (aS3 : Nat → Nat) (θ : Int32) (ρ : RS) (S0 : RS) (S1 : RS) (S2 : RS) (S3 : RS) (x1 : Int32) (x2 : Int32) (k0 : Nat) (hF : FX3_change θ ρ S0 S1 S2 S3 x1 x2 = some (.inl k0)) : CtT l D yX3_change cX3_change 4 (some .int) rmTX3_change 1 6 [.ref aθ, .int x1, .int x2] ([rkW D aθ (aρ 0) pθ_spare aν pθ_text θ, rmW D aρ ρ, tlW D aν aS0 aS1 aS2 aS3 S0 S1 S2 S3].flatten) (exn k0) := by
  refine CtT.of (own := RX3) (lv := [(0, .ref aθ), (1, .int x1), (2, .int x2)]) (by decide +kernel) rfl (Nat.le_of_ble_eq_true rfl) rfl (fun X h hx ht => ?_)
  unfold FX3_change at hF
  refine r_aload_n h 0 rfl rfl dX3_change_0 ?_
  refine r_iload_n h 1 rfl rfl dX3_change_1 ?_
  rcases o_bX hF with ⟨k_z1, e2, hF⟩ | ⟨z1, e2, hF⟩
  · cases hF
    exact r_callTVB (N0 := 3) (q0 := 0) (rest := []) h hx ht [rkW D aθ (aρ 0) pθ_spare aν pθ_text θ, rmW D aρ ρ, tlW D aν aS0 aS1 aS2 aS3 S0 S1 S2 S3] [0, 1] [2] hd_X3_checkMachine wm_499 dX3_change_2 (TX3_checkMachine l hl0 D aθ pθ_spare aν pθ_text aρ θ ρ x1 _ e2) rfl rfl rfl (by decide +kernel) rfl rfl rfl ⟨rfl, rfl⟩ ⟨by decide, by decide⟩ (Nat.le_of_ble_eq_true rfl) ⟨by decide, by decide⟩ ⟨by decide, by decide⟩ rfl
  · refine r_callVB (N0 := 3) (q0 := 0) (rest := []) h [rkW D aθ (aρ 0) pθ_spare aν pθ_text θ, rmW D aρ ρ, tlW D aν aS0 aS1 aS2 aS3 S0 S1 S2 S3] [0, 1] [2] hd_X3_checkMachine wm_499 dX3_change_2 (CX3_checkMachine l D aθ pθ_spare aν pθ_text aρ θ ρ x1 e2) rfl rfl rfl (by decide +kernel) rfl rfl rfl ⟨rfl, rfl⟩ ⟨by decide, by decide⟩ (Nat.le_of_ble_eq_true rfl) ⟨by decide, by decide⟩ rfl (fun v w' hp => ?_)
    obtain ⟨rfl, rfl⟩ := hp
    refine J.blk2 (ws' := [rkW D aθ (aρ 0) pθ_spare aν pθ_text θ, rmW D aρ ρ, tlW D aν aS0 aS1 aS2 aS3 S0 S1 S2 S3].flatten) 3 (pkB [rkW D aθ (aρ 0) pθ_spare aν pθ_text θ, rmW D aρ ρ, tlW D aν aS0 aS1 aS2 aS3 S0 S1 S2 S3] [2]) ([rkW D aθ (aρ 0) pθ_spare aν pθ_text θ, rmW D aρ ρ]) [1, 2, 0] rfl rfl rfl rfl (by decide +kernel) ?_
    refine r_iload_n h 2 rfl rfl dX3_change_5 ?_
    refine r_iconst (v := 0) h dX3_change_6 (by decide) ?_
    refine r_iconst (v := 2) h dX3_change_7 (by decide) ?_
    rcases o_bX hF with ⟨k_z3, e4, hF⟩ | ⟨z3, e4, hF⟩
    · cases hF
      exact r_callTSp (rest := []) h hx ht hd_X3_checkRange wm_360 dX3_change_8 (TX3_checkRange l hl0 D x2 (0 : Int32) (2 : Int32) _ e4) rfl ⟨rfl, rfl⟩ ⟨by decide, by decide⟩ (Nat.le_of_ble_eq_true rfl) ⟨by decide, by decide⟩ ⟨by decide, by decide⟩ rfl
    · refine r_callSv (rest := []) h hd_X3_checkRange wm_360 dX3_change_8 (CX3_checkRange l D x2 (0 : Int32) (2 : Int32) e4) rfl ⟨rfl, rfl⟩ ⟨by decide, by decide⟩ (Nat.le_of_ble_eq_true rfl) ⟨by decide, by decide⟩ rfl ?_
      refine r_aload_n h 0 rfl rfl dX3_change_11 ?_
      refine r_get h fl_X3_12 0 rfl rfl dX3_change_12 ?_
      refine r_iload_n h 1 rfl rfl dX3_change_15 ?_
      refine r_iload_n h 2 rfl rfl dX3_change_16 ?_
      obtain ⟨z5, e6, hF⟩ := o_bind hF
      refine r_callVB (N0 := 3) (q0 := 0) (rest := []) h [rkW D aθ (aρ 0) pθ_spare aν pθ_text θ, rmW D aρ ρ, tlW D aν aS0 aS1 aS2 aS3 S0 S1 S2 S3] [1] [0, 2] hd_X1_whyNotChange wm_246 dX3_change_17 (CX1_whyNotChange l D aρ ρ x1 x2 z5.1 z5.2 e6) rfl rfl rfl (by decide +kernel) rfl rfl rfl ⟨rfl, rfl⟩ ⟨by decide, by decide⟩ (Nat.le_of_ble_eq_true rfl) ⟨by decide, by decide⟩ rfl (fun v w' hp => ?_)
      obtain ⟨rfl, rfl⟩ := hp
      refine J.blk2 (ws' := [rkW D aθ (aρ 0) pθ_spare aν pθ_text θ, rmW D aρ z5.2, tlW D aν aS0 aS1 aS2 aS3 S0 S1 S2 S3].flatten) 3 (pkB [rkW D aθ (aρ 0) pθ_spare aν pθ_text θ, rmW D aρ ρ, tlW D aν aS0 aS1 aS2 aS3 S0 S1 S2 S3] [0, 2]) ([rmW D aρ z5.2]) [0, 2, 1] rfl rfl rfl rfl (by decide +kernel) ?_
      refine r_istore_n (lv' := [(3, .int z5.1), (0, .ref aθ), (1, .int x1), (2, .int x2)]) h rfl dX3_change_20 (by decide) rfl ?_
      refine r_iload_n h 0 rfl rfl dX3_change_21 ?_
      refine r_if_ne h 38 dX3_change_22 (by decide) (fun c7 => ?_) (fun c7 => ?_)
      · replace hF := o_neg c7 hF
        refine r_iload_n h 0 rfl rfl dX3_change_38 ?_
        cases hF
      · replace hF := o_pos c7 hF
        refine r_aload_n h 1 rfl rfl dX3_change_25 ?_
        obtain ⟨z8, e9, hF⟩ := o_bind hF
        refine r_callVB (N0 := 3) (q0 := 0) (rest := []) h [rkW D aθ (aρ 0) pθ_spare aν pθ_text θ, rmW D aρ z5.2, tlW D aν aS0 aS1 aS2 aS3 S0 S1 S2 S3] [0, 1, 2] [] hd_X3_save wm_209 dX3_change_26 (CX3_save l D aθ pθ_spare pθ_text aρ aν aS0 aS1 aS2 aS3 θ z5.2 S0 S1 S2 S3 z8.1 z8.2.1 z8.2.2.1 z8.2.2.2.1 z8.2.2.2.2 e9) rfl rfl rfl (by decide +kernel) rfl rfl rfl ⟨rfl, rfl⟩ ⟨by decide, by decide⟩ (Nat.le_of_ble_eq_true rfl) ⟨by decide, by decide⟩ rfl (fun v w' hp => ?_)
        obtain ⟨rfl, a10, a11, a12, a13, rfl⟩ := hp
        refine J.blk2 (ws' := [rkW D aθ (aρ 0) pθ_spare aν pθ_text z8.1, rmW D aρ z5.2, tlW D aν a10 a11 a12 a13 z8.2.1 z8.2.2.1 z8.2.2.2.1 z8.2.2.2.2].flatten) 3 (pkB [rkW D aθ (aρ 0) pθ_spare aν pθ_text θ, rmW D aρ z5.2, tlW D aν aS0 aS1 aS2 aS3 S0 S1 S2 S3] []) ([rkW D aθ (aρ 0) pθ_spare aν pθ_text z8.1, rmW D aρ z5.2, tlW D aν a10 a11 a12 a13 z8.2.1 z8.2.2.1 z8.2.2.2.1 z8.2.2.2.2]) [0, 1, 2] rfl rfl rfl rfl (by decide +kernel) ?_
        refine r_aload_n h 1 rfl rfl dX3_change_29 ?_
        refine r_get h fl_X3_12 0 rfl rfl dX3_change_30 ?_
        refine r_iload_n h 2 rfl rfl dX3_change_33 ?_
        refine r_iload_n h 3 rfl rfl dX3_change_34 ?_
        obtain ⟨z14, e15, hF⟩ := o_bind hF
        refine r_callVB (N0 := 3) (q0 := 0) (rest := []) h [rkW D aθ (aρ 0) pθ_spare aν pθ_text z8.1, rmW D aρ z5.2, tlW D aν a10 a11 a12 a13 z8.2.1 z8.2.2.1 z8.2.2.2.1 z8.2.2.2.2] [1] [0, 2] hd_X1_doChange wm_659 dX3_change_35 (CX1_doChange l D aρ z5.2 x1 x2 z14 e15) rfl rfl rfl (by decide +kernel) rfl rfl rfl ⟨rfl, rfl⟩ ⟨by decide, by decide⟩ (Nat.le_of_ble_eq_true rfl) ⟨by decide, by decide⟩ rfl (fun v w' hp => ?_)
        obtain ⟨rfl, rfl⟩ := hp
        refine J.blk2 (ws' := [rkW D aθ (aρ 0) pθ_spare aν pθ_text z8.1, rmW D aρ z14, tlW D aν a10 a11 a12 a13 z8.2.1 z8.2.2.1 z8.2.2.2.1 z8.2.2.2.2].flatten) 3 (pkB [rkW D aθ (aρ 0) pθ_spare aν pθ_text z8.1, rmW D aρ z5.2, tlW D aν a10 a11 a12 a13 z8.2.1 z8.2.2.1 z8.2.2.2.1 z8.2.2.2.2] [0, 2]) ([rmW D aρ z14]) [0, 2, 1] rfl rfl rfl rfl (by decide +kernel) ?_
        refine r_iload_n h 0 rfl rfl dX3_change_38 ?_
        cases hF

def FX3_backOut (θ : Int32) (ρ : RS) (S0 : RS) (S1 : RS) (S2 : RS) (S3 : RS) : Option (Int32 × Int32 × RS × RS × RS × RS × RS) :=
  (FX1_whyNotBackOut ρ).bind fun z1 =>
  if z1.1 = 0 then
  ((FX3_save θ z1.2 S0 S1 S2 S3).bind fun z4 =>
  (FX1_doBackOut z1.2).bind fun z10 =>
  some (z1.1, z4.1, z10, z4.2.1, z4.2.2.1, z4.2.2.2.1, z4.2.2.2.2))
else
  (some (z1.1, θ, z1.2, S0, S1, S2, S3))
abbrev rmX3_backOut : Room := { frames := 6, cells := 0, slots := 0, locals := 143 }
set_option maxHeartbeats 4000000 in
set_option maxRecDepth 100000 in
theorem CX3_backOut (l : Launch) (D : va_G) (aθ : Nat) (pθ_spare : Nat) (pθ_text : Nat) (aρ : Nat → Nat) (aν : Nat) (aS0 : Nat → Nat) (aS1 : Nat → Nat) (aS2 : Nat → Nat) (aS3 : Nat → Nat) (θ : Int32) (ρ : RS) (S0 : RS) (S1 : RS) (S2 : RS) (S3 : RS) (r0 : Int32) (θ0 : Int32) (ρ0 : RS) (S00 : RS) (S10 : RS) (S20 : RS) (S30 : RS) (hF : FX3_backOut θ ρ S0 S1 S2 S3 = some (r0, θ0, ρ0, S00, S10, S20, S30)) : Ct l D yX3_backOut cX3_backOut 2 (some .int) rmX3_backOut 0 0 [.ref aθ] ([rkW D aθ (aρ 0) pθ_spare aν pθ_text θ, rmW D aρ ρ, tlW D aν aS0 aS1 aS2 aS3 S0 S1 S2 S3].flatten) (fun v w => v = some (.int r0) ∧ ∃ (bS0 : Nat → Nat) (bS1 : Nat → Nat) (bS2 : Nat → Nat) (bS3 : Nat → Nat), w = [rkW D aθ (aρ 0) pθ_spare aν pθ_text θ0, rmW D aρ ρ0, tlW D aν bS0 bS1 bS2 bS3 S00 S10 S20 S30].flatten) := by
  refine Ct.of (own := RX3) (lv := [(0, .ref aθ)]) (by decide +kernel) rfl (Nat.le_of_ble_eq_true rfl) rfl (fun X h hr => ?_)
  unfold FX3_backOut at hF
  refine r_aload_n h 0 rfl rfl dX3_backOut_0 ?_
  refine r_get h fl_X3_12 0 rfl rfl dX3_backOut_1 ?_
  obtain ⟨z1, e2, hF⟩ := o_bind hF
  refine r_callVB (N0 := 3) (q0 := 0) (rest := []) h [rkW D aθ (aρ 0) pθ_spare aν pθ_text θ, rmW D aρ ρ, tlW D aν aS0 aS1 aS2 aS3 S0 S1 S2 S3] [1] [0, 2] hd_X1_whyNotBackOut wm_140 dX3_backOut_4 (CX1_whyNotBackOut l D aρ ρ z1.1 z1.2 e2) rfl rfl rfl (by decide +kernel) rfl rfl rfl ⟨rfl, rfl⟩ ⟨by decide, by decide⟩ (Nat.le_of_ble_eq_true rfl) ⟨by decide, by decide⟩ rfl (fun v w' hp => ?_)
  obtain ⟨rfl, rfl⟩ := hp
  refine J.blk2 (ws' := [rkW D aθ (aρ 0) pθ_spare aν pθ_text θ, rmW D aρ z1.2, tlW D aν aS0 aS1 aS2 aS3 S0 S1 S2 S3].flatten) 3 (pkB [rkW D aθ (aρ 0) pθ_spare aν pθ_text θ, rmW D aρ ρ, tlW D aν aS0 aS1 aS2 aS3 S0 S1 S2 S3] [0, 2]) ([rmW D aρ z1.2]) [0, 2, 1] rfl rfl rfl rfl (by decide +kernel) ?_
  refine r_istore_n (lv' := [(1, .int z1.1), (0, .ref aθ)]) h rfl dX3_backOut_7 (by decide) rfl ?_
  refine r_iload_n h 0 rfl rfl dX3_backOut_8 ?_
  refine r_if_ne h 23 dX3_backOut_9 (by decide) (fun c3 => ?_) (fun c3 => ?_)
  · replace hF := o_neg c3 hF
    refine r_iload_n h 0 rfl rfl dX3_backOut_23 ?_
    cases hF
    exact r_iret h hr dX3_backOut_24 ⟨rfl, aS0, aS1, aS2, aS3, rfl⟩
  · replace hF := o_pos c3 hF
    refine r_aload_n h 1 rfl rfl dX3_backOut_12 ?_
    obtain ⟨z4, e5, hF⟩ := o_bind hF
    refine r_callVB (N0 := 3) (q0 := 0) (rest := []) h [rkW D aθ (aρ 0) pθ_spare aν pθ_text θ, rmW D aρ z1.2, tlW D aν aS0 aS1 aS2 aS3 S0 S1 S2 S3] [0, 1, 2] [] hd_X3_save wm_209 dX3_backOut_13 (CX3_save l D aθ pθ_spare pθ_text aρ aν aS0 aS1 aS2 aS3 θ z1.2 S0 S1 S2 S3 z4.1 z4.2.1 z4.2.2.1 z4.2.2.2.1 z4.2.2.2.2 e5) rfl rfl rfl (by decide +kernel) rfl rfl rfl ⟨rfl, rfl⟩ ⟨by decide, by decide⟩ (Nat.le_of_ble_eq_true rfl) ⟨by decide, by decide⟩ rfl (fun v w' hp => ?_)
    obtain ⟨rfl, a6, a7, a8, a9, rfl⟩ := hp
    refine J.blk2 (ws' := [rkW D aθ (aρ 0) pθ_spare aν pθ_text z4.1, rmW D aρ z1.2, tlW D aν a6 a7 a8 a9 z4.2.1 z4.2.2.1 z4.2.2.2.1 z4.2.2.2.2].flatten) 3 (pkB [rkW D aθ (aρ 0) pθ_spare aν pθ_text θ, rmW D aρ z1.2, tlW D aν aS0 aS1 aS2 aS3 S0 S1 S2 S3] []) ([rkW D aθ (aρ 0) pθ_spare aν pθ_text z4.1, rmW D aρ z1.2, tlW D aν a6 a7 a8 a9 z4.2.1 z4.2.2.1 z4.2.2.2.1 z4.2.2.2.2]) [0, 1, 2] rfl rfl rfl rfl (by decide +kernel) ?_
    refine r_aload_n h 1 rfl rfl dX3_backOut_16 ?_
    refine r_get h fl_X3_12 0 rfl rfl dX3_backOut_17 ?_
    obtain ⟨z10, e11, hF⟩ := o_bind hF
    refine r_callVB (N0 := 3) (q0 := 0) (rest := []) h [rkW D aθ (aρ 0) pθ_spare aν pθ_text z4.1, rmW D aρ z1.2, tlW D aν a6 a7 a8 a9 z4.2.1 z4.2.2.1 z4.2.2.2.1 z4.2.2.2.2] [1] [0, 2] hd_X1_doBackOut wm_225 dX3_backOut_20 (CX1_doBackOut l D aρ z1.2 z10 e11) rfl rfl rfl (by decide +kernel) rfl rfl rfl ⟨rfl, rfl⟩ ⟨by decide, by decide⟩ (Nat.le_of_ble_eq_true rfl) ⟨by decide, by decide⟩ rfl (fun v w' hp => ?_)
    obtain ⟨rfl, rfl⟩ := hp
    refine J.blk2 (ws' := [rkW D aθ (aρ 0) pθ_spare aν pθ_text z4.1, rmW D aρ z10, tlW D aν a6 a7 a8 a9 z4.2.1 z4.2.2.1 z4.2.2.2.1 z4.2.2.2.2].flatten) 3 (pkB [rkW D aθ (aρ 0) pθ_spare aν pθ_text z4.1, rmW D aρ z1.2, tlW D aν a6 a7 a8 a9 z4.2.1 z4.2.2.1 z4.2.2.2.1 z4.2.2.2.2] [0, 2]) ([rmW D aρ z10]) [0, 2, 1] rfl rfl rfl rfl (by decide +kernel) ?_
    refine r_iload_n h 0 rfl rfl dX3_backOut_23 ?_
    cases hF
    exact r_iret h hr dX3_backOut_24 ⟨rfl, a6, a7, a8, a9, rfl⟩


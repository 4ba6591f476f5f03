def FX3_plan (θ : Int32) (ρ : RS) (π : RS) (τ : TXS) (S0 : RS) (S1 : RS) (S2 : RS) (S3 : RS) : Option (Int32 × Int32 × RS × RS × TXS × RS × RS × RS × RS) :=
  (FX0_read τ ρ.2.2.2.2.2.2.1).bind fun z1 =>
  if z1.1 = (-1 : Int32) then
  ((FX1_copyFrom π ρ).bind fun z4 =>
  (FX0_runIn z1.2 z4).bind fun z6 =>
  if z6.1 < 0 then
  (some (z6.1, θ, ρ, z6.2, z1.2, S0, S1, S2, S3))
else
  ((FX3_save θ ρ S0 S1 S2 S3).bind fun z9 =>
  some (z6.1, z9.1, z6.2, ρ, z1.2, z9.2.1, z9.2.2.1, z9.2.2.2.1, z9.2.2.2.2)))
else
  (some ((-10 : Int32) - z1.1, θ, ρ, π, z1.2, S0, S1, S2, S3))
abbrev rmX3_plan : Room := { frames := 7, cells := 0, slots := 0, locals := 170 }
set_option maxHeartbeats 4000000 in
set_option maxRecDepth 100000 in
theorem CX3_plan (l : Launch) (D : va_G) (aθ : Nat) (aρ : Nat → Nat) (aπ : Nat → Nat) (aτ : Nat → Nat) (aν : Nat) (aS0 : Nat → Nat) (aS1 : Nat → Nat) (aS2 : Nat → Nat) (aS3 : Nat → Nat) (θ : Int32) (ρ : RS) (π : RS) (τ : TXS) (S0 : RS) (S1 : RS) (S2 : RS) (S3 : RS) (r0 : Int32) (θ0 : Int32) (ρ0 : RS) (π0 : RS) (τ0 : TXS) (S00 : RS) (S10 : RS) (S20 : RS) (S30 : RS) (hF : FX3_plan θ ρ π τ S0 S1 S2 S3 = some (r0, θ0, ρ0, π0, τ0, S00, S10, S20, S30)) : Ct l D yX3_plan cX3_plan 4 (some .int) rmX3_plan 0 0 [.ref aθ] ([rkW D aθ (aρ 0) (aπ 0) aν (aτ 0) θ, rmW D aρ ρ, rmW D aπ π, txW D aτ τ, tlW D aν aS0 aS1 aS2 aS3 S0 S1 S2 S3].flatten) (fun v w => v = some (.int r0) ∧ ∃ (bρ : Nat → Nat) (bπ : Nat → Nat) (bS0 : Nat → Nat) (bS1 : Nat → Nat) (bS2 : Nat → Nat) (bS3 : Nat → Nat), w = [rkW D aθ (bρ 0) (bπ 0) aν (aτ 0) θ0, rmW D bρ ρ0, rmW D bπ π0, txW D aτ τ0, tlW D aν bS0 bS1 bS2 bS3 S00 S10 S20 S30].flatten) := by
  refine Ct.of (own := RX3) (lv := [(0, .ref aθ)]) (by decide +kernel) rfl (Nat.le_of_ble_eq_true rfl) rfl (fun X h hr => ?_)
  unfold FX3_plan at hF
  refine r_aload_n h 0 rfl rfl dX3_plan_0 ?_
  refine r_get h fl_X3_30 0 rfl rfl dX3_plan_1 ?_
  refine r_aload_n h 0 rfl rfl dX3_plan_4 ?_
  refine r_get h fl_X3_12 0 rfl rfl dX3_plan_5 ?_
  refine r_get h fl_X3_58 1 rfl rfl dX3_plan_8 ?_
  refine r_get h fl_X3_98 2 rfl rfl dX3_plan_11 ?_
  obtain ⟨z1, e2, hF⟩ := o_bind hF
  refine r_callVB (N0 := 5) (q0 := 0) (rest := []) h [rkW D aθ (aρ 0) (aπ 0) aν (aτ 0) θ, rmW D aρ ρ, rmW D aπ π, txW D aτ τ, tlW D aν aS0 aS1 aS2 aS3 S0 S1 S2 S3] [3] [0, 1, 2, 4] hd_X0_read wm_271 dX3_plan_14 (CX0_read l D aτ τ ρ.2.2.2.2.2.2.1 z1.1 z1.2 e2) rfl rfl rfl (by decide +kernel) rfl rfl rfl ⟨rfl, rfl⟩ ⟨by decide, by decide⟩ (Nat.le_of_ble_eq_true rfl) ⟨by decide, by decide⟩ rfl (fun v w' hp => ?_)
  obtain ⟨rfl, rfl⟩ := hp
  refine J.blk2 (ws' := [rkW D aθ (aρ 0) (aπ 0) aν (aτ 0) θ, rmW D aρ ρ, rmW D aπ π, txW D aτ z1.2, tlW D aν aS0 aS1 aS2 aS3 S0 S1 S2 S3].flatten) 5 (pkB [rkW D aθ (aρ 0) (aπ 0) aν (aτ 0) θ, rmW D aρ ρ, rmW D aπ π, txW D aτ τ, tlW D aν aS0 aS1 aS2 aS3 S0 S1 S2 S3] [0, 1, 2, 4]) ([txW D aτ z1.2]) [0, 1, 2, 4, 3] rfl rfl rfl rfl (by decide +kernel) ?_
  refine r_istore_n (lv' := [(1, .int z1.1), (0, .ref aθ)]) h rfl dX3_plan_17 (by decide) rfl ?_
  refine r_iload_n h 0 rfl rfl dX3_plan_18 ?_
  refine r_iconst (v := -1) h dX3_plan_19 (by decide) ?_
  refine r_icmp_eq h 28 dX3_plan_20 (by decide) (fun c3 => ?_) (fun c3 => ?_)
  · replace hF := o_pos c3 hF
    refine r_aload_n h 1 rfl rfl dX3_plan_28 ?_
    refine r_get h fl_X3_16 0 rfl rfl dX3_plan_29 ?_
    refine r_aload_n h 1 rfl rfl dX3_plan_32 ?_
    refine r_get h fl_X3_12 0 rfl rfl dX3_plan_33 ?_
    obtain ⟨z4, e5, hF⟩ := o_bind hF
    refine r_callVB (N0 := 5) (q0 := 0) (rest := []) h [rkW D aθ (aρ 0) (aπ 0) aν (aτ 0) θ, rmW D aρ ρ, rmW D aπ π, txW D aτ z1.2, tlW D aν aS0 aS1 aS2 aS3 S0 S1 S2 S3] [2, 1] [0, 3, 4] hd_X1_copyFrom wm_213 dX3_plan_36 (CX1_copyFrom l D aπ aρ π ρ z4 e5) rfl rfl rfl (by decide +kernel) rfl rfl rfl ⟨rfl, rfl⟩ ⟨by decide, by decide⟩ (Nat.le_of_ble_eq_true rfl) ⟨by decide, by decide⟩ rfl (fun v w' hp => ?_)
    obtain ⟨rfl, rfl⟩ := hp
    refine J.blk2 (ws' := [rkW D aθ (aρ 0) (aπ 0) aν (aτ 0) θ, rmW D aρ ρ, rmW D aπ z4, txW D aτ z1.2, tlW D aν aS0 aS1 aS2 aS3 S0 S1 S2 S3].flatten) 5 (pkB [rkW D aθ (aρ 0) (aπ 0) aν (aτ 0) θ, rmW D aρ ρ, rmW D aπ π, txW D aτ z1.2, tlW D aν aS0 aS1 aS2 aS3 S0 S1 S2 S3] [0, 3, 4]) ([rmW D aπ z4, rmW D aρ ρ]) [0, 4, 3, 1, 2] rfl rfl rfl rfl (by decide +kernel) ?_
    refine r_aload_n h 1 rfl rfl dX3_plan_39 ?_
    refine r_get h fl_X3_30 0 rfl rfl dX3_plan_40 ?_
    refine r_aload_n h 1 rfl rfl dX3_plan_43 ?_
    refine r_get h fl_X3_16 0 rfl rfl dX3_plan_44 ?_
    obtain ⟨z6, e7, hF⟩ := o_bind hF
    refine r_callVB (N0 := 5) (q0 := 0) (rest := []) h [rkW D aθ (aρ 0) (aπ 0) aν (aτ 0) θ, rmW D aρ ρ, rmW D aπ z4, txW D aτ z1.2, tlW D aν aS0 aS1 aS2 aS3 S0 S1 S2 S3] [3, 2] [0, 1, 4] hd_X0_runIn wm_315 dX3_plan_47 (CX0_runIn l D aτ aπ z1.2 z4 z6.1 z6.2 e7) rfl rfl rfl (by decide +kernel) rfl rfl rfl ⟨rfl, rfl⟩ ⟨by decide, by decide⟩ (Nat.le_of_ble_eq_true rfl) ⟨by decide, by decide⟩ rfl (fun v w' hp => ?_)
    obtain ⟨rfl, rfl⟩ := hp
    refine J.blk2 (ws' := [rkW D aθ (aρ 0) (aπ 0) aν (aτ 0) θ, rmW D aρ ρ, rmW D aπ z6.2, txW D aτ z1.2, tlW D aν aS0 aS1 aS2 aS3 S0 S1 S2 S3].flatten) 5 (pkB [rkW D aθ (aρ 0) (aπ 0) aν (aτ 0) θ, rmW D aρ ρ, rmW D aπ z4, txW D aτ z1.2, tlW D aν aS0 aS1 aS2 aS3 S0 S1 S2 S3] [0, 1, 4]) ([txW D aτ z1.2, rmW D aπ z6.2]) [0, 1, 4, 3, 2] rfl rfl rfl rfl (by decide +kernel) ?_
    refine r_istore_n (lv' := [(2, .int z6.1), (1, .int z1.1), (0, .ref aθ)]) h rfl dX3_plan_50 (by decide) rfl ?_
    refine r_iload_n h 0 rfl rfl dX3_plan_51 ?_
    refine r_if_lt h 77 dX3_plan_52 (by decide) (fun c8 => ?_) (fun c8 => ?_)
    · replace hF := o_pos c8 hF
      refine r_iload_n h 0 rfl rfl dX3_plan_77 ?_
      simp only [Option.some.injEq, Prod.mk.injEq] at hF
      obtain ⟨rfl, rfl, rfl, rfl, rfl, rfl, rfl, rfl, rfl⟩ := hF
      exact r_iret h hr dX3_plan_78 ⟨rfl, aρ, aπ, aS0, aS1, aS2, aS3, rfl⟩
    · replace hF := o_neg c8 hF
      refine r_aload_n h 2 rfl rfl dX3_plan_55 ?_
      obtain ⟨z9, e10, hF⟩ := o_bind hF
      refine r_callVB (N0 := 5) (q0 := 0) (rest := []) h [rkW D aθ (aρ 0) (aπ 0) aν (aτ 0) θ, rmW D aρ ρ, rmW D aπ z6.2, txW D aτ z1.2, tlW D aν aS0 aS1 aS2 aS3 S0 S1 S2 S3] [0, 1, 4] [2, 3] hd_X3_save wm_209 dX3_plan_56 (CX3_save l D aθ (aπ 0) (aτ 0) aρ aν aS0 aS1 aS2 aS3 θ ρ S0 S1 S2 S3 z9.1 z9.2.1 z9.2.2.1 z9.2.2.2.1 z9.2.2.2.2 e10) rfl rfl rfl (by decide +kernel) rfl rfl rfl ⟨rfl, rfl⟩ ⟨by decide, by decide⟩ (Nat.le_of_ble_eq_true rfl) ⟨by decide, by decide⟩ rfl (fun v w' hp => ?_)
      obtain ⟨rfl, a11, a12, a13, a14, rfl⟩ := hp
      refine J.blk2 (ws' := [rkW D aθ (aρ 0) (aπ 0) aν (aτ 0) z9.1, rmW D aρ ρ, rmW D aπ z6.2, txW D aτ z1.2, tlW D aν a11 a12 a13 a14 z9.2.1 z9.2.2.1 z9.2.2.2.1 z9.2.2.2.2].flatten) 5 (pkB [rkW D aθ (aρ 0) (aπ 0) aν (aτ 0) θ, rmW D aρ ρ, rmW D aπ z6.2, txW D aτ z1.2, tlW D aν aS0 aS1 aS2 aS3 S0 S1 S2 S3] [2, 3]) ([rkW D aθ (aρ 0) (aπ 0) aν (aτ 0) z9.1, rmW D aρ ρ, tlW D aν a11 a12 a13 a14 z9.2.1 z9.2.2.1 z9.2.2.2.1 z9.2.2.2.2]) [2, 3, 0, 1, 4] rfl rfl rfl rfl (by decide +kernel) ?_
      refine r_aload_n h 2 rfl rfl dX3_plan_59 ?_
      refine r_get h fl_X3_12 0 rfl rfl dX3_plan_60 ?_
      refine r_astore_n (lv' := [(3, .ref (aρ 0)), (2, .int z6.1), (1, .int z1.1), (0, .ref aθ)]) h rfl dX3_plan_63 (by decide) rfl ?_
      refine r_aload_n h 3 rfl rfl dX3_plan_64 ?_
      refine r_aload_n h 3 rfl rfl dX3_plan_65 ?_
      refine r_get h fl_X3_16 0 rfl rfl dX3_plan_66 ?_
      refine r_put (ws' := [rkW D aθ (aπ 0) (aπ 0) aν (aτ 0) z9.1, rmW D aρ ρ, rmW D aπ z6.2, txW D aτ z1.2, tlW D aν a11 a12 a13 a14 z9.2.1 z9.2.2.1 z9.2.2.2.1 z9.2.2.2.2].flatten) h fp_X3_12 0 rfl (Nat.le_of_ble_eq_true rfl) rfl rfl rfl dX3_plan_69 ?_
      refine r_aload_n h 3 rfl rfl dX3_plan_72 ?_
      refine r_aload_n h 0 rfl rfl dX3_plan_73 ?_
      refine r_put (ws' := [rkW D aθ (aπ 0) (aρ 0) aν (aτ 0) z9.1, rmW D aρ ρ, rmW D aπ z6.2, txW D aτ z1.2, tlW D aν a11 a12 a13 a14 z9.2.1 z9.2.2.1 z9.2.2.2.1 z9.2.2.2.2].flatten) h fp_X3_16 0 rfl (Nat.le_of_ble_eq_true rfl) rfl rfl rfl dX3_plan_74 ?_
      refine r_iload_n h 1 rfl rfl dX3_plan_77 ?_
      refine J.blk (ws' := [rkW D aθ (aπ 0) (aρ 0) aν (aτ 0) z9.1, rmW D aπ z6.2, rmW D aρ ρ, txW D aτ z1.2, tlW D aν a11 a12 a13 a14 z9.2.1 z9.2.2.1 z9.2.2.2.1 z9.2.2.2.2].flatten) 5 [rkW D aθ (aπ 0) (aρ 0) aν (aτ 0) z9.1, rmW D aρ ρ, rmW D aπ z6.2, txW D aτ z1.2, tlW D aν a11 a12 a13 a14 z9.2.1 z9.2.2.1 z9.2.2.2.1 z9.2.2.2.2] [0, 2, 1, 3, 4] rfl rfl rfl (by decide) ?_
      simp only [Option.some.injEq, Prod.mk.injEq] at hF
      obtain ⟨rfl, rfl, rfl, rfl, rfl, rfl, rfl, rfl, rfl⟩ := hF
      exact r_iret h hr dX3_plan_78 ⟨rfl, aπ, aρ, a11, a12, a13, a14, rfl⟩
  · replace hF := o_neg c3 hF
    refine r_bipush (v := -10) h dX3_plan_23 (by decide) ?_
    refine r_iload_n h 0 rfl rfl dX3_plan_25 ?_
    refine r_isub h dX3_plan_26 ?_
    simp only [Option.some.injEq, Prod.mk.injEq] at hF
    obtain ⟨rfl, rfl, rfl, rfl, rfl, rfl, rfl, rfl, rfl⟩ := hF
    exact r_iret h hr dX3_plan_27 ⟨rfl, aρ, aπ, aS0, aS1, aS2, aS3, rfl⟩


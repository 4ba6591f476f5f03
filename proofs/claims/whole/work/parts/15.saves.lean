def FX3_save (θ : Int32) (ρ : RS) (S0 : RS) (S1 : RS) (S2 : RS) (S3 : RS) : Option (Int32 × RS × RS × RS × RS) :=
  if θ < (4 : Int32) then
  (if θ = (0 : Int32) then
  ((FX1_copyFrom S0 ρ).bind fun z3 =>
  some (θ + (1 : Int32), z3, S1, S2, S3))
else if θ = (1 : Int32) then
  ((FX1_copyFrom S1 ρ).bind fun z6 =>
  some (θ + (1 : Int32), S0, z6, S2, S3))
else if θ = (2 : Int32) then
  ((FX1_copyFrom S2 ρ).bind fun z9 =>
  some (θ + (1 : Int32), S0, S1, z9, S3))
else if θ = (3 : Int32) then
  ((FX1_copyFrom S3 ρ).bind fun z12 =>
  some (θ + (1 : Int32), S0, S1, S2, z12))
else none)
else
  ((FX1_copyFrom S0 ρ).bind fun z14 =>
  some ((4 : Int32), S1, S2, S3, z14))
abbrev rmX3_save : Room := { frames := 3, cells := 0, slots := 0, locals := 102 }
set_option maxHeartbeats 4000000 in
set_option maxRecDepth 100000 in
theorem CX3_save (l : Launch) (D : va_G) (aθ : Nat) (pθ_spare : Nat) (pθ_text : Nat) (aρ : Nat → Nat) (aν : Nat) (aS0 : Nat → Nat) (aS1 : Nat → Nat) (aS2 : Nat → Nat) (aS3 : Nat → Nat) (θ : Int32) (ρ : RS) (S0 : RS) (S1 : RS) (S2 : RS) (S3 : RS) (θ0 : Int32) (S00 : RS) (S10 : RS) (S20 : RS) (S30 : RS) (hF : FX3_save θ ρ S0 S1 S2 S3 = some (θ0, S00, S10, S20, S30)) : Ct l D yX3_save cX3_save 3 none rmX3_save 0 0 [.ref aθ] ([rkW D aθ (aρ 0) pθ_spare aν pθ_text θ, rmW D aρ ρ, tlW D aν aS0 aS1 aS2 aS3 S0 S1 S2 S3].flatten) (fun v w => v = none ∧ ∃ (bS0 : Nat → Nat) (bS1 : Nat → Nat) (bS2 : Nat → Nat) (bS3 : Nat → Nat), w = [rkW D aθ (aρ 0) pθ_spare aν pθ_text θ0, rmW D aρ ρ, tlW D aν bS0 bS1 bS2 bS3 S00 S10 S20 S30].flatten) := by
  refine Ct.of (own := RX3) (lv := [(0, .ref aθ)]) (by decide +kernel) rfl (Nat.le_of_ble_eq_true rfl) rfl (fun X h hr => ?_)
  unfold FX3_save at hF
  refine J.wse (ws' := [rkW D aθ (aρ 0) pθ_spare aν pθ_text θ, rmW D aρ ρ, saW D aν (aS0 0) (aS1 0) (aS2 0) (aS3 0), rmW D aS0 S0, rmW D aS1 S1, rmW D aS2 S2, rmW D aS3 S3].flatten) (tl_open _ _ _ _ _ _ _ _ _ _ _ _) ?_
  refine r_aload_n h 0 rfl rfl dX3_save_0 ?_
  refine r_get h fl_X3_23 0 rfl rfl dX3_save_1 ?_
  refine r_iconst (v := 4) h dX3_save_4 (by decide) ?_
  refine r_icmp_lt h 54 dX3_save_5 (by decide) (fun c1 => ?_) (fun c1 => ?_)
  · replace hF := o_pos c1 hF
    refine r_aload_n h 0 rfl rfl dX3_save_54 ?_
    refine r_get h fl_X3_19 0 rfl rfl dX3_save_55 ?_
    refine r_aload_n h 0 rfl rfl dX3_save_58 ?_
    refine r_get h fl_X3_23 0 rfl rfl dX3_save_59 ?_
    by_cases c2 : θ = (0 : Int32)
    · replace hF := o_pos c2 hF
      refine r_aldq h 12 rfl (by rw [c2]; exact vp4_0) (by rw [c2]; rfl) dX3_save_62 ?_
      refine r_aload_n h 0 rfl rfl dX3_save_63 ?_
      refine r_get h fl_X3_12 0 rfl rfl dX3_save_64 ?_
      obtain ⟨z3, e4, hF⟩ := o_bind hF
      refine r_callVB (N0 := 7) (q0 := 0) (rest := []) h [rkW D aθ (aρ 0) pθ_spare aν pθ_text θ, rmW D aρ ρ, saW D aν (aS0 0) (aS1 0) (aS2 0) (aS3 0), rmW D aS0 S0, rmW D aS1 S1, rmW D aS2 S2, rmW D aS3 S3] [3, 1] [0, 2, 4, 5, 6] hd_X1_copyFrom wm_213 dX3_save_67 (CX1_copyFrom l D aS0 aρ S0 ρ z3 e4) rfl rfl rfl (by decide +kernel) rfl rfl rfl ⟨rfl, rfl⟩ ⟨by decide, by decide⟩ (Nat.le_of_ble_eq_true rfl) ⟨by decide, by decide⟩ rfl (fun v w' hp => ?_)
      obtain ⟨rfl, rfl⟩ := hp
      refine J.blk2 (ws' := [rkW D aθ (aρ 0) pθ_spare aν pθ_text θ, rmW D aρ ρ, saW D aν (aS0 0) (aS1 0) (aS2 0) (aS3 0), rmW D aS0 z3, rmW D aS1 S1, rmW D aS2 S2, rmW D aS3 S3].flatten) 7 (pkB [rkW D aθ (aρ 0) pθ_spare aν pθ_text θ, rmW D aρ ρ, saW D aν (aS0 0) (aS1 0) (aS2 0) (aS3 0), rmW D aS0 S0, rmW D aS1 S1, rmW D aS2 S2, rmW D aS3 S3] [0, 2, 4, 5, 6]) ([rmW D aS0 z3, rmW D aρ ρ]) [0, 6, 1, 5, 2, 3, 4] rfl rfl rfl rfl (by decide +kernel) ?_
      refine r_aload_n h 0 rfl rfl dX3_save_70 ?_
      refine r_dup h rfl dX3_save_71 ?_
      refine r_get h fl_X3_23 0 rfl rfl dX3_save_72 ?_
      refine r_iconst (v := 1) h dX3_save_75 (by decide) ?_
      refine r_iadd h dX3_save_76 ?_
      refine r_put (ws' := [rkW D aθ (aρ 0) pθ_spare aν pθ_text (θ + (1 : Int32)), rmW D aρ ρ, saW D aν (aS0 0) (aS1 0) (aS2 0) (aS3 0), rmW D aS0 z3, rmW D aS1 S1, rmW D aS2 S2, rmW D aS3 S3].flatten) h fp_X3_23 0 rfl (Nat.le_of_ble_eq_true rfl) rfl rfl rfl dX3_save_77 ?_
      refine J.wse (ws' := [rkW D aθ (aρ 0) pθ_spare aν pθ_text (θ + (1 : Int32)), rmW D aρ ρ, tlW D aν aS0 aS1 aS2 aS3 z3 S1 S2 S3].flatten) (tl_open _ _ _ _ _ _ _ _ _ _ _ _).symm ?_
      cases hF
      exact r_vret h hr dX3_save_80 ⟨rfl, aS0, aS1, aS2, aS3, rfl⟩
    · replace hF := o_neg c2 hF
      by_cases c5 : θ = (1 : Int32)
      · replace hF := o_pos c5 hF
        refine r_aldq h 12 rfl (by rw [c5]; exact vp4_1) (by rw [c5]; rfl) dX3_save_62 ?_
        refine r_aload_n h 0 rfl rfl dX3_save_63 ?_
        refine r_get h fl_X3_12 0 rfl rfl dX3_save_64 ?_
        obtain ⟨z6, e7, hF⟩ := o_bind hF
        refine r_callVB (N0 := 7) (q0 := 0) (rest := []) h [rkW D aθ (aρ 0) pθ_spare aν pθ_text θ, rmW D aρ ρ, saW D aν (aS0 0) (aS1 0) (aS2 0) (aS3 0), rmW D aS0 S0, rmW D aS1 S1, rmW D aS2 S2, rmW D aS3 S3] [4, 1] [0, 2, 3, 5, 6] hd_X1_copyFrom wm_213 dX3_save_67 (CX1_copyFrom l D aS1 aρ S1 ρ z6 e7) rfl rfl rfl (by decide +kernel) rfl rfl rfl ⟨rfl, rfl⟩ ⟨by decide, by decide⟩ (Nat.le_of_ble_eq_true rfl) ⟨by decide, by decide⟩ rfl (fun v w' hp => ?_)
        obtain ⟨rfl, rfl⟩ := hp
        refine J.blk2 (ws' := [rkW D aθ (aρ 0) pθ_spare aν pθ_text θ, rmW D aρ ρ, saW D aν (aS0 0) (aS1 0) (aS2 0) (aS3 0), rmW D aS0 S0, rmW D aS1 z6, rmW D aS2 S2, rmW D aS3 S3].flatten) 7 (pkB [rkW D aθ (aρ 0) pθ_spare aν pθ_text θ, rmW D aρ ρ, saW D aν (aS0 0) (aS1 0) (aS2 0) (aS3 0), rmW D aS0 S0, rmW D aS1 S1, rmW D aS2 S2, rmW D aS3 S3] [0, 2, 3, 5, 6]) ([rmW D aS1 z6, rmW D aρ ρ]) [0, 6, 1, 2, 5, 3, 4] rfl rfl rfl rfl (by decide +kernel) ?_
        refine r_aload_n h 0 rfl rfl dX3_save_70 ?_
        refine r_dup h rfl dX3_save_71 ?_
        refine r_get h fl_X3_23 0 rfl rfl dX3_save_72 ?_
        refine r_iconst (v := 1) h dX3_save_75 (by decide) ?_
        refine r_iadd h dX3_save_76 ?_
        refine r_put (ws' := [rkW D aθ (aρ 0) pθ_spare aν pθ_text (θ + (1 : Int32)), rmW D aρ ρ, saW D aν (aS0 0) (aS1 0) (aS2 0) (aS3 0), rmW D aS0 S0, rmW D aS1 z6, rmW D aS2 S2, rmW D aS3 S3].flatten) h fp_X3_23 0 rfl (Nat.le_of_ble_eq_true rfl) rfl rfl rfl dX3_save_77 ?_
        refine J.wse (ws' := [rkW D aθ (aρ 0) pθ_spare aν pθ_text (θ + (1 : Int32)), rmW D aρ ρ, tlW D aν aS0 aS1 aS2 aS3 S0 z6 S2 S3].flatten) (tl_open _ _ _ _ _ _ _ _ _ _ _ _).symm ?_
        cases hF
        exact r_vret h hr dX3_save_80 ⟨rfl, aS0, aS1, aS2, aS3, rfl⟩
      · replace hF := o_neg c5 hF
        by_cases c8 : θ = (2 : Int32)
        · replace hF := o_pos c8 hF
          refine r_aldq h 12 rfl (by rw [c8]; exact vp4_2) (by rw [c8]; rfl) dX3_save_62 ?_
          refine r_aload_n h 0 rfl rfl dX3_save_63 ?_
          refine r_get h fl_X3_12 0 rfl rfl dX3_save_64 ?_
          obtain ⟨z9, e10, hF⟩ := o_bind hF
          refine r_callVB (N0 := 7) (q0 := 0) (rest := []) h [rkW D aθ (aρ 0) pθ_spare aν pθ_text θ, rmW D aρ ρ, saW D aν (aS0 0) (aS1 0) (aS2 0) (aS3 0), rmW D aS0 S0, rmW D aS1 S1, rmW D aS2 S2, rmW D aS3 S3] [5, 1] [0, 2, 3, 4, 6] hd_X1_copyFrom wm_213 dX3_save_67 (CX1_copyFrom l D aS2 aρ S2 ρ z9 e10) rfl rfl rfl (by decide +kernel) rfl rfl rfl ⟨rfl, rfl⟩ ⟨by decide, by decide⟩ (Nat.le_of_ble_eq_true rfl) ⟨by decide, by decide⟩ rfl (fun v w' hp => ?_)
          obtain ⟨rfl, rfl⟩ := hp
          refine J.blk2 (ws' := [rkW D aθ (aρ 0) pθ_spare aν pθ_text θ, rmW D aρ ρ, saW D aν (aS0 0) (aS1 0) (aS2 0) (aS3 0), rmW D aS0 S0, rmW D aS1 S1, rmW D aS2 z9, rmW D aS3 S3].flatten) 7 (pkB [rkW D aθ (aρ 0) pθ_spare aν pθ_text θ, rmW D aρ ρ, saW D aν (aS0 0) (aS1 0) (aS2 0) (aS3 0), rmW D aS0 S0, rmW D aS1 S1, rmW D aS2 S2, rmW D aS3 S3] [0, 2, 3, 4, 6]) ([rmW D aS2 z9, rmW D aρ ρ]) [0, 6, 1, 2, 3, 5, 4] rfl rfl rfl rfl (by decide +kernel) ?_
          refine r_aload_n h 0 rfl rfl dX3_save_70 ?_
          refine r_dup h rfl dX3_save_71 ?_
          refine r_get h fl_X3_23 0 rfl rfl dX3_save_72 ?_
          refine r_iconst (v := 1) h dX3_save_75 (by decide) ?_
          refine r_iadd h dX3_save_76 ?_
          refine r_put (ws' := [rkW D aθ (aρ 0) pθ_spare aν pθ_text (θ + (1 : Int32)), rmW D aρ ρ, saW D aν (aS0 0) (aS1 0) (aS2 0) (aS3 0), rmW D aS0 S0, rmW D aS1 S1, rmW D aS2 z9, rmW D aS3 S3].flatten) h fp_X3_23 0 rfl (Nat.le_of_ble_eq_true rfl) rfl rfl rfl dX3_save_77 ?_
          refine J.wse (ws' := [rkW D aθ (aρ 0) pθ_spare aν pθ_text (θ + (1 : Int32)), rmW D aρ ρ, tlW D aν aS0 aS1 aS2 aS3 S0 S1 z9 S3].flatten) (tl_open _ _ _ _ _ _ _ _ _ _ _ _).symm ?_
          cases hF
          exact r_vret h hr dX3_save_80 ⟨rfl, aS0, aS1, aS2, aS3, rfl⟩
        · replace hF := o_neg c8 hF
          by_cases c11 : θ = (3 : Int32)
          · replace hF := o_pos c11 hF
            refine r_aldq h 12 rfl (by rw [c11]; exact vp4_3) (by rw [c11]; rfl) dX3_save_62 ?_
            refine r_aload_n h 0 rfl rfl dX3_save_63 ?_
            refine r_get h fl_X3_12 0 rfl rfl dX3_save_64 ?_
            obtain ⟨z12, e13, hF⟩ := o_bind hF
            refine r_callVB (N0 := 7) (q0 := 0) (rest := []) h [rkW D aθ (aρ 0) pθ_spare aν pθ_text θ, rmW D aρ ρ, saW D aν (aS0 0) (aS1 0) (aS2 0) (aS3 0), rmW D aS0 S0, rmW D aS1 S1, rmW D aS2 S2, rmW D aS3 S3] [6, 1] [0, 2, 3, 4, 5] hd_X1_copyFrom wm_213 dX3_save_67 (CX1_copyFrom l D aS3 aρ S3 ρ z12 e13) rfl rfl rfl (by decide +kernel) rfl rfl rfl ⟨rfl, rfl⟩ ⟨by decide, by decide⟩ (Nat.le_of_ble_eq_true rfl) ⟨by decide, by decide⟩ rfl (fun v w' hp => ?_)
            obtain ⟨rfl, rfl⟩ := hp
            refine J.blk2 (ws' := [rkW D aθ (aρ 0) pθ_spare aν pθ_text θ, rmW D aρ ρ, saW D aν (aS0 0) (aS1 0) (aS2 0) (aS3 0), rmW D aS0 S0, rmW D aS1 S1, rmW D aS2 S2, rmW D aS3 z12].flatten) 7 (pkB [rkW D aθ (aρ 0) pθ_spare aν pθ_text θ, rmW D aρ ρ, saW D aν (aS0 0) (aS1 0) (aS2 0) (aS3 0), rmW D aS0 S0, rmW D aS1 S1, rmW D aS2 S2, rmW D aS3 S3] [0, 2, 3, 4, 5]) ([rmW D aS3 z12, rmW D aρ ρ]) [0, 6, 1, 2, 3, 4, 5] rfl rfl rfl rfl (by decide +kernel) ?_
            refine r_aload_n h 0 rfl rfl dX3_save_70 ?_
            refine r_dup h rfl dX3_save_71 ?_
            refine r_get h fl_X3_23 0 rfl rfl dX3_save_72 ?_
            refine r_iconst (v := 1) h dX3_save_75 (by decide) ?_
            refine r_iadd h dX3_save_76 ?_
            refine r_put (ws' := [rkW D aθ (aρ 0) pθ_spare aν pθ_text (θ + (1 : Int32)), rmW D aρ ρ, saW D aν (aS0 0) (aS1 0) (aS2 0) (aS3 0), rmW D aS0 S0, rmW D aS1 S1, rmW D aS2 S2, rmW D aS3 z12].flatten) h fp_X3_23 0 rfl (Nat.le_of_ble_eq_true rfl) rfl rfl rfl dX3_save_77 ?_
            refine J.wse (ws' := [rkW D aθ (aρ 0) pθ_spare aν pθ_text (θ + (1 : Int32)), rmW D aρ ρ, tlW D aν aS0 aS1 aS2 aS3 S0 S1 S2 z12].flatten) (tl_open _ _ _ _ _ _ _ _ _ _ _ _).symm ?_
            cases hF
            exact r_vret h hr dX3_save_80 ⟨rfl, aS0, aS1, aS2, aS3, rfl⟩
          · replace hF := o_neg c11 hF
            cases hF
  · replace hF := o_neg c1 hF
    refine r_aload_n h 0 rfl rfl dX3_save_8 ?_
    refine r_get h fl_X3_19 0 rfl rfl dX3_save_9 ?_
    refine r_iconst (v := 0) h dX3_save_12 (by decide) ?_
    refine r_aldq h 12 rfl vp4_0 rfl dX3_save_13 ?_
    refine r_astore_n (lv' := [(1, .ref (aS0 0)), (0, .ref aθ)]) h rfl dX3_save_14 (by decide) rfl ?_
    refine r_iconst (v := 1) h dX3_save_15 (by decide) ?_
    refine r_istore_n (lv' := [(2, .int (1 : Int32)), (1, .ref (aS0 0)), (0, .ref aθ)]) h rfl dX3_save_16 (by decide) rfl ?_
    refine r_iload_n h 0 rfl rfl dX3_save_17 ?_
    refine r_iconst (v := 4) h dX3_save_18 (by decide) ?_
    refine r_icmp_ge h 42 dX3_save_19 (by decide) (fun c => absurd c (by decide)) (fun _ => ?_)
    refine r_aload_n h 2 rfl rfl dX3_save_22 ?_
    refine r_get h fl_X3_19 0 rfl rfl dX3_save_23 ?_
    refine r_iload_n h 0 rfl rfl dX3_save_26 ?_
    refine r_iconst (v := 1) h dX3_save_27 (by decide) ?_
    refine r_isub h dX3_save_28 ?_
    refine J.top (y := (0 : Int32)) (by decide) ?_
    refine r_aload_n h 2 rfl rfl dX3_save_29 ?_
    refine r_get h fl_X3_19 0 rfl rfl dX3_save_30 ?_
    refine r_iload_n h 0 rfl rfl dX3_save_33 ?_
    refine r_aldq h 12 rfl vp4_1 rfl dX3_save_34 ?_
    refine r_astqf (ws' := [rkW D aθ (aρ 0) pθ_spare aν pθ_text θ, rmW D aρ ρ, saW D aν (aS1 0) (aS1 0) (aS2 0) (aS3 0), rmW D aS0 S0, rmW D aS1 S1, rmW D aS2 S2, rmW D aS3 S3].flatten) h 12 24 0 rfl rfl rfl vp4_0 (by rw [qf_up0]; rfl) dX3_save_35 ?_
    refine r_iinc (lv' := [(2, .int (2 : Int32)), (1, .ref (aS0 0)), (0, .ref aθ)]) h 0 rfl (by decide) dX3_save_36 (by decide) rfl ?_
    refine r_goto h 17 dX3_save_39 (by decide) ?_
    refine r_iload_n h 0 rfl rfl dX3_save_17 ?_
    refine r_iconst (v := 4) h dX3_save_18 (by decide) ?_
    refine r_icmp_ge h 42 dX3_save_19 (by decide) (fun c => absurd c (by decide)) (fun _ => ?_)
    refine r_aload_n h 2 rfl rfl dX3_save_22 ?_
    refine r_get h fl_X3_19 0 rfl rfl dX3_save_23 ?_
    refine r_iload_n h 0 rfl rfl dX3_save_26 ?_
    refine r_iconst (v := 1) h dX3_save_27 (by decide) ?_
    refine r_isub h dX3_save_28 ?_
    refine J.top (y := (1 : Int32)) (by decide) ?_
    refine r_aload_n h 2 rfl rfl dX3_save_29 ?_
    refine r_get h fl_X3_19 0 rfl rfl dX3_save_30 ?_
    refine r_iload_n h 0 rfl rfl dX3_save_33 ?_
    refine r_aldq h 12 rfl vp4_2 rfl dX3_save_34 ?_
    refine r_astqf (ws' := [rkW D aθ (aρ 0) pθ_spare aν pθ_text θ, rmW D aρ ρ, saW D aν (aS1 0) (aS2 0) (aS2 0) (aS3 0), rmW D aS0 S0, rmW D aS1 S1, rmW D aS2 S2, rmW D aS3 S3].flatten) h 12 35 1 rfl rfl rfl vp4_1 (by rw [qf_up1]; rfl) dX3_save_35 ?_
    refine r_iinc (lv' := [(2, .int (3 : Int32)), (1, .ref (aS0 0)), (0, .ref aθ)]) h 0 rfl (by decide) dX3_save_36 (by decide) rfl ?_
    refine r_goto h 17 dX3_save_39 (by decide) ?_
    refine r_iload_n h 0 rfl rfl dX3_save_17 ?_
    refine r_iconst (v := 4) h dX3_save_18 (by decide) ?_
    refine r_icmp_ge h 42 dX3_save_19 (by decide) (fun c => absurd c (by decide)) (fun _ => ?_)
    refine r_aload_n h 2 rfl rfl dX3_save_22 ?_
    refine r_get h fl_X3_19 0 rfl rfl dX3_save_23 ?_
    refine r_iload_n h 0 rfl rfl dX3_save_26 ?_
    refine r_iconst (v := 1) h dX3_save_27 (by decide) ?_
    refine r_isub h dX3_save_28 ?_
    refine J.top (y := (2 : Int32)) (by decide) ?_
    refine r_aload_n h 2 rfl rfl dX3_save_29 ?_
    refine r_get h fl_X3_19 0 rfl rfl dX3_save_30 ?_
    refine r_iload_n h 0 rfl rfl dX3_save_33 ?_
    refine r_aldq h 12 rfl vp4_3 rfl dX3_save_34 ?_
    refine r_astqf (ws' := [rkW D aθ (aρ 0) pθ_spare aν pθ_text θ, rmW D aρ ρ, saW D aν (aS1 0) (aS2 0) (aS3 0) (aS3 0), rmW D aS0 S0, rmW D aS1 S1, rmW D aS2 S2, rmW D aS3 S3].flatten) h 12 46 2 rfl rfl rfl vp4_2 (by rw [qf_up2]; rfl) dX3_save_35 ?_
    refine r_iinc (lv' := [(2, .int (4 : Int32)), (1, .ref (aS0 0)), (0, .ref aθ)]) h 0 rfl (by decide) dX3_save_36 (by decide) rfl ?_
    refine r_goto h 17 dX3_save_39 (by decide) ?_
    refine r_iload_n h 0 rfl rfl dX3_save_17 ?_
    refine r_iconst (v := 4) h dX3_save_18 (by decide) ?_
    refine r_icmp_ge h 42 dX3_save_19 (by decide) (fun _ => ?_) (fun c => absurd c (by decide))
    refine r_aload_n h 2 rfl rfl dX3_save_42 ?_
    refine r_get h fl_X3_19 0 rfl rfl dX3_save_43 ?_
    refine r_iconst (v := 3) h dX3_save_46 (by decide) ?_
    refine r_aload_n h 1 rfl rfl dX3_save_47 ?_
    refine r_astqf (ws' := [rkW D aθ (aρ 0) pθ_spare aν pθ_text θ, rmW D aρ ρ, saW D aν (aS1 0) (aS2 0) (aS3 0) (aS0 0), rmW D aS0 S0, rmW D aS1 S1, rmW D aS2 S2, rmW D aS3 S3].flatten) h 12 13 3 rfl rfl rfl vp4_3 (by rw [qf_up3]; rfl) dX3_save_48 ?_
    refine r_aload_n h 2 rfl rfl dX3_save_49 ?_
    refine r_iconst (v := 3) h dX3_save_50 (by decide) ?_
    refine r_put (ws' := [rkW D aθ (aρ 0) pθ_spare aν pθ_text (3 : Int32), rmW D aρ ρ, saW D aν (aS1 0) (aS2 0) (aS3 0) (aS0 0), rmW D aS0 S0, rmW D aS1 S1, rmW D aS2 S2, rmW D aS3 S3].flatten) h fp_X3_23 0 rfl (Nat.le_of_ble_eq_true rfl) rfl rfl rfl dX3_save_51 ?_
    refine r_aload_n h 2 rfl rfl dX3_save_54 ?_
    refine r_get h fl_X3_19 0 rfl rfl dX3_save_55 ?_
    refine r_aload_n h 2 rfl rfl dX3_save_58 ?_
    refine r_get h fl_X3_23 0 rfl rfl dX3_save_59 ?_
    refine r_aldq h 12 rfl vp4_3 rfl dX3_save_62 ?_
    refine r_aload_n h 2 rfl rfl dX3_save_63 ?_
    refine r_get h fl_X3_12 0 rfl rfl dX3_save_64 ?_
    obtain ⟨z14, e15, hF⟩ := o_bind hF
    refine r_callVB (N0 := 7) (q0 := 0) (rest := []) h [rkW D aθ (aρ 0) pθ_spare aν pθ_text (3 : Int32), rmW D aρ ρ, saW D aν (aS1 0) (aS2 0) (aS3 0) (aS0 0), rmW D aS0 S0, rmW D aS1 S1, rmW D aS2 S2, rmW D aS3 S3] [3, 1] [0, 2, 4, 5, 6] hd_X1_copyFrom wm_213 dX3_save_67 (CX1_copyFrom l D aS0 aρ S0 ρ z14 e15) rfl rfl rfl (by decide +kernel) rfl rfl rfl ⟨rfl, rfl⟩ ⟨by decide, by decide⟩ (Nat.le_of_ble_eq_true rfl) ⟨by decide, by decide⟩ rfl (fun v w' hp => ?_)
    obtain ⟨rfl, rfl⟩ := hp
    refine J.blk2 (ws' := [rkW D aθ (aρ 0) pθ_spare aν pθ_text (3 : Int32), rmW D aρ ρ, saW D aν (aS1 0) (aS2 0) (aS3 0) (aS0 0), rmW D aS0 z14, rmW D aS1 S1, rmW D aS2 S2, rmW D aS3 S3].flatten) 7 (pkB [rkW D aθ (aρ 0) pθ_spare aν pθ_text (3 : Int32), rmW D aρ ρ, saW D aν (aS1 0) (aS2 0) (aS3 0) (aS0 0), rmW D aS0 S0, rmW D aS1 S1, rmW D aS2 S2, rmW D aS3 S3] [0, 2, 4, 5, 6]) ([rmW D aS0 z14, rmW D aρ ρ]) [0, 6, 1, 5, 2, 3, 4] rfl rfl rfl rfl (by decide +kernel) ?_
    refine r_aload_n h 2 rfl rfl dX3_save_70 ?_
    refine r_dup h rfl dX3_save_71 ?_
    refine r_get h fl_X3_23 0 rfl rfl dX3_save_72 ?_
    refine r_iconst (v := 1) h dX3_save_75 (by decide) ?_
    refine r_iadd h dX3_save_76 ?_
    refine J.top (y := (4 : Int32)) (by decide) ?_
    refine r_put (ws' := [rkW D aθ (aρ 0) pθ_spare aν pθ_text (4 : Int32), rmW D aρ ρ, saW D aν (aS1 0) (aS2 0) (aS3 0) (aS0 0), rmW D aS0 z14, rmW D aS1 S1, rmW D aS2 S2, rmW D aS3 S3].flatten) h fp_X3_23 0 rfl (Nat.le_of_ble_eq_true rfl) rfl rfl rfl dX3_save_77 ?_
    refine J.blk (ws' := [rkW D aθ (aρ 0) pθ_spare aν pθ_text (4 : Int32), rmW D aρ ρ, saW D aν (aS1 0) (aS2 0) (aS3 0) (aS0 0), rmW D aS1 S1, rmW D aS2 S2, rmW D aS3 S3, rmW D aS0 z14].flatten) 7 [rkW D aθ (aρ 0) pθ_spare aν pθ_text (4 : Int32), rmW D aρ ρ, saW D aν (aS1 0) (aS2 0) (aS3 0) (aS0 0), rmW D aS0 z14, rmW D aS1 S1, rmW D aS2 S2, rmW D aS3 S3] [0, 1, 2, 4, 5, 6, 3] rfl rfl rfl (by decide) ?_
    refine J.wse (ws' := [rkW D aθ (aρ 0) pθ_spare aν pθ_text (4 : Int32), rmW D aρ ρ, tlW D aν aS1 aS2 aS3 aS0 S1 S2 S3 z14].flatten) (tl_open _ _ _ _ _ _ _ _ _ _ _ _).symm ?_
    cases hF
    exact r_vret h hr dX3_save_80 ⟨rfl, aS1, aS2, aS3, aS0, rfl⟩

def FX3_undo (θ : Int32) (ρ : RS) (S0 : RS) (S1 : RS) (S2 : RS) (S3 : RS) : Option (Nat ⊕ (Int32 × Int32 × RS × RS × RS × RS × RS)) :=
  if 0 < θ then
  (if (θ - (1 : Int32)) = (0 : Int32) then
  (some (.inr (θ - (1 : Int32), θ - (1 : Int32), S0, ρ, S1, S2, S3)))
else if (θ - (1 : Int32)) = (1 : Int32) then
  (some (.inr (θ - (1 : Int32), θ - (1 : Int32), S1, S0, ρ, S2, S3)))
else if (θ - (1 : Int32)) = (2 : Int32) then
  (some (.inr (θ - (1 : Int32), θ - (1 : Int32), S2, S0, S1, ρ, S3)))
else if (θ - (1 : Int32)) = (3 : Int32) then
  (some (.inr (θ - (1 : Int32), θ - (1 : Int32), S3, S0, S1, S2, ρ)))
else none)
else
  (some (.inl 3))
abbrev rmX3_undo : Room := { frames := 0, cells := 0, slots := 0, locals := 0 }
set_option maxHeartbeats 4000000 in
set_option maxRecDepth 100000 in
theorem CX3_undo (l : Launch) (D : va_G) (aθ : Nat) (pθ_spare : Nat) (pθ_text : Nat) (aρ : Nat → Nat) (aν : Nat) (aS0 : Nat → Nat) (aS1 : Nat → Nat) (aS2 : Nat → Nat) (aS3 : Nat → Nat) (θ : Int32) (ρ : RS) (S0 : RS) (S1 : RS) (S2 : RS) (S3 : RS) (r0 : Int32) (θ0 : Int32) (ρ0 : RS) (S00 : RS) (S10 : RS) (S20 : RS) (S30 : RS) (hF : FX3_undo θ ρ S0 S1 S2 S3 = some (.inr (r0, θ0, ρ0, S00, S10, S20, S30))) : Ct l D yX3_undo cX3_undo 2 (some .int) rmX3_undo 0 0 [.ref aθ] ([rkW D aθ (aρ 0) pθ_spare aν pθ_text θ, rmW D aρ ρ, tlW D aν aS0 aS1 aS2 aS3 S0 S1 S2 S3].flatten) (fun v w => v = some (.int r0) ∧ ∃ (bρ : Nat → Nat) (bS0 : Nat → Nat) (bS1 : Nat → Nat) (bS2 : Nat → Nat) (bS3 : Nat → Nat), w = [rkW D aθ (bρ 0) pθ_spare aν pθ_text θ0, rmW D bρ ρ0, tlW D aν bS0 bS1 bS2 bS3 S00 S10 S20 S30].flatten) := by
  refine Ct.of (own := RX3) (lv := [(0, .ref aθ)]) (by decide +kernel) rfl (Nat.le_of_ble_eq_true rfl) rfl (fun X h hr => ?_)
  unfold FX3_undo at hF
  refine J.wse (ws' := [rkW D aθ (aρ 0) pθ_spare aν pθ_text θ, rmW D aρ ρ, saW D aν (aS0 0) (aS1 0) (aS2 0) (aS3 0), rmW D aS0 S0, rmW D aS1 S1, rmW D aS2 S2, rmW D aS3 S3].flatten) (tl_open _ _ _ _ _ _ _ _ _ _ _ _) ?_
  refine r_aload_n h 0 rfl rfl dX3_undo_0 ?_
  refine r_get h fl_X3_23 0 rfl rfl dX3_undo_1 ?_
  refine r_if_gt h 17 dX3_undo_4 (by decide) (fun c1 => ?_) (fun c1 => ?_)
  · replace hF := o_pos c1 hF
    refine r_aload_n h 0 rfl rfl dX3_undo_17 ?_
    refine r_dup h rfl dX3_undo_18 ?_
    refine r_get h fl_X3_23 0 rfl rfl dX3_undo_19 ?_
    refine r_iconst (v := 1) h dX3_undo_22 (by decide) ?_
    refine r_isub h dX3_undo_23 ?_
    refine r_put (ws' := [rkW D aθ (aρ 0) pθ_spare aν pθ_text (θ - (1 : Int32)), rmW D aρ ρ, saW D aν (aS0 0) (aS1 0) (aS2 0) (aS3 0), rmW D aS0 S0, rmW D aS1 S1, rmW D aS2 S2, rmW D aS3 S3].flatten) h fp_X3_23 0 rfl (Nat.le_of_ble_eq_true rfl) rfl rfl rfl dX3_undo_24 ?_
    refine r_aload_n h 0 rfl rfl dX3_undo_27 ?_
    refine r_get h fl_X3_12 0 rfl rfl dX3_undo_28 ?_
    refine r_astore_n (lv' := [(1, .ref (aρ 0)), (0, .ref aθ)]) h rfl dX3_undo_31 (by decide) rfl ?_
    refine r_aload_n h 1 rfl rfl dX3_undo_32 ?_
    refine r_aload_n h 1 rfl rfl dX3_undo_33 ?_
    refine r_get h fl_X3_19 0 rfl rfl dX3_undo_34 ?_
    refine r_aload_n h 1 rfl rfl dX3_undo_37 ?_
    refine r_get h fl_X3_23 0 rfl rfl dX3_undo_38 ?_
    by_cases c2 : (θ - (1 : Int32)) = (0 : Int32)
    · replace hF := o_pos c2 hF
      refine r_aldq h 12 rfl (by rw [c2]; exact vp4_0) (by rw [c2]; rfl) dX3_undo_41 ?_
      refine r_put (ws' := [rkW D aθ (aS0 0) pθ_spare aν pθ_text (θ - (1 : Int32)), rmW D aρ ρ, saW D aν (aS0 0) (aS1 0) (aS2 0) (aS3 0), rmW D aS0 S0, rmW D aS1 S1, rmW D aS2 S2, rmW D aS3 S3].flatten) h fp_X3_12 0 rfl (Nat.le_of_ble_eq_true rfl) rfl rfl rfl dX3_undo_42 ?_
      refine r_aload_n h 1 rfl rfl dX3_undo_45 ?_
      refine r_get h fl_X3_19 0 rfl rfl dX3_undo_46 ?_
      refine r_aload_n h 1 rfl rfl dX3_undo_49 ?_
      refine r_get h fl_X3_23 0 rfl rfl dX3_undo_50 ?_
      refine r_aload_n h 0 rfl rfl dX3_undo_53 ?_
      refine r_astqf (ws' := [rkW D aθ (aS0 0) pθ_spare aν pθ_text (θ - (1 : Int32)), rmW D aρ ρ, saW D aν (aρ 0) (aS1 0) (aS2 0) (aS3 0), rmW D aS0 S0, rmW D aS1 S1, rmW D aS2 S2, rmW D aS3 S3].flatten) h 12 1 0 rfl rfl (by rw [c2]; rfl) (by rw [c2]; exact vp4_0) (by rw [qf_up0]; rfl) dX3_undo_54 ?_
      refine r_aload_n h 1 rfl rfl dX3_undo_55 ?_
      refine r_get h fl_X3_23 0 rfl rfl dX3_undo_56 ?_
      refine J.blk (ws' := [rkW D aθ (aS0 0) pθ_spare aν pθ_text (θ - (1 : Int32)), rmW D aS0 S0, saW D aν (aρ 0) (aS1 0) (aS2 0) (aS3 0), rmW D aρ ρ, rmW D aS1 S1, rmW D aS2 S2, rmW D aS3 S3].flatten) 7 [rkW D aθ (aS0 0) pθ_spare aν pθ_text (θ - (1 : Int32)), rmW D aρ ρ, saW D aν (aρ 0) (aS1 0) (aS2 0) (aS3 0), rmW D aS0 S0, rmW D aS1 S1, rmW D aS2 S2, rmW D aS3 S3] [0, 3, 2, 1, 4, 5, 6] rfl rfl rfl (by decide) ?_
      refine J.wse (ws' := [rkW D aθ (aS0 0) pθ_spare aν pθ_text (θ - (1 : Int32)), rmW D aS0 S0, tlW D aν aρ aS1 aS2 aS3 ρ S1 S2 S3].flatten) (tl_open _ _ _ _ _ _ _ _ _ _ _ _).symm ?_
      cases hF
      exact r_iret h hr dX3_undo_59 ⟨rfl, aS0, aρ, aS1, aS2, aS3, rfl⟩
    · replace hF := o_neg c2 hF
      by_cases c3 : (θ - (1 : Int32)) = (1 : Int32)
      · replace hF := o_pos c3 hF
        refine r_aldq h 12 rfl (by rw [c3]; exact vp4_1) (by rw [c3]; rfl) dX3_undo_41 ?_
        refine r_put (ws' := [rkW D aθ (aS1 0) pθ_spare aν pθ_text (θ - (1 : Int32)), rmW D aρ ρ, saW D aν (aS0 0) (aS1 0) (aS2 0) (aS3 0), rmW D aS0 S0, rmW D aS1 S1, rmW D aS2 S2, rmW D aS3 S3].flatten) h fp_X3_12 0 rfl (Nat.le_of_ble_eq_true rfl) rfl rfl rfl dX3_undo_42 ?_
        refine r_aload_n h 1 rfl rfl dX3_undo_45 ?_
        refine r_get h fl_X3_19 0 rfl rfl dX3_undo_46 ?_
        refine r_aload_n h 1 rfl rfl dX3_undo_49 ?_
        refine r_get h fl_X3_23 0 rfl rfl dX3_undo_50 ?_
        refine r_aload_n h 0 rfl rfl dX3_undo_53 ?_
        refine r_astqf (ws' := [rkW D aθ (aS1 0) pθ_spare aν pθ_text (θ - (1 : Int32)), rmW D aρ ρ, saW D aν (aS0 0) (aρ 0) (aS2 0) (aS3 0), rmW D aS0 S0, rmW D aS1 S1, rmW D aS2 S2, rmW D aS3 S3].flatten) h 12 1 1 rfl rfl (by rw [c3]; rfl) (by rw [c3]; exact vp4_1) (by rw [qf_up1]; rfl) dX3_undo_54 ?_
        refine r_aload_n h 1 rfl rfl dX3_undo_55 ?_
        refine r_get h fl_X3_23 0 rfl rfl dX3_undo_56 ?_
        refine J.blk (ws' := [rkW D aθ (aS1 0) pθ_spare aν pθ_text (θ - (1 : Int32)), rmW D aS1 S1, saW D aν (aS0 0) (aρ 0) (aS2 0) (aS3 0), rmW D aS0 S0, rmW D aρ ρ, rmW D aS2 S2, rmW D aS3 S3].flatten) 7 [rkW D aθ (aS1 0) pθ_spare aν pθ_text (θ - (1 : Int32)), rmW D aρ ρ, saW D aν (aS0 0) (aρ 0) (aS2 0) (aS3 0), rmW D aS0 S0, rmW D aS1 S1, rmW D aS2 S2, rmW D aS3 S3] [0, 4, 2, 3, 1, 5, 6] rfl rfl rfl (by decide) ?_
        refine J.wse (ws' := [rkW D aθ (aS1 0) pθ_spare aν pθ_text (θ - (1 : Int32)), rmW D aS1 S1, tlW D aν aS0 aρ aS2 aS3 S0 ρ S2 S3].flatten) (tl_open _ _ _ _ _ _ _ _ _ _ _ _).symm ?_
        cases hF
        exact r_iret h hr dX3_undo_59 ⟨rfl, aS1, aS0, aρ, aS2, aS3, rfl⟩
      · replace hF := o_neg c3 hF
        by_cases c4 : (θ - (1 : Int32)) = (2 : Int32)
        · replace hF := o_pos c4 hF
          refine r_aldq h 12 rfl (by rw [c4]; exact vp4_2) (by rw [c4]; rfl) dX3_undo_41 ?_
          refine r_put (ws' := [rkW D aθ (aS2 0) pθ_spare aν pθ_text (θ - (1 : Int32)), rmW D aρ ρ, saW D aν (aS0 0) (aS1 0) (aS2 0) (aS3 0), rmW D aS0 S0, rmW D aS1 S1, rmW D aS2 S2, rmW D aS3 S3].flatten) h fp_X3_12 0 rfl (Nat.le_of_ble_eq_true rfl) rfl rfl rfl dX3_undo_42 ?_
          refine r_aload_n h 1 rfl rfl dX3_undo_45 ?_
          refine r_get h fl_X3_19 0 rfl rfl dX3_undo_46 ?_
          refine r_aload_n h 1 rfl rfl dX3_undo_49 ?_
          refine r_get h fl_X3_23 0 rfl rfl dX3_undo_50 ?_
          refine r_aload_n h 0 rfl rfl dX3_undo_53 ?_
          refine r_astqf (ws' := [rkW D aθ (aS2 0) pθ_spare aν pθ_text (θ - (1 : Int32)), rmW D aρ ρ, saW D aν (aS0 0) (aS1 0) (aρ 0) (aS3 0), rmW D aS0 S0, rmW D aS1 S1, rmW D aS2 S2, rmW D aS3 S3].flatten) h 12 1 2 rfl rfl (by rw [c4]; rfl) (by rw [c4]; exact vp4_2) (by rw [qf_up2]; rfl) dX3_undo_54 ?_
          refine r_aload_n h 1 rfl rfl dX3_undo_55 ?_
          refine r_get h fl_X3_23 0 rfl rfl dX3_undo_56 ?_
          refine J.blk (ws' := [rkW D aθ (aS2 0) pθ_spare aν pθ_text (θ - (1 : Int32)), rmW D aS2 S2, saW D aν (aS0 0) (aS1 0) (aρ 0) (aS3 0), rmW D aS0 S0, rmW D aS1 S1, rmW D aρ ρ, rmW D aS3 S3].flatten) 7 [rkW D aθ (aS2 0) pθ_spare aν pθ_text (θ - (1 : Int32)), rmW D aρ ρ, saW D aν (aS0 0) (aS1 0) (aρ 0) (aS3 0), rmW D aS0 S0, rmW D aS1 S1, rmW D aS2 S2, rmW D aS3 S3] [0, 5, 2, 3, 4, 1, 6] rfl rfl rfl (by decide) ?_
          refine J.wse (ws' := [rkW D aθ (aS2 0) pθ_spare aν pθ_text (θ - (1 : Int32)), rmW D aS2 S2, tlW D aν aS0 aS1 aρ aS3 S0 S1 ρ S3].flatten) (tl_open _ _ _ _ _ _ _ _ _ _ _ _).symm ?_
          cases hF
          exact r_iret h hr dX3_undo_59 ⟨rfl, aS2, aS0, aS1, aρ, aS3, rfl⟩
        · replace hF := o_neg c4 hF
          by_cases c5 : (θ - (1 : Int32)) = (3 : Int32)
          · replace hF := o_pos c5 hF
            refine r_aldq h 12 rfl (by rw [c5]; exact vp4_3) (by rw [c5]; rfl) dX3_undo_41 ?_
            refine r_put (ws' := [rkW D aθ (aS3 0) pθ_spare aν pθ_text (θ - (1 : Int32)), rmW D aρ ρ, saW D aν (aS0 0) (aS1 0) (aS2 0) (aS3 0), rmW D aS0 S0, rmW D aS1 S1, rmW D aS2 S2, rmW D aS3 S3].flatten) h fp_X3_12 0 rfl (Nat.le_of_ble_eq_true rfl) rfl rfl rfl dX3_undo_42 ?_
            refine r_aload_n h 1 rfl rfl dX3_undo_45 ?_
            refine r_get h fl_X3_19 0 rfl rfl dX3_undo_46 ?_
            refine r_aload_n h 1 rfl rfl dX3_undo_49 ?_
            refine r_get h fl_X3_23 0 rfl rfl dX3_undo_50 ?_
            refine r_aload_n h 0 rfl rfl dX3_undo_53 ?_
            refine r_astqf (ws' := [rkW D aθ (aS3 0) pθ_spare aν pθ_text (θ - (1 : Int32)), rmW D aρ ρ, saW D aν (aS0 0) (aS1 0) (aS2 0) (aρ 0), rmW D aS0 S0, rmW D aS1 S1, rmW D aS2 S2, rmW D aS3 S3].flatten) h 12 1 3 rfl rfl (by rw [c5]; rfl) (by rw [c5]; exact vp4_3) (by rw [qf_up3]; rfl) dX3_undo_54 ?_
            refine r_aload_n h 1 rfl rfl dX3_undo_55 ?_
            refine r_get h fl_X3_23 0 rfl rfl dX3_undo_56 ?_
            refine J.blk (ws' := [rkW D aθ (aS3 0) pθ_spare aν pθ_text (θ - (1 : Int32)), rmW D aS3 S3, saW D aν (aS0 0) (aS1 0) (aS2 0) (aρ 0), rmW D aS0 S0, rmW D aS1 S1, rmW D aS2 S2, rmW D aρ ρ].flatten) 7 [rkW D aθ (aS3 0) pθ_spare aν pθ_text (θ - (1 : Int32)), rmW D aρ ρ, saW D aν (aS0 0) (aS1 0) (aS2 0) (aρ 0), rmW D aS0 S0, rmW D aS1 S1, rmW D aS2 S2, rmW D aS3 S3] [0, 6, 2, 3, 4, 5, 1] rfl rfl rfl (by decide) ?_
            refine J.wse (ws' := [rkW D aθ (aS3 0) pθ_spare aν pθ_text (θ - (1 : Int32)), rmW D aS3 S3, tlW D aν aS0 aS1 aS2 aρ S0 S1 S2 ρ].flatten) (tl_open _ _ _ _ _ _ _ _ _ _ _ _).symm ?_
            cases hF
            exact r_iret h hr dX3_undo_59 ⟨rfl, aS3, aS0, aS1, aS2, aρ, rfl⟩
          · replace hF := o_neg c5 hF
            cases hF
  · replace hF := o_neg c1 hF
    cases hF

abbrev rmTX3_undo : Room := { frames := 6, cells := 1, slots := 6, locals := 90 }
set_option maxHeartbeats 4000000 in
set_option maxRecDepth 100000 in
theorem TX3_undo (l : Launch) (hl0 : l.stackTraces = false) (D : va_G) (aθ : Nat) (pθ_spare : Nat) (pθ_text : Nat) (aρ : Nat → Nat) (aν : Nat) (aS0 : Nat → Nat) (aS1 : Nat → Nat) (aS2 : Nat → Nat) (aS3 : Nat → Nat) (θ : Int32) (ρ : RS) (S0 : RS) (S1 : RS) (S2 : RS) (S3 : RS) (k0 : Nat) (hF : FX3_undo θ ρ S0 S1 S2 S3 = some (.inl k0)) : CtT l D yX3_undo cX3_undo 2 (some .int) rmTX3_undo 1 6 [.ref aθ] ([rkW D aθ (aρ 0) pθ_spare aν pθ_text θ, rmW D aρ ρ, tlW D aν aS0 aS1 aS2 aS3 S0 S1 S2 S3].flatten) (exn k0) := by
  refine CtT.of (own := RX3) (lv := [(0, .ref aθ)]) (by decide +kernel) rfl (Nat.le_of_ble_eq_true rfl) rfl (fun X h hx ht => ?_)
  unfold FX3_undo at hF
  refine r_aload_n h 0 rfl rfl dX3_undo_0 ?_
  refine r_get h fl_X3_23 0 rfl rfl dX3_undo_1 ?_
  refine r_if_gt h 17 dX3_undo_4 (by decide) (fun c1 => ?_) (fun c1 => ?_)
  · replace hF := o_pos c1 hF
    refine r_aload_n h 0 rfl rfl dX3_undo_17 ?_
    refine r_dup h rfl dX3_undo_18 ?_
    refine r_get h fl_X3_23 0 rfl rfl dX3_undo_19 ?_
    refine r_iconst (v := 1) h dX3_undo_22 (by decide) ?_
    refine r_isub h dX3_undo_23 ?_
    refine r_put (ws' := [rkW D aθ (aρ 0) pθ_spare aν pθ_text (θ - (1 : Int32)), rmW D aρ ρ, saW D aν (aS0 0) (aS1 0) (aS2 0) (aS3 0), rmW D aS0 S0, rmW D aS1 S1, rmW D aS2 S2, rmW D aS3 S3].flatten) h fp_X3_23 0 rfl (Nat.le_of_ble_eq_true rfl) rfl rfl rfl dX3_undo_24 ?_
    refine r_aload_n h 0 rfl rfl dX3_undo_27 ?_
    refine r_get h fl_X3_12 0 rfl rfl dX3_undo_28 ?_
    refine r_astore_n (lv' := [(1, .ref (aρ 0)), (0, .ref aθ)]) h rfl dX3_undo_31 (by decide) rfl ?_
    refine r_aload_n h 1 rfl rfl dX3_undo_32 ?_
    refine r_aload_n h 1 rfl rfl dX3_undo_33 ?_
    refine r_get h fl_X3_19 0 rfl rfl dX3_undo_34 ?_
    refine r_aload_n h 1 rfl rfl dX3_undo_37 ?_
    refine r_get h fl_X3_23 0 rfl rfl dX3_undo_38 ?_
    exact absurd hF (by (repeat' split) <;> simp)
  · replace hF := o_neg c1 hF
    cases hF
    exact r_throw (E := exn 3) (text := "no saved state") h hx ht hl0 thf_3 (by decide +kernel) dX3_undo_7 dX3_undo_10 dX3_undo_11 dX3_undo_13 dX3_undo_16 ⟨by decide, Nat.le_of_ble_eq_true rfl, by decide, by decide⟩ ⟨by decide, by decide⟩


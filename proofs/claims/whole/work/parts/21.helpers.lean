theorem hdl_X3_addCable : HdV yX3_addCable RX3 cX3_addCable 5 (some .int) 3 := ⟨wm_584, wm_585, wm_1, wm_586, by decide +kernel⟩
theorem hdl_X3_addFreeze : HdV yX3_addFreeze RX3 cX3_addFreeze 5 (some .int) 3 := ⟨wm_600, wm_601, wm_1, wm_602, by decide +kernel⟩
theorem hdl_X3_addMachine : HdV yX3_addMachine RX3 cX3_addMachine 6 (some .int) 4 := ⟨wm_554, wm_555, wm_1, wm_556, by decide +kernel⟩
theorem hdl_X3_append : HdV yX3_append RX3 cX3_append 2 (some .int) 1 := ⟨wm_686, wm_687, wm_1, wm_688, by decide +kernel⟩
theorem hdl_X3_bestRack : HdV yX3_bestRack RX3 cX3_bestRack 6 (some .int) 1 := ⟨wm_675, wm_676, wm_1, wm_677, by decide +kernel⟩
theorem hdl_X3_change : HdV yX3_change RX3 cX3_change 4 (some .int) 2 := ⟨wm_656, wm_657, wm_1, wm_658, by decide +kernel⟩
theorem hdl_X3_mayMove : HdV yX3_mayMove RX3 cX3_mayMove 3 (some .int) 2 := ⟨wm_668, wm_669, wm_1, wm_670, by decide +kernel⟩
theorem hdl_X3_move : HdV yX3_move RX3 cX3_move 4 (some .int) 2 := ⟨wm_647, wm_648, wm_1, wm_649, by decide +kernel⟩
theorem hdl_X3_pass : HdV yX3_pass RX3 cX3_pass 2 (some .int) 1 := ⟨wm_615, wm_616, wm_1, wm_617, by decide +kernel⟩
theorem hdl_X3_removeCable : HdV yX3_removeCable RX3 cX3_removeCable 2 (some .int) 1 := ⟨wm_592, wm_593, wm_1, wm_594, by decide +kernel⟩
theorem hdl_X3_removeFreeze : HdV yX3_removeFreeze RX3 cX3_removeFreeze 2 (some .int) 1 := ⟨wm_607, wm_608, wm_1, wm_609, by decide +kernel⟩
theorem hdl_X3_setLevel : HdV yX3_setLevel RX3 cX3_setLevel 3 (some .int) 1 := ⟨wm_546, wm_547, wm_1, wm_548, by decide +kernel⟩
theorem hdl_X3_setLimit : HdV yX3_setLimit RX3 cX3_setLimit 4 (some .int) 2 := ⟨wm_532, wm_533, wm_1, wm_534, by decide +kernel⟩
theorem hdl_X3_setTray : HdV yX3_setTray RX3 cX3_setTray 4 (some .int) 2 := ⟨wm_539, wm_540, wm_1, wm_541, by decide +kernel⟩
theorem hdl_X3_undo : HdV yX3_undo RX3 cX3_undo 2 (some .int) 0 := ⟨wm_694, wm_695, wm_1, wm_696, by decide +kernel⟩
def FL_setLimit (θ : Int32) (ρ : RS) (S0 : RS) (S1 : RS) (S2 : RS) (S3 : RS) (x1 : Int32) (x2 : Int32) (f : Nat → Int64) : Option (Int32 × Int32 × RS × RS × RS × RS × RS × (Nat → Int64)) :=
  match FX3_setLimit θ ρ S0 S1 S2 S3 x1 x2 with
  | none => none
  | some (.inl k) => if k = 1 then some ((1 : Int32), θ, ρ, S0, S1, S2, S3, f) else if k = 2 then some ((2 : Int32), θ, ρ, S0, S1, S2, S3, f) else none
  | some (.inr r) => some ((0 : Int32), r.2.1, r.2.2.1, r.2.2.2.1, r.2.2.2.2.1, r.2.2.2.2.2.1, r.2.2.2.2.2.2, vp_updL f ((0 : Int32)).toNatClampNeg r.1.toInt64)
abbrev rmL_setLimit : Room := { frames := 8, cells := 1, slots := 6, locals := 147 }
set_option maxHeartbeats 4000000 in
set_option maxRecDepth 100000 in
theorem CL_setLimit (l : Launch) (hl0 : l.stackTraces = false) (D : va_G) (aθ : Nat) (pθ_spare : Nat) (pθ_text : Nat) (aρ : Nat → Nat) (aν : Nat) (aS0 : Nat → Nat) (aS1 : Nat → Nat) (aS2 : Nat → Nat) (aS3 : Nat → Nat) (o : Nat) (θ : Int32) (ρ : RS) (S0 : RS) (S1 : RS) (S2 : RS) (S3 : RS) (x1 : Int32) (x2 : Int32) (f : Nat → Int64) (r0 : Int32) (θ0 : Int32) (ρ0 : RS) (S00 : RS) (S10 : RS) (S20 : RS) (S30 : RS) (f0 : Nat → Int64) (hF : FL_setLimit θ ρ S0 S1 S2 S3 x1 x2 f = some (r0, θ0, ρ0, S00, S10, S20, S30, f0)) : CtW l D yL_setLimit cL_setLimit 5 (some .int) [((0 : Nat), 10 , 13 , 13 ), ((0 : Nat), (10 : Nat), (17 : Nat), (15 : Nat)) ] rmL_setLimit 1 6 [.ref aθ, .int x1, .int x2, .ref o] ([ouW D o f, rkW D aθ (aρ 0) pθ_spare aν pθ_text θ, rmW D aρ ρ, tlW D aν aS0 aS1 aS2 aS3 S0 S1 S2 S3].flatten) (fun v w => v = some (.int r0) ∧ ∃ (bS0 : Nat → Nat) (bS1 : Nat → Nat) (bS2 : Nat → Nat) (bS3 : Nat → Nat), w = [ouW D o f0, rkW D aθ (aρ 0) pθ_spare aν pθ_text θ0, rmW D aρ ρ0, tlW D aν bS0 bS1 bS2 bS3 S00 S10 S20 S30].flatten) := by
  unfold FL_setLimit at hF
  refine CtW.of (own := RL) (lv := [(0, .ref aθ), (1, .int x1), (2, .int x2), (3, .ref o)]) (by decide +kernel) rfl (Nat.le_of_ble_eq_true rfl) rfl (fun X h hx hr => ?_)
  refine r_aload_n h 3 rfl rfl dL_setLimit_0 ?_
  refine r_iconst (v := 0) h dL_setLimit_1 (by decide) ?_
  refine r_aload_n h 0 rfl rfl dL_setLimit_2 ?_
  refine r_iload_n h 1 rfl rfl dL_setLimit_3 ?_
  refine r_iload_n h 2 rfl rfl dL_setLimit_4 ?_
  cases e : FX3_setLimit θ ρ S0 S1 S2 S3 x1 x2 with
  | none => rw [e] at hF; cases hF
  | some z =>
    rw [e] at hF
    cases z with
    | inl k =>
      dsimp only at hF
      by_cases h0 : k = 1
      · subst h0
        replace hF := o_pos rfl hF
        cases hF
        refine r_callCV (N0 := 4) (q0 := 0) (rest := [.int 0, .ref o]) (E := exn 1) (hh := [((0 : Nat), 10 , 13 , 13 ), ((0 : Nat), (10 : Nat), (17 : Nat), (15 : Nat)) ]) h hx [ouW D o f, rkW D aθ (aρ 0) pθ_spare aν pθ_text θ, rmW D aρ ρ, tlW D aν aS0 aS1 aS2 aS3 S0 S1 S2 S3] [1, 2, 3] [0] hdl_X3_setLimit wm_531 dL_setLimit_5 (TX3_setLimit l hl0 D aθ pθ_spare pθ_text aρ aν aS0 aS1 aS2 aS3 θ ρ S0 S1 S2 S3 x1 x2 1 e) rfl rfl rfl (by decide) rfl rfl rfl ⟨rfl, rfl⟩ ⟨by decide, by decide⟩ (Nat.le_of_ble_eq_true rfl) ⟨by decide, by decide⟩ rfl [] ⟨0, 10, 13, 13⟩ [⟨0, 10, 17, 15⟩] rfl (fun z hz => nomatch hz) (by decide) (by decide) wm_529 1 (by decide) rfl 13 rfl (fun q => ?_)
        refine J.blk2 (ws' := [ouW D o f, rkW D aθ (aρ 0) pθ_spare aν pθ_text θ, rmW D aρ ρ, tlW D aν aS0 aS1 aS2 aS3 S0 S1 S2 S3].flatten) 4 (pkB [ouW D o f, rkW D aθ (aρ 0) pθ_spare aν pθ_text θ, rmW D aρ ρ, tlW D aν aS0 aS1 aS2 aS3 S0 S1 S2 S3] [0]) ([rkW D aθ (aρ 0) pθ_spare aν pθ_text θ, rmW D aρ ρ, tlW D aν aS0 aS1 aS2 aS3 S0 S1 S2 S3]) [0, 1, 2, 3] rfl rfl rfl rfl (by decide) ?_
        refine r_astore (lv' := [(4, .ref q), (0, .ref aθ), (1, .int x1), (2, .int x2), (3, .ref o)]) h dL_setLimit_13 (by decide) rfl ?_
        refine r_iconst (v := 1) h dL_setLimit_15 (by decide) ?_
        exact r_iret h hr dL_setLimit_16 ⟨rfl, aS0, aS1, aS2, aS3, rfl⟩
      · replace hF := o_neg h0 hF
        by_cases h1 : k = 2
        · subst h1
          replace hF := o_pos rfl hF
          cases hF
          refine r_callCV (N0 := 4) (q0 := 0) (rest := [.int 0, .ref o]) (E := exn 2) (hh := [((0 : Nat), 10 , 13 , 13 ), ((0 : Nat), (10 : Nat), (17 : Nat), (15 : Nat)) ]) h hx [ouW D o f, rkW D aθ (aρ 0) pθ_spare aν pθ_text θ, rmW D aρ ρ, tlW D aν aS0 aS1 aS2 aS3 S0 S1 S2 S3] [1, 2, 3] [0] hdl_X3_setLimit wm_531 dL_setLimit_5 (TX3_setLimit l hl0 D aθ pθ_spare pθ_text aρ aν aS0 aS1 aS2 aS3 θ ρ S0 S1 S2 S3 x1 x2 2 e) rfl rfl rfl (by decide) rfl rfl rfl ⟨rfl, rfl⟩ ⟨by decide, by decide⟩ (Nat.le_of_ble_eq_true rfl) ⟨by decide, by decide⟩ rfl [⟨0, 10, 13, 13⟩] ⟨0, 10, 17, 15⟩ [] rfl (fun z hz => by rw [List.mem_singleton.mp hz]; exact ⟨by decide, _, wm_529, fun s A hX => hX.2.2.2.2.1⟩) (by decide) (by decide) wm_530 2 (by decide) rfl 17 rfl (fun q => ?_)
          refine J.blk2 (ws' := [ouW D o f, rkW D aθ (aρ 0) pθ_spare aν pθ_text θ, rmW D aρ ρ, tlW D aν aS0 aS1 aS2 aS3 S0 S1 S2 S3].flatten) 4 (pkB [ouW D o f, rkW D aθ (aρ 0) pθ_spare aν pθ_text θ, rmW D aρ ρ, tlW D aν aS0 aS1 aS2 aS3 S0 S1 S2 S3] [0]) ([rkW D aθ (aρ 0) pθ_spare aν pθ_text θ, rmW D aρ ρ, tlW D aν aS0 aS1 aS2 aS3 S0 S1 S2 S3]) [0, 1, 2, 3] rfl rfl rfl rfl (by decide) ?_
          refine r_astore (lv' := [(4, .ref q), (0, .ref aθ), (1, .int x1), (2, .int x2), (3, .ref o)]) h dL_setLimit_17 (by decide) rfl ?_
          refine r_iconst (v := 2) h dL_setLimit_19 (by decide) ?_
          exact r_iret h hr dL_setLimit_20 ⟨rfl, aS0, aS1, aS2, aS3, rfl⟩
        · replace hF := o_neg h1 hF
          cases hF
    | inr r =>
      dsimp only at hF
      refine r_callVB (N0 := 4) (q0 := 0) (rest := [.int 0, .ref o]) h [ouW D o f, rkW D aθ (aρ 0) pθ_spare aν pθ_text θ, rmW D aρ ρ, tlW D aν aS0 aS1 aS2 aS3 S0 S1 S2 S3] [1, 2, 3] [0] hdl_X3_setLimit wm_531 dL_setLimit_5 (CX3_setLimit l D aθ pθ_spare pθ_text aρ aν aS0 aS1 aS2 aS3 θ ρ S0 S1 S2 S3 x1 x2 r.1 r.2.1 r.2.2.1 r.2.2.2.1 r.2.2.2.2.1 r.2.2.2.2.2.1 r.2.2.2.2.2.2 e) rfl rfl rfl (by decide) rfl rfl rfl ⟨rfl, rfl⟩ ⟨by decide, by decide⟩ (Nat.le_of_ble_eq_true rfl) ⟨by decide, by decide⟩ rfl (fun v w' hp => ?_)
      obtain ⟨rfl, nS0, nS1, nS2, nS3, rfl⟩ := hp
      refine J.blk2 (ws' := [ouW D o f, rkW D aθ (aρ 0) pθ_spare aν pθ_text r.2.1, rmW D aρ r.2.2.1, tlW D aν nS0 nS1 nS2 nS3 r.2.2.2.1 r.2.2.2.2.1 r.2.2.2.2.2.1 r.2.2.2.2.2.2].flatten) 4 (pkB [ouW D o f, rkW D aθ (aρ 0) pθ_spare aν pθ_text θ, rmW D aρ ρ, tlW D aν aS0 aS1 aS2 aS3 S0 S1 S2 S3] [0]) ([rkW D aθ (aρ 0) pθ_spare aν pθ_text r.2.1, rmW D aρ r.2.2.1, tlW D aν nS0 nS1 nS2 nS3 r.2.2.2.1 r.2.2.2.2.1 r.2.2.2.2.2.1 r.2.2.2.2.2.2]) [0, 1, 2, 3] rfl rfl rfl rfl (by decide) ?_
      refine r_i2l h dL_setLimit_8 ?_
      refine r_last (ws' := [ouW D o (vp_updL f ((0 : Int32)).toNatClampNeg r.1.toInt64), rkW D aθ (aρ 0) pθ_spare aν pθ_text r.2.1, rmW D aρ r.2.2.1, tlW D aν nS0 nS1 nS2 nS3 r.2.2.2.1 r.2.2.2.2.1 r.2.2.2.2.2.1 r.2.2.2.2.2.2].flatten) h 0 rfl (show ¬ (_ ∨ _) by decide) rfl dL_setLimit_9 ?_
      refine r_goto h 21 dL_setLimit_10 (by decide) ?_
      refine r_iconst (v := 0) h dL_setLimit_21 (by decide) ?_
      refine J.widen (k1 := 1) (n1 := 6) (by decide) (by decide) ?_
      cases hF
      exact r_iret h hr dL_setLimit_22 ⟨rfl, nS0, nS1, nS2, nS3, rfl⟩
def FL_setTray (θ : Int32) (ρ : RS) (S0 : RS) (S1 : RS) (S2 : RS) (S3 : RS) (x1 : Int32) (x2 : Int32) (f : Nat → Int64) : Option (Int32 × Int32 × RS × RS × RS × RS × RS × (Nat → Int64)) :=
  match FX3_setTray θ ρ S0 S1 S2 S3 x1 x2 with
  | none => none
  | some (.inl k) => if k = 1 then some ((1 : Int32), θ, ρ, S0, S1, S2, S3, f) else if k = 2 then some ((2 : Int32), θ, ρ, S0, S1, S2, S3, f) else none
  | some (.inr r) => some ((0 : Int32), r.2.1, r.2.2.1, r.2.2.2.1, r.2.2.2.2.1, r.2.2.2.2.2.1, r.2.2.2.2.2.2, vp_updL f ((0 : Int32)).toNatClampNeg r.1.toInt64)
abbrev rmL_setTray : Room := { frames := 8, cells := 1, slots := 6, locals := 147 }
set_option maxHeartbeats 4000000 in
set_option maxRecDepth 100000 in
theorem CL_setTray (l : Launch) (hl0 : l.stackTraces = false) (D : va_G) (aθ : Nat) (pθ_spare : Nat) (pθ_text : Nat) (aρ : Nat → Nat) (aν : Nat) (aS0 : Nat → Nat) (aS1 : Nat → Nat) (aS2 : Nat → Nat) (aS3 : Nat → Nat) (o : Nat) (θ : Int32) (ρ : RS) (S0 : RS) (S1 : RS) (S2 : RS) (S3 : RS) (x1 : Int32) (x2 : Int32) (f : Nat → Int64) (r0 : Int32) (θ0 : Int32) (ρ0 : RS) (S00 : RS) (S10 : RS) (S20 : RS) (S30 : RS) (f0 : Nat → Int64) (hF : FL_setTray θ ρ S0 S1 S2 S3 x1 x2 f = some (r0, θ0, ρ0, S00, S10, S20, S30, f0)) : CtW l D yL_setTray cL_setTray 5 (some .int) [((0 : Nat), 10 , 13 , 13 ), ((0 : Nat), (10 : Nat), (17 : Nat), (15 : Nat)) ] rmL_setTray 1 6 [.ref aθ, .int x1, .int x2, .ref o] ([ouW D o f, rkW D aθ (aρ 0) pθ_spare aν pθ_text θ, rmW D aρ ρ, tlW D aν aS0 aS1 aS2 aS3 S0 S1 S2 S3].flatten) (fun v w => v = some (.int r0) ∧ ∃ (bS0 : Nat → Nat) (bS1 : Nat → Nat) (bS2 : Nat → Nat) (bS3 : Nat → Nat), w = [ouW D o f0, rkW D aθ (aρ 0) pθ_spare aν pθ_text θ0, rmW D aρ ρ0, tlW D aν bS0 bS1 bS2 bS3 S00 S10 S20 S30].flatten) := by
  unfold FL_setTray at hF
  refine CtW.of (own := RL) (lv := [(0, .ref aθ), (1, .int x1), (2, .int x2), (3, .ref o)]) (by decide +kernel) rfl (Nat.le_of_ble_eq_true rfl) rfl (fun X h hx hr => ?_)
  refine r_aload_n h 3 rfl rfl dL_setTray_0 ?_
  refine r_iconst (v := 0) h dL_setTray_1 (by decide) ?_
  refine r_aload_n h 0 rfl rfl dL_setTray_2 ?_
  refine r_iload_n h 1 rfl rfl dL_setTray_3 ?_
  refine r_iload_n h 2 rfl rfl dL_setTray_4 ?_
  cases e : FX3_setTray θ ρ S0 S1 S2 S3 x1 x2 with
  | none => rw [e] at hF; cases hF
  | some z =>
    rw [e] at hF
    cases z with
    | inl k =>
      dsimp only at hF
      by_cases h0 : k = 1
      · subst h0
        replace hF := o_pos rfl hF
        cases hF
        refine r_callCV (N0 := 4) (q0 := 0) (rest := [.int 0, .ref o]) (E := exn 1) (hh := [((0 : Nat), 10 , 13 , 13 ), ((0 : Nat), (10 : Nat), (17 : Nat), (15 : Nat)) ]) h hx [ouW D o f, rkW D aθ (aρ 0) pθ_spare aν pθ_text θ, rmW D aρ ρ, tlW D aν aS0 aS1 aS2 aS3 S0 S1 S2 S3] [1, 2, 3] [0] hdl_X3_setTray wm_538 dL_setTray_5 (TX3_setTray l hl0 D aθ pθ_spare pθ_text aρ aν aS0 aS1 aS2 aS3 θ ρ S0 S1 S2 S3 x1 x2 1 e) rfl rfl rfl (by decide) rfl rfl rfl ⟨rfl, rfl⟩ ⟨by decide, by decide⟩ (Nat.le_of_ble_eq_true rfl) ⟨by decide, by decide⟩ rfl [] ⟨0, 10, 13, 13⟩ [⟨0, 10, 17, 15⟩] rfl (fun z hz => nomatch hz) (by decide) (by decide) wm_529 1 (by decide) rfl 13 rfl (fun q => ?_)
        refine J.blk2 (ws' := [ouW D o f, rkW D aθ (aρ 0) pθ_spare aν pθ_text θ, rmW D aρ ρ, tlW D aν aS0 aS1 aS2 aS3 S0 S1 S2 S3].flatten) 4 (pkB [ouW D o f, rkW D aθ (aρ 0) pθ_spare aν pθ_text θ, rmW D aρ ρ, tlW D aν aS0 aS1 aS2 aS3 S0 S1 S2 S3] [0]) ([rkW D aθ (aρ 0) pθ_spare aν pθ_text θ, rmW D aρ ρ, tlW D aν aS0 aS1 aS2 aS3 S0 S1 S2 S3]) [0, 1, 2, 3] rfl rfl rfl rfl (by decide) ?_
        refine r_astore (lv' := [(4, .ref q), (0, .ref aθ), (1, .int x1), (2, .int x2), (3, .ref o)]) h dL_setTray_13 (by decide) rfl ?_
        refine r_iconst (v := 1) h dL_setTray_15 (by decide) ?_
        exact r_iret h hr dL_setTray_16 ⟨rfl, aS0, aS1, aS2, aS3, rfl⟩
      · replace hF := o_neg h0 hF
        by_cases h1 : k = 2
        · subst h1
          replace hF := o_pos rfl hF
          cases hF
          refine r_callCV (N0 := 4) (q0 := 0) (rest := [.int 0, .ref o]) (E := exn 2) (hh := [((0 : Nat), 10 , 13 , 13 ), ((0 : Nat), (10 : Nat), (17 : Nat), (15 : Nat)) ]) h hx [ouW D o f, rkW D aθ (aρ 0) pθ_spare aν pθ_text θ, rmW D aρ ρ, tlW D aν aS0 aS1 aS2 aS3 S0 S1 S2 S3] [1, 2, 3] [0] hdl_X3_setTray wm_538 dL_setTray_5 (TX3_setTray l hl0 D aθ pθ_spare pθ_text aρ aν aS0 aS1 aS2 aS3 θ ρ S0 S1 S2 S3 x1 x2 2 e) rfl rfl rfl (by decide) rfl rfl rfl ⟨rfl, rfl⟩ ⟨by decide, by decide⟩ (Nat.le_of_ble_eq_true rfl) ⟨by decide, by decide⟩ rfl [⟨0, 10, 13, 13⟩] ⟨0, 10, 17, 15⟩ [] rfl (fun z hz => by rw [List.mem_singleton.mp hz]; exact ⟨by decide, _, wm_529, fun s A hX => hX.2.2.2.2.1⟩) (by decide) (by decide) wm_530 2 (by decide) rfl 17 rfl (fun q => ?_)
          refine J.blk2 (ws' := [ouW D o f, rkW D aθ (aρ 0) pθ_spare aν pθ_text θ, rmW D aρ ρ, tlW D aν aS0 aS1 aS2 aS3 S0 S1 S2 S3].flatten) 4 (pkB [ouW D o f, rkW D aθ (aρ 0) pθ_spare aν pθ_text θ, rmW D aρ ρ, tlW D aν aS0 aS1 aS2 aS3 S0 S1 S2 S3] [0]) ([rkW D aθ (aρ 0) pθ_spare aν pθ_text θ, rmW D aρ ρ, tlW D aν aS0 aS1 aS2 aS3 S0 S1 S2 S3]) [0, 1, 2, 3] rfl rfl rfl rfl (by decide) ?_
          refine r_astore (lv' := [(4, .ref q), (0, .ref aθ), (1, .int x1), (2, .int x2), (3, .ref o)]) h dL_setTray_17 (by decide) rfl ?_
          refine r_iconst (v := 2) h dL_setTray_19 (by decide) ?_
          exact r_iret h hr dL_setTray_20 ⟨rfl, aS0, aS1, aS2, aS3, rfl⟩
        · replace hF := o_neg h1 hF
          cases hF
    | inr r =>
      dsimp only at hF
      refine r_callVB (N0 := 4) (q0 := 0) (rest := [.int 0, .ref o]) h [ouW D o f, rkW D aθ (aρ 0) pθ_spare aν pθ_text θ, rmW D aρ ρ, tlW D aν aS0 aS1 aS2 aS3 S0 S1 S2 S3] [1, 2, 3] [0] hdl_X3_setTray wm_538 dL_setTray_5 (CX3_setTray l D aθ pθ_spare pθ_text aρ aν aS0 aS1 aS2 aS3 θ ρ S0 S1 S2 S3 x1 x2 r.1 r.2.1 r.2.2.1 r.2.2.2.1 r.2.2.2.2.1 r.2.2.2.2.2.1 r.2.2.2.2.2.2 e) rfl rfl rfl (by decide) rfl rfl rfl ⟨rfl, rfl⟩ ⟨by decide, by decide⟩ (Nat.le_of_ble_eq_true rfl) ⟨by decide, by decide⟩ rfl (fun v w' hp => ?_)
      obtain ⟨rfl, nS0, nS1, nS2, nS3, rfl⟩ := hp
      refine J.blk2 (ws' := [ouW D o f, rkW D aθ (aρ 0) pθ_spare aν pθ_text r.2.1, rmW D aρ r.2.2.1, tlW D aν nS0 nS1 nS2 nS3 r.2.2.2.1 r.2.2.2.2.1 r.2.2.2.2.2.1 r.2.2.2.2.2.2].flatten) 4 (pkB [ouW D o f, rkW D aθ (aρ 0) pθ_spare aν pθ_text θ, rmW D aρ ρ, tlW D aν aS0 aS1 aS2 aS3 S0 S1 S2 S3] [0]) ([rkW D aθ (aρ 0) pθ_spare aν pθ_text r.2.1, rmW D aρ r.2.2.1, tlW D aν nS0 nS1 nS2 nS3 r.2.2.2.1 r.2.2.2.2.1 r.2.2.2.2.2.1 r.2.2.2.2.2.2]) [0, 1, 2, 3] rfl rfl rfl rfl (by decide) ?_
      refine r_i2l h dL_setTray_8 ?_
      refine r_last (ws' := [ouW D o (vp_updL f ((0 : Int32)).toNatClampNeg r.1.toInt64), rkW D aθ (aρ 0) pθ_spare aν pθ_text r.2.1, rmW D aρ r.2.2.1, tlW D aν nS0 nS1 nS2 nS3 r.2.2.2.1 r.2.2.2.2.1 r.2.2.2.2.2.1 r.2.2.2.2.2.2].flatten) h 0 rfl (show ¬ (_ ∨ _) by decide) rfl dL_setTray_9 ?_
      refine r_goto h 21 dL_setTray_10 (by decide) ?_
      refine r_iconst (v := 0) h dL_setTray_21 (by decide) ?_
      refine J.widen (k1 := 1) (n1 := 6) (by decide) (by decide) ?_
      cases hF
      exact r_iret h hr dL_setTray_22 ⟨rfl, nS0, nS1, nS2, nS3, rfl⟩
def FL_setLevel (θ : Int32) (ρ : RS) (S0 : RS) (S1 : RS) (S2 : RS) (S3 : RS) (x1 : Int32) (f : Nat → Int64) : Option (Int32 × Int32 × RS × RS × RS × RS × RS × (Nat → Int64)) :=
  match FX3_setLevel θ ρ S0 S1 S2 S3 x1 with
  | none => none
  | some (.inl k) => if k = 2 then some ((1 : Int32), θ, ρ, S0, S1, S2, S3, f) else none
  | some (.inr r) => some ((0 : Int32), r.2.1, r.2.2.1, r.2.2.2.1, r.2.2.2.2.1, r.2.2.2.2.2.1, r.2.2.2.2.2.2, vp_updL f ((0 : Int32)).toNatClampNeg r.1.toInt64)
abbrev rmL_setLevel : Room := { frames := 8, cells := 1, slots := 6, locals := 146 }
set_option maxHeartbeats 4000000 in
set_option maxRecDepth 100000 in
theorem CL_setLevel (l : Launch) (hl0 : l.stackTraces = false) (D : va_G) (aθ : Nat) (pθ_spare : Nat) (pθ_text : Nat) (aρ : Nat → Nat) (aν : Nat) (aS0 : Nat → Nat) (aS1 : Nat → Nat) (aS2 : Nat → Nat) (aS3 : Nat → Nat) (o : Nat) (θ : Int32) (ρ : RS) (S0 : RS) (S1 : RS) (S2 : RS) (S3 : RS) (x1 : Int32) (f : Nat → Int64) (r0 : Int32) (θ0 : Int32) (ρ0 : RS) (S00 : RS) (S10 : RS) (S20 : RS) (S30 : RS) (f0 : Nat → Int64) (hF : FL_setLevel θ ρ S0 S1 S2 S3 x1 f = some (r0, θ0, ρ0, S00, S10, S20, S30, f0)) : CtW l D yL_setLevel cL_setLevel 4 (some .int) [((0 : Nat), 9 , 12 , 15 )] rmL_setLevel 1 6 [.ref aθ, .int x1, .ref o] ([ouW D o f, rkW D aθ (aρ 0) pθ_spare aν pθ_text θ, rmW D aρ ρ, tlW D aν aS0 aS1 aS2 aS3 S0 S1 S2 S3].flatten) (fun v w => v = some (.int r0) ∧ ∃ (bS0 : Nat → Nat) (bS1 : Nat → Nat) (bS2 : Nat → Nat) (bS3 : Nat → Nat), w = [ouW D o f0, rkW D aθ (aρ 0) pθ_spare aν pθ_text θ0, rmW D aρ ρ0, tlW D aν bS0 bS1 bS2 bS3 S00 S10 S20 S30].flatten) := by
  unfold FL_setLevel at hF
  refine CtW.of (own := RL) (lv := [(0, .ref aθ), (1, .int x1), (2, .ref o)]) (by decide +kernel) rfl (Nat.le_of_ble_eq_true rfl) rfl (fun X h hx hr => ?_)
  refine r_aload_n h 2 rfl rfl dL_setLevel_0 ?_
  refine r_iconst (v := 0) h dL_setLevel_1 (by decide) ?_
  refine r_aload_n h 0 rfl rfl dL_setLevel_2 ?_
  refine r_iload_n h 1 rfl rfl dL_setLevel_3 ?_
  cases e : FX3_setLevel θ ρ S0 S1 S2 S3 x1 with
  | none => rw [e] at hF; cases hF
  | some z =>
    rw [e] at hF
    cases z with
    | inl k =>
      dsimp only at hF
      by_cases h0 : k = 2
      · subst h0
        replace hF := o_pos rfl hF
        cases hF
        refine r_callCV (N0 := 4) (q0 := 0) (rest := [.int 0, .ref o]) (E := exn 2) (hh := [((0 : Nat), 9 , 12 , 15 )]) h hx [ouW D o f, rkW D aθ (aρ 0) pθ_spare aν pθ_text θ, rmW D aρ ρ, tlW D aν aS0 aS1 aS2 aS3 S0 S1 S2 S3] [1, 2, 3] [0] hdl_X3_setLevel wm_545 dL_setLevel_4 (TX3_setLevel l hl0 D aθ pθ_spare pθ_text aρ aν aS0 aS1 aS2 aS3 θ ρ S0 S1 S2 S3 x1 2 e) rfl rfl rfl (by decide) rfl rfl rfl ⟨rfl, rfl⟩ ⟨by decide, by decide⟩ (Nat.le_of_ble_eq_true rfl) ⟨by decide, by decide⟩ rfl [] ⟨0, 9, 12, 15⟩ [] rfl (fun z hz => nomatch hz) (by decide) (by decide) wm_530 2 (by decide) rfl 12 rfl (fun q => ?_)
        refine J.blk2 (ws' := [ouW D o f, rkW D aθ (aρ 0) pθ_spare aν pθ_text θ, rmW D aρ ρ, tlW D aν aS0 aS1 aS2 aS3 S0 S1 S2 S3].flatten) 4 (pkB [ouW D o f, rkW D aθ (aρ 0) pθ_spare aν pθ_text θ, rmW D aρ ρ, tlW D aν aS0 aS1 aS2 aS3 S0 S1 S2 S3] [0]) ([rkW D aθ (aρ 0) pθ_spare aν pθ_text θ, rmW D aρ ρ, tlW D aν aS0 aS1 aS2 aS3 S0 S1 S2 S3]) [0, 1, 2, 3] rfl rfl rfl rfl (by decide) ?_
        refine r_astore_n (lv' := [(3, .ref q), (0, .ref aθ), (1, .int x1), (2, .ref o)]) h rfl dL_setLevel_12 (by decide) rfl ?_
        refine r_iconst (v := 1) h dL_setLevel_13 (by decide) ?_
        exact r_iret h hr dL_setLevel_14 ⟨rfl, aS0, aS1, aS2, aS3, rfl⟩
      · replace hF := o_neg h0 hF
        cases hF
    | inr r =>
      dsimp only at hF
      refine r_callVB (N0 := 4) (q0 := 0) (rest := [.int 0, .ref o]) h [ouW D o f, rkW D aθ (aρ 0) pθ_spare aν pθ_text θ, rmW D aρ ρ, tlW D aν aS0 aS1 aS2 aS3 S0 S1 S2 S3] [1, 2, 3] [0] hdl_X3_setLevel wm_545 dL_setLevel_4 (CX3_setLevel l D aθ pθ_spare pθ_text aρ aν aS0 aS1 aS2 aS3 θ ρ S0 S1 S2 S3 x1 r.1 r.2.1 r.2.2.1 r.2.2.2.1 r.2.2.2.2.1 r.2.2.2.2.2.1 r.2.2.2.2.2.2 e) rfl rfl rfl (by decide) rfl rfl rfl ⟨rfl, rfl⟩ ⟨by decide, by decide⟩ (Nat.le_of_ble_eq_true rfl) ⟨by decide, by decide⟩ rfl (fun v w' hp => ?_)
      obtain ⟨rfl, nS0, nS1, nS2, nS3, rfl⟩ := hp
      refine J.blk2 (ws' := [ouW D o f, rkW D aθ (aρ 0) pθ_spare aν pθ_text r.2.1, rmW D aρ r.2.2.1, tlW D aν nS0 nS1 nS2 nS3 r.2.2.2.1 r.2.2.2.2.1 r.2.2.2.2.2.1 r.2.2.2.2.2.2].flatten) 4 (pkB [ouW D o f, rkW D aθ (aρ 0) pθ_spare aν pθ_text θ, rmW D aρ ρ, tlW D aν aS0 aS1 aS2 aS3 S0 S1 S2 S3] [0]) ([rkW D aθ (aρ 0) pθ_spare aν pθ_text r.2.1, rmW D aρ r.2.2.1, tlW D aν nS0 nS1 nS2 nS3 r.2.2.2.1 r.2.2.2.2.1 r.2.2.2.2.2.1 r.2.2.2.2.2.2]) [0, 1, 2, 3] rfl rfl rfl rfl (by decide) ?_
      refine r_i2l h dL_setLevel_7 ?_
      refine r_last (ws' := [ouW D o (vp_updL f ((0 : Int32)).toNatClampNeg r.1.toInt64), rkW D aθ (aρ 0) pθ_spare aν pθ_text r.2.1, rmW D aρ r.2.2.1, tlW D aν nS0 nS1 nS2 nS3 r.2.2.2.1 r.2.2.2.2.1 r.2.2.2.2.2.1 r.2.2.2.2.2.2].flatten) h 0 rfl (show ¬ (_ ∨ _) by decide) rfl dL_setLevel_8 ?_
      refine r_goto h 15 dL_setLevel_9 (by decide) ?_
      refine r_iconst (v := 0) h dL_setLevel_15 (by decide) ?_
      refine J.widen (k1 := 1) (n1 := 6) (by decide) (by decide) ?_
      cases hF
      exact r_iret h hr dL_setLevel_16 ⟨rfl, nS0, nS1, nS2, nS3, rfl⟩
def FL_addMachine (θ : Int32) (ρ : RS) (S0 : RS) (S1 : RS) (S2 : RS) (S3 : RS) (x1 : Int32) (x2 : Int32) (x3 : Int32) (x4 : Int32) (f : Nat → Int64) : Option (Int32 × Int32 × RS × RS × RS × RS × RS × (Nat → Int64)) :=
  match FX3_addMachine θ ρ S0 S1 S2 S3 x1 x2 x3 x4 with
  | none => none
  | some (.inl k) => if k = 2 then some ((1 : Int32), θ, ρ, S0, S1, S2, S3, f) else if k = 3 then some ((2 : Int32), θ, ρ, S0, S1, S2, S3, f) else none
  | some (.inr r) => some ((0 : Int32), r.2.1, r.2.2.1, r.2.2.2.1, r.2.2.2.2.1, r.2.2.2.2.2.1, r.2.2.2.2.2.2, vp_updL f ((0 : Int32)).toNatClampNeg r.1.toInt64)
abbrev rmL_addMachine : Room := { frames := 8, cells := 1, slots := 6, locals := 149 }
set_option maxHeartbeats 4000000 in
set_option maxRecDepth 100000 in
theorem CL_addMachine (l : Launch) (hl0 : l.stackTraces = false) (D : va_G) (aθ : Nat) (pθ_spare : Nat) (pθ_text : Nat) (aρ : Nat → Nat) (aν : Nat) (aS0 : Nat → Nat) (aS1 : Nat → Nat) (aS2 : Nat → Nat) (aS3 : Nat → Nat) (o : Nat) (θ : Int32) (ρ : RS) (S0 : RS) (S1 : RS) (S2 : RS) (S3 : RS) (x1 : Int32) (x2 : Int32) (x3 : Int32) (x4 : Int32) (f : Nat → Int64) (r0 : Int32) (θ0 : Int32) (ρ0 : RS) (S00 : RS) (S10 : RS) (S20 : RS) (S30 : RS) (f0 : Nat → Int64) (hF : FL_addMachine θ ρ S0 S1 S2 S3 x1 x2 x3 x4 f = some (r0, θ0, ρ0, S00, S10, S20, S30, f0)) : CtW l D yL_addMachine cL_addMachine 7 (some .int) [((0 : Nat), 14 , 17 , 15 ), ((0 : Nat), (14 : Nat), (21 : Nat), (28 : Nat)) ] rmL_addMachine 1 6 [.ref aθ, .int x1, .int x2, .int x3, .int x4, .ref o] ([ouW D o f, rkW D aθ (aρ 0) pθ_spare aν pθ_text θ, rmW D aρ ρ, tlW D aν aS0 aS1 aS2 aS3 S0 S1 S2 S3].flatten) (fun v w => v = some (.int r0) ∧ ∃ (bS0 : Nat → Nat) (bS1 : Nat → Nat) (bS2 : Nat → Nat) (bS3 : Nat → Nat), w = [ouW D o f0, rkW D aθ (aρ 0) pθ_spare aν pθ_text θ0, rmW D aρ ρ0, tlW D aν bS0 bS1 bS2 bS3 S00 S10 S20 S30].flatten) := by
  unfold FL_addMachine at hF
  refine CtW.of (own := RL) (lv := [(0, .ref aθ), (1, .int x1), (2, .int x2), (3, .int x3), (4, .int x4), (5, .ref o)]) (by decide +kernel) rfl (Nat.le_of_ble_eq_true rfl) rfl (fun X h hx hr => ?_)
  refine r_aload h 5 rfl dL_addMachine_0 ?_
  refine r_iconst (v := 0) h dL_addMachine_2 (by decide) ?_
  refine r_aload_n h 0 rfl rfl dL_addMachine_3 ?_
  refine r_iload_n h 1 rfl rfl dL_addMachine_4 ?_
  refine r_iload_n h 2 rfl rfl dL_addMachine_5 ?_
  refine r_iload_n h 3 rfl rfl dL_addMachine_6 ?_
  refine r_iload h 4 rfl dL_addMachine_7 ?_
  cases e : FX3_addMachine θ ρ S0 S1 S2 S3 x1 x2 x3 x4 with
  | none => rw [e] at hF; cases hF
  | some z =>
    rw [e] at hF
    cases z with
    | inl k =>
      dsimp only at hF
      by_cases h0 : k = 2
      · subst h0
        replace hF := o_pos rfl hF
        cases hF
        refine r_callCV (N0 := 4) (q0 := 0) (rest := [.int 0, .ref o]) (E := exn 2) (hh := [((0 : Nat), 14 , 17 , 15 ), ((0 : Nat), (14 : Nat), (21 : Nat), (28 : Nat)) ]) h hx [ouW D o f, rkW D aθ (aρ 0) pθ_spare aν pθ_text θ, rmW D aρ ρ, tlW D aν aS0 aS1 aS2 aS3 S0 S1 S2 S3] [1, 2, 3] [0] hdl_X3_addMachine wm_553 dL_addMachine_9 (TX3_addMachine l hl0 D aθ pθ_spare pθ_text aρ aν aS0 aS1 aS2 aS3 θ ρ S0 S1 S2 S3 x1 x2 x3 x4 2 e) rfl rfl rfl (by decide) rfl rfl rfl ⟨rfl, rfl⟩ ⟨by decide, by decide⟩ (Nat.le_of_ble_eq_true rfl) ⟨by decide, by decide⟩ rfl [] ⟨0, 14, 17, 15⟩ [⟨0, 14, 21, 28⟩] rfl (fun z hz => nomatch hz) (by decide) (by decide) wm_530 2 (by decide) rfl 17 rfl (fun q => ?_)
        refine J.blk2 (ws' := [ouW D o f, rkW D aθ (aρ 0) pθ_spare aν pθ_text θ, rmW D aρ ρ, tlW D aν aS0 aS1 aS2 aS3 S0 S1 S2 S3].flatten) 4 (pkB [ouW D o f, rkW D aθ (aρ 0) pθ_spare aν pθ_text θ, rmW D aρ ρ, tlW D aν aS0 aS1 aS2 aS3 S0 S1 S2 S3] [0]) ([rkW D aθ (aρ 0) pθ_spare aν pθ_text θ, rmW D aρ ρ, tlW D aν aS0 aS1 aS2 aS3 S0 S1 S2 S3]) [0, 1, 2, 3] rfl rfl rfl rfl (by decide) ?_
        refine r_astore (lv' := [(6, .ref q), (0, .ref aθ), (1, .int x1), (2, .int x2), (3, .int x3), (4, .int x4), (5, .ref o)]) h dL_addMachine_17 (by decide) rfl ?_
        refine r_iconst (v := 1) h dL_addMachine_19 (by decide) ?_
        exact r_iret h hr dL_addMachine_20 ⟨rfl, aS0, aS1, aS2, aS3, rfl⟩
      · replace hF := o_neg h0 hF
        by_cases h1 : k = 3
        · subst h1
          replace hF := o_pos rfl hF
          cases hF
          refine r_callCV (N0 := 4) (q0 := 0) (rest := [.int 0, .ref o]) (E := exn 3) (hh := [((0 : Nat), 14 , 17 , 15 ), ((0 : Nat), (14 : Nat), (21 : Nat), (28 : Nat)) ]) h hx [ouW D o f, rkW D aθ (aρ 0) pθ_spare aν pθ_text θ, rmW D aρ ρ, tlW D aν aS0 aS1 aS2 aS3 S0 S1 S2 S3] [1, 2, 3] [0] hdl_X3_addMachine wm_553 dL_addMachine_9 (TX3_addMachine l hl0 D aθ pθ_spare pθ_text aρ aν aS0 aS1 aS2 aS3 θ ρ S0 S1 S2 S3 x1 x2 x3 x4 3 e) rfl rfl rfl (by decide) rfl rfl rfl ⟨rfl, rfl⟩ ⟨by decide, by decide⟩ (Nat.le_of_ble_eq_true rfl) ⟨by decide, by decide⟩ rfl [⟨0, 14, 17, 15⟩] ⟨0, 14, 21, 28⟩ [] rfl (fun z hz => by rw [List.mem_singleton.mp hz]; exact ⟨by decide, _, wm_530, fun s A hX => hX.2.2.2.2.2.2.2.1⟩) (by decide) (by decide) wm_552 3 (by decide) rfl 21 rfl (fun q => ?_)
          refine J.blk2 (ws' := [ouW D o f, rkW D aθ (aρ 0) pθ_spare aν pθ_text θ, rmW D aρ ρ, tlW D aν aS0 aS1 aS2 aS3 S0 S1 S2 S3].flatten) 4 (pkB [ouW D o f, rkW D aθ (aρ 0) pθ_spare aν pθ_text θ, rmW D aρ ρ, tlW D aν aS0 aS1 aS2 aS3 S0 S1 S2 S3] [0]) ([rkW D aθ (aρ 0) pθ_spare aν pθ_text θ, rmW D aρ ρ, tlW D aν aS0 aS1 aS2 aS3 S0 S1 S2 S3]) [0, 1, 2, 3] rfl rfl rfl rfl (by decide) ?_
          refine r_astore (lv' := [(6, .ref q), (0, .ref aθ), (1, .int x1), (2, .int x2), (3, .int x3), (4, .int x4), (5, .ref o)]) h dL_addMachine_21 (by decide) rfl ?_
          refine r_iconst (v := 2) h dL_addMachine_23 (by decide) ?_
          exact r_iret h hr dL_addMachine_24 ⟨rfl, aS0, aS1, aS2, aS3, rfl⟩
        · replace hF := o_neg h1 hF
          cases hF
    | inr r =>
      dsimp only at hF
      refine r_callVB (N0 := 4) (q0 := 0) (rest := [.int 0, .ref o]) h [ouW D o f, rkW D aθ (aρ 0) pθ_spare aν pθ_text θ, rmW D aρ ρ, tlW D aν aS0 aS1 aS2 aS3 S0 S1 S2 S3] [1, 2, 3] [0] hdl_X3_addMachine wm_553 dL_addMachine_9 (CX3_addMachine l D aθ pθ_spare pθ_text aρ aν aS0 aS1 aS2 aS3 θ ρ S0 S1 S2 S3 x1 x2 x3 x4 r.1 r.2.1 r.2.2.1 r.2.2.2.1 r.2.2.2.2.1 r.2.2.2.2.2.1 r.2.2.2.2.2.2 e) rfl rfl rfl (by decide) rfl rfl rfl ⟨rfl, rfl⟩ ⟨by decide, by decide⟩ (Nat.le_of_ble_eq_true rfl) ⟨by decide, by decide⟩ rfl (fun v w' hp => ?_)
      obtain ⟨rfl, nS0, nS1, nS2, nS3, rfl⟩ := hp
      refine J.blk2 (ws' := [ouW D o f, rkW D aθ (aρ 0) pθ_spare aν pθ_text r.2.1, rmW D aρ r.2.2.1, tlW D aν nS0 nS1 nS2 nS3 r.2.2.2.1 r.2.2.2.2.1 r.2.2.2.2.2.1 r.2.2.2.2.2.2].flatten) 4 (pkB [ouW D o f, rkW D aθ (aρ 0) pθ_spare aν pθ_text θ, rmW D aρ ρ, tlW D aν aS0 aS1 aS2 aS3 S0 S1 S2 S3] [0]) ([rkW D aθ (aρ 0) pθ_spare aν pθ_text r.2.1, rmW D aρ r.2.2.1, tlW D aν nS0 nS1 nS2 nS3 r.2.2.2.1 r.2.2.2.2.1 r.2.2.2.2.2.1 r.2.2.2.2.2.2]) [0, 1, 2, 3] rfl rfl rfl rfl (by decide) ?_
      refine r_i2l h dL_addMachine_12 ?_
      refine r_last (ws' := [ouW D o (vp_updL f ((0 : Int32)).toNatClampNeg r.1.toInt64), rkW D aθ (aρ 0) pθ_spare aν pθ_text r.2.1, rmW D aρ r.2.2.1, tlW D aν nS0 nS1 nS2 nS3 r.2.2.2.1 r.2.2.2.2.1 r.2.2.2.2.2.1 r.2.2.2.2.2.2].flatten) h 0 rfl (show ¬ (_ ∨ _) by decide) rfl dL_addMachine_13 ?_
      refine r_goto h 25 dL_addMachine_14 (by decide) ?_
      refine r_iconst (v := 0) h dL_addMachine_25 (by decide) ?_
      refine J.widen (k1 := 1) (n1 := 6) (by decide) (by decide) ?_
      cases hF
      exact r_iret h hr dL_addMachine_26 ⟨rfl, nS0, nS1, nS2, nS3, rfl⟩
def FL_addCable (θ : Int32) (ρ : RS) (S0 : RS) (S1 : RS) (S2 : RS) (S3 : RS) (x1 : Int32) (x2 : Int32) (x3 : Int32) (f : Nat → Int64) : Option (Int32 × Int32 × RS × RS × RS × RS × RS × (Nat → Int64)) :=
  match FX3_addCable θ ρ S0 S1 S2 S3 x1 x2 x3 with
  | none => none
  | some (.inl k) => if k = 1 then some ((1 : Int32), θ, ρ, S0, S1, S2, S3, f) else if k = 2 then some ((2 : Int32), θ, ρ, S0, S1, S2, S3, f) else if k = 3 then some ((3 : Int32), θ, ρ, S0, S1, S2, S3, f) else none
  | some (.inr r) => some ((0 : Int32), r.2.1, r.2.2.1, r.2.2.2.1, r.2.2.2.2.1, r.2.2.2.2.2.1, r.2.2.2.2.2.2, vp_updL f ((0 : Int32)).toNatClampNeg r.1.toInt64)
abbrev rmL_addCable : Room := { frames := 8, cells := 1, slots := 6, locals := 148 }
set_option maxHeartbeats 4000000 in
set_option maxRecDepth 100000 in
theorem CL_addCable (l : Launch) (hl0 : l.stackTraces = false) (D : va_G) (aθ : Nat) (pθ_spare : Nat) (pθ_text : Nat) (aρ : Nat → Nat) (aν : Nat) (aS0 : Nat → Nat) (aS1 : Nat → Nat) (aS2 : Nat → Nat) (aS3 : Nat → Nat) (o : Nat) (θ : Int32) (ρ : RS) (S0 : RS) (S1 : RS) (S2 : RS) (S3 : RS) (x1 : Int32) (x2 : Int32) (x3 : Int32) (f : Nat → Int64) (r0 : Int32) (θ0 : Int32) (ρ0 : RS) (S00 : RS) (S10 : RS) (S20 : RS) (S30 : RS) (f0 : Nat → Int64) (hF : FL_addCable θ ρ S0 S1 S2 S3 x1 x2 x3 f = some (r0, θ0, ρ0, S00, S10, S20, S30, f0)) : CtW l D yL_addCable cL_addCable 6 (some .int) [((0 : Nat), 12 , 15 , 13 ), ((0 : Nat), (12 : Nat), (19 : Nat), (15 : Nat)) , ((0 : Nat), (12 : Nat), (23 : Nat), (28 : Nat)) ] rmL_addCable 1 6 [.ref aθ, .int x1, .int x2, .int x3, .ref o] ([ouW D o f, rkW D aθ (aρ 0) pθ_spare aν pθ_text θ, rmW D aρ ρ, tlW D aν aS0 aS1 aS2 aS3 S0 S1 S2 S3].flatten) (fun v w => v = some (.int r0) ∧ ∃ (bS0 : Nat → Nat) (bS1 : Nat → Nat) (bS2 : Nat → Nat) (bS3 : Nat → Nat), w = [ouW D o f0, rkW D aθ (aρ 0) pθ_spare aν pθ_text θ0, rmW D aρ ρ0, tlW D aν bS0 bS1 bS2 bS3 S00 S10 S20 S30].flatten) := by
  unfold FL_addCable at hF
  refine CtW.of (own := RL) (lv := [(0, .ref aθ), (1, .int x1), (2, .int x2), (3, .int x3), (4, .ref o)]) (by decide +kernel) rfl (Nat.le_of_ble_eq_true rfl) rfl (fun X h hx hr => ?_)
  refine r_aload h 4 rfl dL_addCable_0 ?_
  refine r_iconst (v := 0) h dL_addCable_2 (by decide) ?_
  refine r_aload_n h 0 rfl rfl dL_addCable_3 ?_
  refine r_iload_n h 1 rfl rfl dL_addCable_4 ?_
  refine r_iload_n h 2 rfl rfl dL_addCable_5 ?_
  refine r_iload_n h 3 rfl rfl dL_addCable_6 ?_
  cases e : FX3_addCable θ ρ S0 S1 S2 S3 x1 x2 x3 with
  | none => rw [e] at hF; cases hF
  | some z =>
    rw [e] at hF
    cases z with
    | inl k =>
      dsimp only at hF
      by_cases h0 : k = 1
      · subst h0
        replace hF := o_pos rfl hF
        cases hF
        refine r_callCV (N0 := 4) (q0 := 0) (rest := [.int 0, .ref o]) (E := exn 1) (hh := [((0 : Nat), 12 , 15 , 13 ), ((0 : Nat), (12 : Nat), (19 : Nat), (15 : Nat)) , ((0 : Nat), (12 : Nat), (23 : Nat), (28 : Nat)) ]) h hx [ouW D o f, rkW D aθ (aρ 0) pθ_spare aν pθ_text θ, rmW D aρ ρ, tlW D aν aS0 aS1 aS2 aS3 S0 S1 S2 S3] [1, 2, 3] [0] hdl_X3_addCable wm_583 dL_addCable_7 (TX3_addCable l hl0 D aθ pθ_spare pθ_text aρ aν aS0 aS1 aS2 aS3 θ ρ S0 S1 S2 S3 x1 x2 x3 1 e) rfl rfl rfl (by decide) rfl rfl rfl ⟨rfl, rfl⟩ ⟨by decide, by decide⟩ (Nat.le_of_ble_eq_true rfl) ⟨by decide, by decide⟩ rfl [] ⟨0, 12, 15, 13⟩ [⟨0, 12, 19, 15⟩, ⟨0, 12, 23, 28⟩] rfl (fun z hz => nomatch hz) (by decide) (by decide) wm_529 1 (by decide) rfl 15 rfl (fun q => ?_)
        refine J.blk2 (ws' := [ouW D o f, rkW D aθ (aρ 0) pθ_spare aν pθ_text θ, rmW D aρ ρ, tlW D aν aS0 aS1 aS2 aS3 S0 S1 S2 S3].flatten) 4 (pkB [ouW D o f, rkW D aθ (aρ 0) pθ_spare aν pθ_text θ, rmW D aρ ρ, tlW D aν aS0 aS1 aS2 aS3 S0 S1 S2 S3] [0]) ([rkW D aθ (aρ 0) pθ_spare aν pθ_text θ, rmW D aρ ρ, tlW D aν aS0 aS1 aS2 aS3 S0 S1 S2 S3]) [0, 1, 2, 3] rfl rfl rfl rfl (by decide) ?_
        refine r_astore (lv' := [(5, .ref q), (0, .ref aθ), (1, .int x1), (2, .int x2), (3, .int x3), (4, .ref o)]) h dL_addCable_15 (by decide) rfl ?_
        refine r_iconst (v := 1) h dL_addCable_17 (by decide) ?_
        exact r_iret h hr dL_addCable_18 ⟨rfl, aS0, aS1, aS2, aS3, rfl⟩
      · replace hF := o_neg h0 hF
        by_cases h1 : k = 2
        · subst h1
          replace hF := o_pos rfl hF
          cases hF
          refine r_callCV (N0 := 4) (q0 := 0) (rest := [.int 0, .ref o]) (E := exn 2) (hh := [((0 : Nat), 12 , 15 , 13 ), ((0 : Nat), (12 : Nat), (19 : Nat), (15 : Nat)) , ((0 : Nat), (12 : Nat), (23 : Nat), (28 : Nat)) ]) h hx [ouW D o f, rkW D aθ (aρ 0) pθ_spare aν pθ_text θ, rmW D aρ ρ, tlW D aν aS0 aS1 aS2 aS3 S0 S1 S2 S3] [1, 2, 3] [0] hdl_X3_addCable wm_583 dL_addCable_7 (TX3_addCable l hl0 D aθ pθ_spare pθ_text aρ aν aS0 aS1 aS2 aS3 θ ρ S0 S1 S2 S3 x1 x2 x3 2 e) rfl rfl rfl (by decide) rfl rfl rfl ⟨rfl, rfl⟩ ⟨by decide, by decide⟩ (Nat.le_of_ble_eq_true rfl) ⟨by decide, by decide⟩ rfl [⟨0, 12, 15, 13⟩] ⟨0, 12, 19, 15⟩ [⟨0, 12, 23, 28⟩] rfl (fun z hz => by rw [List.mem_singleton.mp hz]; exact ⟨by decide, _, wm_529, fun s A hX => hX.2.2.2.2.1⟩) (by decide) (by decide) wm_530 2 (by decide) rfl 19 rfl (fun q => ?_)
          refine J.blk2 (ws' := [ouW D o f, rkW D aθ (aρ 0) pθ_spare aν pθ_text θ, rmW D aρ ρ, tlW D aν aS0 aS1 aS2 aS3 S0 S1 S2 S3].flatten) 4 (pkB [ouW D o f, rkW D aθ (aρ 0) pθ_spare aν pθ_text θ, rmW D aρ ρ, tlW D aν aS0 aS1 aS2 aS3 S0 S1 S2 S3] [0]) ([rkW D aθ (aρ 0) pθ_spare aν pθ_text θ, rmW D aρ ρ, tlW D aν aS0 aS1 aS2 aS3 S0 S1 S2 S3]) [0, 1, 2, 3] rfl rfl rfl rfl (by decide) ?_
          refine r_astore (lv' := [(5, .ref q), (0, .ref aθ), (1, .int x1), (2, .int x2), (3, .int x3), (4, .ref o)]) h dL_addCable_19 (by decide) rfl ?_
          refine r_iconst (v := 2) h dL_addCable_21 (by decide) ?_
          exact r_iret h hr dL_addCable_22 ⟨rfl, aS0, aS1, aS2, aS3, rfl⟩
        · replace hF := o_neg h1 hF
          by_cases h2 : k = 3
          · subst h2
            replace hF := o_pos rfl hF
            cases hF
            refine r_callCV (N0 := 4) (q0 := 0) (rest := [.int 0, .ref o]) (E := exn 3) (hh := [((0 : Nat), 12 , 15 , 13 ), ((0 : Nat), (12 : Nat), (19 : Nat), (15 : Nat)) , ((0 : Nat), (12 : Nat), (23 : Nat), (28 : Nat)) ]) h hx [ouW D o f, rkW D aθ (aρ 0) pθ_spare aν pθ_text θ, rmW D aρ ρ, tlW D aν aS0 aS1 aS2 aS3 S0 S1 S2 S3] [1, 2, 3] [0] hdl_X3_addCable wm_583 dL_addCable_7 (TX3_addCable l hl0 D aθ pθ_spare pθ_text aρ aν aS0 aS1 aS2 aS3 θ ρ S0 S1 S2 S3 x1 x2 x3 3 e) rfl rfl rfl (by decide) rfl rfl rfl ⟨rfl, rfl⟩ ⟨by decide, by decide⟩ (Nat.le_of_ble_eq_true rfl) ⟨by decide, by decide⟩ rfl [⟨0, 12, 15, 13⟩, ⟨0, 12, 19, 15⟩] ⟨0, 12, 23, 28⟩ [] rfl (fun z hz => by rcases List.mem_cons.mp hz with rfl | hz; exact ⟨by decide, _, wm_529, fun s A hX => hX.2.2.2.2.2.1⟩; rw [List.mem_singleton.mp hz]; exact ⟨by decide, _, wm_530, fun s A hX => hX.2.2.2.2.2.2.2.1⟩) (by decide) (by decide) wm_552 3 (by decide) rfl 23 rfl (fun q => ?_)
            refine J.blk2 (ws' := [ouW D o f, rkW D aθ (aρ 0) pθ_spare aν pθ_text θ, rmW D aρ ρ, tlW D aν aS0 aS1 aS2 aS3 S0 S1 S2 S3].flatten) 4 (pkB [ouW D o f, rkW D aθ (aρ 0) pθ_spare aν pθ_text θ, rmW D aρ ρ, tlW D aν aS0 aS1 aS2 aS3 S0 S1 S2 S3] [0]) ([rkW D aθ (aρ 0) pθ_spare aν pθ_text θ, rmW D aρ ρ, tlW D aν aS0 aS1 aS2 aS3 S0 S1 S2 S3]) [0, 1, 2, 3] rfl rfl rfl rfl (by decide) ?_
            refine r_astore (lv' := [(5, .ref q), (0, .ref aθ), (1, .int x1), (2, .int x2), (3, .int x3), (4, .ref o)]) h dL_addCable_23 (by decide) rfl ?_
            refine r_iconst (v := 3) h dL_addCable_25 (by decide) ?_
            exact r_iret h hr dL_addCable_26 ⟨rfl, aS0, aS1, aS2, aS3, rfl⟩
          · replace hF := o_neg h2 hF
            cases hF
    | inr r =>
      dsimp only at hF
      refine r_callVB (N0 := 4) (q0 := 0) (rest := [.int 0, .ref o]) h [ouW D o f, rkW D aθ (aρ 0) pθ_spare aν pθ_text θ, rmW D aρ ρ, tlW D aν aS0 aS1 aS2 aS3 S0 S1 S2 S3] [1, 2, 3] [0] hdl_X3_addCable wm_583 dL_addCable_7 (CX3_addCable l D aθ pθ_spare pθ_text aρ aν aS0 aS1 aS2 aS3 θ ρ S0 S1 S2 S3 x1 x2 x3 r.1 r.2.1 r.2.2.1 r.2.2.2.1 r.2.2.2.2.1 r.2.2.2.2.2.1 r.2.2.2.2.2.2 e) rfl rfl rfl (by decide) rfl rfl rfl ⟨rfl, rfl⟩ ⟨by decide, by decide⟩ (Nat.le_of_ble_eq_true rfl) ⟨by decide, by decide⟩ rfl (fun v w' hp => ?_)
      obtain ⟨rfl, nS0, nS1, nS2, nS3, rfl⟩ := hp
      refine J.blk2 (ws' := [ouW D o f, rkW D aθ (aρ 0) pθ_spare aν pθ_text r.2.1, rmW D aρ r.2.2.1, tlW D aν nS0 nS1 nS2 nS3 r.2.2.2.1 r.2.2.2.2.1 r.2.2.2.2.2.1 r.2.2.2.2.2.2].flatten) 4 (pkB [ouW D o f, rkW D aθ (aρ 0) pθ_spare aν pθ_text θ, rmW D aρ ρ, tlW D aν aS0 aS1 aS2 aS3 S0 S1 S2 S3] [0]) ([rkW D aθ (aρ 0) pθ_spare aν pθ_text r.2.1, rmW D aρ r.2.2.1, tlW D aν nS0 nS1 nS2 nS3 r.2.2.2.1 r.2.2.2.2.1 r.2.2.2.2.2.1 r.2.2.2.2.2.2]) [0, 1, 2, 3] rfl rfl rfl rfl (by decide) ?_
      refine r_i2l h dL_addCable_10 ?_
      refine r_last (ws' := [ouW D o (vp_updL f ((0 : Int32)).toNatClampNeg r.1.toInt64), rkW D aθ (aρ 0) pθ_spare aν pθ_text r.2.1, rmW D aρ r.2.2.1, tlW D aν nS0 nS1 nS2 nS3 r.2.2.2.1 r.2.2.2.2.1 r.2.2.2.2.2.1 r.2.2.2.2.2.2].flatten) h 0 rfl (show ¬ (_ ∨ _) by decide) rfl dL_addCable_11 ?_
      refine r_goto h 27 dL_addCable_12 (by decide) ?_
      refine r_iconst (v := 0) h dL_addCable_27 (by decide) ?_
      refine J.widen (k1 := 1) (n1 := 6) (by decide) (by decide) ?_
      cases hF
      exact r_iret h hr dL_addCable_28 ⟨rfl, nS0, nS1, nS2, nS3, rfl⟩
def FL_removeCable (θ : Int32) (ρ : RS) (S0 : RS) (S1 : RS) (S2 : RS) (S3 : RS) (x1 : Int32) (f : Nat → Int64) : Option (Int32 × Int32 × RS × RS × RS × RS × RS × (Nat → Int64)) :=
  match FX3_removeCable θ ρ S0 S1 S2 S3 x1 with
  | none => none
  | some (.inl k) => if k = 1 then some ((1 : Int32), θ, ρ, S0, S1, S2, S3, f) else none
  | some (.inr r) => some ((0 : Int32), r.2.1, r.2.2.1, r.2.2.2.1, r.2.2.2.2.1, r.2.2.2.2.2.1, r.2.2.2.2.2.2, vp_updL f ((0 : Int32)).toNatClampNeg r.1.toInt64)
abbrev rmL_removeCable : Room := { frames := 8, cells := 1, slots := 6, locals := 145 }
set_option maxHeartbeats 4000000 in
set_option maxRecDepth 100000 in
theorem CL_removeCable (l : Launch) (hl0 : l.stackTraces = false) (D : va_G) (aθ : Nat) (pθ_spare : Nat) (pθ_text : Nat) (aρ : Nat → Nat) (aν : Nat) (aS0 : Nat → Nat) (aS1 : Nat → Nat) (aS2 : Nat → Nat) (aS3 : Nat → Nat) (o : Nat) (θ : Int32) (ρ : RS) (S0 : RS) (S1 : RS) (S2 : RS) (S3 : RS) (x1 : Int32) (f : Nat → Int64) (r0 : Int32) (θ0 : Int32) (ρ0 : RS) (S00 : RS) (S10 : RS) (S20 : RS) (S30 : RS) (f0 : Nat → Int64) (hF : FL_removeCable θ ρ S0 S1 S2 S3 x1 f = some (r0, θ0, ρ0, S00, S10, S20, S30, f0)) : CtW l D yL_removeCable cL_removeCable 4 (some .int) [((0 : Nat), 9 , 12 , 13 )] rmL_removeCable 1 6 [.ref aθ, .int x1, .ref o] ([ouW D o f, rkW D aθ (aρ 0) pθ_spare aν pθ_text θ, rmW D aρ ρ, tlW D aν aS0 aS1 aS2 aS3 S0 S1 S2 S3].flatten) (fun v w => v = some (.int r0) ∧ ∃ (bS0 : Nat → Nat) (bS1 : Nat → Nat) (bS2 : Nat → Nat) (bS3 : Nat → Nat), w = [ouW D o f0, rkW D aθ (aρ 0) pθ_spare aν pθ_text θ0, rmW D aρ ρ0, tlW D aν bS0 bS1 bS2 bS3 S00 S10 S20 S30].flatten) := by
  unfold FL_removeCable at hF
  refine CtW.of (own := RL) (lv := [(0, .ref aθ), (1, .int x1), (2, .ref o)]) (by decide +kernel) rfl (Nat.le_of_ble_eq_true rfl) rfl (fun X h hx hr => ?_)
  refine r_aload_n h 2 rfl rfl dL_removeCable_0 ?_
  refine r_iconst (v := 0) h dL_removeCable_1 (by decide) ?_
  refine r_aload_n h 0 rfl rfl dL_removeCable_2 ?_
  refine r_iload_n h 1 rfl rfl dL_removeCable_3 ?_
  cases e : FX3_removeCable θ ρ S0 S1 S2 S3 x1 with
  | none => rw [e] at hF; cases hF
  | some z =>
    rw [e] at hF
    cases z with
    | inl k =>
      dsimp only at hF
      by_cases h0 : k = 1
      · subst h0
        replace hF := o_pos rfl hF
        cases hF
        refine r_callCV (N0 := 4) (q0 := 0) (rest := [.int 0, .ref o]) (E := exn 1) (hh := [((0 : Nat), 9 , 12 , 13 )]) h hx [ouW D o f, rkW D aθ (aρ 0) pθ_spare aν pθ_text θ, rmW D aρ ρ, tlW D aν aS0 aS1 aS2 aS3 S0 S1 S2 S3] [1, 2, 3] [0] hdl_X3_removeCable wm_591 dL_removeCable_4 (TX3_removeCable l hl0 D aθ pθ_spare pθ_text aρ aν aS0 aS1 aS2 aS3 θ ρ S0 S1 S2 S3 x1 1 e) rfl rfl rfl (by decide) rfl rfl rfl ⟨rfl, rfl⟩ ⟨by decide, by decide⟩ (Nat.le_of_ble_eq_true rfl) ⟨by decide, by decide⟩ rfl [] ⟨0, 9, 12, 13⟩ [] rfl (fun z hz => nomatch hz) (by decide) (by decide) wm_529 1 (by decide) rfl 12 rfl (fun q => ?_)
        refine J.blk2 (ws' := [ouW D o f, rkW D aθ (aρ 0) pθ_spare aν pθ_text θ, rmW D aρ ρ, tlW D aν aS0 aS1 aS2 aS3 S0 S1 S2 S3].flatten) 4 (pkB [ouW D o f, rkW D aθ (aρ 0) pθ_spare aν pθ_text θ, rmW D aρ ρ, tlW D aν aS0 aS1 aS2 aS3 S0 S1 S2 S3] [0]) ([rkW D aθ (aρ 0) pθ_spare aν pθ_text θ, rmW D aρ ρ, tlW D aν aS0 aS1 aS2 aS3 S0 S1 S2 S3]) [0, 1, 2, 3] rfl rfl rfl rfl (by decide) ?_
        refine r_astore_n (lv' := [(3, .ref q), (0, .ref aθ), (1, .int x1), (2, .ref o)]) h rfl dL_removeCable_12 (by decide) rfl ?_
        refine r_iconst (v := 1) h dL_removeCable_13 (by decide) ?_
        exact r_iret h hr dL_removeCable_14 ⟨rfl, aS0, aS1, aS2, aS3, rfl⟩
      · replace hF := o_neg h0 hF
        cases hF
    | inr r =>
      dsimp only at hF
      refine r_callVB (N0 := 4) (q0 := 0) (rest := [.int 0, .ref o]) h [ouW D o f, rkW D aθ (aρ 0) pθ_spare aν pθ_text θ, rmW D aρ ρ, tlW D aν aS0 aS1 aS2 aS3 S0 S1 S2 S3] [1, 2, 3] [0] hdl_X3_removeCable wm_591 dL_removeCable_4 (CX3_removeCable l D aθ pθ_spare pθ_text aρ aν aS0 aS1 aS2 aS3 θ ρ S0 S1 S2 S3 x1 r.1 r.2.1 r.2.2.1 r.2.2.2.1 r.2.2.2.2.1 r.2.2.2.2.2.1 r.2.2.2.2.2.2 e) rfl rfl rfl (by decide) rfl rfl rfl ⟨rfl, rfl⟩ ⟨by decide, by decide⟩ (Nat.le_of_ble_eq_true rfl) ⟨by decide, by decide⟩ rfl (fun v w' hp => ?_)
      obtain ⟨rfl, nS0, nS1, nS2, nS3, rfl⟩ := hp
      refine J.blk2 (ws' := [ouW D o f, rkW D aθ (aρ 0) pθ_spare aν pθ_text r.2.1, rmW D aρ r.2.2.1, tlW D aν nS0 nS1 nS2 nS3 r.2.2.2.1 r.2.2.2.2.1 r.2.2.2.2.2.1 r.2.2.2.2.2.2].flatten) 4 (pkB [ouW D o f, rkW D aθ (aρ 0) pθ_spare aν pθ_text θ, rmW D aρ ρ, tlW D aν aS0 aS1 aS2 aS3 S0 S1 S2 S3] [0]) ([rkW D aθ (aρ 0) pθ_spare aν pθ_text r.2.1, rmW D aρ r.2.2.1, tlW D aν nS0 nS1 nS2 nS3 r.2.2.2.1 r.2.2.2.2.1 r.2.2.2.2.2.1 r.2.2.2.2.2.2]) [0, 1, 2, 3] rfl rfl rfl rfl (by decide) ?_
      refine r_i2l h dL_removeCable_7 ?_
      refine r_last (ws' := [ouW D o (vp_updL f ((0 : Int32)).toNatClampNeg r.1.toInt64), rkW D aθ (aρ 0) pθ_spare aν pθ_text r.2.1, rmW D aρ r.2.2.1, tlW D aν nS0 nS1 nS2 nS3 r.2.2.2.1 r.2.2.2.2.1 r.2.2.2.2.2.1 r.2.2.2.2.2.2].flatten) h 0 rfl (show ¬ (_ ∨ _) by decide) rfl dL_removeCable_8 ?_
      refine r_goto h 15 dL_removeCable_9 (by decide) ?_
      refine r_iconst (v := 0) h dL_removeCable_15 (by decide) ?_
      refine J.widen (k1 := 1) (n1 := 6) (by decide) (by decide) ?_
      cases hF
      exact r_iret h hr dL_removeCable_16 ⟨rfl, nS0, nS1, nS2, nS3, rfl⟩
def FL_addFreeze (θ : Int32) (ρ : RS) (S0 : RS) (S1 : RS) (S2 : RS) (S3 : RS) (x1 : Int32) (x2 : Int32) (x3 : Int32) (f : Nat → Int64) : Option (Int32 × Int32 × RS × RS × RS × RS × RS × (Nat → Int64)) :=
  match FX3_addFreeze θ ρ S0 S1 S2 S3 x1 x2 x3 with
  | none => none
  | some (.inl k) => if k = 2 then some ((1 : Int32), θ, ρ, S0, S1, S2, S3, f) else if k = 3 then some ((2 : Int32), θ, ρ, S0, S1, S2, S3, f) else none
  | some (.inr r) => some ((0 : Int32), r.2.1, r.2.2.1, r.2.2.2.1, r.2.2.2.2.1, r.2.2.2.2.2.1, r.2.2.2.2.2.2, vp_updL f ((0 : Int32)).toNatClampNeg r.1.toInt64)
abbrev rmL_addFreeze : Room := { frames := 8, cells := 1, slots := 6, locals := 148 }
set_option maxHeartbeats 4000000 in
set_option maxRecDepth 100000 in
theorem CL_addFreeze (l : Launch) (hl0 : l.stackTraces = false) (D : va_G) (aθ : Nat) (pθ_spare : Nat) (pθ_text : Nat) (aρ : Nat → Nat) (aν : Nat) (aS0 : Nat → Nat) (aS1 : Nat → Nat) (aS2 : Nat → Nat) (aS3 : Nat → Nat) (o : Nat) (θ : Int32) (ρ : RS) (S0 : RS) (S1 : RS) (S2 : RS) (S3 : RS) (x1 : Int32) (x2 : Int32) (x3 : Int32) (f : Nat → Int64) (r0 : Int32) (θ0 : Int32) (ρ0 : RS) (S00 : RS) (S10 : RS) (S20 : RS) (S30 : RS) (f0 : Nat → Int64) (hF : FL_addFreeze θ ρ S0 S1 S2 S3 x1 x2 x3 f = some (r0, θ0, ρ0, S00, S10, S20, S30, f0)) : CtW l D yL_addFreeze cL_addFreeze 6 (some .int) [((0 : Nat), 12 , 15 , 15 ), ((0 : Nat), (12 : Nat), (19 : Nat), (28 : Nat)) ] rmL_addFreeze 1 6 [.ref aθ, .int x1, .int x2, .int x3, .ref o] ([ouW D o f, rkW D aθ (aρ 0) pθ_spare aν pθ_text θ, rmW D aρ ρ, tlW D aν aS0 aS1 aS2 aS3 S0 S1 S2 S3].flatten) (fun v w => v = some (.int r0) ∧ ∃ (bS0 : Nat → Nat) (bS1 : Nat → Nat) (bS2 : Nat → Nat) (bS3 : Nat → Nat), w = [ouW D o f0, rkW D aθ (aρ 0) pθ_spare aν pθ_text θ0, rmW D aρ ρ0, tlW D aν bS0 bS1 bS2 bS3 S00 S10 S20 S30].flatten) := by
  unfold FL_addFreeze at hF
  refine CtW.of (own := RL) (lv := [(0, .ref aθ), (1, .int x1), (2, .int x2), (3, .int x3), (4, .ref o)]) (by decide +kernel) rfl (Nat.le_of_ble_eq_true rfl) rfl (fun X h hx hr => ?_)
  refine r_aload h 4 rfl dL_addFreeze_0 ?_
  refine r_iconst (v := 0) h dL_addFreeze_2 (by decide) ?_
  refine r_aload_n h 0 rfl rfl dL_addFreeze_3 ?_
  refine r_iload_n h 1 rfl rfl dL_addFreeze_4 ?_
  refine r_iload_n h 2 rfl rfl dL_addFreeze_5 ?_
  refine r_iload_n h 3 rfl rfl dL_addFreeze_6 ?_
  cases e : FX3_addFreeze θ ρ S0 S1 S2 S3 x1 x2 x3 with
  | none => rw [e] at hF; cases hF
  | some z =>
    rw [e] at hF
    cases z with
    | inl k =>
      dsimp only at hF
      by_cases h0 : k = 2
      · subst h0
        replace hF := o_pos rfl hF
        cases hF
        refine r_callCV (N0 := 4) (q0 := 0) (rest := [.int 0, .ref o]) (E := exn 2) (hh := [((0 : Nat), 12 , 15 , 15 ), ((0 : Nat), (12 : Nat), (19 : Nat), (28 : Nat)) ]) h hx [ouW D o f, rkW D aθ (aρ 0) pθ_spare aν pθ_text θ, rmW D aρ ρ, tlW D aν aS0 aS1 aS2 aS3 S0 S1 S2 S3] [1, 2, 3] [0] hdl_X3_addFreeze wm_599 dL_addFreeze_7 (TX3_addFreeze l hl0 D aθ pθ_spare pθ_text aρ aν aS0 aS1 aS2 aS3 θ ρ S0 S1 S2 S3 x1 x2 x3 2 e) rfl rfl rfl (by decide) rfl rfl rfl ⟨rfl, rfl⟩ ⟨by decide, by decide⟩ (Nat.le_of_ble_eq_true rfl) ⟨by decide, by decide⟩ rfl [] ⟨0, 12, 15, 15⟩ [⟨0, 12, 19, 28⟩] rfl (fun z hz => nomatch hz) (by decide) (by decide) wm_530 2 (by decide) rfl 15 rfl (fun q => ?_)
        refine J.blk2 (ws' := [ouW D o f, rkW D aθ (aρ 0) pθ_spare aν pθ_text θ, rmW D aρ ρ, tlW D aν aS0 aS1 aS2 aS3 S0 S1 S2 S3].flatten) 4 (pkB [ouW D o f, rkW D aθ (aρ 0) pθ_spare aν pθ_text θ, rmW D aρ ρ, tlW D aν aS0 aS1 aS2 aS3 S0 S1 S2 S3] [0]) ([rkW D aθ (aρ 0) pθ_spare aν pθ_text θ, rmW D aρ ρ, tlW D aν aS0 aS1 aS2 aS3 S0 S1 S2 S3]) [0, 1, 2, 3] rfl rfl rfl rfl (by decide) ?_
        refine r_astore (lv' := [(5, .ref q), (0, .ref aθ), (1, .int x1), (2, .int x2), (3, .int x3), (4, .ref o)]) h dL_addFreeze_15 (by decide) rfl ?_
        refine r_iconst (v := 1) h dL_addFreeze_17 (by decide) ?_
        exact r_iret h hr dL_addFreeze_18 ⟨rfl, aS0, aS1, aS2, aS3, rfl⟩
      · replace hF := o_neg h0 hF
        by_cases h1 : k = 3
        · subst h1
          replace hF := o_pos rfl hF
          cases hF
          refine r_callCV (N0 := 4) (q0 := 0) (rest := [.int 0, .ref o]) (E := exn 3) (hh := [((0 : Nat), 12 , 15 , 15 ), ((0 : Nat), (12 : Nat), (19 : Nat), (28 : Nat)) ]) h hx [ouW D o f, rkW D aθ (aρ 0) pθ_spare aν pθ_text θ, rmW D aρ ρ, tlW D aν aS0 aS1 aS2 aS3 S0 S1 S2 S3] [1, 2, 3] [0] hdl_X3_addFreeze wm_599 dL_addFreeze_7 (TX3_addFreeze l hl0 D aθ pθ_spare pθ_text aρ aν aS0 aS1 aS2 aS3 θ ρ S0 S1 S2 S3 x1 x2 x3 3 e) rfl rfl rfl (by decide) rfl rfl rfl ⟨rfl, rfl⟩ ⟨by decide, by decide⟩ (Nat.le_of_ble_eq_true rfl) ⟨by decide, by decide⟩ rfl [⟨0, 12, 15, 15⟩] ⟨0, 12, 19, 28⟩ [] rfl (fun z hz => by rw [List.mem_singleton.mp hz]; exact ⟨by decide, _, wm_530, fun s A hX => hX.2.2.2.2.2.2.2.1⟩) (by decide) (by decide) wm_552 3 (by decide) rfl 19 rfl (fun q => ?_)
          refine J.blk2 (ws' := [ouW D o f, rkW D aθ (aρ 0) pθ_spare aν pθ_text θ, rmW D aρ ρ, tlW D aν aS0 aS1 aS2 aS3 S0 S1 S2 S3].flatten) 4 (pkB [ouW D o f, rkW D aθ (aρ 0) pθ_spare aν pθ_text θ, rmW D aρ ρ, tlW D aν aS0 aS1 aS2 aS3 S0 S1 S2 S3] [0]) ([rkW D aθ (aρ 0) pθ_spare aν pθ_text θ, rmW D aρ ρ, tlW D aν aS0 aS1 aS2 aS3 S0 S1 S2 S3]) [0, 1, 2, 3] rfl rfl rfl rfl (by decide) ?_
          refine r_astore (lv' := [(5, .ref q), (0, .ref aθ), (1, .int x1), (2, .int x2), (3, .int x3), (4, .ref o)]) h dL_addFreeze_19 (by decide) rfl ?_
          refine r_iconst (v := 2) h dL_addFreeze_21 (by decide) ?_
          exact r_iret h hr dL_addFreeze_22 ⟨rfl, aS0, aS1, aS2, aS3, rfl⟩
        · replace hF := o_neg h1 hF
          cases hF
    | inr r =>
      dsimp only at hF
      refine r_callVB (N0 := 4) (q0 := 0) (rest := [.int 0, .ref o]) h [ouW D o f, rkW D aθ (aρ 0) pθ_spare aν pθ_text θ, rmW D aρ ρ, tlW D aν aS0 aS1 aS2 aS3 S0 S1 S2 S3] [1, 2, 3] [0] hdl_X3_addFreeze wm_599 dL_addFreeze_7 (CX3_addFreeze l D aθ pθ_spare pθ_text aρ aν aS0 aS1 aS2 aS3 θ ρ S0 S1 S2 S3 x1 x2 x3 r.1 r.2.1 r.2.2.1 r.2.2.2.1 r.2.2.2.2.1 r.2.2.2.2.2.1 r.2.2.2.2.2.2 e) rfl rfl rfl (by decide) rfl rfl rfl ⟨rfl, rfl⟩ ⟨by decide, by decide⟩ (Nat.le_of_ble_eq_true rfl) ⟨by decide, by decide⟩ rfl (fun v w' hp => ?_)
      obtain ⟨rfl, nS0, nS1, nS2, nS3, rfl⟩ := hp
      refine J.blk2 (ws' := [ouW D o f, rkW D aθ (aρ 0) pθ_spare aν pθ_text r.2.1, rmW D aρ r.2.2.1, tlW D aν nS0 nS1 nS2 nS3 r.2.2.2.1 r.2.2.2.2.1 r.2.2.2.2.2.1 r.2.2.2.2.2.2].flatten) 4 (pkB [ouW D o f, rkW D aθ (aρ 0) pθ_spare aν pθ_text θ, rmW D aρ ρ, tlW D aν aS0 aS1 aS2 aS3 S0 S1 S2 S3] [0]) ([rkW D aθ (aρ 0) pθ_spare aν pθ_text r.2.1, rmW D aρ r.2.2.1, tlW D aν nS0 nS1 nS2 nS3 r.2.2.2.1 r.2.2.2.2.1 r.2.2.2.2.2.1 r.2.2.2.2.2.2]) [0, 1, 2, 3] rfl rfl rfl rfl (by decide) ?_
      refine r_i2l h dL_addFreeze_10 ?_
      refine r_last (ws' := [ouW D o (vp_updL f ((0 : Int32)).toNatClampNeg r.1.toInt64), rkW D aθ (aρ 0) pθ_spare aν pθ_text r.2.1, rmW D aρ r.2.2.1, tlW D aν nS0 nS1 nS2 nS3 r.2.2.2.1 r.2.2.2.2.1 r.2.2.2.2.2.1 r.2.2.2.2.2.2].flatten) h 0 rfl (show ¬ (_ ∨ _) by decide) rfl dL_addFreeze_11 ?_
      refine r_goto h 23 dL_addFreeze_12 (by decide) ?_
      refine r_iconst (v := 0) h dL_addFreeze_23 (by decide) ?_
      refine J.widen (k1 := 1) (n1 := 6) (by decide) (by decide) ?_
      cases hF
      exact r_iret h hr dL_addFreeze_24 ⟨rfl, nS0, nS1, nS2, nS3, rfl⟩
def FL_removeFreeze (θ : Int32) (ρ : RS) (S0 : RS) (S1 : RS) (S2 : RS) (S3 : RS) (x1 : Int32) (f : Nat → Int64) : Option (Int32 × Int32 × RS × RS × RS × RS × RS × (Nat → Int64)) :=
  match FX3_removeFreeze θ ρ S0 S1 S2 S3 x1 with
  | none => none
  | some (.inl k) => if k = 1 then some ((1 : Int32), θ, ρ, S0, S1, S2, S3, f) else none
  | some (.inr r) => some ((0 : Int32), r.2.1, r.2.2.1, r.2.2.2.1, r.2.2.2.2.1, r.2.2.2.2.2.1, r.2.2.2.2.2.2, vp_updL f ((0 : Int32)).toNatClampNeg r.1.toInt64)
abbrev rmL_removeFreeze : Room := { frames := 7, cells := 1, slots := 6, locals := 145 }
set_option maxHeartbeats 4000000 in
set_option maxRecDepth 100000 in
theorem CL_removeFreeze (l : Launch) (hl0 : l.stackTraces = false) (D : va_G) (aθ : Nat) (pθ_spare : Nat) (pθ_text : Nat) (aρ : Nat → Nat) (aν : Nat) (aS0 : Nat → Nat) (aS1 : Nat → Nat) (aS2 : Nat → Nat) (aS3 : Nat → Nat) (o : Nat) (θ : Int32) (ρ : RS) (S0 : RS) (S1 : RS) (S2 : RS) (S3 : RS) (x1 : Int32) (f : Nat → Int64) (r0 : Int32) (θ0 : Int32) (ρ0 : RS) (S00 : RS) (S10 : RS) (S20 : RS) (S30 : RS) (f0 : Nat → Int64) (hF : FL_removeFreeze θ ρ S0 S1 S2 S3 x1 f = some (r0, θ0, ρ0, S00, S10, S20, S30, f0)) : CtW l D yL_removeFreeze cL_removeFreeze 4 (some .int) [((0 : Nat), 9 , 12 , 13 )] rmL_removeFreeze 1 6 [.ref aθ, .int x1, .ref o] ([ouW D o f, rkW D aθ (aρ 0) pθ_spare aν pθ_text θ, rmW D aρ ρ, tlW D aν aS0 aS1 aS2 aS3 S0 S1 S2 S3].flatten) (fun v w => v = some (.int r0) ∧ ∃ (bS0 : Nat → Nat) (bS1 : Nat → Nat) (bS2 : Nat → Nat) (bS3 : Nat → Nat), w = [ouW D o f0, rkW D aθ (aρ 0) pθ_spare aν pθ_text θ0, rmW D aρ ρ0, tlW D aν bS0 bS1 bS2 bS3 S00 S10 S20 S30].flatten) := by
  unfold FL_removeFreeze at hF
  refine CtW.of (own := RL) (lv := [(0, .ref aθ), (1, .int x1), (2, .ref o)]) (by decide +kernel) rfl (Nat.le_of_ble_eq_true rfl) rfl (fun X h hx hr => ?_)
  refine r_aload_n h 2 rfl rfl dL_removeFreeze_0 ?_
  refine r_iconst (v := 0) h dL_removeFreeze_1 (by decide) ?_
  refine r_aload_n h 0 rfl rfl dL_removeFreeze_2 ?_
  refine r_iload_n h 1 rfl rfl dL_removeFreeze_3 ?_
  cases e : FX3_removeFreeze θ ρ S0 S1 S2 S3 x1 with
  | none => rw [e] at hF; cases hF
  | some z =>
    rw [e] at hF
    cases z with
    | inl k =>
      dsimp only at hF
      by_cases h0 : k = 1
      · subst h0
        replace hF := o_pos rfl hF
        cases hF
        refine r_callCV (N0 := 4) (q0 := 0) (rest := [.int 0, .ref o]) (E := exn 1) (hh := [((0 : Nat), 9 , 12 , 13 )]) h hx [ouW D o f, rkW D aθ (aρ 0) pθ_spare aν pθ_text θ, rmW D aρ ρ, tlW D aν aS0 aS1 aS2 aS3 S0 S1 S2 S3] [1, 2, 3] [0] hdl_X3_removeFreeze wm_606 dL_removeFreeze_4 (TX3_removeFreeze l hl0 D aθ pθ_spare pθ_text aρ aν aS0 aS1 aS2 aS3 θ ρ S0 S1 S2 S3 x1 1 e) rfl rfl rfl (by decide) rfl rfl rfl ⟨rfl, rfl⟩ ⟨by decide, by decide⟩ (Nat.le_of_ble_eq_true rfl) ⟨by decide, by decide⟩ rfl [] ⟨0, 9, 12, 13⟩ [] rfl (fun z hz => nomatch hz) (by decide) (by decide) wm_529 1 (by decide) rfl 12 rfl (fun q => ?_)
        refine J.blk2 (ws' := [ouW D o f, rkW D aθ (aρ 0) pθ_spare aν pθ_text θ, rmW D aρ ρ, tlW D aν aS0 aS1 aS2 aS3 S0 S1 S2 S3].flatten) 4 (pkB [ouW D o f, rkW D aθ (aρ 0) pθ_spare aν pθ_text θ, rmW D aρ ρ, tlW D aν aS0 aS1 aS2 aS3 S0 S1 S2 S3] [0]) ([rkW D aθ (aρ 0) pθ_spare aν pθ_text θ, rmW D aρ ρ, tlW D aν aS0 aS1 aS2 aS3 S0 S1 S2 S3]) [0, 1, 2, 3] rfl rfl rfl rfl (by decide) ?_
        refine r_astore_n (lv' := [(3, .ref q), (0, .ref aθ), (1, .int x1), (2, .ref o)]) h rfl dL_removeFreeze_12 (by decide) rfl ?_
        refine r_iconst (v := 1) h dL_removeFreeze_13 (by decide) ?_
        exact r_iret h hr dL_removeFreeze_14 ⟨rfl, aS0, aS1, aS2, aS3, rfl⟩
      · replace hF := o_neg h0 hF
        cases hF
    | inr r =>
      dsimp only at hF
      refine r_callVB (N0 := 4) (q0 := 0) (rest := [.int 0, .ref o]) h [ouW D o f, rkW D aθ (aρ 0) pθ_spare aν pθ_text θ, rmW D aρ ρ, tlW D aν aS0 aS1 aS2 aS3 S0 S1 S2 S3] [1, 2, 3] [0] hdl_X3_removeFreeze wm_606 dL_removeFreeze_4 (CX3_removeFreeze l D aθ pθ_spare pθ_text aρ aν aS0 aS1 aS2 aS3 θ ρ S0 S1 S2 S3 x1 r.1 r.2.1 r.2.2.1 r.2.2.2.1 r.2.2.2.2.1 r.2.2.2.2.2.1 r.2.2.2.2.2.2 e) rfl rfl rfl (by decide) rfl rfl rfl ⟨rfl, rfl⟩ ⟨by decide, by decide⟩ (Nat.le_of_ble_eq_true rfl) ⟨by decide, by decide⟩ rfl (fun v w' hp => ?_)
      obtain ⟨rfl, nS0, nS1, nS2, nS3, rfl⟩ := hp
      refine J.blk2 (ws' := [ouW D o f, rkW D aθ (aρ 0) pθ_spare aν pθ_text r.2.1, rmW D aρ r.2.2.1, tlW D aν nS0 nS1 nS2 nS3 r.2.2.2.1 r.2.2.2.2.1 r.2.2.2.2.2.1 r.2.2.2.2.2.2].flatten) 4 (pkB [ouW D o f, rkW D aθ (aρ 0) pθ_spare aν pθ_text θ, rmW D aρ ρ, tlW D aν aS0 aS1 aS2 aS3 S0 S1 S2 S3] [0]) ([rkW D aθ (aρ 0) pθ_spare aν pθ_text r.2.1, rmW D aρ r.2.2.1, tlW D aν nS0 nS1 nS2 nS3 r.2.2.2.1 r.2.2.2.2.1 r.2.2.2.2.2.1 r.2.2.2.2.2.2]) [0, 1, 2, 3] rfl rfl rfl rfl (by decide) ?_
      refine r_i2l h dL_removeFreeze_7 ?_
      refine r_last (ws' := [ouW D o (vp_updL f ((0 : Int32)).toNatClampNeg r.1.toInt64), rkW D aθ (aρ 0) pθ_spare aν pθ_text r.2.1, rmW D aρ r.2.2.1, tlW D aν nS0 nS1 nS2 nS3 r.2.2.2.1 r.2.2.2.2.1 r.2.2.2.2.2.1 r.2.2.2.2.2.2].flatten) h 0 rfl (show ¬ (_ ∨ _) by decide) rfl dL_removeFreeze_8 ?_
      refine r_goto h 15 dL_removeFreeze_9 (by decide) ?_
      refine r_iconst (v := 0) h dL_removeFreeze_15 (by decide) ?_
      refine J.widen (k1 := 1) (n1 := 6) (by decide) (by decide) ?_
      cases hF
      exact r_iret h hr dL_removeFreeze_16 ⟨rfl, nS0, nS1, nS2, nS3, rfl⟩
def FL_pass (θ : Int32) (ρ : RS) (S0 : RS) (S1 : RS) (S2 : RS) (S3 : RS) (x1 : Int32) (f : Nat → Int64) : Option (Int32 × Int32 × RS × RS × RS × RS × RS × (Nat → Int64)) :=
  match FX3_pass θ ρ S0 S1 S2 S3 x1 with
  | none => none
  | some (.inl k) => if k = 2 then some ((1 : Int32), θ, ρ, S0, S1, S2, S3, f) else if k = 3 then some ((2 : Int32), θ, ρ, S0, S1, S2, S3, f) else none
  | some (.inr r) => some ((0 : Int32), r.2.1, r.2.2.1, r.2.2.2.1, r.2.2.2.2.1, r.2.2.2.2.2.1, r.2.2.2.2.2.2, vp_updL f ((0 : Int32)).toNatClampNeg r.1.toInt64)
abbrev rmL_pass : Room := { frames := 8, cells := 1, slots := 6, locals := 145 }
set_option maxHeartbeats 4000000 in
set_option maxRecDepth 100000 in
theorem CL_pass (l : Launch) (hl0 : l.stackTraces = false) (D : va_G) (aθ : Nat) (pθ_spare : Nat) (pθ_text : Nat) (aρ : Nat → Nat) (aν : Nat) (aS0 : Nat → Nat) (aS1 : Nat → Nat) (aS2 : Nat → Nat) (aS3 : Nat → Nat) (o : Nat) (θ : Int32) (ρ : RS) (S0 : RS) (S1 : RS) (S2 : RS) (S3 : RS) (x1 : Int32) (f : Nat → Int64) (r0 : Int32) (θ0 : Int32) (ρ0 : RS) (S00 : RS) (S10 : RS) (S20 : RS) (S30 : RS) (f0 : Nat → Int64) (hF : FL_pass θ ρ S0 S1 S2 S3 x1 f = some (r0, θ0, ρ0, S00, S10, S20, S30, f0)) : CtW l D yL_pass cL_pass 4 (some .int) [((0 : Nat), 9 , 12 , 15 ), ((0 : Nat), (9 : Nat), (15 : Nat), (28 : Nat)) ] rmL_pass 1 6 [.ref aθ, .int x1, .ref o] ([ouW D o f, rkW D aθ (aρ 0) pθ_spare aν pθ_text θ, rmW D aρ ρ, tlW D aν aS0 aS1 aS2 aS3 S0 S1 S2 S3].flatten) (fun v w => v = some (.int r0) ∧ ∃ (bS0 : Nat → Nat) (bS1 : Nat → Nat) (bS2 : Nat → Nat) (bS3 : Nat → Nat), w = [ouW D o f0, rkW D aθ (aρ 0) pθ_spare aν pθ_text θ0, rmW D aρ ρ0, tlW D aν bS0 bS1 bS2 bS3 S00 S10 S20 S30].flatten) := by
  unfold FL_pass at hF
  refine CtW.of (own := RL) (lv := [(0, .ref aθ), (1, .int x1), (2, .ref o)]) (by decide +kernel) rfl (Nat.le_of_ble_eq_true rfl) rfl (fun X h hx hr => ?_)
  refine r_aload_n h 2 rfl rfl dL_pass_0 ?_
  refine r_iconst (v := 0) h dL_pass_1 (by decide) ?_
  refine r_aload_n h 0 rfl rfl dL_pass_2 ?_
  refine r_iload_n h 1 rfl rfl dL_pass_3 ?_
  cases e : FX3_pass θ ρ S0 S1 S2 S3 x1 with
  | none => rw [e] at hF; cases hF
  | some z =>
    rw [e] at hF
    cases z with
    | inl k =>
      dsimp only at hF
      by_cases h0 : k = 2
      · subst h0
        replace hF := o_pos rfl hF
        cases hF
        refine r_callCV (N0 := 4) (q0 := 0) (rest := [.int 0, .ref o]) (E := exn 2) (hh := [((0 : Nat), 9 , 12 , 15 ), ((0 : Nat), (9 : Nat), (15 : Nat), (28 : Nat)) ]) h hx [ouW D o f, rkW D aθ (aρ 0) pθ_spare aν pθ_text θ, rmW D aρ ρ, tlW D aν aS0 aS1 aS2 aS3 S0 S1 S2 S3] [1, 2, 3] [0] hdl_X3_pass wm_614 dL_pass_4 (TX3_pass l hl0 D aθ pθ_spare pθ_text aρ aν aS0 aS1 aS2 aS3 θ ρ S0 S1 S2 S3 x1 2 e) rfl rfl rfl (by decide) rfl rfl rfl ⟨rfl, rfl⟩ ⟨by decide, by decide⟩ (Nat.le_of_ble_eq_true rfl) ⟨by decide, by decide⟩ rfl [] ⟨0, 9, 12, 15⟩ [⟨0, 9, 15, 28⟩] rfl (fun z hz => nomatch hz) (by decide) (by decide) wm_530 2 (by decide) rfl 12 rfl (fun q => ?_)
        refine J.blk2 (ws' := [ouW D o f, rkW D aθ (aρ 0) pθ_spare aν pθ_text θ, rmW D aρ ρ, tlW D aν aS0 aS1 aS2 aS3 S0 S1 S2 S3].flatten) 4 (pkB [ouW D o f, rkW D aθ (aρ 0) pθ_spare aν pθ_text θ, rmW D aρ ρ, tlW D aν aS0 aS1 aS2 aS3 S0 S1 S2 S3] [0]) ([rkW D aθ (aρ 0) pθ_spare aν pθ_text θ, rmW D aρ ρ, tlW D aν aS0 aS1 aS2 aS3 S0 S1 S2 S3]) [0, 1, 2, 3] rfl rfl rfl rfl (by decide) ?_
        refine r_astore_n (lv' := [(3, .ref q), (0, .ref aθ), (1, .int x1), (2, .ref o)]) h rfl dL_pass_12 (by decide) rfl ?_
        refine r_iconst (v := 1) h dL_pass_13 (by decide) ?_
        exact r_iret h hr dL_pass_14 ⟨rfl, aS0, aS1, aS2, aS3, rfl⟩
      · replace hF := o_neg h0 hF
        by_cases h1 : k = 3
        · subst h1
          replace hF := o_pos rfl hF
          cases hF
          refine r_callCV (N0 := 4) (q0 := 0) (rest := [.int 0, .ref o]) (E := exn 3) (hh := [((0 : Nat), 9 , 12 , 15 ), ((0 : Nat), (9 : Nat), (15 : Nat), (28 : Nat)) ]) h hx [ouW D o f, rkW D aθ (aρ 0) pθ_spare aν pθ_text θ, rmW D aρ ρ, tlW D aν aS0 aS1 aS2 aS3 S0 S1 S2 S3] [1, 2, 3] [0] hdl_X3_pass wm_614 dL_pass_4 (TX3_pass l hl0 D aθ pθ_spare pθ_text aρ aν aS0 aS1 aS2 aS3 θ ρ S0 S1 S2 S3 x1 3 e) rfl rfl rfl (by decide) rfl rfl rfl ⟨rfl, rfl⟩ ⟨by decide, by decide⟩ (Nat.le_of_ble_eq_true rfl) ⟨by decide, by decide⟩ rfl [⟨0, 9, 12, 15⟩] ⟨0, 9, 15, 28⟩ [] rfl (fun z hz => by rw [List.mem_singleton.mp hz]; exact ⟨by decide, _, wm_530, fun s A hX => hX.2.2.2.2.2.2.2.1⟩) (by decide) (by decide) wm_552 3 (by decide) rfl 15 rfl (fun q => ?_)
          refine J.blk2 (ws' := [ouW D o f, rkW D aθ (aρ 0) pθ_spare aν pθ_text θ, rmW D aρ ρ, tlW D aν aS0 aS1 aS2 aS3 S0 S1 S2 S3].flatten) 4 (pkB [ouW D o f, rkW D aθ (aρ 0) pθ_spare aν pθ_text θ, rmW D aρ ρ, tlW D aν aS0 aS1 aS2 aS3 S0 S1 S2 S3] [0]) ([rkW D aθ (aρ 0) pθ_spare aν pθ_text θ, rmW D aρ ρ, tlW D aν aS0 aS1 aS2 aS3 S0 S1 S2 S3]) [0, 1, 2, 3] rfl rfl rfl rfl (by decide) ?_
          refine r_astore_n (lv' := [(3, .ref q), (0, .ref aθ), (1, .int x1), (2, .ref o)]) h rfl dL_pass_15 (by decide) rfl ?_
          refine r_iconst (v := 2) h dL_pass_16 (by decide) ?_
          exact r_iret h hr dL_pass_17 ⟨rfl, aS0, aS1, aS2, aS3, rfl⟩
        · replace hF := o_neg h1 hF
          cases hF
    | inr r =>
      dsimp only at hF
      refine r_callVB (N0 := 4) (q0 := 0) (rest := [.int 0, .ref o]) h [ouW D o f, rkW D aθ (aρ 0) pθ_spare aν pθ_text θ, rmW D aρ ρ, tlW D aν aS0 aS1 aS2 aS3 S0 S1 S2 S3] [1, 2, 3] [0] hdl_X3_pass wm_614 dL_pass_4 (CX3_pass l D aθ pθ_spare pθ_text aρ aν aS0 aS1 aS2 aS3 θ ρ S0 S1 S2 S3 x1 r.1 r.2.1 r.2.2.1 r.2.2.2.1 r.2.2.2.2.1 r.2.2.2.2.2.1 r.2.2.2.2.2.2 e) rfl rfl rfl (by decide) rfl rfl rfl ⟨rfl, rfl⟩ ⟨by decide, by decide⟩ (Nat.le_of_ble_eq_true rfl) ⟨by decide, by decide⟩ rfl (fun v w' hp => ?_)
      obtain ⟨rfl, nS0, nS1, nS2, nS3, rfl⟩ := hp
      refine J.blk2 (ws' := [ouW D o f, rkW D aθ (aρ 0) pθ_spare aν pθ_text r.2.1, rmW D aρ r.2.2.1, tlW D aν nS0 nS1 nS2 nS3 r.2.2.2.1 r.2.2.2.2.1 r.2.2.2.2.2.1 r.2.2.2.2.2.2].flatten) 4 (pkB [ouW D o f, rkW D aθ (aρ 0) pθ_spare aν pθ_text θ, rmW D aρ ρ, tlW D aν aS0 aS1 aS2 aS3 S0 S1 S2 S3] [0]) ([rkW D aθ (aρ 0) pθ_spare aν pθ_text r.2.1, rmW D aρ r.2.2.1, tlW D aν nS0 nS1 nS2 nS3 r.2.2.2.1 r.2.2.2.2.1 r.2.2.2.2.2.1 r.2.2.2.2.2.2]) [0, 1, 2, 3] rfl rfl rfl rfl (by decide) ?_
      refine r_i2l h dL_pass_7 ?_
      refine r_last (ws' := [ouW D o (vp_updL f ((0 : Int32)).toNatClampNeg r.1.toInt64), rkW D aθ (aρ 0) pθ_spare aν pθ_text r.2.1, rmW D aρ r.2.2.1, tlW D aν nS0 nS1 nS2 nS3 r.2.2.2.1 r.2.2.2.2.1 r.2.2.2.2.2.1 r.2.2.2.2.2.2].flatten) h 0 rfl (show ¬ (_ ∨ _) by decide) rfl dL_pass_8 ?_
      refine r_goto h 18 dL_pass_9 (by decide) ?_
      refine r_iconst (v := 0) h dL_pass_18 (by decide) ?_
      refine J.widen (k1 := 1) (n1 := 6) (by decide) (by decide) ?_
      cases hF
      exact r_iret h hr dL_pass_19 ⟨rfl, nS0, nS1, nS2, nS3, rfl⟩
def FL_machine (θ : Int32) (ρ : RS) (x1 : Int32) (x2 : Int32) (f : Nat → Int64) : Option (Int32 × (Nat → Int64)) :=
  match FX3_machine θ ρ x1 x2 with
  | none => none
  | some (.inl k) => if k = 1 then some ((1 : Int32), f) else if k = 2 then some ((2 : Int32), f) else none
  | some (.inr r) => some ((0 : Int32), vp_updL f ((0 : Int32)).toNatClampNeg r.toInt64)
abbrev rmL_machine : Room := { frames := 8, cells := 1, slots := 6, locals := 134 }
set_option maxHeartbeats 4000000 in
set_option maxRecDepth 100000 in
theorem CL_machine (l : Launch) (hl0 : l.stackTraces = false) (D : va_G) (aθ : Nat) (pθ_spare : Nat) (pθ_saved : Nat) (pθ_text : Nat) (aρ : Nat → Nat) (o : Nat) (θ : Int32) (ρ : RS) (x1 : Int32) (x2 : Int32) (f : Nat → Int64) (r0 : Int32)  (f0 : Nat → Int64) (hF : FL_machine θ ρ x1 x2 f = some (r0, f0)) : CtW l D yL_machine cL_machine 5 (some .int) [((0 : Nat), 10 , 13 , 13 ), ((0 : Nat), (10 : Nat), (17 : Nat), (15 : Nat)) ] rmL_machine 1 6 [.ref aθ, .int x1, .int x2, .ref o] ([ouW D o f, rkW D aθ (aρ 0) pθ_spare pθ_saved pθ_text θ, rmW D aρ ρ].flatten) (fun v w => v = some (.int r0) ∧ w = [ouW D o f0, rkW D aθ (aρ 0) pθ_spare pθ_saved pθ_text θ, rmW D aρ ρ].flatten) := by
  unfold FL_machine at hF
  refine CtW.of (own := RL) (lv := [(0, .ref aθ), (1, .int x1), (2, .int x2), (3, .ref o)]) (by decide +kernel) rfl (Nat.le_of_ble_eq_true rfl) rfl (fun X h hx hr => ?_)
  refine r_aload_n h 3 rfl rfl dL_machine_0 ?_
  refine r_iconst (v := 0) h dL_machine_1 (by decide) ?_
  refine r_aload_n h 0 rfl rfl dL_machine_2 ?_
  refine r_iload_n h 1 rfl rfl dL_machine_3 ?_
  refine r_iload_n h 2 rfl rfl dL_machine_4 ?_
  cases e : FX3_machine θ ρ x1 x2 with
  | none => rw [e] at hF; cases hF
  | some z =>
    rw [e] at hF
    cases z with
    | inl k =>
      dsimp only at hF
      by_cases h0 : k = 1
      · subst h0
        replace hF := o_pos rfl hF
        cases hF
        refine r_callCV (N0 := 3) (q0 := 0) (rest := [.int 0, .ref o]) (E := exn 1) (hh := [((0 : Nat), 10 , 13 , 13 ), ((0 : Nat), (10 : Nat), (17 : Nat), (15 : Nat)) ]) h hx [ouW D o f, rkW D aθ (aρ 0) pθ_spare pθ_saved pθ_text θ, rmW D aρ ρ] [1, 2] [0] hd_X3_machine wm_622 dL_machine_5 (TX3_machine l hl0 D aθ pθ_spare pθ_saved pθ_text aρ θ ρ x1 x2 1 e) rfl rfl rfl (by decide) rfl rfl rfl ⟨rfl, rfl⟩ ⟨by decide, by decide⟩ (Nat.le_of_ble_eq_true rfl) ⟨by decide, by decide⟩ rfl [] ⟨0, 10, 13, 13⟩ [⟨0, 10, 17, 15⟩] rfl (fun z hz => nomatch hz) (by decide) (by decide) wm_529 1 (by decide) rfl 13 rfl (fun q => ?_)
        refine J.blk2 (ws' := [ouW D o f, rkW D aθ (aρ 0) pθ_spare pθ_saved pθ_text θ, rmW D aρ ρ].flatten) 3 (pkB [ouW D o f, rkW D aθ (aρ 0) pθ_spare pθ_saved pθ_text θ, rmW D aρ ρ] [0]) ([rkW D aθ (aρ 0) pθ_spare pθ_saved pθ_text θ, rmW D aρ ρ]) [0, 1, 2] rfl rfl rfl rfl (by decide) ?_
        refine r_astore (lv' := [(4, .ref q), (0, .ref aθ), (1, .int x1), (2, .int x2), (3, .ref o)]) h dL_machine_13 (by decide) rfl ?_
        refine r_iconst (v := 1) h dL_machine_15 (by decide) ?_
        exact r_iret h hr dL_machine_16 ⟨rfl, rfl⟩
      · replace hF := o_neg h0 hF
        by_cases h1 : k = 2
        · subst h1
          replace hF := o_pos rfl hF
          cases hF
          refine r_callCV (N0 := 3) (q0 := 0) (rest := [.int 0, .ref o]) (E := exn 2) (hh := [((0 : Nat), 10 , 13 , 13 ), ((0 : Nat), (10 : Nat), (17 : Nat), (15 : Nat)) ]) h hx [ouW D o f, rkW D aθ (aρ 0) pθ_spare pθ_saved pθ_text θ, rmW D aρ ρ] [1, 2] [0] hd_X3_machine wm_622 dL_machine_5 (TX3_machine l hl0 D aθ pθ_spare pθ_saved pθ_text aρ θ ρ x1 x2 2 e) rfl rfl rfl (by decide) rfl rfl rfl ⟨rfl, rfl⟩ ⟨by decide, by decide⟩ (Nat.le_of_ble_eq_true rfl) ⟨by decide, by decide⟩ rfl [⟨0, 10, 13, 13⟩] ⟨0, 10, 17, 15⟩ [] rfl (fun z hz => by rw [List.mem_singleton.mp hz]; exact ⟨by decide, _, wm_529, fun s A hX => hX.2.2.2.2.1⟩) (by decide) (by decide) wm_530 2 (by decide) rfl 17 rfl (fun q => ?_)
          refine J.blk2 (ws' := [ouW D o f, rkW D aθ (aρ 0) pθ_spare pθ_saved pθ_text θ, rmW D aρ ρ].flatten) 3 (pkB [ouW D o f, rkW D aθ (aρ 0) pθ_spare pθ_saved pθ_text θ, rmW D aρ ρ] [0]) ([rkW D aθ (aρ 0) pθ_spare pθ_saved pθ_text θ, rmW D aρ ρ]) [0, 1, 2] rfl rfl rfl rfl (by decide) ?_
          refine r_astore (lv' := [(4, .ref q), (0, .ref aθ), (1, .int x1), (2, .int x2), (3, .ref o)]) h dL_machine_17 (by decide) rfl ?_
          refine r_iconst (v := 2) h dL_machine_19 (by decide) ?_
          exact r_iret h hr dL_machine_20 ⟨rfl, rfl⟩
        · replace hF := o_neg h1 hF
          cases hF
    | inr r =>
      dsimp only at hF
      refine r_callVB (N0 := 3) (q0 := 0) (rest := [.int 0, .ref o]) h [ouW D o f, rkW D aθ (aρ 0) pθ_spare pθ_saved pθ_text θ, rmW D aρ ρ] [1, 2] [0] hd_X3_machine wm_622 dL_machine_5 (CX3_machine l D aθ pθ_spare pθ_saved pθ_text aρ θ ρ x1 x2 r e) rfl rfl rfl (by decide) rfl rfl rfl ⟨rfl, rfl⟩ ⟨by decide, by decide⟩ (Nat.le_of_ble_eq_true rfl) ⟨by decide, by decide⟩ rfl (fun v w' hp => ?_)
      obtain ⟨rfl, rfl⟩ := hp
      refine J.blk2 (ws' := [ouW D o f, rkW D aθ (aρ 0) pθ_spare pθ_saved pθ_text θ, rmW D aρ ρ].flatten) 3 (pkB [ouW D o f, rkW D aθ (aρ 0) pθ_spare pθ_saved pθ_text θ, rmW D aρ ρ] [0]) ([rkW D aθ (aρ 0) pθ_spare pθ_saved pθ_text θ, rmW D aρ ρ]) [0, 1, 2] rfl rfl rfl rfl (by decide) ?_
      refine r_i2l h dL_machine_8 ?_
      refine r_last (ws' := [ouW D o (vp_updL f ((0 : Int32)).toNatClampNeg r.toInt64), rkW D aθ (aρ 0) pθ_spare pθ_saved pθ_text θ, rmW D aρ ρ].flatten) h 0 rfl (show ¬ (_ ∨ _) by decide) rfl dL_machine_9 ?_
      refine r_goto h 21 dL_machine_10 (by decide) ?_
      refine r_iconst (v := 0) h dL_machine_21 (by decide) ?_
      refine J.widen (k1 := 1) (n1 := 6) (by decide) (by decide) ?_
      cases hF
      exact r_iret h hr dL_machine_22 ⟨rfl, rfl⟩
def FL_rack (θ : Int32) (ρ : RS) (x1 : Int32) (x2 : Int32) (f : Nat → Int64) : Option (Int32 × (Nat → Int64)) :=
  match FX3_rack θ ρ x1 x2 with
  | none => none
  | some (.inl k) => if k = 1 then some ((1 : Int32), f) else if k = 2 then some ((2 : Int32), f) else none
  | some (.inr r) => some ((0 : Int32), vp_updL f ((0 : Int32)).toNatClampNeg r.toInt64)
abbrev rmL_rack : Room := { frames := 8, cells := 1, slots := 6, locals := 138 }
set_option maxHeartbeats 4000000 in
set_option maxRecDepth 100000 in
theorem CL_rack (l : Launch) (hl0 : l.stackTraces = false) (D : va_G) (aθ : Nat) (pθ_spare : Nat) (pθ_saved : Nat) (pθ_text : Nat) (aρ : Nat → Nat) (o : Nat) (θ : Int32) (ρ : RS) (x1 : Int32) (x2 : Int32) (f : Nat → Int64) (r0 : Int32)  (f0 : Nat → Int64) (hF : FL_rack θ ρ x1 x2 f = some (r0, f0)) : CtW l D yL_rack cL_rack 5 (some .int) [((0 : Nat), 10 , 13 , 13 ), ((0 : Nat), (10 : Nat), (17 : Nat), (15 : Nat)) ] rmL_rack 1 6 [.ref aθ, .int x1, .int x2, .ref o] ([ouW D o f, rkW D aθ (aρ 0) pθ_spare pθ_saved pθ_text θ, rmW D aρ ρ].flatten) (fun v w => v = some (.int r0) ∧ w = [ouW D o f0, rkW D aθ (aρ 0) pθ_spare pθ_saved pθ_text θ, rmW D aρ ρ].flatten) := by
  unfold FL_rack at hF
  refine CtW.of (own := RL) (lv := [(0, .ref aθ), (1, .int x1), (2, .int x2), (3, .ref o)]) (by decide +kernel) rfl (Nat.le_of_ble_eq_true rfl) rfl (fun X h hx hr => ?_)
  refine r_aload_n h 3 rfl rfl dL_rack_0 ?_
  refine r_iconst (v := 0) h dL_rack_1 (by decide) ?_
  refine r_aload_n h 0 rfl rfl dL_rack_2 ?_
  refine r_iload_n h 1 rfl rfl dL_rack_3 ?_
  refine r_iload_n h 2 rfl rfl dL_rack_4 ?_
  cases e : FX3_rack θ ρ x1 x2 with
  | none => rw [e] at hF; cases hF
  | some z =>
    rw [e] at hF
    cases z with
    | inl k =>
      dsimp only at hF
      by_cases h0 : k = 1
      · subst h0
        replace hF := o_pos rfl hF
        cases hF
        refine r_callCV (N0 := 3) (q0 := 0) (rest := [.int 0, .ref o]) (E := exn 1) (hh := [((0 : Nat), 10 , 13 , 13 ), ((0 : Nat), (10 : Nat), (17 : Nat), (15 : Nat)) ]) h hx [ouW D o f, rkW D aθ (aρ 0) pθ_spare pθ_saved pθ_text θ, rmW D aρ ρ] [1, 2] [0] hd_X3_rack wm_626 dL_rack_5 (TX3_rack l hl0 D aθ pθ_spare pθ_saved pθ_text aρ θ ρ x1 x2 1 e) rfl rfl rfl (by decide) rfl rfl rfl ⟨rfl, rfl⟩ ⟨by decide, by decide⟩ (Nat.le_of_ble_eq_true rfl) ⟨by decide, by decide⟩ rfl [] ⟨0, 10, 13, 13⟩ [⟨0, 10, 17, 15⟩] rfl (fun z hz => nomatch hz) (by decide) (by decide) wm_529 1 (by decide) rfl 13 rfl (fun q => ?_)
        refine J.blk2 (ws' := [ouW D o f, rkW D aθ (aρ 0) pθ_spare pθ_saved pθ_text θ, rmW D aρ ρ].flatten) 3 (pkB [ouW D o f, rkW D aθ (aρ 0) pθ_spare pθ_saved pθ_text θ, rmW D aρ ρ] [0]) ([rkW D aθ (aρ 0) pθ_spare pθ_saved pθ_text θ, rmW D aρ ρ]) [0, 1, 2] rfl rfl rfl rfl (by decide) ?_
        refine r_astore (lv' := [(4, .ref q), (0, .ref aθ), (1, .int x1), (2, .int x2), (3, .ref o)]) h dL_rack_13 (by decide) rfl ?_
        refine r_iconst (v := 1) h dL_rack_15 (by decide) ?_
        exact r_iret h hr dL_rack_16 ⟨rfl, rfl⟩
      · replace hF := o_neg h0 hF
        by_cases h1 : k = 2
        · subst h1
          replace hF := o_pos rfl hF
          cases hF
          refine r_callCV (N0 := 3) (q0 := 0) (rest := [.int 0, .ref o]) (E := exn 2) (hh := [((0 : Nat), 10 , 13 , 13 ), ((0 : Nat), (10 : Nat), (17 : Nat), (15 : Nat)) ]) h hx [ouW D o f, rkW D aθ (aρ 0) pθ_spare pθ_saved pθ_text θ, rmW D aρ ρ] [1, 2] [0] hd_X3_rack wm_626 dL_rack_5 (TX3_rack l hl0 D aθ pθ_spare pθ_saved pθ_text aρ θ ρ x1 x2 2 e) rfl rfl rfl (by decide) rfl rfl rfl ⟨rfl, rfl⟩ ⟨by decide, by decide⟩ (Nat.le_of_ble_eq_true rfl) ⟨by decide, by decide⟩ rfl [⟨0, 10, 13, 13⟩] ⟨0, 10, 17, 15⟩ [] rfl (fun z hz => by rw [List.mem_singleton.mp hz]; exact ⟨by decide, _, wm_529, fun s A hX => hX.2.2.2.2.1⟩) (by decide) (by decide) wm_530 2 (by decide) rfl 17 rfl (fun q => ?_)
          refine J.blk2 (ws' := [ouW D o f, rkW D aθ (aρ 0) pθ_spare pθ_saved pθ_text θ, rmW D aρ ρ].flatten) 3 (pkB [ouW D o f, rkW D aθ (aρ 0) pθ_spare pθ_saved pθ_text θ, rmW D aρ ρ] [0]) ([rkW D aθ (aρ 0) pθ_spare pθ_saved pθ_text θ, rmW D aρ ρ]) [0, 1, 2] rfl rfl rfl rfl (by decide) ?_
          refine r_astore (lv' := [(4, .ref q), (0, .ref aθ), (1, .int x1), (2, .int x2), (3, .ref o)]) h dL_rack_17 (by decide) rfl ?_
          refine r_iconst (v := 2) h dL_rack_19 (by decide) ?_
          exact r_iret h hr dL_rack_20 ⟨rfl, rfl⟩
        · replace hF := o_neg h1 hF
          cases hF
    | inr r =>
      dsimp only at hF
      refine r_callVB (N0 := 3) (q0 := 0) (rest := [.int 0, .ref o]) h [ouW D o f, rkW D aθ (aρ 0) pθ_spare pθ_saved pθ_text θ, rmW D aρ ρ] [1, 2] [0] hd_X3_rack wm_626 dL_rack_5 (CX3_rack l D aθ pθ_spare pθ_saved pθ_text aρ θ ρ x1 x2 r e) rfl rfl rfl (by decide) rfl rfl rfl ⟨rfl, rfl⟩ ⟨by decide, by decide⟩ (Nat.le_of_ble_eq_true rfl) ⟨by decide, by decide⟩ rfl (fun v w' hp => ?_)
      obtain ⟨rfl, rfl⟩ := hp
      refine J.blk2 (ws' := [ouW D o f, rkW D aθ (aρ 0) pθ_spare pθ_saved pθ_text θ, rmW D aρ ρ].flatten) 3 (pkB [ouW D o f, rkW D aθ (aρ 0) pθ_spare pθ_saved pθ_text θ, rmW D aρ ρ] [0]) ([rkW D aθ (aρ 0) pθ_spare pθ_saved pθ_text θ, rmW D aρ ρ]) [0, 1, 2] rfl rfl rfl rfl (by decide) ?_
      refine r_i2l h dL_rack_8 ?_
      refine r_last (ws' := [ouW D o (vp_updL f ((0 : Int32)).toNatClampNeg r.toInt64), rkW D aθ (aρ 0) pθ_spare pθ_saved pθ_text θ, rmW D aρ ρ].flatten) h 0 rfl (show ¬ (_ ∨ _) by decide) rfl dL_rack_9 ?_
      refine r_goto h 21 dL_rack_10 (by decide) ?_
      refine r_iconst (v := 0) h dL_rack_21 (by decide) ?_
      refine J.widen (k1 := 1) (n1 := 6) (by decide) (by decide) ?_
      cases hF
      exact r_iret h hr dL_rack_22 ⟨rfl, rfl⟩
def FL_slot (θ : Int32) (ρ : RS) (x1 : Int32) (x2 : Int32) (f : Nat → Int64) : Option (Int32 × (Nat → Int64)) :=
  match FX3_slot θ ρ x1 x2 with
  | none => none
  | some (.inl k) => if k = 1 then some ((1 : Int32), f) else none
  | some (.inr r) => some ((0 : Int32), vp_updL f ((0 : Int32)).toNatClampNeg r.toInt64)
abbrev rmL_slot : Room := { frames := 8, cells := 1, slots := 6, locals := 132 }
set_option maxHeartbeats 4000000 in
set_option maxRecDepth 100000 in
theorem CL_slot (l : Launch) (hl0 : l.stackTraces = false) (D : va_G) (aθ : Nat) (pθ_spare : Nat) (pθ_saved : Nat) (pθ_text : Nat) (aρ : Nat → Nat) (o : Nat) (θ : Int32) (ρ : RS) (x1 : Int32) (x2 : Int32) (f : Nat → Int64) (r0 : Int32)  (f0 : Nat → Int64) (hF : FL_slot θ ρ x1 x2 f = some (r0, f0)) : CtW l D yL_slot cL_slot 5 (some .int) [((0 : Nat), 10 , 13 , 13 )] rmL_slot 1 6 [.ref aθ, .int x1, .int x2, .ref o] ([ouW D o f, rkW D aθ (aρ 0) pθ_spare pθ_saved pθ_text θ, rmW D aρ ρ].flatten) (fun v w => v = some (.int r0) ∧ w = [ouW D o f0, rkW D aθ (aρ 0) pθ_spare pθ_saved pθ_text θ, rmW D aρ ρ].flatten) := by
  unfold FL_slot at hF
  refine CtW.of (own := RL) (lv := [(0, .ref aθ), (1, .int x1), (2, .int x2), (3, .ref o)]) (by decide +kernel) rfl (Nat.le_of_ble_eq_true rfl) rfl (fun X h hx hr => ?_)
  refine r_aload_n h 3 rfl rfl dL_slot_0 ?_
  refine r_iconst (v := 0) h dL_slot_1 (by decide) ?_
  refine r_aload_n h 0 rfl rfl dL_slot_2 ?_
  refine r_iload_n h 1 rfl rfl dL_slot_3 ?_
  refine r_iload_n h 2 rfl rfl dL_slot_4 ?_
  cases e : FX3_slot θ ρ x1 x2 with
  | none => rw [e] at hF; cases hF
  | some z =>
    rw [e] at hF
    cases z with
    | inl k =>
      dsimp only at hF
      by_cases h0 : k = 1
      · subst h0
        replace hF := o_pos rfl hF
        cases hF
        refine r_callCV (N0 := 3) (q0 := 0) (rest := [.int 0, .ref o]) (E := exn 1) (hh := [((0 : Nat), 10 , 13 , 13 )]) h hx [ouW D o f, rkW D aθ (aρ 0) pθ_spare pθ_saved pθ_text θ, rmW D aρ ρ] [1, 2] [0] hd_X3_slot wm_630 dL_slot_5 (TX3_slot l hl0 D aθ pθ_spare pθ_saved pθ_text aρ θ ρ x1 x2 1 e) rfl rfl rfl (by decide) rfl rfl rfl ⟨rfl, rfl⟩ ⟨by decide, by decide⟩ (Nat.le_of_ble_eq_true rfl) ⟨by decide, by decide⟩ rfl [] ⟨0, 10, 13, 13⟩ [] rfl (fun z hz => nomatch hz) (by decide) (by decide) wm_529 1 (by decide) rfl 13 rfl (fun q => ?_)
        refine J.blk2 (ws' := [ouW D o f, rkW D aθ (aρ 0) pθ_spare pθ_saved pθ_text θ, rmW D aρ ρ].flatten) 3 (pkB [ouW D o f, rkW D aθ (aρ 0) pθ_spare pθ_saved pθ_text θ, rmW D aρ ρ] [0]) ([rkW D aθ (aρ 0) pθ_spare pθ_saved pθ_text θ, rmW D aρ ρ]) [0, 1, 2] rfl rfl rfl rfl (by decide) ?_
        refine r_astore (lv' := [(4, .ref q), (0, .ref aθ), (1, .int x1), (2, .int x2), (3, .ref o)]) h dL_slot_13 (by decide) rfl ?_
        refine r_iconst (v := 1) h dL_slot_15 (by decide) ?_
        exact r_iret h hr dL_slot_16 ⟨rfl, rfl⟩
      · replace hF := o_neg h0 hF
        cases hF
    | inr r =>
      dsimp only at hF
      refine r_callVB (N0 := 3) (q0 := 0) (rest := [.int 0, .ref o]) h [ouW D o f, rkW D aθ (aρ 0) pθ_spare pθ_saved pθ_text θ, rmW D aρ ρ] [1, 2] [0] hd_X3_slot wm_630 dL_slot_5 (CX3_slot l D aθ pθ_spare pθ_saved pθ_text aρ θ ρ x1 x2 r e) rfl rfl rfl (by decide) rfl rfl rfl ⟨rfl, rfl⟩ ⟨by decide, by decide⟩ (Nat.le_of_ble_eq_true rfl) ⟨by decide, by decide⟩ rfl (fun v w' hp => ?_)
      obtain ⟨rfl, rfl⟩ := hp
      refine J.blk2 (ws' := [ouW D o f, rkW D aθ (aρ 0) pθ_spare pθ_saved pθ_text θ, rmW D aρ ρ].flatten) 3 (pkB [ouW D o f, rkW D aθ (aρ 0) pθ_spare pθ_saved pθ_text θ, rmW D aρ ρ] [0]) ([rkW D aθ (aρ 0) pθ_spare pθ_saved pθ_text θ, rmW D aρ ρ]) [0, 1, 2] rfl rfl rfl rfl (by decide) ?_
      refine r_i2l h dL_slot_8 ?_
      refine r_last (ws' := [ouW D o (vp_updL f ((0 : Int32)).toNatClampNeg r.toInt64), rkW D aθ (aρ 0) pθ_spare pθ_saved pθ_text θ, rmW D aρ ρ].flatten) h 0 rfl (show ¬ (_ ∨ _) by decide) rfl dL_slot_9 ?_
      refine r_goto h 17 dL_slot_10 (by decide) ?_
      refine r_iconst (v := 0) h dL_slot_17 (by decide) ?_
      refine J.widen (k1 := 1) (n1 := 6) (by decide) (by decide) ?_
      cases hF
      exact r_iret h hr dL_slot_18 ⟨rfl, rfl⟩
def FL_cable (θ : Int32) (ρ : RS) (x1 : Int32) (x2 : Int32) (f : Nat → Int64) : Option (Int32 × (Nat → Int64)) :=
  match FX3_cable θ ρ x1 x2 with
  | none => none
  | some (.inl k) => if k = 1 then some ((1 : Int32), f) else if k = 2 then some ((2 : Int32), f) else none
  | some (.inr r) => some ((0 : Int32), vp_updL f ((0 : Int32)).toNatClampNeg r.toInt64)
abbrev rmL_cable : Room := { frames := 8, cells := 1, slots := 6, locals := 134 }
set_option maxHeartbeats 4000000 in
set_option maxRecDepth 100000 in
theorem CL_cable (l : Launch) (hl0 : l.stackTraces = false) (D : va_G) (aθ : Nat) (pθ_spare : Nat) (pθ_saved : Nat) (pθ_text : Nat) (aρ : Nat → Nat) (o : Nat) (θ : Int32) (ρ : RS) (x1 : Int32) (x2 : Int32) (f : Nat → Int64) (r0 : Int32)  (f0 : Nat → Int64) (hF : FL_cable θ ρ x1 x2 f = some (r0, f0)) : CtW l D yL_cable cL_cable 5 (some .int) [((0 : Nat), 10 , 13 , 13 ), ((0 : Nat), (10 : Nat), (17 : Nat), (15 : Nat)) ] rmL_cable 1 6 [.ref aθ, .int x1, .int x2, .ref o] ([ouW D o f, rkW D aθ (aρ 0) pθ_spare pθ_saved pθ_text θ, rmW D aρ ρ].flatten) (fun v w => v = some (.int r0) ∧ w = [ouW D o f0, rkW D aθ (aρ 0) pθ_spare pθ_saved pθ_text θ, rmW D aρ ρ].flatten) := by
  unfold FL_cable at hF
  refine CtW.of (own := RL) (lv := [(0, .ref aθ), (1, .int x1), (2, .int x2), (3, .ref o)]) (by decide +kernel) rfl (Nat.le_of_ble_eq_true rfl) rfl (fun X h hx hr => ?_)
  refine r_aload_n h 3 rfl rfl dL_cable_0 ?_
  refine r_iconst (v := 0) h dL_cable_1 (by decide) ?_
  refine r_aload_n h 0 rfl rfl dL_cable_2 ?_
  refine r_iload_n h 1 rfl rfl dL_cable_3 ?_
  refine r_iload_n h 2 rfl rfl dL_cable_4 ?_
  cases e : FX3_cable θ ρ x1 x2 with
  | none => rw [e] at hF; cases hF
  | some z =>
    rw [e] at hF
    cases z with
    | inl k =>
      dsimp only at hF
      by_cases h0 : k = 1
      · subst h0
        replace hF := o_pos rfl hF
        cases hF
        refine r_callCV (N0 := 3) (q0 := 0) (rest := [.int 0, .ref o]) (E := exn 1) (hh := [((0 : Nat), 10 , 13 , 13 ), ((0 : Nat), (10 : Nat), (17 : Nat), (15 : Nat)) ]) h hx [ouW D o f, rkW D aθ (aρ 0) pθ_spare pθ_saved pθ_text θ, rmW D aρ ρ] [1, 2] [0] hd_X3_cable wm_634 dL_cable_5 (TX3_cable l hl0 D aθ pθ_spare pθ_saved pθ_text aρ θ ρ x1 x2 1 e) rfl rfl rfl (by decide) rfl rfl rfl ⟨rfl, rfl⟩ ⟨by decide, by decide⟩ (Nat.le_of_ble_eq_true rfl) ⟨by decide, by decide⟩ rfl [] ⟨0, 10, 13, 13⟩ [⟨0, 10, 17, 15⟩] rfl (fun z hz => nomatch hz) (by decide) (by decide) wm_529 1 (by decide) rfl 13 rfl (fun q => ?_)
        refine J.blk2 (ws' := [ouW D o f, rkW D aθ (aρ 0) pθ_spare pθ_saved pθ_text θ, rmW D aρ ρ].flatten) 3 (pkB [ouW D o f, rkW D aθ (aρ 0) pθ_spare pθ_saved pθ_text θ, rmW D aρ ρ] [0]) ([rkW D aθ (aρ 0) pθ_spare pθ_saved pθ_text θ, rmW D aρ ρ]) [0, 1, 2] rfl rfl rfl rfl (by decide) ?_
        refine r_astore (lv' := [(4, .ref q), (0, .ref aθ), (1, .int x1), (2, .int x2), (3, .ref o)]) h dL_cable_13 (by decide) rfl ?_
        refine r_iconst (v := 1) h dL_cable_15 (by decide) ?_
        exact r_iret h hr dL_cable_16 ⟨rfl, rfl⟩
      · replace hF := o_neg h0 hF
        by_cases h1 : k = 2
        · subst h1
          replace hF := o_pos rfl hF
          cases hF
          refine r_callCV (N0 := 3) (q0 := 0) (rest := [.int 0, .ref o]) (E := exn 2) (hh := [((0 : Nat), 10 , 13 , 13 ), ((0 : Nat), (10 : Nat), (17 : Nat), (15 : Nat)) ]) h hx [ouW D o f, rkW D aθ (aρ 0) pθ_spare pθ_saved pθ_text θ, rmW D aρ ρ] [1, 2] [0] hd_X3_cable wm_634 dL_cable_5 (TX3_cable l hl0 D aθ pθ_spare pθ_saved pθ_text aρ θ ρ x1 x2 2 e) rfl rfl rfl (by decide) rfl rfl rfl ⟨rfl, rfl⟩ ⟨by decide, by decide⟩ (Nat.le_of_ble_eq_true rfl) ⟨by decide, by decide⟩ rfl [⟨0, 10, 13, 13⟩] ⟨0, 10, 17, 15⟩ [] rfl (fun z hz => by rw [List.mem_singleton.mp hz]; exact ⟨by decide, _, wm_529, fun s A hX => hX.2.2.2.2.1⟩) (by decide) (by decide) wm_530 2 (by decide) rfl 17 rfl (fun q => ?_)
          refine J.blk2 (ws' := [ouW D o f, rkW D aθ (aρ 0) pθ_spare pθ_saved pθ_text θ, rmW D aρ ρ].flatten) 3 (pkB [ouW D o f, rkW D aθ (aρ 0) pθ_spare pθ_saved pθ_text θ, rmW D aρ ρ] [0]) ([rkW D aθ (aρ 0) pθ_spare pθ_saved pθ_text θ, rmW D aρ ρ]) [0, 1, 2] rfl rfl rfl rfl (by decide) ?_
          refine r_astore (lv' := [(4, .ref q), (0, .ref aθ), (1, .int x1), (2, .int x2), (3, .ref o)]) h dL_cable_17 (by decide) rfl ?_
          refine r_iconst (v := 2) h dL_cable_19 (by decide) ?_
          exact r_iret h hr dL_cable_20 ⟨rfl, rfl⟩
        · replace hF := o_neg h1 hF
          cases hF
    | inr r =>
      dsimp only at hF
      refine r_callVB (N0 := 3) (q0 := 0) (rest := [.int 0, .ref o]) h [ouW D o f, rkW D aθ (aρ 0) pθ_spare pθ_saved pθ_text θ, rmW D aρ ρ] [1, 2] [0] hd_X3_cable wm_634 dL_cable_5 (CX3_cable l D aθ pθ_spare pθ_saved pθ_text aρ θ ρ x1 x2 r e) rfl rfl rfl (by decide) rfl rfl rfl ⟨rfl, rfl⟩ ⟨by decide, by decide⟩ (Nat.le_of_ble_eq_true rfl) ⟨by decide, by decide⟩ rfl (fun v w' hp => ?_)
      obtain ⟨rfl, rfl⟩ := hp
      refine J.blk2 (ws' := [ouW D o f, rkW D aθ (aρ 0) pθ_spare pθ_saved pθ_text θ, rmW D aρ ρ].flatten) 3 (pkB [ouW D o f, rkW D aθ (aρ 0) pθ_spare pθ_saved pθ_text θ, rmW D aρ ρ] [0]) ([rkW D aθ (aρ 0) pθ_spare pθ_saved pθ_text θ, rmW D aρ ρ]) [0, 1, 2] rfl rfl rfl rfl (by decide) ?_
      refine r_i2l h dL_cable_8 ?_
      refine r_last (ws' := [ouW D o (vp_updL f ((0 : Int32)).toNatClampNeg r.toInt64), rkW D aθ (aρ 0) pθ_spare pθ_saved pθ_text θ, rmW D aρ ρ].flatten) h 0 rfl (show ¬ (_ ∨ _) by decide) rfl dL_cable_9 ?_
      refine r_goto h 21 dL_cable_10 (by decide) ?_
      refine r_iconst (v := 0) h dL_cable_21 (by decide) ?_
      refine J.widen (k1 := 1) (n1 := 6) (by decide) (by decide) ?_
      cases hF
      exact r_iret h hr dL_cable_22 ⟨rfl, rfl⟩
def FL_tray (θ : Int32) (ρ : RS) (x1 : Int32) (f : Nat → Int64) : Option (Int32 × (Nat → Int64)) :=
  match FX3_tray θ ρ x1 with
  | none => none
  | some (.inl k) => if k = 1 then some ((1 : Int32), f) else none
  | some (.inr r) => some ((0 : Int32), vp_updL f ((0 : Int32)).toNatClampNeg r.toInt64)
abbrev rmL_tray : Room := { frames := 8, cells := 1, slots := 6, locals := 131 }
set_option maxHeartbeats 4000000 in
set_option maxRecDepth 100000 in
theorem CL_tray (l : Launch) (hl0 : l.stackTraces = false) (D : va_G) (aθ : Nat) (pθ_spare : Nat) (pθ_saved : Nat) (pθ_text : Nat) (aρ : Nat → Nat) (o : Nat) (θ : Int32) (ρ : RS) (x1 : Int32) (f : Nat → Int64) (r0 : Int32)  (f0 : Nat → Int64) (hF : FL_tray θ ρ x1 f = some (r0, f0)) : CtW l D yL_tray cL_tray 4 (some .int) [((0 : Nat), 9 , 12 , 13 )] rmL_tray 1 6 [.ref aθ, .int x1, .ref o] ([ouW D o f, rkW D aθ (aρ 0) pθ_spare pθ_saved pθ_text θ, rmW D aρ ρ].flatten) (fun v w => v = some (.int r0) ∧ w = [ouW D o f0, rkW D aθ (aρ 0) pθ_spare pθ_saved pθ_text θ, rmW D aρ ρ].flatten) := by
  unfold FL_tray at hF
  refine CtW.of (own := RL) (lv := [(0, .ref aθ), (1, .int x1), (2, .ref o)]) (by decide +kernel) rfl (Nat.le_of_ble_eq_true rfl) rfl (fun X h hx hr => ?_)
  refine r_aload_n h 2 rfl rfl dL_tray_0 ?_
  refine r_iconst (v := 0) h dL_tray_1 (by decide) ?_
  refine r_aload_n h 0 rfl rfl dL_tray_2 ?_
  refine r_iload_n h 1 rfl rfl dL_tray_3 ?_
  cases e : FX3_tray θ ρ x1 with
  | none => rw [e] at hF; cases hF
  | some z =>
    rw [e] at hF
    cases z with
    | inl k =>
      dsimp only at hF
      by_cases h0 : k = 1
      · subst h0
        replace hF := o_pos rfl hF
        cases hF
        refine r_callCV (N0 := 3) (q0 := 0) (rest := [.int 0, .ref o]) (E := exn 1) (hh := [((0 : Nat), 9 , 12 , 13 )]) h hx [ouW D o f, rkW D aθ (aρ 0) pθ_spare pθ_saved pθ_text θ, rmW D aρ ρ] [1, 2] [0] hd_X3_tray wm_638 dL_tray_4 (TX3_tray l hl0 D aθ pθ_spare pθ_saved pθ_text aρ θ ρ x1 1 e) rfl rfl rfl (by decide) rfl rfl rfl ⟨rfl, rfl⟩ ⟨by decide, by decide⟩ (Nat.le_of_ble_eq_true rfl) ⟨by decide, by decide⟩ rfl [] ⟨0, 9, 12, 13⟩ [] rfl (fun z hz => nomatch hz) (by decide) (by decide) wm_529 1 (by decide) rfl 12 rfl (fun q => ?_)
        refine J.blk2 (ws' := [ouW D o f, rkW D aθ (aρ 0) pθ_spare pθ_saved pθ_text θ, rmW D aρ ρ].flatten) 3 (pkB [ouW D o f, rkW D aθ (aρ 0) pθ_spare pθ_saved pθ_text θ, rmW D aρ ρ] [0]) ([rkW D aθ (aρ 0) pθ_spare pθ_saved pθ_text θ, rmW D aρ ρ]) [0, 1, 2] rfl rfl rfl rfl (by decide) ?_
        refine r_astore_n (lv' := [(3, .ref q), (0, .ref aθ), (1, .int x1), (2, .ref o)]) h rfl dL_tray_12 (by decide) rfl ?_
        refine r_iconst (v := 1) h dL_tray_13 (by decide) ?_
        exact r_iret h hr dL_tray_14 ⟨rfl, rfl⟩
      · replace hF := o_neg h0 hF
        cases hF
    | inr r =>
      dsimp only at hF
      refine r_callVB (N0 := 3) (q0 := 0) (rest := [.int 0, .ref o]) h [ouW D o f, rkW D aθ (aρ 0) pθ_spare pθ_saved pθ_text θ, rmW D aρ ρ] [1, 2] [0] hd_X3_tray wm_638 dL_tray_4 (CX3_tray l D aθ pθ_spare pθ_saved pθ_text aρ θ ρ x1 r e) rfl rfl rfl (by decide) rfl rfl rfl ⟨rfl, rfl⟩ ⟨by decide, by decide⟩ (Nat.le_of_ble_eq_true rfl) ⟨by decide, by decide⟩ rfl (fun v w' hp => ?_)
      obtain ⟨rfl, rfl⟩ := hp
      refine J.blk2 (ws' := [ouW D o f, rkW D aθ (aρ 0) pθ_spare pθ_saved pθ_text θ, rmW D aρ ρ].flatten) 3 (pkB [ouW D o f, rkW D aθ (aρ 0) pθ_spare pθ_saved pθ_text θ, rmW D aρ ρ] [0]) ([rkW D aθ (aρ 0) pθ_spare pθ_saved pθ_text θ, rmW D aρ ρ]) [0, 1, 2] rfl rfl rfl rfl (by decide) ?_
      refine r_i2l h dL_tray_7 ?_
      refine r_last (ws' := [ouW D o (vp_updL f ((0 : Int32)).toNatClampNeg r.toInt64), rkW D aθ (aρ 0) pθ_spare pθ_saved pθ_text θ, rmW D aρ ρ].flatten) h 0 rfl (show ¬ (_ ∨ _) by decide) rfl dL_tray_8 ?_
      refine r_goto h 15 dL_tray_9 (by decide) ?_
      refine r_iconst (v := 0) h dL_tray_15 (by decide) ?_
      refine J.widen (k1 := 1) (n1 := 6) (by decide) (by decide) ?_
      cases hF
      exact r_iret h hr dL_tray_16 ⟨rfl, rfl⟩
def FL_value (θ : Int32) (ρ : RS) (x1 : Int32) (f : Nat → Int64) : Option (Int32 × (Nat → Int64)) :=
  match FX3_value θ ρ x1 with
  | none => none
  | some (.inl k) => if k = 2 then some ((1 : Int32), f) else none
  | some (.inr r) => some ((0 : Int32), vp_updL f ((0 : Int32)).toNatClampNeg r.toInt64)
abbrev rmL_value : Room := { frames := 8, cells := 1, slots := 6, locals := 133 }
set_option maxHeartbeats 4000000 in
set_option maxRecDepth 100000 in
theorem CL_value (l : Launch) (hl0 : l.stackTraces = false) (D : va_G) (aθ : Nat) (pθ_spare : Nat) (pθ_saved : Nat) (pθ_text : Nat) (aρ : Nat → Nat) (o : Nat) (θ : Int32) (ρ : RS) (x1 : Int32) (f : Nat → Int64) (r0 : Int32)  (f0 : Nat → Int64) (hF : FL_value θ ρ x1 f = some (r0, f0)) : CtW l D yL_value cL_value 4 (some .int) [((0 : Nat), 9 , 12 , 15 )] rmL_value 1 6 [.ref aθ, .int x1, .ref o] ([ouW D o f, rkW D aθ (aρ 0) pθ_spare pθ_saved pθ_text θ, rmW D aρ ρ].flatten) (fun v w => v = some (.int r0) ∧ w = [ouW D o f0, rkW D aθ (aρ 0) pθ_spare pθ_saved pθ_text θ, rmW D aρ ρ].flatten) := by
  unfold FL_value at hF
  refine CtW.of (own := RL) (lv := [(0, .ref aθ), (1, .int x1), (2, .ref o)]) (by decide +kernel) rfl (Nat.le_of_ble_eq_true rfl) rfl (fun X h hx hr => ?_)
  refine r_aload_n h 2 rfl rfl dL_value_0 ?_
  refine r_iconst (v := 0) h dL_value_1 (by decide) ?_
  refine r_aload_n h 0 rfl rfl dL_value_2 ?_
  refine r_iload_n h 1 rfl rfl dL_value_3 ?_
  cases e : FX3_value θ ρ x1 with
  | none => rw [e] at hF; cases hF
  | some z =>
    rw [e] at hF
    cases z with
    | inl k =>
      dsimp only at hF
      by_cases h0 : k = 2
      · subst h0
        replace hF := o_pos rfl hF
        cases hF
        refine r_callCV (N0 := 3) (q0 := 0) (rest := [.int 0, .ref o]) (E := exn 2) (hh := [((0 : Nat), 9 , 12 , 15 )]) h hx [ouW D o f, rkW D aθ (aρ 0) pθ_spare pθ_saved pθ_text θ, rmW D aρ ρ] [1, 2] [0] hd_X3_value wm_642 dL_value_4 (TX3_value l hl0 D aθ pθ_spare pθ_saved pθ_text aρ θ ρ x1 2 e) rfl rfl rfl (by decide) rfl rfl rfl ⟨rfl, rfl⟩ ⟨by decide, by decide⟩ (Nat.le_of_ble_eq_true rfl) ⟨by decide, by decide⟩ rfl [] ⟨0, 9, 12, 15⟩ [] rfl (fun z hz => nomatch hz) (by decide) (by decide) wm_530 2 (by decide) rfl 12 rfl (fun q => ?_)
        refine J.blk2 (ws' := [ouW D o f, rkW D aθ (aρ 0) pθ_spare pθ_saved pθ_text θ, rmW D aρ ρ].flatten) 3 (pkB [ouW D o f, rkW D aθ (aρ 0) pθ_spare pθ_saved pθ_text θ, rmW D aρ ρ] [0]) ([rkW D aθ (aρ 0) pθ_spare pθ_saved pθ_text θ, rmW D aρ ρ]) [0, 1, 2] rfl rfl rfl rfl (by decide) ?_
        refine r_astore_n (lv' := [(3, .ref q), (0, .ref aθ), (1, .int x1), (2, .ref o)]) h rfl dL_value_12 (by decide) rfl ?_
        refine r_iconst (v := 1) h dL_value_13 (by decide) ?_
        exact r_iret h hr dL_value_14 ⟨rfl, rfl⟩
      · replace hF := o_neg h0 hF
        cases hF
    | inr r =>
      dsimp only at hF
      refine r_callVB (N0 := 3) (q0 := 0) (rest := [.int 0, .ref o]) h [ouW D o f, rkW D aθ (aρ 0) pθ_spare pθ_saved pθ_text θ, rmW D aρ ρ] [1, 2] [0] hd_X3_value wm_642 dL_value_4 (CX3_value l D aθ pθ_spare pθ_saved pθ_text aρ θ ρ x1 r e) rfl rfl rfl (by decide) rfl rfl rfl ⟨rfl, rfl⟩ ⟨by decide, by decide⟩ (Nat.le_of_ble_eq_true rfl) ⟨by decide, by decide⟩ rfl (fun v w' hp => ?_)
      obtain ⟨rfl, rfl⟩ := hp
      refine J.blk2 (ws' := [ouW D o f, rkW D aθ (aρ 0) pθ_spare pθ_saved pθ_text θ, rmW D aρ ρ].flatten) 3 (pkB [ouW D o f, rkW D aθ (aρ 0) pθ_spare pθ_saved pθ_text θ, rmW D aρ ρ] [0]) ([rkW D aθ (aρ 0) pθ_spare pθ_saved pθ_text θ, rmW D aρ ρ]) [0, 1, 2] rfl rfl rfl rfl (by decide) ?_
      refine r_i2l h dL_value_7 ?_
      refine r_last (ws' := [ouW D o (vp_updL f ((0 : Int32)).toNatClampNeg r.toInt64), rkW D aθ (aρ 0) pθ_spare pθ_saved pθ_text θ, rmW D aρ ρ].flatten) h 0 rfl (show ¬ (_ ∨ _) by decide) rfl dL_value_8 ?_
      refine r_goto h 15 dL_value_9 (by decide) ?_
      refine r_iconst (v := 0) h dL_value_15 (by decide) ?_
      refine J.widen (k1 := 1) (n1 := 6) (by decide) (by decide) ?_
      cases hF
      exact r_iret h hr dL_value_16 ⟨rfl, rfl⟩
def FL_move (θ : Int32) (ρ : RS) (S0 : RS) (S1 : RS) (S2 : RS) (S3 : RS) (x1 : Int32) (x2 : Int32) (f : Nat → Int64) : Option (Int32 × Int32 × RS × RS × RS × RS × RS × (Nat → Int64)) :=
  match FX3_move θ ρ S0 S1 S2 S3 x1 x2 with
  | none => none
  | some (.inl k) => if k = 1 then some ((1 : Int32), θ, ρ, S0, S1, S2, S3, f) else if k = 2 then some ((2 : Int32), θ, ρ, S0, S1, S2, S3, f) else none
  | some (.inr r) => some ((0 : Int32), r.2.1, r.2.2.1, r.2.2.2.1, r.2.2.2.2.1, r.2.2.2.2.2.1, r.2.2.2.2.2.2, vp_updL f ((0 : Int32)).toNatClampNeg r.1.toInt64)
abbrev rmL_move : Room := { frames := 8, cells := 1, slots := 6, locals := 165 }
set_option maxHeartbeats 4000000 in
set_option maxRecDepth 100000 in
theorem CL_move (l : Launch) (hl0 : l.stackTraces = false) (D : va_G) (aθ : Nat) (pθ_spare : Nat) (pθ_text : Nat) (aρ : Nat → Nat) (aν : Nat) (aS0 : Nat → Nat) (aS1 : Nat → Nat) (aS2 : Nat → Nat) (aS3 : Nat → Nat) (o : Nat) (θ : Int32) (ρ : RS) (S0 : RS) (S1 : RS) (S2 : RS) (S3 : RS) (x1 : Int32) (x2 : Int32) (f : Nat → Int64) (r0 : Int32) (θ0 : Int32) (ρ0 : RS) (S00 : RS) (S10 : RS) (S20 : RS) (S30 : RS) (f0 : Nat → Int64) (hF : FL_move θ ρ S0 S1 S2 S3 x1 x2 f = some (r0, θ0, ρ0, S00, S10, S20, S30, f0)) : CtW l D yL_move cL_move 5 (some .int) [((0 : Nat), 10 , 13 , 13 ), ((0 : Nat), (10 : Nat), (17 : Nat), (15 : Nat)) ] rmL_move 1 6 [.ref aθ, .int x1, .int x2, .ref o] ([ouW D o f, rkW D aθ (aρ 0) pθ_spare aν pθ_text θ, rmW D aρ ρ, tlW D aν aS0 aS1 aS2 aS3 S0 S1 S2 S3].flatten) (fun v w => v = some (.int r0) ∧ ∃ (bS0 : Nat → Nat) (bS1 : Nat → Nat) (bS2 : Nat → Nat) (bS3 : Nat → Nat), w = [ouW D o f0, rkW D aθ (aρ 0) pθ_spare aν pθ_text θ0, rmW D aρ ρ0, tlW D aν bS0 bS1 bS2 bS3 S00 S10 S20 S30].flatten) := by
  unfold FL_move at hF
  refine CtW.of (own := RL) (lv := [(0, .ref aθ), (1, .int x1), (2, .int x2), (3, .ref o)]) (by decide +kernel) rfl (Nat.le_of_ble_eq_true rfl) rfl (fun X h hx hr => ?_)
  refine r_aload_n h 3 rfl rfl dL_move_0 ?_
  refine r_iconst (v := 0) h dL_move_1 (by decide) ?_
  refine r_aload_n h 0 rfl rfl dL_move_2 ?_
  refine r_iload_n h 1 rfl rfl dL_move_3 ?_
  refine r_iload_n h 2 rfl rfl dL_move_4 ?_
  cases e : FX3_move θ ρ S0 S1 S2 S3 x1 x2 with
  | none => rw [e] at hF; cases hF
  | some z =>
    rw [e] at hF
    cases z with
    | inl k =>
      dsimp only at hF
      by_cases h0 : k = 1
      · subst h0
        replace hF := o_pos rfl hF
        cases hF
        refine r_callCV (N0 := 4) (q0 := 0) (rest := [.int 0, .ref o]) (E := exn 1) (hh := [((0 : Nat), 10 , 13 , 13 ), ((0 : Nat), (10 : Nat), (17 : Nat), (15 : Nat)) ]) h hx [ouW D o f, rkW D aθ (aρ 0) pθ_spare aν pθ_text θ, rmW D aρ ρ, tlW D aν aS0 aS1 aS2 aS3 S0 S1 S2 S3] [1, 2, 3] [0] hdl_X3_move wm_646 dL_move_5 (TX3_move l hl0 D aθ pθ_spare pθ_text aρ aν aS0 aS1 aS2 aS3 θ ρ S0 S1 S2 S3 x1 x2 1 e) rfl rfl rfl (by decide) rfl rfl rfl ⟨rfl, rfl⟩ ⟨by decide, by decide⟩ (Nat.le_of_ble_eq_true rfl) ⟨by decide, by decide⟩ rfl [] ⟨0, 10, 13, 13⟩ [⟨0, 10, 17, 15⟩] rfl (fun z hz => nomatch hz) (by decide) (by decide) wm_529 1 (by decide) rfl 13 rfl (fun q => ?_)
        refine J.blk2 (ws' := [ouW D o f, rkW D aθ (aρ 0) pθ_spare aν pθ_text θ, rmW D aρ ρ, tlW D aν aS0 aS1 aS2 aS3 S0 S1 S2 S3].flatten) 4 (pkB [ouW D o f, rkW D aθ (aρ 0) pθ_spare aν pθ_text θ, rmW D aρ ρ, tlW D aν aS0 aS1 aS2 aS3 S0 S1 S2 S3] [0]) ([rkW D aθ (aρ 0) pθ_spare aν pθ_text θ, rmW D aρ ρ, tlW D aν aS0 aS1 aS2 aS3 S0 S1 S2 S3]) [0, 1, 2, 3] rfl rfl rfl rfl (by decide) ?_
        refine r_astore (lv' := [(4, .ref q), (0, .ref aθ), (1, .int x1), (2, .int x2), (3, .ref o)]) h dL_move_13 (by decide) rfl ?_
        refine r_iconst (v := 1) h dL_move_15 (by decide) ?_
        exact r_iret h hr dL_move_16 ⟨rfl, aS0, aS1, aS2, aS3, rfl⟩
      · replace hF := o_neg h0 hF
        by_cases h1 : k = 2
        · subst h1
          replace hF := o_pos rfl hF
          cases hF
          refine r_callCV (N0 := 4) (q0 := 0) (rest := [.int 0, .ref o]) (E := exn 2) (hh := [((0 : Nat), 10 , 13 , 13 ), ((0 : Nat), (10 : Nat), (17 : Nat), (15 : Nat)) ]) h hx [ouW D o f, rkW D aθ (aρ 0) pθ_spare aν pθ_text θ, rmW D aρ ρ, tlW D aν aS0 aS1 aS2 aS3 S0 S1 S2 S3] [1, 2, 3] [0] hdl_X3_move wm_646 dL_move_5 (TX3_move l hl0 D aθ pθ_spare pθ_text aρ aν aS0 aS1 aS2 aS3 θ ρ S0 S1 S2 S3 x1 x2 2 e) rfl rfl rfl (by decide) rfl rfl rfl ⟨rfl, rfl⟩ ⟨by decide, by decide⟩ (Nat.le_of_ble_eq_true rfl) ⟨by decide, by decide⟩ rfl [⟨0, 10, 13, 13⟩] ⟨0, 10, 17, 15⟩ [] rfl (fun z hz => by rw [List.mem_singleton.mp hz]; exact ⟨by decide, _, wm_529, fun s A hX => hX.2.2.2.2.1⟩) (by decide) (by decide) wm_530 2 (by decide) rfl 17 rfl (fun q => ?_)
          refine J.blk2 (ws' := [ouW D o f, rkW D aθ (aρ 0) pθ_spare aν pθ_text θ, rmW D aρ ρ, tlW D aν aS0 aS1 aS2 aS3 S0 S1 S2 S3].flatten) 4 (pkB [ouW D o f, rkW D aθ (aρ 0) pθ_spare aν pθ_text θ, rmW D aρ ρ, tlW D aν aS0 aS1 aS2 aS3 S0 S1 S2 S3] [0]) ([rkW D aθ (aρ 0) pθ_spare aν pθ_text θ, rmW D aρ ρ, tlW D aν aS0 aS1 aS2 aS3 S0 S1 S2 S3]) [0, 1, 2, 3] rfl rfl rfl rfl (by decide) ?_
          refine r_astore (lv' := [(4, .ref q), (0, .ref aθ), (1, .int x1), (2, .int x2), (3, .ref o)]) h dL_move_17 (by decide) rfl ?_
          refine r_iconst (v := 2) h dL_move_19 (by decide) ?_
          exact r_iret h hr dL_move_20 ⟨rfl, aS0, aS1, aS2, aS3, rfl⟩
        · replace hF := o_neg h1 hF
          cases hF
    | inr r =>
      dsimp only at hF
      refine r_callVB (N0 := 4) (q0 := 0) (rest := [.int 0, .ref o]) h [ouW D o f, rkW D aθ (aρ 0) pθ_spare aν pθ_text θ, rmW D aρ ρ, tlW D aν aS0 aS1 aS2 aS3 S0 S1 S2 S3] [1, 2, 3] [0] hdl_X3_move wm_646 dL_move_5 (CX3_move l D aθ pθ_spare pθ_text aρ aν aS0 aS1 aS2 aS3 θ ρ S0 S1 S2 S3 x1 x2 r.1 r.2.1 r.2.2.1 r.2.2.2.1 r.2.2.2.2.1 r.2.2.2.2.2.1 r.2.2.2.2.2.2 e) rfl rfl rfl (by decide) rfl rfl rfl ⟨rfl, rfl⟩ ⟨by decide, by decide⟩ (Nat.le_of_ble_eq_true rfl) ⟨by decide, by decide⟩ rfl (fun v w' hp => ?_)
      obtain ⟨rfl, nS0, nS1, nS2, nS3, rfl⟩ := hp
      refine J.blk2 (ws' := [ouW D o f, rkW D aθ (aρ 0) pθ_spare aν pθ_text r.2.1, rmW D aρ r.2.2.1, tlW D aν nS0 nS1 nS2 nS3 r.2.2.2.1 r.2.2.2.2.1 r.2.2.2.2.2.1 r.2.2.2.2.2.2].flatten) 4 (pkB [ouW D o f, rkW D aθ (aρ 0) pθ_spare aν pθ_text θ, rmW D aρ ρ, tlW D aν aS0 aS1 aS2 aS3 S0 S1 S2 S3] [0]) ([rkW D aθ (aρ 0) pθ_spare aν pθ_text r.2.1, rmW D aρ r.2.2.1, tlW D aν nS0 nS1 nS2 nS3 r.2.2.2.1 r.2.2.2.2.1 r.2.2.2.2.2.1 r.2.2.2.2.2.2]) [0, 1, 2, 3] rfl rfl rfl rfl (by decide) ?_
      refine r_i2l h dL_move_8 ?_
      refine r_last (ws' := [ouW D o (vp_updL f ((0 : Int32)).toNatClampNeg r.1.toInt64), rkW D aθ (aρ 0) pθ_spare aν pθ_text r.2.1, rmW D aρ r.2.2.1, tlW D aν nS0 nS1 nS2 nS3 r.2.2.2.1 r.2.2.2.2.1 r.2.2.2.2.2.1 r.2.2.2.2.2.2].flatten) h 0 rfl (show ¬ (_ ∨ _) by decide) rfl dL_move_9 ?_
      refine r_goto h 21 dL_move_10 (by decide) ?_
      refine r_iconst (v := 0) h dL_move_21 (by decide) ?_
      refine J.widen (k1 := 1) (n1 := 6) (by decide) (by decide) ?_
      cases hF
      exact r_iret h hr dL_move_22 ⟨rfl, nS0, nS1, nS2, nS3, rfl⟩
def FL_change (θ : Int32) (ρ : RS) (S0 : RS) (S1 : RS) (S2 : RS) (S3 : RS) (x1 : Int32) (x2 : Int32) (f : Nat → Int64) : Option (Int32 × Int32 × RS × RS × RS × RS × RS × (Nat → Int64)) :=
  match FX3_change θ ρ S0 S1 S2 S3 x1 x2 with
  | none => none
  | some (.inl k) => if k = 1 then some ((1 : Int32), θ, ρ, S0, S1, S2, S3, f) else if k = 2 then some ((2 : Int32), θ, ρ, S0, S1, S2, S3, f) else none
  | some (.inr r) => some ((0 : Int32), r.2.1, r.2.2.1, r.2.2.2.1, r.2.2.2.2.1, r.2.2.2.2.2.1, r.2.2.2.2.2.2, vp_updL f ((0 : Int32)).toNatClampNeg r.1.toInt64)
abbrev rmL_change : Room := { frames := 8, cells := 1, slots := 6, locals := 164 }
set_option maxHeartbeats 4000000 in
set_option maxRecDepth 100000 in
theorem CL_change (l : Launch) (hl0 : l.stackTraces = false) (D : va_G) (aθ : Nat) (pθ_spare : Nat) (pθ_text : Nat) (aρ : Nat → Nat) (aν : Nat) (aS0 : Nat → Nat) (aS1 : Nat → Nat) (aS2 : Nat → Nat) (aS3 : Nat → Nat) (o : Nat) (θ : Int32) (ρ : RS) (S0 : RS) (S1 : RS) (S2 : RS) (S3 : RS) (x1 : Int32) (x2 : Int32) (f : Nat → Int64) (r0 : Int32) (θ0 : Int32) (ρ0 : RS) (S00 : RS) (S10 : RS) (S20 : RS) (S30 : RS) (f0 : Nat → Int64) (hF : FL_change θ ρ S0 S1 S2 S3 x1 x2 f = some (r0, θ0, ρ0, S00, S10, S20, S30, f0)) : CtW l D yL_change cL_change 5 (some .int) [((0 : Nat), 10 , 13 , 13 ), ((0 : Nat), (10 : Nat), (17 : Nat), (15 : Nat)) ] rmL_change 1 6 [.ref aθ, .int x1, .int x2, .ref o] ([ouW D o f, rkW D aθ (aρ 0) pθ_spare aν pθ_text θ, rmW D aρ ρ, tlW D aν aS0 aS1 aS2 aS3 S0 S1 S2 S3].flatten) (fun v w => v = some (.int r0) ∧ ∃ (bS0 : Nat → Nat) (bS1 : Nat → Nat) (bS2 : Nat → Nat) (bS3 : Nat → Nat), w = [ouW D o f0, rkW D aθ (aρ 0) pθ_spare aν pθ_text θ0, rmW D aρ ρ0, tlW D aν bS0 bS1 bS2 bS3 S00 S10 S20 S30].flatten) := by
  unfold FL_change at hF
  refine CtW.of (own := RL) (lv := [(0, .ref aθ), (1, .int x1), (2, .int x2), (3, .ref o)]) (by decide +kernel) rfl (Nat.le_of_ble_eq_true rfl) rfl (fun X h hx hr => ?_)
  refine r_aload_n h 3 rfl rfl dL_change_0 ?_
  refine r_iconst (v := 0) h dL_change_1 (by decide) ?_
  refine r_aload_n h 0 rfl rfl dL_change_2 ?_
  refine r_iload_n h 1 rfl rfl dL_change_3 ?_
  refine r_iload_n h 2 rfl rfl dL_change_4 ?_
  cases e : FX3_change θ ρ S0 S1 S2 S3 x1 x2 with
  | none => rw [e] at hF; cases hF
  | some z =>
    rw [e] at hF
    cases z with
    | inl k =>
      dsimp only at hF
      by_cases h0 : k = 1
      · subst h0
        replace hF := o_pos rfl hF
        cases hF
        refine r_callCV (N0 := 4) (q0 := 0) (rest := [.int 0, .ref o]) (E := exn 1) (hh := [((0 : Nat), 10 , 13 , 13 ), ((0 : Nat), (10 : Nat), (17 : Nat), (15 : Nat)) ]) h hx [ouW D o f, rkW D aθ (aρ 0) pθ_spare aν pθ_text θ, rmW D aρ ρ, tlW D aν aS0 aS1 aS2 aS3 S0 S1 S2 S3] [1, 2, 3] [0] hdl_X3_change wm_655 dL_change_5 (TX3_change l hl0 D aθ pθ_spare pθ_text aρ aν aS0 aS1 aS2 aS3 θ ρ S0 S1 S2 S3 x1 x2 1 e) rfl rfl rfl (by decide) rfl rfl rfl ⟨rfl, rfl⟩ ⟨by decide, by decide⟩ (Nat.le_of_ble_eq_true rfl) ⟨by decide, by decide⟩ rfl [] ⟨0, 10, 13, 13⟩ [⟨0, 10, 17, 15⟩] rfl (fun z hz => nomatch hz) (by decide) (by decide) wm_529 1 (by decide) rfl 13 rfl (fun q => ?_)
        refine J.blk2 (ws' := [ouW D o f, rkW D aθ (aρ 0) pθ_spare aν pθ_text θ, rmW D aρ ρ, tlW D aν aS0 aS1 aS2 aS3 S0 S1 S2 S3].flatten) 4 (pkB [ouW D o f, rkW D aθ (aρ 0) pθ_spare aν pθ_text θ, rmW D aρ ρ, tlW D aν aS0 aS1 aS2 aS3 S0 S1 S2 S3] [0]) ([rkW D aθ (aρ 0) pθ_spare aν pθ_text θ, rmW D aρ ρ, tlW D aν aS0 aS1 aS2 aS3 S0 S1 S2 S3]) [0, 1, 2, 3] rfl rfl rfl rfl (by decide) ?_
        refine r_astore (lv' := [(4, .ref q), (0, .ref aθ), (1, .int x1), (2, .int x2), (3, .ref o)]) h dL_change_13 (by decide) rfl ?_
        refine r_iconst (v := 1) h dL_change_15 (by decide) ?_
        exact r_iret h hr dL_change_16 ⟨rfl, aS0, aS1, aS2, aS3, rfl⟩
      · replace hF := o_neg h0 hF
        by_cases h1 : k = 2
        · subst h1
          replace hF := o_pos rfl hF
          cases hF
          refine r_callCV (N0 := 4) (q0 := 0) (rest := [.int 0, .ref o]) (E := exn 2) (hh := [((0 : Nat), 10 , 13 , 13 ), ((0 : Nat), (10 : Nat), (17 : Nat), (15 : Nat)) ]) h hx [ouW D o f, rkW D aθ (aρ 0) pθ_spare aν pθ_text θ, rmW D aρ ρ, tlW D aν aS0 aS1 aS2 aS3 S0 S1 S2 S3] [1, 2, 3] [0] hdl_X3_change wm_655 dL_change_5 (TX3_change l hl0 D aθ pθ_spare pθ_text aρ aν aS0 aS1 aS2 aS3 θ ρ S0 S1 S2 S3 x1 x2 2 e) rfl rfl rfl (by decide) rfl rfl rfl ⟨rfl, rfl⟩ ⟨by decide, by decide⟩ (Nat.le_of_ble_eq_true rfl) ⟨by decide, by decide⟩ rfl [⟨0, 10, 13, 13⟩] ⟨0, 10, 17, 15⟩ [] rfl (fun z hz => by rw [List.mem_singleton.mp hz]; exact ⟨by decide, _, wm_529, fun s A hX => hX.2.2.2.2.1⟩) (by decide) (by decide) wm_530 2 (by decide) rfl 17 rfl (fun q => ?_)
          refine J.blk2 (ws' := [ouW D o f, rkW D aθ (aρ 0) pθ_spare aν pθ_text θ, rmW D aρ ρ, tlW D aν aS0 aS1 aS2 aS3 S0 S1 S2 S3].flatten) 4 (pkB [ouW D o f, rkW D aθ (aρ 0) pθ_spare aν pθ_text θ, rmW D aρ ρ, tlW D aν aS0 aS1 aS2 aS3 S0 S1 S2 S3] [0]) ([rkW D aθ (aρ 0) pθ_spare aν pθ_text θ, rmW D aρ ρ, tlW D aν aS0 aS1 aS2 aS3 S0 S1 S2 S3]) [0, 1, 2, 3] rfl rfl rfl rfl (by decide) ?_
          refine r_astore (lv' := [(4, .ref q), (0, .ref aθ), (1, .int x1), (2, .int x2), (3, .ref o)]) h dL_change_17 (by decide) rfl ?_
          refine r_iconst (v := 2) h dL_change_19 (by decide) ?_
          exact r_iret h hr dL_change_20 ⟨rfl, aS0, aS1, aS2, aS3, rfl⟩
        · replace hF := o_neg h1 hF
          cases hF
    | inr r =>
      dsimp only at hF
      refine r_callVB (N0 := 4) (q0 := 0) (rest := [.int 0, .ref o]) h [ouW D o f, rkW D aθ (aρ 0) pθ_spare aν pθ_text θ, rmW D aρ ρ, tlW D aν aS0 aS1 aS2 aS3 S0 S1 S2 S3] [1, 2, 3] [0] hdl_X3_change wm_655 dL_change_5 (CX3_change l D aθ pθ_spare pθ_text aρ aν aS0 aS1 aS2 aS3 θ ρ S0 S1 S2 S3 x1 x2 r.1 r.2.1 r.2.2.1 r.2.2.2.1 r.2.2.2.2.1 r.2.2.2.2.2.1 r.2.2.2.2.2.2 e) rfl rfl rfl (by decide) rfl rfl rfl ⟨rfl, rfl⟩ ⟨by decide, by decide⟩ (Nat.le_of_ble_eq_true rfl) ⟨by decide, by decide⟩ rfl (fun v w' hp => ?_)
      obtain ⟨rfl, nS0, nS1, nS2, nS3, rfl⟩ := hp
      refine J.blk2 (ws' := [ouW D o f, rkW D aθ (aρ 0) pθ_spare aν pθ_text r.2.1, rmW D aρ r.2.2.1, tlW D aν nS0 nS1 nS2 nS3 r.2.2.2.1 r.2.2.2.2.1 r.2.2.2.2.2.1 r.2.2.2.2.2.2].flatten) 4 (pkB [ouW D o f, rkW D aθ (aρ 0) pθ_spare aν pθ_text θ, rmW D aρ ρ, tlW D aν aS0 aS1 aS2 aS3 S0 S1 S2 S3] [0]) ([rkW D aθ (aρ 0) pθ_spare aν pθ_text r.2.1, rmW D aρ r.2.2.1, tlW D aν nS0 nS1 nS2 nS3 r.2.2.2.1 r.2.2.2.2.1 r.2.2.2.2.2.1 r.2.2.2.2.2.2]) [0, 1, 2, 3] rfl rfl rfl rfl (by decide) ?_
      refine r_i2l h dL_change_8 ?_
      refine r_last (ws' := [ouW D o (vp_updL f ((0 : Int32)).toNatClampNeg r.1.toInt64), rkW D aθ (aρ 0) pθ_spare aν pθ_text r.2.1, rmW D aρ r.2.2.1, tlW D aν nS0 nS1 nS2 nS3 r.2.2.2.1 r.2.2.2.2.1 r.2.2.2.2.2.1 r.2.2.2.2.2.2].flatten) h 0 rfl (show ¬ (_ ∨ _) by decide) rfl dL_change_9 ?_
      refine r_goto h 21 dL_change_10 (by decide) ?_
      refine r_iconst (v := 0) h dL_change_21 (by decide) ?_
      refine J.widen (k1 := 1) (n1 := 6) (by decide) (by decide) ?_
      cases hF
      exact r_iret h hr dL_change_22 ⟨rfl, nS0, nS1, nS2, nS3, rfl⟩
def FL_pile (θ : Int32) (ρ : RS) (x1 : Int32) (x2 : Int32) (f : Nat → Int64) : Option (Int32 × (Nat → Int64)) :=
  match FX3_pile θ ρ x1 x2 with
  | none => none
  | some (.inl k) => if k = 1 then some ((1 : Int32), f) else if k = 2 then some ((2 : Int32), f) else none
  | some (.inr r) => some ((0 : Int32), vp_updL f ((0 : Int32)).toNatClampNeg r.toInt64)
abbrev rmL_pile : Room := { frames := 8, cells := 1, slots := 6, locals := 134 }
set_option maxHeartbeats 4000000 in
set_option maxRecDepth 100000 in
theorem CL_pile (l : Launch) (hl0 : l.stackTraces = false) (D : va_G) (aθ : Nat) (pθ_spare : Nat) (pθ_saved : Nat) (pθ_text : Nat) (aρ : Nat → Nat) (o : Nat) (θ : Int32) (ρ : RS) (x1 : Int32) (x2 : Int32) (f : Nat → Int64) (r0 : Int32)  (f0 : Nat → Int64) (hF : FL_pile θ ρ x1 x2 f = some (r0, f0)) : CtW l D yL_pile cL_pile 5 (some .int) [((0 : Nat), 10 , 13 , 13 ), ((0 : Nat), (10 : Nat), (17 : Nat), (15 : Nat)) ] rmL_pile 1 6 [.ref aθ, .int x1, .int x2, .ref o] ([ouW D o f, rkW D aθ (aρ 0) pθ_spare pθ_saved pθ_text θ, rmW D aρ ρ].flatten) (fun v w => v = some (.int r0) ∧ w = [ouW D o f0, rkW D aθ (aρ 0) pθ_spare pθ_saved pθ_text θ, rmW D aρ ρ].flatten) := by
  unfold FL_pile at hF
  refine CtW.of (own := RL) (lv := [(0, .ref aθ), (1, .int x1), (2, .int x2), (3, .ref o)]) (by decide +kernel) rfl (Nat.le_of_ble_eq_true rfl) rfl (fun X h hx hr => ?_)
  refine r_aload_n h 3 rfl rfl dL_pile_0 ?_
  refine r_iconst (v := 0) h dL_pile_1 (by decide) ?_
  refine r_aload_n h 0 rfl rfl dL_pile_2 ?_
  refine r_iload_n h 1 rfl rfl dL_pile_3 ?_
  refine r_iload_n h 2 rfl rfl dL_pile_4 ?_
  cases e : FX3_pile θ ρ x1 x2 with
  | none => rw [e] at hF; cases hF
  | some z =>
    rw [e] at hF
    cases z with
    | inl k =>
      dsimp only at hF
      by_cases h0 : k = 1
      · subst h0
        replace hF := o_pos rfl hF
        cases hF
        refine r_callCV (N0 := 3) (q0 := 0) (rest := [.int 0, .ref o]) (E := exn 1) (hh := [((0 : Nat), 10 , 13 , 13 ), ((0 : Nat), (10 : Nat), (17 : Nat), (15 : Nat)) ]) h hx [ouW D o f, rkW D aθ (aρ 0) pθ_spare pθ_saved pθ_text θ, rmW D aρ ρ] [1, 2] [0] hd_X3_pile wm_663 dL_pile_5 (TX3_pile l hl0 D aθ pθ_spare pθ_saved pθ_text aρ θ ρ x1 x2 1 e) rfl rfl rfl (by decide) rfl rfl rfl ⟨rfl, rfl⟩ ⟨by decide, by decide⟩ (Nat.le_of_ble_eq_true rfl) ⟨by decide, by decide⟩ rfl [] ⟨0, 10, 13, 13⟩ [⟨0, 10, 17, 15⟩] rfl (fun z hz => nomatch hz) (by decide) (by decide) wm_529 1 (by decide) rfl 13 rfl (fun q => ?_)
        refine J.blk2 (ws' := [ouW D o f, rkW D aθ (aρ 0) pθ_spare pθ_saved pθ_text θ, rmW D aρ ρ].flatten) 3 (pkB [ouW D o f, rkW D aθ (aρ 0) pθ_spare pθ_saved pθ_text θ, rmW D aρ ρ] [0]) ([rkW D aθ (aρ 0) pθ_spare pθ_saved pθ_text θ, rmW D aρ ρ]) [0, 1, 2] rfl rfl rfl rfl (by decide) ?_
        refine r_astore (lv' := [(4, .ref q), (0, .ref aθ), (1, .int x1), (2, .int x2), (3, .ref o)]) h dL_pile_13 (by decide) rfl ?_
        refine r_iconst (v := 1) h dL_pile_15 (by decide) ?_
        exact r_iret h hr dL_pile_16 ⟨rfl, rfl⟩
      · replace hF := o_neg h0 hF
        by_cases h1 : k = 2
        · subst h1
          replace hF := o_pos rfl hF
          cases hF
          refine r_callCV (N0 := 3) (q0 := 0) (rest := [.int 0, .ref o]) (E := exn 2) (hh := [((0 : Nat), 10 , 13 , 13 ), ((0 : Nat), (10 : Nat), (17 : Nat), (15 : Nat)) ]) h hx [ouW D o f, rkW D aθ (aρ 0) pθ_spare pθ_saved pθ_text θ, rmW D aρ ρ] [1, 2] [0] hd_X3_pile wm_663 dL_pile_5 (TX3_pile l hl0 D aθ pθ_spare pθ_saved pθ_text aρ θ ρ x1 x2 2 e) rfl rfl rfl (by decide) rfl rfl rfl ⟨rfl, rfl⟩ ⟨by decide, by decide⟩ (Nat.le_of_ble_eq_true rfl) ⟨by decide, by decide⟩ rfl [⟨0, 10, 13, 13⟩] ⟨0, 10, 17, 15⟩ [] rfl (fun z hz => by rw [List.mem_singleton.mp hz]; exact ⟨by decide, _, wm_529, fun s A hX => hX.2.2.2.2.1⟩) (by decide) (by decide) wm_530 2 (by decide) rfl 17 rfl (fun q => ?_)
          refine J.blk2 (ws' := [ouW D o f, rkW D aθ (aρ 0) pθ_spare pθ_saved pθ_text θ, rmW D aρ ρ].flatten) 3 (pkB [ouW D o f, rkW D aθ (aρ 0) pθ_spare pθ_saved pθ_text θ, rmW D aρ ρ] [0]) ([rkW D aθ (aρ 0) pθ_spare pθ_saved pθ_text θ, rmW D aρ ρ]) [0, 1, 2] rfl rfl rfl rfl (by decide) ?_
          refine r_astore (lv' := [(4, .ref q), (0, .ref aθ), (1, .int x1), (2, .int x2), (3, .ref o)]) h dL_pile_17 (by decide) rfl ?_
          refine r_iconst (v := 2) h dL_pile_19 (by decide) ?_
          exact r_iret h hr dL_pile_20 ⟨rfl, rfl⟩
        · replace hF := o_neg h1 hF
          cases hF
    | inr r =>
      dsimp only at hF
      refine r_callVB (N0 := 3) (q0 := 0) (rest := [.int 0, .ref o]) h [ouW D o f, rkW D aθ (aρ 0) pθ_spare pθ_saved pθ_text θ, rmW D aρ ρ] [1, 2] [0] hd_X3_pile wm_663 dL_pile_5 (CX3_pile l D aθ pθ_spare pθ_saved pθ_text aρ θ ρ x1 x2 r e) rfl rfl rfl (by decide) rfl rfl rfl ⟨rfl, rfl⟩ ⟨by decide, by decide⟩ (Nat.le_of_ble_eq_true rfl) ⟨by decide, by decide⟩ rfl (fun v w' hp => ?_)
      obtain ⟨rfl, rfl⟩ := hp
      refine J.blk2 (ws' := [ouW D o f, rkW D aθ (aρ 0) pθ_spare pθ_saved pθ_text θ, rmW D aρ ρ].flatten) 3 (pkB [ouW D o f, rkW D aθ (aρ 0) pθ_spare pθ_saved pθ_text θ, rmW D aρ ρ] [0]) ([rkW D aθ (aρ 0) pθ_spare pθ_saved pθ_text θ, rmW D aρ ρ]) [0, 1, 2] rfl rfl rfl rfl (by decide) ?_
      refine r_i2l h dL_pile_8 ?_
      refine r_last (ws' := [ouW D o (vp_updL f ((0 : Int32)).toNatClampNeg r.toInt64), rkW D aθ (aρ 0) pθ_spare pθ_saved pθ_text θ, rmW D aρ ρ].flatten) h 0 rfl (show ¬ (_ ∨ _) by decide) rfl dL_pile_9 ?_
      refine r_goto h 21 dL_pile_10 (by decide) ?_
      refine r_iconst (v := 0) h dL_pile_21 (by decide) ?_
      refine J.widen (k1 := 1) (n1 := 6) (by decide) (by decide) ?_
      cases hF
      exact r_iret h hr dL_pile_22 ⟨rfl, rfl⟩
def FL_mayMove (θ : Int32) (ρ : RS) (x1 : Int32) (x2 : Int32) (f : Nat → Int64) : Option (Int32 × RS × (Nat → Int64)) :=
  match FX3_mayMove θ ρ x1 x2 with
  | none => none
  | some (.inl k) => if k = 1 then some ((1 : Int32), ρ, f) else if k = 2 then some ((2 : Int32), ρ, f) else none
  | some (.inr r) => some ((0 : Int32), r.2, vp_updL f ((0 : Int32)).toNatClampNeg r.1.toInt64)
abbrev rmL_mayMove : Room := { frames := 8, cells := 1, slots := 6, locals := 164 }
set_option maxHeartbeats 4000000 in
set_option maxRecDepth 100000 in
theorem CL_mayMove (l : Launch) (hl0 : l.stackTraces = false) (D : va_G) (aθ : Nat) (pθ_spare : Nat) (pθ_saved : Nat) (pθ_text : Nat) (aρ : Nat → Nat) (o : Nat) (θ : Int32) (ρ : RS) (x1 : Int32) (x2 : Int32) (f : Nat → Int64) (r0 : Int32) (ρ0 : RS) (f0 : Nat → Int64) (hF : FL_mayMove θ ρ x1 x2 f = some (r0, ρ0, f0)) : CtW l D yL_mayMove cL_mayMove 5 (some .int) [((0 : Nat), 10 , 13 , 13 ), ((0 : Nat), (10 : Nat), (17 : Nat), (15 : Nat)) ] rmL_mayMove 1 6 [.ref aθ, .int x1, .int x2, .ref o] ([ouW D o f, rkW D aθ (aρ 0) pθ_spare pθ_saved pθ_text θ, rmW D aρ ρ].flatten) (fun v w => v = some (.int r0) ∧ w = [ouW D o f0, rkW D aθ (aρ 0) pθ_spare pθ_saved pθ_text θ, rmW D aρ ρ0].flatten) := by
  unfold FL_mayMove at hF
  refine CtW.of (own := RL) (lv := [(0, .ref aθ), (1, .int x1), (2, .int x2), (3, .ref o)]) (by decide +kernel) rfl (Nat.le_of_ble_eq_true rfl) rfl (fun X h hx hr => ?_)
  refine r_aload_n h 3 rfl rfl dL_mayMove_0 ?_
  refine r_iconst (v := 0) h dL_mayMove_1 (by decide) ?_
  refine r_aload_n h 0 rfl rfl dL_mayMove_2 ?_
  refine r_iload_n h 1 rfl rfl dL_mayMove_3 ?_
  refine r_iload_n h 2 rfl rfl dL_mayMove_4 ?_
  cases e : FX3_mayMove θ ρ x1 x2 with
  | none => rw [e] at hF; cases hF
  | some z =>
    rw [e] at hF
    cases z with
    | inl k =>
      dsimp only at hF
      by_cases h0 : k = 1
      · subst h0
        replace hF := o_pos rfl hF
        cases hF
        refine r_callCV (N0 := 3) (q0 := 0) (rest := [.int 0, .ref o]) (E := exn 1) (hh := [((0 : Nat), 10 , 13 , 13 ), ((0 : Nat), (10 : Nat), (17 : Nat), (15 : Nat)) ]) h hx [ouW D o f, rkW D aθ (aρ 0) pθ_spare pθ_saved pθ_text θ, rmW D aρ ρ] [1, 2] [0] hdl_X3_mayMove wm_667 dL_mayMove_5 (TX3_mayMove l hl0 D aθ pθ_spare pθ_saved pθ_text aρ θ ρ x1 x2 1 e) rfl rfl rfl (by decide) rfl rfl rfl ⟨rfl, rfl⟩ ⟨by decide, by decide⟩ (Nat.le_of_ble_eq_true rfl) ⟨by decide, by decide⟩ rfl [] ⟨0, 10, 13, 13⟩ [⟨0, 10, 17, 15⟩] rfl (fun z hz => nomatch hz) (by decide) (by decide) wm_529 1 (by decide) rfl 13 rfl (fun q => ?_)
        refine J.blk2 (ws' := [ouW D o f, rkW D aθ (aρ 0) pθ_spare pθ_saved pθ_text θ, rmW D aρ ρ].flatten) 3 (pkB [ouW D o f, rkW D aθ (aρ 0) pθ_spare pθ_saved pθ_text θ, rmW D aρ ρ] [0]) ([rkW D aθ (aρ 0) pθ_spare pθ_saved pθ_text θ, rmW D aρ ρ]) [0, 1, 2] rfl rfl rfl rfl (by decide) ?_
        refine r_astore (lv' := [(4, .ref q), (0, .ref aθ), (1, .int x1), (2, .int x2), (3, .ref o)]) h dL_mayMove_13 (by decide) rfl ?_
        refine r_iconst (v := 1) h dL_mayMove_15 (by decide) ?_
        exact r_iret h hr dL_mayMove_16 ⟨rfl, rfl⟩
      · replace hF := o_neg h0 hF
        by_cases h1 : k = 2
        · subst h1
          replace hF := o_pos rfl hF
          cases hF
          refine r_callCV (N0 := 3) (q0 := 0) (rest := [.int 0, .ref o]) (E := exn 2) (hh := [((0 : Nat), 10 , 13 , 13 ), ((0 : Nat), (10 : Nat), (17 : Nat), (15 : Nat)) ]) h hx [ouW D o f, rkW D aθ (aρ 0) pθ_spare pθ_saved pθ_text θ, rmW D aρ ρ] [1, 2] [0] hdl_X3_mayMove wm_667 dL_mayMove_5 (TX3_mayMove l hl0 D aθ pθ_spare pθ_saved pθ_text aρ θ ρ x1 x2 2 e) rfl rfl rfl (by decide) rfl rfl rfl ⟨rfl, rfl⟩ ⟨by decide, by decide⟩ (Nat.le_of_ble_eq_true rfl) ⟨by decide, by decide⟩ rfl [⟨0, 10, 13, 13⟩] ⟨0, 10, 17, 15⟩ [] rfl (fun z hz => by rw [List.mem_singleton.mp hz]; exact ⟨by decide, _, wm_529, fun s A hX => hX.2.2.2.2.1⟩) (by decide) (by decide) wm_530 2 (by decide) rfl 17 rfl (fun q => ?_)
          refine J.blk2 (ws' := [ouW D o f, rkW D aθ (aρ 0) pθ_spare pθ_saved pθ_text θ, rmW D aρ ρ].flatten) 3 (pkB [ouW D o f, rkW D aθ (aρ 0) pθ_spare pθ_saved pθ_text θ, rmW D aρ ρ] [0]) ([rkW D aθ (aρ 0) pθ_spare pθ_saved pθ_text θ, rmW D aρ ρ]) [0, 1, 2] rfl rfl rfl rfl (by decide) ?_
          refine r_astore (lv' := [(4, .ref q), (0, .ref aθ), (1, .int x1), (2, .int x2), (3, .ref o)]) h dL_mayMove_17 (by decide) rfl ?_
          refine r_iconst (v := 2) h dL_mayMove_19 (by decide) ?_
          exact r_iret h hr dL_mayMove_20 ⟨rfl, rfl⟩
        · replace hF := o_neg h1 hF
          cases hF
    | inr r =>
      dsimp only at hF
      refine r_callVB (N0 := 3) (q0 := 0) (rest := [.int 0, .ref o]) h [ouW D o f, rkW D aθ (aρ 0) pθ_spare pθ_saved pθ_text θ, rmW D aρ ρ] [1, 2] [0] hdl_X3_mayMove wm_667 dL_mayMove_5 (CX3_mayMove l D aθ pθ_spare pθ_saved pθ_text aρ θ ρ x1 x2 r.1 r.2 e) rfl rfl rfl (by decide) rfl rfl rfl ⟨rfl, rfl⟩ ⟨by decide, by decide⟩ (Nat.le_of_ble_eq_true rfl) ⟨by decide, by decide⟩ rfl (fun v w' hp => ?_)
      obtain ⟨rfl, rfl⟩ := hp
      refine J.blk2 (ws' := [ouW D o f, rkW D aθ (aρ 0) pθ_spare pθ_saved pθ_text θ, rmW D aρ r.2].flatten) 3 (pkB [ouW D o f, rkW D aθ (aρ 0) pθ_spare pθ_saved pθ_text θ, rmW D aρ ρ] [0]) ([rkW D aθ (aρ 0) pθ_spare pθ_saved pθ_text θ, rmW D aρ r.2]) [0, 1, 2] rfl rfl rfl rfl (by decide) ?_
      refine r_i2l h dL_mayMove_8 ?_
      refine r_last (ws' := [ouW D o (vp_updL f ((0 : Int32)).toNatClampNeg r.1.toInt64), rkW D aθ (aρ 0) pθ_spare pθ_saved pθ_text θ, rmW D aρ r.2].flatten) h 0 rfl (show ¬ (_ ∨ _) by decide) rfl dL_mayMove_9 ?_
      refine r_goto h 21 dL_mayMove_10 (by decide) ?_
      refine r_iconst (v := 0) h dL_mayMove_21 (by decide) ?_
      refine J.widen (k1 := 1) (n1 := 6) (by decide) (by decide) ?_
      cases hF
      exact r_iret h hr dL_mayMove_22 ⟨rfl, rfl⟩
def FL_bestRack (θ : Int32) (ρ : RS) (x1 : Int32) (f : Nat → Int64) : Option (Int32 × RS × (Nat → Int64)) :=
  match FX3_bestRack θ ρ x1 with
  | none => none
  | some (.inl k) => if k = 1 then some ((1 : Int32), ρ, f) else none
  | some (.inr r) => some ((0 : Int32), r.2, vp_updL f ((0 : Int32)).toNatClampNeg r.1.toInt64)
abbrev rmL_bestRack : Room := { frames := 8, cells := 1, slots := 6, locals := 167 }
set_option maxHeartbeats 4000000 in
set_option maxRecDepth 100000 in
theorem CL_bestRack (l : Launch) (hl0 : l.stackTraces = false) (D : va_G) (aθ : Nat) (pθ_spare : Nat) (pθ_saved : Nat) (pθ_text : Nat) (aρ : Nat → Nat) (o : Nat) (θ : Int32) (ρ : RS) (x1 : Int32) (f : Nat → Int64) (r0 : Int32) (ρ0 : RS) (f0 : Nat → Int64) (hF : FL_bestRack θ ρ x1 f = some (r0, ρ0, f0)) : CtW l D yL_bestRack cL_bestRack 4 (some .int) [((0 : Nat), 9 , 12 , 13 )] rmL_bestRack 1 6 [.ref aθ, .int x1, .ref o] ([ouW D o f, rkW D aθ (aρ 0) pθ_spare pθ_saved pθ_text θ, rmW D aρ ρ].flatten) (fun v w => v = some (.int r0) ∧ w = [ouW D o f0, rkW D aθ (aρ 0) pθ_spare pθ_saved pθ_text θ, rmW D aρ ρ0].flatten) := by
  unfold FL_bestRack at hF
  refine CtW.of (own := RL) (lv := [(0, .ref aθ), (1, .int x1), (2, .ref o)]) (by decide +kernel) rfl (Nat.le_of_ble_eq_true rfl) rfl (fun X h hx hr => ?_)
  refine r_aload_n h 2 rfl rfl dL_bestRack_0 ?_
  refine r_iconst (v := 0) h dL_bestRack_1 (by decide) ?_
  refine r_aload_n h 0 rfl rfl dL_bestRack_2 ?_
  refine r_iload_n h 1 rfl rfl dL_bestRack_3 ?_
  cases e : FX3_bestRack θ ρ x1 with
  | none => rw [e] at hF; cases hF
  | some z =>
    rw [e] at hF
    cases z with
    | inl k =>
      dsimp only at hF
      by_cases h0 : k = 1
      · subst h0
        replace hF := o_pos rfl hF
        cases hF
        refine r_callCV (N0 := 3) (q0 := 0) (rest := [.int 0, .ref o]) (E := exn 1) (hh := [((0 : Nat), 9 , 12 , 13 )]) h hx [ouW D o f, rkW D aθ (aρ 0) pθ_spare pθ_saved pθ_text θ, rmW D aρ ρ] [1, 2] [0] hdl_X3_bestRack wm_674 dL_bestRack_4 (TX3_bestRack l hl0 D aθ pθ_spare pθ_saved pθ_text aρ θ ρ x1 1 e) rfl rfl rfl (by decide) rfl rfl rfl ⟨rfl, rfl⟩ ⟨by decide, by decide⟩ (Nat.le_of_ble_eq_true rfl) ⟨by decide, by decide⟩ rfl [] ⟨0, 9, 12, 13⟩ [] rfl (fun z hz => nomatch hz) (by decide) (by decide) wm_529 1 (by decide) rfl 12 rfl (fun q => ?_)
        refine J.blk2 (ws' := [ouW D o f, rkW D aθ (aρ 0) pθ_spare pθ_saved pθ_text θ, rmW D aρ ρ].flatten) 3 (pkB [ouW D o f, rkW D aθ (aρ 0) pθ_spare pθ_saved pθ_text θ, rmW D aρ ρ] [0]) ([rkW D aθ (aρ 0) pθ_spare pθ_saved pθ_text θ, rmW D aρ ρ]) [0, 1, 2] rfl rfl rfl rfl (by decide) ?_
        refine r_astore_n (lv' := [(3, .ref q), (0, .ref aθ), (1, .int x1), (2, .ref o)]) h rfl dL_bestRack_12 (by decide) rfl ?_
        refine r_iconst (v := 1) h dL_bestRack_13 (by decide) ?_
        exact r_iret h hr dL_bestRack_14 ⟨rfl, rfl⟩
      · replace hF := o_neg h0 hF
        cases hF
    | inr r =>
      dsimp only at hF
      refine r_callVB (N0 := 3) (q0 := 0) (rest := [.int 0, .ref o]) h [ouW D o f, rkW D aθ (aρ 0) pθ_spare pθ_saved pθ_text θ, rmW D aρ ρ] [1, 2] [0] hdl_X3_bestRack wm_674 dL_bestRack_4 (CX3_bestRack l D aθ pθ_spare pθ_saved pθ_text aρ θ ρ x1 r.1 r.2 e) rfl rfl rfl (by decide) rfl rfl rfl ⟨rfl, rfl⟩ ⟨by decide, by decide⟩ (Nat.le_of_ble_eq_true rfl) ⟨by decide, by decide⟩ rfl (fun v w' hp => ?_)
      obtain ⟨rfl, rfl⟩ := hp
      refine J.blk2 (ws' := [ouW D o f, rkW D aθ (aρ 0) pθ_spare pθ_saved pθ_text θ, rmW D aρ r.2].flatten) 3 (pkB [ouW D o f, rkW D aθ (aρ 0) pθ_spare pθ_saved pθ_text θ, rmW D aρ ρ] [0]) ([rkW D aθ (aρ 0) pθ_spare pθ_saved pθ_text θ, rmW D aρ r.2]) [0, 1, 2] rfl rfl rfl rfl (by decide) ?_
      refine r_i2l h dL_bestRack_7 ?_
      refine r_last (ws' := [ouW D o (vp_updL f ((0 : Int32)).toNatClampNeg r.1.toInt64), rkW D aθ (aρ 0) pθ_spare pθ_saved pθ_text θ, rmW D aρ r.2].flatten) h 0 rfl (show ¬ (_ ∨ _) by decide) rfl dL_bestRack_8 ?_
      refine r_goto h 15 dL_bestRack_9 (by decide) ?_
      refine r_iconst (v := 0) h dL_bestRack_15 (by decide) ?_
      refine J.widen (k1 := 1) (n1 := 6) (by decide) (by decide) ?_
      cases hF
      exact r_iret h hr dL_bestRack_16 ⟨rfl, rfl⟩
def FL_append (θ : Int32) (τ : TXS) (x1 : Int32) (f : Nat → Int64) : Option (Int32 × TXS × (Nat → Int64)) :=
  match FX3_append θ τ x1 with
  | none => none
  | some (.inl k) => if k = 2 then some ((1 : Int32), τ, f) else if k = 3 then some ((2 : Int32), τ, f) else none
  | some (.inr r) => some ((0 : Int32), r.2, vp_updL f ((0 : Int32)).toNatClampNeg r.1.toInt64)
abbrev rmL_append : Room := { frames := 8, cells := 1, slots := 6, locals := 133 }
set_option maxHeartbeats 4000000 in
set_option maxRecDepth 100000 in
theorem CL_append (l : Launch) (hl0 : l.stackTraces = false) (D : va_G) (aθ : Nat) (pθ_room : Nat) (pθ_spare : Nat) (pθ_saved : Nat) (aτ : Nat → Nat) (o : Nat) (θ : Int32) (τ : TXS) (x1 : Int32) (f : Nat → Int64) (r0 : Int32) (τ0 : TXS) (f0 : Nat → Int64) (hF : FL_append θ τ x1 f = some (r0, τ0, f0)) : CtW l D yL_append cL_append 4 (some .int) [((0 : Nat), 9 , 12 , 15 ), ((0 : Nat), (9 : Nat), (15 : Nat), (28 : Nat)) ] rmL_append 1 6 [.ref aθ, .int x1, .ref o] ([ouW D o f, rkW D aθ pθ_room pθ_spare pθ_saved (aτ 0) θ, txW D aτ τ].flatten) (fun v w => v = some (.int r0) ∧ w = [ouW D o f0, rkW D aθ pθ_room pθ_spare pθ_saved (aτ 0) θ, txW D aτ τ0].flatten) := by
  unfold FL_append at hF
  refine CtW.of (own := RL) (lv := [(0, .ref aθ), (1, .int x1), (2, .ref o)]) (by decide +kernel) rfl (Nat.le_of_ble_eq_true rfl) rfl (fun X h hx hr => ?_)
  refine r_aload_n h 2 rfl rfl dL_append_0 ?_
  refine r_iconst (v := 0) h dL_append_1 (by decide) ?_
  refine r_aload_n h 0 rfl rfl dL_append_2 ?_
  refine r_iload_n h 1 rfl rfl dL_append_3 ?_
  cases e : FX3_append θ τ x1 with
  | none => rw [e] at hF; cases hF
  | some z =>
    rw [e] at hF
    cases z with
    | inl k =>
      dsimp only at hF
      by_cases h0 : k = 2
      · subst h0
        replace hF := o_pos rfl hF
        cases hF
        refine r_callCV (N0 := 3) (q0 := 0) (rest := [.int 0, .ref o]) (E := exn 2) (hh := [((0 : Nat), 9 , 12 , 15 ), ((0 : Nat), (9 : Nat), (15 : Nat), (28 : Nat)) ]) h hx [ouW D o f, rkW D aθ pθ_room pθ_spare pθ_saved (aτ 0) θ, txW D aτ τ] [1, 2] [0] hdl_X3_append wm_685 dL_append_4 (TX3_append l hl0 D aθ pθ_room pθ_spare pθ_saved aτ θ τ x1 2 e) rfl rfl rfl (by decide) rfl rfl rfl ⟨rfl, rfl⟩ ⟨by decide, by decide⟩ (Nat.le_of_ble_eq_true rfl) ⟨by decide, by decide⟩ rfl [] ⟨0, 9, 12, 15⟩ [⟨0, 9, 15, 28⟩] rfl (fun z hz => nomatch hz) (by decide) (by decide) wm_530 2 (by decide) rfl 12 rfl (fun q => ?_)
        refine J.blk2 (ws' := [ouW D o f, rkW D aθ pθ_room pθ_spare pθ_saved (aτ 0) θ, txW D aτ τ].flatten) 3 (pkB [ouW D o f, rkW D aθ pθ_room pθ_spare pθ_saved (aτ 0) θ, txW D aτ τ] [0]) ([rkW D aθ pθ_room pθ_spare pθ_saved (aτ 0) θ, txW D aτ τ]) [0, 1, 2] rfl rfl rfl rfl (by decide) ?_
        refine r_astore_n (lv' := [(3, .ref q), (0, .ref aθ), (1, .int x1), (2, .ref o)]) h rfl dL_append_12 (by decide) rfl ?_
        refine r_iconst (v := 1) h dL_append_13 (by decide) ?_
        exact r_iret h hr dL_append_14 ⟨rfl, rfl⟩
      · replace hF := o_neg h0 hF
        by_cases h1 : k = 3
        · subst h1
          replace hF := o_pos rfl hF
          cases hF
          refine r_callCV (N0 := 3) (q0 := 0) (rest := [.int 0, .ref o]) (E := exn 3) (hh := [((0 : Nat), 9 , 12 , 15 ), ((0 : Nat), (9 : Nat), (15 : Nat), (28 : Nat)) ]) h hx [ouW D o f, rkW D aθ pθ_room pθ_spare pθ_saved (aτ 0) θ, txW D aτ τ] [1, 2] [0] hdl_X3_append wm_685 dL_append_4 (TX3_append l hl0 D aθ pθ_room pθ_spare pθ_saved aτ θ τ x1 3 e) rfl rfl rfl (by decide) rfl rfl rfl ⟨rfl, rfl⟩ ⟨by decide, by decide⟩ (Nat.le_of_ble_eq_true rfl) ⟨by decide, by decide⟩ rfl [⟨0, 9, 12, 15⟩] ⟨0, 9, 15, 28⟩ [] rfl (fun z hz => by rw [List.mem_singleton.mp hz]; exact ⟨by decide, _, wm_530, fun s A hX => hX.2.2.2.2.2.2.2.1⟩) (by decide) (by decide) wm_552 3 (by decide) rfl 15 rfl (fun q => ?_)
          refine J.blk2 (ws' := [ouW D o f, rkW D aθ pθ_room pθ_spare pθ_saved (aτ 0) θ, txW D aτ τ].flatten) 3 (pkB [ouW D o f, rkW D aθ pθ_room pθ_spare pθ_saved (aτ 0) θ, txW D aτ τ] [0]) ([rkW D aθ pθ_room pθ_spare pθ_saved (aτ 0) θ, txW D aτ τ]) [0, 1, 2] rfl rfl rfl rfl (by decide) ?_
          refine r_astore_n (lv' := [(3, .ref q), (0, .ref aθ), (1, .int x1), (2, .ref o)]) h rfl dL_append_15 (by decide) rfl ?_
          refine r_iconst (v := 2) h dL_append_16 (by decide) ?_
          exact r_iret h hr dL_append_17 ⟨rfl, rfl⟩
        · replace hF := o_neg h1 hF
          cases hF
    | inr r =>
      dsimp only at hF
      refine r_callVB (N0 := 3) (q0 := 0) (rest := [.int 0, .ref o]) h [ouW D o f, rkW D aθ pθ_room pθ_spare pθ_saved (aτ 0) θ, txW D aτ τ] [1, 2] [0] hdl_X3_append wm_685 dL_append_4 (CX3_append l D aθ pθ_room pθ_spare pθ_saved aτ θ τ x1 r.1 r.2 e) rfl rfl rfl (by decide) rfl rfl rfl ⟨rfl, rfl⟩ ⟨by decide, by decide⟩ (Nat.le_of_ble_eq_true rfl) ⟨by decide, by decide⟩ rfl (fun v w' hp => ?_)
      obtain ⟨rfl, rfl⟩ := hp
      refine J.blk2 (ws' := [ouW D o f, rkW D aθ pθ_room pθ_spare pθ_saved (aτ 0) θ, txW D aτ r.2].flatten) 3 (pkB [ouW D o f, rkW D aθ pθ_room pθ_spare pθ_saved (aτ 0) θ, txW D aτ τ] [0]) ([rkW D aθ pθ_room pθ_spare pθ_saved (aτ 0) θ, txW D aτ r.2]) [0, 1, 2] rfl rfl rfl rfl (by decide) ?_
      refine r_i2l h dL_append_7 ?_
      refine r_last (ws' := [ouW D o (vp_updL f ((0 : Int32)).toNatClampNeg r.1.toInt64), rkW D aθ pθ_room pθ_spare pθ_saved (aτ 0) θ, txW D aτ r.2].flatten) h 0 rfl (show ¬ (_ ∨ _) by decide) rfl dL_append_8 ?_
      refine r_goto h 18 dL_append_9 (by decide) ?_
      refine r_iconst (v := 0) h dL_append_18 (by decide) ?_
      refine J.widen (k1 := 1) (n1 := 6) (by decide) (by decide) ?_
      cases hF
      exact r_iret h hr dL_append_19 ⟨rfl, rfl⟩
def FL_undo (θ : Int32) (ρ : RS) (S0 : RS) (S1 : RS) (S2 : RS) (S3 : RS)  (f : Nat → Int64) : Option (Int32 × Int32 × RS × RS × RS × RS × RS × (Nat → Int64)) :=
  match FX3_undo θ ρ S0 S1 S2 S3 with
  | none => none
  | some (.inl k) => if k = 3 then some ((1 : Int32), θ, ρ, S0, S1, S2, S3, f) else none
  | some (.inr r) => some ((0 : Int32), r.2.1, r.2.2.1, r.2.2.2.1, r.2.2.2.2.1, r.2.2.2.2.2.1, r.2.2.2.2.2.2, vp_updL f ((0 : Int32)).toNatClampNeg r.1.toInt64)
abbrev rmL_undo : Room := { frames := 7, cells := 1, slots := 6, locals := 111 }
set_option maxHeartbeats 4000000 in
set_option maxRecDepth 100000 in
theorem CL_undo (l : Launch) (hl0 : l.stackTraces = false) (D : va_G) (aθ : Nat) (pθ_spare : Nat) (pθ_text : Nat) (aρ : Nat → Nat) (aν : Nat) (aS0 : Nat → Nat) (aS1 : Nat → Nat) (aS2 : Nat → Nat) (aS3 : Nat → Nat) (o : Nat) (θ : Int32) (ρ : RS) (S0 : RS) (S1 : RS) (S2 : RS) (S3 : RS)  (f : Nat → Int64) (r0 : Int32) (θ0 : Int32) (ρ0 : RS) (S00 : RS) (S10 : RS) (S20 : RS) (S30 : RS) (f0 : Nat → Int64) (hF : FL_undo θ ρ S0 S1 S2 S3 f = some (r0, θ0, ρ0, S00, S10, S20, S30, f0)) : CtW l D yL_undo cL_undo 3 (some .int) [((0 : Nat), 8 , 11 , 28 )] rmL_undo 1 6 [.ref aθ, .ref o] ([ouW D o f, rkW D aθ (aρ 0) pθ_spare aν pθ_text θ, rmW D aρ ρ, tlW D aν aS0 aS1 aS2 aS3 S0 S1 S2 S3].flatten) (fun v w => v = some (.int r0) ∧ ∃ (bρ : Nat → Nat) (bS0 : Nat → Nat) (bS1 : Nat → Nat) (bS2 : Nat → Nat) (bS3 : Nat → Nat), w = [ouW D o f0, rkW D aθ (bρ 0) pθ_spare aν pθ_text θ0, rmW D bρ ρ0, tlW D aν bS0 bS1 bS2 bS3 S00 S10 S20 S30].flatten) := by
  unfold FL_undo at hF
  refine CtW.of (own := RL) (lv := [(0, .ref aθ), (1, .ref o)]) (by decide +kernel) rfl (Nat.le_of_ble_eq_true rfl) rfl (fun X h hx hr => ?_)
  refine r_aload_n h 1 rfl rfl dL_undo_0 ?_
  refine r_iconst (v := 0) h dL_undo_1 (by decide) ?_
  refine r_aload_n h 0 rfl rfl dL_undo_2 ?_
  cases e : FX3_undo θ ρ S0 S1 S2 S3 with
  | none => rw [e] at hF; cases hF
  | some z =>
    rw [e] at hF
    cases z with
    | inl k =>
      dsimp only at hF
      by_cases h0 : k = 3
      · subst h0
        replace hF := o_pos rfl hF
        cases hF
        refine r_callCV (N0 := 4) (q0 := 0) (rest := [.int 0, .ref o]) (E := exn 3) (hh := [((0 : Nat), 8 , 11 , 28 )]) h hx [ouW D o f, rkW D aθ (aρ 0) pθ_spare aν pθ_text θ, rmW D aρ ρ, tlW D aν aS0 aS1 aS2 aS3 S0 S1 S2 S3] [1, 2, 3] [0] hdl_X3_undo wm_693 dL_undo_3 (TX3_undo l hl0 D aθ pθ_spare pθ_text aρ aν aS0 aS1 aS2 aS3 θ ρ S0 S1 S2 S3 3 e) rfl rfl rfl (by decide) rfl rfl rfl ⟨rfl, rfl⟩ ⟨by decide, by decide⟩ (Nat.le_of_ble_eq_true rfl) ⟨by decide, by decide⟩ rfl [] ⟨0, 8, 11, 28⟩ [] rfl (fun z hz => nomatch hz) (by decide) (by decide) wm_552 3 (by decide) rfl 11 rfl (fun q => ?_)
        refine J.blk2 (ws' := [ouW D o f, rkW D aθ (aρ 0) pθ_spare aν pθ_text θ, rmW D aρ ρ, tlW D aν aS0 aS1 aS2 aS3 S0 S1 S2 S3].flatten) 4 (pkB [ouW D o f, rkW D aθ (aρ 0) pθ_spare aν pθ_text θ, rmW D aρ ρ, tlW D aν aS0 aS1 aS2 aS3 S0 S1 S2 S3] [0]) ([rkW D aθ (aρ 0) pθ_spare aν pθ_text θ, rmW D aρ ρ, tlW D aν aS0 aS1 aS2 aS3 S0 S1 S2 S3]) [0, 1, 2, 3] rfl rfl rfl rfl (by decide) ?_
        refine r_astore_n (lv' := [(2, .ref q), (0, .ref aθ), (1, .ref o)]) h rfl dL_undo_11 (by decide) rfl ?_
        refine r_iconst (v := 1) h dL_undo_12 (by decide) ?_
        exact r_iret h hr dL_undo_13 ⟨rfl, aρ, aS0, aS1, aS2, aS3, rfl⟩
      · replace hF := o_neg h0 hF
        cases hF
    | inr r =>
      dsimp only at hF
      refine r_callVB (N0 := 4) (q0 := 0) (rest := [.int 0, .ref o]) h [ouW D o f, rkW D aθ (aρ 0) pθ_spare aν pθ_text θ, rmW D aρ ρ, tlW D aν aS0 aS1 aS2 aS3 S0 S1 S2 S3] [1, 2, 3] [0] hdl_X3_undo wm_693 dL_undo_3 (CX3_undo l D aθ pθ_spare pθ_text aρ aν aS0 aS1 aS2 aS3 θ ρ S0 S1 S2 S3 r.1 r.2.1 r.2.2.1 r.2.2.2.1 r.2.2.2.2.1 r.2.2.2.2.2.1 r.2.2.2.2.2.2 e) rfl rfl rfl (by decide) rfl rfl rfl ⟨rfl, rfl⟩ ⟨by decide, by decide⟩ (Nat.le_of_ble_eq_true rfl) ⟨by decide, by decide⟩ rfl (fun v w' hp => ?_)
      obtain ⟨rfl, nρ, nS0, nS1, nS2, nS3, rfl⟩ := hp
      refine J.blk2 (ws' := [ouW D o f, rkW D aθ (nρ 0) pθ_spare aν pθ_text r.2.1, rmW D nρ r.2.2.1, tlW D aν nS0 nS1 nS2 nS3 r.2.2.2.1 r.2.2.2.2.1 r.2.2.2.2.2.1 r.2.2.2.2.2.2].flatten) 4 (pkB [ouW D o f, rkW D aθ (aρ 0) pθ_spare aν pθ_text θ, rmW D aρ ρ, tlW D aν aS0 aS1 aS2 aS3 S0 S1 S2 S3] [0]) ([rkW D aθ (nρ 0) pθ_spare aν pθ_text r.2.1, rmW D nρ r.2.2.1, tlW D aν nS0 nS1 nS2 nS3 r.2.2.2.1 r.2.2.2.2.1 r.2.2.2.2.2.1 r.2.2.2.2.2.2]) [0, 1, 2, 3] rfl rfl rfl rfl (by decide) ?_
      refine r_i2l h dL_undo_6 ?_
      refine r_last (ws' := [ouW D o (vp_updL f ((0 : Int32)).toNatClampNeg r.1.toInt64), rkW D aθ (nρ 0) pθ_spare aν pθ_text r.2.1, rmW D nρ r.2.2.1, tlW D aν nS0 nS1 nS2 nS3 r.2.2.2.1 r.2.2.2.2.1 r.2.2.2.2.2.1 r.2.2.2.2.2.2].flatten) h 0 rfl (show ¬ (_ ∨ _) by decide) rfl dL_undo_7 ?_
      refine r_goto h 14 dL_undo_8 (by decide) ?_
      refine r_iconst (v := 0) h dL_undo_14 (by decide) ?_
      refine J.widen (k1 := 1) (n1 := 6) (by decide) (by decide) ?_
      cases hF
      exact r_iret h hr dL_undo_15 ⟨rfl, nρ, nS0, nS1, nS2, nS3, rfl⟩

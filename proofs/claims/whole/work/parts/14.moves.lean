def FX3_checkRack (x0 : Int32) : Option (Nat ⊕ (Unit)) :=
  if x0 < 0 then
  (some (.inl 1))
else
  (if x0 < (6 : Int32) then
  (some (.inr ()))
else
  (some (.inl 1)))
abbrev rmX3_checkRack : Room := { frames := 0, cells := 0, slots := 0, locals := 0 }
set_option maxHeartbeats 4000000 in
set_option maxRecDepth 100000 in
theorem CX3_checkRack (l : Launch) (D : va_G)  (x0 : Int32)  (hF : FX3_checkRack x0 = some (.inr ())) : Ct l D yX3_checkRack cX3_checkRack 1 none rmX3_checkRack 0 0 [.int x0] [] (fun v w => v = none ∧ w = []) := by
  refine Ct.of (own := RX3) (lv := [(0, .int x0)]) (by decide +kernel) rfl (Nat.le_of_ble_eq_true rfl) rfl (fun X h hr => ?_)
  unfold FX3_checkRack at hF
  refine r_iload_n h 0 rfl rfl dX3_checkRack_0 ?_
  refine r_if_lt h 10 dX3_checkRack_1 (by decide) (fun c1 => ?_) (fun c1 => ?_)
  · replace hF := o_pos c1 hF
    cases hF
  · replace hF := o_neg c1 hF
    refine r_iload_n h 0 rfl rfl dX3_checkRack_4 ?_
    refine r_bipush (v := 6) h dX3_checkRack_5 (by decide) ?_
    refine r_icmp_lt h 21 dX3_checkRack_7 (by decide) (fun c2 => ?_) (fun c2 => ?_)
    · replace hF := o_pos c2 hF
      cases hF
      exact r_vret h hr dX3_checkRack_21 ⟨rfl, rfl⟩
    · replace hF := o_neg c2 hF
      cases hF

abbrev rmTX3_checkRack : Room := { frames := 6, cells := 1, slots := 6, locals := 90 }
set_option maxHeartbeats 4000000 in
set_option maxRecDepth 100000 in
theorem TX3_checkRack (l : Launch) (hl0 : l.stackTraces = false) (D : va_G)  (x0 : Int32) (k0 : Nat) (hF : FX3_checkRack x0 = some (.inl k0)) : CtT l D yX3_checkRack cX3_checkRack 1 none rmTX3_checkRack 1 6 [.int x0] [] (exn k0) := by
  refine CtT.of (own := RX3) (lv := [(0, .int x0)]) (by decide +kernel) rfl (Nat.le_of_ble_eq_true rfl) rfl (fun X h hx ht => ?_)
  unfold FX3_checkRack at hF
  refine r_iload_n h 0 rfl rfl dX3_checkRack_0 ?_
  refine r_if_lt h 10 dX3_checkRack_1 (by decide) (fun c1 => ?_) (fun c1 => ?_)
  · replace hF := o_pos c1 hF
    cases hF
    exact r_throwW (E := exn 1) (text := "no such rack") h hx ht hl0 thf_1 (by decide +kernel) dX3_checkRack_10 dX3_checkRack_13 dX3_checkRack_14 dX3_checkRack_17 dX3_checkRack_20 ⟨by decide, Nat.le_of_ble_eq_true rfl, by decide, by decide⟩ ⟨by decide, by decide⟩
  · replace hF := o_neg c1 hF
    refine r_iload_n h 0 rfl rfl dX3_checkRack_4 ?_
    refine r_bipush (v := 6) h dX3_checkRack_5 (by decide) ?_
    refine r_icmp_lt h 21 dX3_checkRack_7 (by decide) (fun c2 => ?_) (fun c2 => ?_)
    · replace hF := o_pos c2 hF
      cases hF
    · replace hF := o_neg c2 hF
      cases hF
      exact r_throwW (E := exn 1) (text := "no such rack") h hx ht hl0 thf_1 (by decide +kernel) dX3_checkRack_10 dX3_checkRack_13 dX3_checkRack_14 dX3_checkRack_17 dX3_checkRack_20 ⟨by decide, Nat.le_of_ble_eq_true rfl, by decide, by decide⟩ ⟨by decide, by decide⟩

def FX3_checkRange (x0 : Int32) (x1 : Int32) (x2 : Int32) : Option (Nat ⊕ (Unit)) :=
  if x0 < x1 then
  (some (.inl 2))
else
  (if x0 ≤ x2 then
  (some (.inr ()))
else
  (some (.inl 2)))
abbrev rmX3_checkRange : Room := { frames := 0, cells := 0, slots := 0, locals := 0 }
set_option maxHeartbeats 4000000 in
set_option maxRecDepth 100000 in
theorem CX3_checkRange (l : Launch) (D : va_G)  (x0 : Int32) (x1 : Int32) (x2 : Int32)  (hF : FX3_checkRange x0 x1 x2 = some (.inr ())) : Ct l D yX3_checkRange cX3_checkRange 3 none rmX3_checkRange 0 0 [.int x0, .int x1, .int x2] [] (fun v w => v = none ∧ w = []) := by
  refine Ct.of (own := RX3) (lv := [(0, .int x0), (1, .int x1), (2, .int x2)]) (by decide +kernel) rfl (Nat.le_of_ble_eq_true rfl) rfl (fun X h hr => ?_)
  unfold FX3_checkRange at hF
  refine r_iload_n h 0 rfl rfl dX3_checkRange_0 ?_
  refine r_iload_n h 1 rfl rfl dX3_checkRange_1 ?_
  refine r_icmp_lt h 10 dX3_checkRange_2 (by decide) (fun c1 => ?_) (fun c1 => ?_)
  · replace hF := o_pos c1 hF
    cases hF
  · replace hF := o_neg c1 hF
    refine r_iload_n h 0 rfl rfl dX3_checkRange_5 ?_
    refine r_iload_n h 2 rfl rfl dX3_checkRange_6 ?_
    refine r_icmp_le h 21 dX3_checkRange_7 (by decide) (fun c2 => ?_) (fun c2 => ?_)
    · replace hF := o_pos c2 hF
      cases hF
      exact r_vret h hr dX3_checkRange_21 ⟨rfl, rfl⟩
    · replace hF := o_neg c2 hF
      cases hF

abbrev rmTX3_checkRange : Room := { frames := 6, cells := 1, slots := 6, locals := 90 }
set_option maxHeartbeats 4000000 in
set_option maxRecDepth 100000 in
theorem TX3_checkRange (l : Launch) (hl0 : l.stackTraces = false) (D : va_G)  (x0 : Int32) (x1 : Int32) (x2 : Int32) (k0 : Nat) (hF : FX3_checkRange x0 x1 x2 = some (.inl k0)) : CtT l D yX3_checkRange cX3_checkRange 3 none rmTX3_checkRange 1 6 [.int x0, .int x1, .int x2] [] (exn k0) := by
  refine CtT.of (own := RX3) (lv := [(0, .int x0), (1, .int x1), (2, .int x2)]) (by decide +kernel) rfl (Nat.le_of_ble_eq_true rfl) rfl (fun X h hx ht => ?_)
  unfold FX3_checkRange at hF
  refine r_iload_n h 0 rfl rfl dX3_checkRange_0 ?_
  refine r_iload_n h 1 rfl rfl dX3_checkRange_1 ?_
  refine r_icmp_lt h 10 dX3_checkRange_2 (by decide) (fun c1 => ?_) (fun c1 => ?_)
  · replace hF := o_pos c1 hF
    cases hF
    exact r_throwW (E := exn 2) (text := "an argument is out of range") h hx ht hl0 thf_2 (by decide +kernel) dX3_checkRange_10 dX3_checkRange_13 dX3_checkRange_14 dX3_checkRange_17 dX3_checkRange_20 ⟨by decide, Nat.le_of_ble_eq_true rfl, by decide, by decide⟩ ⟨by decide, by decide⟩
  · replace hF := o_neg c1 hF
    refine r_iload_n h 0 rfl rfl dX3_checkRange_5 ?_
    refine r_iload_n h 2 rfl rfl dX3_checkRange_6 ?_
    refine r_icmp_le h 21 dX3_checkRange_7 (by decide) (fun c2 => ?_) (fun c2 => ?_)
    · replace hF := o_pos c2 hF
      cases hF
    · replace hF := o_neg c2 hF
      cases hF
      exact r_throwW (E := exn 2) (text := "an argument is out of range") h hx ht hl0 thf_2 (by decide +kernel) dX3_checkRange_10 dX3_checkRange_13 dX3_checkRange_14 dX3_checkRange_17 dX3_checkRange_20 ⟨by decide, Nat.le_of_ble_eq_true rfl, by decide, by decide⟩ ⟨by decide, by decide⟩

def FX3_checkTray (x0 : Int32) : Option (Nat ⊕ (Unit)) :=
  if x0 < 0 then
  (some (.inl 1))
else
  (if x0 < (5 : Int32) then
  (some (.inr ()))
else
  (some (.inl 1)))
abbrev rmX3_checkTray : Room := { frames := 0, cells := 0, slots := 0, locals := 0 }
set_option maxHeartbeats 4000000 in
set_option maxRecDepth 100000 in
theorem CX3_checkTray (l : Launch) (D : va_G)  (x0 : Int32)  (hF : FX3_checkTray x0 = some (.inr ())) : Ct l D yX3_checkTray cX3_checkTray 1 none rmX3_checkTray 0 0 [.int x0] [] (fun v w => v = none ∧ w = []) := by
  refine Ct.of (own := RX3) (lv := [(0, .int x0)]) (by decide +kernel) rfl (Nat.le_of_ble_eq_true rfl) rfl (fun X h hr => ?_)
  unfold FX3_checkTray at hF
  refine r_iload_n h 0 rfl rfl dX3_checkTray_0 ?_
  refine r_if_lt h 9 dX3_checkTray_1 (by decide) (fun c1 => ?_) (fun c1 => ?_)
  · replace hF := o_pos c1 hF
    cases hF
  · replace hF := o_neg c1 hF
    refine r_iload_n h 0 rfl rfl dX3_checkTray_4 ?_
    refine r_iconst (v := 5) h dX3_checkTray_5 (by decide) ?_
    refine r_icmp_lt h 20 dX3_checkTray_6 (by decide) (fun c2 => ?_) (fun c2 => ?_)
    · replace hF := o_pos c2 hF
      cases hF
      exact r_vret h hr dX3_checkTray_20 ⟨rfl, rfl⟩
    · replace hF := o_neg c2 hF
      cases hF

abbrev rmTX3_checkTray : Room := { frames := 6, cells := 1, slots := 6, locals := 90 }
set_option maxHeartbeats 4000000 in
set_option maxRecDepth 100000 in
theorem TX3_checkTray (l : Launch) (hl0 : l.stackTraces = false) (D : va_G)  (x0 : Int32) (k0 : Nat) (hF : FX3_checkTray x0 = some (.inl k0)) : CtT l D yX3_checkTray cX3_checkTray 1 none rmTX3_checkTray 1 6 [.int x0] [] (exn k0) := by
  refine CtT.of (own := RX3) (lv := [(0, .int x0)]) (by decide +kernel) rfl (Nat.le_of_ble_eq_true rfl) rfl (fun X h hx ht => ?_)
  unfold FX3_checkTray at hF
  refine r_iload_n h 0 rfl rfl dX3_checkTray_0 ?_
  refine r_if_lt h 9 dX3_checkTray_1 (by decide) (fun c1 => ?_) (fun c1 => ?_)
  · replace hF := o_pos c1 hF
    cases hF
    exact r_throwW (E := exn 1) (text := "no such tray") h hx ht hl0 thf_1 (by decide +kernel) dX3_checkTray_9 dX3_checkTray_12 dX3_checkTray_13 dX3_checkTray_16 dX3_checkTray_19 ⟨by decide, Nat.le_of_ble_eq_true rfl, by decide, by decide⟩ ⟨by decide, by decide⟩
  · replace hF := o_neg c1 hF
    refine r_iload_n h 0 rfl rfl dX3_checkTray_4 ?_
    refine r_iconst (v := 5) h dX3_checkTray_5 (by decide) ?_
    refine r_icmp_lt h 20 dX3_checkTray_6 (by decide) (fun c2 => ?_) (fun c2 => ?_)
    · replace hF := o_pos c2 hF
      cases hF
    · replace hF := o_neg c2 hF
      cases hF
      exact r_throwW (E := exn 1) (text := "no such tray") h hx ht hl0 thf_1 (by decide +kernel) dX3_checkTray_9 dX3_checkTray_12 dX3_checkTray_13 dX3_checkTray_16 dX3_checkTray_19 ⟨by decide, Nat.le_of_ble_eq_true rfl, by decide, by decide⟩ ⟨by decide, by decide⟩

def FX3_checkSpace (pTm : Int32) (pTc : Int32) (pTn : Nat) (T : TBS) : Option (Nat ⊕ (Unit)) :=
  (FX2_isFull pTm pTc pTn T).bind fun z1 =>
  if z1 = 0 then
  (some (.inr ()))
else
  (some (.inl 3))
abbrev rmX3_checkSpace : Room := { frames := 1, cells := 0, slots := 0, locals := 20 }
set_option maxHeartbeats 4000000 in
set_option maxRecDepth 100000 in
theorem CX3_checkSpace (l : Launch) (D : va_G) (aTa : Nat) (aTb : Nat) (pTm : Int32) (pTc : Int32) (pTn : Nat) (T : TBS)  (hF : FX3_checkSpace pTm pTc pTn T = some (.inr ())) : Ct l D yX3_checkSpace cX3_checkSpace 1 none rmX3_checkSpace 0 0 [.ref aTa] (tbW D aTa aTb pTm pTc pTn T) (fun v w => v = none ∧ w = tbW D aTa aTb pTm pTc pTn T) := by
  refine Ct.of (own := RX3) (lv := [(0, .ref aTa)]) (by decide +kernel) rfl (Nat.le_of_ble_eq_true rfl) rfl (fun X h hr => ?_)
  unfold FX3_checkSpace at hF
  refine r_aload_n h 0 rfl rfl dX3_checkSpace_0 ?_
  obtain ⟨z1, e2, hF⟩ := o_bind hF
  refine r_callVa (q0 := 0) (rest := []) h hd_X2_isFull wm_560 dX3_checkSpace_1 (CX2_isFull l D aTa aTb pTm pTc pTn T z1 e2) rfl rfl rfl ⟨rfl, rfl⟩ ⟨by decide, by decide⟩ (Nat.le_of_ble_eq_true rfl) ⟨by decide, by decide⟩ rfl (fun v w' hp => ?_)
  obtain ⟨rfl, rfl⟩ := hp
  refine r_if_eq h 18 dX3_checkSpace_4 (by decide) (fun c3 => ?_) (fun c3 => ?_)
  · replace hF := o_pos c3 hF
    cases hF
    exact r_vret h hr dX3_checkSpace_18 ⟨rfl, rfl⟩
  · replace hF := o_neg c3 hF
    cases hF

abbrev rmTX3_checkSpace : Room := { frames := 6, cells := 1, slots := 6, locals := 90 }
set_option maxHeartbeats 4000000 in
set_option maxRecDepth 100000 in
theorem TX3_checkSpace (l : Launch) (hl0 : l.stackTraces = false) (D : va_G) (aTa : Nat) (aTb : Nat) (pTm : Int32) (pTc : Int32) (pTn : Nat) (T : TBS) (k0 : Nat) (hF : FX3_checkSpace pTm pTc pTn T = some (.inl k0)) : CtT l D yX3_checkSpace cX3_checkSpace 1 none rmTX3_checkSpace 1 6 [.ref aTa] (tbW D aTa aTb pTm pTc pTn T) (exn k0) := by
  refine CtT.of (own := RX3) (lv := [(0, .ref aTa)]) (by decide +kernel) rfl (Nat.le_of_ble_eq_true rfl) rfl (fun X h hx ht => ?_)
  unfold FX3_checkSpace at hF
  refine r_aload_n h 0 rfl rfl dX3_checkSpace_0 ?_
  obtain ⟨z1, e2, hF⟩ := o_bind hF
  refine r_callVa (q0 := 0) (rest := []) h hd_X2_isFull wm_560 dX3_checkSpace_1 (CX2_isFull l D aTa aTb pTm pTc pTn T z1 e2) rfl rfl rfl ⟨rfl, rfl⟩ ⟨by decide, by decide⟩ (Nat.le_of_ble_eq_true rfl) ⟨by decide, by decide⟩ rfl (fun v w' hp => ?_)
  obtain ⟨rfl, rfl⟩ := hp
  refine r_if_eq h 18 dX3_checkSpace_4 (by decide) (fun c3 => ?_) (fun c3 => ?_)
  · replace hF := o_pos c3 hF
    cases hF
  · replace hF := o_neg c3 hF
    cases hF
    exact r_throwW (E := exn 3) (text := "there are as many as there may be") h hx ht hl0 thf_3 (by decide +kernel) dX3_checkSpace_7 dX3_checkSpace_10 dX3_checkSpace_11 dX3_checkSpace_14 dX3_checkSpace_17 ⟨by decide, Nat.le_of_ble_eq_true rfl, by decide, by decide⟩ ⟨by decide, by decide⟩

def FX3_checkMachine (θ : Int32) (ρ : RS) (x1 : Int32) : Option (Nat ⊕ (Unit)) :=
  (FX2_hasRow (12 : Int32) (6 : Int32) 72 (ρ.2.2.2.2.2.2.1, ρ.1) x1).bind fun z1 =>
  if z1 = 0 then
  (some (.inl 1))
else
  (some (.inr ()))
abbrev rmX3_checkMachine : Room := { frames := 1, cells := 0, slots := 0, locals := 21 }
set_option maxHeartbeats 4000000 in
set_option maxRecDepth 100000 in
theorem CX3_checkMachine (l : Launch) (D : va_G) (aθ : Nat) (pθ_spare : Nat) (pθ_saved : Nat) (pθ_text : Nat) (aρ : Nat → Nat) (θ : Int32) (ρ : RS) (x1 : Int32)  (hF : FX3_checkMachine θ ρ x1 = some (.inr ())) : Ct l D yX3_checkMachine cX3_checkMachine 2 none rmX3_checkMachine 0 0 [.ref aθ, .int x1] (rkW D aθ (aρ 0) pθ_spare pθ_saved pθ_text θ ++ rmW D aρ ρ) (fun v w => v = none ∧ w = (rkW D aθ (aρ 0) pθ_spare pθ_saved pθ_text θ ++ rmW D aρ ρ)) := by
  refine Ct.of (own := RX3) (lv := [(0, .ref aθ), (1, .int x1)]) (by decide +kernel) rfl (Nat.le_of_ble_eq_true rfl) rfl (fun X h hr => ?_)
  unfold FX3_checkMachine at hF
  refine r_aload_n h 0 rfl rfl dX3_checkMachine_0 ?_
  refine r_get h fl_X3_12 0 rfl rfl dX3_checkMachine_1 ?_
  refine r_get h fl_X3_58 1 rfl rfl dX3_checkMachine_4 ?_
  refine r_iload_n h 1 rfl rfl dX3_checkMachine_7 ?_
  obtain ⟨z1, e2, hF⟩ := o_bind hF
  refine r_callV (q0 := 0) (wr := w_pk (rkW D aθ (aρ 0) pθ_spare pθ_saved pθ_text θ ++ rmW D aρ ρ) [0, 1, 3, 4, 5, 6, 7, 9, 10, 11]) (rest := []) h hd_X2_hasRow wm_503 dX3_checkMachine_8 (CX2_hasRow l D (aρ 1) (aρ 7) (12 : Int32) (6 : Int32) 72 (ρ.2.2.2.2.2.2.1, ρ.1) x1 z1 e2) [2, 8] [0, 1, 3, 4, 5, 6, 7, 9, 10, 11] rfl rfl (by decide +kernel) rfl rfl rfl ⟨rfl, rfl⟩ ⟨by decide, by decide⟩ (Nat.le_of_ble_eq_true rfl) ⟨by decide, by decide⟩ rfl (fun v w' hp => ?_)
  obtain ⟨rfl, rfl⟩ := hp
  refine J.sub (ws' := (rkW D aθ (aρ 0) pθ_spare pθ_saved pθ_text θ ++ rmW D aρ ρ)) [0, 1, 10, 2, 3, 4, 5, 6, 11, 7, 8, 9] rfl (by decide +kernel) ?_
  refine r_if_ne h 25 dX3_checkMachine_11 (by decide) (fun c3 => ?_) (fun c3 => ?_)
  · replace hF := o_neg c3 hF
    cases hF
    exact r_vret h hr dX3_checkMachine_25 ⟨rfl, rfl⟩
  · replace hF := o_pos c3 hF
    cases hF

abbrev rmTX3_checkMachine : Room := { frames := 6, cells := 1, slots := 6, locals := 90 }
set_option maxHeartbeats 4000000 in
set_option maxRecDepth 100000 in
theorem TX3_checkMachine (l : Launch) (hl0 : l.stackTraces = false) (D : va_G) (aθ : Nat) (pθ_spare : Nat) (pθ_saved : Nat) (pθ_text : Nat) (aρ : Nat → Nat) (θ : Int32) (ρ : RS) (x1 : Int32) (k0 : Nat) (hF : FX3_checkMachine θ ρ x1 = some (.inl k0)) : CtT l D yX3_checkMachine cX3_checkMachine 2 none rmTX3_checkMachine 1 6 [.ref aθ, .int x1] (rkW D aθ (aρ 0) pθ_spare pθ_saved pθ_text θ ++ rmW D aρ ρ) (exn k0) := by
  refine CtT.of (own := RX3) (lv := [(0, .ref aθ), (1, .int x1)]) (by decide +kernel) rfl (Nat.le_of_ble_eq_true rfl) rfl (fun X h hx ht => ?_)
  unfold FX3_checkMachine at hF
  refine r_aload_n h 0 rfl rfl dX3_checkMachine_0 ?_
  refine r_get h fl_X3_12 0 rfl rfl dX3_checkMachine_1 ?_
  refine r_get h fl_X3_58 1 rfl rfl dX3_checkMachine_4 ?_
  refine r_iload_n h 1 rfl rfl dX3_checkMachine_7 ?_
  obtain ⟨z1, e2, hF⟩ := o_bind hF
  refine r_callV (q0 := 0) (wr := w_pk (rkW D aθ (aρ 0) pθ_spare pθ_saved pθ_text θ ++ rmW D aρ ρ) [0, 1, 3, 4, 5, 6, 7, 9, 10, 11]) (rest := []) h hd_X2_hasRow wm_503 dX3_checkMachine_8 (CX2_hasRow l D (aρ 1) (aρ 7) (12 : Int32) (6 : Int32) 72 (ρ.2.2.2.2.2.2.1, ρ.1) x1 z1 e2) [2, 8] [0, 1, 3, 4, 5, 6, 7, 9, 10, 11] rfl rfl (by decide +kernel) rfl rfl rfl ⟨rfl, rfl⟩ ⟨by decide, by decide⟩ (Nat.le_of_ble_eq_true rfl) ⟨by decide, by decide⟩ rfl (fun v w' hp => ?_)
  obtain ⟨rfl, rfl⟩ := hp
  refine J.sub (ws' := (rkW D aθ (aρ 0) pθ_spare pθ_saved pθ_text θ ++ rmW D aρ ρ)) [0, 1, 10, 2, 3, 4, 5, 6, 11, 7, 8, 9] rfl (by decide +kernel) ?_
  refine r_if_ne h 25 dX3_checkMachine_11 (by decide) (fun c3 => ?_) (fun c3 => ?_)
  · replace hF := o_neg c3 hF
    cases hF
  · replace hF := o_pos c3 hF
    cases hF
    exact r_throwW (E := exn 1) (text := "no such machine") h hx ht hl0 thf_1 (by decide +kernel) dX3_checkMachine_14 dX3_checkMachine_17 dX3_checkMachine_18 dX3_checkMachine_21 dX3_checkMachine_24 ⟨by decide, Nat.le_of_ble_eq_true rfl, by decide, by decide⟩ ⟨by decide, by decide⟩

def FX3_checkCable (θ : Int32) (ρ : RS) (x1 : Int32) : Option (Nat ⊕ (Unit)) :=
  (FX2_hasRow (10 : Int32) (3 : Int32) 30 (ρ.2.2.2.2.2.2.2.1, ρ.2.1) x1).bind fun z1 =>
  if z1 = 0 then
  (some (.inl 1))
else
  (some (.inr ()))
abbrev rmX3_checkCable : Room := { frames := 1, cells := 0, slots := 0, locals := 21 }
set_option maxHeartbeats 4000000 in
set_option maxRecDepth 100000 in
theorem CX3_checkCable (l : Launch) (D : va_G) (aθ : Nat) (pθ_spare : Nat) (pθ_saved : Nat) (pθ_text : Nat) (aρ : Nat → Nat) (θ : Int32) (ρ : RS) (x1 : Int32)  (hF : FX3_checkCable θ ρ x1 = some (.inr ())) : Ct l D yX3_checkCable cX3_checkCable 2 none rmX3_checkCable 0 0 [.ref aθ, .int x1] (rkW D aθ (aρ 0) pθ_spare pθ_saved pθ_text θ ++ rmW D aρ ρ) (fun v w => v = none ∧ w = (rkW D aθ (aρ 0) pθ_spare pθ_saved pθ_text θ ++ rmW D aρ ρ)) := by
  refine Ct.of (own := RX3) (lv := [(0, .ref aθ), (1, .int x1)]) (by decide +kernel) rfl (Nat.le_of_ble_eq_true rfl) rfl (fun X h hr => ?_)
  unfold FX3_checkCable at hF
  refine r_aload_n h 0 rfl rfl dX3_checkCable_0 ?_
  refine r_get h fl_X3_12 0 rfl rfl dX3_checkCable_1 ?_
  refine r_get h fl_X3_89 1 rfl rfl dX3_checkCable_4 ?_
  refine r_iload_n h 1 rfl rfl dX3_checkCable_7 ?_
  obtain ⟨z1, e2, hF⟩ := o_bind hF
  refine r_callV (q0 := 0) (wr := w_pk (rkW D aθ (aρ 0) pθ_spare pθ_saved pθ_text θ ++ rmW D aρ ρ) [0, 1, 2, 4, 5, 6, 7, 8, 10, 11]) (rest := []) h hd_X2_hasRow wm_503 dX3_checkCable_8 (CX2_hasRow l D (aρ 2) (aρ 8) (10 : Int32) (3 : Int32) 30 (ρ.2.2.2.2.2.2.2.1, ρ.2.1) x1 z1 e2) [3, 9] [0, 1, 2, 4, 5, 6, 7, 8, 10, 11] rfl rfl (by decide +kernel) rfl rfl rfl ⟨rfl, rfl⟩ ⟨by decide, by decide⟩ (Nat.le_of_ble_eq_true rfl) ⟨by decide, by decide⟩ rfl (fun v w' hp => ?_)
  obtain ⟨rfl, rfl⟩ := hp
  refine J.sub (ws' := (rkW D aθ (aρ 0) pθ_spare pθ_saved pθ_text θ ++ rmW D aρ ρ)) [0, 1, 2, 10, 3, 4, 5, 6, 7, 11, 8, 9] rfl (by decide +kernel) ?_
  refine r_if_ne h 25 dX3_checkCable_11 (by decide) (fun c3 => ?_) (fun c3 => ?_)
  · replace hF := o_neg c3 hF
    cases hF
    exact r_vret h hr dX3_checkCable_25 ⟨rfl, rfl⟩
  · replace hF := o_pos c3 hF
    cases hF

abbrev rmTX3_checkCable : Room := { frames := 6, cells := 1, slots := 6, locals := 90 }
set_option maxHeartbeats 4000000 in
set_option maxRecDepth 100000 in
theorem TX3_checkCable (l : Launch) (hl0 : l.stackTraces = false) (D : va_G) (aθ : Nat) (pθ_spare : Nat) (pθ_saved : Nat) (pθ_text : Nat) (aρ : Nat → Nat) (θ : Int32) (ρ : RS) (x1 : Int32) (k0 : Nat) (hF : FX3_checkCable θ ρ x1 = some (.inl k0)) : CtT l D yX3_checkCable cX3_checkCable 2 none rmTX3_checkCable 1 6 [.ref aθ, .int x1] (rkW D aθ (aρ 0) pθ_spare pθ_saved pθ_text θ ++ rmW D aρ ρ) (exn k0) := by
  refine CtT.of (own := RX3) (lv := [(0, .ref aθ), (1, .int x1)]) (by decide +kernel) rfl (Nat.le_of_ble_eq_true rfl) rfl (fun X h hx ht => ?_)
  unfold FX3_checkCable at hF
  refine r_aload_n h 0 rfl rfl dX3_checkCable_0 ?_
  refine r_get h fl_X3_12 0 rfl rfl dX3_checkCable_1 ?_
  refine r_get h fl_X3_89 1 rfl rfl dX3_checkCable_4 ?_
  refine r_iload_n h 1 rfl rfl dX3_checkCable_7 ?_
  obtain ⟨z1, e2, hF⟩ := o_bind hF
  refine r_callV (q0 := 0) (wr := w_pk (rkW D aθ (aρ 0) pθ_spare pθ_saved pθ_text θ ++ rmW D aρ ρ) [0, 1, 2, 4, 5, 6, 7, 8, 10, 11]) (rest := []) h hd_X2_hasRow wm_503 dX3_checkCable_8 (CX2_hasRow l D (aρ 2) (aρ 8) (10 : Int32) (3 : Int32) 30 (ρ.2.2.2.2.2.2.2.1, ρ.2.1) x1 z1 e2) [3, 9] [0, 1, 2, 4, 5, 6, 7, 8, 10, 11] rfl rfl (by decide +kernel) rfl rfl rfl ⟨rfl, rfl⟩ ⟨by decide, by decide⟩ (Nat.le_of_ble_eq_true rfl) ⟨by decide, by decide⟩ rfl (fun v w' hp => ?_)
  obtain ⟨rfl, rfl⟩ := hp
  refine J.sub (ws' := (rkW D aθ (aρ 0) pθ_spare pθ_saved pθ_text θ ++ rmW D aρ ρ)) [0, 1, 2, 10, 3, 4, 5, 6, 7, 11, 8, 9] rfl (by decide +kernel) ?_
  refine r_if_ne h 25 dX3_checkCable_11 (by decide) (fun c3 => ?_) (fun c3 => ?_)
  · replace hF := o_neg c3 hF
    cases hF
  · replace hF := o_pos c3 hF
    cases hF
    exact r_throwW (E := exn 1) (text := "no such cable") h hx ht hl0 thf_1 (by decide +kernel) dX3_checkCable_14 dX3_checkCable_17 dX3_checkCable_18 dX3_checkCable_21 dX3_checkCable_24 ⟨by decide, Nat.le_of_ble_eq_true rfl, by decide, by decide⟩ ⟨by decide, by decide⟩

def FX3_machine (θ : Int32) (ρ : RS) (x1 : Int32) (x2 : Int32) : Option (Nat ⊕ (Int32)) :=
  bX (FX3_checkMachine θ ρ x1) fun z1 =>
  bX (FX3_checkRange x2 (0 : Int32) (7 : Int32)) fun z3 =>
  if x2 = (7 : Int32) then
  ((FX1_cablesOf ρ x1).bind fun z12 =>
  some (.inr z12))
else
  (if x2 = (6 : Int32) then
  ((FX1_isFrozen ρ x1).bind fun z9 =>
  if z9 = 0 then
  (some (.inr (0 : Int32)))
else
  (some (.inr (1 : Int32))))
else
  ((FX2_at (12 : Int32) (6 : Int32) 72 (ρ.2.2.2.2.2.2.1, ρ.1) x1 x2).bind fun z7 =>
  some (.inr z7)))
abbrev rmX3_machine : Room := { frames := 2, cells := 0, slots := 0, locals := 47 }
set_option maxHeartbeats 4000000 in
set_option maxRecDepth 100000 in
theorem CX3_machine (l : Launch) (D : va_G) (aθ : Nat) (pθ_spare : Nat) (pθ_saved : Nat) (pθ_text : Nat) (aρ : Nat → Nat) (θ : Int32) (ρ : RS) (x1 : Int32) (x2 : Int32) (r0 : Int32) (hF : FX3_machine θ ρ x1 x2 = some (.inr r0)) : Ct l D yX3_machine cX3_machine 3 (some .int) rmX3_machine 0 0 [.ref aθ, .int x1, .int x2] (rkW D aθ (aρ 0) pθ_spare pθ_saved pθ_text θ ++ rmW D aρ ρ) (fun v w => v = some (.int r0) ∧ w = (rkW D aθ (aρ 0) pθ_spare pθ_saved pθ_text θ ++ rmW D aρ ρ)) := by
  refine Ct.of (own := RX3) (lv := [(0, .ref aθ), (1, .int x1), (2, .int x2)]) (by decide +kernel) rfl (Nat.le_of_ble_eq_true rfl) rfl (fun X h hr => ?_)
  unfold FX3_machine at hF
  refine r_aload_n h 0 rfl rfl dX3_machine_0 ?_
  refine r_iload_n h 1 rfl rfl dX3_machine_1 ?_
  rcases o_bX hF with ⟨k_z1, e2, hF⟩ | ⟨z1, e2, hF⟩
  · cases hF
  · refine r_callVa (q0 := 0) (rest := []) h hd_X3_checkMachine wm_499 dX3_machine_2 (CX3_checkMachine l D aθ pθ_spare pθ_saved pθ_text aρ θ ρ x1 e2) rfl rfl rfl ⟨rfl, rfl⟩ ⟨by decide, by decide⟩ (Nat.le_of_ble_eq_true rfl) ⟨by decide, by decide⟩ rfl (fun v w' hp => ?_)
    obtain ⟨rfl, rfl⟩ := hp
    refine r_iload_n h 2 rfl rfl dX3_machine_5 ?_
    refine r_iconst (v := 0) h dX3_machine_6 (by decide) ?_
    refine r_bipush (v := 7) h dX3_machine_7 (by decide) ?_
    rcases o_bX hF with ⟨k_z3, e4, hF⟩ | ⟨z3, e4, hF⟩
    · cases hF
    · refine r_callSv (rest := []) h hd_X3_checkRange wm_360 dX3_machine_9 (CX3_checkRange l D x2 (0 : Int32) (7 : Int32) e4) rfl ⟨rfl, rfl⟩ ⟨by decide, by decide⟩ (Nat.le_of_ble_eq_true rfl) ⟨by decide, by decide⟩ rfl ?_
      refine r_iload_n h 2 rfl rfl dX3_machine_12 ?_
      refine r_bipush (v := 7) h dX3_machine_13 (by decide) ?_
      refine r_icmp_ne h 27 dX3_machine_15 (by decide) (fun c5 => ?_) (fun c5 => ?_)
      · replace hF := o_neg c5 hF
        refine r_iload_n h 2 rfl rfl dX3_machine_27 ?_
        refine r_bipush (v := 6) h dX3_machine_28 (by decide) ?_
        refine r_icmp_ne h 50 dX3_machine_30 (by decide) (fun c6 => ?_) (fun c6 => ?_)
        · replace hF := o_neg c6 hF
          refine r_aload_n h 0 rfl rfl dX3_machine_50 ?_
          refine r_get h fl_X3_12 0 rfl rfl dX3_machine_51 ?_
          refine r_get h fl_X3_58 1 rfl rfl dX3_machine_54 ?_
          refine r_iload_n h 1 rfl rfl dX3_machine_57 ?_
          refine r_iload_n h 2 rfl rfl dX3_machine_58 ?_
          obtain ⟨z7, e8, hF⟩ := o_bind hF
          refine r_callV (q0 := 0) (wr := w_pk (rkW D aθ (aρ 0) pθ_spare pθ_saved pθ_text θ ++ rmW D aρ ρ) [0, 1, 3, 4, 5, 6, 7, 9, 10, 11]) (rest := []) h hd_X2_at wm_510 dX3_machine_59 (CX2_at l D (aρ 1) (aρ 7) (12 : Int32) (6 : Int32) 72 (ρ.2.2.2.2.2.2.1, ρ.1) x1 x2 z7 e8) [2, 8] [0, 1, 3, 4, 5, 6, 7, 9, 10, 11] rfl rfl (by decide +kernel) rfl rfl rfl ⟨rfl, rfl⟩ ⟨by decide, by decide⟩ (Nat.le_of_ble_eq_true rfl) ⟨by decide, by decide⟩ rfl (fun v w' hp => ?_)
          obtain ⟨rfl, rfl⟩ := hp
          refine J.sub (ws' := (rkW D aθ (aρ 0) pθ_spare pθ_saved pθ_text θ ++ rmW D aρ ρ)) [0, 1, 10, 2, 3, 4, 5, 6, 11, 7, 8, 9] rfl (by decide +kernel) ?_
          cases hF
          exact r_iret h hr dX3_machine_62 ⟨rfl, rfl⟩
        · replace hF := o_pos c6 hF
          refine r_aload_n h 0 rfl rfl dX3_machine_33 ?_
          refine r_get h fl_X3_12 0 rfl rfl dX3_machine_34 ?_
          refine r_iload_n h 1 rfl rfl dX3_machine_37 ?_
          obtain ⟨z9, e10, hF⟩ := o_bind hF
          refine r_callV (q0 := 0) (wr := w_pk (rkW D aθ (aρ 0) pθ_spare pθ_saved pθ_text θ ++ rmW D aρ ρ) [0]) (rest := []) h hd_X1_isFrozen wm_509 dX3_machine_38 (CX1_isFrozen l D aρ ρ x1 z9 e10) [1, 2, 3, 4, 5, 6, 7, 8, 9, 10, 11] [0] rfl rfl (by decide +kernel) rfl rfl rfl ⟨rfl, rfl⟩ ⟨by decide, by decide⟩ (Nat.le_of_ble_eq_true rfl) ⟨by decide, by decide⟩ rfl (fun v w' hp => ?_)
          obtain ⟨rfl, rfl⟩ := hp
          refine J.sub (ws' := (rkW D aθ (aρ 0) pθ_spare pθ_saved pθ_text θ ++ rmW D aρ ρ)) [0, 1, 2, 3, 4, 5, 6, 7, 8, 9, 10, 11] rfl (by decide +kernel) ?_
          refine r_if_eq h 48 dX3_machine_41 (by decide) (fun c11 => ?_) (fun c11 => ?_)
          · replace hF := o_pos c11 hF
            refine r_iconst (v := 0) h dX3_machine_48 (by decide) ?_
            cases hF
            exact r_iret h hr dX3_machine_49 ⟨rfl, rfl⟩
          · replace hF := o_neg c11 hF
            refine r_iconst (v := 1) h dX3_machine_44 (by decide) ?_
            refine r_goto h 49 dX3_machine_45 (by decide) ?_
            cases hF
            exact r_iret h hr dX3_machine_49 ⟨rfl, rfl⟩
      · replace hF := o_pos c5 hF
        refine r_aload_n h 0 rfl rfl dX3_machine_18 ?_
        refine r_get h fl_X3_12 0 rfl rfl dX3_machine_19 ?_
        refine r_iload_n h 1 rfl rfl dX3_machine_22 ?_
        obtain ⟨z12, e13, hF⟩ := o_bind hF
        refine r_callV (q0 := 0) (wr := w_pk (rkW D aθ (aρ 0) pθ_spare pθ_saved pθ_text θ ++ rmW D aρ ρ) [0]) (rest := []) h hd_X1_cablesOf wm_505 dX3_machine_23 (CX1_cablesOf l D aρ ρ x1 z12 e13) [1, 2, 3, 4, 5, 6, 7, 8, 9, 10, 11] [0] rfl rfl (by decide +kernel) rfl rfl rfl ⟨rfl, rfl⟩ ⟨by decide, by decide⟩ (Nat.le_of_ble_eq_true rfl) ⟨by decide, by decide⟩ rfl (fun v w' hp => ?_)
        obtain ⟨rfl, rfl⟩ := hp
        refine J.sub (ws' := (rkW D aθ (aρ 0) pθ_spare pθ_saved pθ_text θ ++ rmW D aρ ρ)) [0, 1, 2, 3, 4, 5, 6, 7, 8, 9, 10, 11] rfl (by decide +kernel) ?_
        cases hF
        exact r_iret h hr dX3_machine_26 ⟨rfl, rfl⟩

abbrev rmTX3_machine : Room := { frames := 7, cells := 1, slots := 6, locals := 112 }
set_option maxHeartbeats 4000000 in
set_option maxRecDepth 100000 in
theorem TX3_machine (l : Launch) (hl0 : l.stackTraces = false) (D : va_G) (aθ : Nat) (pθ_spare : Nat) (pθ_saved : Nat) (pθ_text : Nat) (aρ : Nat → Nat) (θ : Int32) (ρ : RS) (x1 : Int32) (x2 : Int32) (k0 : Nat) (hF : FX3_machine θ ρ x1 x2 = some (.inl k0)) : CtT l D yX3_machine cX3_machine 3 (some .int) rmTX3_machine 1 6 [.ref aθ, .int x1, .int x2] (rkW D aθ (aρ 0) pθ_spare pθ_saved pθ_text θ ++ rmW D aρ ρ) (exn k0) := by
  refine CtT.of (own := RX3) (lv := [(0, .ref aθ), (1, .int x1), (2, .int x2)]) (by decide +kernel) rfl (Nat.le_of_ble_eq_true rfl) rfl (fun X h hx ht => ?_)
  unfold FX3_machine at hF
  refine r_aload_n h 0 rfl rfl dX3_machine_0 ?_
  refine r_iload_n h 1 rfl rfl dX3_machine_1 ?_
  rcases o_bX hF with ⟨k_z1, e2, hF⟩ | ⟨z1, e2, hF⟩
  · cases hF
    exact r_callTV (q0 := 0) (wr := w_pk (rkW D aθ (aρ 0) pθ_spare pθ_saved pθ_text θ ++ rmW D aρ ρ) []) (rest := []) h hx ht hd_X3_checkMachine wm_499 dX3_machine_2 (TX3_checkMachine l hl0 D aθ pθ_spare pθ_saved pθ_text aρ θ ρ x1 _ e2) [0, 1, 2, 3, 4, 5, 6, 7, 8, 9, 10, 11] [] [0, 1, 2, 3, 4, 5, 6, 7, 8, 9, 10, 11] rfl rfl rfl (by decide +kernel) rfl rfl rfl ⟨rfl, rfl⟩ ⟨by decide, by decide⟩ (Nat.le_of_ble_eq_true rfl) ⟨by decide, by decide⟩ ⟨by decide, by decide⟩ rfl
  · refine r_callVa (q0 := 0) (rest := []) h hd_X3_checkMachine wm_499 dX3_machine_2 (CX3_checkMachine l D aθ pθ_spare pθ_saved pθ_text aρ θ ρ x1 e2) rfl rfl rfl ⟨rfl, rfl⟩ ⟨by decide, by decide⟩ (Nat.le_of_ble_eq_true rfl) ⟨by decide, by decide⟩ rfl (fun v w' hp => ?_)
    obtain ⟨rfl, rfl⟩ := hp
    refine r_iload_n h 2 rfl rfl dX3_machine_5 ?_
    refine r_iconst (v := 0) h dX3_machine_6 (by decide) ?_
    refine r_bipush (v := 7) h dX3_machine_7 (by decide) ?_
    rcases o_bX hF with ⟨k_z3, e4, hF⟩ | ⟨z3, e4, hF⟩
    · cases hF
      exact r_callTSp (rest := []) h hx ht hd_X3_checkRange wm_360 dX3_machine_9 (TX3_checkRange l hl0 D x2 (0 : Int32) (7 : Int32) _ e4) rfl ⟨rfl, rfl⟩ ⟨by decide, by decide⟩ (Nat.le_of_ble_eq_true rfl) ⟨by decide, by decide⟩ ⟨by decide, by decide⟩ rfl
    · refine r_callSv (rest := []) h hd_X3_checkRange wm_360 dX3_machine_9 (CX3_checkRange l D x2 (0 : Int32) (7 : Int32) e4) rfl ⟨rfl, rfl⟩ ⟨by decide, by decide⟩ (Nat.le_of_ble_eq_true rfl) ⟨by decide, by decide⟩ rfl ?_
      refine r_iload_n h 2 rfl rfl dX3_machine_12 ?_
      refine r_bipush (v := 7) h dX3_machine_13 (by decide) ?_
      refine r_icmp_ne h 27 dX3_machine_15 (by decide) (fun c5 => ?_) (fun c5 => ?_)
      · replace hF := o_neg c5 hF
        refine r_iload_n h 2 rfl rfl dX3_machine_27 ?_
        refine r_bipush (v := 6) h dX3_machine_28 (by decide) ?_
        refine r_icmp_ne h 50 dX3_machine_30 (by decide) (fun c6 => ?_) (fun c6 => ?_)
        · replace hF := o_neg c6 hF
          refine r_aload_n h 0 rfl rfl dX3_machine_50 ?_
          refine r_get h fl_X3_12 0 rfl rfl dX3_machine_51 ?_
          refine r_get h fl_X3_58 1 rfl rfl dX3_machine_54 ?_
          refine r_iload_n h 1 rfl rfl dX3_machine_57 ?_
          refine r_iload_n h 2 rfl rfl dX3_machine_58 ?_
          obtain ⟨z7, e8, hF⟩ := o_bind hF
          refine r_callV (q0 := 0) (wr := w_pk (rkW D aθ (aρ 0) pθ_spare pθ_saved pθ_text θ ++ rmW D aρ ρ) [0, 1, 3, 4, 5, 6, 7, 9, 10, 11]) (rest := []) h hd_X2_at wm_510 dX3_machine_59 (CX2_at l D (aρ 1) (aρ 7) (12 : Int32) (6 : Int32) 72 (ρ.2.2.2.2.2.2.1, ρ.1) x1 x2 z7 e8) [2, 8] [0, 1, 3, 4, 5, 6, 7, 9, 10, 11] rfl rfl (by decide +kernel) rfl rfl rfl ⟨rfl, rfl⟩ ⟨by decide, by decide⟩ (Nat.le_of_ble_eq_true rfl) ⟨by decide, by decide⟩ rfl (fun v w' hp => ?_)
          obtain ⟨rfl, rfl⟩ := hp
          refine J.sub (ws' := (rkW D aθ (aρ 0) pθ_spare pθ_saved pθ_text θ ++ rmW D aρ ρ)) [0, 1, 10, 2, 3, 4, 5, 6, 11, 7, 8, 9] rfl (by decide +kernel) ?_
          cases hF
        · replace hF := o_pos c6 hF
          refine r_aload_n h 0 rfl rfl dX3_machine_33 ?_
          refine r_get h fl_X3_12 0 rfl rfl dX3_machine_34 ?_
          refine r_iload_n h 1 rfl rfl dX3_machine_37 ?_
          obtain ⟨z9, e10, hF⟩ := o_bind hF
          refine r_callV (q0 := 0) (wr := w_pk (rkW D aθ (aρ 0) pθ_spare pθ_saved pθ_text θ ++ rmW D aρ ρ) [0]) (rest := []) h hd_X1_isFrozen wm_509 dX3_machine_38 (CX1_isFrozen l D aρ ρ x1 z9 e10) [1, 2, 3, 4, 5, 6, 7, 8, 9, 10, 11] [0] rfl rfl (by decide +kernel) rfl rfl rfl ⟨rfl, rfl⟩ ⟨by decide, by decide⟩ (Nat.le_of_ble_eq_true rfl) ⟨by decide, by decide⟩ rfl (fun v w' hp => ?_)
          obtain ⟨rfl, rfl⟩ := hp
          refine J.sub (ws' := (rkW D aθ (aρ 0) pθ_spare pθ_saved pθ_text θ ++ rmW D aρ ρ)) [0, 1, 2, 3, 4, 5, 6, 7, 8, 9, 10, 11] rfl (by decide +kernel) ?_
          refine r_if_eq h 48 dX3_machine_41 (by decide) (fun c11 => ?_) (fun c11 => ?_)
          · replace hF := o_pos c11 hF
            refine r_iconst (v := 0) h dX3_machine_48 (by decide) ?_
            cases hF
          · replace hF := o_neg c11 hF
            refine r_iconst (v := 1) h dX3_machine_44 (by decide) ?_
            refine r_goto h 49 dX3_machine_45 (by decide) ?_
            cases hF
      · replace hF := o_pos c5 hF
        refine r_aload_n h 0 rfl rfl dX3_machine_18 ?_
        refine r_get h fl_X3_12 0 rfl rfl dX3_machine_19 ?_
        refine r_iload_n h 1 rfl rfl dX3_machine_22 ?_
        obtain ⟨z12, e13, hF⟩ := o_bind hF
        refine r_callV (q0 := 0) (wr := w_pk (rkW D aθ (aρ 0) pθ_spare pθ_saved pθ_text θ ++ rmW D aρ ρ) [0]) (rest := []) h hd_X1_cablesOf wm_505 dX3_machine_23 (CX1_cablesOf l D aρ ρ x1 z12 e13) [1, 2, 3, 4, 5, 6, 7, 8, 9, 10, 11] [0] rfl rfl (by decide +kernel) rfl rfl rfl ⟨rfl, rfl⟩ ⟨by decide, by decide⟩ (Nat.le_of_ble_eq_true rfl) ⟨by decide, by decide⟩ rfl (fun v w' hp => ?_)
        obtain ⟨rfl, rfl⟩ := hp
        refine J.sub (ws' := (rkW D aθ (aρ 0) pθ_spare pθ_saved pθ_text θ ++ rmW D aρ ρ)) [0, 1, 2, 3, 4, 5, 6, 7, 8, 9, 10, 11] rfl (by decide +kernel) ?_
        cases hF

def FX3_rack (θ : Int32) (ρ : RS) (x1 : Int32) (x2 : Int32) : Option (Nat ⊕ (Int32)) :=
  bX (FX3_checkRack x1) fun z1 =>
  bX (FX3_checkRange x2 (0 : Int32) (7 : Int32)) fun z3 =>
  if (x2).toInt < 0 ∨ 7 < (x2).toInt then
  ((FX1_loadOfRackOnPhase ρ x1 (x2 - (2 : Int32))).bind fun z6 =>
  some (.inr z6))
else if x2 = (0 : Int32) then
  (gd (¬ (x1 < 0 ∨ 6 ≤ (x1).toNatClampNeg)) (
  some (.inr (ρ.2.2.2.2.1 (x1).toNatClampNeg))))
else if x2 = (1 : Int32) then
  ((FX1_loadOfRack ρ x1).bind fun z10 =>
  some (.inr z10))
else if x2 = (2 : Int32) then
  ((FX1_loadOfRackOnPhase ρ x1 (x2 - (2 : Int32))).bind fun z13 =>
  some (.inr z13))
else if x2 = (3 : Int32) then
  ((FX1_loadOfRackOnPhase ρ x1 (x2 - (2 : Int32))).bind fun z16 =>
  some (.inr z16))
else if x2 = (4 : Int32) then
  ((FX1_loadOfRackOnPhase ρ x1 (x2 - (2 : Int32))).bind fun z19 =>
  some (.inr z19))
else if x2 = (5 : Int32) then
  ((FX1_machinesIn ρ x1).bind fun z22 =>
  some (.inr z22))
else if x2 = (6 : Int32) then
  ((FX1_slotsTakenIn ρ x1).bind fun z25 =>
  some (.inr ((10 : Int32) - z25)))
else if x2 = (7 : Int32) then
  ((FX1_greatestSizeFor ρ x1).bind fun z28 =>
  some (.inr z28))
else none
abbrev rmX3_rack : Room := { frames := 5, cells := 0, slots := 0, locals := 116 }
set_option maxHeartbeats 4000000 in
set_option maxRecDepth 100000 in
theorem CX3_rack (l : Launch) (D : va_G) (aθ : Nat) (pθ_spare : Nat) (pθ_saved : Nat) (pθ_text : Nat) (aρ : Nat → Nat) (θ : Int32) (ρ : RS) (x1 : Int32) (x2 : Int32) (r0 : Int32) (hF : FX3_rack θ ρ x1 x2 = some (.inr r0)) : Ct l D yX3_rack cX3_rack 3 (some .int) rmX3_rack 0 0 [.ref aθ, .int x1, .int x2] (rkW D aθ (aρ 0) pθ_spare pθ_saved pθ_text θ ++ rmW D aρ ρ) (fun v w => v = some (.int r0) ∧ w = (rkW D aθ (aρ 0) pθ_spare pθ_saved pθ_text θ ++ rmW D aρ ρ)) := by
  refine Ct.of (own := RX3) (lv := [(0, .ref aθ), (1, .int x1), (2, .int x2)]) (by decide +kernel) rfl (Nat.le_of_ble_eq_true rfl) rfl (fun X h hr => ?_)
  unfold FX3_rack at hF
  refine r_iload_n h 1 rfl rfl dX3_rack_0 ?_
  rcases o_bX hF with ⟨k_z1, e2, hF⟩ | ⟨z1, e2, hF⟩
  · cases hF
  · refine r_callSv (rest := []) h hd_X3_checkRack wm_445 dX3_rack_1 (CX3_checkRack l D x1 e2) rfl ⟨rfl, rfl⟩ ⟨by decide, by decide⟩ (Nat.le_of_ble_eq_true rfl) ⟨by decide, by decide⟩ rfl ?_
    refine r_iload_n h 2 rfl rfl dX3_rack_4 ?_
    refine r_iconst (v := 0) h dX3_rack_5 (by decide) ?_
    refine r_bipush (v := 7) h dX3_rack_6 (by decide) ?_
    rcases o_bX hF with ⟨k_z3, e4, hF⟩ | ⟨z3, e4, hF⟩
    · cases hF
    · refine r_callSv (rest := []) h hd_X3_checkRange wm_360 dX3_rack_8 (CX3_checkRange l D x2 (0 : Int32) (7 : Int32) e4) rfl ⟨rfl, rfl⟩ ⟨by decide, by decide⟩ (Nat.le_of_ble_eq_true rfl) ⟨by decide, by decide⟩ rfl ?_
      refine r_iload_n h 2 rfl rfl dX3_rack_11 ?_
      by_cases c5 : (x2).toInt < 0 ∨ 7 < (x2).toInt
      · replace hF := o_pos c5 hF
        refine r_tswOut h 109 dX3_rack_12 c5 (by decide) ?_
        refine r_aload_n h 0 rfl rfl dX3_rack_109 ?_
        refine r_get h fl_X3_12 0 rfl rfl dX3_rack_110 ?_
        refine r_iload_n h 1 rfl rfl dX3_rack_113 ?_
        refine r_iload_n h 2 rfl rfl dX3_rack_114 ?_
        refine r_iconst (v := 2) h dX3_rack_115 (by decide) ?_
        refine r_isub h dX3_rack_116 ?_
        obtain ⟨z6, e7, hF⟩ := o_bind hF
        refine r_callV (q0 := 0) (wr := w_pk (rkW D aθ (aρ 0) pθ_spare pθ_saved pθ_text θ ++ rmW D aρ ρ) [0]) (rest := []) h hd_X1_loadOfRackOnPhase wm_473 dX3_rack_117 (CX1_loadOfRackOnPhase l D aρ ρ x1 (x2 - (2 : Int32)) z6 e7) [1, 2, 3, 4, 5, 6, 7, 8, 9, 10, 11] [0] rfl rfl (by decide +kernel) rfl rfl rfl ⟨rfl, rfl⟩ ⟨by decide, by decide⟩ (Nat.le_of_ble_eq_true rfl) ⟨by decide, by decide⟩ rfl (fun v w' hp => ?_)
        obtain ⟨rfl, rfl⟩ := hp
        refine J.sub (ws' := (rkW D aθ (aρ 0) pθ_spare pθ_saved pθ_text θ ++ rmW D aρ ρ)) [0, 1, 2, 3, 4, 5, 6, 7, 8, 9, 10, 11] rfl (by decide +kernel) ?_
        cases hF
        exact r_iret h hr dX3_rack_120 ⟨rfl, rfl⟩
      · replace hF := o_neg c5 hF
        by_cases c8 : x2 = (0 : Int32)
        · replace hF := o_pos c8 hF
          refine r_tswIn h (0 : Int32) c8 60 dX3_rack_12 (by decide) (by decide) rfl (by decide) ?_
          refine r_aload_n h 0 rfl rfl dX3_rack_60 ?_
          refine r_get h fl_X3_12 0 rfl rfl dX3_rack_61 ?_
          refine r_get h fl_X3_45 1 rfl rfl dX3_rack_64 ?_
          refine r_iload_n h 1 rfl rfl dX3_rack_67 ?_
          obtain ⟨hN, hF⟩ := o_gd hF
          refine r_iald h 6 rfl hN dX3_rack_68 ?_
          cases hF
          exact r_iret h hr dX3_rack_69 ⟨rfl, rfl⟩
        · replace hF := o_neg c8 hF
          by_cases c9 : x2 = (1 : Int32)
          · replace hF := o_pos c9 hF
            refine r_tswIn h (1 : Int32) c9 70 dX3_rack_12 (by decide) (by decide) rfl (by decide) ?_
            refine r_aload_n h 0 rfl rfl dX3_rack_70 ?_
            refine r_get h fl_X3_12 0 rfl rfl dX3_rack_71 ?_
            refine r_iload_n h 1 rfl rfl dX3_rack_74 ?_
            obtain ⟨z10, e11, hF⟩ := o_bind hF
            refine r_callV (q0 := 0) (wr := w_pk (rkW D aθ (aρ 0) pθ_spare pθ_saved pθ_text θ ++ rmW D aρ ρ) [0]) (rest := []) h hd_X1_loadOfRack wm_464 dX3_rack_75 (CX1_loadOfRack l D aρ ρ x1 z10 e11) [1, 2, 3, 4, 5, 6, 7, 8, 9, 10, 11] [0] rfl rfl (by decide +kernel) rfl rfl rfl ⟨rfl, rfl⟩ ⟨by decide, by decide⟩ (Nat.le_of_ble_eq_true rfl) ⟨by decide, by decide⟩ rfl (fun v w' hp => ?_)
            obtain ⟨rfl, rfl⟩ := hp
            refine J.sub (ws' := (rkW D aθ (aρ 0) pθ_spare pθ_saved pθ_text θ ++ rmW D aρ ρ)) [0, 1, 2, 3, 4, 5, 6, 7, 8, 9, 10, 11] rfl (by decide +kernel) ?_
            cases hF
            exact r_iret h hr dX3_rack_78 ⟨rfl, rfl⟩
          · replace hF := o_neg c9 hF
            by_cases c12 : x2 = (2 : Int32)
            · replace hF := o_pos c12 hF
              refine r_tswIn h (2 : Int32) c12 109 dX3_rack_12 (by decide) (by decide) rfl (by decide) ?_
              refine r_aload_n h 0 rfl rfl dX3_rack_109 ?_
              refine r_get h fl_X3_12 0 rfl rfl dX3_rack_110 ?_
              refine r_iload_n h 1 rfl rfl dX3_rack_113 ?_
              refine r_iload_n h 2 rfl rfl dX3_rack_114 ?_
              refine r_iconst (v := 2) h dX3_rack_115 (by decide) ?_
              refine r_isub h dX3_rack_116 ?_
              obtain ⟨z13, e14, hF⟩ := o_bind hF
              refine r_callV (q0 := 0) (wr := w_pk (rkW D aθ (aρ 0) pθ_spare pθ_saved pθ_text θ ++ rmW D aρ ρ) [0]) (rest := []) h hd_X1_loadOfRackOnPhase wm_473 dX3_rack_117 (CX1_loadOfRackOnPhase l D aρ ρ x1 (x2 - (2 : Int32)) z13 e14) [1, 2, 3, 4, 5, 6, 7, 8, 9, 10, 11] [0] rfl rfl (by decide +kernel) rfl rfl rfl ⟨rfl, rfl⟩ ⟨by decide, by decide⟩ (Nat.le_of_ble_eq_true rfl) ⟨by decide, by decide⟩ rfl (fun v w' hp => ?_)
              obtain ⟨rfl, rfl⟩ := hp
              refine J.sub (ws' := (rkW D aθ (aρ 0) pθ_spare pθ_saved pθ_text θ ++ rmW D aρ ρ)) [0, 1, 2, 3, 4, 5, 6, 7, 8, 9, 10, 11] rfl (by decide +kernel) ?_
              cases hF
              exact r_iret h hr dX3_rack_120 ⟨rfl, rfl⟩
            · replace hF := o_neg c12 hF
              by_cases c15 : x2 = (3 : Int32)
              · replace hF := o_pos c15 hF
                refine r_tswIn h (3 : Int32) c15 109 dX3_rack_12 (by decide) (by decide) rfl (by decide) ?_
                refine r_aload_n h 0 rfl rfl dX3_rack_109 ?_
                refine r_get h fl_X3_12 0 rfl rfl dX3_rack_110 ?_
                refine r_iload_n h 1 rfl rfl dX3_rack_113 ?_
                refine r_iload_n h 2 rfl rfl dX3_rack_114 ?_
                refine r_iconst (v := 2) h dX3_rack_115 (by decide) ?_
                refine r_isub h dX3_rack_116 ?_
                obtain ⟨z16, e17, hF⟩ := o_bind hF
                refine r_callV (q0 := 0) (wr := w_pk (rkW D aθ (aρ 0) pθ_spare pθ_saved pθ_text θ ++ rmW D aρ ρ) [0]) (rest := []) h hd_X1_loadOfRackOnPhase wm_473 dX3_rack_117 (CX1_loadOfRackOnPhase l D aρ ρ x1 (x2 - (2 : Int32)) z16 e17) [1, 2, 3, 4, 5, 6, 7, 8, 9, 10, 11] [0] rfl rfl (by decide +kernel) rfl rfl rfl ⟨rfl, rfl⟩ ⟨by decide, by decide⟩ (Nat.le_of_ble_eq_true rfl) ⟨by decide, by decide⟩ rfl (fun v w' hp => ?_)
                obtain ⟨rfl, rfl⟩ := hp
                refine J.sub (ws' := (rkW D aθ (aρ 0) pθ_spare pθ_saved pθ_text θ ++ rmW D aρ ρ)) [0, 1, 2, 3, 4, 5, 6, 7, 8, 9, 10, 11] rfl (by decide +kernel) ?_
                cases hF
                exact r_iret h hr dX3_rack_120 ⟨rfl, rfl⟩
              · replace hF := o_neg c15 hF
                by_cases c18 : x2 = (4 : Int32)
                · replace hF := o_pos c18 hF
                  refine r_tswIn h (4 : Int32) c18 109 dX3_rack_12 (by decide) (by decide) rfl (by decide) ?_
                  refine r_aload_n h 0 rfl rfl dX3_rack_109 ?_
                  refine r_get h fl_X3_12 0 rfl rfl dX3_rack_110 ?_
                  refine r_iload_n h 1 rfl rfl dX3_rack_113 ?_
                  refine r_iload_n h 2 rfl rfl dX3_rack_114 ?_
                  refine r_iconst (v := 2) h dX3_rack_115 (by decide) ?_
                  refine r_isub h dX3_rack_116 ?_
                  obtain ⟨z19, e20, hF⟩ := o_bind hF
                  refine r_callV (q0 := 0) (wr := w_pk (rkW D aθ (aρ 0) pθ_spare pθ_saved pθ_text θ ++ rmW D aρ ρ) [0]) (rest := []) h hd_X1_loadOfRackOnPhase wm_473 dX3_rack_117 (CX1_loadOfRackOnPhase l D aρ ρ x1 (x2 - (2 : Int32)) z19 e20) [1, 2, 3, 4, 5, 6, 7, 8, 9, 10, 11] [0] rfl rfl (by decide +kernel) rfl rfl rfl ⟨rfl, rfl⟩ ⟨by decide, by decide⟩ (Nat.le_of_ble_eq_true rfl) ⟨by decide, by decide⟩ rfl (fun v w' hp => ?_)
                  obtain ⟨rfl, rfl⟩ := hp
                  refine J.sub (ws' := (rkW D aθ (aρ 0) pθ_spare pθ_saved pθ_text θ ++ rmW D aρ ρ)) [0, 1, 2, 3, 4, 5, 6, 7, 8, 9, 10, 11] rfl (by decide +kernel) ?_
                  cases hF
                  exact r_iret h hr dX3_rack_120 ⟨rfl, rfl⟩
                · replace hF := o_neg c18 hF
                  by_cases c21 : x2 = (5 : Int32)
                  · replace hF := o_pos c21 hF
                    refine r_tswIn h (5 : Int32) c21 79 dX3_rack_12 (by decide) (by decide) rfl (by decide) ?_
                    refine r_aload_n h 0 rfl rfl dX3_rack_79 ?_
                    refine r_get h fl_X3_12 0 rfl rfl dX3_rack_80 ?_
                    refine r_iload_n h 1 rfl rfl dX3_rack_83 ?_
                    obtain ⟨z22, e23, hF⟩ := o_bind hF
                    refine r_callV (q0 := 0) (wr := w_pk (rkW D aθ (aρ 0) pθ_spare pθ_saved pθ_text θ ++ rmW D aρ ρ) [0]) (rest := []) h hd_X1_machinesIn wm_465 dX3_rack_84 (CX1_machinesIn l D aρ ρ x1 z22 e23) [1, 2, 3, 4, 5, 6, 7, 8, 9, 10, 11] [0] rfl rfl (by decide +kernel) rfl rfl rfl ⟨rfl, rfl⟩ ⟨by decide, by decide⟩ (Nat.le_of_ble_eq_true rfl) ⟨by decide, by decide⟩ rfl (fun v w' hp => ?_)
                    obtain ⟨rfl, rfl⟩ := hp
                    refine J.sub (ws' := (rkW D aθ (aρ 0) pθ_spare pθ_saved pθ_text θ ++ rmW D aρ ρ)) [0, 1, 2, 3, 4, 5, 6, 7, 8, 9, 10, 11] rfl (by decide +kernel) ?_
                    cases hF
                    exact r_iret h hr dX3_rack_87 ⟨rfl, rfl⟩
                  · replace hF := o_neg c21 hF
                    by_cases c24 : x2 = (6 : Int32)
                    · replace hF := o_pos c24 hF
                      refine r_tswIn h (6 : Int32) c24 88 dX3_rack_12 (by decide) (by decide) rfl (by decide) ?_
                      refine r_bipush (v := 10) h dX3_rack_88 (by decide) ?_
                      refine r_aload_n h 0 rfl rfl dX3_rack_90 ?_
                      refine r_get h fl_X3_12 0 rfl rfl dX3_rack_91 ?_
                      refine r_iload_n h 1 rfl rfl dX3_rack_94 ?_
                      obtain ⟨z25, e26, hF⟩ := o_bind hF
                      refine r_callV (q0 := 0) (wr := w_pk (rkW D aθ (aρ 0) pθ_spare pθ_saved pθ_text θ ++ rmW D aρ ρ) [0]) (rest := [.int (10 : Int32)]) h hd_X1_slotsTakenIn wm_258 dX3_rack_95 (CX1_slotsTakenIn l D aρ ρ x1 z25 e26) [1, 2, 3, 4, 5, 6, 7, 8, 9, 10, 11] [0] rfl rfl (by decide +kernel) rfl rfl rfl ⟨rfl, rfl⟩ ⟨by decide, by decide⟩ (Nat.le_of_ble_eq_true rfl) ⟨by decide, by decide⟩ rfl (fun v w' hp => ?_)
                      obtain ⟨rfl, rfl⟩ := hp
                      refine J.sub (ws' := (rkW D aθ (aρ 0) pθ_spare pθ_saved pθ_text θ ++ rmW D aρ ρ)) [0, 1, 2, 3, 4, 5, 6, 7, 8, 9, 10, 11] rfl (by decide +kernel) ?_
                      refine r_isub h dX3_rack_98 ?_
                      cases hF
                      exact r_iret h hr dX3_rack_99 ⟨rfl, rfl⟩
                    · replace hF := o_neg c24 hF
                      by_cases c27 : x2 = (7 : Int32)
                      · replace hF := o_pos c27 hF
                        refine r_tswIn h (7 : Int32) c27 100 dX3_rack_12 (by decide) (by decide) rfl (by decide) ?_
                        refine r_aload_n h 0 rfl rfl dX3_rack_100 ?_
                        refine r_get h fl_X3_12 0 rfl rfl dX3_rack_101 ?_
                        refine r_iload_n h 1 rfl rfl dX3_rack_104 ?_
                        obtain ⟨z28, e29, hF⟩ := o_bind hF
                        refine r_callV (q0 := 0) (wr := w_pk (rkW D aθ (aρ 0) pθ_spare pθ_saved pθ_text θ ++ rmW D aρ ρ) [0]) (rest := []) h hd_X1_greatestSizeFor wm_469 dX3_rack_105 (CX1_greatestSizeFor l D aρ ρ x1 z28 e29) [1, 2, 3, 4, 5, 6, 7, 8, 9, 10, 11] [0] rfl rfl (by decide +kernel) rfl rfl rfl ⟨rfl, rfl⟩ ⟨by decide, by decide⟩ (Nat.le_of_ble_eq_true rfl) ⟨by decide, by decide⟩ rfl (fun v w' hp => ?_)
                        obtain ⟨rfl, rfl⟩ := hp
                        refine J.sub (ws' := (rkW D aθ (aρ 0) pθ_spare pθ_saved pθ_text θ ++ rmW D aρ ρ)) [0, 1, 2, 3, 4, 5, 6, 7, 8, 9, 10, 11] rfl (by decide +kernel) ?_
                        cases hF
                        exact r_iret h hr dX3_rack_108 ⟨rfl, rfl⟩
                      · replace hF := o_neg c27 hF
                        cases hF

abbrev rmTX3_rack : Room := { frames := 7, cells := 1, slots := 6, locals := 116 }
set_option maxHeartbeats 4000000 in
set_option maxRecDepth 100000 in
theorem TX3_rack (l : Launch) (hl0 : l.stackTraces = false) (D : va_G) (aθ : Nat) (pθ_spare : Nat) (pθ_saved : Nat) (pθ_text : Nat) (aρ : Nat → Nat) (θ : Int32) (ρ : RS) (x1 : Int32) (x2 : Int32) (k0 : Nat) (hF : FX3_rack θ ρ x1 x2 = some (.inl k0)) : CtT l D yX3_rack cX3_rack 3 (some .int) rmTX3_rack 1 6 [.ref aθ, .int x1, .int x2] (rkW D aθ (aρ 0) pθ_spare pθ_saved pθ_text θ ++ rmW D aρ ρ) (exn k0) := by
  refine CtT.of (own := RX3) (lv := [(0, .ref aθ), (1, .int x1), (2, .int x2)]) (by decide +kernel) rfl (Nat.le_of_ble_eq_true rfl) rfl (fun X h hx ht => ?_)
  unfold FX3_rack at hF
  refine r_iload_n h 1 rfl rfl dX3_rack_0 ?_
  rcases o_bX hF with ⟨k_z1, e2, hF⟩ | ⟨z1, e2, hF⟩
  · cases hF
    exact r_callTSp (rest := []) h hx ht hd_X3_checkRack wm_445 dX3_rack_1 (TX3_checkRack l hl0 D x1 _ e2) rfl ⟨rfl, rfl⟩ ⟨by decide, by decide⟩ (Nat.le_of_ble_eq_true rfl) ⟨by decide, by decide⟩ ⟨by decide, by decide⟩ rfl
  · refine r_callSv (rest := []) h hd_X3_checkRack wm_445 dX3_rack_1 (CX3_checkRack l D x1 e2) rfl ⟨rfl, rfl⟩ ⟨by decide, by decide⟩ (Nat.le_of_ble_eq_true rfl) ⟨by decide, by decide⟩ rfl ?_
    refine r_iload_n h 2 rfl rfl dX3_rack_4 ?_
    refine r_iconst (v := 0) h dX3_rack_5 (by decide) ?_
    refine r_bipush (v := 7) h dX3_rack_6 (by decide) ?_
    rcases o_bX hF with ⟨k_z3, e4, hF⟩ | ⟨z3, e4, hF⟩
    · cases hF
      exact r_callTSp (rest := []) h hx ht hd_X3_checkRange wm_360 dX3_rack_8 (TX3_checkRange l hl0 D x2 (0 : Int32) (7 : Int32) _ e4) rfl ⟨rfl, rfl⟩ ⟨by decide, by decide⟩ (Nat.le_of_ble_eq_true rfl) ⟨by decide, by decide⟩ ⟨by decide, by decide⟩ rfl
    · refine r_callSv (rest := []) h hd_X3_checkRange wm_360 dX3_rack_8 (CX3_checkRange l D x2 (0 : Int32) (7 : Int32) e4) rfl ⟨rfl, rfl⟩ ⟨by decide, by decide⟩ (Nat.le_of_ble_eq_true rfl) ⟨by decide, by decide⟩ rfl ?_
      refine r_iload_n h 2 rfl rfl dX3_rack_11 ?_
      by_cases c5 : (x2).toInt < 0 ∨ 7 < (x2).toInt
      · replace hF := o_pos c5 hF
        refine r_tswOut h 109 dX3_rack_12 c5 (by decide) ?_
        refine r_aload_n h 0 rfl rfl dX3_rack_109 ?_
        refine r_get h fl_X3_12 0 rfl rfl dX3_rack_110 ?_
        refine r_iload_n h 1 rfl rfl dX3_rack_113 ?_
        refine r_iload_n h 2 rfl rfl dX3_rack_114 ?_
        refine r_iconst (v := 2) h dX3_rack_115 (by decide) ?_
        refine r_isub h dX3_rack_116 ?_
        obtain ⟨z6, e7, hF⟩ := o_bind hF
        refine r_callV (q0 := 0) (wr := w_pk (rkW D aθ (aρ 0) pθ_spare pθ_saved pθ_text θ ++ rmW D aρ ρ) [0]) (rest := []) h hd_X1_loadOfRackOnPhase wm_473 dX3_rack_117 (CX1_loadOfRackOnPhase l D aρ ρ x1 (x2 - (2 : Int32)) z6 e7) [1, 2, 3, 4, 5, 6, 7, 8, 9, 10, 11] [0] rfl rfl (by decide +kernel) rfl rfl rfl ⟨rfl, rfl⟩ ⟨by decide, by decide⟩ (Nat.le_of_ble_eq_true rfl) ⟨by decide, by decide⟩ rfl (fun v w' hp => ?_)
        obtain ⟨rfl, rfl⟩ := hp
        refine J.sub (ws' := (rkW D aθ (aρ 0) pθ_spare pθ_saved pθ_text θ ++ rmW D aρ ρ)) [0, 1, 2, 3, 4, 5, 6, 7, 8, 9, 10, 11] rfl (by decide +kernel) ?_
        cases hF
      · replace hF := o_neg c5 hF
        by_cases c8 : x2 = (0 : Int32)
        · replace hF := o_pos c8 hF
          refine r_tswIn h (0 : Int32) c8 60 dX3_rack_12 (by decide) (by decide) rfl (by decide) ?_
          refine r_aload_n h 0 rfl rfl dX3_rack_60 ?_
          refine r_get h fl_X3_12 0 rfl rfl dX3_rack_61 ?_
          refine r_get h fl_X3_45 1 rfl rfl dX3_rack_64 ?_
          refine r_iload_n h 1 rfl rfl dX3_rack_67 ?_
          obtain ⟨hN, hF⟩ := o_gd hF
          refine r_iald h 6 rfl hN dX3_rack_68 ?_
          cases hF
        · replace hF := o_neg c8 hF
          by_cases c9 : x2 = (1 : Int32)
          · replace hF := o_pos c9 hF
            refine r_tswIn h (1 : Int32) c9 70 dX3_rack_12 (by decide) (by decide) rfl (by decide) ?_
            refine r_aload_n h 0 rfl rfl dX3_rack_70 ?_
            refine r_get h fl_X3_12 0 rfl rfl dX3_rack_71 ?_
            refine r_iload_n h 1 rfl rfl dX3_rack_74 ?_
            obtain ⟨z10, e11, hF⟩ := o_bind hF
            refine r_callV (q0 := 0) (wr := w_pk (rkW D aθ (aρ 0) pθ_spare pθ_saved pθ_text θ ++ rmW D aρ ρ) [0]) (rest := []) h hd_X1_loadOfRack wm_464 dX3_rack_75 (CX1_loadOfRack l D aρ ρ x1 z10 e11) [1, 2, 3, 4, 5, 6, 7, 8, 9, 10, 11] [0] rfl rfl (by decide +kernel) rfl rfl rfl ⟨rfl, rfl⟩ ⟨by decide, by decide⟩ (Nat.le_of_ble_eq_true rfl) ⟨by decide, by decide⟩ rfl (fun v w' hp => ?_)
            obtain ⟨rfl, rfl⟩ := hp
            refine J.sub (ws' := (rkW D aθ (aρ 0) pθ_spare pθ_saved pθ_text θ ++ rmW D aρ ρ)) [0, 1, 2, 3, 4, 5, 6, 7, 8, 9, 10, 11] rfl (by decide +kernel) ?_
            cases hF
          · replace hF := o_neg c9 hF
            by_cases c12 : x2 = (2 : Int32)
            · replace hF := o_pos c12 hF
              refine r_tswIn h (2 : Int32) c12 109 dX3_rack_12 (by decide) (by decide) rfl (by decide) ?_
              refine r_aload_n h 0 rfl rfl dX3_rack_109 ?_
              refine r_get h fl_X3_12 0 rfl rfl dX3_rack_110 ?_
              refine r_iload_n h 1 rfl rfl dX3_rack_113 ?_
              refine r_iload_n h 2 rfl rfl dX3_rack_114 ?_
              refine r_iconst (v := 2) h dX3_rack_115 (by decide) ?_
              refine r_isub h dX3_rack_116 ?_
              obtain ⟨z13, e14, hF⟩ := o_bind hF
              refine r_callV (q0 := 0) (wr := w_pk (rkW D aθ (aρ 0) pθ_spare pθ_saved pθ_text θ ++ rmW D aρ ρ) [0]) (rest := []) h hd_X1_loadOfRackOnPhase wm_473 dX3_rack_117 (CX1_loadOfRackOnPhase l D aρ ρ x1 (x2 - (2 : Int32)) z13 e14) [1, 2, 3, 4, 5, 6, 7, 8, 9, 10, 11] [0] rfl rfl (by decide +kernel) rfl rfl rfl ⟨rfl, rfl⟩ ⟨by decide, by decide⟩ (Nat.le_of_ble_eq_true rfl) ⟨by decide, by decide⟩ rfl (fun v w' hp => ?_)
              obtain ⟨rfl, rfl⟩ := hp
              refine J.sub (ws' := (rkW D aθ (aρ 0) pθ_spare pθ_saved pθ_text θ ++ rmW D aρ ρ)) [0, 1, 2, 3, 4, 5, 6, 7, 8, 9, 10, 11] rfl (by decide +kernel) ?_
              cases hF
            · replace hF := o_neg c12 hF
              by_cases c15 : x2 = (3 : Int32)
              · replace hF := o_pos c15 hF
                refine r_tswIn h (3 : Int32) c15 109 dX3_rack_12 (by decide) (by decide) rfl (by decide) ?_
                refine r_aload_n h 0 rfl rfl dX3_rack_109 ?_
                refine r_get h fl_X3_12 0 rfl rfl dX3_rack_110 ?_
                refine r_iload_n h 1 rfl rfl dX3_rack_113 ?_
                refine r_iload_n h 2 rfl rfl dX3_rack_114 ?_
                refine r_iconst (v := 2) h dX3_rack_115 (by decide) ?_
                refine r_isub h dX3_rack_116 ?_
                obtain ⟨z16, e17, hF⟩ := o_bind hF
                refine r_callV (q0 := 0) (wr := w_pk (rkW D aθ (aρ 0) pθ_spare pθ_saved pθ_text θ ++ rmW D aρ ρ) [0]) (rest := []) h hd_X1_loadOfRackOnPhase wm_473 dX3_rack_117 (CX1_loadOfRackOnPhase l D aρ ρ x1 (x2 - (2 : Int32)) z16 e17) [1, 2, 3, 4, 5, 6, 7, 8, 9, 10, 11] [0] rfl rfl (by decide +kernel) rfl rfl rfl ⟨rfl, rfl⟩ ⟨by decide, by decide⟩ (Nat.le_of_ble_eq_true rfl) ⟨by decide, by decide⟩ rfl (fun v w' hp => ?_)
                obtain ⟨rfl, rfl⟩ := hp
                refine J.sub (ws' := (rkW D aθ (aρ 0) pθ_spare pθ_saved pθ_text θ ++ rmW D aρ ρ)) [0, 1, 2, 3, 4, 5, 6, 7, 8, 9, 10, 11] rfl (by decide +kernel) ?_
                cases hF
              · replace hF := o_neg c15 hF
                by_cases c18 : x2 = (4 : Int32)
                · replace hF := o_pos c18 hF
                  refine r_tswIn h (4 : Int32) c18 109 dX3_rack_12 (by decide) (by decide) rfl (by decide) ?_
                  refine r_aload_n h 0 rfl rfl dX3_rack_109 ?_
                  refine r_get h fl_X3_12 0 rfl rfl dX3_rack_110 ?_
                  refine r_iload_n h 1 rfl rfl dX3_rack_113 ?_
                  refine r_iload_n h 2 rfl rfl dX3_rack_114 ?_
                  refine r_iconst (v := 2) h dX3_rack_115 (by decide) ?_
                  refine r_isub h dX3_rack_116 ?_
                  obtain ⟨z19, e20, hF⟩ := o_bind hF
                  refine r_callV (q0 := 0) (wr := w_pk (rkW D aθ (aρ 0) pθ_spare pθ_saved pθ_text θ ++ rmW D aρ ρ) [0]) (rest := []) h hd_X1_loadOfRackOnPhase wm_473 dX3_rack_117 (CX1_loadOfRackOnPhase l D aρ ρ x1 (x2 - (2 : Int32)) z19 e20) [1, 2, 3, 4, 5, 6, 7, 8, 9, 10, 11] [0] rfl rfl (by decide +kernel) rfl rfl rfl ⟨rfl, rfl⟩ ⟨by decide, by decide⟩ (Nat.le_of_ble_eq_true rfl) ⟨by decide, by decide⟩ rfl (fun v w' hp => ?_)
                  obtain ⟨rfl, rfl⟩ := hp
                  refine J.sub (ws' := (rkW D aθ (aρ 0) pθ_spare pθ_saved pθ_text θ ++ rmW D aρ ρ)) [0, 1, 2, 3, 4, 5, 6, 7, 8, 9, 10, 11] rfl (by decide +kernel) ?_
                  cases hF
                · replace hF := o_neg c18 hF
                  by_cases c21 : x2 = (5 : Int32)
                  · replace hF := o_pos c21 hF
                    refine r_tswIn h (5 : Int32) c21 79 dX3_rack_12 (by decide) (by decide) rfl (by decide) ?_
                    refine r_aload_n h 0 rfl rfl dX3_rack_79 ?_
                    refine r_get h fl_X3_12 0 rfl rfl dX3_rack_80 ?_
                    refine r_iload_n h 1 rfl rfl dX3_rack_83 ?_
                    obtain ⟨z22, e23, hF⟩ := o_bind hF
                    refine r_callV (q0 := 0) (wr := w_pk (rkW D aθ (aρ 0) pθ_spare pθ_saved pθ_text θ ++ rmW D aρ ρ) [0]) (rest := []) h hd_X1_machinesIn wm_465 dX3_rack_84 (CX1_machinesIn l D aρ ρ x1 z22 e23) [1, 2, 3, 4, 5, 6, 7, 8, 9, 10, 11] [0] rfl rfl (by decide +kernel) rfl rfl rfl ⟨rfl, rfl⟩ ⟨by decide, by decide⟩ (Nat.le_of_ble_eq_true rfl) ⟨by decide, by decide⟩ rfl (fun v w' hp => ?_)
                    obtain ⟨rfl, rfl⟩ := hp
                    refine J.sub (ws' := (rkW D aθ (aρ 0) pθ_spare pθ_saved pθ_text θ ++ rmW D aρ ρ)) [0, 1, 2, 3, 4, 5, 6, 7, 8, 9, 10, 11] rfl (by decide +kernel) ?_
                    cases hF
                  · replace hF := o_neg c21 hF
                    by_cases c24 : x2 = (6 : Int32)
                    · replace hF := o_pos c24 hF
                      refine r_tswIn h (6 : Int32) c24 88 dX3_rack_12 (by decide) (by decide) rfl (by decide) ?_
                      refine r_bipush (v := 10) h dX3_rack_88 (by decide) ?_
                      refine r_aload_n h 0 rfl rfl dX3_rack_90 ?_
                      refine r_get h fl_X3_12 0 rfl rfl dX3_rack_91 ?_
                      refine r_iload_n h 1 rfl rfl dX3_rack_94 ?_
                      obtain ⟨z25, e26, hF⟩ := o_bind hF
                      refine r_callV (q0 := 0) (wr := w_pk (rkW D aθ (aρ 0) pθ_spare pθ_saved pθ_text θ ++ rmW D aρ ρ) [0]) (rest := [.int (10 : Int32)]) h hd_X1_slotsTakenIn wm_258 dX3_rack_95 (CX1_slotsTakenIn l D aρ ρ x1 z25 e26) [1, 2, 3, 4, 5, 6, 7, 8, 9, 10, 11] [0] rfl rfl (by decide +kernel) rfl rfl rfl ⟨rfl, rfl⟩ ⟨by decide, by decide⟩ (Nat.le_of_ble_eq_true rfl) ⟨by decide, by decide⟩ rfl (fun v w' hp => ?_)
                      obtain ⟨rfl, rfl⟩ := hp
                      refine J.sub (ws' := (rkW D aθ (aρ 0) pθ_spare pθ_saved pθ_text θ ++ rmW D aρ ρ)) [0, 1, 2, 3, 4, 5, 6, 7, 8, 9, 10, 11] rfl (by decide +kernel) ?_
                      refine r_isub h dX3_rack_98 ?_
                      cases hF
                    · replace hF := o_neg c24 hF
                      by_cases c27 : x2 = (7 : Int32)
                      · replace hF := o_pos c27 hF
                        refine r_tswIn h (7 : Int32) c27 100 dX3_rack_12 (by decide) (by decide) rfl (by decide) ?_
                        refine r_aload_n h 0 rfl rfl dX3_rack_100 ?_
                        refine r_get h fl_X3_12 0 rfl rfl dX3_rack_101 ?_
                        refine r_iload_n h 1 rfl rfl dX3_rack_104 ?_
                        obtain ⟨z28, e29, hF⟩ := o_bind hF
                        refine r_callV (q0 := 0) (wr := w_pk (rkW D aθ (aρ 0) pθ_spare pθ_saved pθ_text θ ++ rmW D aρ ρ) [0]) (rest := []) h hd_X1_greatestSizeFor wm_469 dX3_rack_105 (CX1_greatestSizeFor l D aρ ρ x1 z28 e29) [1, 2, 3, 4, 5, 6, 7, 8, 9, 10, 11] [0] rfl rfl (by decide +kernel) rfl rfl rfl ⟨rfl, rfl⟩ ⟨by decide, by decide⟩ (Nat.le_of_ble_eq_true rfl) ⟨by decide, by decide⟩ rfl (fun v w' hp => ?_)
                        obtain ⟨rfl, rfl⟩ := hp
                        refine J.sub (ws' := (rkW D aθ (aρ 0) pθ_spare pθ_saved pθ_text θ ++ rmW D aρ ρ)) [0, 1, 2, 3, 4, 5, 6, 7, 8, 9, 10, 11] rfl (by decide +kernel) ?_
                        cases hF
                      · replace hF := o_neg c27 hF
                        cases hF

def FX3_slot (θ : Int32) (ρ : RS) (x1 : Int32) (x2 : Int32) : Option (Nat ⊕ (Int32)) :=
  bX (FX3_checkRack x1) fun z1 =>
  if x2 < 0 then
  (some (.inl 1))
else
  (if x2 < (10 : Int32) then
  ((FX1_machineAt ρ x1 x2).bind fun z5 =>
  some (.inr z5))
else
  (some (.inl 1)))
abbrev rmX3_slot : Room := { frames := 4, cells := 0, slots := 0, locals := 93 }
set_option maxHeartbeats 4000000 in
set_option maxRecDepth 100000 in
theorem CX3_slot (l : Launch) (D : va_G) (aθ : Nat) (pθ_spare : Nat) (pθ_saved : Nat) (pθ_text : Nat) (aρ : Nat → Nat) (θ : Int32) (ρ : RS) (x1 : Int32) (x2 : Int32) (r0 : Int32) (hF : FX3_slot θ ρ x1 x2 = some (.inr r0)) : Ct l D yX3_slot cX3_slot 3 (some .int) rmX3_slot 0 0 [.ref aθ, .int x1, .int x2] (rkW D aθ (aρ 0) pθ_spare pθ_saved pθ_text θ ++ rmW D aρ ρ) (fun v w => v = some (.int r0) ∧ w = (rkW D aθ (aρ 0) pθ_spare pθ_saved pθ_text θ ++ rmW D aρ ρ)) := by
  refine Ct.of (own := RX3) (lv := [(0, .ref aθ), (1, .int x1), (2, .int x2)]) (by decide +kernel) rfl (Nat.le_of_ble_eq_true rfl) rfl (fun X h hr => ?_)
  unfold FX3_slot at hF
  refine r_iload_n h 1 rfl rfl dX3_slot_0 ?_
  rcases o_bX hF with ⟨k_z1, e2, hF⟩ | ⟨z1, e2, hF⟩
  · cases hF
  · refine r_callSv (rest := []) h hd_X3_checkRack wm_445 dX3_slot_1 (CX3_checkRack l D x1 e2) rfl ⟨rfl, rfl⟩ ⟨by decide, by decide⟩ (Nat.le_of_ble_eq_true rfl) ⟨by decide, by decide⟩ rfl ?_
    refine r_iload_n h 2 rfl rfl dX3_slot_4 ?_
    refine r_if_lt h 14 dX3_slot_5 (by decide) (fun c3 => ?_) (fun c3 => ?_)
    · replace hF := o_pos c3 hF
      cases hF
    · replace hF := o_neg c3 hF
      refine r_iload_n h 2 rfl rfl dX3_slot_8 ?_
      refine r_bipush (v := 10) h dX3_slot_9 (by decide) ?_
      refine r_icmp_lt h 24 dX3_slot_11 (by decide) (fun c4 => ?_) (fun c4 => ?_)
      · replace hF := o_pos c4 hF
        refine r_aload_n h 0 rfl rfl dX3_slot_24 ?_
        refine r_get h fl_X3_12 0 rfl rfl dX3_slot_25 ?_
        refine r_iload_n h 1 rfl rfl dX3_slot_28 ?_
        refine r_iload_n h 2 rfl rfl dX3_slot_29 ?_
        obtain ⟨z5, e6, hF⟩ := o_bind hF
        refine r_callV (q0 := 0) (wr := w_pk (rkW D aθ (aρ 0) pθ_spare pθ_saved pθ_text θ ++ rmW D aρ ρ) [0]) (rest := []) h hd_X1_machineAt wm_482 dX3_slot_30 (CX1_machineAt l D aρ ρ x1 x2 z5 e6) [1, 2, 3, 4, 5, 6, 7, 8, 9, 10, 11] [0] rfl rfl (by decide +kernel) rfl rfl rfl ⟨rfl, rfl⟩ ⟨by decide, by decide⟩ (Nat.le_of_ble_eq_true rfl) ⟨by decide, by decide⟩ rfl (fun v w' hp => ?_)
        obtain ⟨rfl, rfl⟩ := hp
        refine J.sub (ws' := (rkW D aθ (aρ 0) pθ_spare pθ_saved pθ_text θ ++ rmW D aρ ρ)) [0, 1, 2, 3, 4, 5, 6, 7, 8, 9, 10, 11] rfl (by decide +kernel) ?_
        cases hF
        exact r_iret h hr dX3_slot_33 ⟨rfl, rfl⟩
      · replace hF := o_neg c4 hF
        cases hF

abbrev rmTX3_slot : Room := { frames := 7, cells := 1, slots := 6, locals := 110 }
set_option maxHeartbeats 4000000 in
set_option maxRecDepth 100000 in
theorem TX3_slot (l : Launch) (hl0 : l.stackTraces = false) (D : va_G) (aθ : Nat) (pθ_spare : Nat) (pθ_saved : Nat) (pθ_text : Nat) (aρ : Nat → Nat) (θ : Int32) (ρ : RS) (x1 : Int32) (x2 : Int32) (k0 : Nat) (hF : FX3_slot θ ρ x1 x2 = some (.inl k0)) : CtT l D yX3_slot cX3_slot 3 (some .int) rmTX3_slot 1 6 [.ref aθ, .int x1, .int x2] (rkW D aθ (aρ 0) pθ_spare pθ_saved pθ_text θ ++ rmW D aρ ρ) (exn k0) := by
  refine CtT.of (own := RX3) (lv := [(0, .ref aθ), (1, .int x1), (2, .int x2)]) (by decide +kernel) rfl (Nat.le_of_ble_eq_true rfl) rfl (fun X h hx ht => ?_)
  unfold FX3_slot at hF
  refine r_iload_n h 1 rfl rfl dX3_slot_0 ?_
  rcases o_bX hF with ⟨k_z1, e2, hF⟩ | ⟨z1, e2, hF⟩
  · cases hF
    exact r_callTSp (rest := []) h hx ht hd_X3_checkRack wm_445 dX3_slot_1 (TX3_checkRack l hl0 D x1 _ e2) rfl ⟨rfl, rfl⟩ ⟨by decide, by decide⟩ (Nat.le_of_ble_eq_true rfl) ⟨by decide, by decide⟩ ⟨by decide, by decide⟩ rfl
  · refine r_callSv (rest := []) h hd_X3_checkRack wm_445 dX3_slot_1 (CX3_checkRack l D x1 e2) rfl ⟨rfl, rfl⟩ ⟨by decide, by decide⟩ (Nat.le_of_ble_eq_true rfl) ⟨by decide, by decide⟩ rfl ?_
    refine r_iload_n h 2 rfl rfl dX3_slot_4 ?_
    refine r_if_lt h 14 dX3_slot_5 (by decide) (fun c3 => ?_) (fun c3 => ?_)
    · replace hF := o_pos c3 hF
      cases hF
      exact r_throw (E := exn 1) (text := "no such slot") h hx ht hl0 thf_1 (by decide +kernel) dX3_slot_14 dX3_slot_17 dX3_slot_18 dX3_slot_20 dX3_slot_23 ⟨by decide, Nat.le_of_ble_eq_true rfl, by decide, by decide⟩ ⟨by decide, by decide⟩
    · replace hF := o_neg c3 hF
      refine r_iload_n h 2 rfl rfl dX3_slot_8 ?_
      refine r_bipush (v := 10) h dX3_slot_9 (by decide) ?_
      refine r_icmp_lt h 24 dX3_slot_11 (by decide) (fun c4 => ?_) (fun c4 => ?_)
      · replace hF := o_pos c4 hF
        refine r_aload_n h 0 rfl rfl dX3_slot_24 ?_
        refine r_get h fl_X3_12 0 rfl rfl dX3_slot_25 ?_
        refine r_iload_n h 1 rfl rfl dX3_slot_28 ?_
        refine r_iload_n h 2 rfl rfl dX3_slot_29 ?_
        obtain ⟨z5, e6, hF⟩ := o_bind hF
        refine r_callV (q0 := 0) (wr := w_pk (rkW D aθ (aρ 0) pθ_spare pθ_saved pθ_text θ ++ rmW D aρ ρ) [0]) (rest := []) h hd_X1_machineAt wm_482 dX3_slot_30 (CX1_machineAt l D aρ ρ x1 x2 z5 e6) [1, 2, 3, 4, 5, 6, 7, 8, 9, 10, 11] [0] rfl rfl (by decide +kernel) rfl rfl rfl ⟨rfl, rfl⟩ ⟨by decide, by decide⟩ (Nat.le_of_ble_eq_true rfl) ⟨by decide, by decide⟩ rfl (fun v w' hp => ?_)
        obtain ⟨rfl, rfl⟩ := hp
        refine J.sub (ws' := (rkW D aθ (aρ 0) pθ_spare pθ_saved pθ_text θ ++ rmW D aρ ρ)) [0, 1, 2, 3, 4, 5, 6, 7, 8, 9, 10, 11] rfl (by decide +kernel) ?_
        cases hF
      · replace hF := o_neg c4 hF
        cases hF
        exact r_throw (E := exn 1) (text := "no such slot") h hx ht hl0 thf_1 (by decide +kernel) dX3_slot_14 dX3_slot_17 dX3_slot_18 dX3_slot_20 dX3_slot_23 ⟨by decide, Nat.le_of_ble_eq_true rfl, by decide, by decide⟩ ⟨by decide, by decide⟩

def FX3_cable (θ : Int32) (ρ : RS) (x1 : Int32) (x2 : Int32) : Option (Nat ⊕ (Int32)) :=
  bX (FX3_checkCable θ ρ x1) fun z1 =>
  bX (FX3_checkRange x2 (0 : Int32) (3 : Int32)) fun z3 =>
  if x2 = (3 : Int32) then
  ((FX1_needOfCable ρ x1).bind fun z8 =>
  some (.inr z8))
else
  ((FX2_at (10 : Int32) (3 : Int32) 30 (ρ.2.2.2.2.2.2.2.1, ρ.2.1) x1 x2).bind fun z6 =>
  some (.inr z6))
abbrev rmX3_cable : Room := { frames := 3, cells := 0, slots := 0, locals := 67 }
set_option maxHeartbeats 4000000 in
set_option maxRecDepth 100000 in
theorem CX3_cable (l : Launch) (D : va_G) (aθ : Nat) (pθ_spare : Nat) (pθ_saved : Nat) (pθ_text : Nat) (aρ : Nat → Nat) (θ : Int32) (ρ : RS) (x1 : Int32) (x2 : Int32) (r0 : Int32) (hF : FX3_cable θ ρ x1 x2 = some (.inr r0)) : Ct l D yX3_cable cX3_cable 3 (some .int) rmX3_cable 0 0 [.ref aθ, .int x1, .int x2] (rkW D aθ (aρ 0) pθ_spare pθ_saved pθ_text θ ++ rmW D aρ ρ) (fun v w => v = some (.int r0) ∧ w = (rkW D aθ (aρ 0) pθ_spare pθ_saved pθ_text θ ++ rmW D aρ ρ)) := by
  refine Ct.of (own := RX3) (lv := [(0, .ref aθ), (1, .int x1), (2, .int x2)]) (by decide +kernel) rfl (Nat.le_of_ble_eq_true rfl) rfl (fun X h hr => ?_)
  unfold FX3_cable at hF
  refine r_aload_n h 0 rfl rfl dX3_cable_0 ?_
  refine r_iload_n h 1 rfl rfl dX3_cable_1 ?_
  rcases o_bX hF with ⟨k_z1, e2, hF⟩ | ⟨z1, e2, hF⟩
  · cases hF
  · refine r_callVa (q0 := 0) (rest := []) h hd_X3_checkCable wm_515 dX3_cable_2 (CX3_checkCable l D aθ pθ_spare pθ_saved pθ_text aρ θ ρ x1 e2) rfl rfl rfl ⟨rfl, rfl⟩ ⟨by decide, by decide⟩ (Nat.le_of_ble_eq_true rfl) ⟨by decide, by decide⟩ rfl (fun v w' hp => ?_)
    obtain ⟨rfl, rfl⟩ := hp
    refine r_iload_n h 2 rfl rfl dX3_cable_5 ?_
    refine r_iconst (v := 0) h dX3_cable_6 (by decide) ?_
    refine r_iconst (v := 3) h dX3_cable_7 (by decide) ?_
    rcases o_bX hF with ⟨k_z3, e4, hF⟩ | ⟨z3, e4, hF⟩
    · cases hF
    · refine r_callSv (rest := []) h hd_X3_checkRange wm_360 dX3_cable_8 (CX3_checkRange l D x2 (0 : Int32) (3 : Int32) e4) rfl ⟨rfl, rfl⟩ ⟨by decide, by decide⟩ (Nat.le_of_ble_eq_true rfl) ⟨by decide, by decide⟩ rfl ?_
      refine r_iload_n h 2 rfl rfl dX3_cable_11 ?_
      refine r_iconst (v := 3) h dX3_cable_12 (by decide) ?_
      refine r_icmp_ne h 27 dX3_cable_13 (by decide) (fun c5 => ?_) (fun c5 => ?_)
      · replace hF := o_neg c5 hF
        refine r_aload_n h 0 rfl rfl dX3_cable_27 ?_
        refine r_get h fl_X3_12 0 rfl rfl dX3_cable_28 ?_
        refine r_get h fl_X3_89 1 rfl rfl dX3_cable_31 ?_
        refine r_iload_n h 1 rfl rfl dX3_cable_34 ?_
        refine r_iload_n h 2 rfl rfl dX3_cable_35 ?_
        obtain ⟨z6, e7, hF⟩ := o_bind hF
        refine r_callV (q0 := 0) (wr := w_pk (rkW D aθ (aρ 0) pθ_spare pθ_saved pθ_text θ ++ rmW D aρ ρ) [0, 1, 2, 4, 5, 6, 7, 8, 10, 11]) (rest := []) h hd_X2_at wm_510 dX3_cable_36 (CX2_at l D (aρ 2) (aρ 8) (10 : Int32) (3 : Int32) 30 (ρ.2.2.2.2.2.2.2.1, ρ.2.1) x1 x2 z6 e7) [3, 9] [0, 1, 2, 4, 5, 6, 7, 8, 10, 11] rfl rfl (by decide +kernel) rfl rfl rfl ⟨rfl, rfl⟩ ⟨by decide, by decide⟩ (Nat.le_of_ble_eq_true rfl) ⟨by decide, by decide⟩ rfl (fun v w' hp => ?_)
        obtain ⟨rfl, rfl⟩ := hp
        refine J.sub (ws' := (rkW D aθ (aρ 0) pθ_spare pθ_saved pθ_text θ ++ rmW D aρ ρ)) [0, 1, 2, 10, 3, 4, 5, 6, 7, 11, 8, 9] rfl (by decide +kernel) ?_
        cases hF
        exact r_iret h hr dX3_cable_39 ⟨rfl, rfl⟩
      · replace hF := o_pos c5 hF
        refine r_aload_n h 0 rfl rfl dX3_cable_16 ?_
        refine r_get h fl_X3_12 0 rfl rfl dX3_cable_17 ?_
        refine r_iload_n h 1 rfl rfl dX3_cable_20 ?_
        obtain ⟨z8, e9, hF⟩ := o_bind hF
        refine r_callV (q0 := 0) (wr := w_pk (rkW D aθ (aρ 0) pθ_spare pθ_saved pθ_text θ ++ rmW D aρ ρ) [0]) (rest := []) h hd_X1_needOfCable wm_520 dX3_cable_21 (CX1_needOfCable l D aρ ρ x1 z8 e9) [1, 2, 3, 4, 5, 6, 7, 8, 9, 10, 11] [0] rfl rfl (by decide +kernel) rfl rfl rfl ⟨rfl, rfl⟩ ⟨by decide, by decide⟩ (Nat.le_of_ble_eq_true rfl) ⟨by decide, by decide⟩ rfl (fun v w' hp => ?_)
        obtain ⟨rfl, rfl⟩ := hp
        refine J.sub (ws' := (rkW D aθ (aρ 0) pθ_spare pθ_saved pθ_text θ ++ rmW D aρ ρ)) [0, 1, 2, 3, 4, 5, 6, 7, 8, 9, 10, 11] rfl (by decide +kernel) ?_
        refine r_goto h 39 dX3_cable_24 (by decide) ?_
        cases hF
        exact r_iret h hr dX3_cable_39 ⟨rfl, rfl⟩

abbrev rmTX3_cable : Room := { frames := 7, cells := 1, slots := 6, locals := 112 }
set_option maxHeartbeats 4000000 in
set_option maxRecDepth 100000 in
theorem TX3_cable (l : Launch) (hl0 : l.stackTraces = false) (D : va_G) (aθ : Nat) (pθ_spare : Nat) (pθ_saved : Nat) (pθ_text : Nat) (aρ : Nat → Nat) (θ : Int32) (ρ : RS) (x1 : Int32) (x2 : Int32) (k0 : Nat) (hF : FX3_cable θ ρ x1 x2 = some (.inl k0)) : CtT l D yX3_cable cX3_cable 3 (some .int) rmTX3_cable 1 6 [.ref aθ, .int x1, .int x2] (rkW D aθ (aρ 0) pθ_spare pθ_saved pθ_text θ ++ rmW D aρ ρ) (exn k0) := by
  refine CtT.of (own := RX3) (lv := [(0, .ref aθ), (1, .int x1), (2, .int x2)]) (by decide +kernel) rfl (Nat.le_of_ble_eq_true rfl) rfl (fun X h hx ht => ?_)
  unfold FX3_cable at hF
  refine r_aload_n h 0 rfl rfl dX3_cable_0 ?_
  refine r_iload_n h 1 rfl rfl dX3_cable_1 ?_
  rcases o_bX hF with ⟨k_z1, e2, hF⟩ | ⟨z1, e2, hF⟩
  · cases hF
    exact r_callTV (q0 := 0) (wr := w_pk (rkW D aθ (aρ 0) pθ_spare pθ_saved pθ_text θ ++ rmW D aρ ρ) []) (rest := []) h hx ht hd_X3_checkCable wm_515 dX3_cable_2 (TX3_checkCable l hl0 D aθ pθ_spare pθ_saved pθ_text aρ θ ρ x1 _ e2) [0, 1, 2, 3, 4, 5, 6, 7, 8, 9, 10, 11] [] [0, 1, 2, 3, 4, 5, 6, 7, 8, 9, 10, 11] rfl rfl rfl (by decide +kernel) rfl rfl rfl ⟨rfl, rfl⟩ ⟨by decide, by decide⟩ (Nat.le_of_ble_eq_true rfl) ⟨by decide, by decide⟩ ⟨by decide, by decide⟩ rfl
  · refine r_callVa (q0 := 0) (rest := []) h hd_X3_checkCable wm_515 dX3_cable_2 (CX3_checkCable l D aθ pθ_spare pθ_saved pθ_text aρ θ ρ x1 e2) rfl rfl rfl ⟨rfl, rfl⟩ ⟨by decide, by decide⟩ (Nat.le_of_ble_eq_true rfl) ⟨by decide, by decide⟩ rfl (fun v w' hp => ?_)
    obtain ⟨rfl, rfl⟩ := hp
    refine r_iload_n h 2 rfl rfl dX3_cable_5 ?_
    refine r_iconst (v := 0) h dX3_cable_6 (by decide) ?_
    refine r_iconst (v := 3) h dX3_cable_7 (by decide) ?_
    rcases o_bX hF with ⟨k_z3, e4, hF⟩ | ⟨z3, e4, hF⟩
    · cases hF
      exact r_callTSp (rest := []) h hx ht hd_X3_checkRange wm_360 dX3_cable_8 (TX3_checkRange l hl0 D x2 (0 : Int32) (3 : Int32) _ e4) rfl ⟨rfl, rfl⟩ ⟨by decide, by decide⟩ (Nat.le_of_ble_eq_true rfl) ⟨by decide, by decide⟩ ⟨by decide, by decide⟩ rfl
    · refine r_callSv (rest := []) h hd_X3_checkRange wm_360 dX3_cable_8 (CX3_checkRange l D x2 (0 : Int32) (3 : Int32) e4) rfl ⟨rfl, rfl⟩ ⟨by decide, by decide⟩ (Nat.le_of_ble_eq_true rfl) ⟨by decide, by decide⟩ rfl ?_
      refine r_iload_n h 2 rfl rfl dX3_cable_11 ?_
      refine r_iconst (v := 3) h dX3_cable_12 (by decide) ?_
      refine r_icmp_ne h 27 dX3_cable_13 (by decide) (fun c5 => ?_) (fun c5 => ?_)
      · replace hF := o_neg c5 hF
        refine r_aload_n h 0 rfl rfl dX3_cable_27 ?_
        refine r_get h fl_X3_12 0 rfl rfl dX3_cable_28 ?_
        refine r_get h fl_X3_89 1 rfl rfl dX3_cable_31 ?_
        refine r_iload_n h 1 rfl rfl dX3_cable_34 ?_
        refine r_iload_n h 2 rfl rfl dX3_cable_35 ?_
        obtain ⟨z6, e7, hF⟩ := o_bind hF
        refine r_callV (q0 := 0) (wr := w_pk (rkW D aθ (aρ 0) pθ_spare pθ_saved pθ_text θ ++ rmW D aρ ρ) [0, 1, 2, 4, 5, 6, 7, 8, 10, 11]) (rest := []) h hd_X2_at wm_510 dX3_cable_36 (CX2_at l D (aρ 2) (aρ 8) (10 : Int32) (3 : Int32) 30 (ρ.2.2.2.2.2.2.2.1, ρ.2.1) x1 x2 z6 e7) [3, 9] [0, 1, 2, 4, 5, 6, 7, 8, 10, 11] rfl rfl (by decide +kernel) rfl rfl rfl ⟨rfl, rfl⟩ ⟨by decide, by decide⟩ (Nat.le_of_ble_eq_true rfl) ⟨by decide, by decide⟩ rfl (fun v w' hp => ?_)
        obtain ⟨rfl, rfl⟩ := hp
        refine J.sub (ws' := (rkW D aθ (aρ 0) pθ_spare pθ_saved pθ_text θ ++ rmW D aρ ρ)) [0, 1, 2, 10, 3, 4, 5, 6, 7, 11, 8, 9] rfl (by decide +kernel) ?_
        cases hF
      · replace hF := o_pos c5 hF
        refine r_aload_n h 0 rfl rfl dX3_cable_16 ?_
        refine r_get h fl_X3_12 0 rfl rfl dX3_cable_17 ?_
        refine r_iload_n h 1 rfl rfl dX3_cable_20 ?_
        obtain ⟨z8, e9, hF⟩ := o_bind hF
        refine r_callV (q0 := 0) (wr := w_pk (rkW D aθ (aρ 0) pθ_spare pθ_saved pθ_text θ ++ rmW D aρ ρ) [0]) (rest := []) h hd_X1_needOfCable wm_520 dX3_cable_21 (CX1_needOfCable l D aρ ρ x1 z8 e9) [1, 2, 3, 4, 5, 6, 7, 8, 9, 10, 11] [0] rfl rfl (by decide +kernel) rfl rfl rfl ⟨rfl, rfl⟩ ⟨by decide, by decide⟩ (Nat.le_of_ble_eq_true rfl) ⟨by decide, by decide⟩ rfl (fun v w' hp => ?_)
        obtain ⟨rfl, rfl⟩ := hp
        refine J.sub (ws' := (rkW D aθ (aρ 0) pθ_spare pθ_saved pθ_text θ ++ rmW D aρ ρ)) [0, 1, 2, 3, 4, 5, 6, 7, 8, 9, 10, 11] rfl (by decide +kernel) ?_
        refine r_goto h 39 dX3_cable_24 (by decide) ?_
        cases hF

def FX3_tray (θ : Int32) (ρ : RS) (x1 : Int32) : Option (Nat ⊕ (Int32)) :=
  bX (FX3_checkTray x1) fun z1 =>
  (FX1_cablesInTray ρ x1).bind fun z3 =>
  some (.inr z3)
abbrev rmX3_tray : Room := { frames := 3, cells := 0, slots := 0, locals := 70 }
set_option maxHeartbeats 4000000 in
set_option maxRecDepth 100000 in
theorem CX3_tray (l : Launch) (D : va_G) (aθ : Nat) (pθ_spare : Nat) (pθ_saved : Nat) (pθ_text : Nat) (aρ : Nat → Nat) (θ : Int32) (ρ : RS) (x1 : Int32) (r0 : Int32) (hF : FX3_tray θ ρ x1 = some (.inr r0)) : Ct l D yX3_tray cX3_tray 2 (some .int) rmX3_tray 0 0 [.ref aθ, .int x1] (rkW D aθ (aρ 0) pθ_spare pθ_saved pθ_text θ ++ rmW D aρ ρ) (fun v w => v = some (.int r0) ∧ w = (rkW D aθ (aρ 0) pθ_spare pθ_saved pθ_text θ ++ rmW D aρ ρ)) := by
  refine Ct.of (own := RX3) (lv := [(0, .ref aθ), (1, .int x1)]) (by decide +kernel) rfl (Nat.le_of_ble_eq_true rfl) rfl (fun X h hr => ?_)
  unfold FX3_tray at hF
  refine r_iload_n h 1 rfl rfl dX3_tray_0 ?_
  rcases o_bX hF with ⟨k_z1, e2, hF⟩ | ⟨z1, e2, hF⟩
  · cases hF
  · refine r_callSv (rest := []) h hd_X3_checkTray wm_490 dX3_tray_1 (CX3_checkTray l D x1 e2) rfl ⟨rfl, rfl⟩ ⟨by decide, by decide⟩ (Nat.le_of_ble_eq_true rfl) ⟨by decide, by decide⟩ rfl ?_
    refine r_aload_n h 0 rfl rfl dX3_tray_4 ?_
    refine r_get h fl_X3_12 0 rfl rfl dX3_tray_5 ?_
    refine r_iload_n h 1 rfl rfl dX3_tray_8 ?_
    obtain ⟨z3, e4, hF⟩ := o_bind hF
    refine r_callV (q0 := 0) (wr := w_pk (rkW D aθ (aρ 0) pθ_spare pθ_saved pθ_text θ ++ rmW D aρ ρ) [0]) (rest := []) h hd_X1_cablesInTray wm_494 dX3_tray_9 (CX1_cablesInTray l D aρ ρ x1 z3 e4) [1, 2, 3, 4, 5, 6, 7, 8, 9, 10, 11] [0] rfl rfl (by decide +kernel) rfl rfl rfl ⟨rfl, rfl⟩ ⟨by decide, by decide⟩ (Nat.le_of_ble_eq_true rfl) ⟨by decide, by decide⟩ rfl (fun v w' hp => ?_)
    obtain ⟨rfl, rfl⟩ := hp
    refine J.sub (ws' := (rkW D aθ (aρ 0) pθ_spare pθ_saved pθ_text θ ++ rmW D aρ ρ)) [0, 1, 2, 3, 4, 5, 6, 7, 8, 9, 10, 11] rfl (by decide +kernel) ?_
    cases hF
    exact r_iret h hr dX3_tray_12 ⟨rfl, rfl⟩

abbrev rmTX3_tray : Room := { frames := 7, cells := 1, slots := 6, locals := 110 }
set_option maxHeartbeats 4000000 in
set_option maxRecDepth 100000 in
theorem TX3_tray (l : Launch) (hl0 : l.stackTraces = false) (D : va_G) (aθ : Nat) (pθ_spare : Nat) (pθ_saved : Nat) (pθ_text : Nat) (aρ : Nat → Nat) (θ : Int32) (ρ : RS) (x1 : Int32) (k0 : Nat) (hF : FX3_tray θ ρ x1 = some (.inl k0)) : CtT l D yX3_tray cX3_tray 2 (some .int) rmTX3_tray 1 6 [.ref aθ, .int x1] (rkW D aθ (aρ 0) pθ_spare pθ_saved pθ_text θ ++ rmW D aρ ρ) (exn k0) := by
  refine CtT.of (own := RX3) (lv := [(0, .ref aθ), (1, .int x1)]) (by decide +kernel) rfl (Nat.le_of_ble_eq_true rfl) rfl (fun X h hx ht => ?_)
  unfold FX3_tray at hF
  refine r_iload_n h 1 rfl rfl dX3_tray_0 ?_
  rcases o_bX hF with ⟨k_z1, e2, hF⟩ | ⟨z1, e2, hF⟩
  · cases hF
    exact r_callTSp (rest := []) h hx ht hd_X3_checkTray wm_490 dX3_tray_1 (TX3_checkTray l hl0 D x1 _ e2) rfl ⟨rfl, rfl⟩ ⟨by decide, by decide⟩ (Nat.le_of_ble_eq_true rfl) ⟨by decide, by decide⟩ ⟨by decide, by decide⟩ rfl
  · refine r_callSv (rest := []) h hd_X3_checkTray wm_490 dX3_tray_1 (CX3_checkTray l D x1 e2) rfl ⟨rfl, rfl⟩ ⟨by decide, by decide⟩ (Nat.le_of_ble_eq_true rfl) ⟨by decide, by decide⟩ rfl ?_
    refine r_aload_n h 0 rfl rfl dX3_tray_4 ?_
    refine r_get h fl_X3_12 0 rfl rfl dX3_tray_5 ?_
    refine r_iload_n h 1 rfl rfl dX3_tray_8 ?_
    obtain ⟨z3, e4, hF⟩ := o_bind hF
    refine r_callV (q0 := 0) (wr := w_pk (rkW D aθ (aρ 0) pθ_spare pθ_saved pθ_text θ ++ rmW D aρ ρ) [0]) (rest := []) h hd_X1_cablesInTray wm_494 dX3_tray_9 (CX1_cablesInTray l D aρ ρ x1 z3 e4) [1, 2, 3, 4, 5, 6, 7, 8, 9, 10, 11] [0] rfl rfl (by decide +kernel) rfl rfl rfl ⟨rfl, rfl⟩ ⟨by decide, by decide⟩ (Nat.le_of_ble_eq_true rfl) ⟨by decide, by decide⟩ rfl (fun v w' hp => ?_)
    obtain ⟨rfl, rfl⟩ := hp
    refine J.sub (ws' := (rkW D aθ (aρ 0) pθ_spare pθ_saved pθ_text θ ++ rmW D aρ ρ)) [0, 1, 2, 3, 4, 5, 6, 7, 8, 9, 10, 11] rfl (by decide +kernel) ?_
    cases hF

def FX3_value (θ : Int32) (ρ : RS) (x1 : Int32) : Option (Nat ⊕ (Int32)) :=
  bX (FX3_checkRange x1 (0 : Int32) (13 : Int32)) fun z1 =>
  if (x1).toInt < 0 ∨ 13 < (x1).toInt then
  ((FX1_loadOfPhase ρ (x1 - (6 : Int32))).bind fun z4 =>
  some (.inr z4))
else if x1 = (0 : Int32) then
  (some (.inr ρ.2.2.2.2.2.2.1))
else if x1 = (1 : Int32) then
  ((FX1_machinesStanding ρ).bind fun z8 =>
  some (.inr z8))
else if x1 = (2 : Int32) then
  (some (.inr ρ.2.2.2.2.2.2.2.1))
else if x1 = (3 : Int32) then
  (some (.inr ρ.2.2.2.2.2.2.2.2.1))
else if x1 = (4 : Int32) then
  (some (.inr ρ.2.2.2.2.2.2.2.2.2.2.2.1))
else if x1 = (5 : Int32) then
  (some (.inr ρ.2.2.2.2.2.2.2.2.2.2.1))
else if x1 = (6 : Int32) then
  ((FX1_loadOfPhase ρ (x1 - (6 : Int32))).bind fun z15 =>
  some (.inr z15))
else if x1 = (7 : Int32) then
  ((FX1_loadOfPhase ρ (x1 - (6 : Int32))).bind fun z18 =>
  some (.inr z18))
else if x1 = (8 : Int32) then
  ((FX1_loadOfPhase ρ (x1 - (6 : Int32))).bind fun z21 =>
  some (.inr z21))
else if x1 = (9 : Int32) then
  ((FX1_difference ρ).bind fun z24 =>
  some (.inr z24))
else if x1 = (10 : Int32) then
  ((FX1_firstWrong ρ).bind fun z27 =>
  some (.inr z27))
else if x1 = (11 : Int32) then
  (some (.inr ρ.2.2.2.2.2.2.2.2.2.1))
else if x1 = (12 : Int32) then
  (some (.inr ρ.2.2.2.2.2.2.2.2.2.2.2.2.1))
else if x1 = (13 : Int32) then
  (some (.inr ρ.2.2.2.2.2.2.2.2.2.2.2.2.2))
else none
abbrev rmX3_value : Room := { frames := 4, cells := 0, slots := 0, locals := 91 }
set_option maxHeartbeats 4000000 in
set_option maxRecDepth 100000 in
theorem CX3_value (l : Launch) (D : va_G) (aθ : Nat) (pθ_spare : Nat) (pθ_saved : Nat) (pθ_text : Nat) (aρ : Nat → Nat) (θ : Int32) (ρ : RS) (x1 : Int32) (r0 : Int32) (hF : FX3_value θ ρ x1 = some (.inr r0)) : Ct l D yX3_value cX3_value 2 (some .int) rmX3_value 0 0 [.ref aθ, .int x1] (rkW D aθ (aρ 0) pθ_spare pθ_saved pθ_text θ ++ rmW D aρ ρ) (fun v w => v = some (.int r0) ∧ w = (rkW D aθ (aρ 0) pθ_spare pθ_saved pθ_text θ ++ rmW D aρ ρ)) := by
  refine Ct.of (own := RX3) (lv := [(0, .ref aθ), (1, .int x1)]) (by decide +kernel) rfl (Nat.le_of_ble_eq_true rfl) rfl (fun X h hr => ?_)
  unfold FX3_value at hF
  refine r_iload_n h 1 rfl rfl dX3_value_0 ?_
  refine r_iconst (v := 0) h dX3_value_1 (by decide) ?_
  refine r_bipush (v := 13) h dX3_value_2 (by decide) ?_
  rcases o_bX hF with ⟨k_z1, e2, hF⟩ | ⟨z1, e2, hF⟩
  · cases hF
  · refine r_callSv (rest := []) h hd_X3_checkRange wm_360 dX3_value_4 (CX3_checkRange l D x1 (0 : Int32) (13 : Int32) e2) rfl ⟨rfl, rfl⟩ ⟨by decide, by decide⟩ (Nat.le_of_ble_eq_true rfl) ⟨by decide, by decide⟩ rfl ?_
    refine r_iload_n h 1 rfl rfl dX3_value_7 ?_
    by_cases c3 : (x1).toInt < 0 ∨ 13 < (x1).toInt
    · replace hF := o_pos c3 hF
      refine r_tswOut h 180 dX3_value_8 c3 (by decide) ?_
      refine r_aload_n h 0 rfl rfl dX3_value_180 ?_
      refine r_get h fl_X3_12 0 rfl rfl dX3_value_181 ?_
      refine r_iload_n h 1 rfl rfl dX3_value_184 ?_
      refine r_bipush (v := 6) h dX3_value_185 (by decide) ?_
      refine r_isub h dX3_value_187 ?_
      obtain ⟨z4, e5, hF⟩ := o_bind hF
      refine r_callV (q0 := 0) (wr := w_pk (rkW D aθ (aρ 0) pθ_spare pθ_saved pθ_text θ ++ rmW D aρ ρ) [0]) (rest := []) h hd_X1_loadOfPhase wm_436 dX3_value_188 (CX1_loadOfPhase l D aρ ρ (x1 - (6 : Int32)) z4 e5) [1, 2, 3, 4, 5, 6, 7, 8, 9, 10, 11] [0] rfl rfl (by decide +kernel) rfl rfl rfl ⟨rfl, rfl⟩ ⟨by decide, by decide⟩ (Nat.le_of_ble_eq_true rfl) ⟨by decide, by decide⟩ rfl (fun v w' hp => ?_)
      obtain ⟨rfl, rfl⟩ := hp
      refine J.sub (ws' := (rkW D aθ (aρ 0) pθ_spare pθ_saved pθ_text θ ++ rmW D aρ ρ)) [0, 1, 2, 3, 4, 5, 6, 7, 8, 9, 10, 11] rfl (by decide +kernel) ?_
      cases hF
      exact r_iret h hr dX3_value_191 ⟨rfl, rfl⟩
    · replace hF := o_neg c3 hF
      by_cases c6 : x1 = (0 : Int32)
      · replace hF := o_pos c6 hF
        refine r_tswIn h (0 : Int32) c6 80 dX3_value_8 (by decide) (by decide) rfl (by decide) ?_
        refine r_aload_n h 0 rfl rfl dX3_value_80 ?_
        refine r_get h fl_X3_12 0 rfl rfl dX3_value_81 ?_
        refine r_get h fl_X3_58 1 rfl rfl dX3_value_84 ?_
        refine r_get h fl_X3_98 2 rfl rfl dX3_value_87 ?_
        cases hF
        exact r_iret h hr dX3_value_90 ⟨rfl, rfl⟩
      · replace hF := o_neg c6 hF
        by_cases c7 : x1 = (1 : Int32)
        · replace hF := o_pos c7 hF
          refine r_tswIn h (1 : Int32) c7 91 dX3_value_8 (by decide) (by decide) rfl (by decide) ?_
          refine r_aload_n h 0 rfl rfl dX3_value_91 ?_
          refine r_get h fl_X3_12 0 rfl rfl dX3_value_92 ?_
          obtain ⟨z8, e9, hF⟩ := o_bind hF
          refine r_callV (q0 := 0) (wr := w_pk (rkW D aθ (aρ 0) pθ_spare pθ_saved pθ_text θ ++ rmW D aρ ρ) [0]) (rest := []) h hd_X1_machinesStanding wm_431 dX3_value_95 (CX1_machinesStanding l D aρ ρ z8 e9) [1, 2, 3, 4, 5, 6, 7, 8, 9, 10, 11] [0] rfl rfl (by decide +kernel) rfl rfl rfl ⟨rfl, rfl⟩ ⟨by decide, by decide⟩ (Nat.le_of_ble_eq_true rfl) ⟨by decide, by decide⟩ rfl (fun v w' hp => ?_)
          obtain ⟨rfl, rfl⟩ := hp
          refine J.sub (ws' := (rkW D aθ (aρ 0) pθ_spare pθ_saved pθ_text θ ++ rmW D aρ ρ)) [0, 1, 2, 3, 4, 5, 6, 7, 8, 9, 10, 11] rfl (by decide +kernel) ?_
          cases hF
          exact r_iret h hr dX3_value_98 ⟨rfl, rfl⟩
        · replace hF := o_neg c7 hF
          by_cases c10 : x1 = (2 : Int32)
          · replace hF := o_pos c10 hF
            refine r_tswIn h (2 : Int32) c10 99 dX3_value_8 (by decide) (by decide) rfl (by decide) ?_
            refine r_aload_n h 0 rfl rfl dX3_value_99 ?_
            refine r_get h fl_X3_12 0 rfl rfl dX3_value_100 ?_
            refine r_get h fl_X3_89 1 rfl rfl dX3_value_103 ?_
            refine r_get h fl_X3_98 3 rfl rfl dX3_value_106 ?_
            cases hF
            exact r_iret h hr dX3_value_109 ⟨rfl, rfl⟩
          · replace hF := o_neg c10 hF
            by_cases c11 : x1 = (3 : Int32)
            · replace hF := o_pos c11 hF
              refine r_tswIn h (3 : Int32) c11 110 dX3_value_8 (by decide) (by decide) rfl (by decide) ?_
              refine r_aload_n h 0 rfl rfl dX3_value_110 ?_
              refine r_get h fl_X3_12 0 rfl rfl dX3_value_111 ?_
              refine r_get h fl_X3_101 1 rfl rfl dX3_value_114 ?_
              refine r_get h fl_X3_98 4 rfl rfl dX3_value_117 ?_
              cases hF
              exact r_iret h hr dX3_value_120 ⟨rfl, rfl⟩
            · replace hF := o_neg c11 hF
              by_cases c12 : x1 = (4 : Int32)
              · replace hF := o_pos c12 hF
                refine r_tswIn h (4 : Int32) c12 121 dX3_value_8 (by decide) (by decide) rfl (by decide) ?_
                refine r_aload_n h 0 rfl rfl dX3_value_121 ?_
                refine r_get h fl_X3_12 0 rfl rfl dX3_value_122 ?_
                refine r_get h fl_X3_113 1 rfl rfl dX3_value_125 ?_
                cases hF
                exact r_iret h hr dX3_value_128 ⟨rfl, rfl⟩
              · replace hF := o_neg c12 hF
                by_cases c13 : x1 = (5 : Int32)
                · replace hF := o_pos c13 hF
                  refine r_tswIn h (5 : Int32) c13 129 dX3_value_8 (by decide) (by decide) rfl (by decide) ?_
                  refine r_aload_n h 0 rfl rfl dX3_value_129 ?_
                  refine r_get h fl_X3_12 0 rfl rfl dX3_value_130 ?_
                  refine r_get h fl_X3_55 1 rfl rfl dX3_value_133 ?_
                  cases hF
                  exact r_iret h hr dX3_value_136 ⟨rfl, rfl⟩
                · replace hF := o_neg c13 hF
                  by_cases c14 : x1 = (6 : Int32)
                  · replace hF := o_pos c14 hF
                    refine r_tswIn h (6 : Int32) c14 180 dX3_value_8 (by decide) (by decide) rfl (by decide) ?_
                    refine r_aload_n h 0 rfl rfl dX3_value_180 ?_
                    refine r_get h fl_X3_12 0 rfl rfl dX3_value_181 ?_
                    refine r_iload_n h 1 rfl rfl dX3_value_184 ?_
                    refine r_bipush (v := 6) h dX3_value_185 (by decide) ?_
                    refine r_isub h dX3_value_187 ?_
                    obtain ⟨z15, e16, hF⟩ := o_bind hF
                    refine r_callV (q0 := 0) (wr := w_pk (rkW D aθ (aρ 0) pθ_spare pθ_saved pθ_text θ ++ rmW D aρ ρ) [0]) (rest := []) h hd_X1_loadOfPhase wm_436 dX3_value_188 (CX1_loadOfPhase l D aρ ρ (x1 - (6 : Int32)) z15 e16) [1, 2, 3, 4, 5, 6, 7, 8, 9, 10, 11] [0] rfl rfl (by decide +kernel) rfl rfl rfl ⟨rfl, rfl⟩ ⟨by decide, by decide⟩ (Nat.le_of_ble_eq_true rfl) ⟨by decide, by decide⟩ rfl (fun v w' hp => ?_)
                    obtain ⟨rfl, rfl⟩ := hp
                    refine J.sub (ws' := (rkW D aθ (aρ 0) pθ_spare pθ_saved pθ_text θ ++ rmW D aρ ρ)) [0, 1, 2, 3, 4, 5, 6, 7, 8, 9, 10, 11] rfl (by decide +kernel) ?_
                    cases hF
                    exact r_iret h hr dX3_value_191 ⟨rfl, rfl⟩
                  · replace hF := o_neg c14 hF
                    by_cases c17 : x1 = (7 : Int32)
                    · replace hF := o_pos c17 hF
                      refine r_tswIn h (7 : Int32) c17 180 dX3_value_8 (by decide) (by decide) rfl (by decide) ?_
                      refine r_aload_n h 0 rfl rfl dX3_value_180 ?_
                      refine r_get h fl_X3_12 0 rfl rfl dX3_value_181 ?_
                      refine r_iload_n h 1 rfl rfl dX3_value_184 ?_
                      refine r_bipush (v := 6) h dX3_value_185 (by decide) ?_
                      refine r_isub h dX3_value_187 ?_
                      obtain ⟨z18, e19, hF⟩ := o_bind hF
                      refine r_callV (q0 := 0) (wr := w_pk (rkW D aθ (aρ 0) pθ_spare pθ_saved pθ_text θ ++ rmW D aρ ρ) [0]) (rest := []) h hd_X1_loadOfPhase wm_436 dX3_value_188 (CX1_loadOfPhase l D aρ ρ (x1 - (6 : Int32)) z18 e19) [1, 2, 3, 4, 5, 6, 7, 8, 9, 10, 11] [0] rfl rfl (by decide +kernel) rfl rfl rfl ⟨rfl, rfl⟩ ⟨by decide, by decide⟩ (Nat.le_of_ble_eq_true rfl) ⟨by decide, by decide⟩ rfl (fun v w' hp => ?_)
                      obtain ⟨rfl, rfl⟩ := hp
                      refine J.sub (ws' := (rkW D aθ (aρ 0) pθ_spare pθ_saved pθ_text θ ++ rmW D aρ ρ)) [0, 1, 2, 3, 4, 5, 6, 7, 8, 9, 10, 11] rfl (by decide +kernel) ?_
                      cases hF
                      exact r_iret h hr dX3_value_191 ⟨rfl, rfl⟩
                    · replace hF := o_neg c17 hF
                      by_cases c20 : x1 = (8 : Int32)
                      · replace hF := o_pos c20 hF
                        refine r_tswIn h (8 : Int32) c20 180 dX3_value_8 (by decide) (by decide) rfl (by decide) ?_
                        refine r_aload_n h 0 rfl rfl dX3_value_180 ?_
                        refine r_get h fl_X3_12 0 rfl rfl dX3_value_181 ?_
                        refine r_iload_n h 1 rfl rfl dX3_value_184 ?_
                        refine r_bipush (v := 6) h dX3_value_185 (by decide) ?_
                        refine r_isub h dX3_value_187 ?_
                        obtain ⟨z21, e22, hF⟩ := o_bind hF
                        refine r_callV (q0 := 0) (wr := w_pk (rkW D aθ (aρ 0) pθ_spare pθ_saved pθ_text θ ++ rmW D aρ ρ) [0]) (rest := []) h hd_X1_loadOfPhase wm_436 dX3_value_188 (CX1_loadOfPhase l D aρ ρ (x1 - (6 : Int32)) z21 e22) [1, 2, 3, 4, 5, 6, 7, 8, 9, 10, 11] [0] rfl rfl (by decide +kernel) rfl rfl rfl ⟨rfl, rfl⟩ ⟨by decide, by decide⟩ (Nat.le_of_ble_eq_true rfl) ⟨by decide, by decide⟩ rfl (fun v w' hp => ?_)
                        obtain ⟨rfl, rfl⟩ := hp
                        refine J.sub (ws' := (rkW D aθ (aρ 0) pθ_spare pθ_saved pθ_text θ ++ rmW D aρ ρ)) [0, 1, 2, 3, 4, 5, 6, 7, 8, 9, 10, 11] rfl (by decide +kernel) ?_
                        cases hF
                        exact r_iret h hr dX3_value_191 ⟨rfl, rfl⟩
                      · replace hF := o_neg c20 hF
                        by_cases c23 : x1 = (9 : Int32)
                        · replace hF := o_pos c23 hF
                          refine r_tswIn h (9 : Int32) c23 137 dX3_value_8 (by decide) (by decide) rfl (by decide) ?_
                          refine r_aload_n h 0 rfl rfl dX3_value_137 ?_
                          refine r_get h fl_X3_12 0 rfl rfl dX3_value_138 ?_
                          obtain ⟨z24, e25, hF⟩ := o_bind hF
                          refine r_callV (q0 := 0) (wr := w_pk (rkW D aθ (aρ 0) pθ_spare pθ_saved pθ_text θ ++ rmW D aρ ρ) [0]) (rest := []) h hd_X1_difference wm_241 dX3_value_141 (CX1_difference l D aρ ρ z24 e25) [1, 2, 3, 4, 5, 6, 7, 8, 9, 10, 11] [0] rfl rfl (by decide +kernel) rfl rfl rfl ⟨rfl, rfl⟩ ⟨by decide, by decide⟩ (Nat.le_of_ble_eq_true rfl) ⟨by decide, by decide⟩ rfl (fun v w' hp => ?_)
                          obtain ⟨rfl, rfl⟩ := hp
                          refine J.sub (ws' := (rkW D aθ (aρ 0) pθ_spare pθ_saved pθ_text θ ++ rmW D aρ ρ)) [0, 1, 2, 3, 4, 5, 6, 7, 8, 9, 10, 11] rfl (by decide +kernel) ?_
                          cases hF
                          exact r_iret h hr dX3_value_144 ⟨rfl, rfl⟩
                        · replace hF := o_neg c23 hF
                          by_cases c26 : x1 = (10 : Int32)
                          · replace hF := o_pos c26 hF
                            refine r_tswIn h (10 : Int32) c26 145 dX3_value_8 (by decide) (by decide) rfl (by decide) ?_
                            refine r_aload_n h 0 rfl rfl dX3_value_145 ?_
                            refine r_get h fl_X3_12 0 rfl rfl dX3_value_146 ?_
                            obtain ⟨z27, e28, hF⟩ := o_bind hF
                            refine r_callV (q0 := 0) (wr := w_pk (rkW D aθ (aρ 0) pθ_spare pθ_saved pθ_text θ ++ rmW D aρ ρ) [0]) (rest := []) h hd_X1_firstWrong wm_435 dX3_value_149 (CX1_firstWrong l D aρ ρ z27 e28) [1, 2, 3, 4, 5, 6, 7, 8, 9, 10, 11] [0] rfl rfl (by decide +kernel) rfl rfl rfl ⟨rfl, rfl⟩ ⟨by decide, by decide⟩ (Nat.le_of_ble_eq_true rfl) ⟨by decide, by decide⟩ rfl (fun v w' hp => ?_)
                            obtain ⟨rfl, rfl⟩ := hp
                            refine J.sub (ws' := (rkW D aθ (aρ 0) pθ_spare pθ_saved pθ_text θ ++ rmW D aρ ρ)) [0, 1, 2, 3, 4, 5, 6, 7, 8, 9, 10, 11] rfl (by decide +kernel) ?_
                            cases hF
                            exact r_iret h hr dX3_value_152 ⟨rfl, rfl⟩
                          · replace hF := o_neg c26 hF
                            by_cases c29 : x1 = (11 : Int32)
                            · replace hF := o_pos c29 hF
                              refine r_tswIn h (11 : Int32) c29 153 dX3_value_8 (by decide) (by decide) rfl (by decide) ?_
                              refine r_aload_n h 0 rfl rfl dX3_value_153 ?_
                              refine r_get h fl_X3_12 0 rfl rfl dX3_value_154 ?_
                              refine r_get h fl_X3_167 1 rfl rfl dX3_value_157 ?_
                              refine r_get h fl_X3_98 5 rfl rfl dX3_value_160 ?_
                              cases hF
                              exact r_iret h hr dX3_value_163 ⟨rfl, rfl⟩
                            · replace hF := o_neg c29 hF
                              by_cases c30 : x1 = (12 : Int32)
                              · replace hF := o_pos c30 hF
                                refine r_tswIn h (12 : Int32) c30 164 dX3_value_8 (by decide) (by decide) rfl (by decide) ?_
                                refine r_aload_n h 0 rfl rfl dX3_value_164 ?_
                                refine r_get h fl_X3_12 0 rfl rfl dX3_value_165 ?_
                                refine r_get h fl_X3_170 1 rfl rfl dX3_value_168 ?_
                                cases hF
                                exact r_iret h hr dX3_value_171 ⟨rfl, rfl⟩
                              · replace hF := o_neg c30 hF
                                by_cases c31 : x1 = (13 : Int32)
                                · replace hF := o_pos c31 hF
                                  refine r_tswIn h (13 : Int32) c31 172 dX3_value_8 (by decide) (by decide) rfl (by decide) ?_
                                  refine r_aload_n h 0 rfl rfl dX3_value_172 ?_
                                  refine r_get h fl_X3_12 0 rfl rfl dX3_value_173 ?_
                                  refine r_get h fl_X3_173 1 rfl rfl dX3_value_176 ?_
                                  cases hF
                                  exact r_iret h hr dX3_value_179 ⟨rfl, rfl⟩
                                · replace hF := o_neg c31 hF
                                  cases hF

abbrev rmTX3_value : Room := { frames := 7, cells := 1, slots := 6, locals := 112 }
set_option maxHeartbeats 4000000 in
set_option maxRecDepth 100000 in
theorem TX3_value (l : Launch) (hl0 : l.stackTraces = false) (D : va_G) (aθ : Nat) (pθ_spare : Nat) (pθ_saved : Nat) (pθ_text : Nat) (aρ : Nat → Nat) (θ : Int32) (ρ : RS) (x1 : Int32) (k0 : Nat) (hF : FX3_value θ ρ x1 = some (.inl k0)) : CtT l D yX3_value cX3_value 2 (some .int) rmTX3_value 1 6 [.ref aθ, .int x1] (rkW D aθ (aρ 0) pθ_spare pθ_saved pθ_text θ ++ rmW D aρ ρ) (exn k0) := by
  refine CtT.of (own := RX3) (lv := [(0, .ref aθ), (1, .int x1)]) (by decide +kernel) rfl (Nat.le_of_ble_eq_true rfl) rfl (fun X h hx ht => ?_)
  unfold FX3_value at hF
  refine r_iload_n h 1 rfl rfl dX3_value_0 ?_
  refine r_iconst (v := 0) h dX3_value_1 (by decide) ?_
  refine r_bipush (v := 13) h dX3_value_2 (by decide) ?_
  rcases o_bX hF with ⟨k_z1, e2, hF⟩ | ⟨z1, e2, hF⟩
  · cases hF
    exact r_callTSp (rest := []) h hx ht hd_X3_checkRange wm_360 dX3_value_4 (TX3_checkRange l hl0 D x1 (0 : Int32) (13 : Int32) _ e2) rfl ⟨rfl, rfl⟩ ⟨by decide, by decide⟩ (Nat.le_of_ble_eq_true rfl) ⟨by decide, by decide⟩ ⟨by decide, by decide⟩ rfl
  · refine r_callSv (rest := []) h hd_X3_checkRange wm_360 dX3_value_4 (CX3_checkRange l D x1 (0 : Int32) (13 : Int32) e2) rfl ⟨rfl, rfl⟩ ⟨by decide, by decide⟩ (Nat.le_of_ble_eq_true rfl) ⟨by decide, by decide⟩ rfl ?_
    refine r_iload_n h 1 rfl rfl dX3_value_7 ?_
    by_cases c3 : (x1).toInt < 0 ∨ 13 < (x1).toInt
    · replace hF := o_pos c3 hF
      refine r_tswOut h 180 dX3_value_8 c3 (by decide) ?_
      refine r_aload_n h 0 rfl rfl dX3_value_180 ?_
      refine r_get h fl_X3_12 0 rfl rfl dX3_value_181 ?_
      refine r_iload_n h 1 rfl rfl dX3_value_184 ?_
      refine r_bipush (v := 6) h dX3_value_185 (by decide) ?_
      refine r_isub h dX3_value_187 ?_
      obtain ⟨z4, e5, hF⟩ := o_bind hF
      refine r_callV (q0 := 0) (wr := w_pk (rkW D aθ (aρ 0) pθ_spare pθ_saved pθ_text θ ++ rmW D aρ ρ) [0]) (rest := []) h hd_X1_loadOfPhase wm_436 dX3_value_188 (CX1_loadOfPhase l D aρ ρ (x1 - (6 : Int32)) z4 e5) [1, 2, 3, 4, 5, 6, 7, 8, 9, 10, 11] [0] rfl rfl (by decide +kernel) rfl rfl rfl ⟨rfl, rfl⟩ ⟨by decide, by decide⟩ (Nat.le_of_ble_eq_true rfl) ⟨by decide, by decide⟩ rfl (fun v w' hp => ?_)
      obtain ⟨rfl, rfl⟩ := hp
      refine J.sub (ws' := (rkW D aθ (aρ 0) pθ_spare pθ_saved pθ_text θ ++ rmW D aρ ρ)) [0, 1, 2, 3, 4, 5, 6, 7, 8, 9, 10, 11] rfl (by decide +kernel) ?_
      cases hF
    · replace hF := o_neg c3 hF
      by_cases c6 : x1 = (0 : Int32)
      · replace hF := o_pos c6 hF
        refine r_tswIn h (0 : Int32) c6 80 dX3_value_8 (by decide) (by decide) rfl (by decide) ?_
        refine r_aload_n h 0 rfl rfl dX3_value_80 ?_
        refine r_get h fl_X3_12 0 rfl rfl dX3_value_81 ?_
        refine r_get h fl_X3_58 1 rfl rfl dX3_value_84 ?_
        refine r_get h fl_X3_98 2 rfl rfl dX3_value_87 ?_
        cases hF
      · replace hF := o_neg c6 hF
        by_cases c7 : x1 = (1 : Int32)
        · replace hF := o_pos c7 hF
          refine r_tswIn h (1 : Int32) c7 91 dX3_value_8 (by decide) (by decide) rfl (by decide) ?_
          refine r_aload_n h 0 rfl rfl dX3_value_91 ?_
          refine r_get h fl_X3_12 0 rfl rfl dX3_value_92 ?_
          obtain ⟨z8, e9, hF⟩ := o_bind hF
          refine r_callV (q0 := 0) (wr := w_pk (rkW D aθ (aρ 0) pθ_spare pθ_saved pθ_text θ ++ rmW D aρ ρ) [0]) (rest := []) h hd_X1_machinesStanding wm_431 dX3_value_95 (CX1_machinesStanding l D aρ ρ z8 e9) [1, 2, 3, 4, 5, 6, 7, 8, 9, 10, 11] [0] rfl rfl (by decide +kernel) rfl rfl rfl ⟨rfl, rfl⟩ ⟨by decide, by decide⟩ (Nat.le_of_ble_eq_true rfl) ⟨by decide, by decide⟩ rfl (fun v w' hp => ?_)
          obtain ⟨rfl, rfl⟩ := hp
          refine J.sub (ws' := (rkW D aθ (aρ 0) pθ_spare pθ_saved pθ_text θ ++ rmW D aρ ρ)) [0, 1, 2, 3, 4, 5, 6, 7, 8, 9, 10, 11] rfl (by decide +kernel) ?_
          cases hF
        · replace hF := o_neg c7 hF
          by_cases c10 : x1 = (2 : Int32)
          · replace hF := o_pos c10 hF
            refine r_tswIn h (2 : Int32) c10 99 dX3_value_8 (by decide) (by decide) rfl (by decide) ?_
            refine r_aload_n h 0 rfl rfl dX3_value_99 ?_
            refine r_get h fl_X3_12 0 rfl rfl dX3_value_100 ?_
            refine r_get h fl_X3_89 1 rfl rfl dX3_value_103 ?_
            refine r_get h fl_X3_98 3 rfl rfl dX3_value_106 ?_
            cases hF
          · replace hF := o_neg c10 hF
            by_cases c11 : x1 = (3 : Int32)
            · replace hF := o_pos c11 hF
              refine r_tswIn h (3 : Int32) c11 110 dX3_value_8 (by decide) (by decide) rfl (by decide) ?_
              refine r_aload_n h 0 rfl rfl dX3_value_110 ?_
              refine r_get h fl_X3_12 0 rfl rfl dX3_value_111 ?_
              refine r_get h fl_X3_101 1 rfl rfl dX3_value_114 ?_
              refine r_get h fl_X3_98 4 rfl rfl dX3_value_117 ?_
              cases hF
            · replace hF := o_neg c11 hF
              by_cases c12 : x1 = (4 : Int32)
              · replace hF := o_pos c12 hF
                refine r_tswIn h (4 : Int32) c12 121 dX3_value_8 (by decide) (by decide) rfl (by decide) ?_
                refine r_aload_n h 0 rfl rfl dX3_value_121 ?_
                refine r_get h fl_X3_12 0 rfl rfl dX3_value_122 ?_
                refine r_get h fl_X3_113 1 rfl rfl dX3_value_125 ?_
                cases hF
              · replace hF := o_neg c12 hF
                by_cases c13 : x1 = (5 : Int32)
                · replace hF := o_pos c13 hF
                  refine r_tswIn h (5 : Int32) c13 129 dX3_value_8 (by decide) (by decide) rfl (by decide) ?_
                  refine r_aload_n h 0 rfl rfl dX3_value_129 ?_
                  refine r_get h fl_X3_12 0 rfl rfl dX3_value_130 ?_
                  refine r_get h fl_X3_55 1 rfl rfl dX3_value_133 ?_
                  cases hF
                · replace hF := o_neg c13 hF
                  by_cases c14 : x1 = (6 : Int32)
                  · replace hF := o_pos c14 hF
                    refine r_tswIn h (6 : Int32) c14 180 dX3_value_8 (by decide) (by decide) rfl (by decide) ?_
                    refine r_aload_n h 0 rfl rfl dX3_value_180 ?_
                    refine r_get h fl_X3_12 0 rfl rfl dX3_value_181 ?_
                    refine r_iload_n h 1 rfl rfl dX3_value_184 ?_
                    refine r_bipush (v := 6) h dX3_value_185 (by decide) ?_
                    refine r_isub h dX3_value_187 ?_
                    obtain ⟨z15, e16, hF⟩ := o_bind hF
                    refine r_callV (q0 := 0) (wr := w_pk (rkW D aθ (aρ 0) pθ_spare pθ_saved pθ_text θ ++ rmW D aρ ρ) [0]) (rest := []) h hd_X1_loadOfPhase wm_436 dX3_value_188 (CX1_loadOfPhase l D aρ ρ (x1 - (6 : Int32)) z15 e16) [1, 2, 3, 4, 5, 6, 7, 8, 9, 10, 11] [0] rfl rfl (by decide +kernel) rfl rfl rfl ⟨rfl, rfl⟩ ⟨by decide, by decide⟩ (Nat.le_of_ble_eq_true rfl) ⟨by decide, by decide⟩ rfl (fun v w' hp => ?_)
                    obtain ⟨rfl, rfl⟩ := hp
                    refine J.sub (ws' := (rkW D aθ (aρ 0) pθ_spare pθ_saved pθ_text θ ++ rmW D aρ ρ)) [0, 1, 2, 3, 4, 5, 6, 7, 8, 9, 10, 11] rfl (by decide +kernel) ?_
                    cases hF
                  · replace hF := o_neg c14 hF
                    by_cases c17 : x1 = (7 : Int32)
                    · replace hF := o_pos c17 hF
                      refine r_tswIn h (7 : Int32) c17 180 dX3_value_8 (by decide) (by decide) rfl (by decide) ?_
                      refine r_aload_n h 0 rfl rfl dX3_value_180 ?_
                      refine r_get h fl_X3_12 0 rfl rfl dX3_value_181 ?_
                      refine r_iload_n h 1 rfl rfl dX3_value_184 ?_
                      refine r_bipush (v := 6) h dX3_value_185 (by decide) ?_
                      refine r_isub h dX3_value_187 ?_
                      obtain ⟨z18, e19, hF⟩ := o_bind hF
                      refine r_callV (q0 := 0) (wr := w_pk (rkW D aθ (aρ 0) pθ_spare pθ_saved pθ_text θ ++ rmW D aρ ρ) [0]) (rest := []) h hd_X1_loadOfPhase wm_436 dX3_value_188 (CX1_loadOfPhase l D aρ ρ (x1 - (6 : Int32)) z18 e19) [1, 2, 3, 4, 5, 6, 7, 8, 9, 10, 11] [0] rfl rfl (by decide +kernel) rfl rfl rfl ⟨rfl, rfl⟩ ⟨by decide, by decide⟩ (Nat.le_of_ble_eq_true rfl) ⟨by decide, by decide⟩ rfl (fun v w' hp => ?_)
                      obtain ⟨rfl, rfl⟩ := hp
                      refine J.sub (ws' := (rkW D aθ (aρ 0) pθ_spare pθ_saved pθ_text θ ++ rmW D aρ ρ)) [0, 1, 2, 3, 4, 5, 6, 7, 8, 9, 10, 11] rfl (by decide +kernel) ?_
                      cases hF
                    · replace hF := o_neg c17 hF
                      by_cases c20 : x1 = (8 : Int32)
                      · replace hF := o_pos c20 hF
                        refine r_tswIn h (8 : Int32) c20 180 dX3_value_8 (by decide) (by decide) rfl (by decide) ?_
                        refine r_aload_n h 0 rfl rfl dX3_value_180 ?_
                        refine r_get h fl_X3_12 0 rfl rfl dX3_value_181 ?_
                        refine r_iload_n h 1 rfl rfl dX3_value_184 ?_
                        refine r_bipush (v := 6) h dX3_value_185 (by decide) ?_
                        refine r_isub h dX3_value_187 ?_
                        obtain ⟨z21, e22, hF⟩ := o_bind hF
                        refine r_callV (q0 := 0) (wr := w_pk (rkW D aθ (aρ 0) pθ_spare pθ_saved pθ_text θ ++ rmW D aρ ρ) [0]) (rest := []) h hd_X1_loadOfPhase wm_436 dX3_value_188 (CX1_loadOfPhase l D aρ ρ (x1 - (6 : Int32)) z21 e22) [1, 2, 3, 4, 5, 6, 7, 8, 9, 10, 11] [0] rfl rfl (by decide +kernel) rfl rfl rfl ⟨rfl, rfl⟩ ⟨by decide, by decide⟩ (Nat.le_of_ble_eq_true rfl) ⟨by decide, by decide⟩ rfl (fun v w' hp => ?_)
                        obtain ⟨rfl, rfl⟩ := hp
                        refine J.sub (ws' := (rkW D aθ (aρ 0) pθ_spare pθ_saved pθ_text θ ++ rmW D aρ ρ)) [0, 1, 2, 3, 4, 5, 6, 7, 8, 9, 10, 11] rfl (by decide +kernel) ?_
                        cases hF
                      · replace hF := o_neg c20 hF
                        by_cases c23 : x1 = (9 : Int32)
                        · replace hF := o_pos c23 hF
                          refine r_tswIn h (9 : Int32) c23 137 dX3_value_8 (by decide) (by decide) rfl (by decide) ?_
                          refine r_aload_n h 0 rfl rfl dX3_value_137 ?_
                          refine r_get h fl_X3_12 0 rfl rfl dX3_value_138 ?_
                          obtain ⟨z24, e25, hF⟩ := o_bind hF
                          refine r_callV (q0 := 0) (wr := w_pk (rkW D aθ (aρ 0) pθ_spare pθ_saved pθ_text θ ++ rmW D aρ ρ) [0]) (rest := []) h hd_X1_difference wm_241 dX3_value_141 (CX1_difference l D aρ ρ z24 e25) [1, 2, 3, 4, 5, 6, 7, 8, 9, 10, 11] [0] rfl rfl (by decide +kernel) rfl rfl rfl ⟨rfl, rfl⟩ ⟨by decide, by decide⟩ (Nat.le_of_ble_eq_true rfl) ⟨by decide, by decide⟩ rfl (fun v w' hp => ?_)
                          obtain ⟨rfl, rfl⟩ := hp
                          refine J.sub (ws' := (rkW D aθ (aρ 0) pθ_spare pθ_saved pθ_text θ ++ rmW D aρ ρ)) [0, 1, 2, 3, 4, 5, 6, 7, 8, 9, 10, 11] rfl (by decide +kernel) ?_
                          cases hF
                        · replace hF := o_neg c23 hF
                          by_cases c26 : x1 = (10 : Int32)
                          · replace hF := o_pos c26 hF
                            refine r_tswIn h (10 : Int32) c26 145 dX3_value_8 (by decide) (by decide) rfl (by decide) ?_
                            refine r_aload_n h 0 rfl rfl dX3_value_145 ?_
                            refine r_get h fl_X3_12 0 rfl rfl dX3_value_146 ?_
                            obtain ⟨z27, e28, hF⟩ := o_bind hF
                            refine r_callV (q0 := 0) (wr := w_pk (rkW D aθ (aρ 0) pθ_spare pθ_saved pθ_text θ ++ rmW D aρ ρ) [0]) (rest := []) h hd_X1_firstWrong wm_435 dX3_value_149 (CX1_firstWrong l D aρ ρ z27 e28) [1, 2, 3, 4, 5, 6, 7, 8, 9, 10, 11] [0] rfl rfl (by decide +kernel) rfl rfl rfl ⟨rfl, rfl⟩ ⟨by decide, by decide⟩ (Nat.le_of_ble_eq_true rfl) ⟨by decide, by decide⟩ rfl (fun v w' hp => ?_)
                            obtain ⟨rfl, rfl⟩ := hp
                            refine J.sub (ws' := (rkW D aθ (aρ 0) pθ_spare pθ_saved pθ_text θ ++ rmW D aρ ρ)) [0, 1, 2, 3, 4, 5, 6, 7, 8, 9, 10, 11] rfl (by decide +kernel) ?_
                            cases hF
                          · replace hF := o_neg c26 hF
                            by_cases c29 : x1 = (11 : Int32)
                            · replace hF := o_pos c29 hF
                              refine r_tswIn h (11 : Int32) c29 153 dX3_value_8 (by decide) (by decide) rfl (by decide) ?_
                              refine r_aload_n h 0 rfl rfl dX3_value_153 ?_
                              refine r_get h fl_X3_12 0 rfl rfl dX3_value_154 ?_
                              refine r_get h fl_X3_167 1 rfl rfl dX3_value_157 ?_
                              refine r_get h fl_X3_98 5 rfl rfl dX3_value_160 ?_
                              cases hF
                            · replace hF := o_neg c29 hF
                              by_cases c30 : x1 = (12 : Int32)
                              · replace hF := o_pos c30 hF
                                refine r_tswIn h (12 : Int32) c30 164 dX3_value_8 (by decide) (by decide) rfl (by decide) ?_
                                refine r_aload_n h 0 rfl rfl dX3_value_164 ?_
                                refine r_get h fl_X3_12 0 rfl rfl dX3_value_165 ?_
                                refine r_get h fl_X3_170 1 rfl rfl dX3_value_168 ?_
                                cases hF
                              · replace hF := o_neg c30 hF
                                by_cases c31 : x1 = (13 : Int32)
                                · replace hF := o_pos c31 hF
                                  refine r_tswIn h (13 : Int32) c31 172 dX3_value_8 (by decide) (by decide) rfl (by decide) ?_
                                  refine r_aload_n h 0 rfl rfl dX3_value_172 ?_
                                  refine r_get h fl_X3_12 0 rfl rfl dX3_value_173 ?_
                                  refine r_get h fl_X3_173 1 rfl rfl dX3_value_176 ?_
                                  cases hF
                                · replace hF := o_neg c31 hF
                                  cases hF

def FX3_pile (θ : Int32) (ρ : RS) (x1 : Int32) (x2 : Int32) : Option (Nat ⊕ (Int32)) :=
  if 0 ≤ x1 then
  (bX (FX3_checkRange x2 (0 : Int32) (3 : Int32)) fun z2 =>
  nmv (ρ.2.2.2.2.2.2.2.2.2.1 - (1 : Int32)) fun u4 =>
  (FX2_at (20 : Int32) (4 : Int32) 80 (ρ.2.2.2.2.2.2.2.2.2.1, ρ.2.2.2.1) (u4 - x1) x2).bind fun z5 =>
  some (.inr z5))
else
  (some (.inl 1))
abbrev rmX3_pile : Room := { frames := 1, cells := 0, slots := 0, locals := 22 }
set_option maxHeartbeats 4000000 in
set_option maxRecDepth 100000 in
theorem CX3_pile (l : Launch) (D : va_G) (aθ : Nat) (pθ_spare : Nat) (pθ_saved : Nat) (pθ_text : Nat) (aρ : Nat → Nat) (θ : Int32) (ρ : RS) (x1 : Int32) (x2 : Int32) (r0 : Int32) (hF : FX3_pile θ ρ x1 x2 = some (.inr r0)) : Ct l D yX3_pile cX3_pile 3 (some .int) rmX3_pile 0 0 [.ref aθ, .int x1, .int x2] (rkW D aθ (aρ 0) pθ_spare pθ_saved pθ_text θ ++ rmW D aρ ρ) (fun v w => v = some (.int r0) ∧ w = (rkW D aθ (aρ 0) pθ_spare pθ_saved pθ_text θ ++ rmW D aρ ρ)) := by
  refine Ct.of (own := RX3) (lv := [(0, .ref aθ), (1, .int x1), (2, .int x2)]) (by decide +kernel) rfl (Nat.le_of_ble_eq_true rfl) rfl (fun X h hr => ?_)
  unfold FX3_pile at hF
  refine r_iload_n h 1 rfl rfl dX3_pile_0 ?_
  refine r_if_ge h 14 dX3_pile_1 (by decide) (fun c1 => ?_) (fun c1 => ?_)
  · replace hF := o_pos c1 hF
    refine r_iload_n h 2 rfl rfl dX3_pile_14 ?_
    refine r_iconst (v := 0) h dX3_pile_15 (by decide) ?_
    refine r_iconst (v := 3) h dX3_pile_16 (by decide) ?_
    rcases o_bX hF with ⟨k_z2, e3, hF⟩ | ⟨z2, e3, hF⟩
    · cases hF
    · refine r_callSv (rest := []) h hd_X3_checkRange wm_360 dX3_pile_17 (CX3_checkRange l D x2 (0 : Int32) (3 : Int32) e3) rfl ⟨rfl, rfl⟩ ⟨by decide, by decide⟩ (Nat.le_of_ble_eq_true rfl) ⟨by decide, by decide⟩ rfl ?_
      refine r_aload_n h 0 rfl rfl dX3_pile_20 ?_
      refine r_get h fl_X3_12 0 rfl rfl dX3_pile_21 ?_
      refine r_get h fl_X3_167 1 rfl rfl dX3_pile_24 ?_
      refine r_aload_n h 0 rfl rfl dX3_pile_27 ?_
      refine r_get h fl_X3_12 0 rfl rfl dX3_pile_28 ?_
      refine r_get h fl_X3_167 1 rfl rfl dX3_pile_31 ?_
      refine r_get h fl_X3_98 5 rfl rfl dX3_pile_34 ?_
      refine r_iconst (v := 1) h dX3_pile_37 (by decide) ?_
      refine r_isub h dX3_pile_38 ?_
      obtain ⟨u4, hu4, hF⟩ := o_nm hF
      refine J.top hu4 ?_
      refine r_iload_n h 1 rfl rfl dX3_pile_39 ?_
      refine r_isub h dX3_pile_40 ?_
      refine r_iload_n h 2 rfl rfl dX3_pile_41 ?_
      obtain ⟨z5, e6, hF⟩ := o_bind hF
      refine r_callV (q0 := 0) (wr := w_pk (rkW D aθ (aρ 0) pθ_spare pθ_saved pθ_text θ ++ rmW D aρ ρ) [0, 1, 2, 3, 4, 6, 7, 8, 9, 10]) (rest := []) h hd_X2_at wm_510 dX3_pile_42 (CX2_at l D (aρ 4) (aρ 10) (20 : Int32) (4 : Int32) 80 (ρ.2.2.2.2.2.2.2.2.2.1, ρ.2.2.2.1) (u4 - x1) x2 z5 e6) [5, 11] [0, 1, 2, 3, 4, 6, 7, 8, 9, 10] rfl rfl (by decide +kernel) rfl rfl rfl ⟨rfl, rfl⟩ ⟨by decide, by decide⟩ (Nat.le_of_ble_eq_true rfl) ⟨by decide, by decide⟩ rfl (fun v w' hp => ?_)
      obtain ⟨rfl, rfl⟩ := hp
      refine J.sub (ws' := (rkW D aθ (aρ 0) pθ_spare pθ_saved pθ_text θ ++ rmW D aρ ρ)) [0, 1, 2, 3, 4, 10, 5, 6, 7, 8, 9, 11] rfl (by decide +kernel) ?_
      cases hF
      exact r_iret h hr dX3_pile_45 ⟨rfl, rfl⟩
  · replace hF := o_neg c1 hF
    cases hF

abbrev rmTX3_pile : Room := { frames := 7, cells := 1, slots := 6, locals := 112 }
set_option maxHeartbeats 4000000 in
set_option maxRecDepth 100000 in
theorem TX3_pile (l : Launch) (hl0 : l.stackTraces = false) (D : va_G) (aθ : Nat) (pθ_spare : Nat) (pθ_saved : Nat) (pθ_text : Nat) (aρ : Nat → Nat) (θ : Int32) (ρ : RS) (x1 : Int32) (x2 : Int32) (k0 : Nat) (hF : FX3_pile θ ρ x1 x2 = some (.inl k0)) : CtT l D yX3_pile cX3_pile 3 (some .int) rmTX3_pile 1 6 [.ref aθ, .int x1, .int x2] (rkW D aθ (aρ 0) pθ_spare pθ_saved pθ_text θ ++ rmW D aρ ρ) (exn k0) := by
  refine CtT.of (own := RX3) (lv := [(0, .ref aθ), (1, .int x1), (2, .int x2)]) (by decide +kernel) rfl (Nat.le_of_ble_eq_true rfl) rfl (fun X h hx ht => ?_)
  unfold FX3_pile at hF
  refine r_iload_n h 1 rfl rfl dX3_pile_0 ?_
  refine r_if_ge h 14 dX3_pile_1 (by decide) (fun c1 => ?_) (fun c1 => ?_)
  · replace hF := o_pos c1 hF
    refine r_iload_n h 2 rfl rfl dX3_pile_14 ?_
    refine r_iconst (v := 0) h dX3_pile_15 (by decide) ?_
    refine r_iconst (v := 3) h dX3_pile_16 (by decide) ?_
    rcases o_bX hF with ⟨k_z2, e3, hF⟩ | ⟨z2, e3, hF⟩
    · cases hF
      exact r_callTSp (rest := []) h hx ht hd_X3_checkRange wm_360 dX3_pile_17 (TX3_checkRange l hl0 D x2 (0 : Int32) (3 : Int32) _ e3) rfl ⟨rfl, rfl⟩ ⟨by decide, by decide⟩ (Nat.le_of_ble_eq_true rfl) ⟨by decide, by decide⟩ ⟨by decide, by decide⟩ rfl
    · refine r_callSv (rest := []) h hd_X3_checkRange wm_360 dX3_pile_17 (CX3_checkRange l D x2 (0 : Int32) (3 : Int32) e3) rfl ⟨rfl, rfl⟩ ⟨by decide, by decide⟩ (Nat.le_of_ble_eq_true rfl) ⟨by decide, by decide⟩ rfl ?_
      refine r_aload_n h 0 rfl rfl dX3_pile_20 ?_
      refine r_get h fl_X3_12 0 rfl rfl dX3_pile_21 ?_
      refine r_get h fl_X3_167 1 rfl rfl dX3_pile_24 ?_
      refine r_aload_n h 0 rfl rfl dX3_pile_27 ?_
      refine r_get h fl_X3_12 0 rfl rfl dX3_pile_28 ?_
      refine r_get h fl_X3_167 1 rfl rfl dX3_pile_31 ?_
      refine r_get h fl_X3_98 5 rfl rfl dX3_pile_34 ?_
      refine r_iconst (v := 1) h dX3_pile_37 (by decide) ?_
      refine r_isub h dX3_pile_38 ?_
      obtain ⟨u4, hu4, hF⟩ := o_nm hF
      refine J.top hu4 ?_
      refine r_iload_n h 1 rfl rfl dX3_pile_39 ?_
      refine r_isub h dX3_pile_40 ?_
      refine r_iload_n h 2 rfl rfl dX3_pile_41 ?_
      obtain ⟨z5, e6, hF⟩ := o_bind hF
      refine r_callV (q0 := 0) (wr := w_pk (rkW D aθ (aρ 0) pθ_spare pθ_saved pθ_text θ ++ rmW D aρ ρ) [0, 1, 2, 3, 4, 6, 7, 8, 9, 10]) (rest := []) h hd_X2_at wm_510 dX3_pile_42 (CX2_at l D (aρ 4) (aρ 10) (20 : Int32) (4 : Int32) 80 (ρ.2.2.2.2.2.2.2.2.2.1, ρ.2.2.2.1) (u4 - x1) x2 z5 e6) [5, 11] [0, 1, 2, 3, 4, 6, 7, 8, 9, 10] rfl rfl (by decide +kernel) rfl rfl rfl ⟨rfl, rfl⟩ ⟨by decide, by decide⟩ (Nat.le_of_ble_eq_true rfl) ⟨by decide, by decide⟩ rfl (fun v w' hp => ?_)
      obtain ⟨rfl, rfl⟩ := hp
      refine J.sub (ws' := (rkW D aθ (aρ 0) pθ_spare pθ_saved pθ_text θ ++ rmW D aρ ρ)) [0, 1, 2, 3, 4, 10, 5, 6, 7, 8, 9, 11] rfl (by decide +kernel) ?_
      cases hF
  · replace hF := o_neg c1 hF
    cases hF
    exact r_throw (E := exn 1) (text := "a negative index") h hx ht hl0 thf_1 (by decide +kernel) dX3_pile_4 dX3_pile_7 dX3_pile_8 dX3_pile_10 dX3_pile_13 ⟨by decide, Nat.le_of_ble_eq_true rfl, by decide, by decide⟩ ⟨by decide, by decide⟩

def FX3_mayMove (θ : Int32) (ρ : RS) (x1 : Int32) (x2 : Int32) : Option (Nat ⊕ (Int32 × RS)) :=
  bX (FX3_checkMachine θ ρ x1) fun z1 =>
  bX (FX3_checkRange x2 (-1 : Int32) (5 : Int32)) fun z3 =>
  (FX1_whyNotMove ρ x1 x2).bind fun z5 =>
  some (.inr (z5.1, z5.2))
abbrev rmX3_mayMove : Room := { frames := 6, cells := 0, slots := 0, locals := 142 }
set_option maxHeartbeats 4000000 in
set_option maxRecDepth 100000 in
theorem CX3_mayMove (l : Launch) (D : va_G) (aθ : Nat) (pθ_spare : Nat) (pθ_saved : Nat) (pθ_text : Nat) (aρ : Nat → Nat) (θ : Int32) (ρ : RS) (x1 : Int32) (x2 : Int32) (r0 : Int32) (ρ0 : RS) (hF : FX3_mayMove θ ρ x1 x2 = some (.inr (r0, ρ0))) : Ct l D yX3_mayMove cX3_mayMove 3 (some .int) rmX3_mayMove 0 0 [.ref aθ, .int x1, .int x2] (rkW D aθ (aρ 0) pθ_spare pθ_saved pθ_text θ ++ rmW D aρ ρ) (fun v w => v = some (.int r0) ∧ w = (rkW D aθ (aρ 0) pθ_spare pθ_saved pθ_text θ ++ rmW D aρ ρ0)) := by
  refine Ct.of (own := RX3) (lv := [(0, .ref aθ), (1, .int x1), (2, .int x2)]) (by decide +kernel) rfl (Nat.le_of_ble_eq_true rfl) rfl (fun X h hr => ?_)
  unfold FX3_mayMove at hF
  refine r_aload_n h 0 rfl rfl dX3_mayMove_0 ?_
  refine r_iload_n h 1 rfl rfl dX3_mayMove_1 ?_
  rcases o_bX hF with ⟨k_z1, e2, hF⟩ | ⟨z1, e2, hF⟩
  · cases hF
  · refine r_callVa (q0 := 0) (rest := []) h hd_X3_checkMachine wm_499 dX3_mayMove_2 (CX3_checkMachine l D aθ pθ_spare pθ_saved pθ_text aρ θ ρ x1 e2) rfl rfl rfl ⟨rfl, rfl⟩ ⟨by decide, by decide⟩ (Nat.le_of_ble_eq_true rfl) ⟨by decide, by decide⟩ rfl (fun v w' hp => ?_)
    obtain ⟨rfl, rfl⟩ := hp
    refine r_iload_n h 2 rfl rfl dX3_mayMove_5 ?_
    refine r_iconst (v := -1) h dX3_mayMove_6 (by decide) ?_
    refine r_iconst (v := 5) h dX3_mayMove_7 (by decide) ?_
    rcases o_bX hF with ⟨k_z3, e4, hF⟩ | ⟨z3, e4, hF⟩
    · cases hF
    · refine r_callSv (rest := []) h hd_X3_checkRange wm_360 dX3_mayMove_8 (CX3_checkRange l D x2 (-1 : Int32) (5 : Int32) e4) rfl ⟨rfl, rfl⟩ ⟨by decide, by decide⟩ (Nat.le_of_ble_eq_true rfl) ⟨by decide, by decide⟩ rfl ?_
      refine r_aload_n h 0 rfl rfl dX3_mayMove_11 ?_
      refine r_get h fl_X3_12 0 rfl rfl dX3_mayMove_12 ?_
      refine r_iload_n h 1 rfl rfl dX3_mayMove_15 ?_
      refine r_iload_n h 2 rfl rfl dX3_mayMove_16 ?_
      obtain ⟨z5, e6, hF⟩ := o_bind hF
      refine r_callV (q0 := 0) (wr := w_pk (rkW D aθ (aρ 0) pθ_spare pθ_saved pθ_text θ ++ rmW D aρ ρ) [0]) (rest := []) h hd_X1_whyNotMove wm_650 dX3_mayMove_17 (CX1_whyNotMove l D aρ ρ x1 x2 z5.1 z5.2 e6) [1, 2, 3, 4, 5, 6, 7, 8, 9, 10, 11] [0] rfl rfl (by decide +kernel) rfl rfl rfl ⟨rfl, rfl⟩ ⟨by decide, by decide⟩ (Nat.le_of_ble_eq_true rfl) ⟨by decide, by decide⟩ rfl (fun v w' hp => ?_)
      obtain ⟨rfl, rfl⟩ := hp
      refine J.sub (ws' := (rkW D aθ (aρ 0) pθ_spare pθ_saved pθ_text θ ++ rmW D aρ z5.2)) [0, 1, 2, 3, 4, 5, 6, 7, 8, 9, 10, 11] rfl (by decide +kernel) ?_
      cases hF
      exact r_iret h hr dX3_mayMove_20 ⟨rfl, rfl⟩

abbrev rmTX3_mayMove : Room := { frames := 7, cells := 1, slots := 6, locals := 142 }
set_option maxHeartbeats 4000000 in
set_option maxRecDepth 100000 in
theorem TX3_mayMove (l : Launch) (hl0 : l.stackTraces = false) (D : va_G) (aθ : Nat) (pθ_spare : Nat) (pθ_saved : Nat) (pθ_text : Nat) (aρ : Nat → Nat) (θ : Int32) (ρ : RS) (x1 : Int32) (x2 : Int32) (k0 : Nat) (hF : FX3_mayMove θ ρ x1 x2 = some (.inl k0)) : CtT l D yX3_mayMove cX3_mayMove 3 (some .int) rmTX3_mayMove 1 6 [.ref aθ, .int x1, .int x2] (rkW D aθ (aρ 0) pθ_spare pθ_saved pθ_text θ ++ rmW D aρ ρ) (exn k0) := by
  refine CtT.of (own := RX3) (lv := [(0, .ref aθ), (1, .int x1), (2, .int x2)]) (by decide +kernel) rfl (Nat.le_of_ble_eq_true rfl) rfl (fun X h hx ht => ?_)
  unfold FX3_mayMove at hF
  refine r_aload_n h 0 rfl rfl dX3_mayMove_0 ?_
  refine r_iload_n h 1 rfl rfl dX3_mayMove_1 ?_
  rcases o_bX hF with ⟨k_z1, e2, hF⟩ | ⟨z1, e2, hF⟩
  · cases hF
    exact r_callTV (q0 := 0) (wr := w_pk (rkW D aθ (aρ 0) pθ_spare pθ_saved pθ_text θ ++ rmW D aρ ρ) []) (rest := []) h hx ht hd_X3_checkMachine wm_499 dX3_mayMove_2 (TX3_checkMachine l hl0 D aθ pθ_spare pθ_saved pθ_text aρ θ ρ x1 _ e2) [0, 1, 2, 3, 4, 5, 6, 7, 8, 9, 10, 11] [] [0, 1, 2, 3, 4, 5, 6, 7, 8, 9, 10, 11] rfl rfl rfl (by decide +kernel) rfl rfl rfl ⟨rfl, rfl⟩ ⟨by decide, by decide⟩ (Nat.le_of_ble_eq_true rfl) ⟨by decide, by decide⟩ ⟨by decide, by decide⟩ rfl
  · refine r_callVa (q0 := 0) (rest := []) h hd_X3_checkMachine wm_499 dX3_mayMove_2 (CX3_checkMachine l D aθ pθ_spare pθ_saved pθ_text aρ θ ρ x1 e2) rfl rfl rfl ⟨rfl, rfl⟩ ⟨by decide, by decide⟩ (Nat.le_of_ble_eq_true rfl) ⟨by decide, by decide⟩ rfl (fun v w' hp => ?_)
    obtain ⟨rfl, rfl⟩ := hp
    refine r_iload_n h 2 rfl rfl dX3_mayMove_5 ?_
    refine r_iconst (v := -1) h dX3_mayMove_6 (by decide) ?_
    refine r_iconst (v := 5) h dX3_mayMove_7 (by decide) ?_
    rcases o_bX hF with ⟨k_z3, e4, hF⟩ | ⟨z3, e4, hF⟩
    · cases hF
      exact r_callTSp (rest := []) h hx ht hd_X3_checkRange wm_360 dX3_mayMove_8 (TX3_checkRange l hl0 D x2 (-1 : Int32) (5 : Int32) _ e4) rfl ⟨rfl, rfl⟩ ⟨by decide, by decide⟩ (Nat.le_of_ble_eq_true rfl) ⟨by decide, by decide⟩ ⟨by decide, by decide⟩ rfl
    · refine r_callSv (rest := []) h hd_X3_checkRange wm_360 dX3_mayMove_8 (CX3_checkRange l D x2 (-1 : Int32) (5 : Int32) e4) rfl ⟨rfl, rfl⟩ ⟨by decide, by decide⟩ (Nat.le_of_ble_eq_true rfl) ⟨by decide, by decide⟩ rfl ?_
      refine r_aload_n h 0 rfl rfl dX3_mayMove_11 ?_
      refine r_get h fl_X3_12 0 rfl rfl dX3_mayMove_12 ?_
      refine r_iload_n h 1 rfl rfl dX3_mayMove_15 ?_
      refine r_iload_n h 2 rfl rfl dX3_mayMove_16 ?_
      obtain ⟨z5, e6, hF⟩ := o_bind hF
      refine r_callV (q0 := 0) (wr := w_pk (rkW D aθ (aρ 0) pθ_spare pθ_saved pθ_text θ ++ rmW D aρ ρ) [0]) (rest := []) h hd_X1_whyNotMove wm_650 dX3_mayMove_17 (CX1_whyNotMove l D aρ ρ x1 x2 z5.1 z5.2 e6) [1, 2, 3, 4, 5, 6, 7, 8, 9, 10, 11] [0] rfl rfl (by decide +kernel) rfl rfl rfl ⟨rfl, rfl⟩ ⟨by decide, by decide⟩ (Nat.le_of_ble_eq_true rfl) ⟨by decide, by decide⟩ rfl (fun v w' hp => ?_)
      obtain ⟨rfl, rfl⟩ := hp
      refine J.sub (ws' := (rkW D aθ (aρ 0) pθ_spare pθ_saved pθ_text θ ++ rmW D aρ z5.2)) [0, 1, 2, 3, 4, 5, 6, 7, 8, 9, 10, 11] rfl (by decide +kernel) ?_
      cases hF

def FX3_bestRack_L12 (x1 : Int32) (K : Int32 → Int32 → Int32 → RS → Option (Nat ⊕ (Int32 × RS))) : Nat → Int32 → Int32 → Int32 → RS → Option (Nat ⊕ (Int32 × RS))
  | 0, _, _, _, _ => none
  | n + 1, y4_4, y4_3, y4_2, s4_ρ =>
  if (6 : Int32) ≤ y4_4 then
  (K y4_4 y4_3 y4_2 s4_ρ)
else
  ((FX1_whyNotMove s4_ρ x1 y4_4).bind fun z6 =>
  if z6.1 = 0 then
  ((FX1_fullestLoadWith z6.2 x1 y4_4).bind fun z9 =>
  if y4_2 = (-1 : Int32) then
  (FX3_bestRack_L12 x1 K n (y4_4 + 1) z9 y4_4 z6.2)
else
  (if y4_3 ≤ z9 then
  (FX3_bestRack_L12 x1 K n (y4_4 + 1) y4_3 y4_2 z6.2)
else
  (FX3_bestRack_L12 x1 K n (y4_4 + 1) z9 y4_4 z6.2)))
else
  (FX3_bestRack_L12 x1 K n (y4_4 + 1) y4_3 y4_2 z6.2))
def FX3_bestRack (θ : Int32) (ρ : RS) (x1 : Int32) : Option (Nat ⊕ (Int32 × RS)) :=
  bX (FX3_checkMachine θ ρ x1) fun z1 =>
  FX3_bestRack_L12 x1 (fun (y4_4 : Int32) (y4_3 : Int32) (y4_2 : Int32) (s4_ρ : RS) =>
  some (.inr (y4_2, s4_ρ))) FU (0 : Int32) (0 : Int32) (-1 : Int32) ρ
abbrev rmX3_bestRack : Room := { frames := 6, cells := 0, slots := 0, locals := 142 }
set_option maxHeartbeats 4000000 in
set_option maxRecDepth 100000 in
theorem CX3_bestRack (l : Launch) (D : va_G) (aθ : Nat) (pθ_spare : Nat) (pθ_saved : Nat) (pθ_text : Nat) (aρ : Nat → Nat) (θ : Int32) (ρ : RS) (x1 : Int32) (r0 : Int32) (ρ0 : RS) (hF : FX3_bestRack θ ρ x1 = some (.inr (r0, ρ0))) : Ct l D yX3_bestRack cX3_bestRack 6 (some .int) rmX3_bestRack 0 0 [.ref aθ, .int x1] (rkW D aθ (aρ 0) pθ_spare pθ_saved pθ_text θ ++ rmW D aρ ρ) (fun v w => v = some (.int r0) ∧ w = (rkW D aθ (aρ 0) pθ_spare pθ_saved pθ_text θ ++ rmW D aρ ρ0)) := by
  refine Ct.of (own := RX3) (lv := [(0, .ref aθ), (1, .int x1)]) (by decide +kernel) rfl (Nat.le_of_ble_eq_true rfl) rfl (fun X h hr => ?_)
  unfold FX3_bestRack at hF
  refine r_aload_n h 0 rfl rfl dX3_bestRack_0 ?_
  refine r_iload_n h 1 rfl rfl dX3_bestRack_1 ?_
  rcases o_bX hF with ⟨k_z1, e2, hF⟩ | ⟨z1, e2, hF⟩
  · cases hF
  · refine r_callVa (q0 := 0) (rest := []) h hd_X3_checkMachine wm_499 dX3_bestRack_2 (CX3_checkMachine l D aθ pθ_spare pθ_saved pθ_text aρ θ ρ x1 e2) rfl rfl rfl ⟨rfl, rfl⟩ ⟨by decide, by decide⟩ (Nat.le_of_ble_eq_true rfl) ⟨by decide, by decide⟩ rfl (fun v w' hp => ?_)
    obtain ⟨rfl, rfl⟩ := hp
    refine r_iconst (v := -1) h dX3_bestRack_5 (by decide) ?_
    refine r_istore_n (lv' := [(2, .int (-1 : Int32)), (0, .ref aθ), (1, .int x1)]) h rfl dX3_bestRack_6 (by decide) rfl ?_
    refine r_iconst (v := 0) h dX3_bestRack_7 (by decide) ?_
    refine r_istore_n (lv' := [(3, .int (0 : Int32)), (2, .int (-1 : Int32)), (0, .ref aθ), (1, .int x1)]) h rfl dX3_bestRack_8 (by decide) rfl ?_
    refine r_iconst (v := 0) h dX3_bestRack_9 (by decide) ?_
    refine r_istore (lv' := [(4, .int (0 : Int32)), (3, .int (0 : Int32)), (2, .int (-1 : Int32)), (0, .ref aθ), (1, .int x1)]) h dX3_bestRack_10 (by decide) rfl ?_
    have hL12 : ∀ (K : Int32 → Int32 → Int32 → RS → Option (Nat ⊕ (Int32 × RS))) (hK : ∀ (y4_4 : Int32) (y4_3 : Int32) (y4_2 : Int32) (s4_ρ : RS), K y4_4 y4_3 y4_2 s4_ρ = some (.inr (r0, ρ0)) → J X l rmX3_bestRack D 6 0 0 ((rkW D aθ (aρ 0) pθ_spare pθ_saved pθ_text θ ++ rmW D aρ s4_ρ)) [(4, .int y4_4), (3, .int y4_3), (2, .int y4_2), (0, .ref aθ), (1, .int x1)] 67 []) (N : Nat), ∀ (y4_4 : Int32) (y4_3 : Int32) (y4_2 : Int32) (s4_ρ : RS), FX3_bestRack_L12 x1 K N y4_4 y4_3 y4_2 s4_ρ = some (.inr (r0, ρ0)) → J X l rmX3_bestRack D 6 0 0 ((rkW D aθ (aρ 0) pθ_spare pθ_saved pθ_text θ ++ rmW D aρ s4_ρ)) [(4, .int y4_4), (3, .int y4_3), (2, .int y4_2), (0, .ref aθ), (1, .int x1)] 12 [] := by
      intro K hK N
      induction N with
      | zero =>
        intro y4_4 y4_3 y4_2 s4_ρ hF
        cases hF
      | succ N ih =>
        intro y4_4 y4_3 y4_2 s4_ρ hF
        rw [FX3_bestRack_L12] at hF
        refine r_iload h 0 rfl dX3_bestRack_12 ?_
        refine r_bipush (v := 6) h dX3_bestRack_14 (by decide) ?_
        refine r_icmp_ge h 67 dX3_bestRack_16 (by decide) (fun c5 => ?_) (fun c5 => ?_)
        · replace hF := o_pos c5 hF
          exact J.loc (lv' := [(4, .int y4_4), (3, .int y4_3), (2, .int y4_2), (0, .ref aθ), (1, .int x1)]) [0, 1, 2, 3, 4] rfl (hK y4_4 y4_3 y4_2 s4_ρ hF)
        · replace hF := o_neg c5 hF
          refine r_aload_n h 3 rfl rfl dX3_bestRack_19 ?_
          refine r_get h fl_X3_12 0 rfl rfl dX3_bestRack_20 ?_
          refine r_iload_n h 4 rfl rfl dX3_bestRack_23 ?_
          refine r_iload h 0 rfl dX3_bestRack_24 ?_
          obtain ⟨z6, e7, hF⟩ := o_bind hF
          refine r_callV (q0 := 0) (wr := w_pk (rkW D aθ (aρ 0) pθ_spare pθ_saved pθ_text θ ++ rmW D aρ s4_ρ) [0]) (rest := []) h hd_X1_whyNotMove wm_650 dX3_bestRack_26 (CX1_whyNotMove l D aρ s4_ρ x1 y4_4 z6.1 z6.2 e7) [1, 2, 3, 4, 5, 6, 7, 8, 9, 10, 11] [0] rfl rfl (by decide +kernel) rfl rfl rfl ⟨rfl, rfl⟩ ⟨by decide, by decide⟩ (Nat.le_of_ble_eq_true rfl) ⟨by decide, by decide⟩ rfl (fun v w' hp => ?_)
          obtain ⟨rfl, rfl⟩ := hp
          refine J.sub (ws' := (rkW D aθ (aρ 0) pθ_spare pθ_saved pθ_text θ ++ rmW D aρ z6.2)) [0, 1, 2, 3, 4, 5, 6, 7, 8, 9, 10, 11] rfl (by decide +kernel) ?_
          refine r_if_ne h 61 dX3_bestRack_29 (by decide) (fun c8 => ?_) (fun c8 => ?_)
          · replace hF := o_neg c8 hF
            refine r_iinc (lv' := [(4, .int (y4_4 + 1)), (3, .int y4_3), (2, .int y4_2), (0, .ref aθ), (1, .int x1)]) h 0 rfl (congrArg (fun z => y4_4 + z) (by decide : Int32.ofInt 1 = 1)) dX3_bestRack_61 (by decide) rfl ?_
            refine r_goto h 12 dX3_bestRack_64 (by decide) ?_
            exact J.loc (lv' := [(4, .int (y4_4 + 1)), (3, .int y4_3), (2, .int y4_2), (0, .ref aθ), (1, .int x1)]) [0, 1, 2, 3, 4] rfl (ih (y4_4 + 1) y4_3 y4_2 z6.2 hF)
          · replace hF := o_pos c8 hF
            refine r_aload_n h 3 rfl rfl dX3_bestRack_32 ?_
            refine r_get h fl_X3_12 0 rfl rfl dX3_bestRack_33 ?_
            refine r_iload_n h 4 rfl rfl dX3_bestRack_36 ?_
            refine r_iload h 0 rfl dX3_bestRack_37 ?_
            obtain ⟨z9, e10, hF⟩ := o_bind hF
            refine r_callV (q0 := 0) (wr := w_pk (rkW D aθ (aρ 0) pθ_spare pθ_saved pθ_text θ ++ rmW D aρ z6.2) [0]) (rest := []) h hd_X1_fullestLoadWith wm_678 dX3_bestRack_39 (CX1_fullestLoadWith l D aρ z6.2 x1 y4_4 z9 e10) [1, 2, 3, 4, 5, 6, 7, 8, 9, 10, 11] [0] rfl rfl (by decide +kernel) rfl rfl rfl ⟨rfl, rfl⟩ ⟨by decide, by decide⟩ (Nat.le_of_ble_eq_true rfl) ⟨by decide, by decide⟩ rfl (fun v w' hp => ?_)
            obtain ⟨rfl, rfl⟩ := hp
            refine J.sub (ws' := (rkW D aθ (aρ 0) pθ_spare pθ_saved pθ_text θ ++ rmW D aρ z6.2)) [0, 1, 2, 3, 4, 5, 6, 7, 8, 9, 10, 11] rfl (by decide +kernel) ?_
            refine r_istore (lv' := [(5, .int z9), (4, .int y4_4), (3, .int y4_3), (2, .int y4_2), (0, .ref aθ), (1, .int x1)]) h dX3_bestRack_42 (by decide) rfl ?_
            refine r_iload_n h 3 rfl rfl dX3_bestRack_44 ?_
            refine r_iconst (v := -1) h dX3_bestRack_45 (by decide) ?_
            refine r_icmp_eq h 55 dX3_bestRack_46 (by decide) (fun c11 => ?_) (fun c11 => ?_)
            · replace hF := o_pos c11 hF
              refine r_iload h 1 rfl dX3_bestRack_55 ?_
              refine r_istore_n (lv' := [(2, .int y4_4), (5, .int z9), (4, .int y4_4), (3, .int y4_3), (0, .ref aθ), (1, .int x1)]) h rfl dX3_bestRack_57 (by decide) rfl ?_
              refine r_iload h 1 rfl dX3_bestRack_58 ?_
              refine r_istore_n (lv' := [(3, .int z9), (2, .int y4_4), (5, .int z9), (4, .int y4_4), (0, .ref aθ), (1, .int x1)]) h rfl dX3_bestRack_60 (by decide) rfl ?_
              refine r_iinc (lv' := [(4, .int (y4_4 + 1)), (3, .int z9), (2, .int y4_4), (5, .int z9), (0, .ref aθ), (1, .int x1)]) h 3 rfl (congrArg (fun z => y4_4 + z) (by decide : Int32.ofInt 1 = 1)) dX3_bestRack_61 (by decide) rfl ?_
              refine r_goto h 12 dX3_bestRack_64 (by decide) ?_
              exact J.loc (lv' := [(4, .int (y4_4 + 1)), (3, .int z9), (2, .int y4_4), (0, .ref aθ), (1, .int x1)]) [0, 1, 2, 4, 5] rfl (ih (y4_4 + 1) z9 y4_4 z6.2 hF)
            · replace hF := o_neg c11 hF
              refine r_iload h 0 rfl dX3_bestRack_49 ?_
              refine r_iload_n h 2 rfl rfl dX3_bestRack_51 ?_
              refine r_icmp_ge h 61 dX3_bestRack_52 (by decide) (fun c12 => ?_) (fun c12 => ?_)
              · replace hF := o_pos c12 hF
                refine r_iinc (lv' := [(4, .int (y4_4 + 1)), (5, .int z9), (3, .int y4_3), (2, .int y4_2), (0, .ref aθ), (1, .int x1)]) h 1 rfl (congrArg (fun z => y4_4 + z) (by decide : Int32.ofInt 1 = 1)) dX3_bestRack_61 (by decide) rfl ?_
                refine r_goto h 12 dX3_bestRack_64 (by decide) ?_
                exact J.loc (lv' := [(4, .int (y4_4 + 1)), (3, .int y4_3), (2, .int y4_2), (0, .ref aθ), (1, .int x1)]) [0, 2, 3, 4, 5] rfl (ih (y4_4 + 1) y4_3 y4_2 z6.2 hF)
              · replace hF := o_neg c12 hF
                refine r_iload h 1 rfl dX3_bestRack_55 ?_
                refine r_istore_n (lv' := [(2, .int y4_4), (5, .int z9), (4, .int y4_4), (3, .int y4_3), (0, .ref aθ), (1, .int x1)]) h rfl dX3_bestRack_57 (by decide) rfl ?_
                refine r_iload h 1 rfl dX3_bestRack_58 ?_
                refine r_istore_n (lv' := [(3, .int z9), (2, .int y4_4), (5, .int z9), (4, .int y4_4), (0, .ref aθ), (1, .int x1)]) h rfl dX3_bestRack_60 (by decide) rfl ?_
                refine r_iinc (lv' := [(4, .int (y4_4 + 1)), (3, .int z9), (2, .int y4_4), (5, .int z9), (0, .ref aθ), (1, .int x1)]) h 3 rfl (congrArg (fun z => y4_4 + z) (by decide : Int32.ofInt 1 = 1)) dX3_bestRack_61 (by decide) rfl ?_
                refine r_goto h 12 dX3_bestRack_64 (by decide) ?_
                exact J.loc (lv' := [(4, .int (y4_4 + 1)), (3, .int z9), (2, .int y4_4), (0, .ref aθ), (1, .int x1)]) [0, 1, 2, 4, 5] rfl (ih (y4_4 + 1) z9 y4_4 z6.2 hF)
    refine hL12 _ (fun y4_4 y4_3 y4_2 s4_ρ hF => ?_) _ (0 : Int32) (0 : Int32) (-1 : Int32) ρ hF
    refine r_iload_n h 2 rfl rfl dX3_bestRack_67 ?_
    cases hF
    exact r_iret h hr dX3_bestRack_68 ⟨rfl, rfl⟩

abbrev rmTX3_bestRack : Room := { frames := 7, cells := 1, slots := 6, locals := 142 }
set_option maxHeartbeats 4000000 in
set_option maxRecDepth 100000 in
theorem TX3_bestRack (l : Launch) (hl0 : l.stackTraces = false) (D : va_G) (aθ : Nat) (pθ_spare : Nat) (pθ_saved : Nat) (pθ_text : Nat) (aρ : Nat → Nat) (θ : Int32) (ρ : RS) (x1 : Int32) (k0 : Nat) (hF : FX3_bestRack θ ρ x1 = some (.inl k0)) : CtT l D yX3_bestRack cX3_bestRack 6 (some .int) rmTX3_bestRack 1 6 [.ref aθ, .int x1] (rkW D aθ (aρ 0) pθ_spare pθ_saved pθ_text θ ++ rmW D aρ ρ) (exn k0) := by
  refine CtT.of (own := RX3) (lv := [(0, .ref aθ), (1, .int x1)]) (by decide +kernel) rfl (Nat.le_of_ble_eq_true rfl) rfl (fun X h hx ht => ?_)
  unfold FX3_bestRack at hF
  refine r_aload_n h 0 rfl rfl dX3_bestRack_0 ?_
  refine r_iload_n h 1 rfl rfl dX3_bestRack_1 ?_
  rcases o_bX hF with ⟨k_z1, e2, hF⟩ | ⟨z1, e2, hF⟩
  · cases hF
    exact r_callTV (q0 := 0) (wr := w_pk (rkW D aθ (aρ 0) pθ_spare pθ_saved pθ_text θ ++ rmW D aρ ρ) []) (rest := []) h hx ht hd_X3_checkMachine wm_499 dX3_bestRack_2 (TX3_checkMachine l hl0 D aθ pθ_spare pθ_saved pθ_text aρ θ ρ x1 _ e2) [0, 1, 2, 3, 4, 5, 6, 7, 8, 9, 10, 11] [] [0, 1, 2, 3, 4, 5, 6, 7, 8, 9, 10, 11] rfl rfl rfl (by decide +kernel) rfl rfl rfl ⟨rfl, rfl⟩ ⟨by decide, by decide⟩ (Nat.le_of_ble_eq_true rfl) ⟨by decide, by decide⟩ ⟨by decide, by decide⟩ rfl
  · refine r_callVa (q0 := 0) (rest := []) h hd_X3_checkMachine wm_499 dX3_bestRack_2 (CX3_checkMachine l D aθ pθ_spare pθ_saved pθ_text aρ θ ρ x1 e2) rfl rfl rfl ⟨rfl, rfl⟩ ⟨by decide, by decide⟩ (Nat.le_of_ble_eq_true rfl) ⟨by decide, by decide⟩ rfl (fun v w' hp => ?_)
    obtain ⟨rfl, rfl⟩ := hp
    refine r_iconst (v := -1) h dX3_bestRack_5 (by decide) ?_
    refine r_istore_n (lv' := [(2, .int (-1 : Int32)), (0, .ref aθ), (1, .int x1)]) h rfl dX3_bestRack_6 (by decide) rfl ?_
    refine r_iconst (v := 0) h dX3_bestRack_7 (by decide) ?_
    refine r_istore_n (lv' := [(3, .int (0 : Int32)), (2, .int (-1 : Int32)), (0, .ref aθ), (1, .int x1)]) h rfl dX3_bestRack_8 (by decide) rfl ?_
    refine r_iconst (v := 0) h dX3_bestRack_9 (by decide) ?_
    refine r_istore (lv' := [(4, .int (0 : Int32)), (3, .int (0 : Int32)), (2, .int (-1 : Int32)), (0, .ref aθ), (1, .int x1)]) h dX3_bestRack_10 (by decide) rfl ?_
    have hL12 : ∀ (K : Int32 → Int32 → Int32 → RS → Option (Nat ⊕ (Int32 × RS))) (hK : ∀ (y4_4 : Int32) (y4_3 : Int32) (y4_2 : Int32) (s4_ρ : RS), K y4_4 y4_3 y4_2 s4_ρ = some (.inl k0) → J X l rmTX3_bestRack D 6 0 0 ((rkW D aθ (aρ 0) pθ_spare pθ_saved pθ_text θ ++ rmW D aρ s4_ρ)) [(4, .int y4_4), (3, .int y4_3), (2, .int y4_2), (0, .ref aθ), (1, .int x1)] 67 []) (N : Nat), ∀ (y4_4 : Int32) (y4_3 : Int32) (y4_2 : Int32) (s4_ρ : RS), FX3_bestRack_L12 x1 K N y4_4 y4_3 y4_2 s4_ρ = some (.inl k0) → J X l rmTX3_bestRack D 6 0 0 ((rkW D aθ (aρ 0) pθ_spare pθ_saved pθ_text θ ++ rmW D aρ s4_ρ)) [(4, .int y4_4), (3, .int y4_3), (2, .int y4_2), (0, .ref aθ), (1, .int x1)] 12 [] := by
      intro K hK N
      induction N with
      | zero =>
        intro y4_4 y4_3 y4_2 s4_ρ hF
        cases hF
      | succ N ih =>
        intro y4_4 y4_3 y4_2 s4_ρ hF
        rw [FX3_bestRack_L12] at hF
        refine r_iload h 0 rfl dX3_bestRack_12 ?_
        refine r_bipush (v := 6) h dX3_bestRack_14 (by decide) ?_
        refine r_icmp_ge h 67 dX3_bestRack_16 (by decide) (fun c5 => ?_) (fun c5 => ?_)
        · replace hF := o_pos c5 hF
          exact J.loc (lv' := [(4, .int y4_4), (3, .int y4_3), (2, .int y4_2), (0, .ref aθ), (1, .int x1)]) [0, 1, 2, 3, 4] rfl (hK y4_4 y4_3 y4_2 s4_ρ hF)
        · replace hF := o_neg c5 hF
          refine r_aload_n h 3 rfl rfl dX3_bestRack_19 ?_
          refine r_get h fl_X3_12 0 rfl rfl dX3_bestRack_20 ?_
          refine r_iload_n h 4 rfl rfl dX3_bestRack_23 ?_
          refine r_iload h 0 rfl dX3_bestRack_24 ?_
          obtain ⟨z6, e7, hF⟩ := o_bind hF
          refine r_callV (q0 := 0) (wr := w_pk (rkW D aθ (aρ 0) pθ_spare pθ_saved pθ_text θ ++ rmW D aρ s4_ρ) [0]) (rest := []) h hd_X1_whyNotMove wm_650 dX3_bestRack_26 (CX1_whyNotMove l D aρ s4_ρ x1 y4_4 z6.1 z6.2 e7) [1, 2, 3, 4, 5, 6, 7, 8, 9, 10, 11] [0] rfl rfl (by decide +kernel) rfl rfl rfl ⟨rfl, rfl⟩ ⟨by decide, by decide⟩ (Nat.le_of_ble_eq_true rfl) ⟨by decide, by decide⟩ rfl (fun v w' hp => ?_)
          obtain ⟨rfl, rfl⟩ := hp
          refine J.sub (ws' := (rkW D aθ (aρ 0) pθ_spare pθ_saved pθ_text θ ++ rmW D aρ z6.2)) [0, 1, 2, 3, 4, 5, 6, 7, 8, 9, 10, 11] rfl (by decide +kernel) ?_
          refine r_if_ne h 61 dX3_bestRack_29 (by decide) (fun c8 => ?_) (fun c8 => ?_)
          · replace hF := o_neg c8 hF
            refine r_iinc (lv' := [(4, .int (y4_4 + 1)), (3, .int y4_3), (2, .int y4_2), (0, .ref aθ), (1, .int x1)]) h 0 rfl (congrArg (fun z => y4_4 + z) (by decide : Int32.ofInt 1 = 1)) dX3_bestRack_61 (by decide) rfl ?_
            refine r_goto h 12 dX3_bestRack_64 (by decide) ?_
            exact J.loc (lv' := [(4, .int (y4_4 + 1)), (3, .int y4_3), (2, .int y4_2), (0, .ref aθ), (1, .int x1)]) [0, 1, 2, 3, 4] rfl (ih (y4_4 + 1) y4_3 y4_2 z6.2 hF)
          · replace hF := o_pos c8 hF
            refine r_aload_n h 3 rfl rfl dX3_bestRack_32 ?_
            refine r_get h fl_X3_12 0 rfl rfl dX3_bestRack_33 ?_
            refine r_iload_n h 4 rfl rfl dX3_bestRack_36 ?_
            refine r_iload h 0 rfl dX3_bestRack_37 ?_
            obtain ⟨z9, e10, hF⟩ := o_bind hF
            refine r_callV (q0 := 0) (wr := w_pk (rkW D aθ (aρ 0) pθ_spare pθ_saved pθ_text θ ++ rmW D aρ z6.2) [0]) (rest := []) h hd_X1_fullestLoadWith wm_678 dX3_bestRack_39 (CX1_fullestLoadWith l D aρ z6.2 x1 y4_4 z9 e10) [1, 2, 3, 4, 5, 6, 7, 8, 9, 10, 11] [0] rfl rfl (by decide +kernel) rfl rfl rfl ⟨rfl, rfl⟩ ⟨by decide, by decide⟩ (Nat.le_of_ble_eq_true rfl) ⟨by decide, by decide⟩ rfl (fun v w' hp => ?_)
            obtain ⟨rfl, rfl⟩ := hp
            refine J.sub (ws' := (rkW D aθ (aρ 0) pθ_spare pθ_saved pθ_text θ ++ rmW D aρ z6.2)) [0, 1, 2, 3, 4, 5, 6, 7, 8, 9, 10, 11] rfl (by decide +kernel) ?_
            refine r_istore (lv' := [(5, .int z9), (4, .int y4_4), (3, .int y4_3), (2, .int y4_2), (0, .ref aθ), (1, .int x1)]) h dX3_bestRack_42 (by decide) rfl ?_
            refine r_iload_n h 3 rfl rfl dX3_bestRack_44 ?_
            refine r_iconst (v := -1) h dX3_bestRack_45 (by decide) ?_
            refine r_icmp_eq h 55 dX3_bestRack_46 (by decide) (fun c11 => ?_) (fun c11 => ?_)
            · replace hF := o_pos c11 hF
              refine r_iload h 1 rfl dX3_bestRack_55 ?_
              refine r_istore_n (lv' := [(2, .int y4_4), (5, .int z9), (4, .int y4_4), (3, .int y4_3), (0, .ref aθ), (1, .int x1)]) h rfl dX3_bestRack_57 (by decide) rfl ?_
              refine r_iload h 1 rfl dX3_bestRack_58 ?_
              refine r_istore_n (lv' := [(3, .int z9), (2, .int y4_4), (5, .int z9), (4, .int y4_4), (0, .ref aθ), (1, .int x1)]) h rfl dX3_bestRack_60 (by decide) rfl ?_
              refine r_iinc (lv' := [(4, .int (y4_4 + 1)), (3, .int z9), (2, .int y4_4), (5, .int z9), (0, .ref aθ), (1, .int x1)]) h 3 rfl (congrArg (fun z => y4_4 + z) (by decide : Int32.ofInt 1 = 1)) dX3_bestRack_61 (by decide) rfl ?_
              refine r_goto h 12 dX3_bestRack_64 (by decide) ?_
              exact J.loc (lv' := [(4, .int (y4_4 + 1)), (3, .int z9), (2, .int y4_4), (0, .ref aθ), (1, .int x1)]) [0, 1, 2, 4, 5] rfl (ih (y4_4 + 1) z9 y4_4 z6.2 hF)
            · replace hF := o_neg c11 hF
              refine r_iload h 0 rfl dX3_bestRack_49 ?_
              refine r_iload_n h 2 rfl rfl dX3_bestRack_51 ?_
              refine r_icmp_ge h 61 dX3_bestRack_52 (by decide) (fun c12 => ?_) (fun c12 => ?_)
              · replace hF := o_pos c12 hF
                refine r_iinc (lv' := [(4, .int (y4_4 + 1)), (5, .int z9), (3, .int y4_3), (2, .int y4_2), (0, .ref aθ), (1, .int x1)]) h 1 rfl (congrArg (fun z => y4_4 + z) (by decide : Int32.ofInt 1 = 1)) dX3_bestRack_61 (by decide) rfl ?_
                refine r_goto h 12 dX3_bestRack_64 (by decide) ?_
                exact J.loc (lv' := [(4, .int (y4_4 + 1)), (3, .int y4_3), (2, .int y4_2), (0, .ref aθ), (1, .int x1)]) [0, 2, 3, 4, 5] rfl (ih (y4_4 + 1) y4_3 y4_2 z6.2 hF)
              · replace hF := o_neg c12 hF
                refine r_iload h 1 rfl dX3_bestRack_55 ?_
                refine r_istore_n (lv' := [(2, .int y4_4), (5, .int z9), (4, .int y4_4), (3, .int y4_3), (0, .ref aθ), (1, .int x1)]) h rfl dX3_bestRack_57 (by decide) rfl ?_
                refine r_iload h 1 rfl dX3_bestRack_58 ?_
                refine r_istore_n (lv' := [(3, .int z9), (2, .int y4_4), (5, .int z9), (4, .int y4_4), (0, .ref aθ), (1, .int x1)]) h rfl dX3_bestRack_60 (by decide) rfl ?_
                refine r_iinc (lv' := [(4, .int (y4_4 + 1)), (3, .int z9), (2, .int y4_4), (5, .int z9), (0, .ref aθ), (1, .int x1)]) h 3 rfl (congrArg (fun z => y4_4 + z) (by decide : Int32.ofInt 1 = 1)) dX3_bestRack_61 (by decide) rfl ?_
                refine r_goto h 12 dX3_bestRack_64 (by decide) ?_
                exact J.loc (lv' := [(4, .int (y4_4 + 1)), (3, .int z9), (2, .int y4_4), (0, .ref aθ), (1, .int x1)]) [0, 1, 2, 4, 5] rfl (ih (y4_4 + 1) z9 y4_4 z6.2 hF)
    refine hL12 _ (fun y4_4 y4_3 y4_2 s4_ρ hF => ?_) _ (0 : Int32) (0 : Int32) (-1 : Int32) ρ hF
    refine r_iload_n h 2 rfl rfl dX3_bestRack_67 ?_
    cases hF

def FX3_bestChange_L29 (y4_3 : Int32) (K : Int32 → Int32 → Int32 → RS → Option (Int32 × RS)) : Nat → Int32 → Int32 → Int32 → RS → Option (Int32 × RS)
  | 0, _, _, _, _ => none
  | n + 1, y7_4, y7_2, y7_1, s7_ρ =>
  if (3 : Int32) ≤ y7_4 then
  (K y7_4 y7_2 y7_1 s7_ρ)
else
  ((FX1_differenceWith s7_ρ y4_3 y7_4).bind fun z9 =>
  if y7_2 ≤ z9.1 then
  (FX3_bestChange_L29 y4_3 K n (y7_4 + 1) y7_2 y7_1 z9.2)
else
  ((FX1_whyNotChange z9.2 y4_3 y7_4).bind fun z12 =>
  if z12.1 = 0 then
  (FX3_bestChange_L29 y4_3 K n (y7_4 + 1) z9.1 (((3 : Int32) * y4_3) + y7_4) z12.2)
else
  (FX3_bestChange_L29 y4_3 K n (y7_4 + 1) y7_2 y7_1 z12.2)))
def FX3_bestChange_L12  (K : Int32 → Int32 → Int32 → RS → Option (Int32 × RS)) : Nat → Int32 → Int32 → Int32 → RS → Option (Int32 × RS)
  | 0, _, _, _, _ => none
  | n + 1, y4_3, y4_2, y4_1, s4_ρ =>
  if s4_ρ.2.2.2.2.2.2.1 ≤ y4_3 then
  (K y4_3 y4_2 y4_1 s4_ρ)
else
  (FX3_bestChange_L29 y4_3 (fun (y7_4 : Int32) (y7_2 : Int32) (y7_1 : Int32) (s7_ρ : RS) =>
  FX3_bestChange_L12 K n (y4_3 + 1) y7_2 y7_1 s7_ρ) FU (0 : Int32) y4_2 y4_1 s4_ρ)
def FX3_bestChange (θ : Int32) (ρ : RS) : Option (Int32 × RS) :=
  (FX1_difference ρ).bind fun z1 =>
  FX3_bestChange_L12  (fun (y4_3 : Int32) (y4_2 : Int32) (y4_1 : Int32) (s4_ρ : RS) =>
  some (y4_1, s4_ρ)) FU (0 : Int32) z1 (-1 : Int32) ρ
abbrev rmX3_bestChange : Room := { frames := 6, cells := 0, slots := 0, locals := 141 }
set_option maxHeartbeats 4000000 in
set_option maxRecDepth 100000 in
theorem CX3_bestChange (l : Launch) (D : va_G) (aθ : Nat) (pθ_spare : Nat) (pθ_saved : Nat) (pθ_text : Nat) (aρ : Nat → Nat) (θ : Int32) (ρ : RS) (r0 : Int32) (ρ0 : RS) (hF : FX3_bestChange θ ρ = some (r0, ρ0)) : Ct l D yX3_bestChange cX3_bestChange 6 (some .int) rmX3_bestChange 0 0 [.ref aθ] (rkW D aθ (aρ 0) pθ_spare pθ_saved pθ_text θ ++ rmW D aρ ρ) (fun v w => v = some (.int r0) ∧ w = (rkW D aθ (aρ 0) pθ_spare pθ_saved pθ_text θ ++ rmW D aρ ρ0)) := by
  refine Ct.of (own := RX3) (lv := [(0, .ref aθ)]) (by decide +kernel) rfl (Nat.le_of_ble_eq_true rfl) rfl (fun X h hr => ?_)
  unfold FX3_bestChange at hF
  refine r_iconst (v := -1) h dX3_bestChange_0 (by decide) ?_
  refine r_istore_n (lv' := [(1, .int (-1 : Int32)), (0, .ref aθ)]) h rfl dX3_bestChange_1 (by decide) rfl ?_
  refine r_aload_n h 1 rfl rfl dX3_bestChange_2 ?_
  refine r_get h fl_X3_12 0 rfl rfl dX3_bestChange_3 ?_
  obtain ⟨z1, e2, hF⟩ := o_bind hF
  refine r_callV (q0 := 0) (wr := w_pk (rkW D aθ (aρ 0) pθ_spare pθ_saved pθ_text θ ++ rmW D aρ ρ) [0]) (rest := []) h hd_X1_difference wm_241 dX3_bestChange_6 (CX1_difference l D aρ ρ z1 e2) [1, 2, 3, 4, 5, 6, 7, 8, 9, 10, 11] [0] rfl rfl (by decide +kernel) rfl rfl rfl ⟨rfl, rfl⟩ ⟨by decide, by decide⟩ (Nat.le_of_ble_eq_true rfl) ⟨by decide, by decide⟩ rfl (fun v w' hp => ?_)
  obtain ⟨rfl, rfl⟩ := hp
  refine J.sub (ws' := (rkW D aθ (aρ 0) pθ_spare pθ_saved pθ_text θ ++ rmW D aρ ρ)) [0, 1, 2, 3, 4, 5, 6, 7, 8, 9, 10, 11] rfl (by decide +kernel) ?_
  refine r_istore_n (lv' := [(2, .int z1), (1, .int (-1 : Int32)), (0, .ref aθ)]) h rfl dX3_bestChange_9 (by decide) rfl ?_
  refine r_iconst (v := 0) h dX3_bestChange_10 (by decide) ?_
  refine r_istore_n (lv' := [(3, .int (0 : Int32)), (2, .int z1), (1, .int (-1 : Int32)), (0, .ref aθ)]) h rfl dX3_bestChange_11 (by decide) rfl ?_
  have hL12 : ∀ (K : Int32 → Int32 → Int32 → RS → Option (Int32 × RS)) (hK : ∀ (y4_3 : Int32) (y4_2 : Int32) (y4_1 : Int32) (s4_ρ : RS), K y4_3 y4_2 y4_1 s4_ρ = some (r0, ρ0) → J X l rmX3_bestChange D 6 0 0 ((rkW D aθ (aρ 0) pθ_spare pθ_saved pθ_text θ ++ rmW D aρ s4_ρ)) [(3, .int y4_3), (2, .int y4_2), (1, .int y4_1), (0, .ref aθ)] 88 []) (N : Nat), ∀ (y4_3 : Int32) (y4_2 : Int32) (y4_1 : Int32) (s4_ρ : RS), FX3_bestChange_L12  K N y4_3 y4_2 y4_1 s4_ρ = some (r0, ρ0) → J X l rmX3_bestChange D 6 0 0 ((rkW D aθ (aρ 0) pθ_spare pθ_saved pθ_text θ ++ rmW D aρ s4_ρ)) [(3, .int y4_3), (2, .int y4_2), (1, .int y4_1), (0, .ref aθ)] 12 [] := by
    intro K hK N
    induction N with
    | zero =>
      intro y4_3 y4_2 y4_1 s4_ρ hF
      cases hF
    | succ N ih =>
      intro y4_3 y4_2 y4_1 s4_ρ hF
      rw [FX3_bestChange_L12] at hF
      refine r_iload_n h 0 rfl rfl dX3_bestChange_12 ?_
      refine r_aload_n h 3 rfl rfl dX3_bestChange_13 ?_
      refine r_get h fl_X3_12 0 rfl rfl dX3_bestChange_14 ?_
      refine r_get h fl_X3_58 1 rfl rfl dX3_bestChange_17 ?_
      refine r_get h fl_X3_98 2 rfl rfl dX3_bestChange_20 ?_
      refine r_icmp_ge h 88 dX3_bestChange_23 (by decide) (fun c5 => ?_) (fun c5 => ?_)
      · replace hF := o_pos c5 hF
        exact J.loc (lv' := [(3, .int y4_3), (2, .int y4_2), (1, .int y4_1), (0, .ref aθ)]) [0, 1, 2, 3] rfl (hK y4_3 y4_2 y4_1 s4_ρ hF)
      · replace hF := o_neg c5 hF
        refine r_iconst (v := 0) h dX3_bestChange_26 (by decide) ?_
        refine r_istore (lv' := [(4, .int (0 : Int32)), (3, .int y4_3), (2, .int y4_2), (1, .int y4_1), (0, .ref aθ)]) h dX3_bestChange_27 (by decide) rfl ?_
        have hL29 : ∀ (K : Int32 → Int32 → Int32 → RS → Option (Int32 × RS)) (hK : ∀ (y7_4 : Int32) (y7_2 : Int32) (y7_1 : Int32) (s7_ρ : RS), K y7_4 y7_2 y7_1 s7_ρ = some (r0, ρ0) → J X l rmX3_bestChange D 6 0 0 ((rkW D aθ (aρ 0) pθ_spare pθ_saved pθ_text θ ++ rmW D aρ s7_ρ)) [(4, .int y7_4), (3, .int y4_3), (2, .int y7_2), (1, .int y7_1), (0, .ref aθ)] 82 []) (N : Nat), ∀ (y7_4 : Int32) (y7_2 : Int32) (y7_1 : Int32) (s7_ρ : RS), FX3_bestChange_L29 y4_3 K N y7_4 y7_2 y7_1 s7_ρ = some (r0, ρ0) → J X l rmX3_bestChange D 6 0 0 ((rkW D aθ (aρ 0) pθ_spare pθ_saved pθ_text θ ++ rmW D aρ s7_ρ)) [(4, .int y7_4), (3, .int y4_3), (2, .int y7_2), (1, .int y7_1), (0, .ref aθ)] 29 [] := by
          intro K hK N
          induction N with
          | zero =>
            intro y7_4 y7_2 y7_1 s7_ρ hF
            cases hF
          | succ N ih =>
            intro y7_4 y7_2 y7_1 s7_ρ hF
            rw [FX3_bestChange_L29] at hF
            refine r_iload h 0 rfl dX3_bestChange_29 ?_
            refine r_iconst (v := 3) h dX3_bestChange_31 (by decide) ?_
            refine r_icmp_ge h 82 dX3_bestChange_32 (by decide) (fun c8 => ?_) (fun c8 => ?_)
            · replace hF := o_pos c8 hF
              exact J.loc (lv' := [(4, .int y7_4), (3, .int y4_3), (2, .int y7_2), (1, .int y7_1), (0, .ref aθ)]) [0, 1, 2, 3, 4] rfl (hK y7_4 y7_2 y7_1 s7_ρ hF)
            · replace hF := o_neg c8 hF
              refine r_aload_n h 4 rfl rfl dX3_bestChange_35 ?_
              refine r_get h fl_X3_12 0 rfl rfl dX3_bestChange_36 ?_
              refine r_iload_n h 1 rfl rfl dX3_bestChange_39 ?_
              refine r_iload h 0 rfl dX3_bestChange_40 ?_
              obtain ⟨z9, e10, hF⟩ := o_bind hF
              refine r_callV (q0 := 0) (wr := w_pk (rkW D aθ (aρ 0) pθ_spare pθ_saved pθ_text θ ++ rmW D aρ s7_ρ) [0]) (rest := []) h hd_X1_differenceWith wm_242 dX3_bestChange_42 (CX1_differenceWith l D aρ s7_ρ y4_3 y7_4 z9.1 z9.2 e10) [1, 2, 3, 4, 5, 6, 7, 8, 9, 10, 11] [0] rfl rfl (by decide +kernel) rfl rfl rfl ⟨rfl, rfl⟩ ⟨by decide, by decide⟩ (Nat.le_of_ble_eq_true rfl) ⟨by decide, by decide⟩ rfl (fun v w' hp => ?_)
              obtain ⟨rfl, rfl⟩ := hp
              refine J.sub (ws' := (rkW D aθ (aρ 0) pθ_spare pθ_saved pθ_text θ ++ rmW D aρ z9.2)) [0, 1, 2, 3, 4, 5, 6, 7, 8, 9, 10, 11] rfl (by decide +kernel) ?_
              refine r_istore (lv' := [(5, .int z9.1), (4, .int y7_4), (3, .int y4_3), (2, .int y7_2), (1, .int y7_1), (0, .ref aθ)]) h dX3_bestChange_45 (by decide) rfl ?_
              refine r_iload h 0 rfl dX3_bestChange_47 ?_
              refine r_iload_n h 3 rfl rfl dX3_bestChange_49 ?_
              refine r_icmp_ge h 76 dX3_bestChange_50 (by decide) (fun c11 => ?_) (fun c11 => ?_)
              · replace hF := o_pos c11 hF
                refine r_iinc (lv' := [(4, .int (y7_4 + 1)), (5, .int z9.1), (3, .int y4_3), (2, .int y7_2), (1, .int y7_1), (0, .ref aθ)]) h 1 rfl (congrArg (fun z => y7_4 + z) (by decide : Int32.ofInt 1 = 1)) dX3_bestChange_76 (by decide) rfl ?_
                refine r_goto h 29 dX3_bestChange_79 (by decide) ?_
                exact J.loc (lv' := [(4, .int (y7_4 + 1)), (3, .int y4_3), (2, .int y7_2), (1, .int y7_1), (0, .ref aθ)]) [0, 2, 3, 4, 5] rfl (ih (y7_4 + 1) y7_2 y7_1 z9.2 hF)
              · replace hF := o_neg c11 hF
                refine r_aload_n h 5 rfl rfl dX3_bestChange_53 ?_
                refine r_get h fl_X3_12 0 rfl rfl dX3_bestChange_54 ?_
                refine r_iload_n h 2 rfl rfl dX3_bestChange_57 ?_
                refine r_iload h 1 rfl dX3_bestChange_58 ?_
                obtain ⟨z12, e13, hF⟩ := o_bind hF
                refine r_callV (q0 := 0) (wr := w_pk (rkW D aθ (aρ 0) pθ_spare pθ_saved pθ_text θ ++ rmW D aρ z9.2) [0]) (rest := []) h hd_X1_whyNotChange wm_246 dX3_bestChange_60 (CX1_whyNotChange l D aρ z9.2 y4_3 y7_4 z12.1 z12.2 e13) [1, 2, 3, 4, 5, 6, 7, 8, 9, 10, 11] [0] rfl rfl (by decide +kernel) rfl rfl rfl ⟨rfl, rfl⟩ ⟨by decide, by decide⟩ (Nat.le_of_ble_eq_true rfl) ⟨by decide, by decide⟩ rfl (fun v w' hp => ?_)
                obtain ⟨rfl, rfl⟩ := hp
                refine J.sub (ws' := (rkW D aθ (aρ 0) pθ_spare pθ_saved pθ_text θ ++ rmW D aρ z12.2)) [0, 1, 2, 3, 4, 5, 6, 7, 8, 9, 10, 11] rfl (by decide +kernel) ?_
                refine r_if_ne h 76 dX3_bestChange_63 (by decide) (fun c14 => ?_) (fun c14 => ?_)
                · replace hF := o_neg c14 hF
                  refine r_iinc (lv' := [(4, .int (y7_4 + 1)), (5, .int z9.1), (3, .int y4_3), (2, .int y7_2), (1, .int y7_1), (0, .ref aθ)]) h 1 rfl (congrArg (fun z => y7_4 + z) (by decide : Int32.ofInt 1 = 1)) dX3_bestChange_76 (by decide) rfl ?_
                  refine r_goto h 29 dX3_bestChange_79 (by decide) ?_
                  exact J.loc (lv' := [(4, .int (y7_4 + 1)), (3, .int y4_3), (2, .int y7_2), (1, .int y7_1), (0, .ref aθ)]) [0, 2, 3, 4, 5] rfl (ih (y7_4 + 1) y7_2 y7_1 z12.2 hF)
                · replace hF := o_pos c14 hF
                  refine r_iconst (v := 3) h dX3_bestChange_66 (by decide) ?_
                  refine r_iload_n h 2 rfl rfl dX3_bestChange_67 ?_
                  refine r_imul h dX3_bestChange_68 ?_
                  refine r_iload h 1 rfl dX3_bestChange_69 ?_
                  refine r_iadd h dX3_bestChange_71 ?_
                  refine r_istore_n (lv' := [(1, .int (((3 : Int32) * y4_3) + y7_4)), (5, .int z9.1), (4, .int y7_4), (3, .int y4_3), (2, .int y7_2), (0, .ref aθ)]) h rfl dX3_bestChange_72 (by decide) rfl ?_
                  refine r_iload h 1 rfl dX3_bestChange_73 ?_
                  refine r_istore_n (lv' := [(2, .int z9.1), (1, .int (((3 : Int32) * y4_3) + y7_4)), (5, .int z9.1), (4, .int y7_4), (3, .int y4_3), (0, .ref aθ)]) h rfl dX3_bestChange_75 (by decide) rfl ?_
                  refine r_iinc (lv' := [(4, .int (y7_4 + 1)), (2, .int z9.1), (1, .int (((3 : Int32) * y4_3) + y7_4)), (5, .int z9.1), (3, .int y4_3), (0, .ref aθ)]) h 3 rfl (congrArg (fun z => y7_4 + z) (by decide : Int32.ofInt 1 = 1)) dX3_bestChange_76 (by decide) rfl ?_
                  refine r_goto h 29 dX3_bestChange_79 (by decide) ?_
                  exact J.loc (lv' := [(4, .int (y7_4 + 1)), (3, .int y4_3), (2, .int z9.1), (1, .int (((3 : Int32) * y4_3) + y7_4)), (0, .ref aθ)]) [0, 4, 1, 2, 5] rfl (ih (y7_4 + 1) z9.1 (((3 : Int32) * y4_3) + y7_4) z12.2 hF)
        refine hL29 _ (fun y7_4 y7_2 y7_1 s7_ρ hF => ?_) _ (0 : Int32) y4_2 y4_1 s4_ρ hF
        refine r_iinc (lv' := [(3, .int (y4_3 + 1)), (4, .int y7_4), (2, .int y7_2), (1, .int y7_1), (0, .ref aθ)]) h 1 rfl (congrArg (fun z => y4_3 + z) (by decide : Int32.ofInt 1 = 1)) dX3_bestChange_82 (by decide) rfl ?_
        refine r_goto h 12 dX3_bestChange_85 (by decide) ?_
        exact J.loc (lv' := [(3, .int (y4_3 + 1)), (2, .int y7_2), (1, .int y7_1), (0, .ref aθ)]) [0, 2, 3, 4] rfl (ih (y4_3 + 1) y7_2 y7_1 s7_ρ hF)
  refine hL12 _ (fun y4_3 y4_2 y4_1 s4_ρ hF => ?_) _ (0 : Int32) z1 (-1 : Int32) ρ hF
  refine r_iload_n h 2 rfl rfl dX3_bestChange_88 ?_
  cases hF
  exact r_iret h hr dX3_bestChange_89 ⟨rfl, rfl⟩

def FX3_backable_L13  (K : Int32 → RS → Option (Int32 × RS)) : Nat → Int32 → RS → Option (Int32 × RS)
  | 0, _, _ => none
  | n + 1, y4_1, s4_π =>
  if (20 : Int32) ≤ y4_1 then
  (K y4_1 s4_π)
else
  ((FX1_whyNotBackOut s4_π).bind fun z6 =>
  if z6.1 = 0 then
  ((FX1_doBackOut z6.2).bind fun z9 =>
  FX3_backable_L13 K n (y4_1 + 1) z9)
else
  (K y4_1 z6.2))
def FX3_backable (θ : Int32) (ρ : RS) (π : RS) : Option (Int32 × RS) :=
  (FX1_copyFrom π ρ).bind fun z1 =>
  FX3_backable_L13  (fun (y4_1 : Int32) (s4_π : RS) =>
  some (y4_1, s4_π)) FU (0 : Int32) z1
abbrev rmX3_backable : Room := { frames := 6, cells := 0, slots := 0, locals := 143 }
set_option maxHeartbeats 4000000 in
set_option maxRecDepth 100000 in
theorem CX3_backable (l : Launch) (D : va_G) (aθ : Nat) (pθ_saved : Nat) (pθ_text : Nat) (aρ : Nat → Nat) (aπ : Nat → Nat) (θ : Int32) (ρ : RS) (π : RS) (r0 : Int32) (π0 : RS) (hF : FX3_backable θ ρ π = some (r0, π0)) : Ct l D yX3_backable cX3_backable 2 (some .int) rmX3_backable 0 0 [.ref aθ] (rkW D aθ (aρ 0) (aπ 0) pθ_saved pθ_text θ ++ rmW D aρ ρ ++ rmW D aπ π) (fun v w => v = some (.int r0) ∧ w = (rkW D aθ (aρ 0) (aπ 0) pθ_saved pθ_text θ ++ rmW D aρ ρ ++ rmW D aπ π0)) := by
  refine Ct.of (own := RX3) (lv := [(0, .ref aθ)]) (by decide +kernel) rfl (Nat.le_of_ble_eq_true rfl) rfl (fun X h hr => ?_)
  unfold FX3_backable at hF
  refine r_aload_n h 0 rfl rfl dX3_backable_0 ?_
  refine r_get h fl_X3_16 0 rfl rfl dX3_backable_1 ?_
  refine r_aload_n h 0 rfl rfl dX3_backable_4 ?_
  refine r_get h fl_X3_12 0 rfl rfl dX3_backable_5 ?_
  obtain ⟨z1, e2, hF⟩ := o_bind hF
  refine r_callV (q0 := 0) (wr := w_pk (rkW D aθ (aρ 0) (aπ 0) pθ_saved pθ_text θ ++ rmW D aρ ρ ++ rmW D aπ π) [0]) (rest := []) h hd_X1_copyFrom wm_213 dX3_backable_8 (CX1_copyFrom l D aπ aρ π ρ z1 e2) [12, 13, 14, 15, 16, 17, 18, 19, 20, 21, 22, 1, 2, 3, 4, 5, 6, 7, 8, 9, 10, 11] [0] rfl rfl (by decide +kernel) rfl rfl rfl ⟨rfl, rfl⟩ ⟨by decide, by decide⟩ (Nat.le_of_ble_eq_true rfl) ⟨by decide, by decide⟩ rfl (fun v w' hp => ?_)
  obtain ⟨rfl, rfl⟩ := hp
  refine J.sub (ws' := (rkW D aθ (aρ 0) (aπ 0) pθ_saved pθ_text θ ++ rmW D aρ ρ ++ rmW D aπ z1)) [0, 12, 13, 14, 15, 16, 17, 18, 19, 20, 21, 22, 1, 2, 3, 4, 5, 6, 7, 8, 9, 10, 11] rfl (by decide +kernel) ?_
  refine r_iconst (v := 0) h dX3_backable_11 (by decide) ?_
  refine r_istore_n (lv' := [(1, .int (0 : Int32)), (0, .ref aθ)]) h rfl dX3_backable_12 (by decide) rfl ?_
  have hL13 : ∀ (K : Int32 → RS → Option (Int32 × RS)) (hK : ∀ (y4_1 : Int32) (s4_π : RS), K y4_1 s4_π = some (r0, π0) → J X l rmX3_backable D 2 0 0 ((rkW D aθ (aρ 0) (aπ 0) pθ_saved pθ_text θ ++ rmW D aρ ρ ++ rmW D aπ s4_π)) [(1, .int y4_1), (0, .ref aθ)] 42 []) (N : Nat), ∀ (y4_1 : Int32) (s4_π : RS), FX3_backable_L13  K N y4_1 s4_π = some (r0, π0) → J X l rmX3_backable D 2 0 0 ((rkW D aθ (aρ 0) (aπ 0) pθ_saved pθ_text θ ++ rmW D aρ ρ ++ rmW D aπ s4_π)) [(1, .int y4_1), (0, .ref aθ)] 13 [] := by
    intro K hK N
    induction N with
    | zero =>
      intro y4_1 s4_π hF
      cases hF
    | succ N ih =>
      intro y4_1 s4_π hF
      rw [FX3_backable_L13] at hF
      refine r_iload_n h 0 rfl rfl dX3_backable_13 ?_
      refine r_bipush (v := 20) h dX3_backable_14 (by decide) ?_
      refine r_icmp_ge h 42 dX3_backable_16 (by decide) (fun c5 => ?_) (fun c5 => ?_)
      · replace hF := o_pos c5 hF
        exact J.loc (lv' := [(1, .int y4_1), (0, .ref aθ)]) [0, 1] rfl (hK y4_1 s4_π hF)
      · replace hF := o_neg c5 hF
        refine r_aload_n h 1 rfl rfl dX3_backable_19 ?_
        refine r_get h fl_X3_16 0 rfl rfl dX3_backable_20 ?_
        obtain ⟨z6, e7, hF⟩ := o_bind hF
        refine r_callV (q0 := 0) (wr := w_pk (rkW D aθ (aρ 0) (aπ 0) pθ_saved pθ_text θ ++ rmW D aρ ρ ++ rmW D aπ s4_π) [0, 1, 2, 3, 4, 5, 6, 7, 8, 9, 10, 11]) (rest := []) h hd_X1_whyNotBackOut wm_140 dX3_backable_23 (CX1_whyNotBackOut l D aπ s4_π z6.1 z6.2 e7) [12, 13, 14, 15, 16, 17, 18, 19, 20, 21, 22] [0, 1, 2, 3, 4, 5, 6, 7, 8, 9, 10, 11] rfl rfl (by decide +kernel) rfl rfl rfl ⟨rfl, rfl⟩ ⟨by decide, by decide⟩ (Nat.le_of_ble_eq_true rfl) ⟨by decide, by decide⟩ rfl (fun v w' hp => ?_)
        obtain ⟨rfl, rfl⟩ := hp
        refine J.sub (ws' := (rkW D aθ (aρ 0) (aπ 0) pθ_saved pθ_text θ ++ rmW D aρ ρ ++ rmW D aπ z6.2)) [0, 1, 2, 3, 4, 5, 6, 7, 8, 9, 10, 11, 12, 13, 14, 15, 16, 17, 18, 19, 20, 21, 22] rfl (by decide +kernel) ?_
        refine r_if_ne h 42 dX3_backable_26 (by decide) (fun c8 => ?_) (fun c8 => ?_)
        · replace hF := o_neg c8 hF
          exact J.loc (lv' := [(1, .int y4_1), (0, .ref aθ)]) [0, 1] rfl (hK y4_1 z6.2 hF)
        · replace hF := o_pos c8 hF
          refine r_aload_n h 1 rfl rfl dX3_backable_29 ?_
          refine r_get h fl_X3_16 0 rfl rfl dX3_backable_30 ?_
          obtain ⟨z9, e10, hF⟩ := o_bind hF
          refine r_callV (q0 := 0) (wr := w_pk (rkW D aθ (aρ 0) (aπ 0) pθ_saved pθ_text θ ++ rmW D aρ ρ ++ rmW D aπ z6.2) [0, 1, 2, 3, 4, 5, 6, 7, 8, 9, 10, 11]) (rest := []) h hd_X1_doBackOut wm_225 dX3_backable_33 (CX1_doBackOut l D aπ z6.2 z9 e10) [12, 13, 14, 15, 16, 17, 18, 19, 20, 21, 22] [0, 1, 2, 3, 4, 5, 6, 7, 8, 9, 10, 11] rfl rfl (by decide +kernel) rfl rfl rfl ⟨rfl, rfl⟩ ⟨by decide, by decide⟩ (Nat.le_of_ble_eq_true rfl) ⟨by decide, by decide⟩ rfl (fun v w' hp => ?_)
          obtain ⟨rfl, rfl⟩ := hp
          refine J.sub (ws' := (rkW D aθ (aρ 0) (aπ 0) pθ_saved pθ_text θ ++ rmW D aρ ρ ++ rmW D aπ z9)) [0, 1, 2, 3, 4, 5, 6, 7, 8, 9, 10, 11, 12, 13, 14, 15, 16, 17, 18, 19, 20, 21, 22] rfl (by decide +kernel) ?_
          refine r_iinc (lv' := [(1, .int (y4_1 + 1)), (0, .ref aθ)]) h 0 rfl (congrArg (fun z => y4_1 + z) (by decide : Int32.ofInt 1 = 1)) dX3_backable_36 (by decide) rfl ?_
          refine r_goto h 13 dX3_backable_39 (by decide) ?_
          exact J.loc (lv' := [(1, .int (y4_1 + 1)), (0, .ref aθ)]) [0, 1] rfl (ih (y4_1 + 1) z9 hF)
  refine hL13 _ (fun y4_1 s4_π hF => ?_) _ (0 : Int32) z1 hF
  refine r_iload_n h 0 rfl rfl dX3_backable_42 ?_
  cases hF
  exact r_iret h hr dX3_backable_43 ⟨rfl, rfl⟩

def FX3_taken_L4 (ρ : RS) (K : Int32 → Int32 → Option (UInt64)) : Nat → Int32 → Int32 → Option (UInt64)
  | 0, _, _ => none
  | n + 1, y1_2, y1_1 =>
  if (6 : Int32) ≤ y1_2 then
  (K y1_2 y1_1)
else
  ((FX1_slotsTakenIn ρ y1_2).bind fun z3 =>
  FX3_taken_L4 ρ K n (y1_2 + 1) (y1_1 + z3))
def FX3_taken (θ : Int32) (ρ : RS) : Option (UInt64) :=
  FX3_taken_L4 ρ (fun (y1_2 : Int32) (y1_1 : Int32) =>
  gd ((FP.ddiv (FP.i2d y1_1) (4633641066610819072 : UInt64)) &&& 0x7fffffffffffffff ≤ 0x7ff0000000000000) (
  some (FP.ddiv (FP.i2d y1_1) (4633641066610819072 : UInt64)))) FU (0 : Int32) (0 : Int32)
abbrev rmX3_taken : Room := { frames := 3, cells := 0, slots := 0, locals := 67 }
set_option maxHeartbeats 4000000 in
set_option maxRecDepth 100000 in
theorem CX3_taken (l : Launch) (D : va_G) (aθ : Nat) (pθ_spare : Nat) (pθ_saved : Nat) (pθ_text : Nat) (aρ : Nat → Nat) (θ : Int32) (ρ : RS) (r0 : UInt64) (hF : FX3_taken θ ρ = some r0) : Ct l D yX3_taken cX3_taken 3 (some .double) rmX3_taken 0 0 [.ref aθ] (rkW D aθ (aρ 0) pθ_spare pθ_saved pθ_text θ ++ rmW D aρ ρ) (fun v w => v = some (.double r0) ∧ w = (rkW D aθ (aρ 0) pθ_spare pθ_saved pθ_text θ ++ rmW D aρ ρ)) := by
  refine Ct.of (own := RX3) (lv := [(0, .ref aθ)]) (by decide +kernel) rfl (Nat.le_of_ble_eq_true rfl) rfl (fun X h hr => ?_)
  unfold FX3_taken at hF
  refine r_iconst (v := 0) h dX3_taken_0 (by decide) ?_
  refine r_istore_n (lv' := [(1, .int (0 : Int32)), (0, .ref aθ)]) h rfl dX3_taken_1 (by decide) rfl ?_
  refine r_iconst (v := 0) h dX3_taken_2 (by decide) ?_
  refine r_istore_n (lv' := [(2, .int (0 : Int32)), (1, .int (0 : Int32)), (0, .ref aθ)]) h rfl dX3_taken_3 (by decide) rfl ?_
  have hL4 : ∀ (K : Int32 → Int32 → Option (UInt64)) (hK : ∀ (y1_2 : Int32) (y1_1 : Int32), K y1_2 y1_1 = some r0 → J X l rmX3_taken D 3 0 0 ((rkW D aθ (aρ 0) pθ_spare pθ_saved pθ_text θ ++ rmW D aρ ρ)) [(2, .int y1_2), (1, .int y1_1), (0, .ref aθ)] 27 []) (N : Nat), ∀ (y1_2 : Int32) (y1_1 : Int32), FX3_taken_L4 ρ K N y1_2 y1_1 = some r0 → J X l rmX3_taken D 3 0 0 ((rkW D aθ (aρ 0) pθ_spare pθ_saved pθ_text θ ++ rmW D aρ ρ)) [(2, .int y1_2), (1, .int y1_1), (0, .ref aθ)] 4 [] := by
    intro K hK N
    induction N with
    | zero =>
      intro y1_2 y1_1 hF
      cases hF
    | succ N ih =>
      intro y1_2 y1_1 hF
      rw [FX3_taken_L4] at hF
      refine r_iload_n h 0 rfl rfl dX3_taken_4 ?_
      refine r_bipush (v := 6) h dX3_taken_5 (by decide) ?_
      refine r_icmp_ge h 27 dX3_taken_7 (by decide) (fun c2 => ?_) (fun c2 => ?_)
      · replace hF := o_pos c2 hF
        exact J.loc (lv' := [(2, .int y1_2), (1, .int y1_1), (0, .ref aθ)]) [0, 1, 2] rfl (hK y1_2 y1_1 hF)
      · replace hF := o_neg c2 hF
        refine r_iload_n h 1 rfl rfl dX3_taken_10 ?_
        refine r_aload_n h 2 rfl rfl dX3_taken_11 ?_
        refine r_get h fl_X3_12 0 rfl rfl dX3_taken_12 ?_
        refine r_iload_n h 0 rfl rfl dX3_taken_15 ?_
        obtain ⟨z3, e4, hF⟩ := o_bind hF
        refine r_callV (q0 := 0) (wr := w_pk (rkW D aθ (aρ 0) pθ_spare pθ_saved pθ_text θ ++ rmW D aρ ρ) [0]) (rest := [.int y1_1]) h hd_X1_slotsTakenIn wm_258 dX3_taken_16 (CX1_slotsTakenIn l D aρ ρ y1_2 z3 e4) [1, 2, 3, 4, 5, 6, 7, 8, 9, 10, 11] [0] rfl rfl (by decide +kernel) rfl rfl rfl ⟨rfl, rfl⟩ ⟨by decide, by decide⟩ (Nat.le_of_ble_eq_true rfl) ⟨by decide, by decide⟩ rfl (fun v w' hp => ?_)
        obtain ⟨rfl, rfl⟩ := hp
        refine J.sub (ws' := (rkW D aθ (aρ 0) pθ_spare pθ_saved pθ_text θ ++ rmW D aρ ρ)) [0, 1, 2, 3, 4, 5, 6, 7, 8, 9, 10, 11] rfl (by decide +kernel) ?_
        refine r_iadd h dX3_taken_19 ?_
        refine r_istore_n (lv' := [(1, .int (y1_1 + z3)), (2, .int y1_2), (0, .ref aθ)]) h rfl dX3_taken_20 (by decide) rfl ?_
        refine r_iinc (lv' := [(2, .int (y1_2 + 1)), (1, .int (y1_1 + z3)), (0, .ref aθ)]) h 1 rfl (congrArg (fun z => y1_2 + z) (by decide : Int32.ofInt 1 = 1)) dX3_taken_21 (by decide) rfl ?_
        refine r_goto h 4 dX3_taken_24 (by decide) ?_
        exact J.loc (lv' := [(2, .int (y1_2 + 1)), (1, .int (y1_1 + z3)), (0, .ref aθ)]) [0, 1, 2] rfl (ih (y1_2 + 1) (y1_1 + z3) hF)
  refine hL4 _ (fun y1_2 y1_1 hF => ?_) _ (0 : Int32) (0 : Int32) hF
  refine r_iload_n h 1 rfl rfl dX3_taken_27 ?_
  refine r_i2d h dX3_taken_28 ?_
  refine r_ldc2d h wm_262 dX3_taken_29 ?_
  obtain ⟨hN, hF⟩ := o_gd hF
  refine r_ddiv h hN dX3_taken_32 ?_
  cases hF
  exact r_dret h hr dX3_taken_33 ⟨rfl, rfl⟩

def FX3_append (θ : Int32) (τ : TXS) (x1 : Int32) : Option (Nat ⊕ (Int32 × TXS)) :=
  bX (FX3_checkRange x1 (0 : Int32) (127 : Int32)) fun z1 =>
  if τ.2.2.1 < (90 : Int32) then
  (gd (¬ (τ.2.2.1 < 0 ∨ 90 ≤ (τ.2.2.1).toNatClampNeg)) (
  nmv (upd τ.1 (τ.2.2.1).toNatClampNeg x1) fun fw4 =>
  some (.inr (τ.2.2.1 + (1 : Int32), (fw4, τ.2.1, τ.2.2.1 + (1 : Int32), τ.2.2.2.1, τ.2.2.2.2.1, τ.2.2.2.2.2)))))
else
  (some (.inl 3))
abbrev rmX3_append : Room := { frames := 1, cells := 0, slots := 0, locals := 22 }
set_option maxHeartbeats 4000000 in
set_option maxRecDepth 100000 in
theorem CX3_append (l : Launch) (D : va_G) (aθ : Nat) (pθ_room : Nat) (pθ_spare : Nat) (pθ_saved : Nat) (aτ : Nat → Nat) (θ : Int32) (τ : TXS) (x1 : Int32) (r0 : Int32) (τ0 : TXS) (hF : FX3_append θ τ x1 = some (.inr (r0, τ0))) : Ct l D yX3_append cX3_append 2 (some .int) rmX3_append 0 0 [.ref aθ, .int x1] (rkW D aθ pθ_room pθ_spare pθ_saved (aτ 0) θ ++ txW D aτ τ) (fun v w => v = some (.int r0) ∧ w = (rkW D aθ pθ_room pθ_spare pθ_saved (aτ 0) θ ++ txW D aτ τ0)) := by
  refine Ct.of (own := RX3) (lv := [(0, .ref aθ), (1, .int x1)]) (by decide +kernel) rfl (Nat.le_of_ble_eq_true rfl) rfl (fun X h hr => ?_)
  unfold FX3_append at hF
  refine r_iload_n h 1 rfl rfl dX3_append_0 ?_
  refine r_iconst (v := 0) h dX3_append_1 (by decide) ?_
  refine r_bipush (v := 127) h dX3_append_2 (by decide) ?_
  rcases o_bX hF with ⟨k_z1, e2, hF⟩ | ⟨z1, e2, hF⟩
  · cases hF
  · refine r_callSv (rest := []) h hd_X3_checkRange wm_360 dX3_append_4 (CX3_checkRange l D x1 (0 : Int32) (127 : Int32) e2) rfl ⟨rfl, rfl⟩ ⟨by decide, by decide⟩ (Nat.le_of_ble_eq_true rfl) ⟨by decide, by decide⟩ rfl ?_
    refine r_aload_n h 0 rfl rfl dX3_append_7 ?_
    refine r_get h fl_X3_30 0 rfl rfl dX3_append_8 ?_
    refine r_get h fl_X3_212 1 rfl rfl dX3_append_11 ?_
    refine r_bipush (v := 90) h dX3_append_14 (by decide) ?_
    refine r_icmp_lt h 29 dX3_append_16 (by decide) (fun c3 => ?_) (fun c3 => ?_)
    · replace hF := o_pos c3 hF
      refine r_aload_n h 0 rfl rfl dX3_append_29 ?_
      refine r_get h fl_X3_30 0 rfl rfl dX3_append_30 ?_
      refine r_get h fl_X3_217 1 rfl rfl dX3_append_33 ?_
      refine r_aload_n h 0 rfl rfl dX3_append_36 ?_
      refine r_get h fl_X3_30 0 rfl rfl dX3_append_37 ?_
      refine r_get h fl_X3_212 1 rfl rfl dX3_append_40 ?_
      refine r_iload_n h 1 rfl rfl dX3_append_43 ?_
      obtain ⟨hN, hF⟩ := o_gd hF
      obtain ⟨fw4, hfw4, hF⟩ := o_nm hF
      refine r_iast (ws' := (rkW D aθ pθ_room pθ_spare pθ_saved (aτ 0) θ ++ txW D aτ (fw4, τ.2.1, τ.2.2.1, τ.2.2.2.1, τ.2.2.2.2.1, τ.2.2.2.2.2))) h 2 rfl hN (by rw [hfw4]; rfl) dX3_append_44 ?_
      refine r_aload_n h 0 rfl rfl dX3_append_45 ?_
      refine r_get h fl_X3_30 0 rfl rfl dX3_append_46 ?_
      refine r_dup h rfl dX3_append_49 ?_
      refine r_get h fl_X3_212 1 rfl rfl dX3_append_50 ?_
      refine r_iconst (v := 1) h dX3_append_53 (by decide) ?_
      refine r_iadd h dX3_append_54 ?_
      refine r_put (ws' := (rkW D aθ pθ_room pθ_spare pθ_saved (aτ 0) θ ++ txW D aτ (fw4, τ.2.1, τ.2.2.1 + (1 : Int32), τ.2.2.2.1, τ.2.2.2.2.1, τ.2.2.2.2.2))) h fp_X3_212 1 rfl (Nat.le_of_ble_eq_true rfl) rfl rfl rfl dX3_append_55 ?_
      refine r_aload_n h 0 rfl rfl dX3_append_58 ?_
      refine r_get h fl_X3_30 0 rfl rfl dX3_append_59 ?_
      refine r_get h fl_X3_212 1 rfl rfl dX3_append_62 ?_
      cases hF
      exact r_iret h hr dX3_append_65 ⟨rfl, rfl⟩
    · replace hF := o_neg c3 hF
      cases hF

abbrev rmTX3_append : Room := { frames := 7, cells := 1, slots := 6, locals := 112 }
set_option maxHeartbeats 4000000 in
set_option maxRecDepth 100000 in
theorem TX3_append (l : Launch) (hl0 : l.stackTraces = false) (D : va_G) (aθ : Nat) (pθ_room : Nat) (pθ_spare : Nat) (pθ_saved : Nat) (aτ : Nat → Nat) (θ : Int32) (τ : TXS) (x1 : Int32) (k0 : Nat) (hF : FX3_append θ τ x1 = some (.inl k0)) : CtT l D yX3_append cX3_append 2 (some .int) rmTX3_append 1 6 [.ref aθ, .int x1] (rkW D aθ pθ_room pθ_spare pθ_saved (aτ 0) θ ++ txW D aτ τ) (exn k0) := by
  refine CtT.of (own := RX3) (lv := [(0, .ref aθ), (1, .int x1)]) (by decide +kernel) rfl (Nat.le_of_ble_eq_true rfl) rfl (fun X h hx ht => ?_)
  unfold FX3_append at hF
  refine r_iload_n h 1 rfl rfl dX3_append_0 ?_
  refine r_iconst (v := 0) h dX3_append_1 (by decide) ?_
  refine r_bipush (v := 127) h dX3_append_2 (by decide) ?_
  rcases o_bX hF with ⟨k_z1, e2, hF⟩ | ⟨z1, e2, hF⟩
  · cases hF
    exact r_callTSp (rest := []) h hx ht hd_X3_checkRange wm_360 dX3_append_4 (TX3_checkRange l hl0 D x1 (0 : Int32) (127 : Int32) _ e2) rfl ⟨rfl, rfl⟩ ⟨by decide, by decide⟩ (Nat.le_of_ble_eq_true rfl) ⟨by decide, by decide⟩ ⟨by decide, by decide⟩ rfl
  · refine r_callSv (rest := []) h hd_X3_checkRange wm_360 dX3_append_4 (CX3_checkRange l D x1 (0 : Int32) (127 : Int32) e2) rfl ⟨rfl, rfl⟩ ⟨by decide, by decide⟩ (Nat.le_of_ble_eq_true rfl) ⟨by decide, by decide⟩ rfl ?_
    refine r_aload_n h 0 rfl rfl dX3_append_7 ?_
    refine r_get h fl_X3_30 0 rfl rfl dX3_append_8 ?_
    refine r_get h fl_X3_212 1 rfl rfl dX3_append_11 ?_
    refine r_bipush (v := 90) h dX3_append_14 (by decide) ?_
    refine r_icmp_lt h 29 dX3_append_16 (by decide) (fun c3 => ?_) (fun c3 => ?_)
    · replace hF := o_pos c3 hF
      refine r_aload_n h 0 rfl rfl dX3_append_29 ?_
      refine r_get h fl_X3_30 0 rfl rfl dX3_append_30 ?_
      refine r_get h fl_X3_217 1 rfl rfl dX3_append_33 ?_
      refine r_aload_n h 0 rfl rfl dX3_append_36 ?_
      refine r_get h fl_X3_30 0 rfl rfl dX3_append_37 ?_
      refine r_get h fl_X3_212 1 rfl rfl dX3_append_40 ?_
      refine r_iload_n h 1 rfl rfl dX3_append_43 ?_
      obtain ⟨hN, hF⟩ := o_gd hF
      obtain ⟨fw4, hfw4, hF⟩ := o_nm hF
      refine r_iast (ws' := (rkW D aθ pθ_room pθ_spare pθ_saved (aτ 0) θ ++ txW D aτ (fw4, τ.2.1, τ.2.2.1, τ.2.2.2.1, τ.2.2.2.2.1, τ.2.2.2.2.2))) h 2 rfl hN (by rw [hfw4]; rfl) dX3_append_44 ?_
      refine r_aload_n h 0 rfl rfl dX3_append_45 ?_
      refine r_get h fl_X3_30 0 rfl rfl dX3_append_46 ?_
      refine r_dup h rfl dX3_append_49 ?_
      refine r_get h fl_X3_212 1 rfl rfl dX3_append_50 ?_
      refine r_iconst (v := 1) h dX3_append_53 (by decide) ?_
      refine r_iadd h dX3_append_54 ?_
      refine r_put (ws' := (rkW D aθ pθ_room pθ_spare pθ_saved (aτ 0) θ ++ txW D aτ (fw4, τ.2.1, τ.2.2.1 + (1 : Int32), τ.2.2.2.1, τ.2.2.2.2.1, τ.2.2.2.2.2))) h fp_X3_212 1 rfl (Nat.le_of_ble_eq_true rfl) rfl rfl rfl dX3_append_55 ?_
      refine r_aload_n h 0 rfl rfl dX3_append_58 ?_
      refine r_get h fl_X3_30 0 rfl rfl dX3_append_59 ?_
      refine r_get h fl_X3_212 1 rfl rfl dX3_append_62 ?_
      cases hF
    · replace hF := o_neg c3 hF
      cases hF
      exact r_throw (E := exn 3) (text := "the text is full") h hx ht hl0 thf_3 (by decide +kernel) dX3_append_19 dX3_append_22 dX3_append_23 dX3_append_25 dX3_append_28 ⟨by decide, Nat.le_of_ble_eq_true rfl, by decide, by decide⟩ ⟨by decide, by decide⟩

def FX3_clearText (θ : Int32) (τ : TXS) : Option (Int32 × TXS) :=
  some (τ.2.2.1, (τ.1, τ.2.1, (0 : Int32), τ.2.2.2.1, τ.2.2.2.2.1, τ.2.2.2.2.2))
abbrev rmX3_clearText : Room := { frames := 0, cells := 0, slots := 0, locals := 0 }
set_option maxHeartbeats 4000000 in
set_option maxRecDepth 100000 in
theorem CX3_clearText (l : Launch) (D : va_G) (aθ : Nat) (pθ_room : Nat) (pθ_spare : Nat) (pθ_saved : Nat) (aτ : Nat → Nat) (θ : Int32) (τ : TXS) (r0 : Int32) (τ0 : TXS) (hF : FX3_clearText θ τ = some (r0, τ0)) : Ct l D yX3_clearText cX3_clearText 2 (some .int) rmX3_clearText 0 0 [.ref aθ] (rkW D aθ pθ_room pθ_spare pθ_saved (aτ 0) θ ++ txW D aτ τ) (fun v w => v = some (.int r0) ∧ w = (rkW D aθ pθ_room pθ_spare pθ_saved (aτ 0) θ ++ txW D aτ τ0)) := by
  refine Ct.of (own := RX3) (lv := [(0, .ref aθ)]) (by decide +kernel) rfl (Nat.le_of_ble_eq_true rfl) rfl (fun X h hr => ?_)
  unfold FX3_clearText at hF
  refine r_aload_n h 0 rfl rfl dX3_clearText_0 ?_
  refine r_get h fl_X3_30 0 rfl rfl dX3_clearText_1 ?_
  refine r_get h fl_X3_212 1 rfl rfl dX3_clearText_4 ?_
  refine r_istore_n (lv' := [(1, .int τ.2.2.1), (0, .ref aθ)]) h rfl dX3_clearText_7 (by decide) rfl ?_
  refine r_aload_n h 1 rfl rfl dX3_clearText_8 ?_
  refine r_get h fl_X3_30 0 rfl rfl dX3_clearText_9 ?_
  refine r_iconst (v := 0) h dX3_clearText_12 (by decide) ?_
  refine r_put (ws' := (rkW D aθ pθ_room pθ_spare pθ_saved (aτ 0) θ ++ txW D aτ (τ.1, τ.2.1, (0 : Int32), τ.2.2.2.1, τ.2.2.2.2.1, τ.2.2.2.2.2))) h fp_X3_212 1 rfl (Nat.le_of_ble_eq_true rfl) rfl rfl rfl dX3_clearText_13 ?_
  refine r_iload_n h 0 rfl rfl dX3_clearText_16 ?_
  cases hF
  exact r_iret h hr dX3_clearText_17 ⟨rfl, rfl⟩

def FX3_mix (x0 : Int64) (x2 : Int32) : Option (Int64) :=
  some (((31 : Int64) * x0) + x2.toInt64)
abbrev rmX3_mix : Room := { frames := 0, cells := 0, slots := 0, locals := 0 }
set_option maxHeartbeats 4000000 in
set_option maxRecDepth 100000 in
theorem CX3_mix (l : Launch) (D : va_G)  (x0 : Int64) (x2 : Int32) (r0 : Int64) (hF : FX3_mix x0 x2 = some r0) : Ct l D yX3_mix cX3_mix 3 (some .long) rmX3_mix 0 0 [.long x0, .int x2] [] (fun v w => v = some (.long r0) ∧ w = []) := by
  refine Ct.of (own := RX3) (lv := [(0, .long x0), (2, .int x2)]) (by decide +kernel) rfl (Nat.le_of_ble_eq_true rfl) rfl (fun X h hr => ?_)
  unfold FX3_mix at hF
  refine r_ldc2 h wm_355 dX3_mix_0 ?_
  refine r_lload_n h 0 rfl rfl dX3_mix_3 ?_
  refine r_lmul h dX3_mix_4 ?_
  refine r_iload_n h 1 rfl rfl dX3_mix_5 ?_
  refine r_i2l h dX3_mix_6 ?_
  refine r_ladd h dX3_mix_7 ?_
  cases hF
  exact r_lret h hr dX3_mix_8 ⟨rfl, rfl⟩

def FX3_mixRack_L6 (θ : Int32) (ρ : RS) (x3 : Int32) (K : Int32 → Int64 → Option (Int64)) : Nat → Int32 → Int64 → Option (Int64)
  | 0, _, _ => none
  | n + 1, y1_6, y1_4 =>
  if (7 : Int32) < y1_6 then
  (K y1_6 y1_4)
else
  (bN (FX3_rack θ ρ x3 y1_6) fun z3 =>
  (FX3_mix y1_4 z3).bind fun z5 =>
  FX3_mixRack_L6 θ ρ x3 K n (y1_6 + 1) z5)
def FX3_mixRack_L36 (θ : Int32) (ρ : RS) (x3 : Int32) (K : Int32 → Int64 → Option (Int64)) : Nat → Int32 → Int64 → Option (Int64)
  | 0, _, _ => none
  | n + 1, y7_6, y7_4 =>
  if (10 : Int32) ≤ y7_6 then
  (K y7_6 y7_4)
else
  (bN (FX3_slot θ ρ x3 y7_6) fun z9 =>
  (FX3_mix y7_4 z9).bind fun z11 =>
  FX3_mixRack_L36 θ ρ x3 K n (y7_6 + 1) z11)
def FX3_mixRack (θ : Int32) (ρ : RS) (x1 : Int64) (x3 : Int32) : Option (Int64) :=
  FX3_mixRack_L6 θ ρ x3 (fun (y1_6 : Int32) (y1_4 : Int64) =>
  FX3_mixRack_L36 θ ρ x3 (fun (y7_6 : Int32) (y7_4 : Int64) =>
  some y7_4) FU (0 : Int32) y1_4) FU (0 : Int32) x1
abbrev rmX3_mixRack : Room := { frames := 6, cells := 0, slots := 0, locals := 138 }
set_option maxHeartbeats 4000000 in
set_option maxRecDepth 100000 in
theorem CX3_mixRack (l : Launch) (D : va_G) (aθ : Nat) (pθ_spare : Nat) (pθ_saved : Nat) (pθ_text : Nat) (aρ : Nat → Nat) (θ : Int32) (ρ : RS) (x1 : Int64) (x3 : Int32) (r0 : Int64) (hF : FX3_mixRack θ ρ x1 x3 = some r0) : Ct l D yX3_mixRack cX3_mixRack 7 (some .long) rmX3_mixRack 0 0 [.ref aθ, .long x1, .int x3] (rkW D aθ (aρ 0) pθ_spare pθ_saved pθ_text θ ++ rmW D aρ ρ) (fun v w => v = some (.long r0) ∧ w = (rkW D aθ (aρ 0) pθ_spare pθ_saved pθ_text θ ++ rmW D aρ ρ)) := by
  refine Ct.of (own := RX3) (lv := [(0, .ref aθ), (1, .long x1), (3, .int x3)]) (by decide +kernel) rfl (Nat.le_of_ble_eq_true rfl) rfl (fun X h hr => ?_)
  unfold FX3_mixRack at hF
  refine r_lload_n h 1 rfl rfl dX3_mixRack_0 ?_
  refine r_lstore (lv' := [(4, .long x1), (0, .ref aθ), (1, .long x1), (3, .int x3)]) h dX3_mixRack_1 (by decide) rfl ?_
  refine r_iconst (v := 0) h dX3_mixRack_3 (by decide) ?_
  refine r_istore (lv' := [(6, .int (0 : Int32)), (4, .long x1), (0, .ref aθ), (1, .long x1), (3, .int x3)]) h dX3_mixRack_4 (by decide) rfl ?_
  have hL6 : ∀ (K : Int32 → Int64 → Option (Int64)) (hK : ∀ (y1_6 : Int32) (y1_4 : Int64), K y1_6 y1_4 = some r0 → J X l rmX3_mixRack D 7 0 0 ((rkW D aθ (aρ 0) pθ_spare pθ_saved pθ_text θ ++ rmW D aρ ρ)) [(6, .int y1_6), (4, .long y1_4), (0, .ref aθ), (1, .long x1), (3, .int x3)] 33 []) (N : Nat), ∀ (y1_6 : Int32) (y1_4 : Int64), FX3_mixRack_L6 θ ρ x3 K N y1_6 y1_4 = some r0 → J X l rmX3_mixRack D 7 0 0 ((rkW D aθ (aρ 0) pθ_spare pθ_saved pθ_text θ ++ rmW D aρ ρ)) [(6, .int y1_6), (4, .long y1_4), (0, .ref aθ), (1, .long x1), (3, .int x3)] 6 [] := by
    intro K hK N
    induction N with
    | zero =>
      intro y1_6 y1_4 hF
      cases hF
    | succ N ih =>
      intro y1_6 y1_4 hF
      rw [FX3_mixRack_L6] at hF
      refine r_iload h 0 rfl dX3_mixRack_6 ?_
      refine r_bipush (v := 7) h dX3_mixRack_8 (by decide) ?_
      refine r_icmp_gt h 33 dX3_mixRack_10 (by decide) (fun c2 => ?_) (fun c2 => ?_)
      · replace hF := o_pos c2 hF
        exact J.loc (lv' := [(6, .int y1_6), (4, .long y1_4), (0, .ref aθ), (1, .long x1), (3, .int x3)]) [0, 1, 2, 3, 4] rfl (hK y1_6 y1_4 hF)
      · replace hF := o_neg c2 hF
        refine r_lload h 1 rfl dX3_mixRack_13 ?_
        refine r_aload_n h 2 rfl rfl dX3_mixRack_15 ?_
        refine r_iload_n h 4 rfl rfl dX3_mixRack_16 ?_
        refine r_iload h 0 rfl dX3_mixRack_17 ?_
        obtain ⟨z3, e4, hF⟩ := o_bN hF
        refine r_callVa (q0 := 0) (rest := [.long y1_4]) h hd_X3_rack wm_441 dX3_mixRack_19 (CX3_rack l D aθ pθ_spare pθ_saved pθ_text aρ θ ρ x3 y1_6 z3 e4) rfl rfl rfl ⟨rfl, rfl⟩ ⟨by decide, by decide⟩ (Nat.le_of_ble_eq_true rfl) ⟨by decide, by decide⟩ rfl (fun v w' hp => ?_)
        obtain ⟨rfl, rfl⟩ := hp
        obtain ⟨z5, e6, hF⟩ := o_bind hF
        refine r_callSp (rest := []) h hd_X3_mix wm_352 dX3_mixRack_22 (CX3_mix l D y1_4 z3 z5 e6) rfl ⟨rfl, rfl⟩ ⟨by decide, by decide⟩ (Nat.le_of_ble_eq_true rfl) ⟨by decide, by decide⟩ rfl ?_
        refine r_lstore (lv' := [(4, .long z5), (6, .int y1_6), (0, .ref aθ), (1, .long x1), (3, .int x3)]) h dX3_mixRack_25 (by decide) rfl ?_
        refine r_iinc (lv' := [(6, .int (y1_6 + 1)), (4, .long z5), (0, .ref aθ), (1, .long x1), (3, .int x3)]) h 1 rfl (congrArg (fun z => y1_6 + z) (by decide : Int32.ofInt 1 = 1)) dX3_mixRack_27 (by decide) rfl ?_
        refine r_goto h 6 dX3_mixRack_30 (by decide) ?_
        exact J.loc (lv' := [(6, .int (y1_6 + 1)), (4, .long z5), (0, .ref aθ), (1, .long x1), (3, .int x3)]) [0, 1, 2, 3, 4] rfl (ih (y1_6 + 1) z5 hF)
  refine hL6 _ (fun y1_6 y1_4 hF => ?_) _ (0 : Int32) x1 hF
  refine r_iconst (v := 0) h dX3_mixRack_33 (by decide) ?_
  refine r_istore (lv' := [(6, .int (0 : Int32)), (4, .long y1_4), (0, .ref aθ), (1, .long x1), (3, .int x3)]) h dX3_mixRack_34 (by decide) rfl ?_
  have hL36 : ∀ (K : Int32 → Int64 → Option (Int64)) (hK : ∀ (y7_6 : Int32) (y7_4 : Int64), K y7_6 y7_4 = some r0 → J X l rmX3_mixRack D 7 0 0 ((rkW D aθ (aρ 0) pθ_spare pθ_saved pθ_text θ ++ rmW D aρ ρ)) [(6, .int y7_6), (4, .long y7_4), (0, .ref aθ), (1, .long x1), (3, .int x3)] 63 []) (N : Nat), ∀ (y7_6 : Int32) (y7_4 : Int64), FX3_mixRack_L36 θ ρ x3 K N y7_6 y7_4 = some r0 → J X l rmX3_mixRack D 7 0 0 ((rkW D aθ (aρ 0) pθ_spare pθ_saved pθ_text θ ++ rmW D aρ ρ)) [(6, .int y7_6), (4, .long y7_4), (0, .ref aθ), (1, .long x1), (3, .int x3)] 36 [] := by
    intro K hK N
    induction N with
    | zero =>
      intro y7_6 y7_4 hF
      cases hF
    | succ N ih =>
      intro y7_6 y7_4 hF
      rw [FX3_mixRack_L36] at hF
      refine r_iload h 0 rfl dX3_mixRack_36 ?_
      refine r_bipush (v := 10) h dX3_mixRack_38 (by decide) ?_
      refine r_icmp_ge h 63 dX3_mixRack_40 (by decide) (fun c8 => ?_) (fun c8 => ?_)
      · replace hF := o_pos c8 hF
        exact J.loc (lv' := [(6, .int y7_6), (4, .long y7_4), (0, .ref aθ), (1, .long x1), (3, .int x3)]) [0, 1, 2, 3, 4] rfl (hK y7_6 y7_4 hF)
      · replace hF := o_neg c8 hF
        refine r_lload h 1 rfl dX3_mixRack_43 ?_
        refine r_aload_n h 2 rfl rfl dX3_mixRack_45 ?_
        refine r_iload_n h 4 rfl rfl dX3_mixRack_46 ?_
        refine r_iload h 0 rfl dX3_mixRack_47 ?_
        obtain ⟨z9, e10, hF⟩ := o_bN hF
        refine r_callVa (q0 := 0) (rest := [.long y7_4]) h hd_X3_slot wm_477 dX3_mixRack_49 (CX3_slot l D aθ pθ_spare pθ_saved pθ_text aρ θ ρ x3 y7_6 z9 e10) rfl rfl rfl ⟨rfl, rfl⟩ ⟨by decide, by decide⟩ (Nat.le_of_ble_eq_true rfl) ⟨by decide, by decide⟩ rfl (fun v w' hp => ?_)
        obtain ⟨rfl, rfl⟩ := hp
        obtain ⟨z11, e12, hF⟩ := o_bind hF
        refine r_callSp (rest := []) h hd_X3_mix wm_352 dX3_mixRack_52 (CX3_mix l D y7_4 z9 z11 e12) rfl ⟨rfl, rfl⟩ ⟨by decide, by decide⟩ (Nat.le_of_ble_eq_true rfl) ⟨by decide, by decide⟩ rfl ?_
        refine r_lstore (lv' := [(4, .long z11), (6, .int y7_6), (0, .ref aθ), (1, .long x1), (3, .int x3)]) h dX3_mixRack_55 (by decide) rfl ?_
        refine r_iinc (lv' := [(6, .int (y7_6 + 1)), (4, .long z11), (0, .ref aθ), (1, .long x1), (3, .int x3)]) h 1 rfl (congrArg (fun z => y7_6 + z) (by decide : Int32.ofInt 1 = 1)) dX3_mixRack_57 (by decide) rfl ?_
        refine r_goto h 36 dX3_mixRack_60 (by decide) ?_
        exact J.loc (lv' := [(6, .int (y7_6 + 1)), (4, .long z11), (0, .ref aθ), (1, .long x1), (3, .int x3)]) [0, 1, 2, 3, 4] rfl (ih (y7_6 + 1) z11 hF)
  refine hL36 _ (fun y7_6 y7_4 hF => ?_) _ (0 : Int32) y1_4 hF
  refine r_lload h 1 rfl dX3_mixRack_63 ?_
  cases hF
  exact r_lret h hr dX3_mixRack_65 ⟨rfl, rfl⟩

def FX3_digest_L16 (θ : Int32) (ρ : RS) (K : Int32 → Int64 → Option (Int64)) : Nat → Int32 → Int64 → Option (Int64)
  | 0, _, _ => none
  | n + 1, y3_3, y3_1 =>
  if (13 : Int32) < y3_3 then
  (K y3_3 y3_1)
else
  (bN (FX3_value θ ρ y3_3) fun z5 =>
  (FX3_mix y3_1 z5).bind fun z7 =>
  FX3_digest_L16 θ ρ K n (y3_3 + 1) z7)
def FX3_digest_L40 (θ : Int32) (ρ : RS) (K : Int32 → Int64 → Option (Int64)) : Nat → Int32 → Int64 → Option (Int64)
  | 0, _, _ => none
  | n + 1, y9_3, y9_1 =>
  if (6 : Int32) ≤ y9_3 then
  (K y9_3 y9_1)
else
  ((FX3_mixRack θ ρ y9_1 y9_3).bind fun z11 =>
  FX3_digest_L40 θ ρ K n (y9_3 + 1) z11)
def FX3_digest_L61 (θ : Int32) (ρ : RS) (K : Int32 → Int64 → Option (Int64)) : Nat → Int32 → Int64 → Option (Int64)
  | 0, _, _ => none
  | n + 1, y13_3, y13_1 =>
  if (5 : Int32) ≤ y13_3 then
  (K y13_3 y13_1)
else
  (bN (FX3_tray θ ρ y13_3) fun z15 =>
  (FX3_mix y13_1 z15).bind fun z17 =>
  FX3_digest_L61 θ ρ K n (y13_3 + 1) z17)
def FX3_digest_L101 (θ : Int32) (ρ : RS) (y19_3 : Int32) (K : Int32 → Int64 → Option (Int64)) : Nat → Int32 → Int64 → Option (Int64)
  | 0, _, _ => none
  | n + 1, y21_4, y21_1 =>
  if (7 : Int32) < y21_4 then
  (K y21_4 y21_1)
else
  (bN (FX3_machine θ ρ y19_3 y21_4) fun z23 =>
  (FX3_mix y21_1 z23).bind fun z25 =>
  FX3_digest_L101 θ ρ y19_3 K n (y21_4 + 1) z25)
def FX3_digest_L84 (θ : Int32) (ρ : RS) (K : Int32 → Int64 → Option (Int64)) : Nat → Int32 → Int64 → Option (Int64)
  | 0, _, _ => none
  | n + 1, y19_3, y19_1 =>
  if ρ.2.2.2.2.2.2.1 ≤ y19_3 then
  (K y19_3 y19_1)
else
  (FX3_digest_L101 θ ρ y19_3 (fun (y21_4 : Int32) (y21_1 : Int64) =>
  FX3_digest_L84 θ ρ K n (y19_3 + 1) y21_1) FU (0 : Int32) y19_1)
def FX3_digest_L151 (θ : Int32) (ρ : RS) (y27_3 : Int32) (K : Int32 → Int64 → Option (Int64)) : Nat → Int32 → Int64 → Option (Int64)
  | 0, _, _ => none
  | n + 1, y29_4, y29_1 =>
  if (3 : Int32) < y29_4 then
  (K y29_4 y29_1)
else
  (bN (FX3_cable θ ρ y27_3 y29_4) fun z31 =>
  (FX3_mix y29_1 z31).bind fun z33 =>
  FX3_digest_L151 θ ρ y27_3 K n (y29_4 + 1) z33)
def FX3_digest_L134 (θ : Int32) (ρ : RS) (K : Int32 → Int64 → Option (Int64)) : Nat → Int32 → Int64 → Option (Int64)
  | 0, _, _ => none
  | n + 1, y27_3, y27_1 =>
  if ρ.2.2.2.2.2.2.2.1 ≤ y27_3 then
  (K y27_3 y27_1)
else
  (FX3_digest_L151 θ ρ y27_3 (fun (y29_4 : Int32) (y29_1 : Int64) =>
  FX3_digest_L134 θ ρ K n (y27_3 + 1) y29_1) FU (0 : Int32) y27_1)
def FX3_digest_L200 (θ : Int32) (ρ : RS) (y35_3 : Int32) (K : Int32 → Int64 → Option (Int64)) : Nat → Int32 → Int64 → Option (Int64)
  | 0, _, _ => none
  | n + 1, y37_4, y37_1 =>
  if (4 : Int32) ≤ y37_4 then
  (K y37_4 y37_1)
else
  (bN (FX3_pile θ ρ y35_3 y37_4) fun z39 =>
  (FX3_mix y37_1 z39).bind fun z41 =>
  FX3_digest_L200 θ ρ y35_3 K n (y37_4 + 1) z41)
def FX3_digest_L183 (θ : Int32) (ρ : RS) (K : Int32 → Int64 → Option (Int64)) : Nat → Int32 → Int64 → Option (Int64)
  | 0, _, _ => none
  | n + 1, y35_3, y35_1 =>
  if ρ.2.2.2.2.2.2.2.2.2.1 ≤ y35_3 then
  (K y35_3 y35_1)
else
  (FX3_digest_L200 θ ρ y35_3 (fun (y37_4 : Int32) (y37_1 : Int64) =>
  FX3_digest_L183 θ ρ K n (y35_3 + 1) y37_1) FU (0 : Int32) y35_1)
def FX3_digest (θ : Int32) (ρ : RS) (τ : TXS) : Option (Int64) :=
  (FX3_mix (3511 : Int64) τ.2.2.1).bind fun z1 =>
  FX3_digest_L16 θ ρ (fun (y3_3 : Int32) (y3_1 : Int64) =>
  FX3_digest_L40 θ ρ (fun (y9_3 : Int32) (y9_1 : Int64) =>
  FX3_digest_L61 θ ρ (fun (y13_3 : Int32) (y13_1 : Int64) =>
  FX3_digest_L84 θ ρ (fun (y19_3 : Int32) (y19_1 : Int64) =>
  FX3_digest_L134 θ ρ (fun (y27_3 : Int32) (y27_1 : Int64) =>
  FX3_digest_L183 θ ρ (fun (y35_3 : Int32) (y35_1 : Int64) =>
  (FX3_mix y35_1 θ).bind fun z43 =>
  some z43) FU (0 : Int32) y27_1) FU (0 : Int32) y19_1) FU (0 : Int32) y13_1) FU (0 : Int32) y9_1) FU (0 : Int32) y3_1) FU (0 : Int32) z1
abbrev rmX3_digest : Room := { frames := 7, cells := 0, slots := 0, locals := 164 }
set_option maxHeartbeats 4000000 in
set_option maxRecDepth 100000 in
theorem CX3_digest (l : Launch) (D : va_G) (aθ : Nat) (pθ_spare : Nat) (pθ_saved : Nat) (aρ : Nat → Nat) (aτ : Nat → Nat) (θ : Int32) (ρ : RS) (τ : TXS) (r0 : Int64) (hF : FX3_digest θ ρ τ = some r0) : Ct l D yX3_digest cX3_digest 5 (some .long) rmX3_digest 0 0 [.ref aθ] (rkW D aθ (aρ 0) pθ_spare pθ_saved (aτ 0) θ ++ rmW D aρ ρ ++ txW D aτ τ) (fun v w => v = some (.long r0) ∧ w = (rkW D aθ (aρ 0) pθ_spare pθ_saved (aτ 0) θ ++ rmW D aρ ρ ++ txW D aτ τ)) := by
  refine Ct.of (own := RX3) (lv := [(0, .ref aθ)]) (by decide +kernel) rfl (Nat.le_of_ble_eq_true rfl) rfl (fun X h hr => ?_)
  unfold FX3_digest at hF
  refine r_ldc2 h wm_351 dX3_digest_0 ?_
  refine r_aload_n h 0 rfl rfl dX3_digest_3 ?_
  refine r_get h fl_X3_30 0 rfl rfl dX3_digest_4 ?_
  refine r_get h fl_X3_212 12 rfl rfl dX3_digest_7 ?_
  obtain ⟨z1, e2, hF⟩ := o_bind hF
  refine r_callSp (rest := []) h hd_X3_mix wm_352 dX3_digest_10 (CX3_mix l D (3511 : Int64) τ.2.2.1 z1 e2) rfl ⟨rfl, rfl⟩ ⟨by decide, by decide⟩ (Nat.le_of_ble_eq_true rfl) ⟨by decide, by decide⟩ rfl ?_
  refine r_lstore_n (lv' := [(1, .long z1), (0, .ref aθ)]) h rfl dX3_digest_13 (by decide) rfl ?_
  refine r_iconst (v := 0) h dX3_digest_14 (by decide) ?_
  refine r_istore_n (lv' := [(3, .int (0 : Int32)), (1, .long z1), (0, .ref aθ)]) h rfl dX3_digest_15 (by decide) rfl ?_
  have hL16 : ∀ (K : Int32 → Int64 → Option (Int64)) (hK : ∀ (y3_3 : Int32) (y3_1 : Int64), K y3_3 y3_1 = some r0 → J X l rmX3_digest D 5 0 0 ((rkW D aθ (aρ 0) pθ_spare pθ_saved (aτ 0) θ ++ rmW D aρ ρ ++ txW D aτ τ)) [(3, .int y3_3), (1, .long y3_1), (0, .ref aθ)] 38 []) (N : Nat), ∀ (y3_3 : Int32) (y3_1 : Int64), FX3_digest_L16 θ ρ K N y3_3 y3_1 = some r0 → J X l rmX3_digest D 5 0 0 ((rkW D aθ (aρ 0) pθ_spare pθ_saved (aτ 0) θ ++ rmW D aρ ρ ++ txW D aτ τ)) [(3, .int y3_3), (1, .long y3_1), (0, .ref aθ)] 16 [] := by
    intro K hK N
    induction N with
    | zero =>
      intro y3_3 y3_1 hF
      cases hF
    | succ N ih =>
      intro y3_3 y3_1 hF
      rw [FX3_digest_L16] at hF
      refine r_iload_n h 0 rfl rfl dX3_digest_16 ?_
      refine r_bipush (v := 13) h dX3_digest_17 (by decide) ?_
      refine r_icmp_gt h 38 dX3_digest_19 (by decide) (fun c4 => ?_) (fun c4 => ?_)
      · replace hF := o_pos c4 hF
        exact J.loc (lv' := [(3, .int y3_3), (1, .long y3_1), (0, .ref aθ)]) [0, 1, 2] rfl (hK y3_3 y3_1 hF)
      · replace hF := o_neg c4 hF
        refine r_lload_n h 1 rfl rfl dX3_digest_22 ?_
        refine r_aload_n h 2 rfl rfl dX3_digest_23 ?_
        refine r_iload_n h 0 rfl rfl dX3_digest_24 ?_
        obtain ⟨z5, e6, hF⟩ := o_bN hF
        refine r_callV (q0 := 0) (wr := w_pk (rkW D aθ (aρ 0) pθ_spare pθ_saved (aτ 0) θ ++ rmW D aρ ρ ++ txW D aτ τ) [12, 13, 14, 15]) (rest := [.long y3_1]) h hd_X3_value wm_356 dX3_digest_25 (CX3_value l D aθ pθ_spare pθ_saved (aτ 0) aρ θ ρ y3_3 z5 e6) [0, 1, 2, 3, 4, 5, 6, 7, 8, 9, 10, 11] [12, 13, 14, 15] rfl rfl (by decide +kernel) rfl rfl rfl ⟨rfl, rfl⟩ ⟨by decide, by decide⟩ (Nat.le_of_ble_eq_true rfl) ⟨by decide, by decide⟩ rfl (fun v w' hp => ?_)
        obtain ⟨rfl, rfl⟩ := hp
        refine J.sub (ws' := (rkW D aθ (aρ 0) pθ_spare pθ_saved (aτ 0) θ ++ rmW D aρ ρ ++ txW D aτ τ)) [4, 5, 6, 7, 8, 9, 10, 11, 12, 13, 14, 15, 0, 1, 2, 3] rfl (by decide +kernel) ?_
        obtain ⟨z7, e8, hF⟩ := o_bind hF
        refine r_callSp (rest := []) h hd_X3_mix wm_352 dX3_digest_28 (CX3_mix l D y3_1 z5 z7 e8) rfl ⟨rfl, rfl⟩ ⟨by decide, by decide⟩ (Nat.le_of_ble_eq_true rfl) ⟨by decide, by decide⟩ rfl ?_
        refine r_lstore_n (lv' := [(1, .long z7), (3, .int y3_3), (0, .ref aθ)]) h rfl dX3_digest_31 (by decide) rfl ?_
        refine r_iinc (lv' := [(3, .int (y3_3 + 1)), (1, .long z7), (0, .ref aθ)]) h 1 rfl (congrArg (fun z => y3_3 + z) (by decide : Int32.ofInt 1 = 1)) dX3_digest_32 (by decide) rfl ?_
        refine r_goto h 16 dX3_digest_35 (by decide) ?_
        exact J.loc (lv' := [(3, .int (y3_3 + 1)), (1, .long z7), (0, .ref aθ)]) [0, 1, 2] rfl (ih (y3_3 + 1) z7 hF)
  refine hL16 _ (fun y3_3 y3_1 hF => ?_) _ (0 : Int32) z1 hF
  refine r_iconst (v := 0) h dX3_digest_38 (by decide) ?_
  refine r_istore_n (lv' := [(3, .int (0 : Int32)), (1, .long y3_1), (0, .ref aθ)]) h rfl dX3_digest_39 (by decide) rfl ?_
  have hL40 : ∀ (K : Int32 → Int64 → Option (Int64)) (hK : ∀ (y9_3 : Int32) (y9_1 : Int64), K y9_3 y9_1 = some r0 → J X l rmX3_digest D 5 0 0 ((rkW D aθ (aρ 0) pθ_spare pθ_saved (aτ 0) θ ++ rmW D aρ ρ ++ txW D aτ τ)) [(3, .int y9_3), (1, .long y9_1), (0, .ref aθ)] 59 []) (N : Nat), ∀ (y9_3 : Int32) (y9_1 : Int64), FX3_digest_L40 θ ρ K N y9_3 y9_1 = some r0 → J X l rmX3_digest D 5 0 0 ((rkW D aθ (aρ 0) pθ_spare pθ_saved (aτ 0) θ ++ rmW D aρ ρ ++ txW D aτ τ)) [(3, .int y9_3), (1, .long y9_1), (0, .ref aθ)] 40 [] := by
    intro K hK N
    induction N with
    | zero =>
      intro y9_3 y9_1 hF
      cases hF
    | succ N ih =>
      intro y9_3 y9_1 hF
      rw [FX3_digest_L40] at hF
      refine r_iload_n h 0 rfl rfl dX3_digest_40 ?_
      refine r_bipush (v := 6) h dX3_digest_41 (by decide) ?_
      refine r_icmp_ge h 59 dX3_digest_43 (by decide) (fun c10 => ?_) (fun c10 => ?_)
      · replace hF := o_pos c10 hF
        exact J.loc (lv' := [(3, .int y9_3), (1, .long y9_1), (0, .ref aθ)]) [0, 1, 2] rfl (hK y9_3 y9_1 hF)
      · replace hF := o_neg c10 hF
        refine r_aload_n h 2 rfl rfl dX3_digest_46 ?_
        refine r_lload_n h 1 rfl rfl dX3_digest_47 ?_
        refine r_iload_n h 0 rfl rfl dX3_digest_48 ?_
        obtain ⟨z11, e12, hF⟩ := o_bind hF
        refine r_callV (q0 := 0) (wr := w_pk (rkW D aθ (aρ 0) pθ_spare pθ_saved (aτ 0) θ ++ rmW D aρ ρ ++ txW D aτ τ) [12, 13, 14, 15]) (rest := []) h hd_X3_mixRack wm_437 dX3_digest_49 (CX3_mixRack l D aθ pθ_spare pθ_saved (aτ 0) aρ θ ρ y9_1 y9_3 z11 e12) [0, 1, 2, 3, 4, 5, 6, 7, 8, 9, 10, 11] [12, 13, 14, 15] rfl rfl (by decide +kernel) rfl rfl rfl ⟨rfl, rfl⟩ ⟨by decide, by decide⟩ (Nat.le_of_ble_eq_true rfl) ⟨by decide, by decide⟩ rfl (fun v w' hp => ?_)
        obtain ⟨rfl, rfl⟩ := hp
        refine J.sub (ws' := (rkW D aθ (aρ 0) pθ_spare pθ_saved (aτ 0) θ ++ rmW D aρ ρ ++ txW D aτ τ)) [4, 5, 6, 7, 8, 9, 10, 11, 12, 13, 14, 15, 0, 1, 2, 3] rfl (by decide +kernel) ?_
        refine r_lstore_n (lv' := [(1, .long z11), (3, .int y9_3), (0, .ref aθ)]) h rfl dX3_digest_52 (by decide) rfl ?_
        refine r_iinc (lv' := [(3, .int (y9_3 + 1)), (1, .long z11), (0, .ref aθ)]) h 1 rfl (congrArg (fun z => y9_3 + z) (by decide : Int32.ofInt 1 = 1)) dX3_digest_53 (by decide) rfl ?_
        refine r_goto h 40 dX3_digest_56 (by decide) ?_
        exact J.loc (lv' := [(3, .int (y9_3 + 1)), (1, .long z11), (0, .ref aθ)]) [0, 1, 2] rfl (ih (y9_3 + 1) z11 hF)
  refine hL40 _ (fun y9_3 y9_1 hF => ?_) _ (0 : Int32) y3_1 hF
  refine r_iconst (v := 0) h dX3_digest_59 (by decide) ?_
  refine r_istore_n (lv' := [(3, .int (0 : Int32)), (1, .long y9_1), (0, .ref aθ)]) h rfl dX3_digest_60 (by decide) rfl ?_
  have hL61 : ∀ (K : Int32 → Int64 → Option (Int64)) (hK : ∀ (y13_3 : Int32) (y13_1 : Int64), K y13_3 y13_1 = some r0 → J X l rmX3_digest D 5 0 0 ((rkW D aθ (aρ 0) pθ_spare pθ_saved (aτ 0) θ ++ rmW D aρ ρ ++ txW D aτ τ)) [(3, .int y13_3), (1, .long y13_1), (0, .ref aθ)] 82 []) (N : Nat), ∀ (y13_3 : Int32) (y13_1 : Int64), FX3_digest_L61 θ ρ K N y13_3 y13_1 = some r0 → J X l rmX3_digest D 5 0 0 ((rkW D aθ (aρ 0) pθ_spare pθ_saved (aτ 0) θ ++ rmW D aρ ρ ++ txW D aτ τ)) [(3, .int y13_3), (1, .long y13_1), (0, .ref aθ)] 61 [] := by
    intro K hK N
    induction N with
    | zero =>
      intro y13_3 y13_1 hF
      cases hF
    | succ N ih =>
      intro y13_3 y13_1 hF
      rw [FX3_digest_L61] at hF
      refine r_iload_n h 0 rfl rfl dX3_digest_61 ?_
      refine r_iconst (v := 5) h dX3_digest_62 (by decide) ?_
      refine r_icmp_ge h 82 dX3_digest_63 (by decide) (fun c14 => ?_) (fun c14 => ?_)
      · replace hF := o_pos c14 hF
        exact J.loc (lv' := [(3, .int y13_3), (1, .long y13_1), (0, .ref aθ)]) [0, 1, 2] rfl (hK y13_3 y13_1 hF)
      · replace hF := o_neg c14 hF
        refine r_lload_n h 1 rfl rfl dX3_digest_66 ?_
        refine r_aload_n h 2 rfl rfl dX3_digest_67 ?_
        refine r_iload_n h 0 rfl rfl dX3_digest_68 ?_
        obtain ⟨z15, e16, hF⟩ := o_bN hF
        refine r_callV (q0 := 0) (wr := w_pk (rkW D aθ (aρ 0) pθ_spare pθ_saved (aτ 0) θ ++ rmW D aρ ρ ++ txW D aτ τ) [12, 13, 14, 15]) (rest := [.long y13_1]) h hd_X3_tray wm_486 dX3_digest_69 (CX3_tray l D aθ pθ_spare pθ_saved (aτ 0) aρ θ ρ y13_3 z15 e16) [0, 1, 2, 3, 4, 5, 6, 7, 8, 9, 10, 11] [12, 13, 14, 15] rfl rfl (by decide +kernel) rfl rfl rfl ⟨rfl, rfl⟩ ⟨by decide, by decide⟩ (Nat.le_of_ble_eq_true rfl) ⟨by decide, by decide⟩ rfl (fun v w' hp => ?_)
        obtain ⟨rfl, rfl⟩ := hp
        refine J.sub (ws' := (rkW D aθ (aρ 0) pθ_spare pθ_saved (aτ 0) θ ++ rmW D aρ ρ ++ txW D aτ τ)) [4, 5, 6, 7, 8, 9, 10, 11, 12, 13, 14, 15, 0, 1, 2, 3] rfl (by decide +kernel) ?_
        obtain ⟨z17, e18, hF⟩ := o_bind hF
        refine r_callSp (rest := []) h hd_X3_mix wm_352 dX3_digest_72 (CX3_mix l D y13_1 z15 z17 e18) rfl ⟨rfl, rfl⟩ ⟨by decide, by decide⟩ (Nat.le_of_ble_eq_true rfl) ⟨by decide, by decide⟩ rfl ?_
        refine r_lstore_n (lv' := [(1, .long z17), (3, .int y13_3), (0, .ref aθ)]) h rfl dX3_digest_75 (by decide) rfl ?_
        refine r_iinc (lv' := [(3, .int (y13_3 + 1)), (1, .long z17), (0, .ref aθ)]) h 1 rfl (congrArg (fun z => y13_3 + z) (by decide : Int32.ofInt 1 = 1)) dX3_digest_76 (by decide) rfl ?_
        refine r_goto h 61 dX3_digest_79 (by decide) ?_
        exact J.loc (lv' := [(3, .int (y13_3 + 1)), (1, .long z17), (0, .ref aθ)]) [0, 1, 2] rfl (ih (y13_3 + 1) z17 hF)
  refine hL61 _ (fun y13_3 y13_1 hF => ?_) _ (0 : Int32) y9_1 hF
  refine r_iconst (v := 0) h dX3_digest_82 (by decide) ?_
  refine r_istore_n (lv' := [(3, .int (0 : Int32)), (1, .long y13_1), (0, .ref aθ)]) h rfl dX3_digest_83 (by decide) rfl ?_
  have hL84 : ∀ (K : Int32 → Int64 → Option (Int64)) (hK : ∀ (y19_3 : Int32) (y19_1 : Int64), K y19_3 y19_1 = some r0 → J X l rmX3_digest D 5 0 0 ((rkW D aθ (aρ 0) pθ_spare pθ_saved (aτ 0) θ ++ rmW D aρ ρ ++ txW D aτ τ)) [(3, .int y19_3), (1, .long y19_1), (0, .ref aθ)] 132 []) (N : Nat), ∀ (y19_3 : Int32) (y19_1 : Int64), FX3_digest_L84 θ ρ K N y19_3 y19_1 = some r0 → J X l rmX3_digest D 5 0 0 ((rkW D aθ (aρ 0) pθ_spare pθ_saved (aτ 0) θ ++ rmW D aρ ρ ++ txW D aτ τ)) [(3, .int y19_3), (1, .long y19_1), (0, .ref aθ)] 84 [] := by
    intro K hK N
    induction N with
    | zero =>
      intro y19_3 y19_1 hF
      cases hF
    | succ N ih =>
      intro y19_3 y19_1 hF
      rw [FX3_digest_L84] at hF
      refine r_iload_n h 0 rfl rfl dX3_digest_84 ?_
      refine r_aload_n h 2 rfl rfl dX3_digest_85 ?_
      refine r_get h fl_X3_12 0 rfl rfl dX3_digest_86 ?_
      refine r_get h fl_X3_58 1 rfl rfl dX3_digest_89 ?_
      refine r_get h fl_X3_98 2 rfl rfl dX3_digest_92 ?_
      refine r_icmp_ge h 132 dX3_digest_95 (by decide) (fun c20 => ?_) (fun c20 => ?_)
      · replace hF := o_pos c20 hF
        exact J.loc (lv' := [(3, .int y19_3), (1, .long y19_1), (0, .ref aθ)]) [0, 1, 2] rfl (hK y19_3 y19_1 hF)
      · replace hF := o_neg c20 hF
        refine r_iconst (v := 0) h dX3_digest_98 (by decide) ?_
        refine r_istore (lv' := [(4, .int (0 : Int32)), (3, .int y19_3), (1, .long y19_1), (0, .ref aθ)]) h dX3_digest_99 (by decide) rfl ?_
        have hL101 : ∀ (K : Int32 → Int64 → Option (Int64)) (hK : ∀ (y21_4 : Int32) (y21_1 : Int64), K y21_4 y21_1 = some r0 → J X l rmX3_digest D 5 0 0 ((rkW D aθ (aρ 0) pθ_spare pθ_saved (aτ 0) θ ++ rmW D aρ ρ ++ txW D aτ τ)) [(4, .int y21_4), (3, .int y19_3), (1, .long y21_1), (0, .ref aθ)] 126 []) (N : Nat), ∀ (y21_4 : Int32) (y21_1 : Int64), FX3_digest_L101 θ ρ y19_3 K N y21_4 y21_1 = some r0 → J X l rmX3_digest D 5 0 0 ((rkW D aθ (aρ 0) pθ_spare pθ_saved (aτ 0) θ ++ rmW D aρ ρ ++ txW D aτ τ)) [(4, .int y21_4), (3, .int y19_3), (1, .long y21_1), (0, .ref aθ)] 101 [] := by
          intro K hK N
          induction N with
          | zero =>
            intro y21_4 y21_1 hF
            cases hF
          | succ N ih =>
            intro y21_4 y21_1 hF
            rw [FX3_digest_L101] at hF
            refine r_iload h 0 rfl dX3_digest_101 ?_
            refine r_bipush (v := 7) h dX3_digest_103 (by decide) ?_
            refine r_icmp_gt h 126 dX3_digest_105 (by decide) (fun c22 => ?_) (fun c22 => ?_)
            · replace hF := o_pos c22 hF
              exact J.loc (lv' := [(4, .int y21_4), (3, .int y19_3), (1, .long y21_1), (0, .ref aθ)]) [0, 1, 2, 3] rfl (hK y21_4 y21_1 hF)
            · replace hF := o_neg c22 hF
              refine r_lload_n h 2 rfl rfl dX3_digest_108 ?_
              refine r_aload_n h 3 rfl rfl dX3_digest_109 ?_
              refine r_iload_n h 1 rfl rfl dX3_digest_110 ?_
              refine r_iload h 0 rfl dX3_digest_111 ?_
              obtain ⟨z23, e24, hF⟩ := o_bN hF
              refine r_callV (q0 := 0) (wr := w_pk (rkW D aθ (aρ 0) pθ_spare pθ_saved (aτ 0) θ ++ rmW D aρ ρ ++ txW D aτ τ) [12, 13, 14, 15]) (rest := [.long y21_1]) h hd_X3_machine wm_495 dX3_digest_113 (CX3_machine l D aθ pθ_spare pθ_saved (aτ 0) aρ θ ρ y19_3 y21_4 z23 e24) [0, 1, 2, 3, 4, 5, 6, 7, 8, 9, 10, 11] [12, 13, 14, 15] rfl rfl (by decide +kernel) rfl rfl rfl ⟨rfl, rfl⟩ ⟨by decide, by decide⟩ (Nat.le_of_ble_eq_true rfl) ⟨by decide, by decide⟩ rfl (fun v w' hp => ?_)
              obtain ⟨rfl, rfl⟩ := hp
              refine J.sub (ws' := (rkW D aθ (aρ 0) pθ_spare pθ_saved (aτ 0) θ ++ rmW D aρ ρ ++ txW D aτ τ)) [4, 5, 6, 7, 8, 9, 10, 11, 12, 13, 14, 15, 0, 1, 2, 3] rfl (by decide +kernel) ?_
              obtain ⟨z25, e26, hF⟩ := o_bind hF
              refine r_callSp (rest := []) h hd_X3_mix wm_352 dX3_digest_116 (CX3_mix l D y21_1 z23 z25 e26) rfl ⟨rfl, rfl⟩ ⟨by decide, by decide⟩ (Nat.le_of_ble_eq_true rfl) ⟨by decide, by decide⟩ rfl ?_
              refine r_lstore_n (lv' := [(1, .long z25), (4, .int y21_4), (3, .int y19_3), (0, .ref aθ)]) h rfl dX3_digest_119 (by decide) rfl ?_
              refine r_iinc (lv' := [(4, .int (y21_4 + 1)), (1, .long z25), (3, .int y19_3), (0, .ref aθ)]) h 1 rfl (congrArg (fun z => y21_4 + z) (by decide : Int32.ofInt 1 = 1)) dX3_digest_120 (by decide) rfl ?_
              refine r_goto h 101 dX3_digest_123 (by decide) ?_
              exact J.loc (lv' := [(4, .int (y21_4 + 1)), (3, .int y19_3), (1, .long z25), (0, .ref aθ)]) [0, 2, 1, 3] rfl (ih (y21_4 + 1) z25 hF)
        refine hL101 _ (fun y21_4 y21_1 hF => ?_) _ (0 : Int32) y19_1 hF
        refine r_iinc (lv' := [(3, .int (y19_3 + 1)), (4, .int y21_4), (1, .long y21_1), (0, .ref aθ)]) h 1 rfl (congrArg (fun z => y19_3 + z) (by decide : Int32.ofInt 1 = 1)) dX3_digest_126 (by decide) rfl ?_
        refine r_goto h 84 dX3_digest_129 (by decide) ?_
        exact J.loc (lv' := [(3, .int (y19_3 + 1)), (1, .long y21_1), (0, .ref aθ)]) [0, 2, 3] rfl (ih (y19_3 + 1) y21_1 hF)
  refine hL84 _ (fun y19_3 y19_1 hF => ?_) _ (0 : Int32) y13_1 hF
  refine r_iconst (v := 0) h dX3_digest_132 (by decide) ?_
  refine r_istore_n (lv' := [(3, .int (0 : Int32)), (1, .long y19_1), (0, .ref aθ)]) h rfl dX3_digest_133 (by decide) rfl ?_
  have hL134 : ∀ (K : Int32 → Int64 → Option (Int64)) (hK : ∀ (y27_3 : Int32) (y27_1 : Int64), K y27_3 y27_1 = some r0 → J X l rmX3_digest D 5 0 0 ((rkW D aθ (aρ 0) pθ_spare pθ_saved (aτ 0) θ ++ rmW D aρ ρ ++ txW D aτ τ)) [(3, .int y27_3), (1, .long y27_1), (0, .ref aθ)] 181 []) (N : Nat), ∀ (y27_3 : Int32) (y27_1 : Int64), FX3_digest_L134 θ ρ K N y27_3 y27_1 = some r0 → J X l rmX3_digest D 5 0 0 ((rkW D aθ (aρ 0) pθ_spare pθ_saved (aτ 0) θ ++ rmW D aρ ρ ++ txW D aτ τ)) [(3, .int y27_3), (1, .long y27_1), (0, .ref aθ)] 134 [] := by
    intro K hK N
    induction N with
    | zero =>
      intro y27_3 y27_1 hF
      cases hF
    | succ N ih =>
      intro y27_3 y27_1 hF
      rw [FX3_digest_L134] at hF
      refine r_iload_n h 0 rfl rfl dX3_digest_134 ?_
      refine r_aload_n h 2 rfl rfl dX3_digest_135 ?_
      refine r_get h fl_X3_12 0 rfl rfl dX3_digest_136 ?_
      refine r_get h fl_X3_89 1 rfl rfl dX3_digest_139 ?_
      refine r_get h fl_X3_98 3 rfl rfl dX3_digest_142 ?_
      refine r_icmp_ge h 181 dX3_digest_145 (by decide) (fun c28 => ?_) (fun c28 => ?_)
      · replace hF := o_pos c28 hF
        exact J.loc (lv' := [(3, .int y27_3), (1, .long y27_1), (0, .ref aθ)]) [0, 1, 2] rfl (hK y27_3 y27_1 hF)
      · replace hF := o_neg c28 hF
        refine r_iconst (v := 0) h dX3_digest_148 (by decide) ?_
        refine r_istore (lv' := [(4, .int (0 : Int32)), (3, .int y27_3), (1, .long y27_1), (0, .ref aθ)]) h dX3_digest_149 (by decide) rfl ?_
        have hL151 : ∀ (K : Int32 → Int64 → Option (Int64)) (hK : ∀ (y29_4 : Int32) (y29_1 : Int64), K y29_4 y29_1 = some r0 → J X l rmX3_digest D 5 0 0 ((rkW D aθ (aρ 0) pθ_spare pθ_saved (aτ 0) θ ++ rmW D aρ ρ ++ txW D aτ τ)) [(4, .int y29_4), (3, .int y27_3), (1, .long y29_1), (0, .ref aθ)] 175 []) (N : Nat), ∀ (y29_4 : Int32) (y29_1 : Int64), FX3_digest_L151 θ ρ y27_3 K N y29_4 y29_1 = some r0 → J X l rmX3_digest D 5 0 0 ((rkW D aθ (aρ 0) pθ_spare pθ_saved (aτ 0) θ ++ rmW D aρ ρ ++ txW D aτ τ)) [(4, .int y29_4), (3, .int y27_3), (1, .long y29_1), (0, .ref aθ)] 151 [] := by
          intro K hK N
          induction N with
          | zero =>
            intro y29_4 y29_1 hF
            cases hF
          | succ N ih =>
            intro y29_4 y29_1 hF
            rw [FX3_digest_L151] at hF
            refine r_iload h 0 rfl dX3_digest_151 ?_
            refine r_iconst (v := 3) h dX3_digest_153 (by decide) ?_
            refine r_icmp_gt h 175 dX3_digest_154 (by decide) (fun c30 => ?_) (fun c30 => ?_)
            · replace hF := o_pos c30 hF
              exact J.loc (lv' := [(4, .int y29_4), (3, .int y27_3), (1, .long y29_1), (0, .ref aθ)]) [0, 1, 2, 3] rfl (hK y29_4 y29_1 hF)
            · replace hF := o_neg c30 hF
              refine r_lload_n h 2 rfl rfl dX3_digest_157 ?_
              refine r_aload_n h 3 rfl rfl dX3_digest_158 ?_
              refine r_iload_n h 1 rfl rfl dX3_digest_159 ?_
              refine r_iload h 0 rfl dX3_digest_160 ?_
              obtain ⟨z31, e32, hF⟩ := o_bN hF
              refine r_callV (q0 := 0) (wr := w_pk (rkW D aθ (aρ 0) pθ_spare pθ_saved (aτ 0) θ ++ rmW D aρ ρ ++ txW D aτ τ) [12, 13, 14, 15]) (rest := [.long y29_1]) h hd_X3_cable wm_511 dX3_digest_162 (CX3_cable l D aθ pθ_spare pθ_saved (aτ 0) aρ θ ρ y27_3 y29_4 z31 e32) [0, 1, 2, 3, 4, 5, 6, 7, 8, 9, 10, 11] [12, 13, 14, 15] rfl rfl (by decide +kernel) rfl rfl rfl ⟨rfl, rfl⟩ ⟨by decide, by decide⟩ (Nat.le_of_ble_eq_true rfl) ⟨by decide, by decide⟩ rfl (fun v w' hp => ?_)
              obtain ⟨rfl, rfl⟩ := hp
              refine J.sub (ws' := (rkW D aθ (aρ 0) pθ_spare pθ_saved (aτ 0) θ ++ rmW D aρ ρ ++ txW D aτ τ)) [4, 5, 6, 7, 8, 9, 10, 11, 12, 13, 14, 15, 0, 1, 2, 3] rfl (by decide +kernel) ?_
              obtain ⟨z33, e34, hF⟩ := o_bind hF
              refine r_callSp (rest := []) h hd_X3_mix wm_352 dX3_digest_165 (CX3_mix l D y29_1 z31 z33 e34) rfl ⟨rfl, rfl⟩ ⟨by decide, by decide⟩ (Nat.le_of_ble_eq_true rfl) ⟨by decide, by decide⟩ rfl ?_
              refine r_lstore_n (lv' := [(1, .long z33), (4, .int y29_4), (3, .int y27_3), (0, .ref aθ)]) h rfl dX3_digest_168 (by decide) rfl ?_
              refine r_iinc (lv' := [(4, .int (y29_4 + 1)), (1, .long z33), (3, .int y27_3), (0, .ref aθ)]) h 1 rfl (congrArg (fun z => y29_4 + z) (by decide : Int32.ofInt 1 = 1)) dX3_digest_169 (by decide) rfl ?_
              refine r_goto h 151 dX3_digest_172 (by decide) ?_
              exact J.loc (lv' := [(4, .int (y29_4 + 1)), (3, .int y27_3), (1, .long z33), (0, .ref aθ)]) [0, 2, 1, 3] rfl (ih (y29_4 + 1) z33 hF)
        refine hL151 _ (fun y29_4 y29_1 hF => ?_) _ (0 : Int32) y27_1 hF
        refine r_iinc (lv' := [(3, .int (y27_3 + 1)), (4, .int y29_4), (1, .long y29_1), (0, .ref aθ)]) h 1 rfl (congrArg (fun z => y27_3 + z) (by decide : Int32.ofInt 1 = 1)) dX3_digest_175 (by decide) rfl ?_
        refine r_goto h 134 dX3_digest_178 (by decide) ?_
        exact J.loc (lv' := [(3, .int (y27_3 + 1)), (1, .long y29_1), (0, .ref aθ)]) [0, 2, 3] rfl (ih (y27_3 + 1) y29_1 hF)
  refine hL134 _ (fun y27_3 y27_1 hF => ?_) _ (0 : Int32) y19_1 hF
  refine r_iconst (v := 0) h dX3_digest_181 (by decide) ?_
  refine r_istore_n (lv' := [(3, .int (0 : Int32)), (1, .long y27_1), (0, .ref aθ)]) h rfl dX3_digest_182 (by decide) rfl ?_
  have hL183 : ∀ (K : Int32 → Int64 → Option (Int64)) (hK : ∀ (y35_3 : Int32) (y35_1 : Int64), K y35_3 y35_1 = some r0 → J X l rmX3_digest D 5 0 0 ((rkW D aθ (aρ 0) pθ_spare pθ_saved (aτ 0) θ ++ rmW D aρ ρ ++ txW D aτ τ)) [(3, .int y35_3), (1, .long y35_1), (0, .ref aθ)] 230 []) (N : Nat), ∀ (y35_3 : Int32) (y35_1 : Int64), FX3_digest_L183 θ ρ K N y35_3 y35_1 = some r0 → J X l rmX3_digest D 5 0 0 ((rkW D aθ (aρ 0) pθ_spare pθ_saved (aτ 0) θ ++ rmW D aρ ρ ++ txW D aτ τ)) [(3, .int y35_3), (1, .long y35_1), (0, .ref aθ)] 183 [] := by
    intro K hK N
    induction N with
    | zero =>
      intro y35_3 y35_1 hF
      cases hF
    | succ N ih =>
      intro y35_3 y35_1 hF
      rw [FX3_digest_L183] at hF
      refine r_iload_n h 0 rfl rfl dX3_digest_183 ?_
      refine r_aload_n h 2 rfl rfl dX3_digest_184 ?_
      refine r_get h fl_X3_12 0 rfl rfl dX3_digest_185 ?_
      refine r_get h fl_X3_167 1 rfl rfl dX3_digest_188 ?_
      refine r_get h fl_X3_98 5 rfl rfl dX3_digest_191 ?_
      refine r_icmp_ge h 230 dX3_digest_194 (by decide) (fun c36 => ?_) (fun c36 => ?_)
      · replace hF := o_pos c36 hF
        exact J.loc (lv' := [(3, .int y35_3), (1, .long y35_1), (0, .ref aθ)]) [0, 1, 2] rfl (hK y35_3 y35_1 hF)
      · replace hF := o_neg c36 hF
        refine r_iconst (v := 0) h dX3_digest_197 (by decide) ?_
        refine r_istore (lv' := [(4, .int (0 : Int32)), (3, .int y35_3), (1, .long y35_1), (0, .ref aθ)]) h dX3_digest_198 (by decide) rfl ?_
        have hL200 : ∀ (K : Int32 → Int64 → Option (Int64)) (hK : ∀ (y37_4 : Int32) (y37_1 : Int64), K y37_4 y37_1 = some r0 → J X l rmX3_digest D 5 0 0 ((rkW D aθ (aρ 0) pθ_spare pθ_saved (aτ 0) θ ++ rmW D aρ ρ ++ txW D aτ τ)) [(4, .int y37_4), (3, .int y35_3), (1, .long y37_1), (0, .ref aθ)] 224 []) (N : Nat), ∀ (y37_4 : Int32) (y37_1 : Int64), FX3_digest_L200 θ ρ y35_3 K N y37_4 y37_1 = some r0 → J X l rmX3_digest D 5 0 0 ((rkW D aθ (aρ 0) pθ_spare pθ_saved (aτ 0) θ ++ rmW D aρ ρ ++ txW D aτ τ)) [(4, .int y37_4), (3, .int y35_3), (1, .long y37_1), (0, .ref aθ)] 200 [] := by
          intro K hK N
          induction N with
          | zero =>
            intro y37_4 y37_1 hF
            cases hF
          | succ N ih =>
            intro y37_4 y37_1 hF
            rw [FX3_digest_L200] at hF
            refine r_iload h 0 rfl dX3_digest_200 ?_
            refine r_iconst (v := 4) h dX3_digest_202 (by decide) ?_
            refine r_icmp_ge h 224 dX3_digest_203 (by decide) (fun c38 => ?_) (fun c38 => ?_)
            · replace hF := o_pos c38 hF
              exact J.loc (lv' := [(4, .int y37_4), (3, .int y35_3), (1, .long y37_1), (0, .ref aθ)]) [0, 1, 2, 3] rfl (hK y37_4 y37_1 hF)
            · replace hF := o_neg c38 hF
              refine r_lload_n h 2 rfl rfl dX3_digest_206 ?_
              refine r_aload_n h 3 rfl rfl dX3_digest_207 ?_
              refine r_iload_n h 1 rfl rfl dX3_digest_208 ?_
              refine r_iload h 0 rfl dX3_digest_209 ?_
              obtain ⟨z39, e40, hF⟩ := o_bN hF
              refine r_callV (q0 := 0) (wr := w_pk (rkW D aθ (aρ 0) pθ_spare pθ_saved (aτ 0) θ ++ rmW D aρ ρ ++ txW D aτ τ) [12, 13, 14, 15]) (rest := [.long y37_1]) h hd_X3_pile wm_521 dX3_digest_211 (CX3_pile l D aθ pθ_spare pθ_saved (aτ 0) aρ θ ρ y35_3 y37_4 z39 e40) [0, 1, 2, 3, 4, 5, 6, 7, 8, 9, 10, 11] [12, 13, 14, 15] rfl rfl (by decide +kernel) rfl rfl rfl ⟨rfl, rfl⟩ ⟨by decide, by decide⟩ (Nat.le_of_ble_eq_true rfl) ⟨by decide, by decide⟩ rfl (fun v w' hp => ?_)
              obtain ⟨rfl, rfl⟩ := hp
              refine J.sub (ws' := (rkW D aθ (aρ 0) pθ_spare pθ_saved (aτ 0) θ ++ rmW D aρ ρ ++ txW D aτ τ)) [4, 5, 6, 7, 8, 9, 10, 11, 12, 13, 14, 15, 0, 1, 2, 3] rfl (by decide +kernel) ?_
              obtain ⟨z41, e42, hF⟩ := o_bind hF
              refine r_callSp (rest := []) h hd_X3_mix wm_352 dX3_digest_214 (CX3_mix l D y37_1 z39 z41 e42) rfl ⟨rfl, rfl⟩ ⟨by decide, by decide⟩ (Nat.le_of_ble_eq_true rfl) ⟨by decide, by decide⟩ rfl ?_
              refine r_lstore_n (lv' := [(1, .long z41), (4, .int y37_4), (3, .int y35_3), (0, .ref aθ)]) h rfl dX3_digest_217 (by decide) rfl ?_
              refine r_iinc (lv' := [(4, .int (y37_4 + 1)), (1, .long z41), (3, .int y35_3), (0, .ref aθ)]) h 1 rfl (congrArg (fun z => y37_4 + z) (by decide : Int32.ofInt 1 = 1)) dX3_digest_218 (by decide) rfl ?_
              refine r_goto h 200 dX3_digest_221 (by decide) ?_
              exact J.loc (lv' := [(4, .int (y37_4 + 1)), (3, .int y35_3), (1, .long z41), (0, .ref aθ)]) [0, 2, 1, 3] rfl (ih (y37_4 + 1) z41 hF)
        refine hL200 _ (fun y37_4 y37_1 hF => ?_) _ (0 : Int32) y35_1 hF
        refine r_iinc (lv' := [(3, .int (y35_3 + 1)), (4, .int y37_4), (1, .long y37_1), (0, .ref aθ)]) h 1 rfl (congrArg (fun z => y35_3 + z) (by decide : Int32.ofInt 1 = 1)) dX3_digest_224 (by decide) rfl ?_
        refine r_goto h 183 dX3_digest_227 (by decide) ?_
        exact J.loc (lv' := [(3, .int (y35_3 + 1)), (1, .long y37_1), (0, .ref aθ)]) [0, 2, 3] rfl (ih (y35_3 + 1) y37_1 hF)
  refine hL183 _ (fun y35_3 y35_1 hF => ?_) _ (0 : Int32) y27_1 hF
  refine r_lload_n h 1 rfl rfl dX3_digest_230 ?_
  refine r_aload_n h 2 rfl rfl dX3_digest_231 ?_
  refine r_get h fl_X3_23 0 rfl rfl dX3_digest_232 ?_
  obtain ⟨z43, e44, hF⟩ := o_bind hF
  refine r_callSp (rest := []) h hd_X3_mix wm_352 dX3_digest_235 (CX3_mix l D y35_1 θ z43 e44) rfl ⟨rfl, rfl⟩ ⟨by decide, by decide⟩ (Nat.le_of_ble_eq_true rfl) ⟨by decide, by decide⟩ rfl ?_
  cases hF
  exact r_lret h hr dX3_digest_238 ⟨rfl, rfl⟩


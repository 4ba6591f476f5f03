def FX0_byteAt (τ : TXS) (x1 : Int32) : Option (Int32) :=
  if x1 < 0 then
  (some (-1 : Int32))
else
  (if τ.2.2.1 ≤ x1 then
  (some (-1 : Int32))
else
  (if (90 : Int32) ≤ x1 then
  (some (-1 : Int32))
else
  (gd (¬ (x1 < 0 ∨ 90 ≤ (x1).toNatClampNeg)) (
  some (τ.1 (x1).toNatClampNeg)))))
abbrev rmX0_byteAt : Room := { frames := 0, cells := 0, slots := 0, locals := 0 }
set_option maxHeartbeats 4000000 in
set_option maxRecDepth 100000 in
theorem CX0_byteAt (l : Launch) (D : va_G) (aτ : Nat → Nat) (τ : TXS) (x1 : Int32) (r0 : Int32) (hF : FX0_byteAt τ x1 = some r0) : Ct l D yX0_byteAt cX0_byteAt 2 (some .int) rmX0_byteAt 0 0 [.ref (aτ 0), .int x1] (txW D aτ τ) (fun v w => v = some (.int r0) ∧ w = txW D aτ τ) := by
  refine Ct.of (own := RX0) (lv := [(0, .ref (aτ 0)), (1, .int x1)]) (by decide +kernel) rfl (Nat.le_of_ble_eq_true rfl) rfl (fun X h hr => ?_)
  unfold FX0_byteAt at hF
  refine r_iload_n h 1 rfl rfl dX0_byteAt_0 ?_
  refine r_if_lt h 27 dX0_byteAt_1 (by decide) (fun c1 => ?_) (fun c1 => ?_)
  · replace hF := o_pos c1 hF
    refine r_iconst (v := -1) h dX0_byteAt_27 (by decide) ?_
    cases hF
    exact r_iret h hr dX0_byteAt_28 ⟨rfl, rfl⟩
  · replace hF := o_neg c1 hF
    refine r_iload_n h 1 rfl rfl dX0_byteAt_4 ?_
    refine r_aload_n h 0 rfl rfl dX0_byteAt_5 ?_
    refine r_get h fl_X0_15 0 rfl rfl dX0_byteAt_6 ?_
    refine r_icmp_ge h 27 dX0_byteAt_9 (by decide) (fun c2 => ?_) (fun c2 => ?_)
    · replace hF := o_pos c2 hF
      refine r_iconst (v := -1) h dX0_byteAt_27 (by decide) ?_
      cases hF
      exact r_iret h hr dX0_byteAt_28 ⟨rfl, rfl⟩
    · replace hF := o_neg c2 hF
      refine r_iload_n h 1 rfl rfl dX0_byteAt_12 ?_
      refine r_bipush (v := 90) h dX0_byteAt_13 (by decide) ?_
      refine r_icmp_ge h 27 dX0_byteAt_15 (by decide) (fun c3 => ?_) (fun c3 => ?_)
      · replace hF := o_pos c3 hF
        refine r_iconst (v := -1) h dX0_byteAt_27 (by decide) ?_
        cases hF
        exact r_iret h hr dX0_byteAt_28 ⟨rfl, rfl⟩
      · replace hF := o_neg c3 hF
        refine r_aload_n h 0 rfl rfl dX0_byteAt_18 ?_
        refine r_get h fl_X0_9 0 rfl rfl dX0_byteAt_19 ?_
        refine r_iload_n h 1 rfl rfl dX0_byteAt_22 ?_
        obtain ⟨hN, hF⟩ := o_gd hF
        refine r_iald h 1 rfl hN dX0_byteAt_23 ?_
        refine r_goto h 28 dX0_byteAt_24 (by decide) ?_
        cases hF
        exact r_iret h hr dX0_byteAt_28 ⟨rfl, rfl⟩

def FX0_isDigit (x0 : Int32) : Option (Int32) :=
  if x0 < (48 : Int32) then
  (some (0 : Int32))
else
  (if (57 : Int32) < x0 then
  (some (0 : Int32))
else
  (some (1 : Int32)))
abbrev rmX0_isDigit : Room := { frames := 0, cells := 0, slots := 0, locals := 0 }
set_option maxHeartbeats 4000000 in
set_option maxRecDepth 100000 in
theorem CX0_isDigit (l : Launch) (D : va_G)  (x0 : Int32) (r0 : Int32) (hF : FX0_isDigit x0 = some r0) : Ct l D yX0_isDigit cX0_isDigit 1 (some .boolean) rmX0_isDigit 0 0 [.int x0] [] (fun v w => v = some (.int r0) ∧ w = []) := by
  refine Ct.of (own := RX0) (lv := [(0, .int x0)]) (by decide +kernel) rfl (Nat.le_of_ble_eq_true rfl) rfl (fun X h hr => ?_)
  unfold FX0_isDigit at hF
  refine r_iload_n h 0 rfl rfl dX0_isDigit_0 ?_
  refine r_bipush (v := 48) h dX0_isDigit_1 (by decide) ?_
  refine r_icmp_lt h 16 dX0_isDigit_3 (by decide) (fun c1 => ?_) (fun c1 => ?_)
  · replace hF := o_pos c1 hF
    refine r_iconst (v := 0) h dX0_isDigit_16 (by decide) ?_
    cases hF
    exact r_zret h hr (Or.inl rfl) dX0_isDigit_17 ⟨rfl, rfl⟩
  · replace hF := o_neg c1 hF
    refine r_iload_n h 0 rfl rfl dX0_isDigit_6 ?_
    refine r_bipush (v := 57) h dX0_isDigit_7 (by decide) ?_
    refine r_icmp_gt h 16 dX0_isDigit_9 (by decide) (fun c2 => ?_) (fun c2 => ?_)
    · replace hF := o_pos c2 hF
      refine r_iconst (v := 0) h dX0_isDigit_16 (by decide) ?_
      cases hF
      exact r_zret h hr (Or.inl rfl) dX0_isDigit_17 ⟨rfl, rfl⟩
    · replace hF := o_neg c2 hF
      refine r_iconst (v := 1) h dX0_isDigit_12 (by decide) ?_
      refine r_goto h 17 dX0_isDigit_13 (by decide) ?_
      cases hF
      exact r_zret h hr (Or.inr rfl) dX0_isDigit_17 ⟨rfl, rfl⟩

def FX0_readMachine_J87 (τ : TXS) (x1 : Int32) (l13_3 : Int32) (t13_τ : TXS) : Option (Int32 × TXS) :=
  (FX0_byteAt t13_τ t13_τ.2.2.2.1).bind fun z18 =>
  (FX0_isDigit z18).bind fun z20 =>
  if z20 = 0 then
  (if x1 ≤ l13_3 then
  (some (τ.2.2.2.1, (t13_τ.1, t13_τ.2.1, t13_τ.2.2.1, t13_τ.2.2.2.1, l13_3, t13_τ.2.2.2.2.2)))
else
  (some ((-1 : Int32), (t13_τ.1, t13_τ.2.1, t13_τ.2.2.1, t13_τ.2.2.2.1, l13_3, t13_τ.2.2.2.2.2))))
else
  (some (t13_τ.2.2.2.1, t13_τ))
def FX0_readMachine (τ : TXS) (x1 : Int32) : Option (Int32 × TXS) :=
  (FX0_byteAt τ τ.2.2.2.1).bind fun z1 =>
  (FX0_isDigit z1).bind fun z3 =>
  if z3 = 0 then
  (some (τ.2.2.2.1, τ))
else
  ((FX0_byteAt τ τ.2.2.2.1).bind fun z6 =>
  (FX0_byteAt (τ.1, τ.2.1, τ.2.2.1, τ.2.2.2.1 + (1 : Int32), τ.2.2.2.2.1, τ.2.2.2.2.2) (τ.2.2.2.1 + (1 : Int32))).bind fun z8 =>
  (FX0_isDigit z8).bind fun z10 =>
  if z10 = 0 then
  (FX0_readMachine_J87 τ x1 (z6 - (48 : Int32)) (τ.1, τ.2.1, τ.2.2.1, τ.2.2.2.1 + (1 : Int32), τ.2.2.2.2.1, τ.2.2.2.2.2))
else
  ((FX0_byteAt (τ.1, τ.2.1, τ.2.2.1, τ.2.2.2.1 + (1 : Int32), τ.2.2.2.2.1, τ.2.2.2.2.2) (τ.2.2.2.1 + (1 : Int32))).bind fun z14 =>
  nmv (((10 : Int32) * (z6 - (48 : Int32))) + z14) fun u16 =>
  nmv ((τ.2.2.2.1 + (1 : Int32)) + (1 : Int32)) fun u17 =>
  FX0_readMachine_J87 τ x1 (u16 - (48 : Int32)) (τ.1, τ.2.1, τ.2.2.1, u17, τ.2.2.2.2.1, τ.2.2.2.2.2)))
abbrev rmX0_readMachine : Room := { frames := 1, cells := 0, slots := 0, locals := 21 }
set_option maxHeartbeats 4000000 in
set_option maxRecDepth 100000 in
theorem CX0_readMachine (l : Launch) (D : va_G) (aτ : Nat → Nat) (τ : TXS) (x1 : Int32) (r0 : Int32) (τ0 : TXS) (hF : FX0_readMachine τ x1 = some (r0, τ0)) : Ct l D yX0_readMachine cX0_readMachine 4 (some .int) rmX0_readMachine 0 0 [.ref (aτ 0), .int x1] (txW D aτ τ) (fun v w => v = some (.int r0) ∧ w = txW D aτ τ0) := by
  refine Ct.of (own := RX0) (lv := [(0, .ref (aτ 0)), (1, .int x1)]) (by decide +kernel) rfl (Nat.le_of_ble_eq_true rfl) rfl (fun X h hr => ?_)
  unfold FX0_readMachine at hF
  refine r_aload_n h 0 rfl rfl dX0_readMachine_0 ?_
  refine r_get h fl_X0_28 0 rfl rfl dX0_readMachine_1 ?_
  refine r_istore_n (lv' := [(2, .int τ.2.2.2.1), (0, .ref (aτ 0)), (1, .int x1)]) h rfl dX0_readMachine_4 (by decide) rfl ?_
  refine r_aload_n h 1 rfl rfl dX0_readMachine_5 ?_
  refine r_aload_n h 1 rfl rfl dX0_readMachine_6 ?_
  refine r_get h fl_X0_28 0 rfl rfl dX0_readMachine_7 ?_
  obtain ⟨z1, e2, hF⟩ := o_bind hF
  refine r_callVa (q0 := 0) (rest := []) h hd_X0_byteAt wm_279 dX0_readMachine_10 (CX0_byteAt l D aτ τ τ.2.2.2.1 z1 e2) rfl rfl rfl ⟨rfl, rfl⟩ ⟨by decide, by decide⟩ (Nat.le_of_ble_eq_true rfl) ⟨by decide, by decide⟩ rfl (fun v w' hp => ?_)
  obtain ⟨rfl, rfl⟩ := hp
  obtain ⟨z3, e4, hF⟩ := o_bind hF
  refine r_callSp (rest := []) h hd_X0_isDigit wm_300 dX0_readMachine_13 (CX0_isDigit l D z1 z3 e4) rfl ⟨rfl, rfl⟩ ⟨by decide, by decide⟩ (Nat.le_of_ble_eq_true rfl) ⟨by decide, by decide⟩ rfl ?_
  refine r_if_ne h 24 dX0_readMachine_16 (by decide) (fun c5 => ?_) (fun c5 => ?_)
  · replace hF := o_neg c5 hF
    refine r_aload_n h 1 rfl rfl dX0_readMachine_24 ?_
    refine r_aload_n h 1 rfl rfl dX0_readMachine_25 ?_
    refine r_get h fl_X0_28 0 rfl rfl dX0_readMachine_26 ?_
    obtain ⟨z6, e7, hF⟩ := o_bind hF
    refine r_callVa (q0 := 0) (rest := []) h hd_X0_byteAt wm_279 dX0_readMachine_29 (CX0_byteAt l D aτ τ τ.2.2.2.1 z6 e7) rfl rfl rfl ⟨rfl, rfl⟩ ⟨by decide, by decide⟩ (Nat.le_of_ble_eq_true rfl) ⟨by decide, by decide⟩ rfl (fun v w' hp => ?_)
    obtain ⟨rfl, rfl⟩ := hp
    refine r_bipush (v := 48) h dX0_readMachine_32 (by decide) ?_
    refine r_isub h dX0_readMachine_34 ?_
    refine r_istore_n (lv' := [(3, .int (z6 - (48 : Int32))), (2, .int τ.2.2.2.1), (0, .ref (aτ 0)), (1, .int x1)]) h rfl dX0_readMachine_35 (by decide) rfl ?_
    refine r_aload_n h 2 rfl rfl dX0_readMachine_36 ?_
    refine r_dup h rfl dX0_readMachine_37 ?_
    refine r_get h fl_X0_28 0 rfl rfl dX0_readMachine_38 ?_
    refine r_iconst (v := 1) h dX0_readMachine_41 (by decide) ?_
    refine r_iadd h dX0_readMachine_42 ?_
    refine r_put (ws' := txW D aτ (τ.1, τ.2.1, τ.2.2.1, τ.2.2.2.1 + (1 : Int32), τ.2.2.2.2.1, τ.2.2.2.2.2)) h fp_X0_28 0 rfl (Nat.le_of_ble_eq_true rfl) rfl rfl rfl dX0_readMachine_43 ?_
    refine r_aload_n h 2 rfl rfl dX0_readMachine_46 ?_
    refine r_aload_n h 2 rfl rfl dX0_readMachine_47 ?_
    refine r_get h fl_X0_28 0 rfl rfl dX0_readMachine_48 ?_
    obtain ⟨z8, e9, hF⟩ := o_bind hF
    refine r_callVa (q0 := 0) (rest := []) h hd_X0_byteAt wm_279 dX0_readMachine_51 (CX0_byteAt l D aτ (τ.1, τ.2.1, τ.2.2.1, τ.2.2.2.1 + (1 : Int32), τ.2.2.2.2.1, τ.2.2.2.2.2) (τ.2.2.2.1 + (1 : Int32)) z8 e9) rfl rfl rfl ⟨rfl, rfl⟩ ⟨by decide, by decide⟩ (Nat.le_of_ble_eq_true rfl) ⟨by decide, by decide⟩ rfl (fun v w' hp => ?_)
    obtain ⟨rfl, rfl⟩ := hp
    obtain ⟨z10, e11, hF⟩ := o_bind hF
    refine r_callSp (rest := []) h hd_X0_isDigit wm_300 dX0_readMachine_54 (CX0_isDigit l D z8 z10 e11) rfl ⟨rfl, rfl⟩ ⟨by decide, by decide⟩ (Nat.le_of_ble_eq_true rfl) ⟨by decide, by decide⟩ rfl ?_
    have hJ87 : ∀ (l13_3 : Int32) (t13_τ : TXS), FX0_readMachine_J87 τ x1 l13_3 t13_τ = some (r0, τ0) → J X l rmX0_readMachine D 4 0 0 (txW D aτ t13_τ) [(3, .int l13_3), (2, .int τ.2.2.2.1), (0, .ref (aτ 0)), (1, .int x1)] 87 [] := by
      intro l13_3 t13_τ hF
      unfold FX0_readMachine_J87 at hF
      refine r_aload_n h 2 rfl rfl dX0_readMachine_87 ?_
      refine r_aload_n h 2 rfl rfl dX0_readMachine_88 ?_
      refine r_get h fl_X0_28 0 rfl rfl dX0_readMachine_89 ?_
      obtain ⟨z18, e19, hF⟩ := o_bind hF
      refine r_callVa (q0 := 0) (rest := []) h hd_X0_byteAt wm_279 dX0_readMachine_92 (CX0_byteAt l D aτ t13_τ t13_τ.2.2.2.1 z18 e19) rfl rfl rfl ⟨rfl, rfl⟩ ⟨by decide, by decide⟩ (Nat.le_of_ble_eq_true rfl) ⟨by decide, by decide⟩ rfl (fun v w' hp => ?_)
      obtain ⟨rfl, rfl⟩ := hp
      obtain ⟨z20, e21, hF⟩ := o_bind hF
      refine r_callSp (rest := []) h hd_X0_isDigit wm_300 dX0_readMachine_95 (CX0_isDigit l D z18 z20 e21) rfl ⟨rfl, rfl⟩ ⟨by decide, by decide⟩ (Nat.le_of_ble_eq_true rfl) ⟨by decide, by decide⟩ rfl ?_
      refine r_if_eq h 106 dX0_readMachine_98 (by decide) (fun c22 => ?_) (fun c22 => ?_)
      · replace hF := o_pos c22 hF
        refine r_aload_n h 2 rfl rfl dX0_readMachine_106 ?_
        refine r_iload_n h 0 rfl rfl dX0_readMachine_107 ?_
        refine r_put (ws' := txW D aτ (t13_τ.1, t13_τ.2.1, t13_τ.2.2.1, t13_τ.2.2.2.1, l13_3, t13_τ.2.2.2.2.2)) h fp_X0_31 0 rfl (Nat.le_of_ble_eq_true rfl) rfl rfl rfl dX0_readMachine_108 ?_
        refine r_iload_n h 0 rfl rfl dX0_readMachine_111 ?_
        refine r_iload_n h 3 rfl rfl dX0_readMachine_112 ?_
        refine r_icmp_ge h 120 dX0_readMachine_113 (by decide) (fun c23 => ?_) (fun c23 => ?_)
        · replace hF := o_pos c23 hF
          refine r_iload_n h 1 rfl rfl dX0_readMachine_120 ?_
          cases hF
          exact r_iret h hr dX0_readMachine_121 ⟨rfl, rfl⟩
        · replace hF := o_neg c23 hF
          refine r_iconst (v := -1) h dX0_readMachine_116 (by decide) ?_
          refine r_goto h 121 dX0_readMachine_117 (by decide) ?_
          cases hF
          exact r_iret h hr dX0_readMachine_121 ⟨rfl, rfl⟩
      · replace hF := o_neg c22 hF
        refine r_aload_n h 2 rfl rfl dX0_readMachine_101 ?_
        refine r_get h fl_X0_28 0 rfl rfl dX0_readMachine_102 ?_
        cases hF
        exact r_iret h hr dX0_readMachine_105 ⟨rfl, rfl⟩
    refine r_if_eq h 87 dX0_readMachine_57 (by decide) (fun c12 => ?_) (fun c12 => ?_)
    · replace hF := o_pos c12 hF
      exact J.loc (lv' := [(3, .int (z6 - (48 : Int32))), (2, .int τ.2.2.2.1), (0, .ref (aτ 0)), (1, .int x1)]) [0, 1, 2, 3] rfl (hJ87 (z6 - (48 : Int32)) (τ.1, τ.2.1, τ.2.2.1, τ.2.2.2.1 + (1 : Int32), τ.2.2.2.2.1, τ.2.2.2.2.2) hF)
    · replace hF := o_neg c12 hF
      refine r_bipush (v := 10) h dX0_readMachine_60 (by decide) ?_
      refine r_iload_n h 0 rfl rfl dX0_readMachine_62 ?_
      refine r_imul h dX0_readMachine_63 ?_
      refine r_aload_n h 2 rfl rfl dX0_readMachine_64 ?_
      refine r_aload_n h 2 rfl rfl dX0_readMachine_65 ?_
      refine r_get h fl_X0_28 0 rfl rfl dX0_readMachine_66 ?_
      obtain ⟨z14, e15, hF⟩ := o_bind hF
      refine r_callVa (q0 := 0) (rest := [.int ((10 : Int32) * (z6 - (48 : Int32)))]) h hd_X0_byteAt wm_279 dX0_readMachine_69 (CX0_byteAt l D aτ (τ.1, τ.2.1, τ.2.2.1, τ.2.2.2.1 + (1 : Int32), τ.2.2.2.2.1, τ.2.2.2.2.2) (τ.2.2.2.1 + (1 : Int32)) z14 e15) rfl rfl rfl ⟨rfl, rfl⟩ ⟨by decide, by decide⟩ (Nat.le_of_ble_eq_true rfl) ⟨by decide, by decide⟩ rfl (fun v w' hp => ?_)
      obtain ⟨rfl, rfl⟩ := hp
      refine r_iadd h dX0_readMachine_72 ?_
      obtain ⟨u16, hu16, hF⟩ := o_nm hF
      refine J.top hu16 ?_
      refine r_bipush (v := 48) h dX0_readMachine_73 (by decide) ?_
      refine r_isub h dX0_readMachine_75 ?_
      refine r_istore_n (lv' := [(3, .int (u16 - (48 : Int32))), (2, .int τ.2.2.2.1), (0, .ref (aτ 0)), (1, .int x1)]) h rfl dX0_readMachine_76 (by decide) rfl ?_
      refine r_aload_n h 2 rfl rfl dX0_readMachine_77 ?_
      refine r_dup h rfl dX0_readMachine_78 ?_
      refine r_get h fl_X0_28 0 rfl rfl dX0_readMachine_79 ?_
      refine r_iconst (v := 1) h dX0_readMachine_82 (by decide) ?_
      refine r_iadd h dX0_readMachine_83 ?_
      obtain ⟨u17, hu17, hF⟩ := o_nm hF
      refine J.top hu17 ?_
      refine r_put (ws' := txW D aτ (τ.1, τ.2.1, τ.2.2.1, u17, τ.2.2.2.2.1, τ.2.2.2.2.2)) h fp_X0_28 0 rfl (Nat.le_of_ble_eq_true rfl) rfl rfl rfl dX0_readMachine_84 ?_
      exact J.loc (lv' := [(3, .int (u16 - (48 : Int32))), (2, .int τ.2.2.2.1), (0, .ref (aτ 0)), (1, .int x1)]) [0, 1, 2, 3] rfl (hJ87 (u16 - (48 : Int32)) (τ.1, τ.2.1, τ.2.2.1, u17, τ.2.2.2.2.1, τ.2.2.2.2.2) hF)
  · replace hF := o_pos c5 hF
    refine r_aload_n h 1 rfl rfl dX0_readMachine_19 ?_
    refine r_get h fl_X0_28 0 rfl rfl dX0_readMachine_20 ?_
    cases hF
    exact r_iret h hr dX0_readMachine_23 ⟨rfl, rfl⟩

def FX0_readByte (τ : TXS) (x1 : Int32) : Option (Int32 × TXS) :=
  (FX0_byteAt τ τ.2.2.2.1).bind fun z1 =>
  if z1 = x1 then
  (some ((-1 : Int32), (τ.1, τ.2.1, τ.2.2.1, τ.2.2.2.1 + (1 : Int32), τ.2.2.2.2.1, τ.2.2.2.2.2)))
else
  (some (τ.2.2.2.1, τ))
abbrev rmX0_readByte : Room := { frames := 1, cells := 0, slots := 0, locals := 21 }
set_option maxHeartbeats 4000000 in
set_option maxRecDepth 100000 in
theorem CX0_readByte (l : Launch) (D : va_G) (aτ : Nat → Nat) (τ : TXS) (x1 : Int32) (r0 : Int32) (τ0 : TXS) (hF : FX0_readByte τ x1 = some (r0, τ0)) : Ct l D yX0_readByte cX0_readByte 2 (some .int) rmX0_readByte 0 0 [.ref (aτ 0), .int x1] (txW D aτ τ) (fun v w => v = some (.int r0) ∧ w = txW D aτ τ0) := by
  refine Ct.of (own := RX0) (lv := [(0, .ref (aτ 0)), (1, .int x1)]) (by decide +kernel) rfl (Nat.le_of_ble_eq_true rfl) rfl (fun X h hr => ?_)
  unfold FX0_readByte at hF
  refine r_aload_n h 0 rfl rfl dX0_readByte_0 ?_
  refine r_aload_n h 0 rfl rfl dX0_readByte_1 ?_
  refine r_get h fl_X0_28 0 rfl rfl dX0_readByte_2 ?_
  obtain ⟨z1, e2, hF⟩ := o_bind hF
  refine r_callVa (q0 := 0) (rest := []) h hd_X0_byteAt wm_279 dX0_readByte_5 (CX0_byteAt l D aτ τ τ.2.2.2.1 z1 e2) rfl rfl rfl ⟨rfl, rfl⟩ ⟨by decide, by decide⟩ (Nat.le_of_ble_eq_true rfl) ⟨by decide, by decide⟩ rfl (fun v w' hp => ?_)
  obtain ⟨rfl, rfl⟩ := hp
  refine r_iload_n h 1 rfl rfl dX0_readByte_8 ?_
  refine r_icmp_eq h 17 dX0_readByte_9 (by decide) (fun c3 => ?_) (fun c3 => ?_)
  · replace hF := o_pos c3 hF
    refine r_aload_n h 0 rfl rfl dX0_readByte_17 ?_
    refine r_dup h rfl dX0_readByte_18 ?_
    refine r_get h fl_X0_28 0 rfl rfl dX0_readByte_19 ?_
    refine r_iconst (v := 1) h dX0_readByte_22 (by decide) ?_
    refine r_iadd h dX0_readByte_23 ?_
    refine r_put (ws' := txW D aτ (τ.1, τ.2.1, τ.2.2.1, τ.2.2.2.1 + (1 : Int32), τ.2.2.2.2.1, τ.2.2.2.2.2)) h fp_X0_28 0 rfl (Nat.le_of_ble_eq_true rfl) rfl rfl rfl dX0_readByte_24 ?_
    refine r_iconst (v := -1) h dX0_readByte_27 (by decide) ?_
    cases hF
    exact r_iret h hr dX0_readByte_28 ⟨rfl, rfl⟩
  · replace hF := o_neg c3 hF
    refine r_aload_n h 0 rfl rfl dX0_readByte_12 ?_
    refine r_get h fl_X0_28 0 rfl rfl dX0_readByte_13 ?_
    cases hF
    exact r_iret h hr dX0_readByte_16 ⟨rfl, rfl⟩

def FX0_readDigit (τ : TXS) (x1 : Int32) : Option (Int32 × TXS) :=
  (FX0_byteAt τ τ.2.2.2.1).bind fun z1 =>
  if (z1 - (48 : Int32)) < 0 then
  (some (τ.2.2.2.1, τ))
else
  (if (z1 - (48 : Int32)) ≤ x1 then
  (some ((-1 : Int32), (τ.1, τ.2.1, τ.2.2.1, τ.2.2.2.1 + (1 : Int32), z1 - (48 : Int32), τ.2.2.2.2.2)))
else
  (some (τ.2.2.2.1, τ)))
abbrev rmX0_readDigit : Room := { frames := 1, cells := 0, slots := 0, locals := 21 }
set_option maxHeartbeats 4000000 in
set_option maxRecDepth 100000 in
theorem CX0_readDigit (l : Launch) (D : va_G) (aτ : Nat → Nat) (τ : TXS) (x1 : Int32) (r0 : Int32) (τ0 : TXS) (hF : FX0_readDigit τ x1 = some (r0, τ0)) : Ct l D yX0_readDigit cX0_readDigit 3 (some .int) rmX0_readDigit 0 0 [.ref (aτ 0), .int x1] (txW D aτ τ) (fun v w => v = some (.int r0) ∧ w = txW D aτ τ0) := by
  refine Ct.of (own := RX0) (lv := [(0, .ref (aτ 0)), (1, .int x1)]) (by decide +kernel) rfl (Nat.le_of_ble_eq_true rfl) rfl (fun X h hr => ?_)
  unfold FX0_readDigit at hF
  refine r_aload_n h 0 rfl rfl dX0_readDigit_0 ?_
  refine r_aload_n h 0 rfl rfl dX0_readDigit_1 ?_
  refine r_get h fl_X0_28 0 rfl rfl dX0_readDigit_2 ?_
  obtain ⟨z1, e2, hF⟩ := o_bind hF
  refine r_callVa (q0 := 0) (rest := []) h hd_X0_byteAt wm_279 dX0_readDigit_5 (CX0_byteAt l D aτ τ τ.2.2.2.1 z1 e2) rfl rfl rfl ⟨rfl, rfl⟩ ⟨by decide, by decide⟩ (Nat.le_of_ble_eq_true rfl) ⟨by decide, by decide⟩ rfl (fun v w' hp => ?_)
  obtain ⟨rfl, rfl⟩ := hp
  refine r_bipush (v := 48) h dX0_readDigit_8 (by decide) ?_
  refine r_isub h dX0_readDigit_10 ?_
  refine r_istore_n (lv' := [(2, .int (z1 - (48 : Int32))), (0, .ref (aτ 0)), (1, .int x1)]) h rfl dX0_readDigit_11 (by decide) rfl ?_
  refine r_iload_n h 0 rfl rfl dX0_readDigit_12 ?_
  refine r_if_lt h 21 dX0_readDigit_13 (by decide) (fun c3 => ?_) (fun c3 => ?_)
  · replace hF := o_pos c3 hF
    refine r_aload_n h 1 rfl rfl dX0_readDigit_21 ?_
    refine r_get h fl_X0_28 0 rfl rfl dX0_readDigit_22 ?_
    cases hF
    exact r_iret h hr dX0_readDigit_25 ⟨rfl, rfl⟩
  · replace hF := o_neg c3 hF
    refine r_iload_n h 0 rfl rfl dX0_readDigit_16 ?_
    refine r_iload_n h 2 rfl rfl dX0_readDigit_17 ?_
    refine r_icmp_le h 26 dX0_readDigit_18 (by decide) (fun c4 => ?_) (fun c4 => ?_)
    · replace hF := o_pos c4 hF
      refine r_aload_n h 1 rfl rfl dX0_readDigit_26 ?_
      refine r_iload_n h 0 rfl rfl dX0_readDigit_27 ?_
      refine r_put (ws' := txW D aτ (τ.1, τ.2.1, τ.2.2.1, τ.2.2.2.1, z1 - (48 : Int32), τ.2.2.2.2.2)) h fp_X0_31 0 rfl (Nat.le_of_ble_eq_true rfl) rfl rfl rfl dX0_readDigit_28 ?_
      refine r_aload_n h 1 rfl rfl dX0_readDigit_31 ?_
      refine r_dup h rfl dX0_readDigit_32 ?_
      refine r_get h fl_X0_28 0 rfl rfl dX0_readDigit_33 ?_
      refine r_iconst (v := 1) h dX0_readDigit_36 (by decide) ?_
      refine r_iadd h dX0_readDigit_37 ?_
      refine r_put (ws' := txW D aτ (τ.1, τ.2.1, τ.2.2.1, τ.2.2.2.1 + (1 : Int32), z1 - (48 : Int32), τ.2.2.2.2.2)) h fp_X0_28 0 rfl (Nat.le_of_ble_eq_true rfl) rfl rfl rfl dX0_readDigit_38 ?_
      refine r_iconst (v := -1) h dX0_readDigit_41 (by decide) ?_
      cases hF
      exact r_iret h hr dX0_readDigit_42 ⟨rfl, rfl⟩
    · replace hF := o_neg c4 hF
      refine r_aload_n h 1 rfl rfl dX0_readDigit_21 ?_
      refine r_get h fl_X0_28 0 rfl rfl dX0_readDigit_22 ?_
      cases hF
      exact r_iret h hr dX0_readDigit_25 ⟨rfl, rfl⟩

def FX0_readRack (τ : TXS) : Option (Int32 × TXS) :=
  (FX0_byteAt τ τ.2.2.2.1).bind fun z1 =>
  if z1 = (115 : Int32) then
  (some ((-1 : Int32), (τ.1, τ.2.1, τ.2.2.1, τ.2.2.2.1 + (1 : Int32), (-1 : Int32), τ.2.2.2.2.2)))
else
  ((FX0_readDigit τ (5 : Int32)).bind fun z4 =>
  some (z4.1, z4.2))
abbrev rmX0_readRack : Room := { frames := 2, cells := 0, slots := 0, locals := 43 }
set_option maxHeartbeats 4000000 in
set_option maxRecDepth 100000 in
theorem CX0_readRack (l : Launch) (D : va_G) (aτ : Nat → Nat) (τ : TXS) (r0 : Int32) (τ0 : TXS) (hF : FX0_readRack τ = some (r0, τ0)) : Ct l D yX0_readRack cX0_readRack 1 (some .int) rmX0_readRack 0 0 [.ref (aτ 0)] (txW D aτ τ) (fun v w => v = some (.int r0) ∧ w = txW D aτ τ0) := by
  refine Ct.of (own := RX0) (lv := [(0, .ref (aτ 0))]) (by decide +kernel) rfl (Nat.le_of_ble_eq_true rfl) rfl (fun X h hr => ?_)
  unfold FX0_readRack at hF
  refine r_aload_n h 0 rfl rfl dX0_readRack_0 ?_
  refine r_aload_n h 0 rfl rfl dX0_readRack_1 ?_
  refine r_get h fl_X0_28 0 rfl rfl dX0_readRack_2 ?_
  obtain ⟨z1, e2, hF⟩ := o_bind hF
  refine r_callVa (q0 := 0) (rest := []) h hd_X0_byteAt wm_279 dX0_readRack_5 (CX0_byteAt l D aτ τ τ.2.2.2.1 z1 e2) rfl rfl rfl ⟨rfl, rfl⟩ ⟨by decide, by decide⟩ (Nat.le_of_ble_eq_true rfl) ⟨by decide, by decide⟩ rfl (fun v w' hp => ?_)
  obtain ⟨rfl, rfl⟩ := hp
  refine r_bipush (v := 115) h dX0_readRack_8 (by decide) ?_
  refine r_icmp_eq h 19 dX0_readRack_10 (by decide) (fun c3 => ?_) (fun c3 => ?_)
  · replace hF := o_pos c3 hF
    refine r_aload_n h 0 rfl rfl dX0_readRack_19 ?_
    refine r_iconst (v := -1) h dX0_readRack_20 (by decide) ?_
    refine r_put (ws' := txW D aτ (τ.1, τ.2.1, τ.2.2.1, τ.2.2.2.1, (-1 : Int32), τ.2.2.2.2.2)) h fp_X0_31 0 rfl (Nat.le_of_ble_eq_true rfl) rfl rfl rfl dX0_readRack_21 ?_
    refine r_aload_n h 0 rfl rfl dX0_readRack_24 ?_
    refine r_dup h rfl dX0_readRack_25 ?_
    refine r_get h fl_X0_28 0 rfl rfl dX0_readRack_26 ?_
    refine r_iconst (v := 1) h dX0_readRack_29 (by decide) ?_
    refine r_iadd h dX0_readRack_30 ?_
    refine r_put (ws' := txW D aτ (τ.1, τ.2.1, τ.2.2.1, τ.2.2.2.1 + (1 : Int32), (-1 : Int32), τ.2.2.2.2.2)) h fp_X0_28 0 rfl (Nat.le_of_ble_eq_true rfl) rfl rfl rfl dX0_readRack_31 ?_
    refine r_iconst (v := -1) h dX0_readRack_34 (by decide) ?_
    cases hF
    exact r_iret h hr dX0_readRack_35 ⟨rfl, rfl⟩
  · replace hF := o_neg c3 hF
    refine r_aload_n h 0 rfl rfl dX0_readRack_13 ?_
    refine r_iconst (v := 5) h dX0_readRack_14 (by decide) ?_
    obtain ⟨z4, e5, hF⟩ := o_bind hF
    refine r_callVa (q0 := 0) (rest := []) h hd_X0_readDigit wm_311 dX0_readRack_15 (CX0_readDigit l D aτ τ (5 : Int32) z4.1 z4.2 e5) rfl rfl rfl ⟨rfl, rfl⟩ ⟨by decide, by decide⟩ (Nat.le_of_ble_eq_true rfl) ⟨by decide, by decide⟩ rfl (fun v w' hp => ?_)
    obtain ⟨rfl, rfl⟩ := hp
    cases hF
    exact r_iret h hr dX0_readRack_18 ⟨rfl, rfl⟩

def FX0_readStep_J34 (x1 : Int32) (x2 : Int32) (l6_4 : Int32) (t6_τ : TXS) : Option (Int32 × TXS) :=
  if l6_4 = (-1 : Int32) then
  (if x2 = 0 then
  ((FX0_readDigit t6_τ (2 : Int32)).bind fun z11 =>
  (FX2_put (45 : Int32) (3 : Int32) 135 (z11.2.2.2.2.2.2, z11.2.2.1) x1 (2 : Int32) z11.2.2.2.2.2.1).bind fun z13 =>
  some (z11.1, (z11.2.1, z13.2, z11.2.2.2.1, z11.2.2.2.2.1, z11.2.2.2.2.2.1, z13.1)))
else
  ((FX0_readRack t6_τ).bind fun z15 =>
  (FX2_put (45 : Int32) (3 : Int32) 135 (z15.2.2.2.2.2.2, z15.2.2.1) x1 (2 : Int32) z15.2.2.2.2.2.1).bind fun z17 =>
  some (z15.1, (z15.2.1, z17.2, z15.2.2.2.1, z15.2.2.2.2.1, z15.2.2.2.2.2.1, z17.1))))
else
  (some (l6_4, t6_τ))
def FX0_readStep (τ : TXS) (x1 : Int32) (x2 : Int32) (x3 : Int32) : Option (Int32 × TXS) :=
  (FX0_readMachine τ x3).bind fun z1 =>
  (FX2_put (45 : Int32) (3 : Int32) 135 (z1.2.2.2.2.2.2, z1.2.2.1) x1 (1 : Int32) z1.2.2.2.2.2.1).bind fun z3 =>
  if z1.1 = (-1 : Int32) then
  ((FX0_readByte (z1.2.1, z3.2, z1.2.2.2.1, z1.2.2.2.2.1, z1.2.2.2.2.2.1, z3.1) (62 : Int32)).bind fun z7 =>
  FX0_readStep_J34 x1 x2 z7.1 z7.2)
else
  (FX0_readStep_J34 x1 x2 z1.1 (z1.2.1, z3.2, z1.2.2.2.1, z1.2.2.2.2.1, z1.2.2.2.2.2.1, z3.1))
abbrev rmX0_readStep : Room := { frames := 3, cells := 0, slots := 0, locals := 63 }
set_option maxHeartbeats 4000000 in
set_option maxRecDepth 100000 in
theorem CX0_readStep (l : Launch) (D : va_G) (aτ : Nat → Nat) (τ : TXS) (x1 : Int32) (x2 : Int32) (x3 : Int32) (r0 : Int32) (τ0 : TXS) (hF : FX0_readStep τ x1 x2 x3 = some (r0, τ0)) : Ct l D yX0_readStep cX0_readStep 5 (some .int) rmX0_readStep 0 0 [.ref (aτ 0), .int x1, .int x2, .int x3] (txW D aτ τ) (fun v w => v = some (.int r0) ∧ w = txW D aτ τ0) := by
  refine Ct.of (own := RX0) (lv := [(0, .ref (aτ 0)), (1, .int x1), (2, .int x2), (3, .int x3)]) (by decide +kernel) rfl (Nat.le_of_ble_eq_true rfl) rfl (fun X h hr => ?_)
  unfold FX0_readStep at hF
  refine r_aload_n h 0 rfl rfl dX0_readStep_0 ?_
  refine r_iload_n h 3 rfl rfl dX0_readStep_1 ?_
  obtain ⟨z1, e2, hF⟩ := o_bind hF
  refine r_callVa (q0 := 0) (rest := []) h hd_X0_readMachine wm_296 dX0_readStep_2 (CX0_readMachine l D aτ τ x3 z1.1 z1.2 e2) rfl rfl rfl ⟨rfl, rfl⟩ ⟨by decide, by decide⟩ (Nat.le_of_ble_eq_true rfl) ⟨by decide, by decide⟩ rfl (fun v w' hp => ?_)
  obtain ⟨rfl, rfl⟩ := hp
  refine r_istore (lv' := [(4, .int z1.1), (0, .ref (aτ 0)), (1, .int x1), (2, .int x2), (3, .int x3)]) h dX0_readStep_5 (by decide) rfl ?_
  refine r_aload_n h 1 rfl rfl dX0_readStep_7 ?_
  refine r_get h fl_X0_24 0 rfl rfl dX0_readStep_8 ?_
  refine r_iload_n h 2 rfl rfl dX0_readStep_11 ?_
  refine r_iconst (v := 1) h dX0_readStep_12 (by decide) ?_
  refine r_aload_n h 1 rfl rfl dX0_readStep_13 ?_
  refine r_get h fl_X0_31 0 rfl rfl dX0_readStep_14 ?_
  obtain ⟨z3, e4, hF⟩ := o_bind hF
  refine r_callV (q0 := 0) (wr := w_pk (txW D aτ z1.2) [0, 1]) (rest := []) h hd_X2_put wm_291 dX0_readStep_17 (CX2_put l D (aτ 2) (aτ 3) (45 : Int32) (3 : Int32) 135 (z1.2.2.2.2.2.2, z1.2.2.1) x1 (1 : Int32) z1.2.2.2.2.2.1 z3 e4) [2, 3] [0, 1] rfl rfl (by decide +kernel) rfl rfl rfl ⟨rfl, rfl⟩ ⟨by decide, by decide⟩ (Nat.le_of_ble_eq_true rfl) ⟨by decide, by decide⟩ rfl (fun v w' hp => ?_)
  obtain ⟨rfl, rfl⟩ := hp
  refine J.sub (ws' := txW D aτ (z1.2.1, z3.2, z1.2.2.2.1, z1.2.2.2.2.1, z1.2.2.2.2.2.1, z3.1)) [0, 1, 2, 3] rfl (by decide +kernel) ?_
  refine r_iload h 0 rfl dX0_readStep_20 ?_
  refine r_iconst (v := -1) h dX0_readStep_22 (by decide) ?_
  have hJ34 : ∀ (l6_4 : Int32) (t6_τ : TXS), FX0_readStep_J34 x1 x2 l6_4 t6_τ = some (r0, τ0) → J X l rmX0_readStep D 5 0 0 (txW D aτ t6_τ) [(4, .int l6_4), (0, .ref (aτ 0)), (1, .int x1), (2, .int x2), (3, .int x3)] 34 [] := by
    intro l6_4 t6_τ hF
    unfold FX0_readStep_J34 at hF
    refine r_iload h 0 rfl dX0_readStep_34 ?_
    refine r_iconst (v := -1) h dX0_readStep_36 (by decide) ?_
    refine r_icmp_ne h 71 dX0_readStep_37 (by decide) (fun c9 => ?_) (fun c9 => ?_)
    · replace hF := o_neg c9 hF
      refine r_iload h 0 rfl dX0_readStep_71 ?_
      cases hF
      exact r_iret h hr dX0_readStep_73 ⟨rfl, rfl⟩
    · replace hF := o_pos c9 hF
      refine r_iload_n h 3 rfl rfl dX0_readStep_40 ?_
      refine r_if_eq h 51 dX0_readStep_41 (by decide) (fun c10 => ?_) (fun c10 => ?_)
      · replace hF := o_pos c10 hF
        refine r_aload_n h 1 rfl rfl dX0_readStep_51 ?_
        refine r_iconst (v := 2) h dX0_readStep_52 (by decide) ?_
        obtain ⟨z11, e12, hF⟩ := o_bind hF
        refine r_callVa (q0 := 0) (rest := []) h hd_X0_readDigit wm_311 dX0_readStep_53 (CX0_readDigit l D aτ t6_τ (2 : Int32) z11.1 z11.2 e12) rfl rfl rfl ⟨rfl, rfl⟩ ⟨by decide, by decide⟩ (Nat.le_of_ble_eq_true rfl) ⟨by decide, by decide⟩ rfl (fun v w' hp => ?_)
        obtain ⟨rfl, rfl⟩ := hp
        refine r_istore (lv' := [(4, .int z11.1), (0, .ref (aτ 0)), (1, .int x1), (2, .int x2), (3, .int x3)]) h dX0_readStep_56 (by decide) rfl ?_
        refine r_aload_n h 1 rfl rfl dX0_readStep_58 ?_
        refine r_get h fl_X0_24 0 rfl rfl dX0_readStep_59 ?_
        refine r_iload_n h 2 rfl rfl dX0_readStep_62 ?_
        refine r_iconst (v := 2) h dX0_readStep_63 (by decide) ?_
        refine r_aload_n h 1 rfl rfl dX0_readStep_64 ?_
        refine r_get h fl_X0_31 0 rfl rfl dX0_readStep_65 ?_
        obtain ⟨z13, e14, hF⟩ := o_bind hF
        refine r_callV (q0 := 0) (wr := w_pk (txW D aτ z11.2) [0, 1]) (rest := []) h hd_X2_put wm_291 dX0_readStep_68 (CX2_put l D (aτ 2) (aτ 3) (45 : Int32) (3 : Int32) 135 (z11.2.2.2.2.2.2, z11.2.2.1) x1 (2 : Int32) z11.2.2.2.2.2.1 z13 e14) [2, 3] [0, 1] rfl rfl (by decide +kernel) rfl rfl rfl ⟨rfl, rfl⟩ ⟨by decide, by decide⟩ (Nat.le_of_ble_eq_true rfl) ⟨by decide, by decide⟩ rfl (fun v w' hp => ?_)
        obtain ⟨rfl, rfl⟩ := hp
        refine J.sub (ws' := txW D aτ (z11.2.1, z13.2, z11.2.2.2.1, z11.2.2.2.2.1, z11.2.2.2.2.2.1, z13.1)) [0, 1, 2, 3] rfl (by decide +kernel) ?_
        refine r_iload h 0 rfl dX0_readStep_71 ?_
        cases hF
        exact r_iret h hr dX0_readStep_73 ⟨rfl, rfl⟩
      · replace hF := o_neg c10 hF
        refine r_aload_n h 1 rfl rfl dX0_readStep_44 ?_
        obtain ⟨z15, e16, hF⟩ := o_bind hF
        refine r_callVa (q0 := 0) (rest := []) h hd_X0_readRack wm_307 dX0_readStep_45 (CX0_readRack l D aτ t6_τ z15.1 z15.2 e16) rfl rfl rfl ⟨rfl, rfl⟩ ⟨by decide, by decide⟩ (Nat.le_of_ble_eq_true rfl) ⟨by decide, by decide⟩ rfl (fun v w' hp => ?_)
        obtain ⟨rfl, rfl⟩ := hp
        refine r_goto h 56 dX0_readStep_48 (by decide) ?_
        refine r_istore (lv' := [(4, .int z15.1), (0, .ref (aτ 0)), (1, .int x1), (2, .int x2), (3, .int x3)]) h dX0_readStep_56 (by decide) rfl ?_
        refine r_aload_n h 1 rfl rfl dX0_readStep_58 ?_
        refine r_get h fl_X0_24 0 rfl rfl dX0_readStep_59 ?_
        refine r_iload_n h 2 rfl rfl dX0_readStep_62 ?_
        refine r_iconst (v := 2) h dX0_readStep_63 (by decide) ?_
        refine r_aload_n h 1 rfl rfl dX0_readStep_64 ?_
        refine r_get h fl_X0_31 0 rfl rfl dX0_readStep_65 ?_
        obtain ⟨z17, e18, hF⟩ := o_bind hF
        refine r_callV (q0 := 0) (wr := w_pk (txW D aτ z15.2) [0, 1]) (rest := []) h hd_X2_put wm_291 dX0_readStep_68 (CX2_put l D (aτ 2) (aτ 3) (45 : Int32) (3 : Int32) 135 (z15.2.2.2.2.2.2, z15.2.2.1) x1 (2 : Int32) z15.2.2.2.2.2.1 z17 e18) [2, 3] [0, 1] rfl rfl (by decide +kernel) rfl rfl rfl ⟨rfl, rfl⟩ ⟨by decide, by decide⟩ (Nat.le_of_ble_eq_true rfl) ⟨by decide, by decide⟩ rfl (fun v w' hp => ?_)
        obtain ⟨rfl, rfl⟩ := hp
        refine J.sub (ws' := txW D aτ (z15.2.1, z17.2, z15.2.2.2.1, z15.2.2.2.2.1, z15.2.2.2.2.2.1, z17.1)) [0, 1, 2, 3] rfl (by decide +kernel) ?_
        refine r_iload h 0 rfl dX0_readStep_71 ?_
        cases hF
        exact r_iret h hr dX0_readStep_73 ⟨rfl, rfl⟩
  refine r_icmp_ne h 34 dX0_readStep_23 (by decide) (fun c5 => ?_) (fun c5 => ?_)
  · replace hF := o_neg c5 hF
    exact J.loc (lv' := [(4, .int z1.1), (0, .ref (aτ 0)), (1, .int x1), (2, .int x2), (3, .int x3)]) [0, 1, 2, 3, 4] rfl (hJ34 z1.1 (z1.2.1, z3.2, z1.2.2.2.1, z1.2.2.2.2.1, z1.2.2.2.2.2.1, z3.1) hF)
  · replace hF := o_pos c5 hF
    refine r_aload_n h 1 rfl rfl dX0_readStep_26 ?_
    refine r_bipush (v := 62) h dX0_readStep_27 (by decide) ?_
    obtain ⟨z7, e8, hF⟩ := o_bind hF
    refine r_callVa (q0 := 0) (rest := []) h hd_X0_readByte wm_303 dX0_readStep_29 (CX0_readByte l D aτ (z1.2.1, z3.2, z1.2.2.2.1, z1.2.2.2.2.1, z1.2.2.2.2.2.1, z3.1) (62 : Int32) z7.1 z7.2 e8) rfl rfl rfl ⟨rfl, rfl⟩ ⟨by decide, by decide⟩ (Nat.le_of_ble_eq_true rfl) ⟨by decide, by decide⟩ rfl (fun v w' hp => ?_)
    obtain ⟨rfl, rfl⟩ := hp
    refine r_istore (lv' := [(4, .int z7.1), (0, .ref (aτ 0)), (1, .int x1), (2, .int x2), (3, .int x3)]) h dX0_readStep_32 (by decide) rfl ?_
    exact J.loc (lv' := [(4, .int z7.1), (0, .ref (aτ 0)), (1, .int x1), (2, .int x2), (3, .int x3)]) [0, 1, 2, 3, 4] rfl (hJ34 z7.1 z7.2 hF)

def FX0_readPart_J32 (τ : TXS) (x1 : Int32) (z1 : Int32) : Option (Int32 × TXS) :=
  (FX2_addRow (45 : Int32) (3 : Int32) 135 (τ.2.2.2.2.2, τ.2.1)).bind fun z7 =>
  (FX2_put (45 : Int32) (3 : Int32) 135 (z7.2.1, z7.2.2) z7.1 (0 : Int32) z1).bind fun z9 =>
  if z1 = (104 : Int32) then
  (if (-1 : Int32) = (-1 : Int32) then
  ((FX0_readByte (τ.1, z9.2, τ.2.2.1, τ.2.2.2.1 + (1 : Int32), τ.2.2.2.2.1, z9.1) (59 : Int32)).bind fun z24 =>
  some (z24.1, z24.2))
else
  (some ((-1 : Int32), (τ.1, z9.2, τ.2.2.1, τ.2.2.2.1 + (1 : Int32), τ.2.2.2.2.1, z9.1))))
else
  (if z1 = (109 : Int32) then
  ((FX0_readStep (τ.1, z9.2, τ.2.2.1, τ.2.2.2.1 + (1 : Int32), τ.2.2.2.2.1, z9.1) z7.1 (1 : Int32) x1).bind fun z18 =>
  if z18.1 = (-1 : Int32) then
  ((FX0_readByte z18.2 (59 : Int32)).bind fun z21 =>
  some (z21.1, z21.2))
else
  (some (z18.1, z18.2)))
else
  ((FX0_readStep (τ.1, z9.2, τ.2.2.1, τ.2.2.2.1 + (1 : Int32), τ.2.2.2.2.1, z9.1) z7.1 (0 : Int32) x1).bind fun z13 =>
  if z13.1 = (-1 : Int32) then
  ((FX0_readByte z13.2 (59 : Int32)).bind fun z16 =>
  some (z16.1, z16.2))
else
  (some (z13.1, z13.2))))
def FX0_readPart (τ : TXS) (x1 : Int32) : Option (Int32 × TXS) :=
  (FX0_byteAt τ τ.2.2.2.1).bind fun z1 =>
  if z1 = (109 : Int32) then
  (FX0_readPart_J32 τ x1 z1 )
else
  (if z1 = (112 : Int32) then
  (FX0_readPart_J32 τ x1 z1 )
else
  (if z1 = (104 : Int32) then
  (FX0_readPart_J32 τ x1 z1 )
else
  (some (τ.2.2.2.1, τ))))
abbrev rmX0_readPart : Room := { frames := 4, cells := 0, slots := 0, locals := 87 }
set_option maxHeartbeats 4000000 in
set_option maxRecDepth 100000 in
theorem CX0_readPart (l : Launch) (D : va_G) (aτ : Nat → Nat) (τ : TXS) (x1 : Int32) (r0 : Int32) (τ0 : TXS) (hF : FX0_readPart τ x1 = some (r0, τ0)) : Ct l D yX0_readPart cX0_readPart 5 (some .int) rmX0_readPart 0 0 [.ref (aτ 0), .int x1] (txW D aτ τ) (fun v w => v = some (.int r0) ∧ w = txW D aτ τ0) := by
  refine Ct.of (own := RX0) (lv := [(0, .ref (aτ 0)), (1, .int x1)]) (by decide +kernel) rfl (Nat.le_of_ble_eq_true rfl) rfl (fun X h hr => ?_)
  unfold FX0_readPart at hF
  refine r_aload_n h 0 rfl rfl dX0_readPart_0 ?_
  refine r_aload_n h 0 rfl rfl dX0_readPart_1 ?_
  refine r_get h fl_X0_28 0 rfl rfl dX0_readPart_2 ?_
  obtain ⟨z1, e2, hF⟩ := o_bind hF
  refine r_callVa (q0 := 0) (rest := []) h hd_X0_byteAt wm_279 dX0_readPart_5 (CX0_byteAt l D aτ τ τ.2.2.2.1 z1 e2) rfl rfl rfl ⟨rfl, rfl⟩ ⟨by decide, by decide⟩ (Nat.le_of_ble_eq_true rfl) ⟨by decide, by decide⟩ rfl (fun v w' hp => ?_)
  obtain ⟨rfl, rfl⟩ := hp
  refine r_istore_n (lv' := [(2, .int z1), (0, .ref (aτ 0)), (1, .int x1)]) h rfl dX0_readPart_8 (by decide) rfl ?_
  refine r_iload_n h 0 rfl rfl dX0_readPart_9 ?_
  refine r_bipush (v := 109) h dX0_readPart_10 (by decide) ?_
  have hJ32 : FX0_readPart_J32 τ x1 z1 = some (r0, τ0) → J X l rmX0_readPart D 5 0 0 (txW D aτ τ) [(2, .int z1), (0, .ref (aτ 0)), (1, .int x1)] 32 [] := by
    intro hF
    unfold FX0_readPart_J32 at hF
    refine r_aload_n h 1 rfl rfl dX0_readPart_32 ?_
    refine r_dup h rfl dX0_readPart_33 ?_
    refine r_get h fl_X0_28 0 rfl rfl dX0_readPart_34 ?_
    refine r_iconst (v := 1) h dX0_readPart_37 (by decide) ?_
    refine r_iadd h dX0_readPart_38 ?_
    refine r_put (ws' := txW D aτ (τ.1, τ.2.1, τ.2.2.1, τ.2.2.2.1 + (1 : Int32), τ.2.2.2.2.1, τ.2.2.2.2.2)) h fp_X0_28 0 rfl (Nat.le_of_ble_eq_true rfl) rfl rfl rfl dX0_readPart_39 ?_
    refine r_aload_n h 1 rfl rfl dX0_readPart_42 ?_
    refine r_get h fl_X0_24 0 rfl rfl dX0_readPart_43 ?_
    obtain ⟨z7, e8, hF⟩ := o_bind hF
    refine r_callV (q0 := 0) (wr := w_pk (txW D aτ (τ.1, τ.2.1, τ.2.2.1, τ.2.2.2.1 + (1 : Int32), τ.2.2.2.2.1, τ.2.2.2.2.2)) [0, 1]) (rest := []) h hd_X2_addRow wm_283 dX0_readPart_46 (CX2_addRow l D (aτ 2) (aτ 3) (45 : Int32) (3 : Int32) 135 (τ.2.2.2.2.2, τ.2.1) z7.1 z7.2 e8) [2, 3] [0, 1] rfl rfl (by decide +kernel) rfl rfl rfl ⟨rfl, rfl⟩ ⟨by decide, by decide⟩ (Nat.le_of_ble_eq_true rfl) ⟨by decide, by decide⟩ rfl (fun v w' hp => ?_)
    obtain ⟨rfl, rfl⟩ := hp
    refine J.sub (ws' := txW D aτ (τ.1, z7.2.2, τ.2.2.1, τ.2.2.2.1 + (1 : Int32), τ.2.2.2.2.1, z7.2.1)) [0, 1, 2, 3] rfl (by decide +kernel) ?_
    refine r_istore_n (lv' := [(3, .int z7.1), (2, .int z1), (0, .ref (aτ 0)), (1, .int x1)]) h rfl dX0_readPart_49 (by decide) rfl ?_
    refine r_aload_n h 2 rfl rfl dX0_readPart_50 ?_
    refine r_get h fl_X0_24 0 rfl rfl dX0_readPart_51 ?_
    refine r_iload_n h 0 rfl rfl dX0_readPart_54 ?_
    refine r_iconst (v := 0) h dX0_readPart_55 (by decide) ?_
    refine r_iload_n h 1 rfl rfl dX0_readPart_56 ?_
    obtain ⟨z9, e10, hF⟩ := o_bind hF
    refine r_callV (q0 := 0) (wr := w_pk (txW D aτ (τ.1, z7.2.2, τ.2.2.1, τ.2.2.2.1 + (1 : Int32), τ.2.2.2.2.1, z7.2.1)) [0, 1]) (rest := []) h hd_X2_put wm_291 dX0_readPart_57 (CX2_put l D (aτ 2) (aτ 3) (45 : Int32) (3 : Int32) 135 (z7.2.1, z7.2.2) z7.1 (0 : Int32) z1 z9 e10) [2, 3] [0, 1] rfl rfl (by decide +kernel) rfl rfl rfl ⟨rfl, rfl⟩ ⟨by decide, by decide⟩ (Nat.le_of_ble_eq_true rfl) ⟨by decide, by decide⟩ rfl (fun v w' hp => ?_)
    obtain ⟨rfl, rfl⟩ := hp
    refine J.sub (ws' := txW D aτ (τ.1, z9.2, τ.2.2.1, τ.2.2.2.1 + (1 : Int32), τ.2.2.2.2.1, z9.1)) [0, 1, 2, 3] rfl (by decide +kernel) ?_
    refine r_iload_n h 1 rfl rfl dX0_readPart_60 ?_
    refine r_bipush (v := 104) h dX0_readPart_61 (by decide) ?_
    refine r_icmp_ne h 70 dX0_readPart_63 (by decide) (fun c11 => ?_) (fun c11 => ?_)
    · replace hF := o_neg c11 hF
      refine r_aload_n h 2 rfl rfl dX0_readPart_70 ?_
      refine r_iload_n h 0 rfl rfl dX0_readPart_71 ?_
      refine r_iload_n h 1 rfl rfl dX0_readPart_72 ?_
      refine r_bipush (v := 109) h dX0_readPart_73 (by decide) ?_
      refine r_icmp_ne h 82 dX0_readPart_75 (by decide) (fun c12 => ?_) (fun c12 => ?_)
      · replace hF := o_neg c12 hF
        refine r_iconst (v := 0) h dX0_readPart_82 (by decide) ?_
        refine r_iload_n h 3 rfl rfl dX0_readPart_83 ?_
        obtain ⟨z13, e14, hF⟩ := o_bind hF
        refine r_callVa (q0 := 0) (rest := []) h hd_X0_readStep wm_292 dX0_readPart_84 (CX0_readStep l D aτ (τ.1, z9.2, τ.2.2.1, τ.2.2.2.1 + (1 : Int32), τ.2.2.2.2.1, z9.1) z7.1 (0 : Int32) x1 z13.1 z13.2 e14) rfl rfl rfl ⟨rfl, rfl⟩ ⟨by decide, by decide⟩ (Nat.le_of_ble_eq_true rfl) ⟨by decide, by decide⟩ rfl (fun v w' hp => ?_)
        obtain ⟨rfl, rfl⟩ := hp
        refine r_istore (lv' := [(4, .int z13.1), (3, .int z7.1), (2, .int z1), (0, .ref (aτ 0)), (1, .int x1)]) h dX0_readPart_87 (by decide) rfl ?_
        refine r_iload h 0 rfl dX0_readPart_89 ?_
        refine r_iconst (v := -1) h dX0_readPart_91 (by decide) ?_
        refine r_icmp_ne h 104 dX0_readPart_92 (by decide) (fun c15 => ?_) (fun c15 => ?_)
        · replace hF := o_neg c15 hF
          refine r_iload h 0 rfl dX0_readPart_104 ?_
          cases hF
          exact r_iret h hr dX0_readPart_106 ⟨rfl, rfl⟩
        · replace hF := o_pos c15 hF
          refine r_aload_n h 3 rfl rfl dX0_readPart_95 ?_
          refine r_bipush (v := 59) h dX0_readPart_96 (by decide) ?_
          obtain ⟨z16, e17, hF⟩ := o_bind hF
          refine r_callVa (q0 := 0) (rest := []) h hd_X0_readByte wm_303 dX0_readPart_98 (CX0_readByte l D aτ z13.2 (59 : Int32) z16.1 z16.2 e17) rfl rfl rfl ⟨rfl, rfl⟩ ⟨by decide, by decide⟩ (Nat.le_of_ble_eq_true rfl) ⟨by decide, by decide⟩ rfl (fun v w' hp => ?_)
          obtain ⟨rfl, rfl⟩ := hp
          refine r_goto h 106 dX0_readPart_101 (by decide) ?_
          cases hF
          exact r_iret h hr dX0_readPart_106 ⟨rfl, rfl⟩
      · replace hF := o_pos c12 hF
        refine r_iconst (v := 1) h dX0_readPart_78 (by decide) ?_
        refine r_goto h 83 dX0_readPart_79 (by decide) ?_
        refine r_iload_n h 3 rfl rfl dX0_readPart_83 ?_
        obtain ⟨z18, e19, hF⟩ := o_bind hF
        refine r_callVa (q0 := 0) (rest := []) h hd_X0_readStep wm_292 dX0_readPart_84 (CX0_readStep l D aτ (τ.1, z9.2, τ.2.2.1, τ.2.2.2.1 + (1 : Int32), τ.2.2.2.2.1, z9.1) z7.1 (1 : Int32) x1 z18.1 z18.2 e19) rfl rfl rfl ⟨rfl, rfl⟩ ⟨by decide, by decide⟩ (Nat.le_of_ble_eq_true rfl) ⟨by decide, by decide⟩ rfl (fun v w' hp => ?_)
        obtain ⟨rfl, rfl⟩ := hp
        refine r_istore (lv' := [(4, .int z18.1), (3, .int z7.1), (2, .int z1), (0, .ref (aτ 0)), (1, .int x1)]) h dX0_readPart_87 (by decide) rfl ?_
        refine r_iload h 0 rfl dX0_readPart_89 ?_
        refine r_iconst (v := -1) h dX0_readPart_91 (by decide) ?_
        refine r_icmp_ne h 104 dX0_readPart_92 (by decide) (fun c20 => ?_) (fun c20 => ?_)
        · replace hF := o_neg c20 hF
          refine r_iload h 0 rfl dX0_readPart_104 ?_
          cases hF
          exact r_iret h hr dX0_readPart_106 ⟨rfl, rfl⟩
        · replace hF := o_pos c20 hF
          refine r_aload_n h 3 rfl rfl dX0_readPart_95 ?_
          refine r_bipush (v := 59) h dX0_readPart_96 (by decide) ?_
          obtain ⟨z21, e22, hF⟩ := o_bind hF
          refine r_callVa (q0 := 0) (rest := []) h hd_X0_readByte wm_303 dX0_readPart_98 (CX0_readByte l D aτ z18.2 (59 : Int32) z21.1 z21.2 e22) rfl rfl rfl ⟨rfl, rfl⟩ ⟨by decide, by decide⟩ (Nat.le_of_ble_eq_true rfl) ⟨by decide, by decide⟩ rfl (fun v w' hp => ?_)
          obtain ⟨rfl, rfl⟩ := hp
          refine r_goto h 106 dX0_readPart_101 (by decide) ?_
          cases hF
          exact r_iret h hr dX0_readPart_106 ⟨rfl, rfl⟩
    · replace hF := o_pos c11 hF
      refine r_iconst (v := -1) h dX0_readPart_66 (by decide) ?_
      refine r_goto h 87 dX0_readPart_67 (by decide) ?_
      refine r_istore (lv' := [(4, .int (-1 : Int32)), (3, .int z7.1), (2, .int z1), (0, .ref (aτ 0)), (1, .int x1)]) h dX0_readPart_87 (by decide) rfl ?_
      refine r_iload h 0 rfl dX0_readPart_89 ?_
      refine r_iconst (v := -1) h dX0_readPart_91 (by decide) ?_
      refine r_icmp_ne h 104 dX0_readPart_92 (by decide) (fun c23 => ?_) (fun c23 => ?_)
      · replace hF := o_neg c23 hF
        refine r_iload h 0 rfl dX0_readPart_104 ?_
        cases hF
        exact r_iret h hr dX0_readPart_106 ⟨rfl, rfl⟩
      · replace hF := o_pos c23 hF
        refine r_aload_n h 3 rfl rfl dX0_readPart_95 ?_
        refine r_bipush (v := 59) h dX0_readPart_96 (by decide) ?_
        obtain ⟨z24, e25, hF⟩ := o_bind hF
        refine r_callVa (q0 := 0) (rest := []) h hd_X0_readByte wm_303 dX0_readPart_98 (CX0_readByte l D aτ (τ.1, z9.2, τ.2.2.1, τ.2.2.2.1 + (1 : Int32), τ.2.2.2.2.1, z9.1) (59 : Int32) z24.1 z24.2 e25) rfl rfl rfl ⟨rfl, rfl⟩ ⟨by decide, by decide⟩ (Nat.le_of_ble_eq_true rfl) ⟨by decide, by decide⟩ rfl (fun v w' hp => ?_)
        obtain ⟨rfl, rfl⟩ := hp
        refine r_goto h 106 dX0_readPart_101 (by decide) ?_
        cases hF
        exact r_iret h hr dX0_readPart_106 ⟨rfl, rfl⟩
  refine r_icmp_eq h 32 dX0_readPart_12 (by decide) (fun c3 => ?_) (fun c3 => ?_)
  · replace hF := o_pos c3 hF
    exact J.loc (lv' := [(2, .int z1), (0, .ref (aτ 0)), (1, .int x1)]) [0, 1, 2] rfl (hJ32  hF)
  · replace hF := o_neg c3 hF
    refine r_iload_n h 0 rfl rfl dX0_readPart_15 ?_
    refine r_bipush (v := 112) h dX0_readPart_16 (by decide) ?_
    refine r_icmp_eq h 32 dX0_readPart_18 (by decide) (fun c5 => ?_) (fun c5 => ?_)
    · replace hF := o_pos c5 hF
      exact J.loc (lv' := [(2, .int z1), (0, .ref (aτ 0)), (1, .int x1)]) [0, 1, 2] rfl (hJ32  hF)
    · replace hF := o_neg c5 hF
      refine r_iload_n h 0 rfl rfl dX0_readPart_21 ?_
      refine r_bipush (v := 104) h dX0_readPart_22 (by decide) ?_
      refine r_icmp_eq h 32 dX0_readPart_24 (by decide) (fun c6 => ?_) (fun c6 => ?_)
      · replace hF := o_pos c6 hF
        exact J.loc (lv' := [(2, .int z1), (0, .ref (aτ 0)), (1, .int x1)]) [0, 1, 2] rfl (hJ32  hF)
      · replace hF := o_neg c6 hF
        refine r_aload_n h 1 rfl rfl dX0_readPart_27 ?_
        refine r_get h fl_X0_28 0 rfl rfl dX0_readPart_28 ?_
        cases hF
        exact r_iret h hr dX0_readPart_31 ⟨rfl, rfl⟩

def FX0_read_L17 (x1 : Int32) (K : Int32 → Int32 → TXS → Option (Int32 × TXS)) : Nat → Int32 → Int32 → TXS → Option (Int32 × TXS)
  | 0, _, _, _ => none
  | n + 1, y2_3, y2_2, s2_τ =>
  if (90 : Int32) ≤ y2_3 then
  (K y2_3 y2_2 s2_τ)
else
  (if y2_2 = (-1 : Int32) then
  (if s2_τ.2.2.1 ≤ s2_τ.2.2.2.1 then
  (K y2_3 y2_2 s2_τ)
else
  ((FX0_readPart s2_τ x1).bind fun z6 =>
  FX0_read_L17 x1 K n (y2_3 + 1) z6.1 z6.2))
else
  (K y2_3 y2_2 s2_τ))
def FX0_read (τ : TXS) (x1 : Int32) : Option (Int32 × TXS) :=
  FX0_read_L17 x1 (fun (y2_3 : Int32) (y2_2 : Int32) (s2_τ : TXS) =>
  some (y2_2, s2_τ)) FU (0 : Int32) (-1 : Int32) (τ.1, τ.2.1, τ.2.2.1, (0 : Int32), τ.2.2.2.2.1, (0 : Int32))
abbrev rmX0_read : Room := { frames := 5, cells := 0, slots := 0, locals := 111 }
set_option maxHeartbeats 4000000 in
set_option maxRecDepth 100000 in
theorem CX0_read (l : Launch) (D : va_G) (aτ : Nat → Nat) (τ : TXS) (x1 : Int32) (r0 : Int32) (τ0 : TXS) (hF : FX0_read τ x1 = some (r0, τ0)) : Ct l D yX0_read cX0_read 4 (some .int) rmX0_read 0 0 [.ref (aτ 0), .int x1] (txW D aτ τ) (fun v w => v = some (.int r0) ∧ w = txW D aτ τ0) := by
  refine Ct.of (own := RX0) (lv := [(0, .ref (aτ 0)), (1, .int x1)]) (by decide +kernel) rfl (Nat.le_of_ble_eq_true rfl) rfl (fun X h hr => ?_)
  unfold FX0_read at hF
  refine r_aload_n h 0 rfl rfl dX0_read_0 ?_
  refine r_get h fl_X0_24 0 rfl rfl dX0_read_1 ?_
  refine r_iconst (v := 0) h dX0_read_4 (by decide) ?_
  refine r_put (ws' := txW D aτ (τ.1, τ.2.1, τ.2.2.1, τ.2.2.2.1, τ.2.2.2.2.1, (0 : Int32))) h fp_X0_34 2 rfl (Nat.le_of_ble_eq_true rfl) rfl rfl rfl dX0_read_5 ?_
  refine r_aload_n h 0 rfl rfl dX0_read_8 ?_
  refine r_iconst (v := 0) h dX0_read_9 (by decide) ?_
  refine r_put (ws' := txW D aτ (τ.1, τ.2.1, τ.2.2.1, (0 : Int32), τ.2.2.2.2.1, (0 : Int32))) h fp_X0_28 0 rfl (Nat.le_of_ble_eq_true rfl) rfl rfl rfl dX0_read_10 ?_
  refine r_iconst (v := -1) h dX0_read_13 (by decide) ?_
  refine r_istore_n (lv' := [(2, .int (-1 : Int32)), (0, .ref (aτ 0)), (1, .int x1)]) h rfl dX0_read_14 (by decide) rfl ?_
  refine r_iconst (v := 0) h dX0_read_15 (by decide) ?_
  refine r_istore_n (lv' := [(3, .int (0 : Int32)), (2, .int (-1 : Int32)), (0, .ref (aτ 0)), (1, .int x1)]) h rfl dX0_read_16 (by decide) rfl ?_
  have hL17 : ∀ (K : Int32 → Int32 → TXS → Option (Int32 × TXS)) (hK : ∀ (y2_3 : Int32) (y2_2 : Int32) (s2_τ : TXS), K y2_3 y2_2 s2_τ = some (r0, τ0) → J X l rmX0_read D 4 0 0 (txW D aτ s2_τ) [(3, .int y2_3), (2, .int y2_2), (0, .ref (aτ 0)), (1, .int x1)] 51 []) (N : Nat), ∀ (y2_3 : Int32) (y2_2 : Int32) (s2_τ : TXS), FX0_read_L17 x1 K N y2_3 y2_2 s2_τ = some (r0, τ0) → J X l rmX0_read D 4 0 0 (txW D aτ s2_τ) [(3, .int y2_3), (2, .int y2_2), (0, .ref (aτ 0)), (1, .int x1)] 17 [] := by
    intro K hK N
    induction N with
    | zero =>
      intro y2_3 y2_2 s2_τ hF
      cases hF
    | succ N ih =>
      intro y2_3 y2_2 s2_τ hF
      rw [FX0_read_L17] at hF
      refine r_iload_n h 0 rfl rfl dX0_read_17 ?_
      refine r_bipush (v := 90) h dX0_read_18 (by decide) ?_
      refine r_icmp_ge h 51 dX0_read_20 (by decide) (fun c3 => ?_) (fun c3 => ?_)
      · replace hF := o_pos c3 hF
        exact J.loc (lv' := [(3, .int y2_3), (2, .int y2_2), (0, .ref (aτ 0)), (1, .int x1)]) [0, 1, 2, 3] rfl (hK y2_3 y2_2 s2_τ hF)
      · replace hF := o_neg c3 hF
        refine r_iload_n h 1 rfl rfl dX0_read_23 ?_
        refine r_iconst (v := -1) h dX0_read_24 (by decide) ?_
        refine r_icmp_ne h 51 dX0_read_25 (by decide) (fun c4 => ?_) (fun c4 => ?_)
        · replace hF := o_neg c4 hF
          exact J.loc (lv' := [(3, .int y2_3), (2, .int y2_2), (0, .ref (aτ 0)), (1, .int x1)]) [0, 1, 2, 3] rfl (hK y2_3 y2_2 s2_τ hF)
        · replace hF := o_pos c4 hF
          refine r_aload_n h 2 rfl rfl dX0_read_28 ?_
          refine r_get h fl_X0_28 0 rfl rfl dX0_read_29 ?_
          refine r_aload_n h 2 rfl rfl dX0_read_32 ?_
          refine r_get h fl_X0_15 0 rfl rfl dX0_read_33 ?_
          refine r_icmp_ge h 51 dX0_read_36 (by decide) (fun c5 => ?_) (fun c5 => ?_)
          · replace hF := o_pos c5 hF
            exact J.loc (lv' := [(3, .int y2_3), (2, .int y2_2), (0, .ref (aτ 0)), (1, .int x1)]) [0, 1, 2, 3] rfl (hK y2_3 y2_2 s2_τ hF)
          · replace hF := o_neg c5 hF
            refine r_aload_n h 2 rfl rfl dX0_read_39 ?_
            refine r_iload_n h 3 rfl rfl dX0_read_40 ?_
            obtain ⟨z6, e7, hF⟩ := o_bind hF
            refine r_callVa (q0 := 0) (rest := []) h hd_X0_readPart wm_275 dX0_read_41 (CX0_readPart l D aτ s2_τ x1 z6.1 z6.2 e7) rfl rfl rfl ⟨rfl, rfl⟩ ⟨by decide, by decide⟩ (Nat.le_of_ble_eq_true rfl) ⟨by decide, by decide⟩ rfl (fun v w' hp => ?_)
            obtain ⟨rfl, rfl⟩ := hp
            refine r_istore_n (lv' := [(2, .int z6.1), (3, .int y2_3), (0, .ref (aτ 0)), (1, .int x1)]) h rfl dX0_read_44 (by decide) rfl ?_
            refine r_iinc (lv' := [(3, .int (y2_3 + 1)), (2, .int z6.1), (0, .ref (aτ 0)), (1, .int x1)]) h 1 rfl (congrArg (fun z => y2_3 + z) (by decide : Int32.ofInt 1 = 1)) dX0_read_45 (by decide) rfl ?_
            refine r_goto h 17 dX0_read_48 (by decide) ?_
            exact J.loc (lv' := [(3, .int (y2_3 + 1)), (2, .int z6.1), (0, .ref (aτ 0)), (1, .int x1)]) [0, 1, 2, 3] rfl (ih (y2_3 + 1) z6.1 z6.2 hF)
  refine hL17 _ (fun y2_3 y2_2 s2_τ hF => ?_) _ (0 : Int32) (-1 : Int32) (τ.1, τ.2.1, τ.2.2.1, (0 : Int32), τ.2.2.2.2.1, (0 : Int32)) hF
  refine r_iload_n h 1 rfl rfl dX0_read_51 ?_
  cases hF
  exact r_iret h hr dX0_read_52 ⟨rfl, rfl⟩

def FX0_runIn_L4 (τ : TXS) (K : Int32 → Int32 → RS → Option (Int32 × RS)) : Nat → Int32 → Int32 → RS → Option (Int32 × RS)
  | 0, _, _, _ => none
  | n + 1, y2_3, y2_2, s2_ρ =>
  if τ.2.2.2.2.2 ≤ y2_3 then
  (K y2_3 y2_2 s2_ρ)
else
  ((FX2_at (45 : Int32) (3 : Int32) 135 (τ.2.2.2.2.2, τ.2.1) y2_3 (0 : Int32)).bind fun z4 =>
  if z4 = (104 : Int32) then
  (if s2_ρ.2.2.2.2.2.2.2.2.2.2.2.1 < (2000 : Int32) then
  (nmv (s2_ρ.2.2.2.2.2.2.2.2.2.2.2.1 + (1 : Int32)) fun u51 =>
  FX0_runIn_L4 τ K n (y2_3 + 1) y2_2 (s2_ρ.1, s2_ρ.2.1, s2_ρ.2.2.1, s2_ρ.2.2.2.1, s2_ρ.2.2.2.2.1, s2_ρ.2.2.2.2.2.1, s2_ρ.2.2.2.2.2.2.1, s2_ρ.2.2.2.2.2.2.2.1, s2_ρ.2.2.2.2.2.2.2.2.1, s2_ρ.2.2.2.2.2.2.2.2.2.1, s2_ρ.2.2.2.2.2.2.2.2.2.2.1, u51, s2_ρ.2.2.2.2.2.2.2.2.2.2.2.2.1, s2_ρ.2.2.2.2.2.2.2.2.2.2.2.2.2))
else
  (some ((-9999 : Int32), s2_ρ)))
else
  ((FX2_at (45 : Int32) (3 : Int32) 135 (τ.2.2.2.2.2, τ.2.1) y2_3 (1 : Int32)).bind fun z7 =>
  (FX2_at (45 : Int32) (3 : Int32) 135 (τ.2.2.2.2.2, τ.2.1) y2_3 (2 : Int32)).bind fun z9 =>
  if z4 = (109 : Int32) then
  (if (1 : Int32) = 0 then
  ((FX1_whyNotChange s2_ρ z7 z9).bind fun z32 =>
  if z32.1 = 0 then
  (if (1 : Int32) = 0 then
  ((FX1_doChange z32.2 z7 z9).bind fun z36 =>
  FX0_runIn_L4 τ K n (y2_3 + 1) (y2_2 + 1) z36)
else
  ((FX1_doMove z32.2 z7 z9).bind fun z38 =>
  FX0_runIn_L4 τ K n (y2_3 + 1) (y2_2 + 1) z38))
else
  (nmv ((-1000 : Int32) - ((10 : Int32) * y2_2)) fun u40 =>
  some (u40 - z32.1, z32.2)))
else
  ((FX1_whyNotMove s2_ρ z7 z9).bind fun z41 =>
  if z41.1 = 0 then
  (if (1 : Int32) = 0 then
  ((FX1_doChange z41.2 z7 z9).bind fun z45 =>
  FX0_runIn_L4 τ K n (y2_3 + 1) (y2_2 + 1) z45)
else
  ((FX1_doMove z41.2 z7 z9).bind fun z47 =>
  FX0_runIn_L4 τ K n (y2_3 + 1) (y2_2 + 1) z47))
else
  (nmv ((-1000 : Int32) - ((10 : Int32) * y2_2)) fun u49 =>
  some (u49 - z41.1, z41.2))))
else
  (if (0 : Int32) = 0 then
  ((FX1_whyNotChange s2_ρ z7 z9).bind fun z13 =>
  if z13.1 = 0 then
  (if (0 : Int32) = 0 then
  ((FX1_doChange z13.2 z7 z9).bind fun z17 =>
  FX0_runIn_L4 τ K n (y2_3 + 1) (y2_2 + 1) z17)
else
  ((FX1_doMove z13.2 z7 z9).bind fun z19 =>
  FX0_runIn_L4 τ K n (y2_3 + 1) (y2_2 + 1) z19))
else
  (nmv ((-1000 : Int32) - ((10 : Int32) * y2_2)) fun u21 =>
  some (u21 - z13.1, z13.2)))
else
  ((FX1_whyNotMove s2_ρ z7 z9).bind fun z22 =>
  if z22.1 = 0 then
  (if (0 : Int32) = 0 then
  ((FX1_doChange z22.2 z7 z9).bind fun z26 =>
  FX0_runIn_L4 τ K n (y2_3 + 1) (y2_2 + 1) z26)
else
  ((FX1_doMove z22.2 z7 z9).bind fun z28 =>
  FX0_runIn_L4 τ K n (y2_3 + 1) (y2_2 + 1) z28))
else
  (nmv ((-1000 : Int32) - ((10 : Int32) * y2_2)) fun u30 =>
  some (u30 - z22.1, z22.2))))))
def FX0_runIn (τ : TXS) (ρ : RS) : Option (Int32 × RS) :=
  FX0_runIn_L4 τ (fun (y2_3 : Int32) (y2_2 : Int32) (s2_ρ : RS) =>
  some (y2_2, s2_ρ)) FU (0 : Int32) (0 : Int32) ρ
abbrev rmX0_runIn : Room := { frames := 6, cells := 0, slots := 0, locals := 142 }
set_option maxHeartbeats 4000000 in
set_option maxRecDepth 100000 in
theorem CX0_runIn (l : Launch) (D : va_G) (aτ : Nat → Nat) (aρ : Nat → Nat) (τ : TXS) (ρ : RS) (r0 : Int32) (ρ0 : RS) (hF : FX0_runIn τ ρ = some (r0, ρ0)) : Ct l D yX0_runIn cX0_runIn 9 (some .int) rmX0_runIn 0 0 [.ref (aτ 0), .ref (aρ 0)] (txW D aτ τ ++ rmW D aρ ρ) (fun v w => v = some (.int r0) ∧ w = (txW D aτ τ ++ rmW D aρ ρ0)) := by
  refine Ct.of (own := RX0) (lv := [(0, .ref (aτ 0)), (1, .ref (aρ 0))]) (by decide +kernel) rfl (Nat.le_of_ble_eq_true rfl) rfl (fun X h hr => ?_)
  unfold FX0_runIn at hF
  refine r_iconst (v := 0) h dX0_runIn_0 (by decide) ?_
  refine r_istore_n (lv' := [(2, .int (0 : Int32)), (0, .ref (aτ 0)), (1, .ref (aρ 0))]) h rfl dX0_runIn_1 (by decide) rfl ?_
  refine r_iconst (v := 0) h dX0_runIn_2 (by decide) ?_
  refine r_istore_n (lv' := [(3, .int (0 : Int32)), (2, .int (0 : Int32)), (0, .ref (aτ 0)), (1, .ref (aρ 0))]) h rfl dX0_runIn_3 (by decide) rfl ?_
  have hL4 : ∀ (K : Int32 → Int32 → RS → Option (Int32 × RS)) (hK : ∀ (y2_3 : Int32) (y2_2 : Int32) (s2_ρ : RS), K y2_3 y2_2 s2_ρ = some (r0, ρ0) → J X l rmX0_runIn D 9 0 0 ((txW D aτ τ ++ rmW D aρ s2_ρ)) [(3, .int y2_3), (2, .int y2_2), (0, .ref (aτ 0)), (1, .ref (aρ 0))] 172 []) (N : Nat), ∀ (y2_3 : Int32) (y2_2 : Int32) (s2_ρ : RS), FX0_runIn_L4 τ K N y2_3 y2_2 s2_ρ = some (r0, ρ0) → J X l rmX0_runIn D 9 0 0 ((txW D aτ τ ++ rmW D aρ s2_ρ)) [(3, .int y2_3), (2, .int y2_2), (0, .ref (aτ 0)), (1, .ref (aρ 0))] 4 [] := by
    intro K hK N
    induction N with
    | zero =>
      intro y2_3 y2_2 s2_ρ hF
      cases hF
    | succ N ih =>
      intro y2_3 y2_2 s2_ρ hF
      rw [FX0_runIn_L4] at hF
      refine r_iload_n h 0 rfl rfl dX0_runIn_4 ?_
      refine r_aload_n h 2 rfl rfl dX0_runIn_5 ?_
      refine r_get h fl_X0_24 0 rfl rfl dX0_runIn_6 ?_
      refine r_get h fl_X0_34 2 rfl rfl dX0_runIn_9 ?_
      refine r_icmp_ge h 172 dX0_runIn_12 (by decide) (fun c3 => ?_) (fun c3 => ?_)
      · replace hF := o_pos c3 hF
        exact J.loc (lv' := [(3, .int y2_3), (2, .int y2_2), (0, .ref (aτ 0)), (1, .ref (aρ 0))]) [0, 1, 2, 3] rfl (hK y2_3 y2_2 s2_ρ hF)
      · replace hF := o_neg c3 hF
        refine r_aload_n h 2 rfl rfl dX0_runIn_15 ?_
        refine r_get h fl_X0_24 0 rfl rfl dX0_runIn_16 ?_
        refine r_iload_n h 0 rfl rfl dX0_runIn_19 ?_
        refine r_iconst (v := 0) h dX0_runIn_20 (by decide) ?_
        obtain ⟨z4, e5, hF⟩ := o_bind hF
        refine r_callV (q0 := 0) (wr := w_pk (txW D aτ τ ++ rmW D aρ s2_ρ) [0, 1, 4, 5, 6, 7, 8, 9, 10, 11, 12, 13, 14]) (rest := []) h hd_X2_at wm_319 dX0_runIn_21 (CX2_at l D (aτ 2) (aτ 3) (45 : Int32) (3 : Int32) 135 (τ.2.2.2.2.2, τ.2.1) y2_3 (0 : Int32) z4 e5) [2, 3] [0, 1, 4, 5, 6, 7, 8, 9, 10, 11, 12, 13, 14] rfl rfl (by decide +kernel) rfl rfl rfl ⟨rfl, rfl⟩ ⟨by decide, by decide⟩ (Nat.le_of_ble_eq_true rfl) ⟨by decide, by decide⟩ rfl (fun v w' hp => ?_)
        obtain ⟨rfl, rfl⟩ := hp
        refine J.sub (ws' := (txW D aτ τ ++ rmW D aρ s2_ρ)) [0, 1, 13, 14, 2, 3, 4, 5, 6, 7, 8, 9, 10, 11, 12] rfl (by decide +kernel) ?_
        refine r_istore (lv' := [(4, .int z4), (3, .int y2_3), (2, .int y2_2), (0, .ref (aτ 0)), (1, .ref (aρ 0))]) h dX0_runIn_24 (by decide) rfl ?_
        refine r_iload h 0 rfl dX0_runIn_26 ?_
        refine r_bipush (v := 104) h dX0_runIn_28 (by decide) ?_
        refine r_icmp_ne h 60 dX0_runIn_30 (by decide) (fun c6 => ?_) (fun c6 => ?_)
        · replace hF := o_neg c6 hF
          refine r_aload_n h 3 rfl rfl dX0_runIn_60 ?_
          refine r_get h fl_X0_24 0 rfl rfl dX0_runIn_61 ?_
          refine r_iload_n h 1 rfl rfl dX0_runIn_64 ?_
          refine r_iconst (v := 1) h dX0_runIn_65 (by decide) ?_
          obtain ⟨z7, e8, hF⟩ := o_bind hF
          refine r_callV (q0 := 0) (wr := w_pk (txW D aτ τ ++ rmW D aρ s2_ρ) [0, 1, 4, 5, 6, 7, 8, 9, 10, 11, 12, 13, 14]) (rest := []) h hd_X2_at wm_319 dX0_runIn_66 (CX2_at l D (aτ 2) (aτ 3) (45 : Int32) (3 : Int32) 135 (τ.2.2.2.2.2, τ.2.1) y2_3 (1 : Int32) z7 e8) [2, 3] [0, 1, 4, 5, 6, 7, 8, 9, 10, 11, 12, 13, 14] rfl rfl (by decide +kernel) rfl rfl rfl ⟨rfl, rfl⟩ ⟨by decide, by decide⟩ (Nat.le_of_ble_eq_true rfl) ⟨by decide, by decide⟩ rfl (fun v w' hp => ?_)
          obtain ⟨rfl, rfl⟩ := hp
          refine J.sub (ws' := (txW D aτ τ ++ rmW D aρ s2_ρ)) [0, 1, 13, 14, 2, 3, 4, 5, 6, 7, 8, 9, 10, 11, 12] rfl (by decide +kernel) ?_
          refine r_istore (lv' := [(5, .int z7), (4, .int z4), (3, .int y2_3), (2, .int y2_2), (0, .ref (aτ 0)), (1, .ref (aρ 0))]) h dX0_runIn_69 (by decide) rfl ?_
          refine r_aload_n h 4 rfl rfl dX0_runIn_71 ?_
          refine r_get h fl_X0_24 0 rfl rfl dX0_runIn_72 ?_
          refine r_iload_n h 2 rfl rfl dX0_runIn_75 ?_
          refine r_iconst (v := 2) h dX0_runIn_76 (by decide) ?_
          obtain ⟨z9, e10, hF⟩ := o_bind hF
          refine r_callV (q0 := 0) (wr := w_pk (txW D aτ τ ++ rmW D aρ s2_ρ) [0, 1, 4, 5, 6, 7, 8, 9, 10, 11, 12, 13, 14]) (rest := []) h hd_X2_at wm_319 dX0_runIn_77 (CX2_at l D (aτ 2) (aτ 3) (45 : Int32) (3 : Int32) 135 (τ.2.2.2.2.2, τ.2.1) y2_3 (2 : Int32) z9 e10) [2, 3] [0, 1, 4, 5, 6, 7, 8, 9, 10, 11, 12, 13, 14] rfl rfl (by decide +kernel) rfl rfl rfl ⟨rfl, rfl⟩ ⟨by decide, by decide⟩ (Nat.le_of_ble_eq_true rfl) ⟨by decide, by decide⟩ rfl (fun v w' hp => ?_)
          obtain ⟨rfl, rfl⟩ := hp
          refine J.sub (ws' := (txW D aτ τ ++ rmW D aρ s2_ρ)) [0, 1, 13, 14, 2, 3, 4, 5, 6, 7, 8, 9, 10, 11, 12] rfl (by decide +kernel) ?_
          refine r_istore (lv' := [(6, .int z9), (5, .int z7), (4, .int z4), (3, .int y2_3), (2, .int y2_2), (0, .ref (aτ 0)), (1, .ref (aρ 0))]) h dX0_runIn_80 (by decide) rfl ?_
          refine r_iload h 2 rfl dX0_runIn_82 ?_
          refine r_bipush (v := 109) h dX0_runIn_84 (by decide) ?_
          refine r_icmp_ne h 93 dX0_runIn_86 (by decide) (fun c11 => ?_) (fun c11 => ?_)
          · replace hF := o_neg c11 hF
            refine r_iconst (v := 0) h dX0_runIn_93 (by decide) ?_
            refine r_istore (lv' := [(7, .int (0 : Int32)), (6, .int z9), (5, .int z7), (4, .int z4), (3, .int y2_3), (2, .int y2_2), (0, .ref (aτ 0)), (1, .ref (aρ 0))]) h dX0_runIn_94 (by decide) rfl ?_
            refine r_iload h 0 rfl dX0_runIn_96 ?_
            refine r_if_eq h 112 dX0_runIn_98 (by decide) (fun c12 => ?_) (fun c12 => ?_)
            · replace hF := o_pos c12 hF
              refine r_aload_n h 7 rfl rfl dX0_runIn_112 ?_
              refine r_iload h 2 rfl dX0_runIn_113 ?_
              refine r_iload h 1 rfl dX0_runIn_115 ?_
              obtain ⟨z13, e14, hF⟩ := o_bind hF
              refine r_callV (q0 := 0) (wr := w_pk (txW D aτ τ ++ rmW D aρ s2_ρ) [0, 1, 2, 3]) (rest := []) h hd_X1_whyNotChange wm_332 dX0_runIn_117 (CX1_whyNotChange l D aρ s2_ρ z7 z9 z13.1 z13.2 e14) [4, 5, 6, 7, 8, 9, 10, 11, 12, 13, 14] [0, 1, 2, 3] rfl rfl (by decide +kernel) rfl rfl rfl ⟨rfl, rfl⟩ ⟨by decide, by decide⟩ (Nat.le_of_ble_eq_true rfl) ⟨by decide, by decide⟩ rfl (fun v w' hp => ?_)
              obtain ⟨rfl, rfl⟩ := hp
              refine J.sub (ws' := (txW D aτ τ ++ rmW D aρ z13.2)) [0, 1, 2, 3, 4, 5, 6, 7, 8, 9, 10, 11, 12, 13, 14] rfl (by decide +kernel) ?_
              refine r_istore (lv' := [(8, .int z13.1), (7, .int (0 : Int32)), (6, .int z9), (5, .int z7), (4, .int z4), (3, .int y2_3), (2, .int y2_2), (0, .ref (aτ 0)), (1, .ref (aρ 0))]) h dX0_runIn_120 (by decide) rfl ?_
              refine r_iload h 0 rfl dX0_runIn_122 ?_
              refine r_if_eq h 139 dX0_runIn_124 (by decide) (fun c15 => ?_) (fun c15 => ?_)
              · replace hF := o_pos c15 hF
                refine r_iload h 1 rfl dX0_runIn_139 ?_
                refine r_if_eq h 155 dX0_runIn_141 (by decide) (fun c16 => ?_) (fun c16 => ?_)
                · replace hF := o_pos c16 hF
                  refine r_aload_n h 8 rfl rfl dX0_runIn_155 ?_
                  refine r_iload h 3 rfl dX0_runIn_156 ?_
                  refine r_iload h 2 rfl dX0_runIn_158 ?_
                  obtain ⟨z17, e18, hF⟩ := o_bind hF
                  refine r_callV (q0 := 0) (wr := w_pk (txW D aτ τ ++ rmW D aρ z13.2) [0, 1, 2, 3]) (rest := []) h hd_X1_doChange wm_343 dX0_runIn_160 (CX1_doChange l D aρ z13.2 z7 z9 z17 e18) [4, 5, 6, 7, 8, 9, 10, 11, 12, 13, 14] [0, 1, 2, 3] rfl rfl (by decide +kernel) rfl rfl rfl ⟨rfl, rfl⟩ ⟨by decide, by decide⟩ (Nat.le_of_ble_eq_true rfl) ⟨by decide, by decide⟩ rfl (fun v w' hp => ?_)
                  obtain ⟨rfl, rfl⟩ := hp
                  refine J.sub (ws' := (txW D aτ τ ++ rmW D aρ z17)) [0, 1, 2, 3, 4, 5, 6, 7, 8, 9, 10, 11, 12, 13, 14] rfl (by decide +kernel) ?_
                  refine r_iinc (lv' := [(2, .int (y2_2 + 1)), (8, .int z13.1), (7, .int (0 : Int32)), (6, .int z9), (5, .int z7), (4, .int z4), (3, .int y2_3), (0, .ref (aτ 0)), (1, .ref (aρ 0))]) h 6 rfl (congrArg (fun z => y2_2 + z) (by decide : Int32.ofInt 1 = 1)) dX0_runIn_163 (by decide) rfl ?_
                  refine r_iinc (lv' := [(3, .int (y2_3 + 1)), (2, .int (y2_2 + 1)), (8, .int z13.1), (7, .int (0 : Int32)), (6, .int z9), (5, .int z7), (4, .int z4), (0, .ref (aτ 0)), (1, .ref (aρ 0))]) h 6 rfl (congrArg (fun z => y2_3 + z) (by decide : Int32.ofInt 1 = 1)) dX0_runIn_166 (by decide) rfl ?_
                  refine r_goto h 4 dX0_runIn_169 (by decide) ?_
                  exact J.loc (lv' := [(3, .int (y2_3 + 1)), (2, .int (y2_2 + 1)), (0, .ref (aτ 0)), (1, .ref (aρ 0))]) [0, 1, 7, 8] rfl (ih (y2_3 + 1) (y2_2 + 1) z17 hF)
                · replace hF := o_neg c16 hF
                  refine r_aload_n h 8 rfl rfl dX0_runIn_144 ?_
                  refine r_iload h 3 rfl dX0_runIn_145 ?_
                  refine r_iload h 2 rfl dX0_runIn_147 ?_
                  obtain ⟨z19, e20, hF⟩ := o_bind hF
                  refine r_callV (q0 := 0) (wr := w_pk (txW D aτ τ ++ rmW D aρ z13.2) [0, 1, 2, 3]) (rest := []) h hd_X1_doMove wm_333 dX0_runIn_149 (CX1_doMove l D aρ z13.2 z7 z9 z19 e20) [4, 5, 6, 7, 8, 9, 10, 11, 12, 13, 14] [0, 1, 2, 3] rfl rfl (by decide +kernel) rfl rfl rfl ⟨rfl, rfl⟩ ⟨by decide, by decide⟩ (Nat.le_of_ble_eq_true rfl) ⟨by decide, by decide⟩ rfl (fun v w' hp => ?_)
                  obtain ⟨rfl, rfl⟩ := hp
                  refine J.sub (ws' := (txW D aτ τ ++ rmW D aρ z19)) [0, 1, 2, 3, 4, 5, 6, 7, 8, 9, 10, 11, 12, 13, 14] rfl (by decide +kernel) ?_
                  refine r_goto h 163 dX0_runIn_152 (by decide) ?_
                  refine r_iinc (lv' := [(2, .int (y2_2 + 1)), (8, .int z13.1), (7, .int (0 : Int32)), (6, .int z9), (5, .int z7), (4, .int z4), (3, .int y2_3), (0, .ref (aτ 0)), (1, .ref (aρ 0))]) h 6 rfl (congrArg (fun z => y2_2 + z) (by decide : Int32.ofInt 1 = 1)) dX0_runIn_163 (by decide) rfl ?_
                  refine r_iinc (lv' := [(3, .int (y2_3 + 1)), (2, .int (y2_2 + 1)), (8, .int z13.1), (7, .int (0 : Int32)), (6, .int z9), (5, .int z7), (4, .int z4), (0, .ref (aτ 0)), (1, .ref (aρ 0))]) h 6 rfl (congrArg (fun z => y2_3 + z) (by decide : Int32.ofInt 1 = 1)) dX0_runIn_166 (by decide) rfl ?_
                  refine r_goto h 4 dX0_runIn_169 (by decide) ?_
                  exact J.loc (lv' := [(3, .int (y2_3 + 1)), (2, .int (y2_2 + 1)), (0, .ref (aτ 0)), (1, .ref (aρ 0))]) [0, 1, 7, 8] rfl (ih (y2_3 + 1) (y2_2 + 1) z19 hF)
              · replace hF := o_neg c15 hF
                refine r_sipush (v := -1000) h dX0_runIn_127 (by decide) ?_
                refine r_bipush (v := 10) h dX0_runIn_130 (by decide) ?_
                refine r_iload_n h 6 rfl rfl dX0_runIn_132 ?_
                refine r_imul h dX0_runIn_133 ?_
                refine r_isub h dX0_runIn_134 ?_
                obtain ⟨u21, hu21, hF⟩ := o_nm hF
                refine J.top hu21 ?_
                refine r_iload h 0 rfl dX0_runIn_135 ?_
                refine r_isub h dX0_runIn_137 ?_
                cases hF
                exact r_iret h hr dX0_runIn_138 ⟨rfl, rfl⟩
            · replace hF := o_neg c12 hF
              refine r_aload_n h 7 rfl rfl dX0_runIn_101 ?_
              refine r_iload h 2 rfl dX0_runIn_102 ?_
              refine r_iload h 1 rfl dX0_runIn_104 ?_
              obtain ⟨z22, e23, hF⟩ := o_bind hF
              refine r_callV (q0 := 0) (wr := w_pk (txW D aτ τ ++ rmW D aρ s2_ρ) [0, 1, 2, 3]) (rest := []) h hd_X1_whyNotMove wm_320 dX0_runIn_106 (CX1_whyNotMove l D aρ s2_ρ z7 z9 z22.1 z22.2 e23) [4, 5, 6, 7, 8, 9, 10, 11, 12, 13, 14] [0, 1, 2, 3] rfl rfl (by decide +kernel) rfl rfl rfl ⟨rfl, rfl⟩ ⟨by decide, by decide⟩ (Nat.le_of_ble_eq_true rfl) ⟨by decide, by decide⟩ rfl (fun v w' hp => ?_)
              obtain ⟨rfl, rfl⟩ := hp
              refine J.sub (ws' := (txW D aτ τ ++ rmW D aρ z22.2)) [0, 1, 2, 3, 4, 5, 6, 7, 8, 9, 10, 11, 12, 13, 14] rfl (by decide +kernel) ?_
              refine r_goto h 120 dX0_runIn_109 (by decide) ?_
              refine r_istore (lv' := [(8, .int z22.1), (7, .int (0 : Int32)), (6, .int z9), (5, .int z7), (4, .int z4), (3, .int y2_3), (2, .int y2_2), (0, .ref (aτ 0)), (1, .ref (aρ 0))]) h dX0_runIn_120 (by decide) rfl ?_
              refine r_iload h 0 rfl dX0_runIn_122 ?_
              refine r_if_eq h 139 dX0_runIn_124 (by decide) (fun c24 => ?_) (fun c24 => ?_)
              · replace hF := o_pos c24 hF
                refine r_iload h 1 rfl dX0_runIn_139 ?_
                refine r_if_eq h 155 dX0_runIn_141 (by decide) (fun c25 => ?_) (fun c25 => ?_)
                · replace hF := o_pos c25 hF
                  refine r_aload_n h 8 rfl rfl dX0_runIn_155 ?_
                  refine r_iload h 3 rfl dX0_runIn_156 ?_
                  refine r_iload h 2 rfl dX0_runIn_158 ?_
                  obtain ⟨z26, e27, hF⟩ := o_bind hF
                  refine r_callV (q0 := 0) (wr := w_pk (txW D aτ τ ++ rmW D aρ z22.2) [0, 1, 2, 3]) (rest := []) h hd_X1_doChange wm_343 dX0_runIn_160 (CX1_doChange l D aρ z22.2 z7 z9 z26 e27) [4, 5, 6, 7, 8, 9, 10, 11, 12, 13, 14] [0, 1, 2, 3] rfl rfl (by decide +kernel) rfl rfl rfl ⟨rfl, rfl⟩ ⟨by decide, by decide⟩ (Nat.le_of_ble_eq_true rfl) ⟨by decide, by decide⟩ rfl (fun v w' hp => ?_)
                  obtain ⟨rfl, rfl⟩ := hp
                  refine J.sub (ws' := (txW D aτ τ ++ rmW D aρ z26)) [0, 1, 2, 3, 4, 5, 6, 7, 8, 9, 10, 11, 12, 13, 14] rfl (by decide +kernel) ?_
                  refine r_iinc (lv' := [(2, .int (y2_2 + 1)), (8, .int z22.1), (7, .int (0 : Int32)), (6, .int z9), (5, .int z7), (4, .int z4), (3, .int y2_3), (0, .ref (aτ 0)), (1, .ref (aρ 0))]) h 6 rfl (congrArg (fun z => y2_2 + z) (by decide : Int32.ofInt 1 = 1)) dX0_runIn_163 (by decide) rfl ?_
                  refine r_iinc (lv' := [(3, .int (y2_3 + 1)), (2, .int (y2_2 + 1)), (8, .int z22.1), (7, .int (0 : Int32)), (6, .int z9), (5, .int z7), (4, .int z4), (0, .ref (aτ 0)), (1, .ref (aρ 0))]) h 6 rfl (congrArg (fun z => y2_3 + z) (by decide : Int32.ofInt 1 = 1)) dX0_runIn_166 (by decide) rfl ?_
                  refine r_goto h 4 dX0_runIn_169 (by decide) ?_
                  exact J.loc (lv' := [(3, .int (y2_3 + 1)), (2, .int (y2_2 + 1)), (0, .ref (aτ 0)), (1, .ref (aρ 0))]) [0, 1, 7, 8] rfl (ih (y2_3 + 1) (y2_2 + 1) z26 hF)
                · replace hF := o_neg c25 hF
                  refine r_aload_n h 8 rfl rfl dX0_runIn_144 ?_
                  refine r_iload h 3 rfl dX0_runIn_145 ?_
                  refine r_iload h 2 rfl dX0_runIn_147 ?_
                  obtain ⟨z28, e29, hF⟩ := o_bind hF
                  refine r_callV (q0 := 0) (wr := w_pk (txW D aτ τ ++ rmW D aρ z22.2) [0, 1, 2, 3]) (rest := []) h hd_X1_doMove wm_333 dX0_runIn_149 (CX1_doMove l D aρ z22.2 z7 z9 z28 e29) [4, 5, 6, 7, 8, 9, 10, 11, 12, 13, 14] [0, 1, 2, 3] rfl rfl (by decide +kernel) rfl rfl rfl ⟨rfl, rfl⟩ ⟨by decide, by decide⟩ (Nat.le_of_ble_eq_true rfl) ⟨by decide, by decide⟩ rfl (fun v w' hp => ?_)
                  obtain ⟨rfl, rfl⟩ := hp
                  refine J.sub (ws' := (txW D aτ τ ++ rmW D aρ z28)) [0, 1, 2, 3, 4, 5, 6, 7, 8, 9, 10, 11, 12, 13, 14] rfl (by decide +kernel) ?_
                  refine r_goto h 163 dX0_runIn_152 (by decide) ?_
                  refine r_iinc (lv' := [(2, .int (y2_2 + 1)), (8, .int z22.1), (7, .int (0 : Int32)), (6, .int z9), (5, .int z7), (4, .int z4), (3, .int y2_3), (0, .ref (aτ 0)), (1, .ref (aρ 0))]) h 6 rfl (congrArg (fun z => y2_2 + z) (by decide : Int32.ofInt 1 = 1)) dX0_runIn_163 (by decide) rfl ?_
                  refine r_iinc (lv' := [(3, .int (y2_3 + 1)), (2, .int (y2_2 + 1)), (8, .int z22.1), (7, .int (0 : Int32)), (6, .int z9), (5, .int z7), (4, .int z4), (0, .ref (aτ 0)), (1, .ref (aρ 0))]) h 6 rfl (congrArg (fun z => y2_3 + z) (by decide : Int32.ofInt 1 = 1)) dX0_runIn_166 (by decide) rfl ?_
                  refine r_goto h 4 dX0_runIn_169 (by decide) ?_
                  exact J.loc (lv' := [(3, .int (y2_3 + 1)), (2, .int (y2_2 + 1)), (0, .ref (aτ 0)), (1, .ref (aρ 0))]) [0, 1, 7, 8] rfl (ih (y2_3 + 1) (y2_2 + 1) z28 hF)
              · replace hF := o_neg c24 hF
                refine r_sipush (v := -1000) h dX0_runIn_127 (by decide) ?_
                refine r_bipush (v := 10) h dX0_runIn_130 (by decide) ?_
                refine r_iload_n h 6 rfl rfl dX0_runIn_132 ?_
                refine r_imul h dX0_runIn_133 ?_
                refine r_isub h dX0_runIn_134 ?_
                obtain ⟨u30, hu30, hF⟩ := o_nm hF
                refine J.top hu30 ?_
                refine r_iload h 0 rfl dX0_runIn_135 ?_
                refine r_isub h dX0_runIn_137 ?_
                cases hF
                exact r_iret h hr dX0_runIn_138 ⟨rfl, rfl⟩
          · replace hF := o_pos c11 hF
            refine r_iconst (v := 1) h dX0_runIn_89 (by decide) ?_
            refine r_goto h 94 dX0_runIn_90 (by decide) ?_
            refine r_istore (lv' := [(7, .int (1 : Int32)), (6, .int z9), (5, .int z7), (4, .int z4), (3, .int y2_3), (2, .int y2_2), (0, .ref (aτ 0)), (1, .ref (aρ 0))]) h dX0_runIn_94 (by decide) rfl ?_
            refine r_iload h 0 rfl dX0_runIn_96 ?_
            refine r_if_eq h 112 dX0_runIn_98 (by decide) (fun c31 => ?_) (fun c31 => ?_)
            · replace hF := o_pos c31 hF
              refine r_aload_n h 7 rfl rfl dX0_runIn_112 ?_
              refine r_iload h 2 rfl dX0_runIn_113 ?_
              refine r_iload h 1 rfl dX0_runIn_115 ?_
              obtain ⟨z32, e33, hF⟩ := o_bind hF
              refine r_callV (q0 := 0) (wr := w_pk (txW D aτ τ ++ rmW D aρ s2_ρ) [0, 1, 2, 3]) (rest := []) h hd_X1_whyNotChange wm_332 dX0_runIn_117 (CX1_whyNotChange l D aρ s2_ρ z7 z9 z32.1 z32.2 e33) [4, 5, 6, 7, 8, 9, 10, 11, 12, 13, 14] [0, 1, 2, 3] rfl rfl (by decide +kernel) rfl rfl rfl ⟨rfl, rfl⟩ ⟨by decide, by decide⟩ (Nat.le_of_ble_eq_true rfl) ⟨by decide, by decide⟩ rfl (fun v w' hp => ?_)
              obtain ⟨rfl, rfl⟩ := hp
              refine J.sub (ws' := (txW D aτ τ ++ rmW D aρ z32.2)) [0, 1, 2, 3, 4, 5, 6, 7, 8, 9, 10, 11, 12, 13, 14] rfl (by decide +kernel) ?_
              refine r_istore (lv' := [(8, .int z32.1), (7, .int (1 : Int32)), (6, .int z9), (5, .int z7), (4, .int z4), (3, .int y2_3), (2, .int y2_2), (0, .ref (aτ 0)), (1, .ref (aρ 0))]) h dX0_runIn_120 (by decide) rfl ?_
              refine r_iload h 0 rfl dX0_runIn_122 ?_
              refine r_if_eq h 139 dX0_runIn_124 (by decide) (fun c34 => ?_) (fun c34 => ?_)
              · replace hF := o_pos c34 hF
                refine r_iload h 1 rfl dX0_runIn_139 ?_
                refine r_if_eq h 155 dX0_runIn_141 (by decide) (fun c35 => ?_) (fun c35 => ?_)
                · replace hF := o_pos c35 hF
                  refine r_aload_n h 8 rfl rfl dX0_runIn_155 ?_
                  refine r_iload h 3 rfl dX0_runIn_156 ?_
                  refine r_iload h 2 rfl dX0_runIn_158 ?_
                  obtain ⟨z36, e37, hF⟩ := o_bind hF
                  refine r_callV (q0 := 0) (wr := w_pk (txW D aτ τ ++ rmW D aρ z32.2) [0, 1, 2, 3]) (rest := []) h hd_X1_doChange wm_343 dX0_runIn_160 (CX1_doChange l D aρ z32.2 z7 z9 z36 e37) [4, 5, 6, 7, 8, 9, 10, 11, 12, 13, 14] [0, 1, 2, 3] rfl rfl (by decide +kernel) rfl rfl rfl ⟨rfl, rfl⟩ ⟨by decide, by decide⟩ (Nat.le_of_ble_eq_true rfl) ⟨by decide, by decide⟩ rfl (fun v w' hp => ?_)
                  obtain ⟨rfl, rfl⟩ := hp
                  refine J.sub (ws' := (txW D aτ τ ++ rmW D aρ z36)) [0, 1, 2, 3, 4, 5, 6, 7, 8, 9, 10, 11, 12, 13, 14] rfl (by decide +kernel) ?_
                  refine r_iinc (lv' := [(2, .int (y2_2 + 1)), (8, .int z32.1), (7, .int (1 : Int32)), (6, .int z9), (5, .int z7), (4, .int z4), (3, .int y2_3), (0, .ref (aτ 0)), (1, .ref (aρ 0))]) h 6 rfl (congrArg (fun z => y2_2 + z) (by decide : Int32.ofInt 1 = 1)) dX0_runIn_163 (by decide) rfl ?_
                  refine r_iinc (lv' := [(3, .int (y2_3 + 1)), (2, .int (y2_2 + 1)), (8, .int z32.1), (7, .int (1 : Int32)), (6, .int z9), (5, .int z7), (4, .int z4), (0, .ref (aτ 0)), (1, .ref (aρ 0))]) h 6 rfl (congrArg (fun z => y2_3 + z) (by decide : Int32.ofInt 1 = 1)) dX0_runIn_166 (by decide) rfl ?_
                  refine r_goto h 4 dX0_runIn_169 (by decide) ?_
                  exact J.loc (lv' := [(3, .int (y2_3 + 1)), (2, .int (y2_2 + 1)), (0, .ref (aτ 0)), (1, .ref (aρ 0))]) [0, 1, 7, 8] rfl (ih (y2_3 + 1) (y2_2 + 1) z36 hF)
                · replace hF := o_neg c35 hF
                  refine r_aload_n h 8 rfl rfl dX0_runIn_144 ?_
                  refine r_iload h 3 rfl dX0_runIn_145 ?_
                  refine r_iload h 2 rfl dX0_runIn_147 ?_
                  obtain ⟨z38, e39, hF⟩ := o_bind hF
                  refine r_callV (q0 := 0) (wr := w_pk (txW D aτ τ ++ rmW D aρ z32.2) [0, 1, 2, 3]) (rest := []) h hd_X1_doMove wm_333 dX0_runIn_149 (CX1_doMove l D aρ z32.2 z7 z9 z38 e39) [4, 5, 6, 7, 8, 9, 10, 11, 12, 13, 14] [0, 1, 2, 3] rfl rfl (by decide +kernel) rfl rfl rfl ⟨rfl, rfl⟩ ⟨by decide, by decide⟩ (Nat.le_of_ble_eq_true rfl) ⟨by decide, by decide⟩ rfl (fun v w' hp => ?_)
                  obtain ⟨rfl, rfl⟩ := hp
                  refine J.sub (ws' := (txW D aτ τ ++ rmW D aρ z38)) [0, 1, 2, 3, 4, 5, 6, 7, 8, 9, 10, 11, 12, 13, 14] rfl (by decide +kernel) ?_
                  refine r_goto h 163 dX0_runIn_152 (by decide) ?_
                  refine r_iinc (lv' := [(2, .int (y2_2 + 1)), (8, .int z32.1), (7, .int (1 : Int32)), (6, .int z9), (5, .int z7), (4, .int z4), (3, .int y2_3), (0, .ref (aτ 0)), (1, .ref (aρ 0))]) h 6 rfl (congrArg (fun z => y2_2 + z) (by decide : Int32.ofInt 1 = 1)) dX0_runIn_163 (by decide) rfl ?_
                  refine r_iinc (lv' := [(3, .int (y2_3 + 1)), (2, .int (y2_2 + 1)), (8, .int z32.1), (7, .int (1 : Int32)), (6, .int z9), (5, .int z7), (4, .int z4), (0, .ref (aτ 0)), (1, .ref (aρ 0))]) h 6 rfl (congrArg (fun z => y2_3 + z) (by decide : Int32.ofInt 1 = 1)) dX0_runIn_166 (by decide) rfl ?_
                  refine r_goto h 4 dX0_runIn_169 (by decide) ?_
                  exact J.loc (lv' := [(3, .int (y2_3 + 1)), (2, .int (y2_2 + 1)), (0, .ref (aτ 0)), (1, .ref (aρ 0))]) [0, 1, 7, 8] rfl (ih (y2_3 + 1) (y2_2 + 1) z38 hF)
              · replace hF := o_neg c34 hF
                refine r_sipush (v := -1000) h dX0_runIn_127 (by decide) ?_
                refine r_bipush (v := 10) h dX0_runIn_130 (by decide) ?_
                refine r_iload_n h 6 rfl rfl dX0_runIn_132 ?_
                refine r_imul h dX0_runIn_133 ?_
                refine r_isub h dX0_runIn_134 ?_
                obtain ⟨u40, hu40, hF⟩ := o_nm hF
                refine J.top hu40 ?_
                refine r_iload h 0 rfl dX0_runIn_135 ?_
                refine r_isub h dX0_runIn_137 ?_
                cases hF
                exact r_iret h hr dX0_runIn_138 ⟨rfl, rfl⟩
            · replace hF := o_neg c31 hF
              refine r_aload_n h 7 rfl rfl dX0_runIn_101 ?_
              refine r_iload h 2 rfl dX0_runIn_102 ?_
              refine r_iload h 1 rfl dX0_runIn_104 ?_
              obtain ⟨z41, e42, hF⟩ := o_bind hF
              refine r_callV (q0 := 0) (wr := w_pk (txW D aτ τ ++ rmW D aρ s2_ρ) [0, 1, 2, 3]) (rest := []) h hd_X1_whyNotMove wm_320 dX0_runIn_106 (CX1_whyNotMove l D aρ s2_ρ z7 z9 z41.1 z41.2 e42) [4, 5, 6, 7, 8, 9, 10, 11, 12, 13, 14] [0, 1, 2, 3] rfl rfl (by decide +kernel) rfl rfl rfl ⟨rfl, rfl⟩ ⟨by decide, by decide⟩ (Nat.le_of_ble_eq_true rfl) ⟨by decide, by decide⟩ rfl (fun v w' hp => ?_)
              obtain ⟨rfl, rfl⟩ := hp
              refine J.sub (ws' := (txW D aτ τ ++ rmW D aρ z41.2)) [0, 1, 2, 3, 4, 5, 6, 7, 8, 9, 10, 11, 12, 13, 14] rfl (by decide +kernel) ?_
              refine r_goto h 120 dX0_runIn_109 (by decide) ?_
              refine r_istore (lv' := [(8, .int z41.1), (7, .int (1 : Int32)), (6, .int z9), (5, .int z7), (4, .int z4), (3, .int y2_3), (2, .int y2_2), (0, .ref (aτ 0)), (1, .ref (aρ 0))]) h dX0_runIn_120 (by decide) rfl ?_
              refine r_iload h 0 rfl dX0_runIn_122 ?_
              refine r_if_eq h 139 dX0_runIn_124 (by decide) (fun c43 => ?_) (fun c43 => ?_)
              · replace hF := o_pos c43 hF
                refine r_iload h 1 rfl dX0_runIn_139 ?_
                refine r_if_eq h 155 dX0_runIn_141 (by decide) (fun c44 => ?_) (fun c44 => ?_)
                · replace hF := o_pos c44 hF
                  refine r_aload_n h 8 rfl rfl dX0_runIn_155 ?_
                  refine r_iload h 3 rfl dX0_runIn_156 ?_
                  refine r_iload h 2 rfl dX0_runIn_158 ?_
                  obtain ⟨z45, e46, hF⟩ := o_bind hF
                  refine r_callV (q0 := 0) (wr := w_pk (txW D aτ τ ++ rmW D aρ z41.2) [0, 1, 2, 3]) (rest := []) h hd_X1_doChange wm_343 dX0_runIn_160 (CX1_doChange l D aρ z41.2 z7 z9 z45 e46) [4, 5, 6, 7, 8, 9, 10, 11, 12, 13, 14] [0, 1, 2, 3] rfl rfl (by decide +kernel) rfl rfl rfl ⟨rfl, rfl⟩ ⟨by decide, by decide⟩ (Nat.le_of_ble_eq_true rfl) ⟨by decide, by decide⟩ rfl (fun v w' hp => ?_)
                  obtain ⟨rfl, rfl⟩ := hp
                  refine J.sub (ws' := (txW D aτ τ ++ rmW D aρ z45)) [0, 1, 2, 3, 4, 5, 6, 7, 8, 9, 10, 11, 12, 13, 14] rfl (by decide +kernel) ?_
                  refine r_iinc (lv' := [(2, .int (y2_2 + 1)), (8, .int z41.1), (7, .int (1 : Int32)), (6, .int z9), (5, .int z7), (4, .int z4), (3, .int y2_3), (0, .ref (aτ 0)), (1, .ref (aρ 0))]) h 6 rfl (congrArg (fun z => y2_2 + z) (by decide : Int32.ofInt 1 = 1)) dX0_runIn_163 (by decide) rfl ?_
                  refine r_iinc (lv' := [(3, .int (y2_3 + 1)), (2, .int (y2_2 + 1)), (8, .int z41.1), (7, .int (1 : Int32)), (6, .int z9), (5, .int z7), (4, .int z4), (0, .ref (aτ 0)), (1, .ref (aρ 0))]) h 6 rfl (congrArg (fun z => y2_3 + z) (by decide : Int32.ofInt 1 = 1)) dX0_runIn_166 (by decide) rfl ?_
                  refine r_goto h 4 dX0_runIn_169 (by decide) ?_
                  exact J.loc (lv' := [(3, .int (y2_3 + 1)), (2, .int (y2_2 + 1)), (0, .ref (aτ 0)), (1, .ref (aρ 0))]) [0, 1, 7, 8] rfl (ih (y2_3 + 1) (y2_2 + 1) z45 hF)
                · replace hF := o_neg c44 hF
                  refine r_aload_n h 8 rfl rfl dX0_runIn_144 ?_
                  refine r_iload h 3 rfl dX0_runIn_145 ?_
                  refine r_iload h 2 rfl dX0_runIn_147 ?_
                  obtain ⟨z47, e48, hF⟩ := o_bind hF
                  refine r_callV (q0 := 0) (wr := w_pk (txW D aτ τ ++ rmW D aρ z41.2) [0, 1, 2, 3]) (rest := []) h hd_X1_doMove wm_333 dX0_runIn_149 (CX1_doMove l D aρ z41.2 z7 z9 z47 e48) [4, 5, 6, 7, 8, 9, 10, 11, 12, 13, 14] [0, 1, 2, 3] rfl rfl (by decide +kernel) rfl rfl rfl ⟨rfl, rfl⟩ ⟨by decide, by decide⟩ (Nat.le_of_ble_eq_true rfl) ⟨by decide, by decide⟩ rfl (fun v w' hp => ?_)
                  obtain ⟨rfl, rfl⟩ := hp
                  refine J.sub (ws' := (txW D aτ τ ++ rmW D aρ z47)) [0, 1, 2, 3, 4, 5, 6, 7, 8, 9, 10, 11, 12, 13, 14] rfl (by decide +kernel) ?_
                  refine r_goto h 163 dX0_runIn_152 (by decide) ?_
                  refine r_iinc (lv' := [(2, .int (y2_2 + 1)), (8, .int z41.1), (7, .int (1 : Int32)), (6, .int z9), (5, .int z7), (4, .int z4), (3, .int y2_3), (0, .ref (aτ 0)), (1, .ref (aρ 0))]) h 6 rfl (congrArg (fun z => y2_2 + z) (by decide : Int32.ofInt 1 = 1)) dX0_runIn_163 (by decide) rfl ?_
                  refine r_iinc (lv' := [(3, .int (y2_3 + 1)), (2, .int (y2_2 + 1)), (8, .int z41.1), (7, .int (1 : Int32)), (6, .int z9), (5, .int z7), (4, .int z4), (0, .ref (aτ 0)), (1, .ref (aρ 0))]) h 6 rfl (congrArg (fun z => y2_3 + z) (by decide : Int32.ofInt 1 = 1)) dX0_runIn_166 (by decide) rfl ?_
                  refine r_goto h 4 dX0_runIn_169 (by decide) ?_
                  exact J.loc (lv' := [(3, .int (y2_3 + 1)), (2, .int (y2_2 + 1)), (0, .ref (aτ 0)), (1, .ref (aρ 0))]) [0, 1, 7, 8] rfl (ih (y2_3 + 1) (y2_2 + 1) z47 hF)
              · replace hF := o_neg c43 hF
                refine r_sipush (v := -1000) h dX0_runIn_127 (by decide) ?_
                refine r_bipush (v := 10) h dX0_runIn_130 (by decide) ?_
                refine r_iload_n h 6 rfl rfl dX0_runIn_132 ?_
                refine r_imul h dX0_runIn_133 ?_
                refine r_isub h dX0_runIn_134 ?_
                obtain ⟨u49, hu49, hF⟩ := o_nm hF
                refine J.top hu49 ?_
                refine r_iload h 0 rfl dX0_runIn_135 ?_
                refine r_isub h dX0_runIn_137 ?_
                cases hF
                exact r_iret h hr dX0_runIn_138 ⟨rfl, rfl⟩
        · replace hF := o_pos c6 hF
          refine r_aload_n h 4 rfl rfl dX0_runIn_33 ?_
          refine r_get h fl_X0_75 4 rfl rfl dX0_runIn_34 ?_
          refine r_sipush (v := 2000) h dX0_runIn_37 (by decide) ?_
          refine r_icmp_lt h 47 dX0_runIn_40 (by decide) (fun c50 => ?_) (fun c50 => ?_)
          · replace hF := o_pos c50 hF
            refine r_aload_n h 4 rfl rfl dX0_runIn_47 ?_
            refine r_dup h rfl dX0_runIn_48 ?_
            refine r_get h fl_X0_75 4 rfl rfl dX0_runIn_49 ?_
            refine r_iconst (v := 1) h dX0_runIn_52 (by decide) ?_
            refine r_iadd h dX0_runIn_53 ?_
            obtain ⟨u51, hu51, hF⟩ := o_nm hF
            refine J.top hu51 ?_
            refine r_put (ws' := (txW D aτ τ ++ rmW D aρ (s2_ρ.1, s2_ρ.2.1, s2_ρ.2.2.1, s2_ρ.2.2.2.1, s2_ρ.2.2.2.2.1, s2_ρ.2.2.2.2.2.1, s2_ρ.2.2.2.2.2.2.1, s2_ρ.2.2.2.2.2.2.2.1, s2_ρ.2.2.2.2.2.2.2.2.1, s2_ρ.2.2.2.2.2.2.2.2.2.1, s2_ρ.2.2.2.2.2.2.2.2.2.2.1, u51, s2_ρ.2.2.2.2.2.2.2.2.2.2.2.2.1, s2_ρ.2.2.2.2.2.2.2.2.2.2.2.2.2))) h fp_X0_75 4 rfl (Nat.le_of_ble_eq_true rfl) rfl rfl rfl dX0_runIn_54 ?_
            refine r_goto h 166 dX0_runIn_57 (by decide) ?_
            refine r_iinc (lv' := [(3, .int (y2_3 + 1)), (4, .int z4), (2, .int y2_2), (0, .ref (aτ 0)), (1, .ref (aρ 0))]) h 1 rfl (congrArg (fun z => y2_3 + z) (by decide : Int32.ofInt 1 = 1)) dX0_runIn_166 (by decide) rfl ?_
            refine r_goto h 4 dX0_runIn_169 (by decide) ?_
            exact J.loc (lv' := [(3, .int (y2_3 + 1)), (2, .int y2_2), (0, .ref (aτ 0)), (1, .ref (aρ 0))]) [0, 2, 3, 4] rfl (ih (y2_3 + 1) y2_2 (s2_ρ.1, s2_ρ.2.1, s2_ρ.2.2.1, s2_ρ.2.2.2.1, s2_ρ.2.2.2.2.1, s2_ρ.2.2.2.2.2.1, s2_ρ.2.2.2.2.2.2.1, s2_ρ.2.2.2.2.2.2.2.1, s2_ρ.2.2.2.2.2.2.2.2.1, s2_ρ.2.2.2.2.2.2.2.2.2.1, s2_ρ.2.2.2.2.2.2.2.2.2.2.1, u51, s2_ρ.2.2.2.2.2.2.2.2.2.2.2.2.1, s2_ρ.2.2.2.2.2.2.2.2.2.2.2.2.2) hF)
          · replace hF := o_neg c50 hF
            refine r_sipush (v := -9999) h dX0_runIn_43 (by decide) ?_
            cases hF
            exact r_iret h hr dX0_runIn_46 ⟨rfl, rfl⟩
  refine hL4 _ (fun y2_3 y2_2 s2_ρ hF => ?_) _ (0 : Int32) (0 : Int32) ρ hF
  refine r_iload_n h 1 rfl rfl dX0_runIn_172 ?_
  cases hF
  exact r_iret h hr dX0_runIn_173 ⟨rfl, rfl⟩


def FX2_isFull (pTm : Int32) (pTc : Int32) (pTn : Nat) (T : TBS) : Option (Int32) :=
  if T.1 < pTm then
  (some (0 : Int32))
else
  (some (1 : Int32))
abbrev rmX2_isFull : Room := { frames := 0, cells := 0, slots := 0, locals := 0 }
set_option maxHeartbeats 4000000 in
set_option maxRecDepth 100000 in
theorem CX2_isFull (l : Launch) (D : va_G) (aTa : Nat) (aTb : Nat) (pTm : Int32) (pTc : Int32) (pTn : Nat) (T : TBS) (r0 : Int32) (hF : FX2_isFull pTm pTc pTn T = some r0) : Ct l D yX2_isFull cX2_isFull 1 (some .boolean) rmX2_isFull 0 0 [.ref aTa] (tbW D aTa aTb pTm pTc pTn T) (fun v w => v = some (.int r0) ∧ w = tbW D aTa aTb pTm pTc pTn T) := by
  refine Ct.of (own := RX2) (lv := [(0, .ref aTa)]) (by decide +kernel) rfl (Nat.le_of_ble_eq_true rfl) rfl (fun X h hr => ?_)
  unfold FX2_isFull at hF
  refine r_aload_n h 0 rfl rfl dX2_isFull_0 ?_
  refine r_get h fl_X2_9 0 rfl rfl dX2_isFull_1 ?_
  refine r_aload_n h 0 rfl rfl dX2_isFull_4 ?_
  refine r_get h fl_X2_15 0 rfl rfl dX2_isFull_5 ?_
  refine r_icmp_lt h 15 dX2_isFull_8 (by decide) (fun c1 => ?_) (fun c1 => ?_)
  · replace hF := o_pos c1 hF
    refine r_iconst (v := 0) h dX2_isFull_15 (by decide) ?_
    cases hF
    exact r_zret h hr (Or.inl rfl) dX2_isFull_16 ⟨rfl, rfl⟩
  · replace hF := o_neg c1 hF
    refine r_iconst (v := 1) h dX2_isFull_11 (by decide) ?_
    refine r_goto h 16 dX2_isFull_12 (by decide) ?_
    cases hF
    exact r_zret h hr (Or.inr rfl) dX2_isFull_16 ⟨rfl, rfl⟩

def FX2_addRow (pTm : Int32) (pTc : Int32) (pTn : Nat) (T : TBS) : Option (Int32 × TBS) :=
  (FX2_isFull pTm pTc pTn T).bind fun z1 =>
  if z1 = 0 then
  (some ((T.1 + (1 : Int32)) - (1 : Int32), (T.1 + (1 : Int32), T.2)))
else
  (some ((-1 : Int32), T))
abbrev rmX2_addRow : Room := { frames := 1, cells := 0, slots := 0, locals := 20 }
set_option maxHeartbeats 4000000 in
set_option maxRecDepth 100000 in
theorem CX2_addRow (l : Launch) (D : va_G) (aTa : Nat) (aTb : Nat) (pTm : Int32) (pTc : Int32) (pTn : Nat) (T : TBS) (r0 : Int32) (T0 : TBS) (hF : FX2_addRow pTm pTc pTn T = some (r0, T0)) : Ct l D yX2_addRow cX2_addRow 1 (some .int) rmX2_addRow 0 0 [.ref aTa] (tbW D aTa aTb pTm pTc pTn T) (fun v w => v = some (.int r0) ∧ w = tbW D aTa aTb pTm pTc pTn T0) := by
  refine Ct.of (own := RX2) (lv := [(0, .ref aTa)]) (by decide +kernel) rfl (Nat.le_of_ble_eq_true rfl) rfl (fun X h hr => ?_)
  unfold FX2_addRow at hF
  refine r_aload_n h 0 rfl rfl dX2_addRow_0 ?_
  obtain ⟨z1, e2, hF⟩ := o_bind hF
  refine r_callVa (q0 := 0) (rest := []) h hd_X2_isFull wm_287 dX2_addRow_1 (CX2_isFull l D aTa aTb pTm pTc pTn T z1 e2) rfl rfl rfl ⟨rfl, rfl⟩ ⟨by decide, by decide⟩ (Nat.le_of_ble_eq_true rfl) ⟨by decide, by decide⟩ rfl (fun v w' hp => ?_)
  obtain ⟨rfl, rfl⟩ := hp
  refine r_if_eq h 9 dX2_addRow_4 (by decide) (fun c3 => ?_) (fun c3 => ?_)
  · replace hF := o_pos c3 hF
    refine r_aload_n h 0 rfl rfl dX2_addRow_9 ?_
    refine r_dup h rfl dX2_addRow_10 ?_
    refine r_get h fl_X2_9 0 rfl rfl dX2_addRow_11 ?_
    refine r_iconst (v := 1) h dX2_addRow_14 (by decide) ?_
    refine r_iadd h dX2_addRow_15 ?_
    refine r_put (ws' := tbW D aTa aTb pTm pTc pTn (T.1 + (1 : Int32), T.2)) h fp_X2_9 0 rfl (Nat.le_of_ble_eq_true rfl) rfl rfl rfl dX2_addRow_16 ?_
    refine r_aload_n h 0 rfl rfl dX2_addRow_19 ?_
    refine r_get h fl_X2_9 0 rfl rfl dX2_addRow_20 ?_
    refine r_iconst (v := 1) h dX2_addRow_23 (by decide) ?_
    refine r_isub h dX2_addRow_24 ?_
    cases hF
    exact r_iret h hr dX2_addRow_25 ⟨rfl, rfl⟩
  · replace hF := o_neg c3 hF
    refine r_iconst (v := -1) h dX2_addRow_7 (by decide) ?_
    cases hF
    exact r_iret h hr dX2_addRow_8 ⟨rfl, rfl⟩

def FX2_put (pTm : Int32) (pTc : Int32) (pTn : Nat) (T : TBS) (x1 : Int32) (x2 : Int32) (x3 : Int32) : Option (TBS) :=
  if x1 < 0 then
  (some T)
else
  (if T.1 ≤ x1 then
  (some T)
else
  (if x2 < 0 then
  (some T)
else
  (if pTc ≤ x2 then
  (some T)
else
  (gd (¬ (((x1 * pTc) + x2) < 0 ∨ pTn ≤ ((x1 * pTc) + x2).toNatClampNeg)) (
  nmv (upd T.2 ((x1 * pTc) + x2).toNatClampNeg x3) fun fw5 =>
  some (T.1, fw5))))))
abbrev rmX2_put : Room := { frames := 0, cells := 0, slots := 0, locals := 0 }
set_option maxHeartbeats 4000000 in
set_option maxRecDepth 100000 in
theorem CX2_put (l : Launch) (D : va_G) (aTa : Nat) (aTb : Nat) (pTm : Int32) (pTc : Int32) (pTn : Nat) (T : TBS) (x1 : Int32) (x2 : Int32) (x3 : Int32) (T0 : TBS) (hF : FX2_put pTm pTc pTn T x1 x2 x3 = some T0) : Ct l D yX2_put cX2_put 4 none rmX2_put 0 0 [.ref aTa, .int x1, .int x2, .int x3] (tbW D aTa aTb pTm pTc pTn T) (fun v w => v = none ∧ w = tbW D aTa aTb pTm pTc pTn T0) := by
  refine Ct.of (own := RX2) (lv := [(0, .ref aTa), (1, .int x1), (2, .int x2), (3, .int x3)]) (by decide +kernel) rfl (Nat.le_of_ble_eq_true rfl) rfl (fun X h hr => ?_)
  unfold FX2_put at hF
  refine r_iload_n h 1 rfl rfl dX2_put_0 ?_
  refine r_if_lt h 38 dX2_put_1 (by decide) (fun c1 => ?_) (fun c1 => ?_)
  · replace hF := o_pos c1 hF
    cases hF
    exact r_vret h hr dX2_put_38 ⟨rfl, rfl⟩
  · replace hF := o_neg c1 hF
    refine r_iload_n h 1 rfl rfl dX2_put_4 ?_
    refine r_aload_n h 0 rfl rfl dX2_put_5 ?_
    refine r_get h fl_X2_9 0 rfl rfl dX2_put_6 ?_
    refine r_icmp_ge h 38 dX2_put_9 (by decide) (fun c2 => ?_) (fun c2 => ?_)
    · replace hF := o_pos c2 hF
      cases hF
      exact r_vret h hr dX2_put_38 ⟨rfl, rfl⟩
    · replace hF := o_neg c2 hF
      refine r_iload_n h 2 rfl rfl dX2_put_12 ?_
      refine r_if_lt h 38 dX2_put_13 (by decide) (fun c3 => ?_) (fun c3 => ?_)
      · replace hF := o_pos c3 hF
        cases hF
        exact r_vret h hr dX2_put_38 ⟨rfl, rfl⟩
      · replace hF := o_neg c3 hF
        refine r_iload_n h 2 rfl rfl dX2_put_16 ?_
        refine r_aload_n h 0 rfl rfl dX2_put_17 ?_
        refine r_get h fl_X2_18 0 rfl rfl dX2_put_18 ?_
        refine r_icmp_ge h 38 dX2_put_21 (by decide) (fun c4 => ?_) (fun c4 => ?_)
        · replace hF := o_pos c4 hF
          cases hF
          exact r_vret h hr dX2_put_38 ⟨rfl, rfl⟩
        · replace hF := o_neg c4 hF
          refine r_aload_n h 0 rfl rfl dX2_put_24 ?_
          refine r_get h fl_X2_21 0 rfl rfl dX2_put_25 ?_
          refine r_iload_n h 1 rfl rfl dX2_put_28 ?_
          refine r_aload_n h 0 rfl rfl dX2_put_29 ?_
          refine r_get h fl_X2_18 0 rfl rfl dX2_put_30 ?_
          refine r_imul h dX2_put_33 ?_
          refine r_iload_n h 2 rfl rfl dX2_put_34 ?_
          refine r_iadd h dX2_put_35 ?_
          refine r_iload_n h 3 rfl rfl dX2_put_36 ?_
          obtain ⟨hN, hF⟩ := o_gd hF
          obtain ⟨fw5, hfw5, hF⟩ := o_nm hF
          refine r_iast (ws' := tbW D aTa aTb pTm pTc pTn (T.1, fw5)) h 1 rfl hN (by rw [hfw5]; rfl) dX2_put_37 ?_
          cases hF
          exact r_vret h hr dX2_put_38 ⟨rfl, rfl⟩

def FX2_at (pTm : Int32) (pTc : Int32) (pTn : Nat) (T : TBS) (x1 : Int32) (x2 : Int32) : Option (Int32) :=
  if x1 < 0 then
  (some (-1 : Int32))
else
  (if T.1 ≤ x1 then
  (some (-1 : Int32))
else
  (if x2 < 0 then
  (some (-1 : Int32))
else
  (if x2 < pTc then
  (gd (¬ (((x1 * pTc) + x2) < 0 ∨ pTn ≤ ((x1 * pTc) + x2).toNatClampNeg)) (
  nmv (T.2 ((x1 * pTc) + x2).toNatClampNeg) fun u5 =>
  some u5))
else
  (some (-1 : Int32)))))
abbrev rmX2_at : Room := { frames := 0, cells := 0, slots := 0, locals := 0 }
set_option maxHeartbeats 4000000 in
set_option maxRecDepth 100000 in
theorem CX2_at (l : Launch) (D : va_G) (aTa : Nat) (aTb : Nat) (pTm : Int32) (pTc : Int32) (pTn : Nat) (T : TBS) (x1 : Int32) (x2 : Int32) (r0 : Int32) (hF : FX2_at pTm pTc pTn T x1 x2 = some r0) : Ct l D yX2_at cX2_at 3 (some .int) rmX2_at 0 0 [.ref aTa, .int x1, .int x2] (tbW D aTa aTb pTm pTc pTn T) (fun v w => v = some (.int r0) ∧ w = tbW D aTa aTb pTm pTc pTn T) := by
  refine Ct.of (own := RX2) (lv := [(0, .ref aTa), (1, .int x1), (2, .int x2)]) (by decide +kernel) rfl (Nat.le_of_ble_eq_true rfl) rfl (fun X h hr => ?_)
  unfold FX2_at at hF
  refine r_iload_n h 1 rfl rfl dX2_at_0 ?_
  refine r_if_lt h 24 dX2_at_1 (by decide) (fun c1 => ?_) (fun c1 => ?_)
  · replace hF := o_pos c1 hF
    refine r_iconst (v := -1) h dX2_at_24 (by decide) ?_
    cases hF
    exact r_iret h hr dX2_at_25 ⟨rfl, rfl⟩
  · replace hF := o_neg c1 hF
    refine r_iload_n h 1 rfl rfl dX2_at_4 ?_
    refine r_aload_n h 0 rfl rfl dX2_at_5 ?_
    refine r_get h fl_X2_9 0 rfl rfl dX2_at_6 ?_
    refine r_icmp_ge h 24 dX2_at_9 (by decide) (fun c2 => ?_) (fun c2 => ?_)
    · replace hF := o_pos c2 hF
      refine r_iconst (v := -1) h dX2_at_24 (by decide) ?_
      cases hF
      exact r_iret h hr dX2_at_25 ⟨rfl, rfl⟩
    · replace hF := o_neg c2 hF
      refine r_iload_n h 2 rfl rfl dX2_at_12 ?_
      refine r_if_lt h 24 dX2_at_13 (by decide) (fun c3 => ?_) (fun c3 => ?_)
      · replace hF := o_pos c3 hF
        refine r_iconst (v := -1) h dX2_at_24 (by decide) ?_
        cases hF
        exact r_iret h hr dX2_at_25 ⟨rfl, rfl⟩
      · replace hF := o_neg c3 hF
        refine r_iload_n h 2 rfl rfl dX2_at_16 ?_
        refine r_aload_n h 0 rfl rfl dX2_at_17 ?_
        refine r_get h fl_X2_18 0 rfl rfl dX2_at_18 ?_
        refine r_icmp_lt h 26 dX2_at_21 (by decide) (fun c4 => ?_) (fun c4 => ?_)
        · replace hF := o_pos c4 hF
          refine r_aload_n h 0 rfl rfl dX2_at_26 ?_
          refine r_get h fl_X2_21 0 rfl rfl dX2_at_27 ?_
          refine r_iload_n h 1 rfl rfl dX2_at_30 ?_
          refine r_aload_n h 0 rfl rfl dX2_at_31 ?_
          refine r_get h fl_X2_18 0 rfl rfl dX2_at_32 ?_
          refine r_imul h dX2_at_35 ?_
          refine r_iload_n h 2 rfl rfl dX2_at_36 ?_
          refine r_iadd h dX2_at_37 ?_
          obtain ⟨hN, hF⟩ := o_gd hF
          refine r_iald h 1 rfl hN dX2_at_38 ?_
          obtain ⟨u5, hu5, hF⟩ := o_nm hF
          refine J.top hu5 ?_
          cases hF
          exact r_iret h hr dX2_at_39 ⟨rfl, rfl⟩
        · replace hF := o_neg c4 hF
          refine r_iconst (v := -1) h dX2_at_24 (by decide) ?_
          cases hF
          exact r_iret h hr dX2_at_25 ⟨rfl, rfl⟩

def FX2_hasRow (pTm : Int32) (pTc : Int32) (pTn : Nat) (T : TBS) (x1 : Int32) : Option (Int32) :=
  if x1 < 0 then
  (some (0 : Int32))
else
  (if T.1 ≤ x1 then
  (some (0 : Int32))
else
  (some (1 : Int32)))
abbrev rmX2_hasRow : Room := { frames := 0, cells := 0, slots := 0, locals := 0 }
set_option maxHeartbeats 4000000 in
set_option maxRecDepth 100000 in
theorem CX2_hasRow (l : Launch) (D : va_G) (aTa : Nat) (aTb : Nat) (pTm : Int32) (pTc : Int32) (pTn : Nat) (T : TBS) (x1 : Int32) (r0 : Int32) (hF : FX2_hasRow pTm pTc pTn T x1 = some r0) : Ct l D yX2_hasRow cX2_hasRow 2 (some .boolean) rmX2_hasRow 0 0 [.ref aTa, .int x1] (tbW D aTa aTb pTm pTc pTn T) (fun v w => v = some (.int r0) ∧ w = tbW D aTa aTb pTm pTc pTn T) := by
  refine Ct.of (own := RX2) (lv := [(0, .ref aTa), (1, .int x1)]) (by decide +kernel) rfl (Nat.le_of_ble_eq_true rfl) rfl (fun X h hr => ?_)
  unfold FX2_hasRow at hF
  refine r_iload_n h 1 rfl rfl dX2_hasRow_0 ?_
  refine r_if_lt h 16 dX2_hasRow_1 (by decide) (fun c1 => ?_) (fun c1 => ?_)
  · replace hF := o_pos c1 hF
    refine r_iconst (v := 0) h dX2_hasRow_16 (by decide) ?_
    cases hF
    exact r_zret h hr (Or.inl rfl) dX2_hasRow_17 ⟨rfl, rfl⟩
  · replace hF := o_neg c1 hF
    refine r_iload_n h 1 rfl rfl dX2_hasRow_4 ?_
    refine r_aload_n h 0 rfl rfl dX2_hasRow_5 ?_
    refine r_get h fl_X2_9 0 rfl rfl dX2_hasRow_6 ?_
    refine r_icmp_ge h 16 dX2_hasRow_9 (by decide) (fun c2 => ?_) (fun c2 => ?_)
    · replace hF := o_pos c2 hF
      refine r_iconst (v := 0) h dX2_hasRow_16 (by decide) ?_
      cases hF
      exact r_zret h hr (Or.inl rfl) dX2_hasRow_17 ⟨rfl, rfl⟩
    · replace hF := o_neg c2 hF
      refine r_iconst (v := 1) h dX2_hasRow_12 (by decide) ?_
      refine r_goto h 17 dX2_hasRow_13 (by decide) ?_
      cases hF
      exact r_zret h hr (Or.inr rfl) dX2_hasRow_17 ⟨rfl, rfl⟩

def FX2_removeRow_L25 (pTc : Int32) (pTn : Nat) (K : Int32 → TBS → Option (TBS)) : Nat → Int32 → TBS → Option (TBS)
  | 0, _, _ => none
  | n + 1, y5_2, s5_T =>
  if (s5_T.1 * pTc) ≤ y5_2 then
  (K y5_2 s5_T)
else
  (gd (¬ ((y5_2 + pTc) < 0 ∨ pTn ≤ (y5_2 + pTc).toNatClampNeg)) (
  gd (¬ (y5_2 < 0 ∨ pTn ≤ (y5_2).toNatClampNeg)) (
  nmv (upd s5_T.2 (y5_2).toNatClampNeg (s5_T.2 (y5_2 + pTc).toNatClampNeg)) fun fw7 =>
  FX2_removeRow_L25 pTc pTn K n (y5_2 + 1) (s5_T.1, fw7))))
def FX2_removeRow (pTm : Int32) (pTc : Int32) (pTn : Nat) (T : TBS) (x1 : Int32) : Option (TBS) :=
  (FX2_hasRow pTm pTc pTn T x1).bind fun z1 =>
  if z1 = 0 then
  (some T)
else
  (FX2_removeRow_L25 pTc pTn (fun (y5_2 : Int32) (s5_T : TBS) =>
  some s5_T) FU (x1 * pTc) (T.1 - (1 : Int32), T.2))
abbrev rmX2_removeRow : Room := { frames := 1, cells := 0, slots := 0, locals := 21 }
set_option maxHeartbeats 4000000 in
set_option maxRecDepth 100000 in
theorem CX2_removeRow (l : Launch) (D : va_G) (aTa : Nat) (aTb : Nat) (pTm : Int32) (pTc : Int32) (pTn : Nat) (T : TBS) (x1 : Int32) (T0 : TBS) (hF : FX2_removeRow pTm pTc pTn T x1 = some T0) : Ct l D yX2_removeRow cX2_removeRow 3 none rmX2_removeRow 0 0 [.ref aTa, .int x1] (tbW D aTa aTb pTm pTc pTn T) (fun v w => v = none ∧ w = tbW D aTa aTb pTm pTc pTn T0) := by
  refine Ct.of (own := RX2) (lv := [(0, .ref aTa), (1, .int x1)]) (by decide +kernel) rfl (Nat.le_of_ble_eq_true rfl) rfl (fun X h hr => ?_)
  unfold FX2_removeRow at hF
  refine r_aload_n h 0 rfl rfl dX2_removeRow_0 ?_
  refine r_iload_n h 1 rfl rfl dX2_removeRow_1 ?_
  obtain ⟨z1, e2, hF⟩ := o_bind hF
  refine r_callVa (q0 := 0) (rest := []) h hd_X2_hasRow wm_233 dX2_removeRow_2 (CX2_hasRow l D aTa aTb pTm pTc pTn T x1 z1 e2) rfl rfl rfl ⟨rfl, rfl⟩ ⟨by decide, by decide⟩ (Nat.le_of_ble_eq_true rfl) ⟨by decide, by decide⟩ rfl (fun v w' hp => ?_)
  obtain ⟨rfl, rfl⟩ := hp
  refine r_if_eq h 61 dX2_removeRow_5 (by decide) (fun c3 => ?_) (fun c3 => ?_)
  · replace hF := o_pos c3 hF
    cases hF
    exact r_vret h hr dX2_removeRow_61 ⟨rfl, rfl⟩
  · replace hF := o_neg c3 hF
    refine r_aload_n h 0 rfl rfl dX2_removeRow_8 ?_
    refine r_dup h rfl dX2_removeRow_9 ?_
    refine r_get h fl_X2_9 0 rfl rfl dX2_removeRow_10 ?_
    refine r_iconst (v := 1) h dX2_removeRow_13 (by decide) ?_
    refine r_isub h dX2_removeRow_14 ?_
    refine r_put (ws' := tbW D aTa aTb pTm pTc pTn (T.1 - (1 : Int32), T.2)) h fp_X2_9 0 rfl (Nat.le_of_ble_eq_true rfl) rfl rfl rfl dX2_removeRow_15 ?_
    refine r_iload_n h 1 rfl rfl dX2_removeRow_18 ?_
    refine r_aload_n h 0 rfl rfl dX2_removeRow_19 ?_
    refine r_get h fl_X2_18 0 rfl rfl dX2_removeRow_20 ?_
    refine r_imul h dX2_removeRow_23 ?_
    refine r_istore_n (lv' := [(2, .int (x1 * pTc)), (0, .ref aTa), (1, .int x1)]) h rfl dX2_removeRow_24 (by decide) rfl ?_
    have hL25 : ∀ (K : Int32 → TBS → Option (TBS)) (hK : ∀ (y5_2 : Int32) (s5_T : TBS), K y5_2 s5_T = some T0 → J X l rmX2_removeRow D 3 0 0 (tbW D aTa aTb pTm pTc pTn s5_T) [(2, .int y5_2), (0, .ref aTa), (1, .int x1)] 61 []) (N : Nat), ∀ (y5_2 : Int32) (s5_T : TBS), FX2_removeRow_L25 pTc pTn K N y5_2 s5_T = some T0 → J X l rmX2_removeRow D 3 0 0 (tbW D aTa aTb pTm pTc pTn s5_T) [(2, .int y5_2), (0, .ref aTa), (1, .int x1)] 25 [] := by
      intro K hK N
      induction N with
      | zero =>
        intro y5_2 s5_T hF
        cases hF
      | succ N ih =>
        intro y5_2 s5_T hF
        rw [FX2_removeRow_L25] at hF
        refine r_iload_n h 0 rfl rfl dX2_removeRow_25 ?_
        refine r_aload_n h 1 rfl rfl dX2_removeRow_26 ?_
        refine r_get h fl_X2_9 0 rfl rfl dX2_removeRow_27 ?_
        refine r_aload_n h 1 rfl rfl dX2_removeRow_30 ?_
        refine r_get h fl_X2_18 0 rfl rfl dX2_removeRow_31 ?_
        refine r_imul h dX2_removeRow_34 ?_
        refine r_icmp_ge h 61 dX2_removeRow_35 (by decide) (fun c6 => ?_) (fun c6 => ?_)
        · replace hF := o_pos c6 hF
          exact J.loc (lv' := [(2, .int y5_2), (0, .ref aTa), (1, .int x1)]) [0, 1, 2] rfl (hK y5_2 s5_T hF)
        · replace hF := o_neg c6 hF
          refine r_aload_n h 1 rfl rfl dX2_removeRow_38 ?_
          refine r_get h fl_X2_21 0 rfl rfl dX2_removeRow_39 ?_
          refine r_iload_n h 0 rfl rfl dX2_removeRow_42 ?_
          refine r_aload_n h 1 rfl rfl dX2_removeRow_43 ?_
          refine r_get h fl_X2_21 0 rfl rfl dX2_removeRow_44 ?_
          refine r_iload_n h 0 rfl rfl dX2_removeRow_47 ?_
          refine r_aload_n h 1 rfl rfl dX2_removeRow_48 ?_
          refine r_get h fl_X2_18 0 rfl rfl dX2_removeRow_49 ?_
          refine r_iadd h dX2_removeRow_52 ?_
          obtain ⟨hN, hF⟩ := o_gd hF
          refine r_iald h 1 rfl hN dX2_removeRow_53 ?_
          obtain ⟨hN, hF⟩ := o_gd hF
          obtain ⟨fw7, hfw7, hF⟩ := o_nm hF
          refine r_iast (ws' := tbW D aTa aTb pTm pTc pTn (s5_T.1, fw7)) h 1 rfl hN (by rw [hfw7]; rfl) dX2_removeRow_54 ?_
          refine r_iinc (lv' := [(2, .int (y5_2 + 1)), (0, .ref aTa), (1, .int x1)]) h 0 rfl (congrArg (fun z => y5_2 + z) (by decide : Int32.ofInt 1 = 1)) dX2_removeRow_55 (by decide) rfl ?_
          refine r_goto h 25 dX2_removeRow_58 (by decide) ?_
          exact J.loc (lv' := [(2, .int (y5_2 + 1)), (0, .ref aTa), (1, .int x1)]) [0, 1, 2] rfl (ih (y5_2 + 1) (s5_T.1, fw7) hF)
    refine hL25 _ (fun y5_2 s5_T hF => ?_) _ (x1 * pTc) (T.1 - (1 : Int32), T.2) hF
    cases hF
    exact r_vret h hr dX2_removeRow_61 ⟨rfl, rfl⟩

def FX2_copyFrom (pTm : Int32) (pTc : Int32) (pTn : Nat) (pUm : Int32) (pUc : Int32) (pUn : Nat) (T : TBS) (U : TBS) : Option (TBS) :=
  if (Int32.ofNat pUn) = (Int32.ofNat pTn) then
  (gd (¬ (0 : Int32) < 0 ∧ ¬ (0 : Int32) < 0 ∧ ¬ (Int32.ofNat pTn) < 0 ∧ ((0 : Int32)).toNatClampNeg + (Int32.ofNat pTn).toNatClampNeg ≤ pUn ∧ ((0 : Int32)).toNatClampNeg + (Int32.ofNat pTn).toNatClampNeg ≤ pTn) (
  some (U.1, va_cpy U.2 T.2 ((0 : Int32)).toNatClampNeg ((0 : Int32)).toNatClampNeg (Int32.ofNat pTn).toNatClampNeg)))
else
  (some T)
abbrev rmX2_copyFrom : Room := { frames := 1, cells := 0, slots := 0, locals := 60 }
set_option maxHeartbeats 4000000 in
set_option maxRecDepth 100000 in
theorem CX2_copyFrom (l : Launch) (D : va_G) (aTa : Nat) (aTb : Nat) (aUa : Nat) (aUb : Nat) (pTm : Int32) (pTc : Int32) (pTn : Nat) (pUm : Int32) (pUc : Int32) (pUn : Nat) (T : TBS) (U : TBS) (T0 : TBS) (hF : FX2_copyFrom pTm pTc pTn pUm pUc pUn T U = some T0) : Ct l D yX2_copyFrom cX2_copyFrom 2 none rmX2_copyFrom 0 0 [.ref aTa, .ref aUa] (tbW D aTa aTb pTm pTc pTn T ++ tbW D aUa aUb pUm pUc pUn U) (fun v w => v = none ∧ w = (tbW D aTa aTb pTm pTc pTn T0 ++ tbW D aUa aUb pUm pUc pUn U)) := by
  refine Ct.of (own := RX2) (lv := [(0, .ref aTa), (1, .ref aUa)]) (by decide +kernel) rfl (Nat.le_of_ble_eq_true rfl) rfl (fun X h hr => ?_)
  unfold FX2_copyFrom at hF
  refine r_aload_n h 1 rfl rfl dX2_copyFrom_0 ?_
  refine r_get h fl_X2_21 2 rfl rfl dX2_copyFrom_1 ?_
  refine r_alen h 3 rfl rfl dX2_copyFrom_4 ?_
  refine r_aload_n h 0 rfl rfl dX2_copyFrom_5 ?_
  refine r_get h fl_X2_21 0 rfl rfl dX2_copyFrom_6 ?_
  refine r_alen h 1 rfl rfl dX2_copyFrom_9 ?_
  refine r_icmp_ne h 39 dX2_copyFrom_10 (by decide) (fun c1 => ?_) (fun c1 => ?_)
  · replace hF := o_neg c1 hF
    cases hF
    exact r_vret h hr dX2_copyFrom_39 ⟨rfl, rfl⟩
  · replace hF := o_pos c1 hF
    refine r_aload_n h 1 rfl rfl dX2_copyFrom_13 ?_
    refine r_get h fl_X2_21 2 rfl rfl dX2_copyFrom_14 ?_
    refine r_iconst (v := 0) h dX2_copyFrom_17 (by decide) ?_
    refine r_aload_n h 0 rfl rfl dX2_copyFrom_18 ?_
    refine r_get h fl_X2_21 0 rfl rfl dX2_copyFrom_19 ?_
    refine r_iconst (v := 0) h dX2_copyFrom_22 (by decide) ?_
    refine r_aload_n h 0 rfl rfl dX2_copyFrom_23 ?_
    refine r_get h fl_X2_21 0 rfl rfl dX2_copyFrom_24 ?_
    refine r_alen h 1 rfl rfl dX2_copyFrom_27 ?_
    obtain ⟨⟨hN1, hN2, hN3, hN4, hN5⟩, hF⟩ := o_gd hF
    refine r_copyi (ws' := (tbW D aTa aTb pTm pTc pTn (T.1, va_cpy U.2 T.2 ((0 : Int32)).toNatClampNeg ((0 : Int32)).toNatClampNeg (Int32.ofNat pTn).toNatClampNeg) ++ tbW D aUa aUb pUm pUc pUn U)) h 3 1 wm_221 wm_223 wm_222 wm_11 rfl rfl hN1 hN2 hN3 hN4 hN5 (by decide) (Nat.le_of_ble_eq_true rfl) rfl dX2_copyFrom_28 ?_
    refine r_aload_n h 0 rfl rfl dX2_copyFrom_31 ?_
    refine r_aload_n h 1 rfl rfl dX2_copyFrom_32 ?_
    refine r_get h fl_X2_9 2 rfl rfl dX2_copyFrom_33 ?_
    refine r_put (ws' := (tbW D aTa aTb pTm pTc pTn (U.1, va_cpy U.2 T.2 ((0 : Int32)).toNatClampNeg ((0 : Int32)).toNatClampNeg (Int32.ofNat pTn).toNatClampNeg) ++ tbW D aUa aUb pUm pUc pUn U)) h fp_X2_9 0 rfl (Nat.le_of_ble_eq_true rfl) rfl rfl rfl dX2_copyFrom_36 ?_
    cases hF
    exact r_vret h hr dX2_copyFrom_39 ⟨rfl, rfl⟩


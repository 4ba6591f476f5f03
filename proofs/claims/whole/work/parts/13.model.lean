def FX4_thrown (μ : MDS) : Option (Int32) :=
  some μ.2.2.2.2.2.2.1
abbrev rmX4_thrown : Room := { frames := 0, cells := 0, slots := 0, locals := 0 }
set_option maxHeartbeats 4000000 in
set_option maxRecDepth 100000 in
theorem CX4_thrown (l : Launch) (D : va_G) (aμ : Nat → Nat) (μ : MDS) (r0 : Int32) (hF : FX4_thrown μ = some r0) : Ct l D yX4_thrown cX4_thrown 1 (some .int) rmX4_thrown 0 0 [.ref (aμ 0)] (mdW D aμ μ) (fun v w => v = some (.int r0) ∧ w = mdW D aμ μ) := by
  refine Ct.of (own := RX4) (lv := [(0, .ref (aμ 0))]) (by decide +kernel) rfl (Nat.le_of_ble_eq_true rfl) rfl (fun X h hr => ?_)
  unfold FX4_thrown at hF
  refine r_aload_n h 0 rfl rfl dX4_thrown_0 ?_
  refine r_get h fl_X4_25 0 rfl rfl dX4_thrown_1 ?_
  cases hF
  exact r_iret h hr dX4_thrown_4 ⟨rfl, rfl⟩

def FX4_refused (μ : MDS) (x1 : Int32) : Option (Int32 × MDS) :=
  if x1 ≤ 0 then
  (some ((0 : Int32), (μ.1, μ.2.1, μ.2.2.1, μ.2.2.2.1, μ.2.2.2.2.1, μ.2.2.2.2.2.1, x1, μ.2.2.2.2.2.2.2.1, μ.2.2.2.2.2.2.2.2.1, μ.2.2.2.2.2.2.2.2.2.1, μ.2.2.2.2.2.2.2.2.2.2.1, μ.2.2.2.2.2.2.2.2.2.2.2.1, μ.2.2.2.2.2.2.2.2.2.2.2.2)))
else
  (some ((1 : Int32), (μ.1, μ.2.1, μ.2.2.1, μ.2.2.2.1, μ.2.2.2.2.1, μ.2.2.2.2.2.1, x1, μ.2.2.2.2.2.2.2.1, μ.2.2.2.2.2.2.2.2.1, μ.2.2.2.2.2.2.2.2.2.1, μ.2.2.2.2.2.2.2.2.2.2.1, μ.2.2.2.2.2.2.2.2.2.2.2.1, μ.2.2.2.2.2.2.2.2.2.2.2.2)))
abbrev rmX4_refused : Room := { frames := 0, cells := 0, slots := 0, locals := 0 }
set_option maxHeartbeats 4000000 in
set_option maxRecDepth 100000 in
theorem CX4_refused (l : Launch) (D : va_G) (aμ : Nat → Nat) (μ : MDS) (x1 : Int32) (r0 : Int32) (μ0 : MDS) (hF : FX4_refused μ x1 = some (r0, μ0)) : Ct l D yX4_refused cX4_refused 2 (some .boolean) rmX4_refused 0 0 [.ref (aμ 0), .int x1] (mdW D aμ μ) (fun v w => v = some (.int r0) ∧ w = mdW D aμ μ0) := by
  refine Ct.of (own := RX4) (lv := [(0, .ref (aμ 0)), (1, .int x1)]) (by decide +kernel) rfl (Nat.le_of_ble_eq_true rfl) rfl (fun X h hr => ?_)
  unfold FX4_refused at hF
  refine r_aload_n h 0 rfl rfl dX4_refused_0 ?_
  refine r_iload_n h 1 rfl rfl dX4_refused_1 ?_
  refine r_put (ws' := mdW D aμ (μ.1, μ.2.1, μ.2.2.1, μ.2.2.2.1, μ.2.2.2.2.1, μ.2.2.2.2.2.1, x1, μ.2.2.2.2.2.2.2.1, μ.2.2.2.2.2.2.2.2.1, μ.2.2.2.2.2.2.2.2.2.1, μ.2.2.2.2.2.2.2.2.2.2.1, μ.2.2.2.2.2.2.2.2.2.2.2.1, μ.2.2.2.2.2.2.2.2.2.2.2.2)) h fp_X4_25 0 rfl (Nat.le_of_ble_eq_true rfl) rfl rfl rfl dX4_refused_2 ?_
  refine r_iload_n h 1 rfl rfl dX4_refused_5 ?_
  refine r_if_le h 13 dX4_refused_6 (by decide) (fun c1 => ?_) (fun c1 => ?_)
  · replace hF := o_pos c1 hF
    refine r_iconst (v := 0) h dX4_refused_13 (by decide) ?_
    cases hF
    exact r_zret h hr (Or.inl rfl) dX4_refused_14 ⟨rfl, rfl⟩
  · replace hF := o_neg c1 hF
    refine r_iconst (v := 1) h dX4_refused_9 (by decide) ?_
    refine r_goto h 14 dX4_refused_10 (by decide) ?_
    cases hF
    exact r_zret h hr (Or.inr rfl) dX4_refused_14 ⟨rfl, rfl⟩

def FX4_in (x0 : Int32) (x1 : Int32) (x2 : Int32) : Option (Int32) :=
  if x0 < x1 then
  (some (0 : Int32))
else
  (if x2 < x0 then
  (some (0 : Int32))
else
  (some (1 : Int32)))
abbrev rmX4_in : Room := { frames := 0, cells := 0, slots := 0, locals := 0 }
set_option maxHeartbeats 4000000 in
set_option maxRecDepth 100000 in
theorem CX4_in (l : Launch) (D : va_G)  (x0 : Int32) (x1 : Int32) (x2 : Int32) (r0 : Int32) (hF : FX4_in x0 x1 x2 = some r0) : Ct l D yX4_in cX4_in 3 (some .boolean) rmX4_in 0 0 [.int x0, .int x1, .int x2] [] (fun v w => v = some (.int r0) ∧ w = []) := by
  refine Ct.of (own := RX4) (lv := [(0, .int x0), (1, .int x1), (2, .int x2)]) (by decide +kernel) rfl (Nat.le_of_ble_eq_true rfl) rfl (fun X h hr => ?_)
  unfold FX4_in at hF
  refine r_iload_n h 0 rfl rfl dX4_in_0 ?_
  refine r_iload_n h 1 rfl rfl dX4_in_1 ?_
  refine r_icmp_lt h 14 dX4_in_2 (by decide) (fun c1 => ?_) (fun c1 => ?_)
  · replace hF := o_pos c1 hF
    refine r_iconst (v := 0) h dX4_in_14 (by decide) ?_
    cases hF
    exact r_zret h hr (Or.inl rfl) dX4_in_15 ⟨rfl, rfl⟩
  · replace hF := o_neg c1 hF
    refine r_iload_n h 0 rfl rfl dX4_in_5 ?_
    refine r_iload_n h 2 rfl rfl dX4_in_6 ?_
    refine r_icmp_gt h 14 dX4_in_7 (by decide) (fun c2 => ?_) (fun c2 => ?_)
    · replace hF := o_pos c2 hF
      refine r_iconst (v := 0) h dX4_in_14 (by decide) ?_
      cases hF
      exact r_zret h hr (Or.inl rfl) dX4_in_15 ⟨rfl, rfl⟩
    · replace hF := o_neg c2 hF
      refine r_iconst (v := 1) h dX4_in_10 (by decide) ?_
      refine r_goto h 15 dX4_in_11 (by decide) ?_
      cases hF
      exact r_zret h hr (Or.inr rfl) dX4_in_15 ⟨rfl, rfl⟩

def FX4_savesFrom_now_L10  (K : Int32 → MDS → Option (MDS)) : Nat → Int32 → MDS → Option (MDS)
  | 0, _, _ => none
  | n + 1, y4_2, s4_μ =>
  if (657 : Int32) ≤ y4_2 then
  (K y4_2 s4_μ)
else
  (gd (¬ ((y4_2 + (219 : Int32)) < 0 ∨ 876 ≤ (y4_2 + (219 : Int32)).toNatClampNeg)) (
  nmv (s4_μ.2.1 (y4_2 + (219 : Int32)).toNatClampNeg) fun u6 =>
  gd (¬ (y4_2 < 0 ∨ 876 ≤ (y4_2).toNatClampNeg)) (
  nmv (upd s4_μ.2.1 (y4_2).toNatClampNeg u6) fun fw7 =>
  FX4_savesFrom_now_L10 K n (y4_2 + 1) (s4_μ.1, fw7, s4_μ.2.2.1, s4_μ.2.2.2.1, s4_μ.2.2.2.2.1, s4_μ.2.2.2.2.2.1, s4_μ.2.2.2.2.2.2.1, s4_μ.2.2.2.2.2.2.2.1, s4_μ.2.2.2.2.2.2.2.2.1, s4_μ.2.2.2.2.2.2.2.2.2.1, s4_μ.2.2.2.2.2.2.2.2.2.2.1, s4_μ.2.2.2.2.2.2.2.2.2.2.2.1, s4_μ.2.2.2.2.2.2.2.2.2.2.2.2))))
def FX4_savesFrom_now_L51  (K : Int32 → MDS → Option (MDS)) : Nat → Int32 → MDS → Option (MDS)
  | 0, _, _ => none
  | n + 1, y9_2, s9_μ =>
  if (219 : Int32) ≤ y9_2 then
  (K y9_2 s9_μ)
else
  (nmv (((219 : Int32) * s9_μ.2.2.2.2.2.1) + y9_2) fun u11 =>
  gd (¬ (y9_2 < 0 ∨ 219 ≤ (y9_2).toNatClampNeg)) (
  gd (¬ (u11 < 0 ∨ 876 ≤ (u11).toNatClampNeg)) (
  nmv (upd s9_μ.2.1 (u11).toNatClampNeg (s9_μ.1 (y9_2).toNatClampNeg)) fun fw12 =>
  FX4_savesFrom_now_L51 K n (y9_2 + 1) (s9_μ.1, fw12, s9_μ.2.2.1, s9_μ.2.2.2.1, s9_μ.2.2.2.2.1, s9_μ.2.2.2.2.2.1, s9_μ.2.2.2.2.2.2.1, s9_μ.2.2.2.2.2.2.2.1, s9_μ.2.2.2.2.2.2.2.2.1, s9_μ.2.2.2.2.2.2.2.2.2.1, s9_μ.2.2.2.2.2.2.2.2.2.2.1, s9_μ.2.2.2.2.2.2.2.2.2.2.2.1, s9_μ.2.2.2.2.2.2.2.2.2.2.2.2))))
def FX4_savesFrom_now_J49 (t2_μ : MDS) : Option (MDS) :=
  FX4_savesFrom_now_L51  (fun (y9_2 : Int32) (s9_μ : MDS) =>
  some (s9_μ.1, s9_μ.2.1, s9_μ.2.2.1, s9_μ.2.2.2.1, s9_μ.2.2.2.2.1, s9_μ.2.2.2.2.2.1 + (1 : Int32), s9_μ.2.2.2.2.2.2.1, s9_μ.2.2.2.2.2.2.2.1, s9_μ.2.2.2.2.2.2.2.2.1, s9_μ.2.2.2.2.2.2.2.2.2.1, s9_μ.2.2.2.2.2.2.2.2.2.2.1, s9_μ.2.2.2.2.2.2.2.2.2.2.2.1, s9_μ.2.2.2.2.2.2.2.2.2.2.2.2)) FU (0 : Int32) t2_μ
def FX4_savesFrom_now (μ : MDS) : Option (MDS) :=
  if μ.2.2.2.2.2.1 = (4 : Int32) then
  (FX4_savesFrom_now_L10  (fun (y4_2 : Int32) (s4_μ : MDS) =>
  FX4_savesFrom_now_J49  (s4_μ.1, s4_μ.2.1, s4_μ.2.2.1, s4_μ.2.2.2.1, s4_μ.2.2.2.2.1, s4_μ.2.2.2.2.2.1 - (1 : Int32), s4_μ.2.2.2.2.2.2.1, s4_μ.2.2.2.2.2.2.2.1, s4_μ.2.2.2.2.2.2.2.2.1, s4_μ.2.2.2.2.2.2.2.2.2.1, s4_μ.2.2.2.2.2.2.2.2.2.2.1, s4_μ.2.2.2.2.2.2.2.2.2.2.2.1, s4_μ.2.2.2.2.2.2.2.2.2.2.2.2)) FU (0 : Int32) μ)
else
  (FX4_savesFrom_now_J49  μ)
abbrev rmX4_savesFrom_now : Room := { frames := 0, cells := 0, slots := 0, locals := 0 }
set_option maxHeartbeats 4000000 in
set_option maxRecDepth 100000 in
theorem CX4_savesFrom_now (l : Launch) (D : va_G) (aμ : Nat → Nat) (μ : MDS) (μ0 : MDS) (hF : FX4_savesFrom_now μ = some μ0) : Ct l D yX4_savesFrom cX4_savesFrom 3 none rmX4_savesFrom_now 0 0 [.ref (aμ 0), .ref (aμ 1)] (mdW D aμ μ) (fun v w => v = none ∧ w = mdW D aμ μ0) := by
  refine Ct.of (own := RX4) (lv := [(0, .ref (aμ 0)), (1, .ref (aμ 1))]) (by decide +kernel) rfl (Nat.le_of_ble_eq_true rfl) rfl (fun X h hr => ?_)
  unfold FX4_savesFrom_now at hF
  refine r_aload_n h 0 rfl rfl dX4_savesFrom_0 ?_
  refine r_get h fl_X4_33 0 rfl rfl dX4_savesFrom_1 ?_
  refine r_iconst (v := 4) h dX4_savesFrom_4 (by decide) ?_
  have hJ49 : ∀ (t2_μ : MDS), FX4_savesFrom_now_J49 t2_μ = some μ0 → J X l rmX4_savesFrom_now D 3 0 0 (mdW D aμ t2_μ) [(0, .ref (aμ 0)), (1, .ref (aμ 1))] 49 [] := by
    intro t2_μ hF
    unfold FX4_savesFrom_now_J49 at hF
    refine r_iconst (v := 0) h dX4_savesFrom_49 (by decide) ?_
    refine r_istore_n (lv' := [(2, .int (0 : Int32)), (0, .ref (aμ 0)), (1, .ref (aμ 1))]) h rfl dX4_savesFrom_50 (by decide) rfl ?_
    have hL51 : ∀ (K : Int32 → MDS → Option (MDS)) (hK : ∀ (y9_2 : Int32) (s9_μ : MDS), K y9_2 s9_μ = some μ0 → J X l rmX4_savesFrom_now D 3 0 0 (mdW D aμ s9_μ) [(2, .int y9_2), (0, .ref (aμ 0)), (1, .ref (aμ 1))] 82 []) (N : Nat), ∀ (y9_2 : Int32) (s9_μ : MDS), FX4_savesFrom_now_L51  K N y9_2 s9_μ = some μ0 → J X l rmX4_savesFrom_now D 3 0 0 (mdW D aμ s9_μ) [(2, .int y9_2), (0, .ref (aμ 0)), (1, .ref (aμ 1))] 51 [] := by
      intro K hK N
      induction N with
      | zero =>
        intro y9_2 s9_μ hF
        cases hF
      | succ N ih =>
        intro y9_2 s9_μ hF
        rw [FX4_savesFrom_now_L51] at hF
        refine r_iload_n h 0 rfl rfl dX4_savesFrom_51 ?_
        refine r_sipush (v := 219) h dX4_savesFrom_52 (by decide) ?_
        refine r_icmp_ge h 82 dX4_savesFrom_55 (by decide) (fun c10 => ?_) (fun c10 => ?_)
        · replace hF := o_pos c10 hF
          exact J.loc (lv' := [(2, .int y9_2), (0, .ref (aμ 0)), (1, .ref (aμ 1))]) [0, 1, 2] rfl (hK y9_2 s9_μ hF)
        · replace hF := o_neg c10 hF
          refine r_aload_n h 1 rfl rfl dX4_savesFrom_58 ?_
          refine r_get h fl_X4_13 0 rfl rfl dX4_savesFrom_59 ?_
          refine r_sipush (v := 219) h dX4_savesFrom_62 (by decide) ?_
          refine r_aload_n h 1 rfl rfl dX4_savesFrom_65 ?_
          refine r_get h fl_X4_33 0 rfl rfl dX4_savesFrom_66 ?_
          refine r_imul h dX4_savesFrom_69 ?_
          refine r_iload_n h 0 rfl rfl dX4_savesFrom_70 ?_
          refine r_iadd h dX4_savesFrom_71 ?_
          obtain ⟨u11, hu11, hF⟩ := o_nm hF
          refine J.top hu11 ?_
          refine r_aload_n h 2 rfl rfl dX4_savesFrom_72 ?_
          refine r_iload_n h 0 rfl rfl dX4_savesFrom_73 ?_
          obtain ⟨hN, hF⟩ := o_gd hF
          refine r_iald h 1 rfl hN dX4_savesFrom_74 ?_
          obtain ⟨hN, hF⟩ := o_gd hF
          obtain ⟨fw12, hfw12, hF⟩ := o_nm hF
          refine r_iast (ws' := mdW D aμ (s9_μ.1, fw12, s9_μ.2.2.1, s9_μ.2.2.2.1, s9_μ.2.2.2.2.1, s9_μ.2.2.2.2.2.1, s9_μ.2.2.2.2.2.2.1, s9_μ.2.2.2.2.2.2.2.1, s9_μ.2.2.2.2.2.2.2.2.1, s9_μ.2.2.2.2.2.2.2.2.2.1, s9_μ.2.2.2.2.2.2.2.2.2.2.1, s9_μ.2.2.2.2.2.2.2.2.2.2.2.1, s9_μ.2.2.2.2.2.2.2.2.2.2.2.2)) h 2 rfl hN (by rw [hfw12]; rfl) dX4_savesFrom_75 ?_
          refine r_iinc (lv' := [(2, .int (y9_2 + 1)), (0, .ref (aμ 0)), (1, .ref (aμ 1))]) h 0 rfl (congrArg (fun z => y9_2 + z) (by decide : Int32.ofInt 1 = 1)) dX4_savesFrom_76 (by decide) rfl ?_
          refine r_goto h 51 dX4_savesFrom_79 (by decide) ?_
          exact J.loc (lv' := [(2, .int (y9_2 + 1)), (0, .ref (aμ 0)), (1, .ref (aμ 1))]) [0, 1, 2] rfl (ih (y9_2 + 1) (s9_μ.1, fw12, s9_μ.2.2.1, s9_μ.2.2.2.1, s9_μ.2.2.2.2.1, s9_μ.2.2.2.2.2.1, s9_μ.2.2.2.2.2.2.1, s9_μ.2.2.2.2.2.2.2.1, s9_μ.2.2.2.2.2.2.2.2.1, s9_μ.2.2.2.2.2.2.2.2.2.1, s9_μ.2.2.2.2.2.2.2.2.2.2.1, s9_μ.2.2.2.2.2.2.2.2.2.2.2.1, s9_μ.2.2.2.2.2.2.2.2.2.2.2.2) hF)
    refine hL51 _ (fun y9_2 s9_μ hF => ?_) _ (0 : Int32) t2_μ hF
    refine r_aload_n h 1 rfl rfl dX4_savesFrom_82 ?_
    refine r_dup h rfl dX4_savesFrom_83 ?_
    refine r_get h fl_X4_33 0 rfl rfl dX4_savesFrom_84 ?_
    refine r_iconst (v := 1) h dX4_savesFrom_87 (by decide) ?_
    refine r_iadd h dX4_savesFrom_88 ?_
    refine r_put (ws' := mdW D aμ (s9_μ.1, s9_μ.2.1, s9_μ.2.2.1, s9_μ.2.2.2.1, s9_μ.2.2.2.2.1, s9_μ.2.2.2.2.2.1 + (1 : Int32), s9_μ.2.2.2.2.2.2.1, s9_μ.2.2.2.2.2.2.2.1, s9_μ.2.2.2.2.2.2.2.2.1, s9_μ.2.2.2.2.2.2.2.2.2.1, s9_μ.2.2.2.2.2.2.2.2.2.2.1, s9_μ.2.2.2.2.2.2.2.2.2.2.2.1, s9_μ.2.2.2.2.2.2.2.2.2.2.2.2)) h fp_X4_33 0 rfl (Nat.le_of_ble_eq_true rfl) rfl rfl rfl dX4_savesFrom_89 ?_
    cases hF
    exact r_vret h hr dX4_savesFrom_92 ⟨rfl, rfl⟩
  refine r_icmp_ne h 49 dX4_savesFrom_5 (by decide) (fun c1 => ?_) (fun c1 => ?_)
  · replace hF := o_neg c1 hF
    exact J.loc (lv' := [(0, .ref (aμ 0)), (1, .ref (aμ 1))]) [0, 1] rfl (hJ49 μ hF)
  · replace hF := o_pos c1 hF
    refine r_iconst (v := 0) h dX4_savesFrom_8 (by decide) ?_
    refine r_istore_n (lv' := [(2, .int (0 : Int32)), (0, .ref (aμ 0)), (1, .ref (aμ 1))]) h rfl dX4_savesFrom_9 (by decide) rfl ?_
    have hL10 : ∀ (K : Int32 → MDS → Option (MDS)) (hK : ∀ (y4_2 : Int32) (s4_μ : MDS), K y4_2 s4_μ = some μ0 → J X l rmX4_savesFrom_now D 3 0 0 (mdW D aμ s4_μ) [(2, .int y4_2), (0, .ref (aμ 0)), (1, .ref (aμ 1))] 39 []) (N : Nat), ∀ (y4_2 : Int32) (s4_μ : MDS), FX4_savesFrom_now_L10  K N y4_2 s4_μ = some μ0 → J X l rmX4_savesFrom_now D 3 0 0 (mdW D aμ s4_μ) [(2, .int y4_2), (0, .ref (aμ 0)), (1, .ref (aμ 1))] 10 [] := by
      intro K hK N
      induction N with
      | zero =>
        intro y4_2 s4_μ hF
        cases hF
      | succ N ih =>
        intro y4_2 s4_μ hF
        rw [FX4_savesFrom_now_L10] at hF
        refine r_iload_n h 0 rfl rfl dX4_savesFrom_10 ?_
        refine r_sipush (v := 657) h dX4_savesFrom_11 (by decide) ?_
        refine r_icmp_ge h 39 dX4_savesFrom_14 (by decide) (fun c5 => ?_) (fun c5 => ?_)
        · replace hF := o_pos c5 hF
          exact J.loc (lv' := [(2, .int y4_2), (0, .ref (aμ 0)), (1, .ref (aμ 1))]) [0, 1, 2] rfl (hK y4_2 s4_μ hF)
        · replace hF := o_neg c5 hF
          refine r_aload_n h 1 rfl rfl dX4_savesFrom_17 ?_
          refine r_get h fl_X4_13 0 rfl rfl dX4_savesFrom_18 ?_
          refine r_iload_n h 0 rfl rfl dX4_savesFrom_21 ?_
          refine r_aload_n h 1 rfl rfl dX4_savesFrom_22 ?_
          refine r_get h fl_X4_13 0 rfl rfl dX4_savesFrom_23 ?_
          refine r_iload_n h 0 rfl rfl dX4_savesFrom_26 ?_
          refine r_sipush (v := 219) h dX4_savesFrom_27 (by decide) ?_
          refine r_iadd h dX4_savesFrom_30 ?_
          obtain ⟨hN, hF⟩ := o_gd hF
          refine r_iald h 2 rfl hN dX4_savesFrom_31 ?_
          obtain ⟨u6, hu6, hF⟩ := o_nm hF
          refine J.top hu6 ?_
          obtain ⟨hN, hF⟩ := o_gd hF
          obtain ⟨fw7, hfw7, hF⟩ := o_nm hF
          refine r_iast (ws' := mdW D aμ (s4_μ.1, fw7, s4_μ.2.2.1, s4_μ.2.2.2.1, s4_μ.2.2.2.2.1, s4_μ.2.2.2.2.2.1, s4_μ.2.2.2.2.2.2.1, s4_μ.2.2.2.2.2.2.2.1, s4_μ.2.2.2.2.2.2.2.2.1, s4_μ.2.2.2.2.2.2.2.2.2.1, s4_μ.2.2.2.2.2.2.2.2.2.2.1, s4_μ.2.2.2.2.2.2.2.2.2.2.2.1, s4_μ.2.2.2.2.2.2.2.2.2.2.2.2)) h 2 rfl hN (by rw [hfw7]; rfl) dX4_savesFrom_32 ?_
          refine r_iinc (lv' := [(2, .int (y4_2 + 1)), (0, .ref (aμ 0)), (1, .ref (aμ 1))]) h 0 rfl (congrArg (fun z => y4_2 + z) (by decide : Int32.ofInt 1 = 1)) dX4_savesFrom_33 (by decide) rfl ?_
          refine r_goto h 10 dX4_savesFrom_36 (by decide) ?_
          exact J.loc (lv' := [(2, .int (y4_2 + 1)), (0, .ref (aμ 0)), (1, .ref (aμ 1))]) [0, 1, 2] rfl (ih (y4_2 + 1) (s4_μ.1, fw7, s4_μ.2.2.1, s4_μ.2.2.2.1, s4_μ.2.2.2.2.1, s4_μ.2.2.2.2.2.1, s4_μ.2.2.2.2.2.2.1, s4_μ.2.2.2.2.2.2.2.1, s4_μ.2.2.2.2.2.2.2.2.1, s4_μ.2.2.2.2.2.2.2.2.2.1, s4_μ.2.2.2.2.2.2.2.2.2.2.1, s4_μ.2.2.2.2.2.2.2.2.2.2.2.1, s4_μ.2.2.2.2.2.2.2.2.2.2.2.2) hF)
    refine hL10 _ (fun y4_2 s4_μ hF => ?_) _ (0 : Int32) μ hF
    refine r_aload_n h 1 rfl rfl dX4_savesFrom_39 ?_
    refine r_dup h rfl dX4_savesFrom_40 ?_
    refine r_get h fl_X4_33 0 rfl rfl dX4_savesFrom_41 ?_
    refine r_iconst (v := 1) h dX4_savesFrom_44 (by decide) ?_
    refine r_isub h dX4_savesFrom_45 ?_
    refine r_put (ws' := mdW D aμ (s4_μ.1, s4_μ.2.1, s4_μ.2.2.1, s4_μ.2.2.2.1, s4_μ.2.2.2.2.1, s4_μ.2.2.2.2.2.1 - (1 : Int32), s4_μ.2.2.2.2.2.2.1, s4_μ.2.2.2.2.2.2.2.1, s4_μ.2.2.2.2.2.2.2.2.1, s4_μ.2.2.2.2.2.2.2.2.2.1, s4_μ.2.2.2.2.2.2.2.2.2.2.1, s4_μ.2.2.2.2.2.2.2.2.2.2.2.1, s4_μ.2.2.2.2.2.2.2.2.2.2.2.2)) h fp_X4_33 0 rfl (Nat.le_of_ble_eq_true rfl) rfl rfl rfl dX4_savesFrom_46 ?_
    exact J.loc (lv' := [(0, .ref (aμ 0)), (1, .ref (aμ 1))]) [1, 2] rfl (hJ49 (s4_μ.1, s4_μ.2.1, s4_μ.2.2.1, s4_μ.2.2.2.1, s4_μ.2.2.2.2.1, s4_μ.2.2.2.2.2.1 - (1 : Int32), s4_μ.2.2.2.2.2.2.1, s4_μ.2.2.2.2.2.2.2.1, s4_μ.2.2.2.2.2.2.2.2.1, s4_μ.2.2.2.2.2.2.2.2.2.1, s4_μ.2.2.2.2.2.2.2.2.2.2.1, s4_μ.2.2.2.2.2.2.2.2.2.2.2.1, s4_μ.2.2.2.2.2.2.2.2.2.2.2.2) hF)

def FX4_saves (μ : MDS) : Option (MDS) :=
  (FX4_savesFrom_now μ).bind fun z1 =>
  some z1
abbrev rmX4_saves : Room := { frames := 1, cells := 0, slots := 0, locals := 22 }
set_option maxHeartbeats 4000000 in
set_option maxRecDepth 100000 in
theorem CX4_saves (l : Launch) (D : va_G) (aμ : Nat → Nat) (μ : MDS) (μ0 : MDS) (hF : FX4_saves μ = some μ0) : Ct l D yX4_saves cX4_saves 1 none rmX4_saves 0 0 [.ref (aμ 0)] (mdW D aμ μ) (fun v w => v = none ∧ w = mdW D aμ μ0) := by
  refine Ct.of (own := RX4) (lv := [(0, .ref (aμ 0))]) (by decide +kernel) rfl (Nat.le_of_ble_eq_true rfl) rfl (fun X h hr => ?_)
  unfold FX4_saves at hF
  refine r_aload_n h 0 rfl rfl dX4_saves_0 ?_
  refine r_aload_n h 0 rfl rfl dX4_saves_1 ?_
  refine r_get h fl_X4_7 0 rfl rfl dX4_saves_2 ?_
  obtain ⟨z1, e2, hF⟩ := o_bind hF
  refine r_callVa (q0 := 0) (rest := []) h hd_X4_savesFrom wm_774 dX4_saves_5 (CX4_savesFrom_now l D aμ μ z1 e2) rfl rfl rfl ⟨rfl, rfl⟩ ⟨by decide, by decide⟩ (Nat.le_of_ble_eq_true rfl) ⟨by decide, by decide⟩ rfl (fun v w' hp => ?_)
  obtain ⟨rfl, rfl⟩ := hp
  cases hF
  exact r_vret h hr dX4_saves_8 ⟨rfl, rfl⟩

def FX4_savesFrom_aside_L10  (K : Int32 → MDS → Option (MDS)) : Nat → Int32 → MDS → Option (MDS)
  | 0, _, _ => none
  | n + 1, y4_2, s4_μ =>
  if (657 : Int32) ≤ y4_2 then
  (K y4_2 s4_μ)
else
  (gd (¬ ((y4_2 + (219 : Int32)) < 0 ∨ 876 ≤ (y4_2 + (219 : Int32)).toNatClampNeg)) (
  nmv (s4_μ.2.1 (y4_2 + (219 : Int32)).toNatClampNeg) fun u6 =>
  gd (¬ (y4_2 < 0 ∨ 876 ≤ (y4_2).toNatClampNeg)) (
  nmv (upd s4_μ.2.1 (y4_2).toNatClampNeg u6) fun fw7 =>
  FX4_savesFrom_aside_L10 K n (y4_2 + 1) (s4_μ.1, fw7, s4_μ.2.2.1, s4_μ.2.2.2.1, s4_μ.2.2.2.2.1, s4_μ.2.2.2.2.2.1, s4_μ.2.2.2.2.2.2.1, s4_μ.2.2.2.2.2.2.2.1, s4_μ.2.2.2.2.2.2.2.2.1, s4_μ.2.2.2.2.2.2.2.2.2.1, s4_μ.2.2.2.2.2.2.2.2.2.2.1, s4_μ.2.2.2.2.2.2.2.2.2.2.2.1, s4_μ.2.2.2.2.2.2.2.2.2.2.2.2))))
def FX4_savesFrom_aside_L51  (K : Int32 → MDS → Option (MDS)) : Nat → Int32 → MDS → Option (MDS)
  | 0, _, _ => none
  | n + 1, y9_2, s9_μ =>
  if (219 : Int32) ≤ y9_2 then
  (K y9_2 s9_μ)
else
  (nmv (((219 : Int32) * s9_μ.2.2.2.2.2.1) + y9_2) fun u11 =>
  gd (¬ (y9_2 < 0 ∨ 219 ≤ (y9_2).toNatClampNeg)) (
  gd (¬ (u11 < 0 ∨ 876 ≤ (u11).toNatClampNeg)) (
  nmv (upd s9_μ.2.1 (u11).toNatClampNeg (s9_μ.2.2.1 (y9_2).toNatClampNeg)) fun fw12 =>
  FX4_savesFrom_aside_L51 K n (y9_2 + 1) (s9_μ.1, fw12, s9_μ.2.2.1, s9_μ.2.2.2.1, s9_μ.2.2.2.2.1, s9_μ.2.2.2.2.2.1, s9_μ.2.2.2.2.2.2.1, s9_μ.2.2.2.2.2.2.2.1, s9_μ.2.2.2.2.2.2.2.2.1, s9_μ.2.2.2.2.2.2.2.2.2.1, s9_μ.2.2.2.2.2.2.2.2.2.2.1, s9_μ.2.2.2.2.2.2.2.2.2.2.2.1, s9_μ.2.2.2.2.2.2.2.2.2.2.2.2))))
def FX4_savesFrom_aside_J49 (t2_μ : MDS) : Option (MDS) :=
  FX4_savesFrom_aside_L51  (fun (y9_2 : Int32) (s9_μ : MDS) =>
  some (s9_μ.1, s9_μ.2.1, s9_μ.2.2.1, s9_μ.2.2.2.1, s9_μ.2.2.2.2.1, s9_μ.2.2.2.2.2.1 + (1 : Int32), s9_μ.2.2.2.2.2.2.1, s9_μ.2.2.2.2.2.2.2.1, s9_μ.2.2.2.2.2.2.2.2.1, s9_μ.2.2.2.2.2.2.2.2.2.1, s9_μ.2.2.2.2.2.2.2.2.2.2.1, s9_μ.2.2.2.2.2.2.2.2.2.2.2.1, s9_μ.2.2.2.2.2.2.2.2.2.2.2.2)) FU (0 : Int32) t2_μ
def FX4_savesFrom_aside (μ : MDS) : Option (MDS) :=
  if μ.2.2.2.2.2.1 = (4 : Int32) then
  (FX4_savesFrom_aside_L10  (fun (y4_2 : Int32) (s4_μ : MDS) =>
  FX4_savesFrom_aside_J49  (s4_μ.1, s4_μ.2.1, s4_μ.2.2.1, s4_μ.2.2.2.1, s4_μ.2.2.2.2.1, s4_μ.2.2.2.2.2.1 - (1 : Int32), s4_μ.2.2.2.2.2.2.1, s4_μ.2.2.2.2.2.2.2.1, s4_μ.2.2.2.2.2.2.2.2.1, s4_μ.2.2.2.2.2.2.2.2.2.1, s4_μ.2.2.2.2.2.2.2.2.2.2.1, s4_μ.2.2.2.2.2.2.2.2.2.2.2.1, s4_μ.2.2.2.2.2.2.2.2.2.2.2.2)) FU (0 : Int32) μ)
else
  (FX4_savesFrom_aside_J49  μ)
abbrev rmX4_savesFrom_aside : Room := { frames := 0, cells := 0, slots := 0, locals := 0 }
set_option maxHeartbeats 4000000 in
set_option maxRecDepth 100000 in
theorem CX4_savesFrom_aside (l : Launch) (D : va_G) (aμ : Nat → Nat) (μ : MDS) (μ0 : MDS) (hF : FX4_savesFrom_aside μ = some μ0) : Ct l D yX4_savesFrom cX4_savesFrom 3 none rmX4_savesFrom_aside 0 0 [.ref (aμ 0), .ref (aμ 3)] (mdW D aμ μ) (fun v w => v = none ∧ w = mdW D aμ μ0) := by
  refine Ct.of (own := RX4) (lv := [(0, .ref (aμ 0)), (1, .ref (aμ 3))]) (by decide +kernel) rfl (Nat.le_of_ble_eq_true rfl) rfl (fun X h hr => ?_)
  unfold FX4_savesFrom_aside at hF
  refine r_aload_n h 0 rfl rfl dX4_savesFrom_0 ?_
  refine r_get h fl_X4_33 0 rfl rfl dX4_savesFrom_1 ?_
  refine r_iconst (v := 4) h dX4_savesFrom_4 (by decide) ?_
  have hJ49 : ∀ (t2_μ : MDS), FX4_savesFrom_aside_J49 t2_μ = some μ0 → J X l rmX4_savesFrom_aside D 3 0 0 (mdW D aμ t2_μ) [(0, .ref (aμ 0)), (1, .ref (aμ 3))] 49 [] := by
    intro t2_μ hF
    unfold FX4_savesFrom_aside_J49 at hF
    refine r_iconst (v := 0) h dX4_savesFrom_49 (by decide) ?_
    refine r_istore_n (lv' := [(2, .int (0 : Int32)), (0, .ref (aμ 0)), (1, .ref (aμ 3))]) h rfl dX4_savesFrom_50 (by decide) rfl ?_
    have hL51 : ∀ (K : Int32 → MDS → Option (MDS)) (hK : ∀ (y9_2 : Int32) (s9_μ : MDS), K y9_2 s9_μ = some μ0 → J X l rmX4_savesFrom_aside D 3 0 0 (mdW D aμ s9_μ) [(2, .int y9_2), (0, .ref (aμ 0)), (1, .ref (aμ 3))] 82 []) (N : Nat), ∀ (y9_2 : Int32) (s9_μ : MDS), FX4_savesFrom_aside_L51  K N y9_2 s9_μ = some μ0 → J X l rmX4_savesFrom_aside D 3 0 0 (mdW D aμ s9_μ) [(2, .int y9_2), (0, .ref (aμ 0)), (1, .ref (aμ 3))] 51 [] := by
      intro K hK N
      induction N with
      | zero =>
        intro y9_2 s9_μ hF
        cases hF
      | succ N ih =>
        intro y9_2 s9_μ hF
        rw [FX4_savesFrom_aside_L51] at hF
        refine r_iload_n h 0 rfl rfl dX4_savesFrom_51 ?_
        refine r_sipush (v := 219) h dX4_savesFrom_52 (by decide) ?_
        refine r_icmp_ge h 82 dX4_savesFrom_55 (by decide) (fun c10 => ?_) (fun c10 => ?_)
        · replace hF := o_pos c10 hF
          exact J.loc (lv' := [(2, .int y9_2), (0, .ref (aμ 0)), (1, .ref (aμ 3))]) [0, 1, 2] rfl (hK y9_2 s9_μ hF)
        · replace hF := o_neg c10 hF
          refine r_aload_n h 1 rfl rfl dX4_savesFrom_58 ?_
          refine r_get h fl_X4_13 0 rfl rfl dX4_savesFrom_59 ?_
          refine r_sipush (v := 219) h dX4_savesFrom_62 (by decide) ?_
          refine r_aload_n h 1 rfl rfl dX4_savesFrom_65 ?_
          refine r_get h fl_X4_33 0 rfl rfl dX4_savesFrom_66 ?_
          refine r_imul h dX4_savesFrom_69 ?_
          refine r_iload_n h 0 rfl rfl dX4_savesFrom_70 ?_
          refine r_iadd h dX4_savesFrom_71 ?_
          obtain ⟨u11, hu11, hF⟩ := o_nm hF
          refine J.top hu11 ?_
          refine r_aload_n h 2 rfl rfl dX4_savesFrom_72 ?_
          refine r_iload_n h 0 rfl rfl dX4_savesFrom_73 ?_
          obtain ⟨hN, hF⟩ := o_gd hF
          refine r_iald h 3 rfl hN dX4_savesFrom_74 ?_
          obtain ⟨hN, hF⟩ := o_gd hF
          obtain ⟨fw12, hfw12, hF⟩ := o_nm hF
          refine r_iast (ws' := mdW D aμ (s9_μ.1, fw12, s9_μ.2.2.1, s9_μ.2.2.2.1, s9_μ.2.2.2.2.1, s9_μ.2.2.2.2.2.1, s9_μ.2.2.2.2.2.2.1, s9_μ.2.2.2.2.2.2.2.1, s9_μ.2.2.2.2.2.2.2.2.1, s9_μ.2.2.2.2.2.2.2.2.2.1, s9_μ.2.2.2.2.2.2.2.2.2.2.1, s9_μ.2.2.2.2.2.2.2.2.2.2.2.1, s9_μ.2.2.2.2.2.2.2.2.2.2.2.2)) h 2 rfl hN (by rw [hfw12]; rfl) dX4_savesFrom_75 ?_
          refine r_iinc (lv' := [(2, .int (y9_2 + 1)), (0, .ref (aμ 0)), (1, .ref (aμ 3))]) h 0 rfl (congrArg (fun z => y9_2 + z) (by decide : Int32.ofInt 1 = 1)) dX4_savesFrom_76 (by decide) rfl ?_
          refine r_goto h 51 dX4_savesFrom_79 (by decide) ?_
          exact J.loc (lv' := [(2, .int (y9_2 + 1)), (0, .ref (aμ 0)), (1, .ref (aμ 3))]) [0, 1, 2] rfl (ih (y9_2 + 1) (s9_μ.1, fw12, s9_μ.2.2.1, s9_μ.2.2.2.1, s9_μ.2.2.2.2.1, s9_μ.2.2.2.2.2.1, s9_μ.2.2.2.2.2.2.1, s9_μ.2.2.2.2.2.2.2.1, s9_μ.2.2.2.2.2.2.2.2.1, s9_μ.2.2.2.2.2.2.2.2.2.1, s9_μ.2.2.2.2.2.2.2.2.2.2.1, s9_μ.2.2.2.2.2.2.2.2.2.2.2.1, s9_μ.2.2.2.2.2.2.2.2.2.2.2.2) hF)
    refine hL51 _ (fun y9_2 s9_μ hF => ?_) _ (0 : Int32) t2_μ hF
    refine r_aload_n h 1 rfl rfl dX4_savesFrom_82 ?_
    refine r_dup h rfl dX4_savesFrom_83 ?_
    refine r_get h fl_X4_33 0 rfl rfl dX4_savesFrom_84 ?_
    refine r_iconst (v := 1) h dX4_savesFrom_87 (by decide) ?_
    refine r_iadd h dX4_savesFrom_88 ?_
    refine r_put (ws' := mdW D aμ (s9_μ.1, s9_μ.2.1, s9_μ.2.2.1, s9_μ.2.2.2.1, s9_μ.2.2.2.2.1, s9_μ.2.2.2.2.2.1 + (1 : Int32), s9_μ.2.2.2.2.2.2.1, s9_μ.2.2.2.2.2.2.2.1, s9_μ.2.2.2.2.2.2.2.2.1, s9_μ.2.2.2.2.2.2.2.2.2.1, s9_μ.2.2.2.2.2.2.2.2.2.2.1, s9_μ.2.2.2.2.2.2.2.2.2.2.2.1, s9_μ.2.2.2.2.2.2.2.2.2.2.2.2)) h fp_X4_33 0 rfl (Nat.le_of_ble_eq_true rfl) rfl rfl rfl dX4_savesFrom_89 ?_
    cases hF
    exact r_vret h hr dX4_savesFrom_92 ⟨rfl, rfl⟩
  refine r_icmp_ne h 49 dX4_savesFrom_5 (by decide) (fun c1 => ?_) (fun c1 => ?_)
  · replace hF := o_neg c1 hF
    exact J.loc (lv' := [(0, .ref (aμ 0)), (1, .ref (aμ 3))]) [0, 1] rfl (hJ49 μ hF)
  · replace hF := o_pos c1 hF
    refine r_iconst (v := 0) h dX4_savesFrom_8 (by decide) ?_
    refine r_istore_n (lv' := [(2, .int (0 : Int32)), (0, .ref (aμ 0)), (1, .ref (aμ 3))]) h rfl dX4_savesFrom_9 (by decide) rfl ?_
    have hL10 : ∀ (K : Int32 → MDS → Option (MDS)) (hK : ∀ (y4_2 : Int32) (s4_μ : MDS), K y4_2 s4_μ = some μ0 → J X l rmX4_savesFrom_aside D 3 0 0 (mdW D aμ s4_μ) [(2, .int y4_2), (0, .ref (aμ 0)), (1, .ref (aμ 3))] 39 []) (N : Nat), ∀ (y4_2 : Int32) (s4_μ : MDS), FX4_savesFrom_aside_L10  K N y4_2 s4_μ = some μ0 → J X l rmX4_savesFrom_aside D 3 0 0 (mdW D aμ s4_μ) [(2, .int y4_2), (0, .ref (aμ 0)), (1, .ref (aμ 3))] 10 [] := by
      intro K hK N
      induction N with
      | zero =>
        intro y4_2 s4_μ hF
        cases hF
      | succ N ih =>
        intro y4_2 s4_μ hF
        rw [FX4_savesFrom_aside_L10] at hF
        refine r_iload_n h 0 rfl rfl dX4_savesFrom_10 ?_
        refine r_sipush (v := 657) h dX4_savesFrom_11 (by decide) ?_
        refine r_icmp_ge h 39 dX4_savesFrom_14 (by decide) (fun c5 => ?_) (fun c5 => ?_)
        · replace hF := o_pos c5 hF
          exact J.loc (lv' := [(2, .int y4_2), (0, .ref (aμ 0)), (1, .ref (aμ 3))]) [0, 1, 2] rfl (hK y4_2 s4_μ hF)
        · replace hF := o_neg c5 hF
          refine r_aload_n h 1 rfl rfl dX4_savesFrom_17 ?_
          refine r_get h fl_X4_13 0 rfl rfl dX4_savesFrom_18 ?_
          refine r_iload_n h 0 rfl rfl dX4_savesFrom_21 ?_
          refine r_aload_n h 1 rfl rfl dX4_savesFrom_22 ?_
          refine r_get h fl_X4_13 0 rfl rfl dX4_savesFrom_23 ?_
          refine r_iload_n h 0 rfl rfl dX4_savesFrom_26 ?_
          refine r_sipush (v := 219) h dX4_savesFrom_27 (by decide) ?_
          refine r_iadd h dX4_savesFrom_30 ?_
          obtain ⟨hN, hF⟩ := o_gd hF
          refine r_iald h 2 rfl hN dX4_savesFrom_31 ?_
          obtain ⟨u6, hu6, hF⟩ := o_nm hF
          refine J.top hu6 ?_
          obtain ⟨hN, hF⟩ := o_gd hF
          obtain ⟨fw7, hfw7, hF⟩ := o_nm hF
          refine r_iast (ws' := mdW D aμ (s4_μ.1, fw7, s4_μ.2.2.1, s4_μ.2.2.2.1, s4_μ.2.2.2.2.1, s4_μ.2.2.2.2.2.1, s4_μ.2.2.2.2.2.2.1, s4_μ.2.2.2.2.2.2.2.1, s4_μ.2.2.2.2.2.2.2.2.1, s4_μ.2.2.2.2.2.2.2.2.2.1, s4_μ.2.2.2.2.2.2.2.2.2.2.1, s4_μ.2.2.2.2.2.2.2.2.2.2.2.1, s4_μ.2.2.2.2.2.2.2.2.2.2.2.2)) h 2 rfl hN (by rw [hfw7]; rfl) dX4_savesFrom_32 ?_
          refine r_iinc (lv' := [(2, .int (y4_2 + 1)), (0, .ref (aμ 0)), (1, .ref (aμ 3))]) h 0 rfl (congrArg (fun z => y4_2 + z) (by decide : Int32.ofInt 1 = 1)) dX4_savesFrom_33 (by decide) rfl ?_
          refine r_goto h 10 dX4_savesFrom_36 (by decide) ?_
          exact J.loc (lv' := [(2, .int (y4_2 + 1)), (0, .ref (aμ 0)), (1, .ref (aμ 3))]) [0, 1, 2] rfl (ih (y4_2 + 1) (s4_μ.1, fw7, s4_μ.2.2.1, s4_μ.2.2.2.1, s4_μ.2.2.2.2.1, s4_μ.2.2.2.2.2.1, s4_μ.2.2.2.2.2.2.1, s4_μ.2.2.2.2.2.2.2.1, s4_μ.2.2.2.2.2.2.2.2.1, s4_μ.2.2.2.2.2.2.2.2.2.1, s4_μ.2.2.2.2.2.2.2.2.2.2.1, s4_μ.2.2.2.2.2.2.2.2.2.2.2.1, s4_μ.2.2.2.2.2.2.2.2.2.2.2.2) hF)
    refine hL10 _ (fun y4_2 s4_μ hF => ?_) _ (0 : Int32) μ hF
    refine r_aload_n h 1 rfl rfl dX4_savesFrom_39 ?_
    refine r_dup h rfl dX4_savesFrom_40 ?_
    refine r_get h fl_X4_33 0 rfl rfl dX4_savesFrom_41 ?_
    refine r_iconst (v := 1) h dX4_savesFrom_44 (by decide) ?_
    refine r_isub h dX4_savesFrom_45 ?_
    refine r_put (ws' := mdW D aμ (s4_μ.1, s4_μ.2.1, s4_μ.2.2.1, s4_μ.2.2.2.1, s4_μ.2.2.2.2.1, s4_μ.2.2.2.2.2.1 - (1 : Int32), s4_μ.2.2.2.2.2.2.1, s4_μ.2.2.2.2.2.2.2.1, s4_μ.2.2.2.2.2.2.2.2.1, s4_μ.2.2.2.2.2.2.2.2.2.1, s4_μ.2.2.2.2.2.2.2.2.2.2.1, s4_μ.2.2.2.2.2.2.2.2.2.2.2.1, s4_μ.2.2.2.2.2.2.2.2.2.2.2.2)) h fp_X4_33 0 rfl (Nat.le_of_ble_eq_true rfl) rfl rfl rfl dX4_savesFrom_46 ?_
    exact J.loc (lv' := [(0, .ref (aμ 0)), (1, .ref (aμ 3))]) [1, 2] rfl (hJ49 (s4_μ.1, s4_μ.2.1, s4_μ.2.2.1, s4_μ.2.2.2.1, s4_μ.2.2.2.2.1, s4_μ.2.2.2.2.2.1 - (1 : Int32), s4_μ.2.2.2.2.2.2.1, s4_μ.2.2.2.2.2.2.2.1, s4_μ.2.2.2.2.2.2.2.2.1, s4_μ.2.2.2.2.2.2.2.2.2.1, s4_μ.2.2.2.2.2.2.2.2.2.2.1, s4_μ.2.2.2.2.2.2.2.2.2.2.2.1, s4_μ.2.2.2.2.2.2.2.2.2.2.2.2) hF)

def FX4_undo_L33  (K : Int32 → MDS → Option (Int32 × MDS)) : Nat → Int32 → MDS → Option (Int32 × MDS)
  | 0, _, _ => none
  | n + 1, y7_1, s7_μ =>
  if (219 : Int32) ≤ y7_1 then
  (K y7_1 s7_μ)
else
  (nmv (((219 : Int32) * s7_μ.2.2.2.2.2.1) + y7_1) fun u9 =>
  gd (¬ (u9 < 0 ∨ 876 ≤ (u9).toNatClampNeg)) (
  gd (¬ (y7_1 < 0 ∨ 219 ≤ (y7_1).toNatClampNeg)) (
  nmv (upd s7_μ.1 (y7_1).toNatClampNeg (s7_μ.2.1 (u9).toNatClampNeg)) fun fw10 =>
  FX4_undo_L33 K n (y7_1 + 1) (fw10, s7_μ.2.1, s7_μ.2.2.1, s7_μ.2.2.2.1, s7_μ.2.2.2.2.1, s7_μ.2.2.2.2.2.1, s7_μ.2.2.2.2.2.2.1, s7_μ.2.2.2.2.2.2.2.1, s7_μ.2.2.2.2.2.2.2.2.1, s7_μ.2.2.2.2.2.2.2.2.2.1, s7_μ.2.2.2.2.2.2.2.2.2.2.1, s7_μ.2.2.2.2.2.2.2.2.2.2.2.1, s7_μ.2.2.2.2.2.2.2.2.2.2.2.2))))
def FX4_undo_J13 (μ : MDS) (b2_0 : Int32) : Option (Int32 × MDS) :=
  (FX4_refused μ b2_0).bind fun z3 =>
  if z3.1 = 0 then
  (FX4_undo_L33  (fun (y7_1 : Int32) (s7_μ : MDS) =>
  some (s7_μ.2.2.2.2.2.1, s7_μ)) FU (0 : Int32) (z3.2.1, z3.2.2.1, z3.2.2.2.1, z3.2.2.2.2.1, z3.2.2.2.2.2.1, z3.2.2.2.2.2.2.1 - (1 : Int32), z3.2.2.2.2.2.2.2.1, z3.2.2.2.2.2.2.2.2.1, z3.2.2.2.2.2.2.2.2.2.1, z3.2.2.2.2.2.2.2.2.2.2.1, z3.2.2.2.2.2.2.2.2.2.2.2.1, z3.2.2.2.2.2.2.2.2.2.2.2.2.1, z3.2.2.2.2.2.2.2.2.2.2.2.2.2))
else
  (some ((0 : Int32), z3.2))
def FX4_undo (μ : MDS) : Option (Int32 × MDS) :=
  if μ.2.2.2.2.2.1 = 0 then
  (FX4_undo_J13 μ (1 : Int32))
else
  (FX4_undo_J13 μ (0 : Int32))
abbrev rmX4_undo : Room := { frames := 1, cells := 0, slots := 0, locals := 21 }
set_option maxHeartbeats 4000000 in
set_option maxRecDepth 100000 in
theorem CX4_undo (l : Launch) (D : va_G) (aμ : Nat → Nat) (μ : MDS) (r0 : Int32) (μ0 : MDS) (hF : FX4_undo μ = some (r0, μ0)) : Ct l D yX4_undo cX4_undo 2 (some .int) rmX4_undo 0 0 [.ref (aμ 0)] (mdW D aμ μ) (fun v w => v = some (.int r0) ∧ w = mdW D aμ μ0) := by
  refine Ct.of (own := RX4) (lv := [(0, .ref (aμ 0))]) (by decide +kernel) rfl (Nat.le_of_ble_eq_true rfl) rfl (fun X h hr => ?_)
  unfold FX4_undo at hF
  refine r_aload_n h 0 rfl rfl dX4_undo_0 ?_
  refine r_aload_n h 0 rfl rfl dX4_undo_1 ?_
  refine r_get h fl_X4_33 0 rfl rfl dX4_undo_2 ?_
  have hJ13 : ∀ (b2_0 : Int32), FX4_undo_J13 μ b2_0 = some (r0, μ0) → J X l rmX4_undo D 2 0 0 (mdW D aμ μ) [(0, .ref (aμ 0))] 13 [.int b2_0, .ref (aμ 0)] := by
    intro b2_0 hF
    unfold FX4_undo_J13 at hF
    obtain ⟨z3, e4, hF⟩ := o_bind hF
    refine r_callVa (q0 := 0) (rest := []) h hd_X4_refused wm_752 dX4_undo_13 (CX4_refused l D aμ μ b2_0 z3.1 z3.2 e4) rfl rfl rfl ⟨rfl, rfl⟩ ⟨by decide, by decide⟩ (Nat.le_of_ble_eq_true rfl) ⟨by decide, by decide⟩ rfl (fun v w' hp => ?_)
    obtain ⟨rfl, rfl⟩ := hp
    refine r_if_eq h 21 dX4_undo_16 (by decide) (fun c5 => ?_) (fun c5 => ?_)
    · replace hF := o_pos c5 hF
      refine r_aload_n h 0 rfl rfl dX4_undo_21 ?_
      refine r_dup h rfl dX4_undo_22 ?_
      refine r_get h fl_X4_33 0 rfl rfl dX4_undo_23 ?_
      refine r_iconst (v := 1) h dX4_undo_26 (by decide) ?_
      refine r_isub h dX4_undo_27 ?_
      refine r_put (ws' := mdW D aμ (z3.2.1, z3.2.2.1, z3.2.2.2.1, z3.2.2.2.2.1, z3.2.2.2.2.2.1, z3.2.2.2.2.2.2.1 - (1 : Int32), z3.2.2.2.2.2.2.2.1, z3.2.2.2.2.2.2.2.2.1, z3.2.2.2.2.2.2.2.2.2.1, z3.2.2.2.2.2.2.2.2.2.2.1, z3.2.2.2.2.2.2.2.2.2.2.2.1, z3.2.2.2.2.2.2.2.2.2.2.2.2.1, z3.2.2.2.2.2.2.2.2.2.2.2.2.2)) h fp_X4_33 0 rfl (Nat.le_of_ble_eq_true rfl) rfl rfl rfl dX4_undo_28 ?_
      refine r_iconst (v := 0) h dX4_undo_31 (by decide) ?_
      refine r_istore_n (lv' := [(1, .int (0 : Int32)), (0, .ref (aμ 0))]) h rfl dX4_undo_32 (by decide) rfl ?_
      have hL33 : ∀ (K : Int32 → MDS → Option (Int32 × MDS)) (hK : ∀ (y7_1 : Int32) (s7_μ : MDS), K y7_1 s7_μ = some (r0, μ0) → J X l rmX4_undo D 2 0 0 (mdW D aμ s7_μ) [(1, .int y7_1), (0, .ref (aμ 0))] 67 []) (N : Nat), ∀ (y7_1 : Int32) (s7_μ : MDS), FX4_undo_L33  K N y7_1 s7_μ = some (r0, μ0) → J X l rmX4_undo D 2 0 0 (mdW D aμ s7_μ) [(1, .int y7_1), (0, .ref (aμ 0))] 33 [] := by
        intro K hK N
        induction N with
        | zero =>
          intro y7_1 s7_μ hF
          cases hF
        | succ N ih =>
          intro y7_1 s7_μ hF
          rw [FX4_undo_L33] at hF
          refine r_iload_n h 0 rfl rfl dX4_undo_33 ?_
          refine r_sipush (v := 219) h dX4_undo_34 (by decide) ?_
          refine r_icmp_ge h 67 dX4_undo_37 (by decide) (fun c8 => ?_) (fun c8 => ?_)
          · replace hF := o_pos c8 hF
            exact J.loc (lv' := [(1, .int y7_1), (0, .ref (aμ 0))]) [0, 1] rfl (hK y7_1 s7_μ hF)
          · replace hF := o_neg c8 hF
            refine r_aload_n h 1 rfl rfl dX4_undo_40 ?_
            refine r_get h fl_X4_7 0 rfl rfl dX4_undo_41 ?_
            refine r_iload_n h 0 rfl rfl dX4_undo_44 ?_
            refine r_aload_n h 1 rfl rfl dX4_undo_45 ?_
            refine r_get h fl_X4_13 0 rfl rfl dX4_undo_46 ?_
            refine r_sipush (v := 219) h dX4_undo_49 (by decide) ?_
            refine r_aload_n h 1 rfl rfl dX4_undo_52 ?_
            refine r_get h fl_X4_33 0 rfl rfl dX4_undo_53 ?_
            refine r_imul h dX4_undo_56 ?_
            refine r_iload_n h 0 rfl rfl dX4_undo_57 ?_
            refine r_iadd h dX4_undo_58 ?_
            obtain ⟨u9, hu9, hF⟩ := o_nm hF
            refine J.top hu9 ?_
            obtain ⟨hN, hF⟩ := o_gd hF
            refine r_iald h 2 rfl hN dX4_undo_59 ?_
            obtain ⟨hN, hF⟩ := o_gd hF
            obtain ⟨fw10, hfw10, hF⟩ := o_nm hF
            refine r_iast (ws' := mdW D aμ (fw10, s7_μ.2.1, s7_μ.2.2.1, s7_μ.2.2.2.1, s7_μ.2.2.2.2.1, s7_μ.2.2.2.2.2.1, s7_μ.2.2.2.2.2.2.1, s7_μ.2.2.2.2.2.2.2.1, s7_μ.2.2.2.2.2.2.2.2.1, s7_μ.2.2.2.2.2.2.2.2.2.1, s7_μ.2.2.2.2.2.2.2.2.2.2.1, s7_μ.2.2.2.2.2.2.2.2.2.2.2.1, s7_μ.2.2.2.2.2.2.2.2.2.2.2.2)) h 1 rfl hN (by rw [hfw10]; rfl) dX4_undo_60 ?_
            refine r_iinc (lv' := [(1, .int (y7_1 + 1)), (0, .ref (aμ 0))]) h 0 rfl (congrArg (fun z => y7_1 + z) (by decide : Int32.ofInt 1 = 1)) dX4_undo_61 (by decide) rfl ?_
            refine r_goto h 33 dX4_undo_64 (by decide) ?_
            exact J.loc (lv' := [(1, .int (y7_1 + 1)), (0, .ref (aμ 0))]) [0, 1] rfl (ih (y7_1 + 1) (fw10, s7_μ.2.1, s7_μ.2.2.1, s7_μ.2.2.2.1, s7_μ.2.2.2.2.1, s7_μ.2.2.2.2.2.1, s7_μ.2.2.2.2.2.2.1, s7_μ.2.2.2.2.2.2.2.1, s7_μ.2.2.2.2.2.2.2.2.1, s7_μ.2.2.2.2.2.2.2.2.2.1, s7_μ.2.2.2.2.2.2.2.2.2.2.1, s7_μ.2.2.2.2.2.2.2.2.2.2.2.1, s7_μ.2.2.2.2.2.2.2.2.2.2.2.2) hF)
      refine hL33 _ (fun y7_1 s7_μ hF => ?_) _ (0 : Int32) (z3.2.1, z3.2.2.1, z3.2.2.2.1, z3.2.2.2.2.1, z3.2.2.2.2.2.1, z3.2.2.2.2.2.2.1 - (1 : Int32), z3.2.2.2.2.2.2.2.1, z3.2.2.2.2.2.2.2.2.1, z3.2.2.2.2.2.2.2.2.2.1, z3.2.2.2.2.2.2.2.2.2.2.1, z3.2.2.2.2.2.2.2.2.2.2.2.1, z3.2.2.2.2.2.2.2.2.2.2.2.2.1, z3.2.2.2.2.2.2.2.2.2.2.2.2.2) hF
      refine r_aload_n h 1 rfl rfl dX4_undo_67 ?_
      refine r_get h fl_X4_33 0 rfl rfl dX4_undo_68 ?_
      cases hF
      exact r_iret h hr dX4_undo_71 ⟨rfl, rfl⟩
    · replace hF := o_neg c5 hF
      refine r_iconst (v := 0) h dX4_undo_19 (by decide) ?_
      cases hF
      exact r_iret h hr dX4_undo_20 ⟨rfl, rfl⟩
  refine r_if_ne h 12 dX4_undo_5 (by decide) (fun c1 => ?_) (fun c1 => ?_)
  · replace hF := o_neg c1 hF
    refine r_iconst (v := 0) h dX4_undo_12 (by decide) ?_
    exact J.loc (lv' := [(0, .ref (aμ 0))]) [0] rfl (hJ13 (0 : Int32) hF)
  · replace hF := o_pos c1 hF
    refine r_iconst (v := 1) h dX4_undo_8 (by decide) ?_
    refine r_goto h 13 dX4_undo_9 (by decide) ?_
    exact J.loc (lv' := [(0, .ref (aμ 0))]) [0] rfl (hJ13 (1 : Int32) hF)

def FX4_copies_L2 (pTn : Nat) (pUn : Nat) (U : (Nat → Int32)) (K : Int32 → (Nat → Int32) → Option ((Nat → Int32))) : Nat → Int32 → ((Nat → Int32)) → Option ((Nat → Int32))
  | 0, _, _ => none
  | n + 1, y2_2, s2_T =>
  if (219 : Int32) ≤ y2_2 then
  (K y2_2 s2_T)
else
  (gd (¬ (y2_2 < 0 ∨ pUn ≤ (y2_2).toNatClampNeg)) (
  gd (¬ (y2_2 < 0 ∨ pTn ≤ (y2_2).toNatClampNeg)) (
  nmv (upd s2_T (y2_2).toNatClampNeg (U (y2_2).toNatClampNeg)) fun fw4 =>
  FX4_copies_L2 pTn pUn U K n (y2_2 + 1) fw4)))
def FX4_copies (pTn : Nat) (pUn : Nat) (T : (Nat → Int32)) (U : (Nat → Int32)) : Option ((Nat → Int32)) :=
  FX4_copies_L2 pTn pUn U (fun (y2_2 : Int32) (s2_T : (Nat → Int32)) =>
  some s2_T) FU (0 : Int32) T
abbrev rmX4_copies : Room := { frames := 0, cells := 0, slots := 0, locals := 0 }
set_option maxHeartbeats 4000000 in
set_option maxRecDepth 100000 in
theorem CX4_copies (l : Launch) (D : va_G) (aTa : Nat) (aUa : Nat) (pTn : Nat) (pUn : Nat) (T : (Nat → Int32)) (U : (Nat → Int32)) (T0 : (Nat → Int32)) (hF : FX4_copies pTn pUn T U = some T0) : Ct l D yX4_copies cX4_copies 3 none rmX4_copies 0 0 [.ref aTa, .ref aUa] (iaW D aTa pTn T ++ iaW D aUa pUn U) (fun v w => v = none ∧ w = (iaW D aTa pTn T0 ++ iaW D aUa pUn U)) := by
  refine Ct.of (own := RX4) (lv := [(0, .ref aTa), (1, .ref aUa)]) (by decide +kernel) rfl (Nat.le_of_ble_eq_true rfl) rfl (fun X h hr => ?_)
  unfold FX4_copies at hF
  refine r_iconst (v := 0) h dX4_copies_0 (by decide) ?_
  refine r_istore_n (lv' := [(2, .int (0 : Int32)), (0, .ref aTa), (1, .ref aUa)]) h rfl dX4_copies_1 (by decide) rfl ?_
  have hL2 : ∀ (K : Int32 → (Nat → Int32) → Option ((Nat → Int32))) (hK : ∀ (y2_2 : Int32) (s2_T : (Nat → Int32)), K y2_2 s2_T = some T0 → J X l rmX4_copies D 3 0 0 ((iaW D aTa pTn s2_T ++ iaW D aUa pUn U)) [(2, .int y2_2), (0, .ref aTa), (1, .ref aUa)] 21 []) (N : Nat), ∀ (y2_2 : Int32) (s2_T : (Nat → Int32)), FX4_copies_L2 pTn pUn U K N y2_2 s2_T = some T0 → J X l rmX4_copies D 3 0 0 ((iaW D aTa pTn s2_T ++ iaW D aUa pUn U)) [(2, .int y2_2), (0, .ref aTa), (1, .ref aUa)] 2 [] := by
    intro K hK N
    induction N with
    | zero =>
      intro y2_2 s2_T hF
      cases hF
    | succ N ih =>
      intro y2_2 s2_T hF
      rw [FX4_copies_L2] at hF
      refine r_iload_n h 0 rfl rfl dX4_copies_2 ?_
      refine r_sipush (v := 219) h dX4_copies_3 (by decide) ?_
      refine r_icmp_ge h 21 dX4_copies_6 (by decide) (fun c3 => ?_) (fun c3 => ?_)
      · replace hF := o_pos c3 hF
        exact J.loc (lv' := [(2, .int y2_2), (0, .ref aTa), (1, .ref aUa)]) [0, 1, 2] rfl (hK y2_2 s2_T hF)
      · replace hF := o_neg c3 hF
        refine r_aload_n h 1 rfl rfl dX4_copies_9 ?_
        refine r_iload_n h 0 rfl rfl dX4_copies_10 ?_
        refine r_aload_n h 2 rfl rfl dX4_copies_11 ?_
        refine r_iload_n h 0 rfl rfl dX4_copies_12 ?_
        obtain ⟨hN, hF⟩ := o_gd hF
        refine r_iald h 1 rfl hN dX4_copies_13 ?_
        obtain ⟨hN, hF⟩ := o_gd hF
        obtain ⟨fw4, hfw4, hF⟩ := o_nm hF
        refine r_iast (ws' := (iaW D aTa pTn fw4 ++ iaW D aUa pUn U)) h 0 rfl hN (by rw [hfw4]; rfl) dX4_copies_14 ?_
        refine r_iinc (lv' := [(2, .int (y2_2 + 1)), (0, .ref aTa), (1, .ref aUa)]) h 0 rfl (congrArg (fun z => y2_2 + z) (by decide : Int32.ofInt 1 = 1)) dX4_copies_15 (by decide) rfl ?_
        refine r_goto h 2 dX4_copies_18 (by decide) ?_
        exact J.loc (lv' := [(2, .int (y2_2 + 1)), (0, .ref aTa), (1, .ref aUa)]) [0, 1, 2] rfl (ih (y2_2 + 1) fw4 hF)
  refine hL2 _ (fun y2_2 s2_T hF => ?_) _ (0 : Int32) T hF
  cases hF
  exact r_vret h hr dX4_copies_21 ⟨rfl, rfl⟩

def FX4_puts (μ : MDS) (x1 : Int32) (x2 : Int32) : Option (Int32 × MDS) :=
  (FX4_saves μ).bind fun z1 =>
  gd (¬ (x1 < 0 ∨ 219 ≤ (x1).toNatClampNeg)) (
  gd (¬ (x1 < 0 ∨ 219 ≤ (x1).toNatClampNeg)) (
  nmv (upd z1.1 (x1).toNatClampNeg x2) fun fw3 =>
  some (z1.1 (x1).toNatClampNeg, (fw3, z1.2.1, z1.2.2.1, z1.2.2.2.1, z1.2.2.2.2.1, z1.2.2.2.2.2.1, z1.2.2.2.2.2.2.1, z1.2.2.2.2.2.2.2.1, z1.2.2.2.2.2.2.2.2.1, z1.2.2.2.2.2.2.2.2.2.1, z1.2.2.2.2.2.2.2.2.2.2.1, z1.2.2.2.2.2.2.2.2.2.2.2.1, z1.2.2.2.2.2.2.2.2.2.2.2.2))))
abbrev rmX4_puts : Room := { frames := 2, cells := 0, slots := 0, locals := 42 }
set_option maxHeartbeats 4000000 in
set_option maxRecDepth 100000 in
theorem CX4_puts (l : Launch) (D : va_G) (aμ : Nat → Nat) (μ : MDS) (x1 : Int32) (x2 : Int32) (r0 : Int32) (μ0 : MDS) (hF : FX4_puts μ x1 x2 = some (r0, μ0)) : Ct l D yX4_puts cX4_puts 4 (some .int) rmX4_puts 0 0 [.ref (aμ 0), .int x1, .int x2] (mdW D aμ μ) (fun v w => v = some (.int r0) ∧ w = mdW D aμ μ0) := by
  refine Ct.of (own := RX4) (lv := [(0, .ref (aμ 0)), (1, .int x1), (2, .int x2)]) (by decide +kernel) rfl (Nat.le_of_ble_eq_true rfl) rfl (fun X h hr => ?_)
  unfold FX4_puts at hF
  refine r_aload_n h 0 rfl rfl dX4_puts_0 ?_
  obtain ⟨z1, e2, hF⟩ := o_bind hF
  refine r_callVa (q0 := 0) (rest := []) h hd_X4_saves wm_770 dX4_puts_1 (CX4_saves l D aμ μ z1 e2) rfl rfl rfl ⟨rfl, rfl⟩ ⟨by decide, by decide⟩ (Nat.le_of_ble_eq_true rfl) ⟨by decide, by decide⟩ rfl (fun v w' hp => ?_)
  obtain ⟨rfl, rfl⟩ := hp
  refine r_aload_n h 0 rfl rfl dX4_puts_4 ?_
  refine r_get h fl_X4_7 0 rfl rfl dX4_puts_5 ?_
  refine r_iload_n h 1 rfl rfl dX4_puts_8 ?_
  obtain ⟨hN, hF⟩ := o_gd hF
  refine r_iald h 1 rfl hN dX4_puts_9 ?_
  refine r_istore_n (lv' := [(3, .int (z1.1 (x1).toNatClampNeg)), (0, .ref (aμ 0)), (1, .int x1), (2, .int x2)]) h rfl dX4_puts_10 (by decide) rfl ?_
  refine r_aload_n h 1 rfl rfl dX4_puts_11 ?_
  refine r_get h fl_X4_7 0 rfl rfl dX4_puts_12 ?_
  refine r_iload_n h 2 rfl rfl dX4_puts_15 ?_
  refine r_iload_n h 3 rfl rfl dX4_puts_16 ?_
  obtain ⟨hN, hF⟩ := o_gd hF
  obtain ⟨fw3, hfw3, hF⟩ := o_nm hF
  refine r_iast (ws' := mdW D aμ (fw3, z1.2.1, z1.2.2.1, z1.2.2.2.1, z1.2.2.2.2.1, z1.2.2.2.2.2.1, z1.2.2.2.2.2.2.1, z1.2.2.2.2.2.2.2.1, z1.2.2.2.2.2.2.2.2.1, z1.2.2.2.2.2.2.2.2.2.1, z1.2.2.2.2.2.2.2.2.2.2.1, z1.2.2.2.2.2.2.2.2.2.2.2.1, z1.2.2.2.2.2.2.2.2.2.2.2.2)) h 1 rfl hN (by rw [hfw3]; rfl) dX4_puts_17 ?_
  refine r_iload_n h 0 rfl rfl dX4_puts_18 ?_
  cases hF
  exact r_iret h hr dX4_puts_19 ⟨rfl, rfl⟩

def FX4_isRack (x0 : Int32) : Option (Int32) :=
  (FX4_in x0 (0 : Int32) (5 : Int32)).bind fun z1 =>
  gd (z1 = 0 ∨ z1 = 1) (
  some z1)
abbrev rmX4_isRack : Room := { frames := 1, cells := 0, slots := 0, locals := 22 }
set_option maxHeartbeats 4000000 in
set_option maxRecDepth 100000 in
theorem CX4_isRack (l : Launch) (D : va_G)  (x0 : Int32) (r0 : Int32) (hF : FX4_isRack x0 = some r0) : Ct l D yX4_isRack cX4_isRack 1 (some .boolean) rmX4_isRack 0 0 [.int x0] [] (fun v w => v = some (.int r0) ∧ w = []) := by
  refine Ct.of (own := RX4) (lv := [(0, .int x0)]) (by decide +kernel) rfl (Nat.le_of_ble_eq_true rfl) rfl (fun X h hr => ?_)
  unfold FX4_isRack at hF
  refine r_iload_n h 0 rfl rfl dX4_isRack_0 ?_
  refine r_iconst (v := 0) h dX4_isRack_1 (by decide) ?_
  refine r_iconst (v := 5) h dX4_isRack_2 (by decide) ?_
  obtain ⟨z1, e2, hF⟩ := o_bind hF
  refine r_callSp (rest := []) h hd_X4_in wm_763 dX4_isRack_3 (CX4_in l D x0 (0 : Int32) (5 : Int32) z1 e2) rfl ⟨rfl, rfl⟩ ⟨by decide, by decide⟩ (Nat.le_of_ble_eq_true rfl) ⟨by decide, by decide⟩ rfl ?_
  obtain ⟨hN, hF⟩ := o_gd hF
  cases hF
  exact r_zret h hr hN dX4_isRack_6 ⟨rfl, rfl⟩

def FX4_isTray (x0 : Int32) : Option (Int32) :=
  (FX4_in x0 (0 : Int32) (4 : Int32)).bind fun z1 =>
  gd (z1 = 0 ∨ z1 = 1) (
  some z1)
abbrev rmX4_isTray : Room := { frames := 1, cells := 0, slots := 0, locals := 22 }
set_option maxHeartbeats 4000000 in
set_option maxRecDepth 100000 in
theorem CX4_isTray (l : Launch) (D : va_G)  (x0 : Int32) (r0 : Int32) (hF : FX4_isTray x0 = some r0) : Ct l D yX4_isTray cX4_isTray 1 (some .boolean) rmX4_isTray 0 0 [.int x0] [] (fun v w => v = some (.int r0) ∧ w = []) := by
  refine Ct.of (own := RX4) (lv := [(0, .int x0)]) (by decide +kernel) rfl (Nat.le_of_ble_eq_true rfl) rfl (fun X h hr => ?_)
  unfold FX4_isTray at hF
  refine r_iload_n h 0 rfl rfl dX4_isTray_0 ?_
  refine r_iconst (v := 0) h dX4_isTray_1 (by decide) ?_
  refine r_iconst (v := 4) h dX4_isTray_2 (by decide) ?_
  obtain ⟨z1, e2, hF⟩ := o_bind hF
  refine r_callSp (rest := []) h hd_X4_in wm_763 dX4_isTray_3 (CX4_in l D x0 (0 : Int32) (4 : Int32) z1 e2) rfl ⟨rfl, rfl⟩ ⟨by decide, by decide⟩ (Nat.le_of_ble_eq_true rfl) ⟨by decide, by decide⟩ rfl ?_
  obtain ⟨hN, hF⟩ := o_gd hF
  cases hF
  exact r_zret h hr hN dX4_isTray_6 ⟨rfl, rfl⟩

def FX4_setLimit (μ : MDS) (x1 : Int32) (x2 : Int32) : Option (Int32 × MDS) :=
  (FX4_isRack x1).bind fun z1 =>
  if z1 = 0 then
  ((FX4_refused μ (1 : Int32)).bind fun z17 =>
  if z17.1 = 0 then
  ((FX4_puts z17.2 ((0 : Int32) + x1) x2).bind fun z20 =>
  some (z20.1, z20.2))
else
  (some ((0 : Int32), z17.2)))
else
  ((FX4_in x2 (0 : Int32) (500 : Int32)).bind fun z4 =>
  if z4 = 0 then
  ((FX4_refused μ (2 : Int32)).bind fun z7 =>
  if z7.1 = 0 then
  ((FX4_puts z7.2 ((0 : Int32) + x1) x2).bind fun z10 =>
  some (z10.1, z10.2))
else
  (some ((0 : Int32), z7.2)))
else
  ((FX4_refused μ (0 : Int32)).bind fun z12 =>
  if z12.1 = 0 then
  ((FX4_puts z12.2 ((0 : Int32) + x1) x2).bind fun z15 =>
  some (z15.1, z15.2))
else
  (some ((0 : Int32), z12.2))))
abbrev rmX4_setLimit : Room := { frames := 3, cells := 0, slots := 0, locals := 65 }
set_option maxHeartbeats 4000000 in
set_option maxRecDepth 100000 in
theorem CX4_setLimit (l : Launch) (D : va_G) (aμ : Nat → Nat) (μ : MDS) (x1 : Int32) (x2 : Int32) (r0 : Int32) (μ0 : MDS) (hF : FX4_setLimit μ x1 x2 = some (r0, μ0)) : Ct l D yX4_setLimit cX4_setLimit 3 (some .int) rmX4_setLimit 0 0 [.ref (aμ 0), .int x1, .int x2] (mdW D aμ μ) (fun v w => v = some (.int r0) ∧ w = mdW D aμ μ0) := by
  refine Ct.of (own := RX4) (lv := [(0, .ref (aμ 0)), (1, .int x1), (2, .int x2)]) (by decide +kernel) rfl (Nat.le_of_ble_eq_true rfl) rfl (fun X h hr => ?_)
  unfold FX4_setLimit at hF
  refine r_aload_n h 0 rfl rfl dX4_setLimit_0 ?_
  refine r_iload_n h 1 rfl rfl dX4_setLimit_1 ?_
  obtain ⟨z1, e2, hF⟩ := o_bind hF
  refine r_callSp (rest := [.ref (aμ 0)]) h hd_X4_isRack wm_760 dX4_setLimit_2 (CX4_isRack l D x1 z1 e2) rfl ⟨rfl, rfl⟩ ⟨by decide, by decide⟩ (Nat.le_of_ble_eq_true rfl) ⟨by decide, by decide⟩ rfl ?_
  refine r_if_ne h 12 dX4_setLimit_5 (by decide) (fun c3 => ?_) (fun c3 => ?_)
  · replace hF := o_neg c3 hF
    refine r_iload_n h 2 rfl rfl dX4_setLimit_12 ?_
    refine r_iconst (v := 0) h dX4_setLimit_13 (by decide) ?_
    refine r_sipush (v := 500) h dX4_setLimit_14 (by decide) ?_
    obtain ⟨z4, e5, hF⟩ := o_bind hF
    refine r_callSp (rest := [.ref (aμ 0)]) h hd_X4_in wm_763 dX4_setLimit_17 (CX4_in l D x2 (0 : Int32) (500 : Int32) z4 e5) rfl ⟨rfl, rfl⟩ ⟨by decide, by decide⟩ (Nat.le_of_ble_eq_true rfl) ⟨by decide, by decide⟩ rfl ?_
    refine r_if_eq h 27 dX4_setLimit_20 (by decide) (fun c6 => ?_) (fun c6 => ?_)
    · replace hF := o_pos c6 hF
      refine r_iconst (v := 2) h dX4_setLimit_27 (by decide) ?_
      obtain ⟨z7, e8, hF⟩ := o_bind hF
      refine r_callVa (q0 := 0) (rest := []) h hd_X4_refused wm_752 dX4_setLimit_28 (CX4_refused l D aμ μ (2 : Int32) z7.1 z7.2 e8) rfl rfl rfl ⟨rfl, rfl⟩ ⟨by decide, by decide⟩ (Nat.le_of_ble_eq_true rfl) ⟨by decide, by decide⟩ rfl (fun v w' hp => ?_)
      obtain ⟨rfl, rfl⟩ := hp
      refine r_if_eq h 38 dX4_setLimit_31 (by decide) (fun c9 => ?_) (fun c9 => ?_)
      · replace hF := o_pos c9 hF
        refine r_aload_n h 0 rfl rfl dX4_setLimit_38 ?_
        refine r_iconst (v := 0) h dX4_setLimit_39 (by decide) ?_
        refine r_iload_n h 1 rfl rfl dX4_setLimit_40 ?_
        refine r_iadd h dX4_setLimit_41 ?_
        refine r_iload_n h 2 rfl rfl dX4_setLimit_42 ?_
        obtain ⟨z10, e11, hF⟩ := o_bind hF
        refine r_callVa (q0 := 0) (rest := []) h hd_X4_puts wm_766 dX4_setLimit_43 (CX4_puts l D aμ z7.2 ((0 : Int32) + x1) x2 z10.1 z10.2 e11) rfl rfl rfl ⟨rfl, rfl⟩ ⟨by decide, by decide⟩ (Nat.le_of_ble_eq_true rfl) ⟨by decide, by decide⟩ rfl (fun v w' hp => ?_)
        obtain ⟨rfl, rfl⟩ := hp
        cases hF
        exact r_iret h hr dX4_setLimit_46 ⟨rfl, rfl⟩
      · replace hF := o_neg c9 hF
        refine r_iconst (v := 0) h dX4_setLimit_34 (by decide) ?_
        refine r_goto h 46 dX4_setLimit_35 (by decide) ?_
        cases hF
        exact r_iret h hr dX4_setLimit_46 ⟨rfl, rfl⟩
    · replace hF := o_neg c6 hF
      refine r_iconst (v := 0) h dX4_setLimit_23 (by decide) ?_
      refine r_goto h 28 dX4_setLimit_24 (by decide) ?_
      obtain ⟨z12, e13, hF⟩ := o_bind hF
      refine r_callVa (q0 := 0) (rest := []) h hd_X4_refused wm_752 dX4_setLimit_28 (CX4_refused l D aμ μ (0 : Int32) z12.1 z12.2 e13) rfl rfl rfl ⟨rfl, rfl⟩ ⟨by decide, by decide⟩ (Nat.le_of_ble_eq_true rfl) ⟨by decide, by decide⟩ rfl (fun v w' hp => ?_)
      obtain ⟨rfl, rfl⟩ := hp
      refine r_if_eq h 38 dX4_setLimit_31 (by decide) (fun c14 => ?_) (fun c14 => ?_)
      · replace hF := o_pos c14 hF
        refine r_aload_n h 0 rfl rfl dX4_setLimit_38 ?_
        refine r_iconst (v := 0) h dX4_setLimit_39 (by decide) ?_
        refine r_iload_n h 1 rfl rfl dX4_setLimit_40 ?_
        refine r_iadd h dX4_setLimit_41 ?_
        refine r_iload_n h 2 rfl rfl dX4_setLimit_42 ?_
        obtain ⟨z15, e16, hF⟩ := o_bind hF
        refine r_callVa (q0 := 0) (rest := []) h hd_X4_puts wm_766 dX4_setLimit_43 (CX4_puts l D aμ z12.2 ((0 : Int32) + x1) x2 z15.1 z15.2 e16) rfl rfl rfl ⟨rfl, rfl⟩ ⟨by decide, by decide⟩ (Nat.le_of_ble_eq_true rfl) ⟨by decide, by decide⟩ rfl (fun v w' hp => ?_)
        obtain ⟨rfl, rfl⟩ := hp
        cases hF
        exact r_iret h hr dX4_setLimit_46 ⟨rfl, rfl⟩
      · replace hF := o_neg c14 hF
        refine r_iconst (v := 0) h dX4_setLimit_34 (by decide) ?_
        refine r_goto h 46 dX4_setLimit_35 (by decide) ?_
        cases hF
        exact r_iret h hr dX4_setLimit_46 ⟨rfl, rfl⟩
  · replace hF := o_pos c3 hF
    refine r_iconst (v := 1) h dX4_setLimit_8 (by decide) ?_
    refine r_goto h 28 dX4_setLimit_9 (by decide) ?_
    obtain ⟨z17, e18, hF⟩ := o_bind hF
    refine r_callVa (q0 := 0) (rest := []) h hd_X4_refused wm_752 dX4_setLimit_28 (CX4_refused l D aμ μ (1 : Int32) z17.1 z17.2 e18) rfl rfl rfl ⟨rfl, rfl⟩ ⟨by decide, by decide⟩ (Nat.le_of_ble_eq_true rfl) ⟨by decide, by decide⟩ rfl (fun v w' hp => ?_)
    obtain ⟨rfl, rfl⟩ := hp
    refine r_if_eq h 38 dX4_setLimit_31 (by decide) (fun c19 => ?_) (fun c19 => ?_)
    · replace hF := o_pos c19 hF
      refine r_aload_n h 0 rfl rfl dX4_setLimit_38 ?_
      refine r_iconst (v := 0) h dX4_setLimit_39 (by decide) ?_
      refine r_iload_n h 1 rfl rfl dX4_setLimit_40 ?_
      refine r_iadd h dX4_setLimit_41 ?_
      refine r_iload_n h 2 rfl rfl dX4_setLimit_42 ?_
      obtain ⟨z20, e21, hF⟩ := o_bind hF
      refine r_callVa (q0 := 0) (rest := []) h hd_X4_puts wm_766 dX4_setLimit_43 (CX4_puts l D aμ z17.2 ((0 : Int32) + x1) x2 z20.1 z20.2 e21) rfl rfl rfl ⟨rfl, rfl⟩ ⟨by decide, by decide⟩ (Nat.le_of_ble_eq_true rfl) ⟨by decide, by decide⟩ rfl (fun v w' hp => ?_)
      obtain ⟨rfl, rfl⟩ := hp
      cases hF
      exact r_iret h hr dX4_setLimit_46 ⟨rfl, rfl⟩
    · replace hF := o_neg c19 hF
      refine r_iconst (v := 0) h dX4_setLimit_34 (by decide) ?_
      refine r_goto h 46 dX4_setLimit_35 (by decide) ?_
      cases hF
      exact r_iret h hr dX4_setLimit_46 ⟨rfl, rfl⟩

def FX4_setTray (μ : MDS) (x1 : Int32) (x2 : Int32) : Option (Int32 × MDS) :=
  (FX4_isTray x1).bind fun z1 =>
  if z1 = 0 then
  ((FX4_refused μ (1 : Int32)).bind fun z17 =>
  if z17.1 = 0 then
  ((FX4_puts z17.2 ((6 : Int32) + x1) x2).bind fun z20 =>
  some (z20.1, z20.2))
else
  (some ((0 : Int32), z17.2)))
else
  ((FX4_in x2 (0 : Int32) (9 : Int32)).bind fun z4 =>
  if z4 = 0 then
  ((FX4_refused μ (2 : Int32)).bind fun z7 =>
  if z7.1 = 0 then
  ((FX4_puts z7.2 ((6 : Int32) + x1) x2).bind fun z10 =>
  some (z10.1, z10.2))
else
  (some ((0 : Int32), z7.2)))
else
  ((FX4_refused μ (0 : Int32)).bind fun z12 =>
  if z12.1 = 0 then
  ((FX4_puts z12.2 ((6 : Int32) + x1) x2).bind fun z15 =>
  some (z15.1, z15.2))
else
  (some ((0 : Int32), z12.2))))
abbrev rmX4_setTray : Room := { frames := 3, cells := 0, slots := 0, locals := 65 }
set_option maxHeartbeats 4000000 in
set_option maxRecDepth 100000 in
theorem CX4_setTray (l : Launch) (D : va_G) (aμ : Nat → Nat) (μ : MDS) (x1 : Int32) (x2 : Int32) (r0 : Int32) (μ0 : MDS) (hF : FX4_setTray μ x1 x2 = some (r0, μ0)) : Ct l D yX4_setTray cX4_setTray 3 (some .int) rmX4_setTray 0 0 [.ref (aμ 0), .int x1, .int x2] (mdW D aμ μ) (fun v w => v = some (.int r0) ∧ w = mdW D aμ μ0) := by
  refine Ct.of (own := RX4) (lv := [(0, .ref (aμ 0)), (1, .int x1), (2, .int x2)]) (by decide +kernel) rfl (Nat.le_of_ble_eq_true rfl) rfl (fun X h hr => ?_)
  unfold FX4_setTray at hF
  refine r_aload_n h 0 rfl rfl dX4_setTray_0 ?_
  refine r_iload_n h 1 rfl rfl dX4_setTray_1 ?_
  obtain ⟨z1, e2, hF⟩ := o_bind hF
  refine r_callSp (rest := [.ref (aμ 0)]) h hd_X4_isTray wm_782 dX4_setTray_2 (CX4_isTray l D x1 z1 e2) rfl ⟨rfl, rfl⟩ ⟨by decide, by decide⟩ (Nat.le_of_ble_eq_true rfl) ⟨by decide, by decide⟩ rfl ?_
  refine r_if_ne h 12 dX4_setTray_5 (by decide) (fun c3 => ?_) (fun c3 => ?_)
  · replace hF := o_neg c3 hF
    refine r_iload_n h 2 rfl rfl dX4_setTray_12 ?_
    refine r_iconst (v := 0) h dX4_setTray_13 (by decide) ?_
    refine r_bipush (v := 9) h dX4_setTray_14 (by decide) ?_
    obtain ⟨z4, e5, hF⟩ := o_bind hF
    refine r_callSp (rest := [.ref (aμ 0)]) h hd_X4_in wm_763 dX4_setTray_16 (CX4_in l D x2 (0 : Int32) (9 : Int32) z4 e5) rfl ⟨rfl, rfl⟩ ⟨by decide, by decide⟩ (Nat.le_of_ble_eq_true rfl) ⟨by decide, by decide⟩ rfl ?_
    refine r_if_eq h 26 dX4_setTray_19 (by decide) (fun c6 => ?_) (fun c6 => ?_)
    · replace hF := o_pos c6 hF
      refine r_iconst (v := 2) h dX4_setTray_26 (by decide) ?_
      obtain ⟨z7, e8, hF⟩ := o_bind hF
      refine r_callVa (q0 := 0) (rest := []) h hd_X4_refused wm_752 dX4_setTray_27 (CX4_refused l D aμ μ (2 : Int32) z7.1 z7.2 e8) rfl rfl rfl ⟨rfl, rfl⟩ ⟨by decide, by decide⟩ (Nat.le_of_ble_eq_true rfl) ⟨by decide, by decide⟩ rfl (fun v w' hp => ?_)
      obtain ⟨rfl, rfl⟩ := hp
      refine r_if_eq h 37 dX4_setTray_30 (by decide) (fun c9 => ?_) (fun c9 => ?_)
      · replace hF := o_pos c9 hF
        refine r_aload_n h 0 rfl rfl dX4_setTray_37 ?_
        refine r_bipush (v := 6) h dX4_setTray_38 (by decide) ?_
        refine r_iload_n h 1 rfl rfl dX4_setTray_40 ?_
        refine r_iadd h dX4_setTray_41 ?_
        refine r_iload_n h 2 rfl rfl dX4_setTray_42 ?_
        obtain ⟨z10, e11, hF⟩ := o_bind hF
        refine r_callVa (q0 := 0) (rest := []) h hd_X4_puts wm_766 dX4_setTray_43 (CX4_puts l D aμ z7.2 ((6 : Int32) + x1) x2 z10.1 z10.2 e11) rfl rfl rfl ⟨rfl, rfl⟩ ⟨by decide, by decide⟩ (Nat.le_of_ble_eq_true rfl) ⟨by decide, by decide⟩ rfl (fun v w' hp => ?_)
        obtain ⟨rfl, rfl⟩ := hp
        cases hF
        exact r_iret h hr dX4_setTray_46 ⟨rfl, rfl⟩
      · replace hF := o_neg c9 hF
        refine r_iconst (v := 0) h dX4_setTray_33 (by decide) ?_
        refine r_goto h 46 dX4_setTray_34 (by decide) ?_
        cases hF
        exact r_iret h hr dX4_setTray_46 ⟨rfl, rfl⟩
    · replace hF := o_neg c6 hF
      refine r_iconst (v := 0) h dX4_setTray_22 (by decide) ?_
      refine r_goto h 27 dX4_setTray_23 (by decide) ?_
      obtain ⟨z12, e13, hF⟩ := o_bind hF
      refine r_callVa (q0 := 0) (rest := []) h hd_X4_refused wm_752 dX4_setTray_27 (CX4_refused l D aμ μ (0 : Int32) z12.1 z12.2 e13) rfl rfl rfl ⟨rfl, rfl⟩ ⟨by decide, by decide⟩ (Nat.le_of_ble_eq_true rfl) ⟨by decide, by decide⟩ rfl (fun v w' hp => ?_)
      obtain ⟨rfl, rfl⟩ := hp
      refine r_if_eq h 37 dX4_setTray_30 (by decide) (fun c14 => ?_) (fun c14 => ?_)
      · replace hF := o_pos c14 hF
        refine r_aload_n h 0 rfl rfl dX4_setTray_37 ?_
        refine r_bipush (v := 6) h dX4_setTray_38 (by decide) ?_
        refine r_iload_n h 1 rfl rfl dX4_setTray_40 ?_
        refine r_iadd h dX4_setTray_41 ?_
        refine r_iload_n h 2 rfl rfl dX4_setTray_42 ?_
        obtain ⟨z15, e16, hF⟩ := o_bind hF
        refine r_callVa (q0 := 0) (rest := []) h hd_X4_puts wm_766 dX4_setTray_43 (CX4_puts l D aμ z12.2 ((6 : Int32) + x1) x2 z15.1 z15.2 e16) rfl rfl rfl ⟨rfl, rfl⟩ ⟨by decide, by decide⟩ (Nat.le_of_ble_eq_true rfl) ⟨by decide, by decide⟩ rfl (fun v w' hp => ?_)
        obtain ⟨rfl, rfl⟩ := hp
        cases hF
        exact r_iret h hr dX4_setTray_46 ⟨rfl, rfl⟩
      · replace hF := o_neg c14 hF
        refine r_iconst (v := 0) h dX4_setTray_33 (by decide) ?_
        refine r_goto h 46 dX4_setTray_34 (by decide) ?_
        cases hF
        exact r_iret h hr dX4_setTray_46 ⟨rfl, rfl⟩
  · replace hF := o_pos c3 hF
    refine r_iconst (v := 1) h dX4_setTray_8 (by decide) ?_
    refine r_goto h 27 dX4_setTray_9 (by decide) ?_
    obtain ⟨z17, e18, hF⟩ := o_bind hF
    refine r_callVa (q0 := 0) (rest := []) h hd_X4_refused wm_752 dX4_setTray_27 (CX4_refused l D aμ μ (1 : Int32) z17.1 z17.2 e18) rfl rfl rfl ⟨rfl, rfl⟩ ⟨by decide, by decide⟩ (Nat.le_of_ble_eq_true rfl) ⟨by decide, by decide⟩ rfl (fun v w' hp => ?_)
    obtain ⟨rfl, rfl⟩ := hp
    refine r_if_eq h 37 dX4_setTray_30 (by decide) (fun c19 => ?_) (fun c19 => ?_)
    · replace hF := o_pos c19 hF
      refine r_aload_n h 0 rfl rfl dX4_setTray_37 ?_
      refine r_bipush (v := 6) h dX4_setTray_38 (by decide) ?_
      refine r_iload_n h 1 rfl rfl dX4_setTray_40 ?_
      refine r_iadd h dX4_setTray_41 ?_
      refine r_iload_n h 2 rfl rfl dX4_setTray_42 ?_
      obtain ⟨z20, e21, hF⟩ := o_bind hF
      refine r_callVa (q0 := 0) (rest := []) h hd_X4_puts wm_766 dX4_setTray_43 (CX4_puts l D aμ z17.2 ((6 : Int32) + x1) x2 z20.1 z20.2 e21) rfl rfl rfl ⟨rfl, rfl⟩ ⟨by decide, by decide⟩ (Nat.le_of_ble_eq_true rfl) ⟨by decide, by decide⟩ rfl (fun v w' hp => ?_)
      obtain ⟨rfl, rfl⟩ := hp
      cases hF
      exact r_iret h hr dX4_setTray_46 ⟨rfl, rfl⟩
    · replace hF := o_neg c19 hF
      refine r_iconst (v := 0) h dX4_setTray_33 (by decide) ?_
      refine r_goto h 46 dX4_setTray_34 (by decide) ?_
      cases hF
      exact r_iret h hr dX4_setTray_46 ⟨rfl, rfl⟩

def FX4_setLevel (μ : MDS) (x1 : Int32) : Option (Int32 × MDS) :=
  (FX4_in x1 (0 : Int32) (500 : Int32)).bind fun z1 =>
  if z1 = 0 then
  ((FX4_refused μ (1 : Int32)).bind fun z4 =>
  if z4.1 = 0 then
  ((FX4_puts z4.2 (11 : Int32) x1).bind fun z7 =>
  some (z7.1, z7.2))
else
  (some ((0 : Int32), z4.2)))
else
  ((FX4_refused μ (0 : Int32)).bind fun z9 =>
  if z9.1 = 0 then
  ((FX4_puts z9.2 (11 : Int32) x1).bind fun z12 =>
  some (z12.1, z12.2))
else
  (some ((0 : Int32), z9.2)))
abbrev rmX4_setLevel : Room := { frames := 3, cells := 0, slots := 0, locals := 65 }
set_option maxHeartbeats 4000000 in
set_option maxRecDepth 100000 in
theorem CX4_setLevel (l : Launch) (D : va_G) (aμ : Nat → Nat) (μ : MDS) (x1 : Int32) (r0 : Int32) (μ0 : MDS) (hF : FX4_setLevel μ x1 = some (r0, μ0)) : Ct l D yX4_setLevel cX4_setLevel 2 (some .int) rmX4_setLevel 0 0 [.ref (aμ 0), .int x1] (mdW D aμ μ) (fun v w => v = some (.int r0) ∧ w = mdW D aμ μ0) := by
  refine Ct.of (own := RX4) (lv := [(0, .ref (aμ 0)), (1, .int x1)]) (by decide +kernel) rfl (Nat.le_of_ble_eq_true rfl) rfl (fun X h hr => ?_)
  unfold FX4_setLevel at hF
  refine r_aload_n h 0 rfl rfl dX4_setLevel_0 ?_
  refine r_iload_n h 1 rfl rfl dX4_setLevel_1 ?_
  refine r_iconst (v := 0) h dX4_setLevel_2 (by decide) ?_
  refine r_sipush (v := 500) h dX4_setLevel_3 (by decide) ?_
  obtain ⟨z1, e2, hF⟩ := o_bind hF
  refine r_callSp (rest := [.ref (aμ 0)]) h hd_X4_in wm_763 dX4_setLevel_6 (CX4_in l D x1 (0 : Int32) (500 : Int32) z1 e2) rfl ⟨rfl, rfl⟩ ⟨by decide, by decide⟩ (Nat.le_of_ble_eq_true rfl) ⟨by decide, by decide⟩ rfl ?_
  refine r_if_eq h 16 dX4_setLevel_9 (by decide) (fun c3 => ?_) (fun c3 => ?_)
  · replace hF := o_pos c3 hF
    refine r_iconst (v := 1) h dX4_setLevel_16 (by decide) ?_
    obtain ⟨z4, e5, hF⟩ := o_bind hF
    refine r_callVa (q0 := 0) (rest := []) h hd_X4_refused wm_752 dX4_setLevel_17 (CX4_refused l D aμ μ (1 : Int32) z4.1 z4.2 e5) rfl rfl rfl ⟨rfl, rfl⟩ ⟨by decide, by decide⟩ (Nat.le_of_ble_eq_true rfl) ⟨by decide, by decide⟩ rfl (fun v w' hp => ?_)
    obtain ⟨rfl, rfl⟩ := hp
    refine r_if_eq h 27 dX4_setLevel_20 (by decide) (fun c6 => ?_) (fun c6 => ?_)
    · replace hF := o_pos c6 hF
      refine r_aload_n h 0 rfl rfl dX4_setLevel_27 ?_
      refine r_bipush (v := 11) h dX4_setLevel_28 (by decide) ?_
      refine r_iload_n h 1 rfl rfl dX4_setLevel_30 ?_
      obtain ⟨z7, e8, hF⟩ := o_bind hF
      refine r_callVa (q0 := 0) (rest := []) h hd_X4_puts wm_766 dX4_setLevel_31 (CX4_puts l D aμ z4.2 (11 : Int32) x1 z7.1 z7.2 e8) rfl rfl rfl ⟨rfl, rfl⟩ ⟨by decide, by decide⟩ (Nat.le_of_ble_eq_true rfl) ⟨by decide, by decide⟩ rfl (fun v w' hp => ?_)
      obtain ⟨rfl, rfl⟩ := hp
      cases hF
      exact r_iret h hr dX4_setLevel_34 ⟨rfl, rfl⟩
    · replace hF := o_neg c6 hF
      refine r_iconst (v := 0) h dX4_setLevel_23 (by decide) ?_
      refine r_goto h 34 dX4_setLevel_24 (by decide) ?_
      cases hF
      exact r_iret h hr dX4_setLevel_34 ⟨rfl, rfl⟩
  · replace hF := o_neg c3 hF
    refine r_iconst (v := 0) h dX4_setLevel_12 (by decide) ?_
    refine r_goto h 17 dX4_setLevel_13 (by decide) ?_
    obtain ⟨z9, e10, hF⟩ := o_bind hF
    refine r_callVa (q0 := 0) (rest := []) h hd_X4_refused wm_752 dX4_setLevel_17 (CX4_refused l D aμ μ (0 : Int32) z9.1 z9.2 e10) rfl rfl rfl ⟨rfl, rfl⟩ ⟨by decide, by decide⟩ (Nat.le_of_ble_eq_true rfl) ⟨by decide, by decide⟩ rfl (fun v w' hp => ?_)
    obtain ⟨rfl, rfl⟩ := hp
    refine r_if_eq h 27 dX4_setLevel_20 (by decide) (fun c11 => ?_) (fun c11 => ?_)
    · replace hF := o_pos c11 hF
      refine r_aload_n h 0 rfl rfl dX4_setLevel_27 ?_
      refine r_bipush (v := 11) h dX4_setLevel_28 (by decide) ?_
      refine r_iload_n h 1 rfl rfl dX4_setLevel_30 ?_
      obtain ⟨z12, e13, hF⟩ := o_bind hF
      refine r_callVa (q0 := 0) (rest := []) h hd_X4_puts wm_766 dX4_setLevel_31 (CX4_puts l D aμ z9.2 (11 : Int32) x1 z12.1 z12.2 e13) rfl rfl rfl ⟨rfl, rfl⟩ ⟨by decide, by decide⟩ (Nat.le_of_ble_eq_true rfl) ⟨by decide, by decide⟩ rfl (fun v w' hp => ?_)
      obtain ⟨rfl, rfl⟩ := hp
      cases hF
      exact r_iret h hr dX4_setLevel_34 ⟨rfl, rfl⟩
    · replace hF := o_neg c11 hF
      refine r_iconst (v := 0) h dX4_setLevel_23 (by decide) ?_
      refine r_goto h 34 dX4_setLevel_24 (by decide) ?_
      cases hF
      exact r_iret h hr dX4_setLevel_34 ⟨rfl, rfl⟩

def FX4_of (μ : MDS) (x1 : Int32) (x2 : Int32) : Option (Int32) :=
  nmv (((19 : Int32) + ((6 : Int32) * x1)) + x2) fun u1 =>
  gd (¬ (u1 < 0 ∨ 219 ≤ (u1).toNatClampNeg)) (
  some (μ.1 (u1).toNatClampNeg))
abbrev rmX4_of : Room := { frames := 0, cells := 0, slots := 0, locals := 0 }
set_option maxHeartbeats 4000000 in
set_option maxRecDepth 100000 in
theorem CX4_of (l : Launch) (D : va_G) (aμ : Nat → Nat) (μ : MDS) (x1 : Int32) (x2 : Int32) (r0 : Int32) (hF : FX4_of μ x1 x2 = some r0) : Ct l D yX4_of cX4_of 3 (some .int) rmX4_of 0 0 [.ref (aμ 0), .int x1, .int x2] (mdW D aμ μ) (fun v w => v = some (.int r0) ∧ w = mdW D aμ μ) := by
  refine Ct.of (own := RX4) (lv := [(0, .ref (aμ 0)), (1, .int x1), (2, .int x2)]) (by decide +kernel) rfl (Nat.le_of_ble_eq_true rfl) rfl (fun X h hr => ?_)
  unfold FX4_of at hF
  refine r_aload_n h 0 rfl rfl dX4_of_0 ?_
  refine r_get h fl_X4_7 0 rfl rfl dX4_of_1 ?_
  refine r_bipush (v := 19) h dX4_of_4 (by decide) ?_
  refine r_bipush (v := 6) h dX4_of_6 (by decide) ?_
  refine r_iload_n h 1 rfl rfl dX4_of_8 ?_
  refine r_imul h dX4_of_9 ?_
  refine r_iadd h dX4_of_10 ?_
  refine r_iload_n h 2 rfl rfl dX4_of_11 ?_
  refine r_iadd h dX4_of_12 ?_
  obtain ⟨u1, hu1, hF⟩ := o_nm hF
  refine J.top hu1 ?_
  obtain ⟨hN, hF⟩ := o_gd hF
  refine r_iald h 1 rfl hN dX4_of_13 ?_
  cases hF
  exact r_iret h hr dX4_of_14 ⟨rfl, rfl⟩

def FX4_isMachine (μ : MDS) (x1 : Int32) : Option (Int32) :=
  gd (¬ ((13 : Int32) < 0 ∨ 219 ≤ ((13 : Int32)).toNatClampNeg)) (
  nmv ((μ.1 ((13 : Int32)).toNatClampNeg) - (1 : Int32)) fun u1 =>
  (FX4_in x1 (0 : Int32) u1).bind fun z2 =>
  gd (z2 = 0 ∨ z2 = 1) (
  some z2))
abbrev rmX4_isMachine : Room := { frames := 1, cells := 0, slots := 0, locals := 22 }
set_option maxHeartbeats 4000000 in
set_option maxRecDepth 100000 in
theorem CX4_isMachine (l : Launch) (D : va_G) (aμ : Nat → Nat) (μ : MDS) (x1 : Int32) (r0 : Int32) (hF : FX4_isMachine μ x1 = some r0) : Ct l D yX4_isMachine cX4_isMachine 2 (some .boolean) rmX4_isMachine 0 0 [.ref (aμ 0), .int x1] (mdW D aμ μ) (fun v w => v = some (.int r0) ∧ w = mdW D aμ μ) := by
  refine Ct.of (own := RX4) (lv := [(0, .ref (aμ 0)), (1, .int x1)]) (by decide +kernel) rfl (Nat.le_of_ble_eq_true rfl) rfl (fun X h hr => ?_)
  unfold FX4_isMachine at hF
  refine r_iload_n h 1 rfl rfl dX4_isMachine_0 ?_
  refine r_iconst (v := 0) h dX4_isMachine_1 (by decide) ?_
  refine r_aload_n h 0 rfl rfl dX4_isMachine_2 ?_
  refine r_get h fl_X4_7 0 rfl rfl dX4_isMachine_3 ?_
  refine r_bipush (v := 13) h dX4_isMachine_6 (by decide) ?_
  obtain ⟨hN, hF⟩ := o_gd hF
  refine r_iald h 1 rfl hN dX4_isMachine_8 ?_
  refine r_iconst (v := 1) h dX4_isMachine_9 (by decide) ?_
  refine r_isub h dX4_isMachine_10 ?_
  obtain ⟨u1, hu1, hF⟩ := o_nm hF
  refine J.top hu1 ?_
  obtain ⟨z2, e3, hF⟩ := o_bind hF
  refine r_callSp (rest := []) h hd_X4_in wm_763 dX4_isMachine_11 (CX4_in l D x1 (0 : Int32) u1 z2 e3) rfl ⟨rfl, rfl⟩ ⟨by decide, by decide⟩ (Nat.le_of_ble_eq_true rfl) ⟨by decide, by decide⟩ rfl ?_
  obtain ⟨hN, hF⟩ := o_gd hF
  cases hF
  exact r_zret h hr hN dX4_isMachine_14 ⟨rfl, rfl⟩

def FX4_addMachine_J72 (μ : MDS) (x1 : Int32) (x2 : Int32) (x3 : Int32) (x4 : Int32) (b16_0 : Int32) : Option (Int32 × MDS) :=
  (FX4_refused μ b16_0).bind fun z17 =>
  if z17.1 = 0 then
  ((FX4_saves z17.2).bind fun z20 =>
  gd (¬ ((13 : Int32) < 0 ∨ 219 ≤ ((13 : Int32)).toNatClampNeg)) (
  nmv ((6 : Int32) * (z20.1 ((13 : Int32)).toNatClampNeg)) fun u22 =>
  gd (¬ ((((19 : Int32) + u22) + (0 : Int32)) < 0 ∨ 219 ≤ (((19 : Int32) + u22) + (0 : Int32)).toNatClampNeg)) (
  nmv (upd z20.1 (((19 : Int32) + u22) + (0 : Int32)).toNatClampNeg x1) fun fw23 =>
  gd (¬ ((((19 : Int32) + u22) + (1 : Int32)) < 0 ∨ 219 ≤ (((19 : Int32) + u22) + (1 : Int32)).toNatClampNeg)) (
  nmv (upd fw23 (((19 : Int32) + u22) + (1 : Int32)).toNatClampNeg x2) fun fw24 =>
  gd (¬ ((((19 : Int32) + u22) + (2 : Int32)) < 0 ∨ 219 ≤ (((19 : Int32) + u22) + (2 : Int32)).toNatClampNeg)) (
  nmv (upd fw24 (((19 : Int32) + u22) + (2 : Int32)).toNatClampNeg x3) fun fw25 =>
  gd (¬ ((((19 : Int32) + u22) + (3 : Int32)) < 0 ∨ 219 ≤ (((19 : Int32) + u22) + (3 : Int32)).toNatClampNeg)) (
  nmv (upd fw25 (((19 : Int32) + u22) + (3 : Int32)).toNatClampNeg x4) fun fw26 =>
  gd (¬ ((((19 : Int32) + u22) + (4 : Int32)) < 0 ∨ 219 ≤ (((19 : Int32) + u22) + (4 : Int32)).toNatClampNeg)) (
  nmv (upd fw26 (((19 : Int32) + u22) + (4 : Int32)).toNatClampNeg (-1 : Int32)) fun fw27 =>
  gd (¬ ((((19 : Int32) + u22) + (5 : Int32)) < 0 ∨ 219 ≤ (((19 : Int32) + u22) + (5 : Int32)).toNatClampNeg)) (
  nmv (upd fw27 (((19 : Int32) + u22) + (5 : Int32)).toNatClampNeg (-1 : Int32)) fun fw28 =>
  gd (¬ ((13 : Int32) < 0 ∨ 219 ≤ ((13 : Int32)).toNatClampNeg)) (
  nmv ((fw28 ((13 : Int32)).toNatClampNeg) + (1 : Int32)) fun u29 =>
  gd (¬ ((13 : Int32) < 0 ∨ 219 ≤ ((13 : Int32)).toNatClampNeg)) (
  nmv (upd fw28 ((13 : Int32)).toNatClampNeg u29) fun fw30 =>
  gd (¬ ((13 : Int32) < 0 ∨ 219 ≤ ((13 : Int32)).toNatClampNeg)) (
  nmv ((fw30 ((13 : Int32)).toNatClampNeg) - (1 : Int32)) fun u31 =>
  some (u31, (fw30, z20.2.1, z20.2.2.1, z20.2.2.2.1, z20.2.2.2.2.1, z20.2.2.2.2.2.1, z20.2.2.2.2.2.2.1, z20.2.2.2.2.2.2.2.1, z20.2.2.2.2.2.2.2.2.1, z20.2.2.2.2.2.2.2.2.2.1, z20.2.2.2.2.2.2.2.2.2.2.1, z20.2.2.2.2.2.2.2.2.2.2.2.1, z20.2.2.2.2.2.2.2.2.2.2.2.2)))))))))))))
else
  (some ((0 : Int32), z17.2))
def FX4_addMachine_J43 (μ : MDS) (x1 : Int32) (x2 : Int32) (x3 : Int32) (x4 : Int32) (b4_0 : Int32) : Option (Int32 × MDS) :=
  if b4_0 = 0 then
  (FX4_addMachine_J72 μ x1 x2 x3 x4 (1 : Int32))
else
  (gd (¬ ((13 : Int32) < 0 ∨ 219 ≤ ((13 : Int32)).toNatClampNeg)) (
  if (μ.1 ((13 : Int32)).toNatClampNeg) = (12 : Int32) then
  (FX4_addMachine_J72 μ x1 x2 x3 x4 (2 : Int32))
else
  (FX4_addMachine_J72 μ x1 x2 x3 x4 (0 : Int32))))
def FX4_addMachine (μ : MDS) (x1 : Int32) (x2 : Int32) (x3 : Int32) (x4 : Int32) : Option (Int32 × MDS) :=
  (FX4_in x1 (1 : Int32) (4 : Int32)).bind fun z1 =>
  if z1 = 0 then
  (FX4_addMachine_J43 μ x1 x2 x3 x4 (0 : Int32))
else
  ((FX4_in x2 (1 : Int32) (99 : Int32)).bind fun z5 =>
  if z5 = 0 then
  (FX4_addMachine_J43 μ x1 x2 x3 x4 (0 : Int32))
else
  ((FX4_in x3 (0 : Int32) (2 : Int32)).bind fun z8 =>
  if z8 = 0 then
  (FX4_addMachine_J43 μ x1 x2 x3 x4 (0 : Int32))
else
  ((FX4_in x4 (0 : Int32) (3 : Int32)).bind fun z11 =>
  if z11 = 0 then
  (FX4_addMachine_J43 μ x1 x2 x3 x4 (0 : Int32))
else
  (FX4_addMachine_J43 μ x1 x2 x3 x4 (1 : Int32)))))
abbrev rmX4_addMachine : Room := { frames := 2, cells := 0, slots := 0, locals := 42 }
set_option maxHeartbeats 4000000 in
set_option maxRecDepth 100000 in
theorem CX4_addMachine (l : Launch) (D : va_G) (aμ : Nat → Nat) (μ : MDS) (x1 : Int32) (x2 : Int32) (x3 : Int32) (x4 : Int32) (r0 : Int32) (μ0 : MDS) (hF : FX4_addMachine μ x1 x2 x3 x4 = some (r0, μ0)) : Ct l D yX4_addMachine cX4_addMachine 7 (some .int) rmX4_addMachine 0 0 [.ref (aμ 0), .int x1, .int x2, .int x3, .int x4] (mdW D aμ μ) (fun v w => v = some (.int r0) ∧ w = mdW D aμ μ0) := by
  refine Ct.of (own := RX4) (lv := [(0, .ref (aμ 0)), (1, .int x1), (2, .int x2), (3, .int x3), (4, .int x4)]) (by decide +kernel) rfl (Nat.le_of_ble_eq_true rfl) rfl (fun X h hr => ?_)
  unfold FX4_addMachine at hF
  refine r_iload_n h 1 rfl rfl dX4_addMachine_0 ?_
  refine r_iconst (v := 1) h dX4_addMachine_1 (by decide) ?_
  refine r_iconst (v := 4) h dX4_addMachine_2 (by decide) ?_
  obtain ⟨z1, e2, hF⟩ := o_bind hF
  refine r_callSp (rest := []) h hd_X4_in wm_763 dX4_addMachine_3 (CX4_in l D x1 (1 : Int32) (4 : Int32) z1 e2) rfl ⟨rfl, rfl⟩ ⟨by decide, by decide⟩ (Nat.le_of_ble_eq_true rfl) ⟨by decide, by decide⟩ rfl ?_
  have hJ43 : ∀ (b4_0 : Int32), FX4_addMachine_J43 μ x1 x2 x3 x4 b4_0 = some (r0, μ0) → J X l rmX4_addMachine D 7 0 0 (mdW D aμ μ) [(0, .ref (aμ 0)), (1, .int x1), (2, .int x2), (3, .int x3), (4, .int x4)] 43 [.int b4_0] := by
    intro b4_0 hF
    unfold FX4_addMachine_J43 at hF
    refine r_istore (lv' := [(5, .int b4_0), (0, .ref (aμ 0)), (1, .int x1), (2, .int x2), (3, .int x3), (4, .int x4)]) h dX4_addMachine_43 (by decide) rfl ?_
    refine r_aload_n h 1 rfl rfl dX4_addMachine_45 ?_
    refine r_iload h 0 rfl dX4_addMachine_46 ?_
    have hJ72 : ∀ (b16_0 : Int32), FX4_addMachine_J72 μ x1 x2 x3 x4 b16_0 = some (r0, μ0) → J X l rmX4_addMachine D 7 0 0 (mdW D aμ μ) [(5, .int b4_0), (0, .ref (aμ 0)), (1, .int x1), (2, .int x2), (3, .int x3), (4, .int x4)] 72 [.int b16_0, .ref (aμ 0)] := by
      intro b16_0 hF
      unfold FX4_addMachine_J72 at hF
      obtain ⟨z17, e18, hF⟩ := o_bind hF
      refine r_callVa (q0 := 0) (rest := []) h hd_X4_refused wm_752 dX4_addMachine_72 (CX4_refused l D aμ μ b16_0 z17.1 z17.2 e18) rfl rfl rfl ⟨rfl, rfl⟩ ⟨by decide, by decide⟩ (Nat.le_of_ble_eq_true rfl) ⟨by decide, by decide⟩ rfl (fun v w' hp => ?_)
      obtain ⟨rfl, rfl⟩ := hp
      refine r_if_eq h 80 dX4_addMachine_75 (by decide) (fun c19 => ?_) (fun c19 => ?_)
      · replace hF := o_pos c19 hF
        refine r_aload_n h 1 rfl rfl dX4_addMachine_80 ?_
        obtain ⟨z20, e21, hF⟩ := o_bind hF
        refine r_callVa (q0 := 0) (rest := []) h hd_X4_saves wm_770 dX4_addMachine_81 (CX4_saves l D aμ z17.2 z20 e21) rfl rfl rfl ⟨rfl, rfl⟩ ⟨by decide, by decide⟩ (Nat.le_of_ble_eq_true rfl) ⟨by decide, by decide⟩ rfl (fun v w' hp => ?_)
        obtain ⟨rfl, rfl⟩ := hp
        refine r_bipush (v := 19) h dX4_addMachine_84 (by decide) ?_
        refine r_bipush (v := 6) h dX4_addMachine_86 (by decide) ?_
        refine r_aload_n h 1 rfl rfl dX4_addMachine_88 ?_
        refine r_get h fl_X4_7 0 rfl rfl dX4_addMachine_89 ?_
        refine r_bipush (v := 13) h dX4_addMachine_92 (by decide) ?_
        obtain ⟨hN, hF⟩ := o_gd hF
        refine r_iald h 1 rfl hN dX4_addMachine_94 ?_
        refine r_imul h dX4_addMachine_95 ?_
        obtain ⟨u22, hu22, hF⟩ := o_nm hF
        refine J.top hu22 ?_
        refine r_iadd h dX4_addMachine_96 ?_
        refine r_istore (lv' := [(6, .int ((19 : Int32) + u22)), (5, .int b4_0), (0, .ref (aμ 0)), (1, .int x1), (2, .int x2), (3, .int x3), (4, .int x4)]) h dX4_addMachine_97 (by decide) rfl ?_
        refine r_aload_n h 2 rfl rfl dX4_addMachine_99 ?_
        refine r_get h fl_X4_7 0 rfl rfl dX4_addMachine_100 ?_
        refine r_iload h 0 rfl dX4_addMachine_103 ?_
        refine r_iconst (v := 0) h dX4_addMachine_105 (by decide) ?_
        refine r_iadd h dX4_addMachine_106 ?_
        refine r_iload_n h 3 rfl rfl dX4_addMachine_107 ?_
        obtain ⟨hN, hF⟩ := o_gd hF
        obtain ⟨fw23, hfw23, hF⟩ := o_nm hF
        refine r_iast (ws' := mdW D aμ (fw23, z20.2.1, z20.2.2.1, z20.2.2.2.1, z20.2.2.2.2.1, z20.2.2.2.2.2.1, z20.2.2.2.2.2.2.1, z20.2.2.2.2.2.2.2.1, z20.2.2.2.2.2.2.2.2.1, z20.2.2.2.2.2.2.2.2.2.1, z20.2.2.2.2.2.2.2.2.2.2.1, z20.2.2.2.2.2.2.2.2.2.2.2.1, z20.2.2.2.2.2.2.2.2.2.2.2.2)) h 1 rfl hN (by rw [hfw23]; rfl) dX4_addMachine_108 ?_
        refine r_aload_n h 2 rfl rfl dX4_addMachine_109 ?_
        refine r_get h fl_X4_7 0 rfl rfl dX4_addMachine_110 ?_
        refine r_iload h 0 rfl dX4_addMachine_113 ?_
        refine r_iconst (v := 1) h dX4_addMachine_115 (by decide) ?_
        refine r_iadd h dX4_addMachine_116 ?_
        refine r_iload_n h 4 rfl rfl dX4_addMachine_117 ?_
        obtain ⟨hN, hF⟩ := o_gd hF
        obtain ⟨fw24, hfw24, hF⟩ := o_nm hF
        refine r_iast (ws' := mdW D aμ (fw24, z20.2.1, z20.2.2.1, z20.2.2.2.1, z20.2.2.2.2.1, z20.2.2.2.2.2.1, z20.2.2.2.2.2.2.1, z20.2.2.2.2.2.2.2.1, z20.2.2.2.2.2.2.2.2.1, z20.2.2.2.2.2.2.2.2.2.1, z20.2.2.2.2.2.2.2.2.2.2.1, z20.2.2.2.2.2.2.2.2.2.2.2.1, z20.2.2.2.2.2.2.2.2.2.2.2.2)) h 1 rfl hN (by rw [hfw24]; rfl) dX4_addMachine_118 ?_
        refine r_aload_n h 2 rfl rfl dX4_addMachine_119 ?_
        refine r_get h fl_X4_7 0 rfl rfl dX4_addMachine_120 ?_
        refine r_iload h 0 rfl dX4_addMachine_123 ?_
        refine r_iconst (v := 2) h dX4_addMachine_125 (by decide) ?_
        refine r_iadd h dX4_addMachine_126 ?_
        refine r_iload_n h 5 rfl rfl dX4_addMachine_127 ?_
        obtain ⟨hN, hF⟩ := o_gd hF
        obtain ⟨fw25, hfw25, hF⟩ := o_nm hF
        refine r_iast (ws' := mdW D aμ (fw25, z20.2.1, z20.2.2.1, z20.2.2.2.1, z20.2.2.2.2.1, z20.2.2.2.2.2.1, z20.2.2.2.2.2.2.1, z20.2.2.2.2.2.2.2.1, z20.2.2.2.2.2.2.2.2.1, z20.2.2.2.2.2.2.2.2.2.1, z20.2.2.2.2.2.2.2.2.2.2.1, z20.2.2.2.2.2.2.2.2.2.2.2.1, z20.2.2.2.2.2.2.2.2.2.2.2.2)) h 1 rfl hN (by rw [hfw25]; rfl) dX4_addMachine_128 ?_
        refine r_aload_n h 2 rfl rfl dX4_addMachine_129 ?_
        refine r_get h fl_X4_7 0 rfl rfl dX4_addMachine_130 ?_
        refine r_iload h 0 rfl dX4_addMachine_133 ?_
        refine r_iconst (v := 3) h dX4_addMachine_135 (by decide) ?_
        refine r_iadd h dX4_addMachine_136 ?_
        refine r_iload h 6 rfl dX4_addMachine_137 ?_
        obtain ⟨hN, hF⟩ := o_gd hF
        obtain ⟨fw26, hfw26, hF⟩ := o_nm hF
        refine r_iast (ws' := mdW D aμ (fw26, z20.2.1, z20.2.2.1, z20.2.2.2.1, z20.2.2.2.2.1, z20.2.2.2.2.2.1, z20.2.2.2.2.2.2.1, z20.2.2.2.2.2.2.2.1, z20.2.2.2.2.2.2.2.2.1, z20.2.2.2.2.2.2.2.2.2.1, z20.2.2.2.2.2.2.2.2.2.2.1, z20.2.2.2.2.2.2.2.2.2.2.2.1, z20.2.2.2.2.2.2.2.2.2.2.2.2)) h 1 rfl hN (by rw [hfw26]; rfl) dX4_addMachine_139 ?_
        refine r_aload_n h 2 rfl rfl dX4_addMachine_140 ?_
        refine r_get h fl_X4_7 0 rfl rfl dX4_addMachine_141 ?_
        refine r_iload h 0 rfl dX4_addMachine_144 ?_
        refine r_iconst (v := 4) h dX4_addMachine_146 (by decide) ?_
        refine r_iadd h dX4_addMachine_147 ?_
        refine r_iconst (v := -1) h dX4_addMachine_148 (by decide) ?_
        obtain ⟨hN, hF⟩ := o_gd hF
        obtain ⟨fw27, hfw27, hF⟩ := o_nm hF
        refine r_iast (ws' := mdW D aμ (fw27, z20.2.1, z20.2.2.1, z20.2.2.2.1, z20.2.2.2.2.1, z20.2.2.2.2.2.1, z20.2.2.2.2.2.2.1, z20.2.2.2.2.2.2.2.1, z20.2.2.2.2.2.2.2.2.1, z20.2.2.2.2.2.2.2.2.2.1, z20.2.2.2.2.2.2.2.2.2.2.1, z20.2.2.2.2.2.2.2.2.2.2.2.1, z20.2.2.2.2.2.2.2.2.2.2.2.2)) h 1 rfl hN (by rw [hfw27]; rfl) dX4_addMachine_149 ?_
        refine r_aload_n h 2 rfl rfl dX4_addMachine_150 ?_
        refine r_get h fl_X4_7 0 rfl rfl dX4_addMachine_151 ?_
        refine r_iload h 0 rfl dX4_addMachine_154 ?_
        refine r_iconst (v := 5) h dX4_addMachine_156 (by decide) ?_
        refine r_iadd h dX4_addMachine_157 ?_
        refine r_iconst (v := -1) h dX4_addMachine_158 (by decide) ?_
        obtain ⟨hN, hF⟩ := o_gd hF
        obtain ⟨fw28, hfw28, hF⟩ := o_nm hF
        refine r_iast (ws' := mdW D aμ (fw28, z20.2.1, z20.2.2.1, z20.2.2.2.1, z20.2.2.2.2.1, z20.2.2.2.2.2.1, z20.2.2.2.2.2.2.1, z20.2.2.2.2.2.2.2.1, z20.2.2.2.2.2.2.2.2.1, z20.2.2.2.2.2.2.2.2.2.1, z20.2.2.2.2.2.2.2.2.2.2.1, z20.2.2.2.2.2.2.2.2.2.2.2.1, z20.2.2.2.2.2.2.2.2.2.2.2.2)) h 1 rfl hN (by rw [hfw28]; rfl) dX4_addMachine_159 ?_
        refine r_aload_n h 2 rfl rfl dX4_addMachine_160 ?_
        refine r_get h fl_X4_7 0 rfl rfl dX4_addMachine_161 ?_
        refine r_bipush (v := 13) h dX4_addMachine_164 (by decide) ?_
        refine r_dup2 h rfl rfl dX4_addMachine_166 ?_
        obtain ⟨hN, hF⟩ := o_gd hF
        refine r_iald h 1 rfl hN dX4_addMachine_167 ?_
        refine r_iconst (v := 1) h dX4_addMachine_168 (by decide) ?_
        refine r_iadd h dX4_addMachine_169 ?_
        obtain ⟨u29, hu29, hF⟩ := o_nm hF
        refine J.top hu29 ?_
        obtain ⟨hN, hF⟩ := o_gd hF
        obtain ⟨fw30, hfw30, hF⟩ := o_nm hF
        refine r_iast (ws' := mdW D aμ (fw30, z20.2.1, z20.2.2.1, z20.2.2.2.1, z20.2.2.2.2.1, z20.2.2.2.2.2.1, z20.2.2.2.2.2.2.1, z20.2.2.2.2.2.2.2.1, z20.2.2.2.2.2.2.2.2.1, z20.2.2.2.2.2.2.2.2.2.1, z20.2.2.2.2.2.2.2.2.2.2.1, z20.2.2.2.2.2.2.2.2.2.2.2.1, z20.2.2.2.2.2.2.2.2.2.2.2.2)) h 1 rfl hN (by rw [hfw30]; rfl) dX4_addMachine_170 ?_
        refine r_aload_n h 2 rfl rfl dX4_addMachine_171 ?_
        refine r_get h fl_X4_7 0 rfl rfl dX4_addMachine_172 ?_
        refine r_bipush (v := 13) h dX4_addMachine_175 (by decide) ?_
        obtain ⟨hN, hF⟩ := o_gd hF
        refine r_iald h 1 rfl hN dX4_addMachine_177 ?_
        refine r_iconst (v := 1) h dX4_addMachine_178 (by decide) ?_
        refine r_isub h dX4_addMachine_179 ?_
        obtain ⟨u31, hu31, hF⟩ := o_nm hF
        refine J.top hu31 ?_
        cases hF
        exact r_iret h hr dX4_addMachine_180 ⟨rfl, rfl⟩
      · replace hF := o_neg c19 hF
        refine r_iconst (v := 0) h dX4_addMachine_78 (by decide) ?_
        cases hF
        exact r_iret h hr dX4_addMachine_79 ⟨rfl, rfl⟩
    refine r_if_ne h 55 dX4_addMachine_48 (by decide) (fun c14 => ?_) (fun c14 => ?_)
    · replace hF := o_neg c14 hF
      refine r_aload_n h 1 rfl rfl dX4_addMachine_55 ?_
      refine r_get h fl_X4_7 0 rfl rfl dX4_addMachine_56 ?_
      refine r_bipush (v := 13) h dX4_addMachine_59 (by decide) ?_
      obtain ⟨hN, hF⟩ := o_gd hF
      refine r_iald h 1 rfl hN dX4_addMachine_61 ?_
      refine r_bipush (v := 12) h dX4_addMachine_62 (by decide) ?_
      refine r_icmp_ne h 71 dX4_addMachine_64 (by decide) (fun c15 => ?_) (fun c15 => ?_)
      · replace hF := o_neg c15 hF
        refine r_iconst (v := 0) h dX4_addMachine_71 (by decide) ?_
        exact J.loc (lv' := [(5, .int b4_0), (0, .ref (aμ 0)), (1, .int x1), (2, .int x2), (3, .int x3), (4, .int x4)]) [0, 1, 2, 3, 4, 5] rfl (hJ72 (0 : Int32) hF)
      · replace hF := o_pos c15 hF
        refine r_iconst (v := 2) h dX4_addMachine_67 (by decide) ?_
        refine r_goto h 72 dX4_addMachine_68 (by decide) ?_
        exact J.loc (lv' := [(5, .int b4_0), (0, .ref (aμ 0)), (1, .int x1), (2, .int x2), (3, .int x3), (4, .int x4)]) [0, 1, 2, 3, 4, 5] rfl (hJ72 (2 : Int32) hF)
    · replace hF := o_pos c14 hF
      refine r_iconst (v := 1) h dX4_addMachine_51 (by decide) ?_
      refine r_goto h 72 dX4_addMachine_52 (by decide) ?_
      exact J.loc (lv' := [(5, .int b4_0), (0, .ref (aμ 0)), (1, .int x1), (2, .int x2), (3, .int x3), (4, .int x4)]) [0, 1, 2, 3, 4, 5] rfl (hJ72 (1 : Int32) hF)
  refine r_if_eq h 42 dX4_addMachine_6 (by decide) (fun c3 => ?_) (fun c3 => ?_)
  · replace hF := o_pos c3 hF
    refine r_iconst (v := 0) h dX4_addMachine_42 (by decide) ?_
    exact J.loc (lv' := [(0, .ref (aμ 0)), (1, .int x1), (2, .int x2), (3, .int x3), (4, .int x4)]) [0, 1, 2, 3, 4] rfl (hJ43 (0 : Int32) hF)
  · replace hF := o_neg c3 hF
    refine r_iload_n h 2 rfl rfl dX4_addMachine_9 ?_
    refine r_iconst (v := 1) h dX4_addMachine_10 (by decide) ?_
    refine r_bipush (v := 99) h dX4_addMachine_11 (by decide) ?_
    obtain ⟨z5, e6, hF⟩ := o_bind hF
    refine r_callSp (rest := []) h hd_X4_in wm_763 dX4_addMachine_13 (CX4_in l D x2 (1 : Int32) (99 : Int32) z5 e6) rfl ⟨rfl, rfl⟩ ⟨by decide, by decide⟩ (Nat.le_of_ble_eq_true rfl) ⟨by decide, by decide⟩ rfl ?_
    refine r_if_eq h 42 dX4_addMachine_16 (by decide) (fun c7 => ?_) (fun c7 => ?_)
    · replace hF := o_pos c7 hF
      refine r_iconst (v := 0) h dX4_addMachine_42 (by decide) ?_
      exact J.loc (lv' := [(0, .ref (aμ 0)), (1, .int x1), (2, .int x2), (3, .int x3), (4, .int x4)]) [0, 1, 2, 3, 4] rfl (hJ43 (0 : Int32) hF)
    · replace hF := o_neg c7 hF
      refine r_iload_n h 3 rfl rfl dX4_addMachine_19 ?_
      refine r_iconst (v := 0) h dX4_addMachine_20 (by decide) ?_
      refine r_iconst (v := 2) h dX4_addMachine_21 (by decide) ?_
      obtain ⟨z8, e9, hF⟩ := o_bind hF
      refine r_callSp (rest := []) h hd_X4_in wm_763 dX4_addMachine_22 (CX4_in l D x3 (0 : Int32) (2 : Int32) z8 e9) rfl ⟨rfl, rfl⟩ ⟨by decide, by decide⟩ (Nat.le_of_ble_eq_true rfl) ⟨by decide, by decide⟩ rfl ?_
      refine r_if_eq h 42 dX4_addMachine_25 (by decide) (fun c10 => ?_) (fun c10 => ?_)
      · replace hF := o_pos c10 hF
        refine r_iconst (v := 0) h dX4_addMachine_42 (by decide) ?_
        exact J.loc (lv' := [(0, .ref (aμ 0)), (1, .int x1), (2, .int x2), (3, .int x3), (4, .int x4)]) [0, 1, 2, 3, 4] rfl (hJ43 (0 : Int32) hF)
      · replace hF := o_neg c10 hF
        refine r_iload h 4 rfl dX4_addMachine_28 ?_
        refine r_iconst (v := 0) h dX4_addMachine_30 (by decide) ?_
        refine r_iconst (v := 3) h dX4_addMachine_31 (by decide) ?_
        obtain ⟨z11, e12, hF⟩ := o_bind hF
        refine r_callSp (rest := []) h hd_X4_in wm_763 dX4_addMachine_32 (CX4_in l D x4 (0 : Int32) (3 : Int32) z11 e12) rfl ⟨rfl, rfl⟩ ⟨by decide, by decide⟩ (Nat.le_of_ble_eq_true rfl) ⟨by decide, by decide⟩ rfl ?_
        refine r_if_eq h 42 dX4_addMachine_35 (by decide) (fun c13 => ?_) (fun c13 => ?_)
        · replace hF := o_pos c13 hF
          refine r_iconst (v := 0) h dX4_addMachine_42 (by decide) ?_
          exact J.loc (lv' := [(0, .ref (aμ 0)), (1, .int x1), (2, .int x2), (3, .int x3), (4, .int x4)]) [0, 1, 2, 3, 4] rfl (hJ43 (0 : Int32) hF)
        · replace hF := o_neg c13 hF
          refine r_iconst (v := 1) h dX4_addMachine_38 (by decide) ?_
          refine r_goto h 43 dX4_addMachine_39 (by decide) ?_
          exact J.loc (lv' := [(0, .ref (aμ 0)), (1, .int x1), (2, .int x2), (3, .int x3), (4, .int x4)]) [0, 1, 2, 3, 4] rfl (hJ43 (1 : Int32) hF)

def FX4_adds (μ : MDS) (x1 : Int32) (x2 : Int32) (x3 : Int32) (x4 : Int32) (x5 : Int32) : Option (Int32 × MDS) :=
  gd (¬ (x2 < 0 ∨ 219 ≤ (x2).toNatClampNeg)) (
  nmv ((3 : Int32) * (μ.1 (x2).toNatClampNeg)) fun u1 =>
  gd (¬ ((x1 + u1) < 0 ∨ 219 ≤ (x1 + u1).toNatClampNeg)) (
  nmv (upd μ.1 (x1 + u1).toNatClampNeg x3) fun fw2 =>
  gd (¬ (((x1 + u1) + (1 : Int32)) < 0 ∨ 219 ≤ ((x1 + u1) + (1 : Int32)).toNatClampNeg)) (
  nmv (upd fw2 ((x1 + u1) + (1 : Int32)).toNatClampNeg x4) fun fw3 =>
  gd (¬ (((x1 + u1) + (2 : Int32)) < 0 ∨ 219 ≤ ((x1 + u1) + (2 : Int32)).toNatClampNeg)) (
  nmv (upd fw3 ((x1 + u1) + (2 : Int32)).toNatClampNeg x5) fun fw4 =>
  gd (¬ (x2 < 0 ∨ 219 ≤ (x2).toNatClampNeg)) (
  nmv ((fw4 (x2).toNatClampNeg) + (1 : Int32)) fun u5 =>
  gd (¬ (x2 < 0 ∨ 219 ≤ (x2).toNatClampNeg)) (
  nmv (upd fw4 (x2).toNatClampNeg u5) fun fw6 =>
  gd (¬ (x2 < 0 ∨ 219 ≤ (x2).toNatClampNeg)) (
  nmv ((fw6 (x2).toNatClampNeg) - (1 : Int32)) fun u7 =>
  some (u7, (fw6, μ.2.1, μ.2.2.1, μ.2.2.2.1, μ.2.2.2.2.1, μ.2.2.2.2.2.1, μ.2.2.2.2.2.2.1, μ.2.2.2.2.2.2.2.1, μ.2.2.2.2.2.2.2.2.1, μ.2.2.2.2.2.2.2.2.2.1, μ.2.2.2.2.2.2.2.2.2.2.1, μ.2.2.2.2.2.2.2.2.2.2.2.1, μ.2.2.2.2.2.2.2.2.2.2.2.2)))))))))
abbrev rmX4_adds : Room := { frames := 0, cells := 0, slots := 0, locals := 0 }
set_option maxHeartbeats 4000000 in
set_option maxRecDepth 100000 in
theorem CX4_adds (l : Launch) (D : va_G) (aμ : Nat → Nat) (μ : MDS) (x1 : Int32) (x2 : Int32) (x3 : Int32) (x4 : Int32) (x5 : Int32) (r0 : Int32) (μ0 : MDS) (hF : FX4_adds μ x1 x2 x3 x4 x5 = some (r0, μ0)) : Ct l D yX4_adds cX4_adds 7 (some .int) rmX4_adds 0 0 [.ref (aμ 0), .int x1, .int x2, .int x3, .int x4, .int x5] (mdW D aμ μ) (fun v w => v = some (.int r0) ∧ w = mdW D aμ μ0) := by
  refine Ct.of (own := RX4) (lv := [(0, .ref (aμ 0)), (1, .int x1), (2, .int x2), (3, .int x3), (4, .int x4), (5, .int x5)]) (by decide +kernel) rfl (Nat.le_of_ble_eq_true rfl) rfl (fun X h hr => ?_)
  unfold FX4_adds at hF
  refine r_iload_n h 1 rfl rfl dX4_adds_0 ?_
  refine r_iconst (v := 3) h dX4_adds_1 (by decide) ?_
  refine r_aload_n h 0 rfl rfl dX4_adds_2 ?_
  refine r_get h fl_X4_7 0 rfl rfl dX4_adds_3 ?_
  refine r_iload_n h 2 rfl rfl dX4_adds_6 ?_
  obtain ⟨hN, hF⟩ := o_gd hF
  refine r_iald h 1 rfl hN dX4_adds_7 ?_
  refine r_imul h dX4_adds_8 ?_
  obtain ⟨u1, hu1, hF⟩ := o_nm hF
  refine J.top hu1 ?_
  refine r_iadd h dX4_adds_9 ?_
  refine r_istore (lv' := [(6, .int (x1 + u1)), (0, .ref (aμ 0)), (1, .int x1), (2, .int x2), (3, .int x3), (4, .int x4), (5, .int x5)]) h dX4_adds_10 (by decide) rfl ?_
  refine r_aload_n h 1 rfl rfl dX4_adds_12 ?_
  refine r_get h fl_X4_7 0 rfl rfl dX4_adds_13 ?_
  refine r_iload h 0 rfl dX4_adds_16 ?_
  refine r_iload_n h 4 rfl rfl dX4_adds_18 ?_
  obtain ⟨hN, hF⟩ := o_gd hF
  obtain ⟨fw2, hfw2, hF⟩ := o_nm hF
  refine r_iast (ws' := mdW D aμ (fw2, μ.2.1, μ.2.2.1, μ.2.2.2.1, μ.2.2.2.2.1, μ.2.2.2.2.2.1, μ.2.2.2.2.2.2.1, μ.2.2.2.2.2.2.2.1, μ.2.2.2.2.2.2.2.2.1, μ.2.2.2.2.2.2.2.2.2.1, μ.2.2.2.2.2.2.2.2.2.2.1, μ.2.2.2.2.2.2.2.2.2.2.2.1, μ.2.2.2.2.2.2.2.2.2.2.2.2)) h 1 rfl hN (by rw [hfw2]; rfl) dX4_adds_19 ?_
  refine r_aload_n h 1 rfl rfl dX4_adds_20 ?_
  refine r_get h fl_X4_7 0 rfl rfl dX4_adds_21 ?_
  refine r_iload h 0 rfl dX4_adds_24 ?_
  refine r_iconst (v := 1) h dX4_adds_26 (by decide) ?_
  refine r_iadd h dX4_adds_27 ?_
  refine r_iload h 5 rfl dX4_adds_28 ?_
  obtain ⟨hN, hF⟩ := o_gd hF
  obtain ⟨fw3, hfw3, hF⟩ := o_nm hF
  refine r_iast (ws' := mdW D aμ (fw3, μ.2.1, μ.2.2.1, μ.2.2.2.1, μ.2.2.2.2.1, μ.2.2.2.2.2.1, μ.2.2.2.2.2.2.1, μ.2.2.2.2.2.2.2.1, μ.2.2.2.2.2.2.2.2.1, μ.2.2.2.2.2.2.2.2.2.1, μ.2.2.2.2.2.2.2.2.2.2.1, μ.2.2.2.2.2.2.2.2.2.2.2.1, μ.2.2.2.2.2.2.2.2.2.2.2.2)) h 1 rfl hN (by rw [hfw3]; rfl) dX4_adds_30 ?_
  refine r_aload_n h 1 rfl rfl dX4_adds_31 ?_
  refine r_get h fl_X4_7 0 rfl rfl dX4_adds_32 ?_
  refine r_iload h 0 rfl dX4_adds_35 ?_
  refine r_iconst (v := 2) h dX4_adds_37 (by decide) ?_
  refine r_iadd h dX4_adds_38 ?_
  refine r_iload h 6 rfl dX4_adds_39 ?_
  obtain ⟨hN, hF⟩ := o_gd hF
  obtain ⟨fw4, hfw4, hF⟩ := o_nm hF
  refine r_iast (ws' := mdW D aμ (fw4, μ.2.1, μ.2.2.1, μ.2.2.2.1, μ.2.2.2.2.1, μ.2.2.2.2.2.1, μ.2.2.2.2.2.2.1, μ.2.2.2.2.2.2.2.1, μ.2.2.2.2.2.2.2.2.1, μ.2.2.2.2.2.2.2.2.2.1, μ.2.2.2.2.2.2.2.2.2.2.1, μ.2.2.2.2.2.2.2.2.2.2.2.1, μ.2.2.2.2.2.2.2.2.2.2.2.2)) h 1 rfl hN (by rw [hfw4]; rfl) dX4_adds_41 ?_
  refine r_aload_n h 1 rfl rfl dX4_adds_42 ?_
  refine r_get h fl_X4_7 0 rfl rfl dX4_adds_43 ?_
  refine r_iload_n h 3 rfl rfl dX4_adds_46 ?_
  refine r_dup2 h rfl rfl dX4_adds_47 ?_
  obtain ⟨hN, hF⟩ := o_gd hF
  refine r_iald h 1 rfl hN dX4_adds_48 ?_
  refine r_iconst (v := 1) h dX4_adds_49 (by decide) ?_
  refine r_iadd h dX4_adds_50 ?_
  obtain ⟨u5, hu5, hF⟩ := o_nm hF
  refine J.top hu5 ?_
  obtain ⟨hN, hF⟩ := o_gd hF
  obtain ⟨fw6, hfw6, hF⟩ := o_nm hF
  refine r_iast (ws' := mdW D aμ (fw6, μ.2.1, μ.2.2.1, μ.2.2.2.1, μ.2.2.2.2.1, μ.2.2.2.2.2.1, μ.2.2.2.2.2.2.1, μ.2.2.2.2.2.2.2.1, μ.2.2.2.2.2.2.2.2.1, μ.2.2.2.2.2.2.2.2.2.1, μ.2.2.2.2.2.2.2.2.2.2.1, μ.2.2.2.2.2.2.2.2.2.2.2.1, μ.2.2.2.2.2.2.2.2.2.2.2.2)) h 1 rfl hN (by rw [hfw6]; rfl) dX4_adds_51 ?_
  refine r_aload_n h 1 rfl rfl dX4_adds_52 ?_
  refine r_get h fl_X4_7 0 rfl rfl dX4_adds_53 ?_
  refine r_iload_n h 3 rfl rfl dX4_adds_56 ?_
  obtain ⟨hN, hF⟩ := o_gd hF
  refine r_iald h 1 rfl hN dX4_adds_57 ?_
  refine r_iconst (v := 1) h dX4_adds_58 (by decide) ?_
  refine r_isub h dX4_adds_59 ?_
  obtain ⟨u7, hu7, hF⟩ := o_nm hF
  refine J.top hu7 ?_
  cases hF
  exact r_iret h hr dX4_adds_60 ⟨rfl, rfl⟩

def FX4_addCable_J48 (μ : MDS) (x1 : Int32) (x2 : Int32) (x3 : Int32) : Option (Int32 × MDS) :=
  (FX4_refused μ (2 : Int32)).bind fun z29 =>
  if z29.1 = 0 then
  ((FX4_saves z29.2).bind fun z32 =>
  (FX4_adds z32 (91 : Int32) (14 : Int32) x1 x2 x3).bind fun z34 =>
  some (z34.1, z34.2))
else
  (some ((0 : Int32), z29.2))
def FX4_addCable_J21 (μ : MDS) (x1 : Int32) (x2 : Int32) (x3 : Int32) (b4_0 : Int32) : Option (Int32 × MDS) :=
  if b4_0 = 0 then
  ((FX4_refused μ (1 : Int32)).bind fun z36 =>
  if z36.1 = 0 then
  ((FX4_saves z36.2).bind fun z39 =>
  (FX4_adds z39 (91 : Int32) (14 : Int32) x1 x2 x3).bind fun z41 =>
  some (z41.1, z41.2))
else
  (some ((0 : Int32), z36.2)))
else
  (if x1 = x2 then
  (FX4_addCable_J48 μ x1 x2 x3 )
else
  ((FX4_in x3 (1 : Int32) (20 : Int32)).bind fun z11 =>
  if z11 = 0 then
  (FX4_addCable_J48 μ x1 x2 x3 )
else
  (gd (¬ ((14 : Int32) < 0 ∨ 219 ≤ ((14 : Int32)).toNatClampNeg)) (
  if (μ.1 ((14 : Int32)).toNatClampNeg) = (10 : Int32) then
  ((FX4_refused μ (3 : Int32)).bind fun z22 =>
  if z22.1 = 0 then
  ((FX4_saves z22.2).bind fun z25 =>
  (FX4_adds z25 (91 : Int32) (14 : Int32) x1 x2 x3).bind fun z27 =>
  some (z27.1, z27.2))
else
  (some ((0 : Int32), z22.2)))
else
  ((FX4_refused μ (0 : Int32)).bind fun z15 =>
  if z15.1 = 0 then
  ((FX4_saves z15.2).bind fun z18 =>
  (FX4_adds z18 (91 : Int32) (14 : Int32) x1 x2 x3).bind fun z20 =>
  some (z20.1, z20.2))
else
  (some ((0 : Int32), z15.2)))))))
def FX4_addCable (μ : MDS) (x1 : Int32) (x2 : Int32) (x3 : Int32) : Option (Int32 × MDS) :=
  (FX4_isMachine μ x1).bind fun z1 =>
  if z1 = 0 then
  (FX4_addCable_J21 μ x1 x2 x3 (0 : Int32))
else
  ((FX4_isMachine μ x2).bind fun z5 =>
  if z5 = 0 then
  (FX4_addCable_J21 μ x1 x2 x3 (0 : Int32))
else
  (FX4_addCable_J21 μ x1 x2 x3 (1 : Int32)))
abbrev rmX4_addCable : Room := { frames := 2, cells := 0, slots := 0, locals := 43 }
set_option maxHeartbeats 4000000 in
set_option maxRecDepth 100000 in
theorem CX4_addCable (l : Launch) (D : va_G) (aμ : Nat → Nat) (μ : MDS) (x1 : Int32) (x2 : Int32) (x3 : Int32) (r0 : Int32) (μ0 : MDS) (hF : FX4_addCable μ x1 x2 x3 = some (r0, μ0)) : Ct l D yX4_addCable cX4_addCable 5 (some .int) rmX4_addCable 0 0 [.ref (aμ 0), .int x1, .int x2, .int x3] (mdW D aμ μ) (fun v w => v = some (.int r0) ∧ w = mdW D aμ μ0) := by
  refine Ct.of (own := RX4) (lv := [(0, .ref (aμ 0)), (1, .int x1), (2, .int x2), (3, .int x3)]) (by decide +kernel) rfl (Nat.le_of_ble_eq_true rfl) rfl (fun X h hr => ?_)
  unfold FX4_addCable at hF
  refine r_aload_n h 0 rfl rfl dX4_addCable_0 ?_
  refine r_iload_n h 1 rfl rfl dX4_addCable_1 ?_
  obtain ⟨z1, e2, hF⟩ := o_bind hF
  refine r_callVa (q0 := 0) (rest := []) h hd_X4_isMachine wm_797 dX4_addCable_2 (CX4_isMachine l D aμ μ x1 z1 e2) rfl rfl rfl ⟨rfl, rfl⟩ ⟨by decide, by decide⟩ (Nat.le_of_ble_eq_true rfl) ⟨by decide, by decide⟩ rfl (fun v w' hp => ?_)
  obtain ⟨rfl, rfl⟩ := hp
  have hJ21 : ∀ (b4_0 : Int32), FX4_addCable_J21 μ x1 x2 x3 b4_0 = some (r0, μ0) → J X l rmX4_addCable D 5 0 0 (mdW D aμ μ) [(0, .ref (aμ 0)), (1, .int x1), (2, .int x2), (3, .int x3)] 21 [.int b4_0] := by
    intro b4_0 hF
    unfold FX4_addCable_J21 at hF
    refine r_istore (lv' := [(4, .int b4_0), (0, .ref (aμ 0)), (1, .int x1), (2, .int x2), (3, .int x3)]) h dX4_addCable_21 (by decide) rfl ?_
    refine r_aload_n h 1 rfl rfl dX4_addCable_23 ?_
    refine r_iload h 0 rfl dX4_addCable_24 ?_
    refine r_if_ne h 33 dX4_addCable_26 (by decide) (fun c8 => ?_) (fun c8 => ?_)
    · replace hF := o_neg c8 hF
      refine r_iload_n h 2 rfl rfl dX4_addCable_33 ?_
      refine r_iload_n h 3 rfl rfl dX4_addCable_34 ?_
      have hJ48 : FX4_addCable_J48 μ x1 x2 x3 = some (r0, μ0) → J X l rmX4_addCable D 5 0 0 (mdW D aμ μ) [(4, .int b4_0), (0, .ref (aμ 0)), (1, .int x1), (2, .int x2), (3, .int x3)] 48 [.ref (aμ 0)] := by
        intro hF
        unfold FX4_addCable_J48 at hF
        refine r_iconst (v := 2) h dX4_addCable_48 (by decide) ?_
        refine r_goto h 69 dX4_addCable_49 (by decide) ?_
        obtain ⟨z29, e30, hF⟩ := o_bind hF
        refine r_callVa (q0 := 0) (rest := []) h hd_X4_refused wm_752 dX4_addCable_69 (CX4_refused l D aμ μ (2 : Int32) z29.1 z29.2 e30) rfl rfl rfl ⟨rfl, rfl⟩ ⟨by decide, by decide⟩ (Nat.le_of_ble_eq_true rfl) ⟨by decide, by decide⟩ rfl (fun v w' hp => ?_)
        obtain ⟨rfl, rfl⟩ := hp
        refine r_if_eq h 77 dX4_addCable_72 (by decide) (fun c31 => ?_) (fun c31 => ?_)
        · replace hF := o_pos c31 hF
          refine r_aload_n h 1 rfl rfl dX4_addCable_77 ?_
          obtain ⟨z32, e33, hF⟩ := o_bind hF
          refine r_callVa (q0 := 0) (rest := []) h hd_X4_saves wm_770 dX4_addCable_78 (CX4_saves l D aμ z29.2 z32 e33) rfl rfl rfl ⟨rfl, rfl⟩ ⟨by decide, by decide⟩ (Nat.le_of_ble_eq_true rfl) ⟨by decide, by decide⟩ rfl (fun v w' hp => ?_)
          obtain ⟨rfl, rfl⟩ := hp
          refine r_aload_n h 1 rfl rfl dX4_addCable_81 ?_
          refine r_bipush (v := 91) h dX4_addCable_82 (by decide) ?_
          refine r_bipush (v := 14) h dX4_addCable_84 (by decide) ?_
          refine r_iload_n h 2 rfl rfl dX4_addCable_86 ?_
          refine r_iload_n h 3 rfl rfl dX4_addCable_87 ?_
          refine r_iload_n h 4 rfl rfl dX4_addCable_88 ?_
          obtain ⟨z34, e35, hF⟩ := o_bind hF
          refine r_callVa (q0 := 0) (rest := []) h hd_X4_adds wm_801 dX4_addCable_89 (CX4_adds l D aμ z32 (91 : Int32) (14 : Int32) x1 x2 x3 z34.1 z34.2 e35) rfl rfl rfl ⟨rfl, rfl⟩ ⟨by decide, by decide⟩ (Nat.le_of_ble_eq_true rfl) ⟨by decide, by decide⟩ rfl (fun v w' hp => ?_)
          obtain ⟨rfl, rfl⟩ := hp
          cases hF
          exact r_iret h hr dX4_addCable_92 ⟨rfl, rfl⟩
        · replace hF := o_neg c31 hF
          refine r_iconst (v := 0) h dX4_addCable_75 (by decide) ?_
          cases hF
          exact r_iret h hr dX4_addCable_76 ⟨rfl, rfl⟩
      refine r_icmp_eq h 48 dX4_addCable_35 (by decide) (fun c9 => ?_) (fun c9 => ?_)
      · replace hF := o_pos c9 hF
        exact J.loc (lv' := [(4, .int b4_0), (0, .ref (aμ 0)), (1, .int x1), (2, .int x2), (3, .int x3)]) [0, 1, 2, 3, 4] rfl (hJ48  hF)
      · replace hF := o_neg c9 hF
        refine r_iload_n h 4 rfl rfl dX4_addCable_38 ?_
        refine r_iconst (v := 1) h dX4_addCable_39 (by decide) ?_
        refine r_bipush (v := 20) h dX4_addCable_40 (by decide) ?_
        obtain ⟨z11, e12, hF⟩ := o_bind hF
        refine r_callSp (rest := [.ref (aμ 0)]) h hd_X4_in wm_763 dX4_addCable_42 (CX4_in l D x3 (1 : Int32) (20 : Int32) z11 e12) rfl ⟨rfl, rfl⟩ ⟨by decide, by decide⟩ (Nat.le_of_ble_eq_true rfl) ⟨by decide, by decide⟩ rfl ?_
        refine r_if_ne h 52 dX4_addCable_45 (by decide) (fun c13 => ?_) (fun c13 => ?_)
        · replace hF := o_neg c13 hF
          refine r_aload_n h 1 rfl rfl dX4_addCable_52 ?_
          refine r_get h fl_X4_7 0 rfl rfl dX4_addCable_53 ?_
          refine r_bipush (v := 14) h dX4_addCable_56 (by decide) ?_
          obtain ⟨hN, hF⟩ := o_gd hF
          refine r_iald h 1 rfl hN dX4_addCable_58 ?_
          refine r_bipush (v := 10) h dX4_addCable_59 (by decide) ?_
          refine r_icmp_ne h 68 dX4_addCable_61 (by decide) (fun c14 => ?_) (fun c14 => ?_)
          · replace hF := o_neg c14 hF
            refine r_iconst (v := 0) h dX4_addCable_68 (by decide) ?_
            obtain ⟨z15, e16, hF⟩ := o_bind hF
            refine r_callVa (q0 := 0) (rest := []) h hd_X4_refused wm_752 dX4_addCable_69 (CX4_refused l D aμ μ (0 : Int32) z15.1 z15.2 e16) rfl rfl rfl ⟨rfl, rfl⟩ ⟨by decide, by decide⟩ (Nat.le_of_ble_eq_true rfl) ⟨by decide, by decide⟩ rfl (fun v w' hp => ?_)
            obtain ⟨rfl, rfl⟩ := hp
            refine r_if_eq h 77 dX4_addCable_72 (by decide) (fun c17 => ?_) (fun c17 => ?_)
            · replace hF := o_pos c17 hF
              refine r_aload_n h 1 rfl rfl dX4_addCable_77 ?_
              obtain ⟨z18, e19, hF⟩ := o_bind hF
              refine r_callVa (q0 := 0) (rest := []) h hd_X4_saves wm_770 dX4_addCable_78 (CX4_saves l D aμ z15.2 z18 e19) rfl rfl rfl ⟨rfl, rfl⟩ ⟨by decide, by decide⟩ (Nat.le_of_ble_eq_true rfl) ⟨by decide, by decide⟩ rfl (fun v w' hp => ?_)
              obtain ⟨rfl, rfl⟩ := hp
              refine r_aload_n h 1 rfl rfl dX4_addCable_81 ?_
              refine r_bipush (v := 91) h dX4_addCable_82 (by decide) ?_
              refine r_bipush (v := 14) h dX4_addCable_84 (by decide) ?_
              refine r_iload_n h 2 rfl rfl dX4_addCable_86 ?_
              refine r_iload_n h 3 rfl rfl dX4_addCable_87 ?_
              refine r_iload_n h 4 rfl rfl dX4_addCable_88 ?_
              obtain ⟨z20, e21, hF⟩ := o_bind hF
              refine r_callVa (q0 := 0) (rest := []) h hd_X4_adds wm_801 dX4_addCable_89 (CX4_adds l D aμ z18 (91 : Int32) (14 : Int32) x1 x2 x3 z20.1 z20.2 e21) rfl rfl rfl ⟨rfl, rfl⟩ ⟨by decide, by decide⟩ (Nat.le_of_ble_eq_true rfl) ⟨by decide, by decide⟩ rfl (fun v w' hp => ?_)
              obtain ⟨rfl, rfl⟩ := hp
              cases hF
              exact r_iret h hr dX4_addCable_92 ⟨rfl, rfl⟩
            · replace hF := o_neg c17 hF
              refine r_iconst (v := 0) h dX4_addCable_75 (by decide) ?_
              cases hF
              exact r_iret h hr dX4_addCable_76 ⟨rfl, rfl⟩
          · replace hF := o_pos c14 hF
            refine r_iconst (v := 3) h dX4_addCable_64 (by decide) ?_
            refine r_goto h 69 dX4_addCable_65 (by decide) ?_
            obtain ⟨z22, e23, hF⟩ := o_bind hF
            refine r_callVa (q0 := 0) (rest := []) h hd_X4_refused wm_752 dX4_addCable_69 (CX4_refused l D aμ μ (3 : Int32) z22.1 z22.2 e23) rfl rfl rfl ⟨rfl, rfl⟩ ⟨by decide, by decide⟩ (Nat.le_of_ble_eq_true rfl) ⟨by decide, by decide⟩ rfl (fun v w' hp => ?_)
            obtain ⟨rfl, rfl⟩ := hp
            refine r_if_eq h 77 dX4_addCable_72 (by decide) (fun c24 => ?_) (fun c24 => ?_)
            · replace hF := o_pos c24 hF
              refine r_aload_n h 1 rfl rfl dX4_addCable_77 ?_
              obtain ⟨z25, e26, hF⟩ := o_bind hF
              refine r_callVa (q0 := 0) (rest := []) h hd_X4_saves wm_770 dX4_addCable_78 (CX4_saves l D aμ z22.2 z25 e26) rfl rfl rfl ⟨rfl, rfl⟩ ⟨by decide, by decide⟩ (Nat.le_of_ble_eq_true rfl) ⟨by decide, by decide⟩ rfl (fun v w' hp => ?_)
              obtain ⟨rfl, rfl⟩ := hp
              refine r_aload_n h 1 rfl rfl dX4_addCable_81 ?_
              refine r_bipush (v := 91) h dX4_addCable_82 (by decide) ?_
              refine r_bipush (v := 14) h dX4_addCable_84 (by decide) ?_
              refine r_iload_n h 2 rfl rfl dX4_addCable_86 ?_
              refine r_iload_n h 3 rfl rfl dX4_addCable_87 ?_
              refine r_iload_n h 4 rfl rfl dX4_addCable_88 ?_
              obtain ⟨z27, e28, hF⟩ := o_bind hF
              refine r_callVa (q0 := 0) (rest := []) h hd_X4_adds wm_801 dX4_addCable_89 (CX4_adds l D aμ z25 (91 : Int32) (14 : Int32) x1 x2 x3 z27.1 z27.2 e28) rfl rfl rfl ⟨rfl, rfl⟩ ⟨by decide, by decide⟩ (Nat.le_of_ble_eq_true rfl) ⟨by decide, by decide⟩ rfl (fun v w' hp => ?_)
              obtain ⟨rfl, rfl⟩ := hp
              cases hF
              exact r_iret h hr dX4_addCable_92 ⟨rfl, rfl⟩
            · replace hF := o_neg c24 hF
              refine r_iconst (v := 0) h dX4_addCable_75 (by decide) ?_
              cases hF
              exact r_iret h hr dX4_addCable_76 ⟨rfl, rfl⟩
        · replace hF := o_pos c13 hF
          exact J.loc (lv' := [(4, .int b4_0), (0, .ref (aμ 0)), (1, .int x1), (2, .int x2), (3, .int x3)]) [0, 1, 2, 3, 4] rfl (hJ48  hF)
    · replace hF := o_pos c8 hF
      refine r_iconst (v := 1) h dX4_addCable_29 (by decide) ?_
      refine r_goto h 69 dX4_addCable_30 (by decide) ?_
      obtain ⟨z36, e37, hF⟩ := o_bind hF
      refine r_callVa (q0 := 0) (rest := []) h hd_X4_refused wm_752 dX4_addCable_69 (CX4_refused l D aμ μ (1 : Int32) z36.1 z36.2 e37) rfl rfl rfl ⟨rfl, rfl⟩ ⟨by decide, by decide⟩ (Nat.le_of_ble_eq_true rfl) ⟨by decide, by decide⟩ rfl (fun v w' hp => ?_)
      obtain ⟨rfl, rfl⟩ := hp
      refine r_if_eq h 77 dX4_addCable_72 (by decide) (fun c38 => ?_) (fun c38 => ?_)
      · replace hF := o_pos c38 hF
        refine r_aload_n h 1 rfl rfl dX4_addCable_77 ?_
        obtain ⟨z39, e40, hF⟩ := o_bind hF
        refine r_callVa (q0 := 0) (rest := []) h hd_X4_saves wm_770 dX4_addCable_78 (CX4_saves l D aμ z36.2 z39 e40) rfl rfl rfl ⟨rfl, rfl⟩ ⟨by decide, by decide⟩ (Nat.le_of_ble_eq_true rfl) ⟨by decide, by decide⟩ rfl (fun v w' hp => ?_)
        obtain ⟨rfl, rfl⟩ := hp
        refine r_aload_n h 1 rfl rfl dX4_addCable_81 ?_
        refine r_bipush (v := 91) h dX4_addCable_82 (by decide) ?_
        refine r_bipush (v := 14) h dX4_addCable_84 (by decide) ?_
        refine r_iload_n h 2 rfl rfl dX4_addCable_86 ?_
        refine r_iload_n h 3 rfl rfl dX4_addCable_87 ?_
        refine r_iload_n h 4 rfl rfl dX4_addCable_88 ?_
        obtain ⟨z41, e42, hF⟩ := o_bind hF
        refine r_callVa (q0 := 0) (rest := []) h hd_X4_adds wm_801 dX4_addCable_89 (CX4_adds l D aμ z39 (91 : Int32) (14 : Int32) x1 x2 x3 z41.1 z41.2 e42) rfl rfl rfl ⟨rfl, rfl⟩ ⟨by decide, by decide⟩ (Nat.le_of_ble_eq_true rfl) ⟨by decide, by decide⟩ rfl (fun v w' hp => ?_)
        obtain ⟨rfl, rfl⟩ := hp
        cases hF
        exact r_iret h hr dX4_addCable_92 ⟨rfl, rfl⟩
      · replace hF := o_neg c38 hF
        refine r_iconst (v := 0) h dX4_addCable_75 (by decide) ?_
        cases hF
        exact r_iret h hr dX4_addCable_76 ⟨rfl, rfl⟩
  refine r_if_eq h 20 dX4_addCable_5 (by decide) (fun c3 => ?_) (fun c3 => ?_)
  · replace hF := o_pos c3 hF
    refine r_iconst (v := 0) h dX4_addCable_20 (by decide) ?_
    exact J.loc (lv' := [(0, .ref (aμ 0)), (1, .int x1), (2, .int x2), (3, .int x3)]) [0, 1, 2, 3] rfl (hJ21 (0 : Int32) hF)
  · replace hF := o_neg c3 hF
    refine r_aload_n h 0 rfl rfl dX4_addCable_8 ?_
    refine r_iload_n h 2 rfl rfl dX4_addCable_9 ?_
    obtain ⟨z5, e6, hF⟩ := o_bind hF
    refine r_callVa (q0 := 0) (rest := []) h hd_X4_isMachine wm_797 dX4_addCable_10 (CX4_isMachine l D aμ μ x2 z5 e6) rfl rfl rfl ⟨rfl, rfl⟩ ⟨by decide, by decide⟩ (Nat.le_of_ble_eq_true rfl) ⟨by decide, by decide⟩ rfl (fun v w' hp => ?_)
    obtain ⟨rfl, rfl⟩ := hp
    refine r_if_eq h 20 dX4_addCable_13 (by decide) (fun c7 => ?_) (fun c7 => ?_)
    · replace hF := o_pos c7 hF
      refine r_iconst (v := 0) h dX4_addCable_20 (by decide) ?_
      exact J.loc (lv' := [(0, .ref (aμ 0)), (1, .int x1), (2, .int x2), (3, .int x3)]) [0, 1, 2, 3] rfl (hJ21 (0 : Int32) hF)
    · replace hF := o_neg c7 hF
      refine r_iconst (v := 1) h dX4_addCable_16 (by decide) ?_
      refine r_goto h 21 dX4_addCable_17 (by decide) ?_
      exact J.loc (lv' := [(0, .ref (aμ 0)), (1, .int x1), (2, .int x2), (3, .int x3)]) [0, 1, 2, 3] rfl (hJ21 (1 : Int32) hF)

def FX4_drops_L17 (x1 : Int32) (x2 : Int32) (K : Int32 → MDS → Option (Int32 × MDS)) : Nat → Int32 → MDS → Option (Int32 × MDS)
  | 0, _, _ => none
  | n + 1, y4_4, s4_μ =>
  gd (¬ (x2 < 0 ∨ 219 ≤ (x2).toNatClampNeg)) (
  nmv ((3 : Int32) * (s4_μ.1 (x2).toNatClampNeg)) fun u5 =>
  if (x1 + u5) ≤ y4_4 then
  (K y4_4 s4_μ)
else
  (gd (¬ ((y4_4 + (3 : Int32)) < 0 ∨ 219 ≤ (y4_4 + (3 : Int32)).toNatClampNeg)) (
  nmv (s4_μ.1 (y4_4 + (3 : Int32)).toNatClampNeg) fun u7 =>
  gd (¬ (y4_4 < 0 ∨ 219 ≤ (y4_4).toNatClampNeg)) (
  nmv (upd s4_μ.1 (y4_4).toNatClampNeg u7) fun fw8 =>
  FX4_drops_L17 x1 x2 K n (y4_4 + 1) (fw8, s4_μ.2.1, s4_μ.2.2.1, s4_μ.2.2.2.1, s4_μ.2.2.2.2.1, s4_μ.2.2.2.2.2.1, s4_μ.2.2.2.2.2.2.1, s4_μ.2.2.2.2.2.2.2.1, s4_μ.2.2.2.2.2.2.2.2.1, s4_μ.2.2.2.2.2.2.2.2.2.1, s4_μ.2.2.2.2.2.2.2.2.2.2.1, s4_μ.2.2.2.2.2.2.2.2.2.2.2.1, s4_μ.2.2.2.2.2.2.2.2.2.2.2.2)))))
def FX4_drops (μ : MDS) (x1 : Int32) (x2 : Int32) (x3 : Int32) : Option (Int32 × MDS) :=
  gd (¬ (x2 < 0 ∨ 219 ≤ (x2).toNatClampNeg)) (
  nmv ((μ.1 (x2).toNatClampNeg) - (1 : Int32)) fun u1 =>
  gd (¬ (x2 < 0 ∨ 219 ≤ (x2).toNatClampNeg)) (
  nmv (upd μ.1 (x2).toNatClampNeg u1) fun fw2 =>
  FX4_drops_L17 x1 x2 (fun (y4_4 : Int32) (s4_μ : MDS) =>
  gd (¬ (x2 < 0 ∨ 219 ≤ (x2).toNatClampNeg)) (
  some (s4_μ.1 (x2).toNatClampNeg, s4_μ))) FU (x1 + ((3 : Int32) * x3)) (fw2, μ.2.1, μ.2.2.1, μ.2.2.2.1, μ.2.2.2.2.1, μ.2.2.2.2.2.1, μ.2.2.2.2.2.2.1, μ.2.2.2.2.2.2.2.1, μ.2.2.2.2.2.2.2.2.1, μ.2.2.2.2.2.2.2.2.2.1, μ.2.2.2.2.2.2.2.2.2.2.1, μ.2.2.2.2.2.2.2.2.2.2.2.1, μ.2.2.2.2.2.2.2.2.2.2.2.2)))
abbrev rmX4_drops : Room := { frames := 0, cells := 0, slots := 0, locals := 0 }
set_option maxHeartbeats 4000000 in
set_option maxRecDepth 100000 in
theorem CX4_drops (l : Launch) (D : va_G) (aμ : Nat → Nat) (μ : MDS) (x1 : Int32) (x2 : Int32) (x3 : Int32) (r0 : Int32) (μ0 : MDS) (hF : FX4_drops μ x1 x2 x3 = some (r0, μ0)) : Ct l D yX4_drops cX4_drops 5 (some .int) rmX4_drops 0 0 [.ref (aμ 0), .int x1, .int x2, .int x3] (mdW D aμ μ) (fun v w => v = some (.int r0) ∧ w = mdW D aμ μ0) := by
  refine Ct.of (own := RX4) (lv := [(0, .ref (aμ 0)), (1, .int x1), (2, .int x2), (3, .int x3)]) (by decide +kernel) rfl (Nat.le_of_ble_eq_true rfl) rfl (fun X h hr => ?_)
  unfold FX4_drops at hF
  refine r_aload_n h 0 rfl rfl dX4_drops_0 ?_
  refine r_get h fl_X4_7 0 rfl rfl dX4_drops_1 ?_
  refine r_iload_n h 2 rfl rfl dX4_drops_4 ?_
  refine r_dup2 h rfl rfl dX4_drops_5 ?_
  obtain ⟨hN, hF⟩ := o_gd hF
  refine r_iald h 1 rfl hN dX4_drops_6 ?_
  refine r_iconst (v := 1) h dX4_drops_7 (by decide) ?_
  refine r_isub h dX4_drops_8 ?_
  obtain ⟨u1, hu1, hF⟩ := o_nm hF
  refine J.top hu1 ?_
  obtain ⟨hN, hF⟩ := o_gd hF
  obtain ⟨fw2, hfw2, hF⟩ := o_nm hF
  refine r_iast (ws' := mdW D aμ (fw2, μ.2.1, μ.2.2.1, μ.2.2.2.1, μ.2.2.2.2.1, μ.2.2.2.2.2.1, μ.2.2.2.2.2.2.1, μ.2.2.2.2.2.2.2.1, μ.2.2.2.2.2.2.2.2.1, μ.2.2.2.2.2.2.2.2.2.1, μ.2.2.2.2.2.2.2.2.2.2.1, μ.2.2.2.2.2.2.2.2.2.2.2.1, μ.2.2.2.2.2.2.2.2.2.2.2.2)) h 1 rfl hN (by rw [hfw2]; rfl) dX4_drops_9 ?_
  refine r_iload_n h 1 rfl rfl dX4_drops_10 ?_
  refine r_iconst (v := 3) h dX4_drops_11 (by decide) ?_
  refine r_iload_n h 3 rfl rfl dX4_drops_12 ?_
  refine r_imul h dX4_drops_13 ?_
  refine r_iadd h dX4_drops_14 ?_
  refine r_istore (lv' := [(4, .int (x1 + ((3 : Int32) * x3))), (0, .ref (aμ 0)), (1, .int x1), (2, .int x2), (3, .int x3)]) h dX4_drops_15 (by decide) rfl ?_
  have hL17 : ∀ (K : Int32 → MDS → Option (Int32 × MDS)) (hK : ∀ (y4_4 : Int32) (s4_μ : MDS), K y4_4 s4_μ = some (r0, μ0) → J X l rmX4_drops D 5 0 0 (mdW D aμ s4_μ) [(4, .int y4_4), (0, .ref (aμ 0)), (1, .int x1), (2, .int x2), (3, .int x3)] 54 []) (N : Nat), ∀ (y4_4 : Int32) (s4_μ : MDS), FX4_drops_L17 x1 x2 K N y4_4 s4_μ = some (r0, μ0) → J X l rmX4_drops D 5 0 0 (mdW D aμ s4_μ) [(4, .int y4_4), (0, .ref (aμ 0)), (1, .int x1), (2, .int x2), (3, .int x3)] 17 [] := by
    intro K hK N
    induction N with
    | zero =>
      intro y4_4 s4_μ hF
      cases hF
    | succ N ih =>
      intro y4_4 s4_μ hF
      rw [FX4_drops_L17] at hF
      refine r_iload h 0 rfl dX4_drops_17 ?_
      refine r_iload_n h 2 rfl rfl dX4_drops_19 ?_
      refine r_iconst (v := 3) h dX4_drops_20 (by decide) ?_
      refine r_aload_n h 1 rfl rfl dX4_drops_21 ?_
      refine r_get h fl_X4_7 0 rfl rfl dX4_drops_22 ?_
      refine r_iload_n h 3 rfl rfl dX4_drops_25 ?_
      obtain ⟨hN, hF⟩ := o_gd hF
      refine r_iald h 1 rfl hN dX4_drops_26 ?_
      refine r_imul h dX4_drops_27 ?_
      obtain ⟨u5, hu5, hF⟩ := o_nm hF
      refine J.top hu5 ?_
      refine r_iadd h dX4_drops_28 ?_
      refine r_icmp_ge h 54 dX4_drops_29 (by decide) (fun c6 => ?_) (fun c6 => ?_)
      · replace hF := o_pos c6 hF
        exact J.loc (lv' := [(4, .int y4_4), (0, .ref (aμ 0)), (1, .int x1), (2, .int x2), (3, .int x3)]) [0, 1, 2, 3, 4] rfl (hK y4_4 s4_μ hF)
      · replace hF := o_neg c6 hF
        refine r_aload_n h 1 rfl rfl dX4_drops_32 ?_
        refine r_get h fl_X4_7 0 rfl rfl dX4_drops_33 ?_
        refine r_iload h 0 rfl dX4_drops_36 ?_
        refine r_aload_n h 1 rfl rfl dX4_drops_38 ?_
        refine r_get h fl_X4_7 0 rfl rfl dX4_drops_39 ?_
        refine r_iload h 0 rfl dX4_drops_42 ?_
        refine r_iconst (v := 3) h dX4_drops_44 (by decide) ?_
        refine r_iadd h dX4_drops_45 ?_
        obtain ⟨hN, hF⟩ := o_gd hF
        refine r_iald h 1 rfl hN dX4_drops_46 ?_
        obtain ⟨u7, hu7, hF⟩ := o_nm hF
        refine J.top hu7 ?_
        obtain ⟨hN, hF⟩ := o_gd hF
        obtain ⟨fw8, hfw8, hF⟩ := o_nm hF
        refine r_iast (ws' := mdW D aμ (fw8, s4_μ.2.1, s4_μ.2.2.1, s4_μ.2.2.2.1, s4_μ.2.2.2.2.1, s4_μ.2.2.2.2.2.1, s4_μ.2.2.2.2.2.2.1, s4_μ.2.2.2.2.2.2.2.1, s4_μ.2.2.2.2.2.2.2.2.1, s4_μ.2.2.2.2.2.2.2.2.2.1, s4_μ.2.2.2.2.2.2.2.2.2.2.1, s4_μ.2.2.2.2.2.2.2.2.2.2.2.1, s4_μ.2.2.2.2.2.2.2.2.2.2.2.2)) h 1 rfl hN (by rw [hfw8]; rfl) dX4_drops_47 ?_
        refine r_iinc (lv' := [(4, .int (y4_4 + 1)), (0, .ref (aμ 0)), (1, .int x1), (2, .int x2), (3, .int x3)]) h 0 rfl (congrArg (fun z => y4_4 + z) (by decide : Int32.ofInt 1 = 1)) dX4_drops_48 (by decide) rfl ?_
        refine r_goto h 17 dX4_drops_51 (by decide) ?_
        exact J.loc (lv' := [(4, .int (y4_4 + 1)), (0, .ref (aμ 0)), (1, .int x1), (2, .int x2), (3, .int x3)]) [0, 1, 2, 3, 4] rfl (ih (y4_4 + 1) (fw8, s4_μ.2.1, s4_μ.2.2.1, s4_μ.2.2.2.1, s4_μ.2.2.2.2.1, s4_μ.2.2.2.2.2.1, s4_μ.2.2.2.2.2.2.1, s4_μ.2.2.2.2.2.2.2.1, s4_μ.2.2.2.2.2.2.2.2.1, s4_μ.2.2.2.2.2.2.2.2.2.1, s4_μ.2.2.2.2.2.2.2.2.2.2.1, s4_μ.2.2.2.2.2.2.2.2.2.2.2.1, s4_μ.2.2.2.2.2.2.2.2.2.2.2.2) hF)
  refine hL17 _ (fun y4_4 s4_μ hF => ?_) _ (x1 + ((3 : Int32) * x3)) (fw2, μ.2.1, μ.2.2.1, μ.2.2.2.1, μ.2.2.2.2.1, μ.2.2.2.2.2.1, μ.2.2.2.2.2.2.1, μ.2.2.2.2.2.2.2.1, μ.2.2.2.2.2.2.2.2.1, μ.2.2.2.2.2.2.2.2.2.1, μ.2.2.2.2.2.2.2.2.2.2.1, μ.2.2.2.2.2.2.2.2.2.2.2.1, μ.2.2.2.2.2.2.2.2.2.2.2.2) hF
  refine r_aload_n h 1 rfl rfl dX4_drops_54 ?_
  refine r_get h fl_X4_7 0 rfl rfl dX4_drops_55 ?_
  refine r_iload_n h 3 rfl rfl dX4_drops_58 ?_
  obtain ⟨hN, hF⟩ := o_gd hF
  refine r_iald h 1 rfl hN dX4_drops_59 ?_
  cases hF
  exact r_iret h hr dX4_drops_60 ⟨rfl, rfl⟩

def FX4_isCable (μ : MDS) (x1 : Int32) : Option (Int32) :=
  gd (¬ ((14 : Int32) < 0 ∨ 219 ≤ ((14 : Int32)).toNatClampNeg)) (
  nmv ((μ.1 ((14 : Int32)).toNatClampNeg) - (1 : Int32)) fun u1 =>
  (FX4_in x1 (0 : Int32) u1).bind fun z2 =>
  gd (z2 = 0 ∨ z2 = 1) (
  some z2))
abbrev rmX4_isCable : Room := { frames := 1, cells := 0, slots := 0, locals := 22 }
set_option maxHeartbeats 4000000 in
set_option maxRecDepth 100000 in
theorem CX4_isCable (l : Launch) (D : va_G) (aμ : Nat → Nat) (μ : MDS) (x1 : Int32) (r0 : Int32) (hF : FX4_isCable μ x1 = some r0) : Ct l D yX4_isCable cX4_isCable 2 (some .boolean) rmX4_isCable 0 0 [.ref (aμ 0), .int x1] (mdW D aμ μ) (fun v w => v = some (.int r0) ∧ w = mdW D aμ μ) := by
  refine Ct.of (own := RX4) (lv := [(0, .ref (aμ 0)), (1, .int x1)]) (by decide +kernel) rfl (Nat.le_of_ble_eq_true rfl) rfl (fun X h hr => ?_)
  unfold FX4_isCable at hF
  refine r_iload_n h 1 rfl rfl dX4_isCable_0 ?_
  refine r_iconst (v := 0) h dX4_isCable_1 (by decide) ?_
  refine r_aload_n h 0 rfl rfl dX4_isCable_2 ?_
  refine r_get h fl_X4_7 0 rfl rfl dX4_isCable_3 ?_
  refine r_bipush (v := 14) h dX4_isCable_6 (by decide) ?_
  obtain ⟨hN, hF⟩ := o_gd hF
  refine r_iald h 1 rfl hN dX4_isCable_8 ?_
  refine r_iconst (v := 1) h dX4_isCable_9 (by decide) ?_
  refine r_isub h dX4_isCable_10 ?_
  obtain ⟨u1, hu1, hF⟩ := o_nm hF
  refine J.top hu1 ?_
  obtain ⟨z2, e3, hF⟩ := o_bind hF
  refine r_callSp (rest := []) h hd_X4_in wm_763 dX4_isCable_11 (CX4_in l D x1 (0 : Int32) u1 z2 e3) rfl ⟨rfl, rfl⟩ ⟨by decide, by decide⟩ (Nat.le_of_ble_eq_true rfl) ⟨by decide, by decide⟩ rfl ?_
  obtain ⟨hN, hF⟩ := o_gd hF
  cases hF
  exact r_zret h hr hN dX4_isCable_14 ⟨rfl, rfl⟩

def FX4_removeCable (μ : MDS) (x1 : Int32) : Option (Int32 × MDS) :=
  (FX4_isCable μ x1).bind fun z1 =>
  if z1 = 0 then
  ((FX4_refused μ (1 : Int32)).bind fun z4 =>
  if z4.1 = 0 then
  ((FX4_saves z4.2).bind fun z7 =>
  (FX4_drops z7 (91 : Int32) (14 : Int32) x1).bind fun z9 =>
  some (z9.1, z9.2))
else
  (some ((0 : Int32), z4.2)))
else
  ((FX4_refused μ (0 : Int32)).bind fun z11 =>
  if z11.1 = 0 then
  ((FX4_saves z11.2).bind fun z14 =>
  (FX4_drops z14 (91 : Int32) (14 : Int32) x1).bind fun z16 =>
  some (z16.1, z16.2))
else
  (some ((0 : Int32), z11.2)))
abbrev rmX4_removeCable : Room := { frames := 2, cells := 0, slots := 0, locals := 43 }
set_option maxHeartbeats 4000000 in
set_option maxRecDepth 100000 in
theorem CX4_removeCable (l : Launch) (D : va_G) (aμ : Nat → Nat) (μ : MDS) (x1 : Int32) (r0 : Int32) (μ0 : MDS) (hF : FX4_removeCable μ x1 = some (r0, μ0)) : Ct l D yX4_removeCable cX4_removeCable 2 (some .int) rmX4_removeCable 0 0 [.ref (aμ 0), .int x1] (mdW D aμ μ) (fun v w => v = some (.int r0) ∧ w = mdW D aμ μ0) := by
  refine Ct.of (own := RX4) (lv := [(0, .ref (aμ 0)), (1, .int x1)]) (by decide +kernel) rfl (Nat.le_of_ble_eq_true rfl) rfl (fun X h hr => ?_)
  unfold FX4_removeCable at hF
  refine r_aload_n h 0 rfl rfl dX4_removeCable_0 ?_
  refine r_aload_n h 0 rfl rfl dX4_removeCable_1 ?_
  refine r_iload_n h 1 rfl rfl dX4_removeCable_2 ?_
  obtain ⟨z1, e2, hF⟩ := o_bind hF
  refine r_callVa (q0 := 0) (rest := [.ref (aμ 0)]) h hd_X4_isCable wm_809 dX4_removeCable_3 (CX4_isCable l D aμ μ x1 z1 e2) rfl rfl rfl ⟨rfl, rfl⟩ ⟨by decide, by decide⟩ (Nat.le_of_ble_eq_true rfl) ⟨by decide, by decide⟩ rfl (fun v w' hp => ?_)
  obtain ⟨rfl, rfl⟩ := hp
  refine r_if_eq h 13 dX4_removeCable_6 (by decide) (fun c3 => ?_) (fun c3 => ?_)
  · replace hF := o_pos c3 hF
    refine r_iconst (v := 1) h dX4_removeCable_13 (by decide) ?_
    obtain ⟨z4, e5, hF⟩ := o_bind hF
    refine r_callVa (q0 := 0) (rest := []) h hd_X4_refused wm_752 dX4_removeCable_14 (CX4_refused l D aμ μ (1 : Int32) z4.1 z4.2 e5) rfl rfl rfl ⟨rfl, rfl⟩ ⟨by decide, by decide⟩ (Nat.le_of_ble_eq_true rfl) ⟨by decide, by decide⟩ rfl (fun v w' hp => ?_)
    obtain ⟨rfl, rfl⟩ := hp
    refine r_if_eq h 22 dX4_removeCable_17 (by decide) (fun c6 => ?_) (fun c6 => ?_)
    · replace hF := o_pos c6 hF
      refine r_aload_n h 0 rfl rfl dX4_removeCable_22 ?_
      obtain ⟨z7, e8, hF⟩ := o_bind hF
      refine r_callVa (q0 := 0) (rest := []) h hd_X4_saves wm_770 dX4_removeCable_23 (CX4_saves l D aμ z4.2 z7 e8) rfl rfl rfl ⟨rfl, rfl⟩ ⟨by decide, by decide⟩ (Nat.le_of_ble_eq_true rfl) ⟨by decide, by decide⟩ rfl (fun v w' hp => ?_)
      obtain ⟨rfl, rfl⟩ := hp
      refine r_aload_n h 0 rfl rfl dX4_removeCable_26 ?_
      refine r_bipush (v := 91) h dX4_removeCable_27 (by decide) ?_
      refine r_bipush (v := 14) h dX4_removeCable_29 (by decide) ?_
      refine r_iload_n h 1 rfl rfl dX4_removeCable_31 ?_
      obtain ⟨z9, e10, hF⟩ := o_bind hF
      refine r_callVa (q0 := 0) (rest := []) h hd_X4_drops wm_813 dX4_removeCable_32 (CX4_drops l D aμ z7 (91 : Int32) (14 : Int32) x1 z9.1 z9.2 e10) rfl rfl rfl ⟨rfl, rfl⟩ ⟨by decide, by decide⟩ (Nat.le_of_ble_eq_true rfl) ⟨by decide, by decide⟩ rfl (fun v w' hp => ?_)
      obtain ⟨rfl, rfl⟩ := hp
      cases hF
      exact r_iret h hr dX4_removeCable_35 ⟨rfl, rfl⟩
    · replace hF := o_neg c6 hF
      refine r_iconst (v := 0) h dX4_removeCable_20 (by decide) ?_
      cases hF
      exact r_iret h hr dX4_removeCable_21 ⟨rfl, rfl⟩
  · replace hF := o_neg c3 hF
    refine r_iconst (v := 0) h dX4_removeCable_9 (by decide) ?_
    refine r_goto h 14 dX4_removeCable_10 (by decide) ?_
    obtain ⟨z11, e12, hF⟩ := o_bind hF
    refine r_callVa (q0 := 0) (rest := []) h hd_X4_refused wm_752 dX4_removeCable_14 (CX4_refused l D aμ μ (0 : Int32) z11.1 z11.2 e12) rfl rfl rfl ⟨rfl, rfl⟩ ⟨by decide, by decide⟩ (Nat.le_of_ble_eq_true rfl) ⟨by decide, by decide⟩ rfl (fun v w' hp => ?_)
    obtain ⟨rfl, rfl⟩ := hp
    refine r_if_eq h 22 dX4_removeCable_17 (by decide) (fun c13 => ?_) (fun c13 => ?_)
    · replace hF := o_pos c13 hF
      refine r_aload_n h 0 rfl rfl dX4_removeCable_22 ?_
      obtain ⟨z14, e15, hF⟩ := o_bind hF
      refine r_callVa (q0 := 0) (rest := []) h hd_X4_saves wm_770 dX4_removeCable_23 (CX4_saves l D aμ z11.2 z14 e15) rfl rfl rfl ⟨rfl, rfl⟩ ⟨by decide, by decide⟩ (Nat.le_of_ble_eq_true rfl) ⟨by decide, by decide⟩ rfl (fun v w' hp => ?_)
      obtain ⟨rfl, rfl⟩ := hp
      refine r_aload_n h 0 rfl rfl dX4_removeCable_26 ?_
      refine r_bipush (v := 91) h dX4_removeCable_27 (by decide) ?_
      refine r_bipush (v := 14) h dX4_removeCable_29 (by decide) ?_
      refine r_iload_n h 1 rfl rfl dX4_removeCable_31 ?_
      obtain ⟨z16, e17, hF⟩ := o_bind hF
      refine r_callVa (q0 := 0) (rest := []) h hd_X4_drops wm_813 dX4_removeCable_32 (CX4_drops l D aμ z14 (91 : Int32) (14 : Int32) x1 z16.1 z16.2 e17) rfl rfl rfl ⟨rfl, rfl⟩ ⟨by decide, by decide⟩ (Nat.le_of_ble_eq_true rfl) ⟨by decide, by decide⟩ rfl (fun v w' hp => ?_)
      obtain ⟨rfl, rfl⟩ := hp
      cases hF
      exact r_iret h hr dX4_removeCable_35 ⟨rfl, rfl⟩
    · replace hF := o_neg c13 hF
      refine r_iconst (v := 0) h dX4_removeCable_20 (by decide) ?_
      cases hF
      exact r_iret h hr dX4_removeCable_21 ⟨rfl, rfl⟩

def FX4_addFreeze_J35 (μ : MDS) (x1 : Int32) (x2 : Int32) (x3 : Int32) (b4_0 : Int32) : Option (Int32 × MDS) :=
  if b4_0 = 0 then
  ((FX4_refused μ (1 : Int32)).bind fun z27 =>
  if z27.1 = 0 then
  ((FX4_saves z27.2).bind fun z30 =>
  (FX4_adds z30 (121 : Int32) (15 : Int32) x1 x2 x3).bind fun z32 =>
  some (z32.1, z32.2))
else
  (some ((0 : Int32), z27.2)))
else
  (gd (¬ ((15 : Int32) < 0 ∨ 219 ≤ ((15 : Int32)).toNatClampNeg)) (
  if (μ.1 ((15 : Int32)).toNatClampNeg) = (6 : Int32) then
  ((FX4_refused μ (2 : Int32)).bind fun z20 =>
  if z20.1 = 0 then
  ((FX4_saves z20.2).bind fun z23 =>
  (FX4_adds z23 (121 : Int32) (15 : Int32) x1 x2 x3).bind fun z25 =>
  some (z25.1, z25.2))
else
  (some ((0 : Int32), z20.2)))
else
  ((FX4_refused μ (0 : Int32)).bind fun z13 =>
  if z13.1 = 0 then
  ((FX4_saves z13.2).bind fun z16 =>
  (FX4_adds z16 (121 : Int32) (15 : Int32) x1 x2 x3).bind fun z18 =>
  some (z18.1, z18.2))
else
  (some ((0 : Int32), z13.2)))))
def FX4_addFreeze (μ : MDS) (x1 : Int32) (x2 : Int32) (x3 : Int32) : Option (Int32 × MDS) :=
  (FX4_in x1 (0 : Int32) (3 : Int32)).bind fun z1 =>
  if z1 = 0 then
  (FX4_addFreeze_J35 μ x1 x2 x3 (0 : Int32))
else
  ((FX4_in x2 (0 : Int32) (999 : Int32)).bind fun z5 =>
  if z5 = 0 then
  (FX4_addFreeze_J35 μ x1 x2 x3 (0 : Int32))
else
  ((FX4_in x3 (1 : Int32) (99 : Int32)).bind fun z8 =>
  if z8 = 0 then
  (FX4_addFreeze_J35 μ x1 x2 x3 (0 : Int32))
else
  (FX4_addFreeze_J35 μ x1 x2 x3 (1 : Int32))))
abbrev rmX4_addFreeze : Room := { frames := 2, cells := 0, slots := 0, locals := 42 }
set_option maxHeartbeats 4000000 in
set_option maxRecDepth 100000 in
theorem CX4_addFreeze (l : Launch) (D : va_G) (aμ : Nat → Nat) (μ : MDS) (x1 : Int32) (x2 : Int32) (x3 : Int32) (r0 : Int32) (μ0 : MDS) (hF : FX4_addFreeze μ x1 x2 x3 = some (r0, μ0)) : Ct l D yX4_addFreeze cX4_addFreeze 5 (some .int) rmX4_addFreeze 0 0 [.ref (aμ 0), .int x1, .int x2, .int x3] (mdW D aμ μ) (fun v w => v = some (.int r0) ∧ w = mdW D aμ μ0) := by
  refine Ct.of (own := RX4) (lv := [(0, .ref (aμ 0)), (1, .int x1), (2, .int x2), (3, .int x3)]) (by decide +kernel) rfl (Nat.le_of_ble_eq_true rfl) rfl (fun X h hr => ?_)
  unfold FX4_addFreeze at hF
  refine r_iload_n h 1 rfl rfl dX4_addFreeze_0 ?_
  refine r_iconst (v := 0) h dX4_addFreeze_1 (by decide) ?_
  refine r_iconst (v := 3) h dX4_addFreeze_2 (by decide) ?_
  obtain ⟨z1, e2, hF⟩ := o_bind hF
  refine r_callSp (rest := []) h hd_X4_in wm_763 dX4_addFreeze_3 (CX4_in l D x1 (0 : Int32) (3 : Int32) z1 e2) rfl ⟨rfl, rfl⟩ ⟨by decide, by decide⟩ (Nat.le_of_ble_eq_true rfl) ⟨by decide, by decide⟩ rfl ?_
  have hJ35 : ∀ (b4_0 : Int32), FX4_addFreeze_J35 μ x1 x2 x3 b4_0 = some (r0, μ0) → J X l rmX4_addFreeze D 5 0 0 (mdW D aμ μ) [(0, .ref (aμ 0)), (1, .int x1), (2, .int x2), (3, .int x3)] 35 [.int b4_0] := by
    intro b4_0 hF
    unfold FX4_addFreeze_J35 at hF
    refine r_istore (lv' := [(4, .int b4_0), (0, .ref (aμ 0)), (1, .int x1), (2, .int x2), (3, .int x3)]) h dX4_addFreeze_35 (by decide) rfl ?_
    refine r_aload_n h 1 rfl rfl dX4_addFreeze_37 ?_
    refine r_iload h 0 rfl dX4_addFreeze_38 ?_
    refine r_if_ne h 47 dX4_addFreeze_40 (by decide) (fun c11 => ?_) (fun c11 => ?_)
    · replace hF := o_neg c11 hF
      refine r_aload_n h 1 rfl rfl dX4_addFreeze_47 ?_
      refine r_get h fl_X4_7 0 rfl rfl dX4_addFreeze_48 ?_
      refine r_bipush (v := 15) h dX4_addFreeze_51 (by decide) ?_
      obtain ⟨hN, hF⟩ := o_gd hF
      refine r_iald h 1 rfl hN dX4_addFreeze_53 ?_
      refine r_bipush (v := 6) h dX4_addFreeze_54 (by decide) ?_
      refine r_icmp_ne h 63 dX4_addFreeze_56 (by decide) (fun c12 => ?_) (fun c12 => ?_)
      · replace hF := o_neg c12 hF
        refine r_iconst (v := 0) h dX4_addFreeze_63 (by decide) ?_
        obtain ⟨z13, e14, hF⟩ := o_bind hF
        refine r_callVa (q0 := 0) (rest := []) h hd_X4_refused wm_752 dX4_addFreeze_64 (CX4_refused l D aμ μ (0 : Int32) z13.1 z13.2 e14) rfl rfl rfl ⟨rfl, rfl⟩ ⟨by decide, by decide⟩ (Nat.le_of_ble_eq_true rfl) ⟨by decide, by decide⟩ rfl (fun v w' hp => ?_)
        obtain ⟨rfl, rfl⟩ := hp
        refine r_if_eq h 72 dX4_addFreeze_67 (by decide) (fun c15 => ?_) (fun c15 => ?_)
        · replace hF := o_pos c15 hF
          refine r_aload_n h 1 rfl rfl dX4_addFreeze_72 ?_
          obtain ⟨z16, e17, hF⟩ := o_bind hF
          refine r_callVa (q0 := 0) (rest := []) h hd_X4_saves wm_770 dX4_addFreeze_73 (CX4_saves l D aμ z13.2 z16 e17) rfl rfl rfl ⟨rfl, rfl⟩ ⟨by decide, by decide⟩ (Nat.le_of_ble_eq_true rfl) ⟨by decide, by decide⟩ rfl (fun v w' hp => ?_)
          obtain ⟨rfl, rfl⟩ := hp
          refine r_aload_n h 1 rfl rfl dX4_addFreeze_76 ?_
          refine r_bipush (v := 121) h dX4_addFreeze_77 (by decide) ?_
          refine r_bipush (v := 15) h dX4_addFreeze_79 (by decide) ?_
          refine r_iload_n h 2 rfl rfl dX4_addFreeze_81 ?_
          refine r_iload_n h 3 rfl rfl dX4_addFreeze_82 ?_
          refine r_iload_n h 4 rfl rfl dX4_addFreeze_83 ?_
          obtain ⟨z18, e19, hF⟩ := o_bind hF
          refine r_callVa (q0 := 0) (rest := []) h hd_X4_adds wm_801 dX4_addFreeze_84 (CX4_adds l D aμ z16 (121 : Int32) (15 : Int32) x1 x2 x3 z18.1 z18.2 e19) rfl rfl rfl ⟨rfl, rfl⟩ ⟨by decide, by decide⟩ (Nat.le_of_ble_eq_true rfl) ⟨by decide, by decide⟩ rfl (fun v w' hp => ?_)
          obtain ⟨rfl, rfl⟩ := hp
          cases hF
          exact r_iret h hr dX4_addFreeze_87 ⟨rfl, rfl⟩
        · replace hF := o_neg c15 hF
          refine r_iconst (v := 0) h dX4_addFreeze_70 (by decide) ?_
          cases hF
          exact r_iret h hr dX4_addFreeze_71 ⟨rfl, rfl⟩
      · replace hF := o_pos c12 hF
        refine r_iconst (v := 2) h dX4_addFreeze_59 (by decide) ?_
        refine r_goto h 64 dX4_addFreeze_60 (by decide) ?_
        obtain ⟨z20, e21, hF⟩ := o_bind hF
        refine r_callVa (q0 := 0) (rest := []) h hd_X4_refused wm_752 dX4_addFreeze_64 (CX4_refused l D aμ μ (2 : Int32) z20.1 z20.2 e21) rfl rfl rfl ⟨rfl, rfl⟩ ⟨by decide, by decide⟩ (Nat.le_of_ble_eq_true rfl) ⟨by decide, by decide⟩ rfl (fun v w' hp => ?_)
        obtain ⟨rfl, rfl⟩ := hp
        refine r_if_eq h 72 dX4_addFreeze_67 (by decide) (fun c22 => ?_) (fun c22 => ?_)
        · replace hF := o_pos c22 hF
          refine r_aload_n h 1 rfl rfl dX4_addFreeze_72 ?_
          obtain ⟨z23, e24, hF⟩ := o_bind hF
          refine r_callVa (q0 := 0) (rest := []) h hd_X4_saves wm_770 dX4_addFreeze_73 (CX4_saves l D aμ z20.2 z23 e24) rfl rfl rfl ⟨rfl, rfl⟩ ⟨by decide, by decide⟩ (Nat.le_of_ble_eq_true rfl) ⟨by decide, by decide⟩ rfl (fun v w' hp => ?_)
          obtain ⟨rfl, rfl⟩ := hp
          refine r_aload_n h 1 rfl rfl dX4_addFreeze_76 ?_
          refine r_bipush (v := 121) h dX4_addFreeze_77 (by decide) ?_
          refine r_bipush (v := 15) h dX4_addFreeze_79 (by decide) ?_
          refine r_iload_n h 2 rfl rfl dX4_addFreeze_81 ?_
          refine r_iload_n h 3 rfl rfl dX4_addFreeze_82 ?_
          refine r_iload_n h 4 rfl rfl dX4_addFreeze_83 ?_
          obtain ⟨z25, e26, hF⟩ := o_bind hF
          refine r_callVa (q0 := 0) (rest := []) h hd_X4_adds wm_801 dX4_addFreeze_84 (CX4_adds l D aμ z23 (121 : Int32) (15 : Int32) x1 x2 x3 z25.1 z25.2 e26) rfl rfl rfl ⟨rfl, rfl⟩ ⟨by decide, by decide⟩ (Nat.le_of_ble_eq_true rfl) ⟨by decide, by decide⟩ rfl (fun v w' hp => ?_)
          obtain ⟨rfl, rfl⟩ := hp
          cases hF
          exact r_iret h hr dX4_addFreeze_87 ⟨rfl, rfl⟩
        · replace hF := o_neg c22 hF
          refine r_iconst (v := 0) h dX4_addFreeze_70 (by decide) ?_
          cases hF
          exact r_iret h hr dX4_addFreeze_71 ⟨rfl, rfl⟩
    · replace hF := o_pos c11 hF
      refine r_iconst (v := 1) h dX4_addFreeze_43 (by decide) ?_
      refine r_goto h 64 dX4_addFreeze_44 (by decide) ?_
      obtain ⟨z27, e28, hF⟩ := o_bind hF
      refine r_callVa (q0 := 0) (rest := []) h hd_X4_refused wm_752 dX4_addFreeze_64 (CX4_refused l D aμ μ (1 : Int32) z27.1 z27.2 e28) rfl rfl rfl ⟨rfl, rfl⟩ ⟨by decide, by decide⟩ (Nat.le_of_ble_eq_true rfl) ⟨by decide, by decide⟩ rfl (fun v w' hp => ?_)
      obtain ⟨rfl, rfl⟩ := hp
      refine r_if_eq h 72 dX4_addFreeze_67 (by decide) (fun c29 => ?_) (fun c29 => ?_)
      · replace hF := o_pos c29 hF
        refine r_aload_n h 1 rfl rfl dX4_addFreeze_72 ?_
        obtain ⟨z30, e31, hF⟩ := o_bind hF
        refine r_callVa (q0 := 0) (rest := []) h hd_X4_saves wm_770 dX4_addFreeze_73 (CX4_saves l D aμ z27.2 z30 e31) rfl rfl rfl ⟨rfl, rfl⟩ ⟨by decide, by decide⟩ (Nat.le_of_ble_eq_true rfl) ⟨by decide, by decide⟩ rfl (fun v w' hp => ?_)
        obtain ⟨rfl, rfl⟩ := hp
        refine r_aload_n h 1 rfl rfl dX4_addFreeze_76 ?_
        refine r_bipush (v := 121) h dX4_addFreeze_77 (by decide) ?_
        refine r_bipush (v := 15) h dX4_addFreeze_79 (by decide) ?_
        refine r_iload_n h 2 rfl rfl dX4_addFreeze_81 ?_
        refine r_iload_n h 3 rfl rfl dX4_addFreeze_82 ?_
        refine r_iload_n h 4 rfl rfl dX4_addFreeze_83 ?_
        obtain ⟨z32, e33, hF⟩ := o_bind hF
        refine r_callVa (q0 := 0) (rest := []) h hd_X4_adds wm_801 dX4_addFreeze_84 (CX4_adds l D aμ z30 (121 : Int32) (15 : Int32) x1 x2 x3 z32.1 z32.2 e33) rfl rfl rfl ⟨rfl, rfl⟩ ⟨by decide, by decide⟩ (Nat.le_of_ble_eq_true rfl) ⟨by decide, by decide⟩ rfl (fun v w' hp => ?_)
        obtain ⟨rfl, rfl⟩ := hp
        cases hF
        exact r_iret h hr dX4_addFreeze_87 ⟨rfl, rfl⟩
      · replace hF := o_neg c29 hF
        refine r_iconst (v := 0) h dX4_addFreeze_70 (by decide) ?_
        cases hF
        exact r_iret h hr dX4_addFreeze_71 ⟨rfl, rfl⟩
  refine r_if_eq h 34 dX4_addFreeze_6 (by decide) (fun c3 => ?_) (fun c3 => ?_)
  · replace hF := o_pos c3 hF
    refine r_iconst (v := 0) h dX4_addFreeze_34 (by decide) ?_
    exact J.loc (lv' := [(0, .ref (aμ 0)), (1, .int x1), (2, .int x2), (3, .int x3)]) [0, 1, 2, 3] rfl (hJ35 (0 : Int32) hF)
  · replace hF := o_neg c3 hF
    refine r_iload_n h 2 rfl rfl dX4_addFreeze_9 ?_
    refine r_iconst (v := 0) h dX4_addFreeze_10 (by decide) ?_
    refine r_sipush (v := 999) h dX4_addFreeze_11 (by decide) ?_
    obtain ⟨z5, e6, hF⟩ := o_bind hF
    refine r_callSp (rest := []) h hd_X4_in wm_763 dX4_addFreeze_14 (CX4_in l D x2 (0 : Int32) (999 : Int32) z5 e6) rfl ⟨rfl, rfl⟩ ⟨by decide, by decide⟩ (Nat.le_of_ble_eq_true rfl) ⟨by decide, by decide⟩ rfl ?_
    refine r_if_eq h 34 dX4_addFreeze_17 (by decide) (fun c7 => ?_) (fun c7 => ?_)
    · replace hF := o_pos c7 hF
      refine r_iconst (v := 0) h dX4_addFreeze_34 (by decide) ?_
      exact J.loc (lv' := [(0, .ref (aμ 0)), (1, .int x1), (2, .int x2), (3, .int x3)]) [0, 1, 2, 3] rfl (hJ35 (0 : Int32) hF)
    · replace hF := o_neg c7 hF
      refine r_iload_n h 3 rfl rfl dX4_addFreeze_20 ?_
      refine r_iconst (v := 1) h dX4_addFreeze_21 (by decide) ?_
      refine r_bipush (v := 99) h dX4_addFreeze_22 (by decide) ?_
      obtain ⟨z8, e9, hF⟩ := o_bind hF
      refine r_callSp (rest := []) h hd_X4_in wm_763 dX4_addFreeze_24 (CX4_in l D x3 (1 : Int32) (99 : Int32) z8 e9) rfl ⟨rfl, rfl⟩ ⟨by decide, by decide⟩ (Nat.le_of_ble_eq_true rfl) ⟨by decide, by decide⟩ rfl ?_
      refine r_if_eq h 34 dX4_addFreeze_27 (by decide) (fun c10 => ?_) (fun c10 => ?_)
      · replace hF := o_pos c10 hF
        refine r_iconst (v := 0) h dX4_addFreeze_34 (by decide) ?_
        exact J.loc (lv' := [(0, .ref (aμ 0)), (1, .int x1), (2, .int x2), (3, .int x3)]) [0, 1, 2, 3] rfl (hJ35 (0 : Int32) hF)
      · replace hF := o_neg c10 hF
        refine r_iconst (v := 1) h dX4_addFreeze_30 (by decide) ?_
        refine r_goto h 35 dX4_addFreeze_31 (by decide) ?_
        exact J.loc (lv' := [(0, .ref (aμ 0)), (1, .int x1), (2, .int x2), (3, .int x3)]) [0, 1, 2, 3] rfl (hJ35 (1 : Int32) hF)

def FX4_removeFreeze (μ : MDS) (x1 : Int32) : Option (Int32 × MDS) :=
  gd (¬ ((15 : Int32) < 0 ∨ 219 ≤ ((15 : Int32)).toNatClampNeg)) (
  nmv ((μ.1 ((15 : Int32)).toNatClampNeg) - (1 : Int32)) fun u1 =>
  (FX4_in x1 (0 : Int32) u1).bind fun z2 =>
  if z2 = 0 then
  ((FX4_refused μ (1 : Int32)).bind fun z5 =>
  if z5.1 = 0 then
  ((FX4_saves z5.2).bind fun z8 =>
  (FX4_drops z8 (121 : Int32) (15 : Int32) x1).bind fun z10 =>
  some (z10.1, z10.2))
else
  (some ((0 : Int32), z5.2)))
else
  ((FX4_refused μ (0 : Int32)).bind fun z12 =>
  if z12.1 = 0 then
  ((FX4_saves z12.2).bind fun z15 =>
  (FX4_drops z15 (121 : Int32) (15 : Int32) x1).bind fun z17 =>
  some (z17.1, z17.2))
else
  (some ((0 : Int32), z12.2))))
abbrev rmX4_removeFreeze : Room := { frames := 2, cells := 0, slots := 0, locals := 42 }
set_option maxHeartbeats 4000000 in
set_option maxRecDepth 100000 in
theorem CX4_removeFreeze (l : Launch) (D : va_G) (aμ : Nat → Nat) (μ : MDS) (x1 : Int32) (r0 : Int32) (μ0 : MDS) (hF : FX4_removeFreeze μ x1 = some (r0, μ0)) : Ct l D yX4_removeFreeze cX4_removeFreeze 2 (some .int) rmX4_removeFreeze 0 0 [.ref (aμ 0), .int x1] (mdW D aμ μ) (fun v w => v = some (.int r0) ∧ w = mdW D aμ μ0) := by
  refine Ct.of (own := RX4) (lv := [(0, .ref (aμ 0)), (1, .int x1)]) (by decide +kernel) rfl (Nat.le_of_ble_eq_true rfl) rfl (fun X h hr => ?_)
  unfold FX4_removeFreeze at hF
  refine r_aload_n h 0 rfl rfl dX4_removeFreeze_0 ?_
  refine r_iload_n h 1 rfl rfl dX4_removeFreeze_1 ?_
  refine r_iconst (v := 0) h dX4_removeFreeze_2 (by decide) ?_
  refine r_aload_n h 0 rfl rfl dX4_removeFreeze_3 ?_
  refine r_get h fl_X4_7 0 rfl rfl dX4_removeFreeze_4 ?_
  refine r_bipush (v := 15) h dX4_removeFreeze_7 (by decide) ?_
  obtain ⟨hN, hF⟩ := o_gd hF
  refine r_iald h 1 rfl hN dX4_removeFreeze_9 ?_
  refine r_iconst (v := 1) h dX4_removeFreeze_10 (by decide) ?_
  refine r_isub h dX4_removeFreeze_11 ?_
  obtain ⟨u1, hu1, hF⟩ := o_nm hF
  refine J.top hu1 ?_
  obtain ⟨z2, e3, hF⟩ := o_bind hF
  refine r_callSp (rest := [.ref (aμ 0)]) h hd_X4_in wm_763 dX4_removeFreeze_12 (CX4_in l D x1 (0 : Int32) u1 z2 e3) rfl ⟨rfl, rfl⟩ ⟨by decide, by decide⟩ (Nat.le_of_ble_eq_true rfl) ⟨by decide, by decide⟩ rfl ?_
  refine r_if_eq h 22 dX4_removeFreeze_15 (by decide) (fun c4 => ?_) (fun c4 => ?_)
  · replace hF := o_pos c4 hF
    refine r_iconst (v := 1) h dX4_removeFreeze_22 (by decide) ?_
    obtain ⟨z5, e6, hF⟩ := o_bind hF
    refine r_callVa (q0 := 0) (rest := []) h hd_X4_refused wm_752 dX4_removeFreeze_23 (CX4_refused l D aμ μ (1 : Int32) z5.1 z5.2 e6) rfl rfl rfl ⟨rfl, rfl⟩ ⟨by decide, by decide⟩ (Nat.le_of_ble_eq_true rfl) ⟨by decide, by decide⟩ rfl (fun v w' hp => ?_)
    obtain ⟨rfl, rfl⟩ := hp
    refine r_if_eq h 31 dX4_removeFreeze_26 (by decide) (fun c7 => ?_) (fun c7 => ?_)
    · replace hF := o_pos c7 hF
      refine r_aload_n h 0 rfl rfl dX4_removeFreeze_31 ?_
      obtain ⟨z8, e9, hF⟩ := o_bind hF
      refine r_callVa (q0 := 0) (rest := []) h hd_X4_saves wm_770 dX4_removeFreeze_32 (CX4_saves l D aμ z5.2 z8 e9) rfl rfl rfl ⟨rfl, rfl⟩ ⟨by decide, by decide⟩ (Nat.le_of_ble_eq_true rfl) ⟨by decide, by decide⟩ rfl (fun v w' hp => ?_)
      obtain ⟨rfl, rfl⟩ := hp
      refine r_aload_n h 0 rfl rfl dX4_removeFreeze_35 ?_
      refine r_bipush (v := 121) h dX4_removeFreeze_36 (by decide) ?_
      refine r_bipush (v := 15) h dX4_removeFreeze_38 (by decide) ?_
      refine r_iload_n h 1 rfl rfl dX4_removeFreeze_40 ?_
      obtain ⟨z10, e11, hF⟩ := o_bind hF
      refine r_callVa (q0 := 0) (rest := []) h hd_X4_drops wm_813 dX4_removeFreeze_41 (CX4_drops l D aμ z8 (121 : Int32) (15 : Int32) x1 z10.1 z10.2 e11) rfl rfl rfl ⟨rfl, rfl⟩ ⟨by decide, by decide⟩ (Nat.le_of_ble_eq_true rfl) ⟨by decide, by decide⟩ rfl (fun v w' hp => ?_)
      obtain ⟨rfl, rfl⟩ := hp
      cases hF
      exact r_iret h hr dX4_removeFreeze_44 ⟨rfl, rfl⟩
    · replace hF := o_neg c7 hF
      refine r_iconst (v := 0) h dX4_removeFreeze_29 (by decide) ?_
      cases hF
      exact r_iret h hr dX4_removeFreeze_30 ⟨rfl, rfl⟩
  · replace hF := o_neg c4 hF
    refine r_iconst (v := 0) h dX4_removeFreeze_18 (by decide) ?_
    refine r_goto h 23 dX4_removeFreeze_19 (by decide) ?_
    obtain ⟨z12, e13, hF⟩ := o_bind hF
    refine r_callVa (q0 := 0) (rest := []) h hd_X4_refused wm_752 dX4_removeFreeze_23 (CX4_refused l D aμ μ (0 : Int32) z12.1 z12.2 e13) rfl rfl rfl ⟨rfl, rfl⟩ ⟨by decide, by decide⟩ (Nat.le_of_ble_eq_true rfl) ⟨by decide, by decide⟩ rfl (fun v w' hp => ?_)
    obtain ⟨rfl, rfl⟩ := hp
    refine r_if_eq h 31 dX4_removeFreeze_26 (by decide) (fun c14 => ?_) (fun c14 => ?_)
    · replace hF := o_pos c14 hF
      refine r_aload_n h 0 rfl rfl dX4_removeFreeze_31 ?_
      obtain ⟨z15, e16, hF⟩ := o_bind hF
      refine r_callVa (q0 := 0) (rest := []) h hd_X4_saves wm_770 dX4_removeFreeze_32 (CX4_saves l D aμ z12.2 z15 e16) rfl rfl rfl ⟨rfl, rfl⟩ ⟨by decide, by decide⟩ (Nat.le_of_ble_eq_true rfl) ⟨by decide, by decide⟩ rfl (fun v w' hp => ?_)
      obtain ⟨rfl, rfl⟩ := hp
      refine r_aload_n h 0 rfl rfl dX4_removeFreeze_35 ?_
      refine r_bipush (v := 121) h dX4_removeFreeze_36 (by decide) ?_
      refine r_bipush (v := 15) h dX4_removeFreeze_38 (by decide) ?_
      refine r_iload_n h 1 rfl rfl dX4_removeFreeze_40 ?_
      obtain ⟨z17, e18, hF⟩ := o_bind hF
      refine r_callVa (q0 := 0) (rest := []) h hd_X4_drops wm_813 dX4_removeFreeze_41 (CX4_drops l D aμ z15 (121 : Int32) (15 : Int32) x1 z17.1 z17.2 e18) rfl rfl rfl ⟨rfl, rfl⟩ ⟨by decide, by decide⟩ (Nat.le_of_ble_eq_true rfl) ⟨by decide, by decide⟩ rfl (fun v w' hp => ?_)
      obtain ⟨rfl, rfl⟩ := hp
      cases hF
      exact r_iret h hr dX4_removeFreeze_44 ⟨rfl, rfl⟩
    · replace hF := o_neg c14 hF
      refine r_iconst (v := 0) h dX4_removeFreeze_29 (by decide) ?_
      cases hF
      exact r_iret h hr dX4_removeFreeze_30 ⟨rfl, rfl⟩

def FX4_pass_J35 (μ : MDS) (x1 : Int32) (b6_0 : Int32) : Option (Int32 × MDS) :=
  (FX4_refused μ b6_0).bind fun z7 =>
  if z7.1 = 0 then
  ((FX4_saves z7.2).bind fun z10 =>
  gd (¬ ((12 : Int32) < 0 ∨ 219 ≤ ((12 : Int32)).toNatClampNeg)) (
  nmv ((z10.1 ((12 : Int32)).toNatClampNeg) + x1) fun u12 =>
  gd (¬ ((12 : Int32) < 0 ∨ 219 ≤ ((12 : Int32)).toNatClampNeg)) (
  nmv (upd z10.1 ((12 : Int32)).toNatClampNeg u12) fun fw13 =>
  gd (¬ ((12 : Int32) < 0 ∨ 219 ≤ ((12 : Int32)).toNatClampNeg)) (
  some (fw13 ((12 : Int32)).toNatClampNeg, (fw13, z10.2.1, z10.2.2.1, z10.2.2.2.1, z10.2.2.2.2.1, z10.2.2.2.2.2.1, z10.2.2.2.2.2.2.1, z10.2.2.2.2.2.2.2.1, z10.2.2.2.2.2.2.2.2.1, z10.2.2.2.2.2.2.2.2.2.1, z10.2.2.2.2.2.2.2.2.2.2.1, z10.2.2.2.2.2.2.2.2.2.2.2.1, z10.2.2.2.2.2.2.2.2.2.2.2.2))))))
else
  (some ((0 : Int32), z7.2))
def FX4_pass (μ : MDS) (x1 : Int32) : Option (Int32 × MDS) :=
  (FX4_in x1 (1 : Int32) (99 : Int32)).bind fun z1 =>
  if z1 = 0 then
  (FX4_pass_J35 μ x1 (1 : Int32))
else
  (gd (¬ ((12 : Int32) < 0 ∨ 219 ≤ ((12 : Int32)).toNatClampNeg)) (
  nmv ((μ.1 ((12 : Int32)).toNatClampNeg) + x1) fun u4 =>
  if u4 ≤ (2000 : Int32) then
  (FX4_pass_J35 μ x1 (0 : Int32))
else
  (FX4_pass_J35 μ x1 (2 : Int32))))
abbrev rmX4_pass : Room := { frames := 2, cells := 0, slots := 0, locals := 42 }
set_option maxHeartbeats 4000000 in
set_option maxRecDepth 100000 in
theorem CX4_pass (l : Launch) (D : va_G) (aμ : Nat → Nat) (μ : MDS) (x1 : Int32) (r0 : Int32) (μ0 : MDS) (hF : FX4_pass μ x1 = some (r0, μ0)) : Ct l D yX4_pass cX4_pass 2 (some .int) rmX4_pass 0 0 [.ref (aμ 0), .int x1] (mdW D aμ μ) (fun v w => v = some (.int r0) ∧ w = mdW D aμ μ0) := by
  refine Ct.of (own := RX4) (lv := [(0, .ref (aμ 0)), (1, .int x1)]) (by decide +kernel) rfl (Nat.le_of_ble_eq_true rfl) rfl (fun X h hr => ?_)
  unfold FX4_pass at hF
  refine r_aload_n h 0 rfl rfl dX4_pass_0 ?_
  refine r_iload_n h 1 rfl rfl dX4_pass_1 ?_
  refine r_iconst (v := 1) h dX4_pass_2 (by decide) ?_
  refine r_bipush (v := 99) h dX4_pass_3 (by decide) ?_
  obtain ⟨z1, e2, hF⟩ := o_bind hF
  refine r_callSp (rest := [.ref (aμ 0)]) h hd_X4_in wm_763 dX4_pass_5 (CX4_in l D x1 (1 : Int32) (99 : Int32) z1 e2) rfl ⟨rfl, rfl⟩ ⟨by decide, by decide⟩ (Nat.le_of_ble_eq_true rfl) ⟨by decide, by decide⟩ rfl ?_
  have hJ35 : ∀ (b6_0 : Int32), FX4_pass_J35 μ x1 b6_0 = some (r0, μ0) → J X l rmX4_pass D 2 0 0 (mdW D aμ μ) [(0, .ref (aμ 0)), (1, .int x1)] 35 [.int b6_0, .ref (aμ 0)] := by
    intro b6_0 hF
    unfold FX4_pass_J35 at hF
    obtain ⟨z7, e8, hF⟩ := o_bind hF
    refine r_callVa (q0 := 0) (rest := []) h hd_X4_refused wm_752 dX4_pass_35 (CX4_refused l D aμ μ b6_0 z7.1 z7.2 e8) rfl rfl rfl ⟨rfl, rfl⟩ ⟨by decide, by decide⟩ (Nat.le_of_ble_eq_true rfl) ⟨by decide, by decide⟩ rfl (fun v w' hp => ?_)
    obtain ⟨rfl, rfl⟩ := hp
    refine r_if_eq h 43 dX4_pass_38 (by decide) (fun c9 => ?_) (fun c9 => ?_)
    · replace hF := o_pos c9 hF
      refine r_aload_n h 0 rfl rfl dX4_pass_43 ?_
      obtain ⟨z10, e11, hF⟩ := o_bind hF
      refine r_callVa (q0 := 0) (rest := []) h hd_X4_saves wm_770 dX4_pass_44 (CX4_saves l D aμ z7.2 z10 e11) rfl rfl rfl ⟨rfl, rfl⟩ ⟨by decide, by decide⟩ (Nat.le_of_ble_eq_true rfl) ⟨by decide, by decide⟩ rfl (fun v w' hp => ?_)
      obtain ⟨rfl, rfl⟩ := hp
      refine r_aload_n h 0 rfl rfl dX4_pass_47 ?_
      refine r_get h fl_X4_7 0 rfl rfl dX4_pass_48 ?_
      refine r_bipush (v := 12) h dX4_pass_51 (by decide) ?_
      refine r_dup2 h rfl rfl dX4_pass_53 ?_
      obtain ⟨hN, hF⟩ := o_gd hF
      refine r_iald h 1 rfl hN dX4_pass_54 ?_
      refine r_iload_n h 1 rfl rfl dX4_pass_55 ?_
      refine r_iadd h dX4_pass_56 ?_
      obtain ⟨u12, hu12, hF⟩ := o_nm hF
      refine J.top hu12 ?_
      obtain ⟨hN, hF⟩ := o_gd hF
      obtain ⟨fw13, hfw13, hF⟩ := o_nm hF
      refine r_iast (ws' := mdW D aμ (fw13, z10.2.1, z10.2.2.1, z10.2.2.2.1, z10.2.2.2.2.1, z10.2.2.2.2.2.1, z10.2.2.2.2.2.2.1, z10.2.2.2.2.2.2.2.1, z10.2.2.2.2.2.2.2.2.1, z10.2.2.2.2.2.2.2.2.2.1, z10.2.2.2.2.2.2.2.2.2.2.1, z10.2.2.2.2.2.2.2.2.2.2.2.1, z10.2.2.2.2.2.2.2.2.2.2.2.2)) h 1 rfl hN (by rw [hfw13]; rfl) dX4_pass_57 ?_
      refine r_aload_n h 0 rfl rfl dX4_pass_58 ?_
      refine r_get h fl_X4_7 0 rfl rfl dX4_pass_59 ?_
      refine r_bipush (v := 12) h dX4_pass_62 (by decide) ?_
      obtain ⟨hN, hF⟩ := o_gd hF
      refine r_iald h 1 rfl hN dX4_pass_64 ?_
      cases hF
      exact r_iret h hr dX4_pass_65 ⟨rfl, rfl⟩
    · replace hF := o_neg c9 hF
      refine r_iconst (v := 0) h dX4_pass_41 (by decide) ?_
      cases hF
      exact r_iret h hr dX4_pass_42 ⟨rfl, rfl⟩
  refine r_if_ne h 15 dX4_pass_8 (by decide) (fun c3 => ?_) (fun c3 => ?_)
  · replace hF := o_neg c3 hF
    refine r_aload_n h 0 rfl rfl dX4_pass_15 ?_
    refine r_get h fl_X4_7 0 rfl rfl dX4_pass_16 ?_
    refine r_bipush (v := 12) h dX4_pass_19 (by decide) ?_
    obtain ⟨hN, hF⟩ := o_gd hF
    refine r_iald h 1 rfl hN dX4_pass_21 ?_
    refine r_iload_n h 1 rfl rfl dX4_pass_22 ?_
    refine r_iadd h dX4_pass_23 ?_
    obtain ⟨u4, hu4, hF⟩ := o_nm hF
    refine J.top hu4 ?_
    refine r_sipush (v := 2000) h dX4_pass_24 (by decide) ?_
    refine r_icmp_le h 34 dX4_pass_27 (by decide) (fun c5 => ?_) (fun c5 => ?_)
    · replace hF := o_pos c5 hF
      refine r_iconst (v := 0) h dX4_pass_34 (by decide) ?_
      exact J.loc (lv' := [(0, .ref (aμ 0)), (1, .int x1)]) [0, 1] rfl (hJ35 (0 : Int32) hF)
    · replace hF := o_neg c5 hF
      refine r_iconst (v := 2) h dX4_pass_30 (by decide) ?_
      refine r_goto h 35 dX4_pass_31 (by decide) ?_
      exact J.loc (lv' := [(0, .ref (aμ 0)), (1, .int x1)]) [0, 1] rfl (hJ35 (2 : Int32) hF)
  · replace hF := o_pos c3 hF
    refine r_iconst (v := 1) h dX4_pass_11 (by decide) ?_
    refine r_goto h 35 dX4_pass_12 (by decide) ?_
    exact J.loc (lv' := [(0, .ref (aμ 0)), (1, .int x1)]) [0, 1] rfl (hJ35 (1 : Int32) hF)

def FX4_isFrozen_L4 (μ : MDS) (x1 : Int32) (K : Int32 → Int32 → Option (Int32)) : Nat → Int32 → Int32 → Option (Int32)
  | 0, _, _ => none
  | n + 1, y1_3, y1_2 =>
  gd (¬ ((15 : Int32) < 0 ∨ 219 ≤ ((15 : Int32)).toNatClampNeg)) (
  if (μ.1 ((15 : Int32)).toNatClampNeg) ≤ y1_3 then
  (K y1_3 y1_2)
else
  (nmv ((121 : Int32) + ((3 : Int32) * y1_3)) fun u3 =>
  if y1_2 = 0 then
  (gd (¬ (u3 < 0 ∨ 219 ≤ (u3).toNatClampNeg)) (
  (FX4_of μ x1 (3 : Int32)).bind fun z5 =>
  if (μ.1 (u3).toNatClampNeg) = z5 then
  (gd (¬ ((12 : Int32) < 0 ∨ 219 ≤ ((12 : Int32)).toNatClampNeg)) (
  gd (¬ ((u3 + (1 : Int32)) < 0 ∨ 219 ≤ (u3 + (1 : Int32)).toNatClampNeg)) (
  nmv (μ.1 (u3 + (1 : Int32)).toNatClampNeg) fun u8 =>
  gd (¬ ((u3 + (1 : Int32)) < 0 ∨ 219 ≤ (u3 + (1 : Int32)).toNatClampNeg)) (
  nmv (μ.1 (u3 + (1 : Int32)).toNatClampNeg) fun u9 =>
  gd (¬ ((u3 + (2 : Int32)) < 0 ∨ 219 ≤ (u3 + (2 : Int32)).toNatClampNeg)) (
  nmv (μ.1 (u3 + (2 : Int32)).toNatClampNeg) fun u10 =>
  (FX4_in (μ.1 ((12 : Int32)).toNatClampNeg) u8 ((u9 + u10) - (1 : Int32))).bind fun z11 =>
  if z11 = 0 then
  (FX4_isFrozen_L4 μ x1 K n (y1_3 + 1) (0 : Int32))
else
  (FX4_isFrozen_L4 μ x1 K n (y1_3 + 1) (1 : Int32)))))))
else
  (FX4_isFrozen_L4 μ x1 K n (y1_3 + 1) (0 : Int32))))
else
  (FX4_isFrozen_L4 μ x1 K n (y1_3 + 1) (1 : Int32))))
def FX4_isFrozen (μ : MDS) (x1 : Int32) : Option (Int32) :=
  FX4_isFrozen_L4 μ x1 (fun (y1_3 : Int32) (y1_2 : Int32) =>
  gd (y1_2 = 0 ∨ y1_2 = 1) (
  some y1_2)) FU (0 : Int32) (0 : Int32)
abbrev rmX4_isFrozen : Room := { frames := 1, cells := 0, slots := 0, locals := 22 }
set_option maxHeartbeats 4000000 in
set_option maxRecDepth 100000 in
theorem CX4_isFrozen (l : Launch) (D : va_G) (aμ : Nat → Nat) (μ : MDS) (x1 : Int32) (r0 : Int32) (hF : FX4_isFrozen μ x1 = some r0) : Ct l D yX4_isFrozen cX4_isFrozen 5 (some .boolean) rmX4_isFrozen 0 0 [.ref (aμ 0), .int x1] (mdW D aμ μ) (fun v w => v = some (.int r0) ∧ w = mdW D aμ μ) := by
  refine Ct.of (own := RX4) (lv := [(0, .ref (aμ 0)), (1, .int x1)]) (by decide +kernel) rfl (Nat.le_of_ble_eq_true rfl) rfl (fun X h hr => ?_)
  unfold FX4_isFrozen at hF
  refine r_iconst (v := 0) h dX4_isFrozen_0 (by decide) ?_
  refine r_istore_n (lv' := [(2, .int (0 : Int32)), (0, .ref (aμ 0)), (1, .int x1)]) h rfl dX4_isFrozen_1 (by decide) rfl ?_
  refine r_iconst (v := 0) h dX4_isFrozen_2 (by decide) ?_
  refine r_istore_n (lv' := [(3, .int (0 : Int32)), (2, .int (0 : Int32)), (0, .ref (aμ 0)), (1, .int x1)]) h rfl dX4_isFrozen_3 (by decide) rfl ?_
  have hL4 : ∀ (K : Int32 → Int32 → Option (Int32)) (hK : ∀ (y1_3 : Int32) (y1_2 : Int32), K y1_3 y1_2 = some r0 → J X l rmX4_isFrozen D 5 0 0 (mdW D aμ μ) [(3, .int y1_3), (2, .int y1_2), (0, .ref (aμ 0)), (1, .int x1)] 98 []) (N : Nat), ∀ (y1_3 : Int32) (y1_2 : Int32), FX4_isFrozen_L4 μ x1 K N y1_3 y1_2 = some r0 → J X l rmX4_isFrozen D 5 0 0 (mdW D aμ μ) [(3, .int y1_3), (2, .int y1_2), (0, .ref (aμ 0)), (1, .int x1)] 4 [] := by
    intro K hK N
    induction N with
    | zero =>
      intro y1_3 y1_2 hF
      cases hF
    | succ N ih =>
      intro y1_3 y1_2 hF
      rw [FX4_isFrozen_L4] at hF
      refine r_iload_n h 0 rfl rfl dX4_isFrozen_4 ?_
      refine r_aload_n h 2 rfl rfl dX4_isFrozen_5 ?_
      refine r_get h fl_X4_7 0 rfl rfl dX4_isFrozen_6 ?_
      refine r_bipush (v := 15) h dX4_isFrozen_9 (by decide) ?_
      obtain ⟨hN, hF⟩ := o_gd hF
      refine r_iald h 1 rfl hN dX4_isFrozen_11 ?_
      refine r_icmp_ge h 98 dX4_isFrozen_12 (by decide) (fun c2 => ?_) (fun c2 => ?_)
      · replace hF := o_pos c2 hF
        exact J.loc (lv' := [(3, .int y1_3), (2, .int y1_2), (0, .ref (aμ 0)), (1, .int x1)]) [0, 1, 2, 3] rfl (hK y1_3 y1_2 hF)
      · replace hF := o_neg c2 hF
        refine r_bipush (v := 121) h dX4_isFrozen_15 (by decide) ?_
        refine r_iconst (v := 3) h dX4_isFrozen_17 (by decide) ?_
        refine r_iload_n h 0 rfl rfl dX4_isFrozen_18 ?_
        refine r_imul h dX4_isFrozen_19 ?_
        refine r_iadd h dX4_isFrozen_20 ?_
        obtain ⟨u3, hu3, hF⟩ := o_nm hF
        refine J.top hu3 ?_
        refine r_istore (lv' := [(4, .int u3), (3, .int y1_3), (2, .int y1_2), (0, .ref (aμ 0)), (1, .int x1)]) h dX4_isFrozen_21 (by decide) rfl ?_
        refine r_iload_n h 2 rfl rfl dX4_isFrozen_23 ?_
        refine r_if_ne h 86 dX4_isFrozen_24 (by decide) (fun c4 => ?_) (fun c4 => ?_)
        · replace hF := o_neg c4 hF
          refine r_iconst (v := 1) h dX4_isFrozen_86 (by decide) ?_
          refine r_goto h 91 dX4_isFrozen_87 (by decide) ?_
          refine r_istore_n (lv' := [(2, .int (1 : Int32)), (4, .int u3), (3, .int y1_3), (0, .ref (aμ 0)), (1, .int x1)]) h rfl dX4_isFrozen_91 (by decide) rfl ?_
          refine r_iinc (lv' := [(3, .int (y1_3 + 1)), (2, .int (1 : Int32)), (4, .int u3), (0, .ref (aμ 0)), (1, .int x1)]) h 2 rfl (congrArg (fun z => y1_3 + z) (by decide : Int32.ofInt 1 = 1)) dX4_isFrozen_92 (by decide) rfl ?_
          refine r_goto h 4 dX4_isFrozen_95 (by decide) ?_
          exact J.loc (lv' := [(3, .int (y1_3 + 1)), (2, .int (1 : Int32)), (0, .ref (aμ 0)), (1, .int x1)]) [0, 1, 3, 4] rfl (ih (y1_3 + 1) (1 : Int32) hF)
        · replace hF := o_pos c4 hF
          refine r_aload_n h 3 rfl rfl dX4_isFrozen_27 ?_
          refine r_get h fl_X4_7 0 rfl rfl dX4_isFrozen_28 ?_
          refine r_iload h 0 rfl dX4_isFrozen_31 ?_
          obtain ⟨hN, hF⟩ := o_gd hF
          refine r_iald h 1 rfl hN dX4_isFrozen_33 ?_
          refine r_aload_n h 3 rfl rfl dX4_isFrozen_34 ?_
          refine r_iload_n h 4 rfl rfl dX4_isFrozen_35 ?_
          refine r_iconst (v := 3) h dX4_isFrozen_36 (by decide) ?_
          obtain ⟨z5, e6, hF⟩ := o_bind hF
          refine r_callVa (q0 := 0) (rest := [.int (μ.1 (u3).toNatClampNeg)]) h hd_X4_of wm_837 dX4_isFrozen_37 (CX4_of l D aμ μ x1 (3 : Int32) z5 e6) rfl rfl rfl ⟨rfl, rfl⟩ ⟨by decide, by decide⟩ (Nat.le_of_ble_eq_true rfl) ⟨by decide, by decide⟩ rfl (fun v w' hp => ?_)
          obtain ⟨rfl, rfl⟩ := hp
          refine r_icmp_ne h 90 dX4_isFrozen_40 (by decide) (fun c7 => ?_) (fun c7 => ?_)
          · replace hF := o_neg c7 hF
            refine r_iconst (v := 0) h dX4_isFrozen_90 (by decide) ?_
            refine r_istore_n (lv' := [(2, .int (0 : Int32)), (4, .int u3), (3, .int y1_3), (0, .ref (aμ 0)), (1, .int x1)]) h rfl dX4_isFrozen_91 (by decide) rfl ?_
            refine r_iinc (lv' := [(3, .int (y1_3 + 1)), (2, .int (0 : Int32)), (4, .int u3), (0, .ref (aμ 0)), (1, .int x1)]) h 2 rfl (congrArg (fun z => y1_3 + z) (by decide : Int32.ofInt 1 = 1)) dX4_isFrozen_92 (by decide) rfl ?_
            refine r_goto h 4 dX4_isFrozen_95 (by decide) ?_
            exact J.loc (lv' := [(3, .int (y1_3 + 1)), (2, .int (0 : Int32)), (0, .ref (aμ 0)), (1, .int x1)]) [0, 1, 3, 4] rfl (ih (y1_3 + 1) (0 : Int32) hF)
          · replace hF := o_pos c7 hF
            refine r_aload_n h 3 rfl rfl dX4_isFrozen_43 ?_
            refine r_get h fl_X4_7 0 rfl rfl dX4_isFrozen_44 ?_
            refine r_bipush (v := 12) h dX4_isFrozen_47 (by decide) ?_
            obtain ⟨hN, hF⟩ := o_gd hF
            refine r_iald h 1 rfl hN dX4_isFrozen_49 ?_
            refine r_aload_n h 3 rfl rfl dX4_isFrozen_50 ?_
            refine r_get h fl_X4_7 0 rfl rfl dX4_isFrozen_51 ?_
            refine r_iload h 0 rfl dX4_isFrozen_54 ?_
            refine r_iconst (v := 1) h dX4_isFrozen_56 (by decide) ?_
            refine r_iadd h dX4_isFrozen_57 ?_
            obtain ⟨hN, hF⟩ := o_gd hF
            refine r_iald h 1 rfl hN dX4_isFrozen_58 ?_
            obtain ⟨u8, hu8, hF⟩ := o_nm hF
            refine J.top hu8 ?_
            refine r_aload_n h 3 rfl rfl dX4_isFrozen_59 ?_
            refine r_get h fl_X4_7 0 rfl rfl dX4_isFrozen_60 ?_
            refine r_iload h 0 rfl dX4_isFrozen_63 ?_
            refine r_iconst (v := 1) h dX4_isFrozen_65 (by decide) ?_
            refine r_iadd h dX4_isFrozen_66 ?_
            obtain ⟨hN, hF⟩ := o_gd hF
            refine r_iald h 1 rfl hN dX4_isFrozen_67 ?_
            obtain ⟨u9, hu9, hF⟩ := o_nm hF
            refine J.top hu9 ?_
            refine r_aload_n h 3 rfl rfl dX4_isFrozen_68 ?_
            refine r_get h fl_X4_7 0 rfl rfl dX4_isFrozen_69 ?_
            refine r_iload h 0 rfl dX4_isFrozen_72 ?_
            refine r_iconst (v := 2) h dX4_isFrozen_74 (by decide) ?_
            refine r_iadd h dX4_isFrozen_75 ?_
            obtain ⟨hN, hF⟩ := o_gd hF
            refine r_iald h 1 rfl hN dX4_isFrozen_76 ?_
            obtain ⟨u10, hu10, hF⟩ := o_nm hF
            refine J.top hu10 ?_
            refine r_iadd h dX4_isFrozen_77 ?_
            refine r_iconst (v := 1) h dX4_isFrozen_78 (by decide) ?_
            refine r_isub h dX4_isFrozen_79 ?_
            obtain ⟨z11, e12, hF⟩ := o_bind hF
            refine r_callSp (rest := []) h hd_X4_in wm_763 dX4_isFrozen_80 (CX4_in l D (μ.1 ((12 : Int32)).toNatClampNeg) u8 ((u9 + u10) - (1 : Int32)) z11 e12) rfl ⟨rfl, rfl⟩ ⟨by decide, by decide⟩ (Nat.le_of_ble_eq_true rfl) ⟨by decide, by decide⟩ rfl ?_
            refine r_if_eq h 90 dX4_isFrozen_83 (by decide) (fun c13 => ?_) (fun c13 => ?_)
            · replace hF := o_pos c13 hF
              refine r_iconst (v := 0) h dX4_isFrozen_90 (by decide) ?_
              refine r_istore_n (lv' := [(2, .int (0 : Int32)), (4, .int u3), (3, .int y1_3), (0, .ref (aμ 0)), (1, .int x1)]) h rfl dX4_isFrozen_91 (by decide) rfl ?_
              refine r_iinc (lv' := [(3, .int (y1_3 + 1)), (2, .int (0 : Int32)), (4, .int u3), (0, .ref (aμ 0)), (1, .int x1)]) h 2 rfl (congrArg (fun z => y1_3 + z) (by decide : Int32.ofInt 1 = 1)) dX4_isFrozen_92 (by decide) rfl ?_
              refine r_goto h 4 dX4_isFrozen_95 (by decide) ?_
              exact J.loc (lv' := [(3, .int (y1_3 + 1)), (2, .int (0 : Int32)), (0, .ref (aμ 0)), (1, .int x1)]) [0, 1, 3, 4] rfl (ih (y1_3 + 1) (0 : Int32) hF)
            · replace hF := o_neg c13 hF
              refine r_iconst (v := 1) h dX4_isFrozen_86 (by decide) ?_
              refine r_goto h 91 dX4_isFrozen_87 (by decide) ?_
              refine r_istore_n (lv' := [(2, .int (1 : Int32)), (4, .int u3), (3, .int y1_3), (0, .ref (aμ 0)), (1, .int x1)]) h rfl dX4_isFrozen_91 (by decide) rfl ?_
              refine r_iinc (lv' := [(3, .int (y1_3 + 1)), (2, .int (1 : Int32)), (4, .int u3), (0, .ref (aμ 0)), (1, .int x1)]) h 2 rfl (congrArg (fun z => y1_3 + z) (by decide : Int32.ofInt 1 = 1)) dX4_isFrozen_92 (by decide) rfl ?_
              refine r_goto h 4 dX4_isFrozen_95 (by decide) ?_
              exact J.loc (lv' := [(3, .int (y1_3 + 1)), (2, .int (1 : Int32)), (0, .ref (aμ 0)), (1, .int x1)]) [0, 1, 3, 4] rfl (ih (y1_3 + 1) (1 : Int32) hF)
  refine hL4 _ (fun y1_3 y1_2 hF => ?_) _ (0 : Int32) (0 : Int32) hF
  refine r_iload_n h 1 rfl rfl dX4_isFrozen_98 ?_
  obtain ⟨hN, hF⟩ := o_gd hF
  cases hF
  exact r_zret h hr hN dX4_isFrozen_99 ⟨rfl, rfl⟩

def FX4_cablesOf_L4 (μ : MDS) (x1 : Int32) (K : Int32 → Int32 → Option (Int32)) : Nat → Int32 → Int32 → Option (Int32)
  | 0, _, _ => none
  | n + 1, y1_3, y1_2 =>
  gd (¬ ((14 : Int32) < 0 ∨ 219 ≤ ((14 : Int32)).toNatClampNeg)) (
  if (μ.1 ((14 : Int32)).toNatClampNeg) ≤ y1_3 then
  (K y1_3 y1_2)
else
  (nmv ((91 : Int32) + ((3 : Int32) * y1_3)) fun u3 =>
  gd (¬ (u3 < 0 ∨ 219 ≤ (u3).toNatClampNeg)) (
  if (μ.1 (u3).toNatClampNeg) = x1 then
  (FX4_cablesOf_L4 μ x1 K n (y1_3 + 1) (y1_2 + (1 : Int32)))
else
  (nmv ((91 : Int32) + ((3 : Int32) * y1_3)) fun u5 =>
  gd (¬ ((u5 + (1 : Int32)) < 0 ∨ 219 ≤ (u5 + (1 : Int32)).toNatClampNeg)) (
  nmv (μ.1 (u5 + (1 : Int32)).toNatClampNeg) fun u6 =>
  if u6 = x1 then
  (FX4_cablesOf_L4 μ x1 K n (y1_3 + 1) (y1_2 + (1 : Int32)))
else
  (FX4_cablesOf_L4 μ x1 K n (y1_3 + 1) (y1_2 + (0 : Int32))))))))
def FX4_cablesOf (μ : MDS) (x1 : Int32) : Option (Int32) :=
  FX4_cablesOf_L4 μ x1 (fun (y1_3 : Int32) (y1_2 : Int32) =>
  some y1_2) FU (0 : Int32) (0 : Int32)
abbrev rmX4_cablesOf : Room := { frames := 0, cells := 0, slots := 0, locals := 0 }
set_option maxHeartbeats 4000000 in
set_option maxRecDepth 100000 in
theorem CX4_cablesOf (l : Launch) (D : va_G) (aμ : Nat → Nat) (μ : MDS) (x1 : Int32) (r0 : Int32) (hF : FX4_cablesOf μ x1 = some r0) : Ct l D yX4_cablesOf cX4_cablesOf 4 (some .int) rmX4_cablesOf 0 0 [.ref (aμ 0), .int x1] (mdW D aμ μ) (fun v w => v = some (.int r0) ∧ w = mdW D aμ μ) := by
  refine Ct.of (own := RX4) (lv := [(0, .ref (aμ 0)), (1, .int x1)]) (by decide +kernel) rfl (Nat.le_of_ble_eq_true rfl) rfl (fun X h hr => ?_)
  unfold FX4_cablesOf at hF
  refine r_iconst (v := 0) h dX4_cablesOf_0 (by decide) ?_
  refine r_istore_n (lv' := [(2, .int (0 : Int32)), (0, .ref (aμ 0)), (1, .int x1)]) h rfl dX4_cablesOf_1 (by decide) rfl ?_
  refine r_iconst (v := 0) h dX4_cablesOf_2 (by decide) ?_
  refine r_istore_n (lv' := [(3, .int (0 : Int32)), (2, .int (0 : Int32)), (0, .ref (aμ 0)), (1, .int x1)]) h rfl dX4_cablesOf_3 (by decide) rfl ?_
  have hL4 : ∀ (K : Int32 → Int32 → Option (Int32)) (hK : ∀ (y1_3 : Int32) (y1_2 : Int32), K y1_3 y1_2 = some r0 → J X l rmX4_cablesOf D 4 0 0 (mdW D aμ μ) [(3, .int y1_3), (2, .int y1_2), (0, .ref (aμ 0)), (1, .int x1)] 61 []) (N : Nat), ∀ (y1_3 : Int32) (y1_2 : Int32), FX4_cablesOf_L4 μ x1 K N y1_3 y1_2 = some r0 → J X l rmX4_cablesOf D 4 0 0 (mdW D aμ μ) [(3, .int y1_3), (2, .int y1_2), (0, .ref (aμ 0)), (1, .int x1)] 4 [] := by
    intro K hK N
    induction N with
    | zero =>
      intro y1_3 y1_2 hF
      cases hF
    | succ N ih =>
      intro y1_3 y1_2 hF
      rw [FX4_cablesOf_L4] at hF
      refine r_iload_n h 0 rfl rfl dX4_cablesOf_4 ?_
      refine r_aload_n h 2 rfl rfl dX4_cablesOf_5 ?_
      refine r_get h fl_X4_7 0 rfl rfl dX4_cablesOf_6 ?_
      refine r_bipush (v := 14) h dX4_cablesOf_9 (by decide) ?_
      obtain ⟨hN, hF⟩ := o_gd hF
      refine r_iald h 1 rfl hN dX4_cablesOf_11 ?_
      refine r_icmp_ge h 61 dX4_cablesOf_12 (by decide) (fun c2 => ?_) (fun c2 => ?_)
      · replace hF := o_pos c2 hF
        exact J.loc (lv' := [(3, .int y1_3), (2, .int y1_2), (0, .ref (aμ 0)), (1, .int x1)]) [0, 1, 2, 3] rfl (hK y1_3 y1_2 hF)
      · replace hF := o_neg c2 hF
        refine r_iload_n h 1 rfl rfl dX4_cablesOf_15 ?_
        refine r_aload_n h 2 rfl rfl dX4_cablesOf_16 ?_
        refine r_get h fl_X4_7 0 rfl rfl dX4_cablesOf_17 ?_
        refine r_bipush (v := 91) h dX4_cablesOf_20 (by decide) ?_
        refine r_iconst (v := 3) h dX4_cablesOf_22 (by decide) ?_
        refine r_iload_n h 0 rfl rfl dX4_cablesOf_23 ?_
        refine r_imul h dX4_cablesOf_24 ?_
        refine r_iadd h dX4_cablesOf_25 ?_
        obtain ⟨u3, hu3, hF⟩ := o_nm hF
        refine J.top hu3 ?_
        obtain ⟨hN, hF⟩ := o_gd hF
        refine r_iald h 1 rfl hN dX4_cablesOf_26 ?_
        refine r_iload_n h 3 rfl rfl dX4_cablesOf_27 ?_
        refine r_icmp_eq h 48 dX4_cablesOf_28 (by decide) (fun c4 => ?_) (fun c4 => ?_)
        · replace hF := o_pos c4 hF
          refine r_iconst (v := 1) h dX4_cablesOf_48 (by decide) ?_
          refine r_goto h 53 dX4_cablesOf_49 (by decide) ?_
          refine r_iadd h dX4_cablesOf_53 ?_
          refine r_istore_n (lv' := [(2, .int (y1_2 + (1 : Int32))), (3, .int y1_3), (0, .ref (aμ 0)), (1, .int x1)]) h rfl dX4_cablesOf_54 (by decide) rfl ?_
          refine r_iinc (lv' := [(3, .int (y1_3 + 1)), (2, .int (y1_2 + (1 : Int32))), (0, .ref (aμ 0)), (1, .int x1)]) h 1 rfl (congrArg (fun z => y1_3 + z) (by decide : Int32.ofInt 1 = 1)) dX4_cablesOf_55 (by decide) rfl ?_
          refine r_goto h 4 dX4_cablesOf_58 (by decide) ?_
          exact J.loc (lv' := [(3, .int (y1_3 + 1)), (2, .int (y1_2 + (1 : Int32))), (0, .ref (aμ 0)), (1, .int x1)]) [0, 1, 2, 3] rfl (ih (y1_3 + 1) (y1_2 + (1 : Int32)) hF)
        · replace hF := o_neg c4 hF
          refine r_aload_n h 2 rfl rfl dX4_cablesOf_31 ?_
          refine r_get h fl_X4_7 0 rfl rfl dX4_cablesOf_32 ?_
          refine r_bipush (v := 91) h dX4_cablesOf_35 (by decide) ?_
          refine r_iconst (v := 3) h dX4_cablesOf_37 (by decide) ?_
          refine r_iload_n h 0 rfl rfl dX4_cablesOf_38 ?_
          refine r_imul h dX4_cablesOf_39 ?_
          refine r_iadd h dX4_cablesOf_40 ?_
          obtain ⟨u5, hu5, hF⟩ := o_nm hF
          refine J.top hu5 ?_
          refine r_iconst (v := 1) h dX4_cablesOf_41 (by decide) ?_
          refine r_iadd h dX4_cablesOf_42 ?_
          obtain ⟨hN, hF⟩ := o_gd hF
          refine r_iald h 1 rfl hN dX4_cablesOf_43 ?_
          obtain ⟨u6, hu6, hF⟩ := o_nm hF
          refine J.top hu6 ?_
          refine r_iload_n h 3 rfl rfl dX4_cablesOf_44 ?_
          refine r_icmp_ne h 52 dX4_cablesOf_45 (by decide) (fun c7 => ?_) (fun c7 => ?_)
          · replace hF := o_neg c7 hF
            refine r_iconst (v := 0) h dX4_cablesOf_52 (by decide) ?_
            refine r_iadd h dX4_cablesOf_53 ?_
            refine r_istore_n (lv' := [(2, .int (y1_2 + (0 : Int32))), (3, .int y1_3), (0, .ref (aμ 0)), (1, .int x1)]) h rfl dX4_cablesOf_54 (by decide) rfl ?_
            refine r_iinc (lv' := [(3, .int (y1_3 + 1)), (2, .int (y1_2 + (0 : Int32))), (0, .ref (aμ 0)), (1, .int x1)]) h 1 rfl (congrArg (fun z => y1_3 + z) (by decide : Int32.ofInt 1 = 1)) dX4_cablesOf_55 (by decide) rfl ?_
            refine r_goto h 4 dX4_cablesOf_58 (by decide) ?_
            exact J.loc (lv' := [(3, .int (y1_3 + 1)), (2, .int (y1_2 + (0 : Int32))), (0, .ref (aμ 0)), (1, .int x1)]) [0, 1, 2, 3] rfl (ih (y1_3 + 1) (y1_2 + (0 : Int32)) hF)
          · replace hF := o_pos c7 hF
            refine r_iconst (v := 1) h dX4_cablesOf_48 (by decide) ?_
            refine r_goto h 53 dX4_cablesOf_49 (by decide) ?_
            refine r_iadd h dX4_cablesOf_53 ?_
            refine r_istore_n (lv' := [(2, .int (y1_2 + (1 : Int32))), (3, .int y1_3), (0, .ref (aμ 0)), (1, .int x1)]) h rfl dX4_cablesOf_54 (by decide) rfl ?_
            refine r_iinc (lv' := [(3, .int (y1_3 + 1)), (2, .int (y1_2 + (1 : Int32))), (0, .ref (aμ 0)), (1, .int x1)]) h 1 rfl (congrArg (fun z => y1_3 + z) (by decide : Int32.ofInt 1 = 1)) dX4_cablesOf_55 (by decide) rfl ?_
            refine r_goto h 4 dX4_cablesOf_58 (by decide) ?_
            exact J.loc (lv' := [(3, .int (y1_3 + 1)), (2, .int (y1_2 + (1 : Int32))), (0, .ref (aμ 0)), (1, .int x1)]) [0, 1, 2, 3] rfl (ih (y1_3 + 1) (y1_2 + (1 : Int32)) hF)
  refine hL4 _ (fun y1_3 y1_2 hF => ?_) _ (0 : Int32) (0 : Int32) hF
  refine r_iload_n h 1 rfl rfl dX4_cablesOf_61 ?_
  cases hF
  exact r_iret h hr dX4_cablesOf_62 ⟨rfl, rfl⟩

def FX4_tellMachine (μ : MDS) (x1 : Int32) (x2 : Int32) : Option (Int32) :=
  if (6 : Int32) ≤ x2 then
  (if x2 = (6 : Int32) then
  ((FX4_isFrozen μ x1).bind fun z5 =>
  if z5 = 0 then
  (some (0 : Int32))
else
  (some (1 : Int32)))
else
  ((FX4_cablesOf μ x1).bind fun z3 =>
  some z3))
else
  ((FX4_of μ x1 x2).bind fun z8 =>
  some z8)
abbrev rmX4_tellMachine : Room := { frames := 2, cells := 0, slots := 0, locals := 46 }
set_option maxHeartbeats 4000000 in
set_option maxRecDepth 100000 in
theorem CX4_tellMachine (l : Launch) (D : va_G) (aμ : Nat → Nat) (μ : MDS) (x1 : Int32) (x2 : Int32) (r0 : Int32) (hF : FX4_tellMachine μ x1 x2 = some r0) : Ct l D yX4_tellMachine cX4_tellMachine 3 (some .int) rmX4_tellMachine 0 0 [.ref (aμ 0), .int x1, .int x2] (mdW D aμ μ) (fun v w => v = some (.int r0) ∧ w = mdW D aμ μ) := by
  refine Ct.of (own := RX4) (lv := [(0, .ref (aμ 0)), (1, .int x1), (2, .int x2)]) (by decide +kernel) rfl (Nat.le_of_ble_eq_true rfl) rfl (fun X h hr => ?_)
  unfold FX4_tellMachine at hF
  refine r_iload_n h 2 rfl rfl dX4_tellMachine_0 ?_
  refine r_bipush (v := 6) h dX4_tellMachine_1 (by decide) ?_
  refine r_icmp_ge h 15 dX4_tellMachine_3 (by decide) (fun c1 => ?_) (fun c1 => ?_)
  · replace hF := o_pos c1 hF
    refine r_iload_n h 2 rfl rfl dX4_tellMachine_15 ?_
    refine r_bipush (v := 6) h dX4_tellMachine_16 (by decide) ?_
    refine r_icmp_ne h 37 dX4_tellMachine_18 (by decide) (fun c2 => ?_) (fun c2 => ?_)
    · replace hF := o_neg c2 hF
      refine r_aload_n h 0 rfl rfl dX4_tellMachine_37 ?_
      refine r_iload_n h 1 rfl rfl dX4_tellMachine_38 ?_
      obtain ⟨z3, e4, hF⟩ := o_bind hF
      refine r_callVa (q0 := 0) (rest := []) h hd_X4_cablesOf wm_845 dX4_tellMachine_39 (CX4_cablesOf l D aμ μ x1 z3 e4) rfl rfl rfl ⟨rfl, rfl⟩ ⟨by decide, by decide⟩ (Nat.le_of_ble_eq_true rfl) ⟨by decide, by decide⟩ rfl (fun v w' hp => ?_)
      obtain ⟨rfl, rfl⟩ := hp
      cases hF
      exact r_iret h hr dX4_tellMachine_42 ⟨rfl, rfl⟩
    · replace hF := o_pos c2 hF
      refine r_aload_n h 0 rfl rfl dX4_tellMachine_21 ?_
      refine r_iload_n h 1 rfl rfl dX4_tellMachine_22 ?_
      obtain ⟨z5, e6, hF⟩ := o_bind hF
      refine r_callVa (q0 := 0) (rest := []) h hd_X4_isFrozen wm_841 dX4_tellMachine_23 (CX4_isFrozen l D aμ μ x1 z5 e6) rfl rfl rfl ⟨rfl, rfl⟩ ⟨by decide, by decide⟩ (Nat.le_of_ble_eq_true rfl) ⟨by decide, by decide⟩ rfl (fun v w' hp => ?_)
      obtain ⟨rfl, rfl⟩ := hp
      refine r_if_eq h 33 dX4_tellMachine_26 (by decide) (fun c7 => ?_) (fun c7 => ?_)
      · replace hF := o_pos c7 hF
        refine r_iconst (v := 0) h dX4_tellMachine_33 (by decide) ?_
        refine r_goto h 42 dX4_tellMachine_34 (by decide) ?_
        cases hF
        exact r_iret h hr dX4_tellMachine_42 ⟨rfl, rfl⟩
      · replace hF := o_neg c7 hF
        refine r_iconst (v := 1) h dX4_tellMachine_29 (by decide) ?_
        refine r_goto h 42 dX4_tellMachine_30 (by decide) ?_
        cases hF
        exact r_iret h hr dX4_tellMachine_42 ⟨rfl, rfl⟩
  · replace hF := o_neg c1 hF
    refine r_aload_n h 0 rfl rfl dX4_tellMachine_6 ?_
    refine r_iload_n h 1 rfl rfl dX4_tellMachine_7 ?_
    refine r_iload_n h 2 rfl rfl dX4_tellMachine_8 ?_
    obtain ⟨z8, e9, hF⟩ := o_bind hF
    refine r_callVa (q0 := 0) (rest := []) h hd_X4_of wm_837 dX4_tellMachine_9 (CX4_of l D aμ μ x1 x2 z8 e9) rfl rfl rfl ⟨rfl, rfl⟩ ⟨by decide, by decide⟩ (Nat.le_of_ble_eq_true rfl) ⟨by decide, by decide⟩ rfl (fun v w' hp => ?_)
    obtain ⟨rfl, rfl⟩ := hp
    refine r_goto h 42 dX4_tellMachine_12 (by decide) ?_
    cases hF
    exact r_iret h hr dX4_tellMachine_42 ⟨rfl, rfl⟩

def FX4_machine (μ : MDS) (x1 : Int32) (x2 : Int32) : Option (Int32 × MDS) :=
  (FX4_isMachine μ x1).bind fun z1 =>
  if z1 = 0 then
  ((FX4_refused μ (1 : Int32)).bind fun z17 =>
  if z17.1 = 0 then
  ((FX4_tellMachine z17.2 x1 x2).bind fun z20 =>
  some (z20, z17.2))
else
  (some ((0 : Int32), z17.2)))
else
  ((FX4_in x2 (0 : Int32) (7 : Int32)).bind fun z4 =>
  if z4 = 0 then
  ((FX4_refused μ (2 : Int32)).bind fun z7 =>
  if z7.1 = 0 then
  ((FX4_tellMachine z7.2 x1 x2).bind fun z10 =>
  some (z10, z7.2))
else
  (some ((0 : Int32), z7.2)))
else
  ((FX4_refused μ (0 : Int32)).bind fun z12 =>
  if z12.1 = 0 then
  ((FX4_tellMachine z12.2 x1 x2).bind fun z15 =>
  some (z15, z12.2))
else
  (some ((0 : Int32), z12.2))))
abbrev rmX4_machine : Room := { frames := 3, cells := 0, slots := 0, locals := 68 }
set_option maxHeartbeats 4000000 in
set_option maxRecDepth 100000 in
theorem CX4_machine (l : Launch) (D : va_G) (aμ : Nat → Nat) (μ : MDS) (x1 : Int32) (x2 : Int32) (r0 : Int32) (μ0 : MDS) (hF : FX4_machine μ x1 x2 = some (r0, μ0)) : Ct l D yX4_machine cX4_machine 3 (some .int) rmX4_machine 0 0 [.ref (aμ 0), .int x1, .int x2] (mdW D aμ μ) (fun v w => v = some (.int r0) ∧ w = mdW D aμ μ0) := by
  refine Ct.of (own := RX4) (lv := [(0, .ref (aμ 0)), (1, .int x1), (2, .int x2)]) (by decide +kernel) rfl (Nat.le_of_ble_eq_true rfl) rfl (fun X h hr => ?_)
  unfold FX4_machine at hF
  refine r_aload_n h 0 rfl rfl dX4_machine_0 ?_
  refine r_aload_n h 0 rfl rfl dX4_machine_1 ?_
  refine r_iload_n h 1 rfl rfl dX4_machine_2 ?_
  obtain ⟨z1, e2, hF⟩ := o_bind hF
  refine r_callVa (q0 := 0) (rest := [.ref (aμ 0)]) h hd_X4_isMachine wm_797 dX4_machine_3 (CX4_isMachine l D aμ μ x1 z1 e2) rfl rfl rfl ⟨rfl, rfl⟩ ⟨by decide, by decide⟩ (Nat.le_of_ble_eq_true rfl) ⟨by decide, by decide⟩ rfl (fun v w' hp => ?_)
  obtain ⟨rfl, rfl⟩ := hp
  refine r_if_ne h 13 dX4_machine_6 (by decide) (fun c3 => ?_) (fun c3 => ?_)
  · replace hF := o_neg c3 hF
    refine r_iload_n h 2 rfl rfl dX4_machine_13 ?_
    refine r_iconst (v := 0) h dX4_machine_14 (by decide) ?_
    refine r_bipush (v := 7) h dX4_machine_15 (by decide) ?_
    obtain ⟨z4, e5, hF⟩ := o_bind hF
    refine r_callSp (rest := [.ref (aμ 0)]) h hd_X4_in wm_763 dX4_machine_17 (CX4_in l D x2 (0 : Int32) (7 : Int32) z4 e5) rfl ⟨rfl, rfl⟩ ⟨by decide, by decide⟩ (Nat.le_of_ble_eq_true rfl) ⟨by decide, by decide⟩ rfl ?_
    refine r_if_eq h 27 dX4_machine_20 (by decide) (fun c6 => ?_) (fun c6 => ?_)
    · replace hF := o_pos c6 hF
      refine r_iconst (v := 2) h dX4_machine_27 (by decide) ?_
      obtain ⟨z7, e8, hF⟩ := o_bind hF
      refine r_callVa (q0 := 0) (rest := []) h hd_X4_refused wm_752 dX4_machine_28 (CX4_refused l D aμ μ (2 : Int32) z7.1 z7.2 e8) rfl rfl rfl ⟨rfl, rfl⟩ ⟨by decide, by decide⟩ (Nat.le_of_ble_eq_true rfl) ⟨by decide, by decide⟩ rfl (fun v w' hp => ?_)
      obtain ⟨rfl, rfl⟩ := hp
      refine r_if_eq h 38 dX4_machine_31 (by decide) (fun c9 => ?_) (fun c9 => ?_)
      · replace hF := o_pos c9 hF
        refine r_aload_n h 0 rfl rfl dX4_machine_38 ?_
        refine r_iload_n h 1 rfl rfl dX4_machine_39 ?_
        refine r_iload_n h 2 rfl rfl dX4_machine_40 ?_
        obtain ⟨z10, e11, hF⟩ := o_bind hF
        refine r_callVa (q0 := 0) (rest := []) h hd_X4_tellMachine wm_833 dX4_machine_41 (CX4_tellMachine l D aμ z7.2 x1 x2 z10 e11) rfl rfl rfl ⟨rfl, rfl⟩ ⟨by decide, by decide⟩ (Nat.le_of_ble_eq_true rfl) ⟨by decide, by decide⟩ rfl (fun v w' hp => ?_)
        obtain ⟨rfl, rfl⟩ := hp
        cases hF
        exact r_iret h hr dX4_machine_44 ⟨rfl, rfl⟩
      · replace hF := o_neg c9 hF
        refine r_iconst (v := 0) h dX4_machine_34 (by decide) ?_
        refine r_goto h 44 dX4_machine_35 (by decide) ?_
        cases hF
        exact r_iret h hr dX4_machine_44 ⟨rfl, rfl⟩
    · replace hF := o_neg c6 hF
      refine r_iconst (v := 0) h dX4_machine_23 (by decide) ?_
      refine r_goto h 28 dX4_machine_24 (by decide) ?_
      obtain ⟨z12, e13, hF⟩ := o_bind hF
      refine r_callVa (q0 := 0) (rest := []) h hd_X4_refused wm_752 dX4_machine_28 (CX4_refused l D aμ μ (0 : Int32) z12.1 z12.2 e13) rfl rfl rfl ⟨rfl, rfl⟩ ⟨by decide, by decide⟩ (Nat.le_of_ble_eq_true rfl) ⟨by decide, by decide⟩ rfl (fun v w' hp => ?_)
      obtain ⟨rfl, rfl⟩ := hp
      refine r_if_eq h 38 dX4_machine_31 (by decide) (fun c14 => ?_) (fun c14 => ?_)
      · replace hF := o_pos c14 hF
        refine r_aload_n h 0 rfl rfl dX4_machine_38 ?_
        refine r_iload_n h 1 rfl rfl dX4_machine_39 ?_
        refine r_iload_n h 2 rfl rfl dX4_machine_40 ?_
        obtain ⟨z15, e16, hF⟩ := o_bind hF
        refine r_callVa (q0 := 0) (rest := []) h hd_X4_tellMachine wm_833 dX4_machine_41 (CX4_tellMachine l D aμ z12.2 x1 x2 z15 e16) rfl rfl rfl ⟨rfl, rfl⟩ ⟨by decide, by decide⟩ (Nat.le_of_ble_eq_true rfl) ⟨by decide, by decide⟩ rfl (fun v w' hp => ?_)
        obtain ⟨rfl, rfl⟩ := hp
        cases hF
        exact r_iret h hr dX4_machine_44 ⟨rfl, rfl⟩
      · replace hF := o_neg c14 hF
        refine r_iconst (v := 0) h dX4_machine_34 (by decide) ?_
        refine r_goto h 44 dX4_machine_35 (by decide) ?_
        cases hF
        exact r_iret h hr dX4_machine_44 ⟨rfl, rfl⟩
  · replace hF := o_pos c3 hF
    refine r_iconst (v := 1) h dX4_machine_9 (by decide) ?_
    refine r_goto h 28 dX4_machine_10 (by decide) ?_
    obtain ⟨z17, e18, hF⟩ := o_bind hF
    refine r_callVa (q0 := 0) (rest := []) h hd_X4_refused wm_752 dX4_machine_28 (CX4_refused l D aμ μ (1 : Int32) z17.1 z17.2 e18) rfl rfl rfl ⟨rfl, rfl⟩ ⟨by decide, by decide⟩ (Nat.le_of_ble_eq_true rfl) ⟨by decide, by decide⟩ rfl (fun v w' hp => ?_)
    obtain ⟨rfl, rfl⟩ := hp
    refine r_if_eq h 38 dX4_machine_31 (by decide) (fun c19 => ?_) (fun c19 => ?_)
    · replace hF := o_pos c19 hF
      refine r_aload_n h 0 rfl rfl dX4_machine_38 ?_
      refine r_iload_n h 1 rfl rfl dX4_machine_39 ?_
      refine r_iload_n h 2 rfl rfl dX4_machine_40 ?_
      obtain ⟨z20, e21, hF⟩ := o_bind hF
      refine r_callVa (q0 := 0) (rest := []) h hd_X4_tellMachine wm_833 dX4_machine_41 (CX4_tellMachine l D aμ z17.2 x1 x2 z20 e21) rfl rfl rfl ⟨rfl, rfl⟩ ⟨by decide, by decide⟩ (Nat.le_of_ble_eq_true rfl) ⟨by decide, by decide⟩ rfl (fun v w' hp => ?_)
      obtain ⟨rfl, rfl⟩ := hp
      cases hF
      exact r_iret h hr dX4_machine_44 ⟨rfl, rfl⟩
    · replace hF := o_neg c19 hF
      refine r_iconst (v := 0) h dX4_machine_34 (by decide) ?_
      refine r_goto h 44 dX4_machine_35 (by decide) ?_
      cases hF
      exact r_iret h hr dX4_machine_44 ⟨rfl, rfl⟩

def FX4_load_L5 (μ : MDS) (x1 : Int32) (x2 : Int32) (K : Int32 → Int32 → Option (Int32)) : Nat → Int32 → Int32 → Option (Int32)
  | 0, _, _ => none
  | n + 1, y1_4, y1_3 =>
  gd (¬ ((13 : Int32) < 0 ∨ 219 ≤ ((13 : Int32)).toNatClampNeg)) (
  if (μ.1 ((13 : Int32)).toNatClampNeg) ≤ y1_4 then
  (K y1_4 y1_3)
else
  ((FX4_of μ y1_4 (4 : Int32)).bind fun z3 =>
  if z3 = (-1 : Int32) then
  (if (0 : Int32) = 0 then
  (FX4_load_L5 μ x1 x2 K n (y1_4 + 1) (y1_3 + (0 : Int32)))
else
  ((FX4_of μ y1_4 (1 : Int32)).bind fun z7 =>
  FX4_load_L5 μ x1 x2 K n (y1_4 + 1) (y1_3 + z7)))
else
  (if x1 = (-1 : Int32) then
  (if x2 = (-1 : Int32) then
  (if (1 : Int32) = 0 then
  (FX4_load_L5 μ x1 x2 K n (y1_4 + 1) (y1_3 + (0 : Int32)))
else
  ((FX4_of μ y1_4 (1 : Int32)).bind fun z12 =>
  FX4_load_L5 μ x1 x2 K n (y1_4 + 1) (y1_3 + z12)))
else
  ((FX4_of μ y1_4 (2 : Int32)).bind fun z14 =>
  if z14 = x2 then
  (if (1 : Int32) = 0 then
  (FX4_load_L5 μ x1 x2 K n (y1_4 + 1) (y1_3 + (0 : Int32)))
else
  ((FX4_of μ y1_4 (1 : Int32)).bind fun z21 =>
  FX4_load_L5 μ x1 x2 K n (y1_4 + 1) (y1_3 + z21)))
else
  (if (0 : Int32) = 0 then
  (FX4_load_L5 μ x1 x2 K n (y1_4 + 1) (y1_3 + (0 : Int32)))
else
  ((FX4_of μ y1_4 (1 : Int32)).bind fun z18 =>
  FX4_load_L5 μ x1 x2 K n (y1_4 + 1) (y1_3 + z18)))))
else
  ((FX4_of μ y1_4 (4 : Int32)).bind fun z23 =>
  if z23 = x1 then
  (if x2 = (-1 : Int32) then
  (if (1 : Int32) = 0 then
  (FX4_load_L5 μ x1 x2 K n (y1_4 + 1) (y1_3 + (0 : Int32)))
else
  ((FX4_of μ y1_4 (1 : Int32)).bind fun z31 =>
  FX4_load_L5 μ x1 x2 K n (y1_4 + 1) (y1_3 + z31)))
else
  ((FX4_of μ y1_4 (2 : Int32)).bind fun z33 =>
  if z33 = x2 then
  (if (1 : Int32) = 0 then
  (FX4_load_L5 μ x1 x2 K n (y1_4 + 1) (y1_3 + (0 : Int32)))
else
  ((FX4_of μ y1_4 (1 : Int32)).bind fun z40 =>
  FX4_load_L5 μ x1 x2 K n (y1_4 + 1) (y1_3 + z40)))
else
  (if (0 : Int32) = 0 then
  (FX4_load_L5 μ x1 x2 K n (y1_4 + 1) (y1_3 + (0 : Int32)))
else
  ((FX4_of μ y1_4 (1 : Int32)).bind fun z37 =>
  FX4_load_L5 μ x1 x2 K n (y1_4 + 1) (y1_3 + z37)))))
else
  (if (0 : Int32) = 0 then
  (FX4_load_L5 μ x1 x2 K n (y1_4 + 1) (y1_3 + (0 : Int32)))
else
  ((FX4_of μ y1_4 (1 : Int32)).bind fun z27 =>
  FX4_load_L5 μ x1 x2 K n (y1_4 + 1) (y1_3 + z27)))))))
def FX4_load (μ : MDS) (x1 : Int32) (x2 : Int32) : Option (Int32) :=
  FX4_load_L5 μ x1 x2 (fun (y1_4 : Int32) (y1_3 : Int32) =>
  some y1_3) FU (0 : Int32) (0 : Int32)
abbrev rmX4_load : Room := { frames := 1, cells := 0, slots := 0, locals := 22 }
set_option maxHeartbeats 4000000 in
set_option maxRecDepth 100000 in
theorem CX4_load (l : Launch) (D : va_G) (aμ : Nat → Nat) (μ : MDS) (x1 : Int32) (x2 : Int32) (r0 : Int32) (hF : FX4_load μ x1 x2 = some r0) : Ct l D yX4_load cX4_load 6 (some .int) rmX4_load 0 0 [.ref (aμ 0), .int x1, .int x2] (mdW D aμ μ) (fun v w => v = some (.int r0) ∧ w = mdW D aμ μ) := by
  refine Ct.of (own := RX4) (lv := [(0, .ref (aμ 0)), (1, .int x1), (2, .int x2)]) (by decide +kernel) rfl (Nat.le_of_ble_eq_true rfl) rfl (fun X h hr => ?_)
  unfold FX4_load at hF
  refine r_iconst (v := 0) h dX4_load_0 (by decide) ?_
  refine r_istore_n (lv' := [(3, .int (0 : Int32)), (0, .ref (aμ 0)), (1, .int x1), (2, .int x2)]) h rfl dX4_load_1 (by decide) rfl ?_
  refine r_iconst (v := 0) h dX4_load_2 (by decide) ?_
  refine r_istore (lv' := [(4, .int (0 : Int32)), (3, .int (0 : Int32)), (0, .ref (aμ 0)), (1, .int x1), (2, .int x2)]) h dX4_load_3 (by decide) rfl ?_
  have hL5 : ∀ (K : Int32 → Int32 → Option (Int32)) (hK : ∀ (y1_4 : Int32) (y1_3 : Int32), K y1_4 y1_3 = some r0 → J X l rmX4_load D 6 0 0 (mdW D aμ μ) [(4, .int y1_4), (3, .int y1_3), (0, .ref (aμ 0)), (1, .int x1), (2, .int x2)] 92 []) (N : Nat), ∀ (y1_4 : Int32) (y1_3 : Int32), FX4_load_L5 μ x1 x2 K N y1_4 y1_3 = some r0 → J X l rmX4_load D 6 0 0 (mdW D aμ μ) [(4, .int y1_4), (3, .int y1_3), (0, .ref (aμ 0)), (1, .int x1), (2, .int x2)] 5 [] := by
    intro K hK N
    induction N with
    | zero =>
      intro y1_4 y1_3 hF
      cases hF
    | succ N ih =>
      intro y1_4 y1_3 hF
      rw [FX4_load_L5] at hF
      refine r_iload h 0 rfl dX4_load_5 ?_
      refine r_aload_n h 2 rfl rfl dX4_load_7 ?_
      refine r_get h fl_X4_7 0 rfl rfl dX4_load_8 ?_
      refine r_bipush (v := 13) h dX4_load_11 (by decide) ?_
      obtain ⟨hN, hF⟩ := o_gd hF
      refine r_iald h 1 rfl hN dX4_load_13 ?_
      refine r_icmp_ge h 92 dX4_load_14 (by decide) (fun c2 => ?_) (fun c2 => ?_)
      · replace hF := o_pos c2 hF
        exact J.loc (lv' := [(4, .int y1_4), (3, .int y1_3), (0, .ref (aμ 0)), (1, .int x1), (2, .int x2)]) [0, 1, 2, 3, 4] rfl (hK y1_4 y1_3 hF)
      · replace hF := o_neg c2 hF
        refine r_aload_n h 2 rfl rfl dX4_load_17 ?_
        refine r_iload h 0 rfl dX4_load_18 ?_
        refine r_iconst (v := 4) h dX4_load_20 (by decide) ?_
        obtain ⟨z3, e4, hF⟩ := o_bind hF
        refine r_callVa (q0 := 0) (rest := []) h hd_X4_of wm_837 dX4_load_21 (CX4_of l D aμ μ y1_4 (4 : Int32) z3 e4) rfl rfl rfl ⟨rfl, rfl⟩ ⟨by decide, by decide⟩ (Nat.le_of_ble_eq_true rfl) ⟨by decide, by decide⟩ rfl (fun v w' hp => ?_)
        obtain ⟨rfl, rfl⟩ := hp
        refine r_iconst (v := -1) h dX4_load_24 (by decide) ?_
        refine r_icmp_eq h 64 dX4_load_25 (by decide) (fun c5 => ?_) (fun c5 => ?_)
        · replace hF := o_pos c5 hF
          refine r_iconst (v := 0) h dX4_load_64 (by decide) ?_
          refine r_istore (lv' := [(5, .int (0 : Int32)), (4, .int y1_4), (3, .int y1_3), (0, .ref (aμ 0)), (1, .int x1), (2, .int x2)]) h dX4_load_65 (by decide) rfl ?_
          refine r_iload_n h 2 rfl rfl dX4_load_67 ?_
          refine r_iload h 0 rfl dX4_load_68 ?_
          refine r_if_eq h 83 dX4_load_70 (by decide) (fun c6 => ?_) (fun c6 => ?_)
          · replace hF := o_pos c6 hF
            refine r_iconst (v := 0) h dX4_load_83 (by decide) ?_
            refine r_iadd h dX4_load_84 ?_
            refine r_istore_n (lv' := [(3, .int (y1_3 + (0 : Int32))), (5, .int (0 : Int32)), (4, .int y1_4), (0, .ref (aμ 0)), (1, .int x1), (2, .int x2)]) h rfl dX4_load_85 (by decide) rfl ?_
            refine r_iinc (lv' := [(4, .int (y1_4 + 1)), (3, .int (y1_3 + (0 : Int32))), (5, .int (0 : Int32)), (0, .ref (aμ 0)), (1, .int x1), (2, .int x2)]) h 2 rfl (congrArg (fun z => y1_4 + z) (by decide : Int32.ofInt 1 = 1)) dX4_load_86 (by decide) rfl ?_
            refine r_goto h 5 dX4_load_89 (by decide) ?_
            exact J.loc (lv' := [(4, .int (y1_4 + 1)), (3, .int (y1_3 + (0 : Int32))), (0, .ref (aμ 0)), (1, .int x1), (2, .int x2)]) [0, 1, 3, 4, 5] rfl (ih (y1_4 + 1) (y1_3 + (0 : Int32)) hF)
          · replace hF := o_neg c6 hF
            refine r_aload_n h 3 rfl rfl dX4_load_73 ?_
            refine r_iload h 1 rfl dX4_load_74 ?_
            refine r_iconst (v := 1) h dX4_load_76 (by decide) ?_
            obtain ⟨z7, e8, hF⟩ := o_bind hF
            refine r_callVa (q0 := 0) (rest := [.int y1_3]) h hd_X4_of wm_837 dX4_load_77 (CX4_of l D aμ μ y1_4 (1 : Int32) z7 e8) rfl rfl rfl ⟨rfl, rfl⟩ ⟨by decide, by decide⟩ (Nat.le_of_ble_eq_true rfl) ⟨by decide, by decide⟩ rfl (fun v w' hp => ?_)
            obtain ⟨rfl, rfl⟩ := hp
            refine r_goto h 84 dX4_load_80 (by decide) ?_
            refine r_iadd h dX4_load_84 ?_
            refine r_istore_n (lv' := [(3, .int (y1_3 + z7)), (5, .int (0 : Int32)), (4, .int y1_4), (0, .ref (aμ 0)), (1, .int x1), (2, .int x2)]) h rfl dX4_load_85 (by decide) rfl ?_
            refine r_iinc (lv' := [(4, .int (y1_4 + 1)), (3, .int (y1_3 + z7)), (5, .int (0 : Int32)), (0, .ref (aμ 0)), (1, .int x1), (2, .int x2)]) h 2 rfl (congrArg (fun z => y1_4 + z) (by decide : Int32.ofInt 1 = 1)) dX4_load_86 (by decide) rfl ?_
            refine r_goto h 5 dX4_load_89 (by decide) ?_
            exact J.loc (lv' := [(4, .int (y1_4 + 1)), (3, .int (y1_3 + z7)), (0, .ref (aμ 0)), (1, .int x1), (2, .int x2)]) [0, 1, 3, 4, 5] rfl (ih (y1_4 + 1) (y1_3 + z7) hF)
        · replace hF := o_neg c5 hF
          refine r_iload_n h 3 rfl rfl dX4_load_28 ?_
          refine r_iconst (v := -1) h dX4_load_29 (by decide) ?_
          refine r_icmp_eq h 44 dX4_load_30 (by decide) (fun c9 => ?_) (fun c9 => ?_)
          · replace hF := o_pos c9 hF
            refine r_iload_n h 4 rfl rfl dX4_load_44 ?_
            refine r_iconst (v := -1) h dX4_load_45 (by decide) ?_
            refine r_icmp_eq h 60 dX4_load_46 (by decide) (fun c10 => ?_) (fun c10 => ?_)
            · replace hF := o_pos c10 hF
              refine r_iconst (v := 1) h dX4_load_60 (by decide) ?_
              refine r_goto h 65 dX4_load_61 (by decide) ?_
              refine r_istore (lv' := [(5, .int (1 : Int32)), (4, .int y1_4), (3, .int y1_3), (0, .ref (aμ 0)), (1, .int x1), (2, .int x2)]) h dX4_load_65 (by decide) rfl ?_
              refine r_iload_n h 2 rfl rfl dX4_load_67 ?_
              refine r_iload h 0 rfl dX4_load_68 ?_
              refine r_if_eq h 83 dX4_load_70 (by decide) (fun c11 => ?_) (fun c11 => ?_)
              · replace hF := o_pos c11 hF
                refine r_iconst (v := 0) h dX4_load_83 (by decide) ?_
                refine r_iadd h dX4_load_84 ?_
                refine r_istore_n (lv' := [(3, .int (y1_3 + (0 : Int32))), (5, .int (1 : Int32)), (4, .int y1_4), (0, .ref (aμ 0)), (1, .int x1), (2, .int x2)]) h rfl dX4_load_85 (by decide) rfl ?_
                refine r_iinc (lv' := [(4, .int (y1_4 + 1)), (3, .int (y1_3 + (0 : Int32))), (5, .int (1 : Int32)), (0, .ref (aμ 0)), (1, .int x1), (2, .int x2)]) h 2 rfl (congrArg (fun z => y1_4 + z) (by decide : Int32.ofInt 1 = 1)) dX4_load_86 (by decide) rfl ?_
                refine r_goto h 5 dX4_load_89 (by decide) ?_
                exact J.loc (lv' := [(4, .int (y1_4 + 1)), (3, .int (y1_3 + (0 : Int32))), (0, .ref (aμ 0)), (1, .int x1), (2, .int x2)]) [0, 1, 3, 4, 5] rfl (ih (y1_4 + 1) (y1_3 + (0 : Int32)) hF)
              · replace hF := o_neg c11 hF
                refine r_aload_n h 3 rfl rfl dX4_load_73 ?_
                refine r_iload h 1 rfl dX4_load_74 ?_
                refine r_iconst (v := 1) h dX4_load_76 (by decide) ?_
                obtain ⟨z12, e13, hF⟩ := o_bind hF
                refine r_callVa (q0 := 0) (rest := [.int y1_3]) h hd_X4_of wm_837 dX4_load_77 (CX4_of l D aμ μ y1_4 (1 : Int32) z12 e13) rfl rfl rfl ⟨rfl, rfl⟩ ⟨by decide, by decide⟩ (Nat.le_of_ble_eq_true rfl) ⟨by decide, by decide⟩ rfl (fun v w' hp => ?_)
                obtain ⟨rfl, rfl⟩ := hp
                refine r_goto h 84 dX4_load_80 (by decide) ?_
                refine r_iadd h dX4_load_84 ?_
                refine r_istore_n (lv' := [(3, .int (y1_3 + z12)), (5, .int (1 : Int32)), (4, .int y1_4), (0, .ref (aμ 0)), (1, .int x1), (2, .int x2)]) h rfl dX4_load_85 (by decide) rfl ?_
                refine r_iinc (lv' := [(4, .int (y1_4 + 1)), (3, .int (y1_3 + z12)), (5, .int (1 : Int32)), (0, .ref (aμ 0)), (1, .int x1), (2, .int x2)]) h 2 rfl (congrArg (fun z => y1_4 + z) (by decide : Int32.ofInt 1 = 1)) dX4_load_86 (by decide) rfl ?_
                refine r_goto h 5 dX4_load_89 (by decide) ?_
                exact J.loc (lv' := [(4, .int (y1_4 + 1)), (3, .int (y1_3 + z12)), (0, .ref (aμ 0)), (1, .int x1), (2, .int x2)]) [0, 1, 3, 4, 5] rfl (ih (y1_4 + 1) (y1_3 + z12) hF)
            · replace hF := o_neg c10 hF
              refine r_aload_n h 2 rfl rfl dX4_load_49 ?_
              refine r_iload h 0 rfl dX4_load_50 ?_
              refine r_iconst (v := 2) h dX4_load_52 (by decide) ?_
              obtain ⟨z14, e15, hF⟩ := o_bind hF
              refine r_callVa (q0 := 0) (rest := []) h hd_X4_of wm_837 dX4_load_53 (CX4_of l D aμ μ y1_4 (2 : Int32) z14 e15) rfl rfl rfl ⟨rfl, rfl⟩ ⟨by decide, by decide⟩ (Nat.le_of_ble_eq_true rfl) ⟨by decide, by decide⟩ rfl (fun v w' hp => ?_)
              obtain ⟨rfl, rfl⟩ := hp
              refine r_iload_n h 4 rfl rfl dX4_load_56 ?_
              refine r_icmp_ne h 64 dX4_load_57 (by decide) (fun c16 => ?_) (fun c16 => ?_)
              · replace hF := o_neg c16 hF
                refine r_iconst (v := 0) h dX4_load_64 (by decide) ?_
                refine r_istore (lv' := [(5, .int (0 : Int32)), (4, .int y1_4), (3, .int y1_3), (0, .ref (aμ 0)), (1, .int x1), (2, .int x2)]) h dX4_load_65 (by decide) rfl ?_
                refine r_iload_n h 2 rfl rfl dX4_load_67 ?_
                refine r_iload h 0 rfl dX4_load_68 ?_
                refine r_if_eq h 83 dX4_load_70 (by decide) (fun c17 => ?_) (fun c17 => ?_)
                · replace hF := o_pos c17 hF
                  refine r_iconst (v := 0) h dX4_load_83 (by decide) ?_
                  refine r_iadd h dX4_load_84 ?_
                  refine r_istore_n (lv' := [(3, .int (y1_3 + (0 : Int32))), (5, .int (0 : Int32)), (4, .int y1_4), (0, .ref (aμ 0)), (1, .int x1), (2, .int x2)]) h rfl dX4_load_85 (by decide) rfl ?_
                  refine r_iinc (lv' := [(4, .int (y1_4 + 1)), (3, .int (y1_3 + (0 : Int32))), (5, .int (0 : Int32)), (0, .ref (aμ 0)), (1, .int x1), (2, .int x2)]) h 2 rfl (congrArg (fun z => y1_4 + z) (by decide : Int32.ofInt 1 = 1)) dX4_load_86 (by decide) rfl ?_
                  refine r_goto h 5 dX4_load_89 (by decide) ?_
                  exact J.loc (lv' := [(4, .int (y1_4 + 1)), (3, .int (y1_3 + (0 : Int32))), (0, .ref (aμ 0)), (1, .int x1), (2, .int x2)]) [0, 1, 3, 4, 5] rfl (ih (y1_4 + 1) (y1_3 + (0 : Int32)) hF)
                · replace hF := o_neg c17 hF
                  refine r_aload_n h 3 rfl rfl dX4_load_73 ?_
                  refine r_iload h 1 rfl dX4_load_74 ?_
                  refine r_iconst (v := 1) h dX4_load_76 (by decide) ?_
                  obtain ⟨z18, e19, hF⟩ := o_bind hF
                  refine r_callVa (q0 := 0) (rest := [.int y1_3]) h hd_X4_of wm_837 dX4_load_77 (CX4_of l D aμ μ y1_4 (1 : Int32) z18 e19) rfl rfl rfl ⟨rfl, rfl⟩ ⟨by decide, by decide⟩ (Nat.le_of_ble_eq_true rfl) ⟨by decide, by decide⟩ rfl (fun v w' hp => ?_)
                  obtain ⟨rfl, rfl⟩ := hp
                  refine r_goto h 84 dX4_load_80 (by decide) ?_
                  refine r_iadd h dX4_load_84 ?_
                  refine r_istore_n (lv' := [(3, .int (y1_3 + z18)), (5, .int (0 : Int32)), (4, .int y1_4), (0, .ref (aμ 0)), (1, .int x1), (2, .int x2)]) h rfl dX4_load_85 (by decide) rfl ?_
                  refine r_iinc (lv' := [(4, .int (y1_4 + 1)), (3, .int (y1_3 + z18)), (5, .int (0 : Int32)), (0, .ref (aμ 0)), (1, .int x1), (2, .int x2)]) h 2 rfl (congrArg (fun z => y1_4 + z) (by decide : Int32.ofInt 1 = 1)) dX4_load_86 (by decide) rfl ?_
                  refine r_goto h 5 dX4_load_89 (by decide) ?_
                  exact J.loc (lv' := [(4, .int (y1_4 + 1)), (3, .int (y1_3 + z18)), (0, .ref (aμ 0)), (1, .int x1), (2, .int x2)]) [0, 1, 3, 4, 5] rfl (ih (y1_4 + 1) (y1_3 + z18) hF)
              · replace hF := o_pos c16 hF
                refine r_iconst (v := 1) h dX4_load_60 (by decide) ?_
                refine r_goto h 65 dX4_load_61 (by decide) ?_
                refine r_istore (lv' := [(5, .int (1 : Int32)), (4, .int y1_4), (3, .int y1_3), (0, .ref (aμ 0)), (1, .int x1), (2, .int x2)]) h dX4_load_65 (by decide) rfl ?_
                refine r_iload_n h 2 rfl rfl dX4_load_67 ?_
                refine r_iload h 0 rfl dX4_load_68 ?_
                refine r_if_eq h 83 dX4_load_70 (by decide) (fun c20 => ?_) (fun c20 => ?_)
                · replace hF := o_pos c20 hF
                  refine r_iconst (v := 0) h dX4_load_83 (by decide) ?_
                  refine r_iadd h dX4_load_84 ?_
                  refine r_istore_n (lv' := [(3, .int (y1_3 + (0 : Int32))), (5, .int (1 : Int32)), (4, .int y1_4), (0, .ref (aμ 0)), (1, .int x1), (2, .int x2)]) h rfl dX4_load_85 (by decide) rfl ?_
                  refine r_iinc (lv' := [(4, .int (y1_4 + 1)), (3, .int (y1_3 + (0 : Int32))), (5, .int (1 : Int32)), (0, .ref (aμ 0)), (1, .int x1), (2, .int x2)]) h 2 rfl (congrArg (fun z => y1_4 + z) (by decide : Int32.ofInt 1 = 1)) dX4_load_86 (by decide) rfl ?_
                  refine r_goto h 5 dX4_load_89 (by decide) ?_
                  exact J.loc (lv' := [(4, .int (y1_4 + 1)), (3, .int (y1_3 + (0 : Int32))), (0, .ref (aμ 0)), (1, .int x1), (2, .int x2)]) [0, 1, 3, 4, 5] rfl (ih (y1_4 + 1) (y1_3 + (0 : Int32)) hF)
                · replace hF := o_neg c20 hF
                  refine r_aload_n h 3 rfl rfl dX4_load_73 ?_
                  refine r_iload h 1 rfl dX4_load_74 ?_
                  refine r_iconst (v := 1) h dX4_load_76 (by decide) ?_
                  obtain ⟨z21, e22, hF⟩ := o_bind hF
                  refine r_callVa (q0 := 0) (rest := [.int y1_3]) h hd_X4_of wm_837 dX4_load_77 (CX4_of l D aμ μ y1_4 (1 : Int32) z21 e22) rfl rfl rfl ⟨rfl, rfl⟩ ⟨by decide, by decide⟩ (Nat.le_of_ble_eq_true rfl) ⟨by decide, by decide⟩ rfl (fun v w' hp => ?_)
                  obtain ⟨rfl, rfl⟩ := hp
                  refine r_goto h 84 dX4_load_80 (by decide) ?_
                  refine r_iadd h dX4_load_84 ?_
                  refine r_istore_n (lv' := [(3, .int (y1_3 + z21)), (5, .int (1 : Int32)), (4, .int y1_4), (0, .ref (aμ 0)), (1, .int x1), (2, .int x2)]) h rfl dX4_load_85 (by decide) rfl ?_
                  refine r_iinc (lv' := [(4, .int (y1_4 + 1)), (3, .int (y1_3 + z21)), (5, .int (1 : Int32)), (0, .ref (aμ 0)), (1, .int x1), (2, .int x2)]) h 2 rfl (congrArg (fun z => y1_4 + z) (by decide : Int32.ofInt 1 = 1)) dX4_load_86 (by decide) rfl ?_
                  refine r_goto h 5 dX4_load_89 (by decide) ?_
                  exact J.loc (lv' := [(4, .int (y1_4 + 1)), (3, .int (y1_3 + z21)), (0, .ref (aμ 0)), (1, .int x1), (2, .int x2)]) [0, 1, 3, 4, 5] rfl (ih (y1_4 + 1) (y1_3 + z21) hF)
          · replace hF := o_neg c9 hF
            refine r_aload_n h 2 rfl rfl dX4_load_33 ?_
            refine r_iload h 0 rfl dX4_load_34 ?_
            refine r_iconst (v := 4) h dX4_load_36 (by decide) ?_
            obtain ⟨z23, e24, hF⟩ := o_bind hF
            refine r_callVa (q0 := 0) (rest := []) h hd_X4_of wm_837 dX4_load_37 (CX4_of l D aμ μ y1_4 (4 : Int32) z23 e24) rfl rfl rfl ⟨rfl, rfl⟩ ⟨by decide, by decide⟩ (Nat.le_of_ble_eq_true rfl) ⟨by decide, by decide⟩ rfl (fun v w' hp => ?_)
            obtain ⟨rfl, rfl⟩ := hp
            refine r_iload_n h 3 rfl rfl dX4_load_40 ?_
            refine r_icmp_ne h 64 dX4_load_41 (by decide) (fun c25 => ?_) (fun c25 => ?_)
            · replace hF := o_neg c25 hF
              refine r_iconst (v := 0) h dX4_load_64 (by decide) ?_
              refine r_istore (lv' := [(5, .int (0 : Int32)), (4, .int y1_4), (3, .int y1_3), (0, .ref (aμ 0)), (1, .int x1), (2, .int x2)]) h dX4_load_65 (by decide) rfl ?_
              refine r_iload_n h 2 rfl rfl dX4_load_67 ?_
              refine r_iload h 0 rfl dX4_load_68 ?_
              refine r_if_eq h 83 dX4_load_70 (by decide) (fun c26 => ?_) (fun c26 => ?_)
              · replace hF := o_pos c26 hF
                refine r_iconst (v := 0) h dX4_load_83 (by decide) ?_
                refine r_iadd h dX4_load_84 ?_
                refine r_istore_n (lv' := [(3, .int (y1_3 + (0 : Int32))), (5, .int (0 : Int32)), (4, .int y1_4), (0, .ref (aμ 0)), (1, .int x1), (2, .int x2)]) h rfl dX4_load_85 (by decide) rfl ?_
                refine r_iinc (lv' := [(4, .int (y1_4 + 1)), (3, .int (y1_3 + (0 : Int32))), (5, .int (0 : Int32)), (0, .ref (aμ 0)), (1, .int x1), (2, .int x2)]) h 2 rfl (congrArg (fun z => y1_4 + z) (by decide : Int32.ofInt 1 = 1)) dX4_load_86 (by decide) rfl ?_
                refine r_goto h 5 dX4_load_89 (by decide) ?_
                exact J.loc (lv' := [(4, .int (y1_4 + 1)), (3, .int (y1_3 + (0 : Int32))), (0, .ref (aμ 0)), (1, .int x1), (2, .int x2)]) [0, 1, 3, 4, 5] rfl (ih (y1_4 + 1) (y1_3 + (0 : Int32)) hF)
              · replace hF := o_neg c26 hF
                refine r_aload_n h 3 rfl rfl dX4_load_73 ?_
                refine r_iload h 1 rfl dX4_load_74 ?_
                refine r_iconst (v := 1) h dX4_load_76 (by decide) ?_
                obtain ⟨z27, e28, hF⟩ := o_bind hF
                refine r_callVa (q0 := 0) (rest := [.int y1_3]) h hd_X4_of wm_837 dX4_load_77 (CX4_of l D aμ μ y1_4 (1 : Int32) z27 e28) rfl rfl rfl ⟨rfl, rfl⟩ ⟨by decide, by decide⟩ (Nat.le_of_ble_eq_true rfl) ⟨by decide, by decide⟩ rfl (fun v w' hp => ?_)
                obtain ⟨rfl, rfl⟩ := hp
                refine r_goto h 84 dX4_load_80 (by decide) ?_
                refine r_iadd h dX4_load_84 ?_
                refine r_istore_n (lv' := [(3, .int (y1_3 + z27)), (5, .int (0 : Int32)), (4, .int y1_4), (0, .ref (aμ 0)), (1, .int x1), (2, .int x2)]) h rfl dX4_load_85 (by decide) rfl ?_
                refine r_iinc (lv' := [(4, .int (y1_4 + 1)), (3, .int (y1_3 + z27)), (5, .int (0 : Int32)), (0, .ref (aμ 0)), (1, .int x1), (2, .int x2)]) h 2 rfl (congrArg (fun z => y1_4 + z) (by decide : Int32.ofInt 1 = 1)) dX4_load_86 (by decide) rfl ?_
                refine r_goto h 5 dX4_load_89 (by decide) ?_
                exact J.loc (lv' := [(4, .int (y1_4 + 1)), (3, .int (y1_3 + z27)), (0, .ref (aμ 0)), (1, .int x1), (2, .int x2)]) [0, 1, 3, 4, 5] rfl (ih (y1_4 + 1) (y1_3 + z27) hF)
            · replace hF := o_pos c25 hF
              refine r_iload_n h 4 rfl rfl dX4_load_44 ?_
              refine r_iconst (v := -1) h dX4_load_45 (by decide) ?_
              refine r_icmp_eq h 60 dX4_load_46 (by decide) (fun c29 => ?_) (fun c29 => ?_)
              · replace hF := o_pos c29 hF
                refine r_iconst (v := 1) h dX4_load_60 (by decide) ?_
                refine r_goto h 65 dX4_load_61 (by decide) ?_
                refine r_istore (lv' := [(5, .int (1 : Int32)), (4, .int y1_4), (3, .int y1_3), (0, .ref (aμ 0)), (1, .int x1), (2, .int x2)]) h dX4_load_65 (by decide) rfl ?_
                refine r_iload_n h 2 rfl rfl dX4_load_67 ?_
                refine r_iload h 0 rfl dX4_load_68 ?_
                refine r_if_eq h 83 dX4_load_70 (by decide) (fun c30 => ?_) (fun c30 => ?_)
                · replace hF := o_pos c30 hF
                  refine r_iconst (v := 0) h dX4_load_83 (by decide) ?_
                  refine r_iadd h dX4_load_84 ?_
                  refine r_istore_n (lv' := [(3, .int (y1_3 + (0 : Int32))), (5, .int (1 : Int32)), (4, .int y1_4), (0, .ref (aμ 0)), (1, .int x1), (2, .int x2)]) h rfl dX4_load_85 (by decide) rfl ?_
                  refine r_iinc (lv' := [(4, .int (y1_4 + 1)), (3, .int (y1_3 + (0 : Int32))), (5, .int (1 : Int32)), (0, .ref (aμ 0)), (1, .int x1), (2, .int x2)]) h 2 rfl (congrArg (fun z => y1_4 + z) (by decide : Int32.ofInt 1 = 1)) dX4_load_86 (by decide) rfl ?_
                  refine r_goto h 5 dX4_load_89 (by decide) ?_
                  exact J.loc (lv' := [(4, .int (y1_4 + 1)), (3, .int (y1_3 + (0 : Int32))), (0, .ref (aμ 0)), (1, .int x1), (2, .int x2)]) [0, 1, 3, 4, 5] rfl (ih (y1_4 + 1) (y1_3 + (0 : Int32)) hF)
                · replace hF := o_neg c30 hF
                  refine r_aload_n h 3 rfl rfl dX4_load_73 ?_
                  refine r_iload h 1 rfl dX4_load_74 ?_
                  refine r_iconst (v := 1) h dX4_load_76 (by decide) ?_
                  obtain ⟨z31, e32, hF⟩ := o_bind hF
                  refine r_callVa (q0 := 0) (rest := [.int y1_3]) h hd_X4_of wm_837 dX4_load_77 (CX4_of l D aμ μ y1_4 (1 : Int32) z31 e32) rfl rfl rfl ⟨rfl, rfl⟩ ⟨by decide, by decide⟩ (Nat.le_of_ble_eq_true rfl) ⟨by decide, by decide⟩ rfl (fun v w' hp => ?_)
                  obtain ⟨rfl, rfl⟩ := hp
                  refine r_goto h 84 dX4_load_80 (by decide) ?_
                  refine r_iadd h dX4_load_84 ?_
                  refine r_istore_n (lv' := [(3, .int (y1_3 + z31)), (5, .int (1 : Int32)), (4, .int y1_4), (0, .ref (aμ 0)), (1, .int x1), (2, .int x2)]) h rfl dX4_load_85 (by decide) rfl ?_
                  refine r_iinc (lv' := [(4, .int (y1_4 + 1)), (3, .int (y1_3 + z31)), (5, .int (1 : Int32)), (0, .ref (aμ 0)), (1, .int x1), (2, .int x2)]) h 2 rfl (congrArg (fun z => y1_4 + z) (by decide : Int32.ofInt 1 = 1)) dX4_load_86 (by decide) rfl ?_
                  refine r_goto h 5 dX4_load_89 (by decide) ?_
                  exact J.loc (lv' := [(4, .int (y1_4 + 1)), (3, .int (y1_3 + z31)), (0, .ref (aμ 0)), (1, .int x1), (2, .int x2)]) [0, 1, 3, 4, 5] rfl (ih (y1_4 + 1) (y1_3 + z31) hF)
              · replace hF := o_neg c29 hF
                refine r_aload_n h 2 rfl rfl dX4_load_49 ?_
                refine r_iload h 0 rfl dX4_load_50 ?_
                refine r_iconst (v := 2) h dX4_load_52 (by decide) ?_
                obtain ⟨z33, e34, hF⟩ := o_bind hF
                refine r_callVa (q0 := 0) (rest := []) h hd_X4_of wm_837 dX4_load_53 (CX4_of l D aμ μ y1_4 (2 : Int32) z33 e34) rfl rfl rfl ⟨rfl, rfl⟩ ⟨by decide, by decide⟩ (Nat.le_of_ble_eq_true rfl) ⟨by decide, by decide⟩ rfl (fun v w' hp => ?_)
                obtain ⟨rfl, rfl⟩ := hp
                refine r_iload_n h 4 rfl rfl dX4_load_56 ?_
                refine r_icmp_ne h 64 dX4_load_57 (by decide) (fun c35 => ?_) (fun c35 => ?_)
                · replace hF := o_neg c35 hF
                  refine r_iconst (v := 0) h dX4_load_64 (by decide) ?_
                  refine r_istore (lv' := [(5, .int (0 : Int32)), (4, .int y1_4), (3, .int y1_3), (0, .ref (aμ 0)), (1, .int x1), (2, .int x2)]) h dX4_load_65 (by decide) rfl ?_
                  refine r_iload_n h 2 rfl rfl dX4_load_67 ?_
                  refine r_iload h 0 rfl dX4_load_68 ?_
                  refine r_if_eq h 83 dX4_load_70 (by decide) (fun c36 => ?_) (fun c36 => ?_)
                  · replace hF := o_pos c36 hF
                    refine r_iconst (v := 0) h dX4_load_83 (by decide) ?_
                    refine r_iadd h dX4_load_84 ?_
                    refine r_istore_n (lv' := [(3, .int (y1_3 + (0 : Int32))), (5, .int (0 : Int32)), (4, .int y1_4), (0, .ref (aμ 0)), (1, .int x1), (2, .int x2)]) h rfl dX4_load_85 (by decide) rfl ?_
                    refine r_iinc (lv' := [(4, .int (y1_4 + 1)), (3, .int (y1_3 + (0 : Int32))), (5, .int (0 : Int32)), (0, .ref (aμ 0)), (1, .int x1), (2, .int x2)]) h 2 rfl (congrArg (fun z => y1_4 + z) (by decide : Int32.ofInt 1 = 1)) dX4_load_86 (by decide) rfl ?_
                    refine r_goto h 5 dX4_load_89 (by decide) ?_
                    exact J.loc (lv' := [(4, .int (y1_4 + 1)), (3, .int (y1_3 + (0 : Int32))), (0, .ref (aμ 0)), (1, .int x1), (2, .int x2)]) [0, 1, 3, 4, 5] rfl (ih (y1_4 + 1) (y1_3 + (0 : Int32)) hF)
                  · replace hF := o_neg c36 hF
                    refine r_aload_n h 3 rfl rfl dX4_load_73 ?_
                    refine r_iload h 1 rfl dX4_load_74 ?_
                    refine r_iconst (v := 1) h dX4_load_76 (by decide) ?_
                    obtain ⟨z37, e38, hF⟩ := o_bind hF
                    refine r_callVa (q0 := 0) (rest := [.int y1_3]) h hd_X4_of wm_837 dX4_load_77 (CX4_of l D aμ μ y1_4 (1 : Int32) z37 e38) rfl rfl rfl ⟨rfl, rfl⟩ ⟨by decide, by decide⟩ (Nat.le_of_ble_eq_true rfl) ⟨by decide, by decide⟩ rfl (fun v w' hp => ?_)
                    obtain ⟨rfl, rfl⟩ := hp
                    refine r_goto h 84 dX4_load_80 (by decide) ?_
                    refine r_iadd h dX4_load_84 ?_
                    refine r_istore_n (lv' := [(3, .int (y1_3 + z37)), (5, .int (0 : Int32)), (4, .int y1_4), (0, .ref (aμ 0)), (1, .int x1), (2, .int x2)]) h rfl dX4_load_85 (by decide) rfl ?_
                    refine r_iinc (lv' := [(4, .int (y1_4 + 1)), (3, .int (y1_3 + z37)), (5, .int (0 : Int32)), (0, .ref (aμ 0)), (1, .int x1), (2, .int x2)]) h 2 rfl (congrArg (fun z => y1_4 + z) (by decide : Int32.ofInt 1 = 1)) dX4_load_86 (by decide) rfl ?_
                    refine r_goto h 5 dX4_load_89 (by decide) ?_
                    exact J.loc (lv' := [(4, .int (y1_4 + 1)), (3, .int (y1_3 + z37)), (0, .ref (aμ 0)), (1, .int x1), (2, .int x2)]) [0, 1, 3, 4, 5] rfl (ih (y1_4 + 1) (y1_3 + z37) hF)
                · replace hF := o_pos c35 hF
                  refine r_iconst (v := 1) h dX4_load_60 (by decide) ?_
                  refine r_goto h 65 dX4_load_61 (by decide) ?_
                  refine r_istore (lv' := [(5, .int (1 : Int32)), (4, .int y1_4), (3, .int y1_3), (0, .ref (aμ 0)), (1, .int x1), (2, .int x2)]) h dX4_load_65 (by decide) rfl ?_
                  refine r_iload_n h 2 rfl rfl dX4_load_67 ?_
                  refine r_iload h 0 rfl dX4_load_68 ?_
                  refine r_if_eq h 83 dX4_load_70 (by decide) (fun c39 => ?_) (fun c39 => ?_)
                  · replace hF := o_pos c39 hF
                    refine r_iconst (v := 0) h dX4_load_83 (by decide) ?_
                    refine r_iadd h dX4_load_84 ?_
                    refine r_istore_n (lv' := [(3, .int (y1_3 + (0 : Int32))), (5, .int (1 : Int32)), (4, .int y1_4), (0, .ref (aμ 0)), (1, .int x1), (2, .int x2)]) h rfl dX4_load_85 (by decide) rfl ?_
                    refine r_iinc (lv' := [(4, .int (y1_4 + 1)), (3, .int (y1_3 + (0 : Int32))), (5, .int (1 : Int32)), (0, .ref (aμ 0)), (1, .int x1), (2, .int x2)]) h 2 rfl (congrArg (fun z => y1_4 + z) (by decide : Int32.ofInt 1 = 1)) dX4_load_86 (by decide) rfl ?_
                    refine r_goto h 5 dX4_load_89 (by decide) ?_
                    exact J.loc (lv' := [(4, .int (y1_4 + 1)), (3, .int (y1_3 + (0 : Int32))), (0, .ref (aμ 0)), (1, .int x1), (2, .int x2)]) [0, 1, 3, 4, 5] rfl (ih (y1_4 + 1) (y1_3 + (0 : Int32)) hF)
                  · replace hF := o_neg c39 hF
                    refine r_aload_n h 3 rfl rfl dX4_load_73 ?_
                    refine r_iload h 1 rfl dX4_load_74 ?_
                    refine r_iconst (v := 1) h dX4_load_76 (by decide) ?_
                    obtain ⟨z40, e41, hF⟩ := o_bind hF
                    refine r_callVa (q0 := 0) (rest := [.int y1_3]) h hd_X4_of wm_837 dX4_load_77 (CX4_of l D aμ μ y1_4 (1 : Int32) z40 e41) rfl rfl rfl ⟨rfl, rfl⟩ ⟨by decide, by decide⟩ (Nat.le_of_ble_eq_true rfl) ⟨by decide, by decide⟩ rfl (fun v w' hp => ?_)
                    obtain ⟨rfl, rfl⟩ := hp
                    refine r_goto h 84 dX4_load_80 (by decide) ?_
                    refine r_iadd h dX4_load_84 ?_
                    refine r_istore_n (lv' := [(3, .int (y1_3 + z40)), (5, .int (1 : Int32)), (4, .int y1_4), (0, .ref (aμ 0)), (1, .int x1), (2, .int x2)]) h rfl dX4_load_85 (by decide) rfl ?_
                    refine r_iinc (lv' := [(4, .int (y1_4 + 1)), (3, .int (y1_3 + z40)), (5, .int (1 : Int32)), (0, .ref (aμ 0)), (1, .int x1), (2, .int x2)]) h 2 rfl (congrArg (fun z => y1_4 + z) (by decide : Int32.ofInt 1 = 1)) dX4_load_86 (by decide) rfl ?_
                    refine r_goto h 5 dX4_load_89 (by decide) ?_
                    exact J.loc (lv' := [(4, .int (y1_4 + 1)), (3, .int (y1_3 + z40)), (0, .ref (aμ 0)), (1, .int x1), (2, .int x2)]) [0, 1, 3, 4, 5] rfl (ih (y1_4 + 1) (y1_3 + z40) hF)
  refine hL5 _ (fun y1_4 y1_3 hF => ?_) _ (0 : Int32) (0 : Int32) hF
  refine r_iload_n h 1 rfl rfl dX4_load_92 ?_
  cases hF
  exact r_iret h hr dX4_load_93 ⟨rfl, rfl⟩

def FX4_machineAt_L2 (μ : MDS) (x1 : Int32) (x2 : Int32) (K : Int32 → Option (Int32)) : Nat → Int32 → Option (Int32)
  | 0, _ => none
  | n + 1, y1_3 =>
  gd (¬ ((13 : Int32) < 0 ∨ 219 ≤ ((13 : Int32)).toNatClampNeg)) (
  if (μ.1 ((13 : Int32)).toNatClampNeg) ≤ y1_3 then
  (K y1_3)
else
  ((FX4_of μ y1_3 (4 : Int32)).bind fun z3 =>
  if z3 = x1 then
  ((FX4_of μ y1_3 (5 : Int32)).bind fun z6 =>
  (FX4_of μ y1_3 (5 : Int32)).bind fun z8 =>
  (FX4_of μ y1_3 (0 : Int32)).bind fun z10 =>
  (FX4_in x2 z6 ((z8 + z10) - (1 : Int32))).bind fun z12 =>
  if z12 = 0 then
  (FX4_machineAt_L2 μ x1 x2 K n (y1_3 + 1))
else
  (some y1_3))
else
  (FX4_machineAt_L2 μ x1 x2 K n (y1_3 + 1))))
def FX4_machineAt (μ : MDS) (x1 : Int32) (x2 : Int32) : Option (Int32) :=
  FX4_machineAt_L2 μ x1 x2 (fun (y1_3 : Int32) =>
  some (-1 : Int32)) FU (0 : Int32)
abbrev rmX4_machineAt : Room := { frames := 1, cells := 0, slots := 0, locals := 22 }
set_option maxHeartbeats 4000000 in
set_option maxRecDepth 100000 in
theorem CX4_machineAt (l : Launch) (D : va_G) (aμ : Nat → Nat) (μ : MDS) (x1 : Int32) (x2 : Int32) (r0 : Int32) (hF : FX4_machineAt μ x1 x2 = some r0) : Ct l D yX4_machineAt cX4_machineAt 4 (some .int) rmX4_machineAt 0 0 [.ref (aμ 0), .int x1, .int x2] (mdW D aμ μ) (fun v w => v = some (.int r0) ∧ w = mdW D aμ μ) := by
  refine Ct.of (own := RX4) (lv := [(0, .ref (aμ 0)), (1, .int x1), (2, .int x2)]) (by decide +kernel) rfl (Nat.le_of_ble_eq_true rfl) rfl (fun X h hr => ?_)
  unfold FX4_machineAt at hF
  refine r_iconst (v := 0) h dX4_machineAt_0 (by decide) ?_
  refine r_istore_n (lv' := [(3, .int (0 : Int32)), (0, .ref (aμ 0)), (1, .int x1), (2, .int x2)]) h rfl dX4_machineAt_1 (by decide) rfl ?_
  have hL2 : ∀ (K : Int32 → Option (Int32)) (hK : ∀ (y1_3 : Int32), K y1_3 = some r0 → J X l rmX4_machineAt D 4 0 0 (mdW D aμ μ) [(3, .int y1_3), (0, .ref (aμ 0)), (1, .int x1), (2, .int x2)] 59 []) (N : Nat), ∀ (y1_3 : Int32), FX4_machineAt_L2 μ x1 x2 K N y1_3 = some r0 → J X l rmX4_machineAt D 4 0 0 (mdW D aμ μ) [(3, .int y1_3), (0, .ref (aμ 0)), (1, .int x1), (2, .int x2)] 2 [] := by
    intro K hK N
    induction N with
    | zero =>
      intro y1_3 hF
      cases hF
    | succ N ih =>
      intro y1_3 hF
      rw [FX4_machineAt_L2] at hF
      refine r_iload_n h 0 rfl rfl dX4_machineAt_2 ?_
      refine r_aload_n h 1 rfl rfl dX4_machineAt_3 ?_
      refine r_get h fl_X4_7 0 rfl rfl dX4_machineAt_4 ?_
      refine r_bipush (v := 13) h dX4_machineAt_7 (by decide) ?_
      obtain ⟨hN, hF⟩ := o_gd hF
      refine r_iald h 1 rfl hN dX4_machineAt_9 ?_
      refine r_icmp_ge h 59 dX4_machineAt_10 (by decide) (fun c2 => ?_) (fun c2 => ?_)
      · replace hF := o_pos c2 hF
        exact J.loc (lv' := [(3, .int y1_3), (0, .ref (aμ 0)), (1, .int x1), (2, .int x2)]) [0, 1, 2, 3] rfl (hK y1_3 hF)
      · replace hF := o_neg c2 hF
        refine r_aload_n h 1 rfl rfl dX4_machineAt_13 ?_
        refine r_iload_n h 0 rfl rfl dX4_machineAt_14 ?_
        refine r_iconst (v := 4) h dX4_machineAt_15 (by decide) ?_
        obtain ⟨z3, e4, hF⟩ := o_bind hF
        refine r_callVa (q0 := 0) (rest := []) h hd_X4_of wm_837 dX4_machineAt_16 (CX4_of l D aμ μ y1_3 (4 : Int32) z3 e4) rfl rfl rfl ⟨rfl, rfl⟩ ⟨by decide, by decide⟩ (Nat.le_of_ble_eq_true rfl) ⟨by decide, by decide⟩ rfl (fun v w' hp => ?_)
        obtain ⟨rfl, rfl⟩ := hp
        refine r_iload_n h 2 rfl rfl dX4_machineAt_19 ?_
        refine r_icmp_ne h 53 dX4_machineAt_20 (by decide) (fun c5 => ?_) (fun c5 => ?_)
        · replace hF := o_neg c5 hF
          refine r_iinc (lv' := [(3, .int (y1_3 + 1)), (0, .ref (aμ 0)), (1, .int x1), (2, .int x2)]) h 0 rfl (congrArg (fun z => y1_3 + z) (by decide : Int32.ofInt 1 = 1)) dX4_machineAt_53 (by decide) rfl ?_
          refine r_goto h 2 dX4_machineAt_56 (by decide) ?_
          exact J.loc (lv' := [(3, .int (y1_3 + 1)), (0, .ref (aμ 0)), (1, .int x1), (2, .int x2)]) [0, 1, 2, 3] rfl (ih (y1_3 + 1) hF)
        · replace hF := o_pos c5 hF
          refine r_iload_n h 3 rfl rfl dX4_machineAt_23 ?_
          refine r_aload_n h 1 rfl rfl dX4_machineAt_24 ?_
          refine r_iload_n h 0 rfl rfl dX4_machineAt_25 ?_
          refine r_iconst (v := 5) h dX4_machineAt_26 (by decide) ?_
          obtain ⟨z6, e7, hF⟩ := o_bind hF
          refine r_callVa (q0 := 0) (rest := [.int x2]) h hd_X4_of wm_837 dX4_machineAt_27 (CX4_of l D aμ μ y1_3 (5 : Int32) z6 e7) rfl rfl rfl ⟨rfl, rfl⟩ ⟨by decide, by decide⟩ (Nat.le_of_ble_eq_true rfl) ⟨by decide, by decide⟩ rfl (fun v w' hp => ?_)
          obtain ⟨rfl, rfl⟩ := hp
          refine r_aload_n h 1 rfl rfl dX4_machineAt_30 ?_
          refine r_iload_n h 0 rfl rfl dX4_machineAt_31 ?_
          refine r_iconst (v := 5) h dX4_machineAt_32 (by decide) ?_
          obtain ⟨z8, e9, hF⟩ := o_bind hF
          refine r_callVa (q0 := 0) (rest := [.int z6, .int x2]) h hd_X4_of wm_837 dX4_machineAt_33 (CX4_of l D aμ μ y1_3 (5 : Int32) z8 e9) rfl rfl rfl ⟨rfl, rfl⟩ ⟨by decide, by decide⟩ (Nat.le_of_ble_eq_true rfl) ⟨by decide, by decide⟩ rfl (fun v w' hp => ?_)
          obtain ⟨rfl, rfl⟩ := hp
          refine r_aload_n h 1 rfl rfl dX4_machineAt_36 ?_
          refine r_iload_n h 0 rfl rfl dX4_machineAt_37 ?_
          refine r_iconst (v := 0) h dX4_machineAt_38 (by decide) ?_
          obtain ⟨z10, e11, hF⟩ := o_bind hF
          refine r_callVa (q0 := 0) (rest := [.int z8, .int z6, .int x2]) h hd_X4_of wm_837 dX4_machineAt_39 (CX4_of l D aμ μ y1_3 (0 : Int32) z10 e11) rfl rfl rfl ⟨rfl, rfl⟩ ⟨by decide, by decide⟩ (Nat.le_of_ble_eq_true rfl) ⟨by decide, by decide⟩ rfl (fun v w' hp => ?_)
          obtain ⟨rfl, rfl⟩ := hp
          refine r_iadd h dX4_machineAt_42 ?_
          refine r_iconst (v := 1) h dX4_machineAt_43 (by decide) ?_
          refine r_isub h dX4_machineAt_44 ?_
          obtain ⟨z12, e13, hF⟩ := o_bind hF
          refine r_callSp (rest := []) h hd_X4_in wm_763 dX4_machineAt_45 (CX4_in l D x2 z6 ((z8 + z10) - (1 : Int32)) z12 e13) rfl ⟨rfl, rfl⟩ ⟨by decide, by decide⟩ (Nat.le_of_ble_eq_true rfl) ⟨by decide, by decide⟩ rfl ?_
          refine r_if_eq h 53 dX4_machineAt_48 (by decide) (fun c14 => ?_) (fun c14 => ?_)
          · replace hF := o_pos c14 hF
            refine r_iinc (lv' := [(3, .int (y1_3 + 1)), (0, .ref (aμ 0)), (1, .int x1), (2, .int x2)]) h 0 rfl (congrArg (fun z => y1_3 + z) (by decide : Int32.ofInt 1 = 1)) dX4_machineAt_53 (by decide) rfl ?_
            refine r_goto h 2 dX4_machineAt_56 (by decide) ?_
            exact J.loc (lv' := [(3, .int (y1_3 + 1)), (0, .ref (aμ 0)), (1, .int x1), (2, .int x2)]) [0, 1, 2, 3] rfl (ih (y1_3 + 1) hF)
          · replace hF := o_neg c14 hF
            refine r_iload_n h 0 rfl rfl dX4_machineAt_51 ?_
            cases hF
            exact r_iret h hr dX4_machineAt_52 ⟨rfl, rfl⟩
  refine hL2 _ (fun y1_3 hF => ?_) _ (0 : Int32) hF
  refine r_iconst (v := -1) h dX4_machineAt_59 (by decide) ?_
  cases hF
  exact r_iret h hr dX4_machineAt_60 ⟨rfl, rfl⟩

def FX4_areFree_L18 (μ : MDS) (x1 : Int32) (x2 : Int32) (x3 : Int32) (x4 : Int32) (K : Int32 → Int32 → Option (Int32)) : Nat → Int32 → Int32 → Option (Int32)
  | 0, _, _ => none
  | n + 1, y3_6, y3_5 =>
  if (x2 + x3) ≤ y3_6 then
  (K y3_6 y3_5)
else
  (if y3_5 = 0 then
  (K y3_6 y3_5)
else
  ((FX4_machineAt μ x1 y3_6).bind fun z6 =>
  if z6 = (-1 : Int32) then
  (FX4_areFree_L18 μ x1 x2 x3 x4 K n (y3_6 + 1) (1 : Int32))
else
  (if z6 = x4 then
  (FX4_areFree_L18 μ x1 x2 x3 x4 K n (y3_6 + 1) (1 : Int32))
else
  (FX4_areFree_L18 μ x1 x2 x3 x4 K n (y3_6 + 1) (0 : Int32)))))
def FX4_areFree_J13 (μ : MDS) (x1 : Int32) (x2 : Int32) (x3 : Int32) (x4 : Int32) (b2_0 : Int32) : Option (Int32) :=
  FX4_areFree_L18 μ x1 x2 x3 x4 (fun (y3_6 : Int32) (y3_5 : Int32) =>
  gd (y3_5 = 0 ∨ y3_5 = 1) (
  some y3_5)) FU x2 b2_0
def FX4_areFree (μ : MDS) (x1 : Int32) (x2 : Int32) (x3 : Int32) (x4 : Int32) : Option (Int32) :=
  if (10 : Int32) < (x2 + x3) then
  (FX4_areFree_J13 μ x1 x2 x3 x4 (0 : Int32))
else
  (FX4_areFree_J13 μ x1 x2 x3 x4 (1 : Int32))
abbrev rmX4_areFree : Room := { frames := 2, cells := 0, slots := 0, locals := 45 }
set_option maxHeartbeats 4000000 in
set_option maxRecDepth 100000 in
theorem CX4_areFree (l : Launch) (D : va_G) (aμ : Nat → Nat) (μ : MDS) (x1 : Int32) (x2 : Int32) (x3 : Int32) (x4 : Int32) (r0 : Int32) (hF : FX4_areFree μ x1 x2 x3 x4 = some r0) : Ct l D yX4_areFree cX4_areFree 8 (some .boolean) rmX4_areFree 0 0 [.ref (aμ 0), .int x1, .int x2, .int x3, .int x4] (mdW D aμ μ) (fun v w => v = some (.int r0) ∧ w = mdW D aμ μ) := by
  refine Ct.of (own := RX4) (lv := [(0, .ref (aμ 0)), (1, .int x1), (2, .int x2), (3, .int x3), (4, .int x4)]) (by decide +kernel) rfl (Nat.le_of_ble_eq_true rfl) rfl (fun X h hr => ?_)
  unfold FX4_areFree at hF
  refine r_iload_n h 2 rfl rfl dX4_areFree_0 ?_
  refine r_iload_n h 3 rfl rfl dX4_areFree_1 ?_
  refine r_iadd h dX4_areFree_2 ?_
  refine r_bipush (v := 10) h dX4_areFree_3 (by decide) ?_
  have hJ13 : ∀ (b2_0 : Int32), FX4_areFree_J13 μ x1 x2 x3 x4 b2_0 = some r0 → J X l rmX4_areFree D 8 0 0 (mdW D aμ μ) [(0, .ref (aμ 0)), (1, .int x1), (2, .int x2), (3, .int x3), (4, .int x4)] 13 [.int b2_0] := by
    intro b2_0 hF
    unfold FX4_areFree_J13 at hF
    refine r_istore (lv' := [(5, .int b2_0), (0, .ref (aμ 0)), (1, .int x1), (2, .int x2), (3, .int x3), (4, .int x4)]) h dX4_areFree_13 (by decide) rfl ?_
    refine r_iload_n h 3 rfl rfl dX4_areFree_15 ?_
    refine r_istore (lv' := [(6, .int x2), (5, .int b2_0), (0, .ref (aμ 0)), (1, .int x1), (2, .int x2), (3, .int x3), (4, .int x4)]) h dX4_areFree_16 (by decide) rfl ?_
    have hL18 : ∀ (K : Int32 → Int32 → Option (Int32)) (hK : ∀ (y3_6 : Int32) (y3_5 : Int32), K y3_6 y3_5 = some r0 → J X l rmX4_areFree D 8 0 0 (mdW D aμ μ) [(6, .int y3_6), (5, .int y3_5), (0, .ref (aμ 0)), (1, .int x1), (2, .int x2), (3, .int x3), (4, .int x4)] 66 []) (N : Nat), ∀ (y3_6 : Int32) (y3_5 : Int32), FX4_areFree_L18 μ x1 x2 x3 x4 K N y3_6 y3_5 = some r0 → J X l rmX4_areFree D 8 0 0 (mdW D aμ μ) [(6, .int y3_6), (5, .int y3_5), (0, .ref (aμ 0)), (1, .int x1), (2, .int x2), (3, .int x3), (4, .int x4)] 18 [] := by
      intro K hK N
      induction N with
      | zero =>
        intro y3_6 y3_5 hF
        cases hF
      | succ N ih =>
        intro y3_6 y3_5 hF
        rw [FX4_areFree_L18] at hF
        refine r_iload h 0 rfl dX4_areFree_18 ?_
        refine r_iload_n h 4 rfl rfl dX4_areFree_20 ?_
        refine r_iload_n h 5 rfl rfl dX4_areFree_21 ?_
        refine r_iadd h dX4_areFree_22 ?_
        refine r_icmp_ge h 66 dX4_areFree_23 (by decide) (fun c4 => ?_) (fun c4 => ?_)
        · replace hF := o_pos c4 hF
          exact J.loc (lv' := [(6, .int y3_6), (5, .int y3_5), (0, .ref (aμ 0)), (1, .int x1), (2, .int x2), (3, .int x3), (4, .int x4)]) [0, 1, 2, 3, 4, 5, 6] rfl (hK y3_6 y3_5 hF)
        · replace hF := o_neg c4 hF
          refine r_iload h 1 rfl dX4_areFree_26 ?_
          refine r_if_eq h 66 dX4_areFree_28 (by decide) (fun c5 => ?_) (fun c5 => ?_)
          · replace hF := o_pos c5 hF
            exact J.loc (lv' := [(6, .int y3_6), (5, .int y3_5), (0, .ref (aμ 0)), (1, .int x1), (2, .int x2), (3, .int x3), (4, .int x4)]) [0, 1, 2, 3, 4, 5, 6] rfl (hK y3_6 y3_5 hF)
          · replace hF := o_neg c5 hF
            refine r_aload_n h 2 rfl rfl dX4_areFree_31 ?_
            refine r_iload_n h 3 rfl rfl dX4_areFree_32 ?_
            refine r_iload h 0 rfl dX4_areFree_33 ?_
            obtain ⟨z6, e7, hF⟩ := o_bind hF
            refine r_callVa (q0 := 0) (rest := []) h hd_X4_machineAt wm_869 dX4_areFree_35 (CX4_machineAt l D aμ μ x1 y3_6 z6 e7) rfl rfl rfl ⟨rfl, rfl⟩ ⟨by decide, by decide⟩ (Nat.le_of_ble_eq_true rfl) ⟨by decide, by decide⟩ rfl (fun v w' hp => ?_)
            obtain ⟨rfl, rfl⟩ := hp
            refine r_istore (lv' := [(7, .int z6), (6, .int y3_6), (5, .int y3_5), (0, .ref (aμ 0)), (1, .int x1), (2, .int x2), (3, .int x3), (4, .int x4)]) h dX4_areFree_38 (by decide) rfl ?_
            refine r_iload h 0 rfl dX4_areFree_40 ?_
            refine r_iconst (v := -1) h dX4_areFree_42 (by decide) ?_
            refine r_icmp_eq h 53 dX4_areFree_43 (by decide) (fun c8 => ?_) (fun c8 => ?_)
            · replace hF := o_pos c8 hF
              refine r_iconst (v := 1) h dX4_areFree_53 (by decide) ?_
              refine r_goto h 58 dX4_areFree_54 (by decide) ?_
              refine r_istore (lv' := [(5, .int (1 : Int32)), (7, .int z6), (6, .int y3_6), (0, .ref (aμ 0)), (1, .int x1), (2, .int x2), (3, .int x3), (4, .int x4)]) h dX4_areFree_58 (by decide) rfl ?_
              refine r_iinc (lv' := [(6, .int (y3_6 + 1)), (5, .int (1 : Int32)), (7, .int z6), (0, .ref (aμ 0)), (1, .int x1), (2, .int x2), (3, .int x3), (4, .int x4)]) h 2 rfl (congrArg (fun z => y3_6 + z) (by decide : Int32.ofInt 1 = 1)) dX4_areFree_60 (by decide) rfl ?_
              refine r_goto h 18 dX4_areFree_63 (by decide) ?_
              exact J.loc (lv' := [(6, .int (y3_6 + 1)), (5, .int (1 : Int32)), (0, .ref (aμ 0)), (1, .int x1), (2, .int x2), (3, .int x3), (4, .int x4)]) [0, 1, 3, 4, 5, 6, 7] rfl (ih (y3_6 + 1) (1 : Int32) hF)
            · replace hF := o_neg c8 hF
              refine r_iload h 0 rfl dX4_areFree_46 ?_
              refine r_iload h 7 rfl dX4_areFree_48 ?_
              refine r_icmp_ne h 57 dX4_areFree_50 (by decide) (fun c9 => ?_) (fun c9 => ?_)
              · replace hF := o_neg c9 hF
                refine r_iconst (v := 0) h dX4_areFree_57 (by decide) ?_
                refine r_istore (lv' := [(5, .int (0 : Int32)), (7, .int z6), (6, .int y3_6), (0, .ref (aμ 0)), (1, .int x1), (2, .int x2), (3, .int x3), (4, .int x4)]) h dX4_areFree_58 (by decide) rfl ?_
                refine r_iinc (lv' := [(6, .int (y3_6 + 1)), (5, .int (0 : Int32)), (7, .int z6), (0, .ref (aμ 0)), (1, .int x1), (2, .int x2), (3, .int x3), (4, .int x4)]) h 2 rfl (congrArg (fun z => y3_6 + z) (by decide : Int32.ofInt 1 = 1)) dX4_areFree_60 (by decide) rfl ?_
                refine r_goto h 18 dX4_areFree_63 (by decide) ?_
                exact J.loc (lv' := [(6, .int (y3_6 + 1)), (5, .int (0 : Int32)), (0, .ref (aμ 0)), (1, .int x1), (2, .int x2), (3, .int x3), (4, .int x4)]) [0, 1, 3, 4, 5, 6, 7] rfl (ih (y3_6 + 1) (0 : Int32) hF)
              · replace hF := o_pos c9 hF
                refine r_iconst (v := 1) h dX4_areFree_53 (by decide) ?_
                refine r_goto h 58 dX4_areFree_54 (by decide) ?_
                refine r_istore (lv' := [(5, .int (1 : Int32)), (7, .int z6), (6, .int y3_6), (0, .ref (aμ 0)), (1, .int x1), (2, .int x2), (3, .int x3), (4, .int x4)]) h dX4_areFree_58 (by decide) rfl ?_
                refine r_iinc (lv' := [(6, .int (y3_6 + 1)), (5, .int (1 : Int32)), (7, .int z6), (0, .ref (aμ 0)), (1, .int x1), (2, .int x2), (3, .int x3), (4, .int x4)]) h 2 rfl (congrArg (fun z => y3_6 + z) (by decide : Int32.ofInt 1 = 1)) dX4_areFree_60 (by decide) rfl ?_
                refine r_goto h 18 dX4_areFree_63 (by decide) ?_
                exact J.loc (lv' := [(6, .int (y3_6 + 1)), (5, .int (1 : Int32)), (0, .ref (aμ 0)), (1, .int x1), (2, .int x2), (3, .int x3), (4, .int x4)]) [0, 1, 3, 4, 5, 6, 7] rfl (ih (y3_6 + 1) (1 : Int32) hF)
    refine hL18 _ (fun y3_6 y3_5 hF => ?_) _ x2 b2_0 hF
    refine r_iload h 1 rfl dX4_areFree_66 ?_
    obtain ⟨hN, hF⟩ := o_gd hF
    cases hF
    exact r_zret h hr hN dX4_areFree_68 ⟨rfl, rfl⟩
  refine r_icmp_gt h 12 dX4_areFree_5 (by decide) (fun c1 => ?_) (fun c1 => ?_)
  · replace hF := o_pos c1 hF
    refine r_iconst (v := 0) h dX4_areFree_12 (by decide) ?_
    exact J.loc (lv' := [(0, .ref (aμ 0)), (1, .int x1), (2, .int x2), (3, .int x3), (4, .int x4)]) [0, 1, 2, 3, 4] rfl (hJ13 (0 : Int32) hF)
  · replace hF := o_neg c1 hF
    refine r_iconst (v := 1) h dX4_areFree_8 (by decide) ?_
    refine r_goto h 13 dX4_areFree_9 (by decide) ?_
    exact J.loc (lv' := [(0, .ref (aμ 0)), (1, .int x1), (2, .int x2), (3, .int x3), (4, .int x4)]) [0, 1, 2, 3, 4] rfl (hJ13 (1 : Int32) hF)

def FX4_lowest_L2 (μ : MDS) (x1 : Int32) (x2 : Int32) (K : Int32 → Option (Int32)) : Nat → Int32 → Option (Int32)
  | 0, _ => none
  | n + 1, y1_3 =>
  if (10 : Int32) ≤ y1_3 then
  (K y1_3)
else
  ((FX4_areFree μ x1 y1_3 x2 (-1 : Int32)).bind fun z3 =>
  if z3 = 0 then
  (FX4_lowest_L2 μ x1 x2 K n (y1_3 + 1))
else
  (some y1_3))
def FX4_lowest (μ : MDS) (x1 : Int32) (x2 : Int32) : Option (Int32) :=
  FX4_lowest_L2 μ x1 x2 (fun (y1_3 : Int32) =>
  some (-1 : Int32)) FU (0 : Int32)
abbrev rmX4_lowest : Room := { frames := 3, cells := 0, slots := 0, locals := 72 }
set_option maxHeartbeats 4000000 in
set_option maxRecDepth 100000 in
theorem CX4_lowest (l : Launch) (D : va_G) (aμ : Nat → Nat) (μ : MDS) (x1 : Int32) (x2 : Int32) (r0 : Int32) (hF : FX4_lowest μ x1 x2 = some r0) : Ct l D yX4_lowest cX4_lowest 4 (some .int) rmX4_lowest 0 0 [.ref (aμ 0), .int x1, .int x2] (mdW D aμ μ) (fun v w => v = some (.int r0) ∧ w = mdW D aμ μ) := by
  refine Ct.of (own := RX4) (lv := [(0, .ref (aμ 0)), (1, .int x1), (2, .int x2)]) (by decide +kernel) rfl (Nat.le_of_ble_eq_true rfl) rfl (fun X h hr => ?_)
  unfold FX4_lowest at hF
  refine r_iconst (v := 0) h dX4_lowest_0 (by decide) ?_
  refine r_istore_n (lv' := [(3, .int (0 : Int32)), (0, .ref (aμ 0)), (1, .int x1), (2, .int x2)]) h rfl dX4_lowest_1 (by decide) rfl ?_
  have hL2 : ∀ (K : Int32 → Option (Int32)) (hK : ∀ (y1_3 : Int32), K y1_3 = some r0 → J X l rmX4_lowest D 4 0 0 (mdW D aμ μ) [(3, .int y1_3), (0, .ref (aμ 0)), (1, .int x1), (2, .int x2)] 27 []) (N : Nat), ∀ (y1_3 : Int32), FX4_lowest_L2 μ x1 x2 K N y1_3 = some r0 → J X l rmX4_lowest D 4 0 0 (mdW D aμ μ) [(3, .int y1_3), (0, .ref (aμ 0)), (1, .int x1), (2, .int x2)] 2 [] := by
    intro K hK N
    induction N with
    | zero =>
      intro y1_3 hF
      cases hF
    | succ N ih =>
      intro y1_3 hF
      rw [FX4_lowest_L2] at hF
      refine r_iload_n h 0 rfl rfl dX4_lowest_2 ?_
      refine r_bipush (v := 10) h dX4_lowest_3 (by decide) ?_
      refine r_icmp_ge h 27 dX4_lowest_5 (by decide) (fun c2 => ?_) (fun c2 => ?_)
      · replace hF := o_pos c2 hF
        exact J.loc (lv' := [(3, .int y1_3), (0, .ref (aμ 0)), (1, .int x1), (2, .int x2)]) [0, 1, 2, 3] rfl (hK y1_3 hF)
      · replace hF := o_neg c2 hF
        refine r_aload_n h 1 rfl rfl dX4_lowest_8 ?_
        refine r_iload_n h 2 rfl rfl dX4_lowest_9 ?_
        refine r_iload_n h 0 rfl rfl dX4_lowest_10 ?_
        refine r_iload_n h 3 rfl rfl dX4_lowest_11 ?_
        refine r_iconst (v := -1) h dX4_lowest_12 (by decide) ?_
        obtain ⟨z3, e4, hF⟩ := o_bind hF
        refine r_callVa (q0 := 0) (rest := []) h hd_X4_areFree wm_877 dX4_lowest_13 (CX4_areFree l D aμ μ x1 y1_3 x2 (-1 : Int32) z3 e4) rfl rfl rfl ⟨rfl, rfl⟩ ⟨by decide, by decide⟩ (Nat.le_of_ble_eq_true rfl) ⟨by decide, by decide⟩ rfl (fun v w' hp => ?_)
        obtain ⟨rfl, rfl⟩ := hp
        refine r_if_eq h 21 dX4_lowest_16 (by decide) (fun c5 => ?_) (fun c5 => ?_)
        · replace hF := o_pos c5 hF
          refine r_iinc (lv' := [(3, .int (y1_3 + 1)), (0, .ref (aμ 0)), (1, .int x1), (2, .int x2)]) h 0 rfl (congrArg (fun z => y1_3 + z) (by decide : Int32.ofInt 1 = 1)) dX4_lowest_21 (by decide) rfl ?_
          refine r_goto h 2 dX4_lowest_24 (by decide) ?_
          exact J.loc (lv' := [(3, .int (y1_3 + 1)), (0, .ref (aμ 0)), (1, .int x1), (2, .int x2)]) [0, 1, 2, 3] rfl (ih (y1_3 + 1) hF)
        · replace hF := o_neg c5 hF
          refine r_iload_n h 0 rfl rfl dX4_lowest_19 ?_
          cases hF
          exact r_iret h hr dX4_lowest_20 ⟨rfl, rfl⟩
  refine hL2 _ (fun y1_3 hF => ?_) _ (0 : Int32) hF
  refine r_iconst (v := -1) h dX4_lowest_27 (by decide) ?_
  cases hF
  exact r_iret h hr dX4_lowest_28 ⟨rfl, rfl⟩

def FX4_freeSlots_L4 (μ : MDS) (x1 : Int32) (K : Int32 → Int32 → Option (Int32)) : Nat → Int32 → Int32 → Option (Int32)
  | 0, _, _ => none
  | n + 1, y1_3, y1_2 =>
  if (10 : Int32) ≤ y1_3 then
  (K y1_3 y1_2)
else
  ((FX4_machineAt μ x1 y1_3).bind fun z3 =>
  if z3 = (-1 : Int32) then
  (FX4_freeSlots_L4 μ x1 K n (y1_3 + 1) (y1_2 + (1 : Int32)))
else
  (FX4_freeSlots_L4 μ x1 K n (y1_3 + 1) (y1_2 + (0 : Int32))))
def FX4_freeSlots (μ : MDS) (x1 : Int32) : Option (Int32) :=
  FX4_freeSlots_L4 μ x1 (fun (y1_3 : Int32) (y1_2 : Int32) =>
  some y1_2) FU (0 : Int32) (0 : Int32)
abbrev rmX4_freeSlots : Room := { frames := 2, cells := 0, slots := 0, locals := 45 }
set_option maxHeartbeats 4000000 in
set_option maxRecDepth 100000 in
theorem CX4_freeSlots (l : Launch) (D : va_G) (aμ : Nat → Nat) (μ : MDS) (x1 : Int32) (r0 : Int32) (hF : FX4_freeSlots μ x1 = some r0) : Ct l D yX4_freeSlots cX4_freeSlots 4 (some .int) rmX4_freeSlots 0 0 [.ref (aμ 0), .int x1] (mdW D aμ μ) (fun v w => v = some (.int r0) ∧ w = mdW D aμ μ) := by
  refine Ct.of (own := RX4) (lv := [(0, .ref (aμ 0)), (1, .int x1)]) (by decide +kernel) rfl (Nat.le_of_ble_eq_true rfl) rfl (fun X h hr => ?_)
  unfold FX4_freeSlots at hF
  refine r_iconst (v := 0) h dX4_freeSlots_0 (by decide) ?_
  refine r_istore_n (lv' := [(2, .int (0 : Int32)), (0, .ref (aμ 0)), (1, .int x1)]) h rfl dX4_freeSlots_1 (by decide) rfl ?_
  refine r_iconst (v := 0) h dX4_freeSlots_2 (by decide) ?_
  refine r_istore_n (lv' := [(3, .int (0 : Int32)), (2, .int (0 : Int32)), (0, .ref (aμ 0)), (1, .int x1)]) h rfl dX4_freeSlots_3 (by decide) rfl ?_
  have hL4 : ∀ (K : Int32 → Int32 → Option (Int32)) (hK : ∀ (y1_3 : Int32) (y1_2 : Int32), K y1_3 y1_2 = some r0 → J X l rmX4_freeSlots D 4 0 0 (mdW D aμ μ) [(3, .int y1_3), (2, .int y1_2), (0, .ref (aμ 0)), (1, .int x1)] 34 []) (N : Nat), ∀ (y1_3 : Int32) (y1_2 : Int32), FX4_freeSlots_L4 μ x1 K N y1_3 y1_2 = some r0 → J X l rmX4_freeSlots D 4 0 0 (mdW D aμ μ) [(3, .int y1_3), (2, .int y1_2), (0, .ref (aμ 0)), (1, .int x1)] 4 [] := by
    intro K hK N
    induction N with
    | zero =>
      intro y1_3 y1_2 hF
      cases hF
    | succ N ih =>
      intro y1_3 y1_2 hF
      rw [FX4_freeSlots_L4] at hF
      refine r_iload_n h 0 rfl rfl dX4_freeSlots_4 ?_
      refine r_bipush (v := 10) h dX4_freeSlots_5 (by decide) ?_
      refine r_icmp_ge h 34 dX4_freeSlots_7 (by decide) (fun c2 => ?_) (fun c2 => ?_)
      · replace hF := o_pos c2 hF
        exact J.loc (lv' := [(3, .int y1_3), (2, .int y1_2), (0, .ref (aμ 0)), (1, .int x1)]) [0, 1, 2, 3] rfl (hK y1_3 y1_2 hF)
      · replace hF := o_neg c2 hF
        refine r_iload_n h 1 rfl rfl dX4_freeSlots_10 ?_
        refine r_aload_n h 2 rfl rfl dX4_freeSlots_11 ?_
        refine r_iload_n h 3 rfl rfl dX4_freeSlots_12 ?_
        refine r_iload_n h 0 rfl rfl dX4_freeSlots_13 ?_
        obtain ⟨z3, e4, hF⟩ := o_bind hF
        refine r_callVa (q0 := 0) (rest := [.int y1_2]) h hd_X4_machineAt wm_869 dX4_freeSlots_14 (CX4_machineAt l D aμ μ x1 y1_3 z3 e4) rfl rfl rfl ⟨rfl, rfl⟩ ⟨by decide, by decide⟩ (Nat.le_of_ble_eq_true rfl) ⟨by decide, by decide⟩ rfl (fun v w' hp => ?_)
        obtain ⟨rfl, rfl⟩ := hp
        refine r_iconst (v := -1) h dX4_freeSlots_17 (by decide) ?_
        refine r_icmp_ne h 25 dX4_freeSlots_18 (by decide) (fun c5 => ?_) (fun c5 => ?_)
        · replace hF := o_neg c5 hF
          refine r_iconst (v := 0) h dX4_freeSlots_25 (by decide) ?_
          refine r_iadd h dX4_freeSlots_26 ?_
          refine r_istore_n (lv' := [(2, .int (y1_2 + (0 : Int32))), (3, .int y1_3), (0, .ref (aμ 0)), (1, .int x1)]) h rfl dX4_freeSlots_27 (by decide) rfl ?_
          refine r_iinc (lv' := [(3, .int (y1_3 + 1)), (2, .int (y1_2 + (0 : Int32))), (0, .ref (aμ 0)), (1, .int x1)]) h 1 rfl (congrArg (fun z => y1_3 + z) (by decide : Int32.ofInt 1 = 1)) dX4_freeSlots_28 (by decide) rfl ?_
          refine r_goto h 4 dX4_freeSlots_31 (by decide) ?_
          exact J.loc (lv' := [(3, .int (y1_3 + 1)), (2, .int (y1_2 + (0 : Int32))), (0, .ref (aμ 0)), (1, .int x1)]) [0, 1, 2, 3] rfl (ih (y1_3 + 1) (y1_2 + (0 : Int32)) hF)
        · replace hF := o_pos c5 hF
          refine r_iconst (v := 1) h dX4_freeSlots_21 (by decide) ?_
          refine r_goto h 26 dX4_freeSlots_22 (by decide) ?_
          refine r_iadd h dX4_freeSlots_26 ?_
          refine r_istore_n (lv' := [(2, .int (y1_2 + (1 : Int32))), (3, .int y1_3), (0, .ref (aμ 0)), (1, .int x1)]) h rfl dX4_freeSlots_27 (by decide) rfl ?_
          refine r_iinc (lv' := [(3, .int (y1_3 + 1)), (2, .int (y1_2 + (1 : Int32))), (0, .ref (aμ 0)), (1, .int x1)]) h 1 rfl (congrArg (fun z => y1_3 + z) (by decide : Int32.ofInt 1 = 1)) dX4_freeSlots_28 (by decide) rfl ?_
          refine r_goto h 4 dX4_freeSlots_31 (by decide) ?_
          exact J.loc (lv' := [(3, .int (y1_3 + 1)), (2, .int (y1_2 + (1 : Int32))), (0, .ref (aμ 0)), (1, .int x1)]) [0, 1, 2, 3] rfl (ih (y1_3 + 1) (y1_2 + (1 : Int32)) hF)
  refine hL4 _ (fun y1_3 y1_2 hF => ?_) _ (0 : Int32) (0 : Int32) hF
  refine r_iload_n h 1 rfl rfl dX4_freeSlots_34 ?_
  cases hF
  exact r_iret h hr dX4_freeSlots_35 ⟨rfl, rfl⟩

def FX4_machinesIn_L4 (μ : MDS) (x1 : Int32) (K : Int32 → Int32 → Option (Int32)) : Nat → Int32 → Int32 → Option (Int32)
  | 0, _, _ => none
  | n + 1, y1_3, y1_2 =>
  gd (¬ ((13 : Int32) < 0 ∨ 219 ≤ ((13 : Int32)).toNatClampNeg)) (
  if (μ.1 ((13 : Int32)).toNatClampNeg) ≤ y1_3 then
  (K y1_3 y1_2)
else
  ((FX4_of μ y1_3 (4 : Int32)).bind fun z3 =>
  if z3 = x1 then
  (FX4_machinesIn_L4 μ x1 K n (y1_3 + 1) (y1_2 + (1 : Int32)))
else
  (FX4_machinesIn_L4 μ x1 K n (y1_3 + 1) (y1_2 + (0 : Int32)))))
def FX4_machinesIn (μ : MDS) (x1 : Int32) : Option (Int32) :=
  FX4_machinesIn_L4 μ x1 (fun (y1_3 : Int32) (y1_2 : Int32) =>
  some y1_2) FU (0 : Int32) (0 : Int32)
abbrev rmX4_machinesIn : Room := { frames := 1, cells := 0, slots := 0, locals := 22 }
set_option maxHeartbeats 4000000 in
set_option maxRecDepth 100000 in
theorem CX4_machinesIn (l : Launch) (D : va_G) (aμ : Nat → Nat) (μ : MDS) (x1 : Int32) (r0 : Int32) (hF : FX4_machinesIn μ x1 = some r0) : Ct l D yX4_machinesIn cX4_machinesIn 4 (some .int) rmX4_machinesIn 0 0 [.ref (aμ 0), .int x1] (mdW D aμ μ) (fun v w => v = some (.int r0) ∧ w = mdW D aμ μ) := by
  refine Ct.of (own := RX4) (lv := [(0, .ref (aμ 0)), (1, .int x1)]) (by decide +kernel) rfl (Nat.le_of_ble_eq_true rfl) rfl (fun X h hr => ?_)
  unfold FX4_machinesIn at hF
  refine r_iconst (v := 0) h dX4_machinesIn_0 (by decide) ?_
  refine r_istore_n (lv' := [(2, .int (0 : Int32)), (0, .ref (aμ 0)), (1, .int x1)]) h rfl dX4_machinesIn_1 (by decide) rfl ?_
  refine r_iconst (v := 0) h dX4_machinesIn_2 (by decide) ?_
  refine r_istore_n (lv' := [(3, .int (0 : Int32)), (2, .int (0 : Int32)), (0, .ref (aμ 0)), (1, .int x1)]) h rfl dX4_machinesIn_3 (by decide) rfl ?_
  have hL4 : ∀ (K : Int32 → Int32 → Option (Int32)) (hK : ∀ (y1_3 : Int32) (y1_2 : Int32), K y1_3 y1_2 = some r0 → J X l rmX4_machinesIn D 4 0 0 (mdW D aμ μ) [(3, .int y1_3), (2, .int y1_2), (0, .ref (aμ 0)), (1, .int x1)] 39 []) (N : Nat), ∀ (y1_3 : Int32) (y1_2 : Int32), FX4_machinesIn_L4 μ x1 K N y1_3 y1_2 = some r0 → J X l rmX4_machinesIn D 4 0 0 (mdW D aμ μ) [(3, .int y1_3), (2, .int y1_2), (0, .ref (aμ 0)), (1, .int x1)] 4 [] := by
    intro K hK N
    induction N with
    | zero =>
      intro y1_3 y1_2 hF
      cases hF
    | succ N ih =>
      intro y1_3 y1_2 hF
      rw [FX4_machinesIn_L4] at hF
      refine r_iload_n h 0 rfl rfl dX4_machinesIn_4 ?_
      refine r_aload_n h 2 rfl rfl dX4_machinesIn_5 ?_
      refine r_get h fl_X4_7 0 rfl rfl dX4_machinesIn_6 ?_
      refine r_bipush (v := 13) h dX4_machinesIn_9 (by decide) ?_
      obtain ⟨hN, hF⟩ := o_gd hF
      refine r_iald h 1 rfl hN dX4_machinesIn_11 ?_
      refine r_icmp_ge h 39 dX4_machinesIn_12 (by decide) (fun c2 => ?_) (fun c2 => ?_)
      · replace hF := o_pos c2 hF
        exact J.loc (lv' := [(3, .int y1_3), (2, .int y1_2), (0, .ref (aμ 0)), (1, .int x1)]) [0, 1, 2, 3] rfl (hK y1_3 y1_2 hF)
      · replace hF := o_neg c2 hF
        refine r_iload_n h 1 rfl rfl dX4_machinesIn_15 ?_
        refine r_aload_n h 2 rfl rfl dX4_machinesIn_16 ?_
        refine r_iload_n h 0 rfl rfl dX4_machinesIn_17 ?_
        refine r_iconst (v := 4) h dX4_machinesIn_18 (by decide) ?_
        obtain ⟨z3, e4, hF⟩ := o_bind hF
        refine r_callVa (q0 := 0) (rest := [.int y1_2]) h hd_X4_of wm_837 dX4_machinesIn_19 (CX4_of l D aμ μ y1_3 (4 : Int32) z3 e4) rfl rfl rfl ⟨rfl, rfl⟩ ⟨by decide, by decide⟩ (Nat.le_of_ble_eq_true rfl) ⟨by decide, by decide⟩ rfl (fun v w' hp => ?_)
        obtain ⟨rfl, rfl⟩ := hp
        refine r_iload_n h 3 rfl rfl dX4_machinesIn_22 ?_
        refine r_icmp_ne h 30 dX4_machinesIn_23 (by decide) (fun c5 => ?_) (fun c5 => ?_)
        · replace hF := o_neg c5 hF
          refine r_iconst (v := 0) h dX4_machinesIn_30 (by decide) ?_
          refine r_iadd h dX4_machinesIn_31 ?_
          refine r_istore_n (lv' := [(2, .int (y1_2 + (0 : Int32))), (3, .int y1_3), (0, .ref (aμ 0)), (1, .int x1)]) h rfl dX4_machinesIn_32 (by decide) rfl ?_
          refine r_iinc (lv' := [(3, .int (y1_3 + 1)), (2, .int (y1_2 + (0 : Int32))), (0, .ref (aμ 0)), (1, .int x1)]) h 1 rfl (congrArg (fun z => y1_3 + z) (by decide : Int32.ofInt 1 = 1)) dX4_machinesIn_33 (by decide) rfl ?_
          refine r_goto h 4 dX4_machinesIn_36 (by decide) ?_
          exact J.loc (lv' := [(3, .int (y1_3 + 1)), (2, .int (y1_2 + (0 : Int32))), (0, .ref (aμ 0)), (1, .int x1)]) [0, 1, 2, 3] rfl (ih (y1_3 + 1) (y1_2 + (0 : Int32)) hF)
        · replace hF := o_pos c5 hF
          refine r_iconst (v := 1) h dX4_machinesIn_26 (by decide) ?_
          refine r_goto h 31 dX4_machinesIn_27 (by decide) ?_
          refine r_iadd h dX4_machinesIn_31 ?_
          refine r_istore_n (lv' := [(2, .int (y1_2 + (1 : Int32))), (3, .int y1_3), (0, .ref (aμ 0)), (1, .int x1)]) h rfl dX4_machinesIn_32 (by decide) rfl ?_
          refine r_iinc (lv' := [(3, .int (y1_3 + 1)), (2, .int (y1_2 + (1 : Int32))), (0, .ref (aμ 0)), (1, .int x1)]) h 1 rfl (congrArg (fun z => y1_3 + z) (by decide : Int32.ofInt 1 = 1)) dX4_machinesIn_33 (by decide) rfl ?_
          refine r_goto h 4 dX4_machinesIn_36 (by decide) ?_
          exact J.loc (lv' := [(3, .int (y1_3 + 1)), (2, .int (y1_2 + (1 : Int32))), (0, .ref (aμ 0)), (1, .int x1)]) [0, 1, 2, 3] rfl (ih (y1_3 + 1) (y1_2 + (1 : Int32)) hF)
  refine hL4 _ (fun y1_3 y1_2 hF => ?_) _ (0 : Int32) (0 : Int32) hF
  refine r_iload_n h 1 rfl rfl dX4_machinesIn_39 ?_
  cases hF
  exact r_iret h hr dX4_machinesIn_40 ⟨rfl, rfl⟩

def FX4_tellRack_L83 (μ : MDS) (x1 : Int32) (K : Int32 → Option (Int32)) : Nat → Int32 → Option (Int32)
  | 0, _ => none
  | n + 1, y2_3 =>
  if y2_3 ≤ 0 then
  (K y2_3)
else
  ((FX4_lowest μ x1 y2_3).bind fun z4 =>
  if z4 = (-1 : Int32) then
  (FX4_tellRack_L83 μ x1 K n (y2_3 + (-1)))
else
  (K y2_3))
def FX4_tellRack (μ : MDS) (x1 : Int32) (x2 : Int32) : Option (Int32) :=
  if (x2).toInt < 0 ∨ 6 < (x2).toInt then
  (FX4_tellRack_L83 μ x1 (fun (y2_3 : Int32) =>
  some y2_3) FU (4 : Int32))
else if x2 = (0 : Int32) then
  (gd (¬ (((0 : Int32) + x1) < 0 ∨ 219 ≤ ((0 : Int32) + x1).toNatClampNeg)) (
  nmv (μ.1 ((0 : Int32) + x1).toNatClampNeg) fun u8 =>
  some u8))
else if x2 = (1 : Int32) then
  ((FX4_load μ x1 (-1 : Int32)).bind fun z10 =>
  some z10)
else if x2 = (2 : Int32) then
  ((FX4_load μ x1 (x2 - (2 : Int32))).bind fun z13 =>
  some z13)
else if x2 = (3 : Int32) then
  ((FX4_load μ x1 (x2 - (2 : Int32))).bind fun z16 =>
  some z16)
else if x2 = (4 : Int32) then
  ((FX4_load μ x1 (x2 - (2 : Int32))).bind fun z19 =>
  some z19)
else if x2 = (5 : Int32) then
  ((FX4_machinesIn μ x1).bind fun z22 =>
  some z22)
else if x2 = (6 : Int32) then
  ((FX4_freeSlots μ x1).bind fun z25 =>
  some z25)
else none
abbrev rmX4_tellRack : Room := { frames := 4, cells := 0, slots := 0, locals := 95 }
set_option maxHeartbeats 4000000 in
set_option maxRecDepth 100000 in
theorem CX4_tellRack (l : Launch) (D : va_G) (aμ : Nat → Nat) (μ : MDS) (x1 : Int32) (x2 : Int32) (r0 : Int32) (hF : FX4_tellRack μ x1 x2 = some r0) : Ct l D yX4_tellRack cX4_tellRack 4 (some .int) rmX4_tellRack 0 0 [.ref (aμ 0), .int x1, .int x2] (mdW D aμ μ) (fun v w => v = some (.int r0) ∧ w = mdW D aμ μ) := by
  refine Ct.of (own := RX4) (lv := [(0, .ref (aμ 0)), (1, .int x1), (2, .int x2)]) (by decide +kernel) rfl (Nat.le_of_ble_eq_true rfl) rfl (fun X h hr => ?_)
  unfold FX4_tellRack at hF
  refine r_iload_n h 2 rfl rfl dX4_tellRack_0 ?_
  by_cases c1 : (x2).toInt < 0 ∨ 6 < (x2).toInt
  · replace hF := o_pos c1 hF
    refine r_tswOut h 81 dX4_tellRack_1 c1 (by decide) ?_
    refine r_iconst (v := 4) h dX4_tellRack_81 (by decide) ?_
    refine r_istore_n (lv' := [(3, .int (4 : Int32)), (0, .ref (aμ 0)), (1, .int x1), (2, .int x2)]) h rfl dX4_tellRack_82 (by decide) rfl ?_
    have hL83 : ∀ (K : Int32 → Option (Int32)) (hK : ∀ (y2_3 : Int32), K y2_3 = some r0 → J X l rmX4_tellRack D 4 0 0 (mdW D aμ μ) [(3, .int y2_3), (0, .ref (aμ 0)), (1, .int x1), (2, .int x2)] 103 []) (N : Nat), ∀ (y2_3 : Int32), FX4_tellRack_L83 μ x1 K N y2_3 = some r0 → J X l rmX4_tellRack D 4 0 0 (mdW D aμ μ) [(3, .int y2_3), (0, .ref (aμ 0)), (1, .int x1), (2, .int x2)] 83 [] := by
      intro K hK N
      induction N with
      | zero =>
        intro y2_3 hF
        cases hF
      | succ N ih =>
        intro y2_3 hF
        rw [FX4_tellRack_L83] at hF
        refine r_iload_n h 0 rfl rfl dX4_tellRack_83 ?_
        refine r_if_le h 103 dX4_tellRack_84 (by decide) (fun c3 => ?_) (fun c3 => ?_)
        · replace hF := o_pos c3 hF
          exact J.loc (lv' := [(3, .int y2_3), (0, .ref (aμ 0)), (1, .int x1), (2, .int x2)]) [0, 1, 2, 3] rfl (hK y2_3 hF)
        · replace hF := o_neg c3 hF
          refine r_aload_n h 1 rfl rfl dX4_tellRack_87 ?_
          refine r_iload_n h 2 rfl rfl dX4_tellRack_88 ?_
          refine r_iload_n h 0 rfl rfl dX4_tellRack_89 ?_
          obtain ⟨z4, e5, hF⟩ := o_bind hF
          refine r_callVa (q0 := 0) (rest := []) h hd_X4_lowest wm_873 dX4_tellRack_90 (CX4_lowest l D aμ μ x1 y2_3 z4 e5) rfl rfl rfl ⟨rfl, rfl⟩ ⟨by decide, by decide⟩ (Nat.le_of_ble_eq_true rfl) ⟨by decide, by decide⟩ rfl (fun v w' hp => ?_)
          obtain ⟨rfl, rfl⟩ := hp
          refine r_iconst (v := -1) h dX4_tellRack_93 (by decide) ?_
          refine r_icmp_ne h 103 dX4_tellRack_94 (by decide) (fun c6 => ?_) (fun c6 => ?_)
          · replace hF := o_neg c6 hF
            exact J.loc (lv' := [(3, .int y2_3), (0, .ref (aμ 0)), (1, .int x1), (2, .int x2)]) [0, 1, 2, 3] rfl (hK y2_3 hF)
          · replace hF := o_pos c6 hF
            refine r_iinc (lv' := [(3, .int (y2_3 + (-1))), (0, .ref (aμ 0)), (1, .int x1), (2, .int x2)]) h 0 rfl (congrArg (fun z => y2_3 + z) (by decide : Int32.ofInt (-1) = (-1))) dX4_tellRack_97 (by decide) rfl ?_
            refine r_goto h 83 dX4_tellRack_100 (by decide) ?_
            exact J.loc (lv' := [(3, .int (y2_3 + (-1))), (0, .ref (aμ 0)), (1, .int x1), (2, .int x2)]) [0, 1, 2, 3] rfl (ih (y2_3 + (-1)) hF)
    refine hL83 _ (fun y2_3 hF => ?_) _ (4 : Int32) hF
    refine r_iload_n h 0 rfl rfl dX4_tellRack_103 ?_
    cases hF
    exact r_iret h hr dX4_tellRack_104 ⟨rfl, rfl⟩
  · replace hF := o_neg c1 hF
    by_cases c7 : x2 = (0 : Int32)
    · replace hF := o_pos c7 hF
      refine r_tswIn h (0 : Int32) c7 44 dX4_tellRack_1 (by decide) (by decide) rfl (by decide) ?_
      refine r_aload_n h 0 rfl rfl dX4_tellRack_44 ?_
      refine r_get h fl_X4_7 0 rfl rfl dX4_tellRack_45 ?_
      refine r_iconst (v := 0) h dX4_tellRack_48 (by decide) ?_
      refine r_iload_n h 1 rfl rfl dX4_tellRack_49 ?_
      refine r_iadd h dX4_tellRack_50 ?_
      obtain ⟨hN, hF⟩ := o_gd hF
      refine r_iald h 1 rfl hN dX4_tellRack_51 ?_
      obtain ⟨u8, hu8, hF⟩ := o_nm hF
      refine J.top hu8 ?_
      cases hF
      exact r_iret h hr dX4_tellRack_52 ⟨rfl, rfl⟩
    · replace hF := o_neg c7 hF
      by_cases c9 : x2 = (1 : Int32)
      · replace hF := o_pos c9 hF
        refine r_tswIn h (1 : Int32) c9 53 dX4_tellRack_1 (by decide) (by decide) rfl (by decide) ?_
        refine r_aload_n h 0 rfl rfl dX4_tellRack_53 ?_
        refine r_iload_n h 1 rfl rfl dX4_tellRack_54 ?_
        refine r_iconst (v := -1) h dX4_tellRack_55 (by decide) ?_
        obtain ⟨z10, e11, hF⟩ := o_bind hF
        refine r_callVa (q0 := 0) (rest := []) h hd_X4_load wm_857 dX4_tellRack_56 (CX4_load l D aμ μ x1 (-1 : Int32) z10 e11) rfl rfl rfl ⟨rfl, rfl⟩ ⟨by decide, by decide⟩ (Nat.le_of_ble_eq_true rfl) ⟨by decide, by decide⟩ rfl (fun v w' hp => ?_)
        obtain ⟨rfl, rfl⟩ := hp
        cases hF
        exact r_iret h hr dX4_tellRack_59 ⟨rfl, rfl⟩
      · replace hF := o_neg c9 hF
        by_cases c12 : x2 = (2 : Int32)
        · replace hF := o_pos c12 hF
          refine r_tswIn h (2 : Int32) c12 60 dX4_tellRack_1 (by decide) (by decide) rfl (by decide) ?_
          refine r_aload_n h 0 rfl rfl dX4_tellRack_60 ?_
          refine r_iload_n h 1 rfl rfl dX4_tellRack_61 ?_
          refine r_iload_n h 2 rfl rfl dX4_tellRack_62 ?_
          refine r_iconst (v := 2) h dX4_tellRack_63 (by decide) ?_
          refine r_isub h dX4_tellRack_64 ?_
          obtain ⟨z13, e14, hF⟩ := o_bind hF
          refine r_callVa (q0 := 0) (rest := []) h hd_X4_load wm_857 dX4_tellRack_65 (CX4_load l D aμ μ x1 (x2 - (2 : Int32)) z13 e14) rfl rfl rfl ⟨rfl, rfl⟩ ⟨by decide, by decide⟩ (Nat.le_of_ble_eq_true rfl) ⟨by decide, by decide⟩ rfl (fun v w' hp => ?_)
          obtain ⟨rfl, rfl⟩ := hp
          cases hF
          exact r_iret h hr dX4_tellRack_68 ⟨rfl, rfl⟩
        · replace hF := o_neg c12 hF
          by_cases c15 : x2 = (3 : Int32)
          · replace hF := o_pos c15 hF
            refine r_tswIn h (3 : Int32) c15 60 dX4_tellRack_1 (by decide) (by decide) rfl (by decide) ?_
            refine r_aload_n h 0 rfl rfl dX4_tellRack_60 ?_
            refine r_iload_n h 1 rfl rfl dX4_tellRack_61 ?_
            refine r_iload_n h 2 rfl rfl dX4_tellRack_62 ?_
            refine r_iconst (v := 2) h dX4_tellRack_63 (by decide) ?_
            refine r_isub h dX4_tellRack_64 ?_
            obtain ⟨z16, e17, hF⟩ := o_bind hF
            refine r_callVa (q0 := 0) (rest := []) h hd_X4_load wm_857 dX4_tellRack_65 (CX4_load l D aμ μ x1 (x2 - (2 : Int32)) z16 e17) rfl rfl rfl ⟨rfl, rfl⟩ ⟨by decide, by decide⟩ (Nat.le_of_ble_eq_true rfl) ⟨by decide, by decide⟩ rfl (fun v w' hp => ?_)
            obtain ⟨rfl, rfl⟩ := hp
            cases hF
            exact r_iret h hr dX4_tellRack_68 ⟨rfl, rfl⟩
          · replace hF := o_neg c15 hF
            by_cases c18 : x2 = (4 : Int32)
            · replace hF := o_pos c18 hF
              refine r_tswIn h (4 : Int32) c18 60 dX4_tellRack_1 (by decide) (by decide) rfl (by decide) ?_
              refine r_aload_n h 0 rfl rfl dX4_tellRack_60 ?_
              refine r_iload_n h 1 rfl rfl dX4_tellRack_61 ?_
              refine r_iload_n h 2 rfl rfl dX4_tellRack_62 ?_
              refine r_iconst (v := 2) h dX4_tellRack_63 (by decide) ?_
              refine r_isub h dX4_tellRack_64 ?_
              obtain ⟨z19, e20, hF⟩ := o_bind hF
              refine r_callVa (q0 := 0) (rest := []) h hd_X4_load wm_857 dX4_tellRack_65 (CX4_load l D aμ μ x1 (x2 - (2 : Int32)) z19 e20) rfl rfl rfl ⟨rfl, rfl⟩ ⟨by decide, by decide⟩ (Nat.le_of_ble_eq_true rfl) ⟨by decide, by decide⟩ rfl (fun v w' hp => ?_)
              obtain ⟨rfl, rfl⟩ := hp
              cases hF
              exact r_iret h hr dX4_tellRack_68 ⟨rfl, rfl⟩
            · replace hF := o_neg c18 hF
              by_cases c21 : x2 = (5 : Int32)
              · replace hF := o_pos c21 hF
                refine r_tswIn h (5 : Int32) c21 69 dX4_tellRack_1 (by decide) (by decide) rfl (by decide) ?_
                refine r_aload_n h 0 rfl rfl dX4_tellRack_69 ?_
                refine r_iload_n h 1 rfl rfl dX4_tellRack_70 ?_
                obtain ⟨z22, e23, hF⟩ := o_bind hF
                refine r_callVa (q0 := 0) (rest := []) h hd_X4_machinesIn wm_861 dX4_tellRack_71 (CX4_machinesIn l D aμ μ x1 z22 e23) rfl rfl rfl ⟨rfl, rfl⟩ ⟨by decide, by decide⟩ (Nat.le_of_ble_eq_true rfl) ⟨by decide, by decide⟩ rfl (fun v w' hp => ?_)
                obtain ⟨rfl, rfl⟩ := hp
                cases hF
                exact r_iret h hr dX4_tellRack_74 ⟨rfl, rfl⟩
              · replace hF := o_neg c21 hF
                by_cases c24 : x2 = (6 : Int32)
                · replace hF := o_pos c24 hF
                  refine r_tswIn h (6 : Int32) c24 75 dX4_tellRack_1 (by decide) (by decide) rfl (by decide) ?_
                  refine r_aload_n h 0 rfl rfl dX4_tellRack_75 ?_
                  refine r_iload_n h 1 rfl rfl dX4_tellRack_76 ?_
                  obtain ⟨z25, e26, hF⟩ := o_bind hF
                  refine r_callVa (q0 := 0) (rest := []) h hd_X4_freeSlots wm_865 dX4_tellRack_77 (CX4_freeSlots l D aμ μ x1 z25 e26) rfl rfl rfl ⟨rfl, rfl⟩ ⟨by decide, by decide⟩ (Nat.le_of_ble_eq_true rfl) ⟨by decide, by decide⟩ rfl (fun v w' hp => ?_)
                  obtain ⟨rfl, rfl⟩ := hp
                  cases hF
                  exact r_iret h hr dX4_tellRack_80 ⟨rfl, rfl⟩
                · replace hF := o_neg c24 hF
                  cases hF

def FX4_rack (μ : MDS) (x1 : Int32) (x2 : Int32) : Option (Int32 × MDS) :=
  (FX4_isRack x1).bind fun z1 =>
  if z1 = 0 then
  ((FX4_refused μ (1 : Int32)).bind fun z17 =>
  if z17.1 = 0 then
  ((FX4_tellRack z17.2 x1 x2).bind fun z20 =>
  some (z20, z17.2))
else
  (some ((0 : Int32), z17.2)))
else
  ((FX4_in x2 (0 : Int32) (7 : Int32)).bind fun z4 =>
  if z4 = 0 then
  ((FX4_refused μ (2 : Int32)).bind fun z7 =>
  if z7.1 = 0 then
  ((FX4_tellRack z7.2 x1 x2).bind fun z10 =>
  some (z10, z7.2))
else
  (some ((0 : Int32), z7.2)))
else
  ((FX4_refused μ (0 : Int32)).bind fun z12 =>
  if z12.1 = 0 then
  ((FX4_tellRack z12.2 x1 x2).bind fun z15 =>
  some (z15, z12.2))
else
  (some ((0 : Int32), z12.2))))
abbrev rmX4_rack : Room := { frames := 5, cells := 0, slots := 0, locals := 118 }
set_option maxHeartbeats 4000000 in
set_option maxRecDepth 100000 in
theorem CX4_rack (l : Launch) (D : va_G) (aμ : Nat → Nat) (μ : MDS) (x1 : Int32) (x2 : Int32) (r0 : Int32) (μ0 : MDS) (hF : FX4_rack μ x1 x2 = some (r0, μ0)) : Ct l D yX4_rack cX4_rack 3 (some .int) rmX4_rack 0 0 [.ref (aμ 0), .int x1, .int x2] (mdW D aμ μ) (fun v w => v = some (.int r0) ∧ w = mdW D aμ μ0) := by
  refine Ct.of (own := RX4) (lv := [(0, .ref (aμ 0)), (1, .int x1), (2, .int x2)]) (by decide +kernel) rfl (Nat.le_of_ble_eq_true rfl) rfl (fun X h hr => ?_)
  unfold FX4_rack at hF
  refine r_aload_n h 0 rfl rfl dX4_rack_0 ?_
  refine r_iload_n h 1 rfl rfl dX4_rack_1 ?_
  obtain ⟨z1, e2, hF⟩ := o_bind hF
  refine r_callSp (rest := [.ref (aμ 0)]) h hd_X4_isRack wm_760 dX4_rack_2 (CX4_isRack l D x1 z1 e2) rfl ⟨rfl, rfl⟩ ⟨by decide, by decide⟩ (Nat.le_of_ble_eq_true rfl) ⟨by decide, by decide⟩ rfl ?_
  refine r_if_ne h 12 dX4_rack_5 (by decide) (fun c3 => ?_) (fun c3 => ?_)
  · replace hF := o_neg c3 hF
    refine r_iload_n h 2 rfl rfl dX4_rack_12 ?_
    refine r_iconst (v := 0) h dX4_rack_13 (by decide) ?_
    refine r_bipush (v := 7) h dX4_rack_14 (by decide) ?_
    obtain ⟨z4, e5, hF⟩ := o_bind hF
    refine r_callSp (rest := [.ref (aμ 0)]) h hd_X4_in wm_763 dX4_rack_16 (CX4_in l D x2 (0 : Int32) (7 : Int32) z4 e5) rfl ⟨rfl, rfl⟩ ⟨by decide, by decide⟩ (Nat.le_of_ble_eq_true rfl) ⟨by decide, by decide⟩ rfl ?_
    refine r_if_eq h 26 dX4_rack_19 (by decide) (fun c6 => ?_) (fun c6 => ?_)
    · replace hF := o_pos c6 hF
      refine r_iconst (v := 2) h dX4_rack_26 (by decide) ?_
      obtain ⟨z7, e8, hF⟩ := o_bind hF
      refine r_callVa (q0 := 0) (rest := []) h hd_X4_refused wm_752 dX4_rack_27 (CX4_refused l D aμ μ (2 : Int32) z7.1 z7.2 e8) rfl rfl rfl ⟨rfl, rfl⟩ ⟨by decide, by decide⟩ (Nat.le_of_ble_eq_true rfl) ⟨by decide, by decide⟩ rfl (fun v w' hp => ?_)
      obtain ⟨rfl, rfl⟩ := hp
      refine r_if_eq h 37 dX4_rack_30 (by decide) (fun c9 => ?_) (fun c9 => ?_)
      · replace hF := o_pos c9 hF
        refine r_aload_n h 0 rfl rfl dX4_rack_37 ?_
        refine r_iload_n h 1 rfl rfl dX4_rack_38 ?_
        refine r_iload_n h 2 rfl rfl dX4_rack_39 ?_
        obtain ⟨z10, e11, hF⟩ := o_bind hF
        refine r_callVa (q0 := 0) (rest := []) h hd_X4_tellRack wm_853 dX4_rack_40 (CX4_tellRack l D aμ z7.2 x1 x2 z10 e11) rfl rfl rfl ⟨rfl, rfl⟩ ⟨by decide, by decide⟩ (Nat.le_of_ble_eq_true rfl) ⟨by decide, by decide⟩ rfl (fun v w' hp => ?_)
        obtain ⟨rfl, rfl⟩ := hp
        cases hF
        exact r_iret h hr dX4_rack_43 ⟨rfl, rfl⟩
      · replace hF := o_neg c9 hF
        refine r_iconst (v := 0) h dX4_rack_33 (by decide) ?_
        refine r_goto h 43 dX4_rack_34 (by decide) ?_
        cases hF
        exact r_iret h hr dX4_rack_43 ⟨rfl, rfl⟩
    · replace hF := o_neg c6 hF
      refine r_iconst (v := 0) h dX4_rack_22 (by decide) ?_
      refine r_goto h 27 dX4_rack_23 (by decide) ?_
      obtain ⟨z12, e13, hF⟩ := o_bind hF
      refine r_callVa (q0 := 0) (rest := []) h hd_X4_refused wm_752 dX4_rack_27 (CX4_refused l D aμ μ (0 : Int32) z12.1 z12.2 e13) rfl rfl rfl ⟨rfl, rfl⟩ ⟨by decide, by decide⟩ (Nat.le_of_ble_eq_true rfl) ⟨by decide, by decide⟩ rfl (fun v w' hp => ?_)
      obtain ⟨rfl, rfl⟩ := hp
      refine r_if_eq h 37 dX4_rack_30 (by decide) (fun c14 => ?_) (fun c14 => ?_)
      · replace hF := o_pos c14 hF
        refine r_aload_n h 0 rfl rfl dX4_rack_37 ?_
        refine r_iload_n h 1 rfl rfl dX4_rack_38 ?_
        refine r_iload_n h 2 rfl rfl dX4_rack_39 ?_
        obtain ⟨z15, e16, hF⟩ := o_bind hF
        refine r_callVa (q0 := 0) (rest := []) h hd_X4_tellRack wm_853 dX4_rack_40 (CX4_tellRack l D aμ z12.2 x1 x2 z15 e16) rfl rfl rfl ⟨rfl, rfl⟩ ⟨by decide, by decide⟩ (Nat.le_of_ble_eq_true rfl) ⟨by decide, by decide⟩ rfl (fun v w' hp => ?_)
        obtain ⟨rfl, rfl⟩ := hp
        cases hF
        exact r_iret h hr dX4_rack_43 ⟨rfl, rfl⟩
      · replace hF := o_neg c14 hF
        refine r_iconst (v := 0) h dX4_rack_33 (by decide) ?_
        refine r_goto h 43 dX4_rack_34 (by decide) ?_
        cases hF
        exact r_iret h hr dX4_rack_43 ⟨rfl, rfl⟩
  · replace hF := o_pos c3 hF
    refine r_iconst (v := 1) h dX4_rack_8 (by decide) ?_
    refine r_goto h 27 dX4_rack_9 (by decide) ?_
    obtain ⟨z17, e18, hF⟩ := o_bind hF
    refine r_callVa (q0 := 0) (rest := []) h hd_X4_refused wm_752 dX4_rack_27 (CX4_refused l D aμ μ (1 : Int32) z17.1 z17.2 e18) rfl rfl rfl ⟨rfl, rfl⟩ ⟨by decide, by decide⟩ (Nat.le_of_ble_eq_true rfl) ⟨by decide, by decide⟩ rfl (fun v w' hp => ?_)
    obtain ⟨rfl, rfl⟩ := hp
    refine r_if_eq h 37 dX4_rack_30 (by decide) (fun c19 => ?_) (fun c19 => ?_)
    · replace hF := o_pos c19 hF
      refine r_aload_n h 0 rfl rfl dX4_rack_37 ?_
      refine r_iload_n h 1 rfl rfl dX4_rack_38 ?_
      refine r_iload_n h 2 rfl rfl dX4_rack_39 ?_
      obtain ⟨z20, e21, hF⟩ := o_bind hF
      refine r_callVa (q0 := 0) (rest := []) h hd_X4_tellRack wm_853 dX4_rack_40 (CX4_tellRack l D aμ z17.2 x1 x2 z20 e21) rfl rfl rfl ⟨rfl, rfl⟩ ⟨by decide, by decide⟩ (Nat.le_of_ble_eq_true rfl) ⟨by decide, by decide⟩ rfl (fun v w' hp => ?_)
      obtain ⟨rfl, rfl⟩ := hp
      cases hF
      exact r_iret h hr dX4_rack_43 ⟨rfl, rfl⟩
    · replace hF := o_neg c19 hF
      refine r_iconst (v := 0) h dX4_rack_33 (by decide) ?_
      refine r_goto h 43 dX4_rack_34 (by decide) ?_
      cases hF
      exact r_iret h hr dX4_rack_43 ⟨rfl, rfl⟩

def FX4_slot (μ : MDS) (x1 : Int32) (x2 : Int32) : Option (Int32 × MDS) :=
  (FX4_isRack x1).bind fun z1 =>
  if z1 = 0 then
  ((FX4_refused μ (1 : Int32)).bind fun z4 =>
  if z4.1 = 0 then
  ((FX4_machineAt z4.2 x1 x2).bind fun z7 =>
  some (z7, z4.2))
else
  (some ((0 : Int32), z4.2)))
else
  ((FX4_in x2 (0 : Int32) (9 : Int32)).bind fun z9 =>
  if z9 = 0 then
  ((FX4_refused μ (1 : Int32)).bind fun z12 =>
  if z12.1 = 0 then
  ((FX4_machineAt z12.2 x1 x2).bind fun z15 =>
  some (z15, z12.2))
else
  (some ((0 : Int32), z12.2)))
else
  ((FX4_refused μ (0 : Int32)).bind fun z17 =>
  if z17.1 = 0 then
  ((FX4_machineAt z17.2 x1 x2).bind fun z20 =>
  some (z20, z17.2))
else
  (some ((0 : Int32), z17.2))))
abbrev rmX4_slot : Room := { frames := 2, cells := 0, slots := 0, locals := 45 }
set_option maxHeartbeats 4000000 in
set_option maxRecDepth 100000 in
theorem CX4_slot (l : Launch) (D : va_G) (aμ : Nat → Nat) (μ : MDS) (x1 : Int32) (x2 : Int32) (r0 : Int32) (μ0 : MDS) (hF : FX4_slot μ x1 x2 = some (r0, μ0)) : Ct l D yX4_slot cX4_slot 3 (some .int) rmX4_slot 0 0 [.ref (aμ 0), .int x1, .int x2] (mdW D aμ μ) (fun v w => v = some (.int r0) ∧ w = mdW D aμ μ0) := by
  refine Ct.of (own := RX4) (lv := [(0, .ref (aμ 0)), (1, .int x1), (2, .int x2)]) (by decide +kernel) rfl (Nat.le_of_ble_eq_true rfl) rfl (fun X h hr => ?_)
  unfold FX4_slot at hF
  refine r_aload_n h 0 rfl rfl dX4_slot_0 ?_
  refine r_iload_n h 1 rfl rfl dX4_slot_1 ?_
  obtain ⟨z1, e2, hF⟩ := o_bind hF
  refine r_callSp (rest := [.ref (aμ 0)]) h hd_X4_isRack wm_760 dX4_slot_2 (CX4_isRack l D x1 z1 e2) rfl ⟨rfl, rfl⟩ ⟨by decide, by decide⟩ (Nat.le_of_ble_eq_true rfl) ⟨by decide, by decide⟩ rfl ?_
  refine r_if_eq h 22 dX4_slot_5 (by decide) (fun c3 => ?_) (fun c3 => ?_)
  · replace hF := o_pos c3 hF
    refine r_iconst (v := 1) h dX4_slot_22 (by decide) ?_
    obtain ⟨z4, e5, hF⟩ := o_bind hF
    refine r_callVa (q0 := 0) (rest := []) h hd_X4_refused wm_752 dX4_slot_23 (CX4_refused l D aμ μ (1 : Int32) z4.1 z4.2 e5) rfl rfl rfl ⟨rfl, rfl⟩ ⟨by decide, by decide⟩ (Nat.le_of_ble_eq_true rfl) ⟨by decide, by decide⟩ rfl (fun v w' hp => ?_)
    obtain ⟨rfl, rfl⟩ := hp
    refine r_if_eq h 33 dX4_slot_26 (by decide) (fun c6 => ?_) (fun c6 => ?_)
    · replace hF := o_pos c6 hF
      refine r_aload_n h 0 rfl rfl dX4_slot_33 ?_
      refine r_iload_n h 1 rfl rfl dX4_slot_34 ?_
      refine r_iload_n h 2 rfl rfl dX4_slot_35 ?_
      obtain ⟨z7, e8, hF⟩ := o_bind hF
      refine r_callVa (q0 := 0) (rest := []) h hd_X4_machineAt wm_869 dX4_slot_36 (CX4_machineAt l D aμ z4.2 x1 x2 z7 e8) rfl rfl rfl ⟨rfl, rfl⟩ ⟨by decide, by decide⟩ (Nat.le_of_ble_eq_true rfl) ⟨by decide, by decide⟩ rfl (fun v w' hp => ?_)
      obtain ⟨rfl, rfl⟩ := hp
      cases hF
      exact r_iret h hr dX4_slot_39 ⟨rfl, rfl⟩
    · replace hF := o_neg c6 hF
      refine r_iconst (v := 0) h dX4_slot_29 (by decide) ?_
      refine r_goto h 39 dX4_slot_30 (by decide) ?_
      cases hF
      exact r_iret h hr dX4_slot_39 ⟨rfl, rfl⟩
  · replace hF := o_neg c3 hF
    refine r_iload_n h 2 rfl rfl dX4_slot_8 ?_
    refine r_iconst (v := 0) h dX4_slot_9 (by decide) ?_
    refine r_bipush (v := 9) h dX4_slot_10 (by decide) ?_
    obtain ⟨z9, e10, hF⟩ := o_bind hF
    refine r_callSp (rest := [.ref (aμ 0)]) h hd_X4_in wm_763 dX4_slot_12 (CX4_in l D x2 (0 : Int32) (9 : Int32) z9 e10) rfl ⟨rfl, rfl⟩ ⟨by decide, by decide⟩ (Nat.le_of_ble_eq_true rfl) ⟨by decide, by decide⟩ rfl ?_
    refine r_if_eq h 22 dX4_slot_15 (by decide) (fun c11 => ?_) (fun c11 => ?_)
    · replace hF := o_pos c11 hF
      refine r_iconst (v := 1) h dX4_slot_22 (by decide) ?_
      obtain ⟨z12, e13, hF⟩ := o_bind hF
      refine r_callVa (q0 := 0) (rest := []) h hd_X4_refused wm_752 dX4_slot_23 (CX4_refused l D aμ μ (1 : Int32) z12.1 z12.2 e13) rfl rfl rfl ⟨rfl, rfl⟩ ⟨by decide, by decide⟩ (Nat.le_of_ble_eq_true rfl) ⟨by decide, by decide⟩ rfl (fun v w' hp => ?_)
      obtain ⟨rfl, rfl⟩ := hp
      refine r_if_eq h 33 dX4_slot_26 (by decide) (fun c14 => ?_) (fun c14 => ?_)
      · replace hF := o_pos c14 hF
        refine r_aload_n h 0 rfl rfl dX4_slot_33 ?_
        refine r_iload_n h 1 rfl rfl dX4_slot_34 ?_
        refine r_iload_n h 2 rfl rfl dX4_slot_35 ?_
        obtain ⟨z15, e16, hF⟩ := o_bind hF
        refine r_callVa (q0 := 0) (rest := []) h hd_X4_machineAt wm_869 dX4_slot_36 (CX4_machineAt l D aμ z12.2 x1 x2 z15 e16) rfl rfl rfl ⟨rfl, rfl⟩ ⟨by decide, by decide⟩ (Nat.le_of_ble_eq_true rfl) ⟨by decide, by decide⟩ rfl (fun v w' hp => ?_)
        obtain ⟨rfl, rfl⟩ := hp
        cases hF
        exact r_iret h hr dX4_slot_39 ⟨rfl, rfl⟩
      · replace hF := o_neg c14 hF
        refine r_iconst (v := 0) h dX4_slot_29 (by decide) ?_
        refine r_goto h 39 dX4_slot_30 (by decide) ?_
        cases hF
        exact r_iret h hr dX4_slot_39 ⟨rfl, rfl⟩
    · replace hF := o_neg c11 hF
      refine r_iconst (v := 0) h dX4_slot_18 (by decide) ?_
      refine r_goto h 23 dX4_slot_19 (by decide) ?_
      obtain ⟨z17, e18, hF⟩ := o_bind hF
      refine r_callVa (q0 := 0) (rest := []) h hd_X4_refused wm_752 dX4_slot_23 (CX4_refused l D aμ μ (0 : Int32) z17.1 z17.2 e18) rfl rfl rfl ⟨rfl, rfl⟩ ⟨by decide, by decide⟩ (Nat.le_of_ble_eq_true rfl) ⟨by decide, by decide⟩ rfl (fun v w' hp => ?_)
      obtain ⟨rfl, rfl⟩ := hp
      refine r_if_eq h 33 dX4_slot_26 (by decide) (fun c19 => ?_) (fun c19 => ?_)
      · replace hF := o_pos c19 hF
        refine r_aload_n h 0 rfl rfl dX4_slot_33 ?_
        refine r_iload_n h 1 rfl rfl dX4_slot_34 ?_
        refine r_iload_n h 2 rfl rfl dX4_slot_35 ?_
        obtain ⟨z20, e21, hF⟩ := o_bind hF
        refine r_callVa (q0 := 0) (rest := []) h hd_X4_machineAt wm_869 dX4_slot_36 (CX4_machineAt l D aμ z17.2 x1 x2 z20 e21) rfl rfl rfl ⟨rfl, rfl⟩ ⟨by decide, by decide⟩ (Nat.le_of_ble_eq_true rfl) ⟨by decide, by decide⟩ rfl (fun v w' hp => ?_)
        obtain ⟨rfl, rfl⟩ := hp
        cases hF
        exact r_iret h hr dX4_slot_39 ⟨rfl, rfl⟩
      · replace hF := o_neg c19 hF
        refine r_iconst (v := 0) h dX4_slot_29 (by decide) ?_
        refine r_goto h 39 dX4_slot_30 (by decide) ?_
        cases hF
        exact r_iret h hr dX4_slot_39 ⟨rfl, rfl⟩

def FX4_needs_J50 (z2 : Int32) (z5 : Int32) (b8_0 : Int32) : Option (Int32) :=
  if z2 = (-1 : Int32) then
  (some (0 : Int32))
else
  (if z5 = (-1 : Int32) then
  (some (0 : Int32))
else
  (some ((2 : Int32) + ((3 : Int32) * b8_0))))
def FX4_needs (μ : MDS) (x1 : Int32) : Option (Int32) :=
  gd (¬ (((91 : Int32) + ((3 : Int32) * x1)) < 0 ∨ 219 ≤ ((91 : Int32) + ((3 : Int32) * x1)).toNatClampNeg)) (
  nmv (μ.1 ((91 : Int32) + ((3 : Int32) * x1)).toNatClampNeg) fun u1 =>
  (FX4_of μ u1 (4 : Int32)).bind fun z2 =>
  nmv (((91 : Int32) + ((3 : Int32) * x1)) + (1 : Int32)) fun u4 =>
  gd (¬ (u4 < 0 ∨ 219 ≤ (u4).toNatClampNeg)) (
  (FX4_of μ (μ.1 (u4).toNatClampNeg) (4 : Int32)).bind fun z5 =>
  if z5 ≤ z2 then
  (FX4_needs_J50 z2 z5 (z2 - z5))
else
  (FX4_needs_J50 z2 z5 (z5 - z2))))
abbrev rmX4_needs : Room := { frames := 1, cells := 0, slots := 0, locals := 22 }
set_option maxHeartbeats 4000000 in
set_option maxRecDepth 100000 in
theorem CX4_needs (l : Launch) (D : va_G) (aμ : Nat → Nat) (μ : MDS) (x1 : Int32) (r0 : Int32) (hF : FX4_needs μ x1 = some r0) : Ct l D yX4_needs cX4_needs 5 (some .int) rmX4_needs 0 0 [.ref (aμ 0), .int x1] (mdW D aμ μ) (fun v w => v = some (.int r0) ∧ w = mdW D aμ μ) := by
  refine Ct.of (own := RX4) (lv := [(0, .ref (aμ 0)), (1, .int x1)]) (by decide +kernel) rfl (Nat.le_of_ble_eq_true rfl) rfl (fun X h hr => ?_)
  unfold FX4_needs at hF
  refine r_aload_n h 0 rfl rfl dX4_needs_0 ?_
  refine r_aload_n h 0 rfl rfl dX4_needs_1 ?_
  refine r_get h fl_X4_7 0 rfl rfl dX4_needs_2 ?_
  refine r_bipush (v := 91) h dX4_needs_5 (by decide) ?_
  refine r_iconst (v := 3) h dX4_needs_7 (by decide) ?_
  refine r_iload_n h 1 rfl rfl dX4_needs_8 ?_
  refine r_imul h dX4_needs_9 ?_
  refine r_iadd h dX4_needs_10 ?_
  obtain ⟨hN, hF⟩ := o_gd hF
  refine r_iald h 1 rfl hN dX4_needs_11 ?_
  obtain ⟨u1, hu1, hF⟩ := o_nm hF
  refine J.top hu1 ?_
  refine r_iconst (v := 4) h dX4_needs_12 (by decide) ?_
  obtain ⟨z2, e3, hF⟩ := o_bind hF
  refine r_callVa (q0 := 0) (rest := []) h hd_X4_of wm_837 dX4_needs_13 (CX4_of l D aμ μ u1 (4 : Int32) z2 e3) rfl rfl rfl ⟨rfl, rfl⟩ ⟨by decide, by decide⟩ (Nat.le_of_ble_eq_true rfl) ⟨by decide, by decide⟩ rfl (fun v w' hp => ?_)
  obtain ⟨rfl, rfl⟩ := hp
  refine r_istore_n (lv' := [(2, .int z2), (0, .ref (aμ 0)), (1, .int x1)]) h rfl dX4_needs_16 (by decide) rfl ?_
  refine r_aload_n h 1 rfl rfl dX4_needs_17 ?_
  refine r_aload_n h 1 rfl rfl dX4_needs_18 ?_
  refine r_get h fl_X4_7 0 rfl rfl dX4_needs_19 ?_
  refine r_bipush (v := 91) h dX4_needs_22 (by decide) ?_
  refine r_iconst (v := 3) h dX4_needs_24 (by decide) ?_
  refine r_iload_n h 2 rfl rfl dX4_needs_25 ?_
  refine r_imul h dX4_needs_26 ?_
  refine r_iadd h dX4_needs_27 ?_
  refine r_iconst (v := 1) h dX4_needs_28 (by decide) ?_
  refine r_iadd h dX4_needs_29 ?_
  obtain ⟨u4, hu4, hF⟩ := o_nm hF
  refine J.top hu4 ?_
  obtain ⟨hN, hF⟩ := o_gd hF
  refine r_iald h 1 rfl hN dX4_needs_30 ?_
  refine r_iconst (v := 4) h dX4_needs_31 (by decide) ?_
  obtain ⟨z5, e6, hF⟩ := o_bind hF
  refine r_callVa (q0 := 0) (rest := []) h hd_X4_of wm_837 dX4_needs_32 (CX4_of l D aμ μ (μ.1 (u4).toNatClampNeg) (4 : Int32) z5 e6) rfl rfl rfl ⟨rfl, rfl⟩ ⟨by decide, by decide⟩ (Nat.le_of_ble_eq_true rfl) ⟨by decide, by decide⟩ rfl (fun v w' hp => ?_)
  obtain ⟨rfl, rfl⟩ := hp
  refine r_istore_n (lv' := [(3, .int z5), (2, .int z2), (0, .ref (aμ 0)), (1, .int x1)]) h rfl dX4_needs_35 (by decide) rfl ?_
  refine r_iload_n h 1 rfl rfl dX4_needs_36 ?_
  refine r_iload_n h 0 rfl rfl dX4_needs_37 ?_
  have hJ50 : ∀ (b8_0 : Int32), FX4_needs_J50 z2 z5 b8_0 = some r0 → J X l rmX4_needs D 5 0 0 (mdW D aμ μ) [(3, .int z5), (2, .int z2), (0, .ref (aμ 0)), (1, .int x1)] 50 [.int b8_0] := by
    intro b8_0 hF
    unfold FX4_needs_J50 at hF
    refine r_istore (lv' := [(4, .int b8_0), (3, .int z5), (2, .int z2), (0, .ref (aμ 0)), (1, .int x1)]) h dX4_needs_50 (by decide) rfl ?_
    refine r_iload_n h 2 rfl rfl dX4_needs_52 ?_
    refine r_iconst (v := -1) h dX4_needs_53 (by decide) ?_
    refine r_icmp_eq h 62 dX4_needs_54 (by decide) (fun c9 => ?_) (fun c9 => ?_)
    · replace hF := o_pos c9 hF
      refine r_iconst (v := 0) h dX4_needs_62 (by decide) ?_
      refine r_goto h 72 dX4_needs_63 (by decide) ?_
      cases hF
      exact r_iret h hr dX4_needs_72 ⟨rfl, rfl⟩
    · replace hF := o_neg c9 hF
      refine r_iload_n h 1 rfl rfl dX4_needs_57 ?_
      refine r_iconst (v := -1) h dX4_needs_58 (by decide) ?_
      refine r_icmp_ne h 66 dX4_needs_59 (by decide) (fun c10 => ?_) (fun c10 => ?_)
      · replace hF := o_neg c10 hF
        refine r_iconst (v := 2) h dX4_needs_66 (by decide) ?_
        refine r_iconst (v := 3) h dX4_needs_67 (by decide) ?_
        refine r_iload h 0 rfl dX4_needs_68 ?_
        refine r_imul h dX4_needs_70 ?_
        refine r_iadd h dX4_needs_71 ?_
        cases hF
        exact r_iret h hr dX4_needs_72 ⟨rfl, rfl⟩
      · replace hF := o_pos c10 hF
        refine r_iconst (v := 0) h dX4_needs_62 (by decide) ?_
        refine r_goto h 72 dX4_needs_63 (by decide) ?_
        cases hF
        exact r_iret h hr dX4_needs_72 ⟨rfl, rfl⟩
  refine r_icmp_ge h 47 dX4_needs_38 (by decide) (fun c7 => ?_) (fun c7 => ?_)
  · replace hF := o_pos c7 hF
    refine r_iload_n h 1 rfl rfl dX4_needs_47 ?_
    refine r_iload_n h 0 rfl rfl dX4_needs_48 ?_
    refine r_isub h dX4_needs_49 ?_
    exact J.loc (lv' := [(3, .int z5), (2, .int z2), (0, .ref (aμ 0)), (1, .int x1)]) [0, 1, 2, 3] rfl (hJ50 (z2 - z5) hF)
  · replace hF := o_neg c7 hF
    refine r_iload_n h 0 rfl rfl dX4_needs_41 ?_
    refine r_iload_n h 1 rfl rfl dX4_needs_42 ?_
    refine r_isub h dX4_needs_43 ?_
    refine r_goto h 50 dX4_needs_44 (by decide) ?_
    exact J.loc (lv' := [(3, .int z5), (2, .int z2), (0, .ref (aμ 0)), (1, .int x1)]) [0, 1, 2, 3] rfl (hJ50 (z5 - z2) hF)

def FX4_tellCable (μ : MDS) (x1 : Int32) (x2 : Int32) : Option (Int32) :=
  if (3 : Int32) ≤ x2 then
  ((FX4_needs μ x1).bind fun z2 =>
  some z2)
else
  (nmv (((91 : Int32) + ((3 : Int32) * x1)) + x2) fun u4 =>
  gd (¬ (u4 < 0 ∨ 219 ≤ (u4).toNatClampNeg)) (
  some (μ.1 (u4).toNatClampNeg)))
abbrev rmX4_tellCable : Room := { frames := 2, cells := 0, slots := 0, locals := 46 }
set_option maxHeartbeats 4000000 in
set_option maxRecDepth 100000 in
theorem CX4_tellCable (l : Launch) (D : va_G) (aμ : Nat → Nat) (μ : MDS) (x1 : Int32) (x2 : Int32) (r0 : Int32) (hF : FX4_tellCable μ x1 x2 = some r0) : Ct l D yX4_tellCable cX4_tellCable 3 (some .int) rmX4_tellCable 0 0 [.ref (aμ 0), .int x1, .int x2] (mdW D aμ μ) (fun v w => v = some (.int r0) ∧ w = mdW D aμ μ) := by
  refine Ct.of (own := RX4) (lv := [(0, .ref (aμ 0)), (1, .int x1), (2, .int x2)]) (by decide +kernel) rfl (Nat.le_of_ble_eq_true rfl) rfl (fun X h hr => ?_)
  unfold FX4_tellCable at hF
  refine r_iload_n h 2 rfl rfl dX4_tellCable_0 ?_
  refine r_iconst (v := 3) h dX4_tellCable_1 (by decide) ?_
  refine r_icmp_ge h 21 dX4_tellCable_2 (by decide) (fun c1 => ?_) (fun c1 => ?_)
  · replace hF := o_pos c1 hF
    refine r_aload_n h 0 rfl rfl dX4_tellCable_21 ?_
    refine r_iload_n h 1 rfl rfl dX4_tellCable_22 ?_
    obtain ⟨z2, e3, hF⟩ := o_bind hF
    refine r_callVa (q0 := 0) (rest := []) h hd_X4_needs wm_893 dX4_tellCable_23 (CX4_needs l D aμ μ x1 z2 e3) rfl rfl rfl ⟨rfl, rfl⟩ ⟨by decide, by decide⟩ (Nat.le_of_ble_eq_true rfl) ⟨by decide, by decide⟩ rfl (fun v w' hp => ?_)
    obtain ⟨rfl, rfl⟩ := hp
    cases hF
    exact r_iret h hr dX4_tellCable_26 ⟨rfl, rfl⟩
  · replace hF := o_neg c1 hF
    refine r_aload_n h 0 rfl rfl dX4_tellCable_5 ?_
    refine r_get h fl_X4_7 0 rfl rfl dX4_tellCable_6 ?_
    refine r_bipush (v := 91) h dX4_tellCable_9 (by decide) ?_
    refine r_iconst (v := 3) h dX4_tellCable_11 (by decide) ?_
    refine r_iload_n h 1 rfl rfl dX4_tellCable_12 ?_
    refine r_imul h dX4_tellCable_13 ?_
    refine r_iadd h dX4_tellCable_14 ?_
    refine r_iload_n h 2 rfl rfl dX4_tellCable_15 ?_
    refine r_iadd h dX4_tellCable_16 ?_
    obtain ⟨u4, hu4, hF⟩ := o_nm hF
    refine J.top hu4 ?_
    obtain ⟨hN, hF⟩ := o_gd hF
    refine r_iald h 1 rfl hN dX4_tellCable_17 ?_
    refine r_goto h 26 dX4_tellCable_18 (by decide) ?_
    cases hF
    exact r_iret h hr dX4_tellCable_26 ⟨rfl, rfl⟩

def FX4_cable (μ : MDS) (x1 : Int32) (x2 : Int32) : Option (Int32 × MDS) :=
  (FX4_isCable μ x1).bind fun z1 =>
  if z1 = 0 then
  ((FX4_refused μ (1 : Int32)).bind fun z17 =>
  if z17.1 = 0 then
  ((FX4_tellCable z17.2 x1 x2).bind fun z20 =>
  some (z20, z17.2))
else
  (some ((0 : Int32), z17.2)))
else
  ((FX4_in x2 (0 : Int32) (3 : Int32)).bind fun z4 =>
  if z4 = 0 then
  ((FX4_refused μ (2 : Int32)).bind fun z7 =>
  if z7.1 = 0 then
  ((FX4_tellCable z7.2 x1 x2).bind fun z10 =>
  some (z10, z7.2))
else
  (some ((0 : Int32), z7.2)))
else
  ((FX4_refused μ (0 : Int32)).bind fun z12 =>
  if z12.1 = 0 then
  ((FX4_tellCable z12.2 x1 x2).bind fun z15 =>
  some (z15, z12.2))
else
  (some ((0 : Int32), z12.2))))
abbrev rmX4_cable : Room := { frames := 3, cells := 0, slots := 0, locals := 68 }
set_option maxHeartbeats 4000000 in
set_option maxRecDepth 100000 in
theorem CX4_cable (l : Launch) (D : va_G) (aμ : Nat → Nat) (μ : MDS) (x1 : Int32) (x2 : Int32) (r0 : Int32) (μ0 : MDS) (hF : FX4_cable μ x1 x2 = some (r0, μ0)) : Ct l D yX4_cable cX4_cable 3 (some .int) rmX4_cable 0 0 [.ref (aμ 0), .int x1, .int x2] (mdW D aμ μ) (fun v w => v = some (.int r0) ∧ w = mdW D aμ μ0) := by
  refine Ct.of (own := RX4) (lv := [(0, .ref (aμ 0)), (1, .int x1), (2, .int x2)]) (by decide +kernel) rfl (Nat.le_of_ble_eq_true rfl) rfl (fun X h hr => ?_)
  unfold FX4_cable at hF
  refine r_aload_n h 0 rfl rfl dX4_cable_0 ?_
  refine r_aload_n h 0 rfl rfl dX4_cable_1 ?_
  refine r_iload_n h 1 rfl rfl dX4_cable_2 ?_
  obtain ⟨z1, e2, hF⟩ := o_bind hF
  refine r_callVa (q0 := 0) (rest := [.ref (aμ 0)]) h hd_X4_isCable wm_809 dX4_cable_3 (CX4_isCable l D aμ μ x1 z1 e2) rfl rfl rfl ⟨rfl, rfl⟩ ⟨by decide, by decide⟩ (Nat.le_of_ble_eq_true rfl) ⟨by decide, by decide⟩ rfl (fun v w' hp => ?_)
  obtain ⟨rfl, rfl⟩ := hp
  refine r_if_ne h 13 dX4_cable_6 (by decide) (fun c3 => ?_) (fun c3 => ?_)
  · replace hF := o_neg c3 hF
    refine r_iload_n h 2 rfl rfl dX4_cable_13 ?_
    refine r_iconst (v := 0) h dX4_cable_14 (by decide) ?_
    refine r_iconst (v := 3) h dX4_cable_15 (by decide) ?_
    obtain ⟨z4, e5, hF⟩ := o_bind hF
    refine r_callSp (rest := [.ref (aμ 0)]) h hd_X4_in wm_763 dX4_cable_16 (CX4_in l D x2 (0 : Int32) (3 : Int32) z4 e5) rfl ⟨rfl, rfl⟩ ⟨by decide, by decide⟩ (Nat.le_of_ble_eq_true rfl) ⟨by decide, by decide⟩ rfl ?_
    refine r_if_eq h 26 dX4_cable_19 (by decide) (fun c6 => ?_) (fun c6 => ?_)
    · replace hF := o_pos c6 hF
      refine r_iconst (v := 2) h dX4_cable_26 (by decide) ?_
      obtain ⟨z7, e8, hF⟩ := o_bind hF
      refine r_callVa (q0 := 0) (rest := []) h hd_X4_refused wm_752 dX4_cable_27 (CX4_refused l D aμ μ (2 : Int32) z7.1 z7.2 e8) rfl rfl rfl ⟨rfl, rfl⟩ ⟨by decide, by decide⟩ (Nat.le_of_ble_eq_true rfl) ⟨by decide, by decide⟩ rfl (fun v w' hp => ?_)
      obtain ⟨rfl, rfl⟩ := hp
      refine r_if_eq h 37 dX4_cable_30 (by decide) (fun c9 => ?_) (fun c9 => ?_)
      · replace hF := o_pos c9 hF
        refine r_aload_n h 0 rfl rfl dX4_cable_37 ?_
        refine r_iload_n h 1 rfl rfl dX4_cable_38 ?_
        refine r_iload_n h 2 rfl rfl dX4_cable_39 ?_
        obtain ⟨z10, e11, hF⟩ := o_bind hF
        refine r_callVa (q0 := 0) (rest := []) h hd_X4_tellCable wm_889 dX4_cable_40 (CX4_tellCable l D aμ z7.2 x1 x2 z10 e11) rfl rfl rfl ⟨rfl, rfl⟩ ⟨by decide, by decide⟩ (Nat.le_of_ble_eq_true rfl) ⟨by decide, by decide⟩ rfl (fun v w' hp => ?_)
        obtain ⟨rfl, rfl⟩ := hp
        cases hF
        exact r_iret h hr dX4_cable_43 ⟨rfl, rfl⟩
      · replace hF := o_neg c9 hF
        refine r_iconst (v := 0) h dX4_cable_33 (by decide) ?_
        refine r_goto h 43 dX4_cable_34 (by decide) ?_
        cases hF
        exact r_iret h hr dX4_cable_43 ⟨rfl, rfl⟩
    · replace hF := o_neg c6 hF
      refine r_iconst (v := 0) h dX4_cable_22 (by decide) ?_
      refine r_goto h 27 dX4_cable_23 (by decide) ?_
      obtain ⟨z12, e13, hF⟩ := o_bind hF
      refine r_callVa (q0 := 0) (rest := []) h hd_X4_refused wm_752 dX4_cable_27 (CX4_refused l D aμ μ (0 : Int32) z12.1 z12.2 e13) rfl rfl rfl ⟨rfl, rfl⟩ ⟨by decide, by decide⟩ (Nat.le_of_ble_eq_true rfl) ⟨by decide, by decide⟩ rfl (fun v w' hp => ?_)
      obtain ⟨rfl, rfl⟩ := hp
      refine r_if_eq h 37 dX4_cable_30 (by decide) (fun c14 => ?_) (fun c14 => ?_)
      · replace hF := o_pos c14 hF
        refine r_aload_n h 0 rfl rfl dX4_cable_37 ?_
        refine r_iload_n h 1 rfl rfl dX4_cable_38 ?_
        refine r_iload_n h 2 rfl rfl dX4_cable_39 ?_
        obtain ⟨z15, e16, hF⟩ := o_bind hF
        refine r_callVa (q0 := 0) (rest := []) h hd_X4_tellCable wm_889 dX4_cable_40 (CX4_tellCable l D aμ z12.2 x1 x2 z15 e16) rfl rfl rfl ⟨rfl, rfl⟩ ⟨by decide, by decide⟩ (Nat.le_of_ble_eq_true rfl) ⟨by decide, by decide⟩ rfl (fun v w' hp => ?_)
        obtain ⟨rfl, rfl⟩ := hp
        cases hF
        exact r_iret h hr dX4_cable_43 ⟨rfl, rfl⟩
      · replace hF := o_neg c14 hF
        refine r_iconst (v := 0) h dX4_cable_33 (by decide) ?_
        refine r_goto h 43 dX4_cable_34 (by decide) ?_
        cases hF
        exact r_iret h hr dX4_cable_43 ⟨rfl, rfl⟩
  · replace hF := o_pos c3 hF
    refine r_iconst (v := 1) h dX4_cable_9 (by decide) ?_
    refine r_goto h 27 dX4_cable_10 (by decide) ?_
    obtain ⟨z17, e18, hF⟩ := o_bind hF
    refine r_callVa (q0 := 0) (rest := []) h hd_X4_refused wm_752 dX4_cable_27 (CX4_refused l D aμ μ (1 : Int32) z17.1 z17.2 e18) rfl rfl rfl ⟨rfl, rfl⟩ ⟨by decide, by decide⟩ (Nat.le_of_ble_eq_true rfl) ⟨by decide, by decide⟩ rfl (fun v w' hp => ?_)
    obtain ⟨rfl, rfl⟩ := hp
    refine r_if_eq h 37 dX4_cable_30 (by decide) (fun c19 => ?_) (fun c19 => ?_)
    · replace hF := o_pos c19 hF
      refine r_aload_n h 0 rfl rfl dX4_cable_37 ?_
      refine r_iload_n h 1 rfl rfl dX4_cable_38 ?_
      refine r_iload_n h 2 rfl rfl dX4_cable_39 ?_
      obtain ⟨z20, e21, hF⟩ := o_bind hF
      refine r_callVa (q0 := 0) (rest := []) h hd_X4_tellCable wm_889 dX4_cable_40 (CX4_tellCable l D aμ z17.2 x1 x2 z20 e21) rfl rfl rfl ⟨rfl, rfl⟩ ⟨by decide, by decide⟩ (Nat.le_of_ble_eq_true rfl) ⟨by decide, by decide⟩ rfl (fun v w' hp => ?_)
      obtain ⟨rfl, rfl⟩ := hp
      cases hF
      exact r_iret h hr dX4_cable_43 ⟨rfl, rfl⟩
    · replace hF := o_neg c19 hF
      refine r_iconst (v := 0) h dX4_cable_33 (by decide) ?_
      refine r_goto h 43 dX4_cable_34 (by decide) ?_
      cases hF
      exact r_iret h hr dX4_cable_43 ⟨rfl, rfl⟩

def FX4_inTray_L4 (μ : MDS) (x1 : Int32) (K : Int32 → Int32 → Option (Int32)) : Nat → Int32 → Int32 → Option (Int32)
  | 0, _, _ => none
  | n + 1, y1_3, y1_2 =>
  gd (¬ ((14 : Int32) < 0 ∨ 219 ≤ ((14 : Int32)).toNatClampNeg)) (
  if (μ.1 ((14 : Int32)).toNatClampNeg) ≤ y1_3 then
  (K y1_3 y1_2)
else
  (nmv ((91 : Int32) + ((3 : Int32) * y1_3)) fun u3 =>
  gd (¬ (u3 < 0 ∨ 219 ≤ (u3).toNatClampNeg)) (
  (FX4_of μ (μ.1 (u3).toNatClampNeg) (4 : Int32)).bind fun z4 =>
  nmv ((91 : Int32) + ((3 : Int32) * y1_3)) fun u6 =>
  gd (¬ ((u6 + (1 : Int32)) < 0 ∨ 219 ≤ (u6 + (1 : Int32)).toNatClampNeg)) (
  nmv (μ.1 (u6 + (1 : Int32)).toNatClampNeg) fun u7 =>
  (FX4_of μ u7 (4 : Int32)).bind fun z8 =>
  if z4 = (-1 : Int32) then
  (if (0 : Int32) = 0 then
  (FX4_inTray_L4 μ x1 K n (y1_3 + 1) (y1_2 + (0 : Int32)))
else
  (FX4_inTray_L4 μ x1 K n (y1_3 + 1) (y1_2 + (1 : Int32))))
else
  (if z8 = (-1 : Int32) then
  (if (0 : Int32) = 0 then
  (FX4_inTray_L4 μ x1 K n (y1_3 + 1) (y1_2 + (0 : Int32)))
else
  (FX4_inTray_L4 μ x1 K n (y1_3 + 1) (y1_2 + (1 : Int32))))
else
  (if x1 < z4 then
  (if x1 < z8 then
  (if (0 : Int32) = (0 : Int32) then
  (if (0 : Int32) = 0 then
  (FX4_inTray_L4 μ x1 K n (y1_3 + 1) (y1_2 + (0 : Int32)))
else
  (FX4_inTray_L4 μ x1 K n (y1_3 + 1) (y1_2 + (1 : Int32))))
else
  (if (1 : Int32) = 0 then
  (FX4_inTray_L4 μ x1 K n (y1_3 + 1) (y1_2 + (0 : Int32)))
else
  (FX4_inTray_L4 μ x1 K n (y1_3 + 1) (y1_2 + (1 : Int32)))))
else
  (if (0 : Int32) = (1 : Int32) then
  (if (0 : Int32) = 0 then
  (FX4_inTray_L4 μ x1 K n (y1_3 + 1) (y1_2 + (0 : Int32)))
else
  (FX4_inTray_L4 μ x1 K n (y1_3 + 1) (y1_2 + (1 : Int32))))
else
  (if (1 : Int32) = 0 then
  (FX4_inTray_L4 μ x1 K n (y1_3 + 1) (y1_2 + (0 : Int32)))
else
  (FX4_inTray_L4 μ x1 K n (y1_3 + 1) (y1_2 + (1 : Int32))))))
else
  (if x1 < z8 then
  (if (1 : Int32) = (0 : Int32) then
  (if (0 : Int32) = 0 then
  (FX4_inTray_L4 μ x1 K n (y1_3 + 1) (y1_2 + (0 : Int32)))
else
  (FX4_inTray_L4 μ x1 K n (y1_3 + 1) (y1_2 + (1 : Int32))))
else
  (if (1 : Int32) = 0 then
  (FX4_inTray_L4 μ x1 K n (y1_3 + 1) (y1_2 + (0 : Int32)))
else
  (FX4_inTray_L4 μ x1 K n (y1_3 + 1) (y1_2 + (1 : Int32)))))
else
  (if (1 : Int32) = (1 : Int32) then
  (if (0 : Int32) = 0 then
  (FX4_inTray_L4 μ x1 K n (y1_3 + 1) (y1_2 + (0 : Int32)))
else
  (FX4_inTray_L4 μ x1 K n (y1_3 + 1) (y1_2 + (1 : Int32))))
else
  (if (1 : Int32) = 0 then
  (FX4_inTray_L4 μ x1 K n (y1_3 + 1) (y1_2 + (0 : Int32)))
else
  (FX4_inTray_L4 μ x1 K n (y1_3 + 1) (y1_2 + (1 : Int32))))))))))))
def FX4_inTray (μ : MDS) (x1 : Int32) : Option (Int32) :=
  FX4_inTray_L4 μ x1 (fun (y1_3 : Int32) (y1_2 : Int32) =>
  some y1_2) FU (0 : Int32) (0 : Int32)
abbrev rmX4_inTray : Room := { frames := 1, cells := 0, slots := 0, locals := 22 }
set_option maxHeartbeats 4000000 in
set_option maxRecDepth 100000 in
theorem CX4_inTray (l : Launch) (D : va_G) (aμ : Nat → Nat) (μ : MDS) (x1 : Int32) (r0 : Int32) (hF : FX4_inTray μ x1 = some r0) : Ct l D yX4_inTray cX4_inTray 7 (some .int) rmX4_inTray 0 0 [.ref (aμ 0), .int x1] (mdW D aμ μ) (fun v w => v = some (.int r0) ∧ w = mdW D aμ μ) := by
  refine Ct.of (own := RX4) (lv := [(0, .ref (aμ 0)), (1, .int x1)]) (by decide +kernel) rfl (Nat.le_of_ble_eq_true rfl) rfl (fun X h hr => ?_)
  unfold FX4_inTray at hF
  refine r_iconst (v := 0) h dX4_inTray_0 (by decide) ?_
  refine r_istore_n (lv' := [(2, .int (0 : Int32)), (0, .ref (aμ 0)), (1, .int x1)]) h rfl dX4_inTray_1 (by decide) rfl ?_
  refine r_iconst (v := 0) h dX4_inTray_2 (by decide) ?_
  refine r_istore_n (lv' := [(3, .int (0 : Int32)), (2, .int (0 : Int32)), (0, .ref (aμ 0)), (1, .int x1)]) h rfl dX4_inTray_3 (by decide) rfl ?_
  have hL4 : ∀ (K : Int32 → Int32 → Option (Int32)) (hK : ∀ (y1_3 : Int32) (y1_2 : Int32), K y1_3 y1_2 = some r0 → J X l rmX4_inTray D 7 0 0 (mdW D aμ μ) [(3, .int y1_3), (2, .int y1_2), (0, .ref (aμ 0)), (1, .int x1)] 116 []) (N : Nat), ∀ (y1_3 : Int32) (y1_2 : Int32), FX4_inTray_L4 μ x1 K N y1_3 y1_2 = some r0 → J X l rmX4_inTray D 7 0 0 (mdW D aμ μ) [(3, .int y1_3), (2, .int y1_2), (0, .ref (aμ 0)), (1, .int x1)] 4 [] := by
    intro K hK N
    induction N with
    | zero =>
      intro y1_3 y1_2 hF
      cases hF
    | succ N ih =>
      intro y1_3 y1_2 hF
      rw [FX4_inTray_L4] at hF
      refine r_iload_n h 0 rfl rfl dX4_inTray_4 ?_
      refine r_aload_n h 2 rfl rfl dX4_inTray_5 ?_
      refine r_get h fl_X4_7 0 rfl rfl dX4_inTray_6 ?_
      refine r_bipush (v := 14) h dX4_inTray_9 (by decide) ?_
      obtain ⟨hN, hF⟩ := o_gd hF
      refine r_iald h 1 rfl hN dX4_inTray_11 ?_
      refine r_icmp_ge h 116 dX4_inTray_12 (by decide) (fun c2 => ?_) (fun c2 => ?_)
      · replace hF := o_pos c2 hF
        exact J.loc (lv' := [(3, .int y1_3), (2, .int y1_2), (0, .ref (aμ 0)), (1, .int x1)]) [0, 1, 2, 3] rfl (hK y1_3 y1_2 hF)
      · replace hF := o_neg c2 hF
        refine r_aload_n h 2 rfl rfl dX4_inTray_15 ?_
        refine r_aload_n h 2 rfl rfl dX4_inTray_16 ?_
        refine r_get h fl_X4_7 0 rfl rfl dX4_inTray_17 ?_
        refine r_bipush (v := 91) h dX4_inTray_20 (by decide) ?_
        refine r_iconst (v := 3) h dX4_inTray_22 (by decide) ?_
        refine r_iload_n h 0 rfl rfl dX4_inTray_23 ?_
        refine r_imul h dX4_inTray_24 ?_
        refine r_iadd h dX4_inTray_25 ?_
        obtain ⟨u3, hu3, hF⟩ := o_nm hF
        refine J.top hu3 ?_
        obtain ⟨hN, hF⟩ := o_gd hF
        refine r_iald h 1 rfl hN dX4_inTray_26 ?_
        refine r_iconst (v := 4) h dX4_inTray_27 (by decide) ?_
        obtain ⟨z4, e5, hF⟩ := o_bind hF
        refine r_callVa (q0 := 0) (rest := []) h hd_X4_of wm_837 dX4_inTray_28 (CX4_of l D aμ μ (μ.1 (u3).toNatClampNeg) (4 : Int32) z4 e5) rfl rfl rfl ⟨rfl, rfl⟩ ⟨by decide, by decide⟩ (Nat.le_of_ble_eq_true rfl) ⟨by decide, by decide⟩ rfl (fun v w' hp => ?_)
        obtain ⟨rfl, rfl⟩ := hp
        refine r_istore (lv' := [(4, .int z4), (3, .int y1_3), (2, .int y1_2), (0, .ref (aμ 0)), (1, .int x1)]) h dX4_inTray_31 (by decide) rfl ?_
        refine r_aload_n h 3 rfl rfl dX4_inTray_33 ?_
        refine r_aload_n h 3 rfl rfl dX4_inTray_34 ?_
        refine r_get h fl_X4_7 0 rfl rfl dX4_inTray_35 ?_
        refine r_bipush (v := 91) h dX4_inTray_38 (by decide) ?_
        refine r_iconst (v := 3) h dX4_inTray_40 (by decide) ?_
        refine r_iload_n h 1 rfl rfl dX4_inTray_41 ?_
        refine r_imul h dX4_inTray_42 ?_
        refine r_iadd h dX4_inTray_43 ?_
        obtain ⟨u6, hu6, hF⟩ := o_nm hF
        refine J.top hu6 ?_
        refine r_iconst (v := 1) h dX4_inTray_44 (by decide) ?_
        refine r_iadd h dX4_inTray_45 ?_
        obtain ⟨hN, hF⟩ := o_gd hF
        refine r_iald h 1 rfl hN dX4_inTray_46 ?_
        obtain ⟨u7, hu7, hF⟩ := o_nm hF
        refine J.top hu7 ?_
        refine r_iconst (v := 4) h dX4_inTray_47 (by decide) ?_
        obtain ⟨z8, e9, hF⟩ := o_bind hF
        refine r_callVa (q0 := 0) (rest := []) h hd_X4_of wm_837 dX4_inTray_48 (CX4_of l D aμ μ u7 (4 : Int32) z8 e9) rfl rfl rfl ⟨rfl, rfl⟩ ⟨by decide, by decide⟩ (Nat.le_of_ble_eq_true rfl) ⟨by decide, by decide⟩ rfl (fun v w' hp => ?_)
        obtain ⟨rfl, rfl⟩ := hp
        refine r_istore (lv' := [(5, .int z8), (4, .int z4), (3, .int y1_3), (2, .int y1_2), (0, .ref (aμ 0)), (1, .int x1)]) h dX4_inTray_51 (by decide) rfl ?_
        refine r_iload h 1 rfl dX4_inTray_53 ?_
        refine r_iconst (v := -1) h dX4_inTray_55 (by decide) ?_
        refine r_icmp_eq h 94 dX4_inTray_56 (by decide) (fun c10 => ?_) (fun c10 => ?_)
        · replace hF := o_pos c10 hF
          refine r_iconst (v := 0) h dX4_inTray_94 (by decide) ?_
          refine r_istore (lv' := [(6, .int (0 : Int32)), (5, .int z8), (4, .int z4), (3, .int y1_3), (2, .int y1_2), (0, .ref (aμ 0)), (1, .int x1)]) h dX4_inTray_95 (by decide) rfl ?_
          refine r_iload_n h 4 rfl rfl dX4_inTray_97 ?_
          refine r_iload h 0 rfl dX4_inTray_98 ?_
          refine r_if_eq h 107 dX4_inTray_100 (by decide) (fun c11 => ?_) (fun c11 => ?_)
          · replace hF := o_pos c11 hF
            refine r_iconst (v := 0) h dX4_inTray_107 (by decide) ?_
            refine r_iadd h dX4_inTray_108 ?_
            refine r_istore_n (lv' := [(2, .int (y1_2 + (0 : Int32))), (6, .int (0 : Int32)), (5, .int z8), (4, .int z4), (3, .int y1_3), (0, .ref (aμ 0)), (1, .int x1)]) h rfl dX4_inTray_109 (by decide) rfl ?_
            refine r_iinc (lv' := [(3, .int (y1_3 + 1)), (2, .int (y1_2 + (0 : Int32))), (6, .int (0 : Int32)), (5, .int z8), (4, .int z4), (0, .ref (aμ 0)), (1, .int x1)]) h 4 rfl (congrArg (fun z => y1_3 + z) (by decide : Int32.ofInt 1 = 1)) dX4_inTray_110 (by decide) rfl ?_
            refine r_goto h 4 dX4_inTray_113 (by decide) ?_
            exact J.loc (lv' := [(3, .int (y1_3 + 1)), (2, .int (y1_2 + (0 : Int32))), (0, .ref (aμ 0)), (1, .int x1)]) [0, 1, 5, 6] rfl (ih (y1_3 + 1) (y1_2 + (0 : Int32)) hF)
          · replace hF := o_neg c11 hF
            refine r_iconst (v := 1) h dX4_inTray_103 (by decide) ?_
            refine r_goto h 108 dX4_inTray_104 (by decide) ?_
            refine r_iadd h dX4_inTray_108 ?_
            refine r_istore_n (lv' := [(2, .int (y1_2 + (1 : Int32))), (6, .int (0 : Int32)), (5, .int z8), (4, .int z4), (3, .int y1_3), (0, .ref (aμ 0)), (1, .int x1)]) h rfl dX4_inTray_109 (by decide) rfl ?_
            refine r_iinc (lv' := [(3, .int (y1_3 + 1)), (2, .int (y1_2 + (1 : Int32))), (6, .int (0 : Int32)), (5, .int z8), (4, .int z4), (0, .ref (aμ 0)), (1, .int x1)]) h 4 rfl (congrArg (fun z => y1_3 + z) (by decide : Int32.ofInt 1 = 1)) dX4_inTray_110 (by decide) rfl ?_
            refine r_goto h 4 dX4_inTray_113 (by decide) ?_
            exact J.loc (lv' := [(3, .int (y1_3 + 1)), (2, .int (y1_2 + (1 : Int32))), (0, .ref (aμ 0)), (1, .int x1)]) [0, 1, 5, 6] rfl (ih (y1_3 + 1) (y1_2 + (1 : Int32)) hF)
        · replace hF := o_neg c10 hF
          refine r_iload h 0 rfl dX4_inTray_59 ?_
          refine r_iconst (v := -1) h dX4_inTray_61 (by decide) ?_
          refine r_icmp_eq h 94 dX4_inTray_62 (by decide) (fun c12 => ?_) (fun c12 => ?_)
          · replace hF := o_pos c12 hF
            refine r_iconst (v := 0) h dX4_inTray_94 (by decide) ?_
            refine r_istore (lv' := [(6, .int (0 : Int32)), (5, .int z8), (4, .int z4), (3, .int y1_3), (2, .int y1_2), (0, .ref (aμ 0)), (1, .int x1)]) h dX4_inTray_95 (by decide) rfl ?_
            refine r_iload_n h 4 rfl rfl dX4_inTray_97 ?_
            refine r_iload h 0 rfl dX4_inTray_98 ?_
            refine r_if_eq h 107 dX4_inTray_100 (by decide) (fun c13 => ?_) (fun c13 => ?_)
            · replace hF := o_pos c13 hF
              refine r_iconst (v := 0) h dX4_inTray_107 (by decide) ?_
              refine r_iadd h dX4_inTray_108 ?_
              refine r_istore_n (lv' := [(2, .int (y1_2 + (0 : Int32))), (6, .int (0 : Int32)), (5, .int z8), (4, .int z4), (3, .int y1_3), (0, .ref (aμ 0)), (1, .int x1)]) h rfl dX4_inTray_109 (by decide) rfl ?_
              refine r_iinc (lv' := [(3, .int (y1_3 + 1)), (2, .int (y1_2 + (0 : Int32))), (6, .int (0 : Int32)), (5, .int z8), (4, .int z4), (0, .ref (aμ 0)), (1, .int x1)]) h 4 rfl (congrArg (fun z => y1_3 + z) (by decide : Int32.ofInt 1 = 1)) dX4_inTray_110 (by decide) rfl ?_
              refine r_goto h 4 dX4_inTray_113 (by decide) ?_
              exact J.loc (lv' := [(3, .int (y1_3 + 1)), (2, .int (y1_2 + (0 : Int32))), (0, .ref (aμ 0)), (1, .int x1)]) [0, 1, 5, 6] rfl (ih (y1_3 + 1) (y1_2 + (0 : Int32)) hF)
            · replace hF := o_neg c13 hF
              refine r_iconst (v := 1) h dX4_inTray_103 (by decide) ?_
              refine r_goto h 108 dX4_inTray_104 (by decide) ?_
              refine r_iadd h dX4_inTray_108 ?_
              refine r_istore_n (lv' := [(2, .int (y1_2 + (1 : Int32))), (6, .int (0 : Int32)), (5, .int z8), (4, .int z4), (3, .int y1_3), (0, .ref (aμ 0)), (1, .int x1)]) h rfl dX4_inTray_109 (by decide) rfl ?_
              refine r_iinc (lv' := [(3, .int (y1_3 + 1)), (2, .int (y1_2 + (1 : Int32))), (6, .int (0 : Int32)), (5, .int z8), (4, .int z4), (0, .ref (aμ 0)), (1, .int x1)]) h 4 rfl (congrArg (fun z => y1_3 + z) (by decide : Int32.ofInt 1 = 1)) dX4_inTray_110 (by decide) rfl ?_
              refine r_goto h 4 dX4_inTray_113 (by decide) ?_
              exact J.loc (lv' := [(3, .int (y1_3 + 1)), (2, .int (y1_2 + (1 : Int32))), (0, .ref (aμ 0)), (1, .int x1)]) [0, 1, 5, 6] rfl (ih (y1_3 + 1) (y1_2 + (1 : Int32)) hF)
          · replace hF := o_neg c12 hF
            refine r_iload h 1 rfl dX4_inTray_65 ?_
            refine r_iload_n h 5 rfl rfl dX4_inTray_67 ?_
            refine r_icmp_gt h 75 dX4_inTray_68 (by decide) (fun c14 => ?_) (fun c14 => ?_)
            · replace hF := o_pos c14 hF
              refine r_iconst (v := 0) h dX4_inTray_75 (by decide) ?_
              refine r_iload h 0 rfl dX4_inTray_76 ?_
              refine r_iload_n h 5 rfl rfl dX4_inTray_78 ?_
              refine r_icmp_gt h 86 dX4_inTray_79 (by decide) (fun c15 => ?_) (fun c15 => ?_)
              · replace hF := o_pos c15 hF
                refine r_iconst (v := 0) h dX4_inTray_86 (by decide) ?_
                refine r_icmp_eq h 94 dX4_inTray_87 (by decide) (fun c16 => ?_) (fun c16 => ?_)
                · replace hF := o_pos c16 hF
                  refine r_iconst (v := 0) h dX4_inTray_94 (by decide) ?_
                  refine r_istore (lv' := [(6, .int (0 : Int32)), (5, .int z8), (4, .int z4), (3, .int y1_3), (2, .int y1_2), (0, .ref (aμ 0)), (1, .int x1)]) h dX4_inTray_95 (by decide) rfl ?_
                  refine r_iload_n h 4 rfl rfl dX4_inTray_97 ?_
                  refine r_iload h 0 rfl dX4_inTray_98 ?_
                  refine r_if_eq h 107 dX4_inTray_100 (by decide) (fun c17 => ?_) (fun c17 => ?_)
                  · replace hF := o_pos c17 hF
                    refine r_iconst (v := 0) h dX4_inTray_107 (by decide) ?_
                    refine r_iadd h dX4_inTray_108 ?_
                    refine r_istore_n (lv' := [(2, .int (y1_2 + (0 : Int32))), (6, .int (0 : Int32)), (5, .int z8), (4, .int z4), (3, .int y1_3), (0, .ref (aμ 0)), (1, .int x1)]) h rfl dX4_inTray_109 (by decide) rfl ?_
                    refine r_iinc (lv' := [(3, .int (y1_3 + 1)), (2, .int (y1_2 + (0 : Int32))), (6, .int (0 : Int32)), (5, .int z8), (4, .int z4), (0, .ref (aμ 0)), (1, .int x1)]) h 4 rfl (congrArg (fun z => y1_3 + z) (by decide : Int32.ofInt 1 = 1)) dX4_inTray_110 (by decide) rfl ?_
                    refine r_goto h 4 dX4_inTray_113 (by decide) ?_
                    exact J.loc (lv' := [(3, .int (y1_3 + 1)), (2, .int (y1_2 + (0 : Int32))), (0, .ref (aμ 0)), (1, .int x1)]) [0, 1, 5, 6] rfl (ih (y1_3 + 1) (y1_2 + (0 : Int32)) hF)
                  · replace hF := o_neg c17 hF
                    refine r_iconst (v := 1) h dX4_inTray_103 (by decide) ?_
                    refine r_goto h 108 dX4_inTray_104 (by decide) ?_
                    refine r_iadd h dX4_inTray_108 ?_
                    refine r_istore_n (lv' := [(2, .int (y1_2 + (1 : Int32))), (6, .int (0 : Int32)), (5, .int z8), (4, .int z4), (3, .int y1_3), (0, .ref (aμ 0)), (1, .int x1)]) h rfl dX4_inTray_109 (by decide) rfl ?_
                    refine r_iinc (lv' := [(3, .int (y1_3 + 1)), (2, .int (y1_2 + (1 : Int32))), (6, .int (0 : Int32)), (5, .int z8), (4, .int z4), (0, .ref (aμ 0)), (1, .int x1)]) h 4 rfl (congrArg (fun z => y1_3 + z) (by decide : Int32.ofInt 1 = 1)) dX4_inTray_110 (by decide) rfl ?_
                    refine r_goto h 4 dX4_inTray_113 (by decide) ?_
                    exact J.loc (lv' := [(3, .int (y1_3 + 1)), (2, .int (y1_2 + (1 : Int32))), (0, .ref (aμ 0)), (1, .int x1)]) [0, 1, 5, 6] rfl (ih (y1_3 + 1) (y1_2 + (1 : Int32)) hF)
                · replace hF := o_neg c16 hF
                  refine r_iconst (v := 1) h dX4_inTray_90 (by decide) ?_
                  refine r_goto h 95 dX4_inTray_91 (by decide) ?_
                  refine r_istore (lv' := [(6, .int (1 : Int32)), (5, .int z8), (4, .int z4), (3, .int y1_3), (2, .int y1_2), (0, .ref (aμ 0)), (1, .int x1)]) h dX4_inTray_95 (by decide) rfl ?_
                  refine r_iload_n h 4 rfl rfl dX4_inTray_97 ?_
                  refine r_iload h 0 rfl dX4_inTray_98 ?_
                  refine r_if_eq h 107 dX4_inTray_100 (by decide) (fun c18 => ?_) (fun c18 => ?_)
                  · replace hF := o_pos c18 hF
                    refine r_iconst (v := 0) h dX4_inTray_107 (by decide) ?_
                    refine r_iadd h dX4_inTray_108 ?_
                    refine r_istore_n (lv' := [(2, .int (y1_2 + (0 : Int32))), (6, .int (1 : Int32)), (5, .int z8), (4, .int z4), (3, .int y1_3), (0, .ref (aμ 0)), (1, .int x1)]) h rfl dX4_inTray_109 (by decide) rfl ?_
                    refine r_iinc (lv' := [(3, .int (y1_3 + 1)), (2, .int (y1_2 + (0 : Int32))), (6, .int (1 : Int32)), (5, .int z8), (4, .int z4), (0, .ref (aμ 0)), (1, .int x1)]) h 4 rfl (congrArg (fun z => y1_3 + z) (by decide : Int32.ofInt 1 = 1)) dX4_inTray_110 (by decide) rfl ?_
                    refine r_goto h 4 dX4_inTray_113 (by decide) ?_
                    exact J.loc (lv' := [(3, .int (y1_3 + 1)), (2, .int (y1_2 + (0 : Int32))), (0, .ref (aμ 0)), (1, .int x1)]) [0, 1, 5, 6] rfl (ih (y1_3 + 1) (y1_2 + (0 : Int32)) hF)
                  · replace hF := o_neg c18 hF
                    refine r_iconst (v := 1) h dX4_inTray_103 (by decide) ?_
                    refine r_goto h 108 dX4_inTray_104 (by decide) ?_
                    refine r_iadd h dX4_inTray_108 ?_
                    refine r_istore_n (lv' := [(2, .int (y1_2 + (1 : Int32))), (6, .int (1 : Int32)), (5, .int z8), (4, .int z4), (3, .int y1_3), (0, .ref (aμ 0)), (1, .int x1)]) h rfl dX4_inTray_109 (by decide) rfl ?_
                    refine r_iinc (lv' := [(3, .int (y1_3 + 1)), (2, .int (y1_2 + (1 : Int32))), (6, .int (1 : Int32)), (5, .int z8), (4, .int z4), (0, .ref (aμ 0)), (1, .int x1)]) h 4 rfl (congrArg (fun z => y1_3 + z) (by decide : Int32.ofInt 1 = 1)) dX4_inTray_110 (by decide) rfl ?_
                    refine r_goto h 4 dX4_inTray_113 (by decide) ?_
                    exact J.loc (lv' := [(3, .int (y1_3 + 1)), (2, .int (y1_2 + (1 : Int32))), (0, .ref (aμ 0)), (1, .int x1)]) [0, 1, 5, 6] rfl (ih (y1_3 + 1) (y1_2 + (1 : Int32)) hF)
              · replace hF := o_neg c15 hF
                refine r_iconst (v := 1) h dX4_inTray_82 (by decide) ?_
                refine r_goto h 87 dX4_inTray_83 (by decide) ?_
                refine r_icmp_eq h 94 dX4_inTray_87 (by decide) (fun c19 => ?_) (fun c19 => ?_)
                · replace hF := o_pos c19 hF
                  refine r_iconst (v := 0) h dX4_inTray_94 (by decide) ?_
                  refine r_istore (lv' := [(6, .int (0 : Int32)), (5, .int z8), (4, .int z4), (3, .int y1_3), (2, .int y1_2), (0, .ref (aμ 0)), (1, .int x1)]) h dX4_inTray_95 (by decide) rfl ?_
                  refine r_iload_n h 4 rfl rfl dX4_inTray_97 ?_
                  refine r_iload h 0 rfl dX4_inTray_98 ?_
                  refine r_if_eq h 107 dX4_inTray_100 (by decide) (fun c20 => ?_) (fun c20 => ?_)
                  · replace hF := o_pos c20 hF
                    refine r_iconst (v := 0) h dX4_inTray_107 (by decide) ?_
                    refine r_iadd h dX4_inTray_108 ?_
                    refine r_istore_n (lv' := [(2, .int (y1_2 + (0 : Int32))), (6, .int (0 : Int32)), (5, .int z8), (4, .int z4), (3, .int y1_3), (0, .ref (aμ 0)), (1, .int x1)]) h rfl dX4_inTray_109 (by decide) rfl ?_
                    refine r_iinc (lv' := [(3, .int (y1_3 + 1)), (2, .int (y1_2 + (0 : Int32))), (6, .int (0 : Int32)), (5, .int z8), (4, .int z4), (0, .ref (aμ 0)), (1, .int x1)]) h 4 rfl (congrArg (fun z => y1_3 + z) (by decide : Int32.ofInt 1 = 1)) dX4_inTray_110 (by decide) rfl ?_
                    refine r_goto h 4 dX4_inTray_113 (by decide) ?_
                    exact J.loc (lv' := [(3, .int (y1_3 + 1)), (2, .int (y1_2 + (0 : Int32))), (0, .ref (aμ 0)), (1, .int x1)]) [0, 1, 5, 6] rfl (ih (y1_3 + 1) (y1_2 + (0 : Int32)) hF)
                  · replace hF := o_neg c20 hF
                    refine r_iconst (v := 1) h dX4_inTray_103 (by decide) ?_
                    refine r_goto h 108 dX4_inTray_104 (by decide) ?_
                    refine r_iadd h dX4_inTray_108 ?_
                    refine r_istore_n (lv' := [(2, .int (y1_2 + (1 : Int32))), (6, .int (0 : Int32)), (5, .int z8), (4, .int z4), (3, .int y1_3), (0, .ref (aμ 0)), (1, .int x1)]) h rfl dX4_inTray_109 (by decide) rfl ?_
                    refine r_iinc (lv' := [(3, .int (y1_3 + 1)), (2, .int (y1_2 + (1 : Int32))), (6, .int (0 : Int32)), (5, .int z8), (4, .int z4), (0, .ref (aμ 0)), (1, .int x1)]) h 4 rfl (congrArg (fun z => y1_3 + z) (by decide : Int32.ofInt 1 = 1)) dX4_inTray_110 (by decide) rfl ?_
                    refine r_goto h 4 dX4_inTray_113 (by decide) ?_
                    exact J.loc (lv' := [(3, .int (y1_3 + 1)), (2, .int (y1_2 + (1 : Int32))), (0, .ref (aμ 0)), (1, .int x1)]) [0, 1, 5, 6] rfl (ih (y1_3 + 1) (y1_2 + (1 : Int32)) hF)
                · replace hF := o_neg c19 hF
                  refine r_iconst (v := 1) h dX4_inTray_90 (by decide) ?_
                  refine r_goto h 95 dX4_inTray_91 (by decide) ?_
                  refine r_istore (lv' := [(6, .int (1 : Int32)), (5, .int z8), (4, .int z4), (3, .int y1_3), (2, .int y1_2), (0, .ref (aμ 0)), (1, .int x1)]) h dX4_inTray_95 (by decide) rfl ?_
                  refine r_iload_n h 4 rfl rfl dX4_inTray_97 ?_
                  refine r_iload h 0 rfl dX4_inTray_98 ?_
                  refine r_if_eq h 107 dX4_inTray_100 (by decide) (fun c21 => ?_) (fun c21 => ?_)
                  · replace hF := o_pos c21 hF
                    refine r_iconst (v := 0) h dX4_inTray_107 (by decide) ?_
                    refine r_iadd h dX4_inTray_108 ?_
                    refine r_istore_n (lv' := [(2, .int (y1_2 + (0 : Int32))), (6, .int (1 : Int32)), (5, .int z8), (4, .int z4), (3, .int y1_3), (0, .ref (aμ 0)), (1, .int x1)]) h rfl dX4_inTray_109 (by decide) rfl ?_
                    refine r_iinc (lv' := [(3, .int (y1_3 + 1)), (2, .int (y1_2 + (0 : Int32))), (6, .int (1 : Int32)), (5, .int z8), (4, .int z4), (0, .ref (aμ 0)), (1, .int x1)]) h 4 rfl (congrArg (fun z => y1_3 + z) (by decide : Int32.ofInt 1 = 1)) dX4_inTray_110 (by decide) rfl ?_
                    refine r_goto h 4 dX4_inTray_113 (by decide) ?_
                    exact J.loc (lv' := [(3, .int (y1_3 + 1)), (2, .int (y1_2 + (0 : Int32))), (0, .ref (aμ 0)), (1, .int x1)]) [0, 1, 5, 6] rfl (ih (y1_3 + 1) (y1_2 + (0 : Int32)) hF)
                  · replace hF := o_neg c21 hF
                    refine r_iconst (v := 1) h dX4_inTray_103 (by decide) ?_
                    refine r_goto h 108 dX4_inTray_104 (by decide) ?_
                    refine r_iadd h dX4_inTray_108 ?_
                    refine r_istore_n (lv' := [(2, .int (y1_2 + (1 : Int32))), (6, .int (1 : Int32)), (5, .int z8), (4, .int z4), (3, .int y1_3), (0, .ref (aμ 0)), (1, .int x1)]) h rfl dX4_inTray_109 (by decide) rfl ?_
                    refine r_iinc (lv' := [(3, .int (y1_3 + 1)), (2, .int (y1_2 + (1 : Int32))), (6, .int (1 : Int32)), (5, .int z8), (4, .int z4), (0, .ref (aμ 0)), (1, .int x1)]) h 4 rfl (congrArg (fun z => y1_3 + z) (by decide : Int32.ofInt 1 = 1)) dX4_inTray_110 (by decide) rfl ?_
                    refine r_goto h 4 dX4_inTray_113 (by decide) ?_
                    exact J.loc (lv' := [(3, .int (y1_3 + 1)), (2, .int (y1_2 + (1 : Int32))), (0, .ref (aμ 0)), (1, .int x1)]) [0, 1, 5, 6] rfl (ih (y1_3 + 1) (y1_2 + (1 : Int32)) hF)
            · replace hF := o_neg c14 hF
              refine r_iconst (v := 1) h dX4_inTray_71 (by decide) ?_
              refine r_goto h 76 dX4_inTray_72 (by decide) ?_
              refine r_iload h 0 rfl dX4_inTray_76 ?_
              refine r_iload_n h 5 rfl rfl dX4_inTray_78 ?_
              refine r_icmp_gt h 86 dX4_inTray_79 (by decide) (fun c22 => ?_) (fun c22 => ?_)
              · replace hF := o_pos c22 hF
                refine r_iconst (v := 0) h dX4_inTray_86 (by decide) ?_
                refine r_icmp_eq h 94 dX4_inTray_87 (by decide) (fun c23 => ?_) (fun c23 => ?_)
                · replace hF := o_pos c23 hF
                  refine r_iconst (v := 0) h dX4_inTray_94 (by decide) ?_
                  refine r_istore (lv' := [(6, .int (0 : Int32)), (5, .int z8), (4, .int z4), (3, .int y1_3), (2, .int y1_2), (0, .ref (aμ 0)), (1, .int x1)]) h dX4_inTray_95 (by decide) rfl ?_
                  refine r_iload_n h 4 rfl rfl dX4_inTray_97 ?_
                  refine r_iload h 0 rfl dX4_inTray_98 ?_
                  refine r_if_eq h 107 dX4_inTray_100 (by decide) (fun c24 => ?_) (fun c24 => ?_)
                  · replace hF := o_pos c24 hF
                    refine r_iconst (v := 0) h dX4_inTray_107 (by decide) ?_
                    refine r_iadd h dX4_inTray_108 ?_
                    refine r_istore_n (lv' := [(2, .int (y1_2 + (0 : Int32))), (6, .int (0 : Int32)), (5, .int z8), (4, .int z4), (3, .int y1_3), (0, .ref (aμ 0)), (1, .int x1)]) h rfl dX4_inTray_109 (by decide) rfl ?_
                    refine r_iinc (lv' := [(3, .int (y1_3 + 1)), (2, .int (y1_2 + (0 : Int32))), (6, .int (0 : Int32)), (5, .int z8), (4, .int z4), (0, .ref (aμ 0)), (1, .int x1)]) h 4 rfl (congrArg (fun z => y1_3 + z) (by decide : Int32.ofInt 1 = 1)) dX4_inTray_110 (by decide) rfl ?_
                    refine r_goto h 4 dX4_inTray_113 (by decide) ?_
                    exact J.loc (lv' := [(3, .int (y1_3 + 1)), (2, .int (y1_2 + (0 : Int32))), (0, .ref (aμ 0)), (1, .int x1)]) [0, 1, 5, 6] rfl (ih (y1_3 + 1) (y1_2 + (0 : Int32)) hF)
                  · replace hF := o_neg c24 hF
                    refine r_iconst (v := 1) h dX4_inTray_103 (by decide) ?_
                    refine r_goto h 108 dX4_inTray_104 (by decide) ?_
                    refine r_iadd h dX4_inTray_108 ?_
                    refine r_istore_n (lv' := [(2, .int (y1_2 + (1 : Int32))), (6, .int (0 : Int32)), (5, .int z8), (4, .int z4), (3, .int y1_3), (0, .ref (aμ 0)), (1, .int x1)]) h rfl dX4_inTray_109 (by decide) rfl ?_
                    refine r_iinc (lv' := [(3, .int (y1_3 + 1)), (2, .int (y1_2 + (1 : Int32))), (6, .int (0 : Int32)), (5, .int z8), (4, .int z4), (0, .ref (aμ 0)), (1, .int x1)]) h 4 rfl (congrArg (fun z => y1_3 + z) (by decide : Int32.ofInt 1 = 1)) dX4_inTray_110 (by decide) rfl ?_
                    refine r_goto h 4 dX4_inTray_113 (by decide) ?_
                    exact J.loc (lv' := [(3, .int (y1_3 + 1)), (2, .int (y1_2 + (1 : Int32))), (0, .ref (aμ 0)), (1, .int x1)]) [0, 1, 5, 6] rfl (ih (y1_3 + 1) (y1_2 + (1 : Int32)) hF)
                · replace hF := o_neg c23 hF
                  refine r_iconst (v := 1) h dX4_inTray_90 (by decide) ?_
                  refine r_goto h 95 dX4_inTray_91 (by decide) ?_
                  refine r_istore (lv' := [(6, .int (1 : Int32)), (5, .int z8), (4, .int z4), (3, .int y1_3), (2, .int y1_2), (0, .ref (aμ 0)), (1, .int x1)]) h dX4_inTray_95 (by decide) rfl ?_
                  refine r_iload_n h 4 rfl rfl dX4_inTray_97 ?_
                  refine r_iload h 0 rfl dX4_inTray_98 ?_
                  refine r_if_eq h 107 dX4_inTray_100 (by decide) (fun c25 => ?_) (fun c25 => ?_)
                  · replace hF := o_pos c25 hF
                    refine r_iconst (v := 0) h dX4_inTray_107 (by decide) ?_
                    refine r_iadd h dX4_inTray_108 ?_
                    refine r_istore_n (lv' := [(2, .int (y1_2 + (0 : Int32))), (6, .int (1 : Int32)), (5, .int z8), (4, .int z4), (3, .int y1_3), (0, .ref (aμ 0)), (1, .int x1)]) h rfl dX4_inTray_109 (by decide) rfl ?_
                    refine r_iinc (lv' := [(3, .int (y1_3 + 1)), (2, .int (y1_2 + (0 : Int32))), (6, .int (1 : Int32)), (5, .int z8), (4, .int z4), (0, .ref (aμ 0)), (1, .int x1)]) h 4 rfl (congrArg (fun z => y1_3 + z) (by decide : Int32.ofInt 1 = 1)) dX4_inTray_110 (by decide) rfl ?_
                    refine r_goto h 4 dX4_inTray_113 (by decide) ?_
                    exact J.loc (lv' := [(3, .int (y1_3 + 1)), (2, .int (y1_2 + (0 : Int32))), (0, .ref (aμ 0)), (1, .int x1)]) [0, 1, 5, 6] rfl (ih (y1_3 + 1) (y1_2 + (0 : Int32)) hF)
                  · replace hF := o_neg c25 hF
                    refine r_iconst (v := 1) h dX4_inTray_103 (by decide) ?_
                    refine r_goto h 108 dX4_inTray_104 (by decide) ?_
                    refine r_iadd h dX4_inTray_108 ?_
                    refine r_istore_n (lv' := [(2, .int (y1_2 + (1 : Int32))), (6, .int (1 : Int32)), (5, .int z8), (4, .int z4), (3, .int y1_3), (0, .ref (aμ 0)), (1, .int x1)]) h rfl dX4_inTray_109 (by decide) rfl ?_
                    refine r_iinc (lv' := [(3, .int (y1_3 + 1)), (2, .int (y1_2 + (1 : Int32))), (6, .int (1 : Int32)), (5, .int z8), (4, .int z4), (0, .ref (aμ 0)), (1, .int x1)]) h 4 rfl (congrArg (fun z => y1_3 + z) (by decide : Int32.ofInt 1 = 1)) dX4_inTray_110 (by decide) rfl ?_
                    refine r_goto h 4 dX4_inTray_113 (by decide) ?_
                    exact J.loc (lv' := [(3, .int (y1_3 + 1)), (2, .int (y1_2 + (1 : Int32))), (0, .ref (aμ 0)), (1, .int x1)]) [0, 1, 5, 6] rfl (ih (y1_3 + 1) (y1_2 + (1 : Int32)) hF)
              · replace hF := o_neg c22 hF
                refine r_iconst (v := 1) h dX4_inTray_82 (by decide) ?_
                refine r_goto h 87 dX4_inTray_83 (by decide) ?_
                refine r_icmp_eq h 94 dX4_inTray_87 (by decide) (fun c26 => ?_) (fun c26 => ?_)
                · replace hF := o_pos c26 hF
                  refine r_iconst (v := 0) h dX4_inTray_94 (by decide) ?_
                  refine r_istore (lv' := [(6, .int (0 : Int32)), (5, .int z8), (4, .int z4), (3, .int y1_3), (2, .int y1_2), (0, .ref (aμ 0)), (1, .int x1)]) h dX4_inTray_95 (by decide) rfl ?_
                  refine r_iload_n h 4 rfl rfl dX4_inTray_97 ?_
                  refine r_iload h 0 rfl dX4_inTray_98 ?_
                  refine r_if_eq h 107 dX4_inTray_100 (by decide) (fun c27 => ?_) (fun c27 => ?_)
                  · replace hF := o_pos c27 hF
                    refine r_iconst (v := 0) h dX4_inTray_107 (by decide) ?_
                    refine r_iadd h dX4_inTray_108 ?_
                    refine r_istore_n (lv' := [(2, .int (y1_2 + (0 : Int32))), (6, .int (0 : Int32)), (5, .int z8), (4, .int z4), (3, .int y1_3), (0, .ref (aμ 0)), (1, .int x1)]) h rfl dX4_inTray_109 (by decide) rfl ?_
                    refine r_iinc (lv' := [(3, .int (y1_3 + 1)), (2, .int (y1_2 + (0 : Int32))), (6, .int (0 : Int32)), (5, .int z8), (4, .int z4), (0, .ref (aμ 0)), (1, .int x1)]) h 4 rfl (congrArg (fun z => y1_3 + z) (by decide : Int32.ofInt 1 = 1)) dX4_inTray_110 (by decide) rfl ?_
                    refine r_goto h 4 dX4_inTray_113 (by decide) ?_
                    exact J.loc (lv' := [(3, .int (y1_3 + 1)), (2, .int (y1_2 + (0 : Int32))), (0, .ref (aμ 0)), (1, .int x1)]) [0, 1, 5, 6] rfl (ih (y1_3 + 1) (y1_2 + (0 : Int32)) hF)
                  · replace hF := o_neg c27 hF
                    refine r_iconst (v := 1) h dX4_inTray_103 (by decide) ?_
                    refine r_goto h 108 dX4_inTray_104 (by decide) ?_
                    refine r_iadd h dX4_inTray_108 ?_
                    refine r_istore_n (lv' := [(2, .int (y1_2 + (1 : Int32))), (6, .int (0 : Int32)), (5, .int z8), (4, .int z4), (3, .int y1_3), (0, .ref (aμ 0)), (1, .int x1)]) h rfl dX4_inTray_109 (by decide) rfl ?_
                    refine r_iinc (lv' := [(3, .int (y1_3 + 1)), (2, .int (y1_2 + (1 : Int32))), (6, .int (0 : Int32)), (5, .int z8), (4, .int z4), (0, .ref (aμ 0)), (1, .int x1)]) h 4 rfl (congrArg (fun z => y1_3 + z) (by decide : Int32.ofInt 1 = 1)) dX4_inTray_110 (by decide) rfl ?_
                    refine r_goto h 4 dX4_inTray_113 (by decide) ?_
                    exact J.loc (lv' := [(3, .int (y1_3 + 1)), (2, .int (y1_2 + (1 : Int32))), (0, .ref (aμ 0)), (1, .int x1)]) [0, 1, 5, 6] rfl (ih (y1_3 + 1) (y1_2 + (1 : Int32)) hF)
                · replace hF := o_neg c26 hF
                  refine r_iconst (v := 1) h dX4_inTray_90 (by decide) ?_
                  refine r_goto h 95 dX4_inTray_91 (by decide) ?_
                  refine r_istore (lv' := [(6, .int (1 : Int32)), (5, .int z8), (4, .int z4), (3, .int y1_3), (2, .int y1_2), (0, .ref (aμ 0)), (1, .int x1)]) h dX4_inTray_95 (by decide) rfl ?_
                  refine r_iload_n h 4 rfl rfl dX4_inTray_97 ?_
                  refine r_iload h 0 rfl dX4_inTray_98 ?_
                  refine r_if_eq h 107 dX4_inTray_100 (by decide) (fun c28 => ?_) (fun c28 => ?_)
                  · replace hF := o_pos c28 hF
                    refine r_iconst (v := 0) h dX4_inTray_107 (by decide) ?_
                    refine r_iadd h dX4_inTray_108 ?_
                    refine r_istore_n (lv' := [(2, .int (y1_2 + (0 : Int32))), (6, .int (1 : Int32)), (5, .int z8), (4, .int z4), (3, .int y1_3), (0, .ref (aμ 0)), (1, .int x1)]) h rfl dX4_inTray_109 (by decide) rfl ?_
                    refine r_iinc (lv' := [(3, .int (y1_3 + 1)), (2, .int (y1_2 + (0 : Int32))), (6, .int (1 : Int32)), (5, .int z8), (4, .int z4), (0, .ref (aμ 0)), (1, .int x1)]) h 4 rfl (congrArg (fun z => y1_3 + z) (by decide : Int32.ofInt 1 = 1)) dX4_inTray_110 (by decide) rfl ?_
                    refine r_goto h 4 dX4_inTray_113 (by decide) ?_
                    exact J.loc (lv' := [(3, .int (y1_3 + 1)), (2, .int (y1_2 + (0 : Int32))), (0, .ref (aμ 0)), (1, .int x1)]) [0, 1, 5, 6] rfl (ih (y1_3 + 1) (y1_2 + (0 : Int32)) hF)
                  · replace hF := o_neg c28 hF
                    refine r_iconst (v := 1) h dX4_inTray_103 (by decide) ?_
                    refine r_goto h 108 dX4_inTray_104 (by decide) ?_
                    refine r_iadd h dX4_inTray_108 ?_
                    refine r_istore_n (lv' := [(2, .int (y1_2 + (1 : Int32))), (6, .int (1 : Int32)), (5, .int z8), (4, .int z4), (3, .int y1_3), (0, .ref (aμ 0)), (1, .int x1)]) h rfl dX4_inTray_109 (by decide) rfl ?_
                    refine r_iinc (lv' := [(3, .int (y1_3 + 1)), (2, .int (y1_2 + (1 : Int32))), (6, .int (1 : Int32)), (5, .int z8), (4, .int z4), (0, .ref (aμ 0)), (1, .int x1)]) h 4 rfl (congrArg (fun z => y1_3 + z) (by decide : Int32.ofInt 1 = 1)) dX4_inTray_110 (by decide) rfl ?_
                    refine r_goto h 4 dX4_inTray_113 (by decide) ?_
                    exact J.loc (lv' := [(3, .int (y1_3 + 1)), (2, .int (y1_2 + (1 : Int32))), (0, .ref (aμ 0)), (1, .int x1)]) [0, 1, 5, 6] rfl (ih (y1_3 + 1) (y1_2 + (1 : Int32)) hF)
  refine hL4 _ (fun y1_3 y1_2 hF => ?_) _ (0 : Int32) (0 : Int32) hF
  refine r_iload_n h 1 rfl rfl dX4_inTray_116 ?_
  cases hF
  exact r_iret h hr dX4_inTray_117 ⟨rfl, rfl⟩

def FX4_tray (μ : MDS) (x1 : Int32) : Option (Int32 × MDS) :=
  (FX4_isTray x1).bind fun z1 =>
  if z1 = 0 then
  ((FX4_refused μ (1 : Int32)).bind fun z4 =>
  if z4.1 = 0 then
  ((FX4_inTray z4.2 x1).bind fun z7 =>
  some (z7, z4.2))
else
  (some ((0 : Int32), z4.2)))
else
  ((FX4_refused μ (0 : Int32)).bind fun z9 =>
  if z9.1 = 0 then
  ((FX4_inTray z9.2 x1).bind fun z12 =>
  some (z12, z9.2))
else
  (some ((0 : Int32), z9.2)))
abbrev rmX4_tray : Room := { frames := 2, cells := 0, slots := 0, locals := 48 }
set_option maxHeartbeats 4000000 in
set_option maxRecDepth 100000 in
theorem CX4_tray (l : Launch) (D : va_G) (aμ : Nat → Nat) (μ : MDS) (x1 : Int32) (r0 : Int32) (μ0 : MDS) (hF : FX4_tray μ x1 = some (r0, μ0)) : Ct l D yX4_tray cX4_tray 2 (some .int) rmX4_tray 0 0 [.ref (aμ 0), .int x1] (mdW D aμ μ) (fun v w => v = some (.int r0) ∧ w = mdW D aμ μ0) := by
  refine Ct.of (own := RX4) (lv := [(0, .ref (aμ 0)), (1, .int x1)]) (by decide +kernel) rfl (Nat.le_of_ble_eq_true rfl) rfl (fun X h hr => ?_)
  unfold FX4_tray at hF
  refine r_aload_n h 0 rfl rfl dX4_tray_0 ?_
  refine r_iload_n h 1 rfl rfl dX4_tray_1 ?_
  obtain ⟨z1, e2, hF⟩ := o_bind hF
  refine r_callSp (rest := [.ref (aμ 0)]) h hd_X4_isTray wm_782 dX4_tray_2 (CX4_isTray l D x1 z1 e2) rfl ⟨rfl, rfl⟩ ⟨by decide, by decide⟩ (Nat.le_of_ble_eq_true rfl) ⟨by decide, by decide⟩ rfl ?_
  refine r_if_eq h 12 dX4_tray_5 (by decide) (fun c3 => ?_) (fun c3 => ?_)
  · replace hF := o_pos c3 hF
    refine r_iconst (v := 1) h dX4_tray_12 (by decide) ?_
    obtain ⟨z4, e5, hF⟩ := o_bind hF
    refine r_callVa (q0 := 0) (rest := []) h hd_X4_refused wm_752 dX4_tray_13 (CX4_refused l D aμ μ (1 : Int32) z4.1 z4.2 e5) rfl rfl rfl ⟨rfl, rfl⟩ ⟨by decide, by decide⟩ (Nat.le_of_ble_eq_true rfl) ⟨by decide, by decide⟩ rfl (fun v w' hp => ?_)
    obtain ⟨rfl, rfl⟩ := hp
    refine r_if_eq h 23 dX4_tray_16 (by decide) (fun c6 => ?_) (fun c6 => ?_)
    · replace hF := o_pos c6 hF
      refine r_aload_n h 0 rfl rfl dX4_tray_23 ?_
      refine r_iload_n h 1 rfl rfl dX4_tray_24 ?_
      obtain ⟨z7, e8, hF⟩ := o_bind hF
      refine r_callVa (q0 := 0) (rest := []) h hd_X4_inTray wm_901 dX4_tray_25 (CX4_inTray l D aμ z4.2 x1 z7 e8) rfl rfl rfl ⟨rfl, rfl⟩ ⟨by decide, by decide⟩ (Nat.le_of_ble_eq_true rfl) ⟨by decide, by decide⟩ rfl (fun v w' hp => ?_)
      obtain ⟨rfl, rfl⟩ := hp
      cases hF
      exact r_iret h hr dX4_tray_28 ⟨rfl, rfl⟩
    · replace hF := o_neg c6 hF
      refine r_iconst (v := 0) h dX4_tray_19 (by decide) ?_
      refine r_goto h 28 dX4_tray_20 (by decide) ?_
      cases hF
      exact r_iret h hr dX4_tray_28 ⟨rfl, rfl⟩
  · replace hF := o_neg c3 hF
    refine r_iconst (v := 0) h dX4_tray_8 (by decide) ?_
    refine r_goto h 13 dX4_tray_9 (by decide) ?_
    obtain ⟨z9, e10, hF⟩ := o_bind hF
    refine r_callVa (q0 := 0) (rest := []) h hd_X4_refused wm_752 dX4_tray_13 (CX4_refused l D aμ μ (0 : Int32) z9.1 z9.2 e10) rfl rfl rfl ⟨rfl, rfl⟩ ⟨by decide, by decide⟩ (Nat.le_of_ble_eq_true rfl) ⟨by decide, by decide⟩ rfl (fun v w' hp => ?_)
    obtain ⟨rfl, rfl⟩ := hp
    refine r_if_eq h 23 dX4_tray_16 (by decide) (fun c11 => ?_) (fun c11 => ?_)
    · replace hF := o_pos c11 hF
      refine r_aload_n h 0 rfl rfl dX4_tray_23 ?_
      refine r_iload_n h 1 rfl rfl dX4_tray_24 ?_
      obtain ⟨z12, e13, hF⟩ := o_bind hF
      refine r_callVa (q0 := 0) (rest := []) h hd_X4_inTray wm_901 dX4_tray_25 (CX4_inTray l D aμ z9.2 x1 z12 e13) rfl rfl rfl ⟨rfl, rfl⟩ ⟨by decide, by decide⟩ (Nat.le_of_ble_eq_true rfl) ⟨by decide, by decide⟩ rfl (fun v w' hp => ?_)
      obtain ⟨rfl, rfl⟩ := hp
      cases hF
      exact r_iret h hr dX4_tray_28 ⟨rfl, rfl⟩
    · replace hF := o_neg c11 hF
      refine r_iconst (v := 0) h dX4_tray_19 (by decide) ?_
      refine r_goto h 28 dX4_tray_20 (by decide) ?_
      cases hF
      exact r_iret h hr dX4_tray_28 ⟨rfl, rfl⟩

def FX4_difference_L8 (μ : MDS) (K : Int32 → Int32 → Int32 → Option (Int32)) : Nat → Int32 → Int32 → Int32 → Option (Int32)
  | 0, _, _, _ => none
  | n + 1, y1_3, y1_2, y1_1 =>
  if (3 : Int32) ≤ y1_3 then
  (K y1_3 y1_2 y1_1)
else
  ((FX4_load μ (-1 : Int32) y1_3).bind fun z3 =>
  if z3 ≤ y1_1 then
  (if y1_2 ≤ z3 then
  (FX4_difference_L8 μ K n (y1_3 + 1) y1_2 y1_1)
else
  (FX4_difference_L8 μ K n (y1_3 + 1) z3 y1_1))
else
  (if y1_2 ≤ z3 then
  (FX4_difference_L8 μ K n (y1_3 + 1) y1_2 z3)
else
  (FX4_difference_L8 μ K n (y1_3 + 1) z3 z3)))
def FX4_difference (μ : MDS) : Option (Int32) :=
  FX4_difference_L8 μ (fun (y1_3 : Int32) (y1_2 : Int32) (y1_1 : Int32) =>
  some (y1_1 - y1_2)) FU (0 : Int32) (1188 : Int32) (0 : Int32)
abbrev rmX4_difference : Room := { frames := 2, cells := 0, slots := 0, locals := 47 }
set_option maxHeartbeats 4000000 in
set_option maxRecDepth 100000 in
theorem CX4_difference (l : Launch) (D : va_G) (aμ : Nat → Nat) (μ : MDS) (r0 : Int32) (hF : FX4_difference μ = some r0) : Ct l D yX4_difference cX4_difference 5 (some .int) rmX4_difference 0 0 [.ref (aμ 0)] (mdW D aμ μ) (fun v w => v = some (.int r0) ∧ w = mdW D aμ μ) := by
  refine Ct.of (own := RX4) (lv := [(0, .ref (aμ 0))]) (by decide +kernel) rfl (Nat.le_of_ble_eq_true rfl) rfl (fun X h hr => ?_)
  unfold FX4_difference at hF
  refine r_iconst (v := 0) h dX4_difference_0 (by decide) ?_
  refine r_istore_n (lv' := [(1, .int (0 : Int32)), (0, .ref (aμ 0))]) h rfl dX4_difference_1 (by decide) rfl ?_
  refine r_sipush (v := 1188) h dX4_difference_2 (by decide) ?_
  refine r_istore_n (lv' := [(2, .int (1188 : Int32)), (1, .int (0 : Int32)), (0, .ref (aμ 0))]) h rfl dX4_difference_5 (by decide) rfl ?_
  refine r_iconst (v := 0) h dX4_difference_6 (by decide) ?_
  refine r_istore_n (lv' := [(3, .int (0 : Int32)), (2, .int (1188 : Int32)), (1, .int (0 : Int32)), (0, .ref (aμ 0))]) h rfl dX4_difference_7 (by decide) rfl ?_
  have hL8 : ∀ (K : Int32 → Int32 → Int32 → Option (Int32)) (hK : ∀ (y1_3 : Int32) (y1_2 : Int32) (y1_1 : Int32), K y1_3 y1_2 y1_1 = some r0 → J X l rmX4_difference D 5 0 0 (mdW D aμ μ) [(3, .int y1_3), (2, .int y1_2), (1, .int y1_1), (0, .ref (aμ 0))] 53 []) (N : Nat), ∀ (y1_3 : Int32) (y1_2 : Int32) (y1_1 : Int32), FX4_difference_L8 μ K N y1_3 y1_2 y1_1 = some r0 → J X l rmX4_difference D 5 0 0 (mdW D aμ μ) [(3, .int y1_3), (2, .int y1_2), (1, .int y1_1), (0, .ref (aμ 0))] 8 [] := by
    intro K hK N
    induction N with
    | zero =>
      intro y1_3 y1_2 y1_1 hF
      cases hF
    | succ N ih =>
      intro y1_3 y1_2 y1_1 hF
      rw [FX4_difference_L8] at hF
      refine r_iload_n h 0 rfl rfl dX4_difference_8 ?_
      refine r_iconst (v := 3) h dX4_difference_9 (by decide) ?_
      refine r_icmp_ge h 53 dX4_difference_10 (by decide) (fun c2 => ?_) (fun c2 => ?_)
      · replace hF := o_pos c2 hF
        exact J.loc (lv' := [(3, .int y1_3), (2, .int y1_2), (1, .int y1_1), (0, .ref (aμ 0))]) [0, 1, 2, 3] rfl (hK y1_3 y1_2 y1_1 hF)
      · replace hF := o_neg c2 hF
        refine r_aload_n h 3 rfl rfl dX4_difference_13 ?_
        refine r_iconst (v := -1) h dX4_difference_14 (by decide) ?_
        refine r_iload_n h 0 rfl rfl dX4_difference_15 ?_
        obtain ⟨z3, e4, hF⟩ := o_bind hF
        refine r_callVa (q0 := 0) (rest := []) h hd_X4_load wm_857 dX4_difference_16 (CX4_load l D aμ μ (-1 : Int32) y1_3 z3 e4) rfl rfl rfl ⟨rfl, rfl⟩ ⟨by decide, by decide⟩ (Nat.le_of_ble_eq_true rfl) ⟨by decide, by decide⟩ rfl (fun v w' hp => ?_)
        obtain ⟨rfl, rfl⟩ := hp
        refine r_istore (lv' := [(4, .int z3), (3, .int y1_3), (2, .int y1_2), (1, .int y1_1), (0, .ref (aμ 0))]) h dX4_difference_19 (by decide) rfl ?_
        refine r_iload h 0 rfl dX4_difference_21 ?_
        refine r_iload_n h 3 rfl rfl dX4_difference_23 ?_
        refine r_icmp_le h 32 dX4_difference_24 (by decide) (fun c5 => ?_) (fun c5 => ?_)
        · replace hF := o_pos c5 hF
          refine r_iload_n h 3 rfl rfl dX4_difference_32 ?_
          refine r_istore_n (lv' := [(1, .int y1_1), (4, .int z3), (3, .int y1_3), (2, .int y1_2), (0, .ref (aμ 0))]) h rfl dX4_difference_33 (by decide) rfl ?_
          refine r_iload h 1 rfl dX4_difference_34 ?_
          refine r_iload_n h 3 rfl rfl dX4_difference_36 ?_
          refine r_icmp_ge h 45 dX4_difference_37 (by decide) (fun c6 => ?_) (fun c6 => ?_)
          · replace hF := o_pos c6 hF
            refine r_iload_n h 3 rfl rfl dX4_difference_45 ?_
            refine r_istore_n (lv' := [(2, .int y1_2), (1, .int y1_1), (4, .int z3), (3, .int y1_3), (0, .ref (aμ 0))]) h rfl dX4_difference_46 (by decide) rfl ?_
            refine r_iinc (lv' := [(3, .int (y1_3 + 1)), (2, .int y1_2), (1, .int y1_1), (4, .int z3), (0, .ref (aμ 0))]) h 3 rfl (congrArg (fun z => y1_3 + z) (by decide : Int32.ofInt 1 = 1)) dX4_difference_47 (by decide) rfl ?_
            refine r_goto h 8 dX4_difference_50 (by decide) ?_
            exact J.loc (lv' := [(3, .int (y1_3 + 1)), (2, .int y1_2), (1, .int y1_1), (0, .ref (aμ 0))]) [0, 1, 2, 4] rfl (ih (y1_3 + 1) y1_2 y1_1 hF)
          · replace hF := o_neg c6 hF
            refine r_iload h 1 rfl dX4_difference_40 ?_
            refine r_goto h 46 dX4_difference_42 (by decide) ?_
            refine r_istore_n (lv' := [(2, .int z3), (1, .int y1_1), (4, .int z3), (3, .int y1_3), (0, .ref (aμ 0))]) h rfl dX4_difference_46 (by decide) rfl ?_
            refine r_iinc (lv' := [(3, .int (y1_3 + 1)), (2, .int z3), (1, .int y1_1), (4, .int z3), (0, .ref (aμ 0))]) h 3 rfl (congrArg (fun z => y1_3 + z) (by decide : Int32.ofInt 1 = 1)) dX4_difference_47 (by decide) rfl ?_
            refine r_goto h 8 dX4_difference_50 (by decide) ?_
            exact J.loc (lv' := [(3, .int (y1_3 + 1)), (2, .int z3), (1, .int y1_1), (0, .ref (aμ 0))]) [0, 1, 2, 4] rfl (ih (y1_3 + 1) z3 y1_1 hF)
        · replace hF := o_neg c5 hF
          refine r_iload h 0 rfl dX4_difference_27 ?_
          refine r_goto h 33 dX4_difference_29 (by decide) ?_
          refine r_istore_n (lv' := [(1, .int z3), (4, .int z3), (3, .int y1_3), (2, .int y1_2), (0, .ref (aμ 0))]) h rfl dX4_difference_33 (by decide) rfl ?_
          refine r_iload h 1 rfl dX4_difference_34 ?_
          refine r_iload_n h 3 rfl rfl dX4_difference_36 ?_
          refine r_icmp_ge h 45 dX4_difference_37 (by decide) (fun c7 => ?_) (fun c7 => ?_)
          · replace hF := o_pos c7 hF
            refine r_iload_n h 3 rfl rfl dX4_difference_45 ?_
            refine r_istore_n (lv' := [(2, .int y1_2), (1, .int z3), (4, .int z3), (3, .int y1_3), (0, .ref (aμ 0))]) h rfl dX4_difference_46 (by decide) rfl ?_
            refine r_iinc (lv' := [(3, .int (y1_3 + 1)), (2, .int y1_2), (1, .int z3), (4, .int z3), (0, .ref (aμ 0))]) h 3 rfl (congrArg (fun z => y1_3 + z) (by decide : Int32.ofInt 1 = 1)) dX4_difference_47 (by decide) rfl ?_
            refine r_goto h 8 dX4_difference_50 (by decide) ?_
            exact J.loc (lv' := [(3, .int (y1_3 + 1)), (2, .int y1_2), (1, .int z3), (0, .ref (aμ 0))]) [0, 1, 2, 4] rfl (ih (y1_3 + 1) y1_2 z3 hF)
          · replace hF := o_neg c7 hF
            refine r_iload h 1 rfl dX4_difference_40 ?_
            refine r_goto h 46 dX4_difference_42 (by decide) ?_
            refine r_istore_n (lv' := [(2, .int z3), (1, .int z3), (4, .int z3), (3, .int y1_3), (0, .ref (aμ 0))]) h rfl dX4_difference_46 (by decide) rfl ?_
            refine r_iinc (lv' := [(3, .int (y1_3 + 1)), (2, .int z3), (1, .int z3), (4, .int z3), (0, .ref (aμ 0))]) h 3 rfl (congrArg (fun z => y1_3 + z) (by decide : Int32.ofInt 1 = 1)) dX4_difference_47 (by decide) rfl ?_
            refine r_goto h 8 dX4_difference_50 (by decide) ?_
            exact J.loc (lv' := [(3, .int (y1_3 + 1)), (2, .int z3), (1, .int z3), (0, .ref (aμ 0))]) [0, 1, 2, 4] rfl (ih (y1_3 + 1) z3 z3 hF)
  refine hL8 _ (fun y1_3 y1_2 y1_1 hF => ?_) _ (0 : Int32) (1188 : Int32) (0 : Int32) hF
  refine r_iload_n h 2 rfl rfl dX4_difference_53 ?_
  refine r_iload_n h 1 rfl rfl dX4_difference_54 ?_
  refine r_isub h dX4_difference_55 ?_
  cases hF
  exact r_iret h hr dX4_difference_56 ⟨rfl, rfl⟩

def FX4_wrong_L2 (μ : MDS) (K : Int32 → Option (Int32)) : Nat → Int32 → Option (Int32)
  | 0, _ => none
  | n + 1, y1_1 =>
  if (6 : Int32) ≤ y1_1 then
  (K y1_1)
else
  ((FX4_load μ y1_1 (-1 : Int32)).bind fun z3 =>
  gd (¬ (((0 : Int32) + y1_1) < 0 ∨ 219 ≤ ((0 : Int32) + y1_1).toNatClampNeg)) (
  nmv (μ.1 ((0 : Int32) + y1_1).toNatClampNeg) fun u5 =>
  if z3 ≤ u5 then
  (FX4_wrong_L2 μ K n (y1_1 + 1))
else
  (some (4 : Int32))))
def FX4_wrong_L35 (μ : MDS) (K : Int32 → Option (Int32)) : Nat → Int32 → Option (Int32)
  | 0, _ => none
  | n + 1, y7_1 =>
  if (5 : Int32) ≤ y7_1 then
  (K y7_1)
else
  ((FX4_inTray μ y7_1).bind fun z9 =>
  gd (¬ (((6 : Int32) + y7_1) < 0 ∨ 219 ≤ ((6 : Int32) + y7_1).toNatClampNeg)) (
  nmv (μ.1 ((6 : Int32) + y7_1).toNatClampNeg) fun u11 =>
  if z9 ≤ u11 then
  (FX4_wrong_L35 μ K n (y7_1 + 1))
else
  (some (5 : Int32))))
def FX4_wrong_L67 (μ : MDS) (K : Int32 → Option (Int32)) : Nat → Int32 → Option (Int32)
  | 0, _ => none
  | n + 1, y13_1 =>
  gd (¬ ((14 : Int32) < 0 ∨ 219 ≤ ((14 : Int32)).toNatClampNeg)) (
  if (μ.1 ((14 : Int32)).toNatClampNeg) ≤ y13_1 then
  (K y13_1)
else
  ((FX4_needs μ y13_1).bind fun z15 =>
  nmv ((91 : Int32) + ((3 : Int32) * y13_1)) fun u17 =>
  gd (¬ ((u17 + (2 : Int32)) < 0 ∨ 219 ≤ (u17 + (2 : Int32)).toNatClampNeg)) (
  nmv (μ.1 (u17 + (2 : Int32)).toNatClampNeg) fun u18 =>
  if z15 ≤ u18 then
  (FX4_wrong_L67 μ K n (y13_1 + 1))
else
  (some (6 : Int32)))))
def FX4_wrong (μ : MDS) : Option (Int32) :=
  FX4_wrong_L2 μ (fun (y1_1 : Int32) =>
  FX4_wrong_L35 μ (fun (y7_1 : Int32) =>
  FX4_wrong_L67 μ (fun (y13_1 : Int32) =>
  (FX4_difference μ).bind fun z20 =>
  gd (¬ ((11 : Int32) < 0 ∨ 219 ≤ ((11 : Int32)).toNatClampNeg)) (
  if z20 ≤ (μ.1 ((11 : Int32)).toNatClampNeg) then
  (some (0 : Int32))
else
  (some (7 : Int32)))) FU (0 : Int32)) FU (0 : Int32)) FU (0 : Int32)
abbrev rmX4_wrong : Room := { frames := 3, cells := 0, slots := 0, locals := 71 }
set_option maxHeartbeats 4000000 in
set_option maxRecDepth 100000 in
theorem CX4_wrong (l : Launch) (D : va_G) (aμ : Nat → Nat) (μ : MDS) (r0 : Int32) (hF : FX4_wrong μ = some r0) : Ct l D yX4_wrong cX4_wrong 2 (some .int) rmX4_wrong 0 0 [.ref (aμ 0)] (mdW D aμ μ) (fun v w => v = some (.int r0) ∧ w = mdW D aμ μ) := by
  refine Ct.of (own := RX4) (lv := [(0, .ref (aμ 0))]) (by decide +kernel) rfl (Nat.le_of_ble_eq_true rfl) rfl (fun X h hr => ?_)
  unfold FX4_wrong at hF
  refine r_iconst (v := 0) h dX4_wrong_0 (by decide) ?_
  refine r_istore_n (lv' := [(1, .int (0 : Int32)), (0, .ref (aμ 0))]) h rfl dX4_wrong_1 (by decide) rfl ?_
  have hL2 : ∀ (K : Int32 → Option (Int32)) (hK : ∀ (y1_1 : Int32), K y1_1 = some r0 → J X l rmX4_wrong D 2 0 0 (mdW D aμ μ) [(1, .int y1_1), (0, .ref (aμ 0))] 33 []) (N : Nat), ∀ (y1_1 : Int32), FX4_wrong_L2 μ K N y1_1 = some r0 → J X l rmX4_wrong D 2 0 0 (mdW D aμ μ) [(1, .int y1_1), (0, .ref (aμ 0))] 2 [] := by
    intro K hK N
    induction N with
    | zero =>
      intro y1_1 hF
      cases hF
    | succ N ih =>
      intro y1_1 hF
      rw [FX4_wrong_L2] at hF
      refine r_iload_n h 0 rfl rfl dX4_wrong_2 ?_
      refine r_bipush (v := 6) h dX4_wrong_3 (by decide) ?_
      refine r_icmp_ge h 33 dX4_wrong_5 (by decide) (fun c2 => ?_) (fun c2 => ?_)
      · replace hF := o_pos c2 hF
        exact J.loc (lv' := [(1, .int y1_1), (0, .ref (aμ 0))]) [0, 1] rfl (hK y1_1 hF)
      · replace hF := o_neg c2 hF
        refine r_aload_n h 1 rfl rfl dX4_wrong_8 ?_
        refine r_iload_n h 0 rfl rfl dX4_wrong_9 ?_
        refine r_iconst (v := -1) h dX4_wrong_10 (by decide) ?_
        obtain ⟨z3, e4, hF⟩ := o_bind hF
        refine r_callVa (q0 := 0) (rest := []) h hd_X4_load wm_857 dX4_wrong_11 (CX4_load l D aμ μ y1_1 (-1 : Int32) z3 e4) rfl rfl rfl ⟨rfl, rfl⟩ ⟨by decide, by decide⟩ (Nat.le_of_ble_eq_true rfl) ⟨by decide, by decide⟩ rfl (fun v w' hp => ?_)
        obtain ⟨rfl, rfl⟩ := hp
        refine r_aload_n h 1 rfl rfl dX4_wrong_14 ?_
        refine r_get h fl_X4_7 0 rfl rfl dX4_wrong_15 ?_
        refine r_iconst (v := 0) h dX4_wrong_18 (by decide) ?_
        refine r_iload_n h 0 rfl rfl dX4_wrong_19 ?_
        refine r_iadd h dX4_wrong_20 ?_
        obtain ⟨hN, hF⟩ := o_gd hF
        refine r_iald h 1 rfl hN dX4_wrong_21 ?_
        obtain ⟨u5, hu5, hF⟩ := o_nm hF
        refine J.top hu5 ?_
        refine r_icmp_le h 27 dX4_wrong_22 (by decide) (fun c6 => ?_) (fun c6 => ?_)
        · replace hF := o_pos c6 hF
          refine r_iinc (lv' := [(1, .int (y1_1 + 1)), (0, .ref (aμ 0))]) h 0 rfl (congrArg (fun z => y1_1 + z) (by decide : Int32.ofInt 1 = 1)) dX4_wrong_27 (by decide) rfl ?_
          refine r_goto h 2 dX4_wrong_30 (by decide) ?_
          exact J.loc (lv' := [(1, .int (y1_1 + 1)), (0, .ref (aμ 0))]) [0, 1] rfl (ih (y1_1 + 1) hF)
        · replace hF := o_neg c6 hF
          refine r_iconst (v := 4) h dX4_wrong_25 (by decide) ?_
          cases hF
          exact r_iret h hr dX4_wrong_26 ⟨rfl, rfl⟩
  refine hL2 _ (fun y1_1 hF => ?_) _ (0 : Int32) hF
  refine r_iconst (v := 0) h dX4_wrong_33 (by decide) ?_
  refine r_istore_n (lv' := [(1, .int (0 : Int32)), (0, .ref (aμ 0))]) h rfl dX4_wrong_34 (by decide) rfl ?_
  have hL35 : ∀ (K : Int32 → Option (Int32)) (hK : ∀ (y7_1 : Int32), K y7_1 = some r0 → J X l rmX4_wrong D 2 0 0 (mdW D aμ μ) [(1, .int y7_1), (0, .ref (aμ 0))] 65 []) (N : Nat), ∀ (y7_1 : Int32), FX4_wrong_L35 μ K N y7_1 = some r0 → J X l rmX4_wrong D 2 0 0 (mdW D aμ μ) [(1, .int y7_1), (0, .ref (aμ 0))] 35 [] := by
    intro K hK N
    induction N with
    | zero =>
      intro y7_1 hF
      cases hF
    | succ N ih =>
      intro y7_1 hF
      rw [FX4_wrong_L35] at hF
      refine r_iload_n h 0 rfl rfl dX4_wrong_35 ?_
      refine r_iconst (v := 5) h dX4_wrong_36 (by decide) ?_
      refine r_icmp_ge h 65 dX4_wrong_37 (by decide) (fun c8 => ?_) (fun c8 => ?_)
      · replace hF := o_pos c8 hF
        exact J.loc (lv' := [(1, .int y7_1), (0, .ref (aμ 0))]) [0, 1] rfl (hK y7_1 hF)
      · replace hF := o_neg c8 hF
        refine r_aload_n h 1 rfl rfl dX4_wrong_40 ?_
        refine r_iload_n h 0 rfl rfl dX4_wrong_41 ?_
        obtain ⟨z9, e10, hF⟩ := o_bind hF
        refine r_callVa (q0 := 0) (rest := []) h hd_X4_inTray wm_901 dX4_wrong_42 (CX4_inTray l D aμ μ y7_1 z9 e10) rfl rfl rfl ⟨rfl, rfl⟩ ⟨by decide, by decide⟩ (Nat.le_of_ble_eq_true rfl) ⟨by decide, by decide⟩ rfl (fun v w' hp => ?_)
        obtain ⟨rfl, rfl⟩ := hp
        refine r_aload_n h 1 rfl rfl dX4_wrong_45 ?_
        refine r_get h fl_X4_7 0 rfl rfl dX4_wrong_46 ?_
        refine r_bipush (v := 6) h dX4_wrong_49 (by decide) ?_
        refine r_iload_n h 0 rfl rfl dX4_wrong_51 ?_
        refine r_iadd h dX4_wrong_52 ?_
        obtain ⟨hN, hF⟩ := o_gd hF
        refine r_iald h 1 rfl hN dX4_wrong_53 ?_
        obtain ⟨u11, hu11, hF⟩ := o_nm hF
        refine J.top hu11 ?_
        refine r_icmp_le h 59 dX4_wrong_54 (by decide) (fun c12 => ?_) (fun c12 => ?_)
        · replace hF := o_pos c12 hF
          refine r_iinc (lv' := [(1, .int (y7_1 + 1)), (0, .ref (aμ 0))]) h 0 rfl (congrArg (fun z => y7_1 + z) (by decide : Int32.ofInt 1 = 1)) dX4_wrong_59 (by decide) rfl ?_
          refine r_goto h 35 dX4_wrong_62 (by decide) ?_
          exact J.loc (lv' := [(1, .int (y7_1 + 1)), (0, .ref (aμ 0))]) [0, 1] rfl (ih (y7_1 + 1) hF)
        · replace hF := o_neg c12 hF
          refine r_iconst (v := 5) h dX4_wrong_57 (by decide) ?_
          cases hF
          exact r_iret h hr dX4_wrong_58 ⟨rfl, rfl⟩
  refine hL35 _ (fun y7_1 hF => ?_) _ (0 : Int32) hF
  refine r_iconst (v := 0) h dX4_wrong_65 (by decide) ?_
  refine r_istore_n (lv' := [(1, .int (0 : Int32)), (0, .ref (aμ 0))]) h rfl dX4_wrong_66 (by decide) rfl ?_
  have hL67 : ∀ (K : Int32 → Option (Int32)) (hK : ∀ (y13_1 : Int32), K y13_1 = some r0 → J X l rmX4_wrong D 2 0 0 (mdW D aμ μ) [(1, .int y13_1), (0, .ref (aμ 0))] 108 []) (N : Nat), ∀ (y13_1 : Int32), FX4_wrong_L67 μ K N y13_1 = some r0 → J X l rmX4_wrong D 2 0 0 (mdW D aμ μ) [(1, .int y13_1), (0, .ref (aμ 0))] 67 [] := by
    intro K hK N
    induction N with
    | zero =>
      intro y13_1 hF
      cases hF
    | succ N ih =>
      intro y13_1 hF
      rw [FX4_wrong_L67] at hF
      refine r_iload_n h 0 rfl rfl dX4_wrong_67 ?_
      refine r_aload_n h 1 rfl rfl dX4_wrong_68 ?_
      refine r_get h fl_X4_7 0 rfl rfl dX4_wrong_69 ?_
      refine r_bipush (v := 14) h dX4_wrong_72 (by decide) ?_
      obtain ⟨hN, hF⟩ := o_gd hF
      refine r_iald h 1 rfl hN dX4_wrong_74 ?_
      refine r_icmp_ge h 108 dX4_wrong_75 (by decide) (fun c14 => ?_) (fun c14 => ?_)
      · replace hF := o_pos c14 hF
        exact J.loc (lv' := [(1, .int y13_1), (0, .ref (aμ 0))]) [0, 1] rfl (hK y13_1 hF)
      · replace hF := o_neg c14 hF
        refine r_aload_n h 1 rfl rfl dX4_wrong_78 ?_
        refine r_iload_n h 0 rfl rfl dX4_wrong_79 ?_
        obtain ⟨z15, e16, hF⟩ := o_bind hF
        refine r_callVa (q0 := 0) (rest := []) h hd_X4_needs wm_893 dX4_wrong_80 (CX4_needs l D aμ μ y13_1 z15 e16) rfl rfl rfl ⟨rfl, rfl⟩ ⟨by decide, by decide⟩ (Nat.le_of_ble_eq_true rfl) ⟨by decide, by decide⟩ rfl (fun v w' hp => ?_)
        obtain ⟨rfl, rfl⟩ := hp
        refine r_aload_n h 1 rfl rfl dX4_wrong_83 ?_
        refine r_get h fl_X4_7 0 rfl rfl dX4_wrong_84 ?_
        refine r_bipush (v := 91) h dX4_wrong_87 (by decide) ?_
        refine r_iconst (v := 3) h dX4_wrong_89 (by decide) ?_
        refine r_iload_n h 0 rfl rfl dX4_wrong_90 ?_
        refine r_imul h dX4_wrong_91 ?_
        refine r_iadd h dX4_wrong_92 ?_
        obtain ⟨u17, hu17, hF⟩ := o_nm hF
        refine J.top hu17 ?_
        refine r_iconst (v := 2) h dX4_wrong_93 (by decide) ?_
        refine r_iadd h dX4_wrong_94 ?_
        obtain ⟨hN, hF⟩ := o_gd hF
        refine r_iald h 1 rfl hN dX4_wrong_95 ?_
        obtain ⟨u18, hu18, hF⟩ := o_nm hF
        refine J.top hu18 ?_
        refine r_icmp_le h 102 dX4_wrong_96 (by decide) (fun c19 => ?_) (fun c19 => ?_)
        · replace hF := o_pos c19 hF
          refine r_iinc (lv' := [(1, .int (y13_1 + 1)), (0, .ref (aμ 0))]) h 0 rfl (congrArg (fun z => y13_1 + z) (by decide : Int32.ofInt 1 = 1)) dX4_wrong_102 (by decide) rfl ?_
          refine r_goto h 67 dX4_wrong_105 (by decide) ?_
          exact J.loc (lv' := [(1, .int (y13_1 + 1)), (0, .ref (aμ 0))]) [0, 1] rfl (ih (y13_1 + 1) hF)
        · replace hF := o_neg c19 hF
          refine r_bipush (v := 6) h dX4_wrong_99 (by decide) ?_
          cases hF
          exact r_iret h hr dX4_wrong_101 ⟨rfl, rfl⟩
  refine hL67 _ (fun y13_1 hF => ?_) _ (0 : Int32) hF
  refine r_aload_n h 1 rfl rfl dX4_wrong_108 ?_
  obtain ⟨z20, e21, hF⟩ := o_bind hF
  refine r_callVa (q0 := 0) (rest := []) h hd_X4_difference wm_917 dX4_wrong_109 (CX4_difference l D aμ μ z20 e21) rfl rfl rfl ⟨rfl, rfl⟩ ⟨by decide, by decide⟩ (Nat.le_of_ble_eq_true rfl) ⟨by decide, by decide⟩ rfl (fun v w' hp => ?_)
  obtain ⟨rfl, rfl⟩ := hp
  refine r_aload_n h 1 rfl rfl dX4_wrong_112 ?_
  refine r_get h fl_X4_7 0 rfl rfl dX4_wrong_113 ?_
  refine r_bipush (v := 11) h dX4_wrong_116 (by decide) ?_
  obtain ⟨hN, hF⟩ := o_gd hF
  refine r_iald h 1 rfl hN dX4_wrong_118 ?_
  refine r_icmp_le h 127 dX4_wrong_119 (by decide) (fun c22 => ?_) (fun c22 => ?_)
  · replace hF := o_pos c22 hF
    refine r_iconst (v := 0) h dX4_wrong_127 (by decide) ?_
    cases hF
    exact r_iret h hr dX4_wrong_128 ⟨rfl, rfl⟩
  · replace hF := o_neg c22 hF
    refine r_bipush (v := 7) h dX4_wrong_122 (by decide) ?_
    refine r_goto h 128 dX4_wrong_124 (by decide) ?_
    cases hF
    exact r_iret h hr dX4_wrong_128 ⟨rfl, rfl⟩

def FX4_standing_L4 (μ : MDS) (K : Int32 → Int32 → Option (Int32)) : Nat → Int32 → Int32 → Option (Int32)
  | 0, _, _ => none
  | n + 1, y1_2, y1_1 =>
  gd (¬ ((13 : Int32) < 0 ∨ 219 ≤ ((13 : Int32)).toNatClampNeg)) (
  if (μ.1 ((13 : Int32)).toNatClampNeg) ≤ y1_2 then
  (K y1_2 y1_1)
else
  ((FX4_of μ y1_2 (4 : Int32)).bind fun z3 =>
  if z3 = (-1 : Int32) then
  (FX4_standing_L4 μ K n (y1_2 + 1) (y1_1 + (0 : Int32)))
else
  (FX4_standing_L4 μ K n (y1_2 + 1) (y1_1 + (1 : Int32)))))
def FX4_standing (μ : MDS) : Option (Int32) :=
  FX4_standing_L4 μ (fun (y1_2 : Int32) (y1_1 : Int32) =>
  some y1_1) FU (0 : Int32) (0 : Int32)
abbrev rmX4_standing : Room := { frames := 1, cells := 0, slots := 0, locals := 22 }
set_option maxHeartbeats 4000000 in
set_option maxRecDepth 100000 in
theorem CX4_standing (l : Launch) (D : va_G) (aμ : Nat → Nat) (μ : MDS) (r0 : Int32) (hF : FX4_standing μ = some r0) : Ct l D yX4_standing cX4_standing 3 (some .int) rmX4_standing 0 0 [.ref (aμ 0)] (mdW D aμ μ) (fun v w => v = some (.int r0) ∧ w = mdW D aμ μ) := by
  refine Ct.of (own := RX4) (lv := [(0, .ref (aμ 0))]) (by decide +kernel) rfl (Nat.le_of_ble_eq_true rfl) rfl (fun X h hr => ?_)
  unfold FX4_standing at hF
  refine r_iconst (v := 0) h dX4_standing_0 (by decide) ?_
  refine r_istore_n (lv' := [(1, .int (0 : Int32)), (0, .ref (aμ 0))]) h rfl dX4_standing_1 (by decide) rfl ?_
  refine r_iconst (v := 0) h dX4_standing_2 (by decide) ?_
  refine r_istore_n (lv' := [(2, .int (0 : Int32)), (1, .int (0 : Int32)), (0, .ref (aμ 0))]) h rfl dX4_standing_3 (by decide) rfl ?_
  have hL4 : ∀ (K : Int32 → Int32 → Option (Int32)) (hK : ∀ (y1_2 : Int32) (y1_1 : Int32), K y1_2 y1_1 = some r0 → J X l rmX4_standing D 3 0 0 (mdW D aμ μ) [(2, .int y1_2), (1, .int y1_1), (0, .ref (aμ 0))] 39 []) (N : Nat), ∀ (y1_2 : Int32) (y1_1 : Int32), FX4_standing_L4 μ K N y1_2 y1_1 = some r0 → J X l rmX4_standing D 3 0 0 (mdW D aμ μ) [(2, .int y1_2), (1, .int y1_1), (0, .ref (aμ 0))] 4 [] := by
    intro K hK N
    induction N with
    | zero =>
      intro y1_2 y1_1 hF
      cases hF
    | succ N ih =>
      intro y1_2 y1_1 hF
      rw [FX4_standing_L4] at hF
      refine r_iload_n h 0 rfl rfl dX4_standing_4 ?_
      refine r_aload_n h 2 rfl rfl dX4_standing_5 ?_
      refine r_get h fl_X4_7 0 rfl rfl dX4_standing_6 ?_
      refine r_bipush (v := 13) h dX4_standing_9 (by decide) ?_
      obtain ⟨hN, hF⟩ := o_gd hF
      refine r_iald h 1 rfl hN dX4_standing_11 ?_
      refine r_icmp_ge h 39 dX4_standing_12 (by decide) (fun c2 => ?_) (fun c2 => ?_)
      · replace hF := o_pos c2 hF
        exact J.loc (lv' := [(2, .int y1_2), (1, .int y1_1), (0, .ref (aμ 0))]) [0, 1, 2] rfl (hK y1_2 y1_1 hF)
      · replace hF := o_neg c2 hF
        refine r_iload_n h 1 rfl rfl dX4_standing_15 ?_
        refine r_aload_n h 2 rfl rfl dX4_standing_16 ?_
        refine r_iload_n h 0 rfl rfl dX4_standing_17 ?_
        refine r_iconst (v := 4) h dX4_standing_18 (by decide) ?_
        obtain ⟨z3, e4, hF⟩ := o_bind hF
        refine r_callVa (q0 := 0) (rest := [.int y1_1]) h hd_X4_of wm_837 dX4_standing_19 (CX4_of l D aμ μ y1_2 (4 : Int32) z3 e4) rfl rfl rfl ⟨rfl, rfl⟩ ⟨by decide, by decide⟩ (Nat.le_of_ble_eq_true rfl) ⟨by decide, by decide⟩ rfl (fun v w' hp => ?_)
        obtain ⟨rfl, rfl⟩ := hp
        refine r_iconst (v := -1) h dX4_standing_22 (by decide) ?_
        refine r_icmp_ne h 30 dX4_standing_23 (by decide) (fun c5 => ?_) (fun c5 => ?_)
        · replace hF := o_neg c5 hF
          refine r_iconst (v := 1) h dX4_standing_30 (by decide) ?_
          refine r_iadd h dX4_standing_31 ?_
          refine r_istore_n (lv' := [(1, .int (y1_1 + (1 : Int32))), (2, .int y1_2), (0, .ref (aμ 0))]) h rfl dX4_standing_32 (by decide) rfl ?_
          refine r_iinc (lv' := [(2, .int (y1_2 + 1)), (1, .int (y1_1 + (1 : Int32))), (0, .ref (aμ 0))]) h 1 rfl (congrArg (fun z => y1_2 + z) (by decide : Int32.ofInt 1 = 1)) dX4_standing_33 (by decide) rfl ?_
          refine r_goto h 4 dX4_standing_36 (by decide) ?_
          exact J.loc (lv' := [(2, .int (y1_2 + 1)), (1, .int (y1_1 + (1 : Int32))), (0, .ref (aμ 0))]) [0, 1, 2] rfl (ih (y1_2 + 1) (y1_1 + (1 : Int32)) hF)
        · replace hF := o_pos c5 hF
          refine r_iconst (v := 0) h dX4_standing_26 (by decide) ?_
          refine r_goto h 31 dX4_standing_27 (by decide) ?_
          refine r_iadd h dX4_standing_31 ?_
          refine r_istore_n (lv' := [(1, .int (y1_1 + (0 : Int32))), (2, .int y1_2), (0, .ref (aμ 0))]) h rfl dX4_standing_32 (by decide) rfl ?_
          refine r_iinc (lv' := [(2, .int (y1_2 + 1)), (1, .int (y1_1 + (0 : Int32))), (0, .ref (aμ 0))]) h 1 rfl (congrArg (fun z => y1_2 + z) (by decide : Int32.ofInt 1 = 1)) dX4_standing_33 (by decide) rfl ?_
          refine r_goto h 4 dX4_standing_36 (by decide) ?_
          exact J.loc (lv' := [(2, .int (y1_2 + 1)), (1, .int (y1_1 + (0 : Int32))), (0, .ref (aμ 0))]) [0, 1, 2] rfl (ih (y1_2 + 1) (y1_1 + (0 : Int32)) hF)
  refine hL4 _ (fun y1_2 y1_1 hF => ?_) _ (0 : Int32) (0 : Int32) hF
  refine r_iload_n h 1 rfl rfl dX4_standing_39 ?_
  cases hF
  exact r_iret h hr dX4_standing_40 ⟨rfl, rfl⟩

def FX4_tellValue (μ : MDS) (x1 : Int32) : Option (Int32) :=
  if (x1).toInt < 0 ∨ 10 < (x1).toInt then
  (gd (¬ ((((16 : Int32) + x1) - (11 : Int32)) < 0 ∨ 219 ≤ (((16 : Int32) + x1) - (11 : Int32)).toNatClampNeg)) (
  nmv (μ.1 (((16 : Int32) + x1) - (11 : Int32)).toNatClampNeg) fun u2 =>
  some u2))
else if x1 = (0 : Int32) then
  (gd (¬ ((13 : Int32) < 0 ∨ 219 ≤ ((13 : Int32)).toNatClampNeg)) (
  some (μ.1 ((13 : Int32)).toNatClampNeg)))
else if x1 = (1 : Int32) then
  ((FX4_standing μ).bind fun z5 =>
  some z5)
else if x1 = (2 : Int32) then
  (gd (¬ ((14 : Int32) < 0 ∨ 219 ≤ ((14 : Int32)).toNatClampNeg)) (
  some (μ.1 ((14 : Int32)).toNatClampNeg)))
else if x1 = (3 : Int32) then
  (gd (¬ ((15 : Int32) < 0 ∨ 219 ≤ ((15 : Int32)).toNatClampNeg)) (
  some (μ.1 ((15 : Int32)).toNatClampNeg)))
else if x1 = (4 : Int32) then
  (gd (¬ ((12 : Int32) < 0 ∨ 219 ≤ ((12 : Int32)).toNatClampNeg)) (
  some (μ.1 ((12 : Int32)).toNatClampNeg)))
else if x1 = (5 : Int32) then
  (gd (¬ ((11 : Int32) < 0 ∨ 219 ≤ ((11 : Int32)).toNatClampNeg)) (
  some (μ.1 ((11 : Int32)).toNatClampNeg)))
else if x1 = (6 : Int32) then
  ((FX4_load μ (-1 : Int32) (x1 - (6 : Int32))).bind fun z12 =>
  some z12)
else if x1 = (7 : Int32) then
  ((FX4_load μ (-1 : Int32) (x1 - (6 : Int32))).bind fun z15 =>
  some z15)
else if x1 = (8 : Int32) then
  ((FX4_load μ (-1 : Int32) (x1 - (6 : Int32))).bind fun z18 =>
  some z18)
else if x1 = (9 : Int32) then
  ((FX4_difference μ).bind fun z21 =>
  some z21)
else if x1 = (10 : Int32) then
  ((FX4_wrong μ).bind fun z24 =>
  some z24)
else none
abbrev rmX4_tellValue : Room := { frames := 4, cells := 0, slots := 0, locals := 92 }
set_option maxHeartbeats 4000000 in
set_option maxRecDepth 100000 in
theorem CX4_tellValue (l : Launch) (D : va_G) (aμ : Nat → Nat) (μ : MDS) (x1 : Int32) (r0 : Int32) (hF : FX4_tellValue μ x1 = some r0) : Ct l D yX4_tellValue cX4_tellValue 2 (some .int) rmX4_tellValue 0 0 [.ref (aμ 0), .int x1] (mdW D aμ μ) (fun v w => v = some (.int r0) ∧ w = mdW D aμ μ) := by
  refine Ct.of (own := RX4) (lv := [(0, .ref (aμ 0)), (1, .int x1)]) (by decide +kernel) rfl (Nat.le_of_ble_eq_true rfl) rfl (fun X h hr => ?_)
  unfold FX4_tellValue at hF
  refine r_iload_n h 1 rfl rfl dX4_tellValue_0 ?_
  by_cases c1 : (x1).toInt < 0 ∨ 10 < (x1).toInt
  · replace hF := o_pos c1 hF
    refine r_tswOut h 125 dX4_tellValue_1 c1 (by decide) ?_
    refine r_aload_n h 0 rfl rfl dX4_tellValue_125 ?_
    refine r_get h fl_X4_7 0 rfl rfl dX4_tellValue_126 ?_
    refine r_bipush (v := 16) h dX4_tellValue_129 (by decide) ?_
    refine r_iload_n h 1 rfl rfl dX4_tellValue_131 ?_
    refine r_iadd h dX4_tellValue_132 ?_
    refine r_bipush (v := 11) h dX4_tellValue_133 (by decide) ?_
    refine r_isub h dX4_tellValue_135 ?_
    obtain ⟨hN, hF⟩ := o_gd hF
    refine r_iald h 1 rfl hN dX4_tellValue_136 ?_
    obtain ⟨u2, hu2, hF⟩ := o_nm hF
    refine J.top hu2 ?_
    cases hF
    exact r_iret h hr dX4_tellValue_137 ⟨rfl, rfl⟩
  · replace hF := o_neg c1 hF
    by_cases c3 : x1 = (0 : Int32)
    · replace hF := o_pos c3 hF
      refine r_tswIn h (0 : Int32) c3 60 dX4_tellValue_1 (by decide) (by decide) rfl (by decide) ?_
      refine r_aload_n h 0 rfl rfl dX4_tellValue_60 ?_
      refine r_get h fl_X4_7 0 rfl rfl dX4_tellValue_61 ?_
      refine r_bipush (v := 13) h dX4_tellValue_64 (by decide) ?_
      obtain ⟨hN, hF⟩ := o_gd hF
      refine r_iald h 1 rfl hN dX4_tellValue_66 ?_
      cases hF
      exact r_iret h hr dX4_tellValue_67 ⟨rfl, rfl⟩
    · replace hF := o_neg c3 hF
      by_cases c4 : x1 = (1 : Int32)
      · replace hF := o_pos c4 hF
        refine r_tswIn h (1 : Int32) c4 68 dX4_tellValue_1 (by decide) (by decide) rfl (by decide) ?_
        refine r_aload_n h 0 rfl rfl dX4_tellValue_68 ?_
        obtain ⟨z5, e6, hF⟩ := o_bind hF
        refine r_callVa (q0 := 0) (rest := []) h hd_X4_standing wm_913 dX4_tellValue_69 (CX4_standing l D aμ μ z5 e6) rfl rfl rfl ⟨rfl, rfl⟩ ⟨by decide, by decide⟩ (Nat.le_of_ble_eq_true rfl) ⟨by decide, by decide⟩ rfl (fun v w' hp => ?_)
        obtain ⟨rfl, rfl⟩ := hp
        cases hF
        exact r_iret h hr dX4_tellValue_72 ⟨rfl, rfl⟩
      · replace hF := o_neg c4 hF
        by_cases c7 : x1 = (2 : Int32)
        · replace hF := o_pos c7 hF
          refine r_tswIn h (2 : Int32) c7 73 dX4_tellValue_1 (by decide) (by decide) rfl (by decide) ?_
          refine r_aload_n h 0 rfl rfl dX4_tellValue_73 ?_
          refine r_get h fl_X4_7 0 rfl rfl dX4_tellValue_74 ?_
          refine r_bipush (v := 14) h dX4_tellValue_77 (by decide) ?_
          obtain ⟨hN, hF⟩ := o_gd hF
          refine r_iald h 1 rfl hN dX4_tellValue_79 ?_
          cases hF
          exact r_iret h hr dX4_tellValue_80 ⟨rfl, rfl⟩
        · replace hF := o_neg c7 hF
          by_cases c8 : x1 = (3 : Int32)
          · replace hF := o_pos c8 hF
            refine r_tswIn h (3 : Int32) c8 81 dX4_tellValue_1 (by decide) (by decide) rfl (by decide) ?_
            refine r_aload_n h 0 rfl rfl dX4_tellValue_81 ?_
            refine r_get h fl_X4_7 0 rfl rfl dX4_tellValue_82 ?_
            refine r_bipush (v := 15) h dX4_tellValue_85 (by decide) ?_
            obtain ⟨hN, hF⟩ := o_gd hF
            refine r_iald h 1 rfl hN dX4_tellValue_87 ?_
            cases hF
            exact r_iret h hr dX4_tellValue_88 ⟨rfl, rfl⟩
          · replace hF := o_neg c8 hF
            by_cases c9 : x1 = (4 : Int32)
            · replace hF := o_pos c9 hF
              refine r_tswIn h (4 : Int32) c9 89 dX4_tellValue_1 (by decide) (by decide) rfl (by decide) ?_
              refine r_aload_n h 0 rfl rfl dX4_tellValue_89 ?_
              refine r_get h fl_X4_7 0 rfl rfl dX4_tellValue_90 ?_
              refine r_bipush (v := 12) h dX4_tellValue_93 (by decide) ?_
              obtain ⟨hN, hF⟩ := o_gd hF
              refine r_iald h 1 rfl hN dX4_tellValue_95 ?_
              cases hF
              exact r_iret h hr dX4_tellValue_96 ⟨rfl, rfl⟩
            · replace hF := o_neg c9 hF
              by_cases c10 : x1 = (5 : Int32)
              · replace hF := o_pos c10 hF
                refine r_tswIn h (5 : Int32) c10 97 dX4_tellValue_1 (by decide) (by decide) rfl (by decide) ?_
                refine r_aload_n h 0 rfl rfl dX4_tellValue_97 ?_
                refine r_get h fl_X4_7 0 rfl rfl dX4_tellValue_98 ?_
                refine r_bipush (v := 11) h dX4_tellValue_101 (by decide) ?_
                obtain ⟨hN, hF⟩ := o_gd hF
                refine r_iald h 1 rfl hN dX4_tellValue_103 ?_
                cases hF
                exact r_iret h hr dX4_tellValue_104 ⟨rfl, rfl⟩
              · replace hF := o_neg c10 hF
                by_cases c11 : x1 = (6 : Int32)
                · replace hF := o_pos c11 hF
                  refine r_tswIn h (6 : Int32) c11 105 dX4_tellValue_1 (by decide) (by decide) rfl (by decide) ?_
                  refine r_aload_n h 0 rfl rfl dX4_tellValue_105 ?_
                  refine r_iconst (v := -1) h dX4_tellValue_106 (by decide) ?_
                  refine r_iload_n h 1 rfl rfl dX4_tellValue_107 ?_
                  refine r_bipush (v := 6) h dX4_tellValue_108 (by decide) ?_
                  refine r_isub h dX4_tellValue_110 ?_
                  obtain ⟨z12, e13, hF⟩ := o_bind hF
                  refine r_callVa (q0 := 0) (rest := []) h hd_X4_load wm_857 dX4_tellValue_111 (CX4_load l D aμ μ (-1 : Int32) (x1 - (6 : Int32)) z12 e13) rfl rfl rfl ⟨rfl, rfl⟩ ⟨by decide, by decide⟩ (Nat.le_of_ble_eq_true rfl) ⟨by decide, by decide⟩ rfl (fun v w' hp => ?_)
                  obtain ⟨rfl, rfl⟩ := hp
                  cases hF
                  exact r_iret h hr dX4_tellValue_114 ⟨rfl, rfl⟩
                · replace hF := o_neg c11 hF
                  by_cases c14 : x1 = (7 : Int32)
                  · replace hF := o_pos c14 hF
                    refine r_tswIn h (7 : Int32) c14 105 dX4_tellValue_1 (by decide) (by decide) rfl (by decide) ?_
                    refine r_aload_n h 0 rfl rfl dX4_tellValue_105 ?_
                    refine r_iconst (v := -1) h dX4_tellValue_106 (by decide) ?_
                    refine r_iload_n h 1 rfl rfl dX4_tellValue_107 ?_
                    refine r_bipush (v := 6) h dX4_tellValue_108 (by decide) ?_
                    refine r_isub h dX4_tellValue_110 ?_
                    obtain ⟨z15, e16, hF⟩ := o_bind hF
                    refine r_callVa (q0 := 0) (rest := []) h hd_X4_load wm_857 dX4_tellValue_111 (CX4_load l D aμ μ (-1 : Int32) (x1 - (6 : Int32)) z15 e16) rfl rfl rfl ⟨rfl, rfl⟩ ⟨by decide, by decide⟩ (Nat.le_of_ble_eq_true rfl) ⟨by decide, by decide⟩ rfl (fun v w' hp => ?_)
                    obtain ⟨rfl, rfl⟩ := hp
                    cases hF
                    exact r_iret h hr dX4_tellValue_114 ⟨rfl, rfl⟩
                  · replace hF := o_neg c14 hF
                    by_cases c17 : x1 = (8 : Int32)
                    · replace hF := o_pos c17 hF
                      refine r_tswIn h (8 : Int32) c17 105 dX4_tellValue_1 (by decide) (by decide) rfl (by decide) ?_
                      refine r_aload_n h 0 rfl rfl dX4_tellValue_105 ?_
                      refine r_iconst (v := -1) h dX4_tellValue_106 (by decide) ?_
                      refine r_iload_n h 1 rfl rfl dX4_tellValue_107 ?_
                      refine r_bipush (v := 6) h dX4_tellValue_108 (by decide) ?_
                      refine r_isub h dX4_tellValue_110 ?_
                      obtain ⟨z18, e19, hF⟩ := o_bind hF
                      refine r_callVa (q0 := 0) (rest := []) h hd_X4_load wm_857 dX4_tellValue_111 (CX4_load l D aμ μ (-1 : Int32) (x1 - (6 : Int32)) z18 e19) rfl rfl rfl ⟨rfl, rfl⟩ ⟨by decide, by decide⟩ (Nat.le_of_ble_eq_true rfl) ⟨by decide, by decide⟩ rfl (fun v w' hp => ?_)
                      obtain ⟨rfl, rfl⟩ := hp
                      cases hF
                      exact r_iret h hr dX4_tellValue_114 ⟨rfl, rfl⟩
                    · replace hF := o_neg c17 hF
                      by_cases c20 : x1 = (9 : Int32)
                      · replace hF := o_pos c20 hF
                        refine r_tswIn h (9 : Int32) c20 115 dX4_tellValue_1 (by decide) (by decide) rfl (by decide) ?_
                        refine r_aload_n h 0 rfl rfl dX4_tellValue_115 ?_
                        obtain ⟨z21, e22, hF⟩ := o_bind hF
                        refine r_callVa (q0 := 0) (rest := []) h hd_X4_difference wm_917 dX4_tellValue_116 (CX4_difference l D aμ μ z21 e22) rfl rfl rfl ⟨rfl, rfl⟩ ⟨by decide, by decide⟩ (Nat.le_of_ble_eq_true rfl) ⟨by decide, by decide⟩ rfl (fun v w' hp => ?_)
                        obtain ⟨rfl, rfl⟩ := hp
                        cases hF
                        exact r_iret h hr dX4_tellValue_119 ⟨rfl, rfl⟩
                      · replace hF := o_neg c20 hF
                        by_cases c23 : x1 = (10 : Int32)
                        · replace hF := o_pos c23 hF
                          refine r_tswIn h (10 : Int32) c23 120 dX4_tellValue_1 (by decide) (by decide) rfl (by decide) ?_
                          refine r_aload_n h 0 rfl rfl dX4_tellValue_120 ?_
                          obtain ⟨z24, e25, hF⟩ := o_bind hF
                          refine r_callVa (q0 := 0) (rest := []) h hd_X4_wrong wm_921 dX4_tellValue_121 (CX4_wrong l D aμ μ z24 e25) rfl rfl rfl ⟨rfl, rfl⟩ ⟨by decide, by decide⟩ (Nat.le_of_ble_eq_true rfl) ⟨by decide, by decide⟩ rfl (fun v w' hp => ?_)
                          obtain ⟨rfl, rfl⟩ := hp
                          cases hF
                          exact r_iret h hr dX4_tellValue_124 ⟨rfl, rfl⟩
                        · replace hF := o_neg c23 hF
                          cases hF

def FX4_value (μ : MDS) (x1 : Int32) : Option (Int32 × MDS) :=
  (FX4_in x1 (0 : Int32) (13 : Int32)).bind fun z1 =>
  if z1 = 0 then
  ((FX4_refused μ (1 : Int32)).bind fun z4 =>
  if z4.1 = 0 then
  ((FX4_tellValue z4.2 x1).bind fun z7 =>
  some (z7, z4.2))
else
  (some ((0 : Int32), z4.2)))
else
  ((FX4_refused μ (0 : Int32)).bind fun z9 =>
  if z9.1 = 0 then
  ((FX4_tellValue z9.2 x1).bind fun z12 =>
  some (z12, z9.2))
else
  (some ((0 : Int32), z9.2)))
abbrev rmX4_value : Room := { frames := 5, cells := 0, slots := 0, locals := 113 }
set_option maxHeartbeats 4000000 in
set_option maxRecDepth 100000 in
theorem CX4_value (l : Launch) (D : va_G) (aμ : Nat → Nat) (μ : MDS) (x1 : Int32) (r0 : Int32) (μ0 : MDS) (hF : FX4_value μ x1 = some (r0, μ0)) : Ct l D yX4_value cX4_value 2 (some .int) rmX4_value 0 0 [.ref (aμ 0), .int x1] (mdW D aμ μ) (fun v w => v = some (.int r0) ∧ w = mdW D aμ μ0) := by
  refine Ct.of (own := RX4) (lv := [(0, .ref (aμ 0)), (1, .int x1)]) (by decide +kernel) rfl (Nat.le_of_ble_eq_true rfl) rfl (fun X h hr => ?_)
  unfold FX4_value at hF
  refine r_aload_n h 0 rfl rfl dX4_value_0 ?_
  refine r_iload_n h 1 rfl rfl dX4_value_1 ?_
  refine r_iconst (v := 0) h dX4_value_2 (by decide) ?_
  refine r_bipush (v := 13) h dX4_value_3 (by decide) ?_
  obtain ⟨z1, e2, hF⟩ := o_bind hF
  refine r_callSp (rest := [.ref (aμ 0)]) h hd_X4_in wm_763 dX4_value_5 (CX4_in l D x1 (0 : Int32) (13 : Int32) z1 e2) rfl ⟨rfl, rfl⟩ ⟨by decide, by decide⟩ (Nat.le_of_ble_eq_true rfl) ⟨by decide, by decide⟩ rfl ?_
  refine r_if_eq h 15 dX4_value_8 (by decide) (fun c3 => ?_) (fun c3 => ?_)
  · replace hF := o_pos c3 hF
    refine r_iconst (v := 1) h dX4_value_15 (by decide) ?_
    obtain ⟨z4, e5, hF⟩ := o_bind hF
    refine r_callVa (q0 := 0) (rest := []) h hd_X4_refused wm_752 dX4_value_16 (CX4_refused l D aμ μ (1 : Int32) z4.1 z4.2 e5) rfl rfl rfl ⟨rfl, rfl⟩ ⟨by decide, by decide⟩ (Nat.le_of_ble_eq_true rfl) ⟨by decide, by decide⟩ rfl (fun v w' hp => ?_)
    obtain ⟨rfl, rfl⟩ := hp
    refine r_if_eq h 26 dX4_value_19 (by decide) (fun c6 => ?_) (fun c6 => ?_)
    · replace hF := o_pos c6 hF
      refine r_aload_n h 0 rfl rfl dX4_value_26 ?_
      refine r_iload_n h 1 rfl rfl dX4_value_27 ?_
      obtain ⟨z7, e8, hF⟩ := o_bind hF
      refine r_callVa (q0 := 0) (rest := []) h hd_X4_tellValue wm_909 dX4_value_28 (CX4_tellValue l D aμ z4.2 x1 z7 e8) rfl rfl rfl ⟨rfl, rfl⟩ ⟨by decide, by decide⟩ (Nat.le_of_ble_eq_true rfl) ⟨by decide, by decide⟩ rfl (fun v w' hp => ?_)
      obtain ⟨rfl, rfl⟩ := hp
      cases hF
      exact r_iret h hr dX4_value_31 ⟨rfl, rfl⟩
    · replace hF := o_neg c6 hF
      refine r_iconst (v := 0) h dX4_value_22 (by decide) ?_
      refine r_goto h 31 dX4_value_23 (by decide) ?_
      cases hF
      exact r_iret h hr dX4_value_31 ⟨rfl, rfl⟩
  · replace hF := o_neg c3 hF
    refine r_iconst (v := 0) h dX4_value_11 (by decide) ?_
    refine r_goto h 16 dX4_value_12 (by decide) ?_
    obtain ⟨z9, e10, hF⟩ := o_bind hF
    refine r_callVa (q0 := 0) (rest := []) h hd_X4_refused wm_752 dX4_value_16 (CX4_refused l D aμ μ (0 : Int32) z9.1 z9.2 e10) rfl rfl rfl ⟨rfl, rfl⟩ ⟨by decide, by decide⟩ (Nat.le_of_ble_eq_true rfl) ⟨by decide, by decide⟩ rfl (fun v w' hp => ?_)
    obtain ⟨rfl, rfl⟩ := hp
    refine r_if_eq h 26 dX4_value_19 (by decide) (fun c11 => ?_) (fun c11 => ?_)
    · replace hF := o_pos c11 hF
      refine r_aload_n h 0 rfl rfl dX4_value_26 ?_
      refine r_iload_n h 1 rfl rfl dX4_value_27 ?_
      obtain ⟨z12, e13, hF⟩ := o_bind hF
      refine r_callVa (q0 := 0) (rest := []) h hd_X4_tellValue wm_909 dX4_value_28 (CX4_tellValue l D aμ z9.2 x1 z12 e13) rfl rfl rfl ⟨rfl, rfl⟩ ⟨by decide, by decide⟩ (Nat.le_of_ble_eq_true rfl) ⟨by decide, by decide⟩ rfl (fun v w' hp => ?_)
      obtain ⟨rfl, rfl⟩ := hp
      cases hF
      exact r_iret h hr dX4_value_31 ⟨rfl, rfl⟩
    · replace hF := o_neg c11 hF
      refine r_iconst (v := 0) h dX4_value_22 (by decide) ?_
      refine r_goto h 31 dX4_value_23 (by decide) ?_
      cases hF
      exact r_iret h hr dX4_value_31 ⟨rfl, rfl⟩

def FX4_places (μ : MDS) (x1 : Int32) (x2 : Int32) (x3 : Int32) (x4 : Int32) : Option (MDS) :=
  nmv (((19 : Int32) + ((6 : Int32) * x1)) + (4 : Int32)) fun u1 =>
  gd (¬ (u1 < 0 ∨ 219 ≤ (u1).toNatClampNeg)) (
  nmv (upd μ.1 (u1).toNatClampNeg x2) fun fw2 =>
  nmv (((19 : Int32) + ((6 : Int32) * x1)) + (5 : Int32)) fun u3 =>
  gd (¬ (u3 < 0 ∨ 219 ≤ (u3).toNatClampNeg)) (
  nmv (upd fw2 (u3).toNatClampNeg x3) fun fw4 =>
  nmv (((19 : Int32) + ((6 : Int32) * x1)) + (2 : Int32)) fun u5 =>
  gd (¬ (u5 < 0 ∨ 219 ≤ (u5).toNatClampNeg)) (
  nmv (upd fw4 (u5).toNatClampNeg x4) fun fw6 =>
  some (fw6, μ.2.1, μ.2.2.1, μ.2.2.2.1, μ.2.2.2.2.1, μ.2.2.2.2.2.1, μ.2.2.2.2.2.2.1, μ.2.2.2.2.2.2.2.1, μ.2.2.2.2.2.2.2.2.1, μ.2.2.2.2.2.2.2.2.2.1, μ.2.2.2.2.2.2.2.2.2.2.1, μ.2.2.2.2.2.2.2.2.2.2.2.1, μ.2.2.2.2.2.2.2.2.2.2.2.2))))
abbrev rmX4_places : Room := { frames := 0, cells := 0, slots := 0, locals := 0 }
set_option maxHeartbeats 4000000 in
set_option maxRecDepth 100000 in
theorem CX4_places (l : Launch) (D : va_G) (aμ : Nat → Nat) (μ : MDS) (x1 : Int32) (x2 : Int32) (x3 : Int32) (x4 : Int32) (μ0 : MDS) (hF : FX4_places μ x1 x2 x3 x4 = some μ0) : Ct l D yX4_places cX4_places 6 none rmX4_places 0 0 [.ref (aμ 0), .int x1, .int x2, .int x3, .int x4] (mdW D aμ μ) (fun v w => v = none ∧ w = mdW D aμ μ0) := by
  refine Ct.of (own := RX4) (lv := [(0, .ref (aμ 0)), (1, .int x1), (2, .int x2), (3, .int x3), (4, .int x4)]) (by decide +kernel) rfl (Nat.le_of_ble_eq_true rfl) rfl (fun X h hr => ?_)
  unfold FX4_places at hF
  refine r_bipush (v := 19) h dX4_places_0 (by decide) ?_
  refine r_bipush (v := 6) h dX4_places_2 (by decide) ?_
  refine r_iload_n h 1 rfl rfl dX4_places_4 ?_
  refine r_imul h dX4_places_5 ?_
  refine r_iadd h dX4_places_6 ?_
  refine r_istore (lv' := [(5, .int ((19 : Int32) + ((6 : Int32) * x1))), (0, .ref (aμ 0)), (1, .int x1), (2, .int x2), (3, .int x3), (4, .int x4)]) h dX4_places_7 (by decide) rfl ?_
  refine r_aload_n h 1 rfl rfl dX4_places_9 ?_
  refine r_get h fl_X4_7 0 rfl rfl dX4_places_10 ?_
  refine r_iload h 0 rfl dX4_places_13 ?_
  refine r_iconst (v := 4) h dX4_places_15 (by decide) ?_
  refine r_iadd h dX4_places_16 ?_
  obtain ⟨u1, hu1, hF⟩ := o_nm hF
  refine J.top hu1 ?_
  refine r_iload_n h 3 rfl rfl dX4_places_17 ?_
  obtain ⟨hN, hF⟩ := o_gd hF
  obtain ⟨fw2, hfw2, hF⟩ := o_nm hF
  refine r_iast (ws' := mdW D aμ (fw2, μ.2.1, μ.2.2.1, μ.2.2.2.1, μ.2.2.2.2.1, μ.2.2.2.2.2.1, μ.2.2.2.2.2.2.1, μ.2.2.2.2.2.2.2.1, μ.2.2.2.2.2.2.2.2.1, μ.2.2.2.2.2.2.2.2.2.1, μ.2.2.2.2.2.2.2.2.2.2.1, μ.2.2.2.2.2.2.2.2.2.2.2.1, μ.2.2.2.2.2.2.2.2.2.2.2.2)) h 1 rfl hN (by rw [hfw2]; rfl) dX4_places_18 ?_
  refine r_aload_n h 1 rfl rfl dX4_places_19 ?_
  refine r_get h fl_X4_7 0 rfl rfl dX4_places_20 ?_
  refine r_iload h 0 rfl dX4_places_23 ?_
  refine r_iconst (v := 5) h dX4_places_25 (by decide) ?_
  refine r_iadd h dX4_places_26 ?_
  obtain ⟨u3, hu3, hF⟩ := o_nm hF
  refine J.top hu3 ?_
  refine r_iload_n h 4 rfl rfl dX4_places_27 ?_
  obtain ⟨hN, hF⟩ := o_gd hF
  obtain ⟨fw4, hfw4, hF⟩ := o_nm hF
  refine r_iast (ws' := mdW D aμ (fw4, μ.2.1, μ.2.2.1, μ.2.2.2.1, μ.2.2.2.2.1, μ.2.2.2.2.2.1, μ.2.2.2.2.2.2.1, μ.2.2.2.2.2.2.2.1, μ.2.2.2.2.2.2.2.2.1, μ.2.2.2.2.2.2.2.2.2.1, μ.2.2.2.2.2.2.2.2.2.2.1, μ.2.2.2.2.2.2.2.2.2.2.2.1, μ.2.2.2.2.2.2.2.2.2.2.2.2)) h 1 rfl hN (by rw [hfw4]; rfl) dX4_places_28 ?_
  refine r_aload_n h 1 rfl rfl dX4_places_29 ?_
  refine r_get h fl_X4_7 0 rfl rfl dX4_places_30 ?_
  refine r_iload h 0 rfl dX4_places_33 ?_
  refine r_iconst (v := 2) h dX4_places_35 (by decide) ?_
  refine r_iadd h dX4_places_36 ?_
  obtain ⟨u5, hu5, hF⟩ := o_nm hF
  refine J.top hu5 ?_
  refine r_iload h 5 rfl dX4_places_37 ?_
  obtain ⟨hN, hF⟩ := o_gd hF
  obtain ⟨fw6, hfw6, hF⟩ := o_nm hF
  refine r_iast (ws' := mdW D aμ (fw6, μ.2.1, μ.2.2.1, μ.2.2.2.1, μ.2.2.2.2.1, μ.2.2.2.2.2.1, μ.2.2.2.2.2.2.1, μ.2.2.2.2.2.2.2.1, μ.2.2.2.2.2.2.2.2.1, μ.2.2.2.2.2.2.2.2.2.1, μ.2.2.2.2.2.2.2.2.2.2.1, μ.2.2.2.2.2.2.2.2.2.2.2.1, μ.2.2.2.2.2.2.2.2.2.2.2.2)) h 1 rfl hN (by rw [hfw6]; rfl) dX4_places_39 ?_
  cases hF
  exact r_vret h hr dX4_places_40 ⟨rfl, rfl⟩

def FX4_steps_L75  (K : Int32 → MDS → Option (Int32 × MDS)) : Nat → Int32 → MDS → Option (Int32 × MDS)
  | 0, _, _ => none
  | n + 1, y15_9, s15_μ =>
  if (215 : Int32) ≤ y15_9 then
  (K y15_9 s15_μ)
else
  (gd (¬ ((y15_9 + (4 : Int32)) < 0 ∨ 219 ≤ (y15_9 + (4 : Int32)).toNatClampNeg)) (
  nmv (s15_μ.1 (y15_9 + (4 : Int32)).toNatClampNeg) fun u17 =>
  gd (¬ (y15_9 < 0 ∨ 219 ≤ (y15_9).toNatClampNeg)) (
  nmv (upd s15_μ.1 (y15_9).toNatClampNeg u17) fun fw18 =>
  FX4_steps_L75 K n (y15_9 + 1) (fw18, s15_μ.2.1, s15_μ.2.2.1, s15_μ.2.2.2.1, s15_μ.2.2.2.2.1, s15_μ.2.2.2.2.2.1, s15_μ.2.2.2.2.2.2.1, s15_μ.2.2.2.2.2.2.2.1, s15_μ.2.2.2.2.2.2.2.2.1, s15_μ.2.2.2.2.2.2.2.2.2.1, s15_μ.2.2.2.2.2.2.2.2.2.2.1, s15_μ.2.2.2.2.2.2.2.2.2.2.2.1, s15_μ.2.2.2.2.2.2.2.2.2.2.2.2))))
def FX4_steps_J116 (x1 : Int32) (z1 : Int32) (z3 : Int32) (z5 : Int32) (t13_μ : MDS) : Option (Int32 × MDS) :=
  gd (¬ ((16 : Int32) < 0 ∨ 219 ≤ ((16 : Int32)).toNatClampNeg)) (
  nmv (t13_μ.1 ((16 : Int32)).toNatClampNeg) fun u21 =>
  nmv ((139 : Int32) + ((4 : Int32) * u21)) fun u22 =>
  gd (¬ (u22 < 0 ∨ 219 ≤ (u22).toNatClampNeg)) (
  nmv (upd t13_μ.1 (u22).toNatClampNeg x1) fun fw23 =>
  gd (¬ ((u22 + (1 : Int32)) < 0 ∨ 219 ≤ (u22 + (1 : Int32)).toNatClampNeg)) (
  nmv (upd fw23 (u22 + (1 : Int32)).toNatClampNeg z1) fun fw24 =>
  gd (¬ ((u22 + (2 : Int32)) < 0 ∨ 219 ≤ (u22 + (2 : Int32)).toNatClampNeg)) (
  nmv (upd fw24 (u22 + (2 : Int32)).toNatClampNeg z3) fun fw25 =>
  gd (¬ ((u22 + (3 : Int32)) < 0 ∨ 219 ≤ (u22 + (3 : Int32)).toNatClampNeg)) (
  nmv (upd fw25 (u22 + (3 : Int32)).toNatClampNeg z5) fun fw26 =>
  gd (¬ ((16 : Int32) < 0 ∨ 219 ≤ ((16 : Int32)).toNatClampNeg)) (
  nmv ((fw26 ((16 : Int32)).toNatClampNeg) + (1 : Int32)) fun u27 =>
  gd (¬ ((16 : Int32) < 0 ∨ 219 ≤ ((16 : Int32)).toNatClampNeg)) (
  nmv (upd fw26 ((16 : Int32)).toNatClampNeg u27) fun fw28 =>
  gd (¬ ((17 : Int32) < 0 ∨ 219 ≤ ((17 : Int32)).toNatClampNeg)) (
  nmv ((fw28 ((17 : Int32)).toNatClampNeg) + (1 : Int32)) fun u29 =>
  gd (¬ ((17 : Int32) < 0 ∨ 219 ≤ ((17 : Int32)).toNatClampNeg)) (
  nmv (upd fw28 ((17 : Int32)).toNatClampNeg u29) fun fw30 =>
  some ((0 : Int32), (fw30, t13_μ.2.1, t13_μ.2.2.1, t13_μ.2.2.2.1, t13_μ.2.2.2.2.1, t13_μ.2.2.2.2.2.1, t13_μ.2.2.2.2.2.2.1, t13_μ.2.2.2.2.2.2.2.1, t13_μ.2.2.2.2.2.2.2.2.1, t13_μ.2.2.2.2.2.2.2.2.2.1, t13_μ.2.2.2.2.2.2.2.2.2.2.1, t13_μ.2.2.2.2.2.2.2.2.2.2.2.1, t13_μ.2.2.2.2.2.2.2.2.2.2.2.2)))))))))))
def FX4_steps (μ : MDS) (x1 : Int32) (x2 : Int32) (x3 : Int32) (x4 : Int32) : Option (Int32 × MDS) :=
  (FX4_of μ x1 (4 : Int32)).bind fun z1 =>
  (FX4_of μ x1 (5 : Int32)).bind fun z3 =>
  (FX4_of μ x1 (2 : Int32)).bind fun z5 =>
  (FX4_places μ x1 x2 x3 x4).bind fun z7 =>
  (FX4_wrong z7).bind fun z9 =>
  if z9 ≤ 0 then
  (gd (¬ ((16 : Int32) < 0 ∨ 219 ≤ ((16 : Int32)).toNatClampNeg)) (
  if (z7.1 ((16 : Int32)).toNatClampNeg) = (20 : Int32) then
  (FX4_steps_L75  (fun (y15_9 : Int32) (s15_μ : MDS) =>
  gd (¬ ((16 : Int32) < 0 ∨ 219 ≤ ((16 : Int32)).toNatClampNeg)) (
  nmv (s15_μ.1 ((16 : Int32)).toNatClampNeg) fun u19 =>
  gd (¬ ((16 : Int32) < 0 ∨ 219 ≤ ((16 : Int32)).toNatClampNeg)) (
  nmv (upd s15_μ.1 ((16 : Int32)).toNatClampNeg (u19 - (1 : Int32))) fun fw20 =>
  FX4_steps_J116 x1 z1 z3 z5 (fw20, s15_μ.2.1, s15_μ.2.2.1, s15_μ.2.2.2.1, s15_μ.2.2.2.2.1, s15_μ.2.2.2.2.2.1, s15_μ.2.2.2.2.2.2.1, s15_μ.2.2.2.2.2.2.2.1, s15_μ.2.2.2.2.2.2.2.2.1, s15_μ.2.2.2.2.2.2.2.2.2.1, s15_μ.2.2.2.2.2.2.2.2.2.2.1, s15_μ.2.2.2.2.2.2.2.2.2.2.2.1, s15_μ.2.2.2.2.2.2.2.2.2.2.2.2)))) FU (139 : Int32) z7)
else
  (FX4_steps_J116 x1 z1 z3 z5 z7)))
else
  ((FX4_places z7 x1 z1 z3 z5).bind fun z31 =>
  some (z9, z31))
abbrev rmX4_steps : Room := { frames := 4, cells := 0, slots := 0, locals := 92 }
set_option maxHeartbeats 4000000 in
set_option maxRecDepth 100000 in
theorem CX4_steps (l : Launch) (D : va_G) (aμ : Nat → Nat) (μ : MDS) (x1 : Int32) (x2 : Int32) (x3 : Int32) (x4 : Int32) (r0 : Int32) (μ0 : MDS) (hF : FX4_steps μ x1 x2 x3 x4 = some (r0, μ0)) : Ct l D yX4_steps cX4_steps 10 (some .int) rmX4_steps 0 0 [.ref (aμ 0), .int x1, .int x2, .int x3, .int x4] (mdW D aμ μ) (fun v w => v = some (.int r0) ∧ w = mdW D aμ μ0) := by
  refine Ct.of (own := RX4) (lv := [(0, .ref (aμ 0)), (1, .int x1), (2, .int x2), (3, .int x3), (4, .int x4)]) (by decide +kernel) rfl (Nat.le_of_ble_eq_true rfl) rfl (fun X h hr => ?_)
  unfold FX4_steps at hF
  refine r_aload_n h 0 rfl rfl dX4_steps_0 ?_
  refine r_iload_n h 1 rfl rfl dX4_steps_1 ?_
  refine r_iconst (v := 4) h dX4_steps_2 (by decide) ?_
  obtain ⟨z1, e2, hF⟩ := o_bind hF
  refine r_callVa (q0 := 0) (rest := []) h hd_X4_of wm_837 dX4_steps_3 (CX4_of l D aμ μ x1 (4 : Int32) z1 e2) rfl rfl rfl ⟨rfl, rfl⟩ ⟨by decide, by decide⟩ (Nat.le_of_ble_eq_true rfl) ⟨by decide, by decide⟩ rfl (fun v w' hp => ?_)
  obtain ⟨rfl, rfl⟩ := hp
  refine r_istore (lv' := [(5, .int z1), (0, .ref (aμ 0)), (1, .int x1), (2, .int x2), (3, .int x3), (4, .int x4)]) h dX4_steps_6 (by decide) rfl ?_
  refine r_aload_n h 1 rfl rfl dX4_steps_8 ?_
  refine r_iload_n h 2 rfl rfl dX4_steps_9 ?_
  refine r_iconst (v := 5) h dX4_steps_10 (by decide) ?_
  obtain ⟨z3, e4, hF⟩ := o_bind hF
  refine r_callVa (q0 := 0) (rest := []) h hd_X4_of wm_837 dX4_steps_11 (CX4_of l D aμ μ x1 (5 : Int32) z3 e4) rfl rfl rfl ⟨rfl, rfl⟩ ⟨by decide, by decide⟩ (Nat.le_of_ble_eq_true rfl) ⟨by decide, by decide⟩ rfl (fun v w' hp => ?_)
  obtain ⟨rfl, rfl⟩ := hp
  refine r_istore (lv' := [(6, .int z3), (5, .int z1), (0, .ref (aμ 0)), (1, .int x1), (2, .int x2), (3, .int x3), (4, .int x4)]) h dX4_steps_14 (by decide) rfl ?_
  refine r_aload_n h 2 rfl rfl dX4_steps_16 ?_
  refine r_iload_n h 3 rfl rfl dX4_steps_17 ?_
  refine r_iconst (v := 2) h dX4_steps_18 (by decide) ?_
  obtain ⟨z5, e6, hF⟩ := o_bind hF
  refine r_callVa (q0 := 0) (rest := []) h hd_X4_of wm_837 dX4_steps_19 (CX4_of l D aμ μ x1 (2 : Int32) z5 e6) rfl rfl rfl ⟨rfl, rfl⟩ ⟨by decide, by decide⟩ (Nat.le_of_ble_eq_true rfl) ⟨by decide, by decide⟩ rfl (fun v w' hp => ?_)
  obtain ⟨rfl, rfl⟩ := hp
  refine r_istore (lv' := [(7, .int z5), (6, .int z3), (5, .int z1), (0, .ref (aμ 0)), (1, .int x1), (2, .int x2), (3, .int x3), (4, .int x4)]) h dX4_steps_22 (by decide) rfl ?_
  refine r_aload_n h 3 rfl rfl dX4_steps_24 ?_
  refine r_iload_n h 4 rfl rfl dX4_steps_25 ?_
  refine r_iload_n h 5 rfl rfl dX4_steps_26 ?_
  refine r_iload_n h 6 rfl rfl dX4_steps_27 ?_
  refine r_iload h 7 rfl dX4_steps_28 ?_
  obtain ⟨z7, e8, hF⟩ := o_bind hF
  refine r_callVa (q0 := 0) (rest := []) h hd_X4_places wm_943 dX4_steps_30 (CX4_places l D aμ μ x1 x2 x3 x4 z7 e8) rfl rfl rfl ⟨rfl, rfl⟩ ⟨by decide, by decide⟩ (Nat.le_of_ble_eq_true rfl) ⟨by decide, by decide⟩ rfl (fun v w' hp => ?_)
  obtain ⟨rfl, rfl⟩ := hp
  refine r_aload_n h 3 rfl rfl dX4_steps_33 ?_
  obtain ⟨z9, e10, hF⟩ := o_bind hF
  refine r_callVa (q0 := 0) (rest := []) h hd_X4_wrong wm_921 dX4_steps_34 (CX4_wrong l D aμ z7 z9 e10) rfl rfl rfl ⟨rfl, rfl⟩ ⟨by decide, by decide⟩ (Nat.le_of_ble_eq_true rfl) ⟨by decide, by decide⟩ rfl (fun v w' hp => ?_)
  obtain ⟨rfl, rfl⟩ := hp
  refine r_istore (lv' := [(8, .int z9), (7, .int z5), (6, .int z3), (5, .int z1), (0, .ref (aμ 0)), (1, .int x1), (2, .int x2), (3, .int x3), (4, .int x4)]) h dX4_steps_37 (by decide) rfl ?_
  refine r_iload h 0 rfl dX4_steps_39 ?_
  refine r_if_le h 58 dX4_steps_41 (by decide) (fun c11 => ?_) (fun c11 => ?_)
  · replace hF := o_pos c11 hF
    refine r_aload_n h 4 rfl rfl dX4_steps_58 ?_
    refine r_get h fl_X4_7 0 rfl rfl dX4_steps_59 ?_
    refine r_bipush (v := 16) h dX4_steps_62 (by decide) ?_
    obtain ⟨hN, hF⟩ := o_gd hF
    refine r_iald h 1 rfl hN dX4_steps_64 ?_
    refine r_bipush (v := 20) h dX4_steps_65 (by decide) ?_
    have hJ116 : ∀ (t13_μ : MDS), FX4_steps_J116 x1 z1 z3 z5 t13_μ = some (r0, μ0) → J X l rmX4_steps D 10 0 0 (mdW D aμ t13_μ) [(8, .int z9), (7, .int z5), (6, .int z3), (5, .int z1), (0, .ref (aμ 0)), (1, .int x1), (2, .int x2), (3, .int x3), (4, .int x4)] 116 [] := by
      intro t13_μ hF
      unfold FX4_steps_J116 at hF
      refine r_sipush (v := 139) h dX4_steps_116 (by decide) ?_
      refine r_iconst (v := 4) h dX4_steps_119 (by decide) ?_
      refine r_aload_n h 4 rfl rfl dX4_steps_120 ?_
      refine r_get h fl_X4_7 0 rfl rfl dX4_steps_121 ?_
      refine r_bipush (v := 16) h dX4_steps_124 (by decide) ?_
      obtain ⟨hN, hF⟩ := o_gd hF
      refine r_iald h 1 rfl hN dX4_steps_126 ?_
      obtain ⟨u21, hu21, hF⟩ := o_nm hF
      refine J.top hu21 ?_
      refine r_imul h dX4_steps_127 ?_
      refine r_iadd h dX4_steps_128 ?_
      obtain ⟨u22, hu22, hF⟩ := o_nm hF
      refine J.top hu22 ?_
      refine r_istore (lv' := [(9, .int u22), (8, .int z9), (7, .int z5), (6, .int z3), (5, .int z1), (0, .ref (aμ 0)), (1, .int x1), (2, .int x2), (3, .int x3), (4, .int x4)]) h dX4_steps_129 (by decide) rfl ?_
      refine r_aload_n h 5 rfl rfl dX4_steps_131 ?_
      refine r_get h fl_X4_7 0 rfl rfl dX4_steps_132 ?_
      refine r_iload h 0 rfl dX4_steps_135 ?_
      refine r_iload_n h 6 rfl rfl dX4_steps_137 ?_
      obtain ⟨hN, hF⟩ := o_gd hF
      obtain ⟨fw23, hfw23, hF⟩ := o_nm hF
      refine r_iast (ws' := mdW D aμ (fw23, t13_μ.2.1, t13_μ.2.2.1, t13_μ.2.2.2.1, t13_μ.2.2.2.2.1, t13_μ.2.2.2.2.2.1, t13_μ.2.2.2.2.2.2.1, t13_μ.2.2.2.2.2.2.2.1, t13_μ.2.2.2.2.2.2.2.2.1, t13_μ.2.2.2.2.2.2.2.2.2.1, t13_μ.2.2.2.2.2.2.2.2.2.2.1, t13_μ.2.2.2.2.2.2.2.2.2.2.2.1, t13_μ.2.2.2.2.2.2.2.2.2.2.2.2)) h 1 rfl hN (by rw [hfw23]; rfl) dX4_steps_138 ?_
      refine r_aload_n h 5 rfl rfl dX4_steps_139 ?_
      refine r_get h fl_X4_7 0 rfl rfl dX4_steps_140 ?_
      refine r_iload h 0 rfl dX4_steps_143 ?_
      refine r_iconst (v := 1) h dX4_steps_145 (by decide) ?_
      refine r_iadd h dX4_steps_146 ?_
      refine r_iload h 4 rfl dX4_steps_147 ?_
      obtain ⟨hN, hF⟩ := o_gd hF
      obtain ⟨fw24, hfw24, hF⟩ := o_nm hF
      refine r_iast (ws' := mdW D aμ (fw24, t13_μ.2.1, t13_μ.2.2.1, t13_μ.2.2.2.1, t13_μ.2.2.2.2.1, t13_μ.2.2.2.2.2.1, t13_μ.2.2.2.2.2.2.1, t13_μ.2.2.2.2.2.2.2.1, t13_μ.2.2.2.2.2.2.2.2.1, t13_μ.2.2.2.2.2.2.2.2.2.1, t13_μ.2.2.2.2.2.2.2.2.2.2.1, t13_μ.2.2.2.2.2.2.2.2.2.2.2.1, t13_μ.2.2.2.2.2.2.2.2.2.2.2.2)) h 1 rfl hN (by rw [hfw24]; rfl) dX4_steps_149 ?_
      refine r_aload_n h 5 rfl rfl dX4_steps_150 ?_
      refine r_get h fl_X4_7 0 rfl rfl dX4_steps_151 ?_
      refine r_iload h 0 rfl dX4_steps_154 ?_
      refine r_iconst (v := 2) h dX4_steps_156 (by decide) ?_
      refine r_iadd h dX4_steps_157 ?_
      refine r_iload h 3 rfl dX4_steps_158 ?_
      obtain ⟨hN, hF⟩ := o_gd hF
      obtain ⟨fw25, hfw25, hF⟩ := o_nm hF
      refine r_iast (ws' := mdW D aμ (fw25, t13_μ.2.1, t13_μ.2.2.1, t13_μ.2.2.2.1, t13_μ.2.2.2.2.1, t13_μ.2.2.2.2.2.1, t13_μ.2.2.2.2.2.2.1, t13_μ.2.2.2.2.2.2.2.1, t13_μ.2.2.2.2.2.2.2.2.1, t13_μ.2.2.2.2.2.2.2.2.2.1, t13_μ.2.2.2.2.2.2.2.2.2.2.1, t13_μ.2.2.2.2.2.2.2.2.2.2.2.1, t13_μ.2.2.2.2.2.2.2.2.2.2.2.2)) h 1 rfl hN (by rw [hfw25]; rfl) dX4_steps_160 ?_
      refine r_aload_n h 5 rfl rfl dX4_steps_161 ?_
      refine r_get h fl_X4_7 0 rfl rfl dX4_steps_162 ?_
      refine r_iload h 0 rfl dX4_steps_165 ?_
      refine r_iconst (v := 3) h dX4_steps_167 (by decide) ?_
      refine r_iadd h dX4_steps_168 ?_
      refine r_iload h 2 rfl dX4_steps_169 ?_
      obtain ⟨hN, hF⟩ := o_gd hF
      obtain ⟨fw26, hfw26, hF⟩ := o_nm hF
      refine r_iast (ws' := mdW D aμ (fw26, t13_μ.2.1, t13_μ.2.2.1, t13_μ.2.2.2.1, t13_μ.2.2.2.2.1, t13_μ.2.2.2.2.2.1, t13_μ.2.2.2.2.2.2.1, t13_μ.2.2.2.2.2.2.2.1, t13_μ.2.2.2.2.2.2.2.2.1, t13_μ.2.2.2.2.2.2.2.2.2.1, t13_μ.2.2.2.2.2.2.2.2.2.2.1, t13_μ.2.2.2.2.2.2.2.2.2.2.2.1, t13_μ.2.2.2.2.2.2.2.2.2.2.2.2)) h 1 rfl hN (by rw [hfw26]; rfl) dX4_steps_171 ?_
      refine r_aload_n h 5 rfl rfl dX4_steps_172 ?_
      refine r_get h fl_X4_7 0 rfl rfl dX4_steps_173 ?_
      refine r_bipush (v := 16) h dX4_steps_176 (by decide) ?_
      refine r_dup2 h rfl rfl dX4_steps_178 ?_
      obtain ⟨hN, hF⟩ := o_gd hF
      refine r_iald h 1 rfl hN dX4_steps_179 ?_
      refine r_iconst (v := 1) h dX4_steps_180 (by decide) ?_
      refine r_iadd h dX4_steps_181 ?_
      obtain ⟨u27, hu27, hF⟩ := o_nm hF
      refine J.top hu27 ?_
      obtain ⟨hN, hF⟩ := o_gd hF
      obtain ⟨fw28, hfw28, hF⟩ := o_nm hF
      refine r_iast (ws' := mdW D aμ (fw28, t13_μ.2.1, t13_μ.2.2.1, t13_μ.2.2.2.1, t13_μ.2.2.2.2.1, t13_μ.2.2.2.2.2.1, t13_μ.2.2.2.2.2.2.1, t13_μ.2.2.2.2.2.2.2.1, t13_μ.2.2.2.2.2.2.2.2.1, t13_μ.2.2.2.2.2.2.2.2.2.1, t13_μ.2.2.2.2.2.2.2.2.2.2.1, t13_μ.2.2.2.2.2.2.2.2.2.2.2.1, t13_μ.2.2.2.2.2.2.2.2.2.2.2.2)) h 1 rfl hN (by rw [hfw28]; rfl) dX4_steps_182 ?_
      refine r_aload_n h 5 rfl rfl dX4_steps_183 ?_
      refine r_get h fl_X4_7 0 rfl rfl dX4_steps_184 ?_
      refine r_bipush (v := 17) h dX4_steps_187 (by decide) ?_
      refine r_dup2 h rfl rfl dX4_steps_189 ?_
      obtain ⟨hN, hF⟩ := o_gd hF
      refine r_iald h 1 rfl hN dX4_steps_190 ?_
      refine r_iconst (v := 1) h dX4_steps_191 (by decide) ?_
      refine r_iadd h dX4_steps_192 ?_
      obtain ⟨u29, hu29, hF⟩ := o_nm hF
      refine J.top hu29 ?_
      obtain ⟨hN, hF⟩ := o_gd hF
      obtain ⟨fw30, hfw30, hF⟩ := o_nm hF
      refine r_iast (ws' := mdW D aμ (fw30, t13_μ.2.1, t13_μ.2.2.1, t13_μ.2.2.2.1, t13_μ.2.2.2.2.1, t13_μ.2.2.2.2.2.1, t13_μ.2.2.2.2.2.2.1, t13_μ.2.2.2.2.2.2.2.1, t13_μ.2.2.2.2.2.2.2.2.1, t13_μ.2.2.2.2.2.2.2.2.2.1, t13_μ.2.2.2.2.2.2.2.2.2.2.1, t13_μ.2.2.2.2.2.2.2.2.2.2.2.1, t13_μ.2.2.2.2.2.2.2.2.2.2.2.2)) h 1 rfl hN (by rw [hfw30]; rfl) dX4_steps_193 ?_
      refine r_iconst (v := 0) h dX4_steps_194 (by decide) ?_
      cases hF
      exact r_iret h hr dX4_steps_195 ⟨rfl, rfl⟩
    refine r_icmp_ne h 116 dX4_steps_67 (by decide) (fun c12 => ?_) (fun c12 => ?_)
    · replace hF := o_neg c12 hF
      exact J.loc (lv' := [(8, .int z9), (7, .int z5), (6, .int z3), (5, .int z1), (0, .ref (aμ 0)), (1, .int x1), (2, .int x2), (3, .int x3), (4, .int x4)]) [0, 1, 2, 3, 4, 5, 6, 7, 8] rfl (hJ116 z7 hF)
    · replace hF := o_pos c12 hF
      refine r_sipush (v := 139) h dX4_steps_70 (by decide) ?_
      refine r_istore (lv' := [(9, .int (139 : Int32)), (8, .int z9), (7, .int z5), (6, .int z3), (5, .int z1), (0, .ref (aμ 0)), (1, .int x1), (2, .int x2), (3, .int x3), (4, .int x4)]) h dX4_steps_73 (by decide) rfl ?_
      have hL75 : ∀ (K : Int32 → MDS → Option (Int32 × MDS)) (hK : ∀ (y15_9 : Int32) (s15_μ : MDS), K y15_9 s15_μ = some (r0, μ0) → J X l rmX4_steps D 10 0 0 (mdW D aμ s15_μ) [(9, .int y15_9), (8, .int z9), (7, .int z5), (6, .int z3), (5, .int z1), (0, .ref (aμ 0)), (1, .int x1), (2, .int x2), (3, .int x3), (4, .int x4)] 105 []) (N : Nat), ∀ (y15_9 : Int32) (s15_μ : MDS), FX4_steps_L75  K N y15_9 s15_μ = some (r0, μ0) → J X l rmX4_steps D 10 0 0 (mdW D aμ s15_μ) [(9, .int y15_9), (8, .int z9), (7, .int z5), (6, .int z3), (5, .int z1), (0, .ref (aμ 0)), (1, .int x1), (2, .int x2), (3, .int x3), (4, .int x4)] 75 [] := by
        intro K hK N
        induction N with
        | zero =>
          intro y15_9 s15_μ hF
          cases hF
        | succ N ih =>
          intro y15_9 s15_μ hF
          rw [FX4_steps_L75] at hF
          refine r_iload h 0 rfl dX4_steps_75 ?_
          refine r_sipush (v := 215) h dX4_steps_77 (by decide) ?_
          refine r_icmp_ge h 105 dX4_steps_80 (by decide) (fun c16 => ?_) (fun c16 => ?_)
          · replace hF := o_pos c16 hF
            exact J.loc (lv' := [(9, .int y15_9), (8, .int z9), (7, .int z5), (6, .int z3), (5, .int z1), (0, .ref (aμ 0)), (1, .int x1), (2, .int x2), (3, .int x3), (4, .int x4)]) [0, 1, 2, 3, 4, 5, 6, 7, 8, 9] rfl (hK y15_9 s15_μ hF)
          · replace hF := o_neg c16 hF
            refine r_aload_n h 5 rfl rfl dX4_steps_83 ?_
            refine r_get h fl_X4_7 0 rfl rfl dX4_steps_84 ?_
            refine r_iload h 0 rfl dX4_steps_87 ?_
            refine r_aload_n h 5 rfl rfl dX4_steps_89 ?_
            refine r_get h fl_X4_7 0 rfl rfl dX4_steps_90 ?_
            refine r_iload h 0 rfl dX4_steps_93 ?_
            refine r_iconst (v := 4) h dX4_steps_95 (by decide) ?_
            refine r_iadd h dX4_steps_96 ?_
            obtain ⟨hN, hF⟩ := o_gd hF
            refine r_iald h 1 rfl hN dX4_steps_97 ?_
            obtain ⟨u17, hu17, hF⟩ := o_nm hF
            refine J.top hu17 ?_
            obtain ⟨hN, hF⟩ := o_gd hF
            obtain ⟨fw18, hfw18, hF⟩ := o_nm hF
            refine r_iast (ws' := mdW D aμ (fw18, s15_μ.2.1, s15_μ.2.2.1, s15_μ.2.2.2.1, s15_μ.2.2.2.2.1, s15_μ.2.2.2.2.2.1, s15_μ.2.2.2.2.2.2.1, s15_μ.2.2.2.2.2.2.2.1, s15_μ.2.2.2.2.2.2.2.2.1, s15_μ.2.2.2.2.2.2.2.2.2.1, s15_μ.2.2.2.2.2.2.2.2.2.2.1, s15_μ.2.2.2.2.2.2.2.2.2.2.2.1, s15_μ.2.2.2.2.2.2.2.2.2.2.2.2)) h 1 rfl hN (by rw [hfw18]; rfl) dX4_steps_98 ?_
            refine r_iinc (lv' := [(9, .int (y15_9 + 1)), (8, .int z9), (7, .int z5), (6, .int z3), (5, .int z1), (0, .ref (aμ 0)), (1, .int x1), (2, .int x2), (3, .int x3), (4, .int x4)]) h 0 rfl (congrArg (fun z => y15_9 + z) (by decide : Int32.ofInt 1 = 1)) dX4_steps_99 (by decide) rfl ?_
            refine r_goto h 75 dX4_steps_102 (by decide) ?_
            exact J.loc (lv' := [(9, .int (y15_9 + 1)), (8, .int z9), (7, .int z5), (6, .int z3), (5, .int z1), (0, .ref (aμ 0)), (1, .int x1), (2, .int x2), (3, .int x3), (4, .int x4)]) [0, 1, 2, 3, 4, 5, 6, 7, 8, 9] rfl (ih (y15_9 + 1) (fw18, s15_μ.2.1, s15_μ.2.2.1, s15_μ.2.2.2.1, s15_μ.2.2.2.2.1, s15_μ.2.2.2.2.2.1, s15_μ.2.2.2.2.2.2.1, s15_μ.2.2.2.2.2.2.2.1, s15_μ.2.2.2.2.2.2.2.2.1, s15_μ.2.2.2.2.2.2.2.2.2.1, s15_μ.2.2.2.2.2.2.2.2.2.2.1, s15_μ.2.2.2.2.2.2.2.2.2.2.2.1, s15_μ.2.2.2.2.2.2.2.2.2.2.2.2) hF)
      refine hL75 _ (fun y15_9 s15_μ hF => ?_) _ (139 : Int32) z7 hF
      refine r_aload_n h 5 rfl rfl dX4_steps_105 ?_
      refine r_get h fl_X4_7 0 rfl rfl dX4_steps_106 ?_
      refine r_bipush (v := 16) h dX4_steps_109 (by decide) ?_
      refine r_dup2 h rfl rfl dX4_steps_111 ?_
      obtain ⟨hN, hF⟩ := o_gd hF
      refine r_iald h 1 rfl hN dX4_steps_112 ?_
      obtain ⟨u19, hu19, hF⟩ := o_nm hF
      refine J.top hu19 ?_
      refine r_iconst (v := 1) h dX4_steps_113 (by decide) ?_
      refine r_isub h dX4_steps_114 ?_
      obtain ⟨hN, hF⟩ := o_gd hF
      obtain ⟨fw20, hfw20, hF⟩ := o_nm hF
      refine r_iast (ws' := mdW D aμ (fw20, s15_μ.2.1, s15_μ.2.2.1, s15_μ.2.2.2.1, s15_μ.2.2.2.2.1, s15_μ.2.2.2.2.2.1, s15_μ.2.2.2.2.2.2.1, s15_μ.2.2.2.2.2.2.2.1, s15_μ.2.2.2.2.2.2.2.2.1, s15_μ.2.2.2.2.2.2.2.2.2.1, s15_μ.2.2.2.2.2.2.2.2.2.2.1, s15_μ.2.2.2.2.2.2.2.2.2.2.2.1, s15_μ.2.2.2.2.2.2.2.2.2.2.2.2)) h 1 rfl hN (by rw [hfw20]; rfl) dX4_steps_115 ?_
      exact J.loc (lv' := [(8, .int z9), (7, .int z5), (6, .int z3), (5, .int z1), (0, .ref (aμ 0)), (1, .int x1), (2, .int x2), (3, .int x3), (4, .int x4)]) [1, 2, 3, 4, 5, 6, 7, 8, 9] rfl (hJ116 (fw20, s15_μ.2.1, s15_μ.2.2.1, s15_μ.2.2.2.1, s15_μ.2.2.2.2.1, s15_μ.2.2.2.2.2.1, s15_μ.2.2.2.2.2.2.1, s15_μ.2.2.2.2.2.2.2.1, s15_μ.2.2.2.2.2.2.2.2.1, s15_μ.2.2.2.2.2.2.2.2.2.1, s15_μ.2.2.2.2.2.2.2.2.2.2.1, s15_μ.2.2.2.2.2.2.2.2.2.2.2.1, s15_μ.2.2.2.2.2.2.2.2.2.2.2.2) hF)
  · replace hF := o_neg c11 hF
    refine r_aload_n h 4 rfl rfl dX4_steps_44 ?_
    refine r_iload_n h 5 rfl rfl dX4_steps_45 ?_
    refine r_iload h 3 rfl dX4_steps_46 ?_
    refine r_iload h 2 rfl dX4_steps_48 ?_
    refine r_iload h 1 rfl dX4_steps_50 ?_
    obtain ⟨z31, e32, hF⟩ := o_bind hF
    refine r_callVa (q0 := 0) (rest := []) h hd_X4_places wm_943 dX4_steps_52 (CX4_places l D aμ z7 x1 z1 z3 z5 z31 e32) rfl rfl rfl ⟨rfl, rfl⟩ ⟨by decide, by decide⟩ (Nat.le_of_ble_eq_true rfl) ⟨by decide, by decide⟩ rfl (fun v w' hp => ?_)
    obtain ⟨rfl, rfl⟩ := hp
    refine r_iload h 0 rfl dX4_steps_55 ?_
    cases hF
    exact r_iret h hr dX4_steps_57 ⟨rfl, rfl⟩

def FX4_moves_J42 (μ : MDS) (x1 : Int32) (x2 : Int32) (b12_0 : Int32) : Option (Int32 × MDS) :=
  if x2 = (-1 : Int32) then
  ((FX4_of μ x1 (2 : Int32)).bind fun z14 =>
  (FX4_steps μ x1 x2 b12_0 z14).bind fun z16 =>
  some (z16.1, z16.2))
else
  (if b12_0 = (-1 : Int32) then
  (some ((3 : Int32), μ))
else
  ((FX4_of μ x1 (2 : Int32)).bind fun z19 =>
  (FX4_steps μ x1 x2 b12_0 z19).bind fun z21 =>
  some (z21.1, z21.2)))
def FX4_moves (μ : MDS) (x1 : Int32) (x2 : Int32) : Option (Int32 × MDS) :=
  (FX4_isFrozen μ x1).bind fun z1 =>
  if z1 = 0 then
  ((FX4_of μ x1 (4 : Int32)).bind fun z4 =>
  if z4 = x2 then
  (some ((2 : Int32), μ))
else
  (if x2 = (-1 : Int32) then
  (FX4_moves_J42 μ x1 x2 (-1 : Int32))
else
  ((FX4_of μ x1 (0 : Int32)).bind fun z8 =>
  (FX4_lowest μ x2 z8).bind fun z10 =>
  FX4_moves_J42 μ x1 x2 z10)))
else
  (some ((1 : Int32), μ))
abbrev rmX4_moves : Room := { frames := 5, cells := 0, slots := 0, locals := 121 }
set_option maxHeartbeats 4000000 in
set_option maxRecDepth 100000 in
theorem CX4_moves (l : Launch) (D : va_G) (aμ : Nat → Nat) (μ : MDS) (x1 : Int32) (x2 : Int32) (r0 : Int32) (μ0 : MDS) (hF : FX4_moves μ x1 x2 = some (r0, μ0)) : Ct l D yX4_moves cX4_moves 4 (some .int) rmX4_moves 0 0 [.ref (aμ 0), .int x1, .int x2] (mdW D aμ μ) (fun v w => v = some (.int r0) ∧ w = mdW D aμ μ0) := by
  refine Ct.of (own := RX4) (lv := [(0, .ref (aμ 0)), (1, .int x1), (2, .int x2)]) (by decide +kernel) rfl (Nat.le_of_ble_eq_true rfl) rfl (fun X h hr => ?_)
  unfold FX4_moves at hF
  refine r_aload_n h 0 rfl rfl dX4_moves_0 ?_
  refine r_iload_n h 1 rfl rfl dX4_moves_1 ?_
  obtain ⟨z1, e2, hF⟩ := o_bind hF
  refine r_callVa (q0 := 0) (rest := []) h hd_X4_isFrozen wm_841 dX4_moves_2 (CX4_isFrozen l D aμ μ x1 z1 e2) rfl rfl rfl ⟨rfl, rfl⟩ ⟨by decide, by decide⟩ (Nat.le_of_ble_eq_true rfl) ⟨by decide, by decide⟩ rfl (fun v w' hp => ?_)
  obtain ⟨rfl, rfl⟩ := hp
  refine r_if_eq h 10 dX4_moves_5 (by decide) (fun c3 => ?_) (fun c3 => ?_)
  · replace hF := o_pos c3 hF
    refine r_aload_n h 0 rfl rfl dX4_moves_10 ?_
    refine r_iload_n h 1 rfl rfl dX4_moves_11 ?_
    refine r_iconst (v := 4) h dX4_moves_12 (by decide) ?_
    obtain ⟨z4, e5, hF⟩ := o_bind hF
    refine r_callVa (q0 := 0) (rest := []) h hd_X4_of wm_837 dX4_moves_13 (CX4_of l D aμ μ x1 (4 : Int32) z4 e5) rfl rfl rfl ⟨rfl, rfl⟩ ⟨by decide, by decide⟩ (Nat.le_of_ble_eq_true rfl) ⟨by decide, by decide⟩ rfl (fun v w' hp => ?_)
    obtain ⟨rfl, rfl⟩ := hp
    refine r_iload_n h 2 rfl rfl dX4_moves_16 ?_
    refine r_icmp_ne h 22 dX4_moves_17 (by decide) (fun c6 => ?_) (fun c6 => ?_)
    · replace hF := o_neg c6 hF
      refine r_iload_n h 2 rfl rfl dX4_moves_22 ?_
      refine r_iconst (v := -1) h dX4_moves_23 (by decide) ?_
      have hJ42 : ∀ (b12_0 : Int32), FX4_moves_J42 μ x1 x2 b12_0 = some (r0, μ0) → J X l rmX4_moves D 4 0 0 (mdW D aμ μ) [(0, .ref (aμ 0)), (1, .int x1), (2, .int x2)] 42 [.int b12_0] := by
        intro b12_0 hF
        unfold FX4_moves_J42 at hF
        refine r_istore_n (lv' := [(3, .int b12_0), (0, .ref (aμ 0)), (1, .int x1), (2, .int x2)]) h rfl dX4_moves_42 (by decide) rfl ?_
        refine r_iload_n h 3 rfl rfl dX4_moves_43 ?_
        refine r_iconst (v := -1) h dX4_moves_44 (by decide) ?_
        refine r_icmp_eq h 57 dX4_moves_45 (by decide) (fun c13 => ?_) (fun c13 => ?_)
        · replace hF := o_pos c13 hF
          refine r_aload_n h 1 rfl rfl dX4_moves_57 ?_
          refine r_iload_n h 2 rfl rfl dX4_moves_58 ?_
          refine r_iload_n h 3 rfl rfl dX4_moves_59 ?_
          refine r_iload_n h 0 rfl rfl dX4_moves_60 ?_
          refine r_aload_n h 1 rfl rfl dX4_moves_61 ?_
          refine r_iload_n h 2 rfl rfl dX4_moves_62 ?_
          refine r_iconst (v := 2) h dX4_moves_63 (by decide) ?_
          obtain ⟨z14, e15, hF⟩ := o_bind hF
          refine r_callVa (q0 := 0) (rest := [.int b12_0, .int x2, .int x1, .ref (aμ 0)]) h hd_X4_of wm_837 dX4_moves_64 (CX4_of l D aμ μ x1 (2 : Int32) z14 e15) rfl rfl rfl ⟨rfl, rfl⟩ ⟨by decide, by decide⟩ (Nat.le_of_ble_eq_true rfl) ⟨by decide, by decide⟩ rfl (fun v w' hp => ?_)
          obtain ⟨rfl, rfl⟩ := hp
          obtain ⟨z16, e17, hF⟩ := o_bind hF
          refine r_callVa (q0 := 0) (rest := []) h hd_X4_steps wm_939 dX4_moves_67 (CX4_steps l D aμ μ x1 x2 b12_0 z14 z16.1 z16.2 e17) rfl rfl rfl ⟨rfl, rfl⟩ ⟨by decide, by decide⟩ (Nat.le_of_ble_eq_true rfl) ⟨by decide, by decide⟩ rfl (fun v w' hp => ?_)
          obtain ⟨rfl, rfl⟩ := hp
          cases hF
          exact r_iret h hr dX4_moves_70 ⟨rfl, rfl⟩
        · replace hF := o_neg c13 hF
          refine r_iload_n h 0 rfl rfl dX4_moves_48 ?_
          refine r_iconst (v := -1) h dX4_moves_49 (by decide) ?_
          refine r_icmp_ne h 57 dX4_moves_50 (by decide) (fun c18 => ?_) (fun c18 => ?_)
          · replace hF := o_neg c18 hF
            refine r_aload_n h 1 rfl rfl dX4_moves_57 ?_
            refine r_iload_n h 2 rfl rfl dX4_moves_58 ?_
            refine r_iload_n h 3 rfl rfl dX4_moves_59 ?_
            refine r_iload_n h 0 rfl rfl dX4_moves_60 ?_
            refine r_aload_n h 1 rfl rfl dX4_moves_61 ?_
            refine r_iload_n h 2 rfl rfl dX4_moves_62 ?_
            refine r_iconst (v := 2) h dX4_moves_63 (by decide) ?_
            obtain ⟨z19, e20, hF⟩ := o_bind hF
            refine r_callVa (q0 := 0) (rest := [.int b12_0, .int x2, .int x1, .ref (aμ 0)]) h hd_X4_of wm_837 dX4_moves_64 (CX4_of l D aμ μ x1 (2 : Int32) z19 e20) rfl rfl rfl ⟨rfl, rfl⟩ ⟨by decide, by decide⟩ (Nat.le_of_ble_eq_true rfl) ⟨by decide, by decide⟩ rfl (fun v w' hp => ?_)
            obtain ⟨rfl, rfl⟩ := hp
            obtain ⟨z21, e22, hF⟩ := o_bind hF
            refine r_callVa (q0 := 0) (rest := []) h hd_X4_steps wm_939 dX4_moves_67 (CX4_steps l D aμ μ x1 x2 b12_0 z19 z21.1 z21.2 e22) rfl rfl rfl ⟨rfl, rfl⟩ ⟨by decide, by decide⟩ (Nat.le_of_ble_eq_true rfl) ⟨by decide, by decide⟩ rfl (fun v w' hp => ?_)
            obtain ⟨rfl, rfl⟩ := hp
            cases hF
            exact r_iret h hr dX4_moves_70 ⟨rfl, rfl⟩
          · replace hF := o_pos c18 hF
            refine r_iconst (v := 3) h dX4_moves_53 (by decide) ?_
            refine r_goto h 70 dX4_moves_54 (by decide) ?_
            cases hF
            exact r_iret h hr dX4_moves_70 ⟨rfl, rfl⟩
      refine r_icmp_ne h 31 dX4_moves_24 (by decide) (fun c7 => ?_) (fun c7 => ?_)
      · replace hF := o_neg c7 hF
        refine r_aload_n h 0 rfl rfl dX4_moves_31 ?_
        refine r_iload_n h 2 rfl rfl dX4_moves_32 ?_
        refine r_aload_n h 0 rfl rfl dX4_moves_33 ?_
        refine r_iload_n h 1 rfl rfl dX4_moves_34 ?_
        refine r_iconst (v := 0) h dX4_moves_35 (by decide) ?_
        obtain ⟨z8, e9, hF⟩ := o_bind hF
        refine r_callVa (q0 := 0) (rest := [.int x2, .ref (aμ 0)]) h hd_X4_of wm_837 dX4_moves_36 (CX4_of l D aμ μ x1 (0 : Int32) z8 e9) rfl rfl rfl ⟨rfl, rfl⟩ ⟨by decide, by decide⟩ (Nat.le_of_ble_eq_true rfl) ⟨by decide, by decide⟩ rfl (fun v w' hp => ?_)
        obtain ⟨rfl, rfl⟩ := hp
        obtain ⟨z10, e11, hF⟩ := o_bind hF
        refine r_callVa (q0 := 0) (rest := []) h hd_X4_lowest wm_873 dX4_moves_39 (CX4_lowest l D aμ μ x2 z8 z10 e11) rfl rfl rfl ⟨rfl, rfl⟩ ⟨by decide, by decide⟩ (Nat.le_of_ble_eq_true rfl) ⟨by decide, by decide⟩ rfl (fun v w' hp => ?_)
        obtain ⟨rfl, rfl⟩ := hp
        exact J.loc (lv' := [(0, .ref (aμ 0)), (1, .int x1), (2, .int x2)]) [0, 1, 2] rfl (hJ42 z10 hF)
      · replace hF := o_pos c7 hF
        refine r_iconst (v := -1) h dX4_moves_27 (by decide) ?_
        refine r_goto h 42 dX4_moves_28 (by decide) ?_
        exact J.loc (lv' := [(0, .ref (aμ 0)), (1, .int x1), (2, .int x2)]) [0, 1, 2] rfl (hJ42 (-1 : Int32) hF)
    · replace hF := o_pos c6 hF
      refine r_iconst (v := 2) h dX4_moves_20 (by decide) ?_
      cases hF
      exact r_iret h hr dX4_moves_21 ⟨rfl, rfl⟩
  · replace hF := o_neg c3 hF
    refine r_iconst (v := 1) h dX4_moves_8 (by decide) ?_
    cases hF
    exact r_iret h hr dX4_moves_9 ⟨rfl, rfl⟩

def FX4_changes (μ : MDS) (x1 : Int32) (x2 : Int32) : Option (Int32 × MDS) :=
  (FX4_isFrozen μ x1).bind fun z1 =>
  if z1 = 0 then
  ((FX4_of μ x1 (2 : Int32)).bind fun z4 =>
  if z4 = x2 then
  (some ((2 : Int32), μ))
else
  ((FX4_of μ x1 (4 : Int32)).bind fun z7 =>
  (FX4_of μ x1 (5 : Int32)).bind fun z9 =>
  (FX4_steps μ x1 z7 z9 x2).bind fun z11 =>
  some (z11.1, z11.2)))
else
  (some ((1 : Int32), μ))
abbrev rmX4_changes : Room := { frames := 5, cells := 0, slots := 0, locals := 121 }
set_option maxHeartbeats 4000000 in
set_option maxRecDepth 100000 in
theorem CX4_changes (l : Launch) (D : va_G) (aμ : Nat → Nat) (μ : MDS) (x1 : Int32) (x2 : Int32) (r0 : Int32) (μ0 : MDS) (hF : FX4_changes μ x1 x2 = some (r0, μ0)) : Ct l D yX4_changes cX4_changes 3 (some .int) rmX4_changes 0 0 [.ref (aμ 0), .int x1, .int x2] (mdW D aμ μ) (fun v w => v = some (.int r0) ∧ w = mdW D aμ μ0) := by
  refine Ct.of (own := RX4) (lv := [(0, .ref (aμ 0)), (1, .int x1), (2, .int x2)]) (by decide +kernel) rfl (Nat.le_of_ble_eq_true rfl) rfl (fun X h hr => ?_)
  unfold FX4_changes at hF
  refine r_aload_n h 0 rfl rfl dX4_changes_0 ?_
  refine r_iload_n h 1 rfl rfl dX4_changes_1 ?_
  obtain ⟨z1, e2, hF⟩ := o_bind hF
  refine r_callVa (q0 := 0) (rest := []) h hd_X4_isFrozen wm_841 dX4_changes_2 (CX4_isFrozen l D aμ μ x1 z1 e2) rfl rfl rfl ⟨rfl, rfl⟩ ⟨by decide, by decide⟩ (Nat.le_of_ble_eq_true rfl) ⟨by decide, by decide⟩ rfl (fun v w' hp => ?_)
  obtain ⟨rfl, rfl⟩ := hp
  refine r_if_eq h 12 dX4_changes_5 (by decide) (fun c3 => ?_) (fun c3 => ?_)
  · replace hF := o_pos c3 hF
    refine r_aload_n h 0 rfl rfl dX4_changes_12 ?_
    refine r_iload_n h 1 rfl rfl dX4_changes_13 ?_
    refine r_iconst (v := 2) h dX4_changes_14 (by decide) ?_
    obtain ⟨z4, e5, hF⟩ := o_bind hF
    refine r_callVa (q0 := 0) (rest := []) h hd_X4_of wm_837 dX4_changes_15 (CX4_of l D aμ μ x1 (2 : Int32) z4 e5) rfl rfl rfl ⟨rfl, rfl⟩ ⟨by decide, by decide⟩ (Nat.le_of_ble_eq_true rfl) ⟨by decide, by decide⟩ rfl (fun v w' hp => ?_)
    obtain ⟨rfl, rfl⟩ := hp
    refine r_iload_n h 2 rfl rfl dX4_changes_18 ?_
    refine r_icmp_ne h 26 dX4_changes_19 (by decide) (fun c6 => ?_) (fun c6 => ?_)
    · replace hF := o_neg c6 hF
      refine r_aload_n h 0 rfl rfl dX4_changes_26 ?_
      refine r_iload_n h 1 rfl rfl dX4_changes_27 ?_
      refine r_aload_n h 0 rfl rfl dX4_changes_28 ?_
      refine r_iload_n h 1 rfl rfl dX4_changes_29 ?_
      refine r_iconst (v := 4) h dX4_changes_30 (by decide) ?_
      obtain ⟨z7, e8, hF⟩ := o_bind hF
      refine r_callVa (q0 := 0) (rest := [.int x1, .ref (aμ 0)]) h hd_X4_of wm_837 dX4_changes_31 (CX4_of l D aμ μ x1 (4 : Int32) z7 e8) rfl rfl rfl ⟨rfl, rfl⟩ ⟨by decide, by decide⟩ (Nat.le_of_ble_eq_true rfl) ⟨by decide, by decide⟩ rfl (fun v w' hp => ?_)
      obtain ⟨rfl, rfl⟩ := hp
      refine r_aload_n h 0 rfl rfl dX4_changes_34 ?_
      refine r_iload_n h 1 rfl rfl dX4_changes_35 ?_
      refine r_iconst (v := 5) h dX4_changes_36 (by decide) ?_
      obtain ⟨z9, e10, hF⟩ := o_bind hF
      refine r_callVa (q0 := 0) (rest := [.int z7, .int x1, .ref (aμ 0)]) h hd_X4_of wm_837 dX4_changes_37 (CX4_of l D aμ μ x1 (5 : Int32) z9 e10) rfl rfl rfl ⟨rfl, rfl⟩ ⟨by decide, by decide⟩ (Nat.le_of_ble_eq_true rfl) ⟨by decide, by decide⟩ rfl (fun v w' hp => ?_)
      obtain ⟨rfl, rfl⟩ := hp
      refine r_iload_n h 2 rfl rfl dX4_changes_40 ?_
      obtain ⟨z11, e12, hF⟩ := o_bind hF
      refine r_callVa (q0 := 0) (rest := []) h hd_X4_steps wm_939 dX4_changes_41 (CX4_steps l D aμ μ x1 z7 z9 x2 z11.1 z11.2 e12) rfl rfl rfl ⟨rfl, rfl⟩ ⟨by decide, by decide⟩ (Nat.le_of_ble_eq_true rfl) ⟨by decide, by decide⟩ rfl (fun v w' hp => ?_)
      obtain ⟨rfl, rfl⟩ := hp
      cases hF
      exact r_iret h hr dX4_changes_44 ⟨rfl, rfl⟩
    · replace hF := o_pos c6 hF
      refine r_iconst (v := 2) h dX4_changes_22 (by decide) ?_
      refine r_goto h 44 dX4_changes_23 (by decide) ?_
      cases hF
      exact r_iret h hr dX4_changes_44 ⟨rfl, rfl⟩
  · replace hF := o_neg c3 hF
    refine r_iconst (v := 1) h dX4_changes_8 (by decide) ?_
    refine r_goto h 44 dX4_changes_9 (by decide) ?_
    cases hF
    exact r_iret h hr dX4_changes_44 ⟨rfl, rfl⟩

def FX4_backs_J89 (μ : MDS) (u2 : Int32) (u3 : Int32) : Option (Int32 × MDS) :=
  (FX4_of μ u3 (4 : Int32)).bind fun z17 =>
  (FX4_of μ u3 (5 : Int32)).bind fun z19 =>
  (FX4_of μ u3 (2 : Int32)).bind fun z21 =>
  nmv (((139 : Int32) + ((4 : Int32) * u2)) + (1 : Int32)) fun u23 =>
  gd (¬ (u23 < 0 ∨ 219 ≤ (u23).toNatClampNeg)) (
  nmv (((139 : Int32) + ((4 : Int32) * u2)) + (2 : Int32)) fun u24 =>
  gd (¬ (u24 < 0 ∨ 219 ≤ (u24).toNatClampNeg)) (
  nmv (((139 : Int32) + ((4 : Int32) * u2)) + (3 : Int32)) fun u25 =>
  gd (¬ (u25 < 0 ∨ 219 ≤ (u25).toNatClampNeg)) (
  (FX4_places μ u3 (μ.1 (u23).toNatClampNeg) (μ.1 (u24).toNatClampNeg) (μ.1 (u25).toNatClampNeg)).bind fun z26 =>
  (FX4_wrong z26).bind fun z28 =>
  if z28 ≤ 0 then
  (gd (¬ ((16 : Int32) < 0 ∨ 219 ≤ ((16 : Int32)).toNatClampNeg)) (
  nmv ((z26.1 ((16 : Int32)).toNatClampNeg) - (1 : Int32)) fun u31 =>
  gd (¬ ((16 : Int32) < 0 ∨ 219 ≤ ((16 : Int32)).toNatClampNeg)) (
  nmv (upd z26.1 ((16 : Int32)).toNatClampNeg u31) fun fw32 =>
  gd (¬ ((18 : Int32) < 0 ∨ 219 ≤ ((18 : Int32)).toNatClampNeg)) (
  nmv ((fw32 ((18 : Int32)).toNatClampNeg) + (1 : Int32)) fun u33 =>
  gd (¬ ((18 : Int32) < 0 ∨ 219 ≤ ((18 : Int32)).toNatClampNeg)) (
  nmv (upd fw32 ((18 : Int32)).toNatClampNeg u33) fun fw34 =>
  some ((0 : Int32), (fw34, z26.2.1, z26.2.2.1, z26.2.2.2.1, z26.2.2.2.2.1, z26.2.2.2.2.2.1, z26.2.2.2.2.2.2.1, z26.2.2.2.2.2.2.2.1, z26.2.2.2.2.2.2.2.2.1, z26.2.2.2.2.2.2.2.2.2.1, z26.2.2.2.2.2.2.2.2.2.2.1, z26.2.2.2.2.2.2.2.2.2.2.2.1, z26.2.2.2.2.2.2.2.2.2.2.2.2)))))))
else
  ((FX4_places z26 u3 z17 z19 z21).bind fun z35 =>
  some (z28, z35)))))
def FX4_backs (μ : MDS) : Option (Int32 × MDS) :=
  gd (¬ ((16 : Int32) < 0 ∨ 219 ≤ ((16 : Int32)).toNatClampNeg)) (
  if (μ.1 ((16 : Int32)).toNatClampNeg) = 0 then
  (some ((2 : Int32), μ))
else
  (gd (¬ ((16 : Int32) < 0 ∨ 219 ≤ ((16 : Int32)).toNatClampNeg)) (
  nmv ((μ.1 ((16 : Int32)).toNatClampNeg) - (1 : Int32)) fun u2 =>
  gd (¬ (((139 : Int32) + ((4 : Int32) * u2)) < 0 ∨ 219 ≤ ((139 : Int32) + ((4 : Int32) * u2)).toNatClampNeg)) (
  nmv (μ.1 ((139 : Int32) + ((4 : Int32) * u2)).toNatClampNeg) fun u3 =>
  (FX4_isFrozen μ u3).bind fun z4 =>
  if z4 = 0 then
  (nmv (((139 : Int32) + ((4 : Int32) * u2)) + (1 : Int32)) fun u7 =>
  gd (¬ (u7 < 0 ∨ 219 ≤ (u7).toNatClampNeg)) (
  if (μ.1 (u7).toNatClampNeg) = (-1 : Int32) then
  (FX4_backs_J89 μ u2 u3 )
else
  (nmv (((139 : Int32) + ((4 : Int32) * u2)) + (1 : Int32)) fun u10 =>
  gd (¬ (u10 < 0 ∨ 219 ≤ (u10).toNatClampNeg)) (
  nmv (((139 : Int32) + ((4 : Int32) * u2)) + (2 : Int32)) fun u11 =>
  gd (¬ (u11 < 0 ∨ 219 ≤ (u11).toNatClampNeg)) (
  (FX4_of μ u3 (0 : Int32)).bind fun z12 =>
  (FX4_areFree μ (μ.1 (u10).toNatClampNeg) (μ.1 (u11).toNatClampNeg) z12 u3).bind fun z14 =>
  if z14 = 0 then
  (some ((3 : Int32), μ))
else
  (FX4_backs_J89 μ u2 u3 ))))))
else
  (some ((1 : Int32), μ))))))
abbrev rmX4_backs : Room := { frames := 4, cells := 0, slots := 0, locals := 92 }
set_option maxHeartbeats 4000000 in
set_option maxRecDepth 100000 in
theorem CX4_backs (l : Launch) (D : va_G) (aμ : Nat → Nat) (μ : MDS) (r0 : Int32) (μ0 : MDS) (hF : FX4_backs μ = some (r0, μ0)) : Ct l D yX4_backs cX4_backs 7 (some .int) rmX4_backs 0 0 [.ref (aμ 0)] (mdW D aμ μ) (fun v w => v = some (.int r0) ∧ w = mdW D aμ μ0) := by
  refine Ct.of (own := RX4) (lv := [(0, .ref (aμ 0))]) (by decide +kernel) rfl (Nat.le_of_ble_eq_true rfl) rfl (fun X h hr => ?_)
  unfold FX4_backs at hF
  refine r_aload_n h 0 rfl rfl dX4_backs_0 ?_
  refine r_get h fl_X4_7 0 rfl rfl dX4_backs_1 ?_
  refine r_bipush (v := 16) h dX4_backs_4 (by decide) ?_
  obtain ⟨hN, hF⟩ := o_gd hF
  refine r_iald h 1 rfl hN dX4_backs_6 ?_
  refine r_if_ne h 12 dX4_backs_7 (by decide) (fun c1 => ?_) (fun c1 => ?_)
  · replace hF := o_neg c1 hF
    refine r_sipush (v := 139) h dX4_backs_12 (by decide) ?_
    refine r_iconst (v := 4) h dX4_backs_15 (by decide) ?_
    refine r_aload_n h 0 rfl rfl dX4_backs_16 ?_
    refine r_get h fl_X4_7 0 rfl rfl dX4_backs_17 ?_
    refine r_bipush (v := 16) h dX4_backs_20 (by decide) ?_
    obtain ⟨hN, hF⟩ := o_gd hF
    refine r_iald h 1 rfl hN dX4_backs_22 ?_
    refine r_iconst (v := 1) h dX4_backs_23 (by decide) ?_
    refine r_isub h dX4_backs_24 ?_
    obtain ⟨u2, hu2, hF⟩ := o_nm hF
    refine J.top hu2 ?_
    refine r_imul h dX4_backs_25 ?_
    refine r_iadd h dX4_backs_26 ?_
    refine r_istore_n (lv' := [(1, .int ((139 : Int32) + ((4 : Int32) * u2))), (0, .ref (aμ 0))]) h rfl dX4_backs_27 (by decide) rfl ?_
    refine r_aload_n h 1 rfl rfl dX4_backs_28 ?_
    refine r_get h fl_X4_7 0 rfl rfl dX4_backs_29 ?_
    refine r_iload_n h 0 rfl rfl dX4_backs_32 ?_
    obtain ⟨hN, hF⟩ := o_gd hF
    refine r_iald h 1 rfl hN dX4_backs_33 ?_
    obtain ⟨u3, hu3, hF⟩ := o_nm hF
    refine J.top hu3 ?_
    refine r_istore_n (lv' := [(2, .int u3), (1, .int ((139 : Int32) + ((4 : Int32) * u2))), (0, .ref (aμ 0))]) h rfl dX4_backs_34 (by decide) rfl ?_
    refine r_aload_n h 2 rfl rfl dX4_backs_35 ?_
    refine r_iload_n h 0 rfl rfl dX4_backs_36 ?_
    obtain ⟨z4, e5, hF⟩ := o_bind hF
    refine r_callVa (q0 := 0) (rest := []) h hd_X4_isFrozen wm_841 dX4_backs_37 (CX4_isFrozen l D aμ μ u3 z4 e5) rfl rfl rfl ⟨rfl, rfl⟩ ⟨by decide, by decide⟩ (Nat.le_of_ble_eq_true rfl) ⟨by decide, by decide⟩ rfl (fun v w' hp => ?_)
    obtain ⟨rfl, rfl⟩ := hp
    refine r_if_eq h 45 dX4_backs_40 (by decide) (fun c6 => ?_) (fun c6 => ?_)
    · replace hF := o_pos c6 hF
      refine r_aload_n h 2 rfl rfl dX4_backs_45 ?_
      refine r_get h fl_X4_7 0 rfl rfl dX4_backs_46 ?_
      refine r_iload_n h 1 rfl rfl dX4_backs_49 ?_
      refine r_iconst (v := 1) h dX4_backs_50 (by decide) ?_
      refine r_iadd h dX4_backs_51 ?_
      obtain ⟨u7, hu7, hF⟩ := o_nm hF
      refine J.top hu7 ?_
      obtain ⟨hN, hF⟩ := o_gd hF
      refine r_iald h 1 rfl hN dX4_backs_52 ?_
      refine r_iconst (v := -1) h dX4_backs_53 (by decide) ?_
      have hJ89 : FX4_backs_J89 μ u2 u3 = some (r0, μ0) → J X l rmX4_backs D 7 0 0 (mdW D aμ μ) [(2, .int u3), (1, .int ((139 : Int32) + ((4 : Int32) * u2))), (0, .ref (aμ 0))] 89 [] := by
        intro hF
        unfold FX4_backs_J89 at hF
        refine r_aload_n h 2 rfl rfl dX4_backs_89 ?_
        refine r_iload_n h 0 rfl rfl dX4_backs_90 ?_
        refine r_iconst (v := 4) h dX4_backs_91 (by decide) ?_
        obtain ⟨z17, e18, hF⟩ := o_bind hF
        refine r_callVa (q0 := 0) (rest := []) h hd_X4_of wm_837 dX4_backs_92 (CX4_of l D aμ μ u3 (4 : Int32) z17 e18) rfl rfl rfl ⟨rfl, rfl⟩ ⟨by decide, by decide⟩ (Nat.le_of_ble_eq_true rfl) ⟨by decide, by decide⟩ rfl (fun v w' hp => ?_)
        obtain ⟨rfl, rfl⟩ := hp
        refine r_istore_n (lv' := [(3, .int z17), (2, .int u3), (1, .int ((139 : Int32) + ((4 : Int32) * u2))), (0, .ref (aμ 0))]) h rfl dX4_backs_95 (by decide) rfl ?_
        refine r_aload_n h 3 rfl rfl dX4_backs_96 ?_
        refine r_iload_n h 1 rfl rfl dX4_backs_97 ?_
        refine r_iconst (v := 5) h dX4_backs_98 (by decide) ?_
        obtain ⟨z19, e20, hF⟩ := o_bind hF
        refine r_callVa (q0 := 0) (rest := []) h hd_X4_of wm_837 dX4_backs_99 (CX4_of l D aμ μ u3 (5 : Int32) z19 e20) rfl rfl rfl ⟨rfl, rfl⟩ ⟨by decide, by decide⟩ (Nat.le_of_ble_eq_true rfl) ⟨by decide, by decide⟩ rfl (fun v w' hp => ?_)
        obtain ⟨rfl, rfl⟩ := hp
        refine r_istore (lv' := [(4, .int z19), (3, .int z17), (2, .int u3), (1, .int ((139 : Int32) + ((4 : Int32) * u2))), (0, .ref (aμ 0))]) h dX4_backs_102 (by decide) rfl ?_
        refine r_aload_n h 4 rfl rfl dX4_backs_104 ?_
        refine r_iload_n h 2 rfl rfl dX4_backs_105 ?_
        refine r_iconst (v := 2) h dX4_backs_106 (by decide) ?_
        obtain ⟨z21, e22, hF⟩ := o_bind hF
        refine r_callVa (q0 := 0) (rest := []) h hd_X4_of wm_837 dX4_backs_107 (CX4_of l D aμ μ u3 (2 : Int32) z21 e22) rfl rfl rfl ⟨rfl, rfl⟩ ⟨by decide, by decide⟩ (Nat.le_of_ble_eq_true rfl) ⟨by decide, by decide⟩ rfl (fun v w' hp => ?_)
        obtain ⟨rfl, rfl⟩ := hp
        refine r_istore (lv' := [(5, .int z21), (4, .int z19), (3, .int z17), (2, .int u3), (1, .int ((139 : Int32) + ((4 : Int32) * u2))), (0, .ref (aμ 0))]) h dX4_backs_110 (by decide) rfl ?_
        refine r_aload_n h 5 rfl rfl dX4_backs_112 ?_
        refine r_iload_n h 3 rfl rfl dX4_backs_113 ?_
        refine r_aload_n h 5 rfl rfl dX4_backs_114 ?_
        refine r_get h fl_X4_7 0 rfl rfl dX4_backs_115 ?_
        refine r_iload_n h 4 rfl rfl dX4_backs_118 ?_
        refine r_iconst (v := 1) h dX4_backs_119 (by decide) ?_
        refine r_iadd h dX4_backs_120 ?_
        obtain ⟨u23, hu23, hF⟩ := o_nm hF
        refine J.top hu23 ?_
        obtain ⟨hN, hF⟩ := o_gd hF
        refine r_iald h 1 rfl hN dX4_backs_121 ?_
        refine r_aload_n h 5 rfl rfl dX4_backs_122 ?_
        refine r_get h fl_X4_7 0 rfl rfl dX4_backs_123 ?_
        refine r_iload_n h 4 rfl rfl dX4_backs_126 ?_
        refine r_iconst (v := 2) h dX4_backs_127 (by decide) ?_
        refine r_iadd h dX4_backs_128 ?_
        obtain ⟨u24, hu24, hF⟩ := o_nm hF
        refine J.top hu24 ?_
        obtain ⟨hN, hF⟩ := o_gd hF
        refine r_iald h 1 rfl hN dX4_backs_129 ?_
        refine r_aload_n h 5 rfl rfl dX4_backs_130 ?_
        refine r_get h fl_X4_7 0 rfl rfl dX4_backs_131 ?_
        refine r_iload_n h 4 rfl rfl dX4_backs_134 ?_
        refine r_iconst (v := 3) h dX4_backs_135 (by decide) ?_
        refine r_iadd h dX4_backs_136 ?_
        obtain ⟨u25, hu25, hF⟩ := o_nm hF
        refine J.top hu25 ?_
        obtain ⟨hN, hF⟩ := o_gd hF
        refine r_iald h 1 rfl hN dX4_backs_137 ?_
        obtain ⟨z26, e27, hF⟩ := o_bind hF
        refine r_callVa (q0 := 0) (rest := []) h hd_X4_places wm_943 dX4_backs_138 (CX4_places l D aμ μ u3 (μ.1 (u23).toNatClampNeg) (μ.1 (u24).toNatClampNeg) (μ.1 (u25).toNatClampNeg) z26 e27) rfl rfl rfl ⟨rfl, rfl⟩ ⟨by decide, by decide⟩ (Nat.le_of_ble_eq_true rfl) ⟨by decide, by decide⟩ rfl (fun v w' hp => ?_)
        obtain ⟨rfl, rfl⟩ := hp
        refine r_aload_n h 5 rfl rfl dX4_backs_141 ?_
        obtain ⟨z28, e29, hF⟩ := o_bind hF
        refine r_callVa (q0 := 0) (rest := []) h hd_X4_wrong wm_921 dX4_backs_142 (CX4_wrong l D aμ z26 z28 e29) rfl rfl rfl ⟨rfl, rfl⟩ ⟨by decide, by decide⟩ (Nat.le_of_ble_eq_true rfl) ⟨by decide, by decide⟩ rfl (fun v w' hp => ?_)
        obtain ⟨rfl, rfl⟩ := hp
        refine r_istore (lv' := [(6, .int z28), (5, .int z21), (4, .int z19), (3, .int z17), (2, .int u3), (1, .int ((139 : Int32) + ((4 : Int32) * u2))), (0, .ref (aμ 0))]) h dX4_backs_145 (by decide) rfl ?_
        refine r_iload h 0 rfl dX4_backs_147 ?_
        refine r_if_le h 165 dX4_backs_149 (by decide) (fun c30 => ?_) (fun c30 => ?_)
        · replace hF := o_pos c30 hF
          refine r_aload_n h 6 rfl rfl dX4_backs_165 ?_
          refine r_get h fl_X4_7 0 rfl rfl dX4_backs_166 ?_
          refine r_bipush (v := 16) h dX4_backs_169 (by decide) ?_
          refine r_dup2 h rfl rfl dX4_backs_171 ?_
          obtain ⟨hN, hF⟩ := o_gd hF
          refine r_iald h 1 rfl hN dX4_backs_172 ?_
          refine r_iconst (v := 1) h dX4_backs_173 (by decide) ?_
          refine r_isub h dX4_backs_174 ?_
          obtain ⟨u31, hu31, hF⟩ := o_nm hF
          refine J.top hu31 ?_
          obtain ⟨hN, hF⟩ := o_gd hF
          obtain ⟨fw32, hfw32, hF⟩ := o_nm hF
          refine r_iast (ws' := mdW D aμ (fw32, z26.2.1, z26.2.2.1, z26.2.2.2.1, z26.2.2.2.2.1, z26.2.2.2.2.2.1, z26.2.2.2.2.2.2.1, z26.2.2.2.2.2.2.2.1, z26.2.2.2.2.2.2.2.2.1, z26.2.2.2.2.2.2.2.2.2.1, z26.2.2.2.2.2.2.2.2.2.2.1, z26.2.2.2.2.2.2.2.2.2.2.2.1, z26.2.2.2.2.2.2.2.2.2.2.2.2)) h 1 rfl hN (by rw [hfw32]; rfl) dX4_backs_175 ?_
          refine r_aload_n h 6 rfl rfl dX4_backs_176 ?_
          refine r_get h fl_X4_7 0 rfl rfl dX4_backs_177 ?_
          refine r_bipush (v := 18) h dX4_backs_180 (by decide) ?_
          refine r_dup2 h rfl rfl dX4_backs_182 ?_
          obtain ⟨hN, hF⟩ := o_gd hF
          refine r_iald h 1 rfl hN dX4_backs_183 ?_
          refine r_iconst (v := 1) h dX4_backs_184 (by decide) ?_
          refine r_iadd h dX4_backs_185 ?_
          obtain ⟨u33, hu33, hF⟩ := o_nm hF
          refine J.top hu33 ?_
          obtain ⟨hN, hF⟩ := o_gd hF
          obtain ⟨fw34, hfw34, hF⟩ := o_nm hF
          refine r_iast (ws' := mdW D aμ (fw34, z26.2.1, z26.2.2.1, z26.2.2.2.1, z26.2.2.2.2.1, z26.2.2.2.2.2.1, z26.2.2.2.2.2.2.1, z26.2.2.2.2.2.2.2.1, z26.2.2.2.2.2.2.2.2.1, z26.2.2.2.2.2.2.2.2.2.1, z26.2.2.2.2.2.2.2.2.2.2.1, z26.2.2.2.2.2.2.2.2.2.2.2.1, z26.2.2.2.2.2.2.2.2.2.2.2.2)) h 1 rfl hN (by rw [hfw34]; rfl) dX4_backs_186 ?_
          refine r_iconst (v := 0) h dX4_backs_187 (by decide) ?_
          cases hF
          exact r_iret h hr dX4_backs_188 ⟨rfl, rfl⟩
        · replace hF := o_neg c30 hF
          refine r_aload_n h 6 rfl rfl dX4_backs_152 ?_
          refine r_iload_n h 4 rfl rfl dX4_backs_153 ?_
          refine r_iload_n h 3 rfl rfl dX4_backs_154 ?_
          refine r_iload h 2 rfl dX4_backs_155 ?_
          refine r_iload h 1 rfl dX4_backs_157 ?_
          obtain ⟨z35, e36, hF⟩ := o_bind hF
          refine r_callVa (q0 := 0) (rest := []) h hd_X4_places wm_943 dX4_backs_159 (CX4_places l D aμ z26 u3 z17 z19 z21 z35 e36) rfl rfl rfl ⟨rfl, rfl⟩ ⟨by decide, by decide⟩ (Nat.le_of_ble_eq_true rfl) ⟨by decide, by decide⟩ rfl (fun v w' hp => ?_)
          obtain ⟨rfl, rfl⟩ := hp
          refine r_iload h 0 rfl dX4_backs_162 ?_
          cases hF
          exact r_iret h hr dX4_backs_164 ⟨rfl, rfl⟩
      refine r_icmp_eq h 89 dX4_backs_54 (by decide) (fun c8 => ?_) (fun c8 => ?_)
      · replace hF := o_pos c8 hF
        exact J.loc (lv' := [(2, .int u3), (1, .int ((139 : Int32) + ((4 : Int32) * u2))), (0, .ref (aμ 0))]) [0, 1, 2] rfl (hJ89  hF)
      · replace hF := o_neg c8 hF
        refine r_aload_n h 2 rfl rfl dX4_backs_57 ?_
        refine r_aload_n h 2 rfl rfl dX4_backs_58 ?_
        refine r_get h fl_X4_7 0 rfl rfl dX4_backs_59 ?_
        refine r_iload_n h 1 rfl rfl dX4_backs_62 ?_
        refine r_iconst (v := 1) h dX4_backs_63 (by decide) ?_
        refine r_iadd h dX4_backs_64 ?_
        obtain ⟨u10, hu10, hF⟩ := o_nm hF
        refine J.top hu10 ?_
        obtain ⟨hN, hF⟩ := o_gd hF
        refine r_iald h 1 rfl hN dX4_backs_65 ?_
        refine r_aload_n h 2 rfl rfl dX4_backs_66 ?_
        refine r_get h fl_X4_7 0 rfl rfl dX4_backs_67 ?_
        refine r_iload_n h 1 rfl rfl dX4_backs_70 ?_
        refine r_iconst (v := 2) h dX4_backs_71 (by decide) ?_
        refine r_iadd h dX4_backs_72 ?_
        obtain ⟨u11, hu11, hF⟩ := o_nm hF
        refine J.top hu11 ?_
        obtain ⟨hN, hF⟩ := o_gd hF
        refine r_iald h 1 rfl hN dX4_backs_73 ?_
        refine r_aload_n h 2 rfl rfl dX4_backs_74 ?_
        refine r_iload_n h 0 rfl rfl dX4_backs_75 ?_
        refine r_iconst (v := 0) h dX4_backs_76 (by decide) ?_
        obtain ⟨z12, e13, hF⟩ := o_bind hF
        refine r_callVa (q0 := 0) (rest := [.int (μ.1 (u11).toNatClampNeg), .int (μ.1 (u10).toNatClampNeg), .ref (aμ 0)]) h hd_X4_of wm_837 dX4_backs_77 (CX4_of l D aμ μ u3 (0 : Int32) z12 e13) rfl rfl rfl ⟨rfl, rfl⟩ ⟨by decide, by decide⟩ (Nat.le_of_ble_eq_true rfl) ⟨by decide, by decide⟩ rfl (fun v w' hp => ?_)
        obtain ⟨rfl, rfl⟩ := hp
        refine r_iload_n h 0 rfl rfl dX4_backs_80 ?_
        obtain ⟨z14, e15, hF⟩ := o_bind hF
        refine r_callVa (q0 := 0) (rest := []) h hd_X4_areFree wm_877 dX4_backs_81 (CX4_areFree l D aμ μ (μ.1 (u10).toNatClampNeg) (μ.1 (u11).toNatClampNeg) z12 u3 z14 e15) rfl rfl rfl ⟨rfl, rfl⟩ ⟨by decide, by decide⟩ (Nat.le_of_ble_eq_true rfl) ⟨by decide, by decide⟩ rfl (fun v w' hp => ?_)
        obtain ⟨rfl, rfl⟩ := hp
        refine r_if_ne h 89 dX4_backs_84 (by decide) (fun c16 => ?_) (fun c16 => ?_)
        · replace hF := o_neg c16 hF
          exact J.loc (lv' := [(2, .int u3), (1, .int ((139 : Int32) + ((4 : Int32) * u2))), (0, .ref (aμ 0))]) [0, 1, 2] rfl (hJ89  hF)
        · replace hF := o_pos c16 hF
          refine r_iconst (v := 3) h dX4_backs_87 (by decide) ?_
          cases hF
          exact r_iret h hr dX4_backs_88 ⟨rfl, rfl⟩
    · replace hF := o_neg c6 hF
      refine r_iconst (v := 1) h dX4_backs_43 (by decide) ?_
      cases hF
      exact r_iret h hr dX4_backs_44 ⟨rfl, rfl⟩
  · replace hF := o_pos c1 hF
    refine r_iconst (v := 2) h dX4_backs_10 (by decide) ?_
    cases hF
    exact r_iret h hr dX4_backs_11 ⟨rfl, rfl⟩

def FX4_isPlace (x0 : Int32) : Option (Int32) :=
  (FX4_in x0 (-1 : Int32) (5 : Int32)).bind fun z1 =>
  gd (z1 = 0 ∨ z1 = 1) (
  some z1)
abbrev rmX4_isPlace : Room := { frames := 1, cells := 0, slots := 0, locals := 22 }
set_option maxHeartbeats 4000000 in
set_option maxRecDepth 100000 in
theorem CX4_isPlace (l : Launch) (D : va_G)  (x0 : Int32) (r0 : Int32) (hF : FX4_isPlace x0 = some r0) : Ct l D yX4_isPlace cX4_isPlace 1 (some .boolean) rmX4_isPlace 0 0 [.int x0] [] (fun v w => v = some (.int r0) ∧ w = []) := by
  refine Ct.of (own := RX4) (lv := [(0, .int x0)]) (by decide +kernel) rfl (Nat.le_of_ble_eq_true rfl) rfl (fun X h hr => ?_)
  unfold FX4_isPlace at hF
  refine r_iload_n h 0 rfl rfl dX4_isPlace_0 ?_
  refine r_iconst (v := -1) h dX4_isPlace_1 (by decide) ?_
  refine r_iconst (v := 5) h dX4_isPlace_2 (by decide) ?_
  obtain ⟨z1, e2, hF⟩ := o_bind hF
  refine r_callSp (rest := []) h hd_X4_in wm_763 dX4_isPlace_3 (CX4_in l D x0 (-1 : Int32) (5 : Int32) z1 e2) rfl ⟨rfl, rfl⟩ ⟨by decide, by decide⟩ (Nat.le_of_ble_eq_true rfl) ⟨by decide, by decide⟩ rfl ?_
  obtain ⟨hN, hF⟩ := o_gd hF
  cases hF
  exact r_zret h hr hN dX4_isPlace_6 ⟨rfl, rfl⟩

def FX4_ends (μ : MDS) (x1 : Int32) : Option (Int32 × MDS) :=
  if x1 = 0 then
  ((FX4_savesFrom_aside μ).bind fun z2 =>
  some (x1, z2))
else
  (some (x1, μ))
abbrev rmX4_ends : Room := { frames := 1, cells := 0, slots := 0, locals := 22 }
set_option maxHeartbeats 4000000 in
set_option maxRecDepth 100000 in
theorem CX4_ends (l : Launch) (D : va_G) (aμ : Nat → Nat) (μ : MDS) (x1 : Int32) (r0 : Int32) (μ0 : MDS) (hF : FX4_ends μ x1 = some (r0, μ0)) : Ct l D yX4_ends cX4_ends 2 (some .int) rmX4_ends 0 0 [.ref (aμ 0), .int x1] (mdW D aμ μ) (fun v w => v = some (.int r0) ∧ w = mdW D aμ μ0) := by
  refine Ct.of (own := RX4) (lv := [(0, .ref (aμ 0)), (1, .int x1)]) (by decide +kernel) rfl (Nat.le_of_ble_eq_true rfl) rfl (fun X h hr => ?_)
  unfold FX4_ends at hF
  refine r_iload_n h 1 rfl rfl dX4_ends_0 ?_
  refine r_if_ne h 12 dX4_ends_1 (by decide) (fun c1 => ?_) (fun c1 => ?_)
  · replace hF := o_neg c1 hF
    refine r_iload_n h 1 rfl rfl dX4_ends_12 ?_
    cases hF
    exact r_iret h hr dX4_ends_13 ⟨rfl, rfl⟩
  · replace hF := o_pos c1 hF
    refine r_aload_n h 0 rfl rfl dX4_ends_4 ?_
    refine r_aload_n h 0 rfl rfl dX4_ends_5 ?_
    refine r_get h fl_X4_16 0 rfl rfl dX4_ends_6 ?_
    obtain ⟨z2, e3, hF⟩ := o_bind hF
    refine r_callVa (q0 := 0) (rest := []) h hd_X4_savesFrom wm_774 dX4_ends_9 (CX4_savesFrom_aside l D aμ μ z2 e3) rfl rfl rfl ⟨rfl, rfl⟩ ⟨by decide, by decide⟩ (Nat.le_of_ble_eq_true rfl) ⟨by decide, by decide⟩ rfl (fun v w' hp => ?_)
    obtain ⟨rfl, rfl⟩ := hp
    refine r_iload_n h 1 rfl rfl dX4_ends_12 ?_
    cases hF
    exact r_iret h hr dX4_ends_13 ⟨rfl, rfl⟩

def FX4_move_J25 (μ : MDS) (x1 : Int32) (x2 : Int32) (b7_0 : Int32) : Option (Int32 × MDS) :=
  (FX4_refused μ b7_0).bind fun z8 =>
  if z8.1 = 0 then
  ((FX4_copies 219 219 z8.2.2.2.1 z8.2.1).bind fun z11 =>
  (FX4_moves (z8.2.1, z8.2.2.1, z11, z8.2.2.2.2.1, z8.2.2.2.2.2.1, z8.2.2.2.2.2.2.1, z8.2.2.2.2.2.2.2.1, z8.2.2.2.2.2.2.2.2.1, z8.2.2.2.2.2.2.2.2.2.1, z8.2.2.2.2.2.2.2.2.2.2.1, z8.2.2.2.2.2.2.2.2.2.2.2.1, z8.2.2.2.2.2.2.2.2.2.2.2.2.1, z8.2.2.2.2.2.2.2.2.2.2.2.2.2) x1 x2).bind fun z13 =>
  (FX4_ends z13.2 z13.1).bind fun z15 =>
  some (z15.1, z15.2))
else
  (some ((0 : Int32), z8.2))
def FX4_move (μ : MDS) (x1 : Int32) (x2 : Int32) : Option (Int32 × MDS) :=
  (FX4_isMachine μ x1).bind fun z1 =>
  if z1 = 0 then
  (FX4_move_J25 μ x1 x2 (1 : Int32))
else
  ((FX4_isPlace x2).bind fun z4 =>
  if z4 = 0 then
  (FX4_move_J25 μ x1 x2 (2 : Int32))
else
  (FX4_move_J25 μ x1 x2 (0 : Int32)))
abbrev rmX4_move : Room := { frames := 6, cells := 0, slots := 0, locals := 144 }
set_option maxHeartbeats 4000000 in
set_option maxRecDepth 100000 in
theorem CX4_move (l : Launch) (D : va_G) (aμ : Nat → Nat) (μ : MDS) (x1 : Int32) (x2 : Int32) (r0 : Int32) (μ0 : MDS) (hF : FX4_move μ x1 x2 = some (r0, μ0)) : Ct l D yX4_move cX4_move 3 (some .int) rmX4_move 0 0 [.ref (aμ 0), .int x1, .int x2] (mdW D aμ μ) (fun v w => v = some (.int r0) ∧ w = mdW D aμ μ0) := by
  refine Ct.of (own := RX4) (lv := [(0, .ref (aμ 0)), (1, .int x1), (2, .int x2)]) (by decide +kernel) rfl (Nat.le_of_ble_eq_true rfl) rfl (fun X h hr => ?_)
  unfold FX4_move at hF
  refine r_aload_n h 0 rfl rfl dX4_move_0 ?_
  refine r_aload_n h 0 rfl rfl dX4_move_1 ?_
  refine r_iload_n h 1 rfl rfl dX4_move_2 ?_
  obtain ⟨z1, e2, hF⟩ := o_bind hF
  refine r_callVa (q0 := 0) (rest := [.ref (aμ 0)]) h hd_X4_isMachine wm_797 dX4_move_3 (CX4_isMachine l D aμ μ x1 z1 e2) rfl rfl rfl ⟨rfl, rfl⟩ ⟨by decide, by decide⟩ (Nat.le_of_ble_eq_true rfl) ⟨by decide, by decide⟩ rfl (fun v w' hp => ?_)
  obtain ⟨rfl, rfl⟩ := hp
  have hJ25 : ∀ (b7_0 : Int32), FX4_move_J25 μ x1 x2 b7_0 = some (r0, μ0) → J X l rmX4_move D 3 0 0 (mdW D aμ μ) [(0, .ref (aμ 0)), (1, .int x1), (2, .int x2)] 25 [.int b7_0, .ref (aμ 0)] := by
    intro b7_0 hF
    unfold FX4_move_J25 at hF
    obtain ⟨z8, e9, hF⟩ := o_bind hF
    refine r_callVa (q0 := 0) (rest := []) h hd_X4_refused wm_752 dX4_move_25 (CX4_refused l D aμ μ b7_0 z8.1 z8.2 e9) rfl rfl rfl ⟨rfl, rfl⟩ ⟨by decide, by decide⟩ (Nat.le_of_ble_eq_true rfl) ⟨by decide, by decide⟩ rfl (fun v w' hp => ?_)
    obtain ⟨rfl, rfl⟩ := hp
    refine r_if_eq h 33 dX4_move_28 (by decide) (fun c10 => ?_) (fun c10 => ?_)
    · replace hF := o_pos c10 hF
      refine r_aload_n h 0 rfl rfl dX4_move_33 ?_
      refine r_get h fl_X4_16 0 rfl rfl dX4_move_34 ?_
      refine r_aload_n h 0 rfl rfl dX4_move_37 ?_
      refine r_get h fl_X4_7 0 rfl rfl dX4_move_38 ?_
      obtain ⟨z11, e12, hF⟩ := o_bind hF
      refine r_callS (wr := w_pk (mdW D aμ z8.2) [0, 2, 4, 5]) (rest := []) h hd_X4_copies wm_932 dX4_move_41 (CX4_copies l D (aμ 3) (aμ 1) 219 219 z8.2.2.2.1 z8.2.1 z11 e12) [3, 1] [0, 2, 4, 5] rfl rfl (by decide +kernel) rfl ⟨rfl, rfl⟩ ⟨by decide, by decide⟩ (Nat.le_of_ble_eq_true rfl) ⟨by decide, by decide⟩ rfl (fun v w' hp => ?_)
      obtain ⟨rfl, rfl⟩ := hp
      refine J.sub (ws' := mdW D aμ (z8.2.1, z8.2.2.1, z11, z8.2.2.2.2.1, z8.2.2.2.2.2.1, z8.2.2.2.2.2.2.1, z8.2.2.2.2.2.2.2.1, z8.2.2.2.2.2.2.2.2.1, z8.2.2.2.2.2.2.2.2.2.1, z8.2.2.2.2.2.2.2.2.2.2.1, z8.2.2.2.2.2.2.2.2.2.2.2.1, z8.2.2.2.2.2.2.2.2.2.2.2.2.1, z8.2.2.2.2.2.2.2.2.2.2.2.2.2)) [0, 5, 1, 4, 2, 3] rfl (by decide +kernel) ?_
      refine r_aload_n h 0 rfl rfl dX4_move_44 ?_
      refine r_aload_n h 0 rfl rfl dX4_move_45 ?_
      refine r_iload_n h 1 rfl rfl dX4_move_46 ?_
      refine r_iload_n h 2 rfl rfl dX4_move_47 ?_
      obtain ⟨z13, e14, hF⟩ := o_bind hF
      refine r_callVa (q0 := 0) (rest := [.ref (aμ 0)]) h hd_X4_moves wm_935 dX4_move_48 (CX4_moves l D aμ (z8.2.1, z8.2.2.1, z11, z8.2.2.2.2.1, z8.2.2.2.2.2.1, z8.2.2.2.2.2.2.1, z8.2.2.2.2.2.2.2.1, z8.2.2.2.2.2.2.2.2.1, z8.2.2.2.2.2.2.2.2.2.1, z8.2.2.2.2.2.2.2.2.2.2.1, z8.2.2.2.2.2.2.2.2.2.2.2.1, z8.2.2.2.2.2.2.2.2.2.2.2.2.1, z8.2.2.2.2.2.2.2.2.2.2.2.2.2) x1 x2 z13.1 z13.2 e14) rfl rfl rfl ⟨rfl, rfl⟩ ⟨by decide, by decide⟩ (Nat.le_of_ble_eq_true rfl) ⟨by decide, by decide⟩ rfl (fun v w' hp => ?_)
      obtain ⟨rfl, rfl⟩ := hp
      obtain ⟨z15, e16, hF⟩ := o_bind hF
      refine r_callVa (q0 := 0) (rest := []) h hd_X4_ends wm_947 dX4_move_51 (CX4_ends l D aμ z13.2 z13.1 z15.1 z15.2 e16) rfl rfl rfl ⟨rfl, rfl⟩ ⟨by decide, by decide⟩ (Nat.le_of_ble_eq_true rfl) ⟨by decide, by decide⟩ rfl (fun v w' hp => ?_)
      obtain ⟨rfl, rfl⟩ := hp
      cases hF
      exact r_iret h hr dX4_move_54 ⟨rfl, rfl⟩
    · replace hF := o_neg c10 hF
      refine r_iconst (v := 0) h dX4_move_31 (by decide) ?_
      cases hF
      exact r_iret h hr dX4_move_32 ⟨rfl, rfl⟩
  refine r_if_ne h 13 dX4_move_6 (by decide) (fun c3 => ?_) (fun c3 => ?_)
  · replace hF := o_neg c3 hF
    refine r_iload_n h 2 rfl rfl dX4_move_13 ?_
    obtain ⟨z4, e5, hF⟩ := o_bind hF
    refine r_callSp (rest := [.ref (aμ 0)]) h hd_X4_isPlace wm_929 dX4_move_14 (CX4_isPlace l D x2 z4 e5) rfl ⟨rfl, rfl⟩ ⟨by decide, by decide⟩ (Nat.le_of_ble_eq_true rfl) ⟨by decide, by decide⟩ rfl ?_
    refine r_if_eq h 24 dX4_move_17 (by decide) (fun c6 => ?_) (fun c6 => ?_)
    · replace hF := o_pos c6 hF
      refine r_iconst (v := 2) h dX4_move_24 (by decide) ?_
      exact J.loc (lv' := [(0, .ref (aμ 0)), (1, .int x1), (2, .int x2)]) [0, 1, 2] rfl (hJ25 (2 : Int32) hF)
    · replace hF := o_neg c6 hF
      refine r_iconst (v := 0) h dX4_move_20 (by decide) ?_
      refine r_goto h 25 dX4_move_21 (by decide) ?_
      exact J.loc (lv' := [(0, .ref (aμ 0)), (1, .int x1), (2, .int x2)]) [0, 1, 2] rfl (hJ25 (0 : Int32) hF)
  · replace hF := o_pos c3 hF
    refine r_iconst (v := 1) h dX4_move_9 (by decide) ?_
    refine r_goto h 25 dX4_move_10 (by decide) ?_
    exact J.loc (lv' := [(0, .ref (aμ 0)), (1, .int x1), (2, .int x2)]) [0, 1, 2] rfl (hJ25 (1 : Int32) hF)

def FX4_change_J27 (μ : MDS) (x1 : Int32) (x2 : Int32) (b7_0 : Int32) : Option (Int32 × MDS) :=
  (FX4_refused μ b7_0).bind fun z8 =>
  if z8.1 = 0 then
  ((FX4_copies 219 219 z8.2.2.2.1 z8.2.1).bind fun z11 =>
  (FX4_changes (z8.2.1, z8.2.2.1, z11, z8.2.2.2.2.1, z8.2.2.2.2.2.1, z8.2.2.2.2.2.2.1, z8.2.2.2.2.2.2.2.1, z8.2.2.2.2.2.2.2.2.1, z8.2.2.2.2.2.2.2.2.2.1, z8.2.2.2.2.2.2.2.2.2.2.1, z8.2.2.2.2.2.2.2.2.2.2.2.1, z8.2.2.2.2.2.2.2.2.2.2.2.2.1, z8.2.2.2.2.2.2.2.2.2.2.2.2.2) x1 x2).bind fun z13 =>
  (FX4_ends z13.2 z13.1).bind fun z15 =>
  some (z15.1, z15.2))
else
  (some ((0 : Int32), z8.2))
def FX4_change (μ : MDS) (x1 : Int32) (x2 : Int32) : Option (Int32 × MDS) :=
  (FX4_isMachine μ x1).bind fun z1 =>
  if z1 = 0 then
  (FX4_change_J27 μ x1 x2 (1 : Int32))
else
  ((FX4_in x2 (0 : Int32) (2 : Int32)).bind fun z4 =>
  if z4 = 0 then
  (FX4_change_J27 μ x1 x2 (2 : Int32))
else
  (FX4_change_J27 μ x1 x2 (0 : Int32)))
abbrev rmX4_change : Room := { frames := 6, cells := 0, slots := 0, locals := 143 }
set_option maxHeartbeats 4000000 in
set_option maxRecDepth 100000 in
theorem CX4_change (l : Launch) (D : va_G) (aμ : Nat → Nat) (μ : MDS) (x1 : Int32) (x2 : Int32) (r0 : Int32) (μ0 : MDS) (hF : FX4_change μ x1 x2 = some (r0, μ0)) : Ct l D yX4_change cX4_change 3 (some .int) rmX4_change 0 0 [.ref (aμ 0), .int x1, .int x2] (mdW D aμ μ) (fun v w => v = some (.int r0) ∧ w = mdW D aμ μ0) := by
  refine Ct.of (own := RX4) (lv := [(0, .ref (aμ 0)), (1, .int x1), (2, .int x2)]) (by decide +kernel) rfl (Nat.le_of_ble_eq_true rfl) rfl (fun X h hr => ?_)
  unfold FX4_change at hF
  refine r_aload_n h 0 rfl rfl dX4_change_0 ?_
  refine r_aload_n h 0 rfl rfl dX4_change_1 ?_
  refine r_iload_n h 1 rfl rfl dX4_change_2 ?_
  obtain ⟨z1, e2, hF⟩ := o_bind hF
  refine r_callVa (q0 := 0) (rest := [.ref (aμ 0)]) h hd_X4_isMachine wm_797 dX4_change_3 (CX4_isMachine l D aμ μ x1 z1 e2) rfl rfl rfl ⟨rfl, rfl⟩ ⟨by decide, by decide⟩ (Nat.le_of_ble_eq_true rfl) ⟨by decide, by decide⟩ rfl (fun v w' hp => ?_)
  obtain ⟨rfl, rfl⟩ := hp
  have hJ27 : ∀ (b7_0 : Int32), FX4_change_J27 μ x1 x2 b7_0 = some (r0, μ0) → J X l rmX4_change D 3 0 0 (mdW D aμ μ) [(0, .ref (aμ 0)), (1, .int x1), (2, .int x2)] 27 [.int b7_0, .ref (aμ 0)] := by
    intro b7_0 hF
    unfold FX4_change_J27 at hF
    obtain ⟨z8, e9, hF⟩ := o_bind hF
    refine r_callVa (q0 := 0) (rest := []) h hd_X4_refused wm_752 dX4_change_27 (CX4_refused l D aμ μ b7_0 z8.1 z8.2 e9) rfl rfl rfl ⟨rfl, rfl⟩ ⟨by decide, by decide⟩ (Nat.le_of_ble_eq_true rfl) ⟨by decide, by decide⟩ rfl (fun v w' hp => ?_)
    obtain ⟨rfl, rfl⟩ := hp
    refine r_if_eq h 35 dX4_change_30 (by decide) (fun c10 => ?_) (fun c10 => ?_)
    · replace hF := o_pos c10 hF
      refine r_aload_n h 0 rfl rfl dX4_change_35 ?_
      refine r_get h fl_X4_16 0 rfl rfl dX4_change_36 ?_
      refine r_aload_n h 0 rfl rfl dX4_change_39 ?_
      refine r_get h fl_X4_7 0 rfl rfl dX4_change_40 ?_
      obtain ⟨z11, e12, hF⟩ := o_bind hF
      refine r_callS (wr := w_pk (mdW D aμ z8.2) [0, 2, 4, 5]) (rest := []) h hd_X4_copies wm_932 dX4_change_43 (CX4_copies l D (aμ 3) (aμ 1) 219 219 z8.2.2.2.1 z8.2.1 z11 e12) [3, 1] [0, 2, 4, 5] rfl rfl (by decide +kernel) rfl ⟨rfl, rfl⟩ ⟨by decide, by decide⟩ (Nat.le_of_ble_eq_true rfl) ⟨by decide, by decide⟩ rfl (fun v w' hp => ?_)
      obtain ⟨rfl, rfl⟩ := hp
      refine J.sub (ws' := mdW D aμ (z8.2.1, z8.2.2.1, z11, z8.2.2.2.2.1, z8.2.2.2.2.2.1, z8.2.2.2.2.2.2.1, z8.2.2.2.2.2.2.2.1, z8.2.2.2.2.2.2.2.2.1, z8.2.2.2.2.2.2.2.2.2.1, z8.2.2.2.2.2.2.2.2.2.2.1, z8.2.2.2.2.2.2.2.2.2.2.2.1, z8.2.2.2.2.2.2.2.2.2.2.2.2.1, z8.2.2.2.2.2.2.2.2.2.2.2.2.2)) [0, 5, 1, 4, 2, 3] rfl (by decide +kernel) ?_
      refine r_aload_n h 0 rfl rfl dX4_change_46 ?_
      refine r_aload_n h 0 rfl rfl dX4_change_47 ?_
      refine r_iload_n h 1 rfl rfl dX4_change_48 ?_
      refine r_iload_n h 2 rfl rfl dX4_change_49 ?_
      obtain ⟨z13, e14, hF⟩ := o_bind hF
      refine r_callVa (q0 := 0) (rest := [.ref (aμ 0)]) h hd_X4_changes wm_955 dX4_change_50 (CX4_changes l D aμ (z8.2.1, z8.2.2.1, z11, z8.2.2.2.2.1, z8.2.2.2.2.2.1, z8.2.2.2.2.2.2.1, z8.2.2.2.2.2.2.2.1, z8.2.2.2.2.2.2.2.2.1, z8.2.2.2.2.2.2.2.2.2.1, z8.2.2.2.2.2.2.2.2.2.2.1, z8.2.2.2.2.2.2.2.2.2.2.2.1, z8.2.2.2.2.2.2.2.2.2.2.2.2.1, z8.2.2.2.2.2.2.2.2.2.2.2.2.2) x1 x2 z13.1 z13.2 e14) rfl rfl rfl ⟨rfl, rfl⟩ ⟨by decide, by decide⟩ (Nat.le_of_ble_eq_true rfl) ⟨by decide, by decide⟩ rfl (fun v w' hp => ?_)
      obtain ⟨rfl, rfl⟩ := hp
      obtain ⟨z15, e16, hF⟩ := o_bind hF
      refine r_callVa (q0 := 0) (rest := []) h hd_X4_ends wm_947 dX4_change_53 (CX4_ends l D aμ z13.2 z13.1 z15.1 z15.2 e16) rfl rfl rfl ⟨rfl, rfl⟩ ⟨by decide, by decide⟩ (Nat.le_of_ble_eq_true rfl) ⟨by decide, by decide⟩ rfl (fun v w' hp => ?_)
      obtain ⟨rfl, rfl⟩ := hp
      cases hF
      exact r_iret h hr dX4_change_56 ⟨rfl, rfl⟩
    · replace hF := o_neg c10 hF
      refine r_iconst (v := 0) h dX4_change_33 (by decide) ?_
      cases hF
      exact r_iret h hr dX4_change_34 ⟨rfl, rfl⟩
  refine r_if_ne h 13 dX4_change_6 (by decide) (fun c3 => ?_) (fun c3 => ?_)
  · replace hF := o_neg c3 hF
    refine r_iload_n h 2 rfl rfl dX4_change_13 ?_
    refine r_iconst (v := 0) h dX4_change_14 (by decide) ?_
    refine r_iconst (v := 2) h dX4_change_15 (by decide) ?_
    obtain ⟨z4, e5, hF⟩ := o_bind hF
    refine r_callSp (rest := [.ref (aμ 0)]) h hd_X4_in wm_763 dX4_change_16 (CX4_in l D x2 (0 : Int32) (2 : Int32) z4 e5) rfl ⟨rfl, rfl⟩ ⟨by decide, by decide⟩ (Nat.le_of_ble_eq_true rfl) ⟨by decide, by decide⟩ rfl ?_
    refine r_if_eq h 26 dX4_change_19 (by decide) (fun c6 => ?_) (fun c6 => ?_)
    · replace hF := o_pos c6 hF
      refine r_iconst (v := 2) h dX4_change_26 (by decide) ?_
      exact J.loc (lv' := [(0, .ref (aμ 0)), (1, .int x1), (2, .int x2)]) [0, 1, 2] rfl (hJ27 (2 : Int32) hF)
    · replace hF := o_neg c6 hF
      refine r_iconst (v := 0) h dX4_change_22 (by decide) ?_
      refine r_goto h 27 dX4_change_23 (by decide) ?_
      exact J.loc (lv' := [(0, .ref (aμ 0)), (1, .int x1), (2, .int x2)]) [0, 1, 2] rfl (hJ27 (0 : Int32) hF)
  · replace hF := o_pos c3 hF
    refine r_iconst (v := 1) h dX4_change_9 (by decide) ?_
    refine r_goto h 27 dX4_change_10 (by decide) ?_
    exact J.loc (lv' := [(0, .ref (aμ 0)), (1, .int x1), (2, .int x2)]) [0, 1, 2] rfl (hJ27 (1 : Int32) hF)

def FX4_backOut (μ : MDS) : Option (Int32 × MDS) :=
  (FX4_copies 219 219 μ.2.2.1 μ.1).bind fun z1 =>
  (FX4_backs (μ.1, μ.2.1, z1, μ.2.2.2.1, μ.2.2.2.2.1, μ.2.2.2.2.2.1, (0 : Int32), μ.2.2.2.2.2.2.2.1, μ.2.2.2.2.2.2.2.2.1, μ.2.2.2.2.2.2.2.2.2.1, μ.2.2.2.2.2.2.2.2.2.2.1, μ.2.2.2.2.2.2.2.2.2.2.2.1, μ.2.2.2.2.2.2.2.2.2.2.2.2)).bind fun z3 =>
  (FX4_ends z3.2 z3.1).bind fun z5 =>
  some (z5.1, z5.2)
abbrev rmX4_backOut : Room := { frames := 5, cells := 0, slots := 0, locals := 118 }
set_option maxHeartbeats 4000000 in
set_option maxRecDepth 100000 in
theorem CX4_backOut (l : Launch) (D : va_G) (aμ : Nat → Nat) (μ : MDS) (r0 : Int32) (μ0 : MDS) (hF : FX4_backOut μ = some (r0, μ0)) : Ct l D yX4_backOut cX4_backOut 1 (some .int) rmX4_backOut 0 0 [.ref (aμ 0)] (mdW D aμ μ) (fun v w => v = some (.int r0) ∧ w = mdW D aμ μ0) := by
  refine Ct.of (own := RX4) (lv := [(0, .ref (aμ 0))]) (by decide +kernel) rfl (Nat.le_of_ble_eq_true rfl) rfl (fun X h hr => ?_)
  unfold FX4_backOut at hF
  refine r_aload_n h 0 rfl rfl dX4_backOut_0 ?_
  refine r_iconst (v := 0) h dX4_backOut_1 (by decide) ?_
  refine r_put (ws' := mdW D aμ (μ.1, μ.2.1, μ.2.2.1, μ.2.2.2.1, μ.2.2.2.2.1, μ.2.2.2.2.2.1, (0 : Int32), μ.2.2.2.2.2.2.2.1, μ.2.2.2.2.2.2.2.2.1, μ.2.2.2.2.2.2.2.2.2.1, μ.2.2.2.2.2.2.2.2.2.2.1, μ.2.2.2.2.2.2.2.2.2.2.2.1, μ.2.2.2.2.2.2.2.2.2.2.2.2)) h fp_X4_25 0 rfl (Nat.le_of_ble_eq_true rfl) rfl rfl rfl dX4_backOut_2 ?_
  refine r_aload_n h 0 rfl rfl dX4_backOut_5 ?_
  refine r_get h fl_X4_16 0 rfl rfl dX4_backOut_6 ?_
  refine r_aload_n h 0 rfl rfl dX4_backOut_9 ?_
  refine r_get h fl_X4_7 0 rfl rfl dX4_backOut_10 ?_
  obtain ⟨z1, e2, hF⟩ := o_bind hF
  refine r_callS (wr := w_pk (mdW D aμ (μ.1, μ.2.1, μ.2.2.1, μ.2.2.2.1, μ.2.2.2.2.1, μ.2.2.2.2.2.1, (0 : Int32), μ.2.2.2.2.2.2.2.1, μ.2.2.2.2.2.2.2.2.1, μ.2.2.2.2.2.2.2.2.2.1, μ.2.2.2.2.2.2.2.2.2.2.1, μ.2.2.2.2.2.2.2.2.2.2.2.1, μ.2.2.2.2.2.2.2.2.2.2.2.2)) [0, 2, 4, 5]) (rest := []) h hd_X4_copies wm_932 dX4_backOut_13 (CX4_copies l D (aμ 3) (aμ 1) 219 219 μ.2.2.1 μ.1 z1 e2) [3, 1] [0, 2, 4, 5] rfl rfl (by decide +kernel) rfl ⟨rfl, rfl⟩ ⟨by decide, by decide⟩ (Nat.le_of_ble_eq_true rfl) ⟨by decide, by decide⟩ rfl (fun v w' hp => ?_)
  obtain ⟨rfl, rfl⟩ := hp
  refine J.sub (ws' := mdW D aμ (μ.1, μ.2.1, z1, μ.2.2.2.1, μ.2.2.2.2.1, μ.2.2.2.2.2.1, (0 : Int32), μ.2.2.2.2.2.2.2.1, μ.2.2.2.2.2.2.2.2.1, μ.2.2.2.2.2.2.2.2.2.1, μ.2.2.2.2.2.2.2.2.2.2.1, μ.2.2.2.2.2.2.2.2.2.2.2.1, μ.2.2.2.2.2.2.2.2.2.2.2.2)) [0, 5, 1, 4, 2, 3] rfl (by decide +kernel) ?_
  refine r_aload_n h 0 rfl rfl dX4_backOut_16 ?_
  refine r_aload_n h 0 rfl rfl dX4_backOut_17 ?_
  obtain ⟨z3, e4, hF⟩ := o_bind hF
  refine r_callVa (q0 := 0) (rest := [.ref (aμ 0)]) h hd_X4_backs wm_963 dX4_backOut_18 (CX4_backs l D aμ (μ.1, μ.2.1, z1, μ.2.2.2.1, μ.2.2.2.2.1, μ.2.2.2.2.2.1, (0 : Int32), μ.2.2.2.2.2.2.2.1, μ.2.2.2.2.2.2.2.2.1, μ.2.2.2.2.2.2.2.2.2.1, μ.2.2.2.2.2.2.2.2.2.2.1, μ.2.2.2.2.2.2.2.2.2.2.2.1, μ.2.2.2.2.2.2.2.2.2.2.2.2) z3.1 z3.2 e4) rfl rfl rfl ⟨rfl, rfl⟩ ⟨by decide, by decide⟩ (Nat.le_of_ble_eq_true rfl) ⟨by decide, by decide⟩ rfl (fun v w' hp => ?_)
  obtain ⟨rfl, rfl⟩ := hp
  obtain ⟨z5, e6, hF⟩ := o_bind hF
  refine r_callVa (q0 := 0) (rest := []) h hd_X4_ends wm_947 dX4_backOut_21 (CX4_ends l D aμ z3.2 z3.1 z5.1 z5.2 e6) rfl rfl rfl ⟨rfl, rfl⟩ ⟨by decide, by decide⟩ (Nat.le_of_ble_eq_true rfl) ⟨by decide, by decide⟩ rfl (fun v w' hp => ?_)
  obtain ⟨rfl, rfl⟩ := hp
  cases hF
  exact r_iret h hr dX4_backOut_24 ⟨rfl, rfl⟩

def FX4_tellPile (μ : MDS) (x1 : Int32) (x2 : Int32) : Option (Int32) :=
  gd (¬ ((16 : Int32) < 0 ∨ 219 ≤ ((16 : Int32)).toNatClampNeg)) (
  nmv ((μ.1 ((16 : Int32)).toNatClampNeg) - (1 : Int32)) fun u1 =>
  nmv ((139 : Int32) + ((4 : Int32) * (u1 - x1))) fun u2 =>
  gd (¬ ((u2 + x2) < 0 ∨ 219 ≤ (u2 + x2).toNatClampNeg)) (
  some (μ.1 (u2 + x2).toNatClampNeg)))
abbrev rmX4_tellPile : Room := { frames := 0, cells := 0, slots := 0, locals := 0 }
set_option maxHeartbeats 4000000 in
set_option maxRecDepth 100000 in
theorem CX4_tellPile (l : Launch) (D : va_G) (aμ : Nat → Nat) (μ : MDS) (x1 : Int32) (x2 : Int32) (r0 : Int32) (hF : FX4_tellPile μ x1 x2 = some r0) : Ct l D yX4_tellPile cX4_tellPile 3 (some .int) rmX4_tellPile 0 0 [.ref (aμ 0), .int x1, .int x2] (mdW D aμ μ) (fun v w => v = some (.int r0) ∧ w = mdW D aμ μ) := by
  refine Ct.of (own := RX4) (lv := [(0, .ref (aμ 0)), (1, .int x1), (2, .int x2)]) (by decide +kernel) rfl (Nat.le_of_ble_eq_true rfl) rfl (fun X h hr => ?_)
  unfold FX4_tellPile at hF
  refine r_aload_n h 0 rfl rfl dX4_tellPile_0 ?_
  refine r_get h fl_X4_7 0 rfl rfl dX4_tellPile_1 ?_
  refine r_sipush (v := 139) h dX4_tellPile_4 (by decide) ?_
  refine r_iconst (v := 4) h dX4_tellPile_7 (by decide) ?_
  refine r_aload_n h 0 rfl rfl dX4_tellPile_8 ?_
  refine r_get h fl_X4_7 0 rfl rfl dX4_tellPile_9 ?_
  refine r_bipush (v := 16) h dX4_tellPile_12 (by decide) ?_
  obtain ⟨hN, hF⟩ := o_gd hF
  refine r_iald h 1 rfl hN dX4_tellPile_14 ?_
  refine r_iconst (v := 1) h dX4_tellPile_15 (by decide) ?_
  refine r_isub h dX4_tellPile_16 ?_
  obtain ⟨u1, hu1, hF⟩ := o_nm hF
  refine J.top hu1 ?_
  refine r_iload_n h 1 rfl rfl dX4_tellPile_17 ?_
  refine r_isub h dX4_tellPile_18 ?_
  refine r_imul h dX4_tellPile_19 ?_
  refine r_iadd h dX4_tellPile_20 ?_
  obtain ⟨u2, hu2, hF⟩ := o_nm hF
  refine J.top hu2 ?_
  refine r_iload_n h 2 rfl rfl dX4_tellPile_21 ?_
  refine r_iadd h dX4_tellPile_22 ?_
  obtain ⟨hN, hF⟩ := o_gd hF
  refine r_iald h 1 rfl hN dX4_tellPile_23 ?_
  cases hF
  exact r_iret h hr dX4_tellPile_24 ⟨rfl, rfl⟩

def FX4_pile_J23 (μ : MDS) (x1 : Int32) (x2 : Int32) (b5_0 : Int32) : Option (Int32 × MDS) :=
  (FX4_refused μ b5_0).bind fun z6 =>
  if z6.1 = 0 then
  (gd (¬ ((16 : Int32) < 0 ∨ 219 ≤ ((16 : Int32)).toNatClampNeg)) (
  nmv (z6.2.1 ((16 : Int32)).toNatClampNeg) fun u9 =>
  if x1 < u9 then
  ((FX4_tellPile z6.2 x1 x2).bind fun z11 =>
  some (z11, z6.2))
else
  (some ((-1 : Int32), z6.2))))
else
  (some ((0 : Int32), z6.2))
def FX4_pile (μ : MDS) (x1 : Int32) (x2 : Int32) : Option (Int32 × MDS) :=
  if 0 ≤ x1 then
  ((FX4_in x2 (0 : Int32) (3 : Int32)).bind fun z2 =>
  if z2 = 0 then
  (FX4_pile_J23 μ x1 x2 (2 : Int32))
else
  (FX4_pile_J23 μ x1 x2 (0 : Int32)))
else
  (FX4_pile_J23 μ x1 x2 (1 : Int32))
abbrev rmX4_pile : Room := { frames := 1, cells := 0, slots := 0, locals := 22 }
set_option maxHeartbeats 4000000 in
set_option maxRecDepth 100000 in
theorem CX4_pile (l : Launch) (D : va_G) (aμ : Nat → Nat) (μ : MDS) (x1 : Int32) (x2 : Int32) (r0 : Int32) (μ0 : MDS) (hF : FX4_pile μ x1 x2 = some (r0, μ0)) : Ct l D yX4_pile cX4_pile 3 (some .int) rmX4_pile 0 0 [.ref (aμ 0), .int x1, .int x2] (mdW D aμ μ) (fun v w => v = some (.int r0) ∧ w = mdW D aμ μ0) := by
  refine Ct.of (own := RX4) (lv := [(0, .ref (aμ 0)), (1, .int x1), (2, .int x2)]) (by decide +kernel) rfl (Nat.le_of_ble_eq_true rfl) rfl (fun X h hr => ?_)
  unfold FX4_pile at hF
  refine r_aload_n h 0 rfl rfl dX4_pile_0 ?_
  refine r_iload_n h 1 rfl rfl dX4_pile_1 ?_
  have hJ23 : ∀ (b5_0 : Int32), FX4_pile_J23 μ x1 x2 b5_0 = some (r0, μ0) → J X l rmX4_pile D 3 0 0 (mdW D aμ μ) [(0, .ref (aμ 0)), (1, .int x1), (2, .int x2)] 23 [.int b5_0, .ref (aμ 0)] := by
    intro b5_0 hF
    unfold FX4_pile_J23 at hF
    obtain ⟨z6, e7, hF⟩ := o_bind hF
    refine r_callVa (q0 := 0) (rest := []) h hd_X4_refused wm_752 dX4_pile_23 (CX4_refused l D aμ μ b5_0 z6.1 z6.2 e7) rfl rfl rfl ⟨rfl, rfl⟩ ⟨by decide, by decide⟩ (Nat.le_of_ble_eq_true rfl) ⟨by decide, by decide⟩ rfl (fun v w' hp => ?_)
    obtain ⟨rfl, rfl⟩ := hp
    refine r_if_eq h 31 dX4_pile_26 (by decide) (fun c8 => ?_) (fun c8 => ?_)
    · replace hF := o_pos c8 hF
      refine r_iload_n h 1 rfl rfl dX4_pile_31 ?_
      refine r_aload_n h 0 rfl rfl dX4_pile_32 ?_
      refine r_get h fl_X4_7 0 rfl rfl dX4_pile_33 ?_
      refine r_bipush (v := 16) h dX4_pile_36 (by decide) ?_
      obtain ⟨hN, hF⟩ := o_gd hF
      refine r_iald h 1 rfl hN dX4_pile_38 ?_
      obtain ⟨u9, hu9, hF⟩ := o_nm hF
      refine J.top hu9 ?_
      refine r_icmp_lt h 46 dX4_pile_39 (by decide) (fun c10 => ?_) (fun c10 => ?_)
      · replace hF := o_pos c10 hF
        refine r_aload_n h 0 rfl rfl dX4_pile_46 ?_
        refine r_iload_n h 1 rfl rfl dX4_pile_47 ?_
        refine r_iload_n h 2 rfl rfl dX4_pile_48 ?_
        obtain ⟨z11, e12, hF⟩ := o_bind hF
        refine r_callVa (q0 := 0) (rest := []) h hd_X4_tellPile wm_971 dX4_pile_49 (CX4_tellPile l D aμ z6.2 x1 x2 z11 e12) rfl rfl rfl ⟨rfl, rfl⟩ ⟨by decide, by decide⟩ (Nat.le_of_ble_eq_true rfl) ⟨by decide, by decide⟩ rfl (fun v w' hp => ?_)
        obtain ⟨rfl, rfl⟩ := hp
        cases hF
        exact r_iret h hr dX4_pile_52 ⟨rfl, rfl⟩
      · replace hF := o_neg c10 hF
        refine r_iconst (v := -1) h dX4_pile_42 (by decide) ?_
        refine r_goto h 52 dX4_pile_43 (by decide) ?_
        cases hF
        exact r_iret h hr dX4_pile_52 ⟨rfl, rfl⟩
    · replace hF := o_neg c8 hF
      refine r_iconst (v := 0) h dX4_pile_29 (by decide) ?_
      cases hF
      exact r_iret h hr dX4_pile_30 ⟨rfl, rfl⟩
  refine r_if_ge h 9 dX4_pile_2 (by decide) (fun c1 => ?_) (fun c1 => ?_)
  · replace hF := o_pos c1 hF
    refine r_iload_n h 2 rfl rfl dX4_pile_9 ?_
    refine r_iconst (v := 0) h dX4_pile_10 (by decide) ?_
    refine r_iconst (v := 3) h dX4_pile_11 (by decide) ?_
    obtain ⟨z2, e3, hF⟩ := o_bind hF
    refine r_callSp (rest := [.ref (aμ 0)]) h hd_X4_in wm_763 dX4_pile_12 (CX4_in l D x2 (0 : Int32) (3 : Int32) z2 e3) rfl ⟨rfl, rfl⟩ ⟨by decide, by decide⟩ (Nat.le_of_ble_eq_true rfl) ⟨by decide, by decide⟩ rfl ?_
    refine r_if_eq h 22 dX4_pile_15 (by decide) (fun c4 => ?_) (fun c4 => ?_)
    · replace hF := o_pos c4 hF
      refine r_iconst (v := 2) h dX4_pile_22 (by decide) ?_
      exact J.loc (lv' := [(0, .ref (aμ 0)), (1, .int x1), (2, .int x2)]) [0, 1, 2] rfl (hJ23 (2 : Int32) hF)
    · replace hF := o_neg c4 hF
      refine r_iconst (v := 0) h dX4_pile_18 (by decide) ?_
      refine r_goto h 23 dX4_pile_19 (by decide) ?_
      exact J.loc (lv' := [(0, .ref (aμ 0)), (1, .int x1), (2, .int x2)]) [0, 1, 2] rfl (hJ23 (0 : Int32) hF)
  · replace hF := o_neg c1 hF
    refine r_iconst (v := 1) h dX4_pile_5 (by decide) ?_
    refine r_goto h 23 dX4_pile_6 (by decide) ?_
    exact J.loc (lv' := [(0, .ref (aμ 0)), (1, .int x1), (2, .int x2)]) [0, 1, 2] rfl (hJ23 (1 : Int32) hF)

def FX4_mayMove_J25 (μ : MDS) (x1 : Int32) (x2 : Int32) (b7_0 : Int32) : Option (Int32 × MDS) :=
  (FX4_refused μ b7_0).bind fun z8 =>
  if z8.1 = 0 then
  ((FX4_copies 219 219 z8.2.2.2.2.1 z8.2.1).bind fun z11 =>
  (FX4_moves (z8.2.1, z8.2.2.1, z8.2.2.2.1, z11, z8.2.2.2.2.2.1, z8.2.2.2.2.2.2.1, z8.2.2.2.2.2.2.2.1, z8.2.2.2.2.2.2.2.2.1, z8.2.2.2.2.2.2.2.2.2.1, z8.2.2.2.2.2.2.2.2.2.2.1, z8.2.2.2.2.2.2.2.2.2.2.2.1, z8.2.2.2.2.2.2.2.2.2.2.2.2.1, z8.2.2.2.2.2.2.2.2.2.2.2.2.2) x1 x2).bind fun z13 =>
  (FX4_copies 219 219 z13.2.1 z13.2.2.2.2.1).bind fun z15 =>
  some (z13.1, (z15, z13.2.2.1, z13.2.2.2.1, z13.2.2.2.2.1, z13.2.2.2.2.2.1, z13.2.2.2.2.2.2.1, z13.2.2.2.2.2.2.2.1, z13.2.2.2.2.2.2.2.2.1, z13.2.2.2.2.2.2.2.2.2.1, z13.2.2.2.2.2.2.2.2.2.2.1, z13.2.2.2.2.2.2.2.2.2.2.2.1, z13.2.2.2.2.2.2.2.2.2.2.2.2.1, z13.2.2.2.2.2.2.2.2.2.2.2.2.2)))
else
  (some ((0 : Int32), z8.2))
def FX4_mayMove (μ : MDS) (x1 : Int32) (x2 : Int32) : Option (Int32 × MDS) :=
  (FX4_isMachine μ x1).bind fun z1 =>
  if z1 = 0 then
  (FX4_mayMove_J25 μ x1 x2 (1 : Int32))
else
  ((FX4_isPlace x2).bind fun z4 =>
  if z4 = 0 then
  (FX4_mayMove_J25 μ x1 x2 (2 : Int32))
else
  (FX4_mayMove_J25 μ x1 x2 (0 : Int32)))
abbrev rmX4_mayMove : Room := { frames := 6, cells := 0, slots := 0, locals := 144 }
set_option maxHeartbeats 4000000 in
set_option maxRecDepth 100000 in
theorem CX4_mayMove (l : Launch) (D : va_G) (aμ : Nat → Nat) (μ : MDS) (x1 : Int32) (x2 : Int32) (r0 : Int32) (μ0 : MDS) (hF : FX4_mayMove μ x1 x2 = some (r0, μ0)) : Ct l D yX4_mayMove cX4_mayMove 4 (some .int) rmX4_mayMove 0 0 [.ref (aμ 0), .int x1, .int x2] (mdW D aμ μ) (fun v w => v = some (.int r0) ∧ w = mdW D aμ μ0) := by
  refine Ct.of (own := RX4) (lv := [(0, .ref (aμ 0)), (1, .int x1), (2, .int x2)]) (by decide +kernel) rfl (Nat.le_of_ble_eq_true rfl) rfl (fun X h hr => ?_)
  unfold FX4_mayMove at hF
  refine r_aload_n h 0 rfl rfl dX4_mayMove_0 ?_
  refine r_aload_n h 0 rfl rfl dX4_mayMove_1 ?_
  refine r_iload_n h 1 rfl rfl dX4_mayMove_2 ?_
  obtain ⟨z1, e2, hF⟩ := o_bind hF
  refine r_callVa (q0 := 0) (rest := [.ref (aμ 0)]) h hd_X4_isMachine wm_797 dX4_mayMove_3 (CX4_isMachine l D aμ μ x1 z1 e2) rfl rfl rfl ⟨rfl, rfl⟩ ⟨by decide, by decide⟩ (Nat.le_of_ble_eq_true rfl) ⟨by decide, by decide⟩ rfl (fun v w' hp => ?_)
  obtain ⟨rfl, rfl⟩ := hp
  have hJ25 : ∀ (b7_0 : Int32), FX4_mayMove_J25 μ x1 x2 b7_0 = some (r0, μ0) → J X l rmX4_mayMove D 4 0 0 (mdW D aμ μ) [(0, .ref (aμ 0)), (1, .int x1), (2, .int x2)] 25 [.int b7_0, .ref (aμ 0)] := by
    intro b7_0 hF
    unfold FX4_mayMove_J25 at hF
    obtain ⟨z8, e9, hF⟩ := o_bind hF
    refine r_callVa (q0 := 0) (rest := []) h hd_X4_refused wm_752 dX4_mayMove_25 (CX4_refused l D aμ μ b7_0 z8.1 z8.2 e9) rfl rfl rfl ⟨rfl, rfl⟩ ⟨by decide, by decide⟩ (Nat.le_of_ble_eq_true rfl) ⟨by decide, by decide⟩ rfl (fun v w' hp => ?_)
    obtain ⟨rfl, rfl⟩ := hp
    refine r_if_eq h 33 dX4_mayMove_28 (by decide) (fun c10 => ?_) (fun c10 => ?_)
    · replace hF := o_pos c10 hF
      refine r_aload_n h 0 rfl rfl dX4_mayMove_33 ?_
      refine r_get h fl_X4_19 0 rfl rfl dX4_mayMove_34 ?_
      refine r_aload_n h 0 rfl rfl dX4_mayMove_37 ?_
      refine r_get h fl_X4_7 0 rfl rfl dX4_mayMove_38 ?_
      obtain ⟨z11, e12, hF⟩ := o_bind hF
      refine r_callS (wr := w_pk (mdW D aμ z8.2) [0, 2, 3, 5]) (rest := []) h hd_X4_copies wm_932 dX4_mayMove_41 (CX4_copies l D (aμ 4) (aμ 1) 219 219 z8.2.2.2.2.1 z8.2.1 z11 e12) [4, 1] [0, 2, 3, 5] rfl rfl (by decide +kernel) rfl ⟨rfl, rfl⟩ ⟨by decide, by decide⟩ (Nat.le_of_ble_eq_true rfl) ⟨by decide, by decide⟩ rfl (fun v w' hp => ?_)
      obtain ⟨rfl, rfl⟩ := hp
      refine J.sub (ws' := mdW D aμ (z8.2.1, z8.2.2.1, z8.2.2.2.1, z11, z8.2.2.2.2.2.1, z8.2.2.2.2.2.2.1, z8.2.2.2.2.2.2.2.1, z8.2.2.2.2.2.2.2.2.1, z8.2.2.2.2.2.2.2.2.2.1, z8.2.2.2.2.2.2.2.2.2.2.1, z8.2.2.2.2.2.2.2.2.2.2.2.1, z8.2.2.2.2.2.2.2.2.2.2.2.2.1, z8.2.2.2.2.2.2.2.2.2.2.2.2.2)) [0, 5, 1, 2, 4, 3] rfl (by decide +kernel) ?_
      refine r_aload_n h 0 rfl rfl dX4_mayMove_44 ?_
      refine r_iload_n h 1 rfl rfl dX4_mayMove_45 ?_
      refine r_iload_n h 2 rfl rfl dX4_mayMove_46 ?_
      obtain ⟨z13, e14, hF⟩ := o_bind hF
      refine r_callVa (q0 := 0) (rest := []) h hd_X4_moves wm_935 dX4_mayMove_47 (CX4_moves l D aμ (z8.2.1, z8.2.2.1, z8.2.2.2.1, z11, z8.2.2.2.2.2.1, z8.2.2.2.2.2.2.1, z8.2.2.2.2.2.2.2.1, z8.2.2.2.2.2.2.2.2.1, z8.2.2.2.2.2.2.2.2.2.1, z8.2.2.2.2.2.2.2.2.2.2.1, z8.2.2.2.2.2.2.2.2.2.2.2.1, z8.2.2.2.2.2.2.2.2.2.2.2.2.1, z8.2.2.2.2.2.2.2.2.2.2.2.2.2) x1 x2 z13.1 z13.2 e14) rfl rfl rfl ⟨rfl, rfl⟩ ⟨by decide, by decide⟩ (Nat.le_of_ble_eq_true rfl) ⟨by decide, by decide⟩ rfl (fun v w' hp => ?_)
      obtain ⟨rfl, rfl⟩ := hp
      refine r_istore_n (lv' := [(3, .int z13.1), (0, .ref (aμ 0)), (1, .int x1), (2, .int x2)]) h rfl dX4_mayMove_50 (by decide) rfl ?_
      refine r_aload_n h 1 rfl rfl dX4_mayMove_51 ?_
      refine r_get h fl_X4_7 0 rfl rfl dX4_mayMove_52 ?_
      refine r_aload_n h 1 rfl rfl dX4_mayMove_55 ?_
      refine r_get h fl_X4_19 0 rfl rfl dX4_mayMove_56 ?_
      obtain ⟨z15, e16, hF⟩ := o_bind hF
      refine r_callS (wr := w_pk (mdW D aμ z13.2) [0, 2, 3, 5]) (rest := []) h hd_X4_copies wm_932 dX4_mayMove_59 (CX4_copies l D (aμ 1) (aμ 4) 219 219 z13.2.1 z13.2.2.2.2.1 z15 e16) [1, 4] [0, 2, 3, 5] rfl rfl (by decide +kernel) rfl ⟨rfl, rfl⟩ ⟨by decide, by decide⟩ (Nat.le_of_ble_eq_true rfl) ⟨by decide, by decide⟩ rfl (fun v w' hp => ?_)
      obtain ⟨rfl, rfl⟩ := hp
      refine J.sub (ws' := mdW D aμ (z15, z13.2.2.1, z13.2.2.2.1, z13.2.2.2.2.1, z13.2.2.2.2.2.1, z13.2.2.2.2.2.2.1, z13.2.2.2.2.2.2.2.1, z13.2.2.2.2.2.2.2.2.1, z13.2.2.2.2.2.2.2.2.2.1, z13.2.2.2.2.2.2.2.2.2.2.1, z13.2.2.2.2.2.2.2.2.2.2.2.1, z13.2.2.2.2.2.2.2.2.2.2.2.2.1, z13.2.2.2.2.2.2.2.2.2.2.2.2.2)) [0, 4, 1, 2, 5, 3] rfl (by decide +kernel) ?_
      refine r_iload_n h 0 rfl rfl dX4_mayMove_62 ?_
      cases hF
      exact r_iret h hr dX4_mayMove_63 ⟨rfl, rfl⟩
    · replace hF := o_neg c10 hF
      refine r_iconst (v := 0) h dX4_mayMove_31 (by decide) ?_
      cases hF
      exact r_iret h hr dX4_mayMove_32 ⟨rfl, rfl⟩
  refine r_if_ne h 13 dX4_mayMove_6 (by decide) (fun c3 => ?_) (fun c3 => ?_)
  · replace hF := o_neg c3 hF
    refine r_iload_n h 2 rfl rfl dX4_mayMove_13 ?_
    obtain ⟨z4, e5, hF⟩ := o_bind hF
    refine r_callSp (rest := [.ref (aμ 0)]) h hd_X4_isPlace wm_929 dX4_mayMove_14 (CX4_isPlace l D x2 z4 e5) rfl ⟨rfl, rfl⟩ ⟨by decide, by decide⟩ (Nat.le_of_ble_eq_true rfl) ⟨by decide, by decide⟩ rfl ?_
    refine r_if_eq h 24 dX4_mayMove_17 (by decide) (fun c6 => ?_) (fun c6 => ?_)
    · replace hF := o_pos c6 hF
      refine r_iconst (v := 2) h dX4_mayMove_24 (by decide) ?_
      exact J.loc (lv' := [(0, .ref (aμ 0)), (1, .int x1), (2, .int x2)]) [0, 1, 2] rfl (hJ25 (2 : Int32) hF)
    · replace hF := o_neg c6 hF
      refine r_iconst (v := 0) h dX4_mayMove_20 (by decide) ?_
      refine r_goto h 25 dX4_mayMove_21 (by decide) ?_
      exact J.loc (lv' := [(0, .ref (aμ 0)), (1, .int x1), (2, .int x2)]) [0, 1, 2] rfl (hJ25 (0 : Int32) hF)
  · replace hF := o_pos c3 hF
    refine r_iconst (v := 1) h dX4_mayMove_9 (by decide) ?_
    refine r_goto h 25 dX4_mayMove_10 (by decide) ?_
    exact J.loc (lv' := [(0, .ref (aμ 0)), (1, .int x1), (2, .int x2)]) [0, 1, 2] rfl (hJ25 (1 : Int32) hF)

def FX4_fullest_L4 (μ : MDS) (K : Int32 → Int32 → Option (Int32)) : Nat → Int32 → Int32 → Option (Int32)
  | 0, _, _ => none
  | n + 1, y1_2, y1_1 =>
  if (6 : Int32) ≤ y1_2 then
  (K y1_2 y1_1)
else
  ((FX4_load μ y1_2 (-1 : Int32)).bind fun z3 =>
  if z3 ≤ y1_1 then
  (FX4_fullest_L4 μ K n (y1_2 + 1) y1_1)
else
  (FX4_fullest_L4 μ K n (y1_2 + 1) z3))
def FX4_fullest (μ : MDS) : Option (Int32) :=
  FX4_fullest_L4 μ (fun (y1_2 : Int32) (y1_1 : Int32) =>
  some y1_1) FU (0 : Int32) (0 : Int32)
abbrev rmX4_fullest : Room := { frames := 2, cells := 0, slots := 0, locals := 47 }
set_option maxHeartbeats 4000000 in
set_option maxRecDepth 100000 in
theorem CX4_fullest (l : Launch) (D : va_G) (aμ : Nat → Nat) (μ : MDS) (r0 : Int32) (hF : FX4_fullest μ = some r0) : Ct l D yX4_fullest cX4_fullest 4 (some .int) rmX4_fullest 0 0 [.ref (aμ 0)] (mdW D aμ μ) (fun v w => v = some (.int r0) ∧ w = mdW D aμ μ) := by
  refine Ct.of (own := RX4) (lv := [(0, .ref (aμ 0))]) (by decide +kernel) rfl (Nat.le_of_ble_eq_true rfl) rfl (fun X h hr => ?_)
  unfold FX4_fullest at hF
  refine r_iconst (v := 0) h dX4_fullest_0 (by decide) ?_
  refine r_istore_n (lv' := [(1, .int (0 : Int32)), (0, .ref (aμ 0))]) h rfl dX4_fullest_1 (by decide) rfl ?_
  refine r_iconst (v := 0) h dX4_fullest_2 (by decide) ?_
  refine r_istore_n (lv' := [(2, .int (0 : Int32)), (1, .int (0 : Int32)), (0, .ref (aμ 0))]) h rfl dX4_fullest_3 (by decide) rfl ?_
  have hL4 : ∀ (K : Int32 → Int32 → Option (Int32)) (hK : ∀ (y1_2 : Int32) (y1_1 : Int32), K y1_2 y1_1 = some r0 → J X l rmX4_fullest D 4 0 0 (mdW D aμ μ) [(2, .int y1_2), (1, .int y1_1), (0, .ref (aμ 0))] 34 []) (N : Nat), ∀ (y1_2 : Int32) (y1_1 : Int32), FX4_fullest_L4 μ K N y1_2 y1_1 = some r0 → J X l rmX4_fullest D 4 0 0 (mdW D aμ μ) [(2, .int y1_2), (1, .int y1_1), (0, .ref (aμ 0))] 4 [] := by
    intro K hK N
    induction N with
    | zero =>
      intro y1_2 y1_1 hF
      cases hF
    | succ N ih =>
      intro y1_2 y1_1 hF
      rw [FX4_fullest_L4] at hF
      refine r_iload_n h 0 rfl rfl dX4_fullest_4 ?_
      refine r_bipush (v := 6) h dX4_fullest_5 (by decide) ?_
      refine r_icmp_ge h 34 dX4_fullest_7 (by decide) (fun c2 => ?_) (fun c2 => ?_)
      · replace hF := o_pos c2 hF
        exact J.loc (lv' := [(2, .int y1_2), (1, .int y1_1), (0, .ref (aμ 0))]) [0, 1, 2] rfl (hK y1_2 y1_1 hF)
      · replace hF := o_neg c2 hF
        refine r_aload_n h 2 rfl rfl dX4_fullest_10 ?_
        refine r_iload_n h 0 rfl rfl dX4_fullest_11 ?_
        refine r_iconst (v := -1) h dX4_fullest_12 (by decide) ?_
        obtain ⟨z3, e4, hF⟩ := o_bind hF
        refine r_callVa (q0 := 0) (rest := []) h hd_X4_load wm_857 dX4_fullest_13 (CX4_load l D aμ μ y1_2 (-1 : Int32) z3 e4) rfl rfl rfl ⟨rfl, rfl⟩ ⟨by decide, by decide⟩ (Nat.le_of_ble_eq_true rfl) ⟨by decide, by decide⟩ rfl (fun v w' hp => ?_)
        obtain ⟨rfl, rfl⟩ := hp
        refine r_istore_n (lv' := [(3, .int z3), (2, .int y1_2), (1, .int y1_1), (0, .ref (aμ 0))]) h rfl dX4_fullest_16 (by decide) rfl ?_
        refine r_iload_n h 0 rfl rfl dX4_fullest_17 ?_
        refine r_iload_n h 2 rfl rfl dX4_fullest_18 ?_
        refine r_icmp_le h 26 dX4_fullest_19 (by decide) (fun c5 => ?_) (fun c5 => ?_)
        · replace hF := o_pos c5 hF
          refine r_iload_n h 2 rfl rfl dX4_fullest_26 ?_
          refine r_istore_n (lv' := [(1, .int y1_1), (3, .int z3), (2, .int y1_2), (0, .ref (aμ 0))]) h rfl dX4_fullest_27 (by decide) rfl ?_
          refine r_iinc (lv' := [(2, .int (y1_2 + 1)), (1, .int y1_1), (3, .int z3), (0, .ref (aμ 0))]) h 2 rfl (congrArg (fun z => y1_2 + z) (by decide : Int32.ofInt 1 = 1)) dX4_fullest_28 (by decide) rfl ?_
          refine r_goto h 4 dX4_fullest_31 (by decide) ?_
          exact J.loc (lv' := [(2, .int (y1_2 + 1)), (1, .int y1_1), (0, .ref (aμ 0))]) [0, 1, 3] rfl (ih (y1_2 + 1) y1_1 hF)
        · replace hF := o_neg c5 hF
          refine r_iload_n h 0 rfl rfl dX4_fullest_22 ?_
          refine r_goto h 27 dX4_fullest_23 (by decide) ?_
          refine r_istore_n (lv' := [(1, .int z3), (3, .int z3), (2, .int y1_2), (0, .ref (aμ 0))]) h rfl dX4_fullest_27 (by decide) rfl ?_
          refine r_iinc (lv' := [(2, .int (y1_2 + 1)), (1, .int z3), (3, .int z3), (0, .ref (aμ 0))]) h 2 rfl (congrArg (fun z => y1_2 + z) (by decide : Int32.ofInt 1 = 1)) dX4_fullest_28 (by decide) rfl ?_
          refine r_goto h 4 dX4_fullest_31 (by decide) ?_
          exact J.loc (lv' := [(2, .int (y1_2 + 1)), (1, .int z3), (0, .ref (aμ 0))]) [0, 1, 3] rfl (ih (y1_2 + 1) z3 hF)
  refine hL4 _ (fun y1_2 y1_1 hF => ?_) _ (0 : Int32) (0 : Int32) hF
  refine r_iload_n h 1 rfl rfl dX4_fullest_34 ?_
  cases hF
  exact r_iret h hr dX4_fullest_35 ⟨rfl, rfl⟩

def FX4_bestRack_L40 (x1 : Int32) (K : Int32 → Int32 → Int32 → MDS → Option (Int32 × MDS)) : Nat → Int32 → Int32 → Int32 → MDS → Option (Int32 × MDS)
  | 0, _, _, _, _ => none
  | n + 1, y11_4, y11_3, y11_2, s11_μ =>
  if (6 : Int32) ≤ y11_4 then
  (K y11_4 y11_3 y11_2 s11_μ)
else
  ((FX4_moves s11_μ x1 y11_4).bind fun z13 =>
  if z13.1 = 0 then
  ((FX4_fullest z13.2).bind fun z23 =>
  (FX4_copies 219 219 z13.2.1 z13.2.2.2.2.1).bind fun z25 =>
  if (1 : Int32) = 0 then
  (FX4_bestRack_L40 x1 K n (y11_4 + 1) y11_3 y11_2 (z25, z13.2.2.1, z13.2.2.2.1, z13.2.2.2.2.1, z13.2.2.2.2.2.1, z13.2.2.2.2.2.2.1, z13.2.2.2.2.2.2.2.1, z13.2.2.2.2.2.2.2.2.1, z13.2.2.2.2.2.2.2.2.2.1, z13.2.2.2.2.2.2.2.2.2.2.1, z13.2.2.2.2.2.2.2.2.2.2.2.1, z13.2.2.2.2.2.2.2.2.2.2.2.2.1, z13.2.2.2.2.2.2.2.2.2.2.2.2.2))
else
  (if y11_2 = (-1 : Int32) then
  (FX4_bestRack_L40 x1 K n (y11_4 + 1) z23 y11_4 (z25, z13.2.2.1, z13.2.2.2.1, z13.2.2.2.2.1, z13.2.2.2.2.2.1, z13.2.2.2.2.2.2.1, z13.2.2.2.2.2.2.2.1, z13.2.2.2.2.2.2.2.2.1, z13.2.2.2.2.2.2.2.2.2.1, z13.2.2.2.2.2.2.2.2.2.2.1, z13.2.2.2.2.2.2.2.2.2.2.2.1, z13.2.2.2.2.2.2.2.2.2.2.2.2.1, z13.2.2.2.2.2.2.2.2.2.2.2.2.2))
else
  (if y11_3 ≤ z23 then
  (FX4_bestRack_L40 x1 K n (y11_4 + 1) y11_3 y11_2 (z25, z13.2.2.1, z13.2.2.2.1, z13.2.2.2.2.1, z13.2.2.2.2.2.1, z13.2.2.2.2.2.2.1, z13.2.2.2.2.2.2.2.1, z13.2.2.2.2.2.2.2.2.1, z13.2.2.2.2.2.2.2.2.2.1, z13.2.2.2.2.2.2.2.2.2.2.1, z13.2.2.2.2.2.2.2.2.2.2.2.1, z13.2.2.2.2.2.2.2.2.2.2.2.2.1, z13.2.2.2.2.2.2.2.2.2.2.2.2.2))
else
  (FX4_bestRack_L40 x1 K n (y11_4 + 1) z23 y11_4 (z25, z13.2.2.1, z13.2.2.2.1, z13.2.2.2.2.1, z13.2.2.2.2.2.1, z13.2.2.2.2.2.2.1, z13.2.2.2.2.2.2.2.1, z13.2.2.2.2.2.2.2.2.1, z13.2.2.2.2.2.2.2.2.2.1, z13.2.2.2.2.2.2.2.2.2.2.1, z13.2.2.2.2.2.2.2.2.2.2.2.1, z13.2.2.2.2.2.2.2.2.2.2.2.2.1, z13.2.2.2.2.2.2.2.2.2.2.2.2.2)))))
else
  ((FX4_fullest z13.2).bind fun z16 =>
  (FX4_copies 219 219 z13.2.1 z13.2.2.2.2.1).bind fun z18 =>
  if (0 : Int32) = 0 then
  (FX4_bestRack_L40 x1 K n (y11_4 + 1) y11_3 y11_2 (z18, z13.2.2.1, z13.2.2.2.1, z13.2.2.2.2.1, z13.2.2.2.2.2.1, z13.2.2.2.2.2.2.1, z13.2.2.2.2.2.2.2.1, z13.2.2.2.2.2.2.2.2.1, z13.2.2.2.2.2.2.2.2.2.1, z13.2.2.2.2.2.2.2.2.2.2.1, z13.2.2.2.2.2.2.2.2.2.2.2.1, z13.2.2.2.2.2.2.2.2.2.2.2.2.1, z13.2.2.2.2.2.2.2.2.2.2.2.2.2))
else
  (if y11_2 = (-1 : Int32) then
  (FX4_bestRack_L40 x1 K n (y11_4 + 1) z16 y11_4 (z18, z13.2.2.1, z13.2.2.2.1, z13.2.2.2.2.1, z13.2.2.2.2.2.1, z13.2.2.2.2.2.2.1, z13.2.2.2.2.2.2.2.1, z13.2.2.2.2.2.2.2.2.1, z13.2.2.2.2.2.2.2.2.2.1, z13.2.2.2.2.2.2.2.2.2.2.1, z13.2.2.2.2.2.2.2.2.2.2.2.1, z13.2.2.2.2.2.2.2.2.2.2.2.2.1, z13.2.2.2.2.2.2.2.2.2.2.2.2.2))
else
  (if y11_3 ≤ z16 then
  (FX4_bestRack_L40 x1 K n (y11_4 + 1) y11_3 y11_2 (z18, z13.2.2.1, z13.2.2.2.1, z13.2.2.2.2.1, z13.2.2.2.2.2.1, z13.2.2.2.2.2.2.1, z13.2.2.2.2.2.2.2.1, z13.2.2.2.2.2.2.2.2.1, z13.2.2.2.2.2.2.2.2.2.1, z13.2.2.2.2.2.2.2.2.2.2.1, z13.2.2.2.2.2.2.2.2.2.2.2.1, z13.2.2.2.2.2.2.2.2.2.2.2.2.1, z13.2.2.2.2.2.2.2.2.2.2.2.2.2))
else
  (FX4_bestRack_L40 x1 K n (y11_4 + 1) z16 y11_4 (z18, z13.2.2.1, z13.2.2.2.1, z13.2.2.2.2.1, z13.2.2.2.2.2.1, z13.2.2.2.2.2.2.1, z13.2.2.2.2.2.2.2.1, z13.2.2.2.2.2.2.2.2.1, z13.2.2.2.2.2.2.2.2.2.1, z13.2.2.2.2.2.2.2.2.2.2.1, z13.2.2.2.2.2.2.2.2.2.2.2.1, z13.2.2.2.2.2.2.2.2.2.2.2.2.1, z13.2.2.2.2.2.2.2.2.2.2.2.2.2))))))
def FX4_bestRack_J14 (μ : MDS) (x1 : Int32) (b4_0 : Int32) : Option (Int32 × MDS) :=
  (FX4_refused μ b4_0).bind fun z5 =>
  if z5.1 = 0 then
  ((FX4_copies 219 219 z5.2.2.2.2.1 z5.2.1).bind fun z8 =>
  FX4_bestRack_L40 x1 (fun (y11_4 : Int32) (y11_3 : Int32) (y11_2 : Int32) (s11_μ : MDS) =>
  some (y11_2, s11_μ)) FU (0 : Int32) (0 : Int32) (-1 : Int32) (z5.2.1, z5.2.2.1, z5.2.2.2.1, z8, z5.2.2.2.2.2.1, z5.2.2.2.2.2.2.1, z5.2.2.2.2.2.2.2.1, z5.2.2.2.2.2.2.2.2.1, z5.2.2.2.2.2.2.2.2.2.1, z5.2.2.2.2.2.2.2.2.2.2.1, z5.2.2.2.2.2.2.2.2.2.2.2.1, z5.2.2.2.2.2.2.2.2.2.2.2.2.1, z5.2.2.2.2.2.2.2.2.2.2.2.2.2))
else
  (some ((0 : Int32), z5.2))
def FX4_bestRack (μ : MDS) (x1 : Int32) : Option (Int32 × MDS) :=
  (FX4_isMachine μ x1).bind fun z1 =>
  if z1 = 0 then
  (FX4_bestRack_J14 μ x1 (1 : Int32))
else
  (FX4_bestRack_J14 μ x1 (0 : Int32))
abbrev rmX4_bestRack : Room := { frames := 6, cells := 0, slots := 0, locals := 144 }
set_option maxHeartbeats 4000000 in
set_option maxRecDepth 100000 in
theorem CX4_bestRack (l : Launch) (D : va_G) (aμ : Nat → Nat) (μ : MDS) (x1 : Int32) (r0 : Int32) (μ0 : MDS) (hF : FX4_bestRack μ x1 = some (r0, μ0)) : Ct l D yX4_bestRack cX4_bestRack 7 (some .int) rmX4_bestRack 0 0 [.ref (aμ 0), .int x1] (mdW D aμ μ) (fun v w => v = some (.int r0) ∧ w = mdW D aμ μ0) := by
  refine Ct.of (own := RX4) (lv := [(0, .ref (aμ 0)), (1, .int x1)]) (by decide +kernel) rfl (Nat.le_of_ble_eq_true rfl) rfl (fun X h hr => ?_)
  unfold FX4_bestRack at hF
  refine r_aload_n h 0 rfl rfl dX4_bestRack_0 ?_
  refine r_aload_n h 0 rfl rfl dX4_bestRack_1 ?_
  refine r_iload_n h 1 rfl rfl dX4_bestRack_2 ?_
  obtain ⟨z1, e2, hF⟩ := o_bind hF
  refine r_callVa (q0 := 0) (rest := [.ref (aμ 0)]) h hd_X4_isMachine wm_797 dX4_bestRack_3 (CX4_isMachine l D aμ μ x1 z1 e2) rfl rfl rfl ⟨rfl, rfl⟩ ⟨by decide, by decide⟩ (Nat.le_of_ble_eq_true rfl) ⟨by decide, by decide⟩ rfl (fun v w' hp => ?_)
  obtain ⟨rfl, rfl⟩ := hp
  have hJ14 : ∀ (b4_0 : Int32), FX4_bestRack_J14 μ x1 b4_0 = some (r0, μ0) → J X l rmX4_bestRack D 7 0 0 (mdW D aμ μ) [(0, .ref (aμ 0)), (1, .int x1)] 14 [.int b4_0, .ref (aμ 0)] := by
    intro b4_0 hF
    unfold FX4_bestRack_J14 at hF
    obtain ⟨z5, e6, hF⟩ := o_bind hF
    refine r_callVa (q0 := 0) (rest := []) h hd_X4_refused wm_752 dX4_bestRack_14 (CX4_refused l D aμ μ b4_0 z5.1 z5.2 e6) rfl rfl rfl ⟨rfl, rfl⟩ ⟨by decide, by decide⟩ (Nat.le_of_ble_eq_true rfl) ⟨by decide, by decide⟩ rfl (fun v w' hp => ?_)
    obtain ⟨rfl, rfl⟩ := hp
    refine r_if_eq h 22 dX4_bestRack_17 (by decide) (fun c7 => ?_) (fun c7 => ?_)
    · replace hF := o_pos c7 hF
      refine r_iconst (v := -1) h dX4_bestRack_22 (by decide) ?_
      refine r_istore_n (lv' := [(2, .int (-1 : Int32)), (0, .ref (aμ 0)), (1, .int x1)]) h rfl dX4_bestRack_23 (by decide) rfl ?_
      refine r_iconst (v := 0) h dX4_bestRack_24 (by decide) ?_
      refine r_istore_n (lv' := [(3, .int (0 : Int32)), (2, .int (-1 : Int32)), (0, .ref (aμ 0)), (1, .int x1)]) h rfl dX4_bestRack_25 (by decide) rfl ?_
      refine r_aload_n h 2 rfl rfl dX4_bestRack_26 ?_
      refine r_get h fl_X4_19 0 rfl rfl dX4_bestRack_27 ?_
      refine r_aload_n h 2 rfl rfl dX4_bestRack_30 ?_
      refine r_get h fl_X4_7 0 rfl rfl dX4_bestRack_31 ?_
      obtain ⟨z8, e9, hF⟩ := o_bind hF
      refine r_callS (wr := w_pk (mdW D aμ z5.2) [0, 2, 3, 5]) (rest := []) h hd_X4_copies wm_932 dX4_bestRack_34 (CX4_copies l D (aμ 4) (aμ 1) 219 219 z5.2.2.2.2.1 z5.2.1 z8 e9) [4, 1] [0, 2, 3, 5] rfl rfl (by decide +kernel) rfl ⟨rfl, rfl⟩ ⟨by decide, by decide⟩ (Nat.le_of_ble_eq_true rfl) ⟨by decide, by decide⟩ rfl (fun v w' hp => ?_)
      obtain ⟨rfl, rfl⟩ := hp
      refine J.sub (ws' := mdW D aμ (z5.2.1, z5.2.2.1, z5.2.2.2.1, z8, z5.2.2.2.2.2.1, z5.2.2.2.2.2.2.1, z5.2.2.2.2.2.2.2.1, z5.2.2.2.2.2.2.2.2.1, z5.2.2.2.2.2.2.2.2.2.1, z5.2.2.2.2.2.2.2.2.2.2.1, z5.2.2.2.2.2.2.2.2.2.2.2.1, z5.2.2.2.2.2.2.2.2.2.2.2.2.1, z5.2.2.2.2.2.2.2.2.2.2.2.2.2)) [0, 5, 1, 2, 4, 3] rfl (by decide +kernel) ?_
      refine r_iconst (v := 0) h dX4_bestRack_37 (by decide) ?_
      refine r_istore (lv' := [(4, .int (0 : Int32)), (3, .int (0 : Int32)), (2, .int (-1 : Int32)), (0, .ref (aμ 0)), (1, .int x1)]) h dX4_bestRack_38 (by decide) rfl ?_
      have hL40 : ∀ (K : Int32 → Int32 → Int32 → MDS → Option (Int32 × MDS)) (hK : ∀ (y11_4 : Int32) (y11_3 : Int32) (y11_2 : Int32) (s11_μ : MDS), K y11_4 y11_3 y11_2 s11_μ = some (r0, μ0) → J X l rmX4_bestRack D 7 0 0 (mdW D aμ s11_μ) [(4, .int y11_4), (3, .int y11_3), (2, .int y11_2), (0, .ref (aμ 0)), (1, .int x1)] 109 []) (N : Nat), ∀ (y11_4 : Int32) (y11_3 : Int32) (y11_2 : Int32) (s11_μ : MDS), FX4_bestRack_L40 x1 K N y11_4 y11_3 y11_2 s11_μ = some (r0, μ0) → J X l rmX4_bestRack D 7 0 0 (mdW D aμ s11_μ) [(4, .int y11_4), (3, .int y11_3), (2, .int y11_2), (0, .ref (aμ 0)), (1, .int x1)] 40 [] := by
        intro K hK N
        induction N with
        | zero =>
          intro y11_4 y11_3 y11_2 s11_μ hF
          cases hF
        | succ N ih =>
          intro y11_4 y11_3 y11_2 s11_μ hF
          rw [FX4_bestRack_L40] at hF
          refine r_iload h 0 rfl dX4_bestRack_40 ?_
          refine r_bipush (v := 6) h dX4_bestRack_42 (by decide) ?_
          refine r_icmp_ge h 109 dX4_bestRack_44 (by decide) (fun c12 => ?_) (fun c12 => ?_)
          · replace hF := o_pos c12 hF
            exact J.loc (lv' := [(4, .int y11_4), (3, .int y11_3), (2, .int y11_2), (0, .ref (aμ 0)), (1, .int x1)]) [0, 1, 2, 3, 4] rfl (hK y11_4 y11_3 y11_2 s11_μ hF)
          · replace hF := o_neg c12 hF
            refine r_aload_n h 3 rfl rfl dX4_bestRack_47 ?_
            refine r_iload_n h 4 rfl rfl dX4_bestRack_48 ?_
            refine r_iload h 0 rfl dX4_bestRack_49 ?_
            obtain ⟨z13, e14, hF⟩ := o_bind hF
            refine r_callVa (q0 := 0) (rest := []) h hd_X4_moves wm_935 dX4_bestRack_51 (CX4_moves l D aμ s11_μ x1 y11_4 z13.1 z13.2 e14) rfl rfl rfl ⟨rfl, rfl⟩ ⟨by decide, by decide⟩ (Nat.le_of_ble_eq_true rfl) ⟨by decide, by decide⟩ rfl (fun v w' hp => ?_)
            obtain ⟨rfl, rfl⟩ := hp
            refine r_if_ne h 61 dX4_bestRack_54 (by decide) (fun c15 => ?_) (fun c15 => ?_)
            · replace hF := o_neg c15 hF
              refine r_iconst (v := 0) h dX4_bestRack_61 (by decide) ?_
              refine r_istore (lv' := [(5, .int (0 : Int32)), (4, .int y11_4), (3, .int y11_3), (2, .int y11_2), (0, .ref (aμ 0)), (1, .int x1)]) h dX4_bestRack_62 (by decide) rfl ?_
              refine r_aload_n h 4 rfl rfl dX4_bestRack_64 ?_
              obtain ⟨z16, e17, hF⟩ := o_bind hF
              refine r_callVa (q0 := 0) (rest := []) h hd_X4_fullest wm_983 dX4_bestRack_65 (CX4_fullest l D aμ z13.2 z16 e17) rfl rfl rfl ⟨rfl, rfl⟩ ⟨by decide, by decide⟩ (Nat.le_of_ble_eq_true rfl) ⟨by decide, by decide⟩ rfl (fun v w' hp => ?_)
              obtain ⟨rfl, rfl⟩ := hp
              refine r_istore (lv' := [(6, .int z16), (5, .int (0 : Int32)), (4, .int y11_4), (3, .int y11_3), (2, .int y11_2), (0, .ref (aμ 0)), (1, .int x1)]) h dX4_bestRack_68 (by decide) rfl ?_
              refine r_aload_n h 5 rfl rfl dX4_bestRack_70 ?_
              refine r_get h fl_X4_7 0 rfl rfl dX4_bestRack_71 ?_
              refine r_aload_n h 5 rfl rfl dX4_bestRack_74 ?_
              refine r_get h fl_X4_19 0 rfl rfl dX4_bestRack_75 ?_
              obtain ⟨z18, e19, hF⟩ := o_bind hF
              refine r_callS (wr := w_pk (mdW D aμ z13.2) [0, 2, 3, 5]) (rest := []) h hd_X4_copies wm_932 dX4_bestRack_78 (CX4_copies l D (aμ 1) (aμ 4) 219 219 z13.2.1 z13.2.2.2.2.1 z18 e19) [1, 4] [0, 2, 3, 5] rfl rfl (by decide +kernel) rfl ⟨rfl, rfl⟩ ⟨by decide, by decide⟩ (Nat.le_of_ble_eq_true rfl) ⟨by decide, by decide⟩ rfl (fun v w' hp => ?_)
              obtain ⟨rfl, rfl⟩ := hp
              refine J.sub (ws' := mdW D aμ (z18, z13.2.2.1, z13.2.2.2.1, z13.2.2.2.2.1, z13.2.2.2.2.2.1, z13.2.2.2.2.2.2.1, z13.2.2.2.2.2.2.2.1, z13.2.2.2.2.2.2.2.2.1, z13.2.2.2.2.2.2.2.2.2.1, z13.2.2.2.2.2.2.2.2.2.2.1, z13.2.2.2.2.2.2.2.2.2.2.2.1, z13.2.2.2.2.2.2.2.2.2.2.2.2.1, z13.2.2.2.2.2.2.2.2.2.2.2.2.2)) [0, 4, 1, 2, 5, 3] rfl (by decide +kernel) ?_
              refine r_iload h 1 rfl dX4_bestRack_81 ?_
              refine r_if_eq h 103 dX4_bestRack_83 (by decide) (fun c20 => ?_) (fun c20 => ?_)
              · replace hF := o_pos c20 hF
                refine r_iinc (lv' := [(4, .int (y11_4 + 1)), (6, .int z16), (5, .int (0 : Int32)), (3, .int y11_3), (2, .int y11_2), (0, .ref (aμ 0)), (1, .int x1)]) h 2 rfl (congrArg (fun z => y11_4 + z) (by decide : Int32.ofInt 1 = 1)) dX4_bestRack_103 (by decide) rfl ?_
                refine r_goto h 40 dX4_bestRack_106 (by decide) ?_
                exact J.loc (lv' := [(4, .int (y11_4 + 1)), (3, .int y11_3), (2, .int y11_2), (0, .ref (aμ 0)), (1, .int x1)]) [0, 3, 4, 5, 6] rfl (ih (y11_4 + 1) y11_3 y11_2 (z18, z13.2.2.1, z13.2.2.2.1, z13.2.2.2.2.1, z13.2.2.2.2.2.1, z13.2.2.2.2.2.2.1, z13.2.2.2.2.2.2.2.1, z13.2.2.2.2.2.2.2.2.1, z13.2.2.2.2.2.2.2.2.2.1, z13.2.2.2.2.2.2.2.2.2.2.1, z13.2.2.2.2.2.2.2.2.2.2.2.1, z13.2.2.2.2.2.2.2.2.2.2.2.2.1, z13.2.2.2.2.2.2.2.2.2.2.2.2.2) hF)
              · replace hF := o_neg c20 hF
                refine r_iload_n h 4 rfl rfl dX4_bestRack_86 ?_
                refine r_iconst (v := -1) h dX4_bestRack_87 (by decide) ?_
                refine r_icmp_eq h 97 dX4_bestRack_88 (by decide) (fun c21 => ?_) (fun c21 => ?_)
                · replace hF := o_pos c21 hF
                  refine r_iload h 2 rfl dX4_bestRack_97 ?_
                  refine r_istore_n (lv' := [(2, .int y11_4), (6, .int z16), (5, .int (0 : Int32)), (4, .int y11_4), (3, .int y11_3), (0, .ref (aμ 0)), (1, .int x1)]) h rfl dX4_bestRack_99 (by decide) rfl ?_
                  refine r_iload h 1 rfl dX4_bestRack_100 ?_
                  refine r_istore_n (lv' := [(3, .int z16), (2, .int y11_4), (6, .int z16), (5, .int (0 : Int32)), (4, .int y11_4), (0, .ref (aμ 0)), (1, .int x1)]) h rfl dX4_bestRack_102 (by decide) rfl ?_
                  refine r_iinc (lv' := [(4, .int (y11_4 + 1)), (3, .int z16), (2, .int y11_4), (6, .int z16), (5, .int (0 : Int32)), (0, .ref (aμ 0)), (1, .int x1)]) h 4 rfl (congrArg (fun z => y11_4 + z) (by decide : Int32.ofInt 1 = 1)) dX4_bestRack_103 (by decide) rfl ?_
                  refine r_goto h 40 dX4_bestRack_106 (by decide) ?_
                  exact J.loc (lv' := [(4, .int (y11_4 + 1)), (3, .int z16), (2, .int y11_4), (0, .ref (aμ 0)), (1, .int x1)]) [0, 1, 2, 5, 6] rfl (ih (y11_4 + 1) z16 y11_4 (z18, z13.2.2.1, z13.2.2.2.1, z13.2.2.2.2.1, z13.2.2.2.2.2.1, z13.2.2.2.2.2.2.1, z13.2.2.2.2.2.2.2.1, z13.2.2.2.2.2.2.2.2.1, z13.2.2.2.2.2.2.2.2.2.1, z13.2.2.2.2.2.2.2.2.2.2.1, z13.2.2.2.2.2.2.2.2.2.2.2.1, z13.2.2.2.2.2.2.2.2.2.2.2.2.1, z13.2.2.2.2.2.2.2.2.2.2.2.2.2) hF)
                · replace hF := o_neg c21 hF
                  refine r_iload h 0 rfl dX4_bestRack_91 ?_
                  refine r_iload_n h 3 rfl rfl dX4_bestRack_93 ?_
                  refine r_icmp_ge h 103 dX4_bestRack_94 (by decide) (fun c22 => ?_) (fun c22 => ?_)
                  · replace hF := o_pos c22 hF
                    refine r_iinc (lv' := [(4, .int (y11_4 + 1)), (6, .int z16), (5, .int (0 : Int32)), (3, .int y11_3), (2, .int y11_2), (0, .ref (aμ 0)), (1, .int x1)]) h 2 rfl (congrArg (fun z => y11_4 + z) (by decide : Int32.ofInt 1 = 1)) dX4_bestRack_103 (by decide) rfl ?_
                    refine r_goto h 40 dX4_bestRack_106 (by decide) ?_
                    exact J.loc (lv' := [(4, .int (y11_4 + 1)), (3, .int y11_3), (2, .int y11_2), (0, .ref (aμ 0)), (1, .int x1)]) [0, 3, 4, 5, 6] rfl (ih (y11_4 + 1) y11_3 y11_2 (z18, z13.2.2.1, z13.2.2.2.1, z13.2.2.2.2.1, z13.2.2.2.2.2.1, z13.2.2.2.2.2.2.1, z13.2.2.2.2.2.2.2.1, z13.2.2.2.2.2.2.2.2.1, z13.2.2.2.2.2.2.2.2.2.1, z13.2.2.2.2.2.2.2.2.2.2.1, z13.2.2.2.2.2.2.2.2.2.2.2.1, z13.2.2.2.2.2.2.2.2.2.2.2.2.1, z13.2.2.2.2.2.2.2.2.2.2.2.2.2) hF)
                  · replace hF := o_neg c22 hF
                    refine r_iload h 2 rfl dX4_bestRack_97 ?_
                    refine r_istore_n (lv' := [(2, .int y11_4), (6, .int z16), (5, .int (0 : Int32)), (4, .int y11_4), (3, .int y11_3), (0, .ref (aμ 0)), (1, .int x1)]) h rfl dX4_bestRack_99 (by decide) rfl ?_
                    refine r_iload h 1 rfl dX4_bestRack_100 ?_
                    refine r_istore_n (lv' := [(3, .int z16), (2, .int y11_4), (6, .int z16), (5, .int (0 : Int32)), (4, .int y11_4), (0, .ref (aμ 0)), (1, .int x1)]) h rfl dX4_bestRack_102 (by decide) rfl ?_
                    refine r_iinc (lv' := [(4, .int (y11_4 + 1)), (3, .int z16), (2, .int y11_4), (6, .int z16), (5, .int (0 : Int32)), (0, .ref (aμ 0)), (1, .int x1)]) h 4 rfl (congrArg (fun z => y11_4 + z) (by decide : Int32.ofInt 1 = 1)) dX4_bestRack_103 (by decide) rfl ?_
                    refine r_goto h 40 dX4_bestRack_106 (by decide) ?_
                    exact J.loc (lv' := [(4, .int (y11_4 + 1)), (3, .int z16), (2, .int y11_4), (0, .ref (aμ 0)), (1, .int x1)]) [0, 1, 2, 5, 6] rfl (ih (y11_4 + 1) z16 y11_4 (z18, z13.2.2.1, z13.2.2.2.1, z13.2.2.2.2.1, z13.2.2.2.2.2.1, z13.2.2.2.2.2.2.1, z13.2.2.2.2.2.2.2.1, z13.2.2.2.2.2.2.2.2.1, z13.2.2.2.2.2.2.2.2.2.1, z13.2.2.2.2.2.2.2.2.2.2.1, z13.2.2.2.2.2.2.2.2.2.2.2.1, z13.2.2.2.2.2.2.2.2.2.2.2.2.1, z13.2.2.2.2.2.2.2.2.2.2.2.2.2) hF)
            · replace hF := o_pos c15 hF
              refine r_iconst (v := 1) h dX4_bestRack_57 (by decide) ?_
              refine r_goto h 62 dX4_bestRack_58 (by decide) ?_
              refine r_istore (lv' := [(5, .int (1 : Int32)), (4, .int y11_4), (3, .int y11_3), (2, .int y11_2), (0, .ref (aμ 0)), (1, .int x1)]) h dX4_bestRack_62 (by decide) rfl ?_
              refine r_aload_n h 4 rfl rfl dX4_bestRack_64 ?_
              obtain ⟨z23, e24, hF⟩ := o_bind hF
              refine r_callVa (q0 := 0) (rest := []) h hd_X4_fullest wm_983 dX4_bestRack_65 (CX4_fullest l D aμ z13.2 z23 e24) rfl rfl rfl ⟨rfl, rfl⟩ ⟨by decide, by decide⟩ (Nat.le_of_ble_eq_true rfl) ⟨by decide, by decide⟩ rfl (fun v w' hp => ?_)
              obtain ⟨rfl, rfl⟩ := hp
              refine r_istore (lv' := [(6, .int z23), (5, .int (1 : Int32)), (4, .int y11_4), (3, .int y11_3), (2, .int y11_2), (0, .ref (aμ 0)), (1, .int x1)]) h dX4_bestRack_68 (by decide) rfl ?_
              refine r_aload_n h 5 rfl rfl dX4_bestRack_70 ?_
              refine r_get h fl_X4_7 0 rfl rfl dX4_bestRack_71 ?_
              refine r_aload_n h 5 rfl rfl dX4_bestRack_74 ?_
              refine r_get h fl_X4_19 0 rfl rfl dX4_bestRack_75 ?_
              obtain ⟨z25, e26, hF⟩ := o_bind hF
              refine r_callS (wr := w_pk (mdW D aμ z13.2) [0, 2, 3, 5]) (rest := []) h hd_X4_copies wm_932 dX4_bestRack_78 (CX4_copies l D (aμ 1) (aμ 4) 219 219 z13.2.1 z13.2.2.2.2.1 z25 e26) [1, 4] [0, 2, 3, 5] rfl rfl (by decide +kernel) rfl ⟨rfl, rfl⟩ ⟨by decide, by decide⟩ (Nat.le_of_ble_eq_true rfl) ⟨by decide, by decide⟩ rfl (fun v w' hp => ?_)
              obtain ⟨rfl, rfl⟩ := hp
              refine J.sub (ws' := mdW D aμ (z25, z13.2.2.1, z13.2.2.2.1, z13.2.2.2.2.1, z13.2.2.2.2.2.1, z13.2.2.2.2.2.2.1, z13.2.2.2.2.2.2.2.1, z13.2.2.2.2.2.2.2.2.1, z13.2.2.2.2.2.2.2.2.2.1, z13.2.2.2.2.2.2.2.2.2.2.1, z13.2.2.2.2.2.2.2.2.2.2.2.1, z13.2.2.2.2.2.2.2.2.2.2.2.2.1, z13.2.2.2.2.2.2.2.2.2.2.2.2.2)) [0, 4, 1, 2, 5, 3] rfl (by decide +kernel) ?_
              refine r_iload h 1 rfl dX4_bestRack_81 ?_
              refine r_if_eq h 103 dX4_bestRack_83 (by decide) (fun c27 => ?_) (fun c27 => ?_)
              · replace hF := o_pos c27 hF
                refine r_iinc (lv' := [(4, .int (y11_4 + 1)), (6, .int z23), (5, .int (1 : Int32)), (3, .int y11_3), (2, .int y11_2), (0, .ref (aμ 0)), (1, .int x1)]) h 2 rfl (congrArg (fun z => y11_4 + z) (by decide : Int32.ofInt 1 = 1)) dX4_bestRack_103 (by decide) rfl ?_
                refine r_goto h 40 dX4_bestRack_106 (by decide) ?_
                exact J.loc (lv' := [(4, .int (y11_4 + 1)), (3, .int y11_3), (2, .int y11_2), (0, .ref (aμ 0)), (1, .int x1)]) [0, 3, 4, 5, 6] rfl (ih (y11_4 + 1) y11_3 y11_2 (z25, z13.2.2.1, z13.2.2.2.1, z13.2.2.2.2.1, z13.2.2.2.2.2.1, z13.2.2.2.2.2.2.1, z13.2.2.2.2.2.2.2.1, z13.2.2.2.2.2.2.2.2.1, z13.2.2.2.2.2.2.2.2.2.1, z13.2.2.2.2.2.2.2.2.2.2.1, z13.2.2.2.2.2.2.2.2.2.2.2.1, z13.2.2.2.2.2.2.2.2.2.2.2.2.1, z13.2.2.2.2.2.2.2.2.2.2.2.2.2) hF)
              · replace hF := o_neg c27 hF
                refine r_iload_n h 4 rfl rfl dX4_bestRack_86 ?_
                refine r_iconst (v := -1) h dX4_bestRack_87 (by decide) ?_
                refine r_icmp_eq h 97 dX4_bestRack_88 (by decide) (fun c28 => ?_) (fun c28 => ?_)
                · replace hF := o_pos c28 hF
                  refine r_iload h 2 rfl dX4_bestRack_97 ?_
                  refine r_istore_n (lv' := [(2, .int y11_4), (6, .int z23), (5, .int (1 : Int32)), (4, .int y11_4), (3, .int y11_3), (0, .ref (aμ 0)), (1, .int x1)]) h rfl dX4_bestRack_99 (by decide) rfl ?_
                  refine r_iload h 1 rfl dX4_bestRack_100 ?_
                  refine r_istore_n (lv' := [(3, .int z23), (2, .int y11_4), (6, .int z23), (5, .int (1 : Int32)), (4, .int y11_4), (0, .ref (aμ 0)), (1, .int x1)]) h rfl dX4_bestRack_102 (by decide) rfl ?_
                  refine r_iinc (lv' := [(4, .int (y11_4 + 1)), (3, .int z23), (2, .int y11_4), (6, .int z23), (5, .int (1 : Int32)), (0, .ref (aμ 0)), (1, .int x1)]) h 4 rfl (congrArg (fun z => y11_4 + z) (by decide : Int32.ofInt 1 = 1)) dX4_bestRack_103 (by decide) rfl ?_
                  refine r_goto h 40 dX4_bestRack_106 (by decide) ?_
                  exact J.loc (lv' := [(4, .int (y11_4 + 1)), (3, .int z23), (2, .int y11_4), (0, .ref (aμ 0)), (1, .int x1)]) [0, 1, 2, 5, 6] rfl (ih (y11_4 + 1) z23 y11_4 (z25, z13.2.2.1, z13.2.2.2.1, z13.2.2.2.2.1, z13.2.2.2.2.2.1, z13.2.2.2.2.2.2.1, z13.2.2.2.2.2.2.2.1, z13.2.2.2.2.2.2.2.2.1, z13.2.2.2.2.2.2.2.2.2.1, z13.2.2.2.2.2.2.2.2.2.2.1, z13.2.2.2.2.2.2.2.2.2.2.2.1, z13.2.2.2.2.2.2.2.2.2.2.2.2.1, z13.2.2.2.2.2.2.2.2.2.2.2.2.2) hF)
                · replace hF := o_neg c28 hF
                  refine r_iload h 0 rfl dX4_bestRack_91 ?_
                  refine r_iload_n h 3 rfl rfl dX4_bestRack_93 ?_
                  refine r_icmp_ge h 103 dX4_bestRack_94 (by decide) (fun c29 => ?_) (fun c29 => ?_)
                  · replace hF := o_pos c29 hF
                    refine r_iinc (lv' := [(4, .int (y11_4 + 1)), (6, .int z23), (5, .int (1 : Int32)), (3, .int y11_3), (2, .int y11_2), (0, .ref (aμ 0)), (1, .int x1)]) h 2 rfl (congrArg (fun z => y11_4 + z) (by decide : Int32.ofInt 1 = 1)) dX4_bestRack_103 (by decide) rfl ?_
                    refine r_goto h 40 dX4_bestRack_106 (by decide) ?_
                    exact J.loc (lv' := [(4, .int (y11_4 + 1)), (3, .int y11_3), (2, .int y11_2), (0, .ref (aμ 0)), (1, .int x1)]) [0, 3, 4, 5, 6] rfl (ih (y11_4 + 1) y11_3 y11_2 (z25, z13.2.2.1, z13.2.2.2.1, z13.2.2.2.2.1, z13.2.2.2.2.2.1, z13.2.2.2.2.2.2.1, z13.2.2.2.2.2.2.2.1, z13.2.2.2.2.2.2.2.2.1, z13.2.2.2.2.2.2.2.2.2.1, z13.2.2.2.2.2.2.2.2.2.2.1, z13.2.2.2.2.2.2.2.2.2.2.2.1, z13.2.2.2.2.2.2.2.2.2.2.2.2.1, z13.2.2.2.2.2.2.2.2.2.2.2.2.2) hF)
                  · replace hF := o_neg c29 hF
                    refine r_iload h 2 rfl dX4_bestRack_97 ?_
                    refine r_istore_n (lv' := [(2, .int y11_4), (6, .int z23), (5, .int (1 : Int32)), (4, .int y11_4), (3, .int y11_3), (0, .ref (aμ 0)), (1, .int x1)]) h rfl dX4_bestRack_99 (by decide) rfl ?_
                    refine r_iload h 1 rfl dX4_bestRack_100 ?_
                    refine r_istore_n (lv' := [(3, .int z23), (2, .int y11_4), (6, .int z23), (5, .int (1 : Int32)), (4, .int y11_4), (0, .ref (aμ 0)), (1, .int x1)]) h rfl dX4_bestRack_102 (by decide) rfl ?_
                    refine r_iinc (lv' := [(4, .int (y11_4 + 1)), (3, .int z23), (2, .int y11_4), (6, .int z23), (5, .int (1 : Int32)), (0, .ref (aμ 0)), (1, .int x1)]) h 4 rfl (congrArg (fun z => y11_4 + z) (by decide : Int32.ofInt 1 = 1)) dX4_bestRack_103 (by decide) rfl ?_
                    refine r_goto h 40 dX4_bestRack_106 (by decide) ?_
                    exact J.loc (lv' := [(4, .int (y11_4 + 1)), (3, .int z23), (2, .int y11_4), (0, .ref (aμ 0)), (1, .int x1)]) [0, 1, 2, 5, 6] rfl (ih (y11_4 + 1) z23 y11_4 (z25, z13.2.2.1, z13.2.2.2.1, z13.2.2.2.2.1, z13.2.2.2.2.2.1, z13.2.2.2.2.2.2.1, z13.2.2.2.2.2.2.2.1, z13.2.2.2.2.2.2.2.2.1, z13.2.2.2.2.2.2.2.2.2.1, z13.2.2.2.2.2.2.2.2.2.2.1, z13.2.2.2.2.2.2.2.2.2.2.2.1, z13.2.2.2.2.2.2.2.2.2.2.2.2.1, z13.2.2.2.2.2.2.2.2.2.2.2.2.2) hF)
      refine hL40 _ (fun y11_4 y11_3 y11_2 s11_μ hF => ?_) _ (0 : Int32) (0 : Int32) (-1 : Int32) (z5.2.1, z5.2.2.1, z5.2.2.2.1, z8, z5.2.2.2.2.2.1, z5.2.2.2.2.2.2.1, z5.2.2.2.2.2.2.2.1, z5.2.2.2.2.2.2.2.2.1, z5.2.2.2.2.2.2.2.2.2.1, z5.2.2.2.2.2.2.2.2.2.2.1, z5.2.2.2.2.2.2.2.2.2.2.2.1, z5.2.2.2.2.2.2.2.2.2.2.2.2.1, z5.2.2.2.2.2.2.2.2.2.2.2.2.2) hF
      refine r_iload_n h 2 rfl rfl dX4_bestRack_109 ?_
      cases hF
      exact r_iret h hr dX4_bestRack_110 ⟨rfl, rfl⟩
    · replace hF := o_neg c7 hF
      refine r_iconst (v := 0) h dX4_bestRack_20 (by decide) ?_
      cases hF
      exact r_iret h hr dX4_bestRack_21 ⟨rfl, rfl⟩
  refine r_if_eq h 13 dX4_bestRack_6 (by decide) (fun c3 => ?_) (fun c3 => ?_)
  · replace hF := o_pos c3 hF
    refine r_iconst (v := 1) h dX4_bestRack_13 (by decide) ?_
    exact J.loc (lv' := [(0, .ref (aμ 0)), (1, .int x1)]) [0, 1] rfl (hJ14 (1 : Int32) hF)
  · replace hF := o_neg c3 hF
    refine r_iconst (v := 0) h dX4_bestRack_9 (by decide) ?_
    refine r_goto h 14 dX4_bestRack_10 (by decide) ?_
    exact J.loc (lv' := [(0, .ref (aμ 0)), (1, .int x1)]) [0, 1] rfl (hJ14 (0 : Int32) hF)

def FX4_bestChange_L25  (K : Int32 → Int32 → Int32 → MDS → Option (Int32 × MDS)) : Nat → Int32 → Int32 → Int32 → MDS → Option (Int32 × MDS)
  | 0, _, _, _, _ => none
  | n + 1, y6_3, y6_2, y6_1, s6_μ =>
  gd (¬ ((13 : Int32) < 0 ∨ 219 ≤ ((13 : Int32)).toNatClampNeg)) (
  nmv (s6_μ.1 ((13 : Int32)).toNatClampNeg) fun u7 =>
  if ((3 : Int32) * u7) ≤ y6_3 then
  (K y6_3 y6_2 y6_1 s6_μ)
else
  (nmv (y6_3 - y6_3 / (3 : Int32) * (3 : Int32)) fun u9 =>
  (FX4_changes s6_μ (y6_3 / (3 : Int32)) u9).bind fun z10 =>
  if z10.1 = 0 then
  ((FX4_difference z10.2).bind fun z19 =>
  (FX4_copies 219 219 z10.2.1 z10.2.2.2.2.1).bind fun z21 =>
  if (1 : Int32) = 0 then
  (FX4_bestChange_L25 K n (y6_3 + 1) y6_2 y6_1 (z21, z10.2.2.1, z10.2.2.2.1, z10.2.2.2.2.1, z10.2.2.2.2.2.1, z10.2.2.2.2.2.2.1, z10.2.2.2.2.2.2.2.1, z10.2.2.2.2.2.2.2.2.1, z10.2.2.2.2.2.2.2.2.2.1, z10.2.2.2.2.2.2.2.2.2.2.1, z10.2.2.2.2.2.2.2.2.2.2.2.1, z10.2.2.2.2.2.2.2.2.2.2.2.2.1, z10.2.2.2.2.2.2.2.2.2.2.2.2.2))
else
  (if y6_2 ≤ z19 then
  (FX4_bestChange_L25 K n (y6_3 + 1) y6_2 y6_1 (z21, z10.2.2.1, z10.2.2.2.1, z10.2.2.2.2.1, z10.2.2.2.2.2.1, z10.2.2.2.2.2.2.1, z10.2.2.2.2.2.2.2.1, z10.2.2.2.2.2.2.2.2.1, z10.2.2.2.2.2.2.2.2.2.1, z10.2.2.2.2.2.2.2.2.2.2.1, z10.2.2.2.2.2.2.2.2.2.2.2.1, z10.2.2.2.2.2.2.2.2.2.2.2.2.1, z10.2.2.2.2.2.2.2.2.2.2.2.2.2))
else
  (FX4_bestChange_L25 K n (y6_3 + 1) z19 y6_3 (z21, z10.2.2.1, z10.2.2.2.1, z10.2.2.2.2.1, z10.2.2.2.2.2.1, z10.2.2.2.2.2.2.1, z10.2.2.2.2.2.2.2.1, z10.2.2.2.2.2.2.2.2.1, z10.2.2.2.2.2.2.2.2.2.1, z10.2.2.2.2.2.2.2.2.2.2.1, z10.2.2.2.2.2.2.2.2.2.2.2.1, z10.2.2.2.2.2.2.2.2.2.2.2.2.1, z10.2.2.2.2.2.2.2.2.2.2.2.2.2))))
else
  ((FX4_difference z10.2).bind fun z13 =>
  (FX4_copies 219 219 z10.2.1 z10.2.2.2.2.1).bind fun z15 =>
  if (0 : Int32) = 0 then
  (FX4_bestChange_L25 K n (y6_3 + 1) y6_2 y6_1 (z15, z10.2.2.1, z10.2.2.2.1, z10.2.2.2.2.1, z10.2.2.2.2.2.1, z10.2.2.2.2.2.2.1, z10.2.2.2.2.2.2.2.1, z10.2.2.2.2.2.2.2.2.1, z10.2.2.2.2.2.2.2.2.2.1, z10.2.2.2.2.2.2.2.2.2.2.1, z10.2.2.2.2.2.2.2.2.2.2.2.1, z10.2.2.2.2.2.2.2.2.2.2.2.2.1, z10.2.2.2.2.2.2.2.2.2.2.2.2.2))
else
  (if y6_2 ≤ z13 then
  (FX4_bestChange_L25 K n (y6_3 + 1) y6_2 y6_1 (z15, z10.2.2.1, z10.2.2.2.1, z10.2.2.2.2.1, z10.2.2.2.2.2.1, z10.2.2.2.2.2.2.1, z10.2.2.2.2.2.2.2.1, z10.2.2.2.2.2.2.2.2.1, z10.2.2.2.2.2.2.2.2.2.1, z10.2.2.2.2.2.2.2.2.2.2.1, z10.2.2.2.2.2.2.2.2.2.2.2.1, z10.2.2.2.2.2.2.2.2.2.2.2.2.1, z10.2.2.2.2.2.2.2.2.2.2.2.2.2))
else
  (FX4_bestChange_L25 K n (y6_3 + 1) z13 y6_3 (z15, z10.2.2.1, z10.2.2.2.1, z10.2.2.2.2.1, z10.2.2.2.2.2.1, z10.2.2.2.2.2.2.1, z10.2.2.2.2.2.2.2.1, z10.2.2.2.2.2.2.2.2.1, z10.2.2.2.2.2.2.2.2.2.1, z10.2.2.2.2.2.2.2.2.2.2.1, z10.2.2.2.2.2.2.2.2.2.2.2.1, z10.2.2.2.2.2.2.2.2.2.2.2.2.1, z10.2.2.2.2.2.2.2.2.2.2.2.2.2))))))
def FX4_bestChange (μ : MDS) : Option (Int32 × MDS) :=
  (FX4_difference (μ.1, μ.2.1, μ.2.2.1, μ.2.2.2.1, μ.2.2.2.2.1, μ.2.2.2.2.2.1, (0 : Int32), μ.2.2.2.2.2.2.2.1, μ.2.2.2.2.2.2.2.2.1, μ.2.2.2.2.2.2.2.2.2.1, μ.2.2.2.2.2.2.2.2.2.2.1, μ.2.2.2.2.2.2.2.2.2.2.2.1, μ.2.2.2.2.2.2.2.2.2.2.2.2)).bind fun z1 =>
  (FX4_copies 219 219 μ.2.2.2.1 μ.1).bind fun z3 =>
  FX4_bestChange_L25  (fun (y6_3 : Int32) (y6_2 : Int32) (y6_1 : Int32) (s6_μ : MDS) =>
  some (y6_1, s6_μ)) FU (0 : Int32) z1 (-1 : Int32) (μ.1, μ.2.1, μ.2.2.1, z3, μ.2.2.2.2.1, μ.2.2.2.2.2.1, (0 : Int32), μ.2.2.2.2.2.2.2.1, μ.2.2.2.2.2.2.2.2.1, μ.2.2.2.2.2.2.2.2.2.1, μ.2.2.2.2.2.2.2.2.2.2.1, μ.2.2.2.2.2.2.2.2.2.2.2.1, μ.2.2.2.2.2.2.2.2.2.2.2.2)
abbrev rmX4_bestChange : Room := { frames := 6, cells := 0, slots := 0, locals := 143 }
set_option maxHeartbeats 4000000 in
set_option maxRecDepth 100000 in
theorem CX4_bestChange (l : Launch) (D : va_G) (aμ : Nat → Nat) (μ : MDS) (r0 : Int32) (μ0 : MDS) (hF : FX4_bestChange μ = some (r0, μ0)) : Ct l D yX4_bestChange cX4_bestChange 6 (some .int) rmX4_bestChange 0 0 [.ref (aμ 0)] (mdW D aμ μ) (fun v w => v = some (.int r0) ∧ w = mdW D aμ μ0) := by
  refine Ct.of (own := RX4) (lv := [(0, .ref (aμ 0))]) (by decide +kernel) rfl (Nat.le_of_ble_eq_true rfl) rfl (fun X h hr => ?_)
  unfold FX4_bestChange at hF
  refine r_aload_n h 0 rfl rfl dX4_bestChange_0 ?_
  refine r_iconst (v := 0) h dX4_bestChange_1 (by decide) ?_
  refine r_put (ws' := mdW D aμ (μ.1, μ.2.1, μ.2.2.1, μ.2.2.2.1, μ.2.2.2.2.1, μ.2.2.2.2.2.1, (0 : Int32), μ.2.2.2.2.2.2.2.1, μ.2.2.2.2.2.2.2.2.1, μ.2.2.2.2.2.2.2.2.2.1, μ.2.2.2.2.2.2.2.2.2.2.1, μ.2.2.2.2.2.2.2.2.2.2.2.1, μ.2.2.2.2.2.2.2.2.2.2.2.2)) h fp_X4_25 0 rfl (Nat.le_of_ble_eq_true rfl) rfl rfl rfl dX4_bestChange_2 ?_
  refine r_iconst (v := -1) h dX4_bestChange_5 (by decide) ?_
  refine r_istore_n (lv' := [(1, .int (-1 : Int32)), (0, .ref (aμ 0))]) h rfl dX4_bestChange_6 (by decide) rfl ?_
  refine r_aload_n h 1 rfl rfl dX4_bestChange_7 ?_
  obtain ⟨z1, e2, hF⟩ := o_bind hF
  refine r_callVa (q0 := 0) (rest := []) h hd_X4_difference wm_917 dX4_bestChange_8 (CX4_difference l D aμ (μ.1, μ.2.1, μ.2.2.1, μ.2.2.2.1, μ.2.2.2.2.1, μ.2.2.2.2.2.1, (0 : Int32), μ.2.2.2.2.2.2.2.1, μ.2.2.2.2.2.2.2.2.1, μ.2.2.2.2.2.2.2.2.2.1, μ.2.2.2.2.2.2.2.2.2.2.1, μ.2.2.2.2.2.2.2.2.2.2.2.1, μ.2.2.2.2.2.2.2.2.2.2.2.2) z1 e2) rfl rfl rfl ⟨rfl, rfl⟩ ⟨by decide, by decide⟩ (Nat.le_of_ble_eq_true rfl) ⟨by decide, by decide⟩ rfl (fun v w' hp => ?_)
  obtain ⟨rfl, rfl⟩ := hp
  refine r_istore_n (lv' := [(2, .int z1), (1, .int (-1 : Int32)), (0, .ref (aμ 0))]) h rfl dX4_bestChange_11 (by decide) rfl ?_
  refine r_aload_n h 2 rfl rfl dX4_bestChange_12 ?_
  refine r_get h fl_X4_19 0 rfl rfl dX4_bestChange_13 ?_
  refine r_aload_n h 2 rfl rfl dX4_bestChange_16 ?_
  refine r_get h fl_X4_7 0 rfl rfl dX4_bestChange_17 ?_
  obtain ⟨z3, e4, hF⟩ := o_bind hF
  refine r_callS (wr := w_pk (mdW D aμ (μ.1, μ.2.1, μ.2.2.1, μ.2.2.2.1, μ.2.2.2.2.1, μ.2.2.2.2.2.1, (0 : Int32), μ.2.2.2.2.2.2.2.1, μ.2.2.2.2.2.2.2.2.1, μ.2.2.2.2.2.2.2.2.2.1, μ.2.2.2.2.2.2.2.2.2.2.1, μ.2.2.2.2.2.2.2.2.2.2.2.1, μ.2.2.2.2.2.2.2.2.2.2.2.2)) [0, 2, 3, 5]) (rest := []) h hd_X4_copies wm_932 dX4_bestChange_20 (CX4_copies l D (aμ 4) (aμ 1) 219 219 μ.2.2.2.1 μ.1 z3 e4) [4, 1] [0, 2, 3, 5] rfl rfl (by decide +kernel) rfl ⟨rfl, rfl⟩ ⟨by decide, by decide⟩ (Nat.le_of_ble_eq_true rfl) ⟨by decide, by decide⟩ rfl (fun v w' hp => ?_)
  obtain ⟨rfl, rfl⟩ := hp
  refine J.sub (ws' := mdW D aμ (μ.1, μ.2.1, μ.2.2.1, z3, μ.2.2.2.2.1, μ.2.2.2.2.2.1, (0 : Int32), μ.2.2.2.2.2.2.2.1, μ.2.2.2.2.2.2.2.2.1, μ.2.2.2.2.2.2.2.2.2.1, μ.2.2.2.2.2.2.2.2.2.2.1, μ.2.2.2.2.2.2.2.2.2.2.2.1, μ.2.2.2.2.2.2.2.2.2.2.2.2)) [0, 5, 1, 2, 4, 3] rfl (by decide +kernel) ?_
  refine r_iconst (v := 0) h dX4_bestChange_23 (by decide) ?_
  refine r_istore_n (lv' := [(3, .int (0 : Int32)), (2, .int z1), (1, .int (-1 : Int32)), (0, .ref (aμ 0))]) h rfl dX4_bestChange_24 (by decide) rfl ?_
  have hL25 : ∀ (K : Int32 → Int32 → Int32 → MDS → Option (Int32 × MDS)) (hK : ∀ (y6_3 : Int32) (y6_2 : Int32) (y6_1 : Int32) (s6_μ : MDS), K y6_3 y6_2 y6_1 s6_μ = some (r0, μ0) → J X l rmX4_bestChange D 6 0 0 (mdW D aμ s6_μ) [(3, .int y6_3), (2, .int y6_2), (1, .int y6_1), (0, .ref (aμ 0))] 97 []) (N : Nat), ∀ (y6_3 : Int32) (y6_2 : Int32) (y6_1 : Int32) (s6_μ : MDS), FX4_bestChange_L25  K N y6_3 y6_2 y6_1 s6_μ = some (r0, μ0) → J X l rmX4_bestChange D 6 0 0 (mdW D aμ s6_μ) [(3, .int y6_3), (2, .int y6_2), (1, .int y6_1), (0, .ref (aμ 0))] 25 [] := by
    intro K hK N
    induction N with
    | zero =>
      intro y6_3 y6_2 y6_1 s6_μ hF
      cases hF
    | succ N ih =>
      intro y6_3 y6_2 y6_1 s6_μ hF
      rw [FX4_bestChange_L25] at hF
      refine r_iload_n h 0 rfl rfl dX4_bestChange_25 ?_
      refine r_iconst (v := 3) h dX4_bestChange_26 (by decide) ?_
      refine r_aload_n h 3 rfl rfl dX4_bestChange_27 ?_
      refine r_get h fl_X4_7 0 rfl rfl dX4_bestChange_28 ?_
      refine r_bipush (v := 13) h dX4_bestChange_31 (by decide) ?_
      obtain ⟨hN, hF⟩ := o_gd hF
      refine r_iald h 1 rfl hN dX4_bestChange_33 ?_
      obtain ⟨u7, hu7, hF⟩ := o_nm hF
      refine J.top hu7 ?_
      refine r_imul h dX4_bestChange_34 ?_
      refine r_icmp_ge h 97 dX4_bestChange_35 (by decide) (fun c8 => ?_) (fun c8 => ?_)
      · replace hF := o_pos c8 hF
        exact J.loc (lv' := [(3, .int y6_3), (2, .int y6_2), (1, .int y6_1), (0, .ref (aμ 0))]) [0, 1, 2, 3] rfl (hK y6_3 y6_2 y6_1 s6_μ hF)
      · replace hF := o_neg c8 hF
        refine r_aload_n h 3 rfl rfl dX4_bestChange_38 ?_
        refine r_iload_n h 0 rfl rfl dX4_bestChange_39 ?_
        refine r_iconst (v := 3) h dX4_bestChange_40 (by decide) ?_
        refine r_idiv h (by decide) dX4_bestChange_41 ?_
        refine r_iload_n h 0 rfl rfl dX4_bestChange_42 ?_
        refine r_iconst (v := 3) h dX4_bestChange_43 (by decide) ?_
        refine r_irem h (by decide) dX4_bestChange_44 ?_
        obtain ⟨u9, hu9, hF⟩ := o_nm hF
        refine J.top hu9 ?_
        obtain ⟨z10, e11, hF⟩ := o_bind hF
        refine r_callVa (q0 := 0) (rest := []) h hd_X4_changes wm_955 dX4_bestChange_45 (CX4_changes l D aμ s6_μ (y6_3 / (3 : Int32)) u9 z10.1 z10.2 e11) rfl rfl rfl ⟨rfl, rfl⟩ ⟨by decide, by decide⟩ (Nat.le_of_ble_eq_true rfl) ⟨by decide, by decide⟩ rfl (fun v w' hp => ?_)
        obtain ⟨rfl, rfl⟩ := hp
        refine r_if_ne h 55 dX4_bestChange_48 (by decide) (fun c12 => ?_) (fun c12 => ?_)
        · replace hF := o_neg c12 hF
          refine r_iconst (v := 0) h dX4_bestChange_55 (by decide) ?_
          refine r_istore (lv' := [(4, .int (0 : Int32)), (3, .int y6_3), (2, .int y6_2), (1, .int y6_1), (0, .ref (aμ 0))]) h dX4_bestChange_56 (by decide) rfl ?_
          refine r_aload_n h 4 rfl rfl dX4_bestChange_58 ?_
          obtain ⟨z13, e14, hF⟩ := o_bind hF
          refine r_callVa (q0 := 0) (rest := []) h hd_X4_difference wm_917 dX4_bestChange_59 (CX4_difference l D aμ z10.2 z13 e14) rfl rfl rfl ⟨rfl, rfl⟩ ⟨by decide, by decide⟩ (Nat.le_of_ble_eq_true rfl) ⟨by decide, by decide⟩ rfl (fun v w' hp => ?_)
          obtain ⟨rfl, rfl⟩ := hp
          refine r_istore (lv' := [(5, .int z13), (4, .int (0 : Int32)), (3, .int y6_3), (2, .int y6_2), (1, .int y6_1), (0, .ref (aμ 0))]) h dX4_bestChange_62 (by decide) rfl ?_
          refine r_aload_n h 5 rfl rfl dX4_bestChange_64 ?_
          refine r_get h fl_X4_7 0 rfl rfl dX4_bestChange_65 ?_
          refine r_aload_n h 5 rfl rfl dX4_bestChange_68 ?_
          refine r_get h fl_X4_19 0 rfl rfl dX4_bestChange_69 ?_
          obtain ⟨z15, e16, hF⟩ := o_bind hF
          refine r_callS (wr := w_pk (mdW D aμ z10.2) [0, 2, 3, 5]) (rest := []) h hd_X4_copies wm_932 dX4_bestChange_72 (CX4_copies l D (aμ 1) (aμ 4) 219 219 z10.2.1 z10.2.2.2.2.1 z15 e16) [1, 4] [0, 2, 3, 5] rfl rfl (by decide +kernel) rfl ⟨rfl, rfl⟩ ⟨by decide, by decide⟩ (Nat.le_of_ble_eq_true rfl) ⟨by decide, by decide⟩ rfl (fun v w' hp => ?_)
          obtain ⟨rfl, rfl⟩ := hp
          refine J.sub (ws' := mdW D aμ (z15, z10.2.2.1, z10.2.2.2.1, z10.2.2.2.2.1, z10.2.2.2.2.2.1, z10.2.2.2.2.2.2.1, z10.2.2.2.2.2.2.2.1, z10.2.2.2.2.2.2.2.2.1, z10.2.2.2.2.2.2.2.2.2.1, z10.2.2.2.2.2.2.2.2.2.2.1, z10.2.2.2.2.2.2.2.2.2.2.2.1, z10.2.2.2.2.2.2.2.2.2.2.2.2.1, z10.2.2.2.2.2.2.2.2.2.2.2.2.2)) [0, 4, 1, 2, 5, 3] rfl (by decide +kernel) ?_
          refine r_iload h 1 rfl dX4_bestChange_75 ?_
          refine r_if_eq h 91 dX4_bestChange_77 (by decide) (fun c17 => ?_) (fun c17 => ?_)
          · replace hF := o_pos c17 hF
            refine r_iinc (lv' := [(3, .int (y6_3 + 1)), (5, .int z13), (4, .int (0 : Int32)), (2, .int y6_2), (1, .int y6_1), (0, .ref (aμ 0))]) h 2 rfl (congrArg (fun z => y6_3 + z) (by decide : Int32.ofInt 1 = 1)) dX4_bestChange_91 (by decide) rfl ?_
            refine r_goto h 25 dX4_bestChange_94 (by decide) ?_
            exact J.loc (lv' := [(3, .int (y6_3 + 1)), (2, .int y6_2), (1, .int y6_1), (0, .ref (aμ 0))]) [0, 3, 4, 5] rfl (ih (y6_3 + 1) y6_2 y6_1 (z15, z10.2.2.1, z10.2.2.2.1, z10.2.2.2.2.1, z10.2.2.2.2.2.1, z10.2.2.2.2.2.2.1, z10.2.2.2.2.2.2.2.1, z10.2.2.2.2.2.2.2.2.1, z10.2.2.2.2.2.2.2.2.2.1, z10.2.2.2.2.2.2.2.2.2.2.1, z10.2.2.2.2.2.2.2.2.2.2.2.1, z10.2.2.2.2.2.2.2.2.2.2.2.2.1, z10.2.2.2.2.2.2.2.2.2.2.2.2.2) hF)
          · replace hF := o_neg c17 hF
            refine r_iload h 0 rfl dX4_bestChange_80 ?_
            refine r_iload_n h 3 rfl rfl dX4_bestChange_82 ?_
            refine r_icmp_ge h 91 dX4_bestChange_83 (by decide) (fun c18 => ?_) (fun c18 => ?_)
            · replace hF := o_pos c18 hF
              refine r_iinc (lv' := [(3, .int (y6_3 + 1)), (5, .int z13), (4, .int (0 : Int32)), (2, .int y6_2), (1, .int y6_1), (0, .ref (aμ 0))]) h 2 rfl (congrArg (fun z => y6_3 + z) (by decide : Int32.ofInt 1 = 1)) dX4_bestChange_91 (by decide) rfl ?_
              refine r_goto h 25 dX4_bestChange_94 (by decide) ?_
              exact J.loc (lv' := [(3, .int (y6_3 + 1)), (2, .int y6_2), (1, .int y6_1), (0, .ref (aμ 0))]) [0, 3, 4, 5] rfl (ih (y6_3 + 1) y6_2 y6_1 (z15, z10.2.2.1, z10.2.2.2.1, z10.2.2.2.2.1, z10.2.2.2.2.2.1, z10.2.2.2.2.2.2.1, z10.2.2.2.2.2.2.2.1, z10.2.2.2.2.2.2.2.2.1, z10.2.2.2.2.2.2.2.2.2.1, z10.2.2.2.2.2.2.2.2.2.2.1, z10.2.2.2.2.2.2.2.2.2.2.2.1, z10.2.2.2.2.2.2.2.2.2.2.2.2.1, z10.2.2.2.2.2.2.2.2.2.2.2.2.2) hF)
            · replace hF := o_neg c18 hF
              refine r_iload_n h 2 rfl rfl dX4_bestChange_86 ?_
              refine r_istore_n (lv' := [(1, .int y6_3), (5, .int z13), (4, .int (0 : Int32)), (3, .int y6_3), (2, .int y6_2), (0, .ref (aμ 0))]) h rfl dX4_bestChange_87 (by decide) rfl ?_
              refine r_iload h 1 rfl dX4_bestChange_88 ?_
              refine r_istore_n (lv' := [(2, .int z13), (1, .int y6_3), (5, .int z13), (4, .int (0 : Int32)), (3, .int y6_3), (0, .ref (aμ 0))]) h rfl dX4_bestChange_90 (by decide) rfl ?_
              refine r_iinc (lv' := [(3, .int (y6_3 + 1)), (2, .int z13), (1, .int y6_3), (5, .int z13), (4, .int (0 : Int32)), (0, .ref (aμ 0))]) h 4 rfl (congrArg (fun z => y6_3 + z) (by decide : Int32.ofInt 1 = 1)) dX4_bestChange_91 (by decide) rfl ?_
              refine r_goto h 25 dX4_bestChange_94 (by decide) ?_
              exact J.loc (lv' := [(3, .int (y6_3 + 1)), (2, .int z13), (1, .int y6_3), (0, .ref (aμ 0))]) [0, 1, 2, 5] rfl (ih (y6_3 + 1) z13 y6_3 (z15, z10.2.2.1, z10.2.2.2.1, z10.2.2.2.2.1, z10.2.2.2.2.2.1, z10.2.2.2.2.2.2.1, z10.2.2.2.2.2.2.2.1, z10.2.2.2.2.2.2.2.2.1, z10.2.2.2.2.2.2.2.2.2.1, z10.2.2.2.2.2.2.2.2.2.2.1, z10.2.2.2.2.2.2.2.2.2.2.2.1, z10.2.2.2.2.2.2.2.2.2.2.2.2.1, z10.2.2.2.2.2.2.2.2.2.2.2.2.2) hF)
        · replace hF := o_pos c12 hF
          refine r_iconst (v := 1) h dX4_bestChange_51 (by decide) ?_
          refine r_goto h 56 dX4_bestChange_52 (by decide) ?_
          refine r_istore (lv' := [(4, .int (1 : Int32)), (3, .int y6_3), (2, .int y6_2), (1, .int y6_1), (0, .ref (aμ 0))]) h dX4_bestChange_56 (by decide) rfl ?_
          refine r_aload_n h 4 rfl rfl dX4_bestChange_58 ?_
          obtain ⟨z19, e20, hF⟩ := o_bind hF
          refine r_callVa (q0 := 0) (rest := []) h hd_X4_difference wm_917 dX4_bestChange_59 (CX4_difference l D aμ z10.2 z19 e20) rfl rfl rfl ⟨rfl, rfl⟩ ⟨by decide, by decide⟩ (Nat.le_of_ble_eq_true rfl) ⟨by decide, by decide⟩ rfl (fun v w' hp => ?_)
          obtain ⟨rfl, rfl⟩ := hp
          refine r_istore (lv' := [(5, .int z19), (4, .int (1 : Int32)), (3, .int y6_3), (2, .int y6_2), (1, .int y6_1), (0, .ref (aμ 0))]) h dX4_bestChange_62 (by decide) rfl ?_
          refine r_aload_n h 5 rfl rfl dX4_bestChange_64 ?_
          refine r_get h fl_X4_7 0 rfl rfl dX4_bestChange_65 ?_
          refine r_aload_n h 5 rfl rfl dX4_bestChange_68 ?_
          refine r_get h fl_X4_19 0 rfl rfl dX4_bestChange_69 ?_
          obtain ⟨z21, e22, hF⟩ := o_bind hF
          refine r_callS (wr := w_pk (mdW D aμ z10.2) [0, 2, 3, 5]) (rest := []) h hd_X4_copies wm_932 dX4_bestChange_72 (CX4_copies l D (aμ 1) (aμ 4) 219 219 z10.2.1 z10.2.2.2.2.1 z21 e22) [1, 4] [0, 2, 3, 5] rfl rfl (by decide +kernel) rfl ⟨rfl, rfl⟩ ⟨by decide, by decide⟩ (Nat.le_of_ble_eq_true rfl) ⟨by decide, by decide⟩ rfl (fun v w' hp => ?_)
          obtain ⟨rfl, rfl⟩ := hp
          refine J.sub (ws' := mdW D aμ (z21, z10.2.2.1, z10.2.2.2.1, z10.2.2.2.2.1, z10.2.2.2.2.2.1, z10.2.2.2.2.2.2.1, z10.2.2.2.2.2.2.2.1, z10.2.2.2.2.2.2.2.2.1, z10.2.2.2.2.2.2.2.2.2.1, z10.2.2.2.2.2.2.2.2.2.2.1, z10.2.2.2.2.2.2.2.2.2.2.2.1, z10.2.2.2.2.2.2.2.2.2.2.2.2.1, z10.2.2.2.2.2.2.2.2.2.2.2.2.2)) [0, 4, 1, 2, 5, 3] rfl (by decide +kernel) ?_
          refine r_iload h 1 rfl dX4_bestChange_75 ?_
          refine r_if_eq h 91 dX4_bestChange_77 (by decide) (fun c23 => ?_) (fun c23 => ?_)
          · replace hF := o_pos c23 hF
            refine r_iinc (lv' := [(3, .int (y6_3 + 1)), (5, .int z19), (4, .int (1 : Int32)), (2, .int y6_2), (1, .int y6_1), (0, .ref (aμ 0))]) h 2 rfl (congrArg (fun z => y6_3 + z) (by decide : Int32.ofInt 1 = 1)) dX4_bestChange_91 (by decide) rfl ?_
            refine r_goto h 25 dX4_bestChange_94 (by decide) ?_
            exact J.loc (lv' := [(3, .int (y6_3 + 1)), (2, .int y6_2), (1, .int y6_1), (0, .ref (aμ 0))]) [0, 3, 4, 5] rfl (ih (y6_3 + 1) y6_2 y6_1 (z21, z10.2.2.1, z10.2.2.2.1, z10.2.2.2.2.1, z10.2.2.2.2.2.1, z10.2.2.2.2.2.2.1, z10.2.2.2.2.2.2.2.1, z10.2.2.2.2.2.2.2.2.1, z10.2.2.2.2.2.2.2.2.2.1, z10.2.2.2.2.2.2.2.2.2.2.1, z10.2.2.2.2.2.2.2.2.2.2.2.1, z10.2.2.2.2.2.2.2.2.2.2.2.2.1, z10.2.2.2.2.2.2.2.2.2.2.2.2.2) hF)
          · replace hF := o_neg c23 hF
            refine r_iload h 0 rfl dX4_bestChange_80 ?_
            refine r_iload_n h 3 rfl rfl dX4_bestChange_82 ?_
            refine r_icmp_ge h 91 dX4_bestChange_83 (by decide) (fun c24 => ?_) (fun c24 => ?_)
            · replace hF := o_pos c24 hF
              refine r_iinc (lv' := [(3, .int (y6_3 + 1)), (5, .int z19), (4, .int (1 : Int32)), (2, .int y6_2), (1, .int y6_1), (0, .ref (aμ 0))]) h 2 rfl (congrArg (fun z => y6_3 + z) (by decide : Int32.ofInt 1 = 1)) dX4_bestChange_91 (by decide) rfl ?_
              refine r_goto h 25 dX4_bestChange_94 (by decide) ?_
              exact J.loc (lv' := [(3, .int (y6_3 + 1)), (2, .int y6_2), (1, .int y6_1), (0, .ref (aμ 0))]) [0, 3, 4, 5] rfl (ih (y6_3 + 1) y6_2 y6_1 (z21, z10.2.2.1, z10.2.2.2.1, z10.2.2.2.2.1, z10.2.2.2.2.2.1, z10.2.2.2.2.2.2.1, z10.2.2.2.2.2.2.2.1, z10.2.2.2.2.2.2.2.2.1, z10.2.2.2.2.2.2.2.2.2.1, z10.2.2.2.2.2.2.2.2.2.2.1, z10.2.2.2.2.2.2.2.2.2.2.2.1, z10.2.2.2.2.2.2.2.2.2.2.2.2.1, z10.2.2.2.2.2.2.2.2.2.2.2.2.2) hF)
            · replace hF := o_neg c24 hF
              refine r_iload_n h 2 rfl rfl dX4_bestChange_86 ?_
              refine r_istore_n (lv' := [(1, .int y6_3), (5, .int z19), (4, .int (1 : Int32)), (3, .int y6_3), (2, .int y6_2), (0, .ref (aμ 0))]) h rfl dX4_bestChange_87 (by decide) rfl ?_
              refine r_iload h 1 rfl dX4_bestChange_88 ?_
              refine r_istore_n (lv' := [(2, .int z19), (1, .int y6_3), (5, .int z19), (4, .int (1 : Int32)), (3, .int y6_3), (0, .ref (aμ 0))]) h rfl dX4_bestChange_90 (by decide) rfl ?_
              refine r_iinc (lv' := [(3, .int (y6_3 + 1)), (2, .int z19), (1, .int y6_3), (5, .int z19), (4, .int (1 : Int32)), (0, .ref (aμ 0))]) h 4 rfl (congrArg (fun z => y6_3 + z) (by decide : Int32.ofInt 1 = 1)) dX4_bestChange_91 (by decide) rfl ?_
              refine r_goto h 25 dX4_bestChange_94 (by decide) ?_
              exact J.loc (lv' := [(3, .int (y6_3 + 1)), (2, .int z19), (1, .int y6_3), (0, .ref (aμ 0))]) [0, 1, 2, 5] rfl (ih (y6_3 + 1) z19 y6_3 (z21, z10.2.2.1, z10.2.2.2.1, z10.2.2.2.2.1, z10.2.2.2.2.2.1, z10.2.2.2.2.2.2.1, z10.2.2.2.2.2.2.2.1, z10.2.2.2.2.2.2.2.2.1, z10.2.2.2.2.2.2.2.2.2.1, z10.2.2.2.2.2.2.2.2.2.2.1, z10.2.2.2.2.2.2.2.2.2.2.2.1, z10.2.2.2.2.2.2.2.2.2.2.2.2.1, z10.2.2.2.2.2.2.2.2.2.2.2.2.2) hF)
  refine hL25 _ (fun y6_3 y6_2 y6_1 s6_μ hF => ?_) _ (0 : Int32) z1 (-1 : Int32) (μ.1, μ.2.1, μ.2.2.1, z3, μ.2.2.2.2.1, μ.2.2.2.2.2.1, (0 : Int32), μ.2.2.2.2.2.2.2.1, μ.2.2.2.2.2.2.2.2.1, μ.2.2.2.2.2.2.2.2.2.1, μ.2.2.2.2.2.2.2.2.2.2.1, μ.2.2.2.2.2.2.2.2.2.2.2.1, μ.2.2.2.2.2.2.2.2.2.2.2.2) hF
  refine r_iload_n h 2 rfl rfl dX4_bestChange_97 ?_
  cases hF
  exact r_iret h hr dX4_bestChange_98 ⟨rfl, rfl⟩

def FX4_backable_L18  (K : Int32 → MDS → Option (Int32 × MDS)) : Nat → Int32 → MDS → Option (Int32 × MDS)
  | 0, _, _ => none
  | n + 1, y4_1, s4_μ =>
  (FX4_backs s4_μ).bind fun z5 =>
  if z5.1 = 0 then
  (FX4_backable_L18 K n (y4_1 + 1) z5.2)
else
  (K y4_1 z5.2)
def FX4_backable (μ : MDS) : Option (Int32 × MDS) :=
  (FX4_copies 219 219 μ.2.2.2.1 μ.1).bind fun z1 =>
  FX4_backable_L18  (fun (y4_1 : Int32) (s4_μ : MDS) =>
  (FX4_copies 219 219 s4_μ.1 s4_μ.2.2.2.1).bind fun z8 =>
  some (y4_1, (z8, s4_μ.2.1, s4_μ.2.2.1, s4_μ.2.2.2.1, s4_μ.2.2.2.2.1, s4_μ.2.2.2.2.2.1, s4_μ.2.2.2.2.2.2.1, s4_μ.2.2.2.2.2.2.2.1, s4_μ.2.2.2.2.2.2.2.2.1, s4_μ.2.2.2.2.2.2.2.2.2.1, s4_μ.2.2.2.2.2.2.2.2.2.2.1, s4_μ.2.2.2.2.2.2.2.2.2.2.2.1, s4_μ.2.2.2.2.2.2.2.2.2.2.2.2))) FU (0 : Int32) (μ.1, μ.2.1, μ.2.2.1, z1, μ.2.2.2.2.1, μ.2.2.2.2.2.1, (0 : Int32), μ.2.2.2.2.2.2.2.1, μ.2.2.2.2.2.2.2.2.1, μ.2.2.2.2.2.2.2.2.2.1, μ.2.2.2.2.2.2.2.2.2.2.1, μ.2.2.2.2.2.2.2.2.2.2.2.1, μ.2.2.2.2.2.2.2.2.2.2.2.2)
abbrev rmX4_backable : Room := { frames := 5, cells := 0, slots := 0, locals := 118 }
set_option maxHeartbeats 4000000 in
set_option maxRecDepth 100000 in
theorem CX4_backable (l : Launch) (D : va_G) (aμ : Nat → Nat) (μ : MDS) (r0 : Int32) (μ0 : MDS) (hF : FX4_backable μ = some (r0, μ0)) : Ct l D yX4_backable cX4_backable 2 (some .int) rmX4_backable 0 0 [.ref (aμ 0)] (mdW D aμ μ) (fun v w => v = some (.int r0) ∧ w = mdW D aμ μ0) := by
  refine Ct.of (own := RX4) (lv := [(0, .ref (aμ 0))]) (by decide +kernel) rfl (Nat.le_of_ble_eq_true rfl) rfl (fun X h hr => ?_)
  unfold FX4_backable at hF
  refine r_aload_n h 0 rfl rfl dX4_backable_0 ?_
  refine r_iconst (v := 0) h dX4_backable_1 (by decide) ?_
  refine r_put (ws' := mdW D aμ (μ.1, μ.2.1, μ.2.2.1, μ.2.2.2.1, μ.2.2.2.2.1, μ.2.2.2.2.2.1, (0 : Int32), μ.2.2.2.2.2.2.2.1, μ.2.2.2.2.2.2.2.2.1, μ.2.2.2.2.2.2.2.2.2.1, μ.2.2.2.2.2.2.2.2.2.2.1, μ.2.2.2.2.2.2.2.2.2.2.2.1, μ.2.2.2.2.2.2.2.2.2.2.2.2)) h fp_X4_25 0 rfl (Nat.le_of_ble_eq_true rfl) rfl rfl rfl dX4_backable_2 ?_
  refine r_aload_n h 0 rfl rfl dX4_backable_5 ?_
  refine r_get h fl_X4_19 0 rfl rfl dX4_backable_6 ?_
  refine r_aload_n h 0 rfl rfl dX4_backable_9 ?_
  refine r_get h fl_X4_7 0 rfl rfl dX4_backable_10 ?_
  obtain ⟨z1, e2, hF⟩ := o_bind hF
  refine r_callS (wr := w_pk (mdW D aμ (μ.1, μ.2.1, μ.2.2.1, μ.2.2.2.1, μ.2.2.2.2.1, μ.2.2.2.2.2.1, (0 : Int32), μ.2.2.2.2.2.2.2.1, μ.2.2.2.2.2.2.2.2.1, μ.2.2.2.2.2.2.2.2.2.1, μ.2.2.2.2.2.2.2.2.2.2.1, μ.2.2.2.2.2.2.2.2.2.2.2.1, μ.2.2.2.2.2.2.2.2.2.2.2.2)) [0, 2, 3, 5]) (rest := []) h hd_X4_copies wm_932 dX4_backable_13 (CX4_copies l D (aμ 4) (aμ 1) 219 219 μ.2.2.2.1 μ.1 z1 e2) [4, 1] [0, 2, 3, 5] rfl rfl (by decide +kernel) rfl ⟨rfl, rfl⟩ ⟨by decide, by decide⟩ (Nat.le_of_ble_eq_true rfl) ⟨by decide, by decide⟩ rfl (fun v w' hp => ?_)
  obtain ⟨rfl, rfl⟩ := hp
  refine J.sub (ws' := mdW D aμ (μ.1, μ.2.1, μ.2.2.1, z1, μ.2.2.2.2.1, μ.2.2.2.2.2.1, (0 : Int32), μ.2.2.2.2.2.2.2.1, μ.2.2.2.2.2.2.2.2.1, μ.2.2.2.2.2.2.2.2.2.1, μ.2.2.2.2.2.2.2.2.2.2.1, μ.2.2.2.2.2.2.2.2.2.2.2.1, μ.2.2.2.2.2.2.2.2.2.2.2.2)) [0, 5, 1, 2, 4, 3] rfl (by decide +kernel) ?_
  refine r_iconst (v := 0) h dX4_backable_16 (by decide) ?_
  refine r_istore_n (lv' := [(1, .int (0 : Int32)), (0, .ref (aμ 0))]) h rfl dX4_backable_17 (by decide) rfl ?_
  have hL18 : ∀ (K : Int32 → MDS → Option (Int32 × MDS)) (hK : ∀ (y4_1 : Int32) (s4_μ : MDS), K y4_1 s4_μ = some (r0, μ0) → J X l rmX4_backable D 2 0 0 (mdW D aμ s4_μ) [(1, .int y4_1), (0, .ref (aμ 0))] 31 []) (N : Nat), ∀ (y4_1 : Int32) (s4_μ : MDS), FX4_backable_L18  K N y4_1 s4_μ = some (r0, μ0) → J X l rmX4_backable D 2 0 0 (mdW D aμ s4_μ) [(1, .int y4_1), (0, .ref (aμ 0))] 18 [] := by
    intro K hK N
    induction N with
    | zero =>
      intro y4_1 s4_μ hF
      cases hF
    | succ N ih =>
      intro y4_1 s4_μ hF
      rw [FX4_backable_L18] at hF
      refine r_aload_n h 1 rfl rfl dX4_backable_18 ?_
      obtain ⟨z5, e6, hF⟩ := o_bind hF
      refine r_callVa (q0 := 0) (rest := []) h hd_X4_backs wm_963 dX4_backable_19 (CX4_backs l D aμ s4_μ z5.1 z5.2 e6) rfl rfl rfl ⟨rfl, rfl⟩ ⟨by decide, by decide⟩ (Nat.le_of_ble_eq_true rfl) ⟨by decide, by decide⟩ rfl (fun v w' hp => ?_)
      obtain ⟨rfl, rfl⟩ := hp
      refine r_if_ne h 31 dX4_backable_22 (by decide) (fun c7 => ?_) (fun c7 => ?_)
      · replace hF := o_neg c7 hF
        exact J.loc (lv' := [(1, .int y4_1), (0, .ref (aμ 0))]) [0, 1] rfl (hK y4_1 z5.2 hF)
      · replace hF := o_pos c7 hF
        refine r_iinc (lv' := [(1, .int (y4_1 + 1)), (0, .ref (aμ 0))]) h 0 rfl (congrArg (fun z => y4_1 + z) (by decide : Int32.ofInt 1 = 1)) dX4_backable_25 (by decide) rfl ?_
        refine r_goto h 18 dX4_backable_28 (by decide) ?_
        exact J.loc (lv' := [(1, .int (y4_1 + 1)), (0, .ref (aμ 0))]) [0, 1] rfl (ih (y4_1 + 1) z5.2 hF)
  refine hL18 _ (fun y4_1 s4_μ hF => ?_) _ (0 : Int32) (μ.1, μ.2.1, μ.2.2.1, z1, μ.2.2.2.2.1, μ.2.2.2.2.2.1, (0 : Int32), μ.2.2.2.2.2.2.2.1, μ.2.2.2.2.2.2.2.2.1, μ.2.2.2.2.2.2.2.2.2.1, μ.2.2.2.2.2.2.2.2.2.2.1, μ.2.2.2.2.2.2.2.2.2.2.2.1, μ.2.2.2.2.2.2.2.2.2.2.2.2) hF
  refine r_aload_n h 1 rfl rfl dX4_backable_31 ?_
  refine r_get h fl_X4_7 0 rfl rfl dX4_backable_32 ?_
  refine r_aload_n h 1 rfl rfl dX4_backable_35 ?_
  refine r_get h fl_X4_19 0 rfl rfl dX4_backable_36 ?_
  obtain ⟨z8, e9, hF⟩ := o_bind hF
  refine r_callS (wr := w_pk (mdW D aμ s4_μ) [0, 2, 3, 5]) (rest := []) h hd_X4_copies wm_932 dX4_backable_39 (CX4_copies l D (aμ 1) (aμ 4) 219 219 s4_μ.1 s4_μ.2.2.2.1 z8 e9) [1, 4] [0, 2, 3, 5] rfl rfl (by decide +kernel) rfl ⟨rfl, rfl⟩ ⟨by decide, by decide⟩ (Nat.le_of_ble_eq_true rfl) ⟨by decide, by decide⟩ rfl (fun v w' hp => ?_)
  obtain ⟨rfl, rfl⟩ := hp
  refine J.sub (ws' := mdW D aμ (z8, s4_μ.2.1, s4_μ.2.2.1, s4_μ.2.2.2.1, s4_μ.2.2.2.2.1, s4_μ.2.2.2.2.2.1, s4_μ.2.2.2.2.2.2.1, s4_μ.2.2.2.2.2.2.2.1, s4_μ.2.2.2.2.2.2.2.2.1, s4_μ.2.2.2.2.2.2.2.2.2.1, s4_μ.2.2.2.2.2.2.2.2.2.2.1, s4_μ.2.2.2.2.2.2.2.2.2.2.2.1, s4_μ.2.2.2.2.2.2.2.2.2.2.2.2)) [0, 4, 1, 2, 5, 3] rfl (by decide +kernel) ?_
  refine r_iload_n h 0 rfl rfl dX4_backable_42 ?_
  cases hF
  exact r_iret h hr dX4_backable_43 ⟨rfl, rfl⟩

def FX4_taken_L9 (μ : MDS) (K : Int32 → Int32 → Option (UInt64 × MDS)) : Nat → Int32 → Int32 → Option (UInt64 × MDS)
  | 0, _, _ => none
  | n + 1, y1_2, y1_1 =>
  if (6 : Int32) ≤ y1_2 then
  (K y1_2 y1_1)
else
  ((FX4_freeSlots (μ.1, μ.2.1, μ.2.2.1, μ.2.2.2.1, μ.2.2.2.2.1, μ.2.2.2.2.2.1, (0 : Int32), μ.2.2.2.2.2.2.2.1, μ.2.2.2.2.2.2.2.2.1, μ.2.2.2.2.2.2.2.2.2.1, μ.2.2.2.2.2.2.2.2.2.2.1, μ.2.2.2.2.2.2.2.2.2.2.2.1, μ.2.2.2.2.2.2.2.2.2.2.2.2) y1_2).bind fun z3 =>
  FX4_taken_L9 μ K n (y1_2 + 1) (y1_1 + z3))
def FX4_taken (μ : MDS) : Option (UInt64 × MDS) :=
  FX4_taken_L9 μ (fun (y1_2 : Int32) (y1_1 : Int32) =>
  gd ((FP.ddiv (FP.i2d ((60 : Int32) - y1_1)) (4633641066610819072 : UInt64)) &&& 0x7fffffffffffffff ≤ 0x7ff0000000000000) (
  some (FP.ddiv (FP.i2d ((60 : Int32) - y1_1)) (4633641066610819072 : UInt64), (μ.1, μ.2.1, μ.2.2.1, μ.2.2.2.1, μ.2.2.2.2.1, μ.2.2.2.2.2.1, (0 : Int32), μ.2.2.2.2.2.2.2.1, μ.2.2.2.2.2.2.2.2.1, μ.2.2.2.2.2.2.2.2.2.1, μ.2.2.2.2.2.2.2.2.2.2.1, μ.2.2.2.2.2.2.2.2.2.2.2.1, μ.2.2.2.2.2.2.2.2.2.2.2.2)))) FU (0 : Int32) (0 : Int32)
abbrev rmX4_taken : Room := { frames := 3, cells := 0, slots := 0, locals := 68 }
set_option maxHeartbeats 4000000 in
set_option maxRecDepth 100000 in
theorem CX4_taken (l : Launch) (D : va_G) (aμ : Nat → Nat) (μ : MDS) (r0 : UInt64) (μ0 : MDS) (hF : FX4_taken μ = some (r0, μ0)) : Ct l D yX4_taken cX4_taken 3 (some .double) rmX4_taken 0 0 [.ref (aμ 0)] (mdW D aμ μ) (fun v w => v = some (.double r0) ∧ w = mdW D aμ μ0) := by
  refine Ct.of (own := RX4) (lv := [(0, .ref (aμ 0))]) (by decide +kernel) rfl (Nat.le_of_ble_eq_true rfl) rfl (fun X h hr => ?_)
  unfold FX4_taken at hF
  refine r_aload_n h 0 rfl rfl dX4_taken_0 ?_
  refine r_iconst (v := 0) h dX4_taken_1 (by decide) ?_
  refine r_put (ws' := mdW D aμ (μ.1, μ.2.1, μ.2.2.1, μ.2.2.2.1, μ.2.2.2.2.1, μ.2.2.2.2.2.1, (0 : Int32), μ.2.2.2.2.2.2.2.1, μ.2.2.2.2.2.2.2.2.1, μ.2.2.2.2.2.2.2.2.2.1, μ.2.2.2.2.2.2.2.2.2.2.1, μ.2.2.2.2.2.2.2.2.2.2.2.1, μ.2.2.2.2.2.2.2.2.2.2.2.2)) h fp_X4_25 0 rfl (Nat.le_of_ble_eq_true rfl) rfl rfl rfl dX4_taken_2 ?_
  refine r_iconst (v := 0) h dX4_taken_5 (by decide) ?_
  refine r_istore_n (lv' := [(1, .int (0 : Int32)), (0, .ref (aμ 0))]) h rfl dX4_taken_6 (by decide) rfl ?_
  refine r_iconst (v := 0) h dX4_taken_7 (by decide) ?_
  refine r_istore_n (lv' := [(2, .int (0 : Int32)), (1, .int (0 : Int32)), (0, .ref (aμ 0))]) h rfl dX4_taken_8 (by decide) rfl ?_
  have hL9 : ∀ (K : Int32 → Int32 → Option (UInt64 × MDS)) (hK : ∀ (y1_2 : Int32) (y1_1 : Int32), K y1_2 y1_1 = some (r0, μ0) → J X l rmX4_taken D 3 0 0 (mdW D aμ (μ.1, μ.2.1, μ.2.2.1, μ.2.2.2.1, μ.2.2.2.2.1, μ.2.2.2.2.2.1, (0 : Int32), μ.2.2.2.2.2.2.2.1, μ.2.2.2.2.2.2.2.2.1, μ.2.2.2.2.2.2.2.2.2.1, μ.2.2.2.2.2.2.2.2.2.2.1, μ.2.2.2.2.2.2.2.2.2.2.2.1, μ.2.2.2.2.2.2.2.2.2.2.2.2)) [(2, .int y1_2), (1, .int y1_1), (0, .ref (aμ 0))] 29 []) (N : Nat), ∀ (y1_2 : Int32) (y1_1 : Int32), FX4_taken_L9 μ K N y1_2 y1_1 = some (r0, μ0) → J X l rmX4_taken D 3 0 0 (mdW D aμ (μ.1, μ.2.1, μ.2.2.1, μ.2.2.2.1, μ.2.2.2.2.1, μ.2.2.2.2.2.1, (0 : Int32), μ.2.2.2.2.2.2.2.1, μ.2.2.2.2.2.2.2.2.1, μ.2.2.2.2.2.2.2.2.2.1, μ.2.2.2.2.2.2.2.2.2.2.1, μ.2.2.2.2.2.2.2.2.2.2.2.1, μ.2.2.2.2.2.2.2.2.2.2.2.2)) [(2, .int y1_2), (1, .int y1_1), (0, .ref (aμ 0))] 9 [] := by
    intro K hK N
    induction N with
    | zero =>
      intro y1_2 y1_1 hF
      cases hF
    | succ N ih =>
      intro y1_2 y1_1 hF
      rw [FX4_taken_L9] at hF
      refine r_iload_n h 0 rfl rfl dX4_taken_9 ?_
      refine r_bipush (v := 6) h dX4_taken_10 (by decide) ?_
      refine r_icmp_ge h 29 dX4_taken_12 (by decide) (fun c2 => ?_) (fun c2 => ?_)
      · replace hF := o_pos c2 hF
        exact J.loc (lv' := [(2, .int y1_2), (1, .int y1_1), (0, .ref (aμ 0))]) [0, 1, 2] rfl (hK y1_2 y1_1 hF)
      · replace hF := o_neg c2 hF
        refine r_iload_n h 1 rfl rfl dX4_taken_15 ?_
        refine r_aload_n h 2 rfl rfl dX4_taken_16 ?_
        refine r_iload_n h 0 rfl rfl dX4_taken_17 ?_
        obtain ⟨z3, e4, hF⟩ := o_bind hF
        refine r_callVa (q0 := 0) (rest := [.int y1_1]) h hd_X4_freeSlots wm_865 dX4_taken_18 (CX4_freeSlots l D aμ (μ.1, μ.2.1, μ.2.2.1, μ.2.2.2.1, μ.2.2.2.2.1, μ.2.2.2.2.2.1, (0 : Int32), μ.2.2.2.2.2.2.2.1, μ.2.2.2.2.2.2.2.2.1, μ.2.2.2.2.2.2.2.2.2.1, μ.2.2.2.2.2.2.2.2.2.2.1, μ.2.2.2.2.2.2.2.2.2.2.2.1, μ.2.2.2.2.2.2.2.2.2.2.2.2) y1_2 z3 e4) rfl rfl rfl ⟨rfl, rfl⟩ ⟨by decide, by decide⟩ (Nat.le_of_ble_eq_true rfl) ⟨by decide, by decide⟩ rfl (fun v w' hp => ?_)
        obtain ⟨rfl, rfl⟩ := hp
        refine r_iadd h dX4_taken_21 ?_
        refine r_istore_n (lv' := [(1, .int (y1_1 + z3)), (2, .int y1_2), (0, .ref (aμ 0))]) h rfl dX4_taken_22 (by decide) rfl ?_
        refine r_iinc (lv' := [(2, .int (y1_2 + 1)), (1, .int (y1_1 + z3)), (0, .ref (aμ 0))]) h 1 rfl (congrArg (fun z => y1_2 + z) (by decide : Int32.ofInt 1 = 1)) dX4_taken_23 (by decide) rfl ?_
        refine r_goto h 9 dX4_taken_26 (by decide) ?_
        exact J.loc (lv' := [(2, .int (y1_2 + 1)), (1, .int (y1_1 + z3)), (0, .ref (aμ 0))]) [0, 1, 2] rfl (ih (y1_2 + 1) (y1_1 + z3) hF)
  refine hL9 _ (fun y1_2 y1_1 hF => ?_) _ (0 : Int32) (0 : Int32) hF
  refine r_bipush (v := 60) h dX4_taken_29 (by decide) ?_
  refine r_iload_n h 1 rfl rfl dX4_taken_31 ?_
  refine r_isub h dX4_taken_32 ?_
  refine r_i2d h dX4_taken_33 ?_
  refine r_ldc2d h wm_999 dX4_taken_34 ?_
  obtain ⟨hN, hF⟩ := o_gd hF
  refine r_ddiv h hN dX4_taken_37 ?_
  cases hF
  exact r_dret h hr dX4_taken_38 ⟨rfl, rfl⟩

def FX4_append_J29 (μ : MDS) (x1 : Int32) (b5_0 : Int32) : Option (Int32 × MDS) :=
  (FX4_refused μ b5_0).bind fun z6 =>
  if z6.1 = 0 then
  (gd (¬ (z6.2.2.2.2.2.2.2.2.1 < 0 ∨ 90 ≤ (z6.2.2.2.2.2.2.2.2.1).toNatClampNeg)) (
  nmv (upd z6.2.2.2.2.2.1 (z6.2.2.2.2.2.2.2.2.1).toNatClampNeg x1) fun fw9 =>
  some (z6.2.2.2.2.2.2.2.2.1 + (1 : Int32), (z6.2.1, z6.2.2.1, z6.2.2.2.1, z6.2.2.2.2.1, fw9, z6.2.2.2.2.2.2.1, z6.2.2.2.2.2.2.2.1, z6.2.2.2.2.2.2.2.2.1 + (1 : Int32), z6.2.2.2.2.2.2.2.2.2.1, z6.2.2.2.2.2.2.2.2.2.2.1, z6.2.2.2.2.2.2.2.2.2.2.2.1, z6.2.2.2.2.2.2.2.2.2.2.2.2.1, z6.2.2.2.2.2.2.2.2.2.2.2.2.2))))
else
  (some ((0 : Int32), z6.2))
def FX4_append (μ : MDS) (x1 : Int32) : Option (Int32 × MDS) :=
  (FX4_in x1 (0 : Int32) (127 : Int32)).bind fun z1 =>
  if z1 = 0 then
  (FX4_append_J29 μ x1 (1 : Int32))
else
  (if μ.2.2.2.2.2.2.2.1 = (90 : Int32) then
  (FX4_append_J29 μ x1 (2 : Int32))
else
  (FX4_append_J29 μ x1 (0 : Int32)))
abbrev rmX4_append : Room := { frames := 1, cells := 0, slots := 0, locals := 22 }
set_option maxHeartbeats 4000000 in
set_option maxRecDepth 100000 in
theorem CX4_append (l : Launch) (D : va_G) (aμ : Nat → Nat) (μ : MDS) (x1 : Int32) (r0 : Int32) (μ0 : MDS) (hF : FX4_append μ x1 = some (r0, μ0)) : Ct l D yX4_append cX4_append 2 (some .int) rmX4_append 0 0 [.ref (aμ 0), .int x1] (mdW D aμ μ) (fun v w => v = some (.int r0) ∧ w = mdW D aμ μ0) := by
  refine Ct.of (own := RX4) (lv := [(0, .ref (aμ 0)), (1, .int x1)]) (by decide +kernel) rfl (Nat.le_of_ble_eq_true rfl) rfl (fun X h hr => ?_)
  unfold FX4_append at hF
  refine r_aload_n h 0 rfl rfl dX4_append_0 ?_
  refine r_iload_n h 1 rfl rfl dX4_append_1 ?_
  refine r_iconst (v := 0) h dX4_append_2 (by decide) ?_
  refine r_bipush (v := 127) h dX4_append_3 (by decide) ?_
  obtain ⟨z1, e2, hF⟩ := o_bind hF
  refine r_callSp (rest := [.ref (aμ 0)]) h hd_X4_in wm_763 dX4_append_5 (CX4_in l D x1 (0 : Int32) (127 : Int32) z1 e2) rfl ⟨rfl, rfl⟩ ⟨by decide, by decide⟩ (Nat.le_of_ble_eq_true rfl) ⟨by decide, by decide⟩ rfl ?_
  have hJ29 : ∀ (b5_0 : Int32), FX4_append_J29 μ x1 b5_0 = some (r0, μ0) → J X l rmX4_append D 2 0 0 (mdW D aμ μ) [(0, .ref (aμ 0)), (1, .int x1)] 29 [.int b5_0, .ref (aμ 0)] := by
    intro b5_0 hF
    unfold FX4_append_J29 at hF
    obtain ⟨z6, e7, hF⟩ := o_bind hF
    refine r_callVa (q0 := 0) (rest := []) h hd_X4_refused wm_752 dX4_append_29 (CX4_refused l D aμ μ b5_0 z6.1 z6.2 e7) rfl rfl rfl ⟨rfl, rfl⟩ ⟨by decide, by decide⟩ (Nat.le_of_ble_eq_true rfl) ⟨by decide, by decide⟩ rfl (fun v w' hp => ?_)
    obtain ⟨rfl, rfl⟩ := hp
    refine r_if_eq h 37 dX4_append_32 (by decide) (fun c8 => ?_) (fun c8 => ?_)
    · replace hF := o_pos c8 hF
      refine r_aload_n h 0 rfl rfl dX4_append_37 ?_
      refine r_get h fl_X4_22 0 rfl rfl dX4_append_38 ?_
      refine r_aload_n h 0 rfl rfl dX4_append_41 ?_
      refine r_get h fl_X4_163 0 rfl rfl dX4_append_42 ?_
      refine r_iload_n h 1 rfl rfl dX4_append_45 ?_
      obtain ⟨hN, hF⟩ := o_gd hF
      obtain ⟨fw9, hfw9, hF⟩ := o_nm hF
      refine r_iast (ws' := mdW D aμ (z6.2.1, z6.2.2.1, z6.2.2.2.1, z6.2.2.2.2.1, fw9, z6.2.2.2.2.2.2.1, z6.2.2.2.2.2.2.2.1, z6.2.2.2.2.2.2.2.2.1, z6.2.2.2.2.2.2.2.2.2.1, z6.2.2.2.2.2.2.2.2.2.2.1, z6.2.2.2.2.2.2.2.2.2.2.2.1, z6.2.2.2.2.2.2.2.2.2.2.2.2.1, z6.2.2.2.2.2.2.2.2.2.2.2.2.2)) h 5 rfl hN (by rw [hfw9]; rfl) dX4_append_46 ?_
      refine r_aload_n h 0 rfl rfl dX4_append_47 ?_
      refine r_dup h rfl dX4_append_48 ?_
      refine r_get h fl_X4_163 0 rfl rfl dX4_append_49 ?_
      refine r_iconst (v := 1) h dX4_append_52 (by decide) ?_
      refine r_iadd h dX4_append_53 ?_
      refine r_put (ws' := mdW D aμ (z6.2.1, z6.2.2.1, z6.2.2.2.1, z6.2.2.2.2.1, fw9, z6.2.2.2.2.2.2.1, z6.2.2.2.2.2.2.2.1, z6.2.2.2.2.2.2.2.2.1 + (1 : Int32), z6.2.2.2.2.2.2.2.2.2.1, z6.2.2.2.2.2.2.2.2.2.2.1, z6.2.2.2.2.2.2.2.2.2.2.2.1, z6.2.2.2.2.2.2.2.2.2.2.2.2.1, z6.2.2.2.2.2.2.2.2.2.2.2.2.2)) h fp_X4_163 0 rfl (Nat.le_of_ble_eq_true rfl) rfl rfl rfl dX4_append_54 ?_
      refine r_aload_n h 0 rfl rfl dX4_append_57 ?_
      refine r_get h fl_X4_163 0 rfl rfl dX4_append_58 ?_
      cases hF
      exact r_iret h hr dX4_append_61 ⟨rfl, rfl⟩
    · replace hF := o_neg c8 hF
      refine r_iconst (v := 0) h dX4_append_35 (by decide) ?_
      cases hF
      exact r_iret h hr dX4_append_36 ⟨rfl, rfl⟩
  refine r_if_ne h 15 dX4_append_8 (by decide) (fun c3 => ?_) (fun c3 => ?_)
  · replace hF := o_neg c3 hF
    refine r_aload_n h 0 rfl rfl dX4_append_15 ?_
    refine r_get h fl_X4_163 0 rfl rfl dX4_append_16 ?_
    refine r_bipush (v := 90) h dX4_append_19 (by decide) ?_
    refine r_icmp_ne h 28 dX4_append_21 (by decide) (fun c4 => ?_) (fun c4 => ?_)
    · replace hF := o_neg c4 hF
      refine r_iconst (v := 0) h dX4_append_28 (by decide) ?_
      exact J.loc (lv' := [(0, .ref (aμ 0)), (1, .int x1)]) [0, 1] rfl (hJ29 (0 : Int32) hF)
    · replace hF := o_pos c4 hF
      refine r_iconst (v := 2) h dX4_append_24 (by decide) ?_
      refine r_goto h 29 dX4_append_25 (by decide) ?_
      exact J.loc (lv' := [(0, .ref (aμ 0)), (1, .int x1)]) [0, 1] rfl (hJ29 (2 : Int32) hF)
  · replace hF := o_pos c3 hF
    refine r_iconst (v := 1) h dX4_append_11 (by decide) ?_
    refine r_goto h 29 dX4_append_12 (by decide) ?_
    exact J.loc (lv' := [(0, .ref (aμ 0)), (1, .int x1)]) [0, 1] rfl (hJ29 (1 : Int32) hF)

def FX4_clearText (μ : MDS) : Option (Int32 × MDS) :=
  some (μ.2.2.2.2.2.2.2.1, (μ.1, μ.2.1, μ.2.2.1, μ.2.2.2.1, μ.2.2.2.2.1, μ.2.2.2.2.2.1, (0 : Int32), (0 : Int32), μ.2.2.2.2.2.2.2.2.1, μ.2.2.2.2.2.2.2.2.2.1, μ.2.2.2.2.2.2.2.2.2.2.1, μ.2.2.2.2.2.2.2.2.2.2.2.1, μ.2.2.2.2.2.2.2.2.2.2.2.2))
abbrev rmX4_clearText : Room := { frames := 0, cells := 0, slots := 0, locals := 0 }
set_option maxHeartbeats 4000000 in
set_option maxRecDepth 100000 in
theorem CX4_clearText (l : Launch) (D : va_G) (aμ : Nat → Nat) (μ : MDS) (r0 : Int32) (μ0 : MDS) (hF : FX4_clearText μ = some (r0, μ0)) : Ct l D yX4_clearText cX4_clearText 2 (some .int) rmX4_clearText 0 0 [.ref (aμ 0)] (mdW D aμ μ) (fun v w => v = some (.int r0) ∧ w = mdW D aμ μ0) := by
  refine Ct.of (own := RX4) (lv := [(0, .ref (aμ 0))]) (by decide +kernel) rfl (Nat.le_of_ble_eq_true rfl) rfl (fun X h hr => ?_)
  unfold FX4_clearText at hF
  refine r_aload_n h 0 rfl rfl dX4_clearText_0 ?_
  refine r_iconst (v := 0) h dX4_clearText_1 (by decide) ?_
  refine r_put (ws' := mdW D aμ (μ.1, μ.2.1, μ.2.2.1, μ.2.2.2.1, μ.2.2.2.2.1, μ.2.2.2.2.2.1, (0 : Int32), μ.2.2.2.2.2.2.2.1, μ.2.2.2.2.2.2.2.2.1, μ.2.2.2.2.2.2.2.2.2.1, μ.2.2.2.2.2.2.2.2.2.2.1, μ.2.2.2.2.2.2.2.2.2.2.2.1, μ.2.2.2.2.2.2.2.2.2.2.2.2)) h fp_X4_25 0 rfl (Nat.le_of_ble_eq_true rfl) rfl rfl rfl dX4_clearText_2 ?_
  refine r_aload_n h 0 rfl rfl dX4_clearText_5 ?_
  refine r_get h fl_X4_163 0 rfl rfl dX4_clearText_6 ?_
  refine r_istore_n (lv' := [(1, .int μ.2.2.2.2.2.2.2.1), (0, .ref (aμ 0))]) h rfl dX4_clearText_9 (by decide) rfl ?_
  refine r_aload_n h 1 rfl rfl dX4_clearText_10 ?_
  refine r_iconst (v := 0) h dX4_clearText_11 (by decide) ?_
  refine r_put (ws' := mdW D aμ (μ.1, μ.2.1, μ.2.2.1, μ.2.2.2.1, μ.2.2.2.2.1, μ.2.2.2.2.2.1, (0 : Int32), (0 : Int32), μ.2.2.2.2.2.2.2.2.1, μ.2.2.2.2.2.2.2.2.2.1, μ.2.2.2.2.2.2.2.2.2.2.1, μ.2.2.2.2.2.2.2.2.2.2.2.1, μ.2.2.2.2.2.2.2.2.2.2.2.2)) h fp_X4_163 0 rfl (Nat.le_of_ble_eq_true rfl) rfl rfl rfl dX4_clearText_12 ?_
  refine r_iload_n h 0 rfl rfl dX4_clearText_15 ?_
  cases hF
  exact r_iret h hr dX4_clearText_16 ⟨rfl, rfl⟩

def FX4_isAt (μ : MDS) (x1 : Int32) (x2 : Int32) : Option (Int32) :=
  if μ.2.2.2.2.2.2.2.1 ≤ μ.2.2.2.2.2.2.2.2.1 then
  (some (0 : Int32))
else
  (gd (¬ (μ.2.2.2.2.2.2.2.2.1 < 0 ∨ 90 ≤ (μ.2.2.2.2.2.2.2.2.1).toNatClampNeg)) (
  nmv (μ.2.2.2.2.1 (μ.2.2.2.2.2.2.2.2.1).toNatClampNeg) fun u2 =>
  (FX4_in u2 x1 x2).bind fun z3 =>
  if z3 = 0 then
  (some (0 : Int32))
else
  (some (1 : Int32))))
abbrev rmX4_isAt : Room := { frames := 1, cells := 0, slots := 0, locals := 22 }
set_option maxHeartbeats 4000000 in
set_option maxRecDepth 100000 in
theorem CX4_isAt (l : Launch) (D : va_G) (aμ : Nat → Nat) (μ : MDS) (x1 : Int32) (x2 : Int32) (r0 : Int32) (hF : FX4_isAt μ x1 x2 = some r0) : Ct l D yX4_isAt cX4_isAt 3 (some .boolean) rmX4_isAt 0 0 [.ref (aμ 0), .int x1, .int x2] (mdW D aμ μ) (fun v w => v = some (.int r0) ∧ w = mdW D aμ μ) := by
  refine Ct.of (own := RX4) (lv := [(0, .ref (aμ 0)), (1, .int x1), (2, .int x2)]) (by decide +kernel) rfl (Nat.le_of_ble_eq_true rfl) rfl (fun X h hr => ?_)
  unfold FX4_isAt at hF
  refine r_aload_n h 0 rfl rfl dX4_isAt_0 ?_
  refine r_get h fl_X4_166 0 rfl rfl dX4_isAt_1 ?_
  refine r_aload_n h 0 rfl rfl dX4_isAt_4 ?_
  refine r_get h fl_X4_163 0 rfl rfl dX4_isAt_5 ?_
  refine r_icmp_ge h 32 dX4_isAt_8 (by decide) (fun c1 => ?_) (fun c1 => ?_)
  · replace hF := o_pos c1 hF
    refine r_iconst (v := 0) h dX4_isAt_32 (by decide) ?_
    cases hF
    exact r_zret h hr (Or.inl rfl) dX4_isAt_33 ⟨rfl, rfl⟩
  · replace hF := o_neg c1 hF
    refine r_aload_n h 0 rfl rfl dX4_isAt_11 ?_
    refine r_get h fl_X4_22 0 rfl rfl dX4_isAt_12 ?_
    refine r_aload_n h 0 rfl rfl dX4_isAt_15 ?_
    refine r_get h fl_X4_166 0 rfl rfl dX4_isAt_16 ?_
    obtain ⟨hN, hF⟩ := o_gd hF
    refine r_iald h 5 rfl hN dX4_isAt_19 ?_
    obtain ⟨u2, hu2, hF⟩ := o_nm hF
    refine J.top hu2 ?_
    refine r_iload_n h 1 rfl rfl dX4_isAt_20 ?_
    refine r_iload_n h 2 rfl rfl dX4_isAt_21 ?_
    obtain ⟨z3, e4, hF⟩ := o_bind hF
    refine r_callSp (rest := []) h hd_X4_in wm_763 dX4_isAt_22 (CX4_in l D u2 x1 x2 z3 e4) rfl ⟨rfl, rfl⟩ ⟨by decide, by decide⟩ (Nat.le_of_ble_eq_true rfl) ⟨by decide, by decide⟩ rfl ?_
    refine r_if_eq h 32 dX4_isAt_25 (by decide) (fun c5 => ?_) (fun c5 => ?_)
    · replace hF := o_pos c5 hF
      refine r_iconst (v := 0) h dX4_isAt_32 (by decide) ?_
      cases hF
      exact r_zret h hr (Or.inl rfl) dX4_isAt_33 ⟨rfl, rfl⟩
    · replace hF := o_neg c5 hF
      refine r_iconst (v := 1) h dX4_isAt_28 (by decide) ?_
      refine r_goto h 33 dX4_isAt_29 (by decide) ?_
      cases hF
      exact r_zret h hr (Or.inr rfl) dX4_isAt_33 ⟨rfl, rfl⟩

def FX4_takes (μ : MDS) (x1 : Int32) : Option (Int32 × MDS) :=
  (FX4_isAt μ x1 x1).bind fun z1 =>
  if z1 = 0 then
  (gd (z1 = 0 ∨ z1 = 1) (
  some (z1, (μ.1, μ.2.1, μ.2.2.1, μ.2.2.2.1, μ.2.2.2.2.1, μ.2.2.2.2.2.1, μ.2.2.2.2.2.2.1, μ.2.2.2.2.2.2.2.1, μ.2.2.2.2.2.2.2.2.1 + (0 : Int32), μ.2.2.2.2.2.2.2.2.2.1, μ.2.2.2.2.2.2.2.2.2.2.1, μ.2.2.2.2.2.2.2.2.2.2.2.1, μ.2.2.2.2.2.2.2.2.2.2.2.2))))
else
  (gd (z1 = 0 ∨ z1 = 1) (
  some (z1, (μ.1, μ.2.1, μ.2.2.1, μ.2.2.2.1, μ.2.2.2.2.1, μ.2.2.2.2.2.1, μ.2.2.2.2.2.2.1, μ.2.2.2.2.2.2.2.1, μ.2.2.2.2.2.2.2.2.1 + (1 : Int32), μ.2.2.2.2.2.2.2.2.2.1, μ.2.2.2.2.2.2.2.2.2.2.1, μ.2.2.2.2.2.2.2.2.2.2.2.1, μ.2.2.2.2.2.2.2.2.2.2.2.2))))
abbrev rmX4_takes : Room := { frames := 2, cells := 0, slots := 0, locals := 44 }
set_option maxHeartbeats 4000000 in
set_option maxRecDepth 100000 in
theorem CX4_takes (l : Launch) (D : va_G) (aμ : Nat → Nat) (μ : MDS) (x1 : Int32) (r0 : Int32) (μ0 : MDS) (hF : FX4_takes μ x1 = some (r0, μ0)) : Ct l D yX4_takes cX4_takes 3 (some .boolean) rmX4_takes 0 0 [.ref (aμ 0), .int x1] (mdW D aμ μ) (fun v w => v = some (.int r0) ∧ w = mdW D aμ μ0) := by
  refine Ct.of (own := RX4) (lv := [(0, .ref (aμ 0)), (1, .int x1)]) (by decide +kernel) rfl (Nat.le_of_ble_eq_true rfl) rfl (fun X h hr => ?_)
  unfold FX4_takes at hF
  refine r_aload_n h 0 rfl rfl dX4_takes_0 ?_
  refine r_iload_n h 1 rfl rfl dX4_takes_1 ?_
  refine r_iload_n h 1 rfl rfl dX4_takes_2 ?_
  obtain ⟨z1, e2, hF⟩ := o_bind hF
  refine r_callVa (q0 := 0) (rest := []) h hd_X4_isAt wm_1020 dX4_takes_3 (CX4_isAt l D aμ μ x1 x1 z1 e2) rfl rfl rfl ⟨rfl, rfl⟩ ⟨by decide, by decide⟩ (Nat.le_of_ble_eq_true rfl) ⟨by decide, by decide⟩ rfl (fun v w' hp => ?_)
  obtain ⟨rfl, rfl⟩ := hp
  refine r_istore_n (lv' := [(2, .int z1), (0, .ref (aμ 0)), (1, .int x1)]) h rfl dX4_takes_6 (by decide) rfl ?_
  refine r_aload_n h 1 rfl rfl dX4_takes_7 ?_
  refine r_dup h rfl dX4_takes_8 ?_
  refine r_get h fl_X4_166 0 rfl rfl dX4_takes_9 ?_
  refine r_iload_n h 0 rfl rfl dX4_takes_12 ?_
  refine r_if_eq h 20 dX4_takes_13 (by decide) (fun c3 => ?_) (fun c3 => ?_)
  · replace hF := o_pos c3 hF
    refine r_iconst (v := 0) h dX4_takes_20 (by decide) ?_
    refine r_iadd h dX4_takes_21 ?_
    refine r_put (ws' := mdW D aμ (μ.1, μ.2.1, μ.2.2.1, μ.2.2.2.1, μ.2.2.2.2.1, μ.2.2.2.2.2.1, μ.2.2.2.2.2.2.1, μ.2.2.2.2.2.2.2.1, μ.2.2.2.2.2.2.2.2.1 + (0 : Int32), μ.2.2.2.2.2.2.2.2.2.1, μ.2.2.2.2.2.2.2.2.2.2.1, μ.2.2.2.2.2.2.2.2.2.2.2.1, μ.2.2.2.2.2.2.2.2.2.2.2.2)) h fp_X4_166 0 rfl (Nat.le_of_ble_eq_true rfl) rfl rfl rfl dX4_takes_22 ?_
    refine r_iload_n h 0 rfl rfl dX4_takes_25 ?_
    obtain ⟨hN, hF⟩ := o_gd hF
    cases hF
    exact r_zret h hr hN dX4_takes_26 ⟨rfl, rfl⟩
  · replace hF := o_neg c3 hF
    refine r_iconst (v := 1) h dX4_takes_16 (by decide) ?_
    refine r_goto h 21 dX4_takes_17 (by decide) ?_
    refine r_iadd h dX4_takes_21 ?_
    refine r_put (ws' := mdW D aμ (μ.1, μ.2.1, μ.2.2.1, μ.2.2.2.1, μ.2.2.2.2.1, μ.2.2.2.2.2.1, μ.2.2.2.2.2.2.1, μ.2.2.2.2.2.2.2.1, μ.2.2.2.2.2.2.2.2.1 + (1 : Int32), μ.2.2.2.2.2.2.2.2.2.1, μ.2.2.2.2.2.2.2.2.2.2.1, μ.2.2.2.2.2.2.2.2.2.2.2.1, μ.2.2.2.2.2.2.2.2.2.2.2.2)) h fp_X4_166 0 rfl (Nat.le_of_ble_eq_true rfl) rfl rfl rfl dX4_takes_22 ?_
    refine r_iload_n h 0 rfl rfl dX4_takes_25 ?_
    obtain ⟨hN, hF⟩ := o_gd hF
    cases hF
    exact r_zret h hr hN dX4_takes_26 ⟨rfl, rfl⟩

def FX4_takesMachine_L10 (μ : MDS) (K : MDS → Option (Int32 × MDS)) : Nat → MDS → Option (Int32 × MDS)
  | 0, _ => none
  | n + 1, s2_μ =>
  (FX4_isAt s2_μ (48 : Int32) (57 : Int32)).bind fun z3 =>
  if z3 = 0 then
  (K s2_μ)
else
  (if (μ.2.2.2.2.2.2.2.2.1 + (2 : Int32)) ≤ s2_μ.2.2.2.2.2.2.2.2.1 then
  (K s2_μ)
else
  (nmv ((10 : Int32) * s2_μ.2.2.2.2.2.2.2.2.2.2.1) fun u7 =>
  gd (¬ (s2_μ.2.2.2.2.2.2.2.2.1 < 0 ∨ 90 ≤ (s2_μ.2.2.2.2.2.2.2.2.1).toNatClampNeg)) (
  nmv (s2_μ.2.2.2.2.1 (s2_μ.2.2.2.2.2.2.2.2.1).toNatClampNeg) fun u8 =>
  nmv (s2_μ.2.2.2.2.2.2.2.2.1 + (1 : Int32)) fun u9 =>
  FX4_takesMachine_L10 μ K n (s2_μ.1, s2_μ.2.1, s2_μ.2.2.1, s2_μ.2.2.2.1, s2_μ.2.2.2.2.1, s2_μ.2.2.2.2.2.1, s2_μ.2.2.2.2.2.2.1, s2_μ.2.2.2.2.2.2.2.1, u9, s2_μ.2.2.2.2.2.2.2.2.2.1, (u7 + u8) - (48 : Int32), s2_μ.2.2.2.2.2.2.2.2.2.2.2.1, s2_μ.2.2.2.2.2.2.2.2.2.2.2.2))))
def FX4_takesMachine (μ : MDS) : Option (Int32 × MDS) :=
  FX4_takesMachine_L10 μ (fun (s2_μ : MDS) =>
  if s2_μ.2.2.2.2.2.2.2.2.1 = μ.2.2.2.2.2.2.2.2.1 then
  (some ((0 : Int32), s2_μ))
else
  ((FX4_isAt s2_μ (48 : Int32) (57 : Int32)).bind fun z11 =>
  if z11 = 0 then
  ((FX4_isMachine s2_μ s2_μ.2.2.2.2.2.2.2.2.2.2.1).bind fun z14 =>
  if z14 = 0 then
  (gd (z14 = 0 ∨ z14 = 1) (
  some (z14, (s2_μ.1, s2_μ.2.1, s2_μ.2.2.1, s2_μ.2.2.2.1, s2_μ.2.2.2.2.1, s2_μ.2.2.2.2.2.1, s2_μ.2.2.2.2.2.2.1, s2_μ.2.2.2.2.2.2.2.1, μ.2.2.2.2.2.2.2.2.1, s2_μ.2.2.2.2.2.2.2.2.2.1, s2_μ.2.2.2.2.2.2.2.2.2.2.1, s2_μ.2.2.2.2.2.2.2.2.2.2.2.1, s2_μ.2.2.2.2.2.2.2.2.2.2.2.2))))
else
  (gd (z14 = 0 ∨ z14 = 1) (
  some (z14, (s2_μ.1, s2_μ.2.1, s2_μ.2.2.1, s2_μ.2.2.2.1, s2_μ.2.2.2.2.1, s2_μ.2.2.2.2.2.1, s2_μ.2.2.2.2.2.2.1, s2_μ.2.2.2.2.2.2.2.1, s2_μ.2.2.2.2.2.2.2.2.1, s2_μ.2.2.2.2.2.2.2.2.2.1, s2_μ.2.2.2.2.2.2.2.2.2.2.1, s2_μ.2.2.2.2.2.2.2.2.2.2.2.1, s2_μ.2.2.2.2.2.2.2.2.2.2.2.2)))))
else
  (some ((0 : Int32), s2_μ)))) FU (μ.1, μ.2.1, μ.2.2.1, μ.2.2.2.1, μ.2.2.2.2.1, μ.2.2.2.2.2.1, μ.2.2.2.2.2.2.1, μ.2.2.2.2.2.2.2.1, μ.2.2.2.2.2.2.2.2.1, μ.2.2.2.2.2.2.2.2.2.1, (0 : Int32), μ.2.2.2.2.2.2.2.2.2.2.2.1, μ.2.2.2.2.2.2.2.2.2.2.2.2)
abbrev rmX4_takesMachine : Room := { frames := 2, cells := 0, slots := 0, locals := 44 }
set_option maxHeartbeats 4000000 in
set_option maxRecDepth 100000 in
theorem CX4_takesMachine (l : Launch) (D : va_G) (aμ : Nat → Nat) (μ : MDS) (r0 : Int32) (μ0 : MDS) (hF : FX4_takesMachine μ = some (r0, μ0)) : Ct l D yX4_takesMachine cX4_takesMachine 3 (some .boolean) rmX4_takesMachine 0 0 [.ref (aμ 0)] (mdW D aμ μ) (fun v w => v = some (.int r0) ∧ w = mdW D aμ μ0) := by
  refine Ct.of (own := RX4) (lv := [(0, .ref (aμ 0))]) (by decide +kernel) rfl (Nat.le_of_ble_eq_true rfl) rfl (fun X h hr => ?_)
  unfold FX4_takesMachine at hF
  refine r_aload_n h 0 rfl rfl dX4_takesMachine_0 ?_
  refine r_get h fl_X4_166 0 rfl rfl dX4_takesMachine_1 ?_
  refine r_istore_n (lv' := [(1, .int μ.2.2.2.2.2.2.2.2.1), (0, .ref (aμ 0))]) h rfl dX4_takesMachine_4 (by decide) rfl ?_
  refine r_aload_n h 1 rfl rfl dX4_takesMachine_5 ?_
  refine r_iconst (v := 0) h dX4_takesMachine_6 (by decide) ?_
  refine r_put (ws' := mdW D aμ (μ.1, μ.2.1, μ.2.2.1, μ.2.2.2.1, μ.2.2.2.2.1, μ.2.2.2.2.2.1, μ.2.2.2.2.2.2.1, μ.2.2.2.2.2.2.2.1, μ.2.2.2.2.2.2.2.2.1, μ.2.2.2.2.2.2.2.2.2.1, (0 : Int32), μ.2.2.2.2.2.2.2.2.2.2.2.1, μ.2.2.2.2.2.2.2.2.2.2.2.2)) h fp_X4_173 0 rfl (Nat.le_of_ble_eq_true rfl) rfl rfl rfl dX4_takesMachine_7 ?_
  have hL10 : ∀ (K : MDS → Option (Int32 × MDS)) (hK : ∀ (s2_μ : MDS), K s2_μ = some (r0, μ0) → J X l rmX4_takesMachine D 3 0 0 (mdW D aμ s2_μ) [(1, .int μ.2.2.2.2.2.2.2.2.1), (0, .ref (aμ 0))] 68 []) (N : Nat), ∀ (s2_μ : MDS), FX4_takesMachine_L10 μ K N s2_μ = some (r0, μ0) → J X l rmX4_takesMachine D 3 0 0 (mdW D aμ s2_μ) [(1, .int μ.2.2.2.2.2.2.2.2.1), (0, .ref (aμ 0))] 10 [] := by
    intro K hK N
    induction N with
    | zero =>
      intro s2_μ hF
      cases hF
    | succ N ih =>
      intro s2_μ hF
      rw [FX4_takesMachine_L10] at hF
      refine r_aload_n h 1 rfl rfl dX4_takesMachine_10 ?_
      refine r_bipush (v := 48) h dX4_takesMachine_11 (by decide) ?_
      refine r_bipush (v := 57) h dX4_takesMachine_13 (by decide) ?_
      obtain ⟨z3, e4, hF⟩ := o_bind hF
      refine r_callVa (q0 := 0) (rest := []) h hd_X4_isAt wm_1020 dX4_takesMachine_15 (CX4_isAt l D aμ s2_μ (48 : Int32) (57 : Int32) z3 e4) rfl rfl rfl ⟨rfl, rfl⟩ ⟨by decide, by decide⟩ (Nat.le_of_ble_eq_true rfl) ⟨by decide, by decide⟩ rfl (fun v w' hp => ?_)
      obtain ⟨rfl, rfl⟩ := hp
      refine r_if_eq h 68 dX4_takesMachine_18 (by decide) (fun c5 => ?_) (fun c5 => ?_)
      · replace hF := o_pos c5 hF
        exact J.loc (lv' := [(1, .int μ.2.2.2.2.2.2.2.2.1), (0, .ref (aμ 0))]) [0, 1] rfl (hK s2_μ hF)
      · replace hF := o_neg c5 hF
        refine r_aload_n h 1 rfl rfl dX4_takesMachine_21 ?_
        refine r_get h fl_X4_166 0 rfl rfl dX4_takesMachine_22 ?_
        refine r_iload_n h 0 rfl rfl dX4_takesMachine_25 ?_
        refine r_iconst (v := 2) h dX4_takesMachine_26 (by decide) ?_
        refine r_iadd h dX4_takesMachine_27 ?_
        refine r_icmp_ge h 68 dX4_takesMachine_28 (by decide) (fun c6 => ?_) (fun c6 => ?_)
        · replace hF := o_pos c6 hF
          exact J.loc (lv' := [(1, .int μ.2.2.2.2.2.2.2.2.1), (0, .ref (aμ 0))]) [0, 1] rfl (hK s2_μ hF)
        · replace hF := o_neg c6 hF
          refine r_aload_n h 1 rfl rfl dX4_takesMachine_31 ?_
          refine r_bipush (v := 10) h dX4_takesMachine_32 (by decide) ?_
          refine r_aload_n h 1 rfl rfl dX4_takesMachine_34 ?_
          refine r_get h fl_X4_173 0 rfl rfl dX4_takesMachine_35 ?_
          refine r_imul h dX4_takesMachine_38 ?_
          obtain ⟨u7, hu7, hF⟩ := o_nm hF
          refine J.top hu7 ?_
          refine r_aload_n h 1 rfl rfl dX4_takesMachine_39 ?_
          refine r_get h fl_X4_22 0 rfl rfl dX4_takesMachine_40 ?_
          refine r_aload_n h 1 rfl rfl dX4_takesMachine_43 ?_
          refine r_get h fl_X4_166 0 rfl rfl dX4_takesMachine_44 ?_
          obtain ⟨hN, hF⟩ := o_gd hF
          refine r_iald h 5 rfl hN dX4_takesMachine_47 ?_
          obtain ⟨u8, hu8, hF⟩ := o_nm hF
          refine J.top hu8 ?_
          refine r_iadd h dX4_takesMachine_48 ?_
          refine r_bipush (v := 48) h dX4_takesMachine_49 (by decide) ?_
          refine r_isub h dX4_takesMachine_51 ?_
          refine r_put (ws' := mdW D aμ (s2_μ.1, s2_μ.2.1, s2_μ.2.2.1, s2_μ.2.2.2.1, s2_μ.2.2.2.2.1, s2_μ.2.2.2.2.2.1, s2_μ.2.2.2.2.2.2.1, s2_μ.2.2.2.2.2.2.2.1, s2_μ.2.2.2.2.2.2.2.2.1, s2_μ.2.2.2.2.2.2.2.2.2.1, (u7 + u8) - (48 : Int32), s2_μ.2.2.2.2.2.2.2.2.2.2.2.1, s2_μ.2.2.2.2.2.2.2.2.2.2.2.2)) h fp_X4_173 0 rfl (Nat.le_of_ble_eq_true rfl) rfl rfl rfl dX4_takesMachine_52 ?_
          refine r_aload_n h 1 rfl rfl dX4_takesMachine_55 ?_
          refine r_dup h rfl dX4_takesMachine_56 ?_
          refine r_get h fl_X4_166 0 rfl rfl dX4_takesMachine_57 ?_
          refine r_iconst (v := 1) h dX4_takesMachine_60 (by decide) ?_
          refine r_iadd h dX4_takesMachine_61 ?_
          obtain ⟨u9, hu9, hF⟩ := o_nm hF
          refine J.top hu9 ?_
          refine r_put (ws' := mdW D aμ (s2_μ.1, s2_μ.2.1, s2_μ.2.2.1, s2_μ.2.2.2.1, s2_μ.2.2.2.2.1, s2_μ.2.2.2.2.2.1, s2_μ.2.2.2.2.2.2.1, s2_μ.2.2.2.2.2.2.2.1, u9, s2_μ.2.2.2.2.2.2.2.2.2.1, (u7 + u8) - (48 : Int32), s2_μ.2.2.2.2.2.2.2.2.2.2.2.1, s2_μ.2.2.2.2.2.2.2.2.2.2.2.2)) h fp_X4_166 0 rfl (Nat.le_of_ble_eq_true rfl) rfl rfl rfl dX4_takesMachine_62 ?_
          refine r_goto h 10 dX4_takesMachine_65 (by decide) ?_
          exact J.loc (lv' := [(1, .int μ.2.2.2.2.2.2.2.2.1), (0, .ref (aμ 0))]) [0, 1] rfl (ih (s2_μ.1, s2_μ.2.1, s2_μ.2.2.1, s2_μ.2.2.2.1, s2_μ.2.2.2.2.1, s2_μ.2.2.2.2.2.1, s2_μ.2.2.2.2.2.2.1, s2_μ.2.2.2.2.2.2.2.1, u9, s2_μ.2.2.2.2.2.2.2.2.2.1, (u7 + u8) - (48 : Int32), s2_μ.2.2.2.2.2.2.2.2.2.2.2.1, s2_μ.2.2.2.2.2.2.2.2.2.2.2.2) hF)
  refine hL10 _ (fun s2_μ hF => ?_) _ (μ.1, μ.2.1, μ.2.2.1, μ.2.2.2.1, μ.2.2.2.2.1, μ.2.2.2.2.2.1, μ.2.2.2.2.2.2.1, μ.2.2.2.2.2.2.2.1, μ.2.2.2.2.2.2.2.2.1, μ.2.2.2.2.2.2.2.2.2.1, (0 : Int32), μ.2.2.2.2.2.2.2.2.2.2.2.1, μ.2.2.2.2.2.2.2.2.2.2.2.2) hF
  refine r_aload_n h 1 rfl rfl dX4_takesMachine_68 ?_
  refine r_get h fl_X4_166 0 rfl rfl dX4_takesMachine_69 ?_
  refine r_iload_n h 0 rfl rfl dX4_takesMachine_72 ?_
  refine r_icmp_eq h 87 dX4_takesMachine_73 (by decide) (fun c10 => ?_) (fun c10 => ?_)
  · replace hF := o_pos c10 hF
    refine r_iconst (v := 0) h dX4_takesMachine_87 (by decide) ?_
    cases hF
    exact r_zret h hr (Or.inl rfl) dX4_takesMachine_88 ⟨rfl, rfl⟩
  · replace hF := o_neg c10 hF
    refine r_aload_n h 1 rfl rfl dX4_takesMachine_76 ?_
    refine r_bipush (v := 48) h dX4_takesMachine_77 (by decide) ?_
    refine r_bipush (v := 57) h dX4_takesMachine_79 (by decide) ?_
    obtain ⟨z11, e12, hF⟩ := o_bind hF
    refine r_callVa (q0 := 0) (rest := []) h hd_X4_isAt wm_1020 dX4_takesMachine_81 (CX4_isAt l D aμ s2_μ (48 : Int32) (57 : Int32) z11 e12) rfl rfl rfl ⟨rfl, rfl⟩ ⟨by decide, by decide⟩ (Nat.le_of_ble_eq_true rfl) ⟨by decide, by decide⟩ rfl (fun v w' hp => ?_)
    obtain ⟨rfl, rfl⟩ := hp
    refine r_if_eq h 89 dX4_takesMachine_84 (by decide) (fun c13 => ?_) (fun c13 => ?_)
    · replace hF := o_pos c13 hF
      refine r_aload_n h 1 rfl rfl dX4_takesMachine_89 ?_
      refine r_aload_n h 1 rfl rfl dX4_takesMachine_90 ?_
      refine r_get h fl_X4_173 0 rfl rfl dX4_takesMachine_91 ?_
      obtain ⟨z14, e15, hF⟩ := o_bind hF
      refine r_callVa (q0 := 0) (rest := []) h hd_X4_isMachine wm_797 dX4_takesMachine_94 (CX4_isMachine l D aμ s2_μ s2_μ.2.2.2.2.2.2.2.2.2.2.1 z14 e15) rfl rfl rfl ⟨rfl, rfl⟩ ⟨by decide, by decide⟩ (Nat.le_of_ble_eq_true rfl) ⟨by decide, by decide⟩ rfl (fun v w' hp => ?_)
      obtain ⟨rfl, rfl⟩ := hp
      refine r_istore_n (lv' := [(2, .int z14), (1, .int μ.2.2.2.2.2.2.2.2.1), (0, .ref (aμ 0))]) h rfl dX4_takesMachine_97 (by decide) rfl ?_
      refine r_aload_n h 2 rfl rfl dX4_takesMachine_98 ?_
      refine r_iload_n h 0 rfl rfl dX4_takesMachine_99 ?_
      refine r_if_eq h 110 dX4_takesMachine_100 (by decide) (fun c16 => ?_) (fun c16 => ?_)
      · replace hF := o_pos c16 hF
        refine r_iload_n h 1 rfl rfl dX4_takesMachine_110 ?_
        refine r_put (ws' := mdW D aμ (s2_μ.1, s2_μ.2.1, s2_μ.2.2.1, s2_μ.2.2.2.1, s2_μ.2.2.2.2.1, s2_μ.2.2.2.2.2.1, s2_μ.2.2.2.2.2.2.1, s2_μ.2.2.2.2.2.2.2.1, μ.2.2.2.2.2.2.2.2.1, s2_μ.2.2.2.2.2.2.2.2.2.1, s2_μ.2.2.2.2.2.2.2.2.2.2.1, s2_μ.2.2.2.2.2.2.2.2.2.2.2.1, s2_μ.2.2.2.2.2.2.2.2.2.2.2.2)) h fp_X4_166 0 rfl (Nat.le_of_ble_eq_true rfl) rfl rfl rfl dX4_takesMachine_111 ?_
        refine r_iload_n h 0 rfl rfl dX4_takesMachine_114 ?_
        obtain ⟨hN, hF⟩ := o_gd hF
        cases hF
        exact r_zret h hr hN dX4_takesMachine_115 ⟨rfl, rfl⟩
      · replace hF := o_neg c16 hF
        refine r_aload_n h 2 rfl rfl dX4_takesMachine_103 ?_
        refine r_get h fl_X4_166 0 rfl rfl dX4_takesMachine_104 ?_
        refine r_goto h 111 dX4_takesMachine_107 (by decide) ?_
        refine r_put (ws' := mdW D aμ (s2_μ.1, s2_μ.2.1, s2_μ.2.2.1, s2_μ.2.2.2.1, s2_μ.2.2.2.2.1, s2_μ.2.2.2.2.2.1, s2_μ.2.2.2.2.2.2.1, s2_μ.2.2.2.2.2.2.2.1, s2_μ.2.2.2.2.2.2.2.2.1, s2_μ.2.2.2.2.2.2.2.2.2.1, s2_μ.2.2.2.2.2.2.2.2.2.2.1, s2_μ.2.2.2.2.2.2.2.2.2.2.2.1, s2_μ.2.2.2.2.2.2.2.2.2.2.2.2)) h fp_X4_166 0 rfl (Nat.le_of_ble_eq_true rfl) rfl rfl rfl dX4_takesMachine_111 ?_
        refine r_iload_n h 0 rfl rfl dX4_takesMachine_114 ?_
        obtain ⟨hN, hF⟩ := o_gd hF
        cases hF
        exact r_zret h hr hN dX4_takesMachine_115 ⟨rfl, rfl⟩
    · replace hF := o_neg c13 hF
      refine r_iconst (v := 0) h dX4_takesMachine_87 (by decide) ?_
      cases hF
      exact r_zret h hr (Or.inl rfl) dX4_takesMachine_88 ⟨rfl, rfl⟩

def FX4_reads_J124 (t22_μ : MDS) (b29_0 : Int32) (b29_1 : Int32) : Option (Int32 × MDS) :=
  (FX4_isAt t22_μ b29_1 b29_0).bind fun z30 =>
  if z30 = 0 then
  (some ((0 : Int32), t22_μ))
else
  (gd (¬ (t22_μ.2.2.2.2.2.2.2.2.1 < 0 ∨ 90 ≤ (t22_μ.2.2.2.2.2.2.2.2.1).toNatClampNeg)) (
  nmv (t22_μ.2.2.2.2.1 (t22_μ.2.2.2.2.2.2.2.2.1).toNatClampNeg) fun u33 =>
  nmv (t22_μ.2.2.2.2.2.2.2.2.1 + (1 : Int32)) fun u34 =>
  (FX4_takes (t22_μ.1, t22_μ.2.1, t22_μ.2.2.1, t22_μ.2.2.2.1, t22_μ.2.2.2.2.1, t22_μ.2.2.2.2.2.1, t22_μ.2.2.2.2.2.2.1, t22_μ.2.2.2.2.2.2.2.1, u34, t22_μ.2.2.2.2.2.2.2.2.2.1, t22_μ.2.2.2.2.2.2.2.2.2.2.1, u33 - (48 : Int32), t22_μ.2.2.2.2.2.2.2.2.2.2.2.2) (59 : Int32)).bind fun z35 =>
  gd (z35.1 = 0 ∨ z35.1 = 1) (
  some (z35.1, z35.2))))
def FX4_reads_J106 (t22_μ : MDS) : Option (Int32 × MDS) :=
  if t22_μ.2.2.2.2.2.2.2.2.2.1 = (1 : Int32) then
  (FX4_reads_J124 t22_μ (53 : Int32) (48 : Int32))
else
  (FX4_reads_J124 t22_μ (50 : Int32) (48 : Int32))
def FX4_reads_J59 (t11_μ : MDS) : Option (Int32 × MDS) :=
  (FX4_takesMachine t11_μ).bind fun z15 =>
  if z15.1 = 0 then
  (some ((0 : Int32), z15.2))
else
  ((FX4_takes z15.2 (62 : Int32)).bind fun z18 =>
  if z18.1 = 0 then
  (some ((0 : Int32), z18.2))
else
  (if z18.2.2.2.2.2.2.2.2.2.2.1 = (1 : Int32) then
  ((FX4_takes z18.2 (115 : Int32)).bind fun z23 =>
  if z23.1 = 0 then
  (FX4_reads_J106  z23.2)
else
  ((FX4_takes (z23.2.1, z23.2.2.1, z23.2.2.2.1, z23.2.2.2.2.1, z23.2.2.2.2.2.1, z23.2.2.2.2.2.2.1, z23.2.2.2.2.2.2.2.1, z23.2.2.2.2.2.2.2.2.1, z23.2.2.2.2.2.2.2.2.2.1, z23.2.2.2.2.2.2.2.2.2.2.1, z23.2.2.2.2.2.2.2.2.2.2.2.1, (-1 : Int32), z23.2.2.2.2.2.2.2.2.2.2.2.2.2) (59 : Int32)).bind fun z26 =>
  gd (z26.1 = 0 ∨ z26.1 = 1) (
  some (z26.1, z26.2))))
else
  (FX4_reads_J106  z18.2)))
def FX4_reads_J38 (z1 : Int32 × MDS) (b7_0 : Int32) : Option (Int32 × MDS) :=
  (FX4_takes (z1.2.1, z1.2.2.1, z1.2.2.2.1, z1.2.2.2.2.1, z1.2.2.2.2.2.1, z1.2.2.2.2.2.2.1, z1.2.2.2.2.2.2.2.1, z1.2.2.2.2.2.2.2.2.1, z1.2.2.2.2.2.2.2.2.2.1, b7_0, z1.2.2.2.2.2.2.2.2.2.2.2.1, z1.2.2.2.2.2.2.2.2.2.2.2.2.1, z1.2.2.2.2.2.2.2.2.2.2.2.2.2) (109 : Int32)).bind fun z8 =>
  if z8.1 = 0 then
  ((FX4_takes z8.2 (112 : Int32)).bind fun z12 =>
  if z12.1 = 0 then
  (some ((0 : Int32), z12.2))
else
  (FX4_reads_J59  z12.2))
else
  (FX4_reads_J59  z8.2)
def FX4_reads (μ : MDS) : Option (Int32 × MDS) :=
  (FX4_takes μ (104 : Int32)).bind fun z1 =>
  if z1.1 = 0 then
  ((FX4_isAt z1.2 (109 : Int32) (109 : Int32)).bind fun z4 =>
  if z4 = 0 then
  (FX4_reads_J38 z1 (2 : Int32))
else
  (FX4_reads_J38 z1 (1 : Int32)))
else
  ((FX4_takes (z1.2.1, z1.2.2.1, z1.2.2.2.1, z1.2.2.2.2.1, z1.2.2.2.2.2.1, z1.2.2.2.2.2.2.1, z1.2.2.2.2.2.2.2.1, z1.2.2.2.2.2.2.2.2.1, z1.2.2.2.2.2.2.2.2.2.1, (0 : Int32), z1.2.2.2.2.2.2.2.2.2.2.2.1, z1.2.2.2.2.2.2.2.2.2.2.2.2.1, z1.2.2.2.2.2.2.2.2.2.2.2.2.2) (59 : Int32)).bind fun z37 =>
  gd (z37.1 = 0 ∨ z37.1 = 1) (
  some (z37.1, z37.2)))
abbrev rmX4_reads : Room := { frames := 3, cells := 0, slots := 0, locals := 66 }
set_option maxHeartbeats 4000000 in
set_option maxRecDepth 100000 in
theorem CX4_reads (l : Launch) (D : va_G) (aμ : Nat → Nat) (μ : MDS) (r0 : Int32) (μ0 : MDS) (hF : FX4_reads μ = some (r0, μ0)) : Ct l D yX4_reads cX4_reads 1 (some .boolean) rmX4_reads 0 0 [.ref (aμ 0)] (mdW D aμ μ) (fun v w => v = some (.int r0) ∧ w = mdW D aμ μ0) := by
  refine Ct.of (own := RX4) (lv := [(0, .ref (aμ 0))]) (by decide +kernel) rfl (Nat.le_of_ble_eq_true rfl) rfl (fun X h hr => ?_)
  unfold FX4_reads at hF
  refine r_aload_n h 0 rfl rfl dX4_reads_0 ?_
  refine r_bipush (v := 104) h dX4_reads_1 (by decide) ?_
  obtain ⟨z1, e2, hF⟩ := o_bind hF
  refine r_callVa (q0 := 0) (rest := []) h hd_X4_takes wm_1016 dX4_reads_3 (CX4_takes l D aμ μ (104 : Int32) z1.1 z1.2 e2) rfl rfl rfl ⟨rfl, rfl⟩ ⟨by decide, by decide⟩ (Nat.le_of_ble_eq_true rfl) ⟨by decide, by decide⟩ rfl (fun v w' hp => ?_)
  obtain ⟨rfl, rfl⟩ := hp
  refine r_if_eq h 21 dX4_reads_6 (by decide) (fun c3 => ?_) (fun c3 => ?_)
  · replace hF := o_pos c3 hF
    refine r_aload_n h 0 rfl rfl dX4_reads_21 ?_
    refine r_aload_n h 0 rfl rfl dX4_reads_22 ?_
    refine r_bipush (v := 109) h dX4_reads_23 (by decide) ?_
    refine r_bipush (v := 109) h dX4_reads_25 (by decide) ?_
    obtain ⟨z4, e5, hF⟩ := o_bind hF
    refine r_callVa (q0 := 0) (rest := [.ref (aμ 0)]) h hd_X4_isAt wm_1020 dX4_reads_27 (CX4_isAt l D aμ z1.2 (109 : Int32) (109 : Int32) z4 e5) rfl rfl rfl ⟨rfl, rfl⟩ ⟨by decide, by decide⟩ (Nat.le_of_ble_eq_true rfl) ⟨by decide, by decide⟩ rfl (fun v w' hp => ?_)
    obtain ⟨rfl, rfl⟩ := hp
    have hJ38 : ∀ (b7_0 : Int32), FX4_reads_J38 z1 b7_0 = some (r0, μ0) → J X l rmX4_reads D 1 0 0 (mdW D aμ z1.2) [(0, .ref (aμ 0))] 38 [.int b7_0, .ref (aμ 0)] := by
      intro b7_0 hF
      unfold FX4_reads_J38 at hF
      refine r_put (ws' := mdW D aμ (z1.2.1, z1.2.2.1, z1.2.2.2.1, z1.2.2.2.2.1, z1.2.2.2.2.2.1, z1.2.2.2.2.2.2.1, z1.2.2.2.2.2.2.2.1, z1.2.2.2.2.2.2.2.2.1, z1.2.2.2.2.2.2.2.2.2.1, b7_0, z1.2.2.2.2.2.2.2.2.2.2.2.1, z1.2.2.2.2.2.2.2.2.2.2.2.2.1, z1.2.2.2.2.2.2.2.2.2.2.2.2.2)) h fp_X4_179 0 rfl (Nat.le_of_ble_eq_true rfl) rfl rfl rfl dX4_reads_38 ?_
      refine r_aload_n h 0 rfl rfl dX4_reads_41 ?_
      refine r_bipush (v := 109) h dX4_reads_42 (by decide) ?_
      obtain ⟨z8, e9, hF⟩ := o_bind hF
      refine r_callVa (q0 := 0) (rest := []) h hd_X4_takes wm_1016 dX4_reads_44 (CX4_takes l D aμ (z1.2.1, z1.2.2.1, z1.2.2.2.1, z1.2.2.2.2.1, z1.2.2.2.2.2.1, z1.2.2.2.2.2.2.1, z1.2.2.2.2.2.2.2.1, z1.2.2.2.2.2.2.2.2.1, z1.2.2.2.2.2.2.2.2.2.1, b7_0, z1.2.2.2.2.2.2.2.2.2.2.2.1, z1.2.2.2.2.2.2.2.2.2.2.2.2.1, z1.2.2.2.2.2.2.2.2.2.2.2.2.2) (109 : Int32) z8.1 z8.2 e9) rfl rfl rfl ⟨rfl, rfl⟩ ⟨by decide, by decide⟩ (Nat.le_of_ble_eq_true rfl) ⟨by decide, by decide⟩ rfl (fun v w' hp => ?_)
      obtain ⟨rfl, rfl⟩ := hp
      have hJ59 : ∀ (t11_μ : MDS), FX4_reads_J59 t11_μ = some (r0, μ0) → J X l rmX4_reads D 1 0 0 (mdW D aμ t11_μ) [(0, .ref (aμ 0))] 59 [] := by
        intro t11_μ hF
        unfold FX4_reads_J59 at hF
        refine r_aload_n h 0 rfl rfl dX4_reads_59 ?_
        obtain ⟨z15, e16, hF⟩ := o_bind hF
        refine r_callVa (q0 := 0) (rest := []) h hd_X4_takesMachine wm_1024 dX4_reads_60 (CX4_takesMachine l D aμ t11_μ z15.1 z15.2 e16) rfl rfl rfl ⟨rfl, rfl⟩ ⟨by decide, by decide⟩ (Nat.le_of_ble_eq_true rfl) ⟨by decide, by decide⟩ rfl (fun v w' hp => ?_)
        obtain ⟨rfl, rfl⟩ := hp
        refine r_if_eq h 75 dX4_reads_63 (by decide) (fun c17 => ?_) (fun c17 => ?_)
        · replace hF := o_pos c17 hF
          refine r_iconst (v := 0) h dX4_reads_75 (by decide) ?_
          cases hF
          exact r_zret h hr (Or.inl rfl) dX4_reads_76 ⟨rfl, rfl⟩
        · replace hF := o_neg c17 hF
          refine r_aload_n h 0 rfl rfl dX4_reads_66 ?_
          refine r_bipush (v := 62) h dX4_reads_67 (by decide) ?_
          obtain ⟨z18, e19, hF⟩ := o_bind hF
          refine r_callVa (q0 := 0) (rest := []) h hd_X4_takes wm_1016 dX4_reads_69 (CX4_takes l D aμ z15.2 (62 : Int32) z18.1 z18.2 e19) rfl rfl rfl ⟨rfl, rfl⟩ ⟨by decide, by decide⟩ (Nat.le_of_ble_eq_true rfl) ⟨by decide, by decide⟩ rfl (fun v w' hp => ?_)
          obtain ⟨rfl, rfl⟩ := hp
          refine r_if_ne h 77 dX4_reads_72 (by decide) (fun c20 => ?_) (fun c20 => ?_)
          · replace hF := o_neg c20 hF
            refine r_aload_n h 0 rfl rfl dX4_reads_77 ?_
            refine r_get h fl_X4_179 0 rfl rfl dX4_reads_78 ?_
            refine r_iconst (v := 1) h dX4_reads_81 (by decide) ?_
            have hJ106 : ∀ (t22_μ : MDS), FX4_reads_J106 t22_μ = some (r0, μ0) → J X l rmX4_reads D 1 0 0 (mdW D aμ t22_μ) [(0, .ref (aμ 0))] 106 [] := by
              intro t22_μ hF
              unfold FX4_reads_J106 at hF
              refine r_aload_n h 0 rfl rfl dX4_reads_106 ?_
              refine r_bipush (v := 48) h dX4_reads_107 (by decide) ?_
              refine r_aload_n h 0 rfl rfl dX4_reads_109 ?_
              refine r_get h fl_X4_179 0 rfl rfl dX4_reads_110 ?_
              refine r_iconst (v := 1) h dX4_reads_113 (by decide) ?_
              have hJ124 : ∀ (b29_0 : Int32) (b29_1 : Int32), FX4_reads_J124 t22_μ b29_0 b29_1 = some (r0, μ0) → J X l rmX4_reads D 1 0 0 (mdW D aμ t22_μ) [(0, .ref (aμ 0))] 124 [.int b29_0, .int b29_1, .ref (aμ 0)] := by
                intro b29_0 b29_1 hF
                unfold FX4_reads_J124 at hF
                obtain ⟨z30, e31, hF⟩ := o_bind hF
                refine r_callVa (q0 := 0) (rest := []) h hd_X4_isAt wm_1020 dX4_reads_124 (CX4_isAt l D aμ t22_μ b29_1 b29_0 z30 e31) rfl rfl rfl ⟨rfl, rfl⟩ ⟨by decide, by decide⟩ (Nat.le_of_ble_eq_true rfl) ⟨by decide, by decide⟩ rfl (fun v w' hp => ?_)
                obtain ⟨rfl, rfl⟩ := hp
                refine r_if_ne h 132 dX4_reads_127 (by decide) (fun c32 => ?_) (fun c32 => ?_)
                · replace hF := o_neg c32 hF
                  refine r_aload_n h 0 rfl rfl dX4_reads_132 ?_
                  refine r_aload_n h 0 rfl rfl dX4_reads_133 ?_
                  refine r_get h fl_X4_22 0 rfl rfl dX4_reads_134 ?_
                  refine r_aload_n h 0 rfl rfl dX4_reads_137 ?_
                  refine r_get h fl_X4_166 0 rfl rfl dX4_reads_138 ?_
                  obtain ⟨hN, hF⟩ := o_gd hF
                  refine r_iald h 5 rfl hN dX4_reads_141 ?_
                  obtain ⟨u33, hu33, hF⟩ := o_nm hF
                  refine J.top hu33 ?_
                  refine r_bipush (v := 48) h dX4_reads_142 (by decide) ?_
                  refine r_isub h dX4_reads_144 ?_
                  refine r_put (ws' := mdW D aμ (t22_μ.1, t22_μ.2.1, t22_μ.2.2.1, t22_μ.2.2.2.1, t22_μ.2.2.2.2.1, t22_μ.2.2.2.2.2.1, t22_μ.2.2.2.2.2.2.1, t22_μ.2.2.2.2.2.2.2.1, t22_μ.2.2.2.2.2.2.2.2.1, t22_μ.2.2.2.2.2.2.2.2.2.1, t22_μ.2.2.2.2.2.2.2.2.2.2.1, u33 - (48 : Int32), t22_μ.2.2.2.2.2.2.2.2.2.2.2.2)) h fp_X4_186 0 rfl (Nat.le_of_ble_eq_true rfl) rfl rfl rfl dX4_reads_145 ?_
                  refine r_aload_n h 0 rfl rfl dX4_reads_148 ?_
                  refine r_dup h rfl dX4_reads_149 ?_
                  refine r_get h fl_X4_166 0 rfl rfl dX4_reads_150 ?_
                  refine r_iconst (v := 1) h dX4_reads_153 (by decide) ?_
                  refine r_iadd h dX4_reads_154 ?_
                  obtain ⟨u34, hu34, hF⟩ := o_nm hF
                  refine J.top hu34 ?_
                  refine r_put (ws' := mdW D aμ (t22_μ.1, t22_μ.2.1, t22_μ.2.2.1, t22_μ.2.2.2.1, t22_μ.2.2.2.2.1, t22_μ.2.2.2.2.2.1, t22_μ.2.2.2.2.2.2.1, t22_μ.2.2.2.2.2.2.2.1, u34, t22_μ.2.2.2.2.2.2.2.2.2.1, t22_μ.2.2.2.2.2.2.2.2.2.2.1, u33 - (48 : Int32), t22_μ.2.2.2.2.2.2.2.2.2.2.2.2)) h fp_X4_166 0 rfl (Nat.le_of_ble_eq_true rfl) rfl rfl rfl dX4_reads_155 ?_
                  refine r_aload_n h 0 rfl rfl dX4_reads_158 ?_
                  refine r_bipush (v := 59) h dX4_reads_159 (by decide) ?_
                  obtain ⟨z35, e36, hF⟩ := o_bind hF
                  refine r_callVa (q0 := 0) (rest := []) h hd_X4_takes wm_1016 dX4_reads_161 (CX4_takes l D aμ (t22_μ.1, t22_μ.2.1, t22_μ.2.2.1, t22_μ.2.2.2.1, t22_μ.2.2.2.2.1, t22_μ.2.2.2.2.2.1, t22_μ.2.2.2.2.2.2.1, t22_μ.2.2.2.2.2.2.2.1, u34, t22_μ.2.2.2.2.2.2.2.2.2.1, t22_μ.2.2.2.2.2.2.2.2.2.2.1, u33 - (48 : Int32), t22_μ.2.2.2.2.2.2.2.2.2.2.2.2) (59 : Int32) z35.1 z35.2 e36) rfl rfl rfl ⟨rfl, rfl⟩ ⟨by decide, by decide⟩ (Nat.le_of_ble_eq_true rfl) ⟨by decide, by decide⟩ rfl (fun v w' hp => ?_)
                  obtain ⟨rfl, rfl⟩ := hp
                  obtain ⟨hN, hF⟩ := o_gd hF
                  cases hF
                  exact r_zret h hr hN dX4_reads_164 ⟨rfl, rfl⟩
                · replace hF := o_pos c32 hF
                  refine r_iconst (v := 0) h dX4_reads_130 (by decide) ?_
                  cases hF
                  exact r_zret h hr (Or.inl rfl) dX4_reads_131 ⟨rfl, rfl⟩
              refine r_icmp_ne h 122 dX4_reads_114 (by decide) (fun c28 => ?_) (fun c28 => ?_)
              · replace hF := o_neg c28 hF
                refine r_bipush (v := 50) h dX4_reads_122 (by decide) ?_
                exact J.loc (lv' := [(0, .ref (aμ 0))]) [0] rfl (hJ124 (50 : Int32) (48 : Int32) hF)
              · replace hF := o_pos c28 hF
                refine r_bipush (v := 53) h dX4_reads_117 (by decide) ?_
                refine r_goto h 124 dX4_reads_119 (by decide) ?_
                exact J.loc (lv' := [(0, .ref (aμ 0))]) [0] rfl (hJ124 (53 : Int32) (48 : Int32) hF)
            refine r_icmp_ne h 106 dX4_reads_82 (by decide) (fun c21 => ?_) (fun c21 => ?_)
            · replace hF := o_neg c21 hF
              exact J.loc (lv' := [(0, .ref (aμ 0))]) [0] rfl (hJ106 z18.2 hF)
            · replace hF := o_pos c21 hF
              refine r_aload_n h 0 rfl rfl dX4_reads_85 ?_
              refine r_bipush (v := 115) h dX4_reads_86 (by decide) ?_
              obtain ⟨z23, e24, hF⟩ := o_bind hF
              refine r_callVa (q0 := 0) (rest := []) h hd_X4_takes wm_1016 dX4_reads_88 (CX4_takes l D aμ z18.2 (115 : Int32) z23.1 z23.2 e24) rfl rfl rfl ⟨rfl, rfl⟩ ⟨by decide, by decide⟩ (Nat.le_of_ble_eq_true rfl) ⟨by decide, by decide⟩ rfl (fun v w' hp => ?_)
              obtain ⟨rfl, rfl⟩ := hp
              refine r_if_eq h 106 dX4_reads_91 (by decide) (fun c25 => ?_) (fun c25 => ?_)
              · replace hF := o_pos c25 hF
                exact J.loc (lv' := [(0, .ref (aμ 0))]) [0] rfl (hJ106 z23.2 hF)
              · replace hF := o_neg c25 hF
                refine r_aload_n h 0 rfl rfl dX4_reads_94 ?_
                refine r_iconst (v := -1) h dX4_reads_95 (by decide) ?_
                refine r_put (ws' := mdW D aμ (z23.2.1, z23.2.2.1, z23.2.2.2.1, z23.2.2.2.2.1, z23.2.2.2.2.2.1, z23.2.2.2.2.2.2.1, z23.2.2.2.2.2.2.2.1, z23.2.2.2.2.2.2.2.2.1, z23.2.2.2.2.2.2.2.2.2.1, z23.2.2.2.2.2.2.2.2.2.2.1, z23.2.2.2.2.2.2.2.2.2.2.2.1, (-1 : Int32), z23.2.2.2.2.2.2.2.2.2.2.2.2.2)) h fp_X4_186 0 rfl (Nat.le_of_ble_eq_true rfl) rfl rfl rfl dX4_reads_96 ?_
                refine r_aload_n h 0 rfl rfl dX4_reads_99 ?_
                refine r_bipush (v := 59) h dX4_reads_100 (by decide) ?_
                obtain ⟨z26, e27, hF⟩ := o_bind hF
                refine r_callVa (q0 := 0) (rest := []) h hd_X4_takes wm_1016 dX4_reads_102 (CX4_takes l D aμ (z23.2.1, z23.2.2.1, z23.2.2.2.1, z23.2.2.2.2.1, z23.2.2.2.2.2.1, z23.2.2.2.2.2.2.1, z23.2.2.2.2.2.2.2.1, z23.2.2.2.2.2.2.2.2.1, z23.2.2.2.2.2.2.2.2.2.1, z23.2.2.2.2.2.2.2.2.2.2.1, z23.2.2.2.2.2.2.2.2.2.2.2.1, (-1 : Int32), z23.2.2.2.2.2.2.2.2.2.2.2.2.2) (59 : Int32) z26.1 z26.2 e27) rfl rfl rfl ⟨rfl, rfl⟩ ⟨by decide, by decide⟩ (Nat.le_of_ble_eq_true rfl) ⟨by decide, by decide⟩ rfl (fun v w' hp => ?_)
                obtain ⟨rfl, rfl⟩ := hp
                obtain ⟨hN, hF⟩ := o_gd hF
                cases hF
                exact r_zret h hr hN dX4_reads_105 ⟨rfl, rfl⟩
          · replace hF := o_pos c20 hF
            refine r_iconst (v := 0) h dX4_reads_75 (by decide) ?_
            cases hF
            exact r_zret h hr (Or.inl rfl) dX4_reads_76 ⟨rfl, rfl⟩
      refine r_if_ne h 59 dX4_reads_47 (by decide) (fun c10 => ?_) (fun c10 => ?_)
      · replace hF := o_neg c10 hF
        exact J.loc (lv' := [(0, .ref (aμ 0))]) [0] rfl (hJ59 z8.2 hF)
      · replace hF := o_pos c10 hF
        refine r_aload_n h 0 rfl rfl dX4_reads_50 ?_
        refine r_bipush (v := 112) h dX4_reads_51 (by decide) ?_
        obtain ⟨z12, e13, hF⟩ := o_bind hF
        refine r_callVa (q0 := 0) (rest := []) h hd_X4_takes wm_1016 dX4_reads_53 (CX4_takes l D aμ z8.2 (112 : Int32) z12.1 z12.2 e13) rfl rfl rfl ⟨rfl, rfl⟩ ⟨by decide, by decide⟩ (Nat.le_of_ble_eq_true rfl) ⟨by decide, by decide⟩ rfl (fun v w' hp => ?_)
        obtain ⟨rfl, rfl⟩ := hp
        refine r_if_eq h 75 dX4_reads_56 (by decide) (fun c14 => ?_) (fun c14 => ?_)
        · replace hF := o_pos c14 hF
          refine r_iconst (v := 0) h dX4_reads_75 (by decide) ?_
          cases hF
          exact r_zret h hr (Or.inl rfl) dX4_reads_76 ⟨rfl, rfl⟩
        · replace hF := o_neg c14 hF
          exact J.loc (lv' := [(0, .ref (aμ 0))]) [0] rfl (hJ59 z12.2 hF)
    refine r_if_eq h 37 dX4_reads_30 (by decide) (fun c6 => ?_) (fun c6 => ?_)
    · replace hF := o_pos c6 hF
      refine r_iconst (v := 2) h dX4_reads_37 (by decide) ?_
      exact J.loc (lv' := [(0, .ref (aμ 0))]) [0] rfl (hJ38 (2 : Int32) hF)
    · replace hF := o_neg c6 hF
      refine r_iconst (v := 1) h dX4_reads_33 (by decide) ?_
      refine r_goto h 38 dX4_reads_34 (by decide) ?_
      exact J.loc (lv' := [(0, .ref (aμ 0))]) [0] rfl (hJ38 (1 : Int32) hF)
  · replace hF := o_neg c3 hF
    refine r_aload_n h 0 rfl rfl dX4_reads_9 ?_
    refine r_iconst (v := 0) h dX4_reads_10 (by decide) ?_
    refine r_put (ws' := mdW D aμ (z1.2.1, z1.2.2.1, z1.2.2.2.1, z1.2.2.2.2.1, z1.2.2.2.2.2.1, z1.2.2.2.2.2.2.1, z1.2.2.2.2.2.2.2.1, z1.2.2.2.2.2.2.2.2.1, z1.2.2.2.2.2.2.2.2.2.1, (0 : Int32), z1.2.2.2.2.2.2.2.2.2.2.2.1, z1.2.2.2.2.2.2.2.2.2.2.2.2.1, z1.2.2.2.2.2.2.2.2.2.2.2.2.2)) h fp_X4_179 0 rfl (Nat.le_of_ble_eq_true rfl) rfl rfl rfl dX4_reads_11 ?_
    refine r_aload_n h 0 rfl rfl dX4_reads_14 ?_
    refine r_bipush (v := 59) h dX4_reads_15 (by decide) ?_
    obtain ⟨z37, e38, hF⟩ := o_bind hF
    refine r_callVa (q0 := 0) (rest := []) h hd_X4_takes wm_1016 dX4_reads_17 (CX4_takes l D aμ (z1.2.1, z1.2.2.1, z1.2.2.2.1, z1.2.2.2.2.1, z1.2.2.2.2.2.1, z1.2.2.2.2.2.2.1, z1.2.2.2.2.2.2.2.1, z1.2.2.2.2.2.2.2.2.1, z1.2.2.2.2.2.2.2.2.2.1, (0 : Int32), z1.2.2.2.2.2.2.2.2.2.2.2.1, z1.2.2.2.2.2.2.2.2.2.2.2.2.1, z1.2.2.2.2.2.2.2.2.2.2.2.2.2) (59 : Int32) z37.1 z37.2 e38) rfl rfl rfl ⟨rfl, rfl⟩ ⟨by decide, by decide⟩ (Nat.le_of_ble_eq_true rfl) ⟨by decide, by decide⟩ rfl (fun v w' hp => ?_)
    obtain ⟨rfl, rfl⟩ := hp
    obtain ⟨hN, hF⟩ := o_gd hF
    cases hF
    exact r_zret h hr hN dX4_reads_20 ⟨rfl, rfl⟩

def FX4_plan_L54  (K : Int32 → MDS → Option (Int32 × MDS)) : Nat → Int32 → MDS → Option (Int32 × MDS)
  | 0, _, _ => none
  | n + 1, y7_1, s7_μ =>
  if s7_μ.2.2.2.2.2.2.2.1 ≤ s7_μ.2.2.2.2.2.2.2.2.1 then
  (K y7_1 s7_μ)
else
  ((FX4_reads s7_μ).bind fun z9 =>
  if z9.2.2.2.2.2.2.2.2.2.2.1 = 0 then
  (gd (¬ ((12 : Int32) < 0 ∨ 219 ≤ ((12 : Int32)).toNatClampNeg)) (
  nmv (z9.2.1 ((12 : Int32)).toNatClampNeg) fun u27 =>
  gd (¬ ((12 : Int32) < 0 ∨ 219 ≤ ((12 : Int32)).toNatClampNeg)) (
  nmv (upd z9.2.1 ((12 : Int32)).toNatClampNeg (u27 + (1 : Int32))) fun fw28 =>
  gd (¬ ((12 : Int32) < 0 ∨ 219 ≤ ((12 : Int32)).toNatClampNeg)) (
  if (fw28 ((12 : Int32)).toNatClampNeg) ≤ (2000 : Int32) then
  (if (0 : Int32) ≤ 0 then
  (if z9.2.2.2.2.2.2.2.2.2.2.1 = 0 then
  (FX4_plan_L54 K n (y7_1 + (0 : Int32)) (fw28, z9.2.2.1, z9.2.2.2.1, z9.2.2.2.2.1, z9.2.2.2.2.2.1, z9.2.2.2.2.2.2.1, z9.2.2.2.2.2.2.2.1, z9.2.2.2.2.2.2.2.2.1, z9.2.2.2.2.2.2.2.2.2.1, z9.2.2.2.2.2.2.2.2.2.2.1, z9.2.2.2.2.2.2.2.2.2.2.2.1, z9.2.2.2.2.2.2.2.2.2.2.2.2.1, z9.2.2.2.2.2.2.2.2.2.2.2.2.2))
else
  (FX4_plan_L54 K n (y7_1 + (1 : Int32)) (fw28, z9.2.2.1, z9.2.2.2.1, z9.2.2.2.2.1, z9.2.2.2.2.2.1, z9.2.2.2.2.2.2.1, z9.2.2.2.2.2.2.2.1, z9.2.2.2.2.2.2.2.2.1, z9.2.2.2.2.2.2.2.2.2.1, z9.2.2.2.2.2.2.2.2.2.2.1, z9.2.2.2.2.2.2.2.2.2.2.2.1, z9.2.2.2.2.2.2.2.2.2.2.2.2.1, z9.2.2.2.2.2.2.2.2.2.2.2.2.2)))
else
  ((FX4_copies 219 219 fw28 z9.2.2.2.1).bind fun z32 =>
  nmv ((-1000 : Int32) - ((10 : Int32) * y7_1)) fun u34 =>
  some (u34 - (0 : Int32), (z32, z9.2.2.1, z9.2.2.2.1, z9.2.2.2.2.1, z9.2.2.2.2.2.1, z9.2.2.2.2.2.2.1, z9.2.2.2.2.2.2.2.1, z9.2.2.2.2.2.2.2.2.1, z9.2.2.2.2.2.2.2.2.2.1, z9.2.2.2.2.2.2.2.2.2.2.1, z9.2.2.2.2.2.2.2.2.2.2.2.1, z9.2.2.2.2.2.2.2.2.2.2.2.2.1, z9.2.2.2.2.2.2.2.2.2.2.2.2.2))))
else
  ((FX4_copies 219 219 fw28 z9.2.2.2.1).bind fun z35 =>
  some ((-9999 : Int32), (z35, z9.2.2.1, z9.2.2.2.1, z9.2.2.2.2.1, z9.2.2.2.2.2.1, z9.2.2.2.2.2.2.1, z9.2.2.2.2.2.2.2.1, z9.2.2.2.2.2.2.2.2.1, z9.2.2.2.2.2.2.2.2.2.1, z9.2.2.2.2.2.2.2.2.2.2.1, z9.2.2.2.2.2.2.2.2.2.2.2.1, z9.2.2.2.2.2.2.2.2.2.2.2.2.1, z9.2.2.2.2.2.2.2.2.2.2.2.2.2)))))))
else
  (if z9.2.2.2.2.2.2.2.2.2.2.1 = (1 : Int32) then
  ((FX4_moves z9.2 z9.2.2.2.2.2.2.2.2.2.2.2.1 z9.2.2.2.2.2.2.2.2.2.2.2.2.1).bind fun z20 =>
  if z20.1 ≤ 0 then
  (if z20.2.2.2.2.2.2.2.2.2.2.1 = 0 then
  (FX4_plan_L54 K n (y7_1 + (0 : Int32)) z20.2)
else
  (FX4_plan_L54 K n (y7_1 + (1 : Int32)) z20.2))
else
  ((FX4_copies 219 219 z20.2.1 z20.2.2.2.1).bind fun z24 =>
  nmv ((-1000 : Int32) - ((10 : Int32) * y7_1)) fun u26 =>
  some (u26 - z20.1, (z24, z20.2.2.1, z20.2.2.2.1, z20.2.2.2.2.1, z20.2.2.2.2.2.1, z20.2.2.2.2.2.2.1, z20.2.2.2.2.2.2.2.1, z20.2.2.2.2.2.2.2.2.1, z20.2.2.2.2.2.2.2.2.2.1, z20.2.2.2.2.2.2.2.2.2.2.1, z20.2.2.2.2.2.2.2.2.2.2.2.1, z20.2.2.2.2.2.2.2.2.2.2.2.2.1, z20.2.2.2.2.2.2.2.2.2.2.2.2.2))))
else
  ((FX4_changes z9.2 z9.2.2.2.2.2.2.2.2.2.2.2.1 z9.2.2.2.2.2.2.2.2.2.2.2.2.1).bind fun z13 =>
  if z13.1 ≤ 0 then
  (if z13.2.2.2.2.2.2.2.2.2.2.1 = 0 then
  (FX4_plan_L54 K n (y7_1 + (0 : Int32)) z13.2)
else
  (FX4_plan_L54 K n (y7_1 + (1 : Int32)) z13.2))
else
  ((FX4_copies 219 219 z13.2.1 z13.2.2.2.1).bind fun z17 =>
  nmv ((-1000 : Int32) - ((10 : Int32) * y7_1)) fun u19 =>
  some (u19 - z13.1, (z17, z13.2.2.1, z13.2.2.2.1, z13.2.2.2.2.1, z13.2.2.2.2.2.1, z13.2.2.2.2.2.2.1, z13.2.2.2.2.2.2.2.1, z13.2.2.2.2.2.2.2.2.1, z13.2.2.2.2.2.2.2.2.2.1, z13.2.2.2.2.2.2.2.2.2.2.1, z13.2.2.2.2.2.2.2.2.2.2.2.1, z13.2.2.2.2.2.2.2.2.2.2.2.2.1, z13.2.2.2.2.2.2.2.2.2.2.2.2.2))))))
def FX4_plan_L10  (K : MDS → Option (Int32 × MDS)) : Nat → MDS → Option (Int32 × MDS)
  | 0, _ => none
  | n + 1, s2_μ =>
  if s2_μ.2.2.2.2.2.2.2.1 ≤ s2_μ.2.2.2.2.2.2.2.2.1 then
  ((FX4_copies 219 219 s2_μ.2.2.1 s2_μ.1).bind fun z4 =>
  FX4_plan_L54  (fun (y7_1 : Int32) (s7_μ : MDS) =>
  (FX4_ends s7_μ (0 : Int32)).bind fun z37 =>
  some (z37.1 + y7_1, z37.2)) FU (0 : Int32) (s2_μ.1, s2_μ.2.1, z4, s2_μ.2.2.2.1, s2_μ.2.2.2.2.1, s2_μ.2.2.2.2.2.1, s2_μ.2.2.2.2.2.2.1, s2_μ.2.2.2.2.2.2.2.1, (0 : Int32), s2_μ.2.2.2.2.2.2.2.2.2.1, s2_μ.2.2.2.2.2.2.2.2.2.2.1, s2_μ.2.2.2.2.2.2.2.2.2.2.2.1, s2_μ.2.2.2.2.2.2.2.2.2.2.2.2))
else
  ((FX4_reads s2_μ).bind fun z39 =>
  if z39.1 = 0 then
  (K z39.2)
else
  (FX4_plan_L10 K n z39.2))
def FX4_plan (μ : MDS) : Option (Int32 × MDS) :=
  FX4_plan_L10  (fun (s2_μ : MDS) =>
  nmv ((-10 : Int32) - s2_μ.2.2.2.2.2.2.2.2.1) fun u42 =>
  some (u42, s2_μ)) FU (μ.1, μ.2.1, μ.2.2.1, μ.2.2.2.1, μ.2.2.2.2.1, μ.2.2.2.2.2.1, (0 : Int32), μ.2.2.2.2.2.2.2.1, (0 : Int32), μ.2.2.2.2.2.2.2.2.2.1, μ.2.2.2.2.2.2.2.2.2.2.1, μ.2.2.2.2.2.2.2.2.2.2.2.1, μ.2.2.2.2.2.2.2.2.2.2.2.2)
abbrev rmX4_plan : Room := { frames := 6, cells := 0, slots := 0, locals := 144 }
set_option maxHeartbeats 4000000 in
set_option maxRecDepth 100000 in
theorem CX4_plan (l : Launch) (D : va_G) (aμ : Nat → Nat) (μ : MDS) (r0 : Int32) (μ0 : MDS) (hF : FX4_plan μ = some (r0, μ0)) : Ct l D yX4_plan cX4_plan 4 (some .int) rmX4_plan 0 0 [.ref (aμ 0)] (mdW D aμ μ) (fun v w => v = some (.int r0) ∧ w = mdW D aμ μ0) := by
  refine Ct.of (own := RX4) (lv := [(0, .ref (aμ 0))]) (by decide +kernel) rfl (Nat.le_of_ble_eq_true rfl) rfl (fun X h hr => ?_)
  unfold FX4_plan at hF
  refine r_aload_n h 0 rfl rfl dX4_plan_0 ?_
  refine r_iconst (v := 0) h dX4_plan_1 (by decide) ?_
  refine r_put (ws' := mdW D aμ (μ.1, μ.2.1, μ.2.2.1, μ.2.2.2.1, μ.2.2.2.2.1, μ.2.2.2.2.2.1, (0 : Int32), μ.2.2.2.2.2.2.2.1, μ.2.2.2.2.2.2.2.2.1, μ.2.2.2.2.2.2.2.2.2.1, μ.2.2.2.2.2.2.2.2.2.2.1, μ.2.2.2.2.2.2.2.2.2.2.2.1, μ.2.2.2.2.2.2.2.2.2.2.2.2)) h fp_X4_25 0 rfl (Nat.le_of_ble_eq_true rfl) rfl rfl rfl dX4_plan_2 ?_
  refine r_aload_n h 0 rfl rfl dX4_plan_5 ?_
  refine r_iconst (v := 0) h dX4_plan_6 (by decide) ?_
  refine r_put (ws' := mdW D aμ (μ.1, μ.2.1, μ.2.2.1, μ.2.2.2.1, μ.2.2.2.2.1, μ.2.2.2.2.2.1, (0 : Int32), μ.2.2.2.2.2.2.2.1, (0 : Int32), μ.2.2.2.2.2.2.2.2.2.1, μ.2.2.2.2.2.2.2.2.2.2.1, μ.2.2.2.2.2.2.2.2.2.2.2.1, μ.2.2.2.2.2.2.2.2.2.2.2.2)) h fp_X4_166 0 rfl (Nat.le_of_ble_eq_true rfl) rfl rfl rfl dX4_plan_7 ?_
  have hL10 : ∀ (K : MDS → Option (Int32 × MDS)) (hK : ∀ (s2_μ : MDS), K s2_μ = some (r0, μ0) → J X l rmX4_plan D 4 0 0 (mdW D aμ s2_μ) [(0, .ref (aμ 0))] 28 []) (N : Nat), ∀ (s2_μ : MDS), FX4_plan_L10  K N s2_μ = some (r0, μ0) → J X l rmX4_plan D 4 0 0 (mdW D aμ s2_μ) [(0, .ref (aμ 0))] 10 [] := by
    intro K hK N
    induction N with
    | zero =>
      intro s2_μ hF
      cases hF
    | succ N ih =>
      intro s2_μ hF
      rw [FX4_plan_L10] at hF
      refine r_aload_n h 0 rfl rfl dX4_plan_10 ?_
      refine r_get h fl_X4_166 0 rfl rfl dX4_plan_11 ?_
      refine r_aload_n h 0 rfl rfl dX4_plan_14 ?_
      refine r_get h fl_X4_163 0 rfl rfl dX4_plan_15 ?_
      refine r_icmp_ge h 36 dX4_plan_18 (by decide) (fun c3 => ?_) (fun c3 => ?_)
      · replace hF := o_pos c3 hF
        refine r_aload_n h 0 rfl rfl dX4_plan_36 ?_
        refine r_get h fl_X4_16 0 rfl rfl dX4_plan_37 ?_
        refine r_aload_n h 0 rfl rfl dX4_plan_40 ?_
        refine r_get h fl_X4_7 0 rfl rfl dX4_plan_41 ?_
        obtain ⟨z4, e5, hF⟩ := o_bind hF
        refine r_callS (wr := w_pk (mdW D aμ s2_μ) [0, 2, 4, 5]) (rest := []) h hd_X4_copies wm_932 dX4_plan_44 (CX4_copies l D (aμ 3) (aμ 1) 219 219 s2_μ.2.2.1 s2_μ.1 z4 e5) [3, 1] [0, 2, 4, 5] rfl rfl (by decide +kernel) rfl ⟨rfl, rfl⟩ ⟨by decide, by decide⟩ (Nat.le_of_ble_eq_true rfl) ⟨by decide, by decide⟩ rfl (fun v w' hp => ?_)
        obtain ⟨rfl, rfl⟩ := hp
        refine J.sub (ws' := mdW D aμ (s2_μ.1, s2_μ.2.1, z4, s2_μ.2.2.2.1, s2_μ.2.2.2.2.1, s2_μ.2.2.2.2.2.1, s2_μ.2.2.2.2.2.2.1, s2_μ.2.2.2.2.2.2.2.1, s2_μ.2.2.2.2.2.2.2.2.1, s2_μ.2.2.2.2.2.2.2.2.2.1, s2_μ.2.2.2.2.2.2.2.2.2.2.1, s2_μ.2.2.2.2.2.2.2.2.2.2.2.1, s2_μ.2.2.2.2.2.2.2.2.2.2.2.2)) [0, 5, 1, 4, 2, 3] rfl (by decide +kernel) ?_
        refine r_aload_n h 0 rfl rfl dX4_plan_47 ?_
        refine r_iconst (v := 0) h dX4_plan_48 (by decide) ?_
        refine r_put (ws' := mdW D aμ (s2_μ.1, s2_μ.2.1, z4, s2_μ.2.2.2.1, s2_μ.2.2.2.2.1, s2_μ.2.2.2.2.2.1, s2_μ.2.2.2.2.2.2.1, s2_μ.2.2.2.2.2.2.2.1, (0 : Int32), s2_μ.2.2.2.2.2.2.2.2.2.1, s2_μ.2.2.2.2.2.2.2.2.2.2.1, s2_μ.2.2.2.2.2.2.2.2.2.2.2.1, s2_μ.2.2.2.2.2.2.2.2.2.2.2.2)) h fp_X4_166 0 rfl (Nat.le_of_ble_eq_true rfl) rfl rfl rfl dX4_plan_49 ?_
        refine r_iconst (v := 0) h dX4_plan_52 (by decide) ?_
        refine r_istore_n (lv' := [(1, .int (0 : Int32)), (0, .ref (aμ 0))]) h rfl dX4_plan_53 (by decide) rfl ?_
        have hL54 : ∀ (K : Int32 → MDS → Option (Int32 × MDS)) (hK : ∀ (y7_1 : Int32) (s7_μ : MDS), K y7_1 s7_μ = some (r0, μ0) → J X l rmX4_plan D 4 0 0 (mdW D aμ s7_μ) [(1, .int y7_1), (0, .ref (aμ 0))] 198 []) (N : Nat), ∀ (y7_1 : Int32) (s7_μ : MDS), FX4_plan_L54  K N y7_1 s7_μ = some (r0, μ0) → J X l rmX4_plan D 4 0 0 (mdW D aμ s7_μ) [(1, .int y7_1), (0, .ref (aμ 0))] 54 [] := by
          intro K hK N
          induction N with
          | zero =>
            intro y7_1 s7_μ hF
            cases hF
          | succ N ih =>
            intro y7_1 s7_μ hF
            rw [FX4_plan_L54] at hF
            refine r_aload_n h 1 rfl rfl dX4_plan_54 ?_
            refine r_get h fl_X4_166 0 rfl rfl dX4_plan_55 ?_
            refine r_aload_n h 1 rfl rfl dX4_plan_58 ?_
            refine r_get h fl_X4_163 0 rfl rfl dX4_plan_59 ?_
            refine r_icmp_ge h 198 dX4_plan_62 (by decide) (fun c8 => ?_) (fun c8 => ?_)
            · replace hF := o_pos c8 hF
              exact J.loc (lv' := [(1, .int y7_1), (0, .ref (aμ 0))]) [0, 1] rfl (hK y7_1 s7_μ hF)
            · replace hF := o_neg c8 hF
              refine r_aload_n h 1 rfl rfl dX4_plan_65 ?_
              obtain ⟨z9, e10, hF⟩ := o_bind hF
              refine r_callVa (q0 := 0) (rest := []) h hd_X4_reads wm_1012 dX4_plan_66 (CX4_reads l D aμ s7_μ z9.1 z9.2 e10) rfl rfl rfl ⟨rfl, rfl⟩ ⟨by decide, by decide⟩ (Nat.le_of_ble_eq_true rfl) ⟨by decide, by decide⟩ rfl (fun v w' hp => ?_)
              obtain ⟨rfl, rfl⟩ := hp
              refine r_istore_n (lv' := [(2, .int z9.1), (1, .int y7_1), (0, .ref (aμ 0))]) h rfl dX4_plan_69 (by decide) rfl ?_
              refine r_iconst (v := 0) h dX4_plan_70 (by decide) ?_
              refine r_istore_n (lv' := [(3, .int (0 : Int32)), (2, .int z9.1), (1, .int y7_1), (0, .ref (aμ 0))]) h rfl dX4_plan_71 (by decide) rfl ?_
              refine r_aload_n h 3 rfl rfl dX4_plan_72 ?_
              refine r_get h fl_X4_179 0 rfl rfl dX4_plan_73 ?_
              refine r_if_ne h 118 dX4_plan_76 (by decide) (fun c11 => ?_) (fun c11 => ?_)
              · replace hF := o_neg c11 hF
                refine r_aload_n h 3 rfl rfl dX4_plan_118 ?_
                refine r_get h fl_X4_179 0 rfl rfl dX4_plan_119 ?_
                refine r_iconst (v := 1) h dX4_plan_122 (by decide) ?_
                refine r_icmp_ne h 141 dX4_plan_123 (by decide) (fun c12 => ?_) (fun c12 => ?_)
                · replace hF := o_neg c12 hF
                  refine r_aload_n h 3 rfl rfl dX4_plan_141 ?_
                  refine r_aload_n h 3 rfl rfl dX4_plan_142 ?_
                  refine r_get h fl_X4_173 0 rfl rfl dX4_plan_143 ?_
                  refine r_aload_n h 3 rfl rfl dX4_plan_146 ?_
                  refine r_get h fl_X4_186 0 rfl rfl dX4_plan_147 ?_
                  obtain ⟨z13, e14, hF⟩ := o_bind hF
                  refine r_callVa (q0 := 0) (rest := []) h hd_X4_changes wm_955 dX4_plan_150 (CX4_changes l D aμ z9.2 z9.2.2.2.2.2.2.2.2.2.2.2.1 z9.2.2.2.2.2.2.2.2.2.2.2.2.1 z13.1 z13.2 e14) rfl rfl rfl ⟨rfl, rfl⟩ ⟨by decide, by decide⟩ (Nat.le_of_ble_eq_true rfl) ⟨by decide, by decide⟩ rfl (fun v w' hp => ?_)
                  obtain ⟨rfl, rfl⟩ := hp
                  refine r_istore_n (lv' := [(3, .int z13.1), (2, .int z9.1), (1, .int y7_1), (0, .ref (aμ 0))]) h rfl dX4_plan_153 (by decide) rfl ?_
                  refine r_iload_n h 0 rfl rfl dX4_plan_154 ?_
                  refine r_if_le h 180 dX4_plan_155 (by decide) (fun c15 => ?_) (fun c15 => ?_)
                  · replace hF := o_pos c15 hF
                    refine r_iload_n h 2 rfl rfl dX4_plan_180 ?_
                    refine r_aload_n h 3 rfl rfl dX4_plan_181 ?_
                    refine r_get h fl_X4_179 0 rfl rfl dX4_plan_182 ?_
                    refine r_if_ne h 192 dX4_plan_185 (by decide) (fun c16 => ?_) (fun c16 => ?_)
                    · replace hF := o_neg c16 hF
                      refine r_iconst (v := 1) h dX4_plan_192 (by decide) ?_
                      refine r_iadd h dX4_plan_193 ?_
                      refine r_istore_n (lv' := [(1, .int (y7_1 + (1 : Int32))), (3, .int z13.1), (2, .int z9.1), (0, .ref (aμ 0))]) h rfl dX4_plan_194 (by decide) rfl ?_
                      refine r_goto h 54 dX4_plan_195 (by decide) ?_
                      exact J.loc (lv' := [(1, .int (y7_1 + (1 : Int32))), (0, .ref (aμ 0))]) [0, 3] rfl (ih (y7_1 + (1 : Int32)) z13.2 hF)
                    · replace hF := o_pos c16 hF
                      refine r_iconst (v := 0) h dX4_plan_188 (by decide) ?_
                      refine r_goto h 193 dX4_plan_189 (by decide) ?_
                      refine r_iadd h dX4_plan_193 ?_
                      refine r_istore_n (lv' := [(1, .int (y7_1 + (0 : Int32))), (3, .int z13.1), (2, .int z9.1), (0, .ref (aμ 0))]) h rfl dX4_plan_194 (by decide) rfl ?_
                      refine r_goto h 54 dX4_plan_195 (by decide) ?_
                      exact J.loc (lv' := [(1, .int (y7_1 + (0 : Int32))), (0, .ref (aμ 0))]) [0, 3] rfl (ih (y7_1 + (0 : Int32)) z13.2 hF)
                  · replace hF := o_neg c15 hF
                    refine r_aload_n h 3 rfl rfl dX4_plan_158 ?_
                    refine r_get h fl_X4_7 0 rfl rfl dX4_plan_159 ?_
                    refine r_aload_n h 3 rfl rfl dX4_plan_162 ?_
                    refine r_get h fl_X4_16 0 rfl rfl dX4_plan_163 ?_
                    obtain ⟨z17, e18, hF⟩ := o_bind hF
                    refine r_callS (wr := w_pk (mdW D aμ z13.2) [0, 2, 4, 5]) (rest := []) h hd_X4_copies wm_932 dX4_plan_166 (CX4_copies l D (aμ 1) (aμ 3) 219 219 z13.2.1 z13.2.2.2.1 z17 e18) [1, 3] [0, 2, 4, 5] rfl rfl (by decide +kernel) rfl ⟨rfl, rfl⟩ ⟨by decide, by decide⟩ (Nat.le_of_ble_eq_true rfl) ⟨by decide, by decide⟩ rfl (fun v w' hp => ?_)
                    obtain ⟨rfl, rfl⟩ := hp
                    refine J.sub (ws' := mdW D aμ (z17, z13.2.2.1, z13.2.2.2.1, z13.2.2.2.2.1, z13.2.2.2.2.2.1, z13.2.2.2.2.2.2.1, z13.2.2.2.2.2.2.2.1, z13.2.2.2.2.2.2.2.2.1, z13.2.2.2.2.2.2.2.2.2.1, z13.2.2.2.2.2.2.2.2.2.2.1, z13.2.2.2.2.2.2.2.2.2.2.2.1, z13.2.2.2.2.2.2.2.2.2.2.2.2.1, z13.2.2.2.2.2.2.2.2.2.2.2.2.2)) [0, 4, 1, 5, 2, 3] rfl (by decide +kernel) ?_
                    refine r_sipush (v := -1000) h dX4_plan_169 (by decide) ?_
                    refine r_bipush (v := 10) h dX4_plan_172 (by decide) ?_
                    refine r_iload_n h 2 rfl rfl dX4_plan_174 ?_
                    refine r_imul h dX4_plan_175 ?_
                    refine r_isub h dX4_plan_176 ?_
                    obtain ⟨u19, hu19, hF⟩ := o_nm hF
                    refine J.top hu19 ?_
                    refine r_iload_n h 0 rfl rfl dX4_plan_177 ?_
                    refine r_isub h dX4_plan_178 ?_
                    cases hF
                    exact r_iret h hr dX4_plan_179 ⟨rfl, rfl⟩
                · replace hF := o_pos c12 hF
                  refine r_aload_n h 3 rfl rfl dX4_plan_126 ?_
                  refine r_aload_n h 3 rfl rfl dX4_plan_127 ?_
                  refine r_get h fl_X4_173 0 rfl rfl dX4_plan_128 ?_
                  refine r_aload_n h 3 rfl rfl dX4_plan_131 ?_
                  refine r_get h fl_X4_186 0 rfl rfl dX4_plan_132 ?_
                  obtain ⟨z20, e21, hF⟩ := o_bind hF
                  refine r_callVa (q0 := 0) (rest := []) h hd_X4_moves wm_935 dX4_plan_135 (CX4_moves l D aμ z9.2 z9.2.2.2.2.2.2.2.2.2.2.2.1 z9.2.2.2.2.2.2.2.2.2.2.2.2.1 z20.1 z20.2 e21) rfl rfl rfl ⟨rfl, rfl⟩ ⟨by decide, by decide⟩ (Nat.le_of_ble_eq_true rfl) ⟨by decide, by decide⟩ rfl (fun v w' hp => ?_)
                  obtain ⟨rfl, rfl⟩ := hp
                  refine r_goto h 153 dX4_plan_138 (by decide) ?_
                  refine r_istore_n (lv' := [(3, .int z20.1), (2, .int z9.1), (1, .int y7_1), (0, .ref (aμ 0))]) h rfl dX4_plan_153 (by decide) rfl ?_
                  refine r_iload_n h 0 rfl rfl dX4_plan_154 ?_
                  refine r_if_le h 180 dX4_plan_155 (by decide) (fun c22 => ?_) (fun c22 => ?_)
                  · replace hF := o_pos c22 hF
                    refine r_iload_n h 2 rfl rfl dX4_plan_180 ?_
                    refine r_aload_n h 3 rfl rfl dX4_plan_181 ?_
                    refine r_get h fl_X4_179 0 rfl rfl dX4_plan_182 ?_
                    refine r_if_ne h 192 dX4_plan_185 (by decide) (fun c23 => ?_) (fun c23 => ?_)
                    · replace hF := o_neg c23 hF
                      refine r_iconst (v := 1) h dX4_plan_192 (by decide) ?_
                      refine r_iadd h dX4_plan_193 ?_
                      refine r_istore_n (lv' := [(1, .int (y7_1 + (1 : Int32))), (3, .int z20.1), (2, .int z9.1), (0, .ref (aμ 0))]) h rfl dX4_plan_194 (by decide) rfl ?_
                      refine r_goto h 54 dX4_plan_195 (by decide) ?_
                      exact J.loc (lv' := [(1, .int (y7_1 + (1 : Int32))), (0, .ref (aμ 0))]) [0, 3] rfl (ih (y7_1 + (1 : Int32)) z20.2 hF)
                    · replace hF := o_pos c23 hF
                      refine r_iconst (v := 0) h dX4_plan_188 (by decide) ?_
                      refine r_goto h 193 dX4_plan_189 (by decide) ?_
                      refine r_iadd h dX4_plan_193 ?_
                      refine r_istore_n (lv' := [(1, .int (y7_1 + (0 : Int32))), (3, .int z20.1), (2, .int z9.1), (0, .ref (aμ 0))]) h rfl dX4_plan_194 (by decide) rfl ?_
                      refine r_goto h 54 dX4_plan_195 (by decide) ?_
                      exact J.loc (lv' := [(1, .int (y7_1 + (0 : Int32))), (0, .ref (aμ 0))]) [0, 3] rfl (ih (y7_1 + (0 : Int32)) z20.2 hF)
                  · replace hF := o_neg c22 hF
                    refine r_aload_n h 3 rfl rfl dX4_plan_158 ?_
                    refine r_get h fl_X4_7 0 rfl rfl dX4_plan_159 ?_
                    refine r_aload_n h 3 rfl rfl dX4_plan_162 ?_
                    refine r_get h fl_X4_16 0 rfl rfl dX4_plan_163 ?_
                    obtain ⟨z24, e25, hF⟩ := o_bind hF
                    refine r_callS (wr := w_pk (mdW D aμ z20.2) [0, 2, 4, 5]) (rest := []) h hd_X4_copies wm_932 dX4_plan_166 (CX4_copies l D (aμ 1) (aμ 3) 219 219 z20.2.1 z20.2.2.2.1 z24 e25) [1, 3] [0, 2, 4, 5] rfl rfl (by decide +kernel) rfl ⟨rfl, rfl⟩ ⟨by decide, by decide⟩ (Nat.le_of_ble_eq_true rfl) ⟨by decide, by decide⟩ rfl (fun v w' hp => ?_)
                    obtain ⟨rfl, rfl⟩ := hp
                    refine J.sub (ws' := mdW D aμ (z24, z20.2.2.1, z20.2.2.2.1, z20.2.2.2.2.1, z20.2.2.2.2.2.1, z20.2.2.2.2.2.2.1, z20.2.2.2.2.2.2.2.1, z20.2.2.2.2.2.2.2.2.1, z20.2.2.2.2.2.2.2.2.2.1, z20.2.2.2.2.2.2.2.2.2.2.1, z20.2.2.2.2.2.2.2.2.2.2.2.1, z20.2.2.2.2.2.2.2.2.2.2.2.2.1, z20.2.2.2.2.2.2.2.2.2.2.2.2.2)) [0, 4, 1, 5, 2, 3] rfl (by decide +kernel) ?_
                    refine r_sipush (v := -1000) h dX4_plan_169 (by decide) ?_
                    refine r_bipush (v := 10) h dX4_plan_172 (by decide) ?_
                    refine r_iload_n h 2 rfl rfl dX4_plan_174 ?_
                    refine r_imul h dX4_plan_175 ?_
                    refine r_isub h dX4_plan_176 ?_
                    obtain ⟨u26, hu26, hF⟩ := o_nm hF
                    refine J.top hu26 ?_
                    refine r_iload_n h 0 rfl rfl dX4_plan_177 ?_
                    refine r_isub h dX4_plan_178 ?_
                    cases hF
                    exact r_iret h hr dX4_plan_179 ⟨rfl, rfl⟩
              · replace hF := o_pos c11 hF
                refine r_aload_n h 3 rfl rfl dX4_plan_79 ?_
                refine r_get h fl_X4_7 0 rfl rfl dX4_plan_80 ?_
                refine r_bipush (v := 12) h dX4_plan_83 (by decide) ?_
                refine r_dup2 h rfl rfl dX4_plan_85 ?_
                obtain ⟨hN, hF⟩ := o_gd hF
                refine r_iald h 1 rfl hN dX4_plan_86 ?_
                obtain ⟨u27, hu27, hF⟩ := o_nm hF
                refine J.top hu27 ?_
                refine r_iconst (v := 1) h dX4_plan_87 (by decide) ?_
                refine r_iadd h dX4_plan_88 ?_
                obtain ⟨hN, hF⟩ := o_gd hF
                obtain ⟨fw28, hfw28, hF⟩ := o_nm hF
                refine r_iast (ws' := mdW D aμ (fw28, z9.2.2.1, z9.2.2.2.1, z9.2.2.2.2.1, z9.2.2.2.2.2.1, z9.2.2.2.2.2.2.1, z9.2.2.2.2.2.2.2.1, z9.2.2.2.2.2.2.2.2.1, z9.2.2.2.2.2.2.2.2.2.1, z9.2.2.2.2.2.2.2.2.2.2.1, z9.2.2.2.2.2.2.2.2.2.2.2.1, z9.2.2.2.2.2.2.2.2.2.2.2.2.1, z9.2.2.2.2.2.2.2.2.2.2.2.2.2)) h 1 rfl hN (by rw [hfw28]; rfl) dX4_plan_89 ?_
                refine r_aload_n h 3 rfl rfl dX4_plan_90 ?_
                refine r_get h fl_X4_7 0 rfl rfl dX4_plan_91 ?_
                refine r_bipush (v := 12) h dX4_plan_94 (by decide) ?_
                obtain ⟨hN, hF⟩ := o_gd hF
                refine r_iald h 1 rfl hN dX4_plan_96 ?_
                refine r_sipush (v := 2000) h dX4_plan_97 (by decide) ?_
                refine r_icmp_le h 154 dX4_plan_100 (by decide) (fun c29 => ?_) (fun c29 => ?_)
                · replace hF := o_pos c29 hF
                  refine r_iload_n h 0 rfl rfl dX4_plan_154 ?_
                  refine r_if_le h 180 dX4_plan_155 (by decide) (fun c30 => ?_) (fun c30 => ?_)
                  · replace hF := o_pos c30 hF
                    refine r_iload_n h 2 rfl rfl dX4_plan_180 ?_
                    refine r_aload_n h 3 rfl rfl dX4_plan_181 ?_
                    refine r_get h fl_X4_179 0 rfl rfl dX4_plan_182 ?_
                    refine r_if_ne h 192 dX4_plan_185 (by decide) (fun c31 => ?_) (fun c31 => ?_)
                    · replace hF := o_neg c31 hF
                      refine r_iconst (v := 1) h dX4_plan_192 (by decide) ?_
                      refine r_iadd h dX4_plan_193 ?_
                      refine r_istore_n (lv' := [(1, .int (y7_1 + (1 : Int32))), (3, .int (0 : Int32)), (2, .int z9.1), (0, .ref (aμ 0))]) h rfl dX4_plan_194 (by decide) rfl ?_
                      refine r_goto h 54 dX4_plan_195 (by decide) ?_
                      exact J.loc (lv' := [(1, .int (y7_1 + (1 : Int32))), (0, .ref (aμ 0))]) [0, 3] rfl (ih (y7_1 + (1 : Int32)) (fw28, z9.2.2.1, z9.2.2.2.1, z9.2.2.2.2.1, z9.2.2.2.2.2.1, z9.2.2.2.2.2.2.1, z9.2.2.2.2.2.2.2.1, z9.2.2.2.2.2.2.2.2.1, z9.2.2.2.2.2.2.2.2.2.1, z9.2.2.2.2.2.2.2.2.2.2.1, z9.2.2.2.2.2.2.2.2.2.2.2.1, z9.2.2.2.2.2.2.2.2.2.2.2.2.1, z9.2.2.2.2.2.2.2.2.2.2.2.2.2) hF)
                    · replace hF := o_pos c31 hF
                      refine r_iconst (v := 0) h dX4_plan_188 (by decide) ?_
                      refine r_goto h 193 dX4_plan_189 (by decide) ?_
                      refine r_iadd h dX4_plan_193 ?_
                      refine r_istore_n (lv' := [(1, .int (y7_1 + (0 : Int32))), (3, .int (0 : Int32)), (2, .int z9.1), (0, .ref (aμ 0))]) h rfl dX4_plan_194 (by decide) rfl ?_
                      refine r_goto h 54 dX4_plan_195 (by decide) ?_
                      exact J.loc (lv' := [(1, .int (y7_1 + (0 : Int32))), (0, .ref (aμ 0))]) [0, 3] rfl (ih (y7_1 + (0 : Int32)) (fw28, z9.2.2.1, z9.2.2.2.1, z9.2.2.2.2.1, z9.2.2.2.2.2.1, z9.2.2.2.2.2.2.1, z9.2.2.2.2.2.2.2.1, z9.2.2.2.2.2.2.2.2.1, z9.2.2.2.2.2.2.2.2.2.1, z9.2.2.2.2.2.2.2.2.2.2.1, z9.2.2.2.2.2.2.2.2.2.2.2.1, z9.2.2.2.2.2.2.2.2.2.2.2.2.1, z9.2.2.2.2.2.2.2.2.2.2.2.2.2) hF)
                  · replace hF := o_neg c30 hF
                    refine r_aload_n h 3 rfl rfl dX4_plan_158 ?_
                    refine r_get h fl_X4_7 0 rfl rfl dX4_plan_159 ?_
                    refine r_aload_n h 3 rfl rfl dX4_plan_162 ?_
                    refine r_get h fl_X4_16 0 rfl rfl dX4_plan_163 ?_
                    obtain ⟨z32, e33, hF⟩ := o_bind hF
                    refine r_callS (wr := w_pk (mdW D aμ (fw28, z9.2.2.1, z9.2.2.2.1, z9.2.2.2.2.1, z9.2.2.2.2.2.1, z9.2.2.2.2.2.2.1, z9.2.2.2.2.2.2.2.1, z9.2.2.2.2.2.2.2.2.1, z9.2.2.2.2.2.2.2.2.2.1, z9.2.2.2.2.2.2.2.2.2.2.1, z9.2.2.2.2.2.2.2.2.2.2.2.1, z9.2.2.2.2.2.2.2.2.2.2.2.2.1, z9.2.2.2.2.2.2.2.2.2.2.2.2.2)) [0, 2, 4, 5]) (rest := []) h hd_X4_copies wm_932 dX4_plan_166 (CX4_copies l D (aμ 1) (aμ 3) 219 219 fw28 z9.2.2.2.1 z32 e33) [1, 3] [0, 2, 4, 5] rfl rfl (by decide +kernel) rfl ⟨rfl, rfl⟩ ⟨by decide, by decide⟩ (Nat.le_of_ble_eq_true rfl) ⟨by decide, by decide⟩ rfl (fun v w' hp => ?_)
                    obtain ⟨rfl, rfl⟩ := hp
                    refine J.sub (ws' := mdW D aμ (z32, z9.2.2.1, z9.2.2.2.1, z9.2.2.2.2.1, z9.2.2.2.2.2.1, z9.2.2.2.2.2.2.1, z9.2.2.2.2.2.2.2.1, z9.2.2.2.2.2.2.2.2.1, z9.2.2.2.2.2.2.2.2.2.1, z9.2.2.2.2.2.2.2.2.2.2.1, z9.2.2.2.2.2.2.2.2.2.2.2.1, z9.2.2.2.2.2.2.2.2.2.2.2.2.1, z9.2.2.2.2.2.2.2.2.2.2.2.2.2)) [0, 4, 1, 5, 2, 3] rfl (by decide +kernel) ?_
                    refine r_sipush (v := -1000) h dX4_plan_169 (by decide) ?_
                    refine r_bipush (v := 10) h dX4_plan_172 (by decide) ?_
                    refine r_iload_n h 2 rfl rfl dX4_plan_174 ?_
                    refine r_imul h dX4_plan_175 ?_
                    refine r_isub h dX4_plan_176 ?_
                    obtain ⟨u34, hu34, hF⟩ := o_nm hF
                    refine J.top hu34 ?_
                    refine r_iload_n h 0 rfl rfl dX4_plan_177 ?_
                    refine r_isub h dX4_plan_178 ?_
                    cases hF
                    exact r_iret h hr dX4_plan_179 ⟨rfl, rfl⟩
                · replace hF := o_neg c29 hF
                  refine r_aload_n h 3 rfl rfl dX4_plan_103 ?_
                  refine r_get h fl_X4_7 0 rfl rfl dX4_plan_104 ?_
                  refine r_aload_n h 3 rfl rfl dX4_plan_107 ?_
                  refine r_get h fl_X4_16 0 rfl rfl dX4_plan_108 ?_
                  obtain ⟨z35, e36, hF⟩ := o_bind hF
                  refine r_callS (wr := w_pk (mdW D aμ (fw28, z9.2.2.1, z9.2.2.2.1, z9.2.2.2.2.1, z9.2.2.2.2.2.1, z9.2.2.2.2.2.2.1, z9.2.2.2.2.2.2.2.1, z9.2.2.2.2.2.2.2.2.1, z9.2.2.2.2.2.2.2.2.2.1, z9.2.2.2.2.2.2.2.2.2.2.1, z9.2.2.2.2.2.2.2.2.2.2.2.1, z9.2.2.2.2.2.2.2.2.2.2.2.2.1, z9.2.2.2.2.2.2.2.2.2.2.2.2.2)) [0, 2, 4, 5]) (rest := []) h hd_X4_copies wm_932 dX4_plan_111 (CX4_copies l D (aμ 1) (aμ 3) 219 219 fw28 z9.2.2.2.1 z35 e36) [1, 3] [0, 2, 4, 5] rfl rfl (by decide +kernel) rfl ⟨rfl, rfl⟩ ⟨by decide, by decide⟩ (Nat.le_of_ble_eq_true rfl) ⟨by decide, by decide⟩ rfl (fun v w' hp => ?_)
                  obtain ⟨rfl, rfl⟩ := hp
                  refine J.sub (ws' := mdW D aμ (z35, z9.2.2.1, z9.2.2.2.1, z9.2.2.2.2.1, z9.2.2.2.2.2.1, z9.2.2.2.2.2.2.1, z9.2.2.2.2.2.2.2.1, z9.2.2.2.2.2.2.2.2.1, z9.2.2.2.2.2.2.2.2.2.1, z9.2.2.2.2.2.2.2.2.2.2.1, z9.2.2.2.2.2.2.2.2.2.2.2.1, z9.2.2.2.2.2.2.2.2.2.2.2.2.1, z9.2.2.2.2.2.2.2.2.2.2.2.2.2)) [0, 4, 1, 5, 2, 3] rfl (by decide +kernel) ?_
                  refine r_sipush (v := -9999) h dX4_plan_114 (by decide) ?_
                  cases hF
                  exact r_iret h hr dX4_plan_117 ⟨rfl, rfl⟩
        refine hL54 _ (fun y7_1 s7_μ hF => ?_) _ (0 : Int32) (s2_μ.1, s2_μ.2.1, z4, s2_μ.2.2.2.1, s2_μ.2.2.2.2.1, s2_μ.2.2.2.2.2.1, s2_μ.2.2.2.2.2.2.1, s2_μ.2.2.2.2.2.2.2.1, (0 : Int32), s2_μ.2.2.2.2.2.2.2.2.2.1, s2_μ.2.2.2.2.2.2.2.2.2.2.1, s2_μ.2.2.2.2.2.2.2.2.2.2.2.1, s2_μ.2.2.2.2.2.2.2.2.2.2.2.2) hF
        refine r_aload_n h 1 rfl rfl dX4_plan_198 ?_
        refine r_iconst (v := 0) h dX4_plan_199 (by decide) ?_
        obtain ⟨z37, e38, hF⟩ := o_bind hF
        refine r_callVa (q0 := 0) (rest := []) h hd_X4_ends wm_947 dX4_plan_200 (CX4_ends l D aμ s7_μ (0 : Int32) z37.1 z37.2 e38) rfl rfl rfl ⟨rfl, rfl⟩ ⟨by decide, by decide⟩ (Nat.le_of_ble_eq_true rfl) ⟨by decide, by decide⟩ rfl (fun v w' hp => ?_)
        obtain ⟨rfl, rfl⟩ := hp
        refine r_iload_n h 0 rfl rfl dX4_plan_203 ?_
        refine r_iadd h dX4_plan_204 ?_
        cases hF
        exact r_iret h hr dX4_plan_205 ⟨rfl, rfl⟩
      · replace hF := o_neg c3 hF
        refine r_aload_n h 0 rfl rfl dX4_plan_21 ?_
        obtain ⟨z39, e40, hF⟩ := o_bind hF
        refine r_callVa (q0 := 0) (rest := []) h hd_X4_reads wm_1012 dX4_plan_22 (CX4_reads l D aμ s2_μ z39.1 z39.2 e40) rfl rfl rfl ⟨rfl, rfl⟩ ⟨by decide, by decide⟩ (Nat.le_of_ble_eq_true rfl) ⟨by decide, by decide⟩ rfl (fun v w' hp => ?_)
        obtain ⟨rfl, rfl⟩ := hp
        refine r_if_ne h 10 dX4_plan_25 (by decide) (fun c41 => ?_) (fun c41 => ?_)
        · replace hF := o_neg c41 hF
          exact J.loc (lv' := [(0, .ref (aμ 0))]) [0] rfl (ih z39.2 hF)
        · replace hF := o_pos c41 hF
          exact J.loc (lv' := [(0, .ref (aμ 0))]) [0] rfl (hK z39.2 hF)
  refine hL10 _ (fun s2_μ hF => ?_) _ (μ.1, μ.2.1, μ.2.2.1, μ.2.2.2.1, μ.2.2.2.2.1, μ.2.2.2.2.2.1, (0 : Int32), μ.2.2.2.2.2.2.2.1, (0 : Int32), μ.2.2.2.2.2.2.2.2.2.1, μ.2.2.2.2.2.2.2.2.2.2.1, μ.2.2.2.2.2.2.2.2.2.2.2.1, μ.2.2.2.2.2.2.2.2.2.2.2.2) hF
  refine r_bipush (v := -10) h dX4_plan_28 (by decide) ?_
  refine r_aload_n h 0 rfl rfl dX4_plan_30 ?_
  refine r_get h fl_X4_166 0 rfl rfl dX4_plan_31 ?_
  refine r_isub h dX4_plan_34 ?_
  obtain ⟨u42, hu42, hF⟩ := o_nm hF
  refine J.top hu42 ?_
  cases hF
  exact r_iret h hr dX4_plan_35 ⟨rfl, rfl⟩

def FX4_mix (μ : MDS) (x1 : Int32) : Option (MDS) :=
  some (μ.1, μ.2.1, μ.2.2.1, μ.2.2.2.1, μ.2.2.2.2.1, μ.2.2.2.2.2.1, μ.2.2.2.2.2.2.1, μ.2.2.2.2.2.2.2.1, μ.2.2.2.2.2.2.2.2.1, μ.2.2.2.2.2.2.2.2.2.1, μ.2.2.2.2.2.2.2.2.2.2.1, μ.2.2.2.2.2.2.2.2.2.2.2.1, ((31 : Int64) * μ.2.2.2.2.2.2.2.2.2.2.2.2) + x1.toInt64)
abbrev rmX4_mix : Room := { frames := 0, cells := 0, slots := 0, locals := 0 }
set_option maxHeartbeats 4000000 in
set_option maxRecDepth 100000 in
theorem CX4_mix (l : Launch) (D : va_G) (aμ : Nat → Nat) (μ : MDS) (x1 : Int32) (μ0 : MDS) (hF : FX4_mix μ x1 = some μ0) : Ct l D yX4_mix cX4_mix 2 none rmX4_mix 0 0 [.ref (aμ 0), .int x1] (mdW D aμ μ) (fun v w => v = none ∧ w = mdW D aμ μ0) := by
  refine Ct.of (own := RX4) (lv := [(0, .ref (aμ 0)), (1, .int x1)]) (by decide +kernel) rfl (Nat.le_of_ble_eq_true rfl) rfl (fun X h hr => ?_)
  unfold FX4_mix at hF
  refine r_aload_n h 0 rfl rfl dX4_mix_0 ?_
  refine r_ldc2 h wm_1037 dX4_mix_1 ?_
  refine r_aload_n h 0 rfl rfl dX4_mix_4 ?_
  refine r_get h fl_X4_194 0 rfl rfl dX4_mix_5 ?_
  refine r_lmul h dX4_mix_8 ?_
  refine r_iload_n h 1 rfl rfl dX4_mix_9 ?_
  refine r_i2l h dX4_mix_10 ?_
  refine r_ladd h dX4_mix_11 ?_
  refine r_put (ws' := mdW D aμ (μ.1, μ.2.1, μ.2.2.1, μ.2.2.2.1, μ.2.2.2.2.1, μ.2.2.2.2.2.1, μ.2.2.2.2.2.2.1, μ.2.2.2.2.2.2.2.1, μ.2.2.2.2.2.2.2.2.1, μ.2.2.2.2.2.2.2.2.2.1, μ.2.2.2.2.2.2.2.2.2.2.1, μ.2.2.2.2.2.2.2.2.2.2.2.1, ((31 : Int64) * μ.2.2.2.2.2.2.2.2.2.2.2.2) + x1.toInt64)) h fp_X4_194 0 rfl (Nat.le_of_ble_eq_true rfl) rfl rfl rfl dX4_mix_12 ?_
  cases hF
  exact r_vret h hr dX4_mix_15 ⟨rfl, rfl⟩

def FX4_mixRoom_L10 (y2_1 : Int32) (K : Int32 → MDS → Option (MDS)) : Nat → Int32 → MDS → Option (MDS)
  | 0, _, _ => none
  | n + 1, y5_2, s5_μ =>
  if (8 : Int32) ≤ y5_2 then
  (K y5_2 s5_μ)
else
  ((FX4_tellRack s5_μ y2_1 y5_2).bind fun z7 =>
  (FX4_mix s5_μ z7).bind fun z9 =>
  FX4_mixRoom_L10 y2_1 K n (y5_2 + 1) z9)
def FX4_mixRoom_L34 (y2_1 : Int32) (K : Int32 → MDS → Option (MDS)) : Nat → Int32 → MDS → Option (MDS)
  | 0, _, _ => none
  | n + 1, y12_2, s12_μ =>
  if (10 : Int32) ≤ y12_2 then
  (K y12_2 s12_μ)
else
  ((FX4_machineAt s12_μ y2_1 y12_2).bind fun z14 =>
  (FX4_mix s12_μ z14).bind fun z16 =>
  FX4_mixRoom_L34 y2_1 K n (y12_2 + 1) z16)
def FX4_mixRoom_L2  (K : Int32 → MDS → Option (MDS)) : Nat → Int32 → MDS → Option (MDS)
  | 0, _, _ => none
  | n + 1, y2_1, s2_μ =>
  if (6 : Int32) ≤ y2_1 then
  (K y2_1 s2_μ)
else
  (FX4_mixRoom_L10 y2_1 (fun (y5_2 : Int32) (s5_μ : MDS) =>
  FX4_mixRoom_L34 y2_1 (fun (y12_2 : Int32) (s12_μ : MDS) =>
  FX4_mixRoom_L2 K n (y2_1 + 1) s12_μ) FU (0 : Int32) s5_μ) FU (0 : Int32) s2_μ)
def FX4_mixRoom_L64  (K : Int32 → MDS → Option (MDS)) : Nat → Int32 → MDS → Option (MDS)
  | 0, _, _ => none
  | n + 1, y19_1, s19_μ =>
  if (5 : Int32) ≤ y19_1 then
  (K y19_1 s19_μ)
else
  ((FX4_inTray s19_μ y19_1).bind fun z21 =>
  (FX4_mix s19_μ z21).bind fun z23 =>
  FX4_mixRoom_L64 K n (y19_1 + 1) z23)
def FX4_mixRoom (μ : MDS) : Option (MDS) :=
  FX4_mixRoom_L2  (fun (y2_1 : Int32) (s2_μ : MDS) =>
  FX4_mixRoom_L64  (fun (y19_1 : Int32) (s19_μ : MDS) =>
  some s19_μ) FU (0 : Int32) s2_μ) FU (0 : Int32) μ
abbrev rmX4_mixRoom : Room := { frames := 5, cells := 0, slots := 0, locals := 118 }
set_option maxHeartbeats 4000000 in
set_option maxRecDepth 100000 in
theorem CX4_mixRoom (l : Launch) (D : va_G) (aμ : Nat → Nat) (μ : MDS) (μ0 : MDS) (hF : FX4_mixRoom μ = some μ0) : Ct l D yX4_mixRoom cX4_mixRoom 3 none rmX4_mixRoom 0 0 [.ref (aμ 0)] (mdW D aμ μ) (fun v w => v = none ∧ w = mdW D aμ μ0) := by
  refine Ct.of (own := RX4) (lv := [(0, .ref (aμ 0))]) (by decide +kernel) rfl (Nat.le_of_ble_eq_true rfl) rfl (fun X h hr => ?_)
  unfold FX4_mixRoom at hF
  refine r_iconst (v := 0) h dX4_mixRoom_0 (by decide) ?_
  refine r_istore_n (lv' := [(1, .int (0 : Int32)), (0, .ref (aμ 0))]) h rfl dX4_mixRoom_1 (by decide) rfl ?_
  have hL2 : ∀ (K : Int32 → MDS → Option (MDS)) (hK : ∀ (y2_1 : Int32) (s2_μ : MDS), K y2_1 s2_μ = some μ0 → J X l rmX4_mixRoom D 3 0 0 (mdW D aμ s2_μ) [(1, .int y2_1), (0, .ref (aμ 0))] 62 []) (N : Nat), ∀ (y2_1 : Int32) (s2_μ : MDS), FX4_mixRoom_L2  K N y2_1 s2_μ = some μ0 → J X l rmX4_mixRoom D 3 0 0 (mdW D aμ s2_μ) [(1, .int y2_1), (0, .ref (aμ 0))] 2 [] := by
    intro K hK N
    induction N with
    | zero =>
      intro y2_1 s2_μ hF
      cases hF
    | succ N ih =>
      intro y2_1 s2_μ hF
      rw [FX4_mixRoom_L2] at hF
      refine r_iload_n h 0 rfl rfl dX4_mixRoom_2 ?_
      refine r_bipush (v := 6) h dX4_mixRoom_3 (by decide) ?_
      refine r_icmp_ge h 62 dX4_mixRoom_5 (by decide) (fun c3 => ?_) (fun c3 => ?_)
      · replace hF := o_pos c3 hF
        exact J.loc (lv' := [(1, .int y2_1), (0, .ref (aμ 0))]) [0, 1] rfl (hK y2_1 s2_μ hF)
      · replace hF := o_neg c3 hF
        refine r_iconst (v := 0) h dX4_mixRoom_8 (by decide) ?_
        refine r_istore_n (lv' := [(2, .int (0 : Int32)), (1, .int y2_1), (0, .ref (aμ 0))]) h rfl dX4_mixRoom_9 (by decide) rfl ?_
        have hL10 : ∀ (K : Int32 → MDS → Option (MDS)) (hK : ∀ (y5_2 : Int32) (s5_μ : MDS), K y5_2 s5_μ = some μ0 → J X l rmX4_mixRoom D 3 0 0 (mdW D aμ s5_μ) [(2, .int y5_2), (1, .int y2_1), (0, .ref (aμ 0))] 32 []) (N : Nat), ∀ (y5_2 : Int32) (s5_μ : MDS), FX4_mixRoom_L10 y2_1 K N y5_2 s5_μ = some μ0 → J X l rmX4_mixRoom D 3 0 0 (mdW D aμ s5_μ) [(2, .int y5_2), (1, .int y2_1), (0, .ref (aμ 0))] 10 [] := by
          intro K hK N
          induction N with
          | zero =>
            intro y5_2 s5_μ hF
            cases hF
          | succ N ih =>
            intro y5_2 s5_μ hF
            rw [FX4_mixRoom_L10] at hF
            refine r_iload_n h 0 rfl rfl dX4_mixRoom_10 ?_
            refine r_bipush (v := 8) h dX4_mixRoom_11 (by decide) ?_
            refine r_icmp_ge h 32 dX4_mixRoom_13 (by decide) (fun c6 => ?_) (fun c6 => ?_)
            · replace hF := o_pos c6 hF
              exact J.loc (lv' := [(2, .int y5_2), (1, .int y2_1), (0, .ref (aμ 0))]) [0, 1, 2] rfl (hK y5_2 s5_μ hF)
            · replace hF := o_neg c6 hF
              refine r_aload_n h 2 rfl rfl dX4_mixRoom_16 ?_
              refine r_aload_n h 2 rfl rfl dX4_mixRoom_17 ?_
              refine r_iload_n h 1 rfl rfl dX4_mixRoom_18 ?_
              refine r_iload_n h 0 rfl rfl dX4_mixRoom_19 ?_
              obtain ⟨z7, e8, hF⟩ := o_bind hF
              refine r_callVa (q0 := 0) (rest := [.ref (aμ 0)]) h hd_X4_tellRack wm_853 dX4_mixRoom_20 (CX4_tellRack l D aμ s5_μ y2_1 y5_2 z7 e8) rfl rfl rfl ⟨rfl, rfl⟩ ⟨by decide, by decide⟩ (Nat.le_of_ble_eq_true rfl) ⟨by decide, by decide⟩ rfl (fun v w' hp => ?_)
              obtain ⟨rfl, rfl⟩ := hp
              obtain ⟨z9, e10, hF⟩ := o_bind hF
              refine r_callVa (q0 := 0) (rest := []) h hd_X4_mix wm_1033 dX4_mixRoom_23 (CX4_mix l D aμ s5_μ z7 z9 e10) rfl rfl rfl ⟨rfl, rfl⟩ ⟨by decide, by decide⟩ (Nat.le_of_ble_eq_true rfl) ⟨by decide, by decide⟩ rfl (fun v w' hp => ?_)
              obtain ⟨rfl, rfl⟩ := hp
              refine r_iinc (lv' := [(2, .int (y5_2 + 1)), (1, .int y2_1), (0, .ref (aμ 0))]) h 0 rfl (congrArg (fun z => y5_2 + z) (by decide : Int32.ofInt 1 = 1)) dX4_mixRoom_26 (by decide) rfl ?_
              refine r_goto h 10 dX4_mixRoom_29 (by decide) ?_
              exact J.loc (lv' := [(2, .int (y5_2 + 1)), (1, .int y2_1), (0, .ref (aμ 0))]) [0, 1, 2] rfl (ih (y5_2 + 1) z9 hF)
        refine hL10 _ (fun y5_2 s5_μ hF => ?_) _ (0 : Int32) s2_μ hF
        refine r_iconst (v := 0) h dX4_mixRoom_32 (by decide) ?_
        refine r_istore_n (lv' := [(2, .int (0 : Int32)), (1, .int y2_1), (0, .ref (aμ 0))]) h rfl dX4_mixRoom_33 (by decide) rfl ?_
        have hL34 : ∀ (K : Int32 → MDS → Option (MDS)) (hK : ∀ (y12_2 : Int32) (s12_μ : MDS), K y12_2 s12_μ = some μ0 → J X l rmX4_mixRoom D 3 0 0 (mdW D aμ s12_μ) [(2, .int y12_2), (1, .int y2_1), (0, .ref (aμ 0))] 56 []) (N : Nat), ∀ (y12_2 : Int32) (s12_μ : MDS), FX4_mixRoom_L34 y2_1 K N y12_2 s12_μ = some μ0 → J X l rmX4_mixRoom D 3 0 0 (mdW D aμ s12_μ) [(2, .int y12_2), (1, .int y2_1), (0, .ref (aμ 0))] 34 [] := by
          intro K hK N
          induction N with
          | zero =>
            intro y12_2 s12_μ hF
            cases hF
          | succ N ih =>
            intro y12_2 s12_μ hF
            rw [FX4_mixRoom_L34] at hF
            refine r_iload_n h 0 rfl rfl dX4_mixRoom_34 ?_
            refine r_bipush (v := 10) h dX4_mixRoom_35 (by decide) ?_
            refine r_icmp_ge h 56 dX4_mixRoom_37 (by decide) (fun c13 => ?_) (fun c13 => ?_)
            · replace hF := o_pos c13 hF
              exact J.loc (lv' := [(2, .int y12_2), (1, .int y2_1), (0, .ref (aμ 0))]) [0, 1, 2] rfl (hK y12_2 s12_μ hF)
            · replace hF := o_neg c13 hF
              refine r_aload_n h 2 rfl rfl dX4_mixRoom_40 ?_
              refine r_aload_n h 2 rfl rfl dX4_mixRoom_41 ?_
              refine r_iload_n h 1 rfl rfl dX4_mixRoom_42 ?_
              refine r_iload_n h 0 rfl rfl dX4_mixRoom_43 ?_
              obtain ⟨z14, e15, hF⟩ := o_bind hF
              refine r_callVa (q0 := 0) (rest := [.ref (aμ 0)]) h hd_X4_machineAt wm_869 dX4_mixRoom_44 (CX4_machineAt l D aμ s12_μ y2_1 y12_2 z14 e15) rfl rfl rfl ⟨rfl, rfl⟩ ⟨by decide, by decide⟩ (Nat.le_of_ble_eq_true rfl) ⟨by decide, by decide⟩ rfl (fun v w' hp => ?_)
              obtain ⟨rfl, rfl⟩ := hp
              obtain ⟨z16, e17, hF⟩ := o_bind hF
              refine r_callVa (q0 := 0) (rest := []) h hd_X4_mix wm_1033 dX4_mixRoom_47 (CX4_mix l D aμ s12_μ z14 z16 e17) rfl rfl rfl ⟨rfl, rfl⟩ ⟨by decide, by decide⟩ (Nat.le_of_ble_eq_true rfl) ⟨by decide, by decide⟩ rfl (fun v w' hp => ?_)
              obtain ⟨rfl, rfl⟩ := hp
              refine r_iinc (lv' := [(2, .int (y12_2 + 1)), (1, .int y2_1), (0, .ref (aμ 0))]) h 0 rfl (congrArg (fun z => y12_2 + z) (by decide : Int32.ofInt 1 = 1)) dX4_mixRoom_50 (by decide) rfl ?_
              refine r_goto h 34 dX4_mixRoom_53 (by decide) ?_
              exact J.loc (lv' := [(2, .int (y12_2 + 1)), (1, .int y2_1), (0, .ref (aμ 0))]) [0, 1, 2] rfl (ih (y12_2 + 1) z16 hF)
        refine hL34 _ (fun y12_2 s12_μ hF => ?_) _ (0 : Int32) s5_μ hF
        refine r_iinc (lv' := [(1, .int (y2_1 + 1)), (2, .int y12_2), (0, .ref (aμ 0))]) h 1 rfl (congrArg (fun z => y2_1 + z) (by decide : Int32.ofInt 1 = 1)) dX4_mixRoom_56 (by decide) rfl ?_
        refine r_goto h 2 dX4_mixRoom_59 (by decide) ?_
        exact J.loc (lv' := [(1, .int (y2_1 + 1)), (0, .ref (aμ 0))]) [0, 2] rfl (ih (y2_1 + 1) s12_μ hF)
  refine hL2 _ (fun y2_1 s2_μ hF => ?_) _ (0 : Int32) μ hF
  refine r_iconst (v := 0) h dX4_mixRoom_62 (by decide) ?_
  refine r_istore_n (lv' := [(1, .int (0 : Int32)), (0, .ref (aμ 0))]) h rfl dX4_mixRoom_63 (by decide) rfl ?_
  have hL64 : ∀ (K : Int32 → MDS → Option (MDS)) (hK : ∀ (y19_1 : Int32) (s19_μ : MDS), K y19_1 s19_μ = some μ0 → J X l rmX4_mixRoom D 3 0 0 (mdW D aμ s19_μ) [(1, .int y19_1), (0, .ref (aμ 0))] 84 []) (N : Nat), ∀ (y19_1 : Int32) (s19_μ : MDS), FX4_mixRoom_L64  K N y19_1 s19_μ = some μ0 → J X l rmX4_mixRoom D 3 0 0 (mdW D aμ s19_μ) [(1, .int y19_1), (0, .ref (aμ 0))] 64 [] := by
    intro K hK N
    induction N with
    | zero =>
      intro y19_1 s19_μ hF
      cases hF
    | succ N ih =>
      intro y19_1 s19_μ hF
      rw [FX4_mixRoom_L64] at hF
      refine r_iload_n h 0 rfl rfl dX4_mixRoom_64 ?_
      refine r_iconst (v := 5) h dX4_mixRoom_65 (by decide) ?_
      refine r_icmp_ge h 84 dX4_mixRoom_66 (by decide) (fun c20 => ?_) (fun c20 => ?_)
      · replace hF := o_pos c20 hF
        exact J.loc (lv' := [(1, .int y19_1), (0, .ref (aμ 0))]) [0, 1] rfl (hK y19_1 s19_μ hF)
      · replace hF := o_neg c20 hF
        refine r_aload_n h 1 rfl rfl dX4_mixRoom_69 ?_
        refine r_aload_n h 1 rfl rfl dX4_mixRoom_70 ?_
        refine r_iload_n h 0 rfl rfl dX4_mixRoom_71 ?_
        obtain ⟨z21, e22, hF⟩ := o_bind hF
        refine r_callVa (q0 := 0) (rest := [.ref (aμ 0)]) h hd_X4_inTray wm_901 dX4_mixRoom_72 (CX4_inTray l D aμ s19_μ y19_1 z21 e22) rfl rfl rfl ⟨rfl, rfl⟩ ⟨by decide, by decide⟩ (Nat.le_of_ble_eq_true rfl) ⟨by decide, by decide⟩ rfl (fun v w' hp => ?_)
        obtain ⟨rfl, rfl⟩ := hp
        obtain ⟨z23, e24, hF⟩ := o_bind hF
        refine r_callVa (q0 := 0) (rest := []) h hd_X4_mix wm_1033 dX4_mixRoom_75 (CX4_mix l D aμ s19_μ z21 z23 e24) rfl rfl rfl ⟨rfl, rfl⟩ ⟨by decide, by decide⟩ (Nat.le_of_ble_eq_true rfl) ⟨by decide, by decide⟩ rfl (fun v w' hp => ?_)
        obtain ⟨rfl, rfl⟩ := hp
        refine r_iinc (lv' := [(1, .int (y19_1 + 1)), (0, .ref (aμ 0))]) h 0 rfl (congrArg (fun z => y19_1 + z) (by decide : Int32.ofInt 1 = 1)) dX4_mixRoom_78 (by decide) rfl ?_
        refine r_goto h 64 dX4_mixRoom_81 (by decide) ?_
        exact J.loc (lv' := [(1, .int (y19_1 + 1)), (0, .ref (aμ 0))]) [0, 1] rfl (ih (y19_1 + 1) z23 hF)
  refine hL64 _ (fun y19_1 s19_μ hF => ?_) _ (0 : Int32) s2_μ hF
  cases hF
  exact r_vret h hr dX4_mixRoom_84 ⟨rfl, rfl⟩

def FX4_digest_L22  (K : Int32 → MDS → Option (Int64 × MDS)) : Nat → Int32 → MDS → Option (Int64 × MDS)
  | 0, _, _ => none
  | n + 1, y4_1, s4_μ =>
  if (14 : Int32) ≤ y4_1 then
  (K y4_1 s4_μ)
else
  ((FX4_tellValue s4_μ y4_1).bind fun z6 =>
  (FX4_mix s4_μ z6).bind fun z8 =>
  FX4_digest_L22 K n (y4_1 + 1) z8)
def FX4_digest_L49  (K : Int32 → MDS → Option (Int64 × MDS)) : Nat → Int32 → MDS → Option (Int64 × MDS)
  | 0, _, _ => none
  | n + 1, y13_1, s13_μ =>
  gd (¬ ((13 : Int32) < 0 ∨ 219 ≤ ((13 : Int32)).toNatClampNeg)) (
  nmv (s13_μ.1 ((13 : Int32)).toNatClampNeg) fun u14 =>
  if ((8 : Int32) * u14) ≤ y13_1 then
  (K y13_1 s13_μ)
else
  (nmv (y13_1 - y13_1 / (8 : Int32) * (8 : Int32)) fun u16 =>
  (FX4_tellMachine s13_μ (y13_1 / (8 : Int32)) u16).bind fun z17 =>
  (FX4_mix s13_μ z17).bind fun z19 =>
  FX4_digest_L49 K n (y13_1 + 1) z19))
def FX4_digest_L87  (K : Int32 → MDS → Option (Int64 × MDS)) : Nat → Int32 → MDS → Option (Int64 × MDS)
  | 0, _, _ => none
  | n + 1, y22_1, s22_μ =>
  gd (¬ ((14 : Int32) < 0 ∨ 219 ≤ ((14 : Int32)).toNatClampNeg)) (
  nmv (s22_μ.1 ((14 : Int32)).toNatClampNeg) fun u23 =>
  if ((4 : Int32) * u23) ≤ y22_1 then
  (K y22_1 s22_μ)
else
  (nmv (y22_1 - y22_1 / (4 : Int32) * (4 : Int32)) fun u25 =>
  (FX4_tellCable s22_μ (y22_1 / (4 : Int32)) u25).bind fun z26 =>
  (FX4_mix s22_μ z26).bind fun z28 =>
  FX4_digest_L87 K n (y22_1 + 1) z28))
def FX4_digest_L122  (K : Int32 → MDS → Option (Int64 × MDS)) : Nat → Int32 → MDS → Option (Int64 × MDS)
  | 0, _, _ => none
  | n + 1, y31_1, s31_μ =>
  gd (¬ ((16 : Int32) < 0 ∨ 219 ≤ ((16 : Int32)).toNatClampNeg)) (
  nmv (s31_μ.1 ((16 : Int32)).toNatClampNeg) fun u32 =>
  if ((4 : Int32) * u32) ≤ y31_1 then
  (K y31_1 s31_μ)
else
  (nmv (y31_1 - y31_1 / (4 : Int32) * (4 : Int32)) fun u34 =>
  (FX4_tellPile s31_μ (y31_1 / (4 : Int32)) u34).bind fun z35 =>
  (FX4_mix s31_μ z35).bind fun z37 =>
  FX4_digest_L122 K n (y31_1 + 1) z37))
def FX4_digest (μ : MDS) : Option (Int64 × MDS) :=
  (FX4_mix (μ.1, μ.2.1, μ.2.2.1, μ.2.2.2.1, μ.2.2.2.2.1, μ.2.2.2.2.2.1, (0 : Int32), μ.2.2.2.2.2.2.2.1, μ.2.2.2.2.2.2.2.2.1, μ.2.2.2.2.2.2.2.2.2.1, μ.2.2.2.2.2.2.2.2.2.2.1, μ.2.2.2.2.2.2.2.2.2.2.2.1, (3511 : Int64)) μ.2.2.2.2.2.2.2.1).bind fun z1 =>
  FX4_digest_L22  (fun (y4_1 : Int32) (s4_μ : MDS) =>
  (FX4_mixRoom s4_μ).bind fun z10 =>
  FX4_digest_L49  (fun (y13_1 : Int32) (s13_μ : MDS) =>
  FX4_digest_L87  (fun (y22_1 : Int32) (s22_μ : MDS) =>
  FX4_digest_L122  (fun (y31_1 : Int32) (s31_μ : MDS) =>
  (FX4_mix s31_μ s31_μ.2.2.2.2.2.1).bind fun z39 =>
  some (z39.2.2.2.2.2.2.2.2.2.2.2.2, z39)) FU (0 : Int32) s22_μ) FU (0 : Int32) s13_μ) FU (0 : Int32) z10) FU (0 : Int32) z1
abbrev rmX4_digest : Room := { frames := 6, cells := 0, slots := 0, locals := 140 }
set_option maxHeartbeats 4000000 in
set_option maxRecDepth 100000 in
theorem CX4_digest (l : Launch) (D : va_G) (aμ : Nat → Nat) (μ : MDS) (r0 : Int64) (μ0 : MDS) (hF : FX4_digest μ = some (r0, μ0)) : Ct l D yX4_digest cX4_digest 2 (some .long) rmX4_digest 0 0 [.ref (aμ 0)] (mdW D aμ μ) (fun v w => v = some (.long r0) ∧ w = mdW D aμ μ0) := by
  refine Ct.of (own := RX4) (lv := [(0, .ref (aμ 0))]) (by decide +kernel) rfl (Nat.le_of_ble_eq_true rfl) rfl (fun X h hr => ?_)
  unfold FX4_digest at hF
  refine r_aload_n h 0 rfl rfl dX4_digest_0 ?_
  refine r_iconst (v := 0) h dX4_digest_1 (by decide) ?_
  refine r_put (ws' := mdW D aμ (μ.1, μ.2.1, μ.2.2.1, μ.2.2.2.1, μ.2.2.2.2.1, μ.2.2.2.2.2.1, (0 : Int32), μ.2.2.2.2.2.2.2.1, μ.2.2.2.2.2.2.2.2.1, μ.2.2.2.2.2.2.2.2.2.1, μ.2.2.2.2.2.2.2.2.2.2.1, μ.2.2.2.2.2.2.2.2.2.2.2.1, μ.2.2.2.2.2.2.2.2.2.2.2.2)) h fp_X4_25 0 rfl (Nat.le_of_ble_eq_true rfl) rfl rfl rfl dX4_digest_2 ?_
  refine r_aload_n h 0 rfl rfl dX4_digest_5 ?_
  refine r_ldc2 h wm_1032 dX4_digest_6 ?_
  refine r_put (ws' := mdW D aμ (μ.1, μ.2.1, μ.2.2.1, μ.2.2.2.1, μ.2.2.2.2.1, μ.2.2.2.2.2.1, (0 : Int32), μ.2.2.2.2.2.2.2.1, μ.2.2.2.2.2.2.2.2.1, μ.2.2.2.2.2.2.2.2.2.1, μ.2.2.2.2.2.2.2.2.2.2.1, μ.2.2.2.2.2.2.2.2.2.2.2.1, (3511 : Int64))) h fp_X4_194 0 rfl (Nat.le_of_ble_eq_true rfl) rfl rfl rfl dX4_digest_9 ?_
  refine r_aload_n h 0 rfl rfl dX4_digest_12 ?_
  refine r_aload_n h 0 rfl rfl dX4_digest_13 ?_
  refine r_get h fl_X4_163 0 rfl rfl dX4_digest_14 ?_
  obtain ⟨z1, e2, hF⟩ := o_bind hF
  refine r_callVa (q0 := 0) (rest := []) h hd_X4_mix wm_1033 dX4_digest_17 (CX4_mix l D aμ (μ.1, μ.2.1, μ.2.2.1, μ.2.2.2.1, μ.2.2.2.2.1, μ.2.2.2.2.2.1, (0 : Int32), μ.2.2.2.2.2.2.2.1, μ.2.2.2.2.2.2.2.2.1, μ.2.2.2.2.2.2.2.2.2.1, μ.2.2.2.2.2.2.2.2.2.2.1, μ.2.2.2.2.2.2.2.2.2.2.2.1, (3511 : Int64)) μ.2.2.2.2.2.2.2.1 z1 e2) rfl rfl rfl ⟨rfl, rfl⟩ ⟨by decide, by decide⟩ (Nat.le_of_ble_eq_true rfl) ⟨by decide, by decide⟩ rfl (fun v w' hp => ?_)
  obtain ⟨rfl, rfl⟩ := hp
  refine r_iconst (v := 0) h dX4_digest_20 (by decide) ?_
  refine r_istore_n (lv' := [(1, .int (0 : Int32)), (0, .ref (aμ 0))]) h rfl dX4_digest_21 (by decide) rfl ?_
  have hL22 : ∀ (K : Int32 → MDS → Option (Int64 × MDS)) (hK : ∀ (y4_1 : Int32) (s4_μ : MDS), K y4_1 s4_μ = some (r0, μ0) → J X l rmX4_digest D 2 0 0 (mdW D aμ s4_μ) [(1, .int y4_1), (0, .ref (aμ 0))] 43 []) (N : Nat), ∀ (y4_1 : Int32) (s4_μ : MDS), FX4_digest_L22  K N y4_1 s4_μ = some (r0, μ0) → J X l rmX4_digest D 2 0 0 (mdW D aμ s4_μ) [(1, .int y4_1), (0, .ref (aμ 0))] 22 [] := by
    intro K hK N
    induction N with
    | zero =>
      intro y4_1 s4_μ hF
      cases hF
    | succ N ih =>
      intro y4_1 s4_μ hF
      rw [FX4_digest_L22] at hF
      refine r_iload_n h 0 rfl rfl dX4_digest_22 ?_
      refine r_bipush (v := 14) h dX4_digest_23 (by decide) ?_
      refine r_icmp_ge h 43 dX4_digest_25 (by decide) (fun c5 => ?_) (fun c5 => ?_)
      · replace hF := o_pos c5 hF
        exact J.loc (lv' := [(1, .int y4_1), (0, .ref (aμ 0))]) [0, 1] rfl (hK y4_1 s4_μ hF)
      · replace hF := o_neg c5 hF
        refine r_aload_n h 1 rfl rfl dX4_digest_28 ?_
        refine r_aload_n h 1 rfl rfl dX4_digest_29 ?_
        refine r_iload_n h 0 rfl rfl dX4_digest_30 ?_
        obtain ⟨z6, e7, hF⟩ := o_bind hF
        refine r_callVa (q0 := 0) (rest := [.ref (aμ 0)]) h hd_X4_tellValue wm_909 dX4_digest_31 (CX4_tellValue l D aμ s4_μ y4_1 z6 e7) rfl rfl rfl ⟨rfl, rfl⟩ ⟨by decide, by decide⟩ (Nat.le_of_ble_eq_true rfl) ⟨by decide, by decide⟩ rfl (fun v w' hp => ?_)
        obtain ⟨rfl, rfl⟩ := hp
        obtain ⟨z8, e9, hF⟩ := o_bind hF
        refine r_callVa (q0 := 0) (rest := []) h hd_X4_mix wm_1033 dX4_digest_34 (CX4_mix l D aμ s4_μ z6 z8 e9) rfl rfl rfl ⟨rfl, rfl⟩ ⟨by decide, by decide⟩ (Nat.le_of_ble_eq_true rfl) ⟨by decide, by decide⟩ rfl (fun v w' hp => ?_)
        obtain ⟨rfl, rfl⟩ := hp
        refine r_iinc (lv' := [(1, .int (y4_1 + 1)), (0, .ref (aμ 0))]) h 0 rfl (congrArg (fun z => y4_1 + z) (by decide : Int32.ofInt 1 = 1)) dX4_digest_37 (by decide) rfl ?_
        refine r_goto h 22 dX4_digest_40 (by decide) ?_
        exact J.loc (lv' := [(1, .int (y4_1 + 1)), (0, .ref (aμ 0))]) [0, 1] rfl (ih (y4_1 + 1) z8 hF)
  refine hL22 _ (fun y4_1 s4_μ hF => ?_) _ (0 : Int32) z1 hF
  refine r_aload_n h 1 rfl rfl dX4_digest_43 ?_
  obtain ⟨z10, e11, hF⟩ := o_bind hF
  refine r_callVa (q0 := 0) (rest := []) h hd_X4_mixRoom wm_1038 dX4_digest_44 (CX4_mixRoom l D aμ s4_μ z10 e11) rfl rfl rfl ⟨rfl, rfl⟩ ⟨by decide, by decide⟩ (Nat.le_of_ble_eq_true rfl) ⟨by decide, by decide⟩ rfl (fun v w' hp => ?_)
  obtain ⟨rfl, rfl⟩ := hp
  refine r_iconst (v := 0) h dX4_digest_47 (by decide) ?_
  refine r_istore_n (lv' := [(1, .int (0 : Int32)), (0, .ref (aμ 0))]) h rfl dX4_digest_48 (by decide) rfl ?_
  have hL49 : ∀ (K : Int32 → MDS → Option (Int64 × MDS)) (hK : ∀ (y13_1 : Int32) (s13_μ : MDS), K y13_1 s13_μ = some (r0, μ0) → J X l rmX4_digest D 2 0 0 (mdW D aμ s13_μ) [(1, .int y13_1), (0, .ref (aμ 0))] 85 []) (N : Nat), ∀ (y13_1 : Int32) (s13_μ : MDS), FX4_digest_L49  K N y13_1 s13_μ = some (r0, μ0) → J X l rmX4_digest D 2 0 0 (mdW D aμ s13_μ) [(1, .int y13_1), (0, .ref (aμ 0))] 49 [] := by
    intro K hK N
    induction N with
    | zero =>
      intro y13_1 s13_μ hF
      cases hF
    | succ N ih =>
      intro y13_1 s13_μ hF
      rw [FX4_digest_L49] at hF
      refine r_iload_n h 0 rfl rfl dX4_digest_49 ?_
      refine r_bipush (v := 8) h dX4_digest_50 (by decide) ?_
      refine r_aload_n h 1 rfl rfl dX4_digest_52 ?_
      refine r_get h fl_X4_7 0 rfl rfl dX4_digest_53 ?_
      refine r_bipush (v := 13) h dX4_digest_56 (by decide) ?_
      obtain ⟨hN, hF⟩ := o_gd hF
      refine r_iald h 1 rfl hN dX4_digest_58 ?_
      obtain ⟨u14, hu14, hF⟩ := o_nm hF
      refine J.top hu14 ?_
      refine r_imul h dX4_digest_59 ?_
      refine r_icmp_ge h 85 dX4_digest_60 (by decide) (fun c15 => ?_) (fun c15 => ?_)
      · replace hF := o_pos c15 hF
        exact J.loc (lv' := [(1, .int y13_1), (0, .ref (aμ 0))]) [0, 1] rfl (hK y13_1 s13_μ hF)
      · replace hF := o_neg c15 hF
        refine r_aload_n h 1 rfl rfl dX4_digest_63 ?_
        refine r_aload_n h 1 rfl rfl dX4_digest_64 ?_
        refine r_iload_n h 0 rfl rfl dX4_digest_65 ?_
        refine r_bipush (v := 8) h dX4_digest_66 (by decide) ?_
        refine r_idiv h (by decide) dX4_digest_68 ?_
        refine r_iload_n h 0 rfl rfl dX4_digest_69 ?_
        refine r_bipush (v := 8) h dX4_digest_70 (by decide) ?_
        refine r_irem h (by decide) dX4_digest_72 ?_
        obtain ⟨u16, hu16, hF⟩ := o_nm hF
        refine J.top hu16 ?_
        obtain ⟨z17, e18, hF⟩ := o_bind hF
        refine r_callVa (q0 := 0) (rest := [.ref (aμ 0)]) h hd_X4_tellMachine wm_833 dX4_digest_73 (CX4_tellMachine l D aμ s13_μ (y13_1 / (8 : Int32)) u16 z17 e18) rfl rfl rfl ⟨rfl, rfl⟩ ⟨by decide, by decide⟩ (Nat.le_of_ble_eq_true rfl) ⟨by decide, by decide⟩ rfl (fun v w' hp => ?_)
        obtain ⟨rfl, rfl⟩ := hp
        obtain ⟨z19, e20, hF⟩ := o_bind hF
        refine r_callVa (q0 := 0) (rest := []) h hd_X4_mix wm_1033 dX4_digest_76 (CX4_mix l D aμ s13_μ z17 z19 e20) rfl rfl rfl ⟨rfl, rfl⟩ ⟨by decide, by decide⟩ (Nat.le_of_ble_eq_true rfl) ⟨by decide, by decide⟩ rfl (fun v w' hp => ?_)
        obtain ⟨rfl, rfl⟩ := hp
        refine r_iinc (lv' := [(1, .int (y13_1 + 1)), (0, .ref (aμ 0))]) h 0 rfl (congrArg (fun z => y13_1 + z) (by decide : Int32.ofInt 1 = 1)) dX4_digest_79 (by decide) rfl ?_
        refine r_goto h 49 dX4_digest_82 (by decide) ?_
        exact J.loc (lv' := [(1, .int (y13_1 + 1)), (0, .ref (aμ 0))]) [0, 1] rfl (ih (y13_1 + 1) z19 hF)
  refine hL49 _ (fun y13_1 s13_μ hF => ?_) _ (0 : Int32) z10 hF
  refine r_iconst (v := 0) h dX4_digest_85 (by decide) ?_
  refine r_istore_n (lv' := [(1, .int (0 : Int32)), (0, .ref (aμ 0))]) h rfl dX4_digest_86 (by decide) rfl ?_
  have hL87 : ∀ (K : Int32 → MDS → Option (Int64 × MDS)) (hK : ∀ (y22_1 : Int32) (s22_μ : MDS), K y22_1 s22_μ = some (r0, μ0) → J X l rmX4_digest D 2 0 0 (mdW D aμ s22_μ) [(1, .int y22_1), (0, .ref (aμ 0))] 120 []) (N : Nat), ∀ (y22_1 : Int32) (s22_μ : MDS), FX4_digest_L87  K N y22_1 s22_μ = some (r0, μ0) → J X l rmX4_digest D 2 0 0 (mdW D aμ s22_μ) [(1, .int y22_1), (0, .ref (aμ 0))] 87 [] := by
    intro K hK N
    induction N with
    | zero =>
      intro y22_1 s22_μ hF
      cases hF
    | succ N ih =>
      intro y22_1 s22_μ hF
      rw [FX4_digest_L87] at hF
      refine r_iload_n h 0 rfl rfl dX4_digest_87 ?_
      refine r_iconst (v := 4) h dX4_digest_88 (by decide) ?_
      refine r_aload_n h 1 rfl rfl dX4_digest_89 ?_
      refine r_get h fl_X4_7 0 rfl rfl dX4_digest_90 ?_
      refine r_bipush (v := 14) h dX4_digest_93 (by decide) ?_
      obtain ⟨hN, hF⟩ := o_gd hF
      refine r_iald h 1 rfl hN dX4_digest_95 ?_
      obtain ⟨u23, hu23, hF⟩ := o_nm hF
      refine J.top hu23 ?_
      refine r_imul h dX4_digest_96 ?_
      refine r_icmp_ge h 120 dX4_digest_97 (by decide) (fun c24 => ?_) (fun c24 => ?_)
      · replace hF := o_pos c24 hF
        exact J.loc (lv' := [(1, .int y22_1), (0, .ref (aμ 0))]) [0, 1] rfl (hK y22_1 s22_μ hF)
      · replace hF := o_neg c24 hF
        refine r_aload_n h 1 rfl rfl dX4_digest_100 ?_
        refine r_aload_n h 1 rfl rfl dX4_digest_101 ?_
        refine r_iload_n h 0 rfl rfl dX4_digest_102 ?_
        refine r_iconst (v := 4) h dX4_digest_103 (by decide) ?_
        refine r_idiv h (by decide) dX4_digest_104 ?_
        refine r_iload_n h 0 rfl rfl dX4_digest_105 ?_
        refine r_iconst (v := 4) h dX4_digest_106 (by decide) ?_
        refine r_irem h (by decide) dX4_digest_107 ?_
        obtain ⟨u25, hu25, hF⟩ := o_nm hF
        refine J.top hu25 ?_
        obtain ⟨z26, e27, hF⟩ := o_bind hF
        refine r_callVa (q0 := 0) (rest := [.ref (aμ 0)]) h hd_X4_tellCable wm_889 dX4_digest_108 (CX4_tellCable l D aμ s22_μ (y22_1 / (4 : Int32)) u25 z26 e27) rfl rfl rfl ⟨rfl, rfl⟩ ⟨by decide, by decide⟩ (Nat.le_of_ble_eq_true rfl) ⟨by decide, by decide⟩ rfl (fun v w' hp => ?_)
        obtain ⟨rfl, rfl⟩ := hp
        obtain ⟨z28, e29, hF⟩ := o_bind hF
        refine r_callVa (q0 := 0) (rest := []) h hd_X4_mix wm_1033 dX4_digest_111 (CX4_mix l D aμ s22_μ z26 z28 e29) rfl rfl rfl ⟨rfl, rfl⟩ ⟨by decide, by decide⟩ (Nat.le_of_ble_eq_true rfl) ⟨by decide, by decide⟩ rfl (fun v w' hp => ?_)
        obtain ⟨rfl, rfl⟩ := hp
        refine r_iinc (lv' := [(1, .int (y22_1 + 1)), (0, .ref (aμ 0))]) h 0 rfl (congrArg (fun z => y22_1 + z) (by decide : Int32.ofInt 1 = 1)) dX4_digest_114 (by decide) rfl ?_
        refine r_goto h 87 dX4_digest_117 (by decide) ?_
        exact J.loc (lv' := [(1, .int (y22_1 + 1)), (0, .ref (aμ 0))]) [0, 1] rfl (ih (y22_1 + 1) z28 hF)
  refine hL87 _ (fun y22_1 s22_μ hF => ?_) _ (0 : Int32) s13_μ hF
  refine r_iconst (v := 0) h dX4_digest_120 (by decide) ?_
  refine r_istore_n (lv' := [(1, .int (0 : Int32)), (0, .ref (aμ 0))]) h rfl dX4_digest_121 (by decide) rfl ?_
  have hL122 : ∀ (K : Int32 → MDS → Option (Int64 × MDS)) (hK : ∀ (y31_1 : Int32) (s31_μ : MDS), K y31_1 s31_μ = some (r0, μ0) → J X l rmX4_digest D 2 0 0 (mdW D aμ s31_μ) [(1, .int y31_1), (0, .ref (aμ 0))] 155 []) (N : Nat), ∀ (y31_1 : Int32) (s31_μ : MDS), FX4_digest_L122  K N y31_1 s31_μ = some (r0, μ0) → J X l rmX4_digest D 2 0 0 (mdW D aμ s31_μ) [(1, .int y31_1), (0, .ref (aμ 0))] 122 [] := by
    intro K hK N
    induction N with
    | zero =>
      intro y31_1 s31_μ hF
      cases hF
    | succ N ih =>
      intro y31_1 s31_μ hF
      rw [FX4_digest_L122] at hF
      refine r_iload_n h 0 rfl rfl dX4_digest_122 ?_
      refine r_iconst (v := 4) h dX4_digest_123 (by decide) ?_
      refine r_aload_n h 1 rfl rfl dX4_digest_124 ?_
      refine r_get h fl_X4_7 0 rfl rfl dX4_digest_125 ?_
      refine r_bipush (v := 16) h dX4_digest_128 (by decide) ?_
      obtain ⟨hN, hF⟩ := o_gd hF
      refine r_iald h 1 rfl hN dX4_digest_130 ?_
      obtain ⟨u32, hu32, hF⟩ := o_nm hF
      refine J.top hu32 ?_
      refine r_imul h dX4_digest_131 ?_
      refine r_icmp_ge h 155 dX4_digest_132 (by decide) (fun c33 => ?_) (fun c33 => ?_)
      · replace hF := o_pos c33 hF
        exact J.loc (lv' := [(1, .int y31_1), (0, .ref (aμ 0))]) [0, 1] rfl (hK y31_1 s31_μ hF)
      · replace hF := o_neg c33 hF
        refine r_aload_n h 1 rfl rfl dX4_digest_135 ?_
        refine r_aload_n h 1 rfl rfl dX4_digest_136 ?_
        refine r_iload_n h 0 rfl rfl dX4_digest_137 ?_
        refine r_iconst (v := 4) h dX4_digest_138 (by decide) ?_
        refine r_idiv h (by decide) dX4_digest_139 ?_
        refine r_iload_n h 0 rfl rfl dX4_digest_140 ?_
        refine r_iconst (v := 4) h dX4_digest_141 (by decide) ?_
        refine r_irem h (by decide) dX4_digest_142 ?_
        obtain ⟨u34, hu34, hF⟩ := o_nm hF
        refine J.top hu34 ?_
        obtain ⟨z35, e36, hF⟩ := o_bind hF
        refine r_callVa (q0 := 0) (rest := [.ref (aμ 0)]) h hd_X4_tellPile wm_971 dX4_digest_143 (CX4_tellPile l D aμ s31_μ (y31_1 / (4 : Int32)) u34 z35 e36) rfl rfl rfl ⟨rfl, rfl⟩ ⟨by decide, by decide⟩ (Nat.le_of_ble_eq_true rfl) ⟨by decide, by decide⟩ rfl (fun v w' hp => ?_)
        obtain ⟨rfl, rfl⟩ := hp
        obtain ⟨z37, e38, hF⟩ := o_bind hF
        refine r_callVa (q0 := 0) (rest := []) h hd_X4_mix wm_1033 dX4_digest_146 (CX4_mix l D aμ s31_μ z35 z37 e38) rfl rfl rfl ⟨rfl, rfl⟩ ⟨by decide, by decide⟩ (Nat.le_of_ble_eq_true rfl) ⟨by decide, by decide⟩ rfl (fun v w' hp => ?_)
        obtain ⟨rfl, rfl⟩ := hp
        refine r_iinc (lv' := [(1, .int (y31_1 + 1)), (0, .ref (aμ 0))]) h 0 rfl (congrArg (fun z => y31_1 + z) (by decide : Int32.ofInt 1 = 1)) dX4_digest_149 (by decide) rfl ?_
        refine r_goto h 122 dX4_digest_152 (by decide) ?_
        exact J.loc (lv' := [(1, .int (y31_1 + 1)), (0, .ref (aμ 0))]) [0, 1] rfl (ih (y31_1 + 1) z37 hF)
  refine hL122 _ (fun y31_1 s31_μ hF => ?_) _ (0 : Int32) s22_μ hF
  refine r_aload_n h 1 rfl rfl dX4_digest_155 ?_
  refine r_aload_n h 1 rfl rfl dX4_digest_156 ?_
  refine r_get h fl_X4_33 0 rfl rfl dX4_digest_157 ?_
  obtain ⟨z39, e40, hF⟩ := o_bind hF
  refine r_callVa (q0 := 0) (rest := []) h hd_X4_mix wm_1033 dX4_digest_160 (CX4_mix l D aμ s31_μ s31_μ.2.2.2.2.2.1 z39 e40) rfl rfl rfl ⟨rfl, rfl⟩ ⟨by decide, by decide⟩ (Nat.le_of_ble_eq_true rfl) ⟨by decide, by decide⟩ rfl (fun v w' hp => ?_)
  obtain ⟨rfl, rfl⟩ := hp
  refine r_aload_n h 1 rfl rfl dX4_digest_163 ?_
  refine r_get h fl_X4_194 0 rfl rfl dX4_digest_164 ?_
  cases hF
  exact r_lret h hr dX4_digest_167 ⟨rfl, rfl⟩


def FX1_isFrozen_L12 (ρ : RS) (z1 : Int32) (K : Int32 → Option (Int32)) : Nat → Int32 → Option (Int32)
  | 0, _ => none
  | n + 1, y3_3 =>
  if ρ.2.2.2.2.2.2.2.2.1 ≤ y3_3 then
  (K y3_3)
else
  ((FX2_at (6 : Int32) (3 : Int32) 18 (ρ.2.2.2.2.2.2.2.2.1, ρ.2.2.1) y3_3 (1 : Int32)).bind fun z5 =>
  (FX2_at (6 : Int32) (3 : Int32) 18 (ρ.2.2.2.2.2.2.2.2.1, ρ.2.2.1) y3_3 (2 : Int32)).bind fun z7 =>
  (FX2_at (6 : Int32) (3 : Int32) 18 (ρ.2.2.2.2.2.2.2.2.1, ρ.2.2.1) y3_3 (0 : Int32)).bind fun z9 =>
  if z9 = z1 then
  (if ρ.2.2.2.2.2.2.2.2.2.2.2.1 < z5 then
  (FX1_isFrozen_L12 ρ z1 K n (y3_3 + 1))
else
  (if (z5 + z7) ≤ ρ.2.2.2.2.2.2.2.2.2.2.2.1 then
  (FX1_isFrozen_L12 ρ z1 K n (y3_3 + 1))
else
  (some (1 : Int32))))
else
  (FX1_isFrozen_L12 ρ z1 K n (y3_3 + 1)))
def FX1_isFrozen (ρ : RS) (x1 : Int32) : Option (Int32) :=
  (FX2_at (12 : Int32) (6 : Int32) 72 (ρ.2.2.2.2.2.2.1, ρ.1) x1 (3 : Int32)).bind fun z1 =>
  FX1_isFrozen_L12 ρ z1 (fun (y3_3 : Int32) =>
  some (0 : Int32)) FU (0 : Int32)
abbrev rmX1_isFrozen : Room := { frames := 1, cells := 0, slots := 0, locals := 22 }
set_option maxHeartbeats 4000000 in
set_option maxRecDepth 100000 in
theorem CX1_isFrozen (l : Launch) (D : va_G) (aρ : Nat → Nat) (ρ : RS) (x1 : Int32) (r0 : Int32) (hF : FX1_isFrozen ρ x1 = some r0) : Ct l D yX1_isFrozen cX1_isFrozen 6 (some .boolean) rmX1_isFrozen 0 0 [.ref (aρ 0), .int x1] (rmW D aρ ρ) (fun v w => v = some (.int r0) ∧ w = rmW D aρ ρ) := by
  refine Ct.of (own := RX1) (lv := [(0, .ref (aρ 0)), (1, .int x1)]) (by decide +kernel) rfl (Nat.le_of_ble_eq_true rfl) rfl (fun X h hr => ?_)
  unfold FX1_isFrozen at hF
  refine r_aload_n h 0 rfl rfl dX1_isFrozen_0 ?_
  refine r_get h fl_X1_14 0 rfl rfl dX1_isFrozen_1 ?_
  refine r_iload_n h 1 rfl rfl dX1_isFrozen_4 ?_
  refine r_iconst (v := 3) h dX1_isFrozen_5 (by decide) ?_
  obtain ⟨z1, e2, hF⟩ := o_bind hF
  refine r_callV (q0 := 0) (wr := w_pk (rmW D aρ ρ) [0, 2, 3, 4, 5, 6, 8, 9, 10]) (rest := []) h hd_X2_at wm_144 dX1_isFrozen_6 (CX2_at l D (aρ 1) (aρ 7) (12 : Int32) (6 : Int32) 72 (ρ.2.2.2.2.2.2.1, ρ.1) x1 (3 : Int32) z1 e2) [1, 7] [0, 2, 3, 4, 5, 6, 8, 9, 10] rfl rfl (by decide +kernel) rfl rfl rfl ⟨rfl, rfl⟩ ⟨by decide, by decide⟩ (Nat.le_of_ble_eq_true rfl) ⟨by decide, by decide⟩ rfl (fun v w' hp => ?_)
  obtain ⟨rfl, rfl⟩ := hp
  refine J.sub (ws' := rmW D aρ ρ) [0, 9, 1, 2, 3, 4, 5, 10, 6, 7, 8] rfl (by decide +kernel) ?_
  refine r_istore_n (lv' := [(2, .int z1), (0, .ref (aρ 0)), (1, .int x1)]) h rfl dX1_isFrozen_9 (by decide) rfl ?_
  refine r_iconst (v := 0) h dX1_isFrozen_10 (by decide) ?_
  refine r_istore_n (lv' := [(3, .int (0 : Int32)), (2, .int z1), (0, .ref (aρ 0)), (1, .int x1)]) h rfl dX1_isFrozen_11 (by decide) rfl ?_
  have hL12 : ∀ (K : Int32 → Option (Int32)) (hK : ∀ (y3_3 : Int32), K y3_3 = some r0 → J X l rmX1_isFrozen D 6 0 0 (rmW D aρ ρ) [(3, .int y3_3), (2, .int z1), (0, .ref (aρ 0)), (1, .int x1)] 87 []) (N : Nat), ∀ (y3_3 : Int32), FX1_isFrozen_L12 ρ z1 K N y3_3 = some r0 → J X l rmX1_isFrozen D 6 0 0 (rmW D aρ ρ) [(3, .int y3_3), (2, .int z1), (0, .ref (aρ 0)), (1, .int x1)] 12 [] := by
    intro K hK N
    induction N with
    | zero =>
      intro y3_3 hF
      cases hF
    | succ N ih =>
      intro y3_3 hF
      rw [FX1_isFrozen_L12] at hF
      refine r_iload_n h 0 rfl rfl dX1_isFrozen_12 ?_
      refine r_aload_n h 2 rfl rfl dX1_isFrozen_13 ?_
      refine r_get h fl_X1_23 0 rfl rfl dX1_isFrozen_14 ?_
      refine r_get h fl_X1_63 3 rfl rfl dX1_isFrozen_17 ?_
      refine r_icmp_ge h 87 dX1_isFrozen_20 (by decide) (fun c4 => ?_) (fun c4 => ?_)
      · replace hF := o_pos c4 hF
        exact J.loc (lv' := [(3, .int y3_3), (2, .int z1), (0, .ref (aρ 0)), (1, .int x1)]) [0, 1, 2, 3] rfl (hK y3_3 hF)
      · replace hF := o_neg c4 hF
        refine r_aload_n h 2 rfl rfl dX1_isFrozen_23 ?_
        refine r_get h fl_X1_23 0 rfl rfl dX1_isFrozen_24 ?_
        refine r_iload_n h 0 rfl rfl dX1_isFrozen_27 ?_
        refine r_iconst (v := 1) h dX1_isFrozen_28 (by decide) ?_
        obtain ⟨z5, e6, hF⟩ := o_bind hF
        refine r_callV (q0 := 0) (wr := w_pk (rmW D aρ ρ) [0, 1, 2, 4, 5, 6, 7, 8, 10]) (rest := []) h hd_X2_at wm_144 dX1_isFrozen_29 (CX2_at l D (aρ 3) (aρ 9) (6 : Int32) (3 : Int32) 18 (ρ.2.2.2.2.2.2.2.2.1, ρ.2.2.1) y3_3 (1 : Int32) z5 e6) [3, 9] [0, 1, 2, 4, 5, 6, 7, 8, 10] rfl rfl (by decide +kernel) rfl rfl rfl ⟨rfl, rfl⟩ ⟨by decide, by decide⟩ (Nat.le_of_ble_eq_true rfl) ⟨by decide, by decide⟩ rfl (fun v w' hp => ?_)
        obtain ⟨rfl, rfl⟩ := hp
        refine J.sub (ws' := rmW D aρ ρ) [0, 1, 2, 9, 3, 4, 5, 6, 7, 10, 8] rfl (by decide +kernel) ?_
        refine r_istore (lv' := [(4, .int z5), (3, .int y3_3), (2, .int z1), (0, .ref (aρ 0)), (1, .int x1)]) h dX1_isFrozen_32 (by decide) rfl ?_
        refine r_iload h 0 rfl dX1_isFrozen_34 ?_
        refine r_aload_n h 3 rfl rfl dX1_isFrozen_36 ?_
        refine r_get h fl_X1_23 0 rfl rfl dX1_isFrozen_37 ?_
        refine r_iload_n h 1 rfl rfl dX1_isFrozen_40 ?_
        refine r_iconst (v := 2) h dX1_isFrozen_41 (by decide) ?_
        obtain ⟨z7, e8, hF⟩ := o_bind hF
        refine r_callV (q0 := 0) (wr := w_pk (rmW D aρ ρ) [0, 1, 2, 4, 5, 6, 7, 8, 10]) (rest := [.int z5]) h hd_X2_at wm_144 dX1_isFrozen_42 (CX2_at l D (aρ 3) (aρ 9) (6 : Int32) (3 : Int32) 18 (ρ.2.2.2.2.2.2.2.2.1, ρ.2.2.1) y3_3 (2 : Int32) z7 e8) [3, 9] [0, 1, 2, 4, 5, 6, 7, 8, 10] rfl rfl (by decide +kernel) rfl rfl rfl ⟨rfl, rfl⟩ ⟨by decide, by decide⟩ (Nat.le_of_ble_eq_true rfl) ⟨by decide, by decide⟩ rfl (fun v w' hp => ?_)
        obtain ⟨rfl, rfl⟩ := hp
        refine J.sub (ws' := rmW D aρ ρ) [0, 1, 2, 9, 3, 4, 5, 6, 7, 10, 8] rfl (by decide +kernel) ?_
        refine r_iadd h dX1_isFrozen_45 ?_
        refine r_istore (lv' := [(5, .int (z5 + z7)), (4, .int z5), (3, .int y3_3), (2, .int z1), (0, .ref (aρ 0)), (1, .int x1)]) h dX1_isFrozen_46 (by decide) rfl ?_
        refine r_aload_n h 4 rfl rfl dX1_isFrozen_48 ?_
        refine r_get h fl_X1_23 0 rfl rfl dX1_isFrozen_49 ?_
        refine r_iload_n h 2 rfl rfl dX1_isFrozen_52 ?_
        refine r_iconst (v := 0) h dX1_isFrozen_53 (by decide) ?_
        obtain ⟨z9, e10, hF⟩ := o_bind hF
        refine r_callV (q0 := 0) (wr := w_pk (rmW D aρ ρ) [0, 1, 2, 4, 5, 6, 7, 8, 10]) (rest := []) h hd_X2_at wm_144 dX1_isFrozen_54 (CX2_at l D (aρ 3) (aρ 9) (6 : Int32) (3 : Int32) 18 (ρ.2.2.2.2.2.2.2.2.1, ρ.2.2.1) y3_3 (0 : Int32) z9 e10) [3, 9] [0, 1, 2, 4, 5, 6, 7, 8, 10] rfl rfl (by decide +kernel) rfl rfl rfl ⟨rfl, rfl⟩ ⟨by decide, by decide⟩ (Nat.le_of_ble_eq_true rfl) ⟨by decide, by decide⟩ rfl (fun v w' hp => ?_)
        obtain ⟨rfl, rfl⟩ := hp
        refine J.sub (ws' := rmW D aρ ρ) [0, 1, 2, 9, 3, 4, 5, 6, 7, 10, 8] rfl (by decide +kernel) ?_
        refine r_iload_n h 3 rfl rfl dX1_isFrozen_57 ?_
        refine r_icmp_ne h 81 dX1_isFrozen_58 (by decide) (fun c11 => ?_) (fun c11 => ?_)
        · replace hF := o_neg c11 hF
          refine r_iinc (lv' := [(3, .int (y3_3 + 1)), (5, .int (z5 + z7)), (4, .int z5), (2, .int z1), (0, .ref (aρ 0)), (1, .int x1)]) h 2 rfl (congrArg (fun z => y3_3 + z) (by decide : Int32.ofInt 1 = 1)) dX1_isFrozen_81 (by decide) rfl ?_
          refine r_goto h 12 dX1_isFrozen_84 (by decide) ?_
          exact J.loc (lv' := [(3, .int (y3_3 + 1)), (2, .int z1), (0, .ref (aρ 0)), (1, .int x1)]) [0, 3, 4, 5] rfl (ih (y3_3 + 1) hF)
        · replace hF := o_pos c11 hF
          refine r_iload h 1 rfl dX1_isFrozen_61 ?_
          refine r_aload_n h 4 rfl rfl dX1_isFrozen_63 ?_
          refine r_get h fl_X1_40 0 rfl rfl dX1_isFrozen_64 ?_
          refine r_icmp_gt h 81 dX1_isFrozen_67 (by decide) (fun c12 => ?_) (fun c12 => ?_)
          · replace hF := o_pos c12 hF
            refine r_iinc (lv' := [(3, .int (y3_3 + 1)), (5, .int (z5 + z7)), (4, .int z5), (2, .int z1), (0, .ref (aρ 0)), (1, .int x1)]) h 2 rfl (congrArg (fun z => y3_3 + z) (by decide : Int32.ofInt 1 = 1)) dX1_isFrozen_81 (by decide) rfl ?_
            refine r_goto h 12 dX1_isFrozen_84 (by decide) ?_
            exact J.loc (lv' := [(3, .int (y3_3 + 1)), (2, .int z1), (0, .ref (aρ 0)), (1, .int x1)]) [0, 3, 4, 5] rfl (ih (y3_3 + 1) hF)
          · replace hF := o_neg c12 hF
            refine r_aload_n h 4 rfl rfl dX1_isFrozen_70 ?_
            refine r_get h fl_X1_40 0 rfl rfl dX1_isFrozen_71 ?_
            refine r_iload h 0 rfl dX1_isFrozen_74 ?_
            refine r_icmp_ge h 81 dX1_isFrozen_76 (by decide) (fun c13 => ?_) (fun c13 => ?_)
            · replace hF := o_pos c13 hF
              refine r_iinc (lv' := [(3, .int (y3_3 + 1)), (5, .int (z5 + z7)), (4, .int z5), (2, .int z1), (0, .ref (aρ 0)), (1, .int x1)]) h 2 rfl (congrArg (fun z => y3_3 + z) (by decide : Int32.ofInt 1 = 1)) dX1_isFrozen_81 (by decide) rfl ?_
              refine r_goto h 12 dX1_isFrozen_84 (by decide) ?_
              exact J.loc (lv' := [(3, .int (y3_3 + 1)), (2, .int z1), (0, .ref (aρ 0)), (1, .int x1)]) [0, 3, 4, 5] rfl (ih (y3_3 + 1) hF)
            · replace hF := o_neg c13 hF
              refine r_iconst (v := 1) h dX1_isFrozen_79 (by decide) ?_
              cases hF
              exact r_zret h hr (Or.inr rfl) dX1_isFrozen_80 ⟨rfl, rfl⟩
  refine hL12 _ (fun y3_3 hF => ?_) _ (0 : Int32) hF
  refine r_iconst (v := 0) h dX1_isFrozen_87 (by decide) ?_
  cases hF
  exact r_zret h hr (Or.inl rfl) dX1_isFrozen_88 ⟨rfl, rfl⟩

def FX1_place (ρ : RS) (x1 : Int32) (x2 : Int32) (x3 : Int32) (x4 : Int32) : Option (RS) :=
  (FX2_put (12 : Int32) (6 : Int32) 72 (ρ.2.2.2.2.2.2.1, ρ.1) x1 (4 : Int32) x2).bind fun z1 =>
  (FX2_put (12 : Int32) (6 : Int32) 72 (z1.1, z1.2) x1 (5 : Int32) x3).bind fun z3 =>
  (FX2_put (12 : Int32) (6 : Int32) 72 (z3.1, z3.2) x1 (2 : Int32) x4).bind fun z5 =>
  some (z5.2, ρ.2.1, ρ.2.2.1, ρ.2.2.2.1, ρ.2.2.2.2.1, ρ.2.2.2.2.2.1, z5.1, ρ.2.2.2.2.2.2.2.1, ρ.2.2.2.2.2.2.2.2.1, ρ.2.2.2.2.2.2.2.2.2.1, ρ.2.2.2.2.2.2.2.2.2.2.1, ρ.2.2.2.2.2.2.2.2.2.2.2.1, ρ.2.2.2.2.2.2.2.2.2.2.2.2.1, ρ.2.2.2.2.2.2.2.2.2.2.2.2.2)
abbrev rmX1_place : Room := { frames := 1, cells := 0, slots := 0, locals := 23 }
set_option maxHeartbeats 4000000 in
set_option maxRecDepth 100000 in
theorem CX1_place (l : Launch) (D : va_G) (aρ : Nat → Nat) (ρ : RS) (x1 : Int32) (x2 : Int32) (x3 : Int32) (x4 : Int32) (ρ0 : RS) (hF : FX1_place ρ x1 x2 x3 x4 = some ρ0) : Ct l D yX1_place cX1_place 5 none rmX1_place 0 0 [.ref (aρ 0), .int x1, .int x2, .int x3, .int x4] (rmW D aρ ρ) (fun v w => v = none ∧ w = rmW D aρ ρ0) := by
  refine Ct.of (own := RX1) (lv := [(0, .ref (aρ 0)), (1, .int x1), (2, .int x2), (3, .int x3), (4, .int x4)]) (by decide +kernel) rfl (Nat.le_of_ble_eq_true rfl) rfl (fun X h hr => ?_)
  unfold FX1_place at hF
  refine r_aload_n h 0 rfl rfl dX1_place_0 ?_
  refine r_get h fl_X1_14 0 rfl rfl dX1_place_1 ?_
  refine r_iload_n h 1 rfl rfl dX1_place_4 ?_
  refine r_iconst (v := 4) h dX1_place_5 (by decide) ?_
  refine r_iload_n h 2 rfl rfl dX1_place_6 ?_
  obtain ⟨z1, e2, hF⟩ := o_bind hF
  refine r_callV (q0 := 0) (wr := w_pk (rmW D aρ ρ) [0, 2, 3, 4, 5, 6, 8, 9, 10]) (rest := []) h hd_X2_put wm_168 dX1_place_7 (CX2_put l D (aρ 1) (aρ 7) (12 : Int32) (6 : Int32) 72 (ρ.2.2.2.2.2.2.1, ρ.1) x1 (4 : Int32) x2 z1 e2) [1, 7] [0, 2, 3, 4, 5, 6, 8, 9, 10] rfl rfl (by decide +kernel) rfl rfl rfl ⟨rfl, rfl⟩ ⟨by decide, by decide⟩ (Nat.le_of_ble_eq_true rfl) ⟨by decide, by decide⟩ rfl (fun v w' hp => ?_)
  obtain ⟨rfl, rfl⟩ := hp
  refine J.sub (ws' := rmW D aρ (z1.2, ρ.2.1, ρ.2.2.1, ρ.2.2.2.1, ρ.2.2.2.2.1, ρ.2.2.2.2.2.1, z1.1, ρ.2.2.2.2.2.2.2.1, ρ.2.2.2.2.2.2.2.2.1, ρ.2.2.2.2.2.2.2.2.2.1, ρ.2.2.2.2.2.2.2.2.2.2.1, ρ.2.2.2.2.2.2.2.2.2.2.2.1, ρ.2.2.2.2.2.2.2.2.2.2.2.2.1, ρ.2.2.2.2.2.2.2.2.2.2.2.2.2)) [0, 9, 1, 2, 3, 4, 5, 10, 6, 7, 8] rfl (by decide +kernel) ?_
  refine r_aload_n h 0 rfl rfl dX1_place_10 ?_
  refine r_get h fl_X1_14 0 rfl rfl dX1_place_11 ?_
  refine r_iload_n h 1 rfl rfl dX1_place_14 ?_
  refine r_iconst (v := 5) h dX1_place_15 (by decide) ?_
  refine r_iload_n h 3 rfl rfl dX1_place_16 ?_
  obtain ⟨z3, e4, hF⟩ := o_bind hF
  refine r_callV (q0 := 0) (wr := w_pk (rmW D aρ (z1.2, ρ.2.1, ρ.2.2.1, ρ.2.2.2.1, ρ.2.2.2.2.1, ρ.2.2.2.2.2.1, z1.1, ρ.2.2.2.2.2.2.2.1, ρ.2.2.2.2.2.2.2.2.1, ρ.2.2.2.2.2.2.2.2.2.1, ρ.2.2.2.2.2.2.2.2.2.2.1, ρ.2.2.2.2.2.2.2.2.2.2.2.1, ρ.2.2.2.2.2.2.2.2.2.2.2.2.1, ρ.2.2.2.2.2.2.2.2.2.2.2.2.2)) [0, 2, 3, 4, 5, 6, 8, 9, 10]) (rest := []) h hd_X2_put wm_168 dX1_place_17 (CX2_put l D (aρ 1) (aρ 7) (12 : Int32) (6 : Int32) 72 (z1.1, z1.2) x1 (5 : Int32) x3 z3 e4) [1, 7] [0, 2, 3, 4, 5, 6, 8, 9, 10] rfl rfl (by decide +kernel) rfl rfl rfl ⟨rfl, rfl⟩ ⟨by decide, by decide⟩ (Nat.le_of_ble_eq_true rfl) ⟨by decide, by decide⟩ rfl (fun v w' hp => ?_)
  obtain ⟨rfl, rfl⟩ := hp
  refine J.sub (ws' := rmW D aρ (z3.2, ρ.2.1, ρ.2.2.1, ρ.2.2.2.1, ρ.2.2.2.2.1, ρ.2.2.2.2.2.1, z3.1, ρ.2.2.2.2.2.2.2.1, ρ.2.2.2.2.2.2.2.2.1, ρ.2.2.2.2.2.2.2.2.2.1, ρ.2.2.2.2.2.2.2.2.2.2.1, ρ.2.2.2.2.2.2.2.2.2.2.2.1, ρ.2.2.2.2.2.2.2.2.2.2.2.2.1, ρ.2.2.2.2.2.2.2.2.2.2.2.2.2)) [0, 9, 1, 2, 3, 4, 5, 10, 6, 7, 8] rfl (by decide +kernel) ?_
  refine r_aload_n h 0 rfl rfl dX1_place_20 ?_
  refine r_get h fl_X1_14 0 rfl rfl dX1_place_21 ?_
  refine r_iload_n h 1 rfl rfl dX1_place_24 ?_
  refine r_iconst (v := 2) h dX1_place_25 (by decide) ?_
  refine r_iload h 4 rfl dX1_place_26 ?_
  obtain ⟨z5, e6, hF⟩ := o_bind hF
  refine r_callV (q0 := 0) (wr := w_pk (rmW D aρ (z3.2, ρ.2.1, ρ.2.2.1, ρ.2.2.2.1, ρ.2.2.2.2.1, ρ.2.2.2.2.2.1, z3.1, ρ.2.2.2.2.2.2.2.1, ρ.2.2.2.2.2.2.2.2.1, ρ.2.2.2.2.2.2.2.2.2.1, ρ.2.2.2.2.2.2.2.2.2.2.1, ρ.2.2.2.2.2.2.2.2.2.2.2.1, ρ.2.2.2.2.2.2.2.2.2.2.2.2.1, ρ.2.2.2.2.2.2.2.2.2.2.2.2.2)) [0, 2, 3, 4, 5, 6, 8, 9, 10]) (rest := []) h hd_X2_put wm_168 dX1_place_28 (CX2_put l D (aρ 1) (aρ 7) (12 : Int32) (6 : Int32) 72 (z3.1, z3.2) x1 (2 : Int32) x4 z5 e6) [1, 7] [0, 2, 3, 4, 5, 6, 8, 9, 10] rfl rfl (by decide +kernel) rfl rfl rfl ⟨rfl, rfl⟩ ⟨by decide, by decide⟩ (Nat.le_of_ble_eq_true rfl) ⟨by decide, by decide⟩ rfl (fun v w' hp => ?_)
  obtain ⟨rfl, rfl⟩ := hp
  refine J.sub (ws' := rmW D aρ (z5.2, ρ.2.1, ρ.2.2.1, ρ.2.2.2.1, ρ.2.2.2.2.1, ρ.2.2.2.2.2.1, z5.1, ρ.2.2.2.2.2.2.2.1, ρ.2.2.2.2.2.2.2.2.1, ρ.2.2.2.2.2.2.2.2.2.1, ρ.2.2.2.2.2.2.2.2.2.2.1, ρ.2.2.2.2.2.2.2.2.2.2.2.1, ρ.2.2.2.2.2.2.2.2.2.2.2.2.1, ρ.2.2.2.2.2.2.2.2.2.2.2.2.2)) [0, 9, 1, 2, 3, 4, 5, 10, 6, 7, 8] rfl (by decide +kernel) ?_
  cases hF
  exact r_vret h hr dX1_place_31 ⟨rfl, rfl⟩

def FX1_standsIn (ρ : RS) (x1 : Int32) (x2 : Int32) : Option (Int32) :=
  (FX2_at (12 : Int32) (6 : Int32) 72 (ρ.2.2.2.2.2.2.1, ρ.1) x1 (4 : Int32)).bind fun z1 =>
  if z1 = x2 then
  (some (1 : Int32))
else
  (some (0 : Int32))
abbrev rmX1_standsIn : Room := { frames := 1, cells := 0, slots := 0, locals := 22 }
set_option maxHeartbeats 4000000 in
set_option maxRecDepth 100000 in
theorem CX1_standsIn (l : Launch) (D : va_G) (aρ : Nat → Nat) (ρ : RS) (x1 : Int32) (x2 : Int32) (r0 : Int32) (hF : FX1_standsIn ρ x1 x2 = some r0) : Ct l D yX1_standsIn cX1_standsIn 3 (some .boolean) rmX1_standsIn 0 0 [.ref (aρ 0), .int x1, .int x2] (rmW D aρ ρ) (fun v w => v = some (.int r0) ∧ w = rmW D aρ ρ) := by
  refine Ct.of (own := RX1) (lv := [(0, .ref (aρ 0)), (1, .int x1), (2, .int x2)]) (by decide +kernel) rfl (Nat.le_of_ble_eq_true rfl) rfl (fun X h hr => ?_)
  unfold FX1_standsIn at hF
  refine r_aload_n h 0 rfl rfl dX1_standsIn_0 ?_
  refine r_get h fl_X1_14 0 rfl rfl dX1_standsIn_1 ?_
  refine r_iload_n h 1 rfl rfl dX1_standsIn_4 ?_
  refine r_iconst (v := 4) h dX1_standsIn_5 (by decide) ?_
  obtain ⟨z1, e2, hF⟩ := o_bind hF
  refine r_callV (q0 := 0) (wr := w_pk (rmW D aρ ρ) [0, 2, 3, 4, 5, 6, 8, 9, 10]) (rest := []) h hd_X2_at wm_144 dX1_standsIn_6 (CX2_at l D (aρ 1) (aρ 7) (12 : Int32) (6 : Int32) 72 (ρ.2.2.2.2.2.2.1, ρ.1) x1 (4 : Int32) z1 e2) [1, 7] [0, 2, 3, 4, 5, 6, 8, 9, 10] rfl rfl (by decide +kernel) rfl rfl rfl ⟨rfl, rfl⟩ ⟨by decide, by decide⟩ (Nat.le_of_ble_eq_true rfl) ⟨by decide, by decide⟩ rfl (fun v w' hp => ?_)
  obtain ⟨rfl, rfl⟩ := hp
  refine J.sub (ws' := rmW D aρ ρ) [0, 9, 1, 2, 3, 4, 5, 10, 6, 7, 8] rfl (by decide +kernel) ?_
  refine r_iload_n h 2 rfl rfl dX1_standsIn_9 ?_
  refine r_icmp_ne h 17 dX1_standsIn_10 (by decide) (fun c3 => ?_) (fun c3 => ?_)
  · replace hF := o_neg c3 hF
    refine r_iconst (v := 0) h dX1_standsIn_17 (by decide) ?_
    cases hF
    exact r_zret h hr (Or.inl rfl) dX1_standsIn_18 ⟨rfl, rfl⟩
  · replace hF := o_pos c3 hF
    refine r_iconst (v := 1) h dX1_standsIn_13 (by decide) ?_
    refine r_goto h 18 dX1_standsIn_14 (by decide) ?_
    cases hF
    exact r_zret h hr (Or.inr rfl) dX1_standsIn_18 ⟨rfl, rfl⟩

def FX1_loadOfRack_L4 (ρ : RS) (x1 : Int32) (K : Int32 → Int32 → Option (Int32)) : Nat → Int32 → Int32 → Option (Int32)
  | 0, _, _ => none
  | n + 1, y1_3, y1_2 =>
  if ρ.2.2.2.2.2.2.1 ≤ y1_3 then
  (K y1_3 y1_2)
else
  ((FX1_standsIn ρ y1_3 x1).bind fun z3 =>
  if z3 = 0 then
  (FX1_loadOfRack_L4 ρ x1 K n (y1_3 + 1) y1_2)
else
  ((FX2_at (12 : Int32) (6 : Int32) 72 (ρ.2.2.2.2.2.2.1, ρ.1) y1_3 (1 : Int32)).bind fun z6 =>
  FX1_loadOfRack_L4 ρ x1 K n (y1_3 + 1) (y1_2 + z6)))
def FX1_loadOfRack (ρ : RS) (x1 : Int32) : Option (Int32) :=
  FX1_loadOfRack_L4 ρ x1 (fun (y1_3 : Int32) (y1_2 : Int32) =>
  some y1_2) FU (0 : Int32) (0 : Int32)
abbrev rmX1_loadOfRack : Room := { frames := 2, cells := 0, slots := 0, locals := 44 }
set_option maxHeartbeats 4000000 in
set_option maxRecDepth 100000 in
theorem CX1_loadOfRack (l : Launch) (D : va_G) (aρ : Nat → Nat) (ρ : RS) (x1 : Int32) (r0 : Int32) (hF : FX1_loadOfRack ρ x1 = some r0) : Ct l D yX1_loadOfRack cX1_loadOfRack 4 (some .int) rmX1_loadOfRack 0 0 [.ref (aρ 0), .int x1] (rmW D aρ ρ) (fun v w => v = some (.int r0) ∧ w = rmW D aρ ρ) := by
  refine Ct.of (own := RX1) (lv := [(0, .ref (aρ 0)), (1, .int x1)]) (by decide +kernel) rfl (Nat.le_of_ble_eq_true rfl) rfl (fun X h hr => ?_)
  unfold FX1_loadOfRack at hF
  refine r_iconst (v := 0) h dX1_loadOfRack_0 (by decide) ?_
  refine r_istore_n (lv' := [(2, .int (0 : Int32)), (0, .ref (aρ 0)), (1, .int x1)]) h rfl dX1_loadOfRack_1 (by decide) rfl ?_
  refine r_iconst (v := 0) h dX1_loadOfRack_2 (by decide) ?_
  refine r_istore_n (lv' := [(3, .int (0 : Int32)), (2, .int (0 : Int32)), (0, .ref (aρ 0)), (1, .int x1)]) h rfl dX1_loadOfRack_3 (by decide) rfl ?_
  have hL4 : ∀ (K : Int32 → Int32 → Option (Int32)) (hK : ∀ (y1_3 : Int32) (y1_2 : Int32), K y1_3 y1_2 = some r0 → J X l rmX1_loadOfRack D 4 0 0 (rmW D aρ ρ) [(3, .int y1_3), (2, .int y1_2), (0, .ref (aρ 0)), (1, .int x1)] 42 []) (N : Nat), ∀ (y1_3 : Int32) (y1_2 : Int32), FX1_loadOfRack_L4 ρ x1 K N y1_3 y1_2 = some r0 → J X l rmX1_loadOfRack D 4 0 0 (rmW D aρ ρ) [(3, .int y1_3), (2, .int y1_2), (0, .ref (aρ 0)), (1, .int x1)] 4 [] := by
    intro K hK N
    induction N with
    | zero =>
      intro y1_3 y1_2 hF
      cases hF
    | succ N ih =>
      intro y1_3 y1_2 hF
      rw [FX1_loadOfRack_L4] at hF
      refine r_iload_n h 0 rfl rfl dX1_loadOfRack_4 ?_
      refine r_aload_n h 2 rfl rfl dX1_loadOfRack_5 ?_
      refine r_get h fl_X1_14 0 rfl rfl dX1_loadOfRack_6 ?_
      refine r_get h fl_X1_63 1 rfl rfl dX1_loadOfRack_9 ?_
      refine r_icmp_ge h 42 dX1_loadOfRack_12 (by decide) (fun c2 => ?_) (fun c2 => ?_)
      · replace hF := o_pos c2 hF
        exact J.loc (lv' := [(3, .int y1_3), (2, .int y1_2), (0, .ref (aρ 0)), (1, .int x1)]) [0, 1, 2, 3] rfl (hK y1_3 y1_2 hF)
      · replace hF := o_neg c2 hF
        refine r_aload_n h 2 rfl rfl dX1_loadOfRack_15 ?_
        refine r_iload_n h 0 rfl rfl dX1_loadOfRack_16 ?_
        refine r_iload_n h 3 rfl rfl dX1_loadOfRack_17 ?_
        obtain ⟨z3, e4, hF⟩ := o_bind hF
        refine r_callVa (q0 := 0) (rest := []) h hd_X1_standsIn wm_156 dX1_loadOfRack_18 (CX1_standsIn l D aρ ρ y1_3 x1 z3 e4) rfl rfl rfl ⟨rfl, rfl⟩ ⟨by decide, by decide⟩ (Nat.le_of_ble_eq_true rfl) ⟨by decide, by decide⟩ rfl (fun v w' hp => ?_)
        obtain ⟨rfl, rfl⟩ := hp
        refine r_if_eq h 36 dX1_loadOfRack_21 (by decide) (fun c5 => ?_) (fun c5 => ?_)
        · replace hF := o_pos c5 hF
          refine r_iinc (lv' := [(3, .int (y1_3 + 1)), (2, .int y1_2), (0, .ref (aρ 0)), (1, .int x1)]) h 0 rfl (congrArg (fun z => y1_3 + z) (by decide : Int32.ofInt 1 = 1)) dX1_loadOfRack_36 (by decide) rfl ?_
          refine r_goto h 4 dX1_loadOfRack_39 (by decide) ?_
          exact J.loc (lv' := [(3, .int (y1_3 + 1)), (2, .int y1_2), (0, .ref (aρ 0)), (1, .int x1)]) [0, 1, 2, 3] rfl (ih (y1_3 + 1) y1_2 hF)
        · replace hF := o_neg c5 hF
          refine r_iload_n h 1 rfl rfl dX1_loadOfRack_24 ?_
          refine r_aload_n h 2 rfl rfl dX1_loadOfRack_25 ?_
          refine r_get h fl_X1_14 0 rfl rfl dX1_loadOfRack_26 ?_
          refine r_iload_n h 0 rfl rfl dX1_loadOfRack_29 ?_
          refine r_iconst (v := 1) h dX1_loadOfRack_30 (by decide) ?_
          obtain ⟨z6, e7, hF⟩ := o_bind hF
          refine r_callV (q0 := 0) (wr := w_pk (rmW D aρ ρ) [0, 2, 3, 4, 5, 6, 8, 9, 10]) (rest := [.int y1_2]) h hd_X2_at wm_144 dX1_loadOfRack_31 (CX2_at l D (aρ 1) (aρ 7) (12 : Int32) (6 : Int32) 72 (ρ.2.2.2.2.2.2.1, ρ.1) y1_3 (1 : Int32) z6 e7) [1, 7] [0, 2, 3, 4, 5, 6, 8, 9, 10] rfl rfl (by decide +kernel) rfl rfl rfl ⟨rfl, rfl⟩ ⟨by decide, by decide⟩ (Nat.le_of_ble_eq_true rfl) ⟨by decide, by decide⟩ rfl (fun v w' hp => ?_)
          obtain ⟨rfl, rfl⟩ := hp
          refine J.sub (ws' := rmW D aρ ρ) [0, 9, 1, 2, 3, 4, 5, 10, 6, 7, 8] rfl (by decide +kernel) ?_
          refine r_iadd h dX1_loadOfRack_34 ?_
          refine r_istore_n (lv' := [(2, .int (y1_2 + z6)), (3, .int y1_3), (0, .ref (aρ 0)), (1, .int x1)]) h rfl dX1_loadOfRack_35 (by decide) rfl ?_
          refine r_iinc (lv' := [(3, .int (y1_3 + 1)), (2, .int (y1_2 + z6)), (0, .ref (aρ 0)), (1, .int x1)]) h 1 rfl (congrArg (fun z => y1_3 + z) (by decide : Int32.ofInt 1 = 1)) dX1_loadOfRack_36 (by decide) rfl ?_
          refine r_goto h 4 dX1_loadOfRack_39 (by decide) ?_
          exact J.loc (lv' := [(3, .int (y1_3 + 1)), (2, .int (y1_2 + z6)), (0, .ref (aρ 0)), (1, .int x1)]) [0, 1, 2, 3] rfl (ih (y1_3 + 1) (y1_2 + z6) hF)
  refine hL4 _ (fun y1_3 y1_2 hF => ?_) _ (0 : Int32) (0 : Int32) hF
  refine r_iload_n h 1 rfl rfl dX1_loadOfRack_42 ?_
  cases hF
  exact r_iret h hr dX1_loadOfRack_43 ⟨rfl, rfl⟩

def FX1_rackOfEnd (ρ : RS) (x1 : Int32) (x2 : Int32) : Option (Int32) :=
  (FX2_at (10 : Int32) (3 : Int32) 30 (ρ.2.2.2.2.2.2.2.1, ρ.2.1) x1 x2).bind fun z1 =>
  (FX2_at (12 : Int32) (6 : Int32) 72 (ρ.2.2.2.2.2.2.1, ρ.1) z1 (4 : Int32)).bind fun z3 =>
  some z3
abbrev rmX1_rackOfEnd : Room := { frames := 1, cells := 0, slots := 0, locals := 22 }
set_option maxHeartbeats 4000000 in
set_option maxRecDepth 100000 in
theorem CX1_rackOfEnd (l : Launch) (D : va_G) (aρ : Nat → Nat) (ρ : RS) (x1 : Int32) (x2 : Int32) (r0 : Int32) (hF : FX1_rackOfEnd ρ x1 x2 = some r0) : Ct l D yX1_rackOfEnd cX1_rackOfEnd 3 (some .int) rmX1_rackOfEnd 0 0 [.ref (aρ 0), .int x1, .int x2] (rmW D aρ ρ) (fun v w => v = some (.int r0) ∧ w = rmW D aρ ρ) := by
  refine Ct.of (own := RX1) (lv := [(0, .ref (aρ 0)), (1, .int x1), (2, .int x2)]) (by decide +kernel) rfl (Nat.le_of_ble_eq_true rfl) rfl (fun X h hr => ?_)
  unfold FX1_rackOfEnd at hF
  refine r_aload_n h 0 rfl rfl dX1_rackOfEnd_0 ?_
  refine r_get h fl_X1_14 0 rfl rfl dX1_rackOfEnd_1 ?_
  refine r_aload_n h 0 rfl rfl dX1_rackOfEnd_4 ?_
  refine r_get h fl_X1_20 0 rfl rfl dX1_rackOfEnd_5 ?_
  refine r_iload_n h 1 rfl rfl dX1_rackOfEnd_8 ?_
  refine r_iload_n h 2 rfl rfl dX1_rackOfEnd_9 ?_
  obtain ⟨z1, e2, hF⟩ := o_bind hF
  refine r_callV (q0 := 0) (wr := w_pk (rmW D aρ ρ) [0, 1, 3, 4, 5, 6, 7, 9, 10]) (rest := [.ref (aρ 1)]) h hd_X2_at wm_144 dX1_rackOfEnd_10 (CX2_at l D (aρ 2) (aρ 8) (10 : Int32) (3 : Int32) 30 (ρ.2.2.2.2.2.2.2.1, ρ.2.1) x1 x2 z1 e2) [2, 8] [0, 1, 3, 4, 5, 6, 7, 9, 10] rfl rfl (by decide +kernel) rfl rfl rfl ⟨rfl, rfl⟩ ⟨by decide, by decide⟩ (Nat.le_of_ble_eq_true rfl) ⟨by decide, by decide⟩ rfl (fun v w' hp => ?_)
  obtain ⟨rfl, rfl⟩ := hp
  refine J.sub (ws' := rmW D aρ ρ) [0, 1, 9, 2, 3, 4, 5, 6, 10, 7, 8] rfl (by decide +kernel) ?_
  refine r_iconst (v := 4) h dX1_rackOfEnd_13 (by decide) ?_
  obtain ⟨z3, e4, hF⟩ := o_bind hF
  refine r_callV (q0 := 0) (wr := w_pk (rmW D aρ ρ) [0, 2, 3, 4, 5, 6, 8, 9, 10]) (rest := []) h hd_X2_at wm_144 dX1_rackOfEnd_14 (CX2_at l D (aρ 1) (aρ 7) (12 : Int32) (6 : Int32) 72 (ρ.2.2.2.2.2.2.1, ρ.1) z1 (4 : Int32) z3 e4) [1, 7] [0, 2, 3, 4, 5, 6, 8, 9, 10] rfl rfl (by decide +kernel) rfl rfl rfl ⟨rfl, rfl⟩ ⟨by decide, by decide⟩ (Nat.le_of_ble_eq_true rfl) ⟨by decide, by decide⟩ rfl (fun v w' hp => ?_)
  obtain ⟨rfl, rfl⟩ := hp
  refine J.sub (ws' := rmW D aρ ρ) [0, 9, 1, 2, 3, 4, 5, 10, 6, 7, 8] rfl (by decide +kernel) ?_
  cases hF
  exact r_iret h hr dX1_rackOfEnd_17 ⟨rfl, rfl⟩

def FX1_cablesInTray_L4 (ρ : RS) (x1 : Int32) (K : Int32 → Int32 → Option (Int32)) : Nat → Int32 → Int32 → Option (Int32)
  | 0, _, _ => none
  | n + 1, y1_3, y1_2 =>
  if ρ.2.2.2.2.2.2.2.1 ≤ y1_3 then
  (K y1_3 y1_2)
else
  ((FX1_rackOfEnd ρ y1_3 (0 : Int32)).bind fun z3 =>
  (FX1_rackOfEnd ρ y1_3 (1 : Int32)).bind fun z5 =>
  if z3 = (-1 : Int32) then
  (if (1 : Int32) = 0 then
  (if x1 < (if z5 < z3 then z5 else z3) then
  (FX1_cablesInTray_L4 ρ x1 K n (y1_3 + 1) y1_2)
else
  (if (if z3 < z5 then z5 else z3) ≤ x1 then
  (FX1_cablesInTray_L4 ρ x1 K n (y1_3 + 1) y1_2)
else
  (FX1_cablesInTray_L4 ρ x1 K n (y1_3 + 1) (y1_2 + 1))))
else
  (FX1_cablesInTray_L4 ρ x1 K n (y1_3 + 1) y1_2))
else
  (if z5 = (-1 : Int32) then
  (if (1 : Int32) = 0 then
  (if x1 < (if z5 < z3 then z5 else z3) then
  (FX1_cablesInTray_L4 ρ x1 K n (y1_3 + 1) y1_2)
else
  (if (if z3 < z5 then z5 else z3) ≤ x1 then
  (FX1_cablesInTray_L4 ρ x1 K n (y1_3 + 1) y1_2)
else
  (FX1_cablesInTray_L4 ρ x1 K n (y1_3 + 1) (y1_2 + 1))))
else
  (FX1_cablesInTray_L4 ρ x1 K n (y1_3 + 1) y1_2))
else
  (if (0 : Int32) = 0 then
  (if x1 < (if z5 < z3 then z5 else z3) then
  (FX1_cablesInTray_L4 ρ x1 K n (y1_3 + 1) y1_2)
else
  (if (if z3 < z5 then z5 else z3) ≤ x1 then
  (FX1_cablesInTray_L4 ρ x1 K n (y1_3 + 1) y1_2)
else
  (FX1_cablesInTray_L4 ρ x1 K n (y1_3 + 1) (y1_2 + 1))))
else
  (FX1_cablesInTray_L4 ρ x1 K n (y1_3 + 1) y1_2))))
def FX1_cablesInTray (ρ : RS) (x1 : Int32) : Option (Int32) :=
  FX1_cablesInTray_L4 ρ x1 (fun (y1_3 : Int32) (y1_2 : Int32) =>
  some y1_2) FU (0 : Int32) (0 : Int32)
abbrev rmX1_cablesInTray : Room := { frames := 2, cells := 0, slots := 0, locals := 44 }
set_option maxHeartbeats 4000000 in
set_option maxRecDepth 100000 in
theorem CX1_cablesInTray (l : Launch) (D : va_G) (aρ : Nat → Nat) (ρ : RS) (x1 : Int32) (r0 : Int32) (hF : FX1_cablesInTray ρ x1 = some r0) : Ct l D yX1_cablesInTray cX1_cablesInTray 7 (some .int) rmX1_cablesInTray 0 0 [.ref (aρ 0), .int x1] (rmW D aρ ρ) (fun v w => v = some (.int r0) ∧ w = rmW D aρ ρ) := by
  refine Ct.of (own := RX1) (lv := [(0, .ref (aρ 0)), (1, .int x1)]) (by decide +kernel) rfl (Nat.le_of_ble_eq_true rfl) rfl (fun X h hr => ?_)
  unfold FX1_cablesInTray at hF
  refine r_iconst (v := 0) h dX1_cablesInTray_0 (by decide) ?_
  refine r_istore_n (lv' := [(2, .int (0 : Int32)), (0, .ref (aρ 0)), (1, .int x1)]) h rfl dX1_cablesInTray_1 (by decide) rfl ?_
  refine r_iconst (v := 0) h dX1_cablesInTray_2 (by decide) ?_
  refine r_istore_n (lv' := [(3, .int (0 : Int32)), (2, .int (0 : Int32)), (0, .ref (aρ 0)), (1, .int x1)]) h rfl dX1_cablesInTray_3 (by decide) rfl ?_
  have hL4 : ∀ (K : Int32 → Int32 → Option (Int32)) (hK : ∀ (y1_3 : Int32) (y1_2 : Int32), K y1_3 y1_2 = some r0 → J X l rmX1_cablesInTray D 7 0 0 (rmW D aρ ρ) [(3, .int y1_3), (2, .int y1_2), (0, .ref (aρ 0)), (1, .int x1)] 86 []) (N : Nat), ∀ (y1_3 : Int32) (y1_2 : Int32), FX1_cablesInTray_L4 ρ x1 K N y1_3 y1_2 = some r0 → J X l rmX1_cablesInTray D 7 0 0 (rmW D aρ ρ) [(3, .int y1_3), (2, .int y1_2), (0, .ref (aρ 0)), (1, .int x1)] 4 [] := by
    intro K hK N
    induction N with
    | zero =>
      intro y1_3 y1_2 hF
      cases hF
    | succ N ih =>
      intro y1_3 y1_2 hF
      rw [FX1_cablesInTray_L4] at hF
      refine r_iload_n h 0 rfl rfl dX1_cablesInTray_4 ?_
      refine r_aload_n h 2 rfl rfl dX1_cablesInTray_5 ?_
      refine r_get h fl_X1_20 0 rfl rfl dX1_cablesInTray_6 ?_
      refine r_get h fl_X1_63 2 rfl rfl dX1_cablesInTray_9 ?_
      refine r_icmp_ge h 86 dX1_cablesInTray_12 (by decide) (fun c2 => ?_) (fun c2 => ?_)
      · replace hF := o_pos c2 hF
        exact J.loc (lv' := [(3, .int y1_3), (2, .int y1_2), (0, .ref (aρ 0)), (1, .int x1)]) [0, 1, 2, 3] rfl (hK y1_3 y1_2 hF)
      · replace hF := o_neg c2 hF
        refine r_aload_n h 2 rfl rfl dX1_cablesInTray_15 ?_
        refine r_iload_n h 0 rfl rfl dX1_cablesInTray_16 ?_
        refine r_iconst (v := 0) h dX1_cablesInTray_17 (by decide) ?_
        obtain ⟨z3, e4, hF⟩ := o_bind hF
        refine r_callVa (q0 := 0) (rest := []) h hd_X1_rackOfEnd wm_184 dX1_cablesInTray_18 (CX1_rackOfEnd l D aρ ρ y1_3 (0 : Int32) z3 e4) rfl rfl rfl ⟨rfl, rfl⟩ ⟨by decide, by decide⟩ (Nat.le_of_ble_eq_true rfl) ⟨by decide, by decide⟩ rfl (fun v w' hp => ?_)
        obtain ⟨rfl, rfl⟩ := hp
        refine r_istore (lv' := [(4, .int z3), (3, .int y1_3), (2, .int y1_2), (0, .ref (aρ 0)), (1, .int x1)]) h dX1_cablesInTray_21 (by decide) rfl ?_
        refine r_aload_n h 3 rfl rfl dX1_cablesInTray_23 ?_
        refine r_iload_n h 1 rfl rfl dX1_cablesInTray_24 ?_
        refine r_iconst (v := 1) h dX1_cablesInTray_25 (by decide) ?_
        obtain ⟨z5, e6, hF⟩ := o_bind hF
        refine r_callVa (q0 := 0) (rest := []) h hd_X1_rackOfEnd wm_184 dX1_cablesInTray_26 (CX1_rackOfEnd l D aρ ρ y1_3 (1 : Int32) z5 e6) rfl rfl rfl ⟨rfl, rfl⟩ ⟨by decide, by decide⟩ (Nat.le_of_ble_eq_true rfl) ⟨by decide, by decide⟩ rfl (fun v w' hp => ?_)
        obtain ⟨rfl, rfl⟩ := hp
        refine r_istore (lv' := [(5, .int z5), (4, .int z3), (3, .int y1_3), (2, .int y1_2), (0, .ref (aρ 0)), (1, .int x1)]) h dX1_cablesInTray_29 (by decide) rfl ?_
        refine r_iload h 1 rfl dX1_cablesInTray_31 ?_
        refine r_iconst (v := -1) h dX1_cablesInTray_33 (by decide) ?_
        refine r_icmp_eq h 43 dX1_cablesInTray_34 (by decide) (fun c7 => ?_) (fun c7 => ?_)
        · replace hF := o_pos c7 hF
          refine r_iconst (v := 1) h dX1_cablesInTray_43 (by decide) ?_
          refine r_goto h 48 dX1_cablesInTray_44 (by decide) ?_
          refine r_istore (lv' := [(6, .int (1 : Int32)), (5, .int z5), (4, .int z3), (3, .int y1_3), (2, .int y1_2), (0, .ref (aρ 0)), (1, .int x1)]) h dX1_cablesInTray_48 (by decide) rfl ?_
          refine r_iload h 0 rfl dX1_cablesInTray_50 ?_
          refine r_if_ne h 80 dX1_cablesInTray_52 (by decide) (fun c8 => ?_) (fun c8 => ?_)
          · replace hF := o_neg c8 hF
            refine r_iinc (lv' := [(3, .int (y1_3 + 1)), (6, .int (1 : Int32)), (5, .int z5), (4, .int z3), (2, .int y1_2), (0, .ref (aρ 0)), (1, .int x1)]) h 3 rfl (congrArg (fun z => y1_3 + z) (by decide : Int32.ofInt 1 = 1)) dX1_cablesInTray_80 (by decide) rfl ?_
            refine r_goto h 4 dX1_cablesInTray_83 (by decide) ?_
            exact J.loc (lv' := [(3, .int (y1_3 + 1)), (2, .int y1_2), (0, .ref (aρ 0)), (1, .int x1)]) [0, 4, 5, 6] rfl (ih (y1_3 + 1) y1_2 hF)
          · replace hF := o_pos c8 hF
            refine r_iload h 2 rfl dX1_cablesInTray_55 ?_
            refine r_iload h 1 rfl dX1_cablesInTray_57 ?_
            refine r_min h wm_188 wm_189 wm_13 wm_190 (by decide) (Nat.le_of_ble_eq_true rfl) (by decide) (by decide) dX1_cablesInTray_59 ?_
            refine r_iload_n h 6 rfl rfl dX1_cablesInTray_62 ?_
            refine r_icmp_gt h 80 dX1_cablesInTray_63 (by decide) (fun c9 => ?_) (fun c9 => ?_)
            · replace hF := o_pos c9 hF
              refine r_iinc (lv' := [(3, .int (y1_3 + 1)), (6, .int (1 : Int32)), (5, .int z5), (4, .int z3), (2, .int y1_2), (0, .ref (aρ 0)), (1, .int x1)]) h 3 rfl (congrArg (fun z => y1_3 + z) (by decide : Int32.ofInt 1 = 1)) dX1_cablesInTray_80 (by decide) rfl ?_
              refine r_goto h 4 dX1_cablesInTray_83 (by decide) ?_
              exact J.loc (lv' := [(3, .int (y1_3 + 1)), (2, .int y1_2), (0, .ref (aρ 0)), (1, .int x1)]) [0, 4, 5, 6] rfl (ih (y1_3 + 1) y1_2 hF)
            · replace hF := o_neg c9 hF
              refine r_iload_n h 6 rfl rfl dX1_cablesInTray_66 ?_
              refine r_iload h 2 rfl dX1_cablesInTray_67 ?_
              refine r_iload h 1 rfl dX1_cablesInTray_69 ?_
              refine r_max h wm_191 wm_192 wm_13 wm_193 (by decide) (Nat.le_of_ble_eq_true rfl) (by decide) (by decide) dX1_cablesInTray_71 ?_
              refine r_icmp_ge h 80 dX1_cablesInTray_74 (by decide) (fun c10 => ?_) (fun c10 => ?_)
              · replace hF := o_pos c10 hF
                refine r_iinc (lv' := [(3, .int (y1_3 + 1)), (6, .int (1 : Int32)), (5, .int z5), (4, .int z3), (2, .int y1_2), (0, .ref (aρ 0)), (1, .int x1)]) h 3 rfl (congrArg (fun z => y1_3 + z) (by decide : Int32.ofInt 1 = 1)) dX1_cablesInTray_80 (by decide) rfl ?_
                refine r_goto h 4 dX1_cablesInTray_83 (by decide) ?_
                exact J.loc (lv' := [(3, .int (y1_3 + 1)), (2, .int y1_2), (0, .ref (aρ 0)), (1, .int x1)]) [0, 4, 5, 6] rfl (ih (y1_3 + 1) y1_2 hF)
              · replace hF := o_neg c10 hF
                refine r_iinc (lv' := [(2, .int (y1_2 + 1)), (6, .int (1 : Int32)), (5, .int z5), (4, .int z3), (3, .int y1_3), (0, .ref (aρ 0)), (1, .int x1)]) h 4 rfl (congrArg (fun z => y1_2 + z) (by decide : Int32.ofInt 1 = 1)) dX1_cablesInTray_77 (by decide) rfl ?_
                refine r_iinc (lv' := [(3, .int (y1_3 + 1)), (2, .int (y1_2 + 1)), (6, .int (1 : Int32)), (5, .int z5), (4, .int z3), (0, .ref (aρ 0)), (1, .int x1)]) h 4 rfl (congrArg (fun z => y1_3 + z) (by decide : Int32.ofInt 1 = 1)) dX1_cablesInTray_80 (by decide) rfl ?_
                refine r_goto h 4 dX1_cablesInTray_83 (by decide) ?_
                exact J.loc (lv' := [(3, .int (y1_3 + 1)), (2, .int (y1_2 + 1)), (0, .ref (aρ 0)), (1, .int x1)]) [0, 1, 5, 6] rfl (ih (y1_3 + 1) (y1_2 + 1) hF)
        · replace hF := o_neg c7 hF
          refine r_iload h 0 rfl dX1_cablesInTray_37 ?_
          refine r_iconst (v := -1) h dX1_cablesInTray_39 (by decide) ?_
          refine r_icmp_ne h 47 dX1_cablesInTray_40 (by decide) (fun c11 => ?_) (fun c11 => ?_)
          · replace hF := o_neg c11 hF
            refine r_iconst (v := 0) h dX1_cablesInTray_47 (by decide) ?_
            refine r_istore (lv' := [(6, .int (0 : Int32)), (5, .int z5), (4, .int z3), (3, .int y1_3), (2, .int y1_2), (0, .ref (aρ 0)), (1, .int x1)]) h dX1_cablesInTray_48 (by decide) rfl ?_
            refine r_iload h 0 rfl dX1_cablesInTray_50 ?_
            refine r_if_ne h 80 dX1_cablesInTray_52 (by decide) (fun c12 => ?_) (fun c12 => ?_)
            · replace hF := o_neg c12 hF
              refine r_iinc (lv' := [(3, .int (y1_3 + 1)), (6, .int (0 : Int32)), (5, .int z5), (4, .int z3), (2, .int y1_2), (0, .ref (aρ 0)), (1, .int x1)]) h 3 rfl (congrArg (fun z => y1_3 + z) (by decide : Int32.ofInt 1 = 1)) dX1_cablesInTray_80 (by decide) rfl ?_
              refine r_goto h 4 dX1_cablesInTray_83 (by decide) ?_
              exact J.loc (lv' := [(3, .int (y1_3 + 1)), (2, .int y1_2), (0, .ref (aρ 0)), (1, .int x1)]) [0, 4, 5, 6] rfl (ih (y1_3 + 1) y1_2 hF)
            · replace hF := o_pos c12 hF
              refine r_iload h 2 rfl dX1_cablesInTray_55 ?_
              refine r_iload h 1 rfl dX1_cablesInTray_57 ?_
              refine r_min h wm_188 wm_189 wm_13 wm_190 (by decide) (Nat.le_of_ble_eq_true rfl) (by decide) (by decide) dX1_cablesInTray_59 ?_
              refine r_iload_n h 6 rfl rfl dX1_cablesInTray_62 ?_
              refine r_icmp_gt h 80 dX1_cablesInTray_63 (by decide) (fun c13 => ?_) (fun c13 => ?_)
              · replace hF := o_pos c13 hF
                refine r_iinc (lv' := [(3, .int (y1_3 + 1)), (6, .int (0 : Int32)), (5, .int z5), (4, .int z3), (2, .int y1_2), (0, .ref (aρ 0)), (1, .int x1)]) h 3 rfl (congrArg (fun z => y1_3 + z) (by decide : Int32.ofInt 1 = 1)) dX1_cablesInTray_80 (by decide) rfl ?_
                refine r_goto h 4 dX1_cablesInTray_83 (by decide) ?_
                exact J.loc (lv' := [(3, .int (y1_3 + 1)), (2, .int y1_2), (0, .ref (aρ 0)), (1, .int x1)]) [0, 4, 5, 6] rfl (ih (y1_3 + 1) y1_2 hF)
              · replace hF := o_neg c13 hF
                refine r_iload_n h 6 rfl rfl dX1_cablesInTray_66 ?_
                refine r_iload h 2 rfl dX1_cablesInTray_67 ?_
                refine r_iload h 1 rfl dX1_cablesInTray_69 ?_
                refine r_max h wm_191 wm_192 wm_13 wm_193 (by decide) (Nat.le_of_ble_eq_true rfl) (by decide) (by decide) dX1_cablesInTray_71 ?_
                refine r_icmp_ge h 80 dX1_cablesInTray_74 (by decide) (fun c14 => ?_) (fun c14 => ?_)
                · replace hF := o_pos c14 hF
                  refine r_iinc (lv' := [(3, .int (y1_3 + 1)), (6, .int (0 : Int32)), (5, .int z5), (4, .int z3), (2, .int y1_2), (0, .ref (aρ 0)), (1, .int x1)]) h 3 rfl (congrArg (fun z => y1_3 + z) (by decide : Int32.ofInt 1 = 1)) dX1_cablesInTray_80 (by decide) rfl ?_
                  refine r_goto h 4 dX1_cablesInTray_83 (by decide) ?_
                  exact J.loc (lv' := [(3, .int (y1_3 + 1)), (2, .int y1_2), (0, .ref (aρ 0)), (1, .int x1)]) [0, 4, 5, 6] rfl (ih (y1_3 + 1) y1_2 hF)
                · replace hF := o_neg c14 hF
                  refine r_iinc (lv' := [(2, .int (y1_2 + 1)), (6, .int (0 : Int32)), (5, .int z5), (4, .int z3), (3, .int y1_3), (0, .ref (aρ 0)), (1, .int x1)]) h 4 rfl (congrArg (fun z => y1_2 + z) (by decide : Int32.ofInt 1 = 1)) dX1_cablesInTray_77 (by decide) rfl ?_
                  refine r_iinc (lv' := [(3, .int (y1_3 + 1)), (2, .int (y1_2 + 1)), (6, .int (0 : Int32)), (5, .int z5), (4, .int z3), (0, .ref (aρ 0)), (1, .int x1)]) h 4 rfl (congrArg (fun z => y1_3 + z) (by decide : Int32.ofInt 1 = 1)) dX1_cablesInTray_80 (by decide) rfl ?_
                  refine r_goto h 4 dX1_cablesInTray_83 (by decide) ?_
                  exact J.loc (lv' := [(3, .int (y1_3 + 1)), (2, .int (y1_2 + 1)), (0, .ref (aρ 0)), (1, .int x1)]) [0, 1, 5, 6] rfl (ih (y1_3 + 1) (y1_2 + 1) hF)
          · replace hF := o_pos c11 hF
            refine r_iconst (v := 1) h dX1_cablesInTray_43 (by decide) ?_
            refine r_goto h 48 dX1_cablesInTray_44 (by decide) ?_
            refine r_istore (lv' := [(6, .int (1 : Int32)), (5, .int z5), (4, .int z3), (3, .int y1_3), (2, .int y1_2), (0, .ref (aρ 0)), (1, .int x1)]) h dX1_cablesInTray_48 (by decide) rfl ?_
            refine r_iload h 0 rfl dX1_cablesInTray_50 ?_
            refine r_if_ne h 80 dX1_cablesInTray_52 (by decide) (fun c15 => ?_) (fun c15 => ?_)
            · replace hF := o_neg c15 hF
              refine r_iinc (lv' := [(3, .int (y1_3 + 1)), (6, .int (1 : Int32)), (5, .int z5), (4, .int z3), (2, .int y1_2), (0, .ref (aρ 0)), (1, .int x1)]) h 3 rfl (congrArg (fun z => y1_3 + z) (by decide : Int32.ofInt 1 = 1)) dX1_cablesInTray_80 (by decide) rfl ?_
              refine r_goto h 4 dX1_cablesInTray_83 (by decide) ?_
              exact J.loc (lv' := [(3, .int (y1_3 + 1)), (2, .int y1_2), (0, .ref (aρ 0)), (1, .int x1)]) [0, 4, 5, 6] rfl (ih (y1_3 + 1) y1_2 hF)
            · replace hF := o_pos c15 hF
              refine r_iload h 2 rfl dX1_cablesInTray_55 ?_
              refine r_iload h 1 rfl dX1_cablesInTray_57 ?_
              refine r_min h wm_188 wm_189 wm_13 wm_190 (by decide) (Nat.le_of_ble_eq_true rfl) (by decide) (by decide) dX1_cablesInTray_59 ?_
              refine r_iload_n h 6 rfl rfl dX1_cablesInTray_62 ?_
              refine r_icmp_gt h 80 dX1_cablesInTray_63 (by decide) (fun c16 => ?_) (fun c16 => ?_)
              · replace hF := o_pos c16 hF
                refine r_iinc (lv' := [(3, .int (y1_3 + 1)), (6, .int (1 : Int32)), (5, .int z5), (4, .int z3), (2, .int y1_2), (0, .ref (aρ 0)), (1, .int x1)]) h 3 rfl (congrArg (fun z => y1_3 + z) (by decide : Int32.ofInt 1 = 1)) dX1_cablesInTray_80 (by decide) rfl ?_
                refine r_goto h 4 dX1_cablesInTray_83 (by decide) ?_
                exact J.loc (lv' := [(3, .int (y1_3 + 1)), (2, .int y1_2), (0, .ref (aρ 0)), (1, .int x1)]) [0, 4, 5, 6] rfl (ih (y1_3 + 1) y1_2 hF)
              · replace hF := o_neg c16 hF
                refine r_iload_n h 6 rfl rfl dX1_cablesInTray_66 ?_
                refine r_iload h 2 rfl dX1_cablesInTray_67 ?_
                refine r_iload h 1 rfl dX1_cablesInTray_69 ?_
                refine r_max h wm_191 wm_192 wm_13 wm_193 (by decide) (Nat.le_of_ble_eq_true rfl) (by decide) (by decide) dX1_cablesInTray_71 ?_
                refine r_icmp_ge h 80 dX1_cablesInTray_74 (by decide) (fun c17 => ?_) (fun c17 => ?_)
                · replace hF := o_pos c17 hF
                  refine r_iinc (lv' := [(3, .int (y1_3 + 1)), (6, .int (1 : Int32)), (5, .int z5), (4, .int z3), (2, .int y1_2), (0, .ref (aρ 0)), (1, .int x1)]) h 3 rfl (congrArg (fun z => y1_3 + z) (by decide : Int32.ofInt 1 = 1)) dX1_cablesInTray_80 (by decide) rfl ?_
                  refine r_goto h 4 dX1_cablesInTray_83 (by decide) ?_
                  exact J.loc (lv' := [(3, .int (y1_3 + 1)), (2, .int y1_2), (0, .ref (aρ 0)), (1, .int x1)]) [0, 4, 5, 6] rfl (ih (y1_3 + 1) y1_2 hF)
                · replace hF := o_neg c17 hF
                  refine r_iinc (lv' := [(2, .int (y1_2 + 1)), (6, .int (1 : Int32)), (5, .int z5), (4, .int z3), (3, .int y1_3), (0, .ref (aρ 0)), (1, .int x1)]) h 4 rfl (congrArg (fun z => y1_2 + z) (by decide : Int32.ofInt 1 = 1)) dX1_cablesInTray_77 (by decide) rfl ?_
                  refine r_iinc (lv' := [(3, .int (y1_3 + 1)), (2, .int (y1_2 + 1)), (6, .int (1 : Int32)), (5, .int z5), (4, .int z3), (0, .ref (aρ 0)), (1, .int x1)]) h 4 rfl (congrArg (fun z => y1_3 + z) (by decide : Int32.ofInt 1 = 1)) dX1_cablesInTray_80 (by decide) rfl ?_
                  refine r_goto h 4 dX1_cablesInTray_83 (by decide) ?_
                  exact J.loc (lv' := [(3, .int (y1_3 + 1)), (2, .int (y1_2 + 1)), (0, .ref (aρ 0)), (1, .int x1)]) [0, 1, 5, 6] rfl (ih (y1_3 + 1) (y1_2 + 1) hF)
  refine hL4 _ (fun y1_3 y1_2 hF => ?_) _ (0 : Int32) (0 : Int32) hF
  refine r_iload_n h 1 rfl rfl dX1_cablesInTray_86 ?_
  cases hF
  exact r_iret h hr dX1_cablesInTray_87 ⟨rfl, rfl⟩

def FX1_needOfCable (ρ : RS) (x1 : Int32) : Option (Int32) :=
  (FX1_rackOfEnd ρ x1 (0 : Int32)).bind fun z1 =>
  (FX1_rackOfEnd ρ x1 (1 : Int32)).bind fun z3 =>
  if z1 = (-1 : Int32) then
  (some (0 : Int32))
else
  (if z3 = (-1 : Int32) then
  (some (0 : Int32))
else
  (nmv (if 0 ≤ (z1 - z3) then (z1 - z3) else 0 - (z1 - z3)) fun u7 =>
  some ((2 : Int32) + ((3 : Int32) * u7))))
abbrev rmX1_needOfCable : Room := { frames := 2, cells := 0, slots := 0, locals := 44 }
set_option maxHeartbeats 4000000 in
set_option maxRecDepth 100000 in
theorem CX1_needOfCable (l : Launch) (D : va_G) (aρ : Nat → Nat) (ρ : RS) (x1 : Int32) (r0 : Int32) (hF : FX1_needOfCable ρ x1 = some r0) : Ct l D yX1_needOfCable cX1_needOfCable 4 (some .int) rmX1_needOfCable 0 0 [.ref (aρ 0), .int x1] (rmW D aρ ρ) (fun v w => v = some (.int r0) ∧ w = rmW D aρ ρ) := by
  refine Ct.of (own := RX1) (lv := [(0, .ref (aρ 0)), (1, .int x1)]) (by decide +kernel) rfl (Nat.le_of_ble_eq_true rfl) rfl (fun X h hr => ?_)
  unfold FX1_needOfCable at hF
  refine r_aload_n h 0 rfl rfl dX1_needOfCable_0 ?_
  refine r_iload_n h 1 rfl rfl dX1_needOfCable_1 ?_
  refine r_iconst (v := 0) h dX1_needOfCable_2 (by decide) ?_
  obtain ⟨z1, e2, hF⟩ := o_bind hF
  refine r_callVa (q0 := 0) (rest := []) h hd_X1_rackOfEnd wm_184 dX1_needOfCable_3 (CX1_rackOfEnd l D aρ ρ x1 (0 : Int32) z1 e2) rfl rfl rfl ⟨rfl, rfl⟩ ⟨by decide, by decide⟩ (Nat.le_of_ble_eq_true rfl) ⟨by decide, by decide⟩ rfl (fun v w' hp => ?_)
  obtain ⟨rfl, rfl⟩ := hp
  refine r_istore_n (lv' := [(2, .int z1), (0, .ref (aρ 0)), (1, .int x1)]) h rfl dX1_needOfCable_6 (by decide) rfl ?_
  refine r_aload_n h 1 rfl rfl dX1_needOfCable_7 ?_
  refine r_iload_n h 2 rfl rfl dX1_needOfCable_8 ?_
  refine r_iconst (v := 1) h dX1_needOfCable_9 (by decide) ?_
  obtain ⟨z3, e4, hF⟩ := o_bind hF
  refine r_callVa (q0 := 0) (rest := []) h hd_X1_rackOfEnd wm_184 dX1_needOfCable_10 (CX1_rackOfEnd l D aρ ρ x1 (1 : Int32) z3 e4) rfl rfl rfl ⟨rfl, rfl⟩ ⟨by decide, by decide⟩ (Nat.le_of_ble_eq_true rfl) ⟨by decide, by decide⟩ rfl (fun v w' hp => ?_)
  obtain ⟨rfl, rfl⟩ := hp
  refine r_istore_n (lv' := [(3, .int z3), (2, .int z1), (0, .ref (aρ 0)), (1, .int x1)]) h rfl dX1_needOfCable_13 (by decide) rfl ?_
  refine r_iload_n h 1 rfl rfl dX1_needOfCable_14 ?_
  refine r_iconst (v := -1) h dX1_needOfCable_15 (by decide) ?_
  refine r_icmp_eq h 24 dX1_needOfCable_16 (by decide) (fun c5 => ?_) (fun c5 => ?_)
  · replace hF := o_pos c5 hF
    refine r_iconst (v := 0) h dX1_needOfCable_24 (by decide) ?_
    cases hF
    exact r_iret h hr dX1_needOfCable_25 ⟨rfl, rfl⟩
  · replace hF := o_neg c5 hF
    refine r_iload_n h 0 rfl rfl dX1_needOfCable_19 ?_
    refine r_iconst (v := -1) h dX1_needOfCable_20 (by decide) ?_
    refine r_icmp_ne h 26 dX1_needOfCable_21 (by decide) (fun c6 => ?_) (fun c6 => ?_)
    · replace hF := o_neg c6 hF
      refine r_iconst (v := 2) h dX1_needOfCable_26 (by decide) ?_
      refine r_iconst (v := 3) h dX1_needOfCable_27 (by decide) ?_
      refine r_iload_n h 1 rfl rfl dX1_needOfCable_28 ?_
      refine r_iload_n h 0 rfl rfl dX1_needOfCable_29 ?_
      refine r_isub h dX1_needOfCable_30 ?_
      refine r_abs h wm_198 wm_199 wm_13 wm_200 (by decide) (Nat.le_of_ble_eq_true rfl) (by decide) (by decide) dX1_needOfCable_31 ?_
      obtain ⟨u7, hu7, hF⟩ := o_nm hF
      refine J.top hu7 ?_
      refine r_imul h dX1_needOfCable_34 ?_
      refine r_iadd h dX1_needOfCable_35 ?_
      cases hF
      exact r_iret h hr dX1_needOfCable_36 ⟨rfl, rfl⟩
    · replace hF := o_pos c6 hF
      refine r_iconst (v := 0) h dX1_needOfCable_24 (by decide) ?_
      cases hF
      exact r_iret h hr dX1_needOfCable_25 ⟨rfl, rfl⟩

def FX1_loadOfPhase_L4 (ρ : RS) (x1 : Int32) (K : Int32 → Int32 → Option (Int32)) : Nat → Int32 → Int32 → Option (Int32)
  | 0, _, _ => none
  | n + 1, y1_3, y1_2 =>
  if ρ.2.2.2.2.2.2.1 ≤ y1_3 then
  (K y1_3 y1_2)
else
  ((FX2_at (12 : Int32) (6 : Int32) 72 (ρ.2.2.2.2.2.2.1, ρ.1) y1_3 (2 : Int32)).bind fun z3 =>
  if z3 = x1 then
  ((FX2_at (12 : Int32) (6 : Int32) 72 (ρ.2.2.2.2.2.2.1, ρ.1) y1_3 (4 : Int32)).bind fun z6 =>
  if z6 = (-1 : Int32) then
  (FX1_loadOfPhase_L4 ρ x1 K n (y1_3 + 1) y1_2)
else
  ((FX2_at (12 : Int32) (6 : Int32) 72 (ρ.2.2.2.2.2.2.1, ρ.1) y1_3 (1 : Int32)).bind fun z9 =>
  FX1_loadOfPhase_L4 ρ x1 K n (y1_3 + 1) (y1_2 + z9)))
else
  (FX1_loadOfPhase_L4 ρ x1 K n (y1_3 + 1) y1_2))
def FX1_loadOfPhase (ρ : RS) (x1 : Int32) : Option (Int32) :=
  FX1_loadOfPhase_L4 ρ x1 (fun (y1_3 : Int32) (y1_2 : Int32) =>
  some y1_2) FU (0 : Int32) (0 : Int32)
abbrev rmX1_loadOfPhase : Room := { frames := 1, cells := 0, slots := 0, locals := 22 }
set_option maxHeartbeats 4000000 in
set_option maxRecDepth 100000 in
theorem CX1_loadOfPhase (l : Launch) (D : va_G) (aρ : Nat → Nat) (ρ : RS) (x1 : Int32) (r0 : Int32) (hF : FX1_loadOfPhase ρ x1 = some r0) : Ct l D yX1_loadOfPhase cX1_loadOfPhase 4 (some .int) rmX1_loadOfPhase 0 0 [.ref (aρ 0), .int x1] (rmW D aρ ρ) (fun v w => v = some (.int r0) ∧ w = rmW D aρ ρ) := by
  refine Ct.of (own := RX1) (lv := [(0, .ref (aρ 0)), (1, .int x1)]) (by decide +kernel) rfl (Nat.le_of_ble_eq_true rfl) rfl (fun X h hr => ?_)
  unfold FX1_loadOfPhase at hF
  refine r_iconst (v := 0) h dX1_loadOfPhase_0 (by decide) ?_
  refine r_istore_n (lv' := [(2, .int (0 : Int32)), (0, .ref (aρ 0)), (1, .int x1)]) h rfl dX1_loadOfPhase_1 (by decide) rfl ?_
  refine r_iconst (v := 0) h dX1_loadOfPhase_2 (by decide) ?_
  refine r_istore_n (lv' := [(3, .int (0 : Int32)), (2, .int (0 : Int32)), (0, .ref (aρ 0)), (1, .int x1)]) h rfl dX1_loadOfPhase_3 (by decide) rfl ?_
  have hL4 : ∀ (K : Int32 → Int32 → Option (Int32)) (hK : ∀ (y1_3 : Int32) (y1_2 : Int32), K y1_3 y1_2 = some r0 → J X l rmX1_loadOfPhase D 4 0 0 (rmW D aρ ρ) [(3, .int y1_3), (2, .int y1_2), (0, .ref (aρ 0)), (1, .int x1)] 59 []) (N : Nat), ∀ (y1_3 : Int32) (y1_2 : Int32), FX1_loadOfPhase_L4 ρ x1 K N y1_3 y1_2 = some r0 → J X l rmX1_loadOfPhase D 4 0 0 (rmW D aρ ρ) [(3, .int y1_3), (2, .int y1_2), (0, .ref (aρ 0)), (1, .int x1)] 4 [] := by
    intro K hK N
    induction N with
    | zero =>
      intro y1_3 y1_2 hF
      cases hF
    | succ N ih =>
      intro y1_3 y1_2 hF
      rw [FX1_loadOfPhase_L4] at hF
      refine r_iload_n h 0 rfl rfl dX1_loadOfPhase_4 ?_
      refine r_aload_n h 2 rfl rfl dX1_loadOfPhase_5 ?_
      refine r_get h fl_X1_14 0 rfl rfl dX1_loadOfPhase_6 ?_
      refine r_get h fl_X1_63 1 rfl rfl dX1_loadOfPhase_9 ?_
      refine r_icmp_ge h 59 dX1_loadOfPhase_12 (by decide) (fun c2 => ?_) (fun c2 => ?_)
      · replace hF := o_pos c2 hF
        exact J.loc (lv' := [(3, .int y1_3), (2, .int y1_2), (0, .ref (aρ 0)), (1, .int x1)]) [0, 1, 2, 3] rfl (hK y1_3 y1_2 hF)
      · replace hF := o_neg c2 hF
        refine r_aload_n h 2 rfl rfl dX1_loadOfPhase_15 ?_
        refine r_get h fl_X1_14 0 rfl rfl dX1_loadOfPhase_16 ?_
        refine r_iload_n h 0 rfl rfl dX1_loadOfPhase_19 ?_
        refine r_iconst (v := 2) h dX1_loadOfPhase_20 (by decide) ?_
        obtain ⟨z3, e4, hF⟩ := o_bind hF
        refine r_callV (q0 := 0) (wr := w_pk (rmW D aρ ρ) [0, 2, 3, 4, 5, 6, 8, 9, 10]) (rest := []) h hd_X2_at wm_144 dX1_loadOfPhase_21 (CX2_at l D (aρ 1) (aρ 7) (12 : Int32) (6 : Int32) 72 (ρ.2.2.2.2.2.2.1, ρ.1) y1_3 (2 : Int32) z3 e4) [1, 7] [0, 2, 3, 4, 5, 6, 8, 9, 10] rfl rfl (by decide +kernel) rfl rfl rfl ⟨rfl, rfl⟩ ⟨by decide, by decide⟩ (Nat.le_of_ble_eq_true rfl) ⟨by decide, by decide⟩ rfl (fun v w' hp => ?_)
        obtain ⟨rfl, rfl⟩ := hp
        refine J.sub (ws' := rmW D aρ ρ) [0, 9, 1, 2, 3, 4, 5, 10, 6, 7, 8] rfl (by decide +kernel) ?_
        refine r_iload_n h 3 rfl rfl dX1_loadOfPhase_24 ?_
        refine r_icmp_ne h 53 dX1_loadOfPhase_25 (by decide) (fun c5 => ?_) (fun c5 => ?_)
        · replace hF := o_neg c5 hF
          refine r_iinc (lv' := [(3, .int (y1_3 + 1)), (2, .int y1_2), (0, .ref (aρ 0)), (1, .int x1)]) h 0 rfl (congrArg (fun z => y1_3 + z) (by decide : Int32.ofInt 1 = 1)) dX1_loadOfPhase_53 (by decide) rfl ?_
          refine r_goto h 4 dX1_loadOfPhase_56 (by decide) ?_
          exact J.loc (lv' := [(3, .int (y1_3 + 1)), (2, .int y1_2), (0, .ref (aρ 0)), (1, .int x1)]) [0, 1, 2, 3] rfl (ih (y1_3 + 1) y1_2 hF)
        · replace hF := o_pos c5 hF
          refine r_aload_n h 2 rfl rfl dX1_loadOfPhase_28 ?_
          refine r_get h fl_X1_14 0 rfl rfl dX1_loadOfPhase_29 ?_
          refine r_iload_n h 0 rfl rfl dX1_loadOfPhase_32 ?_
          refine r_iconst (v := 4) h dX1_loadOfPhase_33 (by decide) ?_
          obtain ⟨z6, e7, hF⟩ := o_bind hF
          refine r_callV (q0 := 0) (wr := w_pk (rmW D aρ ρ) [0, 2, 3, 4, 5, 6, 8, 9, 10]) (rest := []) h hd_X2_at wm_144 dX1_loadOfPhase_34 (CX2_at l D (aρ 1) (aρ 7) (12 : Int32) (6 : Int32) 72 (ρ.2.2.2.2.2.2.1, ρ.1) y1_3 (4 : Int32) z6 e7) [1, 7] [0, 2, 3, 4, 5, 6, 8, 9, 10] rfl rfl (by decide +kernel) rfl rfl rfl ⟨rfl, rfl⟩ ⟨by decide, by decide⟩ (Nat.le_of_ble_eq_true rfl) ⟨by decide, by decide⟩ rfl (fun v w' hp => ?_)
          obtain ⟨rfl, rfl⟩ := hp
          refine J.sub (ws' := rmW D aρ ρ) [0, 9, 1, 2, 3, 4, 5, 10, 6, 7, 8] rfl (by decide +kernel) ?_
          refine r_iconst (v := -1) h dX1_loadOfPhase_37 (by decide) ?_
          refine r_icmp_eq h 53 dX1_loadOfPhase_38 (by decide) (fun c8 => ?_) (fun c8 => ?_)
          · replace hF := o_pos c8 hF
            refine r_iinc (lv' := [(3, .int (y1_3 + 1)), (2, .int y1_2), (0, .ref (aρ 0)), (1, .int x1)]) h 0 rfl (congrArg (fun z => y1_3 + z) (by decide : Int32.ofInt 1 = 1)) dX1_loadOfPhase_53 (by decide) rfl ?_
            refine r_goto h 4 dX1_loadOfPhase_56 (by decide) ?_
            exact J.loc (lv' := [(3, .int (y1_3 + 1)), (2, .int y1_2), (0, .ref (aρ 0)), (1, .int x1)]) [0, 1, 2, 3] rfl (ih (y1_3 + 1) y1_2 hF)
          · replace hF := o_neg c8 hF
            refine r_iload_n h 1 rfl rfl dX1_loadOfPhase_41 ?_
            refine r_aload_n h 2 rfl rfl dX1_loadOfPhase_42 ?_
            refine r_get h fl_X1_14 0 rfl rfl dX1_loadOfPhase_43 ?_
            refine r_iload_n h 0 rfl rfl dX1_loadOfPhase_46 ?_
            refine r_iconst (v := 1) h dX1_loadOfPhase_47 (by decide) ?_
            obtain ⟨z9, e10, hF⟩ := o_bind hF
            refine r_callV (q0 := 0) (wr := w_pk (rmW D aρ ρ) [0, 2, 3, 4, 5, 6, 8, 9, 10]) (rest := [.int y1_2]) h hd_X2_at wm_144 dX1_loadOfPhase_48 (CX2_at l D (aρ 1) (aρ 7) (12 : Int32) (6 : Int32) 72 (ρ.2.2.2.2.2.2.1, ρ.1) y1_3 (1 : Int32) z9 e10) [1, 7] [0, 2, 3, 4, 5, 6, 8, 9, 10] rfl rfl (by decide +kernel) rfl rfl rfl ⟨rfl, rfl⟩ ⟨by decide, by decide⟩ (Nat.le_of_ble_eq_true rfl) ⟨by decide, by decide⟩ rfl (fun v w' hp => ?_)
            obtain ⟨rfl, rfl⟩ := hp
            refine J.sub (ws' := rmW D aρ ρ) [0, 9, 1, 2, 3, 4, 5, 10, 6, 7, 8] rfl (by decide +kernel) ?_
            refine r_iadd h dX1_loadOfPhase_51 ?_
            refine r_istore_n (lv' := [(2, .int (y1_2 + z9)), (3, .int y1_3), (0, .ref (aρ 0)), (1, .int x1)]) h rfl dX1_loadOfPhase_52 (by decide) rfl ?_
            refine r_iinc (lv' := [(3, .int (y1_3 + 1)), (2, .int (y1_2 + z9)), (0, .ref (aρ 0)), (1, .int x1)]) h 1 rfl (congrArg (fun z => y1_3 + z) (by decide : Int32.ofInt 1 = 1)) dX1_loadOfPhase_53 (by decide) rfl ?_
            refine r_goto h 4 dX1_loadOfPhase_56 (by decide) ?_
            exact J.loc (lv' := [(3, .int (y1_3 + 1)), (2, .int (y1_2 + z9)), (0, .ref (aρ 0)), (1, .int x1)]) [0, 1, 2, 3] rfl (ih (y1_3 + 1) (y1_2 + z9) hF)
  refine hL4 _ (fun y1_3 y1_2 hF => ?_) _ (0 : Int32) (0 : Int32) hF
  refine r_iload_n h 1 rfl rfl dX1_loadOfPhase_59 ?_
  cases hF
  exact r_iret h hr dX1_loadOfPhase_60 ⟨rfl, rfl⟩

def FX1_difference_L10 (ρ : RS) (K : Int32 → Int32 → Int32 → Option (Int32)) : Nat → Int32 → Int32 → Int32 → Option (Int32)
  | 0, _, _, _ => none
  | n + 1, y3_3, y3_2, y3_1 =>
  if (3 : Int32) ≤ y3_3 then
  (K y3_3 y3_2 y3_1)
else
  ((FX1_loadOfPhase ρ y3_3).bind fun z5 =>
  FX1_difference_L10 ρ K n (y3_3 + 1) (if z5 < y3_2 then z5 else y3_2) (if y3_1 < z5 then z5 else y3_1))
def FX1_difference (ρ : RS) : Option (Int32) :=
  (FX1_loadOfPhase ρ (0 : Int32)).bind fun z1 =>
  FX1_difference_L10 ρ (fun (y3_3 : Int32) (y3_2 : Int32) (y3_1 : Int32) =>
  some (y3_1 - y3_2)) FU (1 : Int32) z1 z1
abbrev rmX1_difference : Room := { frames := 2, cells := 0, slots := 0, locals := 45 }
set_option maxHeartbeats 4000000 in
set_option maxRecDepth 100000 in
theorem CX1_difference (l : Launch) (D : va_G) (aρ : Nat → Nat) (ρ : RS) (r0 : Int32) (hF : FX1_difference ρ = some r0) : Ct l D yX1_difference cX1_difference 5 (some .int) rmX1_difference 0 0 [.ref (aρ 0)] (rmW D aρ ρ) (fun v w => v = some (.int r0) ∧ w = rmW D aρ ρ) := by
  refine Ct.of (own := RX1) (lv := [(0, .ref (aρ 0))]) (by decide +kernel) rfl (Nat.le_of_ble_eq_true rfl) rfl (fun X h hr => ?_)
  unfold FX1_difference at hF
  refine r_aload_n h 0 rfl rfl dX1_difference_0 ?_
  refine r_iconst (v := 0) h dX1_difference_1 (by decide) ?_
  obtain ⟨z1, e2, hF⟩ := o_bind hF
  refine r_callVa (q0 := 0) (rest := []) h hd_X1_loadOfPhase wm_205 dX1_difference_2 (CX1_loadOfPhase l D aρ ρ (0 : Int32) z1 e2) rfl rfl rfl ⟨rfl, rfl⟩ ⟨by decide, by decide⟩ (Nat.le_of_ble_eq_true rfl) ⟨by decide, by decide⟩ rfl (fun v w' hp => ?_)
  obtain ⟨rfl, rfl⟩ := hp
  refine r_istore_n (lv' := [(1, .int z1), (0, .ref (aρ 0))]) h rfl dX1_difference_5 (by decide) rfl ?_
  refine r_iload_n h 0 rfl rfl dX1_difference_6 ?_
  refine r_istore_n (lv' := [(2, .int z1), (1, .int z1), (0, .ref (aρ 0))]) h rfl dX1_difference_7 (by decide) rfl ?_
  refine r_iconst (v := 1) h dX1_difference_8 (by decide) ?_
  refine r_istore_n (lv' := [(3, .int (1 : Int32)), (2, .int z1), (1, .int z1), (0, .ref (aρ 0))]) h rfl dX1_difference_9 (by decide) rfl ?_
  have hL10 : ∀ (K : Int32 → Int32 → Int32 → Option (Int32)) (hK : ∀ (y3_3 : Int32) (y3_2 : Int32) (y3_1 : Int32), K y3_3 y3_2 y3_1 = some r0 → J X l rmX1_difference D 5 0 0 (rmW D aρ ρ) [(3, .int y3_3), (2, .int y3_2), (1, .int y3_1), (0, .ref (aρ 0))] 42 []) (N : Nat), ∀ (y3_3 : Int32) (y3_2 : Int32) (y3_1 : Int32), FX1_difference_L10 ρ K N y3_3 y3_2 y3_1 = some r0 → J X l rmX1_difference D 5 0 0 (rmW D aρ ρ) [(3, .int y3_3), (2, .int y3_2), (1, .int y3_1), (0, .ref (aρ 0))] 10 [] := by
    intro K hK N
    induction N with
    | zero =>
      intro y3_3 y3_2 y3_1 hF
      cases hF
    | succ N ih =>
      intro y3_3 y3_2 y3_1 hF
      rw [FX1_difference_L10] at hF
      refine r_iload_n h 0 rfl rfl dX1_difference_10 ?_
      refine r_iconst (v := 3) h dX1_difference_11 (by decide) ?_
      refine r_icmp_ge h 42 dX1_difference_12 (by decide) (fun c4 => ?_) (fun c4 => ?_)
      · replace hF := o_pos c4 hF
        exact J.loc (lv' := [(3, .int y3_3), (2, .int y3_2), (1, .int y3_1), (0, .ref (aρ 0))]) [0, 1, 2, 3] rfl (hK y3_3 y3_2 y3_1 hF)
      · replace hF := o_neg c4 hF
        refine r_aload_n h 3 rfl rfl dX1_difference_15 ?_
        refine r_iload_n h 0 rfl rfl dX1_difference_16 ?_
        obtain ⟨z5, e6, hF⟩ := o_bind hF
        refine r_callVa (q0 := 0) (rest := []) h hd_X1_loadOfPhase wm_205 dX1_difference_17 (CX1_loadOfPhase l D aρ ρ y3_3 z5 e6) rfl rfl rfl ⟨rfl, rfl⟩ ⟨by decide, by decide⟩ (Nat.le_of_ble_eq_true rfl) ⟨by decide, by decide⟩ rfl (fun v w' hp => ?_)
        obtain ⟨rfl, rfl⟩ := hp
        refine r_istore (lv' := [(4, .int z5), (3, .int y3_3), (2, .int y3_2), (1, .int y3_1), (0, .ref (aρ 0))]) h dX1_difference_20 (by decide) rfl ?_
        refine r_iload_n h 3 rfl rfl dX1_difference_22 ?_
        refine r_iload h 0 rfl dX1_difference_23 ?_
        refine r_max h wm_191 wm_192 wm_13 wm_193 (by decide) (Nat.le_of_ble_eq_true rfl) (by decide) (by decide) dX1_difference_25 ?_
        refine r_istore_n (lv' := [(1, .int (if y3_1 < z5 then z5 else y3_1)), (4, .int z5), (3, .int y3_3), (2, .int y3_2), (0, .ref (aρ 0))]) h rfl dX1_difference_28 (by decide) rfl ?_
        refine r_iload_n h 3 rfl rfl dX1_difference_29 ?_
        refine r_iload h 1 rfl dX1_difference_30 ?_
        refine r_min h wm_188 wm_189 wm_13 wm_190 (by decide) (Nat.le_of_ble_eq_true rfl) (by decide) (by decide) dX1_difference_32 ?_
        refine r_istore_n (lv' := [(2, .int (if z5 < y3_2 then z5 else y3_2)), (1, .int (if y3_1 < z5 then z5 else y3_1)), (4, .int z5), (3, .int y3_3), (0, .ref (aρ 0))]) h rfl dX1_difference_35 (by decide) rfl ?_
        refine r_iinc (lv' := [(3, .int (y3_3 + 1)), (2, .int (if z5 < y3_2 then z5 else y3_2)), (1, .int (if y3_1 < z5 then z5 else y3_1)), (4, .int z5), (0, .ref (aρ 0))]) h 3 rfl (congrArg (fun z => y3_3 + z) (by decide : Int32.ofInt 1 = 1)) dX1_difference_36 (by decide) rfl ?_
        refine r_goto h 10 dX1_difference_39 (by decide) ?_
        exact J.loc (lv' := [(3, .int (y3_3 + 1)), (2, .int (if z5 < y3_2 then z5 else y3_2)), (1, .int (if y3_1 < z5 then z5 else y3_1)), (0, .ref (aρ 0))]) [0, 1, 2, 4] rfl (ih (y3_3 + 1) (if z5 < y3_2 then z5 else y3_2) (if y3_1 < z5 then z5 else y3_1) hF)
  refine hL10 _ (fun y3_3 y3_2 y3_1 hF => ?_) _ (1 : Int32) z1 z1 hF
  refine r_iload_n h 2 rfl rfl dX1_difference_42 ?_
  refine r_iload_n h 1 rfl rfl dX1_difference_43 ?_
  refine r_isub h dX1_difference_44 ?_
  cases hF
  exact r_iret h hr dX1_difference_45 ⟨rfl, rfl⟩

def FX1_firstWrong_L2 (ρ : RS) (K : Int32 → Option (Int32)) : Nat → Int32 → Option (Int32)
  | 0, _ => none
  | n + 1, y1_1 =>
  if (6 : Int32) ≤ y1_1 then
  (K y1_1)
else
  ((FX1_loadOfRack ρ y1_1).bind fun z3 =>
  gd (¬ (y1_1 < 0 ∨ 6 ≤ (y1_1).toNatClampNeg)) (
  if z3 ≤ (ρ.2.2.2.2.1 (y1_1).toNatClampNeg) then
  (FX1_firstWrong_L2 ρ K n (y1_1 + 1))
else
  (some (4 : Int32))))
def FX1_firstWrong_L32 (ρ : RS) (K : Int32 → Option (Int32)) : Nat → Int32 → Option (Int32)
  | 0, _ => none
  | n + 1, y6_1 =>
  if (5 : Int32) ≤ y6_1 then
  (K y6_1)
else
  ((FX1_cablesInTray ρ y6_1).bind fun z8 =>
  gd (¬ (y6_1 < 0 ∨ 5 ≤ (y6_1).toNatClampNeg)) (
  if z8 ≤ (ρ.2.2.2.2.2.1 (y6_1).toNatClampNeg) then
  (FX1_firstWrong_L32 ρ K n (y6_1 + 1))
else
  (some (5 : Int32))))
def FX1_firstWrong_L61 (ρ : RS) (K : Int32 → Option (Int32)) : Nat → Int32 → Option (Int32)
  | 0, _ => none
  | n + 1, y11_1 =>
  if ρ.2.2.2.2.2.2.2.1 ≤ y11_1 then
  (K y11_1)
else
  ((FX1_needOfCable ρ y11_1).bind fun z13 =>
  (FX2_at (10 : Int32) (3 : Int32) 30 (ρ.2.2.2.2.2.2.2.1, ρ.2.1) y11_1 (2 : Int32)).bind fun z15 =>
  if z13 ≤ z15 then
  (FX1_firstWrong_L61 ρ K n (y11_1 + 1))
else
  (some (6 : Int32)))
def FX1_firstWrong (ρ : RS) : Option (Int32) :=
  FX1_firstWrong_L2 ρ (fun (y1_1 : Int32) =>
  FX1_firstWrong_L32 ρ (fun (y6_1 : Int32) =>
  FX1_firstWrong_L61 ρ (fun (y11_1 : Int32) =>
  (FX1_difference ρ).bind fun z18 =>
  if z18 ≤ ρ.2.2.2.2.2.2.2.2.2.2.1 then
  (some (0 : Int32))
else
  (some (7 : Int32))) FU (0 : Int32)) FU (0 : Int32)) FU (0 : Int32)
abbrev rmX1_firstWrong : Room := { frames := 3, cells := 0, slots := 0, locals := 70 }
set_option maxHeartbeats 4000000 in
set_option maxRecDepth 100000 in
theorem CX1_firstWrong (l : Launch) (D : va_G) (aρ : Nat → Nat) (ρ : RS) (r0 : Int32) (hF : FX1_firstWrong ρ = some r0) : Ct l D yX1_firstWrong cX1_firstWrong 2 (some .int) rmX1_firstWrong 0 0 [.ref (aρ 0)] (rmW D aρ ρ) (fun v w => v = some (.int r0) ∧ w = rmW D aρ ρ) := by
  refine Ct.of (own := RX1) (lv := [(0, .ref (aρ 0))]) (by decide +kernel) rfl (Nat.le_of_ble_eq_true rfl) rfl (fun X h hr => ?_)
  unfold FX1_firstWrong at hF
  refine r_iconst (v := 0) h dX1_firstWrong_0 (by decide) ?_
  refine r_istore_n (lv' := [(1, .int (0 : Int32)), (0, .ref (aρ 0))]) h rfl dX1_firstWrong_1 (by decide) rfl ?_
  have hL2 : ∀ (K : Int32 → Option (Int32)) (hK : ∀ (y1_1 : Int32), K y1_1 = some r0 → J X l rmX1_firstWrong D 2 0 0 (rmW D aρ ρ) [(1, .int y1_1), (0, .ref (aρ 0))] 30 []) (N : Nat), ∀ (y1_1 : Int32), FX1_firstWrong_L2 ρ K N y1_1 = some r0 → J X l rmX1_firstWrong D 2 0 0 (rmW D aρ ρ) [(1, .int y1_1), (0, .ref (aρ 0))] 2 [] := by
    intro K hK N
    induction N with
    | zero =>
      intro y1_1 hF
      cases hF
    | succ N ih =>
      intro y1_1 hF
      rw [FX1_firstWrong_L2] at hF
      refine r_iload_n h 0 rfl rfl dX1_firstWrong_2 ?_
      refine r_bipush (v := 6) h dX1_firstWrong_3 (by decide) ?_
      refine r_icmp_ge h 30 dX1_firstWrong_5 (by decide) (fun c2 => ?_) (fun c2 => ?_)
      · replace hF := o_pos c2 hF
        exact J.loc (lv' := [(1, .int y1_1), (0, .ref (aρ 0))]) [0, 1] rfl (hK y1_1 hF)
      · replace hF := o_neg c2 hF
        refine r_aload_n h 1 rfl rfl dX1_firstWrong_8 ?_
        refine r_iload_n h 0 rfl rfl dX1_firstWrong_9 ?_
        obtain ⟨z3, e4, hF⟩ := o_bind hF
        refine r_callVa (q0 := 0) (rest := []) h hd_X1_loadOfRack wm_176 dX1_firstWrong_10 (CX1_loadOfRack l D aρ ρ y1_1 z3 e4) rfl rfl rfl ⟨rfl, rfl⟩ ⟨by decide, by decide⟩ (Nat.le_of_ble_eq_true rfl) ⟨by decide, by decide⟩ rfl (fun v w' hp => ?_)
        obtain ⟨rfl, rfl⟩ := hp
        refine r_aload_n h 1 rfl rfl dX1_firstWrong_13 ?_
        refine r_get h fl_X1_29 0 rfl rfl dX1_firstWrong_14 ?_
        refine r_iload_n h 0 rfl rfl dX1_firstWrong_17 ?_
        obtain ⟨hN, hF⟩ := o_gd hF
        refine r_iald h 5 rfl hN dX1_firstWrong_18 ?_
        refine r_icmp_le h 24 dX1_firstWrong_19 (by decide) (fun c5 => ?_) (fun c5 => ?_)
        · replace hF := o_pos c5 hF
          refine r_iinc (lv' := [(1, .int (y1_1 + 1)), (0, .ref (aρ 0))]) h 0 rfl (congrArg (fun z => y1_1 + z) (by decide : Int32.ofInt 1 = 1)) dX1_firstWrong_24 (by decide) rfl ?_
          refine r_goto h 2 dX1_firstWrong_27 (by decide) ?_
          exact J.loc (lv' := [(1, .int (y1_1 + 1)), (0, .ref (aρ 0))]) [0, 1] rfl (ih (y1_1 + 1) hF)
        · replace hF := o_neg c5 hF
          refine r_iconst (v := 4) h dX1_firstWrong_22 (by decide) ?_
          cases hF
          exact r_iret h hr dX1_firstWrong_23 ⟨rfl, rfl⟩
  refine hL2 _ (fun y1_1 hF => ?_) _ (0 : Int32) hF
  refine r_iconst (v := 0) h dX1_firstWrong_30 (by decide) ?_
  refine r_istore_n (lv' := [(1, .int (0 : Int32)), (0, .ref (aρ 0))]) h rfl dX1_firstWrong_31 (by decide) rfl ?_
  have hL32 : ∀ (K : Int32 → Option (Int32)) (hK : ∀ (y6_1 : Int32), K y6_1 = some r0 → J X l rmX1_firstWrong D 2 0 0 (rmW D aρ ρ) [(1, .int y6_1), (0, .ref (aρ 0))] 59 []) (N : Nat), ∀ (y6_1 : Int32), FX1_firstWrong_L32 ρ K N y6_1 = some r0 → J X l rmX1_firstWrong D 2 0 0 (rmW D aρ ρ) [(1, .int y6_1), (0, .ref (aρ 0))] 32 [] := by
    intro K hK N
    induction N with
    | zero =>
      intro y6_1 hF
      cases hF
    | succ N ih =>
      intro y6_1 hF
      rw [FX1_firstWrong_L32] at hF
      refine r_iload_n h 0 rfl rfl dX1_firstWrong_32 ?_
      refine r_iconst (v := 5) h dX1_firstWrong_33 (by decide) ?_
      refine r_icmp_ge h 59 dX1_firstWrong_34 (by decide) (fun c7 => ?_) (fun c7 => ?_)
      · replace hF := o_pos c7 hF
        exact J.loc (lv' := [(1, .int y6_1), (0, .ref (aρ 0))]) [0, 1] rfl (hK y6_1 hF)
      · replace hF := o_neg c7 hF
        refine r_aload_n h 1 rfl rfl dX1_firstWrong_37 ?_
        refine r_iload_n h 0 rfl rfl dX1_firstWrong_38 ?_
        obtain ⟨z8, e9, hF⟩ := o_bind hF
        refine r_callVa (q0 := 0) (rest := []) h hd_X1_cablesInTray wm_180 dX1_firstWrong_39 (CX1_cablesInTray l D aρ ρ y6_1 z8 e9) rfl rfl rfl ⟨rfl, rfl⟩ ⟨by decide, by decide⟩ (Nat.le_of_ble_eq_true rfl) ⟨by decide, by decide⟩ rfl (fun v w' hp => ?_)
        obtain ⟨rfl, rfl⟩ := hp
        refine r_aload_n h 1 rfl rfl dX1_firstWrong_42 ?_
        refine r_get h fl_X1_33 0 rfl rfl dX1_firstWrong_43 ?_
        refine r_iload_n h 0 rfl rfl dX1_firstWrong_46 ?_
        obtain ⟨hN, hF⟩ := o_gd hF
        refine r_iald h 6 rfl hN dX1_firstWrong_47 ?_
        refine r_icmp_le h 53 dX1_firstWrong_48 (by decide) (fun c10 => ?_) (fun c10 => ?_)
        · replace hF := o_pos c10 hF
          refine r_iinc (lv' := [(1, .int (y6_1 + 1)), (0, .ref (aρ 0))]) h 0 rfl (congrArg (fun z => y6_1 + z) (by decide : Int32.ofInt 1 = 1)) dX1_firstWrong_53 (by decide) rfl ?_
          refine r_goto h 32 dX1_firstWrong_56 (by decide) ?_
          exact J.loc (lv' := [(1, .int (y6_1 + 1)), (0, .ref (aρ 0))]) [0, 1] rfl (ih (y6_1 + 1) hF)
        · replace hF := o_neg c10 hF
          refine r_iconst (v := 5) h dX1_firstWrong_51 (by decide) ?_
          cases hF
          exact r_iret h hr dX1_firstWrong_52 ⟨rfl, rfl⟩
  refine hL32 _ (fun y6_1 hF => ?_) _ (0 : Int32) hF
  refine r_iconst (v := 0) h dX1_firstWrong_59 (by decide) ?_
  refine r_istore_n (lv' := [(1, .int (0 : Int32)), (0, .ref (aρ 0))]) h rfl dX1_firstWrong_60 (by decide) rfl ?_
  have hL61 : ∀ (K : Int32 → Option (Int32)) (hK : ∀ (y11_1 : Int32), K y11_1 = some r0 → J X l rmX1_firstWrong D 2 0 0 (rmW D aρ ρ) [(1, .int y11_1), (0, .ref (aρ 0))] 98 []) (N : Nat), ∀ (y11_1 : Int32), FX1_firstWrong_L61 ρ K N y11_1 = some r0 → J X l rmX1_firstWrong D 2 0 0 (rmW D aρ ρ) [(1, .int y11_1), (0, .ref (aρ 0))] 61 [] := by
    intro K hK N
    induction N with
    | zero =>
      intro y11_1 hF
      cases hF
    | succ N ih =>
      intro y11_1 hF
      rw [FX1_firstWrong_L61] at hF
      refine r_iload_n h 0 rfl rfl dX1_firstWrong_61 ?_
      refine r_aload_n h 1 rfl rfl dX1_firstWrong_62 ?_
      refine r_get h fl_X1_20 0 rfl rfl dX1_firstWrong_63 ?_
      refine r_get h fl_X1_63 2 rfl rfl dX1_firstWrong_66 ?_
      refine r_icmp_ge h 98 dX1_firstWrong_69 (by decide) (fun c12 => ?_) (fun c12 => ?_)
      · replace hF := o_pos c12 hF
        exact J.loc (lv' := [(1, .int y11_1), (0, .ref (aρ 0))]) [0, 1] rfl (hK y11_1 hF)
      · replace hF := o_neg c12 hF
        refine r_aload_n h 1 rfl rfl dX1_firstWrong_72 ?_
        refine r_iload_n h 0 rfl rfl dX1_firstWrong_73 ?_
        obtain ⟨z13, e14, hF⟩ := o_bind hF
        refine r_callVa (q0 := 0) (rest := []) h hd_X1_needOfCable wm_194 dX1_firstWrong_74 (CX1_needOfCable l D aρ ρ y11_1 z13 e14) rfl rfl rfl ⟨rfl, rfl⟩ ⟨by decide, by decide⟩ (Nat.le_of_ble_eq_true rfl) ⟨by decide, by decide⟩ rfl (fun v w' hp => ?_)
        obtain ⟨rfl, rfl⟩ := hp
        refine r_aload_n h 1 rfl rfl dX1_firstWrong_77 ?_
        refine r_get h fl_X1_20 0 rfl rfl dX1_firstWrong_78 ?_
        refine r_iload_n h 0 rfl rfl dX1_firstWrong_81 ?_
        refine r_iconst (v := 2) h dX1_firstWrong_82 (by decide) ?_
        obtain ⟨z15, e16, hF⟩ := o_bind hF
        refine r_callV (q0 := 0) (wr := w_pk (rmW D aρ ρ) [0, 1, 3, 4, 5, 6, 7, 9, 10]) (rest := [.int z13]) h hd_X2_at wm_144 dX1_firstWrong_83 (CX2_at l D (aρ 2) (aρ 8) (10 : Int32) (3 : Int32) 30 (ρ.2.2.2.2.2.2.2.1, ρ.2.1) y11_1 (2 : Int32) z15 e16) [2, 8] [0, 1, 3, 4, 5, 6, 7, 9, 10] rfl rfl (by decide +kernel) rfl rfl rfl ⟨rfl, rfl⟩ ⟨by decide, by decide⟩ (Nat.le_of_ble_eq_true rfl) ⟨by decide, by decide⟩ rfl (fun v w' hp => ?_)
        obtain ⟨rfl, rfl⟩ := hp
        refine J.sub (ws' := rmW D aρ ρ) [0, 1, 9, 2, 3, 4, 5, 6, 10, 7, 8] rfl (by decide +kernel) ?_
        refine r_icmp_le h 92 dX1_firstWrong_86 (by decide) (fun c17 => ?_) (fun c17 => ?_)
        · replace hF := o_pos c17 hF
          refine r_iinc (lv' := [(1, .int (y11_1 + 1)), (0, .ref (aρ 0))]) h 0 rfl (congrArg (fun z => y11_1 + z) (by decide : Int32.ofInt 1 = 1)) dX1_firstWrong_92 (by decide) rfl ?_
          refine r_goto h 61 dX1_firstWrong_95 (by decide) ?_
          exact J.loc (lv' := [(1, .int (y11_1 + 1)), (0, .ref (aρ 0))]) [0, 1] rfl (ih (y11_1 + 1) hF)
        · replace hF := o_neg c17 hF
          refine r_bipush (v := 6) h dX1_firstWrong_89 (by decide) ?_
          cases hF
          exact r_iret h hr dX1_firstWrong_91 ⟨rfl, rfl⟩
  refine hL61 _ (fun y11_1 hF => ?_) _ (0 : Int32) hF
  refine r_aload_n h 1 rfl rfl dX1_firstWrong_98 ?_
  obtain ⟨z18, e19, hF⟩ := o_bind hF
  refine r_callVa (q0 := 0) (rest := []) h hd_X1_difference wm_201 dX1_firstWrong_99 (CX1_difference l D aρ ρ z18 e19) rfl rfl rfl ⟨rfl, rfl⟩ ⟨by decide, by decide⟩ (Nat.le_of_ble_eq_true rfl) ⟨by decide, by decide⟩ rfl (fun v w' hp => ?_)
  obtain ⟨rfl, rfl⟩ := hp
  refine r_aload_n h 1 rfl rfl dX1_firstWrong_102 ?_
  refine r_get h fl_X1_36 0 rfl rfl dX1_firstWrong_103 ?_
  refine r_icmp_le h 114 dX1_firstWrong_106 (by decide) (fun c20 => ?_) (fun c20 => ?_)
  · replace hF := o_pos c20 hF
    refine r_iconst (v := 0) h dX1_firstWrong_114 (by decide) ?_
    cases hF
    exact r_iret h hr dX1_firstWrong_115 ⟨rfl, rfl⟩
  · replace hF := o_neg c20 hF
    refine r_bipush (v := 7) h dX1_firstWrong_109 (by decide) ?_
    refine r_goto h 115 dX1_firstWrong_111 (by decide) ?_
    cases hF
    exact r_iret h hr dX1_firstWrong_115 ⟨rfl, rfl⟩

def FX1_firstWrongWith (ρ : RS) (x1 : Int32) (x2 : Int32) (x3 : Int32) (x4 : Int32) : Option (Int32 × RS) :=
  (FX2_at (12 : Int32) (6 : Int32) 72 (ρ.2.2.2.2.2.2.1, ρ.1) x1 (4 : Int32)).bind fun z1 =>
  (FX2_at (12 : Int32) (6 : Int32) 72 (ρ.2.2.2.2.2.2.1, ρ.1) x1 (5 : Int32)).bind fun z3 =>
  (FX2_at (12 : Int32) (6 : Int32) 72 (ρ.2.2.2.2.2.2.1, ρ.1) x1 (2 : Int32)).bind fun z5 =>
  (FX1_place ρ x1 x2 x3 x4).bind fun z7 =>
  (FX1_firstWrong z7).bind fun z9 =>
  (FX1_place z7 x1 z1 z3 z5).bind fun z11 =>
  some (z9, z11)
abbrev rmX1_firstWrongWith : Room := { frames := 4, cells := 0, slots := 0, locals := 91 }
set_option maxHeartbeats 4000000 in
set_option maxRecDepth 100000 in
theorem CX1_firstWrongWith (l : Launch) (D : va_G) (aρ : Nat → Nat) (ρ : RS) (x1 : Int32) (x2 : Int32) (x3 : Int32) (x4 : Int32) (r0 : Int32) (ρ0 : RS) (hF : FX1_firstWrongWith ρ x1 x2 x3 x4 = some (r0, ρ0)) : Ct l D yX1_firstWrongWith cX1_firstWrongWith 9 (some .int) rmX1_firstWrongWith 0 0 [.ref (aρ 0), .int x1, .int x2, .int x3, .int x4] (rmW D aρ ρ) (fun v w => v = some (.int r0) ∧ w = rmW D aρ ρ0) := by
  refine Ct.of (own := RX1) (lv := [(0, .ref (aρ 0)), (1, .int x1), (2, .int x2), (3, .int x3), (4, .int x4)]) (by decide +kernel) rfl (Nat.le_of_ble_eq_true rfl) rfl (fun X h hr => ?_)
  unfold FX1_firstWrongWith at hF
  refine r_aload_n h 0 rfl rfl dX1_firstWrongWith_0 ?_
  refine r_get h fl_X1_14 0 rfl rfl dX1_firstWrongWith_1 ?_
  refine r_iload_n h 1 rfl rfl dX1_firstWrongWith_4 ?_
  refine r_iconst (v := 4) h dX1_firstWrongWith_5 (by decide) ?_
  obtain ⟨z1, e2, hF⟩ := o_bind hF
  refine r_callV (q0 := 0) (wr := w_pk (rmW D aρ ρ) [0, 2, 3, 4, 5, 6, 8, 9, 10]) (rest := []) h hd_X2_at wm_144 dX1_firstWrongWith_6 (CX2_at l D (aρ 1) (aρ 7) (12 : Int32) (6 : Int32) 72 (ρ.2.2.2.2.2.2.1, ρ.1) x1 (4 : Int32) z1 e2) [1, 7] [0, 2, 3, 4, 5, 6, 8, 9, 10] rfl rfl (by decide +kernel) rfl rfl rfl ⟨rfl, rfl⟩ ⟨by decide, by decide⟩ (Nat.le_of_ble_eq_true rfl) ⟨by decide, by decide⟩ rfl (fun v w' hp => ?_)
  obtain ⟨rfl, rfl⟩ := hp
  refine J.sub (ws' := rmW D aρ ρ) [0, 9, 1, 2, 3, 4, 5, 10, 6, 7, 8] rfl (by decide +kernel) ?_
  refine r_istore (lv' := [(5, .int z1), (0, .ref (aρ 0)), (1, .int x1), (2, .int x2), (3, .int x3), (4, .int x4)]) h dX1_firstWrongWith_9 (by decide) rfl ?_
  refine r_aload_n h 1 rfl rfl dX1_firstWrongWith_11 ?_
  refine r_get h fl_X1_14 0 rfl rfl dX1_firstWrongWith_12 ?_
  refine r_iload_n h 2 rfl rfl dX1_firstWrongWith_15 ?_
  refine r_iconst (v := 5) h dX1_firstWrongWith_16 (by decide) ?_
  obtain ⟨z3, e4, hF⟩ := o_bind hF
  refine r_callV (q0 := 0) (wr := w_pk (rmW D aρ ρ) [0, 2, 3, 4, 5, 6, 8, 9, 10]) (rest := []) h hd_X2_at wm_144 dX1_firstWrongWith_17 (CX2_at l D (aρ 1) (aρ 7) (12 : Int32) (6 : Int32) 72 (ρ.2.2.2.2.2.2.1, ρ.1) x1 (5 : Int32) z3 e4) [1, 7] [0, 2, 3, 4, 5, 6, 8, 9, 10] rfl rfl (by decide +kernel) rfl rfl rfl ⟨rfl, rfl⟩ ⟨by decide, by decide⟩ (Nat.le_of_ble_eq_true rfl) ⟨by decide, by decide⟩ rfl (fun v w' hp => ?_)
  obtain ⟨rfl, rfl⟩ := hp
  refine J.sub (ws' := rmW D aρ ρ) [0, 9, 1, 2, 3, 4, 5, 10, 6, 7, 8] rfl (by decide +kernel) ?_
  refine r_istore (lv' := [(6, .int z3), (5, .int z1), (0, .ref (aρ 0)), (1, .int x1), (2, .int x2), (3, .int x3), (4, .int x4)]) h dX1_firstWrongWith_20 (by decide) rfl ?_
  refine r_aload_n h 2 rfl rfl dX1_firstWrongWith_22 ?_
  refine r_get h fl_X1_14 0 rfl rfl dX1_firstWrongWith_23 ?_
  refine r_iload_n h 3 rfl rfl dX1_firstWrongWith_26 ?_
  refine r_iconst (v := 2) h dX1_firstWrongWith_27 (by decide) ?_
  obtain ⟨z5, e6, hF⟩ := o_bind hF
  refine r_callV (q0 := 0) (wr := w_pk (rmW D aρ ρ) [0, 2, 3, 4, 5, 6, 8, 9, 10]) (rest := []) h hd_X2_at wm_144 dX1_firstWrongWith_28 (CX2_at l D (aρ 1) (aρ 7) (12 : Int32) (6 : Int32) 72 (ρ.2.2.2.2.2.2.1, ρ.1) x1 (2 : Int32) z5 e6) [1, 7] [0, 2, 3, 4, 5, 6, 8, 9, 10] rfl rfl (by decide +kernel) rfl rfl rfl ⟨rfl, rfl⟩ ⟨by decide, by decide⟩ (Nat.le_of_ble_eq_true rfl) ⟨by decide, by decide⟩ rfl (fun v w' hp => ?_)
  obtain ⟨rfl, rfl⟩ := hp
  refine J.sub (ws' := rmW D aρ ρ) [0, 9, 1, 2, 3, 4, 5, 10, 6, 7, 8] rfl (by decide +kernel) ?_
  refine r_istore (lv' := [(7, .int z5), (6, .int z3), (5, .int z1), (0, .ref (aρ 0)), (1, .int x1), (2, .int x2), (3, .int x3), (4, .int x4)]) h dX1_firstWrongWith_31 (by decide) rfl ?_
  refine r_aload_n h 3 rfl rfl dX1_firstWrongWith_33 ?_
  refine r_iload_n h 4 rfl rfl dX1_firstWrongWith_34 ?_
  refine r_iload_n h 5 rfl rfl dX1_firstWrongWith_35 ?_
  refine r_iload_n h 6 rfl rfl dX1_firstWrongWith_36 ?_
  refine r_iload h 7 rfl dX1_firstWrongWith_37 ?_
  obtain ⟨z7, e8, hF⟩ := o_bind hF
  refine r_callVa (q0 := 0) (rest := []) h hd_X1_place wm_164 dX1_firstWrongWith_39 (CX1_place l D aρ ρ x1 x2 x3 x4 z7 e8) rfl rfl rfl ⟨rfl, rfl⟩ ⟨by decide, by decide⟩ (Nat.le_of_ble_eq_true rfl) ⟨by decide, by decide⟩ rfl (fun v w' hp => ?_)
  obtain ⟨rfl, rfl⟩ := hp
  refine r_aload_n h 3 rfl rfl dX1_firstWrongWith_42 ?_
  obtain ⟨z9, e10, hF⟩ := o_bind hF
  refine r_callVa (q0 := 0) (rest := []) h hd_X1_firstWrong wm_172 dX1_firstWrongWith_43 (CX1_firstWrong l D aρ z7 z9 e10) rfl rfl rfl ⟨rfl, rfl⟩ ⟨by decide, by decide⟩ (Nat.le_of_ble_eq_true rfl) ⟨by decide, by decide⟩ rfl (fun v w' hp => ?_)
  obtain ⟨rfl, rfl⟩ := hp
  refine r_istore (lv' := [(8, .int z9), (7, .int z5), (6, .int z3), (5, .int z1), (0, .ref (aρ 0)), (1, .int x1), (2, .int x2), (3, .int x3), (4, .int x4)]) h dX1_firstWrongWith_46 (by decide) rfl ?_
  refine r_aload_n h 4 rfl rfl dX1_firstWrongWith_48 ?_
  refine r_iload_n h 5 rfl rfl dX1_firstWrongWith_49 ?_
  refine r_iload h 3 rfl dX1_firstWrongWith_50 ?_
  refine r_iload h 2 rfl dX1_firstWrongWith_52 ?_
  refine r_iload h 1 rfl dX1_firstWrongWith_54 ?_
  obtain ⟨z11, e12, hF⟩ := o_bind hF
  refine r_callVa (q0 := 0) (rest := []) h hd_X1_place wm_164 dX1_firstWrongWith_56 (CX1_place l D aρ z7 x1 z1 z3 z5 z11 e12) rfl rfl rfl ⟨rfl, rfl⟩ ⟨by decide, by decide⟩ (Nat.le_of_ble_eq_true rfl) ⟨by decide, by decide⟩ rfl (fun v w' hp => ?_)
  obtain ⟨rfl, rfl⟩ := hp
  refine r_iload h 0 rfl dX1_firstWrongWith_59 ?_
  cases hF
  exact r_iret h hr dX1_firstWrongWith_61 ⟨rfl, rfl⟩

def FX1_whyNotChange (ρ : RS) (x1 : Int32) (x2 : Int32) : Option (Int32 × RS) :=
  (FX1_isFrozen ρ x1).bind fun z1 =>
  if z1 = 0 then
  ((FX2_at (12 : Int32) (6 : Int32) 72 (ρ.2.2.2.2.2.2.1, ρ.1) x1 (2 : Int32)).bind fun z4 =>
  if z4 = x2 then
  (some ((2 : Int32), ρ))
else
  ((FX2_at (12 : Int32) (6 : Int32) 72 (ρ.2.2.2.2.2.2.1, ρ.1) x1 (4 : Int32)).bind fun z7 =>
  (FX2_at (12 : Int32) (6 : Int32) 72 (ρ.2.2.2.2.2.2.1, ρ.1) x1 (5 : Int32)).bind fun z9 =>
  (FX1_firstWrongWith ρ x1 z7 z9 x2).bind fun z11 =>
  some (z11.1, z11.2)))
else
  (some ((1 : Int32), ρ))
abbrev rmX1_whyNotChange : Room := { frames := 5, cells := 0, slots := 0, locals := 119 }
set_option maxHeartbeats 4000000 in
set_option maxRecDepth 100000 in
theorem CX1_whyNotChange (l : Launch) (D : va_G) (aρ : Nat → Nat) (ρ : RS) (x1 : Int32) (x2 : Int32) (r0 : Int32) (ρ0 : RS) (hF : FX1_whyNotChange ρ x1 x2 = some (r0, ρ0)) : Ct l D yX1_whyNotChange cX1_whyNotChange 3 (some .int) rmX1_whyNotChange 0 0 [.ref (aρ 0), .int x1, .int x2] (rmW D aρ ρ) (fun v w => v = some (.int r0) ∧ w = rmW D aρ ρ0) := by
  refine Ct.of (own := RX1) (lv := [(0, .ref (aρ 0)), (1, .int x1), (2, .int x2)]) (by decide +kernel) rfl (Nat.le_of_ble_eq_true rfl) rfl (fun X h hr => ?_)
  unfold FX1_whyNotChange at hF
  refine r_aload_n h 0 rfl rfl dX1_whyNotChange_0 ?_
  refine r_iload_n h 1 rfl rfl dX1_whyNotChange_1 ?_
  obtain ⟨z1, e2, hF⟩ := o_bind hF
  refine r_callVa (q0 := 0) (rest := []) h hd_X1_isFrozen wm_148 dX1_whyNotChange_2 (CX1_isFrozen l D aρ ρ x1 z1 e2) rfl rfl rfl ⟨rfl, rfl⟩ ⟨by decide, by decide⟩ (Nat.le_of_ble_eq_true rfl) ⟨by decide, by decide⟩ rfl (fun v w' hp => ?_)
  obtain ⟨rfl, rfl⟩ := hp
  refine r_if_eq h 10 dX1_whyNotChange_5 (by decide) (fun c3 => ?_) (fun c3 => ?_)
  · replace hF := o_pos c3 hF
    refine r_aload_n h 0 rfl rfl dX1_whyNotChange_10 ?_
    refine r_get h fl_X1_14 0 rfl rfl dX1_whyNotChange_11 ?_
    refine r_iload_n h 1 rfl rfl dX1_whyNotChange_14 ?_
    refine r_iconst (v := 2) h dX1_whyNotChange_15 (by decide) ?_
    obtain ⟨z4, e5, hF⟩ := o_bind hF
    refine r_callV (q0 := 0) (wr := w_pk (rmW D aρ ρ) [0, 2, 3, 4, 5, 6, 8, 9, 10]) (rest := []) h hd_X2_at wm_144 dX1_whyNotChange_16 (CX2_at l D (aρ 1) (aρ 7) (12 : Int32) (6 : Int32) 72 (ρ.2.2.2.2.2.2.1, ρ.1) x1 (2 : Int32) z4 e5) [1, 7] [0, 2, 3, 4, 5, 6, 8, 9, 10] rfl rfl (by decide +kernel) rfl rfl rfl ⟨rfl, rfl⟩ ⟨by decide, by decide⟩ (Nat.le_of_ble_eq_true rfl) ⟨by decide, by decide⟩ rfl (fun v w' hp => ?_)
    obtain ⟨rfl, rfl⟩ := hp
    refine J.sub (ws' := rmW D aρ ρ) [0, 9, 1, 2, 3, 4, 5, 10, 6, 7, 8] rfl (by decide +kernel) ?_
    refine r_iload_n h 2 rfl rfl dX1_whyNotChange_19 ?_
    refine r_icmp_ne h 25 dX1_whyNotChange_20 (by decide) (fun c6 => ?_) (fun c6 => ?_)
    · replace hF := o_neg c6 hF
      refine r_aload_n h 0 rfl rfl dX1_whyNotChange_25 ?_
      refine r_iload_n h 1 rfl rfl dX1_whyNotChange_26 ?_
      refine r_aload_n h 0 rfl rfl dX1_whyNotChange_27 ?_
      refine r_get h fl_X1_14 0 rfl rfl dX1_whyNotChange_28 ?_
      refine r_iload_n h 1 rfl rfl dX1_whyNotChange_31 ?_
      refine r_iconst (v := 4) h dX1_whyNotChange_32 (by decide) ?_
      obtain ⟨z7, e8, hF⟩ := o_bind hF
      refine r_callV (q0 := 0) (wr := w_pk (rmW D aρ ρ) [0, 2, 3, 4, 5, 6, 8, 9, 10]) (rest := [.int x1, .ref (aρ 0)]) h hd_X2_at wm_144 dX1_whyNotChange_33 (CX2_at l D (aρ 1) (aρ 7) (12 : Int32) (6 : Int32) 72 (ρ.2.2.2.2.2.2.1, ρ.1) x1 (4 : Int32) z7 e8) [1, 7] [0, 2, 3, 4, 5, 6, 8, 9, 10] rfl rfl (by decide +kernel) rfl rfl rfl ⟨rfl, rfl⟩ ⟨by decide, by decide⟩ (Nat.le_of_ble_eq_true rfl) ⟨by decide, by decide⟩ rfl (fun v w' hp => ?_)
      obtain ⟨rfl, rfl⟩ := hp
      refine J.sub (ws' := rmW D aρ ρ) [0, 9, 1, 2, 3, 4, 5, 10, 6, 7, 8] rfl (by decide +kernel) ?_
      refine r_aload_n h 0 rfl rfl dX1_whyNotChange_36 ?_
      refine r_get h fl_X1_14 0 rfl rfl dX1_whyNotChange_37 ?_
      refine r_iload_n h 1 rfl rfl dX1_whyNotChange_40 ?_
      refine r_iconst (v := 5) h dX1_whyNotChange_41 (by decide) ?_
      obtain ⟨z9, e10, hF⟩ := o_bind hF
      refine r_callV (q0 := 0) (wr := w_pk (rmW D aρ ρ) [0, 2, 3, 4, 5, 6, 8, 9, 10]) (rest := [.int z7, .int x1, .ref (aρ 0)]) h hd_X2_at wm_144 dX1_whyNotChange_42 (CX2_at l D (aρ 1) (aρ 7) (12 : Int32) (6 : Int32) 72 (ρ.2.2.2.2.2.2.1, ρ.1) x1 (5 : Int32) z9 e10) [1, 7] [0, 2, 3, 4, 5, 6, 8, 9, 10] rfl rfl (by decide +kernel) rfl rfl rfl ⟨rfl, rfl⟩ ⟨by decide, by decide⟩ (Nat.le_of_ble_eq_true rfl) ⟨by decide, by decide⟩ rfl (fun v w' hp => ?_)
      obtain ⟨rfl, rfl⟩ := hp
      refine J.sub (ws' := rmW D aρ ρ) [0, 9, 1, 2, 3, 4, 5, 10, 6, 7, 8] rfl (by decide +kernel) ?_
      refine r_iload_n h 2 rfl rfl dX1_whyNotChange_45 ?_
      obtain ⟨z11, e12, hF⟩ := o_bind hF
      refine r_callVa (q0 := 0) (rest := []) h hd_X1_firstWrongWith wm_160 dX1_whyNotChange_46 (CX1_firstWrongWith l D aρ ρ x1 z7 z9 x2 z11.1 z11.2 e12) rfl rfl rfl ⟨rfl, rfl⟩ ⟨by decide, by decide⟩ (Nat.le_of_ble_eq_true rfl) ⟨by decide, by decide⟩ rfl (fun v w' hp => ?_)
      obtain ⟨rfl, rfl⟩ := hp
      cases hF
      exact r_iret h hr dX1_whyNotChange_49 ⟨rfl, rfl⟩
    · replace hF := o_pos c6 hF
      refine r_iconst (v := 2) h dX1_whyNotChange_23 (by decide) ?_
      cases hF
      exact r_iret h hr dX1_whyNotChange_24 ⟨rfl, rfl⟩
  · replace hF := o_neg c3 hF
    refine r_iconst (v := 1) h dX1_whyNotChange_8 (by decide) ?_
    cases hF
    exact r_iret h hr dX1_whyNotChange_9 ⟨rfl, rfl⟩

def FX1_pushStep_J18 (x1 : Int32) (t4_ρ : RS) : Option (RS) :=
  (FX2_addRow (20 : Int32) (4 : Int32) 80 (t4_ρ.2.2.2.2.2.2.2.2.2.1, t4_ρ.2.2.2.1)).bind fun z7 =>
  (FX2_put (20 : Int32) (4 : Int32) 80 (z7.2.1, z7.2.2) z7.1 (0 : Int32) x1).bind fun z9 =>
  (FX2_at (12 : Int32) (6 : Int32) 72 (t4_ρ.2.2.2.2.2.2.1, t4_ρ.1) x1 (4 : Int32)).bind fun z11 =>
  (FX2_put (20 : Int32) (4 : Int32) 80 (z9.1, z9.2) z7.1 (1 : Int32) z11).bind fun z13 =>
  (FX2_at (12 : Int32) (6 : Int32) 72 (t4_ρ.2.2.2.2.2.2.1, t4_ρ.1) x1 (5 : Int32)).bind fun z15 =>
  (FX2_put (20 : Int32) (4 : Int32) 80 (z13.1, z13.2) z7.1 (2 : Int32) z15).bind fun z17 =>
  (FX2_at (12 : Int32) (6 : Int32) 72 (t4_ρ.2.2.2.2.2.2.1, t4_ρ.1) x1 (2 : Int32)).bind fun z19 =>
  (FX2_put (20 : Int32) (4 : Int32) 80 (z17.1, z17.2) z7.1 (3 : Int32) z19).bind fun z21 =>
  nmv (t4_ρ.2.2.2.2.2.2.2.2.2.2.2.2.1 + (1 : Int32)) fun u23 =>
  some (t4_ρ.1, t4_ρ.2.1, t4_ρ.2.2.1, z21.2, t4_ρ.2.2.2.2.1, t4_ρ.2.2.2.2.2.1, t4_ρ.2.2.2.2.2.2.1, t4_ρ.2.2.2.2.2.2.2.1, t4_ρ.2.2.2.2.2.2.2.2.1, z21.1, t4_ρ.2.2.2.2.2.2.2.2.2.2.1, t4_ρ.2.2.2.2.2.2.2.2.2.2.2.1, u23, t4_ρ.2.2.2.2.2.2.2.2.2.2.2.2.2)
def FX1_pushStep (ρ : RS) (x1 : Int32) : Option (RS) :=
  (FX2_isFull (20 : Int32) (4 : Int32) 80 (ρ.2.2.2.2.2.2.2.2.2.1, ρ.2.2.2.1)).bind fun z1 =>
  if z1 = 0 then
  (FX1_pushStep_J18 x1 ρ)
else
  ((FX2_removeRow (20 : Int32) (4 : Int32) 80 (ρ.2.2.2.2.2.2.2.2.2.1, ρ.2.2.2.1) (0 : Int32)).bind fun z5 =>
  FX1_pushStep_J18 x1 (ρ.1, ρ.2.1, ρ.2.2.1, z5.2, ρ.2.2.2.2.1, ρ.2.2.2.2.2.1, ρ.2.2.2.2.2.2.1, ρ.2.2.2.2.2.2.2.1, ρ.2.2.2.2.2.2.2.2.1, z5.1, ρ.2.2.2.2.2.2.2.2.2.2.1, ρ.2.2.2.2.2.2.2.2.2.2.2.1, ρ.2.2.2.2.2.2.2.2.2.2.2.2.1, ρ.2.2.2.2.2.2.2.2.2.2.2.2.2))
abbrev rmX1_pushStep : Room := { frames := 2, cells := 0, slots := 0, locals := 43 }
set_option maxHeartbeats 4000000 in
set_option maxRecDepth 100000 in
theorem CX1_pushStep (l : Launch) (D : va_G) (aρ : Nat → Nat) (ρ : RS) (x1 : Int32) (ρ0 : RS) (hF : FX1_pushStep ρ x1 = some ρ0) : Ct l D yX1_pushStep cX1_pushStep 3 none rmX1_pushStep 0 0 [.ref (aρ 0), .int x1] (rmW D aρ ρ) (fun v w => v = none ∧ w = rmW D aρ ρ0) := by
  refine Ct.of (own := RX1) (lv := [(0, .ref (aρ 0)), (1, .int x1)]) (by decide +kernel) rfl (Nat.le_of_ble_eq_true rfl) rfl (fun X h hr => ?_)
  unfold FX1_pushStep at hF
  refine r_aload_n h 0 rfl rfl dX1_pushStep_0 ?_
  refine r_get h fl_X1_26 0 rfl rfl dX1_pushStep_1 ?_
  obtain ⟨z1, e2, hF⟩ := o_bind hF
  refine r_callV (q0 := 0) (wr := w_pk (rmW D aρ ρ) [0, 1, 2, 3, 5, 6, 7, 8, 9]) (rest := []) h hd_X2_isFull wm_341 dX1_pushStep_4 (CX2_isFull l D (aρ 4) (aρ 10) (20 : Int32) (4 : Int32) 80 (ρ.2.2.2.2.2.2.2.2.2.1, ρ.2.2.2.1) z1 e2) [4, 10] [0, 1, 2, 3, 5, 6, 7, 8, 9] rfl rfl (by decide +kernel) rfl rfl rfl ⟨rfl, rfl⟩ ⟨by decide, by decide⟩ (Nat.le_of_ble_eq_true rfl) ⟨by decide, by decide⟩ rfl (fun v w' hp => ?_)
  obtain ⟨rfl, rfl⟩ := hp
  refine J.sub (ws' := rmW D aρ ρ) [0, 1, 2, 3, 9, 4, 5, 6, 7, 8, 10] rfl (by decide +kernel) ?_
  have hJ18 : ∀ (t4_ρ : RS), FX1_pushStep_J18 x1 t4_ρ = some ρ0 → J X l rmX1_pushStep D 3 0 0 (rmW D aρ t4_ρ) [(0, .ref (aρ 0)), (1, .int x1)] 18 [] := by
    intro t4_ρ hF
    unfold FX1_pushStep_J18 at hF
    refine r_aload_n h 0 rfl rfl dX1_pushStep_18 ?_
    refine r_get h fl_X1_26 0 rfl rfl dX1_pushStep_19 ?_
    obtain ⟨z7, e8, hF⟩ := o_bind hF
    refine r_callV (q0 := 0) (wr := w_pk (rmW D aρ t4_ρ) [0, 1, 2, 3, 5, 6, 7, 8, 9]) (rest := []) h hd_X2_addRow wm_342 dX1_pushStep_22 (CX2_addRow l D (aρ 4) (aρ 10) (20 : Int32) (4 : Int32) 80 (t4_ρ.2.2.2.2.2.2.2.2.2.1, t4_ρ.2.2.2.1) z7.1 z7.2 e8) [4, 10] [0, 1, 2, 3, 5, 6, 7, 8, 9] rfl rfl (by decide +kernel) rfl rfl rfl ⟨rfl, rfl⟩ ⟨by decide, by decide⟩ (Nat.le_of_ble_eq_true rfl) ⟨by decide, by decide⟩ rfl (fun v w' hp => ?_)
    obtain ⟨rfl, rfl⟩ := hp
    refine J.sub (ws' := rmW D aρ (t4_ρ.1, t4_ρ.2.1, t4_ρ.2.2.1, z7.2.2, t4_ρ.2.2.2.2.1, t4_ρ.2.2.2.2.2.1, t4_ρ.2.2.2.2.2.2.1, t4_ρ.2.2.2.2.2.2.2.1, t4_ρ.2.2.2.2.2.2.2.2.1, z7.2.1, t4_ρ.2.2.2.2.2.2.2.2.2.2.1, t4_ρ.2.2.2.2.2.2.2.2.2.2.2.1, t4_ρ.2.2.2.2.2.2.2.2.2.2.2.2.1, t4_ρ.2.2.2.2.2.2.2.2.2.2.2.2.2)) [0, 1, 2, 3, 9, 4, 5, 6, 7, 8, 10] rfl (by decide +kernel) ?_
    refine r_istore_n (lv' := [(2, .int z7.1), (0, .ref (aρ 0)), (1, .int x1)]) h rfl dX1_pushStep_25 (by decide) rfl ?_
    refine r_aload_n h 1 rfl rfl dX1_pushStep_26 ?_
    refine r_get h fl_X1_26 0 rfl rfl dX1_pushStep_27 ?_
    refine r_iload_n h 0 rfl rfl dX1_pushStep_30 ?_
    refine r_iconst (v := 0) h dX1_pushStep_31 (by decide) ?_
    refine r_iload_n h 2 rfl rfl dX1_pushStep_32 ?_
    obtain ⟨z9, e10, hF⟩ := o_bind hF
    refine r_callV (q0 := 0) (wr := w_pk (rmW D aρ (t4_ρ.1, t4_ρ.2.1, t4_ρ.2.2.1, z7.2.2, t4_ρ.2.2.2.2.1, t4_ρ.2.2.2.2.2.1, t4_ρ.2.2.2.2.2.2.1, t4_ρ.2.2.2.2.2.2.2.1, t4_ρ.2.2.2.2.2.2.2.2.1, z7.2.1, t4_ρ.2.2.2.2.2.2.2.2.2.2.1, t4_ρ.2.2.2.2.2.2.2.2.2.2.2.1, t4_ρ.2.2.2.2.2.2.2.2.2.2.2.2.1, t4_ρ.2.2.2.2.2.2.2.2.2.2.2.2.2)) [0, 1, 2, 3, 5, 6, 7, 8, 9]) (rest := []) h hd_X2_put wm_168 dX1_pushStep_33 (CX2_put l D (aρ 4) (aρ 10) (20 : Int32) (4 : Int32) 80 (z7.2.1, z7.2.2) z7.1 (0 : Int32) x1 z9 e10) [4, 10] [0, 1, 2, 3, 5, 6, 7, 8, 9] rfl rfl (by decide +kernel) rfl rfl rfl ⟨rfl, rfl⟩ ⟨by decide, by decide⟩ (Nat.le_of_ble_eq_true rfl) ⟨by decide, by decide⟩ rfl (fun v w' hp => ?_)
    obtain ⟨rfl, rfl⟩ := hp
    refine J.sub (ws' := rmW D aρ (t4_ρ.1, t4_ρ.2.1, t4_ρ.2.2.1, z9.2, t4_ρ.2.2.2.2.1, t4_ρ.2.2.2.2.2.1, t4_ρ.2.2.2.2.2.2.1, t4_ρ.2.2.2.2.2.2.2.1, t4_ρ.2.2.2.2.2.2.2.2.1, z9.1, t4_ρ.2.2.2.2.2.2.2.2.2.2.1, t4_ρ.2.2.2.2.2.2.2.2.2.2.2.1, t4_ρ.2.2.2.2.2.2.2.2.2.2.2.2.1, t4_ρ.2.2.2.2.2.2.2.2.2.2.2.2.2)) [0, 1, 2, 3, 9, 4, 5, 6, 7, 8, 10] rfl (by decide +kernel) ?_
    refine r_aload_n h 1 rfl rfl dX1_pushStep_36 ?_
    refine r_get h fl_X1_26 0 rfl rfl dX1_pushStep_37 ?_
    refine r_iload_n h 0 rfl rfl dX1_pushStep_40 ?_
    refine r_iconst (v := 1) h dX1_pushStep_41 (by decide) ?_
    refine r_aload_n h 1 rfl rfl dX1_pushStep_42 ?_
    refine r_get h fl_X1_14 0 rfl rfl dX1_pushStep_43 ?_
    refine r_iload_n h 2 rfl rfl dX1_pushStep_46 ?_
    refine r_iconst (v := 4) h dX1_pushStep_47 (by decide) ?_
    obtain ⟨z11, e12, hF⟩ := o_bind hF
    refine r_callV (q0 := 0) (wr := w_pk (rmW D aρ (t4_ρ.1, t4_ρ.2.1, t4_ρ.2.2.1, z9.2, t4_ρ.2.2.2.2.1, t4_ρ.2.2.2.2.2.1, t4_ρ.2.2.2.2.2.2.1, t4_ρ.2.2.2.2.2.2.2.1, t4_ρ.2.2.2.2.2.2.2.2.1, z9.1, t4_ρ.2.2.2.2.2.2.2.2.2.2.1, t4_ρ.2.2.2.2.2.2.2.2.2.2.2.1, t4_ρ.2.2.2.2.2.2.2.2.2.2.2.2.1, t4_ρ.2.2.2.2.2.2.2.2.2.2.2.2.2)) [0, 2, 3, 4, 5, 6, 8, 9, 10]) (rest := [.int (1 : Int32), .int z7.1, .ref (aρ 4)]) h hd_X2_at wm_144 dX1_pushStep_48 (CX2_at l D (aρ 1) (aρ 7) (12 : Int32) (6 : Int32) 72 (t4_ρ.2.2.2.2.2.2.1, t4_ρ.1) x1 (4 : Int32) z11 e12) [1, 7] [0, 2, 3, 4, 5, 6, 8, 9, 10] rfl rfl (by decide +kernel) rfl rfl rfl ⟨rfl, rfl⟩ ⟨by decide, by decide⟩ (Nat.le_of_ble_eq_true rfl) ⟨by decide, by decide⟩ rfl (fun v w' hp => ?_)
    obtain ⟨rfl, rfl⟩ := hp
    refine J.sub (ws' := rmW D aρ (t4_ρ.1, t4_ρ.2.1, t4_ρ.2.2.1, z9.2, t4_ρ.2.2.2.2.1, t4_ρ.2.2.2.2.2.1, t4_ρ.2.2.2.2.2.2.1, t4_ρ.2.2.2.2.2.2.2.1, t4_ρ.2.2.2.2.2.2.2.2.1, z9.1, t4_ρ.2.2.2.2.2.2.2.2.2.2.1, t4_ρ.2.2.2.2.2.2.2.2.2.2.2.1, t4_ρ.2.2.2.2.2.2.2.2.2.2.2.2.1, t4_ρ.2.2.2.2.2.2.2.2.2.2.2.2.2)) [0, 9, 1, 2, 3, 4, 5, 10, 6, 7, 8] rfl (by decide +kernel) ?_
    obtain ⟨z13, e14, hF⟩ := o_bind hF
    refine r_callV (q0 := 0) (wr := w_pk (rmW D aρ (t4_ρ.1, t4_ρ.2.1, t4_ρ.2.2.1, z9.2, t4_ρ.2.2.2.2.1, t4_ρ.2.2.2.2.2.1, t4_ρ.2.2.2.2.2.2.1, t4_ρ.2.2.2.2.2.2.2.1, t4_ρ.2.2.2.2.2.2.2.2.1, z9.1, t4_ρ.2.2.2.2.2.2.2.2.2.2.1, t4_ρ.2.2.2.2.2.2.2.2.2.2.2.1, t4_ρ.2.2.2.2.2.2.2.2.2.2.2.2.1, t4_ρ.2.2.2.2.2.2.2.2.2.2.2.2.2)) [0, 1, 2, 3, 5, 6, 7, 8, 9]) (rest := []) h hd_X2_put wm_168 dX1_pushStep_51 (CX2_put l D (aρ 4) (aρ 10) (20 : Int32) (4 : Int32) 80 (z9.1, z9.2) z7.1 (1 : Int32) z11 z13 e14) [4, 10] [0, 1, 2, 3, 5, 6, 7, 8, 9] rfl rfl (by decide +kernel) rfl rfl rfl ⟨rfl, rfl⟩ ⟨by decide, by decide⟩ (Nat.le_of_ble_eq_true rfl) ⟨by decide, by decide⟩ rfl (fun v w' hp => ?_)
    obtain ⟨rfl, rfl⟩ := hp
    refine J.sub (ws' := rmW D aρ (t4_ρ.1, t4_ρ.2.1, t4_ρ.2.2.1, z13.2, t4_ρ.2.2.2.2.1, t4_ρ.2.2.2.2.2.1, t4_ρ.2.2.2.2.2.2.1, t4_ρ.2.2.2.2.2.2.2.1, t4_ρ.2.2.2.2.2.2.2.2.1, z13.1, t4_ρ.2.2.2.2.2.2.2.2.2.2.1, t4_ρ.2.2.2.2.2.2.2.2.2.2.2.1, t4_ρ.2.2.2.2.2.2.2.2.2.2.2.2.1, t4_ρ.2.2.2.2.2.2.2.2.2.2.2.2.2)) [0, 1, 2, 3, 9, 4, 5, 6, 7, 8, 10] rfl (by decide +kernel) ?_
    refine r_aload_n h 1 rfl rfl dX1_pushStep_54 ?_
    refine r_get h fl_X1_26 0 rfl rfl dX1_pushStep_55 ?_
    refine r_iload_n h 0 rfl rfl dX1_pushStep_58 ?_
    refine r_iconst (v := 2) h dX1_pushStep_59 (by decide) ?_
    refine r_aload_n h 1 rfl rfl dX1_pushStep_60 ?_
    refine r_get h fl_X1_14 0 rfl rfl dX1_pushStep_61 ?_
    refine r_iload_n h 2 rfl rfl dX1_pushStep_64 ?_
    refine r_iconst (v := 5) h dX1_pushStep_65 (by decide) ?_
    obtain ⟨z15, e16, hF⟩ := o_bind hF
    refine r_callV (q0 := 0) (wr := w_pk (rmW D aρ (t4_ρ.1, t4_ρ.2.1, t4_ρ.2.2.1, z13.2, t4_ρ.2.2.2.2.1, t4_ρ.2.2.2.2.2.1, t4_ρ.2.2.2.2.2.2.1, t4_ρ.2.2.2.2.2.2.2.1, t4_ρ.2.2.2.2.2.2.2.2.1, z13.1, t4_ρ.2.2.2.2.2.2.2.2.2.2.1, t4_ρ.2.2.2.2.2.2.2.2.2.2.2.1, t4_ρ.2.2.2.2.2.2.2.2.2.2.2.2.1, t4_ρ.2.2.2.2.2.2.2.2.2.2.2.2.2)) [0, 2, 3, 4, 5, 6, 8, 9, 10]) (rest := [.int (2 : Int32), .int z7.1, .ref (aρ 4)]) h hd_X2_at wm_144 dX1_pushStep_66 (CX2_at l D (aρ 1) (aρ 7) (12 : Int32) (6 : Int32) 72 (t4_ρ.2.2.2.2.2.2.1, t4_ρ.1) x1 (5 : Int32) z15 e16) [1, 7] [0, 2, 3, 4, 5, 6, 8, 9, 10] rfl rfl (by decide +kernel) rfl rfl rfl ⟨rfl, rfl⟩ ⟨by decide, by decide⟩ (Nat.le_of_ble_eq_true rfl) ⟨by decide, by decide⟩ rfl (fun v w' hp => ?_)
    obtain ⟨rfl, rfl⟩ := hp
    refine J.sub (ws' := rmW D aρ (t4_ρ.1, t4_ρ.2.1, t4_ρ.2.2.1, z13.2, t4_ρ.2.2.2.2.1, t4_ρ.2.2.2.2.2.1, t4_ρ.2.2.2.2.2.2.1, t4_ρ.2.2.2.2.2.2.2.1, t4_ρ.2.2.2.2.2.2.2.2.1, z13.1, t4_ρ.2.2.2.2.2.2.2.2.2.2.1, t4_ρ.2.2.2.2.2.2.2.2.2.2.2.1, t4_ρ.2.2.2.2.2.2.2.2.2.2.2.2.1, t4_ρ.2.2.2.2.2.2.2.2.2.2.2.2.2)) [0, 9, 1, 2, 3, 4, 5, 10, 6, 7, 8] rfl (by decide +kernel) ?_
    obtain ⟨z17, e18, hF⟩ := o_bind hF
    refine r_callV (q0 := 0) (wr := w_pk (rmW D aρ (t4_ρ.1, t4_ρ.2.1, t4_ρ.2.2.1, z13.2, t4_ρ.2.2.2.2.1, t4_ρ.2.2.2.2.2.1, t4_ρ.2.2.2.2.2.2.1, t4_ρ.2.2.2.2.2.2.2.1, t4_ρ.2.2.2.2.2.2.2.2.1, z13.1, t4_ρ.2.2.2.2.2.2.2.2.2.2.1, t4_ρ.2.2.2.2.2.2.2.2.2.2.2.1, t4_ρ.2.2.2.2.2.2.2.2.2.2.2.2.1, t4_ρ.2.2.2.2.2.2.2.2.2.2.2.2.2)) [0, 1, 2, 3, 5, 6, 7, 8, 9]) (rest := []) h hd_X2_put wm_168 dX1_pushStep_69 (CX2_put l D (aρ 4) (aρ 10) (20 : Int32) (4 : Int32) 80 (z13.1, z13.2) z7.1 (2 : Int32) z15 z17 e18) [4, 10] [0, 1, 2, 3, 5, 6, 7, 8, 9] rfl rfl (by decide +kernel) rfl rfl rfl ⟨rfl, rfl⟩ ⟨by decide, by decide⟩ (Nat.le_of_ble_eq_true rfl) ⟨by decide, by decide⟩ rfl (fun v w' hp => ?_)
    obtain ⟨rfl, rfl⟩ := hp
    refine J.sub (ws' := rmW D aρ (t4_ρ.1, t4_ρ.2.1, t4_ρ.2.2.1, z17.2, t4_ρ.2.2.2.2.1, t4_ρ.2.2.2.2.2.1, t4_ρ.2.2.2.2.2.2.1, t4_ρ.2.2.2.2.2.2.2.1, t4_ρ.2.2.2.2.2.2.2.2.1, z17.1, t4_ρ.2.2.2.2.2.2.2.2.2.2.1, t4_ρ.2.2.2.2.2.2.2.2.2.2.2.1, t4_ρ.2.2.2.2.2.2.2.2.2.2.2.2.1, t4_ρ.2.2.2.2.2.2.2.2.2.2.2.2.2)) [0, 1, 2, 3, 9, 4, 5, 6, 7, 8, 10] rfl (by decide +kernel) ?_
    refine r_aload_n h 1 rfl rfl dX1_pushStep_72 ?_
    refine r_get h fl_X1_26 0 rfl rfl dX1_pushStep_73 ?_
    refine r_iload_n h 0 rfl rfl dX1_pushStep_76 ?_
    refine r_iconst (v := 3) h dX1_pushStep_77 (by decide) ?_
    refine r_aload_n h 1 rfl rfl dX1_pushStep_78 ?_
    refine r_get h fl_X1_14 0 rfl rfl dX1_pushStep_79 ?_
    refine r_iload_n h 2 rfl rfl dX1_pushStep_82 ?_
    refine r_iconst (v := 2) h dX1_pushStep_83 (by decide) ?_
    obtain ⟨z19, e20, hF⟩ := o_bind hF
    refine r_callV (q0 := 0) (wr := w_pk (rmW D aρ (t4_ρ.1, t4_ρ.2.1, t4_ρ.2.2.1, z17.2, t4_ρ.2.2.2.2.1, t4_ρ.2.2.2.2.2.1, t4_ρ.2.2.2.2.2.2.1, t4_ρ.2.2.2.2.2.2.2.1, t4_ρ.2.2.2.2.2.2.2.2.1, z17.1, t4_ρ.2.2.2.2.2.2.2.2.2.2.1, t4_ρ.2.2.2.2.2.2.2.2.2.2.2.1, t4_ρ.2.2.2.2.2.2.2.2.2.2.2.2.1, t4_ρ.2.2.2.2.2.2.2.2.2.2.2.2.2)) [0, 2, 3, 4, 5, 6, 8, 9, 10]) (rest := [.int (3 : Int32), .int z7.1, .ref (aρ 4)]) h hd_X2_at wm_144 dX1_pushStep_84 (CX2_at l D (aρ 1) (aρ 7) (12 : Int32) (6 : Int32) 72 (t4_ρ.2.2.2.2.2.2.1, t4_ρ.1) x1 (2 : Int32) z19 e20) [1, 7] [0, 2, 3, 4, 5, 6, 8, 9, 10] rfl rfl (by decide +kernel) rfl rfl rfl ⟨rfl, rfl⟩ ⟨by decide, by decide⟩ (Nat.le_of_ble_eq_true rfl) ⟨by decide, by decide⟩ rfl (fun v w' hp => ?_)
    obtain ⟨rfl, rfl⟩ := hp
    refine J.sub (ws' := rmW D aρ (t4_ρ.1, t4_ρ.2.1, t4_ρ.2.2.1, z17.2, t4_ρ.2.2.2.2.1, t4_ρ.2.2.2.2.2.1, t4_ρ.2.2.2.2.2.2.1, t4_ρ.2.2.2.2.2.2.2.1, t4_ρ.2.2.2.2.2.2.2.2.1, z17.1, t4_ρ.2.2.2.2.2.2.2.2.2.2.1, t4_ρ.2.2.2.2.2.2.2.2.2.2.2.1, t4_ρ.2.2.2.2.2.2.2.2.2.2.2.2.1, t4_ρ.2.2.2.2.2.2.2.2.2.2.2.2.2)) [0, 9, 1, 2, 3, 4, 5, 10, 6, 7, 8] rfl (by decide +kernel) ?_
    obtain ⟨z21, e22, hF⟩ := o_bind hF
    refine r_callV (q0 := 0) (wr := w_pk (rmW D aρ (t4_ρ.1, t4_ρ.2.1, t4_ρ.2.2.1, z17.2, t4_ρ.2.2.2.2.1, t4_ρ.2.2.2.2.2.1, t4_ρ.2.2.2.2.2.2.1, t4_ρ.2.2.2.2.2.2.2.1, t4_ρ.2.2.2.2.2.2.2.2.1, z17.1, t4_ρ.2.2.2.2.2.2.2.2.2.2.1, t4_ρ.2.2.2.2.2.2.2.2.2.2.2.1, t4_ρ.2.2.2.2.2.2.2.2.2.2.2.2.1, t4_ρ.2.2.2.2.2.2.2.2.2.2.2.2.2)) [0, 1, 2, 3, 5, 6, 7, 8, 9]) (rest := []) h hd_X2_put wm_168 dX1_pushStep_87 (CX2_put l D (aρ 4) (aρ 10) (20 : Int32) (4 : Int32) 80 (z17.1, z17.2) z7.1 (3 : Int32) z19 z21 e22) [4, 10] [0, 1, 2, 3, 5, 6, 7, 8, 9] rfl rfl (by decide +kernel) rfl rfl rfl ⟨rfl, rfl⟩ ⟨by decide, by decide⟩ (Nat.le_of_ble_eq_true rfl) ⟨by decide, by decide⟩ rfl (fun v w' hp => ?_)
    obtain ⟨rfl, rfl⟩ := hp
    refine J.sub (ws' := rmW D aρ (t4_ρ.1, t4_ρ.2.1, t4_ρ.2.2.1, z21.2, t4_ρ.2.2.2.2.1, t4_ρ.2.2.2.2.2.1, t4_ρ.2.2.2.2.2.2.1, t4_ρ.2.2.2.2.2.2.2.1, t4_ρ.2.2.2.2.2.2.2.2.1, z21.1, t4_ρ.2.2.2.2.2.2.2.2.2.2.1, t4_ρ.2.2.2.2.2.2.2.2.2.2.2.1, t4_ρ.2.2.2.2.2.2.2.2.2.2.2.2.1, t4_ρ.2.2.2.2.2.2.2.2.2.2.2.2.2)) [0, 1, 2, 3, 9, 4, 5, 6, 7, 8, 10] rfl (by decide +kernel) ?_
    refine r_aload_n h 1 rfl rfl dX1_pushStep_90 ?_
    refine r_dup h rfl dX1_pushStep_91 ?_
    refine r_get h fl_X1_43 0 rfl rfl dX1_pushStep_92 ?_
    refine r_iconst (v := 1) h dX1_pushStep_95 (by decide) ?_
    refine r_iadd h dX1_pushStep_96 ?_
    obtain ⟨u23, hu23, hF⟩ := o_nm hF
    refine J.top hu23 ?_
    refine r_put (ws' := rmW D aρ (t4_ρ.1, t4_ρ.2.1, t4_ρ.2.2.1, z21.2, t4_ρ.2.2.2.2.1, t4_ρ.2.2.2.2.2.1, t4_ρ.2.2.2.2.2.2.1, t4_ρ.2.2.2.2.2.2.2.1, t4_ρ.2.2.2.2.2.2.2.2.1, z21.1, t4_ρ.2.2.2.2.2.2.2.2.2.2.1, t4_ρ.2.2.2.2.2.2.2.2.2.2.2.1, u23, t4_ρ.2.2.2.2.2.2.2.2.2.2.2.2.2)) h fp_X1_43 0 rfl (Nat.le_of_ble_eq_true rfl) rfl rfl rfl dX1_pushStep_97 ?_
    cases hF
    exact r_vret h hr dX1_pushStep_100 ⟨rfl, rfl⟩
  refine r_if_eq h 18 dX1_pushStep_7 (by decide) (fun c3 => ?_) (fun c3 => ?_)
  · replace hF := o_pos c3 hF
    exact J.loc (lv' := [(0, .ref (aρ 0)), (1, .int x1)]) [0, 1] rfl (hJ18 ρ hF)
  · replace hF := o_neg c3 hF
    refine r_aload_n h 0 rfl rfl dX1_pushStep_10 ?_
    refine r_get h fl_X1_26 0 rfl rfl dX1_pushStep_11 ?_
    refine r_iconst (v := 0) h dX1_pushStep_14 (by decide) ?_
    obtain ⟨z5, e6, hF⟩ := o_bind hF
    refine r_callV (q0 := 0) (wr := w_pk (rmW D aρ ρ) [0, 1, 2, 3, 5, 6, 7, 8, 9]) (rest := []) h hd_X2_removeRow wm_229 dX1_pushStep_15 (CX2_removeRow l D (aρ 4) (aρ 10) (20 : Int32) (4 : Int32) 80 (ρ.2.2.2.2.2.2.2.2.2.1, ρ.2.2.2.1) (0 : Int32) z5 e6) [4, 10] [0, 1, 2, 3, 5, 6, 7, 8, 9] rfl rfl (by decide +kernel) rfl rfl rfl ⟨rfl, rfl⟩ ⟨by decide, by decide⟩ (Nat.le_of_ble_eq_true rfl) ⟨by decide, by decide⟩ rfl (fun v w' hp => ?_)
    obtain ⟨rfl, rfl⟩ := hp
    refine J.sub (ws' := rmW D aρ (ρ.1, ρ.2.1, ρ.2.2.1, z5.2, ρ.2.2.2.2.1, ρ.2.2.2.2.2.1, ρ.2.2.2.2.2.2.1, ρ.2.2.2.2.2.2.2.1, ρ.2.2.2.2.2.2.2.2.1, z5.1, ρ.2.2.2.2.2.2.2.2.2.2.1, ρ.2.2.2.2.2.2.2.2.2.2.2.1, ρ.2.2.2.2.2.2.2.2.2.2.2.2.1, ρ.2.2.2.2.2.2.2.2.2.2.2.2.2)) [0, 1, 2, 3, 9, 4, 5, 6, 7, 8, 10] rfl (by decide +kernel) ?_
    exact J.loc (lv' := [(0, .ref (aρ 0)), (1, .int x1)]) [0, 1] rfl (hJ18 (ρ.1, ρ.2.1, ρ.2.2.1, z5.2, ρ.2.2.2.2.1, ρ.2.2.2.2.2.1, ρ.2.2.2.2.2.2.1, ρ.2.2.2.2.2.2.2.1, ρ.2.2.2.2.2.2.2.2.1, z5.1, ρ.2.2.2.2.2.2.2.2.2.2.1, ρ.2.2.2.2.2.2.2.2.2.2.2.1, ρ.2.2.2.2.2.2.2.2.2.2.2.2.1, ρ.2.2.2.2.2.2.2.2.2.2.2.2.2) hF)

def FX1_doChange (ρ : RS) (x1 : Int32) (x2 : Int32) : Option (RS) :=
  (FX1_pushStep ρ x1).bind fun z1 =>
  (FX2_put (12 : Int32) (6 : Int32) 72 (z1.2.2.2.2.2.2.1, z1.1) x1 (2 : Int32) x2).bind fun z3 =>
  some (z3.2, z1.2.1, z1.2.2.1, z1.2.2.2.1, z1.2.2.2.2.1, z1.2.2.2.2.2.1, z3.1, z1.2.2.2.2.2.2.2.1, z1.2.2.2.2.2.2.2.2.1, z1.2.2.2.2.2.2.2.2.2.1, z1.2.2.2.2.2.2.2.2.2.2.1, z1.2.2.2.2.2.2.2.2.2.2.2.1, z1.2.2.2.2.2.2.2.2.2.2.2.2.1, z1.2.2.2.2.2.2.2.2.2.2.2.2.2)
abbrev rmX1_doChange : Room := { frames := 3, cells := 0, slots := 0, locals := 65 }
set_option maxHeartbeats 4000000 in
set_option maxRecDepth 100000 in
theorem CX1_doChange (l : Launch) (D : va_G) (aρ : Nat → Nat) (ρ : RS) (x1 : Int32) (x2 : Int32) (ρ0 : RS) (hF : FX1_doChange ρ x1 x2 = some ρ0) : Ct l D yX1_doChange cX1_doChange 3 none rmX1_doChange 0 0 [.ref (aρ 0), .int x1, .int x2] (rmW D aρ ρ) (fun v w => v = none ∧ w = rmW D aρ ρ0) := by
  refine Ct.of (own := RX1) (lv := [(0, .ref (aρ 0)), (1, .int x1), (2, .int x2)]) (by decide +kernel) rfl (Nat.le_of_ble_eq_true rfl) rfl (fun X h hr => ?_)
  unfold FX1_doChange at hF
  refine r_aload_n h 0 rfl rfl dX1_doChange_0 ?_
  refine r_iload_n h 1 rfl rfl dX1_doChange_1 ?_
  obtain ⟨z1, e2, hF⟩ := o_bind hF
  refine r_callVa (q0 := 0) (rest := []) h hd_X1_pushStep wm_337 dX1_doChange_2 (CX1_pushStep l D aρ ρ x1 z1 e2) rfl rfl rfl ⟨rfl, rfl⟩ ⟨by decide, by decide⟩ (Nat.le_of_ble_eq_true rfl) ⟨by decide, by decide⟩ rfl (fun v w' hp => ?_)
  obtain ⟨rfl, rfl⟩ := hp
  refine r_aload_n h 0 rfl rfl dX1_doChange_5 ?_
  refine r_get h fl_X1_14 0 rfl rfl dX1_doChange_6 ?_
  refine r_iload_n h 1 rfl rfl dX1_doChange_9 ?_
  refine r_iconst (v := 2) h dX1_doChange_10 (by decide) ?_
  refine r_iload_n h 2 rfl rfl dX1_doChange_11 ?_
  obtain ⟨z3, e4, hF⟩ := o_bind hF
  refine r_callV (q0 := 0) (wr := w_pk (rmW D aρ z1) [0, 2, 3, 4, 5, 6, 8, 9, 10]) (rest := []) h hd_X2_put wm_168 dX1_doChange_12 (CX2_put l D (aρ 1) (aρ 7) (12 : Int32) (6 : Int32) 72 (z1.2.2.2.2.2.2.1, z1.1) x1 (2 : Int32) x2 z3 e4) [1, 7] [0, 2, 3, 4, 5, 6, 8, 9, 10] rfl rfl (by decide +kernel) rfl rfl rfl ⟨rfl, rfl⟩ ⟨by decide, by decide⟩ (Nat.le_of_ble_eq_true rfl) ⟨by decide, by decide⟩ rfl (fun v w' hp => ?_)
  obtain ⟨rfl, rfl⟩ := hp
  refine J.sub (ws' := rmW D aρ (z3.2, z1.2.1, z1.2.2.1, z1.2.2.2.1, z1.2.2.2.2.1, z1.2.2.2.2.2.1, z3.1, z1.2.2.2.2.2.2.2.1, z1.2.2.2.2.2.2.2.2.1, z1.2.2.2.2.2.2.2.2.2.1, z1.2.2.2.2.2.2.2.2.2.2.1, z1.2.2.2.2.2.2.2.2.2.2.2.1, z1.2.2.2.2.2.2.2.2.2.2.2.2.1, z1.2.2.2.2.2.2.2.2.2.2.2.2.2)) [0, 9, 1, 2, 3, 4, 5, 10, 6, 7, 8] rfl (by decide +kernel) ?_
  cases hF
  exact r_vret h hr dX1_doChange_15 ⟨rfl, rfl⟩

def FX1_machineWithin_L3 (ρ : RS) (x1 : Int32) (x2 : Int32) (x3 : Int32) (x4 : Int32) (K : Int32 → Option (Int32)) : Nat → Int32 → Option (Int32)
  | 0, _ => none
  | n + 1, y1_5 =>
  if ρ.2.2.2.2.2.2.1 ≤ y1_5 then
  (K y1_5)
else
  (if y1_5 = x4 then
  (FX1_machineWithin_L3 ρ x1 x2 x3 x4 K n (y1_5 + 1))
else
  ((FX1_standsIn ρ y1_5 x1).bind fun z4 =>
  if z4 = 0 then
  (FX1_machineWithin_L3 ρ x1 x2 x3 x4 K n (y1_5 + 1))
else
  ((FX2_at (12 : Int32) (6 : Int32) 72 (ρ.2.2.2.2.2.2.1, ρ.1) y1_5 (5 : Int32)).bind fun z7 =>
  (FX2_at (12 : Int32) (6 : Int32) 72 (ρ.2.2.2.2.2.2.1, ρ.1) y1_5 (0 : Int32)).bind fun z9 =>
  if (x2 + x3) ≤ z7 then
  (FX1_machineWithin_L3 ρ x1 x2 x3 x4 K n (y1_5 + 1))
else
  (if (z7 + z9) ≤ x2 then
  (FX1_machineWithin_L3 ρ x1 x2 x3 x4 K n (y1_5 + 1))
else
  (some y1_5)))))
def FX1_machineWithin (ρ : RS) (x1 : Int32) (x2 : Int32) (x3 : Int32) (x4 : Int32) : Option (Int32) :=
  FX1_machineWithin_L3 ρ x1 x2 x3 x4 (fun (y1_5 : Int32) =>
  some (-1 : Int32)) FU (0 : Int32)
abbrev rmX1_machineWithin : Room := { frames := 2, cells := 0, slots := 0, locals := 44 }
set_option maxHeartbeats 4000000 in
set_option maxRecDepth 100000 in
theorem CX1_machineWithin (l : Launch) (D : va_G) (aρ : Nat → Nat) (ρ : RS) (x1 : Int32) (x2 : Int32) (x3 : Int32) (x4 : Int32) (r0 : Int32) (hF : FX1_machineWithin ρ x1 x2 x3 x4 = some r0) : Ct l D yX1_machineWithin cX1_machineWithin 8 (some .int) rmX1_machineWithin 0 0 [.ref (aρ 0), .int x1, .int x2, .int x3, .int x4] (rmW D aρ ρ) (fun v w => v = some (.int r0) ∧ w = rmW D aρ ρ) := by
  refine Ct.of (own := RX1) (lv := [(0, .ref (aρ 0)), (1, .int x1), (2, .int x2), (3, .int x3), (4, .int x4)]) (by decide +kernel) rfl (Nat.le_of_ble_eq_true rfl) rfl (fun X h hr => ?_)
  unfold FX1_machineWithin at hF
  refine r_iconst (v := 0) h dX1_machineWithin_0 (by decide) ?_
  refine r_istore (lv' := [(5, .int (0 : Int32)), (0, .ref (aρ 0)), (1, .int x1), (2, .int x2), (3, .int x3), (4, .int x4)]) h dX1_machineWithin_1 (by decide) rfl ?_
  have hL3 : ∀ (K : Int32 → Option (Int32)) (hK : ∀ (y1_5 : Int32), K y1_5 = some r0 → J X l rmX1_machineWithin D 8 0 0 (rmW D aρ ρ) [(5, .int y1_5), (0, .ref (aρ 0)), (1, .int x1), (2, .int x2), (3, .int x3), (4, .int x4)] 82 []) (N : Nat), ∀ (y1_5 : Int32), FX1_machineWithin_L3 ρ x1 x2 x3 x4 K N y1_5 = some r0 → J X l rmX1_machineWithin D 8 0 0 (rmW D aρ ρ) [(5, .int y1_5), (0, .ref (aρ 0)), (1, .int x1), (2, .int x2), (3, .int x3), (4, .int x4)] 3 [] := by
    intro K hK N
    induction N with
    | zero =>
      intro y1_5 hF
      cases hF
    | succ N ih =>
      intro y1_5 hF
      rw [FX1_machineWithin_L3] at hF
      refine r_iload h 0 rfl dX1_machineWithin_3 ?_
      refine r_aload_n h 1 rfl rfl dX1_machineWithin_5 ?_
      refine r_get h fl_X1_14 0 rfl rfl dX1_machineWithin_6 ?_
      refine r_get h fl_X1_63 1 rfl rfl dX1_machineWithin_9 ?_
      refine r_icmp_ge h 82 dX1_machineWithin_12 (by decide) (fun c2 => ?_) (fun c2 => ?_)
      · replace hF := o_pos c2 hF
        exact J.loc (lv' := [(5, .int y1_5), (0, .ref (aρ 0)), (1, .int x1), (2, .int x2), (3, .int x3), (4, .int x4)]) [0, 1, 2, 3, 4, 5] rfl (hK y1_5 hF)
      · replace hF := o_neg c2 hF
        refine r_iload h 0 rfl dX1_machineWithin_15 ?_
        refine r_iload h 5 rfl dX1_machineWithin_17 ?_
        refine r_icmp_eq h 76 dX1_machineWithin_19 (by decide) (fun c3 => ?_) (fun c3 => ?_)
        · replace hF := o_pos c3 hF
          refine r_iinc (lv' := [(5, .int (y1_5 + 1)), (0, .ref (aρ 0)), (1, .int x1), (2, .int x2), (3, .int x3), (4, .int x4)]) h 0 rfl (congrArg (fun z => y1_5 + z) (by decide : Int32.ofInt 1 = 1)) dX1_machineWithin_76 (by decide) rfl ?_
          refine r_goto h 3 dX1_machineWithin_79 (by decide) ?_
          exact J.loc (lv' := [(5, .int (y1_5 + 1)), (0, .ref (aρ 0)), (1, .int x1), (2, .int x2), (3, .int x3), (4, .int x4)]) [0, 1, 2, 3, 4, 5] rfl (ih (y1_5 + 1) hF)
        · replace hF := o_neg c3 hF
          refine r_aload_n h 1 rfl rfl dX1_machineWithin_22 ?_
          refine r_iload h 0 rfl dX1_machineWithin_23 ?_
          refine r_iload_n h 2 rfl rfl dX1_machineWithin_25 ?_
          obtain ⟨z4, e5, hF⟩ := o_bind hF
          refine r_callVa (q0 := 0) (rest := []) h hd_X1_standsIn wm_156 dX1_machineWithin_26 (CX1_standsIn l D aρ ρ y1_5 x1 z4 e5) rfl rfl rfl ⟨rfl, rfl⟩ ⟨by decide, by decide⟩ (Nat.le_of_ble_eq_true rfl) ⟨by decide, by decide⟩ rfl (fun v w' hp => ?_)
          obtain ⟨rfl, rfl⟩ := hp
          refine r_if_eq h 76 dX1_machineWithin_29 (by decide) (fun c6 => ?_) (fun c6 => ?_)
          · replace hF := o_pos c6 hF
            refine r_iinc (lv' := [(5, .int (y1_5 + 1)), (0, .ref (aρ 0)), (1, .int x1), (2, .int x2), (3, .int x3), (4, .int x4)]) h 0 rfl (congrArg (fun z => y1_5 + z) (by decide : Int32.ofInt 1 = 1)) dX1_machineWithin_76 (by decide) rfl ?_
            refine r_goto h 3 dX1_machineWithin_79 (by decide) ?_
            exact J.loc (lv' := [(5, .int (y1_5 + 1)), (0, .ref (aρ 0)), (1, .int x1), (2, .int x2), (3, .int x3), (4, .int x4)]) [0, 1, 2, 3, 4, 5] rfl (ih (y1_5 + 1) hF)
          · replace hF := o_neg c6 hF
            refine r_aload_n h 1 rfl rfl dX1_machineWithin_32 ?_
            refine r_get h fl_X1_14 0 rfl rfl dX1_machineWithin_33 ?_
            refine r_iload h 0 rfl dX1_machineWithin_36 ?_
            refine r_iconst (v := 5) h dX1_machineWithin_38 (by decide) ?_
            obtain ⟨z7, e8, hF⟩ := o_bind hF
            refine r_callV (q0 := 0) (wr := w_pk (rmW D aρ ρ) [0, 2, 3, 4, 5, 6, 8, 9, 10]) (rest := []) h hd_X2_at wm_144 dX1_machineWithin_39 (CX2_at l D (aρ 1) (aρ 7) (12 : Int32) (6 : Int32) 72 (ρ.2.2.2.2.2.2.1, ρ.1) y1_5 (5 : Int32) z7 e8) [1, 7] [0, 2, 3, 4, 5, 6, 8, 9, 10] rfl rfl (by decide +kernel) rfl rfl rfl ⟨rfl, rfl⟩ ⟨by decide, by decide⟩ (Nat.le_of_ble_eq_true rfl) ⟨by decide, by decide⟩ rfl (fun v w' hp => ?_)
            obtain ⟨rfl, rfl⟩ := hp
            refine J.sub (ws' := rmW D aρ ρ) [0, 9, 1, 2, 3, 4, 5, 10, 6, 7, 8] rfl (by decide +kernel) ?_
            refine r_istore (lv' := [(6, .int z7), (5, .int y1_5), (0, .ref (aρ 0)), (1, .int x1), (2, .int x2), (3, .int x3), (4, .int x4)]) h dX1_machineWithin_42 (by decide) rfl ?_
            refine r_iload h 0 rfl dX1_machineWithin_44 ?_
            refine r_aload_n h 2 rfl rfl dX1_machineWithin_46 ?_
            refine r_get h fl_X1_14 0 rfl rfl dX1_machineWithin_47 ?_
            refine r_iload h 1 rfl dX1_machineWithin_50 ?_
            refine r_iconst (v := 0) h dX1_machineWithin_52 (by decide) ?_
            obtain ⟨z9, e10, hF⟩ := o_bind hF
            refine r_callV (q0 := 0) (wr := w_pk (rmW D aρ ρ) [0, 2, 3, 4, 5, 6, 8, 9, 10]) (rest := [.int z7]) h hd_X2_at wm_144 dX1_machineWithin_53 (CX2_at l D (aρ 1) (aρ 7) (12 : Int32) (6 : Int32) 72 (ρ.2.2.2.2.2.2.1, ρ.1) y1_5 (0 : Int32) z9 e10) [1, 7] [0, 2, 3, 4, 5, 6, 8, 9, 10] rfl rfl (by decide +kernel) rfl rfl rfl ⟨rfl, rfl⟩ ⟨by decide, by decide⟩ (Nat.le_of_ble_eq_true rfl) ⟨by decide, by decide⟩ rfl (fun v w' hp => ?_)
            obtain ⟨rfl, rfl⟩ := hp
            refine J.sub (ws' := rmW D aρ ρ) [0, 9, 1, 2, 3, 4, 5, 10, 6, 7, 8] rfl (by decide +kernel) ?_
            refine r_iadd h dX1_machineWithin_56 ?_
            refine r_istore (lv' := [(7, .int (z7 + z9)), (6, .int z7), (5, .int y1_5), (0, .ref (aρ 0)), (1, .int x1), (2, .int x2), (3, .int x3), (4, .int x4)]) h dX1_machineWithin_57 (by decide) rfl ?_
            refine r_iload h 1 rfl dX1_machineWithin_59 ?_
            refine r_iload_n h 5 rfl rfl dX1_machineWithin_61 ?_
            refine r_iload_n h 6 rfl rfl dX1_machineWithin_62 ?_
            refine r_iadd h dX1_machineWithin_63 ?_
            refine r_icmp_ge h 76 dX1_machineWithin_64 (by decide) (fun c11 => ?_) (fun c11 => ?_)
            · replace hF := o_pos c11 hF
              refine r_iinc (lv' := [(5, .int (y1_5 + 1)), (7, .int (z7 + z9)), (6, .int z7), (0, .ref (aρ 0)), (1, .int x1), (2, .int x2), (3, .int x3), (4, .int x4)]) h 2 rfl (congrArg (fun z => y1_5 + z) (by decide : Int32.ofInt 1 = 1)) dX1_machineWithin_76 (by decide) rfl ?_
              refine r_goto h 3 dX1_machineWithin_79 (by decide) ?_
              exact J.loc (lv' := [(5, .int (y1_5 + 1)), (0, .ref (aρ 0)), (1, .int x1), (2, .int x2), (3, .int x3), (4, .int x4)]) [0, 3, 4, 5, 6, 7] rfl (ih (y1_5 + 1) hF)
            · replace hF := o_neg c11 hF
              refine r_iload_n h 5 rfl rfl dX1_machineWithin_67 ?_
              refine r_iload h 0 rfl dX1_machineWithin_68 ?_
              refine r_icmp_ge h 76 dX1_machineWithin_70 (by decide) (fun c12 => ?_) (fun c12 => ?_)
              · replace hF := o_pos c12 hF
                refine r_iinc (lv' := [(5, .int (y1_5 + 1)), (7, .int (z7 + z9)), (6, .int z7), (0, .ref (aρ 0)), (1, .int x1), (2, .int x2), (3, .int x3), (4, .int x4)]) h 2 rfl (congrArg (fun z => y1_5 + z) (by decide : Int32.ofInt 1 = 1)) dX1_machineWithin_76 (by decide) rfl ?_
                refine r_goto h 3 dX1_machineWithin_79 (by decide) ?_
                exact J.loc (lv' := [(5, .int (y1_5 + 1)), (0, .ref (aρ 0)), (1, .int x1), (2, .int x2), (3, .int x3), (4, .int x4)]) [0, 3, 4, 5, 6, 7] rfl (ih (y1_5 + 1) hF)
              · replace hF := o_neg c12 hF
                refine r_iload h 2 rfl dX1_machineWithin_73 ?_
                cases hF
                exact r_iret h hr dX1_machineWithin_75 ⟨rfl, rfl⟩
  refine hL3 _ (fun y1_5 hF => ?_) _ (0 : Int32) hF
  refine r_iconst (v := -1) h dX1_machineWithin_82 (by decide) ?_
  cases hF
  exact r_iret h hr dX1_machineWithin_83 ⟨rfl, rfl⟩

def FX1_lowestSlotFor_L2 (ρ : RS) (x1 : Int32) (x2 : Int32) (K : Int32 → Option (Int32)) : Nat → Int32 → Option (Int32)
  | 0, _ => none
  | n + 1, y1_3 =>
  if (10 : Int32) < (y1_3 + x2) then
  (K y1_3)
else
  ((FX1_machineWithin ρ x1 y1_3 x2 (-1 : Int32)).bind fun z3 =>
  if z3 = (-1 : Int32) then
  (some y1_3)
else
  (FX1_lowestSlotFor_L2 ρ x1 x2 K n (y1_3 + 1)))
def FX1_lowestSlotFor (ρ : RS) (x1 : Int32) (x2 : Int32) : Option (Int32) :=
  FX1_lowestSlotFor_L2 ρ x1 x2 (fun (y1_3 : Int32) =>
  some (-1 : Int32)) FU (0 : Int32)
abbrev rmX1_lowestSlotFor : Room := { frames := 3, cells := 0, slots := 0, locals := 71 }
set_option maxHeartbeats 4000000 in
set_option maxRecDepth 100000 in
theorem CX1_lowestSlotFor (l : Launch) (D : va_G) (aρ : Nat → Nat) (ρ : RS) (x1 : Int32) (x2 : Int32) (r0 : Int32) (hF : FX1_lowestSlotFor ρ x1 x2 = some r0) : Ct l D yX1_lowestSlotFor cX1_lowestSlotFor 4 (some .int) rmX1_lowestSlotFor 0 0 [.ref (aρ 0), .int x1, .int x2] (rmW D aρ ρ) (fun v w => v = some (.int r0) ∧ w = rmW D aρ ρ) := by
  refine Ct.of (own := RX1) (lv := [(0, .ref (aρ 0)), (1, .int x1), (2, .int x2)]) (by decide +kernel) rfl (Nat.le_of_ble_eq_true rfl) rfl (fun X h hr => ?_)
  unfold FX1_lowestSlotFor at hF
  refine r_iconst (v := 0) h dX1_lowestSlotFor_0 (by decide) ?_
  refine r_istore_n (lv' := [(3, .int (0 : Int32)), (0, .ref (aρ 0)), (1, .int x1), (2, .int x2)]) h rfl dX1_lowestSlotFor_1 (by decide) rfl ?_
  have hL2 : ∀ (K : Int32 → Option (Int32)) (hK : ∀ (y1_3 : Int32), K y1_3 = some r0 → J X l rmX1_lowestSlotFor D 4 0 0 (rmW D aρ ρ) [(3, .int y1_3), (0, .ref (aρ 0)), (1, .int x1), (2, .int x2)] 30 []) (N : Nat), ∀ (y1_3 : Int32), FX1_lowestSlotFor_L2 ρ x1 x2 K N y1_3 = some r0 → J X l rmX1_lowestSlotFor D 4 0 0 (rmW D aρ ρ) [(3, .int y1_3), (0, .ref (aρ 0)), (1, .int x1), (2, .int x2)] 2 [] := by
    intro K hK N
    induction N with
    | zero =>
      intro y1_3 hF
      cases hF
    | succ N ih =>
      intro y1_3 hF
      rw [FX1_lowestSlotFor_L2] at hF
      refine r_iload_n h 0 rfl rfl dX1_lowestSlotFor_2 ?_
      refine r_iload_n h 3 rfl rfl dX1_lowestSlotFor_3 ?_
      refine r_iadd h dX1_lowestSlotFor_4 ?_
      refine r_bipush (v := 10) h dX1_lowestSlotFor_5 (by decide) ?_
      refine r_icmp_gt h 30 dX1_lowestSlotFor_7 (by decide) (fun c2 => ?_) (fun c2 => ?_)
      · replace hF := o_pos c2 hF
        exact J.loc (lv' := [(3, .int y1_3), (0, .ref (aρ 0)), (1, .int x1), (2, .int x2)]) [0, 1, 2, 3] rfl (hK y1_3 hF)
      · replace hF := o_neg c2 hF
        refine r_aload_n h 1 rfl rfl dX1_lowestSlotFor_10 ?_
        refine r_iload_n h 2 rfl rfl dX1_lowestSlotFor_11 ?_
        refine r_iload_n h 0 rfl rfl dX1_lowestSlotFor_12 ?_
        refine r_iload_n h 3 rfl rfl dX1_lowestSlotFor_13 ?_
        refine r_iconst (v := -1) h dX1_lowestSlotFor_14 (by decide) ?_
        obtain ⟨z3, e4, hF⟩ := o_bind hF
        refine r_callVa (q0 := 0) (rest := []) h hd_X1_machineWithin wm_152 dX1_lowestSlotFor_15 (CX1_machineWithin l D aρ ρ x1 y1_3 x2 (-1 : Int32) z3 e4) rfl rfl rfl ⟨rfl, rfl⟩ ⟨by decide, by decide⟩ (Nat.le_of_ble_eq_true rfl) ⟨by decide, by decide⟩ rfl (fun v w' hp => ?_)
        obtain ⟨rfl, rfl⟩ := hp
        refine r_iconst (v := -1) h dX1_lowestSlotFor_18 (by decide) ?_
        refine r_icmp_ne h 24 dX1_lowestSlotFor_19 (by decide) (fun c5 => ?_) (fun c5 => ?_)
        · replace hF := o_neg c5 hF
          refine r_iinc (lv' := [(3, .int (y1_3 + 1)), (0, .ref (aρ 0)), (1, .int x1), (2, .int x2)]) h 0 rfl (congrArg (fun z => y1_3 + z) (by decide : Int32.ofInt 1 = 1)) dX1_lowestSlotFor_24 (by decide) rfl ?_
          refine r_goto h 2 dX1_lowestSlotFor_27 (by decide) ?_
          exact J.loc (lv' := [(3, .int (y1_3 + 1)), (0, .ref (aρ 0)), (1, .int x1), (2, .int x2)]) [0, 1, 2, 3] rfl (ih (y1_3 + 1) hF)
        · replace hF := o_pos c5 hF
          refine r_iload_n h 0 rfl rfl dX1_lowestSlotFor_22 ?_
          cases hF
          exact r_iret h hr dX1_lowestSlotFor_23 ⟨rfl, rfl⟩
  refine hL2 _ (fun y1_3 hF => ?_) _ (0 : Int32) hF
  refine r_iconst (v := -1) h dX1_lowestSlotFor_30 (by decide) ?_
  cases hF
  exact r_iret h hr dX1_lowestSlotFor_31 ⟨rfl, rfl⟩

def FX1_slotBehindMove (ρ : RS) (x1 : Int32) (x2 : Int32) : Option (Int32) :=
  if x2 = (-1 : Int32) then
  (some (-1 : Int32))
else
  ((FX2_at (12 : Int32) (6 : Int32) 72 (ρ.2.2.2.2.2.2.1, ρ.1) x1 (0 : Int32)).bind fun z2 =>
  (FX1_lowestSlotFor ρ x2 z2).bind fun z4 =>
  some z4)
abbrev rmX1_slotBehindMove : Room := { frames := 4, cells := 0, slots := 0, locals := 94 }
set_option maxHeartbeats 4000000 in
set_option maxRecDepth 100000 in
theorem CX1_slotBehindMove (l : Launch) (D : va_G) (aρ : Nat → Nat) (ρ : RS) (x1 : Int32) (x2 : Int32) (r0 : Int32) (hF : FX1_slotBehindMove ρ x1 x2 = some r0) : Ct l D yX1_slotBehindMove cX1_slotBehindMove 3 (some .int) rmX1_slotBehindMove 0 0 [.ref (aρ 0), .int x1, .int x2] (rmW D aρ ρ) (fun v w => v = some (.int r0) ∧ w = rmW D aρ ρ) := by
  refine Ct.of (own := RX1) (lv := [(0, .ref (aρ 0)), (1, .int x1), (2, .int x2)]) (by decide +kernel) rfl (Nat.le_of_ble_eq_true rfl) rfl (fun X h hr => ?_)
  unfold FX1_slotBehindMove at hF
  refine r_iload_n h 2 rfl rfl dX1_slotBehindMove_0 ?_
  refine r_iconst (v := -1) h dX1_slotBehindMove_1 (by decide) ?_
  refine r_icmp_ne h 9 dX1_slotBehindMove_2 (by decide) (fun c1 => ?_) (fun c1 => ?_)
  · replace hF := o_neg c1 hF
    refine r_aload_n h 0 rfl rfl dX1_slotBehindMove_9 ?_
    refine r_iload_n h 2 rfl rfl dX1_slotBehindMove_10 ?_
    refine r_aload_n h 0 rfl rfl dX1_slotBehindMove_11 ?_
    refine r_get h fl_X1_14 0 rfl rfl dX1_slotBehindMove_12 ?_
    refine r_iload_n h 1 rfl rfl dX1_slotBehindMove_15 ?_
    refine r_iconst (v := 0) h dX1_slotBehindMove_16 (by decide) ?_
    obtain ⟨z2, e3, hF⟩ := o_bind hF
    refine r_callV (q0 := 0) (wr := w_pk (rmW D aρ ρ) [0, 2, 3, 4, 5, 6, 8, 9, 10]) (rest := [.int x2, .ref (aρ 0)]) h hd_X2_at wm_144 dX1_slotBehindMove_17 (CX2_at l D (aρ 1) (aρ 7) (12 : Int32) (6 : Int32) 72 (ρ.2.2.2.2.2.2.1, ρ.1) x1 (0 : Int32) z2 e3) [1, 7] [0, 2, 3, 4, 5, 6, 8, 9, 10] rfl rfl (by decide +kernel) rfl rfl rfl ⟨rfl, rfl⟩ ⟨by decide, by decide⟩ (Nat.le_of_ble_eq_true rfl) ⟨by decide, by decide⟩ rfl (fun v w' hp => ?_)
    obtain ⟨rfl, rfl⟩ := hp
    refine J.sub (ws' := rmW D aρ ρ) [0, 9, 1, 2, 3, 4, 5, 10, 6, 7, 8] rfl (by decide +kernel) ?_
    obtain ⟨z4, e5, hF⟩ := o_bind hF
    refine r_callVa (q0 := 0) (rest := []) h hd_X1_lowestSlotFor wm_328 dX1_slotBehindMove_20 (CX1_lowestSlotFor l D aρ ρ x2 z2 z4 e5) rfl rfl rfl ⟨rfl, rfl⟩ ⟨by decide, by decide⟩ (Nat.le_of_ble_eq_true rfl) ⟨by decide, by decide⟩ rfl (fun v w' hp => ?_)
    obtain ⟨rfl, rfl⟩ := hp
    cases hF
    exact r_iret h hr dX1_slotBehindMove_23 ⟨rfl, rfl⟩
  · replace hF := o_pos c1 hF
    refine r_iconst (v := -1) h dX1_slotBehindMove_5 (by decide) ?_
    refine r_goto h 23 dX1_slotBehindMove_6 (by decide) ?_
    cases hF
    exact r_iret h hr dX1_slotBehindMove_23 ⟨rfl, rfl⟩

def FX1_doMove (ρ : RS) (x1 : Int32) (x2 : Int32) : Option (RS) :=
  (FX1_slotBehindMove ρ x1 x2).bind fun z1 =>
  (FX1_pushStep ρ x1).bind fun z3 =>
  (FX2_at (12 : Int32) (6 : Int32) 72 (z3.2.2.2.2.2.2.1, z3.1) x1 (2 : Int32)).bind fun z5 =>
  (FX1_place z3 x1 x2 z1 z5).bind fun z7 =>
  some z7
abbrev rmX1_doMove : Room := { frames := 5, cells := 0, slots := 0, locals := 116 }
set_option maxHeartbeats 4000000 in
set_option maxRecDepth 100000 in
theorem CX1_doMove (l : Launch) (D : va_G) (aρ : Nat → Nat) (ρ : RS) (x1 : Int32) (x2 : Int32) (ρ0 : RS) (hF : FX1_doMove ρ x1 x2 = some ρ0) : Ct l D yX1_doMove cX1_doMove 4 none rmX1_doMove 0 0 [.ref (aρ 0), .int x1, .int x2] (rmW D aρ ρ) (fun v w => v = none ∧ w = rmW D aρ ρ0) := by
  refine Ct.of (own := RX1) (lv := [(0, .ref (aρ 0)), (1, .int x1), (2, .int x2)]) (by decide +kernel) rfl (Nat.le_of_ble_eq_true rfl) rfl (fun X h hr => ?_)
  unfold FX1_doMove at hF
  refine r_aload_n h 0 rfl rfl dX1_doMove_0 ?_
  refine r_iload_n h 1 rfl rfl dX1_doMove_1 ?_
  refine r_iload_n h 2 rfl rfl dX1_doMove_2 ?_
  obtain ⟨z1, e2, hF⟩ := o_bind hF
  refine r_callVa (q0 := 0) (rest := []) h hd_X1_slotBehindMove wm_324 dX1_doMove_3 (CX1_slotBehindMove l D aρ ρ x1 x2 z1 e2) rfl rfl rfl ⟨rfl, rfl⟩ ⟨by decide, by decide⟩ (Nat.le_of_ble_eq_true rfl) ⟨by decide, by decide⟩ rfl (fun v w' hp => ?_)
  obtain ⟨rfl, rfl⟩ := hp
  refine r_istore_n (lv' := [(3, .int z1), (0, .ref (aρ 0)), (1, .int x1), (2, .int x2)]) h rfl dX1_doMove_6 (by decide) rfl ?_
  refine r_aload_n h 1 rfl rfl dX1_doMove_7 ?_
  refine r_iload_n h 2 rfl rfl dX1_doMove_8 ?_
  obtain ⟨z3, e4, hF⟩ := o_bind hF
  refine r_callVa (q0 := 0) (rest := []) h hd_X1_pushStep wm_337 dX1_doMove_9 (CX1_pushStep l D aρ ρ x1 z3 e4) rfl rfl rfl ⟨rfl, rfl⟩ ⟨by decide, by decide⟩ (Nat.le_of_ble_eq_true rfl) ⟨by decide, by decide⟩ rfl (fun v w' hp => ?_)
  obtain ⟨rfl, rfl⟩ := hp
  refine r_aload_n h 1 rfl rfl dX1_doMove_12 ?_
  refine r_iload_n h 2 rfl rfl dX1_doMove_13 ?_
  refine r_iload_n h 3 rfl rfl dX1_doMove_14 ?_
  refine r_iload_n h 0 rfl rfl dX1_doMove_15 ?_
  refine r_aload_n h 1 rfl rfl dX1_doMove_16 ?_
  refine r_get h fl_X1_14 0 rfl rfl dX1_doMove_17 ?_
  refine r_iload_n h 2 rfl rfl dX1_doMove_20 ?_
  refine r_iconst (v := 2) h dX1_doMove_21 (by decide) ?_
  obtain ⟨z5, e6, hF⟩ := o_bind hF
  refine r_callV (q0 := 0) (wr := w_pk (rmW D aρ z3) [0, 2, 3, 4, 5, 6, 8, 9, 10]) (rest := [.int z1, .int x2, .int x1, .ref (aρ 0)]) h hd_X2_at wm_144 dX1_doMove_22 (CX2_at l D (aρ 1) (aρ 7) (12 : Int32) (6 : Int32) 72 (z3.2.2.2.2.2.2.1, z3.1) x1 (2 : Int32) z5 e6) [1, 7] [0, 2, 3, 4, 5, 6, 8, 9, 10] rfl rfl (by decide +kernel) rfl rfl rfl ⟨rfl, rfl⟩ ⟨by decide, by decide⟩ (Nat.le_of_ble_eq_true rfl) ⟨by decide, by decide⟩ rfl (fun v w' hp => ?_)
  obtain ⟨rfl, rfl⟩ := hp
  refine J.sub (ws' := rmW D aρ z3) [0, 9, 1, 2, 3, 4, 5, 10, 6, 7, 8] rfl (by decide +kernel) ?_
  obtain ⟨z7, e8, hF⟩ := o_bind hF
  refine r_callVa (q0 := 0) (rest := []) h hd_X1_place wm_164 dX1_doMove_25 (CX1_place l D aρ z3 x1 x2 z1 z5 z7 e8) rfl rfl rfl ⟨rfl, rfl⟩ ⟨by decide, by decide⟩ (Nat.le_of_ble_eq_true rfl) ⟨by decide, by decide⟩ rfl (fun v w' hp => ?_)
  obtain ⟨rfl, rfl⟩ := hp
  cases hF
  exact r_vret h hr dX1_doMove_28 ⟨rfl, rfl⟩

def FX1_whyNotMove (ρ : RS) (x1 : Int32) (x2 : Int32) : Option (Int32 × RS) :=
  (FX1_isFrozen ρ x1).bind fun z1 =>
  if z1 = 0 then
  ((FX1_standsIn ρ x1 x2).bind fun z4 =>
  if z4 = 0 then
  ((FX1_slotBehindMove ρ x1 x2).bind fun z7 =>
  if x2 = (-1 : Int32) then
  ((FX2_at (12 : Int32) (6 : Int32) 72 (ρ.2.2.2.2.2.2.1, ρ.1) x1 (2 : Int32)).bind fun z10 =>
  (FX1_firstWrongWith ρ x1 x2 z7 z10).bind fun z12 =>
  some (z12.1, z12.2))
else
  (if z7 = (-1 : Int32) then
  (some ((3 : Int32), ρ))
else
  ((FX2_at (12 : Int32) (6 : Int32) 72 (ρ.2.2.2.2.2.2.1, ρ.1) x1 (2 : Int32)).bind fun z15 =>
  (FX1_firstWrongWith ρ x1 x2 z7 z15).bind fun z17 =>
  some (z17.1, z17.2))))
else
  (some ((2 : Int32), ρ)))
else
  (some ((1 : Int32), ρ))
abbrev rmX1_whyNotMove : Room := { frames := 5, cells := 0, slots := 0, locals := 119 }
set_option maxHeartbeats 4000000 in
set_option maxRecDepth 100000 in
theorem CX1_whyNotMove (l : Launch) (D : va_G) (aρ : Nat → Nat) (ρ : RS) (x1 : Int32) (x2 : Int32) (r0 : Int32) (ρ0 : RS) (hF : FX1_whyNotMove ρ x1 x2 = some (r0, ρ0)) : Ct l D yX1_whyNotMove cX1_whyNotMove 4 (some .int) rmX1_whyNotMove 0 0 [.ref (aρ 0), .int x1, .int x2] (rmW D aρ ρ) (fun v w => v = some (.int r0) ∧ w = rmW D aρ ρ0) := by
  refine Ct.of (own := RX1) (lv := [(0, .ref (aρ 0)), (1, .int x1), (2, .int x2)]) (by decide +kernel) rfl (Nat.le_of_ble_eq_true rfl) rfl (fun X h hr => ?_)
  unfold FX1_whyNotMove at hF
  refine r_aload_n h 0 rfl rfl dX1_whyNotMove_0 ?_
  refine r_iload_n h 1 rfl rfl dX1_whyNotMove_1 ?_
  obtain ⟨z1, e2, hF⟩ := o_bind hF
  refine r_callVa (q0 := 0) (rest := []) h hd_X1_isFrozen wm_148 dX1_whyNotMove_2 (CX1_isFrozen l D aρ ρ x1 z1 e2) rfl rfl rfl ⟨rfl, rfl⟩ ⟨by decide, by decide⟩ (Nat.le_of_ble_eq_true rfl) ⟨by decide, by decide⟩ rfl (fun v w' hp => ?_)
  obtain ⟨rfl, rfl⟩ := hp
  refine r_if_eq h 10 dX1_whyNotMove_5 (by decide) (fun c3 => ?_) (fun c3 => ?_)
  · replace hF := o_pos c3 hF
    refine r_aload_n h 0 rfl rfl dX1_whyNotMove_10 ?_
    refine r_iload_n h 1 rfl rfl dX1_whyNotMove_11 ?_
    refine r_iload_n h 2 rfl rfl dX1_whyNotMove_12 ?_
    obtain ⟨z4, e5, hF⟩ := o_bind hF
    refine r_callVa (q0 := 0) (rest := []) h hd_X1_standsIn wm_156 dX1_whyNotMove_13 (CX1_standsIn l D aρ ρ x1 x2 z4 e5) rfl rfl rfl ⟨rfl, rfl⟩ ⟨by decide, by decide⟩ (Nat.le_of_ble_eq_true rfl) ⟨by decide, by decide⟩ rfl (fun v w' hp => ?_)
    obtain ⟨rfl, rfl⟩ := hp
    refine r_if_eq h 21 dX1_whyNotMove_16 (by decide) (fun c6 => ?_) (fun c6 => ?_)
    · replace hF := o_pos c6 hF
      refine r_aload_n h 0 rfl rfl dX1_whyNotMove_21 ?_
      refine r_iload_n h 1 rfl rfl dX1_whyNotMove_22 ?_
      refine r_iload_n h 2 rfl rfl dX1_whyNotMove_23 ?_
      obtain ⟨z7, e8, hF⟩ := o_bind hF
      refine r_callVa (q0 := 0) (rest := []) h hd_X1_slotBehindMove wm_324 dX1_whyNotMove_24 (CX1_slotBehindMove l D aρ ρ x1 x2 z7 e8) rfl rfl rfl ⟨rfl, rfl⟩ ⟨by decide, by decide⟩ (Nat.le_of_ble_eq_true rfl) ⟨by decide, by decide⟩ rfl (fun v w' hp => ?_)
      obtain ⟨rfl, rfl⟩ := hp
      refine r_istore_n (lv' := [(3, .int z7), (0, .ref (aρ 0)), (1, .int x1), (2, .int x2)]) h rfl dX1_whyNotMove_27 (by decide) rfl ?_
      refine r_iload_n h 3 rfl rfl dX1_whyNotMove_28 ?_
      refine r_iconst (v := -1) h dX1_whyNotMove_29 (by decide) ?_
      refine r_icmp_eq h 40 dX1_whyNotMove_30 (by decide) (fun c9 => ?_) (fun c9 => ?_)
      · replace hF := o_pos c9 hF
        refine r_aload_n h 1 rfl rfl dX1_whyNotMove_40 ?_
        refine r_iload_n h 2 rfl rfl dX1_whyNotMove_41 ?_
        refine r_iload_n h 3 rfl rfl dX1_whyNotMove_42 ?_
        refine r_iload_n h 0 rfl rfl dX1_whyNotMove_43 ?_
        refine r_aload_n h 1 rfl rfl dX1_whyNotMove_44 ?_
        refine r_get h fl_X1_14 0 rfl rfl dX1_whyNotMove_45 ?_
        refine r_iload_n h 2 rfl rfl dX1_whyNotMove_48 ?_
        refine r_iconst (v := 2) h dX1_whyNotMove_49 (by decide) ?_
        obtain ⟨z10, e11, hF⟩ := o_bind hF
        refine r_callV (q0 := 0) (wr := w_pk (rmW D aρ ρ) [0, 2, 3, 4, 5, 6, 8, 9, 10]) (rest := [.int z7, .int x2, .int x1, .ref (aρ 0)]) h hd_X2_at wm_144 dX1_whyNotMove_50 (CX2_at l D (aρ 1) (aρ 7) (12 : Int32) (6 : Int32) 72 (ρ.2.2.2.2.2.2.1, ρ.1) x1 (2 : Int32) z10 e11) [1, 7] [0, 2, 3, 4, 5, 6, 8, 9, 10] rfl rfl (by decide +kernel) rfl rfl rfl ⟨rfl, rfl⟩ ⟨by decide, by decide⟩ (Nat.le_of_ble_eq_true rfl) ⟨by decide, by decide⟩ rfl (fun v w' hp => ?_)
        obtain ⟨rfl, rfl⟩ := hp
        refine J.sub (ws' := rmW D aρ ρ) [0, 9, 1, 2, 3, 4, 5, 10, 6, 7, 8] rfl (by decide +kernel) ?_
        obtain ⟨z12, e13, hF⟩ := o_bind hF
        refine r_callVa (q0 := 0) (rest := []) h hd_X1_firstWrongWith wm_160 dX1_whyNotMove_53 (CX1_firstWrongWith l D aρ ρ x1 x2 z7 z10 z12.1 z12.2 e13) rfl rfl rfl ⟨rfl, rfl⟩ ⟨by decide, by decide⟩ (Nat.le_of_ble_eq_true rfl) ⟨by decide, by decide⟩ rfl (fun v w' hp => ?_)
        obtain ⟨rfl, rfl⟩ := hp
        cases hF
        exact r_iret h hr dX1_whyNotMove_56 ⟨rfl, rfl⟩
      · replace hF := o_neg c9 hF
        refine r_iload_n h 0 rfl rfl dX1_whyNotMove_33 ?_
        refine r_iconst (v := -1) h dX1_whyNotMove_34 (by decide) ?_
        refine r_icmp_ne h 40 dX1_whyNotMove_35 (by decide) (fun c14 => ?_) (fun c14 => ?_)
        · replace hF := o_neg c14 hF
          refine r_aload_n h 1 rfl rfl dX1_whyNotMove_40 ?_
          refine r_iload_n h 2 rfl rfl dX1_whyNotMove_41 ?_
          refine r_iload_n h 3 rfl rfl dX1_whyNotMove_42 ?_
          refine r_iload_n h 0 rfl rfl dX1_whyNotMove_43 ?_
          refine r_aload_n h 1 rfl rfl dX1_whyNotMove_44 ?_
          refine r_get h fl_X1_14 0 rfl rfl dX1_whyNotMove_45 ?_
          refine r_iload_n h 2 rfl rfl dX1_whyNotMove_48 ?_
          refine r_iconst (v := 2) h dX1_whyNotMove_49 (by decide) ?_
          obtain ⟨z15, e16, hF⟩ := o_bind hF
          refine r_callV (q0 := 0) (wr := w_pk (rmW D aρ ρ) [0, 2, 3, 4, 5, 6, 8, 9, 10]) (rest := [.int z7, .int x2, .int x1, .ref (aρ 0)]) h hd_X2_at wm_144 dX1_whyNotMove_50 (CX2_at l D (aρ 1) (aρ 7) (12 : Int32) (6 : Int32) 72 (ρ.2.2.2.2.2.2.1, ρ.1) x1 (2 : Int32) z15 e16) [1, 7] [0, 2, 3, 4, 5, 6, 8, 9, 10] rfl rfl (by decide +kernel) rfl rfl rfl ⟨rfl, rfl⟩ ⟨by decide, by decide⟩ (Nat.le_of_ble_eq_true rfl) ⟨by decide, by decide⟩ rfl (fun v w' hp => ?_)
          obtain ⟨rfl, rfl⟩ := hp
          refine J.sub (ws' := rmW D aρ ρ) [0, 9, 1, 2, 3, 4, 5, 10, 6, 7, 8] rfl (by decide +kernel) ?_
          obtain ⟨z17, e18, hF⟩ := o_bind hF
          refine r_callVa (q0 := 0) (rest := []) h hd_X1_firstWrongWith wm_160 dX1_whyNotMove_53 (CX1_firstWrongWith l D aρ ρ x1 x2 z7 z15 z17.1 z17.2 e18) rfl rfl rfl ⟨rfl, rfl⟩ ⟨by decide, by decide⟩ (Nat.le_of_ble_eq_true rfl) ⟨by decide, by decide⟩ rfl (fun v w' hp => ?_)
          obtain ⟨rfl, rfl⟩ := hp
          cases hF
          exact r_iret h hr dX1_whyNotMove_56 ⟨rfl, rfl⟩
        · replace hF := o_pos c14 hF
          refine r_iconst (v := 3) h dX1_whyNotMove_38 (by decide) ?_
          cases hF
          exact r_iret h hr dX1_whyNotMove_39 ⟨rfl, rfl⟩
    · replace hF := o_neg c6 hF
      refine r_iconst (v := 2) h dX1_whyNotMove_19 (by decide) ?_
      cases hF
      exact r_iret h hr dX1_whyNotMove_20 ⟨rfl, rfl⟩
  · replace hF := o_neg c3 hF
    refine r_iconst (v := 1) h dX1_whyNotMove_8 (by decide) ?_
    cases hF
    exact r_iret h hr dX1_whyNotMove_9 ⟨rfl, rfl⟩

def FX1_copyFrom (ρ : RS) (σ : RS) : Option (RS) :=
  (FX2_copyFrom (12 : Int32) (6 : Int32) 72 (12 : Int32) (6 : Int32) 72 (ρ.2.2.2.2.2.2.1, ρ.1) (σ.2.2.2.2.2.2.1, σ.1)).bind fun z1 =>
  (FX2_copyFrom (10 : Int32) (3 : Int32) 30 (10 : Int32) (3 : Int32) 30 (ρ.2.2.2.2.2.2.2.1, ρ.2.1) (σ.2.2.2.2.2.2.2.1, σ.2.1)).bind fun z3 =>
  (FX2_copyFrom (6 : Int32) (3 : Int32) 18 (6 : Int32) (3 : Int32) 18 (ρ.2.2.2.2.2.2.2.2.1, ρ.2.2.1) (σ.2.2.2.2.2.2.2.2.1, σ.2.2.1)).bind fun z5 =>
  (FX2_copyFrom (20 : Int32) (4 : Int32) 80 (20 : Int32) (4 : Int32) 80 (ρ.2.2.2.2.2.2.2.2.2.1, ρ.2.2.2.1) (σ.2.2.2.2.2.2.2.2.2.1, σ.2.2.2.1)).bind fun z7 =>
  gd (¬ (0 : Int32) < 0 ∧ ¬ (0 : Int32) < 0 ∧ ¬ (6 : Int32) < 0 ∧ ((0 : Int32)).toNatClampNeg + ((6 : Int32)).toNatClampNeg ≤ 6 ∧ ((0 : Int32)).toNatClampNeg + ((6 : Int32)).toNatClampNeg ≤ 6) (
  gd (¬ (0 : Int32) < 0 ∧ ¬ (0 : Int32) < 0 ∧ ¬ (5 : Int32) < 0 ∧ ((0 : Int32)).toNatClampNeg + ((5 : Int32)).toNatClampNeg ≤ 5 ∧ ((0 : Int32)).toNatClampNeg + ((5 : Int32)).toNatClampNeg ≤ 5) (
  some (z1.2, z3.2, z5.2, z7.2, va_cpy σ.2.2.2.2.1 ρ.2.2.2.2.1 ((0 : Int32)).toNatClampNeg ((0 : Int32)).toNatClampNeg ((6 : Int32)).toNatClampNeg, va_cpy σ.2.2.2.2.2.1 ρ.2.2.2.2.2.1 ((0 : Int32)).toNatClampNeg ((0 : Int32)).toNatClampNeg ((5 : Int32)).toNatClampNeg, z1.1, z3.1, z5.1, z7.1, σ.2.2.2.2.2.2.2.2.2.2.1, σ.2.2.2.2.2.2.2.2.2.2.2.1, σ.2.2.2.2.2.2.2.2.2.2.2.2.1, σ.2.2.2.2.2.2.2.2.2.2.2.2.2)))
abbrev rmX1_copyFrom : Room := { frames := 2, cells := 0, slots := 0, locals := 81 }
set_option maxHeartbeats 4000000 in
set_option maxRecDepth 100000 in
theorem CX1_copyFrom (l : Launch) (D : va_G) (aρ : Nat → Nat) (aσ : Nat → Nat) (ρ : RS) (σ : RS) (ρ0 : RS) (hF : FX1_copyFrom ρ σ = some ρ0) : Ct l D yX1_copyFrom cX1_copyFrom 2 none rmX1_copyFrom 0 0 [.ref (aρ 0), .ref (aσ 0)] (rmW D aρ ρ ++ rmW D aσ σ) (fun v w => v = none ∧ w = (rmW D aρ ρ0 ++ rmW D aσ σ)) := by
  refine Ct.of (own := RX1) (lv := [(0, .ref (aρ 0)), (1, .ref (aσ 0))]) (by decide +kernel) rfl (Nat.le_of_ble_eq_true rfl) rfl (fun X h hr => ?_)
  unfold FX1_copyFrom at hF
  refine r_aload_n h 0 rfl rfl dX1_copyFrom_0 ?_
  refine r_get h fl_X1_14 0 rfl rfl dX1_copyFrom_1 ?_
  refine r_aload_n h 1 rfl rfl dX1_copyFrom_4 ?_
  refine r_get h fl_X1_14 11 rfl rfl dX1_copyFrom_5 ?_
  obtain ⟨z1, e2, hF⟩ := o_bind hF
  refine r_callV (q0 := 0) (wr := w_pk (rmW D aρ ρ ++ rmW D aσ σ) [0, 2, 3, 4, 5, 6, 8, 9, 10, 11, 13, 14, 15, 16, 17, 19, 20, 21]) (rest := []) h hd_X2_copyFrom wm_217 dX1_copyFrom_8 (CX2_copyFrom l D (aρ 1) (aρ 7) (aσ 1) (aσ 7) (12 : Int32) (6 : Int32) 72 (12 : Int32) (6 : Int32) 72 (ρ.2.2.2.2.2.2.1, ρ.1) (σ.2.2.2.2.2.2.1, σ.1) z1 e2) [1, 7, 12, 18] [0, 2, 3, 4, 5, 6, 8, 9, 10, 11, 13, 14, 15, 16, 17, 19, 20, 21] rfl rfl (by decide +kernel) rfl rfl rfl ⟨rfl, rfl⟩ ⟨by decide, by decide⟩ (Nat.le_of_ble_eq_true rfl) ⟨by decide, by decide⟩ rfl (fun v w' hp => ?_)
  obtain ⟨rfl, rfl⟩ := hp
  refine J.sub (ws' := (rmW D aρ (z1.2, ρ.2.1, ρ.2.2.1, ρ.2.2.2.1, ρ.2.2.2.2.1, ρ.2.2.2.2.2.1, z1.1, ρ.2.2.2.2.2.2.2.1, ρ.2.2.2.2.2.2.2.2.1, ρ.2.2.2.2.2.2.2.2.2.1, ρ.2.2.2.2.2.2.2.2.2.2.1, ρ.2.2.2.2.2.2.2.2.2.2.2.1, ρ.2.2.2.2.2.2.2.2.2.2.2.2.1, ρ.2.2.2.2.2.2.2.2.2.2.2.2.2) ++ rmW D aσ σ)) [0, 18, 1, 2, 3, 4, 5, 19, 6, 7, 8, 9, 20, 10, 11, 12, 13, 14, 21, 15, 16, 17] rfl (by decide +kernel) ?_
  refine r_aload_n h 0 rfl rfl dX1_copyFrom_11 ?_
  refine r_get h fl_X1_20 0 rfl rfl dX1_copyFrom_12 ?_
  refine r_aload_n h 1 rfl rfl dX1_copyFrom_15 ?_
  refine r_get h fl_X1_20 11 rfl rfl dX1_copyFrom_16 ?_
  obtain ⟨z3, e4, hF⟩ := o_bind hF
  refine r_callV (q0 := 0) (wr := w_pk (rmW D aρ (z1.2, ρ.2.1, ρ.2.2.1, ρ.2.2.2.1, ρ.2.2.2.2.1, ρ.2.2.2.2.2.1, z1.1, ρ.2.2.2.2.2.2.2.1, ρ.2.2.2.2.2.2.2.2.1, ρ.2.2.2.2.2.2.2.2.2.1, ρ.2.2.2.2.2.2.2.2.2.2.1, ρ.2.2.2.2.2.2.2.2.2.2.2.1, ρ.2.2.2.2.2.2.2.2.2.2.2.2.1, ρ.2.2.2.2.2.2.2.2.2.2.2.2.2) ++ rmW D aσ σ) [0, 1, 3, 4, 5, 6, 7, 9, 10, 11, 12, 14, 15, 16, 17, 18, 20, 21]) (rest := []) h hd_X2_copyFrom wm_217 dX1_copyFrom_19 (CX2_copyFrom l D (aρ 2) (aρ 8) (aσ 2) (aσ 8) (10 : Int32) (3 : Int32) 30 (10 : Int32) (3 : Int32) 30 (ρ.2.2.2.2.2.2.2.1, ρ.2.1) (σ.2.2.2.2.2.2.2.1, σ.2.1) z3 e4) [2, 8, 13, 19] [0, 1, 3, 4, 5, 6, 7, 9, 10, 11, 12, 14, 15, 16, 17, 18, 20, 21] rfl rfl (by decide +kernel) rfl rfl rfl ⟨rfl, rfl⟩ ⟨by decide, by decide⟩ (Nat.le_of_ble_eq_true rfl) ⟨by decide, by decide⟩ rfl (fun v w' hp => ?_)
  obtain ⟨rfl, rfl⟩ := hp
  refine J.sub (ws' := (rmW D aρ (z1.2, z3.2, ρ.2.2.1, ρ.2.2.2.1, ρ.2.2.2.2.1, ρ.2.2.2.2.2.1, z1.1, z3.1, ρ.2.2.2.2.2.2.2.2.1, ρ.2.2.2.2.2.2.2.2.2.1, ρ.2.2.2.2.2.2.2.2.2.2.1, ρ.2.2.2.2.2.2.2.2.2.2.2.1, ρ.2.2.2.2.2.2.2.2.2.2.2.2.1, ρ.2.2.2.2.2.2.2.2.2.2.2.2.2) ++ rmW D aσ σ)) [0, 1, 18, 2, 3, 4, 5, 6, 19, 7, 8, 9, 10, 20, 11, 12, 13, 14, 15, 21, 16, 17] rfl (by decide +kernel) ?_
  refine r_aload_n h 0 rfl rfl dX1_copyFrom_22 ?_
  refine r_get h fl_X1_23 0 rfl rfl dX1_copyFrom_23 ?_
  refine r_aload_n h 1 rfl rfl dX1_copyFrom_26 ?_
  refine r_get h fl_X1_23 11 rfl rfl dX1_copyFrom_27 ?_
  obtain ⟨z5, e6, hF⟩ := o_bind hF
  refine r_callV (q0 := 0) (wr := w_pk (rmW D aρ (z1.2, z3.2, ρ.2.2.1, ρ.2.2.2.1, ρ.2.2.2.2.1, ρ.2.2.2.2.2.1, z1.1, z3.1, ρ.2.2.2.2.2.2.2.2.1, ρ.2.2.2.2.2.2.2.2.2.1, ρ.2.2.2.2.2.2.2.2.2.2.1, ρ.2.2.2.2.2.2.2.2.2.2.2.1, ρ.2.2.2.2.2.2.2.2.2.2.2.2.1, ρ.2.2.2.2.2.2.2.2.2.2.2.2.2) ++ rmW D aσ σ) [0, 1, 2, 4, 5, 6, 7, 8, 10, 11, 12, 13, 15, 16, 17, 18, 19, 21]) (rest := []) h hd_X2_copyFrom wm_217 dX1_copyFrom_30 (CX2_copyFrom l D (aρ 3) (aρ 9) (aσ 3) (aσ 9) (6 : Int32) (3 : Int32) 18 (6 : Int32) (3 : Int32) 18 (ρ.2.2.2.2.2.2.2.2.1, ρ.2.2.1) (σ.2.2.2.2.2.2.2.2.1, σ.2.2.1) z5 e6) [3, 9, 14, 20] [0, 1, 2, 4, 5, 6, 7, 8, 10, 11, 12, 13, 15, 16, 17, 18, 19, 21] rfl rfl (by decide +kernel) rfl rfl rfl ⟨rfl, rfl⟩ ⟨by decide, by decide⟩ (Nat.le_of_ble_eq_true rfl) ⟨by decide, by decide⟩ rfl (fun v w' hp => ?_)
  obtain ⟨rfl, rfl⟩ := hp
  refine J.sub (ws' := (rmW D aρ (z1.2, z3.2, z5.2, ρ.2.2.2.1, ρ.2.2.2.2.1, ρ.2.2.2.2.2.1, z1.1, z3.1, z5.1, ρ.2.2.2.2.2.2.2.2.2.1, ρ.2.2.2.2.2.2.2.2.2.2.1, ρ.2.2.2.2.2.2.2.2.2.2.2.1, ρ.2.2.2.2.2.2.2.2.2.2.2.2.1, ρ.2.2.2.2.2.2.2.2.2.2.2.2.2) ++ rmW D aσ σ)) [0, 1, 2, 18, 3, 4, 5, 6, 7, 19, 8, 9, 10, 11, 20, 12, 13, 14, 15, 16, 21, 17] rfl (by decide +kernel) ?_
  refine r_aload_n h 0 rfl rfl dX1_copyFrom_33 ?_
  refine r_get h fl_X1_26 0 rfl rfl dX1_copyFrom_34 ?_
  refine r_aload_n h 1 rfl rfl dX1_copyFrom_37 ?_
  refine r_get h fl_X1_26 11 rfl rfl dX1_copyFrom_38 ?_
  obtain ⟨z7, e8, hF⟩ := o_bind hF
  refine r_callV (q0 := 0) (wr := w_pk (rmW D aρ (z1.2, z3.2, z5.2, ρ.2.2.2.1, ρ.2.2.2.2.1, ρ.2.2.2.2.2.1, z1.1, z3.1, z5.1, ρ.2.2.2.2.2.2.2.2.2.1, ρ.2.2.2.2.2.2.2.2.2.2.1, ρ.2.2.2.2.2.2.2.2.2.2.2.1, ρ.2.2.2.2.2.2.2.2.2.2.2.2.1, ρ.2.2.2.2.2.2.2.2.2.2.2.2.2) ++ rmW D aσ σ) [0, 1, 2, 3, 5, 6, 7, 8, 9, 11, 12, 13, 14, 16, 17, 18, 19, 20]) (rest := []) h hd_X2_copyFrom wm_217 dX1_copyFrom_41 (CX2_copyFrom l D (aρ 4) (aρ 10) (aσ 4) (aσ 10) (20 : Int32) (4 : Int32) 80 (20 : Int32) (4 : Int32) 80 (ρ.2.2.2.2.2.2.2.2.2.1, ρ.2.2.2.1) (σ.2.2.2.2.2.2.2.2.2.1, σ.2.2.2.1) z7 e8) [4, 10, 15, 21] [0, 1, 2, 3, 5, 6, 7, 8, 9, 11, 12, 13, 14, 16, 17, 18, 19, 20] rfl rfl (by decide +kernel) rfl rfl rfl ⟨rfl, rfl⟩ ⟨by decide, by decide⟩ (Nat.le_of_ble_eq_true rfl) ⟨by decide, by decide⟩ rfl (fun v w' hp => ?_)
  obtain ⟨rfl, rfl⟩ := hp
  refine J.sub (ws' := (rmW D aρ (z1.2, z3.2, z5.2, z7.2, ρ.2.2.2.2.1, ρ.2.2.2.2.2.1, z1.1, z3.1, z5.1, z7.1, ρ.2.2.2.2.2.2.2.2.2.2.1, ρ.2.2.2.2.2.2.2.2.2.2.2.1, ρ.2.2.2.2.2.2.2.2.2.2.2.2.1, ρ.2.2.2.2.2.2.2.2.2.2.2.2.2) ++ rmW D aσ σ)) [0, 1, 2, 3, 18, 4, 5, 6, 7, 8, 19, 9, 10, 11, 12, 20, 13, 14, 15, 16, 17, 21] rfl (by decide +kernel) ?_
  refine r_aload_n h 1 rfl rfl dX1_copyFrom_44 ?_
  refine r_get h fl_X1_29 11 rfl rfl dX1_copyFrom_45 ?_
  refine r_iconst (v := 0) h dX1_copyFrom_48 (by decide) ?_
  refine r_aload_n h 0 rfl rfl dX1_copyFrom_49 ?_
  refine r_get h fl_X1_29 0 rfl rfl dX1_copyFrom_50 ?_
  refine r_iconst (v := 0) h dX1_copyFrom_53 (by decide) ?_
  refine r_bipush (v := 6) h dX1_copyFrom_54 (by decide) ?_
  obtain ⟨⟨hN1, hN2, hN3, hN4, hN5⟩, hF⟩ := o_gd hF
  refine r_copyi (ws' := (rmW D aρ (z1.2, z3.2, z5.2, z7.2, va_cpy σ.2.2.2.2.1 ρ.2.2.2.2.1 ((0 : Int32)).toNatClampNeg ((0 : Int32)).toNatClampNeg ((6 : Int32)).toNatClampNeg, ρ.2.2.2.2.2.1, z1.1, z3.1, z5.1, z7.1, ρ.2.2.2.2.2.2.2.2.2.2.1, ρ.2.2.2.2.2.2.2.2.2.2.2.1, ρ.2.2.2.2.2.2.2.2.2.2.2.2.1, ρ.2.2.2.2.2.2.2.2.2.2.2.2.2) ++ rmW D aσ σ)) h 16 5 wm_224 wm_223 wm_222 wm_11 rfl rfl hN1 hN2 hN3 hN4 hN5 (by decide) (Nat.le_of_ble_eq_true rfl) rfl dX1_copyFrom_56 ?_
  refine r_aload_n h 1 rfl rfl dX1_copyFrom_59 ?_
  refine r_get h fl_X1_33 11 rfl rfl dX1_copyFrom_60 ?_
  refine r_iconst (v := 0) h dX1_copyFrom_63 (by decide) ?_
  refine r_aload_n h 0 rfl rfl dX1_copyFrom_64 ?_
  refine r_get h fl_X1_33 0 rfl rfl dX1_copyFrom_65 ?_
  refine r_iconst (v := 0) h dX1_copyFrom_68 (by decide) ?_
  refine r_iconst (v := 5) h dX1_copyFrom_69 (by decide) ?_
  obtain ⟨⟨hN1, hN2, hN3, hN4, hN5⟩, hF⟩ := o_gd hF
  refine r_copyi (ws' := (rmW D aρ (z1.2, z3.2, z5.2, z7.2, va_cpy σ.2.2.2.2.1 ρ.2.2.2.2.1 ((0 : Int32)).toNatClampNeg ((0 : Int32)).toNatClampNeg ((6 : Int32)).toNatClampNeg, va_cpy σ.2.2.2.2.2.1 ρ.2.2.2.2.2.1 ((0 : Int32)).toNatClampNeg ((0 : Int32)).toNatClampNeg ((5 : Int32)).toNatClampNeg, z1.1, z3.1, z5.1, z7.1, ρ.2.2.2.2.2.2.2.2.2.2.1, ρ.2.2.2.2.2.2.2.2.2.2.2.1, ρ.2.2.2.2.2.2.2.2.2.2.2.2.1, ρ.2.2.2.2.2.2.2.2.2.2.2.2.2) ++ rmW D aσ σ)) h 17 6 wm_224 wm_223 wm_222 wm_11 rfl rfl hN1 hN2 hN3 hN4 hN5 (by decide) (Nat.le_of_ble_eq_true rfl) rfl dX1_copyFrom_70 ?_
  refine r_aload_n h 0 rfl rfl dX1_copyFrom_73 ?_
  refine r_aload_n h 1 rfl rfl dX1_copyFrom_74 ?_
  refine r_get h fl_X1_36 11 rfl rfl dX1_copyFrom_75 ?_
  refine r_put (ws' := (rmW D aρ (z1.2, z3.2, z5.2, z7.2, va_cpy σ.2.2.2.2.1 ρ.2.2.2.2.1 ((0 : Int32)).toNatClampNeg ((0 : Int32)).toNatClampNeg ((6 : Int32)).toNatClampNeg, va_cpy σ.2.2.2.2.2.1 ρ.2.2.2.2.2.1 ((0 : Int32)).toNatClampNeg ((0 : Int32)).toNatClampNeg ((5 : Int32)).toNatClampNeg, z1.1, z3.1, z5.1, z7.1, σ.2.2.2.2.2.2.2.2.2.2.1, ρ.2.2.2.2.2.2.2.2.2.2.2.1, ρ.2.2.2.2.2.2.2.2.2.2.2.2.1, ρ.2.2.2.2.2.2.2.2.2.2.2.2.2) ++ rmW D aσ σ)) h fp_X1_36 0 rfl (Nat.le_of_ble_eq_true rfl) rfl rfl rfl dX1_copyFrom_78 ?_
  refine r_aload_n h 0 rfl rfl dX1_copyFrom_81 ?_
  refine r_aload_n h 1 rfl rfl dX1_copyFrom_82 ?_
  refine r_get h fl_X1_40 11 rfl rfl dX1_copyFrom_83 ?_
  refine r_put (ws' := (rmW D aρ (z1.2, z3.2, z5.2, z7.2, va_cpy σ.2.2.2.2.1 ρ.2.2.2.2.1 ((0 : Int32)).toNatClampNeg ((0 : Int32)).toNatClampNeg ((6 : Int32)).toNatClampNeg, va_cpy σ.2.2.2.2.2.1 ρ.2.2.2.2.2.1 ((0 : Int32)).toNatClampNeg ((0 : Int32)).toNatClampNeg ((5 : Int32)).toNatClampNeg, z1.1, z3.1, z5.1, z7.1, σ.2.2.2.2.2.2.2.2.2.2.1, σ.2.2.2.2.2.2.2.2.2.2.2.1, ρ.2.2.2.2.2.2.2.2.2.2.2.2.1, ρ.2.2.2.2.2.2.2.2.2.2.2.2.2) ++ rmW D aσ σ)) h fp_X1_40 0 rfl (Nat.le_of_ble_eq_true rfl) rfl rfl rfl dX1_copyFrom_86 ?_
  refine r_aload_n h 0 rfl rfl dX1_copyFrom_89 ?_
  refine r_aload_n h 1 rfl rfl dX1_copyFrom_90 ?_
  refine r_get h fl_X1_43 11 rfl rfl dX1_copyFrom_91 ?_
  refine r_put (ws' := (rmW D aρ (z1.2, z3.2, z5.2, z7.2, va_cpy σ.2.2.2.2.1 ρ.2.2.2.2.1 ((0 : Int32)).toNatClampNeg ((0 : Int32)).toNatClampNeg ((6 : Int32)).toNatClampNeg, va_cpy σ.2.2.2.2.2.1 ρ.2.2.2.2.2.1 ((0 : Int32)).toNatClampNeg ((0 : Int32)).toNatClampNeg ((5 : Int32)).toNatClampNeg, z1.1, z3.1, z5.1, z7.1, σ.2.2.2.2.2.2.2.2.2.2.1, σ.2.2.2.2.2.2.2.2.2.2.2.1, σ.2.2.2.2.2.2.2.2.2.2.2.2.1, ρ.2.2.2.2.2.2.2.2.2.2.2.2.2) ++ rmW D aσ σ)) h fp_X1_43 0 rfl (Nat.le_of_ble_eq_true rfl) rfl rfl rfl dX1_copyFrom_94 ?_
  refine r_aload_n h 0 rfl rfl dX1_copyFrom_97 ?_
  refine r_aload_n h 1 rfl rfl dX1_copyFrom_98 ?_
  refine r_get h fl_X1_46 11 rfl rfl dX1_copyFrom_99 ?_
  refine r_put (ws' := (rmW D aρ (z1.2, z3.2, z5.2, z7.2, va_cpy σ.2.2.2.2.1 ρ.2.2.2.2.1 ((0 : Int32)).toNatClampNeg ((0 : Int32)).toNatClampNeg ((6 : Int32)).toNatClampNeg, va_cpy σ.2.2.2.2.2.1 ρ.2.2.2.2.2.1 ((0 : Int32)).toNatClampNeg ((0 : Int32)).toNatClampNeg ((5 : Int32)).toNatClampNeg, z1.1, z3.1, z5.1, z7.1, σ.2.2.2.2.2.2.2.2.2.2.1, σ.2.2.2.2.2.2.2.2.2.2.2.1, σ.2.2.2.2.2.2.2.2.2.2.2.2.1, σ.2.2.2.2.2.2.2.2.2.2.2.2.2) ++ rmW D aσ σ)) h fp_X1_46 0 rfl (Nat.le_of_ble_eq_true rfl) rfl rfl rfl dX1_copyFrom_102 ?_
  cases hF
  exact r_vret h hr dX1_copyFrom_105 ⟨rfl, rfl⟩

def FX1_machinesStanding_L4 (ρ : RS) (K : Int32 → Int32 → Option (Int32)) : Nat → Int32 → Int32 → Option (Int32)
  | 0, _, _ => none
  | n + 1, y1_2, y1_1 =>
  if ρ.2.2.2.2.2.2.1 ≤ y1_2 then
  (K y1_2 y1_1)
else
  ((FX1_standsIn ρ y1_2 (-1 : Int32)).bind fun z3 =>
  if z3 = 0 then
  (FX1_machinesStanding_L4 ρ K n (y1_2 + 1) (y1_1 + 1))
else
  (FX1_machinesStanding_L4 ρ K n (y1_2 + 1) y1_1))
def FX1_machinesStanding (ρ : RS) : Option (Int32) :=
  FX1_machinesStanding_L4 ρ (fun (y1_2 : Int32) (y1_1 : Int32) =>
  some y1_1) FU (0 : Int32) (0 : Int32)
abbrev rmX1_machinesStanding : Room := { frames := 2, cells := 0, slots := 0, locals := 44 }
set_option maxHeartbeats 4000000 in
set_option maxRecDepth 100000 in
theorem CX1_machinesStanding (l : Launch) (D : va_G) (aρ : Nat → Nat) (ρ : RS) (r0 : Int32) (hF : FX1_machinesStanding ρ = some r0) : Ct l D yX1_machinesStanding cX1_machinesStanding 3 (some .int) rmX1_machinesStanding 0 0 [.ref (aρ 0)] (rmW D aρ ρ) (fun v w => v = some (.int r0) ∧ w = rmW D aρ ρ) := by
  refine Ct.of (own := RX1) (lv := [(0, .ref (aρ 0))]) (by decide +kernel) rfl (Nat.le_of_ble_eq_true rfl) rfl (fun X h hr => ?_)
  unfold FX1_machinesStanding at hF
  refine r_iconst (v := 0) h dX1_machinesStanding_0 (by decide) ?_
  refine r_istore_n (lv' := [(1, .int (0 : Int32)), (0, .ref (aρ 0))]) h rfl dX1_machinesStanding_1 (by decide) rfl ?_
  refine r_iconst (v := 0) h dX1_machinesStanding_2 (by decide) ?_
  refine r_istore_n (lv' := [(2, .int (0 : Int32)), (1, .int (0 : Int32)), (0, .ref (aρ 0))]) h rfl dX1_machinesStanding_3 (by decide) rfl ?_
  have hL4 : ∀ (K : Int32 → Int32 → Option (Int32)) (hK : ∀ (y1_2 : Int32) (y1_1 : Int32), K y1_2 y1_1 = some r0 → J X l rmX1_machinesStanding D 3 0 0 (rmW D aρ ρ) [(2, .int y1_2), (1, .int y1_1), (0, .ref (aρ 0))] 33 []) (N : Nat), ∀ (y1_2 : Int32) (y1_1 : Int32), FX1_machinesStanding_L4 ρ K N y1_2 y1_1 = some r0 → J X l rmX1_machinesStanding D 3 0 0 (rmW D aρ ρ) [(2, .int y1_2), (1, .int y1_1), (0, .ref (aρ 0))] 4 [] := by
    intro K hK N
    induction N with
    | zero =>
      intro y1_2 y1_1 hF
      cases hF
    | succ N ih =>
      intro y1_2 y1_1 hF
      rw [FX1_machinesStanding_L4] at hF
      refine r_iload_n h 0 rfl rfl dX1_machinesStanding_4 ?_
      refine r_aload_n h 2 rfl rfl dX1_machinesStanding_5 ?_
      refine r_get h fl_X1_14 0 rfl rfl dX1_machinesStanding_6 ?_
      refine r_get h fl_X1_63 1 rfl rfl dX1_machinesStanding_9 ?_
      refine r_icmp_ge h 33 dX1_machinesStanding_12 (by decide) (fun c2 => ?_) (fun c2 => ?_)
      · replace hF := o_pos c2 hF
        exact J.loc (lv' := [(2, .int y1_2), (1, .int y1_1), (0, .ref (aρ 0))]) [0, 1, 2] rfl (hK y1_2 y1_1 hF)
      · replace hF := o_neg c2 hF
        refine r_aload_n h 2 rfl rfl dX1_machinesStanding_15 ?_
        refine r_iload_n h 0 rfl rfl dX1_machinesStanding_16 ?_
        refine r_iconst (v := -1) h dX1_machinesStanding_17 (by decide) ?_
        obtain ⟨z3, e4, hF⟩ := o_bind hF
        refine r_callVa (q0 := 0) (rest := []) h hd_X1_standsIn wm_156 dX1_machinesStanding_18 (CX1_standsIn l D aρ ρ y1_2 (-1 : Int32) z3 e4) rfl rfl rfl ⟨rfl, rfl⟩ ⟨by decide, by decide⟩ (Nat.le_of_ble_eq_true rfl) ⟨by decide, by decide⟩ rfl (fun v w' hp => ?_)
        obtain ⟨rfl, rfl⟩ := hp
        refine r_if_ne h 27 dX1_machinesStanding_21 (by decide) (fun c5 => ?_) (fun c5 => ?_)
        · replace hF := o_neg c5 hF
          refine r_iinc (lv' := [(2, .int (y1_2 + 1)), (1, .int y1_1), (0, .ref (aρ 0))]) h 0 rfl (congrArg (fun z => y1_2 + z) (by decide : Int32.ofInt 1 = 1)) dX1_machinesStanding_27 (by decide) rfl ?_
          refine r_goto h 4 dX1_machinesStanding_30 (by decide) ?_
          exact J.loc (lv' := [(2, .int (y1_2 + 1)), (1, .int y1_1), (0, .ref (aρ 0))]) [0, 1, 2] rfl (ih (y1_2 + 1) y1_1 hF)
        · replace hF := o_pos c5 hF
          refine r_iinc (lv' := [(1, .int (y1_1 + 1)), (2, .int y1_2), (0, .ref (aρ 0))]) h 1 rfl (congrArg (fun z => y1_1 + z) (by decide : Int32.ofInt 1 = 1)) dX1_machinesStanding_24 (by decide) rfl ?_
          refine r_iinc (lv' := [(2, .int (y1_2 + 1)), (1, .int (y1_1 + 1)), (0, .ref (aρ 0))]) h 1 rfl (congrArg (fun z => y1_2 + z) (by decide : Int32.ofInt 1 = 1)) dX1_machinesStanding_27 (by decide) rfl ?_
          refine r_goto h 4 dX1_machinesStanding_30 (by decide) ?_
          exact J.loc (lv' := [(2, .int (y1_2 + 1)), (1, .int (y1_1 + 1)), (0, .ref (aρ 0))]) [0, 1, 2] rfl (ih (y1_2 + 1) (y1_1 + 1) hF)
  refine hL4 _ (fun y1_2 y1_1 hF => ?_) _ (0 : Int32) (0 : Int32) hF
  refine r_iload_n h 1 rfl rfl dX1_machinesStanding_33 ?_
  cases hF
  exact r_iret h hr dX1_machinesStanding_34 ⟨rfl, rfl⟩

def FX1_machinesIn_L4 (ρ : RS) (x1 : Int32) (K : Int32 → Int32 → Option (Int32)) : Nat → Int32 → Int32 → Option (Int32)
  | 0, _, _ => none
  | n + 1, y1_3, y1_2 =>
  if ρ.2.2.2.2.2.2.1 ≤ y1_3 then
  (K y1_3 y1_2)
else
  ((FX1_standsIn ρ y1_3 x1).bind fun z3 =>
  if z3 = 0 then
  (FX1_machinesIn_L4 ρ x1 K n (y1_3 + 1) y1_2)
else
  (FX1_machinesIn_L4 ρ x1 K n (y1_3 + 1) (y1_2 + 1)))
def FX1_machinesIn (ρ : RS) (x1 : Int32) : Option (Int32) :=
  FX1_machinesIn_L4 ρ x1 (fun (y1_3 : Int32) (y1_2 : Int32) =>
  some y1_2) FU (0 : Int32) (0 : Int32)
abbrev rmX1_machinesIn : Room := { frames := 2, cells := 0, slots := 0, locals := 44 }
set_option maxHeartbeats 4000000 in
set_option maxRecDepth 100000 in
theorem CX1_machinesIn (l : Launch) (D : va_G) (aρ : Nat → Nat) (ρ : RS) (x1 : Int32) (r0 : Int32) (hF : FX1_machinesIn ρ x1 = some r0) : Ct l D yX1_machinesIn cX1_machinesIn 4 (some .int) rmX1_machinesIn 0 0 [.ref (aρ 0), .int x1] (rmW D aρ ρ) (fun v w => v = some (.int r0) ∧ w = rmW D aρ ρ) := by
  refine Ct.of (own := RX1) (lv := [(0, .ref (aρ 0)), (1, .int x1)]) (by decide +kernel) rfl (Nat.le_of_ble_eq_true rfl) rfl (fun X h hr => ?_)
  unfold FX1_machinesIn at hF
  refine r_iconst (v := 0) h dX1_machinesIn_0 (by decide) ?_
  refine r_istore_n (lv' := [(2, .int (0 : Int32)), (0, .ref (aρ 0)), (1, .int x1)]) h rfl dX1_machinesIn_1 (by decide) rfl ?_
  refine r_iconst (v := 0) h dX1_machinesIn_2 (by decide) ?_
  refine r_istore_n (lv' := [(3, .int (0 : Int32)), (2, .int (0 : Int32)), (0, .ref (aρ 0)), (1, .int x1)]) h rfl dX1_machinesIn_3 (by decide) rfl ?_
  have hL4 : ∀ (K : Int32 → Int32 → Option (Int32)) (hK : ∀ (y1_3 : Int32) (y1_2 : Int32), K y1_3 y1_2 = some r0 → J X l rmX1_machinesIn D 4 0 0 (rmW D aρ ρ) [(3, .int y1_3), (2, .int y1_2), (0, .ref (aρ 0)), (1, .int x1)] 33 []) (N : Nat), ∀ (y1_3 : Int32) (y1_2 : Int32), FX1_machinesIn_L4 ρ x1 K N y1_3 y1_2 = some r0 → J X l rmX1_machinesIn D 4 0 0 (rmW D aρ ρ) [(3, .int y1_3), (2, .int y1_2), (0, .ref (aρ 0)), (1, .int x1)] 4 [] := by
    intro K hK N
    induction N with
    | zero =>
      intro y1_3 y1_2 hF
      cases hF
    | succ N ih =>
      intro y1_3 y1_2 hF
      rw [FX1_machinesIn_L4] at hF
      refine r_iload_n h 0 rfl rfl dX1_machinesIn_4 ?_
      refine r_aload_n h 2 rfl rfl dX1_machinesIn_5 ?_
      refine r_get h fl_X1_14 0 rfl rfl dX1_machinesIn_6 ?_
      refine r_get h fl_X1_63 1 rfl rfl dX1_machinesIn_9 ?_
      refine r_icmp_ge h 33 dX1_machinesIn_12 (by decide) (fun c2 => ?_) (fun c2 => ?_)
      · replace hF := o_pos c2 hF
        exact J.loc (lv' := [(3, .int y1_3), (2, .int y1_2), (0, .ref (aρ 0)), (1, .int x1)]) [0, 1, 2, 3] rfl (hK y1_3 y1_2 hF)
      · replace hF := o_neg c2 hF
        refine r_aload_n h 2 rfl rfl dX1_machinesIn_15 ?_
        refine r_iload_n h 0 rfl rfl dX1_machinesIn_16 ?_
        refine r_iload_n h 3 rfl rfl dX1_machinesIn_17 ?_
        obtain ⟨z3, e4, hF⟩ := o_bind hF
        refine r_callVa (q0 := 0) (rest := []) h hd_X1_standsIn wm_156 dX1_machinesIn_18 (CX1_standsIn l D aρ ρ y1_3 x1 z3 e4) rfl rfl rfl ⟨rfl, rfl⟩ ⟨by decide, by decide⟩ (Nat.le_of_ble_eq_true rfl) ⟨by decide, by decide⟩ rfl (fun v w' hp => ?_)
        obtain ⟨rfl, rfl⟩ := hp
        refine r_if_eq h 27 dX1_machinesIn_21 (by decide) (fun c5 => ?_) (fun c5 => ?_)
        · replace hF := o_pos c5 hF
          refine r_iinc (lv' := [(3, .int (y1_3 + 1)), (2, .int y1_2), (0, .ref (aρ 0)), (1, .int x1)]) h 0 rfl (congrArg (fun z => y1_3 + z) (by decide : Int32.ofInt 1 = 1)) dX1_machinesIn_27 (by decide) rfl ?_
          refine r_goto h 4 dX1_machinesIn_30 (by decide) ?_
          exact J.loc (lv' := [(3, .int (y1_3 + 1)), (2, .int y1_2), (0, .ref (aρ 0)), (1, .int x1)]) [0, 1, 2, 3] rfl (ih (y1_3 + 1) y1_2 hF)
        · replace hF := o_neg c5 hF
          refine r_iinc (lv' := [(2, .int (y1_2 + 1)), (3, .int y1_3), (0, .ref (aρ 0)), (1, .int x1)]) h 1 rfl (congrArg (fun z => y1_2 + z) (by decide : Int32.ofInt 1 = 1)) dX1_machinesIn_24 (by decide) rfl ?_
          refine r_iinc (lv' := [(3, .int (y1_3 + 1)), (2, .int (y1_2 + 1)), (0, .ref (aρ 0)), (1, .int x1)]) h 1 rfl (congrArg (fun z => y1_3 + z) (by decide : Int32.ofInt 1 = 1)) dX1_machinesIn_27 (by decide) rfl ?_
          refine r_goto h 4 dX1_machinesIn_30 (by decide) ?_
          exact J.loc (lv' := [(3, .int (y1_3 + 1)), (2, .int (y1_2 + 1)), (0, .ref (aρ 0)), (1, .int x1)]) [0, 1, 2, 3] rfl (ih (y1_3 + 1) (y1_2 + 1) hF)
  refine hL4 _ (fun y1_3 y1_2 hF => ?_) _ (0 : Int32) (0 : Int32) hF
  refine r_iload_n h 1 rfl rfl dX1_machinesIn_33 ?_
  cases hF
  exact r_iret h hr dX1_machinesIn_34 ⟨rfl, rfl⟩

def FX1_slotsTakenIn_L4 (ρ : RS) (x1 : Int32) (K : Int32 → Int32 → Option (Int32)) : Nat → Int32 → Int32 → Option (Int32)
  | 0, _, _ => none
  | n + 1, y1_3, y1_2 =>
  if ρ.2.2.2.2.2.2.1 ≤ y1_3 then
  (K y1_3 y1_2)
else
  ((FX1_standsIn ρ y1_3 x1).bind fun z3 =>
  if z3 = 0 then
  (FX1_slotsTakenIn_L4 ρ x1 K n (y1_3 + 1) y1_2)
else
  ((FX2_at (12 : Int32) (6 : Int32) 72 (ρ.2.2.2.2.2.2.1, ρ.1) y1_3 (0 : Int32)).bind fun z6 =>
  FX1_slotsTakenIn_L4 ρ x1 K n (y1_3 + 1) (y1_2 + z6)))
def FX1_slotsTakenIn (ρ : RS) (x1 : Int32) : Option (Int32) :=
  FX1_slotsTakenIn_L4 ρ x1 (fun (y1_3 : Int32) (y1_2 : Int32) =>
  some y1_2) FU (0 : Int32) (0 : Int32)
abbrev rmX1_slotsTakenIn : Room := { frames := 2, cells := 0, slots := 0, locals := 44 }
set_option maxHeartbeats 4000000 in
set_option maxRecDepth 100000 in
theorem CX1_slotsTakenIn (l : Launch) (D : va_G) (aρ : Nat → Nat) (ρ : RS) (x1 : Int32) (r0 : Int32) (hF : FX1_slotsTakenIn ρ x1 = some r0) : Ct l D yX1_slotsTakenIn cX1_slotsTakenIn 4 (some .int) rmX1_slotsTakenIn 0 0 [.ref (aρ 0), .int x1] (rmW D aρ ρ) (fun v w => v = some (.int r0) ∧ w = rmW D aρ ρ) := by
  refine Ct.of (own := RX1) (lv := [(0, .ref (aρ 0)), (1, .int x1)]) (by decide +kernel) rfl (Nat.le_of_ble_eq_true rfl) rfl (fun X h hr => ?_)
  unfold FX1_slotsTakenIn at hF
  refine r_iconst (v := 0) h dX1_slotsTakenIn_0 (by decide) ?_
  refine r_istore_n (lv' := [(2, .int (0 : Int32)), (0, .ref (aρ 0)), (1, .int x1)]) h rfl dX1_slotsTakenIn_1 (by decide) rfl ?_
  refine r_iconst (v := 0) h dX1_slotsTakenIn_2 (by decide) ?_
  refine r_istore_n (lv' := [(3, .int (0 : Int32)), (2, .int (0 : Int32)), (0, .ref (aρ 0)), (1, .int x1)]) h rfl dX1_slotsTakenIn_3 (by decide) rfl ?_
  have hL4 : ∀ (K : Int32 → Int32 → Option (Int32)) (hK : ∀ (y1_3 : Int32) (y1_2 : Int32), K y1_3 y1_2 = some r0 → J X l rmX1_slotsTakenIn D 4 0 0 (rmW D aρ ρ) [(3, .int y1_3), (2, .int y1_2), (0, .ref (aρ 0)), (1, .int x1)] 42 []) (N : Nat), ∀ (y1_3 : Int32) (y1_2 : Int32), FX1_slotsTakenIn_L4 ρ x1 K N y1_3 y1_2 = some r0 → J X l rmX1_slotsTakenIn D 4 0 0 (rmW D aρ ρ) [(3, .int y1_3), (2, .int y1_2), (0, .ref (aρ 0)), (1, .int x1)] 4 [] := by
    intro K hK N
    induction N with
    | zero =>
      intro y1_3 y1_2 hF
      cases hF
    | succ N ih =>
      intro y1_3 y1_2 hF
      rw [FX1_slotsTakenIn_L4] at hF
      refine r_iload_n h 0 rfl rfl dX1_slotsTakenIn_4 ?_
      refine r_aload_n h 2 rfl rfl dX1_slotsTakenIn_5 ?_
      refine r_get h fl_X1_14 0 rfl rfl dX1_slotsTakenIn_6 ?_
      refine r_get h fl_X1_63 1 rfl rfl dX1_slotsTakenIn_9 ?_
      refine r_icmp_ge h 42 dX1_slotsTakenIn_12 (by decide) (fun c2 => ?_) (fun c2 => ?_)
      · replace hF := o_pos c2 hF
        exact J.loc (lv' := [(3, .int y1_3), (2, .int y1_2), (0, .ref (aρ 0)), (1, .int x1)]) [0, 1, 2, 3] rfl (hK y1_3 y1_2 hF)
      · replace hF := o_neg c2 hF
        refine r_aload_n h 2 rfl rfl dX1_slotsTakenIn_15 ?_
        refine r_iload_n h 0 rfl rfl dX1_slotsTakenIn_16 ?_
        refine r_iload_n h 3 rfl rfl dX1_slotsTakenIn_17 ?_
        obtain ⟨z3, e4, hF⟩ := o_bind hF
        refine r_callVa (q0 := 0) (rest := []) h hd_X1_standsIn wm_156 dX1_slotsTakenIn_18 (CX1_standsIn l D aρ ρ y1_3 x1 z3 e4) rfl rfl rfl ⟨rfl, rfl⟩ ⟨by decide, by decide⟩ (Nat.le_of_ble_eq_true rfl) ⟨by decide, by decide⟩ rfl (fun v w' hp => ?_)
        obtain ⟨rfl, rfl⟩ := hp
        refine r_if_eq h 36 dX1_slotsTakenIn_21 (by decide) (fun c5 => ?_) (fun c5 => ?_)
        · replace hF := o_pos c5 hF
          refine r_iinc (lv' := [(3, .int (y1_3 + 1)), (2, .int y1_2), (0, .ref (aρ 0)), (1, .int x1)]) h 0 rfl (congrArg (fun z => y1_3 + z) (by decide : Int32.ofInt 1 = 1)) dX1_slotsTakenIn_36 (by decide) rfl ?_
          refine r_goto h 4 dX1_slotsTakenIn_39 (by decide) ?_
          exact J.loc (lv' := [(3, .int (y1_3 + 1)), (2, .int y1_2), (0, .ref (aρ 0)), (1, .int x1)]) [0, 1, 2, 3] rfl (ih (y1_3 + 1) y1_2 hF)
        · replace hF := o_neg c5 hF
          refine r_iload_n h 1 rfl rfl dX1_slotsTakenIn_24 ?_
          refine r_aload_n h 2 rfl rfl dX1_slotsTakenIn_25 ?_
          refine r_get h fl_X1_14 0 rfl rfl dX1_slotsTakenIn_26 ?_
          refine r_iload_n h 0 rfl rfl dX1_slotsTakenIn_29 ?_
          refine r_iconst (v := 0) h dX1_slotsTakenIn_30 (by decide) ?_
          obtain ⟨z6, e7, hF⟩ := o_bind hF
          refine r_callV (q0 := 0) (wr := w_pk (rmW D aρ ρ) [0, 2, 3, 4, 5, 6, 8, 9, 10]) (rest := [.int y1_2]) h hd_X2_at wm_144 dX1_slotsTakenIn_31 (CX2_at l D (aρ 1) (aρ 7) (12 : Int32) (6 : Int32) 72 (ρ.2.2.2.2.2.2.1, ρ.1) y1_3 (0 : Int32) z6 e7) [1, 7] [0, 2, 3, 4, 5, 6, 8, 9, 10] rfl rfl (by decide +kernel) rfl rfl rfl ⟨rfl, rfl⟩ ⟨by decide, by decide⟩ (Nat.le_of_ble_eq_true rfl) ⟨by decide, by decide⟩ rfl (fun v w' hp => ?_)
          obtain ⟨rfl, rfl⟩ := hp
          refine J.sub (ws' := rmW D aρ ρ) [0, 9, 1, 2, 3, 4, 5, 10, 6, 7, 8] rfl (by decide +kernel) ?_
          refine r_iadd h dX1_slotsTakenIn_34 ?_
          refine r_istore_n (lv' := [(2, .int (y1_2 + z6)), (3, .int y1_3), (0, .ref (aρ 0)), (1, .int x1)]) h rfl dX1_slotsTakenIn_35 (by decide) rfl ?_
          refine r_iinc (lv' := [(3, .int (y1_3 + 1)), (2, .int (y1_2 + z6)), (0, .ref (aρ 0)), (1, .int x1)]) h 1 rfl (congrArg (fun z => y1_3 + z) (by decide : Int32.ofInt 1 = 1)) dX1_slotsTakenIn_36 (by decide) rfl ?_
          refine r_goto h 4 dX1_slotsTakenIn_39 (by decide) ?_
          exact J.loc (lv' := [(3, .int (y1_3 + 1)), (2, .int (y1_2 + z6)), (0, .ref (aρ 0)), (1, .int x1)]) [0, 1, 2, 3] rfl (ih (y1_3 + 1) (y1_2 + z6) hF)
  refine hL4 _ (fun y1_3 y1_2 hF => ?_) _ (0 : Int32) (0 : Int32) hF
  refine r_iload_n h 1 rfl rfl dX1_slotsTakenIn_42 ?_
  cases hF
  exact r_iret h hr dX1_slotsTakenIn_43 ⟨rfl, rfl⟩

def FX1_machineAt (ρ : RS) (x1 : Int32) (x2 : Int32) : Option (Int32) :=
  (FX1_machineWithin ρ x1 x2 (1 : Int32) (-1 : Int32)).bind fun z1 =>
  some z1
abbrev rmX1_machineAt : Room := { frames := 3, cells := 0, slots := 0, locals := 71 }
set_option maxHeartbeats 4000000 in
set_option maxRecDepth 100000 in
theorem CX1_machineAt (l : Launch) (D : va_G) (aρ : Nat → Nat) (ρ : RS) (x1 : Int32) (x2 : Int32) (r0 : Int32) (hF : FX1_machineAt ρ x1 x2 = some r0) : Ct l D yX1_machineAt cX1_machineAt 3 (some .int) rmX1_machineAt 0 0 [.ref (aρ 0), .int x1, .int x2] (rmW D aρ ρ) (fun v w => v = some (.int r0) ∧ w = rmW D aρ ρ) := by
  refine Ct.of (own := RX1) (lv := [(0, .ref (aρ 0)), (1, .int x1), (2, .int x2)]) (by decide +kernel) rfl (Nat.le_of_ble_eq_true rfl) rfl (fun X h hr => ?_)
  unfold FX1_machineAt at hF
  refine r_aload_n h 0 rfl rfl dX1_machineAt_0 ?_
  refine r_iload_n h 1 rfl rfl dX1_machineAt_1 ?_
  refine r_iload_n h 2 rfl rfl dX1_machineAt_2 ?_
  refine r_iconst (v := 1) h dX1_machineAt_3 (by decide) ?_
  refine r_iconst (v := -1) h dX1_machineAt_4 (by decide) ?_
  obtain ⟨z1, e2, hF⟩ := o_bind hF
  refine r_callVa (q0 := 0) (rest := []) h hd_X1_machineWithin wm_152 dX1_machineAt_5 (CX1_machineWithin l D aρ ρ x1 x2 (1 : Int32) (-1 : Int32) z1 e2) rfl rfl rfl ⟨rfl, rfl⟩ ⟨by decide, by decide⟩ (Nat.le_of_ble_eq_true rfl) ⟨by decide, by decide⟩ rfl (fun v w' hp => ?_)
  obtain ⟨rfl, rfl⟩ := hp
  cases hF
  exact r_iret h hr dX1_machineAt_8 ⟨rfl, rfl⟩

def FX1_greatestSizeFor_L2 (ρ : RS) (x1 : Int32) (K : Int32 → Option (Int32)) : Nat → Int32 → Option (Int32)
  | 0, _ => none
  | n + 1, y1_2 =>
  if y1_2 ≤ 0 then
  (K y1_2)
else
  ((FX1_lowestSlotFor ρ x1 y1_2).bind fun z3 =>
  if z3 = (-1 : Int32) then
  (FX1_greatestSizeFor_L2 ρ x1 K n (y1_2 + (-1)))
else
  (some y1_2))
def FX1_greatestSizeFor (ρ : RS) (x1 : Int32) : Option (Int32) :=
  FX1_greatestSizeFor_L2 ρ x1 (fun (y1_2 : Int32) =>
  some (0 : Int32)) FU (4 : Int32)
abbrev rmX1_greatestSizeFor : Room := { frames := 4, cells := 0, slots := 0, locals := 94 }
set_option maxHeartbeats 4000000 in
set_option maxRecDepth 100000 in
theorem CX1_greatestSizeFor (l : Launch) (D : va_G) (aρ : Nat → Nat) (ρ : RS) (x1 : Int32) (r0 : Int32) (hF : FX1_greatestSizeFor ρ x1 = some r0) : Ct l D yX1_greatestSizeFor cX1_greatestSizeFor 3 (some .int) rmX1_greatestSizeFor 0 0 [.ref (aρ 0), .int x1] (rmW D aρ ρ) (fun v w => v = some (.int r0) ∧ w = rmW D aρ ρ) := by
  refine Ct.of (own := RX1) (lv := [(0, .ref (aρ 0)), (1, .int x1)]) (by decide +kernel) rfl (Nat.le_of_ble_eq_true rfl) rfl (fun X h hr => ?_)
  unfold FX1_greatestSizeFor at hF
  refine r_iconst (v := 4) h dX1_greatestSizeFor_0 (by decide) ?_
  refine r_istore_n (lv' := [(2, .int (4 : Int32)), (0, .ref (aρ 0)), (1, .int x1)]) h rfl dX1_greatestSizeFor_1 (by decide) rfl ?_
  have hL2 : ∀ (K : Int32 → Option (Int32)) (hK : ∀ (y1_2 : Int32), K y1_2 = some r0 → J X l rmX1_greatestSizeFor D 3 0 0 (rmW D aρ ρ) [(2, .int y1_2), (0, .ref (aρ 0)), (1, .int x1)] 24 []) (N : Nat), ∀ (y1_2 : Int32), FX1_greatestSizeFor_L2 ρ x1 K N y1_2 = some r0 → J X l rmX1_greatestSizeFor D 3 0 0 (rmW D aρ ρ) [(2, .int y1_2), (0, .ref (aρ 0)), (1, .int x1)] 2 [] := by
    intro K hK N
    induction N with
    | zero =>
      intro y1_2 hF
      cases hF
    | succ N ih =>
      intro y1_2 hF
      rw [FX1_greatestSizeFor_L2] at hF
      refine r_iload_n h 0 rfl rfl dX1_greatestSizeFor_2 ?_
      refine r_if_le h 24 dX1_greatestSizeFor_3 (by decide) (fun c2 => ?_) (fun c2 => ?_)
      · replace hF := o_pos c2 hF
        exact J.loc (lv' := [(2, .int y1_2), (0, .ref (aρ 0)), (1, .int x1)]) [0, 1, 2] rfl (hK y1_2 hF)
      · replace hF := o_neg c2 hF
        refine r_aload_n h 1 rfl rfl dX1_greatestSizeFor_6 ?_
        refine r_iload_n h 2 rfl rfl dX1_greatestSizeFor_7 ?_
        refine r_iload_n h 0 rfl rfl dX1_greatestSizeFor_8 ?_
        obtain ⟨z3, e4, hF⟩ := o_bind hF
        refine r_callVa (q0 := 0) (rest := []) h hd_X1_lowestSlotFor wm_328 dX1_greatestSizeFor_9 (CX1_lowestSlotFor l D aρ ρ x1 y1_2 z3 e4) rfl rfl rfl ⟨rfl, rfl⟩ ⟨by decide, by decide⟩ (Nat.le_of_ble_eq_true rfl) ⟨by decide, by decide⟩ rfl (fun v w' hp => ?_)
        obtain ⟨rfl, rfl⟩ := hp
        refine r_iconst (v := -1) h dX1_greatestSizeFor_12 (by decide) ?_
        refine r_icmp_eq h 18 dX1_greatestSizeFor_13 (by decide) (fun c5 => ?_) (fun c5 => ?_)
        · replace hF := o_pos c5 hF
          refine r_iinc (lv' := [(2, .int (y1_2 + (-1))), (0, .ref (aρ 0)), (1, .int x1)]) h 0 rfl (congrArg (fun z => y1_2 + z) (by decide : Int32.ofInt (-1) = (-1))) dX1_greatestSizeFor_18 (by decide) rfl ?_
          refine r_goto h 2 dX1_greatestSizeFor_21 (by decide) ?_
          exact J.loc (lv' := [(2, .int (y1_2 + (-1))), (0, .ref (aρ 0)), (1, .int x1)]) [0, 1, 2] rfl (ih (y1_2 + (-1)) hF)
        · replace hF := o_neg c5 hF
          refine r_iload_n h 0 rfl rfl dX1_greatestSizeFor_16 ?_
          cases hF
          exact r_iret h hr dX1_greatestSizeFor_17 ⟨rfl, rfl⟩
  refine hL2 _ (fun y1_2 hF => ?_) _ (4 : Int32) hF
  refine r_iconst (v := 0) h dX1_greatestSizeFor_24 (by decide) ?_
  cases hF
  exact r_iret h hr dX1_greatestSizeFor_25 ⟨rfl, rfl⟩

def FX1_loadOfRackOnPhase_L5 (ρ : RS) (x1 : Int32) (x2 : Int32) (K : Int32 → Int32 → Option (Int32)) : Nat → Int32 → Int32 → Option (Int32)
  | 0, _, _ => none
  | n + 1, y1_4, y1_3 =>
  if ρ.2.2.2.2.2.2.1 ≤ y1_4 then
  (K y1_4 y1_3)
else
  ((FX1_standsIn ρ y1_4 x1).bind fun z3 =>
  if z3 = 0 then
  (FX1_loadOfRackOnPhase_L5 ρ x1 x2 K n (y1_4 + 1) y1_3)
else
  ((FX2_at (12 : Int32) (6 : Int32) 72 (ρ.2.2.2.2.2.2.1, ρ.1) y1_4 (2 : Int32)).bind fun z6 =>
  if z6 = x2 then
  ((FX2_at (12 : Int32) (6 : Int32) 72 (ρ.2.2.2.2.2.2.1, ρ.1) y1_4 (1 : Int32)).bind fun z9 =>
  FX1_loadOfRackOnPhase_L5 ρ x1 x2 K n (y1_4 + 1) (y1_3 + z9))
else
  (FX1_loadOfRackOnPhase_L5 ρ x1 x2 K n (y1_4 + 1) y1_3)))
def FX1_loadOfRackOnPhase (ρ : RS) (x1 : Int32) (x2 : Int32) : Option (Int32) :=
  FX1_loadOfRackOnPhase_L5 ρ x1 x2 (fun (y1_4 : Int32) (y1_3 : Int32) =>
  some y1_3) FU (0 : Int32) (0 : Int32)
abbrev rmX1_loadOfRackOnPhase : Room := { frames := 2, cells := 0, slots := 0, locals := 44 }
set_option maxHeartbeats 4000000 in
set_option maxRecDepth 100000 in
theorem CX1_loadOfRackOnPhase (l : Launch) (D : va_G) (aρ : Nat → Nat) (ρ : RS) (x1 : Int32) (x2 : Int32) (r0 : Int32) (hF : FX1_loadOfRackOnPhase ρ x1 x2 = some r0) : Ct l D yX1_loadOfRackOnPhase cX1_loadOfRackOnPhase 5 (some .int) rmX1_loadOfRackOnPhase 0 0 [.ref (aρ 0), .int x1, .int x2] (rmW D aρ ρ) (fun v w => v = some (.int r0) ∧ w = rmW D aρ ρ) := by
  refine Ct.of (own := RX1) (lv := [(0, .ref (aρ 0)), (1, .int x1), (2, .int x2)]) (by decide +kernel) rfl (Nat.le_of_ble_eq_true rfl) rfl (fun X h hr => ?_)
  unfold FX1_loadOfRackOnPhase at hF
  refine r_iconst (v := 0) h dX1_loadOfRackOnPhase_0 (by decide) ?_
  refine r_istore_n (lv' := [(3, .int (0 : Int32)), (0, .ref (aρ 0)), (1, .int x1), (2, .int x2)]) h rfl dX1_loadOfRackOnPhase_1 (by decide) rfl ?_
  refine r_iconst (v := 0) h dX1_loadOfRackOnPhase_2 (by decide) ?_
  refine r_istore (lv' := [(4, .int (0 : Int32)), (3, .int (0 : Int32)), (0, .ref (aρ 0)), (1, .int x1), (2, .int x2)]) h dX1_loadOfRackOnPhase_3 (by decide) rfl ?_
  have hL5 : ∀ (K : Int32 → Int32 → Option (Int32)) (hK : ∀ (y1_4 : Int32) (y1_3 : Int32), K y1_4 y1_3 = some r0 → J X l rmX1_loadOfRackOnPhase D 5 0 0 (rmW D aρ ρ) [(4, .int y1_4), (3, .int y1_3), (0, .ref (aρ 0)), (1, .int x1), (2, .int x2)] 60 []) (N : Nat), ∀ (y1_4 : Int32) (y1_3 : Int32), FX1_loadOfRackOnPhase_L5 ρ x1 x2 K N y1_4 y1_3 = some r0 → J X l rmX1_loadOfRackOnPhase D 5 0 0 (rmW D aρ ρ) [(4, .int y1_4), (3, .int y1_3), (0, .ref (aρ 0)), (1, .int x1), (2, .int x2)] 5 [] := by
    intro K hK N
    induction N with
    | zero =>
      intro y1_4 y1_3 hF
      cases hF
    | succ N ih =>
      intro y1_4 y1_3 hF
      rw [FX1_loadOfRackOnPhase_L5] at hF
      refine r_iload h 0 rfl dX1_loadOfRackOnPhase_5 ?_
      refine r_aload_n h 2 rfl rfl dX1_loadOfRackOnPhase_7 ?_
      refine r_get h fl_X1_14 0 rfl rfl dX1_loadOfRackOnPhase_8 ?_
      refine r_get h fl_X1_63 1 rfl rfl dX1_loadOfRackOnPhase_11 ?_
      refine r_icmp_ge h 60 dX1_loadOfRackOnPhase_14 (by decide) (fun c2 => ?_) (fun c2 => ?_)
      · replace hF := o_pos c2 hF
        exact J.loc (lv' := [(4, .int y1_4), (3, .int y1_3), (0, .ref (aρ 0)), (1, .int x1), (2, .int x2)]) [0, 1, 2, 3, 4] rfl (hK y1_4 y1_3 hF)
      · replace hF := o_neg c2 hF
        refine r_aload_n h 2 rfl rfl dX1_loadOfRackOnPhase_17 ?_
        refine r_iload h 0 rfl dX1_loadOfRackOnPhase_18 ?_
        refine r_iload_n h 3 rfl rfl dX1_loadOfRackOnPhase_20 ?_
        obtain ⟨z3, e4, hF⟩ := o_bind hF
        refine r_callVa (q0 := 0) (rest := []) h hd_X1_standsIn wm_156 dX1_loadOfRackOnPhase_21 (CX1_standsIn l D aρ ρ y1_4 x1 z3 e4) rfl rfl rfl ⟨rfl, rfl⟩ ⟨by decide, by decide⟩ (Nat.le_of_ble_eq_true rfl) ⟨by decide, by decide⟩ rfl (fun v w' hp => ?_)
        obtain ⟨rfl, rfl⟩ := hp
        refine r_if_eq h 54 dX1_loadOfRackOnPhase_24 (by decide) (fun c5 => ?_) (fun c5 => ?_)
        · replace hF := o_pos c5 hF
          refine r_iinc (lv' := [(4, .int (y1_4 + 1)), (3, .int y1_3), (0, .ref (aρ 0)), (1, .int x1), (2, .int x2)]) h 0 rfl (congrArg (fun z => y1_4 + z) (by decide : Int32.ofInt 1 = 1)) dX1_loadOfRackOnPhase_54 (by decide) rfl ?_
          refine r_goto h 5 dX1_loadOfRackOnPhase_57 (by decide) ?_
          exact J.loc (lv' := [(4, .int (y1_4 + 1)), (3, .int y1_3), (0, .ref (aρ 0)), (1, .int x1), (2, .int x2)]) [0, 1, 2, 3, 4] rfl (ih (y1_4 + 1) y1_3 hF)
        · replace hF := o_neg c5 hF
          refine r_aload_n h 2 rfl rfl dX1_loadOfRackOnPhase_27 ?_
          refine r_get h fl_X1_14 0 rfl rfl dX1_loadOfRackOnPhase_28 ?_
          refine r_iload h 0 rfl dX1_loadOfRackOnPhase_31 ?_
          refine r_iconst (v := 2) h dX1_loadOfRackOnPhase_33 (by decide) ?_
          obtain ⟨z6, e7, hF⟩ := o_bind hF
          refine r_callV (q0 := 0) (wr := w_pk (rmW D aρ ρ) [0, 2, 3, 4, 5, 6, 8, 9, 10]) (rest := []) h hd_X2_at wm_144 dX1_loadOfRackOnPhase_34 (CX2_at l D (aρ 1) (aρ 7) (12 : Int32) (6 : Int32) 72 (ρ.2.2.2.2.2.2.1, ρ.1) y1_4 (2 : Int32) z6 e7) [1, 7] [0, 2, 3, 4, 5, 6, 8, 9, 10] rfl rfl (by decide +kernel) rfl rfl rfl ⟨rfl, rfl⟩ ⟨by decide, by decide⟩ (Nat.le_of_ble_eq_true rfl) ⟨by decide, by decide⟩ rfl (fun v w' hp => ?_)
          obtain ⟨rfl, rfl⟩ := hp
          refine J.sub (ws' := rmW D aρ ρ) [0, 9, 1, 2, 3, 4, 5, 10, 6, 7, 8] rfl (by decide +kernel) ?_
          refine r_iload_n h 4 rfl rfl dX1_loadOfRackOnPhase_37 ?_
          refine r_icmp_ne h 54 dX1_loadOfRackOnPhase_38 (by decide) (fun c8 => ?_) (fun c8 => ?_)
          · replace hF := o_neg c8 hF
            refine r_iinc (lv' := [(4, .int (y1_4 + 1)), (3, .int y1_3), (0, .ref (aρ 0)), (1, .int x1), (2, .int x2)]) h 0 rfl (congrArg (fun z => y1_4 + z) (by decide : Int32.ofInt 1 = 1)) dX1_loadOfRackOnPhase_54 (by decide) rfl ?_
            refine r_goto h 5 dX1_loadOfRackOnPhase_57 (by decide) ?_
            exact J.loc (lv' := [(4, .int (y1_4 + 1)), (3, .int y1_3), (0, .ref (aρ 0)), (1, .int x1), (2, .int x2)]) [0, 1, 2, 3, 4] rfl (ih (y1_4 + 1) y1_3 hF)
          · replace hF := o_pos c8 hF
            refine r_iload_n h 1 rfl rfl dX1_loadOfRackOnPhase_41 ?_
            refine r_aload_n h 2 rfl rfl dX1_loadOfRackOnPhase_42 ?_
            refine r_get h fl_X1_14 0 rfl rfl dX1_loadOfRackOnPhase_43 ?_
            refine r_iload h 0 rfl dX1_loadOfRackOnPhase_46 ?_
            refine r_iconst (v := 1) h dX1_loadOfRackOnPhase_48 (by decide) ?_
            obtain ⟨z9, e10, hF⟩ := o_bind hF
            refine r_callV (q0 := 0) (wr := w_pk (rmW D aρ ρ) [0, 2, 3, 4, 5, 6, 8, 9, 10]) (rest := [.int y1_3]) h hd_X2_at wm_144 dX1_loadOfRackOnPhase_49 (CX2_at l D (aρ 1) (aρ 7) (12 : Int32) (6 : Int32) 72 (ρ.2.2.2.2.2.2.1, ρ.1) y1_4 (1 : Int32) z9 e10) [1, 7] [0, 2, 3, 4, 5, 6, 8, 9, 10] rfl rfl (by decide +kernel) rfl rfl rfl ⟨rfl, rfl⟩ ⟨by decide, by decide⟩ (Nat.le_of_ble_eq_true rfl) ⟨by decide, by decide⟩ rfl (fun v w' hp => ?_)
            obtain ⟨rfl, rfl⟩ := hp
            refine J.sub (ws' := rmW D aρ ρ) [0, 9, 1, 2, 3, 4, 5, 10, 6, 7, 8] rfl (by decide +kernel) ?_
            refine r_iadd h dX1_loadOfRackOnPhase_52 ?_
            refine r_istore_n (lv' := [(3, .int (y1_3 + z9)), (4, .int y1_4), (0, .ref (aρ 0)), (1, .int x1), (2, .int x2)]) h rfl dX1_loadOfRackOnPhase_53 (by decide) rfl ?_
            refine r_iinc (lv' := [(4, .int (y1_4 + 1)), (3, .int (y1_3 + z9)), (0, .ref (aρ 0)), (1, .int x1), (2, .int x2)]) h 1 rfl (congrArg (fun z => y1_4 + z) (by decide : Int32.ofInt 1 = 1)) dX1_loadOfRackOnPhase_54 (by decide) rfl ?_
            refine r_goto h 5 dX1_loadOfRackOnPhase_57 (by decide) ?_
            exact J.loc (lv' := [(4, .int (y1_4 + 1)), (3, .int (y1_3 + z9)), (0, .ref (aρ 0)), (1, .int x1), (2, .int x2)]) [0, 1, 2, 3, 4] rfl (ih (y1_4 + 1) (y1_3 + z9) hF)
  refine hL5 _ (fun y1_4 y1_3 hF => ?_) _ (0 : Int32) (0 : Int32) hF
  refine r_iload_n h 1 rfl rfl dX1_loadOfRackOnPhase_60 ?_
  cases hF
  exact r_iret h hr dX1_loadOfRackOnPhase_61 ⟨rfl, rfl⟩

def FX1_differenceWith (ρ : RS) (x1 : Int32) (x2 : Int32) : Option (Int32 × RS) :=
  (FX2_at (12 : Int32) (6 : Int32) 72 (ρ.2.2.2.2.2.2.1, ρ.1) x1 (2 : Int32)).bind fun z1 =>
  (FX2_put (12 : Int32) (6 : Int32) 72 (ρ.2.2.2.2.2.2.1, ρ.1) x1 (2 : Int32) x2).bind fun z3 =>
  (FX1_difference (z3.2, ρ.2.1, ρ.2.2.1, ρ.2.2.2.1, ρ.2.2.2.2.1, ρ.2.2.2.2.2.1, z3.1, ρ.2.2.2.2.2.2.2.1, ρ.2.2.2.2.2.2.2.2.1, ρ.2.2.2.2.2.2.2.2.2.1, ρ.2.2.2.2.2.2.2.2.2.2.1, ρ.2.2.2.2.2.2.2.2.2.2.2.1, ρ.2.2.2.2.2.2.2.2.2.2.2.2.1, ρ.2.2.2.2.2.2.2.2.2.2.2.2.2)).bind fun z5 =>
  (FX2_put (12 : Int32) (6 : Int32) 72 (z3.1, z3.2) x1 (2 : Int32) z1).bind fun z7 =>
  some (z5, (z7.2, ρ.2.1, ρ.2.2.1, ρ.2.2.2.1, ρ.2.2.2.2.1, ρ.2.2.2.2.2.1, z7.1, ρ.2.2.2.2.2.2.2.1, ρ.2.2.2.2.2.2.2.2.1, ρ.2.2.2.2.2.2.2.2.2.1, ρ.2.2.2.2.2.2.2.2.2.2.1, ρ.2.2.2.2.2.2.2.2.2.2.2.1, ρ.2.2.2.2.2.2.2.2.2.2.2.2.1, ρ.2.2.2.2.2.2.2.2.2.2.2.2.2))
abbrev rmX1_differenceWith : Room := { frames := 3, cells := 0, slots := 0, locals := 69 }
set_option maxHeartbeats 4000000 in
set_option maxRecDepth 100000 in
theorem CX1_differenceWith (l : Launch) (D : va_G) (aρ : Nat → Nat) (ρ : RS) (x1 : Int32) (x2 : Int32) (r0 : Int32) (ρ0 : RS) (hF : FX1_differenceWith ρ x1 x2 = some (r0, ρ0)) : Ct l D yX1_differenceWith cX1_differenceWith 5 (some .int) rmX1_differenceWith 0 0 [.ref (aρ 0), .int x1, .int x2] (rmW D aρ ρ) (fun v w => v = some (.int r0) ∧ w = rmW D aρ ρ0) := by
  refine Ct.of (own := RX1) (lv := [(0, .ref (aρ 0)), (1, .int x1), (2, .int x2)]) (by decide +kernel) rfl (Nat.le_of_ble_eq_true rfl) rfl (fun X h hr => ?_)
  unfold FX1_differenceWith at hF
  refine r_aload_n h 0 rfl rfl dX1_differenceWith_0 ?_
  refine r_get h fl_X1_14 0 rfl rfl dX1_differenceWith_1 ?_
  refine r_iload_n h 1 rfl rfl dX1_differenceWith_4 ?_
  refine r_iconst (v := 2) h dX1_differenceWith_5 (by decide) ?_
  obtain ⟨z1, e2, hF⟩ := o_bind hF
  refine r_callV (q0 := 0) (wr := w_pk (rmW D aρ ρ) [0, 2, 3, 4, 5, 6, 8, 9, 10]) (rest := []) h hd_X2_at wm_144 dX1_differenceWith_6 (CX2_at l D (aρ 1) (aρ 7) (12 : Int32) (6 : Int32) 72 (ρ.2.2.2.2.2.2.1, ρ.1) x1 (2 : Int32) z1 e2) [1, 7] [0, 2, 3, 4, 5, 6, 8, 9, 10] rfl rfl (by decide +kernel) rfl rfl rfl ⟨rfl, rfl⟩ ⟨by decide, by decide⟩ (Nat.le_of_ble_eq_true rfl) ⟨by decide, by decide⟩ rfl (fun v w' hp => ?_)
  obtain ⟨rfl, rfl⟩ := hp
  refine J.sub (ws' := rmW D aρ ρ) [0, 9, 1, 2, 3, 4, 5, 10, 6, 7, 8] rfl (by decide +kernel) ?_
  refine r_istore_n (lv' := [(3, .int z1), (0, .ref (aρ 0)), (1, .int x1), (2, .int x2)]) h rfl dX1_differenceWith_9 (by decide) rfl ?_
  refine r_aload_n h 1 rfl rfl dX1_differenceWith_10 ?_
  refine r_get h fl_X1_14 0 rfl rfl dX1_differenceWith_11 ?_
  refine r_iload_n h 2 rfl rfl dX1_differenceWith_14 ?_
  refine r_iconst (v := 2) h dX1_differenceWith_15 (by decide) ?_
  refine r_iload_n h 3 rfl rfl dX1_differenceWith_16 ?_
  obtain ⟨z3, e4, hF⟩ := o_bind hF
  refine r_callV (q0 := 0) (wr := w_pk (rmW D aρ ρ) [0, 2, 3, 4, 5, 6, 8, 9, 10]) (rest := []) h hd_X2_put wm_168 dX1_differenceWith_17 (CX2_put l D (aρ 1) (aρ 7) (12 : Int32) (6 : Int32) 72 (ρ.2.2.2.2.2.2.1, ρ.1) x1 (2 : Int32) x2 z3 e4) [1, 7] [0, 2, 3, 4, 5, 6, 8, 9, 10] rfl rfl (by decide +kernel) rfl rfl rfl ⟨rfl, rfl⟩ ⟨by decide, by decide⟩ (Nat.le_of_ble_eq_true rfl) ⟨by decide, by decide⟩ rfl (fun v w' hp => ?_)
  obtain ⟨rfl, rfl⟩ := hp
  refine J.sub (ws' := rmW D aρ (z3.2, ρ.2.1, ρ.2.2.1, ρ.2.2.2.1, ρ.2.2.2.2.1, ρ.2.2.2.2.2.1, z3.1, ρ.2.2.2.2.2.2.2.1, ρ.2.2.2.2.2.2.2.2.1, ρ.2.2.2.2.2.2.2.2.2.1, ρ.2.2.2.2.2.2.2.2.2.2.1, ρ.2.2.2.2.2.2.2.2.2.2.2.1, ρ.2.2.2.2.2.2.2.2.2.2.2.2.1, ρ.2.2.2.2.2.2.2.2.2.2.2.2.2)) [0, 9, 1, 2, 3, 4, 5, 10, 6, 7, 8] rfl (by decide +kernel) ?_
  refine r_aload_n h 1 rfl rfl dX1_differenceWith_20 ?_
  obtain ⟨z5, e6, hF⟩ := o_bind hF
  refine r_callVa (q0 := 0) (rest := []) h hd_X1_difference wm_201 dX1_differenceWith_21 (CX1_difference l D aρ (z3.2, ρ.2.1, ρ.2.2.1, ρ.2.2.2.1, ρ.2.2.2.2.1, ρ.2.2.2.2.2.1, z3.1, ρ.2.2.2.2.2.2.2.1, ρ.2.2.2.2.2.2.2.2.1, ρ.2.2.2.2.2.2.2.2.2.1, ρ.2.2.2.2.2.2.2.2.2.2.1, ρ.2.2.2.2.2.2.2.2.2.2.2.1, ρ.2.2.2.2.2.2.2.2.2.2.2.2.1, ρ.2.2.2.2.2.2.2.2.2.2.2.2.2) z5 e6) rfl rfl rfl ⟨rfl, rfl⟩ ⟨by decide, by decide⟩ (Nat.le_of_ble_eq_true rfl) ⟨by decide, by decide⟩ rfl (fun v w' hp => ?_)
  obtain ⟨rfl, rfl⟩ := hp
  refine r_istore (lv' := [(4, .int z5), (3, .int z1), (0, .ref (aρ 0)), (1, .int x1), (2, .int x2)]) h dX1_differenceWith_24 (by decide) rfl ?_
  refine r_aload_n h 2 rfl rfl dX1_differenceWith_26 ?_
  refine r_get h fl_X1_14 0 rfl rfl dX1_differenceWith_27 ?_
  refine r_iload_n h 3 rfl rfl dX1_differenceWith_30 ?_
  refine r_iconst (v := 2) h dX1_differenceWith_31 (by decide) ?_
  refine r_iload_n h 1 rfl rfl dX1_differenceWith_32 ?_
  obtain ⟨z7, e8, hF⟩ := o_bind hF
  refine r_callV (q0 := 0) (wr := w_pk (rmW D aρ (z3.2, ρ.2.1, ρ.2.2.1, ρ.2.2.2.1, ρ.2.2.2.2.1, ρ.2.2.2.2.2.1, z3.1, ρ.2.2.2.2.2.2.2.1, ρ.2.2.2.2.2.2.2.2.1, ρ.2.2.2.2.2.2.2.2.2.1, ρ.2.2.2.2.2.2.2.2.2.2.1, ρ.2.2.2.2.2.2.2.2.2.2.2.1, ρ.2.2.2.2.2.2.2.2.2.2.2.2.1, ρ.2.2.2.2.2.2.2.2.2.2.2.2.2)) [0, 2, 3, 4, 5, 6, 8, 9, 10]) (rest := []) h hd_X2_put wm_168 dX1_differenceWith_33 (CX2_put l D (aρ 1) (aρ 7) (12 : Int32) (6 : Int32) 72 (z3.1, z3.2) x1 (2 : Int32) z1 z7 e8) [1, 7] [0, 2, 3, 4, 5, 6, 8, 9, 10] rfl rfl (by decide +kernel) rfl rfl rfl ⟨rfl, rfl⟩ ⟨by decide, by decide⟩ (Nat.le_of_ble_eq_true rfl) ⟨by decide, by decide⟩ rfl (fun v w' hp => ?_)
  obtain ⟨rfl, rfl⟩ := hp
  refine J.sub (ws' := rmW D aρ (z7.2, ρ.2.1, ρ.2.2.1, ρ.2.2.2.1, ρ.2.2.2.2.1, ρ.2.2.2.2.2.1, z7.1, ρ.2.2.2.2.2.2.2.1, ρ.2.2.2.2.2.2.2.2.1, ρ.2.2.2.2.2.2.2.2.2.1, ρ.2.2.2.2.2.2.2.2.2.2.1, ρ.2.2.2.2.2.2.2.2.2.2.2.1, ρ.2.2.2.2.2.2.2.2.2.2.2.2.1, ρ.2.2.2.2.2.2.2.2.2.2.2.2.2)) [0, 9, 1, 2, 3, 4, 5, 10, 6, 7, 8] rfl (by decide +kernel) ?_
  refine r_iload h 0 rfl dX1_differenceWith_36 ?_
  cases hF
  exact r_iret h hr dX1_differenceWith_38 ⟨rfl, rfl⟩

def FX1_fullestLoadWith_L16 (ρ : RS) (x1 : Int32) (x2 : Int32) (z1 : Int32) (K : Int32 → Int32 → Option (Int32)) : Nat → Int32 → Int32 → Option (Int32)
  | 0, _, _ => none
  | n + 1, y3_5, y3_4 =>
  if (6 : Int32) ≤ y3_5 then
  (K y3_5 y3_4)
else
  ((FX1_loadOfRack ρ y3_5).bind fun z5 =>
  (FX1_standsIn ρ x1 y3_5).bind fun z7 =>
  if z7 = 0 then
  (if y3_5 = x2 then
  (nmv (if y3_4 < (z5 + z1) then (z5 + z1) else y3_4) fun u11 =>
  FX1_fullestLoadWith_L16 ρ x1 x2 z1 K n (y3_5 + 1) u11)
else
  (FX1_fullestLoadWith_L16 ρ x1 x2 z1 K n (y3_5 + 1) (if y3_4 < z5 then z5 else y3_4)))
else
  (if y3_5 = x2 then
  (nmv (if y3_4 < ((z5 - z1) + z1) then ((z5 - z1) + z1) else y3_4) fun u14 =>
  FX1_fullestLoadWith_L16 ρ x1 x2 z1 K n (y3_5 + 1) u14)
else
  (nmv (if y3_4 < (z5 - z1) then (z5 - z1) else y3_4) fun u13 =>
  FX1_fullestLoadWith_L16 ρ x1 x2 z1 K n (y3_5 + 1) u13)))
def FX1_fullestLoadWith (ρ : RS) (x1 : Int32) (x2 : Int32) : Option (Int32) :=
  (FX2_at (12 : Int32) (6 : Int32) 72 (ρ.2.2.2.2.2.2.1, ρ.1) x1 (1 : Int32)).bind fun z1 =>
  FX1_fullestLoadWith_L16 ρ x1 x2 z1 (fun (y3_5 : Int32) (y3_4 : Int32) =>
  some y3_4) FU (0 : Int32) (0 : Int32)
abbrev rmX1_fullestLoadWith : Room := { frames := 3, cells := 0, slots := 0, locals := 67 }
set_option maxHeartbeats 4000000 in
set_option maxRecDepth 100000 in
theorem CX1_fullestLoadWith (l : Launch) (D : va_G) (aρ : Nat → Nat) (ρ : RS) (x1 : Int32) (x2 : Int32) (r0 : Int32) (hF : FX1_fullestLoadWith ρ x1 x2 = some r0) : Ct l D yX1_fullestLoadWith cX1_fullestLoadWith 7 (some .int) rmX1_fullestLoadWith 0 0 [.ref (aρ 0), .int x1, .int x2] (rmW D aρ ρ) (fun v w => v = some (.int r0) ∧ w = rmW D aρ ρ) := by
  refine Ct.of (own := RX1) (lv := [(0, .ref (aρ 0)), (1, .int x1), (2, .int x2)]) (by decide +kernel) rfl (Nat.le_of_ble_eq_true rfl) rfl (fun X h hr => ?_)
  unfold FX1_fullestLoadWith at hF
  refine r_aload_n h 0 rfl rfl dX1_fullestLoadWith_0 ?_
  refine r_get h fl_X1_14 0 rfl rfl dX1_fullestLoadWith_1 ?_
  refine r_iload_n h 1 rfl rfl dX1_fullestLoadWith_4 ?_
  refine r_iconst (v := 1) h dX1_fullestLoadWith_5 (by decide) ?_
  obtain ⟨z1, e2, hF⟩ := o_bind hF
  refine r_callV (q0 := 0) (wr := w_pk (rmW D aρ ρ) [0, 2, 3, 4, 5, 6, 8, 9, 10]) (rest := []) h hd_X2_at wm_144 dX1_fullestLoadWith_6 (CX2_at l D (aρ 1) (aρ 7) (12 : Int32) (6 : Int32) 72 (ρ.2.2.2.2.2.2.1, ρ.1) x1 (1 : Int32) z1 e2) [1, 7] [0, 2, 3, 4, 5, 6, 8, 9, 10] rfl rfl (by decide +kernel) rfl rfl rfl ⟨rfl, rfl⟩ ⟨by decide, by decide⟩ (Nat.le_of_ble_eq_true rfl) ⟨by decide, by decide⟩ rfl (fun v w' hp => ?_)
  obtain ⟨rfl, rfl⟩ := hp
  refine J.sub (ws' := rmW D aρ ρ) [0, 9, 1, 2, 3, 4, 5, 10, 6, 7, 8] rfl (by decide +kernel) ?_
  refine r_istore_n (lv' := [(3, .int z1), (0, .ref (aρ 0)), (1, .int x1), (2, .int x2)]) h rfl dX1_fullestLoadWith_9 (by decide) rfl ?_
  refine r_iconst (v := 0) h dX1_fullestLoadWith_10 (by decide) ?_
  refine r_istore (lv' := [(4, .int (0 : Int32)), (3, .int z1), (0, .ref (aρ 0)), (1, .int x1), (2, .int x2)]) h dX1_fullestLoadWith_11 (by decide) rfl ?_
  refine r_iconst (v := 0) h dX1_fullestLoadWith_13 (by decide) ?_
  refine r_istore (lv' := [(5, .int (0 : Int32)), (4, .int (0 : Int32)), (3, .int z1), (0, .ref (aρ 0)), (1, .int x1), (2, .int x2)]) h dX1_fullestLoadWith_14 (by decide) rfl ?_
  have hL16 : ∀ (K : Int32 → Int32 → Option (Int32)) (hK : ∀ (y3_5 : Int32) (y3_4 : Int32), K y3_5 y3_4 = some r0 → J X l rmX1_fullestLoadWith D 7 0 0 (rmW D aρ ρ) [(5, .int y3_5), (4, .int y3_4), (3, .int z1), (0, .ref (aρ 0)), (1, .int x1), (2, .int x2)] 74 []) (N : Nat), ∀ (y3_5 : Int32) (y3_4 : Int32), FX1_fullestLoadWith_L16 ρ x1 x2 z1 K N y3_5 y3_4 = some r0 → J X l rmX1_fullestLoadWith D 7 0 0 (rmW D aρ ρ) [(5, .int y3_5), (4, .int y3_4), (3, .int z1), (0, .ref (aρ 0)), (1, .int x1), (2, .int x2)] 16 [] := by
    intro K hK N
    induction N with
    | zero =>
      intro y3_5 y3_4 hF
      cases hF
    | succ N ih =>
      intro y3_5 y3_4 hF
      rw [FX1_fullestLoadWith_L16] at hF
      refine r_iload h 0 rfl dX1_fullestLoadWith_16 ?_
      refine r_bipush (v := 6) h dX1_fullestLoadWith_18 (by decide) ?_
      refine r_icmp_ge h 74 dX1_fullestLoadWith_20 (by decide) (fun c4 => ?_) (fun c4 => ?_)
      · replace hF := o_pos c4 hF
        exact J.loc (lv' := [(5, .int y3_5), (4, .int y3_4), (3, .int z1), (0, .ref (aρ 0)), (1, .int x1), (2, .int x2)]) [0, 1, 2, 3, 4, 5] rfl (hK y3_5 y3_4 hF)
      · replace hF := o_neg c4 hF
        refine r_aload_n h 3 rfl rfl dX1_fullestLoadWith_23 ?_
        refine r_iload h 0 rfl dX1_fullestLoadWith_24 ?_
        obtain ⟨z5, e6, hF⟩ := o_bind hF
        refine r_callVa (q0 := 0) (rest := []) h hd_X1_loadOfRack wm_176 dX1_fullestLoadWith_26 (CX1_loadOfRack l D aρ ρ y3_5 z5 e6) rfl rfl rfl ⟨rfl, rfl⟩ ⟨by decide, by decide⟩ (Nat.le_of_ble_eq_true rfl) ⟨by decide, by decide⟩ rfl (fun v w' hp => ?_)
        obtain ⟨rfl, rfl⟩ := hp
        refine r_istore (lv' := [(6, .int z5), (5, .int y3_5), (4, .int y3_4), (3, .int z1), (0, .ref (aρ 0)), (1, .int x1), (2, .int x2)]) h dX1_fullestLoadWith_29 (by decide) rfl ?_
        refine r_aload_n h 4 rfl rfl dX1_fullestLoadWith_31 ?_
        refine r_iload_n h 5 rfl rfl dX1_fullestLoadWith_32 ?_
        refine r_iload h 1 rfl dX1_fullestLoadWith_33 ?_
        obtain ⟨z7, e8, hF⟩ := o_bind hF
        refine r_callVa (q0 := 0) (rest := []) h hd_X1_standsIn wm_156 dX1_fullestLoadWith_35 (CX1_standsIn l D aρ ρ x1 y3_5 z7 e8) rfl rfl rfl ⟨rfl, rfl⟩ ⟨by decide, by decide⟩ (Nat.le_of_ble_eq_true rfl) ⟨by decide, by decide⟩ rfl (fun v w' hp => ?_)
        obtain ⟨rfl, rfl⟩ := hp
        refine r_if_eq h 47 dX1_fullestLoadWith_38 (by decide) (fun c9 => ?_) (fun c9 => ?_)
        · replace hF := o_pos c9 hF
          refine r_iload h 1 rfl dX1_fullestLoadWith_47 ?_
          refine r_iload_n h 6 rfl rfl dX1_fullestLoadWith_49 ?_
          refine r_icmp_ne h 59 dX1_fullestLoadWith_50 (by decide) (fun c10 => ?_) (fun c10 => ?_)
          · replace hF := o_neg c10 hF
            refine r_iload h 2 rfl dX1_fullestLoadWith_59 ?_
            refine r_iload h 0 rfl dX1_fullestLoadWith_61 ?_
            refine r_max h wm_191 wm_192 wm_13 wm_193 (by decide) (Nat.le_of_ble_eq_true rfl) (by decide) (by decide) dX1_fullestLoadWith_63 ?_
            refine r_istore (lv' := [(4, .int (if y3_4 < z5 then z5 else y3_4)), (6, .int z5), (5, .int y3_5), (3, .int z1), (0, .ref (aρ 0)), (1, .int x1), (2, .int x2)]) h dX1_fullestLoadWith_66 (by decide) rfl ?_
            refine r_iinc (lv' := [(5, .int (y3_5 + 1)), (4, .int (if y3_4 < z5 then z5 else y3_4)), (6, .int z5), (3, .int z1), (0, .ref (aρ 0)), (1, .int x1), (2, .int x2)]) h 2 rfl (congrArg (fun z => y3_5 + z) (by decide : Int32.ofInt 1 = 1)) dX1_fullestLoadWith_68 (by decide) rfl ?_
            refine r_goto h 16 dX1_fullestLoadWith_71 (by decide) ?_
            exact J.loc (lv' := [(5, .int (y3_5 + 1)), (4, .int (if y3_4 < z5 then z5 else y3_4)), (3, .int z1), (0, .ref (aρ 0)), (1, .int x1), (2, .int x2)]) [0, 1, 3, 4, 5, 6] rfl (ih (y3_5 + 1) (if y3_4 < z5 then z5 else y3_4) hF)
          · replace hF := o_pos c10 hF
            refine r_iload h 0 rfl dX1_fullestLoadWith_53 ?_
            refine r_iload_n h 3 rfl rfl dX1_fullestLoadWith_55 ?_
            refine r_iadd h dX1_fullestLoadWith_56 ?_
            refine r_istore (lv' := [(6, .int (z5 + z1)), (5, .int y3_5), (4, .int y3_4), (3, .int z1), (0, .ref (aρ 0)), (1, .int x1), (2, .int x2)]) h dX1_fullestLoadWith_57 (by decide) rfl ?_
            refine r_iload h 2 rfl dX1_fullestLoadWith_59 ?_
            refine r_iload h 0 rfl dX1_fullestLoadWith_61 ?_
            refine r_max h wm_191 wm_192 wm_13 wm_193 (by decide) (Nat.le_of_ble_eq_true rfl) (by decide) (by decide) dX1_fullestLoadWith_63 ?_
            obtain ⟨u11, hu11, hF⟩ := o_nm hF
            refine J.top hu11 ?_
            refine r_istore (lv' := [(4, .int u11), (6, .int (z5 + z1)), (5, .int y3_5), (3, .int z1), (0, .ref (aρ 0)), (1, .int x1), (2, .int x2)]) h dX1_fullestLoadWith_66 (by decide) rfl ?_
            refine r_iinc (lv' := [(5, .int (y3_5 + 1)), (4, .int u11), (6, .int (z5 + z1)), (3, .int z1), (0, .ref (aρ 0)), (1, .int x1), (2, .int x2)]) h 2 rfl (congrArg (fun z => y3_5 + z) (by decide : Int32.ofInt 1 = 1)) dX1_fullestLoadWith_68 (by decide) rfl ?_
            refine r_goto h 16 dX1_fullestLoadWith_71 (by decide) ?_
            exact J.loc (lv' := [(5, .int (y3_5 + 1)), (4, .int u11), (3, .int z1), (0, .ref (aρ 0)), (1, .int x1), (2, .int x2)]) [0, 1, 3, 4, 5, 6] rfl (ih (y3_5 + 1) u11 hF)
        · replace hF := o_neg c9 hF
          refine r_iload h 0 rfl dX1_fullestLoadWith_41 ?_
          refine r_iload_n h 3 rfl rfl dX1_fullestLoadWith_43 ?_
          refine r_isub h dX1_fullestLoadWith_44 ?_
          refine r_istore (lv' := [(6, .int (z5 - z1)), (5, .int y3_5), (4, .int y3_4), (3, .int z1), (0, .ref (aρ 0)), (1, .int x1), (2, .int x2)]) h dX1_fullestLoadWith_45 (by decide) rfl ?_
          refine r_iload h 1 rfl dX1_fullestLoadWith_47 ?_
          refine r_iload_n h 6 rfl rfl dX1_fullestLoadWith_49 ?_
          refine r_icmp_ne h 59 dX1_fullestLoadWith_50 (by decide) (fun c12 => ?_) (fun c12 => ?_)
          · replace hF := o_neg c12 hF
            refine r_iload h 2 rfl dX1_fullestLoadWith_59 ?_
            refine r_iload h 0 rfl dX1_fullestLoadWith_61 ?_
            refine r_max h wm_191 wm_192 wm_13 wm_193 (by decide) (Nat.le_of_ble_eq_true rfl) (by decide) (by decide) dX1_fullestLoadWith_63 ?_
            obtain ⟨u13, hu13, hF⟩ := o_nm hF
            refine J.top hu13 ?_
            refine r_istore (lv' := [(4, .int u13), (6, .int (z5 - z1)), (5, .int y3_5), (3, .int z1), (0, .ref (aρ 0)), (1, .int x1), (2, .int x2)]) h dX1_fullestLoadWith_66 (by decide) rfl ?_
            refine r_iinc (lv' := [(5, .int (y3_5 + 1)), (4, .int u13), (6, .int (z5 - z1)), (3, .int z1), (0, .ref (aρ 0)), (1, .int x1), (2, .int x2)]) h 2 rfl (congrArg (fun z => y3_5 + z) (by decide : Int32.ofInt 1 = 1)) dX1_fullestLoadWith_68 (by decide) rfl ?_
            refine r_goto h 16 dX1_fullestLoadWith_71 (by decide) ?_
            exact J.loc (lv' := [(5, .int (y3_5 + 1)), (4, .int u13), (3, .int z1), (0, .ref (aρ 0)), (1, .int x1), (2, .int x2)]) [0, 1, 3, 4, 5, 6] rfl (ih (y3_5 + 1) u13 hF)
          · replace hF := o_pos c12 hF
            refine r_iload h 0 rfl dX1_fullestLoadWith_53 ?_
            refine r_iload_n h 3 rfl rfl dX1_fullestLoadWith_55 ?_
            refine r_iadd h dX1_fullestLoadWith_56 ?_
            refine r_istore (lv' := [(6, .int ((z5 - z1) + z1)), (5, .int y3_5), (4, .int y3_4), (3, .int z1), (0, .ref (aρ 0)), (1, .int x1), (2, .int x2)]) h dX1_fullestLoadWith_57 (by decide) rfl ?_
            refine r_iload h 2 rfl dX1_fullestLoadWith_59 ?_
            refine r_iload h 0 rfl dX1_fullestLoadWith_61 ?_
            refine r_max h wm_191 wm_192 wm_13 wm_193 (by decide) (Nat.le_of_ble_eq_true rfl) (by decide) (by decide) dX1_fullestLoadWith_63 ?_
            obtain ⟨u14, hu14, hF⟩ := o_nm hF
            refine J.top hu14 ?_
            refine r_istore (lv' := [(4, .int u14), (6, .int ((z5 - z1) + z1)), (5, .int y3_5), (3, .int z1), (0, .ref (aρ 0)), (1, .int x1), (2, .int x2)]) h dX1_fullestLoadWith_66 (by decide) rfl ?_
            refine r_iinc (lv' := [(5, .int (y3_5 + 1)), (4, .int u14), (6, .int ((z5 - z1) + z1)), (3, .int z1), (0, .ref (aρ 0)), (1, .int x1), (2, .int x2)]) h 2 rfl (congrArg (fun z => y3_5 + z) (by decide : Int32.ofInt 1 = 1)) dX1_fullestLoadWith_68 (by decide) rfl ?_
            refine r_goto h 16 dX1_fullestLoadWith_71 (by decide) ?_
            exact J.loc (lv' := [(5, .int (y3_5 + 1)), (4, .int u14), (3, .int z1), (0, .ref (aρ 0)), (1, .int x1), (2, .int x2)]) [0, 1, 3, 4, 5, 6] rfl (ih (y3_5 + 1) u14 hF)
  refine hL16 _ (fun y3_5 y3_4 hF => ?_) _ (0 : Int32) (0 : Int32) hF
  refine r_iload h 1 rfl dX1_fullestLoadWith_74 ?_
  cases hF
  exact r_iret h hr dX1_fullestLoadWith_76 ⟨rfl, rfl⟩

def FX1_cablesOf_L4 (ρ : RS) (x1 : Int32) (K : Int32 → Int32 → Option (Int32)) : Nat → Int32 → Int32 → Option (Int32)
  | 0, _, _ => none
  | n + 1, y1_3, y1_2 =>
  if ρ.2.2.2.2.2.2.2.1 ≤ y1_3 then
  (K y1_3 y1_2)
else
  ((FX2_at (10 : Int32) (3 : Int32) 30 (ρ.2.2.2.2.2.2.2.1, ρ.2.1) y1_3 (0 : Int32)).bind fun z3 =>
  if z3 = x1 then
  (FX1_cablesOf_L4 ρ x1 K n (y1_3 + 1) (y1_2 + 1))
else
  ((FX2_at (10 : Int32) (3 : Int32) 30 (ρ.2.2.2.2.2.2.2.1, ρ.2.1) y1_3 (1 : Int32)).bind fun z6 =>
  if z6 = x1 then
  (FX1_cablesOf_L4 ρ x1 K n (y1_3 + 1) (y1_2 + 1))
else
  (FX1_cablesOf_L4 ρ x1 K n (y1_3 + 1) y1_2)))
def FX1_cablesOf (ρ : RS) (x1 : Int32) : Option (Int32) :=
  FX1_cablesOf_L4 ρ x1 (fun (y1_3 : Int32) (y1_2 : Int32) =>
  some y1_2) FU (0 : Int32) (0 : Int32)
abbrev rmX1_cablesOf : Room := { frames := 1, cells := 0, slots := 0, locals := 22 }
set_option maxHeartbeats 4000000 in
set_option maxRecDepth 100000 in
theorem CX1_cablesOf (l : Launch) (D : va_G) (aρ : Nat → Nat) (ρ : RS) (x1 : Int32) (r0 : Int32) (hF : FX1_cablesOf ρ x1 = some r0) : Ct l D yX1_cablesOf cX1_cablesOf 4 (some .int) rmX1_cablesOf 0 0 [.ref (aρ 0), .int x1] (rmW D aρ ρ) (fun v w => v = some (.int r0) ∧ w = rmW D aρ ρ) := by
  refine Ct.of (own := RX1) (lv := [(0, .ref (aρ 0)), (1, .int x1)]) (by decide +kernel) rfl (Nat.le_of_ble_eq_true rfl) rfl (fun X h hr => ?_)
  unfold FX1_cablesOf at hF
  refine r_iconst (v := 0) h dX1_cablesOf_0 (by decide) ?_
  refine r_istore_n (lv' := [(2, .int (0 : Int32)), (0, .ref (aρ 0)), (1, .int x1)]) h rfl dX1_cablesOf_1 (by decide) rfl ?_
  refine r_iconst (v := 0) h dX1_cablesOf_2 (by decide) ?_
  refine r_istore_n (lv' := [(3, .int (0 : Int32)), (2, .int (0 : Int32)), (0, .ref (aρ 0)), (1, .int x1)]) h rfl dX1_cablesOf_3 (by decide) rfl ?_
  have hL4 : ∀ (K : Int32 → Int32 → Option (Int32)) (hK : ∀ (y1_3 : Int32) (y1_2 : Int32), K y1_3 y1_2 = some r0 → J X l rmX1_cablesOf D 4 0 0 (rmW D aρ ρ) [(3, .int y1_3), (2, .int y1_2), (0, .ref (aρ 0)), (1, .int x1)] 50 []) (N : Nat), ∀ (y1_3 : Int32) (y1_2 : Int32), FX1_cablesOf_L4 ρ x1 K N y1_3 y1_2 = some r0 → J X l rmX1_cablesOf D 4 0 0 (rmW D aρ ρ) [(3, .int y1_3), (2, .int y1_2), (0, .ref (aρ 0)), (1, .int x1)] 4 [] := by
    intro K hK N
    induction N with
    | zero =>
      intro y1_3 y1_2 hF
      cases hF
    | succ N ih =>
      intro y1_3 y1_2 hF
      rw [FX1_cablesOf_L4] at hF
      refine r_iload_n h 0 rfl rfl dX1_cablesOf_4 ?_
      refine r_aload_n h 2 rfl rfl dX1_cablesOf_5 ?_
      refine r_get h fl_X1_20 0 rfl rfl dX1_cablesOf_6 ?_
      refine r_get h fl_X1_63 2 rfl rfl dX1_cablesOf_9 ?_
      refine r_icmp_ge h 50 dX1_cablesOf_12 (by decide) (fun c2 => ?_) (fun c2 => ?_)
      · replace hF := o_pos c2 hF
        exact J.loc (lv' := [(3, .int y1_3), (2, .int y1_2), (0, .ref (aρ 0)), (1, .int x1)]) [0, 1, 2, 3] rfl (hK y1_3 y1_2 hF)
      · replace hF := o_neg c2 hF
        refine r_aload_n h 2 rfl rfl dX1_cablesOf_15 ?_
        refine r_get h fl_X1_20 0 rfl rfl dX1_cablesOf_16 ?_
        refine r_iload_n h 0 rfl rfl dX1_cablesOf_19 ?_
        refine r_iconst (v := 0) h dX1_cablesOf_20 (by decide) ?_
        obtain ⟨z3, e4, hF⟩ := o_bind hF
        refine r_callV (q0 := 0) (wr := w_pk (rmW D aρ ρ) [0, 1, 3, 4, 5, 6, 7, 9, 10]) (rest := []) h hd_X2_at wm_144 dX1_cablesOf_21 (CX2_at l D (aρ 2) (aρ 8) (10 : Int32) (3 : Int32) 30 (ρ.2.2.2.2.2.2.2.1, ρ.2.1) y1_3 (0 : Int32) z3 e4) [2, 8] [0, 1, 3, 4, 5, 6, 7, 9, 10] rfl rfl (by decide +kernel) rfl rfl rfl ⟨rfl, rfl⟩ ⟨by decide, by decide⟩ (Nat.le_of_ble_eq_true rfl) ⟨by decide, by decide⟩ rfl (fun v w' hp => ?_)
        obtain ⟨rfl, rfl⟩ := hp
        refine J.sub (ws' := rmW D aρ ρ) [0, 1, 9, 2, 3, 4, 5, 6, 10, 7, 8] rfl (by decide +kernel) ?_
        refine r_iload_n h 3 rfl rfl dX1_cablesOf_24 ?_
        refine r_icmp_eq h 41 dX1_cablesOf_25 (by decide) (fun c5 => ?_) (fun c5 => ?_)
        · replace hF := o_pos c5 hF
          refine r_iinc (lv' := [(2, .int (y1_2 + 1)), (3, .int y1_3), (0, .ref (aρ 0)), (1, .int x1)]) h 1 rfl (congrArg (fun z => y1_2 + z) (by decide : Int32.ofInt 1 = 1)) dX1_cablesOf_41 (by decide) rfl ?_
          refine r_iinc (lv' := [(3, .int (y1_3 + 1)), (2, .int (y1_2 + 1)), (0, .ref (aρ 0)), (1, .int x1)]) h 1 rfl (congrArg (fun z => y1_3 + z) (by decide : Int32.ofInt 1 = 1)) dX1_cablesOf_44 (by decide) rfl ?_
          refine r_goto h 4 dX1_cablesOf_47 (by decide) ?_
          exact J.loc (lv' := [(3, .int (y1_3 + 1)), (2, .int (y1_2 + 1)), (0, .ref (aρ 0)), (1, .int x1)]) [0, 1, 2, 3] rfl (ih (y1_3 + 1) (y1_2 + 1) hF)
        · replace hF := o_neg c5 hF
          refine r_aload_n h 2 rfl rfl dX1_cablesOf_28 ?_
          refine r_get h fl_X1_20 0 rfl rfl dX1_cablesOf_29 ?_
          refine r_iload_n h 0 rfl rfl dX1_cablesOf_32 ?_
          refine r_iconst (v := 1) h dX1_cablesOf_33 (by decide) ?_
          obtain ⟨z6, e7, hF⟩ := o_bind hF
          refine r_callV (q0 := 0) (wr := w_pk (rmW D aρ ρ) [0, 1, 3, 4, 5, 6, 7, 9, 10]) (rest := []) h hd_X2_at wm_144 dX1_cablesOf_34 (CX2_at l D (aρ 2) (aρ 8) (10 : Int32) (3 : Int32) 30 (ρ.2.2.2.2.2.2.2.1, ρ.2.1) y1_3 (1 : Int32) z6 e7) [2, 8] [0, 1, 3, 4, 5, 6, 7, 9, 10] rfl rfl (by decide +kernel) rfl rfl rfl ⟨rfl, rfl⟩ ⟨by decide, by decide⟩ (Nat.le_of_ble_eq_true rfl) ⟨by decide, by decide⟩ rfl (fun v w' hp => ?_)
          obtain ⟨rfl, rfl⟩ := hp
          refine J.sub (ws' := rmW D aρ ρ) [0, 1, 9, 2, 3, 4, 5, 6, 10, 7, 8] rfl (by decide +kernel) ?_
          refine r_iload_n h 3 rfl rfl dX1_cablesOf_37 ?_
          refine r_icmp_ne h 44 dX1_cablesOf_38 (by decide) (fun c8 => ?_) (fun c8 => ?_)
          · replace hF := o_neg c8 hF
            refine r_iinc (lv' := [(3, .int (y1_3 + 1)), (2, .int y1_2), (0, .ref (aρ 0)), (1, .int x1)]) h 0 rfl (congrArg (fun z => y1_3 + z) (by decide : Int32.ofInt 1 = 1)) dX1_cablesOf_44 (by decide) rfl ?_
            refine r_goto h 4 dX1_cablesOf_47 (by decide) ?_
            exact J.loc (lv' := [(3, .int (y1_3 + 1)), (2, .int y1_2), (0, .ref (aρ 0)), (1, .int x1)]) [0, 1, 2, 3] rfl (ih (y1_3 + 1) y1_2 hF)
          · replace hF := o_pos c8 hF
            refine r_iinc (lv' := [(2, .int (y1_2 + 1)), (3, .int y1_3), (0, .ref (aρ 0)), (1, .int x1)]) h 1 rfl (congrArg (fun z => y1_2 + z) (by decide : Int32.ofInt 1 = 1)) dX1_cablesOf_41 (by decide) rfl ?_
            refine r_iinc (lv' := [(3, .int (y1_3 + 1)), (2, .int (y1_2 + 1)), (0, .ref (aρ 0)), (1, .int x1)]) h 1 rfl (congrArg (fun z => y1_3 + z) (by decide : Int32.ofInt 1 = 1)) dX1_cablesOf_44 (by decide) rfl ?_
            refine r_goto h 4 dX1_cablesOf_47 (by decide) ?_
            exact J.loc (lv' := [(3, .int (y1_3 + 1)), (2, .int (y1_2 + 1)), (0, .ref (aρ 0)), (1, .int x1)]) [0, 1, 2, 3] rfl (ih (y1_3 + 1) (y1_2 + 1) hF)
  refine hL4 _ (fun y1_3 y1_2 hF => ?_) _ (0 : Int32) (0 : Int32) hF
  refine r_iload_n h 1 rfl rfl dX1_cablesOf_50 ?_
  cases hF
  exact r_iret h hr dX1_cablesOf_51 ⟨rfl, rfl⟩

def FX1_whyNotBackOut (ρ : RS) : Option (Int32 × RS) :=
  if ρ.2.2.2.2.2.2.2.2.2.1 = 0 then
  (some ((2 : Int32), ρ))
else
  (nmv (ρ.2.2.2.2.2.2.2.2.2.1 - (1 : Int32)) fun u2 =>
  (FX2_at (20 : Int32) (4 : Int32) 80 (ρ.2.2.2.2.2.2.2.2.2.1, ρ.2.2.2.1) u2 (0 : Int32)).bind fun z3 =>
  (FX2_at (20 : Int32) (4 : Int32) 80 (ρ.2.2.2.2.2.2.2.2.2.1, ρ.2.2.2.1) u2 (1 : Int32)).bind fun z5 =>
  (FX2_at (20 : Int32) (4 : Int32) 80 (ρ.2.2.2.2.2.2.2.2.2.1, ρ.2.2.2.1) u2 (2 : Int32)).bind fun z7 =>
  (FX1_isFrozen ρ z3).bind fun z9 =>
  if z9 = 0 then
  (if z5 = (-1 : Int32) then
  ((FX2_at (20 : Int32) (4 : Int32) 80 (ρ.2.2.2.2.2.2.2.2.2.1, ρ.2.2.2.1) u2 (3 : Int32)).bind fun z13 =>
  (FX1_firstWrongWith ρ z3 z5 z7 z13).bind fun z15 =>
  some (z15.1, z15.2))
else
  ((FX2_at (12 : Int32) (6 : Int32) 72 (ρ.2.2.2.2.2.2.1, ρ.1) z3 (0 : Int32)).bind fun z17 =>
  (FX1_machineWithin ρ z5 z7 z17 z3).bind fun z19 =>
  if z19 = (-1 : Int32) then
  ((FX2_at (20 : Int32) (4 : Int32) 80 (ρ.2.2.2.2.2.2.2.2.2.1, ρ.2.2.2.1) u2 (3 : Int32)).bind fun z22 =>
  (FX1_firstWrongWith ρ z3 z5 z7 z22).bind fun z24 =>
  some (z24.1, z24.2))
else
  (some ((3 : Int32), ρ))))
else
  (some ((1 : Int32), ρ)))
abbrev rmX1_whyNotBackOut : Room := { frames := 5, cells := 0, slots := 0, locals := 119 }
set_option maxHeartbeats 4000000 in
set_option maxRecDepth 100000 in
theorem CX1_whyNotBackOut (l : Launch) (D : va_G) (aρ : Nat → Nat) (ρ : RS) (r0 : Int32) (ρ0 : RS) (hF : FX1_whyNotBackOut ρ = some (r0, ρ0)) : Ct l D yX1_whyNotBackOut cX1_whyNotBackOut 5 (some .int) rmX1_whyNotBackOut 0 0 [.ref (aρ 0)] (rmW D aρ ρ) (fun v w => v = some (.int r0) ∧ w = rmW D aρ ρ0) := by
  refine Ct.of (own := RX1) (lv := [(0, .ref (aρ 0))]) (by decide +kernel) rfl (Nat.le_of_ble_eq_true rfl) rfl (fun X h hr => ?_)
  unfold FX1_whyNotBackOut at hF
  refine r_aload_n h 0 rfl rfl dX1_whyNotBackOut_0 ?_
  refine r_get h fl_X1_26 0 rfl rfl dX1_whyNotBackOut_1 ?_
  refine r_get h fl_X1_63 4 rfl rfl dX1_whyNotBackOut_4 ?_
  refine r_if_ne h 12 dX1_whyNotBackOut_7 (by decide) (fun c1 => ?_) (fun c1 => ?_)
  · replace hF := o_neg c1 hF
    refine r_aload_n h 0 rfl rfl dX1_whyNotBackOut_12 ?_
    refine r_get h fl_X1_26 0 rfl rfl dX1_whyNotBackOut_13 ?_
    refine r_get h fl_X1_63 4 rfl rfl dX1_whyNotBackOut_16 ?_
    refine r_iconst (v := 1) h dX1_whyNotBackOut_19 (by decide) ?_
    refine r_isub h dX1_whyNotBackOut_20 ?_
    obtain ⟨u2, hu2, hF⟩ := o_nm hF
    refine J.top hu2 ?_
    refine r_istore_n (lv' := [(1, .int u2), (0, .ref (aρ 0))]) h rfl dX1_whyNotBackOut_21 (by decide) rfl ?_
    refine r_aload_n h 1 rfl rfl dX1_whyNotBackOut_22 ?_
    refine r_get h fl_X1_26 0 rfl rfl dX1_whyNotBackOut_23 ?_
    refine r_iload_n h 0 rfl rfl dX1_whyNotBackOut_26 ?_
    refine r_iconst (v := 0) h dX1_whyNotBackOut_27 (by decide) ?_
    obtain ⟨z3, e4, hF⟩ := o_bind hF
    refine r_callV (q0 := 0) (wr := w_pk (rmW D aρ ρ) [0, 1, 2, 3, 5, 6, 7, 8, 9]) (rest := []) h hd_X2_at wm_144 dX1_whyNotBackOut_28 (CX2_at l D (aρ 4) (aρ 10) (20 : Int32) (4 : Int32) 80 (ρ.2.2.2.2.2.2.2.2.2.1, ρ.2.2.2.1) u2 (0 : Int32) z3 e4) [4, 10] [0, 1, 2, 3, 5, 6, 7, 8, 9] rfl rfl (by decide +kernel) rfl rfl rfl ⟨rfl, rfl⟩ ⟨by decide, by decide⟩ (Nat.le_of_ble_eq_true rfl) ⟨by decide, by decide⟩ rfl (fun v w' hp => ?_)
    obtain ⟨rfl, rfl⟩ := hp
    refine J.sub (ws' := rmW D aρ ρ) [0, 1, 2, 3, 9, 4, 5, 6, 7, 8, 10] rfl (by decide +kernel) ?_
    refine r_istore_n (lv' := [(2, .int z3), (1, .int u2), (0, .ref (aρ 0))]) h rfl dX1_whyNotBackOut_31 (by decide) rfl ?_
    refine r_aload_n h 2 rfl rfl dX1_whyNotBackOut_32 ?_
    refine r_get h fl_X1_26 0 rfl rfl dX1_whyNotBackOut_33 ?_
    refine r_iload_n h 1 rfl rfl dX1_whyNotBackOut_36 ?_
    refine r_iconst (v := 1) h dX1_whyNotBackOut_37 (by decide) ?_
    obtain ⟨z5, e6, hF⟩ := o_bind hF
    refine r_callV (q0 := 0) (wr := w_pk (rmW D aρ ρ) [0, 1, 2, 3, 5, 6, 7, 8, 9]) (rest := []) h hd_X2_at wm_144 dX1_whyNotBackOut_38 (CX2_at l D (aρ 4) (aρ 10) (20 : Int32) (4 : Int32) 80 (ρ.2.2.2.2.2.2.2.2.2.1, ρ.2.2.2.1) u2 (1 : Int32) z5 e6) [4, 10] [0, 1, 2, 3, 5, 6, 7, 8, 9] rfl rfl (by decide +kernel) rfl rfl rfl ⟨rfl, rfl⟩ ⟨by decide, by decide⟩ (Nat.le_of_ble_eq_true rfl) ⟨by decide, by decide⟩ rfl (fun v w' hp => ?_)
    obtain ⟨rfl, rfl⟩ := hp
    refine J.sub (ws' := rmW D aρ ρ) [0, 1, 2, 3, 9, 4, 5, 6, 7, 8, 10] rfl (by decide +kernel) ?_
    refine r_istore_n (lv' := [(3, .int z5), (2, .int z3), (1, .int u2), (0, .ref (aρ 0))]) h rfl dX1_whyNotBackOut_41 (by decide) rfl ?_
    refine r_aload_n h 3 rfl rfl dX1_whyNotBackOut_42 ?_
    refine r_get h fl_X1_26 0 rfl rfl dX1_whyNotBackOut_43 ?_
    refine r_iload_n h 2 rfl rfl dX1_whyNotBackOut_46 ?_
    refine r_iconst (v := 2) h dX1_whyNotBackOut_47 (by decide) ?_
    obtain ⟨z7, e8, hF⟩ := o_bind hF
    refine r_callV (q0 := 0) (wr := w_pk (rmW D aρ ρ) [0, 1, 2, 3, 5, 6, 7, 8, 9]) (rest := []) h hd_X2_at wm_144 dX1_whyNotBackOut_48 (CX2_at l D (aρ 4) (aρ 10) (20 : Int32) (4 : Int32) 80 (ρ.2.2.2.2.2.2.2.2.2.1, ρ.2.2.2.1) u2 (2 : Int32) z7 e8) [4, 10] [0, 1, 2, 3, 5, 6, 7, 8, 9] rfl rfl (by decide +kernel) rfl rfl rfl ⟨rfl, rfl⟩ ⟨by decide, by decide⟩ (Nat.le_of_ble_eq_true rfl) ⟨by decide, by decide⟩ rfl (fun v w' hp => ?_)
    obtain ⟨rfl, rfl⟩ := hp
    refine J.sub (ws' := rmW D aρ ρ) [0, 1, 2, 3, 9, 4, 5, 6, 7, 8, 10] rfl (by decide +kernel) ?_
    refine r_istore (lv' := [(4, .int z7), (3, .int z5), (2, .int z3), (1, .int u2), (0, .ref (aρ 0))]) h dX1_whyNotBackOut_51 (by decide) rfl ?_
    refine r_aload_n h 4 rfl rfl dX1_whyNotBackOut_53 ?_
    refine r_iload_n h 2 rfl rfl dX1_whyNotBackOut_54 ?_
    obtain ⟨z9, e10, hF⟩ := o_bind hF
    refine r_callVa (q0 := 0) (rest := []) h hd_X1_isFrozen wm_148 dX1_whyNotBackOut_55 (CX1_isFrozen l D aρ ρ z3 z9 e10) rfl rfl rfl ⟨rfl, rfl⟩ ⟨by decide, by decide⟩ (Nat.le_of_ble_eq_true rfl) ⟨by decide, by decide⟩ rfl (fun v w' hp => ?_)
    obtain ⟨rfl, rfl⟩ := hp
    refine r_if_eq h 63 dX1_whyNotBackOut_58 (by decide) (fun c11 => ?_) (fun c11 => ?_)
    · replace hF := o_pos c11 hF
      refine r_iload_n h 1 rfl rfl dX1_whyNotBackOut_63 ?_
      refine r_iconst (v := -1) h dX1_whyNotBackOut_64 (by decide) ?_
      refine r_icmp_eq h 91 dX1_whyNotBackOut_65 (by decide) (fun c12 => ?_) (fun c12 => ?_)
      · replace hF := o_pos c12 hF
        refine r_aload_n h 4 rfl rfl dX1_whyNotBackOut_91 ?_
        refine r_iload_n h 2 rfl rfl dX1_whyNotBackOut_92 ?_
        refine r_iload_n h 1 rfl rfl dX1_whyNotBackOut_93 ?_
        refine r_iload h 0 rfl dX1_whyNotBackOut_94 ?_
        refine r_aload_n h 4 rfl rfl dX1_whyNotBackOut_96 ?_
        refine r_get h fl_X1_26 0 rfl rfl dX1_whyNotBackOut_97 ?_
        refine r_iload_n h 3 rfl rfl dX1_whyNotBackOut_100 ?_
        refine r_iconst (v := 3) h dX1_whyNotBackOut_101 (by decide) ?_
        obtain ⟨z13, e14, hF⟩ := o_bind hF
        refine r_callV (q0 := 0) (wr := w_pk (rmW D aρ ρ) [0, 1, 2, 3, 5, 6, 7, 8, 9]) (rest := [.int z7, .int z5, .int z3, .ref (aρ 0)]) h hd_X2_at wm_144 dX1_whyNotBackOut_102 (CX2_at l D (aρ 4) (aρ 10) (20 : Int32) (4 : Int32) 80 (ρ.2.2.2.2.2.2.2.2.2.1, ρ.2.2.2.1) u2 (3 : Int32) z13 e14) [4, 10] [0, 1, 2, 3, 5, 6, 7, 8, 9] rfl rfl (by decide +kernel) rfl rfl rfl ⟨rfl, rfl⟩ ⟨by decide, by decide⟩ (Nat.le_of_ble_eq_true rfl) ⟨by decide, by decide⟩ rfl (fun v w' hp => ?_)
        obtain ⟨rfl, rfl⟩ := hp
        refine J.sub (ws' := rmW D aρ ρ) [0, 1, 2, 3, 9, 4, 5, 6, 7, 8, 10] rfl (by decide +kernel) ?_
        obtain ⟨z15, e16, hF⟩ := o_bind hF
        refine r_callVa (q0 := 0) (rest := []) h hd_X1_firstWrongWith wm_160 dX1_whyNotBackOut_105 (CX1_firstWrongWith l D aρ ρ z3 z5 z7 z13 z15.1 z15.2 e16) rfl rfl rfl ⟨rfl, rfl⟩ ⟨by decide, by decide⟩ (Nat.le_of_ble_eq_true rfl) ⟨by decide, by decide⟩ rfl (fun v w' hp => ?_)
        obtain ⟨rfl, rfl⟩ := hp
        cases hF
        exact r_iret h hr dX1_whyNotBackOut_108 ⟨rfl, rfl⟩
      · replace hF := o_neg c12 hF
        refine r_aload_n h 4 rfl rfl dX1_whyNotBackOut_68 ?_
        refine r_iload_n h 1 rfl rfl dX1_whyNotBackOut_69 ?_
        refine r_iload h 0 rfl dX1_whyNotBackOut_70 ?_
        refine r_aload_n h 4 rfl rfl dX1_whyNotBackOut_72 ?_
        refine r_get h fl_X1_14 0 rfl rfl dX1_whyNotBackOut_73 ?_
        refine r_iload_n h 2 rfl rfl dX1_whyNotBackOut_76 ?_
        refine r_iconst (v := 0) h dX1_whyNotBackOut_77 (by decide) ?_
        obtain ⟨z17, e18, hF⟩ := o_bind hF
        refine r_callV (q0 := 0) (wr := w_pk (rmW D aρ ρ) [0, 2, 3, 4, 5, 6, 8, 9, 10]) (rest := [.int z7, .int z5, .ref (aρ 0)]) h hd_X2_at wm_144 dX1_whyNotBackOut_78 (CX2_at l D (aρ 1) (aρ 7) (12 : Int32) (6 : Int32) 72 (ρ.2.2.2.2.2.2.1, ρ.1) z3 (0 : Int32) z17 e18) [1, 7] [0, 2, 3, 4, 5, 6, 8, 9, 10] rfl rfl (by decide +kernel) rfl rfl rfl ⟨rfl, rfl⟩ ⟨by decide, by decide⟩ (Nat.le_of_ble_eq_true rfl) ⟨by decide, by decide⟩ rfl (fun v w' hp => ?_)
        obtain ⟨rfl, rfl⟩ := hp
        refine J.sub (ws' := rmW D aρ ρ) [0, 9, 1, 2, 3, 4, 5, 10, 6, 7, 8] rfl (by decide +kernel) ?_
        refine r_iload_n h 2 rfl rfl dX1_whyNotBackOut_81 ?_
        obtain ⟨z19, e20, hF⟩ := o_bind hF
        refine r_callVa (q0 := 0) (rest := []) h hd_X1_machineWithin wm_152 dX1_whyNotBackOut_82 (CX1_machineWithin l D aρ ρ z5 z7 z17 z3 z19 e20) rfl rfl rfl ⟨rfl, rfl⟩ ⟨by decide, by decide⟩ (Nat.le_of_ble_eq_true rfl) ⟨by decide, by decide⟩ rfl (fun v w' hp => ?_)
        obtain ⟨rfl, rfl⟩ := hp
        refine r_iconst (v := -1) h dX1_whyNotBackOut_85 (by decide) ?_
        refine r_icmp_eq h 91 dX1_whyNotBackOut_86 (by decide) (fun c21 => ?_) (fun c21 => ?_)
        · replace hF := o_pos c21 hF
          refine r_aload_n h 4 rfl rfl dX1_whyNotBackOut_91 ?_
          refine r_iload_n h 2 rfl rfl dX1_whyNotBackOut_92 ?_
          refine r_iload_n h 1 rfl rfl dX1_whyNotBackOut_93 ?_
          refine r_iload h 0 rfl dX1_whyNotBackOut_94 ?_
          refine r_aload_n h 4 rfl rfl dX1_whyNotBackOut_96 ?_
          refine r_get h fl_X1_26 0 rfl rfl dX1_whyNotBackOut_97 ?_
          refine r_iload_n h 3 rfl rfl dX1_whyNotBackOut_100 ?_
          refine r_iconst (v := 3) h dX1_whyNotBackOut_101 (by decide) ?_
          obtain ⟨z22, e23, hF⟩ := o_bind hF
          refine r_callV (q0 := 0) (wr := w_pk (rmW D aρ ρ) [0, 1, 2, 3, 5, 6, 7, 8, 9]) (rest := [.int z7, .int z5, .int z3, .ref (aρ 0)]) h hd_X2_at wm_144 dX1_whyNotBackOut_102 (CX2_at l D (aρ 4) (aρ 10) (20 : Int32) (4 : Int32) 80 (ρ.2.2.2.2.2.2.2.2.2.1, ρ.2.2.2.1) u2 (3 : Int32) z22 e23) [4, 10] [0, 1, 2, 3, 5, 6, 7, 8, 9] rfl rfl (by decide +kernel) rfl rfl rfl ⟨rfl, rfl⟩ ⟨by decide, by decide⟩ (Nat.le_of_ble_eq_true rfl) ⟨by decide, by decide⟩ rfl (fun v w' hp => ?_)
          obtain ⟨rfl, rfl⟩ := hp
          refine J.sub (ws' := rmW D aρ ρ) [0, 1, 2, 3, 9, 4, 5, 6, 7, 8, 10] rfl (by decide +kernel) ?_
          obtain ⟨z24, e25, hF⟩ := o_bind hF
          refine r_callVa (q0 := 0) (rest := []) h hd_X1_firstWrongWith wm_160 dX1_whyNotBackOut_105 (CX1_firstWrongWith l D aρ ρ z3 z5 z7 z22 z24.1 z24.2 e25) rfl rfl rfl ⟨rfl, rfl⟩ ⟨by decide, by decide⟩ (Nat.le_of_ble_eq_true rfl) ⟨by decide, by decide⟩ rfl (fun v w' hp => ?_)
          obtain ⟨rfl, rfl⟩ := hp
          cases hF
          exact r_iret h hr dX1_whyNotBackOut_108 ⟨rfl, rfl⟩
        · replace hF := o_neg c21 hF
          refine r_iconst (v := 3) h dX1_whyNotBackOut_89 (by decide) ?_
          cases hF
          exact r_iret h hr dX1_whyNotBackOut_90 ⟨rfl, rfl⟩
    · replace hF := o_neg c11 hF
      refine r_iconst (v := 1) h dX1_whyNotBackOut_61 (by decide) ?_
      cases hF
      exact r_iret h hr dX1_whyNotBackOut_62 ⟨rfl, rfl⟩
  · replace hF := o_pos c1 hF
    refine r_iconst (v := 2) h dX1_whyNotBackOut_10 (by decide) ?_
    cases hF
    exact r_iret h hr dX1_whyNotBackOut_11 ⟨rfl, rfl⟩

def FX1_doBackOut (ρ : RS) : Option (RS) :=
  nmv (ρ.2.2.2.2.2.2.2.2.2.1 - (1 : Int32)) fun u1 =>
  (FX2_at (20 : Int32) (4 : Int32) 80 (ρ.2.2.2.2.2.2.2.2.2.1, ρ.2.2.2.1) u1 (0 : Int32)).bind fun z2 =>
  (FX2_at (20 : Int32) (4 : Int32) 80 (ρ.2.2.2.2.2.2.2.2.2.1, ρ.2.2.2.1) u1 (1 : Int32)).bind fun z4 =>
  (FX2_at (20 : Int32) (4 : Int32) 80 (ρ.2.2.2.2.2.2.2.2.2.1, ρ.2.2.2.1) u1 (2 : Int32)).bind fun z6 =>
  (FX2_at (20 : Int32) (4 : Int32) 80 (ρ.2.2.2.2.2.2.2.2.2.1, ρ.2.2.2.1) u1 (3 : Int32)).bind fun z8 =>
  (FX1_place ρ z2 z4 z6 z8).bind fun z10 =>
  (FX2_removeRow (20 : Int32) (4 : Int32) 80 (z10.2.2.2.2.2.2.2.2.2.1, z10.2.2.2.1) u1).bind fun z12 =>
  nmv (z10.2.2.2.2.2.2.2.2.2.2.2.2.2 + (1 : Int32)) fun u14 =>
  some (z10.1, z10.2.1, z10.2.2.1, z12.2, z10.2.2.2.2.1, z10.2.2.2.2.2.1, z10.2.2.2.2.2.2.1, z10.2.2.2.2.2.2.2.1, z10.2.2.2.2.2.2.2.2.1, z12.1, z10.2.2.2.2.2.2.2.2.2.2.1, z10.2.2.2.2.2.2.2.2.2.2.2.1, z10.2.2.2.2.2.2.2.2.2.2.2.2.1, u14)
abbrev rmX1_doBackOut : Room := { frames := 2, cells := 0, slots := 0, locals := 47 }
set_option maxHeartbeats 4000000 in
set_option maxRecDepth 100000 in
theorem CX1_doBackOut (l : Launch) (D : va_G) (aρ : Nat → Nat) (ρ : RS) (ρ0 : RS) (hF : FX1_doBackOut ρ = some ρ0) : Ct l D yX1_doBackOut cX1_doBackOut 3 none rmX1_doBackOut 0 0 [.ref (aρ 0)] (rmW D aρ ρ) (fun v w => v = none ∧ w = rmW D aρ ρ0) := by
  refine Ct.of (own := RX1) (lv := [(0, .ref (aρ 0))]) (by decide +kernel) rfl (Nat.le_of_ble_eq_true rfl) rfl (fun X h hr => ?_)
  unfold FX1_doBackOut at hF
  refine r_aload_n h 0 rfl rfl dX1_doBackOut_0 ?_
  refine r_get h fl_X1_26 0 rfl rfl dX1_doBackOut_1 ?_
  refine r_get h fl_X1_63 4 rfl rfl dX1_doBackOut_4 ?_
  refine r_iconst (v := 1) h dX1_doBackOut_7 (by decide) ?_
  refine r_isub h dX1_doBackOut_8 ?_
  obtain ⟨u1, hu1, hF⟩ := o_nm hF
  refine J.top hu1 ?_
  refine r_istore_n (lv' := [(1, .int u1), (0, .ref (aρ 0))]) h rfl dX1_doBackOut_9 (by decide) rfl ?_
  refine r_aload_n h 1 rfl rfl dX1_doBackOut_10 ?_
  refine r_get h fl_X1_26 0 rfl rfl dX1_doBackOut_11 ?_
  refine r_iload_n h 0 rfl rfl dX1_doBackOut_14 ?_
  refine r_iconst (v := 0) h dX1_doBackOut_15 (by decide) ?_
  obtain ⟨z2, e3, hF⟩ := o_bind hF
  refine r_callV (q0 := 0) (wr := w_pk (rmW D aρ ρ) [0, 1, 2, 3, 5, 6, 7, 8, 9]) (rest := []) h hd_X2_at wm_144 dX1_doBackOut_16 (CX2_at l D (aρ 4) (aρ 10) (20 : Int32) (4 : Int32) 80 (ρ.2.2.2.2.2.2.2.2.2.1, ρ.2.2.2.1) u1 (0 : Int32) z2 e3) [4, 10] [0, 1, 2, 3, 5, 6, 7, 8, 9] rfl rfl (by decide +kernel) rfl rfl rfl ⟨rfl, rfl⟩ ⟨by decide, by decide⟩ (Nat.le_of_ble_eq_true rfl) ⟨by decide, by decide⟩ rfl (fun v w' hp => ?_)
  obtain ⟨rfl, rfl⟩ := hp
  refine J.sub (ws' := rmW D aρ ρ) [0, 1, 2, 3, 9, 4, 5, 6, 7, 8, 10] rfl (by decide +kernel) ?_
  refine r_istore_n (lv' := [(2, .int z2), (1, .int u1), (0, .ref (aρ 0))]) h rfl dX1_doBackOut_19 (by decide) rfl ?_
  refine r_aload_n h 2 rfl rfl dX1_doBackOut_20 ?_
  refine r_iload_n h 0 rfl rfl dX1_doBackOut_21 ?_
  refine r_aload_n h 2 rfl rfl dX1_doBackOut_22 ?_
  refine r_get h fl_X1_26 0 rfl rfl dX1_doBackOut_23 ?_
  refine r_iload_n h 1 rfl rfl dX1_doBackOut_26 ?_
  refine r_iconst (v := 1) h dX1_doBackOut_27 (by decide) ?_
  obtain ⟨z4, e5, hF⟩ := o_bind hF
  refine r_callV (q0 := 0) (wr := w_pk (rmW D aρ ρ) [0, 1, 2, 3, 5, 6, 7, 8, 9]) (rest := [.int z2, .ref (aρ 0)]) h hd_X2_at wm_144 dX1_doBackOut_28 (CX2_at l D (aρ 4) (aρ 10) (20 : Int32) (4 : Int32) 80 (ρ.2.2.2.2.2.2.2.2.2.1, ρ.2.2.2.1) u1 (1 : Int32) z4 e5) [4, 10] [0, 1, 2, 3, 5, 6, 7, 8, 9] rfl rfl (by decide +kernel) rfl rfl rfl ⟨rfl, rfl⟩ ⟨by decide, by decide⟩ (Nat.le_of_ble_eq_true rfl) ⟨by decide, by decide⟩ rfl (fun v w' hp => ?_)
  obtain ⟨rfl, rfl⟩ := hp
  refine J.sub (ws' := rmW D aρ ρ) [0, 1, 2, 3, 9, 4, 5, 6, 7, 8, 10] rfl (by decide +kernel) ?_
  refine r_aload_n h 2 rfl rfl dX1_doBackOut_31 ?_
  refine r_get h fl_X1_26 0 rfl rfl dX1_doBackOut_32 ?_
  refine r_iload_n h 1 rfl rfl dX1_doBackOut_35 ?_
  refine r_iconst (v := 2) h dX1_doBackOut_36 (by decide) ?_
  obtain ⟨z6, e7, hF⟩ := o_bind hF
  refine r_callV (q0 := 0) (wr := w_pk (rmW D aρ ρ) [0, 1, 2, 3, 5, 6, 7, 8, 9]) (rest := [.int z4, .int z2, .ref (aρ 0)]) h hd_X2_at wm_144 dX1_doBackOut_37 (CX2_at l D (aρ 4) (aρ 10) (20 : Int32) (4 : Int32) 80 (ρ.2.2.2.2.2.2.2.2.2.1, ρ.2.2.2.1) u1 (2 : Int32) z6 e7) [4, 10] [0, 1, 2, 3, 5, 6, 7, 8, 9] rfl rfl (by decide +kernel) rfl rfl rfl ⟨rfl, rfl⟩ ⟨by decide, by decide⟩ (Nat.le_of_ble_eq_true rfl) ⟨by decide, by decide⟩ rfl (fun v w' hp => ?_)
  obtain ⟨rfl, rfl⟩ := hp
  refine J.sub (ws' := rmW D aρ ρ) [0, 1, 2, 3, 9, 4, 5, 6, 7, 8, 10] rfl (by decide +kernel) ?_
  refine r_aload_n h 2 rfl rfl dX1_doBackOut_40 ?_
  refine r_get h fl_X1_26 0 rfl rfl dX1_doBackOut_41 ?_
  refine r_iload_n h 1 rfl rfl dX1_doBackOut_44 ?_
  refine r_iconst (v := 3) h dX1_doBackOut_45 (by decide) ?_
  obtain ⟨z8, e9, hF⟩ := o_bind hF
  refine r_callV (q0 := 0) (wr := w_pk (rmW D aρ ρ) [0, 1, 2, 3, 5, 6, 7, 8, 9]) (rest := [.int z6, .int z4, .int z2, .ref (aρ 0)]) h hd_X2_at wm_144 dX1_doBackOut_46 (CX2_at l D (aρ 4) (aρ 10) (20 : Int32) (4 : Int32) 80 (ρ.2.2.2.2.2.2.2.2.2.1, ρ.2.2.2.1) u1 (3 : Int32) z8 e9) [4, 10] [0, 1, 2, 3, 5, 6, 7, 8, 9] rfl rfl (by decide +kernel) rfl rfl rfl ⟨rfl, rfl⟩ ⟨by decide, by decide⟩ (Nat.le_of_ble_eq_true rfl) ⟨by decide, by decide⟩ rfl (fun v w' hp => ?_)
  obtain ⟨rfl, rfl⟩ := hp
  refine J.sub (ws' := rmW D aρ ρ) [0, 1, 2, 3, 9, 4, 5, 6, 7, 8, 10] rfl (by decide +kernel) ?_
  obtain ⟨z10, e11, hF⟩ := o_bind hF
  refine r_callVa (q0 := 0) (rest := []) h hd_X1_place wm_164 dX1_doBackOut_49 (CX1_place l D aρ ρ z2 z4 z6 z8 z10 e11) rfl rfl rfl ⟨rfl, rfl⟩ ⟨by decide, by decide⟩ (Nat.le_of_ble_eq_true rfl) ⟨by decide, by decide⟩ rfl (fun v w' hp => ?_)
  obtain ⟨rfl, rfl⟩ := hp
  refine r_aload_n h 2 rfl rfl dX1_doBackOut_52 ?_
  refine r_get h fl_X1_26 0 rfl rfl dX1_doBackOut_53 ?_
  refine r_iload_n h 1 rfl rfl dX1_doBackOut_56 ?_
  obtain ⟨z12, e13, hF⟩ := o_bind hF
  refine r_callV (q0 := 0) (wr := w_pk (rmW D aρ z10) [0, 1, 2, 3, 5, 6, 7, 8, 9]) (rest := []) h hd_X2_removeRow wm_229 dX1_doBackOut_57 (CX2_removeRow l D (aρ 4) (aρ 10) (20 : Int32) (4 : Int32) 80 (z10.2.2.2.2.2.2.2.2.2.1, z10.2.2.2.1) u1 z12 e13) [4, 10] [0, 1, 2, 3, 5, 6, 7, 8, 9] rfl rfl (by decide +kernel) rfl rfl rfl ⟨rfl, rfl⟩ ⟨by decide, by decide⟩ (Nat.le_of_ble_eq_true rfl) ⟨by decide, by decide⟩ rfl (fun v w' hp => ?_)
  obtain ⟨rfl, rfl⟩ := hp
  refine J.sub (ws' := rmW D aρ (z10.1, z10.2.1, z10.2.2.1, z12.2, z10.2.2.2.2.1, z10.2.2.2.2.2.1, z10.2.2.2.2.2.2.1, z10.2.2.2.2.2.2.2.1, z10.2.2.2.2.2.2.2.2.1, z12.1, z10.2.2.2.2.2.2.2.2.2.2.1, z10.2.2.2.2.2.2.2.2.2.2.2.1, z10.2.2.2.2.2.2.2.2.2.2.2.2.1, z10.2.2.2.2.2.2.2.2.2.2.2.2.2)) [0, 1, 2, 3, 9, 4, 5, 6, 7, 8, 10] rfl (by decide +kernel) ?_
  refine r_aload_n h 2 rfl rfl dX1_doBackOut_60 ?_
  refine r_dup h rfl dX1_doBackOut_61 ?_
  refine r_get h fl_X1_46 0 rfl rfl dX1_doBackOut_62 ?_
  refine r_iconst (v := 1) h dX1_doBackOut_65 (by decide) ?_
  refine r_iadd h dX1_doBackOut_66 ?_
  obtain ⟨u14, hu14, hF⟩ := o_nm hF
  refine J.top hu14 ?_
  refine r_put (ws' := rmW D aρ (z10.1, z10.2.1, z10.2.2.1, z12.2, z10.2.2.2.2.1, z10.2.2.2.2.2.1, z10.2.2.2.2.2.2.1, z10.2.2.2.2.2.2.2.1, z10.2.2.2.2.2.2.2.2.1, z12.1, z10.2.2.2.2.2.2.2.2.2.2.1, z10.2.2.2.2.2.2.2.2.2.2.2.1, z10.2.2.2.2.2.2.2.2.2.2.2.2.1, u14)) h fp_X1_46 0 rfl (Nat.le_of_ble_eq_true rfl) rfl rfl rfl dX1_doBackOut_67 ?_
  cases hF
  exact r_vret h hr dX1_doBackOut_70 ⟨rfl, rfl⟩


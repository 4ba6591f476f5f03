theorem ff_X0_24 : FPk RX0 24 0 2 (.object "RackMoves$Table") true := ⟨_, _, _, tyX0, rfl, by decide, wsin_0, wm_106, tyX0_ok, nmX0, by decide +kernel, by decide +kernel, by decide +kernel⟩
theorem ff_X0_9 : FPk RX0 9 0 0 (.array .int) true := ⟨_, _, _, tyX0, rfl, by decide, wsin_0, wm_102, tyX0_ok, nmX0, by decide +kernel, by decide +kernel, by decide +kernel⟩
theorem ff_X1_14 : FPk RX1 14 1 0 (.object "RackMoves$Table") true := ⟨_, _, _, tyX1, rfl, by decide, wsin_1, wm_51, tyX1_ok, nmX1, by decide +kernel, by decide +kernel, by decide +kernel⟩
theorem ff_X1_20 : FPk RX1 20 1 1 (.object "RackMoves$Table") true := ⟨_, _, _, tyX1, rfl, by decide, wsin_1, wm_53, tyX1_ok, nmX1, by decide +kernel, by decide +kernel, by decide +kernel⟩
theorem ff_X1_23 : FPk RX1 23 1 2 (.object "RackMoves$Table") true := ⟨_, _, _, tyX1, rfl, by decide, wsin_1, wm_55, tyX1_ok, nmX1, by decide +kernel, by decide +kernel, by decide +kernel⟩
theorem ff_X1_26 : FPk RX1 26 1 3 (.object "RackMoves$Table") true := ⟨_, _, _, tyX1, rfl, by decide, wsin_1, wm_57, tyX1_ok, nmX1, by decide +kernel, by decide +kernel, by decide +kernel⟩
theorem ff_X1_29 : FPk RX1 29 1 4 (.array .int) true := ⟨_, _, _, tyX1, rfl, by decide, wsin_1, wm_59, tyX1_ok, nmX1, by decide +kernel, by decide +kernel, by decide +kernel⟩
theorem ff_X1_33 : FPk RX1 33 1 5 (.array .int) true := ⟨_, _, _, tyX1, rfl, by decide, wsin_1, wm_61, tyX1_ok, nmX1, by decide +kernel, by decide +kernel, by decide +kernel⟩
theorem ff_X3_19 : FPk RX3 19 3 2 (.array (.object "RackMoves$Room")) true := ⟨_, _, _, tyX3, rfl, by decide, wsin_3, wm_122, tyX3_ok, nmX3, by decide +kernel, by decide +kernel, by decide +kernel⟩
theorem ff_X3_30 : FPk RX3 30 3 4 (.object "RackMoves$PlanText") true := ⟨_, _, _, tyX3, rfl, by decide, wsin_3, wm_124, tyX3_ok, nmX3, by decide +kernel, by decide +kernel, by decide +kernel⟩
theorem ff_X4_13 : FPk RX4 13 4 1 (.array .int) true := ⟨_, _, _, tyX4, rfl, by decide, wsin_4, wm_705, tyX4_ok, nmX4, by decide +kernel, by decide +kernel, by decide +kernel⟩
theorem ff_X4_16 : FPk RX4 16 4 2 (.array .int) true := ⟨_, _, _, tyX4, rfl, by decide, wsin_4, wm_706, tyX4_ok, nmX4, by decide +kernel, by decide +kernel, by decide +kernel⟩
theorem ff_X4_19 : FPk RX4 19 4 3 (.array .int) true := ⟨_, _, _, tyX4, rfl, by decide, wsin_4, wm_707, tyX4_ok, nmX4, by decide +kernel, by decide +kernel, by decide +kernel⟩
theorem ff_X4_22 : FPk RX4 22 4 6 (.array .int) true := ⟨_, _, _, tyX4, rfl, by decide, wsin_4, wm_710, tyX4_ok, nmX4, by decide +kernel, by decide +kernel, by decide +kernel⟩
theorem ff_X4_7 : FPk RX4 7 4 0 (.array .int) true := ⟨_, _, _, tyX4, rfl, by decide, wsin_4, wm_704, tyX4_ok, nmX4, by decide +kernel, by decide +kernel, by decide +kernel⟩
theorem gfp_X0_15 : FPk RX0 15 0 1 .int false := ⟨_, _, _, tyX0, rfl, by decide, wsin_0, wm_104, tyX0_ok, nmX0, by decide +kernel, by decide +kernel, by decide +kernel⟩
theorem gfp_X0_28 : FPk RX0 28 0 3 .int false := ⟨_, _, _, tyX0, rfl, by decide, wsin_0, wm_107, tyX0_ok, nmX0, by decide +kernel, by decide +kernel, by decide +kernel⟩
theorem gfp_X0_31 : FPk RX0 31 0 4 .int false := ⟨_, _, _, tyX0, rfl, by decide, wsin_0, wm_108, tyX0_ok, nmX0, by decide +kernel, by decide +kernel, by decide +kernel⟩
theorem gfp_X1_36 : FPk RX1 36 1 6 .int false := ⟨_, _, _, tyX1, rfl, by decide, wsin_1, wm_63, tyX1_ok, nmX1, by decide +kernel, by decide +kernel, by decide +kernel⟩
theorem gfp_X1_40 : FPk RX1 40 1 7 .int false := ⟨_, _, _, tyX1, rfl, by decide, wsin_1, wm_65, tyX1_ok, nmX1, by decide +kernel, by decide +kernel, by decide +kernel⟩
theorem gfp_X1_43 : FPk RX1 43 1 8 .int false := ⟨_, _, _, tyX1, rfl, by decide, wsin_1, wm_68, tyX1_ok, nmX1, by decide +kernel, by decide +kernel, by decide +kernel⟩
theorem gfp_X1_46 : FPk RX1 46 1 9 .int false := ⟨_, _, _, tyX1, rfl, by decide, wsin_1, wm_70, tyX1_ok, nmX1, by decide +kernel, by decide +kernel, by decide +kernel⟩
theorem gfp_X3_12 : FPk RX3 12 3 0 (.object "RackMoves$Room") false := ⟨_, _, _, tyX3, rfl, by decide, wsin_3, wm_120, tyX3_ok, nmX3, by decide +kernel, by decide +kernel, by decide +kernel⟩
theorem gfp_X3_16 : FPk RX3 16 3 1 (.object "RackMoves$Room") false := ⟨_, _, _, tyX3, rfl, by decide, wsin_3, wm_121, tyX3_ok, nmX3, by decide +kernel, by decide +kernel, by decide +kernel⟩
theorem gfp_X3_23 : FPk RX3 23 3 3 .int false := ⟨_, _, _, tyX3, rfl, by decide, wsin_3, wm_123, tyX3_ok, nmX3, by decide +kernel, by decide +kernel, by decide +kernel⟩
theorem ff_X2_15 : FPk RX2 15 2 0 .int true := ⟨_, _, _, tyX2, rfl, by decide, wsin_2, wm_34, tyX2_ok, nmX2, by decide +kernel, by decide +kernel, by decide +kernel⟩
theorem ff_X2_18 : FPk RX2 18 2 1 .int true := ⟨_, _, _, tyX2, rfl, by decide, wsin_2, wm_35, tyX2_ok, nmX2, by decide +kernel, by decide +kernel, by decide +kernel⟩
theorem ff_X2_21 : FPk RX2 21 2 2 (.array .int) true := ⟨_, _, _, tyX2, rfl, by decide, wsin_2, wm_36, tyX2_ok, nmX2, by decide +kernel, by decide +kernel, by decide +kernel⟩
set_option maxHeartbeats 4000000 in
set_option maxRecDepth 100000 in
theorem CX2_init (l : Launch) (D : va_G) (a : Nat) (m c : Int32) (N : Nat) (h0 : ¬ m * c < 0) (hN : (m * c).toNatClampNeg = N) (h4 : N * 4 ≤ 536870912) : Ct l D yX2_init cX2_init 3 none { frames := 1, cells := 1, slots := N, locals := 20 } 1 N [.ref a, .int m, .int c] [(a, .inr (2, [.int 0, .int 0, .null, .int 0]))] (fun v w => v = none ∧ ∃ b : Nat, w = tbW D a b m c N (0, fun _ => 0)) := by
  refine Ct.ofI (own := RX2) (lv := [(0, .ref a), (1, .int m), (2, .int c)]) (by decide +kernel) rfl rfl (Nat.le_of_ble_eq_true rfl) rfl (fun X h hI hr => ?_)
  refine r_aload_n h 0 rfl rfl dX2_init_0 ?_
  refine r_objInit h wm_33 wm_oI wm_oC dX2_init_1 (Nat.le_refl 1) (Nat.le_of_ble_eq_true rfl) ?_
  refine r_aload_n h 0 rfl rfl dX2_init_4 ?_
  refine r_iconst (v := 0) h dX2_init_5 (by decide) ?_
  refine r_put (ws' := [(a, .inr (2, [.int 0, .int 0, .null, .int 0]))]) h fp_X2_9 0 rfl (Nat.le_of_ble_eq_true rfl) rfl rfl rfl dX2_init_6 ?_
  refine r_aload_n h 0 rfl rfl dX2_init_9 ?_
  refine r_iload_n h 1 rfl rfl dX2_init_10 ?_
  refine r_putF (ws' := [(a, .inr (2, [.int m, .int 0, .null, .int 0]))]) h hI ff_X2_15 vwC2 0 rfl (Nat.le_of_ble_eq_true rfl) rfl rfl rfl dX2_init_11 ?_
  refine r_aload_n h 0 rfl rfl dX2_init_14 ?_
  refine r_iload_n h 2 rfl rfl dX2_init_15 ?_
  refine r_putF (ws' := [(a, .inr (2, [.int m, .int c, .null, .int 0]))]) h hI ff_X2_18 vwC2 0 rfl (Nat.le_of_ble_eq_true rfl) rfl rfl rfl dX2_init_16 ?_
  refine r_aload_n h 0 rfl rfl dX2_init_19 ?_
  refine r_iload_n h 1 rfl rfl dX2_init_20 ?_
  refine r_iload_n h 2 rfl rfl dX2_init_21 ?_
  refine r_imul h dX2_init_22 ?_
  refine r_newa (N' := N) h wm_aI h0 hN h4 ⟨Nat.le_refl 1, by show 0 + N ≤ N; omega⟩ dX2_init_23 (fun b => ?_)
  refine r_putF (ws' := tbW D a b m c N (0, fun _ => 0)) h hI ff_X2_21 vwC2 0 rfl (Nat.le_of_ble_eq_true rfl) rfl rfl rfl dX2_init_25 ?_
  refine J.widen (k1 := 1) (n1 := N) (by omega) (by omega) ?_
  exact r_vret h hr dX2_init_28 ⟨rfl, b, rfl⟩
def lim0 : Nat → Int32 := upd (upd (upd (upd (upd (upd (fun _ => 0) ((0 : Int32)).toNatClampNeg (200 : Int32)) ((1 : Int32)).toNatClampNeg (200 : Int32)) ((2 : Int32)).toNatClampNeg (200 : Int32)) ((3 : Int32)).toNatClampNeg (200 : Int32)) ((4 : Int32)).toNatClampNeg (200 : Int32)) ((5 : Int32)).toNatClampNeg (200 : Int32)
def tray0 : Nat → Int32 := upd (upd (upd (upd (upd (fun _ => 0) ((0 : Int32)).toNatClampNeg (4 : Int32)) ((1 : Int32)).toNatClampNeg (4 : Int32)) ((2 : Int32)).toNatClampNeg (4 : Int32)) ((3 : Int32)).toNatClampNeg (4 : Int32)) ((4 : Int32)).toNatClampNeg (4 : Int32)
def RS0 : RS := (fun _ => 0, fun _ => 0, fun _ => 0, fun _ => 0, lim0, tray0, 0, 0, 0, 0, 100, 0, 0, 0)
abbrev rmX1_init : Room := { frames := 2, cells := 10, slots := 227, locals := 60 }
set_option maxHeartbeats 4000000 in
set_option maxRecDepth 100000 in
theorem CX1_init (l : Launch) (D : va_G) (a : Nat) : Ct l D yX1_init cX1_init 2 none rmX1_init 10 227 [.ref a] [(a, .inr (1, [.null, .null, .null, .null, .null, .null, .int 0, .int 0, .int 0, .int 0]))] (fun v w => v = none ∧ ∃ r : Nat → Nat, r 0 = a ∧ w = rmW D r RS0) := by
  refine Ct.ofI (own := RX1) (lv := [(0, .ref a)]) (by decide +kernel) rfl rfl (Nat.le_of_ble_eq_true rfl) rfl (fun X h hI hr => ?_)
  refine r_aload_n h 0 rfl rfl dX1_init_0 ?_
  refine r_objInit h wm_27 wm_oI wm_oC dX1_init_1 (Nat.le_of_ble_eq_true rfl) (Nat.le_of_ble_eq_true rfl) ?_
  refine r_aload_n h 0 rfl rfl dX1_init_4 ?_
  refine r_new (ci := 2) (N := 4) (fs := [.int 0, .int 0, .null, .int 0]) h ⟨_, _, tyX2, rfl, wsin_2, tyX2_ok, wm_28, wm_29, wm_3, fun j hj => by rcases (show j = 0 ∨ j = 1 ∨ j = 2 ∨ j = 3 by omega) with rfl | rfl | rfl | rfl <;> rfl⟩ dX1_init_5 ⟨by decide, by decide⟩ (fun q1 => ?_)
  refine r_dup h rfl dX1_init_8 ?_
  refine r_bipush (v := 12) h dX1_init_9 (by decide) ?_
  refine r_bipush (v := 6) h dX1_init_11 (by decide) ?_
  refine r_callI (wr := ([(a, .inr (1, [.null, .null, .null, .null, .null, .null, .int 0, .int 0, .int 0, .int 0]))])) (rest := [.ref q1, .ref a]) h hdI_X2 wm_30 dX1_init_13 (CX2_init l D q1 (12 : Int32) (6 : Int32) 72 (by decide) (by decide) (by decide)) rfl ⟨rfl, rfl⟩ ⟨by decide, by decide⟩ (Nat.le_of_ble_eq_true rfl) ⟨by decide, by decide⟩ rfl rfl (fun v w' hp => ?_)
  obtain ⟨rfl, b2, rfl⟩ := hp
  refine r_putF (ws' := ([(a, .inr (1, [.ref q1, .null, .null, .null, .null, .null, .int 0, .int 0, .int 0, .int 0]))] ++ tbW D q1 b2 (12 : Int32) (6 : Int32) 72 (0, fun _ => 0))) h hI ff_X1_14 vwC1 0 rfl (Nat.le_of_ble_eq_true rfl) rfl rfl rfl dX1_init_16 ?_
  refine r_aload_n h 0 rfl rfl dX1_init_19 ?_
  refine r_new (ci := 2) (N := 4) (fs := [.int 0, .int 0, .null, .int 0]) h ⟨_, _, tyX2, rfl, wsin_2, tyX2_ok, wm_28, wm_29, wm_3, fun j hj => by rcases (show j = 0 ∨ j = 1 ∨ j = 2 ∨ j = 3 by omega) with rfl | rfl | rfl | rfl <;> rfl⟩ dX1_init_20 ⟨by decide, by decide⟩ (fun q3 => ?_)
  refine r_dup h rfl dX1_init_23 ?_
  refine r_bipush (v := 10) h dX1_init_24 (by decide) ?_
  refine r_iconst (v := 3) h dX1_init_26 (by decide) ?_
  refine r_callI (wr := ([(a, .inr (1, [.ref q1, .null, .null, .null, .null, .null, .int 0, .int 0, .int 0, .int 0]))] ++ tbW D q1 b2 (12 : Int32) (6 : Int32) 72 (0, fun _ => 0))) (rest := [.ref q3, .ref a]) h hdI_X2 wm_30 dX1_init_27 (CX2_init l D q3 (10 : Int32) (3 : Int32) 30 (by decide) (by decide) (by decide)) rfl ⟨rfl, rfl⟩ ⟨by decide, by decide⟩ (Nat.le_of_ble_eq_true rfl) ⟨by decide, by decide⟩ rfl rfl (fun v w' hp => ?_)
  obtain ⟨rfl, b4, rfl⟩ := hp
  refine r_putF (ws' := ([(a, .inr (1, [.ref q1, .ref q3, .null, .null, .null, .null, .int 0, .int 0, .int 0, .int 0]))] ++ tbW D q1 b2 (12 : Int32) (6 : Int32) 72 (0, fun _ => 0) ++ tbW D q3 b4 (10 : Int32) (3 : Int32) 30 (0, fun _ => 0))) h hI ff_X1_20 vwC1 0 rfl (Nat.le_of_ble_eq_true rfl) rfl rfl rfl dX1_init_30 ?_
  refine r_aload_n h 0 rfl rfl dX1_init_33 ?_
  refine r_new (ci := 2) (N := 4) (fs := [.int 0, .int 0, .null, .int 0]) h ⟨_, _, tyX2, rfl, wsin_2, tyX2_ok, wm_28, wm_29, wm_3, fun j hj => by rcases (show j = 0 ∨ j = 1 ∨ j = 2 ∨ j = 3 by omega) with rfl | rfl | rfl | rfl <;> rfl⟩ dX1_init_34 ⟨by decide, by decide⟩ (fun q5 => ?_)
  refine r_dup h rfl dX1_init_37 ?_
  refine r_bipush (v := 6) h dX1_init_38 (by decide) ?_
  refine r_iconst (v := 3) h dX1_init_40 (by decide) ?_
  refine r_callI (wr := ([(a, .inr (1, [.ref q1, .ref q3, .null, .null, .null, .null, .int 0, .int 0, .int 0, .int 0]))] ++ tbW D q1 b2 (12 : Int32) (6 : Int32) 72 (0, fun _ => 0) ++ tbW D q3 b4 (10 : Int32) (3 : Int32) 30 (0, fun _ => 0))) (rest := [.ref q5, .ref a]) h hdI_X2 wm_30 dX1_init_41 (CX2_init l D q5 (6 : Int32) (3 : Int32) 18 (by decide) (by decide) (by decide)) rfl ⟨rfl, rfl⟩ ⟨by decide, by decide⟩ (Nat.le_of_ble_eq_true rfl) ⟨by decide, by decide⟩ rfl rfl (fun v w' hp => ?_)
  obtain ⟨rfl, b6, rfl⟩ := hp
  refine r_putF (ws' := ([(a, .inr (1, [.ref q1, .ref q3, .ref q5, .null, .null, .null, .int 0, .int 0, .int 0, .int 0]))] ++ tbW D q1 b2 (12 : Int32) (6 : Int32) 72 (0, fun _ => 0) ++ tbW D q3 b4 (10 : Int32) (3 : Int32) 30 (0, fun _ => 0) ++ tbW D q5 b6 (6 : Int32) (3 : Int32) 18 (0, fun _ => 0))) h hI ff_X1_23 vwC1 0 rfl (Nat.le_of_ble_eq_true rfl) rfl rfl rfl dX1_init_44 ?_
  refine r_aload_n h 0 rfl rfl dX1_init_47 ?_
  refine r_new (ci := 2) (N := 4) (fs := [.int 0, .int 0, .null, .int 0]) h ⟨_, _, tyX2, rfl, wsin_2, tyX2_ok, wm_28, wm_29, wm_3, fun j hj => by rcases (show j = 0 ∨ j = 1 ∨ j = 2 ∨ j = 3 by omega) with rfl | rfl | rfl | rfl <;> rfl⟩ dX1_init_48 ⟨by decide, by decide⟩ (fun q7 => ?_)
  refine r_dup h rfl dX1_init_51 ?_
  refine r_bipush (v := 20) h dX1_init_52 (by decide) ?_
  refine r_iconst (v := 4) h dX1_init_54 (by decide) ?_
  refine r_callI (wr := ([(a, .inr (1, [.ref q1, .ref q3, .ref q5, .null, .null, .null, .int 0, .int 0, .int 0, .int 0]))] ++ tbW D q1 b2 (12 : Int32) (6 : Int32) 72 (0, fun _ => 0) ++ tbW D q3 b4 (10 : Int32) (3 : Int32) 30 (0, fun _ => 0) ++ tbW D q5 b6 (6 : Int32) (3 : Int32) 18 (0, fun _ => 0))) (rest := [.ref q7, .ref a]) h hdI_X2 wm_30 dX1_init_55 (CX2_init l D q7 (20 : Int32) (4 : Int32) 80 (by decide) (by decide) (by decide)) rfl ⟨rfl, rfl⟩ ⟨by decide, by decide⟩ (Nat.le_of_ble_eq_true rfl) ⟨by decide, by decide⟩ rfl rfl (fun v w' hp => ?_)
  obtain ⟨rfl, b8, rfl⟩ := hp
  refine r_putF (ws' := ([(a, .inr (1, [.ref q1, .ref q3, .ref q5, .ref q7, .null, .null, .int 0, .int 0, .int 0, .int 0]))] ++ tbW D q1 b2 (12 : Int32) (6 : Int32) 72 (0, fun _ => 0) ++ tbW D q3 b4 (10 : Int32) (3 : Int32) 30 (0, fun _ => 0) ++ tbW D q5 b6 (6 : Int32) (3 : Int32) 18 (0, fun _ => 0) ++ tbW D q7 b8 (20 : Int32) (4 : Int32) 80 (0, fun _ => 0))) h hI ff_X1_26 vwC1 0 rfl (Nat.le_of_ble_eq_true rfl) rfl rfl rfl dX1_init_58 ?_
  refine r_aload_n h 0 rfl rfl dX1_init_61 ?_
  refine r_bipush (v := 6) h dX1_init_62 (by decide) ?_
  refine r_newa (N' := 6) h wm_aI (by decide) (by decide) (by decide) ⟨by decide, by decide⟩ dX1_init_64 (fun q9 => ?_)
  refine r_putF (ws' := ([(a, .inr (1, [.ref q1, .ref q3, .ref q5, .ref q7, .ref q9, .null, .int 0, .int 0, .int 0, .int 0]))] ++ tbW D q1 b2 (12 : Int32) (6 : Int32) 72 (0, fun _ => 0) ++ tbW D q3 b4 (10 : Int32) (3 : Int32) 30 (0, fun _ => 0) ++ tbW D q5 b6 (6 : Int32) (3 : Int32) 18 (0, fun _ => 0) ++ tbW D q7 b8 (20 : Int32) (4 : Int32) 80 (0, fun _ => 0) ++ [(q9, .inl (D.1 100, 6, .inl (fun _ => 0)))])) h hI ff_X1_29 vwC1 0 rfl (Nat.le_of_ble_eq_true rfl) rfl rfl rfl dX1_init_66 ?_
  refine r_aload_n h 0 rfl rfl dX1_init_69 ?_
  refine r_iconst (v := 5) h dX1_init_70 (by decide) ?_
  refine r_newa (N' := 5) h wm_aI (by decide) (by decide) (by decide) ⟨by decide, by decide⟩ dX1_init_71 (fun q10 => ?_)
  refine r_putF (ws' := ([(a, .inr (1, [.ref q1, .ref q3, .ref q5, .ref q7, .ref q9, .ref q10, .int 0, .int 0, .int 0, .int 0]))] ++ tbW D q1 b2 (12 : Int32) (6 : Int32) 72 (0, fun _ => 0) ++ tbW D q3 b4 (10 : Int32) (3 : Int32) 30 (0, fun _ => 0) ++ tbW D q5 b6 (6 : Int32) (3 : Int32) 18 (0, fun _ => 0) ++ tbW D q7 b8 (20 : Int32) (4 : Int32) 80 (0, fun _ => 0) ++ [(q9, .inl (D.1 100, 6, .inl (fun _ => 0)))] ++ [(q10, .inl (D.1 100, 5, .inl (fun _ => 0)))])) h hI ff_X1_33 vwC1 0 rfl (Nat.le_of_ble_eq_true rfl) rfl rfl rfl dX1_init_73 ?_
  refine r_aload_n h 0 rfl rfl dX1_init_76 ?_
  refine r_bipush (v := 100) h dX1_init_77 (by decide) ?_
  refine r_put (ws' := ([(a, .inr (1, [.ref q1, .ref q3, .ref q5, .ref q7, .ref q9, .ref q10, .int (100 : Int32), .int 0, .int 0, .int 0]))] ++ tbW D q1 b2 (12 : Int32) (6 : Int32) 72 (0, fun _ => 0) ++ tbW D q3 b4 (10 : Int32) (3 : Int32) 30 (0, fun _ => 0) ++ tbW D q5 b6 (6 : Int32) (3 : Int32) 18 (0, fun _ => 0) ++ tbW D q7 b8 (20 : Int32) (4 : Int32) 80 (0, fun _ => 0) ++ [(q9, .inl (D.1 100, 6, .inl (fun _ => 0)))] ++ [(q10, .inl (D.1 100, 5, .inl (fun _ => 0)))])) h gfp_X1_36 0 rfl (Nat.le_of_ble_eq_true rfl) rfl rfl rfl dX1_init_79 ?_
  refine r_aload_n h 0 rfl rfl dX1_init_82 ?_
  refine r_iconst (v := 0) h dX1_init_83 (by decide) ?_
  refine r_put (ws' := ([(a, .inr (1, [.ref q1, .ref q3, .ref q5, .ref q7, .ref q9, .ref q10, .int (100 : Int32), .int (0 : Int32), .int 0, .int 0]))] ++ tbW D q1 b2 (12 : Int32) (6 : Int32) 72 (0, fun _ => 0) ++ tbW D q3 b4 (10 : Int32) (3 : Int32) 30 (0, fun _ => 0) ++ tbW D q5 b6 (6 : Int32) (3 : Int32) 18 (0, fun _ => 0) ++ tbW D q7 b8 (20 : Int32) (4 : Int32) 80 (0, fun _ => 0) ++ [(q9, .inl (D.1 100, 6, .inl (fun _ => 0)))] ++ [(q10, .inl (D.1 100, 5, .inl (fun _ => 0)))])) h gfp_X1_40 0 rfl (Nat.le_of_ble_eq_true rfl) rfl rfl rfl dX1_init_84 ?_
  refine r_aload_n h 0 rfl rfl dX1_init_87 ?_
  refine r_iconst (v := 0) h dX1_init_88 (by decide) ?_
  refine r_put (ws' := ([(a, .inr (1, [.ref q1, .ref q3, .ref q5, .ref q7, .ref q9, .ref q10, .int (100 : Int32), .int (0 : Int32), .int (0 : Int32), .int 0]))] ++ tbW D q1 b2 (12 : Int32) (6 : Int32) 72 (0, fun _ => 0) ++ tbW D q3 b4 (10 : Int32) (3 : Int32) 30 (0, fun _ => 0) ++ tbW D q5 b6 (6 : Int32) (3 : Int32) 18 (0, fun _ => 0) ++ tbW D q7 b8 (20 : Int32) (4 : Int32) 80 (0, fun _ => 0) ++ [(q9, .inl (D.1 100, 6, .inl (fun _ => 0)))] ++ [(q10, .inl (D.1 100, 5, .inl (fun _ => 0)))])) h gfp_X1_43 0 rfl (Nat.le_of_ble_eq_true rfl) rfl rfl rfl dX1_init_89 ?_
  refine r_aload_n h 0 rfl rfl dX1_init_92 ?_
  refine r_iconst (v := 0) h dX1_init_93 (by decide) ?_
  refine r_put (ws' := ([(a, .inr (1, [.ref q1, .ref q3, .ref q5, .ref q7, .ref q9, .ref q10, .int (100 : Int32), .int (0 : Int32), .int (0 : Int32), .int (0 : Int32)]))] ++ tbW D q1 b2 (12 : Int32) (6 : Int32) 72 (0, fun _ => 0) ++ tbW D q3 b4 (10 : Int32) (3 : Int32) 30 (0, fun _ => 0) ++ tbW D q5 b6 (6 : Int32) (3 : Int32) 18 (0, fun _ => 0) ++ tbW D q7 b8 (20 : Int32) (4 : Int32) 80 (0, fun _ => 0) ++ [(q9, .inl (D.1 100, 6, .inl (fun _ => 0)))] ++ [(q10, .inl (D.1 100, 5, .inl (fun _ => 0)))])) h gfp_X1_46 0 rfl (Nat.le_of_ble_eq_true rfl) rfl rfl rfl dX1_init_94 ?_
  refine r_iconst (v := 0) h dX1_init_97 (by decide) ?_
  refine r_istore_n (lv' := [(1, .int (0 : Int32)), (0, .ref a)]) h rfl dX1_init_98 (by decide) rfl ?_
  refine r_iload_n h 0 rfl rfl dX1_init_99 ?_
  refine r_bipush (v := 6) h dX1_init_100 (by decide) ?_
  refine r_icmp_ge h 120 dX1_init_102 (by decide) (fun c => absurd c (by decide)) (fun _ => ?_)
  refine r_aload_n h 1 rfl rfl dX1_init_105 ?_
  refine r_get (j := 4) (ci := 1) h ⟨_, _, _, rfl, by decide, wsin_1, wm_59⟩ 0 rfl rfl dX1_init_106 ?_
  refine r_iload_n h 0 rfl rfl dX1_init_109 ?_
  refine r_sipush (v := 200) h dX1_init_110 (by decide) ?_
  refine r_iast (ws' := ([(a, .inr (1, [.ref q1, .ref q3, .ref q5, .ref q7, .ref q9, .ref q10, .int (100 : Int32), .int (0 : Int32), .int (0 : Int32), .int (0 : Int32)]))] ++ tbW D q1 b2 (12 : Int32) (6 : Int32) 72 (0, fun _ => 0) ++ tbW D q3 b4 (10 : Int32) (3 : Int32) 30 (0, fun _ => 0) ++ tbW D q5 b6 (6 : Int32) (3 : Int32) 18 (0, fun _ => 0) ++ tbW D q7 b8 (20 : Int32) (4 : Int32) 80 (0, fun _ => 0) ++ [(q9, .inl (D.1 100, 6, .inl (upd (fun _ => 0) ((0 : Int32)).toNatClampNeg (200 : Int32))))] ++ [(q10, .inl (D.1 100, 5, .inl (fun _ => 0)))])) h 9 rfl (show ¬ (_ ∨ _) by decide) rfl dX1_init_113 ?_
  refine r_iinc (lv' := [(1, .int (1 : Int32)), (0, .ref a)]) h 0 rfl (by decide) dX1_init_114 (by decide) rfl ?_
  refine r_goto h 99 dX1_init_117 (by decide) ?_
  refine r_iload_n h 0 rfl rfl dX1_init_99 ?_
  refine r_bipush (v := 6) h dX1_init_100 (by decide) ?_
  refine r_icmp_ge h 120 dX1_init_102 (by decide) (fun c => absurd c (by decide)) (fun _ => ?_)
  refine r_aload_n h 1 rfl rfl dX1_init_105 ?_
  refine r_get (j := 4) (ci := 1) h ⟨_, _, _, rfl, by decide, wsin_1, wm_59⟩ 0 rfl rfl dX1_init_106 ?_
  refine r_iload_n h 0 rfl rfl dX1_init_109 ?_
  refine r_sipush (v := 200) h dX1_init_110 (by decide) ?_
  refine r_iast (ws' := ([(a, .inr (1, [.ref q1, .ref q3, .ref q5, .ref q7, .ref q9, .ref q10, .int (100 : Int32), .int (0 : Int32), .int (0 : Int32), .int (0 : Int32)]))] ++ tbW D q1 b2 (12 : Int32) (6 : Int32) 72 (0, fun _ => 0) ++ tbW D q3 b4 (10 : Int32) (3 : Int32) 30 (0, fun _ => 0) ++ tbW D q5 b6 (6 : Int32) (3 : Int32) 18 (0, fun _ => 0) ++ tbW D q7 b8 (20 : Int32) (4 : Int32) 80 (0, fun _ => 0) ++ [(q9, .inl (D.1 100, 6, .inl (upd (upd (fun _ => 0) ((0 : Int32)).toNatClampNeg (200 : Int32)) ((1 : Int32)).toNatClampNeg (200 : Int32))))] ++ [(q10, .inl (D.1 100, 5, .inl (fun _ => 0)))])) h 9 rfl (show ¬ (_ ∨ _) by decide) rfl dX1_init_113 ?_
  refine r_iinc (lv' := [(1, .int (2 : Int32)), (0, .ref a)]) h 0 rfl (by decide) dX1_init_114 (by decide) rfl ?_
  refine r_goto h 99 dX1_init_117 (by decide) ?_
  refine r_iload_n h 0 rfl rfl dX1_init_99 ?_
  refine r_bipush (v := 6) h dX1_init_100 (by decide) ?_
  refine r_icmp_ge h 120 dX1_init_102 (by decide) (fun c => absurd c (by decide)) (fun _ => ?_)
  refine r_aload_n h 1 rfl rfl dX1_init_105 ?_
  refine r_get (j := 4) (ci := 1) h ⟨_, _, _, rfl, by decide, wsin_1, wm_59⟩ 0 rfl rfl dX1_init_106 ?_
  refine r_iload_n h 0 rfl rfl dX1_init_109 ?_
  refine r_sipush (v := 200) h dX1_init_110 (by decide) ?_
  refine r_iast (ws' := ([(a, .inr (1, [.ref q1, .ref q3, .ref q5, .ref q7, .ref q9, .ref q10, .int (100 : Int32), .int (0 : Int32), .int (0 : Int32), .int (0 : Int32)]))] ++ tbW D q1 b2 (12 : Int32) (6 : Int32) 72 (0, fun _ => 0) ++ tbW D q3 b4 (10 : Int32) (3 : Int32) 30 (0, fun _ => 0) ++ tbW D q5 b6 (6 : Int32) (3 : Int32) 18 (0, fun _ => 0) ++ tbW D q7 b8 (20 : Int32) (4 : Int32) 80 (0, fun _ => 0) ++ [(q9, .inl (D.1 100, 6, .inl (upd (upd (upd (fun _ => 0) ((0 : Int32)).toNatClampNeg (200 : Int32)) ((1 : Int32)).toNatClampNeg (200 : Int32)) ((2 : Int32)).toNatClampNeg (200 : Int32))))] ++ [(q10, .inl (D.1 100, 5, .inl (fun _ => 0)))])) h 9 rfl (show ¬ (_ ∨ _) by decide) rfl dX1_init_113 ?_
  refine r_iinc (lv' := [(1, .int (3 : Int32)), (0, .ref a)]) h 0 rfl (by decide) dX1_init_114 (by decide) rfl ?_
  refine r_goto h 99 dX1_init_117 (by decide) ?_
  refine r_iload_n h 0 rfl rfl dX1_init_99 ?_
  refine r_bipush (v := 6) h dX1_init_100 (by decide) ?_
  refine r_icmp_ge h 120 dX1_init_102 (by decide) (fun c => absurd c (by decide)) (fun _ => ?_)
  refine r_aload_n h 1 rfl rfl dX1_init_105 ?_
  refine r_get (j := 4) (ci := 1) h ⟨_, _, _, rfl, by decide, wsin_1, wm_59⟩ 0 rfl rfl dX1_init_106 ?_
  refine r_iload_n h 0 rfl rfl dX1_init_109 ?_
  refine r_sipush (v := 200) h dX1_init_110 (by decide) ?_
  refine r_iast (ws' := ([(a, .inr (1, [.ref q1, .ref q3, .ref q5, .ref q7, .ref q9, .ref q10, .int (100 : Int32), .int (0 : Int32), .int (0 : Int32), .int (0 : Int32)]))] ++ tbW D q1 b2 (12 : Int32) (6 : Int32) 72 (0, fun _ => 0) ++ tbW D q3 b4 (10 : Int32) (3 : Int32) 30 (0, fun _ => 0) ++ tbW D q5 b6 (6 : Int32) (3 : Int32) 18 (0, fun _ => 0) ++ tbW D q7 b8 (20 : Int32) (4 : Int32) 80 (0, fun _ => 0) ++ [(q9, .inl (D.1 100, 6, .inl (upd (upd (upd (upd (fun _ => 0) ((0 : Int32)).toNatClampNeg (200 : Int32)) ((1 : Int32)).toNatClampNeg (200 : Int32)) ((2 : Int32)).toNatClampNeg (200 : Int32)) ((3 : Int32)).toNatClampNeg (200 : Int32))))] ++ [(q10, .inl (D.1 100, 5, .inl (fun _ => 0)))])) h 9 rfl (show ¬ (_ ∨ _) by decide) rfl dX1_init_113 ?_
  refine r_iinc (lv' := [(1, .int (4 : Int32)), (0, .ref a)]) h 0 rfl (by decide) dX1_init_114 (by decide) rfl ?_
  refine r_goto h 99 dX1_init_117 (by decide) ?_
  refine r_iload_n h 0 rfl rfl dX1_init_99 ?_
  refine r_bipush (v := 6) h dX1_init_100 (by decide) ?_
  refine r_icmp_ge h 120 dX1_init_102 (by decide) (fun c => absurd c (by decide)) (fun _ => ?_)
  refine r_aload_n h 1 rfl rfl dX1_init_105 ?_
  refine r_get (j := 4) (ci := 1) h ⟨_, _, _, rfl, by decide, wsin_1, wm_59⟩ 0 rfl rfl dX1_init_106 ?_
  refine r_iload_n h 0 rfl rfl dX1_init_109 ?_
  refine r_sipush (v := 200) h dX1_init_110 (by decide) ?_
  refine r_iast (ws' := ([(a, .inr (1, [.ref q1, .ref q3, .ref q5, .ref q7, .ref q9, .ref q10, .int (100 : Int32), .int (0 : Int32), .int (0 : Int32), .int (0 : Int32)]))] ++ tbW D q1 b2 (12 : Int32) (6 : Int32) 72 (0, fun _ => 0) ++ tbW D q3 b4 (10 : Int32) (3 : Int32) 30 (0, fun _ => 0) ++ tbW D q5 b6 (6 : Int32) (3 : Int32) 18 (0, fun _ => 0) ++ tbW D q7 b8 (20 : Int32) (4 : Int32) 80 (0, fun _ => 0) ++ [(q9, .inl (D.1 100, 6, .inl (upd (upd (upd (upd (upd (fun _ => 0) ((0 : Int32)).toNatClampNeg (200 : Int32)) ((1 : Int32)).toNatClampNeg (200 : Int32)) ((2 : Int32)).toNatClampNeg (200 : Int32)) ((3 : Int32)).toNatClampNeg (200 : Int32)) ((4 : Int32)).toNatClampNeg (200 : Int32))))] ++ [(q10, .inl (D.1 100, 5, .inl (fun _ => 0)))])) h 9 rfl (show ¬ (_ ∨ _) by decide) rfl dX1_init_113 ?_
  refine r_iinc (lv' := [(1, .int (5 : Int32)), (0, .ref a)]) h 0 rfl (by decide) dX1_init_114 (by decide) rfl ?_
  refine r_goto h 99 dX1_init_117 (by decide) ?_
  refine r_iload_n h 0 rfl rfl dX1_init_99 ?_
  refine r_bipush (v := 6) h dX1_init_100 (by decide) ?_
  refine r_icmp_ge h 120 dX1_init_102 (by decide) (fun c => absurd c (by decide)) (fun _ => ?_)
  refine r_aload_n h 1 rfl rfl dX1_init_105 ?_
  refine r_get (j := 4) (ci := 1) h ⟨_, _, _, rfl, by decide, wsin_1, wm_59⟩ 0 rfl rfl dX1_init_106 ?_
  refine r_iload_n h 0 rfl rfl dX1_init_109 ?_
  refine r_sipush (v := 200) h dX1_init_110 (by decide) ?_
  refine r_iast (ws' := ([(a, .inr (1, [.ref q1, .ref q3, .ref q5, .ref q7, .ref q9, .ref q10, .int (100 : Int32), .int (0 : Int32), .int (0 : Int32), .int (0 : Int32)]))] ++ tbW D q1 b2 (12 : Int32) (6 : Int32) 72 (0, fun _ => 0) ++ tbW D q3 b4 (10 : Int32) (3 : Int32) 30 (0, fun _ => 0) ++ tbW D q5 b6 (6 : Int32) (3 : Int32) 18 (0, fun _ => 0) ++ tbW D q7 b8 (20 : Int32) (4 : Int32) 80 (0, fun _ => 0) ++ [(q9, .inl (D.1 100, 6, .inl (upd (upd (upd (upd (upd (upd (fun _ => 0) ((0 : Int32)).toNatClampNeg (200 : Int32)) ((1 : Int32)).toNatClampNeg (200 : Int32)) ((2 : Int32)).toNatClampNeg (200 : Int32)) ((3 : Int32)).toNatClampNeg (200 : Int32)) ((4 : Int32)).toNatClampNeg (200 : Int32)) ((5 : Int32)).toNatClampNeg (200 : Int32))))] ++ [(q10, .inl (D.1 100, 5, .inl (fun _ => 0)))])) h 9 rfl (show ¬ (_ ∨ _) by decide) rfl dX1_init_113 ?_
  refine r_iinc (lv' := [(1, .int (6 : Int32)), (0, .ref a)]) h 0 rfl (by decide) dX1_init_114 (by decide) rfl ?_
  refine r_goto h 99 dX1_init_117 (by decide) ?_
  refine r_iload_n h 0 rfl rfl dX1_init_99 ?_
  refine r_bipush (v := 6) h dX1_init_100 (by decide) ?_
  refine r_icmp_ge h 120 dX1_init_102 (by decide) (fun _ => ?_) (fun c => absurd c (by decide))
  refine r_iconst (v := 0) h dX1_init_120 (by decide) ?_
  refine r_istore_n (lv' := [(1, .int (0 : Int32)), (0, .ref a)]) h rfl dX1_init_121 (by decide) rfl ?_
  refine r_iload_n h 0 rfl rfl dX1_init_122 ?_
  refine r_iconst (v := 5) h dX1_init_123 (by decide) ?_
  refine r_icmp_ge h 140 dX1_init_124 (by decide) (fun c => absurd c (by decide)) (fun _ => ?_)
  refine r_aload_n h 1 rfl rfl dX1_init_127 ?_
  refine r_get (j := 5) (ci := 1) h ⟨_, _, _, rfl, by decide, wsin_1, wm_61⟩ 0 rfl rfl dX1_init_128 ?_
  refine r_iload_n h 0 rfl rfl dX1_init_131 ?_
  refine r_iconst (v := 4) h dX1_init_132 (by decide) ?_
  refine r_iast (ws' := ([(a, .inr (1, [.ref q1, .ref q3, .ref q5, .ref q7, .ref q9, .ref q10, .int (100 : Int32), .int (0 : Int32), .int (0 : Int32), .int (0 : Int32)]))] ++ tbW D q1 b2 (12 : Int32) (6 : Int32) 72 (0, fun _ => 0) ++ tbW D q3 b4 (10 : Int32) (3 : Int32) 30 (0, fun _ => 0) ++ tbW D q5 b6 (6 : Int32) (3 : Int32) 18 (0, fun _ => 0) ++ tbW D q7 b8 (20 : Int32) (4 : Int32) 80 (0, fun _ => 0) ++ [(q9, .inl (D.1 100, 6, .inl (upd (upd (upd (upd (upd (upd (fun _ => 0) ((0 : Int32)).toNatClampNeg (200 : Int32)) ((1 : Int32)).toNatClampNeg (200 : Int32)) ((2 : Int32)).toNatClampNeg (200 : Int32)) ((3 : Int32)).toNatClampNeg (200 : Int32)) ((4 : Int32)).toNatClampNeg (200 : Int32)) ((5 : Int32)).toNatClampNeg (200 : Int32))))] ++ [(q10, .inl (D.1 100, 5, .inl (upd (fun _ => 0) ((0 : Int32)).toNatClampNeg (4 : Int32))))])) h 10 rfl (show ¬ (_ ∨ _) by decide) rfl dX1_init_133 ?_
  refine r_iinc (lv' := [(1, .int (1 : Int32)), (0, .ref a)]) h 0 rfl (by decide) dX1_init_134 (by decide) rfl ?_
  refine r_goto h 122 dX1_init_137 (by decide) ?_
  refine r_iload_n h 0 rfl rfl dX1_init_122 ?_
  refine r_iconst (v := 5) h dX1_init_123 (by decide) ?_
  refine r_icmp_ge h 140 dX1_init_124 (by decide) (fun c => absurd c (by decide)) (fun _ => ?_)
  refine r_aload_n h 1 rfl rfl dX1_init_127 ?_
  refine r_get (j := 5) (ci := 1) h ⟨_, _, _, rfl, by decide, wsin_1, wm_61⟩ 0 rfl rfl dX1_init_128 ?_
  refine r_iload_n h 0 rfl rfl dX1_init_131 ?_
  refine r_iconst (v := 4) h dX1_init_132 (by decide) ?_
  refine r_iast (ws' := ([(a, .inr (1, [.ref q1, .ref q3, .ref q5, .ref q7, .ref q9, .ref q10, .int (100 : Int32), .int (0 : Int32), .int (0 : Int32), .int (0 : Int32)]))] ++ tbW D q1 b2 (12 : Int32) (6 : Int32) 72 (0, fun _ => 0) ++ tbW D q3 b4 (10 : Int32) (3 : Int32) 30 (0, fun _ => 0) ++ tbW D q5 b6 (6 : Int32) (3 : Int32) 18 (0, fun _ => 0) ++ tbW D q7 b8 (20 : Int32) (4 : Int32) 80 (0, fun _ => 0) ++ [(q9, .inl (D.1 100, 6, .inl (upd (upd (upd (upd (upd (upd (fun _ => 0) ((0 : Int32)).toNatClampNeg (200 : Int32)) ((1 : Int32)).toNatClampNeg (200 : Int32)) ((2 : Int32)).toNatClampNeg (200 : Int32)) ((3 : Int32)).toNatClampNeg (200 : Int32)) ((4 : Int32)).toNatClampNeg (200 : Int32)) ((5 : Int32)).toNatClampNeg (200 : Int32))))] ++ [(q10, .inl (D.1 100, 5, .inl (upd (upd (fun _ => 0) ((0 : Int32)).toNatClampNeg (4 : Int32)) ((1 : Int32)).toNatClampNeg (4 : Int32))))])) h 10 rfl (show ¬ (_ ∨ _) by decide) rfl dX1_init_133 ?_
  refine r_iinc (lv' := [(1, .int (2 : Int32)), (0, .ref a)]) h 0 rfl (by decide) dX1_init_134 (by decide) rfl ?_
  refine r_goto h 122 dX1_init_137 (by decide) ?_
  refine r_iload_n h 0 rfl rfl dX1_init_122 ?_
  refine r_iconst (v := 5) h dX1_init_123 (by decide) ?_
  refine r_icmp_ge h 140 dX1_init_124 (by decide) (fun c => absurd c (by decide)) (fun _ => ?_)
  refine r_aload_n h 1 rfl rfl dX1_init_127 ?_
  refine r_get (j := 5) (ci := 1) h ⟨_, _, _, rfl, by decide, wsin_1, wm_61⟩ 0 rfl rfl dX1_init_128 ?_
  refine r_iload_n h 0 rfl rfl dX1_init_131 ?_
  refine r_iconst (v := 4) h dX1_init_132 (by decide) ?_
  refine r_iast (ws' := ([(a, .inr (1, [.ref q1, .ref q3, .ref q5, .ref q7, .ref q9, .ref q10, .int (100 : Int32), .int (0 : Int32), .int (0 : Int32), .int (0 : Int32)]))] ++ tbW D q1 b2 (12 : Int32) (6 : Int32) 72 (0, fun _ => 0) ++ tbW D q3 b4 (10 : Int32) (3 : Int32) 30 (0, fun _ => 0) ++ tbW D q5 b6 (6 : Int32) (3 : Int32) 18 (0, fun _ => 0) ++ tbW D q7 b8 (20 : Int32) (4 : Int32) 80 (0, fun _ => 0) ++ [(q9, .inl (D.1 100, 6, .inl (upd (upd (upd (upd (upd (upd (fun _ => 0) ((0 : Int32)).toNatClampNeg (200 : Int32)) ((1 : Int32)).toNatClampNeg (200 : Int32)) ((2 : Int32)).toNatClampNeg (200 : Int32)) ((3 : Int32)).toNatClampNeg (200 : Int32)) ((4 : Int32)).toNatClampNeg (200 : Int32)) ((5 : Int32)).toNatClampNeg (200 : Int32))))] ++ [(q10, .inl (D.1 100, 5, .inl (upd (upd (upd (fun _ => 0) ((0 : Int32)).toNatClampNeg (4 : Int32)) ((1 : Int32)).toNatClampNeg (4 : Int32)) ((2 : Int32)).toNatClampNeg (4 : Int32))))])) h 10 rfl (show ¬ (_ ∨ _) by decide) rfl dX1_init_133 ?_
  refine r_iinc (lv' := [(1, .int (3 : Int32)), (0, .ref a)]) h 0 rfl (by decide) dX1_init_134 (by decide) rfl ?_
  refine r_goto h 122 dX1_init_137 (by decide) ?_
  refine r_iload_n h 0 rfl rfl dX1_init_122 ?_
  refine r_iconst (v := 5) h dX1_init_123 (by decide) ?_
  refine r_icmp_ge h 140 dX1_init_124 (by decide) (fun c => absurd c (by decide)) (fun _ => ?_)
  refine r_aload_n h 1 rfl rfl dX1_init_127 ?_
  refine r_get (j := 5) (ci := 1) h ⟨_, _, _, rfl, by decide, wsin_1, wm_61⟩ 0 rfl rfl dX1_init_128 ?_
  refine r_iload_n h 0 rfl rfl dX1_init_131 ?_
  refine r_iconst (v := 4) h dX1_init_132 (by decide) ?_
  refine r_iast (ws' := ([(a, .inr (1, [.ref q1, .ref q3, .ref q5, .ref q7, .ref q9, .ref q10, .int (100 : Int32), .int (0 : Int32), .int (0 : Int32), .int (0 : Int32)]))] ++ tbW D q1 b2 (12 : Int32) (6 : Int32) 72 (0, fun _ => 0) ++ tbW D q3 b4 (10 : Int32) (3 : Int32) 30 (0, fun _ => 0) ++ tbW D q5 b6 (6 : Int32) (3 : Int32) 18 (0, fun _ => 0) ++ tbW D q7 b8 (20 : Int32) (4 : Int32) 80 (0, fun _ => 0) ++ [(q9, .inl (D.1 100, 6, .inl (upd (upd (upd (upd (upd (upd (fun _ => 0) ((0 : Int32)).toNatClampNeg (200 : Int32)) ((1 : Int32)).toNatClampNeg (200 : Int32)) ((2 : Int32)).toNatClampNeg (200 : Int32)) ((3 : Int32)).toNatClampNeg (200 : Int32)) ((4 : Int32)).toNatClampNeg (200 : Int32)) ((5 : Int32)).toNatClampNeg (200 : Int32))))] ++ [(q10, .inl (D.1 100, 5, .inl (upd (upd (upd (upd (fun _ => 0) ((0 : Int32)).toNatClampNeg (4 : Int32)) ((1 : Int32)).toNatClampNeg (4 : Int32)) ((2 : Int32)).toNatClampNeg (4 : Int32)) ((3 : Int32)).toNatClampNeg (4 : Int32))))])) h 10 rfl (show ¬ (_ ∨ _) by decide) rfl dX1_init_133 ?_
  refine r_iinc (lv' := [(1, .int (4 : Int32)), (0, .ref a)]) h 0 rfl (by decide) dX1_init_134 (by decide) rfl ?_
  refine r_goto h 122 dX1_init_137 (by decide) ?_
  refine r_iload_n h 0 rfl rfl dX1_init_122 ?_
  refine r_iconst (v := 5) h dX1_init_123 (by decide) ?_
  refine r_icmp_ge h 140 dX1_init_124 (by decide) (fun c => absurd c (by decide)) (fun _ => ?_)
  refine r_aload_n h 1 rfl rfl dX1_init_127 ?_
  refine r_get (j := 5) (ci := 1) h ⟨_, _, _, rfl, by decide, wsin_1, wm_61⟩ 0 rfl rfl dX1_init_128 ?_
  refine r_iload_n h 0 rfl rfl dX1_init_131 ?_
  refine r_iconst (v := 4) h dX1_init_132 (by decide) ?_
  refine r_iast (ws' := ([(a, .inr (1, [.ref q1, .ref q3, .ref q5, .ref q7, .ref q9, .ref q10, .int (100 : Int32), .int (0 : Int32), .int (0 : Int32), .int (0 : Int32)]))] ++ tbW D q1 b2 (12 : Int32) (6 : Int32) 72 (0, fun _ => 0) ++ tbW D q3 b4 (10 : Int32) (3 : Int32) 30 (0, fun _ => 0) ++ tbW D q5 b6 (6 : Int32) (3 : Int32) 18 (0, fun _ => 0) ++ tbW D q7 b8 (20 : Int32) (4 : Int32) 80 (0, fun _ => 0) ++ [(q9, .inl (D.1 100, 6, .inl (upd (upd (upd (upd (upd (upd (fun _ => 0) ((0 : Int32)).toNatClampNeg (200 : Int32)) ((1 : Int32)).toNatClampNeg (200 : Int32)) ((2 : Int32)).toNatClampNeg (200 : Int32)) ((3 : Int32)).toNatClampNeg (200 : Int32)) ((4 : Int32)).toNatClampNeg (200 : Int32)) ((5 : Int32)).toNatClampNeg (200 : Int32))))] ++ [(q10, .inl (D.1 100, 5, .inl (upd (upd (upd (upd (upd (fun _ => 0) ((0 : Int32)).toNatClampNeg (4 : Int32)) ((1 : Int32)).toNatClampNeg (4 : Int32)) ((2 : Int32)).toNatClampNeg (4 : Int32)) ((3 : Int32)).toNatClampNeg (4 : Int32)) ((4 : Int32)).toNatClampNeg (4 : Int32))))])) h 10 rfl (show ¬ (_ ∨ _) by decide) rfl dX1_init_133 ?_
  refine r_iinc (lv' := [(1, .int (5 : Int32)), (0, .ref a)]) h 0 rfl (by decide) dX1_init_134 (by decide) rfl ?_
  refine r_goto h 122 dX1_init_137 (by decide) ?_
  refine r_iload_n h 0 rfl rfl dX1_init_122 ?_
  refine r_iconst (v := 5) h dX1_init_123 (by decide) ?_
  refine r_icmp_ge h 140 dX1_init_124 (by decide) (fun _ => ?_) (fun c => absurd c (by decide))
  refine J.sub (ws' := rmW D (fun i => [a, q1, q3, q5, q7, q9, q10, b2, b4, b6, b8].getD i 0) RS0) [0, 1, 3, 5, 7, 9, 10, 2, 4, 6, 8] rfl (by decide) ?_
  refine J.widen (k1 := 10) (n1 := 227) (by decide) (by decide) ?_
  exact r_vret h hr dX1_init_140 ⟨rfl, _, rfl, rfl⟩
def TXS0 : TXS := (fun _ => 0, fun _ => 0, 0, 0, 0, 0)
abbrev rmX0_init : Room := { frames := 2, cells := 3, slots := 229, locals := 60 }
set_option maxHeartbeats 4000000 in
set_option maxRecDepth 100000 in
theorem CX0_init (l : Launch) (D : va_G) (a : Nat) : Ct l D yX0_init cX0_init 1 none rmX0_init 3 229 [.ref a] [(a, .inr (0, [.null, .int 0, .null, .int 0, .int 0]))] (fun v w => v = none ∧ ∃ r : Nat → Nat, r 0 = a ∧ w = txW D r TXS0) := by
  refine Ct.ofI (own := RX0) (lv := [(0, .ref a)]) (by decide +kernel) rfl rfl (Nat.le_of_ble_eq_true rfl) rfl (fun X h hI hr => ?_)
  refine r_aload_n h 0 rfl rfl dX0_init_0 ?_
  refine r_objInit h wm_99 wm_oI wm_oC dX0_init_1 (Nat.le_of_ble_eq_true rfl) (Nat.le_of_ble_eq_true rfl) ?_
  refine r_aload_n h 0 rfl rfl dX0_init_4 ?_
  refine r_bipush (v := 90) h dX0_init_5 (by decide) ?_
  refine r_newa (N' := 90) h wm_aI (by decide) (by decide) (by decide) ⟨by decide, by decide⟩ dX0_init_7 (fun q1 => ?_)
  refine r_putF (ws' := ([(a, .inr (0, [.ref q1, .int 0, .null, .int 0, .int 0]))] ++ [(q1, .inl (D.1 100, 90, .inl (fun _ => 0)))])) h hI ff_X0_9 vwC0 0 rfl (Nat.le_of_ble_eq_true rfl) rfl rfl rfl dX0_init_9 ?_
  refine r_aload_n h 0 rfl rfl dX0_init_12 ?_
  refine r_iconst (v := 0) h dX0_init_13 (by decide) ?_
  refine r_put (ws' := ([(a, .inr (0, [.ref q1, .int (0 : Int32), .null, .int 0, .int 0]))] ++ [(q1, .inl (D.1 100, 90, .inl (fun _ => 0)))])) h gfp_X0_15 0 rfl (Nat.le_of_ble_eq_true rfl) rfl rfl rfl dX0_init_14 ?_
  refine r_aload_n h 0 rfl rfl dX0_init_17 ?_
  refine r_new (ci := 2) (N := 4) (fs := [.int 0, .int 0, .null, .int 0]) h ⟨_, _, tyX2, rfl, wsin_2, tyX2_ok, wm_100, wm_29, wm_3, fun j hj => by rcases (show j = 0 ∨ j = 1 ∨ j = 2 ∨ j = 3 by omega) with rfl | rfl | rfl | rfl <;> rfl⟩ dX0_init_18 ⟨by decide, by decide⟩ (fun q2 => ?_)
  refine r_dup h rfl dX0_init_21 ?_
  refine r_bipush (v := 45) h dX0_init_22 (by decide) ?_
  refine r_iconst (v := 3) h dX0_init_24 (by decide) ?_
  refine r_callI (wr := ([(a, .inr (0, [.ref q1, .int (0 : Int32), .null, .int 0, .int 0]))] ++ [(q1, .inl (D.1 100, 90, .inl (fun _ => 0)))])) (rest := [.ref q2, .ref a]) h hdI_X2 wm_101 dX0_init_25 (CX2_init l D q2 (45 : Int32) (3 : Int32) 135 (by decide) (by decide) (by decide)) rfl ⟨rfl, rfl⟩ ⟨by decide, by decide⟩ (Nat.le_of_ble_eq_true rfl) ⟨by decide, by decide⟩ rfl rfl (fun v w' hp => ?_)
  obtain ⟨rfl, b3, rfl⟩ := hp
  refine r_putF (ws' := ([(a, .inr (0, [.ref q1, .int (0 : Int32), .ref q2, .int 0, .int 0]))] ++ [(q1, .inl (D.1 100, 90, .inl (fun _ => 0)))] ++ tbW D q2 b3 (45 : Int32) (3 : Int32) 135 (0, fun _ => 0))) h hI ff_X0_24 vwC0 0 rfl (Nat.le_of_ble_eq_true rfl) rfl rfl rfl dX0_init_28 ?_
  refine r_aload_n h 0 rfl rfl dX0_init_31 ?_
  refine r_iconst (v := 0) h dX0_init_32 (by decide) ?_
  refine r_put (ws' := ([(a, .inr (0, [.ref q1, .int (0 : Int32), .ref q2, .int (0 : Int32), .int 0]))] ++ [(q1, .inl (D.1 100, 90, .inl (fun _ => 0)))] ++ tbW D q2 b3 (45 : Int32) (3 : Int32) 135 (0, fun _ => 0))) h gfp_X0_28 0 rfl (Nat.le_of_ble_eq_true rfl) rfl rfl rfl dX0_init_33 ?_
  refine r_aload_n h 0 rfl rfl dX0_init_36 ?_
  refine r_iconst (v := 0) h dX0_init_37 (by decide) ?_
  refine r_put (ws' := ([(a, .inr (0, [.ref q1, .int (0 : Int32), .ref q2, .int (0 : Int32), .int (0 : Int32)]))] ++ [(q1, .inl (D.1 100, 90, .inl (fun _ => 0)))] ++ tbW D q2 b3 (45 : Int32) (3 : Int32) 135 (0, fun _ => 0))) h gfp_X0_31 0 rfl (Nat.le_of_ble_eq_true rfl) rfl rfl rfl dX0_init_38 ?_
  refine J.sub (ws' := txW D (fun i => [a, q1, q2, b3].getD i 0) TXS0) [0, 1, 2, 3] rfl (by decide) ?_
  refine J.widen (k1 := 3) (n1 := 229) (by decide) (by decide) ?_
  exact r_vret h hr dX0_init_41 ⟨rfl, _, rfl, rfl⟩
def now0 : Nat → Int32 := upd (upd (upd (upd (upd (upd (upd (upd (upd (upd (upd (upd (fun _ => 0) ((0 : Int32)).toNatClampNeg (200 : Int32)) ((1 : Int32)).toNatClampNeg (200 : Int32)) ((2 : Int32)).toNatClampNeg (200 : Int32)) ((3 : Int32)).toNatClampNeg (200 : Int32)) ((4 : Int32)).toNatClampNeg (200 : Int32)) ((5 : Int32)).toNatClampNeg (200 : Int32)) ((6 : Int32)).toNatClampNeg (4 : Int32)) ((7 : Int32)).toNatClampNeg (4 : Int32)) ((8 : Int32)).toNatClampNeg (4 : Int32)) ((9 : Int32)).toNatClampNeg (4 : Int32)) ((10 : Int32)).toNatClampNeg (4 : Int32)) ((11 : Int32)).toNatClampNeg (100 : Int32)
def MDS0 : MDS := (now0, fun _ => 0, fun _ => 0, fun _ => 0, fun _ => 0, 0, 0, 0, 0, 0, 0, 0, 0)
abbrev rmX4_init : Room := { frames := 1, cells := 5, slots := 1623, locals := 30 }
set_option maxHeartbeats 4000000 in
set_option maxRecDepth 100000 in
theorem CX4_init (l : Launch) (D : va_G) (a : Nat) : Ct l D yX4_init cX4_init 2 none rmX4_init 5 1623 [.ref a] [(a, .inr (4, [.null, .null, .null, .null, .int 0, .int 0, .null, .int 0, .int 0, .int 0, .int 0, .int 0, .long 0]))] (fun v w => v = none ∧ ∃ r : Nat → Nat, r 0 = a ∧ w = mdW D r MDS0) := by
  refine Ct.ofI (own := RX4) (lv := [(0, .ref a)]) (by decide +kernel) rfl rfl (Nat.le_of_ble_eq_true rfl) rfl (fun X h hI hr => ?_)
  refine r_aload_n h 0 rfl rfl dX4_init_0 ?_
  refine r_objInit h wm_703 wm_oI wm_oC dX4_init_1 (Nat.le_of_ble_eq_true rfl) (Nat.le_of_ble_eq_true rfl) ?_
  refine r_aload_n h 0 rfl rfl dX4_init_4 ?_
  refine r_sipush (v := 219) h dX4_init_5 (by decide) ?_
  refine r_newa (N' := 219) h wm_aI (by decide) (by decide) (by decide) ⟨by decide, by decide⟩ dX4_init_8 (fun q1 => ?_)
  refine r_putF (ws' := ([(a, .inr (4, [.ref q1, .null, .null, .null, .int 0, .int 0, .null, .int 0, .int 0, .int 0, .int 0, .int 0, .long 0]))] ++ [(q1, .inl (D.1 100, 219, .inl (fun _ => 0)))])) h hI ff_X4_7 vwC4 0 rfl (Nat.le_of_ble_eq_true rfl) rfl rfl rfl dX4_init_10 ?_
  refine r_aload_n h 0 rfl rfl dX4_init_13 ?_
  refine r_sipush (v := 876) h dX4_init_14 (by decide) ?_
  refine r_newa (N' := 876) h wm_aI (by decide) (by decide) (by decide) ⟨by decide, by decide⟩ dX4_init_17 (fun q2 => ?_)
  refine r_putF (ws' := ([(a, .inr (4, [.ref q1, .ref q2, .null, .null, .int 0, .int 0, .null, .int 0, .int 0, .int 0, .int 0, .int 0, .long 0]))] ++ [(q1, .inl (D.1 100, 219, .inl (fun _ => 0)))] ++ [(q2, .inl (D.1 100, 876, .inl (fun _ => 0)))])) h hI ff_X4_13 vwC4 0 rfl (Nat.le_of_ble_eq_true rfl) rfl rfl rfl dX4_init_19 ?_
  refine r_aload_n h 0 rfl rfl dX4_init_22 ?_
  refine r_sipush (v := 219) h dX4_init_23 (by decide) ?_
  refine r_newa (N' := 219) h wm_aI (by decide) (by decide) (by decide) ⟨by decide, by decide⟩ dX4_init_26 (fun q3 => ?_)
  refine r_putF (ws' := ([(a, .inr (4, [.ref q1, .ref q2, .ref q3, .null, .int 0, .int 0, .null, .int 0, .int 0, .int 0, .int 0, .int 0, .long 0]))] ++ [(q1, .inl (D.1 100, 219, .inl (fun _ => 0)))] ++ [(q2, .inl (D.1 100, 876, .inl (fun _ => 0)))] ++ [(q3, .inl (D.1 100, 219, .inl (fun _ => 0)))])) h hI ff_X4_16 vwC4 0 rfl (Nat.le_of_ble_eq_true rfl) rfl rfl rfl dX4_init_28 ?_
  refine r_aload_n h 0 rfl rfl dX4_init_31 ?_
  refine r_sipush (v := 219) h dX4_init_32 (by decide) ?_
  refine r_newa (N' := 219) h wm_aI (by decide) (by decide) (by decide) ⟨by decide, by decide⟩ dX4_init_35 (fun q4 => ?_)
  refine r_putF (ws' := ([(a, .inr (4, [.ref q1, .ref q2, .ref q3, .ref q4, .int 0, .int 0, .null, .int 0, .int 0, .int 0, .int 0, .int 0, .long 0]))] ++ [(q1, .inl (D.1 100, 219, .inl (fun _ => 0)))] ++ [(q2, .inl (D.1 100, 876, .inl (fun _ => 0)))] ++ [(q3, .inl (D.1 100, 219, .inl (fun _ => 0)))] ++ [(q4, .inl (D.1 100, 219, .inl (fun _ => 0)))])) h hI ff_X4_19 vwC4 0 rfl (Nat.le_of_ble_eq_true rfl) rfl rfl rfl dX4_init_37 ?_
  refine r_aload_n h 0 rfl rfl dX4_init_40 ?_
  refine r_bipush (v := 90) h dX4_init_41 (by decide) ?_
  refine r_newa (N' := 90) h wm_aI (by decide) (by decide) (by decide) ⟨by decide, by decide⟩ dX4_init_43 (fun q5 => ?_)
  refine r_putF (ws' := ([(a, .inr (4, [.ref q1, .ref q2, .ref q3, .ref q4, .int 0, .int 0, .ref q5, .int 0, .int 0, .int 0, .int 0, .int 0, .long 0]))] ++ [(q1, .inl (D.1 100, 219, .inl (fun _ => 0)))] ++ [(q2, .inl (D.1 100, 876, .inl (fun _ => 0)))] ++ [(q3, .inl (D.1 100, 219, .inl (fun _ => 0)))] ++ [(q4, .inl (D.1 100, 219, .inl (fun _ => 0)))] ++ [(q5, .inl (D.1 100, 90, .inl (fun _ => 0)))])) h hI ff_X4_22 vwC4 0 rfl (Nat.le_of_ble_eq_true rfl) rfl rfl rfl dX4_init_45 ?_
  refine r_iconst (v := 0) h dX4_init_48 (by decide) ?_
  refine r_istore_n (lv' := [(1, .int (0 : Int32)), (0, .ref a)]) h rfl dX4_init_49 (by decide) rfl ?_
  refine r_iload_n h 0 rfl rfl dX4_init_50 ?_
  refine r_bipush (v := 6) h dX4_init_51 (by decide) ?_
  refine r_icmp_ge h 73 dX4_init_53 (by decide) (fun c => absurd c (by decide)) (fun _ => ?_)
  refine r_aload_n h 1 rfl rfl dX4_init_56 ?_
  refine r_get (j := 0) (ci := 4) h ⟨_, _, _, rfl, by decide, wsin_4, wm_704⟩ 0 rfl rfl dX4_init_57 ?_
  refine r_iconst (v := 0) h dX4_init_60 (by decide) ?_
  refine r_iload_n h 0 rfl rfl dX4_init_61 ?_
  refine r_iadd h dX4_init_62 ?_
  refine J.top (y := (0 : Int32)) (by decide) ?_
  refine r_sipush (v := 200) h dX4_init_63 (by decide) ?_
  refine r_iast (ws' := ([(a, .inr (4, [.ref q1, .ref q2, .ref q3, .ref q4, .int 0, .int 0, .ref q5, .int 0, .int 0, .int 0, .int 0, .int 0, .long 0]))] ++ [(q1, .inl (D.1 100, 219, .inl (upd (fun _ => 0) ((0 : Int32)).toNatClampNeg (200 : Int32))))] ++ [(q2, .inl (D.1 100, 876, .inl (fun _ => 0)))] ++ [(q3, .inl (D.1 100, 219, .inl (fun _ => 0)))] ++ [(q4, .inl (D.1 100, 219, .inl (fun _ => 0)))] ++ [(q5, .inl (D.1 100, 90, .inl (fun _ => 0)))])) h 1 rfl (show ¬ (_ ∨ _) by decide) rfl dX4_init_66 ?_
  refine r_iinc (lv' := [(1, .int (1 : Int32)), (0, .ref a)]) h 0 rfl (by decide) dX4_init_67 (by decide) rfl ?_
  refine r_goto h 50 dX4_init_70 (by decide) ?_
  refine r_iload_n h 0 rfl rfl dX4_init_50 ?_
  refine r_bipush (v := 6) h dX4_init_51 (by decide) ?_
  refine r_icmp_ge h 73 dX4_init_53 (by decide) (fun c => absurd c (by decide)) (fun _ => ?_)
  refine r_aload_n h 1 rfl rfl dX4_init_56 ?_
  refine r_get (j := 0) (ci := 4) h ⟨_, _, _, rfl, by decide, wsin_4, wm_704⟩ 0 rfl rfl dX4_init_57 ?_
  refine r_iconst (v := 0) h dX4_init_60 (by decide) ?_
  refine r_iload_n h 0 rfl rfl dX4_init_61 ?_
  refine r_iadd h dX4_init_62 ?_
  refine J.top (y := (1 : Int32)) (by decide) ?_
  refine r_sipush (v := 200) h dX4_init_63 (by decide) ?_
  refine r_iast (ws' := ([(a, .inr (4, [.ref q1, .ref q2, .ref q3, .ref q4, .int 0, .int 0, .ref q5, .int 0, .int 0, .int 0, .int 0, .int 0, .long 0]))] ++ [(q1, .inl (D.1 100, 219, .inl (upd (upd (fun _ => 0) ((0 : Int32)).toNatClampNeg (200 : Int32)) ((1 : Int32)).toNatClampNeg (200 : Int32))))] ++ [(q2, .inl (D.1 100, 876, .inl (fun _ => 0)))] ++ [(q3, .inl (D.1 100, 219, .inl (fun _ => 0)))] ++ [(q4, .inl (D.1 100, 219, .inl (fun _ => 0)))] ++ [(q5, .inl (D.1 100, 90, .inl (fun _ => 0)))])) h 1 rfl (show ¬ (_ ∨ _) by decide) rfl dX4_init_66 ?_
  refine r_iinc (lv' := [(1, .int (2 : Int32)), (0, .ref a)]) h 0 rfl (by decide) dX4_init_67 (by decide) rfl ?_
  refine r_goto h 50 dX4_init_70 (by decide) ?_
  refine r_iload_n h 0 rfl rfl dX4_init_50 ?_
  refine r_bipush (v := 6) h dX4_init_51 (by decide) ?_
  refine r_icmp_ge h 73 dX4_init_53 (by decide) (fun c => absurd c (by decide)) (fun _ => ?_)
  refine r_aload_n h 1 rfl rfl dX4_init_56 ?_
  refine r_get (j := 0) (ci := 4) h ⟨_, _, _, rfl, by decide, wsin_4, wm_704⟩ 0 rfl rfl dX4_init_57 ?_
  refine r_iconst (v := 0) h dX4_init_60 (by decide) ?_
  refine r_iload_n h 0 rfl rfl dX4_init_61 ?_
  refine r_iadd h dX4_init_62 ?_
  refine J.top (y := (2 : Int32)) (by decide) ?_
  refine r_sipush (v := 200) h dX4_init_63 (by decide) ?_
  refine r_iast (ws' := ([(a, .inr (4, [.ref q1, .ref q2, .ref q3, .ref q4, .int 0, .int 0, .ref q5, .int 0, .int 0, .int 0, .int 0, .int 0, .long 0]))] ++ [(q1, .inl (D.1 100, 219, .inl (upd (upd (upd (fun _ => 0) ((0 : Int32)).toNatClampNeg (200 : Int32)) ((1 : Int32)).toNatClampNeg (200 : Int32)) ((2 : Int32)).toNatClampNeg (200 : Int32))))] ++ [(q2, .inl (D.1 100, 876, .inl (fun _ => 0)))] ++ [(q3, .inl (D.1 100, 219, .inl (fun _ => 0)))] ++ [(q4, .inl (D.1 100, 219, .inl (fun _ => 0)))] ++ [(q5, .inl (D.1 100, 90, .inl (fun _ => 0)))])) h 1 rfl (show ¬ (_ ∨ _) by decide) rfl dX4_init_66 ?_
  refine r_iinc (lv' := [(1, .int (3 : Int32)), (0, .ref a)]) h 0 rfl (by decide) dX4_init_67 (by decide) rfl ?_
  refine r_goto h 50 dX4_init_70 (by decide) ?_
  refine r_iload_n h 0 rfl rfl dX4_init_50 ?_
  refine r_bipush (v := 6) h dX4_init_51 (by decide) ?_
  refine r_icmp_ge h 73 dX4_init_53 (by decide) (fun c => absurd c (by decide)) (fun _ => ?_)
  refine r_aload_n h 1 rfl rfl dX4_init_56 ?_
  refine r_get (j := 0) (ci := 4) h ⟨_, _, _, rfl, by decide, wsin_4, wm_704⟩ 0 rfl rfl dX4_init_57 ?_
  refine r_iconst (v := 0) h dX4_init_60 (by decide) ?_
  refine r_iload_n h 0 rfl rfl dX4_init_61 ?_
  refine r_iadd h dX4_init_62 ?_
  refine J.top (y := (3 : Int32)) (by decide) ?_
  refine r_sipush (v := 200) h dX4_init_63 (by decide) ?_
  refine r_iast (ws' := ([(a, .inr (4, [.ref q1, .ref q2, .ref q3, .ref q4, .int 0, .int 0, .ref q5, .int 0, .int 0, .int 0, .int 0, .int 0, .long 0]))] ++ [(q1, .inl (D.1 100, 219, .inl (upd (upd (upd (upd (fun _ => 0) ((0 : Int32)).toNatClampNeg (200 : Int32)) ((1 : Int32)).toNatClampNeg (200 : Int32)) ((2 : Int32)).toNatClampNeg (200 : Int32)) ((3 : Int32)).toNatClampNeg (200 : Int32))))] ++ [(q2, .inl (D.1 100, 876, .inl (fun _ => 0)))] ++ [(q3, .inl (D.1 100, 219, .inl (fun _ => 0)))] ++ [(q4, .inl (D.1 100, 219, .inl (fun _ => 0)))] ++ [(q5, .inl (D.1 100, 90, .inl (fun _ => 0)))])) h 1 rfl (show ¬ (_ ∨ _) by decide) rfl dX4_init_66 ?_
  refine r_iinc (lv' := [(1, .int (4 : Int32)), (0, .ref a)]) h 0 rfl (by decide) dX4_init_67 (by decide) rfl ?_
  refine r_goto h 50 dX4_init_70 (by decide) ?_
  refine r_iload_n h 0 rfl rfl dX4_init_50 ?_
  refine r_bipush (v := 6) h dX4_init_51 (by decide) ?_
  refine r_icmp_ge h 73 dX4_init_53 (by decide) (fun c => absurd c (by decide)) (fun _ => ?_)
  refine r_aload_n h 1 rfl rfl dX4_init_56 ?_
  refine r_get (j := 0) (ci := 4) h ⟨_, _, _, rfl, by decide, wsin_4, wm_704⟩ 0 rfl rfl dX4_init_57 ?_
  refine r_iconst (v := 0) h dX4_init_60 (by decide) ?_
  refine r_iload_n h 0 rfl rfl dX4_init_61 ?_
  refine r_iadd h dX4_init_62 ?_
  refine J.top (y := (4 : Int32)) (by decide) ?_
  refine r_sipush (v := 200) h dX4_init_63 (by decide) ?_
  refine r_iast (ws' := ([(a, .inr (4, [.ref q1, .ref q2, .ref q3, .ref q4, .int 0, .int 0, .ref q5, .int 0, .int 0, .int 0, .int 0, .int 0, .long 0]))] ++ [(q1, .inl (D.1 100, 219, .inl (upd (upd (upd (upd (upd (fun _ => 0) ((0 : Int32)).toNatClampNeg (200 : Int32)) ((1 : Int32)).toNatClampNeg (200 : Int32)) ((2 : Int32)).toNatClampNeg (200 : Int32)) ((3 : Int32)).toNatClampNeg (200 : Int32)) ((4 : Int32)).toNatClampNeg (200 : Int32))))] ++ [(q2, .inl (D.1 100, 876, .inl (fun _ => 0)))] ++ [(q3, .inl (D.1 100, 219, .inl (fun _ => 0)))] ++ [(q4, .inl (D.1 100, 219, .inl (fun _ => 0)))] ++ [(q5, .inl (D.1 100, 90, .inl (fun _ => 0)))])) h 1 rfl (show ¬ (_ ∨ _) by decide) rfl dX4_init_66 ?_
  refine r_iinc (lv' := [(1, .int (5 : Int32)), (0, .ref a)]) h 0 rfl (by decide) dX4_init_67 (by decide) rfl ?_
  refine r_goto h 50 dX4_init_70 (by decide) ?_
  refine r_iload_n h 0 rfl rfl dX4_init_50 ?_
  refine r_bipush (v := 6) h dX4_init_51 (by decide) ?_
  refine r_icmp_ge h 73 dX4_init_53 (by decide) (fun c => absurd c (by decide)) (fun _ => ?_)
  refine r_aload_n h 1 rfl rfl dX4_init_56 ?_
  refine r_get (j := 0) (ci := 4) h ⟨_, _, _, rfl, by decide, wsin_4, wm_704⟩ 0 rfl rfl dX4_init_57 ?_
  refine r_iconst (v := 0) h dX4_init_60 (by decide) ?_
  refine r_iload_n h 0 rfl rfl dX4_init_61 ?_
  refine r_iadd h dX4_init_62 ?_
  refine J.top (y := (5 : Int32)) (by decide) ?_
  refine r_sipush (v := 200) h dX4_init_63 (by decide) ?_
  refine r_iast (ws' := ([(a, .inr (4, [.ref q1, .ref q2, .ref q3, .ref q4, .int 0, .int 0, .ref q5, .int 0, .int 0, .int 0, .int 0, .int 0, .long 0]))] ++ [(q1, .inl (D.1 100, 219, .inl (upd (upd (upd (upd (upd (upd (fun _ => 0) ((0 : Int32)).toNatClampNeg (200 : Int32)) ((1 : Int32)).toNatClampNeg (200 : Int32)) ((2 : Int32)).toNatClampNeg (200 : Int32)) ((3 : Int32)).toNatClampNeg (200 : Int32)) ((4 : Int32)).toNatClampNeg (200 : Int32)) ((5 : Int32)).toNatClampNeg (200 : Int32))))] ++ [(q2, .inl (D.1 100, 876, .inl (fun _ => 0)))] ++ [(q3, .inl (D.1 100, 219, .inl (fun _ => 0)))] ++ [(q4, .inl (D.1 100, 219, .inl (fun _ => 0)))] ++ [(q5, .inl (D.1 100, 90, .inl (fun _ => 0)))])) h 1 rfl (show ¬ (_ ∨ _) by decide) rfl dX4_init_66 ?_
  refine r_iinc (lv' := [(1, .int (6 : Int32)), (0, .ref a)]) h 0 rfl (by decide) dX4_init_67 (by decide) rfl ?_
  refine r_goto h 50 dX4_init_70 (by decide) ?_
  refine r_iload_n h 0 rfl rfl dX4_init_50 ?_
  refine r_bipush (v := 6) h dX4_init_51 (by decide) ?_
  refine r_icmp_ge h 73 dX4_init_53 (by decide) (fun _ => ?_) (fun c => absurd c (by decide))
  refine r_iconst (v := 0) h dX4_init_73 (by decide) ?_
  refine r_istore_n (lv' := [(1, .int (0 : Int32)), (0, .ref a)]) h rfl dX4_init_74 (by decide) rfl ?_
  refine r_iload_n h 0 rfl rfl dX4_init_75 ?_
  refine r_iconst (v := 5) h dX4_init_76 (by decide) ?_
  refine r_icmp_ge h 96 dX4_init_77 (by decide) (fun c => absurd c (by decide)) (fun _ => ?_)
  refine r_aload_n h 1 rfl rfl dX4_init_80 ?_
  refine r_get (j := 0) (ci := 4) h ⟨_, _, _, rfl, by decide, wsin_4, wm_704⟩ 0 rfl rfl dX4_init_81 ?_
  refine r_bipush (v := 6) h dX4_init_84 (by decide) ?_
  refine r_iload_n h 0 rfl rfl dX4_init_86 ?_
  refine r_iadd h dX4_init_87 ?_
  refine J.top (y := (6 : Int32)) (by decide) ?_
  refine r_iconst (v := 4) h dX4_init_88 (by decide) ?_
  refine r_iast (ws' := ([(a, .inr (4, [.ref q1, .ref q2, .ref q3, .ref q4, .int 0, .int 0, .ref q5, .int 0, .int 0, .int 0, .int 0, .int 0, .long 0]))] ++ [(q1, .inl (D.1 100, 219, .inl (upd (upd (upd (upd (upd (upd (upd (fun _ => 0) ((0 : Int32)).toNatClampNeg (200 : Int32)) ((1 : Int32)).toNatClampNeg (200 : Int32)) ((2 : Int32)).toNatClampNeg (200 : Int32)) ((3 : Int32)).toNatClampNeg (200 : Int32)) ((4 : Int32)).toNatClampNeg (200 : Int32)) ((5 : Int32)).toNatClampNeg (200 : Int32)) ((6 : Int32)).toNatClampNeg (4 : Int32))))] ++ [(q2, .inl (D.1 100, 876, .inl (fun _ => 0)))] ++ [(q3, .inl (D.1 100, 219, .inl (fun _ => 0)))] ++ [(q4, .inl (D.1 100, 219, .inl (fun _ => 0)))] ++ [(q5, .inl (D.1 100, 90, .inl (fun _ => 0)))])) h 1 rfl (show ¬ (_ ∨ _) by decide) rfl dX4_init_89 ?_
  refine r_iinc (lv' := [(1, .int (1 : Int32)), (0, .ref a)]) h 0 rfl (by decide) dX4_init_90 (by decide) rfl ?_
  refine r_goto h 75 dX4_init_93 (by decide) ?_
  refine r_iload_n h 0 rfl rfl dX4_init_75 ?_
  refine r_iconst (v := 5) h dX4_init_76 (by decide) ?_
  refine r_icmp_ge h 96 dX4_init_77 (by decide) (fun c => absurd c (by decide)) (fun _ => ?_)
  refine r_aload_n h 1 rfl rfl dX4_init_80 ?_
  refine r_get (j := 0) (ci := 4) h ⟨_, _, _, rfl, by decide, wsin_4, wm_704⟩ 0 rfl rfl dX4_init_81 ?_
  refine r_bipush (v := 6) h dX4_init_84 (by decide) ?_
  refine r_iload_n h 0 rfl rfl dX4_init_86 ?_
  refine r_iadd h dX4_init_87 ?_
  refine J.top (y := (7 : Int32)) (by decide) ?_
  refine r_iconst (v := 4) h dX4_init_88 (by decide) ?_
  refine r_iast (ws' := ([(a, .inr (4, [.ref q1, .ref q2, .ref q3, .ref q4, .int 0, .int 0, .ref q5, .int 0, .int 0, .int 0, .int 0, .int 0, .long 0]))] ++ [(q1, .inl (D.1 100, 219, .inl (upd (upd (upd (upd (upd (upd (upd (upd (fun _ => 0) ((0 : Int32)).toNatClampNeg (200 : Int32)) ((1 : Int32)).toNatClampNeg (200 : Int32)) ((2 : Int32)).toNatClampNeg (200 : Int32)) ((3 : Int32)).toNatClampNeg (200 : Int32)) ((4 : Int32)).toNatClampNeg (200 : Int32)) ((5 : Int32)).toNatClampNeg (200 : Int32)) ((6 : Int32)).toNatClampNeg (4 : Int32)) ((7 : Int32)).toNatClampNeg (4 : Int32))))] ++ [(q2, .inl (D.1 100, 876, .inl (fun _ => 0)))] ++ [(q3, .inl (D.1 100, 219, .inl (fun _ => 0)))] ++ [(q4, .inl (D.1 100, 219, .inl (fun _ => 0)))] ++ [(q5, .inl (D.1 100, 90, .inl (fun _ => 0)))])) h 1 rfl (show ¬ (_ ∨ _) by decide) rfl dX4_init_89 ?_
  refine r_iinc (lv' := [(1, .int (2 : Int32)), (0, .ref a)]) h 0 rfl (by decide) dX4_init_90 (by decide) rfl ?_
  refine r_goto h 75 dX4_init_93 (by decide) ?_
  refine r_iload_n h 0 rfl rfl dX4_init_75 ?_
  refine r_iconst (v := 5) h dX4_init_76 (by decide) ?_
  refine r_icmp_ge h 96 dX4_init_77 (by decide) (fun c => absurd c (by decide)) (fun _ => ?_)
  refine r_aload_n h 1 rfl rfl dX4_init_80 ?_
  refine r_get (j := 0) (ci := 4) h ⟨_, _, _, rfl, by decide, wsin_4, wm_704⟩ 0 rfl rfl dX4_init_81 ?_
  refine r_bipush (v := 6) h dX4_init_84 (by decide) ?_
  refine r_iload_n h 0 rfl rfl dX4_init_86 ?_
  refine r_iadd h dX4_init_87 ?_
  refine J.top (y := (8 : Int32)) (by decide) ?_
  refine r_iconst (v := 4) h dX4_init_88 (by decide) ?_
  refine r_iast (ws' := ([(a, .inr (4, [.ref q1, .ref q2, .ref q3, .ref q4, .int 0, .int 0, .ref q5, .int 0, .int 0, .int 0, .int 0, .int 0, .long 0]))] ++ [(q1, .inl (D.1 100, 219, .inl (upd (upd (upd (upd (upd (upd (upd (upd (upd (fun _ => 0) ((0 : Int32)).toNatClampNeg (200 : Int32)) ((1 : Int32)).toNatClampNeg (200 : Int32)) ((2 : Int32)).toNatClampNeg (200 : Int32)) ((3 : Int32)).toNatClampNeg (200 : Int32)) ((4 : Int32)).toNatClampNeg (200 : Int32)) ((5 : Int32)).toNatClampNeg (200 : Int32)) ((6 : Int32)).toNatClampNeg (4 : Int32)) ((7 : Int32)).toNatClampNeg (4 : Int32)) ((8 : Int32)).toNatClampNeg (4 : Int32))))] ++ [(q2, .inl (D.1 100, 876, .inl (fun _ => 0)))] ++ [(q3, .inl (D.1 100, 219, .inl (fun _ => 0)))] ++ [(q4, .inl (D.1 100, 219, .inl (fun _ => 0)))] ++ [(q5, .inl (D.1 100, 90, .inl (fun _ => 0)))])) h 1 rfl (show ¬ (_ ∨ _) by decide) rfl dX4_init_89 ?_
  refine r_iinc (lv' := [(1, .int (3 : Int32)), (0, .ref a)]) h 0 rfl (by decide) dX4_init_90 (by decide) rfl ?_
  refine r_goto h 75 dX4_init_93 (by decide) ?_
  refine r_iload_n h 0 rfl rfl dX4_init_75 ?_
  refine r_iconst (v := 5) h dX4_init_76 (by decide) ?_
  refine r_icmp_ge h 96 dX4_init_77 (by decide) (fun c => absurd c (by decide)) (fun _ => ?_)
  refine r_aload_n h 1 rfl rfl dX4_init_80 ?_
  refine r_get (j := 0) (ci := 4) h ⟨_, _, _, rfl, by decide, wsin_4, wm_704⟩ 0 rfl rfl dX4_init_81 ?_
  refine r_bipush (v := 6) h dX4_init_84 (by decide) ?_
  refine r_iload_n h 0 rfl rfl dX4_init_86 ?_
  refine r_iadd h dX4_init_87 ?_
  refine J.top (y := (9 : Int32)) (by decide) ?_
  refine r_iconst (v := 4) h dX4_init_88 (by decide) ?_
  refine r_iast (ws' := ([(a, .inr (4, [.ref q1, .ref q2, .ref q3, .ref q4, .int 0, .int 0, .ref q5, .int 0, .int 0, .int 0, .int 0, .int 0, .long 0]))] ++ [(q1, .inl (D.1 100, 219, .inl (upd (upd (upd (upd (upd (upd (upd (upd (upd (upd (fun _ => 0) ((0 : Int32)).toNatClampNeg (200 : Int32)) ((1 : Int32)).toNatClampNeg (200 : Int32)) ((2 : Int32)).toNatClampNeg (200 : Int32)) ((3 : Int32)).toNatClampNeg (200 : Int32)) ((4 : Int32)).toNatClampNeg (200 : Int32)) ((5 : Int32)).toNatClampNeg (200 : Int32)) ((6 : Int32)).toNatClampNeg (4 : Int32)) ((7 : Int32)).toNatClampNeg (4 : Int32)) ((8 : Int32)).toNatClampNeg (4 : Int32)) ((9 : Int32)).toNatClampNeg (4 : Int32))))] ++ [(q2, .inl (D.1 100, 876, .inl (fun _ => 0)))] ++ [(q3, .inl (D.1 100, 219, .inl (fun _ => 0)))] ++ [(q4, .inl (D.1 100, 219, .inl (fun _ => 0)))] ++ [(q5, .inl (D.1 100, 90, .inl (fun _ => 0)))])) h 1 rfl (show ¬ (_ ∨ _) by decide) rfl dX4_init_89 ?_
  refine r_iinc (lv' := [(1, .int (4 : Int32)), (0, .ref a)]) h 0 rfl (by decide) dX4_init_90 (by decide) rfl ?_
  refine r_goto h 75 dX4_init_93 (by decide) ?_
  refine r_iload_n h 0 rfl rfl dX4_init_75 ?_
  refine r_iconst (v := 5) h dX4_init_76 (by decide) ?_
  refine r_icmp_ge h 96 dX4_init_77 (by decide) (fun c => absurd c (by decide)) (fun _ => ?_)
  refine r_aload_n h 1 rfl rfl dX4_init_80 ?_
  refine r_get (j := 0) (ci := 4) h ⟨_, _, _, rfl, by decide, wsin_4, wm_704⟩ 0 rfl rfl dX4_init_81 ?_
  refine r_bipush (v := 6) h dX4_init_84 (by decide) ?_
  refine r_iload_n h 0 rfl rfl dX4_init_86 ?_
  refine r_iadd h dX4_init_87 ?_
  refine J.top (y := (10 : Int32)) (by decide) ?_
  refine r_iconst (v := 4) h dX4_init_88 (by decide) ?_
  refine r_iast (ws' := ([(a, .inr (4, [.ref q1, .ref q2, .ref q3, .ref q4, .int 0, .int 0, .ref q5, .int 0, .int 0, .int 0, .int 0, .int 0, .long 0]))] ++ [(q1, .inl (D.1 100, 219, .inl (upd (upd (upd (upd (upd (upd (upd (upd (upd (upd (upd (fun _ => 0) ((0 : Int32)).toNatClampNeg (200 : Int32)) ((1 : Int32)).toNatClampNeg (200 : Int32)) ((2 : Int32)).toNatClampNeg (200 : Int32)) ((3 : Int32)).toNatClampNeg (200 : Int32)) ((4 : Int32)).toNatClampNeg (200 : Int32)) ((5 : Int32)).toNatClampNeg (200 : Int32)) ((6 : Int32)).toNatClampNeg (4 : Int32)) ((7 : Int32)).toNatClampNeg (4 : Int32)) ((8 : Int32)).toNatClampNeg (4 : Int32)) ((9 : Int32)).toNatClampNeg (4 : Int32)) ((10 : Int32)).toNatClampNeg (4 : Int32))))] ++ [(q2, .inl (D.1 100, 876, .inl (fun _ => 0)))] ++ [(q3, .inl (D.1 100, 219, .inl (fun _ => 0)))] ++ [(q4, .inl (D.1 100, 219, .inl (fun _ => 0)))] ++ [(q5, .inl (D.1 100, 90, .inl (fun _ => 0)))])) h 1 rfl (show ¬ (_ ∨ _) by decide) rfl dX4_init_89 ?_
  refine r_iinc (lv' := [(1, .int (5 : Int32)), (0, .ref a)]) h 0 rfl (by decide) dX4_init_90 (by decide) rfl ?_
  refine r_goto h 75 dX4_init_93 (by decide) ?_
  refine r_iload_n h 0 rfl rfl dX4_init_75 ?_
  refine r_iconst (v := 5) h dX4_init_76 (by decide) ?_
  refine r_icmp_ge h 96 dX4_init_77 (by decide) (fun _ => ?_) (fun c => absurd c (by decide))
  refine r_aload_n h 1 rfl rfl dX4_init_96 ?_
  refine r_get (j := 0) (ci := 4) h ⟨_, _, _, rfl, by decide, wsin_4, wm_704⟩ 0 rfl rfl dX4_init_97 ?_
  refine r_bipush (v := 11) h dX4_init_100 (by decide) ?_
  refine r_bipush (v := 100) h dX4_init_102 (by decide) ?_
  refine r_iast (ws' := ([(a, .inr (4, [.ref q1, .ref q2, .ref q3, .ref q4, .int 0, .int 0, .ref q5, .int 0, .int 0, .int 0, .int 0, .int 0, .long 0]))] ++ [(q1, .inl (D.1 100, 219, .inl (upd (upd (upd (upd (upd (upd (upd (upd (upd (upd (upd (upd (fun _ => 0) ((0 : Int32)).toNatClampNeg (200 : Int32)) ((1 : Int32)).toNatClampNeg (200 : Int32)) ((2 : Int32)).toNatClampNeg (200 : Int32)) ((3 : Int32)).toNatClampNeg (200 : Int32)) ((4 : Int32)).toNatClampNeg (200 : Int32)) ((5 : Int32)).toNatClampNeg (200 : Int32)) ((6 : Int32)).toNatClampNeg (4 : Int32)) ((7 : Int32)).toNatClampNeg (4 : Int32)) ((8 : Int32)).toNatClampNeg (4 : Int32)) ((9 : Int32)).toNatClampNeg (4 : Int32)) ((10 : Int32)).toNatClampNeg (4 : Int32)) ((11 : Int32)).toNatClampNeg (100 : Int32))))] ++ [(q2, .inl (D.1 100, 876, .inl (fun _ => 0)))] ++ [(q3, .inl (D.1 100, 219, .inl (fun _ => 0)))] ++ [(q4, .inl (D.1 100, 219, .inl (fun _ => 0)))] ++ [(q5, .inl (D.1 100, 90, .inl (fun _ => 0)))])) h 1 rfl (show ¬ (_ ∨ _) by decide) rfl dX4_init_104 ?_
  refine J.sub (ws' := mdW D (fun i => [a, q1, q2, q3, q4, q5].getD i 0) MDS0) [0, 1, 2, 3, 4, 5] rfl (by decide) ?_
  refine J.widen (k1 := 5) (n1 := 1623) (by decide) (by decide) ?_
  exact r_vret h hr dX4_init_105 ⟨rfl, _, rfl, rfl⟩
theorem app9 (a b c d e f g h i : va_W) : a ++ b ++ c ++ d ++ e ++ f ++ g ++ h ++ i = [a, b, c, d, e, f, g, h, i].flatten := by simp only [List.flatten_cons, List.flatten_nil, List.append_assoc, List.append_nil]
theorem tl_gen4 (a b c d e f g h i : va_W) : [a, b, c, d, [e, f, g, h, i].flatten].flatten = [a, b, c, d, e, f, g, h, i].flatten := by simp only [List.flatten_cons, List.flatten_nil, List.append_assoc, List.append_nil]
theorem qf_mk (a b c d : Nat) : va_up (va_up (va_up (va_up (fun _ => none) 0 (some a)) 1 (some b)) 2 (some c)) 3 (some d) = qf a b c d := by
  funext k; unfold va_up qf; by_cases h0 : k = 0 <;> by_cases h1 : k = 1 <;> by_cases h2 : k = 2 <;> by_cases h3 : k = 3 <;> simp_all
abbrev rmX3_init : Room := { frames := 3, cells := 71, slots := 1660, locals := 100 }
set_option maxHeartbeats 4000000 in
set_option maxRecDepth 100000 in
theorem CX3_init (l : Launch) (D : va_G) (a : Nat) : CtR l D yX3_init cX3_init 2 none rmX3_init 71 1660 [.ref a] [(a, .inr (3, [.null, .null, .null, .int 0, .null]))] (fun v w => v = none ∧ ∃ (r s t : Nat → Nat) (x : Nat) (q0 q1 q2 q3 : Nat → Nat), w = [rkW D a (r 0) (s 0) x (t 0) 0, rmW D r RS0, rmW D s RS0, txW D t TXS0, tlW D x q0 q1 q2 q3 RS0 RS0 RS0 RS0].flatten) := by
  refine CtR.of (own := RX3) (lv := [(0, .ref a)]) (by decide +kernel) rfl rfl (Nat.le_of_ble_eq_true rfl) rfl (fun X h hI ho hr => ?_)
  refine r_aload_n h 0 rfl rfl dX3_init_0 ?_
  refine r_objInit h wm_19 wm_oI wm_oC dX3_init_1 (Nat.le_of_ble_eq_true rfl) (Nat.le_of_ble_eq_true rfl) ?_
  refine r_aload_n h 0 rfl rfl dX3_init_4 ?_
  refine r_new (ci := 1) (N := 10) (fs := [.null, .null, .null, .null, .null, .null, .int 0, .int 0, .int 0, .int 0]) h ⟨_, _, tyX1, rfl, wsin_1, tyX1_ok, wm_22, wm_23, wm_2, fun j hj => by rcases (show j = 0 ∨ j = 1 ∨ j = 2 ∨ j = 3 ∨ j = 4 ∨ j = 5 ∨ j = 6 ∨ j = 7 ∨ j = 8 ∨ j = 9 by omega) with rfl | rfl | rfl | rfl | rfl | rfl | rfl | rfl | rfl | rfl <;> rfl⟩ dX3_init_5 ⟨by decide, by decide⟩ (fun q1 => ?_)
  refine r_dup h rfl dX3_init_8 ?_
  refine r_callI (wr := ([(a, .inr (3, [.null, .null, .null, .int 0, .null]))])) (rest := [.ref q1, .ref a]) h hdI_X1 wm_24 dX3_init_9 (CX1_init l D q1) rfl ⟨rfl, rfl⟩ ⟨by decide, by decide⟩ (Nat.le_of_ble_eq_true rfl) ⟨by decide, by decide⟩ rfl rfl (fun v w' hp => ?_)
  obtain ⟨rfl, r2, rfl, rfl⟩ := hp
  refine r_put (ws' := ([(a, .inr (3, [.ref (r2 0), .null, .null, .int 0, .null]))] ++ rmW D r2 RS0)) h gfp_X3_12 0 rfl (Nat.le_of_ble_eq_true rfl) rfl rfl rfl dX3_init_12 ?_
  refine r_aload_n h 0 rfl rfl dX3_init_15 ?_
  refine r_new (ci := 1) (N := 10) (fs := [.null, .null, .null, .null, .null, .null, .int 0, .int 0, .int 0, .int 0]) h ⟨_, _, tyX1, rfl, wsin_1, tyX1_ok, wm_22, wm_23, wm_2, fun j hj => by rcases (show j = 0 ∨ j = 1 ∨ j = 2 ∨ j = 3 ∨ j = 4 ∨ j = 5 ∨ j = 6 ∨ j = 7 ∨ j = 8 ∨ j = 9 by omega) with rfl | rfl | rfl | rfl | rfl | rfl | rfl | rfl | rfl | rfl <;> rfl⟩ dX3_init_16 ⟨by decide, by decide⟩ (fun q3 => ?_)
  refine r_dup h rfl dX3_init_19 ?_
  refine r_callI (wr := ([(a, .inr (3, [.ref (r2 0), .null, .null, .int 0, .null]))] ++ rmW D r2 RS0)) (rest := [.ref q3, .ref a]) h hdI_X1 wm_24 dX3_init_20 (CX1_init l D q3) rfl ⟨rfl, rfl⟩ ⟨by decide, by decide⟩ (Nat.le_of_ble_eq_true rfl) ⟨by decide, by decide⟩ rfl rfl (fun v w' hp => ?_)
  obtain ⟨rfl, r4, rfl, rfl⟩ := hp
  refine r_put (ws' := ([(a, .inr (3, [.ref (r2 0), .ref (r4 0), .null, .int 0, .null]))] ++ rmW D r2 RS0 ++ rmW D r4 RS0)) h gfp_X3_16 0 rfl (Nat.le_of_ble_eq_true rfl) rfl rfl rfl dX3_init_23 ?_
  refine r_aload_n h 0 rfl rfl dX3_init_26 ?_
  refine r_iconst (v := 4) h dX3_init_27 (by decide) ?_
  refine r_newq (N' := 4) h wm_22 ho (by decide) (by decide) (by decide) ⟨by decide, by decide⟩ dX3_init_28 (fun q5 => ?_)
  refine r_putF (ws' := ([(a, .inr (3, [.ref (r2 0), .ref (r4 0), .ref q5, .int 0, .null]))] ++ rmW D r2 RS0 ++ rmW D r4 RS0 ++ [(q5, .inl (D.1 101, 4, .inr (.inr (.inr (.inr (fun _ => none))))))])) h hI ff_X3_19 vwC3 0 rfl (Nat.le_of_ble_eq_true rfl) rfl rfl rfl dX3_init_31 ?_
  refine r_aload_n h 0 rfl rfl dX3_init_34 ?_
  refine r_iconst (v := 0) h dX3_init_35 (by decide) ?_
  refine r_put (ws' := ([(a, .inr (3, [.ref (r2 0), .ref (r4 0), .ref q5, .int (0 : Int32), .null]))] ++ rmW D r2 RS0 ++ rmW D r4 RS0 ++ [(q5, .inl (D.1 101, 4, .inr (.inr (.inr (.inr (fun _ => none))))))])) h gfp_X3_23 0 rfl (Nat.le_of_ble_eq_true rfl) rfl rfl rfl dX3_init_36 ?_
  refine r_aload_n h 0 rfl rfl dX3_init_39 ?_
  refine r_new (ci := 0) (N := 5) (fs := [.null, .int 0, .null, .int 0, .int 0]) h ⟨_, _, tyX0, rfl, wsin_0, tyX0_ok, wm_94, wm_95, wm_4, fun j hj => by rcases (show j = 0 ∨ j = 1 ∨ j = 2 ∨ j = 3 ∨ j = 4 by omega) with rfl | rfl | rfl | rfl | rfl <;> rfl⟩ dX3_init_40 ⟨by decide, by decide⟩ (fun q6 => ?_)
  refine r_dup h rfl dX3_init_43 ?_
  refine r_callIN (wr := ([(a, .inr (3, [.ref (r2 0), .ref (r4 0), .ref q5, .int (0 : Int32), .null]))] ++ rmW D r2 RS0 ++ rmW D r4 RS0 ++ [(q5, .inl (D.1 101, 4, .inr (.inr (.inr (.inr (fun _ => none))))))])) (rest := [.ref q6, .ref a]) h ho hdI_X0 dX3_init_44 (CX0_init l D q6) rfl ⟨rfl, rfl⟩ ⟨by decide, by decide⟩ (Nat.le_of_ble_eq_true rfl) ⟨by decide, by decide⟩ rfl rfl (fun v w' hp => ?_)
  obtain ⟨rfl, r7, rfl, rfl⟩ := hp
  refine r_putF (ws' := ([(a, .inr (3, [.ref (r2 0), .ref (r4 0), .ref q5, .int (0 : Int32), .ref (r7 0)]))] ++ rmW D r2 RS0 ++ rmW D r4 RS0 ++ [(q5, .inl (D.1 101, 4, .inr (.inr (.inr (.inr (fun _ => none))))))] ++ txW D r7 TXS0)) h hI ff_X3_30 vwC3 0 rfl (Nat.le_of_ble_eq_true rfl) rfl rfl rfl dX3_init_47 ?_
  refine r_iconst (v := 0) h dX3_init_50 (by decide) ?_
  refine r_istore_n (lv' := [(1, .int (0 : Int32)), (0, .ref a)]) h rfl dX3_init_51 (by decide) rfl ?_
  refine r_iload_n h 0 rfl rfl dX3_init_52 ?_
  refine r_iconst (v := 4) h dX3_init_53 (by decide) ?_
  refine r_icmp_ge h 76 dX3_init_54 (by decide) (fun c => absurd c (by decide)) (fun _ => ?_)
  refine r_aload_n h 1 rfl rfl dX3_init_57 ?_
  refine r_get (j := 2) (ci := 3) h ⟨_, _, _, rfl, by decide, wsin_3, wm_122⟩ 0 rfl rfl dX3_init_58 ?_
  refine r_iload_n h 0 rfl rfl dX3_init_61 ?_
  refine r_new (ci := 1) (N := 10) (fs := [.null, .null, .null, .null, .null, .null, .int 0, .int 0, .int 0, .int 0]) h ⟨_, _, tyX1, rfl, wsin_1, tyX1_ok, wm_22, wm_23, wm_2, fun j hj => by rcases (show j = 0 ∨ j = 1 ∨ j = 2 ∨ j = 3 ∨ j = 4 ∨ j = 5 ∨ j = 6 ∨ j = 7 ∨ j = 8 ∨ j = 9 by omega) with rfl | rfl | rfl | rfl | rfl | rfl | rfl | rfl | rfl | rfl <;> rfl⟩ dX3_init_62 ⟨by decide, by decide⟩ (fun q8 => ?_)
  refine r_dup h rfl dX3_init_65 ?_
  refine r_callI (wr := ([(a, .inr (3, [.ref (r2 0), .ref (r4 0), .ref q5, .int (0 : Int32), .ref (r7 0)]))] ++ rmW D r2 RS0 ++ rmW D r4 RS0 ++ [(q5, .inl (D.1 101, 4, .inr (.inr (.inr (.inr (fun _ => none))))))] ++ txW D r7 TXS0)) (rest := [.ref q8, .int (0 : Int32), .ref q5]) h hdI_X1 wm_24 dX3_init_66 (CX1_init l D q8) rfl ⟨rfl, rfl⟩ ⟨by decide, by decide⟩ (Nat.le_of_ble_eq_true rfl) ⟨by decide, by decide⟩ rfl rfl (fun v w' hp => ?_)
  obtain ⟨rfl, r9, rfl, rfl⟩ := hp
  refine r_astqf (ws' := ([(a, .inr (3, [.ref (r2 0), .ref (r4 0), .ref q5, .int (0 : Int32), .ref (r7 0)]))] ++ rmW D r2 RS0 ++ rmW D r4 RS0 ++ [(q5, .inl (D.1 101, 4, .inr (.inr (.inr (.inr (va_up (fun _ => none) 0 (some (r9 0))))))))] ++ txW D r7 TXS0 ++ rmW D r9 RS0)) h 23 28 0 rfl rfl (by decide) vp4_0 rfl dX3_init_69 ?_
  refine r_iinc (lv' := [(1, .int (1 : Int32)), (0, .ref a)]) h 0 rfl (by decide) dX3_init_70 (by decide) rfl ?_
  refine r_goto h 52 dX3_init_73 (by decide) ?_
  refine r_iload_n h 0 rfl rfl dX3_init_52 ?_
  refine r_iconst (v := 4) h dX3_init_53 (by decide) ?_
  refine r_icmp_ge h 76 dX3_init_54 (by decide) (fun c => absurd c (by decide)) (fun _ => ?_)
  refine r_aload_n h 1 rfl rfl dX3_init_57 ?_
  refine r_get (j := 2) (ci := 3) h ⟨_, _, _, rfl, by decide, wsin_3, wm_122⟩ 0 rfl rfl dX3_init_58 ?_
  refine r_iload_n h 0 rfl rfl dX3_init_61 ?_
  refine r_new (ci := 1) (N := 10) (fs := [.null, .null, .null, .null, .null, .null, .int 0, .int 0, .int 0, .int 0]) h ⟨_, _, tyX1, rfl, wsin_1, tyX1_ok, wm_22, wm_23, wm_2, fun j hj => by rcases (show j = 0 ∨ j = 1 ∨ j = 2 ∨ j = 3 ∨ j = 4 ∨ j = 5 ∨ j = 6 ∨ j = 7 ∨ j = 8 ∨ j = 9 by omega) with rfl | rfl | rfl | rfl | rfl | rfl | rfl | rfl | rfl | rfl <;> rfl⟩ dX3_init_62 ⟨by decide, by decide⟩ (fun q10 => ?_)
  refine r_dup h rfl dX3_init_65 ?_
  refine r_callI (wr := ([(a, .inr (3, [.ref (r2 0), .ref (r4 0), .ref q5, .int (0 : Int32), .ref (r7 0)]))] ++ rmW D r2 RS0 ++ rmW D r4 RS0 ++ [(q5, .inl (D.1 101, 4, .inr (.inr (.inr (.inr (va_up (fun _ => none) 0 (some (r9 0))))))))] ++ txW D r7 TXS0 ++ rmW D r9 RS0)) (rest := [.ref q10, .int (1 : Int32), .ref q5]) h hdI_X1 wm_24 dX3_init_66 (CX1_init l D q10) rfl ⟨rfl, rfl⟩ ⟨by decide, by decide⟩ (Nat.le_of_ble_eq_true rfl) ⟨by decide, by decide⟩ rfl rfl (fun v w' hp => ?_)
  obtain ⟨rfl, r11, rfl, rfl⟩ := hp
  refine r_astqf (ws' := ([(a, .inr (3, [.ref (r2 0), .ref (r4 0), .ref q5, .int (0 : Int32), .ref (r7 0)]))] ++ rmW D r2 RS0 ++ rmW D r4 RS0 ++ [(q5, .inl (D.1 101, 4, .inr (.inr (.inr (.inr (va_up (va_up (fun _ => none) 0 (some (r9 0))) 1 (some (r11 0))))))))] ++ txW D r7 TXS0 ++ rmW D r9 RS0 ++ rmW D r11 RS0)) h 23 39 1 rfl rfl (by decide) vp4_1 rfl dX3_init_69 ?_
  refine r_iinc (lv' := [(1, .int (2 : Int32)), (0, .ref a)]) h 0 rfl (by decide) dX3_init_70 (by decide) rfl ?_
  refine r_goto h 52 dX3_init_73 (by decide) ?_
  refine r_iload_n h 0 rfl rfl dX3_init_52 ?_
  refine r_iconst (v := 4) h dX3_init_53 (by decide) ?_
  refine r_icmp_ge h 76 dX3_init_54 (by decide) (fun c => absurd c (by decide)) (fun _ => ?_)
  refine r_aload_n h 1 rfl rfl dX3_init_57 ?_
  refine r_get (j := 2) (ci := 3) h ⟨_, _, _, rfl, by decide, wsin_3, wm_122⟩ 0 rfl rfl dX3_init_58 ?_
  refine r_iload_n h 0 rfl rfl dX3_init_61 ?_
  refine r_new (ci := 1) (N := 10) (fs := [.null, .null, .null, .null, .null, .null, .int 0, .int 0, .int 0, .int 0]) h ⟨_, _, tyX1, rfl, wsin_1, tyX1_ok, wm_22, wm_23, wm_2, fun j hj => by rcases (show j = 0 ∨ j = 1 ∨ j = 2 ∨ j = 3 ∨ j = 4 ∨ j = 5 ∨ j = 6 ∨ j = 7 ∨ j = 8 ∨ j = 9 by omega) with rfl | rfl | rfl | rfl | rfl | rfl | rfl | rfl | rfl | rfl <;> rfl⟩ dX3_init_62 ⟨by decide, by decide⟩ (fun q12 => ?_)
  refine r_dup h rfl dX3_init_65 ?_
  refine r_callI (wr := ([(a, .inr (3, [.ref (r2 0), .ref (r4 0), .ref q5, .int (0 : Int32), .ref (r7 0)]))] ++ rmW D r2 RS0 ++ rmW D r4 RS0 ++ [(q5, .inl (D.1 101, 4, .inr (.inr (.inr (.inr (va_up (va_up (fun _ => none) 0 (some (r9 0))) 1 (some (r11 0))))))))] ++ txW D r7 TXS0 ++ rmW D r9 RS0 ++ rmW D r11 RS0)) (rest := [.ref q12, .int (2 : Int32), .ref q5]) h hdI_X1 wm_24 dX3_init_66 (CX1_init l D q12) rfl ⟨rfl, rfl⟩ ⟨by decide, by decide⟩ (Nat.le_of_ble_eq_true rfl) ⟨by decide, by decide⟩ rfl rfl (fun v w' hp => ?_)
  obtain ⟨rfl, r13, rfl, rfl⟩ := hp
  refine r_astqf (ws' := ([(a, .inr (3, [.ref (r2 0), .ref (r4 0), .ref q5, .int (0 : Int32), .ref (r7 0)]))] ++ rmW D r2 RS0 ++ rmW D r4 RS0 ++ [(q5, .inl (D.1 101, 4, .inr (.inr (.inr (.inr (va_up (va_up (va_up (fun _ => none) 0 (some (r9 0))) 1 (some (r11 0))) 2 (some (r13 0))))))))] ++ txW D r7 TXS0 ++ rmW D r9 RS0 ++ rmW D r11 RS0 ++ rmW D r13 RS0)) h 23 50 2 rfl rfl (by decide) vp4_2 rfl dX3_init_69 ?_
  refine r_iinc (lv' := [(1, .int (3 : Int32)), (0, .ref a)]) h 0 rfl (by decide) dX3_init_70 (by decide) rfl ?_
  refine r_goto h 52 dX3_init_73 (by decide) ?_
  refine r_iload_n h 0 rfl rfl dX3_init_52 ?_
  refine r_iconst (v := 4) h dX3_init_53 (by decide) ?_
  refine r_icmp_ge h 76 dX3_init_54 (by decide) (fun c => absurd c (by decide)) (fun _ => ?_)
  refine r_aload_n h 1 rfl rfl dX3_init_57 ?_
  refine r_get (j := 2) (ci := 3) h ⟨_, _, _, rfl, by decide, wsin_3, wm_122⟩ 0 rfl rfl dX3_init_58 ?_
  refine r_iload_n h 0 rfl rfl dX3_init_61 ?_
  refine r_new (ci := 1) (N := 10) (fs := [.null, .null, .null, .null, .null, .null, .int 0, .int 0, .int 0, .int 0]) h ⟨_, _, tyX1, rfl, wsin_1, tyX1_ok, wm_22, wm_23, wm_2, fun j hj => by rcases (show j = 0 ∨ j = 1 ∨ j = 2 ∨ j = 3 ∨ j = 4 ∨ j = 5 ∨ j = 6 ∨ j = 7 ∨ j = 8 ∨ j = 9 by omega) with rfl | rfl | rfl | rfl | rfl | rfl | rfl | rfl | rfl | rfl <;> rfl⟩ dX3_init_62 ⟨by decide, by decide⟩ (fun q14 => ?_)
  refine r_dup h rfl dX3_init_65 ?_
  refine r_callI (wr := ([(a, .inr (3, [.ref (r2 0), .ref (r4 0), .ref q5, .int (0 : Int32), .ref (r7 0)]))] ++ rmW D r2 RS0 ++ rmW D r4 RS0 ++ [(q5, .inl (D.1 101, 4, .inr (.inr (.inr (.inr (va_up (va_up (va_up (fun _ => none) 0 (some (r9 0))) 1 (some (r11 0))) 2 (some (r13 0))))))))] ++ txW D r7 TXS0 ++ rmW D r9 RS0 ++ rmW D r11 RS0 ++ rmW D r13 RS0)) (rest := [.ref q14, .int (3 : Int32), .ref q5]) h hdI_X1 wm_24 dX3_init_66 (CX1_init l D q14) rfl ⟨rfl, rfl⟩ ⟨by decide, by decide⟩ (Nat.le_of_ble_eq_true rfl) ⟨by decide, by decide⟩ rfl rfl (fun v w' hp => ?_)
  obtain ⟨rfl, r15, rfl, rfl⟩ := hp
  refine r_astqf (ws' := ([(a, .inr (3, [.ref (r2 0), .ref (r4 0), .ref q5, .int (0 : Int32), .ref (r7 0)]))] ++ rmW D r2 RS0 ++ rmW D r4 RS0 ++ [(q5, .inl (D.1 101, 4, .inr (.inr (.inr (.inr (va_up (va_up (va_up (va_up (fun _ => none) 0 (some (r9 0))) 1 (some (r11 0))) 2 (some (r13 0))) 3 (some (r15 0))))))))] ++ txW D r7 TXS0 ++ rmW D r9 RS0 ++ rmW D r11 RS0 ++ rmW D r13 RS0 ++ rmW D r15 RS0)) h 23 61 3 rfl rfl (by decide) vp4_3 rfl dX3_init_69 ?_
  refine r_iinc (lv' := [(1, .int (4 : Int32)), (0, .ref a)]) h 0 rfl (by decide) dX3_init_70 (by decide) rfl ?_
  refine r_goto h 52 dX3_init_73 (by decide) ?_
  refine r_iload_n h 0 rfl rfl dX3_init_52 ?_
  refine r_iconst (v := 4) h dX3_init_53 (by decide) ?_
  refine r_icmp_ge h 76 dX3_init_54 (by decide) (fun _ => ?_) (fun c => absurd c (by decide))
  refine J.wse (ws' := [[(a, .inr (3, [.ref (r2 0), .ref (r4 0), .ref q5, .int (0 : Int32), .ref (r7 0)]))], rmW D r2 RS0, rmW D r4 RS0, [(q5, .inl (D.1 101, 4, .inr (.inr (.inr (.inr (va_up (va_up (va_up (va_up (fun _ => none) 0 (some (r9 0))) 1 (some (r11 0))) 2 (some (r13 0))) 3 (some (r15 0))))))))], txW D r7 TXS0, rmW D r9 RS0, rmW D r11 RS0, rmW D r13 RS0, rmW D r15 RS0].flatten) (app9 _ _ _ _ _ _ _ _ _) ?_
  refine J.wse (ws' := [[(a, .inr (3, [.ref (r2 0), .ref (r4 0), .ref q5, .int (0 : Int32), .ref (r7 0)]))], rmW D r2 RS0, rmW D r4 RS0, saW D q5 (r9 0) (r11 0) (r13 0) (r15 0), txW D r7 TXS0, rmW D r9 RS0, rmW D r11 RS0, rmW D r13 RS0, rmW D r15 RS0].flatten) (by rw [qf_mk]) ?_
  refine J.blk (ws' := [[(a, .inr (3, [.ref (r2 0), .ref (r4 0), .ref q5, .int (0 : Int32), .ref (r7 0)]))], rmW D r2 RS0, rmW D r4 RS0, txW D r7 TXS0, saW D q5 (r9 0) (r11 0) (r13 0) (r15 0), rmW D r9 RS0, rmW D r11 RS0, rmW D r13 RS0, rmW D r15 RS0].flatten) 9 [[(a, .inr (3, [.ref (r2 0), .ref (r4 0), .ref q5, .int (0 : Int32), .ref (r7 0)]))], rmW D r2 RS0, rmW D r4 RS0, saW D q5 (r9 0) (r11 0) (r13 0) (r15 0), txW D r7 TXS0, rmW D r9 RS0, rmW D r11 RS0, rmW D r13 RS0, rmW D r15 RS0] [0, 1, 2, 4, 3, 5, 6, 7, 8] rfl rfl rfl (by decide) ?_
  refine J.wse (ws' := [rkW D a (r2 0) (r4 0) q5 (r7 0) 0, rmW D r2 RS0, rmW D r4 RS0, txW D r7 TXS0, tlW D q5 r9 r11 r13 r15 RS0 RS0 RS0 RS0].flatten) (tl_gen4 _ _ _ _ _ _ _ _ _).symm ?_
  refine J.widen (k1 := 71) (n1 := 1660) (by decide) (by decide) ?_
  exact r_vret h hr dX3_init_76 ⟨rfl, r2, r4, r7, q5, r9, r11, r13, r15, rfl⟩

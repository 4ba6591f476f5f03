/-! the calls that tell: machine, rack, value, pile -/
section TELL2
variable {μ : MDS} {m c z p : Nat} {θ : Int32}
theorem o_machine (h : Cnt μ.1 m c z p) (hf : IF μ.1 z) (hh : IH μ.1) (x y : Int32) : Obs (FX3_machine θ (rsOf μ.1) x y) (FX4_machine μ x y) μ cd12 := by
  have hm := h.lm
  unfold FX3_machine FX4_machine
  rcases mach_chk (θ := θ) h x with ⟨h1, h2⟩ | ⟨j, hj, rfl, h1, h2⟩
  · rw [h1, h2, bX_l, o_b, if_pos z00, refd1, o_b, if_neg n10]
    exact Or.inl ⟨1, 0, rfl, by decide, rfl⟩
  · rw [h1, h2, bX_r, o_b, if_neg n10]
    rcases range_chk y 0 7 with ⟨g1, g2⟩ | ⟨g1, g2, g3, g4⟩
    · rw [g1, g2, bX_l, o_b, if_pos z00, refd2, o_b, if_neg n10]
      exact Or.inl ⟨2, 0, rfl, by decide, rfl⟩
    · rw [g1, g2, bX_r, o_b, if_neg n10, refd0, o_b, if_pos z00]
      obtain ⟨k, hk, rfl⟩ := nI_of2 (n := 7) rfl g3 g4
      unfold FX4_tellMachine
      rcases (show k = 7 ∨ k = 6 ∨ k < 6 by omega) with rfl | rfl | hk6
      · rw [if_pos (show nI 7 = 7 from rfl), if_pos (show (6 : Int32) ≤ nI 7 by decide), if_neg (show ¬ nI 7 = 6 by decide), c_cablesOf h, e_cablesOf (μ := rfz μ 0) h]
        exact Or.inr ⟨_, rfl, rfl⟩
      · rw [if_neg (show ¬ nI 6 = 7 by decide), if_pos (show nI 6 = 6 from rfl), if_pos (show (6 : Int32) ≤ nI 6 by decide), if_pos (show nI 6 = 6 from rfl), c_isFrozen h hj, e_isFrozen (μ := rfz μ 0) h hf hh hj, rfz_1, o_b]
        cases (firstFrom (qF μ.1 (μ.1 (19 + (6 * j + 3)))) 0 z).isSome
        · exact Or.inr ⟨0, rfl, rfl⟩
        · exact Or.inr ⟨1, rfl, rfl⟩
      · rw [if_neg (show ¬ nI k = 7 from fun e => by have := nI_inj (b := 7) e (by omega) (by omega); omega), if_neg (show ¬ nI k = 6 from fun e => by have := nI_inj (b := 6) e (by omega) (by omega); omega), if_neg (show ¬ (6 : Int32) ≤ nI k from nI_ge (b := 6) (by omega) (by omega)), rz_nm, h.hm, aM h hj k hk6, oM (by omega) k hk6]
        exact Or.inr ⟨_, rfl, rfl⟩
/-- what a rack tells at k: class and model -/
theorem t_rack (h : Cnt μ.1 m c z p) (hM : IM μ.1 m) (hO : IO μ.1 m) {j k : Nat} (hj : j ≤ 5) (hk : k ≤ 7) (h1 : FX3_checkRack (nI j) = some (.inr ())) : ∃ v, FX3_rack θ (rsOf μ.1) (nI j) (nI k) = some (.inr v) ∧ FX4_tellRack μ (nI j) (nI k) = some v := by
  have g1 : FX3_checkRange (nI k) 0 7 = some (.inr ()) := by
    rcases range_chk (nI k) 0 7 with ⟨-, g2⟩ | ⟨g, -⟩
    · unfold FX4_in at g2
      rw [if_neg (nI_pos (by omega)), if_neg (show ¬ (7 : Int32) < nI k from nI_nlt (a := 7) hk (by omega))] at g2
      cases g2
    · exact g
  have n1 : nI j ≠ -1 := nI_nm1 (by omega)
  unfold FX3_rack FX4_tellRack
  rw [h1, bX_r, g1, bX_r]
  rcases (show k = 0 ∨ k = 1 ∨ k = 2 ∨ k = 3 ∨ k = 4 ∨ k = 5 ∨ k = 6 ∨ k = 7 by omega) with rfl | rfl | rfl | rfl | rfl | rfl | rfl | rfl
  · refine ⟨μ.1 j, ?_, ?_⟩
    · show gd (¬ (nI j < 0 ∨ 6 ≤ (nI j).toNatClampNeg)) (some (Sum.inr (α := Nat) ((rsOf μ.1).2.2.2.2.1 (nI j).toNatClampNeg))) = _
      rw [gd_in (by omega) (by omega), nI_clamp (by omega), rz_lim _ (by omega)]
    · show gd (¬ ((0 + nI j) < 0 ∨ 219 ≤ (0 + nI j).toNatClampNeg)) (nmv (μ.1 (0 + nI j).toNatClampNeg) fun u8 => some u8) = _
      rw [Int32.zero_add, gd_in (by omega) (by omega), nI_clamp (by omega)]; rfl
  · refine ⟨sumTo (gl μ.1 (nI j) (-1)) m, ?_, ?_⟩
    · show (FX1_loadOfRack (rsOf μ.1) (nI j)).bind _ = _
      rw [c_loadOfRack h n1]; rfl
    · show (FX4_load μ (nI j) (-1)).bind _ = _
      rw [e_load h]; rfl
  · refine ⟨sumTo (gl μ.1 (nI j) 0) m, ?_, ?_⟩
    · show (FX1_loadOfRackOnPhase (rsOf μ.1) (nI j) 0).bind _ = _
      rw [c_loadOfRackOnPhase h n1 (by decide)]; rfl
    · show (FX4_load μ (nI j) 0).bind _ = _
      rw [e_load h]; rfl
  · refine ⟨sumTo (gl μ.1 (nI j) 1) m, ?_, ?_⟩
    · show (FX1_loadOfRackOnPhase (rsOf μ.1) (nI j) 1).bind _ = _
      rw [c_loadOfRackOnPhase h n1 (by decide)]; rfl
    · show (FX4_load μ (nI j) 1).bind _ = _
      rw [e_load h]; rfl
  · refine ⟨sumTo (gl μ.1 (nI j) 2) m, ?_, ?_⟩
    · show (FX1_loadOfRackOnPhase (rsOf μ.1) (nI j) 2).bind _ = _
      rw [c_loadOfRackOnPhase h n1 (by decide)]; rfl
    · show (FX4_load μ (nI j) 2).bind _ = _
      rw [e_load h]; rfl
  · refine ⟨sumTo (gi μ.1 (nI j)) m, ?_, ?_⟩
    · show (FX1_machinesIn (rsOf μ.1) (nI j)).bind _ = _
      rw [c_machinesIn h]; rfl
    · show (FX4_machinesIn μ (nI j)).bind _ = _
      rw [e_machinesIn h]; rfl
  · refine ⟨10 - sumTo (gz μ.1 (nI j)) m, ?_, ?_⟩
    · show (FX1_slotsTakenIn (rsOf μ.1) (nI j)).bind _ = _
      rw [c_slotsTaken h]; rfl
    · show (FX4_freeSlots μ (nI j)).bind _ = _
      rw [e_freeSlots h hM hO hj]; rfl
  · obtain ⟨q1, v, q2⟩ := e_greatest h hM hO hj
    refine ⟨v, ?_, ?_⟩
    · show (FX1_greatestSizeFor (rsOf μ.1) (nI j)).bind _ = _
      rw [q2]; rfl
    · show FX4_tellRack_L83 μ (nI j) (fun (y2_3 : Int32) => some y2_3) FU (4 : Int32) = _
      rw [← q1, q2]
theorem o_rack (h : Cnt μ.1 m c z p) (hM : IM μ.1 m) (hO : IO μ.1 m) (x y : Int32) : Obs (FX3_rack θ (rsOf μ.1) x y) (FX4_rack μ x y) μ cd12 := by
  unfold FX4_rack
  rcases rack_chk x with ⟨h1, h2⟩ | ⟨j, hj, rfl, h1, h2⟩
  · unfold FX3_rack
    rw [h1, h2, bX_l, o_b, if_pos z00, refd1, o_b, if_neg n10]
    exact Or.inl ⟨1, 0, rfl, by decide, rfl⟩
  · rw [h2, o_b, if_neg n10]
    rcases range_chk y 0 7 with ⟨g1, g2⟩ | ⟨g1, g2, g3, g4⟩
    · unfold FX3_rack
      rw [h1, g1, g2, bX_r, bX_l, o_b, if_pos z00, refd2, o_b, if_neg n10]
      exact Or.inl ⟨2, 0, rfl, by decide, rfl⟩
    · obtain ⟨k, hk, rfl⟩ := nI_of2 (n := 7) rfl g3 g4
      obtain ⟨v, q1, q2⟩ := t_rack (μ := rfz μ 0) (θ := θ) h hM hO hj hk h1
      rw [g2, o_b, if_neg n10, refd0, o_b, if_pos z00, q2]
      exact Or.inr ⟨v, q1, rfl⟩
/-- what the room tells at k -/
theorem t_value (h : Cnt μ.1 m c z p) (hM : IM μ.1 m) (hc : IC μ.1 m c) {k : Nat} (hk : k ≤ 13) : ∃ v, FX3_value θ (rsOf μ.1) (nI k) = some (.inr v) ∧ FX4_tellValue μ (nI k) = some v := by
  have g1 : FX3_checkRange (nI k) 0 13 = some (.inr ()) := by
    rcases range_chk (nI k) 0 13 with ⟨-, g2⟩ | ⟨g, -⟩
    · unfold FX4_in at g2
      rw [if_neg (nI_pos (by omega)), if_neg (show ¬ (13 : Int32) < nI k from nI_nlt (a := 13) hk (by omega))] at g2
      cases g2
    · exact g
  unfold FX3_value FX4_tellValue
  rw [g1, bX_r]
  rcases (show k = 0 ∨ k = 1 ∨ k = 2 ∨ k = 3 ∨ k = 4 ∨ k = 5 ∨ k = 6 ∨ k = 7 ∨ k = 8 ∨ k = 9 ∨ k = 10 ∨ k = 11 ∨ k = 12 ∨ k = 13 by omega) with rfl | rfl | rfl | rfl | rfl | rfl | rfl | rfl | rfl | rfl | rfl | rfl | rfl | rfl
  · exact ⟨μ.1 13, rfl, rfl⟩
  · refine ⟨sumTo (gs μ.1) m, ?_, ?_⟩
    · show (FX1_machinesStanding (rsOf μ.1)).bind _ = _
      rw [c_machinesStanding h]; rfl
    · show (FX4_standing μ).bind _ = _
      rw [e_standing h]; rfl
  · exact ⟨μ.1 14, rfl, rfl⟩
  · exact ⟨μ.1 15, rfl, rfl⟩
  · exact ⟨μ.1 12, rfl, rfl⟩
  · exact ⟨μ.1 11, rfl, rfl⟩
  · refine ⟨sumTo (gl μ.1 (-1) 0) m, ?_, ?_⟩
    · show (FX1_loadOfPhase (rsOf μ.1) 0).bind _ = _
      rw [c_loadOfPhase h (by decide)]; rfl
    · show (FX4_load μ (-1) 0).bind _ = _
      rw [e_load h]; rfl
  · refine ⟨sumTo (gl μ.1 (-1) 1) m, ?_, ?_⟩
    · show (FX1_loadOfPhase (rsOf μ.1) 1).bind _ = _
      rw [c_loadOfPhase h (by decide)]; rfl
    · show (FX4_load μ (-1) 1).bind _ = _
      rw [e_load h]; rfl
  · refine ⟨sumTo (gl μ.1 (-1) 2) m, ?_, ?_⟩
    · show (FX1_loadOfPhase (rsOf μ.1) 2).bind _ = _
      rw [c_loadOfPhase h (by decide)]; rfl
    · show (FX4_load μ (-1) 2).bind _ = _
      rw [e_load h]; rfl
  · refine ⟨gd3 μ.1 m, ?_, ?_⟩
    · show (FX1_difference (rsOf μ.1)).bind _ = _
      rw [c_difference h]; rfl
    · show (FX4_difference μ).bind _ = _
      rw [e_difference h hM]; rfl
  · refine ⟨wr μ.1 m c, ?_, ?_⟩
    · show (FX1_firstWrong (rsOf μ.1)).bind _ = _
      rw [c_wrong h hc]; rfl
    · show (FX4_wrong μ).bind _ = _
      rw [e_wrong h hM hc]; rfl
  · exact ⟨μ.1 16, rfl, rfl⟩
  · exact ⟨μ.1 17, rfl, rfl⟩
  · exact ⟨μ.1 18, rfl, rfl⟩
theorem o_value (h : Cnt μ.1 m c z p) (hM : IM μ.1 m) (hc : IC μ.1 m c) (y : Int32) : Obs (FX3_value θ (rsOf μ.1) y) (FX4_value μ y) μ cda := by
  unfold FX4_value
  rcases range_chk y 0 13 with ⟨g1, g2⟩ | ⟨g1, g2, g3, g4⟩
  · unfold FX3_value
    rw [g1, g2, bX_l, o_b, if_pos z00, refd1, o_b, if_neg n10]
    exact Or.inl ⟨2, 0, rfl, by decide, rfl⟩
  · obtain ⟨k, hk, rfl⟩ := nI_of2 (n := 13) rfl g3 g4
    obtain ⟨v, q1, q2⟩ := t_value (μ := rfz μ 0) (θ := θ) h hM hc hk
    rw [g2, o_b, if_neg n10, refd0, o_b, if_pos z00, q2]
    exact Or.inr ⟨v, q1, rfl⟩
theorem o_pile (h : Cnt μ.1 m c z p) (x y : Int32) : Obs (FX3_pile θ (rsOf μ.1) x y) (FX4_pile μ x y) μ cd12 := by
  have hp := h.lp
  unfold FX3_pile FX4_pile
  by_cases h0 : 0 ≤ x
  · rw [if_pos h0, if_pos h0]
    rcases range_chk y 0 3 with ⟨g1, g2⟩ | ⟨g1, g2, g3, g4⟩
    · unfold FX4_pile_J23
      rw [g1, g2, bX_l, o_b, if_pos z00, refd2, o_b, if_neg n10]
      exact Or.inl ⟨2, 0, rfl, by decide, rfl⟩
    · obtain ⟨k, hk, rfl⟩ := nI_of2 (n := 3) rfl g3 g4
      unfold FX4_pile_J23
      rw [g1, g2, bX_r, o_b, if_neg n10, refd0, o_b, if_pos z00, nmv_eq, rz_ns, g16, cl16, rfz_1, h.hp, nmv_eq]
      rcases pk_ix x (n := p) (by omega) with hx | hx | ⟨j, hj, rfl⟩
      · exact absurd h0 (Int32.not_le.mpr hx)
      · rw [if_neg (Int32.not_lt.mpr hx)]
        have hneg : nI p - 1 - x < 0 := by
          have e := pk_sub_toInt (a := p) (b := 1) (by omega) (by omega)
          rw [Int32.le_iff_toInt_le, nI_toInt (by omega)] at hx
          have hx2 := x.toInt_lt
          rw [Int32.lt_iff_toInt_lt, Int32.toInt_sub, show (1 : Int32) = nI 1 from rfl, e, show (0 : Int32).toInt = 0 from rfl, Int.bmod_eq_of_le (by omega) (by omega)]
          omega
        rw [at_neg hneg]
        exact Or.inr ⟨-1, rfl, rfl⟩
      · rw [if_pos (nI_lt hj (by omega))]
        have e1 : nI p - 1 - nI j = nI (p - 1 - j) := by rw [show (1 : Int32) = nI 1 from rfl, pk_sub (by omega), pk_sub (by omega)]
        unfold FX4_tellPile
        rw [g16, cl16, rfz_1, h.hp, nmv_eq, nmv_eq, e1, aP h (by omega) k (by omega)]
        have e2 : (139 : Int32) + 4 * nI (p - 1 - j) + nI k = nI (139 + (4 * (p - 1 - j) + k)) := by
          rw [show (4 : Int32) = nI 4 from rfl, show (139 : Int32) = nI 139 from rfl, pk_mul, nI_add, nI_add, Nat.add_assoc]
        rw [e2, gd_in (by omega) (by omega), nI_clamp (by omega)]
        exact Or.inr ⟨_, rfl, rfl⟩
  · rw [if_neg h0, if_neg h0]
    unfold FX4_pile_J23
    rw [refd1, o_b, if_neg n10]
    exact Or.inl ⟨1, 0, rfl, by decide, rfl⟩
end TELL2

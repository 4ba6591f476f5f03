/-! the law: its loop (printed by wip/gen/fin.py) -/
theorem it1 {c : Prop} [Decidable c] {A B : Option Int32} (h1 : c → A = some 1) (h2 : ¬ c → B = some 1) : (if c then A else B) = some 1 := by
  by_cases h : c
  · rw [if_pos h]; exact h1 h
  · rw [if_neg h]; exact h2 h
section ZS
variable {θ : Int32} {ρ S0 S1 S2 S3 : RS} {τ : TXS} {O : Nat → Int64}
theorem z_setLimit (x1 x2 : Int32) : FL_setLimit θ ρ S0 S1 S2 S3 x1 x2 O = gFL cd12 (FX3_setLimit θ ρ S0 S1 S2 S3 x1 x2) θ ρ S0 S1 S2 S3 O := by
  unfold FL_setLimit gFL
  cases FX3_setLimit θ ρ S0 S1 S2 S3 x1 x2 with
  | none => rfl
  | some r =>
    cases r with
    | inl k => exact (cd_12 k (fun v => (v, θ, ρ, S0, S1, S2, S3, O))).symm
    | inr r => rfl
theorem z_setTray (x1 x2 : Int32) : FL_setTray θ ρ S0 S1 S2 S3 x1 x2 O = gFL cd12 (FX3_setTray θ ρ S0 S1 S2 S3 x1 x2) θ ρ S0 S1 S2 S3 O := by
  unfold FL_setTray gFL
  cases FX3_setTray θ ρ S0 S1 S2 S3 x1 x2 with
  | none => rfl
  | some r =>
    cases r with
    | inl k => exact (cd_12 k (fun v => (v, θ, ρ, S0, S1, S2, S3, O))).symm
    | inr r => rfl
theorem z_setLevel (x1 : Int32) : FL_setLevel θ ρ S0 S1 S2 S3 x1 O = gFL cda (FX3_setLevel θ ρ S0 S1 S2 S3 x1) θ ρ S0 S1 S2 S3 O := by
  unfold FL_setLevel gFL
  cases FX3_setLevel θ ρ S0 S1 S2 S3 x1 with
  | none => rfl
  | some r =>
    cases r with
    | inl k => exact (cd_a k (fun v => (v, θ, ρ, S0, S1, S2, S3, O))).symm
    | inr r => rfl
theorem z_addMachine (x1 x2 x3 x4 : Int32) : FL_addMachine θ ρ S0 S1 S2 S3 x1 x2 x3 x4 O = gFL cd23 (FX3_addMachine θ ρ S0 S1 S2 S3 x1 x2 x3 x4) θ ρ S0 S1 S2 S3 O := by
  unfold FL_addMachine gFL
  cases FX3_addMachine θ ρ S0 S1 S2 S3 x1 x2 x3 x4 with
  | none => rfl
  | some r =>
    cases r with
    | inl k => exact (cd_23 k (fun v => (v, θ, ρ, S0, S1, S2, S3, O))).symm
    | inr r => rfl
theorem z_addCable (x1 x2 x3 : Int32) : FL_addCable θ ρ S0 S1 S2 S3 x1 x2 x3 O = gFL cd123 (FX3_addCable θ ρ S0 S1 S2 S3 x1 x2 x3) θ ρ S0 S1 S2 S3 O := by
  unfold FL_addCable gFL
  cases FX3_addCable θ ρ S0 S1 S2 S3 x1 x2 x3 with
  | none => rfl
  | some r =>
    cases r with
    | inl k => exact (cd_123 k (fun v => (v, θ, ρ, S0, S1, S2, S3, O))).symm
    | inr r => rfl
theorem z_removeCable (x1 : Int32) : FL_removeCable θ ρ S0 S1 S2 S3 x1 O = gFL cdi (FX3_removeCable θ ρ S0 S1 S2 S3 x1) θ ρ S0 S1 S2 S3 O := by
  unfold FL_removeCable gFL
  cases FX3_removeCable θ ρ S0 S1 S2 S3 x1 with
  | none => rfl
  | some r =>
    cases r with
    | inl k => exact (cd_i k (fun v => (v, θ, ρ, S0, S1, S2, S3, O))).symm
    | inr r => rfl
theorem z_addFreeze (x1 x2 x3 : Int32) : FL_addFreeze θ ρ S0 S1 S2 S3 x1 x2 x3 O = gFL cd23 (FX3_addFreeze θ ρ S0 S1 S2 S3 x1 x2 x3) θ ρ S0 S1 S2 S3 O := by
  unfold FL_addFreeze gFL
  cases FX3_addFreeze θ ρ S0 S1 S2 S3 x1 x2 x3 with
  | none => rfl
  | some r =>
    cases r with
    | inl k => exact (cd_23 k (fun v => (v, θ, ρ, S0, S1, S2, S3, O))).symm
    | inr r => rfl
theorem z_removeFreeze (x1 : Int32) : FL_removeFreeze θ ρ S0 S1 S2 S3 x1 O = gFL cdi (FX3_removeFreeze θ ρ S0 S1 S2 S3 x1) θ ρ S0 S1 S2 S3 O := by
  unfold FL_removeFreeze gFL
  cases FX3_removeFreeze θ ρ S0 S1 S2 S3 x1 with
  | none => rfl
  | some r =>
    cases r with
    | inl k => exact (cd_i k (fun v => (v, θ, ρ, S0, S1, S2, S3, O))).symm
    | inr r => rfl
theorem z_pass (x1 : Int32) : FL_pass θ ρ S0 S1 S2 S3 x1 O = gFL cd23 (FX3_pass θ ρ S0 S1 S2 S3 x1) θ ρ S0 S1 S2 S3 O := by
  unfold FL_pass gFL
  cases FX3_pass θ ρ S0 S1 S2 S3 x1 with
  | none => rfl
  | some r =>
    cases r with
    | inl k => exact (cd_23 k (fun v => (v, θ, ρ, S0, S1, S2, S3, O))).symm
    | inr r => rfl
theorem z_machine (x1 x2 : Int32) : FL_machine θ ρ x1 x2 O = gFO cd12 (FX3_machine θ ρ x1 x2) O := by
  unfold FL_machine gFO
  cases FX3_machine θ ρ x1 x2 with
  | none => rfl
  | some r =>
    cases r with
    | inl k => exact (cd_12 k (fun v => (v, O))).symm
    | inr r => rfl
theorem z_rack (x1 x2 : Int32) : FL_rack θ ρ x1 x2 O = gFO cd12 (FX3_rack θ ρ x1 x2) O := by
  unfold FL_rack gFO
  cases FX3_rack θ ρ x1 x2 with
  | none => rfl
  | some r =>
    cases r with
    | inl k => exact (cd_12 k (fun v => (v, O))).symm
    | inr r => rfl
theorem z_slot (x1 x2 : Int32) : FL_slot θ ρ x1 x2 O = gFO cdi (FX3_slot θ ρ x1 x2) O := by
  unfold FL_slot gFO
  cases FX3_slot θ ρ x1 x2 with
  | none => rfl
  | some r =>
    cases r with
    | inl k => exact (cd_i k (fun v => (v, O))).symm
    | inr r => rfl
theorem z_cable (x1 x2 : Int32) : FL_cable θ ρ x1 x2 O = gFO cd12 (FX3_cable θ ρ x1 x2) O := by
  unfold FL_cable gFO
  cases FX3_cable θ ρ x1 x2 with
  | none => rfl
  | some r =>
    cases r with
    | inl k => exact (cd_12 k (fun v => (v, O))).symm
    | inr r => rfl
theorem z_tray (x1 : Int32) : FL_tray θ ρ x1 O = gFO cdi (FX3_tray θ ρ x1) O := by
  unfold FL_tray gFO
  cases FX3_tray θ ρ x1 with
  | none => rfl
  | some r =>
    cases r with
    | inl k => exact (cd_i k (fun v => (v, O))).symm
    | inr r => rfl
theorem z_value (x1 : Int32) : FL_value θ ρ x1 O = gFO cda (FX3_value θ ρ x1) O := by
  unfold FL_value gFO
  cases FX3_value θ ρ x1 with
  | none => rfl
  | some r =>
    cases r with
    | inl k => exact (cd_a k (fun v => (v, O))).symm
    | inr r => rfl
theorem z_move (x1 x2 : Int32) : FL_move θ ρ S0 S1 S2 S3 x1 x2 O = gFL cd12 (FX3_move θ ρ S0 S1 S2 S3 x1 x2) θ ρ S0 S1 S2 S3 O := by
  unfold FL_move gFL
  cases FX3_move θ ρ S0 S1 S2 S3 x1 x2 with
  | none => rfl
  | some r =>
    cases r with
    | inl k => exact (cd_12 k (fun v => (v, θ, ρ, S0, S1, S2, S3, O))).symm
    | inr r => rfl
theorem z_change (x1 x2 : Int32) : FL_change θ ρ S0 S1 S2 S3 x1 x2 O = gFL cd12 (FX3_change θ ρ S0 S1 S2 S3 x1 x2) θ ρ S0 S1 S2 S3 O := by
  unfold FL_change gFL
  cases FX3_change θ ρ S0 S1 S2 S3 x1 x2 with
  | none => rfl
  | some r =>
    cases r with
    | inl k => exact (cd_12 k (fun v => (v, θ, ρ, S0, S1, S2, S3, O))).symm
    | inr r => rfl
theorem z_pile (x1 x2 : Int32) : FL_pile θ ρ x1 x2 O = gFO cd12 (FX3_pile θ ρ x1 x2) O := by
  unfold FL_pile gFO
  cases FX3_pile θ ρ x1 x2 with
  | none => rfl
  | some r =>
    cases r with
    | inl k => exact (cd_12 k (fun v => (v, O))).symm
    | inr r => rfl
theorem z_mayMove (x1 x2 : Int32) : FL_mayMove θ ρ x1 x2 O = gFA cd12 (FX3_mayMove θ ρ x1 x2) ρ O := by
  unfold FL_mayMove gFA
  cases FX3_mayMove θ ρ x1 x2 with
  | none => rfl
  | some r =>
    cases r with
    | inl k => exact (cd_12 k (fun v => (v, ρ, O))).symm
    | inr r => rfl
theorem z_bestRack (x1 : Int32) : FL_bestRack θ ρ x1 O = gFA cdi (FX3_bestRack θ ρ x1) ρ O := by
  unfold FL_bestRack gFA
  cases FX3_bestRack θ ρ x1 with
  | none => rfl
  | some r =>
    cases r with
    | inl k => exact (cd_i k (fun v => (v, ρ, O))).symm
    | inr r => rfl
theorem z_undo : FL_undo θ ρ S0 S1 S2 S3 O = gFL cds (FX3_undo θ ρ S0 S1 S2 S3) θ ρ S0 S1 S2 S3 O := by
  unfold FL_undo gFL
  cases FX3_undo θ ρ S0 S1 S2 S3 with
  | none => rfl
  | some r =>
    cases r with
    | inl k => exact (cd_s k (fun v => (v, θ, ρ, S0, S1, S2, S3, O))).symm
    | inr r => rfl
end ZS
section FN
variable {μ : MDS} {θ : Int32} {π S0 S1 S2 S3 : RS} {τ : TXS} {xs : Nat → Int32} {L N : Nat} {i : Int32} {O : Nat → Int64} {k n m c z p : Nat}
theorem fin_append (hR : Rt xs L N i) (hS : Sim θ (rsOf μ.1) π τ μ S0 S1 S2 S3) (x : Int32) : ((FL_append θ τ x O).bind fun z5 => (FX4_append μ x).bind fun z11 => (FX4_thrown z11.2).bind fun z13 => if z13 = z5.1 then (if z5.1 = 0 then (if (lg_cmp (z5.2.2 ((0 : Int32)).toNatClampNeg) z11.1.toInt64) = 0 then (FL_law xs L N i z5.2.2 θ (rsOf μ.1) π z5.2.1 z11.2 S0 S1 S2 S3) else (some (0 : Int32))) else (FL_law xs L N i z5.2.2 θ (rsOf μ.1) π z5.2.1 z11.2 S0 S1 S2 S3)) else (some (0 : Int32))) = some 1 := by
  obtain ⟨-, hI, hp, ⟨n, hT⟩, hV⟩ := id hS
  rcases o_append (θ := θ) hT x with ⟨k, w, e1, hk, e2⟩ | ⟨hn, e1, e2⟩
  · have e : FL_append θ τ x O = some (cd23 k, τ, O) := by
      unfold FL_append
      rw [e1]
      exact (cd_23 k (fun v => (v, τ, O))).symm.trans (if_neg hk)
    rw [e, o_b, e2, o_b, thrown_z, o_b, if_pos rfl, if_neg hk]
    exact hR _ _ _ _ _ _ _ _ _ _ (sim_rfz hS _)
  · have e : FL_append θ τ x O = some (0, (upd τ.1 n x, τ.2.1, nI (n + 1), τ.2.2.2.1, τ.2.2.2.2.1, τ.2.2.2.2.2), vp_updL O ((0 : Int32)).toNatClampNeg (nI (n + 1)).toInt64) := by
      unfold FL_append
      rw [e1]
    have e3 : ∀ f, FX4_thrown (μ.1, μ.2.1, μ.2.2.1, μ.2.2.2.1, f, μ.2.2.2.2.2.1, 0, nI (n + 1), μ.2.2.2.2.2.2.2.2.1, μ.2.2.2.2.2.2.2.2.2.1, μ.2.2.2.2.2.2.2.2.2.2.1, μ.2.2.2.2.2.2.2.2.2.2.2.1, μ.2.2.2.2.2.2.2.2.2.2.2.2) = some 0 := fun _ => rfl
    rw [e, o_b, e2, o_b, e3, o_b, if_pos z00, if_pos z00]
    refine (if_pos (lgu O (nI (n + 1)))).trans ?_
    refine hR _ _ _ _ _ _ _ _ _ _ ⟨rfl, hI, hp, ⟨n + 1, ?_, rfl, rfl, by omega⟩, hV⟩
    show upd τ.1 n x = upd μ.2.2.2.2.1 n x
    rw [hT.1]
theorem fin_clear (hR : Rt xs L N i) (hS : Sim θ (rsOf μ.1) π τ μ S0 S1 S2 S3) : ((FX3_clearText θ τ).bind fun z5 => (FX4_clearText μ).bind fun z11 => if z5.1 = z11.1 then (FL_law xs L N i O θ (rsOf μ.1) π z5.2 z11.2 S0 S1 S2 S3) else (some (0 : Int32))) = some 1 := by
  obtain ⟨-, hI, hp, ⟨n, hT⟩, k, hV, hs⟩ := id hS
  obtain ⟨v, τ', μ', e1, e2, hT', m1, m2, m3⟩ := s_clear (θ := θ) hT
  rw [e1, o_b, e2, o_b, if_pos rfl]
  exact hR _ _ _ _ _ _ _ _ _ _ ⟨by rw [m1], by rw [m1]; exact hI, hp, ⟨0, hT'⟩, k, by rw [m2]; exact hV, m3.trans hs⟩
theorem fin_backable (hR : Rt xs L N i) (hS : Sim θ (rsOf μ.1) π τ μ S0 S1 S2 S3) (hI : In μ.1 m c z p) : ((FX3_backable θ (rsOf μ.1) π).bind fun z5 => (FX4_backable μ).bind fun z11 => if z5.1 = z11.1 then (FL_law xs L N i O θ (rsOf μ.1) z5.2 τ z11.2 S0 S1 S2 S3) else (some (0 : Int32))) = some 1 := by
  obtain ⟨v, F, K, π', e1, hz, e2, hF⟩ := s_backable (θ := θ) hI hS.2.2.1
  rw [e1, o_b, e2, o_b, if_pos rfl]
  obtain ⟨a, b, -, d, e⟩ := sim_kz (K := K) hS hF
  exact hR _ _ _ _ _ _ _ _ _ _ ⟨a, b, hz, d, e⟩
theorem fin_taken (hR : Rt xs L N i) (hS : Sim θ (rsOf μ.1) π τ μ S0 S1 S2 S3) (hI : In μ.1 m c z p) : ((FX3_taken θ (rsOf μ.1)).bind fun z5 => (FX4_taken μ).bind fun z11 => if (Op.cmpValue (FP.dcmp z5 z11.1) .l) = 0 then (FL_law xs L N i O θ (rsOf μ.1) π τ z11.2 S0 S1 S2 S3) else (if (Op.cmpValue (FP.dcmp z5 z5) .l) = 0 then (some (0 : Int32)) else (if (Op.cmpValue (FP.dcmp z11.1 z11.1) .l) = 0 then (some (0 : Int32)) else (FL_law xs L N i O θ (rsOf μ.1) π τ z11.2 S0 S1 S2 S3)))) = some 1 := by
  obtain ⟨t, ht, e1, e2⟩ := o_taken (θ := θ) hI.1 hI.2.1 hI.2.2.2.2.2.2
  rw [e1, o_b, e2, o_b, if_pos (dv_ok t ht).2]
  exact hR _ _ _ _ _ _ _ _ _ _ (sim_rfz hS _)
theorem fin_digest (hR : Rt xs L N i) (hS : Sim θ (rsOf μ.1) π τ μ S0 S1 S2 S3) (hI : In μ.1 m c z p) : ((FX3_digest θ (rsOf μ.1) τ).bind fun z5 => (FX4_digest μ).bind fun z11 => if (lg_cmp z5 z11.1) = 0 then (FL_law xs L N i O θ (rsOf μ.1) π τ z11.2 S0 S1 S2 S3) else (some (0 : Int32))) = some 1 := by
  obtain ⟨-, hN, hp, ⟨n, hT⟩, k, hV, hs⟩ := id hS
  obtain ⟨v, H, e1, e2⟩ := s_digest (τ := τ) hI hV.1 hs (hT.2.1.trans hT.2.2.1.symm)
  rw [e1, o_b, e2, o_b, if_pos (lgc v)]
  exact hR _ _ _ _ _ _ _ _ _ _ ⟨rfl, hN, hp, ⟨n, hT⟩, k, hV, hs⟩
theorem fin_plan (hR : Rt xs L N i) (hS : Sim θ (rsOf μ.1) π τ μ S0 S1 S2 S3) (hI : In μ.1 m c z p) : ((FX3_plan θ (rsOf μ.1) π τ S0 S1 S2 S3).bind fun z5 => (FX4_plan μ).bind fun z11 => if z5.1 = z11.1 then (FL_law xs L N i O z5.2.1 z5.2.2.1 z5.2.2.2.1 z5.2.2.2.2.1 z11.2 z5.2.2.2.2.2.1 z5.2.2.2.2.2.2.1 z5.2.2.2.2.2.2.2.1 z5.2.2.2.2.2.2.2.2) else (some (0 : Int32))) = some 1 := by
  obtain ⟨-, hN, hp, ⟨n, hT⟩, k, hV, hs⟩ := id hS
  obtain ⟨v, θ', S0', S1', S2', S3', π', τ', μ', k', e1, e2, h1, h2, h3, h4, h5⟩ := s_plan hV hs hI hT hp
  rw [e1, o_b, e2, o_b, if_pos rfl]
  exact hR _ _ _ _ _ _ _ _ _ _ ⟨rfl, h3, h1, ⟨n, h2⟩, k', h4, h5⟩
end FN
theorem law_loop (xs : Nat → Int32) {L : Nat} (hL : L ≤ 2560) : ∀ (N i : Nat), L + 5 ≤ i + 5 * N → i ≤ L + 4 → Rt xs L N (nI i) := by
  intro N
  induction N with
  | zero => intro i h1 h2; omega
  | succ N ih =>
    intro i h1 h2 O θ ρ π τ μ S0 S1 S2 S3 hS
    obtain ⟨rfl, hN, hp, hT, k, hV, hs⟩ := id hS
    obtain ⟨m, c, z, p, hI⟩ := id hN
    have hI : In μ.1 m c z p := hI
    rw [FL_law]
    refine it1 (fun _ => rfl) (fun hi => ?_)
    have e : ((Int32.ofNat L) - (5 : Int32)).toInt = (L : Int) - 5 := pk_sub_toInt (a := L) (b := 5) (by omega) (by omega)
    rw [Int32.lt_iff_toInt_lt, e, nI_toInt (by omega)] at hi
    have hi5 : i + 5 ≤ L := by omega
    have hR : Rt xs L N (nI i + 5) := by
      have e5 : nI i + 5 = nI (i + 5) := nI_add i 5
      rw [e5]
      exact ih (i + 5) (by omega) (by omega)
    have q1 : ∀ x : Option Int32, gd (¬ ((nI i + (1 : Int32)) < 0 ∨ L ≤ (nI i + (1 : Int32)).toNatClampNeg)) x = x := fun x => by
      rw [show nI i + (1 : Int32) = nI (i + 1) from nI_add i 1]
      exact gd_in (by omega) (by omega) x
    have q2 : ∀ x : Option Int32, gd (¬ ((nI i + (2 : Int32)) < 0 ∨ L ≤ (nI i + (2 : Int32)).toNatClampNeg)) x = x := fun x => by
      rw [show nI i + (2 : Int32) = nI (i + 2) from nI_add i 2]
      exact gd_in (by omega) (by omega) x
    have q3 : ∀ x : Option Int32, gd (¬ ((nI i + (3 : Int32)) < 0 ∨ L ≤ (nI i + (3 : Int32)).toNatClampNeg)) x = x := fun x => by
      rw [show nI i + (3 : Int32) = nI (i + 3) from nI_add i 3]
      exact gd_in (by omega) (by omega) x
    have q4 : ∀ x : Option Int32, gd (¬ ((nI i + (4 : Int32)) < 0 ∨ L ≤ (nI i + (4 : Int32)).toNatClampNeg)) x = x := fun x => by
      rw [show nI i + (4 : Int32) = nI (i + 4) from nI_add i 4]
      exact gd_in (by omega) (by omega) x
    refine (gd_in (k := i) (N := L) (by omega) (by omega) _).trans ?_
    refine (nmv_eq _ _).trans ?_
    generalize xs (nI i).toNatClampNeg &&& (31 : Int32) = u2
    refine it1 (fun _ => hR _ _ _ _ _ _ _ _ _ _ hS) (fun hr => ?_)
    refine it1 (fun _ => ?_) (fun u10 => ?_)
    · simp only [q1, q2]
      exact fin_chg hR hS (s_setLimit hV hs hN _ _) (z_setLimit _ _)
    refine it1 (fun _ => ?_) (fun u11 => ?_)
    · simp only [q1, q2]
      exact fin_chg hR hS (s_setTray hV hs hN _ _) (z_setTray _ _)
    refine it1 (fun _ => ?_) (fun u12 => ?_)
    · simp only [q1]
      exact fin_chg hR hS (s_setLevel hV hs hN _) (z_setLevel _)
    refine it1 (fun _ => ?_) (fun u13 => ?_)
    · simp only [q1, q2, q3, q4]
      exact fin_chg hR hS (s_addMachine hV hs hN _ _ _ _) (z_addMachine _ _ _ _)
    refine it1 (fun _ => ?_) (fun u14 => ?_)
    · simp only [q1, q2, q3]
      exact fin_chg hR hS (s_addCable hV hs hN _ _ _) (z_addCable _ _ _)
    refine it1 (fun _ => ?_) (fun u15 => ?_)
    · simp only [q1]
      exact fin_chg hR hS (s_removeCable hV hs hN _) (z_removeCable _)
    refine it1 (fun _ => ?_) (fun u16 => ?_)
    · simp only [q1, q2, q3]
      exact fin_chg hR hS (s_addFreeze hV hs hN _ _ _) (z_addFreeze _ _ _)
    refine it1 (fun _ => ?_) (fun u17 => ?_)
    · simp only [q1]
      exact fin_chg hR hS (s_removeFreeze hV hs hN _) (z_removeFreeze _)
    refine it1 (fun _ => ?_) (fun u18 => ?_)
    · simp only [q1]
      exact fin_chg hR hS (s_pass hV hs hN _) (z_pass _)
    refine it1 (fun _ => ?_) (fun u19 => ?_)
    · simp only [q1, q2]
      exact fin_obs hR hS (o_machine hI.1 hI.2.2.2.1 hI.2.2.2.2.2.1 _ _) (z_machine _ _)
    refine it1 (fun _ => ?_) (fun u20 => ?_)
    · simp only [q1, q2]
      exact fin_obs hR hS (o_rack hI.1 hI.2.1 hI.2.2.2.2.2.2 _ _) (z_rack _ _)
    refine it1 (fun _ => ?_) (fun u21 => ?_)
    · simp only [q1, q2]
      exact fin_obs hR hS (o_slot hI.1 hI.2.1 _ _) (z_slot _ _)
    refine it1 (fun _ => ?_) (fun u22 => ?_)
    · simp only [q1, q2]
      exact fin_obs hR hS (o_cable hI.1 hI.2.1 hI.2.2.1 _ _) (z_cable _ _)
    refine it1 (fun _ => ?_) (fun u23 => ?_)
    · simp only [q1]
      exact fin_obs hR hS (o_tray hI.1 hI.2.2.1 _) (z_tray _)
    refine it1 (fun _ => ?_) (fun u24 => ?_)
    · simp only [q1]
      exact fin_obs hR hS (o_value hI.1 hI.2.1 hI.2.2.1 _) (z_value _)
    refine it1 (fun _ => ?_) (fun u25 => ?_)
    · simp only [q1, q2]
      exact fin_chg hR hS (s_move hV hs hI _ _) (z_move _ _)
    refine it1 (fun _ => ?_) (fun u26 => ?_)
    · simp only [q1, q2]
      exact fin_chg hR hS (s_change hV hs hI _ _) (z_change _ _)
    refine it1 (fun _ => ?_) (fun u27 => ?_)
    · exact fin_chg0 hR hS (s_backOut hV hs hI)
    refine it1 (fun _ => ?_) (fun u28 => ?_)
    · simp only [q1, q2]
      exact fin_obs hR hS (o_pile hI.1 _ _) (z_pile _ _)
    refine it1 (fun _ => ?_) (fun u29 => ?_)
    · simp only [q1, q2]
      exact fin_ask hR hS (s_mayMove hI _ _) (z_mayMove _ _)
    refine it1 (fun _ => ?_) (fun u30 => ?_)
    · simp only [q1]
      exact fin_ask hR hS (s_bestRack hI _) (z_bestRack _)
    refine it1 (fun _ => ?_) (fun u31 => ?_)
    · exact fin_ask0 hR hS (s_bestChange hI)
    refine it1 (fun _ => ?_) (fun u32 => ?_)
    · exact fin_backable hR hS hI
    refine it1 (fun _ => ?_) (fun u33 => ?_)
    · exact fin_taken hR hS hI
    refine it1 (fun _ => ?_) (fun u34 => ?_)
    · simp only [q1]
      exact fin_append hR hS _
    refine it1 (fun _ => ?_) (fun u35 => ?_)
    · exact fin_clear hR hS
    refine it1 (fun _ => ?_) (fun u36 => ?_)
    · exact fin_plan hR hS hI
    refine it1 (fun _ => ?_) (fun u37 => ?_)
    · exact fin_chg hR hS (s_undo hV hs) (z_undo)
    refine it1 (fun _ => ?_) (fun u38 => ?_)
    · exact fin_digest hR hS hI
    exfalso
    rw [not_or] at hr
    obtain ⟨j, -, hj, rfl⟩ := rng_nat (x := u2) (a := 0) (b := 28) (by omega) (by omega) (by rw [Int32.lt_iff_toInt_lt, nI_toInt (by omega)]; omega) (by rw [Int32.le_iff_toInt_le, nI_toInt (by omega)]; omega)
    rcases (show j = 0 ∨ j = 1 ∨ j = 2 ∨ j = 3 ∨ j = 4 ∨ j = 5 ∨ j = 6 ∨ j = 7 ∨ j = 8 ∨ j = 9 ∨ j = 10 ∨ j = 11 ∨ j = 12 ∨ j = 13 ∨ j = 14 ∨ j = 15 ∨ j = 16 ∨ j = 17 ∨ j = 18 ∨ j = 19 ∨ j = 20 ∨ j = 21 ∨ j = 22 ∨ j = 23 ∨ j = 24 ∨ j = 25 ∨ j = 26 ∨ j = 27 ∨ j = 28 by omega) with rfl | rfl | rfl | rfl | rfl | rfl | rfl | rfl | rfl | rfl | rfl | rfl | rfl | rfl | rfl | rfl | rfl | rfl | rfl | rfl | rfl | rfl | rfl | rfl | rfl | rfl | rfl | rfl | rfl
    · exact u10 rfl
    · exact u11 rfl
    · exact u12 rfl
    · exact u13 rfl
    · exact u14 rfl
    · exact u15 rfl
    · exact u16 rfl
    · exact u17 rfl
    · exact u18 rfl
    · exact u19 rfl
    · exact u20 rfl
    · exact u21 rfl
    · exact u22 rfl
    · exact u23 rfl
    · exact u24 rfl
    · exact u25 rfl
    · exact u26 rfl
    · exact u27 rfl
    · exact u28 rfl
    · exact u29 rfl
    · exact u30 rfl
    · exact u31 rfl
    · exact u32 rfl
    · exact u33 rfl
    · exact u34 rfl
    · exact u35 rfl
    · exact u36 rfl
    · exact u37 rfl
    · exact u38 rfl

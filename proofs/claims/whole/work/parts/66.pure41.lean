/-! plan: alike -/
section SP
variable {μ : MDS} {m c z p : Nat} {θ : Int32} {S0 S1 S2 S3 : RS} {k n : Nat}
theorem s_plan {τ : TXS} {π : RS} (h : SV μ.2.1 θ S0 S1 S2 S3 k) (hs : μ.2.2.2.2.2.1 = nI k) (hI : In μ.1 m c z p) (hT : Txt τ μ n) (hπ : Zr π) : ∃ v θ' S0' S1' S2' S3' π' τ' μ' k', FX3_plan θ (rsOf μ.1) π τ S0 S1 S2 S3 = some (v, θ', rsOf μ'.1, π', τ', S0', S1', S2', S3') ∧ FX4_plan μ = some (v, μ') ∧ Zr π' ∧ Txt τ' μ' n ∧ Inv μ'.1 ∧ SV μ'.2.1 θ' S0' S1' S2' S3' k' ∧ μ'.2.2.2.2.2.1 = nI k' := by
  obtain ⟨T, P, l0, a0, u, n0⟩ := τ
  obtain ⟨hT1, hT2, hl, hL⟩ := hT
  have hT1' : T = μ.2.2.2.2.1 := hT1
  have hT2' : l0 = nI n := hT2
  subst hT1' hT2'
  have al := al_cp μ.2.2.1 μ.1
  have h1 := ph1 (μ := μ) (F := μ.1) (A := μ.2.2.1) (L := n) (m := m) hl hL hI.1.hm hI.1.lm (fun (s2_μ : MDS) => nmv ((-10 : Int32) - s2_μ.2.2.2.2.2.2.2.2.1) fun u42 => some (u42, s2_μ)) n 0 0 u P μ.2.2.2.2.2.2.2.2.2.1 μ.2.2.2.2.2.2.2.2.2.2.1 μ.2.2.2.2.2.2.2.2.2.2.2.1 FU FU (by omega) (by omega) (by omega) (by show n < 1000; omega) (by show n < 1000; omega)
  unfold FX3_plan FX4_plan FX0_read
  rw [rz_nm, hI.1.hm]
  rcases h1 with ⟨e, τ', a, b, d, c1, c2, c3, c4, c5⟩ | ⟨l, P', v, q, a, b, d, f', c1, c2, c3, c4, c5, c6, c9, c7⟩
  · have c2' : FX0_read_L17 (nI m) (fun (y2_3 : Int32) (y2_2 : Int32) (s2_τ : TXS) => some (y2_2, s2_τ)) FU (0 : Int32) (-1) (μ.2.2.2.2.1, P, nI n, (0 : Int32), u, (0 : Int32)) = some (nI e, τ') := c2
    rw [c2', o_b, if_neg (show ¬ nI e = -1 from nI_nm1 (by omega))]
    refine ⟨-10 - nI e, θ, S0, S1, S2, S3, π, τ', pz μ μ.1 μ.2.2.1 e a b d, k, rfl, ?_, hπ, ⟨c3, c4, hl, hL⟩, hI.inv, h, hs⟩
    exact c5
  · have c1' : FX0_read_L17 (nI m) (fun (y2_3 : Int32) (y2_2 : Int32) (s2_τ : TXS) => some (y2_2, s2_τ)) FU (0 : Int32) (-1) (μ.2.2.2.2.1, P, nI n, (0 : Int32), u, (0 : Int32)) = some (-1, tx μ.2.2.2.2.1 P' n q v (0 + l.length)) := c1
    rw [c1', o_b, if_pos m11, rcopy hπ (zr_rsOf _), o_b]
    have em : FX4_plan_L10 (fun (s2_μ : MDS) => nmv ((-10 : Int32) - s2_μ.2.2.2.2.2.2.2.2.1) fun u42 => some (u42, s2_μ)) FU (μ.1, μ.2.1, μ.2.2.1, μ.2.2.2.1, μ.2.2.2.2.1, μ.2.2.2.2.2.1, (0 : Int32), μ.2.2.2.2.2.2.2.1, (0 : Int32), μ.2.2.2.2.2.2.2.2.2.1, μ.2.2.2.2.2.2.2.2.2.2.1, μ.2.2.2.2.2.2.2.2.2.2.2.1, μ.2.2.2.2.2.2.2.2.2.2.2.2) = FX4_plan_L54 (fun (y7_1 : Int32) (s7_μ : MDS) => (FX4_ends s7_μ (0 : Int32)).bind fun z37 => some (z37.1 + y7_1, z37.2)) FU (nI 0) (pz μ μ.1 (cpP μ.2.2.1 μ.1 219) 0 a b d) := by
      refine c7.trans ?_
      rw [FX4_plan_L10]
      show (if μ.2.2.2.2.2.2.2.1 ≤ nI q then _ else _) = _
      rw [if_pos (show μ.2.2.2.2.2.2.2.1 ≤ nI q by rw [hl]; exact nI_le c6 (by omega)), e_copies, o_b]
      rfl
    rw [em]
    unfold FX0_runIn
    have h2 := ph2 (μ := μ) (A := cpP μ.2.2.1 μ.1 219) (L := n) (P := P') (N := 0 + l.length) (q0 := q) (v0 := v) (m := m) (c := c) (z := z) hl hL c5 (fun (y7_1 : Int32) (s7_μ : MDS) => (FX4_ends s7_μ (0 : Int32)).bind fun z37 => some (z37.1 + y7_1, z37.2)) l 0 0 0 p μ.1 a b d FU FU c2 c3 rfl hI (by omega) (by omega) (by show l.length < 1000; omega) (by show l.length < 1000; omega)
    rcases h2 with ⟨v', ρ', F', i', a', b', d', w1, w2, w3, w4⟩ | ⟨n', G, p', i', a', b', d', w1, w2, w3, w4⟩
    · have w1' : FX0_runIn_L4 (tx μ.2.2.2.2.1 P' n q v (0 + l.length)) (fun (y2_3 : Int32) (y2_2 : Int32) (s2_ρ : RS) => some (y2_2, s2_ρ)) FU (0 : Int32) (0 : Int32) (rsOf μ.1) = some (v', ρ') := w1
      have al2 : Al (cpP F' (cpP μ.2.2.1 μ.1 219) 219) μ.1 := (al_cp _ _).trans al
      refine ⟨v', θ, S0, S1, S2, S3, ρ', tx μ.2.2.2.2.1 P' n q v (0 + l.length), pz μ (cpP F' (cpP μ.2.2.1 μ.1 219) 219) (cpP μ.2.2.1 μ.1 219) i' a' b' d', k, ?_, w4, w3, ⟨rfl, rfl, hl, hL⟩, inv_ext (fun k hk => (al2 k hk).symm) hI.inv, h, hs⟩
      show ((FX0_runIn_L4 (tx μ.2.2.2.2.1 P' n q v (0 + l.length)) (fun (y2_3 : Int32) (y2_2 : Int32) (s2_ρ : RS) => some (y2_2, s2_ρ)) FU (0 : Int32) (0 : Int32) (rsOf μ.1)).bind fun z6 => _) = some (v', θ, rsOf (cpP F' (cpP μ.2.2.1 μ.1 219) 219), ρ', tx μ.2.2.2.2.1 P' n q v (0 + l.length), S0, S1, S2, S3)
      rw [w1', o_b, if_pos w2, rs_ext al2]
    · have w2' : FX0_runIn_L4 (tx μ.2.2.2.2.1 P' n q v (0 + l.length)) (fun (y2_3 : Int32) (y2_2 : Int32) (s2_ρ : RS) => some (y2_2, s2_ρ)) FU (0 : Int32) (0 : Int32) (rsOf μ.1) = some (nI n', rsOf G) := w2
      obtain ⟨S0', S1', S2', S3', P2, e1, e2, e3⟩ := sim_aside (μ := pz μ G (cpP μ.2.2.1 μ.1 219) i' a' b' d') h hs (inv_ext (fun k hk => (al k hk).symm) hI.inv)
      have e1' : FX3_save θ (rsOf (cpP μ.2.2.1 μ.1 219)) S0 S1 S2 S3 = some (nI (min (k + 1) 4), S0', S1', S2', S3') := e1
      rw [rs_ext al] at e1'
      refine ⟨nI n', nI (min (k + 1) 4), S0', S1', S2', S3', rsOf μ.1, tx μ.2.2.2.2.1 P' n q v (0 + l.length), sp (pz μ G (cpP μ.2.2.1 μ.1 219) i' a' b' d') P2 (nI (min (k + 1) 4)), min (k + 1) 4, ?_, ?_, zr_rsOf _, ⟨rfl, rfl, hl, hL⟩, w3.inv, e3, rfl⟩
      · show ((FX0_runIn_L4 (tx μ.2.2.2.2.1 P' n q v (0 + l.length)) (fun (y2_3 : Int32) (y2_2 : Int32) (s2_ρ : RS) => some (y2_2, s2_ρ)) FU (0 : Int32) (0 : Int32) (rsOf μ.1)).bind fun z6 => _) = some (nI n', nI (min (k + 1) 4), rsOf G, rsOf μ.1, tx μ.2.2.2.2.1 P' n q v (0 + l.length), S0', S1', S2', S3')
        rw [w2', o_b, if_neg (nI_pos (by omega)), e1', o_b]
      · refine w4.trans ?_
        unfold FX4_ends
        rw [if_pos z00, e2, o_b, o_b, Int32.zero_add]
theorem s_clear {τ : TXS} (hT : Txt τ μ n) : ∃ v τ' μ', FX3_clearText θ τ = some (v, τ') ∧ FX4_clearText μ = some (v, μ') ∧ Txt τ' μ' 0 ∧ μ'.1 = μ.1 ∧ μ'.2.1 = μ.2.1 ∧ μ'.2.2.2.2.2.1 = μ.2.2.2.2.2.1 := by
  obtain ⟨hT1, hT2, hl, hL⟩ := hT
  refine ⟨nI n, (τ.1, τ.2.1, (0 : Int32), τ.2.2.2.1, τ.2.2.2.2.1, τ.2.2.2.2.2), (μ.1, μ.2.1, μ.2.2.1, μ.2.2.2.1, μ.2.2.2.2.1, μ.2.2.2.2.2.1, (0 : Int32), (0 : Int32), μ.2.2.2.2.2.2.2.2.1, μ.2.2.2.2.2.2.2.2.2.1, μ.2.2.2.2.2.2.2.2.2.2.1, μ.2.2.2.2.2.2.2.2.2.2.2.1, μ.2.2.2.2.2.2.2.2.2.2.2.2), ?_, ?_, ⟨hT1, rfl, rfl, by omega⟩, rfl, rfl, rfl⟩
  · unfold FX3_clearText
    rw [hT2]
  · unfold FX4_clearText
    rw [hl]
end SP

/-! removeCable: alike -/
theorem inv_cab {f g : Nat → Int32} {m c z p n : Nat} (h : ∀ k, k < 219 → k ≠ 14 → (k < 91 ∨ 121 ≤ k) → f k = g k) (hC : Cnt f m c z p) (hM : IM f m) (hF : IF f z) (hP : IP f m p) (hH : IH f) (hO : IO f m) (hn : g 14 = nI n) (hn10 : n ≤ 10) (hc : IC g m n) : Inv g := by
  have l1 := hC.lm
  have l3 := hC.lz
  have l4 := hC.lp
  refine ⟨m, n, z, p, ?_, fun j hj => ?_, hc, fun j hj => ?_, fun j hj => ?_, ?_, fun i j hi hj => ?_⟩
  · obtain ⟨a, b, d, e, r1, r2, r3, r4⟩ := hC
    exact ⟨(h _ (by omega) (by omega) (by omega)).symm.trans a, hn, (h _ (by omega) (by omega) (by omega)).symm.trans d, (h _ (by omega) (by omega) (by omega)).symm.trans e, r1, hn10, r3, r4⟩
  · have := hM j hj
    rw [h _ (by omega) (by omega) (by omega), h (19 + (6 * j + 1)) (by omega) (by omega) (by omega), h (19 + (6 * j + 2)) (by omega) (by omega) (by omega), h (19 + (6 * j + 3)) (by omega) (by omega) (by omega), h (19 + (6 * j + 4)) (by omega) (by omega) (by omega), h (19 + (6 * j + 5)) (by omega) (by omega) (by omega)] at this
    exact this
  · have := hF j hj
    rw [h (121 + (3 * j + 0)) (by omega) (by omega) (by omega), h (121 + (3 * j + 1)) (by omega) (by omega) (by omega), h (121 + (3 * j + 2)) (by omega) (by omega) (by omega)] at this
    exact this
  · obtain ⟨a, q, s, e1, e2, e3, e4, e5, e6⟩ := hP j hj
    exact ⟨a, q, s, (h _ (by omega) (by omega) (by omega)).symm.trans e1, e2, (h _ (by omega) (by omega) (by omega)).symm.trans e3, e4, (h _ (by omega) (by omega) (by omega)).symm.trans e5, by rw [← h (139 + (4 * j + 1)) (by omega) (by omega) (by omega), ← h (139 + (4 * j + 2)) (by omega) (by omega) (by omega)]; exact e6⟩
  · obtain ⟨a, e, b⟩ := hH
    exact ⟨a, (h _ (by omega) (by omega) (by omega)).symm.trans e, b⟩
  · have := hO i j hi hj
    rw [h (19 + (6 * i + 4)) (by omega) (by omega) (by omega), h (19 + (6 * j + 4)) (by omega) (by omega) (by omega), h (19 + (6 * i + 5)) (by omega) (by omega) (by omega), h (19 + (6 * j + 5)) (by omega) (by omega) (by omega), h (19 + (6 * i + 0)) (by omega) (by omega) (by omega), h (19 + (6 * j + 0)) (by omega) (by omega) (by omega)] at this
    exact this
section RMC
variable {μ : MDS} {θ : Int32} {S0 S1 S2 S3 : RS} {k : Nat}
theorem s_removeCable (h : SV μ.2.1 θ S0 S1 S2 S3 k) (hs : μ.2.2.2.2.2.1 = nI k) (hI : Inv μ.1) (x : Int32) : Chg (FX3_removeCable θ (rsOf μ.1) S0 S1 S2 S3 x) (FX4_removeCable μ x) μ cdi := by
  have hI0 := hI
  obtain ⟨m, c, z, p, hC, hM, hc, hF, hP, hH, hO⟩ := hI
  have l2 := hC.lc
  unfold FX3_removeCable FX4_removeCable
  rcases cable_chk (θ := θ) hC x with ⟨h1, h2⟩ | ⟨j, hj, rfl, h1, h2⟩
  · rw [h1, h2, bX_l, o_b, if_pos z00, refd1, o_b, if_neg n10]
    exact Or.inl ⟨1, 0, rfl, by decide, rfl⟩
  · obtain ⟨n, rfl⟩ : ∃ n, c = n + 1 := ⟨c - 1, by omega⟩
    obtain ⟨S0', S1', S2', S3', P', e1, e2, e3⟩ := sim_now (μ := rfz μ 0) h hs hI0
    have e1' : FX3_save θ (rsOf μ.1) S0 S1 S2 S3 = some (nI (min (k + 1) 4), S0', S1', S2', S3') := e1
    have er : FX2_removeRow (10 : Int32) (3 : Int32) 30 ((rsOf μ.1).2.2.2.2.2.2.2.1, (rsOf μ.1).2.1) (nI j) = some (nI n, shR (rsOf μ.1).2.1 (3 * j) (3 * n) 3) := by
      rw [rz_nc, hC.hc, show (3 : Int32) = nI 3 from rfl, c_removeRow (C := 3) _ hj (by omega) (by omega) (by omega), Nat.add_sub_cancel, Nat.mul_comm j 3, Nat.mul_comm n 3]
    unfold FX4_saves
    rw [h1, h2, bX_r, o_b, if_neg n10, refd0, o_b, if_pos z00, e1', o_b, e2, o_b, o_b, er, o_b, show (91 : Int32) = nI 91 from rfl, show (14 : Int32) = nI 14 from rfl, e_drops (sp (rfz μ 0) P' (nI (min (k + 1) 4))) (b := 91) (ci := 14) (n := n) (j := j) (by omega) (by omega) (by omega) (by omega) hC.hc (by omega), o_b]
    refine Or.inr ⟨nI n, nI (min (k + 1) 4), S0', S1', S2', S3', mp μ (shR (upd μ.1 14 (nI n)) (91 + 3 * j) (91 + 3 * n) 3) P' (nI (min (k + 1) 4)), min (k + 1) 4, ?_, rfl, ⟨rfl, rfl, rfl⟩, ?_, e3, rfl⟩
    · show _ = some (Sum.inr (nI n, nI (min (k + 1) 4), rsOf (shR (upd μ.1 14 (nI n)) (91 + 3 * j) (91 + 3 * n) 3), S0', S1', S2', S3'))
      rw [rs_shC _ (by omega) (by omega), rs_14]
      rfl
    · refine inv_cab (n := n) (fun i i1 i2 i3 => ?_) hC hM hF hP hH hO ?_ (by omega) (fun i hi => ?_)
      · show μ.1 i = shR (upd μ.1 14 (nI n)) (91 + 3 * j) (91 + 3 * n) 3 i
        rw [shR_o _ (by omega), upd_ne _ _ i2]
      · show shR (upd μ.1 14 (nI n)) (91 + 3 * j) (91 + 3 * n) 3 14 = nI n
        rw [shR_o _ (by omega), upd_at]
      · show ∃ a b l : Nat, shR (upd μ.1 14 (nI n)) (91 + 3 * j) (91 + 3 * n) 3 (91 + (3 * i + 0)) = nI a ∧ a < m ∧ shR (upd μ.1 14 (nI n)) (91 + 3 * j) (91 + 3 * n) 3 (91 + (3 * i + 1)) = nI b ∧ b < m ∧ shR (upd μ.1 14 (nI n)) (91 + 3 * j) (91 + 3 * n) 3 (91 + (3 * i + 2)) = nI l ∧ l ≤ 20
        have e : ∀ q, q < 3 → shR (upd μ.1 14 (nI n)) (91 + 3 * j) (91 + 3 * n) 3 (91 + (3 * i + q)) = μ.1 (91 + (3 * (if i < j then i else i + 1) + q)) := fun q hq => by
          by_cases hij : i < j
          · rw [shR_o _ (by omega), if_pos hij, upd_ne _ _ (by omega)]
          · rw [if_neg hij]
            unfold shR
            rw [if_pos ⟨by omega, by omega⟩, upd_ne _ _ (by omega), show 91 + (3 * i + q) + 3 = 91 + (3 * (i + 1) + q) by omega]
        rw [e 0 (by omega), e 1 (by omega), e 2 (by omega)]
        exact hc _ (by split <;> omega)
end RMC

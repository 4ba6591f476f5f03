/-! removeFreeze: alike -/
theorem inv_frz {f g : Nat → Int32} {m c z p n : Nat} (h : ∀ k, k < 219 → k ≠ 15 → (k < 121 ∨ 139 ≤ k) → f k = g k) (hC : Cnt f m c z p) (hM : IM f m) (hF : IC f m c) (hP : IP f m p) (hH : IH f) (hO : IO f m) (hn : g 15 = nI n) (hn10 : n ≤ 6) (hc : IF g n) : Inv g := by
  have l1 := hC.lm
  have l3 := hC.lc
  have l4 := hC.lp
  refine ⟨m, c, n, p, ?_, fun j hj => ?_, fun j hj => ?_, hc, fun j hj => ?_, ?_, fun i j hi hj => ?_⟩
  · obtain ⟨a, b, d, e, r1, r2, r3, r4⟩ := hC
    exact ⟨(h _ (by omega) (by omega) (by omega)).symm.trans a, (h _ (by omega) (by omega) (by omega)).symm.trans b, hn, (h _ (by omega) (by omega) (by omega)).symm.trans e, r1, r2, hn10, r4⟩
  · have := hM j hj
    rw [h _ (by omega) (by omega) (by omega), h (19 + (6 * j + 1)) (by omega) (by omega) (by omega), h (19 + (6 * j + 2)) (by omega) (by omega) (by omega), h (19 + (6 * j + 3)) (by omega) (by omega) (by omega), h (19 + (6 * j + 4)) (by omega) (by omega) (by omega), h (19 + (6 * j + 5)) (by omega) (by omega) (by omega)] at this
    exact this
  · have := hF j hj
    rw [h (91 + (3 * j + 0)) (by omega) (by omega) (by omega), h (91 + (3 * j + 1)) (by omega) (by omega) (by omega), h (91 + (3 * j + 2)) (by omega) (by omega) (by omega)] at this
    exact this
  · obtain ⟨a, q, s, e1, e2, e3, e4, e5, e6⟩ := hP j hj
    exact ⟨a, q, s, (h _ (by omega) (by omega) (by omega)).symm.trans e1, e2, (h _ (by omega) (by omega) (by omega)).symm.trans e3, e4, (h _ (by omega) (by omega) (by omega)).symm.trans e5, by rw [← h (139 + (4 * j + 1)) (by omega) (by omega) (by omega), ← h (139 + (4 * j + 2)) (by omega) (by omega) (by omega)]; exact e6⟩
  · obtain ⟨a, e, b⟩ := hH
    exact ⟨a, (h _ (by omega) (by omega) (by omega)).symm.trans e, b⟩
  · have := hO i j hi hj
    rw [h (19 + (6 * i + 4)) (by omega) (by omega) (by omega), h (19 + (6 * j + 4)) (by omega) (by omega) (by omega), h (19 + (6 * i + 5)) (by omega) (by omega) (by omega), h (19 + (6 * j + 5)) (by omega) (by omega) (by omega), h (19 + (6 * i + 0)) (by omega) (by omega) (by omega), h (19 + (6 * j + 0)) (by omega) (by omega) (by omega)] at this
    exact this
section RMF
variable {μ : MDS} {θ : Int32} {S0 S1 S2 S3 : RS} {k : Nat}
theorem s_removeFreeze (h : SV μ.2.1 θ S0 S1 S2 S3 k) (hs : μ.2.2.2.2.2.1 = nI k) (hI : Inv μ.1) (x : Int32) : Chg (FX3_removeFreeze θ (rsOf μ.1) S0 S1 S2 S3 x) (FX4_removeFreeze μ x) μ cdi := by
  have hI0 := hI
  obtain ⟨m, c, z, p, hC, hM, hc, hF, hP, hH, hO⟩ := hI
  have l2 := hC.lz
  unfold FX3_removeFreeze FX4_removeFreeze
  rw [rz_nf, g15, cl15, hC.hz, nmv_eq]
  rcases in_cnt x (n := z) (by omega) with ⟨h1, h2⟩ | ⟨j, hj, rfl, h1⟩
  · rw [row_no h2, h1, o_b, o_b, if_pos z00, if_pos z00, refd1, o_b, if_neg n10]
    exact Or.inl ⟨1, 0, rfl, by decide, rfl⟩
  · obtain ⟨n, rfl⟩ : ∃ n, z = n + 1 := ⟨z - 1, by omega⟩
    obtain ⟨S0', S1', S2', S3', P', e1, e2, e3⟩ := sim_now (μ := rfz μ 0) h hs hI0
    have e1' : FX3_save θ (rsOf μ.1) S0 S1 S2 S3 = some (nI (min (k + 1) 4), S0', S1', S2', S3') := e1
    have er : FX2_removeRow (6 : Int32) (3 : Int32) 18 (nI (n + 1), (rsOf μ.1).2.2.1) (nI j) = some (nI n, shR (rsOf μ.1).2.2.1 (3 * j) (3 * n) 3) := by
      rw [show (3 : Int32) = nI 3 from rfl, c_removeRow (C := 3) _ hj (by omega) (by omega) (by omega), Nat.add_sub_cancel, Nat.mul_comm j 3, Nat.mul_comm n 3]
    unfold FX4_saves
    rw [row_yes hj (by omega), h1, o_b, o_b, if_neg n10, if_neg n10, refd0, o_b, if_pos z00, e1', o_b, e2, o_b, o_b, er, o_b, show (121 : Int32) = nI 121 from rfl, show (15 : Int32) = nI 15 from rfl, e_drops (sp (rfz μ 0) P' (nI (min (k + 1) 4))) (b := 121) (ci := 15) (n := n) (j := j) (by omega) (by omega) (by omega) (by omega) hC.hz (by omega), o_b]
    refine Or.inr ⟨nI n, nI (min (k + 1) 4), S0', S1', S2', S3', mp μ (shR (upd μ.1 15 (nI n)) (121 + 3 * j) (121 + 3 * n) 3) P' (nI (min (k + 1) 4)), min (k + 1) 4, ?_, rfl, ⟨rfl, rfl, rfl⟩, ?_, e3, rfl⟩
    · show _ = some (Sum.inr (nI n, nI (min (k + 1) 4), rsOf (shR (upd μ.1 15 (nI n)) (121 + 3 * j) (121 + 3 * n) 3), S0', S1', S2', S3'))
      rw [rs_shF _ (by omega) (by omega), rs_15]
      rfl
    · refine inv_frz (n := n) (fun i i1 i2 i3 => ?_) hC hM hc hP hH hO ?_ (by omega) (fun i hi => ?_)
      · show μ.1 i = shR (upd μ.1 15 (nI n)) (121 + 3 * j) (121 + 3 * n) 3 i
        rw [shR_o _ (by omega), upd_ne _ _ i2]
      · show shR (upd μ.1 15 (nI n)) (121 + 3 * j) (121 + 3 * n) 3 15 = nI n
        rw [shR_o _ (by omega), upd_at]
      · show ∃ t a b : Nat, shR (upd μ.1 15 (nI n)) (121 + 3 * j) (121 + 3 * n) 3 (121 + (3 * i + 0)) = nI t ∧ shR (upd μ.1 15 (nI n)) (121 + 3 * j) (121 + 3 * n) 3 (121 + (3 * i + 1)) = nI a ∧ a ≤ 999 ∧ shR (upd μ.1 15 (nI n)) (121 + 3 * j) (121 + 3 * n) 3 (121 + (3 * i + 2)) = nI b ∧ 1 ≤ b ∧ b ≤ 99 ∧ t ≤ 3
        have e : ∀ q, q < 3 → shR (upd μ.1 15 (nI n)) (121 + 3 * j) (121 + 3 * n) 3 (121 + (3 * i + q)) = μ.1 (121 + (3 * (if i < j then i else i + 1) + q)) := fun q hq => by
          by_cases hij : i < j
          · rw [shR_o _ (by omega), if_pos hij, upd_ne _ _ (by omega)]
          · rw [if_neg hij]
            unfold shR
            rw [if_pos ⟨by omega, by omega⟩, upd_ne _ _ (by omega), show 121 + (3 * i + q) + 3 = 121 + (3 * (i + 1) + q) by omega]
        rw [e 0 (by omega), e 1 (by omega), e 2 (by omega)]
        exact hF _ (by split <;> omega)
end RMF

/-! the invariant as a machine is placed; what would be wrong with it there -/
section PL2
variable {f : Nat → Int32} {μ : MDS} {m c z p : Nat} {j : Nat} {r s q : Int32}
theorem cnt_plc (h : Cnt f m c z p) : Cnt (plc f j r s q) m c z p := by
  obtain ⟨a, b, d, e, t⟩ := h
  exact ⟨(plc_o _ _ _ _ _ (by omega) (by omega) (by omega)).trans a, (plc_o _ _ _ _ _ (by omega) (by omega) (by omega)).trans b, (plc_o _ _ _ _ _ (by omega) (by omega) (by omega)).trans d, (plc_o _ _ _ _ _ (by omega) (by omega) (by omega)).trans e, t⟩
theorem ic_plc (hj : j < 12) (hc : IC f m c) : IC (plc f j r s q) m c := fun i hi => by
  have := hc i hi
  rw [plc_o _ _ _ _ _ (by omega) (by omega) (by omega), plc_o _ _ _ _ _ (by omega) (by omega) (by omega), plc_o _ _ _ _ _ (by omega) (by omega) (by omega)]
  exact this
theorem if_plc (hj : j < 12) (hc : IF f z) : IF (plc f j r s q) z := fun i hi => by
  have := hc i hi
  rw [plc_o _ _ _ _ _ (by omega) (by omega) (by omega), plc_o _ _ _ _ _ (by omega) (by omega) (by omega), plc_o _ _ _ _ _ (by omega) (by omega) (by omega)]
  exact this
theorem ih_plc (hc : IH f) : IH (plc f j r s q) := by
  obtain ⟨b, e, hb⟩ := hc
  exact ⟨b, (plc_o _ _ _ _ _ (by omega) (by omega) (by omega)).trans e, hb⟩
theorem ip_plc (hj : j < 12) (hc : IP f m p) : IP (plc f j r s q) m p := fun i hi => by
  obtain ⟨a, b, t, e1, e2, e3, e4, e5, e6⟩ := hc i hi
  refine ⟨a, b, t, (plc_o _ _ _ _ _ (by omega) (by omega) (by omega)).trans e1, e2, (plc_o _ _ _ _ _ (by omega) (by omega) (by omega)).trans e3, e4, (plc_o _ _ _ _ _ (by omega) (by omega) (by omega)).trans e5, ?_⟩
  rw [plc_o _ _ _ _ _ (by omega) (by omega) (by omega), plc_o _ _ _ _ _ (by omega) (by omega) (by omega)]
  exact e6
theorem im_plc (hM : IM f m) (hq : ∃ b : Nat, q = nI b ∧ b ≤ 2) (hp : ∀ t : Nat, f (19 + (6 * j + 0)) = nI t → t ≤ 4 → Plc r s t) : IM (plc f j r s q) m := fun i hi => by
  obtain ⟨t, l, b, d, e0, t1, t4, e1, l1, l2, e2, hb, e3, hd, e5⟩ := hM i hi
  rw [plc_o (i := 19 + (6 * i + 0)) _ _ _ _ _ (by omega) (by omega) (by omega), plc_o (i := 19 + (6 * i + 1)) _ _ _ _ _ (by omega) (by omega) (by omega), plc_o (i := 19 + (6 * i + 3)) _ _ _ _ _ (by omega) (by omega) (by omega)]
  by_cases h : i = j
  · subst h
    obtain ⟨b', hb1, hb2⟩ := hq
    rw [plc_2, plc_4, plc_5]
    exact ⟨t, l, b', d, e0, t1, t4, e1, l1, l2, hb1, hb2, e3, hd, hp t e0 t4⟩
  · rw [plc_o (i := 19 + (6 * i + 2)) _ _ _ _ _ (by omega) (by omega) (by omega), plc_o (i := 19 + (6 * i + 4)) _ _ _ _ _ (by omega) (by omega) (by omega), plc_o (i := 19 + (6 * i + 5)) _ _ _ _ _ (by omega) (by omega) (by omega)]
    exact ⟨t, l, b, d, e0, t1, t4, e1, l1, l2, e2, hb, e3, hd, e5⟩
theorem c_fww (h : Cnt f m c z p) (hc : IC f m c) (hj : j < m) (r s q : Int32) : FX1_firstWrongWith (rsOf f) (nI j) r s q = some (wr (plc f j r s q) m c, rsOf f) := by
  have hm := h.lm
  unfold FX1_firstWrongWith
  rw [rz_nm, h.hm, aM4 h hj, o_b, aM5 h hj, o_b, aM2 h hj, o_b, c_place h hj, o_b, c_wrong (cnt_plc h) (ic_plc (by omega) hc), o_b, c_place (cnt_plc h) hj, o_b, plc_back]
theorem s1_back (μ : MDS) (f : Nat → Int32) : s1 (s1 μ f) μ.1 = μ := rfl
/-- a step that would leave something wrong: the model's room is as it was -/
theorem e_steps_no (h : Cnt μ.1 m c z p) (hM : IM μ.1 m) (hc : IC μ.1 m c) (hj : j < m) (hq : ∃ b : Nat, q = nI b ∧ b ≤ 2) (hp : ∀ t : Nat, μ.1 (19 + (6 * j + 0)) = nI t → t ≤ 4 → Plc r s t) (hw : ¬ wr (plc μ.1 j r s q) m c ≤ 0) : FX4_steps μ (nI j) r s q = some (wr (plc μ.1 j r s q) m c, μ) := by
  have hm := h.lm
  unfold FX4_steps
  rw [oM4 (by omega), o_b, oM5 (by omega), o_b, oM2 (by omega), o_b, e_places (by omega), o_b, e_wrong (μ := s1 μ (plc μ.1 j r s q)) (cnt_plc h) (im_plc hM hq hp) (ic_plc (by omega) hc), o_b]
  show (if wr (plc μ.1 j r s q) m c ≤ 0 then _ else _) = _
  rw [if_neg hw, e_places (by omega), o_b]
  show some (wr (plc μ.1 j r s q) m c, s1 (s1 μ (plc μ.1 j r s q)) (plc (plc μ.1 j r s q) j _ _ _)) = _
  rw [plc_back, s1_back]
end PL2

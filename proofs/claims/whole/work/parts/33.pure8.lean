/-! the calls that tell: class and model answer alike -/
def rfz (μ : MDS) (x : Int32) : MDS := (μ.1, μ.2.1, μ.2.2.1, μ.2.2.2.1, μ.2.2.2.2.1, μ.2.2.2.2.2.1, x, μ.2.2.2.2.2.2.2.1, μ.2.2.2.2.2.2.2.2.1, μ.2.2.2.2.2.2.2.2.2.1, μ.2.2.2.2.2.2.2.2.2.2.1, μ.2.2.2.2.2.2.2.2.2.2.2.1, μ.2.2.2.2.2.2.2.2.2.2.2.2)
theorem rfz_1 (μ : MDS) (x : Int32) : (rfz μ x).1 = μ.1 := rfl
theorem thrown_z (μ : MDS) (x : Int32) : FX4_thrown (rfz μ x) = some x := rfl
theorem refd (μ : MDS) (x : Int32) : FX4_refused μ x = some (if x ≤ 0 then 0 else 1, rfz μ x) := by
  unfold FX4_refused rfz
  split <;> rfl
theorem refd0 (μ : MDS) : FX4_refused μ 0 = some (0, rfz μ 0) := refd μ 0
theorem refd1 (μ : MDS) : FX4_refused μ 1 = some (1, rfz μ 1) := refd μ 1
theorem refd2 (μ : MDS) : FX4_refused μ 2 = some (1, rfz μ 2) := refd μ 2
theorem refd3 (μ : MDS) : FX4_refused μ 3 = some (1, rfz μ 3) := refd μ 3
theorem range_chk (x a b : Int32) : (FX3_checkRange x a b = some (.inl 2) ∧ FX4_in x a b = some 0) ∨ (FX3_checkRange x a b = some (.inr ()) ∧ FX4_in x a b = some 1 ∧ ¬ x < a ∧ x ≤ b) := by
  unfold FX3_checkRange FX4_in
  by_cases h1 : x < a
  · rw [if_pos h1, if_pos h1]; exact Or.inl ⟨rfl, rfl⟩
  · rw [if_neg h1, if_neg h1]
    by_cases h2 : x ≤ b
    · rw [if_pos h2, if_neg (Int32.not_lt.mpr h2)]; exact Or.inr ⟨rfl, rfl, h1, h2⟩
    · rw [if_neg h2, if_pos (Int32.not_le.mp h2)]; exact Or.inl ⟨rfl, rfl⟩
theorem in_cnt (x : Int32) {n : Nat} (hn : n < 1000) : (FX4_in x 0 (nI n - 1) = some 0 ∧ (x < 0 ∨ nI n ≤ x)) ∨ ∃ j, j < n ∧ x = nI j ∧ FX4_in x 0 (nI n - 1) = some 1 := by
  have e : (nI n - 1).toInt = (n : Int) - 1 := pk_sub_toInt (b := 1) (by omega) (by omega)
  unfold FX4_in
  rcases pk_ix x (n := n) (by omega) with h | h | ⟨j, hj, rfl⟩
  · rw [if_pos h]; exact Or.inl ⟨rfl, Or.inl h⟩
  · refine Or.inl ⟨?_, Or.inr h⟩
    by_cases h0 : x < 0
    · rw [if_pos h0]
    · rw [if_neg h0, if_pos]
      rw [Int32.lt_iff_toInt_lt, e]
      rw [Int32.le_iff_toInt_le, nI_toInt (by omega)] at h
      omega
  · refine Or.inr ⟨j, hj, rfl, ?_⟩
    rw [if_neg (nI_pos (by omega)), if_neg]
    rw [Int32.lt_iff_toInt_lt, e, nI_toInt (by omega)]
    omega
theorem row_no {pTm pTc x : Int32} {n N : Nat} {T : Nat → Int32} (h : x < 0 ∨ nI n ≤ x) : FX2_hasRow pTm pTc N (nI n, T) x = some 0 := by
  unfold FX2_hasRow
  rcases h with h | h
  · rw [if_pos h]
  · rw [if_pos h]; split <;> rfl
theorem row_yes {pTm pTc : Int32} {n j N : Nat} {T : Nat → Int32} (hj : j < n) (hn : n < 1000) : FX2_hasRow pTm pTc N (nI n, T) (nI j) = some 1 := by
  unfold FX2_hasRow
  rw [if_neg (nI_pos (by omega)), if_neg (nI_ge hj (by omega))]
theorem n10 : ¬ (1 : Int32) = 0 := by decide
theorem z00 : (0 : Int32) = 0 := rfl
def Obs (A : Option (Nat ⊕ Int32)) (B : Option (Int32 × MDS)) (μ : MDS) (cd : Nat → Int32) : Prop := (∃ k w, A = some (.inl k) ∧ ¬ cd k = 0 ∧ B = some (w, rfz μ (cd k))) ∨ ∃ v, A = some (.inr v) ∧ B = some (v, rfz μ 0)
def cd12 (k : Nat) : Int32 := if k = 1 then 1 else if k = 2 then 2 else 0
def cdi (k : Nat) : Int32 := if k = 1 then 1 else 0
def cda (k : Nat) : Int32 := if k = 2 then 1 else 0
def cds (k : Nat) : Int32 := if k = 3 then 1 else 0
section TELL
variable {μ : MDS} {m c z p : Nat} {θ : Int32}
theorem mach_chk (h : Cnt μ.1 m c z p) (x : Int32) : (FX3_checkMachine θ (rsOf μ.1) x = some (.inl 1) ∧ FX4_isMachine μ x = some 0) ∨ ∃ j, j < m ∧ x = nI j ∧ FX3_checkMachine θ (rsOf μ.1) x = some (.inr ()) ∧ FX4_isMachine μ x = some 1 := by
  have hm := h.lm
  unfold FX3_checkMachine FX4_isMachine
  rw [rz_nm, g13, cl13, h.hm, nmv_eq]
  rcases in_cnt x (n := m) (by omega) with ⟨h1, h2⟩ | ⟨j, hj, rfl, h1⟩
  · rw [row_no h2, h1]; exact Or.inl ⟨rfl, rfl⟩
  · rw [row_yes hj (by omega), h1]; exact Or.inr ⟨j, hj, rfl, rfl, rfl⟩
theorem cable_chk (h : Cnt μ.1 m c z p) (x : Int32) : (FX3_checkCable θ (rsOf μ.1) x = some (.inl 1) ∧ FX4_isCable μ x = some 0) ∨ ∃ j, j < c ∧ x = nI j ∧ FX3_checkCable θ (rsOf μ.1) x = some (.inr ()) ∧ FX4_isCable μ x = some 1 := by
  have hm := h.lc
  unfold FX3_checkCable FX4_isCable
  rw [rz_nc, g14, cl14, h.hc, nmv_eq]
  rcases in_cnt x (n := c) (by omega) with ⟨h1, h2⟩ | ⟨j, hj, rfl, h1⟩
  · rw [row_no h2, h1]; exact Or.inl ⟨rfl, rfl⟩
  · rw [row_yes hj (by omega), h1]; exact Or.inr ⟨j, hj, rfl, rfl, rfl⟩
theorem rack_chk (x : Int32) : (FX3_checkRack x = some (.inl 1) ∧ FX4_isRack x = some 0) ∨ ∃ j, j ≤ 5 ∧ x = nI j ∧ FX3_checkRack x = some (.inr ()) ∧ FX4_isRack x = some 1 := by
  unfold FX3_checkRack FX4_isRack FX4_in
  rcases pk_ix x (n := 6) (by omega) with h | h | ⟨j, hj, rfl⟩
  · rw [if_pos h, if_pos h]; exact Or.inl ⟨rfl, rfl⟩
  · refine Or.inl ?_
    have e : ¬ x < 0 := by
      rw [Int32.le_iff_toInt_le, nI_toInt (by omega)] at h
      rw [Int32.lt_iff_toInt_lt, show (0 : Int32).toInt = 0 from rfl]
      omega
    rw [if_neg e, if_neg e, if_neg (show ¬ x < 6 from Int32.not_lt.mpr h), if_pos (by
      rw [Int32.le_iff_toInt_le, nI_toInt (by omega)] at h
      rw [Int32.lt_iff_toInt_lt, show (5 : Int32).toInt = 5 from rfl]
      omega)]
    exact ⟨rfl, rfl⟩
  · refine Or.inr ⟨j, by omega, rfl, ?_⟩
    rw [if_neg (nI_pos (by omega)), if_neg (nI_pos (by omega)), if_pos (show nI j < 6 from nI_lt (b := 6) hj (by omega)), if_neg (show ¬ (5 : Int32) < nI j from nI_nlt (a := 5) (by omega) (by omega))]
    exact ⟨rfl, rfl⟩
theorem tray_chk (x : Int32) : (FX3_checkTray x = some (.inl 1) ∧ FX4_isTray x = some 0) ∨ ∃ j, j ≤ 4 ∧ x = nI j ∧ FX3_checkTray x = some (.inr ()) ∧ FX4_isTray x = some 1 := by
  unfold FX3_checkTray FX4_isTray FX4_in
  rcases pk_ix x (n := 5) (by omega) with h | h | ⟨j, hj, rfl⟩
  · rw [if_pos h, if_pos h]; exact Or.inl ⟨rfl, rfl⟩
  · refine Or.inl ?_
    have e : ¬ x < 0 := by
      rw [Int32.le_iff_toInt_le, nI_toInt (by omega)] at h
      rw [Int32.lt_iff_toInt_lt, show (0 : Int32).toInt = 0 from rfl]
      omega
    rw [if_neg e, if_neg e, if_neg (show ¬ x < 5 from Int32.not_lt.mpr h), if_pos (by
      rw [Int32.le_iff_toInt_le, nI_toInt (by omega)] at h
      rw [Int32.lt_iff_toInt_lt, show (4 : Int32).toInt = 4 from rfl]
      omega)]
    exact ⟨rfl, rfl⟩
  · refine Or.inr ⟨j, by omega, rfl, ?_⟩
    rw [if_neg (nI_pos (by omega)), if_neg (nI_pos (by omega)), if_pos (show nI j < 5 from nI_lt (b := 5) hj (by omega)), if_neg (show ¬ (4 : Int32) < nI j from nI_nlt (a := 4) (by omega) (by omega))]
    exact ⟨rfl, rfl⟩
theorem bX_l {α β : Type} (k : Nat) (g : α → Option (Nat ⊕ β)) : bX (some (.inl k)) g = some (.inl k) := rfl
theorem bX_r {α β : Type} (v : α) (g : α → Option (Nat ⊕ β)) : bX (some (.inr v)) g = g v := rfl
theorem o_tray (h : Cnt μ.1 m c z p) (hc : IC μ.1 m c) (x : Int32) : Obs (FX3_tray θ (rsOf μ.1) x) (FX4_tray μ x) μ cdi := by
  unfold FX3_tray FX4_tray
  rcases tray_chk x with ⟨h1, h2⟩ | ⟨j, hj, rfl, h1, h2⟩
  · rw [h1, h2, bX_l, o_b, if_pos z00, refd1, o_b, if_neg n10]
    exact Or.inl ⟨1, 0, rfl, by decide, rfl⟩
  · rw [h1, h2, bX_r, o_b, if_neg n10, refd0, o_b, if_pos z00, c_cablesInTray h hc, e_inTray (μ := rfz μ 0) h hc]
    exact Or.inr ⟨_, rfl, rfl⟩
theorem o_cable (h : Cnt μ.1 m c z p) (hM : IM μ.1 m) (hc : IC μ.1 m c) (x y : Int32) : Obs (FX3_cable θ (rsOf μ.1) x y) (FX4_cable μ x y) μ cd12 := by
  have hm := h.lc
  unfold FX3_cable FX4_cable
  rcases cable_chk (θ := θ) h x with ⟨h1, h2⟩ | ⟨j, hj, rfl, h1, h2⟩
  · rw [h1, h2, bX_l, o_b, if_pos z00, refd1, o_b, if_neg n10]
    exact Or.inl ⟨1, 0, rfl, by decide, rfl⟩
  · rw [h1, h2, bX_r, o_b, if_neg n10]
    rcases range_chk y 0 3 with ⟨g1, g2⟩ | ⟨g1, g2, g3, g4⟩
    · rw [g1, g2, bX_l, o_b, if_pos z00, refd2, o_b, if_neg n10]
      exact Or.inl ⟨2, 0, rfl, by decide, rfl⟩
    · rw [g1, g2, bX_r, o_b, if_neg n10, refd0, o_b, if_pos z00]
      obtain ⟨k, hk, rfl⟩ := nI_of2 (n := 3) rfl g3 g4
      unfold FX4_tellCable
      by_cases hk3 : k = 3
      · subst hk3
        rw [if_pos (show nI 3 = 3 from rfl), if_pos (show (3 : Int32) ≤ nI 3 by decide), c_need h hc hj, e_need (μ := rfz μ 0) h hM hc hj]
        exact Or.inr ⟨_, rfl, rfl⟩
      · rw [if_neg (show ¬ nI k = 3 from fun e => hk3 (nI_inj (b := 3) e (by omega) (by omega))), if_neg (show ¬ (3 : Int32) ≤ nI k from nI_ge (b := 3) (by omega) (by omega)), rz_nc, h.hc, aC h hj k (by omega), nmv_eq, i91, gd_in (by omega) (by omega), nI_clamp (by omega)]
        exact Or.inr ⟨_, rfl, rfl⟩
theorem o_slot (h : Cnt μ.1 m c z p) (hM : IM μ.1 m) (x y : Int32) : Obs (FX3_slot θ (rsOf μ.1) x y) (FX4_slot μ x y) μ cdi := by
  unfold FX3_slot FX4_slot
  rcases rack_chk x with ⟨h1, h2⟩ | ⟨j, hj, rfl, h1, h2⟩
  · rw [h1, h2, bX_l, o_b, if_pos z00, refd1, o_b, if_neg n10]
    exact Or.inl ⟨1, 0, rfl, by decide, rfl⟩
  · rw [h1, h2, bX_r, o_b, if_neg n10]
    have e9 : (9 : Int32) = nI 10 - 1 := by decide
    rw [e9]
    rcases in_cnt y (n := 10) (by omega) with ⟨g1, g2⟩ | ⟨k, hk, rfl, g1⟩
    · rw [g1, o_b, if_pos z00, refd1, o_b, if_neg n10]
      refine Or.inl ⟨1, 0, ?_, by decide, rfl⟩
      by_cases hy : y < 0
      · rw [if_pos hy]
      · rw [if_neg hy, if_neg]
        rcases g2 with g2 | g2
        · exact absurd g2 hy
        · exact Int32.not_lt.mpr (show (10 : Int32) ≤ y from g2)
    · rw [g1, o_b, if_neg n10, refd0, o_b, if_pos z00, if_neg (nI_pos (by omega)), if_pos (show nI k < 10 from nI_lt (b := 10) hk (by omega)), c_machineAt h, e_machineAt (μ := rfz μ 0) h hM hj (by omega)]
      exact Or.inr ⟨_, rfl, rfl⟩
end TELL

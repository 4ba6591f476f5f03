/-! observers: free slots, the lowest slot -/
section OB6
variable {f : Nat → Int32} {μ : MDS} {m c z p : Nat} {j : Nat}
def Cov (f : Nat → Int32) (r i y : Nat) : Prop := f (19 + (6 * i + 4)) = nI r ∧ ∃ k t : Nat, f (19 + (6 * i + 5)) = nI k ∧ f (19 + (6 * i + 0)) = nI t ∧ 1 ≤ t ∧ t ≤ 4 ∧ k + t ≤ 10 ∧ k ≤ y ∧ y < k + t
theorem nI_inj {a b : Nat} (h : nI a = nI b) (ha : a < 2 ^ 31) (hb : b < 2 ^ 31) : a = b := (nI_eq ha hb).mp h
theorem cov_one (hO : IO f m) {r i i' y : Nat} (hr : r ≤ 5) (hi : i < m) (hi' : i' < m) (h : Cov f r i y) (h' : Cov f r i' y) : i = i' := by
  by_cases e : i = i'
  · exact e
  · obtain ⟨e4, k, t, e5, e0, t1, t4, hk, g1, g2⟩ := h
    obtain ⟨e4', k', t', e5', e0', t1', t4', hk', g1', g2'⟩ := h'
    have := hO i i' hi hi' e r k k' t t' e4 e4' hr e5 e5' e0 e0' (by omega) (by omega) t4 t4'
    omega
theorem at_cov (hM : IM f m) (hO : IO f m) (hm : m ≤ 12) {r y : Nat} (hr : r ≤ 5) (hy : y < 90) {i : Nat} : firstFrom (qW f (nI r) y 1 (-1)) 0 m = some i ↔ i < m ∧ Cov f r i y := by
  constructor
  · intro h
    obtain ⟨h1, h2⟩ := ff_lt h
    obtain ⟨-, g1, k, t, g2, g3, g4, g5, g6, g7, g8⟩ := (qW_iff hM h1 hr (by omega) (-1)).mp h2
    exact ⟨h1, g1, k, t, g2, g3, g4, g5, g6, by omega, g8⟩
  · intro ⟨h1, h2⟩
    have key : ∀ i, i < m → Cov f r i y → qW f (nI r) y 1 (-1) i = true := fun i hi hc => by
      obtain ⟨e4, k, t, e5, e0, t1, t4, hk, g1, g2⟩ := hc
      exact (qW_iff hM hi hr (by omega) (-1)).mpr ⟨nI_nm1 (by omega), e4, k, t, e5, e0, t1, t4, hk, by omega, g2⟩
    refine (ff_some m 0).mpr ⟨by omega, by omega, key i h1 h2, fun i' g1 g2 => ?_⟩
    by_cases hq : qW f (nI r) y 1 (-1) i' = true
    · obtain ⟨-, q1, k, t, q2, q3, q4, q5, q6, q7, q8⟩ := (qW_iff hM (by omega) hr (by omega) (-1)).mp hq
      have := cov_one hO hr (show i' < m by omega) h1 ⟨q1, k, t, q2, q3, q4, q5, q6, by omega, q8⟩ h2
      omega
    · simpa using hq
theorem at_none (hM : IM f m) (hO : IO f m) (hm : m ≤ 12) {r y : Nat} (hr : r ≤ 5) (hy : y < 90) : firstFrom (qW f (nI r) y 1 (-1)) 0 m = none ↔ ∀ i, i < m → ¬ Cov f r i y := by
  constructor
  · intro h i hi hc
    rw [(at_cov hM hO hm hr hy).mpr ⟨hi, hc⟩] at h; cases h
  · intro h
    cases e : firstFrom (qW f (nI r) y 1 (-1)) 0 m with
    | none => rfl
    | some i =>
      obtain ⟨h1, h2⟩ := (at_cov hM hO hm hr hy).mp e
      exact absurd h2 (h i h1)
/-- slot y of rack r is free, or skip's -/
def okY (f : Nat → Int32) (m : Nat) (r : Nat) (skip : Int32) (y : Nat) : Bool := decide (ffI (firstFrom (qW f (nI r) y 1 (-1)) 0 m) = -1 ∨ ffI (firstFrom (qW f (nI r) y 1 (-1)) 0 m) = skip)
theorem free_iff (hM : IM f m) (hO : IO f m) (hm : m ≤ 12) {r a s : Nat} (hr : r ≤ 5) (ha : a + s < 90) (hs1 : 1 ≤ s) (skip : Int32) : (∀ y, a ≤ y → y < a + s → okY f m r skip y = true) ↔ firstFrom (qW f (nI r) a s skip) 0 m = none := by
  constructor
  · intro h
    refine (ff_none m 0).mpr fun i h1 h2 => ?_
    by_cases hq : qW f (nI r) a s skip i = true
    · obtain ⟨q0, q1, k, t, q2, q3, q4, q5, q6, q7, q8⟩ := (qW_iff hM (by omega) hr (by omega) skip).mp hq
      have hy := h (max a k) (by omega) (by omega)
      have e := (at_cov (y := max a k) hM hO hm hr (by omega) (i := i)).mpr ⟨by omega, q1, k, t, q2, q3, q4, q5, q6, by omega, by omega⟩
      unfold okY at hy
      rw [e, decide_eq_true_iff] at hy
      rcases hy with hy | hy
      · exact absurd hy (nI_nm1 (by omega))
      · exact absurd hy q0
    · simpa using hq
  · intro h y h1 h2
    unfold okY
    rw [decide_eq_true_iff]
    cases e : firstFrom (qW f (nI r) y 1 (-1)) 0 m with
    | none => exact Or.inl rfl
    | some i =>
      refine Or.inr ?_
      obtain ⟨g1, e4, k, t, e5, e0, t1, t4, hk, g2, g3⟩ := (at_cov hM hO hm hr (by omega)).mp e
      by_cases hs : nI i = skip
      · exact hs
      · have := (qW_iff (a := a) (s := s) hM g1 hr (by omega) skip).mpr ⟨hs, e4, k, t, e5, e0, t1, t4, hk, by omega, by omega⟩
        rw [(ff_none m 0).mp h i (by omega) (by omega)] at this
        cases this
theorem e_areFree (h : Cnt μ.1 m c z p) (hM : IM μ.1 m) (hO : IO μ.1 m) {r a s : Nat} (hr : r ≤ 5) (ha : a + s < 90) (hs1 : 1 ≤ s) (skip : Int32) : FX4_areFree μ (nI r) (nI a) (nI s) skip = some (if a + s ≤ 10 ∧ firstFrom (qW μ.1 (nI r) a s skip) 0 m = none then 1 else 0) := by
  have hm := h.lm
  let K : Int32 → Int32 → Option Int32 := fun y3_6 y3_5 => gd (y3_5 = 0 ∨ y3_5 = 1) (some y3_5)
  have z0 : ∀ n y, FX4_areFree_L18 μ (nI r) (nI a) (nI s) skip K (n + 1) y 0 = some 0 := fun n y => by
    rw [FX4_areFree_L18, if_pos rfl]
    split <;> rfl
  have key : ∀ d y n : Nat, y + d = a + s → d < n → FX4_areFree_L18 μ (nI r) (nI a) (nI s) skip K n (nI y) 1 = some (if firstFrom (fun y => !okY μ.1 m r skip y) y d = none then 1 else 0) := by
    intro d
    induction d with
    | zero =>
      intro y n hy hn
      obtain ⟨n', rfl⟩ : ∃ n', n = n' + 1 := ⟨n - 1, by omega⟩
      rw [FX4_areFree_L18, nI_add, if_pos (nI_le (by omega) (by omega)), if_pos (show firstFrom _ y 0 = none from rfl)]
      rfl
    | succ d ih =>
      intro y n hy hn
      obtain ⟨n', rfl⟩ : ∃ n', n = n' + 1 + 1 := ⟨n - 2, by omega⟩
      rw [FX4_areFree_L18, nI_add, if_neg (nI_ge (by omega) (by omega)), if_neg (by decide), e_machineAt h hM hr (by omega), o_b, ← nI_succ]
      by_cases h1 : okY μ.1 m r skip y = true
      · have e2 : firstFrom (fun y => !okY μ.1 m r skip y) y (d + 1) = firstFrom (fun y => !okY μ.1 m r skip y) (y + 1) d := by
          rw [firstFrom, h1]; rfl
        rw [e2, ← ih (y + 1) (n' + 1) (by omega) (by omega)]
        unfold okY at h1
        rw [decide_eq_true_iff] at h1
        rcases h1 with h1 | h1
        · rw [if_pos h1]
        · by_cases h0 : ffI (firstFrom (qW μ.1 (nI r) y 1 (-1)) 0 m) = -1
          · rw [if_pos h0]
          · rw [if_neg h0, if_pos h1]
      · have e3 : firstFrom (fun y => !okY μ.1 m r skip y) y (d + 1) = some y := by
          rw [firstFrom, if_pos (by simpa using h1)]
        rw [e3, if_neg (show ¬ some y = none from fun g => by cases g)]
        unfold okY at h1
        rw [decide_eq_true_iff, not_or] at h1
        rw [if_neg h1.1, if_neg h1.2]
        exact z0 n' _
  unfold FX4_areFree
  rw [nI_add, show (10 : Int32) = nI 10 from rfl]
  by_cases hs : a + s ≤ 10
  · rw [if_neg (nI_nlt hs (by omega))]
    unfold FX4_areFree_J13
    refine (key s a FU (by omega) (by show s < 1000; omega)).trans ?_
    have e4 : firstFrom (fun y => !okY μ.1 m r skip y) a s = none ↔ firstFrom (qW μ.1 (nI r) a s skip) 0 m = none := by
      rw [ff_none, ← free_iff hM hO hm hr ha hs1 skip]
      simp
    by_cases hq : firstFrom (qW μ.1 (nI r) a s skip) 0 m = none
    · rw [if_pos (e4.mpr hq), if_pos ⟨hs, hq⟩]
    · rw [if_neg (fun g => hq (e4.mp g)), if_neg (fun g => hq g.2)]
  · rw [if_pos (nI_lt (by omega) (by omega)), if_neg (fun g => hs g.1)]
    exact z0 999 _
/-- the lowest slot of rack r from which s slots are free -/
def lowF (f : Nat → Int32) (m r s : Nat) : Option Nat := firstFrom (fun i => decide (i + s ≤ 10 ∧ firstFrom (qW f (nI r) i s (-1)) 0 m = none)) 0 10
theorem e_lowest (h : Cnt μ.1 m c z p) (hM : IM μ.1 m) (hO : IO μ.1 m) {r s : Nat} (hr : r ≤ 5) (hs : s ≤ 10) (hs1 : 1 ≤ s) : FX4_lowest μ (nI r) (nI s) = some (ffI (lowF μ.1 m r s)) := by
  unfold FX4_lowest
  refine (loop_find (K := fun _ => some (-1)) 10 (fun i => decide (i + s ≤ 10 ∧ firstFrom (qW μ.1 (nI r) i s (-1)) 0 m = none)) (fun i => some (nI i)) (by omega) (fun n => ?_) (fun n i hi => ?_)).trans ?_
  · rw [FX4_lowest_L2, if_pos (by decide)]
  · rw [FX4_lowest_L2, if_neg (show ¬ (10 : Int32) ≤ nI i from nI_ge (b := 10) hi (by omega)), e_areFree h hM hO hr (by omega) hs1, o_b, nI_succ]
    by_cases q : i + s ≤ 10 ∧ firstFrom (qW μ.1 (nI r) i s (-1)) 0 m = none
    · rw [if_pos q, if_neg (by decide), if_pos (by simpa using q)]
    · rw [if_neg q, if_pos rfl, if_neg (by simpa using q)]
  · unfold lowF
    cases firstFrom (fun i => decide (i + s ≤ 10 ∧ firstFrom (qW μ.1 (nI r) i s (-1)) 0 m = none)) 0 10 <;> rfl
theorem c_lowest (h : Cnt f m c z p) {r s : Nat} (hs : s ≤ 10) (hs1 : 1 ≤ s) : FX1_lowestSlotFor (rsOf f) (nI r) (nI s) = some (ffI (lowF f m r s)) := by
  have hm := h.lm
  unfold FX1_lowestSlotFor
  refine (loop_find (K := fun _ => some (-1)) (11 - s) (fun i => decide (firstFrom (qW f (nI r) i s (-1)) 0 m = none)) (fun i => some (nI i)) (by omega) (fun n => ?_) (fun n i hi => ?_)).trans ?_
  · rw [FX1_lowestSlotFor_L2, nI_add, if_pos (show (10 : Int32) < _ from nI_lt (a := 10) (by omega) (by omega))]
  · rw [FX1_lowestSlotFor_L2, nI_add, if_neg (show ¬ (10 : Int32) < nI (i + s) from nI_nlt (a := 10) (b := i + s) (by omega) (by omega)), c_machineWithin h, o_b, nI_succ]
    by_cases q : firstFrom (qW f (nI r) i s (-1)) 0 m = none
    · rw [if_pos ((ffI_m1 (by omega)).mpr q), if_pos (by simpa using q)]
    · rw [if_neg (fun g => q ((ffI_m1 (by omega)).mp g)), if_neg (by simpa using q)]
  · unfold lowF
    rw [ff_cut (d := 11 - s) (e := 10) (p := fun i => decide (firstFrom (qW f (nI r) i s (-1)) 0 m = none)) (q := fun i => decide (i + s ≤ 10 ∧ firstFrom (qW f (nI r) i s (-1)) 0 m = none)) (by omega) (fun i hi => by simp [show i + s ≤ 10 by omega]) (fun i h1 h2 => by simp [show ¬ i + s ≤ 10 by omega])]
    cases firstFrom (fun i => decide (i + s ≤ 10 ∧ firstFrom (qW f (nI r) i s (-1)) 0 m = none)) 0 10 <;> rfl
end OB6

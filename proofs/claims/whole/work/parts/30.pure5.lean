/-! observers: slots -/
theorem ff_none {p : Nat → Bool} : ∀ (d j : Nat), firstFrom p j d = none ↔ ∀ i, j ≤ i → i < j + d → p i = false := by
  intro d
  induction d with
  | zero => intro j; unfold firstFrom; simp; intro i h1 h2; omega
  | succ d ih =>
    intro j
    unfold firstFrom
    by_cases hp : p j = true
    · simp only [hp, if_true]
      constructor
      · intro h; cases h
      · intro h; rw [h j (by omega) (by omega)] at hp; cases hp
    · simp only [hp, if_false]
      show (if false = true then _ else _) = none ↔ _
      rw [if_neg (by decide), ih]
      constructor
      · intro h i h1 h2
        by_cases e : i = j
        · rw [e]; simpa using hp
        · exact h i (by omega) (by omega)
      · intro h i h1 h2; exact h i (by omega) (by omega)
theorem ff_some {p : Nat → Bool} {k : Nat} : ∀ (d j : Nat), firstFrom p j d = some k ↔ j ≤ k ∧ k < j + d ∧ p k = true ∧ ∀ i, j ≤ i → i < k → p i = false := by
  intro d
  induction d with
  | zero => intro j; unfold firstFrom; simp; intro h1 h2; omega
  | succ d ih =>
    intro j
    unfold firstFrom
    by_cases hp : p j = true
    · rw [if_pos hp]
      constructor
      · intro h; cases h; exact ⟨by omega, by omega, hp, fun i h1 h2 => by omega⟩
      · intro ⟨h1, h2, h3, h4⟩
        by_cases e : j = k
        · rw [e]
        · have := h4 j (by omega) (by omega); rw [this] at hp; cases hp
    · rw [if_neg hp, ih]
      constructor
      · intro ⟨h1, h2, h3, h4⟩
        refine ⟨by omega, by omega, h3, fun i g1 g2 => ?_⟩
        by_cases e : i = j
        · rw [e]; simpa using hp
        · exact h4 i (by omega) g2
      · intro ⟨h1, h2, h3, h4⟩
        by_cases e : j = k
        · rw [e] at hp; exact absurd h3 hp
        · exact ⟨by omega, by omega, h3, fun i g1 g2 => h4 i (by omega) g2⟩
theorem ff_lt {p : Nat → Bool} {k d : Nat} (h : firstFrom p 0 d = some k) : k < d ∧ p k = true := by
  obtain ⟨-, h2, h3, -⟩ := (ff_some d 0).mp h
  exact ⟨by omega, h3⟩
theorem ff_ext {p q : Nat → Bool} {d : Nat} (h : ∀ i, i < d → p i = q i) : firstFrom p 0 d = firstFrom q 0 d := by
  cases e : firstFrom q 0 d with
  | none => exact (ff_none d 0).mpr fun i h1 h2 => (h i (by omega)).trans ((ff_none d 0).mp e i h1 h2)
  | some k =>
    obtain ⟨h1, h2, h3, h4⟩ := (ff_some d 0).mp e
    exact (ff_some d 0).mpr ⟨h1, h2, (h k (by omega)).trans h3, fun i g1 g2 => (h i (by omega)).trans (h4 i g1 g2)⟩
theorem ff_cut {p q : Nat → Bool} {d e : Nat} (hde : d ≤ e) (h : ∀ i, i < d → p i = q i) (h2 : ∀ i, d ≤ i → i < e → q i = false) : firstFrom p 0 d = firstFrom q 0 e := by
  cases g : firstFrom p 0 d with
  | none =>
    refine ((ff_none e 0).mpr fun i h1 h3 => ?_).symm
    by_cases hi : i < d
    · rw [← h i hi]; exact (ff_none d 0).mp g i h1 (by omega)
    · exact h2 i (by omega) (by omega)
  | some k =>
    obtain ⟨g1, g2, g3, g4⟩ := (ff_some d 0).mp g
    exact ((ff_some e 0).mpr ⟨g1, by omega, by rw [← h k (by omega)]; exact g3, fun i q1 q2 => by rw [← h i (by omega)]; exact g4 i q1 q2⟩).symm
def ffI (o : Option Nat) : Int32 := match o with | some i => nI i | none => -1
theorem ffI_m1 {p : Nat → Bool} {d : Nat} (hd : d < 1000) : ffI (firstFrom p 0 d) = -1 ↔ firstFrom p 0 d = none := by
  cases e : firstFrom p 0 d with
  | none => exact ⟨fun _ => rfl, fun _ => rfl⟩
  | some k => exact ⟨fun h => absurd h (nI_nm1 (by have := (ff_lt e).1; omega)), fun h => by cases h⟩
section OB5
variable {f : Nat → Int32} {μ : MDS} {m c z p : Nat} {j : Nat}
/-- machine i, not skip, stands in rack r in a slot of a .. a + s - 1 -/
def qW (f : Nat → Int32) (r : Int32) (a s : Nat) (skip : Int32) (i : Nat) : Bool := decide (nI i ≠ skip ∧ f (19 + (6 * i + 4)) = r ∧ ¬ nI (a + s) ≤ f (19 + (6 * i + 5)) ∧ ¬ f (19 + (6 * i + 5)) + f (19 + (6 * i + 0)) ≤ nI a)
theorem c_machineWithin (h : Cnt f m c z p) (r : Int32) (a s : Nat) (skip : Int32) : FX1_machineWithin (rsOf f) r (nI a) (nI s) skip = some (ffI (firstFrom (qW f r a s skip) 0 m)) := by
  have hm := h.lm
  unfold FX1_machineWithin
  refine (loop_find (K := fun _ => some (-1)) m (qW f r a s skip) (fun i => some (nI i)) (by omega) (fun n => ?_) (fun n i hi => ?_)).trans ?_
  · rw [FX1_machineWithin_L3, rz_nm, h.hm, if_pos (nI_le (Nat.le_refl _) (by omega))]
  · rw [FX1_machineWithin_L3, rz_nm, h.hm, if_neg (nI_ge hi (by omega)), stands h hi, o_b, aM5 h hi, o_b, aM0 h hi, o_b, nI_add, nI_succ]
    unfold qW
    generalize f (19 + (6 * i + 4)) = R
    generalize f (19 + (6 * i + 5)) = S
    generalize f (19 + (6 * i + 0)) = Z
    by_cases h1 : nI i = skip <;> by_cases h2 : R = r <;> by_cases h3 : nI (a + s) ≤ S <;> by_cases h4 : S + Z ≤ nI a <;> simp [h1, h2, h3, h4]
  · cases firstFrom (qW f r a s skip) 0 m <;> rfl
theorem c_machineAt (h : Cnt f m c z p) (r : Int32) (a : Nat) : FX1_machineAt (rsOf f) r (nI a) = some (ffI (firstFrom (qW f r a 1 (-1)) 0 m)) := by
  unfold FX1_machineAt
  rw [show (1 : Int32) = nI 1 from rfl, c_machineWithin h]; rfl
theorem im_slot (hM : IM f m) {i : Nat} (hi : i < m) {r : Nat} (hr : r ≤ 5) (e : f (19 + (6 * i + 4)) = nI r) : ∃ k s : Nat, f (19 + (6 * i + 5)) = nI k ∧ f (19 + (6 * i + 0)) = nI s ∧ 1 ≤ s ∧ s ≤ 4 ∧ k + s ≤ 10 := by
  obtain ⟨s, l, q, t, e0, h1, h2, -, -, -, -, -, -, -, hp⟩ := hM i hi
  rcases hp with ⟨hp, -⟩ | ⟨a, b, g1, g2, g3, g4⟩
  · rw [e] at hp; exact absurd hp (nI_nm1 (by omega))
  · exact ⟨b, s, g3, e0, h1, h2, g4⟩
theorem e_machineAt (h : Cnt μ.1 m c z p) (hM : IM μ.1 m) {r : Nat} (hr : r ≤ 5) {a : Nat} (ha : a < 100) : FX4_machineAt μ (nI r) (nI a) = some (ffI (firstFrom (qW μ.1 (nI r) a 1 (-1)) 0 m)) := by
  have hm := h.lm
  unfold FX4_machineAt
  refine (loop_find (K := fun _ => some (-1)) m (qW μ.1 (nI r) a 1 (-1)) (fun i => some (nI i)) (by omega) (fun n => ?_) (fun n i hi => ?_)).trans ?_
  · rw [FX4_machineAt_L2, g13, cl13, h.hm, if_pos (nI_le (Nat.le_refl _) (by omega))]
  · rw [FX4_machineAt_L2, g13, cl13, h.hm, if_neg (nI_ge hi (by omega)), oM4 (by omega), o_b, oM5 (by omega), o_b, o_b, oM0 (by omega), o_b, nI_succ]
    unfold qW FX4_in
    by_cases h2 : μ.1 (19 + (6 * i + 4)) = nI r
    · obtain ⟨k, s, e5, e0, s1, s4, hk⟩ := im_slot hM hi hr h2
      obtain ⟨t, ht⟩ : ∃ t, k + s = t + 1 := ⟨k + s - 1, by omega⟩
      rw [e5, e0, if_pos h2, nI_add, ht, nI_pred]
      by_cases h3 : a < k
      · rw [if_pos (nI_lt h3 (by omega)), o_b]
        simp [nI_leI (show a + 1 < 2 ^ 31 by omega) (show k < 2 ^ 31 by omega), show a + 1 ≤ k by omega]
      · rw [if_neg (nI_nlt (by omega) (by omega))]
        by_cases h4 : t < a
        · rw [if_pos (nI_lt h4 (by omega)), o_b]
          simp [nI_leI (show t + 1 < 2 ^ 31 by omega) (show a < 2 ^ 31 by omega), show t + 1 ≤ a by omega]
        · rw [if_neg (nI_nlt (by omega) (by omega)), o_b]
          have n1 : ¬ nI (a + 1) ≤ nI k := nI_ge (by omega) (by omega)
          have n2 : ¬ nI (t + 1) ≤ nI a := nI_ge (by omega) (by omega)
          simp [h2, n1, n2, nI_nm1 (show i < 2 ^ 31 by omega)]
    · rw [if_neg h2]; simp [h2]
  · cases firstFrom (qW μ.1 (nI r) a 1 (-1)) 0 m <;> rfl
theorem qW_iff {r a s i : Nat} (hM : IM f m) (hi : i < m) (hr : r ≤ 5) (ha : a + s < 100) (skip : Int32) : qW f (nI r) a s skip i = true ↔ nI i ≠ skip ∧ f (19 + (6 * i + 4)) = nI r ∧ ∃ k t : Nat, f (19 + (6 * i + 5)) = nI k ∧ f (19 + (6 * i + 0)) = nI t ∧ 1 ≤ t ∧ t ≤ 4 ∧ k + t ≤ 10 ∧ k < a + s ∧ a < k + t := by
  unfold qW
  rw [decide_eq_true_iff]
  constructor
  · intro ⟨h1, h2, h3, h4⟩
    obtain ⟨k, t, e5, e0, s1, s4, hk⟩ := im_slot hM hi hr h2
    rw [e5, nI_leI (by omega) (by omega)] at h3
    rw [e5, e0, nI_add, nI_leI (by omega) (by omega)] at h4
    exact ⟨h1, h2, k, t, e5, e0, s1, s4, hk, by omega, by omega⟩
  · intro ⟨h1, h2, k, t, e5, e0, s1, s4, hk, h3, h4⟩
    refine ⟨h1, h2, ?_, ?_⟩
    · rw [e5]; exact nI_ge h3 (by omega)
    · rw [e5, e0, nI_add]; exact nI_ge h4 (by omega)
end OB5

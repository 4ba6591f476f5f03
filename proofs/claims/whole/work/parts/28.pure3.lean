/-! observers: trays, needs, difference, what is wrong -/
theorem nI_nm1 {n : Nat} (h : n < 2 ^ 31) : ¬ nI n = -1 := fun e => by
  have := congrArg Int32.toInt e
  rw [nI_toInt h, show (-1 : Int32).toInt = -1 from by decide] at this
  omega
theorem tray_or {α : Type} (x a b : Int32) (A B : α) : (if x < (if b < a then b else a) then A else if (if a < b then b else a) ≤ x then A else B) = if (x < a ↔ x < b) then A else B := by
  have hx : ∀ u v : Int32, u < v ↔ u.toInt < v.toInt := fun u v => Int32.lt_iff_toInt_lt
  have hy : ∀ u v : Int32, u ≤ v ↔ u.toInt ≤ v.toInt := fun u v => Int32.le_iff_toInt_le
  by_cases h1 : b < a <;> by_cases h2 : a < b <;> by_cases h3 : x < a <;> by_cases h4 : x < b <;> by_cases h5 : a ≤ x <;> by_cases h6 : b ≤ x <;> simp only [h1, h2, h3, h4, h5, h6, if_true, if_false, iff_true, iff_false, not_true, not_false_iff, true_iff] <;> (simp only [hx, hy] at h1 h2 h3 h4 h5 h6; omega)
section OB3
variable {f : Nat → Int32} {μ : MDS} {m c z p : Nat} {j : Nat}
/-- the rack of the machine at end k of cable j -/
def rk (f : Nat → Int32) (j k : Nat) : Int32 := f (19 + (6 * (f (91 + (3 * j + k))).toNatClampNeg + 4))
def gt (f : Nat → Int32) (x : Int32) (j : Nat) : Int32 := if rk f j 0 = -1 ∨ rk f j 1 = -1 ∨ (x < rk f j 0 ↔ x < rk f j 1) then 0 else 1
theorem c_ends (h : Cnt f m c z p) (hc : IC f m c) (hj : j < c) : FX1_rackOfEnd (rsOf f) (nI j) 0 = some (rk f j 0) ∧ FX1_rackOfEnd (rsOf f) (nI j) 1 = some (rk f j 1) := by
  have hm := h.lm
  obtain ⟨a, b, l, e0, ha, e1, hb, e2, hl, q1, q2⟩ := c_end h hc hj
  refine ⟨?_, ?_⟩
  · rw [q1]; unfold rk; rw [e0, nI_clamp (by omega)]
  · rw [q2]; unfold rk; rw [e1, nI_clamp (by omega)]
theorem e_ends (h : Cnt μ.1 m c z p) (hc : IC μ.1 m c) (hj : j < c) : FX4_of μ (μ.1 (91 + (3 * j + 0))) (4 : Int32) = some (rk μ.1 j 0) ∧ FX4_of μ (μ.1 (91 + (3 * j + 1))) (4 : Int32) = some (rk μ.1 j 1) := by
  have hm := h.lm
  obtain ⟨a, b, l, e0, ha, e1, hb, e2, hl⟩ := hc j hj
  refine ⟨?_, ?_⟩
  · unfold rk; rw [e0, nI_clamp (by omega), oM4 (by omega)]
  · unfold rk; rw [e1, nI_clamp (by omega), oM4 (by omega)]
theorem c_cablesInTray (h : Cnt f m c z p) (hc : IC f m c) (x1 : Int32) : FX1_cablesInTray (rsOf f) x1 = some (sumTo (gt f x1) c) := by
  have hm := h.lc
  unfold FX1_cablesInTray
  refine loop_sumS c (gt f x1) (by omega) (fun n acc => ?_) (fun n j acc hj => ?_)
  · rw [FX1_cablesInTray_L4, rz_nc, h.hc, if_pos (nI_le (Nat.le_refl _) (by omega))]
  · rw [FX1_cablesInTray_L4, rz_nc, h.hc, if_neg (nI_ge hj (by omega)), (c_ends h hc hj).1, o_b, (c_ends h hc hj).2, o_b, tray_or, nI_succ]
    unfold gt
    by_cases h1 : rk f j 0 = -1 <;> by_cases h2 : rk f j 1 = -1 <;> by_cases h3 : (x1 < rk f j 0 ↔ x1 < rk f j 1) <;> simp [h1, h2, h3] <;> simp_all
theorem e_inTray (h : Cnt μ.1 m c z p) (hc : IC μ.1 m c) (x1 : Int32) : FX4_inTray μ x1 = some (sumTo (gt μ.1 x1) c) := by
  have hm := h.lc
  unfold FX4_inTray
  refine loop_sumS c (gt μ.1 x1) (by omega) (fun n acc => ?_) (fun n j acc hj => ?_)
  · rw [FX4_inTray_L4, g14, cl14, h.hc, if_pos (nI_le (Nat.le_refl _) (by omega))]
  · rw [FX4_inTray_L4, g14, cl14, h.hc, if_neg (nI_ge hj (by omega)), nmv_eq, i91_0, gd_in (by omega) (by omega), nI_clamp (by omega), (e_ends h hc hj).1, o_b, nmv_eq, i91_1, gd_in (by omega) (by omega), nI_clamp (by omega), nmv_eq, (e_ends h hc hj).2, o_b, nI_succ]
    unfold gt
    by_cases h1 : rk μ.1 j 0 = -1 <;> by_cases h2 : rk μ.1 j 1 = -1 <;> by_cases h3 : x1 < rk μ.1 j 0 <;> by_cases h4 : x1 < rk μ.1 j 1 <;> simp [h1, h2, h3, h4] <;> simp_all
def gn (f : Nat → Int32) (j : Nat) : Int32 := if rk f j 0 = -1 then 0 else if rk f j 1 = -1 then 0 else 2 + 3 * (if 0 ≤ rk f j 0 - rk f j 1 then rk f j 0 - rk f j 1 else 0 - (rk f j 0 - rk f j 1))
theorem c_need (h : Cnt f m c z p) (hc : IC f m c) (hj : j < c) : FX1_needOfCable (rsOf f) (nI j) = some (gn f j) := by
  unfold FX1_needOfCable
  rw [(c_ends h hc hj).1, o_b, (c_ends h hc hj).2, o_b]
  unfold gn
  by_cases h1 : rk f j 0 = -1 <;> by_cases h2 : rk f j 1 = -1 <;> simp [h1, h2, nmv_eq]
theorem rk_v (h : Cnt f m c z p) (hM : IM f m) (hc : IC f m c) (hj : j < c) (k : Nat) (hk : k < 2) : rk f j k = -1 ∨ ∃ a : Nat, rk f j k = nI a ∧ a ≤ 5 := by
  have hm := h.lm
  obtain ⟨a, b, l, e0, ha, e1, hb, e2, hl⟩ := hc j hj
  have key : ∀ i, i < m → f (19 + (6 * i + 4)) = -1 ∨ ∃ a : Nat, f (19 + (6 * i + 4)) = nI a ∧ a ≤ 5 := fun i hi => by
    obtain ⟨s, l, q, t, -, -, -, -, -, -, -, -, -, -, hp⟩ := hM i hi
    rcases hp with hp | ⟨a, b, h1, h2, -⟩
    · exact Or.inl hp.1
    · exact Or.inr ⟨a, h1, h2⟩
  unfold rk
  rcases (show k = 0 ∨ k = 1 by omega) with rfl | rfl
  · rw [e0, nI_clamp (by omega)]; exact key a ha
  · rw [e1, nI_clamp (by omega)]; exact key b hb
theorem e_need (h : Cnt μ.1 m c z p) (hM : IM μ.1 m) (hc : IC μ.1 m c) (hj : j < c) : FX4_needs μ (nI j) = some (gn μ.1 j) := by
  have hm := h.lc
  unfold FX4_needs
  rw [i91_0, gd_in (by omega) (by omega), nI_clamp (by omega), nmv_eq, (e_ends h hc hj).1, o_b, nmv_eq, i91_1, gd_in (by omega) (by omega), nI_clamp (by omega), (e_ends h hc hj).2, o_b]
  unfold FX4_needs_J50 gn
  rcases rk_v h hM hc hj 0 (by omega) with h1 | ⟨a, h1, ha⟩
  · simp [h1]
  · have n0 : ¬ rk μ.1 j 0 = -1 := by rw [h1]; exact nI_nm1 (n := a) (by omega)
    rcases rk_v h hM hc hj 1 (by omega) with h2 | ⟨b, h2, hb⟩
    · simp [n0, h2]
    · have n1 : ¬ rk μ.1 j 1 = -1 := by rw [h2]; exact nI_nm1 (n := b) (by omega)
      simp only [n0, n1, if_false]
      rw [h1, h2]
      by_cases hab : b ≤ a
      · rw [if_pos (nI_le hab (by omega)), pk_sub hab, if_pos (nI_pos' (by omega))]
      · rw [if_neg (nI_ge (by omega) (by omega)), if_neg (by
          have := pk_sneg (a := a) (b := b) (by omega) (by omega)
          rw [Int32.lt_iff_toInt_lt] at this
          rw [Int32.le_iff_toInt_le]
          rw [show (0 : Int32).toInt = 0 from rfl] at this ⊢
          omega), Int32.zero_sub, Int32.neg_sub]
theorem sum_nat {g : Nat → Int32} {B : Nat} : ∀ N : Nat, (∀ j, j < N → ∃ v : Nat, g j = nI v ∧ v ≤ B) → ∃ s : Nat, sumTo g N = nI s ∧ s ≤ B * N := by
  intro N
  induction N with
  | zero => intro _; exact ⟨0, rfl, by omega⟩
  | succ N ih =>
    intro h
    obtain ⟨s, e, hs⟩ := ih (fun j hj => h j (by omega))
    obtain ⟨v, e2, hv⟩ := h N (by omega)
    exact ⟨s + v, by show sumTo g N + g N = _; rw [e, e2, nI_add], by rw [Nat.mul_succ]; omega⟩
theorem gl_nat (hM : IM f m) (x1 x2 : Int32) : ∃ s : Nat, sumTo (gl f x1 x2) m = nI s ∧ s ≤ 99 * m := sum_nat m (fun j hj => by
  obtain ⟨s, l, q, t, -, -, -, e, -, hl, -⟩ := hM j hj
  unfold gl
  split
  · exact ⟨0, rfl, by omega⟩
  · split
    · exact ⟨l, e, hl⟩
    · exact ⟨0, rfl, by omega⟩)
end OB3

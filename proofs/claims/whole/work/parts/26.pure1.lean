/-! observers: loads and counts -/
section OB
variable {f : Nat → Int32} {μ : MDS} {m c z p : Nat} {j : Nat}
theorem stands (h : Cnt f m c z p) (hj : j < m) (x : Int32) : FX1_standsIn (rsOf f) (nI j) x = some (if f (19 + (6 * j + 4)) = x then 1 else 0) := by
  unfold FX1_standsIn
  rw [rz_nm, h.hm, aM4 h hj, o_b]
  split <;> rfl
def gl (f : Nat → Int32) (x1 x2 : Int32) (j : Nat) : Int32 := if f (19 + (6 * j + 4)) = -1 then 0 else if (x1 = -1 ∨ f (19 + (6 * j + 4)) = x1) ∧ (x2 = -1 ∨ f (19 + (6 * j + 2)) = x2) then f (19 + (6 * j + 1)) else 0
theorem e_load (h : Cnt μ.1 m c z p) (x1 x2 : Int32) : FX4_load μ x1 x2 = some (sumTo (gl μ.1 x1 x2) m) := by
  have hm := h.lm
  unfold FX4_load
  refine loop_sumS m (gl μ.1 x1 x2) (by omega) (fun n acc => ?_) (fun n j acc hj => ?_)
  · rw [FX4_load_L5, g13, cl13, h.hm, if_pos (nI_le (Nat.le_refl _) (by omega))]
  · rw [FX4_load_L5, g13, cl13, h.hm, if_neg (nI_ge hj (by omega)), oM4 (by omega), o_b, oM1 (by omega), oM2 (by omega), nI_succ]
    unfold gl
    by_cases h1 : μ.1 (19 + (6 * j + 4)) = -1
    · rw [if_pos h1, if_pos h1]; rfl
    · rw [if_neg h1, if_neg h1]
      by_cases h2 : x1 = -1 <;> by_cases h3 : x2 = -1 <;> by_cases h4 : μ.1 (19 + (6 * j + 4)) = x1 <;> by_cases h5 : μ.1 (19 + (6 * j + 2)) = x2 <;> simp [h2, h3, h4, h5]
theorem c_loadOfRack (h : Cnt f m c z p) {x1 : Int32} (hx : x1 ≠ -1) : FX1_loadOfRack (rsOf f) x1 = some (sumTo (gl f x1 (-1)) m) := by
  have hm := h.lm
  unfold FX1_loadOfRack
  refine loop_sumS m (gl f x1 (-1)) (by omega) (fun n acc => ?_) (fun n j acc hj => ?_)
  · rw [FX1_loadOfRack_L4, rz_nm, h.hm, if_pos (nI_le (Nat.le_refl _) (by omega))]
  · rw [FX1_loadOfRack_L4, rz_nm, h.hm, if_neg (nI_ge hj (by omega)), stands h hj, o_b, aM1 h hj, nI_succ]
    unfold gl
    by_cases h1 : f (19 + (6 * j + 4)) = x1
    · rw [if_pos h1]
      simp [h1, hx]
    · rw [if_neg h1]
      simp [h1, hx]
theorem c_loadOfPhase (h : Cnt f m c z p) {x1 : Int32} (hx : x1 ≠ -1) : FX1_loadOfPhase (rsOf f) x1 = some (sumTo (gl f (-1) x1) m) := by
  have hm := h.lm
  unfold FX1_loadOfPhase
  refine loop_sumS m (gl f (-1) x1) (by omega) (fun n acc => ?_) (fun n j acc hj => ?_)
  · rw [FX1_loadOfPhase_L4, rz_nm, h.hm, if_pos (nI_le (Nat.le_refl _) (by omega))]
  · rw [FX1_loadOfPhase_L4, rz_nm, h.hm, if_neg (nI_ge hj (by omega)), aM2 h hj, o_b, aM4 h hj, aM1 h hj, nI_succ]
    unfold gl
    by_cases h1 : f (19 + (6 * j + 2)) = x1 <;> by_cases h2 : f (19 + (6 * j + 4)) = -1 <;> simp [h1, h2, hx]
theorem c_loadOfRackOnPhase (h : Cnt f m c z p) {x1 x2 : Int32} (hx : x1 ≠ -1) (hx2 : x2 ≠ -1) : FX1_loadOfRackOnPhase (rsOf f) x1 x2 = some (sumTo (gl f x1 x2) m) := by
  have hm := h.lm
  unfold FX1_loadOfRackOnPhase
  refine loop_sumS m (gl f x1 x2) (by omega) (fun n acc => ?_) (fun n j acc hj => ?_)
  · rw [FX1_loadOfRackOnPhase_L5, rz_nm, h.hm, if_pos (nI_le (Nat.le_refl _) (by omega))]
  · rw [FX1_loadOfRackOnPhase_L5, rz_nm, h.hm, if_neg (nI_ge hj (by omega)), stands h hj, o_b, aM2 h hj, aM1 h hj, nI_succ]
    unfold gl
    by_cases h1 : f (19 + (6 * j + 4)) = x1 <;> by_cases h2 : f (19 + (6 * j + 2)) = x2 <;> simp [h1, h2, hx, hx2]
def gi (f : Nat → Int32) (x : Int32) (j : Nat) : Int32 := if f (19 + (6 * j + 4)) = x then 1 else 0
theorem c_machinesIn (h : Cnt f m c z p) (x1 : Int32) : FX1_machinesIn (rsOf f) x1 = some (sumTo (gi f x1) m) := by
  have hm := h.lm
  unfold FX1_machinesIn
  refine loop_sumS m (gi f x1) (by omega) (fun n acc => ?_) (fun n j acc hj => ?_)
  · rw [FX1_machinesIn_L4, rz_nm, h.hm, if_pos (nI_le (Nat.le_refl _) (by omega))]
  · rw [FX1_machinesIn_L4, rz_nm, h.hm, if_neg (nI_ge hj (by omega)), stands h hj, o_b, nI_succ]
    unfold gi
    by_cases h1 : f (19 + (6 * j + 4)) = x1 <;> simp [h1]
theorem e_machinesIn (h : Cnt μ.1 m c z p) (x1 : Int32) : FX4_machinesIn μ x1 = some (sumTo (gi μ.1 x1) m) := by
  have hm := h.lm
  unfold FX4_machinesIn
  refine loop_sumS m (gi μ.1 x1) (by omega) (fun n acc => ?_) (fun n j acc hj => ?_)
  · rw [FX4_machinesIn_L4, g13, cl13, h.hm, if_pos (nI_le (Nat.le_refl _) (by omega))]
  · rw [FX4_machinesIn_L4, g13, cl13, h.hm, if_neg (nI_ge hj (by omega)), oM4 (by omega), o_b, nI_succ]
    unfold gi
    by_cases h1 : μ.1 (19 + (6 * j + 4)) = x1 <;> simp [h1]
def gs (f : Nat → Int32) (j : Nat) : Int32 := if f (19 + (6 * j + 4)) = -1 then 0 else 1
theorem c_machinesStanding (h : Cnt f m c z p) : FX1_machinesStanding (rsOf f) = some (sumTo (gs f) m) := by
  have hm := h.lm
  unfold FX1_machinesStanding
  refine loop_sumS m (gs f) (by omega) (fun n acc => ?_) (fun n j acc hj => ?_)
  · rw [FX1_machinesStanding_L4, rz_nm, h.hm, if_pos (nI_le (Nat.le_refl _) (by omega))]
  · rw [FX1_machinesStanding_L4, rz_nm, h.hm, if_neg (nI_ge hj (by omega)), stands h hj, o_b, nI_succ]
    unfold gs
    by_cases h1 : f (19 + (6 * j + 4)) = -1 <;> simp [h1]
theorem e_standing (h : Cnt μ.1 m c z p) : FX4_standing μ = some (sumTo (gs μ.1) m) := by
  have hm := h.lm
  unfold FX4_standing
  refine loop_sumS m (gs μ.1) (by omega) (fun n acc => ?_) (fun n j acc hj => ?_)
  · rw [FX4_standing_L4, g13, cl13, h.hm, if_pos (nI_le (Nat.le_refl _) (by omega))]
  · rw [FX4_standing_L4, g13, cl13, h.hm, if_neg (nI_ge hj (by omega)), oM4 (by omega), o_b, nI_succ]
    unfold gs
    by_cases h1 : μ.1 (19 + (6 * j + 4)) = -1 <;> simp [h1]
def gk (f : Nat → Int32) (x : Int32) (j : Nat) : Int32 := if f (91 + (3 * j + 0)) = x ∨ f (91 + (3 * j + 1)) = x then 1 else 0
theorem i91 (j k : Nat) : (91 : Int32) + 3 * nI j + nI k = nI (91 + (3 * j + k)) := by
  rw [show (3 : Int32) = nI 3 from rfl, show (91 : Int32) = nI 91 from rfl, pk_mul, nI_add, nI_add, Nat.add_assoc]
theorem i91_0 (j : Nat) : (91 : Int32) + 3 * nI j = nI (91 + (3 * j + 0)) := by
  rw [show (3 : Int32) = nI 3 from rfl, show (91 : Int32) = nI 91 from rfl, pk_mul, nI_add]; rfl
theorem i91_1 (j : Nat) : nI (91 + (3 * j + 0)) + 1 = nI (91 + (3 * j + 1)) := by rw [nI_1]; rfl
theorem i91_2 (j : Nat) : nI (91 + (3 * j + 0)) + 2 = nI (91 + (3 * j + 2)) := by rw [show (2 : Int32) = nI 2 from rfl, nI_add]; rfl
theorem c_cablesOf (h : Cnt f m c z p) (x1 : Int32) : FX1_cablesOf (rsOf f) x1 = some (sumTo (gk f x1) c) := by
  have hm := h.lc
  unfold FX1_cablesOf
  refine loop_sumS c (gk f x1) (by omega) (fun n acc => ?_) (fun n j acc hj => ?_)
  · rw [FX1_cablesOf_L4, rz_nc, h.hc, if_pos (nI_le (Nat.le_refl _) (by omega))]
  · rw [FX1_cablesOf_L4, rz_nc, h.hc, if_neg (nI_ge hj (by omega)), aC0 h hj, o_b, aC1 h hj, nI_succ]
    unfold gk
    by_cases h1 : f (91 + (3 * j + 0)) = x1 <;> by_cases h2 : f (91 + (3 * j + 1)) = x1 <;> simp_all
theorem e_cablesOf (h : Cnt μ.1 m c z p) (x1 : Int32) : FX4_cablesOf μ x1 = some (sumTo (gk μ.1 x1) c) := by
  have hm := h.lc
  unfold FX4_cablesOf
  refine loop_sumS c (gk μ.1 x1) (by omega) (fun n acc => ?_) (fun n j acc hj => ?_)
  · rw [FX4_cablesOf_L4, g14, cl14, h.hc, if_pos (nI_le (Nat.le_refl _) (by omega))]
  · rw [FX4_cablesOf_L4, g14, cl14, h.hc, if_neg (nI_ge hj (by omega)), nmv_eq, i91_0, gd_in (by omega) (by omega), nI_clamp (by omega), nmv_eq, i91_1, gd_in (by omega) (by omega), nI_clamp (by omega), nmv_eq, nI_succ j]
    unfold gk
    by_cases h1 : μ.1 (91 + (3 * j + 0)) = x1 <;> by_cases h2 : μ.1 (91 + (3 * j + 1)) = x1 <;> simp_all
end OB

/-! saving: class and model alike -/
def Inv (f : Nat → Int32) : Prop := ∃ m c z p, Cnt f m c z p ∧ IM f m ∧ IC f m c ∧ IF f z ∧ IP f m p ∧ IH f ∧ IO f m
theorem inv_ext {f g : Nat → Int32} (h : ∀ k, k < 219 → f k = g k) (hf : Inv f) : Inv g := by
  obtain ⟨m, c, z, p, hC, hM, hc, hF, hP, hH, hO⟩ := hf
  have l1 := hC.lm
  have l2 := hC.lc
  have l3 := hC.lz
  have l4 := hC.lp
  refine ⟨m, c, z, p, ?_, fun j hj => ?_, fun j hj => ?_, fun j hj => ?_, fun j hj => ?_, ?_, fun i j hi hj => ?_⟩
  · obtain ⟨a, b, d, e, r⟩ := hC
    exact ⟨(h _ (by omega)).symm.trans a, (h _ (by omega)).symm.trans b, (h _ (by omega)).symm.trans d, (h _ (by omega)).symm.trans e, r⟩
  · have := hM j hj
    rw [h _ (by omega), h (19 + (6 * j + 1)) (by omega), h (19 + (6 * j + 2)) (by omega), h (19 + (6 * j + 3)) (by omega), h (19 + (6 * j + 4)) (by omega), h (19 + (6 * j + 5)) (by omega)] at this
    exact this
  · have := hc j hj
    rw [h (91 + (3 * j + 0)) (by omega), h (91 + (3 * j + 1)) (by omega), h (91 + (3 * j + 2)) (by omega)] at this
    exact this
  · have := hF j hj
    rw [h (121 + (3 * j + 0)) (by omega), h (121 + (3 * j + 1)) (by omega), h (121 + (3 * j + 2)) (by omega)] at this
    exact this
  · obtain ⟨a, q, s, e1, e2, e3, e4, e5, e6⟩ := hP j hj
    exact ⟨a, q, s, (h _ (by omega)).symm.trans e1, e2, (h _ (by omega)).symm.trans e3, e4, (h _ (by omega)).symm.trans e5, by rw [← h (139 + (4 * j + 1)) (by omega), ← h (139 + (4 * j + 2)) (by omega)]; exact e6⟩
  · obtain ⟨a, e, b⟩ := hH
    exact ⟨a, (h _ (by omega)).symm.trans e, b⟩
  · have := hO i j hi hj
    rw [h (19 + (6 * i + 4)) (by omega), h (19 + (6 * j + 4)) (by omega), h (19 + (6 * i + 5)) (by omega), h (19 + (6 * j + 5)) (by omega), h (19 + (6 * i + 0)) (by omega), h (19 + (6 * j + 0)) (by omega)] at this
    exact this
def sv (S0 S1 S2 S3 : RS) (i : Nat) : RS := if i = 0 then S0 else if i = 1 then S1 else if i = 2 then S2 else S3
def row (P : Nat → Int32) (i : Nat) : Nat → Int32 := fun x => P (219 * i + x)
def SV (P : Nat → Int32) (θ : Int32) (S0 S1 S2 S3 : RS) (k : Nat) : Prop := θ = nI k ∧ k ≤ 4 ∧ Zr S0 ∧ Zr S1 ∧ Zr S2 ∧ Zr S3 ∧ ∀ i, i < k → sv S0 S1 S2 S3 i = rsOf (row P i) ∧ Inv (row P i)
theorem c_save {P : Nat → Int32} {θ : Int32} {S0 S1 S2 S3 ρ : RS} {k : Nat} (h : SV P θ S0 S1 S2 S3 k) (hρ : Zr ρ) : ∃ S0' S1' S2' S3', FX3_save θ ρ S0 S1 S2 S3 = some (nI (min (k + 1) 4), S0', S1', S2', S3') ∧ Zr S0' ∧ Zr S1' ∧ Zr S2' ∧ Zr S3' ∧ sv S0' S1' S2' S3' (min (k + 1) 4 - 1) = ρ ∧ ∀ i, i < min (k + 1) 4 - 1 → sv S0' S1' S2' S3' i = sv S0 S1 S2 S3 (i + (if k = 4 then 1 else 0)) := by
  obtain ⟨rfl, hk, z0, z1, z2, z3, -⟩ := h
  unfold FX3_save
  rcases (show k = 0 ∨ k = 1 ∨ k = 2 ∨ k = 3 ∨ k = 4 by omega) with rfl | rfl | rfl | rfl | rfl
  · rw [if_pos (by decide), if_pos (by decide), rcopy z0 hρ]
    exact ⟨ρ, S1, S2, S3, rfl, hρ, z1, z2, z3, rfl, fun i hi => absurd hi (by omega)⟩
  · rw [if_pos (by decide), if_neg (by decide), if_pos (by decide), rcopy z1 hρ]
    refine ⟨S0, ρ, S2, S3, rfl, z0, hρ, z2, z3, rfl, fun i hi => ?_⟩
    obtain rfl : i = 0 := by omega
    rfl
  · rw [if_pos (by decide), if_neg (by decide), if_neg (by decide), if_pos (by decide), rcopy z2 hρ]
    refine ⟨S0, S1, ρ, S3, rfl, z0, z1, hρ, z3, rfl, fun i hi => ?_⟩
    rcases (show i = 0 ∨ i = 1 by omega) with rfl | rfl <;> rfl
  · rw [if_pos (by decide), if_neg (by decide), if_neg (by decide), if_neg (by decide), if_pos (by decide), rcopy z3 hρ]
    refine ⟨S0, S1, S2, ρ, rfl, z0, z1, z2, hρ, rfl, fun i hi => ?_⟩
    rcases (show i = 0 ∨ i = 1 ∨ i = 2 by omega) with rfl | rfl | rfl <;> rfl
  · rw [if_neg (by decide), rcopy z0 hρ]
    refine ⟨S1, S2, S3, ρ, rfl, z1, z2, z3, hρ, rfl, fun i hi => ?_⟩
    rcases (show i = 0 ∨ i = 1 ∨ i = 2 by omega) with rfl | rfl | rfl <;> rfl
theorem sim_now {μ : MDS} {θ : Int32} {S0 S1 S2 S3 : RS} {k : Nat} (h : SV μ.2.1 θ S0 S1 S2 S3 k) (hs : μ.2.2.2.2.2.1 = nI k) (hI : Inv μ.1) : ∃ S0' S1' S2' S3' P', FX3_save θ (rsOf μ.1) S0 S1 S2 S3 = some (nI (min (k + 1) 4), S0', S1', S2', S3') ∧ FX4_savesFrom_now μ = some (sp μ P' (nI (min (k + 1) 4))) ∧ SV P' (nI (min (k + 1) 4)) S0' S1' S2' S3' (min (k + 1) 4) := by
  obtain ⟨S0', S1', S2', S3', e1, z0, z1, z2, z3, e2, e3⟩ := c_save h (zr_rsOf μ.1)
  obtain ⟨P', g1, g2, g3⟩ := saves_now μ h.2.1 hs
  refine ⟨S0', S1', S2', S3', P', e1, g1, rfl, by omega, z0, z1, z2, z3, fun i hi => ?_⟩
  by_cases hl : i = min (k + 1) 4 - 1
  · subst hl
    have e : ∀ x, x < 219 → row P' (min (k + 1) 4 - 1) x = μ.1 x := g2
    exact ⟨e2.trans (rs_ext (fun x hx => (e x hx).symm)), inv_ext (fun x hx => (e x hx).symm) hI⟩
  · have hi' : i < min (k + 1) 4 - 1 := by omega
    have e : ∀ x, x < 219 → row P' i x = row μ.2.1 (i + (if k = 4 then 1 else 0)) x := g3 i hi'
    obtain ⟨q1, q2⟩ := h.2.2.2.2.2.2 (i + (if k = 4 then 1 else 0)) (by split <;> omega)
    exact ⟨(e3 i hi').trans (q1.trans (rs_ext (fun x hx => (e x hx).symm))), inv_ext (fun x hx => (e x hx).symm) q2⟩
theorem sim_aside {μ : MDS} {θ : Int32} {S0 S1 S2 S3 : RS} {k : Nat} (h : SV μ.2.1 θ S0 S1 S2 S3 k) (hs : μ.2.2.2.2.2.1 = nI k) (hI : Inv μ.2.2.1) : ∃ S0' S1' S2' S3' P', FX3_save θ (rsOf μ.2.2.1) S0 S1 S2 S3 = some (nI (min (k + 1) 4), S0', S1', S2', S3') ∧ FX4_savesFrom_aside μ = some (sp μ P' (nI (min (k + 1) 4))) ∧ SV P' (nI (min (k + 1) 4)) S0' S1' S2' S3' (min (k + 1) 4) := by
  obtain ⟨S0', S1', S2', S3', e1, z0, z1, z2, z3, e2, e3⟩ := c_save h (zr_rsOf μ.2.2.1)
  obtain ⟨P', g1, g2, g3⟩ := saves_aside μ h.2.1 hs
  refine ⟨S0', S1', S2', S3', P', e1, g1, rfl, by omega, z0, z1, z2, z3, fun i hi => ?_⟩
  by_cases hl : i = min (k + 1) 4 - 1
  · subst hl
    have e : ∀ x, x < 219 → row P' (min (k + 1) 4 - 1) x = μ.2.2.1 x := g2
    exact ⟨e2.trans (rs_ext (fun x hx => (e x hx).symm)), inv_ext (fun x hx => (e x hx).symm) hI⟩
  · have hi' : i < min (k + 1) 4 - 1 := by omega
    have e : ∀ x, x < 219 → row P' i x = row μ.2.1 (i + (if k = 4 then 1 else 0)) x := g3 i hi'
    obtain ⟨q1, q2⟩ := h.2.2.2.2.2.2 (i + (if k = 4 then 1 else 0)) (by split <;> omega)
    exact ⟨(e3 i hi').trans (q1.trans (rs_ext (fun x hx => (e x hx).symm))), inv_ext (fun x hx => (e x hx).symm) q2⟩

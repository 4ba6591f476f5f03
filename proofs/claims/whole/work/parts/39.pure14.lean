/-! the calls that set: alike -/
def Keep (μ μ' : MDS) : Prop := μ'.2.2.2.2.1 = μ.2.2.2.2.1 ∧ μ'.2.2.2.2.2.2.2.1 = μ.2.2.2.2.2.2.2.1 ∧ μ'.2.2.2.2.2.2.1 = 0
def Chg (A : Option (Nat ⊕ (Int32 × Int32 × RS × RS × RS × RS × RS))) (B : Option (Int32 × MDS)) (μ : MDS) (cd : Nat → Int32) : Prop := (∃ k w, A = some (.inl k) ∧ ¬ cd k = 0 ∧ B = some (w, rfz μ (cd k))) ∨ ∃ v θ' S0' S1' S2' S3' μ' k', A = some (.inr (v, θ', rsOf μ'.1, S0', S1', S2', S3')) ∧ B = some (v, μ') ∧ Keep μ μ' ∧ Inv μ'.1 ∧ SV μ'.2.1 θ' S0' S1' S2' S3' k' ∧ μ'.2.2.2.2.2.1 = nI k'
def mp (μ : MDS) (f P : Nat → Int32) (s : Int32) : MDS := (f, P, μ.2.2.1, μ.2.2.2.1, μ.2.2.2.2.1, s, 0, μ.2.2.2.2.2.2.2.1, μ.2.2.2.2.2.2.2.2.1, μ.2.2.2.2.2.2.2.2.2.1, μ.2.2.2.2.2.2.2.2.2.2.1, μ.2.2.2.2.2.2.2.2.2.2.2.1, μ.2.2.2.2.2.2.2.2.2.2.2.2)
section SETS
variable {μ : MDS} {θ : Int32} {S0 S1 S2 S3 : RS} {k : Nat}
theorem puts_sim (h : SV μ.2.1 θ S0 S1 S2 S3 k) (hs : μ.2.2.2.2.2.1 = nI k) (hI : Inv μ.1) {i : Nat} (hi : i < 219) (v : Int32) : ∃ S0' S1' S2' S3' P', FX3_save θ (rsOf μ.1) S0 S1 S2 S3 = some (nI (min (k + 1) 4), S0', S1', S2', S3') ∧ FX4_puts (rfz μ 0) (nI i) v = some (μ.1 i, mp μ (upd μ.1 i v) P' (nI (min (k + 1) 4))) ∧ SV P' (nI (min (k + 1) 4)) S0' S1' S2' S3' (min (k + 1) 4) := by
  obtain ⟨S0', S1', S2', S3', P', e1, e2, e3⟩ := sim_now (μ := rfz μ 0) h hs hI
  refine ⟨S0', S1', S2', S3', P', e1, ?_, e3⟩
  unfold FX4_puts FX4_saves
  rw [e2, o_b, o_b, gd_in hi (by omega), gd_in hi (by omega), nI_clamp (by omega)]
  rfl
theorem s_setLimit (h : SV μ.2.1 θ S0 S1 S2 S3 k) (hs : μ.2.2.2.2.2.1 = nI k) (hI : Inv μ.1) (x y : Int32) : Chg (FX3_setLimit θ (rsOf μ.1) S0 S1 S2 S3 x y) (FX4_setLimit μ x y) μ cd12 := by
  unfold FX3_setLimit FX4_setLimit
  rcases rack_chk x with ⟨h1, h2⟩ | ⟨j, hj, rfl, h1, h2⟩
  · rw [h1, h2, bX_l, o_b, if_pos z00, refd1, o_b, if_neg n10]
    exact Or.inl ⟨1, 0, rfl, by decide, rfl⟩
  · rw [h1, h2, bX_r, o_b, if_neg n10]
    rcases range_chk y 0 500 with ⟨g1, g2⟩ | ⟨g1, g2, g3, g4⟩
    · rw [g1, g2, bX_l, o_b, if_pos z00, refd2, o_b, if_neg n10]
      exact Or.inl ⟨2, 0, rfl, by decide, rfl⟩
    · obtain ⟨S0', S1', S2', S3', P', e1, e2, e3⟩ := puts_sim h hs hI (i := j) (by omega) y
      rw [g1, g2, bX_r, o_b, if_neg n10, refd0, o_b, if_pos z00, e1, o_b, Int32.zero_add, e2, gd_in (by omega) (by omega), gd_in (by omega) (by omega), nI_clamp (by omega), rz_lim _ (by omega), nmv_eq]
      refine Or.inr ⟨μ.1 j, nI (min (k + 1) 4), S0', S1', S2', S3', mp μ (upd μ.1 j y) P' (nI (min (k + 1) 4)), min (k + 1) 4, ?_, rfl, ⟨rfl, rfl, rfl⟩, ?_, e3, rfl⟩
      · show _ = some (Sum.inr (μ.1 j, nI (min (k + 1) 4), rsOf (upd μ.1 j y), S0', S1', S2', S3'))
        rw [rs_lim _ _ (by omega)]
      · obtain ⟨m, c, z, p, q⟩ := hI
        exact inv_hi (fun i h1 h2 => (upd_ne μ.1 y (by omega)).symm) (by obtain ⟨b, q1, q2⟩ := q.2.2.2.2.2.1; exact ⟨b, (upd_ne μ.1 y (by omega)).trans q1, q2⟩) ⟨m, c, z, p, q⟩
theorem s_setTray (h : SV μ.2.1 θ S0 S1 S2 S3 k) (hs : μ.2.2.2.2.2.1 = nI k) (hI : Inv μ.1) (x y : Int32) : Chg (FX3_setTray θ (rsOf μ.1) S0 S1 S2 S3 x y) (FX4_setTray μ x y) μ cd12 := by
  unfold FX3_setTray FX4_setTray
  rcases tray_chk x with ⟨h1, h2⟩ | ⟨j, hj, rfl, h1, h2⟩
  · rw [h1, h2, bX_l, o_b, if_pos z00, refd1, o_b, if_neg n10]
    exact Or.inl ⟨1, 0, rfl, by decide, rfl⟩
  · rw [h1, h2, bX_r, o_b, if_neg n10]
    rcases range_chk y 0 9 with ⟨g1, g2⟩ | ⟨g1, g2, g3, g4⟩
    · rw [g1, g2, bX_l, o_b, if_pos z00, refd2, o_b, if_neg n10]
      exact Or.inl ⟨2, 0, rfl, by decide, rfl⟩
    · obtain ⟨S0', S1', S2', S3', P', e1, e2, e3⟩ := puts_sim h hs hI (i := 6 + j) (by omega) y
      rw [g1, g2, bX_r, o_b, if_neg n10, refd0, o_b, if_pos z00, e1, o_b, show (6 : Int32) + nI j = nI (6 + j) from nI_add 6 j, e2, gd_in (by omega) (by omega), gd_in (by omega) (by omega), nI_clamp (by omega), rz_tray _ (by omega), nmv_eq]
      refine Or.inr ⟨μ.1 (6 + j), nI (min (k + 1) 4), S0', S1', S2', S3', mp μ (upd μ.1 (6 + j) y) P' (nI (min (k + 1) 4)), min (k + 1) 4, ?_, rfl, ⟨rfl, rfl, rfl⟩, ?_, e3, rfl⟩
      · show _ = some (Sum.inr (μ.1 (6 + j), nI (min (k + 1) 4), rsOf (upd μ.1 (6 + j) y), S0', S1', S2', S3'))
        rw [rs_tray _ _ (by omega)]
      · obtain ⟨m, c, z, p, q⟩ := hI
        exact inv_hi (fun i h1 h2 => (upd_ne μ.1 y (by omega)).symm) (by obtain ⟨b, q1, q2⟩ := q.2.2.2.2.2.1; exact ⟨b, (upd_ne μ.1 y (by omega)).trans q1, q2⟩) ⟨m, c, z, p, q⟩
theorem s_setLevel (h : SV μ.2.1 θ S0 S1 S2 S3 k) (hs : μ.2.2.2.2.2.1 = nI k) (hI : Inv μ.1) (y : Int32) : Chg (FX3_setLevel θ (rsOf μ.1) S0 S1 S2 S3 y) (FX4_setLevel μ y) μ cda := by
  unfold FX3_setLevel FX4_setLevel
  rcases range_chk y 0 500 with ⟨g1, g2⟩ | ⟨g1, g2, g3, g4⟩
  · rw [g1, g2, bX_l, o_b, if_pos z00, refd1, o_b, if_neg n10]
    exact Or.inl ⟨2, 0, rfl, by decide, rfl⟩
  · obtain ⟨S0', S1', S2', S3', P', e1, e2, e3⟩ := puts_sim h hs hI (i := 11) (by omega) y
    rw [g1, g2, bX_r, o_b, if_neg n10, refd0, o_b, if_pos z00, e1, o_b, show (11 : Int32) = nI 11 from rfl, e2]
    refine Or.inr ⟨μ.1 11, nI (min (k + 1) 4), S0', S1', S2', S3', mp μ (upd μ.1 11 y) P' (nI (min (k + 1) 4)), min (k + 1) 4, ?_, rfl, ⟨rfl, rfl, rfl⟩, ?_, e3, rfl⟩
    · show _ = some (Sum.inr (μ.1 11, nI (min (k + 1) 4), rsOf (upd μ.1 11 y), S0', S1', S2', S3'))
      rw [rs_lev]; rfl
    · obtain ⟨m, c, z, p, q⟩ := hI
      exact inv_hi (fun i h1 h2 => (upd_ne μ.1 y (by omega)).symm) (by obtain ⟨b, q1, q2⟩ := q.2.2.2.2.2.1; exact ⟨b, show upd μ.1 11 y 12 = nI b from (upd_ne μ.1 y (by decide)).trans q1, q2⟩) ⟨m, c, z, p, q⟩
theorem s_pass (h : SV μ.2.1 θ S0 S1 S2 S3 k) (hs : μ.2.2.2.2.2.1 = nI k) (hI : Inv μ.1) (y : Int32) : Chg (FX3_pass θ (rsOf μ.1) S0 S1 S2 S3 y) (FX4_pass μ y) μ cd23 := by
  unfold FX3_pass FX4_pass FX4_pass_J35
  rcases range_chk y 1 99 with ⟨g1, g2⟩ | ⟨g1, g2, g3, g4⟩
  · rw [g1, g2, bX_l, o_b, if_pos z00, refd1, o_b, if_neg n10]
    exact Or.inl ⟨2, 0, rfl, by decide, rfl⟩
  · have g5 : ¬ y < 0 := by
      rw [Int32.lt_iff_toInt_lt] at g3 ⊢
      rw [show (1 : Int32).toInt = 1 from rfl] at g3
      rw [show (0 : Int32).toInt = 0 from rfl]
      omega
    obtain ⟨a, ha, rfl⟩ := nI_of2 (n := 99) rfl g5 g4
    obtain ⟨m, c, z, p, q⟩ := hI
    obtain ⟨b, q1, q2⟩ := q.2.2.2.2.2.1
    rw [g1, g2, bX_r, o_b, if_neg n10, g12, cl12, nmv_eq, rz_hour, q1, nI_add]
    by_cases hle : nI (b + a) ≤ 2000
    · obtain ⟨S0', S1', S2', S3', P', e1, e2, e3⟩ := sim_now (μ := rfz μ 0) h hs ⟨m, c, z, p, q⟩
      have e1' : FX3_save θ (rsOf μ.1) S0 S1 S2 S3 = some (nI (min (k + 1) 4), S0', S1', S2', S3') := e1
      unfold FX4_saves
      rw [if_pos hle, if_pos hle, e1', o_b, refd0, o_b, if_pos z00, e2, o_b, o_b, gd_t (show ¬ ((12 : Int32) < 0 ∨ 219 ≤ 12) by decide), nmv_eq, gd_t (show ¬ ((12 : Int32) < 0 ∨ 219 ≤ 12) by decide), nmv_eq, gd_t (show ¬ ((12 : Int32) < 0 ∨ 219 ≤ 12) by decide)]
      refine Or.inr ⟨nI (b + a), nI (min (k + 1) 4), S0', S1', S2', S3', mp μ (upd μ.1 12 (nI (b + a))) P' (nI (min (k + 1) 4)), min (k + 1) 4, ?_, ?_, ⟨rfl, rfl, rfl⟩, ?_, e3, rfl⟩
      · show _ = some (Sum.inr (nI (b + a), nI (min (k + 1) 4), rsOf (upd μ.1 12 (nI (b + a))), S0', S1', S2', S3'))
        rw [rs_hr]; rfl
      · show some (upd μ.1 12 (μ.1 12 + nI a) 12, mp μ (upd μ.1 12 (μ.1 12 + nI a)) P' (nI (min (k + 1) 4))) = _
        rw [q1, nI_add, upd_at]
      · have hle2 : b + a ≤ 2000 := by
          rw [show (2000 : Int32) = nI 2000 from rfl, nI_leI (by omega) (by omega)] at hle
          exact hle
        exact inv_hi (fun i h1 h2 => (upd_ne μ.1 _ (by omega)).symm) ⟨b + a, upd_at μ.1 12 _, hle2⟩ ⟨m, c, z, p, q⟩
    · rw [if_neg hle, if_neg hle, refd2, o_b, if_neg n10]
      exact Or.inl ⟨3, 0, rfl, by decide, rfl⟩
end SETS

/-! a machine moved: alike -/
section MV
variable {f g : Nat → Int32} {μ : MDS} {m c z p : Nat} {j : Nat}
theorem cnt_puR {v0 v1 v2 v3 : Int32} (h : Cnt f m c z p) : ∃ p', Cnt (puR f p v0 v1 v2 v3) m c z p' := by
  have lp := h.lp
  unfold puR
  by_cases hp : p = 20
  · subst hp
    exact ⟨20, by rw [if_pos rfl]; exact cnt_pu4 (cnt_g20 h) (by omega)⟩
  · exact ⟨p + 1, by rw [if_neg hp]; exact cnt_pu4 h (by omega)⟩
theorem c_doMove (h : Cnt f m c z p) (hj : j < m) {r s : Int32} (hs : FX1_slotBehindMove (rsOf f) (nI j) r = some s) : FX1_doMove (rsOf f) (nI j) r = some (rsOf (puR (plc f j r s (f (19 + (6 * j + 2)))) p (nI j) (f (19 + (6 * j + 4))) (f (19 + (6 * j + 5))) (f (19 + (6 * j + 2))))) := by
  have lm := h.lm
  obtain ⟨p', hG⟩ := cnt_puR (v0 := nI j) (v1 := f (19 + (6 * j + 4))) (v2 := f (19 + (6 * j + 5))) (v3 := f (19 + (6 * j + 2))) h
  unfold FX1_doMove
  rw [hs, o_b, c_push h hj, o_b, rz_nm, hG.hm, aM2 hG hj, o_b, c_place hG hj, o_b, puR_o _ _ _ _ _ (by omega) (by omega) (by omega), puR_plc _ (by omega)]
theorem c_doChange (h : Cnt f m c z p) (hj : j < m) (x : Int32) : FX1_doChange (rsOf f) (nI j) x = some (rsOf (puR (plc f j (f (19 + (6 * j + 4))) (f (19 + (6 * j + 5))) x) p (nI j) (f (19 + (6 * j + 4))) (f (19 + (6 * j + 5))) (f (19 + (6 * j + 2))))) := by
  have lm := h.lm
  obtain ⟨p', hG⟩ := cnt_puR (v0 := nI j) (v1 := f (19 + (6 * j + 4))) (v2 := f (19 + (6 * j + 5))) (v3 := f (19 + (6 * j + 2))) h
  have P : ∀ (T : Nat → Int32) (v : Int32), FX2_put (12 : Int32) (6 : Int32) 72 (nI m, T) (nI j) (2 : Int32) v = some (nI m, upd T (6 * j + 2) v) := fun T v => put_k (C := 6) (c := 2) hj (by omega) (by omega) (by omega) (by omega) (by omega)
  unfold FX1_doChange
  rw [c_push h hj, o_b, rz_nm, hG.hm, P, o_b, plc_q, puR_c _ _ _ _ _ _ (by omega) (by omega), rs_M _ _ (by omega), ← hG.hm]
  rfl
theorem stp_core {r s q : Int32} (h : In μ.1 m c z p) (hj : j < m) (hq : ∃ b : Nat, q = nI b ∧ b ≤ 2) (hp : ∀ t : Nat, μ.1 (19 + (6 * j + 0)) = nI t → t ≤ 4 → Plc r s t) (hO' : IO (plc μ.1 j r s q) m) : (∃ n : Nat, wr (plc μ.1 j r s q) m c = nI n ∧ 1 ≤ n ∧ n ≤ 7 ∧ FX4_steps μ (nI j) r s q = some (nI n, μ)) ∨ (wr (plc μ.1 j r s q) m c = 0 ∧ FX4_steps μ (nI j) r s q = some (0, s1 μ (puR (plc μ.1 j r s q) p (nI j) (μ.1 (19 + (6 * j + 4))) (μ.1 (19 + (6 * j + 5))) (μ.1 (19 + (6 * j + 2))))) ∧ ∃ p', In (puR (plc μ.1 j r s q) p (nI j) (μ.1 (19 + (6 * j + 4))) (μ.1 (19 + (6 * j + 5))) (μ.1 (19 + (6 * j + 2)))) m c z p') := by
  have hI := in_step h hj hq hp hO'
  obtain ⟨hC, hM, hc, hF, hP, hH, hO⟩ := h
  rcases wr_c (plc μ.1 j r s q) m c with hw | ⟨hw, -, n, e, h1, h2⟩
  · exact Or.inr ⟨hw, e_steps_yes hC hM hc hj hq hp (by rw [hw]; decide), hI⟩
  · exact Or.inl ⟨n, e, h1, h2, by rw [← e]; exact e_steps_no hC hM hc hj hq hp hw⟩
theorem m11 : (-1 : Int32) = -1 := rfl
/-- what a step does on both sides: not possible, or done -/
def StepA (μ : MDS) (A : Option (Int32 × RS)) (B : Option RS) (C : Option (Int32 × MDS)) (j m c z p : Nat) (r s q : Int32) : Prop :=
  (∃ n : Nat, A = some (nI n, rsOf μ.1) ∧ C = some (nI n, μ) ∧ 1 ≤ n ∧ n ≤ 7) ∨ ∃ g p', A = some (0, rsOf μ.1) ∧ B = some (rsOf g) ∧ C = some (0, s1 μ g) ∧ g = puR (plc μ.1 j r s q) p (nI j) (μ.1 (19 + (6 * j + 4))) (μ.1 (19 + (6 * j + 5))) (μ.1 (19 + (6 * j + 2))) ∧ In g m c z p'
theorem mv_sim (h : In μ.1 m c z p) (hj : j < m) {r : Int32} (hr : r = -1 ∨ ∃ a : Nat, r = nI a ∧ a ≤ 5) : ∃ s, StepA μ (FX1_whyNotMove (rsOf μ.1) (nI j) r) (FX1_doMove (rsOf μ.1) (nI j) r) (FX4_moves μ (nI j) r) j m c z p r s (μ.1 (19 + (6 * j + 2))) := by
  have hI := h
  obtain ⟨hC, hM, hc, hF, hP, hH, hO⟩ := h
  have lm := hC.lm
  obtain ⟨t, l, b, d, e0, t1, t4, -, -, -, e2, hb, -, -, e5⟩ := hM j hj
  unfold FX1_whyNotMove FX4_moves
  rw [c_isFrozen hC hj, e_isFrozen hC hF hH hj]
  by_cases hz : (firstFrom (qF μ.1 (μ.1 (19 + (6 * j + 3)))) 0 z).isSome = true
  · rw [if_pos hz, o_b, o_b, if_neg n10, if_neg n10]
    exact ⟨0, Or.inl ⟨1, rfl, rfl, by omega, by omega⟩⟩
  · rw [if_neg hz, o_b, o_b, if_pos z00, if_pos z00, stands hC hj, o_b, oM4 (by omega), o_b]
    by_cases h4 : μ.1 (19 + (6 * j + 4)) = r
    · rw [if_pos h4, if_pos h4, if_neg n10]
      exact ⟨0, Or.inl ⟨2, rfl, rfl, by omega, by omega⟩⟩
    · rw [if_neg h4, if_neg h4, if_pos z00]
      rcases hr with rfl | ⟨a, rfl, ha⟩
      · have hs : FX1_slotBehindMove (rsOf μ.1) (nI j) (-1) = some (-1) := by
          unfold FX1_slotBehindMove
          rw [if_pos m11]
        have hO' : IO (plc μ.1 j (-1) (-1) (μ.1 (19 + (6 * j + 2)))) m := io_plc hj hM hO lm (Or.inl rfl)
        have hp : ∀ t : Nat, μ.1 (19 + (6 * j + 0)) = nI t → t ≤ 4 → Plc (-1) (-1) t := fun _ _ _ => Or.inl ⟨rfl, rfl⟩
        have hd := c_doMove hC hj hs
        unfold FX4_moves_J42
        rw [hs, o_b, if_pos m11, if_pos m11, if_pos m11, rz_nm, hC.hm, aM2 hC hj, o_b, c_fww hC hc hj, o_b, oM2 (by omega), o_b]
        refine ⟨-1, ?_⟩
        rcases stp_core hI hj ⟨b, e2, hb⟩ hp hO' with ⟨n, w1, w2, w3, w4⟩ | ⟨w1, w2, p', w3⟩
        · rw [w1, w4, o_b]
          exact Or.inl ⟨n, rfl, rfl, w2, w3⟩
        · rw [w1, w2, o_b]
          exact Or.inr ⟨_, p', rfl, hd, rfl, rfl, w3⟩
      · have na : ¬ nI a = -1 := nI_nm1 (by omega)
        have hs : FX1_slotBehindMove (rsOf μ.1) (nI j) (nI a) = some (ffI (lowF μ.1 m a t)) := by
          unfold FX1_slotBehindMove
          rw [if_neg na, rz_nm, hC.hm, aM0 hC hj, o_b, e0, c_lowest hC (by omega) t1, o_b]
        have hd := c_doMove hC hj hs
        unfold FX4_moves_J42
        rw [hs, o_b, if_neg na, if_neg na, oM0 (by omega), o_b, e0, e_lowest hC hM hO ha (by omega) t1, o_b, if_neg na]
        cases hl : lowF μ.1 m a t with
        | none =>
          rw [if_pos (show ffI none = -1 from rfl), if_pos (show ffI none = -1 from rfl)]
          exact ⟨0, Or.inl ⟨3, rfl, rfl, by omega, by omega⟩⟩
        | some k =>
          rw [hl] at hd
          obtain ⟨hk, hk2⟩ := ff_lt hl
          rw [decide_eq_true_iff] at hk2
          have nk : ¬ ffI (some k) = -1 := nI_nm1 (n := k) (by omega)
          have hn : firstFrom (qW μ.1 (nI a) k t (nI j)) 0 m = none := (ff_none m 0).mpr fun i h1 h2 => by
            by_cases hq : qW μ.1 (nI a) k t (nI j) i = true
            · obtain ⟨-, q1, q2⟩ := (qW_iff hM (by omega) ha (by omega) (nI j)).mp hq
              have := (qW_iff (a := k) (s := t) hM (show i < m by omega) ha (by omega) (-1)).mpr ⟨nI_nm1 (by omega), q1, q2⟩
              rw [(ff_none m 0).mp hk2.2 i h1 h2] at this
              cases this
            · simpa using hq
          have hO' : IO (plc μ.1 j (nI a) (ffI (some k)) (μ.1 (19 + (6 * j + 2)))) m := io_plc hj hM hO lm (Or.inr ⟨a, k, t, rfl, ha, rfl, e0, t1, t4, hk2.1, hn⟩)
          have hp : ∀ t' : Nat, μ.1 (19 + (6 * j + 0)) = nI t' → t' ≤ 4 → Plc (nI a) (ffI (some k)) t' := fun t' g1 g2 => by
            have := nI_inj (e0.symm.trans g1) (by omega) (by omega)
            subst this
            exact Or.inr ⟨a, k, rfl, ha, rfl, hk2.1⟩
          rw [if_neg nk, if_neg nk, rz_nm, hC.hm, aM2 hC hj, o_b, c_fww hC hc hj, o_b, oM2 (by omega), o_b]
          refine ⟨ffI (some k), ?_⟩
          rcases stp_core hI hj ⟨b, e2, hb⟩ hp hO' with ⟨n, w1, w2, w3, w4⟩ | ⟨w1, w2, p', w3⟩
          · rw [w1, w4, o_b]
            exact Or.inl ⟨n, rfl, rfl, w2, w3⟩
          · rw [w1, w2, o_b]
            exact Or.inr ⟨_, p', rfl, hd, rfl, rfl, w3⟩
theorem ch_sim (h : In μ.1 m c z p) (hj : j < m) {x : Int32} (hx : ∃ b : Nat, x = nI b ∧ b ≤ 2) : StepA μ (FX1_whyNotChange (rsOf μ.1) (nI j) x) (FX1_doChange (rsOf μ.1) (nI j) x) (FX4_changes μ (nI j) x) j m c z p (μ.1 (19 + (6 * j + 4))) (μ.1 (19 + (6 * j + 5))) x := by
  have hI := h
  obtain ⟨hC, hM, hc, hF, hP, hH, hO⟩ := h
  have lm := hC.lm
  obtain ⟨t, l, b, d, e0, t1, t4, -, -, -, e2, hb, -, -, e5⟩ := hM j hj
  unfold FX1_whyNotChange FX4_changes
  rw [c_isFrozen hC hj, e_isFrozen hC hF hH hj]
  by_cases hz : (firstFrom (qF μ.1 (μ.1 (19 + (6 * j + 3)))) 0 z).isSome = true
  · rw [if_pos hz, o_b, o_b, if_neg n10, if_neg n10]
    exact Or.inl ⟨1, rfl, rfl, by omega, by omega⟩
  · rw [if_neg hz, o_b, o_b, if_pos z00, if_pos z00, rz_nm, hC.hm, aM2 hC hj, o_b, oM2 (by omega), o_b]
    by_cases h4 : μ.1 (19 + (6 * j + 2)) = x
    · rw [if_pos h4, if_pos h4]
      exact Or.inl ⟨2, rfl, rfl, by omega, by omega⟩
    · have hd := c_doChange hC hj x
      have hO' : IO (plc μ.1 j (μ.1 (19 + (6 * j + 4))) (μ.1 (19 + (6 * j + 5))) x) m := io_ext (j := j) (fun k h1 h2 h3 => by rw [plc_q, upd_ne _ _ h3]) lm hO
      have hp : ∀ t' : Nat, μ.1 (19 + (6 * j + 0)) = nI t' → t' ≤ 4 → Plc (μ.1 (19 + (6 * j + 4))) (μ.1 (19 + (6 * j + 5))) t' := fun t' g1 g2 => by
        have := nI_inj (e0.symm.trans g1) (by omega) (by omega)
        subst this
        exact e5
      rw [if_neg h4, if_neg h4, aM4 hC hj, o_b, aM5 hC hj, o_b, c_fww hC hc hj, o_b, oM4 (by omega), o_b, oM5 (by omega), o_b]
      rcases stp_core hI hj hx hp hO' with ⟨n, w1, w2, w3, w4⟩ | ⟨w1, w2, p', w3⟩
      · rw [w1, w4, o_b]
        exact Or.inl ⟨n, rfl, rfl, w2, w3⟩
      · rw [w1, w2, o_b]
        exact Or.inr ⟨_, p', rfl, hd, rfl, rfl, w3⟩
end MV

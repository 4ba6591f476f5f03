/-! digest: the loops -/
section DL
variable {μ : MDS} {m c z p : Nat} {θ : Int32}
theorem c_l16 (hI : In μ.1 m c z p) (K : Int32 → Int64 → Option Int64) (H : Int64) : FX3_digest_L16 θ (rsOf μ.1) K FU 0 H = K (nI 14) (mixTo (fun k => val (FX3_value θ (rsOf μ.1) (nI k))) 14 H) := by
  refine loop_st (Lp := FX3_digest_L16 θ (rsOf μ.1) K) (K := K) 14 (fun j => mixTo (fun k => val (FX3_value θ (rsOf μ.1) (nI k))) j H) (by omega) (fun n => ?_) (fun n j hj => ?_)
  · rw [FX3_digest_L16, if_pos (by decide)]
  · obtain ⟨v, e1, -⟩ := t_value (θ := θ) hI.1 hI.2.1 hI.2.2.1 (show j ≤ 13 by omega)
    rw [FX3_digest_L16, if_neg (show ¬ (13 : Int32) < nI j from nI_nlt (a := 13) (by omega) (by omega)), e1, bN_r, c_mix, o_b, nI_succ]
    show _ = FX3_digest_L16 θ (rsOf μ.1) K n (nI j + 1) (31 * mixTo (fun k => val (FX3_value θ (rsOf μ.1) (nI k))) j H + (val (FX3_value θ (rsOf μ.1) (nI j))).toInt64)
    rw [e1]
    rfl
theorem e_l22 (hI : In μ.1 m c z p) (K : Int32 → MDS → Option (Int64 × MDS)) (H : Int64) : FX4_digest_L22 K FU 0 (hz μ H) = K (nI 14) (hz μ (mixTo (fun k => val (FX3_value θ (rsOf μ.1) (nI k))) 14 H)) := by
  refine loop_st (Lp := FX4_digest_L22 K) (K := K) 14 (fun j => hz μ (mixTo (fun k => val (FX3_value θ (rsOf μ.1) (nI k))) j H)) (by omega) (fun n => ?_) (fun n j hj => ?_)
  · rw [FX4_digest_L22, if_pos (by decide)]
  · obtain ⟨v, e1, e2⟩ := t_value (μ := hz μ (mixTo (fun k => val (FX3_value θ (rsOf μ.1) (nI k))) j H)) (θ := θ) hI.1 hI.2.1 hI.2.2.1 (show j ≤ 13 by omega)
    have e1' : FX3_value θ (rsOf μ.1) (nI j) = some (.inr v) := e1
    rw [FX4_digest_L22, if_neg (show ¬ (14 : Int32) ≤ nI j from nI_ge (b := 14) (by omega) (by omega)), e2, o_b, hz_mix, o_b, nI_succ]
    show _ = FX4_digest_L22 K n (nI j + 1) (hz μ (31 * mixTo (fun k => val (FX3_value θ (rsOf μ.1) (nI k))) j H + (val (FX3_value θ (rsOf μ.1) (nI j))).toInt64))
    rw [e1']
    rfl
/-- what is mixed of racks, from the first on -/
def rkTo (θ : Int32) (f : Nat → Int32) : Nat → Int64 → Int64
  | 0, H => H
  | n + 1, H => mixTo (fun y => val (FX3_slot θ (rsOf f) (nI n) (nI y))) 10 (mixTo (fun k => val (FX3_rack θ (rsOf f) (nI n) (nI k))) 8 (rkTo θ f n H))
theorem c_l6 (hI : In μ.1 m c z p) {r : Nat} (hr : r ≤ 5) (K : Int32 → Int64 → Option Int64) (H : Int64) : FX3_mixRack_L6 θ (rsOf μ.1) (nI r) K FU 0 H = K (nI 8) (mixTo (fun k => val (FX3_rack θ (rsOf μ.1) (nI r) (nI k))) 8 H) := by
  refine loop_st (Lp := FX3_mixRack_L6 θ (rsOf μ.1) (nI r) K) (K := K) 8 (fun j => mixTo (fun k => val (FX3_rack θ (rsOf μ.1) (nI r) (nI k))) j H) (by omega) (fun n => ?_) (fun n j hj => ?_)
  · rw [FX3_mixRack_L6, if_pos (by decide)]
  · obtain ⟨v, e1, -⟩ := t_rack (θ := θ) hI.1 hI.2.1 hI.2.2.2.2.2.2 hr (show j ≤ 7 by omega) (rack_ok hr)
    rw [FX3_mixRack_L6, if_neg (show ¬ (7 : Int32) < nI j from nI_nlt (a := 7) (by omega) (by omega)), e1, bN_r, c_mix, o_b, nI_succ]
    show _ = FX3_mixRack_L6 θ (rsOf μ.1) (nI r) K n (nI j + 1) (31 * mixTo (fun k => val (FX3_rack θ (rsOf μ.1) (nI r) (nI k))) j H + (val (FX3_rack θ (rsOf μ.1) (nI r) (nI j))).toInt64)
    rw [e1]
    rfl
theorem c_l36 (hI : In μ.1 m c z p) {r : Nat} (hr : r ≤ 5) (K : Int32 → Int64 → Option Int64) (H : Int64) : FX3_mixRack_L36 θ (rsOf μ.1) (nI r) K FU 0 H = K (nI 10) (mixTo (fun y => val (FX3_slot θ (rsOf μ.1) (nI r) (nI y))) 10 H) := by
  refine loop_st (Lp := FX3_mixRack_L36 θ (rsOf μ.1) (nI r) K) (K := K) 10 (fun j => mixTo (fun y => val (FX3_slot θ (rsOf μ.1) (nI r) (nI y))) j H) (by omega) (fun n => ?_) (fun n j hj => ?_)
  · rw [FX3_mixRack_L36, if_pos (by decide)]
  · obtain ⟨v, e1, -⟩ := t_slot (θ := θ) hI.1 hI.2.1 hr hj
    rw [FX3_mixRack_L36, if_neg (show ¬ (10 : Int32) ≤ nI j from nI_ge (b := 10) (by omega) (by omega)), e1, bN_r, c_mix, o_b, nI_succ]
    show _ = FX3_mixRack_L36 θ (rsOf μ.1) (nI r) K n (nI j + 1) (31 * mixTo (fun y => val (FX3_slot θ (rsOf μ.1) (nI r) (nI y))) j H + (val (FX3_slot θ (rsOf μ.1) (nI r) (nI j))).toInt64)
    rw [e1]
    rfl
theorem c_mixRack (hI : In μ.1 m c z p) {r : Nat} (hr : r ≤ 5) (H : Int64) : FX3_mixRack θ (rsOf μ.1) H (nI r) = some (mixTo (fun y => val (FX3_slot θ (rsOf μ.1) (nI r) (nI y))) 10 (mixTo (fun k => val (FX3_rack θ (rsOf μ.1) (nI r) (nI k))) 8 H)) := by
  unfold FX3_mixRack
  rw [c_l6 hI hr, c_l36 hI hr]
theorem c_l40 (hI : In μ.1 m c z p) (K : Int32 → Int64 → Option Int64) (H : Int64) : FX3_digest_L40 θ (rsOf μ.1) K FU 0 H = K (nI 6) (rkTo θ μ.1 6 H) := by
  refine loop_st (Lp := FX3_digest_L40 θ (rsOf μ.1) K) (K := K) 6 (fun j => rkTo θ μ.1 j H) (by omega) (fun n => ?_) (fun n j hj => ?_)
  · rw [FX3_digest_L40, if_pos (by decide)]
  · rw [FX3_digest_L40, if_neg (show ¬ (6 : Int32) ≤ nI j from nI_ge (b := 6) (by omega) (by omega)), c_mixRack hI (by omega), o_b, nI_succ]
    rfl
theorem e_l10 (hI : In μ.1 m c z p) {r : Nat} (hr : r ≤ 5) (K : Int32 → MDS → Option MDS) (H : Int64) : FX4_mixRoom_L10 (nI r) K FU 0 (hz μ H) = K (nI 8) (hz μ (mixTo (fun k => val (FX3_rack θ (rsOf μ.1) (nI r) (nI k))) 8 H)) := by
  refine loop_st (Lp := FX4_mixRoom_L10 (nI r) K) (K := K) 8 (fun j => hz μ (mixTo (fun k => val (FX3_rack θ (rsOf μ.1) (nI r) (nI k))) j H)) (by omega) (fun n => ?_) (fun n j hj => ?_)
  · rw [FX4_mixRoom_L10, if_pos (by decide)]
  · obtain ⟨v, e1, e2⟩ := t_rack (μ := hz μ (mixTo (fun k => val (FX3_rack θ (rsOf μ.1) (nI r) (nI k))) j H)) (θ := θ) hI.1 hI.2.1 hI.2.2.2.2.2.2 hr (show j ≤ 7 by omega) (rack_ok hr)
    have e1' : FX3_rack θ (rsOf μ.1) (nI r) (nI j) = some (.inr v) := e1
    rw [FX4_mixRoom_L10, if_neg (show ¬ (8 : Int32) ≤ nI j from nI_ge (b := 8) (by omega) (by omega)), e2, o_b, hz_mix, o_b, nI_succ]
    show _ = FX4_mixRoom_L10 (nI r) K n (nI j + 1) (hz μ (31 * mixTo (fun k => val (FX3_rack θ (rsOf μ.1) (nI r) (nI k))) j H + (val (FX3_rack θ (rsOf μ.1) (nI r) (nI j))).toInt64))
    rw [e1']
    rfl
theorem e_l34 (hI : In μ.1 m c z p) {r : Nat} (hr : r ≤ 5) (K : Int32 → MDS → Option MDS) (H : Int64) : FX4_mixRoom_L34 (nI r) K FU 0 (hz μ H) = K (nI 10) (hz μ (mixTo (fun y => val (FX3_slot θ (rsOf μ.1) (nI r) (nI y))) 10 H)) := by
  refine loop_st (Lp := FX4_mixRoom_L34 (nI r) K) (K := K) 10 (fun j => hz μ (mixTo (fun y => val (FX3_slot θ (rsOf μ.1) (nI r) (nI y))) j H)) (by omega) (fun n => ?_) (fun n j hj => ?_)
  · rw [FX4_mixRoom_L34, if_pos (by decide)]
  · obtain ⟨v, e1, e2⟩ := t_slot (μ := hz μ (mixTo (fun y => val (FX3_slot θ (rsOf μ.1) (nI r) (nI y))) j H)) (θ := θ) hI.1 hI.2.1 hr hj
    have e1' : FX3_slot θ (rsOf μ.1) (nI r) (nI j) = some (.inr v) := e1
    rw [FX4_mixRoom_L34, if_neg (show ¬ (10 : Int32) ≤ nI j from nI_ge (b := 10) (by omega) (by omega)), e2, o_b, hz_mix, o_b, nI_succ]
    show _ = FX4_mixRoom_L34 (nI r) K n (nI j + 1) (hz μ (31 * mixTo (fun y => val (FX3_slot θ (rsOf μ.1) (nI r) (nI y))) j H + (val (FX3_slot θ (rsOf μ.1) (nI r) (nI j))).toInt64))
    rw [e1']
    rfl
theorem e_l2 (hI : In μ.1 m c z p) (K : Int32 → MDS → Option MDS) (H : Int64) : FX4_mixRoom_L2 K FU 0 (hz μ H) = K (nI 6) (hz μ (rkTo θ μ.1 6 H)) := by
  refine loop_st (Lp := FX4_mixRoom_L2 K) (K := K) 6 (fun j => hz μ (rkTo θ μ.1 j H)) (by omega) (fun n => ?_) (fun n j hj => ?_)
  · rw [FX4_mixRoom_L2, if_pos (by decide)]
  · rw [FX4_mixRoom_L2, if_neg (show ¬ (6 : Int32) ≤ nI j from nI_ge (b := 6) (by omega) (by omega)), e_l10 (θ := θ) hI (by omega)]
    refine (e_l34 (θ := θ) hI (by omega) _ _).trans ?_
    rw [nI_succ]
    rfl
theorem c_l61 (hI : In μ.1 m c z p) (K : Int32 → Int64 → Option Int64) (H : Int64) : FX3_digest_L61 θ (rsOf μ.1) K FU 0 H = K (nI 5) (mixTo (fun k => val (FX3_tray θ (rsOf μ.1) (nI k))) 5 H) := by
  refine loop_st (Lp := FX3_digest_L61 θ (rsOf μ.1) K) (K := K) 5 (fun j => mixTo (fun k => val (FX3_tray θ (rsOf μ.1) (nI k))) j H) (by omega) (fun n => ?_) (fun n j hj => ?_)
  · rw [FX3_digest_L61, if_pos (by decide)]
  · obtain ⟨v, e1, -⟩ := t_tray (θ := θ) hI.1 hI.2.2.1 (show j ≤ 4 by omega)
    rw [FX3_digest_L61, if_neg (show ¬ (5 : Int32) ≤ nI j from nI_ge (b := 5) (by omega) (by omega)), e1, bN_r, c_mix, o_b, nI_succ]
    show _ = FX3_digest_L61 θ (rsOf μ.1) K n (nI j + 1) (31 * mixTo (fun k => val (FX3_tray θ (rsOf μ.1) (nI k))) j H + (val (FX3_tray θ (rsOf μ.1) (nI j))).toInt64)
    rw [e1]
    rfl
theorem e_l64 (hI : In μ.1 m c z p) (K : Int32 → MDS → Option MDS) (H : Int64) : FX4_mixRoom_L64 K FU 0 (hz μ H) = K (nI 5) (hz μ (mixTo (fun k => val (FX3_tray θ (rsOf μ.1) (nI k))) 5 H)) := by
  refine loop_st (Lp := FX4_mixRoom_L64 K) (K := K) 5 (fun j => hz μ (mixTo (fun k => val (FX3_tray θ (rsOf μ.1) (nI k))) j H)) (by omega) (fun n => ?_) (fun n j hj => ?_)
  · rw [FX4_mixRoom_L64, if_pos (by decide)]
  · obtain ⟨v, e1, e2⟩ := t_tray (μ := hz μ (mixTo (fun k => val (FX3_tray θ (rsOf μ.1) (nI k))) j H)) (θ := θ) hI.1 hI.2.2.1 (show j ≤ 4 by omega)
    have e1' : FX3_tray θ (rsOf μ.1) (nI j) = some (.inr v) := e1
    rw [FX4_mixRoom_L64, if_neg (show ¬ (5 : Int32) ≤ nI j from nI_ge (b := 5) (by omega) (by omega)), e2, o_b, hz_mix, o_b, nI_succ]
    show _ = FX4_mixRoom_L64 K n (nI j + 1) (hz μ (31 * mixTo (fun k => val (FX3_tray θ (rsOf μ.1) (nI k))) j H + (val (FX3_tray θ (rsOf μ.1) (nI j))).toInt64))
    rw [e1']
    rfl
theorem e_mixRoom (hI : In μ.1 m c z p) (H : Int64) : FX4_mixRoom (hz μ H) = some (hz μ (mixTo (fun k => val (FX3_tray θ (rsOf μ.1) (nI k))) 5 (rkTo θ μ.1 6 H))) := by
  unfold FX4_mixRoom
  rw [e_l2 (θ := θ) hI, e_l64 (θ := θ) hI]
/-- two loops, one in the other, and one over all -/
def nest (v : Nat → Nat → Int32) (w : Nat) (k : Nat) : Int32 := v (k / w) (k % w)
theorem nest_at (v : Nat → Nat → Int32) {w j i : Nat} (h : i < w) : nest v w (w * j + i) = v j i := by
  unfold nest
  rw [Nat.mul_add_div (by omega), Nat.div_eq_of_lt h, Nat.mul_add_mod, Nat.mod_eq_of_lt h]
  rfl
theorem nest_s (v : Nat → Nat → Int32) {w j : Nat} (H : Int64) : mixTo (v j) w (mixTo (nest v w) (w * j) H) = mixTo (nest v w) (w * (j + 1)) H := by
  rw [show w * (j + 1) = w * j + w from Nat.mul_succ w j, ← mixTo_add]
  exact mixTo_ext _ w (fun i hi => (nest_at v hi).symm)
theorem c_l101 (hI : In μ.1 m c z p) {j : Nat} (hj : j < m) (K : Int32 → Int64 → Option Int64) (H : Int64) : FX3_digest_L101 θ (rsOf μ.1) (nI j) K FU 0 H = K (nI 8) (mixTo (fun k => val (FX3_machine θ (rsOf μ.1) (nI j) (nI k))) 8 H) := by
  refine loop_st (Lp := FX3_digest_L101 θ (rsOf μ.1) (nI j) K) (K := K) 8 (fun i => mixTo (fun k => val (FX3_machine θ (rsOf μ.1) (nI j) (nI k))) i H) (by omega) (fun n => ?_) (fun n i hi => ?_)
  · rw [FX3_digest_L101, if_pos (by decide)]
  · obtain ⟨v, e1, -⟩ := t_machine (θ := θ) hI.1 hI.2.2.2.1 hI.2.2.2.2.2.1 hj (show i ≤ 7 by omega)
    rw [FX3_digest_L101, if_neg (show ¬ (7 : Int32) < nI i from nI_nlt (a := 7) (by omega) (by omega)), e1, bN_r, c_mix, o_b, nI_succ]
    show _ = FX3_digest_L101 θ (rsOf μ.1) (nI j) K n (nI i + 1) (31 * mixTo (fun k => val (FX3_machine θ (rsOf μ.1) (nI j) (nI k))) i H + (val (FX3_machine θ (rsOf μ.1) (nI j) (nI i))).toInt64)
    rw [e1]
    rfl
theorem c_l84 (hI : In μ.1 m c z p) (K : Int32 → Int64 → Option Int64) (H : Int64) : FX3_digest_L84 θ (rsOf μ.1) K FU 0 H = K (nI m) (mixTo (nest (fun j k => val (FX3_machine θ (rsOf μ.1) (nI j) (nI k))) 8) (8 * m) H) := by
  have lm := hI.1.lm
  refine loop_st (Lp := FX3_digest_L84 θ (rsOf μ.1) K) (K := K) m (fun j => mixTo (nest (fun j k => val (FX3_machine θ (rsOf μ.1) (nI j) (nI k))) 8) (8 * j) H) (by omega) (fun n => ?_) (fun n j hj => ?_)
  · rw [FX3_digest_L84, rz_nm, hI.1.hm, if_pos (nI_le (Nat.le_refl _) (by omega))]
  · rw [FX3_digest_L84, rz_nm, hI.1.hm, if_neg (nI_ge (by omega) (by omega)), c_l101 hI hj, nI_succ, ← nest_s]
theorem e_l49 (hI : In μ.1 m c z p) (K : Int32 → MDS → Option (Int64 × MDS)) (H : Int64) : FX4_digest_L49 K FU 0 (hz μ H) = K (nI (8 * m)) (hz μ (mixTo (nest (fun j k => val (FX3_machine θ (rsOf μ.1) (nI j) (nI k))) 8) (8 * m) H)) := by
  have lm := hI.1.lm
  have e8 : (8 : Int32) * nI m = nI (8 * m) := by rw [show (8 : Int32) = nI 8 from rfl, pk_mul]
  have hm' : ∀ H, (hz μ H).1 13 = nI m := fun _ => hI.1.hm
  refine loop_st (Lp := FX4_digest_L49 K) (K := K) (8 * m) (fun j => hz μ (mixTo (nest (fun j k => val (FX3_machine θ (rsOf μ.1) (nI j) (nI k))) 8) j H)) (by omega) (fun n => ?_) (fun n j hj => ?_)
  · rw [FX4_digest_L49, g13, cl13, hm', nmv_eq, e8, if_pos (nI_le (Nat.le_refl _) (by omega))]
  · obtain ⟨v, e1, e2⟩ := t_machine (μ := hz μ (mixTo (nest (fun j k => val (FX3_machine θ (rsOf μ.1) (nI j) (nI k))) 8) j H)) (θ := θ) (j := j / 8) (k := j % 8) hI.1 hI.2.2.2.1 hI.2.2.2.2.2.1 (by omega) (by omega)
    have e1' : FX3_machine θ (rsOf μ.1) (nI (j / 8)) (nI (j % 8)) = some (.inr v) := e1
    have ed : nI j / (8 : Int32) = nI (j / 8) := pk_div (d := 8) (by omega) (by omega) (by omega)
    have er : nI j - nI (j / 8) * (8 : Int32) = nI (j % 8) := by
      rw [← ed]
      exact pk_rem (d := 8) (by omega) (by omega) (by omega)
    rw [FX4_digest_L49, g13, cl13, hm', nmv_eq, e8, if_neg (nI_ge (by omega) (by omega)), ed, er, nmv_eq, e2, o_b, hz_mix, o_b, nI_succ]
    show _ = FX4_digest_L49 K n (nI j + 1) (hz μ (31 * mixTo (nest (fun j k => val (FX3_machine θ (rsOf μ.1) (nI j) (nI k))) 8) j H + (val (FX3_machine θ (rsOf μ.1) (nI (j / 8)) (nI (j % 8)))).toInt64))
    rw [e1']
    rfl
theorem c_l151 (hI : In μ.1 m c z p) {j : Nat} (hj : j < c) (K : Int32 → Int64 → Option Int64) (H : Int64) : FX3_digest_L151 θ (rsOf μ.1) (nI j) K FU 0 H = K (nI 4) (mixTo (fun k => val (FX3_cable θ (rsOf μ.1) (nI j) (nI k))) 4 H) := by
  refine loop_st (Lp := FX3_digest_L151 θ (rsOf μ.1) (nI j) K) (K := K) 4 (fun i => mixTo (fun k => val (FX3_cable θ (rsOf μ.1) (nI j) (nI k))) i H) (by omega) (fun n => ?_) (fun n i hi => ?_)
  · rw [FX3_digest_L151, if_pos (by decide)]
  · obtain ⟨v, e1, -⟩ := t_cable (θ := θ) hI.1 hI.2.1 hI.2.2.1 hj (show i ≤ 3 by omega)
    rw [FX3_digest_L151, if_neg (show ¬ (3 : Int32) < nI i from nI_nlt (a := 3) (by omega) (by omega)), e1, bN_r, c_mix, o_b, nI_succ]
    show _ = FX3_digest_L151 θ (rsOf μ.1) (nI j) K n (nI i + 1) (31 * mixTo (fun k => val (FX3_cable θ (rsOf μ.1) (nI j) (nI k))) i H + (val (FX3_cable θ (rsOf μ.1) (nI j) (nI i))).toInt64)
    rw [e1]
    rfl
theorem c_l134 (hI : In μ.1 m c z p) (K : Int32 → Int64 → Option Int64) (H : Int64) : FX3_digest_L134 θ (rsOf μ.1) K FU 0 H = K (nI c) (mixTo (nest (fun j k => val (FX3_cable θ (rsOf μ.1) (nI j) (nI k))) 4) (4 * c) H) := by
  have lm := hI.1.lc
  refine loop_st (Lp := FX3_digest_L134 θ (rsOf μ.1) K) (K := K) c (fun j => mixTo (nest (fun j k => val (FX3_cable θ (rsOf μ.1) (nI j) (nI k))) 4) (4 * j) H) (by omega) (fun n => ?_) (fun n j hj => ?_)
  · rw [FX3_digest_L134, rz_nc, hI.1.hc, if_pos (nI_le (Nat.le_refl _) (by omega))]
  · rw [FX3_digest_L134, rz_nc, hI.1.hc, if_neg (nI_ge (by omega) (by omega)), c_l151 hI hj, nI_succ, ← nest_s]
theorem e_l87 (hI : In μ.1 m c z p) (K : Int32 → MDS → Option (Int64 × MDS)) (H : Int64) : FX4_digest_L87 K FU 0 (hz μ H) = K (nI (4 * c)) (hz μ (mixTo (nest (fun j k => val (FX3_cable θ (rsOf μ.1) (nI j) (nI k))) 4) (4 * c) H)) := by
  have lm := hI.1.lc
  have e8 : (4 : Int32) * nI c = nI (4 * c) := by rw [show (4 : Int32) = nI 4 from rfl, pk_mul]
  have hm' : ∀ H, (hz μ H).1 14 = nI c := fun _ => hI.1.hc
  refine loop_st (Lp := FX4_digest_L87 K) (K := K) (4 * c) (fun j => hz μ (mixTo (nest (fun j k => val (FX3_cable θ (rsOf μ.1) (nI j) (nI k))) 4) j H)) (by omega) (fun n => ?_) (fun n j hj => ?_)
  · rw [FX4_digest_L87, g14, cl14, hm', nmv_eq, e8, if_pos (nI_le (Nat.le_refl _) (by omega))]
  · obtain ⟨v, e1, e2⟩ := t_cable (μ := hz μ (mixTo (nest (fun j k => val (FX3_cable θ (rsOf μ.1) (nI j) (nI k))) 4) j H)) (θ := θ) (j := j / 4) (k := j % 4) hI.1 hI.2.1 hI.2.2.1 (by omega) (by omega)
    have e1' : FX3_cable θ (rsOf μ.1) (nI (j / 4)) (nI (j % 4)) = some (.inr v) := e1
    have ed : nI j / (4 : Int32) = nI (j / 4) := pk_div (d := 4) (by omega) (by omega) (by omega)
    have er : nI j - nI (j / 4) * (4 : Int32) = nI (j % 4) := by
      rw [← ed]
      exact pk_rem (d := 4) (by omega) (by omega) (by omega)
    rw [FX4_digest_L87, g14, cl14, hm', nmv_eq, e8, if_neg (nI_ge (by omega) (by omega)), ed, er, nmv_eq, e2, o_b, hz_mix, o_b, nI_succ]
    show _ = FX4_digest_L87 K n (nI j + 1) (hz μ (31 * mixTo (nest (fun j k => val (FX3_cable θ (rsOf μ.1) (nI j) (nI k))) 4) j H + (val (FX3_cable θ (rsOf μ.1) (nI (j / 4)) (nI (j % 4)))).toInt64))
    rw [e1']
    rfl
theorem c_l200 (hI : In μ.1 m c z p) {j : Nat} (hj : j < p) (K : Int32 → Int64 → Option Int64) (H : Int64) : FX3_digest_L200 θ (rsOf μ.1) (nI j) K FU 0 H = K (nI 4) (mixTo (fun k => val (FX3_pile θ (rsOf μ.1) (nI j) (nI k))) 4 H) := by
  refine loop_st (Lp := FX3_digest_L200 θ (rsOf μ.1) (nI j) K) (K := K) 4 (fun i => mixTo (fun k => val (FX3_pile θ (rsOf μ.1) (nI j) (nI k))) i H) (by omega) (fun n => ?_) (fun n i hi => ?_)
  · rw [FX3_digest_L200, if_pos (by decide)]
  · obtain ⟨v, e1, -⟩ := t_pile (θ := θ) hI.1 hj (show i ≤ 3 by omega)
    rw [FX3_digest_L200, if_neg (show ¬ (4 : Int32) ≤ nI i from nI_ge (b := 4) (by omega) (by omega)), e1, bN_r, c_mix, o_b, nI_succ]
    show _ = FX3_digest_L200 θ (rsOf μ.1) (nI j) K n (nI i + 1) (31 * mixTo (fun k => val (FX3_pile θ (rsOf μ.1) (nI j) (nI k))) i H + (val (FX3_pile θ (rsOf μ.1) (nI j) (nI i))).toInt64)
    rw [e1]
    rfl
theorem c_l183 (hI : In μ.1 m c z p) (K : Int32 → Int64 → Option Int64) (H : Int64) : FX3_digest_L183 θ (rsOf μ.1) K FU 0 H = K (nI p) (mixTo (nest (fun j k => val (FX3_pile θ (rsOf μ.1) (nI j) (nI k))) 4) (4 * p) H) := by
  have lm := hI.1.lp
  refine loop_st (Lp := FX3_digest_L183 θ (rsOf μ.1) K) (K := K) p (fun j => mixTo (nest (fun j k => val (FX3_pile θ (rsOf μ.1) (nI j) (nI k))) 4) (4 * j) H) (by omega) (fun n => ?_) (fun n j hj => ?_)
  · rw [FX3_digest_L183, rz_ns, hI.1.hp, if_pos (nI_le (Nat.le_refl _) (by omega))]
  · rw [FX3_digest_L183, rz_ns, hI.1.hp, if_neg (nI_ge (by omega) (by omega)), c_l200 hI hj, nI_succ, ← nest_s]
theorem e_l122 (hI : In μ.1 m c z p) (K : Int32 → MDS → Option (Int64 × MDS)) (H : Int64) : FX4_digest_L122 K FU 0 (hz μ H) = K (nI (4 * p)) (hz μ (mixTo (nest (fun j k => val (FX3_pile θ (rsOf μ.1) (nI j) (nI k))) 4) (4 * p) H)) := by
  have lm := hI.1.lp
  have e8 : (4 : Int32) * nI p = nI (4 * p) := by rw [show (4 : Int32) = nI 4 from rfl, pk_mul]
  have hm' : ∀ H, (hz μ H).1 16 = nI p := fun _ => hI.1.hp
  refine loop_st (Lp := FX4_digest_L122 K) (K := K) (4 * p) (fun j => hz μ (mixTo (nest (fun j k => val (FX3_pile θ (rsOf μ.1) (nI j) (nI k))) 4) j H)) (by omega) (fun n => ?_) (fun n j hj => ?_)
  · rw [FX4_digest_L122, g16, cl16, hm', nmv_eq, e8, if_pos (nI_le (Nat.le_refl _) (by omega))]
  · obtain ⟨v, e1, e2⟩ := t_pile (μ := hz μ (mixTo (nest (fun j k => val (FX3_pile θ (rsOf μ.1) (nI j) (nI k))) 4) j H)) (θ := θ) (j := j / 4) (k := j % 4) hI.1 (by omega) (by omega)
    have e1' : FX3_pile θ (rsOf μ.1) (nI (j / 4)) (nI (j % 4)) = some (.inr v) := e1
    have ed : nI j / (4 : Int32) = nI (j / 4) := pk_div (d := 4) (by omega) (by omega) (by omega)
    have er : nI j - nI (j / 4) * (4 : Int32) = nI (j % 4) := by
      rw [← ed]
      exact pk_rem (d := 4) (by omega) (by omega) (by omega)
    rw [FX4_digest_L122, g16, cl16, hm', nmv_eq, e8, if_neg (nI_ge (by omega) (by omega)), ed, er, nmv_eq, e2, o_b, hz_mix, o_b, nI_succ]
    show _ = FX4_digest_L122 K n (nI j + 1) (hz μ (31 * mixTo (nest (fun j k => val (FX3_pile θ (rsOf μ.1) (nI j) (nI k))) 4) j H + (val (FX3_pile θ (rsOf μ.1) (nI (j / 4)) (nI (j % 4)))).toInt64))
    rw [e1']
    rfl
theorem s_digest {τ : TXS} {k : Nat} (hI : In μ.1 m c z p) (hθ : θ = nI k) (hs : μ.2.2.2.2.2.1 = nI k) (hl : τ.2.2.1 = μ.2.2.2.2.2.2.2.1) : ∃ v H, FX3_digest θ (rsOf μ.1) τ = some v ∧ FX4_digest μ = some (v, hz μ H) := by
  have e0 : FX4_mix (μ.1, μ.2.1, μ.2.2.1, μ.2.2.2.1, μ.2.2.2.2.1, μ.2.2.2.2.2.1, (0 : Int32), μ.2.2.2.2.2.2.2.1, μ.2.2.2.2.2.2.2.2.1, μ.2.2.2.2.2.2.2.2.2.1, μ.2.2.2.2.2.2.2.2.2.2.1, μ.2.2.2.2.2.2.2.2.2.2.2.1, (3511 : Int64)) μ.2.2.2.2.2.2.2.1 = some (hz μ (31 * 3511 + (μ.2.2.2.2.2.2.2.1).toInt64)) := rfl
  have es : ∀ H, (hz μ H).2.2.2.2.2.1 = θ := fun H => hs.trans hθ.symm
  unfold FX3_digest FX4_digest
  rw [e0, o_b, e_l22 (θ := θ) hI, e_mixRoom (θ := θ) hI, o_b, e_l49 (θ := θ) hI, e_l87 (θ := θ) hI, e_l122 (θ := θ) hI, es, hz_mix, o_b, hl, c_mix, o_b, c_l16 hI, c_l40 hI, c_l61 hI, c_l84 hI, c_l134 hI, c_l183 hI, c_mix, o_b]
  exact ⟨_, _, rfl, rfl⟩
end DL

/-! a cell written: in the row, in the room -/
theorem rs_M (f : Nat → Int32) {i : Nat} (v : Int32) (hi : i < 72) : rsOf (upd f (19 + i) v) = (upd (rsOf f).1 i v, (rsOf f).2.1, (rsOf f).2.2.1, (rsOf f).2.2.2.1, (rsOf f).2.2.2.2) := by
  unfold rsOf
  rw [cmp_in f v hi, cmp_out f v (by omega), cmp_out f v (by omega), cmp_out f v (by omega), cmp_out0 f v (by omega), cmp_out f v (by omega)]
  simp only [upd_ne f v (show 13 ≠ 19 + i by omega), upd_ne f v (show 14 ≠ 19 + i by omega), upd_ne f v (show 15 ≠ 19 + i by omega), upd_ne f v (show 16 ≠ 19 + i by omega), upd_ne f v (show 11 ≠ 19 + i by omega), upd_ne f v (show 12 ≠ 19 + i by omega), upd_ne f v (show 17 ≠ 19 + i by omega), upd_ne f v (show 18 ≠ 19 + i by omega)]
theorem rs_C (f : Nat → Int32) {i : Nat} (v : Int32) (hi : i < 30) : rsOf (upd f (91 + i) v) = ((rsOf f).1, upd (rsOf f).2.1 i v, (rsOf f).2.2.1, (rsOf f).2.2.2.1, (rsOf f).2.2.2.2) := by
  unfold rsOf
  rw [cmp_out f v (by omega), cmp_in f v hi, cmp_out f v (by omega), cmp_out f v (by omega), cmp_out0 f v (by omega), cmp_out f v (by omega)]
  simp only [upd_ne f v (show 13 ≠ 91 + i by omega), upd_ne f v (show 14 ≠ 91 + i by omega), upd_ne f v (show 15 ≠ 91 + i by omega), upd_ne f v (show 16 ≠ 91 + i by omega), upd_ne f v (show 11 ≠ 91 + i by omega), upd_ne f v (show 12 ≠ 91 + i by omega), upd_ne f v (show 17 ≠ 91 + i by omega), upd_ne f v (show 18 ≠ 91 + i by omega)]
theorem rs_F (f : Nat → Int32) {i : Nat} (v : Int32) (hi : i < 18) : rsOf (upd f (121 + i) v) = ((rsOf f).1, (rsOf f).2.1, upd (rsOf f).2.2.1 i v, (rsOf f).2.2.2.1, (rsOf f).2.2.2.2) := by
  unfold rsOf
  rw [cmp_out f v (by omega), cmp_out f v (by omega), cmp_in f v hi, cmp_out f v (by omega), cmp_out0 f v (by omega), cmp_out f v (by omega)]
  simp only [upd_ne f v (show 13 ≠ 121 + i by omega), upd_ne f v (show 14 ≠ 121 + i by omega), upd_ne f v (show 15 ≠ 121 + i by omega), upd_ne f v (show 16 ≠ 121 + i by omega), upd_ne f v (show 11 ≠ 121 + i by omega), upd_ne f v (show 12 ≠ 121 + i by omega), upd_ne f v (show 17 ≠ 121 + i by omega), upd_ne f v (show 18 ≠ 121 + i by omega)]
theorem rs_P (f : Nat → Int32) {i : Nat} (v : Int32) (hi : i < 80) : rsOf (upd f (139 + i) v) = ((rsOf f).1, (rsOf f).2.1, (rsOf f).2.2.1, upd (rsOf f).2.2.2.1 i v, (rsOf f).2.2.2.2) := by
  unfold rsOf
  rw [cmp_out f v (by omega), cmp_out f v (by omega), cmp_out f v (by omega), cmp_in f v hi, cmp_out0 f v (by omega), cmp_out f v (by omega)]
  simp only [upd_ne f v (show 13 ≠ 139 + i by omega), upd_ne f v (show 14 ≠ 139 + i by omega), upd_ne f v (show 15 ≠ 139 + i by omega), upd_ne f v (show 16 ≠ 139 + i by omega), upd_ne f v (show 11 ≠ 139 + i by omega), upd_ne f v (show 12 ≠ 139 + i by omega), upd_ne f v (show 17 ≠ 139 + i by omega), upd_ne f v (show 18 ≠ 139 + i by omega)]
theorem rs_13 (f : Nat → Int32) (v : Int32) : rsOf (upd f 13 v) = ((rsOf f).1, (rsOf f).2.1, (rsOf f).2.2.1, (rsOf f).2.2.2.1, (rsOf f).2.2.2.2.1, (rsOf f).2.2.2.2.2.1, v, f 14, f 15, f 16, f 11, f 12, f 17, f 18) := by
  unfold rsOf
  rw [cmp_out f v (by omega), cmp_out f v (by omega), cmp_out f v (by omega), cmp_out f v (by omega), cmp_out0 f v (by omega), cmp_out f v (by omega)]
  rfl
theorem rs_14 (f : Nat → Int32) (v : Int32) : rsOf (upd f 14 v) = ((rsOf f).1, (rsOf f).2.1, (rsOf f).2.2.1, (rsOf f).2.2.2.1, (rsOf f).2.2.2.2.1, (rsOf f).2.2.2.2.2.1, f 13, v, f 15, f 16, f 11, f 12, f 17, f 18) := by
  unfold rsOf
  rw [cmp_out f v (by omega), cmp_out f v (by omega), cmp_out f v (by omega), cmp_out f v (by omega), cmp_out0 f v (by omega), cmp_out f v (by omega)]
  rfl
theorem rs_15 (f : Nat → Int32) (v : Int32) : rsOf (upd f 15 v) = ((rsOf f).1, (rsOf f).2.1, (rsOf f).2.2.1, (rsOf f).2.2.2.1, (rsOf f).2.2.2.2.1, (rsOf f).2.2.2.2.2.1, f 13, f 14, v, f 16, f 11, f 12, f 17, f 18) := by
  unfold rsOf
  rw [cmp_out f v (by omega), cmp_out f v (by omega), cmp_out f v (by omega), cmp_out f v (by omega), cmp_out0 f v (by omega), cmp_out f v (by omega)]
  rfl
theorem rs_16 (f : Nat → Int32) (v : Int32) : rsOf (upd f 16 v) = ((rsOf f).1, (rsOf f).2.1, (rsOf f).2.2.1, (rsOf f).2.2.2.1, (rsOf f).2.2.2.2.1, (rsOf f).2.2.2.2.2.1, f 13, f 14, f 15, v, f 11, f 12, f 17, f 18) := by
  unfold rsOf
  rw [cmp_out f v (by omega), cmp_out f v (by omega), cmp_out f v (by omega), cmp_out f v (by omega), cmp_out0 f v (by omega), cmp_out f v (by omega)]
  rfl
theorem rs_17 (f : Nat → Int32) (v : Int32) : rsOf (upd f 17 v) = ((rsOf f).1, (rsOf f).2.1, (rsOf f).2.2.1, (rsOf f).2.2.2.1, (rsOf f).2.2.2.2.1, (rsOf f).2.2.2.2.2.1, f 13, f 14, f 15, f 16, f 11, f 12, v, f 18) := by
  unfold rsOf
  rw [cmp_out f v (by omega), cmp_out f v (by omega), cmp_out f v (by omega), cmp_out f v (by omega), cmp_out0 f v (by omega), cmp_out f v (by omega)]
  rfl
theorem rs_18 (f : Nat → Int32) (v : Int32) : rsOf (upd f 18 v) = ((rsOf f).1, (rsOf f).2.1, (rsOf f).2.2.1, (rsOf f).2.2.2.1, (rsOf f).2.2.2.2.1, (rsOf f).2.2.2.2.2.1, f 13, f 14, f 15, f 16, f 11, f 12, f 17, v) := by
  unfold rsOf
  rw [cmp_out f v (by omega), cmp_out f v (by omega), cmp_out f v (by omega), cmp_out f v (by omega), cmp_out0 f v (by omega), cmp_out f v (by omega)]
  rfl
/-- machine j set in rack r, slot s, phase q -/
def plc (f : Nat → Int32) (j : Nat) (r s q : Int32) : Nat → Int32 := upd (upd (upd f (19 + (6 * j + 4)) r) (19 + (6 * j + 5)) s) (19 + (6 * j + 2)) q
section PL
variable {f : Nat → Int32} {μ : MDS} {m c z p : Nat} {j : Nat}
theorem c_place (h : Cnt f m c z p) (hj : j < m) (r s q : Int32) : FX1_place (rsOf f) (nI j) r s q = some (rsOf (plc f j r s q)) := by
  have hm := h.lm
  have P : ∀ (T : Nat → Int32) (k : Nat) (v : Int32), k < 6 → FX2_put (12 : Int32) (6 : Int32) 72 (nI m, T) (nI j) (nI k) v = some (nI m, upd T (6 * j + k) v) := fun T k v hk => by
    rw [show (6 : Int32) = nI 6 from rfl, put_gen hj hk (by omega) (by omega) (by omega) (by omega), Nat.mul_comm]
  unfold FX1_place plc
  rw [rz_nm, h.hm, show (4 : Int32) = nI 4 from rfl, show (5 : Int32) = nI 5 from rfl, show (2 : Int32) = nI 2 from rfl, P _ 4 r (by omega), o_b, P _ 5 s (by omega), o_b, P _ 2 q (by omega), o_b, rs_M _ _ (by omega), rs_M _ _ (by omega), rs_M _ _ (by omega), ← h.hm]
  rfl
theorem i19 (j k : Nat) : (19 : Int32) + 6 * nI j + nI k = nI (19 + (6 * j + k)) := by
  rw [show (6 : Int32) = nI 6 from rfl, show (19 : Int32) = nI 19 from rfl, pk_mul, nI_add, nI_add, Nat.add_assoc]
def s1 (μ : MDS) (f : Nat → Int32) : MDS := (f, μ.2.1, μ.2.2.1, μ.2.2.2.1, μ.2.2.2.2.1, μ.2.2.2.2.2.1, μ.2.2.2.2.2.2.1, μ.2.2.2.2.2.2.2.1, μ.2.2.2.2.2.2.2.2.1, μ.2.2.2.2.2.2.2.2.2.1, μ.2.2.2.2.2.2.2.2.2.2.1, μ.2.2.2.2.2.2.2.2.2.2.2.1, μ.2.2.2.2.2.2.2.2.2.2.2.2)
theorem e_places (hj : j < 12) (r s q : Int32) : FX4_places μ (nI j) r s q = some (s1 μ (plc μ.1 j r s q)) := by
  unfold FX4_places plc
  rw [show (4 : Int32) = nI 4 from rfl, show (5 : Int32) = nI 5 from rfl, show (2 : Int32) = nI 2 from rfl, i19, i19, i19, nmv_eq, gd_in (by omega) (by omega), nI_clamp (show 19 + (6 * j + 4) < 2 ^ 31 by omega), nmv_eq, nmv_eq, gd_in (by omega) (by omega), nI_clamp (show 19 + (6 * j + 5) < 2 ^ 31 by omega), nmv_eq, nmv_eq, gd_in (by omega) (by omega), nI_clamp (show 19 + (6 * j + 2) < 2 ^ 31 by omega), nmv_eq]
  rfl
theorem plc_o (f : Nat → Int32) (j : Nat) (r s q : Int32) {i : Nat} (h4 : i ≠ 19 + (6 * j + 4)) (h5 : i ≠ 19 + (6 * j + 5)) (h2 : i ≠ 19 + (6 * j + 2)) : plc f j r s q i = f i := by
  unfold plc
  rw [upd_ne _ _ h2, upd_ne _ _ h5, upd_ne _ _ h4]
theorem plc_4 (f : Nat → Int32) (j : Nat) (r s q : Int32) : plc f j r s q (19 + (6 * j + 4)) = r := by
  unfold plc
  rw [upd_ne _ _ (by omega), upd_ne _ _ (by omega), upd_at]
theorem plc_5 (f : Nat → Int32) (j : Nat) (r s q : Int32) : plc f j r s q (19 + (6 * j + 5)) = s := by
  unfold plc
  rw [upd_ne _ _ (by omega), upd_at]
theorem plc_2 (f : Nat → Int32) (j : Nat) (r s q : Int32) : plc f j r s q (19 + (6 * j + 2)) = q := by
  unfold plc
  rw [upd_at]
/-- put back where it was: as if nothing had been -/
theorem plc_back (f : Nat → Int32) (j : Nat) (r s q : Int32) : plc (plc f j r s q) j (f (19 + (6 * j + 4))) (f (19 + (6 * j + 5))) (f (19 + (6 * j + 2))) = f := by
  funext i
  by_cases h4 : i = 19 + (6 * j + 4)
  · rw [h4, plc_4]
  · by_cases h5 : i = 19 + (6 * j + 5)
    · rw [h5, plc_5]
    · by_cases h2 : i = 19 + (6 * j + 2)
      · rw [h2, plc_2]
      · rw [plc_o _ _ _ _ _ h4 h5 h2, plc_o _ _ _ _ _ h4 h5 h2]
end PL

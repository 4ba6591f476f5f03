/-! a row added -/
theorem c_addRow {M n N : Nat} {pTc : Int32} (T : Nat → Int32) (hn : n < M) (hM : M < 1000) : FX2_addRow (nI M) pTc N (nI n, T) = some (nI n, (nI (n + 1), T)) := by
  unfold FX2_addRow FX2_isFull
  rw [if_pos (show nI n < nI M from nI_lt hn (by omega)), o_b, if_pos z00]
  show some (nI n + 1 - 1, (nI n + 1, T)) = _
  rw [← nI_succ, nI_pred]
theorem c_space {M n N : Nat} {pTc : Int32} (T : Nat → Int32) (hM : M < 1000) (hn : n ≤ M) : FX3_checkSpace (nI M) pTc N (nI n, T) = if n < M then some (.inr ()) else some (.inl 3) := by
  unfold FX3_checkSpace FX2_isFull
  by_cases h : n < M
  · rw [if_pos (show nI n < nI M from nI_lt h (by omega)), o_b, if_pos z00, if_pos h]
  · rw [if_neg (show ¬ nI n < nI M from nI_nlt (by omega) (by omega)), o_b, if_neg n10, if_neg h]
def adR (f : Nat → Int32) (b n : Nat) (v0 v1 v2 : Int32) : Nat → Int32 := upd (upd (upd f (b + (3 * n + 0)) v0) (b + (3 * n + 1)) v1) (b + (3 * n + 2)) v2
theorem adR_o (f : Nat → Int32) {b n i : Nat} (v0 v1 v2 : Int32) (h : i < b + 3 * n ∨ b + 3 * n + 3 ≤ i) : adR f b n v0 v1 v2 i = f i := by
  unfold adR
  rw [upd_ne _ _ (by omega), upd_ne _ _ (by omega), upd_ne _ _ (by omega)]
theorem e_adds (μ : MDS) {b ci n : Nat} (hci : ci < 19) (hb : 91 ≤ b) (hbn : b + 3 * n + 3 ≤ 219) (hg : μ.1 ci = nI n) (v0 v1 v2 : Int32) : FX4_adds μ (nI b) (nI ci) v0 v1 v2 = some (nI n, s1 μ (upd (adR μ.1 b n v0 v1 v2) ci (nI (n + 1)))) := by
  have e3 : (3 : Int32) * nI n = nI (3 * n) := by rw [show (3 : Int32) = nI 3 from rfl, pk_mul]
  have e0 : nI (b + 3 * n) = nI (b + (3 * n + 0)) := rfl
  have e1 : nI (b + (3 * n + 0)) + 1 = nI (b + (3 * n + 1)) := by rw [nI_1]; rfl
  have e2 : nI (b + (3 * n + 0)) + 2 = nI (b + (3 * n + 2)) := by rw [show (2 : Int32) = nI 2 from rfl, nI_add]; rfl
  have c0 : upd (upd (upd μ.1 (b + (3 * n + 0)) v0) (b + (3 * n + 1)) v1) (b + (3 * n + 2)) v2 ci = nI n := by
    rw [upd_ne _ _ (by omega), upd_ne _ _ (by omega), upd_ne _ _ (by omega)]; exact hg
  unfold FX4_adds adR
  rw [gd_in (by omega) (by omega), nI_clamp (show ci < 2 ^ 31 by omega), hg, nmv_eq, e3, nI_add, e0, gd_in (by omega) (by omega), nI_clamp (show b + (3 * n + 0) < 2 ^ 31 by omega), nmv_eq, e1, gd_in (by omega) (by omega), nI_clamp (show b + (3 * n + 1) < 2 ^ 31 by omega), nmv_eq, e2, gd_in (by omega) (by omega), nI_clamp (show b + (3 * n + 2) < 2 ^ 31 by omega), nmv_eq, gd_in2 (by omega) (by omega), nmv_eq, c0, gd_in2 (by omega) (by omega), nmv_eq, gd_in2 (by omega) (by omega), nmv_eq, ← nI_succ, upd_at, nI_pred]
  rfl

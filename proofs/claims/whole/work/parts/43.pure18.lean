/-! a row taken out: of a table, of the row 'now' -/
def shR (T : Nat → Int32) (a b C : Nat) : Nat → Int32 := fun k => if a ≤ k ∧ k < b then T (k + C) else T k
theorem shR_s (T : Nat → Int32) {a y C : Nat} (h : a ≤ y) : upd (shR T a y C) y (shR T a y C (y + C)) = shR T a (y + 1) C := by
  have e : shR T a y C (y + C) = T (y + C) := if_neg (fun q => by omega)
  rw [e]
  funext k
  unfold upd shR
  by_cases hk : k = y
  · rw [if_pos hk, if_pos ⟨by omega, by omega⟩, hk]
  · rw [if_neg hk]
    by_cases h2 : a ≤ k ∧ k < y
    · rw [if_pos h2, if_pos ⟨h2.1, by omega⟩]
    · rw [if_neg h2, if_neg (fun q => h2 ⟨q.1, by omega⟩)]
theorem shR_0 (T : Nat → Int32) (a C : Nat) : shR T a a C = T := by
  funext k
  unfold shR
  rw [if_neg (fun q => by omega)]
theorem rr_loop {C N n a : Nat} (T : Nat → Int32) (hN : n * C + C ≤ N) (hNN : N < 1000) (hC : 1 ≤ C) (K : Int32 → TBS → Option TBS) : ∀ d y fuel : Nat, y + d = n * C → d < fuel → a ≤ y → FX2_removeRow_L25 (nI C) N K fuel (nI y) (nI n, shR T a y C) = K (nI (n * C)) (nI n, shR T a (n * C) C) := by
  intro d
  induction d with
  | zero =>
    intro y fuel hy hf ha
    obtain ⟨n', rfl⟩ : ∃ n', fuel = n' + 1 := ⟨fuel - 1, by omega⟩
    obtain rfl : y = n * C := by omega
    rw [FX2_removeRow_L25]
    show (if nI n * nI C ≤ nI (n * C) then _ else _) = _
    rw [pk_mul, if_pos (nI_le (Nat.le_refl _) (by omega))]
  | succ d ih =>
    intro y fuel hy hf ha
    obtain ⟨n', rfl⟩ : ∃ n', fuel = n' + 1 := ⟨fuel - 1, by omega⟩
    rw [FX2_removeRow_L25]
    show (if nI n * nI C ≤ nI y then _ else _) = _
    rw [pk_mul, if_neg (nI_ge (by omega) (by omega)), nI_add, gd_in (by omega) (by omega), gd_in (by omega) (by omega), nI_clamp (show y + C < 2 ^ 31 by omega), nI_clamp (show y < 2 ^ 31 by omega), nmv_eq, ← nI_succ]
    show FX2_removeRow_L25 (nI C) N K n' (nI (y + 1)) (nI n, upd (shR T a y C) y (shR T a y C (y + C))) = _
    rw [shR_s T ha]
    exact ih (y + 1) n' (by omega) (by omega) (by omega)
theorem c_removeRow {pTm : Int32} {C N n j : Nat} (T : Nat → Int32) (hj : j < n) (hN : n * C ≤ N) (hNN : N < 1000) (hC : 1 ≤ C) : FX2_removeRow pTm (nI C) N (nI n, T) (nI j) = some (nI (n - 1), shR T (j * C) ((n - 1) * C) C) := by
  obtain ⟨n', rfl⟩ : ∃ n', n = n' + 1 := ⟨n - 1, by omega⟩
  have e1 : n' * C + C = (n' + 1) * C := (Nat.succ_mul n' C).symm
  have e2 : j * C ≤ n' * C := Nat.mul_le_mul_right C (by omega)
  have e3 : n' + 1 ≤ (n' + 1) * C := Nat.le_mul_of_pos_right _ hC
  unfold FX2_removeRow
  rw [row_yes hj (by omega), o_b, if_neg n10, pk_mul]
  show FX2_removeRow_L25 _ _ _ FU (nI (j * C)) (nI (n' + 1) - 1, T) = _
  rw [nI_pred]
  have := rr_loop (C := C) (N := N) (n := n') (a := j * C) T (by omega) hNN hC (fun (y5_2 : Int32) (s5_T : TBS) => some s5_T) (n' * C - j * C) (j * C) FU (by omega) (by show _ < 1000; omega) (Nat.le_refl _)
  rw [shR_0] at this
  exact this
theorem e_drops_loop (μ : MDS) {b ci n a : Nat} (hci : ci < 19) (hb : 91 ≤ b) (hbn : b + 3 * n + 3 ≤ 219) (g : Nat → Int32) (hg : g ci = nI n) (ha0 : 19 ≤ a) (K : Int32 → MDS → Option (Int32 × MDS)) : ∀ d y fuel : Nat, y + d = b + 3 * n → d < fuel → a ≤ y → FX4_drops_L17 (nI b) (nI ci) K fuel (nI y) (s1 μ (shR g a y 3)) = K (nI (b + 3 * n)) (s1 μ (shR g a (b + 3 * n) 3)) := by
  have cell : ∀ y, (shR g a y 3) ci = nI n := fun y => (if_neg (fun q => by omega)).trans hg
  have e3 : (3 : Int32) * nI n = nI (3 * n) := by rw [show (3 : Int32) = nI 3 from rfl, pk_mul]
  intro d
  induction d with
  | zero =>
    intro y fuel hy hf ha
    obtain ⟨n', rfl⟩ : ∃ n', fuel = n' + 1 := ⟨fuel - 1, by omega⟩
    obtain rfl : y = b + 3 * n := by omega
    rw [FX4_drops_L17, gd_in (by omega) (by omega), nI_clamp (show ci < 2 ^ 31 by omega), nmv_eq]
    show (if nI b + 3 * (shR g a (b + 3 * n) 3) ci ≤ nI (b + 3 * n) then _ else _) = _
    rw [cell, e3, nI_add, if_pos (nI_le (Nat.le_refl _) (by omega))]
  | succ d ih =>
    intro y fuel hy hf ha
    obtain ⟨n', rfl⟩ : ∃ n', fuel = n' + 1 := ⟨fuel - 1, by omega⟩
    have ey : nI y + 3 = nI (y + 3) := nI_add y 3
    rw [FX4_drops_L17, gd_in (by omega) (by omega), nI_clamp (show ci < 2 ^ 31 by omega), nmv_eq]
    show (if nI b + 3 * (shR g a y 3) ci ≤ nI y then _ else _) = _
    rw [cell, e3, nI_add, if_neg (nI_ge (by omega) (by omega)), ey, gd_in (by omega) (by omega), nI_clamp (show y + 3 < 2 ^ 31 by omega), nmv_eq, gd_in (by omega) (by omega), nI_clamp (show y < 2 ^ 31 by omega), nmv_eq, ← nI_succ]
    show FX4_drops_L17 (nI b) (nI ci) K n' (nI (y + 1)) (s1 μ (upd (shR g a y 3) y (shR g a y 3 (y + 3)))) = _
    rw [shR_s g ha]
    exact ih (y + 1) n' (by omega) (by omega) (by omega)

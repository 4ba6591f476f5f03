/-! a cable, a freeze taken out -/
theorem e_drops (μ : MDS) {b ci n j : Nat} (hci : ci < 19) (h13 : 13 ≤ ci) (hb : 91 ≤ b) (hbn : b + 3 * n + 3 ≤ 219) (hg : μ.1 ci = nI (n + 1)) (hj : j ≤ n) : FX4_drops μ (nI b) (nI ci) (nI j) = some (nI n, s1 μ (shR (upd μ.1 ci (nI n)) (b + 3 * j) (b + 3 * n) 3)) := by
  have e3 : (3 : Int32) * nI j = nI (3 * j) := by rw [show (3 : Int32) = nI 3 from rfl, pk_mul]
  unfold FX4_drops
  rw [gd_in (by omega) (by omega), nI_clamp (show ci < 2 ^ 31 by omega), nmv_eq, gd_in2 (by omega) (by omega), nmv_eq, hg, nI_pred, e3, nI_add]
  have := e_drops_loop μ hci hb hbn (upd μ.1 ci (nI n)) (upd_at _ _ _) (a := b + 3 * j) (by omega) (fun (y4_4 : Int32) (s4_μ : MDS) => gd (¬ (nI ci < 0 ∨ 219 ≤ ci)) (some (s4_μ.1 ci, s4_μ))) (3 * n - 3 * j) (b + 3 * j) FU (by omega) (by show _ < 1000; omega) (Nat.le_refl _)
  rw [shR_0] at this
  refine this.trans ?_
  show gd (¬ (nI ci < 0 ∨ 219 ≤ ci)) (some ((shR (upd μ.1 ci (nI n)) (b + 3 * j) (b + 3 * n) 3) ci, s1 μ (shR (upd μ.1 ci (nI n)) (b + 3 * j) (b + 3 * n) 3))) = _
  have e4 : (shR (upd μ.1 ci (nI n)) (b + 3 * j) (b + 3 * n) 3) ci = nI n := (if_neg (fun q => by omega)).trans (upd_at _ _ _)
  rw [gd_in2 (by omega) (by omega), e4]
theorem cmp_sh (f : Nat → Int32) {b n x y : Nat} (hy : y + 3 ≤ n) : (fun k => if k < n then shR f (b + x) (b + y) 3 (b + k) else 0) = shR (fun k => if k < n then f (b + k) else (0 : Int32)) x y 3 := by
  funext k
  unfold shR
  by_cases hk : k < n
  · rw [if_pos hk]
    by_cases h : x ≤ k ∧ k < y
    · rw [if_pos ⟨by omega, by omega⟩, if_pos h]
      show f (b + k + 3) = if k + 3 < n then f (b + (k + 3)) else 0
      rw [if_pos (by omega), Nat.add_assoc]
    · rw [if_neg (fun q => h ⟨by omega, by omega⟩), if_neg h]
      exact (if_pos hk).symm
  · rw [if_neg hk, if_neg (fun q => by omega)]
    exact (if_neg hk).symm
theorem shR_o (f : Nat → Int32) {x y i : Nat} (h : i < x ∨ y ≤ i) : shR f x y 3 i = f i := if_neg (fun q => by omega)
theorem cmp_so (f : Nat → Int32) {b n x y : Nat} (h : b + n ≤ x ∨ y ≤ b) : (fun k => if k < n then shR f x y 3 (b + k) else 0) = (fun k => if k < n then f (b + k) else (0 : Int32)) := by
  funext k
  by_cases hk : k < n
  · rw [if_pos hk, if_pos hk, shR_o f (by omega)]
  · rw [if_neg hk, if_neg hk]
theorem cmp_so0 (f : Nat → Int32) {n x y : Nat} (h : n ≤ x) : (fun k => if k < n then shR f x y 3 k else 0) = (fun k => if k < n then f k else (0 : Int32)) := by
  funext k
  by_cases hk : k < n
  · rw [if_pos hk, if_pos hk, shR_o f (by omega)]
  · rw [if_neg hk, if_neg hk]
theorem rs_shC (f : Nat → Int32) {n j : Nat} (hn : n ≤ 9) (hj : j ≤ n) : rsOf (shR f (91 + 3 * j) (91 + 3 * n) 3) = ((rsOf f).1, shR (rsOf f).2.1 (3 * j) (3 * n) 3, (rsOf f).2.2) := by
  unfold rsOf
  rw [cmp_so f (by omega), cmp_sh f (by omega), cmp_so f (by omega), cmp_so f (by omega), cmp_so0 f (by omega), cmp_so f (by omega)]
  simp only [shR_o f (show 13 < 91 + 3 * j ∨ 91 + 3 * n ≤ 13 by omega), shR_o f (show 14 < 91 + 3 * j ∨ 91 + 3 * n ≤ 14 by omega), shR_o f (show 15 < 91 + 3 * j ∨ 91 + 3 * n ≤ 15 by omega), shR_o f (show 16 < 91 + 3 * j ∨ 91 + 3 * n ≤ 16 by omega), shR_o f (show 11 < 91 + 3 * j ∨ 91 + 3 * n ≤ 11 by omega), shR_o f (show 12 < 91 + 3 * j ∨ 91 + 3 * n ≤ 12 by omega), shR_o f (show 17 < 91 + 3 * j ∨ 91 + 3 * n ≤ 17 by omega), shR_o f (show 18 < 91 + 3 * j ∨ 91 + 3 * n ≤ 18 by omega)]
theorem rs_shF (f : Nat → Int32) {n j : Nat} (hn : n ≤ 5) (hj : j ≤ n) : rsOf (shR f (121 + 3 * j) (121 + 3 * n) 3) = ((rsOf f).1, (rsOf f).2.1, shR (rsOf f).2.2.1 (3 * j) (3 * n) 3, (rsOf f).2.2.2) := by
  unfold rsOf
  rw [cmp_so f (by omega), cmp_so f (by omega), cmp_sh f (by omega), cmp_so f (by omega), cmp_so0 f (by omega), cmp_so f (by omega)]
  simp only [shR_o f (show 13 < 121 + 3 * j ∨ 121 + 3 * n ≤ 13 by omega), shR_o f (show 14 < 121 + 3 * j ∨ 121 + 3 * n ≤ 14 by omega), shR_o f (show 15 < 121 + 3 * j ∨ 121 + 3 * n ≤ 15 by omega), shR_o f (show 16 < 121 + 3 * j ∨ 121 + 3 * n ≤ 16 by omega), shR_o f (show 11 < 121 + 3 * j ∨ 121 + 3 * n ≤ 11 by omega), shR_o f (show 12 < 121 + 3 * j ∨ 121 + 3 * n ≤ 12 by omega), shR_o f (show 17 < 121 + 3 * j ∨ 121 + 3 * n ≤ 17 by omega), shR_o f (show 18 < 121 + 3 * j ∨ 121 + 3 * n ≤ 18 by omega)]

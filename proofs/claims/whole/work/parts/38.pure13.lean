/-! the calls that set -/
theorem inv_hi {f g : Nat → Int32} (h : ∀ k, 13 ≤ k → k < 219 → f k = g k) (hh : IH g) (hf : Inv f) : Inv g := by
  obtain ⟨b, eb, hb⟩ := hh
  have e : ∀ k, k < 219 → (fun k => if k = 12 then nI b else if k < 12 then f k else g k) k = (fun k => if k = 12 then nI b else f k) k := fun k hk => by
    show (if k = 12 then nI b else if k < 12 then f k else g k) = if k = 12 then nI b else f k
    by_cases h1 : k = 12
    · rw [if_pos h1, if_pos h1]
    · rw [if_neg h1, if_neg h1]
      by_cases h2 : k < 12
      · rw [if_pos h2]
      · rw [if_neg h2, h k (by omega) hk]
  obtain ⟨m, c, z, p, hC, hM, hc, hF, hP, hH, hO⟩ := hf
  have l1 := hC.lm
  have l2 := hC.lc
  have l3 := hC.lz
  have l4 := hC.lp
  refine ⟨m, c, z, p, ?_, fun j hj => ?_, fun j hj => ?_, fun j hj => ?_, fun j hj => ?_, ⟨b, eb, hb⟩, fun i j hi hj => ?_⟩
  · obtain ⟨a, b, d, e, r⟩ := hC
    exact ⟨(h _ (by omega) (by omega)).symm.trans a, (h _ (by omega) (by omega)).symm.trans b, (h _ (by omega) (by omega)).symm.trans d, (h _ (by omega) (by omega)).symm.trans e, r⟩
  · have := hM j hj
    rw [h _ (by omega) (by omega), h (19 + (6 * j + 1)) (by omega) (by omega), h (19 + (6 * j + 2)) (by omega) (by omega), h (19 + (6 * j + 3)) (by omega) (by omega), h (19 + (6 * j + 4)) (by omega) (by omega), h (19 + (6 * j + 5)) (by omega) (by omega)] at this
    exact this
  · have := hc j hj
    rw [h (91 + (3 * j + 0)) (by omega) (by omega), h (91 + (3 * j + 1)) (by omega) (by omega), h (91 + (3 * j + 2)) (by omega) (by omega)] at this
    exact this
  · have := hF j hj
    rw [h (121 + (3 * j + 0)) (by omega) (by omega), h (121 + (3 * j + 1)) (by omega) (by omega), h (121 + (3 * j + 2)) (by omega) (by omega)] at this
    exact this
  · obtain ⟨a, q, s, e1, e2, e3, e4, e5, e6⟩ := hP j hj
    exact ⟨a, q, s, (h _ (by omega) (by omega)).symm.trans e1, e2, (h _ (by omega) (by omega)).symm.trans e3, e4, (h _ (by omega) (by omega)).symm.trans e5, by rw [← h (139 + (4 * j + 1)) (by omega) (by omega), ← h (139 + (4 * j + 2)) (by omega) (by omega)]; exact e6⟩
  · have := hO i j hi hj
    rw [h (19 + (6 * i + 4)) (by omega) (by omega), h (19 + (6 * j + 4)) (by omega) (by omega), h (19 + (6 * i + 5)) (by omega) (by omega), h (19 + (6 * j + 5)) (by omega) (by omega), h (19 + (6 * i + 0)) (by omega) (by omega), h (19 + (6 * j + 0)) (by omega) (by omega)] at this
    exact this
theorem upd_at (f : Nat → Int32) (k : Nat) (v : Int32) : upd f k v k = v := if_pos rfl
theorem upd_ne (f : Nat → Int32) {k i : Nat} (v : Int32) (h : i ≠ k) : upd f k v i = f i := if_neg h
theorem cmp_out (f : Nat → Int32) {b n i : Nat} (v : Int32) (h : i < b ∨ b + n ≤ i) : (fun k => if k < n then upd f i v (b + k) else 0) = (fun k => if k < n then f (b + k) else (0 : Int32)) := by
  funext k
  by_cases hk : k < n
  · rw [if_pos hk, if_pos hk, upd_ne f v (by omega)]
  · rw [if_neg hk, if_neg hk]
theorem cmp_in (f : Nat → Int32) {b n a : Nat} (v : Int32) (h : a < n) : (fun k => if k < n then upd f (b + a) v (b + k) else 0) = upd (fun k => if k < n then f (b + k) else (0 : Int32)) a v := by
  funext k
  by_cases e : k = a
  · subst e; rw [if_pos h, upd_at, upd_at]
  · rw [upd_ne _ v e]
    by_cases hk : k < n
    · rw [if_pos hk, if_pos hk, upd_ne f v (by omega)]
    · rw [if_neg hk, if_neg hk]
theorem cmp_out0 (f : Nat → Int32) {n i : Nat} (v : Int32) (h : n ≤ i) : (fun k => if k < n then upd f i v k else 0) = (fun k => if k < n then f k else (0 : Int32)) := by
  have := cmp_out f (b := 0) (n := n) (i := i) v (Or.inr (by omega))
  simpa only [Nat.zero_add] using this
theorem cmp_in0 (f : Nat → Int32) {n a : Nat} (v : Int32) (h : a < n) : (fun k => if k < n then upd f a v k else 0) = upd (fun k => if k < n then f k else (0 : Int32)) a v := by
  have := cmp_in f (b := 0) (n := n) (a := a) v h
  simpa only [Nat.zero_add] using this
theorem rs_lim (f : Nat → Int32) {i : Nat} (v : Int32) (hi : i < 6) : rsOf (upd f i v) = ((rsOf f).1, (rsOf f).2.1, (rsOf f).2.2.1, (rsOf f).2.2.2.1, upd (rsOf f).2.2.2.2.1 i v, (rsOf f).2.2.2.2.2) := by
  unfold rsOf
  rw [cmp_out f v (by omega), cmp_out f v (by omega), cmp_out f v (by omega), cmp_out f v (by omega), cmp_in0 f v hi, cmp_out f v (by omega)]
  simp only [upd_ne f v (show 13 ≠ i by omega), upd_ne f v (show 14 ≠ i by omega), upd_ne f v (show 15 ≠ i by omega), upd_ne f v (show 16 ≠ i by omega), upd_ne f v (show 11 ≠ i by omega), upd_ne f v (show 12 ≠ i by omega), upd_ne f v (show 17 ≠ i by omega), upd_ne f v (show 18 ≠ i by omega)]
theorem rs_tray (f : Nat → Int32) {i : Nat} (v : Int32) (hi : i < 5) : rsOf (upd f (6 + i) v) = ((rsOf f).1, (rsOf f).2.1, (rsOf f).2.2.1, (rsOf f).2.2.2.1, (rsOf f).2.2.2.2.1, upd (rsOf f).2.2.2.2.2.1 i v, (rsOf f).2.2.2.2.2.2) := by
  unfold rsOf
  rw [cmp_out f v (by omega), cmp_out f v (by omega), cmp_out f v (by omega), cmp_out f v (by omega), cmp_out0 f v (by omega), cmp_in f v hi]
  simp only [upd_ne f v (show 13 ≠ 6 + i by omega), upd_ne f v (show 14 ≠ 6 + i by omega), upd_ne f v (show 15 ≠ 6 + i by omega), upd_ne f v (show 16 ≠ 6 + i by omega), upd_ne f v (show 11 ≠ 6 + i by omega), upd_ne f v (show 12 ≠ 6 + i by omega), upd_ne f v (show 17 ≠ 6 + i by omega), upd_ne f v (show 18 ≠ 6 + i by omega)]
theorem rs_lev (f : Nat → Int32) (v : Int32) : rsOf (upd f 11 v) = ((rsOf f).1, (rsOf f).2.1, (rsOf f).2.2.1, (rsOf f).2.2.2.1, (rsOf f).2.2.2.2.1, (rsOf f).2.2.2.2.2.1, f 13, f 14, f 15, f 16, v, f 12, f 17, f 18) := by
  unfold rsOf
  rw [cmp_out f v (by omega), cmp_out f v (by omega), cmp_out f v (by omega), cmp_out f v (by omega), cmp_out0 f v (by omega), cmp_out f v (by omega)]
  rfl
theorem rs_hr (f : Nat → Int32) (v : Int32) : rsOf (upd f 12 v) = ((rsOf f).1, (rsOf f).2.1, (rsOf f).2.2.1, (rsOf f).2.2.2.1, (rsOf f).2.2.2.2.1, (rsOf f).2.2.2.2.2.1, f 13, f 14, f 15, f 16, f 11, v, f 17, f 18) := by
  unfold rsOf
  rw [cmp_out f v (by omega), cmp_out f v (by omega), cmp_out f v (by omega), cmp_out f v (by omega), cmp_out0 f v (by omega), cmp_out f v (by omega)]
  rfl

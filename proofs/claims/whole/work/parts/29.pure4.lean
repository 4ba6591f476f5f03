/-! observers: difference, what is wrong -/
section OB4
variable {f : Nat → Int32} {μ : MDS} {m c z p : Nat} {j : Nat}
def mx (a b : Int32) : Int32 := if a < b then b else a
def mn (a b : Int32) : Int32 := if b < a then b else a
/-- the greatest load of a phase less the least -/
def gd3 (f : Nat → Int32) (m : Nat) : Int32 := mx (mx (sumTo (gl f (-1) 0) m) (sumTo (gl f (-1) 1) m)) (sumTo (gl f (-1) 2) m) - mn (mn (sumTo (gl f (-1) 0) m) (sumTo (gl f (-1) 1) m)) (sumTo (gl f (-1) 2) m)
theorem c_difference (h : Cnt f m c z p) : FX1_difference (rsOf f) = some (gd3 f m) := by
  unfold FX1_difference
  rw [c_loadOfPhase h (by decide), o_b, show FU = 996 + 1 + 1 + 1 + 1 from rfl, FX1_difference_L10, if_neg (by decide), c_loadOfPhase h (by decide), o_b, show (1 : Int32) + 1 = 2 from rfl, FX1_difference_L10, if_neg (by decide), c_loadOfPhase h (by decide), o_b, show (2 : Int32) + 1 = 3 from rfl, FX1_difference_L10, if_pos (by decide)]
  rfl
theorem e_difference (h : Cnt μ.1 m c z p) (hM : IM μ.1 m) : FX4_difference μ = some (gd3 μ.1 m) := by
  have hm := h.lm
  obtain ⟨s0, e0, l0⟩ := gl_nat hM (-1) 0
  obtain ⟨s1, e1, l1⟩ := gl_nat hM (-1) 1
  obtain ⟨s2, e2, l2⟩ := gl_nat hM (-1) 2
  have key : ∀ (n : Nat) (y b a : Int32), ¬ (3 : Int32) ≤ y → ∀ L, FX4_load μ (-1) y = some L → FX4_difference_L8 μ (fun (y1_3 : Int32) (y1_2 : Int32) (y1_1 : Int32) => some (y1_1 - y1_2)) (n + 1) y b a = FX4_difference_L8 μ (fun (y1_3 : Int32) (y1_2 : Int32) (y1_1 : Int32) => some (y1_1 - y1_2)) n (y + 1) (if b ≤ L then b else L) (if L ≤ a then a else L) := by
    intro n y b a hy L hL
    rw [FX4_difference_L8, if_neg hy, hL, o_b]
    by_cases q1 : L ≤ a <;> by_cases q2 : b ≤ L <;> simp [q1, q2]
  unfold FX4_difference
  rw [show FU = 996 + 1 + 1 + 1 + 1 from rfl, key _ 0 _ _ (by decide) _ (e_load h _ _), show (0 : Int32) + 1 = 1 from rfl, key _ 1 _ _ (by decide) _ (e_load h _ _), show (1 : Int32) + 1 = 2 from rfl, key _ 2 _ _ (by decide) _ (e_load h _ _), show (2 : Int32) + 1 = 3 from rfl, FX4_difference_L8, if_pos (by decide)]
  unfold gd3 mx mn
  rw [e0, e1, e2, show (1188 : Int32) = nI 1188 from rfl, show (0 : Int32) = nI 0 from rfl]
  have q : ∀ a b : Nat, a ≤ 1188 → b ≤ 1188 → ((if nI a ≤ nI b then nI b else nI a) = nI (max a b)) ∧ ((if nI a < nI b then nI b else nI a) = nI (max a b)) ∧ ((if nI a ≤ nI b then nI a else nI b) = nI (min a b)) ∧ ((if nI b < nI a then nI b else nI a) = nI (min a b)) := by
    intro a b ha hb
    refine ⟨?_, ?_, ?_, ?_⟩
    · by_cases hab : a ≤ b
      · rw [if_pos (nI_le hab (by omega)), Nat.max_eq_right hab]
      · rw [if_neg (nI_ge (by omega) (by omega)), Nat.max_eq_left (by omega)]
    · by_cases hab : a < b
      · rw [if_pos (nI_lt hab (by omega)), Nat.max_eq_right (by omega)]
      · rw [if_neg (nI_nlt (by omega) (by omega)), Nat.max_eq_left (by omega)]
    · by_cases hab : a ≤ b
      · rw [if_pos (nI_le hab (by omega)), Nat.min_eq_left hab]
      · rw [if_neg (nI_ge (by omega) (by omega)), Nat.min_eq_right (by omega)]
    · by_cases hab : b < a
      · rw [if_pos (nI_lt hab (by omega)), Nat.min_eq_right (by omega)]
      · rw [if_neg (nI_nlt (by omega) (by omega)), Nat.min_eq_left (by omega)]
  rw [(q s0 0 (by omega) (by omega)).1, (q 1188 s0 (by omega) (by omega)).2.2.1, (q s1 _ (by omega) (by omega)).1, (q _ s1 (by omega) (by omega)).2.2.1, (q s2 _ (by omega) (by omega)).1, (q _ s2 (by omega) (by omega)).2.2.1]
  rw [(q s0 s1 (by omega) (by omega)).2.1, (q s0 s1 (by omega) (by omega)).2.2.2, (q _ s2 (by omega) (by omega)).2.1, (q _ s2 (by omega) (by omega)).2.2.2]
  rw [show max s2 (max s1 (max s0 0)) = max (max s0 s1) s2 by omega, show min (min (min 1188 s0) s1) s2 = min (min s0 s1) s2 by omega]
/-- what is wrong with a room -/
def wr (f : Nat → Int32) (m c : Nat) : Int32 :=
  match firstFrom (fun i => decide (¬ sumTo (gl f (nI i) (-1)) m ≤ f i)) 0 6 with
  | some _ => 4
  | none => match firstFrom (fun i => decide (¬ sumTo (gt f (nI i)) c ≤ f (6 + i))) 0 5 with
    | some _ => 5
    | none => match firstFrom (fun i => decide (¬ gn f i ≤ f (91 + (3 * i + 2)))) 0 c with
      | some _ => 6
      | none => if gd3 f m ≤ f 11 then 0 else 7
theorem rz_lim (f : Nat → Int32) {i : Nat} (hi : i < 6) : (rsOf f).2.2.2.2.1 i = f i := if_pos hi
theorem rz_tray (f : Nat → Int32) {i : Nat} (hi : i < 5) : (rsOf f).2.2.2.2.2.1 i = f (6 + i) := if_pos hi
theorem c_w1 (h : Cnt f m c z p) (hc : IC f m c) (K : Int32 → Option Int32) : FX1_firstWrong_L2 (rsOf f) K FU 0 = match firstFrom (fun i => decide (¬ sumTo (gl f (nI i) (-1)) m ≤ f i)) 0 6 with | some _ => some 4 | none => K (nI 6) := by
  have hm := h.lc
  refine loop_find (K := K) 6 (fun i => decide (¬ sumTo (gl f (nI i) (-1)) m ≤ f i)) (fun _ => some 4) (by omega) (fun n => ?_) (fun n i hi => ?_)
  · rw [FX1_firstWrong_L2, if_pos (by decide)]
  · rw [FX1_firstWrong_L2, if_neg (show ¬ (6 : Int32) ≤ nI i from nI_ge (b := 6) hi (by omega)), c_loadOfRack h (nI_nm1 (by omega)), o_b, gd_in hi (by omega), nI_clamp (by omega), rz_lim f hi, nI_succ]
    by_cases q : sumTo (gl f (nI i) (-1)) m ≤ f i <;> simp [q]
theorem c_w2 (h : Cnt f m c z p) (hc : IC f m c) (K : Int32 → Option Int32) : FX1_firstWrong_L32 (rsOf f) K FU 0 = match firstFrom (fun i => decide (¬ sumTo (gt f (nI i)) c ≤ f (6 + i))) 0 5 with | some _ => some 5 | none => K (nI 5) := by
  have hm := h.lc
  refine loop_find (K := K) 5 (fun i => decide (¬ sumTo (gt f (nI i)) c ≤ f (6 + i))) (fun _ => some 5) (by omega) (fun n => ?_) (fun n i hi => ?_)
  · rw [FX1_firstWrong_L32, if_pos (by decide)]
  · rw [FX1_firstWrong_L32, if_neg (show ¬ (5 : Int32) ≤ nI i from nI_ge (b := 5) hi (by omega)), c_cablesInTray h hc, o_b, gd_in hi (by omega), nI_clamp (by omega), rz_tray f hi, nI_succ]
    by_cases q : sumTo (gt f (nI i)) c ≤ f (6 + i) <;> simp [q]
theorem c_w3 (h : Cnt f m c z p) (hc : IC f m c) (K : Int32 → Option Int32) : FX1_firstWrong_L61 (rsOf f) K FU 0 = match firstFrom (fun i => decide (¬ gn f i ≤ f (91 + (3 * i + 2)))) 0 c with | some _ => some 6 | none => K (nI c) := by
  have hm := h.lc
  refine loop_find (K := K) c (fun i => decide (¬ gn f i ≤ f (91 + (3 * i + 2)))) (fun _ => some 6) (by omega) (fun n => ?_) (fun n i hi => ?_)
  · rw [FX1_firstWrong_L61, rz_nc, h.hc, if_pos (nI_le (Nat.le_refl _) (by omega))]
  · rw [FX1_firstWrong_L61, rz_nc, h.hc, if_neg (nI_ge hi (by omega)), c_need h hc hi, o_b, aC2 h hi, o_b, nI_succ]
    by_cases q : gn f i ≤ f (91 + (3 * i + 2)) <;> simp [q]
theorem c_wrong (h : Cnt f m c z p) (hc : IC f m c) : FX1_firstWrong (rsOf f) = some (wr f m c) := by
  unfold FX1_firstWrong wr
  rw [c_w1 h hc]
  cases firstFrom (fun i => decide (¬ sumTo (gl f (nI i) (-1)) m ≤ f i)) 0 6 with
  | some _ => rfl
  | none =>
    show FX1_firstWrong_L32 (rsOf f) _ _ _ = _
    rw [c_w2 h hc]
    cases firstFrom (fun i => decide (¬ sumTo (gt f (nI i)) c ≤ f (6 + i))) 0 5 with
    | some _ => rfl
    | none =>
      show FX1_firstWrong_L61 (rsOf f) _ _ _ = _
      rw [c_w3 h hc]
      cases firstFrom (fun i => decide (¬ gn f i ≤ f (91 + (3 * i + 2)))) 0 c with
      | some _ => rfl
      | none =>
        show (FX1_difference (rsOf f)).bind _ = _
        rw [c_difference h, o_b, rz_lev]
        split <;> rfl
theorem e_w1 (h : Cnt μ.1 m c z p) (hM : IM μ.1 m) (hc : IC μ.1 m c) (K : Int32 → Option Int32) : FX4_wrong_L2 μ K FU 0 = match firstFrom (fun i => decide (¬ sumTo (gl μ.1 (nI i) (-1)) m ≤ μ.1 i)) 0 6 with | some _ => some 4 | none => K (nI 6) := by
  have hm := h.lc
  refine loop_find (K := K) 6 (fun i => decide (¬ sumTo (gl μ.1 (nI i) (-1)) m ≤ μ.1 i)) (fun _ => some 4) (by omega) (fun n => ?_) (fun n i hi => ?_)
  · rw [FX4_wrong_L2, if_pos (by decide)]
  · rw [FX4_wrong_L2, if_neg (show ¬ (6 : Int32) ≤ nI i from nI_ge (b := 6) hi (by omega)), e_load h, o_b, Int32.zero_add, gd_in (by omega) (by omega), nI_clamp (by omega), nmv_eq, nI_succ]
    by_cases q : sumTo (gl μ.1 (nI i) (-1)) m ≤ μ.1 i <;> simp [q]
theorem e_w2 (h : Cnt μ.1 m c z p) (hM : IM μ.1 m) (hc : IC μ.1 m c) (K : Int32 → Option Int32) : FX4_wrong_L35 μ K FU 0 = match firstFrom (fun i => decide (¬ sumTo (gt μ.1 (nI i)) c ≤ μ.1 (6 + i))) 0 5 with | some _ => some 5 | none => K (nI 5) := by
  have hm := h.lc
  refine loop_find (K := K) 5 (fun i => decide (¬ sumTo (gt μ.1 (nI i)) c ≤ μ.1 (6 + i))) (fun _ => some 5) (by omega) (fun n => ?_) (fun n i hi => ?_)
  · rw [FX4_wrong_L35, if_pos (by decide)]
  · rw [FX4_wrong_L35, if_neg (show ¬ (5 : Int32) ≤ nI i from nI_ge (b := 5) hi (by omega)), e_inTray h hc, o_b, show (6 : Int32) + nI i = nI (6 + i) from nI_add 6 i, gd_in (by omega) (by omega), nI_clamp (by omega), nmv_eq, nI_succ]
    by_cases q : sumTo (gt μ.1 (nI i)) c ≤ μ.1 (6 + i) <;> simp [q]
theorem e_w3 (h : Cnt μ.1 m c z p) (hM : IM μ.1 m) (hc : IC μ.1 m c) (K : Int32 → Option Int32) : FX4_wrong_L67 μ K FU 0 = match firstFrom (fun i => decide (¬ gn μ.1 i ≤ μ.1 (91 + (3 * i + 2)))) 0 c with | some _ => some 6 | none => K (nI c) := by
  have hm := h.lc
  refine loop_find (K := K) c (fun i => decide (¬ gn μ.1 i ≤ μ.1 (91 + (3 * i + 2)))) (fun _ => some 6) (by omega) (fun n => ?_) (fun n i hi => ?_)
  · rw [FX4_wrong_L67, g14, cl14, h.hc, if_pos (nI_le (Nat.le_refl _) (by omega))]
  · rw [FX4_wrong_L67, g14, cl14, h.hc, if_neg (nI_ge hi (by omega)), e_need h hM hc hi, o_b, nmv_eq, i91_0, i91_2, gd_in (by omega) (by omega), nI_clamp (by omega), nmv_eq, nI_succ]
    by_cases q : gn μ.1 i ≤ μ.1 (91 + (3 * i + 2)) <;> simp [q]
theorem e_wrong (h : Cnt μ.1 m c z p) (hM : IM μ.1 m) (hc : IC μ.1 m c) : FX4_wrong μ = some (wr μ.1 m c) := by
  unfold FX4_wrong wr
  rw [e_w1 h hM hc]
  cases firstFrom (fun i => decide (¬ sumTo (gl μ.1 (nI i) (-1)) m ≤ μ.1 i)) 0 6 with
  | some _ => rfl
  | none =>
    show FX4_wrong_L35 μ _ _ _ = _
    rw [e_w2 h hM hc]
    cases firstFrom (fun i => decide (¬ sumTo (gt μ.1 (nI i)) c ≤ μ.1 (6 + i))) 0 5 with
    | some _ => rfl
    | none =>
      show FX4_wrong_L67 μ _ _ _ = _
      rw [e_w3 h hM hc]
      cases firstFrom (fun i => decide (¬ gn μ.1 i ≤ μ.1 (91 + (3 * i + 2)))) 0 c with
      | some _ => rfl
      | none =>
        show (FX4_difference μ).bind _ = _
        rw [e_difference h hM, o_b, g11, cl11]
        split <;> rfl
end OB4

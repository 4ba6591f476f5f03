/-! taken, append, clearText -/
def dv (t : Nat) : UInt64 := FP.ddiv (FP.i2d (nI t)) (4633641066610819072 : UInt64)
theorem dv_ok : ∀ t, t < 61 → (dv t) &&& 0x7fffffffffffffff ≤ 0x7ff0000000000000 ∧ Op.cmpValue (FP.dcmp (dv t) (dv t)) .l = 0 := by decide +kernel
theorem sum_nat2 {g : Nat → Int32} {u : Nat → Nat} : ∀ N : Nat, (∀ j, j < N → g j = nI (u j)) → ∃ s : Nat, sumTo g N = nI s ∧ s = (List.range N).foldl (fun a j => a + u j) 0 := by
  intro N
  induction N with
  | zero => intro _; exact ⟨0, rfl, rfl⟩
  | succ N ih =>
    intro h
    obtain ⟨s, e, hs⟩ := ih (fun j hj => h j (by omega))
    refine ⟨s + u N, ?_, ?_⟩
    · show sumTo g N + g N = _
      rw [e, h N (by omega), nI_add]
    · rw [List.range_succ, List.foldl_append, ← hs]; rfl
section TK
variable {μ : MDS} {m c z p : Nat} {θ : Int32}
theorem gz_nat {f : Nat → Int32} (hM : IM f m) (hO : IO f m) (hm : m ≤ 12) {r : Nat} (hr : r ≤ 5) : ∃ t : Nat, sumTo (gz f (nI r)) m = nI t ∧ t ≤ 10 := by
  refine ⟨_, taken_cnt hM hO hm hr m (Nat.le_refl _), ?_⟩
  have e := cnt_not (P := fun y => (firstFrom (qW f (nI r) y 1 (-1)) 0 m).isSome) 10
  omega
theorem o_taken (h : Cnt μ.1 m c z p) (hM : IM μ.1 m) (hO : IO μ.1 m) : ∃ t, t < 61 ∧ FX3_taken θ (rsOf μ.1) = some (dv t) ∧ FX4_taken μ = some (dv t, rfz μ 0) := by
  have hm := h.lm
  have hs : ∀ r : Nat, ∃ t : Nat, r < 6 → sumTo (gz μ.1 (nI r)) m = nI t ∧ t ≤ 10 := fun r => by
    by_cases hr : r < 6
    · obtain ⟨t, h1, h2⟩ := gz_nat hM hO hm (show r ≤ 5 by omega)
      exact ⟨t, fun _ => ⟨h1, h2⟩⟩
    · exact ⟨0, fun h => absurd h hr⟩
  obtain ⟨u, hu⟩ : ∃ u : Nat → Nat, ∀ r, r < 6 → sumTo (gz μ.1 (nI r)) m = nI (u r) ∧ u r ≤ 10 := ⟨fun r => Classical.choose (hs r), fun r => Classical.choose_spec (hs r)⟩
  have b0 := (hu 0 (by omega)).2
  have b1 := (hu 1 (by omega)).2
  have b2 := (hu 2 (by omega)).2
  have b3 := (hu 3 (by omega)).2
  have b4 := (hu 4 (by omega)).2
  have b5 := (hu 5 (by omega)).2
  have e1 : sumTo (fun r => sumTo (gz μ.1 (nI r)) m) 6 = nI (u 0 + u 1 + u 2 + u 3 + u 4 + u 5) := by
    simp only [sumTo, (hu 0 (by omega)).1, (hu 1 (by omega)).1, (hu 2 (by omega)).1, (hu 3 (by omega)).1, (hu 4 (by omega)).1, (hu 5 (by omega)).1, Int32.zero_add, nI_add]
  have e2 : sumTo (fun r => 10 - sumTo (gz μ.1 (nI r)) m) 6 = nI (60 - (u 0 + u 1 + u 2 + u 3 + u 4 + u 5)) := by
    simp only [sumTo, (hu 0 (by omega)).1, (hu 1 (by omega)).1, (hu 2 (by omega)).1, (hu 3 (by omega)).1, (hu 4 (by omega)).1, (hu 5 (by omega)).1, Int32.zero_add]
    rw [show (10 : Int32) = nI 10 from rfl, pk_sub b0, pk_sub b1, pk_sub b2, pk_sub b3, pk_sub b4, pk_sub b5]
    simp only [nI_add]
    congr 1
    omega
  have hd := dv_ok (u 0 + u 1 + u 2 + u 3 + u 4 + u 5) (by omega)
  refine ⟨u 0 + u 1 + u 2 + u 3 + u 4 + u 5, by omega, ?_, ?_⟩
  · unfold FX3_taken
    refine (loop_sum (K := fun _ y1_1 => gd ((FP.ddiv (FP.i2d y1_1) (4633641066610819072 : UInt64)) &&& 0x7fffffffffffffff ≤ 0x7ff0000000000000) (some (FP.ddiv (FP.i2d y1_1) (4633641066610819072 : UInt64)))) 6 (fun r => sumTo (gz μ.1 (nI r)) m) (by omega) (fun n acc => ?_) (fun n j acc hj => ?_)).trans ?_
    · rw [FX3_taken_L4, if_pos (by decide)]
    · rw [FX3_taken_L4, if_neg (show ¬ (6 : Int32) ≤ nI j from nI_ge (b := 6) hj (by omega)), c_slotsTaken h, o_b, nI_succ]
    · rw [e1]; exact gd_t hd.1 _
  · unfold FX4_taken
    refine (loop_sum (K := fun _ y1_1 => gd ((FP.ddiv (FP.i2d ((60 : Int32) - y1_1)) (4633641066610819072 : UInt64)) &&& 0x7fffffffffffffff ≤ 0x7ff0000000000000) (some (FP.ddiv (FP.i2d ((60 : Int32) - y1_1)) (4633641066610819072 : UInt64), rfz μ 0))) 6 (fun r => 10 - sumTo (gz μ.1 (nI r)) m) (by omega) (fun n acc => ?_) (fun n j acc hj => ?_)).trans ?_
    · rw [FX4_taken_L9, if_pos (by decide)]; rfl
    · have e := e_freeSlots (μ := rfz μ 0) h hM hO (show j ≤ 5 by omega)
      rw [rfz_1] at e
      unfold rfz at e
      rw [FX4_taken_L9, if_neg (show ¬ (6 : Int32) ≤ nI j from nI_ge (b := 6) hj (by omega)), e, o_b, nI_succ]
    · rw [e2, show (60 : Int32) = nI 60 from rfl, pk_sub (by omega), show 60 - (60 - (u 0 + u 1 + u 2 + u 3 + u 4 + u 5)) = u 0 + u 1 + u 2 + u 3 + u 4 + u 5 by omega]
      exact gd_t hd.1 _
/-- the texts are alike -/
def Txt (τ : TXS) (μ : MDS) (n : Nat) : Prop := τ.1 = μ.2.2.2.2.1 ∧ τ.2.2.1 = nI n ∧ μ.2.2.2.2.2.2.2.1 = nI n ∧ n ≤ 90
def cd23 (k : Nat) : Int32 := if k = 2 then 1 else if k = 3 then 2 else 0
theorem o_append {τ : TXS} {n : Nat} (h : Txt τ μ n) (x : Int32) : (∃ k w, FX3_append θ τ x = some (.inl k) ∧ ¬ cd23 k = 0 ∧ FX4_append μ x = some (w, rfz μ (cd23 k))) ∨ (n < 90 ∧ FX3_append θ τ x = some (.inr (nI (n + 1), (upd τ.1 n x, τ.2.1, nI (n + 1), τ.2.2.2.1, τ.2.2.2.2.1, τ.2.2.2.2.2))) ∧ FX4_append μ x = some (nI (n + 1), (μ.1, μ.2.1, μ.2.2.1, μ.2.2.2.1, upd μ.2.2.2.2.1 n x, μ.2.2.2.2.2.1, 0, nI (n + 1), μ.2.2.2.2.2.2.2.2.1, μ.2.2.2.2.2.2.2.2.2.1, μ.2.2.2.2.2.2.2.2.2.2.1, μ.2.2.2.2.2.2.2.2.2.2.2.1, μ.2.2.2.2.2.2.2.2.2.2.2.2))) := by
  obtain ⟨h1, h2, h3, h4⟩ := h
  unfold FX3_append FX4_append FX4_append_J29
  rcases range_chk x 0 127 with ⟨g1, g2⟩ | ⟨g1, g2, g3, g4⟩
  · rw [g1, g2, bX_l, o_b, if_pos z00, refd1, o_b, if_neg n10]
    exact Or.inl ⟨2, 0, rfl, by decide, rfl⟩
  · rw [g1, g2, bX_r, o_b, if_neg n10, h2, h3]
    by_cases hn : n < 90
    · rw [if_pos (show nI n < 90 from nI_lt (b := 90) hn (by omega)), if_neg (show ¬ nI n = 90 from fun e => by have := nI_inj (b := 90) e (by omega) (by omega); omega), refd0, o_b, if_pos z00]
      refine Or.inr ⟨hn, ?_, ?_⟩
      · rw [gd_in hn (by omega), nI_clamp (by omega), nmv_eq, nI_succ]
      · show gd (¬ (μ.2.2.2.2.2.2.2.1 < 0 ∨ 90 ≤ (μ.2.2.2.2.2.2.2.1).toNatClampNeg)) (nmv (upd μ.2.2.2.2.1 (μ.2.2.2.2.2.2.2.1).toNatClampNeg x) fun fw9 => some (μ.2.2.2.2.2.2.2.1 + (1 : Int32), (μ.1, μ.2.1, μ.2.2.1, μ.2.2.2.1, fw9, μ.2.2.2.2.2.1, 0, μ.2.2.2.2.2.2.2.1 + (1 : Int32), μ.2.2.2.2.2.2.2.2.1, μ.2.2.2.2.2.2.2.2.2.1, μ.2.2.2.2.2.2.2.2.2.2.1, μ.2.2.2.2.2.2.2.2.2.2.2.1, μ.2.2.2.2.2.2.2.2.2.2.2.2))) = _
        rw [h3, gd_in hn (by omega), nI_clamp (by omega), nmv_eq, nI_succ]
    · obtain rfl : n = 90 := by omega
      rw [if_neg (show ¬ nI 90 < 90 by decide), if_pos (show nI 90 = 90 from rfl), refd2, o_b, if_neg n10]
      exact Or.inl ⟨3, 0, rfl, by decide, rfl⟩
end TK

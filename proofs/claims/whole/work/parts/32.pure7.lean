/-! observers: the greatest size, how many slots are free -/
def cnt (P : Nat → Bool) : Nat → Nat
  | 0 => 0
  | n + 1 => cnt P n + (if P n = true then 1 else 0)
theorem cnt_or {P Q : Nat → Bool} : ∀ N : Nat, (∀ y, y < N → ¬ (P y = true ∧ Q y = true)) → cnt (fun y => P y || Q y) N = cnt P N + cnt Q N := by
  intro N
  induction N with
  | zero => intro _; rfl
  | succ N ih =>
    intro h
    have h1 := h N (by omega)
    show cnt _ N + _ = (cnt P N + _) + (cnt Q N + _)
    rw [ih (fun y hy => h y (by omega))]
    by_cases p : P N = true <;> by_cases q : Q N = true
    · exact absurd ⟨p, q⟩ h1
    · simp [p, q]; omega
    · simp [p, q]; omega
    · simp [p, q]
theorem cnt_not {P : Nat → Bool} : ∀ N : Nat, cnt (fun y => !P y) N + cnt P N = N := by
  intro N
  induction N with
  | zero => rfl
  | succ N ih =>
    show (cnt _ N + _) + (cnt P N + _) = _
    by_cases p : P N = true
    · simp [p]; omega
    · simp [p]; omega
theorem cnt_ext {P Q : Nat → Bool} : ∀ N : Nat, (∀ y, y < N → P y = Q y) → cnt P N = cnt Q N := by
  intro N
  induction N with
  | zero => intro _; rfl
  | succ N ih =>
    intro h
    show cnt P N + _ = cnt Q N + _
    rw [ih (fun y hy => h y (by omega)), h N (by omega)]
theorem cnt_false : ∀ N : Nat, cnt (fun _ => false) N = 0 := by
  intro N
  induction N with
  | zero => rfl
  | succ N ih => show cnt _ N + _ = 0; rw [ih]; rfl
theorem cnt_rng : ∀ k, k < 11 → ∀ t, t < 11 → k + t ≤ 10 → cnt (fun y => decide (k ≤ y ∧ y < k + t)) 10 = t := by decide +kernel
theorem sum_cnt (P : Nat → Bool) : ∀ N : Nat, sumTo (fun y => if P y = true then 1 else 0) N = nI (cnt P N) := by
  intro N
  induction N with
  | zero => rfl
  | succ N ih =>
    show sumTo _ N + (if P N = true then 1 else 0) = nI (cnt P N + (if P N = true then 1 else 0))
    rw [ih]
    by_cases p : P N = true
    · rw [if_pos p, if_pos p, nI_succ]
    · rw [if_neg p, if_neg p, Int32.add_zero]; rfl
theorem sum_ext {g g' : Nat → Int32} : ∀ N : Nat, (∀ y, y < N → g y = g' y) → sumTo g N = sumTo g' N := by
  intro N
  induction N with
  | zero => intro _; rfl
  | succ N ih => intro h; show sumTo g N + g N = sumTo g' N + g' N; rw [ih (fun y hy => h y (by omega)), h N (by omega)]
theorem ff_succ (p : Nat → Bool) (n : Nat) : (firstFrom p 0 (n + 1)).isSome = ((firstFrom p 0 n).isSome || p n) := by
  cases e : firstFrom p 0 (n + 1) with
  | none =>
    have h := (ff_none (n + 1) 0).mp e
    rw [(ff_none n 0).mpr (fun i h1 h2 => h i h1 (by omega)), h n (by omega) (by omega)]; rfl
  | some k =>
    obtain ⟨h1, h2, h3, h4⟩ := (ff_some (n + 1) 0).mp e
    by_cases hk : k = n
    · rw [← hk, h3, Bool.or_true]; rfl
    · rw [(ff_some n 0).mpr ⟨h1, by omega, h3, h4⟩]; rfl
section OB7
variable {f : Nat → Int32} {μ : MDS} {m c z p : Nat} {j : Nat}
def gz (f : Nat → Int32) (r : Int32) (j : Nat) : Int32 := if f (19 + (6 * j + 4)) = r then f (19 + (6 * j + 0)) else 0
theorem c_slotsTaken (h : Cnt f m c z p) (r : Int32) : FX1_slotsTakenIn (rsOf f) r = some (sumTo (gz f r) m) := by
  have hm := h.lm
  unfold FX1_slotsTakenIn
  refine loop_sumS m (gz f r) (by omega) (fun n acc => ?_) (fun n j acc hj => ?_)
  · rw [FX1_slotsTakenIn_L4, rz_nm, h.hm, if_pos (nI_le (Nat.le_refl _) (by omega))]
  · rw [FX1_slotsTakenIn_L4, rz_nm, h.hm, if_neg (nI_ge hj (by omega)), stands h hj, o_b, aM0 h hj, nI_succ]
    unfold gz
    generalize f (19 + (6 * j + 0)) = Z
    by_cases h1 : f (19 + (6 * j + 4)) = r <;> simp [h1]
theorem taken_cnt (hM : IM f m) (hO : IO f m) (hm : m ≤ 12) {r : Nat} (hr : r ≤ 5) : ∀ n, n ≤ m → sumTo (gz f (nI r)) n = nI (cnt (fun y => (firstFrom (qW f (nI r) y 1 (-1)) 0 n).isSome) 10) := by
  intro n
  induction n with
  | zero => intro _; show (0 : Int32) = nI (cnt (fun y => false) 10); rw [cnt_false]; rfl
  | succ n ih =>
    intro hn
    show sumTo _ n + _ = _
    rw [ih (by omega)]
    have e1 : cnt (fun y => (firstFrom (qW f (nI r) y 1 (-1)) 0 (n + 1)).isSome) 10 = cnt (fun y => (firstFrom (qW f (nI r) y 1 (-1)) 0 n).isSome) 10 + cnt (fun y => qW f (nI r) y 1 (-1) n) 10 := by
      rw [← cnt_or]
      · exact cnt_ext 10 (fun y hy => ff_succ _ n)
      · intro y hy ⟨h1, h2⟩
        obtain ⟨i, hi⟩ := Option.isSome_iff_exists.mp h1
        obtain ⟨g1, g2⟩ := ff_lt hi
        obtain ⟨-, q1, k, t, q2, q3, q4, q5, q6, q7, q8⟩ := (qW_iff hM (show i < m by omega) hr (by omega) (-1)).mp g2
        obtain ⟨-, q1', k', t', q2', q3', q4', q5', q6', q7', q8'⟩ := (qW_iff hM (show n < m by omega) hr (by omega) (-1)).mp h2
        have := cov_one hO hr (show i < m by omega) (show n < m by omega) ⟨q1, k, t, q2, q3, q4, q5, q6, by omega, q8⟩ ⟨q1', k', t', q2', q3', q4', q5', q6', by omega, q8'⟩
        omega
    rw [e1, ← nI_add]
    congr 1
    unfold gz
    by_cases h1 : f (19 + (6 * n + 4)) = nI r
    · obtain ⟨k, s, e5, e0, s1, s4, hk⟩ := im_slot hM (show n < m by omega) hr h1
      rw [if_pos h1, e0]
      congr 1
      rw [← cnt_rng k (by omega) s (by omega) hk]
      refine cnt_ext 10 (fun y hy => ?_)
      rw [Bool.eq_iff_iff, decide_eq_true_iff, qW_iff hM (show n < m by omega) hr (by omega) (-1)]
      constructor
      · intro ⟨g1, g2⟩
        exact ⟨nI_nm1 (by omega), h1, k, s, e5, e0, s1, s4, hk, by omega, g2⟩
      · rintro ⟨-, -, k', s', e5', e0', -, -, hk', g1, g2⟩
        have a1 := nI_inj (e5.symm.trans e5') (by omega) (by omega)
        have a2 := nI_inj (e0.symm.trans e0') (by omega) (by omega)
        omega
    · rw [if_neg h1]
      have : cnt (fun y => qW f (nI r) y 1 (-1) n) 10 = 0 := by
        rw [← cnt_false 10]
        refine cnt_ext 10 (fun y hy => ?_)
        unfold qW
        simp [h1]
      rw [this]; rfl
theorem e_freeSlots (h : Cnt μ.1 m c z p) (hM : IM μ.1 m) (hO : IO μ.1 m) {r : Nat} (hr : r ≤ 5) : FX4_freeSlots μ (nI r) = some (10 - sumTo (gz μ.1 (nI r)) m) := by
  have hm := h.lm
  unfold FX4_freeSlots
  refine (loop_sumS 10 (fun y => if (!(firstFrom (qW μ.1 (nI r) y 1 (-1)) 0 m).isSome) = true then 1 else 0) (by omega) (fun n acc => ?_) (fun n j acc hj => ?_)).trans ?_
  · rw [FX4_freeSlots_L4, if_pos (by decide)]
  · rw [FX4_freeSlots_L4, if_neg (show ¬ (10 : Int32) ≤ nI j from nI_ge (b := 10) hj (by omega)), e_machineAt h hM hr (by omega), o_b, nI_succ]
    cases e : firstFrom (qW μ.1 (nI r) j 1 (-1)) 0 m with
    | none => rw [if_pos (show ffI none = -1 from rfl)]; rfl
    | some i => rw [if_neg (show ¬ ffI (some i) = -1 from nI_nm1 (by have := (ff_lt e).1; omega))]; rfl
  · rw [sum_cnt (fun y => !(firstFrom (qW μ.1 (nI r) y 1 (-1)) 0 m).isSome) 10, taken_cnt hM hO hm hr m (Nat.le_refl _)]
    have e := cnt_not (P := fun y => (firstFrom (qW μ.1 (nI r) y 1 (-1)) 0 m).isSome) 10
    rw [show (10 : Int32) = nI 10 from rfl, pk_sub (by omega)]
    congr 2
    omega
theorem e_greatest (h : Cnt μ.1 m c z p) (hM : IM μ.1 m) (hO : IO μ.1 m) {r : Nat} (hr : r ≤ 5) : FX1_greatestSizeFor (rsOf μ.1) (nI r) = FX4_tellRack_L83 μ (nI r) (fun (y2_3 : Int32) => some y2_3) FU (4 : Int32) ∧ ∃ v, FX1_greatestSizeFor (rsOf μ.1) (nI r) = some v := by
  have key : ∀ k : Nat, k ≤ 4 → ∀ n, k < n → FX1_greatestSizeFor_L2 (rsOf μ.1) (nI r) (fun (y1_2 : Int32) => some (0 : Int32)) n (nI k) = FX4_tellRack_L83 μ (nI r) (fun (y2_3 : Int32) => some y2_3) n (nI k) ∧ ∃ v, FX1_greatestSizeFor_L2 (rsOf μ.1) (nI r) (fun (y1_2 : Int32) => some (0 : Int32)) n (nI k) = some v := by
    intro k
    induction k with
    | zero =>
      intro _ n hn
      obtain ⟨n', rfl⟩ : ∃ n', n = n' + 1 := ⟨n - 1, by omega⟩
      rw [FX1_greatestSizeFor_L2, FX4_tellRack_L83, if_pos (by decide), if_pos (by decide)]
      exact ⟨rfl, _, rfl⟩
    | succ k ih =>
      intro hk n hn
      obtain ⟨n', rfl⟩ : ∃ n', n = n' + 1 := ⟨n - 1, by omega⟩
      have e : nI (k + 1) + -1 = nI k := pk_m1 k
      rw [FX1_greatestSizeFor_L2, FX4_tellRack_L83, if_neg (nI_nle (by omega) (by omega)), if_neg (nI_nle (by omega) (by omega)), c_lowest h (by omega) (by omega), e_lowest h hM hO hr (by omega) (by omega), o_b, o_b, e]
      by_cases q : ffI (lowF μ.1 m r (k + 1)) = -1
      · rw [if_pos q, if_pos q]; exact ih (by omega) n' (by omega)
      · rw [if_neg q, if_neg q]; exact ⟨rfl, _, rfl⟩
  exact key 4 (by omega) FU (by decide)
end OB7

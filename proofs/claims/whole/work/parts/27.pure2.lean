/-! the invariant of a row; observers: freezes, cables, slots -/
/-- where a machine of size s stands -/
def Plc (r k : Int32) (s : Nat) : Prop := (r = -1 ∧ k = -1) ∨ ∃ a b : Nat, r = nI a ∧ a ≤ 5 ∧ k = nI b ∧ b + s ≤ 10
def IM (f : Nat → Int32) (m : Nat) : Prop := ∀ j, j < m → ∃ s l q t : Nat, f (19 + (6 * j + 0)) = nI s ∧ 1 ≤ s ∧ s ≤ 4 ∧ f (19 + (6 * j + 1)) = nI l ∧ 1 ≤ l ∧ l ≤ 99 ∧ f (19 + (6 * j + 2)) = nI q ∧ q ≤ 2 ∧ f (19 + (6 * j + 3)) = nI t ∧ t ≤ 3 ∧ Plc (f (19 + (6 * j + 4))) (f (19 + (6 * j + 5))) s
def IC (f : Nat → Int32) (m c : Nat) : Prop := ∀ j, j < c → ∃ a b l : Nat, f (91 + (3 * j + 0)) = nI a ∧ a < m ∧ f (91 + (3 * j + 1)) = nI b ∧ b < m ∧ f (91 + (3 * j + 2)) = nI l ∧ l ≤ 20
def IF (f : Nat → Int32) (z : Nat) : Prop := ∀ j, j < z → ∃ t a b : Nat, f (121 + (3 * j + 0)) = nI t ∧ f (121 + (3 * j + 1)) = nI a ∧ a ≤ 999 ∧ f (121 + (3 * j + 2)) = nI b ∧ 1 ≤ b ∧ b ≤ 99 ∧ t ≤ 3
def IP (f : Nat → Int32) (m p : Nat) : Prop := ∀ j, j < p → ∃ a q s : Nat, f (139 + (4 * j + 0)) = nI a ∧ a < m ∧ f (139 + (4 * j + 3)) = nI q ∧ q ≤ 2 ∧ f (19 + (6 * a + 0)) = nI s ∧ Plc (f (139 + (4 * j + 1))) (f (139 + (4 * j + 2))) s
def IH (f : Nat → Int32) : Prop := ∃ h : Nat, f 12 = nI h ∧ h ≤ 2000
/-- no two machines share a slot -/
def IO (f : Nat → Int32) (m : Nat) : Prop := ∀ i j, i < m → j < m → i ≠ j → ∀ a x y s t : Nat, f (19 + (6 * i + 4)) = nI a → f (19 + (6 * j + 4)) = nI a → a ≤ 5 → f (19 + (6 * i + 5)) = nI x → f (19 + (6 * j + 5)) = nI y → f (19 + (6 * i + 0)) = nI s → f (19 + (6 * j + 0)) = nI t → x ≤ 10 → y ≤ 10 → s ≤ 4 → t ≤ 4 → x + s ≤ y ∨ y + t ≤ x
section OB2
variable {f : Nat → Int32} {μ : MDS} {m c z p : Nat} {j : Nat}
theorem i121_0 (j : Nat) : (121 : Int32) + 3 * nI j = nI (121 + (3 * j + 0)) := by
  rw [show (3 : Int32) = nI 3 from rfl, show (121 : Int32) = nI 121 from rfl, pk_mul, nI_add]; rfl
theorem i121_1 (j : Nat) : nI (121 + (3 * j + 0)) + 1 = nI (121 + (3 * j + 1)) := by rw [nI_1]; rfl
theorem i121_2 (j : Nat) : nI (121 + (3 * j + 0)) + 2 = nI (121 + (3 * j + 2)) := by rw [show (2 : Int32) = nI 2 from rfl, nI_add]; rfl
theorem loop_flag {Lp : Nat → Int32 → Int32 → Option Int32} (N : Nat) (q : Nat → Bool) (hN : N < 1000)
    (h1 : ∀ n acc, (acc = 0 ∨ acc = 1) → Lp (n + 1) (nI N) acc = some acc) (h2 : ∀ n j, j < N → Lp (n + 1) (nI j) 0 = Lp n (nI (j + 1)) (if q j then 1 else 0)) (h3 : ∀ n j, j < N → Lp (n + 1) (nI j) 1 = Lp n (nI (j + 1)) 1) : Lp FU 0 0 = some (if (firstFrom q 0 N).isSome then 1 else 0) := by
  have k1 : ∀ d j n : Nat, j + d = N → d < n → Lp n (nI j) 1 = some 1 := by
    intro d
    induction d with
    | zero =>
      intro j n hj hn
      obtain ⟨n', rfl⟩ : ∃ n', n = n' + 1 := ⟨n - 1, by omega⟩
      obtain rfl : j = N := by omega
      exact h1 _ _ (Or.inr rfl)
    | succ d ih =>
      intro j n hj hn
      obtain ⟨n', rfl⟩ : ∃ n', n = n' + 1 := ⟨n - 1, by omega⟩
      rw [h3 n' j (by omega)]
      exact ih (j + 1) n' (by omega) (by omega)
  have key : ∀ d j n : Nat, j + d = N → d < n → Lp n (nI j) 0 = some (if (firstFrom q j d).isSome then 1 else 0) := by
    intro d
    induction d with
    | zero =>
      intro j n hj hn
      obtain ⟨n', rfl⟩ : ∃ n', n = n' + 1 := ⟨n - 1, by omega⟩
      obtain rfl : j = N := by omega
      exact h1 _ _ (Or.inl rfl)
    | succ d ih =>
      intro j n hj hn
      obtain ⟨n', rfl⟩ : ∃ n', n = n' + 1 := ⟨n - 1, by omega⟩
      rw [h2 n' j (by omega)]
      unfold firstFrom
      by_cases hq : q j = true
      · rw [if_pos hq, if_pos hq]
        exact k1 d (j + 1) n' (by omega) (by omega)
      · rw [if_neg hq, if_neg hq]
        exact ih (j + 1) n' (by omega) (by omega)
  exact key N 0 FU (by omega) hN
/-- freeze j holds team t now -/
def qF (f : Nat → Int32) (t : Int32) (j : Nat) : Bool := decide (f (121 + (3 * j + 0)) = t ∧ ¬ f 12 < f (121 + (3 * j + 1)) ∧ ¬ f (121 + (3 * j + 1)) + f (121 + (3 * j + 2)) ≤ f 12)
theorem c_isFrozen (h : Cnt f m c z p) (hj : j < m) : FX1_isFrozen (rsOf f) (nI j) = some (if (firstFrom (qF f (f (19 + (6 * j + 3)))) 0 z).isSome then 1 else 0) := by
  have hz := h.lz
  unfold FX1_isFrozen
  rw [rz_nm, h.hm, aM3 h hj, o_b]
  refine (loop_find (K := fun _ => some 0) z (qF f (f (19 + (6 * j + 3)))) (fun _ => some 1) (by omega) (fun n => ?_) (fun n i hi => ?_)).trans ?_
  · rw [FX1_isFrozen_L12, rz_nf, h.hz, if_pos (nI_le (Nat.le_refl _) (by omega))]
  · rw [FX1_isFrozen_L12, rz_nf, h.hz, if_neg (nI_ge hi (by omega)), aF1 h hi, o_b, aF2 h hi, o_b, aF0 h hi, o_b, rz_hour, nI_succ]
    unfold qF
    by_cases h1 : f (121 + (3 * i + 0)) = f (19 + (6 * j + 3)) <;> by_cases h2 : f 12 < f (121 + (3 * i + 1)) <;> by_cases h3 : f (121 + (3 * i + 1)) + f (121 + (3 * i + 2)) ≤ f 12 <;> simp [h1, h2, h3]
  · cases firstFrom (qF f (f (19 + (6 * j + 3)))) 0 z <;> rfl
theorem e_isFrozen (h : Cnt μ.1 m c z p) (hf : IF μ.1 z) (hh : IH μ.1) (hj : j < m) : FX4_isFrozen μ (nI j) = some (if (firstFrom (qF μ.1 (μ.1 (19 + (6 * j + 3)))) 0 z).isSome then 1 else 0) := by
  have hz := h.lz
  have hm := h.lm
  unfold FX4_isFrozen
  refine loop_flag z (qF μ.1 (μ.1 (19 + (6 * j + 3)))) (by omega) (fun n acc ha => ?_) (fun n i hi => ?_) (fun n i hi => ?_)
  · rw [FX4_isFrozen_L4, g15, cl15, h.hz, if_pos (nI_le (Nat.le_refl _) (by omega)), gd_t ha]
  · obtain ⟨t, a, b, e0, e1, ha, e2, hb1, hb, ht⟩ := hf i hi
    obtain ⟨hr, eh, hhr⟩ := hh
    rw [FX4_isFrozen_L4, g15, cl15, h.hz, if_neg (nI_ge hi (by omega)), nmv_eq, i121_0, if_pos rfl, gd_in (by omega) (by omega), nI_clamp (by omega), oM3 (by omega), o_b, g12, cl12, i121_1, gd_in (by omega) (by omega), nI_clamp (by omega), nmv_eq, gd_in2 (by omega) (by omega), nmv_eq, i121_2, gd_in (by omega) (by omega), nI_clamp (by omega), nmv_eq, nI_succ]
    unfold qF FX4_in
    rw [e0, e1, e2, eh]
    by_cases h1 : nI t = μ.1 (19 + (6 * j + 3))
    · rw [if_pos h1]
      by_cases h2 : nI hr < nI a
      · rw [if_pos h2, o_b]; simp [h2]
      · rw [if_neg h2]
        have h2' := mt (nI_ltI (by omega) (by omega)).mpr h2
        by_cases h3 : nI a + nI b ≤ nI hr
        · have h3' := h3
          rw [nI_add, nI_leI (by omega) (by omega)] at h3'
          rw [if_pos (by rw [nI_add]; obtain ⟨k, hk⟩ : ∃ k, a + b = k + 1 := ⟨a + b - 1, by omega⟩
                         rw [hk, nI_pred, nI_ltI (by omega) (by omega)]; omega), o_b]
          simp [h3]
        · have h3' := h3
          rw [nI_add, nI_leI (by omega) (by omega)] at h3'
          rw [if_neg (by rw [nI_add]; obtain ⟨k, hk⟩ : ∃ k, a + b = k + 1 := ⟨a + b - 1, by omega⟩
                         rw [hk, nI_pred, nI_ltI (by omega) (by omega)]; omega), o_b]
          simp [h1, h2, h3]
    · rw [if_neg h1]
      simp [h1]
  · rw [FX4_isFrozen_L4, g15, cl15, h.hz, if_neg (nI_ge hi (by omega)), nmv_eq, i121_0, if_neg (by decide), nI_succ]
theorem c_end (h : Cnt f m c z p) (hc : IC f m c) (hj : j < c) : (∃ a b l : Nat, f (91 + (3 * j + 0)) = nI a ∧ a < m ∧ f (91 + (3 * j + 1)) = nI b ∧ b < m ∧ f (91 + (3 * j + 2)) = nI l ∧ l ≤ 20 ∧ FX1_rackOfEnd (rsOf f) (nI j) 0 = some (f (19 + (6 * a + 4))) ∧ FX1_rackOfEnd (rsOf f) (nI j) 1 = some (f (19 + (6 * b + 4)))) := by
  obtain ⟨a, b, l, e0, ha, e1, hb, e2, hl⟩ := hc j hj
  refine ⟨a, b, l, e0, ha, e1, hb, e2, hl, ?_, ?_⟩
  · unfold FX1_rackOfEnd
    rw [rz_nc, rz_nm, h.hc, h.hm, aC0 h hj, o_b, e0, aM4 h ha]; rfl
  · unfold FX1_rackOfEnd
    rw [rz_nc, rz_nm, h.hc, h.hm, aC1 h hj, o_b, e1, aM4 h hb]; rfl
end OB2

/-! undo: alike -/
def sn (μ : MDS) (f : Nat → Int32) (s : Int32) : MDS := (f, μ.2.1, μ.2.2.1, μ.2.2.2.1, μ.2.2.2.2.1, s, μ.2.2.2.2.2.2.1, μ.2.2.2.2.2.2.2.1, μ.2.2.2.2.2.2.2.2.1, μ.2.2.2.2.2.2.2.2.2.1, μ.2.2.2.2.2.2.2.2.2.2.1, μ.2.2.2.2.2.2.2.2.2.2.2.1, μ.2.2.2.2.2.2.2.2.2.2.2.2)
def cpP (f g : Nat → Int32) (j : Nat) : Nat → Int32 := fun k => if k < j then g k else f k
theorem cpP_s (f g : Nat → Int32) (j : Nat) : upd (cpP f g j) j (g j) = cpP f g (j + 1) := by
  funext k
  unfold upd cpP
  by_cases h : k = j
  · rw [if_pos h, if_pos (by omega), h]
  · rw [if_neg h]
    by_cases h2 : k < j
    · rw [if_pos h2, if_pos (by omega)]
    · rw [if_neg h2, if_neg (by omega)]
theorem cpP_0 (f g : Nat → Int32) : cpP f g 0 = f := by
  funext k
  unfold cpP
  rw [if_neg (by omega)]
theorem cpP_l (f g : Nat → Int32) {x : Nat} (hx : x < 219) : cpP f g 219 x = g x := if_pos hx
theorem l33 (μ : MDS) (f : Nat → Int32) {q : Nat} (hq : q ≤ 3) (K : Int32 → MDS → Option (Int32 × MDS)) : ∀ d j n : Nat, j + d = 219 → d < n → FX4_undo_L33 K n (nI j) (sn μ (cpP f (row μ.2.1 q) j) (nI q)) = K (nI 219) (sn μ (cpP f (row μ.2.1 q) 219) (nI q)) := by
  intro d
  induction d with
  | zero =>
    intro j n hj hn
    obtain ⟨n', rfl⟩ : ∃ n', n = n' + 1 := ⟨n - 1, by omega⟩
    obtain rfl : j = 219 := by omega
    rw [FX4_undo_L33, if_pos (by decide)]
  | succ d ih =>
    intro j n hj hn
    obtain ⟨n', rfl⟩ : ∃ n', n = n' + 1 := ⟨n - 1, by omega⟩
    have e : (219 : Int32) * (sn μ (cpP f (row μ.2.1 q) j) (nI q)).2.2.2.2.2.1 + nI j = nI (219 * q + j) := by
      show (219 : Int32) * nI q + nI j = _
      rw [show (219 : Int32) = nI 219 from rfl, pk_mul, nI_add]
    rw [FX4_undo_L33, if_neg (show ¬ (219 : Int32) ≤ nI j from nI_ge (b := 219) (by omega) (by omega)), nmv_eq, e, gd_in (by omega) (by omega), gd_in (by omega) (by omega), nI_clamp (show j < 2 ^ 31 by omega), nI_clamp (show 219 * q + j < 2 ^ 31 by omega), nmv_eq, ← nI_succ]
    show FX4_undo_L33 K n' (nI (j + 1)) (sn μ (upd (cpP f (row μ.2.1 q) j) j (row μ.2.1 q j)) (nI q)) = _
    rw [cpP_s]
    exact ih (j + 1) n' (by omega) (by omega)
section UNDO
variable {μ : MDS} {θ : Int32} {S0 S1 S2 S3 : RS} {k : Nat}
theorem e_undo (hs : μ.2.2.2.2.2.1 = nI k) (h0 : 0 < k) (hk : k ≤ 4) : FX4_undo μ = some (nI (k - 1), sn (rfz μ 0) (cpP μ.1 (row μ.2.1 (k - 1)) 219) (nI (k - 1))) := by
  unfold FX4_undo FX4_undo_J13
  rw [hs, if_neg (nI_ne0 h0 (by omega)), refd0, o_b, if_pos z00]
  have e : (rfz μ 0).2.2.2.2.2.1 - 1 = nI (k - 1) := by
    show μ.2.2.2.2.2.1 - 1 = _
    rw [hs, show (1 : Int32) = nI 1 from rfl, pk_sub (by omega)]
  have := l33 (rfz μ 0) μ.1 (q := k - 1) (by omega) (fun (y7_1 : Int32) (s7_μ : MDS) => some (s7_μ.2.2.2.2.2.1, s7_μ)) 219 0 FU (by omega) (by decide)
  rw [cpP_0] at this
  rw [e]
  exact this
theorem s_undo (h : SV μ.2.1 θ S0 S1 S2 S3 k) (hs : μ.2.2.2.2.2.1 = nI k) : Chg (FX3_undo θ (rsOf μ.1) S0 S1 S2 S3) (FX4_undo μ) μ cds := by
  obtain ⟨rfl, hk, z0, z1, z2, z3, hr⟩ := h
  by_cases h0 : k = 0
  · subst h0
    unfold FX3_undo FX4_undo FX4_undo_J13
    rw [if_neg (by decide), hs, if_pos (show nI 0 = 0 from rfl), refd1, o_b, if_neg n10]
    exact Or.inl ⟨3, 0, rfl, by decide, rfl⟩
  · rw [e_undo hs (by omega) hk]
    obtain ⟨r1, r2⟩ := hr (k - 1) (by omega)
    have key : ∃ S0' S1' S2' S3', FX3_undo (nI k) (rsOf μ.1) S0 S1 S2 S3 = some (.inr (nI (k - 1), nI (k - 1), sv S0 S1 S2 S3 (k - 1), S0', S1', S2', S3')) ∧ Zr S0' ∧ Zr S1' ∧ Zr S2' ∧ Zr S3' ∧ ∀ i, i < k - 1 → sv S0' S1' S2' S3' i = sv S0 S1 S2 S3 i := by
      have zr := zr_rsOf μ.1
      unfold FX3_undo
      rcases (show k = 1 ∨ k = 2 ∨ k = 3 ∨ k = 4 by omega) with rfl | rfl | rfl | rfl
      · exact ⟨rsOf μ.1, S1, S2, S3, rfl, zr, z1, z2, z3, fun i hi => absurd hi (by omega)⟩
      · refine ⟨S0, rsOf μ.1, S2, S3, rfl, z0, zr, z2, z3, fun i hi => ?_⟩
        obtain rfl : i = 0 := by omega
        rfl
      · refine ⟨S0, S1, rsOf μ.1, S3, rfl, z0, z1, zr, z3, fun i hi => ?_⟩
        rcases (show i = 0 ∨ i = 1 by omega) with rfl | rfl <;> rfl
      · refine ⟨S0, S1, S2, rsOf μ.1, rfl, z0, z1, z2, zr, fun i hi => ?_⟩
        rcases (show i = 0 ∨ i = 1 ∨ i = 2 by omega) with rfl | rfl | rfl <;> rfl
    obtain ⟨S0', S1', S2', S3', e1, a0, a1, a2, a3, e2⟩ := key
    have ex : ∀ x, x < 219 → row μ.2.1 (k - 1) x = cpP μ.1 (row μ.2.1 (k - 1)) 219 x := fun x hx => (cpP_l _ _ hx).symm
    refine Or.inr ⟨nI (k - 1), nI (k - 1), S0', S1', S2', S3', sn (rfz μ 0) (cpP μ.1 (row μ.2.1 (k - 1)) 219) (nI (k - 1)), k - 1, ?_, rfl, ⟨rfl, rfl, rfl⟩, inv_ext ex r2, ⟨rfl, by omega, a0, a1, a2, a3, fun i hi => ?_⟩, rfl⟩
    · rw [e1, r1, rs_ext ex]; rfl
    · obtain ⟨b1, b2⟩ := hr i (by omega)
      exact ⟨(e2 i hi).trans b1, b2⟩
end UNDO

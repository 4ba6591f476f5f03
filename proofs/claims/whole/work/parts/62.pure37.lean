/-! the plan's text: how the model reads a part -/
abbrev pz (μ : MDS) (F A : Nat → Int32) (i : Nat) (so wo wh : Int32) : MDS := (F, μ.2.1, A, μ.2.2.2.1, μ.2.2.2.2.1, μ.2.2.2.2.2.1, 0, μ.2.2.2.2.2.2.2.1, nI i, so, wo, wh, μ.2.2.2.2.2.2.2.2.2.2.2.2)
section MR
variable {μ : MDS} {F A : Nat → Int32} {L m i : Nat} {so wo wh : Int32}
theorem e_isAt (hl : μ.2.2.2.2.2.2.2.1 = nI L) (hL : L ≤ 90) (hi : i < 900) {lo hi' : Int32} (h0 : -1 < lo) : FX4_isAt (pz μ F A i so wo wh) lo hi' = some (if ¬ bt μ.2.2.2.2.1 L i < lo ∧ ¬ hi' < bt μ.2.2.2.2.1 L i then 1 else 0) := by
  unfold FX4_isAt FX4_in bt
  rw [hl]
  by_cases hk : i < L
  · rw [if_neg (nI_ge hk (by omega)), gd_in (by omega) (by omega), nI_clamp (by omega), nmv_eq, if_pos hk]
    by_cases h1 : μ.2.2.2.2.1 i < lo
    · rw [if_pos h1, o_b, if_pos z00, if_neg (fun q => q.1 h1)]
    · rw [if_neg h1]
      by_cases h2 : hi' < μ.2.2.2.2.1 i
      · rw [if_pos h2, o_b, if_pos z00, if_neg (fun q => q.2 h2)]
      · rw [if_neg h2, o_b, if_neg n10, if_pos ⟨h1, h2⟩]
  · rw [if_pos (nI_le (by omega) (by omega)), if_neg hk, if_neg (fun q => q.1 h0)]
theorem e_isC (hl : μ.2.2.2.2.2.2.2.1 = nI L) (hL : L ≤ 90) (hi : i < 900) {c : Int32} (h0 : -1 < c) : FX4_isAt (pz μ F A i so wo wh) c c = some (if bt μ.2.2.2.2.1 L i = c then 1 else 0) := by
  rw [e_isAt hl hL hi h0]
  by_cases h : bt μ.2.2.2.2.1 L i = c
  · rw [if_pos h, h, if_pos ⟨Int32.lt_irrefl, Int32.lt_irrefl⟩]
  · rw [if_neg h, if_neg]
    rintro ⟨h1, h2⟩
    exact h (Int32.le_antisymm (Int32.not_lt.mp h2) (Int32.not_lt.mp h1))
theorem e_isD (hl : μ.2.2.2.2.2.2.2.1 = nI L) (hL : L ≤ 90) (hi : i < 900) (G : Nat) : FX4_isAt (pz μ F A i so wo wh) 48 (nI (48 + G)) = some (if dg (bt μ.2.2.2.2.1 L i) G = true then 1 else 0) := by
  rw [e_isAt hl hL hi (by decide)]
  unfold dg
  by_cases h : ¬ bt μ.2.2.2.2.1 L i < 48 ∧ ¬ nI (48 + G) < bt μ.2.2.2.2.1 L i
  · rw [if_pos h, if_pos (decide_eq_true_iff.mpr ⟨h.1, Int32.not_lt.mp h.2⟩)]
  · rw [if_neg h, if_neg (fun q => h ⟨(decide_eq_true_iff.mp q).1, Int32.not_lt.mpr (decide_eq_true_iff.mp q).2⟩)]
theorem e_takesY (hl : μ.2.2.2.2.2.2.2.1 = nI L) (hL : L ≤ 90) (hi : i < 900) {c : Int32} (h0 : -1 < c) (h : bt μ.2.2.2.2.1 L i = c) : FX4_takes (pz μ F A i so wo wh) c = some (1, pz μ F A (i + 1) so wo wh) := by
  unfold FX4_takes
  rw [e_isC hl hL hi h0, if_pos h, o_b, if_neg n10, gd_t (Or.inr rfl), ← nI_succ]
theorem e_takesN (hl : μ.2.2.2.2.2.2.2.1 = nI L) (hL : L ≤ 90) (hi : i < 900) {c : Int32} (h0 : -1 < c) (h : ¬ bt μ.2.2.2.2.1 L i = c) : FX4_takes (pz μ F A i so wo wh) c = some (0, pz μ F A i so wo wh) := by
  unfold FX4_takes
  rw [e_isC hl hL hi h0, if_neg h, o_b, if_pos z00, gd_t (Or.inl rfl), Int32.add_zero]
theorem e_isMach (hF : F 13 = nI m) (hm : m ≤ 12) {v : Nat} (hv : v < 1000) : FX4_isMachine (pz μ F A i so wo wh) (nI v) = some (if nI m ≤ nI v then 0 else 1) := by
  unfold FX4_isMachine
  rw [g13, cl13, show (pz μ F A i so wo wh).1 13 = nI m from hF, nmv_eq]
  rcases in_cnt (nI v) (n := m) (by omega) with ⟨h1, h2⟩ | ⟨j, hj, e, h1⟩
  · rw [h1, o_b, gd_t (Or.inl rfl)]
    rcases h2 with h2 | h2
    · exact absurd h2 (nI_pos (by omega))
    · rw [if_pos h2]
  · rw [h1, o_b, gd_t (Or.inr rfl), e, if_neg (nI_ge hj (by omega))]
theorem bt_in {T : Nat → Int32} {k G : Nat} (hG : G < 1000) (h : dg (bt T L k) G = true) : k < L ∧ T k = bt T L k := by
  obtain ⟨d, hd, e⟩ := (dg_iff hG).mp h
  have hk : k < L := bt_lt (by rw [e]; exact nI_nm1 (by omega))
  exact ⟨hk, (if_pos hk).symm⟩
theorem tm_loop (hl : μ.2.2.2.2.2.2.2.1 = nI L) (hL : L ≤ 90) (hi : i < 800) (K : MDS → Option (Int32 × MDS)) : FX4_takesMachine_L10 (pz μ F A i so wo wh) K FU (pz μ F A i so 0 wh) = K (if dg (bt μ.2.2.2.2.1 L i) 9 = true then (if dg (bt μ.2.2.2.2.1 L (i + 1)) 9 = true then pz μ F A (i + 2) so (10 * (bt μ.2.2.2.2.1 L i - 48) + bt μ.2.2.2.2.1 L (i + 1) - 48) wh else pz μ F A (i + 1) so (bt μ.2.2.2.2.1 L i - 48) wh) else pz μ F A i so 0 wh) := by
  have d : ∀ (k : Nat) (w : Int32), k < 900 → FX4_isAt (pz μ F A k so w wh) 48 57 = some (if dg (bt μ.2.2.2.2.1 L k) 9 = true then 1 else 0) := fun k w hk => e_isD hl hL hk 9
  have e2 : nI i + 2 = nI (i + 2) := nI_add i 2
  rw [show FU = 997 + 1 + 1 + 1 from rfl, FX4_takesMachine_L10, d i 0 (by omega), o_b]
  by_cases h1 : dg (bt μ.2.2.2.2.1 L i) 9 = true
  · obtain ⟨k1, t1⟩ := bt_in (by omega) h1
    rw [if_pos h1, if_neg n10, if_pos h1, e2, if_neg (nI_ge (by omega) (by omega)), nmv_eq, gd_in (by omega) (by omega), nI_clamp (by omega), nmv_eq, nmv_eq, t1, ← nI_succ, show (10 : Int32) * 0 = 0 from rfl, Int32.zero_add]
    rw [FX4_takesMachine_L10, d (i + 1) _ (by omega), o_b]
    by_cases h2 : dg (bt μ.2.2.2.2.1 L (i + 1)) 9 = true
    · obtain ⟨k2, t2⟩ := bt_in (by omega) h2
      rw [if_pos h2, if_neg n10, if_pos h2, e2, if_neg (nI_ge (by omega) (by omega)), nmv_eq, gd_in (by omega) (by omega), nI_clamp (by omega), nmv_eq, nmv_eq, t2, ← nI_succ]
      rw [FX4_takesMachine_L10, d (i + 1 + 1) _ (by omega), o_b]
      by_cases h3 : dg (bt μ.2.2.2.2.1 L (i + 1 + 1)) 9 = true
      · rw [if_pos h3, if_neg n10, e2, if_pos (nI_le (by omega) (by omega))]
      · rw [if_neg h3, if_pos z00]
    · rw [if_neg h2, if_pos z00, if_neg h2]
  · rw [if_neg h1, if_pos z00, if_neg h1]
theorem e_rdN (hl : μ.2.2.2.2.2.2.2.1 = nI L) (hL : L ≤ 90) (hi : i < 800) (hF : F 13 = nI m) (hm : m ≤ 12) : (∀ e, rdN μ.2.2.2.2.1 L m i = .inl e → ∃ w', FX4_takesMachine (pz μ F A i so wo wh) = some (0, pz μ F A e so w' wh)) ∧ (∀ q w, rdN μ.2.2.2.2.1 L m i = .inr (q, w) → FX4_takesMachine (pz μ F A i so wo wh) = some (1, pz μ F A q so w wh)) := by
  have d : ∀ (k : Nat) (w : Int32), k < 900 → FX4_isAt (pz μ F A k so w wh) 48 57 = some (if dg (bt μ.2.2.2.2.1 L k) 9 = true then 1 else 0) := fun k w hk => e_isD hl hL hk 9
  unfold FX4_takesMachine rdN
  rw [tm_loop hl hL hi]
  by_cases h1 : dg (bt μ.2.2.2.2.1 L i) 9 = true
  · obtain ⟨x, hx, ex⟩ := (dg_iff (by omega)).mp h1
    rw [if_pos h1, if_pos h1]
    by_cases h2 : dg (bt μ.2.2.2.2.1 L (i + 1)) 9 = true
    · obtain ⟨y, hy, ey⟩ := (dg_iff (by omega)).mp h2
      have ew : 10 * (bt μ.2.2.2.2.1 L i - 48) + bt μ.2.2.2.2.1 L (i + 1) - 48 = nI (10 * x + y) := by
        rw [dg_sub ex, ey, show (10 : Int32) = nI 10 from rfl, show (48 : Int32) = nI 48 from rfl, pk_mul, nI_add, pk_sub (by omega)]
        congr 1
        omega
      rw [if_pos h2, if_pos h2, ew, if_neg (show ¬ nI (i + 2) = nI i from fun e => by have := nI_inj e (by omega) (by omega); omega), d (i + 2) _ (by omega), o_b]
      by_cases h3 : dg (bt μ.2.2.2.2.1 L (i + 2)) 9 = true
      · rw [if_pos h3, if_pos h3, if_neg n10]
        exact ⟨fun e h => (by cases h; exact ⟨_, rfl⟩), fun q w h => (by cases h)⟩
      · rw [if_neg h3, if_neg h3, if_pos z00, e_isMach hF hm (by omega), o_b]
        by_cases h4 : nI m ≤ nI (10 * x + y)
        · rw [if_pos h4, if_pos h4, if_pos z00, gd_t (Or.inl rfl)]
          exact ⟨fun e h => (by cases h; exact ⟨_, rfl⟩), fun q w h => (by cases h)⟩
        · rw [if_neg h4, if_neg h4, if_neg n10, gd_t (Or.inr rfl)]
          exact ⟨fun e h => (by cases h), fun q w h => (by cases h; rfl)⟩
    · rw [if_neg h2, if_neg h2, dg_sub ex, if_neg (show ¬ nI (i + 1) = nI i from fun e => by have := nI_inj e (by omega) (by omega); omega), d (i + 1) _ (by omega), o_b, if_neg h2, if_pos z00, e_isMach hF hm (by omega), o_b]
      by_cases h4 : nI m ≤ nI x
      · rw [if_pos h4, if_pos h4, if_pos z00, gd_t (Or.inl rfl)]
        exact ⟨fun e h => (by cases h; exact ⟨_, rfl⟩), fun q w h => (by cases h)⟩
      · rw [if_neg h4, if_neg h4, if_neg n10, gd_t (Or.inr rfl)]
        exact ⟨fun e h => (by cases h), fun q w h => (by cases h; rfl)⟩
  · rw [if_neg h1, if_neg h1, if_pos rfl]
    exact ⟨fun e h => (by cases h; exact ⟨_, rfl⟩), fun q w h => (by cases h)⟩
/-- a semicolon, at the end -/
theorem e_semi (hl : μ.2.2.2.2.2.2.2.1 = nI L) (hL : L ≤ 90) (hi : i < 800) : (FX4_takes (pz μ F A i so wo wh) (59 : Int32)).bind (fun z => gd (z.1 = 0 ∨ z.1 = 1) (some (z.1, z.2))) = if bt μ.2.2.2.2.1 L i = 59 then some (1, pz μ F A (i + 1) so wo wh) else some (0, pz μ F A i so wo wh) := by
  by_cases h : bt μ.2.2.2.2.1 L i = 59
  · rw [if_pos h, e_takesY hl hL (by omega) (by decide) h, o_b, gd_t (Or.inr rfl)]
  · rw [if_neg h, e_takesN hl hL (by omega) (by decide) h, o_b, gd_t (Or.inl rfl)]
theorem e_j124 (hl : μ.2.2.2.2.2.2.2.1 = nI L) (hL : L ≤ 90) (hi : i < 700) (G : Nat) (hG : G < 1000) : FX4_reads_J124 (pz μ F A i so wo wh) (nI (48 + G)) 48 = if dg (bt μ.2.2.2.2.1 L i) G = true then (if bt μ.2.2.2.2.1 L (i + 1) = 59 then some (1, pz μ F A (i + 2) so wo (bt μ.2.2.2.2.1 L i - 48)) else some (0, pz μ F A (i + 1) so wo (bt μ.2.2.2.2.1 L i - 48))) else some (0, pz μ F A i so wo wh) := by
  unfold FX4_reads_J124
  rw [e_isD hl hL (by omega) G, o_b]
  by_cases h : dg (bt μ.2.2.2.2.1 L i) G = true
  · obtain ⟨k1, t1⟩ := bt_in hG h
    rw [if_pos h, if_neg n10, if_pos h, gd_in (by omega) (by omega), nI_clamp (by omega), nmv_eq, nmv_eq, t1, ← nI_succ]
    exact e_semi (i := i + 1) hl hL (by omega)
  · rw [if_neg h, if_pos z00, if_neg h]
end MR

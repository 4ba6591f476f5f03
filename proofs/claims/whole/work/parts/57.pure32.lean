/-! bestChange, backable: alike -/
def Ask0 (A : Option (Int32 × RS)) (B : Option (Int32 × MDS)) (μ : MDS) : Prop := ∃ v F K, A = some (v, rsOf μ.1) ∧ B = some (v, kz μ F K) ∧ Al F μ.1
section BC
variable {f g : Nat → Int32} {μ : MDS} {m c z p : Nat} {j : Nat} {θ : Int32}
theorem gd3_ext (h : ∀ k, 19 ≤ k → k < 91 → f k = g k) (lm : m ≤ 12) : gd3 f m = gd3 g m := by
  have e : ∀ x y : Int32, sumTo (gl f x y) m = sumTo (gl g x y) m := fun x y => sum_ext m (fun i hi => gl_ext h (by omega))
  unfold gd3
  rw [e, e, e]
theorem cnt_upd {i : Nat} {v : Int32} (h : Cnt f m c z p) (hi : 19 ≤ i) : Cnt (upd f i v) m c z p := by
  obtain ⟨a, b, d, e, r⟩ := h
  exact ⟨(upd_ne _ _ (by omega)).trans a, (upd_ne _ _ (by omega)).trans b, (upd_ne _ _ (by omega)).trans d, (upd_ne _ _ (by omega)).trans e, r⟩
theorem upd_upd (f : Nat → Int32) (i : Nat) (x y : Int32) : upd (upd f i x) i y = upd f i y := by
  funext k
  by_cases h : k = i
  · rw [h, upd_at, upd_at]
  · rw [upd_ne _ _ h, upd_ne _ _ h, upd_ne _ _ h]
theorem c_diffWith (h : Cnt f m c z p) (hj : j < m) (x : Int32) : FX1_differenceWith (rsOf f) (nI j) x = some (gd3 (upd f (19 + (6 * j + 2)) x) m, rsOf f) := by
  have lm := h.lm
  have P : ∀ (T : Nat → Int32) (v : Int32), FX2_put (12 : Int32) (6 : Int32) 72 (nI m, T) (nI j) (2 : Int32) v = some (nI m, upd T (6 * j + 2) v) := fun T v => put_k (C := 6) (c := 2) hj (by omega) (by omega) (by omega) (by omega) (by omega)
  have e := rs_M f (i := 6 * j + 2) x (by omega)
  have hd : FX1_difference (upd (rsOf f).1 (6 * j + 2) x, (rsOf f).2.1, (rsOf f).2.2.1, (rsOf f).2.2.2.1, (rsOf f).2.2.2.2) = some (gd3 (upd f (19 + (6 * j + 2)) x) m) := by
    rw [← e]
    exact c_difference (cnt_upd h (by omega))
  have hd' : FX1_difference (upd (rsOf f).1 (6 * j + 2) x, (rsOf f).2.1, (rsOf f).2.2.1, (rsOf f).2.2.2.1, (rsOf f).2.2.2.2.1, (rsOf f).2.2.2.2.2.1, nI m, (rsOf f).2.2.2.2.2.2.2.1, (rsOf f).2.2.2.2.2.2.2.2.1, (rsOf f).2.2.2.2.2.2.2.2.2.1, (rsOf f).2.2.2.2.2.2.2.2.2.2.1, (rsOf f).2.2.2.2.2.2.2.2.2.2.2.1, (rsOf f).2.2.2.2.2.2.2.2.2.2.2.2.1, (rsOf f).2.2.2.2.2.2.2.2.2.2.2.2.2) = some (gd3 (upd f (19 + (6 * j + 2)) x) m) := by
    rw [← h.hm]
    exact hd
  have old : f (19 + (6 * j + 2)) = (rsOf f).1 (6 * j + 2) := (if_pos (show 6 * j + 2 < 72 by omega)).symm
  unfold FX1_differenceWith
  rw [rz_nm, h.hm, aM2 h hj, o_b, P, o_b, hd', o_b, P, o_b, upd_upd, old, upd_self, ← h.hm]
  rfl
/-- one candidate on both sides -/
theorem bc_step (hI : In μ.1 m c z p) (hj : j < m) {q : Nat} (hq : q < 3) {K : Nat → Int32} (hK : Al K μ.1) {F : Nat → Int32} (hF : Al F μ.1) (K1 : Int32 → Int32 → Int32 → RS → Option (Int32 × RS)) (n1 n2 : Nat) (least best : Int32) : ∃ least' best' F', Al F' μ.1 ∧ FX3_bestChange_L29 (nI j) K1 (n1 + 1) (nI q) least best (rsOf μ.1) = FX3_bestChange_L29 (nI j) K1 n1 (nI (q + 1)) least' best' (rsOf μ.1) ∧ FX4_bestChange_L25 (fun (y6_3 : Int32) (y6_2 : Int32) (y6_1 : Int32) (s6_μ : MDS) => some (y6_1, s6_μ)) (n2 + 1) (nI (3 * j + q)) least best (kz μ F K) = FX4_bestChange_L25 (fun (y6_3 : Int32) (y6_2 : Int32) (y6_1 : Int32) (s6_μ : MDS) => some (y6_1, s6_μ)) n2 (nI (3 * j + q + 1)) least' best' (kz μ F' K) := by
  have lm := hI.1.lm
  have hIF : In F m c z p := in_ext hF.symm hI
  have hst := ch_sim (μ := kz μ F K) hIF hj (x := nI q) ⟨q, rfl, by omega⟩
  have er : rsOf (kz μ F K).1 = rsOf μ.1 := rs_ext hF
  have b13 : (kz μ F K).1 13 = nI m := hIF.1.hm
  have n3 : ¬ (3 : Int32) ≤ nI q := nI_ge (b := 3) hq (by omega)
  have e3 : (3 : Int32) * nI m = nI (3 * m) := by rw [show (3 : Int32) = nI 3 from rfl, pk_mul]
  have e3j : (3 : Int32) * nI j + nI q = nI (3 * j + q) := by rw [show (3 : Int32) = nI 3 from rfl, pk_mul, nI_add]
  have ed : nI (3 * j + q) / (3 : Int32) = nI j := by
    rw [show (3 : Int32) = nI 3 from rfl, pk_div (by omega) (by omega) (by omega)]
    congr 1
    omega
  have ek : nI (3 * j + q) - nI j * (3 : Int32) = nI q := by
    rw [show (3 : Int32) = nI 3 from rfl, pk_mul, pk_sub (by omega)]
    congr 1
    omega
  rw [er] at hst
  unfold StepA at hst
  rw [er] at hst
  by_cases c1 : least ≤ gd3 (upd μ.1 (19 + (6 * j + 2)) (nI q)) m
  · rcases hst with ⟨n, w1, w2, w3, w4⟩ | ⟨g, p', w1, w2, w3, w6, w5⟩
    · have nz : ¬ nI n = 0 := nI_ne0 (by omega) (by omega)
      refine ⟨least, best, cpP F K 219, (al_cp _ _).trans hK, ?_, ?_⟩
      · rw [FX3_bestChange_L29, if_neg n3, c_diffWith hI.1 hj, o_b, if_pos c1, nI_succ]
      · rw [FX4_bestChange_L25, g13, cl13, b13, nmv_eq, e3, if_neg (nI_ge (by omega) (by omega)), ed, ek, nmv_eq, w2, o_b, if_neg nz, e_difference (μ := kz μ F K) hIF.1 hIF.2.1, o_b, e_copies, o_b, if_pos z00, nI_succ]
        rfl
    · have eg : FX4_difference (s1 (kz μ F K) g) = some (gd3 (upd μ.1 (19 + (6 * j + 2)) (nI q)) m) := by
        rw [e_difference (μ := s1 (kz μ F K) g) w5.1 w5.2.1]
        refine congrArg some (gd3_ext (fun k k1 k2 => ?_) lm)
        show g k = _
        rw [w6, puR_o _ _ _ _ _ (by omega) (by omega) (by omega)]
        show plc F j (F (19 + (6 * j + 4))) (F (19 + (6 * j + 5))) (nI q) k = _
        rw [plc_q]
        by_cases hk : k = 19 + (6 * j + 2)
        · rw [hk, upd_at, upd_at]
        · rw [upd_ne _ _ hk, upd_ne _ _ hk, hF k (by omega)]
      refine ⟨least, best, cpP g K 219, (al_cp _ _).trans hK, ?_, ?_⟩
      · rw [FX3_bestChange_L29, if_neg n3, c_diffWith hI.1 hj, o_b, if_pos c1, nI_succ]
      · rw [FX4_bestChange_L25, g13, cl13, b13, nmv_eq, e3, if_neg (nI_ge (by omega) (by omega)), ed, ek, nmv_eq, w3, o_b, if_pos z00, eg, o_b, e_copies, o_b, if_neg n10, if_pos c1, nI_succ]
        rfl
  · rcases hst with ⟨n, w1, w2, w3, w4⟩ | ⟨g, p', w1, w2, w3, w6, w5⟩
    · have nz : ¬ nI n = 0 := nI_ne0 (by omega) (by omega)
      refine ⟨least, best, cpP F K 219, (al_cp _ _).trans hK, ?_, ?_⟩
      · rw [FX3_bestChange_L29, if_neg n3, c_diffWith hI.1 hj, o_b, if_neg c1, w1, o_b, if_neg nz, nI_succ]
      · rw [FX4_bestChange_L25, g13, cl13, b13, nmv_eq, e3, if_neg (nI_ge (by omega) (by omega)), ed, ek, nmv_eq, w2, o_b, if_neg nz, e_difference (μ := kz μ F K) hIF.1 hIF.2.1, o_b, e_copies, o_b, if_pos z00, nI_succ]
        rfl
    · have eg : FX4_difference (s1 (kz μ F K) g) = some (gd3 (upd μ.1 (19 + (6 * j + 2)) (nI q)) m) := by
        rw [e_difference (μ := s1 (kz μ F K) g) w5.1 w5.2.1]
        refine congrArg some (gd3_ext (fun k k1 k2 => ?_) lm)
        show g k = _
        rw [w6, puR_o _ _ _ _ _ (by omega) (by omega) (by omega)]
        show plc F j (F (19 + (6 * j + 4))) (F (19 + (6 * j + 5))) (nI q) k = _
        rw [plc_q]
        by_cases hk : k = 19 + (6 * j + 2)
        · rw [hk, upd_at, upd_at]
        · rw [upd_ne _ _ hk, upd_ne _ _ hk, hF k (by omega)]
      refine ⟨gd3 (upd μ.1 (19 + (6 * j + 2)) (nI q)) m, nI (3 * j + q), cpP g K 219, (al_cp _ _).trans hK, ?_, ?_⟩
      · rw [FX3_bestChange_L29, if_neg n3, c_diffWith hI.1 hj, o_b, if_neg c1, w1, o_b, if_pos z00, e3j, nI_succ]
      · rw [FX4_bestChange_L25, g13, cl13, b13, nmv_eq, e3, if_neg (nI_ge (by omega) (by omega)), ed, ek, nmv_eq, w3, o_b, if_pos z00, eg, o_b, e_copies, o_b, if_neg n10, if_neg c1, nI_succ]
        rfl
theorem bc_loop (hI : In μ.1 m c z p) {K : Nat → Int32} (hK : Al K μ.1) : ∀ (d j n1 n2 : Nat) (F : Nat → Int32) (least best : Int32), j + d = m → d < n1 → 3 * d < n2 → Al F μ.1 → ∃ v F', Al F' μ.1 ∧ FX3_bestChange_L12 (fun (y4_3 : Int32) (y4_2 : Int32) (y4_1 : Int32) (s4_ρ : RS) => some (y4_1, s4_ρ)) n1 (nI j) least best (rsOf μ.1) = some (v, rsOf μ.1) ∧ FX4_bestChange_L25 (fun (y6_3 : Int32) (y6_2 : Int32) (y6_1 : Int32) (s6_μ : MDS) => some (y6_1, s6_μ)) n2 (nI (3 * j)) least best (kz μ F K) = some (v, kz μ F' K) := by
  have lm := hI.1.lm
  intro d
  induction d with
  | zero =>
    intro j n1 n2 F least best hb h1 h2 hF
    obtain ⟨n1', rfl⟩ : ∃ n', n1 = n' + 1 := ⟨n1 - 1, by omega⟩
    obtain ⟨n2', rfl⟩ : ∃ n', n2 = n' + 1 := ⟨n2 - 1, by omega⟩
    obtain rfl : j = m := by omega
    have b13 : (kz μ F K).1 13 = nI j := (hF 13 (by omega)).trans hI.1.hm
    have e3 : (3 : Int32) * nI j = nI (3 * j) := by rw [show (3 : Int32) = nI 3 from rfl, pk_mul]
    refine ⟨best, F, hF, ?_, ?_⟩
    · rw [FX3_bestChange_L12, rz_nm, hI.1.hm, if_pos (nI_le (Nat.le_refl _) (by omega))]
    · rw [FX4_bestChange_L25, g13, cl13, b13, nmv_eq, e3, if_pos (nI_le (Nat.le_refl _) (by omega))]
  | succ d ih =>
    intro j n1 n2 F least best hb h1 h2 hF
    obtain ⟨n1', rfl⟩ : ∃ n', n1 = n' + 1 := ⟨n1 - 1, by omega⟩
    obtain ⟨n2', rfl⟩ : ∃ n', n2 = n' + 1 + 1 + 1 := ⟨n2 - 3, by omega⟩
    obtain ⟨l1, b1, F1, f1, a1, c1⟩ := bc_step hI (show j < m by omega) (q := 0) (by omega) hK hF (fun (y7_4 : Int32) (y7_2 : Int32) (y7_1 : Int32) (s7_ρ : RS) => FX3_bestChange_L12 (fun (y4_3 : Int32) (y4_2 : Int32) (y4_1 : Int32) (s4_ρ : RS) => some (y4_1, s4_ρ)) n1' (nI j + 1) y7_2 y7_1 s7_ρ) 999 (n2' + 1 + 1) least best
    obtain ⟨l2, b2, F2, f2, a2, c2⟩ := bc_step hI (show j < m by omega) (q := 1) (by omega) hK f1 (fun (y7_4 : Int32) (y7_2 : Int32) (y7_1 : Int32) (s7_ρ : RS) => FX3_bestChange_L12 (fun (y4_3 : Int32) (y4_2 : Int32) (y4_1 : Int32) (s4_ρ : RS) => some (y4_1, s4_ρ)) n1' (nI j + 1) y7_2 y7_1 s7_ρ) 998 (n2' + 1) l1 b1
    obtain ⟨l3, b3, F3, f3, a3, c3⟩ := bc_step hI (show j < m by omega) (q := 2) (by omega) hK f2 (fun (y7_4 : Int32) (y7_2 : Int32) (y7_1 : Int32) (s7_ρ : RS) => FX3_bestChange_L12 (fun (y4_3 : Int32) (y4_2 : Int32) (y4_1 : Int32) (s4_ρ : RS) => some (y4_1, s4_ρ)) n1' (nI j + 1) y7_2 y7_1 s7_ρ) 997 n2' l2 b2
    obtain ⟨v, F', q1, q2, q3⟩ := ih (j + 1) n1' n2' F3 l3 b3 (by omega) (by omega) (by omega) f3
    refine ⟨v, F', q1, ?_, ?_⟩
    · rw [FX3_bestChange_L12, rz_nm, hI.1.hm, if_neg (nI_ge (by omega) (by omega))]
      refine a1.trans (a2.trans (a3.trans ?_))
      show FX3_bestChange_L29 (nI j) _ (996 + 1) (nI 3) l3 b3 (rsOf μ.1) = _
      rw [FX3_bestChange_L29, if_pos (show (3 : Int32) ≤ nI 3 by decide), ← nI_succ]
      exact q2
    · refine c1.trans (c2.trans (c3.trans ?_))
      rw [show 3 * j + 2 + 1 = 3 * (j + 1) by omega]
      exact q3
theorem s_bestChange (hI : In μ.1 m c z p) : Ask0 (FX3_bestChange θ (rsOf μ.1)) (FX4_bestChange μ) μ := by
  have lm := hI.1.lm
  have hd := e_difference (μ := kz μ μ.1 μ.2.2.2.1) hI.1 hI.2.1
  have hd' : FX4_difference (μ.1, μ.2.1, μ.2.2.1, μ.2.2.2.1, μ.2.2.2.2.1, μ.2.2.2.2.2.1, (0 : Int32), μ.2.2.2.2.2.2.2.1, μ.2.2.2.2.2.2.2.2.1, μ.2.2.2.2.2.2.2.2.2.1, μ.2.2.2.2.2.2.2.2.2.2.1, μ.2.2.2.2.2.2.2.2.2.2.2.1, μ.2.2.2.2.2.2.2.2.2.2.2.2) = some (gd3 μ.1 m) := hd
  obtain ⟨v, F', q1, q2, q3⟩ := bc_loop hI (al_cp μ.2.2.2.1 μ.1) m 0 FU FU μ.1 (gd3 μ.1 m) (-1) (by omega) (by show m < 1000; omega) (by show 3 * m < 1000; omega) (fun k hk => rfl)
  unfold FX3_bestChange FX4_bestChange
  rw [c_difference hI.1, o_b, hd', o_b, e_copies, o_b]
  exact ⟨v, F', cpP μ.2.2.2.1 μ.1 219, q2, q3, q1⟩
theorem ba_loop {K : Nat → Int32} : ∀ (q i n1 n2 : Nat) (F : Nat → Int32), In F m c z q → i + q ≤ 20 → 20 - i < n1 → q < n2 → ∃ v G F', FX3_backable_L13 (fun (y4_1 : Int32) (s4_π : RS) => some (y4_1, s4_π)) n1 (nI i) (rsOf F) = some (v, rsOf G) ∧ FX4_backable_L18 (fun (y4_1 : Int32) (s4_μ : MDS) => (FX4_copies 219 219 s4_μ.1 s4_μ.2.2.2.1).bind fun z8 => some (y4_1, (z8, s4_μ.2.1, s4_μ.2.2.1, s4_μ.2.2.2.1, s4_μ.2.2.2.2.1, s4_μ.2.2.2.2.2.1, s4_μ.2.2.2.2.2.2.1, s4_μ.2.2.2.2.2.2.2.1, s4_μ.2.2.2.2.2.2.2.2.1, s4_μ.2.2.2.2.2.2.2.2.2.1, s4_μ.2.2.2.2.2.2.2.2.2.2.1, s4_μ.2.2.2.2.2.2.2.2.2.2.2.1, s4_μ.2.2.2.2.2.2.2.2.2.2.2.2))) n2 (nI i) (kz μ F K) = some (v, kz μ (cpP F' K 219) K) := by
  intro q
  induction q with
  | zero =>
    intro i n1 n2 F hI hq h1 h2
    obtain ⟨n1', rfl⟩ : ∃ n', n1 = n' + 1 := ⟨n1 - 1, by omega⟩
    obtain ⟨n2', rfl⟩ : ∃ n', n2 = n' + 1 := ⟨n2 - 1, by omega⟩
    rcases bk_sim (μ := kz μ F K) hI with ⟨n, w1, w2, w3, w4⟩ | ⟨g, w1, w2, w3, w6, w5⟩
    · have nz : ¬ nI n = 0 := nI_ne0 (by omega) (by omega)
      refine ⟨nI i, F, F, ?_, ?_⟩
      · rw [FX3_backable_L13]
        by_cases h20 : (20 : Int32) ≤ nI i
        · rw [if_pos h20]
        · have w1' : FX1_whyNotBackOut (rsOf F) = some (nI n, rsOf F) := w1
          rw [if_neg h20, w1', o_b, if_neg nz]
      · rw [FX4_backable_L18, w2, o_b, if_neg nz, e_copies, o_b]
        rfl
    · omega
  | succ q ih =>
    intro i n1 n2 F hI hq h1 h2
    obtain ⟨n1', rfl⟩ : ∃ n', n1 = n' + 1 := ⟨n1 - 1, by omega⟩
    obtain ⟨n2', rfl⟩ : ∃ n', n2 = n' + 1 := ⟨n2 - 1, by omega⟩
    have h20 : ¬ (20 : Int32) ≤ nI i := nI_ge (b := 20) (by omega) (by omega)
    rcases bk_sim (μ := kz μ F K) hI with ⟨n, w1, w2, w3, w4⟩ | ⟨g, w1, w2, w3, w6, w5⟩
    · have nz : ¬ nI n = 0 := nI_ne0 (by omega) (by omega)
      have w1' : FX1_whyNotBackOut (rsOf F) = some (nI n, rsOf F) := w1
      refine ⟨nI i, F, F, ?_, ?_⟩
      · rw [FX3_backable_L13, if_neg h20, w1', o_b, if_neg nz]
      · rw [FX4_backable_L18, w2, o_b, if_neg nz, e_copies, o_b]
        rfl
    · have w1' : FX1_whyNotBackOut (rsOf F) = some (0, rsOf F) := w1
      have w2' : FX1_doBackOut (rsOf F) = some (rsOf g) := w2
      obtain ⟨v, G, F', q1, q2⟩ := ih (i + 1) n1' n2' g w5 (by omega) (by omega) (by omega)
      refine ⟨v, G, F', ?_, ?_⟩
      · rw [FX3_backable_L13, if_neg h20, w1', o_b, if_pos z00, w2', o_b, ← nI_succ]
        exact q1
      · rw [FX4_backable_L18, w3, o_b, if_pos z00, ← nI_succ]
        exact q2
theorem s_backable (hI : In μ.1 m c z p) {π : RS} (hπ : Zr π) : ∃ v F K π', FX3_backable θ (rsOf μ.1) π = some (v, π') ∧ Zr π' ∧ FX4_backable μ = some (v, kz μ F K) ∧ Al F μ.1 := by
  have lp := hI.1.lp
  unfold FX3_backable FX4_backable
  rw [rcopy hπ (zr_rsOf _), o_b, e_copies, o_b]
  obtain ⟨v, G, F', q1, q2⟩ := ba_loop (μ := μ) (K := cpP μ.2.2.2.1 μ.1 219) p 0 FU FU μ.1 hI (by omega) (by decide) (by show p < 1000; omega)
  exact ⟨v, cpP F' (cpP μ.2.2.2.1 μ.1 219) 219, cpP μ.2.2.2.1 μ.1 219, rsOf G, q1, zr_rsOf G, q2, (al_cp _ _).trans (al_cp _ _)⟩
end BC

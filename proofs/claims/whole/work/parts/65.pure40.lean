/-! a plan done: alike -/
section PL3
variable {μ : MDS} {F A : Nat → Int32} {L m c z p : Nat} {θ : Int32}
theorem in_12 {f : Nat → Int32} {h : Nat} (hI : In f m c z p) (hh : h ≤ 2000) : In (upd f 12 (nI h)) m c z p := by
  obtain ⟨hC, hM, hc, hF, hP, hH, hO⟩ := hI
  have l1 := hC.lm
  have l2 := hC.lc
  have l3 := hC.lz
  have l4 := hC.lp
  have o : ∀ k, k ≠ 12 → f k = upd f 12 (nI h) k := fun k hk => (upd_ne _ _ hk).symm
  refine ⟨?_, im_ext (fun k h1 h2 => o k (by omega)) l1 hM, ic_ext (fun k h1 h2 => o k (by omega)) l2 hc, if_ext (fun k h1 h2 => o k (by omega)) l3 hF, fun j hj => ?_, ⟨h, upd_at _ _ _, hh⟩, io_ext (j := 0) (fun k h1 h2 _ => o k (by omega)) l1 hO⟩
  · obtain ⟨a, b, d, e, r⟩ := hC
    exact ⟨(o _ (by omega)).symm.trans a, (o _ (by omega)).symm.trans b, (o _ (by omega)).symm.trans d, (o _ (by omega)).symm.trans e, r⟩
  · obtain ⟨a, q, s, e1, e2, e3, e4, e5, e6⟩ := hP j hj
    exact ⟨a, q, s, (o _ (by omega)).symm.trans e1, e2, (o _ (by omega)).symm.trans e3, e4, (o _ (by omega)).symm.trans e5, by rw [← o (139 + (4 * j + 1)) (by omega), ← o (139 + (4 * j + 2)) (by omega)]; exact e6⟩
theorem why_neg {a b : Nat} (ha : a ≤ 1000) (hb : b ≤ 1000) : (-1000 : Int32) - 10 * nI a - nI b < 0 := by
  have e : (10 : Int32) * nI a = nI (10 * a) := by rw [show (10 : Int32) = nI 10 from rfl, pk_mul]
  have e1 : ((-1000 : Int32) - nI (10 * a)).toInt = -1000 - ((10 * a : Nat) : Int) := by
    rw [Int32.toInt_sub, nI_toInt (by omega), show (-1000 : Int32).toInt = -1000 from by decide, Int.bmod_eq_of_le (by omega) (by omega)]
  rw [e, Int32.lt_iff_toInt_lt, Int32.toInt_sub, e1, nI_toInt (by omega), show (0 : Int32).toInt = 0 from rfl, Int.bmod_eq_of_le (by omega) (by omega)]
  omega
theorem ph2 (hl : μ.2.2.2.2.2.2.2.1 = nI L) (hL : L ≤ 90) {P : Nat → Int32} {N q0 : Nat} {v0 : Int32} (hN : N ≤ 45) (KM : Int32 → MDS → Option (Int32 × MDS)) : ∀ (l : List (Nat × Int32 × Int32)) (k i cnt p : Nat) (F : Nat → Int32) (so wo wh : Int32) (f1 f2 : Nat), Prs μ.2.2.2.2.1 L m l i → Tab P l k → k + l.length = N → In F m c z p → cnt ≤ k → i ≤ 90 → l.length < f1 → l.length < f2 →
    (∃ v ρ' F' i' a b d, FX0_runIn_L4 (tx μ.2.2.2.2.1 P L q0 v0 N) (fun (y2_3 : Int32) (y2_2 : Int32) (s2_ρ : RS) => some (y2_2, s2_ρ)) f1 (nI k) (nI cnt) (rsOf F) = some (v, ρ') ∧ v < 0 ∧ Zr ρ' ∧ FX4_plan_L54 KM f2 (nI cnt) (pz μ F A i so wo wh) = some (v, pz μ (cpP F' A 219) A i' a b d)) ∨
    (∃ n G p' i' a b d, n ≤ 45 ∧ FX0_runIn_L4 (tx μ.2.2.2.2.1 P L q0 v0 N) (fun (y2_3 : Int32) (y2_2 : Int32) (s2_ρ : RS) => some (y2_2, s2_ρ)) f1 (nI k) (nI cnt) (rsOf F) = some (nI n, rsOf G) ∧ In G m c z p' ∧ FX4_plan_L54 KM f2 (nI cnt) (pz μ F A i so wo wh) = KM (nI n) (pz μ G A i' a b d)) := by
  have aT : ∀ k q : Nat, k < N → q < 3 → FX2_at (45 : Int32) (3 : Int32) 135 (nI N, P) (nI k) (nI q) = some (P (3 * k + q)) := fun k q hk hq => by
    rw [show (3 : Int32) = nI 3 from rfl, at_gen hk hq (by omega) (by omega) (by omega) (by omega), Nat.mul_comm]
  intro l
  induction l with
  | nil =>
    intro k i cnt p F so wo wh f1 f2 hP hT hk hI hc hi9 h1 h2
    obtain ⟨f1', rfl⟩ : ∃ n', f1 = n' + 1 := ⟨f1 - 1, by omega⟩
    obtain ⟨f2', rfl⟩ : ∃ n', f2 = n' + 1 := ⟨f2 - 1, by omega⟩
    have hk' : k = N := hk
    have hiL : L ≤ i := hP
    refine Or.inr ⟨cnt, F, p, i, so, wo, wh, by omega, ?_, hI, ?_⟩
    · rw [FX0_runIn_L4]
      show (if nI N ≤ nI k then _ else _) = _
      rw [if_pos (nI_le (by omega) (by omega))]
    · rw [FX4_plan_L54]
      show (if μ.2.2.2.2.2.2.2.1 ≤ nI i then _ else _) = _
      rw [hl, if_pos (nI_le hiL (by omega))]
  | cons r l ih =>
    intro k i cnt p F so wo wh f1 f2 hP hT hk hI hc hi9 h1 h2
    obtain ⟨s, w, xt⟩ := r
    obtain ⟨hiL, q, e1', hP'⟩ := hP
    obtain ⟨t1', t2', hT'⟩ := hT
    have t1 : P (3 * k + 0) = kb s := t1'
    have t2 : s ≠ 0 → P (3 * k + 1) = w ∧ P (3 * k + 2) = xt := t2'
    have e1 : rdP μ.2.2.2.2.1 L m i = .inr (q, s, w, xt) := e1'
    clear t1' t2' e1'
    have hk' : k + (l.length + 1) = N := hk
    have h1' : l.length + 1 < f1 := h1
    have h2' : l.length + 1 < f2 := h2
    obtain ⟨f1', rfl⟩ : ∃ n', f1 = n' + 1 := ⟨f1 - 1, by omega⟩
    obtain ⟨f2', rfl⟩ : ∃ n', f2 = n' + 1 := ⟨f2 - 1, by omega⟩
    have lm := hI.1.lm
    obtain ⟨-, b2⟩ := e_reads (F := F) (A := A) (so := so) (wo := wo) (wh := wh) (i := i) hl hL (by omega) hI.1.hm lm
    obtain ⟨k1, k2, k3⟩ := rdP_ok lm e1
    obtain ⟨wb, xb, d1, d2⟩ := b2 q s w xt e1
    have a0 : FX2_at (45 : Int32) (3 : Int32) 135 (nI N, P) (nI k) (0 : Int32) = some (kb s) := by
      rw [← t1]; exact aT k 0 (by omega) (by omega)
    rcases k3 with rfl | ⟨rfl, ⟨j, hj, rfl⟩, hx⟩ | ⟨rfl, ⟨j, hj, rfl⟩, hx⟩
    · obtain ⟨hr, eh, hhr⟩ := hI.2.2.2.2.2.1
      have c1 : FX0_runIn_L4 (tx μ.2.2.2.2.1 P L q0 v0 N) (fun (y2_3 : Int32) (y2_2 : Int32) (s2_ρ : RS) => some (y2_2, s2_ρ)) (f1' + 1) (nI k) (nI cnt) (rsOf F) = if hr < 2000 then FX0_runIn_L4 (tx μ.2.2.2.2.1 P L q0 v0 N) (fun (y2_3 : Int32) (y2_2 : Int32) (s2_ρ : RS) => some (y2_2, s2_ρ)) f1' (nI (k + 1)) (nI cnt) (rsOf (upd F 12 (nI (hr + 1)))) else some (-9999, rsOf F) := by
        rw [FX0_runIn_L4]
        show (if nI N ≤ nI k then _ else _) = _
        rw [if_neg (nI_ge (by omega) (by omega)), a0, o_b, if_pos (show kb 0 = 104 from rfl), rz_hour, eh]
        by_cases hh : hr < 2000
        · rw [if_pos (show nI hr < 2000 from nI_lt (b := 2000) hh (by omega)), if_pos hh, nmv_eq, rs_hr, ← nI_succ, ← nI_succ]
          rfl
        · rw [if_neg (show ¬ nI hr < 2000 from nI_nlt (b := 2000) (by omega) (by omega)), if_neg hh]
      have b12 : (pz μ F A q (nI 0) wb xb).1 12 = nI hr := eh
      have c2 : FX4_plan_L54 KM (f2' + 1) (nI cnt) (pz μ F A i so wo wh) = if hr < 2000 then FX4_plan_L54 KM f2' (nI cnt) (pz μ (upd F 12 (nI (hr + 1))) A q (nI 0) wb xb) else some (-9999, pz μ (cpP (upd F 12 (nI (hr + 1))) A 219) A q (nI 0) wb xb) := by
        rw [FX4_plan_L54]
        show (if μ.2.2.2.2.2.2.2.1 ≤ nI i then _ else _) = _
        rw [hl, if_neg (nI_ge hiL (by omega)), d1, o_b, if_pos (show nI 0 = 0 from rfl), g12, cl12, b12, nmv_eq, gd_t (show ¬ ((12 : Int32) < 0 ∨ 219 ≤ 12) by decide), nmv_eq, gd_t (show ¬ ((12 : Int32) < 0 ∨ 219 ≤ 12) by decide), upd_at, ← nI_succ]
        by_cases hh : hr < 2000
        · rw [if_pos (show nI (hr + 1) ≤ 2000 from nI_le (b := 2000) (by omega) (by omega)), if_pos hh, if_pos (show (0 : Int32) ≤ 0 by decide), if_pos (show nI 0 = 0 from rfl), Int32.add_zero]
        · rw [if_neg (show ¬ nI (hr + 1) ≤ 2000 from nI_ge (a := 2000) (by omega) (by omega)), if_neg hh, e_copies, o_b]
      rw [c1, c2]
      by_cases hh : hr < 2000
      · rw [if_pos hh, if_pos hh]
        exact ih (k + 1) q cnt p _ _ _ _ f1' f2' hP' hT' (by omega) (in_12 hI (by omega)) (by omega) (by omega) (by omega) (by omega)
      · rw [if_neg hh, if_neg hh]
        exact Or.inl ⟨-9999, rsOf F, _, q, _, _, _, rfl, by decide, zr_rsOf F, rfl⟩
    · obtain ⟨d3, d4⟩ := d2 (by decide)
      rw [d3, d4] at d1
      obtain ⟨t3, t4⟩ := t2 (by decide)
      have a1 : FX2_at (45 : Int32) (3 : Int32) 135 (nI N, P) (nI k) (1 : Int32) = some (nI j) := by
        rw [← t3]; exact aT k 1 (by omega) (by omega)
      have a2 : FX2_at (45 : Int32) (3 : Int32) 135 (nI N, P) (nI k) (2 : Int32) = some xt := by
        rw [← t4]; exact aT k 2 (by omega) (by omega)
      obtain ⟨s', hst⟩ := mv_sim (μ := pz μ F A q (nI 1) (nI j) xt) hI hj hx
      rcases hst with ⟨n, w1, w2, w3, w4⟩ | ⟨g, p', w1, w2, w3, -, w5⟩
      · have nz : ¬ nI n = 0 := nI_ne0 (by omega) (by omega)
        refine Or.inl ⟨-1000 - 10 * nI cnt - nI n, rsOf F, F, q, nI 1, nI j, xt, ?_, why_neg (by omega) (by omega), zr_rsOf F, ?_⟩
        · rw [FX0_runIn_L4]
          show (if nI N ≤ nI k then _ else _) = _
          rw [if_neg (nI_ge (by omega) (by omega)), a0, o_b, if_neg (show ¬ kb 1 = 104 by decide), a1, o_b, a2, o_b, if_pos (show kb 1 = 109 from rfl), if_neg n10, w1, o_b, if_neg nz, nmv_eq]
        · rw [FX4_plan_L54]
          show (if μ.2.2.2.2.2.2.2.1 ≤ nI i then _ else _) = _
          rw [hl, if_neg (nI_ge hiL (by omega)), d1, o_b, if_neg (show ¬ nI 1 = 0 by decide), if_pos (show nI 1 = 1 from rfl), w2, o_b, if_neg (nI_nle (by omega) (by omega)), e_copies, o_b, nmv_eq]
      · have w3' : FX4_moves (pz μ F A q (nI 1) (nI j) xt) (nI j) xt = some (0, pz μ g A q (nI 1) (nI j) xt) := w3
        have c1 : FX0_runIn_L4 (tx μ.2.2.2.2.1 P L q0 v0 N) (fun (y2_3 : Int32) (y2_2 : Int32) (s2_ρ : RS) => some (y2_2, s2_ρ)) (f1' + 1) (nI k) (nI cnt) (rsOf F) = FX0_runIn_L4 (tx μ.2.2.2.2.1 P L q0 v0 N) (fun (y2_3 : Int32) (y2_2 : Int32) (s2_ρ : RS) => some (y2_2, s2_ρ)) f1' (nI (k + 1)) (nI (cnt + 1)) (rsOf g) := by
          rw [FX0_runIn_L4]
          show (if nI N ≤ nI k then _ else _) = _
          rw [if_neg (nI_ge (by omega) (by omega)), a0, o_b, if_neg (show ¬ kb 1 = 104 by decide), a1, o_b, a2, o_b, if_pos (show kb 1 = 109 from rfl), if_neg n10, w1, o_b, if_pos z00, if_neg n10, w2, o_b, ← nI_succ, ← nI_succ]
        have c2 : FX4_plan_L54 KM (f2' + 1) (nI cnt) (pz μ F A i so wo wh) = FX4_plan_L54 KM f2' (nI (cnt + 1)) (pz μ g A q (nI 1) (nI j) xt) := by
          rw [FX4_plan_L54]
          show (if μ.2.2.2.2.2.2.2.1 ≤ nI i then _ else _) = _
          rw [hl, if_neg (nI_ge hiL (by omega)), d1, o_b, if_neg (show ¬ nI 1 = 0 by decide), if_pos (show nI 1 = 1 from rfl), w3', o_b, if_pos (show (0 : Int32) ≤ 0 by decide), if_neg (show ¬ nI 1 = 0 by decide), ← nI_succ]
        rw [c1, c2]
        exact ih (k + 1) q (cnt + 1) p' g _ _ _ f1' f2' hP' hT' (by omega) w5 (by omega) (by omega) (by omega) (by omega)
    · obtain ⟨d3, d4⟩ := d2 (by decide)
      rw [d3, d4] at d1
      obtain ⟨t3, t4⟩ := t2 (by decide)
      have a1 : FX2_at (45 : Int32) (3 : Int32) 135 (nI N, P) (nI k) (1 : Int32) = some (nI j) := by
        rw [← t3]; exact aT k 1 (by omega) (by omega)
      have a2 : FX2_at (45 : Int32) (3 : Int32) 135 (nI N, P) (nI k) (2 : Int32) = some xt := by
        rw [← t4]; exact aT k 2 (by omega) (by omega)
      have hst := ch_sim (μ := pz μ F A q (nI 2) (nI j) xt) hI hj hx
      rcases hst with ⟨n, w1, w2, w3, w4⟩ | ⟨g, p', w1, w2, w3, -, w5⟩
      · have nz : ¬ nI n = 0 := nI_ne0 (by omega) (by omega)
        refine Or.inl ⟨-1000 - 10 * nI cnt - nI n, rsOf F, F, q, nI 2, nI j, xt, ?_, why_neg (by omega) (by omega), zr_rsOf F, ?_⟩
        · rw [FX0_runIn_L4]
          show (if nI N ≤ nI k then _ else _) = _
          rw [if_neg (nI_ge (by omega) (by omega)), a0, o_b, if_neg (show ¬ kb 2 = 104 by decide), a1, o_b, a2, o_b, if_neg (show ¬ kb 2 = 109 by decide), if_pos z00, w1, o_b, if_neg nz, nmv_eq]
        · rw [FX4_plan_L54]
          show (if μ.2.2.2.2.2.2.2.1 ≤ nI i then _ else _) = _
          rw [hl, if_neg (nI_ge hiL (by omega)), d1, o_b, if_neg (show ¬ nI 2 = 0 by decide), if_neg (show ¬ nI 2 = 1 by decide), w2, o_b, if_neg (nI_nle (by omega) (by omega)), e_copies, o_b, nmv_eq]
      · have w3' : FX4_changes (pz μ F A q (nI 2) (nI j) xt) (nI j) xt = some (0, pz μ g A q (nI 2) (nI j) xt) := w3
        have c1 : FX0_runIn_L4 (tx μ.2.2.2.2.1 P L q0 v0 N) (fun (y2_3 : Int32) (y2_2 : Int32) (s2_ρ : RS) => some (y2_2, s2_ρ)) (f1' + 1) (nI k) (nI cnt) (rsOf F) = FX0_runIn_L4 (tx μ.2.2.2.2.1 P L q0 v0 N) (fun (y2_3 : Int32) (y2_2 : Int32) (s2_ρ : RS) => some (y2_2, s2_ρ)) f1' (nI (k + 1)) (nI (cnt + 1)) (rsOf g) := by
          rw [FX0_runIn_L4]
          show (if nI N ≤ nI k then _ else _) = _
          rw [if_neg (nI_ge (by omega) (by omega)), a0, o_b, if_neg (show ¬ kb 2 = 104 by decide), a1, o_b, a2, o_b, if_neg (show ¬ kb 2 = 109 by decide), if_pos z00, w1, o_b, if_pos z00, if_pos z00, w2, o_b, ← nI_succ, ← nI_succ]
        have c2 : FX4_plan_L54 KM (f2' + 1) (nI cnt) (pz μ F A i so wo wh) = FX4_plan_L54 KM f2' (nI (cnt + 1)) (pz μ g A q (nI 2) (nI j) xt) := by
          rw [FX4_plan_L54]
          show (if μ.2.2.2.2.2.2.2.1 ≤ nI i then _ else _) = _
          rw [hl, if_neg (nI_ge hiL (by omega)), d1, o_b, if_neg (show ¬ nI 2 = 0 by decide), if_neg (show ¬ nI 2 = 1 by decide), w3', o_b, if_pos (show (0 : Int32) ≤ 0 by decide), if_neg (show ¬ nI 2 = 0 by decide), ← nI_succ]
        rw [c1, c2]
        exact ih (k + 1) q (cnt + 1) p' g _ _ _ f1' f2' hP' hT' (by omega) w5 (by omega) (by omega) (by omega) (by omega)
end PL3

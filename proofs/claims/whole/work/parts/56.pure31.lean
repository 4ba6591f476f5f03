/-! mayMove, bestRack: alike -/
def Ask (A : Option (Nat ⊕ (Int32 × RS))) (B : Option (Int32 × MDS)) (μ : MDS) (cd : Nat → Int32) : Prop := (∃ k w, A = some (.inl k) ∧ ¬ cd k = 0 ∧ B = some (w, rfz μ (cd k))) ∨ ∃ v F K, A = some (.inr (v, rsOf μ.1)) ∧ B = some (v, kz μ F K) ∧ Al F μ.1
def accTo (h : Int32 → Nat → Int32) : Nat → Int32
  | 0 => 0
  | n + 1 => h (accTo h n) n
theorem loop_acc {Lp : Nat → Int32 → Int32 → Option Int32} (N : Nat) (h : Int32 → Nat → Int32) (hN : N < 1000)
    (h1 : ∀ n acc, Lp (n + 1) (nI N) acc = some acc) (h2 : ∀ n j acc, j < N → Lp (n + 1) (nI j) acc = Lp n (nI (j + 1)) (h acc j)) : Lp FU 0 0 = some (accTo h N) := by
  have key : ∀ d j n : Nat, j + d = N → d < n → Lp n (nI j) (accTo h j) = some (accTo h N) := by
    intro d
    induction d with
    | zero =>
      intro j n hj hn
      obtain ⟨n', rfl⟩ : ∃ n', n = n' + 1 := ⟨n - 1, by omega⟩
      obtain rfl : j = N := by omega
      exact h1 _ _
    | succ d ih =>
      intro j n hj hn
      obtain ⟨n', rfl⟩ : ∃ n', n = n' + 1 := ⟨n - 1, by omega⟩
      rw [h2 n' j _ (by omega)]
      exact ih (j + 1) n' (by omega) (by omega)
  exact key N 0 FU (by omega) hN
theorem acc_ext {h h' : Int32 → Nat → Int32} : ∀ N : Nat, (∀ a y, y < N → h a y = h' a y) → accTo h N = accTo h' N := by
  intro N
  induction N with
  | zero => intro _; rfl
  | succ N ih =>
    intro e
    show h (accTo h N) N = h' (accTo h' N) N
    rw [ih (fun a y hy => e a y (by omega)), e _ N (by omega)]
theorem sum_upd {g g' : Nat → Int32} {j : Nat} : ∀ N : Nat, j < N → (∀ i, i < N → i ≠ j → g' i = g i) → sumTo g' N = sumTo g N - g j + g' j := by
  intro N
  induction N with
  | zero => intro h; omega
  | succ N ih =>
    intro hj h
    show sumTo g' N + g' N = sumTo g N + g N - g j + g' j
    by_cases e : j = N
    · subst e
      rw [sum_ext j (fun y hy => h y (by omega) (by omega)), Int32.add_sub_cancel]
    · rw [ih (by omega) (fun i hi hne => h i (by omega) hne), h N (by omega) (fun q => e q.symm)]
      simp only [Int32.sub_eq_add_neg]
      ac_rfl
section BR
variable {f g : Nat → Int32} {μ : MDS} {m c z p : Nat} {j : Nat} {θ : Int32}
theorem gl_r (f : Nat → Int32) {e : Nat} (he : e < 2 ^ 31) (i : Nat) : gl f (nI e) (-1) i = if f (19 + (6 * i + 4)) = nI e then f (19 + (6 * i + 1)) else 0 := by
  have n1 : ¬ nI e = -1 := nI_nm1 he
  unfold gl
  by_cases h1 : f (19 + (6 * i + 4)) = nI e
  · rw [h1, if_neg n1, if_pos ⟨Or.inr rfl, Or.inl rfl⟩, if_pos rfl]
  · rw [if_neg h1]
    by_cases h2 : f (19 + (6 * i + 4)) = -1
    · rw [if_pos h2]
    · rw [if_neg h2, if_neg]
      rintro ⟨h | h, -⟩
      · exact n1 h
      · exact h1 h
theorem gl_ext {x y : Int32} (h : ∀ k, 19 ≤ k → k < 91 → f k = g k) {i : Nat} (hi : i < 12) : gl f x y i = gl g x y i := by
  unfold gl
  rw [h _ (by omega) (by omega), h (19 + (6 * i + 2)) (by omega) (by omega), h (19 + (6 * i + 1)) (by omega) (by omega)]
/-- the greater one -/
def mxI (a v : Int32) : Int32 := if a < v then v else a
/-- the load of rack e if machine j stood in rack b -/
def ldW (f : Nat → Int32) (m j b e : Nat) : Int32 := sumTo (gl f (nI e) (-1)) m - (if f (19 + (6 * j + 4)) = nI e then f (19 + (6 * j + 1)) else 0) + (if nI b = nI e then f (19 + (6 * j + 1)) else 0)
theorem ld_plc (lm : m ≤ 12) (hj : j < m) {b e : Nat} (he : e < 2 ^ 31) (s q : Int32) : sumTo (gl (plc f j (nI b) s q) (nI e) (-1)) m = ldW f m j b e := by
  rw [sum_upd (g := gl f (nI e) (-1)) m hj (fun i hi hne => ?_), gl_r _ he, gl_r _ he, plc_4, plc_o _ _ _ _ _ (by omega) (by omega) (by omega)]
  · rfl
  · rw [gl_r _ he, gl_r _ he, plc_o _ _ _ _ _ (by omega) (by omega) (by omega), plc_o _ _ _ _ _ (by omega) (by omega) (by omega)]
theorem c_fullest (h : Cnt f m c z p) (hj : j < m) {b : Nat} (hb : b < 2 ^ 31) : FX1_fullestLoadWith (rsOf f) (nI j) (nI b) = some (accTo (fun a e => mxI a (ldW f m j b e)) 6) := by
  unfold FX1_fullestLoadWith
  rw [rz_nm, h.hm, aM1 h hj, o_b]
  refine loop_acc 6 (fun a e => mxI a (ldW f m j b e)) (by omega) (fun n acc => ?_) (fun n e acc he => ?_)
  · rw [FX1_fullestLoadWith_L16, if_pos (by decide)]
  · rw [FX1_fullestLoadWith_L16, if_neg (show ¬ (6 : Int32) ≤ nI e from nI_ge (b := 6) he (by omega)), c_loadOfRack h (nI_nm1 (by omega)), o_b, stands h hj, o_b, nI_succ]
    unfold ldW mxI
    by_cases h1 : f (19 + (6 * j + 4)) = nI e
    · rw [if_pos h1, if_neg n10, if_pos h1]
      by_cases h2 : nI e = nI b
      · rw [if_pos h2, if_pos h2.symm, nmv_eq]
      · rw [if_neg h2, if_neg (show ¬ nI b = nI e from fun q => h2 q.symm), nmv_eq, Int32.add_zero]
    · rw [if_neg h1, if_pos z00, if_neg h1]
      by_cases h2 : nI e = nI b
      · rw [if_pos h2, if_pos h2.symm, nmv_eq, Int32.sub_zero]
      · rw [if_neg h2, if_neg (show ¬ nI b = nI e from fun q => h2 q.symm), Int32.sub_zero, Int32.add_zero]
theorem e_fullest (h : Cnt μ.1 m c z p) : FX4_fullest μ = some (accTo (fun a e => mxI a (sumTo (gl μ.1 (nI e) (-1)) m)) 6) := by
  unfold FX4_fullest
  refine loop_acc 6 (fun a e => mxI a (sumTo (gl μ.1 (nI e) (-1)) m)) (by omega) (fun n acc => ?_) (fun n e acc he => ?_)
  · rw [FX4_fullest_L4, if_pos (by decide)]
  · rw [FX4_fullest_L4, if_neg (show ¬ (6 : Int32) ≤ nI e from nI_ge (b := 6) he (by omega)), e_load h, o_b, nI_succ]
    unfold mxI
    by_cases h1 : sumTo (gl μ.1 (nI e) (-1)) m ≤ acc
    · rw [if_pos h1, if_neg (Int32.not_lt.mpr h1)]
    · rw [if_neg h1, if_pos (Int32.not_le.mp h1)]
theorem s_mayMove (hI : In μ.1 m c z p) (x y : Int32) : Ask (FX3_mayMove θ (rsOf μ.1) x y) (FX4_mayMove μ x y) μ cd12 := by
  unfold FX3_mayMove FX4_mayMove
  rcases mach_chk (θ := θ) hI.1 x with ⟨h1, h2⟩ | ⟨a, ha, rfl, h1, h2⟩
  · unfold FX4_mayMove_J25
    rw [h1, h2, bX_l, o_b, if_pos z00, refd1, o_b, if_neg n10]
    exact Or.inl ⟨1, 0, rfl, by decide, rfl⟩
  · rw [h1, h2, bX_r, o_b, if_neg n10]
    rcases place_chk y with ⟨g1, g2⟩ | ⟨g1, g2, g3⟩
    · unfold FX4_mayMove_J25
      rw [g1, g2, bX_l, o_b, if_pos z00, refd2, o_b, if_neg n10]
      exact Or.inl ⟨2, 0, rfl, by decide, rfl⟩
    · have al := al_cp μ.2.2.2.1 μ.1
      obtain ⟨s, hst⟩ := mv_sim (μ := kz μ μ.1 (cpP μ.2.2.2.1 μ.1 219)) hI ha g3
      unfold FX4_mayMove_J25
      rw [g1, g2, bX_r, o_b, if_neg n10, refd0, o_b, if_pos z00, e_copies, o_b]
      rcases hst with ⟨n, w1, w2, w3, w4⟩ | ⟨g, p', w1, w2, w3, -, w5⟩
      · have w1' : FX1_whyNotMove (rsOf μ.1) (nI a) y = some (nI n, rsOf μ.1) := w1
        have w2' : FX4_moves ((rfz μ 0).1, (rfz μ 0).2.1, (rfz μ 0).2.2.1, cpP (rfz μ 0).2.2.2.1 (rfz μ 0).1 219, (rfz μ 0).2.2.2.2.1, (rfz μ 0).2.2.2.2.2.1, (rfz μ 0).2.2.2.2.2.2.1, (rfz μ 0).2.2.2.2.2.2.2.1, (rfz μ 0).2.2.2.2.2.2.2.2.1, (rfz μ 0).2.2.2.2.2.2.2.2.2.1, (rfz μ 0).2.2.2.2.2.2.2.2.2.2.1, (rfz μ 0).2.2.2.2.2.2.2.2.2.2.2.1, (rfz μ 0).2.2.2.2.2.2.2.2.2.2.2.2) (nI a) y = some (nI n, kz μ μ.1 (cpP μ.2.2.2.1 μ.1 219)) := w2
        rw [w1', o_b, w2', o_b, e_copies, o_b]
        exact Or.inr ⟨nI n, cpP μ.1 (cpP μ.2.2.2.1 μ.1 219) 219, cpP μ.2.2.2.1 μ.1 219, rfl, rfl, (al_cp _ _).trans al⟩
      · have w1' : FX1_whyNotMove (rsOf μ.1) (nI a) y = some (0, rsOf μ.1) := w1
        have w3' : FX4_moves ((rfz μ 0).1, (rfz μ 0).2.1, (rfz μ 0).2.2.1, cpP (rfz μ 0).2.2.2.1 (rfz μ 0).1 219, (rfz μ 0).2.2.2.2.1, (rfz μ 0).2.2.2.2.2.1, (rfz μ 0).2.2.2.2.2.2.1, (rfz μ 0).2.2.2.2.2.2.2.1, (rfz μ 0).2.2.2.2.2.2.2.2.1, (rfz μ 0).2.2.2.2.2.2.2.2.2.1, (rfz μ 0).2.2.2.2.2.2.2.2.2.2.1, (rfz μ 0).2.2.2.2.2.2.2.2.2.2.2.1, (rfz μ 0).2.2.2.2.2.2.2.2.2.2.2.2) (nI a) y = some (0, kz μ g (cpP μ.2.2.2.1 μ.1 219)) := w3
        rw [w1', o_b, w3', o_b, e_copies, o_b]
        exact Or.inr ⟨0, cpP g (cpP μ.2.2.2.1 μ.1 219) 219, cpP μ.2.2.2.1 μ.1 219, rfl, rfl, (al_cp _ _).trans al⟩
theorem br_loop (hI : In μ.1 m c z p) (hj : j < m) {K : Nat → Int32} (hK : Al K μ.1) : ∀ (d b n1 n2 : Nat) (F : Nat → Int32) (least best : Int32), b + d = 6 → d < n1 → d < n2 → Al F μ.1 → ∃ v F', Al F' μ.1 ∧ FX3_bestRack_L12 (nI j) (fun (y4_4 : Int32) (y4_3 : Int32) (y4_2 : Int32) (s4_ρ : RS) => some (.inr (y4_2, s4_ρ))) n1 (nI b) least best (rsOf μ.1) = some (.inr (v, rsOf μ.1)) ∧ FX4_bestRack_L40 (nI j) (fun (y11_4 : Int32) (y11_3 : Int32) (y11_2 : Int32) (s11_μ : MDS) => some (y11_2, s11_μ)) n2 (nI b) least best (kz μ F K) = some (v, kz μ F' K) := by
  intro d
  induction d with
  | zero =>
    intro b n1 n2 F least best hb h1 h2 hF
    obtain ⟨n1', rfl⟩ : ∃ n', n1 = n' + 1 := ⟨n1 - 1, by omega⟩
    obtain ⟨n2', rfl⟩ : ∃ n', n2 = n' + 1 := ⟨n2 - 1, by omega⟩
    obtain rfl : b = 6 := by omega
    refine ⟨best, F, hF, ?_, ?_⟩
    · rw [FX3_bestRack_L12, if_pos (by decide)]
    · rw [FX4_bestRack_L40, if_pos (by decide)]
  | succ d ih =>
    intro b n1 n2 F least best hb h1 h2 hF
    obtain ⟨n1', rfl⟩ : ∃ n', n1 = n' + 1 := ⟨n1 - 1, by omega⟩
    obtain ⟨n2', rfl⟩ : ∃ n', n2 = n' + 1 := ⟨n2 - 1, by omega⟩
    have lm := hI.1.lm
    have hIF : In F m c z p := in_ext hF.symm hI
    have n6 : ¬ (6 : Int32) ≤ nI b := nI_ge (b := 6) (by omega) (by omega)
    obtain ⟨s, hst⟩ := mv_sim (μ := kz μ F K) hIF hj (Or.inr ⟨b, rfl, by omega⟩)
    have er : rsOf (kz μ F K).1 = rsOf μ.1 := rs_ext hF
    rw [er] at hst
    unfold StepA at hst
    rw [er] at hst
    rcases hst with ⟨n, w1, w2, w3, w4⟩ | ⟨g, p', w1, w2, w3, w6, w5⟩
    · have nz : ¬ nI n = 0 := nI_ne0 (by omega) (by omega)
      obtain ⟨v, F', q1, q2, q3⟩ := ih (b + 1) n1' n2' (cpP F K 219) least best (by omega) (by omega) (by omega) ((al_cp _ _).trans hK)
      refine ⟨v, F', q1, ?_, ?_⟩
      · rw [FX3_bestRack_L12, if_neg n6, w1, o_b, if_neg nz, ← nI_succ]
        exact q2
      · rw [FX4_bestRack_L40, if_neg n6, w2, o_b, if_neg nz, e_fullest (μ := kz μ F K) hIF.1, o_b, e_copies, o_b, if_pos z00, ← nI_succ]
        exact q3
    · have ef : FX4_fullest (s1 (kz μ F K) g) = some (accTo (fun a e => mxI a (ldW μ.1 m j b e)) 6) := by
        have e2 : ∀ e, e < 6 → sumTo (gl g (nI e) (-1)) m = ldW μ.1 m j b e := fun e he => by
          have e1 : sumTo (gl g (nI e) (-1)) m = sumTo (gl (plc F j (nI b) s (F (19 + (6 * j + 2)))) (nI e) (-1)) m := sum_ext m (fun i hi => gl_ext (fun k k1 k2 => by
            rw [w6]
            exact puR_o _ _ _ _ _ (by omega) (by omega) (by omega)) (by omega))
          rw [e1, ld_plc lm hj (by omega)]
          unfold ldW
          rw [sum_ext (g := gl F (nI e) (-1)) (g' := gl μ.1 (nI e) (-1)) m (fun i hi => gl_ext (fun k k1 k2 => hF k (by omega)) (by omega)), hF _ (by omega), hF (19 + (6 * j + 1)) (by omega)]
        rw [e_fullest (μ := s1 (kz μ F K) g) w5.1]
        refine congrArg some (acc_ext 6 (fun a e he => ?_))
        show mxI a (sumTo (gl g (nI e) (-1)) m) = mxI a (ldW μ.1 m j b e)
        rw [e2 e he]
      by_cases c1 : best = -1
      · obtain ⟨v, F', q1, q2, q3⟩ := ih (b + 1) n1' n2' (cpP g K 219) (accTo (fun a e => mxI a (ldW μ.1 m j b e)) 6) (nI b) (by omega) (by omega) (by omega) ((al_cp _ _).trans hK)
        refine ⟨v, F', q1, ?_, ?_⟩
        · rw [FX3_bestRack_L12, if_neg n6, w1, o_b, if_pos z00, c_fullest hI.1 hj (by omega), o_b, if_pos c1, ← nI_succ]
          exact q2
        · rw [FX4_bestRack_L40, if_neg n6, w3, o_b, if_pos z00, ef, o_b, e_copies, o_b, if_neg n10, if_pos c1, ← nI_succ]
          exact q3
      · by_cases c2 : least ≤ accTo (fun a e => mxI a (ldW μ.1 m j b e)) 6
        · obtain ⟨v, F', q1, q2, q3⟩ := ih (b + 1) n1' n2' (cpP g K 219) least best (by omega) (by omega) (by omega) ((al_cp _ _).trans hK)
          refine ⟨v, F', q1, ?_, ?_⟩
          · rw [FX3_bestRack_L12, if_neg n6, w1, o_b, if_pos z00, c_fullest hI.1 hj (by omega), o_b, if_neg c1, if_pos c2, ← nI_succ]
            exact q2
          · rw [FX4_bestRack_L40, if_neg n6, w3, o_b, if_pos z00, ef, o_b, e_copies, o_b, if_neg n10, if_neg c1, if_pos c2, ← nI_succ]
            exact q3
        · obtain ⟨v, F', q1, q2, q3⟩ := ih (b + 1) n1' n2' (cpP g K 219) (accTo (fun a e => mxI a (ldW μ.1 m j b e)) 6) (nI b) (by omega) (by omega) (by omega) ((al_cp _ _).trans hK)
          refine ⟨v, F', q1, ?_, ?_⟩
          · rw [FX3_bestRack_L12, if_neg n6, w1, o_b, if_pos z00, c_fullest hI.1 hj (by omega), o_b, if_neg c1, if_neg c2, ← nI_succ]
            exact q2
          · rw [FX4_bestRack_L40, if_neg n6, w3, o_b, if_pos z00, ef, o_b, e_copies, o_b, if_neg n10, if_neg c1, if_neg c2, ← nI_succ]
            exact q3
theorem s_bestRack (hI : In μ.1 m c z p) (x : Int32) : Ask (FX3_bestRack θ (rsOf μ.1) x) (FX4_bestRack μ x) μ cdi := by
  unfold FX3_bestRack FX4_bestRack
  rcases mach_chk (θ := θ) hI.1 x with ⟨h1, h2⟩ | ⟨a, ha, rfl, h1, h2⟩
  · unfold FX4_bestRack_J14
    rw [h1, h2, bX_l, o_b, if_pos z00, refd1, o_b, if_neg n10]
    exact Or.inl ⟨1, 0, rfl, by decide, rfl⟩
  · unfold FX4_bestRack_J14
    rw [h1, h2, bX_r, o_b, if_neg n10, refd0, o_b, if_pos z00, e_copies, o_b]
    obtain ⟨v, F', q1, q2, q3⟩ := br_loop (μ := μ) hI ha (al_cp μ.2.2.2.1 μ.1) 6 0 FU FU μ.1 0 (-1) (by omega) (by decide) (by decide) (fun k hk => rfl)
    exact Or.inr ⟨v, F', cpP μ.2.2.2.1 μ.1 219, q2, q3, q1⟩
end BR

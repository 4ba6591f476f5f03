/-! move, change, backOut, mayMove: alike -/
theorem l2_copy (T U : Nat → Int32) (K : Int32 → (Nat → Int32) → Option (Nat → Int32)) : ∀ d j n : Nat, j + d = 219 → d < n → FX4_copies_L2 219 219 U K n (nI j) (cpP T U j) = K (nI 219) (cpP T U 219) := by
  intro d
  induction d with
  | zero =>
    intro j n hj hn
    obtain ⟨n', rfl⟩ : ∃ n', n = n' + 1 := ⟨n - 1, by omega⟩
    obtain rfl : j = 219 := by omega
    rw [FX4_copies_L2, if_pos (by decide)]
  | succ d ih =>
    intro j n hj hn
    obtain ⟨n', rfl⟩ : ∃ n', n = n' + 1 := ⟨n - 1, by omega⟩
    rw [FX4_copies_L2, if_neg (show ¬ (219 : Int32) ≤ nI j from nI_ge (b := 219) (by omega) (by omega)), gd_in (by omega) (by omega), gd_in (by omega) (by omega), nI_clamp (show j < 2 ^ 31 by omega), nmv_eq, ← nI_succ, cpP_s]
    exact ih (j + 1) n' (by omega) (by omega)
theorem e_copies (T U : Nat → Int32) : FX4_copies 219 219 T U = some (cpP T U 219) := by
  have := l2_copy T U (fun (y2_2 : Int32) (s2_T : (Nat → Int32)) => some s2_T) 219 0 FU (by omega) (by decide)
  rw [cpP_0] at this
  exact this
def Al (f g : Nat → Int32) : Prop := ∀ k, k < 219 → f k = g k
theorem al_cp (f g : Nat → Int32) : Al (cpP f g 219) g := fun _ hk => cpP_l f g hk
theorem Al.symm {f g : Nat → Int32} (h : Al f g) : Al g f := fun k hk => (h k hk).symm
theorem Al.trans {f g e : Nat → Int32} (h : Al f g) (h2 : Al g e) : Al f e := fun k hk => (h k hk).trans (h2 k hk)
theorem in_ext {f g : Nat → Int32} {m c z p : Nat} (h : Al f g) (hf : In f m c z p) : In g m c z p := by
  obtain ⟨hC, hM, hc, hF, hP, hH, hO⟩ := hf
  have l1 := hC.lm
  have l2 := hC.lc
  have l3 := hC.lz
  have l4 := hC.lp
  refine ⟨?_, im_ext (fun k h1 h2 => h k (by omega)) l1 hM, ic_ext (fun k h1 h2 => h k (by omega)) l2 hc, if_ext (fun k h1 h2 => h k (by omega)) l3 hF, fun j hj => ?_, ih_ext (h 12 (by omega)) hH, io_ext (j := 0) (fun k h1 h2 _ => h k (by omega)) l1 hO⟩
  · obtain ⟨a, b, d, e, r⟩ := hC
    exact ⟨(h _ (by omega)).symm.trans a, (h _ (by omega)).symm.trans b, (h _ (by omega)).symm.trans d, (h _ (by omega)).symm.trans e, r⟩
  · obtain ⟨a, q, s, e1, e2, e3, e4, e5, e6⟩ := hP j hj
    exact ⟨a, q, s, (h _ (by omega)).symm.trans e1, e2, (h _ (by omega)).symm.trans e3, e4, (h _ (by omega)).symm.trans e5, by rw [← h (139 + (4 * j + 1)) (by omega), ← h (139 + (4 * j + 2)) (by omega)]; exact e6⟩
def adz (μ : MDS) (A : Nat → Int32) : MDS := (μ.1, μ.2.1, A, μ.2.2.2.1, μ.2.2.2.2.1, μ.2.2.2.2.2.1, 0, μ.2.2.2.2.2.2.2.1, μ.2.2.2.2.2.2.2.2.1, μ.2.2.2.2.2.2.2.2.2.1, μ.2.2.2.2.2.2.2.2.2.2.1, μ.2.2.2.2.2.2.2.2.2.2.2.1, μ.2.2.2.2.2.2.2.2.2.2.2.2)
def kz (μ : MDS) (F K : Nat → Int32) : MDS := (F, μ.2.1, μ.2.2.1, K, μ.2.2.2.2.1, μ.2.2.2.2.2.1, 0, μ.2.2.2.2.2.2.2.1, μ.2.2.2.2.2.2.2.2.1, μ.2.2.2.2.2.2.2.2.2.1, μ.2.2.2.2.2.2.2.2.2.2.1, μ.2.2.2.2.2.2.2.2.2.2.2.1, μ.2.2.2.2.2.2.2.2.2.2.2.2)
theorem place_chk (x : Int32) : (FX3_checkRange x (-1) 5 = some (.inl 2) ∧ FX4_isPlace x = some 0) ∨ (FX3_checkRange x (-1) 5 = some (.inr ()) ∧ FX4_isPlace x = some 1 ∧ (x = -1 ∨ ∃ a : Nat, x = nI a ∧ a ≤ 5)) := by
  unfold FX4_isPlace
  rcases range_chk x (-1) 5 with ⟨g1, g2⟩ | ⟨g1, g2, g3, g4⟩
  · rw [g1, g2, o_b]
    exact Or.inl ⟨rfl, rfl⟩
  · rw [g1, g2, o_b]
    refine Or.inr ⟨rfl, rfl, ?_⟩
    rw [Int32.lt_iff_toInt_lt, show (-1 : Int32).toInt = -1 from by decide] at g3
    rw [Int32.le_iff_toInt_le, show (5 : Int32).toInt = 5 from by decide] at g4
    by_cases h : x.toInt = -1
    · exact Or.inl (Int32.toInt_inj.mp (by rw [h]; decide))
    · refine Or.inr ⟨x.toInt.toNat, Int32.toInt_inj.mp ?_, by omega⟩
      rw [nI_toInt (by omega)]
      omega
section DONE
variable {μ : MDS} {θ : Int32} {S0 S1 S2 S3 : RS} {k m c z p : Nat}
/-- a state saved behind something done -/
theorem done_sim (h : SV μ.2.1 θ S0 S1 S2 S3 k) (hs : μ.2.2.2.2.2.1 = nI k) (hI : Inv μ.1) (g : Nat → Int32) : ∃ S0' S1' S2' S3' μ', FX3_save θ (rsOf μ.1) S0 S1 S2 S3 = some (nI (min (k + 1) 4), S0', S1', S2', S3') ∧ FX4_ends (s1 (adz μ (cpP μ.2.2.1 μ.1 219)) g) 0 = some (0, μ') ∧ μ'.1 = g ∧ Keep μ μ' ∧ SV μ'.2.1 (nI (min (k + 1) 4)) S0' S1' S2' S3' (min (k + 1) 4) ∧ μ'.2.2.2.2.2.1 = nI (min (k + 1) 4) := by
  have al := al_cp μ.2.2.1 μ.1
  obtain ⟨S0', S1', S2', S3', P', e1, e2, e3⟩ := sim_aside (μ := s1 (adz μ (cpP μ.2.2.1 μ.1 219)) g) h hs (inv_ext (fun k hk => (al k hk).symm) hI)
  have e1' : FX3_save θ (rsOf (cpP μ.2.2.1 μ.1 219)) S0 S1 S2 S3 = some (nI (min (k + 1) 4), S0', S1', S2', S3') := e1
  rw [rs_ext al] at e1'
  refine ⟨S0', S1', S2', S3', sp (s1 (adz μ (cpP μ.2.2.1 μ.1 219)) g) P' (nI (min (k + 1) 4)), e1', ?_, rfl, ⟨rfl, rfl, rfl⟩, e3, rfl⟩
  unfold FX4_ends
  rw [if_pos z00, e2, o_b]
theorem s_move (h : SV μ.2.1 θ S0 S1 S2 S3 k) (hs : μ.2.2.2.2.2.1 = nI k) (hI : In μ.1 m c z p) (x y : Int32) : Chg (FX3_move θ (rsOf μ.1) S0 S1 S2 S3 x y) (FX4_move μ x y) μ cd12 := by
  unfold FX3_move FX4_move
  rcases mach_chk (θ := θ) hI.1 x with ⟨h1, h2⟩ | ⟨a, ha, rfl, h1, h2⟩
  · unfold FX4_move_J25
    rw [h1, h2, bX_l, o_b, if_pos z00, refd1, o_b, if_neg n10]
    exact Or.inl ⟨1, 0, rfl, by decide, rfl⟩
  · rw [h1, h2, bX_r, o_b, if_neg n10]
    rcases place_chk y with ⟨g1, g2⟩ | ⟨g1, g2, g3⟩
    · unfold FX4_move_J25
      rw [g1, g2, bX_l, o_b, if_pos z00, refd2, o_b, if_neg n10]
      exact Or.inl ⟨2, 0, rfl, by decide, rfl⟩
    · obtain ⟨s, hst⟩ := mv_sim (μ := adz μ (cpP μ.2.2.1 μ.1 219)) hI ha g3
      unfold FX4_move_J25
      rw [g1, g2, bX_r, o_b, if_neg n10, refd0, o_b, if_pos z00, e_copies, o_b]
      rcases hst with ⟨n, w1, w2, w3, w4⟩ | ⟨g, p', w1, w2, w3, -, w5⟩
      · have w1' : FX1_whyNotMove (rsOf μ.1) (nI a) y = some (nI n, rsOf μ.1) := w1
        have w2' : FX4_moves ((rfz μ 0).1, (rfz μ 0).2.1, cpP (rfz μ 0).2.2.1 (rfz μ 0).1 219, (rfz μ 0).2.2.2.1, (rfz μ 0).2.2.2.2.1, (rfz μ 0).2.2.2.2.2.1, (rfz μ 0).2.2.2.2.2.2.1, (rfz μ 0).2.2.2.2.2.2.2.1, (rfz μ 0).2.2.2.2.2.2.2.2.1, (rfz μ 0).2.2.2.2.2.2.2.2.2.1, (rfz μ 0).2.2.2.2.2.2.2.2.2.2.1, (rfz μ 0).2.2.2.2.2.2.2.2.2.2.2.1, (rfz μ 0).2.2.2.2.2.2.2.2.2.2.2.2) (nI a) y = some (nI n, adz μ (cpP μ.2.2.1 μ.1 219)) := w2
        have nz : ¬ nI n = 0 := nI_ne0 (by omega) (by omega)
        unfold FX4_ends
        rw [w1', o_b, if_neg nz, w2', o_b, if_neg nz, o_b]
        exact Or.inr ⟨nI n, θ, S0, S1, S2, S3, adz μ (cpP μ.2.2.1 μ.1 219), k, rfl, rfl, ⟨rfl, rfl, rfl⟩, hI.inv, h, hs⟩
      · obtain ⟨S0', S1', S2', S3', μ', v1, v2, v3, v4, v5, v6⟩ := done_sim h hs hI.inv g
        have w1' : FX1_whyNotMove (rsOf μ.1) (nI a) y = some (0, rsOf μ.1) := w1
        have w2' : FX1_doMove (rsOf μ.1) (nI a) y = some (rsOf g) := w2
        have w3' : FX4_moves ((rfz μ 0).1, (rfz μ 0).2.1, cpP (rfz μ 0).2.2.1 (rfz μ 0).1 219, (rfz μ 0).2.2.2.1, (rfz μ 0).2.2.2.2.1, (rfz μ 0).2.2.2.2.2.1, (rfz μ 0).2.2.2.2.2.2.1, (rfz μ 0).2.2.2.2.2.2.2.1, (rfz μ 0).2.2.2.2.2.2.2.2.1, (rfz μ 0).2.2.2.2.2.2.2.2.2.1, (rfz μ 0).2.2.2.2.2.2.2.2.2.2.1, (rfz μ 0).2.2.2.2.2.2.2.2.2.2.2.1, (rfz μ 0).2.2.2.2.2.2.2.2.2.2.2.2) (nI a) y = some (0, s1 (adz μ (cpP μ.2.2.1 μ.1 219)) g) := w3
        rw [w1', o_b, if_pos z00, v1, o_b, w2', o_b, w3', o_b, v2, o_b]
        refine Or.inr ⟨0, nI (min (k + 1) 4), S0', S1', S2', S3', μ', min (k + 1) 4, ?_, rfl, v4, ?_, v5, v6⟩
        · rw [v3]
        · rw [v3]; exact w5.inv
theorem s_change (h : SV μ.2.1 θ S0 S1 S2 S3 k) (hs : μ.2.2.2.2.2.1 = nI k) (hI : In μ.1 m c z p) (x y : Int32) : Chg (FX3_change θ (rsOf μ.1) S0 S1 S2 S3 x y) (FX4_change μ x y) μ cd12 := by
  unfold FX3_change FX4_change
  rcases mach_chk (θ := θ) hI.1 x with ⟨h1, h2⟩ | ⟨a, ha, rfl, h1, h2⟩
  · unfold FX4_change_J27
    rw [h1, h2, bX_l, o_b, if_pos z00, refd1, o_b, if_neg n10]
    exact Or.inl ⟨1, 0, rfl, by decide, rfl⟩
  · rw [h1, h2, bX_r, o_b, if_neg n10]
    rcases range_chk y 0 2 with ⟨g1, g2⟩ | ⟨g1, g2, g3, g4⟩
    · unfold FX4_change_J27
      rw [g1, g2, bX_l, o_b, if_pos z00, refd2, o_b, if_neg n10]
      exact Or.inl ⟨2, 0, rfl, by decide, rfl⟩
    · obtain ⟨q, -, hq, rfl⟩ := rng_nat (a := 0) (b := 2) (by omega) (by omega) g3 g4
      have hst := ch_sim (μ := adz μ (cpP μ.2.2.1 μ.1 219)) hI ha ⟨q, rfl, hq⟩
      unfold FX4_change_J27
      rw [g1, g2, bX_r, o_b, if_neg n10, refd0, o_b, if_pos z00, e_copies, o_b]
      rcases hst with ⟨n, w1, w2, w3, w4⟩ | ⟨g, p', w1, w2, w3, -, w5⟩
      · have w1' : FX1_whyNotChange (rsOf μ.1) (nI a) (nI q) = some (nI n, rsOf μ.1) := w1
        have w2' : FX4_changes ((rfz μ 0).1, (rfz μ 0).2.1, cpP (rfz μ 0).2.2.1 (rfz μ 0).1 219, (rfz μ 0).2.2.2.1, (rfz μ 0).2.2.2.2.1, (rfz μ 0).2.2.2.2.2.1, (rfz μ 0).2.2.2.2.2.2.1, (rfz μ 0).2.2.2.2.2.2.2.1, (rfz μ 0).2.2.2.2.2.2.2.2.1, (rfz μ 0).2.2.2.2.2.2.2.2.2.1, (rfz μ 0).2.2.2.2.2.2.2.2.2.2.1, (rfz μ 0).2.2.2.2.2.2.2.2.2.2.2.1, (rfz μ 0).2.2.2.2.2.2.2.2.2.2.2.2) (nI a) (nI q) = some (nI n, adz μ (cpP μ.2.2.1 μ.1 219)) := w2
        have nz : ¬ nI n = 0 := nI_ne0 (by omega) (by omega)
        unfold FX4_ends
        rw [w1', o_b, if_neg nz, w2', o_b, if_neg nz, o_b]
        exact Or.inr ⟨nI n, θ, S0, S1, S2, S3, adz μ (cpP μ.2.2.1 μ.1 219), k, rfl, rfl, ⟨rfl, rfl, rfl⟩, hI.inv, h, hs⟩
      · obtain ⟨S0', S1', S2', S3', μ', v1, v2, v3, v4, v5, v6⟩ := done_sim h hs hI.inv g
        have w1' : FX1_whyNotChange (rsOf μ.1) (nI a) (nI q) = some (0, rsOf μ.1) := w1
        have w2' : FX1_doChange (rsOf μ.1) (nI a) (nI q) = some (rsOf g) := w2
        have w3' : FX4_changes ((rfz μ 0).1, (rfz μ 0).2.1, cpP (rfz μ 0).2.2.1 (rfz μ 0).1 219, (rfz μ 0).2.2.2.1, (rfz μ 0).2.2.2.2.1, (rfz μ 0).2.2.2.2.2.1, (rfz μ 0).2.2.2.2.2.2.1, (rfz μ 0).2.2.2.2.2.2.2.1, (rfz μ 0).2.2.2.2.2.2.2.2.1, (rfz μ 0).2.2.2.2.2.2.2.2.2.1, (rfz μ 0).2.2.2.2.2.2.2.2.2.2.1, (rfz μ 0).2.2.2.2.2.2.2.2.2.2.2.1, (rfz μ 0).2.2.2.2.2.2.2.2.2.2.2.2) (nI a) (nI q) = some (0, s1 (adz μ (cpP μ.2.2.1 μ.1 219)) g) := w3
        rw [w1', o_b, if_pos z00, v1, o_b, w2', o_b, w3', o_b, v2, o_b]
        refine Or.inr ⟨0, nI (min (k + 1) 4), S0', S1', S2', S3', μ', min (k + 1) 4, ?_, rfl, v4, ?_, v5, v6⟩
        · rw [v3]
        · rw [v3]; exact w5.inv
/-- a call that never throws -/
def Chg0 (A : Option (Int32 × Int32 × RS × RS × RS × RS × RS)) (B : Option (Int32 × MDS)) (μ : MDS) : Prop := ∃ v θ' S0' S1' S2' S3' μ' k', A = some (v, θ', rsOf μ'.1, S0', S1', S2', S3') ∧ B = some (v, μ') ∧ Keep μ μ' ∧ Inv μ'.1 ∧ SV μ'.2.1 θ' S0' S1' S2' S3' k' ∧ μ'.2.2.2.2.2.1 = nI k'
theorem s_backOut (h : SV μ.2.1 θ S0 S1 S2 S3 k) (hs : μ.2.2.2.2.2.1 = nI k) (hI : In μ.1 m c z p) : Chg0 (FX3_backOut θ (rsOf μ.1) S0 S1 S2 S3) (FX4_backOut μ) μ := by
  unfold FX3_backOut FX4_backOut
  rw [e_copies, o_b]
  have hst := bk_sim (μ := adz μ (cpP μ.2.2.1 μ.1 219)) hI
  rcases hst with ⟨n, w1, w2, w3, w4⟩ | ⟨g, w1, w2, w3, -, w5⟩
  · have w1' : FX1_whyNotBackOut (rsOf μ.1) = some (nI n, rsOf μ.1) := w1
    have nz : ¬ nI n = 0 := nI_ne0 (by omega) (by omega)
    have w2' : FX4_backs (μ.1, μ.2.1, cpP μ.2.2.1 μ.1 219, μ.2.2.2.1, μ.2.2.2.2.1, μ.2.2.2.2.2.1, (0 : Int32), μ.2.2.2.2.2.2.2.1, μ.2.2.2.2.2.2.2.2.1, μ.2.2.2.2.2.2.2.2.2.1, μ.2.2.2.2.2.2.2.2.2.2.1, μ.2.2.2.2.2.2.2.2.2.2.2.1, μ.2.2.2.2.2.2.2.2.2.2.2.2) = some (nI n, adz μ (cpP μ.2.2.1 μ.1 219)) := w2
    unfold FX4_ends
    rw [w1', o_b, if_neg nz, w2', o_b, if_neg nz, o_b]
    exact ⟨nI n, θ, S0, S1, S2, S3, adz μ (cpP μ.2.2.1 μ.1 219), k, rfl, rfl, ⟨rfl, rfl, rfl⟩, hI.inv, h, hs⟩
  · obtain ⟨S0', S1', S2', S3', μ', v1, v2, v3, v4, v5, v6⟩ := done_sim h hs hI.inv g
    have w1' : FX1_whyNotBackOut (rsOf μ.1) = some (0, rsOf μ.1) := w1
    have w2' : FX1_doBackOut (rsOf μ.1) = some (rsOf g) := w2
    have w3' : FX4_backs (μ.1, μ.2.1, cpP μ.2.2.1 μ.1 219, μ.2.2.2.1, μ.2.2.2.2.1, μ.2.2.2.2.2.1, (0 : Int32), μ.2.2.2.2.2.2.2.1, μ.2.2.2.2.2.2.2.2.1, μ.2.2.2.2.2.2.2.2.2.1, μ.2.2.2.2.2.2.2.2.2.2.1, μ.2.2.2.2.2.2.2.2.2.2.2.1, μ.2.2.2.2.2.2.2.2.2.2.2.2) = some (0, s1 (adz μ (cpP μ.2.2.1 μ.1 219)) g) := w3
    rw [w1', o_b, if_pos z00, v1, o_b, w2', o_b, w3', o_b, v2, o_b]
    refine ⟨0, nI (min (k + 1) 4), S0', S1', S2', S3', μ', min (k + 1) 4, ?_, rfl, v4, ?_, v5, v6⟩
    · rw [v3]
    · rw [v3]; exact w5.inv
end DONE

/-! addMachine: alike -/
def adM (f : Nat → Int32) (m : Nat) (v0 v1 v2 v3 : Int32) : Nat → Int32 := upd (upd (upd (upd (upd (upd f (19 + (6 * m + 0)) v0) (19 + (6 * m + 1)) v1) (19 + (6 * m + 2)) v2) (19 + (6 * m + 3)) v3) (19 + (6 * m + 4)) (-1)) (19 + (6 * m + 5)) (-1)
theorem adM_o (f : Nat → Int32) {m i : Nat} (v0 v1 v2 v3 : Int32) (h : i < 19 + 6 * m ∨ 19 + 6 * m + 6 ≤ i) : adM f m v0 v1 v2 v3 i = f i := by
  unfold adM
  rw [upd_ne _ _ (by omega), upd_ne _ _ (by omega), upd_ne _ _ (by omega), upd_ne _ _ (by omega), upd_ne _ _ (by omega), upd_ne _ _ (by omega)]
theorem adM_0 (f : Nat → Int32) (m : Nat) (v0 v1 v2 v3 : Int32) : adM f m v0 v1 v2 v3 (19 + (6 * m + 0)) = v0 := by
  unfold adM
  rw [upd_ne _ _ (by omega), upd_ne _ _ (by omega), upd_ne _ _ (by omega), upd_ne _ _ (by omega), upd_ne _ _ (by omega), upd_at]
theorem adM_1 (f : Nat → Int32) (m : Nat) (v0 v1 v2 v3 : Int32) : adM f m v0 v1 v2 v3 (19 + (6 * m + 1)) = v1 := by
  unfold adM
  rw [upd_ne _ _ (by omega), upd_ne _ _ (by omega), upd_ne _ _ (by omega), upd_ne _ _ (by omega), upd_at]
theorem adM_2 (f : Nat → Int32) (m : Nat) (v0 v1 v2 v3 : Int32) : adM f m v0 v1 v2 v3 (19 + (6 * m + 2)) = v2 := by
  unfold adM
  rw [upd_ne _ _ (by omega), upd_ne _ _ (by omega), upd_ne _ _ (by omega), upd_at]
theorem adM_3 (f : Nat → Int32) (m : Nat) (v0 v1 v2 v3 : Int32) : adM f m v0 v1 v2 v3 (19 + (6 * m + 3)) = v3 := by
  unfold adM
  rw [upd_ne _ _ (by omega), upd_ne _ _ (by omega), upd_at]
theorem adM_4 (f : Nat → Int32) (m : Nat) (v0 v1 v2 v3 : Int32) : adM f m v0 v1 v2 v3 (19 + (6 * m + 4)) = -1 := by
  unfold adM
  rw [upd_ne _ _ (by omega), upd_at]
theorem adM_5 (f : Nat → Int32) (m : Nat) (v0 v1 v2 v3 : Int32) : adM f m v0 v1 v2 v3 (19 + (6 * m + 5)) = -1 := by
  unfold adM
  rw [upd_at]
/-- in the order of the class -/
theorem adM_plc (f : Nat → Int32) (m : Nat) (v0 v1 v2 v3 : Int32) : upd (adM f m v0 v1 v2 v3) 13 (nI (m + 1)) = plc (upd (upd (upd (upd f 13 (nI (m + 1))) (19 + (6 * m + 0)) v0) (19 + (6 * m + 1)) v1) (19 + (6 * m + 3)) v3) m (-1) (-1) v2 := by
  funext i
  by_cases h13 : i = 13
  · rw [h13, upd_at, plc_o _ _ _ _ _ (by omega) (by omega) (by omega), upd_ne _ _ (by omega), upd_ne _ _ (by omega), upd_ne _ _ (by omega), upd_at]
  · rw [upd_ne _ _ h13]
    by_cases h4 : i = 19 + (6 * m + 4)
    · rw [h4, adM_4, plc_4]
    · by_cases h5 : i = 19 + (6 * m + 5)
      · rw [h5, adM_5, plc_5]
      · by_cases h2 : i = 19 + (6 * m + 2)
        · rw [h2, adM_2, plc_2]
        · rw [plc_o _ _ _ _ _ h4 h5 h2]
          by_cases h3 : i = 19 + (6 * m + 3)
          · rw [h3, adM_3, upd_at]
          · rw [upd_ne _ _ h3]
            by_cases h1 : i = 19 + (6 * m + 1)
            · rw [h1, adM_1, upd_at]
            · rw [upd_ne _ _ h1]
              by_cases h0 : i = 19 + (6 * m + 0)
              · rw [h0, adM_0, upd_at]
              · rw [upd_ne _ _ h0, upd_ne _ _ h13, adM_o _ _ _ _ _ (by omega)]
theorem inv_adM {f : Nat → Int32} {m c z p : Nat} (hC : Cnt f m c z p) (hM : IM f m) (hc : IC f m c) (hF : IF f z) (hP : IP f m p) (hH : IH f) (hO : IO f m) (hm : m < 12) {s l q t : Nat} (s1 : 1 ≤ s) (s4 : s ≤ 4) (l1 : 1 ≤ l) (l9 : l ≤ 99) (hq : q ≤ 2) (ht : t ≤ 3) : Inv (upd (adM f m (nI s) (nI l) (nI q) (nI t)) 13 (nI (m + 1))) := by
  have e : ∀ i, i ≠ 13 → (i < 19 + 6 * m ∨ 19 + 6 * m + 6 ≤ i) → upd (adM f m (nI s) (nI l) (nI q) (nI t)) 13 (nI (m + 1)) i = f i := fun i h1 h2 => by
    rw [upd_ne _ _ h1, adM_o _ _ _ _ _ h2]
  have a0 : upd (adM f m (nI s) (nI l) (nI q) (nI t)) 13 (nI (m + 1)) (19 + (6 * m + 0)) = nI s := by rw [upd_ne _ _ (by omega), adM_0]
  have a1 : upd (adM f m (nI s) (nI l) (nI q) (nI t)) 13 (nI (m + 1)) (19 + (6 * m + 1)) = nI l := by rw [upd_ne _ _ (by omega), adM_1]
  have a2 : upd (adM f m (nI s) (nI l) (nI q) (nI t)) 13 (nI (m + 1)) (19 + (6 * m + 2)) = nI q := by rw [upd_ne _ _ (by omega), adM_2]
  have a3 : upd (adM f m (nI s) (nI l) (nI q) (nI t)) 13 (nI (m + 1)) (19 + (6 * m + 3)) = nI t := by rw [upd_ne _ _ (by omega), adM_3]
  have a4 : upd (adM f m (nI s) (nI l) (nI q) (nI t)) 13 (nI (m + 1)) (19 + (6 * m + 4)) = -1 := by rw [upd_ne _ _ (by omega), adM_4]
  have a5 : upd (adM f m (nI s) (nI l) (nI q) (nI t)) 13 (nI (m + 1)) (19 + (6 * m + 5)) = -1 := by rw [upd_ne _ _ (by omega), adM_5]
  have a13 : upd (adM f m (nI s) (nI l) (nI q) (nI t)) 13 (nI (m + 1)) 13 = nI (m + 1) := upd_at _ _ _
  generalize upd (adM f m (nI s) (nI l) (nI q) (nI t)) 13 (nI (m + 1)) = g at *
  have lc := hC.lc
  have lz := hC.lz
  have lp := hC.lp
  refine ⟨m + 1, c, z, p, ?_, fun j hj => ?_, fun j hj => ?_, fun j hj => ?_, fun j hj => ?_, ?_, fun i j hi hj => ?_⟩
  · obtain ⟨-, b, d, e', r1, r2, r3, r4⟩ := hC
    exact ⟨a13, (e _ (by omega) (by omega)).trans b, (e _ (by omega) (by omega)).trans d, (e _ (by omega) (by omega)).trans e', by omega, r2, r3, r4⟩
  · by_cases h : j = m
    · subst h
      rw [a0, a1, a2, a3, a4, a5]
      exact ⟨s, l, q, t, rfl, s1, s4, rfl, l1, l9, rfl, hq, rfl, ht, Or.inl ⟨rfl, rfl⟩⟩
    · have := hM j (by omega)
      rw [← e (19 + (6 * j + 0)) (by omega) (by omega), ← e (19 + (6 * j + 1)) (by omega) (by omega), ← e (19 + (6 * j + 2)) (by omega) (by omega), ← e (19 + (6 * j + 3)) (by omega) (by omega), ← e (19 + (6 * j + 4)) (by omega) (by omega), ← e (19 + (6 * j + 5)) (by omega) (by omega)] at this
      exact this
  · obtain ⟨a, b, l, e0, ha, e1, hb, e2, hl⟩ := hc j hj
    exact ⟨a, b, l, (e _ (by omega) (by omega)).trans e0, by omega, (e _ (by omega) (by omega)).trans e1, by omega, (e _ (by omega) (by omega)).trans e2, hl⟩
  · have := hF j hj
    rw [← e (121 + (3 * j + 0)) (by omega) (by omega), ← e (121 + (3 * j + 1)) (by omega) (by omega), ← e (121 + (3 * j + 2)) (by omega) (by omega)] at this
    exact this
  · obtain ⟨a, q, s, e1, e2, e3, e4, e5, e6⟩ := hP j hj
    exact ⟨a, q, s, (e _ (by omega) (by omega)).trans e1, by omega, (e _ (by omega) (by omega)).trans e3, e4, (e _ (by omega) (by omega)).trans e5, by rw [e (139 + (4 * j + 1)) (by omega) (by omega), e (139 + (4 * j + 2)) (by omega) (by omega)]; exact e6⟩
  · obtain ⟨a, q, b⟩ := hH
    exact ⟨a, (e _ (by omega) (by omega)).trans q, b⟩
  · intro hne a x y s t b4 b4' ha
    by_cases h1 : i = m
    · rw [h1, a4] at b4
      exact absurd b4.symm (nI_nm1 (by omega))
    · by_cases h2 : j = m
      · rw [h2, a4] at b4'
        exact absurd b4'.symm (nI_nm1 (by omega))
      · rw [e (19 + (6 * i + 4)) (by omega) (by omega)] at b4
        rw [e (19 + (6 * j + 4)) (by omega) (by omega)] at b4'
        rw [e (19 + (6 * i + 5)) (by omega) (by omega), e (19 + (6 * j + 5)) (by omega) (by omega), e (19 + (6 * i + 0)) (by omega) (by omega), e (19 + (6 * j + 0)) (by omega) (by omega)]
        exact hO i j (by omega) (by omega) hne a x y s t b4 b4' ha
section ADM
variable {μ : MDS} {θ : Int32} {S0 S1 S2 S3 : RS} {k : Nat}
theorem s_addMachine (h : SV μ.2.1 θ S0 S1 S2 S3 k) (hs : μ.2.2.2.2.2.1 = nI k) (hI : Inv μ.1) (x y w v : Int32) : Chg (FX3_addMachine θ (rsOf μ.1) S0 S1 S2 S3 x y w v) (FX4_addMachine μ x y w v) μ cd23 := by
  have hI0 := hI
  obtain ⟨m, c, z, p, hC, hM, hc, hF, hP, hH, hO⟩ := hI
  have lm := hC.lm
  unfold FX3_addMachine FX4_addMachine
  have key : ∀ A : Option (Nat ⊕ (Int32 × Int32 × RS × RS × RS × RS × RS)), A = some (.inl 2) → Chg A (FX4_addMachine_J43 μ x y w v 0) μ cd23 := fun A hA => by
    unfold FX4_addMachine_J43 FX4_addMachine_J72
    rw [if_pos z00, refd1, o_b, if_neg n10]
    exact Or.inl ⟨2, 0, hA, by decide, rfl⟩
  rcases range_chk x 1 4 with ⟨g1, g2⟩ | ⟨g1, g2, g3, g4⟩
  · rw [g1, g2, bX_l, o_b, if_pos z00]; exact key _ rfl
  · rw [g1, g2, bX_r, o_b, if_neg n10]
    obtain ⟨s, hs1, hs4, rfl⟩ := rng_nat (a := 1) (b := 4) (by omega) (by omega) g3 g4
    rcases range_chk y 1 99 with ⟨g1, g2⟩ | ⟨g1, g2, g3, g4⟩
    · rw [g1, g2, bX_l, o_b, if_pos z00]; exact key _ rfl
    · rw [g1, g2, bX_r, o_b, if_neg n10]
      obtain ⟨l, hl1, hl9, rfl⟩ := rng_nat (a := 1) (b := 99) (by omega) (by omega) g3 g4
      rcases range_chk w 0 2 with ⟨g1, g2⟩ | ⟨g1, g2, g3, g4⟩
      · rw [g1, g2, bX_l, o_b, if_pos z00]; exact key _ rfl
      · rw [g1, g2, bX_r, o_b, if_neg n10]
        obtain ⟨q, -, hq, rfl⟩ := rng_nat (a := 0) (b := 2) (by omega) (by omega) g3 g4
        rcases range_chk v 0 3 with ⟨g1, g2⟩ | ⟨g1, g2, g3, g4⟩
        · rw [g1, g2, bX_l, o_b, if_pos z00]; exact key _ rfl
        · rw [g1, g2, bX_r, o_b, if_neg n10]
          obtain ⟨t, -, ht, rfl⟩ := rng_nat (a := 0) (b := 3) (by omega) (by omega) g3 g4
          have es : FX3_checkSpace (12 : Int32) (6 : Int32) 72 ((rsOf μ.1).2.2.2.2.2.2.1, (rsOf μ.1).1) = if m < 12 then some (.inr ()) else some (.inl 3) := by
            rw [rz_nm, hC.hm, show (12 : Int32) = nI 12 from rfl, c_space _ (by omega) (by omega)]
          unfold FX4_addMachine_J43 FX4_addMachine_J72
          rw [if_neg n10, g13, cl13, hC.hm, es]
          by_cases hm : m < 12
          · obtain ⟨S0', S1', S2', S3', P', e1, e2, e3⟩ := sim_now (μ := rfz μ 0) h hs hI0
            have e1' : FX3_save θ (rsOf μ.1) S0 S1 S2 S3 = some (nI (min (k + 1) 4), S0', S1', S2', S3') := e1
            have ea : FX2_addRow (12 : Int32) (6 : Int32) 72 ((rsOf μ.1).2.2.2.2.2.2.1, (rsOf μ.1).1) = some (nI m, (nI (m + 1), (rsOf μ.1).1)) := by
              rw [rz_nm, hC.hm, show (12 : Int32) = nI 12 from rfl, c_addRow _ hm (by omega)]
            have P : ∀ (T : Nat → Int32) (r : Nat) (v : Int32), r < 6 → FX2_put (12 : Int32) (6 : Int32) 72 (nI (m + 1), T) (nI m) (nI r) v = some (nI (m + 1), upd T (6 * m + r) v) := fun T r v hr => put_k (C := 6) (by omega) hr (by omega) (by omega) (by omega) (by omega)
            have p0 : FX2_put (12 : Int32) (6 : Int32) 72 (nI (m + 1), (rsOf μ.1).1) (nI m) (0 : Int32) (nI s) = some (nI (m + 1), upd (rsOf μ.1).1 (6 * m + 0) (nI s)) := P _ 0 _ (by omega)
            have p1 : FX2_put (12 : Int32) (6 : Int32) 72 (nI (m + 1), upd (rsOf μ.1).1 (6 * m + 0) (nI s)) (nI m) (1 : Int32) (nI l) = some (nI (m + 1), upd (upd (rsOf μ.1).1 (6 * m + 0) (nI s)) (6 * m + 1) (nI l)) := P _ 1 _ (by omega)
            have p2 : FX2_put (12 : Int32) (6 : Int32) 72 (nI (m + 1), upd (upd (rsOf μ.1).1 (6 * m + 0) (nI s)) (6 * m + 1) (nI l)) (nI m) (3 : Int32) (nI t) = some (nI (m + 1), upd (upd (upd (rsOf μ.1).1 (6 * m + 0) (nI s)) (6 * m + 1) (nI l)) (6 * m + 3) (nI t)) := P _ 3 _ (by omega)
            have er : rsOf (upd (upd (upd (upd μ.1 13 (nI (m + 1))) (19 + (6 * m + 0)) (nI s)) (19 + (6 * m + 1)) (nI l)) (19 + (6 * m + 3)) (nI t)) = (upd (upd (upd (rsOf μ.1).1 (6 * m + 0) (nI s)) (6 * m + 1) (nI l)) (6 * m + 3) (nI t), (rsOf μ.1).2.1, (rsOf μ.1).2.2.1, (rsOf μ.1).2.2.2.1, (rsOf μ.1).2.2.2.2.1, (rsOf μ.1).2.2.2.2.2.1, nI (m + 1), μ.1 14, μ.1 15, μ.1 16, μ.1 11, μ.1 12, μ.1 17, μ.1 18) := by
              rw [rs_M _ _ (by omega), rs_M _ _ (by omega), rs_M _ _ (by omega), rs_13]
            have hC' : Cnt (upd (upd (upd (upd μ.1 13 (nI (m + 1))) (19 + (6 * m + 0)) (nI s)) (19 + (6 * m + 1)) (nI l)) (19 + (6 * m + 3)) (nI t)) (m + 1) c z p := by
              obtain ⟨-, b, d, e', r1, r2, r3, r4⟩ := hC
              refine ⟨?_, ?_, ?_, ?_, by omega, r2, r3, r4⟩
              · rw [upd_ne _ _ (by omega), upd_ne _ _ (by omega), upd_ne _ _ (by omega), upd_at]
              · rw [upd_ne _ _ (by omega), upd_ne _ _ (by omega), upd_ne _ _ (by omega), upd_ne _ _ (by omega)]; exact b
              · rw [upd_ne _ _ (by omega), upd_ne _ _ (by omega), upd_ne _ _ (by omega), upd_ne _ _ (by omega)]; exact d
              · rw [upd_ne _ _ (by omega), upd_ne _ _ (by omega), upd_ne _ _ (by omega), upd_ne _ _ (by omega)]; exact e'
            have ep := c_place (j := m) hC' (by omega) (-1) (-1) (nI q)
            rw [er, ← adM_plc] at ep
            have e13 : (6 : Int32) * nI m = nI (6 * m) := by rw [show (6 : Int32) = nI 6 from rfl, pk_mul]
            have e6 : ∀ r : Nat, r < 6 → (19 : Int32) + nI (6 * m) + nI r = nI (19 + (6 * m + r)) := fun r hr => by
              rw [show (19 : Int32) = nI 19 from rfl, nI_add, nI_add, Nat.add_assoc]
            have d0 : (19 : Int32) + nI (6 * m) + 0 = nI (19 + (6 * m + 0)) := e6 0 (by omega)
            have d1 : (19 : Int32) + nI (6 * m) + 1 = nI (19 + (6 * m + 1)) := e6 1 (by omega)
            have d2 : (19 : Int32) + nI (6 * m) + 2 = nI (19 + (6 * m + 2)) := e6 2 (by omega)
            have d3 : (19 : Int32) + nI (6 * m) + 3 = nI (19 + (6 * m + 3)) := e6 3 (by omega)
            have d4 : (19 : Int32) + nI (6 * m) + 4 = nI (19 + (6 * m + 4)) := e6 4 (by omega)
            have d5 : (19 : Int32) + nI (6 * m) + 5 = nI (19 + (6 * m + 5)) := e6 5 (by omega)
            have b13 : (sp (rfz μ 0) P' (nI (min (k + 1) 4))).1 13 = nI m := hC.hm
            have c13 : adM (sp (rfz μ 0) P' (nI (min (k + 1) 4))).1 m (nI s) (nI l) (nI q) (nI t) 13 = nI m := (adM_o _ _ _ _ _ (by omega)).trans b13
            unfold adM at c13
            unfold FX4_saves
            rw [if_pos hm, bX_r, e1', o_b, ea, o_b, p0, o_b, p1, o_b, p2, o_b]
            have ep' : FX1_place (upd (upd (upd (rsOf μ.1).1 (6 * m + 0) (nI s)) (6 * m + 1) (nI l)) (6 * m + 3) (nI t), (rsOf μ.1).2.1, (rsOf μ.1).2.2.1, (rsOf μ.1).2.2.2.1, (rsOf μ.1).2.2.2.2.1, (rsOf μ.1).2.2.2.2.2.1, nI (m + 1), (rsOf μ.1).2.2.2.2.2.2.2.1, (rsOf μ.1).2.2.2.2.2.2.2.2.1, (rsOf μ.1).2.2.2.2.2.2.2.2.2.1, (rsOf μ.1).2.2.2.2.2.2.2.2.2.2.1, (rsOf μ.1).2.2.2.2.2.2.2.2.2.2.2.1, (rsOf μ.1).2.2.2.2.2.2.2.2.2.2.2.2.1, (rsOf μ.1).2.2.2.2.2.2.2.2.2.2.2.2.2) (nI m) (-1) (-1) (nI q) = some (rsOf (upd (adM μ.1 m (nI s) (nI l) (nI q) (nI t)) 13 (nI (m + 1)))) := ep
            rw [ep', o_b, if_neg (show ¬ nI m = 12 from fun e => by have := nI_inj (b := 12) e (by omega) (by omega); omega), refd0, o_b, if_pos z00, e2, o_b, o_b, gd_t (show ¬ ((13 : Int32) < 0 ∨ 219 ≤ 13) by decide), b13, e13, nmv_eq, d0, gd_in (by omega) (by omega), nI_clamp (show 19 + (6 * m + 0) < 2 ^ 31 by omega), nmv_eq, d1, gd_in (by omega) (by omega), nI_clamp (show 19 + (6 * m + 1) < 2 ^ 31 by omega), nmv_eq, d2, gd_in (by omega) (by omega), nI_clamp (show 19 + (6 * m + 2) < 2 ^ 31 by omega), nmv_eq, d3, gd_in (by omega) (by omega), nI_clamp (show 19 + (6 * m + 3) < 2 ^ 31 by omega), nmv_eq, d4, gd_in (by omega) (by omega), nI_clamp (show 19 + (6 * m + 4) < 2 ^ 31 by omega), nmv_eq, d5, gd_in (by omega) (by omega), nI_clamp (show 19 + (6 * m + 5) < 2 ^ 31 by omega), nmv_eq, gd_t (show ¬ ((13 : Int32) < 0 ∨ 219 ≤ 13) by decide), c13, nmv_eq, gd_t (show ¬ ((13 : Int32) < 0 ∨ 219 ≤ 13) by decide), nmv_eq, gd_t (show ¬ ((13 : Int32) < 0 ∨ 219 ≤ 13) by decide), upd_at, ← nI_succ, nI_pred, nmv_eq]
            exact Or.inr ⟨nI m, nI (min (k + 1) 4), S0', S1', S2', S3', mp μ (upd (adM μ.1 m (nI s) (nI l) (nI q) (nI t)) 13 (nI (m + 1))) P' (nI (min (k + 1) 4)), min (k + 1) 4, rfl, rfl, ⟨rfl, rfl, rfl⟩, inv_adM hC hM hc hF hP hH hO hm hs1 hs4 hl1 hl9 hq ht, e3, rfl⟩
          · obtain rfl : m = 12 := by omega
            rw [if_neg hm, bX_l, if_pos (show nI 12 = 12 from rfl), refd2, o_b, if_neg n10]
            exact Or.inl ⟨3, 0, rfl, by decide, rfl⟩
end ADM

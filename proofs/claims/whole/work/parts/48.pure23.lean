/-! addCable, addFreeze, addMachine: alike -/
theorem rng_nat {x : Int32} {a b : Nat} (ha : a < 2 ^ 31) (hb : b < 2 ^ 31) (h1 : ¬ x < nI a) (h2 : x ≤ nI b) : ∃ l : Nat, a ≤ l ∧ l ≤ b ∧ x = nI l := by
  rw [Int32.lt_iff_toInt_lt, nI_toInt ha] at h1
  rw [Int32.le_iff_toInt_le, nI_toInt hb] at h2
  refine ⟨x.toInt.toNat, by omega, by omega, Int32.toInt_inj.mp ?_⟩
  rw [nI_toInt (by omega)]
  omega
theorem put_k {pTm : Int32} {C n j c N : Nat} {T : Nat → Int32} {v : Int32} (hj : j < n) (hc : c < C) (hN : C * j + c < N) (hn : n < 1000) (hC : C < 1000) (hNN : N < 1000) : FX2_put pTm (nI C) N (nI n, T) (nI j) (nI c) v = some (nI n, upd T (C * j + c) v) := by
  rw [put_gen hj hc (by rw [Nat.mul_comm]; exact hN) hn hC hNN, Nat.mul_comm]
def cd123 (k : Nat) : Int32 := if k = 1 then 1 else if k = 2 then 2 else if k = 3 then 3 else 0
theorem rs_adC (f : Nat → Int32) {n : Nat} (hn : n < 10) (v0 v1 v2 : Int32) : rsOf (upd (adR f 91 n v0 v1 v2) 14 (nI (n + 1))) = ((rsOf f).1, upd (upd (upd (rsOf f).2.1 (3 * n + 0) v0) (3 * n + 1) v1) (3 * n + 2) v2, (rsOf f).2.2.1, (rsOf f).2.2.2.1, (rsOf f).2.2.2.2.1, (rsOf f).2.2.2.2.2.1, f 13, nI (n + 1), f 15, f 16, f 11, f 12, f 17, f 18) := by
  rw [rs_14, adR_o f v0 v1 v2 (i := 13) (by omega), adR_o f v0 v1 v2 (i := 15) (by omega), adR_o f v0 v1 v2 (i := 16) (by omega), adR_o f v0 v1 v2 (i := 11) (by omega), adR_o f v0 v1 v2 (i := 12) (by omega), adR_o f v0 v1 v2 (i := 17) (by omega), adR_o f v0 v1 v2 (i := 18) (by omega)]
  unfold adR
  rw [rs_C _ _ (by omega), rs_C _ _ (by omega), rs_C _ _ (by omega)]
theorem rs_adF (f : Nat → Int32) {n : Nat} (hn : n < 6) (v0 v1 v2 : Int32) : rsOf (upd (adR f 121 n v0 v1 v2) 15 (nI (n + 1))) = ((rsOf f).1, (rsOf f).2.1, upd (upd (upd (rsOf f).2.2.1 (3 * n + 0) v0) (3 * n + 1) v1) (3 * n + 2) v2, (rsOf f).2.2.2.1, (rsOf f).2.2.2.2.1, (rsOf f).2.2.2.2.2.1, f 13, f 14, nI (n + 1), f 16, f 11, f 12, f 17, f 18) := by
  rw [rs_15, adR_o f v0 v1 v2 (i := 13) (by omega), adR_o f v0 v1 v2 (i := 14) (by omega), adR_o f v0 v1 v2 (i := 16) (by omega), adR_o f v0 v1 v2 (i := 11) (by omega), adR_o f v0 v1 v2 (i := 12) (by omega), adR_o f v0 v1 v2 (i := 17) (by omega), adR_o f v0 v1 v2 (i := 18) (by omega)]
  unfold adR
  rw [rs_F _ _ (by omega), rs_F _ _ (by omega), rs_F _ _ (by omega)]
theorem adR_0 (f : Nat → Int32) (b n : Nat) (v0 v1 v2 : Int32) : adR f b n v0 v1 v2 (b + (3 * n + 0)) = v0 := by
  unfold adR
  rw [upd_ne _ _ (by omega), upd_ne _ _ (by omega), upd_at]
theorem adR_1 (f : Nat → Int32) (b n : Nat) (v0 v1 v2 : Int32) : adR f b n v0 v1 v2 (b + (3 * n + 1)) = v1 := by
  unfold adR
  rw [upd_ne _ _ (by omega), upd_at]
theorem adR_2 (f : Nat → Int32) (b n : Nat) (v0 v1 v2 : Int32) : adR f b n v0 v1 v2 (b + (3 * n + 2)) = v2 := by
  unfold adR
  rw [upd_at]
section ADC
variable {μ : MDS} {θ : Int32} {S0 S1 S2 S3 : RS} {k : Nat}
theorem s_addCable (h : SV μ.2.1 θ S0 S1 S2 S3 k) (hs : μ.2.2.2.2.2.1 = nI k) (hI : Inv μ.1) (x y w : Int32) : Chg (FX3_addCable θ (rsOf μ.1) S0 S1 S2 S3 x y w) (FX4_addCable μ x y w) μ cd123 := by
  have hI0 := hI
  obtain ⟨m, c, z, p, hC, hM, hc, hF, hP, hH, hO⟩ := hI
  have l1 := hC.lm
  have l2 := hC.lc
  unfold FX3_addCable FX4_addCable
  rcases mach_chk (θ := θ) hC x with ⟨h1, h2⟩ | ⟨a, ha, rfl, h1, h2⟩
  · unfold FX4_addCable_J21
    rw [h1, h2, bX_l, o_b, if_pos z00, if_pos z00, refd1, o_b, if_neg n10]
    exact Or.inl ⟨1, 0, rfl, by decide, rfl⟩
  · rw [h1, h2, bX_r, o_b, if_neg n10]
    rcases mach_chk (θ := θ) hC y with ⟨h1, h2⟩ | ⟨b, hb, rfl, h1, h2⟩
    · unfold FX4_addCable_J21
      rw [h1, h2, bX_l, o_b, if_pos z00, if_pos z00, refd1, o_b, if_neg n10]
      exact Or.inl ⟨1, 0, rfl, by decide, rfl⟩
    · rw [h1, h2, bX_r, o_b, if_neg n10]
      unfold FX4_addCable_J21 FX4_addCable_J48
      rw [if_neg n10]
      by_cases hab : nI a = nI b
      · rw [if_pos hab, if_pos hab, refd2, o_b, if_neg n10]
        exact Or.inl ⟨2, 0, rfl, by decide, rfl⟩
      · rw [if_neg hab, if_neg hab]
        rcases range_chk w 1 20 with ⟨g1, g2⟩ | ⟨g1, g2, g3, g4⟩
        · rw [g1, g2, bX_l, o_b, if_pos z00, refd2, o_b, if_neg n10]
          exact Or.inl ⟨2, 0, rfl, by decide, rfl⟩
        · obtain ⟨l, hl1, hl2, rfl⟩ := rng_nat (a := 1) (b := 20) (by omega) (by omega) g3 g4
          have es : FX3_checkSpace (10 : Int32) (3 : Int32) 30 ((rsOf μ.1).2.2.2.2.2.2.2.1, (rsOf μ.1).2.1) = if c < 10 then some (.inr ()) else some (.inl 3) := by
            rw [rz_nc, hC.hc, show (10 : Int32) = nI 10 from rfl, c_space _ (by omega) (by omega)]
          rw [g1, g2, bX_r, o_b, if_neg n10, g14, cl14, hC.hc, es]
          by_cases hc10 : c < 10
          · obtain ⟨S0', S1', S2', S3', P', e1, e2, e3⟩ := sim_now (μ := rfz μ 0) h hs hI0
            have e1' : FX3_save θ (rsOf μ.1) S0 S1 S2 S3 = some (nI (min (k + 1) 4), S0', S1', S2', S3') := e1
            have ea : FX2_addRow (10 : Int32) (3 : Int32) 30 ((rsOf μ.1).2.2.2.2.2.2.2.1, (rsOf μ.1).2.1) = some (nI c, (nI (c + 1), (rsOf μ.1).2.1)) := by
              rw [rz_nc, hC.hc, show (10 : Int32) = nI 10 from rfl, c_addRow _ hc10 (by omega)]
            have P : ∀ (T : Nat → Int32) (q : Nat) (v : Int32), q < 3 → FX2_put (10 : Int32) (3 : Int32) 30 (nI (c + 1), T) (nI c) (nI q) v = some (nI (c + 1), upd T (3 * c + q) v) := fun T q v hq => put_k (C := 3) (by omega) hq (by omega) (by omega) (by omega) (by omega)
            have em := e_adds (sp (rfz μ 0) P' (nI (min (k + 1) 4))) (b := 91) (ci := 14) (n := c) (by omega) (by omega) (by omega) hC.hc (nI a) (nI b) (nI l)
            have p0 : FX2_put (10 : Int32) (3 : Int32) 30 (nI (c + 1), (rsOf μ.1).2.1) (nI c) (0 : Int32) (nI a) = some (nI (c + 1), upd (rsOf μ.1).2.1 (3 * c + 0) (nI a)) := P _ 0 _ (by omega)
            have p1 : FX2_put (10 : Int32) (3 : Int32) 30 (nI (c + 1), upd (rsOf μ.1).2.1 (3 * c + 0) (nI a)) (nI c) (1 : Int32) (nI b) = some (nI (c + 1), upd (upd (rsOf μ.1).2.1 (3 * c + 0) (nI a)) (3 * c + 1) (nI b)) := P _ 1 _ (by omega)
            have p2 : FX2_put (10 : Int32) (3 : Int32) 30 (nI (c + 1), upd (upd (rsOf μ.1).2.1 (3 * c + 0) (nI a)) (3 * c + 1) (nI b)) (nI c) (2 : Int32) (nI l) = some (nI (c + 1), upd (upd (upd (rsOf μ.1).2.1 (3 * c + 0) (nI a)) (3 * c + 1) (nI b)) (3 * c + 2) (nI l)) := P _ 2 _ (by omega)
            unfold FX4_saves
            rw [if_pos hc10, bX_r, e1', o_b, ea, o_b, p0, o_b, p1, o_b, p2, o_b, if_neg (show ¬ nI c = 10 from fun e => by have := nI_inj (b := 10) e (by omega) (by omega); omega), refd0, o_b, if_pos z00, e2, o_b, o_b, show (91 : Int32) = nI 91 from rfl, show (14 : Int32) = nI 14 from rfl, em, o_b]
            refine Or.inr ⟨nI c, nI (min (k + 1) 4), S0', S1', S2', S3', mp μ (upd (adR μ.1 91 c (nI a) (nI b) (nI l)) 14 (nI (c + 1))) P' (nI (min (k + 1) 4)), min (k + 1) 4, ?_, rfl, ⟨rfl, rfl, rfl⟩, ?_, e3, rfl⟩
            · show _ = some (Sum.inr (nI c, nI (min (k + 1) 4), rsOf (upd (adR μ.1 91 c (nI a) (nI b) (nI l)) 14 (nI (c + 1))), S0', S1', S2', S3'))
              rw [rs_adC _ hc10]
              rfl
            · refine inv_cab (n := c + 1) (fun i i1 i2 i3 => ?_) hC hM hF hP hH hO (show upd (adR μ.1 91 c (nI a) (nI b) (nI l)) 14 (nI (c + 1)) 14 = nI (c + 1) from upd_at _ _ _) (by omega) (fun i hi => ?_)
              · show μ.1 i = upd (adR μ.1 91 c (nI a) (nI b) (nI l)) 14 (nI (c + 1)) i
                rw [upd_ne _ _ i2, adR_o _ _ _ _ (by omega)]
              · show ∃ a' b' l' : Nat, upd (adR μ.1 91 c (nI a) (nI b) (nI l)) 14 (nI (c + 1)) (91 + (3 * i + 0)) = nI a' ∧ a' < m ∧ upd (adR μ.1 91 c (nI a) (nI b) (nI l)) 14 (nI (c + 1)) (91 + (3 * i + 1)) = nI b' ∧ b' < m ∧ upd (adR μ.1 91 c (nI a) (nI b) (nI l)) 14 (nI (c + 1)) (91 + (3 * i + 2)) = nI l' ∧ l' ≤ 20
                rw [upd_ne _ _ (by omega), upd_ne _ _ (by omega), upd_ne _ _ (by omega)]
                by_cases e : i = c
                · subst e
                  rw [adR_0, adR_1, adR_2]
                  exact ⟨a, b, l, rfl, ha, rfl, hb, rfl, hl2⟩
                · rw [adR_o _ _ _ _ (by omega), adR_o _ _ _ _ (by omega), adR_o _ _ _ _ (by omega)]
                  exact hc i (by omega)
          · obtain rfl : c = 10 := by omega
            rw [if_neg hc10, bX_l, if_pos (show nI 10 = 10 from rfl), refd3, o_b, if_neg n10]
            exact Or.inl ⟨3, 0, rfl, by decide, rfl⟩
theorem s_addFreeze (h : SV μ.2.1 θ S0 S1 S2 S3 k) (hs : μ.2.2.2.2.2.1 = nI k) (hI : Inv μ.1) (x y w : Int32) : Chg (FX3_addFreeze θ (rsOf μ.1) S0 S1 S2 S3 x y w) (FX4_addFreeze μ x y w) μ cd23 := by
  have hI0 := hI
  obtain ⟨m, c, z, p, hC, hM, hc, hF, hP, hH, hO⟩ := hI
  have l2 := hC.lz
  unfold FX3_addFreeze FX4_addFreeze
  have key : ∀ A : Option (Nat ⊕ (Int32 × Int32 × RS × RS × RS × RS × RS)), A = some (.inl 2) → Chg A (FX4_addFreeze_J35 μ x y w 0) μ cd23 := fun A hA => by
    unfold FX4_addFreeze_J35
    rw [if_pos z00, refd1, o_b, if_neg n10]
    exact Or.inl ⟨2, 0, hA, by decide, rfl⟩
  rcases range_chk x 0 3 with ⟨g1, g2⟩ | ⟨g1, g2, g3, g4⟩
  · rw [g1, g2, bX_l, o_b, if_pos z00]; exact key _ rfl
  · rw [g1, g2, bX_r, o_b, if_neg n10]
    obtain ⟨t, -, ht, rfl⟩ := rng_nat (a := 0) (b := 3) (by omega) (by omega) g3 g4
    rcases range_chk y 0 999 with ⟨g1, g2⟩ | ⟨g1, g2, g3, g4⟩
    · rw [g1, g2, bX_l, o_b, if_pos z00]; exact key _ rfl
    · rw [g1, g2, bX_r, o_b, if_neg n10]
      obtain ⟨a, -, ha, rfl⟩ := rng_nat (a := 0) (b := 999) (by omega) (by omega) g3 g4
      rcases range_chk w 1 99 with ⟨g1, g2⟩ | ⟨g1, g2, g3, g4⟩
      · rw [g1, g2, bX_l, o_b, if_pos z00]; exact key _ rfl
      · rw [g1, g2, bX_r, o_b, if_neg n10]
        obtain ⟨b, hb1, hb2, rfl⟩ := rng_nat (a := 1) (b := 99) (by omega) (by omega) g3 g4
        have es : FX3_checkSpace (6 : Int32) (3 : Int32) 18 ((rsOf μ.1).2.2.2.2.2.2.2.2.1, (rsOf μ.1).2.2.1) = if z < 6 then some (.inr ()) else some (.inl 3) := by
          rw [rz_nf, hC.hz, show (6 : Int32) = nI 6 from rfl, c_space _ (by omega) (by omega)]
        unfold FX4_addFreeze_J35
        rw [if_neg n10, g15, cl15, hC.hz, es]
        by_cases hz6 : z < 6
        · obtain ⟨S0', S1', S2', S3', P', e1, e2, e3⟩ := sim_now (μ := rfz μ 0) h hs hI0
          have e1' : FX3_save θ (rsOf μ.1) S0 S1 S2 S3 = some (nI (min (k + 1) 4), S0', S1', S2', S3') := e1
          have ea : FX2_addRow (6 : Int32) (3 : Int32) 18 ((rsOf μ.1).2.2.2.2.2.2.2.2.1, (rsOf μ.1).2.2.1) = some (nI z, (nI (z + 1), (rsOf μ.1).2.2.1)) := by
            rw [rz_nf, hC.hz, show (6 : Int32) = nI 6 from rfl, c_addRow _ hz6 (by omega)]
          have P : ∀ (T : Nat → Int32) (q : Nat) (v : Int32), q < 3 → FX2_put (6 : Int32) (3 : Int32) 18 (nI (z + 1), T) (nI z) (nI q) v = some (nI (z + 1), upd T (3 * z + q) v) := fun T q v hq => put_k (C := 3) (by omega) hq (by omega) (by omega) (by omega) (by omega)
          have em := e_adds (sp (rfz μ 0) P' (nI (min (k + 1) 4))) (b := 121) (ci := 15) (n := z) (by omega) (by omega) (by omega) hC.hz (nI t) (nI a) (nI b)
          have p0 : FX2_put (6 : Int32) (3 : Int32) 18 (nI (z + 1), (rsOf μ.1).2.2.1) (nI z) (0 : Int32) (nI t) = some (nI (z + 1), upd (rsOf μ.1).2.2.1 (3 * z + 0) (nI t)) := P _ 0 _ (by omega)
          have p1 : FX2_put (6 : Int32) (3 : Int32) 18 (nI (z + 1), upd (rsOf μ.1).2.2.1 (3 * z + 0) (nI t)) (nI z) (1 : Int32) (nI a) = some (nI (z + 1), upd (upd (rsOf μ.1).2.2.1 (3 * z + 0) (nI t)) (3 * z + 1) (nI a)) := P _ 1 _ (by omega)
          have p2 : FX2_put (6 : Int32) (3 : Int32) 18 (nI (z + 1), upd (upd (rsOf μ.1).2.2.1 (3 * z + 0) (nI t)) (3 * z + 1) (nI a)) (nI z) (2 : Int32) (nI b) = some (nI (z + 1), upd (upd (upd (rsOf μ.1).2.2.1 (3 * z + 0) (nI t)) (3 * z + 1) (nI a)) (3 * z + 2) (nI b)) := P _ 2 _ (by omega)
          unfold FX4_saves
          rw [if_pos hz6, bX_r, e1', o_b, ea, o_b, p0, o_b, p1, o_b, p2, o_b, if_neg (show ¬ nI z = 6 from fun e => by have := nI_inj (b := 6) e (by omega) (by omega); omega), refd0, o_b, if_pos z00, e2, o_b, o_b, show (121 : Int32) = nI 121 from rfl, show (15 : Int32) = nI 15 from rfl, em, o_b]
          refine Or.inr ⟨nI z, nI (min (k + 1) 4), S0', S1', S2', S3', mp μ (upd (adR μ.1 121 z (nI t) (nI a) (nI b)) 15 (nI (z + 1))) P' (nI (min (k + 1) 4)), min (k + 1) 4, ?_, rfl, ⟨rfl, rfl, rfl⟩, ?_, e3, rfl⟩
          · show _ = some (Sum.inr (nI z, nI (min (k + 1) 4), rsOf (upd (adR μ.1 121 z (nI t) (nI a) (nI b)) 15 (nI (z + 1))), S0', S1', S2', S3'))
            rw [rs_adF _ hz6]
            rfl
          · refine inv_frz (n := z + 1) (fun i i1 i2 i3 => ?_) hC hM hc hP hH hO (show upd (adR μ.1 121 z (nI t) (nI a) (nI b)) 15 (nI (z + 1)) 15 = nI (z + 1) from upd_at _ _ _) (by omega) (fun i hi => ?_)
            · show μ.1 i = upd (adR μ.1 121 z (nI t) (nI a) (nI b)) 15 (nI (z + 1)) i
              rw [upd_ne _ _ i2, adR_o _ _ _ _ (by omega)]
            · show ∃ t' a' b' : Nat, upd (adR μ.1 121 z (nI t) (nI a) (nI b)) 15 (nI (z + 1)) (121 + (3 * i + 0)) = nI t' ∧ upd (adR μ.1 121 z (nI t) (nI a) (nI b)) 15 (nI (z + 1)) (121 + (3 * i + 1)) = nI a' ∧ a' ≤ 999 ∧ upd (adR μ.1 121 z (nI t) (nI a) (nI b)) 15 (nI (z + 1)) (121 + (3 * i + 2)) = nI b' ∧ 1 ≤ b' ∧ b' ≤ 99 ∧ t' ≤ 3
              rw [upd_ne _ _ (by omega), upd_ne _ _ (by omega), upd_ne _ _ (by omega)]
              by_cases e : i = z
              · subst e
                rw [adR_0, adR_1, adR_2]
                exact ⟨t, a, b, rfl, rfl, ha, rfl, hb1, hb2, ht⟩
              · rw [adR_o _ _ _ _ (by omega), adR_o _ _ _ _ (by omega), adR_o _ _ _ _ (by omega)]
                exact hF i (by omega)
        · obtain rfl : z = 6 := by omega
          rw [if_neg hz6, bX_l, if_pos (show nI 6 = 6 from rfl), refd2, o_b, if_neg n10]
          exact Or.inl ⟨3, 0, rfl, by decide, rfl⟩
end ADC

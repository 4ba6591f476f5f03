/-! a step backed out: alike -/
section BK
variable {f g : Nat → Int32} {μ : MDS} {m c z p : Nat} {j : Nat}
def BackA (μ : MDS) (A : Option (Int32 × RS)) (B : Option RS) (C : Option (Int32 × MDS)) (m c z p : Nat) : Prop :=
  (∃ n : Nat, A = some (nI n, rsOf μ.1) ∧ C = some (nI n, μ) ∧ 1 ≤ n ∧ n ≤ 7) ∨ ∃ g, A = some (0, rsOf μ.1) ∧ B = some (rsOf g) ∧ C = some (0, s1 μ g) ∧ 1 ≤ p ∧ In g m c z (p - 1)
/-- the row behind it -/
def bkR (f : Nat → Int32) (n a : Nat) (r s q : Int32) : Nat → Int32 := upd (upd (plc f a r s q) 16 (nI n)) 18 (f 18 + 1)
theorem bkR_o (f : Nat → Int32) {n a i : Nat} (r s q : Int32) (h16 : i ≠ 16) (h18 : i ≠ 18) : bkR f n a r s q i = plc f a r s q i := by
  unfold bkR
  rw [upd_ne _ _ h18, upd_ne _ _ h16]
theorem c_doBack {n a : Nat} {r s q : Int32} (h : Cnt f m c z (n + 1)) (ha : a < m) (e0 : f (139 + (4 * n + 0)) = nI a) (e1 : f (139 + (4 * n + 1)) = r) (e2 : f (139 + (4 * n + 2)) = s) (e3 : f (139 + (4 * n + 3)) = q) : FX1_doBackOut (rsOf f) = some (rsOf (bkR f n a r s q)) := by
  have lm := h.lm
  have lp := h.lp
  unfold FX1_doBackOut
  have er : ∀ T, FX2_removeRow (20 : Int32) (4 : Int32) 80 (nI (n + 1), T) (nI n) = some (nI n, T) := fun T => by
    have := c_removeRow (pTm := 20) (C := 4) (N := 80) (n := n + 1) (j := n) T (by omega) (by omega) (by omega) (by omega)
    rw [Nat.add_sub_cancel, shR_0] at this
    exact this
  rw [nmv_eq, rz_ns, h.hp, nI_pred, aP0 h (by omega), o_b, aP1 h (by omega), o_b, aP2 h (by omega), o_b, aP3 h (by omega), o_b, e0, e1, e2, e3, c_place h ha, o_b, rz_ns, (cnt_plc h).hp, er, o_b, nmv_eq]
  unfold bkR
  rw [rs_18, rs_16]
  have o18 : plc f a r s q 18 = f 18 := plc_o _ _ _ _ _ (by omega) (by omega) (by omega)
  rw [upd_ne _ _ (show 13 ≠ 16 by omega), upd_ne _ _ (show 14 ≠ 16 by omega), upd_ne _ _ (show 15 ≠ 16 by omega), upd_at, upd_ne _ _ (show 11 ≠ 16 by omega), upd_ne _ _ (show 12 ≠ 16 by omega), upd_ne _ _ (show 17 ≠ 16 by omega), ← o18]
  rfl
theorem in_back {n a : Nat} {r s q : Int32} (h : In f m c z (n + 1)) (ha : a < m) (hq : ∃ b : Nat, q = nI b ∧ b ≤ 2) (hp : ∀ t : Nat, f (19 + (6 * a + 0)) = nI t → t ≤ 4 → Plc r s t) (hO' : IO (plc f a r s q) m) : In (bkR f n a r s q) m c z n := by
  obtain ⟨hC, hM, hc, hF, hP, hH, hO⟩ := h
  have lm := hC.lm
  have lc := hC.lc
  have lz := hC.lz
  have lp := hC.lp
  have o : ∀ k, k ≠ 16 → k ≠ 18 → plc f a r s q k = bkR f n a r s q k := fun k h1 h2 => (bkR_o _ _ _ _ h1 h2).symm
  refine ⟨?_, im_ext (fun k h1 h2 => o k (by omega) (by omega)) lm (im_plc hM hq hp), ic_ext (fun k h1 h2 => o k (by omega) (by omega)) lc (ic_plc (by omega) hc), if_ext (fun k h1 h2 => o k (by omega) (by omega)) lz (if_plc (by omega) hF), ?_, ih_ext (o 12 (by omega) (by omega)) (ih_plc hH), io_ext (j := 0) (fun k h1 h2 _ => o k (by omega) (by omega)) lm hO'⟩
  · obtain ⟨b1, b2, b3, -, r1, r2, r3, r4⟩ := cnt_plc (j := a) (r := r) (s := s) (q := q) hC
    refine ⟨(o _ (by omega) (by omega)).symm.trans b1, (o _ (by omega) (by omega)).symm.trans b2, (o _ (by omega) (by omega)).symm.trans b3, ?_, r1, r2, r3, by omega⟩
    unfold bkR
    rw [upd_ne _ _ (by omega), upd_at]
  · intro i hi
    have P0 := ip_plc (j := a) (r := r) (s := s) (q := q) (by omega) hP i (by omega)
    rw [o (139 + (4 * i + 0)) (by omega) (by omega), o (139 + (4 * i + 3)) (by omega) (by omega), o (139 + (4 * i + 1)) (by omega) (by omega), o (139 + (4 * i + 2)) (by omega) (by omega)] at P0
    obtain ⟨a', q', s', e1, e2, e3, e4, e5, e6⟩ := P0
    exact ⟨a', q', s', e1, e2, e3, e4, (o _ (by omega) (by omega)).symm.trans e5, e6⟩
theorem i139 (n : Nat) : (139 : Int32) + 4 * nI n = nI (139 + (4 * n + 0)) := by
  rw [show (4 : Int32) = nI 4 from rfl, show (139 : Int32) = nI 139 from rfl, pk_mul, nI_add]; rfl
theorem i139_1 (n : Nat) : nI (139 + (4 * n + 0)) + 1 = nI (139 + (4 * n + 1)) := by rw [nI_1]; rfl
theorem i139_2 (n : Nat) : nI (139 + (4 * n + 0)) + 2 = nI (139 + (4 * n + 2)) := by rw [show (2 : Int32) = nI 2 from rfl, nI_add]; rfl
theorem i139_3 (n : Nat) : nI (139 + (4 * n + 0)) + 3 = nI (139 + (4 * n + 3)) := by rw [show (3 : Int32) = nI 3 from rfl, nI_add]; rfl
theorem e_j89 {n a : Nat} {r s q : Int32} (h : In μ.1 m c z (n + 1)) (ha : a < m) (e1 : μ.1 (139 + (4 * n + 1)) = r) (e2 : μ.1 (139 + (4 * n + 2)) = s) (e3 : μ.1 (139 + (4 * n + 3)) = q) (hq : ∃ b : Nat, q = nI b ∧ b ≤ 2) (hp : ∀ t : Nat, μ.1 (19 + (6 * a + 0)) = nI t → t ≤ 4 → Plc r s t) : (∃ k : Nat, wr (plc μ.1 a r s q) m c = nI k ∧ 1 ≤ k ∧ k ≤ 7 ∧ FX4_backs_J89 μ (nI n) (nI a) = some (nI k, μ)) ∨ (wr (plc μ.1 a r s q) m c = 0 ∧ FX4_backs_J89 μ (nI n) (nI a) = some (0, s1 μ (bkR μ.1 n a r s q))) := by
  obtain ⟨hC, hM, hc, hF, hP, hH, hO⟩ := h
  have lm := hC.lm
  have lp := hC.lp
  have hw := e_wrong (μ := s1 μ (plc μ.1 a r s q)) (cnt_plc hC) (im_plc hM hq hp) (ic_plc (by omega) hc)
  have hw' : FX4_wrong (s1 μ (plc μ.1 a r s q)) = some (wr (plc μ.1 a r s q) m c) := hw
  have b16 : (s1 μ (plc μ.1 a r s q)).1 16 = nI (n + 1) := (cnt_plc hC).hp
  have b18 : upd (s1 μ (plc μ.1 a r s q)).1 16 (nI n) 18 = μ.1 18 := (upd_ne _ _ (by omega)).trans (plc_o _ _ _ _ _ (by omega) (by omega) (by omega))
  unfold FX4_backs_J89
  rw [oM4 (by omega), o_b, oM5 (by omega), o_b, oM2 (by omega), o_b, nmv_eq, i139, i139_1, gd_in (by omega) (by omega), nI_clamp (show 139 + (4 * n + 1) < 2 ^ 31 by omega), nmv_eq, i139_2, gd_in (by omega) (by omega), nI_clamp (show 139 + (4 * n + 2) < 2 ^ 31 by omega), nmv_eq, i139_3, gd_in (by omega) (by omega), nI_clamp (show 139 + (4 * n + 3) < 2 ^ 31 by omega), e1, e2, e3, e_places (by omega), o_b, hw', o_b]
  rcases wr_c (plc μ.1 a r s q) m c with hw | ⟨hw, -, k, e, g1, g2⟩
  · refine Or.inr ⟨hw, ?_⟩
    rw [if_pos (show wr (plc μ.1 a r s q) m c ≤ 0 by rw [hw]; decide), g16, cl16, b16, nI_pred, nmv_eq, gd_t (show ¬ ((16 : Int32) < 0 ∨ 219 ≤ 16) by decide), nmv_eq, cl18, gd_t (show ¬ ((18 : Int32) < 0 ∨ 219 ≤ 18) by decide), b18, nmv_eq, gd_t (show ¬ ((18 : Int32) < 0 ∨ 219 ≤ 18) by decide), nmv_eq]
    rfl
  · refine Or.inl ⟨k, e, g1, g2, ?_⟩
    rw [if_neg hw, e_places (by omega), o_b, e]
    show some (nI k, s1 (s1 μ (plc μ.1 a r s q)) (plc (plc μ.1 a r s q) a _ _ _)) = _
    rw [plc_back, s1_back]
theorem bk_sim (h : In μ.1 m c z p) : BackA μ (FX1_whyNotBackOut (rsOf μ.1)) (FX1_doBackOut (rsOf μ.1)) (FX4_backs μ) m c z p := by
  have hI := h
  obtain ⟨hC, hM, hc, hF, hP, hH, hO⟩ := h
  have lm := hC.lm
  have lp := hC.lp
  unfold FX1_whyNotBackOut FX4_backs
  rw [rz_ns, hC.hp, g16, cl16, hC.hp]
  by_cases hp0 : p = 0
  · subst hp0
    rw [if_pos (show nI 0 = 0 from rfl), if_pos (show nI 0 = 0 from rfl)]
    exact Or.inl ⟨2, rfl, rfl, by omega, by omega⟩
  · obtain ⟨n, rfl⟩ : ∃ n, p = n + 1 := ⟨p - 1, by omega⟩
    obtain ⟨a, q, s, e0, ha, e3, hq, es, hpl⟩ := hP n (by omega)
    obtain ⟨t, l, b, d, f0, t1, t4, -⟩ := hM a ha
    have hp : ∀ t' : Nat, μ.1 (19 + (6 * a + 0)) = nI t' → t' ≤ 4 → Plc (μ.1 (139 + (4 * n + 1))) (μ.1 (139 + (4 * n + 2))) t' := fun t' w1 w2 => by
      rcases hpl with hpl | ⟨x, y, g1, g2, g3, g4⟩
      · exact Or.inl hpl
      · have := nI_inj (es.symm.trans w1) (by omega) (by omega)
        subst this
        exact Or.inr ⟨x, y, g1, g2, g3, g4⟩
    have hq' : ∃ b : Nat, μ.1 (139 + (4 * n + 3)) = nI b ∧ b ≤ 2 := ⟨q, e3, hq⟩
    rw [if_neg (nI_ne0 (by omega) (by omega)), if_neg (nI_ne0 (by omega) (by omega)), nI_pred, nmv_eq, aP0 hC (by omega), o_b, aP1 hC (by omega), o_b, aP2 hC (by omega), o_b, gd_t (show ¬ ((16 : Int32) < 0 ∨ 219 ≤ 16) by decide), nmv_eq, i139, gd_in (by omega) (by omega), nI_clamp (show 139 + (4 * n + 0) < 2 ^ 31 by omega), nmv_eq, e0, c_isFrozen hC ha, e_isFrozen hC hF hH ha]
    by_cases hz : (firstFrom (qF μ.1 (μ.1 (19 + (6 * a + 3)))) 0 z).isSome = true
    · rw [if_pos hz, o_b, o_b, if_neg n10, if_neg n10]
      exact Or.inl ⟨1, rfl, rfl, by omega, by omega⟩
    · rw [if_neg hz, o_b, o_b, if_pos z00, if_pos z00, nmv_eq, i139_1, gd_in (by omega) (by omega), nI_clamp (show 139 + (4 * n + 1) < 2 ^ 31 by omega)]
      by_cases hR : μ.1 (139 + (4 * n + 1)) = -1
      · rw [if_pos hR, if_pos hR, aP3 hC (by omega), o_b, c_fww hC hc ha, o_b]
        have hO' : IO (plc μ.1 a (μ.1 (139 + (4 * n + 1))) (μ.1 (139 + (4 * n + 2))) (μ.1 (139 + (4 * n + 3)))) m := io_plc ha hM hO lm (Or.inl hR)
        rcases e_j89 hI ha rfl rfl rfl hq' hp with ⟨k, w1, w2, w3, w4⟩ | ⟨w1, w2⟩
        · rw [w1, w4]
          exact Or.inl ⟨k, rfl, rfl, w2, w3⟩
        · rw [w1, w2]
          exact Or.inr ⟨_, rfl, c_doBack hC ha e0 rfl rfl rfl, rfl, by omega, in_back hI ha hq' hp hO'⟩
      · have hpl' := hp t f0 t4
        rcases hpl' with ⟨w1, -⟩ | ⟨x, y, g1, g2, g3, g4⟩
        · exact absurd w1 hR
        · rw [if_neg hR, if_neg hR, rz_nm, hC.hm, aM0 hC ha, o_b, f0, g1, g3, c_machineWithin hC, o_b, nmv_eq, gd_in (by omega) (by omega), nI_clamp (show 139 + (4 * n + 1) < 2 ^ 31 by omega), nmv_eq, i139_2, gd_in (by omega) (by omega), nI_clamp (show 139 + (4 * n + 2) < 2 ^ 31 by omega), oM0 (by omega), o_b, f0, g1, g3, e_areFree hC hM hO g2 (by omega) t1 (nI a), o_b]
          rw [g1, g3] at hp
          by_cases hn : firstFrom (qW μ.1 (nI x) y t (nI a)) 0 m = none
          · rw [if_pos ((ffI_m1 (by omega)).mpr hn), if_pos (show y + t ≤ 10 ∧ firstFrom (qW μ.1 (nI x) y t (nI a)) 0 m = none from ⟨g4, hn⟩), if_neg n10, aP3 hC (by omega), o_b, c_fww hC hc ha, o_b]
            have hO' : IO (plc μ.1 a (nI x) (nI y) (μ.1 (139 + (4 * n + 3)))) m := io_plc ha hM hO lm (Or.inr ⟨x, y, t, rfl, g2, rfl, f0, t1, t4, g4, hn⟩)
            rcases e_j89 hI ha g1 g3 rfl hq' hp with ⟨k, w1, w2, w3, w4⟩ | ⟨w1, w2⟩
            · rw [w1, w4]
              exact Or.inl ⟨k, rfl, rfl, w2, w3⟩
            · rw [w1, w2]
              exact Or.inr ⟨_, rfl, c_doBack hC ha e0 g1 g3 rfl, rfl, by omega, in_back hI ha hq' hp hO'⟩
          · rw [if_neg (fun g => hn ((ffI_m1 (by omega)).mp g)), if_neg (show ¬ (y + t ≤ 10 ∧ firstFrom (qW μ.1 (nI x) y t (nI a)) 0 m = none) from fun g => hn g.2), if_pos z00]
            exact Or.inl ⟨3, rfl, rfl, by omega, by omega⟩
end BK

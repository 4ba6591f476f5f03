/-! the model's step when nothing is wrong -/
section STEPY
variable {f : Nat → Int32} {μ : MDS} {m c z p : Nat} {j : Nat} {r s q : Int32}
theorem l75 (μ : MDS) (g : Nat → Int32) (K : Int32 → MDS → Option (Int32 × MDS)) : ∀ d y fuel : Nat, y + d = 215 → d < fuel → 139 ≤ y → FX4_steps_L75 K fuel (nI y) (s1 μ (shR g 139 y 4)) = K (nI 215) (s1 μ (shR g 139 215 4)) := by
  intro d
  induction d with
  | zero =>
    intro y fuel hy hf ha
    obtain ⟨n', rfl⟩ : ∃ n', fuel = n' + 1 := ⟨fuel - 1, by omega⟩
    obtain rfl : y = 215 := by omega
    rw [FX4_steps_L75, if_pos (by decide)]
  | succ d ih =>
    intro y fuel hy hf ha
    obtain ⟨n', rfl⟩ : ∃ n', fuel = n' + 1 := ⟨fuel - 1, by omega⟩
    have ey : nI y + 4 = nI (y + 4) := nI_add y 4
    rw [FX4_steps_L75, if_neg (show ¬ (215 : Int32) ≤ nI y from nI_ge (b := 215) (by omega) (by omega)), ey, gd_in (by omega) (by omega), nI_clamp (show y + 4 < 2 ^ 31 by omega), nmv_eq, gd_in (by omega) (by omega), nI_clamp (show y < 2 ^ 31 by omega), nmv_eq, ← nI_succ]
    show FX4_steps_L75 K n' (nI (y + 1)) (s1 μ (upd (shR g 139 y 4) y (shR g 139 y 4 (y + 4)))) = _
    rw [shR_s g ha]
    exact ih (y + 1) n' (by omega) (by omega) (by omega)
theorem e_j116 (μ : MDS) (g : Nat → Int32) {n : Nat} (hn : n < 20) (hg : g 16 = nI n) (v0 v1 v2 v3 : Int32) : FX4_steps_J116 v0 v1 v2 v3 (s1 μ g) = some (0, s1 μ (pu4 g n v0 v1 v2 v3)) := by
  have b16 : (s1 μ g).1 16 = nI n := hg
  have e4 : (139 : Int32) + 4 * nI n = nI (139 + (4 * n + 0)) := by
    rw [show (4 : Int32) = nI 4 from rfl, show (139 : Int32) = nI 139 from rfl, pk_mul, nI_add]; rfl
  have e1 : nI (139 + (4 * n + 0)) + 1 = nI (139 + (4 * n + 1)) := by rw [nI_1]; rfl
  have e2 : nI (139 + (4 * n + 0)) + 2 = nI (139 + (4 * n + 2)) := by rw [show (2 : Int32) = nI 2 from rfl, nI_add]; rfl
  have e3 : nI (139 + (4 * n + 0)) + 3 = nI (139 + (4 * n + 3)) := by rw [show (3 : Int32) = nI 3 from rfl, nI_add]; rfl
  have c16 : upd (upd (upd (upd (s1 μ g).1 (139 + (4 * n + 0)) v0) (139 + (4 * n + 1)) v1) (139 + (4 * n + 2)) v2) (139 + (4 * n + 3)) v3 16 = nI n := by
    rw [upd_ne _ _ (by omega), upd_ne _ _ (by omega), upd_ne _ _ (by omega), upd_ne _ _ (by omega)]; exact hg
  have c17 : upd (upd (upd (upd (upd (s1 μ g).1 (139 + (4 * n + 0)) v0) (139 + (4 * n + 1)) v1) (139 + (4 * n + 2)) v2) (139 + (4 * n + 3)) v3) 16 (nI (n + 1)) 17 = g 17 := by
    rw [upd_ne _ _ (by omega), upd_ne _ _ (by omega), upd_ne _ _ (by omega), upd_ne _ _ (by omega), upd_ne _ _ (by omega)]; rfl
  unfold FX4_steps_J116
  rw [g16, cl16, b16, nmv_eq, e4, nmv_eq, gd_in (by omega) (by omega), nI_clamp (show 139 + (4 * n + 0) < 2 ^ 31 by omega), nmv_eq, e1, gd_in (by omega) (by omega), nI_clamp (show 139 + (4 * n + 1) < 2 ^ 31 by omega), nmv_eq, e2, gd_in (by omega) (by omega), nI_clamp (show 139 + (4 * n + 2) < 2 ^ 31 by omega), nmv_eq, e3, gd_in (by omega) (by omega), nI_clamp (show 139 + (4 * n + 3) < 2 ^ 31 by omega), nmv_eq, gd_t (show ¬ ((16 : Int32) < 0 ∨ 219 ≤ 16) by decide), c16, nmv_eq, gd_t (show ¬ ((16 : Int32) < 0 ∨ 219 ≤ 16) by decide), ← nI_succ, nmv_eq, cl17, gd_t (show ¬ ((17 : Int32) < 0 ∨ 219 ≤ 17) by decide), c17, nmv_eq, gd_t (show ¬ ((17 : Int32) < 0 ∨ 219 ≤ 17) by decide), nmv_eq]
  rfl
theorem e_steps_yes (h : Cnt μ.1 m c z p) (hM : IM μ.1 m) (hc : IC μ.1 m c) (hj : j < m) (hq : ∃ b : Nat, q = nI b ∧ b ≤ 2) (hp : ∀ t : Nat, μ.1 (19 + (6 * j + 0)) = nI t → t ≤ 4 → Plc r s t) (hw : wr (plc μ.1 j r s q) m c ≤ 0) : FX4_steps μ (nI j) r s q = some (0, s1 μ (puR (plc μ.1 j r s q) p (nI j) (μ.1 (19 + (6 * j + 4))) (μ.1 (19 + (6 * j + 5))) (μ.1 (19 + (6 * j + 2))))) := by
  have hm := h.lm
  have lp := h.lp
  unfold FX4_steps
  rw [oM4 (by omega), o_b, oM5 (by omega), o_b, oM2 (by omega), o_b, e_places (by omega), o_b, e_wrong (μ := s1 μ (plc μ.1 j r s q)) (cnt_plc h) (im_plc hM hq hp) (ic_plc (by omega) hc), o_b]
  show (if wr (plc μ.1 j r s q) m c ≤ 0 then _ else _) = _
  have b16 : (s1 μ (plc μ.1 j r s q)).1 16 = nI p := (cnt_plc h).hp
  rw [if_pos hw, g16, cl16, b16]
  unfold puR
  by_cases hp20 : p = 20
  · subst hp20
    rw [if_pos (show nI 20 = 20 from rfl), if_pos rfl]
    have e0 : s1 μ (plc μ.1 j r s q) = s1 μ (shR (plc μ.1 j r s q) 139 139 4) := by rw [shR_0]
    rw [e0]
    refine (l75 μ (plc μ.1 j r s q) _ 76 139 FU (by omega) (by decide) (Nat.le_refl _)).trans ?_
    show gd (¬ ((16 : Int32) < 0 ∨ 219 ≤ 16)) (nmv ((shR (plc μ.1 j r s q) 139 215 4) 16) fun u19 => _) = _
    have b2 : shR (plc μ.1 j r s q) 139 215 4 16 = nI 20 := (shR_oC _ (by omega)).trans b16
    rw [gd_t (show ¬ ((16 : Int32) < 0 ∨ 219 ≤ 16) by decide), b2, nmv_eq, gd_t (show ¬ ((16 : Int32) < 0 ∨ 219 ≤ 16) by decide), nmv_eq, show nI 20 - 1 = nI 19 from nI_pred 19]
    exact e_j116 μ (g20 (plc μ.1 j r s q)) (by omega) (upd_at _ _ _) _ _ _ _
  · rw [if_neg (show ¬ nI p = 20 from fun e => hp20 (nI_inj (b := 20) e (by omega) (by omega))), if_neg hp20]
    exact e_j116 μ (plc μ.1 j r s q) (by omega) b16 _ _ _ _
theorem wr_c (f : Nat → Int32) (m c : Nat) : wr f m c = 0 ∨ (¬ wr f m c ≤ 0 ∧ ¬ wr f m c = 0 ∧ ∃ n : Nat, wr f m c = nI n ∧ 1 ≤ n ∧ n ≤ 7) := by
  unfold wr
  cases firstFrom (fun i => decide (¬ sumTo (gl f (nI i) (-1)) m ≤ f i)) 0 6 with
  | some _ => exact Or.inr ⟨show ¬ (4 : Int32) ≤ 0 by decide, show ¬ (4 : Int32) = 0 by decide, 4, rfl, by omega, by omega⟩
  | none =>
    cases firstFrom (fun i => decide (¬ sumTo (gt f (nI i)) c ≤ f (6 + i))) 0 5 with
    | some _ => exact Or.inr ⟨show ¬ (5 : Int32) ≤ 0 by decide, show ¬ (5 : Int32) = 0 by decide, 5, rfl, by omega, by omega⟩
    | none =>
      cases firstFrom (fun i => decide (¬ gn f i ≤ f (91 + (3 * i + 2)))) 0 c with
      | some _ => exact Or.inr ⟨show ¬ (6 : Int32) ≤ 0 by decide, show ¬ (6 : Int32) = 0 by decide, 6, rfl, by omega, by omega⟩
      | none =>
        by_cases h : gd3 f m ≤ f 11
        · exact Or.inl (if_pos h)
        · have e : (if gd3 f m ≤ f 11 then (0 : Int32) else 7) = 7 := if_neg h
          show (if gd3 f m ≤ f 11 then (0 : Int32) else 7) = 0 ∨ (¬ (if gd3 f m ≤ f 11 then (0 : Int32) else 7) ≤ 0 ∧ ¬ (if gd3 f m ≤ f 11 then (0 : Int32) else 7) = 0 ∧ ∃ n : Nat, (if gd3 f m ≤ f 11 then (0 : Int32) else 7) = nI n ∧ 1 ≤ n ∧ n ≤ 7)
          rw [e]
          exact Or.inr ⟨by decide, by decide, 7, rfl, by omega, by omega⟩
end STEPY

/-! saving: rooms copied, the row 'past' -/
def Zr (ρ : RS) : Prop := (∀ k, 72 ≤ k → ρ.1 k = 0) ∧ (∀ k, 30 ≤ k → ρ.2.1 k = 0) ∧ (∀ k, 18 ≤ k → ρ.2.2.1 k = 0) ∧ (∀ k, 80 ≤ k → ρ.2.2.2.1 k = 0) ∧ (∀ k, 6 ≤ k → ρ.2.2.2.2.1 k = 0) ∧ (∀ k, 5 ≤ k → ρ.2.2.2.2.2.1 k = 0)
theorem zr_rsOf (f : Nat → Int32) : Zr (rsOf f) := ⟨fun k h => if_neg (by omega), fun k h => if_neg (by omega), fun k h => if_neg (by omega), fun k h => if_neg (by omega), fun k h => if_neg (by omega), fun k h => if_neg (by omega)⟩
theorem cpy_eq {f g : Nat → Int32} {n : Nat} (hf : ∀ k, n ≤ k → f k = 0) (hg : ∀ k, n ≤ k → g k = 0) : va_cpy f g 0 0 n = f := by
  funext k
  unfold va_cpy
  by_cases h : k < n
  · rw [if_pos ⟨by omega, by omega⟩]; congr 1; omega
  · rw [if_neg (fun q => h (by omega)), hf k (by omega), hg k (by omega)]
theorem tcopy {pTm pTc pUm pUc : Int32} {n : Nat} {T U : TBS} (hn : n < 1000) (hT : ∀ k, n ≤ k → T.2 k = 0) (hU : ∀ k, n ≤ k → U.2 k = 0) : FX2_copyFrom pTm pTc n pUm pUc n T U = some U := by
  unfold FX2_copyFrom
  have e : (Int32.ofNat n).toNatClampNeg = n := nI_clamp (n := n) (by omega)
  have e0 : ((0 : Int32)).toNatClampNeg = 0 := by decide
  rw [if_pos rfl, e, e0, gd_t ⟨by decide, by decide, nI_pos (n := n) (by omega), by omega, by omega⟩, cpy_eq hU hT]
theorem rcopy {ρ σ : RS} (hρ : Zr ρ) (hσ : Zr σ) : FX1_copyFrom ρ σ = some σ := by
  obtain ⟨a1, a2, a3, a4, a5, a6⟩ := hρ
  obtain ⟨b1, b2, b3, b4, b5, b6⟩ := hσ
  unfold FX1_copyFrom
  rw [tcopy (by omega) a1 b1, o_b, tcopy (by omega) a2 b2, o_b, tcopy (by omega) a3 b3, o_b, tcopy (by omega) a4 b4, o_b, gd_t (by decide), gd_t (by decide), show ((0 : Int32)).toNatClampNeg = 0 from by decide, show ((6 : Int32)).toNatClampNeg = 6 from by decide, show ((5 : Int32)).toNatClampNeg = 5 from by decide, cpy_eq b5 a5, cpy_eq b6 a6]
theorem rs_ext {f g : Nat → Int32} (h : ∀ k, k < 219 → f k = g k) : rsOf f = rsOf g := by
  unfold rsOf
  have e : ∀ (n b : Nat), b + n ≤ 219 → (fun k => if k < n then f (b + k) else 0) = (fun k => if k < n then g (b + k) else (0 : Int32)) := fun n b hb => by
    funext k
    by_cases hk : k < n
    · rw [if_pos hk, if_pos hk, h _ (by omega)]
    · rw [if_neg hk, if_neg hk]
  have e6 : (fun k => if k < 6 then f k else 0) = (fun k => if k < 6 then g k else (0 : Int32)) := by
    funext k
    by_cases hk : k < 6
    · rw [if_pos hk, if_pos hk, h _ (by omega)]
    · rw [if_neg hk, if_neg hk]
  rw [e 72 19 (by omega), e 30 91 (by omega), e 18 121 (by omega), e 80 139 (by omega), e 5 6 (by omega), e6, h 13 (by omega), h 14 (by omega), h 15 (by omega), h 16 (by omega), h 11 (by omega), h 12 (by omega), h 17 (by omega), h 18 (by omega)]
def sp (μ : MDS) (P : Nat → Int32) (s : Int32) : MDS := (μ.1, P, μ.2.2.1, μ.2.2.2.1, μ.2.2.2.2.1, s, μ.2.2.2.2.2.2.1, μ.2.2.2.2.2.2.2.1, μ.2.2.2.2.2.2.2.2.1, μ.2.2.2.2.2.2.2.2.2.1, μ.2.2.2.2.2.2.2.2.2.2.1, μ.2.2.2.2.2.2.2.2.2.2.2.1, μ.2.2.2.2.2.2.2.2.2.2.2.2)
def shP (P : Nat → Int32) (j : Nat) : Nat → Int32 := fun k => if k < j then P (k + 219) else P k
def stP (P g : Nat → Int32) (b j : Nat) : Nat → Int32 := fun k => if b ≤ k ∧ k < b + j then g (k - b) else P k
theorem shP_s (P : Nat → Int32) (j : Nat) : upd (shP P j) j (P (j + 219)) = shP P (j + 1) := by
  funext k
  unfold upd shP
  by_cases h : k = j
  · rw [if_pos h, if_pos (by omega), h]
  · rw [if_neg h]
    by_cases h2 : k < j
    · rw [if_pos h2, if_pos (by omega)]
    · rw [if_neg h2, if_neg (by omega)]
theorem stP_s (P g : Nat → Int32) (b j : Nat) : upd (stP P g b j) (b + j) (g j) = stP P g b (j + 1) := by
  funext k
  unfold upd stP
  by_cases h : k = b + j
  · rw [if_pos h, if_pos ⟨by omega, by omega⟩]; congr 1; omega
  · rw [if_neg h]
    by_cases h2 : b ≤ k ∧ k < b + j
    · rw [if_pos h2, if_pos ⟨h2.1, by omega⟩]
    · rw [if_neg h2, if_neg (fun q => h2 ⟨q.1, by omega⟩)]
theorem l10_now (μ : MDS) (P : Nat → Int32) (s : Int32) (K : Int32 → MDS → Option MDS) : ∀ d j n : Nat, j + d = 657 → d < n → FX4_savesFrom_now_L10 K n (nI j) (sp μ (shP P j) s) = K (nI 657) (sp μ (shP P 657) s) := by
  intro d
  induction d with
  | zero =>
    intro j n hj hn
    obtain ⟨n', rfl⟩ : ∃ n', n = n' + 1 := ⟨n - 1, by omega⟩
    obtain rfl : j = 657 := by omega
    rw [FX4_savesFrom_now_L10, if_pos (by decide)]
  | succ d ih =>
    intro j n hj hn
    obtain ⟨n', rfl⟩ : ∃ n', n = n' + 1 := ⟨n - 1, by omega⟩
    have e : nI j + 219 = nI (j + 219) := nI_add j 219
    rw [FX4_savesFrom_now_L10, if_neg (show ¬ (657 : Int32) ≤ nI j from nI_ge (b := 657) (by omega) (by omega)), e, gd_in (by omega) (by omega), nI_clamp (show j + 219 < 2 ^ 31 by omega), nmv_eq, gd_in (by omega) (by omega), nI_clamp (show j < 2 ^ 31 by omega), nmv_eq, ← nI_succ]
    have e2 : (sp μ (shP P j) s).2.1 (j + 219) = P (j + 219) := if_neg (by omega)
    rw [e2]
    show FX4_savesFrom_now_L10 K n' (nI (j + 1)) (sp μ (upd (shP P j) j (P (j + 219))) s) = _
    rw [shP_s]
    exact ih (j + 1) n' (by omega) (by omega)
theorem l51_now (μ : MDS) (P : Nat → Int32) {q : Nat} (hq : q ≤ 3) (K : Int32 → MDS → Option MDS) : ∀ d j n : Nat, j + d = 219 → d < n → FX4_savesFrom_now_L51 K n (nI j) (sp μ (stP P μ.1 (219 * q) j) (nI q)) = K (nI 219) (sp μ (stP P μ.1 (219 * q) 219) (nI q)) := by
  intro d
  induction d with
  | zero =>
    intro j n hj hn
    obtain ⟨n', rfl⟩ : ∃ n', n = n' + 1 := ⟨n - 1, by omega⟩
    obtain rfl : j = 219 := by omega
    rw [FX4_savesFrom_now_L51, if_pos (by decide)]
  | succ d ih =>
    intro j n hj hn
    obtain ⟨n', rfl⟩ : ∃ n', n = n' + 1 := ⟨n - 1, by omega⟩
    have e : (219 : Int32) * (sp μ (stP P μ.1 (219 * q) j) (nI q)).2.2.2.2.2.1 + nI j = nI (219 * q + j) := by
      show (219 : Int32) * nI q + nI j = _
      rw [show (219 : Int32) = nI 219 from rfl, pk_mul, nI_add]
    rw [FX4_savesFrom_now_L51, if_neg (show ¬ (219 : Int32) ≤ nI j from nI_ge (b := 219) (by omega) (by omega)), nmv_eq, e, gd_in (by omega) (by omega), gd_in (by omega) (by omega), nI_clamp (show j < 2 ^ 31 by omega), nI_clamp (show 219 * q + j < 2 ^ 31 by omega), nmv_eq, ← nI_succ]
    show FX4_savesFrom_now_L51 K n' (nI (j + 1)) (sp μ (upd (stP P μ.1 (219 * q) j) (219 * q + j) (μ.1 j)) (nI q)) = _
    rw [stP_s]
    exact ih (j + 1) n' (by omega) (by omega)
/-- the row 'past' behind a saving -/
theorem saves_now (μ : MDS) {k : Nat} (hk : k ≤ 4) (hs : μ.2.2.2.2.2.1 = nI k) : ∃ P', FX4_savesFrom_now μ = some (sp μ P' (nI (min (k + 1) 4))) ∧ (∀ x, x < 219 → P' (219 * (min (k + 1) 4 - 1) + x) = μ.1 x) ∧ ∀ i, i < min (k + 1) 4 - 1 → ∀ x, x < 219 → P' (219 * i + x) = μ.2.1 (219 * (i + (if k = 4 then 1 else 0)) + x) := by
  have J : ∀ (P : Nat → Int32) (q : Nat), q ≤ 3 → FX4_savesFrom_now_J49 (sp μ P (nI q)) = some (sp μ (stP P μ.1 (219 * q) 219) (nI (q + 1))) := by
    intro P q hq
    unfold FX4_savesFrom_now_J49
    have e0 : stP P μ.1 (219 * q) 0 = P := by
      funext x
      unfold stP
      rw [if_neg (fun h => by omega)]
    have := l51_now μ P hq (fun (y9_2 : Int32) (s9_μ : MDS) => some (s9_μ.1, s9_μ.2.1, s9_μ.2.2.1, s9_μ.2.2.2.1, s9_μ.2.2.2.2.1, s9_μ.2.2.2.2.2.1 + (1 : Int32), s9_μ.2.2.2.2.2.2.1, s9_μ.2.2.2.2.2.2.2.1, s9_μ.2.2.2.2.2.2.2.2.1, s9_μ.2.2.2.2.2.2.2.2.2.1, s9_μ.2.2.2.2.2.2.2.2.2.2.1, s9_μ.2.2.2.2.2.2.2.2.2.2.2.1, s9_μ.2.2.2.2.2.2.2.2.2.2.2.2)) 219 0 FU (by omega) (by decide)
    rw [e0] at this
    refine this.trans ?_
    rw [nI_succ]
    rfl
  unfold FX4_savesFrom_now
  rw [hs]
  by_cases h4 : k = 4
  · subst h4
    rw [if_pos (show nI 4 = 4 from rfl)]
    refine ⟨stP (shP μ.2.1 657) μ.1 (219 * 3) 219, ?_, ?_, ?_⟩
    · have e0 : shP μ.2.1 0 = μ.2.1 := by funext x; unfold shP; rw [if_neg (by omega)]
      have hμ : sp μ (shP μ.2.1 0) (nI 4) = μ := by rw [e0, ← hs]; rfl
      have := l10_now μ μ.2.1 (nI 4) (fun (y4_2 : Int32) (s4_μ : MDS) => FX4_savesFrom_now_J49 (s4_μ.1, s4_μ.2.1, s4_μ.2.2.1, s4_μ.2.2.2.1, s4_μ.2.2.2.2.1, s4_μ.2.2.2.2.2.1 - (1 : Int32), s4_μ.2.2.2.2.2.2.1, s4_μ.2.2.2.2.2.2.2.1, s4_μ.2.2.2.2.2.2.2.2.1, s4_μ.2.2.2.2.2.2.2.2.2.1, s4_μ.2.2.2.2.2.2.2.2.2.2.1, s4_μ.2.2.2.2.2.2.2.2.2.2.2.1, s4_μ.2.2.2.2.2.2.2.2.2.2.2.2)) 657 0 FU (by omega) (by decide)
      rw [hμ] at this
      refine this.trans ?_
      show FX4_savesFrom_now_J49 (sp μ (shP μ.2.1 657) (nI 4 - 1)) = _
      rw [show nI 4 - 1 = nI 3 from nI_pred 3, J _ 3 (by omega)]
      rfl
    · intro x hx
      show stP _ _ _ _ (219 * 3 + x) = _
      unfold stP
      rw [if_pos ⟨by omega, by omega⟩, show 219 * 3 + x - 219 * 3 = x by omega]
    · intro i hi x hx
      have hi : i < 3 := hi
      rw [if_pos rfl]
      unfold stP shP
      rw [if_neg (fun h => by omega), if_pos (by omega), show 219 * i + x + 219 = 219 * (i + 1) + x by omega]
  · rw [if_neg (show ¬ nI k = 4 from fun e => h4 (nI_inj (b := 4) e (by omega) (by omega)))]
    have hm : min (k + 1) 4 = k + 1 := by omega
    refine ⟨stP μ.2.1 μ.1 (219 * k) 219, ?_, ?_, ?_⟩
    · have hμ : sp μ μ.2.1 (nI k) = μ := by rw [← hs]; rfl
      have := J μ.2.1 k (by omega)
      rw [hμ] at this
      rw [this, hm]
    · intro x hx
      rw [hm]
      unfold stP
      rw [if_pos ⟨by omega, by omega⟩, show 219 * (k + 1 - 1) + x - 219 * k = x by omega]
    · intro i hi x hx
      rw [if_neg h4]
      unfold stP
      rw [if_neg (fun h => by omega)]; rfl
theorem l10_aside (μ : MDS) (P : Nat → Int32) (s : Int32) (K : Int32 → MDS → Option MDS) : ∀ d j n : Nat, j + d = 657 → d < n → FX4_savesFrom_aside_L10 K n (nI j) (sp μ (shP P j) s) = K (nI 657) (sp μ (shP P 657) s) := by
  intro d
  induction d with
  | zero =>
    intro j n hj hn
    obtain ⟨n', rfl⟩ : ∃ n', n = n' + 1 := ⟨n - 1, by omega⟩
    obtain rfl : j = 657 := by omega
    rw [FX4_savesFrom_aside_L10, if_pos (by decide)]
  | succ d ih =>
    intro j n hj hn
    obtain ⟨n', rfl⟩ : ∃ n', n = n' + 1 := ⟨n - 1, by omega⟩
    have e : nI j + 219 = nI (j + 219) := nI_add j 219
    rw [FX4_savesFrom_aside_L10, if_neg (show ¬ (657 : Int32) ≤ nI j from nI_ge (b := 657) (by omega) (by omega)), e, gd_in (by omega) (by omega), nI_clamp (show j + 219 < 2 ^ 31 by omega), nmv_eq, gd_in (by omega) (by omega), nI_clamp (show j < 2 ^ 31 by omega), nmv_eq, ← nI_succ]
    have e2 : (sp μ (shP P j) s).2.1 (j + 219) = P (j + 219) := if_neg (by omega)
    rw [e2]
    show FX4_savesFrom_aside_L10 K n' (nI (j + 1)) (sp μ (upd (shP P j) j (P (j + 219))) s) = _
    rw [shP_s]
    exact ih (j + 1) n' (by omega) (by omega)
theorem l51_aside (μ : MDS) (P : Nat → Int32) {q : Nat} (hq : q ≤ 3) (K : Int32 → MDS → Option MDS) : ∀ d j n : Nat, j + d = 219 → d < n → FX4_savesFrom_aside_L51 K n (nI j) (sp μ (stP P μ.2.2.1 (219 * q) j) (nI q)) = K (nI 219) (sp μ (stP P μ.2.2.1 (219 * q) 219) (nI q)) := by
  intro d
  induction d with
  | zero =>
    intro j n hj hn
    obtain ⟨n', rfl⟩ : ∃ n', n = n' + 1 := ⟨n - 1, by omega⟩
    obtain rfl : j = 219 := by omega
    rw [FX4_savesFrom_aside_L51, if_pos (by decide)]
  | succ d ih =>
    intro j n hj hn
    obtain ⟨n', rfl⟩ : ∃ n', n = n' + 1 := ⟨n - 1, by omega⟩
    have e : (219 : Int32) * (sp μ (stP P μ.2.2.1 (219 * q) j) (nI q)).2.2.2.2.2.1 + nI j = nI (219 * q + j) := by
      show (219 : Int32) * nI q + nI j = _
      rw [show (219 : Int32) = nI 219 from rfl, pk_mul, nI_add]
    rw [FX4_savesFrom_aside_L51, if_neg (show ¬ (219 : Int32) ≤ nI j from nI_ge (b := 219) (by omega) (by omega)), nmv_eq, e, gd_in (by omega) (by omega), gd_in (by omega) (by omega), nI_clamp (show j < 2 ^ 31 by omega), nI_clamp (show 219 * q + j < 2 ^ 31 by omega), nmv_eq, ← nI_succ]
    show FX4_savesFrom_aside_L51 K n' (nI (j + 1)) (sp μ (upd (stP P μ.2.2.1 (219 * q) j) (219 * q + j) (μ.2.2.1 j)) (nI q)) = _
    rw [stP_s]
    exact ih (j + 1) n' (by omega) (by omega)
/-- the row 'past' behind a saving -/
theorem saves_aside (μ : MDS) {k : Nat} (hk : k ≤ 4) (hs : μ.2.2.2.2.2.1 = nI k) : ∃ P', FX4_savesFrom_aside μ = some (sp μ P' (nI (min (k + 1) 4))) ∧ (∀ x, x < 219 → P' (219 * (min (k + 1) 4 - 1) + x) = μ.2.2.1 x) ∧ ∀ i, i < min (k + 1) 4 - 1 → ∀ x, x < 219 → P' (219 * i + x) = μ.2.1 (219 * (i + (if k = 4 then 1 else 0)) + x) := by
  have J : ∀ (P : Nat → Int32) (q : Nat), q ≤ 3 → FX4_savesFrom_aside_J49 (sp μ P (nI q)) = some (sp μ (stP P μ.2.2.1 (219 * q) 219) (nI (q + 1))) := by
    intro P q hq
    unfold FX4_savesFrom_aside_J49
    have e0 : stP P μ.2.2.1 (219 * q) 0 = P := by
      funext x
      unfold stP
      rw [if_neg (fun h => by omega)]
    have := l51_aside μ P hq (fun (y9_2 : Int32) (s9_μ : MDS) => some (s9_μ.1, s9_μ.2.1, s9_μ.2.2.1, s9_μ.2.2.2.1, s9_μ.2.2.2.2.1, s9_μ.2.2.2.2.2.1 + (1 : Int32), s9_μ.2.2.2.2.2.2.1, s9_μ.2.2.2.2.2.2.2.1, s9_μ.2.2.2.2.2.2.2.2.1, s9_μ.2.2.2.2.2.2.2.2.2.1, s9_μ.2.2.2.2.2.2.2.2.2.2.1, s9_μ.2.2.2.2.2.2.2.2.2.2.2.1, s9_μ.2.2.2.2.2.2.2.2.2.2.2.2)) 219 0 FU (by omega) (by decide)
    rw [e0] at this
    refine this.trans ?_
    rw [nI_succ]
    rfl
  unfold FX4_savesFrom_aside
  rw [hs]
  by_cases h4 : k = 4
  · subst h4
    rw [if_pos (show nI 4 = 4 from rfl)]
    refine ⟨stP (shP μ.2.1 657) μ.2.2.1 (219 * 3) 219, ?_, ?_, ?_⟩
    · have e0 : shP μ.2.1 0 = μ.2.1 := by funext x; unfold shP; rw [if_neg (by omega)]
      have hμ : sp μ (shP μ.2.1 0) (nI 4) = μ := by rw [e0, ← hs]; rfl
      have := l10_aside μ μ.2.1 (nI 4) (fun (y4_2 : Int32) (s4_μ : MDS) => FX4_savesFrom_aside_J49 (s4_μ.1, s4_μ.2.1, s4_μ.2.2.1, s4_μ.2.2.2.1, s4_μ.2.2.2.2.1, s4_μ.2.2.2.2.2.1 - (1 : Int32), s4_μ.2.2.2.2.2.2.1, s4_μ.2.2.2.2.2.2.2.1, s4_μ.2.2.2.2.2.2.2.2.1, s4_μ.2.2.2.2.2.2.2.2.2.1, s4_μ.2.2.2.2.2.2.2.2.2.2.1, s4_μ.2.2.2.2.2.2.2.2.2.2.2.1, s4_μ.2.2.2.2.2.2.2.2.2.2.2.2)) 657 0 FU (by omega) (by decide)
      rw [hμ] at this
      refine this.trans ?_
      show FX4_savesFrom_aside_J49 (sp μ (shP μ.2.1 657) (nI 4 - 1)) = _
      rw [show nI 4 - 1 = nI 3 from nI_pred 3, J _ 3 (by omega)]
      rfl
    · intro x hx
      show stP _ _ _ _ (219 * 3 + x) = _
      unfold stP
      rw [if_pos ⟨by omega, by omega⟩, show 219 * 3 + x - 219 * 3 = x by omega]
    · intro i hi x hx
      have hi : i < 3 := hi
      rw [if_pos rfl]
      unfold stP shP
      rw [if_neg (fun h => by omega), if_pos (by omega), show 219 * i + x + 219 = 219 * (i + 1) + x by omega]
  · rw [if_neg (show ¬ nI k = 4 from fun e => h4 (nI_inj (b := 4) e (by omega) (by omega)))]
    have hm : min (k + 1) 4 = k + 1 := by omega
    refine ⟨stP μ.2.1 μ.2.2.1 (219 * k) 219, ?_, ?_, ?_⟩
    · have hμ : sp μ μ.2.1 (nI k) = μ := by rw [← hs]; rfl
      have := J μ.2.1 k (by omega)
      rw [hμ] at this
      rw [this, hm]
    · intro x hx
      rw [hm]
      unfold stP
      rw [if_pos ⟨by omega, by omega⟩, show 219 * (k + 1 - 1) + x - 219 * k = x by omega]
    · intro i hi x hx
      rw [if_neg h4]
      unfold stP
      rw [if_neg (fun h => by omega)]; rfl

/-! digest: alike -/
def mixTo (v : Nat → Int32) : Nat → Int64 → Int64
  | 0, H => H
  | n + 1, H => 31 * mixTo v n H + (v n).toInt64
theorem mixTo_add (v : Nat → Int32) (b : Nat) (H : Int64) : ∀ n, mixTo (fun w => v (b + w)) n (mixTo v b H) = mixTo v (b + n) H := by
  intro n
  induction n with
  | zero => rfl
  | succ n ih =>
    show 31 * mixTo (fun w => v (b + w)) n (mixTo v b H) + _ = 31 * mixTo v (b + n) H + _
    rw [ih]
    rfl
theorem mixTo_ext {v v' : Nat → Int32} (H : Int64) : ∀ n, (∀ i, i < n → v i = v' i) → mixTo v n H = mixTo v' n H := by
  intro n
  induction n with
  | zero => intro _; rfl
  | succ n ih =>
    intro h
    show 31 * mixTo v n H + (v n).toInt64 = 31 * mixTo v' n H + (v' n).toInt64
    rw [ih (fun i hi => h i (by omega)), h n (by omega)]
theorem loop_st {σ β : Type} {Lp : Nat → Int32 → σ → Option β} {K : Int32 → σ → Option β} (N : Nat) (st : Nat → σ) (hN : N < 1000)
    (h1 : ∀ n, Lp (n + 1) (nI N) (st N) = K (nI N) (st N)) (h2 : ∀ n j, j < N → Lp (n + 1) (nI j) (st j) = Lp n (nI (j + 1)) (st (j + 1))) : Lp FU 0 (st 0) = K (nI N) (st N) := by
  have key : ∀ d j n : Nat, j + d = N → d < n → Lp n (nI j) (st j) = K (nI N) (st N) := by
    intro d
    induction d with
    | zero =>
      intro j n hj hn
      obtain ⟨n', rfl⟩ : ∃ n', n = n' + 1 := ⟨n - 1, by omega⟩
      obtain rfl : j = N := by omega
      exact h1 _
    | succ d ih =>
      intro j n hj hn
      obtain ⟨n', rfl⟩ : ∃ n', n = n' + 1 := ⟨n - 1, by omega⟩
      rw [h2 n' j (by omega)]
      exact ih (j + 1) n' (by omega) (by omega)
  exact key N 0 FU (by omega) hN
def hz (μ : MDS) (H : Int64) : MDS := (μ.1, μ.2.1, μ.2.2.1, μ.2.2.2.1, μ.2.2.2.2.1, μ.2.2.2.2.2.1, 0, μ.2.2.2.2.2.2.2.1, μ.2.2.2.2.2.2.2.2.1, μ.2.2.2.2.2.2.2.2.2.1, μ.2.2.2.2.2.2.2.2.2.2.1, μ.2.2.2.2.2.2.2.2.2.2.2.1, H)
theorem hz_mix (μ : MDS) (H : Int64) (x : Int32) : FX4_mix (hz μ H) x = some (hz μ (31 * H + x.toInt64)) := rfl
theorem c_mix (H : Int64) (x : Int32) : FX3_mix H x = some (31 * H + x.toInt64) := rfl
theorem bN_r {α β : Type} (v : α) (f : α → Option β) : bN (some (.inr v)) f = f v := rfl
/-- what was told -/
def val (x : Option (Nat ⊕ Int32)) : Int32 := match x with
  | some (.inr v) => v
  | _ => 0
theorem rg_ok {k b : Nat} (hk : k ≤ b) (hb : b < 1000) : FX3_checkRange (nI k) 0 (nI b) = some (.inr ()) := by
  rcases range_chk (nI k) 0 (nI b) with ⟨-, g2⟩ | ⟨g, -⟩
  · unfold FX4_in at g2
    rw [if_neg (nI_pos (by omega)), if_neg (nI_nlt hk (by omega))] at g2
    cases g2
  · exact g
section DG
variable {μ : MDS} {m c z p : Nat} {θ : Int32} {H : Int64}
theorem rack_ok {r : Nat} (hr : r ≤ 5) : FX3_checkRack (nI r) = some (.inr ()) := by
  rcases rack_chk (nI r) with ⟨-, h2⟩ | ⟨j, -, -, h1, -⟩
  · unfold FX4_isRack FX4_in at h2
    rw [if_neg (nI_pos (by omega)), if_neg (show ¬ (5 : Int32) < nI r from nI_nlt (a := 5) (by omega) (by omega))] at h2
    cases h2
  · exact h1
theorem tray_ok {r : Nat} (hr : r ≤ 4) : FX3_checkTray (nI r) = some (.inr ()) := by
  rcases tray_chk (nI r) with ⟨-, h2⟩ | ⟨j, -, -, h1, -⟩
  · unfold FX4_isTray FX4_in at h2
    rw [if_neg (nI_pos (by omega)), if_neg (show ¬ (4 : Int32) < nI r from nI_nlt (a := 4) (by omega) (by omega))] at h2
    cases h2
  · exact h1
theorem t_slot (h : Cnt μ.1 m c z p) (hM : IM μ.1 m) {r y : Nat} (hr : r ≤ 5) (hy : y < 10) : ∃ v, FX3_slot θ (rsOf μ.1) (nI r) (nI y) = some (.inr v) ∧ FX4_machineAt μ (nI r) (nI y) = some v := by
  unfold FX3_slot
  rw [rack_ok hr, bX_r, if_neg (nI_pos (by omega)), if_pos (show nI y < 10 from nI_lt (b := 10) hy (by omega)), c_machineAt h, e_machineAt h hM hr (by omega)]
  exact ⟨_, rfl, rfl⟩
theorem t_tray (h : Cnt μ.1 m c z p) (hc : IC μ.1 m c) {r : Nat} (hr : r ≤ 4) : ∃ v, FX3_tray θ (rsOf μ.1) (nI r) = some (.inr v) ∧ FX4_inTray μ (nI r) = some v := by
  unfold FX3_tray
  rw [tray_ok hr, bX_r, c_cablesInTray h hc, e_inTray h hc]
  exact ⟨_, rfl, rfl⟩
theorem t_machine (h : Cnt μ.1 m c z p) (hf : IF μ.1 z) (hh : IH μ.1) {j k : Nat} (hj : j < m) (hk : k ≤ 7) : ∃ v, FX3_machine θ (rsOf μ.1) (nI j) (nI k) = some (.inr v) ∧ FX4_tellMachine μ (nI j) (nI k) = some v := by
  have hm := h.lm
  have hc1 : FX3_checkMachine θ (rsOf μ.1) (nI j) = some (.inr ()) := by
    unfold FX3_checkMachine
    rw [rz_nm, h.hm, row_yes hj (by omega)]
    rfl
  have g1 : FX3_checkRange (nI k) 0 7 = some (.inr ()) := rg_ok (b := 7) hk (by omega)
  unfold FX3_machine FX4_tellMachine
  rw [hc1, bX_r, g1, bX_r]
  rcases (show k = 7 ∨ k = 6 ∨ k < 6 by omega) with rfl | rfl | hk6
  · rw [if_pos (show nI 7 = 7 from rfl), if_pos (show (6 : Int32) ≤ nI 7 by decide), if_neg (show ¬ nI 7 = 6 by decide), c_cablesOf h, e_cablesOf h]
    exact ⟨_, rfl, rfl⟩
  · rw [if_neg (show ¬ nI 6 = 7 by decide), if_pos (show nI 6 = 6 from rfl), if_pos (show (6 : Int32) ≤ nI 6 by decide), if_pos (show nI 6 = 6 from rfl), c_isFrozen h hj, e_isFrozen h hf hh hj, o_b]
    cases (firstFrom (qF μ.1 (μ.1 (19 + (6 * j + 3)))) 0 z).isSome
    · exact ⟨0, rfl, rfl⟩
    · exact ⟨1, rfl, rfl⟩
  · rw [if_neg (show ¬ nI k = 7 from fun e => by have := nI_inj (b := 7) e (by omega) (by omega); omega), if_neg (show ¬ nI k = 6 from fun e => by have := nI_inj (b := 6) e (by omega) (by omega); omega), if_neg (show ¬ (6 : Int32) ≤ nI k from nI_ge (b := 6) (by omega) (by omega)), rz_nm, h.hm, aM h hj k hk6, oM (by omega) k hk6]
    exact ⟨_, rfl, rfl⟩
theorem t_cable (h : Cnt μ.1 m c z p) (hM : IM μ.1 m) (hc : IC μ.1 m c) {j k : Nat} (hj : j < c) (hk : k ≤ 3) : ∃ v, FX3_cable θ (rsOf μ.1) (nI j) (nI k) = some (.inr v) ∧ FX4_tellCable μ (nI j) (nI k) = some v := by
  have lc := h.lc
  have hc1 : FX3_checkCable θ (rsOf μ.1) (nI j) = some (.inr ()) := by
    unfold FX3_checkCable
    rw [rz_nc, h.hc, row_yes hj (by omega)]
    rfl
  have g1 : FX3_checkRange (nI k) 0 3 = some (.inr ()) := rg_ok (b := 3) hk (by omega)
  unfold FX3_cable FX4_tellCable
  rw [hc1, bX_r, g1, bX_r]
  by_cases hk3 : k = 3
  · subst hk3
    rw [if_pos (show nI 3 = 3 from rfl), if_pos (show (3 : Int32) ≤ nI 3 by decide), c_need h hc hj, e_need h hM hc hj]
    exact ⟨_, rfl, rfl⟩
  · rw [if_neg (show ¬ nI k = 3 from fun e => hk3 (nI_inj (b := 3) e (by omega) (by omega))), if_neg (show ¬ (3 : Int32) ≤ nI k from nI_ge (b := 3) (by omega) (by omega)), rz_nc, h.hc, aC h hj k (by omega), nmv_eq, i91, gd_in (by omega) (by omega), nI_clamp (by omega)]
    exact ⟨_, rfl, rfl⟩
theorem t_pile (h : Cnt μ.1 m c z p) {j k : Nat} (hj : j < p) (hk : k ≤ 3) : ∃ v, FX3_pile θ (rsOf μ.1) (nI j) (nI k) = some (.inr v) ∧ FX4_tellPile μ (nI j) (nI k) = some v := by
  have lp := h.lp
  have g1 : FX3_checkRange (nI k) 0 3 = some (.inr ()) := rg_ok (b := 3) hk (by omega)
  have e1 : nI p - 1 - nI j = nI (p - 1 - j) := by rw [show (1 : Int32) = nI 1 from rfl, pk_sub (by omega), pk_sub (by omega)]
  have e2 : (139 : Int32) + 4 * nI (p - 1 - j) + nI k = nI (139 + (4 * (p - 1 - j) + k)) := by
    rw [show (4 : Int32) = nI 4 from rfl, show (139 : Int32) = nI 139 from rfl, pk_mul, nI_add, nI_add, Nat.add_assoc]
  unfold FX3_pile FX4_tellPile
  rw [if_pos (nI_pos' (by omega)), g1, bX_r, rz_ns, g16, cl16, h.hp, nmv_eq, nmv_eq, e1]
  refine ⟨μ.1 (139 + (4 * (p - 1 - j) + k)), ?_, ?_⟩
  · rw [aP h (by omega) k (by omega)]
    rfl
  · rw [nmv_eq, e2, gd_in (by omega) (by omega), nI_clamp (by omega)]
end DG

/-! at the start: alike -/
theorem now0_hi {k : Nat} (h : 12 ≤ k) : now0 k = 0 := by
  have d : ∀ (i : Nat) (c : Int32), c.toNatClampNeg = i → i < 12 → k ≠ c.toNatClampNeg := fun i c e h2 => by omega
  unfold now0
  rw [upd_ne _ _ (d 11 11 (by decide) (by omega)), upd_ne _ _ (d 10 10 (by decide) (by omega)), upd_ne _ _ (d 9 9 (by decide) (by omega)), upd_ne _ _ (d 8 8 (by decide) (by omega)), upd_ne _ _ (d 7 7 (by decide) (by omega)), upd_ne _ _ (d 6 6 (by decide) (by omega)), upd_ne _ _ (d 5 5 (by decide) (by omega)), upd_ne _ _ (d 4 4 (by decide) (by omega)), upd_ne _ _ (d 3 3 (by decide) (by omega)), upd_ne _ _ (d 2 2 (by decide) (by omega)), upd_ne _ _ (d 1 1 (by decide) (by omega)), upd_ne _ _ (d 0 0 (by decide) (by omega))]
theorem now0_lim : ∀ k, k < 6 → now0 k = lim0 k := by decide
theorem now0_tray : ∀ k, k < 5 → now0 (6 + k) = tray0 k := by decide
theorem lim0_hi {k : Nat} (h : 6 ≤ k) : lim0 k = 0 := by
  have d : ∀ (i : Nat) (c : Int32), c.toNatClampNeg = i → i < 6 → k ≠ c.toNatClampNeg := fun i c e h2 => by omega
  unfold lim0
  rw [upd_ne _ _ (d 5 5 (by decide) (by omega)), upd_ne _ _ (d 4 4 (by decide) (by omega)), upd_ne _ _ (d 3 3 (by decide) (by omega)), upd_ne _ _ (d 2 2 (by decide) (by omega)), upd_ne _ _ (d 1 1 (by decide) (by omega)), upd_ne _ _ (d 0 0 (by decide) (by omega))]
theorem tray0_hi {k : Nat} (h : 5 ≤ k) : tray0 k = 0 := by
  have d : ∀ (i : Nat) (c : Int32), c.toNatClampNeg = i → i < 5 → k ≠ c.toNatClampNeg := fun i c e h2 => by omega
  unfold tray0
  rw [upd_ne _ _ (d 4 4 (by decide) (by omega)), upd_ne _ _ (d 3 3 (by decide) (by omega)), upd_ne _ _ (d 2 2 (by decide) (by omega)), upd_ne _ _ (d 1 1 (by decide) (by omega)), upd_ne _ _ (d 0 0 (by decide) (by omega))]
theorem rs_now0 : RS0 = rsOf now0 := by
  have z : ∀ (n b : Nat), 12 ≤ b → (fun k => if k < n then now0 (b + k) else 0) = (fun _ => (0 : Int32)) := fun n b hb => by
    funext k
    by_cases h : k < n
    · rw [if_pos h, now0_hi (by omega)]
    · rw [if_neg h]
  have e6 : (fun k => if k < 6 then now0 k else 0) = lim0 := by
    funext k
    by_cases h : k < 6
    · rw [if_pos h, now0_lim k h]
    · rw [if_neg h, lim0_hi (by omega)]
  have e5 : (fun k => if k < 5 then now0 (6 + k) else 0) = tray0 := by
    funext k
    by_cases h : k < 5
    · rw [if_pos h, now0_tray k h]
    · rw [if_neg h, tray0_hi (by omega)]
  have e11 : now0 11 = 100 := by decide
  unfold rsOf RS0
  rw [z 72 19 (by omega), z 30 91 (by omega), z 18 121 (by omega), z 80 139 (by omega), e6, e5, now0_hi (k := 13) (by omega), now0_hi (k := 14) (by omega), now0_hi (k := 15) (by omega), now0_hi (k := 16) (by omega), now0_hi (k := 12) (by omega), now0_hi (k := 17) (by omega), now0_hi (k := 18) (by omega), e11]
theorem in_now0 : In now0 0 0 0 0 := by
  refine ⟨⟨now0_hi (by omega), now0_hi (by omega), now0_hi (by omega), now0_hi (by omega), by omega, by omega, by omega, by omega⟩, fun j hj => ?_, fun j hj => ?_, fun j hj => ?_, fun j hj => ?_, ⟨0, now0_hi (by omega), by omega⟩, fun i j hi => ?_⟩
  all_goals omega
theorem sim_0 : Sim 0 RS0 RS0 TXS0 MDS0 RS0 RS0 RS0 RS0 := by
  have hz : Zr RS0 := by
    rw [rs_now0]
    exact zr_rsOf _
  exact ⟨rs_now0, in_now0.inv, hz, ⟨0, rfl, rfl, rfl, by omega⟩, 0, ⟨rfl, by omega, hz, hz, hz, hz, fun i hi => absurd hi (by omega)⟩, rfl⟩
theorem law_one (xs : Nat → Int32) {L : Nat} (hL : L ≤ 2560) : FL_law xs L 1000 0 (fun _ => 0) 0 RS0 RS0 TXS0 MDS0 RS0 RS0 RS0 RS0 = some 1 := law_loop xs hL 1000 0 (by omega) (by omega) _ _ _ _ _ _ _ _ _ _ sim_0

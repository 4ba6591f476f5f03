/-! whole_start, but for what the pure program answers -/
theorem st_1 : ∀ q ∈ strs, Cond.stringRef RX3 q.1 q.2 ∈ lw_tbl := by decide +kernel
theorem st_2 : ∀ q ∈ strs, Cond.exactly (.string RX3 q.1) "java/lang/String" ∈ flatC (Jvm.Cond.and given_1 narrow_1) := by decide +kernel
theorem st_3 : ∀ x ∈ dcls, Cond.declares x ∈ lw_tbl := by decide +kernel
theorem st_4 : ∀ i, i < 4 → Cond.castable (exn i) (exn i) ∈ lw_tbl := by decide +kernel
theorem st_5 : ∀ q ∈ [(exn 2, exn 1), (exn 3, exn 1), (exn 1, exn 2), (exn 3, exn 2)], Cond.not (.castable q.1 q.2) ∈ flatC (Jvm.Cond.and given_1 narrow_1) := by decide +kernel
theorem st_6 : Cond.laysStatic Bundle.tN "UNASSIGNED_STACK" Bundle.steD ∈ lw_tbl ∧ Cond.laysStatic Bundle.tN "SUPPRESSED_SENTINEL" Bundle.listD ∈ lw_tbl ∧ Cond.initialized Bundle.tN ∈ lw_tbl ∧ Cond.methodLinkNest RX3 29 yX0_init "RackMoves" ∈ lw_tbl ∧ Cond.arrayOver (.object RX1) ∈ lw_tbl := by decide +kernel
theorem st_7 : Cond.isRef (.static Bundle.tN "UNASSIGNED_STACK" Bundle.steD) ∈ flatC (Jvm.Cond.and given_1 narrow_1) ∧ Cond.isRef (.static Bundle.tN "SUPPRESSED_SENTINEL" Bundle.listD) ∈ flatC (Jvm.Cond.and given_1 narrow_1) := by decide +kernel
theorem st_XW {b : Nat} {s : State} (hts : ∀ w ∈ lw_tbl, w.before #[Value.ref b] s = true) (hgv : (Jvm.Cond.and given_1 narrow_1).before #[Value.ref b] s = true) : XW (fun q : Nat => s.heap.size ≤ q) s := by
  have hfl := flat_of_before _ hgv
  have hA : ∀ a : Nat, a < s.heap.size → ¬ s.heap.size ≤ a := fun a h => Nat.not_le.mpr h
  refine ⟨vx_Zqof (hts _ st_6.1) (hts _ st_6.2.2.1) (hfl _ st_7.1) hA, vx_Zqof (hts _ st_6.2.1) (hts _ st_6.2.2.1) (hfl _ st_7.2) hA, fun q hq => ?_, fun i hi => va_Nw.of rfl (hts _ (st_4 i hi)), ?_, ?_, ?_, ?_, va_Nw.of rfl (hts _ st_6.2.2.2.1), fun x hx => va_Nw.of rfl (hts _ (st_3 x hx))⟩
  · obtain ⟨a, c, cell, k, q1, -⟩ := Cond.exactly_spec (hfl _ (st_2 q hq))
    exact ⟨a, vk_R.of (hts _ (st_1 q hq)) q1⟩
  · exact va_Nc.of (hfl _ (st_5 (exn 2, exn 1) (by decide)))
  · exact va_Nc.of (hfl _ (st_5 (exn 3, exn 1) (by decide)))
  · exact va_Nc.of (hfl _ (st_5 (exn 1, exn 2) (by decide)))
  · exact va_Nc.of (hfl _ (st_5 (exn 3, exn 2) (by decide)))
theorem st_K {b : Nat} {s : State} (hts : ∀ w ∈ lw_tbl, w.before #[Value.ref b] s = true) : ∃ D : va_G, va_K D vwCl (tyG D) s := by
  have hgw := lg_words hts
  obtain ⟨c0, iS0, hKn0⟩ := u_known (C := RX0) (T := TX0) (N := 5) (n := 5) hgw wsin_0 (hgw _ wm_95)
  obtain ⟨c1, iS1, hKn1⟩ := u_known (C := RX1) (T := TX1) (N := 10) (n := 10) hgw wsin_1 (hgw _ wm_23)
  obtain ⟨c2, iS2, hKn2⟩ := u_known (C := RX2) (T := TX2) (N := 4) (n := 4) hgw wsin_2 (hgw _ wm_29)
  obtain ⟨c3, iS3, hKn3⟩ := u_known (C := RX3) (T := TX3) (N := 5) (n := 5) hgw wsin_3 (hgw _ wm_15)
  obtain ⟨c4, iS4, hKn4⟩ := u_known (C := RX4) (T := TX4) (N := 13) (n := 13) hgw wsin_4 (hgw _ wm_699)
  obtain ⟨cI, kI, pI, hI1, hI2, hI3⟩ := Cond.arrayClass_spec (hgw _ wm_aI)
  obtain ⟨cL, kL, pL, hL1, hL2, hL3⟩ := Cond.arrayClass_spec (hgw _ wm_aL)
  obtain ⟨comp, cR, kR, hR1, -, hR2, hR3, hR4⟩ := Cond.arrayOver_spec (hts _ st_6.2.2.2.2)
  obtain ⟨dC, dI, hKc, rfl, rfl, rfl⟩ : ∃ (dC : Nat → ClassId) (dI : Nat → Nat → Nat), (∀ (k : Nat) (q : vw_C), vwCl[k]? = some q → u_Kn s q.1 q.2.1 q.2.2 (dC k) (dI k)) ∧ dC 100 = cI ∧ dC 101 = cR ∧ dC 102 = cL := by
    refine ⟨fun k => if k = 0 then c0 else if k = 1 then c1 else if k = 2 then c2 else if k = 3 then c3 else if k = 4 then c4 else if k = 100 then cI else if k = 101 then cR else cL, fun k => if k = 0 then iS0 else if k = 1 then iS1 else if k = 2 then iS2 else if k = 3 then iS3 else iS4, ?_, rfl, rfl, rfl⟩
    intro k q hq
    match k, hq with
    | 0, hq => cases hq; exact hKn0
    | 1, hq => cases hq; exact hKn1
    | 2, hq => cases hq; exact hKn2
    | 3, hq => cases hq; exact hKn3
    | 4, hq => cases hq; exact hKn4
    | k + 5, hq => simp [vwCl] at hq
  refine ⟨(dC, dI), hKc, fun k q hq => ?_⟩
  match k, hq with
  | 0, hq => cases hq; exact ⟨fun N z => ⟨(fun k h => by cases h), kI, hI2, pI, hI3⟩, hI1⟩
  | 1, hq => cases hq; exact ⟨fun N z => ⟨(fun k h => by cases h), kR, hR2, comp, hR3⟩, kR, comp, hR2, hR3, hR1, hR4⟩
  | 2, hq => cases hq; exact ⟨fun N z => ⟨(fun k h => by cases h), kL, hL2, pL, hL3⟩, hL1⟩
  | k + 3, hq => simp [tyG] at hq
theorem whole_start0 {p : Program} {e : Env} {s : State} {m : MethodId} {below : List Frame} {meth : Method} {c : Code} (l : Launch) (hflags : l.flags = flags0) {b L : Nat} {xs : Nat → Int32} (hF : FL_law xs L 1000 0 (fun _ => 0) 0 RS0 RS0 TXS0 MDS0 RS0 RS0 RS0 RS0 = some 1) (C0 : lw_At p s m meth c b L xs) : W p l e room_1 s m #[Value.ref b] below meth c s.heap [] 0 0 (lw_Z below #[Value.ref b] s) (entryFrame m ([Value.ref b] : List Value).toArray 9) := by
  obtain ⟨hx, hb, hr, hml, hown, hts, hX, hbl, hlocks, hgv⟩ := id C0
  have hl0 : l.stackTraces = false := by
    unfold Launch.stackTraces
    rw [hflags]
    decide +kernel
  obtain ⟨D, hK⟩ := st_K hts
  have hXW := st_XW hts hgv
  have hl := lv_entry ([.ref b]) (n := 9) (Nat.le_of_ble_eq_true rfl)
  rw [lg_entry_eq]
  generalize (lg_sl ([.ref b]) ++ List.replicate (9 - (lg_sl ([.ref b])).length) Slot.unset).toArray = ls at hl ⊢
  have hl : lv_has ls 9 [(0, .ref b)] := hl
  have hP : va_P D vwCl [] s.heap := fun k q h => by simp at h
  have hD : va_D (fun q : Nat => s.heap.size ≤ q) [] := ⟨fun i j p q h => by simp at h, fun k q h => by simp at h⟩
  have K := law_entry l hl0 D (p, e, s, m, #[Value.ref b], below, meth, c, lw_Z below #[Value.ref b] s, (fun q : Nat => s.heap.size ≤ q), s.heap) b L xs ⟨hx, hb, hml, hown, lg_words hts, hK, hlocks, fun q h => h⟩ ⟨rfl, hXW⟩ ⟨s, s.drawn, rfl, Drawn.sameBut.refl s.drawn lw_cs, rfl, rfl, rfl, rfl, hX, hbl, hr⟩ ⟨va_AO.of (hts _ st_6.2.2.2.2), va_Nw.of rfl (hts _ st_6.2.2.2.1)⟩ 1000 (Nat.le_refl _) hF
  exact K s.heap [] ls hP hD va_S.rf hl

/-! the invariant behind a step -/
section INVP
variable {f g : Nat → Int32} {m c z p : Nat} {j : Nat}
theorem im_ext (h : ∀ k, 19 ≤ k → k < 91 → f k = g k) (hm : m ≤ 12) (hM : IM f m) : IM g m := fun j hj => by
  have := hM j hj
  rw [h (19 + (6 * j + 0)) (by omega) (by omega), h (19 + (6 * j + 1)) (by omega) (by omega), h (19 + (6 * j + 2)) (by omega) (by omega), h (19 + (6 * j + 3)) (by omega) (by omega), h (19 + (6 * j + 4)) (by omega) (by omega), h (19 + (6 * j + 5)) (by omega) (by omega)] at this
  exact this
theorem ic_ext (h : ∀ k, 91 ≤ k → k < 121 → f k = g k) (hm : c ≤ 10) (hM : IC f m c) : IC g m c := fun j hj => by
  have := hM j hj
  rw [h (91 + (3 * j + 0)) (by omega) (by omega), h (91 + (3 * j + 1)) (by omega) (by omega), h (91 + (3 * j + 2)) (by omega) (by omega)] at this
  exact this
theorem if_ext (h : ∀ k, 121 ≤ k → k < 139 → f k = g k) (hm : z ≤ 6) (hM : IF f z) : IF g z := fun j hj => by
  have := hM j hj
  rw [h (121 + (3 * j + 0)) (by omega) (by omega), h (121 + (3 * j + 1)) (by omega) (by omega), h (121 + (3 * j + 2)) (by omega) (by omega)] at this
  exact this
theorem ih_ext (h : f 12 = g 12) (hH : IH f) : IH g := by
  obtain ⟨a, e, b⟩ := hH
  exact ⟨a, h.symm.trans e, b⟩
theorem io_ext (h : ∀ k, 19 ≤ k → k < 91 → k ≠ 19 + (6 * j + 2) → f k = g k) (hm : m ≤ 12) (hO : IO f m) : IO g m := fun i i' hi hi' => by
  have := hO i i' hi hi'
  rw [h (19 + (6 * i + 4)) (by omega) (by omega) (by omega), h (19 + (6 * i' + 4)) (by omega) (by omega) (by omega), h (19 + (6 * i + 5)) (by omega) (by omega) (by omega), h (19 + (6 * i' + 5)) (by omega) (by omega) (by omega), h (19 + (6 * i + 0)) (by omega) (by omega) (by omega), h (19 + (6 * i' + 0)) (by omega) (by omega) (by omega)] at this
  exact this
/-- all of a row's invariants, the counts told -/
def In (f : Nat → Int32) (m c z p : Nat) : Prop := Cnt f m c z p ∧ IM f m ∧ IC f m c ∧ IF f z ∧ IP f m p ∧ IH f ∧ IO f m
theorem In.inv (h : In f m c z p) : Inv f := ⟨m, c, z, p, h⟩
/-- machine j set in a place that is free but for itself -/
theorem io_plc {r s q : Int32} (hj : j < m) (hM : IM f m) (hO : IO f m) (hm : m ≤ 12) (h : r = -1 ∨ ∃ a b t : Nat, r = nI a ∧ a ≤ 5 ∧ s = nI b ∧ f (19 + (6 * j + 0)) = nI t ∧ 1 ≤ t ∧ t ≤ 4 ∧ b + t ≤ 10 ∧ firstFrom (qW f (nI a) b t (nI j)) 0 m = none) : IO (plc f j r s q) m := by
  have one : ∀ i, i < m → i ≠ j → ∀ a x y s' t : Nat, r = nI a → f (19 + (6 * i + 4)) = nI a → a ≤ 5 → s = nI x → f (19 + (6 * i + 5)) = nI y → f (19 + (6 * j + 0)) = nI s' → f (19 + (6 * i + 0)) = nI t → x ≤ 10 → y ≤ 10 → s' ≤ 4 → t ≤ 4 → x + s' ≤ y ∨ y + t ≤ x := by
    intro i hi hne a x y s' t e4 e4' ha e5 e5' e0 e0' hx hy hs ht
    rcases h with h | ⟨a', b, t', h1, h2, h3, h4, h5, h6, h7, h8⟩
    · rw [h] at e4
      exact absurd e4.symm (nI_nm1 (by omega))
    · have q1 : a' = a := nI_inj (h1.symm.trans e4) (by omega) (by omega)
      have q2 : b = x := nI_inj (h3.symm.trans e5) (by omega) (by omega)
      have q3 : t' = s' := nI_inj (h4.symm.trans e0) (by omega) (by omega)
      subst q1 q2 q3
      by_cases hh : b + t' ≤ y ∨ y + t ≤ b
      · exact hh
      · have hn := (ff_none m 0).mp h8 i (by omega) (by omega)
        obtain ⟨k, t2, e5'', e0'', t1, t4, hk⟩ := im_slot hM hi h2 e4'
        have q4 : k = y := nI_inj (e5''.symm.trans e5') (by omega) (by omega)
        have q5 : t2 = t := nI_inj (e0''.symm.trans e0') (by omega) (by omega)
        subst q4 q5
        have := (qW_iff (a := b) (s := t') hM hi h2 (by omega) (nI j)).mpr ⟨fun e => hne (nI_inj e (by omega) (by omega)), e4', k, t2, e5'', e0'', t1, t4, hk, by omega, by omega⟩
        rw [hn] at this
        cases this
  intro i i' hi hi' hne a x y s' t
  rw [plc_o (i := 19 + (6 * i + 0)) _ _ _ _ _ (by omega) (by omega) (by omega), plc_o (i := 19 + (6 * i' + 0)) _ _ _ _ _ (by omega) (by omega) (by omega)]
  by_cases h1 : i = j
  · subst h1
    rw [plc_4, plc_5, plc_o (i := 19 + (6 * i' + 4)) _ _ _ _ _ (by omega) (by omega) (by omega), plc_o (i := 19 + (6 * i' + 5)) _ _ _ _ _ (by omega) (by omega) (by omega)]
    intro e4 e4' ha e5 e5' e0 e0' hx hy hs ht
    exact one i' hi' (fun e => hne e.symm) a x y s' t e4 e4' ha e5 e5' e0 e0' hx hy hs ht
  · by_cases h2 : i' = j
    · subst h2
      rw [plc_4, plc_5, plc_o (i := 19 + (6 * i + 4)) _ _ _ _ _ (by omega) (by omega) (by omega), plc_o (i := 19 + (6 * i + 5)) _ _ _ _ _ (by omega) (by omega) (by omega)]
      intro e4 e4' ha e5 e5' e0 e0' hx hy hs ht
      have := one i hi hne a y x t s' e4' e4 ha e5' e5 e0' e0 hy hx ht hs
      omega
    · rw [plc_o (i := 19 + (6 * i + 4)) _ _ _ _ _ (by omega) (by omega) (by omega), plc_o (i := 19 + (6 * i + 5)) _ _ _ _ _ (by omega) (by omega) (by omega), plc_o (i := 19 + (6 * i' + 4)) _ _ _ _ _ (by omega) (by omega) (by omega), plc_o (i := 19 + (6 * i' + 5)) _ _ _ _ _ (by omega) (by omega) (by omega)]
      exact hO i i' hi hi' hne a x y s' t
theorem ip_push {G : Nat → Int32} {v1 v2 v3 : Int32} {a q s : Nat} (hP : IP G m p) (lp : p < 20) (lm : m ≤ 12) (ha : a < m) (h3 : v3 = nI q) (hq : q ≤ 2) (h0 : G (19 + (6 * a + 0)) = nI s) (hpl : Plc v1 v2 s) : IP (pu4 G p (nI a) v1 v2 v3) m (p + 1) := fun i hi => by
  by_cases h : i = p
  · subst h
    refine ⟨a, q, s, pu4_0 _ _ _ _ _ _, ha, (pu4_3 _ _ _ _ _ _).trans h3, hq, ?_, ?_⟩
    · rw [pu4_o _ _ _ _ _ (by omega) (by omega) (by omega)]; exact h0
    · rw [pu4_1, pu4_2]; exact hpl
  · obtain ⟨a', q', s', e1, e2, e3, e4, e5, e6⟩ := hP i (by omega)
    refine ⟨a', q', s', ?_, e2, ?_, e4, ?_, ?_⟩
    · rw [pu4_o _ _ _ _ _ (by omega) (by omega) (by omega)]; exact e1
    · rw [pu4_o _ _ _ _ _ (by omega) (by omega) (by omega)]; exact e3
    · rw [pu4_o _ _ _ _ _ (by omega) (by omega) (by omega)]; exact e5
    · rw [pu4_o _ _ _ _ _ (by omega) (by omega) (by omega), pu4_o _ _ _ _ _ (by omega) (by omega) (by omega)]; exact e6
theorem ip_g20 {G : Nat → Int32} (hP : IP G m 20) (lm : m ≤ 12) : IP (g20 G) m 19 := fun i hi => by
  have e : ∀ k, k < 4 → g20 G (139 + (4 * i + k)) = G (139 + (4 * (i + 1) + k)) := fun k hk => by
    unfold g20
    rw [upd_ne _ _ (by omega)]
    unfold shR
    rw [if_pos ⟨by omega, by omega⟩]
    congr 1
    omega
  obtain ⟨a', q', s', e1, e2, e3, e4, e5, e6⟩ := hP (i + 1) (by omega)
  refine ⟨a', q', s', (e 0 (by omega)).trans e1, e2, (e 3 (by omega)).trans e3, e4, (g20_o _ (by omega) (by omega)).trans e5, ?_⟩
  rw [e 1 (by omega), e 2 (by omega)]
  exact e6
theorem cnt_pu4 {v0 v1 v2 v3 : Int32} (h : Cnt f m c z p) (hp : p < 20) : Cnt (pu4 f p v0 v1 v2 v3) m c z (p + 1) := by
  obtain ⟨a, b, d, e, r1, r2, r3, r4⟩ := h
  exact ⟨(pu4_o _ _ _ _ _ (by omega) (by omega) (by omega)).trans a, (pu4_o _ _ _ _ _ (by omega) (by omega) (by omega)).trans b, (pu4_o _ _ _ _ _ (by omega) (by omega) (by omega)).trans d, pu4_16 _ _ _ _ _ _, r1, r2, r3, by omega⟩
/-- behind a step that is done -/
theorem in_step {r s q : Int32} (h : In f m c z p) (hj : j < m) (hq : ∃ b : Nat, q = nI b ∧ b ≤ 2) (hp : ∀ t : Nat, f (19 + (6 * j + 0)) = nI t → t ≤ 4 → Plc r s t) (hO' : IO (plc f j r s q) m) : ∃ p', In (puR (plc f j r s q) p (nI j) (f (19 + (6 * j + 4))) (f (19 + (6 * j + 5))) (f (19 + (6 * j + 2)))) m c z p' := by
  obtain ⟨hC, hM, hc, hF, hP, hH, hO⟩ := h
  have lm := hC.lm
  have lc := hC.lc
  have lz := hC.lz
  have lp := hC.lp
  obtain ⟨t, l, b, d, e0, t1, t4, -, -, -, e2, hb, -, -, e5⟩ := hM j hj
  have o : ∀ k, k < 139 → k ≠ 16 → k ≠ 17 → plc f j r s q k = puR (plc f j r s q) p (nI j) (f (19 + (6 * j + 4))) (f (19 + (6 * j + 5))) (f (19 + (6 * j + 2))) k := fun k h1 h2 h3 => (puR_o _ _ _ _ _ h1 h2 h3).symm
  have M' := im_ext (fun k h1 h2 => o k (by omega) (by omega) (by omega)) lm (im_plc hM hq hp)
  have C' := ic_ext (fun k h1 h2 => o k (by omega) (by omega) (by omega)) lc (ic_plc (j := j) (r := r) (s := s) (q := q) (by omega) hc)
  have F' := if_ext (fun k h1 h2 => o k (by omega) (by omega) (by omega)) lz (if_plc (j := j) (r := r) (s := s) (q := q) (by omega) hF)
  have H' := ih_ext (o 12 (by omega) (by omega) (by omega)) (ih_plc (j := j) (r := r) (s := s) (q := q) hH)
  have O' := io_ext (j := 0) (fun k h1 h2 _ => o k (by omega) (by omega) (by omega)) lm hO'
  have P0 := ip_plc (j := j) (r := r) (s := s) (q := q) (by omega) hP
  have h0 : plc f j r s q (19 + (6 * j + 0)) = nI t := (plc_o _ _ _ _ _ (by omega) (by omega) (by omega)).trans e0
  by_cases hp20 : p = 20
  · subst hp20
    refine ⟨20, ?_, M', C', F', ?_, H', O'⟩
    · unfold puR
      rw [if_pos rfl]
      exact cnt_pu4 (cnt_g20 (cnt_plc hC)) (by omega)
    · unfold puR
      rw [if_pos rfl]
      exact ip_push (ip_g20 P0 lm) (by omega) lm hj e2 hb ((g20_o _ (by omega) (by omega)).trans h0) e5
  · refine ⟨p + 1, ?_, M', C', F', ?_, H', O'⟩
    · unfold puR
      rw [if_neg hp20]
      exact cnt_pu4 (cnt_plc hC) (by omega)
    · unfold puR
      rw [if_neg hp20]
      exact ip_push P0 (by omega) lm hj e2 hb h0 e5
end INVP

/-! the plan's text: how the class reads a part -/
section CP
variable {T P : Nat → Int32} {L m i n r : Nat} {u : Int32}
theorem c_j34 (hL : L ≤ 90) (hi : i < 900) (hr : r < n) (hn : n ≤ 45) {s : Nat} {fl : Int32} (hs : (s = 1 ∧ fl = 1) ∨ (s = 2 ∧ fl = 0)) : (∀ e, rdX T L s i = .inl e → ∃ q v P', FX0_readStep_J34 (nI r) fl (-1) (tx T P L i u n) = some (nI e, tx T P' L q v n)) ∧ (∀ q x, rdX T L s i = .inr (q, x) → FX0_readStep_J34 (nI r) fl (-1) (tx T P L i u n) = some (-1, tx T (upd P (3 * r + 2) x) L q x n)) := by
  have pP : ∀ (P : Nat → Int32) (v : Int32), FX2_put (45 : Int32) (3 : Int32) 135 (nI n, P) (nI r) (2 : Int32) v = some (nI n, upd P (3 * r + 2) v) := fun P v => put_k (C := 3) (c := 2) hr (by omega) (by omega) (by omega) (by omega) (by omega)
  obtain ⟨a1, a2, a3, a4⟩ := c_rdX (T := T) (P := P) (u := u) (n := n) hL (show i < 1000 by omega)
  unfold FX0_readStep_J34
  rw [if_pos m11]
  rcases hs with ⟨rfl, rfl⟩ | ⟨rfl, rfl⟩
  · rw [if_neg n10]
    refine ⟨fun e h => ?_, fun q x h => ?_⟩
    · rw [a1 e h, o_b, pP, o_b]
      exact ⟨_, _, _, rfl⟩
    · rw [a2 q x h, o_b, pP, o_b]
  · rw [if_pos z00]
    refine ⟨fun e h => ?_, fun q x h => ?_⟩
    · rw [a3 e h, o_b, pP, o_b]
      exact ⟨_, _, _, rfl⟩
    · rw [a4 q x h, o_b, pP, o_b]
def stS (T P : Nat → Int32) (L m i n r : Nat) (u fl : Int32) : Option (Int32 × TXS) := (FX0_readStep (tx T P L i u n) (nI r) fl (nI m)).bind fun z => if z.1 = (-1 : Int32) then ((FX0_readByte z.2 (59 : Int32)).bind fun y => some (y.1, y.2)) else (some (z.1, z.2))
theorem c_step (hL : L ≤ 90) (hi : i ≤ L + 1) (hr : r < n) (hn : n ≤ 45) (hm : m ≤ 12) {s : Nat} {fl : Int32} (hs : (s = 1 ∧ fl = 1) ∨ (s = 2 ∧ fl = 0)) : (∀ e, rdS T L m s i = .inl e → ∃ q v P', stS T P L m i n r u fl = some (nI e, tx T P' L q v n) ∧ e ≤ 100) ∧ (∀ q s' w x, rdS T L m s i = .inr (q, s', w, x) → ∃ P' v, stS T P L m i n r u fl = some (-1, tx T P' L q v n) ∧ P' (3 * r + 1) = w ∧ P' (3 * r + 2) = x ∧ ∀ k, k ≠ 3 * r + 1 → k ≠ 3 * r + 2 → P' k = P k) := by
  have pP : ∀ (P : Nat → Int32) (v : Int32), FX2_put (45 : Int32) (3 : Int32) 135 (nI n, P) (nI r) (1 : Int32) v = some (nI n, upd P (3 * r + 1) v) := fun P v => put_k (C := 3) (c := 1) hr (by omega) (by omega) (by omega) (by omega) (by omega)
  obtain ⟨a1, a2⟩ := c_rdN (T := T) (P := P) (u := u) (n := n) (m := m) hL (show i < 900 by omega)
  unfold stS FX0_readStep rdS
  cases e1 : rdN T L m i with
  | inl e0 =>
    obtain ⟨q, v, b1⟩ := a1 e0 e1
    have he0 : e0 ≤ 100 := by
      unfold rdN at e1
      split at e1
      · split at e1
        · split at e1
          · cases e1; omega
          · split at e1
            · cases e1; omega
            · cases e1
        · split at e1
          · cases e1; omega
          · cases e1
      · cases e1; omega
    have ne : ¬ nI e0 = -1 := nI_nm1 (by omega)
    unfold FX0_readStep_J34
    rw [b1, o_b, pP, o_b, if_neg ne, if_neg ne, o_b, if_neg ne]
    refine ⟨fun e h => ?_, fun q s' w x h => ?_⟩
    · cases h
      exact ⟨_, _, _, rfl, he0⟩
    · cases h
  | inr z =>
    obtain ⟨q1, w1⟩ := z
    obtain ⟨k1, k2, -⟩ := rdN_ok hm e1
    have b1 := a2 q1 w1 e1
    rw [b1, o_b, pP, o_b, if_pos m11]
    show (∀ e, (if bt T L q1 = 62 then rdT T L s w1 (q1 + 1) else .inl q1) = .inl e → _) ∧ (∀ q s' w x, (if bt T L q1 = 62 then rdT T L s w1 (q1 + 1) else .inl q1) = .inr (q, s', w, x) → _)
    have rb := c_readByte (T := T) (P := upd P (3 * r + 1) w1) (u := w1) (n := n) hL (show q1 < 1000 by omega) 62
    rw [rb]
    by_cases c1 : bt T L q1 = 62
    · have l1 := bt_lt (T := T) (L := L) (k := q1) (by rw [c1]; decide)
      rw [if_pos c1, if_pos c1, o_b]
      unfold rdT
      obtain ⟨d1, d2⟩ := c_j34 (T := T) (P := upd P (3 * r + 1) w1) (u := w1) (L := L) (i := q1 + 1) hL (by omega) hr hn hs
      cases e2 : rdX T L s (q1 + 1) with
      | inl e0 =>
        have he0 : e0 = q1 + 1 := rdX_er e2
        obtain ⟨q, v, P', f1⟩ := d1 e0 e2
        have ne : ¬ nI e0 = -1 := nI_nm1 (by omega)
        rw [f1, o_b, if_neg ne]
        refine ⟨fun e h => ?_, fun q s' w x h => ?_⟩
        · cases h
          exact ⟨_, _, _, rfl, by omega⟩
        · cases h
      | inr z =>
        obtain ⟨q2, x2⟩ := z
        obtain ⟨k3, -⟩ := rdX_ok e2
        have f1 := d2 q2 x2 e2
        have rb2 := c_readByte (T := T) (P := upd (upd P (3 * r + 1) w1) (3 * r + 2) x2) (u := x2) (n := n) hL (show q2 < 1000 by omega) 59
        rw [f1, o_b, if_pos m11, rb2]
        show (∀ e, rdE T L s w1 x2 q2 = .inl e → _) ∧ (∀ q s' w x, rdE T L s w1 x2 q2 = .inr (q, s', w, x) → _)
        unfold rdE
        by_cases c2 : bt T L q2 = 59
        · rw [if_pos c2, if_pos c2, o_b]
          refine ⟨fun e h => ?_, fun q s' w x h => ?_⟩
          · cases h
          · cases h
            refine ⟨_, _, rfl, ?_, upd_at _ _ _, fun k h1 h2 => ?_⟩
            · rw [upd_ne _ _ (by omega), upd_at]
            · rw [upd_ne _ _ h2, upd_ne _ _ h1]
        · rw [if_neg c2, if_neg c2, o_b]
          refine ⟨fun e h => ?_, fun q s' w x h => ?_⟩
          · cases h
            exact ⟨_, _, _, rfl, by omega⟩
          · cases h
    · have ne : ¬ nI q1 = -1 := nI_nm1 (by omega)
      unfold FX0_readStep_J34
      rw [if_neg c1, if_neg c1, o_b, if_neg ne, o_b, if_neg ne]
      refine ⟨fun e h => ?_, fun q s' w x h => ?_⟩
      · cases h
        exact ⟨_, _, _, rfl, by omega⟩
      · cases h
/-- the byte of a kind -/
def kb (s : Nat) : Int32 := if s = 0 then 104 else if s = 1 then 109 else 112
theorem c_part (hL : L ≤ 90) (hi : i < L) (hn : n < 45) (hm : m ≤ 12) : (∀ e, rdP T L m i = .inl e → ∃ τ', FX0_readPart (tx T P L i u n) (nI m) = some (nI e, τ') ∧ τ'.1 = T ∧ τ'.2.2.1 = nI L ∧ e ≤ 100) ∧ (∀ q s w x, rdP T L m i = .inr (q, s, w, x) → ∃ P' v, FX0_readPart (tx T P L i u n) (nI m) = some (-1, tx T P' L q v (n + 1)) ∧ P' (3 * n + 0) = kb s ∧ (s ≠ 0 → P' (3 * n + 1) = w ∧ P' (3 * n + 2) = x) ∧ ∀ k, k < 3 * n → P' k = P k) := by
  have ea : FX2_addRow (45 : Int32) (3 : Int32) 135 (nI n, P) = some (nI n, (nI (n + 1), P)) := by
    rw [show (45 : Int32) = nI 45 from rfl, c_addRow _ hn (by omega)]
  have pP : ∀ (P : Nat → Int32) (v : Int32), FX2_put (45 : Int32) (3 : Int32) 135 (nI (n + 1), P) (nI n) (0 : Int32) v = some (nI (n + 1), upd P (3 * n + 0) v) := fun P v => put_k (C := 3) (c := 0) (by omega) (by omega) (by omega) (by omega) (by omega) (by omega)
  have key : ∀ k : Int32, FX0_readPart_J32 (tx T P L i u n) (nI m) k = if k = 104 then ((FX0_readByte (tx T (upd P (3 * n + 0) k) L (i + 1) u (n + 1)) 59).bind fun z => some (z.1, z.2)) else if k = 109 then stS T (upd P (3 * n + 0) k) L m (i + 1) (n + 1) n u 1 else stS T (upd P (3 * n + 0) k) L m (i + 1) (n + 1) n u 0 := fun k => by
    unfold FX0_readPart_J32 stS
    rw [ea, o_b, pP, o_b, if_pos m11, ← nI_succ]
  unfold FX0_readPart rdP
  rw [tx_at, c_byteT hL (by omega), o_b, key]
  have eu : ∀ v, upd P (3 * n + 0) v (3 * n + 0) = v := fun v => upd_at _ _ _
  have en : ∀ (v : Int32) (k : Nat), k ≠ 3 * n + 0 → upd P (3 * n + 0) v k = P k := fun v k h => upd_ne _ _ h
  by_cases h1 : bt T L i = 104
  · rw [h1, if_neg (show ¬ (104 : Int32) = 109 by decide), if_neg (show ¬ (104 : Int32) = 112 by decide), if_pos rfl, if_pos rfl, if_pos rfl, c_readByte hL (by omega)]
    unfold rdE
    by_cases h2 : bt T L (i + 1) = 59
    · rw [if_pos h2, if_pos h2, o_b]
      refine ⟨fun e h => (by cases h), fun q s w x h => ?_⟩
      cases h
      exact ⟨_, _, rfl, eu _, fun h => absurd rfl h, fun k hk => en _ k (by omega)⟩
    · rw [if_neg h2, if_neg h2, o_b]
      refine ⟨fun e h => ?_, fun q s w x h => (by cases h)⟩
      cases h
      exact ⟨_, rfl, rfl, rfl, by omega⟩
  · rw [if_neg h1, if_neg h1]
    by_cases h2 : bt T L i = 109
    · rw [h2, if_pos rfl, if_pos rfl, if_pos rfl]
      obtain ⟨b1, b2⟩ := c_step (T := T) (P := upd P (3 * n + 0) 109) (L := L) (i := i + 1) (u := u) (n := n + 1) (r := n) hL (by omega) (by omega) (by omega) hm (s := 1) (fl := 1) (Or.inl ⟨rfl, rfl⟩)
      refine ⟨fun e h => ?_, fun q s w x h => ?_⟩
      · obtain ⟨q, v, P', c1, c2⟩ := b1 e h
        exact ⟨_, c1, rfl, rfl, c2⟩
      · obtain ⟨P', v, c1, c2, c3, c4⟩ := b2 q s w x h
        have hs : s = 1 := (rdS_ok hm (Or.inl rfl) h).2.2.2
        refine ⟨P', v, c1, ?_, fun _ => ⟨c2, c3⟩, fun k hk => (c4 k (by omega) (by omega)).trans (en _ k (by omega))⟩
        rw [hs, c4 _ (by omega) (by omega), eu]
        rfl
    · rw [if_neg h2, if_neg h2]
      by_cases h3 : bt T L i = 112
      · rw [h3, if_pos rfl, if_pos rfl, if_neg (show ¬ (112 : Int32) = 109 by decide)]
        obtain ⟨b1, b2⟩ := c_step (T := T) (P := upd P (3 * n + 0) 112) (L := L) (i := i + 1) (u := u) (n := n + 1) (r := n) hL (by omega) (by omega) (by omega) hm (s := 2) (fl := 0) (Or.inr ⟨rfl, rfl⟩)
        refine ⟨fun e h => ?_, fun q s w x h => ?_⟩
        · obtain ⟨q, v, P', c1, c2⟩ := b1 e h
          exact ⟨_, c1, rfl, rfl, c2⟩
        · obtain ⟨P', v, c1, c2, c3, c4⟩ := b2 q s w x h
          have hs : s = 2 := (rdS_ok hm (Or.inr rfl) h).2.2.2
          refine ⟨P', v, c1, ?_, fun _ => ⟨c2, c3⟩, fun k hk => (c4 k (by omega) (by omega)).trans (en _ k (by omega))⟩
          rw [hs, c4 _ (by omega) (by omega), eu]
          rfl
      · rw [if_neg h3, if_neg h3]
        refine ⟨fun e h => ?_, fun q s w x h => (by cases h)⟩
        cases h
        rw [if_neg h1]
        exact ⟨_, rfl, rfl, rfl, by omega⟩
end CP

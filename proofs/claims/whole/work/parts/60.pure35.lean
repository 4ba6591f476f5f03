/-! the plan's text: what a part of it says -/
def bt (T : Nat → Int32) (L k : Nat) : Int32 := if k < L then T k else -1
/-- a digit 0 .. G -/
def dg (b : Int32) (G : Nat) : Bool := decide (¬ b < 48 ∧ b ≤ nI (48 + G))
theorem dg_iff {b : Int32} {G : Nat} (hG : G < 1000) : dg b G = true ↔ ∃ d : Nat, d ≤ G ∧ b = nI (48 + d) := by
  unfold dg
  rw [decide_eq_true_iff]
  constructor
  · intro ⟨h1, h2⟩
    obtain ⟨l, l1, l2, e⟩ := rng_nat (a := 48) (b := 48 + G) (by omega) (by omega) h1 h2
    exact ⟨l - 48, by omega, by rw [e]; congr 1; omega⟩
  · rintro ⟨d, h, rfl⟩
    exact ⟨show ¬ nI (48 + d) < nI 48 from nI_nlt (by omega) (by omega), nI_le (by omega) (by omega)⟩
theorem dg_sub {b : Int32} {d : Nat} (h : b = nI (48 + d)) : b - 48 = nI d := by
  rw [h, show (48 : Int32) = nI 48 from rfl, pk_sub (by omega)]
  congr 1
  omega
/-- the number of a machine -/
def rdN (T : Nat → Int32) (L m i : Nat) : Nat ⊕ (Nat × Int32) :=
  if dg (bt T L i) 9 = true then
    if dg (bt T L (i + 1)) 9 = true then
      if dg (bt T L (i + 2)) 9 = true then .inl (i + 2)
      else if nI m ≤ 10 * (bt T L i - 48) + bt T L (i + 1) - 48 then .inl i else .inr (i + 2, 10 * (bt T L i - 48) + bt T L (i + 1) - 48)
    else if nI m ≤ bt T L i - 48 then .inl i else .inr (i + 1, bt T L i - 48)
  else .inl i
/-- a rack or the store, a phase -/
def rdX (T : Nat → Int32) (L s q : Nat) : Nat ⊕ (Nat × Int32) :=
  if s = 1 ∧ bt T L q = 115 then .inr (q + 1, -1)
  else if dg (bt T L q) (if s = 1 then 5 else 2) = true then .inr (q + 1, bt T L q - 48) else .inl q
def rdE (T : Nat → Int32) (L s : Nat) (w x : Int32) (q : Nat) : Nat ⊕ (Nat × Nat × Int32 × Int32) := if bt T L q = 59 then .inr (q + 1, s, w, x) else .inl q
def rdT (T : Nat → Int32) (L s : Nat) (w : Int32) (q : Nat) : Nat ⊕ (Nat × Nat × Int32 × Int32) :=
  match rdX T L s q with
  | .inl e => .inl e
  | .inr r => rdE T L s w r.2 r.1
def rdS (T : Nat → Int32) (L m s i : Nat) : Nat ⊕ (Nat × Nat × Int32 × Int32) :=
  match rdN T L m i with
  | .inl e => .inl e
  | .inr r => if bt T L r.1 = 62 then rdT T L s r.2 (r.1 + 1) else .inl r.1
def rdP (T : Nat → Int32) (L m i : Nat) : Nat ⊕ (Nat × Nat × Int32 × Int32) :=
  if bt T L i = 104 then rdE T L 0 0 0 (i + 1)
  else if bt T L i = 109 then rdS T L m 1 (i + 1)
  else if bt T L i = 112 then rdS T L m 2 (i + 1)
  else .inl i
section RD
variable {T : Nat → Int32} {L m : Nat}
theorem bt_lt {k : Nat} (h : bt T L k ≠ -1) : k < L := by
  by_cases hk : k < L
  · exact hk
  · exact absurd (if_neg hk) h
theorem rdN_ok {i q : Nat} {w : Int32} (hm : m ≤ 12) (h : rdN T L m i = .inr (q, w)) : i < q ∧ q ≤ i + 2 ∧ ∃ j : Nat, j < m ∧ w = nI j := by
  unfold rdN at h
  by_cases h1 : dg (bt T L i) 9 = true
  · obtain ⟨d, hd, ed⟩ := (dg_iff (by omega)).mp h1
    rw [if_pos h1] at h
    by_cases h2 : dg (bt T L (i + 1)) 9 = true
    · obtain ⟨e, he, ee⟩ := (dg_iff (by omega)).mp h2
      rw [if_pos h2] at h
      have ew : 10 * (bt T L i - 48) + bt T L (i + 1) - 48 = nI (10 * d + e) := by
        rw [dg_sub ed, ee, show (10 : Int32) = nI 10 from rfl, show (48 : Int32) = nI 48 from rfl, pk_mul, nI_add, pk_sub (by omega)]
        congr 1
        omega
      rw [ew] at h
      by_cases h3 : dg (bt T L (i + 2)) 9 = true
      · rw [if_pos h3] at h; cases h
      · rw [if_neg h3] at h
        by_cases h4 : nI m ≤ nI (10 * d + e)
        · rw [if_pos h4] at h; cases h
        · rw [if_neg h4] at h
          rw [nI_leI (by omega) (by omega)] at h4
          cases h
          exact ⟨by omega, by omega, 10 * d + e, by omega, rfl⟩
    · rw [if_neg h2, dg_sub ed] at h
      by_cases h4 : nI m ≤ nI d
      · rw [if_pos h4] at h; cases h
      · rw [if_neg h4] at h
        rw [nI_leI (by omega) (by omega)] at h4
        cases h
        exact ⟨by omega, by omega, d, by omega, rfl⟩
  · rw [if_neg h1] at h; cases h
theorem rdX_ok {s q q' : Nat} {x : Int32} (h : rdX T L s q = .inr (q', x)) : q' = q + 1 ∧ (s = 1 → x = -1 ∨ ∃ a : Nat, x = nI a ∧ a ≤ 5) ∧ (s = 2 → ∃ b : Nat, x = nI b ∧ b ≤ 2) := by
  unfold rdX at h
  by_cases h1 : s = 1 ∧ bt T L q = 115
  · rw [if_pos h1] at h
    cases h
    exact ⟨rfl, fun _ => Or.inl rfl, fun h2 => by omega⟩
  · rw [if_neg h1] at h
    by_cases h2 : dg (bt T L q) (if s = 1 then 5 else 2) = true
    · obtain ⟨d, hd, ed⟩ := (dg_iff (by split <;> omega)).mp h2
      rw [if_pos h2, dg_sub ed] at h
      cases h
      exact ⟨rfl, fun h3 => Or.inr ⟨d, rfl, by rw [if_pos h3] at hd; exact hd⟩, fun h3 => ⟨d, rfl, by rw [if_neg (by omega)] at hd; exact hd⟩⟩
    · rw [if_neg h2] at h; cases h
theorem rdX_er {s q e : Nat} (h : rdX T L s q = .inl e) : e = q := by
  unfold rdX at h
  by_cases h1 : s = 1 ∧ bt T L q = 115
  · rw [if_pos h1] at h; cases h
  · rw [if_neg h1] at h
    by_cases h2 : dg (bt T L q) (if s = 1 then 5 else 2) = true
    · rw [if_pos h2] at h; cases h
    · rw [if_neg h2] at h; cases h; rfl
theorem rdE_ok {s q q' s' : Nat} {w x w' x' : Int32} (h : rdE T L s w x q = .inr (q', s', w', x')) : q' = q + 1 ∧ q' ≤ L ∧ s' = s ∧ w' = w ∧ x' = x := by
  unfold rdE at h
  by_cases h1 : bt T L q = 59
  · have := bt_lt (T := T) (L := L) (k := q) (by rw [h1]; decide)
    rw [if_pos h1] at h
    cases h
    exact ⟨rfl, by omega, rfl, rfl, rfl⟩
  · rw [if_neg h1] at h; cases h
/-- what is known of a part that was read -/
def PartOk (m s : Nat) (w x : Int32) : Prop := s = 0 ∨ (s = 1 ∧ (∃ j : Nat, j < m ∧ w = nI j) ∧ (x = -1 ∨ ∃ a : Nat, x = nI a ∧ a ≤ 5)) ∨ (s = 2 ∧ (∃ j : Nat, j < m ∧ w = nI j) ∧ ∃ b : Nat, x = nI b ∧ b ≤ 2)
theorem rdS_ok {i q s s' : Nat} {w x : Int32} (hm : m ≤ 12) (hs : s = 1 ∨ s = 2) (h : rdS T L m s i = .inr (q, s', w, x)) : i + 2 ≤ q ∧ q ≤ L ∧ PartOk m s' w x ∧ s' = s := by
  unfold rdS at h
  cases e : rdN T L m i with
  | inl a => rw [e] at h; cases h
  | inr r =>
    rw [e] at h
    obtain ⟨q1, w1⟩ := r
    obtain ⟨a1, a2, a3⟩ := rdN_ok hm e
    have h' : (if bt T L q1 = 62 then rdT T L s w1 (q1 + 1) else .inl q1) = .inr (q, s', w, x) := h
    by_cases h2 : bt T L q1 = 62
    · rw [if_pos h2] at h'
      unfold rdT at h'
      cases e2 : rdX T L s (q1 + 1) with
      | inl a => rw [e2] at h'; cases h'
      | inr r =>
        rw [e2] at h'
        obtain ⟨q2, x2⟩ := r
        obtain ⟨b1, b2, b3⟩ := rdX_ok e2
        obtain ⟨c1, c2, c3, c4, c5⟩ := rdE_ok h'
        subst c3 c4 c5
        refine ⟨by omega, c2, ?_, rfl⟩
        rcases hs with rfl | rfl
        · exact Or.inr (Or.inl ⟨rfl, a3, b2 rfl⟩)
        · exact Or.inr (Or.inr ⟨rfl, a3, b3 rfl⟩)
    · rw [if_neg h2] at h'; cases h'
theorem rdP_ok {i q s : Nat} {w x : Int32} (hm : m ≤ 12) (h : rdP T L m i = .inr (q, s, w, x)) : i + 2 ≤ q ∧ q ≤ L ∧ PartOk m s w x := by
  unfold rdP at h
  by_cases h1 : bt T L i = 104
  · rw [if_pos h1] at h
    obtain ⟨c1, c2, c3, c4, c5⟩ := rdE_ok h
    exact ⟨by omega, c2, Or.inl c3⟩
  · rw [if_neg h1] at h
    by_cases h2 : bt T L i = 109
    · rw [if_pos h2] at h
      obtain ⟨c1, c2, c3, -⟩ := rdS_ok hm (Or.inl rfl) h
      exact ⟨by omega, c2, c3⟩
    · rw [if_neg h2] at h
      by_cases h3 : bt T L i = 112
      · rw [if_pos h3] at h
        obtain ⟨c1, c2, c3, -⟩ := rdS_ok hm (Or.inr rfl) h
        exact ⟨by omega, c2, c3⟩
      · rw [if_neg h3] at h; cases h
end RD
/-! the plan's text: how the class reads it -/
abbrev tx (T P : Nat → Int32) (L i : Nat) (u : Int32) (n : Nat) : TXS := (T, P, nI L, nI i, u, nI n)
section CR
variable {T P : Nat → Int32} {L m i n : Nat} {u : Int32}
theorem c_byteAt {τ : TXS} (h : τ.2.2.1 = nI L) (hL : L ≤ 90) (hi : i < 1000) : FX0_byteAt τ (nI i) = some (bt τ.1 L i) := by
  unfold FX0_byteAt bt
  rw [if_neg (nI_pos (by omega)), h]
  by_cases hk : i < L
  · rw [if_neg (nI_ge hk (by omega)), if_neg (show ¬ (90 : Int32) ≤ nI i from nI_ge (b := 90) (by omega) (by omega)), gd_in (by omega) (by omega), nI_clamp (by omega), if_pos hk]
  · rw [if_pos (nI_le (by omega) (by omega)), if_neg hk]
theorem c_byteT (hL : L ≤ 90) (hi : i < 1000) {j : Nat} : FX0_byteAt (tx T P L j u n) (nI i) = some (bt T L i) := c_byteAt (τ := tx T P L j u n) rfl hL hi
theorem c_isDigit (b : Int32) : FX0_isDigit b = some (if dg b 9 = true then 1 else 0) := by
  unfold FX0_isDigit dg
  by_cases h1 : b < 48
  · rw [if_pos h1]; simp [h1]
  · rw [if_neg h1]
    by_cases h2 : (57 : Int32) < b
    · have : ¬ b ≤ nI (48 + 9) := Int32.not_le.mpr h2
      rw [if_pos h2]; simp [this]
    · have : b ≤ nI (48 + 9) := Int32.not_lt.mp h2
      rw [if_neg h2]; simp [h1, this]
theorem tx_at : (tx T P L i u n).2.2.2.1 = nI i := rfl
theorem c_readByte (hL : L ≤ 90) (hi : i < 1000) (c : Int32) : FX0_readByte (tx T P L i u n) c = if bt T L i = c then some (-1, tx T P L (i + 1) u n) else some (nI i, tx T P L i u n) := by
  unfold FX0_readByte
  rw [tx_at, c_byteT hL hi, o_b, ← nI_succ]
theorem dg_cls {b : Int32} {G : Nat} (hG : G < 1000) : dg b G = true ↔ ¬ b - 48 < 0 ∧ b - 48 ≤ nI G := by
  rw [dg_iff hG]
  constructor
  · rintro ⟨d, h, e⟩
    rw [dg_sub e]
    exact ⟨nI_pos (by omega), nI_le h (by omega)⟩
  · intro ⟨h1, h2⟩
    obtain ⟨d, -, hd, e⟩ := rng_nat (a := 0) (b := G) (by omega) (by omega) h1 h2
    refine ⟨d, hd, ?_⟩
    have : b = b - 48 + 48 := (Int32.sub_add_cancel b 48).symm
    rw [this, e, show (48 : Int32) = nI 48 from rfl, nI_add, Nat.add_comm]
theorem c_readDigit (hL : L ≤ 90) (hi : i < 1000) {G : Nat} (hG : G < 1000) : FX0_readDigit (tx T P L i u n) (nI G) = if dg (bt T L i) G = true then some (-1, tx T P L (i + 1) (bt T L i - 48) n) else some (nI i, tx T P L i u n) := by
  unfold FX0_readDigit
  rw [tx_at, c_byteT hL hi, o_b, ← nI_succ]
  by_cases h : dg (bt T L i) G = true
  · obtain ⟨h1, h2⟩ := (dg_cls hG).mp h
    rw [if_pos h, if_neg h1, if_pos h2]
  · rw [if_neg h]
    by_cases h1 : bt T L i - 48 < 0
    · rw [if_pos h1]
    · rw [if_neg h1, if_neg (fun h2 => h ((dg_cls hG).mpr ⟨h1, h2⟩))]
theorem c_rdX (hL : L ≤ 90) (hi : i < 1000) : (∀ e, rdX T L 1 i = .inl e → FX0_readRack (tx T P L i u n) = some (nI e, tx T P L i u n)) ∧ (∀ q x, rdX T L 1 i = .inr (q, x) → FX0_readRack (tx T P L i u n) = some (-1, tx T P L q x n)) ∧ (∀ e, rdX T L 2 i = .inl e → FX0_readDigit (tx T P L i u n) 2 = some (nI e, tx T P L i u n)) ∧ (∀ q x, rdX T L 2 i = .inr (q, x) → FX0_readDigit (tx T P L i u n) 2 = some (-1, tx T P L q x n)) := by
  have d5 := c_readDigit (T := T) (P := P) (u := u) (n := n) hL hi (G := 5) (by omega)
  have d2 := c_readDigit (T := T) (P := P) (u := u) (n := n) hL hi (G := 2) (by omega)
  have d5' : FX0_readDigit (tx T P L i u n) (5 : Int32) = if dg (bt T L i) 5 = true then some (-1, tx T P L (i + 1) (bt T L i - 48) n) else some (nI i, tx T P L i u n) := d5
  have d2' : FX0_readDigit (tx T P L i u n) (2 : Int32) = if dg (bt T L i) 2 = true then some (-1, tx T P L (i + 1) (bt T L i - 48) n) else some (nI i, tx T P L i u n) := d2
  have key : FX0_readRack (tx T P L i u n) = if bt T L i = 115 then some (-1, tx T P L (i + 1) (-1) n) else FX0_readDigit (tx T P L i u n) 5 := by
    unfold FX0_readRack
    rw [tx_at, c_byteT hL hi, o_b, ← nI_succ]
    by_cases h : bt T L i = 115
    · rw [if_pos h, if_pos h]
    · rw [if_neg h, if_neg h, d5']
      split <;> rfl
  refine ⟨fun e h => ?_, fun q x h => ?_, fun e h => ?_, fun q x h => ?_⟩
  · unfold rdX at h
    by_cases h1 : bt T L i = 115
    · rw [if_pos ⟨rfl, h1⟩] at h; cases h
    · rw [if_neg (fun q => h1 q.2), if_pos rfl] at h
      rw [key, if_neg h1, d5']
      by_cases h2 : dg (bt T L i) 5 = true
      · rw [if_pos h2] at h; cases h
      · rw [if_neg h2] at h; cases h; rw [if_neg h2]
  · unfold rdX at h
    by_cases h1 : bt T L i = 115
    · rw [if_pos ⟨rfl, h1⟩] at h; cases h; rw [key, if_pos h1]
    · rw [if_neg (fun q => h1 q.2), if_pos rfl] at h
      rw [key, if_neg h1, d5']
      by_cases h2 : dg (bt T L i) 5 = true
      · rw [if_pos h2] at h; cases h; rw [if_pos h2]
      · rw [if_neg h2] at h; cases h
  · unfold rdX at h
    rw [if_neg (show ¬ ((2 : Nat) = 1 ∧ bt T L i = 115) from fun q => absurd q.1 (by decide)), if_neg (show ¬ (2 : Nat) = 1 by decide)] at h
    rw [d2']
    by_cases h2 : dg (bt T L i) 2 = true
    · rw [if_pos h2] at h; cases h
    · rw [if_neg h2] at h; cases h; rw [if_neg h2]
  · unfold rdX at h
    rw [if_neg (show ¬ ((2 : Nat) = 1 ∧ bt T L i = 115) from fun q => absurd q.1 (by decide)), if_neg (show ¬ (2 : Nat) = 1 by decide)] at h
    rw [d2']
    by_cases h2 : dg (bt T L i) 2 = true
    · rw [if_pos h2] at h; cases h; rw [if_pos h2]
    · rw [if_neg h2] at h; cases h
theorem c_j87 {t : TXS} (hL : L ≤ 90) (hi : i < 1000) (w : Int32) (ht : t.2.2.2.1 = nI i) {q : Nat} (hq : q < 1000) : FX0_readMachine_J87 t (nI m) w (tx T P L q u n) = if dg (bt T L q) 9 = true then some (nI q, tx T P L q u n) else if nI m ≤ w then some (nI i, tx T P L q w n) else some (-1, tx T P L q w n) := by
  unfold FX0_readMachine_J87
  rw [tx_at, c_byteT hL hq, o_b, c_isDigit, o_b, ht]
  by_cases h : dg (bt T L q) 9 = true
  · rw [if_pos h, if_neg n10, if_pos h]
  · rw [if_neg h, if_pos z00, if_neg h]
theorem c_rdN (hL : L ≤ 90) (hi : i < 900) : (∀ e, rdN T L m i = .inl e → ∃ q v, FX0_readMachine (tx T P L i u n) (nI m) = some (nI e, tx T P L q v n)) ∧ (∀ q w, rdN T L m i = .inr (q, w) → FX0_readMachine (tx T P L i u n) (nI m) = some (-1, tx T P L q w n)) := by
  have hb1 : FX0_byteAt (T, P, nI L, nI (i + 1), u, nI n) (nI (i + 1)) = some (bt T L (i + 1)) := c_byteT (j := i + 1) hL (by omega)
  have j1 : ∀ w, FX0_readMachine_J87 (tx T P L i u n) (nI m) w (T, P, nI L, nI (i + 1), u, nI n) = if dg (bt T L (i + 1)) 9 = true then some (nI (i + 1), tx T P L (i + 1) u n) else if nI m ≤ w then some (nI i, tx T P L (i + 1) w n) else some (-1, tx T P L (i + 1) w n) := fun w => c_j87 hL (by omega) w rfl (by omega)
  have j2 : ∀ w, FX0_readMachine_J87 (tx T P L i u n) (nI m) w (T, P, nI L, nI (i + 2), u, nI n) = if dg (bt T L (i + 2)) 9 = true then some (nI (i + 2), tx T P L (i + 2) u n) else if nI m ≤ w then some (nI i, tx T P L (i + 2) w n) else some (-1, tx T P L (i + 2) w n) := fun w => c_j87 hL (by omega) w rfl (by omega)
  have key : FX0_readMachine (tx T P L i u n) (nI m) = if dg (bt T L i) 9 = true then (if dg (bt T L (i + 1)) 9 = true then (if dg (bt T L (i + 2)) 9 = true then some (nI (i + 2), tx T P L (i + 2) u n) else if nI m ≤ 10 * (bt T L i - 48) + bt T L (i + 1) - 48 then some (nI i, tx T P L (i + 2) (10 * (bt T L i - 48) + bt T L (i + 1) - 48) n) else some (-1, tx T P L (i + 2) (10 * (bt T L i - 48) + bt T L (i + 1) - 48) n)) else if nI m ≤ bt T L i - 48 then some (nI i, tx T P L (i + 1) (bt T L i - 48) n) else some (-1, tx T P L (i + 1) (bt T L i - 48) n)) else some (nI i, tx T P L i u n) := by
    unfold FX0_readMachine
    rw [tx_at, c_byteT hL (by omega), o_b, c_isDigit, o_b, ← nI_succ]
    by_cases h1 : dg (bt T L i) 9 = true
    · rw [if_pos h1, if_neg n10, if_pos h1, o_b]
      show (FX0_byteAt (T, P, nI L, nI (i + 1), u, nI n) (nI (i + 1))).bind _ = _
      rw [hb1, o_b, c_isDigit, o_b]
      by_cases h2 : dg (bt T L (i + 1)) 9 = true
      · rw [if_pos h2, if_neg n10, if_pos h2]
        rw [o_b, nmv_eq, nmv_eq, ← nI_succ]
        exact j2 _
      · rw [if_neg h2, if_pos z00, if_neg h2]
        refine (j1 _).trans ?_
        rw [if_neg h2]
    · rw [if_neg h1, if_pos z00, if_neg h1]
  rw [key]
  refine ⟨fun e h => ?_, fun q w h => ?_⟩
  · unfold rdN at h
    by_cases h1 : dg (bt T L i) 9 = true
    · rw [if_pos h1] at h
      rw [if_pos h1]
      by_cases h2 : dg (bt T L (i + 1)) 9 = true
      · rw [if_pos h2] at h
        rw [if_pos h2]
        by_cases h3 : dg (bt T L (i + 2)) 9 = true
        · rw [if_pos h3] at h
          rw [if_pos h3]
          cases h
          exact ⟨_, _, rfl⟩
        · rw [if_neg h3] at h
          rw [if_neg h3]
          by_cases h4 : nI m ≤ 10 * (bt T L i - 48) + bt T L (i + 1) - 48
          · rw [if_pos h4] at h
            rw [if_pos h4]
            cases h
            exact ⟨_, _, rfl⟩
          · rw [if_neg h4] at h; cases h
      · rw [if_neg h2] at h
        rw [if_neg h2]
        by_cases h4 : nI m ≤ bt T L i - 48
        · rw [if_pos h4] at h
          rw [if_pos h4]
          cases h
          exact ⟨_, _, rfl⟩
        · rw [if_neg h4] at h; cases h
    · rw [if_neg h1] at h
      rw [if_neg h1]
      cases h
      exact ⟨_, _, rfl⟩
  · unfold rdN at h
    by_cases h1 : dg (bt T L i) 9 = true
    · rw [if_pos h1] at h
      rw [if_pos h1]
      by_cases h2 : dg (bt T L (i + 1)) 9 = true
      · rw [if_pos h2] at h
        rw [if_pos h2]
        by_cases h3 : dg (bt T L (i + 2)) 9 = true
        · rw [if_pos h3] at h; cases h
        · rw [if_neg h3] at h
          rw [if_neg h3]
          by_cases h4 : nI m ≤ 10 * (bt T L i - 48) + bt T L (i + 1) - 48
          · rw [if_pos h4] at h; cases h
          · rw [if_neg h4] at h
            rw [if_neg h4]
            cases h
            rfl
      · rw [if_neg h2] at h
        rw [if_neg h2]
        by_cases h4 : nI m ≤ bt T L i - 48
        · rw [if_pos h4] at h; cases h
        · rw [if_neg h4] at h
          rw [if_neg h4]
          cases h
          rfl
    · rw [if_neg h1] at h; cases h
end CR

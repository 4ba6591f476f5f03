/-! the plan's text: the model reads a part -/
section MP
variable {μ : MDS} {F A : Nat → Int32} {L m i : Nat} {so wo wh : Int32}
theorem e_j106 (hl : μ.2.2.2.2.2.2.2.1 = nI L) (hL : L ≤ 90) (hi : i < 700) {s : Nat} (hs : s = 1 ∨ s = 2) : FX4_reads_J106 (pz μ F A i (nI s) wo wh) = if dg (bt μ.2.2.2.2.1 L i) (if s = 1 then 5 else 2) = true then (if bt μ.2.2.2.2.1 L (i + 1) = 59 then some (1, pz μ F A (i + 2) (nI s) wo (bt μ.2.2.2.2.1 L i - 48)) else some (0, pz μ F A (i + 1) (nI s) wo (bt μ.2.2.2.2.1 L i - 48))) else some (0, pz μ F A i (nI s) wo wh) := by
  unfold FX4_reads_J106
  rcases hs with rfl | rfl
  · rw [if_pos (show nI 1 = 1 from rfl), if_pos (show (1 : Nat) = 1 from rfl)]
    exact e_j124 hl hL hi 5 (by omega)
  · rw [if_neg (show ¬ nI 2 = 1 by decide), if_neg (show ¬ (2 : Nat) = 1 by decide)]
    exact e_j124 hl hL hi 2 (by omega)
theorem e_j59 (hl : μ.2.2.2.2.2.2.2.1 = nI L) (hL : L ≤ 90) (hi : i < 600) (hF : F 13 = nI m) (hm : m ≤ 12) {s : Nat} (hs : s = 1 ∨ s = 2) : (∀ e, rdS μ.2.2.2.2.1 L m s i = .inl e → ∃ a b c, FX4_reads_J59 (pz μ F A i (nI s) wo wh) = some (0, pz μ F A e a b c)) ∧ (∀ q s' w x, rdS μ.2.2.2.2.1 L m s i = .inr (q, s', w, x) → FX4_reads_J59 (pz μ F A i (nI s) wo wh) = some (1, pz μ F A q (nI s) w x)) := by
  obtain ⟨a1, a2⟩ := e_rdN (A := A) (so := nI s) (wo := wo) (wh := wh) hl hL (show i < 800 by omega) hF hm
  unfold FX4_reads_J59 rdS
  cases e1 : rdN μ.2.2.2.2.1 L m i with
  | inl e0 =>
    obtain ⟨w', b1⟩ := a1 e0 e1
    rw [b1, o_b, if_pos z00]
    exact ⟨fun e h => (by cases h; exact ⟨_, _, _, rfl⟩), fun q s' w x h => (by cases h)⟩
  | inr z =>
    obtain ⟨q1, w1⟩ := z
    obtain ⟨k1, k2, -⟩ := rdN_ok hm e1
    rw [a2 q1 w1 e1, o_b, if_neg n10]
    show (∀ e, (if bt μ.2.2.2.2.1 L q1 = 62 then rdT μ.2.2.2.2.1 L s w1 (q1 + 1) else .inl q1) = .inl e → _) ∧ (∀ q s' w x, (if bt μ.2.2.2.2.1 L q1 = 62 then rdT μ.2.2.2.2.1 L s w1 (q1 + 1) else .inl q1) = .inr (q, s', w, x) → _)
    by_cases c1 : bt μ.2.2.2.2.1 L q1 = 62
    · rw [if_pos c1, e_takesY hl hL (by omega) (by decide) c1, o_b, if_neg n10]
      have j := e_j106 (F := F) (A := A) (wo := w1) (wh := wh) (i := q1 + 1) hl hL (by omega) hs
      have key : ∀ R : Option (Int32 × MDS), R = FX4_reads_J106 (pz μ F A (q1 + 1) (nI s) w1 wh) → ¬ (s = 1 ∧ bt μ.2.2.2.2.1 L (q1 + 1) = 115) → (∀ e, rdT μ.2.2.2.2.1 L s w1 (q1 + 1) = .inl e → ∃ a b c, R = some (0, pz μ F A e a b c)) ∧ (∀ q s' w x, rdT μ.2.2.2.2.1 L s w1 (q1 + 1) = .inr (q, s', w, x) → R = some (1, pz μ F A q (nI s) w x)) := fun R hR hn => by
        rw [hR, j]
        unfold rdT rdX
        rw [if_neg hn]
        by_cases c3 : dg (bt μ.2.2.2.2.1 L (q1 + 1)) (if s = 1 then 5 else 2) = true
        · rw [if_pos c3, if_pos c3]
          show (∀ e, rdE μ.2.2.2.2.1 L s w1 (bt μ.2.2.2.2.1 L (q1 + 1) - 48) (q1 + 1 + 1) = .inl e → _) ∧ (∀ q s' w x, rdE μ.2.2.2.2.1 L s w1 (bt μ.2.2.2.2.1 L (q1 + 1) - 48) (q1 + 1 + 1) = .inr (q, s', w, x) → _)
          unfold rdE
          by_cases c4 : bt μ.2.2.2.2.1 L (q1 + 1 + 1) = 59
          · rw [if_pos c4, if_pos c4]
            exact ⟨fun e h => (by cases h), fun q s' w x h => (by cases h; rfl)⟩
          · rw [if_neg c4, if_neg c4]
            exact ⟨fun e h => (by cases h; exact ⟨_, _, _, rfl⟩), fun q s' w x h => (by cases h)⟩
        · rw [if_neg c3, if_neg c3]
          exact ⟨fun e h => (by cases h; exact ⟨_, _, _, rfl⟩), fun q s' w x h => (by cases h)⟩
      rcases hs with rfl | rfl
      · rw [if_pos (show nI 1 = 1 from rfl)]
        by_cases c2 : bt μ.2.2.2.2.1 L (q1 + 1) = 115
        · have sm := e_semi (F := F) (A := A) (so := nI 1) (wo := w1) (wh := -1) (i := q1 + 1 + 1) hl hL (by omega)
          rw [e_takesY hl hL (by omega) (by decide) c2, o_b, if_neg n10, sm]
          unfold rdT rdX rdE
          rw [if_pos ⟨rfl, c2⟩]
          show (∀ e, (if bt μ.2.2.2.2.1 L (q1 + 1 + 1) = 59 then Sum.inr (q1 + 1 + 1 + 1, 1, w1, -1) else .inl (q1 + 1 + 1)) = .inl e → _) ∧ (∀ q s' w x, (if bt μ.2.2.2.2.1 L (q1 + 1 + 1) = 59 then Sum.inr (q1 + 1 + 1 + 1, 1, w1, -1) else .inl (q1 + 1 + 1)) = .inr (q, s', w, x) → _)
          by_cases c4 : bt μ.2.2.2.2.1 L (q1 + 1 + 1) = 59
          · rw [if_pos c4, if_pos c4]
            exact ⟨fun e h => (by cases h), fun q s' w x h => (by cases h; rfl)⟩
          · rw [if_neg c4, if_neg c4]
            exact ⟨fun e h => (by cases h; exact ⟨_, _, _, rfl⟩), fun q s' w x h => (by cases h)⟩
        · rw [e_takesN hl hL (by omega) (by decide) c2, o_b, if_pos z00]
          exact key _ rfl (fun q => c2 q.2)
      · rw [if_neg (show ¬ nI 2 = 1 by decide)]
        exact key _ rfl (fun q => absurd q.1 (by decide))
    · rw [if_neg c1, e_takesN hl hL (by omega) (by decide) c1, o_b, if_pos z00]
      exact ⟨fun e h => (by cases h; exact ⟨_, _, _, rfl⟩), fun q s' w x h => (by cases h)⟩
theorem e_reads (hl : μ.2.2.2.2.2.2.2.1 = nI L) (hL : L ≤ 90) (hi : i < 500) (hF : F 13 = nI m) (hm : m ≤ 12) : (∀ e, rdP μ.2.2.2.2.1 L m i = .inl e → ∃ a b c, FX4_reads (pz μ F A i so wo wh) = some (0, pz μ F A e a b c)) ∧ (∀ q s w x, rdP μ.2.2.2.2.1 L m i = .inr (q, s, w, x) → ∃ b c, FX4_reads (pz μ F A i so wo wh) = some (1, pz μ F A q (nI s) b c) ∧ (s ≠ 0 → b = w ∧ c = x)) := by
  unfold FX4_reads rdP
  by_cases h1 : bt μ.2.2.2.2.1 L i = 104
  · have sm := e_semi (F := F) (A := A) (so := 0) (wo := wo) (wh := wh) (i := i + 1) hl hL (by omega)
    rw [if_pos h1, e_takesY hl hL (by omega) (by decide) h1, o_b, if_neg n10, sm]
    unfold rdE
    by_cases c4 : bt μ.2.2.2.2.1 L (i + 1) = 59
    · rw [if_pos c4, if_pos c4]
      exact ⟨fun e h => (by cases h), fun q s w x h => (by cases h; exact ⟨_, _, rfl, fun q => absurd rfl q⟩)⟩
    · rw [if_neg c4, if_neg c4]
      exact ⟨fun e h => (by cases h; exact ⟨_, _, _, rfl⟩), fun q s' w x h => (by cases h)⟩
  · rw [if_neg h1, e_takesN hl hL (by omega) (by decide) h1, o_b, if_pos z00]
    have i1 := e_isC (F := F) (A := A) (i := i) (so := so) (wo := wo) (wh := wh) hl hL (by omega) (c := 109) (by decide)
    rw [i1, o_b]
    by_cases h2 : bt μ.2.2.2.2.1 L i = 109
    · rw [if_pos h2, if_pos h2, if_neg n10]
      unfold FX4_reads_J38
      have tk := e_takesY (F := F) (A := A) (so := 1) (wo := wo) (wh := wh) hl hL (show i < 900 by omega) (c := 109) (by decide) h2
      rw [tk, o_b, if_neg n10]
      obtain ⟨b1, b2⟩ := e_j59 (A := A) (wo := wo) (wh := wh) (i := i + 1) hl hL (by omega) hF hm (s := 1) (Or.inl rfl)
      refine ⟨fun e h => b1 e h, fun q s w x h => ?_⟩
      have hs : s = 1 := (rdS_ok hm (Or.inl rfl) h).2.2.2
      subst hs
      exact ⟨w, x, b2 q _ w x h, fun _ => ⟨rfl, rfl⟩⟩
    · rw [if_neg h2, if_neg h2, if_pos z00]
      unfold FX4_reads_J38
      have tk := e_takesN (F := F) (A := A) (so := 2) (wo := wo) (wh := wh) hl hL (show i < 900 by omega) (c := 109) (by decide) h2
      rw [tk, o_b, if_pos z00]
      by_cases h3 : bt μ.2.2.2.2.1 L i = 112
      · rw [if_pos h3, e_takesY hl hL (by omega) (by decide) h3, o_b, if_neg n10]
        obtain ⟨b1, b2⟩ := e_j59 (A := A) (wo := wo) (wh := wh) (i := i + 1) hl hL (by omega) hF hm (s := 2) (Or.inr rfl)
        refine ⟨fun e h => b1 e h, fun q s w x h => ?_⟩
        have hs : s = 2 := (rdS_ok hm (Or.inr rfl) h).2.2.2
        subst hs
        exact ⟨w, x, b2 q _ w x h, fun _ => ⟨rfl, rfl⟩⟩
      · rw [if_neg h3, e_takesN hl hL (by omega) (by decide) h3, o_b, if_pos z00]
        exact ⟨fun e h => (by cases h; exact ⟨_, _, _, rfl⟩), fun q s' w x h => (by cases h)⟩
end MP

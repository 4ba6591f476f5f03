/-! the plan's text: read as a whole -/
def Prs (T : Nat → Int32) (L m : Nat) : List (Nat × Int32 × Int32) → Nat → Prop
  | [], i => L ≤ i
  | r :: l, i => i < L ∧ ∃ q, rdP T L m i = .inr (q, r.1, r.2.1, r.2.2) ∧ Prs T L m l q
def Tab (P : Nat → Int32) : List (Nat × Int32 × Int32) → Nat → Prop
  | [], _ => True
  | r :: l, n => P (3 * n + 0) = kb r.1 ∧ (r.1 ≠ 0 → P (3 * n + 1) = r.2.1 ∧ P (3 * n + 2) = r.2.2) ∧ Tab P l (n + 1)
section PH
variable {μ : MDS} {F A : Nat → Int32} {L m : Nat}
theorem ph1 (hl : μ.2.2.2.2.2.2.2.1 = nI L) (hL : L ≤ 90) (hF : F 13 = nI m) (hm : m ≤ 12) (Kf : MDS → Option (Int32 × MDS)) : ∀ (d i n : Nat) (u : Int32) (P : Nat → Int32) (so wo wh : Int32) (f1 f2 : Nat), L ≤ i + d → 2 * n ≤ i → i ≤ L → d < f1 → d < f2 →
    (∃ e τ' a b c, e ≤ 100 ∧ FX0_read_L17 (nI m) (fun (y2_3 : Int32) (y2_2 : Int32) (s2_τ : TXS) => some (y2_2, s2_τ)) f1 (nI n) (-1) (tx μ.2.2.2.2.1 P L i u n) = some (nI e, τ') ∧ τ'.1 = μ.2.2.2.2.1 ∧ τ'.2.2.1 = nI L ∧ FX4_plan_L10 Kf f2 (pz μ F A i so wo wh) = Kf (pz μ F A e a b c)) ∨
    (∃ l P' v q a b c f', FX0_read_L17 (nI m) (fun (y2_3 : Int32) (y2_2 : Int32) (s2_τ : TXS) => some (y2_2, s2_τ)) f1 (nI n) (-1) (tx μ.2.2.2.2.1 P L i u n) = some (-1, tx μ.2.2.2.2.1 P' L q v (n + l.length)) ∧ Prs μ.2.2.2.2.1 L m l i ∧ Tab P' l n ∧ (∀ k, k < 3 * n → P' k = P k) ∧ n + l.length ≤ 45 ∧ L ≤ q ∧ q ≤ 90 ∧ FX4_plan_L10 Kf f2 (pz μ F A i so wo wh) = FX4_plan_L10 Kf (f' + 1) (pz μ F A q a b c)) := by
  intro d
  induction d with
  | zero =>
    intro i n u P so wo wh f1 f2 h1 h2 h3 g1 g2
    obtain ⟨f1', rfl⟩ : ∃ n', f1 = n' + 1 := ⟨f1 - 1, by omega⟩
    obtain ⟨f2', rfl⟩ : ∃ n', f2 = n' + 1 := ⟨f2 - 1, by omega⟩
    refine Or.inr ⟨[], P, u, i, so, wo, wh, f2', ?_, (show L ≤ i by omega), trivial, fun _ _ => rfl, (show n + 0 ≤ 45 by omega), by omega, by omega, rfl⟩
    rw [FX0_read_L17, if_neg (show ¬ (90 : Int32) ≤ nI n from nI_ge (b := 90) (by omega) (by omega)), if_pos m11]
    show (if nI L ≤ nI i then _ else _) = _
    rw [if_pos (nI_le (by omega) (by omega))]
    rfl
  | succ d ih =>
    intro i n u P so wo wh f1 f2 h1 h2 h3 g1 g2
    obtain ⟨f1', rfl⟩ : ∃ n', f1 = n' + 1 + 1 := ⟨f1 - 2, by omega⟩
    obtain ⟨f2', rfl⟩ : ∃ n', f2 = n' + 1 := ⟨f2 - 1, by omega⟩
    by_cases hiL : L ≤ i
    · refine Or.inr ⟨[], P, u, i, so, wo, wh, f2', ?_, hiL, trivial, fun _ _ => rfl, (show n + 0 ≤ 45 by omega), by omega, by omega, rfl⟩
      rw [FX0_read_L17, if_neg (show ¬ (90 : Int32) ≤ nI n from nI_ge (b := 90) (by omega) (by omega)), if_pos m11]
      show (if nI L ≤ nI i then _ else _) = _
      rw [if_pos (nI_le (by omega) (by omega))]
      rfl
    · obtain ⟨a1, a2⟩ := c_part (T := μ.2.2.2.2.1) (P := P) (u := u) (L := L) (m := m) (i := i) (n := n) hL (by omega) (by omega) hm
      obtain ⟨b1, b2⟩ := e_reads (F := F) (A := A) (so := so) (wo := wo) (wh := wh) (i := i) hl hL (by omega) hF hm
      have em : FX4_plan_L10 Kf (f2' + 1) (pz μ F A i so wo wh) = (FX4_reads (pz μ F A i so wo wh)).bind (fun z39 => if z39.1 = 0 then (Kf z39.2) else (FX4_plan_L10 Kf f2' z39.2)) := by
        rw [FX4_plan_L10]
        show (if μ.2.2.2.2.2.2.2.1 ≤ nI i then _ else _) = _
        rw [hl, if_neg (nI_ge (by omega) (by omega))]
      have ec : FX0_read_L17 (nI m) (fun (y2_3 : Int32) (y2_2 : Int32) (s2_τ : TXS) => some (y2_2, s2_τ)) (f1' + 1 + 1) (nI n) (-1) (tx μ.2.2.2.2.1 P L i u n) = (FX0_readPart (tx μ.2.2.2.2.1 P L i u n) (nI m)).bind (fun z6 => FX0_read_L17 (nI m) (fun (y2_3 : Int32) (y2_2 : Int32) (s2_τ : TXS) => some (y2_2, s2_τ)) (f1' + 1) (nI (n + 1)) z6.1 z6.2) := by
        rw [FX0_read_L17, if_neg (show ¬ (90 : Int32) ≤ nI n from nI_ge (b := 90) (by omega) (by omega)), if_pos m11]
        show (if nI L ≤ nI i then _ else _) = _
        rw [if_neg (nI_ge (by omega) (by omega)), ← nI_succ]
      rw [em, ec]
      cases e1 : rdP μ.2.2.2.2.1 L m i with
      | inl e =>
        obtain ⟨τ', c1, c2, c3, c4⟩ := a1 e e1
        obtain ⟨a, b, c, d1⟩ := b1 e e1
        refine Or.inl ⟨e, τ', a, b, c, c4, ?_, c2, c3, ?_⟩
        · rw [c1, o_b, FX0_read_L17, if_neg (show ¬ (90 : Int32) ≤ nI (n + 1) from nI_ge (b := 90) (by omega) (by omega)), if_neg (show ¬ nI e = -1 from nI_nm1 (by omega))]
        · rw [d1, o_b, if_pos z00]
      | inr r =>
        obtain ⟨q, s, w, x⟩ := r
        obtain ⟨k1, k2, k3⟩ := rdP_ok hm e1
        obtain ⟨P', v, c1, c2, c3, c4⟩ := a2 q s w x e1
        obtain ⟨b, c, d1, -⟩ := b2 q s w x e1
        rw [c1, o_b, d1, o_b, if_neg n10]
        rcases ih q (n + 1) v P' (nI s) b c (f1' + 1) f2' (by omega) (by omega) k2 (by omega) (by omega) with ⟨e, τ', a', b', c', v1, v2, v3, v4, v5⟩ | ⟨l, P2, v', q', a', b', c', f', v1, v2, v3, v4, v5, v6, v7, v8⟩
        · exact Or.inl ⟨e, τ', a', b', c', v1, v2, v3, v4, v5⟩
        · refine Or.inr ⟨(s, w, x) :: l, P2, v', q', a', b', c', f', ?_, ⟨by omega, q, e1, v2⟩, ⟨?_, fun hs => ?_, v3⟩, fun k hk => (v4 k (by omega)).trans (c4 k hk), ?_, v6, v7, v8⟩
          · rw [List.length_cons, show n + (l.length + 1) = n + 1 + l.length by omega]
            exact v1
          · rw [v4 _ (by omega)]; exact c2
          · rw [v4 _ (by omega), v4 _ (by omega)]; exact c3 hs
          · rw [List.length_cons]; omega
end PH

/-! the law: a call on both sides, and on -/
def Sim (θ : Int32) (ρ π : RS) (τ : TXS) (μ : MDS) (S0 S1 S2 S3 : RS) : Prop := ρ = rsOf μ.1 ∧ Inv μ.1 ∧ Zr π ∧ (∃ n, Txt τ μ n) ∧ ∃ k, SV μ.2.1 θ S0 S1 S2 S3 k ∧ μ.2.2.2.2.2.1 = nI k
def Rt (xs : Nat → Int32) (L N : Nat) (i : Int32) : Prop := ∀ O θ ρ π τ μ S0 S1 S2 S3, Sim θ ρ π τ μ S0 S1 S2 S3 → FL_law xs L N i O θ ρ π τ μ S0 S1 S2 S3 = some 1
theorem lgc (x : Int64) : lg_cmp x x = 0 := by
  unfold lg_cmp
  rw [if_neg (show ¬ x > x from Int64.lt_irrefl), if_pos rfl]
theorem updL_at (O : Nat → Int64) (v : Int64) : vp_updL O ((0 : Int32)).toNatClampNeg v ((0 : Int32)).toNatClampNeg = v := pk_uLs
theorem lgu (O : Nat → Int64) (v : Int32) : lg_cmp (vp_updL O ((0 : Int32)).toNatClampNeg v.toInt64 ((0 : Int32)).toNatClampNeg) v.toInt64 = 0 := by rw [updL_at, lgc]
def gFL (cd : Nat → Int32) (A : Option (Nat ⊕ (Int32 × Int32 × RS × RS × RS × RS × RS))) (θ : Int32) (ρ S0 S1 S2 S3 : RS) (O : Nat → Int64) : Option (Int32 × Int32 × RS × RS × RS × RS × RS × (Nat → Int64)) :=
  match A with
  | none => none
  | some (.inl k) => if cd k = 0 then none else some (cd k, θ, ρ, S0, S1, S2, S3, O)
  | some (.inr r) => some ((0 : Int32), r.2.1, r.2.2.1, r.2.2.2.1, r.2.2.2.2.1, r.2.2.2.2.2.1, r.2.2.2.2.2.2, vp_updL O ((0 : Int32)).toNatClampNeg r.1.toInt64)
def gFO (cd : Nat → Int32) (A : Option (Nat ⊕ Int32)) (O : Nat → Int64) : Option (Int32 × (Nat → Int64)) :=
  match A with
  | none => none
  | some (.inl k) => if cd k = 0 then none else some (cd k, O)
  | some (.inr r) => some ((0 : Int32), vp_updL O ((0 : Int32)).toNatClampNeg r.toInt64)
def gFA (cd : Nat → Int32) (A : Option (Nat ⊕ (Int32 × RS))) (ρ : RS) (O : Nat → Int64) : Option (Int32 × RS × (Nat → Int64)) :=
  match A with
  | none => none
  | some (.inl k) => if cd k = 0 then none else some (cd k, ρ, O)
  | some (.inr r) => some ((0 : Int32), r.2, vp_updL O ((0 : Int32)).toNatClampNeg r.1.toInt64)
theorem cd_12 {α : Type} (k : Nat) (g : Int32 → α) : (if cd12 k = 0 then (none : Option α) else some (g (cd12 k))) = if k = 1 then some (g 1) else if k = 2 then some (g 2) else none := by
  unfold cd12
  by_cases h1 : k = 1
  · rw [if_pos h1, if_pos h1, if_neg n10]
  · rw [if_neg h1, if_neg h1]
    by_cases h2 : k = 2
    · rw [if_pos h2, if_pos h2, if_neg (by decide)]
    · rw [if_neg h2, if_neg h2, if_pos z00]
theorem cd_23 {α : Type} (k : Nat) (g : Int32 → α) : (if cd23 k = 0 then (none : Option α) else some (g (cd23 k))) = if k = 2 then some (g 1) else if k = 3 then some (g 2) else none := by
  unfold cd23
  by_cases h1 : k = 2
  · rw [if_pos h1, if_pos h1, if_neg n10]
  · rw [if_neg h1, if_neg h1]
    by_cases h2 : k = 3
    · rw [if_pos h2, if_pos h2, if_neg (by decide)]
    · rw [if_neg h2, if_neg h2, if_pos z00]
theorem cd_123 {α : Type} (k : Nat) (g : Int32 → α) : (if cd123 k = 0 then (none : Option α) else some (g (cd123 k))) = if k = 1 then some (g 1) else if k = 2 then some (g 2) else if k = 3 then some (g 3) else none := by
  unfold cd123
  by_cases h1 : k = 1
  · rw [if_pos h1, if_pos h1, if_neg n10]
  · rw [if_neg h1, if_neg h1]
    by_cases h2 : k = 2
    · rw [if_pos h2, if_pos h2, if_neg (by decide)]
    · rw [if_neg h2, if_neg h2]
      by_cases h3 : k = 3
      · rw [if_pos h3, if_pos h3, if_neg (by decide)]
      · rw [if_neg h3, if_neg h3, if_pos z00]
theorem cd_i {α : Type} (k : Nat) (g : Int32 → α) : (if cdi k = 0 then (none : Option α) else some (g (cdi k))) = if k = 1 then some (g 1) else none := by
  unfold cdi
  by_cases h1 : k = 1
  · rw [if_pos h1, if_pos h1, if_neg n10]
  · rw [if_neg h1, if_neg h1, if_pos z00]
theorem cd_a {α : Type} (k : Nat) (g : Int32 → α) : (if cda k = 0 then (none : Option α) else some (g (cda k))) = if k = 2 then some (g 1) else none := by
  unfold cda
  by_cases h1 : k = 2
  · rw [if_pos h1, if_pos h1, if_neg n10]
  · rw [if_neg h1, if_neg h1, if_pos z00]
theorem cd_s {α : Type} (k : Nat) (g : Int32 → α) : (if cds k = 0 then (none : Option α) else some (g (cds k))) = if k = 3 then some (g 1) else none := by
  unfold cds
  by_cases h1 : k = 3
  · rw [if_pos h1, if_pos h1, if_neg n10]
  · rw [if_neg h1, if_neg h1, if_pos z00]
section FIN
variable {μ : MDS} {θ : Int32} {π S0 S1 S2 S3 : RS} {τ : TXS} {xs : Nat → Int32} {L N : Nat} {i : Int32} {O : Nat → Int64} {cd : Nat → Int32} {B : Option (Int32 × MDS)}
theorem sim_rfz (h : Sim θ (rsOf μ.1) π τ μ S0 S1 S2 S3) (x : Int32) : Sim θ (rsOf μ.1) π τ (rfz μ x) S0 S1 S2 S3 := h
theorem sim_kz (h : Sim θ (rsOf μ.1) π τ μ S0 S1 S2 S3) {F K : Nat → Int32} (hF : Al F μ.1) : Sim θ (rsOf μ.1) π τ (kz μ F K) S0 S1 S2 S3 := by
  obtain ⟨-, hI, hp, hT, hS⟩ := h
  exact ⟨(rs_ext hF).symm, inv_ext (fun k hk => (hF k hk).symm) hI, hp, hT, hS⟩
theorem sim_chg {μ' : MDS} {θ' : Int32} {S0' S1' S2' S3' : RS} {k : Nat} (h : Sim θ (rsOf μ.1) π τ μ S0 S1 S2 S3) (hk : Keep μ μ') (hI : Inv μ'.1) (hS : SV μ'.2.1 θ' S0' S1' S2' S3' k) (hs : μ'.2.2.2.2.2.1 = nI k) : Sim θ' (rsOf μ'.1) π τ μ' S0' S1' S2' S3' := by
  obtain ⟨-, -, hp, ⟨n, hT1, hT2, hT3, hT4⟩, -⟩ := h
  obtain ⟨k1, k2, -⟩ := hk
  exact ⟨rfl, hI, hp, ⟨n, hT1.trans k1.symm, hT2, k2.trans hT3, hT4⟩, k, hS, hs⟩
theorem fin_chg {A : Option (Nat ⊕ (Int32 × Int32 × RS × RS × RS × RS × RS))} {Z : Option (Int32 × Int32 × RS × RS × RS × RS × RS × (Nat → Int64))} (hR : Rt xs L N i) (hS : Sim θ (rsOf μ.1) π τ μ S0 S1 S2 S3) (hc : Chg A B μ cd) (hZ : Z = gFL cd A θ (rsOf μ.1) S0 S1 S2 S3 O) : (Z.bind fun z5 => B.bind fun z11 => (FX4_thrown z11.2).bind fun z13 => if z13 = z5.1 then (if z5.1 = 0 then (if (lg_cmp (z5.2.2.2.2.2.2.2 ((0 : Int32)).toNatClampNeg) z11.1.toInt64) = 0 then (FL_law xs L N i z5.2.2.2.2.2.2.2 z5.2.1 z5.2.2.1 π τ z11.2 z5.2.2.2.1 z5.2.2.2.2.1 z5.2.2.2.2.2.1 z5.2.2.2.2.2.2.1) else (some (0 : Int32))) else (FL_law xs L N i z5.2.2.2.2.2.2.2 z5.2.1 z5.2.2.1 π τ z11.2 z5.2.2.2.1 z5.2.2.2.2.1 z5.2.2.2.2.2.1 z5.2.2.2.2.2.2.1)) else (some (0 : Int32))) = some 1 := by
  rcases hc with ⟨k, w, rfl, hk, rfl⟩ | ⟨v, θ', S0', S1', S2', S3', μ', k', rfl, rfl, hK, hI, hV, hs⟩
  · have e : Z = some (cd k, θ, rsOf μ.1, S0, S1, S2, S3, O) := hZ.trans (if_neg hk)
    rw [e, o_b, o_b, thrown_z, o_b, if_pos rfl, if_neg hk]
    exact hR _ _ _ _ _ _ _ _ _ _ (sim_rfz hS _)
  · have e : Z = some ((0 : Int32), θ', rsOf μ'.1, S0', S1', S2', S3', vp_updL O ((0 : Int32)).toNatClampNeg v.toInt64) := hZ
    have e2 : FX4_thrown μ' = some 0 := congrArg some hK.2.2
    rw [e, o_b, o_b, e2, o_b, if_pos z00, if_pos z00]
    refine (if_pos (lgu O v)).trans ?_
    exact hR _ _ _ _ _ _ _ _ _ _ (sim_chg hS hK hI hV hs)
theorem fin_obs {A : Option (Nat ⊕ Int32)} {Z : Option (Int32 × (Nat → Int64))} (hR : Rt xs L N i) (hS : Sim θ (rsOf μ.1) π τ μ S0 S1 S2 S3) (hc : Obs A B μ cd) (hZ : Z = gFO cd A O) : (Z.bind fun z5 => B.bind fun z11 => (FX4_thrown z11.2).bind fun z13 => if z13 = z5.1 then (if z5.1 = 0 then (if (lg_cmp (z5.2 ((0 : Int32)).toNatClampNeg) z11.1.toInt64) = 0 then (FL_law xs L N i z5.2 θ (rsOf μ.1) π τ z11.2 S0 S1 S2 S3) else (some (0 : Int32))) else (FL_law xs L N i z5.2 θ (rsOf μ.1) π τ z11.2 S0 S1 S2 S3)) else (some (0 : Int32))) = some 1 := by
  rcases hc with ⟨k, w, rfl, hk, rfl⟩ | ⟨v, rfl, rfl⟩
  · have e : Z = some (cd k, O) := hZ.trans (if_neg hk)
    rw [e, o_b, o_b, thrown_z, o_b, if_pos rfl, if_neg hk]
    exact hR _ _ _ _ _ _ _ _ _ _ (sim_rfz hS _)
  · have e : Z = some ((0 : Int32), vp_updL O ((0 : Int32)).toNatClampNeg v.toInt64) := hZ
    rw [e, o_b, o_b, thrown_z, o_b, if_pos z00, if_pos z00]
    refine (if_pos (lgu O v)).trans ?_
    exact hR _ _ _ _ _ _ _ _ _ _ (sim_rfz hS _)
theorem fin_ask {A : Option (Nat ⊕ (Int32 × RS))} {Z : Option (Int32 × RS × (Nat → Int64))} (hR : Rt xs L N i) (hS : Sim θ (rsOf μ.1) π τ μ S0 S1 S2 S3) (hc : Ask A B μ cd) (hZ : Z = gFA cd A (rsOf μ.1) O) : (Z.bind fun z5 => B.bind fun z11 => (FX4_thrown z11.2).bind fun z13 => if z13 = z5.1 then (if z5.1 = 0 then (if (lg_cmp (z5.2.2 ((0 : Int32)).toNatClampNeg) z11.1.toInt64) = 0 then (FL_law xs L N i z5.2.2 θ z5.2.1 π τ z11.2 S0 S1 S2 S3) else (some (0 : Int32))) else (FL_law xs L N i z5.2.2 θ z5.2.1 π τ z11.2 S0 S1 S2 S3)) else (some (0 : Int32))) = some 1 := by
  rcases hc with ⟨k, w, rfl, hk, rfl⟩ | ⟨v, F, K, rfl, rfl, hF⟩
  · have e : Z = some (cd k, rsOf μ.1, O) := hZ.trans (if_neg hk)
    rw [e, o_b, o_b, thrown_z, o_b, if_pos rfl, if_neg hk]
    exact hR _ _ _ _ _ _ _ _ _ _ (sim_rfz hS _)
  · have e : Z = some ((0 : Int32), rsOf μ.1, vp_updL O ((0 : Int32)).toNatClampNeg v.toInt64) := hZ
    have e2 : FX4_thrown (kz μ F K) = some 0 := rfl
    rw [e, o_b, o_b, e2, o_b, if_pos z00, if_pos z00]
    refine (if_pos (lgu O v)).trans ?_
    exact hR _ _ _ _ _ _ _ _ _ _ (sim_kz hS hF)
theorem fin_chg0 {A : Option (Int32 × Int32 × RS × RS × RS × RS × RS)} (hR : Rt xs L N i) (hS : Sim θ (rsOf μ.1) π τ μ S0 S1 S2 S3) (hc : Chg0 A B μ) : (A.bind fun z5 => B.bind fun z11 => if z5.1 = z11.1 then (FL_law xs L N i O z5.2.1 z5.2.2.1 π τ z11.2 z5.2.2.2.1 z5.2.2.2.2.1 z5.2.2.2.2.2.1 z5.2.2.2.2.2.2) else (some (0 : Int32))) = some 1 := by
  obtain ⟨v, θ', S0', S1', S2', S3', μ', k', rfl, rfl, hK, hI, hV, hs⟩ := hc
  rw [o_b, o_b, if_pos rfl]
  exact hR _ _ _ _ _ _ _ _ _ _ (sim_chg hS hK hI hV hs)
theorem fin_ask0 {A : Option (Int32 × RS)} (hR : Rt xs L N i) (hS : Sim θ (rsOf μ.1) π τ μ S0 S1 S2 S3) (hc : Ask0 A B μ) : (A.bind fun z5 => B.bind fun z11 => if z5.1 = z11.1 then (FL_law xs L N i O θ z5.2 π τ z11.2 S0 S1 S2 S3) else (some (0 : Int32))) = some 1 := by
  obtain ⟨v, F, K, rfl, rfl, hF⟩ := hc
  rw [o_b, o_b, if_pos rfl]
  exact hR _ _ _ _ _ _ _ _ _ _ (sim_kz hS hF)
end FIN

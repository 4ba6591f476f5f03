/-! a step on the pile -/
theorem upd_cm (f : Nat → Int32) {a b : Nat} (x y : Int32) (h : a ≠ b) : upd (upd f a x) b y = upd (upd f b y) a x := by
  funext i
  by_cases h1 : i = a
  · rw [h1, upd_at, upd_ne _ _ h, upd_at]
  · by_cases h2 : i = b
    · rw [h2, upd_at, upd_ne _ _ (fun e => h e.symm), upd_at]
    · rw [upd_ne _ _ h2, upd_ne _ _ h1, upd_ne _ _ h1, upd_ne _ _ h2]
theorem shR_oC (f : Nat → Int32) {x y C i : Nat} (h : i < x ∨ y ≤ i) : shR f x y C i = f i := if_neg (fun q => by omega)
theorem cmp_shC (f : Nat → Int32) {b n x y C : Nat} (hy : y + C ≤ n) : (fun k => if k < n then shR f (b + x) (b + y) C (b + k) else 0) = shR (fun k => if k < n then f (b + k) else (0 : Int32)) x y C := by
  funext k
  unfold shR
  by_cases hk : k < n
  · rw [if_pos hk]
    by_cases h : x ≤ k ∧ k < y
    · rw [if_pos ⟨by omega, by omega⟩, if_pos h]
      show f (b + k + C) = if k + C < n then f (b + (k + C)) else 0
      rw [if_pos (by omega), Nat.add_assoc]
    · rw [if_neg (fun q => h ⟨by omega, by omega⟩), if_neg h]
      exact (if_pos hk).symm
  · rw [if_neg hk, if_neg (fun q => by omega)]
    exact (if_neg hk).symm
theorem cmp_soC (f : Nat → Int32) {b n x y C : Nat} (h : b + n ≤ x ∨ y ≤ b) : (fun k => if k < n then shR f x y C (b + k) else 0) = (fun k => if k < n then f (b + k) else (0 : Int32)) := by
  funext k
  by_cases hk : k < n
  · rw [if_pos hk, if_pos hk, shR_oC f (by omega)]
  · rw [if_neg hk, if_neg hk]
theorem cmp_so0C (f : Nat → Int32) {n x y C : Nat} (h : n ≤ x) : (fun k => if k < n then shR f x y C k else 0) = (fun k => if k < n then f k else (0 : Int32)) := by
  funext k
  by_cases hk : k < n
  · rw [if_pos hk, if_pos hk, shR_oC f (by omega)]
  · rw [if_neg hk, if_neg hk]
theorem rs_shP (f : Nat → Int32) : rsOf (shR f 139 215 4) = ((rsOf f).1, (rsOf f).2.1, (rsOf f).2.2.1, shR (rsOf f).2.2.2.1 0 76 4, (rsOf f).2.2.2.2) := by
  have e := cmp_shC f (b := 139) (n := 80) (x := 0) (y := 76) (C := 4) (by omega)
  have e' : (fun k => if k < 80 then shR f 139 215 4 (139 + k) else 0) = shR (fun k => if k < 80 then f (139 + k) else (0 : Int32)) 0 76 4 := e
  unfold rsOf
  rw [cmp_soC f (by omega), cmp_soC f (by omega), cmp_soC f (by omega), e', cmp_so0C f (by omega), cmp_soC f (by omega)]
  rfl
/-- the oldest step taken from a full pile -/
def g20 (f : Nat → Int32) : Nat → Int32 := upd (shR f 139 215 4) 16 (nI 19)
/-- a step written as number n -/
def pu4 (f : Nat → Int32) (n : Nat) (v0 v1 v2 v3 : Int32) : Nat → Int32 := upd (upd (upd (upd (upd (upd f (139 + (4 * n + 0)) v0) (139 + (4 * n + 1)) v1) (139 + (4 * n + 2)) v2) (139 + (4 * n + 3)) v3) 16 (nI (n + 1))) 17 (f 17 + 1)
def puR (f : Nat → Int32) (p : Nat) (v0 v1 v2 v3 : Int32) : Nat → Int32 := if p = 20 then pu4 (g20 f) 19 v0 v1 v2 v3 else pu4 f p v0 v1 v2 v3
theorem g20_o (f : Nat → Int32) {i : Nat} (h : i < 139) (h16 : i ≠ 16) : g20 f i = f i := by
  unfold g20
  rw [upd_ne _ _ h16, shR_oC _ (by omega)]
theorem pu4_o (f : Nat → Int32) {n i : Nat} (v0 v1 v2 v3 : Int32) (h : i < 139 + 4 * n ∨ 139 + 4 * n + 4 ≤ i) (h16 : i ≠ 16) (h17 : i ≠ 17) : pu4 f n v0 v1 v2 v3 i = f i := by
  unfold pu4
  rw [upd_ne _ _ h17, upd_ne _ _ h16, upd_ne _ _ (by omega), upd_ne _ _ (by omega), upd_ne _ _ (by omega), upd_ne _ _ (by omega)]
theorem pu4_0 (f : Nat → Int32) (n : Nat) (v0 v1 v2 v3 : Int32) : pu4 f n v0 v1 v2 v3 (139 + (4 * n + 0)) = v0 := by
  unfold pu4
  rw [upd_ne _ _ (by omega), upd_ne _ _ (by omega), upd_ne _ _ (by omega), upd_ne _ _ (by omega), upd_ne _ _ (by omega), upd_at]
theorem pu4_1 (f : Nat → Int32) (n : Nat) (v0 v1 v2 v3 : Int32) : pu4 f n v0 v1 v2 v3 (139 + (4 * n + 1)) = v1 := by
  unfold pu4
  rw [upd_ne _ _ (by omega), upd_ne _ _ (by omega), upd_ne _ _ (by omega), upd_ne _ _ (by omega), upd_at]
theorem pu4_2 (f : Nat → Int32) (n : Nat) (v0 v1 v2 v3 : Int32) : pu4 f n v0 v1 v2 v3 (139 + (4 * n + 2)) = v2 := by
  unfold pu4
  rw [upd_ne _ _ (by omega), upd_ne _ _ (by omega), upd_ne _ _ (by omega), upd_at]
theorem pu4_3 (f : Nat → Int32) (n : Nat) (v0 v1 v2 v3 : Int32) : pu4 f n v0 v1 v2 v3 (139 + (4 * n + 3)) = v3 := by
  unfold pu4
  rw [upd_ne _ _ (by omega), upd_ne _ _ (by omega), upd_at]
theorem pu4_16 (f : Nat → Int32) (n : Nat) (v0 v1 v2 v3 : Int32) : pu4 f n v0 v1 v2 v3 16 = nI (n + 1) := by
  unfold pu4
  rw [upd_ne _ _ (by omega), upd_at]
theorem puR_o (f : Nat → Int32) {p i : Nat} (v0 v1 v2 v3 : Int32) (h : i < 139) (h16 : i ≠ 16) (h17 : i ≠ 17) : puR f p v0 v1 v2 v3 i = f i := by
  unfold puR
  split
  · rw [pu4_o _ _ _ _ _ (by omega) h16 h17, g20_o _ h h16]
  · rw [pu4_o _ _ _ _ _ (by omega) h16 h17]
theorem pu4_c (f : Nat → Int32) {A n : Nat} (x v0 v1 v2 v3 : Int32) (h1 : 19 ≤ A) (h2 : A < 139) : pu4 (upd f A x) n v0 v1 v2 v3 = upd (pu4 f n v0 v1 v2 v3) A x := by
  unfold pu4
  rw [upd_ne f x (show 17 ≠ A by omega), upd_cm f x v0 (by omega), upd_cm _ x v1 (by omega), upd_cm _ x v2 (by omega), upd_cm _ x v3 (by omega), upd_cm _ x (nI (n + 1)) (by omega), upd_cm _ x (f 17 + 1) (by omega)]
theorem g20_c (f : Nat → Int32) {A : Nat} (x : Int32) (h1 : 19 ≤ A) (h2 : A < 139) : g20 (upd f A x) = upd (g20 f) A x := by
  have e : shR (upd f A x) 139 215 4 = upd (shR f 139 215 4) A x := by
    funext i
    by_cases hi : i = A
    · rw [hi, upd_at, shR_oC _ (by omega), upd_at]
    · rw [upd_ne _ _ hi]
      unfold shR
      by_cases hq : 139 ≤ i ∧ i < 215
      · rw [if_pos hq, if_pos hq, upd_ne _ _ (by omega)]
      · rw [if_neg hq, if_neg hq, upd_ne _ _ hi]
  unfold g20
  rw [e, upd_cm _ x (nI 19) (by omega)]
theorem puR_c (f : Nat → Int32) {A p : Nat} (x v0 v1 v2 v3 : Int32) (h1 : 19 ≤ A) (h2 : A < 139) : puR (upd f A x) p v0 v1 v2 v3 = upd (puR f p v0 v1 v2 v3) A x := by
  unfold puR
  split
  · rw [g20_c f x h1 h2, pu4_c _ x _ _ _ _ h1 h2]
  · rw [pu4_c _ x _ _ _ _ h1 h2]
theorem puR_plc (f : Nat → Int32) {p j : Nat} (hj : j < 12) (r s q v0 v1 v2 v3 : Int32) : puR (plc f j r s q) p v0 v1 v2 v3 = plc (puR f p v0 v1 v2 v3) j r s q := by
  unfold plc
  rw [puR_c _ _ _ _ _ _ (by omega) (by omega), puR_c _ _ _ _ _ _ (by omega) (by omega), puR_c _ _ _ _ _ _ (by omega) (by omega)]
theorem upd_self (f : Nat → Int32) (i : Nat) : upd f i (f i) = f := by
  funext k
  by_cases h : k = i
  · rw [h, upd_at]
  · rw [upd_ne _ _ h]
theorem plc_q (f : Nat → Int32) (j : Nat) (q : Int32) : plc f j (f (19 + (6 * j + 4))) (f (19 + (6 * j + 5))) q = upd f (19 + (6 * j + 2)) q := by
  unfold plc
  rw [upd_self, upd_self]
section PUSH
variable {f : Nat → Int32} {μ : MDS} {m c z p : Nat} {j : Nat}
theorem rs_pu4 (f : Nat → Int32) {n : Nat} (hn : n < 20) (v0 v1 v2 v3 : Int32) : rsOf (pu4 f n v0 v1 v2 v3) = ((rsOf f).1, (rsOf f).2.1, (rsOf f).2.2.1, upd (upd (upd (upd (rsOf f).2.2.2.1 (4 * n + 0) v0) (4 * n + 1) v1) (4 * n + 2) v2) (4 * n + 3) v3, (rsOf f).2.2.2.2.1, (rsOf f).2.2.2.2.2.1, f 13, f 14, f 15, nI (n + 1), f 11, f 12, f 17 + 1, f 18) := by
  unfold pu4
  rw [rs_17, rs_16]
  have e : ∀ i, i < 139 → upd (upd (upd (upd f (139 + (4 * n + 0)) v0) (139 + (4 * n + 1)) v1) (139 + (4 * n + 2)) v2) (139 + (4 * n + 3)) v3 i = f i := fun i hi => by
    rw [upd_ne _ _ (by omega), upd_ne _ _ (by omega), upd_ne _ _ (by omega), upd_ne _ _ (by omega)]
  have e2 : ∀ i, i < 139 → i ≠ 16 → upd (upd (upd (upd (upd f (139 + (4 * n + 0)) v0) (139 + (4 * n + 1)) v1) (139 + (4 * n + 2)) v2) (139 + (4 * n + 3)) v3) 16 (nI (n + 1)) i = f i := fun i hi h => by
    rw [upd_ne _ _ h, e i hi]
  rw [e2 13 (by omega) (by omega), e2 14 (by omega) (by omega), e2 15 (by omega) (by omega), e2 11 (by omega) (by omega), e2 12 (by omega) (by omega), e2 18 (by omega) (by omega), upd_at, rs_P _ _ (by omega), rs_P _ _ (by omega), rs_P _ _ (by omega), rs_P _ _ (by omega)]
theorem c_push18 (h : Cnt f m c z p) (hp : p < 20) (hj : j < m) (v : Int32) : FX1_pushStep_J18 (nI j) (rsOf f) = some (rsOf (pu4 f p (nI j) (f (19 + (6 * j + 4))) (f (19 + (6 * j + 5))) (f (19 + (6 * j + 2))))) := by
  have ea : FX2_addRow (20 : Int32) (4 : Int32) 80 ((rsOf f).2.2.2.2.2.2.2.2.2.1, (rsOf f).2.2.2.1) = some (nI p, (nI (p + 1), (rsOf f).2.2.2.1)) := by
    rw [rz_ns, h.hp, show (20 : Int32) = nI 20 from rfl, c_addRow _ hp (by omega)]
  have P : ∀ (T : Nat → Int32) (q : Nat) (v : Int32), q < 4 → FX2_put (20 : Int32) (4 : Int32) 80 (nI (p + 1), T) (nI p) (nI q) v = some (nI (p + 1), upd T (4 * p + q) v) := fun T q v hq => put_k (C := 4) (by omega) hq (by omega) (by omega) (by omega) (by omega)
  have P0 : ∀ (T : Nat → Int32) (v : Int32), FX2_put (20 : Int32) (4 : Int32) 80 (nI (p + 1), T) (nI p) (0 : Int32) v = some (nI (p + 1), upd T (4 * p + 0) v) := fun T v => P T 0 v (by omega)
  have P1 : ∀ (T : Nat → Int32) (v : Int32), FX2_put (20 : Int32) (4 : Int32) 80 (nI (p + 1), T) (nI p) (1 : Int32) v = some (nI (p + 1), upd T (4 * p + 1) v) := fun T v => P T 1 v (by omega)
  have P2 : ∀ (T : Nat → Int32) (v : Int32), FX2_put (20 : Int32) (4 : Int32) 80 (nI (p + 1), T) (nI p) (2 : Int32) v = some (nI (p + 1), upd T (4 * p + 2) v) := fun T v => P T 2 v (by omega)
  have P3 : ∀ (T : Nat → Int32) (v : Int32), FX2_put (20 : Int32) (4 : Int32) 80 (nI (p + 1), T) (nI p) (3 : Int32) v = some (nI (p + 1), upd T (4 * p + 3) v) := fun T v => P T 3 v (by omega)
  unfold FX1_pushStep_J18
  rw [ea, o_b, P0, o_b, rz_nm, h.hm, aM4 h hj, o_b, P1, o_b, aM5 h hj, o_b, P2, o_b, aM2 h hj, o_b, P3, o_b, nmv_eq, rs_pu4 _ hp, ← h.hm]
  rfl
theorem cnt_g20 (h : Cnt f m c z 20) : Cnt (g20 f) m c z 19 := by
  obtain ⟨a, b, d, e, r1, r2, r3, r4⟩ := h
  refine ⟨?_, ?_, ?_, ?_, r1, r2, r3, by omega⟩
  · rw [g20_o _ (by omega) (by omega)]; exact a
  · rw [g20_o _ (by omega) (by omega)]; exact b
  · rw [g20_o _ (by omega) (by omega)]; exact d
  · exact upd_at _ _ _
theorem rs_g20 (f : Nat → Int32) : rsOf (g20 f) = ((rsOf f).1, (rsOf f).2.1, (rsOf f).2.2.1, shR (rsOf f).2.2.2.1 0 76 4, (rsOf f).2.2.2.2.1, (rsOf f).2.2.2.2.2.1, f 13, f 14, f 15, nI 19, f 11, f 12, f 17, f 18) := by
  unfold g20
  rw [rs_16, rs_shP, shR_oC _ (by omega), shR_oC _ (by omega), shR_oC _ (by omega), shR_oC _ (by omega), shR_oC _ (by omega), shR_oC _ (by omega), shR_oC _ (by omega)]
theorem c_push (h : Cnt f m c z p) (hj : j < m) : FX1_pushStep (rsOf f) (nI j) = some (rsOf (puR f p (nI j) (f (19 + (6 * j + 4))) (f (19 + (6 * j + 5))) (f (19 + (6 * j + 2))))) := by
  have lp := h.lp
  have lm := h.lm
  unfold FX1_pushStep FX2_isFull puR
  rw [rz_ns, h.hp]
  by_cases hp : p = 20
  · subst hp
    rw [if_neg (show ¬ nI 20 < 20 by decide), o_b, if_neg n10, if_pos rfl]
    have er : FX2_removeRow (20 : Int32) (4 : Int32) 80 (nI 20, (rsOf f).2.2.2.1) (0 : Int32) = some (nI 19, shR (rsOf f).2.2.2.1 0 76 4) := c_removeRow (C := 4) (j := 0) (n := 20) _ (by omega) (by omega) (by omega) (by omega)
    have e := c_push18 (cnt_g20 h) (by omega) hj 0
    rw [g20_o _ (by omega) (by omega), g20_o _ (by omega) (by omega), g20_o _ (by omega) (by omega), rs_g20] at e
    rw [er, o_b]
    exact e
  · rw [if_pos (show nI p < 20 from nI_lt (b := 20) (by omega) (by omega)), o_b, if_pos z00, if_neg hp]
    exact c_push18 h (by omega) hj 0
end PUSH

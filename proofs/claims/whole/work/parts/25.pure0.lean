/-! THE PURE LAYER: the class's room is the model's row 'now', cell for cell -/
theorem nmv_eq {α β : Type} (x : α) (f : α → β) : nmv x f = f x := rfl
theorem gd_t {α : Type} {c : Prop} [Decidable c] (h : c) (x : Option α) : gd c x = x := if_pos h
theorem gd_in {α : Type} {k N : Nat} (h : k < N) (hN : N < 2147483648) (x : Option α) : gd (¬ (nI k < 0 ∨ N ≤ (nI k).toNatClampNeg)) x = x := gd_t (nI_in h (by omega)) x
/-- a room out of a row -/
def rsOf (f : Nat → Int32) : RS := (fun k => if k < 72 then f (19 + k) else 0, fun k => if k < 30 then f (91 + k) else 0, fun k => if k < 18 then f (121 + k) else 0, fun k => if k < 80 then f (139 + k) else 0, fun k => if k < 6 then f k else 0, fun k => if k < 5 then f (6 + k) else 0, f 13, f 14, f 15, f 16, f 11, f 12, f 17, f 18)
/-- the counts -/
def Cnt (f : Nat → Int32) (m c z p : Nat) : Prop := f 13 = nI m ∧ f 14 = nI c ∧ f 15 = nI z ∧ f 16 = nI p ∧ m ≤ 12 ∧ c ≤ 10 ∧ z ≤ 6 ∧ p ≤ 20
theorem Cnt.hm {f : Nat → Int32} {m c z p : Nat} (h : Cnt f m c z p) : f 13 = nI m := h.1
theorem Cnt.hc {f : Nat → Int32} {m c z p : Nat} (h : Cnt f m c z p) : f 14 = nI c := h.2.1
theorem Cnt.hz {f : Nat → Int32} {m c z p : Nat} (h : Cnt f m c z p) : f 15 = nI z := h.2.2.1
theorem Cnt.hp {f : Nat → Int32} {m c z p : Nat} (h : Cnt f m c z p) : f 16 = nI p := h.2.2.2.1
theorem Cnt.lm {f : Nat → Int32} {m c z p : Nat} (h : Cnt f m c z p) : m ≤ 12 := h.2.2.2.2.1
theorem Cnt.lc {f : Nat → Int32} {m c z p : Nat} (h : Cnt f m c z p) : c ≤ 10 := h.2.2.2.2.2.1
theorem Cnt.lz {f : Nat → Int32} {m c z p : Nat} (h : Cnt f m c z p) : z ≤ 6 := h.2.2.2.2.2.2.1
theorem Cnt.lp {f : Nat → Int32} {m c z p : Nat} (h : Cnt f m c z p) : p ≤ 20 := h.2.2.2.2.2.2.2
theorem at_gen {pTm : Int32} {C n j c N : Nat} {T : Nat → Int32} (hj : j < n) (hc : c < C) (hN : j * C + c < N) (hn : n < 1000) (hC : C < 1000) (hNN : N < 1000) : FX2_at pTm (nI C) N (nI n, T) (nI j) (nI c) = some (T (j * C + c)) := by
  have e : nI j * nI C + nI c = nI (j * C + c) := by rw [pk_mul, nI_add]
  unfold FX2_at
  rw [if_neg (nI_pos (by omega)), if_neg (nI_ge hj (by omega)), if_neg (nI_pos (by omega)), if_pos (nI_lt hc (by omega)), e, gd_in hN (by omega), nI_clamp (by omega)]
  rfl
theorem at_out {pTm pTc : Int32} {N n j : Nat} {c : Int32} {T : Nat → Int32} (hj : n ≤ j) (hn : j < 1000) : FX2_at pTm pTc N (nI n, T) (nI j) c = some (-1) := by
  unfold FX2_at
  rw [if_neg (nI_pos (by omega)), if_pos (nI_le hj (by omega))]
theorem at_neg {pTm pTc : Int32} {N : Nat} {T : TBS} {x c : Int32} (hx : x < 0) : FX2_at pTm pTc N T x c = some (-1) := by
  unfold FX2_at
  rw [if_pos hx]
theorem put_gen {pTm : Int32} {C n j c N : Nat} {T : Nat → Int32} {v : Int32} (hj : j < n) (hc : c < C) (hN : j * C + c < N) (hn : n < 1000) (hC : C < 1000) (hNN : N < 1000) : FX2_put pTm (nI C) N (nI n, T) (nI j) (nI c) v = some (nI n, upd T (j * C + c) v) := by
  have e : nI j * nI C + nI c = nI (j * C + c) := by rw [pk_mul, nI_add]
  unfold FX2_put
  rw [if_neg (nI_pos (by omega)), if_neg (nI_ge hj (by omega)), if_neg (nI_pos (by omega)), if_neg (nI_ge hc (by omega)), e, gd_in hN (by omega), nI_clamp (by omega)]
  rfl
section AT
variable {f : Nat → Int32} {m c z p : Nat} {j : Nat}
theorem aM (h : Cnt f m c z p) (hj : j < m) (k : Nat) (hk : k < 6) : FX2_at (12 : Int32) (6 : Int32) 72 (nI m, (rsOf f).1) (nI j) (nI k) = some (f (19 + (6 * j + k))) := by
  have := h.lm
  rw [show (6 : Int32) = nI 6 from rfl, at_gen hj hk (by omega) (by omega) (by omega) (by omega)]
  show some (if j * 6 + k < 72 then f (19 + (j * 6 + k)) else 0) = _
  rw [if_pos (by omega), Nat.mul_comm]
theorem aC (h : Cnt f m c z p) (hj : j < c) (k : Nat) (hk : k < 3) : FX2_at (10 : Int32) (3 : Int32) 30 (nI c, (rsOf f).2.1) (nI j) (nI k) = some (f (91 + (3 * j + k))) := by
  have := h.lc
  rw [show (3 : Int32) = nI 3 from rfl, at_gen hj hk (by omega) (by omega) (by omega) (by omega)]
  show some (if j * 3 + k < 30 then f (91 + (j * 3 + k)) else 0) = _
  rw [if_pos (by omega), Nat.mul_comm]
theorem aF (h : Cnt f m c z p) (hj : j < z) (k : Nat) (hk : k < 3) : FX2_at (6 : Int32) (3 : Int32) 18 (nI z, (rsOf f).2.2.1) (nI j) (nI k) = some (f (121 + (3 * j + k))) := by
  have := h.lz
  rw [show (3 : Int32) = nI 3 from rfl, at_gen hj hk (by omega) (by omega) (by omega) (by omega)]
  show some (if j * 3 + k < 18 then f (121 + (j * 3 + k)) else 0) = _
  rw [if_pos (by omega), Nat.mul_comm]
theorem aP (h : Cnt f m c z p) (hj : j < p) (k : Nat) (hk : k < 4) : FX2_at (20 : Int32) (4 : Int32) 80 (nI p, (rsOf f).2.2.2.1) (nI j) (nI k) = some (f (139 + (4 * j + k))) := by
  have := h.lp
  rw [show (4 : Int32) = nI 4 from rfl, at_gen hj hk (by omega) (by omega) (by omega) (by omega)]
  show some (if j * 4 + k < 80 then f (139 + (j * 4 + k)) else 0) = _
  rw [if_pos (by omega), Nat.mul_comm]
theorem oM {μ : MDS} (hj : j < 12) (k : Nat) (hk : k < 6) : FX4_of μ (nI j) (nI k) = some (μ.1 (19 + (6 * j + k))) := by
  have e : (19 : Int32) + 6 * nI j + nI k = nI (19 + (6 * j + k)) := by
    rw [show (6 : Int32) = nI 6 from rfl, show (19 : Int32) = nI 19 from rfl, pk_mul, nI_add, nI_add, Nat.add_assoc]
  unfold FX4_of
  rw [nmv_eq, e, gd_in (by omega) (by omega), nI_clamp (by omega)]
theorem aM0 (h : Cnt f m c z p) (hj : j < m) : FX2_at (12 : Int32) (6 : Int32) 72 (nI m, (rsOf f).1) (nI j) (0 : Int32) = some (f (19 + (6 * j + 0))) := aM h hj 0 (by omega)
theorem aM1 (h : Cnt f m c z p) (hj : j < m) : FX2_at (12 : Int32) (6 : Int32) 72 (nI m, (rsOf f).1) (nI j) (1 : Int32) = some (f (19 + (6 * j + 1))) := aM h hj 1 (by omega)
theorem aM2 (h : Cnt f m c z p) (hj : j < m) : FX2_at (12 : Int32) (6 : Int32) 72 (nI m, (rsOf f).1) (nI j) (2 : Int32) = some (f (19 + (6 * j + 2))) := aM h hj 2 (by omega)
theorem aM3 (h : Cnt f m c z p) (hj : j < m) : FX2_at (12 : Int32) (6 : Int32) 72 (nI m, (rsOf f).1) (nI j) (3 : Int32) = some (f (19 + (6 * j + 3))) := aM h hj 3 (by omega)
theorem aM4 (h : Cnt f m c z p) (hj : j < m) : FX2_at (12 : Int32) (6 : Int32) 72 (nI m, (rsOf f).1) (nI j) (4 : Int32) = some (f (19 + (6 * j + 4))) := aM h hj 4 (by omega)
theorem aM5 (h : Cnt f m c z p) (hj : j < m) : FX2_at (12 : Int32) (6 : Int32) 72 (nI m, (rsOf f).1) (nI j) (5 : Int32) = some (f (19 + (6 * j + 5))) := aM h hj 5 (by omega)
theorem aC0 (h : Cnt f m c z p) (hj : j < c) : FX2_at (10 : Int32) (3 : Int32) 30 (nI c, (rsOf f).2.1) (nI j) (0 : Int32) = some (f (91 + (3 * j + 0))) := aC h hj 0 (by omega)
theorem aC1 (h : Cnt f m c z p) (hj : j < c) : FX2_at (10 : Int32) (3 : Int32) 30 (nI c, (rsOf f).2.1) (nI j) (1 : Int32) = some (f (91 + (3 * j + 1))) := aC h hj 1 (by omega)
theorem aC2 (h : Cnt f m c z p) (hj : j < c) : FX2_at (10 : Int32) (3 : Int32) 30 (nI c, (rsOf f).2.1) (nI j) (2 : Int32) = some (f (91 + (3 * j + 2))) := aC h hj 2 (by omega)
theorem aF0 (h : Cnt f m c z p) (hj : j < z) : FX2_at (6 : Int32) (3 : Int32) 18 (nI z, (rsOf f).2.2.1) (nI j) (0 : Int32) = some (f (121 + (3 * j + 0))) := aF h hj 0 (by omega)
theorem aF1 (h : Cnt f m c z p) (hj : j < z) : FX2_at (6 : Int32) (3 : Int32) 18 (nI z, (rsOf f).2.2.1) (nI j) (1 : Int32) = some (f (121 + (3 * j + 1))) := aF h hj 1 (by omega)
theorem aF2 (h : Cnt f m c z p) (hj : j < z) : FX2_at (6 : Int32) (3 : Int32) 18 (nI z, (rsOf f).2.2.1) (nI j) (2 : Int32) = some (f (121 + (3 * j + 2))) := aF h hj 2 (by omega)
theorem aP0 (h : Cnt f m c z p) (hj : j < p) : FX2_at (20 : Int32) (4 : Int32) 80 (nI p, (rsOf f).2.2.2.1) (nI j) (0 : Int32) = some (f (139 + (4 * j + 0))) := aP h hj 0 (by omega)
theorem aP1 (h : Cnt f m c z p) (hj : j < p) : FX2_at (20 : Int32) (4 : Int32) 80 (nI p, (rsOf f).2.2.2.1) (nI j) (1 : Int32) = some (f (139 + (4 * j + 1))) := aP h hj 1 (by omega)
theorem aP2 (h : Cnt f m c z p) (hj : j < p) : FX2_at (20 : Int32) (4 : Int32) 80 (nI p, (rsOf f).2.2.2.1) (nI j) (2 : Int32) = some (f (139 + (4 * j + 2))) := aP h hj 2 (by omega)
theorem aP3 (h : Cnt f m c z p) (hj : j < p) : FX2_at (20 : Int32) (4 : Int32) 80 (nI p, (rsOf f).2.2.2.1) (nI j) (3 : Int32) = some (f (139 + (4 * j + 3))) := aP h hj 3 (by omega)
theorem oM0 {μ : MDS} (hj : j < 12) : FX4_of μ (nI j) (0 : Int32) = some (μ.1 (19 + (6 * j + 0))) := oM hj 0 (by omega)
theorem oM1 {μ : MDS} (hj : j < 12) : FX4_of μ (nI j) (1 : Int32) = some (μ.1 (19 + (6 * j + 1))) := oM hj 1 (by omega)
theorem oM2 {μ : MDS} (hj : j < 12) : FX4_of μ (nI j) (2 : Int32) = some (μ.1 (19 + (6 * j + 2))) := oM hj 2 (by omega)
theorem oM3 {μ : MDS} (hj : j < 12) : FX4_of μ (nI j) (3 : Int32) = some (μ.1 (19 + (6 * j + 3))) := oM hj 3 (by omega)
theorem oM4 {μ : MDS} (hj : j < 12) : FX4_of μ (nI j) (4 : Int32) = some (μ.1 (19 + (6 * j + 4))) := oM hj 4 (by omega)
theorem oM5 {μ : MDS} (hj : j < 12) : FX4_of μ (nI j) (5 : Int32) = some (μ.1 (19 + (6 * j + 5))) := oM hj 5 (by omega)
theorem cl11 : ((11 : Int32)).toNatClampNeg = 11 := by decide
theorem g11 {α : Type} (x : Option α) : gd (¬ ((11 : Int32) < 0 ∨ 219 ≤ ((11 : Int32)).toNatClampNeg)) x = x := gd_t (by decide) x
theorem cl12 : ((12 : Int32)).toNatClampNeg = 12 := by decide
theorem g12 {α : Type} (x : Option α) : gd (¬ ((12 : Int32) < 0 ∨ 219 ≤ ((12 : Int32)).toNatClampNeg)) x = x := gd_t (by decide) x
theorem cl13 : ((13 : Int32)).toNatClampNeg = 13 := by decide
theorem g13 {α : Type} (x : Option α) : gd (¬ ((13 : Int32) < 0 ∨ 219 ≤ ((13 : Int32)).toNatClampNeg)) x = x := gd_t (by decide) x
theorem cl14 : ((14 : Int32)).toNatClampNeg = 14 := by decide
theorem g14 {α : Type} (x : Option α) : gd (¬ ((14 : Int32) < 0 ∨ 219 ≤ ((14 : Int32)).toNatClampNeg)) x = x := gd_t (by decide) x
theorem cl15 : ((15 : Int32)).toNatClampNeg = 15 := by decide
theorem g15 {α : Type} (x : Option α) : gd (¬ ((15 : Int32) < 0 ∨ 219 ≤ ((15 : Int32)).toNatClampNeg)) x = x := gd_t (by decide) x
theorem cl16 : ((16 : Int32)).toNatClampNeg = 16 := by decide
theorem g16 {α : Type} (x : Option α) : gd (¬ ((16 : Int32) < 0 ∨ 219 ≤ ((16 : Int32)).toNatClampNeg)) x = x := gd_t (by decide) x
theorem cl17 : ((17 : Int32)).toNatClampNeg = 17 := by decide
theorem g17 {α : Type} (x : Option α) : gd (¬ ((17 : Int32) < 0 ∨ 219 ≤ ((17 : Int32)).toNatClampNeg)) x = x := gd_t (by decide) x
theorem cl18 : ((18 : Int32)).toNatClampNeg = 18 := by decide
theorem g18 {α : Type} (x : Option α) : gd (¬ ((18 : Int32) < 0 ∨ 219 ≤ ((18 : Int32)).toNatClampNeg)) x = x := gd_t (by decide) x
theorem rz_nm (f : Nat → Int32) : (rsOf f).2.2.2.2.2.2.1 = f 13 := rfl
theorem rz_nc (f : Nat → Int32) : (rsOf f).2.2.2.2.2.2.2.1 = f 14 := rfl
theorem rz_nf (f : Nat → Int32) : (rsOf f).2.2.2.2.2.2.2.2.1 = f 15 := rfl
theorem rz_ns (f : Nat → Int32) : (rsOf f).2.2.2.2.2.2.2.2.2.1 = f 16 := rfl
theorem rz_lev (f : Nat → Int32) : (rsOf f).2.2.2.2.2.2.2.2.2.2.1 = f 11 := rfl
theorem rz_hour (f : Nat → Int32) : (rsOf f).2.2.2.2.2.2.2.2.2.2.2.1 = f 12 := rfl
theorem rz_dn (f : Nat → Int32) : (rsOf f).2.2.2.2.2.2.2.2.2.2.2.2.1 = f 17 := rfl
theorem rz_bk (f : Nat → Int32) : (rsOf f).2.2.2.2.2.2.2.2.2.2.2.2.2 = f 18 := rfl
theorem o_b {α β : Type} (v : α) (f : α → Option β) : (some v).bind f = f v := rfl
end AT
/-! loops that sum, loops that search -/
def sumTo (g : Nat → Int32) : Nat → Int32
  | 0 => 0
  | n + 1 => sumTo g n + g n
theorem loop_sum {β : Type} {Lp : Nat → Int32 → Int32 → Option β} {K : Int32 → Int32 → Option β} (N : Nat) (g : Nat → Int32) (hN : N < 1000)
    (h1 : ∀ n acc, Lp (n + 1) (nI N) acc = K (nI N) acc) (h2 : ∀ n j acc, j < N → Lp (n + 1) (nI j) acc = Lp n (nI (j + 1)) (acc + g j)) : Lp FU 0 0 = K (nI N) (sumTo g N) := by
  have key : ∀ d j n : Nat, j + d = N → d < n → Lp n (nI j) (sumTo g j) = K (nI N) (sumTo g N) := by
    intro d
    induction d with
    | zero =>
      intro j n hj hn
      obtain ⟨n', rfl⟩ : ∃ n', n = n' + 1 := ⟨n - 1, by omega⟩
      obtain rfl : j = N := by omega
      exact h1 _ _
    | succ d ih =>
      intro j n hj hn
      obtain ⟨n', rfl⟩ : ∃ n', n = n' + 1 := ⟨n - 1, by omega⟩
      rw [h2 n' j _ (by omega)]
      exact ih (j + 1) n' (by omega) (by omega)
  exact key N 0 FU (by omega) hN
/-- the first index that has p, from j on -/
def firstFrom (p : Nat → Bool) (j : Nat) : Nat → Option Nat
  | 0 => none
  | d + 1 => if p j then some j else firstFrom p (j + 1) d
theorem loop_find {β : Type} {Lp : Nat → Int32 → Option β} {K : Int32 → Option β} (N : Nat) (p : Nat → Bool) (res : Nat → Option β) (hN : N < 1000)
    (h1 : ∀ n, Lp (n + 1) (nI N) = K (nI N)) (h2 : ∀ n j, j < N → Lp (n + 1) (nI j) = if p j then res j else Lp n (nI (j + 1))) : Lp FU 0 = match firstFrom p 0 N with | some j => res j | none => K (nI N) := by
  have key : ∀ d j n : Nat, j + d = N → d < n → Lp n (nI j) = match firstFrom p j d with | some j => res j | none => K (nI N) := by
    intro d
    induction d with
    | zero =>
      intro j n hj hn
      obtain ⟨n', rfl⟩ : ∃ n', n = n' + 1 := ⟨n - 1, by omega⟩
      obtain rfl : j = N := by omega
      exact h1 _
    | succ d ih =>
      intro j n hj hn
      obtain ⟨n', rfl⟩ : ∃ n', n = n' + 1 := ⟨n - 1, by omega⟩
      rw [h2 n' j (by omega)]
      unfold firstFrom
      by_cases hp : p j = true
      · rw [if_pos hp, if_pos hp]
      · rw [if_neg hp, if_neg hp]
        exact ih (j + 1) n' (by omega) (by omega)
  exact key N 0 FU (by omega) hN
theorem loop_sumS {Lp : Nat → Int32 → Int32 → Option Int32} (N : Nat) (g : Nat → Int32) (hN : N < 1000)
    (h1 : ∀ n acc, Lp (n + 1) (nI N) acc = some acc) (h2 : ∀ n j acc, j < N → Lp (n + 1) (nI j) acc = Lp n (nI (j + 1)) (acc + g j)) : Lp FU 0 0 = some (sumTo g N) := loop_sum (K := fun _ a => some a) N g hN h1 h2
theorem gd_in2 {α : Type} {k N : Nat} (h : k < N) (hN : N < 2147483648) (x : Option α) : gd (¬ (nI k < 0 ∨ N ≤ k)) x = x := gd_t (by rintro (h1 | h1); exact nI_pos (by omega) h1; omega) x

theorem lg_range (ws : va_W) : (List.range ws.length).map (fun i => ws[i]?) = ws.map some := by
  apply List.ext_getElem?
  intro i
  rw [List.getElem?_map, List.getElem?_map]
  by_cases hi : i < ws.length
  · rw [List.getElem?_range hi, List.getElem?_eq_getElem hi]
    simp [hi]
  · rw [List.getElem?_eq_none (by simpa using hi), List.getElem?_eq_none (by simpa using hi)]
    rfl
theorem lg_nd_of {l : List Nat} (h : l.Nodup) : va_nd l = true := by
  induction l with
  | nil => rfl
  | cons a l ih =>
    rw [List.nodup_cons] at h
    simp only [va_nd, Bool.and_eq_true, decide_eq_true_eq]
    exact ⟨h.1, ih h.2⟩
theorem lg_nd_range (n : Nat) : va_nd (List.range n) = true := lg_nd_of List.nodup_range
abbrev w_pk (ws : va_W) (is : List Nat) : va_W := is.filterMap (fun i => ws[i]?)
section JC2
variable {X : Cx} {l : Launch} {R : Room} {D : va_G} {nL k n : Nat} {cc : ByteArray} {own : String} {ws : va_W} {lv : List (Nat × Value)} {pc : Nat} {st rest As : List Value} {Post : Option Value → va_W → Prop}
variable {y : MethodName} {C : String} {b : ByteArray} {m0 np idx mc ms : Nat} {ret : Option FieldType} {rm : Room}
/-- the callee's cells are all of the caller's -/
theorem r_callVa (h : OK X D nL cc own) {a ci q0 : Nat} {T : u_T} {N : Nat} {fs : List Value} (hd0 : HdV y C b m0 ret np) (wl : Cond.methodLink own idx y ∈ lw_g) (hd : decode cc pc = .ok (.invokevirtual idx, 3)) (hc : Ct l D y b m0 ret rm mc ms (.ref a :: As) ws Post)
    (hci : vwCl[ci]? = some (C, T, N)) (he : ws[q0]? = some (a, .inr (ci, fs))) (hnp : As.length = np) (hrc : rm.cells = mc ∧ rm.slots = ms) (hRm : rm.frames + 1 ≤ R.frames ∧ 8 + (m0 + 11) + rm.locals ≤ R.locals) (hst : (rest.map fun v => v.category).sum ≤ 8) (hf : k + mc ≤ R.cells ∧ n + ms ≤ R.slots) (hstk : st = As.reverse ++ .ref a :: rest)
    (kk : ∀ (v : Option Value) (w' : va_W), Post v w' → J X l R D nL (k + mc) (n + ms) w' lv (pc + 3) (v.toList ++ rest)) : J X l R D nL k n ws lv pc st :=
  r_callV (wr := []) h hd0 wl hd hc (List.range ws.length) [] (lg_range ws) rfl (by rw [lg_nd_range]; rfl) hci he hnp hrc hRm hst hf hstk kk
theorem r_callSa (h : OK X D nL cc own) (hd0 : HdS y own b m0 ret np) (wl : Cond.methodLink own idx y ∈ lw_g) (hd : decode cc pc = .ok (.invokestatic idx, 3)) (hc : Ct l D y b m0 ret rm mc ms As ws Post)
    (hnp : As.length = np) (hrc : rm.cells = mc ∧ rm.slots = ms) (hRm : rm.frames + 1 ≤ R.frames ∧ 8 + (m0 + 11) + rm.locals ≤ R.locals) (hst : (rest.map fun v => v.category).sum ≤ 8) (hf : k + mc ≤ R.cells ∧ n + ms ≤ R.slots) (hstk : st = As.reverse ++ rest)
    (kk : ∀ (v : Option Value) (w' : va_W), Post v w' → J X l R D nL (k + mc) (n + ms) w' lv (pc + 3) (v.toList ++ rest)) : J X l R D nL k n ws lv pc st :=
  r_callS (wr := []) h hd0 wl hd hc (List.range ws.length) [] (lg_range ws) rfl (by rw [lg_nd_range]; rfl) hnp hrc hRm hst hf hstk kk
/-- a static method without cells -/
theorem r_callSp (h : OK X D nL cc own) {v0 : Value} (hd0 : HdS y own b m0 ret np) (wl : Cond.methodLink own idx y ∈ lw_g) (hd : decode cc pc = .ok (.invokestatic idx, 3)) (hc : Ct l D y b m0 ret rm mc ms As [] (fun v w => v = some v0 ∧ w = []))
    (hnp : As.length = np) (hrc : rm.cells = mc ∧ rm.slots = ms) (hRm : rm.frames + 1 ≤ R.frames ∧ 8 + (m0 + 11) + rm.locals ≤ R.locals) (hst : (rest.map fun v => v.category).sum ≤ 8) (hf : k + mc ≤ R.cells ∧ n + ms ≤ R.slots) (hstk : st = As.reverse ++ rest)
    (kk : J X l R D nL (k + mc) (n + ms) ws lv (pc + 3) (v0 :: rest)) : J X l R D nL k n ws lv pc st := by
  refine r_callS (wr := ws) h hd0 wl hd hc [] (List.range ws.length) rfl (lg_range ws) (by rw [lg_nd_range]; simp [va_nd]) hnp hrc hRm hst hf hstk (fun v w' hp => ?_)
  obtain ⟨rfl, rfl⟩ := hp
  rw [List.append_nil]
  exact kk
theorem r_callSv (h : OK X D nL cc own) (hd0 : HdS y own b m0 ret np) (wl : Cond.methodLink own idx y ∈ lw_g) (hd : decode cc pc = .ok (.invokestatic idx, 3)) (hc : Ct l D y b m0 ret rm mc ms As [] (fun v w => v = none ∧ w = []))
    (hnp : As.length = np) (hrc : rm.cells = mc ∧ rm.slots = ms) (hRm : rm.frames + 1 ≤ R.frames ∧ 8 + (m0 + 11) + rm.locals ≤ R.locals) (hst : (rest.map fun v => v.category).sum ≤ 8) (hf : k + mc ≤ R.cells ∧ n + ms ≤ R.slots) (hstk : st = As.reverse ++ rest)
    (kk : J X l R D nL (k + mc) (n + ms) ws lv (pc + 3) rest) : J X l R D nL k n ws lv pc st := by
  refine r_callS (wr := ws) h hd0 wl hd hc [] (List.range ws.length) rfl (lg_range ws) (by rw [lg_nd_range]; simp [va_nd]) hnp hrc hRm hst hf hstk (fun v w' hp => ?_)
  obtain ⟨rfl, rfl⟩ := hp
  rw [List.append_nil]
  exact kk
end JC2
def nmv {α β : Type} (x : α) (f : α → β) : β := f x
theorem o_nm {α β : Type} {x : α} {f : α → Option β} {r : β} (h : nmv x f = some r) : ∃ y, y = x ∧ f y = some r := ⟨x, rfl, h⟩
theorem J.top {X : Cx} {l : Launch} {R : Room} {D : va_G} {nL k n : Nat} {ws : va_W} {lv : List (Nat × Value)} {pc : Nat} {st : List Value} {x y : Int32} (e : y = x) (kk : J X l R D nL k n ws lv pc (.int y :: st)) : J X l R D nL k n ws lv pc (.int x :: st) := by rw [← e]; exact kk

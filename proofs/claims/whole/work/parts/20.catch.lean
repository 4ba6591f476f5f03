/-! methods with a table of handlers: the law's helpers -/
abbrev ouW (D : va_G) (o : Nat) (f : Nat → Int64) : va_W := [(o, .inl (D.1 102, 1, .inr (.inl f)))]
def CtW (l : Launch) (D : va_G) (y : MethodName) (b : ByteArray) (n : Nat) (ret : Option FieldType) (hh : List (Nat × Nat × Nat × Nat)) (rm : Room) (mc ms : Nat) (avs : List Value) (ws : va_W) (Post : Option Value → va_W → Prop) : Prop :=
  ∀ sz : Nat, Met l y (Cond.codeWith y b n ret hh :: lw_g) rm (va_Pc avs (fun U => CtPre D ws sz U ∧ XW (va_A ws sz) U)) (CtQ D (va_A ws sz) Post) mc ms (va_A ws sz)
def XKW (X : Cx) (hh : List (Nat × Nat × Nat × Nat)) : Prop :=
  match X with
  | (_, _, s, _, _, _, _, c, _, A, H0) => H0 = s.heap ∧ XW A s ∧ c.exceptionTable.toList = tableOf hh
def XKL (X : Cx) : Prop :=
  match X with
  | (_, _, s, _, _, _, _, _, _, A, H0) => H0 = s.heap ∧ XW A s
theorem CtW.of {l : Launch} {D : va_G} {y : MethodName} {b : ByteArray} {n : Nat} {ret : Option FieldType} {hh : List (Nat × Nat × Nat × Nat)} {rm : Room} {mc ms : Nat} {avs : List Value} {ws : va_W} {Post : Option Value → va_W → Prop} {own : String} {lv : List (Nat × Value)}
    (hy : plainName y.cls = true) (ho : y.cls = own) (hle : (lg_sl avs).length ≤ n) (hlv : lv_args 0 avs = lv)
    (body : ∀ X : Cx, OK X D n b own → XKW X hh → RT X D ret mc ms Post → J X l rm D n 0 0 ws lv 0 []) : CtW l D y b n ret hh rm mc ms avs ws Post := by
  intro sz
  refine MetFree.of_bodyS (code := b) (maxLocals := n) (ret := ret) hy ?_ ?_
  · intro args s m h hn
    obtain ⟨m9, meth, c, hn9, h1, h2, h3, h4, -, h5, h6, -⟩ := Cond.codeWith_spec (atoms_spec (ws := Cond.codeWith y b n ret hh :: lw_g) h _ List.mem_cons_self)
    cases hn.symm.trans hn9
    exact ⟨meth, c, h1, h2, h3, h4, h5, h6⟩
  · intro p e s m args below meth c s₁ B hml hv _
    obtain ⟨rfl, ⟨hsz, hP, hK, hD0⟩, hXW⟩ := hv
    have hh0 : s₁.heap = s.heap := by rw [B.state]; rfl
    have hx := B.exec
    have hb := B.bytes
    have hr := B.returns
    have hts := atoms_spec (ws := Cond.codeWith y b n ret hh :: lw_g) B.pre
    have hown : s.vm.findClass y.cls = some m.cls := findClass_of_methodNamed B.named
    have hlocks := B.notSynchronized
    have htab := vx_table (x := y) B (hts _ List.mem_cons_self)
    subst hsz
    have hA : ∀ q : Nat, s.heap.size ≤ q → va_A ws s.heap.size q := fun q h => Or.inr h
    have hl := lv_entry avs (n := n) hle
    rw [hlv] at hl
    have K : W p l e (headSpec (Cond.codeWith y b n ret hh :: lw_g) rm).room s m avs.toArray below meth c s.heap [] 0 0 (MQ below (CtQ D (va_A ws s.heap.size) Post) avs.toArray s mc ms (va_A ws s.heap.size)) (entryFrame m avs.toArray n) := by
      rw [lg_entry_eq]
      exact body (p, e, s, m, avs.toArray, below, meth, c, MQ below (CtQ D (va_A ws s.heap.size) Post) avs.toArray s mc ms (va_A ws s.heap.size), va_A ws s.heap.size, s.heap)
        ⟨hx, hb, hml, by rw [← ho]; exact hown, fun w hw => hts w (List.mem_cons_of_mem _ hw), hK, hlocks, hA⟩ ⟨rfl, hXW, htab⟩ ⟨hr, rfl, rfl⟩ s.heap [] _ hP hD0.self va_S.rf hl
    obtain ⟨t, a1, o, b1, b2, b3⟩ := K s₁ hh0 (Stand.of_body B)
    exact ⟨t, o, a1, b1, b2, ⟨b3.1, b3.2⟩⟩
section JW
variable {X : Cx} {l : Launch} {R : Room} {D : va_G} {nL k n : Nat} {cc : ByteArray} {own : String} {ws ws1 ws' ws0 wr : va_W} {lv : List (Nat × Value)} {pc : Nat} {st rest As : List Value} {Post : Option Value → va_W → Prop} {E : String}
variable {y : MethodName} {C : String} {b : ByteArray} {m0 np idx mc ms mc1 ms1 : Nat} {ret : Option FieldType} {rm : Room} {hh : List (Nat × Nat × Nat × Nat)}
/-- a call that throws, caught here by the row x of the table -/
theorem r_callCV (h : OK X D nL cc own) (hx : XKW X hh) {a ci q0 : Nat} {T : u_T} {N : Nat} {fs : List Value} (bs : List va_W) (isC isR : List Nat) (hd0 : HdV y C b m0 ret np) (wl : Cond.methodLink own idx y ∈ lw_g) (hd : decode cc pc = .ok (.invokevirtual idx, 3)) (hc : CtT l D y b m0 ret rm mc ms (.ref a :: As) ws0 E)
    (hws : ws = bs.flatten) (h0 : ws0 = (pkB bs isC).flatten) {N0 : Nat} (hN : bs.length = N0) (hp : (isC ++ isR).Perm (List.range N0))
    (hci : vwCl[ci]? = some (C, T, N)) (he : ws0[q0]? = some (a, .inr (ci, fs))) (hnp : As.length = np) (hrc : rm.cells = mc ∧ rm.slots = ms) (hRm : rm.frames + 1 ≤ R.frames ∧ 8 + (m0 + 11) + rm.locals ≤ R.locals) (hst : (rest.map fun v => v.category).sum ≤ 8) (hf : k + mc ≤ R.cells ∧ n + ms ≤ R.slots) (hstk : st = As.reverse ++ .ref a :: rest)
    (pre : List ExceptionTableEntry) (x : ExceptionTableEntry) (suf : List ExceptionTableEntry) (hsplit : tableOf hh = pre ++ x :: suf) (hpass : ∀ z ∈ pre, z.catchType ≠ 0 ∧ ∃ nm : String, Cond.classLink own z.catchType nm ∈ lw_g ∧ ∀ s : State, ∀ A : Nat → Prop, XW A s → va_Nc E nm s) (hcov : covers x pc = true) (hct : x.catchType ≠ 0) (wc : Cond.classLink own x.catchType E ∈ lw_g) (i : Nat) (hi : i < 4) (hE : E = exn i) (pc1 : Nat) (hpc : x.handlerPc = pc1)
    (kk : ∀ q : Nat, J X l R D nL (k + mc) (n + ms) ((pkB bs isR).flatten ++ ws0) lv pc1 [.ref q]) : J X l R D nL k n ws lv pc st := by
  subst hws; subst h0; subst hN; subst hpc
  have hq := pk_two hp
  refine J.perm hq ?_
  clear hq
  generalize (pkB bs isR).flatten = wr at kk ⊢
  generalize (pkB bs isC).flatten = w0 at hc he kk ⊢
  obtain ⟨e1, e2, e3⟩ := pk_app w0 wr
  obtain ⟨p, e, s, m, args, below, meth, c, Q, A, H0⟩ := X
  obtain ⟨hxx, hb, hml, hown, hts, hK, hlk, hA⟩ := h
  obtain ⟨rfl, hXW, htab⟩ := hx
  obtain ⟨w1, w2, w3, w4, hy⟩ := hd0
  simp only [Bool.and_eq_true] at e3
  obtain ⟨⟨hn1, hn2⟩, hn3⟩ := e3
  intro H locs ls hP hD hS hl
  have hPc := lg_subP _ e1 hP
  have hDc := hD.sub _ hn1 e1
  have hF : ∀ q, va_A w0 H.size q → A q := va_free hD hS hA _ e1
  refine r_thrown (fun _ _ _ z => z) _ _ e1 e2 hn2 (fun i hi hi2 => ?_) hDc.self hA hP hD hS (vx_runV (As := As) (rest := rest) ⟨hxx, hb, hml, hown, hts⟩ (hc H.size) (cwV np hts (lg_in (fun w hw => hw) ?_) rfl hrc.1 hrc.2 hy hRm) ⟨CtT_blind, va_recv hK hPc hci he, lg_preT hXW hS hF hK hPc hDc⟩ rfl hnp hl.1 hstk (lv_room hst) hd hf)
    (fun H1 locs1 q ce hP1 hD1 hS1 hce hcv hcl => ?_)
  · have := List.all_eq_true.mp hn3 i hi
    simp [hi2] at this
  · intro w hw
    unfold wsV at hw
    rcases List.mem_append.mp hw with hw | hw
    · simp only [List.mem_cons, List.not_mem_nil, or_false] at hw
      rcases hw with rfl | rfl | rfl | rfl
      · exact wl
      · exact w1
      · exact w2
      · exact w3
    · exact lg_cons w4 w hw
  · refine vx_catch (name := E) hown pre x suf (htab.trans hsplit) (fun z hz => ?_) hcov hct (hts _ wc) ?_ hce hcv hcl (kk q H1 locs1 ls hP1 hD1 hS1 hl)
    · obtain ⟨g1, nm, g2, g3⟩ := hpass z hz
      exact Or.inr ⟨g1, nm, hts _ g2, g3 s A hXW⟩
    · rw [hE]
      exact (hXW.2.2.2.1 i hi).use rfl
def HdW (y : MethodName) (C : String) (b : ByteArray) (m : Nat) (ret : Option FieldType) (hh : List (Nat × Nat × Nat × Nat)) (np : Nat) : Prop :=
  Cond.static y ∈ lw_g ∧ Cond.initialized y.cls ∈ lw_g ∧ Cond.codeWith y b m ret hh ∈ lw_g ∧ (y.cls ≠ "java/lang/invoke/MethodHandle" ∧ y.cls ≠ "java/lang/invoke/VarHandle" ∧ (parseMethodDescriptor y.desc).map (fun d => d.parameters.length) = some np)
/-- a call of a helper -/
theorem r_callW (h : OK X D nL cc own) (hx : XKL X) (bs : List va_W) (isC isR : List Nat) (hd0 : HdW y C b m0 ret hh np) (wl : Cond.methodLink own idx y ∈ lw_g) (hd : decode cc pc = .ok (.invokestatic idx, 3)) (hc : CtW l D y b m0 ret hh rm mc ms As ws0 Post)
    (hws : ws = bs.flatten) (h0 : ws0 = (pkB bs isC).flatten) {N0 : Nat} (hN : bs.length = N0) (hp : (isC ++ isR).Perm (List.range N0))
    (hnp : As.length = np) (hrc : rm.cells = mc ∧ rm.slots = ms) (hRm : rm.frames + 1 ≤ R.frames ∧ 8 + (m0 + 11) + rm.locals ≤ R.locals) (hst : (rest.map fun v => v.category).sum ≤ 8) (hf : k + mc ≤ R.cells ∧ n + ms ≤ R.slots) (hstk : st = As.reverse ++ rest)
    (kk : ∀ (v : Option Value) (w' : va_W), Post v w' → J X l R D nL (k + mc) (n + ms) ((pkB bs isR).flatten ++ w') lv (pc + 3) (v.toList ++ rest)) : J X l R D nL k n ws lv pc st := by
  subst hws; subst h0; subst hN
  have hq := pk_two hp
  refine J.perm hq ?_
  clear hq
  generalize (pkB bs isR).flatten = wr at kk ⊢
  generalize (pkB bs isC).flatten = w0 at hc ⊢
  obtain ⟨e1, e2, e3⟩ := pk_app w0 wr
  obtain ⟨p, e, s, m, args, below, meth, c, Q, A, H0⟩ := X
  obtain ⟨hxx, hb, hml, hown, hts, hK, hlk, hA⟩ := h
  obtain ⟨rfl, hXW⟩ := hx
  obtain ⟨w1, w3, w4, hy⟩ := hd0
  simp only [Bool.and_eq_true] at e3
  obtain ⟨⟨hn1, hn2⟩, hn3⟩ := e3
  intro H locs ls hP hD hS hl
  have hPc := lg_subP _ e1 hP
  have hDc := hD.sub _ hn1 e1
  have hF : ∀ q, va_A w0 H.size q → A q := va_free hD hS hA _ e1
  refine r_behind _ _ e1 e2 hn2 (fun i hi hi2 => ?_) hA hP hD hS hl (vx_runSW (As := As) (rest := rest) ⟨hxx, hb, hml, hown, hts⟩ (hc H.size) (vx_cwSW np hts (lg_in (fun w hw => hw) ?_) rfl hrc.1 hrc.2 hy hRm) ⟨CtT_blind, lg_preT hXW hS hF hK hPc hDc⟩ rfl hnp hl.1 hstk (lv_room hst) hd hf) kk
  · have := List.all_eq_true.mp hn3 i hi
    simp [hi2] at this
  · intro w hw
    unfold va_wsS at hw
    rcases List.mem_append.mp hw with hw | hw
    · simp only [List.mem_cons, List.not_mem_nil, or_false] at hw
      rcases hw with rfl | rfl | rfl
      · exact wl
      · exact w1
      · exact w3
    · exact lg_cons w4 w hw
end JW

/-! constructors: new cells -/
def FNk (own : String) (idx ci : Nat) (fs : List Value) (N : Nat) : Prop := ∃ (C : String) (T : u_T) (tt : Nat → FieldType), vwCl[ci]? = some (C, T, N) ∧ (∀ w ∈ u_ws C T N, w ∈ lw_g) ∧ (∀ k, k < N → parseFieldDescriptor (T k).2.2.1 = some (tt k)) ∧ Cond.classLink own idx C ∈ lw_g ∧ Cond.instantiable C N ∈ lw_g ∧ Cond.initialized C ∈ lw_g ∧ ∀ j, j < N → defaultValue (tt j) = vp_V fs j
def AOF (U : State) : Prop := va_AO RX1 U ∧ va_Nw (.methodLinkNest RX3 29 yX0_init "RackMoves") U
def AOK (X : Cx) : Prop :=
  match X with
  | (_, _, s, _, _, _, _, _, _, _, _) => AOF s
def INI (X : Cx) : Prop :=
  match X with
  | (_, _, _, _, _, _, meth, _, _, _, _) => meth.name = "<init>"
theorem Ct.ofI {l : Launch} {D : va_G} {y : MethodName} {b : ByteArray} {n : Nat} {ret : Option FieldType} {rm : Room} {mc ms : Nat} {avs : List Value} {ws : va_W} {Post : Option Value → va_W → Prop} {own : String} {lv : List (Nat × Value)}
    (hy : plainName y.cls = true) (ho : y.cls = own) (hn : y.name = "<init>") (hle : (lg_sl avs).length ≤ n) (hlv : lv_args 0 avs = lv)
    (body : ∀ X : Cx, OK X D n b own → INI X → RT X D ret mc ms Post → J X l rm D n 0 0 ws lv 0 []) : Ct l D y b n ret rm mc ms avs ws Post := by
  intro sz
  refine Met.ofW (cc := b) (maxL := n) (ret := ret) hy rfl ?_
  intro p e s m args below meth c s₁ B hml hv
  obtain ⟨rfl, hsz, hP, hK, hD0⟩ := hv
  have hx := B.exec
  have hb := B.bytes
  have hr := B.returns
  have hts := atoms_spec (ws := Cond.code y b n ret :: lw_g) B.pre
  have hown : s.vm.findClass y.cls = some m.cls := findClass_of_methodNamed B.named
  have hin : meth.name = y.name := (name_of_methodNamed B.named B.method).1
  have hlocks := B.notSynchronized
  subst hsz
  have hA : ∀ q : Nat, s.heap.size ≤ q → va_A ws s.heap.size q := fun q h => Or.inr h
  have hl := lv_entry avs (n := n) hle
  rw [hlv] at hl
  rw [lg_entry_eq]
  exact body (p, e, s, m, avs.toArray, below, meth, c, MQ below (CtQ D (va_A ws s.heap.size) Post) avs.toArray s mc ms (va_A ws s.heap.size), va_A ws s.heap.size, s.heap)
    ⟨hx, hb, hml, by rw [← ho]; exact hown, fun w hw => hts w (List.mem_cons_of_mem _ hw), hK, hlocks, hA⟩ (by show meth.name = "<init>"; rw [hin, hn]) ⟨hr, rfl, rfl⟩ s.heap [] _ hP hD0.self va_S.rf hl
section JN
variable {X : Cx} {l : Launch} {R : Room} {D : va_G} {nL k n : Nat} {cc : ByteArray} {own : String} {ws ws' ws0 wr : va_W} {lv : List (Nat × Value)} {pc : Nat} {st rest As : List Value} {Post : Option Value → va_W → Prop}
variable {y : MethodName} {b : ByteArray} {m0 np idx mc ms : Nat} {rm : Room}
theorem r_objInit (h : OK X D nL cc own) {a : Nat} (wl : Cond.methodLink own idx objectInit ∈ lw_g) (wi : Cond.instanceMethod objectInit ∈ lw_g) (wc : Cond.code objectInit ⟨#[0xb1]⟩ 1 none ∈ lw_g) (hd : decode cc pc = .ok (.invokespecial idx, 3)) (hf : 1 ≤ R.frames) (hlo : (st.map fun v => v.category).sum + 12 ≤ R.locals) (kk : J X l R D nL k n ws lv (pc + 3) st) : J X l R D nL k n ws lv pc (.ref a :: st) := by
  obtain ⟨p, e, s, m, args, below, meth, c, Q, A, H0⟩ := X
  obtain ⟨hx, hb, hml, hown, hts, hK, hlk, hA⟩ := h
  intro H locs ls hP hD hS hl
  refine W.objInit hx hb hown (hts _ wl) (hts _ wi) (hts _ wc) rfl (by rw [hml]; exact hl.1) rfl hd hf (by show 2 * 0 + _ + 12 ≤ _; omega) ?_
  exact W.eq (g2 := F0 m (pc + 3) ls st) rfl (kk H locs ls hP hD hS hl)
theorem r_new (h : OK X D nL cc own) {ci N : Nat} {fs : List Value} (fn : FNk own idx ci fs N) (hd : decode cc pc = .ok (.new idx, 3)) (hc : k + 1 ≤ R.cells ∧ n + N ≤ R.slots) (kk : ∀ q : Nat, J X l R D nL (k + 1) (n + N) (ws ++ [(q, .inr (ci, fs))]) lv (pc + 3) (.ref q :: st)) : J X l R D nL k n ws lv pc st := by
  obtain ⟨p, e, s, m, args, below, meth, c, Q, A, H0⟩ := X
  obtain ⟨hx, hb, hml, hown, hts, hK, hlk, hA⟩ := h
  obtain ⟨C, T, tt, h1, h2, h3, h4, h5, h6, h7⟩ := fn
  intro H locs ls hP hD hS hl
  exact va_new hx hb hts h2 tt h3 hown (hts _ h4) (hts _ h5) (hts _ h6) hK hP hD hS hA h1 h7 hc.1 hc.2 hd (fun q H1 hP1 hD1 hS1 => kk q H1 locs ls hP1 hD1 hS1 hl)
theorem r_newa (h : OK X D nL cc own) {z : Int32} {N' : Nat} (wa : Cond.arrayClass .int ∈ lw_g) (hz : ¬ z < 0) (hN : z.toNatClampNeg = N') (hb4 : N' * 4 ≤ 536870912) (hc : k + 1 ≤ R.cells ∧ n + N' ≤ R.slots) (hd : decode cc pc = .ok (.newarray .int, 2)) (kk : ∀ q : Nat, J X l R D nL (k + 1) (n + N') (ws ++ [(q, .inl (D.1 100, N', .inl (fun _ => 0)))]) lv (pc + 2) (.ref q :: st)) : J X l R D nL k n ws lv pc (.int z :: st) := by
  obtain ⟨p, e, s, m, args, below, meth, c, Q, A, H0⟩ := X
  obtain ⟨hx, hb, hml, hown, hts, hK, hlk, hA⟩ := h
  intro H locs ls hP hD hS hl
  refine va_newa (atype := .int) (ty := .int) (a0 := (N', .inl (fun _ => 0))) hx hb (hts _ wa) rfl hK hP hD hS hA (fun _ => rfl) hz hN hb4 hc.1 hc.2 hd (fun q cA H1 hK1 hP1 hD1 hS1 => ?_)
  have e1 : s.vm.findClass ("[" ++ (FieldType.int).toString) = some cA := (hK1.2 3 (cA, .int) rfl).2
  have e2 : s.vm.findClass ("[" ++ (FieldType.int).toString) = some (D.1 100) := (hK.2 0 (D.1 100, .int) rfl).2
  obtain rfl : D.1 100 = cA := Option.some.inj (e2.symm.trans e1)
  exact kk q H1 locs ls hP1 hD1 hS1 hl
theorem r_newl (h : OK X D nL cc own) {z : Int32} {N' : Nat} (wa : Cond.arrayClass .long ∈ lw_g) (hz : ¬ z < 0) (hN : z.toNatClampNeg = N') (hb4 : N' * 8 ≤ 536870912) (hc : k + 1 ≤ R.cells ∧ n + N' ≤ R.slots) (hd : decode cc pc = .ok (.newarray .long, 2)) (kk : ∀ q : Nat, J X l R D nL (k + 1) (n + N') (ws ++ [(q, .inl (D.1 102, N', .inr (.inl (fun _ => 0))))]) lv (pc + 2) (.ref q :: st)) : J X l R D nL k n ws lv pc (.int z :: st) := by
  obtain ⟨p, e, s, m, args, below, meth, c, Q, A, H0⟩ := X
  obtain ⟨hx, hb, hml, hown, hts, hK, hlk, hA⟩ := h
  intro H locs ls hP hD hS hl
  refine va_newa (atype := .long) (ty := .long) (a0 := (N', .inr (.inl (fun _ => 0)))) hx hb (hts _ wa) rfl hK hP hD hS hA (fun _ => rfl) hz hN hb4 hc.1 hc.2 hd (fun q cA H1 hK1 hP1 hD1 hS1 => ?_)
  have e1 : s.vm.findClass ("[" ++ (FieldType.long).toString) = some cA := (hK1.2 3 (cA, .long) rfl).2
  have e2 : s.vm.findClass ("[" ++ (FieldType.long).toString) = some (D.1 102) := (hK.2 2 (D.1 102, .long) rfl).2
  obtain rfl : D.1 102 = cA := Option.some.inj (e2.symm.trans e1)
  exact kk q H1 locs ls hP1 hD1 hS1 hl
theorem r_newq (h : OK X D nL cc own) {z : Int32} {N' : Nat} (wc : Cond.classLink own idx RX1 ∈ lw_g) (ho : AOK X) (hz : ¬ z < 0) (hN : z.toNatClampNeg = N') (hb4 : N' * 4 ≤ 536870912) (hc : k + 1 ≤ R.cells ∧ n + N' ≤ R.slots) (hd : decode cc pc = .ok (.anewarray idx, 3)) (kk : ∀ q : Nat, J X l R D nL (k + 1) (n + N') (ws ++ [(q, .inl (D.1 101, N', .inr (.inr (.inr (.inr (fun _ => none))))))]) lv (pc + 3) (.ref q :: st)) : J X l R D nL k n ws lv pc (.int z :: st) := by
  obtain ⟨p, e, s, m, args, below, meth, c, Q, A, H0⟩ := X
  obtain ⟨hx, hb, hml, hown, hts, hK, hlk, hA⟩ := h
  intro H locs ls hP hD hS hl
  refine va_newq (C := RX1) hx hb hown (hts _ wc) ho.1 hK hP hD hS hA hz hN hb4 hc.1 hc.2 hd (fun q cA H1 hK1 hP1 hD1 hS1 => ?_)
  obtain ⟨-, -, -, -, -, e1⟩ := (hK1.2 3 (cA, .object RX1) rfl).2
  obtain ⟨-, -, -, -, -, e2⟩ := (hK.2 1 (D.1 101, .object RX1) rfl).2
  obtain rfl : D.1 101 = cA := Option.some.inj (e2.symm.trans e1)
  exact kk q H1 locs ls hP1 hD1 hS1 hl
theorem r_putF (h : OK X D nL cc own) (hI : INI X) {ci j : Nat} {ty : FieldType} (fp : FPk own idx ci j ty true) (hcl : ∀ C T N, vwCl[ci]? = some (C, T, N) → C = own) (q0 : Nat) {a : Nat} {fs : List Value} {v : Value} (he : ws[q0]? = some (a, .inr (ci, fs))) (hl0 : j < fs.length) (hn : narrow ty v = v) (hfit : fits ty v = true) (hw' : ws.set q0 (a, .inr (ci, fs.set j v)) = ws') (hd : decode cc pc = .ok (.putfield idx, 3)) (kk : J X l R D nL k n ws' lv (pc + 3) st) : J X l R D nL k n ws lv pc (v :: .ref a :: st) := by
  obtain ⟨p, e, s, m, args, below, meth, c, Q, A, H0⟩ := X
  obtain ⟨hx, hb, hml, hown, hts, hK, hlk, hA⟩ := h
  obtain ⟨C, T, N, tt, hc, hj, hin, hw, htt, hnm, hfin, hty, hTC⟩ := fp
  subst hw'
  intro H locs ls hP hD hS hl
  exact va_putF hx hb hts hin tt htt hnm hown hK hP hD hS q0 he hc j hj (hts _ hw) (fun _ h9 => h9) hfin hI (hTC.trans (hcl C T N hc)) hty hn hfit hl0 hd (fun H1 locs1 hP1 hD1 hS1 => kk H1 locs1 ls hP1 hD1 hS1 hl)
def HdI (y : MethodName) (b : ByteArray) (m : Nat) (np : Nat) : Prop :=
  Cond.instanceMethod y ∈ lw_g ∧ Cond.initialized y.cls ∈ lw_g ∧ Cond.code y b m none ∈ lw_g ∧ y.name = "<init>" ∧ (y.cls ≠ "java/lang/invoke/MethodHandle" ∧ y.cls ≠ "java/lang/invoke/VarHandle" ∧ (parseMethodDescriptor y.desc).map (fun d => d.parameters.length) = some np)
/-- a constructor of cells that stand last -/
theorem r_callI (h : OK X D nL cc own) {a : Nat} (hd0 : HdI y b m0 np) (wl : Cond.methodLink own idx y ∈ lw_g) (hd : decode cc pc = .ok (.invokespecial idx, 3)) (hc : Ct l D y b m0 none rm mc ms (.ref a :: As) ws0 Post)
    (hnp : As.length = np) (hrc : rm.cells = mc ∧ rm.slots = ms) (hRm : rm.frames + 1 ≤ R.frames ∧ 8 + (m0 + 11) + rm.locals ≤ R.locals) (hst : (rest.map fun v => v.category).sum ≤ 8) (hf : k + mc ≤ R.cells ∧ n + ms ≤ R.slots) (hws : ws = wr ++ ws0) (hstk : st = As.reverse ++ .ref a :: rest)
    (kk : ∀ (v : Option Value) (w' : va_W), Post v w' → J X l R D nL (k + mc) (n + ms) (wr ++ w') lv (pc + 3) (v.toList ++ rest)) : J X l R D nL k n ws lv pc st := by
  subst hws
  refine J.perm (ws' := ws0 ++ wr) List.perm_append_comm ?_
  obtain ⟨e1, e2, e3⟩ := pk_app ws0 wr
  obtain ⟨p, e, s, m, args, below, meth, c, Q, A, H0⟩ := X
  obtain ⟨hx, hb, hml, hown, hts, hK, hlk, hA⟩ := h
  obtain ⟨w1, w3, w4, hy1, hy⟩ := hd0
  simp only [Bool.and_eq_true] at e3
  obtain ⟨⟨hn1, hn2⟩, hn3⟩ := e3
  intro H locs ls hP hD hS hl
  have hPc := lg_subP _ e1 hP
  have hDc := hD.sub _ hn1 e1
  refine r_behind _ _ e1 e2 hn2 (fun i hi hi2 => ?_) hA hP hD hS hl (va_runI (As := As) (rest := rest) ⟨hx, hb, hml, hown, hts⟩ (hc H.size) (cwI np hts (lg_in (fun w hw => hw) (lg_cons w4)) rfl hrc.1 hrc.2 (hts _ w3) (hts _ wl) (hts _ w1) hy1 hy hRm) ⟨Ct_blind, lg_pre hK hPc hDc⟩ rfl hnp hl.1 hstk (lv_room hst) hd hf) kk
  have := List.all_eq_true.mp hn3 i hi
  simp [hi2] at this
end JN
/-- the constructor of RackMoves: with what the tables say of an array of rooms and of a nest mate's constructor -/
def CtR (l : Launch) (D : va_G) (y : MethodName) (b : ByteArray) (n : Nat) (ret : Option FieldType) (rm : Room) (mc ms : Nat) (avs : List Value) (ws : va_W) (Post : Option Value → va_W → Prop) : Prop :=
  ∀ sz : Nat, Met l y (Cond.code y b n ret :: lw_g) rm (va_Pc avs (fun U => CtPre D ws sz U ∧ AOF U)) (CtQ D (va_A ws sz) Post) mc ms (va_A ws sz)
theorem CtR_blind {D : va_G} {ws : va_W} {sz : Nat} {avs : List Value} : FrameBlind (va_Pc avs (fun U => CtPre D ws sz U ∧ AOF U)) := fun a U g mk h => by
  obtain ⟨h1, ⟨h2, h3, h4, h5⟩, h6, h7⟩ := h
  exact ⟨h1, ⟨h2, h3, va_K.moved (u := U) (U := U.calling g mk a) (Vm.Alike.refl U.vm) h4, h5⟩, va_AO.moved (u := U) (U := U.calling g mk a) (Vm.Alike.refl U.vm) h6, h7.same rfl rfl⟩
theorem CtR.of {l : Launch} {D : va_G} {y : MethodName} {b : ByteArray} {n : Nat} {ret : Option FieldType} {rm : Room} {mc ms : Nat} {avs : List Value} {ws : va_W} {Post : Option Value → va_W → Prop} {own : String} {lv : List (Nat × Value)}
    (hy : plainName y.cls = true) (ho : y.cls = own) (hn : y.name = "<init>") (hle : (lg_sl avs).length ≤ n) (hlv : lv_args 0 avs = lv)
    (body : ∀ X : Cx, OK X D n b own → INI X → AOK X → RT X D ret mc ms Post → J X l rm D n 0 0 ws lv 0 []) : CtR l D y b n ret rm mc ms avs ws Post := by
  intro sz
  refine Met.ofW (cc := b) (maxL := n) (ret := ret) hy rfl ?_
  intro p e s m args below meth c s₁ B hml hv
  obtain ⟨rfl, ⟨hsz, hP, hK, hD0⟩, hAO⟩ := hv
  have hx := B.exec
  have hb := B.bytes
  have hr := B.returns
  have hts := atoms_spec (ws := Cond.code y b n ret :: lw_g) B.pre
  have hown : s.vm.findClass y.cls = some m.cls := findClass_of_methodNamed B.named
  have hin : meth.name = y.name := (name_of_methodNamed B.named B.method).1
  have hlocks := B.notSynchronized
  subst hsz
  have hA : ∀ q : Nat, s.heap.size ≤ q → va_A ws s.heap.size q := fun q h => Or.inr h
  have hl := lv_entry avs (n := n) hle
  rw [hlv] at hl
  rw [lg_entry_eq]
  exact body (p, e, s, m, avs.toArray, below, meth, c, MQ below (CtQ D (va_A ws s.heap.size) Post) avs.toArray s mc ms (va_A ws s.heap.size), va_A ws s.heap.size, s.heap)
    ⟨hx, hb, hml, by rw [← ho]; exact hown, fun w hw => hts w (List.mem_cons_of_mem _ hw), hK, hlocks, hA⟩ (by show meth.name = "<init>"; rw [hin, hn]) hAO ⟨hr, rfl, rfl⟩ s.heap [] _ hP hD0.self va_S.rf hl
section JN2
variable {X : Cx} {l : Launch} {R : Room} {D : va_G} {nL k n : Nat} {cc : ByteArray} {own host : String} {ws ws' ws0 wr : va_W} {lv : List (Nat × Value)} {pc : Nat} {st rest As : List Value} {Post : Option Value → va_W → Prop}
variable {y : MethodName} {b : ByteArray} {m0 np idx mc ms : Nat} {rm : Room}
/-- a nest mate's constructor of cells that stand last -/
theorem r_callIN (h : OK X D nL cc RX3) (ho : AOK X) {a : Nat} (hd0 : HdI yX0_init b m0 np) (hd : decode cc pc = .ok (.invokespecial 29, 3)) (hc : Ct l D yX0_init b m0 none rm mc ms (.ref a :: As) ws0 Post)
    (hnp : As.length = np) (hrc : rm.cells = mc ∧ rm.slots = ms) (hRm : rm.frames + 1 ≤ R.frames ∧ 8 + (m0 + 11) + rm.locals ≤ R.locals) (hst : (rest.map fun v => v.category).sum ≤ 8) (hf : k + mc ≤ R.cells ∧ n + ms ≤ R.slots) (hws : ws = wr ++ ws0) (hstk : st = As.reverse ++ .ref a :: rest)
    (kk : ∀ (v : Option Value) (w' : va_W), Post v w' → J X l R D nL (k + mc) (n + ms) (wr ++ w') lv (pc + 3) (v.toList ++ rest)) : J X l R D nL k n ws lv pc st := by
  subst hws
  refine J.perm (ws' := ws0 ++ wr) List.perm_append_comm ?_
  obtain ⟨e1, e2, e3⟩ := pk_app ws0 wr
  obtain ⟨p, e, s, m, args, below, meth, c, Q, A, H0⟩ := X
  obtain ⟨hx, hb, hml, hown, hts, hK, hlk, hA⟩ := h
  obtain ⟨w1, w3, w4, hy1, hy⟩ := hd0
  simp only [Bool.and_eq_true] at e3
  obtain ⟨⟨hn1, hn2⟩, hn3⟩ := e3
  intro H locs ls hP hD hS hl
  have hPc := lg_subP _ e1 hP
  have hDc := hD.sub _ hn1 e1
  refine r_behind _ _ e1 e2 hn2 (fun i hi hi2 => ?_) hA hP hD hS hl (va_runIN (As := As) (rest := rest) ⟨hx, hb, hml, hown, hts⟩ (hc H.size) ⟨va_cnB np hts (lg_in (fun w hw => hw) (lg_cons w4)) rfl hrc.1 hrc.2 ho.2 (hts _ w3) hy hRm, hy1, hts _ w1⟩ ⟨Ct_blind, lg_pre hK hPc hDc⟩ rfl hnp hl.1 hstk (lv_room hst) hd hf) kk
  have := List.all_eq_true.mp hn3 i hi
  simp [hi2] at this
end JN2
theorem hdI_X2 : HdI yX2_init cX2_init 3 2 := ⟨by decide +kernel, by decide +kernel, by decide +kernel, rfl, by decide +kernel⟩
theorem hdI_X1 : HdI yX1_init cX1_init 2 0 := ⟨by decide +kernel, by decide +kernel, by decide +kernel, rfl, by decide +kernel⟩
theorem hdI_X0 : HdI yX0_init cX0_init 1 0 := ⟨by decide +kernel, by decide +kernel, by decide +kernel, rfl, by decide +kernel⟩
theorem hdI_X3 : HdI yX3_init cX3_init 2 0 := ⟨by decide +kernel, by decide +kernel, by decide +kernel, rfl, by decide +kernel⟩
theorem hdI_X4 : HdI yX4_init cX4_init 2 0 := ⟨by decide +kernel, by decide +kernel, by decide +kernel, rfl, by decide +kernel⟩
theorem wm_aI : Cond.arrayClass .int ∈ lw_g := by decide +kernel
theorem wm_aL : Cond.arrayClass .long ∈ lw_g := by decide +kernel
theorem wm_oI : Cond.instanceMethod objectInit ∈ lw_g := by decide +kernel
theorem wm_oC : Cond.code objectInit ⟨#[0xb1]⟩ 1 none ∈ lw_g := by decide +kernel
theorem vwC1 : ∀ C T N, vwCl[1]? = some (C, T, N) → C = RX1 := fun C T N h => by cases h; rfl
theorem vwC0 : ∀ C T N, vwCl[0]? = some (C, T, N) → C = RX0 := fun C T N h => by cases h; rfl
theorem vwC2 : ∀ C T N, vwCl[2]? = some (C, T, N) → C = RX2 := fun C T N h => by cases h; rfl
theorem vwC3 : ∀ C T N, vwCl[3]? = some (C, T, N) → C = RX3 := fun C T N h => by cases h; rfl
theorem vwC4 : ∀ C T N, vwCl[4]? = some (C, T, N) → C = RX4 := fun C T N h => by cases h; rfl

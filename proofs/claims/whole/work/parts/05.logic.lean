/-! THE JUDGEMENT J: at pc, with the cells ws, the locals lv and the stack st, the machine comes to its end; all heaps that hold ws alike. -/
theorem lg_words {args : Array Value} {s : State} (h : ∀ w ∈ lw_tbl, w.before args s = true) : ∀ w ∈ lw_g, w.before args s = true := fun w hw => h w (List.mem_filter.mp hw).1
theorem lg_good {w : Cond} (h : w ∈ lw_g) : goodWord w = true := (List.mem_filter.mp h).2
theorem lg_in {big ws : List Cond} (hb : ∀ w ∈ lw_g, w ∈ big) (h : ∀ w ∈ ws, w ∈ lw_g) : GoodIn big ws := fun w hw => ⟨hb w (h w hw), good_of_word (lg_good (h w hw))⟩
theorem lg_cons {c : Cond} (h : c ∈ lw_g) : ∀ w ∈ c :: lw_g, w ∈ lw_g := fun w hw => (List.mem_cons.mp hw).elim (fun e => by rw [e]; exact h) id
abbrev tyG (D : va_G) : List (ClassId × FieldType) := [(D.1 100, .int), (D.1 101, .object RX1), (D.1 102, .long)]
abbrev Cx : Type := Program × Env × State × MethodId × Array Value × List Frame × Method × Code × (State → Prop) × (Nat → Prop) × Heap
def J (X : Cx) (l : Launch) (R : Room) (D : va_G) (nL k n : Nat) (ws : va_W) (lv : List (Nat × Value)) (pc : Nat) (st : List Value) : Prop :=
  match X with
  | (p, e, s, m, args, below, meth, c, Q, A, H0) => ∀ (H : Heap) (locs : List Loc) (ls : Array Slot), va_P D vwCl ws H → va_D A ws → va_S A H0 H locs → lv_has ls nL lv → W p l e R s m args below meth c H locs k n Q (F0 m pc ls st)
def OK (X : Cx) (D : va_G) (nL : Nat) (cc : ByteArray) (own : String) : Prop :=
  match X with
  | (p, _, s, m, args, _, meth, c, _, A, H0) => p.tables.exec = Jvm.exec ∧ c.code = cc ∧ c.maxLocals = nL ∧ s.vm.findClass own = some m.cls ∧ (∀ w ∈ lw_g, w.before args s = true) ∧ va_K D vwCl (tyG D) s ∧ meth.locks = false ∧ (∀ q, H0.size ≤ q → A q)
def CtPre (D : va_G) (ws : va_W) (sz : Nat) : State → Prop := fun U => U.heap.size = sz ∧ va_P D vwCl ws U.heap ∧ va_K D vwCl (tyG D) U ∧ va_D (fun _ => True) ws
def CtQ (D : va_G) (A : Nat → Prop) (Post : Option Value → va_W → Prop) : Array Value → State → Outcome → State → Prop := fun _ st oc t => (∃ (v : Option Value) (w' : va_W), oc = .returned v ∧ Post v w' ∧ va_P D vwCl w' t.heap ∧ va_D A w') ∧ va_F A st t
def RT (X : Cx) (D : va_G) (ret : Option FieldType) (mc ms : Nat) (Post : Option Value → va_W → Prop) : Prop :=
  match X with
  | (_, _, s, _, args, below, meth, _, Q, A, H0) => meth.sig.returnType = ret ∧ H0 = s.heap ∧ Q = MQ below (CtQ D A Post) args s mc ms A
/-- a method's contract: the room it needs, its arguments, its cells, what it answers with which cells behind -/
def Ct (l : Launch) (D : va_G) (y : MethodName) (b : ByteArray) (n : Nat) (ret : Option FieldType) (rm : Room) (mc ms : Nat) (avs : List Value) (ws : va_W) (Post : Option Value → va_W → Prop) : Prop :=
  ∀ sz : Nat, Met l y (Cond.code y b n ret :: lw_g) rm (va_Pc avs (CtPre D ws sz)) (CtQ D (va_A ws sz) Post) mc ms (va_A ws sz)
theorem Ct_blind {D : va_G} {ws : va_W} {sz : Nat} {avs : List Value} : FrameBlind (va_Pc avs (CtPre D ws sz)) := fun a U g mk h => by
  obtain ⟨h1, h2, h3, h4, h5⟩ := h
  exact ⟨h1, h2, h3, va_K.moved (u := U) (U := U.calling g mk a) (Vm.Alike.refl U.vm) h4, h5⟩
theorem Ct.of {l : Launch} {D : va_G} {y : MethodName} {b : ByteArray} {n : Nat} {ret : Option FieldType} {rm : Room} {mc ms : Nat} {avs : List Value} {ws : va_W} {Post : Option Value → va_W → Prop} {own : String} {lv : List (Nat × Value)}
    (hy : plainName y.cls = true) (ho : y.cls = own) (hle : (lg_sl avs).length ≤ n) (hlv : lv_args 0 avs = lv)
    (body : ∀ X : Cx, OK X D n b own → RT X D ret mc ms Post → J X l rm D n 0 0 ws lv 0 []) : Ct l D y b n ret rm mc ms avs ws Post := by
  intro sz
  refine Met.ofW (cc := b) (maxL := n) (ret := ret) hy rfl ?_
  intro p e s m args below meth c s₁ B hml hv
  obtain ⟨rfl, hsz, hP, hK, hD0⟩ := hv
  have hx := B.exec
  have hb := B.bytes
  have hr := B.returns
  have hts := atoms_spec (ws := Cond.code y b n ret :: lw_g) B.pre
  have hown : s.vm.findClass y.cls = some m.cls := findClass_of_methodNamed B.named
  have hlocks := B.notSynchronized
  subst hsz
  have hA : ∀ q : Nat, s.heap.size ≤ q → va_A ws s.heap.size q := fun q h => Or.inr h
  have hl := lv_entry avs (n := n) hle
  rw [hlv] at hl
  rw [lg_entry_eq]
  exact body (p, e, s, m, avs.toArray, below, meth, c, MQ below (CtQ D (va_A ws s.heap.size) Post) avs.toArray s mc ms (va_A ws s.heap.size), va_A ws s.heap.size, s.heap)
    ⟨hx, hb, hml, by rw [← ho]; exact hown, fun w hw => hts w (List.mem_cons_of_mem _ hw), hK, hlocks, hA⟩ ⟨hr, rfl, rfl⟩ s.heap [] _ hP hD0.self va_S.rf hl
section JR
variable {X : Cx} {l : Launch} {R : Room} {D : va_G} {nL k n : Nat} {cc : ByteArray} {own : String} {ws ws' : va_W} {lv lv' : List (Nat × Value)} {pc : Nat} {st : List Value}
theorem J.sub (is : List Nat) (hs : is.map (fun i => ws[i]?) = ws'.map some) (hn : va_nd is = true) (kk : J X l R D nL k n ws' lv pc st) : J X l R D nL k n ws lv pc st := by
  obtain ⟨p, e, s, m, args, below, meth, c, Q, A, H0⟩ := X
  intro H locs ls hP hD hS hl
  refine kk H locs ls ?_ (hD.sub is hn hs) hS hl
  intro a q ha
  have h1 : (is.map (fun i => ws[i]?))[a]? = some (some q) := by rw [hs, List.getElem?_map, ha]; rfl
  rw [List.getElem?_map] at h1
  cases hi : is[a]? with
  | none => rw [hi] at h1; cases h1
  | some i => rw [hi] at h1; exact hP i q (Option.some.inj h1)
theorem J.loc (is : List Nat) (hs : lv_pick lv is = lv') (kk : J X l R D nL k n ws lv' pc st) : J X l R D nL k n ws lv pc st := by
  obtain ⟨p, e, s, m, args, below, meth, c, Q, A, H0⟩ := X
  intro H locs ls hP hD hS hl
  exact kk H locs ls hP hD hS (lv_sub hl is hs)
theorem J.widen {k1 n1 : Nat} (h1 : k ≤ k1) (h2 : n ≤ n1) (kk : J X l R D nL k1 n1 ws lv pc st) : J X l R D nL k n ws lv pc st := by
  obtain ⟨p, e, s, m, args, below, meth, c, Q, A, H0⟩ := X
  intro H locs ls hP hD hS hl
  exact W.widen h1 h2 (kk H locs ls hP hD hS hl)
theorem J.wse (h : ws = ws') (kk : J X l R D nL k n ws' lv pc st) : J X l R D nL k n ws lv pc st := by rw [h]; exact kk
theorem J.ste {st' : List Value} (h : st = st') (kk : J X l R D nL k n ws lv pc st') : J X l R D nL k n ws lv pc st := by rw [h]; exact kk
theorem r_iload (h : OK X D nL cc own) {i : Nat} {x : Int32} (q : Nat) (hk : lv[q]? = some (i, .int x)) (hd : decode cc pc = .ok (.iload i, 2)) (kk : J X l R D nL k n ws lv (pc + 2) (.int x :: st)) : J X l R D nL k n ws lv pc st := by
  obtain ⟨p, e, s, m, args, below, meth, c, Q, A, H0⟩ := X
  intro H locs ls hP hD hS hl
  exact lv_iload h.1 h.2.1 hd (lv_at hl q hk) (kk H locs ls hP hD hS hl)
theorem r_iload_n (h : OK X D nL cc own) {i : Nat} {f : Fin 4} {x : Int32} (q : Nat) (hk : lv[q]? = some (i, .int x)) (hi : (f : Nat) = i) (hd : decode cc pc = .ok (.iload_n f, 1)) (kk : J X l R D nL k n ws lv (pc + 1) (.int x :: st)) : J X l R D nL k n ws lv pc st := by
  obtain ⟨p, e, s, m, args, below, meth, c, Q, A, H0⟩ := X
  intro H locs ls hP hD hS hl
  exact lv_iload_n h.1 h.2.1 hd hi (lv_at hl q hk) (kk H locs ls hP hD hS hl)
theorem r_aload (h : OK X D nL cc own) {i : Nat} {x : Nat} (q : Nat) (hk : lv[q]? = some (i, .ref x)) (hd : decode cc pc = .ok (.aload i, 2)) (kk : J X l R D nL k n ws lv (pc + 2) (.ref x :: st)) : J X l R D nL k n ws lv pc st := by
  obtain ⟨p, e, s, m, args, below, meth, c, Q, A, H0⟩ := X
  intro H locs ls hP hD hS hl
  exact lv_aload h.1 h.2.1 hd (lv_at hl q hk) (kk H locs ls hP hD hS hl)
theorem r_aload_n (h : OK X D nL cc own) {i : Nat} {f : Fin 4} {x : Nat} (q : Nat) (hk : lv[q]? = some (i, .ref x)) (hi : (f : Nat) = i) (hd : decode cc pc = .ok (.aload_n f, 1)) (kk : J X l R D nL k n ws lv (pc + 1) (.ref x :: st)) : J X l R D nL k n ws lv pc st := by
  obtain ⟨p, e, s, m, args, below, meth, c, Q, A, H0⟩ := X
  intro H locs ls hP hD hS hl
  exact lv_aload_n h.1 h.2.1 hd hi (lv_at hl q hk) (kk H locs ls hP hD hS hl)
theorem r_lload (h : OK X D nL cc own) {i : Nat} {x : Int64} (q : Nat) (hk : lv[q]? = some (i, .long x)) (hd : decode cc pc = .ok (.lload i, 2)) (kk : J X l R D nL k n ws lv (pc + 2) (.long x :: st)) : J X l R D nL k n ws lv pc st := by
  obtain ⟨p, e, s, m, args, below, meth, c, Q, A, H0⟩ := X
  intro H locs ls hP hD hS hl
  exact lv_lload h.1 h.2.1 hd (lv_at hl q hk) (kk H locs ls hP hD hS hl)
theorem r_lload_n (h : OK X D nL cc own) {i : Nat} {f : Fin 4} {x : Int64} (q : Nat) (hk : lv[q]? = some (i, .long x)) (hi : (f : Nat) = i) (hd : decode cc pc = .ok (.lload_n f, 1)) (kk : J X l R D nL k n ws lv (pc + 1) (.long x :: st)) : J X l R D nL k n ws lv pc st := by
  obtain ⟨p, e, s, m, args, below, meth, c, Q, A, H0⟩ := X
  intro H locs ls hP hD hS hl
  exact lv_lload_n h.1 h.2.1 hd hi (lv_at hl q hk) (kk H locs ls hP hD hS hl)
theorem r_dload (h : OK X D nL cc own) {i : Nat} {x : UInt64} (q : Nat) (hk : lv[q]? = some (i, .double x)) (hd : decode cc pc = .ok (.dload i, 2)) (kk : J X l R D nL k n ws lv (pc + 2) (.double x :: st)) : J X l R D nL k n ws lv pc st := by
  obtain ⟨p, e, s, m, args, below, meth, c, Q, A, H0⟩ := X
  intro H locs ls hP hD hS hl
  exact lv_dload h.1 h.2.1 hd (lv_at hl q hk) (kk H locs ls hP hD hS hl)
theorem r_istore_n (h : OK X D nL cc own) {i : Nat} {f : Fin 4} {x : Int32} (hi : (f : Nat) = i) (hd : decode cc pc = .ok (.istore_n f, 1)) (hn : i < nL) (hl : (i, Value.int x) :: lv.filter (fun q => !(q.1 == i) && !(q.1 + 1 == i && q.2.category == 2)) = lv') (kk : J X l R D nL k n ws lv' (pc + 1) st) : J X l R D nL k n ws lv pc (.int x :: st) := by
  obtain ⟨p, e, s, m, args, below, meth, c, Q, A, H0⟩ := X
  intro H locs ls hP hD hS hl0
  exact lv_istore_n h.1 h.2.1 hd hi hl0 hn hl (fun ls' hl' => kk H locs ls' hP hD hS hl')
theorem r_istore (h : OK X D nL cc own) {i : Nat} {x : Int32} (hd : decode cc pc = .ok (.istore i, 2)) (hn : i < nL) (hl : (i, Value.int x) :: lv.filter (fun q => !(q.1 == i) && !(q.1 + 1 == i && q.2.category == 2)) = lv') (kk : J X l R D nL k n ws lv' (pc + 2) st) : J X l R D nL k n ws lv pc (.int x :: st) := by
  obtain ⟨p, e, s, m, args, below, meth, c, Q, A, H0⟩ := X
  intro H locs ls hP hD hS hl0
  exact lv_istore h.1 h.2.1 hd hl0 hn hl (fun ls' hl' => kk H locs ls' hP hD hS hl')
theorem r_astore_n (h : OK X D nL cc own) {i : Nat} {f : Fin 4} {x : Nat} (hi : (f : Nat) = i) (hd : decode cc pc = .ok (.astore_n f, 1)) (hn : i < nL) (hl : (i, Value.ref x) :: lv.filter (fun q => !(q.1 == i) && !(q.1 + 1 == i && q.2.category == 2)) = lv') (kk : J X l R D nL k n ws lv' (pc + 1) st) : J X l R D nL k n ws lv pc (.ref x :: st) := by
  obtain ⟨p, e, s, m, args, below, meth, c, Q, A, H0⟩ := X
  intro H locs ls hP hD hS hl0
  exact lv_astore_n h.1 h.2.1 hd hi hl0 hn hl (fun ls' hl' => kk H locs ls' hP hD hS hl')
theorem r_astore (h : OK X D nL cc own) {i : Nat} {x : Nat} (hd : decode cc pc = .ok (.astore i, 2)) (hn : i < nL) (hl : (i, Value.ref x) :: lv.filter (fun q => !(q.1 == i) && !(q.1 + 1 == i && q.2.category == 2)) = lv') (kk : J X l R D nL k n ws lv' (pc + 2) st) : J X l R D nL k n ws lv pc (.ref x :: st) := by
  obtain ⟨p, e, s, m, args, below, meth, c, Q, A, H0⟩ := X
  intro H locs ls hP hD hS hl0
  exact lv_astore h.1 h.2.1 hd hl0 hn hl (fun ls' hl' => kk H locs ls' hP hD hS hl')
theorem r_lstore_n (h : OK X D nL cc own) {i : Nat} {f : Fin 4} {x : Int64} (hi : (f : Nat) = i) (hd : decode cc pc = .ok (.lstore_n f, 1)) (hn : i + 1 < nL) (hl : (i, Value.long x) :: lv.filter (fun q => !(q.1 == i) && (!(q.1 == i + 1) && !(q.1 + 1 == i && q.2.category == 2))) = lv') (kk : J X l R D nL k n ws lv' (pc + 1) st) : J X l R D nL k n ws lv pc (.long x :: st) := by
  obtain ⟨p, e, s, m, args, below, meth, c, Q, A, H0⟩ := X
  intro H locs ls hP hD hS hl0
  exact lv_lstore_n h.1 h.2.1 hd hi hl0 hn hl (fun ls' hl' => kk H locs ls' hP hD hS hl')
theorem r_lstore (h : OK X D nL cc own) {i : Nat} {x : Int64} (hd : decode cc pc = .ok (.lstore i, 2)) (hn : i + 1 < nL) (hl : (i, Value.long x) :: lv.filter (fun q => !(q.1 == i) && (!(q.1 == i + 1) && !(q.1 + 1 == i && q.2.category == 2))) = lv') (kk : J X l R D nL k n ws lv' (pc + 2) st) : J X l R D nL k n ws lv pc (.long x :: st) := by
  obtain ⟨p, e, s, m, args, below, meth, c, Q, A, H0⟩ := X
  intro H locs ls hP hD hS hl0
  exact lv_lstore h.1 h.2.1 hd hl0 hn hl (fun ls' hl' => kk H locs ls' hP hD hS hl')
theorem r_dstore (h : OK X D nL cc own) {i : Nat} {x : UInt64} (hd : decode cc pc = .ok (.dstore i, 2)) (hn : i + 1 < nL) (hl : (i, Value.double x) :: lv.filter (fun q => !(q.1 == i) && (!(q.1 == i + 1) && !(q.1 + 1 == i && q.2.category == 2))) = lv') (kk : J X l R D nL k n ws lv' (pc + 2) st) : J X l R D nL k n ws lv pc (.double x :: st) := by
  obtain ⟨p, e, s, m, args, below, meth, c, Q, A, H0⟩ := X
  intro H locs ls hP hD hS hl0
  exact lv_dstore h.1 h.2.1 hd hl0 hn hl (fun ls' hl' => kk H locs ls' hP hD hS hl')
theorem r_iinc (h : OK X D nL cc own) {i : Nat} {z : Int} {x v : Int32} (q : Nat) (hk : lv[q]? = some (i, .int x)) (hv : x + Int32.ofInt z = v) (hd : decode cc pc = .ok (.iinc i z, 3)) (hn : i < nL) (hl : (i, Value.int v) :: lv.filter (fun q => !(q.1 == i) && !(q.1 + 1 == i && q.2.category == 2)) = lv') (kk : J X l R D nL k n ws lv' (pc + 3) st) : J X l R D nL k n ws lv pc st := by
  obtain ⟨p, e, s, m, args, below, meth, c, Q, A, H0⟩ := X
  intro H locs ls hP hD hS hl0
  exact lv_iinc h.1 h.2.1 hd hl0 hk hv hn hl (fun ls' hl' => kk H locs ls' hP hD hS hl')
theorem r_iconst (h : OK X D nL cc own) {z : Int} {v : Int32} (hd : decode cc pc = .ok (.iconst z, 1)) (hv : Int32.ofInt z = v) (kk : J X l R D nL k n ws lv (pc + 1) (.int v :: st)) : J X l R D nL k n ws lv pc st := by
  obtain ⟨p, e, s, m, args, below, meth, c, Q, A, H0⟩ := X
  intro H locs ls hP hD hS hl
  exact lv_iconst h.1 h.2.1 hd hv (kk H locs ls hP hD hS hl)
theorem r_bipush (h : OK X D nL cc own) {z : Int} {v : Int32} (hd : decode cc pc = .ok (.bipush z, 2)) (hv : (Int8.ofInt z).toInt32 = v) (kk : J X l R D nL k n ws lv (pc + 2) (.int v :: st)) : J X l R D nL k n ws lv pc st := by
  obtain ⟨p, e, s, m, args, below, meth, c, Q, A, H0⟩ := X
  intro H locs ls hP hD hS hl
  exact lv_bipush h.1 h.2.1 hd hv (kk H locs ls hP hD hS hl)
theorem r_sipush (h : OK X D nL cc own) {z : Int} {v : Int32} (hd : decode cc pc = .ok (.sipush z, 3)) (hv : (Int16.ofInt z).toInt32 = v) (kk : J X l R D nL k n ws lv (pc + 3) (.int v :: st)) : J X l R D nL k n ws lv pc st := by
  obtain ⟨p, e, s, m, args, below, meth, c, Q, A, H0⟩ := X
  intro H locs ls hP hD hS hl
  exact lv_sipush h.1 h.2.1 hd hv (kk H locs ls hP hD hS hl)
theorem r_ldc2 (h : OK X D nL cc own) {idx : Nat} {v : Int64} (w : Cond.constantLong own idx v ∈ lw_g) (hd : decode cc pc = .ok (.ldc2_w idx, 3)) (kk : J X l R D nL k n ws lv (pc + 3) (.long v :: st)) : J X l R D nL k n ws lv pc st := by
  obtain ⟨p, e, s, m, args, below, meth, c, Q, A, H0⟩ := X
  intro H locs ls hP hD hS hl
  exact lv_ldc2 h.1 h.2.1 h.2.2.2.1 (h.2.2.2.2.1 _ w) hd (kk H locs ls hP hD hS hl)
theorem r_ldc2d (h : OK X D nL cc own) {idx : Nat} {v : UInt64} (w : Cond.constantDouble own idx v ∈ lw_g) (hd : decode cc pc = .ok (.ldc2_w idx, 3)) (kk : J X l R D nL k n ws lv (pc + 3) (.double v :: st)) : J X l R D nL k n ws lv pc st := by
  obtain ⟨p, e, s, m, args, below, meth, c, Q, A, H0⟩ := X
  intro H locs ls hP hD hS hl
  exact lv_ldc2d h.1 h.2.1 h.2.2.2.1 (h.2.2.2.2.1 _ w) hd (kk H locs ls hP hD hS hl)
theorem r_dup (h : OK X D nL cc own) {v : Value} (hv : v.category = 1) (hd : decode cc pc = .ok (.dup, 1)) (kk : J X l R D nL k n ws lv (pc + 1) (v :: v :: st)) : J X l R D nL k n ws lv pc (v :: st) := by
  obtain ⟨p, e, s, m, args, below, meth, c, Q, A, H0⟩ := X
  intro H locs ls hP hD hS hl
  exact lv_dup h.1 h.2.1 hd hv (kk H locs ls hP hD hS hl)
theorem r_dup2 (h : OK X D nL cc own) {v w : Value} (hv : v.category = 1) (hw : w.category = 1) (hd : decode cc pc = .ok (.dup2, 1)) (kk : J X l R D nL k n ws lv (pc + 1) (v :: w :: v :: w :: st)) : J X l R D nL k n ws lv pc (v :: w :: st) := by
  obtain ⟨p, e, s, m, args, below, meth, c, Q, A, H0⟩ := X
  intro H locs ls hP hD hS hl
  exact lv_dup2_11 h.1 h.2.1 hd hv hw (kk H locs ls hP hD hS hl)
theorem r_iadd (h : OK X D nL cc own) {x y : Int32} (hd : decode cc pc = .ok (.iadd, 1)) (kk : J X l R D nL k n ws lv (pc + 1) (.int (x + y) :: st)) : J X l R D nL k n ws lv pc (.int y :: .int x :: st) := by
  obtain ⟨p, e, s, m, args, below, meth, c, Q, A, H0⟩ := X
  intro H locs ls hP hD hS hl
  exact lv_iadd h.1 h.2.1 hd (kk H locs ls hP hD hS hl)
theorem r_isub (h : OK X D nL cc own) {x y : Int32} (hd : decode cc pc = .ok (.isub, 1)) (kk : J X l R D nL k n ws lv (pc + 1) (.int (x - y) :: st)) : J X l R D nL k n ws lv pc (.int y :: .int x :: st) := by
  obtain ⟨p, e, s, m, args, below, meth, c, Q, A, H0⟩ := X
  intro H locs ls hP hD hS hl
  exact lv_isub h.1 h.2.1 hd (kk H locs ls hP hD hS hl)
theorem r_imul (h : OK X D nL cc own) {x y : Int32} (hd : decode cc pc = .ok (.imul, 1)) (kk : J X l R D nL k n ws lv (pc + 1) (.int (x * y) :: st)) : J X l R D nL k n ws lv pc (.int y :: .int x :: st) := by
  obtain ⟨p, e, s, m, args, below, meth, c, Q, A, H0⟩ := X
  intro H locs ls hP hD hS hl
  exact lv_imul h.1 h.2.1 hd (kk H locs ls hP hD hS hl)
theorem r_iand (h : OK X D nL cc own) {x y : Int32} (hd : decode cc pc = .ok (.iand, 1)) (kk : J X l R D nL k n ws lv (pc + 1) (.int (x &&& y) :: st)) : J X l R D nL k n ws lv pc (.int y :: .int x :: st) := by
  obtain ⟨p, e, s, m, args, below, meth, c, Q, A, H0⟩ := X
  intro H locs ls hP hD hS hl
  exact lv_iand h.1 h.2.1 hd (kk H locs ls hP hD hS hl)
theorem r_idiv (h : OK X D nL cc own) {x y : Int32} (hne : ¬ y = 0) (hd : decode cc pc = .ok (.idiv, 1)) (kk : J X l R D nL k n ws lv (pc + 1) (.int (x / y) :: st)) : J X l R D nL k n ws lv pc (.int y :: .int x :: st) := by
  obtain ⟨p, e, s, m, args, below, meth, c, Q, A, H0⟩ := X
  intro H locs ls hP hD hS hl
  exact lv_idiv h.1 h.2.1 hd hne (kk H locs ls hP hD hS hl)
theorem r_irem (h : OK X D nL cc own) {x y : Int32} (hne : ¬ y = 0) (hd : decode cc pc = .ok (.irem, 1)) (kk : J X l R D nL k n ws lv (pc + 1) (.int (x - x / y * y) :: st)) : J X l R D nL k n ws lv pc (.int y :: .int x :: st) := by
  obtain ⟨p, e, s, m, args, below, meth, c, Q, A, H0⟩ := X
  intro H locs ls hP hD hS hl
  exact lv_irem h.1 h.2.1 hd hne (kk H locs ls hP hD hS hl)
theorem r_ladd (h : OK X D nL cc own) {x y : Int64} (hd : decode cc pc = .ok (.ladd, 1)) (kk : J X l R D nL k n ws lv (pc + 1) (.long (x + y) :: st)) : J X l R D nL k n ws lv pc (.long y :: .long x :: st) := by
  obtain ⟨p, e, s, m, args, below, meth, c, Q, A, H0⟩ := X
  intro H locs ls hP hD hS hl
  exact lv_ladd h.1 h.2.1 hd (kk H locs ls hP hD hS hl)
theorem r_lmul (h : OK X D nL cc own) {x y : Int64} (hd : decode cc pc = .ok (.lmul, 1)) (kk : J X l R D nL k n ws lv (pc + 1) (.long (x * y) :: st)) : J X l R D nL k n ws lv pc (.long y :: .long x :: st) := by
  obtain ⟨p, e, s, m, args, below, meth, c, Q, A, H0⟩ := X
  intro H locs ls hP hD hS hl
  exact lv_lmul h.1 h.2.1 hd (kk H locs ls hP hD hS hl)
theorem r_i2l (h : OK X D nL cc own) {x : Int32} (hd : decode cc pc = .ok (.i2l, 1)) (kk : J X l R D nL k n ws lv (pc + 1) (.long x.toInt64 :: st)) : J X l R D nL k n ws lv pc (.int x :: st) := by
  obtain ⟨p, e, s, m, args, below, meth, c, Q, A, H0⟩ := X
  intro H locs ls hP hD hS hl
  exact lv_i2l h.1 h.2.1 hd rfl (kk H locs ls hP hD hS hl)
theorem r_i2d (h : OK X D nL cc own) {x : Int32} (hd : decode cc pc = .ok (.i2d, 1)) (kk : J X l R D nL k n ws lv (pc + 1) (.double (FP.i2d x) :: st)) : J X l R D nL k n ws lv pc (.int x :: st) := by
  obtain ⟨p, e, s, m, args, below, meth, c, Q, A, H0⟩ := X
  intro H locs ls hP hD hS hl
  exact lv_i2d h.1 h.2.1 hd (kk H locs ls hP hD hS hl)
theorem r_ddiv (h : OK X D nL cc own) {x y : UInt64} (hne : vf_n64 (FP.ddiv x y)) (hd : decode cc pc = .ok (.ddiv, 1)) (kk : J X l R D nL k n ws lv (pc + 1) (.double (FP.ddiv x y) :: st)) : J X l R D nL k n ws lv pc (.double y :: .double x :: st) := by
  obtain ⟨p, e, s, m, args, below, meth, c, Q, A, H0⟩ := X
  intro H locs ls hP hD hS hl
  exact lv_ddiv h.1 h.2.1 hd hne (kk H locs ls hP hD hS hl)
theorem r_lcmp (h : OK X D nL cc own) {x y : Int64} (hd : decode cc pc = .ok (.lcmp, 1)) (kk : J X l R D nL k n ws lv (pc + 1) (.int (lg_cmp x y) :: st)) : J X l R D nL k n ws lv pc (.long y :: .long x :: st) := by
  obtain ⟨p, e, s, m, args, below, meth, c, Q, A, H0⟩ := X
  intro H locs ls hP hD hS hl
  exact W.lcmp h.1 h.2.1 hd (kk H locs ls hP hD hS hl)
theorem r_dcmp (h : OK X D nL cc own) {x y : UInt64} {op : CmpOp} (hd : decode cc pc = .ok (.dcmp op, 1)) (kk : J X l R D nL k n ws lv (pc + 1) (.int (Op.cmpValue (FP.dcmp x y) op) :: st)) : J X l R D nL k n ws lv pc (.double y :: .double x :: st) := by
  obtain ⟨p, e, s, m, args, below, meth, c, Q, A, H0⟩ := X
  intro H locs ls hP hD hS hl
  exact lv_dcmp h.1 h.2.1 hd (kk H locs ls hP hD hS hl)
theorem r_goto (h : OK X D nL cc own) {off : Int} (tgt : Nat) (hd : decode cc pc = .ok (.goto off, 3)) (ht : (pc : Int) + off = (tgt : Int)) (kk : J X l R D nL k n ws lv tgt st) : J X l R D nL k n ws lv pc st := by
  obtain ⟨p, e, s, m, args, below, meth, c, Q, A, H0⟩ := X
  intro H locs ls hP hD hS hl
  exact lv_goto h.1 h.2.1 hd ht (kk H locs ls hP hD hS hl)
theorem r_if_eq (h : OK X D nL cc own) {x : Int32} {off : Int} (tgt : Nat) (hd : decode cc pc = .ok (.ifCond .eq off, 3)) (ht : (pc : Int) + off = (tgt : Int)) (kt : x = 0 → J X l R D nL k n ws lv tgt st) (kf : ¬ x = 0 → J X l R D nL k n ws lv (pc + 3) st) : J X l R D nL k n ws lv pc (.int x :: st) := by
  obtain ⟨p, e, s, m, args, below, meth, c, Q, A, H0⟩ := X
  intro H locs ls hP hD hS hl
  exact lv_if_eq h.1 h.2.1 hd ht (fun z => kt z H locs ls hP hD hS hl) (fun z => kf z H locs ls hP hD hS hl)
theorem r_if_ne (h : OK X D nL cc own) {x : Int32} {off : Int} (tgt : Nat) (hd : decode cc pc = .ok (.ifCond .ne off, 3)) (ht : (pc : Int) + off = (tgt : Int)) (kt : ¬ x = 0 → J X l R D nL k n ws lv tgt st) (kf : x = 0 → J X l R D nL k n ws lv (pc + 3) st) : J X l R D nL k n ws lv pc (.int x :: st) := by
  obtain ⟨p, e, s, m, args, below, meth, c, Q, A, H0⟩ := X
  intro H locs ls hP hD hS hl
  exact lv_if_ne h.1 h.2.1 hd ht (fun z => kt z H locs ls hP hD hS hl) (fun z => kf z H locs ls hP hD hS hl)
theorem r_if_lt (h : OK X D nL cc own) {x : Int32} {off : Int} (tgt : Nat) (hd : decode cc pc = .ok (.ifCond .lt off, 3)) (ht : (pc : Int) + off = (tgt : Int)) (kt : x < 0 → J X l R D nL k n ws lv tgt st) (kf : ¬ x < 0 → J X l R D nL k n ws lv (pc + 3) st) : J X l R D nL k n ws lv pc (.int x :: st) := by
  obtain ⟨p, e, s, m, args, below, meth, c, Q, A, H0⟩ := X
  intro H locs ls hP hD hS hl
  exact lv_if_lt h.1 h.2.1 hd ht (fun z => kt z H locs ls hP hD hS hl) (fun z => kf z H locs ls hP hD hS hl)
theorem r_if_ge (h : OK X D nL cc own) {x : Int32} {off : Int} (tgt : Nat) (hd : decode cc pc = .ok (.ifCond .ge off, 3)) (ht : (pc : Int) + off = (tgt : Int)) (kt : 0 ≤ x → J X l R D nL k n ws lv tgt st) (kf : ¬ 0 ≤ x → J X l R D nL k n ws lv (pc + 3) st) : J X l R D nL k n ws lv pc (.int x :: st) := by
  obtain ⟨p, e, s, m, args, below, meth, c, Q, A, H0⟩ := X
  intro H locs ls hP hD hS hl
  exact lv_if_ge h.1 h.2.1 hd ht (fun z => kt z H locs ls hP hD hS hl) (fun z => kf z H locs ls hP hD hS hl)
theorem r_if_le (h : OK X D nL cc own) {x : Int32} {off : Int} (tgt : Nat) (hd : decode cc pc = .ok (.ifCond .le off, 3)) (ht : (pc : Int) + off = (tgt : Int)) (kt : x ≤ 0 → J X l R D nL k n ws lv tgt st) (kf : ¬ x ≤ 0 → J X l R D nL k n ws lv (pc + 3) st) : J X l R D nL k n ws lv pc (.int x :: st) := by
  obtain ⟨p, e, s, m, args, below, meth, c, Q, A, H0⟩ := X
  intro H locs ls hP hD hS hl
  exact lv_if_le h.1 h.2.1 hd ht (fun z => kt z H locs ls hP hD hS hl) (fun z => kf z H locs ls hP hD hS hl)
theorem r_if_gt (h : OK X D nL cc own) {x : Int32} {off : Int} (tgt : Nat) (hd : decode cc pc = .ok (.ifCond .gt off, 3)) (ht : (pc : Int) + off = (tgt : Int)) (kt : 0 < x → J X l R D nL k n ws lv tgt st) (kf : ¬ 0 < x → J X l R D nL k n ws lv (pc + 3) st) : J X l R D nL k n ws lv pc (.int x :: st) := by
  obtain ⟨p, e, s, m, args, below, meth, c, Q, A, H0⟩ := X
  intro H locs ls hP hD hS hl
  exact lv_if_gt h.1 h.2.1 hd ht (fun z => kt z H locs ls hP hD hS hl) (fun z => kf z H locs ls hP hD hS hl)
theorem r_icmp_eq (h : OK X D nL cc own) {x y : Int32} {off : Int} (tgt : Nat) (hd : decode cc pc = .ok (.if_icmp .eq off, 3)) (ht : (pc : Int) + off = (tgt : Int)) (kt : x = y → J X l R D nL k n ws lv tgt st) (kf : ¬ x = y → J X l R D nL k n ws lv (pc + 3) st) : J X l R D nL k n ws lv pc (.int y :: .int x :: st) := by
  obtain ⟨p, e, s, m, args, below, meth, c, Q, A, H0⟩ := X
  intro H locs ls hP hD hS hl
  exact lv_icmp_eq h.1 h.2.1 hd ht (fun z => kt z H locs ls hP hD hS hl) (fun z => kf z H locs ls hP hD hS hl)
theorem r_icmp_ne (h : OK X D nL cc own) {x y : Int32} {off : Int} (tgt : Nat) (hd : decode cc pc = .ok (.if_icmp .ne off, 3)) (ht : (pc : Int) + off = (tgt : Int)) (kt : ¬ x = y → J X l R D nL k n ws lv tgt st) (kf : x = y → J X l R D nL k n ws lv (pc + 3) st) : J X l R D nL k n ws lv pc (.int y :: .int x :: st) := by
  obtain ⟨p, e, s, m, args, below, meth, c, Q, A, H0⟩ := X
  intro H locs ls hP hD hS hl
  exact lv_icmp_ne h.1 h.2.1 hd ht (fun z => kt z H locs ls hP hD hS hl) (fun z => kf z H locs ls hP hD hS hl)
theorem r_icmp_lt (h : OK X D nL cc own) {x y : Int32} {off : Int} (tgt : Nat) (hd : decode cc pc = .ok (.if_icmp .lt off, 3)) (ht : (pc : Int) + off = (tgt : Int)) (kt : x < y → J X l R D nL k n ws lv tgt st) (kf : ¬ x < y → J X l R D nL k n ws lv (pc + 3) st) : J X l R D nL k n ws lv pc (.int y :: .int x :: st) := by
  obtain ⟨p, e, s, m, args, below, meth, c, Q, A, H0⟩ := X
  intro H locs ls hP hD hS hl
  exact lv_icmp_lt h.1 h.2.1 hd ht (fun z => kt z H locs ls hP hD hS hl) (fun z => kf z H locs ls hP hD hS hl)
theorem r_icmp_ge (h : OK X D nL cc own) {x y : Int32} {off : Int} (tgt : Nat) (hd : decode cc pc = .ok (.if_icmp .ge off, 3)) (ht : (pc : Int) + off = (tgt : Int)) (kt : y ≤ x → J X l R D nL k n ws lv tgt st) (kf : ¬ y ≤ x → J X l R D nL k n ws lv (pc + 3) st) : J X l R D nL k n ws lv pc (.int y :: .int x :: st) := by
  obtain ⟨p, e, s, m, args, below, meth, c, Q, A, H0⟩ := X
  intro H locs ls hP hD hS hl
  exact lv_icmp_ge h.1 h.2.1 hd ht (fun z => kt z H locs ls hP hD hS hl) (fun z => kf z H locs ls hP hD hS hl)
theorem r_icmp_gt (h : OK X D nL cc own) {x y : Int32} {off : Int} (tgt : Nat) (hd : decode cc pc = .ok (.if_icmp .gt off, 3)) (ht : (pc : Int) + off = (tgt : Int)) (kt : y < x → J X l R D nL k n ws lv tgt st) (kf : ¬ y < x → J X l R D nL k n ws lv (pc + 3) st) : J X l R D nL k n ws lv pc (.int y :: .int x :: st) := by
  obtain ⟨p, e, s, m, args, below, meth, c, Q, A, H0⟩ := X
  intro H locs ls hP hD hS hl
  exact lv_icmp_gt h.1 h.2.1 hd ht (fun z => kt z H locs ls hP hD hS hl) (fun z => kf z H locs ls hP hD hS hl)
theorem r_icmp_le (h : OK X D nL cc own) {x y : Int32} {off : Int} (tgt : Nat) (hd : decode cc pc = .ok (.if_icmp .le off, 3)) (ht : (pc : Int) + off = (tgt : Int)) (kt : x ≤ y → J X l R D nL k n ws lv tgt st) (kf : ¬ x ≤ y → J X l R D nL k n ws lv (pc + 3) st) : J X l R D nL k n ws lv pc (.int y :: .int x :: st) := by
  obtain ⟨p, e, s, m, args, below, meth, c, Q, A, H0⟩ := X
  intro H locs ls hP hD hS hl
  exact lv_icmp_le h.1 h.2.1 hd ht (fun z => kt z H locs ls hP hD hS hl) (fun z => kf z H locs ls hP hD hS hl)
theorem r_tswIn (h : OK X D nL cc own) {dflt lo hi : Int} {offs : Array Int} {len : Nat} {x : Int32} {off : Int} (v : Int32) (hx : x = v) (tgt : Nat) (hd : decode cc pc = .ok (.tableswitch dflt lo hi offs, len)) (h1 : ¬ v.toInt < lo) (h2 : ¬ hi < v.toInt) (ho : offs[(v.toInt - lo).toNat]? = some off) (ht : (pc : Int) + off = (tgt : Int)) (kk : J X l R D nL k n ws lv tgt st) : J X l R D nL k n ws lv pc (.int x :: st) := by
  subst hx
  obtain ⟨p, e, s, m, args, below, meth, c, Q, A, H0⟩ := X
  intro H locs ls hP hD hS hl
  exact lv_tableIn h.1 h.2.1 hd h1 h2 ho ht (kk H locs ls hP hD hS hl)
theorem r_tswOut (h : OK X D nL cc own) {dflt lo hi : Int} {offs : Array Int} {len : Nat} {x : Int32} (tgt : Nat) (hd : decode cc pc = .ok (.tableswitch dflt lo hi offs, len)) (hx : x.toInt < lo ∨ hi < x.toInt) (ht : (pc : Int) + dflt = (tgt : Int)) (kk : J X l R D nL k n ws lv tgt st) : J X l R D nL k n ws lv pc (.int x :: st) := by
  obtain ⟨p, e, s, m, args, below, meth, c, Q, A, H0⟩ := X
  intro H locs ls hP hD hS hl
  exact lv_tableOut h.1 h.2.1 hd hx ht (kk H locs ls hP hD hS hl)
end JR
/-! fields and arrays -/
def FLk (own : String) (idx ci k : Nat) : Prop := ∃ (C : String) (T : u_T) (N : Nat), vwCl[ci]? = some (C, T, N) ∧ k < N ∧ (∀ w ∈ u_ws C T N, w ∈ lw_g) ∧ Cond.fieldLink own idx (T k).1 (T k).2.1 (T k).2.2.1 ∈ lw_g
def FPk (own : String) (idx ci k : Nat) (ty : FieldType) (fin : Bool) : Prop := ∃ (C : String) (T : u_T) (N : Nat) (tt : Nat → FieldType), vwCl[ci]? = some (C, T, N) ∧ k < N ∧ (∀ w ∈ u_ws C T N, w ∈ lw_g) ∧ Cond.fieldLink own idx (T k).1 (T k).2.1 (T k).2.2.1 ∈ lw_g ∧
  (∀ k, k < N → parseFieldDescriptor (T k).2.2.1 = some (tt k)) ∧ (∀ a, a < N → ∀ b, b < N → a ≠ b → (T a).2.1 ≠ (T b).2.1) ∧ (T k).2.2.2 = fin ∧ parseFieldDescriptor (T k).2.2.1 = some ty ∧ (T k).1 = C
section JF
variable {X : Cx} {l : Launch} {R : Room} {D : va_G} {nL k n : Nat} {cc : ByteArray} {own : String} {ws ws' : va_W} {lv lv' : List (Nat × Value)} {pc : Nat} {st : List Value}
theorem r_get (h : OK X D nL cc own) {idx ci j : Nat} (fl : FLk own idx ci j) (q0 : Nat) {a : Nat} {fs : List Value} {v : Value} (he : ws[q0]? = some (a, .inr (ci, fs))) (hv : fs[j]? = some v) (hd : decode cc pc = .ok (.getfield idx, 3)) (kk : J X l R D nL k n ws lv (pc + 3) (v :: st)) : J X l R D nL k n ws lv pc (.ref a :: st) := by
  obtain ⟨p, e, s, m, args, below, meth, c, Q, A, H0⟩ := X
  obtain ⟨hx, hb, hml, hown, hts, hK, hlk, hA⟩ := h
  obtain ⟨C, T, N, hc, hj, hin, hw⟩ := fl
  intro H locs ls hP hD hS hl
  exact va_get hx hb hts hin hown hK hP q0 he hc j hj (hts _ hw) (fun _ h9 => h9) hv hd (kk H locs ls hP hD hS hl)
theorem r_put (h : OK X D nL cc own) {idx ci j : Nat} {ty : FieldType} (fp : FPk own idx ci j ty false) (q0 : Nat) {a : Nat} {fs : List Value} {v : Value} (he : ws[q0]? = some (a, .inr (ci, fs))) (hl0 : j < fs.length) (hn : narrow ty v = v) (hfit : fits ty v = true) (hw' : ws.set q0 (a, .inr (ci, fs.set j v)) = ws') (hd : decode cc pc = .ok (.putfield idx, 3)) (kk : J X l R D nL k n ws' lv (pc + 3) st) : J X l R D nL k n ws lv pc (v :: .ref a :: st) := by
  obtain ⟨p, e, s, m, args, below, meth, c, Q, A, H0⟩ := X
  obtain ⟨hx, hb, hml, hown, hts, hK, hlk, hA⟩ := h
  obtain ⟨C, T, N, tt, hc, hj, hin, hw, htt, hnm, hfin, hty, -⟩ := fp
  subst hw'
  intro H locs ls hP hD hS hl
  exact va_put hx hb hts hin tt htt hnm hown hK hP hD hS q0 he hc j hj (hts _ hw) (fun _ h9 => h9) hfin hty hn hfit hl0 hd (fun H1 locs1 hP1 hD1 hS1 => kk H1 locs1 ls hP1 hD1 hS1 hl)
theorem r_iald (h : OK X D nL cc own) (q0 : Nat) {a m : Nat} {f : Nat → Int32} {i : Int32} (ha : ws[q0]? = some (a, .inl (D.1 100, m, .inl f))) (hin : vp_in i m) (hd : decode cc pc = .ok (.iaload, 1)) (kk : J X l R D nL k n ws lv (pc + 1) (.int (f i.toNatClampNeg) :: st)) : J X l R D nL k n ws lv pc (.int i :: .ref a :: st) := by
  obtain ⟨p, e, s, m, args, below, meth, c, Q, A, H0⟩ := X
  obtain ⟨hx, hb, hml, hown, hts, hK, hlk, hA⟩ := h
  intro H locs ls hP hD hS hl
  exact va_iald hx hb hK hP q0 0 ha rfl hin hd (kk H locs ls hP hD hS hl)
theorem r_iast (h : OK X D nL cc own) (q0 : Nat) {a m : Nat} {f : Nat → Int32} {i x : Int32} (ha : ws[q0]? = some (a, .inl (D.1 100, m, .inl f))) (hin : vp_in i m) (hw' : ws.set q0 (a, .inl (D.1 100, m, .inl (upd f i.toNatClampNeg x))) = ws') (hd : decode cc pc = .ok (.iastore, 1)) (kk : J X l R D nL k n ws' lv (pc + 1) st) : J X l R D nL k n ws lv pc (.int x :: .int i :: .ref a :: st) := by
  obtain ⟨p, e, s, m, args, below, meth, c, Q, A, H0⟩ := X
  obtain ⟨hx, hb, hml, hown, hts, hK, hlk, hA⟩ := h
  subst hw'
  intro H locs ls hP hD hS hl
  exact va_iast hx hb hK hP hD hS q0 0 ha rfl hin hd (fun H1 locs1 hP1 hD1 hS1 => kk H1 locs1 ls hP1 hD1 hS1 hl)
theorem r_lald (h : OK X D nL cc own) (q0 : Nat) {a m : Nat} {f : Nat → Int64} {i : Int32} (ha : ws[q0]? = some (a, .inl (D.1 102, m, .inr (.inl f)))) (hin : vp_in i m) (hd : decode cc pc = .ok (.laload, 1)) (kk : J X l R D nL k n ws lv (pc + 1) (.long (f i.toNatClampNeg) :: st)) : J X l R D nL k n ws lv pc (.int i :: .ref a :: st) := by
  obtain ⟨p, e, s, m, args, below, meth, c, Q, A, H0⟩ := X
  obtain ⟨hx, hb, hml, hown, hts, hK, hlk, hA⟩ := h
  intro H locs ls hP hD hS hl
  exact va_lald hx hb hK hP q0 2 ha rfl hin hd (kk H locs ls hP hD hS hl)
theorem r_last (h : OK X D nL cc own) (q0 : Nat) {a m : Nat} {f : Nat → Int64} {i : Int32} {x : Int64} (ha : ws[q0]? = some (a, .inl (D.1 102, m, .inr (.inl f)))) (hin : vp_in i m) (hw' : ws.set q0 (a, .inl (D.1 102, m, .inr (.inl (vp_updL f i.toNatClampNeg x)))) = ws') (hd : decode cc pc = .ok (.lastore, 1)) (kk : J X l R D nL k n ws' lv (pc + 1) st) : J X l R D nL k n ws lv pc (.long x :: .int i :: .ref a :: st) := by
  obtain ⟨p, e, s, m, args, below, meth, c, Q, A, H0⟩ := X
  obtain ⟨hx, hb, hml, hown, hts, hK, hlk, hA⟩ := h
  subst hw'
  intro H locs ls hP hD hS hl
  exact va_last hx hb hK hP hD hS q0 2 ha rfl hin hd (fun H1 locs1 hP1 hD1 hS1 => kk H1 locs1 ls hP1 hD1 hS1 hl)
theorem r_aldq (h : OK X D nL cc own) (q0 : Nat) {a m b : Nat} {f : Nat → Option Nat} {i : Int32} (ha : ws[q0]? = some (a, .inl (D.1 101, m, .inr (.inr (.inr (.inr f)))))) (hin : vp_in i m) (hf : f i.toNatClampNeg = some b) (hd : decode cc pc = .ok (.aaload, 1)) (kk : J X l R D nL k n ws lv (pc + 1) (.ref b :: st)) : J X l R D nL k n ws lv pc (.int i :: .ref a :: st) := by
  obtain ⟨p, e, s, m, args, below, meth, c, Q, A, H0⟩ := X
  obtain ⟨hx, hb, hml, hown, hts, hK, hlk, hA⟩ := h
  intro H locs ls hP hD hS hl
  exact va_aldq hx hb hK hP q0 1 ha rfl hin hd (by rw [hf]; exact kk H locs ls hP hD hS hl)
theorem r_astq (h : OK X D nL cc own) (q0 qk : Nat) {a m v : Nat} {vs : List Value} {f : Nat → Option Nat} {i : Int32} (ha : ws[q0]? = some (a, .inl (D.1 101, m, .inr (.inr (.inr (.inr f)))))) (hv : ws[qk]? = some (v, .inr (1, vs))) (hin : vp_in i m) (hw' : ws.set q0 (a, .inl (D.1 101, m, .inr (.inr (.inr (.inr (va_up f i.toNatClampNeg (some v))))))) = ws') (hd : decode cc pc = .ok (.aastore, 1)) (kk : J X l R D nL k n ws' lv (pc + 1) st) : J X l R D nL k n ws lv pc (.ref v :: .int i :: .ref a :: st) := by
  obtain ⟨p, e, s, m, args, below, meth, c, Q, A, H0⟩ := X
  obtain ⟨hx, hb, hml, hown, hts, hK, hlk, hA⟩ := h
  subst hw'
  intro H locs ls hP hD hS hl
  exact va_astq (r := (RX1, TX1, 10)) hx hb hK hP hD hS q0 1 qk 1 ha rfl hv rfl hin hd (fun H1 locs1 hP1 hD1 hS1 => kk H1 locs1 ls hP1 hD1 hS1 hl)
theorem r_alen (h : OK X D nL cc own) (q0 : Nat) {a m : Nat} {f : Nat → Int32} {v : Int32} (ha : ws[q0]? = some (a, .inl (D.1 100, m, .inl f))) (hv : Int32.ofNat m = v) (hd : decode cc pc = .ok (.arraylength, 1)) (kk : J X l R D nL k n ws lv (pc + 1) (.int v :: st)) : J X l R D nL k n ws lv pc (.ref a :: st) := by
  obtain ⟨p, e, s, m, args, below, meth, c, Q, A, H0⟩ := X
  obtain ⟨hx, hb, hml, hown, hts, hK, hlk, hA⟩ := h
  intro H locs ls hP hD hS hl
  exact va_alen hx hb hK hP q0 0 ha rfl hv hd (kk H locs ls hP hD hS hl)
theorem r_copyi (h : OK X D nL cc own) (q0 q1 : Nat) {a0 a m0 m1 : Nat} {f g : Nat → Int32} {idx : Nat} {sp dp z : Int32} (wl : Cond.methodLink own idx arraycopyName ∈ lw_g) (wn : Cond.native arraycopyName ∈ lw_g) (wst : Cond.static arraycopyName ∈ lw_g) (wi : Cond.initialized "java/lang/System" ∈ lw_g)
    (ha0 : ws[q0]? = some (a0, .inl (D.1 100, m0, .inl f))) (ha1 : ws[q1]? = some (a, .inl (D.1 100, m1, .inl g))) (h1 : ¬ sp < 0) (h2 : ¬ dp < 0) (h3 : ¬ z < 0) (h4 : sp.toNatClampNeg + z.toNatClampNeg ≤ m0) (h5 : dp.toNatClampNeg + z.toNatClampNeg ≤ m1)
    (hfr : 1 ≤ R.frames) (hlo : (st.map fun v => v.category).sum + (nativeFrameWords "java/lang/System" "arraycopy" 5 + 11) ≤ R.locals) (hw' : ws.set q1 (a, .inl (D.1 100, m1, .inl (va_cpy f g sp.toNatClampNeg dp.toNatClampNeg z.toNatClampNeg))) = ws') (hd : decode cc pc = .ok (.invokestatic idx, 3))
    (kk : J X l R D nL k n ws' lv (pc + 3) st) : J X l R D nL k n ws lv pc (.int z :: .int dp :: .ref a :: .int sp :: .ref a0 :: st) := by
  obtain ⟨p, e, s, m, args, below, meth, c, Q, A, H0⟩ := X
  obtain ⟨hx, hb, hml, hown, hts, hK, hlk, hA⟩ := h
  subst hw'
  intro H locs ls hP hD hS hl
  exact va_copyi hx hb (hml.trans hl.1.symm) hown (hts _ wl) (hts _ wn) (hts _ wst) (hts _ wi) hK hP hD hS q0 q1 0 0 ha0 ha1 rfl rfl rfl h1 h2 h3 h4 h5 (fun _ _ => rfl) hfr hlo hd (fun H1 locs1 hP1 hD1 hS1 => kk H1 locs1 ls hP1 hD1 hS1 hl)
theorem r_max (h : OK X D nL cc own) {x y : Int32} {idx : Nat} (wl : Cond.methodLink own idx Lib.Math.max.name ∈ lw_g) (wst : Cond.static Lib.Math.max.name ∈ lw_g) (wi : Cond.initialized "java/lang/Math" ∈ lw_g) (wc : Cond.code Lib.Math.max.name Lib.Math.max.code 2 (some .int) ∈ lw_g) (hfr : 1 ≤ R.frames) (hlo : (st.map fun v => v.category).sum + 13 ≤ R.locals) (hc : k ≤ R.cells) (hs : n ≤ R.slots) (hd : decode cc pc = .ok (.invokestatic idx, 3)) (kk : J X l R D nL k n ws lv (pc + 3) (.int (if x < y then y else x) :: st)) : J X l R D nL k n ws lv pc (.int y :: .int x :: st) := by
  obtain ⟨p, e, s, m, args, below, meth, c, Q, A, H0⟩ := X
  obtain ⟨hx, hb, hml, hown, hts, hK, hlk, hA⟩ := h
  intro H locs ls hP hD hS hl
  exact va_mmax hx hb (hml.trans hl.1.symm) hown (hts _ wl) (hts _ wst) (hts _ wi) (hts _ wc) hfr hlo hc hs hd (kk H locs ls hP hD hS hl)
theorem r_min (h : OK X D nL cc own) {x y : Int32} {idx : Nat} (wl : Cond.methodLink own idx Lib.Math.min.name ∈ lw_g) (wst : Cond.static Lib.Math.min.name ∈ lw_g) (wi : Cond.initialized "java/lang/Math" ∈ lw_g) (wc : Cond.code Lib.Math.min.name Lib.Math.min.code 2 (some .int) ∈ lw_g) (hfr : 1 ≤ R.frames) (hlo : (st.map fun v => v.category).sum + 13 ≤ R.locals) (hc : k ≤ R.cells) (hs : n ≤ R.slots) (hd : decode cc pc = .ok (.invokestatic idx, 3)) (kk : J X l R D nL k n ws lv (pc + 3) (.int (if y < x then y else x) :: st)) : J X l R D nL k n ws lv pc (.int y :: .int x :: st) := by
  obtain ⟨p, e, s, m, args, below, meth, c, Q, A, H0⟩ := X
  obtain ⟨hx, hb, hml, hown, hts, hK, hlk, hA⟩ := h
  intro H locs ls hP hD hS hl
  exact va_mmin hx hb (hml.trans hl.1.symm) hown (hts _ wl) (hts _ wst) (hts _ wi) (hts _ wc) hfr hlo hc hs hd (kk H locs ls hP hD hS hl)
theorem r_abs (h : OK X D nL cc own) {x : Int32} {idx : Nat} (wl : Cond.methodLink own idx Lib.Math.abs.name ∈ lw_g) (wst : Cond.static Lib.Math.abs.name ∈ lw_g) (wi : Cond.initialized "java/lang/Math" ∈ lw_g) (wc : Cond.code Lib.Math.abs.name Lib.Math.abs.code 1 (some .int) ∈ lw_g) (hfr : 1 ≤ R.frames) (hlo : (st.map fun v => v.category).sum + 13 ≤ R.locals) (hc : k ≤ R.cells) (hs : n ≤ R.slots) (hd : decode cc pc = .ok (.invokestatic idx, 3)) (kk : J X l R D nL k n ws lv (pc + 3) (.int (if 0 ≤ x then x else 0 - x) :: st)) : J X l R D nL k n ws lv pc (.int x :: st) := by
  obtain ⟨p, e, s, m, args, below, meth, c, Q, A, H0⟩ := X
  obtain ⟨hx, hb, hml, hown, hts, hK, hlk, hA⟩ := h
  intro H locs ls hP hD hS hl
  exact va_mabs hx hb (hml.trans hl.1.symm) hown (hts _ wl) (hts _ wst) (hts _ wi) (hts _ wc) hfr hlo hc hs hd (kk H locs ls hP hD hS hl)
end JF
/-! ends -/
section JE
variable {X : Cx} {l : Launch} {R : Room} {D : va_G} {nL k n : Nat} {cc : ByteArray} {own : String} {ws : va_W} {lv : List (Nat × Value)} {pc : Nat} {Post : Option Value → va_W → Prop}
theorem r_iret (h : OK X D nL cc own) {v : Int32} (hr : RT X D (some .int) k n Post) (hd : decode cc pc = .ok (.ireturn, 1)) (hp : Post (some (.int v)) ws) : J X l R D nL k n ws lv pc [.int v] := by
  obtain ⟨p, e, s, m, args, below, meth, c, Q, A, H0⟩ := X
  obtain ⟨hr, rfl, rfl⟩ := hr
  obtain ⟨hx, hb, hml, hown, hts, hK, hlk, hA⟩ := h
  intro H locs ls hP hD hS hl
  exact W.iret hx hb hr (fun t ht hW => ⟨⟨_, ws, rfl, hp, by rw [ht]; exact hP, hD⟩, hS.F ht⟩) hS.2.2 hd hlk
theorem r_zret (h : OK X D nL cc own) {v : Int32} (hr : RT X D (some .boolean) k n Post) (hv : v = 0 ∨ v = 1) (hd : decode cc pc = .ok (.ireturn, 1)) (hp : Post (some (.int v)) ws) : J X l R D nL k n ws lv pc [.int v] := by
  obtain ⟨p, e, s, m, args, below, meth, c, Q, A, H0⟩ := X
  obtain ⟨hr, rfl, rfl⟩ := hr
  obtain ⟨hx, hb, hml, hown, hts, hK, hlk, hA⟩ := h
  intro H locs ls hP hD hS hl
  exact W.zret hx hb hr (by rcases hv with rfl | rfl <;> rfl) (fun t ht hW => ⟨⟨_, ws, rfl, hp, by rw [ht]; exact hP, hD⟩, hS.F ht⟩) hS.2.2 hd hlk
theorem r_vret (h : OK X D nL cc own) (hr : RT X D none k n Post) (hd : decode cc pc = .ok (.return_, 1)) (hp : Post none ws) : J X l R D nL k n ws lv pc [] := by
  obtain ⟨p, e, s, m, args, below, meth, c, Q, A, H0⟩ := X
  obtain ⟨hr, rfl, rfl⟩ := hr
  obtain ⟨hx, hb, hml, hown, hts, hK, hlk, hA⟩ := h
  intro H locs ls hP hD hS hl
  exact W.vret hx hb hr (fun t ht hW => ⟨⟨_, ws, rfl, hp, by rw [ht]; exact hP, hD⟩, hS.F ht⟩) hS.2.2 hd hlk
theorem r_lret (h : OK X D nL cc own) {v : Int64} (hr : RT X D (some .long) k n Post) (hd : decode cc pc = .ok (.lreturn, 1)) (hp : Post (some (.long v)) ws) : J X l R D nL k n ws lv pc [.long v] := by
  obtain ⟨p, e, s, m, args, below, meth, c, Q, A, H0⟩ := X
  obtain ⟨hr, rfl, rfl⟩ := hr
  obtain ⟨hx, hb, hml, hown, hts, hK, hlk, hA⟩ := h
  intro H locs ls hP hD hS hl
  exact W.lret hx hb hr (fun t ht hW => ⟨⟨_, ws, rfl, hp, by rw [ht]; exact hP, hD⟩, hS.F ht⟩) hS.2.2 hd hlk
theorem r_dret (h : OK X D nL cc own) {v : UInt64} (hr : RT X D (some .double) k n Post) (hd : decode cc pc = .ok (.dreturn, 1)) (hp : Post (some (.double v)) ws) : J X l R D nL k n ws lv pc [.double v] := by
  obtain ⟨p, e, s, m, args, below, meth, c, Q, A, H0⟩ := X
  obtain ⟨hr, rfl, rfl⟩ := hr
  obtain ⟨hx, hb, hml, hown, hts, hK, hlk, hA⟩ := h
  intro H locs ls hP hD hS hl
  exact W.dret hx hb hr (fun t ht hW => ⟨⟨_, ws, rfl, hp, by rw [ht]; exact hP, hD⟩, hS.F ht⟩) hS.2.2 hd hlk
end JE
/-! calls -/
def HdV (y : MethodName) (C : String) (b : ByteArray) (m : Nat) (ret : Option FieldType) (np : Nat) : Prop :=
  Cond.instanceMethod y ∈ lw_g ∧ Cond.selects C y y ∈ lw_g ∧ Cond.initialized C ∈ lw_g ∧ Cond.code y b m ret ∈ lw_g ∧ (y.cls = C ∧ y.cls ≠ "java/lang/invoke/MethodHandle" ∧ y.cls ≠ "java/lang/invoke/VarHandle" ∧ (parseMethodDescriptor y.desc).map (fun d => d.parameters.length) = some np)
def HdS (y : MethodName) (C : String) (b : ByteArray) (m : Nat) (ret : Option FieldType) (np : Nat) : Prop :=
  Cond.static y ∈ lw_g ∧ Cond.initialized C ∈ lw_g ∧ Cond.code y b m ret ∈ lw_g ∧ (y.cls = C ∧ y.cls ≠ "java/lang/invoke/MethodHandle" ∧ y.cls ≠ "java/lang/invoke/VarHandle" ∧ (parseMethodDescriptor y.desc).map (fun d => d.parameters.length) = some np)
section JC
variable {X : Cx} {l : Launch} {R : Room} {D : va_G} {nL k n : Nat} {cc : ByteArray} {own : String} {ws ws0 wr : va_W} {lv : List (Nat × Value)} {pc : Nat} {st rest As : List Value} {Post : Option Value → va_W → Prop}
variable {y : MethodName} {C : String} {b : ByteArray} {m0 np idx mc ms : Nat} {ret : Option FieldType} {rm : Room}
/-- behind a call that has run: the caller's other cells, and the callee's -/
theorem r_behind {p : Program} {e : Env} {s : State} {m : MethodId} {args : Array Value} {below : List Frame} {meth : Method} {c : Code} {Q : State → Prop} {A : Nat → Prop} {H0 H : Heap} {locs : List Loc} {ls : Array Slot} {av : Array Value} (isC isR : List Nat) (hC : isC.map (fun i => ws[i]?) = ws0.map some) (hR : isR.map (fun i => ws[i]?) = wr.map some) (hn : va_nd isR = true) (hdis : ∀ i ∈ isR, i ∉ isC)
    (hA : ∀ q, H0.size ≤ q → A q) (hP : va_P D vwCl ws H) (hD : va_D A ws) (hS : va_S A H0 H locs) (hl : lv_has ls nL lv)
    (hrun : va_Run p l e R s m args below meth c H locs k n mc ms (F0 m pc ls st) rest (CtQ D (va_A ws0 H.size) Post av) (va_A ws0 H.size))
    (kk : ∀ (v : Option Value) (w' : va_W), Post v w' → J (p, e, s, m, args, below, meth, c, Q, A, H0) l R D nL (k + mc) (n + ms) (wr ++ w') lv (pc + 3) (v.toList ++ rest)) : W p l e R s m args below meth c H locs k n Q (F0 m pc ls st) := by
  intro T hT XX
  have hF : ∀ q, va_A ws0 H.size q → A q := va_free hD hS hA isC hC
  obtain ⟨v, st₀, t, T', L, h0, X', hL, e1, e2, ⟨⟨v', w', hv, hp, hP1, hD1⟩, hz, hk⟩, stp⟩ := hrun T hT XX
  cases hv
  rw [h0] at hz hk
  rw [← e1] at hz hP1
  have hk' : ∀ q : Nat, q < H.size → ¬ va_A ws0 H.size q → T'.heap[q]? = H[q]? := fun q h1 h2 => by rw [e1]; exact hk q h1 h2
  obtain ⟨hPj, hDj⟩ := va_join hP hD isC isR hC hR hn hdis hk' hF hP1 hD1
  have hS' : va_S A H0 T'.heap (locs ++ L) := ⟨Nat.le_trans hS.1 hz, fun q h1 h2 => by
      rw [hk' q (Nat.lt_of_lt_of_le h1 hS.1) (fun z => h2 (hF q z))]; exact hS.2.1 q h1 h2, fun q hq => by
      rcases List.mem_append.mp hq with h | h
      · exact hS.2.2 q h
      · exact hF _ (hL q h)⟩
  obtain ⟨t2, a1, b1⟩ := kk v w' hp T'.heap (locs ++ L) ls hPj hDj hS' hl T' rfl X'
  exact ⟨t2, stp t2 a1, b1⟩
theorem lg_pre {s : State} {H : Heap} {A : Nat → Prop} {avs : List Value} (hK : va_K D vwCl (tyG D) s) (hP : va_P D vwCl ws0 H) (hD : va_D A ws0) : ∀ U : State, U.heap = H → s.WarmedH U.vm → va_Pc avs (CtPre D ws0 H.size) avs.toArray U := fun U hU hW => ⟨rfl, by rw [hU], by rw [hU]; exact hP, va_K.moved hW.alike hK, hD.weaken (fun _ _ _ _ => trivial)⟩
theorem lg_subP {H : Heap} (is : List Nat) (hs : is.map (fun i => ws[i]?) = ws0.map some) (hP : va_P D vwCl ws H) : va_P D vwCl ws0 H := by
  intro a q ha
  have h1 : (is.map (fun i => ws[i]?))[a]? = some (some q) := by rw [hs, List.getElem?_map, ha]; rfl
  rw [List.getElem?_map] at h1
  cases hi : is[a]? with
  | none => rw [hi] at h1; cases h1
  | some i => rw [hi] at h1; exact hP i q (Option.some.inj h1)
theorem r_callV (h : OK X D nL cc own) {a ci q0 : Nat} {T : u_T} {N : Nat} {fs : List Value} (hd0 : HdV y C b m0 ret np) (wl : Cond.methodLink own idx y ∈ lw_g) (hd : decode cc pc = .ok (.invokevirtual idx, 3)) (hc : Ct l D y b m0 ret rm mc ms (.ref a :: As) ws0 Post)
    (isC isR : List Nat) (hC : isC.map (fun i => ws[i]?) = ws0.map some) (hR : isR.map (fun i => ws[i]?) = wr.map some) (hn : (va_nd isC && va_nd isR && isR.all (fun i => !isC.contains i)) = true)
    (hci : vwCl[ci]? = some (C, T, N)) (he : ws0[q0]? = some (a, .inr (ci, fs))) (hnp : As.length = np) (hrc : rm.cells = mc ∧ rm.slots = ms) (hRm : rm.frames + 1 ≤ R.frames ∧ 8 + (m0 + 11) + rm.locals ≤ R.locals) (hst : (rest.map fun v => v.category).sum ≤ 8) (hf : k + mc ≤ R.cells ∧ n + ms ≤ R.slots) (hstk : st = As.reverse ++ .ref a :: rest)
    (kk : ∀ (v : Option Value) (w' : va_W), Post v w' → J X l R D nL (k + mc) (n + ms) (wr ++ w') lv (pc + 3) (v.toList ++ rest)) : J X l R D nL k n ws lv pc st := by
  obtain ⟨p, e, s, m, args, below, meth, c, Q, A, H0⟩ := X
  obtain ⟨hx, hb, hml, hown, hts, hK, hlk, hA⟩ := h
  obtain ⟨w1, w2, w3, w4, hy⟩ := hd0
  simp only [Bool.and_eq_true] at hn
  obtain ⟨⟨hn1, hn2⟩, hn3⟩ := hn
  intro H locs ls hP hD hS hl
  have hPc := lg_subP isC hC hP
  have hDc := hD.sub isC hn1 hC
  refine r_behind isC isR hC hR hn2 (fun i hi hi2 => ?_) hA hP hD hS hl (va_runV (As := As) (rest := rest) ⟨hx, hb, hml, hown, hts⟩ (hc H.size) (cwV np hts (lg_in (fun w hw => hw) ?_) rfl hrc.1 hrc.2 hy hRm) ⟨Ct_blind, va_recv hK hPc hci he, lg_pre hK hPc hDc⟩ rfl hnp hl.1 hstk (lv_room hst) hd hf) kk
  · have := List.all_eq_true.mp hn3 i hi
    simp [hi2] at this
  · intro w hw
    unfold wsV at hw
    rcases List.mem_append.mp hw with hw | hw
    · simp only [List.mem_cons, List.not_mem_nil, or_false] at hw
      rcases hw with rfl | rfl | rfl | rfl
      · exact wl
      · exact w1
      · exact w2
      · exact w3
    · exact lg_cons w4 w hw
theorem r_callS (h : OK X D nL cc own) (hd0 : HdS y own b m0 ret np) (wl : Cond.methodLink own idx y ∈ lw_g) (hd : decode cc pc = .ok (.invokestatic idx, 3)) (hc : Ct l D y b m0 ret rm mc ms As ws0 Post)
    (isC isR : List Nat) (hC : isC.map (fun i => ws[i]?) = ws0.map some) (hR : isR.map (fun i => ws[i]?) = wr.map some) (hn : (va_nd isC && va_nd isR && isR.all (fun i => !isC.contains i)) = true)
    (hnp : As.length = np) (hrc : rm.cells = mc ∧ rm.slots = ms) (hRm : rm.frames + 1 ≤ R.frames ∧ 8 + (m0 + 11) + rm.locals ≤ R.locals) (hst : (rest.map fun v => v.category).sum ≤ 8) (hf : k + mc ≤ R.cells ∧ n + ms ≤ R.slots) (hstk : st = As.reverse ++ rest)
    (kk : ∀ (v : Option Value) (w' : va_W), Post v w' → J X l R D nL (k + mc) (n + ms) (wr ++ w') lv (pc + 3) (v.toList ++ rest)) : J X l R D nL k n ws lv pc st := by
  obtain ⟨p, e, s, m, args, below, meth, c, Q, A, H0⟩ := X
  obtain ⟨hx, hb, hml, hown, hts, hK, hlk, hA⟩ := h
  obtain ⟨w1, w3, w4, hy⟩ := hd0
  simp only [Bool.and_eq_true] at hn
  obtain ⟨⟨hn1, hn2⟩, hn3⟩ := hn
  intro H locs ls hP hD hS hl
  have hPc := lg_subP isC hC hP
  have hDc := hD.sub isC hn1 hC
  refine r_behind isC isR hC hR hn2 (fun i hi hi2 => ?_) hA hP hD hS hl (va_runS (As := As) (rest := rest) ⟨hx, hb, hml, hown, hts⟩ (hc H.size) (cwS np hts (lg_in (fun w hw => hw) ?_) rfl hrc.1 hrc.2 hy hRm) ⟨Ct_blind, lg_pre hK hPc hDc⟩ rfl hnp hl.1 hstk (lv_room hst) hd hf) kk
  · have := List.all_eq_true.mp hn3 i hi
    simp [hi2] at this
  · intro w hw
    unfold wsS at hw
    rcases List.mem_append.mp hw with hw | hw
    · simp only [List.mem_cons, List.not_mem_nil, or_false] at hw
      rcases hw with rfl | rfl | rfl
      · exact wl
      · exact w1
      · exact w3
    · exact lg_cons w4 w hw
end JC
/-! what a pure function answered -/
theorem o_bind {α β : Type} {x : Option α} {f : α → Option β} {r : β} (h : x.bind f = some r) : ∃ v, x = some v ∧ f v = some r := by
  cases x with
  | none => cases h
  | some v => exact ⟨v, rfl, h⟩
def gd {α : Type} (c : Prop) [Decidable c] (x : Option α) : Option α := if c then x else none
theorem o_gd {α : Type} {c : Prop} [Decidable c] {x : Option α} {r : α} (h : gd c x = some r) : c ∧ x = some r := by
  unfold gd at h
  by_cases hc : c
  · rw [if_pos hc] at h; exact ⟨hc, h⟩
  · rw [if_neg hc] at h; cases h
theorem o_pos {α : Type} {c : Prop} [Decidable c] {x y : Option α} {r : α} (hc : c) (h : (if c then x else y) = some r) : x = some r := by rw [if_pos hc] at h; exact h
theorem o_neg {α : Type} {c : Prop} [Decidable c] {x y : Option α} {r : α} (hc : ¬ c) (h : (if c then x else y) = some r) : y = some r := by rw [if_neg hc] at h; exact h
def FU : Nat := 1000

/-! exceptions: a method that answers is one contract (Ct), a method that throws another (CtT): its pure function says which -/
def exn : Nat → String
  | 1 => "java/lang/IndexOutOfBoundsException"
  | 2 => "java/lang/IllegalArgumentException"
  | _ => "java/lang/IllegalStateException"
def strs : List (Nat × String) := [(110, "no such freeze"), (118, "the hour would be too great"), (147, "no such slot"), (198, "a negative index"), (215, "the text is full"), (227, "no saved state"), (261, "no such machine"), (263, "no such cable"), (265, "no such rack"), (267, "no such tray"), (269, "an argument is out of range"), (275, "there are as many as there may be"), (84, "a cable joins two different machines")]
def dcls : List MethodName := [⟨"java/lang/RuntimeException", "<init>", "(Ljava/lang/String;)V"⟩, ⟨"java/lang/Exception", "<init>", "(Ljava/lang/String;)V"⟩, ⟨"java/lang/Throwable", "<init>", "(Ljava/lang/String;)V"⟩]
/-- what the start gives of exceptions -/
def XW (A : Nat → Prop) (U : State) : Prop := vx_Zq Bundle.tN "UNASSIGNED_STACK" Bundle.steD A U U.heap ∧ vx_Zq Bundle.tN "SUPPRESSED_SENTINEL" Bundle.listD A U U.heap ∧ (∀ q : Nat × String, q ∈ strs → ∃ a : Nat, vk_R RX3 q.1 q.2 a U) ∧ (∀ i : Nat, i < 4 → va_Nw (.castable (exn i) (exn i)) U) ∧
  va_Nc (exn 2) (exn 1) U ∧ va_Nc (exn 3) (exn 1) U ∧ va_Nc (exn 1) (exn 2) U ∧ va_Nc (exn 3) (exn 2) U ∧ va_Nw (.methodLinkNest RX3 29 yX0_init "RackMoves") U ∧ ∀ x : MethodName, x ∈ dcls → va_Nw (.declares x) U
theorem XW.to {A B : Nat → Prop} {s U : State} {H : Heap} {locs : List Loc} (h : XW A s) (hS : va_S A s.heap H locs) (hU : U.heap = H) (hW : s.WarmedH U.vm) (hAB : ∀ q, B q → A q) : XW B U := by
  obtain ⟨h1, h2, h3, h4, h5, h6, h7, h8, h9, h10⟩ := h
  refine ⟨?_, ?_, fun q hq => ?_, fun i hi => (h4 i hi).warmC hW, h5.moved hW.alike, h6.moved hW.alike, h7.moved hW.alike, h8.moved hW.alike, h9.warmM hW, fun x hx => (h10 x hx).warmD hW⟩
  · rw [hU]; exact ((h1.kept hS.2.1).moved hW.alike).narrow hAB
  · rw [hU]; exact ((h2.kept hS.2.1).moved hW.alike).narrow hAB
  · obtain ⟨a, ha⟩ := h3 q hq
    exact ⟨a, vk_R.warm hW ha⟩
theorem XW.call {A : Nat → Prop} {U : State} (h : XW A U) (g : JFrame) (mk : MethodId) (a : Array Value) : XW A (U.calling g mk a) := by
  obtain ⟨h1, h2, h3, h4, h5, h6, h7, h8, h9, h10⟩ := h
  have hal : U.vm.Alike (U.calling g mk a).vm := Vm.Alike.refl U.vm
  refine ⟨h1.moved hal, h2.moved hal, fun q hq => ?_, fun i hi => (h4 i hi).same rfl rfl, h5.moved hal, h6.moved hal, h7.moved hal, h8.moved hal, h9.same rfl rfl, fun x hx => (h10 x hx).same rfl rfl⟩
  obtain ⟨y, hy⟩ := h3 q hq
  exact ⟨y, vk_R.same (u := U) (U := U.calling g mk a) rfl hy⟩
def XK (X : Cx) : Prop :=
  match X with
  | (_, _, s, _, _, _, _, c, _, A, H0) => H0 = s.heap ∧ XW A s ∧ ∀ x ∈ c.exceptionTable.toList, False
def CtTQ (D : va_G) (ws : va_W) (A : Nat → Prop) (E : String) : String → State → State → Prop := vx_X (fun _ : Unit => True) (fun E' _ t => E' = E ∧ va_P D vwCl ws t.heap) A
def RTT (X : Cx) (D : va_G) (mc ms : Nat) (ws : va_W) (E : String) : Prop :=
  match X with
  | (_, _, s, _, args, below, _, _, Q, A, _) => Q = vx_MQ below (fun _ _ _ _ => False) (CtTQ D ws A E) args s mc ms A
/-- a method that throws E, its cells as they were -/
def CtT (l : Launch) (D : va_G) (y : MethodName) (b : ByteArray) (n : Nat) (ret : Option FieldType) (rm : Room) (mc ms : Nat) (avs : List Value) (ws : va_W) (E : String) : Prop :=
  ∀ sz : Nat, vx_Met l y (Cond.code y b n ret :: lw_g) rm (va_Pc avs (fun U => CtPre D ws sz U ∧ XW (va_A ws sz) U)) (fun _ _ _ _ => False) (CtTQ D ws (va_A ws sz) E) mc ms (va_A ws sz)
theorem CtT_blind {D : va_G} {ws : va_W} {sz : Nat} {avs : List Value} {A : Nat → Prop} : FrameBlind (va_Pc avs (fun U => CtPre D ws sz U ∧ XW A U)) := fun a U g mk h => by
  obtain ⟨h1, ⟨h2, h3, h4, h5⟩, h6⟩ := h
  exact ⟨h1, ⟨h2, h3, va_K.moved (u := U) (U := U.calling g mk a) (Vm.Alike.refl U.vm) h4, h5⟩, h6.call g mk a⟩
theorem CtT.of {l : Launch} {D : va_G} {y : MethodName} {b : ByteArray} {n : Nat} {ret : Option FieldType} {rm : Room} {mc ms : Nat} {avs : List Value} {ws : va_W} {E : String} {own : String} {lv : List (Nat × Value)}
    (hy : plainName y.cls = true) (ho : y.cls = own) (hle : (lg_sl avs).length ≤ n) (hlv : lv_args 0 avs = lv)
    (body : ∀ X : Cx, OK X D n b own → XK X → RTT X D mc ms ws E → J X l rm D n 0 0 ws lv 0 []) : CtT l D y b n ret rm mc ms avs ws E := by
  intro sz
  refine vx_ofW (cc := b) (maxL := n) (ret := ret) hy rfl ?_
  intro p e s m args below meth c s₁ B hml htab hv
  obtain ⟨rfl, ⟨hsz, hP, hK, hD0⟩, hXW⟩ := hv
  have hx := B.exec
  have hb := B.bytes
  have hts := atoms_spec (ws := Cond.code y b n ret :: lw_g) B.pre
  have hown : s.vm.findClass y.cls = some m.cls := findClass_of_methodNamed B.named
  have hlocks := B.notSynchronized
  subst hsz
  have hA : ∀ q : Nat, s.heap.size ≤ q → va_A ws s.heap.size q := fun q h => Or.inr h
  have hl := lv_entry avs (n := n) hle
  rw [hlv] at hl
  rw [lg_entry_eq]
  exact body (p, e, s, m, avs.toArray, below, meth, c, vx_MQ below (fun _ _ _ _ => False) (CtTQ D ws (va_A ws s.heap.size) E) avs.toArray s mc ms (va_A ws s.heap.size), va_A ws s.heap.size, s.heap)
    ⟨hx, hb, hml, by rw [← ho]; exact hown, fun w hw => hts w (List.mem_cons_of_mem _ hw), hK, hlocks, hA⟩ ⟨rfl, hXW, htab⟩ rfl s.heap [] _ hP hD0.self va_S.rf hl
abbrev xnms : List String := ["java/lang/RuntimeException", "java/lang/Exception"]
def ThF (E : String) (ik ic : Nat) : Prop := Cond.classLink RX3 ik E ∈ lw_g ∧ Cond.initialized E ∈ lw_g ∧ (∀ w ∈ (vx_atS RX3 ic E xnms).filter goodWord, w ∈ lw_g) ∧ (∀ w ∈ (vx_atS RX3 ic E xnms).filter (fun w => !goodWord w), w ∈ Cond.castable E E :: dcls.map Cond.declares) ∧ (∀ w ∈ Cond.classLink RX3 ik E :: Cond.initialized E :: vx_atS RX3 ic E xnms, vx_ot w = true) ∧ Bundle.fit E = true ∧ (∀ n ∈ xnms, Bundle.fit n = true) ∧ ∃ i, i < 4 ∧ E = exn i
section JT
variable {X : Cx} {l : Launch} {R : Room} {D : va_G} {nL k n : Nat} {cc : ByteArray} {ws ws0 wr : va_W} {lv : List (Nat × Value)} {pc : Nat} {st rest As : List Value} {E : String}
variable {y : MethodName} {C own : String} {b : ByteArray} {m0 np idx mc ms mc1 ms1 : Nat} {ret : Option FieldType} {rm : Room}
theorem lg_atS {args : Array Value} {s : State} {A : Nat → Prop} {ik ic : Nat} (hf : ThF E ik ic) (hts : ∀ w ∈ lw_g, w.before args s = true) (hX : XW A s) : ∀ w ∈ vx_atS RX3 ic E xnms, w.before args s = true := by
  obtain ⟨-, -, h3, h4, -, -, -, i, hi, rfl⟩ := hf
  refine vx_hat (fun w hw => hts w (h3 w hw)) h4 (fun w hw => ?_)
  rcases List.mem_cons.mp hw with rfl | hw
  · exact (hX.2.2.2.1 i hi).use rfl
  · obtain ⟨x, hx, rfl⟩ := List.mem_map.mp hw
    exact (hX.2.2.2.2.2.2.2.2.2 x hx).use rfl
theorem r_throw {ik is ic : Nat} {text : String} (h : OK X D nL cc RX3) (hx : XK X) (ht : RTT X D mc ms ws E) (hl0 : l.stackTraces = false) (hf : ThF E ik ic) (hs : (is, text) ∈ strs)
    (d0 : decode cc pc = .ok (.new ik, 3)) (d3 : decode cc (pc + 3) = .ok (.dup, 1)) (d4 : decode cc (pc + 4) = .ok (.ldc is, 2)) (d6 : decode cc (pc + 6) = .ok (.invokespecial ic, 3)) (d9 : decode cc (pc + 9) = .ok (.athrow, 1))
    (hR : 5 < R.frames ∧ (st.map fun v => v.category).sum + 82 ≤ R.locals ∧ k + 1 ≤ R.cells ∧ n + 6 ≤ R.slots) (hc : k + 1 ≤ mc ∧ n + 6 ≤ ms) : J X l R D nL k n ws lv pc st := by
  obtain ⟨p, e, s, m, args, below, meth, c, Q, A, H0⟩ := X
  obtain ⟨hxx, hb, hml, hown, hts, hK, hlk, hA⟩ := h
  obtain ⟨rfl, hXW, htab⟩ := hx
  have ht : Q = _ := ht
  subst ht
  intro H locs ls hP hD hS hl
  obtain ⟨sa, hstr⟩ := hXW.2.2.1 _ hs
  have hat := lg_atS hf hts hXW
  obtain ⟨f1, f2, -, -, f5, f6, f7, -⟩ := hf
  exact vx_throwS (sa := sa) (names := xnms) hxx hb hl0 hown f6 f7 (hts _ f1) (hts _ f2) hstr hat f5 hXW.1 hXW.2.1 hS (hl.1.trans hml.symm) d0 d3 d4 d6 d9 (fun x hx => (htab x hx).elim) hR.1 hR.2.1 hR.2.2.1 hR.2.2.2 hlk
    (fun t hvm hz hk => ⟨(), trivial, ⟨rfl, hP.kept (fun k q hk' => hk q.1 (hP k q hk').lt)⟩, Nat.le_trans hS.1 hz, fun q h1 h2 => by rw [hk q (Nat.lt_of_lt_of_le h1 hS.1)]; exact hS.2.1 q h1 h2⟩) hS.2.2 hc.1 hc.2
theorem r_throwW {ik is ic : Nat} {text : String} (h : OK X D nL cc RX3) (hx : XK X) (ht : RTT X D mc ms ws E) (hl0 : l.stackTraces = false) (hf : ThF E ik ic) (hs : (is, text) ∈ strs)
    (d0 : decode cc pc = .ok (.new ik, 3)) (d3 : decode cc (pc + 3) = .ok (.dup, 1)) (d4 : decode cc (pc + 4) = .ok (.ldc_w is, 3)) (d6 : decode cc (pc + 7) = .ok (.invokespecial ic, 3)) (d9 : decode cc (pc + 10) = .ok (.athrow, 1))
    (hR : 5 < R.frames ∧ (st.map fun v => v.category).sum + 82 ≤ R.locals ∧ k + 1 ≤ R.cells ∧ n + 6 ≤ R.slots) (hc : k + 1 ≤ mc ∧ n + 6 ≤ ms) : J X l R D nL k n ws lv pc st := by
  obtain ⟨p, e, s, m, args, below, meth, c, Q, A, H0⟩ := X
  obtain ⟨hxx, hb, hml, hown, hts, hK, hlk, hA⟩ := h
  obtain ⟨rfl, hXW, htab⟩ := hx
  have ht : Q = _ := ht
  subst ht
  intro H locs ls hP hD hS hl
  obtain ⟨sa, hstr⟩ := hXW.2.2.1 _ hs
  have hat := lg_atS hf hts hXW
  obtain ⟨f1, f2, -, -, f5, f6, f7, -⟩ := hf
  exact vx_throwSW (sa := sa) (names := xnms) hxx hb hl0 hown f6 f7 (hts _ f1) (hts _ f2) hstr hat f5 hXW.1 hXW.2.1 hS (hl.1.trans hml.symm) d0 d3 d4 d6 d9 (fun x hx => (htab x hx).elim) hR.1 hR.2.1 hR.2.2.1 hR.2.2.2 hlk
    (fun t hvm hz hk => ⟨(), trivial, ⟨rfl, hP.kept (fun k q hk' => hk q.1 (hP k q hk').lt)⟩, Nat.le_trans hS.1 hz, fun q h1 h2 => by rw [hk q (Nat.lt_of_lt_of_le h1 hS.1)]; exact hS.2.1 q h1 h2⟩) hS.2.2 hc.1 hc.2
/-- behind a call that has thrown -/
theorem r_thrown {p : Program} {e : Env} {s : State} {m : MethodId} {args : Array Value} {below : List Frame} {meth : Method} {c : Code} {Q : State → Prop} {A : Nat → Prop} {H0 H : Heap} {locs : List Loc} {ls : Array Slot} {Qa : State → Outcome → State → Prop} (hQa : ∀ a b d, Qa a b d → False) (isC isR : List Nat) (hC : isC.map (fun i => ws[i]?) = ws0.map some) (hR : isR.map (fun i => ws[i]?) = wr.map some) (hn : va_nd isR = true) (hdis : ∀ i ∈ isR, i ∉ isC)
    (hD0 : va_D (va_A ws0 H.size) ws0) (hA : ∀ q, H0.size ≤ q → A q) (hP : va_P D vwCl ws H) (hD : va_D A ws) (hS : va_S A H0 H locs)
    (hrun : vx_Run p l e R s m args below meth c H locs k n mc ms (F0 m pc ls st) rest Qa (CtTQ D ws0 (va_A ws0 H.size) E) (va_A ws0 H.size))
    (kk : ∀ (H1 : Heap) (locs1 : List Loc) (q : Addr) (ce : Cell), va_P D vwCl (wr ++ ws0) H1 → va_D A (wr ++ ws0) → va_S A H0 H1 locs1 → H1[q]? = some ce → ce.vm = .none → s.vm.findClass E = some ce.cls → vx_W p l e R s m args below meth c H1 locs1 (k + mc) (n + ms) Q (F0 m pc ls rest) q) : W p l e R s m args below meth c H locs k n Q (F0 m pc ls st) := by
  intro T hT XX
  have hF : ∀ q, va_A ws0 H.size q → A q := va_free hD hS hA isC hC
  rcases hrun T hT XX with ⟨v, st₀, t, T', L, h0, X', hL, e1, e2, hq, stp⟩ | ⟨q, st₀, t, T', L, E', ce, h0, X', hL, e1, e2, ⟨u, -, ⟨rfl, hP1⟩, hz, hk⟩, hce, hcv, hcl, stp⟩
  · exact (hQa _ _ _ hq).elim
  · rw [h0] at hz hk
    rw [← e1] at hz hP1
    have hk' : ∀ q : Nat, q < H.size → ¬ va_A ws0 H.size q → T'.heap[q]? = H[q]? := fun q h1 h2 => by rw [e1]; exact hk q h1 h2
    obtain ⟨hPj, hDj⟩ := va_join hP hD isC isR hC hR hn hdis hk' hF hP1 hD0
    have hS' : va_S A H0 T'.heap (locs ++ L) := ⟨Nat.le_trans hS.1 hz, fun q h1 h2 => by
        rw [hk' q (Nat.lt_of_lt_of_le h1 hS.1) (fun z => h2 (hF q z))]; exact hS.2.1 q h1 h2, fun q hq => by
        rcases List.mem_append.mp hq with h | h
        · exact hS.2.2 q h
        · exact hF _ (hL q h)⟩
    obtain ⟨t2, a1, b1⟩ := kk T'.heap (locs ++ L) q ce hPj hDj hS' (by rw [e1]; exact hce) hcv hcl T' rfl X'
    exact ⟨t2, stp.trans a1, b1⟩
theorem lg_preT {s : State} {H : Heap} {A : Nat → Prop} {avs : List Value} {locs : List Loc} (hXW : XW A s) (hS : va_S A s.heap H locs) (hF : ∀ q, va_A ws0 H.size q → A q) (hK : va_K D vwCl (tyG D) s) (hP : va_P D vwCl ws0 H) (hD : va_D A ws0) : ∀ U : State, U.heap = H → s.WarmedH U.vm → va_Pc avs (fun U => CtPre D ws0 H.size U ∧ XW (va_A ws0 H.size) U) avs.toArray U :=
  fun U hU hW => ⟨rfl, ⟨by rw [hU], by rw [hU]; exact hP, va_K.moved hW.alike hK, hD.weaken (fun _ _ _ _ => trivial)⟩, hXW.to hS hU hW hF⟩
theorem lg_allP {H1 : Heap} (isB : List Nat) (hB : isB.map (fun i => (wr ++ ws0)[i]?) = ws.map some) (hP : va_P D vwCl (wr ++ ws0) H1) : va_P D vwCl ws H1 := lg_subP isB hB hP
/-- a call that throws through: the caller throws alike -/
theorem r_callTV (h : OK X D nL cc own) (hx : XK X) (ht : RTT X D mc1 ms1 ws E) {a ci q0 : Nat} {T : u_T} {N : Nat} {fs : List Value} (hd0 : HdV y C b m0 ret np) (wl : Cond.methodLink own idx y ∈ lw_g) (hd : decode cc pc = .ok (.invokevirtual idx, 3)) (hc : CtT l D y b m0 ret rm mc ms (.ref a :: As) ws0 E)
    (isC isR isB : List Nat) (hC : isC.map (fun i => ws[i]?) = ws0.map some) (hR : isR.map (fun i => ws[i]?) = wr.map some) (hB : isB.map (fun i => (wr ++ ws0)[i]?) = ws.map some) (hn : (va_nd isC && va_nd isR && isR.all (fun i => !isC.contains i)) = true)
    (hci : vwCl[ci]? = some (C, T, N)) (he : ws0[q0]? = some (a, .inr (ci, fs))) (hnp : As.length = np) (hrc : rm.cells = mc ∧ rm.slots = ms) (hRm : rm.frames + 1 ≤ R.frames ∧ 8 + (m0 + 11) + rm.locals ≤ R.locals) (hst : (rest.map fun v => v.category).sum ≤ 8) (hf : k + mc ≤ R.cells ∧ n + ms ≤ R.slots) (hf1 : k + mc ≤ mc1 ∧ n + ms ≤ ms1) (hstk : st = As.reverse ++ .ref a :: rest) : J X l R D nL k n ws lv pc st := by
  obtain ⟨p, e, s, m, args, below, meth, c, Q, A, H0⟩ := X
  obtain ⟨hxx, hb, hml, hown, hts, hK, hlk, hA⟩ := h
  obtain ⟨rfl, hXW, htab⟩ := hx
  have ht : Q = _ := ht
  subst ht
  obtain ⟨w1, w2, w3, w4, hy⟩ := hd0
  simp only [Bool.and_eq_true] at hn
  obtain ⟨⟨hn1, hn2⟩, hn3⟩ := hn
  intro H locs ls hP hD hS hl
  have hPc := lg_subP isC hC hP
  have hDc := hD.sub isC hn1 hC
  have hF : ∀ q, va_A ws0 H.size q → A q := va_free hD hS hA isC hC
  refine r_thrown (fun _ _ _ z => z) isC isR hC hR hn2 (fun i hi hi2 => ?_) hDc.self hA hP hD hS (vx_runV (As := As) (rest := rest) ⟨hxx, hb, hml, hown, hts⟩ (hc H.size) (cwV np hts (lg_in (fun w hw => hw) ?_) rfl hrc.1 hrc.2 hy hRm) ⟨CtT_blind, va_recv hK hPc hci he, lg_preT hXW hS hF hK hPc hDc⟩ rfl hnp hl.1 hstk (lv_room hst) hd hf)
    (fun H1 locs1 q ce hP1 hD1 hS1 hce hcv hcl => vx_out (fun x hx => (htab x hx).elim) hlk hce hcv hcl (fun t ht hal => ⟨(), trivial, ⟨rfl, by rw [ht]; exact lg_allP isB hB hP1⟩, hS1.F ht⟩) hS1.2.2 hf1.1 hf1.2)
  · have := List.all_eq_true.mp hn3 i hi
    simp [hi2] at this
  · intro w hw
    unfold wsV at hw
    rcases List.mem_append.mp hw with hw | hw
    · simp only [List.mem_cons, List.not_mem_nil, or_false] at hw
      rcases hw with rfl | rfl | rfl | rfl
      · exact wl
      · exact w1
      · exact w2
      · exact w3
    · exact lg_cons w4 w hw
theorem r_callTS (h : OK X D nL cc own) (hx : XK X) (ht : RTT X D mc1 ms1 ws E) (hd0 : HdS y own b m0 ret np) (wl : Cond.methodLink own idx y ∈ lw_g) (hd : decode cc pc = .ok (.invokestatic idx, 3)) (hc : CtT l D y b m0 ret rm mc ms As ws0 E)
    (isC isR isB : List Nat) (hC : isC.map (fun i => ws[i]?) = ws0.map some) (hR : isR.map (fun i => ws[i]?) = wr.map some) (hB : isB.map (fun i => (wr ++ ws0)[i]?) = ws.map some) (hn : (va_nd isC && va_nd isR && isR.all (fun i => !isC.contains i)) = true)
    (hnp : As.length = np) (hrc : rm.cells = mc ∧ rm.slots = ms) (hRm : rm.frames + 1 ≤ R.frames ∧ 8 + (m0 + 11) + rm.locals ≤ R.locals) (hst : (rest.map fun v => v.category).sum ≤ 8) (hf : k + mc ≤ R.cells ∧ n + ms ≤ R.slots) (hf1 : k + mc ≤ mc1 ∧ n + ms ≤ ms1) (hstk : st = As.reverse ++ rest) : J X l R D nL k n ws lv pc st := by
  obtain ⟨p, e, s, m, args, below, meth, c, Q, A, H0⟩ := X
  obtain ⟨hxx, hb, hml, hown, hts, hK, hlk, hA⟩ := h
  obtain ⟨rfl, hXW, htab⟩ := hx
  have ht : Q = _ := ht
  subst ht
  obtain ⟨w1, w3, w4, hy⟩ := hd0
  simp only [Bool.and_eq_true] at hn
  obtain ⟨⟨hn1, hn2⟩, hn3⟩ := hn
  intro H locs ls hP hD hS hl
  have hPc := lg_subP isC hC hP
  have hDc := hD.sub isC hn1 hC
  have hF : ∀ q, va_A ws0 H.size q → A q := va_free hD hS hA isC hC
  refine r_thrown (fun _ _ _ z => z) isC isR hC hR hn2 (fun i hi hi2 => ?_) hDc.self hA hP hD hS (vx_runS (As := As) (rest := rest) ⟨hxx, hb, hml, hown, hts⟩ (hc H.size) (cwS np hts (lg_in (fun w hw => hw) ?_) rfl hrc.1 hrc.2 hy hRm) ⟨CtT_blind, lg_preT hXW hS hF hK hPc hDc⟩ rfl hnp hl.1 hstk (lv_room hst) hd hf)
    (fun H1 locs1 q ce hP1 hD1 hS1 hce hcv hcl => vx_out (fun x hx => (htab x hx).elim) hlk hce hcv hcl (fun t ht hal => ⟨(), trivial, ⟨rfl, by rw [ht]; exact lg_allP isB hB hP1⟩, hS1.F ht⟩) hS1.2.2 hf1.1 hf1.2)
  · have := List.all_eq_true.mp hn3 i hi
    simp [hi2] at this
  · intro w hw
    unfold wsS at hw
    rcases List.mem_append.mp hw with hw | hw
    · simp only [List.mem_cons, List.not_mem_nil, or_false] at hw
      rcases hw with rfl | rfl | rfl
      · exact wl
      · exact w1
      · exact w3
    · exact lg_cons w4 w hw
end JT
def bX {α β : Type} (x : Option (Nat ⊕ α)) (f : α → Option (Nat ⊕ β)) : Option (Nat ⊕ β) :=
  match x with
  | none => none
  | some (.inl k) => some (.inl k)
  | some (.inr v) => f v
theorem o_bX {α β : Type} {x : Option (Nat ⊕ α)} {f : α → Option (Nat ⊕ β)} {r : Nat ⊕ β} (h : bX x f = some r) : (∃ k, x = some (.inl k) ∧ r = .inl k) ∨ ∃ v, x = some (.inr v) ∧ f v = some r := by
  unfold bX at h
  split at h
  · cases h
  · cases h; exact Or.inl ⟨_, rfl, rfl⟩
  · exact Or.inr ⟨_, rfl, h⟩
/-- a call that is known not to throw -/
def bN {α β : Type} (x : Option (Nat ⊕ α)) (f : α → Option β) : Option β :=
  match x with
  | some (.inr v) => f v
  | _ => none
theorem o_bN {α β : Type} {x : Option (Nat ⊕ α)} {f : α → Option β} {r : β} (h : bN x f = some r) : ∃ v, x = some (.inr v) ∧ f v = some r := by
  unfold bN at h
  split at h
  · exact ⟨_, rfl, h⟩
  · cases h
theorem thf_1 : ThF (exn 1) 108 112 := ⟨by decide +kernel, by decide +kernel, by decide +kernel, by decide +kernel, by decide +kernel, by decide +kernel, by decide +kernel, 1, by decide, rfl⟩
theorem thf_2 : ThF (exn 2) 82 86 := ⟨by decide +kernel, by decide +kernel, by decide +kernel, by decide +kernel, by decide +kernel, by decide +kernel, by decide +kernel, 2, by decide, rfl⟩
theorem thf_3 : ThF (exn 3) 116 120 := ⟨by decide +kernel, by decide +kernel, by decide +kernel, by decide +kernel, by decide +kernel, by decide +kernel, by decide +kernel, 3, by decide, rfl⟩

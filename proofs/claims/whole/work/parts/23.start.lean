/-! the law from its entry -/
section JLE
variable {X : Cx} {l : Launch} {R : Room} {D : va_G} {nL k n : Nat} {cc : ByteArray} {own : String} {ws ws' ws0 wr : va_W} {lv : List (Nat × Value)} {pc : Nat} {st rest As : List Value} {Post : Option Value → va_W → Prop}
variable {y : MethodName} {b : ByteArray} {m0 np idx mc ms : Nat} {rm : Room}
theorem lg_preR {s : State} {H : Heap} {A : Nat → Prop} {avs : List Value} (ho : AOF s) (hK : va_K D vwCl (tyG D) s) (hP : va_P D vwCl ws0 H) (hD : va_D A ws0) : ∀ U : State, U.heap = H → s.WarmedH U.vm → va_Pc avs (fun U => CtPre D ws0 H.size U ∧ AOF U) avs.toArray U := fun U hU hW => ⟨rfl, (lg_pre (avs := avs) hK hP hD U hU hW).2, va_AO.moved hW.alike ho.1, ho.2.warmM hW⟩
/-- the constructor of RackMoves, of cells that stand last -/
theorem r_callIR (h : OK X D nL cc own) (ho : AOK X) {a : Nat} (hd0 : HdI y b m0 np) (wl : Cond.methodLink own idx y ∈ lw_g) (hd : decode cc pc = .ok (.invokespecial idx, 3)) (hc : CtR l D y b m0 none rm mc ms (.ref a :: As) ws0 Post)
    (hnp : As.length = np) (hrc : rm.cells = mc ∧ rm.slots = ms) (hRm : rm.frames + 1 ≤ R.frames ∧ 8 + (m0 + 11) + rm.locals ≤ R.locals) (hst : (rest.map fun v => v.category).sum ≤ 8) (hf : k + mc ≤ R.cells ∧ n + ms ≤ R.slots) (hws : ws = wr ++ ws0) (hstk : st = As.reverse ++ .ref a :: rest)
    (kk : ∀ (v : Option Value) (w' : va_W), Post v w' → J X l R D nL (k + mc) (n + ms) (wr ++ w') lv (pc + 3) (v.toList ++ rest)) : J X l R D nL k n ws lv pc st := by
  subst hws
  refine J.perm (ws' := ws0 ++ wr) List.perm_append_comm ?_
  obtain ⟨e1, e2, e3⟩ := pk_app ws0 wr
  obtain ⟨p, e, s, m, args, below, meth, c, Q, A, H0⟩ := X
  obtain ⟨hx, hb, hml, hown, hts, hK, hlk, hA⟩ := h
  obtain ⟨w1, w3, w4, hy1, hy⟩ := hd0
  simp only [Bool.and_eq_true] at e3
  obtain ⟨⟨hn1, hn2⟩, hn3⟩ := e3
  intro H locs ls hP hD hS hl
  have hPc := lg_subP _ e1 hP
  have hDc := hD.sub _ hn1 e1
  refine r_behind _ _ e1 e2 hn2 (fun i hi hi2 => ?_) hA hP hD hS hl (va_runI (As := As) (rest := rest) ⟨hx, hb, hml, hown, hts⟩ (hc H.size) (cwI np hts (lg_in (fun w hw => hw) (lg_cons w4)) rfl hrc.1 hrc.2 (hts _ w3) (hts _ wl) (hts _ w1) hy1 hy hRm) ⟨CtR_blind, lg_preR ho hK hPc hDc⟩ rfl hnp hl.1 hstk (lv_room hst) hd hf) kk
  have := List.all_eq_true.mp hn3 i hi
  simp [hi2] at this
end JLE
theorem pm7 (a b c d e m o : va_W) : ((([] ++ [a, b, c, d, e].flatten) ++ m) ++ o).Perm [o, a, b, c, d, m, e].flatten := by
  simp only [List.flatten_cons, List.flatten_nil, List.append_assoc, List.append_nil, List.nil_append]
  have h1 : (a ++ (b ++ (c ++ (d ++ (e ++ (m ++ o)))))).Perm (o ++ (a ++ (b ++ (c ++ (d ++ (e ++ m)))))) := by
    have h2 : a ++ (b ++ (c ++ (d ++ (e ++ (m ++ o))))) = (a ++ (b ++ (c ++ (d ++ (e ++ m))))) ++ o := by simp only [List.append_assoc]
    rw [h2]
    exact List.perm_append_comm
  exact h1.trans ((List.perm_append_comm.append_left d).append_left c |>.append_left b |>.append_left a |>.append_left o)
set_option maxHeartbeats 4000000 in
set_option maxRecDepth 100000 in
theorem law_entry (l : Launch) (hl0 : l.stackTraces = false) (D : va_G) (X : Cx) (b L : Nat) (xs : Nat → Int32) (h : OK X D 9 cL_law RL) (hXL : XKL X) (hLX : LWX X b L xs) (ho : AOK X) (N : Nat) (hN : N ≤ 1000) (hF : FL_law xs L N 0 (fun _ => 0) 0 RS0 RS0 TXS0 MDS0 RS0 RS0 RS0 RS0 = some 1) : J X l room_1 D 9 0 0 [] [(0, .ref b)] 0 [] := by
  refine r_new (ci := 3) (N := 5) (fs := [.null, .null, .null, .int 0, .null]) h ⟨_, _, tyX3, rfl, wsin_3, tyX3_ok, wm_14, wm_15, wm_1, fun j hj => by rcases (show j = 0 ∨ j = 1 ∨ j = 2 ∨ j = 3 ∨ j = 4 by omega) with rfl | rfl | rfl | rfl | rfl <;> rfl⟩ dL_law_0 ⟨by decide, by decide⟩ (fun q1 => ?_)
  refine r_dup h rfl dL_law_3 ?_
  refine r_callIR (wr := []) (rest := [.ref q1]) h ho hdI_X3 wm_16 dL_law_4 (CX3_init l D q1) rfl ⟨rfl, rfl⟩ ⟨by decide, by decide⟩ (Nat.le_of_ble_eq_true rfl) ⟨by decide, by decide⟩ rfl rfl (fun v w' hp => ?_)
  obtain ⟨rfl, r, s, t, x, z0, z1, z2, z3, rfl⟩ := hp
  refine r_astore_n (lv' := [(1, .ref q1), (0, .ref b)]) h rfl dL_law_7 (by decide) rfl ?_
  refine r_new (ci := 4) (N := 13) (fs := [.null, .null, .null, .null, .int 0, .int 0, .null, .int 0, .int 0, .int 0, .int 0, .int 0, .long 0]) h ⟨_, _, tyX4, rfl, wsin_4, tyX4_ok, wm_698, wm_699, wm_5, fun j hj => by rcases (show j = 0 ∨ j = 1 ∨ j = 2 ∨ j = 3 ∨ j = 4 ∨ j = 5 ∨ j = 6 ∨ j = 7 ∨ j = 8 ∨ j = 9 ∨ j = 10 ∨ j = 11 ∨ j = 12 by omega) with rfl | rfl | rfl | rfl | rfl | rfl | rfl | rfl | rfl | rfl | rfl | rfl | rfl <;> rfl⟩ dL_law_8 ⟨by decide, by decide⟩ (fun q4 => ?_)
  refine r_dup h rfl dL_law_11 ?_
  refine r_callI (rest := [.ref q4]) h hdI_X4 wm_700 dL_law_12 (CX4_init l D q4) rfl ⟨rfl, rfl⟩ ⟨by decide, by decide⟩ (Nat.le_of_ble_eq_true rfl) ⟨by decide, by decide⟩ rfl rfl (fun v w' hp => ?_)
  obtain ⟨rfl, u, rfl, rfl⟩ := hp
  refine r_astore_n (lv' := [(2, .ref (u 0)), (1, .ref q1), (0, .ref b)]) h rfl dL_law_15 (by decide) rfl ?_
  refine r_iconst (v := 1) h dL_law_16 (by decide) ?_
  refine r_newl (N' := 1) h wm_aL (by decide) (by decide) (by decide) ⟨by decide, by decide⟩ dL_law_17 (fun q5 => ?_)
  refine r_astore_n (lv' := [(3, .ref q5), (2, .ref (u 0)), (1, .ref q1), (0, .ref b)]) h rfl dL_law_19 (by decide) rfl ?_
  refine r_iconst (v := 0) h dL_law_20 (by decide) ?_
  refine r_istore (lv' := [(4, .int 0), (3, .ref q5), (2, .ref (u 0)), (1, .ref q1), (0, .ref b)]) h dL_law_21 (by decide) rfl ?_
  refine J.perm (pm7 (rkW D q1 (r 0) (s 0) x (t 0) 0) (rmW D r RS0) (rmW D s RS0) (txW D t TXS0) (tlW D x z0 z1 z2 z3 RS0 RS0 RS0 RS0) (mdW D u MDS0) (ouW D q5 (fun _ => 0))).symm ?_
  exact CL_law l hl0 D X b L xs h hXL hLX q1 q5 x t u N _ _ r s z0 z1 z2 z3 0 (fun _ => 0) 0 RS0 RS0 TXS0 MDS0 RS0 RS0 RS0 RS0 (by omega) (by omega) hF

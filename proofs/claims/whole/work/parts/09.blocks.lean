/-! worlds as blocks: cells one by one, and a tail that is never opened -/
theorem va_P_mem {D : va_G} {ws : va_W} {H : Heap} : va_P D vwCl ws H ↔ ∀ q ∈ ws, va_at D vwCl q H := by
  constructor
  · intro h q hq
    obtain ⟨i, hi⟩ := List.getElem?_of_mem hq
    exact h i q hi
  · intro h k q hk
    exact h q (List.mem_of_getElem? hk)
theorem va_D_nd {A : Nat → Prop} {ws : va_W} : va_D A ws ↔ (ws.map Prod.fst).Nodup ∧ ∀ q ∈ ws, A q.1 := by
  constructor
  · intro h
    refine ⟨?_, fun q hq => ?_⟩
    · rw [List.nodup_iff_pairwise_ne, List.pairwise_iff_getElem]
      intro i j hi hj hij he
      rw [List.length_map] at hi hj
      rw [List.getElem_map, List.getElem_map] at he
      have := h.1 i j ws[i] ws[j] (List.getElem?_eq_getElem hi) (List.getElem?_eq_getElem hj) he
      omega
    · obtain ⟨i, hi⟩ := List.getElem?_of_mem hq
      exact h.2 i q hi
  · rintro ⟨h1, h2⟩
    refine ⟨fun i j p q hp hq he => ?_, fun k q hk => h2 q (List.mem_of_getElem? hk)⟩
    rw [List.nodup_iff_pairwise_ne, List.pairwise_iff_getElem] at h1
    obtain ⟨hi, rfl⟩ := List.getElem?_eq_some_iff.mp hp
    obtain ⟨hj, rfl⟩ := List.getElem?_eq_some_iff.mp hq
    rcases Nat.lt_trichotomy i j with h | h | h
    · exact absurd (by rw [List.getElem_map, List.getElem_map]; exact he) (h1 i j (by rw [List.length_map]; exact hi) (by rw [List.length_map]; exact hj) h)
    · exact h
    · exact absurd (by rw [List.getElem_map, List.getElem_map]; exact he.symm) (h1 j i (by rw [List.length_map]; exact hj) (by rw [List.length_map]; exact hi) h)
theorem va_P.perm {D : va_G} {ws ws' : va_W} {H : Heap} (hp : ws'.Perm ws) (h : va_P D vwCl ws H) : va_P D vwCl ws' H := va_P_mem.mpr fun q hq => va_P_mem.mp h q (hp.mem_iff.mp hq)
theorem va_D.perm {A : Nat → Prop} {ws ws' : va_W} (hp : ws'.Perm ws) (h : va_D A ws) : va_D A ws' := va_D_nd.mpr ⟨(hp.map Prod.fst).nodup_iff.mpr (va_D_nd.mp h).1, fun q hq => (va_D_nd.mp h).2 q (hp.mem_iff.mp hq)⟩
abbrev bk (ws : va_W) : List va_W := ws.map (fun c => [c])
abbrev pkB (bs : List va_W) (is : List Nat) : List va_W := is.filterMap (fun i => bs[i]?)
theorem pkB_range (bs : List va_W) : pkB bs (List.range bs.length) = bs := by
  have h : (List.range bs.length).map (fun i => bs[i]?) = bs.map some := by
    apply List.ext_getElem?
    intro i
    rw [List.getElem?_map, List.getElem?_map]
    by_cases hi : i < bs.length
    · rw [List.getElem?_range hi, List.getElem?_eq_getElem hi]
      simp [hi]
    · rw [List.getElem?_eq_none (by simpa using hi), List.getElem?_eq_none (by simpa using hi)]
      rfl
  have h2 : pkB bs (List.range bs.length) = ((List.range bs.length).map (fun i => bs[i]?)).filterMap id := by
    rw [List.filterMap_map]; rfl
  rw [h2, h, List.filterMap_map]
  show bs.filterMap some = bs
  exact List.filterMap_some
theorem pkB_perm {bs : List va_W} {is : List Nat} (hp : is.Perm (List.range bs.length)) : (pkB bs is).flatten.Perm bs.flatten := by
  have h := hp.filterMap (fun i => bs[i]?)
  have h2 : (pkB bs is).Perm bs := by
    have h3 := pkB_range bs
    unfold pkB at h3 ⊢
    rw [h3] at h
    exact h
  exact h2.flatten
section JB
variable {X : Cx} {l : Launch} {R : Room} {D : va_G} {nL k n : Nat} {cc : ByteArray} {own : String} {ws ws' ws0 wr : va_W} {lv : List (Nat × Value)} {pc : Nat} {st rest As : List Value} {Post : Option Value → va_W → Prop} {E : String}
variable {y : MethodName} {C : String} {b : ByteArray} {m0 np idx mc ms mc1 ms1 : Nat} {ret : Option FieldType} {rm : Room}
theorem J.perm (hp : ws'.Perm ws) (kk : J X l R D nL k n ws' lv pc st) : J X l R D nL k n ws lv pc st := by
  obtain ⟨p, e, s, m, args, below, meth, c, Q, A, H0⟩ := X
  intro H locs ls hP hD hS hl
  exact kk H locs ls (hP.perm hp) (hD.perm hp) hS hl
/-- the blocks in another order -/
theorem J.blk (N : Nat) (bs : List va_W) (is : List Nat) (h1 : ws = bs.flatten) (h2 : ws' = (pkB bs is).flatten) (hN : bs.length = N) (hp : is.Perm (List.range N)) (kk : J X l R D nL k n ws' lv pc st) : J X l R D nL k n ws lv pc st := by
  subst h1; subst h2; subst hN
  exact J.perm (pkB_perm hp) kk
/-- the same behind a call -/
theorem J.blk2 {w1 w2 : va_W} (N : Nat) (b1 b2 : List va_W) (is : List Nat) (h1 : w1 = b1.flatten) (h2 : w2 = b2.flatten) (h3 : ws' = (pkB (b1 ++ b2) is).flatten) (hN : (b1 ++ b2).length = N) (hp : is.Perm (List.range N)) (kk : J X l R D nL k n ws' lv pc st) : J X l R D nL k n (w1 ++ w2) lv pc st := by
  subst h1; subst h2; subst h3; subst hN
  refine J.perm ?_ kk
  rw [← List.flatten_append]
  exact pkB_perm hp
/-- a call whose cells are some of the blocks -/
theorem r_callVB (h : OK X D nL cc own) {a ci q0 : Nat} {T : u_T} {N : Nat} {fs : List Value} (bs : List va_W) (isC isR : List Nat) (hd0 : HdV y C b m0 ret np) (wl : Cond.methodLink own idx y ∈ lw_g) (hd : decode cc pc = .ok (.invokevirtual idx, 3)) (hc : Ct l D y b m0 ret rm mc ms (.ref a :: As) ws0 Post)
    (hws : ws = bs.flatten) (h0 : ws0 = (pkB bs isC).flatten) {N0 : Nat} (hN : bs.length = N0) (hp : (isC ++ isR).Perm (List.range N0))
    (hci : vwCl[ci]? = some (C, T, N)) (he : ws0[q0]? = some (a, .inr (ci, fs))) (hnp : As.length = np) (hrc : rm.cells = mc ∧ rm.slots = ms) (hRm : rm.frames + 1 ≤ R.frames ∧ 8 + (m0 + 11) + rm.locals ≤ R.locals) (hst : (rest.map fun v => v.category).sum ≤ 8) (hf : k + mc ≤ R.cells ∧ n + ms ≤ R.slots) (hstk : st = As.reverse ++ .ref a :: rest)
    (kk : ∀ (v : Option Value) (w' : va_W), Post v w' → J X l R D nL (k + mc) (n + ms) ((pkB bs isR).flatten ++ w') lv (pc + 3) (v.toList ++ rest)) : J X l R D nL k n ws lv pc st := by
  subst hws; subst h0; subst hN
  refine J.perm (ws' := (pkB bs isC).flatten ++ (pkB bs isR).flatten) ?_ ?_
  · rw [← List.flatten_append]
    have : pkB bs isC ++ pkB bs isR = pkB bs (isC ++ isR) := by unfold pkB; rw [List.filterMap_append]
    rw [this]
    exact pkB_perm hp
  · generalize (pkB bs isR).flatten = wr at kk ⊢
    generalize (pkB bs isC).flatten = w0 at hc he ⊢
    refine r_callV (wr := wr) h hd0 wl hd hc (List.range w0.length) ((List.range wr.length).map (· + w0.length)) ?_ ?_ ?_ hci he hnp hrc hRm hst hf hstk kk
    · rw [← lg_range w0]
      apply List.map_congr_left
      intro i hi
      exact List.getElem?_append_left (List.mem_range.mp hi)
    · rw [← lg_range wr, List.map_map]
      apply List.map_congr_left
      intro i hi
      show (w0 ++ wr)[i + w0.length]? = _
      rw [List.getElem?_append_right (by omega)]
      congr 1
      omega
    · rw [lg_nd_range, lg_nd_of (by
        rw [List.nodup_iff_pairwise_ne, List.pairwise_map]
        exact (List.nodup_iff_pairwise_ne.mp List.nodup_range).imp (fun hab => by omega))]
      rw [Bool.true_and, Bool.true_and, List.all_eq_true]
      intro i hi
      obtain ⟨j, -, rfl⟩ := List.mem_map.mp hi
      simp
end JB
section JB2
variable {X : Cx} {l : Launch} {R : Room} {D : va_G} {nL k n : Nat} {cc : ByteArray} {own : String} {ws ws1 ws' ws0 wr : va_W} {lv : List (Nat × Value)} {pc : Nat} {st rest As : List Value} {Post : Option Value → va_W → Prop} {E : String}
variable {y : MethodName} {C : String} {b : ByteArray} {m0 np idx mc ms mc1 ms1 : Nat} {ret : Option FieldType} {rm : Room}
theorem pk_app (w0 wr : va_W) : (List.range w0.length).map (fun i => (w0 ++ wr)[i]?) = w0.map some ∧ ((List.range wr.length).map (· + w0.length)).map (fun i => (w0 ++ wr)[i]?) = wr.map some ∧ (va_nd (List.range w0.length) && va_nd ((List.range wr.length).map (· + w0.length)) && ((List.range wr.length).map (· + w0.length)).all (fun i => !(List.range w0.length).contains i)) = true := by
  refine ⟨?_, ?_, ?_⟩
  · rw [← lg_range w0]
    apply List.map_congr_left
    intro i hi
    exact List.getElem?_append_left (List.mem_range.mp hi)
  · rw [← lg_range wr, List.map_map]
    apply List.map_congr_left
    intro i hi
    show (w0 ++ wr)[i + w0.length]? = _
    rw [List.getElem?_append_right (by omega)]
    congr 1
    omega
  · rw [lg_nd_range, lg_nd_of (by
      rw [List.nodup_iff_pairwise_ne, List.pairwise_map]
      exact (List.nodup_iff_pairwise_ne.mp List.nodup_range).imp (fun hab => by omega))]
    rw [Bool.true_and, Bool.true_and, List.all_eq_true]
    intro i hi
    obtain ⟨j, -, rfl⟩ := List.mem_map.mp hi
    simp
theorem pk_two {bs : List va_W} {isC isR : List Nat} (hp : (isC ++ isR).Perm (List.range bs.length)) : ((pkB bs isC).flatten ++ (pkB bs isR).flatten).Perm bs.flatten := by
  rw [← List.flatten_append]
  have : pkB bs isC ++ pkB bs isR = pkB bs (isC ++ isR) := by unfold pkB; rw [List.filterMap_append]
  rw [this]
  exact pkB_perm hp
theorem r_callTVg (h : OK X D nL cc own) (hx : XK X) (ht : RTT X D mc1 ms1 ws1 E) {a ci q0 : Nat} {T : u_T} {N : Nat} {fs : List Value} (hd0 : HdV y C b m0 ret np) (wl : Cond.methodLink own idx y ∈ lw_g) (hd : decode cc pc = .ok (.invokevirtual idx, 3)) (hc : CtT l D y b m0 ret rm mc ms (.ref a :: As) ws0 E)
    (isC isR : List Nat) (hC : isC.map (fun i => ws[i]?) = ws0.map some) (hR : isR.map (fun i => ws[i]?) = wr.map some) (hBP : ∀ H1 : Heap, va_P D vwCl (wr ++ ws0) H1 → va_P D vwCl ws1 H1) (hn : (va_nd isC && va_nd isR && isR.all (fun i => !isC.contains i)) = true)
    (hci : vwCl[ci]? = some (C, T, N)) (he : ws0[q0]? = some (a, .inr (ci, fs))) (hnp : As.length = np) (hrc : rm.cells = mc ∧ rm.slots = ms) (hRm : rm.frames + 1 ≤ R.frames ∧ 8 + (m0 + 11) + rm.locals ≤ R.locals) (hst : (rest.map fun v => v.category).sum ≤ 8) (hf : k + mc ≤ R.cells ∧ n + ms ≤ R.slots) (hf1 : k + mc ≤ mc1 ∧ n + ms ≤ ms1) (hstk : st = As.reverse ++ .ref a :: rest) : J X l R D nL k n ws lv pc st := by
  obtain ⟨p, e, s, m, args, below, meth, c, Q, A, H0⟩ := X
  obtain ⟨hxx, hb, hml, hown, hts, hK, hlk, hA⟩ := h
  obtain ⟨rfl, hXW, htab⟩ := hx
  have ht : Q = _ := ht
  subst ht
  obtain ⟨w1, w2, w3, w4, hy⟩ := hd0
  simp only [Bool.and_eq_true] at hn
  obtain ⟨⟨hn1, hn2⟩, hn3⟩ := hn
  intro H locs ls hP hD hS hl
  have hPc := lg_subP isC hC hP
  have hDc := hD.sub isC hn1 hC
  have hF : ∀ q, va_A ws0 H.size q → A q := va_free hD hS hA isC hC
  refine r_thrown (fun _ _ _ z => z) isC isR hC hR hn2 (fun i hi hi2 => ?_) hDc.self hA hP hD hS (vx_runV (As := As) (rest := rest) ⟨hxx, hb, hml, hown, hts⟩ (hc H.size) (cwV np hts (lg_in (fun w hw => hw) ?_) rfl hrc.1 hrc.2 hy hRm) ⟨CtT_blind, va_recv hK hPc hci he, lg_preT hXW hS hF hK hPc hDc⟩ rfl hnp hl.1 hstk (lv_room hst) hd hf)
    (fun H1 locs1 q ce hP1 hD1 hS1 hce hcv hcl => vx_out (fun x hx => (htab x hx).elim) hlk hce hcv hcl (fun t ht hal => ⟨(), trivial, ⟨rfl, by rw [ht]; exact hBP _ hP1⟩, hS1.F ht⟩) hS1.2.2 hf1.1 hf1.2)
  · have := List.all_eq_true.mp hn3 i hi
    simp [hi2] at this
  · intro w hw
    unfold wsV at hw
    rcases List.mem_append.mp hw with hw | hw
    · simp only [List.mem_cons, List.not_mem_nil, or_false] at hw
      rcases hw with rfl | rfl | rfl | rfl
      · exact wl
      · exact w1
      · exact w2
      · exact w3
    · exact lg_cons w4 w hw
theorem r_callTSg (h : OK X D nL cc own) (hx : XK X) (ht : RTT X D mc1 ms1 ws1 E) (hd0 : HdS y own b m0 ret np) (wl : Cond.methodLink own idx y ∈ lw_g) (hd : decode cc pc = .ok (.invokestatic idx, 3)) (hc : CtT l D y b m0 ret rm mc ms As ws0 E)
    (isC isR : List Nat) (hC : isC.map (fun i => ws[i]?) = ws0.map some) (hR : isR.map (fun i => ws[i]?) = wr.map some) (hBP : ∀ H1 : Heap, va_P D vwCl (wr ++ ws0) H1 → va_P D vwCl ws1 H1) (hn : (va_nd isC && va_nd isR && isR.all (fun i => !isC.contains i)) = true)
    (hnp : As.length = np) (hrc : rm.cells = mc ∧ rm.slots = ms) (hRm : rm.frames + 1 ≤ R.frames ∧ 8 + (m0 + 11) + rm.locals ≤ R.locals) (hst : (rest.map fun v => v.category).sum ≤ 8) (hf : k + mc ≤ R.cells ∧ n + ms ≤ R.slots) (hf1 : k + mc ≤ mc1 ∧ n + ms ≤ ms1) (hstk : st = As.reverse ++ rest) : J X l R D nL k n ws lv pc st := by
  obtain ⟨p, e, s, m, args, below, meth, c, Q, A, H0⟩ := X
  obtain ⟨hxx, hb, hml, hown, hts, hK, hlk, hA⟩ := h
  obtain ⟨rfl, hXW, htab⟩ := hx
  have ht : Q = _ := ht
  subst ht
  obtain ⟨w1, w3, w4, hy⟩ := hd0
  simp only [Bool.and_eq_true] at hn
  obtain ⟨⟨hn1, hn2⟩, hn3⟩ := hn
  intro H locs ls hP hD hS hl
  have hPc := lg_subP isC hC hP
  have hDc := hD.sub isC hn1 hC
  have hF : ∀ q, va_A ws0 H.size q → A q := va_free hD hS hA isC hC
  refine r_thrown (fun _ _ _ z => z) isC isR hC hR hn2 (fun i hi hi2 => ?_) hDc.self hA hP hD hS (vx_runS (As := As) (rest := rest) ⟨hxx, hb, hml, hown, hts⟩ (hc H.size) (cwS np hts (lg_in (fun w hw => hw) ?_) rfl hrc.1 hrc.2 hy hRm) ⟨CtT_blind, lg_preT hXW hS hF hK hPc hDc⟩ rfl hnp hl.1 hstk (lv_room hst) hd hf)
    (fun H1 locs1 q ce hP1 hD1 hS1 hce hcv hcl => vx_out (fun x hx => (htab x hx).elim) hlk hce hcv hcl (fun t ht hal => ⟨(), trivial, ⟨rfl, by rw [ht]; exact hBP _ hP1⟩, hS1.F ht⟩) hS1.2.2 hf1.1 hf1.2)
  · have := List.all_eq_true.mp hn3 i hi
    simp [hi2] at this
  · intro w hw
    unfold wsS at hw
    rcases List.mem_append.mp hw with hw | hw
    · simp only [List.mem_cons, List.not_mem_nil, or_false] at hw
      rcases hw with rfl | rfl | rfl
      · exact wl
      · exact w1
      · exact w3
    · exact lg_cons w4 w hw

theorem r_callTVB (h : OK X D nL cc own) (hx : XK X) (ht : RTT X D mc1 ms1 ws E) {a ci q0 : Nat} {T : u_T} {N : Nat} {fs : List Value} (bs : List va_W) (isC isR : List Nat) (hd0 : HdV y C b m0 ret np) (wl : Cond.methodLink own idx y ∈ lw_g) (hd : decode cc pc = .ok (.invokevirtual idx, 3)) (hc : CtT l D y b m0 ret rm mc ms (.ref a :: As) ws0 E)
    (hws : ws = bs.flatten) (h0 : ws0 = (pkB bs isC).flatten) {N0 : Nat} (hN : bs.length = N0) (hp : (isC ++ isR).Perm (List.range N0))
    (hci : vwCl[ci]? = some (C, T, N)) (he : ws0[q0]? = some (a, .inr (ci, fs))) (hnp : As.length = np) (hrc : rm.cells = mc ∧ rm.slots = ms) (hRm : rm.frames + 1 ≤ R.frames ∧ 8 + (m0 + 11) + rm.locals ≤ R.locals) (hst : (rest.map fun v => v.category).sum ≤ 8) (hf : k + mc ≤ R.cells ∧ n + ms ≤ R.slots) (hf1 : k + mc ≤ mc1 ∧ n + ms ≤ ms1) (hstk : st = As.reverse ++ .ref a :: rest) : J X l R D nL k n ws lv pc st := by
  subst hws; subst h0; subst hN
  have hq := pk_two hp
  refine J.perm hq ?_
  obtain ⟨e1, e2, e3⟩ := pk_app (pkB bs isC).flatten (pkB bs isR).flatten
  exact r_callTVg h hx ht hd0 wl hd hc _ _ e1 e2 (fun H1 hP1 => hP1.perm (hq.symm.trans List.perm_append_comm)) e3 hci he hnp hrc hRm hst hf hf1 hstk
theorem r_callTSB (h : OK X D nL cc own) (hx : XK X) (ht : RTT X D mc1 ms1 ws E) (bs : List va_W) (isC isR : List Nat) (hd0 : HdS y own b m0 ret np) (wl : Cond.methodLink own idx y ∈ lw_g) (hd : decode cc pc = .ok (.invokestatic idx, 3)) (hc : CtT l D y b m0 ret rm mc ms As ws0 E)
    (hws : ws = bs.flatten) (h0 : ws0 = (pkB bs isC).flatten) {N0 : Nat} (hN : bs.length = N0) (hp : (isC ++ isR).Perm (List.range N0))
    (hnp : As.length = np) (hrc : rm.cells = mc ∧ rm.slots = ms) (hRm : rm.frames + 1 ≤ R.frames ∧ 8 + (m0 + 11) + rm.locals ≤ R.locals) (hst : (rest.map fun v => v.category).sum ≤ 8) (hf : k + mc ≤ R.cells ∧ n + ms ≤ R.slots) (hf1 : k + mc ≤ mc1 ∧ n + ms ≤ ms1) (hstk : st = As.reverse ++ rest) : J X l R D nL k n ws lv pc st := by
  subst hws; subst h0; subst hN
  have hq := pk_two hp
  refine J.perm hq ?_
  obtain ⟨e1, e2, e3⟩ := pk_app (pkB bs isC).flatten (pkB bs isR).flatten
  exact r_callTSg h hx ht hd0 wl hd hc _ _ e1 e2 (fun H1 hP1 => hP1.perm (hq.symm.trans List.perm_append_comm)) e3 hnp hrc hRm hst hf hf1 hstk
/-- a static method without cells, that throws through -/
theorem r_callTSp (h : OK X D nL cc own) (hx : XK X) (ht : RTT X D mc1 ms1 ws E) (hd0 : HdS y own b m0 ret np) (wl : Cond.methodLink own idx y ∈ lw_g) (hd : decode cc pc = .ok (.invokestatic idx, 3)) (hc : CtT l D y b m0 ret rm mc ms As [] E)
    (hnp : As.length = np) (hrc : rm.cells = mc ∧ rm.slots = ms) (hRm : rm.frames + 1 ≤ R.frames ∧ 8 + (m0 + 11) + rm.locals ≤ R.locals) (hst : (rest.map fun v => v.category).sum ≤ 8) (hf : k + mc ≤ R.cells ∧ n + ms ≤ R.slots) (hf1 : k + mc ≤ mc1 ∧ n + ms ≤ ms1) (hstk : st = As.reverse ++ rest) : J X l R D nL k n ws lv pc st :=
  r_callTSg (wr := ws) h hx ht hd0 wl hd hc [] (List.range ws.length) rfl (lg_range ws) (fun H1 hP1 => by rw [List.append_nil] at hP1; exact hP1) (by rw [lg_nd_range]; simp [va_nd]) hnp hrc hRm hst hf hf1 hstk
theorem r_callSB (h : OK X D nL cc own) (bs : List va_W) (isC isR : List Nat) (hd0 : HdS y own b m0 ret np) (wl : Cond.methodLink own idx y ∈ lw_g) (hd : decode cc pc = .ok (.invokestatic idx, 3)) (hc : Ct l D y b m0 ret rm mc ms As ws0 Post)
    (hws : ws = bs.flatten) (h0 : ws0 = (pkB bs isC).flatten) {N0 : Nat} (hN : bs.length = N0) (hp : (isC ++ isR).Perm (List.range N0))
    (hnp : As.length = np) (hrc : rm.cells = mc ∧ rm.slots = ms) (hRm : rm.frames + 1 ≤ R.frames ∧ 8 + (m0 + 11) + rm.locals ≤ R.locals) (hst : (rest.map fun v => v.category).sum ≤ 8) (hf : k + mc ≤ R.cells ∧ n + ms ≤ R.slots) (hstk : st = As.reverse ++ rest)
    (kk : ∀ (v : Option Value) (w' : va_W), Post v w' → J X l R D nL (k + mc) (n + ms) ((pkB bs isR).flatten ++ w') lv (pc + 3) (v.toList ++ rest)) : J X l R D nL k n ws lv pc st := by
  subst hws; subst h0; subst hN
  refine J.perm (pk_two hp) ?_
  obtain ⟨e1, e2, e3⟩ := pk_app (pkB bs isC).flatten (pkB bs isR).flatten
  exact r_callS h hd0 wl hd hc _ _ e1 e2 e3 hnp hrc hRm hst hf hstk kk
end JB2

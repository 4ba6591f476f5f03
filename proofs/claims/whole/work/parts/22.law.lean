/-! THE CLAIM OUT OF ONE WALK OF THE LAW'S BODY. Your part is whole_start (and what it stands on); all else here is the same for every law, but numbers. -/
def R_law : String := "RackMovesLaw"
def lw_P (b : Addr) (xs : List Int32) (args : Array Value) (s : State) : Prop := args = #[.ref b] ∧ s.IntsAt b xs ∧ xs.length ≤ 2560 ∧ (Jvm.Cond.and given_1 narrow_1).before args s = true
/-- what a walk over the start with the record d0 says of its end, said of the start itself -/
theorem lw_closed {s t : State} {o : Outcome} {d0 : Drawn} {L : List Loc} {k n : Nat} (hd0 : s.drawn.sameBut d0 lw_cs) (hv : ∃ v, o = .returned v) (hW : (s.setDrawn d0).WarmedH t.vm) (hs : (s.setDrawn d0).sameButNew ({ t with vm := s.vm } : State) L k n) : State.butDraws s t lw_cs (fun t1 => Framed s o t1 L k n) := by
  have h2 : t.drawn = d0 := congrArg State.drawn hs.1
  refine ⟨⟨hv, hW, State.sameButNew.setDrawn hs s.drawn⟩, ?_, by decide⟩
  rw [h2]
  exact hd0
def lw_Q (_ : Array Value) (s : State) (o : Outcome) (t : State) : Prop := o = .returned (some (.int 1)) ∧ State.butDraws s t lw_cs (fun t1 => Framed s o t1 [] 601024 7293034)
def lw_Z (below : List Frame) (a : Array Value) (s : State) : State → Prop := fun t => ∃ o, t.status = .running ∧ Ended t below o ∧ lw_Q a s o t
/-- the law's own end, with 1 on the stack, nothing written that was there before, its room as the claim has it; d0: the record of draws at this point (at the entry s.drawn: begin with 'refine W.base ?_' and 'have hd0 := Drawn.sameBut.refl s.drawn lw_cs') -/
theorem lw_ret {p : Program} {l : Launch} {e : Env} {s : State} {m : MethodId} {below : List Frame} {meth : Method} {c : Code} {b : Nat} {d0 : Drawn} (hd0 : s.drawn.sameBut d0 lw_cs) (hx : p.tables.exec = Jvm.exec) (hb : c.code = code) (hr : meth.sig.returnType = ret) (hlocks : meth.locks = false) {pc : Nat} {H : Heap} {ls : Array Slot} (hdg : decode code pc = .ok (.ireturn, 1)) : W p l e room_1 (s.setDrawn d0) m #[Value.ref b] below meth c H [] 601024 7293034 (lw_Z below #[Value.ref b] s) (F0 m pc ls [.int 1]) := by
  intro T hT X
  obtain ⟨fs, hret, hrun, hended, hW, hframe⟩ := X.leave (v := some (.int 1)) (hlocks := hlocks) (fun h => by rw [hr] at h; cases h)
  have hmeth' : T.vm.method? m = some meth := X.method'
  refine ⟨T.setFrames fs, ?_, .returned (some (.int 1)), hrun, hended, rfl, lw_closed hd0 ⟨_, rfl⟩ hW hframe⟩
  jvm_step X.here [X.here.top, hx, hb, hdg, hmeth', hr, ret, narrow_b1]
  (try refine ⟨rfl, ?_⟩); (try refine ⟨rfl, ?_⟩)
  first | (intro acts; rw [hret _ acts rfl rfl rfl]) | rw [hret _ _ rfl rfl rfl]
  exact Steps.refl _
/-- what holds at the law's entry: the machine, the code, the tables' words (any of lw_tbl by 'hts w (by decide +kernel)'), the script of L ints xs at the cell b, what the Statement gives of the start (any of its parts by flat_of_before) -/
def lw_At (p : Program) (s : State) (m : MethodId) (meth : Method) (c : Code) (b L : Nat) (xs : Nat → Int32) : Prop :=
  p.tables.exec = Jvm.exec ∧ c.code = code ∧ meth.sig.returnType = ret ∧ c.maxLocals = 9 ∧ s.vm.findClass R_law = some m.cls ∧ (∀ w ∈ lw_tbl, w.before #[Value.ref b] s = true) ∧ va_X b L xs s s.heap ∧ b < s.heap.size ∧ meth.locks = false ∧ (Jvm.Cond.and given_1 narrow_1).before #[Value.ref b] s = true
/-! the law's own frame -/
def LWX (X : Cx) (b L : Nat) (xs : Nat → Int32) : Prop :=
  match X with
  | (_, _, s1, _, args, below, meth, _, Q, A, H0) => ∃ (s : State) (d0 : Drawn), s1 = s.setDrawn d0 ∧ s.drawn.sameBut d0 lw_cs ∧ args = #[Value.ref b] ∧ Q = lw_Z below #[Value.ref b] s ∧ (A = fun q : Nat => s.heap.size ≤ q) ∧ H0 = s.heap ∧ va_X b L xs s1 H0 ∧ b < H0.size ∧ meth.sig.returnType = ret
section JL
variable {X : Cx} {l : Launch} {R : Room} {D : va_G} {nL k n : Nat} {cc : ByteArray} {own : String} {ws : va_W} {lv : List (Nat × Value)} {pc : Nat} {st : List Value} {b L : Nat} {xs : Nat → Int32}
theorem r_slen (h : OK X D nL cc own) (hX : LWX X b L xs) (hd : decode cc pc = .ok (.arraylength, 1)) (kk : J X l R D nL k n ws lv (pc + 1) (.int (Int32.ofNat L) :: st)) : J X l R D nL k n ws lv pc (.ref b :: st) := by
  obtain ⟨p, e, s1, m, args, below, meth, c, Q, A, H0⟩ := X
  obtain ⟨s, d0, rfl, hd0, rfl, rfl, rfl, rfl, h7, h8, h9⟩ := hX
  obtain ⟨hx, hb, hml, hown, hts, hK, hlk, hA⟩ := h
  intro H locs ls hP hD hS hl
  exact va_slen hx hb h7 h8 (Nat.not_le.mpr h8) hS hd (kk H locs ls hP hD hS hl)
theorem r_sld (h : OK X D nL cc own) (hX : LWX X b L xs) {i : Int32} (hin : vp_in i L) (hd : decode cc pc = .ok (.iaload, 1)) (kk : J X l R D nL k n ws lv (pc + 1) (.int (xs i.toNatClampNeg) :: st)) : J X l R D nL k n ws lv pc (.int i :: .ref b :: st) := by
  obtain ⟨p, e, s1, m, args, below, meth, c, Q, A, H0⟩ := X
  obtain ⟨s, d0, rfl, hd0, rfl, rfl, rfl, rfl, h7, h8, h9⟩ := hX
  obtain ⟨hx, hb, hml, hown, hts, hK, hlk, hA⟩ := h
  intro H locs ls hP hD hS hl
  exact va_sld hx hb h7 h8 (Nat.not_le.mpr h8) hS hin hd (kk H locs ls hP hD hS hl)
theorem r_lawret (h : OK X D 9 cL_law RL) (hX : LWX X b L xs) (hd : decode cL_law pc = .ok (.ireturn, 1)) : J X l room_1 D 9 601024 7293034 ws lv pc [.int 1] := by
  obtain ⟨p, e, s1, m, args, below, meth, c, Q, A, H0⟩ := X
  obtain ⟨s, d0, rfl, hd0, rfl, rfl, rfl, rfl, h7, h8, h9⟩ := hX
  obtain ⟨hx, hb, hml, hown, hts, hK, hlk, hA⟩ := h
  intro H locs ls hP hD hS hl
  refine va_forget (fun q hq => hS.2.2 q hq) ?_
  exact lw_ret hd0 hx hb h9 hlk hd
end JL
theorem hdm_X3_backOut : HdV yX3_backOut RX3 cX3_backOut 2 (some .int) 0 := ⟨wm_137, wm_138, wm_1, wm_139, by decide +kernel⟩
theorem hdm_X3_backable : HdV yX3_backable RX3 cX3_backable 2 (some .int) 0 := ⟨wm_251, wm_252, wm_1, wm_253, by decide +kernel⟩
theorem hdm_X3_bestChange : HdV yX3_bestChange RX3 cX3_bestChange 6 (some .int) 0 := ⟨wm_238, wm_239, wm_1, wm_240, by decide +kernel⟩
theorem hdm_X3_clearText : HdV yX3_clearText RX3 cX3_clearText 2 (some .int) 0 := ⟨wm_264, wm_265, wm_1, wm_266, by decide +kernel⟩
theorem hdm_X3_digest : HdV yX3_digest RX3 cX3_digest 5 (some .long) 0 := ⟨wm_348, wm_349, wm_1, wm_350, by decide +kernel⟩
theorem hdm_X3_plan : HdV yX3_plan RX3 cX3_plan 4 (some .int) 0 := ⟨wm_268, wm_269, wm_1, wm_270, by decide +kernel⟩
theorem hdm_X3_taken : HdV yX3_taken RX3 cX3_taken 3 (some .double) 0 := ⟨wm_255, wm_256, wm_1, wm_257, by decide +kernel⟩
theorem hdm_X4_addCable : HdV yX4_addCable RX4 cX4_addCable 5 (some .int) 3 := ⟨wm_794, wm_795, wm_5, wm_796, by decide +kernel⟩
theorem hdm_X4_addFreeze : HdV yX4_addFreeze RX4 cX4_addFreeze 5 (some .int) 3 := ⟨wm_818, wm_819, wm_5, wm_820, by decide +kernel⟩
theorem hdm_X4_addMachine : HdV yX4_addMachine RX4 cX4_addMachine 7 (some .int) 4 := ⟨wm_790, wm_791, wm_5, wm_792, by decide +kernel⟩
theorem hdm_X4_append : HdV yX4_append RX4 cX4_append 2 (some .int) 1 := ⟨wm_1001, wm_1002, wm_5, wm_1003, by decide +kernel⟩
theorem hdm_X4_backOut : HdV yX4_backOut RX4 cX4_backOut 1 (some .int) 0 := ⟨wm_960, wm_961, wm_5, wm_962, by decide +kernel⟩
theorem hdm_X4_backable : HdV yX4_backable RX4 cX4_backable 2 (some .int) 0 := ⟨wm_992, wm_993, wm_5, wm_994, by decide +kernel⟩
theorem hdm_X4_bestChange : HdV yX4_bestChange RX4 cX4_bestChange 6 (some .int) 0 := ⟨wm_988, wm_989, wm_5, wm_990, by decide +kernel⟩
theorem hdm_X4_bestRack : HdV yX4_bestRack RX4 cX4_bestRack 7 (some .int) 1 := ⟨wm_980, wm_981, wm_5, wm_982, by decide +kernel⟩
theorem hdm_X4_cable : HdV yX4_cable RX4 cX4_cable 3 (some .int) 2 := ⟨wm_886, wm_887, wm_5, wm_888, by decide +kernel⟩
theorem hdm_X4_change : HdV yX4_change RX4 cX4_change 3 (some .int) 2 := ⟨wm_952, wm_953, wm_5, wm_954, by decide +kernel⟩
theorem hdm_X4_clearText : HdV yX4_clearText RX4 cX4_clearText 2 (some .int) 0 := ⟨wm_1005, wm_1006, wm_5, wm_1007, by decide +kernel⟩
theorem hdm_X4_digest : HdV yX4_digest RX4 cX4_digest 2 (some .long) 0 := ⟨wm_1029, wm_1030, wm_5, wm_1031, by decide +kernel⟩
theorem hdm_X4_machine : HdV yX4_machine RX4 cX4_machine 3 (some .int) 2 := ⟨wm_830, wm_831, wm_5, wm_832, by decide +kernel⟩
theorem hdm_X4_mayMove : HdV yX4_mayMove RX4 cX4_mayMove 4 (some .int) 2 := ⟨wm_976, wm_977, wm_5, wm_978, by decide +kernel⟩
theorem hdm_X4_move : HdV yX4_move RX4 cX4_move 3 (some .int) 2 := ⟨wm_926, wm_927, wm_5, wm_928, by decide +kernel⟩
theorem hdm_X4_pass : HdV yX4_pass RX4 cX4_pass 2 (some .int) 1 := ⟨wm_826, wm_827, wm_5, wm_828, by decide +kernel⟩
theorem hdm_X4_pile : HdV yX4_pile RX4 cX4_pile 3 (some .int) 2 := ⟨wm_968, wm_969, wm_5, wm_970, by decide +kernel⟩
theorem hdm_X4_plan : HdV yX4_plan RX4 cX4_plan 4 (some .int) 0 := ⟨wm_1009, wm_1010, wm_5, wm_1011, by decide +kernel⟩
theorem hdm_X4_rack : HdV yX4_rack RX4 cX4_rack 3 (some .int) 2 := ⟨wm_850, wm_851, wm_5, wm_852, by decide +kernel⟩
theorem hdm_X4_removeCable : HdV yX4_removeCable RX4 cX4_removeCable 2 (some .int) 1 := ⟨wm_806, wm_807, wm_5, wm_808, by decide +kernel⟩
theorem hdm_X4_removeFreeze : HdV yX4_removeFreeze RX4 cX4_removeFreeze 2 (some .int) 1 := ⟨wm_822, wm_823, wm_5, wm_824, by decide +kernel⟩
theorem hdm_X4_setLevel : HdV yX4_setLevel RX4 cX4_setLevel 2 (some .int) 1 := ⟨wm_786, wm_787, wm_5, wm_788, by decide +kernel⟩
theorem hdm_X4_setLimit : HdV yX4_setLimit RX4 cX4_setLimit 3 (some .int) 2 := ⟨wm_757, wm_758, wm_5, wm_759, by decide +kernel⟩
theorem hdm_X4_setTray : HdV yX4_setTray RX4 cX4_setTray 3 (some .int) 2 := ⟨wm_779, wm_780, wm_5, wm_781, by decide +kernel⟩
theorem hdm_X4_slot : HdV yX4_slot RX4 cX4_slot 3 (some .int) 2 := ⟨wm_882, wm_883, wm_5, wm_884, by decide +kernel⟩
theorem hdm_X4_taken : HdV yX4_taken RX4 cX4_taken 3 (some .double) 0 := ⟨wm_996, wm_997, wm_5, wm_998, by decide +kernel⟩
theorem hdm_X4_thrown : HdV yX4_thrown RX4 cX4_thrown 1 (some .int) 0 := ⟨wm_745, wm_746, wm_5, wm_747, by decide +kernel⟩
theorem hdm_X4_tray : HdV yX4_tray RX4 cX4_tray 2 (some .int) 1 := ⟨wm_898, wm_899, wm_5, wm_900, by decide +kernel⟩
theorem hdm_X4_undo : HdV yX4_undo RX4 cX4_undo 2 (some .int) 0 := ⟨wm_749, wm_750, wm_5, wm_751, by decide +kernel⟩
theorem hdm_X4_value : HdV yX4_value RX4 cX4_value 2 (some .int) 1 := ⟨wm_906, wm_907, wm_5, wm_908, by decide +kernel⟩
theorem hdw_setLimit : HdW yL_setLimit RL cL_setLimit 5 (some .int) [((0 : Nat), 10 , 13 , 13 ), ((0 : Nat), (10 : Nat), (17 : Nat), (15 : Nat)) ] 4 := ⟨wm_527, wm_0, wm_528, by decide +kernel⟩
theorem hdw_setTray : HdW yL_setTray RL cL_setTray 5 (some .int) [((0 : Nat), 10 , 13 , 13 ), ((0 : Nat), (10 : Nat), (17 : Nat), (15 : Nat)) ] 4 := ⟨wm_536, wm_0, wm_537, by decide +kernel⟩
theorem hdw_setLevel : HdW yL_setLevel RL cL_setLevel 4 (some .int) [((0 : Nat), 9 , 12 , 15 )] 3 := ⟨wm_543, wm_0, wm_544, by decide +kernel⟩
theorem hdw_addMachine : HdW yL_addMachine RL cL_addMachine 7 (some .int) [((0 : Nat), 14 , 17 , 15 ), ((0 : Nat), (14 : Nat), (21 : Nat), (28 : Nat)) ] 6 := ⟨wm_550, wm_0, wm_551, by decide +kernel⟩
theorem hdw_addCable : HdW yL_addCable RL cL_addCable 6 (some .int) [((0 : Nat), 12 , 15 , 13 ), ((0 : Nat), (12 : Nat), (19 : Nat), (15 : Nat)) , ((0 : Nat), (12 : Nat), (23 : Nat), (28 : Nat)) ] 5 := ⟨wm_581, wm_0, wm_582, by decide +kernel⟩
theorem hdw_removeCable : HdW yL_removeCable RL cL_removeCable 4 (some .int) [((0 : Nat), 9 , 12 , 13 )] 3 := ⟨wm_589, wm_0, wm_590, by decide +kernel⟩
theorem hdw_addFreeze : HdW yL_addFreeze RL cL_addFreeze 6 (some .int) [((0 : Nat), 12 , 15 , 15 ), ((0 : Nat), (12 : Nat), (19 : Nat), (28 : Nat)) ] 5 := ⟨wm_597, wm_0, wm_598, by decide +kernel⟩
theorem hdw_removeFreeze : HdW yL_removeFreeze RL cL_removeFreeze 4 (some .int) [((0 : Nat), 9 , 12 , 13 )] 3 := ⟨wm_604, wm_0, wm_605, by decide +kernel⟩
theorem hdw_pass : HdW yL_pass RL cL_pass 4 (some .int) [((0 : Nat), 9 , 12 , 15 ), ((0 : Nat), (9 : Nat), (15 : Nat), (28 : Nat)) ] 3 := ⟨wm_612, wm_0, wm_613, by decide +kernel⟩
theorem hdw_machine : HdW yL_machine RL cL_machine 5 (some .int) [((0 : Nat), 10 , 13 , 13 ), ((0 : Nat), (10 : Nat), (17 : Nat), (15 : Nat)) ] 4 := ⟨wm_620, wm_0, wm_621, by decide +kernel⟩
theorem hdw_rack : HdW yL_rack RL cL_rack 5 (some .int) [((0 : Nat), 10 , 13 , 13 ), ((0 : Nat), (10 : Nat), (17 : Nat), (15 : Nat)) ] 4 := ⟨wm_624, wm_0, wm_625, by decide +kernel⟩
theorem hdw_slot : HdW yL_slot RL cL_slot 5 (some .int) [((0 : Nat), 10 , 13 , 13 )] 4 := ⟨wm_628, wm_0, wm_629, by decide +kernel⟩
theorem hdw_cable : HdW yL_cable RL cL_cable 5 (some .int) [((0 : Nat), 10 , 13 , 13 ), ((0 : Nat), (10 : Nat), (17 : Nat), (15 : Nat)) ] 4 := ⟨wm_632, wm_0, wm_633, by decide +kernel⟩
theorem hdw_tray : HdW yL_tray RL cL_tray 4 (some .int) [((0 : Nat), 9 , 12 , 13 )] 3 := ⟨wm_636, wm_0, wm_637, by decide +kernel⟩
theorem hdw_value : HdW yL_value RL cL_value 4 (some .int) [((0 : Nat), 9 , 12 , 15 )] 3 := ⟨wm_640, wm_0, wm_641, by decide +kernel⟩
theorem hdw_move : HdW yL_move RL cL_move 5 (some .int) [((0 : Nat), 10 , 13 , 13 ), ((0 : Nat), (10 : Nat), (17 : Nat), (15 : Nat)) ] 4 := ⟨wm_644, wm_0, wm_645, by decide +kernel⟩
theorem hdw_change : HdW yL_change RL cL_change 5 (some .int) [((0 : Nat), 10 , 13 , 13 ), ((0 : Nat), (10 : Nat), (17 : Nat), (15 : Nat)) ] 4 := ⟨wm_653, wm_0, wm_654, by decide +kernel⟩
theorem hdw_pile : HdW yL_pile RL cL_pile 5 (some .int) [((0 : Nat), 10 , 13 , 13 ), ((0 : Nat), (10 : Nat), (17 : Nat), (15 : Nat)) ] 4 := ⟨wm_661, wm_0, wm_662, by decide +kernel⟩
theorem hdw_mayMove : HdW yL_mayMove RL cL_mayMove 5 (some .int) [((0 : Nat), 10 , 13 , 13 ), ((0 : Nat), (10 : Nat), (17 : Nat), (15 : Nat)) ] 4 := ⟨wm_665, wm_0, wm_666, by decide +kernel⟩
theorem hdw_bestRack : HdW yL_bestRack RL cL_bestRack 4 (some .int) [((0 : Nat), 9 , 12 , 13 )] 3 := ⟨wm_672, wm_0, wm_673, by decide +kernel⟩
theorem hdw_append : HdW yL_append RL cL_append 4 (some .int) [((0 : Nat), 9 , 12 , 15 ), ((0 : Nat), (9 : Nat), (15 : Nat), (28 : Nat)) ] 3 := ⟨wm_683, wm_0, wm_684, by decide +kernel⟩
theorem hdw_undo : HdW yL_undo RL cL_undo 3 (some .int) [((0 : Nat), 8 , 11 , 28 )] 2 := ⟨wm_691, wm_0, wm_692, by decide +kernel⟩
def FL_law (xs : Nat → Int32) (L : Nat) : Nat → Int32 → (Nat → Int64) → Int32 → RS → RS → TXS → MDS → RS → RS → RS → RS → Option Int32
  | 0, _, _, _, _, _, _, _, _, _, _, _ => none
  | N + 1, i, O, θ, ρ, π, τ, μ, S0, S1, S2, S3 =>
  if ((Int32.ofNat L) - (5 : Int32)) < i then
  (some (1 : Int32))
else
  (gd (¬ (i < 0 ∨ L ≤ (i).toNatClampNeg)) (
  nmv ((xs (i).toNatClampNeg) &&& (31 : Int32)) fun u2 =>
  if (u2).toInt < 0 ∨ 28 < (u2).toInt then
  (FL_law xs L N (i + 5) O θ ρ π τ μ S0 S1 S2 S3)
else if u2 = (0 : Int32) then
  (gd (¬ ((i + (1 : Int32)) < 0 ∨ L ≤ (i + (1 : Int32)).toNatClampNeg)) (
  gd (¬ ((i + (2 : Int32)) < 0 ∨ L ≤ (i + (2 : Int32)).toNatClampNeg)) (
  (FL_setLimit θ ρ S0 S1 S2 S3 (xs (i + (1 : Int32)).toNatClampNeg) (xs (i + (2 : Int32)).toNatClampNeg) O).bind fun z5 =>
  gd (¬ ((i + (1 : Int32)) < 0 ∨ L ≤ (i + (1 : Int32)).toNatClampNeg)) (
  gd (¬ ((i + (2 : Int32)) < 0 ∨ L ≤ (i + (2 : Int32)).toNatClampNeg)) (
  (FX4_setLimit μ (xs (i + (1 : Int32)).toNatClampNeg) (xs (i + (2 : Int32)).toNatClampNeg)).bind fun z11 =>
  (FX4_thrown z11.2).bind fun z13 =>
  if z13 = z5.1 then
  (if z5.1 = 0 then
  (if (lg_cmp (z5.2.2.2.2.2.2.2 ((0 : Int32)).toNatClampNeg) z11.1.toInt64) = 0 then
  (FL_law xs L N (i + 5) z5.2.2.2.2.2.2.2 z5.2.1 z5.2.2.1 π τ z11.2 z5.2.2.2.1 z5.2.2.2.2.1 z5.2.2.2.2.2.1 z5.2.2.2.2.2.2.1)
else
  (some (0 : Int32)))
else
  (FL_law xs L N (i + 5) z5.2.2.2.2.2.2.2 z5.2.1 z5.2.2.1 π τ z11.2 z5.2.2.2.1 z5.2.2.2.2.1 z5.2.2.2.2.2.1 z5.2.2.2.2.2.2.1))
else
  (some (0 : Int32)))))))
else if u2 = (1 : Int32) then
  (gd (¬ ((i + (1 : Int32)) < 0 ∨ L ≤ (i + (1 : Int32)).toNatClampNeg)) (
  gd (¬ ((i + (2 : Int32)) < 0 ∨ L ≤ (i + (2 : Int32)).toNatClampNeg)) (
  (FL_setTray θ ρ S0 S1 S2 S3 (xs (i + (1 : Int32)).toNatClampNeg) (xs (i + (2 : Int32)).toNatClampNeg) O).bind fun z19 =>
  gd (¬ ((i + (1 : Int32)) < 0 ∨ L ≤ (i + (1 : Int32)).toNatClampNeg)) (
  gd (¬ ((i + (2 : Int32)) < 0 ∨ L ≤ (i + (2 : Int32)).toNatClampNeg)) (
  (FX4_setTray μ (xs (i + (1 : Int32)).toNatClampNeg) (xs (i + (2 : Int32)).toNatClampNeg)).bind fun z25 =>
  (FX4_thrown z25.2).bind fun z27 =>
  if z27 = z19.1 then
  (if z19.1 = 0 then
  (if (lg_cmp (z19.2.2.2.2.2.2.2 ((0 : Int32)).toNatClampNeg) z25.1.toInt64) = 0 then
  (FL_law xs L N (i + 5) z19.2.2.2.2.2.2.2 z19.2.1 z19.2.2.1 π τ z25.2 z19.2.2.2.1 z19.2.2.2.2.1 z19.2.2.2.2.2.1 z19.2.2.2.2.2.2.1)
else
  (some (0 : Int32)))
else
  (FL_law xs L N (i + 5) z19.2.2.2.2.2.2.2 z19.2.1 z19.2.2.1 π τ z25.2 z19.2.2.2.1 z19.2.2.2.2.1 z19.2.2.2.2.2.1 z19.2.2.2.2.2.2.1))
else
  (some (0 : Int32)))))))
else if u2 = (2 : Int32) then
  (gd (¬ ((i + (1 : Int32)) < 0 ∨ L ≤ (i + (1 : Int32)).toNatClampNeg)) (
  (FL_setLevel θ ρ S0 S1 S2 S3 (xs (i + (1 : Int32)).toNatClampNeg) O).bind fun z33 =>
  gd (¬ ((i + (1 : Int32)) < 0 ∨ L ≤ (i + (1 : Int32)).toNatClampNeg)) (
  (FX4_setLevel μ (xs (i + (1 : Int32)).toNatClampNeg)).bind fun z39 =>
  (FX4_thrown z39.2).bind fun z41 =>
  if z41 = z33.1 then
  (if z33.1 = 0 then
  (if (lg_cmp (z33.2.2.2.2.2.2.2 ((0 : Int32)).toNatClampNeg) z39.1.toInt64) = 0 then
  (FL_law xs L N (i + 5) z33.2.2.2.2.2.2.2 z33.2.1 z33.2.2.1 π τ z39.2 z33.2.2.2.1 z33.2.2.2.2.1 z33.2.2.2.2.2.1 z33.2.2.2.2.2.2.1)
else
  (some (0 : Int32)))
else
  (FL_law xs L N (i + 5) z33.2.2.2.2.2.2.2 z33.2.1 z33.2.2.1 π τ z39.2 z33.2.2.2.1 z33.2.2.2.2.1 z33.2.2.2.2.2.1 z33.2.2.2.2.2.2.1))
else
  (some (0 : Int32)))))
else if u2 = (3 : Int32) then
  (gd (¬ ((i + (1 : Int32)) < 0 ∨ L ≤ (i + (1 : Int32)).toNatClampNeg)) (
  gd (¬ ((i + (2 : Int32)) < 0 ∨ L ≤ (i + (2 : Int32)).toNatClampNeg)) (
  gd (¬ ((i + (3 : Int32)) < 0 ∨ L ≤ (i + (3 : Int32)).toNatClampNeg)) (
  gd (¬ ((i + (4 : Int32)) < 0 ∨ L ≤ (i + (4 : Int32)).toNatClampNeg)) (
  (FL_addMachine θ ρ S0 S1 S2 S3 (xs (i + (1 : Int32)).toNatClampNeg) (xs (i + (2 : Int32)).toNatClampNeg) (xs (i + (3 : Int32)).toNatClampNeg) (xs (i + (4 : Int32)).toNatClampNeg) O).bind fun z47 =>
  gd (¬ ((i + (1 : Int32)) < 0 ∨ L ≤ (i + (1 : Int32)).toNatClampNeg)) (
  gd (¬ ((i + (2 : Int32)) < 0 ∨ L ≤ (i + (2 : Int32)).toNatClampNeg)) (
  gd (¬ ((i + (3 : Int32)) < 0 ∨ L ≤ (i + (3 : Int32)).toNatClampNeg)) (
  gd (¬ ((i + (4 : Int32)) < 0 ∨ L ≤ (i + (4 : Int32)).toNatClampNeg)) (
  (FX4_addMachine μ (xs (i + (1 : Int32)).toNatClampNeg) (xs (i + (2 : Int32)).toNatClampNeg) (xs (i + (3 : Int32)).toNatClampNeg) (xs (i + (4 : Int32)).toNatClampNeg)).bind fun z53 =>
  (FX4_thrown z53.2).bind fun z55 =>
  if z55 = z47.1 then
  (if z47.1 = 0 then
  (if (lg_cmp (z47.2.2.2.2.2.2.2 ((0 : Int32)).toNatClampNeg) z53.1.toInt64) = 0 then
  (FL_law xs L N (i + 5) z47.2.2.2.2.2.2.2 z47.2.1 z47.2.2.1 π τ z53.2 z47.2.2.2.1 z47.2.2.2.2.1 z47.2.2.2.2.2.1 z47.2.2.2.2.2.2.1)
else
  (some (0 : Int32)))
else
  (FL_law xs L N (i + 5) z47.2.2.2.2.2.2.2 z47.2.1 z47.2.2.1 π τ z53.2 z47.2.2.2.1 z47.2.2.2.2.1 z47.2.2.2.2.2.1 z47.2.2.2.2.2.2.1))
else
  (some (0 : Int32)))))))))))
else if u2 = (4 : Int32) then
  (gd (¬ ((i + (1 : Int32)) < 0 ∨ L ≤ (i + (1 : Int32)).toNatClampNeg)) (
  gd (¬ ((i + (2 : Int32)) < 0 ∨ L ≤ (i + (2 : Int32)).toNatClampNeg)) (
  gd (¬ ((i + (3 : Int32)) < 0 ∨ L ≤ (i + (3 : Int32)).toNatClampNeg)) (
  (FL_addCable θ ρ S0 S1 S2 S3 (xs (i + (1 : Int32)).toNatClampNeg) (xs (i + (2 : Int32)).toNatClampNeg) (xs (i + (3 : Int32)).toNatClampNeg) O).bind fun z61 =>
  gd (¬ ((i + (1 : Int32)) < 0 ∨ L ≤ (i + (1 : Int32)).toNatClampNeg)) (
  gd (¬ ((i + (2 : Int32)) < 0 ∨ L ≤ (i + (2 : Int32)).toNatClampNeg)) (
  gd (¬ ((i + (3 : Int32)) < 0 ∨ L ≤ (i + (3 : Int32)).toNatClampNeg)) (
  (FX4_addCable μ (xs (i + (1 : Int32)).toNatClampNeg) (xs (i + (2 : Int32)).toNatClampNeg) (xs (i + (3 : Int32)).toNatClampNeg)).bind fun z67 =>
  (FX4_thrown z67.2).bind fun z69 =>
  if z69 = z61.1 then
  (if z61.1 = 0 then
  (if (lg_cmp (z61.2.2.2.2.2.2.2 ((0 : Int32)).toNatClampNeg) z67.1.toInt64) = 0 then
  (FL_law xs L N (i + 5) z61.2.2.2.2.2.2.2 z61.2.1 z61.2.2.1 π τ z67.2 z61.2.2.2.1 z61.2.2.2.2.1 z61.2.2.2.2.2.1 z61.2.2.2.2.2.2.1)
else
  (some (0 : Int32)))
else
  (FL_law xs L N (i + 5) z61.2.2.2.2.2.2.2 z61.2.1 z61.2.2.1 π τ z67.2 z61.2.2.2.1 z61.2.2.2.2.1 z61.2.2.2.2.2.1 z61.2.2.2.2.2.2.1))
else
  (some (0 : Int32)))))))))
else if u2 = (5 : Int32) then
  (gd (¬ ((i + (1 : Int32)) < 0 ∨ L ≤ (i + (1 : Int32)).toNatClampNeg)) (
  (FL_removeCable θ ρ S0 S1 S2 S3 (xs (i + (1 : Int32)).toNatClampNeg) O).bind fun z75 =>
  gd (¬ ((i + (1 : Int32)) < 0 ∨ L ≤ (i + (1 : Int32)).toNatClampNeg)) (
  (FX4_removeCable μ (xs (i + (1 : Int32)).toNatClampNeg)).bind fun z81 =>
  (FX4_thrown z81.2).bind fun z83 =>
  if z83 = z75.1 then
  (if z75.1 = 0 then
  (if (lg_cmp (z75.2.2.2.2.2.2.2 ((0 : Int32)).toNatClampNeg) z81.1.toInt64) = 0 then
  (FL_law xs L N (i + 5) z75.2.2.2.2.2.2.2 z75.2.1 z75.2.2.1 π τ z81.2 z75.2.2.2.1 z75.2.2.2.2.1 z75.2.2.2.2.2.1 z75.2.2.2.2.2.2.1)
else
  (some (0 : Int32)))
else
  (FL_law xs L N (i + 5) z75.2.2.2.2.2.2.2 z75.2.1 z75.2.2.1 π τ z81.2 z75.2.2.2.1 z75.2.2.2.2.1 z75.2.2.2.2.2.1 z75.2.2.2.2.2.2.1))
else
  (some (0 : Int32)))))
else if u2 = (6 : Int32) then
  (gd (¬ ((i + (1 : Int32)) < 0 ∨ L ≤ (i + (1 : Int32)).toNatClampNeg)) (
  gd (¬ ((i + (2 : Int32)) < 0 ∨ L ≤ (i + (2 : Int32)).toNatClampNeg)) (
  gd (¬ ((i + (3 : Int32)) < 0 ∨ L ≤ (i + (3 : Int32)).toNatClampNeg)) (
  (FL_addFreeze θ ρ S0 S1 S2 S3 (xs (i + (1 : Int32)).toNatClampNeg) (xs (i + (2 : Int32)).toNatClampNeg) (xs (i + (3 : Int32)).toNatClampNeg) O).bind fun z89 =>
  gd (¬ ((i + (1 : Int32)) < 0 ∨ L ≤ (i + (1 : Int32)).toNatClampNeg)) (
  gd (¬ ((i + (2 : Int32)) < 0 ∨ L ≤ (i + (2 : Int32)).toNatClampNeg)) (
  gd (¬ ((i + (3 : Int32)) < 0 ∨ L ≤ (i + (3 : Int32)).toNatClampNeg)) (
  (FX4_addFreeze μ (xs (i + (1 : Int32)).toNatClampNeg) (xs (i + (2 : Int32)).toNatClampNeg) (xs (i + (3 : Int32)).toNatClampNeg)).bind fun z95 =>
  (FX4_thrown z95.2).bind fun z97 =>
  if z97 = z89.1 then
  (if z89.1 = 0 then
  (if (lg_cmp (z89.2.2.2.2.2.2.2 ((0 : Int32)).toNatClampNeg) z95.1.toInt64) = 0 then
  (FL_law xs L N (i + 5) z89.2.2.2.2.2.2.2 z89.2.1 z89.2.2.1 π τ z95.2 z89.2.2.2.1 z89.2.2.2.2.1 z89.2.2.2.2.2.1 z89.2.2.2.2.2.2.1)
else
  (some (0 : Int32)))
else
  (FL_law xs L N (i + 5) z89.2.2.2.2.2.2.2 z89.2.1 z89.2.2.1 π τ z95.2 z89.2.2.2.1 z89.2.2.2.2.1 z89.2.2.2.2.2.1 z89.2.2.2.2.2.2.1))
else
  (some (0 : Int32)))))))))
else if u2 = (7 : Int32) then
  (gd (¬ ((i + (1 : Int32)) < 0 ∨ L ≤ (i + (1 : Int32)).toNatClampNeg)) (
  (FL_removeFreeze θ ρ S0 S1 S2 S3 (xs (i + (1 : Int32)).toNatClampNeg) O).bind fun z103 =>
  gd (¬ ((i + (1 : Int32)) < 0 ∨ L ≤ (i + (1 : Int32)).toNatClampNeg)) (
  (FX4_removeFreeze μ (xs (i + (1 : Int32)).toNatClampNeg)).bind fun z109 =>
  (FX4_thrown z109.2).bind fun z111 =>
  if z111 = z103.1 then
  (if z103.1 = 0 then
  (if (lg_cmp (z103.2.2.2.2.2.2.2 ((0 : Int32)).toNatClampNeg) z109.1.toInt64) = 0 then
  (FL_law xs L N (i + 5) z103.2.2.2.2.2.2.2 z103.2.1 z103.2.2.1 π τ z109.2 z103.2.2.2.1 z103.2.2.2.2.1 z103.2.2.2.2.2.1 z103.2.2.2.2.2.2.1)
else
  (some (0 : Int32)))
else
  (FL_law xs L N (i + 5) z103.2.2.2.2.2.2.2 z103.2.1 z103.2.2.1 π τ z109.2 z103.2.2.2.1 z103.2.2.2.2.1 z103.2.2.2.2.2.1 z103.2.2.2.2.2.2.1))
else
  (some (0 : Int32)))))
else if u2 = (8 : Int32) then
  (gd (¬ ((i + (1 : Int32)) < 0 ∨ L ≤ (i + (1 : Int32)).toNatClampNeg)) (
  (FL_pass θ ρ S0 S1 S2 S3 (xs (i + (1 : Int32)).toNatClampNeg) O).bind fun z117 =>
  gd (¬ ((i + (1 : Int32)) < 0 ∨ L ≤ (i + (1 : Int32)).toNatClampNeg)) (
  (FX4_pass μ (xs (i + (1 : Int32)).toNatClampNeg)).bind fun z123 =>
  (FX4_thrown z123.2).bind fun z125 =>
  if z125 = z117.1 then
  (if z117.1 = 0 then
  (if (lg_cmp (z117.2.2.2.2.2.2.2 ((0 : Int32)).toNatClampNeg) z123.1.toInt64) = 0 then
  (FL_law xs L N (i + 5) z117.2.2.2.2.2.2.2 z117.2.1 z117.2.2.1 π τ z123.2 z117.2.2.2.1 z117.2.2.2.2.1 z117.2.2.2.2.2.1 z117.2.2.2.2.2.2.1)
else
  (some (0 : Int32)))
else
  (FL_law xs L N (i + 5) z117.2.2.2.2.2.2.2 z117.2.1 z117.2.2.1 π τ z123.2 z117.2.2.2.1 z117.2.2.2.2.1 z117.2.2.2.2.2.1 z117.2.2.2.2.2.2.1))
else
  (some (0 : Int32)))))
else if u2 = (9 : Int32) then
  (gd (¬ ((i + (1 : Int32)) < 0 ∨ L ≤ (i + (1 : Int32)).toNatClampNeg)) (
  gd (¬ ((i + (2 : Int32)) < 0 ∨ L ≤ (i + (2 : Int32)).toNatClampNeg)) (
  (FL_machine θ ρ (xs (i + (1 : Int32)).toNatClampNeg) (xs (i + (2 : Int32)).toNatClampNeg) O).bind fun z131 =>
  gd (¬ ((i + (1 : Int32)) < 0 ∨ L ≤ (i + (1 : Int32)).toNatClampNeg)) (
  gd (¬ ((i + (2 : Int32)) < 0 ∨ L ≤ (i + (2 : Int32)).toNatClampNeg)) (
  (FX4_machine μ (xs (i + (1 : Int32)).toNatClampNeg) (xs (i + (2 : Int32)).toNatClampNeg)).bind fun z133 =>
  (FX4_thrown z133.2).bind fun z135 =>
  if z135 = z131.1 then
  (if z131.1 = 0 then
  (if (lg_cmp (z131.2 ((0 : Int32)).toNatClampNeg) z133.1.toInt64) = 0 then
  (FL_law xs L N (i + 5) z131.2 θ ρ π τ z133.2 S0 S1 S2 S3)
else
  (some (0 : Int32)))
else
  (FL_law xs L N (i + 5) z131.2 θ ρ π τ z133.2 S0 S1 S2 S3))
else
  (some (0 : Int32)))))))
else if u2 = (10 : Int32) then
  (gd (¬ ((i + (1 : Int32)) < 0 ∨ L ≤ (i + (1 : Int32)).toNatClampNeg)) (
  gd (¬ ((i + (2 : Int32)) < 0 ∨ L ≤ (i + (2 : Int32)).toNatClampNeg)) (
  (FL_rack θ ρ (xs (i + (1 : Int32)).toNatClampNeg) (xs (i + (2 : Int32)).toNatClampNeg) O).bind fun z141 =>
  gd (¬ ((i + (1 : Int32)) < 0 ∨ L ≤ (i + (1 : Int32)).toNatClampNeg)) (
  gd (¬ ((i + (2 : Int32)) < 0 ∨ L ≤ (i + (2 : Int32)).toNatClampNeg)) (
  (FX4_rack μ (xs (i + (1 : Int32)).toNatClampNeg) (xs (i + (2 : Int32)).toNatClampNeg)).bind fun z143 =>
  (FX4_thrown z143.2).bind fun z145 =>
  if z145 = z141.1 then
  (if z141.1 = 0 then
  (if (lg_cmp (z141.2 ((0 : Int32)).toNatClampNeg) z143.1.toInt64) = 0 then
  (FL_law xs L N (i + 5) z141.2 θ ρ π τ z143.2 S0 S1 S2 S3)
else
  (some (0 : Int32)))
else
  (FL_law xs L N (i + 5) z141.2 θ ρ π τ z143.2 S0 S1 S2 S3))
else
  (some (0 : Int32)))))))
else if u2 = (11 : Int32) then
  (gd (¬ ((i + (1 : Int32)) < 0 ∨ L ≤ (i + (1 : Int32)).toNatClampNeg)) (
  gd (¬ ((i + (2 : Int32)) < 0 ∨ L ≤ (i + (2 : Int32)).toNatClampNeg)) (
  (FL_slot θ ρ (xs (i + (1 : Int32)).toNatClampNeg) (xs (i + (2 : Int32)).toNatClampNeg) O).bind fun z151 =>
  gd (¬ ((i + (1 : Int32)) < 0 ∨ L ≤ (i + (1 : Int32)).toNatClampNeg)) (
  gd (¬ ((i + (2 : Int32)) < 0 ∨ L ≤ (i + (2 : Int32)).toNatClampNeg)) (
  (FX4_slot μ (xs (i + (1 : Int32)).toNatClampNeg) (xs (i + (2 : Int32)).toNatClampNeg)).bind fun z153 =>
  (FX4_thrown z153.2).bind fun z155 =>
  if z155 = z151.1 then
  (if z151.1 = 0 then
  (if (lg_cmp (z151.2 ((0 : Int32)).toNatClampNeg) z153.1.toInt64) = 0 then
  (FL_law xs L N (i + 5) z151.2 θ ρ π τ z153.2 S0 S1 S2 S3)
else
  (some (0 : Int32)))
else
  (FL_law xs L N (i + 5) z151.2 θ ρ π τ z153.2 S0 S1 S2 S3))
else
  (some (0 : Int32)))))))
else if u2 = (12 : Int32) then
  (gd (¬ ((i + (1 : Int32)) < 0 ∨ L ≤ (i + (1 : Int32)).toNatClampNeg)) (
  gd (¬ ((i + (2 : Int32)) < 0 ∨ L ≤ (i + (2 : Int32)).toNatClampNeg)) (
  (FL_cable θ ρ (xs (i + (1 : Int32)).toNatClampNeg) (xs (i + (2 : Int32)).toNatClampNeg) O).bind fun z161 =>
  gd (¬ ((i + (1 : Int32)) < 0 ∨ L ≤ (i + (1 : Int32)).toNatClampNeg)) (
  gd (¬ ((i + (2 : Int32)) < 0 ∨ L ≤ (i + (2 : Int32)).toNatClampNeg)) (
  (FX4_cable μ (xs (i + (1 : Int32)).toNatClampNeg) (xs (i + (2 : Int32)).toNatClampNeg)).bind fun z163 =>
  (FX4_thrown z163.2).bind fun z165 =>
  if z165 = z161.1 then
  (if z161.1 = 0 then
  (if (lg_cmp (z161.2 ((0 : Int32)).toNatClampNeg) z163.1.toInt64) = 0 then
  (FL_law xs L N (i + 5) z161.2 θ ρ π τ z163.2 S0 S1 S2 S3)
else
  (some (0 : Int32)))
else
  (FL_law xs L N (i + 5) z161.2 θ ρ π τ z163.2 S0 S1 S2 S3))
else
  (some (0 : Int32)))))))
else if u2 = (13 : Int32) then
  (gd (¬ ((i + (1 : Int32)) < 0 ∨ L ≤ (i + (1 : Int32)).toNatClampNeg)) (
  (FL_tray θ ρ (xs (i + (1 : Int32)).toNatClampNeg) O).bind fun z171 =>
  gd (¬ ((i + (1 : Int32)) < 0 ∨ L ≤ (i + (1 : Int32)).toNatClampNeg)) (
  (FX4_tray μ (xs (i + (1 : Int32)).toNatClampNeg)).bind fun z173 =>
  (FX4_thrown z173.2).bind fun z175 =>
  if z175 = z171.1 then
  (if z171.1 = 0 then
  (if (lg_cmp (z171.2 ((0 : Int32)).toNatClampNeg) z173.1.toInt64) = 0 then
  (FL_law xs L N (i + 5) z171.2 θ ρ π τ z173.2 S0 S1 S2 S3)
else
  (some (0 : Int32)))
else
  (FL_law xs L N (i + 5) z171.2 θ ρ π τ z173.2 S0 S1 S2 S3))
else
  (some (0 : Int32)))))
else if u2 = (14 : Int32) then
  (gd (¬ ((i + (1 : Int32)) < 0 ∨ L ≤ (i + (1 : Int32)).toNatClampNeg)) (
  (FL_value θ ρ (xs (i + (1 : Int32)).toNatClampNeg) O).bind fun z181 =>
  gd (¬ ((i + (1 : Int32)) < 0 ∨ L ≤ (i + (1 : Int32)).toNatClampNeg)) (
  (FX4_value μ (xs (i + (1 : Int32)).toNatClampNeg)).bind fun z183 =>
  (FX4_thrown z183.2).bind fun z185 =>
  if z185 = z181.1 then
  (if z181.1 = 0 then
  (if (lg_cmp (z181.2 ((0 : Int32)).toNatClampNeg) z183.1.toInt64) = 0 then
  (FL_law xs L N (i + 5) z181.2 θ ρ π τ z183.2 S0 S1 S2 S3)
else
  (some (0 : Int32)))
else
  (FL_law xs L N (i + 5) z181.2 θ ρ π τ z183.2 S0 S1 S2 S3))
else
  (some (0 : Int32)))))
else if u2 = (15 : Int32) then
  (gd (¬ ((i + (1 : Int32)) < 0 ∨ L ≤ (i + (1 : Int32)).toNatClampNeg)) (
  gd (¬ ((i + (2 : Int32)) < 0 ∨ L ≤ (i + (2 : Int32)).toNatClampNeg)) (
  (FL_move θ ρ S0 S1 S2 S3 (xs (i + (1 : Int32)).toNatClampNeg) (xs (i + (2 : Int32)).toNatClampNeg) O).bind fun z191 =>
  gd (¬ ((i + (1 : Int32)) < 0 ∨ L ≤ (i + (1 : Int32)).toNatClampNeg)) (
  gd (¬ ((i + (2 : Int32)) < 0 ∨ L ≤ (i + (2 : Int32)).toNatClampNeg)) (
  (FX4_move μ (xs (i + (1 : Int32)).toNatClampNeg) (xs (i + (2 : Int32)).toNatClampNeg)).bind fun z197 =>
  (FX4_thrown z197.2).bind fun z199 =>
  if z199 = z191.1 then
  (if z191.1 = 0 then
  (if (lg_cmp (z191.2.2.2.2.2.2.2 ((0 : Int32)).toNatClampNeg) z197.1.toInt64) = 0 then
  (FL_law xs L N (i + 5) z191.2.2.2.2.2.2.2 z191.2.1 z191.2.2.1 π τ z197.2 z191.2.2.2.1 z191.2.2.2.2.1 z191.2.2.2.2.2.1 z191.2.2.2.2.2.2.1)
else
  (some (0 : Int32)))
else
  (FL_law xs L N (i + 5) z191.2.2.2.2.2.2.2 z191.2.1 z191.2.2.1 π τ z197.2 z191.2.2.2.1 z191.2.2.2.2.1 z191.2.2.2.2.2.1 z191.2.2.2.2.2.2.1))
else
  (some (0 : Int32)))))))
else if u2 = (16 : Int32) then
  (gd (¬ ((i + (1 : Int32)) < 0 ∨ L ≤ (i + (1 : Int32)).toNatClampNeg)) (
  gd (¬ ((i + (2 : Int32)) < 0 ∨ L ≤ (i + (2 : Int32)).toNatClampNeg)) (
  (FL_change θ ρ S0 S1 S2 S3 (xs (i + (1 : Int32)).toNatClampNeg) (xs (i + (2 : Int32)).toNatClampNeg) O).bind fun z205 =>
  gd (¬ ((i + (1 : Int32)) < 0 ∨ L ≤ (i + (1 : Int32)).toNatClampNeg)) (
  gd (¬ ((i + (2 : Int32)) < 0 ∨ L ≤ (i + (2 : Int32)).toNatClampNeg)) (
  (FX4_change μ (xs (i + (1 : Int32)).toNatClampNeg) (xs (i + (2 : Int32)).toNatClampNeg)).bind fun z211 =>
  (FX4_thrown z211.2).bind fun z213 =>
  if z213 = z205.1 then
  (if z205.1 = 0 then
  (if (lg_cmp (z205.2.2.2.2.2.2.2 ((0 : Int32)).toNatClampNeg) z211.1.toInt64) = 0 then
  (FL_law xs L N (i + 5) z205.2.2.2.2.2.2.2 z205.2.1 z205.2.2.1 π τ z211.2 z205.2.2.2.1 z205.2.2.2.2.1 z205.2.2.2.2.2.1 z205.2.2.2.2.2.2.1)
else
  (some (0 : Int32)))
else
  (FL_law xs L N (i + 5) z205.2.2.2.2.2.2.2 z205.2.1 z205.2.2.1 π τ z211.2 z205.2.2.2.1 z205.2.2.2.2.1 z205.2.2.2.2.2.1 z205.2.2.2.2.2.2.1))
else
  (some (0 : Int32)))))))
else if u2 = (17 : Int32) then
  ((FX3_backOut θ ρ S0 S1 S2 S3).bind fun z219 =>
  (FX4_backOut μ).bind fun z225 =>
  if z219.1 = z225.1 then
  (FL_law xs L N (i + 5) O z219.2.1 z219.2.2.1 π τ z225.2 z219.2.2.2.1 z219.2.2.2.2.1 z219.2.2.2.2.2.1 z219.2.2.2.2.2.2)
else
  (some (0 : Int32)))
else if u2 = (18 : Int32) then
  (gd (¬ ((i + (1 : Int32)) < 0 ∨ L ≤ (i + (1 : Int32)).toNatClampNeg)) (
  gd (¬ ((i + (2 : Int32)) < 0 ∨ L ≤ (i + (2 : Int32)).toNatClampNeg)) (
  (FL_pile θ ρ (xs (i + (1 : Int32)).toNatClampNeg) (xs (i + (2 : Int32)).toNatClampNeg) O).bind fun z229 =>
  gd (¬ ((i + (1 : Int32)) < 0 ∨ L ≤ (i + (1 : Int32)).toNatClampNeg)) (
  gd (¬ ((i + (2 : Int32)) < 0 ∨ L ≤ (i + (2 : Int32)).toNatClampNeg)) (
  (FX4_pile μ (xs (i + (1 : Int32)).toNatClampNeg) (xs (i + (2 : Int32)).toNatClampNeg)).bind fun z231 =>
  (FX4_thrown z231.2).bind fun z233 =>
  if z233 = z229.1 then
  (if z229.1 = 0 then
  (if (lg_cmp (z229.2 ((0 : Int32)).toNatClampNeg) z231.1.toInt64) = 0 then
  (FL_law xs L N (i + 5) z229.2 θ ρ π τ z231.2 S0 S1 S2 S3)
else
  (some (0 : Int32)))
else
  (FL_law xs L N (i + 5) z229.2 θ ρ π τ z231.2 S0 S1 S2 S3))
else
  (some (0 : Int32)))))))
else if u2 = (19 : Int32) then
  (gd (¬ ((i + (1 : Int32)) < 0 ∨ L ≤ (i + (1 : Int32)).toNatClampNeg)) (
  gd (¬ ((i + (2 : Int32)) < 0 ∨ L ≤ (i + (2 : Int32)).toNatClampNeg)) (
  (FL_mayMove θ ρ (xs (i + (1 : Int32)).toNatClampNeg) (xs (i + (2 : Int32)).toNatClampNeg) O).bind fun z239 =>
  gd (¬ ((i + (1 : Int32)) < 0 ∨ L ≤ (i + (1 : Int32)).toNatClampNeg)) (
  gd (¬ ((i + (2 : Int32)) < 0 ∨ L ≤ (i + (2 : Int32)).toNatClampNeg)) (
  (FX4_mayMove μ (xs (i + (1 : Int32)).toNatClampNeg) (xs (i + (2 : Int32)).toNatClampNeg)).bind fun z241 =>
  (FX4_thrown z241.2).bind fun z243 =>
  if z243 = z239.1 then
  (if z239.1 = 0 then
  (if (lg_cmp (z239.2.2 ((0 : Int32)).toNatClampNeg) z241.1.toInt64) = 0 then
  (FL_law xs L N (i + 5) z239.2.2 θ z239.2.1 π τ z241.2 S0 S1 S2 S3)
else
  (some (0 : Int32)))
else
  (FL_law xs L N (i + 5) z239.2.2 θ z239.2.1 π τ z241.2 S0 S1 S2 S3))
else
  (some (0 : Int32)))))))
else if u2 = (20 : Int32) then
  (gd (¬ ((i + (1 : Int32)) < 0 ∨ L ≤ (i + (1 : Int32)).toNatClampNeg)) (
  (FL_bestRack θ ρ (xs (i + (1 : Int32)).toNatClampNeg) O).bind fun z249 =>
  gd (¬ ((i + (1 : Int32)) < 0 ∨ L ≤ (i + (1 : Int32)).toNatClampNeg)) (
  (FX4_bestRack μ (xs (i + (1 : Int32)).toNatClampNeg)).bind fun z251 =>
  (FX4_thrown z251.2).bind fun z253 =>
  if z253 = z249.1 then
  (if z249.1 = 0 then
  (if (lg_cmp (z249.2.2 ((0 : Int32)).toNatClampNeg) z251.1.toInt64) = 0 then
  (FL_law xs L N (i + 5) z249.2.2 θ z249.2.1 π τ z251.2 S0 S1 S2 S3)
else
  (some (0 : Int32)))
else
  (FL_law xs L N (i + 5) z249.2.2 θ z249.2.1 π τ z251.2 S0 S1 S2 S3))
else
  (some (0 : Int32)))))
else if u2 = (21 : Int32) then
  ((FX3_bestChange θ ρ).bind fun z259 =>
  (FX4_bestChange μ).bind fun z261 =>
  if z259.1 = z261.1 then
  (FL_law xs L N (i + 5) O θ z259.2 π τ z261.2 S0 S1 S2 S3)
else
  (some (0 : Int32)))
else if u2 = (22 : Int32) then
  ((FX3_backable θ ρ π).bind fun z265 =>
  (FX4_backable μ).bind fun z267 =>
  if z265.1 = z267.1 then
  (FL_law xs L N (i + 5) O θ ρ z265.2 τ z267.2 S0 S1 S2 S3)
else
  (some (0 : Int32)))
else if u2 = (23 : Int32) then
  ((FX3_taken θ ρ).bind fun z271 =>
  (FX4_taken μ).bind fun z273 =>
  if (Op.cmpValue (FP.dcmp z271 z273.1) .l) = 0 then
  (FL_law xs L N (i + 5) O θ ρ π τ z273.2 S0 S1 S2 S3)
else
  (if (Op.cmpValue (FP.dcmp z271 z271) .l) = 0 then
  (some (0 : Int32))
else
  (if (Op.cmpValue (FP.dcmp z273.1 z273.1) .l) = 0 then
  (some (0 : Int32))
else
  (FL_law xs L N (i + 5) O θ ρ π τ z273.2 S0 S1 S2 S3))))
else if u2 = (24 : Int32) then
  (gd (¬ ((i + (1 : Int32)) < 0 ∨ L ≤ (i + (1 : Int32)).toNatClampNeg)) (
  (FL_append θ τ (xs (i + (1 : Int32)).toNatClampNeg) O).bind fun z279 =>
  gd (¬ ((i + (1 : Int32)) < 0 ∨ L ≤ (i + (1 : Int32)).toNatClampNeg)) (
  (FX4_append μ (xs (i + (1 : Int32)).toNatClampNeg)).bind fun z281 =>
  (FX4_thrown z281.2).bind fun z283 =>
  if z283 = z279.1 then
  (if z279.1 = 0 then
  (if (lg_cmp (z279.2.2 ((0 : Int32)).toNatClampNeg) z281.1.toInt64) = 0 then
  (FL_law xs L N (i + 5) z279.2.2 θ ρ π z279.2.1 z281.2 S0 S1 S2 S3)
else
  (some (0 : Int32)))
else
  (FL_law xs L N (i + 5) z279.2.2 θ ρ π z279.2.1 z281.2 S0 S1 S2 S3))
else
  (some (0 : Int32)))))
else if u2 = (25 : Int32) then
  ((FX3_clearText θ τ).bind fun z289 =>
  (FX4_clearText μ).bind fun z291 =>
  if z289.1 = z291.1 then
  (FL_law xs L N (i + 5) O θ ρ π z289.2 z291.2 S0 S1 S2 S3)
else
  (some (0 : Int32)))
else if u2 = (26 : Int32) then
  ((FX3_plan θ ρ π τ S0 S1 S2 S3).bind fun z295 =>
  (FX4_plan μ).bind fun z303 =>
  if z295.1 = z303.1 then
  (FL_law xs L N (i + 5) O z295.2.1 z295.2.2.1 z295.2.2.2.1 z295.2.2.2.2.1 z303.2 z295.2.2.2.2.2.1 z295.2.2.2.2.2.2.1 z295.2.2.2.2.2.2.2.1 z295.2.2.2.2.2.2.2.2)
else
  (some (0 : Int32)))
else if u2 = (27 : Int32) then
  ((FL_undo θ ρ S0 S1 S2 S3 O).bind fun z307 =>
  (FX4_undo μ).bind fun z314 =>
  (FX4_thrown z314.2).bind fun z316 =>
  if z316 = z307.1 then
  (if z307.1 = 0 then
  (if (lg_cmp (z307.2.2.2.2.2.2.2 ((0 : Int32)).toNatClampNeg) z314.1.toInt64) = 0 then
  (FL_law xs L N (i + 5) z307.2.2.2.2.2.2.2 z307.2.1 z307.2.2.1 π τ z314.2 z307.2.2.2.1 z307.2.2.2.2.1 z307.2.2.2.2.2.1 z307.2.2.2.2.2.2.1)
else
  (some (0 : Int32)))
else
  (FL_law xs L N (i + 5) z307.2.2.2.2.2.2.2 z307.2.1 z307.2.2.1 π τ z314.2 z307.2.2.2.1 z307.2.2.2.2.1 z307.2.2.2.2.2.1 z307.2.2.2.2.2.2.1))
else
  (some (0 : Int32)))
else if u2 = (28 : Int32) then
  ((FX3_digest θ ρ τ).bind fun z322 =>
  (FX4_digest μ).bind fun z324 =>
  if (lg_cmp z322 z324.1) = 0 then
  (FL_law xs L N (i + 5) O θ ρ π τ z324.2 S0 S1 S2 S3)
else
  (some (0 : Int32)))
else none))
set_option maxHeartbeats 40000000 in
set_option maxRecDepth 100000 in
theorem CL_law (l : Launch) (hl0 : l.stackTraces = false) (D : va_G) (X : Cx) (b L : Nat) (xs : Nat → Int32) (h : OK X D 9 cL_law RL) (hXL : XKL X) (hLX : LWX X b L xs) (aθ aO aν : Nat) (aτ aμ : Nat → Nat) : ∀ (N k n : Nat) (aρ aπ aS0 aS1 aS2 aS3 : Nat → Nat) (i : Int32) (O : (Nat → Int64)) (θ : Int32) (ρ : RS) (π : RS) (τ : TXS) (μ : MDS) (S0 : RS) (S1 : RS) (S2 : RS) (S3 : RS), k + N ≤ 600000 → n + 6 * N ≤ 7000000 → FL_law xs L N i O θ ρ π τ μ S0 S1 S2 S3 = some 1 → J X l room_1 D 9 k n ([ouW D aO O, rkW D aθ (aρ 0) (aπ 0) aν (aτ 0) θ, rmW D aρ ρ, rmW D aπ π, txW D aτ τ, mdW D aμ μ, tlW D aν aS0 aS1 aS2 aS3 S0 S1 S2 S3].flatten) [(4, .int i), (3, .ref aO), (2, .ref (aμ 0)), (1, .ref aθ), (0, .ref b)] 23 [] := by
  intro N
  induction N with
  | zero => intro k n aρ aπ aS0 aS1 aS2 aS3 i O θ ρ π τ μ S0 S1 S2 S3 hk hn hF; cases hF
  | succ N ih =>
    intro k n aρ aπ aS0 aS1 aS2 aS3 i O θ ρ π τ μ S0 S1 S2 S3 hk hn hF
    rw [FL_law] at hF
    refine r_iload h 0 rfl dL_law_23 ?_
    refine r_aload_n h 4 rfl rfl dL_law_25 ?_
    refine r_slen h hLX dL_law_26 ?_
    refine r_iconst (v := 5) h dL_law_27 (by decide) ?_
    refine r_isub h dL_law_28 ?_
    refine r_icmp_gt h 1718 dL_law_29 (by decide) (fun c1 => ?_) (fun c1 => ?_)
    · replace hF := o_pos c1 hF
      refine r_iconst (v := 1) h dL_law_1718 (by decide) ?_
      cases hF
      refine J.widen (k1 := 601024) (n1 := 7293034) (by omega) (by omega) ?_
      exact r_lawret h hLX dL_law_1719
    · replace hF := o_neg c1 hF
      refine r_aload_n h 4 rfl rfl dL_law_32 ?_
      refine r_iload h 0 rfl dL_law_33 ?_
      obtain ⟨hN, hF⟩ := o_gd hF
      refine r_sld h hLX hN dL_law_35 ?_
      refine r_bipush (v := 31) h dL_law_36 (by decide) ?_
      refine r_iand h dL_law_38 ?_
      obtain ⟨u2, hu2, hF⟩ := o_nm hF
      refine J.top hu2 ?_
      by_cases c3 : (u2).toInt < 0 ∨ 28 < (u2).toInt
      · replace hF := o_pos c3 hF
        refine r_tswOut h 1712 dL_law_39 c3 (by decide) ?_
        refine r_iinc (lv' := [(4, .int (i + 5)), (3, .ref aO), (2, .ref (aμ 0)), (1, .ref aθ), (0, .ref b)]) h 0 rfl (congrArg (fun z => i + z) (by decide : Int32.ofInt 5 = 5)) dL_law_1712 (by decide) rfl ?_
        refine r_goto h 23 dL_law_1715 (by decide) ?_
        refine J.widen (k1 := k + 1) (n1 := n + 6) (by omega) (by omega) ?_
        exact J.loc (lv' := [(4, .int (i + 5)), (3, .ref aO), (2, .ref (aμ 0)), (1, .ref aθ), (0, .ref b)]) [0, 1, 2, 3, 4] rfl (ih (k + 1) (n + 6) aρ aπ aS0 aS1 aS2 aS3 (i + 5) O θ ρ π τ μ S0 S1 S2 S3 (by omega) (by omega) hF)
      · replace hF := o_neg c3 hF
        by_cases c4 : u2 = (0 : Int32)
        · replace hF := o_pos c4 hF
          refine r_tswIn h (0 : Int32) c4 168 dL_law_39 (by decide) (by decide) rfl (by decide) ?_
          refine r_aload_n h 3 rfl rfl dL_law_168 ?_
          refine r_aload_n h 4 rfl rfl dL_law_169 ?_
          refine r_iload h 0 rfl dL_law_170 ?_
          refine r_iconst (v := 1) h dL_law_172 (by decide) ?_
          refine r_iadd h dL_law_173 ?_
          obtain ⟨hN, hF⟩ := o_gd hF
          refine r_sld h hLX hN dL_law_174 ?_
          refine r_aload_n h 4 rfl rfl dL_law_175 ?_
          refine r_iload h 0 rfl dL_law_176 ?_
          refine r_iconst (v := 2) h dL_law_178 (by decide) ?_
          refine r_iadd h dL_law_179 ?_
          obtain ⟨hN, hF⟩ := o_gd hF
          refine r_sld h hLX hN dL_law_180 ?_
          refine r_aload_n h 1 rfl rfl dL_law_181 ?_
          obtain ⟨z5, e6, hF⟩ := o_bind hF
          refine r_callW (N0 := 7) (rest := []) h hXL [ouW D aO O, rkW D aθ (aρ 0) (aπ 0) aν (aτ 0) θ, rmW D aρ ρ, rmW D aπ π, txW D aτ τ, mdW D aμ μ, tlW D aν aS0 aS1 aS2 aS3 S0 S1 S2 S3] [0, 1, 2, 6] [3, 4, 5] hdw_setLimit wm_526 dL_law_182 (CL_setLimit l hl0 D aθ (aπ 0) (aτ 0) aρ aν aS0 aS1 aS2 aS3 aO θ ρ S0 S1 S2 S3 (xs (i + (1 : Int32)).toNatClampNeg) (xs (i + (2 : Int32)).toNatClampNeg) O z5.1 z5.2.1 z5.2.2.1 z5.2.2.2.1 z5.2.2.2.2.1 z5.2.2.2.2.2.1 z5.2.2.2.2.2.2.1 z5.2.2.2.2.2.2.2 e6) rfl rfl rfl (by decide) rfl ⟨rfl, rfl⟩ ⟨by decide, by decide⟩ (Nat.le_of_ble_eq_true rfl) ⟨by show _ ≤ 601024; omega, by show _ ≤ 7293034; omega⟩ rfl (fun v w' hp => ?_)
          obtain ⟨rfl, a7, a8, a9, a10, rfl⟩ := hp
          refine J.blk2 (ws' := [ouW D aO z5.2.2.2.2.2.2.2, rkW D aθ (aρ 0) (aπ 0) aν (aτ 0) z5.2.1, rmW D aρ z5.2.2.1, rmW D aπ π, txW D aτ τ, mdW D aμ μ, tlW D aν a7 a8 a9 a10 z5.2.2.2.1 z5.2.2.2.2.1 z5.2.2.2.2.2.1 z5.2.2.2.2.2.2.1].flatten) 7 (pkB [ouW D aO O, rkW D aθ (aρ 0) (aπ 0) aν (aτ 0) θ, rmW D aρ ρ, rmW D aπ π, txW D aτ τ, mdW D aμ μ, tlW D aν aS0 aS1 aS2 aS3 S0 S1 S2 S3] [3, 4, 5]) ([ouW D aO z5.2.2.2.2.2.2.2, rkW D aθ (aρ 0) (aπ 0) aν (aτ 0) z5.2.1, rmW D aρ z5.2.2.1, tlW D aν a7 a8 a9 a10 z5.2.2.2.1 z5.2.2.2.2.1 z5.2.2.2.2.2.1 z5.2.2.2.2.2.2.1]) [3, 4, 5, 0, 1, 2, 6] rfl rfl rfl rfl (by decide) ?_
          refine r_istore (lv' := [(5, .int z5.1), (4, .int i), (3, .ref aO), (2, .ref (aμ 0)), (1, .ref aθ), (0, .ref b)]) h dL_law_185 (by decide) rfl ?_
          refine r_aload_n h 3 rfl rfl dL_law_187 ?_
          refine r_aload_n h 5 rfl rfl dL_law_188 ?_
          refine r_iload h 1 rfl dL_law_189 ?_
          refine r_iconst (v := 1) h dL_law_191 (by decide) ?_
          refine r_iadd h dL_law_192 ?_
          obtain ⟨hN, hF⟩ := o_gd hF
          refine r_sld h hLX hN dL_law_193 ?_
          refine r_aload_n h 5 rfl rfl dL_law_194 ?_
          refine r_iload h 1 rfl dL_law_195 ?_
          refine r_iconst (v := 2) h dL_law_197 (by decide) ?_
          refine r_iadd h dL_law_198 ?_
          obtain ⟨hN, hF⟩ := o_gd hF
          refine r_sld h hLX hN dL_law_199 ?_
          obtain ⟨z11, e12, hF⟩ := o_bind hF
          refine r_callVB (N0 := 7) (q0 := 0) (rest := []) h [ouW D aO z5.2.2.2.2.2.2.2, rkW D aθ (aρ 0) (aπ 0) aν (aτ 0) z5.2.1, rmW D aρ z5.2.2.1, rmW D aπ π, txW D aτ τ, mdW D aμ μ, tlW D aν a7 a8 a9 a10 z5.2.2.2.1 z5.2.2.2.2.1 z5.2.2.2.2.2.1 z5.2.2.2.2.2.2.1] [5] [0, 1, 2, 3, 4, 6] hdm_X4_setLimit wm_756 dL_law_200 (CX4_setLimit l D aμ μ (xs (i + (1 : Int32)).toNatClampNeg) (xs (i + (2 : Int32)).toNatClampNeg) z11.1 z11.2 e12) rfl rfl rfl (by decide) rfl rfl rfl ⟨rfl, rfl⟩ ⟨by decide, by decide⟩ (Nat.le_of_ble_eq_true rfl) ⟨by show _ ≤ 601024; omega, by show _ ≤ 7293034; omega⟩ rfl (fun v w' hp => ?_)
          obtain ⟨rfl, rfl⟩ := hp
          refine J.blk2 (ws' := [ouW D aO z5.2.2.2.2.2.2.2, rkW D aθ (aρ 0) (aπ 0) aν (aτ 0) z5.2.1, rmW D aρ z5.2.2.1, rmW D aπ π, txW D aτ τ, mdW D aμ z11.2, tlW D aν a7 a8 a9 a10 z5.2.2.2.1 z5.2.2.2.2.1 z5.2.2.2.2.2.1 z5.2.2.2.2.2.2.1].flatten) 7 (pkB [ouW D aO z5.2.2.2.2.2.2.2, rkW D aθ (aρ 0) (aπ 0) aν (aτ 0) z5.2.1, rmW D aρ z5.2.2.1, rmW D aπ π, txW D aτ τ, mdW D aμ μ, tlW D aν a7 a8 a9 a10 z5.2.2.2.1 z5.2.2.2.2.1 z5.2.2.2.2.2.1 z5.2.2.2.2.2.2.1] [0, 1, 2, 3, 4, 6]) ([mdW D aμ z11.2]) [0, 1, 2, 3, 4, 6, 5] rfl rfl rfl rfl (by decide) ?_
          refine r_istore (lv' := [(6, .int z11.1), (5, .int z5.1), (4, .int i), (3, .ref aO), (2, .ref (aμ 0)), (1, .ref aθ), (0, .ref b)]) h dL_law_203 (by decide) rfl ?_
          refine r_aload_n h 4 rfl rfl dL_law_205 ?_
          obtain ⟨z13, e14, hF⟩ := o_bind hF
          refine r_callVB (N0 := 7) (q0 := 0) (rest := []) h [ouW D aO z5.2.2.2.2.2.2.2, rkW D aθ (aρ 0) (aπ 0) aν (aτ 0) z5.2.1, rmW D aρ z5.2.2.1, rmW D aπ π, txW D aτ τ, mdW D aμ z11.2, tlW D aν a7 a8 a9 a10 z5.2.2.2.1 z5.2.2.2.2.1 z5.2.2.2.2.2.1 z5.2.2.2.2.2.2.1] [5] [0, 1, 2, 3, 4, 6] hdm_X4_thrown wm_744 dL_law_206 (CX4_thrown l D aμ z11.2 z13 e14) rfl rfl rfl (by decide) rfl rfl rfl ⟨rfl, rfl⟩ ⟨by decide, by decide⟩ (Nat.le_of_ble_eq_true rfl) ⟨by show _ ≤ 601024; omega, by show _ ≤ 7293034; omega⟩ rfl (fun v w' hp => ?_)
          obtain ⟨rfl, rfl⟩ := hp
          refine J.blk2 (ws' := [ouW D aO z5.2.2.2.2.2.2.2, rkW D aθ (aρ 0) (aπ 0) aν (aτ 0) z5.2.1, rmW D aρ z5.2.2.1, rmW D aπ π, txW D aτ τ, mdW D aμ z11.2, tlW D aν a7 a8 a9 a10 z5.2.2.2.1 z5.2.2.2.2.1 z5.2.2.2.2.2.1 z5.2.2.2.2.2.2.1].flatten) 7 (pkB [ouW D aO z5.2.2.2.2.2.2.2, rkW D aθ (aρ 0) (aπ 0) aν (aτ 0) z5.2.1, rmW D aρ z5.2.2.1, rmW D aπ π, txW D aτ τ, mdW D aμ z11.2, tlW D aν a7 a8 a9 a10 z5.2.2.2.1 z5.2.2.2.2.1 z5.2.2.2.2.2.1 z5.2.2.2.2.2.2.1] [0, 1, 2, 3, 4, 6]) ([mdW D aμ z11.2]) [0, 1, 2, 3, 4, 6, 5] rfl rfl rfl rfl (by decide) ?_
          refine r_iload h 1 rfl dL_law_209 ?_
          refine r_icmp_eq h 216 dL_law_211 (by decide) (fun c15 => ?_) (fun c15 => ?_)
          · replace hF := o_pos c15 hF
            refine r_iload h 1 rfl dL_law_216 ?_
            refine r_if_ne h 233 dL_law_218 (by decide) (fun c16 => ?_) (fun c16 => ?_)
            · replace hF := o_neg c16 hF
              refine r_goto h 1712 dL_law_233 (by decide) ?_
              refine r_iinc (lv' := [(4, .int (i + 5)), (6, .int z11.1), (5, .int z5.1), (3, .ref aO), (2, .ref (aμ 0)), (1, .ref aθ), (0, .ref b)]) h 2 rfl (congrArg (fun z => i + z) (by decide : Int32.ofInt 5 = 5)) dL_law_1712 (by decide) rfl ?_
              refine r_goto h 23 dL_law_1715 (by decide) ?_
              refine J.widen (k1 := k + 1) (n1 := n + 6) (by omega) (by omega) ?_
              exact J.loc (lv' := [(4, .int (i + 5)), (3, .ref aO), (2, .ref (aμ 0)), (1, .ref aθ), (0, .ref b)]) [0, 3, 4, 5, 6] rfl (ih (k + 1) (n + 6) aρ aπ a7 a8 a9 a10 (i + 5) z5.2.2.2.2.2.2.2 z5.2.1 z5.2.2.1 π τ z11.2 z5.2.2.2.1 z5.2.2.2.2.1 z5.2.2.2.2.2.1 z5.2.2.2.2.2.2.1 (by omega) (by omega) hF)
            · replace hF := o_pos c16 hF
              refine r_aload_n h 3 rfl rfl dL_law_221 ?_
              refine r_iconst (v := 0) h dL_law_222 (by decide) ?_
              refine r_lald h 0 rfl (show ¬ (_ ∨ _) by decide) dL_law_223 ?_
              refine r_iload h 0 rfl dL_law_224 ?_
              refine r_i2l h dL_law_226 ?_
              refine r_lcmp h dL_law_227 ?_
              refine r_if_eq h 233 dL_law_228 (by decide) (fun c17 => ?_) (fun c17 => ?_)
              · replace hF := o_pos c17 hF
                refine r_goto h 1712 dL_law_233 (by decide) ?_
                refine r_iinc (lv' := [(4, .int (i + 5)), (6, .int z11.1), (5, .int z5.1), (3, .ref aO), (2, .ref (aμ 0)), (1, .ref aθ), (0, .ref b)]) h 2 rfl (congrArg (fun z => i + z) (by decide : Int32.ofInt 5 = 5)) dL_law_1712 (by decide) rfl ?_
                refine r_goto h 23 dL_law_1715 (by decide) ?_
                refine J.widen (k1 := k + 1) (n1 := n + 6) (by omega) (by omega) ?_
                exact J.loc (lv' := [(4, .int (i + 5)), (3, .ref aO), (2, .ref (aμ 0)), (1, .ref aθ), (0, .ref b)]) [0, 3, 4, 5, 6] rfl (ih (k + 1) (n + 6) aρ aπ a7 a8 a9 a10 (i + 5) z5.2.2.2.2.2.2.2 z5.2.1 z5.2.2.1 π τ z11.2 z5.2.2.2.1 z5.2.2.2.2.1 z5.2.2.2.2.2.1 z5.2.2.2.2.2.2.1 (by omega) (by omega) hF)
              · replace hF := o_neg c17 hF
                refine r_iconst (v := 0) h dL_law_231 (by decide) ?_
                cases hF
          · replace hF := o_neg c15 hF
            refine r_iconst (v := 0) h dL_law_214 (by decide) ?_
            cases hF
        · replace hF := o_neg c4 hF
          by_cases c18 : u2 = (1 : Int32)
          · replace hF := o_pos c18 hF
            refine r_tswIn h (1 : Int32) c18 236 dL_law_39 (by decide) (by decide) rfl (by decide) ?_
            refine r_aload_n h 3 rfl rfl dL_law_236 ?_
            refine r_aload_n h 4 rfl rfl dL_law_237 ?_
            refine r_iload h 0 rfl dL_law_238 ?_
            refine r_iconst (v := 1) h dL_law_240 (by decide) ?_
            refine r_iadd h dL_law_241 ?_
            obtain ⟨hN, hF⟩ := o_gd hF
            refine r_sld h hLX hN dL_law_242 ?_
            refine r_aload_n h 4 rfl rfl dL_law_243 ?_
            refine r_iload h 0 rfl dL_law_244 ?_
            refine r_iconst (v := 2) h dL_law_246 (by decide) ?_
            refine r_iadd h dL_law_247 ?_
            obtain ⟨hN, hF⟩ := o_gd hF
            refine r_sld h hLX hN dL_law_248 ?_
            refine r_aload_n h 1 rfl rfl dL_law_249 ?_
            obtain ⟨z19, e20, hF⟩ := o_bind hF
            refine r_callW (N0 := 7) (rest := []) h hXL [ouW D aO O, rkW D aθ (aρ 0) (aπ 0) aν (aτ 0) θ, rmW D aρ ρ, rmW D aπ π, txW D aτ τ, mdW D aμ μ, tlW D aν aS0 aS1 aS2 aS3 S0 S1 S2 S3] [0, 1, 2, 6] [3, 4, 5] hdw_setTray wm_535 dL_law_250 (CL_setTray l hl0 D aθ (aπ 0) (aτ 0) aρ aν aS0 aS1 aS2 aS3 aO θ ρ S0 S1 S2 S3 (xs (i + (1 : Int32)).toNatClampNeg) (xs (i + (2 : Int32)).toNatClampNeg) O z19.1 z19.2.1 z19.2.2.1 z19.2.2.2.1 z19.2.2.2.2.1 z19.2.2.2.2.2.1 z19.2.2.2.2.2.2.1 z19.2.2.2.2.2.2.2 e20) rfl rfl rfl (by decide) rfl ⟨rfl, rfl⟩ ⟨by decide, by decide⟩ (Nat.le_of_ble_eq_true rfl) ⟨by show _ ≤ 601024; omega, by show _ ≤ 7293034; omega⟩ rfl (fun v w' hp => ?_)
            obtain ⟨rfl, a21, a22, a23, a24, rfl⟩ := hp
            refine J.blk2 (ws' := [ouW D aO z19.2.2.2.2.2.2.2, rkW D aθ (aρ 0) (aπ 0) aν (aτ 0) z19.2.1, rmW D aρ z19.2.2.1, rmW D aπ π, txW D aτ τ, mdW D aμ μ, tlW D aν a21 a22 a23 a24 z19.2.2.2.1 z19.2.2.2.2.1 z19.2.2.2.2.2.1 z19.2.2.2.2.2.2.1].flatten) 7 (pkB [ouW D aO O, rkW D aθ (aρ 0) (aπ 0) aν (aτ 0) θ, rmW D aρ ρ, rmW D aπ π, txW D aτ τ, mdW D aμ μ, tlW D aν aS0 aS1 aS2 aS3 S0 S1 S2 S3] [3, 4, 5]) ([ouW D aO z19.2.2.2.2.2.2.2, rkW D aθ (aρ 0) (aπ 0) aν (aτ 0) z19.2.1, rmW D aρ z19.2.2.1, tlW D aν a21 a22 a23 a24 z19.2.2.2.1 z19.2.2.2.2.1 z19.2.2.2.2.2.1 z19.2.2.2.2.2.2.1]) [3, 4, 5, 0, 1, 2, 6] rfl rfl rfl rfl (by decide) ?_
            refine r_istore (lv' := [(5, .int z19.1), (4, .int i), (3, .ref aO), (2, .ref (aμ 0)), (1, .ref aθ), (0, .ref b)]) h dL_law_253 (by decide) rfl ?_
            refine r_aload_n h 3 rfl rfl dL_law_255 ?_
            refine r_aload_n h 5 rfl rfl dL_law_256 ?_
            refine r_iload h 1 rfl dL_law_257 ?_
            refine r_iconst (v := 1) h dL_law_259 (by decide) ?_
            refine r_iadd h dL_law_260 ?_
            obtain ⟨hN, hF⟩ := o_gd hF
            refine r_sld h hLX hN dL_law_261 ?_
            refine r_aload_n h 5 rfl rfl dL_law_262 ?_
            refine r_iload h 1 rfl dL_law_263 ?_
            refine r_iconst (v := 2) h dL_law_265 (by decide) ?_
            refine r_iadd h dL_law_266 ?_
            obtain ⟨hN, hF⟩ := o_gd hF
            refine r_sld h hLX hN dL_law_267 ?_
            obtain ⟨z25, e26, hF⟩ := o_bind hF
            refine r_callVB (N0 := 7) (q0 := 0) (rest := []) h [ouW D aO z19.2.2.2.2.2.2.2, rkW D aθ (aρ 0) (aπ 0) aν (aτ 0) z19.2.1, rmW D aρ z19.2.2.1, rmW D aπ π, txW D aτ τ, mdW D aμ μ, tlW D aν a21 a22 a23 a24 z19.2.2.2.1 z19.2.2.2.2.1 z19.2.2.2.2.2.1 z19.2.2.2.2.2.2.1] [5] [0, 1, 2, 3, 4, 6] hdm_X4_setTray wm_778 dL_law_268 (CX4_setTray l D aμ μ (xs (i + (1 : Int32)).toNatClampNeg) (xs (i + (2 : Int32)).toNatClampNeg) z25.1 z25.2 e26) rfl rfl rfl (by decide) rfl rfl rfl ⟨rfl, rfl⟩ ⟨by decide, by decide⟩ (Nat.le_of_ble_eq_true rfl) ⟨by show _ ≤ 601024; omega, by show _ ≤ 7293034; omega⟩ rfl (fun v w' hp => ?_)
            obtain ⟨rfl, rfl⟩ := hp
            refine J.blk2 (ws' := [ouW D aO z19.2.2.2.2.2.2.2, rkW D aθ (aρ 0) (aπ 0) aν (aτ 0) z19.2.1, rmW D aρ z19.2.2.1, rmW D aπ π, txW D aτ τ, mdW D aμ z25.2, tlW D aν a21 a22 a23 a24 z19.2.2.2.1 z19.2.2.2.2.1 z19.2.2.2.2.2.1 z19.2.2.2.2.2.2.1].flatten) 7 (pkB [ouW D aO z19.2.2.2.2.2.2.2, rkW D aθ (aρ 0) (aπ 0) aν (aτ 0) z19.2.1, rmW D aρ z19.2.2.1, rmW D aπ π, txW D aτ τ, mdW D aμ μ, tlW D aν a21 a22 a23 a24 z19.2.2.2.1 z19.2.2.2.2.1 z19.2.2.2.2.2.1 z19.2.2.2.2.2.2.1] [0, 1, 2, 3, 4, 6]) ([mdW D aμ z25.2]) [0, 1, 2, 3, 4, 6, 5] rfl rfl rfl rfl (by decide) ?_
            refine r_istore (lv' := [(6, .int z25.1), (5, .int z19.1), (4, .int i), (3, .ref aO), (2, .ref (aμ 0)), (1, .ref aθ), (0, .ref b)]) h dL_law_271 (by decide) rfl ?_
            refine r_aload_n h 4 rfl rfl dL_law_273 ?_
            obtain ⟨z27, e28, hF⟩ := o_bind hF
            refine r_callVB (N0 := 7) (q0 := 0) (rest := []) h [ouW D aO z19.2.2.2.2.2.2.2, rkW D aθ (aρ 0) (aπ 0) aν (aτ 0) z19.2.1, rmW D aρ z19.2.2.1, rmW D aπ π, txW D aτ τ, mdW D aμ z25.2, tlW D aν a21 a22 a23 a24 z19.2.2.2.1 z19.2.2.2.2.1 z19.2.2.2.2.2.1 z19.2.2.2.2.2.2.1] [5] [0, 1, 2, 3, 4, 6] hdm_X4_thrown wm_744 dL_law_274 (CX4_thrown l D aμ z25.2 z27 e28) rfl rfl rfl (by decide) rfl rfl rfl ⟨rfl, rfl⟩ ⟨by decide, by decide⟩ (Nat.le_of_ble_eq_true rfl) ⟨by show _ ≤ 601024; omega, by show _ ≤ 7293034; omega⟩ rfl (fun v w' hp => ?_)
            obtain ⟨rfl, rfl⟩ := hp
            refine J.blk2 (ws' := [ouW D aO z19.2.2.2.2.2.2.2, rkW D aθ (aρ 0) (aπ 0) aν (aτ 0) z19.2.1, rmW D aρ z19.2.2.1, rmW D aπ π, txW D aτ τ, mdW D aμ z25.2, tlW D aν a21 a22 a23 a24 z19.2.2.2.1 z19.2.2.2.2.1 z19.2.2.2.2.2.1 z19.2.2.2.2.2.2.1].flatten) 7 (pkB [ouW D aO z19.2.2.2.2.2.2.2, rkW D aθ (aρ 0) (aπ 0) aν (aτ 0) z19.2.1, rmW D aρ z19.2.2.1, rmW D aπ π, txW D aτ τ, mdW D aμ z25.2, tlW D aν a21 a22 a23 a24 z19.2.2.2.1 z19.2.2.2.2.1 z19.2.2.2.2.2.1 z19.2.2.2.2.2.2.1] [0, 1, 2, 3, 4, 6]) ([mdW D aμ z25.2]) [0, 1, 2, 3, 4, 6, 5] rfl rfl rfl rfl (by decide) ?_
            refine r_iload h 1 rfl dL_law_277 ?_
            refine r_icmp_eq h 284 dL_law_279 (by decide) (fun c29 => ?_) (fun c29 => ?_)
            · replace hF := o_pos c29 hF
              refine r_iload h 1 rfl dL_law_284 ?_
              refine r_if_ne h 301 dL_law_286 (by decide) (fun c30 => ?_) (fun c30 => ?_)
              · replace hF := o_neg c30 hF
                refine r_goto h 1712 dL_law_301 (by decide) ?_
                refine r_iinc (lv' := [(4, .int (i + 5)), (6, .int z25.1), (5, .int z19.1), (3, .ref aO), (2, .ref (aμ 0)), (1, .ref aθ), (0, .ref b)]) h 2 rfl (congrArg (fun z => i + z) (by decide : Int32.ofInt 5 = 5)) dL_law_1712 (by decide) rfl ?_
                refine r_goto h 23 dL_law_1715 (by decide) ?_
                refine J.widen (k1 := k + 1) (n1 := n + 6) (by omega) (by omega) ?_
                exact J.loc (lv' := [(4, .int (i + 5)), (3, .ref aO), (2, .ref (aμ 0)), (1, .ref aθ), (0, .ref b)]) [0, 3, 4, 5, 6] rfl (ih (k + 1) (n + 6) aρ aπ a21 a22 a23 a24 (i + 5) z19.2.2.2.2.2.2.2 z19.2.1 z19.2.2.1 π τ z25.2 z19.2.2.2.1 z19.2.2.2.2.1 z19.2.2.2.2.2.1 z19.2.2.2.2.2.2.1 (by omega) (by omega) hF)
              · replace hF := o_pos c30 hF
                refine r_aload_n h 3 rfl rfl dL_law_289 ?_
                refine r_iconst (v := 0) h dL_law_290 (by decide) ?_
                refine r_lald h 0 rfl (show ¬ (_ ∨ _) by decide) dL_law_291 ?_
                refine r_iload h 0 rfl dL_law_292 ?_
                refine r_i2l h dL_law_294 ?_
                refine r_lcmp h dL_law_295 ?_
                refine r_if_eq h 301 dL_law_296 (by decide) (fun c31 => ?_) (fun c31 => ?_)
                · replace hF := o_pos c31 hF
                  refine r_goto h 1712 dL_law_301 (by decide) ?_
                  refine r_iinc (lv' := [(4, .int (i + 5)), (6, .int z25.1), (5, .int z19.1), (3, .ref aO), (2, .ref (aμ 0)), (1, .ref aθ), (0, .ref b)]) h 2 rfl (congrArg (fun z => i + z) (by decide : Int32.ofInt 5 = 5)) dL_law_1712 (by decide) rfl ?_
                  refine r_goto h 23 dL_law_1715 (by decide) ?_
                  refine J.widen (k1 := k + 1) (n1 := n + 6) (by omega) (by omega) ?_
                  exact J.loc (lv' := [(4, .int (i + 5)), (3, .ref aO), (2, .ref (aμ 0)), (1, .ref aθ), (0, .ref b)]) [0, 3, 4, 5, 6] rfl (ih (k + 1) (n + 6) aρ aπ a21 a22 a23 a24 (i + 5) z19.2.2.2.2.2.2.2 z19.2.1 z19.2.2.1 π τ z25.2 z19.2.2.2.1 z19.2.2.2.2.1 z19.2.2.2.2.2.1 z19.2.2.2.2.2.2.1 (by omega) (by omega) hF)
                · replace hF := o_neg c31 hF
                  refine r_iconst (v := 0) h dL_law_299 (by decide) ?_
                  cases hF
            · replace hF := o_neg c29 hF
              refine r_iconst (v := 0) h dL_law_282 (by decide) ?_
              cases hF
          · replace hF := o_neg c18 hF
            by_cases c32 : u2 = (2 : Int32)
            · replace hF := o_pos c32 hF
              refine r_tswIn h (2 : Int32) c32 304 dL_law_39 (by decide) (by decide) rfl (by decide) ?_
              refine r_aload_n h 3 rfl rfl dL_law_304 ?_
              refine r_aload_n h 4 rfl rfl dL_law_305 ?_
              refine r_iload h 0 rfl dL_law_306 ?_
              refine r_iconst (v := 1) h dL_law_308 (by decide) ?_
              refine r_iadd h dL_law_309 ?_
              obtain ⟨hN, hF⟩ := o_gd hF
              refine r_sld h hLX hN dL_law_310 ?_
              refine r_aload_n h 1 rfl rfl dL_law_311 ?_
              obtain ⟨z33, e34, hF⟩ := o_bind hF
              refine r_callW (N0 := 7) (rest := []) h hXL [ouW D aO O, rkW D aθ (aρ 0) (aπ 0) aν (aτ 0) θ, rmW D aρ ρ, rmW D aπ π, txW D aτ τ, mdW D aμ μ, tlW D aν aS0 aS1 aS2 aS3 S0 S1 S2 S3] [0, 1, 2, 6] [3, 4, 5] hdw_setLevel wm_542 dL_law_312 (CL_setLevel l hl0 D aθ (aπ 0) (aτ 0) aρ aν aS0 aS1 aS2 aS3 aO θ ρ S0 S1 S2 S3 (xs (i + (1 : Int32)).toNatClampNeg) O z33.1 z33.2.1 z33.2.2.1 z33.2.2.2.1 z33.2.2.2.2.1 z33.2.2.2.2.2.1 z33.2.2.2.2.2.2.1 z33.2.2.2.2.2.2.2 e34) rfl rfl rfl (by decide) rfl ⟨rfl, rfl⟩ ⟨by decide, by decide⟩ (Nat.le_of_ble_eq_true rfl) ⟨by show _ ≤ 601024; omega, by show _ ≤ 7293034; omega⟩ rfl (fun v w' hp => ?_)
              obtain ⟨rfl, a35, a36, a37, a38, rfl⟩ := hp
              refine J.blk2 (ws' := [ouW D aO z33.2.2.2.2.2.2.2, rkW D aθ (aρ 0) (aπ 0) aν (aτ 0) z33.2.1, rmW D aρ z33.2.2.1, rmW D aπ π, txW D aτ τ, mdW D aμ μ, tlW D aν a35 a36 a37 a38 z33.2.2.2.1 z33.2.2.2.2.1 z33.2.2.2.2.2.1 z33.2.2.2.2.2.2.1].flatten) 7 (pkB [ouW D aO O, rkW D aθ (aρ 0) (aπ 0) aν (aτ 0) θ, rmW D aρ ρ, rmW D aπ π, txW D aτ τ, mdW D aμ μ, tlW D aν aS0 aS1 aS2 aS3 S0 S1 S2 S3] [3, 4, 5]) ([ouW D aO z33.2.2.2.2.2.2.2, rkW D aθ (aρ 0) (aπ 0) aν (aτ 0) z33.2.1, rmW D aρ z33.2.2.1, tlW D aν a35 a36 a37 a38 z33.2.2.2.1 z33.2.2.2.2.1 z33.2.2.2.2.2.1 z33.2.2.2.2.2.2.1]) [3, 4, 5, 0, 1, 2, 6] rfl rfl rfl rfl (by decide) ?_
              refine r_istore (lv' := [(5, .int z33.1), (4, .int i), (3, .ref aO), (2, .ref (aμ 0)), (1, .ref aθ), (0, .ref b)]) h dL_law_315 (by decide) rfl ?_
              refine r_aload_n h 3 rfl rfl dL_law_317 ?_
              refine r_aload_n h 5 rfl rfl dL_law_318 ?_
              refine r_iload h 1 rfl dL_law_319 ?_
              refine r_iconst (v := 1) h dL_law_321 (by decide) ?_
              refine r_iadd h dL_law_322 ?_
              obtain ⟨hN, hF⟩ := o_gd hF
              refine r_sld h hLX hN dL_law_323 ?_
              obtain ⟨z39, e40, hF⟩ := o_bind hF
              refine r_callVB (N0 := 7) (q0 := 0) (rest := []) h [ouW D aO z33.2.2.2.2.2.2.2, rkW D aθ (aρ 0) (aπ 0) aν (aτ 0) z33.2.1, rmW D aρ z33.2.2.1, rmW D aπ π, txW D aτ τ, mdW D aμ μ, tlW D aν a35 a36 a37 a38 z33.2.2.2.1 z33.2.2.2.2.1 z33.2.2.2.2.2.1 z33.2.2.2.2.2.2.1] [5] [0, 1, 2, 3, 4, 6] hdm_X4_setLevel wm_785 dL_law_324 (CX4_setLevel l D aμ μ (xs (i + (1 : Int32)).toNatClampNeg) z39.1 z39.2 e40) rfl rfl rfl (by decide) rfl rfl rfl ⟨rfl, rfl⟩ ⟨by decide, by decide⟩ (Nat.le_of_ble_eq_true rfl) ⟨by show _ ≤ 601024; omega, by show _ ≤ 7293034; omega⟩ rfl (fun v w' hp => ?_)
              obtain ⟨rfl, rfl⟩ := hp
              refine J.blk2 (ws' := [ouW D aO z33.2.2.2.2.2.2.2, rkW D aθ (aρ 0) (aπ 0) aν (aτ 0) z33.2.1, rmW D aρ z33.2.2.1, rmW D aπ π, txW D aτ τ, mdW D aμ z39.2, tlW D aν a35 a36 a37 a38 z33.2.2.2.1 z33.2.2.2.2.1 z33.2.2.2.2.2.1 z33.2.2.2.2.2.2.1].flatten) 7 (pkB [ouW D aO z33.2.2.2.2.2.2.2, rkW D aθ (aρ 0) (aπ 0) aν (aτ 0) z33.2.1, rmW D aρ z33.2.2.1, rmW D aπ π, txW D aτ τ, mdW D aμ μ, tlW D aν a35 a36 a37 a38 z33.2.2.2.1 z33.2.2.2.2.1 z33.2.2.2.2.2.1 z33.2.2.2.2.2.2.1] [0, 1, 2, 3, 4, 6]) ([mdW D aμ z39.2]) [0, 1, 2, 3, 4, 6, 5] rfl rfl rfl rfl (by decide) ?_
              refine r_istore (lv' := [(6, .int z39.1), (5, .int z33.1), (4, .int i), (3, .ref aO), (2, .ref (aμ 0)), (1, .ref aθ), (0, .ref b)]) h dL_law_327 (by decide) rfl ?_
              refine r_aload_n h 4 rfl rfl dL_law_329 ?_
              obtain ⟨z41, e42, hF⟩ := o_bind hF
              refine r_callVB (N0 := 7) (q0 := 0) (rest := []) h [ouW D aO z33.2.2.2.2.2.2.2, rkW D aθ (aρ 0) (aπ 0) aν (aτ 0) z33.2.1, rmW D aρ z33.2.2.1, rmW D aπ π, txW D aτ τ, mdW D aμ z39.2, tlW D aν a35 a36 a37 a38 z33.2.2.2.1 z33.2.2.2.2.1 z33.2.2.2.2.2.1 z33.2.2.2.2.2.2.1] [5] [0, 1, 2, 3, 4, 6] hdm_X4_thrown wm_744 dL_law_330 (CX4_thrown l D aμ z39.2 z41 e42) rfl rfl rfl (by decide) rfl rfl rfl ⟨rfl, rfl⟩ ⟨by decide, by decide⟩ (Nat.le_of_ble_eq_true rfl) ⟨by show _ ≤ 601024; omega, by show _ ≤ 7293034; omega⟩ rfl (fun v w' hp => ?_)
              obtain ⟨rfl, rfl⟩ := hp
              refine J.blk2 (ws' := [ouW D aO z33.2.2.2.2.2.2.2, rkW D aθ (aρ 0) (aπ 0) aν (aτ 0) z33.2.1, rmW D aρ z33.2.2.1, rmW D aπ π, txW D aτ τ, mdW D aμ z39.2, tlW D aν a35 a36 a37 a38 z33.2.2.2.1 z33.2.2.2.2.1 z33.2.2.2.2.2.1 z33.2.2.2.2.2.2.1].flatten) 7 (pkB [ouW D aO z33.2.2.2.2.2.2.2, rkW D aθ (aρ 0) (aπ 0) aν (aτ 0) z33.2.1, rmW D aρ z33.2.2.1, rmW D aπ π, txW D aτ τ, mdW D aμ z39.2, tlW D aν a35 a36 a37 a38 z33.2.2.2.1 z33.2.2.2.2.1 z33.2.2.2.2.2.1 z33.2.2.2.2.2.2.1] [0, 1, 2, 3, 4, 6]) ([mdW D aμ z39.2]) [0, 1, 2, 3, 4, 6, 5] rfl rfl rfl rfl (by decide) ?_
              refine r_iload h 1 rfl dL_law_333 ?_
              refine r_icmp_eq h 340 dL_law_335 (by decide) (fun c43 => ?_) (fun c43 => ?_)
              · replace hF := o_pos c43 hF
                refine r_iload h 1 rfl dL_law_340 ?_
                refine r_if_ne h 357 dL_law_342 (by decide) (fun c44 => ?_) (fun c44 => ?_)
                · replace hF := o_neg c44 hF
                  refine r_goto h 1712 dL_law_357 (by decide) ?_
                  refine r_iinc (lv' := [(4, .int (i + 5)), (6, .int z39.1), (5, .int z33.1), (3, .ref aO), (2, .ref (aμ 0)), (1, .ref aθ), (0, .ref b)]) h 2 rfl (congrArg (fun z => i + z) (by decide : Int32.ofInt 5 = 5)) dL_law_1712 (by decide) rfl ?_
                  refine r_goto h 23 dL_law_1715 (by decide) ?_
                  refine J.widen (k1 := k + 1) (n1 := n + 6) (by omega) (by omega) ?_
                  exact J.loc (lv' := [(4, .int (i + 5)), (3, .ref aO), (2, .ref (aμ 0)), (1, .ref aθ), (0, .ref b)]) [0, 3, 4, 5, 6] rfl (ih (k + 1) (n + 6) aρ aπ a35 a36 a37 a38 (i + 5) z33.2.2.2.2.2.2.2 z33.2.1 z33.2.2.1 π τ z39.2 z33.2.2.2.1 z33.2.2.2.2.1 z33.2.2.2.2.2.1 z33.2.2.2.2.2.2.1 (by omega) (by omega) hF)
                · replace hF := o_pos c44 hF
                  refine r_aload_n h 3 rfl rfl dL_law_345 ?_
                  refine r_iconst (v := 0) h dL_law_346 (by decide) ?_
                  refine r_lald h 0 rfl (show ¬ (_ ∨ _) by decide) dL_law_347 ?_
                  refine r_iload h 0 rfl dL_law_348 ?_
                  refine r_i2l h dL_law_350 ?_
                  refine r_lcmp h dL_law_351 ?_
                  refine r_if_eq h 357 dL_law_352 (by decide) (fun c45 => ?_) (fun c45 => ?_)
                  · replace hF := o_pos c45 hF
                    refine r_goto h 1712 dL_law_357 (by decide) ?_
                    refine r_iinc (lv' := [(4, .int (i + 5)), (6, .int z39.1), (5, .int z33.1), (3, .ref aO), (2, .ref (aμ 0)), (1, .ref aθ), (0, .ref b)]) h 2 rfl (congrArg (fun z => i + z) (by decide : Int32.ofInt 5 = 5)) dL_law_1712 (by decide) rfl ?_
                    refine r_goto h 23 dL_law_1715 (by decide) ?_
                    refine J.widen (k1 := k + 1) (n1 := n + 6) (by omega) (by omega) ?_
                    exact J.loc (lv' := [(4, .int (i + 5)), (3, .ref aO), (2, .ref (aμ 0)), (1, .ref aθ), (0, .ref b)]) [0, 3, 4, 5, 6] rfl (ih (k + 1) (n + 6) aρ aπ a35 a36 a37 a38 (i + 5) z33.2.2.2.2.2.2.2 z33.2.1 z33.2.2.1 π τ z39.2 z33.2.2.2.1 z33.2.2.2.2.1 z33.2.2.2.2.2.1 z33.2.2.2.2.2.2.1 (by omega) (by omega) hF)
                  · replace hF := o_neg c45 hF
                    refine r_iconst (v := 0) h dL_law_355 (by decide) ?_
                    cases hF
              · replace hF := o_neg c43 hF
                refine r_iconst (v := 0) h dL_law_338 (by decide) ?_
                cases hF
            · replace hF := o_neg c32 hF
              by_cases c46 : u2 = (3 : Int32)
              · replace hF := o_pos c46 hF
                refine r_tswIn h (3 : Int32) c46 360 dL_law_39 (by decide) (by decide) rfl (by decide) ?_
                refine r_aload_n h 3 rfl rfl dL_law_360 ?_
                refine r_aload_n h 4 rfl rfl dL_law_361 ?_
                refine r_iload h 0 rfl dL_law_362 ?_
                refine r_iconst (v := 1) h dL_law_364 (by decide) ?_
                refine r_iadd h dL_law_365 ?_
                obtain ⟨hN, hF⟩ := o_gd hF
                refine r_sld h hLX hN dL_law_366 ?_
                refine r_aload_n h 4 rfl rfl dL_law_367 ?_
                refine r_iload h 0 rfl dL_law_368 ?_
                refine r_iconst (v := 2) h dL_law_370 (by decide) ?_
                refine r_iadd h dL_law_371 ?_
                obtain ⟨hN, hF⟩ := o_gd hF
                refine r_sld h hLX hN dL_law_372 ?_
                refine r_aload_n h 4 rfl rfl dL_law_373 ?_
                refine r_iload h 0 rfl dL_law_374 ?_
                refine r_iconst (v := 3) h dL_law_376 (by decide) ?_
                refine r_iadd h dL_law_377 ?_
                obtain ⟨hN, hF⟩ := o_gd hF
                refine r_sld h hLX hN dL_law_378 ?_
                refine r_aload_n h 4 rfl rfl dL_law_379 ?_
                refine r_iload h 0 rfl dL_law_380 ?_
                refine r_iconst (v := 4) h dL_law_382 (by decide) ?_
                refine r_iadd h dL_law_383 ?_
                obtain ⟨hN, hF⟩ := o_gd hF
                refine r_sld h hLX hN dL_law_384 ?_
                refine r_aload_n h 1 rfl rfl dL_law_385 ?_
                obtain ⟨z47, e48, hF⟩ := o_bind hF
                refine r_callW (N0 := 7) (rest := []) h hXL [ouW D aO O, rkW D aθ (aρ 0) (aπ 0) aν (aτ 0) θ, rmW D aρ ρ, rmW D aπ π, txW D aτ τ, mdW D aμ μ, tlW D aν aS0 aS1 aS2 aS3 S0 S1 S2 S3] [0, 1, 2, 6] [3, 4, 5] hdw_addMachine wm_549 dL_law_386 (CL_addMachine l hl0 D aθ (aπ 0) (aτ 0) aρ aν aS0 aS1 aS2 aS3 aO θ ρ S0 S1 S2 S3 (xs (i + (1 : Int32)).toNatClampNeg) (xs (i + (2 : Int32)).toNatClampNeg) (xs (i + (3 : Int32)).toNatClampNeg) (xs (i + (4 : Int32)).toNatClampNeg) O z47.1 z47.2.1 z47.2.2.1 z47.2.2.2.1 z47.2.2.2.2.1 z47.2.2.2.2.2.1 z47.2.2.2.2.2.2.1 z47.2.2.2.2.2.2.2 e48) rfl rfl rfl (by decide) rfl ⟨rfl, rfl⟩ ⟨by decide, by decide⟩ (Nat.le_of_ble_eq_true rfl) ⟨by show _ ≤ 601024; omega, by show _ ≤ 7293034; omega⟩ rfl (fun v w' hp => ?_)
                obtain ⟨rfl, a49, a50, a51, a52, rfl⟩ := hp
                refine J.blk2 (ws' := [ouW D aO z47.2.2.2.2.2.2.2, rkW D aθ (aρ 0) (aπ 0) aν (aτ 0) z47.2.1, rmW D aρ z47.2.2.1, rmW D aπ π, txW D aτ τ, mdW D aμ μ, tlW D aν a49 a50 a51 a52 z47.2.2.2.1 z47.2.2.2.2.1 z47.2.2.2.2.2.1 z47.2.2.2.2.2.2.1].flatten) 7 (pkB [ouW D aO O, rkW D aθ (aρ 0) (aπ 0) aν (aτ 0) θ, rmW D aρ ρ, rmW D aπ π, txW D aτ τ, mdW D aμ μ, tlW D aν aS0 aS1 aS2 aS3 S0 S1 S2 S3] [3, 4, 5]) ([ouW D aO z47.2.2.2.2.2.2.2, rkW D aθ (aρ 0) (aπ 0) aν (aτ 0) z47.2.1, rmW D aρ z47.2.2.1, tlW D aν a49 a50 a51 a52 z47.2.2.2.1 z47.2.2.2.2.1 z47.2.2.2.2.2.1 z47.2.2.2.2.2.2.1]) [3, 4, 5, 0, 1, 2, 6] rfl rfl rfl rfl (by decide) ?_
                refine r_istore (lv' := [(5, .int z47.1), (4, .int i), (3, .ref aO), (2, .ref (aμ 0)), (1, .ref aθ), (0, .ref b)]) h dL_law_389 (by decide) rfl ?_
                refine r_aload_n h 3 rfl rfl dL_law_391 ?_
                refine r_aload_n h 5 rfl rfl dL_law_392 ?_
                refine r_iload h 1 rfl dL_law_393 ?_
                refine r_iconst (v := 1) h dL_law_395 (by decide) ?_
                refine r_iadd h dL_law_396 ?_
                obtain ⟨hN, hF⟩ := o_gd hF
                refine r_sld h hLX hN dL_law_397 ?_
                refine r_aload_n h 5 rfl rfl dL_law_398 ?_
                refine r_iload h 1 rfl dL_law_399 ?_
                refine r_iconst (v := 2) h dL_law_401 (by decide) ?_
                refine r_iadd h dL_law_402 ?_
                obtain ⟨hN, hF⟩ := o_gd hF
                refine r_sld h hLX hN dL_law_403 ?_
                refine r_aload_n h 5 rfl rfl dL_law_404 ?_
                refine r_iload h 1 rfl dL_law_405 ?_
                refine r_iconst (v := 3) h dL_law_407 (by decide) ?_
                refine r_iadd h dL_law_408 ?_
                obtain ⟨hN, hF⟩ := o_gd hF
                refine r_sld h hLX hN dL_law_409 ?_
                refine r_aload_n h 5 rfl rfl dL_law_410 ?_
                refine r_iload h 1 rfl dL_law_411 ?_
                refine r_iconst (v := 4) h dL_law_413 (by decide) ?_
                refine r_iadd h dL_law_414 ?_
                obtain ⟨hN, hF⟩ := o_gd hF
                refine r_sld h hLX hN dL_law_415 ?_
                obtain ⟨z53, e54, hF⟩ := o_bind hF
                refine r_callVB (N0 := 7) (q0 := 0) (rest := []) h [ouW D aO z47.2.2.2.2.2.2.2, rkW D aθ (aρ 0) (aπ 0) aν (aτ 0) z47.2.1, rmW D aρ z47.2.2.1, rmW D aπ π, txW D aτ τ, mdW D aμ μ, tlW D aν a49 a50 a51 a52 z47.2.2.2.1 z47.2.2.2.2.1 z47.2.2.2.2.2.1 z47.2.2.2.2.2.2.1] [5] [0, 1, 2, 3, 4, 6] hdm_X4_addMachine wm_789 dL_law_416 (CX4_addMachine l D aμ μ (xs (i + (1 : Int32)).toNatClampNeg) (xs (i + (2 : Int32)).toNatClampNeg) (xs (i + (3 : Int32)).toNatClampNeg) (xs (i + (4 : Int32)).toNatClampNeg) z53.1 z53.2 e54) rfl rfl rfl (by decide) rfl rfl rfl ⟨rfl, rfl⟩ ⟨by decide, by decide⟩ (Nat.le_of_ble_eq_true rfl) ⟨by show _ ≤ 601024; omega, by show _ ≤ 7293034; omega⟩ rfl (fun v w' hp => ?_)
                obtain ⟨rfl, rfl⟩ := hp
                refine J.blk2 (ws' := [ouW D aO z47.2.2.2.2.2.2.2, rkW D aθ (aρ 0) (aπ 0) aν (aτ 0) z47.2.1, rmW D aρ z47.2.2.1, rmW D aπ π, txW D aτ τ, mdW D aμ z53.2, tlW D aν a49 a50 a51 a52 z47.2.2.2.1 z47.2.2.2.2.1 z47.2.2.2.2.2.1 z47.2.2.2.2.2.2.1].flatten) 7 (pkB [ouW D aO z47.2.2.2.2.2.2.2, rkW D aθ (aρ 0) (aπ 0) aν (aτ 0) z47.2.1, rmW D aρ z47.2.2.1, rmW D aπ π, txW D aτ τ, mdW D aμ μ, tlW D aν a49 a50 a51 a52 z47.2.2.2.1 z47.2.2.2.2.1 z47.2.2.2.2.2.1 z47.2.2.2.2.2.2.1] [0, 1, 2, 3, 4, 6]) ([mdW D aμ z53.2]) [0, 1, 2, 3, 4, 6, 5] rfl rfl rfl rfl (by decide) ?_
                refine r_istore (lv' := [(6, .int z53.1), (5, .int z47.1), (4, .int i), (3, .ref aO), (2, .ref (aμ 0)), (1, .ref aθ), (0, .ref b)]) h dL_law_419 (by decide) rfl ?_
                refine r_aload_n h 4 rfl rfl dL_law_421 ?_
                obtain ⟨z55, e56, hF⟩ := o_bind hF
                refine r_callVB (N0 := 7) (q0 := 0) (rest := []) h [ouW D aO z47.2.2.2.2.2.2.2, rkW D aθ (aρ 0) (aπ 0) aν (aτ 0) z47.2.1, rmW D aρ z47.2.2.1, rmW D aπ π, txW D aτ τ, mdW D aμ z53.2, tlW D aν a49 a50 a51 a52 z47.2.2.2.1 z47.2.2.2.2.1 z47.2.2.2.2.2.1 z47.2.2.2.2.2.2.1] [5] [0, 1, 2, 3, 4, 6] hdm_X4_thrown wm_744 dL_law_422 (CX4_thrown l D aμ z53.2 z55 e56) rfl rfl rfl (by decide) rfl rfl rfl ⟨rfl, rfl⟩ ⟨by decide, by decide⟩ (Nat.le_of_ble_eq_true rfl) ⟨by show _ ≤ 601024; omega, by show _ ≤ 7293034; omega⟩ rfl (fun v w' hp => ?_)
                obtain ⟨rfl, rfl⟩ := hp
                refine J.blk2 (ws' := [ouW D aO z47.2.2.2.2.2.2.2, rkW D aθ (aρ 0) (aπ 0) aν (aτ 0) z47.2.1, rmW D aρ z47.2.2.1, rmW D aπ π, txW D aτ τ, mdW D aμ z53.2, tlW D aν a49 a50 a51 a52 z47.2.2.2.1 z47.2.2.2.2.1 z47.2.2.2.2.2.1 z47.2.2.2.2.2.2.1].flatten) 7 (pkB [ouW D aO z47.2.2.2.2.2.2.2, rkW D aθ (aρ 0) (aπ 0) aν (aτ 0) z47.2.1, rmW D aρ z47.2.2.1, rmW D aπ π, txW D aτ τ, mdW D aμ z53.2, tlW D aν a49 a50 a51 a52 z47.2.2.2.1 z47.2.2.2.2.1 z47.2.2.2.2.2.1 z47.2.2.2.2.2.2.1] [0, 1, 2, 3, 4, 6]) ([mdW D aμ z53.2]) [0, 1, 2, 3, 4, 6, 5] rfl rfl rfl rfl (by decide) ?_
                refine r_iload h 1 rfl dL_law_425 ?_
                refine r_icmp_eq h 432 dL_law_427 (by decide) (fun c57 => ?_) (fun c57 => ?_)
                · replace hF := o_pos c57 hF
                  refine r_iload h 1 rfl dL_law_432 ?_
                  refine r_if_ne h 449 dL_law_434 (by decide) (fun c58 => ?_) (fun c58 => ?_)
                  · replace hF := o_neg c58 hF
                    refine r_goto h 1712 dL_law_449 (by decide) ?_
                    refine r_iinc (lv' := [(4, .int (i + 5)), (6, .int z53.1), (5, .int z47.1), (3, .ref aO), (2, .ref (aμ 0)), (1, .ref aθ), (0, .ref b)]) h 2 rfl (congrArg (fun z => i + z) (by decide : Int32.ofInt 5 = 5)) dL_law_1712 (by decide) rfl ?_
                    refine r_goto h 23 dL_law_1715 (by decide) ?_
                    refine J.widen (k1 := k + 1) (n1 := n + 6) (by omega) (by omega) ?_
                    exact J.loc (lv' := [(4, .int (i + 5)), (3, .ref aO), (2, .ref (aμ 0)), (1, .ref aθ), (0, .ref b)]) [0, 3, 4, 5, 6] rfl (ih (k + 1) (n + 6) aρ aπ a49 a50 a51 a52 (i + 5) z47.2.2.2.2.2.2.2 z47.2.1 z47.2.2.1 π τ z53.2 z47.2.2.2.1 z47.2.2.2.2.1 z47.2.2.2.2.2.1 z47.2.2.2.2.2.2.1 (by omega) (by omega) hF)
                  · replace hF := o_pos c58 hF
                    refine r_aload_n h 3 rfl rfl dL_law_437 ?_
                    refine r_iconst (v := 0) h dL_law_438 (by decide) ?_
                    refine r_lald h 0 rfl (show ¬ (_ ∨ _) by decide) dL_law_439 ?_
                    refine r_iload h 0 rfl dL_law_440 ?_
                    refine r_i2l h dL_law_442 ?_
                    refine r_lcmp h dL_law_443 ?_
                    refine r_if_eq h 449 dL_law_444 (by decide) (fun c59 => ?_) (fun c59 => ?_)
                    · replace hF := o_pos c59 hF
                      refine r_goto h 1712 dL_law_449 (by decide) ?_
                      refine r_iinc (lv' := [(4, .int (i + 5)), (6, .int z53.1), (5, .int z47.1), (3, .ref aO), (2, .ref (aμ 0)), (1, .ref aθ), (0, .ref b)]) h 2 rfl (congrArg (fun z => i + z) (by decide : Int32.ofInt 5 = 5)) dL_law_1712 (by decide) rfl ?_
                      refine r_goto h 23 dL_law_1715 (by decide) ?_
                      refine J.widen (k1 := k + 1) (n1 := n + 6) (by omega) (by omega) ?_
                      exact J.loc (lv' := [(4, .int (i + 5)), (3, .ref aO), (2, .ref (aμ 0)), (1, .ref aθ), (0, .ref b)]) [0, 3, 4, 5, 6] rfl (ih (k + 1) (n + 6) aρ aπ a49 a50 a51 a52 (i + 5) z47.2.2.2.2.2.2.2 z47.2.1 z47.2.2.1 π τ z53.2 z47.2.2.2.1 z47.2.2.2.2.1 z47.2.2.2.2.2.1 z47.2.2.2.2.2.2.1 (by omega) (by omega) hF)
                    · replace hF := o_neg c59 hF
                      refine r_iconst (v := 0) h dL_law_447 (by decide) ?_
                      cases hF
                · replace hF := o_neg c57 hF
                  refine r_iconst (v := 0) h dL_law_430 (by decide) ?_
                  cases hF
              · replace hF := o_neg c46 hF
                by_cases c60 : u2 = (4 : Int32)
                · replace hF := o_pos c60 hF
                  refine r_tswIn h (4 : Int32) c60 452 dL_law_39 (by decide) (by decide) rfl (by decide) ?_
                  refine r_aload_n h 3 rfl rfl dL_law_452 ?_
                  refine r_aload_n h 4 rfl rfl dL_law_453 ?_
                  refine r_iload h 0 rfl dL_law_454 ?_
                  refine r_iconst (v := 1) h dL_law_456 (by decide) ?_
                  refine r_iadd h dL_law_457 ?_
                  obtain ⟨hN, hF⟩ := o_gd hF
                  refine r_sld h hLX hN dL_law_458 ?_
                  refine r_aload_n h 4 rfl rfl dL_law_459 ?_
                  refine r_iload h 0 rfl dL_law_460 ?_
                  refine r_iconst (v := 2) h dL_law_462 (by decide) ?_
                  refine r_iadd h dL_law_463 ?_
                  obtain ⟨hN, hF⟩ := o_gd hF
                  refine r_sld h hLX hN dL_law_464 ?_
                  refine r_aload_n h 4 rfl rfl dL_law_465 ?_
                  refine r_iload h 0 rfl dL_law_466 ?_
                  refine r_iconst (v := 3) h dL_law_468 (by decide) ?_
                  refine r_iadd h dL_law_469 ?_
                  obtain ⟨hN, hF⟩ := o_gd hF
                  refine r_sld h hLX hN dL_law_470 ?_
                  refine r_aload_n h 1 rfl rfl dL_law_471 ?_
                  obtain ⟨z61, e62, hF⟩ := o_bind hF
                  refine r_callW (N0 := 7) (rest := []) h hXL [ouW D aO O, rkW D aθ (aρ 0) (aπ 0) aν (aτ 0) θ, rmW D aρ ρ, rmW D aπ π, txW D aτ τ, mdW D aμ μ, tlW D aν aS0 aS1 aS2 aS3 S0 S1 S2 S3] [0, 1, 2, 6] [3, 4, 5] hdw_addCable wm_580 dL_law_472 (CL_addCable l hl0 D aθ (aπ 0) (aτ 0) aρ aν aS0 aS1 aS2 aS3 aO θ ρ S0 S1 S2 S3 (xs (i + (1 : Int32)).toNatClampNeg) (xs (i + (2 : Int32)).toNatClampNeg) (xs (i + (3 : Int32)).toNatClampNeg) O z61.1 z61.2.1 z61.2.2.1 z61.2.2.2.1 z61.2.2.2.2.1 z61.2.2.2.2.2.1 z61.2.2.2.2.2.2.1 z61.2.2.2.2.2.2.2 e62) rfl rfl rfl (by decide) rfl ⟨rfl, rfl⟩ ⟨by decide, by decide⟩ (Nat.le_of_ble_eq_true rfl) ⟨by show _ ≤ 601024; omega, by show _ ≤ 7293034; omega⟩ rfl (fun v w' hp => ?_)
                  obtain ⟨rfl, a63, a64, a65, a66, rfl⟩ := hp
                  refine J.blk2 (ws' := [ouW D aO z61.2.2.2.2.2.2.2, rkW D aθ (aρ 0) (aπ 0) aν (aτ 0) z61.2.1, rmW D aρ z61.2.2.1, rmW D aπ π, txW D aτ τ, mdW D aμ μ, tlW D aν a63 a64 a65 a66 z61.2.2.2.1 z61.2.2.2.2.1 z61.2.2.2.2.2.1 z61.2.2.2.2.2.2.1].flatten) 7 (pkB [ouW D aO O, rkW D aθ (aρ 0) (aπ 0) aν (aτ 0) θ, rmW D aρ ρ, rmW D aπ π, txW D aτ τ, mdW D aμ μ, tlW D aν aS0 aS1 aS2 aS3 S0 S1 S2 S3] [3, 4, 5]) ([ouW D aO z61.2.2.2.2.2.2.2, rkW D aθ (aρ 0) (aπ 0) aν (aτ 0) z61.2.1, rmW D aρ z61.2.2.1, tlW D aν a63 a64 a65 a66 z61.2.2.2.1 z61.2.2.2.2.1 z61.2.2.2.2.2.1 z61.2.2.2.2.2.2.1]) [3, 4, 5, 0, 1, 2, 6] rfl rfl rfl rfl (by decide) ?_
                  refine r_istore (lv' := [(5, .int z61.1), (4, .int i), (3, .ref aO), (2, .ref (aμ 0)), (1, .ref aθ), (0, .ref b)]) h dL_law_475 (by decide) rfl ?_
                  refine r_aload_n h 3 rfl rfl dL_law_477 ?_
                  refine r_aload_n h 5 rfl rfl dL_law_478 ?_
                  refine r_iload h 1 rfl dL_law_479 ?_
                  refine r_iconst (v := 1) h dL_law_481 (by decide) ?_
                  refine r_iadd h dL_law_482 ?_
                  obtain ⟨hN, hF⟩ := o_gd hF
                  refine r_sld h hLX hN dL_law_483 ?_
                  refine r_aload_n h 5 rfl rfl dL_law_484 ?_
                  refine r_iload h 1 rfl dL_law_485 ?_
                  refine r_iconst (v := 2) h dL_law_487 (by decide) ?_
                  refine r_iadd h dL_law_488 ?_
                  obtain ⟨hN, hF⟩ := o_gd hF
                  refine r_sld h hLX hN dL_law_489 ?_
                  refine r_aload_n h 5 rfl rfl dL_law_490 ?_
                  refine r_iload h 1 rfl dL_law_491 ?_
                  refine r_iconst (v := 3) h dL_law_493 (by decide) ?_
                  refine r_iadd h dL_law_494 ?_
                  obtain ⟨hN, hF⟩ := o_gd hF
                  refine r_sld h hLX hN dL_law_495 ?_
                  obtain ⟨z67, e68, hF⟩ := o_bind hF
                  refine r_callVB (N0 := 7) (q0 := 0) (rest := []) h [ouW D aO z61.2.2.2.2.2.2.2, rkW D aθ (aρ 0) (aπ 0) aν (aτ 0) z61.2.1, rmW D aρ z61.2.2.1, rmW D aπ π, txW D aτ τ, mdW D aμ μ, tlW D aν a63 a64 a65 a66 z61.2.2.2.1 z61.2.2.2.2.1 z61.2.2.2.2.2.1 z61.2.2.2.2.2.2.1] [5] [0, 1, 2, 3, 4, 6] hdm_X4_addCable wm_793 dL_law_496 (CX4_addCable l D aμ μ (xs (i + (1 : Int32)).toNatClampNeg) (xs (i + (2 : Int32)).toNatClampNeg) (xs (i + (3 : Int32)).toNatClampNeg) z67.1 z67.2 e68) rfl rfl rfl (by decide) rfl rfl rfl ⟨rfl, rfl⟩ ⟨by decide, by decide⟩ (Nat.le_of_ble_eq_true rfl) ⟨by show _ ≤ 601024; omega, by show _ ≤ 7293034; omega⟩ rfl (fun v w' hp => ?_)
                  obtain ⟨rfl, rfl⟩ := hp
                  refine J.blk2 (ws' := [ouW D aO z61.2.2.2.2.2.2.2, rkW D aθ (aρ 0) (aπ 0) aν (aτ 0) z61.2.1, rmW D aρ z61.2.2.1, rmW D aπ π, txW D aτ τ, mdW D aμ z67.2, tlW D aν a63 a64 a65 a66 z61.2.2.2.1 z61.2.2.2.2.1 z61.2.2.2.2.2.1 z61.2.2.2.2.2.2.1].flatten) 7 (pkB [ouW D aO z61.2.2.2.2.2.2.2, rkW D aθ (aρ 0) (aπ 0) aν (aτ 0) z61.2.1, rmW D aρ z61.2.2.1, rmW D aπ π, txW D aτ τ, mdW D aμ μ, tlW D aν a63 a64 a65 a66 z61.2.2.2.1 z61.2.2.2.2.1 z61.2.2.2.2.2.1 z61.2.2.2.2.2.2.1] [0, 1, 2, 3, 4, 6]) ([mdW D aμ z67.2]) [0, 1, 2, 3, 4, 6, 5] rfl rfl rfl rfl (by decide) ?_
                  refine r_istore (lv' := [(6, .int z67.1), (5, .int z61.1), (4, .int i), (3, .ref aO), (2, .ref (aμ 0)), (1, .ref aθ), (0, .ref b)]) h dL_law_499 (by decide) rfl ?_
                  refine r_aload_n h 4 rfl rfl dL_law_501 ?_
                  obtain ⟨z69, e70, hF⟩ := o_bind hF
                  refine r_callVB (N0 := 7) (q0 := 0) (rest := []) h [ouW D aO z61.2.2.2.2.2.2.2, rkW D aθ (aρ 0) (aπ 0) aν (aτ 0) z61.2.1, rmW D aρ z61.2.2.1, rmW D aπ π, txW D aτ τ, mdW D aμ z67.2, tlW D aν a63 a64 a65 a66 z61.2.2.2.1 z61.2.2.2.2.1 z61.2.2.2.2.2.1 z61.2.2.2.2.2.2.1] [5] [0, 1, 2, 3, 4, 6] hdm_X4_thrown wm_744 dL_law_502 (CX4_thrown l D aμ z67.2 z69 e70) rfl rfl rfl (by decide) rfl rfl rfl ⟨rfl, rfl⟩ ⟨by decide, by decide⟩ (Nat.le_of_ble_eq_true rfl) ⟨by show _ ≤ 601024; omega, by show _ ≤ 7293034; omega⟩ rfl (fun v w' hp => ?_)
                  obtain ⟨rfl, rfl⟩ := hp
                  refine J.blk2 (ws' := [ouW D aO z61.2.2.2.2.2.2.2, rkW D aθ (aρ 0) (aπ 0) aν (aτ 0) z61.2.1, rmW D aρ z61.2.2.1, rmW D aπ π, txW D aτ τ, mdW D aμ z67.2, tlW D aν a63 a64 a65 a66 z61.2.2.2.1 z61.2.2.2.2.1 z61.2.2.2.2.2.1 z61.2.2.2.2.2.2.1].flatten) 7 (pkB [ouW D aO z61.2.2.2.2.2.2.2, rkW D aθ (aρ 0) (aπ 0) aν (aτ 0) z61.2.1, rmW D aρ z61.2.2.1, rmW D aπ π, txW D aτ τ, mdW D aμ z67.2, tlW D aν a63 a64 a65 a66 z61.2.2.2.1 z61.2.2.2.2.1 z61.2.2.2.2.2.1 z61.2.2.2.2.2.2.1] [0, 1, 2, 3, 4, 6]) ([mdW D aμ z67.2]) [0, 1, 2, 3, 4, 6, 5] rfl rfl rfl rfl (by decide) ?_
                  refine r_iload h 1 rfl dL_law_505 ?_
                  refine r_icmp_eq h 512 dL_law_507 (by decide) (fun c71 => ?_) (fun c71 => ?_)
                  · replace hF := o_pos c71 hF
                    refine r_iload h 1 rfl dL_law_512 ?_
                    refine r_if_ne h 529 dL_law_514 (by decide) (fun c72 => ?_) (fun c72 => ?_)
                    · replace hF := o_neg c72 hF
                      refine r_goto h 1712 dL_law_529 (by decide) ?_
                      refine r_iinc (lv' := [(4, .int (i + 5)), (6, .int z67.1), (5, .int z61.1), (3, .ref aO), (2, .ref (aμ 0)), (1, .ref aθ), (0, .ref b)]) h 2 rfl (congrArg (fun z => i + z) (by decide : Int32.ofInt 5 = 5)) dL_law_1712 (by decide) rfl ?_
                      refine r_goto h 23 dL_law_1715 (by decide) ?_
                      refine J.widen (k1 := k + 1) (n1 := n + 6) (by omega) (by omega) ?_
                      exact J.loc (lv' := [(4, .int (i + 5)), (3, .ref aO), (2, .ref (aμ 0)), (1, .ref aθ), (0, .ref b)]) [0, 3, 4, 5, 6] rfl (ih (k + 1) (n + 6) aρ aπ a63 a64 a65 a66 (i + 5) z61.2.2.2.2.2.2.2 z61.2.1 z61.2.2.1 π τ z67.2 z61.2.2.2.1 z61.2.2.2.2.1 z61.2.2.2.2.2.1 z61.2.2.2.2.2.2.1 (by omega) (by omega) hF)
                    · replace hF := o_pos c72 hF
                      refine r_aload_n h 3 rfl rfl dL_law_517 ?_
                      refine r_iconst (v := 0) h dL_law_518 (by decide) ?_
                      refine r_lald h 0 rfl (show ¬ (_ ∨ _) by decide) dL_law_519 ?_
                      refine r_iload h 0 rfl dL_law_520 ?_
                      refine r_i2l h dL_law_522 ?_
                      refine r_lcmp h dL_law_523 ?_
                      refine r_if_eq h 529 dL_law_524 (by decide) (fun c73 => ?_) (fun c73 => ?_)
                      · replace hF := o_pos c73 hF
                        refine r_goto h 1712 dL_law_529 (by decide) ?_
                        refine r_iinc (lv' := [(4, .int (i + 5)), (6, .int z67.1), (5, .int z61.1), (3, .ref aO), (2, .ref (aμ 0)), (1, .ref aθ), (0, .ref b)]) h 2 rfl (congrArg (fun z => i + z) (by decide : Int32.ofInt 5 = 5)) dL_law_1712 (by decide) rfl ?_
                        refine r_goto h 23 dL_law_1715 (by decide) ?_
                        refine J.widen (k1 := k + 1) (n1 := n + 6) (by omega) (by omega) ?_
                        exact J.loc (lv' := [(4, .int (i + 5)), (3, .ref aO), (2, .ref (aμ 0)), (1, .ref aθ), (0, .ref b)]) [0, 3, 4, 5, 6] rfl (ih (k + 1) (n + 6) aρ aπ a63 a64 a65 a66 (i + 5) z61.2.2.2.2.2.2.2 z61.2.1 z61.2.2.1 π τ z67.2 z61.2.2.2.1 z61.2.2.2.2.1 z61.2.2.2.2.2.1 z61.2.2.2.2.2.2.1 (by omega) (by omega) hF)
                      · replace hF := o_neg c73 hF
                        refine r_iconst (v := 0) h dL_law_527 (by decide) ?_
                        cases hF
                  · replace hF := o_neg c71 hF
                    refine r_iconst (v := 0) h dL_law_510 (by decide) ?_
                    cases hF
                · replace hF := o_neg c60 hF
                  by_cases c74 : u2 = (5 : Int32)
                  · replace hF := o_pos c74 hF
                    refine r_tswIn h (5 : Int32) c74 532 dL_law_39 (by decide) (by decide) rfl (by decide) ?_
                    refine r_aload_n h 3 rfl rfl dL_law_532 ?_
                    refine r_aload_n h 4 rfl rfl dL_law_533 ?_
                    refine r_iload h 0 rfl dL_law_534 ?_
                    refine r_iconst (v := 1) h dL_law_536 (by decide) ?_
                    refine r_iadd h dL_law_537 ?_
                    obtain ⟨hN, hF⟩ := o_gd hF
                    refine r_sld h hLX hN dL_law_538 ?_
                    refine r_aload_n h 1 rfl rfl dL_law_539 ?_
                    obtain ⟨z75, e76, hF⟩ := o_bind hF
                    refine r_callW (N0 := 7) (rest := []) h hXL [ouW D aO O, rkW D aθ (aρ 0) (aπ 0) aν (aτ 0) θ, rmW D aρ ρ, rmW D aπ π, txW D aτ τ, mdW D aμ μ, tlW D aν aS0 aS1 aS2 aS3 S0 S1 S2 S3] [0, 1, 2, 6] [3, 4, 5] hdw_removeCable wm_588 dL_law_540 (CL_removeCable l hl0 D aθ (aπ 0) (aτ 0) aρ aν aS0 aS1 aS2 aS3 aO θ ρ S0 S1 S2 S3 (xs (i + (1 : Int32)).toNatClampNeg) O z75.1 z75.2.1 z75.2.2.1 z75.2.2.2.1 z75.2.2.2.2.1 z75.2.2.2.2.2.1 z75.2.2.2.2.2.2.1 z75.2.2.2.2.2.2.2 e76) rfl rfl rfl (by decide) rfl ⟨rfl, rfl⟩ ⟨by decide, by decide⟩ (Nat.le_of_ble_eq_true rfl) ⟨by show _ ≤ 601024; omega, by show _ ≤ 7293034; omega⟩ rfl (fun v w' hp => ?_)
                    obtain ⟨rfl, a77, a78, a79, a80, rfl⟩ := hp
                    refine J.blk2 (ws' := [ouW D aO z75.2.2.2.2.2.2.2, rkW D aθ (aρ 0) (aπ 0) aν (aτ 0) z75.2.1, rmW D aρ z75.2.2.1, rmW D aπ π, txW D aτ τ, mdW D aμ μ, tlW D aν a77 a78 a79 a80 z75.2.2.2.1 z75.2.2.2.2.1 z75.2.2.2.2.2.1 z75.2.2.2.2.2.2.1].flatten) 7 (pkB [ouW D aO O, rkW D aθ (aρ 0) (aπ 0) aν (aτ 0) θ, rmW D aρ ρ, rmW D aπ π, txW D aτ τ, mdW D aμ μ, tlW D aν aS0 aS1 aS2 aS3 S0 S1 S2 S3] [3, 4, 5]) ([ouW D aO z75.2.2.2.2.2.2.2, rkW D aθ (aρ 0) (aπ 0) aν (aτ 0) z75.2.1, rmW D aρ z75.2.2.1, tlW D aν a77 a78 a79 a80 z75.2.2.2.1 z75.2.2.2.2.1 z75.2.2.2.2.2.1 z75.2.2.2.2.2.2.1]) [3, 4, 5, 0, 1, 2, 6] rfl rfl rfl rfl (by decide) ?_
                    refine r_istore (lv' := [(5, .int z75.1), (4, .int i), (3, .ref aO), (2, .ref (aμ 0)), (1, .ref aθ), (0, .ref b)]) h dL_law_543 (by decide) rfl ?_
                    refine r_aload_n h 3 rfl rfl dL_law_545 ?_
                    refine r_aload_n h 5 rfl rfl dL_law_546 ?_
                    refine r_iload h 1 rfl dL_law_547 ?_
                    refine r_iconst (v := 1) h dL_law_549 (by decide) ?_
                    refine r_iadd h dL_law_550 ?_
                    obtain ⟨hN, hF⟩ := o_gd hF
                    refine r_sld h hLX hN dL_law_551 ?_
                    obtain ⟨z81, e82, hF⟩ := o_bind hF
                    refine r_callVB (N0 := 7) (q0 := 0) (rest := []) h [ouW D aO z75.2.2.2.2.2.2.2, rkW D aθ (aρ 0) (aπ 0) aν (aτ 0) z75.2.1, rmW D aρ z75.2.2.1, rmW D aπ π, txW D aτ τ, mdW D aμ μ, tlW D aν a77 a78 a79 a80 z75.2.2.2.1 z75.2.2.2.2.1 z75.2.2.2.2.2.1 z75.2.2.2.2.2.2.1] [5] [0, 1, 2, 3, 4, 6] hdm_X4_removeCable wm_805 dL_law_552 (CX4_removeCable l D aμ μ (xs (i + (1 : Int32)).toNatClampNeg) z81.1 z81.2 e82) rfl rfl rfl (by decide) rfl rfl rfl ⟨rfl, rfl⟩ ⟨by decide, by decide⟩ (Nat.le_of_ble_eq_true rfl) ⟨by show _ ≤ 601024; omega, by show _ ≤ 7293034; omega⟩ rfl (fun v w' hp => ?_)
                    obtain ⟨rfl, rfl⟩ := hp
                    refine J.blk2 (ws' := [ouW D aO z75.2.2.2.2.2.2.2, rkW D aθ (aρ 0) (aπ 0) aν (aτ 0) z75.2.1, rmW D aρ z75.2.2.1, rmW D aπ π, txW D aτ τ, mdW D aμ z81.2, tlW D aν a77 a78 a79 a80 z75.2.2.2.1 z75.2.2.2.2.1 z75.2.2.2.2.2.1 z75.2.2.2.2.2.2.1].flatten) 7 (pkB [ouW D aO z75.2.2.2.2.2.2.2, rkW D aθ (aρ 0) (aπ 0) aν (aτ 0) z75.2.1, rmW D aρ z75.2.2.1, rmW D aπ π, txW D aτ τ, mdW D aμ μ, tlW D aν a77 a78 a79 a80 z75.2.2.2.1 z75.2.2.2.2.1 z75.2.2.2.2.2.1 z75.2.2.2.2.2.2.1] [0, 1, 2, 3, 4, 6]) ([mdW D aμ z81.2]) [0, 1, 2, 3, 4, 6, 5] rfl rfl rfl rfl (by decide) ?_
                    refine r_istore (lv' := [(6, .int z81.1), (5, .int z75.1), (4, .int i), (3, .ref aO), (2, .ref (aμ 0)), (1, .ref aθ), (0, .ref b)]) h dL_law_555 (by decide) rfl ?_
                    refine r_aload_n h 4 rfl rfl dL_law_557 ?_
                    obtain ⟨z83, e84, hF⟩ := o_bind hF
                    refine r_callVB (N0 := 7) (q0 := 0) (rest := []) h [ouW D aO z75.2.2.2.2.2.2.2, rkW D aθ (aρ 0) (aπ 0) aν (aτ 0) z75.2.1, rmW D aρ z75.2.2.1, rmW D aπ π, txW D aτ τ, mdW D aμ z81.2, tlW D aν a77 a78 a79 a80 z75.2.2.2.1 z75.2.2.2.2.1 z75.2.2.2.2.2.1 z75.2.2.2.2.2.2.1] [5] [0, 1, 2, 3, 4, 6] hdm_X4_thrown wm_744 dL_law_558 (CX4_thrown l D aμ z81.2 z83 e84) rfl rfl rfl (by decide) rfl rfl rfl ⟨rfl, rfl⟩ ⟨by decide, by decide⟩ (Nat.le_of_ble_eq_true rfl) ⟨by show _ ≤ 601024; omega, by show _ ≤ 7293034; omega⟩ rfl (fun v w' hp => ?_)
                    obtain ⟨rfl, rfl⟩ := hp
                    refine J.blk2 (ws' := [ouW D aO z75.2.2.2.2.2.2.2, rkW D aθ (aρ 0) (aπ 0) aν (aτ 0) z75.2.1, rmW D aρ z75.2.2.1, rmW D aπ π, txW D aτ τ, mdW D aμ z81.2, tlW D aν a77 a78 a79 a80 z75.2.2.2.1 z75.2.2.2.2.1 z75.2.2.2.2.2.1 z75.2.2.2.2.2.2.1].flatten) 7 (pkB [ouW D aO z75.2.2.2.2.2.2.2, rkW D aθ (aρ 0) (aπ 0) aν (aτ 0) z75.2.1, rmW D aρ z75.2.2.1, rmW D aπ π, txW D aτ τ, mdW D aμ z81.2, tlW D aν a77 a78 a79 a80 z75.2.2.2.1 z75.2.2.2.2.1 z75.2.2.2.2.2.1 z75.2.2.2.2.2.2.1] [0, 1, 2, 3, 4, 6]) ([mdW D aμ z81.2]) [0, 1, 2, 3, 4, 6, 5] rfl rfl rfl rfl (by decide) ?_
                    refine r_iload h 1 rfl dL_law_561 ?_
                    refine r_icmp_eq h 568 dL_law_563 (by decide) (fun c85 => ?_) (fun c85 => ?_)
                    · replace hF := o_pos c85 hF
                      refine r_iload h 1 rfl dL_law_568 ?_
                      refine r_if_ne h 585 dL_law_570 (by decide) (fun c86 => ?_) (fun c86 => ?_)
                      · replace hF := o_neg c86 hF
                        refine r_goto h 1712 dL_law_585 (by decide) ?_
                        refine r_iinc (lv' := [(4, .int (i + 5)), (6, .int z81.1), (5, .int z75.1), (3, .ref aO), (2, .ref (aμ 0)), (1, .ref aθ), (0, .ref b)]) h 2 rfl (congrArg (fun z => i + z) (by decide : Int32.ofInt 5 = 5)) dL_law_1712 (by decide) rfl ?_
                        refine r_goto h 23 dL_law_1715 (by decide) ?_
                        refine J.widen (k1 := k + 1) (n1 := n + 6) (by omega) (by omega) ?_
                        exact J.loc (lv' := [(4, .int (i + 5)), (3, .ref aO), (2, .ref (aμ 0)), (1, .ref aθ), (0, .ref b)]) [0, 3, 4, 5, 6] rfl (ih (k + 1) (n + 6) aρ aπ a77 a78 a79 a80 (i + 5) z75.2.2.2.2.2.2.2 z75.2.1 z75.2.2.1 π τ z81.2 z75.2.2.2.1 z75.2.2.2.2.1 z75.2.2.2.2.2.1 z75.2.2.2.2.2.2.1 (by omega) (by omega) hF)
                      · replace hF := o_pos c86 hF
                        refine r_aload_n h 3 rfl rfl dL_law_573 ?_
                        refine r_iconst (v := 0) h dL_law_574 (by decide) ?_
                        refine r_lald h 0 rfl (show ¬ (_ ∨ _) by decide) dL_law_575 ?_
                        refine r_iload h 0 rfl dL_law_576 ?_
                        refine r_i2l h dL_law_578 ?_
                        refine r_lcmp h dL_law_579 ?_
                        refine r_if_eq h 585 dL_law_580 (by decide) (fun c87 => ?_) (fun c87 => ?_)
                        · replace hF := o_pos c87 hF
                          refine r_goto h 1712 dL_law_585 (by decide) ?_
                          refine r_iinc (lv' := [(4, .int (i + 5)), (6, .int z81.1), (5, .int z75.1), (3, .ref aO), (2, .ref (aμ 0)), (1, .ref aθ), (0, .ref b)]) h 2 rfl (congrArg (fun z => i + z) (by decide : Int32.ofInt 5 = 5)) dL_law_1712 (by decide) rfl ?_
                          refine r_goto h 23 dL_law_1715 (by decide) ?_
                          refine J.widen (k1 := k + 1) (n1 := n + 6) (by omega) (by omega) ?_
                          exact J.loc (lv' := [(4, .int (i + 5)), (3, .ref aO), (2, .ref (aμ 0)), (1, .ref aθ), (0, .ref b)]) [0, 3, 4, 5, 6] rfl (ih (k + 1) (n + 6) aρ aπ a77 a78 a79 a80 (i + 5) z75.2.2.2.2.2.2.2 z75.2.1 z75.2.2.1 π τ z81.2 z75.2.2.2.1 z75.2.2.2.2.1 z75.2.2.2.2.2.1 z75.2.2.2.2.2.2.1 (by omega) (by omega) hF)
                        · replace hF := o_neg c87 hF
                          refine r_iconst (v := 0) h dL_law_583 (by decide) ?_
                          cases hF
                    · replace hF := o_neg c85 hF
                      refine r_iconst (v := 0) h dL_law_566 (by decide) ?_
                      cases hF
                  · replace hF := o_neg c74 hF
                    by_cases c88 : u2 = (6 : Int32)
                    · replace hF := o_pos c88 hF
                      refine r_tswIn h (6 : Int32) c88 588 dL_law_39 (by decide) (by decide) rfl (by decide) ?_
                      refine r_aload_n h 3 rfl rfl dL_law_588 ?_
                      refine r_aload_n h 4 rfl rfl dL_law_589 ?_
                      refine r_iload h 0 rfl dL_law_590 ?_
                      refine r_iconst (v := 1) h dL_law_592 (by decide) ?_
                      refine r_iadd h dL_law_593 ?_
                      obtain ⟨hN, hF⟩ := o_gd hF
                      refine r_sld h hLX hN dL_law_594 ?_
                      refine r_aload_n h 4 rfl rfl dL_law_595 ?_
                      refine r_iload h 0 rfl dL_law_596 ?_
                      refine r_iconst (v := 2) h dL_law_598 (by decide) ?_
                      refine r_iadd h dL_law_599 ?_
                      obtain ⟨hN, hF⟩ := o_gd hF
                      refine r_sld h hLX hN dL_law_600 ?_
                      refine r_aload_n h 4 rfl rfl dL_law_601 ?_
                      refine r_iload h 0 rfl dL_law_602 ?_
                      refine r_iconst (v := 3) h dL_law_604 (by decide) ?_
                      refine r_iadd h dL_law_605 ?_
                      obtain ⟨hN, hF⟩ := o_gd hF
                      refine r_sld h hLX hN dL_law_606 ?_
                      refine r_aload_n h 1 rfl rfl dL_law_607 ?_
                      obtain ⟨z89, e90, hF⟩ := o_bind hF
                      refine r_callW (N0 := 7) (rest := []) h hXL [ouW D aO O, rkW D aθ (aρ 0) (aπ 0) aν (aτ 0) θ, rmW D aρ ρ, rmW D aπ π, txW D aτ τ, mdW D aμ μ, tlW D aν aS0 aS1 aS2 aS3 S0 S1 S2 S3] [0, 1, 2, 6] [3, 4, 5] hdw_addFreeze wm_596 dL_law_608 (CL_addFreeze l hl0 D aθ (aπ 0) (aτ 0) aρ aν aS0 aS1 aS2 aS3 aO θ ρ S0 S1 S2 S3 (xs (i + (1 : Int32)).toNatClampNeg) (xs (i + (2 : Int32)).toNatClampNeg) (xs (i + (3 : Int32)).toNatClampNeg) O z89.1 z89.2.1 z89.2.2.1 z89.2.2.2.1 z89.2.2.2.2.1 z89.2.2.2.2.2.1 z89.2.2.2.2.2.2.1 z89.2.2.2.2.2.2.2 e90) rfl rfl rfl (by decide) rfl ⟨rfl, rfl⟩ ⟨by decide, by decide⟩ (Nat.le_of_ble_eq_true rfl) ⟨by show _ ≤ 601024; omega, by show _ ≤ 7293034; omega⟩ rfl (fun v w' hp => ?_)
                      obtain ⟨rfl, a91, a92, a93, a94, rfl⟩ := hp
                      refine J.blk2 (ws' := [ouW D aO z89.2.2.2.2.2.2.2, rkW D aθ (aρ 0) (aπ 0) aν (aτ 0) z89.2.1, rmW D aρ z89.2.2.1, rmW D aπ π, txW D aτ τ, mdW D aμ μ, tlW D aν a91 a92 a93 a94 z89.2.2.2.1 z89.2.2.2.2.1 z89.2.2.2.2.2.1 z89.2.2.2.2.2.2.1].flatten) 7 (pkB [ouW D aO O, rkW D aθ (aρ 0) (aπ 0) aν (aτ 0) θ, rmW D aρ ρ, rmW D aπ π, txW D aτ τ, mdW D aμ μ, tlW D aν aS0 aS1 aS2 aS3 S0 S1 S2 S3] [3, 4, 5]) ([ouW D aO z89.2.2.2.2.2.2.2, rkW D aθ (aρ 0) (aπ 0) aν (aτ 0) z89.2.1, rmW D aρ z89.2.2.1, tlW D aν a91 a92 a93 a94 z89.2.2.2.1 z89.2.2.2.2.1 z89.2.2.2.2.2.1 z89.2.2.2.2.2.2.1]) [3, 4, 5, 0, 1, 2, 6] rfl rfl rfl rfl (by decide) ?_
                      refine r_istore (lv' := [(5, .int z89.1), (4, .int i), (3, .ref aO), (2, .ref (aμ 0)), (1, .ref aθ), (0, .ref b)]) h dL_law_611 (by decide) rfl ?_
                      refine r_aload_n h 3 rfl rfl dL_law_613 ?_
                      refine r_aload_n h 5 rfl rfl dL_law_614 ?_
                      refine r_iload h 1 rfl dL_law_615 ?_
                      refine r_iconst (v := 1) h dL_law_617 (by decide) ?_
                      refine r_iadd h dL_law_618 ?_
                      obtain ⟨hN, hF⟩ := o_gd hF
                      refine r_sld h hLX hN dL_law_619 ?_
                      refine r_aload_n h 5 rfl rfl dL_law_620 ?_
                      refine r_iload h 1 rfl dL_law_621 ?_
                      refine r_iconst (v := 2) h dL_law_623 (by decide) ?_
                      refine r_iadd h dL_law_624 ?_
                      obtain ⟨hN, hF⟩ := o_gd hF
                      refine r_sld h hLX hN dL_law_625 ?_
                      refine r_aload_n h 5 rfl rfl dL_law_626 ?_
                      refine r_iload h 1 rfl dL_law_627 ?_
                      refine r_iconst (v := 3) h dL_law_629 (by decide) ?_
                      refine r_iadd h dL_law_630 ?_
                      obtain ⟨hN, hF⟩ := o_gd hF
                      refine r_sld h hLX hN dL_law_631 ?_
                      obtain ⟨z95, e96, hF⟩ := o_bind hF
                      refine r_callVB (N0 := 7) (q0 := 0) (rest := []) h [ouW D aO z89.2.2.2.2.2.2.2, rkW D aθ (aρ 0) (aπ 0) aν (aτ 0) z89.2.1, rmW D aρ z89.2.2.1, rmW D aπ π, txW D aτ τ, mdW D aμ μ, tlW D aν a91 a92 a93 a94 z89.2.2.2.1 z89.2.2.2.2.1 z89.2.2.2.2.2.1 z89.2.2.2.2.2.2.1] [5] [0, 1, 2, 3, 4, 6] hdm_X4_addFreeze wm_817 dL_law_632 (CX4_addFreeze l D aμ μ (xs (i + (1 : Int32)).toNatClampNeg) (xs (i + (2 : Int32)).toNatClampNeg) (xs (i + (3 : Int32)).toNatClampNeg) z95.1 z95.2 e96) rfl rfl rfl (by decide) rfl rfl rfl ⟨rfl, rfl⟩ ⟨by decide, by decide⟩ (Nat.le_of_ble_eq_true rfl) ⟨by show _ ≤ 601024; omega, by show _ ≤ 7293034; omega⟩ rfl (fun v w' hp => ?_)
                      obtain ⟨rfl, rfl⟩ := hp
                      refine J.blk2 (ws' := [ouW D aO z89.2.2.2.2.2.2.2, rkW D aθ (aρ 0) (aπ 0) aν (aτ 0) z89.2.1, rmW D aρ z89.2.2.1, rmW D aπ π, txW D aτ τ, mdW D aμ z95.2, tlW D aν a91 a92 a93 a94 z89.2.2.2.1 z89.2.2.2.2.1 z89.2.2.2.2.2.1 z89.2.2.2.2.2.2.1].flatten) 7 (pkB [ouW D aO z89.2.2.2.2.2.2.2, rkW D aθ (aρ 0) (aπ 0) aν (aτ 0) z89.2.1, rmW D aρ z89.2.2.1, rmW D aπ π, txW D aτ τ, mdW D aμ μ, tlW D aν a91 a92 a93 a94 z89.2.2.2.1 z89.2.2.2.2.1 z89.2.2.2.2.2.1 z89.2.2.2.2.2.2.1] [0, 1, 2, 3, 4, 6]) ([mdW D aμ z95.2]) [0, 1, 2, 3, 4, 6, 5] rfl rfl rfl rfl (by decide) ?_
                      refine r_istore (lv' := [(6, .int z95.1), (5, .int z89.1), (4, .int i), (3, .ref aO), (2, .ref (aμ 0)), (1, .ref aθ), (0, .ref b)]) h dL_law_635 (by decide) rfl ?_
                      refine r_aload_n h 4 rfl rfl dL_law_637 ?_
                      obtain ⟨z97, e98, hF⟩ := o_bind hF
                      refine r_callVB (N0 := 7) (q0 := 0) (rest := []) h [ouW D aO z89.2.2.2.2.2.2.2, rkW D aθ (aρ 0) (aπ 0) aν (aτ 0) z89.2.1, rmW D aρ z89.2.2.1, rmW D aπ π, txW D aτ τ, mdW D aμ z95.2, tlW D aν a91 a92 a93 a94 z89.2.2.2.1 z89.2.2.2.2.1 z89.2.2.2.2.2.1 z89.2.2.2.2.2.2.1] [5] [0, 1, 2, 3, 4, 6] hdm_X4_thrown wm_744 dL_law_638 (CX4_thrown l D aμ z95.2 z97 e98) rfl rfl rfl (by decide) rfl rfl rfl ⟨rfl, rfl⟩ ⟨by decide, by decide⟩ (Nat.le_of_ble_eq_true rfl) ⟨by show _ ≤ 601024; omega, by show _ ≤ 7293034; omega⟩ rfl (fun v w' hp => ?_)
                      obtain ⟨rfl, rfl⟩ := hp
                      refine J.blk2 (ws' := [ouW D aO z89.2.2.2.2.2.2.2, rkW D aθ (aρ 0) (aπ 0) aν (aτ 0) z89.2.1, rmW D aρ z89.2.2.1, rmW D aπ π, txW D aτ τ, mdW D aμ z95.2, tlW D aν a91 a92 a93 a94 z89.2.2.2.1 z89.2.2.2.2.1 z89.2.2.2.2.2.1 z89.2.2.2.2.2.2.1].flatten) 7 (pkB [ouW D aO z89.2.2.2.2.2.2.2, rkW D aθ (aρ 0) (aπ 0) aν (aτ 0) z89.2.1, rmW D aρ z89.2.2.1, rmW D aπ π, txW D aτ τ, mdW D aμ z95.2, tlW D aν a91 a92 a93 a94 z89.2.2.2.1 z89.2.2.2.2.1 z89.2.2.2.2.2.1 z89.2.2.2.2.2.2.1] [0, 1, 2, 3, 4, 6]) ([mdW D aμ z95.2]) [0, 1, 2, 3, 4, 6, 5] rfl rfl rfl rfl (by decide) ?_
                      refine r_iload h 1 rfl dL_law_641 ?_
                      refine r_icmp_eq h 648 dL_law_643 (by decide) (fun c99 => ?_) (fun c99 => ?_)
                      · replace hF := o_pos c99 hF
                        refine r_iload h 1 rfl dL_law_648 ?_
                        refine r_if_ne h 665 dL_law_650 (by decide) (fun c100 => ?_) (fun c100 => ?_)
                        · replace hF := o_neg c100 hF
                          refine r_goto h 1712 dL_law_665 (by decide) ?_
                          refine r_iinc (lv' := [(4, .int (i + 5)), (6, .int z95.1), (5, .int z89.1), (3, .ref aO), (2, .ref (aμ 0)), (1, .ref aθ), (0, .ref b)]) h 2 rfl (congrArg (fun z => i + z) (by decide : Int32.ofInt 5 = 5)) dL_law_1712 (by decide) rfl ?_
                          refine r_goto h 23 dL_law_1715 (by decide) ?_
                          refine J.widen (k1 := k + 1) (n1 := n + 6) (by omega) (by omega) ?_
                          exact J.loc (lv' := [(4, .int (i + 5)), (3, .ref aO), (2, .ref (aμ 0)), (1, .ref aθ), (0, .ref b)]) [0, 3, 4, 5, 6] rfl (ih (k + 1) (n + 6) aρ aπ a91 a92 a93 a94 (i + 5) z89.2.2.2.2.2.2.2 z89.2.1 z89.2.2.1 π τ z95.2 z89.2.2.2.1 z89.2.2.2.2.1 z89.2.2.2.2.2.1 z89.2.2.2.2.2.2.1 (by omega) (by omega) hF)
                        · replace hF := o_pos c100 hF
                          refine r_aload_n h 3 rfl rfl dL_law_653 ?_
                          refine r_iconst (v := 0) h dL_law_654 (by decide) ?_
                          refine r_lald h 0 rfl (show ¬ (_ ∨ _) by decide) dL_law_655 ?_
                          refine r_iload h 0 rfl dL_law_656 ?_
                          refine r_i2l h dL_law_658 ?_
                          refine r_lcmp h dL_law_659 ?_
                          refine r_if_eq h 665 dL_law_660 (by decide) (fun c101 => ?_) (fun c101 => ?_)
                          · replace hF := o_pos c101 hF
                            refine r_goto h 1712 dL_law_665 (by decide) ?_
                            refine r_iinc (lv' := [(4, .int (i + 5)), (6, .int z95.1), (5, .int z89.1), (3, .ref aO), (2, .ref (aμ 0)), (1, .ref aθ), (0, .ref b)]) h 2 rfl (congrArg (fun z => i + z) (by decide : Int32.ofInt 5 = 5)) dL_law_1712 (by decide) rfl ?_
                            refine r_goto h 23 dL_law_1715 (by decide) ?_
                            refine J.widen (k1 := k + 1) (n1 := n + 6) (by omega) (by omega) ?_
                            exact J.loc (lv' := [(4, .int (i + 5)), (3, .ref aO), (2, .ref (aμ 0)), (1, .ref aθ), (0, .ref b)]) [0, 3, 4, 5, 6] rfl (ih (k + 1) (n + 6) aρ aπ a91 a92 a93 a94 (i + 5) z89.2.2.2.2.2.2.2 z89.2.1 z89.2.2.1 π τ z95.2 z89.2.2.2.1 z89.2.2.2.2.1 z89.2.2.2.2.2.1 z89.2.2.2.2.2.2.1 (by omega) (by omega) hF)
                          · replace hF := o_neg c101 hF
                            refine r_iconst (v := 0) h dL_law_663 (by decide) ?_
                            cases hF
                      · replace hF := o_neg c99 hF
                        refine r_iconst (v := 0) h dL_law_646 (by decide) ?_
                        cases hF
                    · replace hF := o_neg c88 hF
                      by_cases c102 : u2 = (7 : Int32)
                      · replace hF := o_pos c102 hF
                        refine r_tswIn h (7 : Int32) c102 668 dL_law_39 (by decide) (by decide) rfl (by decide) ?_
                        refine r_aload_n h 3 rfl rfl dL_law_668 ?_
                        refine r_aload_n h 4 rfl rfl dL_law_669 ?_
                        refine r_iload h 0 rfl dL_law_670 ?_
                        refine r_iconst (v := 1) h dL_law_672 (by decide) ?_
                        refine r_iadd h dL_law_673 ?_
                        obtain ⟨hN, hF⟩ := o_gd hF
                        refine r_sld h hLX hN dL_law_674 ?_
                        refine r_aload_n h 1 rfl rfl dL_law_675 ?_
                        obtain ⟨z103, e104, hF⟩ := o_bind hF
                        refine r_callW (N0 := 7) (rest := []) h hXL [ouW D aO O, rkW D aθ (aρ 0) (aπ 0) aν (aτ 0) θ, rmW D aρ ρ, rmW D aπ π, txW D aτ τ, mdW D aμ μ, tlW D aν aS0 aS1 aS2 aS3 S0 S1 S2 S3] [0, 1, 2, 6] [3, 4, 5] hdw_removeFreeze wm_603 dL_law_676 (CL_removeFreeze l hl0 D aθ (aπ 0) (aτ 0) aρ aν aS0 aS1 aS2 aS3 aO θ ρ S0 S1 S2 S3 (xs (i + (1 : Int32)).toNatClampNeg) O z103.1 z103.2.1 z103.2.2.1 z103.2.2.2.1 z103.2.2.2.2.1 z103.2.2.2.2.2.1 z103.2.2.2.2.2.2.1 z103.2.2.2.2.2.2.2 e104) rfl rfl rfl (by decide) rfl ⟨rfl, rfl⟩ ⟨by decide, by decide⟩ (Nat.le_of_ble_eq_true rfl) ⟨by show _ ≤ 601024; omega, by show _ ≤ 7293034; omega⟩ rfl (fun v w' hp => ?_)
                        obtain ⟨rfl, a105, a106, a107, a108, rfl⟩ := hp
                        refine J.blk2 (ws' := [ouW D aO z103.2.2.2.2.2.2.2, rkW D aθ (aρ 0) (aπ 0) aν (aτ 0) z103.2.1, rmW D aρ z103.2.2.1, rmW D aπ π, txW D aτ τ, mdW D aμ μ, tlW D aν a105 a106 a107 a108 z103.2.2.2.1 z103.2.2.2.2.1 z103.2.2.2.2.2.1 z103.2.2.2.2.2.2.1].flatten) 7 (pkB [ouW D aO O, rkW D aθ (aρ 0) (aπ 0) aν (aτ 0) θ, rmW D aρ ρ, rmW D aπ π, txW D aτ τ, mdW D aμ μ, tlW D aν aS0 aS1 aS2 aS3 S0 S1 S2 S3] [3, 4, 5]) ([ouW D aO z103.2.2.2.2.2.2.2, rkW D aθ (aρ 0) (aπ 0) aν (aτ 0) z103.2.1, rmW D aρ z103.2.2.1, tlW D aν a105 a106 a107 a108 z103.2.2.2.1 z103.2.2.2.2.1 z103.2.2.2.2.2.1 z103.2.2.2.2.2.2.1]) [3, 4, 5, 0, 1, 2, 6] rfl rfl rfl rfl (by decide) ?_
                        refine r_istore (lv' := [(5, .int z103.1), (4, .int i), (3, .ref aO), (2, .ref (aμ 0)), (1, .ref aθ), (0, .ref b)]) h dL_law_679 (by decide) rfl ?_
                        refine r_aload_n h 3 rfl rfl dL_law_681 ?_
                        refine r_aload_n h 5 rfl rfl dL_law_682 ?_
                        refine r_iload h 1 rfl dL_law_683 ?_
                        refine r_iconst (v := 1) h dL_law_685 (by decide) ?_
                        refine r_iadd h dL_law_686 ?_
                        obtain ⟨hN, hF⟩ := o_gd hF
                        refine r_sld h hLX hN dL_law_687 ?_
                        obtain ⟨z109, e110, hF⟩ := o_bind hF
                        refine r_callVB (N0 := 7) (q0 := 0) (rest := []) h [ouW D aO z103.2.2.2.2.2.2.2, rkW D aθ (aρ 0) (aπ 0) aν (aτ 0) z103.2.1, rmW D aρ z103.2.2.1, rmW D aπ π, txW D aτ τ, mdW D aμ μ, tlW D aν a105 a106 a107 a108 z103.2.2.2.1 z103.2.2.2.2.1 z103.2.2.2.2.2.1 z103.2.2.2.2.2.2.1] [5] [0, 1, 2, 3, 4, 6] hdm_X4_removeFreeze wm_821 dL_law_688 (CX4_removeFreeze l D aμ μ (xs (i + (1 : Int32)).toNatClampNeg) z109.1 z109.2 e110) rfl rfl rfl (by decide) rfl rfl rfl ⟨rfl, rfl⟩ ⟨by decide, by decide⟩ (Nat.le_of_ble_eq_true rfl) ⟨by show _ ≤ 601024; omega, by show _ ≤ 7293034; omega⟩ rfl (fun v w' hp => ?_)
                        obtain ⟨rfl, rfl⟩ := hp
                        refine J.blk2 (ws' := [ouW D aO z103.2.2.2.2.2.2.2, rkW D aθ (aρ 0) (aπ 0) aν (aτ 0) z103.2.1, rmW D aρ z103.2.2.1, rmW D aπ π, txW D aτ τ, mdW D aμ z109.2, tlW D aν a105 a106 a107 a108 z103.2.2.2.1 z103.2.2.2.2.1 z103.2.2.2.2.2.1 z103.2.2.2.2.2.2.1].flatten) 7 (pkB [ouW D aO z103.2.2.2.2.2.2.2, rkW D aθ (aρ 0) (aπ 0) aν (aτ 0) z103.2.1, rmW D aρ z103.2.2.1, rmW D aπ π, txW D aτ τ, mdW D aμ μ, tlW D aν a105 a106 a107 a108 z103.2.2.2.1 z103.2.2.2.2.1 z103.2.2.2.2.2.1 z103.2.2.2.2.2.2.1] [0, 1, 2, 3, 4, 6]) ([mdW D aμ z109.2]) [0, 1, 2, 3, 4, 6, 5] rfl rfl rfl rfl (by decide) ?_
                        refine r_istore (lv' := [(6, .int z109.1), (5, .int z103.1), (4, .int i), (3, .ref aO), (2, .ref (aμ 0)), (1, .ref aθ), (0, .ref b)]) h dL_law_691 (by decide) rfl ?_
                        refine r_aload_n h 4 rfl rfl dL_law_693 ?_
                        obtain ⟨z111, e112, hF⟩ := o_bind hF
                        refine r_callVB (N0 := 7) (q0 := 0) (rest := []) h [ouW D aO z103.2.2.2.2.2.2.2, rkW D aθ (aρ 0) (aπ 0) aν (aτ 0) z103.2.1, rmW D aρ z103.2.2.1, rmW D aπ π, txW D aτ τ, mdW D aμ z109.2, tlW D aν a105 a106 a107 a108 z103.2.2.2.1 z103.2.2.2.2.1 z103.2.2.2.2.2.1 z103.2.2.2.2.2.2.1] [5] [0, 1, 2, 3, 4, 6] hdm_X4_thrown wm_744 dL_law_694 (CX4_thrown l D aμ z109.2 z111 e112) rfl rfl rfl (by decide) rfl rfl rfl ⟨rfl, rfl⟩ ⟨by decide, by decide⟩ (Nat.le_of_ble_eq_true rfl) ⟨by show _ ≤ 601024; omega, by show _ ≤ 7293034; omega⟩ rfl (fun v w' hp => ?_)
                        obtain ⟨rfl, rfl⟩ := hp
                        refine J.blk2 (ws' := [ouW D aO z103.2.2.2.2.2.2.2, rkW D aθ (aρ 0) (aπ 0) aν (aτ 0) z103.2.1, rmW D aρ z103.2.2.1, rmW D aπ π, txW D aτ τ, mdW D aμ z109.2, tlW D aν a105 a106 a107 a108 z103.2.2.2.1 z103.2.2.2.2.1 z103.2.2.2.2.2.1 z103.2.2.2.2.2.2.1].flatten) 7 (pkB [ouW D aO z103.2.2.2.2.2.2.2, rkW D aθ (aρ 0) (aπ 0) aν (aτ 0) z103.2.1, rmW D aρ z103.2.2.1, rmW D aπ π, txW D aτ τ, mdW D aμ z109.2, tlW D aν a105 a106 a107 a108 z103.2.2.2.1 z103.2.2.2.2.1 z103.2.2.2.2.2.1 z103.2.2.2.2.2.2.1] [0, 1, 2, 3, 4, 6]) ([mdW D aμ z109.2]) [0, 1, 2, 3, 4, 6, 5] rfl rfl rfl rfl (by decide) ?_
                        refine r_iload h 1 rfl dL_law_697 ?_
                        refine r_icmp_eq h 704 dL_law_699 (by decide) (fun c113 => ?_) (fun c113 => ?_)
                        · replace hF := o_pos c113 hF
                          refine r_iload h 1 rfl dL_law_704 ?_
                          refine r_if_ne h 721 dL_law_706 (by decide) (fun c114 => ?_) (fun c114 => ?_)
                          · replace hF := o_neg c114 hF
                            refine r_goto h 1712 dL_law_721 (by decide) ?_
                            refine r_iinc (lv' := [(4, .int (i + 5)), (6, .int z109.1), (5, .int z103.1), (3, .ref aO), (2, .ref (aμ 0)), (1, .ref aθ), (0, .ref b)]) h 2 rfl (congrArg (fun z => i + z) (by decide : Int32.ofInt 5 = 5)) dL_law_1712 (by decide) rfl ?_
                            refine r_goto h 23 dL_law_1715 (by decide) ?_
                            refine J.widen (k1 := k + 1) (n1 := n + 6) (by omega) (by omega) ?_
                            exact J.loc (lv' := [(4, .int (i + 5)), (3, .ref aO), (2, .ref (aμ 0)), (1, .ref aθ), (0, .ref b)]) [0, 3, 4, 5, 6] rfl (ih (k + 1) (n + 6) aρ aπ a105 a106 a107 a108 (i + 5) z103.2.2.2.2.2.2.2 z103.2.1 z103.2.2.1 π τ z109.2 z103.2.2.2.1 z103.2.2.2.2.1 z103.2.2.2.2.2.1 z103.2.2.2.2.2.2.1 (by omega) (by omega) hF)
                          · replace hF := o_pos c114 hF
                            refine r_aload_n h 3 rfl rfl dL_law_709 ?_
                            refine r_iconst (v := 0) h dL_law_710 (by decide) ?_
                            refine r_lald h 0 rfl (show ¬ (_ ∨ _) by decide) dL_law_711 ?_
                            refine r_iload h 0 rfl dL_law_712 ?_
                            refine r_i2l h dL_law_714 ?_
                            refine r_lcmp h dL_law_715 ?_
                            refine r_if_eq h 721 dL_law_716 (by decide) (fun c115 => ?_) (fun c115 => ?_)
                            · replace hF := o_pos c115 hF
                              refine r_goto h 1712 dL_law_721 (by decide) ?_
                              refine r_iinc (lv' := [(4, .int (i + 5)), (6, .int z109.1), (5, .int z103.1), (3, .ref aO), (2, .ref (aμ 0)), (1, .ref aθ), (0, .ref b)]) h 2 rfl (congrArg (fun z => i + z) (by decide : Int32.ofInt 5 = 5)) dL_law_1712 (by decide) rfl ?_
                              refine r_goto h 23 dL_law_1715 (by decide) ?_
                              refine J.widen (k1 := k + 1) (n1 := n + 6) (by omega) (by omega) ?_
                              exact J.loc (lv' := [(4, .int (i + 5)), (3, .ref aO), (2, .ref (aμ 0)), (1, .ref aθ), (0, .ref b)]) [0, 3, 4, 5, 6] rfl (ih (k + 1) (n + 6) aρ aπ a105 a106 a107 a108 (i + 5) z103.2.2.2.2.2.2.2 z103.2.1 z103.2.2.1 π τ z109.2 z103.2.2.2.1 z103.2.2.2.2.1 z103.2.2.2.2.2.1 z103.2.2.2.2.2.2.1 (by omega) (by omega) hF)
                            · replace hF := o_neg c115 hF
                              refine r_iconst (v := 0) h dL_law_719 (by decide) ?_
                              cases hF
                        · replace hF := o_neg c113 hF
                          refine r_iconst (v := 0) h dL_law_702 (by decide) ?_
                          cases hF
                      · replace hF := o_neg c102 hF
                        by_cases c116 : u2 = (8 : Int32)
                        · replace hF := o_pos c116 hF
                          refine r_tswIn h (8 : Int32) c116 724 dL_law_39 (by decide) (by decide) rfl (by decide) ?_
                          refine r_aload_n h 3 rfl rfl dL_law_724 ?_
                          refine r_aload_n h 4 rfl rfl dL_law_725 ?_
                          refine r_iload h 0 rfl dL_law_726 ?_
                          refine r_iconst (v := 1) h dL_law_728 (by decide) ?_
                          refine r_iadd h dL_law_729 ?_
                          obtain ⟨hN, hF⟩ := o_gd hF
                          refine r_sld h hLX hN dL_law_730 ?_
                          refine r_aload_n h 1 rfl rfl dL_law_731 ?_
                          obtain ⟨z117, e118, hF⟩ := o_bind hF
                          refine r_callW (N0 := 7) (rest := []) h hXL [ouW D aO O, rkW D aθ (aρ 0) (aπ 0) aν (aτ 0) θ, rmW D aρ ρ, rmW D aπ π, txW D aτ τ, mdW D aμ μ, tlW D aν aS0 aS1 aS2 aS3 S0 S1 S2 S3] [0, 1, 2, 6] [3, 4, 5] hdw_pass wm_611 dL_law_732 (CL_pass l hl0 D aθ (aπ 0) (aτ 0) aρ aν aS0 aS1 aS2 aS3 aO θ ρ S0 S1 S2 S3 (xs (i + (1 : Int32)).toNatClampNeg) O z117.1 z117.2.1 z117.2.2.1 z117.2.2.2.1 z117.2.2.2.2.1 z117.2.2.2.2.2.1 z117.2.2.2.2.2.2.1 z117.2.2.2.2.2.2.2 e118) rfl rfl rfl (by decide) rfl ⟨rfl, rfl⟩ ⟨by decide, by decide⟩ (Nat.le_of_ble_eq_true rfl) ⟨by show _ ≤ 601024; omega, by show _ ≤ 7293034; omega⟩ rfl (fun v w' hp => ?_)
                          obtain ⟨rfl, a119, a120, a121, a122, rfl⟩ := hp
                          refine J.blk2 (ws' := [ouW D aO z117.2.2.2.2.2.2.2, rkW D aθ (aρ 0) (aπ 0) aν (aτ 0) z117.2.1, rmW D aρ z117.2.2.1, rmW D aπ π, txW D aτ τ, mdW D aμ μ, tlW D aν a119 a120 a121 a122 z117.2.2.2.1 z117.2.2.2.2.1 z117.2.2.2.2.2.1 z117.2.2.2.2.2.2.1].flatten) 7 (pkB [ouW D aO O, rkW D aθ (aρ 0) (aπ 0) aν (aτ 0) θ, rmW D aρ ρ, rmW D aπ π, txW D aτ τ, mdW D aμ μ, tlW D aν aS0 aS1 aS2 aS3 S0 S1 S2 S3] [3, 4, 5]) ([ouW D aO z117.2.2.2.2.2.2.2, rkW D aθ (aρ 0) (aπ 0) aν (aτ 0) z117.2.1, rmW D aρ z117.2.2.1, tlW D aν a119 a120 a121 a122 z117.2.2.2.1 z117.2.2.2.2.1 z117.2.2.2.2.2.1 z117.2.2.2.2.2.2.1]) [3, 4, 5, 0, 1, 2, 6] rfl rfl rfl rfl (by decide) ?_
                          refine r_istore (lv' := [(5, .int z117.1), (4, .int i), (3, .ref aO), (2, .ref (aμ 0)), (1, .ref aθ), (0, .ref b)]) h dL_law_735 (by decide) rfl ?_
                          refine r_aload_n h 3 rfl rfl dL_law_737 ?_
                          refine r_aload_n h 5 rfl rfl dL_law_738 ?_
                          refine r_iload h 1 rfl dL_law_739 ?_
                          refine r_iconst (v := 1) h dL_law_741 (by decide) ?_
                          refine r_iadd h dL_law_742 ?_
                          obtain ⟨hN, hF⟩ := o_gd hF
                          refine r_sld h hLX hN dL_law_743 ?_
                          obtain ⟨z123, e124, hF⟩ := o_bind hF
                          refine r_callVB (N0 := 7) (q0 := 0) (rest := []) h [ouW D aO z117.2.2.2.2.2.2.2, rkW D aθ (aρ 0) (aπ 0) aν (aτ 0) z117.2.1, rmW D aρ z117.2.2.1, rmW D aπ π, txW D aτ τ, mdW D aμ μ, tlW D aν a119 a120 a121 a122 z117.2.2.2.1 z117.2.2.2.2.1 z117.2.2.2.2.2.1 z117.2.2.2.2.2.2.1] [5] [0, 1, 2, 3, 4, 6] hdm_X4_pass wm_825 dL_law_744 (CX4_pass l D aμ μ (xs (i + (1 : Int32)).toNatClampNeg) z123.1 z123.2 e124) rfl rfl rfl (by decide) rfl rfl rfl ⟨rfl, rfl⟩ ⟨by decide, by decide⟩ (Nat.le_of_ble_eq_true rfl) ⟨by show _ ≤ 601024; omega, by show _ ≤ 7293034; omega⟩ rfl (fun v w' hp => ?_)
                          obtain ⟨rfl, rfl⟩ := hp
                          refine J.blk2 (ws' := [ouW D aO z117.2.2.2.2.2.2.2, rkW D aθ (aρ 0) (aπ 0) aν (aτ 0) z117.2.1, rmW D aρ z117.2.2.1, rmW D aπ π, txW D aτ τ, mdW D aμ z123.2, tlW D aν a119 a120 a121 a122 z117.2.2.2.1 z117.2.2.2.2.1 z117.2.2.2.2.2.1 z117.2.2.2.2.2.2.1].flatten) 7 (pkB [ouW D aO z117.2.2.2.2.2.2.2, rkW D aθ (aρ 0) (aπ 0) aν (aτ 0) z117.2.1, rmW D aρ z117.2.2.1, rmW D aπ π, txW D aτ τ, mdW D aμ μ, tlW D aν a119 a120 a121 a122 z117.2.2.2.1 z117.2.2.2.2.1 z117.2.2.2.2.2.1 z117.2.2.2.2.2.2.1] [0, 1, 2, 3, 4, 6]) ([mdW D aμ z123.2]) [0, 1, 2, 3, 4, 6, 5] rfl rfl rfl rfl (by decide) ?_
                          refine r_istore (lv' := [(6, .int z123.1), (5, .int z117.1), (4, .int i), (3, .ref aO), (2, .ref (aμ 0)), (1, .ref aθ), (0, .ref b)]) h dL_law_747 (by decide) rfl ?_
                          refine r_aload_n h 4 rfl rfl dL_law_749 ?_
                          obtain ⟨z125, e126, hF⟩ := o_bind hF
                          refine r_callVB (N0 := 7) (q0 := 0) (rest := []) h [ouW D aO z117.2.2.2.2.2.2.2, rkW D aθ (aρ 0) (aπ 0) aν (aτ 0) z117.2.1, rmW D aρ z117.2.2.1, rmW D aπ π, txW D aτ τ, mdW D aμ z123.2, tlW D aν a119 a120 a121 a122 z117.2.2.2.1 z117.2.2.2.2.1 z117.2.2.2.2.2.1 z117.2.2.2.2.2.2.1] [5] [0, 1, 2, 3, 4, 6] hdm_X4_thrown wm_744 dL_law_750 (CX4_thrown l D aμ z123.2 z125 e126) rfl rfl rfl (by decide) rfl rfl rfl ⟨rfl, rfl⟩ ⟨by decide, by decide⟩ (Nat.le_of_ble_eq_true rfl) ⟨by show _ ≤ 601024; omega, by show _ ≤ 7293034; omega⟩ rfl (fun v w' hp => ?_)
                          obtain ⟨rfl, rfl⟩ := hp
                          refine J.blk2 (ws' := [ouW D aO z117.2.2.2.2.2.2.2, rkW D aθ (aρ 0) (aπ 0) aν (aτ 0) z117.2.1, rmW D aρ z117.2.2.1, rmW D aπ π, txW D aτ τ, mdW D aμ z123.2, tlW D aν a119 a120 a121 a122 z117.2.2.2.1 z117.2.2.2.2.1 z117.2.2.2.2.2.1 z117.2.2.2.2.2.2.1].flatten) 7 (pkB [ouW D aO z117.2.2.2.2.2.2.2, rkW D aθ (aρ 0) (aπ 0) aν (aτ 0) z117.2.1, rmW D aρ z117.2.2.1, rmW D aπ π, txW D aτ τ, mdW D aμ z123.2, tlW D aν a119 a120 a121 a122 z117.2.2.2.1 z117.2.2.2.2.1 z117.2.2.2.2.2.1 z117.2.2.2.2.2.2.1] [0, 1, 2, 3, 4, 6]) ([mdW D aμ z123.2]) [0, 1, 2, 3, 4, 6, 5] rfl rfl rfl rfl (by decide) ?_
                          refine r_iload h 1 rfl dL_law_753 ?_
                          refine r_icmp_eq h 760 dL_law_755 (by decide) (fun c127 => ?_) (fun c127 => ?_)
                          · replace hF := o_pos c127 hF
                            refine r_iload h 1 rfl dL_law_760 ?_
                            refine r_if_ne h 777 dL_law_762 (by decide) (fun c128 => ?_) (fun c128 => ?_)
                            · replace hF := o_neg c128 hF
                              refine r_goto h 1712 dL_law_777 (by decide) ?_
                              refine r_iinc (lv' := [(4, .int (i + 5)), (6, .int z123.1), (5, .int z117.1), (3, .ref aO), (2, .ref (aμ 0)), (1, .ref aθ), (0, .ref b)]) h 2 rfl (congrArg (fun z => i + z) (by decide : Int32.ofInt 5 = 5)) dL_law_1712 (by decide) rfl ?_
                              refine r_goto h 23 dL_law_1715 (by decide) ?_
                              refine J.widen (k1 := k + 1) (n1 := n + 6) (by omega) (by omega) ?_
                              exact J.loc (lv' := [(4, .int (i + 5)), (3, .ref aO), (2, .ref (aμ 0)), (1, .ref aθ), (0, .ref b)]) [0, 3, 4, 5, 6] rfl (ih (k + 1) (n + 6) aρ aπ a119 a120 a121 a122 (i + 5) z117.2.2.2.2.2.2.2 z117.2.1 z117.2.2.1 π τ z123.2 z117.2.2.2.1 z117.2.2.2.2.1 z117.2.2.2.2.2.1 z117.2.2.2.2.2.2.1 (by omega) (by omega) hF)
                            · replace hF := o_pos c128 hF
                              refine r_aload_n h 3 rfl rfl dL_law_765 ?_
                              refine r_iconst (v := 0) h dL_law_766 (by decide) ?_
                              refine r_lald h 0 rfl (show ¬ (_ ∨ _) by decide) dL_law_767 ?_
                              refine r_iload h 0 rfl dL_law_768 ?_
                              refine r_i2l h dL_law_770 ?_
                              refine r_lcmp h dL_law_771 ?_
                              refine r_if_eq h 777 dL_law_772 (by decide) (fun c129 => ?_) (fun c129 => ?_)
                              · replace hF := o_pos c129 hF
                                refine r_goto h 1712 dL_law_777 (by decide) ?_
                                refine r_iinc (lv' := [(4, .int (i + 5)), (6, .int z123.1), (5, .int z117.1), (3, .ref aO), (2, .ref (aμ 0)), (1, .ref aθ), (0, .ref b)]) h 2 rfl (congrArg (fun z => i + z) (by decide : Int32.ofInt 5 = 5)) dL_law_1712 (by decide) rfl ?_
                                refine r_goto h 23 dL_law_1715 (by decide) ?_
                                refine J.widen (k1 := k + 1) (n1 := n + 6) (by omega) (by omega) ?_
                                exact J.loc (lv' := [(4, .int (i + 5)), (3, .ref aO), (2, .ref (aμ 0)), (1, .ref aθ), (0, .ref b)]) [0, 3, 4, 5, 6] rfl (ih (k + 1) (n + 6) aρ aπ a119 a120 a121 a122 (i + 5) z117.2.2.2.2.2.2.2 z117.2.1 z117.2.2.1 π τ z123.2 z117.2.2.2.1 z117.2.2.2.2.1 z117.2.2.2.2.2.1 z117.2.2.2.2.2.2.1 (by omega) (by omega) hF)
                              · replace hF := o_neg c129 hF
                                refine r_iconst (v := 0) h dL_law_775 (by decide) ?_
                                cases hF
                          · replace hF := o_neg c127 hF
                            refine r_iconst (v := 0) h dL_law_758 (by decide) ?_
                            cases hF
                        · replace hF := o_neg c116 hF
                          by_cases c130 : u2 = (9 : Int32)
                          · replace hF := o_pos c130 hF
                            refine r_tswIn h (9 : Int32) c130 780 dL_law_39 (by decide) (by decide) rfl (by decide) ?_
                            refine r_aload_n h 3 rfl rfl dL_law_780 ?_
                            refine r_aload_n h 4 rfl rfl dL_law_781 ?_
                            refine r_iload h 0 rfl dL_law_782 ?_
                            refine r_iconst (v := 1) h dL_law_784 (by decide) ?_
                            refine r_iadd h dL_law_785 ?_
                            obtain ⟨hN, hF⟩ := o_gd hF
                            refine r_sld h hLX hN dL_law_786 ?_
                            refine r_aload_n h 4 rfl rfl dL_law_787 ?_
                            refine r_iload h 0 rfl dL_law_788 ?_
                            refine r_iconst (v := 2) h dL_law_790 (by decide) ?_
                            refine r_iadd h dL_law_791 ?_
                            obtain ⟨hN, hF⟩ := o_gd hF
                            refine r_sld h hLX hN dL_law_792 ?_
                            refine r_aload_n h 1 rfl rfl dL_law_793 ?_
                            obtain ⟨z131, e132, hF⟩ := o_bind hF
                            refine r_callW (N0 := 7) (rest := []) h hXL [ouW D aO O, rkW D aθ (aρ 0) (aπ 0) aν (aτ 0) θ, rmW D aρ ρ, rmW D aπ π, txW D aτ τ, mdW D aμ μ, tlW D aν aS0 aS1 aS2 aS3 S0 S1 S2 S3] [0, 1, 2] [3, 4, 5, 6] hdw_machine wm_619 dL_law_794 (CL_machine l hl0 D aθ (aπ 0) aν (aτ 0) aρ aO θ ρ (xs (i + (1 : Int32)).toNatClampNeg) (xs (i + (2 : Int32)).toNatClampNeg) O z131.1 z131.2 e132) rfl rfl rfl (by decide) rfl ⟨rfl, rfl⟩ ⟨by decide, by decide⟩ (Nat.le_of_ble_eq_true rfl) ⟨by show _ ≤ 601024; omega, by show _ ≤ 7293034; omega⟩ rfl (fun v w' hp => ?_)
                            obtain ⟨rfl, rfl⟩ := hp
                            refine J.blk2 (ws' := [ouW D aO z131.2, rkW D aθ (aρ 0) (aπ 0) aν (aτ 0) θ, rmW D aρ ρ, rmW D aπ π, txW D aτ τ, mdW D aμ μ, tlW D aν aS0 aS1 aS2 aS3 S0 S1 S2 S3].flatten) 7 (pkB [ouW D aO O, rkW D aθ (aρ 0) (aπ 0) aν (aτ 0) θ, rmW D aρ ρ, rmW D aπ π, txW D aτ τ, mdW D aμ μ, tlW D aν aS0 aS1 aS2 aS3 S0 S1 S2 S3] [3, 4, 5, 6]) ([ouW D aO z131.2, rkW D aθ (aρ 0) (aπ 0) aν (aτ 0) θ, rmW D aρ ρ]) [4, 5, 6, 0, 1, 2, 3] rfl rfl rfl rfl (by decide) ?_
                            refine r_istore (lv' := [(5, .int z131.1), (4, .int i), (3, .ref aO), (2, .ref (aμ 0)), (1, .ref aθ), (0, .ref b)]) h dL_law_797 (by decide) rfl ?_
                            refine r_aload_n h 3 rfl rfl dL_law_799 ?_
                            refine r_aload_n h 5 rfl rfl dL_law_800 ?_
                            refine r_iload h 1 rfl dL_law_801 ?_
                            refine r_iconst (v := 1) h dL_law_803 (by decide) ?_
                            refine r_iadd h dL_law_804 ?_
                            obtain ⟨hN, hF⟩ := o_gd hF
                            refine r_sld h hLX hN dL_law_805 ?_
                            refine r_aload_n h 5 rfl rfl dL_law_806 ?_
                            refine r_iload h 1 rfl dL_law_807 ?_
                            refine r_iconst (v := 2) h dL_law_809 (by decide) ?_
                            refine r_iadd h dL_law_810 ?_
                            obtain ⟨hN, hF⟩ := o_gd hF
                            refine r_sld h hLX hN dL_law_811 ?_
                            obtain ⟨z133, e134, hF⟩ := o_bind hF
                            refine r_callVB (N0 := 7) (q0 := 0) (rest := []) h [ouW D aO z131.2, rkW D aθ (aρ 0) (aπ 0) aν (aτ 0) θ, rmW D aρ ρ, rmW D aπ π, txW D aτ τ, mdW D aμ μ, tlW D aν aS0 aS1 aS2 aS3 S0 S1 S2 S3] [5] [0, 1, 2, 3, 4, 6] hdm_X4_machine wm_829 dL_law_812 (CX4_machine l D aμ μ (xs (i + (1 : Int32)).toNatClampNeg) (xs (i + (2 : Int32)).toNatClampNeg) z133.1 z133.2 e134) rfl rfl rfl (by decide) rfl rfl rfl ⟨rfl, rfl⟩ ⟨by decide, by decide⟩ (Nat.le_of_ble_eq_true rfl) ⟨by show _ ≤ 601024; omega, by show _ ≤ 7293034; omega⟩ rfl (fun v w' hp => ?_)
                            obtain ⟨rfl, rfl⟩ := hp
                            refine J.blk2 (ws' := [ouW D aO z131.2, rkW D aθ (aρ 0) (aπ 0) aν (aτ 0) θ, rmW D aρ ρ, rmW D aπ π, txW D aτ τ, mdW D aμ z133.2, tlW D aν aS0 aS1 aS2 aS3 S0 S1 S2 S3].flatten) 7 (pkB [ouW D aO z131.2, rkW D aθ (aρ 0) (aπ 0) aν (aτ 0) θ, rmW D aρ ρ, rmW D aπ π, txW D aτ τ, mdW D aμ μ, tlW D aν aS0 aS1 aS2 aS3 S0 S1 S2 S3] [0, 1, 2, 3, 4, 6]) ([mdW D aμ z133.2]) [0, 1, 2, 3, 4, 6, 5] rfl rfl rfl rfl (by decide) ?_
                            refine r_istore (lv' := [(6, .int z133.1), (5, .int z131.1), (4, .int i), (3, .ref aO), (2, .ref (aμ 0)), (1, .ref aθ), (0, .ref b)]) h dL_law_815 (by decide) rfl ?_
                            refine r_aload_n h 4 rfl rfl dL_law_817 ?_
                            obtain ⟨z135, e136, hF⟩ := o_bind hF
                            refine r_callVB (N0 := 7) (q0 := 0) (rest := []) h [ouW D aO z131.2, rkW D aθ (aρ 0) (aπ 0) aν (aτ 0) θ, rmW D aρ ρ, rmW D aπ π, txW D aτ τ, mdW D aμ z133.2, tlW D aν aS0 aS1 aS2 aS3 S0 S1 S2 S3] [5] [0, 1, 2, 3, 4, 6] hdm_X4_thrown wm_744 dL_law_818 (CX4_thrown l D aμ z133.2 z135 e136) rfl rfl rfl (by decide) rfl rfl rfl ⟨rfl, rfl⟩ ⟨by decide, by decide⟩ (Nat.le_of_ble_eq_true rfl) ⟨by show _ ≤ 601024; omega, by show _ ≤ 7293034; omega⟩ rfl (fun v w' hp => ?_)
                            obtain ⟨rfl, rfl⟩ := hp
                            refine J.blk2 (ws' := [ouW D aO z131.2, rkW D aθ (aρ 0) (aπ 0) aν (aτ 0) θ, rmW D aρ ρ, rmW D aπ π, txW D aτ τ, mdW D aμ z133.2, tlW D aν aS0 aS1 aS2 aS3 S0 S1 S2 S3].flatten) 7 (pkB [ouW D aO z131.2, rkW D aθ (aρ 0) (aπ 0) aν (aτ 0) θ, rmW D aρ ρ, rmW D aπ π, txW D aτ τ, mdW D aμ z133.2, tlW D aν aS0 aS1 aS2 aS3 S0 S1 S2 S3] [0, 1, 2, 3, 4, 6]) ([mdW D aμ z133.2]) [0, 1, 2, 3, 4, 6, 5] rfl rfl rfl rfl (by decide) ?_
                            refine r_iload h 1 rfl dL_law_821 ?_
                            refine r_icmp_eq h 828 dL_law_823 (by decide) (fun c137 => ?_) (fun c137 => ?_)
                            · replace hF := o_pos c137 hF
                              refine r_iload h 1 rfl dL_law_828 ?_
                              refine r_if_ne h 845 dL_law_830 (by decide) (fun c138 => ?_) (fun c138 => ?_)
                              · replace hF := o_neg c138 hF
                                refine r_goto h 1712 dL_law_845 (by decide) ?_
                                refine r_iinc (lv' := [(4, .int (i + 5)), (6, .int z133.1), (5, .int z131.1), (3, .ref aO), (2, .ref (aμ 0)), (1, .ref aθ), (0, .ref b)]) h 2 rfl (congrArg (fun z => i + z) (by decide : Int32.ofInt 5 = 5)) dL_law_1712 (by decide) rfl ?_
                                refine r_goto h 23 dL_law_1715 (by decide) ?_
                                refine J.widen (k1 := k + 1) (n1 := n + 6) (by omega) (by omega) ?_
                                exact J.loc (lv' := [(4, .int (i + 5)), (3, .ref aO), (2, .ref (aμ 0)), (1, .ref aθ), (0, .ref b)]) [0, 3, 4, 5, 6] rfl (ih (k + 1) (n + 6) aρ aπ aS0 aS1 aS2 aS3 (i + 5) z131.2 θ ρ π τ z133.2 S0 S1 S2 S3 (by omega) (by omega) hF)
                              · replace hF := o_pos c138 hF
                                refine r_aload_n h 3 rfl rfl dL_law_833 ?_
                                refine r_iconst (v := 0) h dL_law_834 (by decide) ?_
                                refine r_lald h 0 rfl (show ¬ (_ ∨ _) by decide) dL_law_835 ?_
                                refine r_iload h 0 rfl dL_law_836 ?_
                                refine r_i2l h dL_law_838 ?_
                                refine r_lcmp h dL_law_839 ?_
                                refine r_if_eq h 845 dL_law_840 (by decide) (fun c139 => ?_) (fun c139 => ?_)
                                · replace hF := o_pos c139 hF
                                  refine r_goto h 1712 dL_law_845 (by decide) ?_
                                  refine r_iinc (lv' := [(4, .int (i + 5)), (6, .int z133.1), (5, .int z131.1), (3, .ref aO), (2, .ref (aμ 0)), (1, .ref aθ), (0, .ref b)]) h 2 rfl (congrArg (fun z => i + z) (by decide : Int32.ofInt 5 = 5)) dL_law_1712 (by decide) rfl ?_
                                  refine r_goto h 23 dL_law_1715 (by decide) ?_
                                  refine J.widen (k1 := k + 1) (n1 := n + 6) (by omega) (by omega) ?_
                                  exact J.loc (lv' := [(4, .int (i + 5)), (3, .ref aO), (2, .ref (aμ 0)), (1, .ref aθ), (0, .ref b)]) [0, 3, 4, 5, 6] rfl (ih (k + 1) (n + 6) aρ aπ aS0 aS1 aS2 aS3 (i + 5) z131.2 θ ρ π τ z133.2 S0 S1 S2 S3 (by omega) (by omega) hF)
                                · replace hF := o_neg c139 hF
                                  refine r_iconst (v := 0) h dL_law_843 (by decide) ?_
                                  cases hF
                            · replace hF := o_neg c137 hF
                              refine r_iconst (v := 0) h dL_law_826 (by decide) ?_
                              cases hF
                          · replace hF := o_neg c130 hF
                            by_cases c140 : u2 = (10 : Int32)
                            · replace hF := o_pos c140 hF
                              refine r_tswIn h (10 : Int32) c140 848 dL_law_39 (by decide) (by decide) rfl (by decide) ?_
                              refine r_aload_n h 3 rfl rfl dL_law_848 ?_
                              refine r_aload_n h 4 rfl rfl dL_law_849 ?_
                              refine r_iload h 0 rfl dL_law_850 ?_
                              refine r_iconst (v := 1) h dL_law_852 (by decide) ?_
                              refine r_iadd h dL_law_853 ?_
                              obtain ⟨hN, hF⟩ := o_gd hF
                              refine r_sld h hLX hN dL_law_854 ?_
                              refine r_aload_n h 4 rfl rfl dL_law_855 ?_
                              refine r_iload h 0 rfl dL_law_856 ?_
                              refine r_iconst (v := 2) h dL_law_858 (by decide) ?_
                              refine r_iadd h dL_law_859 ?_
                              obtain ⟨hN, hF⟩ := o_gd hF
                              refine r_sld h hLX hN dL_law_860 ?_
                              refine r_aload_n h 1 rfl rfl dL_law_861 ?_
                              obtain ⟨z141, e142, hF⟩ := o_bind hF
                              refine r_callW (N0 := 7) (rest := []) h hXL [ouW D aO O, rkW D aθ (aρ 0) (aπ 0) aν (aτ 0) θ, rmW D aρ ρ, rmW D aπ π, txW D aτ τ, mdW D aμ μ, tlW D aν aS0 aS1 aS2 aS3 S0 S1 S2 S3] [0, 1, 2] [3, 4, 5, 6] hdw_rack wm_623 dL_law_862 (CL_rack l hl0 D aθ (aπ 0) aν (aτ 0) aρ aO θ ρ (xs (i + (1 : Int32)).toNatClampNeg) (xs (i + (2 : Int32)).toNatClampNeg) O z141.1 z141.2 e142) rfl rfl rfl (by decide) rfl ⟨rfl, rfl⟩ ⟨by decide, by decide⟩ (Nat.le_of_ble_eq_true rfl) ⟨by show _ ≤ 601024; omega, by show _ ≤ 7293034; omega⟩ rfl (fun v w' hp => ?_)
                              obtain ⟨rfl, rfl⟩ := hp
                              refine J.blk2 (ws' := [ouW D aO z141.2, rkW D aθ (aρ 0) (aπ 0) aν (aτ 0) θ, rmW D aρ ρ, rmW D aπ π, txW D aτ τ, mdW D aμ μ, tlW D aν aS0 aS1 aS2 aS3 S0 S1 S2 S3].flatten) 7 (pkB [ouW D aO O, rkW D aθ (aρ 0) (aπ 0) aν (aτ 0) θ, rmW D aρ ρ, rmW D aπ π, txW D aτ τ, mdW D aμ μ, tlW D aν aS0 aS1 aS2 aS3 S0 S1 S2 S3] [3, 4, 5, 6]) ([ouW D aO z141.2, rkW D aθ (aρ 0) (aπ 0) aν (aτ 0) θ, rmW D aρ ρ]) [4, 5, 6, 0, 1, 2, 3] rfl rfl rfl rfl (by decide) ?_
                              refine r_istore (lv' := [(5, .int z141.1), (4, .int i), (3, .ref aO), (2, .ref (aμ 0)), (1, .ref aθ), (0, .ref b)]) h dL_law_865 (by decide) rfl ?_
                              refine r_aload_n h 3 rfl rfl dL_law_867 ?_
                              refine r_aload_n h 5 rfl rfl dL_law_868 ?_
                              refine r_iload h 1 rfl dL_law_869 ?_
                              refine r_iconst (v := 1) h dL_law_871 (by decide) ?_
                              refine r_iadd h dL_law_872 ?_
                              obtain ⟨hN, hF⟩ := o_gd hF
                              refine r_sld h hLX hN dL_law_873 ?_
                              refine r_aload_n h 5 rfl rfl dL_law_874 ?_
                              refine r_iload h 1 rfl dL_law_875 ?_
                              refine r_iconst (v := 2) h dL_law_877 (by decide) ?_
                              refine r_iadd h dL_law_878 ?_
                              obtain ⟨hN, hF⟩ := o_gd hF
                              refine r_sld h hLX hN dL_law_879 ?_
                              obtain ⟨z143, e144, hF⟩ := o_bind hF
                              refine r_callVB (N0 := 7) (q0 := 0) (rest := []) h [ouW D aO z141.2, rkW D aθ (aρ 0) (aπ 0) aν (aτ 0) θ, rmW D aρ ρ, rmW D aπ π, txW D aτ τ, mdW D aμ μ, tlW D aν aS0 aS1 aS2 aS3 S0 S1 S2 S3] [5] [0, 1, 2, 3, 4, 6] hdm_X4_rack wm_849 dL_law_880 (CX4_rack l D aμ μ (xs (i + (1 : Int32)).toNatClampNeg) (xs (i + (2 : Int32)).toNatClampNeg) z143.1 z143.2 e144) rfl rfl rfl (by decide) rfl rfl rfl ⟨rfl, rfl⟩ ⟨by decide, by decide⟩ (Nat.le_of_ble_eq_true rfl) ⟨by show _ ≤ 601024; omega, by show _ ≤ 7293034; omega⟩ rfl (fun v w' hp => ?_)
                              obtain ⟨rfl, rfl⟩ := hp
                              refine J.blk2 (ws' := [ouW D aO z141.2, rkW D aθ (aρ 0) (aπ 0) aν (aτ 0) θ, rmW D aρ ρ, rmW D aπ π, txW D aτ τ, mdW D aμ z143.2, tlW D aν aS0 aS1 aS2 aS3 S0 S1 S2 S3].flatten) 7 (pkB [ouW D aO z141.2, rkW D aθ (aρ 0) (aπ 0) aν (aτ 0) θ, rmW D aρ ρ, rmW D aπ π, txW D aτ τ, mdW D aμ μ, tlW D aν aS0 aS1 aS2 aS3 S0 S1 S2 S3] [0, 1, 2, 3, 4, 6]) ([mdW D aμ z143.2]) [0, 1, 2, 3, 4, 6, 5] rfl rfl rfl rfl (by decide) ?_
                              refine r_istore (lv' := [(6, .int z143.1), (5, .int z141.1), (4, .int i), (3, .ref aO), (2, .ref (aμ 0)), (1, .ref aθ), (0, .ref b)]) h dL_law_883 (by decide) rfl ?_
                              refine r_aload_n h 4 rfl rfl dL_law_885 ?_
                              obtain ⟨z145, e146, hF⟩ := o_bind hF
                              refine r_callVB (N0 := 7) (q0 := 0) (rest := []) h [ouW D aO z141.2, rkW D aθ (aρ 0) (aπ 0) aν (aτ 0) θ, rmW D aρ ρ, rmW D aπ π, txW D aτ τ, mdW D aμ z143.2, tlW D aν aS0 aS1 aS2 aS3 S0 S1 S2 S3] [5] [0, 1, 2, 3, 4, 6] hdm_X4_thrown wm_744 dL_law_886 (CX4_thrown l D aμ z143.2 z145 e146) rfl rfl rfl (by decide) rfl rfl rfl ⟨rfl, rfl⟩ ⟨by decide, by decide⟩ (Nat.le_of_ble_eq_true rfl) ⟨by show _ ≤ 601024; omega, by show _ ≤ 7293034; omega⟩ rfl (fun v w' hp => ?_)
                              obtain ⟨rfl, rfl⟩ := hp
                              refine J.blk2 (ws' := [ouW D aO z141.2, rkW D aθ (aρ 0) (aπ 0) aν (aτ 0) θ, rmW D aρ ρ, rmW D aπ π, txW D aτ τ, mdW D aμ z143.2, tlW D aν aS0 aS1 aS2 aS3 S0 S1 S2 S3].flatten) 7 (pkB [ouW D aO z141.2, rkW D aθ (aρ 0) (aπ 0) aν (aτ 0) θ, rmW D aρ ρ, rmW D aπ π, txW D aτ τ, mdW D aμ z143.2, tlW D aν aS0 aS1 aS2 aS3 S0 S1 S2 S3] [0, 1, 2, 3, 4, 6]) ([mdW D aμ z143.2]) [0, 1, 2, 3, 4, 6, 5] rfl rfl rfl rfl (by decide) ?_
                              refine r_iload h 1 rfl dL_law_889 ?_
                              refine r_icmp_eq h 896 dL_law_891 (by decide) (fun c147 => ?_) (fun c147 => ?_)
                              · replace hF := o_pos c147 hF
                                refine r_iload h 1 rfl dL_law_896 ?_
                                refine r_if_ne h 913 dL_law_898 (by decide) (fun c148 => ?_) (fun c148 => ?_)
                                · replace hF := o_neg c148 hF
                                  refine r_goto h 1712 dL_law_913 (by decide) ?_
                                  refine r_iinc (lv' := [(4, .int (i + 5)), (6, .int z143.1), (5, .int z141.1), (3, .ref aO), (2, .ref (aμ 0)), (1, .ref aθ), (0, .ref b)]) h 2 rfl (congrArg (fun z => i + z) (by decide : Int32.ofInt 5 = 5)) dL_law_1712 (by decide) rfl ?_
                                  refine r_goto h 23 dL_law_1715 (by decide) ?_
                                  refine J.widen (k1 := k + 1) (n1 := n + 6) (by omega) (by omega) ?_
                                  exact J.loc (lv' := [(4, .int (i + 5)), (3, .ref aO), (2, .ref (aμ 0)), (1, .ref aθ), (0, .ref b)]) [0, 3, 4, 5, 6] rfl (ih (k + 1) (n + 6) aρ aπ aS0 aS1 aS2 aS3 (i + 5) z141.2 θ ρ π τ z143.2 S0 S1 S2 S3 (by omega) (by omega) hF)
                                · replace hF := o_pos c148 hF
                                  refine r_aload_n h 3 rfl rfl dL_law_901 ?_
                                  refine r_iconst (v := 0) h dL_law_902 (by decide) ?_
                                  refine r_lald h 0 rfl (show ¬ (_ ∨ _) by decide) dL_law_903 ?_
                                  refine r_iload h 0 rfl dL_law_904 ?_
                                  refine r_i2l h dL_law_906 ?_
                                  refine r_lcmp h dL_law_907 ?_
                                  refine r_if_eq h 913 dL_law_908 (by decide) (fun c149 => ?_) (fun c149 => ?_)
                                  · replace hF := o_pos c149 hF
                                    refine r_goto h 1712 dL_law_913 (by decide) ?_
                                    refine r_iinc (lv' := [(4, .int (i + 5)), (6, .int z143.1), (5, .int z141.1), (3, .ref aO), (2, .ref (aμ 0)), (1, .ref aθ), (0, .ref b)]) h 2 rfl (congrArg (fun z => i + z) (by decide : Int32.ofInt 5 = 5)) dL_law_1712 (by decide) rfl ?_
                                    refine r_goto h 23 dL_law_1715 (by decide) ?_
                                    refine J.widen (k1 := k + 1) (n1 := n + 6) (by omega) (by omega) ?_
                                    exact J.loc (lv' := [(4, .int (i + 5)), (3, .ref aO), (2, .ref (aμ 0)), (1, .ref aθ), (0, .ref b)]) [0, 3, 4, 5, 6] rfl (ih (k + 1) (n + 6) aρ aπ aS0 aS1 aS2 aS3 (i + 5) z141.2 θ ρ π τ z143.2 S0 S1 S2 S3 (by omega) (by omega) hF)
                                  · replace hF := o_neg c149 hF
                                    refine r_iconst (v := 0) h dL_law_911 (by decide) ?_
                                    cases hF
                              · replace hF := o_neg c147 hF
                                refine r_iconst (v := 0) h dL_law_894 (by decide) ?_
                                cases hF
                            · replace hF := o_neg c140 hF
                              by_cases c150 : u2 = (11 : Int32)
                              · replace hF := o_pos c150 hF
                                refine r_tswIn h (11 : Int32) c150 916 dL_law_39 (by decide) (by decide) rfl (by decide) ?_
                                refine r_aload_n h 3 rfl rfl dL_law_916 ?_
                                refine r_aload_n h 4 rfl rfl dL_law_917 ?_
                                refine r_iload h 0 rfl dL_law_918 ?_
                                refine r_iconst (v := 1) h dL_law_920 (by decide) ?_
                                refine r_iadd h dL_law_921 ?_
                                obtain ⟨hN, hF⟩ := o_gd hF
                                refine r_sld h hLX hN dL_law_922 ?_
                                refine r_aload_n h 4 rfl rfl dL_law_923 ?_
                                refine r_iload h 0 rfl dL_law_924 ?_
                                refine r_iconst (v := 2) h dL_law_926 (by decide) ?_
                                refine r_iadd h dL_law_927 ?_
                                obtain ⟨hN, hF⟩ := o_gd hF
                                refine r_sld h hLX hN dL_law_928 ?_
                                refine r_aload_n h 1 rfl rfl dL_law_929 ?_
                                obtain ⟨z151, e152, hF⟩ := o_bind hF
                                refine r_callW (N0 := 7) (rest := []) h hXL [ouW D aO O, rkW D aθ (aρ 0) (aπ 0) aν (aτ 0) θ, rmW D aρ ρ, rmW D aπ π, txW D aτ τ, mdW D aμ μ, tlW D aν aS0 aS1 aS2 aS3 S0 S1 S2 S3] [0, 1, 2] [3, 4, 5, 6] hdw_slot wm_627 dL_law_930 (CL_slot l hl0 D aθ (aπ 0) aν (aτ 0) aρ aO θ ρ (xs (i + (1 : Int32)).toNatClampNeg) (xs (i + (2 : Int32)).toNatClampNeg) O z151.1 z151.2 e152) rfl rfl rfl (by decide) rfl ⟨rfl, rfl⟩ ⟨by decide, by decide⟩ (Nat.le_of_ble_eq_true rfl) ⟨by show _ ≤ 601024; omega, by show _ ≤ 7293034; omega⟩ rfl (fun v w' hp => ?_)
                                obtain ⟨rfl, rfl⟩ := hp
                                refine J.blk2 (ws' := [ouW D aO z151.2, rkW D aθ (aρ 0) (aπ 0) aν (aτ 0) θ, rmW D aρ ρ, rmW D aπ π, txW D aτ τ, mdW D aμ μ, tlW D aν aS0 aS1 aS2 aS3 S0 S1 S2 S3].flatten) 7 (pkB [ouW D aO O, rkW D aθ (aρ 0) (aπ 0) aν (aτ 0) θ, rmW D aρ ρ, rmW D aπ π, txW D aτ τ, mdW D aμ μ, tlW D aν aS0 aS1 aS2 aS3 S0 S1 S2 S3] [3, 4, 5, 6]) ([ouW D aO z151.2, rkW D aθ (aρ 0) (aπ 0) aν (aτ 0) θ, rmW D aρ ρ]) [4, 5, 6, 0, 1, 2, 3] rfl rfl rfl rfl (by decide) ?_
                                refine r_istore (lv' := [(5, .int z151.1), (4, .int i), (3, .ref aO), (2, .ref (aμ 0)), (1, .ref aθ), (0, .ref b)]) h dL_law_933 (by decide) rfl ?_
                                refine r_aload_n h 3 rfl rfl dL_law_935 ?_
                                refine r_aload_n h 5 rfl rfl dL_law_936 ?_
                                refine r_iload h 1 rfl dL_law_937 ?_
                                refine r_iconst (v := 1) h dL_law_939 (by decide) ?_
                                refine r_iadd h dL_law_940 ?_
                                obtain ⟨hN, hF⟩ := o_gd hF
                                refine r_sld h hLX hN dL_law_941 ?_
                                refine r_aload_n h 5 rfl rfl dL_law_942 ?_
                                refine r_iload h 1 rfl dL_law_943 ?_
                                refine r_iconst (v := 2) h dL_law_945 (by decide) ?_
                                refine r_iadd h dL_law_946 ?_
                                obtain ⟨hN, hF⟩ := o_gd hF
                                refine r_sld h hLX hN dL_law_947 ?_
                                obtain ⟨z153, e154, hF⟩ := o_bind hF
                                refine r_callVB (N0 := 7) (q0 := 0) (rest := []) h [ouW D aO z151.2, rkW D aθ (aρ 0) (aπ 0) aν (aτ 0) θ, rmW D aρ ρ, rmW D aπ π, txW D aτ τ, mdW D aμ μ, tlW D aν aS0 aS1 aS2 aS3 S0 S1 S2 S3] [5] [0, 1, 2, 3, 4, 6] hdm_X4_slot wm_881 dL_law_948 (CX4_slot l D aμ μ (xs (i + (1 : Int32)).toNatClampNeg) (xs (i + (2 : Int32)).toNatClampNeg) z153.1 z153.2 e154) rfl rfl rfl (by decide) rfl rfl rfl ⟨rfl, rfl⟩ ⟨by decide, by decide⟩ (Nat.le_of_ble_eq_true rfl) ⟨by show _ ≤ 601024; omega, by show _ ≤ 7293034; omega⟩ rfl (fun v w' hp => ?_)
                                obtain ⟨rfl, rfl⟩ := hp
                                refine J.blk2 (ws' := [ouW D aO z151.2, rkW D aθ (aρ 0) (aπ 0) aν (aτ 0) θ, rmW D aρ ρ, rmW D aπ π, txW D aτ τ, mdW D aμ z153.2, tlW D aν aS0 aS1 aS2 aS3 S0 S1 S2 S3].flatten) 7 (pkB [ouW D aO z151.2, rkW D aθ (aρ 0) (aπ 0) aν (aτ 0) θ, rmW D aρ ρ, rmW D aπ π, txW D aτ τ, mdW D aμ μ, tlW D aν aS0 aS1 aS2 aS3 S0 S1 S2 S3] [0, 1, 2, 3, 4, 6]) ([mdW D aμ z153.2]) [0, 1, 2, 3, 4, 6, 5] rfl rfl rfl rfl (by decide) ?_
                                refine r_istore (lv' := [(6, .int z153.1), (5, .int z151.1), (4, .int i), (3, .ref aO), (2, .ref (aμ 0)), (1, .ref aθ), (0, .ref b)]) h dL_law_951 (by decide) rfl ?_
                                refine r_aload_n h 4 rfl rfl dL_law_953 ?_
                                obtain ⟨z155, e156, hF⟩ := o_bind hF
                                refine r_callVB (N0 := 7) (q0 := 0) (rest := []) h [ouW D aO z151.2, rkW D aθ (aρ 0) (aπ 0) aν (aτ 0) θ, rmW D aρ ρ, rmW D aπ π, txW D aτ τ, mdW D aμ z153.2, tlW D aν aS0 aS1 aS2 aS3 S0 S1 S2 S3] [5] [0, 1, 2, 3, 4, 6] hdm_X4_thrown wm_744 dL_law_954 (CX4_thrown l D aμ z153.2 z155 e156) rfl rfl rfl (by decide) rfl rfl rfl ⟨rfl, rfl⟩ ⟨by decide, by decide⟩ (Nat.le_of_ble_eq_true rfl) ⟨by show _ ≤ 601024; omega, by show _ ≤ 7293034; omega⟩ rfl (fun v w' hp => ?_)
                                obtain ⟨rfl, rfl⟩ := hp
                                refine J.blk2 (ws' := [ouW D aO z151.2, rkW D aθ (aρ 0) (aπ 0) aν (aτ 0) θ, rmW D aρ ρ, rmW D aπ π, txW D aτ τ, mdW D aμ z153.2, tlW D aν aS0 aS1 aS2 aS3 S0 S1 S2 S3].flatten) 7 (pkB [ouW D aO z151.2, rkW D aθ (aρ 0) (aπ 0) aν (aτ 0) θ, rmW D aρ ρ, rmW D aπ π, txW D aτ τ, mdW D aμ z153.2, tlW D aν aS0 aS1 aS2 aS3 S0 S1 S2 S3] [0, 1, 2, 3, 4, 6]) ([mdW D aμ z153.2]) [0, 1, 2, 3, 4, 6, 5] rfl rfl rfl rfl (by decide) ?_
                                refine r_iload h 1 rfl dL_law_957 ?_
                                refine r_icmp_eq h 964 dL_law_959 (by decide) (fun c157 => ?_) (fun c157 => ?_)
                                · replace hF := o_pos c157 hF
                                  refine r_iload h 1 rfl dL_law_964 ?_
                                  refine r_if_ne h 981 dL_law_966 (by decide) (fun c158 => ?_) (fun c158 => ?_)
                                  · replace hF := o_neg c158 hF
                                    refine r_goto h 1712 dL_law_981 (by decide) ?_
                                    refine r_iinc (lv' := [(4, .int (i + 5)), (6, .int z153.1), (5, .int z151.1), (3, .ref aO), (2, .ref (aμ 0)), (1, .ref aθ), (0, .ref b)]) h 2 rfl (congrArg (fun z => i + z) (by decide : Int32.ofInt 5 = 5)) dL_law_1712 (by decide) rfl ?_
                                    refine r_goto h 23 dL_law_1715 (by decide) ?_
                                    refine J.widen (k1 := k + 1) (n1 := n + 6) (by omega) (by omega) ?_
                                    exact J.loc (lv' := [(4, .int (i + 5)), (3, .ref aO), (2, .ref (aμ 0)), (1, .ref aθ), (0, .ref b)]) [0, 3, 4, 5, 6] rfl (ih (k + 1) (n + 6) aρ aπ aS0 aS1 aS2 aS3 (i + 5) z151.2 θ ρ π τ z153.2 S0 S1 S2 S3 (by omega) (by omega) hF)
                                  · replace hF := o_pos c158 hF
                                    refine r_aload_n h 3 rfl rfl dL_law_969 ?_
                                    refine r_iconst (v := 0) h dL_law_970 (by decide) ?_
                                    refine r_lald h 0 rfl (show ¬ (_ ∨ _) by decide) dL_law_971 ?_
                                    refine r_iload h 0 rfl dL_law_972 ?_
                                    refine r_i2l h dL_law_974 ?_
                                    refine r_lcmp h dL_law_975 ?_
                                    refine r_if_eq h 981 dL_law_976 (by decide) (fun c159 => ?_) (fun c159 => ?_)
                                    · replace hF := o_pos c159 hF
                                      refine r_goto h 1712 dL_law_981 (by decide) ?_
                                      refine r_iinc (lv' := [(4, .int (i + 5)), (6, .int z153.1), (5, .int z151.1), (3, .ref aO), (2, .ref (aμ 0)), (1, .ref aθ), (0, .ref b)]) h 2 rfl (congrArg (fun z => i + z) (by decide : Int32.ofInt 5 = 5)) dL_law_1712 (by decide) rfl ?_
                                      refine r_goto h 23 dL_law_1715 (by decide) ?_
                                      refine J.widen (k1 := k + 1) (n1 := n + 6) (by omega) (by omega) ?_
                                      exact J.loc (lv' := [(4, .int (i + 5)), (3, .ref aO), (2, .ref (aμ 0)), (1, .ref aθ), (0, .ref b)]) [0, 3, 4, 5, 6] rfl (ih (k + 1) (n + 6) aρ aπ aS0 aS1 aS2 aS3 (i + 5) z151.2 θ ρ π τ z153.2 S0 S1 S2 S3 (by omega) (by omega) hF)
                                    · replace hF := o_neg c159 hF
                                      refine r_iconst (v := 0) h dL_law_979 (by decide) ?_
                                      cases hF
                                · replace hF := o_neg c157 hF
                                  refine r_iconst (v := 0) h dL_law_962 (by decide) ?_
                                  cases hF
                              · replace hF := o_neg c150 hF
                                by_cases c160 : u2 = (12 : Int32)
                                · replace hF := o_pos c160 hF
                                  refine r_tswIn h (12 : Int32) c160 984 dL_law_39 (by decide) (by decide) rfl (by decide) ?_
                                  refine r_aload_n h 3 rfl rfl dL_law_984 ?_
                                  refine r_aload_n h 4 rfl rfl dL_law_985 ?_
                                  refine r_iload h 0 rfl dL_law_986 ?_
                                  refine r_iconst (v := 1) h dL_law_988 (by decide) ?_
                                  refine r_iadd h dL_law_989 ?_
                                  obtain ⟨hN, hF⟩ := o_gd hF
                                  refine r_sld h hLX hN dL_law_990 ?_
                                  refine r_aload_n h 4 rfl rfl dL_law_991 ?_
                                  refine r_iload h 0 rfl dL_law_992 ?_
                                  refine r_iconst (v := 2) h dL_law_994 (by decide) ?_
                                  refine r_iadd h dL_law_995 ?_
                                  obtain ⟨hN, hF⟩ := o_gd hF
                                  refine r_sld h hLX hN dL_law_996 ?_
                                  refine r_aload_n h 1 rfl rfl dL_law_997 ?_
                                  obtain ⟨z161, e162, hF⟩ := o_bind hF
                                  refine r_callW (N0 := 7) (rest := []) h hXL [ouW D aO O, rkW D aθ (aρ 0) (aπ 0) aν (aτ 0) θ, rmW D aρ ρ, rmW D aπ π, txW D aτ τ, mdW D aμ μ, tlW D aν aS0 aS1 aS2 aS3 S0 S1 S2 S3] [0, 1, 2] [3, 4, 5, 6] hdw_cable wm_631 dL_law_998 (CL_cable l hl0 D aθ (aπ 0) aν (aτ 0) aρ aO θ ρ (xs (i + (1 : Int32)).toNatClampNeg) (xs (i + (2 : Int32)).toNatClampNeg) O z161.1 z161.2 e162) rfl rfl rfl (by decide) rfl ⟨rfl, rfl⟩ ⟨by decide, by decide⟩ (Nat.le_of_ble_eq_true rfl) ⟨by show _ ≤ 601024; omega, by show _ ≤ 7293034; omega⟩ rfl (fun v w' hp => ?_)
                                  obtain ⟨rfl, rfl⟩ := hp
                                  refine J.blk2 (ws' := [ouW D aO z161.2, rkW D aθ (aρ 0) (aπ 0) aν (aτ 0) θ, rmW D aρ ρ, rmW D aπ π, txW D aτ τ, mdW D aμ μ, tlW D aν aS0 aS1 aS2 aS3 S0 S1 S2 S3].flatten) 7 (pkB [ouW D aO O, rkW D aθ (aρ 0) (aπ 0) aν (aτ 0) θ, rmW D aρ ρ, rmW D aπ π, txW D aτ τ, mdW D aμ μ, tlW D aν aS0 aS1 aS2 aS3 S0 S1 S2 S3] [3, 4, 5, 6]) ([ouW D aO z161.2, rkW D aθ (aρ 0) (aπ 0) aν (aτ 0) θ, rmW D aρ ρ]) [4, 5, 6, 0, 1, 2, 3] rfl rfl rfl rfl (by decide) ?_
                                  refine r_istore (lv' := [(5, .int z161.1), (4, .int i), (3, .ref aO), (2, .ref (aμ 0)), (1, .ref aθ), (0, .ref b)]) h dL_law_1001 (by decide) rfl ?_
                                  refine r_aload_n h 3 rfl rfl dL_law_1003 ?_
                                  refine r_aload_n h 5 rfl rfl dL_law_1004 ?_
                                  refine r_iload h 1 rfl dL_law_1005 ?_
                                  refine r_iconst (v := 1) h dL_law_1007 (by decide) ?_
                                  refine r_iadd h dL_law_1008 ?_
                                  obtain ⟨hN, hF⟩ := o_gd hF
                                  refine r_sld h hLX hN dL_law_1009 ?_
                                  refine r_aload_n h 5 rfl rfl dL_law_1010 ?_
                                  refine r_iload h 1 rfl dL_law_1011 ?_
                                  refine r_iconst (v := 2) h dL_law_1013 (by decide) ?_
                                  refine r_iadd h dL_law_1014 ?_
                                  obtain ⟨hN, hF⟩ := o_gd hF
                                  refine r_sld h hLX hN dL_law_1015 ?_
                                  obtain ⟨z163, e164, hF⟩ := o_bind hF
                                  refine r_callVB (N0 := 7) (q0 := 0) (rest := []) h [ouW D aO z161.2, rkW D aθ (aρ 0) (aπ 0) aν (aτ 0) θ, rmW D aρ ρ, rmW D aπ π, txW D aτ τ, mdW D aμ μ, tlW D aν aS0 aS1 aS2 aS3 S0 S1 S2 S3] [5] [0, 1, 2, 3, 4, 6] hdm_X4_cable wm_885 dL_law_1016 (CX4_cable l D aμ μ (xs (i + (1 : Int32)).toNatClampNeg) (xs (i + (2 : Int32)).toNatClampNeg) z163.1 z163.2 e164) rfl rfl rfl (by decide) rfl rfl rfl ⟨rfl, rfl⟩ ⟨by decide, by decide⟩ (Nat.le_of_ble_eq_true rfl) ⟨by show _ ≤ 601024; omega, by show _ ≤ 7293034; omega⟩ rfl (fun v w' hp => ?_)
                                  obtain ⟨rfl, rfl⟩ := hp
                                  refine J.blk2 (ws' := [ouW D aO z161.2, rkW D aθ (aρ 0) (aπ 0) aν (aτ 0) θ, rmW D aρ ρ, rmW D aπ π, txW D aτ τ, mdW D aμ z163.2, tlW D aν aS0 aS1 aS2 aS3 S0 S1 S2 S3].flatten) 7 (pkB [ouW D aO z161.2, rkW D aθ (aρ 0) (aπ 0) aν (aτ 0) θ, rmW D aρ ρ, rmW D aπ π, txW D aτ τ, mdW D aμ μ, tlW D aν aS0 aS1 aS2 aS3 S0 S1 S2 S3] [0, 1, 2, 3, 4, 6]) ([mdW D aμ z163.2]) [0, 1, 2, 3, 4, 6, 5] rfl rfl rfl rfl (by decide) ?_
                                  refine r_istore (lv' := [(6, .int z163.1), (5, .int z161.1), (4, .int i), (3, .ref aO), (2, .ref (aμ 0)), (1, .ref aθ), (0, .ref b)]) h dL_law_1019 (by decide) rfl ?_
                                  refine r_aload_n h 4 rfl rfl dL_law_1021 ?_
                                  obtain ⟨z165, e166, hF⟩ := o_bind hF
                                  refine r_callVB (N0 := 7) (q0 := 0) (rest := []) h [ouW D aO z161.2, rkW D aθ (aρ 0) (aπ 0) aν (aτ 0) θ, rmW D aρ ρ, rmW D aπ π, txW D aτ τ, mdW D aμ z163.2, tlW D aν aS0 aS1 aS2 aS3 S0 S1 S2 S3] [5] [0, 1, 2, 3, 4, 6] hdm_X4_thrown wm_744 dL_law_1022 (CX4_thrown l D aμ z163.2 z165 e166) rfl rfl rfl (by decide) rfl rfl rfl ⟨rfl, rfl⟩ ⟨by decide, by decide⟩ (Nat.le_of_ble_eq_true rfl) ⟨by show _ ≤ 601024; omega, by show _ ≤ 7293034; omega⟩ rfl (fun v w' hp => ?_)
                                  obtain ⟨rfl, rfl⟩ := hp
                                  refine J.blk2 (ws' := [ouW D aO z161.2, rkW D aθ (aρ 0) (aπ 0) aν (aτ 0) θ, rmW D aρ ρ, rmW D aπ π, txW D aτ τ, mdW D aμ z163.2, tlW D aν aS0 aS1 aS2 aS3 S0 S1 S2 S3].flatten) 7 (pkB [ouW D aO z161.2, rkW D aθ (aρ 0) (aπ 0) aν (aτ 0) θ, rmW D aρ ρ, rmW D aπ π, txW D aτ τ, mdW D aμ z163.2, tlW D aν aS0 aS1 aS2 aS3 S0 S1 S2 S3] [0, 1, 2, 3, 4, 6]) ([mdW D aμ z163.2]) [0, 1, 2, 3, 4, 6, 5] rfl rfl rfl rfl (by decide) ?_
                                  refine r_iload h 1 rfl dL_law_1025 ?_
                                  refine r_icmp_eq h 1032 dL_law_1027 (by decide) (fun c167 => ?_) (fun c167 => ?_)
                                  · replace hF := o_pos c167 hF
                                    refine r_iload h 1 rfl dL_law_1032 ?_
                                    refine r_if_ne h 1049 dL_law_1034 (by decide) (fun c168 => ?_) (fun c168 => ?_)
                                    · replace hF := o_neg c168 hF
                                      refine r_goto h 1712 dL_law_1049 (by decide) ?_
                                      refine r_iinc (lv' := [(4, .int (i + 5)), (6, .int z163.1), (5, .int z161.1), (3, .ref aO), (2, .ref (aμ 0)), (1, .ref aθ), (0, .ref b)]) h 2 rfl (congrArg (fun z => i + z) (by decide : Int32.ofInt 5 = 5)) dL_law_1712 (by decide) rfl ?_
                                      refine r_goto h 23 dL_law_1715 (by decide) ?_
                                      refine J.widen (k1 := k + 1) (n1 := n + 6) (by omega) (by omega) ?_
                                      exact J.loc (lv' := [(4, .int (i + 5)), (3, .ref aO), (2, .ref (aμ 0)), (1, .ref aθ), (0, .ref b)]) [0, 3, 4, 5, 6] rfl (ih (k + 1) (n + 6) aρ aπ aS0 aS1 aS2 aS3 (i + 5) z161.2 θ ρ π τ z163.2 S0 S1 S2 S3 (by omega) (by omega) hF)
                                    · replace hF := o_pos c168 hF
                                      refine r_aload_n h 3 rfl rfl dL_law_1037 ?_
                                      refine r_iconst (v := 0) h dL_law_1038 (by decide) ?_
                                      refine r_lald h 0 rfl (show ¬ (_ ∨ _) by decide) dL_law_1039 ?_
                                      refine r_iload h 0 rfl dL_law_1040 ?_
                                      refine r_i2l h dL_law_1042 ?_
                                      refine r_lcmp h dL_law_1043 ?_
                                      refine r_if_eq h 1049 dL_law_1044 (by decide) (fun c169 => ?_) (fun c169 => ?_)
                                      · replace hF := o_pos c169 hF
                                        refine r_goto h 1712 dL_law_1049 (by decide) ?_
                                        refine r_iinc (lv' := [(4, .int (i + 5)), (6, .int z163.1), (5, .int z161.1), (3, .ref aO), (2, .ref (aμ 0)), (1, .ref aθ), (0, .ref b)]) h 2 rfl (congrArg (fun z => i + z) (by decide : Int32.ofInt 5 = 5)) dL_law_1712 (by decide) rfl ?_
                                        refine r_goto h 23 dL_law_1715 (by decide) ?_
                                        refine J.widen (k1 := k + 1) (n1 := n + 6) (by omega) (by omega) ?_
                                        exact J.loc (lv' := [(4, .int (i + 5)), (3, .ref aO), (2, .ref (aμ 0)), (1, .ref aθ), (0, .ref b)]) [0, 3, 4, 5, 6] rfl (ih (k + 1) (n + 6) aρ aπ aS0 aS1 aS2 aS3 (i + 5) z161.2 θ ρ π τ z163.2 S0 S1 S2 S3 (by omega) (by omega) hF)
                                      · replace hF := o_neg c169 hF
                                        refine r_iconst (v := 0) h dL_law_1047 (by decide) ?_
                                        cases hF
                                  · replace hF := o_neg c167 hF
                                    refine r_iconst (v := 0) h dL_law_1030 (by decide) ?_
                                    cases hF
                                · replace hF := o_neg c160 hF
                                  by_cases c170 : u2 = (13 : Int32)
                                  · replace hF := o_pos c170 hF
                                    refine r_tswIn h (13 : Int32) c170 1052 dL_law_39 (by decide) (by decide) rfl (by decide) ?_
                                    refine r_aload_n h 3 rfl rfl dL_law_1052 ?_
                                    refine r_aload_n h 4 rfl rfl dL_law_1053 ?_
                                    refine r_iload h 0 rfl dL_law_1054 ?_
                                    refine r_iconst (v := 1) h dL_law_1056 (by decide) ?_
                                    refine r_iadd h dL_law_1057 ?_
                                    obtain ⟨hN, hF⟩ := o_gd hF
                                    refine r_sld h hLX hN dL_law_1058 ?_
                                    refine r_aload_n h 1 rfl rfl dL_law_1059 ?_
                                    obtain ⟨z171, e172, hF⟩ := o_bind hF
                                    refine r_callW (N0 := 7) (rest := []) h hXL [ouW D aO O, rkW D aθ (aρ 0) (aπ 0) aν (aτ 0) θ, rmW D aρ ρ, rmW D aπ π, txW D aτ τ, mdW D aμ μ, tlW D aν aS0 aS1 aS2 aS3 S0 S1 S2 S3] [0, 1, 2] [3, 4, 5, 6] hdw_tray wm_635 dL_law_1060 (CL_tray l hl0 D aθ (aπ 0) aν (aτ 0) aρ aO θ ρ (xs (i + (1 : Int32)).toNatClampNeg) O z171.1 z171.2 e172) rfl rfl rfl (by decide) rfl ⟨rfl, rfl⟩ ⟨by decide, by decide⟩ (Nat.le_of_ble_eq_true rfl) ⟨by show _ ≤ 601024; omega, by show _ ≤ 7293034; omega⟩ rfl (fun v w' hp => ?_)
                                    obtain ⟨rfl, rfl⟩ := hp
                                    refine J.blk2 (ws' := [ouW D aO z171.2, rkW D aθ (aρ 0) (aπ 0) aν (aτ 0) θ, rmW D aρ ρ, rmW D aπ π, txW D aτ τ, mdW D aμ μ, tlW D aν aS0 aS1 aS2 aS3 S0 S1 S2 S3].flatten) 7 (pkB [ouW D aO O, rkW D aθ (aρ 0) (aπ 0) aν (aτ 0) θ, rmW D aρ ρ, rmW D aπ π, txW D aτ τ, mdW D aμ μ, tlW D aν aS0 aS1 aS2 aS3 S0 S1 S2 S3] [3, 4, 5, 6]) ([ouW D aO z171.2, rkW D aθ (aρ 0) (aπ 0) aν (aτ 0) θ, rmW D aρ ρ]) [4, 5, 6, 0, 1, 2, 3] rfl rfl rfl rfl (by decide) ?_
                                    refine r_istore (lv' := [(5, .int z171.1), (4, .int i), (3, .ref aO), (2, .ref (aμ 0)), (1, .ref aθ), (0, .ref b)]) h dL_law_1063 (by decide) rfl ?_
                                    refine r_aload_n h 3 rfl rfl dL_law_1065 ?_
                                    refine r_aload_n h 5 rfl rfl dL_law_1066 ?_
                                    refine r_iload h 1 rfl dL_law_1067 ?_
                                    refine r_iconst (v := 1) h dL_law_1069 (by decide) ?_
                                    refine r_iadd h dL_law_1070 ?_
                                    obtain ⟨hN, hF⟩ := o_gd hF
                                    refine r_sld h hLX hN dL_law_1071 ?_
                                    obtain ⟨z173, e174, hF⟩ := o_bind hF
                                    refine r_callVB (N0 := 7) (q0 := 0) (rest := []) h [ouW D aO z171.2, rkW D aθ (aρ 0) (aπ 0) aν (aτ 0) θ, rmW D aρ ρ, rmW D aπ π, txW D aτ τ, mdW D aμ μ, tlW D aν aS0 aS1 aS2 aS3 S0 S1 S2 S3] [5] [0, 1, 2, 3, 4, 6] hdm_X4_tray wm_897 dL_law_1072 (CX4_tray l D aμ μ (xs (i + (1 : Int32)).toNatClampNeg) z173.1 z173.2 e174) rfl rfl rfl (by decide) rfl rfl rfl ⟨rfl, rfl⟩ ⟨by decide, by decide⟩ (Nat.le_of_ble_eq_true rfl) ⟨by show _ ≤ 601024; omega, by show _ ≤ 7293034; omega⟩ rfl (fun v w' hp => ?_)
                                    obtain ⟨rfl, rfl⟩ := hp
                                    refine J.blk2 (ws' := [ouW D aO z171.2, rkW D aθ (aρ 0) (aπ 0) aν (aτ 0) θ, rmW D aρ ρ, rmW D aπ π, txW D aτ τ, mdW D aμ z173.2, tlW D aν aS0 aS1 aS2 aS3 S0 S1 S2 S3].flatten) 7 (pkB [ouW D aO z171.2, rkW D aθ (aρ 0) (aπ 0) aν (aτ 0) θ, rmW D aρ ρ, rmW D aπ π, txW D aτ τ, mdW D aμ μ, tlW D aν aS0 aS1 aS2 aS3 S0 S1 S2 S3] [0, 1, 2, 3, 4, 6]) ([mdW D aμ z173.2]) [0, 1, 2, 3, 4, 6, 5] rfl rfl rfl rfl (by decide) ?_
                                    refine r_istore (lv' := [(6, .int z173.1), (5, .int z171.1), (4, .int i), (3, .ref aO), (2, .ref (aμ 0)), (1, .ref aθ), (0, .ref b)]) h dL_law_1075 (by decide) rfl ?_
                                    refine r_aload_n h 4 rfl rfl dL_law_1077 ?_
                                    obtain ⟨z175, e176, hF⟩ := o_bind hF
                                    refine r_callVB (N0 := 7) (q0 := 0) (rest := []) h [ouW D aO z171.2, rkW D aθ (aρ 0) (aπ 0) aν (aτ 0) θ, rmW D aρ ρ, rmW D aπ π, txW D aτ τ, mdW D aμ z173.2, tlW D aν aS0 aS1 aS2 aS3 S0 S1 S2 S3] [5] [0, 1, 2, 3, 4, 6] hdm_X4_thrown wm_744 dL_law_1078 (CX4_thrown l D aμ z173.2 z175 e176) rfl rfl rfl (by decide) rfl rfl rfl ⟨rfl, rfl⟩ ⟨by decide, by decide⟩ (Nat.le_of_ble_eq_true rfl) ⟨by show _ ≤ 601024; omega, by show _ ≤ 7293034; omega⟩ rfl (fun v w' hp => ?_)
                                    obtain ⟨rfl, rfl⟩ := hp
                                    refine J.blk2 (ws' := [ouW D aO z171.2, rkW D aθ (aρ 0) (aπ 0) aν (aτ 0) θ, rmW D aρ ρ, rmW D aπ π, txW D aτ τ, mdW D aμ z173.2, tlW D aν aS0 aS1 aS2 aS3 S0 S1 S2 S3].flatten) 7 (pkB [ouW D aO z171.2, rkW D aθ (aρ 0) (aπ 0) aν (aτ 0) θ, rmW D aρ ρ, rmW D aπ π, txW D aτ τ, mdW D aμ z173.2, tlW D aν aS0 aS1 aS2 aS3 S0 S1 S2 S3] [0, 1, 2, 3, 4, 6]) ([mdW D aμ z173.2]) [0, 1, 2, 3, 4, 6, 5] rfl rfl rfl rfl (by decide) ?_
                                    refine r_iload h 1 rfl dL_law_1081 ?_
                                    refine r_icmp_eq h 1088 dL_law_1083 (by decide) (fun c177 => ?_) (fun c177 => ?_)
                                    · replace hF := o_pos c177 hF
                                      refine r_iload h 1 rfl dL_law_1088 ?_
                                      refine r_if_ne h 1105 dL_law_1090 (by decide) (fun c178 => ?_) (fun c178 => ?_)
                                      · replace hF := o_neg c178 hF
                                        refine r_goto h 1712 dL_law_1105 (by decide) ?_
                                        refine r_iinc (lv' := [(4, .int (i + 5)), (6, .int z173.1), (5, .int z171.1), (3, .ref aO), (2, .ref (aμ 0)), (1, .ref aθ), (0, .ref b)]) h 2 rfl (congrArg (fun z => i + z) (by decide : Int32.ofInt 5 = 5)) dL_law_1712 (by decide) rfl ?_
                                        refine r_goto h 23 dL_law_1715 (by decide) ?_
                                        refine J.widen (k1 := k + 1) (n1 := n + 6) (by omega) (by omega) ?_
                                        exact J.loc (lv' := [(4, .int (i + 5)), (3, .ref aO), (2, .ref (aμ 0)), (1, .ref aθ), (0, .ref b)]) [0, 3, 4, 5, 6] rfl (ih (k + 1) (n + 6) aρ aπ aS0 aS1 aS2 aS3 (i + 5) z171.2 θ ρ π τ z173.2 S0 S1 S2 S3 (by omega) (by omega) hF)
                                      · replace hF := o_pos c178 hF
                                        refine r_aload_n h 3 rfl rfl dL_law_1093 ?_
                                        refine r_iconst (v := 0) h dL_law_1094 (by decide) ?_
                                        refine r_lald h 0 rfl (show ¬ (_ ∨ _) by decide) dL_law_1095 ?_
                                        refine r_iload h 0 rfl dL_law_1096 ?_
                                        refine r_i2l h dL_law_1098 ?_
                                        refine r_lcmp h dL_law_1099 ?_
                                        refine r_if_eq h 1105 dL_law_1100 (by decide) (fun c179 => ?_) (fun c179 => ?_)
                                        · replace hF := o_pos c179 hF
                                          refine r_goto h 1712 dL_law_1105 (by decide) ?_
                                          refine r_iinc (lv' := [(4, .int (i + 5)), (6, .int z173.1), (5, .int z171.1), (3, .ref aO), (2, .ref (aμ 0)), (1, .ref aθ), (0, .ref b)]) h 2 rfl (congrArg (fun z => i + z) (by decide : Int32.ofInt 5 = 5)) dL_law_1712 (by decide) rfl ?_
                                          refine r_goto h 23 dL_law_1715 (by decide) ?_
                                          refine J.widen (k1 := k + 1) (n1 := n + 6) (by omega) (by omega) ?_
                                          exact J.loc (lv' := [(4, .int (i + 5)), (3, .ref aO), (2, .ref (aμ 0)), (1, .ref aθ), (0, .ref b)]) [0, 3, 4, 5, 6] rfl (ih (k + 1) (n + 6) aρ aπ aS0 aS1 aS2 aS3 (i + 5) z171.2 θ ρ π τ z173.2 S0 S1 S2 S3 (by omega) (by omega) hF)
                                        · replace hF := o_neg c179 hF
                                          refine r_iconst (v := 0) h dL_law_1103 (by decide) ?_
                                          cases hF
                                    · replace hF := o_neg c177 hF
                                      refine r_iconst (v := 0) h dL_law_1086 (by decide) ?_
                                      cases hF
                                  · replace hF := o_neg c170 hF
                                    by_cases c180 : u2 = (14 : Int32)
                                    · replace hF := o_pos c180 hF
                                      refine r_tswIn h (14 : Int32) c180 1108 dL_law_39 (by decide) (by decide) rfl (by decide) ?_
                                      refine r_aload_n h 3 rfl rfl dL_law_1108 ?_
                                      refine r_aload_n h 4 rfl rfl dL_law_1109 ?_
                                      refine r_iload h 0 rfl dL_law_1110 ?_
                                      refine r_iconst (v := 1) h dL_law_1112 (by decide) ?_
                                      refine r_iadd h dL_law_1113 ?_
                                      obtain ⟨hN, hF⟩ := o_gd hF
                                      refine r_sld h hLX hN dL_law_1114 ?_
                                      refine r_aload_n h 1 rfl rfl dL_law_1115 ?_
                                      obtain ⟨z181, e182, hF⟩ := o_bind hF
                                      refine r_callW (N0 := 7) (rest := []) h hXL [ouW D aO O, rkW D aθ (aρ 0) (aπ 0) aν (aτ 0) θ, rmW D aρ ρ, rmW D aπ π, txW D aτ τ, mdW D aμ μ, tlW D aν aS0 aS1 aS2 aS3 S0 S1 S2 S3] [0, 1, 2] [3, 4, 5, 6] hdw_value wm_639 dL_law_1116 (CL_value l hl0 D aθ (aπ 0) aν (aτ 0) aρ aO θ ρ (xs (i + (1 : Int32)).toNatClampNeg) O z181.1 z181.2 e182) rfl rfl rfl (by decide) rfl ⟨rfl, rfl⟩ ⟨by decide, by decide⟩ (Nat.le_of_ble_eq_true rfl) ⟨by show _ ≤ 601024; omega, by show _ ≤ 7293034; omega⟩ rfl (fun v w' hp => ?_)
                                      obtain ⟨rfl, rfl⟩ := hp
                                      refine J.blk2 (ws' := [ouW D aO z181.2, rkW D aθ (aρ 0) (aπ 0) aν (aτ 0) θ, rmW D aρ ρ, rmW D aπ π, txW D aτ τ, mdW D aμ μ, tlW D aν aS0 aS1 aS2 aS3 S0 S1 S2 S3].flatten) 7 (pkB [ouW D aO O, rkW D aθ (aρ 0) (aπ 0) aν (aτ 0) θ, rmW D aρ ρ, rmW D aπ π, txW D aτ τ, mdW D aμ μ, tlW D aν aS0 aS1 aS2 aS3 S0 S1 S2 S3] [3, 4, 5, 6]) ([ouW D aO z181.2, rkW D aθ (aρ 0) (aπ 0) aν (aτ 0) θ, rmW D aρ ρ]) [4, 5, 6, 0, 1, 2, 3] rfl rfl rfl rfl (by decide) ?_
                                      refine r_istore (lv' := [(5, .int z181.1), (4, .int i), (3, .ref aO), (2, .ref (aμ 0)), (1, .ref aθ), (0, .ref b)]) h dL_law_1119 (by decide) rfl ?_
                                      refine r_aload_n h 3 rfl rfl dL_law_1121 ?_
                                      refine r_aload_n h 5 rfl rfl dL_law_1122 ?_
                                      refine r_iload h 1 rfl dL_law_1123 ?_
                                      refine r_iconst (v := 1) h dL_law_1125 (by decide) ?_
                                      refine r_iadd h dL_law_1126 ?_
                                      obtain ⟨hN, hF⟩ := o_gd hF
                                      refine r_sld h hLX hN dL_law_1127 ?_
                                      obtain ⟨z183, e184, hF⟩ := o_bind hF
                                      refine r_callVB (N0 := 7) (q0 := 0) (rest := []) h [ouW D aO z181.2, rkW D aθ (aρ 0) (aπ 0) aν (aτ 0) θ, rmW D aρ ρ, rmW D aπ π, txW D aτ τ, mdW D aμ μ, tlW D aν aS0 aS1 aS2 aS3 S0 S1 S2 S3] [5] [0, 1, 2, 3, 4, 6] hdm_X4_value wm_905 dL_law_1128 (CX4_value l D aμ μ (xs (i + (1 : Int32)).toNatClampNeg) z183.1 z183.2 e184) rfl rfl rfl (by decide) rfl rfl rfl ⟨rfl, rfl⟩ ⟨by decide, by decide⟩ (Nat.le_of_ble_eq_true rfl) ⟨by show _ ≤ 601024; omega, by show _ ≤ 7293034; omega⟩ rfl (fun v w' hp => ?_)
                                      obtain ⟨rfl, rfl⟩ := hp
                                      refine J.blk2 (ws' := [ouW D aO z181.2, rkW D aθ (aρ 0) (aπ 0) aν (aτ 0) θ, rmW D aρ ρ, rmW D aπ π, txW D aτ τ, mdW D aμ z183.2, tlW D aν aS0 aS1 aS2 aS3 S0 S1 S2 S3].flatten) 7 (pkB [ouW D aO z181.2, rkW D aθ (aρ 0) (aπ 0) aν (aτ 0) θ, rmW D aρ ρ, rmW D aπ π, txW D aτ τ, mdW D aμ μ, tlW D aν aS0 aS1 aS2 aS3 S0 S1 S2 S3] [0, 1, 2, 3, 4, 6]) ([mdW D aμ z183.2]) [0, 1, 2, 3, 4, 6, 5] rfl rfl rfl rfl (by decide) ?_
                                      refine r_istore (lv' := [(6, .int z183.1), (5, .int z181.1), (4, .int i), (3, .ref aO), (2, .ref (aμ 0)), (1, .ref aθ), (0, .ref b)]) h dL_law_1131 (by decide) rfl ?_
                                      refine r_aload_n h 4 rfl rfl dL_law_1133 ?_
                                      obtain ⟨z185, e186, hF⟩ := o_bind hF
                                      refine r_callVB (N0 := 7) (q0 := 0) (rest := []) h [ouW D aO z181.2, rkW D aθ (aρ 0) (aπ 0) aν (aτ 0) θ, rmW D aρ ρ, rmW D aπ π, txW D aτ τ, mdW D aμ z183.2, tlW D aν aS0 aS1 aS2 aS3 S0 S1 S2 S3] [5] [0, 1, 2, 3, 4, 6] hdm_X4_thrown wm_744 dL_law_1134 (CX4_thrown l D aμ z183.2 z185 e186) rfl rfl rfl (by decide) rfl rfl rfl ⟨rfl, rfl⟩ ⟨by decide, by decide⟩ (Nat.le_of_ble_eq_true rfl) ⟨by show _ ≤ 601024; omega, by show _ ≤ 7293034; omega⟩ rfl (fun v w' hp => ?_)
                                      obtain ⟨rfl, rfl⟩ := hp
                                      refine J.blk2 (ws' := [ouW D aO z181.2, rkW D aθ (aρ 0) (aπ 0) aν (aτ 0) θ, rmW D aρ ρ, rmW D aπ π, txW D aτ τ, mdW D aμ z183.2, tlW D aν aS0 aS1 aS2 aS3 S0 S1 S2 S3].flatten) 7 (pkB [ouW D aO z181.2, rkW D aθ (aρ 0) (aπ 0) aν (aτ 0) θ, rmW D aρ ρ, rmW D aπ π, txW D aτ τ, mdW D aμ z183.2, tlW D aν aS0 aS1 aS2 aS3 S0 S1 S2 S3] [0, 1, 2, 3, 4, 6]) ([mdW D aμ z183.2]) [0, 1, 2, 3, 4, 6, 5] rfl rfl rfl rfl (by decide) ?_
                                      refine r_iload h 1 rfl dL_law_1137 ?_
                                      refine r_icmp_eq h 1144 dL_law_1139 (by decide) (fun c187 => ?_) (fun c187 => ?_)
                                      · replace hF := o_pos c187 hF
                                        refine r_iload h 1 rfl dL_law_1144 ?_
                                        refine r_if_ne h 1161 dL_law_1146 (by decide) (fun c188 => ?_) (fun c188 => ?_)
                                        · replace hF := o_neg c188 hF
                                          refine r_goto h 1712 dL_law_1161 (by decide) ?_
                                          refine r_iinc (lv' := [(4, .int (i + 5)), (6, .int z183.1), (5, .int z181.1), (3, .ref aO), (2, .ref (aμ 0)), (1, .ref aθ), (0, .ref b)]) h 2 rfl (congrArg (fun z => i + z) (by decide : Int32.ofInt 5 = 5)) dL_law_1712 (by decide) rfl ?_
                                          refine r_goto h 23 dL_law_1715 (by decide) ?_
                                          refine J.widen (k1 := k + 1) (n1 := n + 6) (by omega) (by omega) ?_
                                          exact J.loc (lv' := [(4, .int (i + 5)), (3, .ref aO), (2, .ref (aμ 0)), (1, .ref aθ), (0, .ref b)]) [0, 3, 4, 5, 6] rfl (ih (k + 1) (n + 6) aρ aπ aS0 aS1 aS2 aS3 (i + 5) z181.2 θ ρ π τ z183.2 S0 S1 S2 S3 (by omega) (by omega) hF)
                                        · replace hF := o_pos c188 hF
                                          refine r_aload_n h 3 rfl rfl dL_law_1149 ?_
                                          refine r_iconst (v := 0) h dL_law_1150 (by decide) ?_
                                          refine r_lald h 0 rfl (show ¬ (_ ∨ _) by decide) dL_law_1151 ?_
                                          refine r_iload h 0 rfl dL_law_1152 ?_
                                          refine r_i2l h dL_law_1154 ?_
                                          refine r_lcmp h dL_law_1155 ?_
                                          refine r_if_eq h 1161 dL_law_1156 (by decide) (fun c189 => ?_) (fun c189 => ?_)
                                          · replace hF := o_pos c189 hF
                                            refine r_goto h 1712 dL_law_1161 (by decide) ?_
                                            refine r_iinc (lv' := [(4, .int (i + 5)), (6, .int z183.1), (5, .int z181.1), (3, .ref aO), (2, .ref (aμ 0)), (1, .ref aθ), (0, .ref b)]) h 2 rfl (congrArg (fun z => i + z) (by decide : Int32.ofInt 5 = 5)) dL_law_1712 (by decide) rfl ?_
                                            refine r_goto h 23 dL_law_1715 (by decide) ?_
                                            refine J.widen (k1 := k + 1) (n1 := n + 6) (by omega) (by omega) ?_
                                            exact J.loc (lv' := [(4, .int (i + 5)), (3, .ref aO), (2, .ref (aμ 0)), (1, .ref aθ), (0, .ref b)]) [0, 3, 4, 5, 6] rfl (ih (k + 1) (n + 6) aρ aπ aS0 aS1 aS2 aS3 (i + 5) z181.2 θ ρ π τ z183.2 S0 S1 S2 S3 (by omega) (by omega) hF)
                                          · replace hF := o_neg c189 hF
                                            refine r_iconst (v := 0) h dL_law_1159 (by decide) ?_
                                            cases hF
                                      · replace hF := o_neg c187 hF
                                        refine r_iconst (v := 0) h dL_law_1142 (by decide) ?_
                                        cases hF
                                    · replace hF := o_neg c180 hF
                                      by_cases c190 : u2 = (15 : Int32)
                                      · replace hF := o_pos c190 hF
                                        refine r_tswIn h (15 : Int32) c190 1164 dL_law_39 (by decide) (by decide) rfl (by decide) ?_
                                        refine r_aload_n h 3 rfl rfl dL_law_1164 ?_
                                        refine r_aload_n h 4 rfl rfl dL_law_1165 ?_
                                        refine r_iload h 0 rfl dL_law_1166 ?_
                                        refine r_iconst (v := 1) h dL_law_1168 (by decide) ?_
                                        refine r_iadd h dL_law_1169 ?_
                                        obtain ⟨hN, hF⟩ := o_gd hF
                                        refine r_sld h hLX hN dL_law_1170 ?_
                                        refine r_aload_n h 4 rfl rfl dL_law_1171 ?_
                                        refine r_iload h 0 rfl dL_law_1172 ?_
                                        refine r_iconst (v := 2) h dL_law_1174 (by decide) ?_
                                        refine r_iadd h dL_law_1175 ?_
                                        obtain ⟨hN, hF⟩ := o_gd hF
                                        refine r_sld h hLX hN dL_law_1176 ?_
                                        refine r_aload_n h 1 rfl rfl dL_law_1177 ?_
                                        obtain ⟨z191, e192, hF⟩ := o_bind hF
                                        refine r_callW (N0 := 7) (rest := []) h hXL [ouW D aO O, rkW D aθ (aρ 0) (aπ 0) aν (aτ 0) θ, rmW D aρ ρ, rmW D aπ π, txW D aτ τ, mdW D aμ μ, tlW D aν aS0 aS1 aS2 aS3 S0 S1 S2 S3] [0, 1, 2, 6] [3, 4, 5] hdw_move wm_643 dL_law_1178 (CL_move l hl0 D aθ (aπ 0) (aτ 0) aρ aν aS0 aS1 aS2 aS3 aO θ ρ S0 S1 S2 S3 (xs (i + (1 : Int32)).toNatClampNeg) (xs (i + (2 : Int32)).toNatClampNeg) O z191.1 z191.2.1 z191.2.2.1 z191.2.2.2.1 z191.2.2.2.2.1 z191.2.2.2.2.2.1 z191.2.2.2.2.2.2.1 z191.2.2.2.2.2.2.2 e192) rfl rfl rfl (by decide) rfl ⟨rfl, rfl⟩ ⟨by decide, by decide⟩ (Nat.le_of_ble_eq_true rfl) ⟨by show _ ≤ 601024; omega, by show _ ≤ 7293034; omega⟩ rfl (fun v w' hp => ?_)
                                        obtain ⟨rfl, a193, a194, a195, a196, rfl⟩ := hp
                                        refine J.blk2 (ws' := [ouW D aO z191.2.2.2.2.2.2.2, rkW D aθ (aρ 0) (aπ 0) aν (aτ 0) z191.2.1, rmW D aρ z191.2.2.1, rmW D aπ π, txW D aτ τ, mdW D aμ μ, tlW D aν a193 a194 a195 a196 z191.2.2.2.1 z191.2.2.2.2.1 z191.2.2.2.2.2.1 z191.2.2.2.2.2.2.1].flatten) 7 (pkB [ouW D aO O, rkW D aθ (aρ 0) (aπ 0) aν (aτ 0) θ, rmW D aρ ρ, rmW D aπ π, txW D aτ τ, mdW D aμ μ, tlW D aν aS0 aS1 aS2 aS3 S0 S1 S2 S3] [3, 4, 5]) ([ouW D aO z191.2.2.2.2.2.2.2, rkW D aθ (aρ 0) (aπ 0) aν (aτ 0) z191.2.1, rmW D aρ z191.2.2.1, tlW D aν a193 a194 a195 a196 z191.2.2.2.1 z191.2.2.2.2.1 z191.2.2.2.2.2.1 z191.2.2.2.2.2.2.1]) [3, 4, 5, 0, 1, 2, 6] rfl rfl rfl rfl (by decide) ?_
                                        refine r_istore (lv' := [(5, .int z191.1), (4, .int i), (3, .ref aO), (2, .ref (aμ 0)), (1, .ref aθ), (0, .ref b)]) h dL_law_1181 (by decide) rfl ?_
                                        refine r_aload_n h 3 rfl rfl dL_law_1183 ?_
                                        refine r_aload_n h 5 rfl rfl dL_law_1184 ?_
                                        refine r_iload h 1 rfl dL_law_1185 ?_
                                        refine r_iconst (v := 1) h dL_law_1187 (by decide) ?_
                                        refine r_iadd h dL_law_1188 ?_
                                        obtain ⟨hN, hF⟩ := o_gd hF
                                        refine r_sld h hLX hN dL_law_1189 ?_
                                        refine r_aload_n h 5 rfl rfl dL_law_1190 ?_
                                        refine r_iload h 1 rfl dL_law_1191 ?_
                                        refine r_iconst (v := 2) h dL_law_1193 (by decide) ?_
                                        refine r_iadd h dL_law_1194 ?_
                                        obtain ⟨hN, hF⟩ := o_gd hF
                                        refine r_sld h hLX hN dL_law_1195 ?_
                                        obtain ⟨z197, e198, hF⟩ := o_bind hF
                                        refine r_callVB (N0 := 7) (q0 := 0) (rest := []) h [ouW D aO z191.2.2.2.2.2.2.2, rkW D aθ (aρ 0) (aπ 0) aν (aτ 0) z191.2.1, rmW D aρ z191.2.2.1, rmW D aπ π, txW D aτ τ, mdW D aμ μ, tlW D aν a193 a194 a195 a196 z191.2.2.2.1 z191.2.2.2.2.1 z191.2.2.2.2.2.1 z191.2.2.2.2.2.2.1] [5] [0, 1, 2, 3, 4, 6] hdm_X4_move wm_925 dL_law_1196 (CX4_move l D aμ μ (xs (i + (1 : Int32)).toNatClampNeg) (xs (i + (2 : Int32)).toNatClampNeg) z197.1 z197.2 e198) rfl rfl rfl (by decide) rfl rfl rfl ⟨rfl, rfl⟩ ⟨by decide, by decide⟩ (Nat.le_of_ble_eq_true rfl) ⟨by show _ ≤ 601024; omega, by show _ ≤ 7293034; omega⟩ rfl (fun v w' hp => ?_)
                                        obtain ⟨rfl, rfl⟩ := hp
                                        refine J.blk2 (ws' := [ouW D aO z191.2.2.2.2.2.2.2, rkW D aθ (aρ 0) (aπ 0) aν (aτ 0) z191.2.1, rmW D aρ z191.2.2.1, rmW D aπ π, txW D aτ τ, mdW D aμ z197.2, tlW D aν a193 a194 a195 a196 z191.2.2.2.1 z191.2.2.2.2.1 z191.2.2.2.2.2.1 z191.2.2.2.2.2.2.1].flatten) 7 (pkB [ouW D aO z191.2.2.2.2.2.2.2, rkW D aθ (aρ 0) (aπ 0) aν (aτ 0) z191.2.1, rmW D aρ z191.2.2.1, rmW D aπ π, txW D aτ τ, mdW D aμ μ, tlW D aν a193 a194 a195 a196 z191.2.2.2.1 z191.2.2.2.2.1 z191.2.2.2.2.2.1 z191.2.2.2.2.2.2.1] [0, 1, 2, 3, 4, 6]) ([mdW D aμ z197.2]) [0, 1, 2, 3, 4, 6, 5] rfl rfl rfl rfl (by decide) ?_
                                        refine r_istore (lv' := [(6, .int z197.1), (5, .int z191.1), (4, .int i), (3, .ref aO), (2, .ref (aμ 0)), (1, .ref aθ), (0, .ref b)]) h dL_law_1199 (by decide) rfl ?_
                                        refine r_aload_n h 4 rfl rfl dL_law_1201 ?_
                                        obtain ⟨z199, e200, hF⟩ := o_bind hF
                                        refine r_callVB (N0 := 7) (q0 := 0) (rest := []) h [ouW D aO z191.2.2.2.2.2.2.2, rkW D aθ (aρ 0) (aπ 0) aν (aτ 0) z191.2.1, rmW D aρ z191.2.2.1, rmW D aπ π, txW D aτ τ, mdW D aμ z197.2, tlW D aν a193 a194 a195 a196 z191.2.2.2.1 z191.2.2.2.2.1 z191.2.2.2.2.2.1 z191.2.2.2.2.2.2.1] [5] [0, 1, 2, 3, 4, 6] hdm_X4_thrown wm_744 dL_law_1202 (CX4_thrown l D aμ z197.2 z199 e200) rfl rfl rfl (by decide) rfl rfl rfl ⟨rfl, rfl⟩ ⟨by decide, by decide⟩ (Nat.le_of_ble_eq_true rfl) ⟨by show _ ≤ 601024; omega, by show _ ≤ 7293034; omega⟩ rfl (fun v w' hp => ?_)
                                        obtain ⟨rfl, rfl⟩ := hp
                                        refine J.blk2 (ws' := [ouW D aO z191.2.2.2.2.2.2.2, rkW D aθ (aρ 0) (aπ 0) aν (aτ 0) z191.2.1, rmW D aρ z191.2.2.1, rmW D aπ π, txW D aτ τ, mdW D aμ z197.2, tlW D aν a193 a194 a195 a196 z191.2.2.2.1 z191.2.2.2.2.1 z191.2.2.2.2.2.1 z191.2.2.2.2.2.2.1].flatten) 7 (pkB [ouW D aO z191.2.2.2.2.2.2.2, rkW D aθ (aρ 0) (aπ 0) aν (aτ 0) z191.2.1, rmW D aρ z191.2.2.1, rmW D aπ π, txW D aτ τ, mdW D aμ z197.2, tlW D aν a193 a194 a195 a196 z191.2.2.2.1 z191.2.2.2.2.1 z191.2.2.2.2.2.1 z191.2.2.2.2.2.2.1] [0, 1, 2, 3, 4, 6]) ([mdW D aμ z197.2]) [0, 1, 2, 3, 4, 6, 5] rfl rfl rfl rfl (by decide) ?_
                                        refine r_iload h 1 rfl dL_law_1205 ?_
                                        refine r_icmp_eq h 1212 dL_law_1207 (by decide) (fun c201 => ?_) (fun c201 => ?_)
                                        · replace hF := o_pos c201 hF
                                          refine r_iload h 1 rfl dL_law_1212 ?_
                                          refine r_if_ne h 1229 dL_law_1214 (by decide) (fun c202 => ?_) (fun c202 => ?_)
                                          · replace hF := o_neg c202 hF
                                            refine r_goto h 1712 dL_law_1229 (by decide) ?_
                                            refine r_iinc (lv' := [(4, .int (i + 5)), (6, .int z197.1), (5, .int z191.1), (3, .ref aO), (2, .ref (aμ 0)), (1, .ref aθ), (0, .ref b)]) h 2 rfl (congrArg (fun z => i + z) (by decide : Int32.ofInt 5 = 5)) dL_law_1712 (by decide) rfl ?_
                                            refine r_goto h 23 dL_law_1715 (by decide) ?_
                                            refine J.widen (k1 := k + 1) (n1 := n + 6) (by omega) (by omega) ?_
                                            exact J.loc (lv' := [(4, .int (i + 5)), (3, .ref aO), (2, .ref (aμ 0)), (1, .ref aθ), (0, .ref b)]) [0, 3, 4, 5, 6] rfl (ih (k + 1) (n + 6) aρ aπ a193 a194 a195 a196 (i + 5) z191.2.2.2.2.2.2.2 z191.2.1 z191.2.2.1 π τ z197.2 z191.2.2.2.1 z191.2.2.2.2.1 z191.2.2.2.2.2.1 z191.2.2.2.2.2.2.1 (by omega) (by omega) hF)
                                          · replace hF := o_pos c202 hF
                                            refine r_aload_n h 3 rfl rfl dL_law_1217 ?_
                                            refine r_iconst (v := 0) h dL_law_1218 (by decide) ?_
                                            refine r_lald h 0 rfl (show ¬ (_ ∨ _) by decide) dL_law_1219 ?_
                                            refine r_iload h 0 rfl dL_law_1220 ?_
                                            refine r_i2l h dL_law_1222 ?_
                                            refine r_lcmp h dL_law_1223 ?_
                                            refine r_if_eq h 1229 dL_law_1224 (by decide) (fun c203 => ?_) (fun c203 => ?_)
                                            · replace hF := o_pos c203 hF
                                              refine r_goto h 1712 dL_law_1229 (by decide) ?_
                                              refine r_iinc (lv' := [(4, .int (i + 5)), (6, .int z197.1), (5, .int z191.1), (3, .ref aO), (2, .ref (aμ 0)), (1, .ref aθ), (0, .ref b)]) h 2 rfl (congrArg (fun z => i + z) (by decide : Int32.ofInt 5 = 5)) dL_law_1712 (by decide) rfl ?_
                                              refine r_goto h 23 dL_law_1715 (by decide) ?_
                                              refine J.widen (k1 := k + 1) (n1 := n + 6) (by omega) (by omega) ?_
                                              exact J.loc (lv' := [(4, .int (i + 5)), (3, .ref aO), (2, .ref (aμ 0)), (1, .ref aθ), (0, .ref b)]) [0, 3, 4, 5, 6] rfl (ih (k + 1) (n + 6) aρ aπ a193 a194 a195 a196 (i + 5) z191.2.2.2.2.2.2.2 z191.2.1 z191.2.2.1 π τ z197.2 z191.2.2.2.1 z191.2.2.2.2.1 z191.2.2.2.2.2.1 z191.2.2.2.2.2.2.1 (by omega) (by omega) hF)
                                            · replace hF := o_neg c203 hF
                                              refine r_iconst (v := 0) h dL_law_1227 (by decide) ?_
                                              cases hF
                                        · replace hF := o_neg c201 hF
                                          refine r_iconst (v := 0) h dL_law_1210 (by decide) ?_
                                          cases hF
                                      · replace hF := o_neg c190 hF
                                        by_cases c204 : u2 = (16 : Int32)
                                        · replace hF := o_pos c204 hF
                                          refine r_tswIn h (16 : Int32) c204 1232 dL_law_39 (by decide) (by decide) rfl (by decide) ?_
                                          refine r_aload_n h 3 rfl rfl dL_law_1232 ?_
                                          refine r_aload_n h 4 rfl rfl dL_law_1233 ?_
                                          refine r_iload h 0 rfl dL_law_1234 ?_
                                          refine r_iconst (v := 1) h dL_law_1236 (by decide) ?_
                                          refine r_iadd h dL_law_1237 ?_
                                          obtain ⟨hN, hF⟩ := o_gd hF
                                          refine r_sld h hLX hN dL_law_1238 ?_
                                          refine r_aload_n h 4 rfl rfl dL_law_1239 ?_
                                          refine r_iload h 0 rfl dL_law_1240 ?_
                                          refine r_iconst (v := 2) h dL_law_1242 (by decide) ?_
                                          refine r_iadd h dL_law_1243 ?_
                                          obtain ⟨hN, hF⟩ := o_gd hF
                                          refine r_sld h hLX hN dL_law_1244 ?_
                                          refine r_aload_n h 1 rfl rfl dL_law_1245 ?_
                                          obtain ⟨z205, e206, hF⟩ := o_bind hF
                                          refine r_callW (N0 := 7) (rest := []) h hXL [ouW D aO O, rkW D aθ (aρ 0) (aπ 0) aν (aτ 0) θ, rmW D aρ ρ, rmW D aπ π, txW D aτ τ, mdW D aμ μ, tlW D aν aS0 aS1 aS2 aS3 S0 S1 S2 S3] [0, 1, 2, 6] [3, 4, 5] hdw_change wm_652 dL_law_1246 (CL_change l hl0 D aθ (aπ 0) (aτ 0) aρ aν aS0 aS1 aS2 aS3 aO θ ρ S0 S1 S2 S3 (xs (i + (1 : Int32)).toNatClampNeg) (xs (i + (2 : Int32)).toNatClampNeg) O z205.1 z205.2.1 z205.2.2.1 z205.2.2.2.1 z205.2.2.2.2.1 z205.2.2.2.2.2.1 z205.2.2.2.2.2.2.1 z205.2.2.2.2.2.2.2 e206) rfl rfl rfl (by decide) rfl ⟨rfl, rfl⟩ ⟨by decide, by decide⟩ (Nat.le_of_ble_eq_true rfl) ⟨by show _ ≤ 601024; omega, by show _ ≤ 7293034; omega⟩ rfl (fun v w' hp => ?_)
                                          obtain ⟨rfl, a207, a208, a209, a210, rfl⟩ := hp
                                          refine J.blk2 (ws' := [ouW D aO z205.2.2.2.2.2.2.2, rkW D aθ (aρ 0) (aπ 0) aν (aτ 0) z205.2.1, rmW D aρ z205.2.2.1, rmW D aπ π, txW D aτ τ, mdW D aμ μ, tlW D aν a207 a208 a209 a210 z205.2.2.2.1 z205.2.2.2.2.1 z205.2.2.2.2.2.1 z205.2.2.2.2.2.2.1].flatten) 7 (pkB [ouW D aO O, rkW D aθ (aρ 0) (aπ 0) aν (aτ 0) θ, rmW D aρ ρ, rmW D aπ π, txW D aτ τ, mdW D aμ μ, tlW D aν aS0 aS1 aS2 aS3 S0 S1 S2 S3] [3, 4, 5]) ([ouW D aO z205.2.2.2.2.2.2.2, rkW D aθ (aρ 0) (aπ 0) aν (aτ 0) z205.2.1, rmW D aρ z205.2.2.1, tlW D aν a207 a208 a209 a210 z205.2.2.2.1 z205.2.2.2.2.1 z205.2.2.2.2.2.1 z205.2.2.2.2.2.2.1]) [3, 4, 5, 0, 1, 2, 6] rfl rfl rfl rfl (by decide) ?_
                                          refine r_istore (lv' := [(5, .int z205.1), (4, .int i), (3, .ref aO), (2, .ref (aμ 0)), (1, .ref aθ), (0, .ref b)]) h dL_law_1249 (by decide) rfl ?_
                                          refine r_aload_n h 3 rfl rfl dL_law_1251 ?_
                                          refine r_aload_n h 5 rfl rfl dL_law_1252 ?_
                                          refine r_iload h 1 rfl dL_law_1253 ?_
                                          refine r_iconst (v := 1) h dL_law_1255 (by decide) ?_
                                          refine r_iadd h dL_law_1256 ?_
                                          obtain ⟨hN, hF⟩ := o_gd hF
                                          refine r_sld h hLX hN dL_law_1257 ?_
                                          refine r_aload_n h 5 rfl rfl dL_law_1258 ?_
                                          refine r_iload h 1 rfl dL_law_1259 ?_
                                          refine r_iconst (v := 2) h dL_law_1261 (by decide) ?_
                                          refine r_iadd h dL_law_1262 ?_
                                          obtain ⟨hN, hF⟩ := o_gd hF
                                          refine r_sld h hLX hN dL_law_1263 ?_
                                          obtain ⟨z211, e212, hF⟩ := o_bind hF
                                          refine r_callVB (N0 := 7) (q0 := 0) (rest := []) h [ouW D aO z205.2.2.2.2.2.2.2, rkW D aθ (aρ 0) (aπ 0) aν (aτ 0) z205.2.1, rmW D aρ z205.2.2.1, rmW D aπ π, txW D aτ τ, mdW D aμ μ, tlW D aν a207 a208 a209 a210 z205.2.2.2.1 z205.2.2.2.2.1 z205.2.2.2.2.2.1 z205.2.2.2.2.2.2.1] [5] [0, 1, 2, 3, 4, 6] hdm_X4_change wm_951 dL_law_1264 (CX4_change l D aμ μ (xs (i + (1 : Int32)).toNatClampNeg) (xs (i + (2 : Int32)).toNatClampNeg) z211.1 z211.2 e212) rfl rfl rfl (by decide) rfl rfl rfl ⟨rfl, rfl⟩ ⟨by decide, by decide⟩ (Nat.le_of_ble_eq_true rfl) ⟨by show _ ≤ 601024; omega, by show _ ≤ 7293034; omega⟩ rfl (fun v w' hp => ?_)
                                          obtain ⟨rfl, rfl⟩ := hp
                                          refine J.blk2 (ws' := [ouW D aO z205.2.2.2.2.2.2.2, rkW D aθ (aρ 0) (aπ 0) aν (aτ 0) z205.2.1, rmW D aρ z205.2.2.1, rmW D aπ π, txW D aτ τ, mdW D aμ z211.2, tlW D aν a207 a208 a209 a210 z205.2.2.2.1 z205.2.2.2.2.1 z205.2.2.2.2.2.1 z205.2.2.2.2.2.2.1].flatten) 7 (pkB [ouW D aO z205.2.2.2.2.2.2.2, rkW D aθ (aρ 0) (aπ 0) aν (aτ 0) z205.2.1, rmW D aρ z205.2.2.1, rmW D aπ π, txW D aτ τ, mdW D aμ μ, tlW D aν a207 a208 a209 a210 z205.2.2.2.1 z205.2.2.2.2.1 z205.2.2.2.2.2.1 z205.2.2.2.2.2.2.1] [0, 1, 2, 3, 4, 6]) ([mdW D aμ z211.2]) [0, 1, 2, 3, 4, 6, 5] rfl rfl rfl rfl (by decide) ?_
                                          refine r_istore (lv' := [(6, .int z211.1), (5, .int z205.1), (4, .int i), (3, .ref aO), (2, .ref (aμ 0)), (1, .ref aθ), (0, .ref b)]) h dL_law_1267 (by decide) rfl ?_
                                          refine r_aload_n h 4 rfl rfl dL_law_1269 ?_
                                          obtain ⟨z213, e214, hF⟩ := o_bind hF
                                          refine r_callVB (N0 := 7) (q0 := 0) (rest := []) h [ouW D aO z205.2.2.2.2.2.2.2, rkW D aθ (aρ 0) (aπ 0) aν (aτ 0) z205.2.1, rmW D aρ z205.2.2.1, rmW D aπ π, txW D aτ τ, mdW D aμ z211.2, tlW D aν a207 a208 a209 a210 z205.2.2.2.1 z205.2.2.2.2.1 z205.2.2.2.2.2.1 z205.2.2.2.2.2.2.1] [5] [0, 1, 2, 3, 4, 6] hdm_X4_thrown wm_744 dL_law_1270 (CX4_thrown l D aμ z211.2 z213 e214) rfl rfl rfl (by decide) rfl rfl rfl ⟨rfl, rfl⟩ ⟨by decide, by decide⟩ (Nat.le_of_ble_eq_true rfl) ⟨by show _ ≤ 601024; omega, by show _ ≤ 7293034; omega⟩ rfl (fun v w' hp => ?_)
                                          obtain ⟨rfl, rfl⟩ := hp
                                          refine J.blk2 (ws' := [ouW D aO z205.2.2.2.2.2.2.2, rkW D aθ (aρ 0) (aπ 0) aν (aτ 0) z205.2.1, rmW D aρ z205.2.2.1, rmW D aπ π, txW D aτ τ, mdW D aμ z211.2, tlW D aν a207 a208 a209 a210 z205.2.2.2.1 z205.2.2.2.2.1 z205.2.2.2.2.2.1 z205.2.2.2.2.2.2.1].flatten) 7 (pkB [ouW D aO z205.2.2.2.2.2.2.2, rkW D aθ (aρ 0) (aπ 0) aν (aτ 0) z205.2.1, rmW D aρ z205.2.2.1, rmW D aπ π, txW D aτ τ, mdW D aμ z211.2, tlW D aν a207 a208 a209 a210 z205.2.2.2.1 z205.2.2.2.2.1 z205.2.2.2.2.2.1 z205.2.2.2.2.2.2.1] [0, 1, 2, 3, 4, 6]) ([mdW D aμ z211.2]) [0, 1, 2, 3, 4, 6, 5] rfl rfl rfl rfl (by decide) ?_
                                          refine r_iload h 1 rfl dL_law_1273 ?_
                                          refine r_icmp_eq h 1280 dL_law_1275 (by decide) (fun c215 => ?_) (fun c215 => ?_)
                                          · replace hF := o_pos c215 hF
                                            refine r_iload h 1 rfl dL_law_1280 ?_
                                            refine r_if_ne h 1297 dL_law_1282 (by decide) (fun c216 => ?_) (fun c216 => ?_)
                                            · replace hF := o_neg c216 hF
                                              refine r_goto h 1712 dL_law_1297 (by decide) ?_
                                              refine r_iinc (lv' := [(4, .int (i + 5)), (6, .int z211.1), (5, .int z205.1), (3, .ref aO), (2, .ref (aμ 0)), (1, .ref aθ), (0, .ref b)]) h 2 rfl (congrArg (fun z => i + z) (by decide : Int32.ofInt 5 = 5)) dL_law_1712 (by decide) rfl ?_
                                              refine r_goto h 23 dL_law_1715 (by decide) ?_
                                              refine J.widen (k1 := k + 1) (n1 := n + 6) (by omega) (by omega) ?_
                                              exact J.loc (lv' := [(4, .int (i + 5)), (3, .ref aO), (2, .ref (aμ 0)), (1, .ref aθ), (0, .ref b)]) [0, 3, 4, 5, 6] rfl (ih (k + 1) (n + 6) aρ aπ a207 a208 a209 a210 (i + 5) z205.2.2.2.2.2.2.2 z205.2.1 z205.2.2.1 π τ z211.2 z205.2.2.2.1 z205.2.2.2.2.1 z205.2.2.2.2.2.1 z205.2.2.2.2.2.2.1 (by omega) (by omega) hF)
                                            · replace hF := o_pos c216 hF
                                              refine r_aload_n h 3 rfl rfl dL_law_1285 ?_
                                              refine r_iconst (v := 0) h dL_law_1286 (by decide) ?_
                                              refine r_lald h 0 rfl (show ¬ (_ ∨ _) by decide) dL_law_1287 ?_
                                              refine r_iload h 0 rfl dL_law_1288 ?_
                                              refine r_i2l h dL_law_1290 ?_
                                              refine r_lcmp h dL_law_1291 ?_
                                              refine r_if_eq h 1297 dL_law_1292 (by decide) (fun c217 => ?_) (fun c217 => ?_)
                                              · replace hF := o_pos c217 hF
                                                refine r_goto h 1712 dL_law_1297 (by decide) ?_
                                                refine r_iinc (lv' := [(4, .int (i + 5)), (6, .int z211.1), (5, .int z205.1), (3, .ref aO), (2, .ref (aμ 0)), (1, .ref aθ), (0, .ref b)]) h 2 rfl (congrArg (fun z => i + z) (by decide : Int32.ofInt 5 = 5)) dL_law_1712 (by decide) rfl ?_
                                                refine r_goto h 23 dL_law_1715 (by decide) ?_
                                                refine J.widen (k1 := k + 1) (n1 := n + 6) (by omega) (by omega) ?_
                                                exact J.loc (lv' := [(4, .int (i + 5)), (3, .ref aO), (2, .ref (aμ 0)), (1, .ref aθ), (0, .ref b)]) [0, 3, 4, 5, 6] rfl (ih (k + 1) (n + 6) aρ aπ a207 a208 a209 a210 (i + 5) z205.2.2.2.2.2.2.2 z205.2.1 z205.2.2.1 π τ z211.2 z205.2.2.2.1 z205.2.2.2.2.1 z205.2.2.2.2.2.1 z205.2.2.2.2.2.2.1 (by omega) (by omega) hF)
                                              · replace hF := o_neg c217 hF
                                                refine r_iconst (v := 0) h dL_law_1295 (by decide) ?_
                                                cases hF
                                          · replace hF := o_neg c215 hF
                                            refine r_iconst (v := 0) h dL_law_1278 (by decide) ?_
                                            cases hF
                                        · replace hF := o_neg c204 hF
                                          by_cases c218 : u2 = (17 : Int32)
                                          · replace hF := o_pos c218 hF
                                            refine r_tswIn h (17 : Int32) c218 1300 dL_law_39 (by decide) (by decide) rfl (by decide) ?_
                                            refine r_aload_n h 3 rfl rfl dL_law_1300 ?_
                                            obtain ⟨z219, e220, hF⟩ := o_bind hF
                                            refine r_callVB (N0 := 7) (q0 := 0) (rest := []) h [ouW D aO O, rkW D aθ (aρ 0) (aπ 0) aν (aτ 0) θ, rmW D aρ ρ, rmW D aπ π, txW D aτ τ, mdW D aμ μ, tlW D aν aS0 aS1 aS2 aS3 S0 S1 S2 S3] [1, 2, 6] [0, 3, 4, 5] hdm_X3_backOut wm_136 dL_law_1301 (CX3_backOut l D aθ (aπ 0) (aτ 0) aρ aν aS0 aS1 aS2 aS3 θ ρ S0 S1 S2 S3 z219.1 z219.2.1 z219.2.2.1 z219.2.2.2.1 z219.2.2.2.2.1 z219.2.2.2.2.2.1 z219.2.2.2.2.2.2 e220) rfl rfl rfl (by decide) rfl rfl rfl ⟨rfl, rfl⟩ ⟨by decide, by decide⟩ (Nat.le_of_ble_eq_true rfl) ⟨by show _ ≤ 601024; omega, by show _ ≤ 7293034; omega⟩ rfl (fun v w' hp => ?_)
                                            obtain ⟨rfl, a221, a222, a223, a224, rfl⟩ := hp
                                            refine J.blk2 (ws' := [ouW D aO O, rkW D aθ (aρ 0) (aπ 0) aν (aτ 0) z219.2.1, rmW D aρ z219.2.2.1, rmW D aπ π, txW D aτ τ, mdW D aμ μ, tlW D aν a221 a222 a223 a224 z219.2.2.2.1 z219.2.2.2.2.1 z219.2.2.2.2.2.1 z219.2.2.2.2.2.2].flatten) 7 (pkB [ouW D aO O, rkW D aθ (aρ 0) (aπ 0) aν (aτ 0) θ, rmW D aρ ρ, rmW D aπ π, txW D aτ τ, mdW D aμ μ, tlW D aν aS0 aS1 aS2 aS3 S0 S1 S2 S3] [0, 3, 4, 5]) ([rkW D aθ (aρ 0) (aπ 0) aν (aτ 0) z219.2.1, rmW D aρ z219.2.2.1, tlW D aν a221 a222 a223 a224 z219.2.2.2.1 z219.2.2.2.2.1 z219.2.2.2.2.2.1 z219.2.2.2.2.2.2]) [0, 4, 5, 1, 2, 3, 6] rfl rfl rfl rfl (by decide) ?_
                                            refine r_aload_n h 2 rfl rfl dL_law_1304 ?_
                                            obtain ⟨z225, e226, hF⟩ := o_bind hF
                                            refine r_callVB (N0 := 7) (q0 := 0) (rest := [.int z219.1]) h [ouW D aO O, rkW D aθ (aρ 0) (aπ 0) aν (aτ 0) z219.2.1, rmW D aρ z219.2.2.1, rmW D aπ π, txW D aτ τ, mdW D aμ μ, tlW D aν a221 a222 a223 a224 z219.2.2.2.1 z219.2.2.2.2.1 z219.2.2.2.2.2.1 z219.2.2.2.2.2.2] [5] [0, 1, 2, 3, 4, 6] hdm_X4_backOut wm_959 dL_law_1305 (CX4_backOut l D aμ μ z225.1 z225.2 e226) rfl rfl rfl (by decide) rfl rfl rfl ⟨rfl, rfl⟩ ⟨by decide, by decide⟩ (Nat.le_of_ble_eq_true rfl) ⟨by show _ ≤ 601024; omega, by show _ ≤ 7293034; omega⟩ rfl (fun v w' hp => ?_)
                                            obtain ⟨rfl, rfl⟩ := hp
                                            refine J.blk2 (ws' := [ouW D aO O, rkW D aθ (aρ 0) (aπ 0) aν (aτ 0) z219.2.1, rmW D aρ z219.2.2.1, rmW D aπ π, txW D aτ τ, mdW D aμ z225.2, tlW D aν a221 a222 a223 a224 z219.2.2.2.1 z219.2.2.2.2.1 z219.2.2.2.2.2.1 z219.2.2.2.2.2.2].flatten) 7 (pkB [ouW D aO O, rkW D aθ (aρ 0) (aπ 0) aν (aτ 0) z219.2.1, rmW D aρ z219.2.2.1, rmW D aπ π, txW D aτ τ, mdW D aμ μ, tlW D aν a221 a222 a223 a224 z219.2.2.2.1 z219.2.2.2.2.1 z219.2.2.2.2.2.1 z219.2.2.2.2.2.2] [0, 1, 2, 3, 4, 6]) ([mdW D aμ z225.2]) [0, 1, 2, 3, 4, 6, 5] rfl rfl rfl rfl (by decide) ?_
                                            refine r_icmp_eq h 1712 dL_law_1308 (by decide) (fun c227 => ?_) (fun c227 => ?_)
                                            · replace hF := o_pos c227 hF
                                              refine r_iinc (lv' := [(4, .int (i + 5)), (3, .ref aO), (2, .ref (aμ 0)), (1, .ref aθ), (0, .ref b)]) h 0 rfl (congrArg (fun z => i + z) (by decide : Int32.ofInt 5 = 5)) dL_law_1712 (by decide) rfl ?_
                                              refine r_goto h 23 dL_law_1715 (by decide) ?_
                                              refine J.widen (k1 := k + 1) (n1 := n + 6) (by omega) (by omega) ?_
                                              exact J.loc (lv' := [(4, .int (i + 5)), (3, .ref aO), (2, .ref (aμ 0)), (1, .ref aθ), (0, .ref b)]) [0, 1, 2, 3, 4] rfl (ih (k + 1) (n + 6) aρ aπ a221 a222 a223 a224 (i + 5) O z219.2.1 z219.2.2.1 π τ z225.2 z219.2.2.2.1 z219.2.2.2.2.1 z219.2.2.2.2.2.1 z219.2.2.2.2.2.2 (by omega) (by omega) hF)
                                            · replace hF := o_neg c227 hF
                                              refine r_iconst (v := 0) h dL_law_1311 (by decide) ?_
                                              cases hF
                                          · replace hF := o_neg c218 hF
                                            by_cases c228 : u2 = (18 : Int32)
                                            · replace hF := o_pos c228 hF
                                              refine r_tswIn h (18 : Int32) c228 1313 dL_law_39 (by decide) (by decide) rfl (by decide) ?_
                                              refine r_aload_n h 3 rfl rfl dL_law_1313 ?_
                                              refine r_aload_n h 4 rfl rfl dL_law_1314 ?_
                                              refine r_iload h 0 rfl dL_law_1315 ?_
                                              refine r_iconst (v := 1) h dL_law_1317 (by decide) ?_
                                              refine r_iadd h dL_law_1318 ?_
                                              obtain ⟨hN, hF⟩ := o_gd hF
                                              refine r_sld h hLX hN dL_law_1319 ?_
                                              refine r_aload_n h 4 rfl rfl dL_law_1320 ?_
                                              refine r_iload h 0 rfl dL_law_1321 ?_
                                              refine r_iconst (v := 2) h dL_law_1323 (by decide) ?_
                                              refine r_iadd h dL_law_1324 ?_
                                              obtain ⟨hN, hF⟩ := o_gd hF
                                              refine r_sld h hLX hN dL_law_1325 ?_
                                              refine r_aload_n h 1 rfl rfl dL_law_1326 ?_
                                              obtain ⟨z229, e230, hF⟩ := o_bind hF
                                              refine r_callW (N0 := 7) (rest := []) h hXL [ouW D aO O, rkW D aθ (aρ 0) (aπ 0) aν (aτ 0) θ, rmW D aρ ρ, rmW D aπ π, txW D aτ τ, mdW D aμ μ, tlW D aν aS0 aS1 aS2 aS3 S0 S1 S2 S3] [0, 1, 2] [3, 4, 5, 6] hdw_pile wm_660 dL_law_1327 (CL_pile l hl0 D aθ (aπ 0) aν (aτ 0) aρ aO θ ρ (xs (i + (1 : Int32)).toNatClampNeg) (xs (i + (2 : Int32)).toNatClampNeg) O z229.1 z229.2 e230) rfl rfl rfl (by decide) rfl ⟨rfl, rfl⟩ ⟨by decide, by decide⟩ (Nat.le_of_ble_eq_true rfl) ⟨by show _ ≤ 601024; omega, by show _ ≤ 7293034; omega⟩ rfl (fun v w' hp => ?_)
                                              obtain ⟨rfl, rfl⟩ := hp
                                              refine J.blk2 (ws' := [ouW D aO z229.2, rkW D aθ (aρ 0) (aπ 0) aν (aτ 0) θ, rmW D aρ ρ, rmW D aπ π, txW D aτ τ, mdW D aμ μ, tlW D aν aS0 aS1 aS2 aS3 S0 S1 S2 S3].flatten) 7 (pkB [ouW D aO O, rkW D aθ (aρ 0) (aπ 0) aν (aτ 0) θ, rmW D aρ ρ, rmW D aπ π, txW D aτ τ, mdW D aμ μ, tlW D aν aS0 aS1 aS2 aS3 S0 S1 S2 S3] [3, 4, 5, 6]) ([ouW D aO z229.2, rkW D aθ (aρ 0) (aπ 0) aν (aτ 0) θ, rmW D aρ ρ]) [4, 5, 6, 0, 1, 2, 3] rfl rfl rfl rfl (by decide) ?_
                                              refine r_istore (lv' := [(5, .int z229.1), (4, .int i), (3, .ref aO), (2, .ref (aμ 0)), (1, .ref aθ), (0, .ref b)]) h dL_law_1330 (by decide) rfl ?_
                                              refine r_aload_n h 3 rfl rfl dL_law_1332 ?_
                                              refine r_aload_n h 5 rfl rfl dL_law_1333 ?_
                                              refine r_iload h 1 rfl dL_law_1334 ?_
                                              refine r_iconst (v := 1) h dL_law_1336 (by decide) ?_
                                              refine r_iadd h dL_law_1337 ?_
                                              obtain ⟨hN, hF⟩ := o_gd hF
                                              refine r_sld h hLX hN dL_law_1338 ?_
                                              refine r_aload_n h 5 rfl rfl dL_law_1339 ?_
                                              refine r_iload h 1 rfl dL_law_1340 ?_
                                              refine r_iconst (v := 2) h dL_law_1342 (by decide) ?_
                                              refine r_iadd h dL_law_1343 ?_
                                              obtain ⟨hN, hF⟩ := o_gd hF
                                              refine r_sld h hLX hN dL_law_1344 ?_
                                              obtain ⟨z231, e232, hF⟩ := o_bind hF
                                              refine r_callVB (N0 := 7) (q0 := 0) (rest := []) h [ouW D aO z229.2, rkW D aθ (aρ 0) (aπ 0) aν (aτ 0) θ, rmW D aρ ρ, rmW D aπ π, txW D aτ τ, mdW D aμ μ, tlW D aν aS0 aS1 aS2 aS3 S0 S1 S2 S3] [5] [0, 1, 2, 3, 4, 6] hdm_X4_pile wm_967 dL_law_1345 (CX4_pile l D aμ μ (xs (i + (1 : Int32)).toNatClampNeg) (xs (i + (2 : Int32)).toNatClampNeg) z231.1 z231.2 e232) rfl rfl rfl (by decide) rfl rfl rfl ⟨rfl, rfl⟩ ⟨by decide, by decide⟩ (Nat.le_of_ble_eq_true rfl) ⟨by show _ ≤ 601024; omega, by show _ ≤ 7293034; omega⟩ rfl (fun v w' hp => ?_)
                                              obtain ⟨rfl, rfl⟩ := hp
                                              refine J.blk2 (ws' := [ouW D aO z229.2, rkW D aθ (aρ 0) (aπ 0) aν (aτ 0) θ, rmW D aρ ρ, rmW D aπ π, txW D aτ τ, mdW D aμ z231.2, tlW D aν aS0 aS1 aS2 aS3 S0 S1 S2 S3].flatten) 7 (pkB [ouW D aO z229.2, rkW D aθ (aρ 0) (aπ 0) aν (aτ 0) θ, rmW D aρ ρ, rmW D aπ π, txW D aτ τ, mdW D aμ μ, tlW D aν aS0 aS1 aS2 aS3 S0 S1 S2 S3] [0, 1, 2, 3, 4, 6]) ([mdW D aμ z231.2]) [0, 1, 2, 3, 4, 6, 5] rfl rfl rfl rfl (by decide) ?_
                                              refine r_istore (lv' := [(6, .int z231.1), (5, .int z229.1), (4, .int i), (3, .ref aO), (2, .ref (aμ 0)), (1, .ref aθ), (0, .ref b)]) h dL_law_1348 (by decide) rfl ?_
                                              refine r_aload_n h 4 rfl rfl dL_law_1350 ?_
                                              obtain ⟨z233, e234, hF⟩ := o_bind hF
                                              refine r_callVB (N0 := 7) (q0 := 0) (rest := []) h [ouW D aO z229.2, rkW D aθ (aρ 0) (aπ 0) aν (aτ 0) θ, rmW D aρ ρ, rmW D aπ π, txW D aτ τ, mdW D aμ z231.2, tlW D aν aS0 aS1 aS2 aS3 S0 S1 S2 S3] [5] [0, 1, 2, 3, 4, 6] hdm_X4_thrown wm_744 dL_law_1351 (CX4_thrown l D aμ z231.2 z233 e234) rfl rfl rfl (by decide) rfl rfl rfl ⟨rfl, rfl⟩ ⟨by decide, by decide⟩ (Nat.le_of_ble_eq_true rfl) ⟨by show _ ≤ 601024; omega, by show _ ≤ 7293034; omega⟩ rfl (fun v w' hp => ?_)
                                              obtain ⟨rfl, rfl⟩ := hp
                                              refine J.blk2 (ws' := [ouW D aO z229.2, rkW D aθ (aρ 0) (aπ 0) aν (aτ 0) θ, rmW D aρ ρ, rmW D aπ π, txW D aτ τ, mdW D aμ z231.2, tlW D aν aS0 aS1 aS2 aS3 S0 S1 S2 S3].flatten) 7 (pkB [ouW D aO z229.2, rkW D aθ (aρ 0) (aπ 0) aν (aτ 0) θ, rmW D aρ ρ, rmW D aπ π, txW D aτ τ, mdW D aμ z231.2, tlW D aν aS0 aS1 aS2 aS3 S0 S1 S2 S3] [0, 1, 2, 3, 4, 6]) ([mdW D aμ z231.2]) [0, 1, 2, 3, 4, 6, 5] rfl rfl rfl rfl (by decide) ?_
                                              refine r_iload h 1 rfl dL_law_1354 ?_
                                              refine r_icmp_eq h 1361 dL_law_1356 (by decide) (fun c235 => ?_) (fun c235 => ?_)
                                              · replace hF := o_pos c235 hF
                                                refine r_iload h 1 rfl dL_law_1361 ?_
                                                refine r_if_ne h 1378 dL_law_1363 (by decide) (fun c236 => ?_) (fun c236 => ?_)
                                                · replace hF := o_neg c236 hF
                                                  refine r_goto h 1712 dL_law_1378 (by decide) ?_
                                                  refine r_iinc (lv' := [(4, .int (i + 5)), (6, .int z231.1), (5, .int z229.1), (3, .ref aO), (2, .ref (aμ 0)), (1, .ref aθ), (0, .ref b)]) h 2 rfl (congrArg (fun z => i + z) (by decide : Int32.ofInt 5 = 5)) dL_law_1712 (by decide) rfl ?_
                                                  refine r_goto h 23 dL_law_1715 (by decide) ?_
                                                  refine J.widen (k1 := k + 1) (n1 := n + 6) (by omega) (by omega) ?_
                                                  exact J.loc (lv' := [(4, .int (i + 5)), (3, .ref aO), (2, .ref (aμ 0)), (1, .ref aθ), (0, .ref b)]) [0, 3, 4, 5, 6] rfl (ih (k + 1) (n + 6) aρ aπ aS0 aS1 aS2 aS3 (i + 5) z229.2 θ ρ π τ z231.2 S0 S1 S2 S3 (by omega) (by omega) hF)
                                                · replace hF := o_pos c236 hF
                                                  refine r_aload_n h 3 rfl rfl dL_law_1366 ?_
                                                  refine r_iconst (v := 0) h dL_law_1367 (by decide) ?_
                                                  refine r_lald h 0 rfl (show ¬ (_ ∨ _) by decide) dL_law_1368 ?_
                                                  refine r_iload h 0 rfl dL_law_1369 ?_
                                                  refine r_i2l h dL_law_1371 ?_
                                                  refine r_lcmp h dL_law_1372 ?_
                                                  refine r_if_eq h 1378 dL_law_1373 (by decide) (fun c237 => ?_) (fun c237 => ?_)
                                                  · replace hF := o_pos c237 hF
                                                    refine r_goto h 1712 dL_law_1378 (by decide) ?_
                                                    refine r_iinc (lv' := [(4, .int (i + 5)), (6, .int z231.1), (5, .int z229.1), (3, .ref aO), (2, .ref (aμ 0)), (1, .ref aθ), (0, .ref b)]) h 2 rfl (congrArg (fun z => i + z) (by decide : Int32.ofInt 5 = 5)) dL_law_1712 (by decide) rfl ?_
                                                    refine r_goto h 23 dL_law_1715 (by decide) ?_
                                                    refine J.widen (k1 := k + 1) (n1 := n + 6) (by omega) (by omega) ?_
                                                    exact J.loc (lv' := [(4, .int (i + 5)), (3, .ref aO), (2, .ref (aμ 0)), (1, .ref aθ), (0, .ref b)]) [0, 3, 4, 5, 6] rfl (ih (k + 1) (n + 6) aρ aπ aS0 aS1 aS2 aS3 (i + 5) z229.2 θ ρ π τ z231.2 S0 S1 S2 S3 (by omega) (by omega) hF)
                                                  · replace hF := o_neg c237 hF
                                                    refine r_iconst (v := 0) h dL_law_1376 (by decide) ?_
                                                    cases hF
                                              · replace hF := o_neg c235 hF
                                                refine r_iconst (v := 0) h dL_law_1359 (by decide) ?_
                                                cases hF
                                            · replace hF := o_neg c228 hF
                                              by_cases c238 : u2 = (19 : Int32)
                                              · replace hF := o_pos c238 hF
                                                refine r_tswIn h (19 : Int32) c238 1381 dL_law_39 (by decide) (by decide) rfl (by decide) ?_
                                                refine r_aload_n h 3 rfl rfl dL_law_1381 ?_
                                                refine r_aload_n h 4 rfl rfl dL_law_1382 ?_
                                                refine r_iload h 0 rfl dL_law_1383 ?_
                                                refine r_iconst (v := 1) h dL_law_1385 (by decide) ?_
                                                refine r_iadd h dL_law_1386 ?_
                                                obtain ⟨hN, hF⟩ := o_gd hF
                                                refine r_sld h hLX hN dL_law_1387 ?_
                                                refine r_aload_n h 4 rfl rfl dL_law_1388 ?_
                                                refine r_iload h 0 rfl dL_law_1389 ?_
                                                refine r_iconst (v := 2) h dL_law_1391 (by decide) ?_
                                                refine r_iadd h dL_law_1392 ?_
                                                obtain ⟨hN, hF⟩ := o_gd hF
                                                refine r_sld h hLX hN dL_law_1393 ?_
                                                refine r_aload_n h 1 rfl rfl dL_law_1394 ?_
                                                obtain ⟨z239, e240, hF⟩ := o_bind hF
                                                refine r_callW (N0 := 7) (rest := []) h hXL [ouW D aO O, rkW D aθ (aρ 0) (aπ 0) aν (aτ 0) θ, rmW D aρ ρ, rmW D aπ π, txW D aτ τ, mdW D aμ μ, tlW D aν aS0 aS1 aS2 aS3 S0 S1 S2 S3] [0, 1, 2] [3, 4, 5, 6] hdw_mayMove wm_664 dL_law_1395 (CL_mayMove l hl0 D aθ (aπ 0) aν (aτ 0) aρ aO θ ρ (xs (i + (1 : Int32)).toNatClampNeg) (xs (i + (2 : Int32)).toNatClampNeg) O z239.1 z239.2.1 z239.2.2 e240) rfl rfl rfl (by decide) rfl ⟨rfl, rfl⟩ ⟨by decide, by decide⟩ (Nat.le_of_ble_eq_true rfl) ⟨by show _ ≤ 601024; omega, by show _ ≤ 7293034; omega⟩ rfl (fun v w' hp => ?_)
                                                obtain ⟨rfl, rfl⟩ := hp
                                                refine J.blk2 (ws' := [ouW D aO z239.2.2, rkW D aθ (aρ 0) (aπ 0) aν (aτ 0) θ, rmW D aρ z239.2.1, rmW D aπ π, txW D aτ τ, mdW D aμ μ, tlW D aν aS0 aS1 aS2 aS3 S0 S1 S2 S3].flatten) 7 (pkB [ouW D aO O, rkW D aθ (aρ 0) (aπ 0) aν (aτ 0) θ, rmW D aρ ρ, rmW D aπ π, txW D aτ τ, mdW D aμ μ, tlW D aν aS0 aS1 aS2 aS3 S0 S1 S2 S3] [3, 4, 5, 6]) ([ouW D aO z239.2.2, rkW D aθ (aρ 0) (aπ 0) aν (aτ 0) θ, rmW D aρ z239.2.1]) [4, 5, 6, 0, 1, 2, 3] rfl rfl rfl rfl (by decide) ?_
                                                refine r_istore (lv' := [(5, .int z239.1), (4, .int i), (3, .ref aO), (2, .ref (aμ 0)), (1, .ref aθ), (0, .ref b)]) h dL_law_1398 (by decide) rfl ?_
                                                refine r_aload_n h 3 rfl rfl dL_law_1400 ?_
                                                refine r_aload_n h 5 rfl rfl dL_law_1401 ?_
                                                refine r_iload h 1 rfl dL_law_1402 ?_
                                                refine r_iconst (v := 1) h dL_law_1404 (by decide) ?_
                                                refine r_iadd h dL_law_1405 ?_
                                                obtain ⟨hN, hF⟩ := o_gd hF
                                                refine r_sld h hLX hN dL_law_1406 ?_
                                                refine r_aload_n h 5 rfl rfl dL_law_1407 ?_
                                                refine r_iload h 1 rfl dL_law_1408 ?_
                                                refine r_iconst (v := 2) h dL_law_1410 (by decide) ?_
                                                refine r_iadd h dL_law_1411 ?_
                                                obtain ⟨hN, hF⟩ := o_gd hF
                                                refine r_sld h hLX hN dL_law_1412 ?_
                                                obtain ⟨z241, e242, hF⟩ := o_bind hF
                                                refine r_callVB (N0 := 7) (q0 := 0) (rest := []) h [ouW D aO z239.2.2, rkW D aθ (aρ 0) (aπ 0) aν (aτ 0) θ, rmW D aρ z239.2.1, rmW D aπ π, txW D aτ τ, mdW D aμ μ, tlW D aν aS0 aS1 aS2 aS3 S0 S1 S2 S3] [5] [0, 1, 2, 3, 4, 6] hdm_X4_mayMove wm_975 dL_law_1413 (CX4_mayMove l D aμ μ (xs (i + (1 : Int32)).toNatClampNeg) (xs (i + (2 : Int32)).toNatClampNeg) z241.1 z241.2 e242) rfl rfl rfl (by decide) rfl rfl rfl ⟨rfl, rfl⟩ ⟨by decide, by decide⟩ (Nat.le_of_ble_eq_true rfl) ⟨by show _ ≤ 601024; omega, by show _ ≤ 7293034; omega⟩ rfl (fun v w' hp => ?_)
                                                obtain ⟨rfl, rfl⟩ := hp
                                                refine J.blk2 (ws' := [ouW D aO z239.2.2, rkW D aθ (aρ 0) (aπ 0) aν (aτ 0) θ, rmW D aρ z239.2.1, rmW D aπ π, txW D aτ τ, mdW D aμ z241.2, tlW D aν aS0 aS1 aS2 aS3 S0 S1 S2 S3].flatten) 7 (pkB [ouW D aO z239.2.2, rkW D aθ (aρ 0) (aπ 0) aν (aτ 0) θ, rmW D aρ z239.2.1, rmW D aπ π, txW D aτ τ, mdW D aμ μ, tlW D aν aS0 aS1 aS2 aS3 S0 S1 S2 S3] [0, 1, 2, 3, 4, 6]) ([mdW D aμ z241.2]) [0, 1, 2, 3, 4, 6, 5] rfl rfl rfl rfl (by decide) ?_
                                                refine r_istore (lv' := [(6, .int z241.1), (5, .int z239.1), (4, .int i), (3, .ref aO), (2, .ref (aμ 0)), (1, .ref aθ), (0, .ref b)]) h dL_law_1416 (by decide) rfl ?_
                                                refine r_aload_n h 4 rfl rfl dL_law_1418 ?_
                                                obtain ⟨z243, e244, hF⟩ := o_bind hF
                                                refine r_callVB (N0 := 7) (q0 := 0) (rest := []) h [ouW D aO z239.2.2, rkW D aθ (aρ 0) (aπ 0) aν (aτ 0) θ, rmW D aρ z239.2.1, rmW D aπ π, txW D aτ τ, mdW D aμ z241.2, tlW D aν aS0 aS1 aS2 aS3 S0 S1 S2 S3] [5] [0, 1, 2, 3, 4, 6] hdm_X4_thrown wm_744 dL_law_1419 (CX4_thrown l D aμ z241.2 z243 e244) rfl rfl rfl (by decide) rfl rfl rfl ⟨rfl, rfl⟩ ⟨by decide, by decide⟩ (Nat.le_of_ble_eq_true rfl) ⟨by show _ ≤ 601024; omega, by show _ ≤ 7293034; omega⟩ rfl (fun v w' hp => ?_)
                                                obtain ⟨rfl, rfl⟩ := hp
                                                refine J.blk2 (ws' := [ouW D aO z239.2.2, rkW D aθ (aρ 0) (aπ 0) aν (aτ 0) θ, rmW D aρ z239.2.1, rmW D aπ π, txW D aτ τ, mdW D aμ z241.2, tlW D aν aS0 aS1 aS2 aS3 S0 S1 S2 S3].flatten) 7 (pkB [ouW D aO z239.2.2, rkW D aθ (aρ 0) (aπ 0) aν (aτ 0) θ, rmW D aρ z239.2.1, rmW D aπ π, txW D aτ τ, mdW D aμ z241.2, tlW D aν aS0 aS1 aS2 aS3 S0 S1 S2 S3] [0, 1, 2, 3, 4, 6]) ([mdW D aμ z241.2]) [0, 1, 2, 3, 4, 6, 5] rfl rfl rfl rfl (by decide) ?_
                                                refine r_iload h 1 rfl dL_law_1422 ?_
                                                refine r_icmp_eq h 1429 dL_law_1424 (by decide) (fun c245 => ?_) (fun c245 => ?_)
                                                · replace hF := o_pos c245 hF
                                                  refine r_iload h 1 rfl dL_law_1429 ?_
                                                  refine r_if_ne h 1446 dL_law_1431 (by decide) (fun c246 => ?_) (fun c246 => ?_)
                                                  · replace hF := o_neg c246 hF
                                                    refine r_goto h 1712 dL_law_1446 (by decide) ?_
                                                    refine r_iinc (lv' := [(4, .int (i + 5)), (6, .int z241.1), (5, .int z239.1), (3, .ref aO), (2, .ref (aμ 0)), (1, .ref aθ), (0, .ref b)]) h 2 rfl (congrArg (fun z => i + z) (by decide : Int32.ofInt 5 = 5)) dL_law_1712 (by decide) rfl ?_
                                                    refine r_goto h 23 dL_law_1715 (by decide) ?_
                                                    refine J.widen (k1 := k + 1) (n1 := n + 6) (by omega) (by omega) ?_
                                                    exact J.loc (lv' := [(4, .int (i + 5)), (3, .ref aO), (2, .ref (aμ 0)), (1, .ref aθ), (0, .ref b)]) [0, 3, 4, 5, 6] rfl (ih (k + 1) (n + 6) aρ aπ aS0 aS1 aS2 aS3 (i + 5) z239.2.2 θ z239.2.1 π τ z241.2 S0 S1 S2 S3 (by omega) (by omega) hF)
                                                  · replace hF := o_pos c246 hF
                                                    refine r_aload_n h 3 rfl rfl dL_law_1434 ?_
                                                    refine r_iconst (v := 0) h dL_law_1435 (by decide) ?_
                                                    refine r_lald h 0 rfl (show ¬ (_ ∨ _) by decide) dL_law_1436 ?_
                                                    refine r_iload h 0 rfl dL_law_1437 ?_
                                                    refine r_i2l h dL_law_1439 ?_
                                                    refine r_lcmp h dL_law_1440 ?_
                                                    refine r_if_eq h 1446 dL_law_1441 (by decide) (fun c247 => ?_) (fun c247 => ?_)
                                                    · replace hF := o_pos c247 hF
                                                      refine r_goto h 1712 dL_law_1446 (by decide) ?_
                                                      refine r_iinc (lv' := [(4, .int (i + 5)), (6, .int z241.1), (5, .int z239.1), (3, .ref aO), (2, .ref (aμ 0)), (1, .ref aθ), (0, .ref b)]) h 2 rfl (congrArg (fun z => i + z) (by decide : Int32.ofInt 5 = 5)) dL_law_1712 (by decide) rfl ?_
                                                      refine r_goto h 23 dL_law_1715 (by decide) ?_
                                                      refine J.widen (k1 := k + 1) (n1 := n + 6) (by omega) (by omega) ?_
                                                      exact J.loc (lv' := [(4, .int (i + 5)), (3, .ref aO), (2, .ref (aμ 0)), (1, .ref aθ), (0, .ref b)]) [0, 3, 4, 5, 6] rfl (ih (k + 1) (n + 6) aρ aπ aS0 aS1 aS2 aS3 (i + 5) z239.2.2 θ z239.2.1 π τ z241.2 S0 S1 S2 S3 (by omega) (by omega) hF)
                                                    · replace hF := o_neg c247 hF
                                                      refine r_iconst (v := 0) h dL_law_1444 (by decide) ?_
                                                      cases hF
                                                · replace hF := o_neg c245 hF
                                                  refine r_iconst (v := 0) h dL_law_1427 (by decide) ?_
                                                  cases hF
                                              · replace hF := o_neg c238 hF
                                                by_cases c248 : u2 = (20 : Int32)
                                                · replace hF := o_pos c248 hF
                                                  refine r_tswIn h (20 : Int32) c248 1449 dL_law_39 (by decide) (by decide) rfl (by decide) ?_
                                                  refine r_aload_n h 3 rfl rfl dL_law_1449 ?_
                                                  refine r_aload_n h 4 rfl rfl dL_law_1450 ?_
                                                  refine r_iload h 0 rfl dL_law_1451 ?_
                                                  refine r_iconst (v := 1) h dL_law_1453 (by decide) ?_
                                                  refine r_iadd h dL_law_1454 ?_
                                                  obtain ⟨hN, hF⟩ := o_gd hF
                                                  refine r_sld h hLX hN dL_law_1455 ?_
                                                  refine r_aload_n h 1 rfl rfl dL_law_1456 ?_
                                                  obtain ⟨z249, e250, hF⟩ := o_bind hF
                                                  refine r_callW (N0 := 7) (rest := []) h hXL [ouW D aO O, rkW D aθ (aρ 0) (aπ 0) aν (aτ 0) θ, rmW D aρ ρ, rmW D aπ π, txW D aτ τ, mdW D aμ μ, tlW D aν aS0 aS1 aS2 aS3 S0 S1 S2 S3] [0, 1, 2] [3, 4, 5, 6] hdw_bestRack wm_671 dL_law_1457 (CL_bestRack l hl0 D aθ (aπ 0) aν (aτ 0) aρ aO θ ρ (xs (i + (1 : Int32)).toNatClampNeg) O z249.1 z249.2.1 z249.2.2 e250) rfl rfl rfl (by decide) rfl ⟨rfl, rfl⟩ ⟨by decide, by decide⟩ (Nat.le_of_ble_eq_true rfl) ⟨by show _ ≤ 601024; omega, by show _ ≤ 7293034; omega⟩ rfl (fun v w' hp => ?_)
                                                  obtain ⟨rfl, rfl⟩ := hp
                                                  refine J.blk2 (ws' := [ouW D aO z249.2.2, rkW D aθ (aρ 0) (aπ 0) aν (aτ 0) θ, rmW D aρ z249.2.1, rmW D aπ π, txW D aτ τ, mdW D aμ μ, tlW D aν aS0 aS1 aS2 aS3 S0 S1 S2 S3].flatten) 7 (pkB [ouW D aO O, rkW D aθ (aρ 0) (aπ 0) aν (aτ 0) θ, rmW D aρ ρ, rmW D aπ π, txW D aτ τ, mdW D aμ μ, tlW D aν aS0 aS1 aS2 aS3 S0 S1 S2 S3] [3, 4, 5, 6]) ([ouW D aO z249.2.2, rkW D aθ (aρ 0) (aπ 0) aν (aτ 0) θ, rmW D aρ z249.2.1]) [4, 5, 6, 0, 1, 2, 3] rfl rfl rfl rfl (by decide) ?_
                                                  refine r_istore (lv' := [(5, .int z249.1), (4, .int i), (3, .ref aO), (2, .ref (aμ 0)), (1, .ref aθ), (0, .ref b)]) h dL_law_1460 (by decide) rfl ?_
                                                  refine r_aload_n h 3 rfl rfl dL_law_1462 ?_
                                                  refine r_aload_n h 5 rfl rfl dL_law_1463 ?_
                                                  refine r_iload h 1 rfl dL_law_1464 ?_
                                                  refine r_iconst (v := 1) h dL_law_1466 (by decide) ?_
                                                  refine r_iadd h dL_law_1467 ?_
                                                  obtain ⟨hN, hF⟩ := o_gd hF
                                                  refine r_sld h hLX hN dL_law_1468 ?_
                                                  obtain ⟨z251, e252, hF⟩ := o_bind hF
                                                  refine r_callVB (N0 := 7) (q0 := 0) (rest := []) h [ouW D aO z249.2.2, rkW D aθ (aρ 0) (aπ 0) aν (aτ 0) θ, rmW D aρ z249.2.1, rmW D aπ π, txW D aτ τ, mdW D aμ μ, tlW D aν aS0 aS1 aS2 aS3 S0 S1 S2 S3] [5] [0, 1, 2, 3, 4, 6] hdm_X4_bestRack wm_979 dL_law_1469 (CX4_bestRack l D aμ μ (xs (i + (1 : Int32)).toNatClampNeg) z251.1 z251.2 e252) rfl rfl rfl (by decide) rfl rfl rfl ⟨rfl, rfl⟩ ⟨by decide, by decide⟩ (Nat.le_of_ble_eq_true rfl) ⟨by show _ ≤ 601024; omega, by show _ ≤ 7293034; omega⟩ rfl (fun v w' hp => ?_)
                                                  obtain ⟨rfl, rfl⟩ := hp
                                                  refine J.blk2 (ws' := [ouW D aO z249.2.2, rkW D aθ (aρ 0) (aπ 0) aν (aτ 0) θ, rmW D aρ z249.2.1, rmW D aπ π, txW D aτ τ, mdW D aμ z251.2, tlW D aν aS0 aS1 aS2 aS3 S0 S1 S2 S3].flatten) 7 (pkB [ouW D aO z249.2.2, rkW D aθ (aρ 0) (aπ 0) aν (aτ 0) θ, rmW D aρ z249.2.1, rmW D aπ π, txW D aτ τ, mdW D aμ μ, tlW D aν aS0 aS1 aS2 aS3 S0 S1 S2 S3] [0, 1, 2, 3, 4, 6]) ([mdW D aμ z251.2]) [0, 1, 2, 3, 4, 6, 5] rfl rfl rfl rfl (by decide) ?_
                                                  refine r_istore (lv' := [(6, .int z251.1), (5, .int z249.1), (4, .int i), (3, .ref aO), (2, .ref (aμ 0)), (1, .ref aθ), (0, .ref b)]) h dL_law_1472 (by decide) rfl ?_
                                                  refine r_aload_n h 4 rfl rfl dL_law_1474 ?_
                                                  obtain ⟨z253, e254, hF⟩ := o_bind hF
                                                  refine r_callVB (N0 := 7) (q0 := 0) (rest := []) h [ouW D aO z249.2.2, rkW D aθ (aρ 0) (aπ 0) aν (aτ 0) θ, rmW D aρ z249.2.1, rmW D aπ π, txW D aτ τ, mdW D aμ z251.2, tlW D aν aS0 aS1 aS2 aS3 S0 S1 S2 S3] [5] [0, 1, 2, 3, 4, 6] hdm_X4_thrown wm_744 dL_law_1475 (CX4_thrown l D aμ z251.2 z253 e254) rfl rfl rfl (by decide) rfl rfl rfl ⟨rfl, rfl⟩ ⟨by decide, by decide⟩ (Nat.le_of_ble_eq_true rfl) ⟨by show _ ≤ 601024; omega, by show _ ≤ 7293034; omega⟩ rfl (fun v w' hp => ?_)
                                                  obtain ⟨rfl, rfl⟩ := hp
                                                  refine J.blk2 (ws' := [ouW D aO z249.2.2, rkW D aθ (aρ 0) (aπ 0) aν (aτ 0) θ, rmW D aρ z249.2.1, rmW D aπ π, txW D aτ τ, mdW D aμ z251.2, tlW D aν aS0 aS1 aS2 aS3 S0 S1 S2 S3].flatten) 7 (pkB [ouW D aO z249.2.2, rkW D aθ (aρ 0) (aπ 0) aν (aτ 0) θ, rmW D aρ z249.2.1, rmW D aπ π, txW D aτ τ, mdW D aμ z251.2, tlW D aν aS0 aS1 aS2 aS3 S0 S1 S2 S3] [0, 1, 2, 3, 4, 6]) ([mdW D aμ z251.2]) [0, 1, 2, 3, 4, 6, 5] rfl rfl rfl rfl (by decide) ?_
                                                  refine r_iload h 1 rfl dL_law_1478 ?_
                                                  refine r_icmp_eq h 1485 dL_law_1480 (by decide) (fun c255 => ?_) (fun c255 => ?_)
                                                  · replace hF := o_pos c255 hF
                                                    refine r_iload h 1 rfl dL_law_1485 ?_
                                                    refine r_if_ne h 1502 dL_law_1487 (by decide) (fun c256 => ?_) (fun c256 => ?_)
                                                    · replace hF := o_neg c256 hF
                                                      refine r_goto h 1712 dL_law_1502 (by decide) ?_
                                                      refine r_iinc (lv' := [(4, .int (i + 5)), (6, .int z251.1), (5, .int z249.1), (3, .ref aO), (2, .ref (aμ 0)), (1, .ref aθ), (0, .ref b)]) h 2 rfl (congrArg (fun z => i + z) (by decide : Int32.ofInt 5 = 5)) dL_law_1712 (by decide) rfl ?_
                                                      refine r_goto h 23 dL_law_1715 (by decide) ?_
                                                      refine J.widen (k1 := k + 1) (n1 := n + 6) (by omega) (by omega) ?_
                                                      exact J.loc (lv' := [(4, .int (i + 5)), (3, .ref aO), (2, .ref (aμ 0)), (1, .ref aθ), (0, .ref b)]) [0, 3, 4, 5, 6] rfl (ih (k + 1) (n + 6) aρ aπ aS0 aS1 aS2 aS3 (i + 5) z249.2.2 θ z249.2.1 π τ z251.2 S0 S1 S2 S3 (by omega) (by omega) hF)
                                                    · replace hF := o_pos c256 hF
                                                      refine r_aload_n h 3 rfl rfl dL_law_1490 ?_
                                                      refine r_iconst (v := 0) h dL_law_1491 (by decide) ?_
                                                      refine r_lald h 0 rfl (show ¬ (_ ∨ _) by decide) dL_law_1492 ?_
                                                      refine r_iload h 0 rfl dL_law_1493 ?_
                                                      refine r_i2l h dL_law_1495 ?_
                                                      refine r_lcmp h dL_law_1496 ?_
                                                      refine r_if_eq h 1502 dL_law_1497 (by decide) (fun c257 => ?_) (fun c257 => ?_)
                                                      · replace hF := o_pos c257 hF
                                                        refine r_goto h 1712 dL_law_1502 (by decide) ?_
                                                        refine r_iinc (lv' := [(4, .int (i + 5)), (6, .int z251.1), (5, .int z249.1), (3, .ref aO), (2, .ref (aμ 0)), (1, .ref aθ), (0, .ref b)]) h 2 rfl (congrArg (fun z => i + z) (by decide : Int32.ofInt 5 = 5)) dL_law_1712 (by decide) rfl ?_
                                                        refine r_goto h 23 dL_law_1715 (by decide) ?_
                                                        refine J.widen (k1 := k + 1) (n1 := n + 6) (by omega) (by omega) ?_
                                                        exact J.loc (lv' := [(4, .int (i + 5)), (3, .ref aO), (2, .ref (aμ 0)), (1, .ref aθ), (0, .ref b)]) [0, 3, 4, 5, 6] rfl (ih (k + 1) (n + 6) aρ aπ aS0 aS1 aS2 aS3 (i + 5) z249.2.2 θ z249.2.1 π τ z251.2 S0 S1 S2 S3 (by omega) (by omega) hF)
                                                      · replace hF := o_neg c257 hF
                                                        refine r_iconst (v := 0) h dL_law_1500 (by decide) ?_
                                                        cases hF
                                                  · replace hF := o_neg c255 hF
                                                    refine r_iconst (v := 0) h dL_law_1483 (by decide) ?_
                                                    cases hF
                                                · replace hF := o_neg c248 hF
                                                  by_cases c258 : u2 = (21 : Int32)
                                                  · replace hF := o_pos c258 hF
                                                    refine r_tswIn h (21 : Int32) c258 1505 dL_law_39 (by decide) (by decide) rfl (by decide) ?_
                                                    refine r_aload_n h 3 rfl rfl dL_law_1505 ?_
                                                    obtain ⟨z259, e260, hF⟩ := o_bind hF
                                                    refine r_callVB (N0 := 7) (q0 := 0) (rest := []) h [ouW D aO O, rkW D aθ (aρ 0) (aπ 0) aν (aτ 0) θ, rmW D aρ ρ, rmW D aπ π, txW D aτ τ, mdW D aμ μ, tlW D aν aS0 aS1 aS2 aS3 S0 S1 S2 S3] [1, 2] [0, 3, 4, 5, 6] hdm_X3_bestChange wm_237 dL_law_1506 (CX3_bestChange l D aθ (aπ 0) aν (aτ 0) aρ θ ρ z259.1 z259.2 e260) rfl rfl rfl (by decide) rfl rfl rfl ⟨rfl, rfl⟩ ⟨by decide, by decide⟩ (Nat.le_of_ble_eq_true rfl) ⟨by show _ ≤ 601024; omega, by show _ ≤ 7293034; omega⟩ rfl (fun v w' hp => ?_)
                                                    obtain ⟨rfl, rfl⟩ := hp
                                                    refine J.blk2 (ws' := [ouW D aO O, rkW D aθ (aρ 0) (aπ 0) aν (aτ 0) θ, rmW D aρ z259.2, rmW D aπ π, txW D aτ τ, mdW D aμ μ, tlW D aν aS0 aS1 aS2 aS3 S0 S1 S2 S3].flatten) 7 (pkB [ouW D aO O, rkW D aθ (aρ 0) (aπ 0) aν (aτ 0) θ, rmW D aρ ρ, rmW D aπ π, txW D aτ τ, mdW D aμ μ, tlW D aν aS0 aS1 aS2 aS3 S0 S1 S2 S3] [0, 3, 4, 5, 6]) ([rkW D aθ (aρ 0) (aπ 0) aν (aτ 0) θ, rmW D aρ z259.2]) [0, 5, 6, 1, 2, 3, 4] rfl rfl rfl rfl (by decide) ?_
                                                    refine r_aload_n h 2 rfl rfl dL_law_1509 ?_
                                                    obtain ⟨z261, e262, hF⟩ := o_bind hF
                                                    refine r_callVB (N0 := 7) (q0 := 0) (rest := [.int z259.1]) h [ouW D aO O, rkW D aθ (aρ 0) (aπ 0) aν (aτ 0) θ, rmW D aρ z259.2, rmW D aπ π, txW D aτ τ, mdW D aμ μ, tlW D aν aS0 aS1 aS2 aS3 S0 S1 S2 S3] [5] [0, 1, 2, 3, 4, 6] hdm_X4_bestChange wm_987 dL_law_1510 (CX4_bestChange l D aμ μ z261.1 z261.2 e262) rfl rfl rfl (by decide) rfl rfl rfl ⟨rfl, rfl⟩ ⟨by decide, by decide⟩ (Nat.le_of_ble_eq_true rfl) ⟨by show _ ≤ 601024; omega, by show _ ≤ 7293034; omega⟩ rfl (fun v w' hp => ?_)
                                                    obtain ⟨rfl, rfl⟩ := hp
                                                    refine J.blk2 (ws' := [ouW D aO O, rkW D aθ (aρ 0) (aπ 0) aν (aτ 0) θ, rmW D aρ z259.2, rmW D aπ π, txW D aτ τ, mdW D aμ z261.2, tlW D aν aS0 aS1 aS2 aS3 S0 S1 S2 S3].flatten) 7 (pkB [ouW D aO O, rkW D aθ (aρ 0) (aπ 0) aν (aτ 0) θ, rmW D aρ z259.2, rmW D aπ π, txW D aτ τ, mdW D aμ μ, tlW D aν aS0 aS1 aS2 aS3 S0 S1 S2 S3] [0, 1, 2, 3, 4, 6]) ([mdW D aμ z261.2]) [0, 1, 2, 3, 4, 6, 5] rfl rfl rfl rfl (by decide) ?_
                                                    refine r_icmp_eq h 1712 dL_law_1513 (by decide) (fun c263 => ?_) (fun c263 => ?_)
                                                    · replace hF := o_pos c263 hF
                                                      refine r_iinc (lv' := [(4, .int (i + 5)), (3, .ref aO), (2, .ref (aμ 0)), (1, .ref aθ), (0, .ref b)]) h 0 rfl (congrArg (fun z => i + z) (by decide : Int32.ofInt 5 = 5)) dL_law_1712 (by decide) rfl ?_
                                                      refine r_goto h 23 dL_law_1715 (by decide) ?_
                                                      refine J.widen (k1 := k + 1) (n1 := n + 6) (by omega) (by omega) ?_
                                                      exact J.loc (lv' := [(4, .int (i + 5)), (3, .ref aO), (2, .ref (aμ 0)), (1, .ref aθ), (0, .ref b)]) [0, 1, 2, 3, 4] rfl (ih (k + 1) (n + 6) aρ aπ aS0 aS1 aS2 aS3 (i + 5) O θ z259.2 π τ z261.2 S0 S1 S2 S3 (by omega) (by omega) hF)
                                                    · replace hF := o_neg c263 hF
                                                      refine r_iconst (v := 0) h dL_law_1516 (by decide) ?_
                                                      cases hF
                                                  · replace hF := o_neg c258 hF
                                                    by_cases c264 : u2 = (22 : Int32)
                                                    · replace hF := o_pos c264 hF
                                                      refine r_tswIn h (22 : Int32) c264 1518 dL_law_39 (by decide) (by decide) rfl (by decide) ?_
                                                      refine r_aload_n h 3 rfl rfl dL_law_1518 ?_
                                                      obtain ⟨z265, e266, hF⟩ := o_bind hF
                                                      refine r_callVB (N0 := 7) (q0 := 0) (rest := []) h [ouW D aO O, rkW D aθ (aρ 0) (aπ 0) aν (aτ 0) θ, rmW D aρ ρ, rmW D aπ π, txW D aτ τ, mdW D aμ μ, tlW D aν aS0 aS1 aS2 aS3 S0 S1 S2 S3] [1, 2, 3] [0, 4, 5, 6] hdm_X3_backable wm_250 dL_law_1519 (CX3_backable l D aθ aν (aτ 0) aρ aπ θ ρ π z265.1 z265.2 e266) rfl rfl rfl (by decide) rfl rfl rfl ⟨rfl, rfl⟩ ⟨by decide, by decide⟩ (Nat.le_of_ble_eq_true rfl) ⟨by show _ ≤ 601024; omega, by show _ ≤ 7293034; omega⟩ rfl (fun v w' hp => ?_)
                                                      obtain ⟨rfl, rfl⟩ := hp
                                                      refine J.blk2 (ws' := [ouW D aO O, rkW D aθ (aρ 0) (aπ 0) aν (aτ 0) θ, rmW D aρ ρ, rmW D aπ z265.2, txW D aτ τ, mdW D aμ μ, tlW D aν aS0 aS1 aS2 aS3 S0 S1 S2 S3].flatten) 7 (pkB [ouW D aO O, rkW D aθ (aρ 0) (aπ 0) aν (aτ 0) θ, rmW D aρ ρ, rmW D aπ π, txW D aτ τ, mdW D aμ μ, tlW D aν aS0 aS1 aS2 aS3 S0 S1 S2 S3] [0, 4, 5, 6]) ([rkW D aθ (aρ 0) (aπ 0) aν (aτ 0) θ, rmW D aρ ρ, rmW D aπ z265.2]) [0, 4, 5, 6, 1, 2, 3] rfl rfl rfl rfl (by decide) ?_
                                                      refine r_aload_n h 2 rfl rfl dL_law_1522 ?_
                                                      obtain ⟨z267, e268, hF⟩ := o_bind hF
                                                      refine r_callVB (N0 := 7) (q0 := 0) (rest := [.int z265.1]) h [ouW D aO O, rkW D aθ (aρ 0) (aπ 0) aν (aτ 0) θ, rmW D aρ ρ, rmW D aπ z265.2, txW D aτ τ, mdW D aμ μ, tlW D aν aS0 aS1 aS2 aS3 S0 S1 S2 S3] [5] [0, 1, 2, 3, 4, 6] hdm_X4_backable wm_991 dL_law_1523 (CX4_backable l D aμ μ z267.1 z267.2 e268) rfl rfl rfl (by decide) rfl rfl rfl ⟨rfl, rfl⟩ ⟨by decide, by decide⟩ (Nat.le_of_ble_eq_true rfl) ⟨by show _ ≤ 601024; omega, by show _ ≤ 7293034; omega⟩ rfl (fun v w' hp => ?_)
                                                      obtain ⟨rfl, rfl⟩ := hp
                                                      refine J.blk2 (ws' := [ouW D aO O, rkW D aθ (aρ 0) (aπ 0) aν (aτ 0) θ, rmW D aρ ρ, rmW D aπ z265.2, txW D aτ τ, mdW D aμ z267.2, tlW D aν aS0 aS1 aS2 aS3 S0 S1 S2 S3].flatten) 7 (pkB [ouW D aO O, rkW D aθ (aρ 0) (aπ 0) aν (aτ 0) θ, rmW D aρ ρ, rmW D aπ z265.2, txW D aτ τ, mdW D aμ μ, tlW D aν aS0 aS1 aS2 aS3 S0 S1 S2 S3] [0, 1, 2, 3, 4, 6]) ([mdW D aμ z267.2]) [0, 1, 2, 3, 4, 6, 5] rfl rfl rfl rfl (by decide) ?_
                                                      refine r_icmp_eq h 1712 dL_law_1526 (by decide) (fun c269 => ?_) (fun c269 => ?_)
                                                      · replace hF := o_pos c269 hF
                                                        refine r_iinc (lv' := [(4, .int (i + 5)), (3, .ref aO), (2, .ref (aμ 0)), (1, .ref aθ), (0, .ref b)]) h 0 rfl (congrArg (fun z => i + z) (by decide : Int32.ofInt 5 = 5)) dL_law_1712 (by decide) rfl ?_
                                                        refine r_goto h 23 dL_law_1715 (by decide) ?_
                                                        refine J.widen (k1 := k + 1) (n1 := n + 6) (by omega) (by omega) ?_
                                                        exact J.loc (lv' := [(4, .int (i + 5)), (3, .ref aO), (2, .ref (aμ 0)), (1, .ref aθ), (0, .ref b)]) [0, 1, 2, 3, 4] rfl (ih (k + 1) (n + 6) aρ aπ aS0 aS1 aS2 aS3 (i + 5) O θ ρ z265.2 τ z267.2 S0 S1 S2 S3 (by omega) (by omega) hF)
                                                      · replace hF := o_neg c269 hF
                                                        refine r_iconst (v := 0) h dL_law_1529 (by decide) ?_
                                                        cases hF
                                                    · replace hF := o_neg c264 hF
                                                      by_cases c270 : u2 = (23 : Int32)
                                                      · replace hF := o_pos c270 hF
                                                        refine r_tswIn h (23 : Int32) c270 1531 dL_law_39 (by decide) (by decide) rfl (by decide) ?_
                                                        refine r_aload_n h 3 rfl rfl dL_law_1531 ?_
                                                        obtain ⟨z271, e272, hF⟩ := o_bind hF
                                                        refine r_callVB (N0 := 7) (q0 := 0) (rest := []) h [ouW D aO O, rkW D aθ (aρ 0) (aπ 0) aν (aτ 0) θ, rmW D aρ ρ, rmW D aπ π, txW D aτ τ, mdW D aμ μ, tlW D aν aS0 aS1 aS2 aS3 S0 S1 S2 S3] [1, 2] [0, 3, 4, 5, 6] hdm_X3_taken wm_254 dL_law_1532 (CX3_taken l D aθ (aπ 0) aν (aτ 0) aρ θ ρ z271 e272) rfl rfl rfl (by decide) rfl rfl rfl ⟨rfl, rfl⟩ ⟨by decide, by decide⟩ (Nat.le_of_ble_eq_true rfl) ⟨by show _ ≤ 601024; omega, by show _ ≤ 7293034; omega⟩ rfl (fun v w' hp => ?_)
                                                        obtain ⟨rfl, rfl⟩ := hp
                                                        refine J.blk2 (ws' := [ouW D aO O, rkW D aθ (aρ 0) (aπ 0) aν (aτ 0) θ, rmW D aρ ρ, rmW D aπ π, txW D aτ τ, mdW D aμ μ, tlW D aν aS0 aS1 aS2 aS3 S0 S1 S2 S3].flatten) 7 (pkB [ouW D aO O, rkW D aθ (aρ 0) (aπ 0) aν (aτ 0) θ, rmW D aρ ρ, rmW D aπ π, txW D aτ τ, mdW D aμ μ, tlW D aν aS0 aS1 aS2 aS3 S0 S1 S2 S3] [0, 3, 4, 5, 6]) ([rkW D aθ (aρ 0) (aπ 0) aν (aτ 0) θ, rmW D aρ ρ]) [0, 5, 6, 1, 2, 3, 4] rfl rfl rfl rfl (by decide) ?_
                                                        refine r_dstore (lv' := [(5, .double z271), (4, .int i), (3, .ref aO), (2, .ref (aμ 0)), (1, .ref aθ), (0, .ref b)]) h dL_law_1535 (by decide) rfl ?_
                                                        refine r_aload_n h 3 rfl rfl dL_law_1537 ?_
                                                        obtain ⟨z273, e274, hF⟩ := o_bind hF
                                                        refine r_callVB (N0 := 7) (q0 := 0) (rest := []) h [ouW D aO O, rkW D aθ (aρ 0) (aπ 0) aν (aτ 0) θ, rmW D aρ ρ, rmW D aπ π, txW D aτ τ, mdW D aμ μ, tlW D aν aS0 aS1 aS2 aS3 S0 S1 S2 S3] [5] [0, 1, 2, 3, 4, 6] hdm_X4_taken wm_995 dL_law_1538 (CX4_taken l D aμ μ z273.1 z273.2 e274) rfl rfl rfl (by decide) rfl rfl rfl ⟨rfl, rfl⟩ ⟨by decide, by decide⟩ (Nat.le_of_ble_eq_true rfl) ⟨by show _ ≤ 601024; omega, by show _ ≤ 7293034; omega⟩ rfl (fun v w' hp => ?_)
                                                        obtain ⟨rfl, rfl⟩ := hp
                                                        refine J.blk2 (ws' := [ouW D aO O, rkW D aθ (aρ 0) (aπ 0) aν (aτ 0) θ, rmW D aρ ρ, rmW D aπ π, txW D aτ τ, mdW D aμ z273.2, tlW D aν aS0 aS1 aS2 aS3 S0 S1 S2 S3].flatten) 7 (pkB [ouW D aO O, rkW D aθ (aρ 0) (aπ 0) aν (aτ 0) θ, rmW D aρ ρ, rmW D aπ π, txW D aτ τ, mdW D aμ μ, tlW D aν aS0 aS1 aS2 aS3 S0 S1 S2 S3] [0, 1, 2, 3, 4, 6]) ([mdW D aμ z273.2]) [0, 1, 2, 3, 4, 6, 5] rfl rfl rfl rfl (by decide) ?_
                                                        refine r_dstore (lv' := [(7, .double z273.1), (5, .double z271), (4, .int i), (3, .ref aO), (2, .ref (aμ 0)), (1, .ref aθ), (0, .ref b)]) h dL_law_1541 (by decide) rfl ?_
                                                        refine r_dload h 1 rfl dL_law_1543 ?_
                                                        refine r_dload h 0 rfl dL_law_1545 ?_
                                                        refine r_dcmp h dL_law_1547 ?_
                                                        refine r_if_eq h 1569 dL_law_1548 (by decide) (fun c275 => ?_) (fun c275 => ?_)
                                                        · replace hF := o_pos c275 hF
                                                          refine r_goto h 1712 dL_law_1569 (by decide) ?_
                                                          refine r_iinc (lv' := [(4, .int (i + 5)), (7, .double z273.1), (5, .double z271), (3, .ref aO), (2, .ref (aμ 0)), (1, .ref aθ), (0, .ref b)]) h 2 rfl (congrArg (fun z => i + z) (by decide : Int32.ofInt 5 = 5)) dL_law_1712 (by decide) rfl ?_
                                                          refine r_goto h 23 dL_law_1715 (by decide) ?_
                                                          refine J.widen (k1 := k + 1) (n1 := n + 6) (by omega) (by omega) ?_
                                                          exact J.loc (lv' := [(4, .int (i + 5)), (3, .ref aO), (2, .ref (aμ 0)), (1, .ref aθ), (0, .ref b)]) [0, 3, 4, 5, 6] rfl (ih (k + 1) (n + 6) aρ aπ aS0 aS1 aS2 aS3 (i + 5) O θ ρ π τ z273.2 S0 S1 S2 S3 (by omega) (by omega) hF)
                                                        · replace hF := o_neg c275 hF
                                                          refine r_dload h 1 rfl dL_law_1551 ?_
                                                          refine r_dload h 1 rfl dL_law_1553 ?_
                                                          refine r_dcmp h dL_law_1555 ?_
                                                          refine r_if_eq h 1567 dL_law_1556 (by decide) (fun c276 => ?_) (fun c276 => ?_)
                                                          · replace hF := o_pos c276 hF
                                                            refine r_iconst (v := 0) h dL_law_1567 (by decide) ?_
                                                            cases hF
                                                          · replace hF := o_neg c276 hF
                                                            refine r_dload h 0 rfl dL_law_1559 ?_
                                                            refine r_dload h 0 rfl dL_law_1561 ?_
                                                            refine r_dcmp h dL_law_1563 ?_
                                                            refine r_if_ne h 1569 dL_law_1564 (by decide) (fun c277 => ?_) (fun c277 => ?_)
                                                            · replace hF := o_neg c277 hF
                                                              refine r_goto h 1712 dL_law_1569 (by decide) ?_
                                                              refine r_iinc (lv' := [(4, .int (i + 5)), (7, .double z273.1), (5, .double z271), (3, .ref aO), (2, .ref (aμ 0)), (1, .ref aθ), (0, .ref b)]) h 2 rfl (congrArg (fun z => i + z) (by decide : Int32.ofInt 5 = 5)) dL_law_1712 (by decide) rfl ?_
                                                              refine r_goto h 23 dL_law_1715 (by decide) ?_
                                                              refine J.widen (k1 := k + 1) (n1 := n + 6) (by omega) (by omega) ?_
                                                              exact J.loc (lv' := [(4, .int (i + 5)), (3, .ref aO), (2, .ref (aμ 0)), (1, .ref aθ), (0, .ref b)]) [0, 3, 4, 5, 6] rfl (ih (k + 1) (n + 6) aρ aπ aS0 aS1 aS2 aS3 (i + 5) O θ ρ π τ z273.2 S0 S1 S2 S3 (by omega) (by omega) hF)
                                                            · replace hF := o_pos c277 hF
                                                              refine r_iconst (v := 0) h dL_law_1567 (by decide) ?_
                                                              cases hF
                                                      · replace hF := o_neg c270 hF
                                                        by_cases c278 : u2 = (24 : Int32)
                                                        · replace hF := o_pos c278 hF
                                                          refine r_tswIn h (24 : Int32) c278 1572 dL_law_39 (by decide) (by decide) rfl (by decide) ?_
                                                          refine r_aload_n h 3 rfl rfl dL_law_1572 ?_
                                                          refine r_aload_n h 4 rfl rfl dL_law_1573 ?_
                                                          refine r_iload h 0 rfl dL_law_1574 ?_
                                                          refine r_iconst (v := 1) h dL_law_1576 (by decide) ?_
                                                          refine r_iadd h dL_law_1577 ?_
                                                          obtain ⟨hN, hF⟩ := o_gd hF
                                                          refine r_sld h hLX hN dL_law_1578 ?_
                                                          refine r_aload_n h 1 rfl rfl dL_law_1579 ?_
                                                          obtain ⟨z279, e280, hF⟩ := o_bind hF
                                                          refine r_callW (N0 := 7) (rest := []) h hXL [ouW D aO O, rkW D aθ (aρ 0) (aπ 0) aν (aτ 0) θ, rmW D aρ ρ, rmW D aπ π, txW D aτ τ, mdW D aμ μ, tlW D aν aS0 aS1 aS2 aS3 S0 S1 S2 S3] [0, 1, 4] [2, 3, 5, 6] hdw_append wm_682 dL_law_1580 (CL_append l hl0 D aθ (aρ 0) (aπ 0) aν aτ aO θ τ (xs (i + (1 : Int32)).toNatClampNeg) O z279.1 z279.2.1 z279.2.2 e280) rfl rfl rfl (by decide) rfl ⟨rfl, rfl⟩ ⟨by decide, by decide⟩ (Nat.le_of_ble_eq_true rfl) ⟨by show _ ≤ 601024; omega, by show _ ≤ 7293034; omega⟩ rfl (fun v w' hp => ?_)
                                                          obtain ⟨rfl, rfl⟩ := hp
                                                          refine J.blk2 (ws' := [ouW D aO z279.2.2, rkW D aθ (aρ 0) (aπ 0) aν (aτ 0) θ, rmW D aρ ρ, rmW D aπ π, txW D aτ z279.2.1, mdW D aμ μ, tlW D aν aS0 aS1 aS2 aS3 S0 S1 S2 S3].flatten) 7 (pkB [ouW D aO O, rkW D aθ (aρ 0) (aπ 0) aν (aτ 0) θ, rmW D aρ ρ, rmW D aπ π, txW D aτ τ, mdW D aμ μ, tlW D aν aS0 aS1 aS2 aS3 S0 S1 S2 S3] [2, 3, 5, 6]) ([ouW D aO z279.2.2, rkW D aθ (aρ 0) (aπ 0) aν (aτ 0) θ, txW D aτ z279.2.1]) [4, 5, 0, 1, 6, 2, 3] rfl rfl rfl rfl (by decide) ?_
                                                          refine r_istore (lv' := [(5, .int z279.1), (4, .int i), (3, .ref aO), (2, .ref (aμ 0)), (1, .ref aθ), (0, .ref b)]) h dL_law_1583 (by decide) rfl ?_
                                                          refine r_aload_n h 3 rfl rfl dL_law_1585 ?_
                                                          refine r_aload_n h 5 rfl rfl dL_law_1586 ?_
                                                          refine r_iload h 1 rfl dL_law_1587 ?_
                                                          refine r_iconst (v := 1) h dL_law_1589 (by decide) ?_
                                                          refine r_iadd h dL_law_1590 ?_
                                                          obtain ⟨hN, hF⟩ := o_gd hF
                                                          refine r_sld h hLX hN dL_law_1591 ?_
                                                          obtain ⟨z281, e282, hF⟩ := o_bind hF
                                                          refine r_callVB (N0 := 7) (q0 := 0) (rest := []) h [ouW D aO z279.2.2, rkW D aθ (aρ 0) (aπ 0) aν (aτ 0) θ, rmW D aρ ρ, rmW D aπ π, txW D aτ z279.2.1, mdW D aμ μ, tlW D aν aS0 aS1 aS2 aS3 S0 S1 S2 S3] [5] [0, 1, 2, 3, 4, 6] hdm_X4_append wm_1000 dL_law_1592 (CX4_append l D aμ μ (xs (i + (1 : Int32)).toNatClampNeg) z281.1 z281.2 e282) rfl rfl rfl (by decide) rfl rfl rfl ⟨rfl, rfl⟩ ⟨by decide, by decide⟩ (Nat.le_of_ble_eq_true rfl) ⟨by show _ ≤ 601024; omega, by show _ ≤ 7293034; omega⟩ rfl (fun v w' hp => ?_)
                                                          obtain ⟨rfl, rfl⟩ := hp
                                                          refine J.blk2 (ws' := [ouW D aO z279.2.2, rkW D aθ (aρ 0) (aπ 0) aν (aτ 0) θ, rmW D aρ ρ, rmW D aπ π, txW D aτ z279.2.1, mdW D aμ z281.2, tlW D aν aS0 aS1 aS2 aS3 S0 S1 S2 S3].flatten) 7 (pkB [ouW D aO z279.2.2, rkW D aθ (aρ 0) (aπ 0) aν (aτ 0) θ, rmW D aρ ρ, rmW D aπ π, txW D aτ z279.2.1, mdW D aμ μ, tlW D aν aS0 aS1 aS2 aS3 S0 S1 S2 S3] [0, 1, 2, 3, 4, 6]) ([mdW D aμ z281.2]) [0, 1, 2, 3, 4, 6, 5] rfl rfl rfl rfl (by decide) ?_
                                                          refine r_istore (lv' := [(6, .int z281.1), (5, .int z279.1), (4, .int i), (3, .ref aO), (2, .ref (aμ 0)), (1, .ref aθ), (0, .ref b)]) h dL_law_1595 (by decide) rfl ?_
                                                          refine r_aload_n h 4 rfl rfl dL_law_1597 ?_
                                                          obtain ⟨z283, e284, hF⟩ := o_bind hF
                                                          refine r_callVB (N0 := 7) (q0 := 0) (rest := []) h [ouW D aO z279.2.2, rkW D aθ (aρ 0) (aπ 0) aν (aτ 0) θ, rmW D aρ ρ, rmW D aπ π, txW D aτ z279.2.1, mdW D aμ z281.2, tlW D aν aS0 aS1 aS2 aS3 S0 S1 S2 S3] [5] [0, 1, 2, 3, 4, 6] hdm_X4_thrown wm_744 dL_law_1598 (CX4_thrown l D aμ z281.2 z283 e284) rfl rfl rfl (by decide) rfl rfl rfl ⟨rfl, rfl⟩ ⟨by decide, by decide⟩ (Nat.le_of_ble_eq_true rfl) ⟨by show _ ≤ 601024; omega, by show _ ≤ 7293034; omega⟩ rfl (fun v w' hp => ?_)
                                                          obtain ⟨rfl, rfl⟩ := hp
                                                          refine J.blk2 (ws' := [ouW D aO z279.2.2, rkW D aθ (aρ 0) (aπ 0) aν (aτ 0) θ, rmW D aρ ρ, rmW D aπ π, txW D aτ z279.2.1, mdW D aμ z281.2, tlW D aν aS0 aS1 aS2 aS3 S0 S1 S2 S3].flatten) 7 (pkB [ouW D aO z279.2.2, rkW D aθ (aρ 0) (aπ 0) aν (aτ 0) θ, rmW D aρ ρ, rmW D aπ π, txW D aτ z279.2.1, mdW D aμ z281.2, tlW D aν aS0 aS1 aS2 aS3 S0 S1 S2 S3] [0, 1, 2, 3, 4, 6]) ([mdW D aμ z281.2]) [0, 1, 2, 3, 4, 6, 5] rfl rfl rfl rfl (by decide) ?_
                                                          refine r_iload h 1 rfl dL_law_1601 ?_
                                                          refine r_icmp_eq h 1608 dL_law_1603 (by decide) (fun c285 => ?_) (fun c285 => ?_)
                                                          · replace hF := o_pos c285 hF
                                                            refine r_iload h 1 rfl dL_law_1608 ?_
                                                            refine r_if_ne h 1625 dL_law_1610 (by decide) (fun c286 => ?_) (fun c286 => ?_)
                                                            · replace hF := o_neg c286 hF
                                                              refine r_goto h 1712 dL_law_1625 (by decide) ?_
                                                              refine r_iinc (lv' := [(4, .int (i + 5)), (6, .int z281.1), (5, .int z279.1), (3, .ref aO), (2, .ref (aμ 0)), (1, .ref aθ), (0, .ref b)]) h 2 rfl (congrArg (fun z => i + z) (by decide : Int32.ofInt 5 = 5)) dL_law_1712 (by decide) rfl ?_
                                                              refine r_goto h 23 dL_law_1715 (by decide) ?_
                                                              refine J.widen (k1 := k + 1) (n1 := n + 6) (by omega) (by omega) ?_
                                                              exact J.loc (lv' := [(4, .int (i + 5)), (3, .ref aO), (2, .ref (aμ 0)), (1, .ref aθ), (0, .ref b)]) [0, 3, 4, 5, 6] rfl (ih (k + 1) (n + 6) aρ aπ aS0 aS1 aS2 aS3 (i + 5) z279.2.2 θ ρ π z279.2.1 z281.2 S0 S1 S2 S3 (by omega) (by omega) hF)
                                                            · replace hF := o_pos c286 hF
                                                              refine r_aload_n h 3 rfl rfl dL_law_1613 ?_
                                                              refine r_iconst (v := 0) h dL_law_1614 (by decide) ?_
                                                              refine r_lald h 0 rfl (show ¬ (_ ∨ _) by decide) dL_law_1615 ?_
                                                              refine r_iload h 0 rfl dL_law_1616 ?_
                                                              refine r_i2l h dL_law_1618 ?_
                                                              refine r_lcmp h dL_law_1619 ?_
                                                              refine r_if_eq h 1625 dL_law_1620 (by decide) (fun c287 => ?_) (fun c287 => ?_)
                                                              · replace hF := o_pos c287 hF
                                                                refine r_goto h 1712 dL_law_1625 (by decide) ?_
                                                                refine r_iinc (lv' := [(4, .int (i + 5)), (6, .int z281.1), (5, .int z279.1), (3, .ref aO), (2, .ref (aμ 0)), (1, .ref aθ), (0, .ref b)]) h 2 rfl (congrArg (fun z => i + z) (by decide : Int32.ofInt 5 = 5)) dL_law_1712 (by decide) rfl ?_
                                                                refine r_goto h 23 dL_law_1715 (by decide) ?_
                                                                refine J.widen (k1 := k + 1) (n1 := n + 6) (by omega) (by omega) ?_
                                                                exact J.loc (lv' := [(4, .int (i + 5)), (3, .ref aO), (2, .ref (aμ 0)), (1, .ref aθ), (0, .ref b)]) [0, 3, 4, 5, 6] rfl (ih (k + 1) (n + 6) aρ aπ aS0 aS1 aS2 aS3 (i + 5) z279.2.2 θ ρ π z279.2.1 z281.2 S0 S1 S2 S3 (by omega) (by omega) hF)
                                                              · replace hF := o_neg c287 hF
                                                                refine r_iconst (v := 0) h dL_law_1623 (by decide) ?_
                                                                cases hF
                                                          · replace hF := o_neg c285 hF
                                                            refine r_iconst (v := 0) h dL_law_1606 (by decide) ?_
                                                            cases hF
                                                        · replace hF := o_neg c278 hF
                                                          by_cases c288 : u2 = (25 : Int32)
                                                          · replace hF := o_pos c288 hF
                                                            refine r_tswIn h (25 : Int32) c288 1628 dL_law_39 (by decide) (by decide) rfl (by decide) ?_
                                                            refine r_aload_n h 3 rfl rfl dL_law_1628 ?_
                                                            obtain ⟨z289, e290, hF⟩ := o_bind hF
                                                            refine r_callVB (N0 := 7) (q0 := 0) (rest := []) h [ouW D aO O, rkW D aθ (aρ 0) (aπ 0) aν (aτ 0) θ, rmW D aρ ρ, rmW D aπ π, txW D aτ τ, mdW D aμ μ, tlW D aν aS0 aS1 aS2 aS3 S0 S1 S2 S3] [1, 4] [0, 2, 3, 5, 6] hdm_X3_clearText wm_263 dL_law_1629 (CX3_clearText l D aθ (aρ 0) (aπ 0) aν aτ θ τ z289.1 z289.2 e290) rfl rfl rfl (by decide) rfl rfl rfl ⟨rfl, rfl⟩ ⟨by decide, by decide⟩ (Nat.le_of_ble_eq_true rfl) ⟨by show _ ≤ 601024; omega, by show _ ≤ 7293034; omega⟩ rfl (fun v w' hp => ?_)
                                                            obtain ⟨rfl, rfl⟩ := hp
                                                            refine J.blk2 (ws' := [ouW D aO O, rkW D aθ (aρ 0) (aπ 0) aν (aτ 0) θ, rmW D aρ ρ, rmW D aπ π, txW D aτ z289.2, mdW D aμ μ, tlW D aν aS0 aS1 aS2 aS3 S0 S1 S2 S3].flatten) 7 (pkB [ouW D aO O, rkW D aθ (aρ 0) (aπ 0) aν (aτ 0) θ, rmW D aρ ρ, rmW D aπ π, txW D aτ τ, mdW D aμ μ, tlW D aν aS0 aS1 aS2 aS3 S0 S1 S2 S3] [0, 2, 3, 5, 6]) ([rkW D aθ (aρ 0) (aπ 0) aν (aτ 0) θ, txW D aτ z289.2]) [0, 5, 1, 2, 6, 3, 4] rfl rfl rfl rfl (by decide) ?_
                                                            refine r_aload_n h 2 rfl rfl dL_law_1632 ?_
                                                            obtain ⟨z291, e292, hF⟩ := o_bind hF
                                                            refine r_callVB (N0 := 7) (q0 := 0) (rest := [.int z289.1]) h [ouW D aO O, rkW D aθ (aρ 0) (aπ 0) aν (aτ 0) θ, rmW D aρ ρ, rmW D aπ π, txW D aτ z289.2, mdW D aμ μ, tlW D aν aS0 aS1 aS2 aS3 S0 S1 S2 S3] [5] [0, 1, 2, 3, 4, 6] hdm_X4_clearText wm_1004 dL_law_1633 (CX4_clearText l D aμ μ z291.1 z291.2 e292) rfl rfl rfl (by decide) rfl rfl rfl ⟨rfl, rfl⟩ ⟨by decide, by decide⟩ (Nat.le_of_ble_eq_true rfl) ⟨by show _ ≤ 601024; omega, by show _ ≤ 7293034; omega⟩ rfl (fun v w' hp => ?_)
                                                            obtain ⟨rfl, rfl⟩ := hp
                                                            refine J.blk2 (ws' := [ouW D aO O, rkW D aθ (aρ 0) (aπ 0) aν (aτ 0) θ, rmW D aρ ρ, rmW D aπ π, txW D aτ z289.2, mdW D aμ z291.2, tlW D aν aS0 aS1 aS2 aS3 S0 S1 S2 S3].flatten) 7 (pkB [ouW D aO O, rkW D aθ (aρ 0) (aπ 0) aν (aτ 0) θ, rmW D aρ ρ, rmW D aπ π, txW D aτ z289.2, mdW D aμ μ, tlW D aν aS0 aS1 aS2 aS3 S0 S1 S2 S3] [0, 1, 2, 3, 4, 6]) ([mdW D aμ z291.2]) [0, 1, 2, 3, 4, 6, 5] rfl rfl rfl rfl (by decide) ?_
                                                            refine r_icmp_eq h 1712 dL_law_1636 (by decide) (fun c293 => ?_) (fun c293 => ?_)
                                                            · replace hF := o_pos c293 hF
                                                              refine r_iinc (lv' := [(4, .int (i + 5)), (3, .ref aO), (2, .ref (aμ 0)), (1, .ref aθ), (0, .ref b)]) h 0 rfl (congrArg (fun z => i + z) (by decide : Int32.ofInt 5 = 5)) dL_law_1712 (by decide) rfl ?_
                                                              refine r_goto h 23 dL_law_1715 (by decide) ?_
                                                              refine J.widen (k1 := k + 1) (n1 := n + 6) (by omega) (by omega) ?_
                                                              exact J.loc (lv' := [(4, .int (i + 5)), (3, .ref aO), (2, .ref (aμ 0)), (1, .ref aθ), (0, .ref b)]) [0, 1, 2, 3, 4] rfl (ih (k + 1) (n + 6) aρ aπ aS0 aS1 aS2 aS3 (i + 5) O θ ρ π z289.2 z291.2 S0 S1 S2 S3 (by omega) (by omega) hF)
                                                            · replace hF := o_neg c293 hF
                                                              refine r_iconst (v := 0) h dL_law_1639 (by decide) ?_
                                                              cases hF
                                                          · replace hF := o_neg c288 hF
                                                            by_cases c294 : u2 = (26 : Int32)
                                                            · replace hF := o_pos c294 hF
                                                              refine r_tswIn h (26 : Int32) c294 1641 dL_law_39 (by decide) (by decide) rfl (by decide) ?_
                                                              refine r_aload_n h 3 rfl rfl dL_law_1641 ?_
                                                              obtain ⟨z295, e296, hF⟩ := o_bind hF
                                                              refine r_callVB (N0 := 7) (q0 := 0) (rest := []) h [ouW D aO O, rkW D aθ (aρ 0) (aπ 0) aν (aτ 0) θ, rmW D aρ ρ, rmW D aπ π, txW D aτ τ, mdW D aμ μ, tlW D aν aS0 aS1 aS2 aS3 S0 S1 S2 S3] [1, 2, 3, 4, 6] [0, 5] hdm_X3_plan wm_267 dL_law_1642 (CX3_plan l D aθ aρ aπ aτ aν aS0 aS1 aS2 aS3 θ ρ π τ S0 S1 S2 S3 z295.1 z295.2.1 z295.2.2.1 z295.2.2.2.1 z295.2.2.2.2.1 z295.2.2.2.2.2.1 z295.2.2.2.2.2.2.1 z295.2.2.2.2.2.2.2.1 z295.2.2.2.2.2.2.2.2 e296) rfl rfl rfl (by decide) rfl rfl rfl ⟨rfl, rfl⟩ ⟨by decide, by decide⟩ (Nat.le_of_ble_eq_true rfl) ⟨by show _ ≤ 601024; omega, by show _ ≤ 7293034; omega⟩ rfl (fun v w' hp => ?_)
                                                              obtain ⟨rfl, a297, a298, a299, a300, a301, a302, rfl⟩ := hp
                                                              refine J.blk2 (ws' := [ouW D aO O, rkW D aθ (a297 0) (a298 0) aν (aτ 0) z295.2.1, rmW D a297 z295.2.2.1, rmW D a298 z295.2.2.2.1, txW D aτ z295.2.2.2.2.1, mdW D aμ μ, tlW D aν a299 a300 a301 a302 z295.2.2.2.2.2.1 z295.2.2.2.2.2.2.1 z295.2.2.2.2.2.2.2.1 z295.2.2.2.2.2.2.2.2].flatten) 7 (pkB [ouW D aO O, rkW D aθ (aρ 0) (aπ 0) aν (aτ 0) θ, rmW D aρ ρ, rmW D aπ π, txW D aτ τ, mdW D aμ μ, tlW D aν aS0 aS1 aS2 aS3 S0 S1 S2 S3] [0, 5]) ([rkW D aθ (a297 0) (a298 0) aν (aτ 0) z295.2.1, rmW D a297 z295.2.2.1, rmW D a298 z295.2.2.2.1, txW D aτ z295.2.2.2.2.1, tlW D aν a299 a300 a301 a302 z295.2.2.2.2.2.1 z295.2.2.2.2.2.2.1 z295.2.2.2.2.2.2.2.1 z295.2.2.2.2.2.2.2.2]) [0, 2, 3, 4, 5, 1, 6] rfl rfl rfl rfl (by decide) ?_
                                                              refine r_aload_n h 2 rfl rfl dL_law_1645 ?_
                                                              obtain ⟨z303, e304, hF⟩ := o_bind hF
                                                              refine r_callVB (N0 := 7) (q0 := 0) (rest := [.int z295.1]) h [ouW D aO O, rkW D aθ (a297 0) (a298 0) aν (aτ 0) z295.2.1, rmW D a297 z295.2.2.1, rmW D a298 z295.2.2.2.1, txW D aτ z295.2.2.2.2.1, mdW D aμ μ, tlW D aν a299 a300 a301 a302 z295.2.2.2.2.2.1 z295.2.2.2.2.2.2.1 z295.2.2.2.2.2.2.2.1 z295.2.2.2.2.2.2.2.2] [5] [0, 1, 2, 3, 4, 6] hdm_X4_plan wm_1008 dL_law_1646 (CX4_plan l D aμ μ z303.1 z303.2 e304) rfl rfl rfl (by decide) rfl rfl rfl ⟨rfl, rfl⟩ ⟨by decide, by decide⟩ (Nat.le_of_ble_eq_true rfl) ⟨by show _ ≤ 601024; omega, by show _ ≤ 7293034; omega⟩ rfl (fun v w' hp => ?_)
                                                              obtain ⟨rfl, rfl⟩ := hp
                                                              refine J.blk2 (ws' := [ouW D aO O, rkW D aθ (a297 0) (a298 0) aν (aτ 0) z295.2.1, rmW D a297 z295.2.2.1, rmW D a298 z295.2.2.2.1, txW D aτ z295.2.2.2.2.1, mdW D aμ z303.2, tlW D aν a299 a300 a301 a302 z295.2.2.2.2.2.1 z295.2.2.2.2.2.2.1 z295.2.2.2.2.2.2.2.1 z295.2.2.2.2.2.2.2.2].flatten) 7 (pkB [ouW D aO O, rkW D aθ (a297 0) (a298 0) aν (aτ 0) z295.2.1, rmW D a297 z295.2.2.1, rmW D a298 z295.2.2.2.1, txW D aτ z295.2.2.2.2.1, mdW D aμ μ, tlW D aν a299 a300 a301 a302 z295.2.2.2.2.2.1 z295.2.2.2.2.2.2.1 z295.2.2.2.2.2.2.2.1 z295.2.2.2.2.2.2.2.2] [0, 1, 2, 3, 4, 6]) ([mdW D aμ z303.2]) [0, 1, 2, 3, 4, 6, 5] rfl rfl rfl rfl (by decide) ?_
                                                              refine r_icmp_eq h 1712 dL_law_1649 (by decide) (fun c305 => ?_) (fun c305 => ?_)
                                                              · replace hF := o_pos c305 hF
                                                                refine r_iinc (lv' := [(4, .int (i + 5)), (3, .ref aO), (2, .ref (aμ 0)), (1, .ref aθ), (0, .ref b)]) h 0 rfl (congrArg (fun z => i + z) (by decide : Int32.ofInt 5 = 5)) dL_law_1712 (by decide) rfl ?_
                                                                refine r_goto h 23 dL_law_1715 (by decide) ?_
                                                                refine J.widen (k1 := k + 1) (n1 := n + 6) (by omega) (by omega) ?_
                                                                exact J.loc (lv' := [(4, .int (i + 5)), (3, .ref aO), (2, .ref (aμ 0)), (1, .ref aθ), (0, .ref b)]) [0, 1, 2, 3, 4] rfl (ih (k + 1) (n + 6) a297 a298 a299 a300 a301 a302 (i + 5) O z295.2.1 z295.2.2.1 z295.2.2.2.1 z295.2.2.2.2.1 z303.2 z295.2.2.2.2.2.1 z295.2.2.2.2.2.2.1 z295.2.2.2.2.2.2.2.1 z295.2.2.2.2.2.2.2.2 (by omega) (by omega) hF)
                                                              · replace hF := o_neg c305 hF
                                                                refine r_iconst (v := 0) h dL_law_1652 (by decide) ?_
                                                                cases hF
                                                            · replace hF := o_neg c294 hF
                                                              by_cases c306 : u2 = (27 : Int32)
                                                              · replace hF := o_pos c306 hF
                                                                refine r_tswIn h (27 : Int32) c306 1654 dL_law_39 (by decide) (by decide) rfl (by decide) ?_
                                                                refine r_aload_n h 3 rfl rfl dL_law_1654 ?_
                                                                refine r_aload_n h 1 rfl rfl dL_law_1655 ?_
                                                                obtain ⟨z307, e308, hF⟩ := o_bind hF
                                                                refine r_callW (N0 := 7) (rest := []) h hXL [ouW D aO O, rkW D aθ (aρ 0) (aπ 0) aν (aτ 0) θ, rmW D aρ ρ, rmW D aπ π, txW D aτ τ, mdW D aμ μ, tlW D aν aS0 aS1 aS2 aS3 S0 S1 S2 S3] [0, 1, 2, 6] [3, 4, 5] hdw_undo wm_690 dL_law_1656 (CL_undo l hl0 D aθ (aπ 0) (aτ 0) aρ aν aS0 aS1 aS2 aS3 aO θ ρ S0 S1 S2 S3  O z307.1 z307.2.1 z307.2.2.1 z307.2.2.2.1 z307.2.2.2.2.1 z307.2.2.2.2.2.1 z307.2.2.2.2.2.2.1 z307.2.2.2.2.2.2.2 e308) rfl rfl rfl (by decide) rfl ⟨rfl, rfl⟩ ⟨by decide, by decide⟩ (Nat.le_of_ble_eq_true rfl) ⟨by show _ ≤ 601024; omega, by show _ ≤ 7293034; omega⟩ rfl (fun v w' hp => ?_)
                                                                obtain ⟨rfl, a309, a310, a311, a312, a313, rfl⟩ := hp
                                                                refine J.blk2 (ws' := [ouW D aO z307.2.2.2.2.2.2.2, rkW D aθ (a309 0) (aπ 0) aν (aτ 0) z307.2.1, rmW D a309 z307.2.2.1, rmW D aπ π, txW D aτ τ, mdW D aμ μ, tlW D aν a310 a311 a312 a313 z307.2.2.2.1 z307.2.2.2.2.1 z307.2.2.2.2.2.1 z307.2.2.2.2.2.2.1].flatten) 7 (pkB [ouW D aO O, rkW D aθ (aρ 0) (aπ 0) aν (aτ 0) θ, rmW D aρ ρ, rmW D aπ π, txW D aτ τ, mdW D aμ μ, tlW D aν aS0 aS1 aS2 aS3 S0 S1 S2 S3] [3, 4, 5]) ([ouW D aO z307.2.2.2.2.2.2.2, rkW D aθ (a309 0) (aπ 0) aν (aτ 0) z307.2.1, rmW D a309 z307.2.2.1, tlW D aν a310 a311 a312 a313 z307.2.2.2.1 z307.2.2.2.2.1 z307.2.2.2.2.2.1 z307.2.2.2.2.2.2.1]) [3, 4, 5, 0, 1, 2, 6] rfl rfl rfl rfl (by decide) ?_
                                                                refine r_istore (lv' := [(5, .int z307.1), (4, .int i), (3, .ref aO), (2, .ref (aμ 0)), (1, .ref aθ), (0, .ref b)]) h dL_law_1659 (by decide) rfl ?_
                                                                refine r_aload_n h 3 rfl rfl dL_law_1661 ?_
                                                                obtain ⟨z314, e315, hF⟩ := o_bind hF
                                                                refine r_callVB (N0 := 7) (q0 := 0) (rest := []) h [ouW D aO z307.2.2.2.2.2.2.2, rkW D aθ (a309 0) (aπ 0) aν (aτ 0) z307.2.1, rmW D a309 z307.2.2.1, rmW D aπ π, txW D aτ τ, mdW D aμ μ, tlW D aν a310 a311 a312 a313 z307.2.2.2.1 z307.2.2.2.2.1 z307.2.2.2.2.2.1 z307.2.2.2.2.2.2.1] [5] [0, 1, 2, 3, 4, 6] hdm_X4_undo wm_748 dL_law_1662 (CX4_undo l D aμ μ z314.1 z314.2 e315) rfl rfl rfl (by decide) rfl rfl rfl ⟨rfl, rfl⟩ ⟨by decide, by decide⟩ (Nat.le_of_ble_eq_true rfl) ⟨by show _ ≤ 601024; omega, by show _ ≤ 7293034; omega⟩ rfl (fun v w' hp => ?_)
                                                                obtain ⟨rfl, rfl⟩ := hp
                                                                refine J.blk2 (ws' := [ouW D aO z307.2.2.2.2.2.2.2, rkW D aθ (a309 0) (aπ 0) aν (aτ 0) z307.2.1, rmW D a309 z307.2.2.1, rmW D aπ π, txW D aτ τ, mdW D aμ z314.2, tlW D aν a310 a311 a312 a313 z307.2.2.2.1 z307.2.2.2.2.1 z307.2.2.2.2.2.1 z307.2.2.2.2.2.2.1].flatten) 7 (pkB [ouW D aO z307.2.2.2.2.2.2.2, rkW D aθ (a309 0) (aπ 0) aν (aτ 0) z307.2.1, rmW D a309 z307.2.2.1, rmW D aπ π, txW D aτ τ, mdW D aμ μ, tlW D aν a310 a311 a312 a313 z307.2.2.2.1 z307.2.2.2.2.1 z307.2.2.2.2.2.1 z307.2.2.2.2.2.2.1] [0, 1, 2, 3, 4, 6]) ([mdW D aμ z314.2]) [0, 1, 2, 3, 4, 6, 5] rfl rfl rfl rfl (by decide) ?_
                                                                refine r_istore (lv' := [(6, .int z314.1), (5, .int z307.1), (4, .int i), (3, .ref aO), (2, .ref (aμ 0)), (1, .ref aθ), (0, .ref b)]) h dL_law_1665 (by decide) rfl ?_
                                                                refine r_aload_n h 4 rfl rfl dL_law_1667 ?_
                                                                obtain ⟨z316, e317, hF⟩ := o_bind hF
                                                                refine r_callVB (N0 := 7) (q0 := 0) (rest := []) h [ouW D aO z307.2.2.2.2.2.2.2, rkW D aθ (a309 0) (aπ 0) aν (aτ 0) z307.2.1, rmW D a309 z307.2.2.1, rmW D aπ π, txW D aτ τ, mdW D aμ z314.2, tlW D aν a310 a311 a312 a313 z307.2.2.2.1 z307.2.2.2.2.1 z307.2.2.2.2.2.1 z307.2.2.2.2.2.2.1] [5] [0, 1, 2, 3, 4, 6] hdm_X4_thrown wm_744 dL_law_1668 (CX4_thrown l D aμ z314.2 z316 e317) rfl rfl rfl (by decide) rfl rfl rfl ⟨rfl, rfl⟩ ⟨by decide, by decide⟩ (Nat.le_of_ble_eq_true rfl) ⟨by show _ ≤ 601024; omega, by show _ ≤ 7293034; omega⟩ rfl (fun v w' hp => ?_)
                                                                obtain ⟨rfl, rfl⟩ := hp
                                                                refine J.blk2 (ws' := [ouW D aO z307.2.2.2.2.2.2.2, rkW D aθ (a309 0) (aπ 0) aν (aτ 0) z307.2.1, rmW D a309 z307.2.2.1, rmW D aπ π, txW D aτ τ, mdW D aμ z314.2, tlW D aν a310 a311 a312 a313 z307.2.2.2.1 z307.2.2.2.2.1 z307.2.2.2.2.2.1 z307.2.2.2.2.2.2.1].flatten) 7 (pkB [ouW D aO z307.2.2.2.2.2.2.2, rkW D aθ (a309 0) (aπ 0) aν (aτ 0) z307.2.1, rmW D a309 z307.2.2.1, rmW D aπ π, txW D aτ τ, mdW D aμ z314.2, tlW D aν a310 a311 a312 a313 z307.2.2.2.1 z307.2.2.2.2.1 z307.2.2.2.2.2.1 z307.2.2.2.2.2.2.1] [0, 1, 2, 3, 4, 6]) ([mdW D aμ z314.2]) [0, 1, 2, 3, 4, 6, 5] rfl rfl rfl rfl (by decide) ?_
                                                                refine r_iload h 1 rfl dL_law_1671 ?_
                                                                refine r_icmp_eq h 1678 dL_law_1673 (by decide) (fun c318 => ?_) (fun c318 => ?_)
                                                                · replace hF := o_pos c318 hF
                                                                  refine r_iload h 1 rfl dL_law_1678 ?_
                                                                  refine r_if_ne h 1695 dL_law_1680 (by decide) (fun c319 => ?_) (fun c319 => ?_)
                                                                  · replace hF := o_neg c319 hF
                                                                    refine r_goto h 1712 dL_law_1695 (by decide) ?_
                                                                    refine r_iinc (lv' := [(4, .int (i + 5)), (6, .int z314.1), (5, .int z307.1), (3, .ref aO), (2, .ref (aμ 0)), (1, .ref aθ), (0, .ref b)]) h 2 rfl (congrArg (fun z => i + z) (by decide : Int32.ofInt 5 = 5)) dL_law_1712 (by decide) rfl ?_
                                                                    refine r_goto h 23 dL_law_1715 (by decide) ?_
                                                                    refine J.widen (k1 := k + 1) (n1 := n + 6) (by omega) (by omega) ?_
                                                                    exact J.loc (lv' := [(4, .int (i + 5)), (3, .ref aO), (2, .ref (aμ 0)), (1, .ref aθ), (0, .ref b)]) [0, 3, 4, 5, 6] rfl (ih (k + 1) (n + 6) a309 aπ a310 a311 a312 a313 (i + 5) z307.2.2.2.2.2.2.2 z307.2.1 z307.2.2.1 π τ z314.2 z307.2.2.2.1 z307.2.2.2.2.1 z307.2.2.2.2.2.1 z307.2.2.2.2.2.2.1 (by omega) (by omega) hF)
                                                                  · replace hF := o_pos c319 hF
                                                                    refine r_aload_n h 3 rfl rfl dL_law_1683 ?_
                                                                    refine r_iconst (v := 0) h dL_law_1684 (by decide) ?_
                                                                    refine r_lald h 0 rfl (show ¬ (_ ∨ _) by decide) dL_law_1685 ?_
                                                                    refine r_iload h 0 rfl dL_law_1686 ?_
                                                                    refine r_i2l h dL_law_1688 ?_
                                                                    refine r_lcmp h dL_law_1689 ?_
                                                                    refine r_if_eq h 1695 dL_law_1690 (by decide) (fun c320 => ?_) (fun c320 => ?_)
                                                                    · replace hF := o_pos c320 hF
                                                                      refine r_goto h 1712 dL_law_1695 (by decide) ?_
                                                                      refine r_iinc (lv' := [(4, .int (i + 5)), (6, .int z314.1), (5, .int z307.1), (3, .ref aO), (2, .ref (aμ 0)), (1, .ref aθ), (0, .ref b)]) h 2 rfl (congrArg (fun z => i + z) (by decide : Int32.ofInt 5 = 5)) dL_law_1712 (by decide) rfl ?_
                                                                      refine r_goto h 23 dL_law_1715 (by decide) ?_
                                                                      refine J.widen (k1 := k + 1) (n1 := n + 6) (by omega) (by omega) ?_
                                                                      exact J.loc (lv' := [(4, .int (i + 5)), (3, .ref aO), (2, .ref (aμ 0)), (1, .ref aθ), (0, .ref b)]) [0, 3, 4, 5, 6] rfl (ih (k + 1) (n + 6) a309 aπ a310 a311 a312 a313 (i + 5) z307.2.2.2.2.2.2.2 z307.2.1 z307.2.2.1 π τ z314.2 z307.2.2.2.1 z307.2.2.2.2.1 z307.2.2.2.2.2.1 z307.2.2.2.2.2.2.1 (by omega) (by omega) hF)
                                                                    · replace hF := o_neg c320 hF
                                                                      refine r_iconst (v := 0) h dL_law_1693 (by decide) ?_
                                                                      cases hF
                                                                · replace hF := o_neg c318 hF
                                                                  refine r_iconst (v := 0) h dL_law_1676 (by decide) ?_
                                                                  cases hF
                                                              · replace hF := o_neg c306 hF
                                                                by_cases c321 : u2 = (28 : Int32)
                                                                · replace hF := o_pos c321 hF
                                                                  refine r_tswIn h (28 : Int32) c321 1698 dL_law_39 (by decide) (by decide) rfl (by decide) ?_
                                                                  refine r_aload_n h 3 rfl rfl dL_law_1698 ?_
                                                                  obtain ⟨z322, e323, hF⟩ := o_bind hF
                                                                  refine r_callVB (N0 := 7) (q0 := 0) (rest := []) h [ouW D aO O, rkW D aθ (aρ 0) (aπ 0) aν (aτ 0) θ, rmW D aρ ρ, rmW D aπ π, txW D aτ τ, mdW D aμ μ, tlW D aν aS0 aS1 aS2 aS3 S0 S1 S2 S3] [1, 2, 4] [0, 3, 5, 6] hdm_X3_digest wm_347 dL_law_1699 (CX3_digest l D aθ (aπ 0) aν aρ aτ θ ρ τ z322 e323) rfl rfl rfl (by decide) rfl rfl rfl ⟨rfl, rfl⟩ ⟨by decide, by decide⟩ (Nat.le_of_ble_eq_true rfl) ⟨by show _ ≤ 601024; omega, by show _ ≤ 7293034; omega⟩ rfl (fun v w' hp => ?_)
                                                                  obtain ⟨rfl, rfl⟩ := hp
                                                                  refine J.blk2 (ws' := [ouW D aO O, rkW D aθ (aρ 0) (aπ 0) aν (aτ 0) θ, rmW D aρ ρ, rmW D aπ π, txW D aτ τ, mdW D aμ μ, tlW D aν aS0 aS1 aS2 aS3 S0 S1 S2 S3].flatten) 7 (pkB [ouW D aO O, rkW D aθ (aρ 0) (aπ 0) aν (aτ 0) θ, rmW D aρ ρ, rmW D aπ π, txW D aτ τ, mdW D aμ μ, tlW D aν aS0 aS1 aS2 aS3 S0 S1 S2 S3] [0, 3, 5, 6]) ([rkW D aθ (aρ 0) (aπ 0) aν (aτ 0) θ, rmW D aρ ρ, txW D aτ τ]) [0, 4, 5, 1, 6, 2, 3] rfl rfl rfl rfl (by decide) ?_
                                                                  refine r_aload_n h 2 rfl rfl dL_law_1702 ?_
                                                                  obtain ⟨z324, e325, hF⟩ := o_bind hF
                                                                  refine r_callVB (N0 := 7) (q0 := 0) (rest := [.long z322]) h [ouW D aO O, rkW D aθ (aρ 0) (aπ 0) aν (aτ 0) θ, rmW D aρ ρ, rmW D aπ π, txW D aτ τ, mdW D aμ μ, tlW D aν aS0 aS1 aS2 aS3 S0 S1 S2 S3] [5] [0, 1, 2, 3, 4, 6] hdm_X4_digest wm_1028 dL_law_1703 (CX4_digest l D aμ μ z324.1 z324.2 e325) rfl rfl rfl (by decide) rfl rfl rfl ⟨rfl, rfl⟩ ⟨by decide, by decide⟩ (Nat.le_of_ble_eq_true rfl) ⟨by show _ ≤ 601024; omega, by show _ ≤ 7293034; omega⟩ rfl (fun v w' hp => ?_)
                                                                  obtain ⟨rfl, rfl⟩ := hp
                                                                  refine J.blk2 (ws' := [ouW D aO O, rkW D aθ (aρ 0) (aπ 0) aν (aτ 0) θ, rmW D aρ ρ, rmW D aπ π, txW D aτ τ, mdW D aμ z324.2, tlW D aν aS0 aS1 aS2 aS3 S0 S1 S2 S3].flatten) 7 (pkB [ouW D aO O, rkW D aθ (aρ 0) (aπ 0) aν (aτ 0) θ, rmW D aρ ρ, rmW D aπ π, txW D aτ τ, mdW D aμ μ, tlW D aν aS0 aS1 aS2 aS3 S0 S1 S2 S3] [0, 1, 2, 3, 4, 6]) ([mdW D aμ z324.2]) [0, 1, 2, 3, 4, 6, 5] rfl rfl rfl rfl (by decide) ?_
                                                                  refine r_lcmp h dL_law_1706 ?_
                                                                  refine r_if_eq h 1712 dL_law_1707 (by decide) (fun c326 => ?_) (fun c326 => ?_)
                                                                  · replace hF := o_pos c326 hF
                                                                    refine r_iinc (lv' := [(4, .int (i + 5)), (3, .ref aO), (2, .ref (aμ 0)), (1, .ref aθ), (0, .ref b)]) h 0 rfl (congrArg (fun z => i + z) (by decide : Int32.ofInt 5 = 5)) dL_law_1712 (by decide) rfl ?_
                                                                    refine r_goto h 23 dL_law_1715 (by decide) ?_
                                                                    refine J.widen (k1 := k + 1) (n1 := n + 6) (by omega) (by omega) ?_
                                                                    exact J.loc (lv' := [(4, .int (i + 5)), (3, .ref aO), (2, .ref (aμ 0)), (1, .ref aθ), (0, .ref b)]) [0, 1, 2, 3, 4] rfl (ih (k + 1) (n + 6) aρ aπ aS0 aS1 aS2 aS3 (i + 5) O θ ρ π τ z324.2 S0 S1 S2 S3 (by omega) (by omega) hF)
                                                                  · replace hF := o_neg c326 hF
                                                                    refine r_iconst (v := 0) h dL_law_1710 (by decide) ?_
                                                                    cases hF
                                                                · replace hF := o_neg c321 hF
                                                                  cases hF


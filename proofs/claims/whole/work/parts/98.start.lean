/-! THE CLAIM OUT OF ONE WALK OF THE LAW'S BODY. Your part is whole_start (and what it stands on); all else here is the same for every law, but numbers. -/
def R_law : String := "QuiverDeskLaw"
def lw_P (b : Addr) (xs : List Int32) (args : Array Value) (s : State) : Prop := args = #[.ref b] ∧ s.IntsAt b xs ∧ xs.length ≤ 2048 ∧ (Jvm.Cond.and given_1 narrow_1).before args s = true
def lw_Q (_ : Array Value) (s : State) (o : Outcome) (t : State) : Prop := o = .returned (some (.int 1)) ∧ Framed s o t [] 600000 7302250
def lw_Z (below : List Frame) (a : Array Value) (s : State) : State → Prop := fun t => ∃ o, t.status = .running ∧ Ended t below o ∧ lw_Q a s o t
/-- the law's own end, with 1 on the stack, nothing written that was there before, its room as the claim has it -/
theorem lw_ret {p : Program} {l : Launch} {e : Env} {s : State} {m : MethodId} {below : List Frame} {meth : Method} {c : Code} {b : Nat} (hx : p.tables.exec = Jvm.exec) (hb : c.code = code) (hr : meth.sig.returnType = ret) (hlocks : meth.locks = false) {pc : Nat} {H : Heap} {ls : Array Slot} (hdg : decode code pc = .ok (.ireturn, 1)) : W p l e room_1 s m #[Value.ref b] below meth c H [] 600000 7302250 (lw_Z below #[Value.ref b] s) (F0 m pc ls [.int 1]) := by
  intro T hT X
  obtain ⟨fs, hret, hrun, hended, hW, hframe⟩ := X.leave (v := some (.int 1)) (hlocks := hlocks) (fun h => by rw [hr] at h; cases h)
  have hmeth' : T.vm.method? m = some meth := X.method'
  refine ⟨T.setFrames fs, ?_, .returned (some (.int 1)), hrun, hended, rfl, ⟨_, rfl⟩, hW, hframe⟩
  jvm_step X.here [X.here.top, hx, hb, hdg, hmeth', hr, ret, narrow_b1]
  (try refine ⟨rfl, ?_⟩); (try refine ⟨rfl, ?_⟩)
  first | (intro acts; rw [hret _ acts rfl rfl rfl]) | rw [hret _ _ rfl rfl rfl]
  exact Steps.refl _
/-- what holds at the law's entry: the machine, the code, the tables' words (any of lw_tbl by 'hts w (by decide +kernel)'), the script of L ints xs at the cell b, what the Statement gives of the start (any of its parts by flat_of_before) -/
def lw_At (p : Program) (s : State) (m : MethodId) (meth : Method) (c : Code) (b L : Nat) (xs : Nat → Int32) : Prop :=
  p.tables.exec = Jvm.exec ∧ c.code = code ∧ meth.sig.returnType = ret ∧ c.maxLocals = 4 ∧ s.vm.findClass R_law = some m.cls ∧ (∀ w ∈ lw_tbl, w.before #[Value.ref b] s = true) ∧ va_X b L xs s s.heap ∧ b < s.heap.size ∧ meth.locks = false ∧ (Jvm.Cond.and given_1 narrow_1).before #[Value.ref b] s = true

theorem in_X0 : Cond.instantiable RX0 5 ∈ TBW := tbw_memT 190 (by decide +kernel) (by decide +kernel)
theorem in_X1 : Cond.instantiable RX1 3 ∈ TBW := tbw_memT 63 (by decide +kernel) (by decide +kernel)
theorem in_X2 : Cond.instantiable RX2 5 ∈ TBW := tbw_memT 25 (by decide +kernel) (by decide +kernel)
theorem in_X3 : Cond.instantiable RX3 13 ∈ TBW := tbw_memT 132 (by decide +kernel) (by decide +kernel)
theorem in_X4 : Cond.instantiable RX4 4 ∈ TBW := tbw_memT 213 (by decide +kernel) (by decide +kernel)
theorem in_X5 : Cond.instantiable RX5 6 ∈ TBW := tbw_memT 83 (by decide +kernel) (by decide +kernel)
theorem in_X6 : Cond.instantiable RX6 3 ∈ TBW := tbw_memT 112 (by decide +kernel) (by decide +kernel)
theorem in_X7 : Cond.instantiable RX7 13 ∈ TBW := tbw_memT 17 (by decide +kernel) (by decide +kernel)
theorem in_X8 : Cond.instantiable RX8 30 ∈ TBW := tbw_memT 777 (by decide +kernel) (by decide +kernel)
theorem ov_0 : (Jvm.Cond.arrayOver (Jvm.ClassFile.FieldType.object "QuiverDesk$Quiver")) ∈ lw_tbl := List.mem_append_right _ (List.mem_of_getElem? (i := 69) (by decide +kernel))
theorem ov_1 : (Jvm.Cond.arrayOver (Jvm.ClassFile.FieldType.object "QuiverDesk$Shelf")) ∈ lw_tbl := List.mem_append_right _ (List.mem_of_getElem? (i := 212) (by decide +kernel))
theorem ov_2 : (Jvm.Cond.arrayOver (Jvm.ClassFile.FieldType.array Jvm.ClassFile.FieldType.int)) ∈ lw_tbl := List.mem_append_right _ (List.mem_of_getElem? (i := 118) (by decide +kernel))
theorem nw_all : ∀ q ∈ NWT, Cond.methodLinkNest q.1 q.2.1 q.2.2.1 q.2.2.2 ∈ lw_tbl := by
  unfold NWT
  exact List.forall_mem_cons.mpr ⟨List.mem_append_right _ (List.mem_of_getElem? (i := 26) (by decide +kernel)), List.forall_mem_cons.mpr ⟨List.mem_append_right _ (List.mem_of_getElem? (i := 70) (by decide +kernel)), List.forall_mem_cons.mpr ⟨List.mem_append_right _ (List.mem_of_getElem? (i := 84) (by decide +kernel)), List.forall_mem_cons.mpr ⟨List.mem_append_right _ (List.mem_of_getElem? (i := 113) (by decide +kernel)), List.forall_mem_cons.mpr ⟨List.mem_append_right _ (List.mem_of_getElem? (i := 133) (by decide +kernel)), List.forall_mem_cons.mpr ⟨List.mem_append_right _ (List.mem_of_getElem? (i := 191) (by decide +kernel)), List.forall_mem_cons.mpr ⟨List.mem_append_right _ (List.mem_of_getElem? (i := 214) (by decide +kernel)), List.forall_mem_cons.mpr ⟨List.mem_append_right _ (List.mem_of_getElem? (i := 297) (by decide +kernel)), List.forall_mem_cons.mpr ⟨List.mem_append_right _ (List.mem_of_getElem? (i := 577) (by decide +kernel)), List.forall_mem_cons.mpr ⟨List.mem_append_right _ (List.mem_of_getElem? (i := 594) (by decide +kernel)), List.forall_mem_cons.mpr ⟨List.mem_append_right _ (List.mem_of_getElem? (i := 611) (by decide +kernel)), List.forall_mem_cons.mpr ⟨List.mem_append_right _ (List.mem_of_getElem? (i := 677) (by decide +kernel)), List.forall_mem_cons.mpr ⟨List.mem_append_right _ (List.mem_of_getElem? (i := 765) (by decide +kernel)), fun _ h => absurd h List.not_mem_nil⟩⟩⟩⟩⟩⟩⟩⟩⟩⟩⟩⟩⟩
theorem sr_all : ∀ q ∈ SRL, Cond.stringRef RX5 q.1 q.2.1 ∈ lw_tbl := by
  unfold SRL
  exact List.forall_mem_cons.mpr ⟨List.mem_append_right _ (List.mem_of_getElem? (i := 316) (by decide +kernel)), List.forall_mem_cons.mpr ⟨List.mem_append_right _ (List.mem_of_getElem? (i := 385) (by decide +kernel)), List.forall_mem_cons.mpr ⟨List.mem_append_right _ (List.mem_of_getElem? (i := 402) (by decide +kernel)), fun _ h => absurd h List.not_mem_nil⟩⟩⟩
theorem ls_1 : Cond.laysStatic "java/lang/String" "COMPACT_STRINGS" "Z" ∈ lw_tbl := List.mem_append_right _ (List.mem_of_getElem? (i := 330) (by decide +kernel))
theorem ls_2 : Cond.laysStatic "jdk/internal/util/Preconditions" "SIOOBE_FORMATTER" "Ljava/util/function/BiFunction;" ∈ lw_tbl := List.mem_append_right _ (List.mem_of_getElem? (i := 346) (by decide +kernel))
theorem ii_1 : Cond.initialized "java/lang/String" ∈ lw_tbl := List.mem_append_right _ (List.mem_of_getElem? (i := 11) (by decide +kernel))
theorem ii_2 : Cond.initialized "jdk/internal/util/Preconditions" ∈ lw_tbl := List.mem_append_right _ (List.mem_of_getElem? (i := 13) (by decide +kernel))
def tmS (i : Nat) : Term := Term.string RX5 ((SRL.getD i (0, "", 0)).1)
theorem aoT {s : State} {cA comp : ClassId} {k : Class} {ty : FieldType} (h1 : s.vm.classes[cA]? = some k) (h2 : k.kind = .array comp ty) : ArrOfT s cA ty := fun n z => ⟨fun q h => (by cases h), k, h1, comp, h2⟩
set_option maxRecDepth 100000 in
set_option maxHeartbeats 4000000 in
theorem ku_start {p : Program} {s : State} {m : MethodId} {meth : Method} {c : Code} {b L : Nat} {xs : Nat → Int32} (C0 : lw_At p s m meth c b L xs) : ∃ x : WX, x.2.2.1 = s.heap.size ∧ x.2.2.2.2.2 = (b, L, xs) ∧ KUs x s s.heap := by
  obtain ⟨hx, hb, hr, hml, hown, hts, hX, hbl, hlocks, hgv⟩ := C0
  have hflat := flat_of_before _ hgv
  have htb : ∀ w ∈ TBW, w.before #[Value.ref b] s = true := fun w h => hts w (List.mem_filter.mp h).1
  obtain ⟨c0, i0, k0⟩ := u_known (C := RX0) (T := TX0) (N := 5) (n := 5) htb uw_X0 (htb _ in_X0)
  obtain ⟨c1, i1, k1⟩ := u_known (C := RX1) (T := TX1) (N := 3) (n := 3) htb uw_X1 (htb _ in_X1)
  obtain ⟨c2, i2, k2⟩ := u_known (C := RX2) (T := TX2) (N := 5) (n := 5) htb uw_X2 (htb _ in_X2)
  obtain ⟨c3, i3, k3⟩ := u_known (C := RX3) (T := TX3) (N := 13) (n := 13) htb uw_X3 (htb _ in_X3)
  obtain ⟨c4, i4, k4⟩ := u_known (C := RX4) (T := TX4) (N := 4) (n := 4) htb uw_X4 (htb _ in_X4)
  obtain ⟨c5, i5, k5⟩ := u_known (C := RX5) (T := TX5) (N := 6) (n := 6) htb uw_X5 (htb _ in_X5)
  obtain ⟨c6, i6, k6⟩ := u_known (C := RX6) (T := TX6) (N := 3) (n := 3) htb uw_X6 (htb _ in_X6)
  obtain ⟨c7, i7, k7⟩ := u_known (C := RX7) (T := TX7) (N := 13) (n := 13) htb uw_X7 (htb _ in_X7)
  obtain ⟨c8, i8, k8⟩ := u_known (C := RX8) (T := TX8) (N := 30) (n := 30) htb uw_X8 (htb _ in_X8)
  obtain ⟨dC, dI, hKc⟩ : ∃ (dC : Nat → ClassId) (dI : Nat → Nat → Nat), ∀ (k : Nat) (q : vw_C), vwCl[k]? = some q → u_Kn s q.1 q.2.1 q.2.2 (dC k) (dI k) := by
    refine ⟨fun k => match k with | 0 => c0 | 1 => c1 | 2 => c2 | 3 => c3 | 4 => c4 | 5 => c5 | 6 => c6 | 7 => c7 | 8 => c8 | _ => c0, fun k => match k with | 0 => i0 | 1 => i1 | 2 => i2 | 3 => i3 | 4 => i4 | 5 => i5 | 6 => i6 | 7 => i7 | 8 => i8 | _ => i0, ?_⟩
    intro k q hq
    match k, hq with
    | 0, hq => cases hq; exact k0
    | 1, hq => cases hq; exact k1
    | 2, hq => cases hq; exact k2
    | 3, hq => cases hq; exact k3
    | 4, hq => cases hq; exact k4
    | 5, hq => cases hq; exact k5
    | 6, hq => cases hq; exact k6
    | 7, hq => cases hq; exact k7
    | 8, hq => cases hq; exact k8
    | k + 9, hq => simp [vwCl] at hq
  obtain ⟨a0, q0, comp0, f0, g0, h0⟩ := Cond.arrayClass_spec (htb _ w_aci)
  obtain ⟨a1, q1, comp1, f1, g1, h1⟩ := Cond.arrayClass_spec (htb _ w_acz)
  obtain ⟨comp2, a2, q2, e2, -, g2, h2, f2⟩ := Cond.arrayOver_spec (hts _ ov_0)
  obtain ⟨comp3, a3, q3, e3, -, g3, h3, f3⟩ := Cond.arrayOver_spec (hts _ ov_1)
  obtain ⟨comp4, a4, q4, e4, g4, h4, f4⟩ := Cond.arrayOver_specA (hts _ ov_2)
  have hA : ∀ a : Nat, a < s.heap.size → ¬ (fun q : Nat => s.heap.size ≤ q) a := fun a h => Nat.not_le.mpr h
  obtain ⟨adK, adV, hvS, hev⟩ := vk_Sof (args := #[Value.ref b]) (s := s) (N := 3) (tm := tmS) (len := [6, 5, 3]) (byt := bytS) (A := fun q : Nat => s.heap.size ≤ q) (by decide +kernel)
    (fun i hi => hflat _ ((show ∀ i, i < 3 → Cond.exactly (tmS i) "java/lang/String" ∈ flatC (Jvm.Cond.and given_1 narrow_1) by decide +kernel) i hi))
    (fun i hi => hflat _ ((show ∀ i, i < 3 → Cond.eq (.field (tmS i) "java/lang/String" "coder" "B") (.int 0) ∈ flatC (Jvm.Cond.and given_1 narrow_1) by decide +kernel) i hi))
    (fun i hi => hflat _ ((show ∀ i, i < 3 → Cond.arrayOf (.field (tmS i) "java/lang/String" "value" "[B") .byte ∈ flatC (Jvm.Cond.and given_1 narrow_1) by decide +kernel) i hi))
    (fun i hi => hflat _ ((show ∀ i, i < 3 → Cond.eq (.length (.field (tmS i) "java/lang/String" "value" "[B")) (.int (Int32.ofNat (([6, 5, 3] : List Nat).getD i 0))) ∈ flatC (Jvm.Cond.and given_1 narrow_1) by decide +kernel) i hi))
    (fun i hi j hj => hflat _ ((show ∀ i, i < 3 → ∀ j, j < ([6, 5, 3] : List Nat).getD i 0 → Cond.eq (.elem (.field (tmS i) "java/lang/String" "value" "[B") (.int (Int32.ofNat j))) (.int ((bytS.getD i []).getD j 0)) ∈ flatC (Jvm.Cond.and given_1 narrow_1) by decide +kernel) i hi j hj))
    (fun i j hi hj hij => ((show ∀ i, i < 3 → ∀ j, j < 3 → i ≠ j → Cond.not (Cond.eq (tmS i) (tmS j)) ∈ flatC (Jvm.Cond.and given_1 narrow_1) ∨ Cond.not (Cond.eq (tmS j) (tmS i)) ∈ flatC (Jvm.Cond.and given_1 narrow_1) by decide +kernel) i hi j hj hij).imp (hflat _) (hflat _)) hA
  refine ⟨((dC, dI), (fun k => match k with | 0 => a0 | 1 => a1 | 2 => a2 | 3 => a3 | _ => a4), s.heap.size, adK, adV, b, L, xs), rfl, rfl, ?_⟩
  refine ⟨⟨hKc, fun k q hq => ?_⟩, fun q hq => va_Nw.of rfl (hts _ (nw_all q hq)), hvS, ?_, ?_, ?_, ?_, hX, hbl⟩
  · match k, hq with
    | 0, hq => cases hq; exact ⟨aoT g0 h0, f0⟩
    | 1, hq => cases hq; exact ⟨aoT g1 h1, f1⟩
    | 2, hq => cases hq; exact ⟨aoT g2 h2, q2, comp2, g2, h2, e2, f2⟩
    | 3, hq => cases hq; exact ⟨aoT g3 h3, q3, comp3, g3, h3, e3, f3⟩
    | 4, hq => cases hq; exact ⟨aoT g4 h4, f4⟩
    | k + 5, hq => simp [tysOf] at hq
  · intro q hq
    have h9 := sr_all q hq
    have h8 : ∀ q ∈ SRL, Term.string RX5 q.1 = tmS q.2.2 ∧ q.2.2 < 3 := by decide +kernel
    obtain ⟨h7, h6⟩ := h8 q hq
    exact vk_R.of (hts _ h9) (by rw [h7]; exact hev _ h6)
  · exact va_Zof (hts _ ls_1) (hts _ ii_1) (va_eqt (hflat _ (by decide +kernel))) hA
  · exact va_Zqof (hts _ ls_2) (hts _ ii_2) (hflat _ (by decide +kernel)) hA
  · intro ty hty
    have h9 : ∀ ty ∈ OVL, ty = .object "QuiverDesk$Quiver" ∨ ty = .object "QuiverDesk$Shelf" ∨ ty = .array .int := by decide
    rcases h9 ty hty with rfl | rfl | rfl
    · exact hts _ ov_0
    · exact hts _ ov_1
    · exact hts _ ov_2
theorem cl_L7 : Cond.classLink RL 7 "QuiverDesk" ∈ TBW ∧ Cond.instantiable "QuiverDesk" 13 ∈ TBW ∧ Cond.initialized "QuiverDesk" ∈ TBW := ⟨tbw_memT 16 (by decide +kernel) (by decide +kernel), tbw_memT 17 (by decide +kernel) (by decide +kernel), tbw_memT 1 (by decide +kernel) (by decide +kernel)⟩
theorem cl_L10 : Cond.classLink RL 10 "QuiverDeskModel" ∈ TBW ∧ Cond.instantiable "QuiverDeskModel" 30 ∈ TBW ∧ Cond.initialized "QuiverDeskModel" ∈ TBW := ⟨tbw_memT 776 (by decide +kernel) (by decide +kernel), tbw_memT 777 (by decide +kernel) (by decide +kernel), tbw_memT 9 (by decide +kernel) (by decide +kernel)⟩
/-- the loop's end: true -/
theorem law_tail (l : Launch) (x : WX) {SL : Nat} {SX : Nat → Int32} {M : Mem} {r : Int32 × Mem} (hSL : x.2.2.2.2.2.2.1 = SL) (hSX : x.2.2.2.2.2.2.2 = SX) (h : f_L_law_18 SL SX (fun _ M => some (1, M)) FU 0 M = some r) : Ev l x false cL_law RL (some .boolean) 4 10 0 0 (pI r.1 r.2) 18 [some (.ref x.2.2.2.2.2.1), some (.ref (x.2.2.1 + 0)), some (.ref (x.2.2.1 + 176)), some (.int 0)] [] LAY M := by
  refine w_L_law_18 l x hSL hSX (fun i3 M2 h => ?_) FU _ _ h
  refine e_iconst (v := 1) aL_law_877 (by decide) ?_
  exact e_retI aL_law_878 rfl (by decide +kernel) (pI_of h)
/-- from making to remaining: the size of the heap is forgotten -/
theorem e_al {l : Launch} {x : WX} {cc : ByteArray} {own : String} {rt : Option FieldType} {nL d ca sa ca2 sa2 : Nat} {post : Option Value → List LC → Mem → Prop} {pc : Nat} {L : List (Option Value)} {st : List Value} {lay : List LC} {M : Mem} (hc : ca2 ≤ ca ∧ sa2 ≤ sa) (k : Ev l x false cc own rt nL d ca2 sa2 post pc L st lay M) : ∀ (p : Program) (e : Env) (s : State) (m : MethodId) (args : Array Value) (below : List Frame) (meth : Method) (c : Code) (R : Room) (Q : State → Prop) (H : Heap) (locs : List Loc) (cells slots : Nat) (ls : Array Slot),
    Cx x false cc own nL d p s m args meth c R → WR x true lay M H → va_S (Ax x) s.heap H locs → LV ls nL L → cells + ca ≤ R.cells → slots + sa ≤ R.slots →
    (∀ (v : Option Value) (lay' : List LC) (M' : Mem) (H' : Heap) (locs' : List Loc) (cells' slots' : Nat) (pc' : Nat) (ls' : Array Slot), post v lay' M' → WR x false lay' M' H' → va_S (Ax x) s.heap H' locs' → cells' ≤ R.cells → slots' ≤ R.slots → RetAt cc rt pc' v → W p l e R s m args below meth c H' locs' cells' slots' Q (F0 m pc' ls' v.toList)) →
    W p l e R s m args below meth c H locs cells slots Q (F0 m pc ls st) := by
  intro p e s m args below meth c R Q H locs cells slots ls C hw hS hl h1 h2 hr
  exact k p e s m args below meth c R Q H locs cells slots ls C ⟨hw.1, hw.2.1, fun h => by cases h⟩ hS hl (by omega) (by omega) hr
theorem wl_new {l : Launch} {x : WX} {cc : ByteArray} {own : String} {nL d : Nat} {pc : Nat} {st : List Value} {lay : List LC} {M : Mem} {p : Program} {e : Env} {s : State} {m : MethodId} {args : Array Value} {below : List Frame} {meth : Method} {c : Code} {R : Room} {Q : State → Prop} {H : Heap} {locs : List Loc} {cells slots : Nat} {ls : Array Slot}
    {idx ci n N : Nat} {C0 : String} {T : u_T} {ty : Nat → FieldType} {fs : List Nat} (C : Cx x false cc own nL d p s m args meth c R) (hw : WR x true lay M H) (hS : va_S (Ax x) s.heap H locs) (hd : decode cc pc = .ok (.new idx, 3)) (hc : vwCl[ci]? = some (C0, T, N)) (hin : ∀ w ∈ u_ws C0 T N, w ∈ TBW) (hty : ∀ k, k < N → parseFieldDescriptor (T k).2.2.1 = some (ty k)) (hlk : Cond.classLink own idx C0 ∈ TBW ∧ Cond.instantiable C0 N ∈ TBW ∧ Cond.initialized C0 ∈ TBW)
    (hfs : ∀ j, j < N → defaultValue (ty j) = vp_V (fs.map (fun c => cv 0 c 0)) j) (hf1 : ∀ c ∈ fs, c < 2) (hn : lay.length = n) (hz : ∀ k, M n k = 0) (g1 : cells + 1 ≤ R.cells) (g2 : slots + N ≤ R.slots) (kk : ∀ H1 : Heap, WR x true (lay ++ [(0, ci, fs)]) M H1 → va_S (Ax x) s.heap H1 locs → W p l e R s m args below meth c H1 locs (cells + 1) (slots + N) Q (F0 m (pc + 3) ls (.ref (x.2.2.1 + n) :: st))) : W p l e R s m args below meth c H locs cells slots Q (F0 m pc ls st) := by
  obtain ⟨hx, hb, hml, hown, hts, hku, hfr, hlo, hB, hnm⟩ := id C
  have hsz := hw.2.2 rfl
  rw [hn] at hsz
  have hKn := hku.1.1 ci _ hc
  have hA : ∀ q, s.heap.size ≤ q → Ax x q := fun q h => Nat.le_trans hB h
  refine W.newcK hx hb hown (hts _ hlk.1) (hts _ hlk.2.1) (hts _ hlk.2.2) rfl hd (by omega) (by omega) hKn.2.1 rfl fun H1 kC hkC e1 z1 o1 => ?_
  have hk : ∀ (k : Nat) (q : Nat × va_E), (wsOf x lay M)[k]? = some q → H1[q.1]? = H[q.1]? := fun k q hq => o1 q.1 ((hw.1 k q hq).lt)
  have e4 : (fs.mapIdx (fun j c => cv x.2.2.1 c (M n j))) = fs.map (fun c => cv 0 c 0) := by
    apply List.ext_getElem?
    intro j
    rw [List.getElem?_mapIdx, List.getElem?_map]
    cases hj : fs[j]? with
    | none => rfl
    | some c =>
      have h2 := hf1 c (List.mem_of_getElem? hj)
      simp only [Option.map_some]
      rw [hz j]
      match c, h2 with
      | 0, _ => rfl
      | 1, _ => rfl
  have hP1 : va_P x.1 vwCl (wsOf x (lay ++ [(0, ci, fs)]) M) H1 := by
    rw [ws_app, hn]
    refine (hw.1.kept hk).app (fun k q hq => ?_)
    have hz9 : k < 1 := (List.getElem?_eq_some_iff.mp hq).1
    rw [show k = 0 by omega] at hq
    cases hq
    show va_at _ _ (x.2.2.1 + n, .inr (ci, fs.mapIdx (fun j c => cv x.2.2.1 c (M n j)))) H1
    rw [e4, ← hsz]
    exact ⟨_, hc, (u_born ty hts hin hKn hkC e1 hty).to hfs⟩
  have hD1 : va_D (Ax x) (wsOf x (lay ++ [(0, ci, fs)]) M) := by
    rw [ws_app, hn, ← hsz]
    exact hw.2.1.push hw.1 rfl (hA _ hS.1)
  have hk9 := kk H1 ⟨hP1, hD1, fun _ => by rw [z1, hsz, List.length_append, hn]; rfl⟩ ⟨Nat.le_trans hS.1 (by omega), fun q h1 h2 => (o1 q (Nat.lt_of_lt_of_le h1 hS.1)).trans (hS.2.1 q h1 h2), hS.2.2⟩
  rw [← hsz] at hk9
  exact hk9
theorem wl_init {l : Launch} {x : WX} {cc : ByteArray} {own : String} {nL d : Nat} {pc : Nat} {lay L2 : List LC} {M M2 : Mem} {p : Program} {e : Env} {s : State} {m : MethodId} {args : Array Value} {below : List Frame} {meth : Method} {c : Code} {R : Room} {Q : State → Prop} {H : Heap} {locs : List Loc} {cells slots : Nat} {ls : Array Slot}
    {rest : List Value} {mc ms b idx d2 nL2 : Nat} {y : MethodName} {cc2 : ByteArray} (C : Cx x false cc own nL d p s m args meth c R) (hw : WR x true lay M H) (hS : va_S (Ax x) s.heap H locs) (hls : ls.size = nL) (hd : decode cc pc = .ok (.invokespecial idx, 3)) (co : CO y cc2 nL2 none 0) (hlk : Cond.methodLink own idx y ∈ TBW ∧ y.name = "<init>" ∧ Cond.instanceMethod y ∈ TBW)
    (hM : Mt l x true y cc2 nL2 none d2 mc ms [.ref (x.2.2.1 + b)] lay M (fun v lay9 M9 => v = none ∧ lay9 = L2 ∧ M9 = M2)) (hdd : d2 + 1 ≤ d ∧ nL2 ≤ 13) (hrs : (rest.map fun v => v.category).sum ≤ 8) (g1 : cells + mc ≤ R.cells) (g2 : slots + ms ≤ R.slots)
    (kk : ∀ (H1 : Heap) (locs1 : List Loc), WR x true L2 M2 H1 → va_S (Ax x) s.heap H1 locs1 → W p l e R s m args below meth c H1 locs1 (cells + mc) (slots + ms) Q (F0 m (pc + 3) ls rest)) : W p l e R s m args below meth c H locs cells slots Q (F0 m pc ls (.ref (x.2.2.1 + b) :: rest)) := by
  obtain ⟨hx, hb, hml, hown, hts, hku, hfr, hlo, hB, hnm⟩ := id C
  have hrun := va_runI (As := []) (b := x.2.2.1 + b) (rest := rest) (l := l) (e := e) (below := below) (meth := meth) (locs := locs) (cells := cells) (slots := slots) (g := F0 m pc ls (.ref (x.2.2.1 + b) :: rest)) ⟨hx, hb, hml, hown, hts⟩ hM ⟨callB_of 0 hts (good_tbw co.1) rfl rfl rfl (hts _ co.2.1) (hts _ hlk.1) co.2.2 ⟨by show d2 + 1 ≤ R.frames; omega, by show 8 + (nL2 + 11) + 32 * d2 ≤ R.locals; omega⟩, hlk.2.1, hts _ hlk.2.2⟩ ⟨PcX.blind, fun U hU hW => ⟨rfl, hku.go hS hU hW, by rw [hU]; exact Nat.le_trans hB hS.1, by rw [hU]; exact hw⟩⟩ rfl rfl hls rfl (lv_room hrs) hd ⟨g1, g2⟩
  intro T hT X
  obtain ⟨v, st₀, t, T', L9, h0, X', hL, e1, e2, ⟨⟨v', lay', M', hv, hp, hw'⟩, hz, hk⟩, st1⟩ := hrun T hT X
  obtain ⟨rfl, rfl, rfl⟩ := hp
  cases hv
  rw [h0] at hz hk
  have hS' : va_S (Ax x) s.heap T'.heap (locs ++ L9) := ⟨Nat.le_trans hS.1 (by rw [e1]; exact hz), fun q g1 g2 => by rw [e1, hk q (Nat.lt_of_lt_of_le g1 hS.1) g2]; exact hS.2.1 q g1 g2, fun q hq => by
    rcases List.mem_append.mp hq with h | h
    · exact hS.2.2 q h
    · exact hL q h⟩
  obtain ⟨t2, a1, b1⟩ := kk T'.heap (locs ++ L9) (by rw [e1]; exact hw') hS' T' rfl X'
  exact ⟨t2, st1 t2 a1, b1⟩
theorem LI_1_eq : ([] ++ [(0, 7, [1, 1, 1, 1, 1, 1, 1, 1, 1, 1, 1, 0, 0])] : List LC) = LI_1 := by decide +kernel
theorem LI_m_eq : (LE_1 ++ [(0, 8, [0, 1, 0, 1, 1, 0, 1, 1, 1, 1, 1, 1, 0, 0, 1, 0, 0, 0, 0, 1, 1, 0, 0, 1, 1, 1, 1, 1, 1, 1])] : List LC) = LI_22 := by decide +kernel
theorem TI_1_eq : ([] : List (Nat × Nat × Int32)) = TI_1 := by decide +kernel
theorem TI_m_eq : TE_1 = TI_22 := by decide +kernel
set_option maxHeartbeats 4000000 in
set_option maxRecDepth 100000 in
/-- THE LAW, from its entry -/
theorem whole_start {p : Program} {e : Env} {s : State} {m : MethodId} {below : List Frame} {meth : Method} {c : Code} (l : Launch) (hflags : l.flags = flags0) {b L : Nat} {xs : Nat → Int32} (hL : L ≤ 2048) (C0 : lw_At p s m meth c b L xs) : W p l e room_1 s m #[Value.ref b] below meth c s.heap [] 0 0 (lw_Z below #[Value.ref b] s) (entryFrame m ([Value.ref b] : List Value).toArray 4) := by
  obtain ⟨hx, hb, hr, hml, hown, hts, hX, hbl, hlocks, hgv⟩ := id C0
  obtain ⟨x, hxB, hxS, hku⟩ := ku_start C0
  obtain ⟨Mf, hpure⟩ := pure_law L xs hL
  have htb : ∀ w ∈ TBW, w.before #[Value.ref b] s = true := fun w h => hts w (List.mem_filter.mp h).1
  have C : Cx x false cL_law RL 4 10 p s m #[Value.ref b] meth c room_1 := ⟨hx, hb, hml, hown, htb, hku, by decide, by decide, by rw [hxB]; exact Nat.le_refl _, fun h => by cases h⟩
  have hS0 : va_S (Ax x) s.heap s.heap [] := va_S.rf
  have hW0 : WR x true [] (tabM []) s.heap := ⟨fun k q h => by simp [wsOf] at h, ⟨fun i j p q h => by simp [wsOf] at h, fun k q h => by simp [wsOf] at h⟩, fun _ => by rw [hxB]; rfl⟩
  have hl := lv_entry ([.ref b]) (n := 4) (Nat.le_of_ble_eq_true rfl)
  rw [lg_entry_eq]
  generalize (lg_sl ([.ref b]) ++ List.replicate (4 - (lg_sl ([.ref b])).length) Slot.unset).toArray = ls at hl ⊢
  have hl : lv_has ls 4 [(0, .ref b)] := hl
  refine wl_new (ci := 7) (n := 0) (fs := [1, 1, 1, 1, 1, 1, 1, 1, 1, 1, 1, 0, 0]) C hW0 hS0 aL_law_0.1 rfl uw_X7 tyX7_ok cl_L7 (by decide +kernel) (by decide) rfl (zt_at (by decide +kernel)) (Nat.le_of_ble_eq_true rfl) (Nat.le_of_ble_eq_true rfl) (fun H1 hW1 hS1 => ?_)
  refine lv_dup hx hb aL_law_3.1 rfl ?_
  rw [LI_1_eq, TI_1_eq] at hW1
  refine wl_init C hW1 hS1 hl.1 aL_law_4.1 co_X7_init mL_9 (ci_1 l x) ⟨by decide, by decide⟩ (Nat.le_of_ble_eq_true rfl) (Nat.le_of_ble_eq_true rfl) (Nat.le_of_ble_eq_true rfl) (fun H2 locs2 hW2 hS2 => ?_)
  refine lv_astore_n (lv' := [(1, .ref (x.2.2.1 + 0)), (0, .ref b)]) hx hb aL_law_7.1 rfl hl (by decide) rfl (fun ls hl => ?_)
  refine wl_new (ci := 8) (n := 176) (fs := [0, 1, 0, 1, 1, 0, 1, 1, 1, 1, 1, 1, 0, 0, 1, 0, 0, 0, 0, 1, 1, 0, 0, 1, 1, 1, 1, 1, 1, 1]) C hW2 hS2 aL_law_8.1 rfl uw_X8 tyX8_ok cl_L10 (by decide +kernel) (by decide) (by decide +kernel) (zt_at (by decide +kernel)) (Nat.le_of_ble_eq_true rfl) (Nat.le_of_ble_eq_true rfl) (fun H3 hW3 hS3 => ?_)
  refine lv_dup hx hb aL_law_11.1 rfl ?_
  rw [LI_m_eq, TI_m_eq] at hW3
  refine wl_init C hW3 hS3 hl.1 aL_law_12.1 co_X8_init mL_12 (ci_22 l x) ⟨by decide, by decide⟩ (Nat.le_of_ble_eq_true rfl) (Nat.le_of_ble_eq_true rfl) (Nat.le_of_ble_eq_true rfl) (fun H4 locs4 hW4 hS4 => ?_)
  refine lv_astore_n (lv' := [(2, .ref (x.2.2.1 + 176)), (1, .ref (x.2.2.1 + 0)), (0, .ref b)]) hx hb aL_law_15.1 rfl hl (by decide) rfl (fun ls hl => ?_)
  refine lv_iconst (v := 0) hx hb aL_law_16.1 (by decide) ?_
  refine lv_istore_n (lv' := [(3, .int 0), (2, .ref (x.2.2.1 + 176)), (1, .ref (x.2.2.1 + 0)), (0, .ref b)]) hx hb aL_law_17.1 rfl hl (by decide) rfl (fun ls hl => ?_)
  rw [LE_all] at hW4
  have e1 : x.2.2.2.2.2.1 = b := by rw [hxS]
  have e2 : x.2.2.2.2.2.2.1 = L := by rw [hxS]
  have e3 : x.2.2.2.2.2.2.2 = xs := by rw [hxS]
  refine e_al (ca := 0) (sa := 0) ⟨Nat.le_refl _, Nat.le_refl _⟩ (law_tail l x e2 e3 hpure) p e s m #[Value.ref b] below meth c room_1 _ H4 locs4 _ _ ls C hW4 hS4 ⟨hl.1, hl.2.1, fun i v h => ?_⟩ (Nat.le_of_ble_eq_true rfl) (Nat.le_of_ble_eq_true rfl) ?_
  · rw [e1] at h
    match i, h with
    | 0, h => cases h; exact lv_at hl 3 rfl
    | 1, h => cases h; exact lv_at hl 2 rfl
    | 2, h => cases h; exact lv_at hl 1 rfl
    | 3, h => cases h; exact lv_at hl 0 rfl
    | i + 4, h => simp at h
  · intro v lay' M' H' locs' cells' slots' pc' ls' hp hw' hS' hc hs hra
    obtain ⟨rfl, rfl, rfl⟩ := hp
    refine W.widen (k := 600000) (n := 7302250) hc hs ?_
    refine va_forget (fun q hq => by have := hS'.2.2 q hq; unfold Ax at this; rw [hxB] at this; exact this) ?_
    exact lw_ret hx hb hr hlocks hra.1
-- ===== YOUR PART ENDS =====
set_option maxHeartbeats 4000000 in
theorem lw_walk (l : Launch) (hflags : l.flags = flags0) (b : Addr) (xs : List Int32) : MetFree l x (headSpec (Jvm.Cond.code x code maxLocals ret :: tables_1) room_1) (lw_P b xs) (fun _ _ _ _ _ => True) lw_Q := by
  refine MetFree.of_bodyS (code := code) (maxLocals := maxLocals) (ret := ret) (by decide) ?_ ?_
  · intro args s m h hn
    obtain ⟨meth, c, h1, h2, h3, h4, h5, h6, -, -⟩ := Cond.code_spec hn (atoms_spec (ws := Jvm.Cond.code x code maxLocals ret :: tables_1) h _ List.mem_cons_self)
    exact ⟨meth, c, h1, h2, h3, h4, h5, h6⟩
  · intro p e s m args below meth c s₁ B hml0 hP _
    obtain ⟨rfl, hx, hbd, hgv⟩ := hP
    obtain ⟨scr, harrAt, hlist, hof, hsmall⟩ := hx
    obtain ⟨hcb, hkn, -, -⟩ := State.arrayAt?_spec harrAt
    have hown : s.vm.findClass R_law = some m.cls := findClass_of_methodNamed B.named
    have hts0 : ∀ c ∈ (Jvm.Cond.code x code maxLocals ret :: tables_1), c.before #[Value.ref b] s = true := atoms_spec (ws := Jvm.Cond.code x code maxLocals ret :: tables_1) B.pre
    have hts : ∀ w ∈ lw_tbl, w.before #[Value.ref b] s = true := k2_hts_sels lw_privs (fun w hw => hts0 w (List.mem_cons_of_mem _ hw)) lw_privs_ok
    have hml : c.maxLocals = 4 := B.maxLocals_eq (hts0 _ List.mem_cons_self)
    have X₀ : Stand p l e room_1 s m #[Value.ref b] below meth c s₁ [] 0 0 := Stand.of_body B
    have hh0 : s₁.heap = s.heap := by rw [B.state]; rfl
    have hsz : scr.slots.size = xs.length := by rw [← Array.length_toList, hlist, List.length_map]
    have hval : ∀ j : Nat, j < xs.length → scr.slots[j]? = some (.int (xs.getD j 0)) := fun j hj => by
      rw [← Array.getElem?_toList, hlist]
      simp [hj]
    have hbl : b < s.heap.size := (Array.getElem?_eq_some_iff.mp hcb).1
    have hX : va_X b xs.length (fun j => xs.getD j 0) s s.heap := ⟨scr, hcb, hof, hkn, hsz, hval⟩
    have K : W p l e room_1 s m #[Value.ref b] below meth c s₁.heap [] 0 0 (lw_Z below #[Value.ref b] s) (entryFrame m ([Value.ref b] : List Value).toArray 4) := by
      rw [hh0]
      exact whole_start l hflags hbd ⟨B.exec, B.bytes, B.returns, hml, hown, hts, hX, hbl, B.notSynchronized, hgv⟩
    obtain ⟨t, a1, o, b1, b2, b3⟩ := K s₁ rfl X₀
    exact ⟨t, o, a1, b1, b2, b3⟩
theorem lw_pre_spec {args : Array Value} {s : State} (h : (Jvm.Cond.and given_1 narrow_1).before args s = true) (hr : rest_1_c.before args s = true) : ∃ (b : Addr) (xs : List Int32), lw_P b xs args s := by
  have hs := flat_of_before _ h
  have hq := flat_of_before _ hr
  have hc : (Cond.count 1).before args s = true := hs _ (by decide +kernel)
  have harr : (Cond.arrayOf (.arg 0) .int).before args s = true := hs _ (by decide +kernel)
  have hle : (Cond.le (.length (.arg 0)) (.int 2048)).before args s = true := hs _ (by decide +kernel)
  have hlen : (Cond.isInt (.length (.arg 0))).before args s = true := hq _ (by decide +kernel)
  have hall : (Cond.all (.arg 0) (.isInt (.elem (.arg 0) (.index 0)))).before args s = true := hq _ (by decide +kernel)
  obtain ⟨b, xs, hb, hx⟩ := State.ints_of_pre rfl harr hlen hall
  have hsm : xs.length < 2 ^ 31 := hx.choose_spec.2.2.2
  have hev : (Term.length (.arg 0)).eval args s none [] s = some (.int xs.length.toInt32) := hx.length_eval hb
  have hv := Cond.le_ints hev (show (Term.int 2048).eval args s none [] s = some (.int 2048) from rfl)
  have hd : xs.length.toInt32 ≤ 2048 := by
    simpa [Cond.before, Cond.holds, hv] using hle
  have hN : xs.length ≤ 2048 := (Int32.ofNat_le_ofNat hsm (by decide)).mp (show Int32.ofNat xs.length ≤ Int32.ofNat 2048 from hd)
  exact ⟨b, xs, Cond.one_arg hc (show args[0]? = some (.ref b) from hb), hx, hN, h⟩
theorem lw_comes (l : Launch) (hflags : l.flags = flags0) : Comes l x (Jvm.Cond.code x code maxLocals ret :: tables_1) room_1 (fun tb e args s => Calls_1 tb e args s ∧ rest_1 tb e args s ∧ Pre_1 tb e args s)
    (fun _ _ args s o t => lw_Q args s o t) := by
  intro p e ha hc hk s m args below hf hfit hheap happ hpre
  obtain ⟨b, xs, hP⟩ := lw_pre_spec hpre.2.2 hpre.2.1
  obtain ⟨k, o, h1, h2, h3, hQ⟩ := lw_walk l hflags b xs p e ha hc hk s m args below hf ((Spec.applies_iff_loose hf).mp happ).1 hP trivial
  exact ⟨k, o, h1, h2, h3, hQ⟩
theorem lw_frame {s t : State} {o : Outcome} {args : Array Value} (h : Framed s o t [] 600000 7302250) :
    Framed s o t (fieldLocs frame_1_writes args s ++ arrayLocs frame_1_arrays args s ++ staticLocs frame_1_statics s) 600000 7302250 := h
theorem lw_limb (L : Cond) (hL : ∀ (args : Array Value) (s t : State), L.after args s (.returned (some (.int 1))) t = true) :
    ArmFor flags0 classFile x code maxLocals ret World_1 tables_1 room_1 Calls_1 rest_1 Pre_1
      (fun tb e a s o t => postC L tb e a s o t ∧ Framed s o t (fieldLocs frame_1_writes a s ++ arrayLocs frame_1_arrays a s ++ staticLocs frame_1_statics s) 600000 7302250) := by
  intro l hflags _ _ p e ha hc hk s m args below hf hfit hheap happ hpre
  obtain ⟨k, o, h1, h2, h3, rfl, hF⟩ := lw_comes l hflags p e ha hc hk s m args below hf hfit hheap happ hpre
  exact ⟨k, _, h1, h2, h3, hL args s _, lw_frame hF⟩
theorem i_vc : Claimed_1_1 ∧ Claimed_1_2 := ⟨lw_limb limb_1_1 (fun args s t => by simp [limb_1_1, Cond.after, Cond.holds, Cond.value]), lw_limb limb_1_2 (fun args s t => Cond.after_iff.mpr (by
  first | (rw [show limb_1_2 = Cond.eq .result (.int 1) from rfl, Cond.eq_ints (x := 1) (y := 1) rfl rfl]; simp; done) | (simp [limb_1_2, Cond.value, Term.eval]; done)))⟩

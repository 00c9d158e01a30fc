section EV
variable {l : Launch} {x : WX} {al : Bool} {cc : ByteArray} {own : String} {rt : Option FieldType} {nL d ca sa : Nat} {post : Option Value → List LC → Mem → Prop} {pc pc2 : Nat} {L : List (Option Value)} {st : List Value} {lay : List LC} {M : Mem}
/-! ===== fields ===== -/
def FL (own : String) (idx ci k : Nat) : Prop := ∃ (C : String) (T : u_T) (N : Nat), vwCl[ci]? = some (C, T, N) ∧ k < N ∧ (∀ w ∈ u_ws C T N, w ∈ TBW) ∧ (T k).1 = C ∧ Cond.fieldLink own idx C (T k).2.1 (T k).2.2.1 ∈ TBW
def FP (own : String) (idx ci k : Nat) (fin : Bool) (ty : FieldType) : Prop := ∃ (C : String) (T : u_T) (N : Nat) (ty0 : Nat → FieldType), vwCl[ci]? = some (C, T, N) ∧ k < N ∧ (∀ w ∈ u_ws C T N, w ∈ TBW) ∧ (T k).1 = C ∧ Cond.fieldLink own idx C (T k).2.1 (T k).2.2.1 ∈ TBW ∧ (∀ k, k < N → parseFieldDescriptor (T k).2.2.1 = some (ty0 k)) ∧ (∀ a, a < N → ∀ b, b < N → a ≠ b → (T a).2.1 ≠ (T b).2.1) ∧ (T k).2.2.2 = fin ∧ parseFieldDescriptor (T k).2.2.1 = some ty
theorem e_getI {idx ci k a : Nat} {fs : List Nat} (hd : At cc pc 3 pc2 (.getfield idx)) (hf : FL own idx ci k) (he : lay[a]? = some (0, ci, fs)) (hv : fs[k]? = some 0) (kk : Ev l x al cc own rt nL d ca sa post pc2 L (.int (M a k) :: st) lay M) : Ev l x al cc own rt nL d ca sa post pc L (.ref (x.2.2.1 + a) :: st) lay M := by
  obtain ⟨hd, rfl⟩ := hd
  obtain ⟨C0, T, N, hc, hk, hin, hC, hl⟩ := hf
  intro p e s m args below meth c R Q H locs cells slots ls C hw hS hls h1 h2 hr
  refine va_get (v := .int (M a k)) C.1 C.2.1 C.2.2.2.2.1 hin C.2.2.2.1 C.2.2.2.2.2.1.1 hw.1 a (ws_get he) hc k hk (C.2.2.2.2.1 _ hl) (by rw [hC]; exact fun _ h => h) ?_ hd (kk p e s m args below meth c R Q H locs cells slots ls C hw hS hls h1 h2 hr)
  show (fs.mapIdx (fun j c => cv x.2.2.1 c (M a j)))[k]? = _
  rw [List.getElem?_mapIdx, hv]
  rfl
theorem e_getR {idx ci k a r : Nat} {fs : List Nat} (hd : At cc pc 3 pc2 (.getfield idx)) (hf : FL own idx ci k) (he : lay[a]? = some (0, ci, fs)) (hv : fs[k]? = some (r + 2)) (kk : Ev l x al cc own rt nL d ca sa post pc2 L (.ref (x.2.2.1 + r) :: st) lay M) : Ev l x al cc own rt nL d ca sa post pc L (.ref (x.2.2.1 + a) :: st) lay M := by
  obtain ⟨hd, rfl⟩ := hd
  obtain ⟨C0, T, N, hc, hk, hin, hC, hl⟩ := hf
  intro p e s m args below meth c R Q H locs cells slots ls C hw hS hls h1 h2 hr
  refine va_get (v := .ref (x.2.2.1 + r)) C.1 C.2.1 C.2.2.2.2.1 hin C.2.2.2.1 C.2.2.2.2.2.1.1 hw.1 a (ws_get he) hc k hk (C.2.2.2.2.1 _ hl) (by rw [hC]; exact fun _ h => h) ?_ hd (kk p e s m args below meth c R Q H locs cells slots ls C hw hS hls h1 h2 hr)
  show (fs.mapIdx (fun j c => cv x.2.2.1 c (M a j)))[k]? = _
  rw [List.getElem?_mapIdx, hv]
  rfl
theorem e_putI {idx ci k a : Nat} {fs : List Nat} {v : Int32} {ty : FieldType} (hd : At cc pc 3 pc2 (.putfield idx)) (hf : FP own idx ci k false ty) (he : lay[a]? = some (0, ci, fs)) (hv : fs[k]? = some 0) (hn : narrow ty (.int v) = .int v ∧ fits ty (.int v) = true) (kk : Ev l x al cc own rt nL d ca sa post pc2 L st lay (um M a k v)) : Ev l x al cc own rt nL d ca sa post pc L (.int v :: .ref (x.2.2.1 + a) :: st) lay M := by
  obtain ⟨hd, rfl⟩ := hd
  obtain ⟨C0, T, N, ty0, hc, hk, hin, hC, hl, hty, hnm, hfin, hpd⟩ := hf
  intro p e s m args below meth c R Q H locs cells slots ls C hw hS hls h1 h2 hr
  have hP := hw.1
  have hD := hw.2.1
  have hE := ws_get (x := x) (M := M) he
  have hap := va_apart (own := own) C.2.2.2.2.1 hin ty0 hty hnm C.2.2.2.2.2.1.1 hc
  obtain ⟨r, g1, cell, q1, q2, q3, q4⟩ := hP a _ hE
  have hrr : r = (C0, T, N) := Option.some.inj (g1.symm.trans hc)
  subst hrr
  obtain ⟨hSl, hfc, kC, hkC, hkind⟩ := C.2.2.2.2.2.1.1.1 ci _ hc
  obtain ⟨cf, kf, fi, f, hi, hsl⟩ := hSl k hk
  have hlay := C.2.2.2.2.1 _ (hin _ (u_in_lay hk))
  unfold u_lay at hlay
  rw [if_neg (by rw [hfin]; decide)] at hlay
  have hst := (u_facts hfc hkC (u_lays C.2.2.2.2.1 hin hk) hi).1
  have h6 := u_store hfc hkC hkind hlay hi hpd hn.1 hn.2
  refine W.putK C.1 C.2.1 (f := f) ⟨C.2.2.2.1, C.2.2.2.2.1 _ hl, ⟨_, _, _, by rw [hC] at hi; exact hi⟩, hst⟩ (by rw [q2]; exact h6) q1 q3 (by rw [hsl]; exact k2_hasslot (q4 k hk)) rfl rfl hd fun H' e1 e2 e3 => ?_
  rw [hsl] at e1 ⊢
  have hlen : k < (fs.mapIdx (fun j c => cv x.2.2.1 c (M a j))).length := by rw [List.length_mapIdx]; exact (List.getElem?_eq_some_iff.mp hv).1
  have e4 : ((x.2.2.1 + a, .inr (ci, (fs.mapIdx (fun j c => cv x.2.2.1 c (M a j))).set k (.int v))) : Nat × va_E) = (x.2.2.1 + a, toE x (0, ci, fs) (upd (M a) k v)) := by
    rw [obj_put hv]
    rfl
  have hP2 := hP.set (e := .inr (ci, (fs.mapIdx (fun j c => cv x.2.2.1 c (M a j))).set k (.int v))) hD hE ⟨_, hc, t_OB.to (V := updV (vp_V (fs.mapIdx (fun j c => cv x.2.2.1 c (M a j)))) k (.int v)) ⟨_, e1, q2, q3, t_set q4 hap hk (.int v)⟩ (fun j _ => vp_updV_set hlen (.int v) j)⟩ e3
  have hD2 := hD.set (e := .inr (ci, (fs.mapIdx (fun j c => cv x.2.2.1 c (M a j))).set k (.int v))) hE
  rw [e4, ws_upd he] at hP2 hD2
  exact kk p e s m args below meth c R Q H' _ cells slots ls C ⟨hP2, hD2, fun h => by rw [e2]; exact hw.2.2 h⟩ (hS.put e2 e3 (hD.2 a _ hE)) hls h1 h2 hr
theorem e_iald {a n : Nat} {i : Int32} {fs : List Nat} (hd : At cc pc 1 pc2 .iaload) (he : lay[a]? = some (1, n, fs)) (hin : vp_in i n) (kk : Ev l x al cc own rt nL d ca sa post pc2 L (.int (M a i.toNatClampNeg) :: st) lay M) : Ev l x al cc own rt nL d ca sa post pc L (.int i :: .ref (x.2.2.1 + a) :: st) lay M := by
  obtain ⟨hd, rfl⟩ := hd
  intro p e s m args below meth c R Q H locs cells slots ls C hw hS hls h1 h2 hr
  exact va_iald C.1 C.2.1 C.2.2.2.2.2.1.1 hw.1 a 0 (ws_get he) rfl hin hd (kk p e s m args below meth c R Q H locs cells slots ls C hw hS hls h1 h2 hr)
theorem e_iast {a n : Nat} {i v : Int32} {fs : List Nat} (hd : At cc pc 1 pc2 .iastore) (he : lay[a]? = some (1, n, fs)) (hin : vp_in i n) (kk : Ev l x al cc own rt nL d ca sa post pc2 L st lay (um M a i.toNatClampNeg v)) : Ev l x al cc own rt nL d ca sa post pc L (.int v :: .int i :: .ref (x.2.2.1 + a) :: st) lay M := by
  obtain ⟨hd, rfl⟩ := hd
  intro p e s m args below meth c R Q H locs cells slots ls C hw hS hls h1 h2 hr
  have hE : (wsOf x lay M)[a]? = some (x.2.2.1 + a, .inl (x.2.1 0, n, .inl (M a))) := ws_get he
  have hP := hw.1
  have hD := hw.2.1
  refine W.iast C.1 C.2.1 (hP a _ hE) ((C.2.2.2.2.2.1.1.2 0 _ rfl).1 n (fun j => .int (M a j))) (fun q => by cases q) (by show ¬ (i < 0 ∨ (arrV _ _ _).slots.size ≤ _); rw [arrV_size]; exact hin) rfl rfl hd fun H1 e1 z oq => ?_
  have hat : va_at x.1 vwCl (x.2.2.1 + a, .inl (x.2.1 0, n, .inl (upd (M a) i.toNatClampNeg v))) H1 := by
    show H1[x.2.2.1 + a]? = some (vp_cell _ _)
    rw [e1]
    rw [vp_cell_i, vp_cell_i, arrV_store]
    congr 2
    funext q
    by_cases hq : q = i.toNatClampNeg
    · subst hq
      simp [updV, upd]
    · simp [updV, upd, hq]
  have hP2 := hP.set hD hE hat oq
  have hD2 := hD.set (e := .inl (x.2.1 0, n, .inl (upd (M a) i.toNatClampNeg v))) hE
  have e4 : ((x.2.2.1 + a, .inl (x.2.1 0, n, .inl (upd (M a) i.toNatClampNeg v))) : Nat × va_E) = (x.2.2.1 + a, toE x (1, n, fs) (upd (M a) i.toNatClampNeg v)) := rfl
  rw [e4, ws_upd he] at hP2 hD2
  exact kk p e s m args below meth c R Q H1 _ cells slots ls C ⟨hP2, hD2, fun h => by rw [z]; exact hw.2.2 h⟩ (hS.put z oq (hD.2 a _ hE)) hls h1 h2 hr
theorem e_zald {a n : Nat} {i : Int32} {fs : List Nat} (hd : At cc pc 1 pc2 .baload) (he : lay[a]? = some (2, n, fs)) (hin : vp_in i n) (kk : Ev l x al cc own rt nL d ca sa post pc2 L (.int (M a i.toNatClampNeg) :: st) lay M) : Ev l x al cc own rt nL d ca sa post pc L (.int i :: .ref (x.2.2.1 + a) :: st) lay M := by
  obtain ⟨hd, rfl⟩ := hd
  intro p e s m args below meth c R Q H locs cells slots ls C hw hS hls h1 h2 hr
  exact va_zald C.1 C.2.1 C.2.2.2.2.2.1.1 hw.1 a 1 (ws_get he) rfl hin hd (kk p e s m args below meth c R Q H locs cells slots ls C hw hS hls h1 h2 hr)
theorem e_zast {a n : Nat} {i v : Int32} {fs : List Nat} (hal : al = false) (hd : At cc pc 1 pc2 .bastore) (he : lay[a]? = some (2, n, fs)) (hin : vp_in i n) (hn : vp_nar .boolean v = v) (kk : Ev l x al cc own rt nL d ca sa post pc2 L st lay (um M a i.toNatClampNeg v)) : Ev l x al cc own rt nL d ca sa post pc L (.int v :: .int i :: .ref (x.2.2.1 + a) :: st) lay M := by
  obtain ⟨hd, rfl⟩ := hd
  intro p e s m args below meth c R Q H locs cells slots ls C hw hS hls h1 h2 hr
  have hE : (wsOf x lay M)[a]? = some (x.2.2.1 + a, .inl (x.2.1 1, n, .inl (M a))) := ws_get he
  refine va_zast (x := v) C.1 C.2.1 C.2.2.2.2.2.1.1 hw.1 hw.2.1 hS a 1 hE rfl hin hd (fun H1 locs1 hP2 hD2 hS2 => ?_)
  rw [hn] at hP2 hD2
  have e4 : ((x.2.2.1 + a, .inl (x.2.1 1, n, .inl (upd (M a) i.toNatClampNeg v))) : Nat × va_E) = (x.2.2.1 + a, toE x (2, n, fs) (upd (M a) i.toNatClampNeg v)) := rfl
  rw [e4, ws_upd he] at hP2 hD2
  exact kk p e s m args below meth c R Q H1 locs1 cells slots ls C ⟨hP2, hD2, fun h => by rw [hal] at h; cases h⟩ hS2 hls h1 h2 hr
theorem e_aald {a n t r : Nat} {i : Int32} {fs : List Nat} (hd : At cc pc 1 pc2 .aaload) (he : lay[a]? = some (t + 3, n, fs)) (ht : t < 3) (hin : vp_in i n) (hv : fs.getD i.toNatClampNeg 1 = r + 2) (kk : Ev l x al cc own rt nL d ca sa post pc2 L (.ref (x.2.2.1 + r) :: st) lay M) : Ev l x al cc own rt nL d ca sa post pc L (.int i :: .ref (x.2.2.1 + a) :: st) lay M := by
  obtain ⟨hd, rfl⟩ := hd
  intro p e s m args below meth c R Q H locs cells slots ls C hw hS hls h1 h2 hr
  have hE : (wsOf x lay M)[a]? = some (x.2.2.1 + a, .inl (x.2.1 (t + 2), n, .inr (.inr (.inr (.inr (fun j => cr x.2.2.1 (fs.getD j 1))))))) := ws_get he
  have hty : ∃ ty, (tysOf x)[t + 2]? = some (x.2.1 (t + 2), ty) ∧ refKind ty = true := by
    match t, ht with
    | 0, _ => exact ⟨_, rfl, rfl⟩
    | 1, _ => exact ⟨_, rfl, rfl⟩
    | 2, _ => exact ⟨_, rfl, rfl⟩
  obtain ⟨ty, hty, hrk⟩ := hty
  have hlt : i.toNatClampNeg < n := Nat.not_le.mp fun q => hin (Or.inr q)
  refine W.aald (v := va_rf (cr x.2.2.1 (fs.getD i.toNatClampNeg 1))) (ty := ty) C.1 C.2.1 (hw.1 a _ hE) ((C.2.2.2.2.2.1.1.2 (t + 2) _ hty).1 n (fun j => va_rf (cr x.2.2.1 (fs.getD j 1)))) hrk (fun q => by cases q) (by show ¬ (i < 0 ∨ (arrV _ _ _).slots.size ≤ _); rw [arrV_size]; exact hin) (by show (arrV _ _ _).slots[_]? = _; rw [arrV_read _ _ hlt]) rfl rfl hd ?_
  rw [hv]
  exact kk p e s m args below meth c R Q H locs cells slots ls C hw hS hls h1 h2 hr
theorem e_sld {i : Int32} (hd : At cc pc 1 pc2 .iaload) (hin : ¬ (i < 0 ∨ x.2.2.2.2.2.2.1 ≤ i.toNatClampNeg)) (kk : Ev l x al cc own rt nL d ca sa post pc2 L (.int (x.2.2.2.2.2.2.2 i.toNatClampNeg) :: st) lay M) : Ev l x al cc own rt nL d ca sa post pc L (.int i :: .ref x.2.2.2.2.2.1 :: st) lay M := by
  obtain ⟨hd, rfl⟩ := hd
  intro p e s m args below meth c R Q H locs cells slots ls C hw hS hls h1 h2 hr
  have hX := C.2.2.2.2.2.1.2.2.2.2.2.2.2
  exact va_sld C.1 C.2.1 hX.1 (Nat.lt_of_lt_of_le hX.2 C.2.2.2.2.2.2.2.2.1) (Nat.not_le.mpr hX.2) hS hin hd (kk p e s m args below meth c R Q H locs cells slots ls C hw hS hls h1 h2 hr)
theorem e_sln (hd : At cc pc 1 pc2 .arraylength) (kk : Ev l x al cc own rt nL d ca sa post pc2 L (.int (nI x.2.2.2.2.2.2.1) :: st) lay M) : Ev l x al cc own rt nL d ca sa post pc L (.ref x.2.2.2.2.2.1 :: st) lay M := by
  obtain ⟨hd, rfl⟩ := hd
  intro p e s m args below meth c R Q H locs cells slots ls C hw hS hls h1 h2 hr
  have hX := C.2.2.2.2.2.1.2.2.2.2.2.2.2
  exact va_slen C.1 C.2.1 hX.1 (Nat.lt_of_lt_of_le hX.2 C.2.2.2.2.2.2.2.2.1) (Nat.not_le.mpr hX.2) hS hd (kk p e s m args below meth c R Q H locs cells slots ls C hw hS hls h1 h2 hr)
/-! ===== returns ===== -/
theorem e_ret0 (hd : At cc pc 1 pc2 .return_) (hrt : rt = none) (hp : post none lay M) : Ev l x al cc own rt nL d ca sa post pc L [] lay M := by
  intro p e s m args below meth c R Q H locs cells slots ls C hw hS hls h1 h2 hr
  exact hr none lay M H locs cells slots pc ls hp hw hS (by omega) (by omega) ⟨hd.1, hrt⟩
theorem e_retI {v : Int32} {ty : FieldType} (hd : At cc pc 1 pc2 .ireturn) (hrt : rt = some ty) (hn : narrow ty (.int v) = .int v) (hp : post (some (.int v)) lay M) : Ev l x al cc own rt nL d ca sa post pc L [.int v] lay M := by
  intro p e s m args below meth c R Q H locs cells slots ls C hw hS hls h1 h2 hr
  exact hr (some (.int v)) lay M H locs cells slots pc ls hp hw hS (by omega) (by omega) ⟨hd.1, ty, hrt, hn⟩
theorem e_retR {v : Nat} {ty : FieldType} (hd : At cc pc 1 pc2 .areturn) (hrt : rt = some (.array ty)) (hp : post (some (.ref v)) lay M) : Ev l x al cc own rt nL d ca sa post pc L [.ref v] lay M := by
  intro p e s m args below meth c R Q H locs cells slots ls C hw hS hls h1 h2 hr
  exact hr (some (.ref v)) lay M H locs cells slots pc ls hp hw hS (by omega) (by omega) ⟨hd.1, _, hrt, Or.inr ⟨ty, rfl⟩⟩
/-! ===== contracts and calls ===== -/
def PcX (x : WX) (al : Bool) (lay : List LC) (M : Mem) (av : List Value) : Array Value → State → Prop := va_Pc av (fun U => KUs x U U.heap ∧ x.2.2.1 ≤ U.heap.size ∧ WR x al lay M U.heap)
def QcX (x : WX) (al : Bool) (post2 : Option Value → List LC → Mem → Prop) : Array Value → State → Outcome → State → Prop := fun _ st o t => (∃ (v : Option Value) (lay' : List LC) (M' : Mem), o = .returned v ∧ post2 v lay' M' ∧ WR x al lay' M' t.heap) ∧ va_F (Ax x) st t
def rmX (d mc ms : Nat) : Room := { frames := d, cells := mc, slots := ms, locals := 32 * d }
def Mt (l : Launch) (x : WX) (al : Bool) (y : MethodName) (cc : ByteArray) (nL : Nat) (rt : Option FieldType) (d mc ms : Nat) (av : List Value) (lay : List LC) (M : Mem) (post2 : Option Value → List LC → Mem → Prop) : Prop :=
  Met l y (Cond.code y cc nL rt :: TBW) (rmX d mc ms) (PcX x al lay M av) (QcX x al post2) mc ms (Ax x)
theorem PcX.blind {av : List Value} : FrameBlind (PcX x al lay M av) := fun a U g mk h => ⟨h.1, KUs.blind g mk a h.2.1, h.2.2.1, h.2.2.2⟩
theorem good_tbw {y : MethodName} {cc : ByteArray} {nL : Nat} {rt : Option FieldType} (h : Cond.code y cc nL rt ∈ TBW) : GoodIn TBW (Cond.code y cc nL rt :: TBW) := fun w hw => by
  have hm : w ∈ TBW := by
    rcases List.mem_cons.mp hw with rfl | q
    · exact h
    · exact q
  exact ⟨hm, good_of_word (List.mem_filter.mp hm).2⟩
def CO (y : MethodName) (cc2 : ByteArray) (nL2 : Nat) (rt2 : Option FieldType) (n : Nat) : Prop := Cond.code y cc2 nL2 rt2 ∈ TBW ∧ Cond.initialized y.cls ∈ TBW ∧ (y.cls ≠ "java/lang/invoke/MethodHandle" ∧ y.cls ≠ "java/lang/invoke/VarHandle" ∧ (parseMethodDescriptor y.desc).map (fun d => d.parameters.length) = some n)
theorem ev_run {st0 rest : List Value} {mc ms : Nat} {post2 : Option Value → List LC → Mem → Prop} {aa : Array Value} (hpc : pc2 = pc + 3)
    (hrun : ∀ (p : Program) (e : Env) (s : State) (m : MethodId) (args : Array Value) (below : List Frame) (meth : Method) (c : Code) (R : Room) (H : Heap) (locs : List Loc) (cells slots : Nat) (ls : Array Slot), Cx x al cc own nL d p s m args meth c R → WR x al lay M H → va_S (Ax x) s.heap H locs → LV ls nL L → cells + mc ≤ R.cells → slots + ms ≤ R.slots → va_Run p l e R s m args below meth c H locs cells slots mc ms (F0 m pc ls st0) rest (QcX x al post2 aa) (Ax x))
    (k : ∀ (v : Option Value) (lay' : List LC) (M' : Mem), post2 v lay' M' → Ev l x al cc own rt nL d ca sa post pc2 L (v.toList ++ rest) lay' M') : Ev l x al cc own rt nL d (ca + mc) (sa + ms) post pc L st0 lay M := by
  subst hpc
  intro p e s m args below meth c R Q H locs cells slots ls C hw hS hls h1 h2 hr
  intro T hT X
  obtain ⟨v, st₀, t, T', L2, h0, X', hL, e1, e2, ⟨⟨v', lay', M', hv, hp, hw'⟩, hz, hk⟩, st1⟩ := hrun p e s m args below meth c R H locs cells slots ls C hw hS hls (by omega) (by omega) T hT X
  cases hv
  rw [h0] at hz hk
  have hS' : va_S (Ax x) s.heap T'.heap (locs ++ L2) := ⟨Nat.le_trans hS.1 (by rw [e1]; exact hz), fun q g1 g2 => by rw [e1, hk q (Nat.lt_of_lt_of_le g1 hS.1) g2]; exact hS.2.1 q g1 g2, fun q hq => by
    rcases List.mem_append.mp hq with h | h
    · exact hS.2.2 q h
    · exact hL q h⟩
  obtain ⟨t2, a1, b1⟩ := k v lay' M' hp p e s m args below meth c R Q T'.heap (locs ++ L2) (cells + mc) (slots + ms) ls C (by rw [e1]; exact hw') hS' hls (by omega) (by omega) hr T' rfl X'
  exact ⟨t2, st1 t2 a1, b1⟩
theorem e_callV {st0 rest As : List Value} {mc ms b ci idx n d2 nL2 : Nat} {fs : List Nat} {y : MethodName} {cc2 : ByteArray} {rt2 : Option FieldType} {post2 : Option Value → List LC → Mem → Prop} {q : vw_C} (hd : At cc pc 3 pc2 (.invokevirtual idx)) (co : CO y cc2 nL2 rt2 n) (hlk : Cond.methodLink own idx y ∈ TBW ∧ Cond.instanceMethod y ∈ TBW ∧ Cond.selects y.cls y y ∈ TBW) (he : lay[b]? = some (0, ci, fs)) (hq : vwCl[ci]? = some q) (hqy : q.1 = y.cls)
    (hM : Mt l x al y cc2 nL2 rt2 d2 mc ms (.ref (x.2.2.1 + b) :: As) lay M post2) (hn : As.length = n) (hdd : d2 + 1 ≤ d ∧ nL2 ≤ 13) (hrs : (rest.map fun v => v.category).sum ≤ 8) (hst : st0 = As.reverse ++ .ref (x.2.2.1 + b) :: rest)
    (k : ∀ (v : Option Value) (lay' : List LC) (M' : Mem), post2 v lay' M' → Ev l x al cc own rt nL d ca sa post pc2 L (v.toList ++ rest) lay' M') : Ev l x al cc own rt nL d (ca + mc) (sa + ms) post pc L st0 lay M := by
  obtain ⟨hd, hpc⟩ := hd
  refine ev_run hpc (aa := (.ref (x.2.2.1 + b) :: As).toArray) (fun p e s m args below meth c R H locs cells slots ls C hw hS hls h1 h2 => ?_) k
  obtain ⟨hx, hb, hml, hown, hts, hku, hfr, hlo, hB, hnm9⟩ := id C
  refine va_runV (As := As) (b := x.2.2.1 + b) (rest := rest) ⟨hx, hb, hml, hown, hts⟩ hM ⟨callB_of n hts (good_tbw co.1) rfl rfl rfl (hts _ co.2.1) (hts _ hlk.1) co.2.2 ⟨by show d2 + 1 ≤ R.frames; omega, by show 8 + (nL2 + 11) + 32 * d2 ≤ R.locals; omega⟩, hts _ hlk.2.1, hts _ hlk.2.2⟩ ⟨PcX.blind, by rw [← hqy]; exact va_recv hku.1 hw.1 hq (ws_get he), fun U hU hW => ⟨rfl, hku.go hS hU hW, by rw [hU]; exact Nat.le_trans hB hS.1, by rw [hU]; exact hw⟩⟩ rfl hn hls.1 hst (lv_room hrs) hd ⟨h1, h2⟩
theorem e_callS {st0 rest As : List Value} {mc ms idx n d2 nL2 : Nat} {y : MethodName} {cc2 : ByteArray} {rt2 : Option FieldType} {post2 : Option Value → List LC → Mem → Prop} (hd : At cc pc 3 pc2 (.invokestatic idx)) (co : CO y cc2 nL2 rt2 n) (hlk : Cond.methodLink own idx y ∈ TBW ∧ Cond.static y ∈ TBW)
    (hM : Mt l x al y cc2 nL2 rt2 d2 mc ms As lay M post2) (hn : As.length = n) (hdd : d2 + 1 ≤ d ∧ nL2 ≤ 13) (hrs : (rest.map fun v => v.category).sum ≤ 8) (hst : st0 = As.reverse ++ rest)
    (k : ∀ (v : Option Value) (lay' : List LC) (M' : Mem), post2 v lay' M' → Ev l x al cc own rt nL d ca sa post pc2 L (v.toList ++ rest) lay' M') : Ev l x al cc own rt nL d (ca + mc) (sa + ms) post pc L st0 lay M := by
  obtain ⟨hd, hpc⟩ := hd
  refine ev_run hpc (aa := As.toArray) (fun p e s m args below meth c R H locs cells slots ls C hw hS hls h1 h2 => ?_) k
  obtain ⟨hx, hb, hml, hown, hts, hku, hfr, hlo, hB, hnm9⟩ := id C
  refine va_runS (As := As) (rest := rest) ⟨hx, hb, hml, hown, hts⟩ hM ⟨callB_of n hts (good_tbw co.1) rfl rfl rfl (hts _ co.2.1) (hts _ hlk.1) co.2.2 ⟨by show d2 + 1 ≤ R.frames; omega, by show 8 + (nL2 + 11) + 32 * d2 ≤ R.locals; omega⟩, hts _ hlk.2⟩ ⟨PcX.blind, fun U hU hW => ⟨rfl, hku.go hS hU hW, by rw [hU]; exact Nat.le_trans hB hS.1, by rw [hU]; exact hw⟩⟩ rfl hn hls.1 hst (lv_room hrs) hd ⟨h1, h2⟩
theorem e_callSN {st0 rest As : List Value} {mc ms idx n d2 nL2 : Nat} {y : MethodName} {cc2 : ByteArray} {rt2 : Option FieldType} {host : String} {post2 : Option Value → List LC → Mem → Prop} (hd : At cc pc 3 pc2 (.invokestatic idx)) (co : CO y cc2 nL2 rt2 n) (hlk : (own, idx, y, host) ∈ NWT ∧ Cond.static y ∈ TBW)
    (hM : Mt l x al y cc2 nL2 rt2 d2 mc ms As lay M post2) (hn : As.length = n) (hdd : d2 + 1 ≤ d ∧ nL2 ≤ 13) (hrs : (rest.map fun v => v.category).sum ≤ 8) (hst : st0 = As.reverse ++ rest)
    (k : ∀ (v : Option Value) (lay' : List LC) (M' : Mem), post2 v lay' M' → Ev l x al cc own rt nL d ca sa post pc2 L (v.toList ++ rest) lay' M') : Ev l x al cc own rt nL d (ca + mc) (sa + ms) post pc L st0 lay M := by
  obtain ⟨hd, hpc⟩ := hd
  refine ev_run hpc (aa := As.toArray) (fun p e s m args below meth c R H locs cells slots ls C hw hS hls h1 h2 => ?_) k
  obtain ⟨hx, hb, hml, hown, hts, hku, hfr, hlo, hB, hnm9⟩ := id C
  refine va_runSN (As := As) (rest := rest) ⟨hx, hb, hml, hown, hts⟩ hM ⟨va_cnB n hts (good_tbw co.1) rfl rfl rfl (hku.2.1 _ hlk.1) (hts _ co.2.1) co.2.2 ⟨by show d2 + 1 ≤ R.frames; omega, by show 8 + (nL2 + 11) + 32 * d2 ≤ R.locals; omega⟩, hts _ hlk.2, trivial⟩ ⟨PcX.blind, fun U hU hW => ⟨rfl, hku.go hS hU hW, by rw [hU]; exact Nat.le_trans hB hS.1, by rw [hU]; exact hw⟩⟩ rfl hn hls.1 hst (lv_room hrs) hd ⟨h1, h2⟩
theorem e_callIN {st0 rest As : List Value} {mc ms b idx n d2 nL2 : Nat} {y : MethodName} {cc2 : ByteArray} {host : String} {post2 : Option Value → List LC → Mem → Prop} (hd : At cc pc 3 pc2 (.invokespecial idx)) (co : CO y cc2 nL2 none n) (hlk : (own, idx, y, host) ∈ NWT ∧ y.name = "<init>" ∧ Cond.instanceMethod y ∈ TBW)
    (hM : Mt l x al y cc2 nL2 none d2 mc ms (.ref (x.2.2.1 + b) :: As) lay M post2) (hn : As.length = n) (hdd : d2 + 1 ≤ d ∧ nL2 ≤ 13) (hrs : (rest.map fun v => v.category).sum ≤ 8) (hst : st0 = As.reverse ++ .ref (x.2.2.1 + b) :: rest)
    (k : ∀ (v : Option Value) (lay' : List LC) (M' : Mem), post2 v lay' M' → Ev l x al cc own rt nL d ca sa post pc2 L (v.toList ++ rest) lay' M') : Ev l x al cc own rt nL d (ca + mc) (sa + ms) post pc L st0 lay M := by
  obtain ⟨hd, hpc⟩ := hd
  refine ev_run hpc (aa := (.ref (x.2.2.1 + b) :: As).toArray) (fun p e s m args below meth c R H locs cells slots ls C hw hS hls h1 h2 => ?_) k
  obtain ⟨hx, hb, hml, hown, hts, hku, hfr, hlo, hB, hnm9⟩ := id C
  refine va_runIN (As := As) (b := x.2.2.1 + b) (rest := rest) ⟨hx, hb, hml, hown, hts⟩ hM ⟨va_cnB n hts (good_tbw co.1) rfl rfl rfl (hku.2.1 _ hlk.1) (hts _ co.2.1) co.2.2 ⟨by show d2 + 1 ≤ R.frames; omega, by show 8 + (nL2 + 11) + 32 * d2 ≤ R.locals; omega⟩, hlk.2.1, hts _ hlk.2.2⟩ ⟨PcX.blind, fun U hU hW => ⟨rfl, hku.go hS hU hW, by rw [hU]; exact Nat.le_trans hB hS.1, by rw [hU]; exact hw⟩⟩ rfl hn hls.1 hst (lv_room hrs) hd ⟨h1, h2⟩
theorem e_callI {st0 rest As : List Value} {mc ms b idx n d2 nL2 : Nat} {y : MethodName} {cc2 : ByteArray} {post2 : Option Value → List LC → Mem → Prop} (hd : At cc pc 3 pc2 (.invokespecial idx)) (co : CO y cc2 nL2 none n) (hlk : Cond.methodLink own idx y ∈ TBW ∧ y.name = "<init>" ∧ Cond.instanceMethod y ∈ TBW)
    (hM : Mt l x al y cc2 nL2 none d2 mc ms (.ref (x.2.2.1 + b) :: As) lay M post2) (hn : As.length = n) (hdd : d2 + 1 ≤ d ∧ nL2 ≤ 13) (hrs : (rest.map fun v => v.category).sum ≤ 8) (hst : st0 = As.reverse ++ .ref (x.2.2.1 + b) :: rest)
    (k : ∀ (v : Option Value) (lay' : List LC) (M' : Mem), post2 v lay' M' → Ev l x al cc own rt nL d ca sa post pc2 L (v.toList ++ rest) lay' M') : Ev l x al cc own rt nL d (ca + mc) (sa + ms) post pc L st0 lay M := by
  obtain ⟨hd, hpc⟩ := hd
  refine ev_run hpc (aa := (.ref (x.2.2.1 + b) :: As).toArray) (fun p e s m args below meth c R H locs cells slots ls C hw hS hls h1 h2 => ?_) k
  obtain ⟨hx, hb, hml, hown, hts, hku, hfr, hlo, hB, hnm9⟩ := id C
  refine va_runI (As := As) (b := x.2.2.1 + b) (rest := rest) ⟨hx, hb, hml, hown, hts⟩ hM ⟨callB_of n hts (good_tbw co.1) rfl rfl rfl (hts _ co.2.1) (hts _ hlk.1) co.2.2 ⟨by show d2 + 1 ≤ R.frames; omega, by show 8 + (nL2 + 11) + 32 * d2 ≤ R.locals; omega⟩, hlk.2.1, hts _ hlk.2.2⟩ ⟨PcX.blind, fun U hU hW => ⟨rfl, hku.go hS hU hW, by rw [hU]; exact Nat.le_trans hB hS.1, by rw [hU]; exact hw⟩⟩ rfl hn hls.1 hst (lv_room hrs) hd ⟨h1, h2⟩
/-- the start's locals, by place -/
def lvA : List Value → List (Option Value)
  | [] => []
  | v :: vs => if v.category = 2 then some v :: none :: lvA vs else some v :: lvA vs
theorem lvA_at : ∀ (vs : List Value) (n i : Nat) (v : Value), (lvA vs)[i]? = some (some v) → (n + i, v) ∈ lv_args n vs
  | [], n, i, v, h => by simp [lvA] at h
  | w :: vs, n, i, v, h => by
    unfold lvA at h
    unfold lv_args
    by_cases hc : w.category = 2
    · rw [if_pos hc] at h ⊢
      match i, h with
      | 0, h => simp at h; subst h; exact List.mem_cons_self
      | 1, h => simp at h
      | i + 2, h =>
        have := lvA_at vs (n + 2) i v (by simpa using h)
        refine List.mem_cons_of_mem _ ?_
        rw [show n + (i + 2) = n + 2 + i by omega]
        exact this
    · rw [if_neg hc] at h ⊢
      match i, h with
      | 0, h => simp at h; subst h; exact List.mem_cons_self
      | i + 1, h =>
        have := lvA_at vs (n + 1) i v (by simpa using h)
        refine List.mem_cons_of_mem _ ?_
        rw [show n + (i + 1) = n + 1 + i by omega]
        exact this
/-- a contract out of a walk -/
theorem mt_of {y : MethodName} {av : List Value} {mc ms : Nat} {L0 : List (Option Value)} (hy : plainName y.cls = true) (hown : y.cls = own) (hn : (lg_sl av).length ≤ nL) (hL : ∀ (i : Nat) (v : Value), L0[i]? = some (some v) → (lvA av)[i]? = some (some v))
    (k : Ev l x al cc own rt nL d mc ms post 0 L0 [] lay M) (hal : al = true → y.name = "<init>" := by first | (intro h; cases h; done) | (intro _; rfl)) : Mt l x al y cc nL rt d mc ms av lay M post := by
  refine Met.ofW (cc := cc) (maxL := nL) (ret := rt) hy rfl ?_
  intro p e s m args below meth c s₁ B hml hv
  obtain ⟨rfl, hku, hB, hw⟩ := hv
  have hts := atoms_spec (ws := Cond.code y cc nL rt :: TBW) B.pre
  have ho : s.vm.findClass own = some m.cls := hown ▸ findClass_of_methodNamed B.named
  have hl := lv_entry av (n := nL) hn
  rw [lg_entry_eq]
  generalize (lg_sl av ++ List.replicate (nL - (lg_sl av).length) Slot.unset).toArray = ls at hl ⊢
  have hr := B.returns
  have hlk := B.notSynchronized
  refine k p e s m _ below meth c (rmX d mc ms) _ s.heap [] 0 0 ls ⟨B.exec, B.bytes, hml, ho, fun w h => hts w (List.mem_cons_of_mem _ h), hku, Nat.le_refl _, Nat.le_refl _, hB, fun h => (name_of_methodNamed B.named B.method).1.trans (hal h)⟩ hw va_S.rf ⟨hl.1, hl.2.1, fun i v h => hl.2.2 (i, v) (by have := lvA_at av 0 i v (hL i v h); rwa [Nat.zero_add] at this)⟩ (by show 0 + mc ≤ mc; omega) (by show 0 + ms ≤ ms; omega) ?_
  intro v lay' M' H' locs' cells' slots' pc' ls' hp hw' hS' hc hs hra
  refine W.widen (k := mc) (n := ms) hc hs ?_
  have hq : ∀ t : State, t.heap = H' → s.WarmedH t.vm → QcX x al post av.toArray s (.returned v) t := fun t ht _ => ⟨⟨v, lay', M', rfl, hp, by rw [ht]; exact hw'⟩, hS'.F ht⟩
  match v, hra, hq with
  | none, hra, hq => exact W.vret B.exec B.bytes (hr.trans hra.2) hq hS'.2.2 hra.1
  | some (.int i), ⟨h1, ty, h2, h3⟩, hq => exact W.zret B.exec B.bytes (hr.trans h2) h3 hq hS'.2.2 h1
  | some (.ref a), ⟨h1, ty, h2, h3⟩, hq => exact W.aret B.exec B.bytes (hr.trans h2) h3 (Or.inr ⟨a, rfl⟩) hq hS'.2.2 h1
end EV

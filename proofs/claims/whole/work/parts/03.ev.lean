/-- links of nest mates -/
def NWT : List (String × Nat × MethodName × String) := [("QuiverDesk", 9, ⟨"QuiverDesk$Quiver", "<init>", "()V"⟩, "QuiverDesk"), ("QuiverDesk$Past", 24, ⟨"QuiverDesk$Quiver", "<init>", "()V"⟩, "QuiverDesk"), ("QuiverDesk", 36, ⟨"QuiverDesk$Text", "<init>", "()V"⟩, "QuiverDesk"), ("QuiverDesk", 43, ⟨"QuiverDesk$Ways", "<init>", "()V"⟩, "QuiverDesk"), ("QuiverDesk", 50, ⟨"QuiverDesk$Roots", "<init>", "()V"⟩, "QuiverDesk"), ("QuiverDesk", 57, ⟨"QuiverDesk$Partition", "<init>", "()V"⟩, "QuiverDesk"), ("QuiverDesk", 79, ⟨"QuiverDesk$Shelf", "<init>", "()V"⟩, "QuiverDesk"), ("QuiverDesk$Quiver", 34, ⟨"QuiverDesk", "copyRow", "([I[I)V"⟩, "QuiverDesk"), ("QuiverDesk$Roots", 94, ⟨"QuiverDesk", "copyRow", "([I[I)V"⟩, "QuiverDesk"), ("QuiverDesk$Ways", 57, ⟨"QuiverDesk", "isSameRow", "([I[II)Z"⟩, "QuiverDesk"), ("QuiverDesk$Roots", 118, ⟨"QuiverDesk", "isSameRow", "([I[II)Z"⟩, "QuiverDesk"), ("QuiverDesk$Partition", 34, ⟨"QuiverDesk", "copyRow", "([I[I)V"⟩, "QuiverDesk"), ("QuiverDesk$Ways", 50, ⟨"QuiverDesk", "totalOf", "([II)I"⟩, "QuiverDesk")]
/-- String constants of the text: entry, text, place -/
def SRL : List (Nat × String × Nat) := [(38, "quiver", 0), (47, "arrow", 1), (52, "row", 2)]
def bytS : List (List Int32) := [[113, 117, 105, 118, 101, 114], [97, 114, 114, 111, 119], [114, 111, 119]]
/-! ===== the static world: cells by number, a memory of ints ===== -/
abbrev LC : Type := Nat × Nat × List Nat
abbrev Mem : Type := Nat → Nat → Int32
/-- classes, array classes, base; String constants and their bytes; the script: cell, length, ints -/
abbrev WX : Type := va_G × (Nat → ClassId) × Nat × (Nat → Nat) × (Nat → Nat) × Nat × Nat × (Nat → Int32)
def cv (B c : Nat) (i : Int32) : Value := match c with
  | 0 => .int i
  | 1 => .null
  | k + 2 => .ref (B + k)
def cr (B c : Nat) : Option Nat := match c with
  | 0 => none
  | 1 => none
  | k + 2 => some (B + k)
def toE (x : WX) (e : LC) (f : Nat → Int32) : va_E := match e.1 with
  | 0 => .inr (e.2.1, e.2.2.mapIdx (fun j c => cv x.2.2.1 c (f j)))
  | 1 => .inl (x.2.1 0, e.2.1, .inl f)
  | 2 => .inl (x.2.1 1, e.2.1, .inl f)
  | t + 3 => .inl (x.2.1 (t + 2), e.2.1, .inr (.inr (.inr (.inr (fun j => cr x.2.2.1 (e.2.2.getD j 1))))))
def wsOf (x : WX) (lay : List LC) (M : Mem) : va_W := lay.mapIdx (fun k e => (x.2.2.1 + k, toE x e (M k)))
def tysOf (x : WX) : List (ClassId × FieldType) := [(x.2.1 0, .int), (x.2.1 1, .boolean), (x.2.1 2, .object "QuiverDesk$Quiver"), (x.2.1 3, .object "QuiverDesk$Shelf"), (x.2.1 4, .array .int)]
def Ax (x : WX) : Nat → Prop := fun q => x.2.2.1 ≤ q
theorem ws_get {x : WX} {lay : List LC} {M : Mem} {k : Nat} {e : LC} (h : lay[k]? = some e) : (wsOf x lay M)[k]? = some (x.2.2.1 + k, toE x e (M k)) := by
  simp [wsOf, List.getElem?_mapIdx, h]
theorem ws_set {x : WX} {lay : List LC} {M : Mem} {k : Nat} {e e' : LC} {f : Nat → Int32} (h : lay[k]? = some e) : (wsOf x lay M).set k (x.2.2.1 + k, toE x e' f) = wsOf x (lay.set k e') (va_up M k f) := by
  have hl := (List.getElem?_eq_some_iff.mp h).1
  apply List.ext_getElem?
  intro j
  by_cases hj : j = k
  · subst hj
    simp [wsOf, List.getElem?_set, List.getElem?_mapIdx, hl, va_up]
  · have hj' : ¬ k = j := fun q => hj q.symm
    simp [wsOf, List.getElem?_set, List.getElem?_mapIdx, va_up, hj, hj']
theorem lay_same {lay : List LC} {k : Nat} {e : LC} (h : lay[k]? = some e) : lay.set k e = lay := by
  apply List.ext_getElem?
  intro j
  by_cases hj : j = k
  · subst hj
    obtain ⟨hl, he⟩ := List.getElem?_eq_some_iff.mp h
    simp [List.getElem?_set, hl, he]
  · have hj' : ¬ k = j := fun q => hj q.symm
    simp [List.getElem?_set, hj']
theorem ws_upd {x : WX} {lay : List LC} {M : Mem} {k : Nat} {e : LC} {f : Nat → Int32} (h : lay[k]? = some e) : (wsOf x lay M).set k (x.2.2.1 + k, toE x e f) = wsOf x lay (va_up M k f) := by
  rw [ws_set h, lay_same h]
/-- one int of the memory is another -/
def um (M : Mem) (a k : Nat) (v : Int32) : Mem := va_up M a (upd (M a) k v)
/-- a row of the memory is another -/
def uc (M : Mem) (a : Nat) (f : Nat → Int32) : Mem := va_up M a f
theorem obj_put {B : Nat} {fs : List Nat} {f : Nat → Int32} {k : Nat} {v : Int32} (h : fs[k]? = some 0) : (fs.mapIdx (fun j c => cv B c (f j))).set k (.int v) = fs.mapIdx (fun j c => cv B c (upd f k v j)) := by
  obtain ⟨hl, he⟩ := List.getElem?_eq_some_iff.mp h
  apply List.ext_getElem?
  intro j
  by_cases hj : j = k
  · subst hj
    simp [List.getElem?_set, List.getElem?_mapIdx, hl, he, cv, pk_us]
  · have hj' : ¬ k = j := fun q => hj q.symm
    simp [List.getElem?_set, List.getElem?_mapIdx, hj', pk_un hj]
theorem obj_putR {B : Nat} {fs : List Nat} {f : Nat → Int32} {k r : Nat} (hl : k < fs.length) : (fs.mapIdx (fun j c => cv B c (f j))).set k (.ref (B + r)) = (fs.set k (r + 2)).mapIdx (fun j c => cv B c (f j)) := by
  apply List.ext_getElem?
  intro j
  by_cases hj : j = k
  · subst hj
    simp [List.getElem?_set, List.getElem?_mapIdx, hl, cv]
  · have hj' : ¬ k = j := fun q => hj q.symm
    simp [List.getElem?_set, List.getElem?_mapIdx, hj']
/-! ===== locals, by place ===== -/
def LV (ls : Array Slot) (nL : Nat) (L : List (Option Value)) : Prop := ls.size = nL ∧ lv_wf ls ∧ ∀ (i : Nat) (v : Value), L[i]? = some (some v) → ls[i]? = some (.val v)
def asc (L : List (Option Value)) : List (Nat × Value) := (List.range L.length).filterMap (fun i => (L[i]?.join).map (fun v => (i, v)))
theorem mem_asc {L : List (Option Value)} {q : Nat × Value} : q ∈ asc L ↔ L[q.1]? = some (some q.2) := by
  obtain ⟨i, v⟩ := q
  unfold asc
  rw [List.mem_filterMap]
  constructor
  · rintro ⟨j, hj, h⟩
    cases hL : L[j]? with
    | none => rw [hL] at h; simp at h
    | some o =>
      cases o with
      | none => rw [hL] at h; simp at h
      | some w =>
        rw [hL] at h
        simp at h
        obtain ⟨rfl, rfl⟩ := h
        exact hL
  · intro h
    have h : L[i]? = some (some v) := h
    refine ⟨i, List.mem_range.mpr (List.getElem?_eq_some_iff.mp h).1, ?_⟩
    rw [h]
    rfl
theorem LV.has {ls : Array Slot} {nL : Nat} {L : List (Option Value)} (h : LV ls nL L) : lv_has ls nL (asc L) := ⟨h.1, h.2.1, fun q hq => h.2.2 q.1 q.2 (mem_asc.mp hq)⟩
def cat1 (L : List (Option Value)) (i : Nat) : Bool := match i with
  | 0 => true
  | j + 1 => match L[j]? with
    | some (some v) => v.category == 1
    | _ => true
theorem LV.set {ls : Array Slot} {nL : Nat} {L : List (Option Value)} {i : Nat} {v : Value} (hc : cat1 L i = true) (h : lv_has ls nL ((i, v) :: (asc L).filter (fun q => !(q.1 == i) && !(q.1 + 1 == i && q.2.category == 2)))) : LV ls nL (L.set i (some v)) := by
  refine ⟨h.1, h.2.1, fun j w hj => ?_⟩
  by_cases hji : j = i
  · subst hji
    by_cases hl : j < L.length
    · rw [List.getElem?_set_self hl] at hj
      cases hj
      exact h.2.2 (j, v) List.mem_cons_self
    · rw [List.getElem?_eq_none (by rw [List.length_set]; omega)] at hj
      cases hj
  · rw [List.getElem?_set_ne (Ne.symm hji)] at hj
    refine h.2.2 (j, w) (List.mem_cons_of_mem _ (List.mem_filter.mpr ⟨mem_asc.mpr hj, ?_⟩))
    have h1 : (j == i) = false := by simp [hji]
    by_cases h2 : j + 1 = i
    · subst h2
      simp only [cat1, hj] at hc
      have h3 : w.category = 1 := by simpa using hc
      simp [h3]
    · have h3 : (j + 1 == i) = false := by simp [h2]
      simp [h1, h3]
/-! ===== what is known of the tables, the world, the place ===== -/
def OVL : List FieldType := [.object "QuiverDesk$Quiver", .object "QuiverDesk$Shelf", .array .int]
def KUs (x : WX) (U : State) (H : Heap) : Prop :=
  va_K x.1 vwCl (tysOf x) U ∧ (∀ q ∈ NWT, va_Nw (.methodLinkNest q.1 q.2.1 q.2.2.1 q.2.2.2) U) ∧ vk_S 3 [6, 5, 3] bytS x.2.2.2.1 x.2.2.2.2.1 (Ax x) U H ∧ (∀ q ∈ SRL, vk_R RX5 q.1 q.2.1 (x.2.2.2.1 q.2.2) U) ∧ va_Z "java/lang/String" "COMPACT_STRINGS" "Z" (.int 1) (Ax x) U H ∧ va_Zq "jdk/internal/util/Preconditions" "SIOOBE_FORMATTER" "Ljava/util/function/BiFunction;" (Ax x) U H ∧ (∀ ty ∈ OVL, (Cond.arrayOver ty).before #[] U = true) ∧ va_X x.2.2.2.2.2.1 x.2.2.2.2.2.2.1 x.2.2.2.2.2.2.2 U H ∧ x.2.2.2.2.2.1 < x.2.2.1
def WR (x : WX) (al : Bool) (lay : List LC) (M : Mem) (H : Heap) : Prop := va_P x.1 vwCl (wsOf x lay M) H ∧ va_D (Ax x) (wsOf x lay M) ∧ (al = true → H.size = x.2.2.1 + lay.length)
theorem KUs.go {x : WX} {s U : State} {H : Heap} {locs : List Loc} (h : KUs x s s.heap) (hS : va_S (Ax x) s.heap H locs) (hU : U.heap = H) (hW : s.WarmedH U.vm) : KUs x U U.heap := by
  obtain ⟨h1, h2, h3, h4, h5, h6, h7, h8, h9⟩ := h
  refine ⟨va_K.moved hW.alike h1, fun q hq => va_Nw.warmM hW (h2 q hq), ?_, fun q hq => vk_R.warm hW (h4 q hq), ?_, ?_, fun ty hty => (show (Cond.arrayOver ty).before #[] (s.setVm U.vm) = true from (Cond.arrayOver_setVmC hW.alike ty).trans (h7 ty hty)), ?_, h9⟩
  · rw [hU]
    exact vk_S.moved hW.alike (h3.kept hS.2.1)
  · rw [hU]
    exact va_Z.moved hW.alike (h5.kept hS.2.1)
  · rw [hU]
    exact va_Zq.moved hW.alike (h6.kept hS.2.1)
  · rw [hU]
    have hb : x.2.2.2.2.2.1 < s.heap.size := by
      obtain ⟨scr, g1, -⟩ := h8
      exact (Array.getElem?_eq_some_iff.mp g1).1
    exact va_X.moved hW.alike (h8.kept (hS.2.1 _ hb (Nat.not_le.mpr h9)))
theorem KUs.blind {x : WX} {U : State} (g : JFrame) (mk : MethodId) (a : Array Value) (h : KUs x U U.heap) : KUs x (U.calling g mk a) (U.calling g mk a).heap := by
  obtain ⟨h1, h2, h3, h4, h5, h6, h7, h8, h9⟩ := h
  exact ⟨va_K.moved (u := U) (U := U.calling g mk a) (Vm.Alike.refl U.vm) h1, fun q hq => va_Nw.same (u := U) rfl rfl (h2 q hq), vk_S.moved (u := U) (U := U.calling g mk a) (Vm.Alike.refl U.vm) h3, fun q hq => vk_R.same (u := U) rfl (h4 q hq), va_Z.moved (u := U) (U := U.calling g mk a) (Vm.Alike.refl U.vm) h5, va_Zq.moved (u := U) (U := U.calling g mk a) (Vm.Alike.refl U.vm) h6, fun ty hty => h7 ty hty, va_X.moved (u := U) (U := U.calling g mk a) (Vm.Alike.refl U.vm) h8, h9⟩
def Cx (x : WX) (al : Bool) (cc : ByteArray) (own : String) (nL d : Nat) (p : Program) (s : State) (m : MethodId) (args : Array Value) (meth : Method) (c : Code) (R : Room) : Prop :=
  p.tables.exec = Jvm.exec ∧ c.code = cc ∧ c.maxLocals = nL ∧ s.vm.findClass own = some m.cls ∧ (∀ w ∈ TBW, w.before args s = true) ∧ KUs x s s.heap ∧ d ≤ R.frames ∧ 32 * d ≤ R.locals ∧ x.2.2.1 ≤ s.heap.size ∧ (al = true → meth.name = "<init>")
def RetAt (cc : ByteArray) (rt : Option FieldType) (pc : Nat) (v : Option Value) : Prop := match v with
  | none => decode cc pc = .ok (.return_, 1) ∧ rt = none
  | some (.int i) => decode cc pc = .ok (.ireturn, 1) ∧ ∃ ty, rt = some ty ∧ narrow ty (.int i) = .int i
  | some (.ref _) => decode cc pc = .ok (.areturn, 1) ∧ ∃ ty, rt = some ty ∧ ((∃ n, ty = .object n) ∨ ∃ t, ty = .array t)
  | _ => False
/-- from here on, with these locals, this stack, this world: the method ends, with post -/
def Ev (l : Launch) (x : WX) (al : Bool) (cc : ByteArray) (own : String) (rt : Option FieldType) (nL d ca sa : Nat) (post : Option Value → List LC → Mem → Prop) (pc : Nat) (L : List (Option Value)) (st : List Value) (lay : List LC) (M : Mem) : Prop :=
  ∀ (p : Program) (e : Env) (s : State) (m : MethodId) (args : Array Value) (below : List Frame) (meth : Method) (c : Code) (R : Room) (Q : State → Prop) (H : Heap) (locs : List Loc) (cells slots : Nat) (ls : Array Slot),
    Cx x al cc own nL d p s m args meth c R → WR x al lay M H → va_S (Ax x) s.heap H locs → LV ls nL L → cells + ca ≤ R.cells → slots + sa ≤ R.slots →
    (∀ (v : Option Value) (lay' : List LC) (M' : Mem) (H' : Heap) (locs' : List Loc) (cells' slots' : Nat) (pc' : Nat) (ls' : Array Slot), post v lay' M' → WR x al lay' M' H' → va_S (Ax x) s.heap H' locs' → cells' ≤ R.cells → slots' ≤ R.slots → RetAt cc rt pc' v → W p l e R s m args below meth c H' locs' cells' slots' Q (F0 m pc' ls' v.toList)) →
    W p l e R s m args below meth c H locs cells slots Q (F0 m pc ls st)
section EV
variable {l : Launch} {x : WX} {al : Bool} {cc : ByteArray} {own : String} {rt : Option FieldType} {nL d ca sa : Nat} {post : Option Value → List LC → Mem → Prop} {pc pc2 : Nat} {L : List (Option Value)} {st : List Value} {lay : List LC} {M : Mem}
/-- a stack row of the kit, taken up -/
theorem Ev.lift {L2 : List (Option Value)} {st2 : List Value} (h : ∀ (p : Program) (e : Env) (s : State) (m : MethodId) (args : Array Value) (below : List Frame) (meth : Method) (c : Code) (R : Room) (Q : State → Prop) (H : Heap) (locs : List Loc) (cells slots : Nat) (ls : Array Slot), p.tables.exec = Jvm.exec → c.code = cc → (∀ w ∈ TBW, w.before args s = true) → s.vm.findClass own = some m.cls → LV ls nL L → (∀ ls2, LV ls2 nL L2 → W p l e R s m args below meth c H locs cells slots Q (F0 m pc2 ls2 st2)) → W p l e R s m args below meth c H locs cells slots Q (F0 m pc ls st))
    (k : Ev l x al cc own rt nL d ca sa post pc2 L2 st2 lay M) : Ev l x al cc own rt nL d ca sa post pc L st lay M := by
  intro p e s m args below meth c R Q H locs cells slots ls C hw hS hl h1 h2 hr
  exact h p e s m args below meth c R Q H locs cells slots ls C.1 C.2.1 C.2.2.2.2.1 C.2.2.2.1 hl (fun ls2 hl2 => k p e s m args below meth c R Q H locs cells slots ls2 C hw hS hl2 h1 h2 hr)
theorem e_iload_n {i : Fin 4} {v : Int32} (hd : At cc pc 1 pc2 (.iload_n i)) (hv : L[(i : Nat)]? = some (some (.int v))) (k : Ev l x al cc own rt nL d ca sa post pc2 L (.int v :: st) lay M) : Ev l x al cc own rt nL d ca sa post pc L (st) lay M := by
  obtain ⟨hd, rfl⟩ := hd
  exact Ev.lift (fun p e s m args below meth c R Q H locs cells slots ls hx hb hts hown hl k => lv_iload_n hx hb hd rfl (hl.2.2 _ _ hv) (k ls hl)) k
theorem e_iload {i : Nat} {v : Int32} (hd : At cc pc 2 pc2 (.iload i)) (hv : L[i]? = some (some (.int v))) (k : Ev l x al cc own rt nL d ca sa post pc2 L (.int v :: st) lay M) : Ev l x al cc own rt nL d ca sa post pc L (st) lay M := by
  obtain ⟨hd, rfl⟩ := hd
  exact Ev.lift (fun p e s m args below meth c R Q H locs cells slots ls hx hb hts hown hl k => lv_iload hx hb hd (hl.2.2 _ _ hv) (k ls hl)) k
theorem e_aload_n {i : Fin 4} {v : Nat} (hd : At cc pc 1 pc2 (.aload_n i)) (hv : L[(i : Nat)]? = some (some (.ref v))) (k : Ev l x al cc own rt nL d ca sa post pc2 L (.ref v :: st) lay M) : Ev l x al cc own rt nL d ca sa post pc L (st) lay M := by
  obtain ⟨hd, rfl⟩ := hd
  exact Ev.lift (fun p e s m args below meth c R Q H locs cells slots ls hx hb hts hown hl k => lv_aload_n hx hb hd rfl (hl.2.2 _ _ hv) (k ls hl)) k
theorem e_aload {i : Nat} {v : Nat} (hd : At cc pc 2 pc2 (.aload i)) (hv : L[i]? = some (some (.ref v))) (k : Ev l x al cc own rt nL d ca sa post pc2 L (.ref v :: st) lay M) : Ev l x al cc own rt nL d ca sa post pc L (st) lay M := by
  obtain ⟨hd, rfl⟩ := hd
  exact Ev.lift (fun p e s m args below meth c R Q H locs cells slots ls hx hb hts hown hl k => lv_aload hx hb hd (hl.2.2 _ _ hv) (k ls hl)) k
theorem e_lload_n {i : Fin 4} {v : Int64} (hd : At cc pc 1 pc2 (.lload_n i)) (hv : L[(i : Nat)]? = some (some (.long v))) (k : Ev l x al cc own rt nL d ca sa post pc2 L (.long v :: st) lay M) : Ev l x al cc own rt nL d ca sa post pc L (st) lay M := by
  obtain ⟨hd, rfl⟩ := hd
  exact Ev.lift (fun p e s m args below meth c R Q H locs cells slots ls hx hb hts hown hl k => lv_lload_n hx hb hd rfl (hl.2.2 _ _ hv) (k ls hl)) k
theorem e_lload {i : Nat} {v : Int64} (hd : At cc pc 2 pc2 (.lload i)) (hv : L[i]? = some (some (.long v))) (k : Ev l x al cc own rt nL d ca sa post pc2 L (.long v :: st) lay M) : Ev l x al cc own rt nL d ca sa post pc L (st) lay M := by
  obtain ⟨hd, rfl⟩ := hd
  exact Ev.lift (fun p e s m args below meth c R Q H locs cells slots ls hx hb hts hown hl k => lv_lload hx hb hd (hl.2.2 _ _ hv) (k ls hl)) k
theorem e_iconst {n : Int} {v : Int32} (hd : At cc pc 1 pc2 (.iconst n)) (hv : Int32.ofInt n = v) (k : Ev l x al cc own rt nL d ca sa post pc2 L (.int v :: st) lay M) : Ev l x al cc own rt nL d ca sa post pc L (st) lay M := by
  obtain ⟨hd, rfl⟩ := hd
  exact Ev.lift (fun p e s m args below meth c R Q H locs cells slots ls hx hb hts hown hl k => lv_iconst hx hb hd hv (k ls hl)) k
theorem e_bipush {n : Int} {v : Int32} (hd : At cc pc 2 pc2 (.bipush n)) (hv : (Int8.ofInt n).toInt32 = v) (k : Ev l x al cc own rt nL d ca sa post pc2 L (.int v :: st) lay M) : Ev l x al cc own rt nL d ca sa post pc L (st) lay M := by
  obtain ⟨hd, rfl⟩ := hd
  exact Ev.lift (fun p e s m args below meth c R Q H locs cells slots ls hx hb hts hown hl k => lv_bipush hx hb hd hv (k ls hl)) k
theorem e_sipush {n : Int} {v : Int32} (hd : At cc pc 3 pc2 (.sipush n)) (hv : (Int16.ofInt n).toInt32 = v) (k : Ev l x al cc own rt nL d ca sa post pc2 L (.int v :: st) lay M) : Ev l x al cc own rt nL d ca sa post pc L (st) lay M := by
  obtain ⟨hd, rfl⟩ := hd
  exact Ev.lift (fun p e s m args below meth c R Q H locs cells slots ls hx hb hts hown hl k => lv_sipush hx hb hd hv (k ls hl)) k
theorem e_lconst {n : Fin 2} {v : Int64} (hd : At cc pc 1 pc2 (.lconst n)) (hv : Int64.ofNat (n : Nat) = v) (k : Ev l x al cc own rt nL d ca sa post pc2 L (.long v :: st) lay M) : Ev l x al cc own rt nL d ca sa post pc L (st) lay M := by
  obtain ⟨hd, rfl⟩ := hd
  exact Ev.lift (fun p e s m args below meth c R Q H locs cells slots ls hx hb hts hown hl k => lv_lconst hx hb hd hv (k ls hl)) k
theorem e_ldc {n : Nat} {v : Int32} (hd : At cc pc 2 pc2 (.ldc n)) (hv : Cond.constant own n v ∈ TBW) (k : Ev l x al cc own rt nL d ca sa post pc2 L (.int v :: st) lay M) : Ev l x al cc own rt nL d ca sa post pc L (st) lay M := by
  obtain ⟨hd, rfl⟩ := hd
  exact Ev.lift (fun p e s m args below meth c R Q H locs cells slots ls hx hb hts hown hl k => lv_ldc hx hb hown (hts _ hv) hd (k ls hl)) k
theorem e_ldc_w {n : Nat} {v : Int32} (hd : At cc pc 3 pc2 (.ldc_w n)) (hv : Cond.constant own n v ∈ TBW) (k : Ev l x al cc own rt nL d ca sa post pc2 L (.int v :: st) lay M) : Ev l x al cc own rt nL d ca sa post pc L (st) lay M := by
  obtain ⟨hd, rfl⟩ := hd
  exact Ev.lift (fun p e s m args below meth c R Q H locs cells slots ls hx hb hts hown hl k => lv_ldcw hx hb hown (hts _ hv) hd (k ls hl)) k
theorem e_ldc2_w {n : Nat} {v : Int64} (hd : At cc pc 3 pc2 (.ldc2_w n)) (hv : Cond.constantLong own n v ∈ TBW) (k : Ev l x al cc own rt nL d ca sa post pc2 L (.long v :: st) lay M) : Ev l x al cc own rt nL d ca sa post pc L (st) lay M := by
  obtain ⟨hd, rfl⟩ := hd
  exact Ev.lift (fun p e s m args below meth c R Q H locs cells slots ls hx hb hts hown hl k => lv_ldc2 hx hb hown (hts _ hv) hd (k ls hl)) k
theorem e_iadd {u v : Int32} (hd : At cc pc 1 pc2 (.iadd)) (k : Ev l x al cc own rt nL d ca sa post pc2 L (.int (u + v) :: st) lay M) : Ev l x al cc own rt nL d ca sa post pc L (.int v :: .int u :: st) lay M := by
  obtain ⟨hd, rfl⟩ := hd
  exact Ev.lift (fun p e s m args below meth c R Q H locs cells slots ls hx hb hts hown hl k => lv_iadd hx hb hd (k ls hl)) k
theorem e_isub {u v : Int32} (hd : At cc pc 1 pc2 (.isub)) (k : Ev l x al cc own rt nL d ca sa post pc2 L (.int (u - v) :: st) lay M) : Ev l x al cc own rt nL d ca sa post pc L (.int v :: .int u :: st) lay M := by
  obtain ⟨hd, rfl⟩ := hd
  exact Ev.lift (fun p e s m args below meth c R Q H locs cells slots ls hx hb hts hown hl k => lv_isub hx hb hd (k ls hl)) k
theorem e_imul {u v : Int32} (hd : At cc pc 1 pc2 (.imul)) (k : Ev l x al cc own rt nL d ca sa post pc2 L (.int (u * v) :: st) lay M) : Ev l x al cc own rt nL d ca sa post pc L (.int v :: .int u :: st) lay M := by
  obtain ⟨hd, rfl⟩ := hd
  exact Ev.lift (fun p e s m args below meth c R Q H locs cells slots ls hx hb hts hown hl k => lv_imul hx hb hd (k ls hl)) k
theorem e_iand {u v : Int32} (hd : At cc pc 1 pc2 (.iand)) (k : Ev l x al cc own rt nL d ca sa post pc2 L (.int (u &&& v) :: st) lay M) : Ev l x al cc own rt nL d ca sa post pc L (.int v :: .int u :: st) lay M := by
  obtain ⟨hd, rfl⟩ := hd
  exact Ev.lift (fun p e s m args below meth c R Q H locs cells slots ls hx hb hts hown hl k => lv_iand hx hb hd (k ls hl)) k
theorem e_ior {u v : Int32} (hd : At cc pc 1 pc2 (.ior)) (k : Ev l x al cc own rt nL d ca sa post pc2 L (.int (u ||| v) :: st) lay M) : Ev l x al cc own rt nL d ca sa post pc L (.int v :: .int u :: st) lay M := by
  obtain ⟨hd, rfl⟩ := hd
  exact Ev.lift (fun p e s m args below meth c R Q H locs cells slots ls hx hb hts hown hl k => lv_ior hx hb hd (k ls hl)) k
theorem e_ixor {u v : Int32} (hd : At cc pc 1 pc2 (.ixor)) (k : Ev l x al cc own rt nL d ca sa post pc2 L (.int (u ^^^ v) :: st) lay M) : Ev l x al cc own rt nL d ca sa post pc L (.int v :: .int u :: st) lay M := by
  obtain ⟨hd, rfl⟩ := hd
  exact Ev.lift (fun p e s m args below meth c R Q H locs cells slots ls hx hb hts hown hl k => lv_ixor hx hb hd (k ls hl)) k
theorem e_ishl {u v : Int32} (hd : At cc pc 1 pc2 (.ishl)) (k : Ev l x al cc own rt nL d ca sa post pc2 L (.int (u <<< (v &&& 31)) :: st) lay M) : Ev l x al cc own rt nL d ca sa post pc L (.int v :: .int u :: st) lay M := by
  obtain ⟨hd, rfl⟩ := hd
  exact Ev.lift (fun p e s m args below meth c R Q H locs cells slots ls hx hb hts hown hl k => lv_ishl hx hb hd (k ls hl)) k
theorem e_ishr {u v : Int32} (hd : At cc pc 1 pc2 (.ishr)) (k : Ev l x al cc own rt nL d ca sa post pc2 L (.int (u >>> (v &&& 31)) :: st) lay M) : Ev l x al cc own rt nL d ca sa post pc L (.int v :: .int u :: st) lay M := by
  obtain ⟨hd, rfl⟩ := hd
  exact Ev.lift (fun p e s m args below meth c R Q H locs cells slots ls hx hb hts hown hl k => lv_ishr hx hb hd (k ls hl)) k
theorem e_idiv {u v : Int32} (hd : At cc pc 1 pc2 (.idiv)) (hv : ¬ v = 0) (k : Ev l x al cc own rt nL d ca sa post pc2 L (.int (u / v) :: st) lay M) : Ev l x al cc own rt nL d ca sa post pc L (.int v :: .int u :: st) lay M := by
  obtain ⟨hd, rfl⟩ := hd
  exact Ev.lift (fun p e s m args below meth c R Q H locs cells slots ls hx hb hts hown hl k => lv_idiv hx hb hd hv (k ls hl)) k
theorem e_irem {u v : Int32} (hd : At cc pc 1 pc2 (.irem)) (hv : ¬ v = 0) (k : Ev l x al cc own rt nL d ca sa post pc2 L (.int (u - u / v * v) :: st) lay M) : Ev l x al cc own rt nL d ca sa post pc L (.int v :: .int u :: st) lay M := by
  obtain ⟨hd, rfl⟩ := hd
  exact Ev.lift (fun p e s m args below meth c R Q H locs cells slots ls hx hb hts hown hl k => lv_irem hx hb hd hv (k ls hl)) k
theorem e_ineg {v : Int32} (hd : At cc pc 1 pc2 (.ineg)) (k : Ev l x al cc own rt nL d ca sa post pc2 L (.int (-v) :: st) lay M) : Ev l x al cc own rt nL d ca sa post pc L (.int v :: st) lay M := by
  obtain ⟨hd, rfl⟩ := hd
  exact Ev.lift (fun p e s m args below meth c R Q H locs cells slots ls hx hb hts hown hl k => lv_ineg hx hb hd (k ls hl)) k
theorem e_i2l {v : Int32} (hd : At cc pc 1 pc2 (.i2l)) (k : Ev l x al cc own rt nL d ca sa post pc2 L (.long v.toInt64 :: st) lay M) : Ev l x al cc own rt nL d ca sa post pc L (.int v :: st) lay M := by
  obtain ⟨hd, rfl⟩ := hd
  exact Ev.lift (fun p e s m args below meth c R Q H locs cells slots ls hx hb hts hown hl k => lv_i2l hx hb hd rfl (k ls hl)) k
theorem e_i2c {v : Int32} (hd : At cc pc 1 pc2 (.i2c)) (k : Ev l x al cc own rt nL d ca sa post pc2 L (.int (v.toUInt32 % 65536).toInt32 :: st) lay M) : Ev l x al cc own rt nL d ca sa post pc L (.int v :: st) lay M := by
  obtain ⟨hd, rfl⟩ := hd
  exact Ev.lift (fun p e s m args below meth c R Q H locs cells slots ls hx hb hts hown hl k => lv_i2c hx hb hd rfl (k ls hl)) k
theorem e_lcmp {u v : Int64} (hd : At cc pc 1 pc2 (.lcmp)) (k : Ev l x al cc own rt nL d ca sa post pc2 L (.int (lg_cmp u v) :: st) lay M) : Ev l x al cc own rt nL d ca sa post pc L (.long v :: .long u :: st) lay M := by
  obtain ⟨hd, rfl⟩ := hd
  exact Ev.lift (fun p e s m args below meth c R Q H locs cells slots ls hx hb hts hown hl k => W.lcmp hx hb hd (k ls hl)) k
theorem e_dupI {v : Int32} (hd : At cc pc 1 pc2 (.dup)) (k : Ev l x al cc own rt nL d ca sa post pc2 L (.int v :: .int v :: st) lay M) : Ev l x al cc own rt nL d ca sa post pc L (.int v :: st) lay M := by
  obtain ⟨hd, rfl⟩ := hd
  exact Ev.lift (fun p e s m args below meth c R Q H locs cells slots ls hx hb hts hown hl k => lv_dup hx hb hd rfl (k ls hl)) k
theorem e_dupR {v : Nat} (hd : At cc pc 1 pc2 (.dup)) (k : Ev l x al cc own rt nL d ca sa post pc2 L (.ref v :: .ref v :: st) lay M) : Ev l x al cc own rt nL d ca sa post pc L (.ref v :: st) lay M := by
  obtain ⟨hd, rfl⟩ := hd
  exact Ev.lift (fun p e s m args below meth c R Q H locs cells slots ls hx hb hts hown hl k => lv_dup hx hb hd rfl (k ls hl)) k
theorem e_dup2 {u : Int32} {v : Nat} (hd : At cc pc 1 pc2 (.dup2)) (k : Ev l x al cc own rt nL d ca sa post pc2 L (.int u :: .ref v :: .int u :: .ref v :: st) lay M) : Ev l x al cc own rt nL d ca sa post pc L (.int u :: .ref v :: st) lay M := by
  obtain ⟨hd, rfl⟩ := hd
  exact Ev.lift (fun p e s m args below meth c R Q H locs cells slots ls hx hb hts hown hl k => lv_dup2_11 hx hb hd rfl rfl (k ls hl)) k
theorem e_popI {v : Int32} (hd : At cc pc 1 pc2 (.pop)) (k : Ev l x al cc own rt nL d ca sa post pc2 L (st) lay M) : Ev l x al cc own rt nL d ca sa post pc L (.int v :: st) lay M := by
  obtain ⟨hd, rfl⟩ := hd
  exact Ev.lift (fun p e s m args below meth c R Q H locs cells slots ls hx hb hts hown hl k => lv_pop hx hb hd rfl (k ls hl)) k
theorem e_istore_n {i : Fin 4} {v : Int32} {L2 : List (Option Value)} (hd : At cc pc 1 pc2 (.istore_n i)) (hn : (i : Nat) < nL ∧ cat1 L (i : Nat) = true) (hL : L.set (i : Nat) (some (.int v)) = L2) (k : Ev l x al cc own rt nL d ca sa post pc2 L2 st lay M) : Ev l x al cc own rt nL d ca sa post pc L (.int v :: st) lay M := by
  obtain ⟨hd, rfl⟩ := hd
  exact Ev.lift (fun p e s m args below meth c R Q H locs cells slots ls hx hb hts hown hl k => lv_istore_n hx hb hd rfl hl.has hn.1 rfl (fun ls2 hl2 => k ls2 (hL ▸ LV.set hn.2 hl2))) k
theorem e_istore {i : Nat} {v : Int32} {L2 : List (Option Value)} (hd : At cc pc 2 pc2 (.istore i)) (hn : i < nL ∧ cat1 L i = true) (hL : L.set i (some (.int v)) = L2) (k : Ev l x al cc own rt nL d ca sa post pc2 L2 st lay M) : Ev l x al cc own rt nL d ca sa post pc L (.int v :: st) lay M := by
  obtain ⟨hd, rfl⟩ := hd
  exact Ev.lift (fun p e s m args below meth c R Q H locs cells slots ls hx hb hts hown hl k => lv_istore hx hb hd hl.has hn.1 rfl (fun ls2 hl2 => k ls2 (hL ▸ LV.set hn.2 hl2))) k
theorem e_astore_n {i : Fin 4} {v : Nat} {L2 : List (Option Value)} (hd : At cc pc 1 pc2 (.astore_n i)) (hn : (i : Nat) < nL ∧ cat1 L (i : Nat) = true) (hL : L.set (i : Nat) (some (.ref v)) = L2) (k : Ev l x al cc own rt nL d ca sa post pc2 L2 st lay M) : Ev l x al cc own rt nL d ca sa post pc L (.ref v :: st) lay M := by
  obtain ⟨hd, rfl⟩ := hd
  exact Ev.lift (fun p e s m args below meth c R Q H locs cells slots ls hx hb hts hown hl k => lv_astore_n hx hb hd rfl hl.has hn.1 rfl (fun ls2 hl2 => k ls2 (hL ▸ LV.set hn.2 hl2))) k
theorem e_astore {i : Nat} {v : Nat} {L2 : List (Option Value)} (hd : At cc pc 2 pc2 (.astore i)) (hn : i < nL ∧ cat1 L i = true) (hL : L.set i (some (.ref v)) = L2) (k : Ev l x al cc own rt nL d ca sa post pc2 L2 st lay M) : Ev l x al cc own rt nL d ca sa post pc L (.ref v :: st) lay M := by
  obtain ⟨hd, rfl⟩ := hd
  exact Ev.lift (fun p e s m args below meth c R Q H locs cells slots ls hx hb hts hown hl k => lv_astore hx hb hd hl.has hn.1 rfl (fun ls2 hl2 => k ls2 (hL ▸ LV.set hn.2 hl2))) k
theorem e_iinc {i : Nat} {n : Int} {u v : Int32} {L2 : List (Option Value)} (hd : At cc pc 3 pc2 (.iinc i n)) (hu : L[i]? = some (some (.int u))) (hv : u + Int32.ofInt n = v) (hn : i < nL ∧ cat1 L i = true) (hL : L.set i (some (.int v)) = L2) (k : Ev l x al cc own rt nL d ca sa post pc2 L2 st lay M) : Ev l x al cc own rt nL d ca sa post pc L st lay M := by
  obtain ⟨hd, rfl⟩ := hd
  refine Ev.lift (fun p e s m args below meth c R Q H locs cells slots ls hx hb hts hown hl k => ?_) k
  obtain ⟨j, hj⟩ := List.getElem?_of_mem (mem_asc (q := (i, .int u)).mpr hu)
  exact lv_iinc hx hb hd hl.has hj hv hn.1 rfl (fun ls2 hl2 => k ls2 (hL ▸ LV.set hn.2 hl2))
theorem e_icmp_eq {u v : Int32} {off : Int} {tgt : Nat} (hd : At cc pc 3 pc2 (.if_icmp .eq off)) (ht : (pc : Int) + off = (tgt : Int)) (kt : u = v → Ev l x al cc own rt nL d ca sa post tgt L st lay M) (kf : ¬ u = v → Ev l x al cc own rt nL d ca sa post pc2 L st lay M) : Ev l x al cc own rt nL d ca sa post pc L (.int v :: .int u :: st) lay M := by
  obtain ⟨hd, rfl⟩ := hd
  intro p e s m args below meth c R Q H locs cells slots ls C hw hS hl h1 h2 hr
  exact lv_icmp_eq C.1 C.2.1 hd ht (fun q => kt q p e s m args below meth c R Q H locs cells slots ls C hw hS hl h1 h2 hr) (fun q => kf q p e s m args below meth c R Q H locs cells slots ls C hw hS hl h1 h2 hr)
theorem e_icmp_ne {u v : Int32} {off : Int} {tgt : Nat} (hd : At cc pc 3 pc2 (.if_icmp .ne off)) (ht : (pc : Int) + off = (tgt : Int)) (kt : ¬ u = v → Ev l x al cc own rt nL d ca sa post tgt L st lay M) (kf : u = v → Ev l x al cc own rt nL d ca sa post pc2 L st lay M) : Ev l x al cc own rt nL d ca sa post pc L (.int v :: .int u :: st) lay M := by
  obtain ⟨hd, rfl⟩ := hd
  intro p e s m args below meth c R Q H locs cells slots ls C hw hS hl h1 h2 hr
  exact lv_icmp_ne C.1 C.2.1 hd ht (fun q => kt q p e s m args below meth c R Q H locs cells slots ls C hw hS hl h1 h2 hr) (fun q => kf q p e s m args below meth c R Q H locs cells slots ls C hw hS hl h1 h2 hr)
theorem e_icmp_lt {u v : Int32} {off : Int} {tgt : Nat} (hd : At cc pc 3 pc2 (.if_icmp .lt off)) (ht : (pc : Int) + off = (tgt : Int)) (kt : u < v → Ev l x al cc own rt nL d ca sa post tgt L st lay M) (kf : ¬ u < v → Ev l x al cc own rt nL d ca sa post pc2 L st lay M) : Ev l x al cc own rt nL d ca sa post pc L (.int v :: .int u :: st) lay M := by
  obtain ⟨hd, rfl⟩ := hd
  intro p e s m args below meth c R Q H locs cells slots ls C hw hS hl h1 h2 hr
  exact lv_icmp_lt C.1 C.2.1 hd ht (fun q => kt q p e s m args below meth c R Q H locs cells slots ls C hw hS hl h1 h2 hr) (fun q => kf q p e s m args below meth c R Q H locs cells slots ls C hw hS hl h1 h2 hr)
theorem e_icmp_ge {u v : Int32} {off : Int} {tgt : Nat} (hd : At cc pc 3 pc2 (.if_icmp .ge off)) (ht : (pc : Int) + off = (tgt : Int)) (kt : v ≤ u → Ev l x al cc own rt nL d ca sa post tgt L st lay M) (kf : ¬ v ≤ u → Ev l x al cc own rt nL d ca sa post pc2 L st lay M) : Ev l x al cc own rt nL d ca sa post pc L (.int v :: .int u :: st) lay M := by
  obtain ⟨hd, rfl⟩ := hd
  intro p e s m args below meth c R Q H locs cells slots ls C hw hS hl h1 h2 hr
  exact lv_icmp_ge C.1 C.2.1 hd ht (fun q => kt q p e s m args below meth c R Q H locs cells slots ls C hw hS hl h1 h2 hr) (fun q => kf q p e s m args below meth c R Q H locs cells slots ls C hw hS hl h1 h2 hr)
theorem e_icmp_gt {u v : Int32} {off : Int} {tgt : Nat} (hd : At cc pc 3 pc2 (.if_icmp .gt off)) (ht : (pc : Int) + off = (tgt : Int)) (kt : v < u → Ev l x al cc own rt nL d ca sa post tgt L st lay M) (kf : ¬ v < u → Ev l x al cc own rt nL d ca sa post pc2 L st lay M) : Ev l x al cc own rt nL d ca sa post pc L (.int v :: .int u :: st) lay M := by
  obtain ⟨hd, rfl⟩ := hd
  intro p e s m args below meth c R Q H locs cells slots ls C hw hS hl h1 h2 hr
  exact lv_icmp_gt C.1 C.2.1 hd ht (fun q => kt q p e s m args below meth c R Q H locs cells slots ls C hw hS hl h1 h2 hr) (fun q => kf q p e s m args below meth c R Q H locs cells slots ls C hw hS hl h1 h2 hr)
theorem e_icmp_le {u v : Int32} {off : Int} {tgt : Nat} (hd : At cc pc 3 pc2 (.if_icmp .le off)) (ht : (pc : Int) + off = (tgt : Int)) (kt : u ≤ v → Ev l x al cc own rt nL d ca sa post tgt L st lay M) (kf : ¬ u ≤ v → Ev l x al cc own rt nL d ca sa post pc2 L st lay M) : Ev l x al cc own rt nL d ca sa post pc L (.int v :: .int u :: st) lay M := by
  obtain ⟨hd, rfl⟩ := hd
  intro p e s m args below meth c R Q H locs cells slots ls C hw hS hl h1 h2 hr
  exact lv_icmp_le C.1 C.2.1 hd ht (fun q => kt q p e s m args below meth c R Q H locs cells slots ls C hw hS hl h1 h2 hr) (fun q => kf q p e s m args below meth c R Q H locs cells slots ls C hw hS hl h1 h2 hr)
theorem e_if_eq {u : Int32} {off : Int} {tgt : Nat} (hd : At cc pc 3 pc2 (.ifCond .eq off)) (ht : (pc : Int) + off = (tgt : Int)) (kt : u = 0 → Ev l x al cc own rt nL d ca sa post tgt L st lay M) (kf : ¬ u = 0 → Ev l x al cc own rt nL d ca sa post pc2 L st lay M) : Ev l x al cc own rt nL d ca sa post pc L (.int u :: st) lay M := by
  obtain ⟨hd, rfl⟩ := hd
  intro p e s m args below meth c R Q H locs cells slots ls C hw hS hl h1 h2 hr
  exact lv_if_eq C.1 C.2.1 hd ht (fun q => kt q p e s m args below meth c R Q H locs cells slots ls C hw hS hl h1 h2 hr) (fun q => kf q p e s m args below meth c R Q H locs cells slots ls C hw hS hl h1 h2 hr)
theorem e_if_ne {u : Int32} {off : Int} {tgt : Nat} (hd : At cc pc 3 pc2 (.ifCond .ne off)) (ht : (pc : Int) + off = (tgt : Int)) (kt : ¬ u = 0 → Ev l x al cc own rt nL d ca sa post tgt L st lay M) (kf : u = 0 → Ev l x al cc own rt nL d ca sa post pc2 L st lay M) : Ev l x al cc own rt nL d ca sa post pc L (.int u :: st) lay M := by
  obtain ⟨hd, rfl⟩ := hd
  intro p e s m args below meth c R Q H locs cells slots ls C hw hS hl h1 h2 hr
  exact lv_if_ne C.1 C.2.1 hd ht (fun q => kt q p e s m args below meth c R Q H locs cells slots ls C hw hS hl h1 h2 hr) (fun q => kf q p e s m args below meth c R Q H locs cells slots ls C hw hS hl h1 h2 hr)
theorem e_if_lt {u : Int32} {off : Int} {tgt : Nat} (hd : At cc pc 3 pc2 (.ifCond .lt off)) (ht : (pc : Int) + off = (tgt : Int)) (kt : u < 0 → Ev l x al cc own rt nL d ca sa post tgt L st lay M) (kf : ¬ u < 0 → Ev l x al cc own rt nL d ca sa post pc2 L st lay M) : Ev l x al cc own rt nL d ca sa post pc L (.int u :: st) lay M := by
  obtain ⟨hd, rfl⟩ := hd
  intro p e s m args below meth c R Q H locs cells slots ls C hw hS hl h1 h2 hr
  exact lv_if_lt C.1 C.2.1 hd ht (fun q => kt q p e s m args below meth c R Q H locs cells slots ls C hw hS hl h1 h2 hr) (fun q => kf q p e s m args below meth c R Q H locs cells slots ls C hw hS hl h1 h2 hr)
theorem e_if_ge {u : Int32} {off : Int} {tgt : Nat} (hd : At cc pc 3 pc2 (.ifCond .ge off)) (ht : (pc : Int) + off = (tgt : Int)) (kt : 0 ≤ u → Ev l x al cc own rt nL d ca sa post tgt L st lay M) (kf : ¬ 0 ≤ u → Ev l x al cc own rt nL d ca sa post pc2 L st lay M) : Ev l x al cc own rt nL d ca sa post pc L (.int u :: st) lay M := by
  obtain ⟨hd, rfl⟩ := hd
  intro p e s m args below meth c R Q H locs cells slots ls C hw hS hl h1 h2 hr
  exact lv_if_ge C.1 C.2.1 hd ht (fun q => kt q p e s m args below meth c R Q H locs cells slots ls C hw hS hl h1 h2 hr) (fun q => kf q p e s m args below meth c R Q H locs cells slots ls C hw hS hl h1 h2 hr)
theorem e_if_gt {u : Int32} {off : Int} {tgt : Nat} (hd : At cc pc 3 pc2 (.ifCond .gt off)) (ht : (pc : Int) + off = (tgt : Int)) (kt : 0 < u → Ev l x al cc own rt nL d ca sa post tgt L st lay M) (kf : ¬ 0 < u → Ev l x al cc own rt nL d ca sa post pc2 L st lay M) : Ev l x al cc own rt nL d ca sa post pc L (.int u :: st) lay M := by
  obtain ⟨hd, rfl⟩ := hd
  intro p e s m args below meth c R Q H locs cells slots ls C hw hS hl h1 h2 hr
  exact lv_if_gt C.1 C.2.1 hd ht (fun q => kt q p e s m args below meth c R Q H locs cells slots ls C hw hS hl h1 h2 hr) (fun q => kf q p e s m args below meth c R Q H locs cells slots ls C hw hS hl h1 h2 hr)
theorem e_if_le {u : Int32} {off : Int} {tgt : Nat} (hd : At cc pc 3 pc2 (.ifCond .le off)) (ht : (pc : Int) + off = (tgt : Int)) (kt : u ≤ 0 → Ev l x al cc own rt nL d ca sa post tgt L st lay M) (kf : ¬ u ≤ 0 → Ev l x al cc own rt nL d ca sa post pc2 L st lay M) : Ev l x al cc own rt nL d ca sa post pc L (.int u :: st) lay M := by
  obtain ⟨hd, rfl⟩ := hd
  intro p e s m args below meth c R Q H locs cells slots ls C hw hS hl h1 h2 hr
  exact lv_if_le C.1 C.2.1 hd ht (fun q => kt q p e s m args below meth c R Q H locs cells slots ls C hw hS hl h1 h2 hr) (fun q => kf q p e s m args below meth c R Q H locs cells slots ls C hw hS hl h1 h2 hr)
theorem e_goto {off : Int} {tgt : Nat} (hd : At cc pc 3 pc2 (.goto off)) (ht : (pc : Int) + off = (tgt : Int)) (k : Ev l x al cc own rt nL d ca sa post tgt L st lay M) : Ev l x al cc own rt nL d ca sa post pc L st lay M := by
  obtain ⟨hd, rfl⟩ := hd
  exact Ev.lift (fun p e s m args below meth c R Q H locs cells slots ls hx hb hts hown hl k => lv_goto hx hb hd ht (k ls hl)) k
theorem e_tableIn {dflt lo hi : Int} {offs : Array Int} {n : Nat} {u : Int32} {off : Int} {tgt : Nat} (hd : At cc pc n pc2 (.tableswitch dflt lo hi offs)) (h1 : ¬ u.toInt < lo) (h2 : ¬ hi < u.toInt) (ho : offs[(u.toInt - lo).toNat]? = some off) (ht : (pc : Int) + off = (tgt : Int)) (k : Ev l x al cc own rt nL d ca sa post tgt L st lay M) : Ev l x al cc own rt nL d ca sa post pc L (.int u :: st) lay M := by
  obtain ⟨hd, rfl⟩ := hd
  exact Ev.lift (fun p e s m args below meth c R Q H locs cells slots ls hx hb hts hown hl k => lv_tableIn hx hb hd h1 h2 ho ht (k ls hl)) k
theorem e_tableOut {dflt lo hi : Int} {offs : Array Int} {n : Nat} {u : Int32} {tgt : Nat} (hd : At cc pc n pc2 (.tableswitch dflt lo hi offs)) (h : u.toInt < lo ∨ hi < u.toInt) (ht : (pc : Int) + dflt = (tgt : Int)) (k : Ev l x al cc own rt nL d ca sa post tgt L st lay M) : Ev l x al cc own rt nL d ca sa post pc L (.int u :: st) lay M := by
  obtain ⟨hd, rfl⟩ := hd
  exact Ev.lift (fun p e s m args below meth c R Q H locs cells slots ls hx hb hts hown hl k => lv_tableOut hx hb hd h ht (k ls hl)) k
/-- the locals may be told less -/
theorem e_less {L2 : List (Option Value)} (h : ∀ (i : Nat) (v : Value), L2[i]? = some (some v) → L[i]? = some (some v)) (k : Ev l x al cc own rt nL d ca sa post pc L2 st lay M) : Ev l x al cc own rt nL d ca sa post pc L st lay M := by
  intro p e s m args below meth c R Q H locs cells slots ls C hw hS hl h1 h2 hr
  exact k p e s m args below meth c R Q H locs cells slots ls C hw hS ⟨hl.1, hl.2.1, fun i v q => hl.2.2 i v (h i v q)⟩ h1 h2 hr
end EV

theorem w_aci : Cond.arrayClass .int ∈ TBW := tbw_memT 61 (by decide +kernel) (by decide +kernel)
theorem w_acz : Cond.arrayClass .boolean ∈ TBW := tbw_memT 110 (by decide +kernel) (by decide +kernel)
theorem w_oi : Cond.instanceMethod objectInit ∈ TBW := tbw_memT 22 (by decide +kernel) (by decide +kernel)
theorem w_oc : Cond.code objectInit ⟨#[0xb1]⟩ 1 none ∈ TBW := tbw_memT 23 (by decide +kernel) (by decide +kernel)
/-! ===== making: objects, rows ===== -/
theorem ws_app {x : WX} {lay : List LC} {M : Mem} {e : LC} : wsOf x (lay ++ [e]) M = wsOf x lay M ++ [(x.2.2.1 + lay.length, toE x e (M lay.length))] := by
  simp [wsOf, List.mapIdx_append]
section EV
variable {l : Launch} {x : WX} {cc : ByteArray} {own : String} {rt : Option FieldType} {nL d ca sa : Nat} {post : Option Value → List LC → Mem → Prop} {pc pc2 : Nat} {L : List (Option Value)} {st : List Value} {lay : List LC} {M M1 : Mem}
theorem e_objI {idx a : Nat} (hd : At cc pc 3 pc2 (.invokespecial idx)) (hlk : Cond.methodLink own idx objectInit ∈ TBW) (hd1 : 1 ≤ d) (hst : (st.map fun v => v.category).sum ≤ 8) (kk : Ev l x true cc own rt nL d ca sa post pc2 L st lay M) : Ev l x true cc own rt nL d ca sa post pc L (.ref (x.2.2.1 + a) :: st) lay M := by
  obtain ⟨hd, rfl⟩ := hd
  intro p e s m args below meth c R Q H locs cells slots ls C hw hS hls g1 g2 hr
  obtain ⟨hx, hb, hml, hown, hts, hku, hfr, hlo, hB, hnm⟩ := id C
  refine W.objInit (rest := st) hx hb hown (hts _ hlk) (hts _ w_oi) (hts _ w_oc) (g := F0 m pc ls (.ref (x.2.2.1 + a) :: st)) rfl (hls.1.trans hml.symm) rfl hd (by omega) ?_ (kk p e s m args below meth c R Q H locs cells slots ls C hw hS hls g1 g2 hr)
  show 2 * 0 + _ + 12 ≤ R.locals
  omega
theorem e_newO {idx ci n N : Nat} {C0 : String} {T : u_T} {ty : Nat → FieldType} {fs : List Nat} (hd : At cc pc 3 pc2 (.new idx)) (hc : vwCl[ci]? = some (C0, T, N)) (hin : ∀ w ∈ u_ws C0 T N, w ∈ TBW) (hty : ∀ k, k < N → parseFieldDescriptor (T k).2.2.1 = some (ty k)) (hlk : Cond.classLink own idx C0 ∈ TBW ∧ Cond.instantiable C0 N ∈ TBW ∧ Cond.initialized C0 ∈ TBW)
    (hfs : ∀ j, j < N → defaultValue (ty j) = vp_V (fs.map (fun c => cv 0 c 0)) j) (hf1 : ∀ c ∈ fs, c < 2) (hn : lay.length = n) (hz : ∀ k, M n k = 0) (kk : Ev l x true cc own rt nL d ca sa post pc2 L (.ref (x.2.2.1 + n) :: st) (lay ++ [(0, ci, fs)]) M) : Ev l x true cc own rt nL d (ca + 1) (sa + N) post pc L st lay M := by
  obtain ⟨hd, rfl⟩ := hd
  intro p e s m args below meth c R Q H locs cells slots ls C hw hS hls g1 g2 hr
  obtain ⟨hx, hb, hml, hown, hts, hku, hfr, hlo, hB, hnm⟩ := id C
  have hsz := hw.2.2 rfl
  rw [hn] at hsz
  have hKn := hku.1.1 ci _ hc
  have hA : ∀ q, s.heap.size ≤ q → Ax x q := fun q h => Nat.le_trans hB h
  refine W.newcK hx hb hown (hts _ hlk.1) (hts _ hlk.2.1) (hts _ hlk.2.2) rfl hd (by omega) (by omega) hKn.2.1 rfl fun H1 kC hkC e1 z1 o1 => ?_
  have hk : ∀ (k : Nat) (q : Nat × va_E), (wsOf x lay M)[k]? = some q → H1[q.1]? = H[q.1]? := fun k q hq => o1 q.1 ((hw.1 k q hq).lt)
  have e4 : (fs.mapIdx (fun j c => cv x.2.2.1 c (M n j))) = fs.map (fun c => cv 0 c 0) := by
    apply List.ext_getElem?
    intro j
    rw [List.getElem?_mapIdx, List.getElem?_map]
    cases hj : fs[j]? with
    | none => rfl
    | some c =>
      have h2 := hf1 c (List.mem_of_getElem? hj)
      simp only [Option.map_some]
      rw [hz j]
      match c, h2 with
      | 0, _ => rfl
      | 1, _ => rfl
  have hP1 : va_P x.1 vwCl (wsOf x (lay ++ [(0, ci, fs)]) M) H1 := by
    rw [ws_app, hn]
    refine (hw.1.kept hk).app (fun k q hq => ?_)
    have hz9 : k < 1 := (List.getElem?_eq_some_iff.mp hq).1
    rw [show k = 0 by omega] at hq
    cases hq
    show va_at _ _ (x.2.2.1 + n, .inr (ci, fs.mapIdx (fun j c => cv x.2.2.1 c (M n j)))) H1
    rw [e4, ← hsz]
    exact ⟨_, hc, (u_born ty hts hin hKn hkC e1 hty).to hfs⟩
  have hD1 : va_D (Ax x) (wsOf x (lay ++ [(0, ci, fs)]) M) := by
    rw [ws_app, hn, ← hsz]
    exact hw.2.1.push hw.1 rfl (hA _ hS.1)
  have hk9 := kk p e s m args below meth c R Q H1 locs (cells + 1) (slots + N) ls C ⟨hP1, hD1, fun _ => by rw [z1, hsz, List.length_append, hn]; rfl⟩ ⟨Nat.le_trans hS.1 (by omega), fun q h1 h2 => (o1 q (Nat.lt_of_lt_of_le h1 hS.1)).trans (hS.2.1 q h1 h2), hS.2.2⟩ hls (by omega) (by omega) hr
  rw [← hsz] at hk9
  exact hk9
theorem e_newI {n N : Nat} {i : Int32} (hd : At cc pc 2 pc2 (.newarray .int)) (hi : ¬ i < 0) (hN : i.toNatClampNeg = N) (hNb : N * 4 ≤ 536870912) (hn : lay.length = n) (hz : ∀ k, M n k = 0) (kk : Ev l x true cc own rt nL d ca sa post pc2 L (.ref (x.2.2.1 + n) :: st) (lay ++ [(1, N, [])]) M) : Ev l x true cc own rt nL d (ca + 1) (sa + N) post pc L (.int i :: st) lay M := by
  obtain ⟨hd, rfl⟩ := hd
  intro p e s m args below meth c R Q H locs cells slots ls C hw hS hls g1 g2 hr
  obtain ⟨hx, hb, hml, hown, hts, hku, hfr, hlo, hB, hnm⟩ := id C
  have hsz := hw.2.2 rfl
  rw [hn] at hsz
  have hA : ∀ q, s.heap.size ≤ q → Ax x q := fun q h => Nat.le_trans hB h
  refine va_newaK (atype := .int) hx hb (hts _ w_aci) (g := F0 m pc ls (.int i :: st)) rfl hd rfl hi hN hNb (by omega) (by omega) rfl fun H1 cA e1 z1 o1 hAr hNm => ?_
  have hcA : cA = x.2.1 0 := Option.some.inj (hNm.symm.trans (hku.1.2 0 _ rfl).2)
  subst hcA
  have hk : ∀ (k : Nat) (q : Nat × va_E), (wsOf x lay M)[k]? = some q → H1[q.1]? = H[q.1]? := fun k q hq => o1 q.1 ((hw.1 k q hq).lt)
  have hP1 : va_P x.1 vwCl (wsOf x (lay ++ [(1, N, [])]) M) H1 := by
    rw [ws_app, hn]
    refine (hw.1.kept hk).app (fun k q hq => ?_)
    have hz9 : k < 1 := (List.getElem?_eq_some_iff.mp hq).1
    rw [show k = 0 by omega] at hq
    cases hq
    show H1[x.2.2.1 + n]? = some (vp_cell _ _)
    rw [← hsz, e1, vp_cell_i]
    congr 2
    funext j
    rw [hz j]
    rfl
  have hD1 : va_D (Ax x) (wsOf x (lay ++ [(1, N, [])]) M) := by
    rw [ws_app, hn, ← hsz]
    exact hw.2.1.push hw.1 rfl (hA _ hS.1)
  have hk9 := kk p e s m args below meth c R Q H1 locs (cells + 1) (slots + N) ls C ⟨hP1, hD1, fun _ => by rw [z1, hsz, List.length_append, hn]; rfl⟩ ⟨Nat.le_trans hS.1 (by omega), fun q h1 h2 => (o1 q (Nat.lt_of_lt_of_le h1 hS.1)).trans (hS.2.1 q h1 h2), hS.2.2⟩ hls (by omega) (by omega) hr
  rw [← hsz] at hk9
  exact hk9
theorem e_newZ {n N : Nat} {i : Int32} (hd : At cc pc 2 pc2 (.newarray .boolean)) (hi : ¬ i < 0) (hN : i.toNatClampNeg = N) (hNb : N * 4 ≤ 536870912) (hn : lay.length = n) (hz : ∀ k, M n k = 0) (kk : Ev l x true cc own rt nL d ca sa post pc2 L (.ref (x.2.2.1 + n) :: st) (lay ++ [(2, N, [])]) M) : Ev l x true cc own rt nL d (ca + 1) (sa + N) post pc L (.int i :: st) lay M := by
  obtain ⟨hd, rfl⟩ := hd
  intro p e s m args below meth c R Q H locs cells slots ls C hw hS hls g1 g2 hr
  obtain ⟨hx, hb, hml, hown, hts, hku, hfr, hlo, hB, hnm⟩ := id C
  have hsz := hw.2.2 rfl
  rw [hn] at hsz
  have hA : ∀ q, s.heap.size ≤ q → Ax x q := fun q h => Nat.le_trans hB h
  refine va_newaK (atype := .boolean) hx hb (hts _ w_acz) (g := F0 m pc ls (.int i :: st)) rfl hd rfl hi hN (Nat.le_trans (Nat.mul_le_mul_left N (show componentBytes (newarray.typeOf .boolean) ≤ 4 by decide)) hNb) (by omega) (by omega) rfl fun H1 cA e1 z1 o1 hAr hNm => ?_
  have hcA : cA = x.2.1 1 := Option.some.inj (hNm.symm.trans (hku.1.2 1 _ rfl).2)
  subst hcA
  have hk : ∀ (k : Nat) (q : Nat × va_E), (wsOf x lay M)[k]? = some q → H1[q.1]? = H[q.1]? := fun k q hq => o1 q.1 ((hw.1 k q hq).lt)
  have hP1 : va_P x.1 vwCl (wsOf x (lay ++ [(2, N, [])]) M) H1 := by
    rw [ws_app, hn]
    refine (hw.1.kept hk).app (fun k q hq => ?_)
    have hz9 : k < 1 := (List.getElem?_eq_some_iff.mp hq).1
    rw [show k = 0 by omega] at hq
    cases hq
    show H1[x.2.2.1 + n]? = some (vp_cell _ _)
    rw [← hsz, e1, vp_cell_i]
    congr 2
    funext j
    rw [hz j]
    rfl
  have hD1 : va_D (Ax x) (wsOf x (lay ++ [(2, N, [])]) M) := by
    rw [ws_app, hn, ← hsz]
    exact hw.2.1.push hw.1 rfl (hA _ hS.1)
  have hk9 := kk p e s m args below meth c R Q H1 locs (cells + 1) (slots + N) ls C ⟨hP1, hD1, fun _ => by rw [z1, hsz, List.length_append, hn]; rfl⟩ ⟨Nat.le_trans hS.1 (by omega), fun q h1 h2 => (o1 q (Nat.lt_of_lt_of_le h1 hS.1)).trans (hS.2.1 q h1 h2), hS.2.2⟩ hls (by omega) (by omega) hr
  rw [← hsz] at hk9
  exact hk9
/-- a new row of references, all null -/
theorem e_newQ {idx t n N : Nat} {i : Int32} {C0 : String} {fs : List Nat} (hd : At cc pc 3 pc2 (.anewarray idx)) (hlk : Cond.classLink own idx C0 ∈ TBW) (hC : (.object C0) ∈ OVL ∧ (∀ x : WX, (tysOf x)[t + 2]? = some (x.2.1 (t + 2), .object C0))) (hi : ¬ i < 0) (hN : i.toNatClampNeg = N) (hNb : N * 4 ≤ 536870912) (hfs : ∀ c ∈ fs, c = 1) (hn : lay.length = n) (kk : Ev l x true cc own rt nL d ca sa post pc2 L (.ref (x.2.2.1 + n) :: st) (lay ++ [(t + 3, N, fs)]) M) : Ev l x true cc own rt nL d (ca + 1) (sa + N) post pc L (.int i :: st) lay M := by
  obtain ⟨hd, rfl⟩ := hd
  subst hN
  intro p e s m args below meth c R Q H locs cells slots ls C hw hS hls g1 g2 hr
  obtain ⟨hx, hb, hml, hown, hts, hku, hfr, hlo, hB, hnm⟩ := id C
  have hsz := hw.2.2 rfl
  rw [hn] at hsz
  have hA : ∀ q, s.heap.size ≤ q → Ax x q := fun q h => Nat.le_trans hB h
  refine W.anew hx hb hown (hts _ hlk) (hku.2.2.2.2.2.2.1 _ hC.1) (g := F0 m pc ls (.int i :: st)) rfl hd rfl hi hNb (by omega) (by omega) fun cA kA comp f1 f2 f3 f4 => ?_
  have hcA : cA = x.2.1 (t + 2) := by
    obtain ⟨-, kA9, comp9, q1, q2, q3, q4⟩ := hku.1.2 (t + 2) _ (hC.2 x)
    exact Option.some.inj (f1.symm.trans q4)
  subst hcA
  generalize hH1 : H.push ({ cls := x.2.1 (t + 2), slots := Array.replicate i.toNatClampNeg .null, vm := .none } : Cell) = H1
  have z1 : H1.size = H.size + 1 := by rw [← hH1, Array.size_push]
  have e1 : H1[H.size]? = some (arrV (x.2.1 (t + 2)) i.toNatClampNeg (fun _ => .null)) := by rw [← hH1, Array.getElem?_push_size, ← arrV_new]
  have o1 : ∀ q : Nat, q < H.size → H1[q]? = H[q]? := fun q hq => by rw [← hH1, Array.getElem?_push, if_neg (Nat.ne_of_lt hq)]
  have hk : ∀ (k : Nat) (q : Nat × va_E), (wsOf x lay M)[k]? = some q → H1[q.1]? = H[q.1]? := fun k q hq => o1 q.1 ((hw.1 k q hq).lt)
  have hg : ∀ j, fs.getD j 1 = 1 := fun j => by
    rw [List.getD_eq_getElem?_getD]
    cases hj : fs[j]? with
    | none => rfl
    | some c => exact hfs c (List.mem_of_getElem? hj)
  have hP1 : va_P x.1 vwCl (wsOf x (lay ++ [(t + 3, i.toNatClampNeg, fs)]) M) H1 := by
    rw [ws_app, hn]
    refine (hw.1.kept hk).app (fun k q hq => ?_)
    have hz9 : k < 1 := (List.getElem?_eq_some_iff.mp hq).1
    rw [show k = 0 by omega] at hq
    cases hq
    show H1[x.2.2.1 + n]? = some (vp_cell (x.2.1 (t + 2)) (i.toNatClampNeg, .inr (.inr (.inr (.inr (fun j => cr x.2.2.1 (fs.getD j 1)))))))
    rw [← hsz, e1, vp_cell_q]
    congr 2
    funext j
    rw [hg j]
    rfl
  have hD1 : va_D (Ax x) (wsOf x (lay ++ [(t + 3, i.toNatClampNeg, fs)]) M) := by
    rw [ws_app, hn, ← hsz]
    exact hw.2.1.push hw.1 rfl (hA _ hS.1)
  have hk9 := kk p e s m args below meth c R Q H1 locs (cells + 1) (slots + i.toNatClampNeg) ls C ⟨hP1, hD1, fun _ => by rw [z1, hsz, List.length_append, hn]; rfl⟩ ⟨Nat.le_trans hS.1 (by omega), fun q h1 h2 => (o1 q (Nat.lt_of_lt_of_le h1 hS.1)).trans (hS.2.1 q h1 h2), hS.2.2⟩ hls (by omega) (by omega) hr
  rw [← hsz] at hk9
  exact hk9
end EV
theorem vr_outer9 (c : ClassId) (N h0 : Nat) (i : Nat) : Jvm.Free.Multi.outerC c N h0 i = arrV c N (fun j => va_rf (if j < i then some (h0 + 1 + j) else none)) := by
  induction i with
  | zero =>
    show ({ cls := c, slots := Array.replicate N .null, vm := .none } : Cell) = _
    rw [arrV_new]
    refine congrArg (arrV c N) (funext fun j => ?_)
    simp [va_rf]
  | succ i ih =>
    show (Jvm.Free.Multi.outerC c N h0 i).setSlot i (.ref (h0 + 1 + i)) = _
    rw [ih, arrV_store]
    refine congrArg (arrV c N) (funext fun j => ?_)
    by_cases e : j = i
    · subst e
      simp [updV, va_rf]
    · by_cases h : j < i
      · simp [updV, e, h, Nat.lt_succ_of_lt h]
      · simp [updV, e, h, show ¬ j < i + 1 by omega]
/-! ===== the memory of a making: a table ===== -/
def tabM (T : List (Nat × Nat × Int32)) : Mem := fun a k => match T.find? (fun e => e.1 == a && e.2.1 == k) with
  | some e => e.2.2
  | none => 0
theorem tabM_um (T : List (Nat × Nat × Int32)) (a k : Nat) (v : Int32) : um (tabM T) a k v = tabM ((a, k, v) :: T) := by
  funext b j
  unfold um va_up
  by_cases hb : b = a
  · subst hb
    rw [if_pos rfl]
    by_cases hj : j = k
    · subst hj
      rw [pk_us]
      simp [tabM]
    · rw [pk_un hj]
      have h2 : (k == j) = false := by simp; omega
      simp [tabM, h2]
  · rw [if_neg hb]
    have h2 : (a == b) = false := by simp; omega
    simp [tabM, h2]
abbrev Zt (T : List (Nat × Nat × Int32)) (n : Nat) : Prop := T.all (fun e => decide (e.1 < n)) = true
theorem zt_at {T : List (Nat × Nat × Int32)} {n : Nat} (h : Zt T n) : ∀ k, tabM T n k = 0 := fun k => by
  have hf : T.find? (fun e => e.1 == n && e.2.1 == k) = none := by
    rw [List.find?_eq_none]
    intro e he
    have := List.all_eq_true.mp h e he
    have h3 : e.1 < n := by simpa using this
    have h4 : (e.1 == n) = false := by simp; omega
    simp [h4]
  simp [tabM, hf]
section EV
variable {l : Launch} {x : WX} {al : Bool} {cc : ByteArray} {own : String} {rt : Option FieldType} {nL d ca sa : Nat} {post : Option Value → List LC → Mem → Prop} {pc pc2 : Nat} {L : List (Option Value)} {st : List Value} {lay : List LC} {M M1 : Mem} {T : List (Nat × Nat × Int32)}
theorem e_putT {idx ci k a : Nat} {fs : List Nat} {v : Int32} {ty : FieldType} (hd : At cc pc 3 pc2 (.putfield idx)) (hf : FP own idx ci k false ty) (he : lay[a]? = some (0, ci, fs)) (hv : fs[k]? = some 0) (hn : narrow ty (.int v) = .int v ∧ fits ty (.int v) = true) (kk : Ev l x al cc own rt nL d ca sa post pc2 L st lay (tabM ((a, k, v) :: T))) : Ev l x al cc own rt nL d ca sa post pc L (.int v :: .ref (x.2.2.1 + a) :: st) lay (tabM T) :=
  e_put hd hf he hv hn (tabM_um T a k v).symm kk
theorem e_istT {a n : Nat} {i v : Int32} {fs : List Nat} (hd : At cc pc 1 pc2 .iastore) (he : lay[a]? = some (1, n, fs)) (hin : ¬ (i < 0 ∨ n ≤ i.toNatClampNeg)) {j : Nat} (hj : i.toNatClampNeg = j) (kk : Ev l x al cc own rt nL d ca sa post pc2 L st lay (tabM ((a, j, v) :: T))) : Ev l x al cc own rt nL d ca sa post pc L (.int v :: .int i :: .ref (x.2.2.1 + a) :: st) lay (tabM T) :=
  e_ist hd he hin (by rw [hj]; exact (tabM_um T a j v).symm) kk
theorem e_putR {idx ci k a r : Nat} {fs : List Nat} {ty : FieldType} (hd : At cc pc 3 pc2 (.putfield idx)) (hf : FP own idx ci k true ty) (hown9 : ∀ q, vwCl[ci]? = some q → q.1 = own) (he : lay[a]? = some (0, ci, fs)) (hv : fs[k]? = some 1) (hn : ∀ q : Nat, narrow ty (.ref q) = .ref q ∧ fits ty (.ref q) = true) (kk : Ev l x true cc own rt nL d ca sa post pc2 L st (lay.set a (0, ci, fs.set k (r + 2))) M) : Ev l x true cc own rt nL d ca sa post pc L (.ref (x.2.2.1 + r) :: .ref (x.2.2.1 + a) :: st) lay M := by
  obtain ⟨hd, rfl⟩ := hd
  obtain ⟨C0, T, N, ty0, hc, hk, hin, hC, hl, hty, hnm, hfin, hpd⟩ := hf
  intro p e s m args below meth c R Q H locs cells slots ls C hw hS hls h1 h2 hr
  have hP := hw.1
  have hD := hw.2.1
  have hE : (wsOf x lay M)[a]? = some (x.2.2.1 + a, .inr (ci, fs.mapIdx (fun j c => cv x.2.2.1 c (M a j)))) := ws_get he
  have hlen : k < (fs.mapIdx (fun j c => cv x.2.2.1 c (M a j))).length := by rw [List.length_mapIdx]; exact (List.getElem?_eq_some_iff.mp hv).1
  have hCo : (T k).1 = own := hC.trans (hown9 _ hc)
  have hap := va_apart (own := own) C.2.2.2.2.1 hin ty0 hty hnm C.2.2.2.2.2.1.1 hc
  obtain ⟨r9, g1, cell, q1, q2, q3, q4⟩ := hP a _ hE
  have hrr : r9 = (C0, T, N) := Option.some.inj (g1.symm.trans hc)
  subst hrr
  obtain ⟨hSl, hfc, kC, hkC, hkind⟩ := C.2.2.2.2.2.1.1.1 ci _ hc
  obtain ⟨cf, kf, fi, f, hi, hsl⟩ := hSl k hk
  have hlay := C.2.2.2.2.1 _ (hin _ (u_in_lay hk))
  unfold u_lay at hlay
  rw [if_pos hfin] at hlay
  have hst := (u_facts hfc hkC (u_lays C.2.2.2.2.1 hin hk) hi).1
  have hcf : m.cls = cf := by
    obtain ⟨_, _, c', _, _, _, -, -, hf', -, -, -, hown2, -⟩ := Cond.laysFinal_spec hlay
    have e1 : c' = cf := by have := hi.symm.trans hf'; simp at this; exact this.1.symm
    rw [hCo] at hown2
    rw [← e1]; exact Option.some.inj (C.2.2.2.1.symm.trans hown2)
  have h6 := u_fits hfc hkC hkind (Or.inr hlay) hi hpd (hn (x.2.2.1 + r)).1 (hn (x.2.2.1 + r)).2
  refine W.putFinK C.1 C.2.1 C.2.2.2.1 (C.2.2.2.2.1 _ hl) (by rw [hC] at hi; exact hi) hst hcf (C.2.2.2.2.2.2.2.2.2 rfl) (by rw [q2]; exact h6) q1 q3 (by rw [hsl]; exact k2_hasslot (q4 k hk)) rfl rfl hd fun H' e1 e2 e3 => ?_
  rw [hsl] at e1 ⊢
  have e4 : ((x.2.2.1 + a, .inr (ci, (fs.mapIdx (fun j c => cv x.2.2.1 c (M a j))).set k (.ref (x.2.2.1 + r)))) : Nat × va_E) = (x.2.2.1 + a, toE x (0, ci, fs.set k (r + 2)) (M a)) := by
    rw [obj_putR (List.getElem?_eq_some_iff.mp hv).1]
    rfl
  have hP2 := hP.set (e := .inr (ci, (fs.mapIdx (fun j c => cv x.2.2.1 c (M a j))).set k (.ref (x.2.2.1 + r)))) hD hE ⟨_, hc, t_OB.to (V := updV (vp_V (fs.mapIdx (fun j c => cv x.2.2.1 c (M a j)))) k (.ref (x.2.2.1 + r))) ⟨_, e1, q2, q3, t_set q4 hap hk (.ref (x.2.2.1 + r))⟩ (fun j _ => vp_updV_set hlen (.ref (x.2.2.1 + r)) j)⟩ e3
  have hD2 := hD.set (e := .inr (ci, (fs.mapIdx (fun j c => cv x.2.2.1 c (M a j))).set k (.ref (x.2.2.1 + r)))) hE
  have e5 : va_up M a (M a) = M := by
    funext b
    unfold va_up
    by_cases hb : b = a
    · rw [if_pos hb, hb]
    · rw [if_neg hb]
  rw [e4, ws_set he, e5] at hP2 hD2
  exact kk p e s m args below meth c R Q H' _ cells slots ls C ⟨hP2, hD2, fun h => by rw [e2, List.length_set]; exact hw.2.2 h⟩ (hS.put e2 e3 (hD.2 a _ hE)) hls h1 h2 hr
theorem e_aast {a v n t ci : Nat} {i : Int32} {fs fv : List Nat} {C0 : String} {T : u_T} {N : Nat} (hd : At cc pc 1 pc2 .aastore) (he : lay[a]? = some (t + 3, n, fs)) (hv : lay[v]? = some (0, ci, fv)) (hc : vwCl[ci]? = some (C0, T, N)) (hty : ∀ x : WX, (tysOf x)[t + 2]? = some (x.2.1 (t + 2), .object C0)) (hin : ¬ (i < 0 ∨ n ≤ i.toNatClampNeg)) {j : Nat} (hj : i.toNatClampNeg = j) (hjl : j < fs.length) (kk : Ev l x true cc own rt nL d ca sa post pc2 L st (lay.set a (t + 3, n, fs.set j (v + 2))) M) : Ev l x true cc own rt nL d ca sa post pc L (.ref (x.2.2.1 + v) :: .int i :: .ref (x.2.2.1 + a) :: st) lay M := by
  obtain ⟨hd, rfl⟩ := hd
  subst hj
  intro p e s m args below meth c R Q H locs cells slots ls C hw hS hls h1 h2 hr
  have hP := hw.1
  have hD := hw.2.1
  have hK := C.2.2.2.2.2.1.1
  have hE : (wsOf x lay M)[a]? = some (x.2.2.1 + a, .inl (x.2.1 (t + 2), n, .inr (.inr (.inr (.inr (fun j => cr x.2.2.1 (fs.getD j 1))))))) := ws_get he
  have hlt : i.toNatClampNeg < n := Nat.not_le.mp fun q => hin (Or.inr q)
  have h0 : ¬ i < 0 := fun q => hin (Or.inl q)
  obtain ⟨r', hr', cellV, g1, g2, g3, -⟩ := hP v _ (ws_get hv)
  have hcls := (hK.1 ci _ hc).2
  obtain ⟨kA, comp, k1, k2, k3, -⟩ := (hK.2 (t + 2) _ (hty x)).2
  have hcomp : comp = x.1.1 ci := Option.some.inj (k3.symm.trans hcls.1)
  subst hcomp
  obtain ⟨kC, hkC, -⟩ := hcls.2
  refine W.aast C.1 C.2.1 (hP a _ hE) (fun q h => by cases h) (fun h => by cases h) k1 k2 rfl hkC ⟨h0, by show _ < (arrV _ _ _).slots.size; rw [arrV_size]; exact hlt⟩ g1 (fun q h => by rw [g3] at h; cases h) (by rw [g2]; exact hkC) (by rw [g2]; exact va_assign hcls) rfl rfl hd fun H1 e1 z oq => ?_
  have hat : va_at x.1 vwCl (x.2.2.1 + a, toE x (t + 3, n, fs.set i.toNatClampNeg (v + 2)) (M a)) H1 := by
    show H1[x.2.2.1 + a]? = some (vp_cell (x.2.1 (t + 2)) (n, .inr (.inr (.inr (.inr (fun j => cr x.2.2.1 ((fs.set i.toNatClampNeg (v + 2)).getD j 1)))))))
    rw [e1]
    show some ((vp_cell (x.2.1 (t + 2)) (n, .inr (.inr (.inr (.inr (fun j => cr x.2.2.1 (fs.getD j 1))))))).setSlot i.toNatClampNeg (.ref (x.2.2.1 + v))) = _
    rw [vp_cell_q, vp_cell_q, arrV_store]
    congr 2
    funext q
    by_cases hq : q = i.toNatClampNeg
    · subst hq
      simp [updV, List.getD_eq_getElem?_getD, List.getElem?_set, hjl, cr, va_rf]
    · have hq2 : ¬ i.toNatClampNeg = q := fun z => hq z.symm
      simp [updV, hq, hq2, List.getD_eq_getElem?_getD, List.getElem?_set]
  have hP2 := hP.set hD hE hat oq
  have hD2 := hD.set (e := toE x (t + 3, n, fs.set i.toNatClampNeg (v + 2)) (M a)) hE
  have e5 : va_up M a (M a) = M := by
    funext b
    unfold va_up
    by_cases hb : b = a
    · rw [if_pos hb, hb]
    · rw [if_neg hb]
  rw [ws_set he, e5] at hP2 hD2
  exact kk p e s m args below meth c R Q H1 _ cells slots ls C ⟨hP2, hD2, fun h => by rw [z, List.length_set]; exact hw.2.2 h⟩ (hS.put z oq (hD.2 a _ hE)) hls h1 h2 hr
theorem e_lay {lay2 : List LC} (h : lay = lay2) (k : Ev l x al cc own rt nL d ca sa post pc L st lay2 M) : Ev l x al cc own rt nL d ca sa post pc L st lay M := h ▸ k
theorem e_budget {ca2 sa2 : Nat} (h1 : ca = ca2) (h2 : sa = sa2) (k : Ev l x al cc own rt nL d ca2 sa2 post pc L st lay M) : Ev l x al cc own rt nL d ca sa post pc L st lay M := by subst h1; subst h2; exact k
/-- new T[n][m], m ints each -/
theorem e_mna {idx n N K : Nat} {i k : Int32} {fs : List Nat} (hd : At cc pc 4 pc2 (.multianewarray idx 2)) (hlk : Cond.classLink own idx ("[" ++ (FieldType.array .int).toString) ∈ TBW) (hi : ¬ i < 0) (hk : ¬ k < 0) (hN : i.toNatClampNeg = N) (hK : k.toNatClampNeg = K) (hb1 : N * 4 ≤ 536870912) (hb2 : K * 4 ≤ 536870912) (hn : lay.length = n) (hz : ∀ q, n ≤ q → ∀ j, M q j = 0) (hfs : ∀ j, cr 0 (fs.getD j 1) = if j < N then some (n + 1 + j) else none)
    (kk : Ev l x true cc own rt nL d ca sa post pc2 L (.ref (x.2.2.1 + n) :: st) (lay ++ [(5, N, fs)] ++ List.replicate N (1, K, [])) M) : Ev l x true cc own rt nL d (ca + (1 + N)) (sa + (N + N * K)) post pc L (.int k :: .int i :: st) lay M := by
  obtain ⟨hd, rfl⟩ := hd
  subst hN
  subst hK
  intro p e s m args below meth c R Q H locs cells slots ls C hw hS hls g1 g2 hr
  obtain ⟨hx, hb, hml, hown, hts, hku, hfr, hlo, hB, hnm⟩ := id C
  have hsz := hw.2.2 rfl
  rw [hn] at hsz
  have hA : ∀ q, s.heap.size ≤ q → Ax x q := fun q h => Nat.le_trans hB h
  have hcy : s.vm.findClass (FieldType.array .int).toString = some (x.2.1 0) := (hku.1.2 0 _ rfl).2
  have hcA9 : s.vm.findClass ("[" ++ (FieldType.array .int).toString) = some (x.2.1 4) := (hku.1.2 4 _ rfl).2
  intro T hT Xs
  obtain ⟨vm₁, cA, comp, -, fA, fC, hO, -, X', step⟩ := Xs.multianewarray2F hx hown (hts _ hlk) (hku.2.2.2.2.2.2.1 (.array .int) (by decide)) (hts _ w_aci) (g := F0 m pc ls (.int k :: .int i :: st)) rfl (by rw [hb]; exact hd) rfl hi hk hb1 (by exact hb2) (by omega) (by decide +kernel) (by decide +kernel) (by omega) (by omega)
  have ec : comp = x.2.1 0 := Option.some.inj (fC.symm.trans hcy)
  subst ec
  have ec2 : cA = x.2.1 4 := Option.some.inj (fA.symm.trans hcA9)
  subst ec2
  generalize hF : Jvm.Free.Multi.fill (T.setVm vm₁) (x.2.1 4) (x.2.1 0) i.toNatClampNeg k.toNatClampNeg (defaultValue .int) i.toNatClampNeg = F at X' step
  have hTh : (T.setVm vm₁).heap = H := hT
  obtain ⟨f1, f2, -, -⟩ := Jvm.Free.Multi.fill_facts (T.setVm vm₁) (x.2.1 4) (x.2.1 0) i.toNatClampNeg k.toNatClampNeg (defaultValue .int) i.toNatClampNeg
  rw [hF, hTh] at f1 f2
  have hold : ∀ q : Nat, q < H.size → F.heap[q]? = H[q]? := fun q hq => by
    have := Jvm.Free.Multi.fill_old (T.setVm vm₁) (x.2.1 4) (x.2.1 0) i.toNatClampNeg k.toNatClampNeg (defaultValue .int) (a := q) (by rw [hTh]; exact hq) i.toNatClampNeg
    rw [hF, hTh] at this
    exact this
  have hrow : ∀ j : Nat, j < i.toNatClampNeg → F.heap[H.size + 1 + j]? = some (vp_cell (x.2.1 0) (k.toNatClampNeg, .inl (fun _ => 0))) := fun j hj => by
    have := Jvm.Free.Multi.fill_inner (T.setVm vm₁) (x.2.1 4) (x.2.1 0) i.toNatClampNeg k.toNatClampNeg (defaultValue .int) i.toNatClampNeg j hj
    rw [hF, hTh] at this
    rw [this]
    exact congrArg some (arrV_new _ _ _)
  have hlenW : (wsOf x lay M).length = n := by simp [wsOf, hn]
  have hat : ∀ (k9 : Nat) (e9 : LC), (lay ++ [(5, i.toNatClampNeg, fs)] ++ List.replicate i.toNatClampNeg (1, k.toNatClampNeg, []))[k9]? = some e9 → va_at x.1 vwCl (x.2.2.1 + k9, toE x e9 (M k9)) F.heap := by
    intro k9 e9 h9
    by_cases c1 : k9 < n
    · rw [List.append_assoc, List.getElem?_append_left (by rw [hn]; exact c1)] at h9
      have h8 := hw.1 k9 _ (ws_get h9)
      exact h8.kept (hold _ h8.lt)
    · by_cases c2 : k9 = n
      · subst c2
        rw [List.append_assoc, List.getElem?_append_right (by rw [hn]; exact Nat.le_refl _), hn, Nat.sub_self] at h9
        cases h9
        show F.heap[x.2.2.1 + k9]? = some (vp_cell (x.2.1 4) (i.toNatClampNeg, .inr (.inr (.inr (.inr (fun j => cr x.2.2.1 (fs.getD j 1)))))))
        rw [← hsz, f2, vp_cell_q, vr_outer9]
        congr 2
        funext j
        have h7 := hfs j
        have h6 : cr x.2.2.1 (fs.getD j 1) = if j < i.toNatClampNeg then some (H.size + 1 + j) else none := by
          rw [hsz]
          cases hq : fs.getD j 1 with
          | zero => rw [hq] at h7; by_cases hj : j < i.toNatClampNeg <;> simp [hj, cr] at h7 ⊢
          | succ q => 
            cases q with
            | zero => rw [hq] at h7; by_cases hj : j < i.toNatClampNeg <;> simp [hj, cr] at h7 ⊢
            | succ q =>
              rw [hq] at h7
              by_cases hj : j < i.toNatClampNeg
              · simp [hj, cr] at h7 ⊢
                omega
              · simp [hj, cr] at h7
        rw [h6]
      · have hlt9 : k9 < n + 1 + i.toNatClampNeg := by
          have := (List.getElem?_eq_some_iff.mp h9).1
          simp [hn] at this
          omega
        rw [List.getElem?_append_right (by simp [hn]; omega)] at h9
        have := List.mem_of_getElem? h9
        have h5 := List.eq_of_mem_replicate this
        subst h5
        have hm : M k9 = fun _ => 0 := funext fun j => hz k9 (by omega) j
        show F.heap[x.2.2.1 + k9]? = some (vp_cell (x.2.1 0) (k.toNatClampNeg, .inl (M k9)))
        rw [hm, show x.2.2.1 + k9 = H.size + 1 + (k9 - n - 1) by omega]
        exact hrow _ (by omega)
  have hP1 : va_P x.1 vwCl (wsOf x (lay ++ [(5, i.toNatClampNeg, fs)] ++ List.replicate i.toNatClampNeg (1, k.toNatClampNeg, [])) M) F.heap := by
    intro k9 q9 h9
    unfold wsOf at h9
    rw [List.getElem?_mapIdx] at h9
    cases h8 : (lay ++ [(5, i.toNatClampNeg, fs)] ++ List.replicate i.toNatClampNeg (1, k.toNatClampNeg, []))[k9]? with
    | none => rw [h8] at h9; cases h9
    | some e9 =>
      rw [h8] at h9
      cases h9
      exact hat k9 e9 h8
  have hD1 : va_D (Ax x) (wsOf x (lay ++ [(5, i.toNatClampNeg, fs)] ++ List.replicate i.toNatClampNeg (1, k.toNatClampNeg, [])) M) := by
    have hadr : ∀ (k9 : Nat) (q9 : Nat × va_E), (wsOf x (lay ++ [(5, i.toNatClampNeg, fs)] ++ List.replicate i.toNatClampNeg (1, k.toNatClampNeg, [])) M)[k9]? = some q9 → q9.1 = x.2.2.1 + k9 := by
      intro k9 q9 h9
      unfold wsOf at h9
      rw [List.getElem?_mapIdx] at h9
      cases h8 : (lay ++ [(5, i.toNatClampNeg, fs)] ++ List.replicate i.toNatClampNeg (1, k.toNatClampNeg, []))[k9]? with
      | none => rw [h8] at h9; cases h9
      | some e9 => rw [h8] at h9; cases h9; rfl
    refine ⟨fun a b p9 q9 ha hb9 hab => ?_, fun k9 q9 h9 => ?_⟩
    · have := hadr a p9 ha
      have := hadr b q9 hb9
      omega
    · rw [hadr k9 q9 h9]
      show x.2.2.1 ≤ x.2.2.1 + k9
      omega
  have hk9 := kk p e s m args below meth c R Q F.heap locs (cells + 1 + i.toNatClampNeg) (slots + i.toNatClampNeg + i.toNatClampNeg * k.toNatClampNeg) ls C ⟨hP1, hD1, fun _ => by rw [f1, hsz]; simp [hn]; omega⟩ ⟨by rw [f1]; have := hS.1; omega, fun q h1 h2 => (hold q (Nat.lt_of_lt_of_le h1 hS.1)).trans (hS.2.1 q h1 h2), hS.2.2⟩ hls (by omega) (by omega) hr
  rw [← hsz] at hk9
  obtain ⟨t, a1, b1⟩ := hk9 F rfl X'
  refine ⟨t, step t ?_, b1⟩
  have e8 : T.heap.size = H.size := by rw [hT]
  rw [e8]
  exact a1
end EV

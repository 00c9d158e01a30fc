/-! ===== the finite kinds: what the form tells ===== -/
theorem nd_len {l1 : List Nat} : ∀ {l2 : List Nat}, l1.Nodup → (∀ a ∈ l1, a ∈ l2) → l1.length ≤ l2.length := by
  induction l1 with
  | nil => intro l2 _ _; exact Nat.zero_le _
  | cons a l1 ih =>
    intro l2 h hs
    rw [List.nodup_cons] at h
    obtain ⟨s, t, rfl⟩ := List.append_of_mem (hs a List.mem_cons_self)
    have := ih (l2 := s ++ t) h.2 (fun b hb => by
      have h2 := hs b (List.mem_cons_of_mem _ hb)
      rw [List.mem_append, List.mem_cons] at h2
      rw [List.mem_append]
      rcases h2 with h2 | h2 | h2
      · exact Or.inl h2
      · subst h2; exact absurd hb h.1
      · exact Or.inr h2)
    rw [List.length_append] at this
    rw [List.length_append, List.length_cons, List.length_cons]
    omega
theorem map_nd {l : List Nat} {f : Nat → Nat} (h : l.Nodup) (hf : ∀ a ∈ l, ∀ b ∈ l, f a = f b → a = b) : (l.map f).Nodup := by
  induction l with
  | nil => exact List.nodup_nil
  | cons a l ih =>
    rw [List.nodup_cons] at h
    rw [List.map_cons, List.nodup_cons]
    refine ⟨fun q => ?_, ih h.2 (fun a ha b hb => hf a (List.mem_cons_of_mem _ ha) b (List.mem_cons_of_mem _ hb))⟩
    obtain ⟨b, hb, e⟩ := List.mem_map.mp q
    have := hf b (List.mem_cons_of_mem _ hb) a List.mem_cons_self e
    subst this
    exact h.1 hb
/-- a row of figures as whole numbers -/
def zr (d : Nat → Nat) : Nat → Int := fun i => ((d i : Nat) : Int)
section FIN
variable {n : Nat} {A : Arr}
theorem ti_rowOf {b c i : Nat} (hb : b < 100) (hb0 : 0 < b) (hi : i < n) : ti (rowOf n b c) i = zr (dgs b n c) i := by
  unfold ti rowOf zr
  rw [if_pos hi]
  have : dgs b n c i < b := dgs_lt hb0
  unfold dgs at this ⊢
  exact nI_toInt (by omega)
theorem zr_nn {d : Nat → Nat} (i : Nat) : 0 ≤ zr d i := Int.natCast_nonneg _
theorem eul_rowOf (hA : OKA n A) (hn : n ≤ 6) {b c : Nat} (hb : b < 100) (hb0 : 0 < b) : 2 * (eul n A (rowOf n b c) (rowOf n b c)).toInt = bb n (gA A) (zr (dgs b n c)) (zr (dgs b n c)) := by
  have h : ∀ i, i < n → -(100 : Int) ≤ ti (rowOf n b c) i ∧ ti (rowOf n b c) i ≤ 100 := fun i hi => by
    rw [ti_rowOf hb hb0 hi]
    have : dgs b n c i < b := dgs_lt hb0
    unfold zr
    omega
  rw [eul_toInt hA hn (b := 100) (by omega) (by omega) h h, ← bb_2ez hA]
  exact bb_congr (fun i hi => ti_rowOf hb hb0 hi) (fun i hi => ti_rowOf hb hb0 hi)
theorem dgs_zero {b n i : Nat} : dgs b n 0 i = 0 := by unfold dgs; rw [Nat.zero_div, Nat.zero_mod]
theorem dgs_ne {b n c : Nat} (hb : 0 < b) (h : c < b ^ n) (h0 : c ≠ 0) : ∃ i, i < n ∧ dgs b n c i ≠ 0 := by
  apply Classical.byContradiction
  intro hno
  refine h0 (dgs_inj hb h (Nat.pow_pos hb) (fun i hi => ?_))
  rw [dgs_zero]
  exact Classical.byContradiction (fun q => hno ⟨i, hi, q⟩)
theorem fnt_iff (hA : OKA n A) (hn : n ≤ 6) : fnt n A = true ↔ ∀ c, c < 3 ^ n → c ≠ 0 → 0 < bb n (gA A) (zr (dgs 3 n c)) (zr (dgs 3 n c)) := by
  unfold fnt
  rw [List.all_eq_true]
  have e0 : (0 : Int32).toInt = 0 := rfl
  constructor
  · intro h c hc h0
    have h1 := h c (List.mem_range.mpr hc)
    rw [Bool.or_eq_true, decide_eq_true_iff] at h1
    rcases h1 with h1 | h1
    · exact absurd (by simpa using h1) h0
    · rw [fa_lt, e0] at h1
      rw [← eul_rowOf hA hn (by omega) (by omega)]
      omega
  · intro h c hc
    rw [Bool.or_eq_true, decide_eq_true_iff]
    by_cases h0 : c = 0
    · exact Or.inl (by simpa using h0)
    · refine Or.inr ?_
      have h1 := h c (List.mem_range.mp hc) h0
      rw [← eul_rowOf hA hn (by omega) (by omega)] at h1
      rw [fa_lt, e0]
      omega
theorem wp_fnt (hA : OKA n A) (hn : n ≤ 6) (h : WP n (gA A)) : fnt n A = true := by
  rw [fnt_iff hA hn]
  intro c hc h0
  obtain ⟨i, hi, hne⟩ := dgs_ne (by omega) hc h0
  exact h _ (fun i _ => zr_nn i) ⟨i, hi, by unfold zr; omega⟩
theorem fnt_no (hA : OKA n A) (hn : n ≤ 6) (h : fnt n A = true) {d : Nat → Nat} (hd : ∀ i, i < n → d i ≤ 2) (hne : ∃ i, i < n ∧ d i ≠ 0) : 0 < bb n (gA A) (zr d) (zr d) := by
  have h3 : ∀ i, i < n → d i < 3 := fun i hi => by have := hd i hi; omega
  have e := dgs_enc (b := 3) (by omega) n d h3
  have h1 := (fnt_iff hA hn).mp h (enc 3 n d) (enc_lt h3) (fun q => by
    obtain ⟨i, hi, hne⟩ := hne
    have := e i hi
    rw [q, dgs_zero] at this
    exact hne this.symm)
  rw [bb_congr (y' := zr d) (z' := zr d) (fun i hi => by unfold zr; rw [e i hi]) (fun i hi => by unfold zr; rw [e i hi])] at h1
  exact h1
theorem gA_nn (p i : Nat) : 0 ≤ gA A p i := by
  induction A with
  | nil => exact Int.le_refl _
  | cons e A ih =>
    show 0 ≤ (if e.1 = p ∧ e.2 = i then (1 : Int) else 0) + (if e.2 = p ∧ e.1 = i then 1 else 0) + gA A p i
    split <;> split <;> omega
theorem gA_out (hA : ∀ e ∈ A, e.1 < n ∧ e.2 < n) {p i : Nat} (h : gA A p i ≠ 0) : p < n ∧ i < n := by
  induction A with
  | nil => exact absurd rfl h
  | cons e A ih =>
    have he := hA e List.mem_cons_self
    have h : (if e.1 = p ∧ e.2 = i then (1 : Int) else 0) + (if e.2 = p ∧ e.1 = i then 1 else 0) + gA A p i ≠ 0 := h
    by_cases h0 : gA A p i = 0
    · rw [h0] at h
      by_cases c1 : e.1 = p ∧ e.2 = i
      · omega
      · by_cases c2 : e.2 = p ∧ e.1 = i
        · omega
        · rw [if_neg c1, if_neg c2] at h; omega
    · exact ih (fun e he => hA e (List.mem_cons_of_mem _ he)) h0
/-- of a finite quiver no two points have two arrows -/
theorem fnt_01 (hA : OKA n A) (hn : n ≤ 6) (h : fnt n A = true) (i j : Nat) : gA A i j = 0 ∨ gA A i j = 1 := by
  have hnn := gA_nn (A := A) i j
  apply Classical.byContradiction
  intro hno
  have h2 : 2 ≤ gA A i j := by omega
  obtain ⟨hi, hj⟩ := gA_out hA.2.1 (p := i) (i := j) (by omega)
  have hij : i ≠ j := fun q => by subst q; rw [hA.sym.2] at h2; omega
  have h3 := fnt_no hA hn h (d := fun k => if k = i then 1 else if k = j then 1 else 0) (fun k _ => by
    show (if k = i then 1 else if k = j then 1 else 0) ≤ 2
    split
    · omega
    · split <;> omega) ⟨i, hi, by show (if i = i then 1 else if i = j then 1 else 0) ≠ 0; rw [if_pos rfl]; omega⟩
  have e1 : ∀ k, zr (fun k => if k = i then 1 else if k = j then 1 else 0) k = ua (ua (fun _ => 0) i 1) j 1 k := fun k => by
    show (((if k = i then 1 else if k = j then 1 else 0 : Nat)) : Int) = if k = j then (if k = i then (0 : Int) + 1 else 0) + 1 else (if k = i then (0 : Int) + 1 else 0)
    by_cases k1 : k = i
    · have k2 : ¬ k = j := fun q => hij (k1.symm.trans q)
      rw [if_pos k1, if_neg k2, if_pos k1]; rfl
    · by_cases k2 : k = j
      · rw [if_neg k1, if_pos k2, if_pos k2, if_neg k1]; rfl
      · rw [if_neg k1, if_neg k2, if_neg k2, if_neg k1]; rfl
  rw [bb_congr (fun k _ => e1 k) (fun k _ => e1 k), bb_ua hA.sym hj, bb_ua hA.sym hi] at h3
  have e0 : bg n (gA A) (fun _ => 0) i = 0 := bg_zero hi (fun _ _ => rfl)
  have e2 : bb n (gA A) (fun _ => 0) (fun _ => 0) = 0 := by
    unfold bb
    rw [zs_congr (g := fun _ => 0) (fun k _ => Int.zero_mul _), zs_0]
  have e3 : bg n (gA A) (ua (fun _ => 0) i 1) j = - gA A j i := by
    unfold bg
    rw [ua_n (fun q => hij q.symm)]
    rw [zs_congr (f := fun k => gA A j k * ua (fun _ => 0) i 1 k) (g := fun k => if k = i then gA A j k else 0) (fun k _ => by
      by_cases hk : k = i
      · subst hk; rw [ua_s, if_pos rfl]; show gA A j k * (0 + 1) = _; rw [Int.zero_add, Int.mul_one]
      · rw [ua_n hk, if_neg hk]; exact Int.mul_zero _), zs_one hi (f := fun k => gA A j k)]
    show 2 * (0 : Int) - gA A j i = - gA A j i
    omega
  rw [e0, e2, e3, hA.sym.1 j i] at h3
  omega
/-- what the search of the graphs tells -/
theorem fnt_good (hA : OKA n A) (hn : n ≤ 6) (h : fnt n A = true) : ∃ L, Good n (gA A) L := by
  rcases gk_all hA.sym (fnt_01 hA hn h) n hn with ⟨z, h1, h2, h3, h4⟩ | h5
  · have := fnt_no hA hn h (d := fun i => z / 4 ^ i % 4) h2 h3
    have h4 : bb n (gA A) (zr (fun i => z / 4 ^ i % 4)) (zr (fun i => z / 4 ^ i % 4)) ≤ 0 := h4
    omega
  · exact h5
theorem good_clo {g : Nat → Nat → Int} {L : List Nat} (h : Good n g L) : Clo n g (fun y => ∃ c ∈ L, y = gr c) := by
  obtain ⟨h1, h2, h3⟩ := h
  refine ⟨?_, fun p hp => ⟨gr (4 ^ p), ⟨_, h2 p hp, rfl⟩, fun i hi => ?_⟩, ?_⟩
  · rintro y ⟨c, hc, rfl⟩
    exact ⟨fun i _ => Int.natCast_nonneg _, (h3 c hc).2.1⟩
  · have e := dg_set (c := 0) (p := p) (u := 1) (i := i) (c2 := 4 ^ p) (by omega) (by rw [Nat.zero_div]; omega)
    unfold gr
    rw [e, Nat.zero_div]
    by_cases hip : i = p
    · rw [if_pos hip, if_pos hip]; rfl
    · rw [if_neg hip, if_neg hip]; rfl
  · rintro y p ⟨c, hc, rfl⟩ hp hnn
    obtain ⟨c2, q1, q2⟩ := (h3 c hc).2.2 p hp hnn
    exact ⟨gr c2, ⟨c2, q1, rfl⟩, fun i _ => q2 i⟩
theorem zs_ub {f : Nat → Int} {b : Int} (h : ∀ i, i < n → f i ≤ b) : zs n f ≤ n * b := by
  induction n with
  | zero => show (0 : Int) ≤ (0 : Nat) * b; rw [Int.natCast_zero, Int.zero_mul]; omega
  | succ n ih =>
    have h1 := ih (fun i hi => h i (by omega))
    have h2 := h n (by omega)
    rw [zs_s, Int.natCast_add, Int.add_mul]
    omega
theorem fnt_wp (hA : OKA n A) (hn : n ≤ 6) (h : fnt n A = true) : WP n (gA A) := by
  obtain ⟨L, hL⟩ := fnt_good hA hn h
  refine wp_of hA.sym (S := n * 3) (good_clo hL) ?_
  rintro y ⟨c, hc, rfl⟩
  refine zs_ub (fun i hi => ?_)
  unfold gr
  omega
theorem fnt_desc (hA : OKA n A) (hn : n ≤ 6) {L : List Nat} (hL : Good n (gA A) L) (h : fnt n A = true) {y : Nat → Int} (hy : ∀ i, i < n → 0 ≤ y i) (h2 : bb n (gA A) y y = 2) : ∃ c ∈ L, ∀ i, i < n → y i = gr c i := by
  obtain ⟨y', ⟨c, hc, rfl⟩, h3⟩ := desc hA.sym (fnt_wp hA hn h) (good_clo hL) y hy h2
  exact ⟨c, hc, fun i hi => (h3 i hi).symm⟩
theorem fnt_3 (hA : OKA n A) (hn : n ≤ 6) (h : fnt n A = true) {y : Nat → Int} (hy : ∀ i, i < n → 0 ≤ y i) (h2 : bb n (gA A) y y = 2) : ∀ i, i < n → y i ≤ 3 := by
  obtain ⟨L, hL⟩ := fnt_good hA hn h
  obtain ⟨c, hc, e⟩ := fnt_desc hA hn hL h hy h2
  intro i hi
  rw [e i hi]
  unfold gr
  omega
theorem rsm_zs (n c : Nat) : ((rsm n c : Nat) : Int) = zs n (zr (dgs 4 n c)) := by
  unfold rsm
  have : ∀ j, ((fo (fun i s => s + c / 4 ^ (n - 1 - i) % 4) j 0 : Nat) : Int) = zs j (zr (dgs 4 n c)) := by
    intro j
    induction j with
    | zero => rfl
    | succ j ih =>
      rw [fo_s, zs_s, ← ih, Int.natCast_add]
      rfl
  exact this n
theorem rsm_lt (hn : n ≤ 6) (c : Nat) : rsm n c < 19 := by
  have h1 := rsm_zs n c
  have h2 := zs_ub (n := n) (f := zr (dgs 4 n c)) (b := 3) (fun i _ => by
    have : dgs 4 n c i < 4 := dgs_lt (by omega)
    unfold zr
    omega)
  omega
theorem eul1 (hA : OKA n A) (hn : n ≤ 6) {c : Nat} : eul n A (rowOf n 4 c) (rowOf n 4 c) = 1 ↔ bb n (gA A) (zr (dgs 4 n c)) (zr (dgs 4 n c)) = 2 := by
  rw [← eul_rowOf hA hn (by omega) (by omega), fa_eq, show (1 : Int32).toInt = 1 from rfl]
  omega
theorem bb_zero {g : Nat → Nat → Int} {y : Nat → Int} (h : ∀ i, i < n → y i = 0) : bb n g y y = 0 := by
  unfold bb
  rw [zs_congr (g := fun _ => 0) (fun i hi => by rw [h i hi, Int.zero_mul]), zs_0]
theorem mem_rts (hA : OKA n A) (hn : n ≤ 6) {c : Nat} : c ∈ rts n A ↔ c < 4 ^ n ∧ bb n (gA A) (zr (dgs 4 n c)) (zr (dgs 4 n c)) = 2 := by
  unfold rts
  rw [List.mem_flatMap]
  constructor
  · rintro ⟨s, _, h2⟩
    rw [List.mem_filter, List.mem_reverse, List.mem_range, Bool.and_eq_true, Bool.and_eq_true, decide_eq_true_iff, decide_eq_true_iff, decide_eq_true_iff, eul1 hA hn] at h2
    exact ⟨h2.1, h2.2.2⟩
  · rintro ⟨h1, h2⟩
    refine ⟨rsm n c, List.mem_range.mpr (rsm_lt hn c), ?_⟩
    rw [List.mem_filter, List.mem_reverse, List.mem_range, Bool.and_eq_true, Bool.and_eq_true, decide_eq_true_iff, decide_eq_true_iff, decide_eq_true_iff, eul1 hA hn]
    refine ⟨h1, ⟨fun q => ?_, rfl⟩, h2⟩
    subst q
    rw [bb_zero (fun i _ => by unfold zr; rw [dgs_zero]; rfl)] at h2
    omega
/-- which of two roots goes ahead -/
def ahd (n a b : Nat) : Prop := rsm n a < rsm n b ∨ (rsm n a = rsm n b ∧ b < a)
theorem rts_sorted : (rts n A).Pairwise (ahd n) := by
  unfold rts
  rw [List.pairwise_flatMap]
  constructor
  · intro s _
    refine (List.Pairwise.filter _ (R := fun a b => b < a) ?_).imp_of_mem (fun {a b} ha hb hab => ?_)
    · rw [List.pairwise_reverse]
      exact List.pairwise_lt_range
    · rw [List.mem_filter, Bool.and_eq_true, Bool.and_eq_true, decide_eq_true_iff, decide_eq_true_iff] at ha hb
      exact Or.inr ⟨by rw [ha.2.1.2, hb.2.1.2], hab⟩
  · refine List.pairwise_lt_range.imp (fun {s t} hst => ?_)
    intro a ha b hb
    rw [List.mem_filter, Bool.and_eq_true, Bool.and_eq_true, decide_eq_true_iff, decide_eq_true_iff] at ha hb
    exact Or.inl (by rw [ha.2.1.2, hb.2.1.2]; exact hst)
theorem rts_nodup : (rts n A).Nodup := rts_sorted.imp (fun {a b} h q => by
  subst q
  rcases h with h | h <;> omega)
theorem fnt_36 (hA : OKA n A) (hn : n ≤ 6) (h : fnt n A = true) : (rts n A).length ≤ 36 := by
  obtain ⟨L, hL⟩ := fnt_good hA hn h
  let rv : Nat → Nat := fun x => enc 4 n (fun j => dgs 4 n x (n - 1 - j))
  have hlt : ∀ x j, j < n → dgs 4 n x (n - 1 - j) < 4 := fun x j _ => dgs_lt (by omega)
  have hnd : ((rts n A).map rv).Nodup := map_nd rts_nodup (fun a ha b hb e => by
    have ha := ((mem_rts hA hn).mp ha).1
    have hb := ((mem_rts hA hn).mp hb).1
    refine dgs_inj (by omega) ha hb (fun i hi => ?_)
    have e1 := dgs_enc (b := 4) (by omega) n (fun j => dgs 4 n a (n - 1 - j)) (hlt a) (n - 1 - i) (by omega)
    have e2 := dgs_enc (b := 4) (by omega) n (fun j => dgs 4 n b (n - 1 - j)) (hlt b) (n - 1 - i) (by omega)
    have e : enc 4 n (fun j => dgs 4 n a (n - 1 - j)) = enc 4 n (fun j => dgs 4 n b (n - 1 - j)) := e
    rw [e, e2] at e1
    rw [show n - 1 - (n - 1 - i) = i by omega] at e1
    exact e1.symm)
  have h1 := nd_len hnd (l2 := L) (fun a ha => by
    obtain ⟨x, hx, rfl⟩ := List.mem_map.mp ha
    obtain ⟨x1, x2⟩ := (mem_rts hA hn).mp hx
    obtain ⟨c, hc, e⟩ := fnt_desc hA hn hL h (fun i _ => zr_nn i) x2
    have hcl := (hL.2.2 c hc).1
    have : rv x = c := by
      refine dgs_inj (b := 4) (n := n) (by omega) (enc_lt (hlt x)) hcl (fun i hi => ?_)
      rw [dgs_enc (b := 4) (by omega) n _ (hlt x) i hi]
      have e2 := e (n - 1 - i) (by omega)
      unfold zr gr at e2
      show dgs 4 n x (n - 1 - i) = c / 4 ^ (n - 1 - i) % 4
      omega
    rw [this]
    exact hc)
  rw [List.length_map] at h1
  exact Nat.le_trans h1 hL.1
/-- a place in a sorted list is the number of those ahead -/
theorem idx_cnt {l : List Nat} (h : l.Pairwise (ahd n)) : ∀ t x, l[t]? = some x → ∀ p : Nat → Bool, (∀ a ∈ l, (p a = true ↔ ahd n a x)) → l.countP p = t := by
  induction l with
  | nil => intro t x ht; simp at ht
  | cons a l ih =>
    intro t x ht p hp
    rw [List.pairwise_cons] at h
    cases t with
    | zero =>
      have : a = x := by simpa using ht
      subst this
      rw [List.countP_eq_zero]
      intro b hb hpb
      have h1 := (hp b hb).mp hpb
      rcases List.mem_cons.mp hb with rfl | hb
      · rcases h1 with h1 | h1 <;> omega
      · have h2 := h.1 b hb
        rcases h1 with h1 | h1 <;> rcases h2 with h2 | h2 <;> omega
    | succ t =>
      have ht : l[t]? = some x := by simpa using ht
      have hx := List.mem_of_getElem? ht
      rw [List.countP_cons_of_pos ((hp a List.mem_cons_self).mpr (h.1 x hx)), ih h.2 t x ht p (fun a ha => hp a (List.mem_cons_of_mem _ ha))]
end FIN

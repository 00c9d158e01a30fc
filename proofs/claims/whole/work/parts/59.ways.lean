/-! ===== in how many ways: counting by wheels ===== -/
def vsub (b r : Nat → Int) : Nat → Int := fun i => b i - r i
def vadd (b r : Nat → Int) (k : Nat) : Nat → Int := fun i => b i + (k : Int) * r i
def fitP (r b : Nat → Int) : Prop := ∀ i, r i ≤ b i
noncomputable def Sf (r : Nat → Int) (ph : (Nat → Int) → Nat) : Nat → (Nat → Int) → Nat
  | 0, b => ph b
  | f + 1, b => ph b + (if dc (fitP r b) then Sf r ph f (vsub b r) else 0)
/-- over all times that a row may be taken -/
noncomputable def SS (n : Nat) (r : Nat → Int) (ph : (Nat → Int) → Nat) (b : Nat → Int) : Nat := Sf r ph (zs n b).toNat b
/-- a row that counts -/
def Rw (n : Nat) (r : Nat → Int) : Prop := (∀ i, 0 ≤ r i) ∧ 1 ≤ zs n r
section CWAYS
variable {n : Nat} {r s : Nat → Int} {ph ps : (Nat → Int) → Nat} {b : Nat → Int}
theorem zs_mono {f g : Nat → Int} (h : ∀ i, i < n → f i ≤ g i) : zs n f ≤ zs n g := by
  have := zs_nn (n := n) (f := fun i => g i - f i) (fun i hi => by have := h i hi; show 0 ≤ g i - f i; omega)
  rw [zs_sub] at this
  omega
theorem zs_vsub : zs n (vsub b r) = zs n b - zs n r := zs_sub
theorem dc_t {p : Prop} (h : p) : dc p = true := dc_iff.mpr h
theorem dc_f {p : Prop} (h : ¬ p) : dc p = false := by
  cases hh : dc p with
  | false => rfl
  | true => exact absurd (dc_iff.mp hh) h
theorem ff_t : ¬ (false = true) := by simp
theorem Sf_s (f : Nat) : Sf r ph (f + 1) b = ph b + (if dc (fitP r b) then Sf r ph f (vsub b r) else 0) := rfl
theorem fit_zs (hr : Rw n r) (h : fitP r b) : 1 ≤ zs n b ∧ zs n (vsub b r) + 1 ≤ zs n b := by
  have h1 := zs_mono (n := n) (fun i _ => h i)
  have h2 := hr.2
  have h3 := zs_vsub (n := n) (b := b) (r := r)
  omega
theorem Sf_stab (hr : Rw n r) : ∀ f b, (zs n b).toNat ≤ f → Sf r ph (f + 1) b = Sf r ph f b := by
  intro f
  induction f with
  | zero =>
    intro b h
    have hno : ¬ fitP r b := fun q => by have := fit_zs hr q; omega
    rw [Sf_s, dc_f hno, if_neg ff_t]
    rfl
  | succ f ih =>
    intro b h
    show ph b + (if dc (fitP r b) then Sf r ph (f + 1) (vsub b r) else 0) = ph b + (if dc (fitP r b) then Sf r ph f (vsub b r) else 0)
    by_cases hfit : fitP r b
    · have := fit_zs hr hfit
      rw [ih (vsub b r) (by omega)]
    · rw [dc_f hfit, if_neg ff_t, if_neg ff_t]
theorem Sf_fix (hr : Rw n r) : ∀ d b, Sf r ph ((zs n b).toNat + d) b = SS n r ph b := by
  intro d
  induction d with
  | zero => intro b; rfl
  | succ d ih => intro b; rw [← Nat.add_assoc, Sf_stab hr _ b (by omega), ih]
theorem SS_rec (hr : Rw n r) : SS n r ph b = ph b + (if dc (fitP r b) then SS n r ph (vsub b r) else 0) := by
  rw [← Sf_fix hr 1 b, Sf_s]
  by_cases hfit : fitP r b
  · have := fit_zs hr hfit
    rw [dc_t hfit, if_pos rfl, if_pos rfl]
    congr 1
    obtain ⟨d, hd⟩ : ∃ d, (zs n b).toNat = (zs n (vsub b r)).toNat + d := ⟨(zs n b).toNat - (zs n (vsub b r)).toNat, by omega⟩
    rw [hd]
    exact Sf_fix hr d _
  · rw [dc_f hfit, if_neg ff_t, if_neg ff_t]
theorem SS_fit (hr : Rw n r) (h : fitP r b) : SS n r ph b = ph b + SS n r ph (vsub b r) := by rw [SS_rec hr, dc_t h, if_pos rfl]
theorem SS_no (hr : Rw n r) (h : ¬ fitP r b) : SS n r ph b = ph b := by rw [SS_rec hr, dc_f h, if_neg ff_t]; rfl
theorem SS_ge (hr : Rw n r) : ph b ≤ SS n r ph b := by rw [SS_rec hr]; exact Nat.le_add_right _ _
/-- two rows, whichever comes first -/
theorem vsub_c {t : Nat → Int} : vsub (vsub b r) t = vsub (vsub b t) r := by funext i; show b i - r i - t i = b i - t i - r i; omega
theorem SS_shift (hr : Rw n r) (hs : Rw n s) (ps : (Nat → Int) → Nat) : ∀ m b, (zs n b).toNat ≤ m → SS n s (fun c => if dc (fitP r c) then ps (vsub c r) else 0) b = if dc (fitP r b) then SS n s ps (vsub b r) else 0 := by
  intro m
  have step : ∀ b, (fitP s b → SS n s (fun c => if dc (fitP r c) then ps (vsub c r) else 0) (vsub b s) = if dc (fitP r (vsub b s)) then SS n s ps (vsub (vsub b s) r) else 0) → SS n s (fun c => if dc (fitP r c) then ps (vsub c r) else 0) b = if dc (fitP r b) then SS n s ps (vsub b r) else 0 := by
    intro b hI
    by_cases hrb : fitP r b
    · rw [dc_t hrb, if_pos rfl]
      by_cases hsb : fitP s b
      · rw [SS_fit hs hsb, hI hsb, dc_t hrb, if_pos rfl]
        by_cases hrs : fitP r (vsub b s)
        · have hsr : fitP s (vsub b r) := fun i => by have : r i ≤ b i - s i := hrs i; show s i ≤ b i - r i; omega
          rw [dc_t hrs, if_pos rfl, SS_fit hs hsr, vsub_c]
        · have hsr : ¬ fitP s (vsub b r) := fun q => hrs (fun i => by have : s i ≤ b i - r i := q i; show r i ≤ b i - s i; omega)
          rw [dc_f hrs, if_neg ff_t, SS_no hs hsr]
          rfl
      · have hsr : ¬ fitP s (vsub b r) := fun q => hsb (fun i => by have : s i ≤ b i - r i := q i; have := hr.1 i; omega)
        rw [SS_no hs hsb, SS_no hs hsr, dc_t hrb, if_pos rfl]
    · rw [dc_f hrb, if_neg ff_t]
      by_cases hsb : fitP s b
      · have hrs : ¬ fitP r (vsub b s) := fun q => hrb (fun i => by have : r i ≤ b i - s i := q i; have := hs.1 i; omega)
        rw [SS_fit hs hsb, hI hsb, dc_f hrb, dc_f hrs, if_neg ff_t, if_neg ff_t]
      · rw [SS_no hs hsb, dc_f hrb, if_neg ff_t]
  induction m with
  | zero => intro b h; exact step b (fun q => by have := fit_zs hs q; omega)
  | succ m ih => intro b h; exact step b (fun q => ih _ (by have := fit_zs hs q; omega))
theorem SS_add (hs : Rw n s) (f g : (Nat → Int) → Nat) : ∀ m b, (zs n b).toNat ≤ m → SS n s (fun c => f c + g c) b = SS n s f b + SS n s g b := by
  intro m
  have step : ∀ b, (fitP s b → SS n s (fun c => f c + g c) (vsub b s) = SS n s f (vsub b s) + SS n s g (vsub b s)) → SS n s (fun c => f c + g c) b = SS n s f b + SS n s g b := by
    intro b hI
    by_cases hsb : fitP s b
    · rw [SS_fit hs hsb, SS_fit hs hsb, SS_fit hs hsb, hI hsb]
      omega
    · rw [SS_no hs hsb, SS_no hs hsb, SS_no hs hsb]
  induction m with
  | zero => intro b h; exact step b (fun q => by have := fit_zs hs q; omega)
  | succ m ih => intro b h; exact step b (fun q => ih _ (by have := fit_zs hs q; omega))
theorem SS_comm (hr : Rw n r) (hs : Rw n s) : SS n r (SS n s ph) = SS n s (SS n r ph) := by
  funext b
  have key : ∀ m b, (zs n b).toNat ≤ m → SS n r (SS n s ph) b = SS n s (SS n r ph) b := by
    intro m
    have step : ∀ b, (fitP r b → SS n r (SS n s ph) (vsub b r) = SS n s (SS n r ph) (vsub b r)) → SS n r (SS n s ph) b = SS n s (SS n r ph) b := by
      intro b hI
      have e1 : SS n s (SS n r ph) b = SS n s ph b + (if dc (fitP r b) then SS n s (SS n r ph) (vsub b r) else 0) := by
        have e2 : SS n r ph = fun c => ph c + (if dc (fitP r c) then SS n r ph (vsub c r) else 0) := by funext c; exact SS_rec hr
        conv => lhs; rw [e2]
        rw [SS_add hs _ _ _ b (Nat.le_refl _), SS_shift hr hs _ _ b (Nat.le_refl _)]
      rw [e1, SS_rec hr]
      by_cases hrb : fitP r b
      · rw [dc_t hrb, if_pos rfl, if_pos rfl, hI hrb]
      · rw [dc_f hrb, if_neg ff_t, if_neg ff_t]
    induction m with
    | zero => intro b h; exact step b (fun q => by have := fit_zs hr q; omega)
    | succ m ih => intro b h; exact step b (fun q => ih _ (by have := fit_zs hr q; omega))
  exact key _ b (Nat.le_refl _)
/-- how often a row fits -/
theorem SS_one (hr : Rw n r) : ∀ h b, (∀ k : Nat, (∀ i, (k : Int) * r i ≤ b i) ↔ k ≤ h) → SS n r (fun _ => 1) b = 1 + h := by
  intro h
  induction h with
  | zero =>
    intro b hb
    have hno : ¬ fitP r b := fun q => by
      have := (hb 1).mp (fun i => by have := q i; show ((1 : Nat) : Int) * r i ≤ b i; rw [Int.natCast_one, Int.one_mul]; exact this)
      omega
    rw [SS_no hr hno]
  | succ h ih =>
    intro b hb
    have hf : fitP r b := fun i => by
      have := (hb 1).mpr (by omega) i
      rw [Int.natCast_one, Int.one_mul] at this
      exact this
    rw [SS_fit hr hf, ih (vsub b r) (fun k => by
      have h2 := hb (k + 1)
      constructor
      · intro q
        have := h2.mp (fun i => by
          have h3 : (k : Int) * r i ≤ b i - r i := q i
          rw [Int.natCast_add, Int.add_mul, Int.natCast_one, Int.one_mul]
          omega)
        omega
      · intro q i
        have := h2.mpr (by omega) i
        rw [Int.natCast_add, Int.add_mul, Int.natCast_one, Int.one_mul] at this
        show (k : Int) * r i ≤ b i - r i
        omega)]
    omega
end CWAYS
/-- all states of the wheels, the first the fastest -/
noncomputable def Fn (n : Nat) (R : Nat → Nat → Int) (l : List Nat) (ph : (Nat → Int) → Nat) : (Nat → Int) → Nat := l.foldl (fun ph t => SS n (R t) ph) ph
/-- what is left from a state on -/
noncomputable def Hn (n : Nat) (R : Nat → Nat → Int) : List Nat → List Nat → (Nat → Int) → ((Nat → Int) → Nat) → Nat
  | [], _, b, ph => ph b
  | t :: l, m, b, ph => SS n (R t) ph b + (Hn n R l m.tail (vadd b (R t) (m.headD 0)) (SS n (R t) ph) - SS n (R t) ph (vadd b (R t) (m.headD 0)))
/-- the wheels go on -/
noncomputable def stp (R : Nat → Nat → Int) : List Nat → List Nat → (Nat → Int) → Option (List Nat × (Nat → Int))
  | [], _, _ => none
  | t :: l, m, b => if dc (fitP (R t) b) then some ((m.headD 0 + 1) :: m.tail, vsub b (R t)) else (stp R l m.tail (vadd b (R t) (m.headD 0))).map (fun q => (0 :: q.1, q.2))
section CWAYS2
variable {n : Nat} {R : Nat → Nat → Int}
theorem vadd_s {b r : Nat → Int} {k : Nat} : vadd (vsub b r) r (k + 1) = vadd b r k := by
  funext i
  show b i - r i + ((k + 1 : Nat) : Int) * r i = b i + (k : Int) * r i
  rw [Int.natCast_add, Int.add_mul, Int.natCast_one, Int.one_mul]
  omega
theorem vadd_0 {b r : Nat → Int} : vadd b r 0 = b := by
  funext i
  show b i + ((0 : Nat) : Int) * r i = b i
  rw [Int.natCast_zero, Int.zero_mul, Int.add_zero]
theorem Hn_ge (hR : ∀ t, Rw n (R t)) : ∀ l m b ph, ph b ≤ Hn n R l m b ph := by
  intro l m b ph
  cases l with
  | nil => exact Nat.le_refl _
  | cons t l => exact Nat.le_trans (SS_ge (hR t)) (Nat.le_add_right _ _)
theorem Hn_zero (hR : ∀ t, Rw n (R t)) : ∀ l m b ph, (∀ k ∈ m, k = 0) → Hn n R l m b ph = Fn n R l ph b := by
  intro l
  induction l with
  | nil => intro m b ph _; rfl
  | cons t l ih =>
    intro m b ph hm
    have h0 : m.headD 0 = 0 := by
      cases m with
      | nil => rfl
      | cons k m => exact hm k List.mem_cons_self
    have ht : ∀ k ∈ m.tail, k = 0 := fun k hk => hm k (List.mem_of_mem_tail hk)
    show SS n (R t) ph b + (Hn n R l m.tail (vadd b (R t) (m.headD 0)) (SS n (R t) ph) - SS n (R t) ph (vadd b (R t) (m.headD 0))) = Fn n R l (SS n (R t) ph) b
    rw [h0, vadd_0, ← ih m.tail b (SS n (R t) ph) ht]
    have := Hn_ge hR l m.tail b (SS n (R t) ph)
    omega
theorem Hn_step (hR : ∀ t, Rw n (R t)) : ∀ l m b ph, (stp R l m b = none → Hn n R l m b ph = ph b) ∧ ∀ m' b', stp R l m b = some (m', b') → Hn n R l m b ph = ph b + Hn n R l m' b' ph := by
  intro l
  induction l with
  | nil => intro m b ph; exact ⟨fun _ => rfl, fun m' b' h => by cases h⟩
  | cons t l ih =>
    intro m b ph
    have hd : Hn n R (t :: l) m b ph = SS n (R t) ph b + (Hn n R l m.tail (vadd b (R t) (m.headD 0)) (SS n (R t) ph) - SS n (R t) ph (vadd b (R t) (m.headD 0))) := rfl
    have hs : stp R (t :: l) m b = if dc (fitP (R t) b) then some ((m.headD 0 + 1) :: m.tail, vsub b (R t)) else (stp R l m.tail (vadd b (R t) (m.headD 0))).map (fun q => (0 :: q.1, q.2)) := rfl
    by_cases hf : fitP (R t) b
    · rw [dc_t hf, if_pos rfl] at hs
      refine ⟨fun h => absurd (hs.symm.trans h) (by simp), fun m' b' h => ?_⟩
      rw [hs] at h
      cases h
      rw [hd]
      show _ = ph b + (SS n (R t) ph (vsub b (R t)) + (Hn n R l m.tail (vadd (vsub b (R t)) (R t) (m.headD 0 + 1)) (SS n (R t) ph) - SS n (R t) ph (vadd (vsub b (R t)) (R t) (m.headD 0 + 1))))
      rw [vadd_s, SS_fit (hR t) hf]
      omega
    · rw [dc_f hf, if_neg ff_t] at hs
      obtain ⟨i1, i2⟩ := ih m.tail (vadd b (R t) (m.headD 0)) (SS n (R t) ph)
      have hg := Hn_ge hR l m.tail (vadd b (R t) (m.headD 0)) (SS n (R t) ph)
      cases hst : stp R l m.tail (vadd b (R t) (m.headD 0)) with
      | none =>
        rw [hst] at hs
        refine ⟨fun _ => ?_, fun m' b' h => by rw [hs] at h; cases h⟩
        rw [hd, i1 hst, SS_no (hR t) hf]
        omega
      | some q =>
        rw [hst] at hs
        refine ⟨fun h => absurd (hs.symm.trans h) (by simp), fun m' b' h => ?_⟩
        rw [hs] at h
        have h : some ((0 :: q.1, q.2) : List Nat × (Nat → Int)) = some (m', b') := h
        cases h
        rw [hd, i2 q.1 q.2 hst, SS_no (hR t) hf]
        show _ = ph b + (SS n (R t) ph q.2 + (Hn n R l q.1 (vadd q.2 (R t) 0) (SS n (R t) ph) - SS n (R t) ph (vadd q.2 (R t) 0)))
        rw [vadd_0]
        have := Hn_ge hR l q.1 q.2 (SS n (R t) ph)
        omega
/-- the order of the wheels does not matter -/
theorem Fn_perm (hR : ∀ t, Rw n (R t)) {l1 l2 : List Nat} (h : List.Perm l1 l2) (ph : (Nat → Int) → Nat) : Fn n R l1 ph = Fn n R l2 ph :=
  h.foldl_eq' (fun x _ y _ z => SS_comm (hR y) (hR x)) ph
/-- nor do those that do not fit -/
theorem Fn_no (hR : ∀ t, Rw n (R t)) {b : Nat → Int} : ∀ (l1 l2 : List Nat) (ph : (Nat → Int) → Nat), (∀ t ∈ l2, ¬ fitP (R t) b) → Fn n R (l1 ++ l2) ph b = Fn n R l1 ph b := by
  intro l1 l2 ph h
  unfold Fn
  rw [List.foldl_append]
  generalize l1.foldl (fun ph t => SS n (R t) ph) ph = ps
  induction l2 generalizing ps with
  | nil => rfl
  | cons t l2 ih =>
    rw [List.foldl_cons, ih (fun t ht => h t (List.mem_cons_of_mem _ ht))]
    exact SS_no (hR t) (h t List.mem_cons_self)
end CWAYS2

/-! ===== forms over whole numbers ===== -/
/-- a sum over the numbers below n -/
def zs : Nat → (Nat → Int) → Int
  | 0, _ => 0
  | n + 1, f => zs n f + f n
theorem zs_s {n : Nat} {f : Nat → Int} : zs (n + 1) f = zs n f + f n := rfl
theorem zs_congr {n : Nat} {f g : Nat → Int} (h : ∀ i, i < n → f i = g i) : zs n f = zs n g := by
  induction n with
  | zero => rfl
  | succ n ih => rw [zs_s, zs_s, ih (fun i hi => h i (by omega)), h n (by omega)]
theorem zs_0 {n : Nat} : zs n (fun _ => 0) = 0 := by
  induction n with
  | zero => rfl
  | succ n ih => rw [zs_s, ih]; rfl
theorem zs_add {n : Nat} {f g : Nat → Int} : zs n (fun i => f i + g i) = zs n f + zs n g := by
  induction n with
  | zero => rfl
  | succ n ih => rw [zs_s, zs_s, zs_s, ih]; omega
theorem zs_sub {n : Nat} {f g : Nat → Int} : zs n (fun i => f i - g i) = zs n f - zs n g := by
  induction n with
  | zero => rfl
  | succ n ih => rw [zs_s, zs_s, zs_s, ih]; omega
theorem zs_mul {n : Nat} (c : Int) {f : Nat → Int} : zs n (fun i => c * f i) = c * zs n f := by
  induction n with
  | zero => exact (Int.mul_zero c).symm
  | succ n ih => rw [zs_s, zs_s, ih, Int.mul_add]
theorem zs_swap {n m : Nat} {f : Nat → Nat → Int} : zs n (fun i => zs m (fun j => f i j)) = zs m (fun j => zs n (fun i => f i j)) := by
  induction n with
  | zero => exact zs_0.symm
  | succ n ih => rw [zs_s, ih]; exact zs_add.symm
theorem zs_one {n p : Nat} (hp : p < n) {f : Nat → Int} : zs n (fun i => if i = p then f i else 0) = f p := by
  induction n with
  | zero => omega
  | succ n ih =>
    rw [zs_s]
    by_cases h : p = n
    · subst h
      rw [if_pos rfl, zs_congr (g := fun _ => 0) (fun i hi => by rw [if_neg (by omega)]), zs_0]
      omega
    · rw [if_neg (by omega), ih (by omega)]
      omega
theorem zs_nn {n : Nat} {f : Nat → Int} (h : ∀ i, i < n → 0 ≤ f i) : 0 ≤ zs n f := by
  induction n with
  | zero => exact Int.le_refl _
  | succ n ih => rw [zs_s]; have := ih (fun i hi => h i (by omega)); have := h n (by omega); omega
theorem zs_all0 {n : Nat} {f : Nat → Int} (h : ∀ i, i < n → 0 ≤ f i) (h2 : zs n f ≤ 0) : ∀ i, i < n → f i = 0 := by
  induction n with
  | zero => intro i hi; omega
  | succ n ih =>
    rw [zs_s] at h2
    have h3 := zs_nn (n := n) (fun i hi => h i (by omega))
    have h4 := h n (by omega)
    intro i hi
    by_cases hin : i = n
    · subst hin; omega
    · exact ih (fun i hi => h i (by omega)) (by omega) i (by omega)
theorem zs_pos {n : Nat} {f : Nat → Int} (h : 0 < zs n f) : ∃ i, i < n ∧ 0 < f i := by
  apply Classical.byContradiction
  intro hno
  have : ∀ i, i < n → 0 ≤ (fun i => - f i) i := fun i hi => by
    have : ¬ 0 < f i := fun q => hno ⟨i, hi, q⟩
    show 0 ≤ - f i
    omega
  have h2 := zs_nn this
  have h3 : zs n (fun i => - f i) = - zs n f := by
    rw [zs_congr (g := fun i => (-1) * f i) (fun i _ => by omega), zs_mul]; omega
  omega
theorem zs_le1 {n : Nat} {f : Nat → Int} (h : ∀ i, i < n → 0 ≤ f i) {p : Nat} (hp : p < n) : f p ≤ zs n f := by
  have h1 := zs_one hp (f := f)
  have h2 : 0 ≤ zs n (fun i => f i - (if i = p then f i else 0)) := zs_nn (fun i hi => by
    have := h i hi
    by_cases hip : i = p
    · rw [if_pos hip]; omega
    · rw [if_neg hip]; omega)
  rw [zs_sub, h1] at h2
  omega
theorem zs_of_le {n : Nat} {f : Nat → Int} : ∀ m, (∀ i, n ≤ i → i < n + m → f i = 0) → zs (n + m) f = zs n f := by
  intro m
  induction m with
  | zero => intro _; rfl
  | succ m ih => intro h; rw [← Nat.add_assoc, zs_s, ih (fun i h1 h2 => h i h1 (by omega)), h (n + m) (by omega) (by omega)]; omega
/-- y with c more at p -/
def ua (y : Nat → Int) (p : Nat) (c : Int) : Nat → Int := fun i => if i = p then y i + c else y i
theorem ua_s {y : Nat → Int} {p : Nat} {c : Int} : ua y p c p = y p + c := if_pos rfl
theorem ua_n {y : Nat → Int} {p i : Nat} {c : Int} (h : i ≠ p) : ua y p c i = y i := if_neg h
/-- BOTH of y and a unit row; BOTH of two rows -/
def bg (n : Nat) (g : Nat → Nat → Int) (y : Nat → Int) (p : Nat) : Int := 2 * y p - zs n (fun i => g p i * y i)
def bb (n : Nat) (g : Nat → Nat → Int) (y z : Nat → Int) : Int := zs n (fun p => z p * bg n g y p)
def Sym (g : Nat → Nat → Int) : Prop := (∀ i j, g i j = g j i) ∧ ∀ i, g i i = 0
section FORM
variable {n : Nat} {g : Nat → Nat → Int} {y z y' z' : Nat → Int} {p : Nat} {c : Int}
theorem bg_congr (hp : p < n) (h : ∀ i, i < n → y i = y' i) : bg n g y p = bg n g y' p := by
  unfold bg
  rw [h p hp, zs_congr (g := fun i => g p i * y' i) (fun i hi => by rw [h i hi])]
theorem bb_congr (h : ∀ i, i < n → y i = y' i) (h2 : ∀ i, i < n → z i = z' i) : bb n g y z = bb n g y' z' :=
  zs_congr (fun i hi => by rw [h2 i hi, bg_congr hi h])
theorem bb_eq : bb n g y z = 2 * zs n (fun p => z p * y p) - zs n (fun p => zs n (fun i => z p * (g p i * y i))) := by
  unfold bb bg
  rw [← zs_mul, ← zs_sub]
  refine zs_congr (fun i _ => ?_)
  rw [zs_mul, Int.mul_sub, Int.mul_left_comm]
theorem bb_sym (hs : Sym g) : bb n g y z = bb n g z y := by
  rw [bb_eq, bb_eq, zs_swap]
  congr 1
  · congr 1
    exact zs_congr (fun i _ => Int.mul_comm _ _)
  · refine zs_congr (fun i _ => zs_congr (fun j _ => ?_))
    rw [hs.1 j i, Int.mul_left_comm, Int.mul_comm (z j), Int.mul_left_comm]
theorem bb_r (hp : p < n) : bb n g y (ua z p c) = bb n g y z + c * bg n g y p := by
  unfold bb
  rw [← zs_one hp (f := fun i => c * bg n g y i), ← zs_add]
  refine zs_congr (fun i _ => ?_)
  by_cases h : i = p
  · subst h; rw [ua_s, if_pos rfl, Int.add_mul]
  · rw [ua_n h, if_neg h]; omega
theorem bb_l (hs : Sym g) (hp : p < n) : bb n g (ua y p c) z = bb n g y z + c * bg n g z p := by
  rw [bb_sym hs, bb_r hp, bb_sym hs]
theorem bg_ua (hs : Sym g) (hp : p < n) : bg n g (ua y p c) p = bg n g y p + 2 * c := by
  unfold bg
  rw [ua_s, zs_congr (g := fun i => g p i * y i) (fun i _ => by
    by_cases h : i = p
    · subst h; rw [hs.2 i]; omega
    · rw [ua_n h])]
  omega
theorem bb_ua (hs : Sym g) (hp : p < n) : bb n g (ua y p c) (ua y p c) = bb n g y y + 2 * (c * bg n g y p) + 2 * (c * c) := by
  rw [bb_r hp, bb_l hs hp, bg_ua hs hp, Int.mul_add, Int.mul_left_comm c 2 c]
  omega
theorem bg_zero (hp : p < n) (h : ∀ i, i < n → y i = 0) : bg n g y p = 0 := by
  unfold bg
  rw [h p hp, zs_congr (g := fun _ => 0) (fun i hi => by rw [h i hi, Int.mul_zero]), zs_0]
  rfl
/-- above nothing at all rows that are nowhere below -/
def WP (n : Nat) (g : Nat → Nat → Int) : Prop := ∀ z : Nat → Int, (∀ i, i < n → 0 ≤ z i) → (∃ i, i < n ∧ z i ≠ 0) → 0 < bb n g z z
theorem zs_ua (hp : p < n) : zs n (ua y p c) = zs n y + c := by
  have e : zs n (fun i => if i = p then c else 0) = c := zs_one hp (f := fun _ => c)
  rw [show zs n y + c = zs n y + zs n (fun i => if i = p then c else 0) by rw [e], ← zs_add]
  refine zs_congr (fun i _ => ?_)
  by_cases h : i = p
  · subst h; rw [ua_s, if_pos rfl]
  · rw [ua_n h, if_neg h]; omega
/-- the closed sets -/
def Clo (n : Nat) (g : Nat → Nat → Int) (F : (Nat → Int) → Prop) : Prop :=
  (∀ y, F y → (∀ i, i < n → 0 ≤ y i) ∧ bb n g y y = 2) ∧ (∀ p, p < n → ∃ y, F y ∧ ∀ i, i < n → y i = if i = p then 1 else 0) ∧ ∀ y p, F y → p < n → 0 ≤ y p - bg n g y p → ∃ y', F y' ∧ ∀ i, i < n → y' i = ua y p (- bg n g y p) i
theorem top_ex {F : (Nat → Int) → Prop} {S : Int} (hF : Clo n g F) (hS : ∀ y, F y → zs n y ≤ S) (U : Nat → Prop) : ∀ (m : Nat) (y : Nat → Int), F y → S - zs n y ≤ m → (∀ i, i < n → y i ≠ 0 → U i) → ∃ y, F y ∧ (∀ i, i < n → y i ≠ 0 → U i) ∧ ∀ p, p < n → U p → 0 ≤ bg n g y p := by
  intro m
  induction m with
  | zero =>
    intro y hy hm hU
    refine ⟨y, hy, hU, fun p hp hpU => ?_⟩
    apply Classical.byContradiction
    intro hno
    have hy0 := (hF.1 y hy).1 p hp
    obtain ⟨y', h1, h2⟩ := hF.2.2 y p hy hp (by omega)
    have h3 := hS y' h1
    rw [zs_congr h2, zs_ua hp] at h3
    have := hS y hy
    omega
  | succ m ih =>
    intro y hy hm hU
    by_cases hall : ∀ p, p < n → U p → 0 ≤ bg n g y p
    · exact ⟨y, hy, hU, hall⟩
    · obtain ⟨p, hp⟩ := Classical.not_forall.mp hall
      obtain ⟨hpn, hp⟩ := Classical.not_forall.mp hp
      obtain ⟨hpU, hp⟩ := Classical.not_forall.mp hp
      have hy0 := (hF.1 y hy).1 p hpn
      obtain ⟨y', h1, h2⟩ := hF.2.2 y p hy hpn (by omega)
      refine ih y' h1 ?_ (fun i hi hne => ?_)
      · rw [zs_congr h2, zs_ua hpn]; omega
      · by_cases hip : i = p
        · subst hip; exact hpU
        · rw [h2 i hi, ua_n hip] at hne; exact hU i hi hne
/-- (i) a closed set whose sums are bounded makes the form weakly positive -/
theorem wp_of (hs : Sym g) {F : (Nat → Int) → Prop} {S : Int} (hF : Clo n g F) (hS : ∀ y, F y → zs n y ≤ S) : WP n g := by
  have key : ∀ (m : Nat) (z : Nat → Int), (∀ i, i < n → 0 ≤ z i) → zs n z ≤ m → (∃ i, i < n ∧ z i ≠ 0) → 0 < bb n g z z := by
    intro m
    induction m with
    | zero =>
      intro z hz hm ⟨i, hi, hne⟩
      exact absurd (zs_all0 hz (by omega) i hi) hne
    | succ m ih =>
      intro z hz hm ⟨i0, hi0, hne0⟩
      apply Classical.byContradiction
      intro hno
      -- at the points of z the form falls nowhere
      have h1 : ∀ p, p < n → z p ≠ 0 → bg n g z p ≤ 0 := by
        intro p hp hzp
        have hz0 := hz p hp
        have e := bb_ua hs hp (y := z) (c := -1)
        by_cases hnz : ∃ i, i < n ∧ ua z p (-1) i ≠ 0
        · have h2 := ih (ua z p (-1)) (fun i hi => by
            by_cases hip : i = p
            · subst hip; rw [ua_s]; omega
            · rw [ua_n hip]; exact hz i hi) (by rw [zs_ua hp]; omega) hnz
          omega
        · exfalso
          have h3 : ∀ i, i < n → ua z p (-1) i = 0 := fun i hi => Classical.byContradiction (fun q => hnz ⟨i, hi, q⟩)
          have h4 : bb n g (ua z p (-1)) (ua z p (-1)) = 0 := by
            unfold bb
            rw [zs_congr (g := fun _ => 0) (fun i hi => by rw [h3 i hi]; omega), zs_0]
          have h5 : bg n g (ua z p (-1)) p = 0 := bg_zero hp h3
          rw [bg_ua hs hp] at h5
          omega
      obtain ⟨y0, hy0, hy0'⟩ := hF.2.1 i0 hi0
      obtain ⟨y, hy, hyU, hyp⟩ := top_ex hF hS (fun i => z i ≠ 0) (S - zs n y0).toNat y0 hy0 (by omega) (fun i hi hne => by
        rw [hy0' i hi] at hne
        by_cases hii : i = i0
        · subst hii; exact hne0
        · rw [if_neg hii] at hne; exact absurd rfl hne)
      have hyn := (hF.1 y hy).1
      -- BOTH of y and z
      have e1 : 0 ≤ bb n g z y → bb n g y z = bb n g z y := fun _ => bb_sym hs
      have e2 : bb n g z y ≤ 0 := by
        have : 0 ≤ zs n (fun p => - (y p * bg n g z p)) := zs_nn (fun p hp => by
          by_cases hyp0 : y p = 0
          · rw [hyp0]; omega
          · have a1 := h1 p hp (hyU p hp hyp0)
            have a2 := hyn p hp
            have := Int.mul_nonneg a2 (show 0 ≤ - bg n g z p by omega)
            rw [Int.mul_neg] at this
            omega)
        have e3 : zs n (fun p => - (y p * bg n g z p)) = - bb n g z y := by
          rw [zs_congr (g := fun p => (-1) * (y p * bg n g z p)) (fun i _ => by omega), zs_mul]
          unfold bb
          omega
        omega
      rw [bb_sym hs] at e2
      have h5 : ∀ p, p < n → 0 ≤ z p * bg n g y p := fun p hp => by
        by_cases hz0 : z p = 0
        · rw [hz0]; omega
        · exact Int.mul_nonneg (hz p hp) (hyp p hp hz0)
      have h6 := zs_all0 h5 e2
      have h7 : bb n g y y = 0 := by
        unfold bb
        rw [zs_congr (g := fun _ => 0) (fun p hp => by
          by_cases hy0 : y p = 0
          · rw [hy0]; omega
          · have := h6 p hp
            rcases Int.mul_eq_zero.mp this with h | h
            · exact absurd h (hyU p hp hy0)
            · rw [h]; omega), zs_0]
      have := (hF.1 y hy).2
      omega
  intro z hz hne
  exact key (zs n z).toNat z hz (by omega) hne
/-- (ii) all rows at which the form is one lie in it -/
theorem desc (hs : Sym g) (wp : WP n g) {F : (Nat → Int) → Prop} (hF : Clo n g F) : ∀ y : Nat → Int, (∀ i, i < n → 0 ≤ y i) → bb n g y y = 2 → ∃ y', F y' ∧ ∀ i, i < n → y' i = y i := by
  have key : ∀ (m : Nat) (y : Nat → Int), (∀ i, i < n → 0 ≤ y i) → zs n y ≤ m → bb n g y y = 2 → ∃ y', F y' ∧ ∀ i, i < n → y' i = y i := by
    intro m
    induction m with
    | zero =>
      intro y hy hm h2
      have h0 := zs_all0 hy (by omega)
      have : bb n g y y = 0 := by
        unfold bb
        rw [zs_congr (g := fun _ => 0) (fun p hp => by rw [h0 p hp]; omega), zs_0]
      omega
    | succ m ih =>
      intro y hy hm h2
      obtain ⟨p, hp, hpp⟩ : ∃ p, p < n ∧ 0 < y p * bg n g y p := zs_pos (by unfold bb at h2; omega)
      have hyp := hy p hp
      have hy1 : 0 < y p := by
        rcases Int.lt_or_eq_of_le hyp with h | h
        · exact h
        · rw [← h] at hpp; omega
      have hb1 : 0 < bg n g y p := by
        apply Classical.byContradiction
        intro hno
        have := Int.mul_nonneg hyp (show 0 ≤ - bg n g y p by omega)
        rw [Int.mul_neg] at this
        omega
      by_cases hneg : 0 ≤ y p - bg n g y p
      · have hn' : ∀ i, i < n → 0 ≤ ua y p (- bg n g y p) i := fun i hi => by
          by_cases hip : i = p
          · subst hip; rw [ua_s]; omega
          · rw [ua_n hip]; exact hy i hi
        have h3 : bb n g (ua y p (- bg n g y p)) (ua y p (- bg n g y p)) = 2 := by
          rw [bb_ua hs hp, Int.neg_mul, Int.neg_mul_neg]
          omega
        obtain ⟨y1, g1, g2⟩ := ih (ua y p (- bg n g y p)) hn' (by rw [zs_ua hp]; omega) h3
        have e1 : bg n g y1 p = - bg n g y p := by
          rw [bg_congr hp g2, bg_ua hs hp]; omega
        obtain ⟨y2, g3, g4⟩ := hF.2.2 y1 p g1 hp (by rw [e1, g2 p hp, ua_s]; omega)
        refine ⟨y2, g3, fun i hi => ?_⟩
        rw [g4 i hi, e1]
        by_cases hip : i = p
        · subst hip; rw [ua_s, g2 i hi, ua_s]; omega
        · rw [ua_n hip, g2 i hi, ua_n hip]
      · -- y is a unit row
        have h3 := bb_ua hs hp (y := y) (c := - y p)
        rw [Int.neg_mul, Int.neg_mul_neg] at h3
        have h4 : y p * (y p + 1) ≤ y p * bg n g y p := Int.mul_le_mul_of_nonneg_left (by omega) hyp
        rw [Int.mul_add, Int.mul_one] at h4
        have h5 : ∀ i, i < n → ua y p (- y p) i = 0 := fun i hi => by
          apply Classical.byContradiction
          intro hne
          have := wp (ua y p (- y p)) (fun i hi => by
            by_cases hip : i = p
            · subst hip; rw [ua_s]; omega
            · rw [ua_n hip]; exact hy i hi) ⟨i, hi, hne⟩
          omega
        have h6 : bb n g (ua y p (- y p)) (ua y p (- y p)) = 0 := by
          unfold bb
          rw [zs_congr (g := fun _ => 0) (fun i hi => by rw [h5 i hi]; omega), zs_0]
        have h7 : bg n g (ua y p (- y p)) p = 0 := bg_zero hp h5
        rw [bg_ua hs hp] at h7
        have h8 : bg n g y p = 2 * y p := by omega
        rw [h6, h8, Int.mul_left_comm, h2] at h3
        have h9 : y p * y p = 1 := by omega
        have h10 : y p = 1 := by
          apply Classical.byContradiction
          intro hne
          have h11 : y p * 2 ≤ y p * y p := Int.mul_le_mul_of_nonneg_left (by omega) hyp
          omega
        obtain ⟨y1, g1, g2⟩ := hF.2.1 p hp
        refine ⟨y1, g1, fun i hi => ?_⟩
        rw [g2 i hi]
        by_cases hip : i = p
        · subst hip; rw [if_pos rfl, h10]
        · rw [if_neg hip]
          have := h5 i hi
          rw [ua_n hip] at this
          exact this.symm
  intro y hy h2
  exact key (zs n y).toNat y hy (by omega) h2
end FORM

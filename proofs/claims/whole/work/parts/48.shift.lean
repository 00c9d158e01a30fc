/-! ===== shifts, over whole numbers ===== -/
/-- Euler's form of a unit row and y; of y and a unit row -/
def eo (A : Arr) (y : Nat → Int) (p : Nat) : Int := y p - sA A (fun e => if e.1 = p then y e.2 else 0)
def ei (A : Arr) (y : Nat → Int) (p : Nat) : Int := y p - sA A (fun e => if e.2 = p then y e.1 else 0)
def uz (p : Nat) : Nat → Int := fun i => if i = p then 1 else 0
/-- back by i points, on by i points -/
def sbk (n : Nat) (A : Arr) (Y : Nat → Int) : Nat → Nat → Int
  | 0 => Y
  | i + 1 => ua (sbk n A Y i) (ord n A i) (- bg n (gA A) (sbk n A Y i) (ord n A i))
def son (n : Nat) (A : Arr) (Y : Nat → Int) : Nat → Nat → Int
  | 0 => Y
  | i + 1 => ua (son n A Y i) (ord n A (n - 1 - i)) (- bg n (gA A) (son n A Y i) (ord n A (n - 1 - i)))
section SHIFT
variable {n : Nat} {A : Arr} {y z u v Y : Nat → Int} {p : Nat}
theorem bg_eo (hA : OKA n A) : bg n (gA A) y p = eo A y p + ei A y p := by
  unfold bg eo ei
  rw [zs_gA1 hA.2.1, sA_add]
  omega
theorem zs_uz (hp : p < n) : zs n (fun i => uz p i * y i) = y p := by
  rw [← zs_one hp (f := y)]
  refine zs_congr (fun i _ => ?_)
  unfold uz
  by_cases h : i = p
  · rw [if_pos h, if_pos h, Int.one_mul]
  · rw [if_neg h, if_neg h, Int.zero_mul]
theorem ez_eo (hp : p < n) : ez n A (uz p) y = eo A y p := by
  unfold ez eo
  rw [zs_uz hp]
  congr 1
  refine sA_congr (fun e _ => ?_)
  unfold uz
  by_cases h : e.1 = p
  · rw [if_pos h, if_pos h, Int.one_mul]
  · rw [if_neg h, if_neg h, Int.zero_mul]
theorem ez_ei (hp : p < n) : ez n A y (uz p) = ei A y p := by
  unfold ez ei
  rw [zs_congr (g := fun i => uz p i * y i) (fun i _ => Int.mul_comm _ _), zs_uz hp]
  congr 1
  refine sA_congr (fun e _ => ?_)
  unfold uz
  by_cases h : e.2 = p
  · rw [if_pos h, if_pos h, Int.mul_one]
  · rw [if_neg h, if_neg h, Int.mul_zero]
theorem eo_congr (hA : OKA n A) (hp : p < n) (h : ∀ i, i < n → y i = z i) : eo A y p = eo A z p := by
  unfold eo
  rw [h p hp, sA_congr (g := fun e => if e.1 = p then z e.2 else 0) (fun e he => by rw [h e.2 (hA.2.1 e he).2])]
theorem ei_congr (hA : OKA n A) (hp : p < n) (h : ∀ i, i < n → y i = z i) : ei A y p = ei A z p := by
  unfold ei
  rw [h p hp, sA_congr (g := fun e => if e.2 = p then z e.1 else 0) (fun e he => by rw [h e.1 (hA.2.1 e he).1])]
/-- a row is known by its forms with the unit rows -/
theorem uq_o (hA : OKA n A) (hn : n ≤ 6) (h : ∀ p, p < n → eo A u p = eo A v p) : ∀ p, p < n → u p = v p := by
  have key : ∀ k p, p < n → plc n A p < k → u p = v p := by
    intro k
    induction k with
    | zero => intro p _ h; omega
    | succ k ih =>
      intro p hp hk
      have h1 := h p hp
      unfold eo at h1
      rw [sA_congr (g := fun e => if e.1 = p then v e.2 else 0) (fun e he => by
        by_cases h2 : e.1 = p
        · have := plc_arr hA hn he
          rw [h2] at this
          rw [if_pos h2, if_pos h2, ih e.2 (hA.2.1 e he).2 (by omega)]
        · rw [if_neg h2, if_neg h2])] at h1
      omega
  intro p hp
  exact key (plc n A p + 1) p hp (by omega)
theorem uq_i (hA : OKA n A) (hn : n ≤ 6) (h : ∀ p, p < n → ei A u p = ei A v p) : ∀ p, p < n → u p = v p := by
  have key : ∀ k p, p < n → n - 1 - plc n A p < k → u p = v p := by
    intro k
    induction k with
    | zero => intro p _ h; omega
    | succ k ih =>
      intro p hp hk
      have h1 := h p hp
      unfold ei at h1
      rw [sA_congr (g := fun e => if e.2 = p then v e.1 else 0) (fun e he => by
        by_cases h2 : e.2 = p
        · have := plc_arr hA hn he
          have h3 := plc_lt hA hn (hA.2.1 e he).1
          rw [h2] at this
          rw [if_pos h2, if_pos h2, ih e.1 (hA.2.1 e he).1 (by omega)]
        · rw [if_neg h2, if_neg h2])] at h1
      omega
  intro p hp
  exact key (n - 1 - plc n A p + 1) p hp (by omega)
theorem sbk_s (i : Nat) : sbk n A Y (i + 1) = ua (sbk n A Y i) (ord n A i) (- bg n (gA A) (sbk n A Y i) (ord n A i)) := rfl
theorem son_s (i : Nat) : son n A Y (i + 1) = ua (son n A Y i) (ord n A (n - 1 - i)) (- bg n (gA A) (son n A Y i) (ord n A (n - 1 - i))) := rfl
theorem sbk_old (hA : OKA n A) (hn : n ≤ 6) {r : Nat} : ∀ i, i ≤ n → i ≤ plc n A r → sbk n A Y i r = Y r := by
  intro i
  induction i with
  | zero => intro _ _; rfl
  | succ i ih =>
    intro h1 h2
    rw [sbk_s, ua_n (fun q => by rw [q, plc_ord hA hn (by omega)] at h2; omega)]
    exact ih (by omega) (by omega)
theorem sbk_new (hA : OKA n A) (hn : n ≤ 6) {r : Nat} : ∀ d i, i + d ≤ n → plc n A r < i → sbk n A Y (i + d) r = sbk n A Y i r := by
  intro d
  induction d with
  | zero => intro i _ _; rfl
  | succ d ih =>
    intro i h1 h2
    rw [← Nat.add_assoc, sbk_s, ua_n (fun q => by rw [q, plc_ord hA hn (by omega)] at h2; omega)]
    exact ih i (by omega) h2
theorem sbk_fin (hA : OKA n A) (hn : n ≤ 6) {r i : Nat} (hi : i ≤ n) (h : plc n A r < i) : sbk n A Y i r = sbk n A Y n r := by
  have := sbk_new (Y := Y) hA hn (r := r) (n - i) i (by omega) h
  rw [show i + (n - i) = n by omega] at this
  exact this.symm
theorem son_old (hA : OKA n A) (hn : n ≤ 6) {r : Nat} (hr : r < n) : ∀ i, i ≤ n → plc n A r < n - i → son n A Y i r = Y r := by
  intro i
  induction i with
  | zero => intro _ _; rfl
  | succ i ih =>
    intro h1 h2
    rw [son_s, ua_n (fun q => by rw [q, plc_ord hA hn (by omega)] at h2; omega)]
    exact ih (by omega) (by omega)
theorem son_new (hA : OKA n A) (hn : n ≤ 6) {r : Nat} : ∀ d i, i + d ≤ n → n - i ≤ plc n A r → son n A Y (i + d) r = son n A Y i r := by
  intro d
  induction d with
  | zero => intro i _ _; rfl
  | succ d ih =>
    intro i h1 h2
    rw [← Nat.add_assoc, son_s, ua_n (fun q => by rw [q, plc_ord hA hn (by omega)] at h2; omega)]
    exact ih i (by omega) h2
theorem son_fin (hA : OKA n A) (hn : n ≤ 6) {r i : Nat} (hi : i ≤ n) (h : n - i ≤ plc n A r) : son n A Y i r = son n A Y n r := by
  have := son_new (Y := Y) hA hn (r := r) (n - i) i (by omega) h
  rw [show i + (n - i) = n by omega] at this
  exact this.symm
/-- what is shifted back -/
theorem sbk_eq (hA : OKA n A) (hn : n ≤ 6) (hp : p < n) : eo A (sbk n A Y n) p = - ei A Y p := by
  obtain ⟨i, hi, rfl⟩ := ord_onto hA hn hp
  have h1 : sbk n A Y n (ord n A i) = sbk n A Y i (ord n A i) - bg n (gA A) (sbk n A Y i) (ord n A i) := by
    rw [← sbk_fin hA hn (i := i + 1) (by omega) (by rw [plc_ord hA hn hi]; omega), sbk_s, ua_s]
    omega
  rw [bg_eo hA] at h1
  unfold eo ei at h1 ⊢
  rw [sA_congr (g := fun e => if e.1 = ord n A i then sbk n A Y n e.2 else 0) (fun e he => by
    by_cases h2 : e.1 = ord n A i
    · have := plc_arr hA hn he
      rw [h2, plc_ord hA hn hi] at this
      rw [if_pos h2, if_pos h2, sbk_fin hA hn (by omega) this]
    · rw [if_neg h2, if_neg h2]), sA_congr (f := fun e => if e.2 = ord n A i then sbk n A Y i e.1 else 0) (g := fun e => if e.2 = ord n A i then Y e.1 else 0) (fun e he => by
    by_cases h2 : e.2 = ord n A i
    · have := plc_arr hA hn he
      rw [h2, plc_ord hA hn hi] at this
      rw [if_pos h2, if_pos h2, sbk_old (Y := Y) hA hn i (by omega) (by omega)]
    · rw [if_neg h2, if_neg h2]), sbk_old (Y := Y) hA hn (r := ord n A i) i (by omega) (by rw [plc_ord hA hn hi]; omega)] at h1
  omega
theorem son_eq (hA : OKA n A) (hn : n ≤ 6) (hp : p < n) : ei A (son n A Y n) p = - eo A Y p := by
  obtain ⟨k, hk, rfl⟩ := ord_onto hA hn hp
  obtain ⟨i, hi, hik⟩ : ∃ i, i < n ∧ k = n - 1 - i := ⟨n - 1 - k, by omega, by omega⟩
  have h1 : son n A Y n (ord n A k) = son n A Y i (ord n A k) - bg n (gA A) (son n A Y i) (ord n A k) := by
    rw [← son_fin hA hn (i := i + 1) (by omega) (by rw [plc_ord hA hn hk]; omega), son_s, ← hik, ua_s]
    omega
  rw [bg_eo hA] at h1
  unfold eo ei at h1 ⊢
  rw [sA_congr (g := fun e => if e.1 = ord n A k then Y e.2 else 0) (fun e he => by
    by_cases h2 : e.1 = ord n A k
    · have := plc_arr hA hn he
      rw [h2, plc_ord hA hn hk] at this
      rw [if_pos h2, if_pos h2, son_old (Y := Y) hA hn (hA.2.1 e he).2 i (by omega) (by omega)]
    · rw [if_neg h2, if_neg h2]), sA_congr (f := fun e => if e.2 = ord n A k then son n A Y i e.1 else 0) (g := fun e => if e.2 = ord n A k then son n A Y n e.1 else 0) (fun e he => by
    by_cases h2 : e.2 = ord n A k
    · have := plc_arr hA hn he
      rw [h2, plc_ord hA hn hk] at this
      rw [if_pos h2, if_pos h2, son_fin hA hn (by omega) (by omega)]
    · rw [if_neg h2, if_neg h2]), son_old (Y := Y) hA hn (r := ord n A k) hp i (by omega) (by rw [plc_ord hA hn hk]; omega)] at h1
  omega
/-- ways, over whole numbers -/
def wz (A : Arr) : Nat → Nat → Nat → Int
  | 0, _, _ => 0
  | t + 1, p, q => (if p = q then 1 else 0) + sA A (fun e => if e.1 = p then wz A t e.2 q else 0)
def pz (A : Arr) (p q : Nat) : Int := wz A 6 p q
theorem wz_s (t p q : Nat) : wz A (t + 1) p q = (if p = q then 1 else 0) + sA A (fun e => if e.1 = p then wz A t e.2 q else 0) := rfl
theorem wys_wz (t p q : Nat) : wys A t p q = Int32.ofInt (wz A t p q) := by
  induction t generalizing p with
  | zero => rfl
  | succ t ih =>
    rw [wys_s, wz_s]
    have h2 : ∀ (B : Arr) (s : Int), B.foldl (fun s e => if e.1 = p then s + wys A t e.2 q else s) (Int32.ofInt s) = Int32.ofInt (s + sA B (fun e => if e.1 = p then wz A t e.2 q else 0)) := by
      intro B
      induction B with
      | nil => intro s; show Int32.ofInt s = Int32.ofInt (s + 0); rw [Int.add_zero]
      | cons e B ihB =>
        intro s
        rw [List.foldl_cons]
        have e1 : (if e.1 = p then Int32.ofInt s + wys A t e.2 q else Int32.ofInt s) = Int32.ofInt (s + (if e.1 = p then wz A t e.2 q else 0)) := by
          by_cases h : e.1 = p
          · rw [if_pos h, if_pos h, ih, Int32.ofInt_add]
          · rw [if_neg h, if_neg h, Int.add_zero]
        rw [e1, ihB]
        congr 1
        show s + (if e.1 = p then wz A t e.2 q else 0) + _ = s + ((if e.1 = p then wz A t e.2 q else 0) + _)
        omega
    rw [← h2]
    congr 1
    by_cases h : p = q
    · rw [if_pos h, if_pos h]; rfl
    · rw [if_neg h, if_neg h]; rfl
theorem pth_pz (p q : Nat) : pth A p q = Int32.ofInt (pz A p q) := wys_wz 6 p q
theorem wz_fix (hA : OKA n A) (hn : n ≤ 6) (q : Nat) : ∀ k p, p < n → plc n A p ≤ k → ∀ t, k < t → wz A (t + 1) p q = wz A t p q := by
  intro k
  induction k with
  | zero =>
    intro p hp hk t ht
    obtain ⟨t', rfl⟩ : ∃ t', t = t' + 1 := ⟨t - 1, by omega⟩
    rw [wz_s, wz_s]
    congr 1
    refine sA_congr (fun e he => ?_)
    by_cases h : e.1 = p
    · have := plc_arr hA hn he
      rw [h] at this
      omega
    · rw [if_neg h, if_neg h]
  | succ k ih =>
    intro p hp hk t ht
    obtain ⟨t', rfl⟩ : ∃ t', t = t' + 1 := ⟨t - 1, by omega⟩
    rw [wz_s, wz_s]
    congr 1
    refine sA_congr (fun e he => ?_)
    by_cases h : e.1 = p
    · have := plc_arr hA hn he
      rw [h] at this
      rw [if_pos h, if_pos h, ih e.2 (hA.2.1 e he).2 (by omega) t' (by omega)]
    · rw [if_neg h, if_neg h]
/-- by a first arrow -/
theorem pz_fix (hA : OKA n A) (hn : n ≤ 6) {p : Nat} (hp : p < n) (q : Nat) : pz A p q = (if p = q then 1 else 0) + sA A (fun e => if e.1 = p then pz A e.2 q else 0) := by
  have := plc_lt hA hn hp
  rw [show pz A p q = wz A 6 p q from rfl, ← wz_fix hA hn q (plc n A p) p hp (Nat.le_refl _) 6 (by omega)]
  rfl
theorem sA_swap {B : Arr} {f : Nat × Nat → Nat × Nat → Int} : sA A (fun a => sA B (fun b => f a b)) = sA B (fun b => sA A (fun a => f a b)) := by
  induction A with
  | nil =>
    show 0 = sA B (fun _ => 0)
    have : sA B (fun _ => 0) = 0 := by
      induction B with
      | nil => rfl
      | cons e B ih => show 0 + sA B (fun _ => 0) = 0; rw [ih]; rfl
    exact this.symm
  | cons e A ih =>
    show sA B (fun b => f e b) + sA A (fun a => sA B (fun b => f a b)) = sA B (fun b => f e b + sA A (fun a => f a b))
    rw [ih, sA_add]
theorem sA_0 : sA A (fun _ => 0) = 0 := by
  induction A with
  | nil => rfl
  | cons e A ih => show 0 + sA A (fun _ => 0) = 0; rw [ih]; rfl
theorem sA_if {c : Prop} [Decidable c] {f : Nat × Nat → Int} : (if c then sA A f else 0) = sA A (fun e => if c then f e else 0) := by
  by_cases h : c
  · rw [if_pos h]
    exact sA_congr (fun e _ => by rw [if_pos h])
  · rw [if_neg h, sA_congr (g := fun _ => 0) (fun e _ => by rw [if_neg h]), sA_0]
/-- by a last arrow -/
theorem pz_last (hA : OKA n A) (hn : n ≤ 6) (q : Nat) : ∀ p, p < n → pz A p q = (if p = q then 1 else 0) + sA A (fun e => if e.2 = q then pz A p e.1 else 0) := by
  have key : ∀ k p, p < n → plc n A p < k → pz A p q = (if p = q then 1 else 0) + sA A (fun e => if e.2 = q then pz A p e.1 else 0) := by
    intro k
    induction k with
    | zero => intro p _ h; omega
    | succ k ih =>
      intro p hp hk
      have h1 := pz_fix hA hn hp q
      rw [sA_congr (g := fun e => (if e.1 = p then (if e.2 = q then 1 else 0) else 0) + sA A (fun e2 => if e.1 = p then (if e2.2 = q then pz A e.2 e2.1 else 0) else 0)) (fun e he => by
        by_cases h : e.1 = p
        · have := plc_arr hA hn he
          rw [h] at this
          rw [if_pos h, if_pos h, ih e.2 (hA.2.1 e he).2 (by omega), sA_congr (f := fun e2 => if e.1 = p then (if e2.2 = q then pz A e.2 e2.1 else 0) else 0) (g := fun e2 => if e2.2 = q then pz A e.2 e2.1 else 0) (fun e2 _ => by rw [if_pos h])]
        · rw [if_neg h, if_neg h, sA_congr (g := fun _ => 0) (fun e2 _ => by rw [if_neg h]), sA_0]
          rfl)] at h1
      rw [sA_add, sA_swap] at h1
      rw [h1]
      congr 1
      rw [← sA_add]
      refine sA_congr (fun e he => ?_)
      by_cases h2 : e.2 = q
      · have h3 := pz_fix hA hn hp e.1
        rw [if_pos h2, if_pos h2, h3]
        congr 1
        · by_cases h4 : e.1 = p
          · rw [if_pos h4, if_pos h4.symm]
          · rw [if_neg h4, if_neg (fun z => h4 z.symm)]
        · refine sA_congr (fun e2 _ => ?_)
          by_cases h4 : e2.1 = p
          · rw [if_pos h4, if_pos h4, if_pos h2]
          · rw [if_neg h4, if_neg h4]
      · rw [if_neg h2, if_neg h2, sA_congr (g := fun _ => 0) (fun e2 _ => by
          by_cases h4 : e2.1 = p
          · rw [if_pos h4, if_neg h2]
          · rw [if_neg h4]), sA_0]
        by_cases h4 : e.1 = p
        · rw [if_pos h4]; rfl
        · rw [if_neg h4]; rfl
  intro p hp
  exact key (plc n A p + 1) p hp (by omega)
theorem pz_zero (hA : OKA n A) (hn : n ≤ 6) (q : Nat) : ∀ p, p < n → q < n → plc n A p < plc n A q → pz A p q = 0 := by
  have key : ∀ k p, p < n → q < n → plc n A p < k → plc n A p < plc n A q → pz A p q = 0 := by
    intro k
    induction k with
    | zero => intro p _ _ h; omega
    | succ k ih =>
      intro p hp hq hk hpq
      rw [pz_fix hA hn hp q, if_neg (fun z => by rw [z] at hpq; omega), sA_congr (g := fun _ => 0) (fun e he => by
        by_cases h : e.1 = p
        · have := plc_arr hA hn he
          rw [h] at this
          rw [if_pos h, ih e.2 (hA.2.1 e he).2 hq (by omega) (by omega)]
        · rw [if_neg h]), sA_0]
      rfl
  intro p hp hq h
  exact key (plc n A p + 1) p hp hq (by omega) h
theorem pz_self (hA : OKA n A) (hn : n ≤ 6) {p : Nat} (hp : p < n) : pz A p p = 1 := by
  rw [pz_fix hA hn hp p, if_pos rfl, sA_congr (g := fun _ => 0) (fun e he => by
    by_cases h : e.1 = p
    · have := plc_arr hA hn he
      rw [h] at this
      rw [if_pos h, pz_zero hA hn p e.2 (hA.2.1 e he).2 hp this]
    · rw [if_neg h]), sA_0]
  rfl
/-- the row of ways, in the forms -/
theorem pz_eo (hA : OKA n A) (hn : n ≤ 6) {p : Nat} (hp : p < n) (q : Nat) : eo A (fun i => pz A i q) p = if p = q then 1 else 0 := by
  unfold eo
  show pz A p q - sA A (fun e => if e.1 = p then pz A e.2 q else 0) = _
  rw [pz_fix hA hn hp q]
  omega
theorem pz_ei (hA : OKA n A) (hn : n ≤ 6) {p : Nat} (hp : p < n) (q : Nat) : ei A (fun i => pz A p i) q = if p = q then 1 else 0 := by
  unfold ei
  show pz A p q - sA A (fun e => if e.2 = q then pz A p e.1 else 0) = _
  rw [pz_last hA hn q p hp]
  omega
end SHIFT

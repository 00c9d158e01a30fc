/-! ===== the forms of a quiver, over whole numbers ===== -/
def sA : Arr → (Nat × Nat → Int) → Int
  | [], _ => 0
  | e :: A, f => f e + sA A f
def gA : Arr → Nat → Nat → Int
  | [], _, _ => 0
  | e :: A, p, i => (if e.1 = p ∧ e.2 = i then 1 else 0) + (if e.2 = p ∧ e.1 = i then 1 else 0) + gA A p i
def ez (n : Nat) (A : Arr) (y z : Nat → Int) : Int := zs n (fun i => y i * z i) - sA A (fun e => y e.1 * z e.2)
def ti (y : Row) : Nat → Int := fun i => (y i).toInt
section CONV
variable {n : Nat} {A : Arr} {y z w : Nat → Int}
theorem sA_congr {f g : Nat × Nat → Int} (h : ∀ e ∈ A, f e = g e) : sA A f = sA A g := by
  induction A with
  | nil => rfl
  | cons e A ih =>
    show f e + sA A f = g e + sA A g
    rw [h e List.mem_cons_self, ih (fun e he => h e (List.mem_cons_of_mem _ he))]
theorem sA_add {f g : Nat × Nat → Int} : sA A (fun e => f e + g e) = sA A f + sA A g := by
  induction A with
  | nil => rfl
  | cons e A ih =>
    show (f e + g e) + sA A (fun e => f e + g e) = (f e + sA A f) + (g e + sA A g)
    rw [ih]; omega
theorem sA_mul (c : Int) {f : Nat × Nat → Int} : sA A (fun e => c * f e) = c * sA A f := by
  induction A with
  | nil => exact (Int.mul_zero c).symm
  | cons e A ih =>
    show c * f e + sA A (fun e => c * f e) = c * (f e + sA A f)
    rw [ih, Int.mul_add]
theorem gA_sym (h : ∀ e ∈ A, e.1 ≠ e.2) : Sym (gA A) := by
  constructor
  · intro i j
    clear h
    induction A with
    | nil => rfl
    | cons e A ih =>
      show (if e.1 = i ∧ e.2 = j then 1 else 0) + (if e.2 = i ∧ e.1 = j then 1 else 0) + gA A i j = (if e.1 = j ∧ e.2 = i then 1 else 0) + (if e.2 = j ∧ e.1 = i then 1 else 0) + gA A j i
      rw [ih]
      split <;> split <;> split <;> split <;> omega
  · intro i
    induction A with
    | nil => rfl
    | cons e A ih =>
      show (if e.1 = i ∧ e.2 = i then 1 else 0) + (if e.2 = i ∧ e.1 = i then 1 else 0) + gA A i i = 0
      have := h e List.mem_cons_self
      rw [ih (fun e he => h e (List.mem_cons_of_mem _ he)), if_neg (by omega), if_neg (by omega)]
      rfl
theorem zs2_one {u v : Nat} (hu : u < n) (hv : v < n) {f : Nat → Nat → Int} : zs n (fun p => zs n (fun i => if u = p ∧ v = i then f p i else 0)) = f u v := by
  rw [← zs_one hu (f := fun p => f p v)]
  refine zs_congr (fun p hp => ?_)
  by_cases hpu : p = u
  · subst hpu
    rw [if_pos rfl, ← zs_one hv (f := fun i => f p i)]
    refine zs_congr (fun i hi => ?_)
    by_cases hiv : i = v
    · subst hiv; rw [if_pos ⟨rfl, rfl⟩, if_pos rfl]
    · rw [if_neg (fun q => hiv q.2.symm), if_neg hiv]
  · rw [if_neg hpu, zs_congr (g := fun _ => 0) (fun i hi => by rw [if_neg (fun q => hpu q.1.symm)]), zs_0]
theorem zs_gA (hA : ∀ e ∈ A, e.1 < n ∧ e.2 < n) : zs n (fun p => zs n (fun i => z p * (gA A p i * y i))) = sA A (fun e => z e.1 * y e.2 + z e.2 * y e.1) := by
  induction A with
  | nil =>
    rw [zs_congr (g := fun _ => 0) (fun p _ => by
      rw [zs_congr (g := fun _ => 0) (fun i _ => by show z p * (0 * y i) = 0; rw [Int.zero_mul, Int.mul_zero]), zs_0]), zs_0]
    rfl
  | cons e A ih =>
    have he := hA e List.mem_cons_self
    show _ = (z e.1 * y e.2 + z e.2 * y e.1) + sA A (fun e => z e.1 * y e.2 + z e.2 * y e.1)
    rw [← ih (fun e he => hA e (List.mem_cons_of_mem _ he)), ← zs2_one he.1 he.2 (f := fun p i => z p * y i), ← zs2_one he.2 he.1 (f := fun p i => z p * y i), ← zs_add, ← zs_add]
    refine zs_congr (fun p _ => ?_)
    rw [← zs_add, ← zs_add]
    refine zs_congr (fun i _ => ?_)
    show z p * (((if e.1 = p ∧ e.2 = i then 1 else 0) + (if e.2 = p ∧ e.1 = i then 1 else 0) + gA A p i) * y i) = _
    rw [Int.add_mul, Int.add_mul, Int.mul_add, Int.mul_add]
    congr 1
    congr 1
    · by_cases h : e.1 = p ∧ e.2 = i
      · rw [if_pos h, if_pos h, Int.one_mul]
      · rw [if_neg h, if_neg h, Int.zero_mul, Int.mul_zero]
    · by_cases h : e.2 = p ∧ e.1 = i
      · rw [if_pos h, if_pos h, Int.one_mul]
      · rw [if_neg h, if_neg h, Int.zero_mul, Int.mul_zero]
theorem bb_ez (hA : ∀ e ∈ A, e.1 < n ∧ e.2 < n) : bb n (gA A) y z = ez n A y z + ez n A z y := by
  rw [bb_eq, zs_gA hA, sA_add]
  unfold ez
  rw [zs_congr (f := fun i => z i * y i) (g := fun i => y i * z i) (fun i _ => Int.mul_comm _ _), sA_congr (f := fun e => z e.2 * y e.1) (g := fun e => y e.1 * z e.2) (fun e _ => Int.mul_comm _ _)]
  omega
theorem zs_gA1 (hA : ∀ e ∈ A, e.1 < n ∧ e.2 < n) (p : Nat) : zs n (fun i => gA A p i * y i) = sA A (fun e => (if e.1 = p then y e.2 else 0) + (if e.2 = p then y e.1 else 0)) := by
  induction A with
  | nil => rw [zs_congr (g := fun _ => 0) (fun i _ => by show 0 * y i = 0; rw [Int.zero_mul]), zs_0]; rfl
  | cons e A ih =>
    have he := hA e List.mem_cons_self
    show _ = ((if e.1 = p then y e.2 else 0) + (if e.2 = p then y e.1 else 0)) + sA A (fun e => (if e.1 = p then y e.2 else 0) + (if e.2 = p then y e.1 else 0))
    rw [← ih (fun e he => hA e (List.mem_cons_of_mem _ he))]
    have h1 : ∀ u v, v < n → zs n (fun i => if u = p ∧ v = i then y i else 0) = if u = p then y v else 0 := by
      intro u v hv
      by_cases h : u = p
      · rw [if_pos h, ← zs_one hv (f := y)]
        refine zs_congr (fun i _ => ?_)
        by_cases hi : i = v
        · rw [if_pos ⟨h, hi.symm⟩, if_pos hi]
        · rw [if_neg (fun q => hi q.2.symm), if_neg hi]
      · rw [if_neg h, zs_congr (g := fun _ => 0) (fun i _ => by rw [if_neg (fun q => h q.1)]), zs_0]
    rw [← h1 e.1 e.2 he.2, ← h1 e.2 e.1 he.1, ← zs_add, ← zs_add]
    refine zs_congr (fun i _ => ?_)
    show ((if e.1 = p ∧ e.2 = i then 1 else 0) + (if e.2 = p ∧ e.1 = i then 1 else 0) + gA A p i) * y i = _
    rw [Int.add_mul, Int.add_mul]
    congr 1
    congr 1
    · by_cases h : e.1 = p ∧ e.2 = i
      · rw [if_pos h, if_pos h, Int.one_mul]
      · rw [if_neg h, if_neg h, Int.zero_mul]
    · by_cases h : e.2 = p ∧ e.1 = i
      · rw [if_pos h, if_pos h, Int.one_mul]
      · rw [if_neg h, if_neg h, Int.zero_mul]
/-- over the machine's numbers -/
theorem eul_ez (y z : Row) : eul n A y z = Int32.ofInt (ez n A (ti y) (ti z)) := by
  have h1 : fo (fun i s => s + y i * z i) n 0 = Int32.ofInt (zs n (fun i => ti y i * ti z i)) := by
    induction n with
    | zero => rfl
    | succ n ih =>
      rw [fo_s, ih, zs_s, Int32.ofInt_add, Int32.ofInt_mul]
      show _ = _ + Int32.ofInt (y n).toInt * Int32.ofInt (z n).toInt
      rw [Int32.ofInt_toInt, Int32.ofInt_toInt]
  have h2 : ∀ (B : Arr) (s : Int), B.foldl (fun s e => s - y e.1 * z e.2) (Int32.ofInt s) = Int32.ofInt (s - sA B (fun e => ti y e.1 * ti z e.2)) := by
    intro B
    induction B with
    | nil => intro s; show Int32.ofInt s = Int32.ofInt (s - 0); rw [Int.sub_zero]
    | cons e B ih =>
      intro s
      rw [List.foldl_cons]
      have e1 : Int32.ofInt s - y e.1 * z e.2 = Int32.ofInt (s - ti y e.1 * ti z e.2) := by
        rw [Int32.ofInt_sub, Int32.ofInt_mul]
        show _ = _ - Int32.ofInt (y e.1).toInt * Int32.ofInt (z e.2).toInt
        rw [Int32.ofInt_toInt, Int32.ofInt_toInt]
      rw [e1, ih]
      congr 1
      show s - ti y e.1 * ti z e.2 - _ = s - (ti y e.1 * ti z e.2 + _)
      omega
  unfold eul ez
  rw [h1, h2]
theorem trn_ez (hA : ∀ e ∈ A, e.1 < n ∧ e.2 < n) (y : Row) (p : Nat) : trn A y p = Int32.ofInt (ti y p - bg n (gA A) (ti y) p) := by
  have h2 : ∀ (B : Arr) (s : Int), B.foldl (fun s e => if e.1 = p then (if e.2 = p then s + y e.2 + y e.1 else s + y e.2) else (if e.2 = p then s + y e.1 else s)) (Int32.ofInt s) = Int32.ofInt (s + sA B (fun e => (if e.1 = p then ti y e.2 else 0) + (if e.2 = p then ti y e.1 else 0))) := by
    intro B
    induction B with
    | nil => intro s; show Int32.ofInt s = Int32.ofInt (s + 0); rw [Int.add_zero]
    | cons e B ih =>
      intro s
      rw [List.foldl_cons]
      have e1 : (if e.1 = p then (if e.2 = p then Int32.ofInt s + y e.2 + y e.1 else Int32.ofInt s + y e.2) else (if e.2 = p then Int32.ofInt s + y e.1 else Int32.ofInt s)) = Int32.ofInt (s + ((if e.1 = p then ti y e.2 else 0) + (if e.2 = p then ti y e.1 else 0))) := by
        have k1 : ∀ i, y i = Int32.ofInt (ti y i) := fun i => (Int32.ofInt_toInt _).symm
        by_cases c1 : e.1 = p
        · by_cases c2 : e.2 = p
          · rw [if_pos c1, if_pos c2, if_pos c1, if_pos c2, k1 e.2, k1 e.1, ← Int32.ofInt_add, ← Int32.ofInt_add, Int.add_assoc]
          · rw [if_pos c1, if_neg c2, if_pos c1, if_neg c2, k1 e.2, ← Int32.ofInt_add, Int.add_zero]
        · by_cases c2 : e.2 = p
          · rw [if_neg c1, if_pos c2, if_neg c1, if_pos c2, k1 e.1, ← Int32.ofInt_add, Int.zero_add]
          · rw [if_neg c1, if_neg c2, if_neg c1, if_neg c2, Int.add_zero, Int.add_zero]
      rw [e1, ih]
      congr 1
      show s + ((if e.1 = p then ti y e.2 else 0) + (if e.2 = p then ti y e.1 else 0)) + _ = s + (((if e.1 = p then ti y e.2 else 0) + (if e.2 = p then ti y e.1 else 0)) + _)
      omega
  unfold trn bg
  have e3 : -(y p) = Int32.ofInt (- ti y p) := by
    rw [Int32.ofInt_neg]
    show _ = - Int32.ofInt (y p).toInt
    rw [Int32.ofInt_toInt]
  rw [e3, h2, zs_gA1 hA]
  congr 1
  omega
theorem zs_bd {f : Nat → Int} {b : Int} (h : ∀ i, i < n → -b ≤ f i ∧ f i ≤ b) : -(n * b) ≤ zs n f ∧ zs n f ≤ n * b := by
  induction n with
  | zero => show -((0 : Nat) * b : Int) ≤ 0 ∧ (0 : Int) ≤ (0 : Nat) * b; rw [Int.natCast_zero, Int.zero_mul]; omega
  | succ n ih =>
    have h1 := ih (fun i hi => h i (by omega))
    have h2 := h n (by omega)
    rw [zs_s, Int.natCast_add, Int.add_mul]
    omega
theorem sA_bd {f : Nat × Nat → Int} {b : Int} (h : ∀ e ∈ A, -b ≤ f e ∧ f e ≤ b) : -(A.length * b) ≤ sA A f ∧ sA A f ≤ A.length * b := by
  induction A with
  | nil => show -((0 : Nat) * b : Int) ≤ 0 ∧ (0 : Int) ≤ (0 : Nat) * b; rw [Int.natCast_zero, Int.zero_mul]; omega
  | cons e A ih =>
    have h1 := ih (fun i hi => h i (List.mem_cons_of_mem _ hi))
    have h2 := h e List.mem_cons_self
    show -(((A.length + 1 : Nat) : Int) * b) ≤ f e + sA A f ∧ f e + sA A f ≤ ((A.length + 1 : Nat) : Int) * b
    rw [Int.natCast_add, Int.add_mul]
    omega
theorem mul_bd {a c b : Int} (hb : 0 ≤ b) (h1 : -b ≤ a ∧ a ≤ b) (h2 : -b ≤ c ∧ c ≤ b) : -(b * b) ≤ a * c ∧ a * c ≤ b * b := by
  have p1 := Int.mul_nonneg (show 0 ≤ b - a by omega) (show 0 ≤ b - c by omega)
  have p2 := Int.mul_nonneg (show 0 ≤ b + a by omega) (show 0 ≤ b + c by omega)
  have p3 := Int.mul_nonneg (show 0 ≤ b - a by omega) (show 0 ≤ b + c by omega)
  have p4 := Int.mul_nonneg (show 0 ≤ b + a by omega) (show 0 ≤ b - c by omega)
  simp only [Int.sub_mul, Int.mul_sub, Int.add_mul, Int.mul_add, Int.mul_comm b a, Int.mul_comm b c] at p1 p2 p3 p4
  omega
theorem ez_bd (hA : OKA n A) (hn : n ≤ 6) {b : Int} (hb : 0 ≤ b) (hb2 : b ≤ 1000) (h1 : ∀ i, i < n → -b ≤ y i ∧ y i ≤ b) (h2 : ∀ i, i < n → -b ≤ z i ∧ z i ≤ b) : -16000000 ≤ ez n A y z ∧ ez n A y z ≤ 16000000 := by
  have hbb : b * b ≤ 1000000 := by
    have := Int.mul_le_mul hb2 hb2 hb (by omega)
    omega
  have e1 := zs_bd (n := n) (f := fun i => y i * z i) (b := 1000000) (fun i hi => by
    have := mul_bd hb (h1 i hi) (h2 i hi)
    show -1000000 ≤ y i * z i ∧ y i * z i ≤ 1000000
    omega)
  have e2 := sA_bd (A := A) (f := fun e => y e.1 * z e.2) (b := 1000000) (fun e he => by
    have hr := hA.2.1 e he
    have := mul_bd hb (h1 e.1 hr.1) (h2 e.2 hr.2)
    show -1000000 ≤ y e.1 * z e.2 ∧ y e.1 * z e.2 ≤ 1000000
    omega)
  have hl := hA.1
  unfold ez
  omega
theorem toInt_small {v : Int} (h : -16000000 ≤ v ∧ v ≤ 16000000) : (Int32.ofInt v).toInt = v := Int32.toInt_ofInt_of_le (by omega) (by omega)
/-- Euler's form of small rows -/
theorem eul_toInt (hA : OKA n A) (hn : n ≤ 6) {y z : Row} {b : Int} (hb : 0 ≤ b) (hb2 : b ≤ 1000) (h1 : ∀ i, i < n → -b ≤ ti y i ∧ ti y i ≤ b) (h2 : ∀ i, i < n → -b ≤ ti z i ∧ ti z i ≤ b) : (eul n A y z).toInt = ez n A (ti y) (ti z) := by
  rw [eul_ez]
  exact toInt_small (ez_bd hA hn hb hb2 h1 h2)
theorem trn_toInt (hA : OKA n A) (hn : n ≤ 6) {y : Row} {b : Int} (hb : 0 ≤ b) (hb2 : b ≤ 1000) (h1 : ∀ i, i < n → -b ≤ ti y i ∧ ti y i ≤ b) {p : Nat} (hp : p < n) : (trn A y p).toInt = ti y p - bg n (gA A) (ti y) p := by
  rw [trn_ez hA.2.1]
  refine toInt_small ?_
  unfold bg
  rw [zs_gA1 hA.2.1]
  have e2 := sA_bd (A := A) (f := fun e => (if e.1 = p then ti y e.2 else 0) + (if e.2 = p then ti y e.1 else 0)) (b := 2000) (fun e he => by
    have hr := hA.2.1 e he
    have a1 := h1 e.1 hr.1
    have a2 := h1 e.2 hr.2
    show -2000 ≤ (if e.1 = p then ti y e.2 else 0) + (if e.2 = p then ti y e.1 else 0) ∧ (if e.1 = p then ti y e.2 else 0) + (if e.2 = p then ti y e.1 else 0) ≤ 2000
    split <;> split <;> omega)
  have hl := hA.1
  have a3 := h1 p hp
  omega
theorem OKA.noloop (hA : OKA n A) : ∀ e ∈ A, e.1 ≠ e.2 := fun e he q => by
  obtain ⟨_, _, rk, h⟩ := hA
  have := h e he
  rw [q] at this
  omega
theorem OKA.sym (hA : OKA n A) : Sym (gA A) := gA_sym hA.noloop
theorem bb_2ez (hA : OKA n A) : bb n (gA A) y y = 2 * ez n A y y := by rw [bb_ez hA.2.1]; omega
end CONV
/-! ===== figures of a number ===== -/
def enc (b : Nat) : Nat → (Nat → Nat) → Nat
  | 0, _ => 0
  | n + 1, d => enc b n d * b + d n
def dgs (b n c : Nat) : Nat → Nat := fun i => c / b ^ (n - 1 - i) % b
theorem enc_s {b n : Nat} {d : Nat → Nat} : enc b (n + 1) d = enc b n d * b + d n := rfl
theorem enc_lt {b n : Nat} {d : Nat → Nat} (h : ∀ i, i < n → d i < b) : enc b n d < b ^ n := by
  induction n with
  | zero => exact Nat.one_pos
  | succ n ih =>
    have h1 := ih (fun i hi => h i (by omega))
    have h2 := h n (by omega)
    rw [enc_s, Nat.pow_succ]
    have h3 : (enc b n d + 1) * b ≤ b ^ n * b := Nat.mul_le_mul_right _ h1
    rw [Nat.add_mul] at h3
    omega
theorem enc_congr {b n : Nat} {d d' : Nat → Nat} (h : ∀ i, i < n → d i = d' i) : enc b n d = enc b n d' := by
  induction n with
  | zero => rfl
  | succ n ih => rw [enc_s, enc_s, ih (fun i hi => h i (by omega)), h n (by omega)]
theorem dgs_lt {b n c i : Nat} (hb : 0 < b) : dgs b n c i < b := Nat.mod_lt _ hb
theorem dgs_s {b n c i : Nat} (hi : i < n) : dgs b (n + 1) c i = dgs b n (c / b) i := by
  unfold dgs
  rw [Nat.div_div_eq_div_mul, ← Nat.pow_succ', show n + 1 - 1 - i = n - 1 - i + 1 by omega]
theorem dgs_l {b n c : Nat} : dgs b (n + 1) c n = c % b := by
  unfold dgs
  rw [show n + 1 - 1 - n = 0 by omega, Nat.pow_zero, Nat.div_one]
theorem dgs_enc {b : Nat} (hb : 0 < b) : ∀ n (d : Nat → Nat), (∀ i, i < n → d i < b) → ∀ i, i < n → dgs b n (enc b n d) i = d i := by
  intro n
  induction n with
  | zero => intro d _ i hi; omega
  | succ n ih =>
    intro d h i hi
    have h2 := h n (by omega)
    have e : enc b (n + 1) d / b = enc b n d := by
      rw [enc_s, Nat.mul_comm, Nat.mul_add_div hb, Nat.div_eq_of_lt h2, Nat.add_zero]
    by_cases hin : i = n
    · subst hin
      rw [dgs_l, enc_s, Nat.mul_comm, Nat.mul_add_mod, Nat.mod_eq_of_lt h2]
    · rw [dgs_s (by omega), e]
      exact ih d (fun i hi => h i (by omega)) i (by omega)
theorem enc_dgs {b : Nat} (hb : 0 < b) : ∀ n c, c < b ^ n → enc b n (dgs b n c) = c := by
  intro n
  induction n with
  | zero => intro c hc; rw [Nat.pow_zero] at hc; show 0 = c; omega
  | succ n ih =>
    intro c hc
    rw [enc_s, dgs_l, enc_congr (d' := dgs b n (c / b)) (fun i hi => dgs_s hi), ih (c / b) (by rw [Nat.pow_succ, Nat.mul_comm] at hc; exact Nat.div_lt_of_lt_mul hc), Nat.mul_comm]
    exact Nat.div_add_mod c b
theorem dgs_inj {b n c c' : Nat} (hb : 0 < b) (h1 : c < b ^ n) (h2 : c' < b ^ n) (h : ∀ i, i < n → dgs b n c i = dgs b n c' i) : c = c' := by
  rw [← enc_dgs hb n c h1, ← enc_dgs hb n c' h2]
  exact enc_congr h
/-- the first figure that differs tells which is greater -/
theorem enc_lex {b : Nat} : ∀ n (d d' : Nat → Nat), (∀ i, i < n → d i < b) → (∀ i, i < n → d' i < b) → (enc b n d < enc b n d' ↔ ∃ i, i < n ∧ (∀ j, j < i → d j = d' j) ∧ d i < d' i) := by
  intro n
  induction n with
  | zero => intro d d' _ _; exact iff_of_false (Nat.lt_irrefl 0) (fun ⟨i, hi, _⟩ => by omega)
  | succ n ih =>
    intro d d' h1 h2
    have i1 := ih d d' (fun i hi => h1 i (by omega)) (fun i hi => h2 i (by omega))
    have i2 := ih d' d (fun i hi => h2 i (by omega)) (fun i hi => h1 i (by omega))
    have a1 := h1 n (by omega)
    have a2 := h2 n (by omega)
    rw [enc_s, enc_s]
    rcases Nat.lt_trichotomy (enc b n d) (enc b n d') with hl | hl | hl
    · have h3 : (enc b n d + 1) * b ≤ enc b n d' * b := Nat.mul_le_mul_right _ hl
      rw [Nat.add_mul] at h3
      obtain ⟨i, q1, q2, q3⟩ := i1.mp hl
      exact iff_of_true (by omega) ⟨i, by omega, q2, q3⟩
    · rw [hl]
      have e : ∀ i, i < n → d i = d' i := fun i hi => by
        have hb : 0 < b := by omega
        rw [← dgs_enc hb n d (fun i hi => h1 i (by omega)) i hi, hl, dgs_enc hb n d' (fun i hi => h2 i (by omega)) i hi]
      constructor
      · intro q
        exact ⟨n, by omega, e, by omega⟩
      · rintro ⟨i, q1, q2, q3⟩
        by_cases hin : i = n
        · subst hin; omega
        · have := e i (by omega); omega
    · have h3 : (enc b n d' + 1) * b ≤ enc b n d * b := Nat.mul_le_mul_right _ hl
      rw [Nat.add_mul] at h3
      obtain ⟨i, q1, q2, q3⟩ := i2.mp hl
      refine iff_of_false (by omega) ?_
      rintro ⟨k, k1, k2, k3⟩
      rcases Nat.lt_trichotomy i k with hik | hik | hik
      · have := k2 i hik; omega
      · subst hik; omega
      · have := q2 k hik; omega

/-! ===== all graphs of six points at most: a search that the kernel runs ===== -/
/-- the figure of a code at a weight; their sum over some weights -/
def gk_d (c w : Nat) : Nat := Nat.mod (Nat.div c w) 4
def gk_s (l : List Nat) (c : Nat) : Nat := l.foldr (fun w a => Nat.add (gk_d c w) a) 0
def gk_tb (m c : Nat) : Bool := Nat.beq (Nat.mod (Nat.div m (Nat.pow 2 c)) 2) 1
def gk_m (L : List Nat) : Nat := L.foldr (fun c m => Nat.lor m (Nat.pow 2 c)) 0
def gk_qa (ad : List (Nat × List Nat)) (c : Nat) : Nat := ad.foldr (fun a s => Nat.add (Nat.mul (gk_d c a.1) (Nat.mul 2 (gk_d c a.1))) s) 0
def gk_qb (ad : List (Nat × List Nat)) (c : Nat) : Nat := ad.foldr (fun a s => Nat.add (Nat.mul (gk_d c a.1) (gk_s a.2 c)) s) 0
def gk_c1 (m c : Nat) (a : Nat × List Nat) : Bool :=
  or (Nat.ble (Nat.add (gk_s a.2 c) 1) (gk_d c a.1)) (and (Nat.ble (gk_s a.2 c) (Nat.add (gk_d c a.1) 3)) (gk_tb m (Nat.sub (Nat.add c (Nat.mul (gk_s a.2 c) a.1)) (Nat.mul (Nat.mul 2 (gk_d c a.1)) a.1))))
def gk_chk (w : Nat) (ad : List (Nat × List Nat)) (L : List Nat) (m : Nat) : Bool :=
  and (Nat.ble L.length 36) (and (ad.all (fun a => gk_tb m a.1)) (L.all (fun c => and (Nat.ble (Nat.add c 1) w) (and (Nat.beq (gk_qa ad c) (Nat.add 2 (gk_qb ad c))) (ad.all (gk_c1 m c))))))
/-- the number is counted out first -/
def gk_f {α : Type} (n : Nat) (f : Nat → α) : α := Nat.casesOn (motive := fun _ => α) n (f 0) (fun m => f (Nat.succ m))
theorem gk_f_e {α : Type} (n : Nat) (f : Nat → α) : gk_f n f = f n := by cases n <;> rfl
def gk_up (c : Nat) (k : List Nat → List Nat → Nat → Bool) : List (Nat × List Nat) → List Nat → List Nat → Nat → Bool
  | [], q, l, m => k q l m
  | a :: ad, q, l, m => cond (and (Nat.ble (Nat.add (Nat.mul 2 (gk_d c a.1)) 1) (gk_s a.2 c)) (and (Nat.ble (gk_s a.2 c) (Nat.add (gk_d c a.1) 3)) (not (gk_tb m (Nat.sub (Nat.add c (Nat.mul (gk_s a.2 c) a.1)) (Nat.mul (Nat.mul 2 (gk_d c a.1)) a.1))))))
      (gk_f (Nat.sub (Nat.add c (Nat.mul (gk_s a.2 c) a.1)) (Nat.mul (Nat.mul 2 (gk_d c a.1)) a.1)) (fun c2 => gk_f (Nat.lor m (Nat.pow 2 c2)) (fun m2 => gk_up c k ad (c2 :: q) (c2 :: l) m2)))
      (gk_up c k ad q l m)
def gk_bfs (ad : List (Nat × List Nat)) (k : List Nat → Nat → Bool) : Nat → List Nat → List Nat → Nat → Bool
  | 0, _, l, m => k l m
  | f + 1, q, l, m => match q with
    | [] => k l m
    | c :: q => gk_up c (fun q l m => gk_bfs ad k f q l m) ad q l m
def gk_ad (s : List Nat) (w : Nat) : List (Nat × List Nat) → (List (Nat × List Nat) → Bool) → Bool
  | [], k => k []
  | (v, l) :: ad, k => gk_ad s w ad (fun r => cond (s.any (Nat.beq v)) (k ((v, w :: l) :: r)) (k ((v, l) :: r)))
def gk_subs : Nat → List (List Nat)
  | 0 => [[]]
  | k + 1 => gk_subs k ++ (gk_subs k).map (fun s => 4 ^ k :: s)
def gk_zl : Nat → List Nat
  | 0 => [0]
  | k + 1 => gk_zl k ++ ((gk_zl k).map (fun z => z + 4 ^ k) ++ (gk_zl k).map (fun z => z + 2 * 4 ^ k))
def gk_one (w : Nat) (zl : List Nat) (ad : List (Nat × List Nat)) (L : List Nat) (m : Nat) (go : List (Nat × List Nat) → List Nat → Nat → Bool) (s : List Nat) : Bool :=
  or (L.any (fun c => and (Nat.ble 2 (gk_s s c)) (ad.all (fun a => Nat.ble (gk_d c a.1) 2))))
    (gk_ad s w ad (fun ad1 => gk_f (Nat.lor m (Nat.pow 2 w)) (fun m1 => gk_bfs ((w, s) :: ad1) (fun L2 m2 =>
      or (and (gk_chk (Nat.mul 4 w) ((w, s) :: ad1) L2 m2) (go ((w, s) :: ad1) L2 m2)) (zl.any (fun z => Nat.ble (gk_qa ((w, s) :: ad1) (Nat.add z (Nat.mul 2 w))) (gk_qb ((w, s) :: ad1) (Nat.add z (Nat.mul 2 w)))))) 40 [w] (w :: L) m1)))
def gk_go (lf : List (Nat × List Nat) → List Nat → Nat → Bool) : Nat → Nat → List (Nat × List Nat) → List Nat → Nat → Bool
  | 0, _, ad, L, m => lf ad L m
  | r + 1, k, ad, L, m => (gk_subs k).all (gk_one (4 ^ k) (gk_zl k) ad L m (fun ad L m => gk_go lf r (k + 1) ad L m))
/-- the row of a code -/
def gr (c : Nat) : Nat → Int := fun i => ((c / 4 ^ i % 4 : Nat) : Int)
theorem gr_d (c i : Nat) : gr c i = ((gk_d c (4 ^ i) : Nat) : Int) := rfl
theorem p4_pos (i : Nat) : 0 < 4 ^ i := Nat.pow_pos (by omega)
theorem p4_s (i : Nat) : 4 ^ (i + 1) = 4 * 4 ^ i := by rw [Nat.pow_succ, Nat.mul_comm]
theorem dg_low {lo X i p : Nat} (h : i < p) : (lo + 4 ^ p * X) / 4 ^ i % 4 = lo / 4 ^ i % 4 := by
  obtain ⟨d, rfl⟩ : ∃ d, p = i + (d + 1) := ⟨p - i - 1, by omega⟩
  rw [Nat.pow_add, Nat.mul_assoc, Nat.add_mul_div_left _ _ (p4_pos i), p4_s, Nat.mul_assoc, Nat.add_mul_mod_self_left]
theorem dg_at {lo u hi p : Nat} (hl : lo < 4 ^ p) (hu : u < 4) : (lo + 4 ^ p * (u + 4 * hi)) / 4 ^ p % 4 = u := by
  rw [Nat.add_mul_div_left _ _ (p4_pos p), Nat.div_eq_of_lt hl, Nat.zero_add, Nat.add_mul_mod_self_left, Nat.mod_eq_of_lt hu]
theorem dg_high {lo u hi p i : Nat} (hl : lo < 4 ^ p) (hu : u < 4) (h : p < i) : (lo + 4 ^ p * (u + 4 * hi)) / 4 ^ i = hi / 4 ^ (i - p - 1) := by
  have e : 4 ^ i = 4 ^ (p + 1) * 4 ^ (i - p - 1) := by rw [← Nat.pow_add]; congr 1; omega
  have h2 : lo + 4 ^ p * u < 4 ^ (p + 1) := by
    have : 4 ^ p * u ≤ 4 ^ p * 3 := Nat.mul_le_mul_left _ (by omega)
    rw [p4_s]; omega
  rw [e, ← Nat.div_div_eq_div_mul, Nat.mul_add, ← Nat.add_assoc, ← Nat.mul_assoc, Nat.mul_comm (4 ^ p) 4, ← p4_s, Nat.add_mul_div_left _ _ (p4_pos (p + 1)), Nat.div_eq_of_lt h2, Nat.zero_add]
theorem dg_split (c p : Nat) : c = c % 4 ^ p + 4 ^ p * (c / 4 ^ p % 4 + 4 * (c / 4 ^ p / 4)) := by
  rw [Nat.mod_add_div (c / 4 ^ p) 4, Nat.mod_add_div]
/-- a figure is changed -/
theorem dg_set {c p u i : Nat} (hu : u < 4) {c2 : Nat} (h : c2 + (c / 4 ^ p % 4) * 4 ^ p = c + u * 4 ^ p) : c2 / 4 ^ i % 4 = if i = p then u else c / 4 ^ i % 4 := by
  have hl := Nat.mod_lt c (p4_pos p)
  have hv := Nat.mod_lt (c / 4 ^ p) (show 0 < 4 by omega)
  have e1 := dg_split c p
  have e2 : c2 = c % 4 ^ p + 4 ^ p * (u + 4 * (c / 4 ^ p / 4)) := by
    rw [Nat.mul_add] at e1 ⊢
    rw [Nat.mul_comm (c / 4 ^ p % 4), Nat.mul_comm u] at h
    omega
  generalize c % 4 ^ p = lo at *
  generalize c / 4 ^ p % 4 = v at *
  generalize c / 4 ^ p / 4 = hi at *
  rcases Nat.lt_trichotomy i p with hi1 | hi1 | hi1
  · rw [if_neg (by omega), e2, dg_low hi1, e1, dg_low hi1]
  · subst hi1
    rw [if_pos rfl, e2, dg_at hl hu]
  · rw [if_neg (by omega), e2, dg_high hl hu hi1, e1, dg_high hl hv hi1]
def Adj (k : Nat) (g : Nat → Nat → Int) (nb : Nat → List Nat) : Prop := ∀ p, p < k → ∀ c, zs k (fun i => g p i * gr c i) = ((gk_s (nb p) c : Nat) : Int)
def adl (nb : Nat → List Nat) : Nat → List (Nat × List Nat)
  | 0 => []
  | k + 1 => (4 ^ k, nb k) :: adl nb k
def Good (k : Nat) (g : Nat → Nat → Int) (L : List Nat) : Prop :=
  L.length ≤ 36 ∧ (∀ p, p < k → 4 ^ p ∈ L) ∧ ∀ c ∈ L, c < 4 ^ k ∧ bb k g (gr c) (gr c) = 2 ∧ ∀ p, p < k → 0 ≤ gr c p - bg k g (gr c) p → ∃ c2 ∈ L, ∀ i, gr c2 i = ua (gr c) p (- bg k g (gr c) p) i
def Bad (n : Nat) (g : Nat → Nat → Int) : Prop := ∃ z, z < 4 ^ n ∧ (∀ i, i < n → z / 4 ^ i % 4 ≤ 2) ∧ (∃ i, i < n ∧ z / 4 ^ i % 4 ≠ 0) ∧ bb n g (gr z) (gr z) ≤ 0
section GRAPHS
variable {g : Nat → Nat → Int}
theorem adl_mem {nb : Nat → List Nat} {k p : Nat} (h : p < k) : (4 ^ p, nb p) ∈ adl nb k := by
  induction k with
  | zero => omega
  | succ k ih =>
    by_cases hp : p = k
    · subst hp; exact List.mem_cons_self
    · exact List.mem_cons_of_mem _ (ih (by omega))
theorem adl_all {nb : Nat → List Nat} {k : Nat} {f : Nat × List Nat → Bool} (h : (adl nb k).all f = true) {p : Nat} (hp : p < k) : f (4 ^ p, nb p) = true :=
  List.all_eq_true.mp h _ (adl_mem hp)
theorem adl_qa {nb : Nat → List Nat} {k c : Nat} : ((gk_qa (adl nb k) c : Nat) : Int) = zs k (fun p => 2 * (gr c p * gr c p)) := by
  induction k with
  | zero => rfl
  | succ k ih =>
    rw [zs_s, ← ih, gr_d]
    show (((gk_d c (4 ^ k)) * (2 * (gk_d c (4 ^ k))) + gk_qa (adl nb k) c : Nat) : Int) = _
    rw [Int.natCast_add, Int.natCast_mul, Int.natCast_mul, Int.mul_left_comm, Int.add_comm]
    rfl
theorem adl_qb {nb : Nat → List Nat} {k c : Nat} : ((gk_qb (adl nb k) c : Nat) : Int) = zs k (fun p => gr c p * ((gk_s (nb p) c : Nat) : Int)) := by
  induction k with
  | zero => rfl
  | succ k ih =>
    rw [zs_s, ← ih, gr_d]
    show (((gk_d c (4 ^ k)) * (gk_s (nb k) c) + gk_qb (adl nb k) c : Nat) : Int) = _
    rw [Int.natCast_add, Int.natCast_mul, Int.add_comm]
theorem adl_bb {nb : Nat → List Nat} {k c : Nat} (h : Adj k g nb) : bb k g (gr c) (gr c) = ((gk_qa (adl nb k) c : Nat) : Int) - ((gk_qb (adl nb k) c : Nat) : Int) := by
  rw [adl_qa, adl_qb, ← zs_sub]
  unfold bb bg
  refine zs_congr (fun p hp => ?_)
  rw [h p hp c, Int.mul_sub, Int.mul_left_comm]
theorem gk_tb_mem {L : List Nat} {c : Nat} (h : gk_tb (gk_m L) c = true) : c ∈ L := by
  have e : ∀ m, gk_tb m c = m.testBit c := fun m => by
    rw [Nat.testBit_eq_decide_div_mod_eq]
    show Nat.beq (m / 2 ^ c % 2) 1 = _
    rw [Bool.eq_iff_iff, Nat.beq_eq, decide_eq_true_iff]
  rw [e] at h
  induction L with
  | nil => simp [gk_m] at h
  | cons a L ih =>
    have e2 : gk_m (a :: L) = gk_m L ||| 2 ^ a := rfl
    rw [e2, Nat.testBit_or, Bool.or_eq_true] at h
    rcases h with h | h
    · exact List.mem_cons_of_mem _ (ih h)
    · rw [Nat.testBit_two_pow, decide_eq_true_iff] at h
      rw [h]
      exact List.mem_cons_self
/-- the mask of a list, whatever its order -/
def Msk (L : List Nat) (m : Nat) : Prop := ∀ c, gk_tb m c = true → c ∈ L
theorem gk_tb_e (m c : Nat) : gk_tb m c = m.testBit c := by
  rw [Nat.testBit_eq_decide_div_mod_eq]
  show Nat.beq (m / 2 ^ c % 2) 1 = _
  rw [Bool.eq_iff_iff, Nat.beq_eq, decide_eq_true_iff]
theorem Msk.add {L : List Nat} {m : Nat} (h : Msk L m) (a : Nat) : Msk (a :: L) (Nat.lor m (Nat.pow 2 a)) := by
  intro c hc
  rw [gk_tb_e] at hc
  have hc : (m ||| 2 ^ a).testBit c = true := hc
  rw [Nat.testBit_or, Bool.or_eq_true] at hc
  rcases hc with hc | hc
  · exact List.mem_cons_of_mem _ (h c (by rw [gk_tb_e]; exact hc))
  · rw [Nat.testBit_two_pow, decide_eq_true_iff] at hc
    rw [hc]
    exact List.mem_cons_self
theorem gk_up_ok {c : Nat} {k : List Nat → List Nat → Nat → Bool} : ∀ (ad : List (Nat × List Nat)) (q l : List Nat) (m : Nat), gk_up c k ad q l m = true → Msk l m → ∃ q2 l2 m2, k q2 l2 m2 = true ∧ Msk l2 m2 := by
  intro ad
  induction ad with
  | nil => intro q l m h hm; exact ⟨q, l, m, h, hm⟩
  | cons a ad ih =>
    intro q l m h hm
    unfold gk_up at h
    generalize hb : (and (Nat.ble (Nat.add (Nat.mul 2 (gk_d c a.1)) 1) (gk_s a.2 c)) (and (Nat.ble (gk_s a.2 c) (Nat.add (gk_d c a.1) 3)) (not (gk_tb m (Nat.sub (Nat.add c (Nat.mul (gk_s a.2 c) a.1)) (Nat.mul (Nat.mul 2 (gk_d c a.1)) a.1)))))) = b at h
    cases b with
    | false => exact ih _ _ _ h hm
    | true =>
      rw [cond_true, gk_f_e, gk_f_e] at h
      exact ih _ _ _ h (hm.add _)
theorem gk_bfs_ok {ad : List (Nat × List Nat)} {k : List Nat → Nat → Bool} : ∀ (f : Nat) (q l : List Nat) (m : Nat), gk_bfs ad k f q l m = true → Msk l m → ∃ l2 m2, k l2 m2 = true ∧ Msk l2 m2 := by
  intro f
  induction f with
  | zero => intro q l m h hm; exact ⟨l, m, h, hm⟩
  | succ f ih =>
    intro q l m h hm
    cases q with
    | nil => exact ⟨l, m, h, hm⟩
    | cons c q =>
      obtain ⟨q2, l2, m2, h2, h3⟩ := gk_up_ok ad q l m h hm
      exact ih q2 l2 m2 h2 h3
theorem gk_ad_e {s : List Nat} {w : Nat} : ∀ (ad : List (Nat × List Nat)) (k : List (Nat × List Nat) → Bool), gk_ad s w ad k = k (ad.map (fun a => cond (s.any (Nat.beq a.1)) (a.1, w :: a.2) (a.1, a.2))) := by
  intro ad
  induction ad with
  | nil => intro k; rfl
  | cons a ad ih =>
    intro k
    obtain ⟨v, l⟩ := a
    unfold gk_ad
    rw [ih, List.map_cons]
    show cond (s.any (Nat.beq v)) _ _ = k (cond (s.any (Nat.beq v)) (v, w :: l) (v, l) :: _)
    cases s.any (Nat.beq v) <;> rfl
theorem gk_subs_ex (h01 : ∀ i j, g i j = 0 ∨ g i j = 1) (k : Nat) : ∀ j, ∃ s ∈ gk_subs j, (∀ c, zs j (fun i => g k i * gr c i) = ((gk_s s c : Nat) : Int)) ∧ ∀ p, s.any (Nat.beq (4 ^ p)) = decide (p < j ∧ g k p = 1) := by
  intro j
  induction j with
  | zero => exact ⟨[], List.mem_cons_self, fun c => rfl, fun p => by simp⟩
  | succ j ih =>
    obtain ⟨s, h1, h2, h3⟩ := ih
    rcases h01 k j with h | h
    · refine ⟨s, List.mem_append_left _ h1, fun c => ?_, fun p => ?_⟩
      · rw [zs_s, h2, h]; omega
      · rw [h3, Bool.eq_iff_iff, decide_eq_true_iff, decide_eq_true_iff]
        constructor
        · rintro ⟨a, b⟩; exact ⟨by omega, b⟩
        · rintro ⟨a, b⟩
          refine ⟨?_, b⟩
          by_cases hp : p = j
          · subst hp; rw [h] at b; cases b
          · omega
    · refine ⟨4 ^ j :: s, List.mem_append_right _ (List.mem_map.mpr ⟨s, h1, rfl⟩), fun c => ?_, fun p => ?_⟩
      · rw [zs_s, h2, h, gr_d]
        show _ = ((gk_d c (4 ^ j) + gk_s s c : Nat) : Int)
        omega
      · rw [List.any_cons, h3, Bool.eq_iff_iff, Bool.or_eq_true, Nat.beq_eq, decide_eq_true_iff, decide_eq_true_iff]
        constructor
        · rintro (a | ⟨a, b⟩)
          · have : p = j := (Nat.pow_right_inj (by omega)).mp a
            subst this
            exact ⟨by omega, h⟩
          · exact ⟨by omega, b⟩
        · rintro ⟨a, b⟩
          by_cases hp : p = j
          · subst hp; exact Or.inl rfl
          · exact Or.inr ⟨by omega, b⟩
theorem gk_zl_ok : ∀ k z, z ∈ gk_zl k → z < 4 ^ k ∧ ∀ i, z / 4 ^ i % 4 ≤ 2 := by
  intro k
  induction k with
  | zero =>
    intro z hz
    have : z = 0 := by simpa [gk_zl] using hz
    subst this
    exact ⟨by omega, fun i => by rw [Nat.zero_div]; omega⟩
  | succ k ih =>
    intro z hz
    have key : ∀ z0 u, z0 ∈ gk_zl k → u ≤ 2 → z = z0 + u * 4 ^ k → z < 4 ^ (k + 1) ∧ ∀ i, z / 4 ^ i % 4 ≤ 2 := by
      intro z0 u h0 hu e
      obtain ⟨i1, i2⟩ := ih z0 h0
      have h5 : u * 4 ^ k ≤ 2 * 4 ^ k := Nat.mul_le_mul_right _ hu
      refine ⟨by rw [p4_s]; omega, fun i => ?_⟩
      have e0 : z0 / 4 ^ k % 4 = 0 := by rw [Nat.div_eq_of_lt i1]
      rw [dg_set (c := z0) (p := k) (u := u) (by omega) (by rw [e0, e]; omega)]
      by_cases hi : i = k
      · rw [if_pos hi]; exact hu
      · rw [if_neg hi]; exact i2 i
    have hz : z ∈ gk_zl k ++ ((gk_zl k).map (fun z => z + 4 ^ k) ++ (gk_zl k).map (fun z => z + 2 * 4 ^ k)) := hz
    rw [List.mem_append, List.mem_append, List.mem_map, List.mem_map] at hz
    rcases hz with h | ⟨z0, h, e⟩ | ⟨z0, h, e⟩
    · exact key z 0 h (by omega) (by omega)
    · exact key z0 1 h (by omega) (by omega)
    · exact key z0 2 h (by omega) (by omega)
theorem gr_hi {c k i : Nat} (h : c < 4 ^ k) (hi : k ≤ i) : gr c i = 0 := by
  unfold gr
  have : 4 ^ k ≤ 4 ^ i := Nat.pow_le_pow_right (by omega) hi
  rw [Nat.div_eq_of_lt (by omega)]
  rfl
theorem bg_more {y : Nat → Int} {k m p : Nat} (h : ∀ i, k ≤ i → i < k + m → y i = 0) : bg (k + m) g y p = bg k g y p := by
  unfold bg
  rw [zs_of_le m (fun i h1 h2 => by rw [h i h1 h2]; omega)]
theorem bb_more {y : Nat → Int} {k m : Nat} (h : ∀ i, k ≤ i → i < k + m → y i = 0) : bb (k + m) g y y = bb k g y y := by
  unfold bb
  rw [zs_of_le m (fun i h1 h2 => by rw [h i h1 h2]; omega)]
  exact zs_congr (fun p _ => by rw [bg_more h])
theorem Bad.more {k n : Nat} (h : Bad k g) (hk : k ≤ n) : Bad n g := by
  obtain ⟨z, h1, h2, h3, h4⟩ := h
  obtain ⟨m, rfl⟩ : ∃ m, n = k + m := ⟨n - k, by omega⟩
  have h5 : 4 ^ k ≤ 4 ^ (k + m) := Nat.pow_le_pow_right (by omega) (by omega)
  obtain ⟨i3, h3, h3'⟩ := h3
  refine ⟨z, by omega, fun i hi => ?_, ⟨i3, by omega, h3'⟩, by rw [bb_more (fun i a b => gr_hi h1 a)]; exact h4⟩
  by_cases hik : i < k
  · exact h2 i hik
  · have := gr_hi h1 (show k ≤ i by omega)
    unfold gr at this
    omega
theorem gk_chk_ok {k : Nat} {nb : Nat → List Nat} {L : List Nat} {m : Nat} (hA : Adj k g nb) (hm : Msk L m) (h : gk_chk (4 ^ k) (adl nb k) L m = true) : Good k g L := by
  unfold gk_chk at h
  rw [Bool.and_eq_true, Bool.and_eq_true] at h
  obtain ⟨h1, h2, h3⟩ := h
  refine ⟨Nat.le_of_ble_eq_true h1, fun p hp => hm _ (adl_all h2 hp), fun c hc => ?_⟩
  have h4 := List.all_eq_true.mp h3 c hc
  rw [Bool.and_eq_true, Bool.and_eq_true] at h4
  obtain ⟨h5, h6, h7⟩ := h4
  have h5 : c + 1 ≤ 4 ^ k := Nat.le_of_ble_eq_true h5
  have h6 : gk_qa (adl nb k) c = 2 + gk_qb (adl nb k) c := Nat.eq_of_beq_eq_true h6
  refine ⟨by omega, by rw [adl_bb hA]; omega, fun p hp hnn => ?_⟩
  have h8 := adl_all h7 hp
  have eb : bg k g (gr c) p = 2 * gr c p - ((gk_s (nb p) c : Nat) : Int) := by
    unfold bg
    rw [hA p hp c]
  unfold gk_c1 at h8
  rw [Bool.or_eq_true, Bool.and_eq_true] at h8
  rcases h8 with h8 | ⟨h8, h9⟩
  · have h8 : gk_s (nb p) c + 1 ≤ gk_d c (4 ^ p) := Nat.le_of_ble_eq_true h8
    rw [eb, gr_d] at hnn
    omega
  · have h8 : gk_s (nb p) c ≤ gk_d c (4 ^ p) + 3 := Nat.le_of_ble_eq_true h8
    have h10 := hm _ h9
    refine ⟨_, h10, fun i => ?_⟩
    rw [eb, gr_d] at hnn
    have hd : gk_d c (4 ^ p) ≤ gk_s (nb p) c := by omega
    have hw : gk_d c (4 ^ p) * 4 ^ p ≤ c := by
      have e1 : gk_d c (4 ^ p) ≤ c / 4 ^ p := Nat.mod_le _ _
      exact Nat.le_trans (Nat.mul_le_mul_right _ e1) (Nat.div_mul_le_self c (4 ^ p))
    have hw2 : gk_d c (4 ^ p) * 4 ^ p ≤ gk_s (nb p) c * 4 ^ p := Nat.mul_le_mul_right _ hd
    have e3 := dg_set (c := c) (p := p) (i := i) (u := gk_s (nb p) c - gk_d c (4 ^ p)) (c2 := c + gk_s (nb p) c * 4 ^ p - 2 * gk_d c (4 ^ p) * 4 ^ p) (by omega) (by
      show _ + gk_d c (4 ^ p) * 4 ^ p = _
      rw [Nat.sub_mul, Nat.mul_assoc 2]
      omega)
    show (((c + gk_s (nb p) c * 4 ^ p - 2 * gk_d c (4 ^ p) * 4 ^ p) / 4 ^ i % 4 : Nat) : Int) = _
    rw [e3]
    by_cases hip : i = p
    · subst hip
      rw [if_pos rfl, ua_s, eb, gr_d]
      omega
    · rw [if_neg hip, ua_n hip]
      rfl
def GL (g : Nat → Nat → Int) (K : Nat) (lf : List (Nat × List Nat) → List Nat → Nat → Bool) : Prop := ∀ (nb : Nat → List Nat) (L : List Nat) (m : Nat), lf (adl nb K) L m = true → Adj K g nb → Msk L m → Good K g L → ∀ n, K ≤ n → n ≤ 6 → Bad n g ∨ ∃ L, Good n g L
theorem gk_sound {K : Nat} {lf : List (Nat × List Nat) → List Nat → Nat → Bool} (hs : Sym g) (h01 : ∀ i j, g i j = 0 ∨ g i j = 1) (hlf : GL g K lf) : ∀ (r k : Nat) (nb : Nat → List Nat) (L : List Nat) (m : Nat), k + r = K → gk_go lf r k (adl nb k) L m = true → Adj k g nb → Msk L m → Good k g L → ∀ n, k ≤ n → n ≤ 6 → Bad n g ∨ ∃ L, Good n g L := by
  intro r
  induction r with
  | zero =>
    intro k nb L m hkr h hA hm hL n h1 h2
    have : k = K := by omega
    subst this
    exact hlf nb L m h hA hm hL n h1 h2
  | succ r ih =>
    intro k nb L m hkr h hA hm hL n h1 h2
    by_cases hnk : n = k
    · subst hnk; exact Or.inr ⟨L, hL⟩
    obtain ⟨s, s1, s2, s3⟩ := gk_subs_ex h01 k k
    unfold gk_go at h
    have h3 := List.all_eq_true.mp h s s1
    unfold gk_one at h3
    rw [Bool.or_eq_true] at h3
    rcases h3 with h3 | h3
    · obtain ⟨c, hc, h4⟩ := List.any_eq_true.mp h3
      rw [Bool.and_eq_true] at h4
      have h5 : 2 ≤ gk_s s c := Nat.le_of_ble_eq_true h4.1
      obtain ⟨c1, c2, _⟩ := hL.2.2 c hc
      have e0 : c / 4 ^ k % 4 = 0 := by rw [Nat.div_eq_of_lt c1]
      have e1 : ∀ i, (c + 4 ^ k) / 4 ^ i % 4 = if i = k then 1 else c / 4 ^ i % 4 := fun i => dg_set (by omega) (by rw [e0]; omega)
      have e2 : ∀ i, gr (c + 4 ^ k) i = ua (gr c) k 1 i := fun i => by
        show (((c + 4 ^ k) / 4 ^ i % 4 : Nat) : Int) = if i = k then ((c / 4 ^ i % 4 : Nat) : Int) + 1 else ((c / 4 ^ i % 4 : Nat) : Int)
        rw [e1 i]
        by_cases hi : i = k
        · subst hi; rw [if_pos rfl, if_pos rfl, e0]; rfl
        · rw [if_neg hi, if_neg hi]
      have hb : Bad (k + 1) g := by
        refine ⟨c + 4 ^ k, by rw [p4_s]; omega, fun i hi => ?_, ⟨k, by omega, by rw [e1 k, if_pos rfl]; omega⟩, ?_⟩
        · rw [e1 i]
          by_cases hik : i = k
          · rw [if_pos hik]; omega
          · rw [if_neg hik]
            have := adl_all h4.2 (show i < k by omega)
            exact Nat.le_of_ble_eq_true this
        · rw [bb_congr (y' := ua (gr c) k 1) (z' := ua (gr c) k 1) (fun i _ => e2 i) (fun i _ => e2 i), bb_ua hs (by omega), bb_more (m := 1) (fun i a b => gr_hi c1 a), c2]
          have e3 : bg (k + 1) g (gr c) k = - ((gk_s s c : Nat) : Int) := by
            rw [bg_more (m := 1) (fun i a b => gr_hi c1 a)]
            show 2 * gr c k - zs k (fun i => g k i * gr c i) = _
            rw [s2, gr_hi c1 (Nat.le_refl _)]
            omega
          rw [e3]
          omega
      exact Or.inl (hb.more (by omega))
    · rw [gk_ad_e, gk_f_e] at h3
      let nb2 : Nat → List Nat := fun p => if p = k then s else cond (s.any (Nat.beq (4 ^ p))) (4 ^ k :: nb p) (nb p)
      have ead : ∀ j, j ≤ k → (adl nb j).map (fun a => cond (s.any (Nat.beq a.1)) (a.1, 4 ^ k :: a.2) (a.1, a.2)) = adl nb2 j := by
        intro j
        induction j with
        | zero => intro _; rfl
        | succ j ihj =>
          intro hj
          show (cond (s.any (Nat.beq (4 ^ j))) (4 ^ j, 4 ^ k :: nb j) (4 ^ j, nb j)) :: (adl nb j).map _ = (4 ^ j, nb2 j) :: adl nb2 j
          rw [ihj (by omega)]
          congr 1
          show _ = (4 ^ j, if j = k then s else cond (s.any (Nat.beq (4 ^ j))) (4 ^ k :: nb j) (nb j))
          rw [if_neg (by omega)]
          cases s.any (Nat.beq (4 ^ j)) <;> rfl
      have ead2 : (4 ^ k, s) :: (adl nb k).map (fun a => cond (s.any (Nat.beq a.1)) (a.1, 4 ^ k :: a.2) (a.1, a.2)) = adl nb2 (k + 1) := by
        rw [ead k (Nat.le_refl _)]
        show _ = (4 ^ k, if k = k then s else _) :: _
        rw [if_pos rfl]
      rw [ead2] at h3
      have hA2 : Adj (k + 1) g nb2 := by
        intro p hp c
        rw [zs_s]
        by_cases hpk : p = k
        · subst hpk
          rw [s2, hs.2]
          show _ = ((gk_s (if p = p then s else _) c : Nat) : Int)
          rw [if_pos rfl]
          omega
        · rw [hA p (by omega) c]
          show _ = ((gk_s (if p = k then s else cond (s.any (Nat.beq (4 ^ p))) (4 ^ k :: nb p) (nb p)) c : Nat) : Int)
          rw [if_neg hpk, s3]
          rcases h01 k p with q | q
          · rw [decide_eq_false (fun z => by rw [q] at z; cases z.2), hs.1 p k, q, cond_false]
            omega
          · rw [decide_eq_true (show p < k ∧ g k p = 1 from ⟨by omega, q⟩), hs.1 p k, q, cond_true]
            show _ = ((gk_d c (4 ^ k) + gk_s (nb p) c : Nat) : Int)
            rw [gr_d]
            omega
      obtain ⟨L2, m2, h4, h5⟩ := gk_bfs_ok _ _ _ _ h3 (hm.add (4 ^ k))
      rw [Bool.or_eq_true, Bool.and_eq_true] at h4
      rcases h4 with ⟨h4, h6⟩ | h4
      · have e4 : Nat.mul 4 (4 ^ k) = 4 ^ (k + 1) := (p4_s k).symm
        rw [e4] at h4
        exact ih (k + 1) nb2 L2 m2 (by omega) h6 hA2 h5 (gk_chk_ok hA2 h5 h4) n (by omega) (by omega)
      · obtain ⟨z, hz, h6⟩ := List.any_eq_true.mp h4
        have h7 := Nat.le_of_ble_eq_true h6
        obtain ⟨z1, z2⟩ := gk_zl_ok k z hz
        have e0 : z / 4 ^ k % 4 = 0 := by rw [Nat.div_eq_of_lt z1]
        have hb : Bad (k + 1) g := by
          refine ⟨z + 2 * 4 ^ k, by rw [p4_s]; omega, fun i hi => ?_, ⟨k, by omega, by rw [dg_set (c := z) (p := k) (u := 2) (by omega) (by rw [e0]; omega), if_pos rfl]; omega⟩, ?_⟩
          · rw [dg_set (c := z) (p := k) (u := 2) (by omega) (by rw [e0]; omega)]
            by_cases hik : i = k
            · rw [if_pos hik]; omega
            · rw [if_neg hik]; exact z2 i
          · rw [adl_bb hA2]
            have h7 : gk_qa (adl nb2 (k + 1)) (z + 2 * 4 ^ k) ≤ gk_qb (adl nb2 (k + 1)) (z + 2 * 4 ^ k) := h7
            omega
        exact Or.inl (hb.more (by omega))
end GRAPHS

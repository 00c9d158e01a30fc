/-! ===== the order of the points, ways ===== -/
theorem goT_iff {A : Arr} {p b : Nat} : goT A p b = true ↔ ∃ e ∈ A, e.1 = p ∧ b.testBit e.2 = true := by
  unfold goT
  rw [List.any_eq_true]
  constructor
  · rintro ⟨e, he, h⟩
    rw [Bool.and_eq_true] at h
    exact ⟨e, he, by simpa using h.1, h.2⟩
  · rintro ⟨e, he, h1, h2⟩
    exact ⟨e, he, by rw [Bool.and_eq_true]; exact ⟨by simpa using h1, h2⟩⟩
theorem tb_lt {n b p : Nat} (hb : b < 2 ^ n) (hp : b.testBit p = true) : p < n := by
  apply Classical.byContradiction
  intro h
  have h2 : 2 ^ n ≤ 2 ^ p := Nat.pow_le_pow_right (by omega) (by omega)
  have := Nat.testBit_lt_two_pow (x := b) (i := p) (by omega)
  rw [this] at hp
  cases hp
theorem tb_ex {b : Nat} (hb : b < 64) (h0 : b ≠ 0) : ∃ p, p < 6 ∧ b.testBit p = true := (show ∀ b, b < 64 → b ≠ 0 → ∃ p, p < 6 ∧ b.testBit p = true by decide +kernel) b hb h0
/-- where points are left, one is ready -/
theorem rdy_ex {n : Nat} {A : Arr} (hA : OKA n A) (hn : n ≤ 6) {b : Nat} (hb : b < 2 ^ n) (h0 : b ≠ 0) : ∃ p, p < n ∧ b.testBit p = true ∧ goT A p b = false := by
  obtain ⟨h1, h2, rk, h3⟩ := hA
  have key : ∀ k p, rk p ≤ k → b.testBit p = true → ∃ p, p < n ∧ b.testBit p = true ∧ goT A p b = false := by
    intro k
    induction k with
    | zero =>
      intro p hk hp
      cases hg : goT A p b with
      | false => exact ⟨p, tb_lt hb hp, hp, hg⟩
      | true =>
        obtain ⟨e, he, e1, e2⟩ := goT_iff.mp hg
        have := h3 e he
        rw [e1] at this
        omega
    | succ k ih =>
      intro p hk hp
      cases hg : goT A p b with
      | false => exact ⟨p, tb_lt hb hp, hp, hg⟩
      | true =>
        obtain ⟨e, he, e1, e2⟩ := goT_iff.mp hg
        have := h3 e he
        rw [e1] at this
        exact ih e.2 (by omega) e2
  have hp := p64 hn
  obtain ⟨p, _, hp⟩ := tb_ex (b := b) (by omega) h0
  exact key (rk p) p (Nat.le_refl _) hp
/-- the first ready one is what `rdy` names -/
theorem rdy_at {n : Nat} {A : Arr} {b p : Nat} (hp : p < n) (h1 : (b.testBit p && !goT A p b) = true) (h2 : ∀ q, q < p → (b.testBit q && !goT A q b) = false) : rdy n A b = p := by
  have : (List.range n).find? (fun p => b.testBit p && !goT A p b) = some p := by
    rw [List.find?_range_eq_some]
    exact ⟨h1, by simpa using hp, fun j hj => by rw [h2 j hj]; rfl⟩
  unfold rdy
  rw [this]
  rfl
theorem rdy_ok {n : Nat} {A : Arr} (hA : OKA n A) (hn : n ≤ 6) {b : Nat} (hb : b < 2 ^ n) (h0 : b ≠ 0) : ∃ p, rdy n A b = p ∧ p < n ∧ b.testBit p = true ∧ goT A p b = false ∧ ∀ q, q < p → (b.testBit q && !goT A q b) = false := by
  obtain ⟨p0, a1, a2, a3⟩ := rdy_ex hA hn hb h0
  rcases first_bad (p := fun q => (b.testBit q && !goT A q b) = false) n with h | ⟨k, k1, k2, k3⟩
  · have := h p0 a1
    rw [a2, a3] at this
    cases this
  · have k3' : (b.testBit k && !goT A k b) = true := by simpa using k3
    refine ⟨k, rdy_at k1 k3' k2, k1, ?_, ?_, k2⟩
    · rw [Bool.and_eq_true] at k3'; exact k3'.1
    · rw [Bool.and_eq_true] at k3'; simpa using k3'.2
theorem sb_tb {b r j : Nat} (hb : b < 64) (hr : r < 6) (hj : j < 6) (h : b.testBit r = true) : (b - 2 ^ r).testBit j = (b.testBit j && decide (j ≠ r)) := (show ∀ r, r < 6 → ∀ j, j < 6 → ∀ b, b < 64 → b.testBit r = true → (b - 2 ^ r).testBit j = (b.testBit j && decide (j ≠ r)) by decide +kernel) r hr j hj b hb h
theorem sb_pc {b r : Nat} (hb : b < 64) (hr : r < 6) (h : b.testBit r = true) : pcb (b - 2 ^ r) + 1 = pcb b := (show ∀ r, r < 6 → ∀ b, b < 64 → b.testBit r = true → pcb (b - 2 ^ r) + 1 = pcb b by decide +kernel) r hr b hb h
theorem pc_full {n : Nat} (hn : n ≤ 6) : pcb (2 ^ n - 1) = n := (show ∀ n, n < 7 → pcb (2 ^ n - 1) = n by decide +kernel) n (by omega)
theorem tb_full {n p : Nat} (hn : n ≤ 6) (hp : p < n) : (2 ^ n - 1).testBit p = true := (show ∀ n, n < 7 → ∀ p, p < n → (2 ^ n - 1).testBit p = true by decide +kernel) n (by omega) p hp
theorem bC {b r : Nat} (hb : b < 64) (hr : r < 6) (h : b.testBit r = true) : nI b &&& ((1 <<< (nI r &&& 31)) ^^^ (-1)) = nI (b - 2 ^ r) := (show ∀ r, r < 6 → ∀ b, b < 64 → b.testBit r = true → nI b &&& ((1 <<< (nI r &&& 31)) ^^^ (-1)) = nI (b - 2 ^ r) by decide +kernel) r hr b hb h
section ORD
variable {n : Nat} {A : Arr}
theorem lft_ok (hA : OKA n A) (hn : n ≤ 6) : ∀ i, i ≤ n → lft n A i < 2 ^ n ∧ pcb (lft n A i) = n - i := by
  intro i
  induction i with
  | zero => intro _; exact ⟨by have := Nat.two_pow_pos n; show 2 ^ n - 1 < 2 ^ n; omega, pc_full hn⟩
  | succ i ih =>
    intro hi
    obtain ⟨h1, h2⟩ := ih (by omega)
    have h0 : lft n A i ≠ 0 := fun q => by rw [q] at h2; have : pcb 0 = 0 := rfl; omega
    obtain ⟨p, p1, p2, p3, p4, p5⟩ := rdy_ok hA hn h1 h0
    have hp := p64 hn
    have := sb_pc (b := lft n A i) (r := p) (by omega) (by omega) p3
    have e : lft n A (i + 1) = lft n A i - 2 ^ p := by show lft n A i - 2 ^ rdy n A (lft n A i) = _; rw [p1]
    rw [e]
    exact ⟨Nat.lt_of_le_of_lt (Nat.sub_le _ _) h1, by omega⟩
theorem lft_ne (hA : OKA n A) (hn : n ≤ 6) {i : Nat} (hi : i < n) : lft n A i ≠ 0 := fun q => by
  have h := (lft_ok hA hn i (by omega)).2
  rw [q] at h
  have : pcb 0 = 0 := rfl
  omega
theorem ord_ok (hA : OKA n A) (hn : n ≤ 6) {i : Nat} (hi : i < n) : ord n A i < n ∧ (lft n A i).testBit (ord n A i) = true ∧ goT A (ord n A i) (lft n A i) = false ∧ ∀ q, q < ord n A i → ((lft n A i).testBit q && !goT A q (lft n A i)) = false := by
  obtain ⟨p, p1, p2, p3, p4, p5⟩ := rdy_ok hA hn (lft_ok hA hn i (by omega)).1 (lft_ne hA hn hi)
  have e : ord n A i = p := p1
  rw [e]
  exact ⟨p2, p3, p4, p5⟩
theorem lft_s (i : Nat) : lft n A (i + 1) = lft n A i - 2 ^ ord n A i := rfl
/-- left at i are the points that were not taken before -/
theorem lft_tb (hA : OKA n A) (hn : n ≤ 6) : ∀ i, i ≤ n → ∀ p, p < n → ((lft n A i).testBit p = true ↔ ∀ j, j < i → ord n A j ≠ p) := by
  intro i
  induction i with
  | zero => intro _ p hp; exact iff_of_true (tb_full hn hp) (fun j hj => by omega)
  | succ i ih =>
    intro hi p hp
    have h1 := lft_ok hA hn i (by omega)
    have h2 := ord_ok hA hn (show i < n by omega)
    have h64 := p64 hn
    rw [lft_s, sb_tb (by omega) (by omega) (by omega) h2.2.1, Bool.and_eq_true, ih (by omega) p hp, decide_eq_true_eq]
    constructor
    · rintro ⟨a, b⟩ j hj
      by_cases hji : j = i
      · subst hji; exact fun q => b q.symm
      · exact a j (by omega)
    · intro a
      exact ⟨fun j hj => a j (by omega), fun q => a i (by omega) q.symm⟩
theorem ord_inj (hA : OKA n A) (hn : n ≤ 6) {i j : Nat} (hi : i < n) (hj : j < n) (h : ord n A i = ord n A j) : i = j := by
  rcases Nat.lt_trichotomy i j with hl | hl | hl
  · have := (lft_tb hA hn j (by omega) (ord n A j) (ord_ok hA hn hj).1).mp (ord_ok hA hn hj).2.1 i hl
    exact absurd h this
  · exact hl
  · have := (lft_tb hA hn i (by omega) (ord n A i) (ord_ok hA hn hi).1).mp (ord_ok hA hn hi).2.1 j hl
    exact absurd h.symm this
theorem ord_onto (hA : OKA n A) (hn : n ≤ 6) {p : Nat} (hp : p < n) : ∃ i, i < n ∧ ord n A i = p := by
  apply Classical.byContradiction
  intro hno
  have h := (lft_tb hA hn n (Nat.le_refl _) p hp).mpr (fun j hj q => hno ⟨j, hj, q⟩)
  have h1 := lft_ok hA hn n (Nat.le_refl _)
  have h64 := p64 hn
  have h2 := pcb_pos (b := lft n A n) (by omega) (fun q => by rw [q] at h; simp at h)
  omega
theorem plc_ord (hA : OKA n A) (hn : n ≤ 6) {i : Nat} (hi : i < n) : plc n A (ord n A i) = i := by
  have : (List.range n).find? (fun j => ord n A j == ord n A i) = some i := by
    rw [List.find?_range_eq_some]
    refine ⟨by simp, by simpa using hi, fun j hj => ?_⟩
    have : ord n A j ≠ ord n A i := fun q => by have := ord_inj hA hn (show j < n by omega) hi q; omega
    simpa using this
  unfold plc
  rw [this]
  rfl
theorem plc_lt (hA : OKA n A) (hn : n ≤ 6) {p : Nat} (hp : p < n) : plc n A p < n ∧ ord n A (plc n A p) = p := by
  obtain ⟨i, hi, rfl⟩ := ord_onto hA hn hp
  rw [plc_ord hA hn hi]
  exact ⟨hi, rfl⟩
/-- an arrow goes to a point that was taken before -/
theorem plc_arr (hA : OKA n A) (hn : n ≤ 6) {e : Nat × Nat} (he : e ∈ A) : plc n A e.2 < plc n A e.1 := by
  have hb := hA.2.1 e he
  obtain ⟨i, hi, h1⟩ := ord_onto hA hn hb.1
  obtain ⟨j, hj, h2⟩ := ord_onto hA hn hb.2
  have h3 := (ord_ok hA hn hi).2.2.1
  rw [← h1, ← h2, plc_ord hA hn hi, plc_ord hA hn hj]
  apply Classical.byContradiction
  intro hno
  have h4 : (lft n A i).testBit e.2 = true := (lft_tb hA hn i (by omega) e.2 hb.2).mpr (fun k hk q => by
    have := ord_inj hA hn (show k < n by omega) hj (q.trans h2.symm)
    omega)
  have h5 : goT A (ord n A i) (lft n A i) = true := goT_iff.mpr ⟨e, he, h1.symm, h4⟩
  rw [h3] at h5
  cases h5
theorem wys_s (t p q : Nat) : wys A (t + 1) p q = A.foldl (fun s e => if e.1 = p then s + wys A t e.2 q else s) (if p = q then 1 else 0) := rfl
theorem fold_congr {B : Arr} {f g : Int32 → Nat × Nat → Int32} {s : Int32} (h : ∀ e ∈ B, ∀ s, f s e = g s e) : B.foldl f s = B.foldl g s := by
  induction B generalizing s with
  | nil => rfl
  | cons e B ih => rw [List.foldl_cons, List.foldl_cons, h e List.mem_cons_self s]; exact ih (fun e he => h e (List.mem_cons_of_mem _ he))
theorem wys_fix (hA : OKA n A) (hn : n ≤ 6) (q : Nat) : ∀ k p, p < n → plc n A p ≤ k → ∀ t, k < t → wys A (t + 1) p q = wys A t p q := by
  intro k
  induction k with
  | zero =>
    intro p hp hk t ht
    obtain ⟨t', rfl⟩ : ∃ t', t = t' + 1 := ⟨t - 1, by omega⟩
    rw [wys_s, wys_s]
    refine fold_congr (fun e he s => ?_)
    by_cases h : e.1 = p
    · have := plc_arr hA hn he
      rw [h] at this
      omega
    · rw [if_neg h, if_neg h]
  | succ k ih =>
    intro p hp hk t ht
    obtain ⟨t', rfl⟩ : ∃ t', t = t' + 1 := ⟨t - 1, by omega⟩
    rw [wys_s, wys_s]
    refine fold_congr (fun e he s => ?_)
    by_cases h : e.1 = p
    · have := plc_arr hA hn he
      rw [h] at this
      rw [if_pos h, if_pos h, ih e.2 (hA.2.1 e he).2 (by omega) t' (by omega)]
    · rw [if_neg h, if_neg h]
/-- ways from p: none but the empty one, or by a first arrow -/
theorem pth_fix (hA : OKA n A) (hn : n ≤ 6) {p : Nat} (hp : p < n) (q : Nat) : pth A p q = A.foldl (fun s e => if e.1 = p then s + pth A e.2 q else s) (if p = q then 1 else 0) := by
  have := plc_lt hA hn hp
  rw [show pth A p q = wys A 6 p q from rfl, ← wys_fix hA hn q (plc n A p) p hp (Nat.le_refl _) 6 (by omega)]
  rfl
end ORD

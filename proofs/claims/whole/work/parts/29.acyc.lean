/-! ===== enough rounds; no way leads round ===== -/
def pcb (b : Nat) : Nat := ((List.range 6).filter (fun i => b.testBit i)).length
theorem rst_sub {b u v : Nat} : b ||| rst b u v = rst b u v := by
  unfold rst
  by_cases h : b.testBit u
  · rw [if_pos h, ← Nat.or_assoc, Nat.or_self]
  · rw [if_neg h, Nat.or_self]
theorem sub_tr {b c d : Nat} (h1 : b ||| c = c) (h2 : c ||| d = d) : b ||| d = d := by rw [← h2, ← Nat.or_assoc, h1]
theorem rst2_sub {b u v : Nat} : b ||| rst2 b u v = rst2 b u v := sub_tr rst_sub rst_sub
theorem rnd_sub {ew : Bool} {A : Arr} {b : Nat} : b ||| rnd ew A b = rnd ew A b := by
  unfold rnd
  refine foldl_inv (A := A) (g := fun e b => if ew then rst2 b e.1 e.2 else rst b e.1 e.2) (fun c => b ||| c = c) (Nat.or_self b) (fun e s _ hs => ?_)
  cases ew
  · exact sub_tr hs rst_sub
  · exact sub_tr hs rst2_sub
theorem pcb_lt {b c : Nat} (hb : b < 64) (hc : c < 64) (h : b ||| c = c) (hne : b ≠ c) : pcb b < pcb c := (show ∀ b, b < 64 → ∀ c, c < 64 → b ||| c = c → b ≠ c → pcb b < pcb c by decide +kernel) b hb c hc h hne
theorem pcb_le {b n : Nat} (hn : n ≤ 6) (hb : b < 2 ^ n) : pcb b ≤ n := (show ∀ n, n < 7 → ∀ b, b < 2 ^ n → pcb b ≤ n by decide +kernel) n (by omega) b hb
theorem pcb_pos {b : Nat} (hb : b < 64) (h : b ≠ 0) : 1 ≤ pcb b := (show ∀ b, b < 64 → b ≠ 0 → 1 ≤ pcb b by decide +kernel) b hb h
theorem p64 {n : Nat} (hn : n ≤ 6) : 2 ^ n ≤ 64 := (show ∀ n, n < 7 → 2 ^ n ≤ 64 by decide) n (by omega)
theorem rst_ltn {n b u v : Nat} (hb : b < 2 ^ n) (hv : v < n) : rst b u v < 2 ^ n := by
  unfold rst
  by_cases h : b.testBit u
  · rw [if_pos h]; exact Nat.or_lt_two_pow hb (Nat.pow_lt_pow_right (by omega) hv)
  · rw [if_neg h]; exact hb
theorem rnd_ltn {ew : Bool} {n : Nat} {A : Arr} (hA : OKA n A) {b : Nat} (hb : b < 2 ^ n) : rnd ew A b < 2 ^ n := by
  refine foldl_inv (g := fun e b => if ew then rst2 b e.1 e.2 else rst b e.1 e.2) (fun b => b < 2 ^ n) hb (fun e s he hs => ?_)
  have h := hA.2.1 e he
  cases ew
  · exact rst_ltn hs h.2
  · exact rst_ltn (rst_ltn hs h.2) h.1
theorem rch_ltn {ew : Bool} {n : Nat} {A : Arr} (hA : OKA n A) {b : Nat} (hb : b < 2 ^ n) (k : Nat) : rch ew A k b < 2 ^ n := by
  induction k with
  | zero => exact hb
  | succ k ih => exact rnd_ltn hA ih
theorem rch_stay {ew : Bool} {A : Arr} {b i : Nat} (h : rch ew A (i + 1) b = rch ew A i b) : ∀ m, rch ew A (i + m) b = rch ew A i b := by
  intro m
  induction m with
  | zero => rfl
  | succ m ih =>
    show rnd ew A (rch ew A (i + m) b) = _
    rw [ih]
    exact h
/-- as many rounds as there are points are enough -/
theorem rch_sat {ew : Bool} {n : Nat} {A : Arr} (hA : OKA n A) (hn : n ≤ 6) {b : Nat} (hb : b < 2 ^ n) (h0 : b ≠ 0) : rch ew A n b = rch ew A 6 b ∧ rnd ew A (rch ew A n b) = rch ew A n b := by
  have hp := p64 hn
  have key : ∀ k, (∀ i, i < k → rch ew A (i + 1) b ≠ rch ew A i b) → k + 1 ≤ pcb (rch ew A k b) := by
    intro k
    induction k with
    | zero => intro _; exact pcb_pos (b := b) (by omega) h0
    | succ k ih =>
      intro h
      have h1 := ih (fun i hi => h i (by omega))
      have h2 := pcb_lt (b := rch ew A k b) (c := rch ew A (k + 1) b) (Nat.lt_of_lt_of_le (rch_ltn hA hb k) hp) (Nat.lt_of_lt_of_le (rch_ltn hA hb (k + 1)) hp) rnd_sub (fun q => h k (by omega) q.symm)
      omega
  have hex : ∃ i, i < n ∧ rch ew A (i + 1) b = rch ew A i b := by
    apply Classical.byContradiction
    intro hno
    have h1 := key n (fun i hi q => hno ⟨i, hi, q⟩)
    have h2 := pcb_le hn (rch_ltn (ew := ew) hA hb n)
    omega
  obtain ⟨i, hi, he⟩ := hex
  have hs := rch_stay he
  have e1 := hs (n - i)
  have e2 := hs (6 - i)
  have e3 := hs (n - i + 1)
  rw [show i + (n - i) = n by omega] at e1
  rw [show i + (6 - i) = 6 by omega] at e2
  rw [show i + (n - i + 1) = n + 1 by omega] at e3
  exact ⟨e1.trans e2.symm, (show rch ew A (n + 1) b = _ from e3).trans e1.symm⟩
theorem rch_sub {ew : Bool} {A : Arr} {b : Nat} (k : Nat) : b ||| rch ew A k b = rch ew A k b := by
  induction k with
  | zero => exact Nat.or_self b
  | succ k ih => exact sub_tr ih rnd_sub
theorem tb_sub {b c i : Nat} (h : b ||| c = c) (hi : b.testBit i = true) : c.testBit i = true := by rw [← h, Nat.testBit_or, hi]; rfl
/-- what a round leaves as it is, is closed -/
theorem rnd_cl {A : Arr} {b : Nat} (h : rnd false A b = b) : ∀ e ∈ A, b.testBit e.1 = true → b.testBit e.2 = true := by
  have key : ∀ (B : Arr) (c : Nat), b ||| c = c → c ||| rnd false B c = rnd false B c := fun B c _ => rnd_sub
  have gen : ∀ (B : Arr) (c : Nat), b ||| c = c → rnd false B c = b → ∀ e ∈ B, b.testBit e.1 = true → b.testBit e.2 = true := by
    intro B
    induction B with
    | nil => intro c _ _ e he; cases he
    | cons e B ih =>
      intro c hc hB e' he' ht
      have hcons : rnd false (e :: B) c = rnd false B (rst c e.1 e.2) := rfl
      rw [hcons] at hB
      have h1 : b ||| rst c e.1 e.2 = rst c e.1 e.2 := sub_tr hc rst_sub
      have h2 : rst c e.1 e.2 ||| b = b := by have := rnd_sub (ew := false) (A := B) (b := rst c e.1 e.2); rw [hB] at this; exact this
      have h3 : rst c e.1 e.2 = b := by rw [← h2, Nat.or_comm, h1]
      rcases List.mem_cons.mp he' with rfl | h9
      · have h4 : c.testBit e'.1 = true := tb_sub hc ht
        rw [← h3]
        unfold rst
        rw [if_pos h4, Nat.testBit_or, Nat.testBit_two_pow_self]
        simp
      · exact ih _ h1 hB e' h9 ht
  exact gen A b (Nat.or_self b) h
theorem OKA.erase {n : Nat} {A : Arr} (h : OKA n A) (j : Nat) : OKA n (A.eraseIdx j) := by
  obtain ⟨h1, h2, rk, h3⟩ := h
  refine ⟨Nat.le_trans (List.length_eraseIdx_le A j) h1, fun e he => h2 e (List.mem_of_mem_eraseIdx he), rk, fun e he => h3 e (List.mem_of_mem_eraseIdx he)⟩
theorem OKA.add {n : Nat} {A : Arr} (h : OKA n A) (hl : A.length < 10) {u v : Nat} (hu : u < n) (hv : v < n) (b : Nat) (hcl : ∀ e ∈ A, b.testBit e.1 = true → b.testBit e.2 = true) (hbv : b.testBit v = true) (hbu : b.testBit u = false) : OKA n (A ++ [(u, v)]) := by
  obtain ⟨h1, h2, rk, h3⟩ := h
  refine ⟨by simp; omega, fun e he => ?_, fun w => if b.testBit w = true then rk w else rk w + rk v + 1, fun e he => ?_⟩
  · rcases List.mem_append.mp he with h | h
    · exact h2 e h
    · simp at h; subst h; exact ⟨hu, hv⟩
  · show (if b.testBit e.2 = true then rk e.2 else rk e.2 + rk v + 1) < (if b.testBit e.1 = true then rk e.1 else rk e.1 + rk v + 1)
    rcases List.mem_append.mp he with h | h
    · have h4 := h3 e h
      by_cases hb1 : b.testBit e.1 = true
      · rw [if_pos hb1, if_pos (hcl e h hb1)]; exact h4
      · rw [if_neg hb1]
        by_cases hb2 : b.testBit e.2 = true
        · rw [if_pos hb2]; omega
        · rw [if_neg hb2]; omega
    · simp at h
      subst h
      show (if b.testBit v = true then rk v else rk v + rk v + 1) < (if b.testBit u = true then rk u else rk u + rk v + 1)
      rw [if_pos hbv, hbu]
      simp
      omega
/-- counts as numbers -/
theorem cou_zero {A : Arr} {p : Nat} (hl : A.length ≤ 10) : cou A p = 0 ↔ ∀ e ∈ A, e.1 ≠ p := by
  have gen : ∀ (B : Arr) (c : Nat), B.foldl (fun c e => if e.1 = p then c + 1 else c) (nI c) = nI (c + (B.filter (fun e => e.1 == p)).length) := by
    intro B
    induction B with
    | nil => intro c; simp
    | cons e B ih =>
      intro c
      rw [List.foldl_cons]
      by_cases h : e.1 = p
      · rw [if_pos h, s1_i, ih, List.filter_cons_of_pos (by simp [h])]
        congr 1
        simp; omega
      · rw [if_neg h, ih, List.filter_cons_of_neg (by simp [h])]
  have h0 := gen A 0
  have hle := List.length_filter_le (fun e : Nat × Nat => e.1 == p) A
  unfold cou
  rw [show (0 : Int32) = nI 0 from rfl, h0, iE (by omega) (by omega), Nat.zero_add, List.length_eq_zero_iff, List.filter_eq_nil_iff]
  simp
theorem cin_zero {A : Arr} {p : Nat} (hl : A.length ≤ 10) : cin A p = 0 ↔ ∀ e ∈ A, e.2 ≠ p := by
  have gen : ∀ (B : Arr) (c : Nat), B.foldl (fun c e => if e.2 = p then c + 1 else c) (nI c) = nI (c + (B.filter (fun e => e.2 == p)).length) := by
    intro B
    induction B with
    | nil => intro c; simp
    | cons e B ih =>
      intro c
      rw [List.foldl_cons]
      by_cases h : e.2 = p
      · rw [if_pos h, s1_i, ih, List.filter_cons_of_pos (by simp [h])]
        congr 1
        simp; omega
      · rw [if_neg h, ih, List.filter_cons_of_neg (by simp [h])]
  have h0 := gen A 0
  have hle := List.length_filter_le (fun e : Nat × Nat => e.2 == p) A
  unfold cin
  rw [show (0 : Int32) = nI 0 from rfl, h0, iE (by omega) (by omega), Nat.zero_add, List.length_eq_zero_iff, List.filter_eq_nil_iff]
  simp
theorem cin_nn {A : Arr} {p : Nat} (hl : A.length ≤ 10) : ∃ c, c ≤ 10 ∧ cin A p = nI c := by
  have gen : ∀ (B : Arr) (c : Nat), ∃ d, d ≤ c + B.length ∧ B.foldl (fun c e => if e.2 = p then c + 1 else c) (nI c) = nI d := by
    intro B
    induction B with
    | nil => intro c; exact ⟨c, by simp, rfl⟩
    | cons e B ih =>
      intro c
      rw [List.foldl_cons]
      by_cases h : e.2 = p
      · rw [if_pos h, s1_i]
        obtain ⟨d, h1, h2⟩ := ih (c + 1)
        exact ⟨d, by simp; omega, h2⟩
      · rw [if_neg h]
        obtain ⟨d, h1, h2⟩ := ih c
        exact ⟨d, by simp; omega, h2⟩
  obtain ⟨d, h1, h2⟩ := gen A 0
  exact ⟨d, by omega, h2⟩
theorem cou_nn {A : Arr} {p : Nat} (hl : A.length ≤ 10) : ∃ c, c ≤ 10 ∧ cou A p = nI c := by
  have gen : ∀ (B : Arr) (c : Nat), ∃ d, d ≤ c + B.length ∧ B.foldl (fun c e => if e.1 = p then c + 1 else c) (nI c) = nI d := by
    intro B
    induction B with
    | nil => intro c; exact ⟨c, by simp, rfl⟩
    | cons e B ih =>
      intro c
      rw [List.foldl_cons]
      by_cases h : e.1 = p
      · rw [if_pos h, s1_i]
        obtain ⟨d, h1, h2⟩ := ih (c + 1)
        exact ⟨d, by simp; omega, h2⟩
      · rw [if_neg h]
        obtain ⟨d, h1, h2⟩ := ih c
        exact ⟨d, by simp; omega, h2⟩
  obtain ⟨d, h1, h2⟩ := gen A 0
  exact ⟨d, by omega, h2⟩
theorem OKA.swp {n : Nat} {A : Arr} (h : OKA n A) (p : Nat) (hs : (∀ e ∈ A, e.1 ≠ p) ∨ ∀ e ∈ A, e.2 ≠ p) : OKA n (swp A p) := by
  obtain ⟨h1, h2, rk, h3⟩ := h
  refine ⟨by show (A.map _).length ≤ 10; rw [List.length_map]; exact h1, fun e he => ?_, ?_⟩
  · obtain ⟨q, hq, rfl⟩ := List.mem_map.mp he
    have := h2 q hq
    by_cases hc : q.1 = p ∨ q.2 = p
    · rw [if_pos hc]; exact ⟨this.2, this.1⟩
    · rw [if_neg hc]; exact this
  · rcases hs with hs | hs
    · -- a sink: it goes to the top
      refine ⟨fun w => if w = p then A.foldl (fun s e => s + rk e.1 + rk e.2) 0 + 1 else rk w, fun e he => ?_⟩
      obtain ⟨q, hq, rfl⟩ := List.mem_map.mp he
      have hr := h3 q hq
      have hb : ∀ (B : Arr) (s : Nat) (q : Nat × Nat), q ∈ B → rk q.1 + s ≤ B.foldl (fun s e => s + rk e.1 + rk e.2) s := by
        intro B
        induction B with
        | nil => intro s q hq; cases hq
        | cons e B ih =>
          intro s q hq
          have hmono : ∀ (B : Arr) (s : Nat), s ≤ B.foldl (fun s e => s + rk e.1 + rk e.2) s := by
            intro B
            induction B with
            | nil => intro s; exact Nat.le_refl _
            | cons e B ih => intro s; exact Nat.le_trans (show s ≤ s + rk e.1 + rk e.2 by omega) (ih _)
          rw [List.foldl_cons]
          rcases List.mem_cons.mp hq with rfl | h9
          · have := hmono B (s + rk q.1 + rk q.2); omega
          · have := ih (s + rk e.1 + rk e.2) q h9; omega
      have hbq := hb A 0 q hq
      have n1 := hs q hq
      by_cases hc : q.1 = p ∨ q.2 = p
      · have hc2 := hc.resolve_left n1
        rw [if_pos hc]
        show (if q.1 = p then _ else rk q.1) < (if q.2 = p then _ else rk q.2)
        rw [if_neg n1, if_pos hc2]
        omega
      · rw [if_neg hc]
        have n2 : ¬ q.2 = p := fun z => hc (Or.inr z)
        show (if q.2 = p then _ else rk q.2) < (if q.1 = p then _ else rk q.1)
        rw [if_neg n1, if_neg n2]
        exact hr
    · -- a source: it goes to the bottom
      refine ⟨fun w => if w = p then 0 else rk w + 1, fun e he => ?_⟩
      obtain ⟨q, hq, rfl⟩ := List.mem_map.mp he
      have hr := h3 q hq
      have n2 := hs q hq
      by_cases hc : q.1 = p ∨ q.2 = p
      · have hc1 := hc.resolve_right n2
        rw [if_pos hc]
        show (if q.1 = p then 0 else rk q.1 + 1) < (if q.2 = p then 0 else rk q.2 + 1)
        rw [if_pos hc1, if_neg n2]
        omega
      · rw [if_neg hc]
        have n1 : ¬ q.1 = p := fun z => hc (Or.inl z)
        show (if q.2 = p then 0 else rk q.2 + 1) < (if q.1 = p then 0 else rk q.1 + 1)
        rw [if_neg n1, if_neg n2]
        omega

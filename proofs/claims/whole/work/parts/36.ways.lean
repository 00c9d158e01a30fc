/-! ===== the class learns the ways ===== -/
theorem loop_find {ρ : Type} (F : Nat → Nat → Option ρ) (N : Nat) (p : Nat → Bool) (yes : Nat → Option ρ) (no : Option ρ) (hstep : ∀ m j, j < N → p j = false → F (m + 1) j = F m (j + 1)) (hyes : ∀ m j, j < N → p j = true → F (m + 1) j = yes j) (hend : ∀ m, F (m + 1) N = no) {f : Nat} (hf : N < f) : (∃ k, k < N ∧ (∀ j, j < k → p j = false) ∧ p k = true ∧ F f 0 = yes k) ∨ ((∀ j, j < N → p j = false) ∧ F f 0 = no) := by
  rcases first_bad (p := fun j => p j = false) N with h | ⟨k, k1, k2, k3⟩
  · exact Or.inr ⟨h, loop_u (fun m (_ : Unit) j => F m j) (fun _ => no) N (fun _ s => s) () (fun m j _ hj => hstep m j hj (h j hj)) (fun m _ => hend m) f hf⟩
  · have k3' : p k = true := by simpa using k3
    exact Or.inl ⟨k, k1, k2, k3', loop_u (fun m (_ : Unit) j => F m j) (fun _ => yes k) k (fun _ s => s) () (fun m j _ hj => hstep m j (by omega) (k2 j hj)) (fun m _ => hyes m k k1 k3') f (by omega)⟩
theorem goT_at {A : Arr} {p b : Nat} : goT A p b = true ↔ ∃ j, j < A.length ∧ fr A j = p ∧ b.testBit (tt A j) = true := by
  rw [goT_iff]
  constructor
  · rintro ⟨e, he, h1, h2⟩
    obtain ⟨j, hj, hje⟩ := List.getElem_of_mem he
    have hg := ft_get hj
    rw [List.getElem?_eq_getElem hj, hje] at hg
    have h3 : e = (fr A j, tt A j) := Option.some.inj hg
    rw [h3] at h1 h2
    exact ⟨j, hj, h1, h2⟩
  · rintro ⟨j, hj, h1, h2⟩
    exact ⟨(fr A j, tt A j), List.mem_of_getElem? (ft_get hj), h1, h2⟩
section WAYS
variable {M M' : Mem} {n : Nat} {A : Arr} {x : Row}
theorem x6_goesInto (hq : CQ M 1 n A x) (hA : OKA n A) (hn : n ≤ 6) (p : Nat) (hp : p < n) (b : Nat) (hb : b < 64) : f_X6_goesInto (nI p) (nI b) M = some (if goT A p b then 1 else 0) := by
  have hl := hA.1
  have h := loop_find (fun m j => f_X6_goesInto_2 (nI p) (nI b) M (fun _ => some 0) m (nI j)) A.length (fun j => fr A j == p && b.testBit (tt A j)) (fun _ => some 1) (some 0) (fun m j hj hf => ?_) (fun m j hj hf => ?_) (fun m => ?_) (f := FU) (FU_gt (by omega))
  · rcases h with ⟨k, k1, k2, k3, k4⟩ | ⟨k1, k2⟩
    · rw [Bool.and_eq_true] at k3
      rw [goT_at.mpr ⟨k, k1, by simpa using k3.1, k3.2⟩]
      exact k4
    · have : goT A p b = false := by
        cases hg : goT A p b with
        | false => rfl
        | true =>
          obtain ⟨j, j1, j2, j3⟩ := goT_at.mp hg
          have := k1 j j1
          rw [j2, j3] at this
          simp at this
      rw [this]
      exact k2
  · have ht := hA.at j hj
    have a1 := hq.at j hj
    have a11 : M 2 j = nI (fr A j) := a1.1
    have a12 : M 3 j = nI (tt A j) := a1.2
    have a13 : M 1 1 = nI A.length := hq.2.1
    simp (disch := omega) only [ef_X6_goesInto_2, s_X6_goesInto_2, a11, a12, a13, bA, iL, iT, iE, iN, iZ, i0, cl, nL, yL, nT, yT, s1_i, ad_i, z0, c0, la_1, la_2, la_11, la_12, la_21, la_22, la_27, la_54, la_10, la_243, ml_4, ml_6, ml_27, ml_10, ml_3, false_or, or_false, true_or, or_true, or_self, if_false, if_true, not_true, not_false_iff, bs, lt_p]
    by_cases h1 : fr A j = p
    · rw [h1] at hf
      have h2 : b.testBit (tt A j) = false := by simpa using hf
      rw [if_pos h1, if_pos h2]
    · rw [if_neg h1]
  · have ht := hA.at j hj
    have a1 := hq.at j hj
    have a11 : M 2 j = nI (fr A j) := a1.1
    have a12 : M 3 j = nI (tt A j) := a1.2
    have a13 : M 1 1 = nI A.length := hq.2.1
    rw [Bool.and_eq_true] at hf
    have h1 : fr A j = p := by simpa using hf.1
    simp (disch := omega) only [ef_X6_goesInto_2, s_X6_goesInto_2, a11, a12, a13, bA, iL, iT, iE, iN, iZ, i0, cl, nL, yL, nT, yT, s1_i, ad_i, z0, c0, la_1, la_2, la_11, la_12, la_21, la_22, la_27, la_54, la_10, la_243, ml_4, ml_6, ml_27, ml_10, ml_3, false_or, or_false, true_or, or_true, or_self, if_false, if_true, not_true, not_false_iff, bs, lt_p]
    rw [if_pos h1, if_neg (by rw [hf.2]; simp)]
  · have a13 : M 1 1 = nI A.length := hq.2.1
    simp (disch := omega) only [ef_X6_goesInto_2, s_X6_goesInto_2, a13, iL, iT, iE, iN, iZ, i0, cl, nL, yL, nT, yT, s1_i, ad_i, z0, c0, la_1, la_2, la_11, la_12, la_21, la_22, la_27, la_54, la_10, la_243, ml_4, ml_6, ml_27, ml_10, ml_3, false_or, or_false, true_or, or_true, or_self, if_false, if_true, not_true, not_false_iff, bs, lt_p]
theorem x6_leastReady (hq : CQ M 1 n A x) (hA : OKA n A) (hn : n ≤ 6) (b : Nat) (hb : b < 64) : f_X6_leastReady (nI b) M = some (nI (rdy n A b)) := by
  have a10 : M 1 0 = nI n := hq.1
  have h := loop_find (fun m j => f_X6_leastReady_2 (nI b) M (fun _ => some 0) m (nI j)) n (fun j => b.testBit j && !goT A j b) (fun k => some (nI k)) (some 0) (fun m j hj hf => ?_) (fun m j hj hf => ?_) (fun m => ?_) (f := FU) (FU_gt (by omega))
  · rcases h with ⟨k, k1, k2, k3, k4⟩ | ⟨k1, k2⟩
    · rw [rdy_at k1 k3 k2]
      exact k4
    · have : rdy n A b = 0 := by
        unfold rdy
        rw [List.find?_eq_none.mpr (fun j hj => by rw [k1 j (by simpa using hj)]; simp)]
        rfl
      rw [this]
      exact k2
  · simp (disch := omega) only [ef_X6_leastReady_2, s_X6_leastReady_2, a10, bA, x6_goesInto hq hA hn j hj b hb, iL, iT, iE, iN, iZ, i0, cl, nL, yL, nT, yT, s1_i, ad_i, z0, c0, la_1, la_2, la_11, la_12, la_21, la_22, la_27, la_54, la_10, la_243, ml_4, ml_6, ml_27, ml_10, ml_3, false_or, or_false, true_or, or_true, or_self, if_false, if_true, not_true, not_false_iff, bs, lt_p]
    cases h1 : b.testBit j with
    | false => rw [if_pos rfl]
    | true =>
      rw [h1] at hf
      have h2 : goT A j b = true := by simpa using hf
      rw [if_neg (by simp), h2]
      rfl
  · simp (disch := omega) only [ef_X6_leastReady_2, s_X6_leastReady_2, a10, bA, x6_goesInto hq hA hn j hj b hb, iL, iT, iE, iN, iZ, i0, cl, nL, yL, nT, yT, s1_i, ad_i, z0, c0, la_1, la_2, la_11, la_12, la_21, la_22, la_27, la_54, la_10, la_243, ml_4, ml_6, ml_27, ml_10, ml_3, false_or, or_false, true_or, or_true, or_self, if_false, if_true, not_true, not_false_iff, bs, lt_p]
    rw [Bool.and_eq_true] at hf
    have h2 : goT A j b = false := by simpa using hf.2
    rw [hf.1, h2, if_neg (by simp)]
    rfl
  · simp (disch := omega) only [ef_X6_leastReady_2, s_X6_leastReady_2, a10, iL, iT, iE, iN, iZ, i0, cl, nL, yL, nT, yT, s1_i, ad_i, z0, c0, la_1, la_2, la_11, la_12, la_21, la_22, la_27, la_54, la_10, la_243, ml_4, ml_6, ml_27, ml_10, ml_3, false_or, or_false, true_or, or_true, or_self, if_false, if_true, not_true, not_false_iff, bs, lt_p]
/-- how far the row of p has been added up -/
def pf (M : Mem) (A : Arr) (p j q : Nat) : Int32 := fo (fun k s => if fr A k = p then s + M (51 + tt A k) q else s) j (if p = q then 1 else 0)
theorem x6_findPaths (hq : CQ M 1 n A x) (hA : OKA n A) (hn : n ≤ 6) (p : Nat) (hp : p < n) : ∃ M', f_X6_findPathsFrom (nI p) M = some M' ∧ (∀ c, c ≠ 51 + p → M' c = M c) ∧ ∀ q, q < n → M' (51 + p) q = pf M A p A.length q := by
  have hl := hA.1
  have hnl : ∀ j, j < A.length → fr A j = p → tt A j ≠ p := fun j hj h1 h2 => by
    obtain ⟨_, _, rk, h3⟩ := hA
    have : rk (tt A j) < rk (fr A j) := h3 _ (List.mem_of_getElem? (ft_get hj))
    rw [h1, h2] at this
    omega
  -- the row is made new
  have hst1 : ∀ (kk : Int32 → Mem → Option Mem) (f i : Nat) (M1 : Mem), i < 6 → ((∀ c, c ≠ 51 + p → M1 c = M c) ∧ ∀ q, q < i → M1 (51 + p) q = if p = q then 1 else 0) → ∃ M', ((∀ c, c ≠ 51 + p → M' c = M c) ∧ ∀ q, q < i + 1 → M' (51 + p) q = if p = q then 1 else 0) ∧ f_X6_findPathsFrom_2 (nI p) kk (f + 1) (nI i) M1 = f_X6_findPathsFrom_2 (nI p) kk f (nI (i + 1)) M' := by
    intro kk f i M1 hi hI
    refine ⟨um M1 (51 + p) i (if p = i then 1 else 0), ⟨fun c hc => by rw [um_a hc]; exact hI.1 c hc, fun q hq => ?_⟩, ?_⟩
    · by_cases hqi : q = i
      · subst hqi; rw [um_s]
      · rw [um_k hqi]; exact hI.2 q (by omega)
    · simp (disch := omega) only [ef_X6_findPathsFrom_2, s_X6_findPathsFrom_2, e6y hi, iL, iT, iE, iN, iZ, i0, cl, nL, yL, nT, yT, s1_i, ad_i, z0, c0, la_1, la_2, la_11, la_12, la_21, la_22, la_27, la_54, la_10, la_243, ml_4, ml_6, ml_27, ml_10, ml_3, false_or, or_false, true_or, or_true, or_self, if_false, if_true, not_true, not_false_iff, bs, lt_p]
      by_cases h : i = p
      · rw [if_pos h, if_pos h.symm]
      · rw [if_neg h, if_neg (fun z => h z.symm)]
  -- one arrow
  have hst2 : ∀ (kk : Int32 → Mem → Option Mem) (M1 : Mem) (j : Nat) (hj : j < A.length) (h1 : M1 1 0 = nI n) (h2 : M1 3 j = nI (tt A j)) (hne : tt A j ≠ p) (hn0 : fr A j = p), ∃ M', f_X6_findPathsFrom_55 (nI p) (nI j) kk FU 0 M1 = kk (nI n) M' ∧ (∀ c, c ≠ 51 + p → M' c = M1 c) ∧ ∀ q, q < n → M' (51 + p) q = M1 (51 + p) q + M1 (51 + tt A j) q := by
    intro kk M1 j hj h1 h2 hne hn0
    have ht := hA.at j hj
    have hst : ∀ (f i : Nat) (M2 : Mem), i < n → ((∀ c, c ≠ 51 + p → M2 c = M1 c) ∧ (∀ q, q < i → M2 (51 + p) q = M1 (51 + p) q + M1 (51 + tt A j) q) ∧ ∀ q, i ≤ q → M2 (51 + p) q = M1 (51 + p) q) → ∃ M', ((∀ c, c ≠ 51 + p → M' c = M1 c) ∧ (∀ q, q < i + 1 → M' (51 + p) q = M1 (51 + p) q + M1 (51 + tt A j) q) ∧ ∀ q, i + 1 ≤ q → M' (51 + p) q = M1 (51 + p) q) ∧ f_X6_findPathsFrom_55 (nI p) (nI j) kk (f + 1) (nI i) M2 = f_X6_findPathsFrom_55 (nI p) (nI j) kk f (nI (i + 1)) M' := by
      intro f i M2 hi hI
      obtain ⟨i1, i2, i3⟩ := hI
      refine ⟨um M2 (51 + p) i (M2 (51 + p) i + M2 (51 + tt A j) i), ⟨fun c hc => by rw [um_a hc]; exact i1 c hc, fun q hq => ?_, fun q hq => ?_⟩, ?_⟩
      · by_cases hqi : q = i
        · subst hqi; rw [um_s, i3 q (Nat.le_refl _), i1 _ (by omega)]
        · rw [um_k hqi]; exact i2 q (by omega)
      · rw [um_k (by omega)]; exact i3 q (by omega)
      · have b1 : M2 1 0 = nI n := by rw [i1 1 (by omega)]; exact h1
        have b2 : M2 3 j = nI (tt A j) := by rw [i1 3 (by omega)]; exact h2
        simp (disch := omega) only [ef_X6_findPathsFrom_55, s_X6_findPathsFrom_55, b1, b2, iL, iT, iE, iN, iZ, i0, cl, nL, yL, nT, yT, s1_i, ad_i, z0, c0, la_1, la_2, la_11, la_12, la_21, la_22, la_27, la_54, la_10, la_243, ml_4, ml_6, ml_27, ml_10, ml_3, false_or, or_false, true_or, or_true, or_self, if_false, if_true, not_true, not_false_iff, bs, lt_p]
    obtain ⟨f', M2, ⟨g1, g2, g3⟩, g4⟩ := loop_M (fun f M i => f_X6_findPathsFrom_55 (nI p) (nI j) kk f (nI i) M) n (fun i M2 => (∀ c, c ≠ 51 + p → M2 c = M1 c) ∧ (∀ q, q < i → M2 (51 + p) q = M1 (51 + p) q + M1 (51 + tt A j) q) ∧ ∀ q, i ≤ q → M2 (51 + p) q = M1 (51 + p) q) hst n 0 M1 (by omega) ⟨fun _ _ => rfl, fun q hq => by omega, fun _ _ => rfl⟩ FU (FU_gt (by omega))
    refine ⟨M2, ?_, g1, g2⟩
    refine Eq.trans g4 ?_
    have b1 : M2 1 0 = nI n := by rw [g1 1 (by omega)]; exact h1
    simp (disch := omega) only [ef_X6_findPathsFrom_55, s_X6_findPathsFrom_55, b1, iL, iT, iE, iN, iZ, i0, cl, nL, yL, nT, yT, s1_i, ad_i, z0, c0, la_1, la_2, la_11, la_12, la_21, la_22, la_27, la_54, la_10, la_243, ml_4, ml_6, ml_27, ml_10, ml_3, false_or, or_false, true_or, or_true, or_self, if_false, if_true, not_true, not_false_iff, bs, lt_p]
  -- all arrows
  have hst3 : ∀ (kk : Int32 → Mem → Option Mem) (f j : Nat) (M1 : Mem), j < A.length → ((∀ c, c ≠ 51 + p → M1 c = M c) ∧ ∀ q, q < n → M1 (51 + p) q = pf M A p j q) → ∃ M', ((∀ c, c ≠ 51 + p → M' c = M c) ∧ ∀ q, q < n → M' (51 + p) q = pf M A p (j + 1) q) ∧ f_X6_findPathsFrom_34 (nI p) kk (f + 1) (nI j) M1 = f_X6_findPathsFrom_34 (nI p) kk f (nI (j + 1)) M' := by
    intro kk f j M1 hj hI
    obtain ⟨i1, i2⟩ := hI
    have ht := hA.at j hj
    have a1 := hq.at j hj
    have a11 : M1 2 j = nI (fr A j) := by rw [i1 2 (by omega)]; exact a1.1
    have a12 : M1 3 j = nI (tt A j) := by rw [i1 3 (by omega)]; exact a1.2
    have a13 : M1 1 1 = nI A.length := by rw [i1 1 (by omega)]; exact hq.2.1
    have a10 : M1 1 0 = nI n := by rw [i1 1 (by omega)]; exact hq.1
    by_cases h1 : fr A j = p
    · obtain ⟨M2, g1, g2, g3⟩ := hst2 (fun (_ : Int32) (M5 : Mem) => f_X6_findPathsFrom_34 (nI p) kk f (nI (j + 1)) M5) M1 j hj a10 a12 (hnl j hj h1) h1
      refine ⟨M2, ⟨fun c hc => by rw [g2 c hc, i1 c hc], fun q hq => ?_⟩, ?_⟩
      · rw [g3 q hq, i2 q hq, i1 (51 + tt A j) (by have := hnl j hj h1; omega)]
        unfold pf
        rw [fo_s, if_pos h1]
      · simp (disch := omega) only [ef_X6_findPathsFrom_34, s_X6_findPathsFrom_34, a11, a13, h1, iL, iT, iE, iN, iZ, i0, cl, nL, yL, nT, yT, s1_i, ad_i, z0, c0, la_1, la_2, la_11, la_12, la_21, la_22, la_27, la_54, la_10, la_243, ml_4, ml_6, ml_27, ml_10, ml_3, false_or, or_false, true_or, or_true, or_self, if_false, if_true, not_true, not_false_iff, bs, lt_p]
        exact g1
    · refine ⟨M1, ⟨i1, fun q hq => ?_⟩, ?_⟩
      · rw [i2 q hq]
        unfold pf
        rw [fo_s, if_neg h1]
      · simp (disch := omega) only [ef_X6_findPathsFrom_34, s_X6_findPathsFrom_34, a11, a13, h1, iL, iT, iE, iN, iZ, i0, cl, nL, yL, nT, yT, s1_i, ad_i, z0, c0, la_1, la_2, la_11, la_12, la_21, la_22, la_27, la_54, la_10, la_243, ml_4, ml_6, ml_27, ml_10, ml_3, false_or, or_false, true_or, or_true, or_self, if_false, if_true, not_true, not_false_iff, bs, lt_p]
  obtain ⟨f1, M1, ⟨g1, g2⟩, g3⟩ := loop_M (fun f M i => f_X6_findPathsFrom_2 (nI p) (fun (i3_1 : Int32) (M2 : Mem) =>
    f_X6_findPathsFrom_34 (nI p) (fun (i3_3 : Int32) (M4 : Mem) =>
      some M4) FU 0 M2) f (nI i) M) 6 (fun i M1 => (∀ c, c ≠ 51 + p → M1 c = M c) ∧ ∀ q, q < i → M1 (51 + p) q = if p = q then 1 else 0) (hst1 _) 6 0 M (by omega) ⟨fun _ _ => rfl, fun q hq => by omega⟩ FU (FU_gt (by omega))
  obtain ⟨f2, M2, ⟨k1, k2⟩, k3⟩ := loop_M (fun f M i => f_X6_findPathsFrom_34 (nI p) (fun (i3_3 : Int32) (M4 : Mem) =>
      some M4) f (nI i) M) A.length (fun j M1 => (∀ c, c ≠ 51 + p → M1 c = M c) ∧ ∀ q, q < n → M1 (51 + p) q = pf M A p j q) (hst3 _) A.length 0 M1 (by omega) ⟨g1, fun q hq => g2 q (by omega)⟩ FU (FU_gt (by omega))
  refine ⟨M2, ?_, k1, k2⟩
  refine Eq.trans g3 ?_
  simp only [ef_X6_findPathsFrom_2, s_X6_findPathsFrom_2, e6n, if_true]
  refine Eq.trans k3 ?_
  have a13 : M2 1 1 = nI A.length := by rw [k1 1 (by omega)]; exact hq.2.1
  simp (disch := omega) only [ef_X6_findPathsFrom_34, s_X6_findPathsFrom_34, a13, iL, iT, iE, iN, iZ, i0, cl, nL, yL, nT, yT, s1_i, ad_i, z0, c0, la_1, la_2, la_11, la_12, la_21, la_22, la_27, la_54, la_10, la_243, ml_4, ml_6, ml_27, ml_10, ml_3, false_or, or_false, true_or, or_true, or_self, if_false, if_true, not_true, not_false_iff, bs, lt_p]
theorem x6_learn (hq : CQ M 1 n A x) (hA : OKA n A) (hn : n ≤ 6) : ∃ M', f_X6_learn M = some M' ∧ (∀ c, (c < 48 ∨ 56 < c) → M' c = M c) ∧ WaysOK M' n A := by
  have hl := hA.1
  have h64 := p64 hn
  have hst : ∀ (f i : Nat) (M1 : Mem), i < n → ((∀ c, (c < 48 ∨ 56 < c) → M1 c = M c) ∧ ∀ j, j < i → M1 48 j = nI (ord n A j) ∧ M1 49 (ord n A j) = nI j ∧ ∀ q, q < n → M1 (51 + ord n A j) q = pth A (ord n A j) q) → ∃ M', ((∀ c, (c < 48 ∨ 56 < c) → M' c = M c) ∧ ∀ j, j < i + 1 → M' 48 j = nI (ord n A j) ∧ M' 49 (ord n A j) = nI j ∧ ∀ q, q < n → M' (51 + ord n A j) q = pth A (ord n A j) q) ∧ f_X6_learn_11 (fun (_ : Int32) (_ : Int32) (M4 : Mem) => some M4) (f + 1) (nI (lft n A i)) (nI i) M1 = f_X6_learn_11 (fun (_ : Int32) (_ : Int32) (M4 : Mem) => some M4) f (nI (lft n A (i + 1))) (nI (i + 1)) M' := by
    intro f i M1 hi hI
    obtain ⟨i1, i2⟩ := hI
    have hq1 : CQ M1 1 n A x := hq.on (fun b _ _ => i1 b (by omega))
    have hlf := lft_ok hA hn i (by omega)
    obtain ⟨o1, o2, o3, o4⟩ := ord_ok hA hn hi
    have r1 := x6_leastReady hq1 hA hn (lft n A i) (by omega)
    have r1' : f_X6_leastReady (nI (lft n A i)) M1 = some (nI (ord n A i)) := r1
    have hq2 : CQ (um (um M1 48 i (nI (ord n A i))) 49 (ord n A i) (nI i)) 1 n A x := hq1.on (fun b _ _ => by rw [um_a (by omega), um_a (by omega)])
    obtain ⟨M2, g1, g2, g3⟩ := x6_findPaths hq2 hA hn (ord n A i) o1
    have hb := bC (b := lft n A i) (r := ord n A i) (by omega) (by omega) o2
    have a10 : M1 1 0 = nI n := hq1.1
    refine ⟨M2, ⟨fun c hc => by rw [g2 c (by omega), um_a (by omega), um_a (by omega)]; exact i1 c hc, fun j hj => ?_⟩, ?_⟩
    · by_cases hji : j = i
      · subst hji
        refine ⟨by rw [g2 48 (by omega), um_a (by omega), um_s], by rw [g2 49 (by omega), um_s], fun q hq => ?_⟩
        rw [g3 q hq, pth_fix hA hn o1 q]
        have e1 : ∀ k, k < A.length → fr A k = ord n A j → um (um M1 48 j (nI (ord n A j))) 49 (ord n A j) (nI j) (51 + tt A k) q = pth A (tt A k) q := by
          intro k hk hf
          have he : (fr A k, tt A k) ∈ A := List.mem_of_getElem? (ft_get hk)
          have hp := plc_arr hA hn he
          have hp1 : plc n A (tt A k) < plc n A (fr A k) := hp
          rw [hf, plc_ord hA hn hi] at hp1
          have hp2 := plc_lt hA hn (hA.at k hk).2
          rw [um_a (by omega), um_a (by omega)]
          have := (i2 (plc n A (tt A k)) hp1).2.2 q hq
          rw [hp2.2] at this
          exact this
        unfold pf
        rw [fo_congr (g := fun k s => if fr A k = ord n A j then s + pth A (tt A k) q else s) (fun k hk s => by
          by_cases hf : fr A k = ord n A j
          · rw [if_pos hf, if_pos hf, e1 k hk hf]
          · rw [if_neg hf, if_neg hf])]
        exact fo_list (A := A) (g := fun e s => if e.1 = ord n A j then s + pth A e.2 q else s)
      · have hne : ord n A j ≠ ord n A i := fun q => hji (ord_inj hA hn (by omega) hi q)
        obtain ⟨q1, q2, q3⟩ := i2 j (by omega)
        have oj := (ord_ok hA hn (show j < n by omega)).1
        refine ⟨by rw [g2 48 (by omega), um_a (by omega), um_k hji]; exact q1, by rw [g2 49 (by omega), um_k hne, um_a (by omega)]; exact q2, fun q hq => ?_⟩
        rw [g2 _ (by omega), um_a (by omega), um_a (by omega)]
        exact q3 q hq
    · simp (disch := omega) only [ef_X6_learn_11, s_X6_learn_11, a10, r1', hb, g1, iL, iT, iE, iN, iZ, i0, cl, nL, yL, nT, yT, s1_i, ad_i, z0, c0, la_1, la_2, la_11, la_12, la_21, la_22, la_27, la_54, la_10, la_243, ml_4, ml_6, ml_27, ml_10, ml_3, false_or, or_false, true_or, or_true, or_self, if_false, if_true, not_true, not_false_iff, bs, lt_p]
      rfl
  obtain ⟨f', M2, ⟨g1, g2⟩, g3⟩ := loop_M (fun f M i => f_X6_learn_11 (fun (_ : Int32) (_ : Int32) (M4 : Mem) => some M4) f (nI (lft n A i)) (nI i) M) n (fun i M1 => (∀ c, (c < 48 ∨ 56 < c) → M1 c = M c) ∧ ∀ j, j < i → M1 48 j = nI (ord n A j) ∧ M1 49 (ord n A j) = nI j ∧ ∀ q, q < n → M1 (51 + ord n A j) q = pth A (ord n A j) q) hst n 0 M (by omega) ⟨fun _ _ => rfl, fun j hj => by omega⟩ FU (FU_gt (by omega))
  refine ⟨M2, ?_, g1, ⟨fun i hi => (g2 i hi).1, fun p hp => ?_, fun p hp q hq => ?_⟩⟩
  · have a10 : M 1 0 = nI n := hq.1
    have a10' : M2 1 0 = nI n := by rw [g1 1 (by omega)]; exact a10
    unfold f_X6_learn
    rw [a10, bL (by omega), lt_e]
    refine Eq.trans g3 ?_
    simp (disch := omega) only [ef_X6_learn_11, s_X6_learn_11, a10', iL, iT, iE, iN, iZ, i0, cl, nL, yL, nT, yT, s1_i, ad_i, z0, c0, la_1, la_2, la_11, la_12, la_21, la_22, la_27, la_54, la_10, la_243, ml_4, ml_6, ml_27, ml_10, ml_3, false_or, or_false, true_or, or_true, or_self, if_false, if_true, not_true, not_false_iff, bs, lt_p]
  · have := plc_lt hA hn hp
    have h := (g2 _ this.1).2.1
    rw [this.2] at h
    exact h
  · have := plc_lt hA hn hp
    have h := (g2 _ this.1).2.2 q hq
    rw [this.2] at h
    exact h
end WAYS

theorem x8_tells {M : Mem} {n : Nat} {A : Arr} {x : Row} (hq : RQ (M 177) 0 A x) (hA : OKA n A) : ∃ M', f_X8_tellsArrows M = some M' ∧ TO M' A ∧ (∀ c, c ≠ 176 → c ≠ 187 → c ≠ 188 → M' c = M c) ∧ ∀ j, j ≠ 18 → M' 176 j = M 176 j := by
  have hl := hA.1
  have hat := hq.at
  have hst : ∀ (n i : Nat) (M1 : Mem), i < A.length → ((∀ c, c ≠ 176 → c ≠ 187 → c ≠ 188 → M1 c = M c) ∧ (∀ j, j ≠ 18 → M1 176 j = M 176 j) ∧ M1 176 18 = nI A.length ∧ ∀ k, k < i → M1 187 k = nI (fr A k) ∧ M1 188 k = nI (tt A k)) → ∃ M', ((∀ c, c ≠ 176 → c ≠ 187 → c ≠ 188 → M' c = M c) ∧ (∀ j, j ≠ 18 → M' 176 j = M 176 j) ∧ M' 176 18 = nI A.length ∧ ∀ k, k < i + 1 → M' 187 k = nI (fr A k) ∧ M' 188 k = nI (tt A k)) ∧ f_X8_tellsArrows_12 (fun (_ : Int32) (M2 : Mem) => some M2) (n + 1) (nI i) M1 = f_X8_tellsArrows_12 (fun (_ : Int32) (M2 : Mem) => some M2) n (nI (i + 1)) M' := by
    intro n i M1 hi hI
    obtain ⟨i1, i2, i3, i4⟩ := hI
    have a1 := hat i hi
    rw [Nat.zero_add, Nat.zero_add] at a1
    refine ⟨um (um M1 187 i (nI (fr A i))) 188 i (nI (tt A i)), ⟨fun c c1 c2 c3 => by simp (disch := omega) only [um_a]; exact i1 c c1 c2 c3, fun j hj => by simp (disch := omega) only [um_a]; exact i2 j hj, by simp (disch := omega) only [um_a]; exact i3, fun k hk => ?_⟩, ?_⟩
    · by_cases hki : k = i
      · subst hki
        simp (disch := omega) only [um_a, um_s, and_self]
      · simp (disch := omega) only [um_a, um_k]
        exact i4 k (by omega)
    · simp (disch := omega) only [ef_X8_tellsArrows_12, s_X8_tellsArrows_12, i3, um_a, i1 177 (by omega) (by omega) (by omega), a1.1, a1.2, iL, iT, iE, iN, iZ, i0, cl, nL, yL, nT, yT, s1_i, ad_i, z0, c0, la_1, la_2, la_11, la_12, la_21, la_22, la_27, la_54, la_10, la_243, ml_4, ml_6, ml_27, ml_10, ml_3, false_or, or_false, true_or, or_true, or_self, if_false, if_true, not_true, not_false_iff, Option.bind_some, lt]
  obtain ⟨f', M2, ⟨g1, g2, g3, g4⟩, g5⟩ := loop_M (fun f M i => f_X8_tellsArrows_12 (fun (_ : Int32) (M2 : Mem) => some M2) f (nI i) M) A.length (fun i M1 => (∀ c, c ≠ 176 → c ≠ 187 → c ≠ 188 → M1 c = M c) ∧ (∀ j, j ≠ 18 → M1 176 j = M 176 j) ∧ M1 176 18 = nI A.length ∧ ∀ k, k < i → M1 187 k = nI (fr A k) ∧ M1 188 k = nI (tt A k)) hst A.length 0 (um M 176 18 (nI A.length)) (by omega) ⟨fun c c1 _ _ => um_a c1, fun j hj => um_k hj, um_s, fun k hk => by omega⟩ FU (FU_gt (by omega))
  refine ⟨M2, ?_, ⟨g3, g4⟩, g1, g2⟩
  simp (disch := omega) only [f_X8_tellsArrows, hq.1, iL, iT, iE, iN, iZ, i0, cl, nL, yL, nT, yT, s1_i, ad_i, z0, c0, la_1, la_2, la_11, la_12, la_21, la_22, la_27, la_54, la_10, la_243, ml_4, ml_6, ml_27, ml_10, ml_3, false_or, or_false, true_or, or_true, or_self, if_false, if_true, not_true, not_false_iff, Option.bind_some, lt]
  refine Eq.trans g5 ?_
  simp (disch := omega) only [ef_X8_tellsArrows_12, s_X8_tellsArrows_12, g3, iL, iT, iE, iN, iZ, i0, cl, nL, yL, nT, yT, s1_i, ad_i, z0, c0, la_1, la_2, la_11, la_12, la_21, la_22, la_27, la_54, la_10, la_243, ml_4, ml_6, ml_27, ml_10, ml_3, false_or, or_false, true_or, or_true, or_self, if_false, if_true, not_true, not_false_iff, Option.bind_some, lt]
theorem x8_addArrow {M : Mem} {A : Arr} {x : Row} (hq : RQ (M 177) 0 A x) (hA : A.length < 10) (u v : Nat) : ∃ M', f_X8_addArrow (nI u) (nI v) M = some M' ∧ RQ (M' 177) 0 (A ++ [(u, v)]) x ∧ (∀ c, c ≠ 177 → M' c = M c) ∧ ∀ q, 27 ≤ q → M' 177 q = M 177 q := by
  obtain ⟨h1, h2, h3⟩ := hq
  refine ⟨_, by simp (disch := omega) only [f_X8_addArrow, h1, um_k, um_s, iL, iT, iE, iN, iZ, i0, cl, nL, yL, nT, yT, s1_i, ad_i, z0, c0, la_1, la_2, la_11, la_12, la_21, la_22, la_27, la_54, la_10, la_243, ml_4, ml_6, ml_27, ml_10, ml_3, false_or, or_false, true_or, or_true, or_self, if_false, if_true, not_true, not_false_iff, Option.bind_some, lt]; rfl, ⟨?_, fun k p q hk => ?_, fun i hi => ?_⟩, fun c hc => ?_, fun q hq => ?_⟩
  · simp (disch := omega) only [um_s, List.length_append, List.length_cons, List.length_nil]
  · by_cases hk2 : k < A.length
    · rw [List.getElem?_append_left hk2] at hk
      simp (disch := omega) only [um_k]
      exact h2 k p q hk
    · have hk3 := (List.getElem?_eq_some_iff.mp hk).1
      simp at hk3
      have : k = A.length := by omega
      subst this
      simp at hk
      obtain ⟨rfl, rfl⟩ := hk
      simp (disch := omega) only [Nat.zero_add, um_k, um_s, and_self]
  · simp (disch := omega) only [um_k]
    exact h3 i hi
  · simp (disch := omega) only [um_a]
  · simp (disch := omega) only [um_k]
/-- the arrows behind the one that goes, by one -/
theorem x8_cutLoop {M : Mem} {A : Arr} {x : Row} (kk : Int32 → Mem → Option (Int32 × Mem)) (hq : RQ (M 177) 0 A x) (hA : A.length ≤ 10) (j : Nat) (hj : j < A.length) (M0 : Mem) (h0 : M0 = um M 177 0 (nI (A.length - 1))) : ∃ M' z, f_X8_cut_37 (nI j) kk FU (nI j) M0 = kk z M' ∧ RQ (M' 177) 0 (A.eraseIdx j) x ∧ (∀ c, c ≠ 177 → M' c = M c) ∧ ∀ q, 27 ≤ q → M' 177 q = M 177 q := by
  obtain ⟨h1, h2, h3⟩ := hq
  have hst : ∀ (n i : Nat) (M1 : Mem), i < A.length - 1 → (j ≤ i ∧ (∀ c, c ≠ 177 → M1 c = M c) ∧ M1 177 0 = nI (A.length - 1) ∧ (∀ q, 21 ≤ q → M1 177 q = M 177 q) ∧ ∀ k, k < A.length → M1 177 (1 + k) = M 177 (1 + (if j ≤ k ∧ k < i then k + 1 else k)) ∧ M1 177 (11 + k) = M 177 (11 + (if j ≤ k ∧ k < i then k + 1 else k))) → ∃ M', (j ≤ i + 1 ∧ (∀ c, c ≠ 177 → M' c = M c) ∧ M' 177 0 = nI (A.length - 1) ∧ (∀ q, 21 ≤ q → M' 177 q = M 177 q) ∧ ∀ k, k < A.length → M' 177 (1 + k) = M 177 (1 + (if j ≤ k ∧ k < i + 1 then k + 1 else k)) ∧ M' 177 (11 + k) = M 177 (11 + (if j ≤ k ∧ k < i + 1 then k + 1 else k))) ∧ f_X8_cut_37 (nI j) kk (n + 1) (nI i) M1 = f_X8_cut_37 (nI j) kk n (nI (i + 1)) M' := by
    intro n i M1 hi hI
    obtain ⟨i0, i1, i2, i3, i4⟩ := hI
    refine ⟨um (um M1 177 (1 + i) (M1 177 (1 + i + 1))) 177 (11 + i) (M1 177 (11 + i + 1)), ⟨by omega, fun c c1 => by simp (disch := omega) only [um_a]; exact i1 c c1, by simp (disch := omega) only [um_k]; exact i2, fun q hq => by simp (disch := omega) only [um_k]; exact i3 q hq, fun k hk => ?_⟩, ?_⟩
    · by_cases hki : k = i
      · subst hki
        have e1 := i4 (k + 1) (by omega)
        rw [← Nat.add_assoc, ← Nat.add_assoc] at e1
        rw [um_s, um_k (by omega), um_s, e1.1, e1.2, if_neg (by omega), if_pos (by omega)]
        exact ⟨rfl, rfl⟩
      · simp (disch := omega) only [um_k]
        rw [(i4 k hk).1, (i4 k hk).2]
        by_cases hc : j ≤ k ∧ k < i
        · rw [if_pos hc, if_pos (by omega)]; exact ⟨rfl, rfl⟩
        · rw [if_neg hc, if_neg (by omega)]; exact ⟨rfl, rfl⟩
    · simp (disch := omega) only [ef_X8_cut_37, s_X8_cut_37, i2, um_k, iL, iT, iE, iN, iZ, i0, cl, nL, yL, nT, yT, s1_i, ad_i, z0, c0, la_1, la_2, la_11, la_12, la_21, la_22, la_27, la_54, la_10, la_243, ml_4, ml_6, ml_27, ml_10, ml_3, false_or, or_false, true_or, or_true, or_self, if_false, if_true, not_true, not_false_iff, Option.bind_some, lt]
  have hI0 : j ≤ j ∧ (∀ c, c ≠ 177 → M0 c = M c) ∧ M0 177 0 = nI (A.length - 1) ∧ (∀ q, 21 ≤ q → M0 177 q = M 177 q) ∧ ∀ k, k < A.length → M0 177 (1 + k) = M 177 (1 + (if j ≤ k ∧ k < j then k + 1 else k)) ∧ M0 177 (11 + k) = M 177 (11 + (if j ≤ k ∧ k < j then k + 1 else k)) := by
    subst h0
    refine ⟨Nat.le_refl _, fun c hc => um_a hc, um_s, fun q hq => um_k (by omega), fun k hk => ?_⟩
    rw [if_neg (by omega)]
    simp (disch := omega) only [um_k, and_self]
  obtain ⟨f', M2, ⟨g0, g1, g2, g3, g4⟩, g5⟩ := loop_M (fun f M i => f_X8_cut_37 (nI j) kk f (nI i) M) (A.length - 1) (fun i M1 => j ≤ i ∧ (∀ c, c ≠ 177 → M1 c = M c) ∧ M1 177 0 = nI (A.length - 1) ∧ (∀ q, 21 ≤ q → M1 177 q = M 177 q) ∧ ∀ k, k < A.length → M1 177 (1 + k) = M 177 (1 + (if j ≤ k ∧ k < i then k + 1 else k)) ∧ M1 177 (11 + k) = M 177 (11 + (if j ≤ k ∧ k < i then k + 1 else k))) hst (A.length - 1 - j) j M0 (by omega) hI0 FU (FU_gt (by omega))
  refine ⟨M2, nI (A.length - 1), ?_, ⟨?_, fun k u v hk => ?_, fun i hi => ?_⟩, g1, fun q hq => g3 q (by omega)⟩
  · refine Eq.trans g5 ?_
    simp (disch := omega) only [ef_X8_cut_37, s_X8_cut_37, g2, iL, iT, iE, iN, iZ, i0, cl, nL, yL, nT, yT, s1_i, ad_i, z0, c0, la_1, la_2, la_11, la_12, la_21, la_22, la_27, la_54, la_10, la_243, ml_4, ml_6, ml_27, ml_10, ml_3, false_or, or_false, true_or, or_true, or_self, if_false, if_true, not_true, not_false_iff, Option.bind_some, lt]
  · rw [g2, List.length_eraseIdx_of_lt hj]
  · have hkl := (List.getElem?_eq_some_iff.mp hk).1
    rw [List.length_eraseIdx_of_lt hj] at hkl
    rw [Nat.zero_add, Nat.zero_add, (g4 k (by omega)).1, (g4 k (by omega)).2]
    rw [List.getElem?_eraseIdx] at hk
    by_cases hkj : k < j
    · rw [if_pos hkj] at hk
      rw [if_neg (by omega)]
      have := h2 k u v hk
      rw [Nat.zero_add, Nat.zero_add] at this
      exact this
    · rw [if_neg hkj] at hk
      rw [if_pos (by omega)]
      have := h2 (k + 1) u v hk
      rw [Nat.zero_add, Nat.zero_add] at this
      exact this
  · rw [g3 _ (by omega)]
    exact h3 i hi
theorem x8_swapLoop {M : Mem} {n : Nat} {A : Arr} {x : Row} (kk : Int32 → Mem → Option (Int32 × Mem)) (r : Int32) (hq : RQ (M 177) 0 A x) (hA : OKA n A) (hn : n ≤ 6) (p : Nat) (hp : p < n) : ∃ M' z, f_X8_turn_66 (nI p) r kk FU 0 M = kk z M' ∧ RQ (M' 177) 0 (swp A p) x ∧ (∀ c, c ≠ 177 → M' c = M c) ∧ ∀ q, 27 ≤ q → M' 177 q = M 177 q := by
  have hl := hA.1
  have hat := hq.at
  obtain ⟨h1, h2, h3⟩ := hq
  have hst : ∀ (n i : Nat) (M1 : Mem), i < A.length → ((∀ c, c ≠ 177 → M1 c = M c) ∧ M1 177 0 = nI A.length ∧ (∀ q, 21 ≤ q → M1 177 q = M 177 q) ∧ ∀ k, k < A.length → (k < i ∧ (fr A k = p ∨ tt A k = p) → M1 177 (1 + k) = nI (tt A k) ∧ M1 177 (11 + k) = nI (fr A k)) ∧ (¬ (k < i ∧ (fr A k = p ∨ tt A k = p)) → M1 177 (1 + k) = nI (fr A k) ∧ M1 177 (11 + k) = nI (tt A k))) → ∃ M', ((∀ c, c ≠ 177 → M' c = M c) ∧ M' 177 0 = nI A.length ∧ (∀ q, 21 ≤ q → M' 177 q = M 177 q) ∧ ∀ k, k < A.length → (k < i + 1 ∧ (fr A k = p ∨ tt A k = p) → M' 177 (1 + k) = nI (tt A k) ∧ M' 177 (11 + k) = nI (fr A k)) ∧ (¬ (k < i + 1 ∧ (fr A k = p ∨ tt A k = p)) → M' 177 (1 + k) = nI (fr A k) ∧ M' 177 (11 + k) = nI (tt A k))) ∧ f_X8_turn_66 (nI p) r kk (n + 1) (nI i) M1 = f_X8_turn_66 (nI p) r kk n (nI (i + 1)) M' := by
    intro n i M1 hi hI
    obtain ⟨i1, i2, i3, i4⟩ := hI
    have ht := hA.at i hi
    obtain ⟨k1, k2⟩ := (i4 i hi).2 (by omega)
    by_cases hc : fr A i = p ∨ tt A i = p
    · refine ⟨um (um M1 177 (1 + i) (nI (tt A i))) 177 (11 + i) (nI (fr A i)), ⟨fun c hc => by simp (disch := omega) only [um_a]; exact i1 c hc, by simp (disch := omega) only [um_k]; exact i2, fun q hq => by simp (disch := omega) only [um_k]; exact i3 q hq, fun k hk => ?_⟩, ?_⟩
      · by_cases hki : k = i
        · subst hki
          rw [um_s, um_k (by omega), um_s]
          exact ⟨fun _ => ⟨rfl, rfl⟩, fun q => absurd ⟨by omega, hc⟩ q⟩
        · simp (disch := omega) only [um_k]
          exact ⟨fun q => (i4 k hk).1 ⟨by omega, q.2⟩, fun q => (i4 k hk).2 (fun z => q ⟨by omega, z.2⟩)⟩
      · by_cases hc1 : fr A i = p
        · simp (disch := omega) only [ef_X8_turn_66, s_X8_turn_66, i2, k1, k2, um_k, hc1, iL, iT, iE, iN, iZ, i0, cl, nL, yL, nT, yT, s1_i, ad_i, z0, c0, la_1, la_2, la_11, la_12, la_21, la_22, la_27, la_54, la_10, la_243, ml_4, ml_6, ml_27, ml_10, ml_3, false_or, or_false, true_or, or_true, or_self, if_false, if_true, not_true, not_false_iff, Option.bind_some, lt]
        · have hc2 : tt A i = p := hc.resolve_left hc1
          simp (disch := omega) only [ef_X8_turn_66, s_X8_turn_66, i2, k1, k2, um_k, hc2, iL, iT, iE, iN, iZ, i0, cl, nL, yL, nT, yT, s1_i, ad_i, z0, c0, la_1, la_2, la_11, la_12, la_21, la_22, la_27, la_54, la_10, la_243, ml_4, ml_6, ml_27, ml_10, ml_3, false_or, or_false, true_or, or_true, or_self, if_false, if_true, not_true, not_false_iff, Option.bind_some, lt]
          rw [if_neg hc1]
    · refine ⟨M1, ⟨i1, i2, i3, fun k hk => ?_⟩, ?_⟩
      · by_cases hki : k = i
        · subst hki
          exact ⟨fun q => absurd q.2 hc, fun _ => ⟨k1, k2⟩⟩
        · exact ⟨fun q => (i4 k hk).1 ⟨by omega, q.2⟩, fun q => (i4 k hk).2 (fun z => q ⟨by omega, z.2⟩)⟩
      · simp (disch := omega) only [ef_X8_turn_66, s_X8_turn_66, i2, k1, k2, iL, iT, iE, iN, iZ, i0, cl, nL, yL, nT, yT, s1_i, ad_i, z0, c0, la_1, la_2, la_11, la_12, la_21, la_22, la_27, la_54, la_10, la_243, ml_4, ml_6, ml_27, ml_10, ml_3, false_or, or_false, true_or, or_true, or_self, if_false, if_true, not_true, not_false_iff, Option.bind_some, lt]
        rw [if_neg (fun q => hc (Or.inl q)), if_neg (fun q => hc (Or.inr q))]
  obtain ⟨f', M2, ⟨g1, g2, g3, g4⟩, g5⟩ := loop_M (fun f M i => f_X8_turn_66 (nI p) r kk f (nI i) M) A.length (fun i M1 => (∀ c, c ≠ 177 → M1 c = M c) ∧ M1 177 0 = nI A.length ∧ (∀ q, 21 ≤ q → M1 177 q = M 177 q) ∧ ∀ k, k < A.length → (k < i ∧ (fr A k = p ∨ tt A k = p) → M1 177 (1 + k) = nI (tt A k) ∧ M1 177 (11 + k) = nI (fr A k)) ∧ (¬ (k < i ∧ (fr A k = p ∨ tt A k = p)) → M1 177 (1 + k) = nI (fr A k) ∧ M1 177 (11 + k) = nI (tt A k))) hst A.length 0 M (by omega) ⟨fun _ _ => rfl, h1, fun _ _ => rfl, fun k hk => ⟨fun q => by omega, fun _ => by have := hat k hk; rw [Nat.zero_add, Nat.zero_add] at this; exact this⟩⟩ FU (FU_gt (by omega))
  refine ⟨M2, nI A.length, ?_, ⟨by rw [g2]; simp [swp], fun k u v hk => ?_, fun i hi => by rw [g3 _ (by omega)]; exact h3 i hi⟩, g1, fun q hq => g3 q (by omega)⟩
  · refine Eq.trans g5 ?_
    simp (disch := omega) only [ef_X8_turn_66, s_X8_turn_66, g2, iL, iT, iE, iN, iZ, i0, cl, nL, yL, nT, yT, s1_i, ad_i, z0, c0, la_1, la_2, la_11, la_12, la_21, la_22, la_27, la_54, la_10, la_243, ml_4, ml_6, ml_27, ml_10, ml_3, false_or, or_false, true_or, or_true, or_self, if_false, if_true, not_true, not_false_iff, Option.bind_some, lt]
  · have hkl := (List.getElem?_eq_some_iff.mp hk).1
    have hkl : k < A.length := by simpa [swp] using hkl
    have hk2 : (swp A p)[k]? = some (if fr A k = p ∨ tt A k = p then (tt A k, fr A k) else (fr A k, tt A k)) := by
      unfold swp
      rw [List.getElem?_map, ft_get hkl]
      rfl
    rw [hk2] at hk
    rw [Nat.zero_add, Nat.zero_add]
    by_cases hc : fr A k = p ∨ tt A k = p
    · rw [if_pos hc] at hk
      cases hk
      exact (g4 k hkl).1 ⟨hkl, hc⟩
    · rw [if_neg hc] at hk
      cases hk
      exact (g4 k hkl).2 (fun q => hc q.2)
theorem bnd_iff (v : Int32) : (-99 ≤ v ∧ v ≤ 99) ↔ (-99 ≤ v.toInt ∧ v.toInt ≤ 99) := by
  rw [fa_le, fa_le]
  exact Iff.rfl
/-- the row in hand becomes what it would be, if it is within its bounds -/
theorem x8_becomesY {M : Mem} {n : Nat} {A : Arr} {x y : Row} {P : List (Arr × Row)} (hn : M 176 0 = nI n) (hn6 : n ≤ 6) (hq : RQ (M 177) 0 A x) (hA : A.length ≤ 10) (hP : MP M P) (h8 : P.length ≤ 8) (hPA : ∀ e ∈ P, e.1.length ≤ 10) (hy : ∀ i, i < 6 → M 193 i = y i) (hx0 : ∀ i, n ≤ i → i < 6 → x i = y i) (hb : ∀ i, i < n → -99 ≤ (y i).toInt ∧ (y i).toInt ≤ 99) : ∃ M', f_X8_becomes M = some (1, M') ∧ RQ (M' 177) 0 A y ∧ MP M' (psh P (A, x)) ∧ (∀ c, c ≠ 176 → c ≠ 177 → M' c = M c) ∧ (∀ j, j ≠ 2 → M' 176 j = M 176 j) ∧ ∀ q, 243 ≤ q → M' 177 q = M 177 q := by
  obtain ⟨M1, k1, k2, k3, k4, k5⟩ := x8_keepPast hq hA hP h8 hPA
  have h1 := loop_u (fun m (_ : Unit) j => f_X8_becomes_4 M (fun (i1_1 : Int32) (i2_2 : Int32) =>
    if i1_1 = 0 then
      if ¬ (i1_1 = 0 ∨ i1_1 = 1) then none else
      some (i1_1, M)
    else
      (f_X8_keepPast M).bind fun (M5 : Mem) =>
      f_X8_becomes_57 i1_1 (fun (i2_6 : Int32) (M7 : Mem) =>
        if ¬ (i1_1 = 0 ∨ i1_1 = 1) then none else
        some (i1_1, M7)) FU 0 M5) m 1 (nI j)) (fun _ => f_X8_becomes_57 1 (fun (i2_6 : Int32) (M7 : Mem) => some (1, M7)) FU 0 M1) n (fun _ u => u) () (fun m j u hj => by
      have hb2 := (bnd_iff (M 193 j)).mpr (by rw [hy j (by omega)]; exact hb j hj)
      have e10 : ¬ (1 : Int32) = 0 := by decide
      simp (disch := omega) only [ef_X8_becomes_4, s_X8_becomes_4, hn, e10, x8_inY (L := -99) (lo := -99) (H := 99) (hi := 99) (by decide) (by decide) hb2, iL, iT, iE, iN, iZ, i0, cl, nL, yL, nT, yT, s1_i, ad_i, z0, c0, la_1, la_2, la_11, la_12, la_21, la_22, la_27, la_54, la_10, la_243, ml_4, ml_6, ml_27, ml_10, ml_3, false_or, or_false, true_or, or_true, or_self, if_false, if_true, not_true, not_false_iff, Option.bind_some, lt]) (fun m u => by
      have e10 : ¬ (1 : Int32) = 0 := by decide
      simp (disch := omega) only [ef_X8_becomes_4, s_X8_becomes_4, hn, e10, k1, or_true, iL, iT, iE, iN, iZ, i0, cl, nL, yL, nT, yT, s1_i, ad_i, z0, c0, la_1, la_2, la_11, la_12, la_21, la_22, la_27, la_54, la_10, la_243, ml_4, ml_6, ml_27, ml_10, ml_3, false_or, or_false, true_or, or_true, or_self, if_false, if_true, not_true, not_false_iff, Option.bind_some, lt]) FU (FU_gt (by omega))
  have hst : ∀ (kk : Int32 → Mem → Option (Int32 × Mem)) (m i : Nat) (M2 : Mem), i < n → ((∀ c, c ≠ 177 → M2 c = M1 c) ∧ ∀ q, M2 177 q = if 21 ≤ q ∧ q < 21 + i then y (q - 21) else M1 177 q) → ∃ M', ((∀ c, c ≠ 177 → M' c = M1 c) ∧ ∀ q, M' 177 q = if 21 ≤ q ∧ q < 21 + (i + 1) then y (q - 21) else M1 177 q) ∧ f_X8_becomes_57 1 kk (m + 1) (nI i) M2 = f_X8_becomes_57 1 kk m (nI (i + 1)) M' := by
    intro kk m i M2 hi hI
    obtain ⟨i1, i2⟩ := hI
    refine ⟨um M2 177 (21 + i) (y i), ⟨fun c hc => by rw [um_a hc]; exact i1 c hc, fun q => ?_⟩, ?_⟩
    · by_cases hq : q = 21 + i
      · subst hq
        rw [um_s, if_pos (by omega)]
        congr 1
        omega
      · rw [um_k hq, i2]
        by_cases hc : 21 ≤ q ∧ q < 21 + i
        · rw [if_pos hc, if_pos (by omega)]
        · rw [if_neg hc, if_neg (by omega)]
    · have e1 : M2 176 0 = nI n := by rw [i1 176 (by omega), k4 0 (by omega)]; exact hn
      have e2 : M2 193 i = y i := by rw [i1 193 (by omega), k3 193 (by omega) (by omega)]; exact hy i (by omega)
      simp (disch := omega) only [ef_X8_becomes_57, s_X8_becomes_57, e1, e2, iL, iT, iE, iN, iZ, i0, cl, nL, yL, nT, yT, s1_i, ad_i, z0, c0, la_1, la_2, la_11, la_12, la_21, la_22, la_27, la_54, la_10, la_243, ml_4, ml_6, ml_27, ml_10, ml_3, false_or, or_false, true_or, or_true, or_self, if_false, if_true, not_true, not_false_iff, Option.bind_some, lt]
  obtain ⟨f', M2, ⟨g1, g2⟩, g3⟩ := loop_M (fun f M i => f_X8_becomes_57 1 (fun (_ : Int32) (M7 : Mem) => some (1, M7)) f (nI i) M) n (fun i M2 => (∀ c, c ≠ 177 → M2 c = M1 c) ∧ ∀ q, M2 177 q = if 21 ≤ q ∧ q < 21 + i then y (q - 21) else M1 177 q) (hst _) n 0 M1 (by omega) ⟨fun _ _ => rfl, fun q => by rw [if_neg (by omega)]⟩ FU (FU_gt (by omega))
  have hn2 : M2 176 0 = nI n := by rw [g1 176 (by omega), k4 0 (by omega)]; exact hn
  refine ⟨M2, ?_, ⟨?_, fun k u v hk => ?_, fun i hi => ?_⟩, ⟨?_, fun j e he => ?_⟩, fun c c1 c2 => ?_, fun j hj => ?_, fun q hq => ?_⟩
  · refine Eq.trans h1 (Eq.trans g3 ?_)
    simp (disch := omega) only [ef_X8_becomes_57, s_X8_becomes_57, hn2, iL, iT, iE, iN, iZ, i0, cl, nL, yL, nT, yT, s1_i, ad_i, z0, c0, la_1, la_2, la_11, la_12, la_21, la_22, la_27, la_54, la_10, la_243, ml_4, ml_6, ml_27, ml_10, ml_3, false_or, or_false, true_or, or_true, or_self, if_false, if_true, not_true, not_false_iff, Option.bind_some, lt]
  · rw [g2, if_neg (by omega), k5 0 (by omega)]
    exact hq.1
  · have hkl := (List.getElem?_eq_some_iff.mp hk).1
    rw [g2, if_neg (by omega), k5 _ (by omega), g2, if_neg (by omega), k5 _ (by omega)]
    exact hq.2.1 k u v hk
  · rw [g2]
    by_cases hin : i < n
    · rw [if_pos (by omega)]
      congr 1
      omega
    · rw [if_neg (by omega), k5 _ (by omega), hq.2.2 i hi]
      exact hx0 i (by omega) hi
  · rw [g1 176 (by omega)]
    exact k2.1
  · have hh := k2.2 j e he
    have hl : e.1.length ≤ 10 := by
      rcases psh_at h8 he with ⟨-, rfl⟩ | ⟨-, c2⟩
      · exact hA
      · exact hPA e (List.mem_of_getElem? c2)
    exact hh.mv hl (fun q hq => by rw [g2, if_neg (by omega)])
  · rw [g1 c c2]
    exact k3 c c1 c2
  · rw [g1 176 (by omega)]
    exact k4 j hj
  · rw [g2, if_neg (by omega)]
    exact k5 q (by omega)
theorem x8_becomesN {M : Mem} {n : Nat} {y : Row} (hn : M 176 0 = nI n) (hn6 : n ≤ 6) (hy : ∀ i, i < 6 → M 193 i = y i) (hb : ¬ ∀ i, i < n → -99 ≤ (y i).toInt ∧ (y i).toInt ≤ 99) : f_X8_becomes M = some (0, M) := by
  have h1 := loop_u (fun m (b : Bool) j => f_X8_becomes_4 M (fun (i1_1 : Int32) (i2_2 : Int32) =>
    if i1_1 = 0 then
      if ¬ (i1_1 = 0 ∨ i1_1 = 1) then none else
      some (i1_1, M)
    else
      (f_X8_keepPast M).bind fun (M5 : Mem) =>
      f_X8_becomes_57 i1_1 (fun (i2_6 : Int32) (M7 : Mem) =>
        if ¬ (i1_1 = 0 ∨ i1_1 = 1) then none else
        some (i1_1, M7)) FU 0 M5) m (if b then 1 else 0) (nI j)) (fun b => if b then f_X8_becomes_4 M (fun (i1_1 : Int32) (i2_2 : Int32) =>
    if i1_1 = 0 then
      if ¬ (i1_1 = 0 ∨ i1_1 = 1) then none else
      some (i1_1, M)
    else
      (f_X8_keepPast M).bind fun (M5 : Mem) =>
      f_X8_becomes_57 i1_1 (fun (i2_6 : Int32) (M7 : Mem) =>
        if ¬ (i1_1 = 0 ∨ i1_1 = 1) then none else
        some (i1_1, M7)) FU 0 M5) 1 1 (nI n) else some (0, M)) n (fun j b => b && decide (-99 ≤ (y j).toInt ∧ (y j).toInt ≤ 99)) true (fun m j b hj => by
      have e10 : ¬ (1 : Int32) = 0 := by decide
      cases b
      · simp (disch := omega) only [ef_X8_becomes_4, s_X8_becomes_4, hn, Bool.false_and, if_true, reduceCtorEq, Bool.false_eq_true, iL, iT, iE, iN, iZ, i0, cl, nL, yL, nT, yT, s1_i, ad_i, z0, c0, la_1, la_2, la_11, la_12, la_21, la_22, la_27, la_54, la_10, la_243, ml_4, ml_6, ml_27, ml_10, ml_3, false_or, or_false, true_or, or_true, or_self, if_false, if_true, not_true, not_false_iff, Option.bind_some, lt]
      · by_cases hc : -99 ≤ (y j).toInt ∧ (y j).toInt ≤ 99
        · have hb2 := (bnd_iff (M 193 j)).mpr (by rw [hy j (by omega)]; exact hc)
          simp (disch := omega) only [ef_X8_becomes_4, s_X8_becomes_4, hn, e10, x8_inY (L := -99) (lo := -99) (H := 99) (hi := 99) (by decide) (by decide) hb2, hc, Bool.true_and, decide_true, and_self, iL, iT, iE, iN, iZ, i0, cl, nL, yL, nT, yT, s1_i, ad_i, z0, c0, la_1, la_2, la_11, la_12, la_21, la_22, la_27, la_54, la_10, la_243, ml_4, ml_6, ml_27, ml_10, ml_3, false_or, or_false, true_or, or_true, or_self, if_false, if_true, not_true, not_false_iff, Option.bind_some, lt]
        · have hb2 : ¬ (-99 ≤ M 193 j ∧ M 193 j ≤ 99) := fun q => hc (by have := (bnd_iff (M 193 j)).mp q; rw [hy j (by omega)] at this; exact this)
          simp (disch := omega) only [ef_X8_becomes_4, s_X8_becomes_4, hn, e10, x8_inN (L := -99) (lo := -99) (H := 99) (hi := 99) (by decide) (by decide) hb2, hc, Bool.true_and, decide_false, Bool.false_eq_true, iL, iT, iE, iN, iZ, i0, cl, nL, yL, nT, yT, s1_i, ad_i, z0, c0, la_1, la_2, la_11, la_12, la_21, la_22, la_27, la_54, la_10, la_243, ml_4, ml_6, ml_27, ml_10, ml_3, false_or, or_false, true_or, or_true, or_self, if_false, if_true, not_true, not_false_iff, Option.bind_some, lt]) (fun m b => by
      cases b
      · simp (disch := omega) only [ef_X8_becomes_4, s_X8_becomes_4, hn, Bool.false_eq_true, iL, iT, iE, iN, iZ, i0, cl, nL, yL, nT, yT, s1_i, ad_i, z0, c0, la_1, la_2, la_11, la_12, la_21, la_22, la_27, la_54, la_10, la_243, ml_4, ml_6, ml_27, ml_10, ml_3, false_or, or_false, true_or, or_true, or_self, if_false, if_true, not_true, not_false_iff, Option.bind_some, lt]
      · simp (disch := omega) only [ef_X8_becomes_4, s_X8_becomes_4, hn, iL, iT, iE, iN, iZ, i0, cl, nL, yL, nT, yT, s1_i, ad_i, z0, c0, la_1, la_2, la_11, la_12, la_21, la_22, la_27, la_54, la_10, la_243, ml_4, ml_6, ml_27, ml_10, ml_3, false_or, or_false, true_or, or_true, or_self, if_false, if_true, not_true, not_false_iff, Option.bind_some, lt]) FU (FU_gt (by omega))
  have h2 : fo (fun j b => b && decide (-99 ≤ (y j).toInt ∧ (y j).toInt ≤ 99)) n true = false := by
    cases h3 : fo (fun j b => b && decide (-99 ≤ (y j).toInt ∧ (y j).toInt ≤ 99)) n true with
    | false => rfl
    | true =>
      exfalso
      apply hb
      have : ∀ m, fo (fun j b => b && decide (-99 ≤ (y j).toInt ∧ (y j).toInt ≤ 99)) m true = true → ∀ i, i < m → -99 ≤ (y i).toInt ∧ (y i).toInt ≤ 99 := by
        intro m
        induction m with
        | zero => intro _ i hi; omega
        | succ m ih =>
          intro h i hi
          rw [fo_s, Bool.and_eq_true] at h
          by_cases him : i = m
          · subst him; exact of_decide_eq_true h.2
          · exact ih h.1 i (by omega)
      exact this n h3
  rw [h2] at h1
  exact h1

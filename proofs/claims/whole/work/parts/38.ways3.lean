/-! ===== the reference finds the ways ===== -/
theorem dg6 {i : Nat} (h : i < 36) : (nI i / 6 = nI i - nI i / 6 * 6) ↔ i / 6 = i % 6 := (show ∀ i, i < 36 → ((nI i / 6 = nI i - nI i / 6 * 6) ↔ i / 6 = i % 6) by decide +kernel) i h
theorem e36y {i : Nat} (h : i < 36) : (36 : Int32) ≤ nI i ↔ False := by rw [show (36 : Int32) = nI 36 from rfl, iL (by omega) (by omega)]; exact iff_of_false (by omega) id
theorem e36n : (36 : Int32) ≤ nI 36 ↔ True := iff_of_true (by decide) trivial
section WAYS3
variable {M M' : Mem} {n : Nat} {A A' : Arr} {x x' : Row}
theorem x8_fw2 (kk : Int32 → Mem → Option Mem) : ∃ M', f_X8_findsWays_2 kk FU 0 M = kk 36 M' ∧ (∀ c, c ≠ 183 → M' c = M c) ∧ ∀ q, q < 36 → M' 183 q = 0 := by
  have hst : ∀ (f i : Nat) (M1 : Mem), i < 36 → ((∀ c, c ≠ 183 → M1 c = M c) ∧ ∀ q, q < i → M1 183 q = 0) → ∃ M', ((∀ c, c ≠ 183 → M' c = M c) ∧ ∀ q, q < i + 1 → M' 183 q = 0) ∧ f_X8_findsWays_2 kk (f + 1) (nI i) M1 = f_X8_findsWays_2 kk f (nI (i + 1)) M' := by
    intro f i M1 hi hI
    refine ⟨um M1 183 i 0, ⟨fun c hc => by rw [um_a hc]; exact hI.1 c hc, fun q hq => ?_⟩, ?_⟩
    · by_cases hqi : q = i
      · subst hqi; rw [um_s]
      · rw [um_k hqi]; exact hI.2 q (by omega)
    · simp (disch := omega) only [ef_X8_findsWays_2, s_X8_findsWays_2, e36y hi, iL, iT, iE, iN, iZ, i0, cl, nL, yL, nT, yT, s1_i, ad_i, z0, c0, la_1, la_2, la_11, la_12, la_21, la_22, la_27, la_54, la_10, la_243, ml_4, ml_6, ml_27, ml_10, ml_3, false_or, or_false, true_or, or_true, or_self, if_false, if_true, not_true, not_false_iff, bs, lt_p]
  obtain ⟨f', M2, ⟨g1, g2⟩, g3⟩ := loop_M (fun f M i => f_X8_findsWays_2 kk f (nI i) M) 36 (fun i M1 => (∀ c, c ≠ 183 → M1 c = M c) ∧ ∀ q, q < i → M1 183 q = 0) hst 36 0 M (by omega) ⟨fun _ _ => rfl, fun j hj => by omega⟩ FU (FU_gt (by omega))
  refine ⟨M2, ?_, g1, g2⟩
  refine Eq.trans g3 ?_
  simp only [ef_X8_findsWays_2, s_X8_findsWays_2, e36n, if_true]
  rfl
theorem x8_fw31 (i1 : Int32) (kk : Int32 → Mem → Option Mem) : ∃ M', f_X8_findsWays_31 i1 kk FU 0 M = kk 36 M' ∧ (∀ c, c ≠ 191 → M' c = M c) ∧ ∀ q, q < 36 → M' 191 q = if q / 6 = q % 6 then 1 else 0 := by
  have hst : ∀ (f i : Nat) (M1 : Mem), i < 36 → ((∀ c, c ≠ 191 → M1 c = M c) ∧ ∀ q, q < i → M1 191 q = if q / 6 = q % 6 then 1 else 0) → ∃ M', ((∀ c, c ≠ 191 → M' c = M c) ∧ ∀ q, q < i + 1 → M' 191 q = if q / 6 = q % 6 then 1 else 0) ∧ f_X8_findsWays_31 i1 kk (f + 1) (nI i) M1 = f_X8_findsWays_31 i1 kk f (nI (i + 1)) M' := by
    intro f i M1 hi hI
    refine ⟨um M1 191 i (if i / 6 = i % 6 then 1 else 0), ⟨fun c hc => by rw [um_a hc]; exact hI.1 c hc, fun q hq => ?_⟩, ?_⟩
    · by_cases hqi : q = i
      · subst hqi; rw [um_s]
      · rw [um_k hqi]; exact hI.2 q (by omega)
    · simp (disch := omega) only [ef_X8_findsWays_31, s_X8_findsWays_31, e36y hi, dg6 hi, iL, iT, iE, iN, iZ, i0, cl, nL, yL, nT, yT, s1_i, ad_i, z0, c0, la_1, la_2, la_11, la_12, la_21, la_22, la_27, la_54, la_10, la_243, ml_4, ml_6, ml_27, ml_10, ml_3, false_or, or_false, true_or, or_true, or_self, if_false, if_true, not_true, not_false_iff, bs, lt_p]
      by_cases h : i / 6 = i % 6
      · rw [if_pos h, if_pos h]
      · rw [if_neg h, if_neg h]
  obtain ⟨f', M2, ⟨g1, g2⟩, g3⟩ := loop_M (fun f M i => f_X8_findsWays_31 i1 kk f (nI i) M) 36 (fun i M1 => (∀ c, c ≠ 191 → M1 c = M c) ∧ ∀ q, q < i → M1 191 q = if q / 6 = q % 6 then 1 else 0) hst 36 0 M (by omega) ⟨fun _ _ => rfl, fun j hj => by omega⟩ FU (FU_gt (by omega))
  refine ⟨M2, ?_, g1, g2⟩
  refine Eq.trans g3 ?_
  simp only [ef_X8_findsWays_31, s_X8_findsWays_31, e36n, if_true]
  rfl
theorem x8_fw139 (i1 : Int32) (kk : Int32 → Mem → Option Mem) : ∃ M', f_X8_findsWays_139 i1 kk FU 0 M = kk 36 M' ∧ (∀ c, c ≠ 183 → M' c = M c) ∧ ∀ q, q < 36 → M' 183 q = M 191 q := by
  have hst : ∀ (f i : Nat) (M1 : Mem), i < 36 → ((∀ c, c ≠ 183 → M1 c = M c) ∧ ∀ q, q < i → M1 183 q = M 191 q) → ∃ M', ((∀ c, c ≠ 183 → M' c = M c) ∧ ∀ q, q < i + 1 → M' 183 q = M 191 q) ∧ f_X8_findsWays_139 i1 kk (f + 1) (nI i) M1 = f_X8_findsWays_139 i1 kk f (nI (i + 1)) M' := by
    intro f i M1 hi hI
    refine ⟨um M1 183 i (M1 191 i), ⟨fun c hc => by rw [um_a hc]; exact hI.1 c hc, fun q hq => ?_⟩, ?_⟩
    · by_cases hqi : q = i
      · subst hqi; rw [um_s, hI.1 191 (by omega)]
      · rw [um_k hqi]; exact hI.2 q (by omega)
    · simp (disch := omega) only [ef_X8_findsWays_139, s_X8_findsWays_139, e36y hi, iL, iT, iE, iN, iZ, i0, cl, nL, yL, nT, yT, s1_i, ad_i, z0, c0, la_1, la_2, la_11, la_12, la_21, la_22, la_27, la_54, la_10, la_243, ml_4, ml_6, ml_27, ml_10, ml_3, false_or, or_false, true_or, or_true, or_self, if_false, if_true, not_true, not_false_iff, bs, lt_p]
  obtain ⟨f', M2, ⟨g1, g2⟩, g3⟩ := loop_M (fun f M i => f_X8_findsWays_139 i1 kk f (nI i) M) 36 (fun i M1 => (∀ c, c ≠ 183 → M1 c = M c) ∧ ∀ q, q < i → M1 183 q = M 191 q) hst 36 0 M (by omega) ⟨fun _ _ => rfl, fun j hj => by omega⟩ FU (FU_gt (by omega))
  refine ⟨M2, ?_, g1, g2⟩
  refine Eq.trans g3 ?_
  simp only [ef_X8_findsWays_139, s_X8_findsWays_139, e36n, if_true]
  rfl
/-- one arrow -/
theorem x8_fw79 (i1 : Int32) (kk : Int32 → Mem → Option Mem) (j u v : Nat) (hj : j < 10) (h1 : M 177 (1 + j) = nI u) (h2 : M 177 (11 + j) = nI v) (hu : u < 6) (hv : v < 6) : ∃ M', f_X8_findsWays_79 i1 (nI j) kk FU 0 M = kk 6 M' ∧ (∀ c, c ≠ 191 → M' c = M c) ∧ (∀ q, q < 6 → M' 191 (6 * u + q) = M 191 (6 * u + q) + M 183 (6 * v + q)) ∧ ∀ q, (q < 6 * u ∨ 6 * u + 6 ≤ q) → M' 191 q = M 191 q := by
  have hst : ∀ (f i : Nat) (M1 : Mem), i < 6 → ((∀ c, c ≠ 191 → M1 c = M c) ∧ (∀ q, q < i → M1 191 (6 * u + q) = M 191 (6 * u + q) + M 183 (6 * v + q)) ∧ ∀ q, (q < 6 * u ∨ 6 * u + i ≤ q) → M1 191 q = M 191 q) → ∃ M', ((∀ c, c ≠ 191 → M' c = M c) ∧ (∀ q, q < i + 1 → M' 191 (6 * u + q) = M 191 (6 * u + q) + M 183 (6 * v + q)) ∧ ∀ q, (q < 6 * u ∨ 6 * u + (i + 1) ≤ q) → M' 191 q = M 191 q) ∧ f_X8_findsWays_79 i1 (nI j) kk (f + 1) (nI i) M1 = f_X8_findsWays_79 i1 (nI j) kk f (nI (i + 1)) M' := by
    intro f i M1 hi hI
    obtain ⟨i1', i2, i3⟩ := hI
    refine ⟨um M1 191 (6 * u + i) (M1 191 (6 * u + i) + M1 183 (6 * v + i)), ⟨fun c hc => by rw [um_a hc]; exact i1' c hc, fun q hq => ?_, fun q hq => ?_⟩, ?_⟩
    · by_cases hqi : q = i
      · subst hqi; rw [um_s, i3 _ (by omega), i1' 183 (by omega)]
      · rw [um_k (by omega)]; exact i2 q (by omega)
    · rw [um_k (by omega)]; exact i3 q (by omega)
    · have b1 : M1 177 (1 + j) = nI u := by rw [i1' 177 (by omega)]; exact h1
      have b2 : M1 177 (11 + j) = nI v := by rw [i1' 177 (by omega)]; exact h2
      simp (disch := omega) only [ef_X8_findsWays_79, s_X8_findsWays_79, e6y hi, b1, b2, iL, iT, iE, iN, iZ, i0, cl, nL, yL, nT, yT, s1_i, ad_i, z0, c0, la_1, la_2, la_11, la_12, la_21, la_22, la_27, la_54, la_10, la_243, ml_4, ml_6, ml_27, ml_10, ml_3, false_or, or_false, true_or, or_true, or_self, if_false, if_true, not_true, not_false_iff, bs, lt_p]
  obtain ⟨f', M2, ⟨g1, g2, g3⟩, g4⟩ := loop_M (fun f M i => f_X8_findsWays_79 i1 (nI j) kk f (nI i) M) 6 (fun i M1 => (∀ c, c ≠ 191 → M1 c = M c) ∧ (∀ q, q < i → M1 191 (6 * u + q) = M 191 (6 * u + q) + M 183 (6 * v + q)) ∧ ∀ q, (q < 6 * u ∨ 6 * u + i ≤ q) → M1 191 q = M 191 q) hst 6 0 M (by omega) ⟨fun _ _ => rfl, fun j hj => by omega, fun _ _ => rfl⟩ FU (FU_gt (by omega))
  refine ⟨M2, ?_, g1, g2, g3⟩
  refine Eq.trans g4 ?_
  simp only [ef_X8_findsWays_79, s_X8_findsWays_79, e6n, if_true]
  rfl
/-- all arrows -/
theorem x8_fw67 (i1 : Int32) (kk : Int32 → Mem → Option Mem) (hq : RQ (M 177) 0 A x) (hA : OKA n A) (hn : n ≤ 6) : ∃ M', f_X8_findsWays_67 i1 kk FU 0 M = kk (nI A.length) M' ∧ (∀ c, c ≠ 191 → M' c = M c) ∧ ∀ p, p < 6 → ∀ q, q < 6 → M' 191 (6 * p + q) = A.foldl (fun s e => if e.1 = p then s + M 183 (6 * e.2 + q) else s) (M 191 (6 * p + q)) := by
  have hl := hA.1
  have hst : ∀ (f j : Nat) (M1 : Mem), j < A.length → ((∀ c, c ≠ 191 → M1 c = M c) ∧ ∀ p, p < 6 → ∀ q, q < 6 → M1 191 (6 * p + q) = fo (fun k s => if fr A k = p then s + M 183 (6 * tt A k + q) else s) j (M 191 (6 * p + q))) → ∃ M', ((∀ c, c ≠ 191 → M' c = M c) ∧ ∀ p, p < 6 → ∀ q, q < 6 → M' 191 (6 * p + q) = fo (fun k s => if fr A k = p then s + M 183 (6 * tt A k + q) else s) (j + 1) (M 191 (6 * p + q))) ∧ f_X8_findsWays_67 i1 kk (f + 1) (nI j) M1 = f_X8_findsWays_67 i1 kk f (nI (j + 1)) M' := by
    intro f j M1 hj hI
    obtain ⟨i1', i2⟩ := hI
    have ht := hA.at j hj
    have a := hq.at j hj
    rw [Nat.zero_add, Nat.zero_add] at a
    have b1 : M1 177 (1 + j) = nI (fr A j) := by rw [i1' 177 (by omega)]; exact a.1
    have b2 : M1 177 (11 + j) = nI (tt A j) := by rw [i1' 177 (by omega)]; exact a.2
    have b0 : M1 177 0 = nI A.length := by rw [i1' 177 (by omega)]; exact hq.1
    obtain ⟨M2, g1, g2, g3, g4⟩ := x8_fw79 (M := M1) i1 (fun (_ : Int32) (M4 : Mem) => f_X8_findsWays_67 i1 kk f (nI (j + 1)) M4) j (fr A j) (tt A j) (by omega) b1 b2 (by omega) (by omega)
    refine ⟨M2, ⟨fun c hc => by rw [g2 c hc, i1' c hc], fun p hp q hq => ?_⟩, ?_⟩
    · rw [fo_s]
      by_cases hf : fr A j = p
      · subst hf
        rw [if_pos rfl, g3 q hq, i2 _ hp q hq, i1' 183 (by omega)]
      · rw [if_neg hf, g4 _ (by omega), i2 p hp q hq]
    · simp (disch := omega) only [ef_X8_findsWays_67, s_X8_findsWays_67, b0, iL, iT, iE, iN, iZ, i0, cl, nL, yL, nT, yT, s1_i, ad_i, z0, c0, la_1, la_2, la_11, la_12, la_21, la_22, la_27, la_54, la_10, la_243, ml_4, ml_6, ml_27, ml_10, ml_3, false_or, or_false, true_or, or_true, or_self, if_false, if_true, not_true, not_false_iff, bs, lt_p]
      exact g1
  obtain ⟨f', M2, ⟨g1, g2⟩, g4⟩ := loop_M (fun f M i => f_X8_findsWays_67 i1 kk f (nI i) M) A.length (fun j M1 => (∀ c, c ≠ 191 → M1 c = M c) ∧ ∀ p, p < 6 → ∀ q, q < 6 → M1 191 (6 * p + q) = fo (fun k s => if fr A k = p then s + M 183 (6 * tt A k + q) else s) j (M 191 (6 * p + q))) hst A.length 0 M (by omega) ⟨fun _ _ => rfl, fun p hp q hq => rfl⟩ FU (FU_gt (by omega))
  refine ⟨M2, ?_, g1, fun p hp q hq => ?_⟩
  · refine Eq.trans g4 ?_
    have b0 : M2 177 0 = nI A.length := by rw [g1 177 (by omega)]; exact hq.1
    simp (disch := omega) only [ef_X8_findsWays_67, s_X8_findsWays_67, b0, iL, iT, iE, iN, iZ, i0, cl, nL, yL, nT, yT, s1_i, ad_i, z0, c0, la_1, la_2, la_11, la_12, la_21, la_22, la_27, la_54, la_10, la_243, ml_4, ml_6, ml_27, ml_10, ml_3, false_or, or_false, true_or, or_true, or_self, if_false, if_true, not_true, not_false_iff, bs, lt_p]
  · rw [g2 p hp q hq]
    exact fo_list (A := A) (g := fun e s => if e.1 = p then s + M 183 (6 * e.2 + q) else s)
theorem x8_findsWays (hq : RQ (M 177) 0 A x) (hA : OKA n A) (hn : n ≤ 6) : ∃ M', f_X8_findsWays M = some M' ∧ (∀ c, c ≠ 183 → c ≠ 191 → M' c = M c) ∧ ∀ p, p < 6 → ∀ q, q < 6 → M' 183 (6 * p + q) = pth A p q := by
  obtain ⟨M1, g1, g2, g3⟩ := x8_fw2 (M := M) (fun (i1_1 : Int32) (M2 : Mem) =>
    f_X8_findsWays_23 (fun (i1_3 : Int32) (M4 : Mem) => some M4) FU 0 M2)
  have hst : ∀ (f t : Nat) (M2 : Mem), t < 6 → ((∀ c, c ≠ 183 → c ≠ 191 → M2 c = M c) ∧ ∀ p, p < 6 → ∀ q, q < 6 → M2 183 (6 * p + q) = wys A t p q) → ∃ M', ((∀ c, c ≠ 183 → c ≠ 191 → M' c = M c) ∧ ∀ p, p < 6 → ∀ q, q < 6 → M' 183 (6 * p + q) = wys A (t + 1) p q) ∧ f_X8_findsWays_23 (fun (_ : Int32) (M4 : Mem) => some M4) (f + 1) (nI t) M2 = f_X8_findsWays_23 (fun (_ : Int32) (M4 : Mem) => some M4) f (nI (t + 1)) M' := by
    intro f t M2 ht hI
    obtain ⟨i1, i2⟩ := hI
    obtain ⟨M3, a1, a2, a3⟩ := x8_fw31 (M := M2) (nI t) (fun (i2_2 : Int32) (M3 : Mem) =>
      f_X8_findsWays_67 (nI t) (fun (i2_4 : Int32) (M5 : Mem) =>
        f_X8_findsWays_139 (nI t) (fun (i2_6 : Int32) (M7 : Mem) =>
          f_X8_findsWays_23 (fun (_ : Int32) (M4 : Mem) => some M4) f (nI (t + 1)) M7) FU 0 M5) FU 0 M3)
    have hq3 : RQ (M3 177) 0 A x := by rw [a2 177 (by omega), i1 177 (by omega) (by omega)]; exact hq
    obtain ⟨M4, b1, b2, b3⟩ := x8_fw67 (M := M3) (nI t) (fun (i2_4 : Int32) (M5 : Mem) =>
        f_X8_findsWays_139 (nI t) (fun (i2_6 : Int32) (M7 : Mem) =>
          f_X8_findsWays_23 (fun (_ : Int32) (M4 : Mem) => some M4) f (nI (t + 1)) M7) FU 0 M5) hq3 hA hn
    obtain ⟨M5, c1, c2, c3⟩ := x8_fw139 (M := M4) (nI t) (fun (i2_6 : Int32) (M7 : Mem) =>
          f_X8_findsWays_23 (fun (_ : Int32) (M4 : Mem) => some M4) f (nI (t + 1)) M7)
    refine ⟨M5, ⟨fun c h1 h2 => by rw [c2 c h1, b2 c h2, a2 c h2, i1 c h1 h2], fun p hp q hq => ?_⟩, ?_⟩
    · rw [c3 _ (by omega), b3 p hp q hq, a3 _ (by omega), wys_s, show (6 * p + q) / 6 = p by omega, show (6 * p + q) % 6 = q by omega]
      refine fold_congr (fun e he s => ?_)
      have hb := hA.2.1 e he
      rw [a2 183 (by omega), i2 e.2 (by omega) q hq]
    · simp (disch := omega) only [ef_X8_findsWays_23, s_X8_findsWays_23, e6y ht, iL, iT, iE, iN, iZ, i0, cl, nL, yL, nT, yT, s1_i, ad_i, z0, c0, la_1, la_2, la_11, la_12, la_21, la_22, la_27, la_54, la_10, la_243, ml_4, ml_6, ml_27, ml_10, ml_3, false_or, or_false, true_or, or_true, or_self, if_false, if_true, not_true, not_false_iff, bs, lt_p]
      rw [a1, b1, c1]
  obtain ⟨f', M2, ⟨k1, k2⟩, k3⟩ := loop_M (fun f M i => f_X8_findsWays_23 (fun (_ : Int32) (M4 : Mem) => some M4) f (nI i) M) 6 (fun t M2 => (∀ c, c ≠ 183 → c ≠ 191 → M2 c = M c) ∧ ∀ p, p < 6 → ∀ q, q < 6 → M2 183 (6 * p + q) = wys A t p q) hst 6 0 M1 (by omega) ⟨fun c h1 _ => g2 c h1, fun p hp q hq => g3 _ (by omega)⟩ FU (FU_gt (by omega))
  refine ⟨M2, ?_, k1, k2⟩
  unfold f_X8_findsWays
  refine Eq.trans g1 ?_
  refine Eq.trans k3 ?_
  simp only [ef_X8_findsWays_23, s_X8_findsWays_23, e6n, if_true]
end WAYS3

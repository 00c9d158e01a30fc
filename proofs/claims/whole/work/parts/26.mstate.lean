/-! ===== the reference: what is done to its row ===== -/
theorem loop_M {ρ : Type} (F : Nat → Mem → Nat → Option ρ) (N : Nat) (I : Nat → Mem → Prop) (hstep : ∀ n i M, i < N → I i M → ∃ M', I (i + 1) M' ∧ F (n + 1) M i = F n M' (i + 1)) : ∀ m i M, i + m = N → I i M → ∀ f, m < f → ∃ f' M', I N M' ∧ F f M i = F (f' + 1) M' N := by
  intro m
  induction m with
  | zero =>
    intro i M hi hI f hf
    obtain ⟨f, rfl⟩ : ∃ f', f = f' + 1 := ⟨f - 1, by omega⟩
    have : i = N := by omega
    subst this
    exact ⟨f, M, hI, rfl⟩
  | succ m ih =>
    intro i M hi hI f hf
    obtain ⟨f, rfl⟩ : ∃ f', f = f' + 1 := ⟨f - 1, by omega⟩
    obtain ⟨M', h1, h2⟩ := hstep f i M (by omega) hI
    obtain ⟨f', M2, h3, h4⟩ := ih (i + 1) M' (by omega) h1 f (by omega)
    exact ⟨f', M2, h3, h2.trans h4⟩
theorem RQ.mv {f f' : Row} {o o' : Nat} {A : Arr} {x : Row} (h : RQ f o A x) (hA : A.length ≤ 10) (e : ∀ q, q < 27 → f' (o' + q) = f (o + q)) : RQ f' o' A x := by
  obtain ⟨h1, h2, h3⟩ := h
  refine ⟨by have := e 0 (by omega); rw [Nat.add_zero, Nat.add_zero] at this; rw [this]; exact h1, fun k u v hk => ?_, fun i hi => ?_⟩
  · have hk2 := (List.getElem?_eq_some_iff.mp hk).1
    have e1 := e (1 + k) (by omega)
    have e2 := e (11 + k) (by omega)
    rw [← Nat.add_assoc, ← Nat.add_assoc] at e1 e2
    rw [e1, e2]
    exact h2 k u v hk
  · have e1 := e (21 + i) (by omega)
    rw [← Nat.add_assoc, ← Nat.add_assoc] at e1
    rw [e1]
    exact h3 i hi
theorem x8_copyRow {M : Mem} (o1 o2 : Nat) (h1 : o1 + 27 ≤ 297) (h2 : o2 + 27 ≤ 297) (hd : o1 + 27 ≤ o2 ∨ o2 + 27 ≤ o1) : ∃ M', f_X8_copyRow (nI o1) (nI o2) M = some M' ∧ (∀ c, c ≠ 177 → M' c = M c) ∧ (∀ q, q < 27 → M' 177 (o2 + q) = M 177 (o1 + q)) ∧ ∀ q, (q < o2 ∨ o2 + 27 ≤ q) → M' 177 q = M 177 q := by
  have hst : ∀ (n i : Nat) (M1 : Mem), i < 27 → ((∀ c, c ≠ 177 → M1 c = M c) ∧ ∀ q, M1 177 q = if o2 ≤ q ∧ q < o2 + i then M 177 (o1 + (q - o2)) else M 177 q) → ∃ M', ((∀ c, c ≠ 177 → M' c = M c) ∧ ∀ q, M' 177 q = if o2 ≤ q ∧ q < o2 + (i + 1) then M 177 (o1 + (q - o2)) else M 177 q) ∧ f_X8_copyRow_2 (nI o1) (nI o2) (fun (_ : Int32) (M2 : Mem) => some M2) (n + 1) (nI i) M1 = f_X8_copyRow_2 (nI o1) (nI o2) (fun (_ : Int32) (M2 : Mem) => some M2) n (nI (i + 1)) M' := by
    intro n i M1 hi hI
    obtain ⟨i1, i2⟩ := hI
    refine ⟨um M1 177 (o2 + i) (M1 177 (o1 + i)), ⟨fun c hc => by rw [um_a hc]; exact i1 c hc, fun q => ?_⟩, ?_⟩
    · by_cases hq : q = o2 + i
      · subst hq
        rw [um_s, i2, if_neg (by omega), if_pos (by omega)]
        congr 1
        omega
      · rw [um_k hq, i2]
        by_cases hc : o2 ≤ q ∧ q < o2 + i
        · rw [if_pos hc, if_pos (by omega)]
        · rw [if_neg hc, if_neg (by omega)]
    · have e27 : (27 : Int32) ≤ nI i ↔ False := iff_of_false (by rw [show (27 : Int32) = nI 27 from rfl, iL (by omega) (by omega)]; omega) id
      simp (disch := omega) only [ef_X8_copyRow_2, s_X8_copyRow_2, e27, iL, iT, iE, iN, iZ, i0, cl, nL, yL, nT, yT, s1_i, ad_i, z0, c0, la_1, la_2, la_11, la_12, la_21, la_22, la_27, la_54, la_10, la_243, ml_4, ml_6, ml_27, ml_10, ml_3, false_or, or_false, true_or, or_true, or_self, if_false, if_true, not_true, not_false_iff, Option.bind_some, lt]
  obtain ⟨f', M2, ⟨g1, g2⟩, g3⟩ := loop_M (fun f M i => f_X8_copyRow_2 (nI o1) (nI o2) (fun (_ : Int32) (M2 : Mem) => some M2) f (nI i) M) 27 (fun i M' => (∀ c, c ≠ 177 → M' c = M c) ∧ ∀ q, M' 177 q = if o2 ≤ q ∧ q < o2 + i then M 177 (o1 + (q - o2)) else M 177 q) hst 27 0 M (by omega) ⟨fun _ _ => rfl, fun q => by rw [if_neg (by omega)]⟩ FU (FU_gt (by omega))
  refine ⟨M2, ?_, g1, fun q hq => ?_, fun q hq => ?_⟩
  · refine Eq.trans g3 ?_
    have e27 : (27 : Int32) ≤ nI 27 ↔ True := iff_of_true (by decide) trivial
    simp (disch := omega) only [ef_X8_copyRow_2, s_X8_copyRow_2, e27, iL, iT, iE, iN, iZ, i0, cl, nL, yL, nT, yT, s1_i, ad_i, z0, c0, la_1, la_2, la_11, la_12, la_21, la_22, la_27, la_54, la_10, la_243, ml_4, ml_6, ml_27, ml_10, ml_3, false_or, or_false, true_or, or_true, or_self, if_false, if_true, not_true, not_false_iff, Option.bind_some, lt]
  · rw [g2, if_pos (by omega)]
    congr 1
    omega
  · rw [g2, if_neg (by omega)]
theorem x8_keepPast {M : Mem} {A : Arr} {x : Row} {P : List (Arr × Row)} (hq : RQ (M 177) 0 A x) (hA : A.length ≤ 10) (hP : MP M P) (h8 : P.length ≤ 8) (hPA : ∀ e ∈ P, e.1.length ≤ 10) : ∃ M', f_X8_keepPast M = some M' ∧ MP M' (psh P (A, x)) ∧ (∀ c, c ≠ 176 → c ≠ 177 → M' c = M c) ∧ (∀ j, j ≠ 2 → M' 176 j = M 176 j) ∧ ∀ q, (q < 27 ∨ 243 ≤ q) → M' 177 q = M 177 q := by
  obtain ⟨h1, h2⟩ := hP
  have hl := psh_len (e := (A, x)) h8
  have e8 : (8 : Int32) = nI 8 := rfl
  -- what comes of the row, once there is room
  have key : ∀ (M1 : Mem) (z : Nat), z < 8 → (∀ c, c ≠ 176 → c ≠ 177 → M1 c = M c) → (∀ j, j ≠ 2 → M1 176 j = M 176 j) → M1 176 2 = nI z → (∀ q, (q < 27 ∨ 243 ≤ q) → M1 177 q = M 177 q) → (∀ j q, j < z → P[j + (P.length - z)]? = some q → RQ (M1 177) (27 + 27 * j) q.1 q.2) → (psh P (A, x)).length = z + 1 → P.length - z + z = P.length → (∃ M', (f_X8_copyRow 0 (27 + (27 * (M1 176 2))) M1).bind (fun (M5 : Mem) => lt (um M5 176 2 ((M5 176 2) + 1)) fun (M6 : Mem) => some M6) = some M' ∧ MP M' (psh P (A, x)) ∧ (∀ c, c ≠ 176 → c ≠ 177 → M' c = M c) ∧ (∀ j, j ≠ 2 → M' 176 j = M 176 j) ∧ ∀ q, (q < 27 ∨ 243 ≤ q) → M' 177 q = M 177 q) := by
    intro M1 z hz k1 k2 k3 k4 k5 k6 k7
    obtain ⟨M2, g1, g2, g3, g4⟩ := x8_copyRow (M := M1) 0 (27 + 27 * z) (by omega) (by omega) (by omega)
    have e0 : (0 : Int32) = nI 0 := rfl
    refine ⟨um M2 176 2 (nI (z + 1)), ?_, ⟨?_, fun j q hj => ?_⟩, fun c c1 c2 => ?_, fun j hj => ?_, fun q hq => ?_⟩
    · rw [k3, ml_27, la_27, e0, g1]
      simp (disch := omega) only [g2, k3, iL, iT, iE, iN, iZ, i0, cl, nL, yL, nT, yT, s1_i, ad_i, z0, c0, la_1, la_2, la_11, la_12, la_21, la_22, la_27, la_54, la_10, la_243, ml_4, ml_6, ml_27, ml_10, ml_3, false_or, or_false, true_or, or_true, or_self, if_false, if_true, not_true, not_false_iff, Option.bind_some, lt]
    · rw [um_s, k6]
    · rw [um_a (by omega)]
      rcases psh_at h8 hj with ⟨c1, rfl⟩ | ⟨c1, c2⟩
      · have : j = z := by omega
        subst this
        refine hq.mv hA (fun q hq => ?_)
        rw [g3 q hq, k4 _ (by omega)]
      · have hh := k5 j q (by omega) (by rw [show j + (P.length - z) = j + (P.length + 1 - (psh P (A, x)).length) by omega]; exact c2)
        refine hh.mv (hPA q (List.mem_of_getElem? c2)) (fun i hi => ?_)
        exact g4 _ (by omega)
    · rw [um_a c1, g2 c c2]
      exact k1 c c1 c2
    · rw [um_k hj, g2 176 (by omega)]
      exact k2 j hj
    · rw [um_a (by omega), g4 q (by omega)]
      exact k4 q hq
  by_cases hp8 : P.length = 8
  · have hst : ∀ (kk : Int32 → Mem → Option Mem) (n i : Nat) (M1 : Mem), i < 189 → ((∀ c, c ≠ 177 → M1 c = M c) ∧ ∀ q, M1 177 q = if 27 ≤ q ∧ q < 27 + i then M 177 (q + 27) else M 177 q) → ∃ M', ((∀ c, c ≠ 177 → M' c = M c) ∧ ∀ q, M' 177 q = if 27 ≤ q ∧ q < 27 + (i + 1) then M 177 (q + 27) else M 177 q) ∧ f_X8_keepPast_2 kk (n + 1) (nI i) M1 = f_X8_keepPast_2 kk n (nI (i + 1)) M' := by
      intro kk n i M1 hi hI
      obtain ⟨i1, i2⟩ := hI
      refine ⟨um M1 177 (27 + i) (M1 177 (54 + i)), ⟨fun c hc => by rw [um_a hc]; exact i1 c hc, fun q => ?_⟩, ?_⟩
      · by_cases hq : q = 27 + i
        · subst hq
          rw [um_s, i2, if_neg (by omega), if_pos (by omega)]
          congr 1
          omega
        · rw [um_k hq, i2]
          by_cases hc : 27 ≤ q ∧ q < 27 + i
          · rw [if_pos hc, if_pos (by omega)]
          · rw [if_neg hc, if_neg (by omega)]
      · have e189 : (189 : Int32) ≤ nI i ↔ False := iff_of_false (by rw [show (189 : Int32) = nI 189 from rfl, iL (by omega) (by omega)]; omega) id
        simp (disch := omega) only [ef_X8_keepPast_2, s_X8_keepPast_2, e189, i1, h1, hp8, e8, iL, iT, iE, iN, iZ, i0, cl, nL, yL, nT, yT, s1_i, ad_i, z0, c0, la_1, la_2, la_11, la_12, la_21, la_22, la_27, la_54, la_10, la_243, ml_4, ml_6, ml_27, ml_10, ml_3, false_or, or_false, true_or, or_true, or_self, if_false, if_true, not_true, not_false_iff, Option.bind_some, lt]
    obtain ⟨f', M2, ⟨g1, g2⟩, g3⟩ := loop_M (fun f M i => f_X8_keepPast_2 (fun (i1_1 : Int32) (M2 : Mem) =>
    if M2 176 2 = 8 then
      lt (um M2 176 2 ((M2 176 2) - 1)) fun (M7 : Mem) =>
      (f_X8_copyRow 0 (27 + (27 * (M7 176 2))) M7).bind fun (M8 : Mem) =>
      lt (um M8 176 2 ((M8 176 2) + 1)) fun (M9 : Mem) =>
      some M9
    else
      lt (um M2 176 2 ((M2 176 2) - 0)) fun (M4 : Mem) =>
      (f_X8_copyRow 0 (27 + (27 * (M4 176 2))) M4).bind fun (M5 : Mem) =>
      lt (um M5 176 2 ((M5 176 2) + 1)) fun (M6 : Mem) =>
      some M6) f (nI i) M) 189 (fun i M' => (∀ c, c ≠ 177 → M' c = M c) ∧ ∀ q, M' 177 q = if 27 ≤ q ∧ q < 27 + i then M 177 (q + 27) else M 177 q) (hst _) 189 0 M (by omega) ⟨fun _ _ => rfl, fun q => by rw [if_neg (by omega)]⟩ FU (FU_gt (by omega))
    have hk := key (um M2 176 2 (nI 7)) 7 (by omega) (fun c c1 c2 => by rw [um_a c1]; exact g1 c c2) (fun j hj => by rw [um_k hj, g1 176 (by omega)]) um_s (fun q hq => by rw [um_a (by omega), g2, if_neg (by omega)]) (fun j q hj hq => by
      rw [um_a (by omega)]
      have hh := h2 _ q hq
      refine hh.mv (hPA q (List.mem_of_getElem? hq)) (fun i hi => ?_)
      rw [g2, if_pos (by omega)]
      congr 1
      omega) (by omega) (by omega)
    obtain ⟨M', q1, q2⟩ := hk
    refine ⟨M', ?_, q2⟩
    refine Eq.trans g3 ?_
    have e189 : (189 : Int32) ≤ nI 189 ↔ True := iff_of_true (by decide) trivial
    have e7 : nI 8 - 1 = nI 7 := by decide
    simp (disch := omega) only [ef_X8_keepPast_2, s_X8_keepPast_2, e189, g1, h1, hp8, e8, e7, iL, iT, iE, iN, iZ, i0, cl, nL, yL, nT, yT, s1_i, ad_i, z0, c0, la_1, la_2, la_11, la_12, la_21, la_22, la_27, la_54, la_10, la_243, ml_4, ml_6, ml_27, ml_10, ml_3, false_or, or_false, true_or, or_true, or_self, if_false, if_true, not_true, not_false_iff, Option.bind_some, lt]
    simp (disch := omega) only [um_s, iL, iT, iE, iN, iZ, i0, cl, nL, yL, nT, yT, s1_i, ad_i, z0, c0, la_1, la_2, la_11, la_12, la_21, la_22, la_27, la_54, la_10, la_243, ml_4, ml_6, ml_27, ml_10, ml_3, false_or, or_false, true_or, or_true, or_self, if_false, if_true, not_true, not_false_iff, Option.bind_some, lt] at q1
    simp (disch := omega) only [um_s, iL, iT, iE, iN, iZ, i0, cl, nL, yL, nT, yT, s1_i, ad_i, z0, c0, la_1, la_2, la_11, la_12, la_21, la_22, la_27, la_54, la_10, la_243, ml_4, ml_6, ml_27, ml_10, ml_3, false_or, or_false, true_or, or_true, or_self, if_false, if_true, not_true, not_false_iff, Option.bind_some, lt]
    exact q1
  · have hk := key (um M 176 2 (nI P.length)) P.length (by omega) (fun c c1 c2 => by rw [um_a c1]) (fun j hj => by rw [um_k hj]) um_s (fun q hq => by rw [um_a (by omega)]) (fun j q hj hq => by
      rw [um_a (by omega)]
      rw [show j + (P.length - P.length) = j by omega] at hq
      exact h2 j q hq) (by omega) (by omega)
    obtain ⟨M', q1, q2⟩ := hk
    refine ⟨M', ?_, q2⟩
    have e0 : (189 : Int32) ≤ nI 0 ↔ False := iff_of_false (by decide) id
    have e9 : nI P.length = nI 8 ↔ False := iff_of_false (by rw [iE (by omega) (by omega)]; exact hp8) id
    have e10 : nI P.length - 0 = nI P.length := by rw [show (0 : Int32) = nI 0 from rfl, sb_i (by omega)]; rfl
    obtain ⟨g, hg⟩ : ∃ g, FU = g + 1 := ⟨19999, rfl⟩
    unfold f_X8_keepPast
    rw [hg, show (0 : Int32) = nI 0 from rfl, ef_X8_keepPast_2]
    unfold s_X8_keepPast_2
    simp (disch := omega) only [e0, h1, e8, e9, lt, if_false]
    rw [show nI 0 = (0 : Int32) from rfl, e10]
    exact q1

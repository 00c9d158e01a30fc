/-! ===== the class: what is done to its quivers ===== -/
theorem x7_copyRow {M : Mem} (a b : Nat) : f_X7_copyRow a b M = some (uc M b (va_cpy (M a) (M b) 0 0 6)) := rfl
theorem x2_become {M : Mem} {a b n : Nat} {A : Arr} {x : Row} (h : CQ M b n A x) (hA : A.length ≤ 10) (hab : a + 3 < b ∨ b + 3 < a) : ∃ M', f_X2_become a b M = some M' ∧ CQ M' a n A x ∧ ∀ c, (c < a ∨ a + 3 < c) → M' c = M c := by
  have e0 : b ≠ a := by omega
  have e1 : b ≠ a + 1 := by omega
  have e2 : b + 1 ≠ a := by omega
  have e3 : b + 1 ≠ a + 1 := by omega
  refine ⟨_, rfl, ?_, ?_⟩
  · obtain ⟨h1, h2, h3, h4⟩ := h
    refine ⟨?_, ?_, fun k u v hk => ?_, fun i hi => ?_⟩
    · simp (disch := omega) only [uc_a, um_k, um_s, um_a, h1]
    · simp (disch := omega) only [uc_a, um_s, um_a, h2]
    · have hk10 : k < 10 := Nat.lt_of_lt_of_le (List.getElem?_eq_some_iff.mp hk).1 hA
      simp (disch := omega) only [uc_a, uc_s, um_a, cp_lt]
      exact h3 k u v hk
    · simp (disch := omega) only [uc_a, uc_s, um_a, cp_lt]
      exact h4 i hi
  · intro c hc
    simp (disch := omega) only [uc_a, um_a]
/-- the last eight -/
def psh (P : List (Arr × Row)) (e : Arr × Row) : List (Arr × Row) := if P.length = 8 then P.drop 1 ++ [e] else P ++ [e]
theorem psh_len {P : List (Arr × Row)} {e : Arr × Row} (h : P.length ≤ 8) : (psh P e).length = min (P.length + 1) 8 := by
  unfold psh
  by_cases h8 : P.length = 8
  · rw [if_pos h8]; simp; omega
  · rw [if_neg h8]; simp; omega
theorem psh_at {P : List (Arr × Row)} {e : Arr × Row} (h : P.length ≤ 8) {j : Nat} {q : Arr × Row} (hq : (psh P e)[j]? = some q) : (j + 1 = (psh P e).length ∧ q = e) ∨ (j + 1 < (psh P e).length ∧ P[j + (P.length + 1 - (psh P e).length)]? = some q) := by
  have hl := psh_len (e := e) h
  have hj := (List.getElem?_eq_some_iff.mp hq).1
  unfold psh at hq
  by_cases h8 : P.length = 8
  · rw [if_pos h8] at hq
    by_cases hj7 : j < 7
    · rw [List.getElem?_append_left (by simp; omega)] at hq
      refine Or.inr ⟨by omega, ?_⟩
      rw [List.getElem?_drop] at hq
      rw [show j + (P.length + 1 - (psh P e).length) = 1 + j by omega]
      exact hq
    · have : j = 7 := by omega
      subst this
      rw [List.getElem?_append_right (by simp; omega)] at hq
      simp [h8] at hq
      exact Or.inl ⟨by omega, hq.symm⟩
  · rw [if_neg h8] at hq
    by_cases hj7 : j < P.length
    · rw [List.getElem?_append_left hj7] at hq
      refine Or.inr ⟨by omega, ?_⟩
      rw [show j + (P.length + 1 - (psh P e).length) = j by omega]
      exact hq
    · have : j = P.length := by omega
      subst this
      rw [List.getElem?_append_right (by omega)] at hq
      simp at hq
      exact Or.inl ⟨by omega, hq.symm⟩
theorem mn_i {a b : Nat} (ha : a < 2147483648) (hb : b < 2147483648) : mn (nI a) (nI b) = nI (min a b) := by
  unfold mn
  by_cases h : b < a
  · rw [if_pos ((iT hb ha).mpr h)]; congr 1; omega
  · rw [if_neg (fun q => h ((iT hb ha).mp q))]; congr 1; omega
theorem x1_remember {M : Mem} {n : Nat} {A : Arr} {x : Row} {P : List (Arr × Row)} (hq : CQ M 1 n A x) (hA : A.length ≤ 10) (hP : CP M n P) (h8 : P.length ≤ 8) : ∃ M', f_X1_remember M = some M' ∧ CP M' n (psh P (A, x)) ∧ ∀ b, (b < 9 ∨ 43 ≤ b) → M' b = M b := by
  obtain ⟨h1, nx, h2, h3, h4⟩ := hP
  obtain ⟨M1, g1, g2, g3⟩ := x2_become (a := 11 + 4 * nx) (b := 1) hq hA (by omega)
  have hl := psh_len (e := (A, x)) h8
  have e91 : M1 9 = M 9 := g3 9 (by omega)
  have key : ∀ (M2 : Mem) (nx' : Nat), nx' = (nx + 1) % 8 → M2 9 1 = nI nx' → M2 9 2 = nI (min (P.length + 1) 8) → (∀ b, b ≠ 9 → M2 b = M1 b) → CP M2 n (psh P (A, x)) ∧ ∀ b, (b < 9 ∨ 43 ≤ b) → M2 b = M b := by
    intro M2 nx' hn' k1 k2 k3
    refine ⟨⟨by rw [hl]; exact k2, nx', by omega, k1, fun j q hj => ?_⟩, fun b hb => by rw [k3 b (by omega), g3 b (by omega)]⟩
    rcases psh_at h8 hj with ⟨c1, rfl⟩ | ⟨c1, c2⟩
    · have e : (nx' + 8 - (psh P (A, x)).length + j) % 8 = nx := by omega
      rw [e]
      exact g2.on (fun b _ _ => k3 b (by omega))
    · have hlt := (List.getElem?_eq_some_iff.mp c2).1
      have e : (nx' + 8 - (psh P (A, x)).length + j) % 8 = (nx + 8 - P.length + (j + (P.length + 1 - (psh P (A, x)).length))) % 8 := by omega
      have e2 : (nx + 8 - P.length + (j + (P.length + 1 - (psh P (A, x)).length))) % 8 ≠ nx := by omega
      rw [e]
      refine (h4 _ q c2).on (fun b b1 b2 => ?_)
      rw [k3 b (by omega), g3 b (by omega)]
  have h7 : (7 : Int32) = nI 7 := rfl
  have h88 : (8 : Int32) = nI 8 := rfl
  by_cases hx7 : nx = 7
  · have hh := key (um (um M1 9 1 0) 9 2 (mn (((um M1 9 1 0) 9 2) + 1) 8)) 0 (by omega) (by simp (disch := omega) only [um_k, um_s]; rfl) (by simp (disch := omega) only [um_s, um_k, e91, h1, s1_i, h88, mn_i]) (fun b hb => by simp (disch := omega) only [um_a])
    refine ⟨_, ?_, hh⟩
    simp (disch := omega) only [f_X1_remember, h3, g1, e91, h7, hx7, iL, iT, iE, iN, iZ, i0, cl, nL, yL, nT, yT, s1_i, ad_i, z0, c0, la_1, la_2, la_11, la_12, la_21, la_22, la_27, la_54, la_10, la_243, ml_4, ml_6, ml_27, ml_10, ml_3, false_or, or_false, true_or, or_true, or_self, if_false, if_true, not_true, not_false_iff, Option.bind_some, lt]
    rw [hx7] at g1
    rw [g1]
    simp (disch := omega) only [h3, e91, h7, hx7, iL, iT, iE, iN, iZ, i0, cl, nL, yL, nT, yT, s1_i, ad_i, z0, c0, la_1, la_2, la_11, la_12, la_21, la_22, la_27, la_54, la_10, la_243, ml_4, ml_6, ml_27, ml_10, ml_3, false_or, or_false, true_or, or_true, or_self, if_false, if_true, not_true, not_false_iff, Option.bind_some, lt]
  · have hh := key (um (um M1 9 1 ((M1 9 1) + 1)) 9 2 (mn (((um M1 9 1 ((M1 9 1) + 1)) 9 2) + 1) 8)) (nx + 1) (by omega) (by simp (disch := omega) only [um_k, um_s, e91, h3, s1_i]) (by simp (disch := omega) only [um_s, um_k, e91, h1, s1_i, h88, mn_i]) (fun b hb => by simp (disch := omega) only [um_a])
    refine ⟨_, ?_, hh⟩
    simp (disch := omega) only [f_X1_remember, h3, g1, e91, h7, iL, iT, iE, iN, iZ, i0, cl, nL, yL, nT, yT, s1_i, ad_i, z0, c0, la_1, la_2, la_11, la_12, la_21, la_22, la_27, la_54, la_10, la_243, ml_4, ml_6, ml_27, ml_10, ml_3, false_or, or_false, true_or, or_true, or_self, if_false, if_true, not_true, not_false_iff, Option.bind_some, lt]
    rw [if_neg hx7]
theorem x1_recall {M : Mem} {n : Nat} {P : List (Arr × Row)} {e : Arr × Row} (hP : CP M n (P ++ [e])) (h8 : P.length < 8) (hA : e.1.length ≤ 10) : ∃ M', f_X1_recall M = some M' ∧ CQ M' 1 n e.1 e.2 ∧ CP M' n P ∧ ∀ b, (b = 0 ∨ 4 < b) → b ≠ 9 → M' b = M b := by
  obtain ⟨h1, nx, h2, h3, h4⟩ := hP
  rw [List.length_append] at h1 h4
  have h1 : M 9 2 = nI (P.length + 1) := h1
  have hlast := h4 P.length e (by simp)
  have key : ∀ (M2 : Mem) (nx' : Nat), nx' = (nx + 7) % 8 → M2 9 1 = nI nx' → M2 9 2 = nI P.length → (∀ b, b ≠ 9 → M2 b = M b) → ∃ M', f_X2_become 1 (11 + 4 * nx') M2 = some M' ∧ CQ M' 1 n e.1 e.2 ∧ CP M' n P ∧ ∀ b, (b = 0 ∨ 4 < b) → b ≠ 9 → M' b = M b := by
    intro M2 nx' hn' k1 k2 k3
    have hx : (nx + 8 - (P.length + [e].length) + P.length) % 8 = nx' := by simp; omega
    rw [hx] at hlast
    obtain ⟨M', g1, g2, g3⟩ := x2_become (a := 1) (b := 11 + 4 * nx') (hlast.on (M' := M2) (fun b _ _ => k3 b (by omega))) hA (by omega)
    refine ⟨M', g1, g2, ⟨by rw [g3 9 (by omega)]; exact k2, nx', by omega, by rw [g3 9 (by omega)]; exact k1, fun j q hj => ?_⟩, fun b b1 b2 => by rw [g3 b (by omega), k3 b b2]⟩
    have hjl := (List.getElem?_eq_some_iff.mp hj).1
    have hh := h4 j q (by rw [List.getElem?_append_left hjl]; exact hj)
    have e2 : (nx + 8 - (P.length + [e].length) + j) % 8 = (nx' + 8 - P.length + j) % 8 := by simp; omega
    rw [e2] at hh
    exact hh.on (fun b b1 b2 => by rw [g3 b (by omega), k3 b (by omega)])
  by_cases h0 : nx = 0
  · obtain ⟨M', g1, g2⟩ := key (um (um M 9 1 7) 9 2 (((um M 9 1 7) 9 2) - 1)) 7 (by omega) (by simp (disch := omega) only [um_k, um_s]; rfl) (by simp (disch := omega) only [um_k, um_s, h1]; exact nI_pred _) (fun b hb => by simp (disch := omega) only [um_a])
    refine ⟨M', ?_, g2⟩
    have h7 : (7 : Int32) = nI 7 := rfl
    simp (disch := omega) only [f_X1_recall, h3, h0, um_k, um_s, iL, iT, iE, iN, iZ, i0, cl, nL, yL, nT, yT, s1_i, ad_i, z0, c0, la_1, la_2, la_11, la_12, la_21, la_22, la_27, la_54, la_10, la_243, ml_4, ml_6, ml_27, ml_10, ml_3, false_or, or_false, true_or, or_true, or_self, if_false, if_true, not_true, not_false_iff, Option.bind_some, lt]
    rw [h7]
    simp (disch := omega) only [um_k, um_s, iL, iT, iE, iN, iZ, i0, cl, nL, yL, nT, yT, s1_i, ad_i, z0, c0, la_1, la_2, la_11, la_12, la_21, la_22, la_27, la_54, la_10, la_243, ml_4, ml_6, ml_27, ml_10, ml_3, false_or, or_false, true_or, or_true, or_self, if_false, if_true, not_true, not_false_iff, Option.bind_some, lt]
    rw [← h7]
    have g1 : f_X2_become 1 (11 + 4 * 7) (um (um M 9 1 7) 9 2 (M 9 2 - 1)) = some M' := by
      simp (disch := omega) only [um_k, um_s] at g1
      exact g1
    rw [g1]
    rfl
  · obtain ⟨M', g1, g2⟩ := key (um (um M 9 1 (nI (nx - 1))) 9 2 (((um M 9 1 (nI (nx - 1))) 9 2) - 1)) (nx - 1) (by omega) (by simp (disch := omega) only [um_k, um_s]) (by simp (disch := omega) only [um_k, um_s, h1]; exact nI_pred _) (fun b hb => by simp (disch := omega) only [um_a])
    refine ⟨M', ?_, g2⟩
    have h9 : nI nx - 1 = nI (nx - 1) := sb_i (b := 1) (by omega)
    simp (disch := omega) only [um_k, um_s] at g1
    simp (disch := omega) only [f_X1_recall, h3, h9, um_k, um_s, g1, iL, iT, iE, iN, iZ, i0, cl, nL, yL, nT, yT, s1_i, ad_i, z0, c0, la_1, la_2, la_11, la_12, la_21, la_22, la_27, la_54, la_10, la_243, ml_4, ml_6, ml_27, ml_10, ml_3, false_or, or_false, true_or, or_true, or_self, if_false, if_true, not_true, not_false_iff, Option.bind_some, lt]
    rw [if_neg h0]
theorem x2_join {M : Mem} {a n : Nat} {A : Arr} {x : Row} (hq : CQ M a n A x) (hA : A.length < 10) (u v : Nat) : ∃ M', f_X2_join a (nI u) (nI v) M = some M' ∧ CQ M' a n (A ++ [(u, v)]) x ∧ ∀ c, (c < a ∨ a + 3 < c) → M' c = M c := by
  obtain ⟨h1, h2, h3, h4⟩ := hq
  refine ⟨_, by simp (disch := omega) only [f_X2_join, h2, um_a, iL, iT, iE, iN, iZ, i0, cl, nL, yL, nT, yT, s1_i, ad_i, z0, c0, la_1, la_2, la_11, la_12, la_21, la_22, la_27, la_54, la_10, la_243, ml_4, ml_6, ml_27, ml_10, ml_3, false_or, or_false, true_or, or_true, or_self, if_false, if_true, not_true, not_false_iff, Option.bind_some, lt]; rfl, ⟨?_, ?_, fun k p q hk => ?_, fun i hi => ?_⟩, fun c hc => ?_⟩
  · simp (disch := omega) only [um_k, um_a, h1]
  · simp (disch := omega) only [um_s, List.length_append, List.length_cons, List.length_nil]
  · by_cases hk2 : k < A.length
    · rw [List.getElem?_append_left hk2] at hk
      simp (disch := omega) only [um_k, um_a]
      exact h3 k p q hk
    · have hk3 := (List.getElem?_eq_some_iff.mp hk).1
      simp at hk3
      have : k = A.length := by omega
      subst this
      simp at hk
      obtain ⟨rfl, rfl⟩ := hk
      simp (disch := omega) only [um_s, um_a, and_self]
  · simp (disch := omega) only [um_a]
    exact h4 i hi
  · simp (disch := omega) only [um_a]
/-- an arrow goes -/
theorem x2_sever {M : Mem} {a n : Nat} {A : Arr} {x : Row} (hq : CQ M a n A x) (hA : A.length ≤ 10) (j : Nat) (hj : j < A.length) : ∃ M', f_X2_sever a (nI j) M = some M' ∧ CQ M' a n (A.eraseIdx j) x ∧ ∀ c, (c < a ∨ a + 3 < c) → M' c = M c := by
  obtain ⟨h1, h2, h3, h4⟩ := hq
  have e1 : nI A.length - 1 = nI (A.length - 1) := sb_i (b := 1) (by omega)
  let I : Nat → Mem → Prop := fun i M' => M' a = M a ∧ M' (a + 3) = M (a + 3) ∧ (∀ k, k < A.length → M' (a + 1) k = M (a + 1) (if j ≤ k ∧ k < i then k + 1 else k) ∧ M' (a + 2) k = M (a + 2) (if j ≤ k ∧ k < i then k + 1 else k)) ∧ ∀ c, (c < a ∨ a + 3 < c) → M' c = M c
  have hloop : ∀ m i M1, j ≤ i → i + m = A.length - 1 → I i M1 → ∀ f, m < f → ∃ M2, I (A.length - 1) M2 ∧ f_X2_sever_2 a (nI j) (fun (_ : Int32) (M2 : Mem) => lt (um M2 a 1 ((M2 a 1) - 1)) fun (M3 : Mem) => some M3) f (nI i) M1 = some (um M2 a 1 (nI (A.length - 1))) := by
    intro m
    induction m with
    | zero =>
      intro i M1 hji him hI f hf
      obtain ⟨f, rfl⟩ : ∃ f', f = f' + 1 := ⟨f - 1, by omega⟩
      have him : i = A.length - 1 := by omega
      subst him
      refine ⟨M1, hI, ?_⟩
      simp (disch := omega) only [ef_X2_sever_2, s_X2_sever_2, hI.1, h2, e1, iL, iT, iE, iN, iZ, i0, cl, nL, yL, nT, yT, s1_i, ad_i, z0, c0, la_1, la_2, la_11, la_12, la_21, la_22, la_27, la_54, la_10, la_243, ml_4, ml_6, ml_27, ml_10, ml_3, false_or, or_false, true_or, or_true, or_self, if_false, if_true, not_true, not_false_iff, Option.bind_some, lt]
    | succ m ih =>
      intro i M1 hji him hI f hf
      obtain ⟨f, rfl⟩ : ∃ f', f = f' + 1 := ⟨f - 1, by omega⟩
      obtain ⟨i1, i2, i3, i4⟩ := hI
      have hI2 : I (i + 1) (um (um M1 (a + 1) i (M1 (a + 1) (i + 1))) (a + 2) i (M1 (a + 2) (i + 1))) := by
        refine ⟨by simp (disch := omega) only [um_a]; exact i1, by simp (disch := omega) only [um_a]; exact i2, fun k hk => ?_, fun c hc => by simp (disch := omega) only [um_a]; exact i4 c hc⟩
        by_cases hki : k = i
        · subst hki
          simp (disch := omega) only [um_a, um_s]
          rw [(i3 (k + 1) (by omega)).1, (i3 (k + 1) (by omega)).2, if_neg (by omega), if_pos (by omega)]
          exact ⟨rfl, rfl⟩
        · simp (disch := omega) only [um_a, um_k]
          rw [(i3 k hk).1, (i3 k hk).2]
          by_cases hc : j ≤ k ∧ k < i
          · rw [if_pos hc, if_pos (by omega)]; exact ⟨rfl, rfl⟩
          · rw [if_neg hc, if_neg (by omega)]; exact ⟨rfl, rfl⟩
      obtain ⟨M2, g1, g2⟩ := ih (i + 1) _ (by omega) (by omega) hI2 f (by omega)
      refine ⟨M2, g1, ?_⟩
      simp (disch := omega) only [ef_X2_sever_2, s_X2_sever_2, i1, h2, e1, um_a, iL, iT, iE, iN, iZ, i0, cl, nL, yL, nT, yT, s1_i, ad_i, z0, c0, la_1, la_2, la_11, la_12, la_21, la_22, la_27, la_54, la_10, la_243, ml_4, ml_6, ml_27, ml_10, ml_3, false_or, or_false, true_or, or_true, or_self, if_false, if_true, not_true, not_false_iff, Option.bind_some, lt]
      exact g2
  obtain ⟨M2, ⟨g1, g2, g3, g4⟩, g5⟩ := hloop (A.length - 1 - j) j M (Nat.le_refl _) (by omega) ⟨rfl, rfl, fun k _ => by rw [if_neg (by omega)]; exact ⟨rfl, rfl⟩, fun _ _ => rfl⟩ FU (FU_gt (by omega))
  refine ⟨_, g5, ⟨?_, ?_, fun k u v hk => ?_, fun i hi => ?_⟩, fun c hc => ?_⟩
  · simp (disch := omega) only [um_k, g1, h1]
  · rw [um_s, List.length_eraseIdx_of_lt hj]
  · simp (disch := omega) only [um_a]
    have hkl := (List.getElem?_eq_some_iff.mp hk).1
    rw [List.length_eraseIdx_of_lt hj] at hkl
    rw [(g3 k (by omega)).1, (g3 k (by omega)).2]
    rw [List.getElem?_eraseIdx] at hk
    by_cases hkj : k < j
    · rw [if_pos hkj] at hk
      rw [if_neg (by omega)]
      exact h3 k u v hk
    · rw [if_neg hkj] at hk
      rw [if_pos (by omega)]
      exact h3 (k + 1) u v hk
  · simp (disch := omega) only [um_a, g2]
    exact h4 i hi
  · simp (disch := omega) only [um_a]
    exact g4 c hc
/-- the arrows at p go the other way -/
def swp (A : Arr) (p : Nat) : Arr := A.map (fun e => if e.1 = p ∨ e.2 = p then (e.2, e.1) else e)
theorem x2_swap {M : Mem} {a n : Nat} {A : Arr} {x : Row} (hq : CQ M a n A x) (hA : OKA n A) (hn : n ≤ 6) (p : Nat) (hp : p < n) : ∃ M', f_X2_swapArrowsAt a (nI p) M = some M' ∧ CQ M' a n (swp A p) x ∧ ∀ c, (c < a ∨ a + 3 < c) → M' c = M c := by
  have hl := hA.1
  have hat := hq.at
  obtain ⟨h1, h2, h3, h4⟩ := hq
  let I : Nat → Mem → Prop := fun i M' => M' a = M a ∧ M' (a + 3) = M (a + 3) ∧ (∀ k, k < A.length → (k < i ∧ (fr A k = p ∨ tt A k = p) → M' (a + 1) k = nI (tt A k) ∧ M' (a + 2) k = nI (fr A k)) ∧ (¬ (k < i ∧ (fr A k = p ∨ tt A k = p)) → M' (a + 1) k = nI (fr A k) ∧ M' (a + 2) k = nI (tt A k))) ∧ ∀ c, (c < a ∨ a + 3 < c) → M' c = M c
  have hloop : ∀ m i M1, i + m = A.length → I i M1 → ∀ f, m < f → ∃ M2, I A.length M2 ∧ f_X2_swapArrowsAt_2 a (nI p) (fun (_ : Int32) (M2 : Mem) => some M2) f (nI i) M1 = some M2 := by
    intro m
    induction m with
    | zero =>
      intro i M1 him hI f hf
      obtain ⟨f, rfl⟩ : ∃ f', f = f' + 1 := ⟨f - 1, by omega⟩
      have him : i = A.length := by omega
      subst him
      refine ⟨M1, hI, ?_⟩
      simp (disch := omega) only [ef_X2_swapArrowsAt_2, s_X2_swapArrowsAt_2, hI.1, h2, iL, iT, iE, iN, iZ, i0, cl, nL, yL, nT, yT, s1_i, ad_i, z0, c0, la_1, la_2, la_11, la_12, la_21, la_22, la_27, la_54, la_10, la_243, ml_4, ml_6, ml_27, ml_10, ml_3, false_or, or_false, true_or, or_true, or_self, if_false, if_true, not_true, not_false_iff, Option.bind_some, lt]
    | succ m ih =>
      intro i M1 him hI f hf
      obtain ⟨f, rfl⟩ : ∃ f', f = f' + 1 := ⟨f - 1, by omega⟩
      obtain ⟨i1, i2, i3, i4⟩ := hI
      have ht := hA.at i (by omega)
      obtain ⟨k1, k2⟩ := (i3 i (by omega)).2 (by omega)
      by_cases hc : fr A i = p ∨ tt A i = p
      · have hI2 : I (i + 1) (um (um M1 (a + 1) i (M1 (a + 2) i)) (a + 2) i (M1 (a + 1) i)) := by
          refine ⟨by simp (disch := omega) only [um_a]; exact i1, by simp (disch := omega) only [um_a]; exact i2, fun k hk => ?_, fun c hc => by simp (disch := omega) only [um_a]; exact i4 c hc⟩
          by_cases hki : k = i
          · subst hki
            simp (disch := omega) only [um_a, um_s, k1, k2]
            exact ⟨fun _ => ⟨trivial, trivial⟩, fun q => absurd ⟨by omega, hc⟩ q⟩
          · simp (disch := omega) only [um_a, um_k]
            exact ⟨fun q => (i3 k hk).1 ⟨by omega, q.2⟩, fun q => (i3 k hk).2 (fun z => q ⟨by omega, z.2⟩)⟩
        obtain ⟨M2, g1, g2⟩ := ih (i + 1) _ (by omega) hI2 f (by omega)
        refine ⟨M2, g1, ?_⟩
        by_cases hc1 : fr A i = p
        · simp (disch := omega) only [ef_X2_swapArrowsAt_2, s_X2_swapArrowsAt_2, i1, h2, k1, um_a, hc1, iL, iT, iE, iN, iZ, i0, cl, nL, yL, nT, yT, s1_i, ad_i, z0, c0, la_1, la_2, la_11, la_12, la_21, la_22, la_27, la_54, la_10, la_243, ml_4, ml_6, ml_27, ml_10, ml_3, false_or, or_false, true_or, or_true, or_self, if_false, if_true, not_true, not_false_iff, Option.bind_some, lt]
          simp (disch := omega) only [k1, hc1] at g2
          exact g2
        · have hc2 : tt A i = p := hc.resolve_left hc1
          simp (disch := omega) only [ef_X2_swapArrowsAt_2, s_X2_swapArrowsAt_2, i1, h2, k1, k2, um_a, hc2, iL, iT, iE, iN, iZ, i0, cl, nL, yL, nT, yT, s1_i, ad_i, z0, c0, la_1, la_2, la_11, la_12, la_21, la_22, la_27, la_54, la_10, la_243, ml_4, ml_6, ml_27, ml_10, ml_3, false_or, or_false, true_or, or_true, or_self, if_false, if_true, not_true, not_false_iff, Option.bind_some, lt]
          rw [if_neg hc1]
          simp (disch := omega) only [k1, k2, hc2] at g2
          exact g2
      · have hI2 : I (i + 1) M1 := by
          refine ⟨i1, i2, fun k hk => ?_, i4⟩
          by_cases hki : k = i
          · subst hki
            exact ⟨fun q => absurd q.2 hc, fun _ => ⟨k1, k2⟩⟩
          · exact ⟨fun q => (i3 k hk).1 ⟨by omega, q.2⟩, fun q => (i3 k hk).2 (fun z => q ⟨by omega, z.2⟩)⟩
        obtain ⟨M2, g1, g2⟩ := ih (i + 1) _ (by omega) hI2 f (by omega)
        refine ⟨M2, g1, ?_⟩
        simp (disch := omega) only [ef_X2_swapArrowsAt_2, s_X2_swapArrowsAt_2, i1, h2, k1, k2, um_a, iL, iT, iE, iN, iZ, i0, cl, nL, yL, nT, yT, s1_i, ad_i, z0, c0, la_1, la_2, la_11, la_12, la_21, la_22, la_27, la_54, la_10, la_243, ml_4, ml_6, ml_27, ml_10, ml_3, false_or, or_false, true_or, or_true, or_self, if_false, if_true, not_true, not_false_iff, Option.bind_some, lt]
        rw [if_neg (fun q => hc (Or.inl q)), if_neg (fun q => hc (Or.inr q))]
        exact g2
  obtain ⟨M2, ⟨g1, g2, g3, g4⟩, g5⟩ := hloop A.length 0 M (by omega) ⟨rfl, rfl, fun k hk => ⟨fun q => by omega, fun _ => hat k hk⟩, fun _ _ => rfl⟩ FU (FU_gt (by omega))
  refine ⟨M2, g5, ⟨by rw [g1]; exact h1, by rw [g1]; simp [swp, h2], fun k u v hk => ?_, fun i hi => by rw [g2]; exact h4 i hi⟩, g4⟩
  have hkl := (List.getElem?_eq_some_iff.mp hk).1
  have hkl : k < A.length := by simpa [swp] using hkl
  have hk2 : (swp A p)[k]? = some (if fr A k = p ∨ tt A k = p then (tt A k, fr A k) else (fr A k, tt A k)) := by
    unfold swp
    rw [List.getElem?_map, ft_get hkl]
    rfl
  rw [hk2] at hk
  by_cases hc : fr A k = p ∨ tt A k = p
  · rw [if_pos hc] at hk
    cases hk
    exact (g3 k hkl).1 ⟨hkl, hc⟩
  · rw [if_neg hc] at hk
    cases hk
    exact (g3 k hkl).2 (fun q => hc q.2)

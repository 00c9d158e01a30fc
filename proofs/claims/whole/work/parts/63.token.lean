/-! ===== tokens of the text ===== -/
def cha (T : List Int32) (i : Nat) : Int32 := T.getD i 0
def kd (c : Int32) : Nat := if 97 ≤ c ∧ c ≤ 122 then 1 else if 48 ≤ c ∧ c ≤ 57 then 2 else 3
def skp (T : List Int32) : Nat → Nat → Nat
  | 0, i => i
  | f + 1, i => if i < T.length ∧ cha T i = 32 then skp T f (i + 1) else i
def ten (T : List Int32) (k : Nat) : Nat → Nat → Nat
  | 0, e => e
  | f + 1, e => if e < T.length ∧ kd (cha T e) = k then ten T k f (e + 1) else e
/-- where the next token begins, where it ends, of what kind it is -/
def tks (T : List Int32) (e : Nat) : Nat := skp T (T.length - e) e
def tke (T : List Int32) (s : Nat) : Nat := if s < T.length then (if kd (cha T s) = 3 then s + 1 else ten T (kd (cha T s)) (T.length - (s + 1)) (s + 1)) else s
def tkk (T : List Int32) (s : Nat) : Nat := if s < T.length then kd (cha T s) else 0
section TOKEN
variable {M M' : Mem} {T : List Int32}
theorem kd_le (c : Int32) : kd c ≤ 3 ∧ 1 ≤ kd c := by
  unfold kd
  split
  · omega
  · split <;> omega
theorem skp_ge : ∀ f i, i ≤ skp T f i ∧ (i ≤ T.length → skp T f i ≤ T.length) := by
  intro f
  induction f with
  | zero => intro i; exact ⟨Nat.le_refl _, id⟩
  | succ f ih =>
    intro i
    unfold skp
    split
    · rename_i h
      have := ih (i + 1)
      exact ⟨by omega, fun _ => this.2 (by omega)⟩
    · exact ⟨Nat.le_refl _, id⟩
theorem ten_ge {k : Nat} : ∀ f e, e ≤ ten T k f e ∧ (e ≤ T.length → ten T k f e ≤ T.length) := by
  intro f
  induction f with
  | zero => intro i; exact ⟨Nat.le_refl _, id⟩
  | succ f ih =>
    intro i
    unfold ten
    split
    · rename_i h
      have := ih (i + 1)
      exact ⟨by omega, fun _ => this.2 (by omega)⟩
    · exact ⟨Nat.le_refl _, id⟩
theorem tks_ok {e : Nat} (he : e ≤ T.length) : e ≤ tks T e ∧ tks T e ≤ T.length := ⟨(skp_ge _ _).1, (skp_ge _ _).2 he⟩
theorem tke_ok {s : Nat} (hs : s ≤ T.length) : s ≤ tke T s ∧ tke T s ≤ T.length ∧ (s < T.length → s < tke T s) := by
  unfold tke
  split
  · rename_i h
    split
    · exact ⟨by omega, by omega, fun _ => by omega⟩
    · have := ten_ge (T := T) (k := kd (cha T s)) (T.length - (s + 1)) (s + 1)
      have := this.2 (by omega)
      exact ⟨by omega, by omega, fun _ => by omega⟩
  · exact ⟨Nat.le_refl _, hs, fun h => by omega⟩
theorem l97 : (97 : Int32).toInt = 97 := rfl
theorem l122 : (122 : Int32).toInt = 122 := rfl
theorem l48 : (48 : Int32).toInt = 48 := rfl
theorem l57 : (57 : Int32).toInt = 57 := rfl
theorem kd_i (c : Int32) : kd c = if 97 ≤ c.toInt ∧ c.toInt ≤ 122 then 1 else if 48 ≤ c.toInt ∧ c.toInt ≤ 57 then 2 else 3 := by
  unfold kd
  simp only [fa_le, l97, l122, l48, l57]
theorem x5_kindOf (c : Int32) : f_X5_kindOf c M = some (nI (kd c)) := by
  rw [kd_i]
  unfold f_X5_kindOf
  simp only [fa_lt, l97, l122, l48, l57]
  generalize c.toInt = v
  by_cases h1 : v < 97
  · rw [if_pos h1, if_neg (show ¬ (97 ≤ v ∧ v ≤ 122) by omega)]
    by_cases h2 : v < 48
    · rw [if_pos h2, if_neg (show ¬ (48 ≤ v ∧ v ≤ 57) by omega)]; rfl
    · rw [if_neg h2]
      by_cases h3 : 57 < v
      · rw [if_pos h3, if_neg (show ¬ (48 ≤ v ∧ v ≤ 57) by omega)]; rfl
      · rw [if_neg h3, if_pos (show 48 ≤ v ∧ v ≤ 57 by omega)]; rfl
  · rw [if_neg h1]
    by_cases h2 : 122 < v
    · rw [if_pos h2, if_neg (show ¬ (97 ≤ v ∧ v ≤ 122) by omega), if_neg (show ¬ (48 ≤ v ∧ v ≤ 57) by omega), if_neg (show ¬ v < 48 by omega), if_pos (show 57 < v by omega)]; rfl
    · rw [if_neg h2, if_pos (show 97 ≤ v ∧ v ≤ 122 by omega)]; rfl
theorem x8_isSmall (c : Int32) : f_X8_isSmall c M = some (if kd c = 1 then 1 else 0) := by
  have e11 : ¬ ¬ ((1 : Int32) = 0 ∨ (1 : Int32) = 1) := by decide
  have e00 : ¬ ¬ ((0 : Int32) = 0 ∨ (0 : Int32) = 1) := by decide
  unfold f_X8_isSmall
  by_cases h : 97 ≤ c ∧ c ≤ 122
  · rw [x8_inY (L := 97) (lo := 97) (H := 122) (hi := 122) (by decide) (by decide) h, bs, if_neg e11, if_pos (by unfold kd; rw [if_pos h])]
  · rw [x8_inN (L := 97) (lo := 97) (H := 122) (hi := 122) (by decide) (by decide) h, bs, if_neg e00, if_neg (by unfold kd; rw [if_neg h]; split <;> omega)]
theorem x8_isDigit (c : Int32) : f_X8_isDigit c M = some (if kd c = 2 then 1 else 0) := by
  have e11 : ¬ ¬ ((1 : Int32) = 0 ∨ (1 : Int32) = 1) := by decide
  have e00 : ¬ ¬ ((0 : Int32) = 0 ∨ (0 : Int32) = 1) := by decide
  unfold f_X8_isDigit
  by_cases h : 48 ≤ c ∧ c ≤ 57
  · rw [x8_inY (L := 48) (lo := 48) (H := 57) (hi := 57) (by decide) (by decide) h, bs, if_neg e11, if_pos (by
      rw [kd_i]
      have h1 := h.1
      have h2 := h.2
      rw [fa_le, l48] at h1
      rw [fa_le, l57] at h2
      rw [if_neg (by omega), if_pos (by omega)])]
  · rw [x8_inN (L := 48) (lo := 48) (H := 57) (hi := 57) (by decide) (by decide) h, bs, if_neg e00, if_neg (by
      unfold kd
      split
      · omega
      · omega)]
theorem T_at {j : Nat} (hT : ∀ j c, T[j]? = some c → M 46 j = c) (hj : j < T.length) : M 46 j = cha T j := by
  unfold cha
  rw [List.getD_eq_getElem?_getD, List.getElem?_eq_getElem hj]
  exact hT j _ (List.getElem?_eq_getElem hj)
theorem T_at8 {j : Nat} (hT : ∀ j c, T[j]? = some c → M 179 j = c) (hj : j < T.length) : M 179 j = cha T j := by
  unfold cha
  rw [List.getD_eq_getElem?_getD, List.getElem?_eq_getElem hj]
  exact hT j _ (List.getElem?_eq_getElem hj)
/-- the class goes on to the next token -/
theorem x5_next (hC : CT M T) (hL : T.length ≤ 200) {e : Nat} (he : e ≤ T.length) (h5 : M 45 5 = nI e) : ∃ M', f_X5_nextToken M = some M' ∧ (∀ c, c ≠ 45 → M' c = M c) ∧ M' 45 1 = M 45 1 ∧ M' 45 2 = M 45 2 ∧ M' 45 3 = nI (tkk T (tks T e)) ∧ M' 45 4 = nI (tks T e) ∧ M' 45 5 = nI (tke T (tks T e)) := by
  obtain ⟨h1, hT⟩ := hC
  have l8 : ∀ (kk : Mem → Option Mem) d i M1, i + d = T.length → (∀ c, c ≠ 45 → M1 c = M c) → M1 45 1 = nI T.length → M1 45 2 = M 45 2 → M1 45 4 = nI i → ∀ f, d < f → ∃ M2, f_X5_nextToken_8 kk f M1 = kk M2 ∧ (∀ c, c ≠ 45 → M2 c = M c) ∧ M2 45 1 = nI T.length ∧ M2 45 2 = M 45 2 ∧ M2 45 4 = nI (skp T d i) := by
    intro kk d
    induction d with
    | zero =>
      intro i M1 hi e1 e2 e3 e4 f hf
      obtain ⟨f, rfl⟩ : ∃ f', f = f' + 1 := ⟨f - 1, by omega⟩
      refine ⟨M1, ?_, e1, e2, e3, e4⟩
      simp (disch := omega) only [ef_X5_nextToken_8, s_X5_nextToken_8, e2, e4, iL, iT, iE, iN, iZ, i0, cl, nL, yL, nT, yT, s1_i, ad_i, z0, c0, la_1, la_2, la_11, la_12, la_21, la_22, la_27, la_54, la_10, la_243, ml_4, ml_6, ml_27, ml_10, ml_3, false_or, or_false, true_or, or_true, or_self, if_false, if_true, not_true, not_false_iff, bs, lt_p]
    | succ d ih =>
      intro i M1 hi e1 e2 e3 e4 f hf
      obtain ⟨f, rfl⟩ : ∃ f', f = f' + 1 := ⟨f - 1, by omega⟩
      have hi2 : i < T.length := by omega
      have hc : M1 46 i = cha T i := by rw [e1 46 (by omega)]; exact T_at hT hi2
      by_cases h32 : cha T i = 32
      · obtain ⟨M2, g1, g2⟩ := ih (i + 1) (um M1 45 4 (nI (i + 1))) (by omega) (fun c hc => by rw [um_a hc]; exact e1 c hc) (by rw [um_k (by omega)]; exact e2) (by rw [um_k (by omega)]; exact e3) um_s f (by omega)
        refine ⟨M2, ?_, ?_⟩
        · rw [← g1]
          simp (disch := omega) only [ef_X5_nextToken_8, s_X5_nextToken_8, e2, e4, hc, eq_true h32, iL, iT, iE, iN, iZ, i0, cl, nL, yL, nT, yT, s1_i, ad_i, z0, c0, la_1, la_2, la_11, la_12, la_21, la_22, la_27, la_54, la_10, la_243, ml_4, ml_6, ml_27, ml_10, ml_3, false_or, or_false, true_or, or_true, or_self, if_false, if_true, not_true, not_false_iff, bs, lt_p]
        · show _ ∧ _ ∧ _ ∧ M2 45 4 = nI (if i < T.length ∧ cha T i = 32 then skp T d (i + 1) else i)
          rw [if_pos ⟨hi2, h32⟩]
          exact g2
      · refine ⟨M1, ?_, e1, e2, e3, ?_⟩
        · simp (disch := omega) only [ef_X5_nextToken_8, s_X5_nextToken_8, e2, e4, hc, h32, iL, iT, iE, iN, iZ, i0, cl, nL, yL, nT, yT, s1_i, ad_i, z0, c0, la_1, la_2, la_11, la_12, la_21, la_22, la_27, la_54, la_10, la_243, ml_4, ml_6, ml_27, ml_10, ml_3, false_or, or_false, true_or, or_true, or_self, if_false, if_true, not_true, not_false_iff, bs, lt_p]
        · show M1 45 4 = nI (if i < T.length ∧ cha T i = 32 then skp T d (i + 1) else i)
          rw [if_neg (fun q => h32 q.2)]
          exact e4
  have l97 : ∀ (s k : Nat), k ≠ 3 → k < 4 → ∀ d i M1, i + d = T.length → (∀ c, c ≠ 45 → M1 c = M c) → M1 45 1 = nI T.length → M1 45 2 = M 45 2 → M1 45 3 = nI k → M1 45 4 = nI s → M1 45 5 = nI i → ∀ f, d < f → ∃ M2, f_X5_nextToken_97 (fun M9 => some M9) f M1 = some M2 ∧ (∀ c, c ≠ 45 → M2 c = M c) ∧ M2 45 1 = nI T.length ∧ M2 45 2 = M 45 2 ∧ M2 45 3 = nI k ∧ M2 45 4 = nI s ∧ M2 45 5 = nI (ten T k d i) := by
    intro s k hk3 hk4 d
    have n3 : ¬ nI k = 3 := fun q => hk3 ((iE (b := 3) (by omega) (by omega)).mp q)
    induction d with
    | zero =>
      intro i M1 hi e1 e2 e3 e4 e5 e6 f hf
      obtain ⟨f, rfl⟩ : ∃ f', f = f' + 1 := ⟨f - 1, by omega⟩
      refine ⟨M1, ?_, e1, e2, e3, e4, e5, e6⟩
      simp (disch := omega) only [ef_X5_nextToken_97, s_X5_nextToken_97, e2, e4, e6, n3, iL, iT, iE, iN, iZ, i0, cl, nL, yL, nT, yT, s1_i, ad_i, z0, c0, la_1, la_2, la_11, la_12, la_21, la_22, la_27, la_54, la_10, la_243, ml_4, ml_6, ml_27, ml_10, ml_3, false_or, or_false, true_or, or_true, or_self, if_false, if_true, not_true, not_false_iff, bs, lt_p]
    | succ d ih =>
      intro i M1 hi e1 e2 e3 e4 e5 e6 f hf
      obtain ⟨f, rfl⟩ : ∃ f', f = f' + 1 := ⟨f - 1, by omega⟩
      have hi2 : i < T.length := by omega
      have hc : M1 46 i = cha T i := by rw [e1 46 (by omega)]; exact T_at hT hi2
      have hkl := kd_le (cha T i)
      by_cases hk : kd (cha T i) = k
      · obtain ⟨M2, g1, g2⟩ := ih (i + 1) (um M1 45 5 (nI (i + 1))) (by omega) (fun c hc => by rw [um_a hc]; exact e1 c hc) (by rw [um_k (by omega)]; exact e2) (by rw [um_k (by omega)]; exact e3) (by rw [um_k (by omega)]; exact e4) (by rw [um_k (by omega)]; exact e5) um_s f (by omega)
        refine ⟨M2, ?_, ?_⟩
        · rw [← g1]
          simp (disch := omega) only [ef_X5_nextToken_97, s_X5_nextToken_97, e2, e4, e6, n3, hc, x5_kindOf, hk, eq_self, iL, iT, iE, iN, iZ, i0, cl, nL, yL, nT, yT, s1_i, ad_i, z0, c0, la_1, la_2, la_11, la_12, la_21, la_22, la_27, la_54, la_10, la_243, ml_4, ml_6, ml_27, ml_10, ml_3, false_or, or_false, true_or, or_true, or_self, if_false, if_true, not_true, not_false_iff, bs, lt_p]
        · show _ ∧ _ ∧ _ ∧ _ ∧ _ ∧ M2 45 5 = nI (if i < T.length ∧ kd (cha T i) = k then ten T k d (i + 1) else i)
          rw [if_pos ⟨hi2, hk⟩]
          exact g2
      · refine ⟨M1, ?_, e1, e2, e3, e4, e5, ?_⟩
        · have hne : ¬ nI (kd (cha T i)) = nI k := fun q => hk ((iE (by omega) (by omega)).mp q)
          simp (disch := omega) only [ef_X5_nextToken_97, s_X5_nextToken_97, e2, e4, e6, n3, hc, x5_kindOf, hne, iL, iT, iE, iN, iZ, i0, cl, nL, yL, nT, yT, s1_i, ad_i, z0, c0, la_1, la_2, la_11, la_12, la_21, la_22, la_27, la_54, la_10, la_243, ml_4, ml_6, ml_27, ml_10, ml_3, false_or, or_false, true_or, or_true, or_self, if_false, if_true, not_true, not_false_iff, bs, lt_p]
        · show M1 45 5 = nI (if i < T.length ∧ kd (cha T i) = k then ten T k d (i + 1) else i)
          rw [if_neg (fun q => hk q.2)]
          exact e6
  obtain ⟨M2, g1, g2, g3, g4, g5⟩ := l8 (fun (M2 : Mem) =>
    lt (um M2 45 5 (M2 45 4)) fun (M3 : Mem) =>
    if M3 45 4 < M3 45 1 then
      if M3 45 4 < 0 ∨ 200 ≤ (M3 45 4).toNatClampNeg then none else
      (f_X5_kindOf (M3 46 (M3 45 4).toNatClampNeg) M3).bind fun (r6 : Int32) =>
      lt (um M3 45 3 r6) fun (M7 : Mem) =>
      lt (um M7 45 5 ((M7 45 5) + 1)) fun (M8 : Mem) =>
      f_X5_nextToken_97  (fun (M9 : Mem) =>
        some M9) FU M8
    else
      lt (um M3 45 3 0) fun (M10 : Mem) =>
      some M10) (T.length - e) e (um M 45 4 (nI e)) (by omega) (fun c hc => um_a hc) (by rw [um_k (by omega)]; exact h1) (by rw [um_k (by omega)]) um_s FU (FU_gt (by omega))
  have hs : skp T (T.length - e) e = tks T e := rfl
  rw [hs] at g5
  have hsl := (tks_ok (T := T) he).2
  have hstart : ∀ R, (lt (um M2 45 5 (M2 45 4)) fun (M3 : Mem) =>
    if M3 45 4 < M3 45 1 then
      if M3 45 4 < 0 ∨ 200 ≤ (M3 45 4).toNatClampNeg then none else
      (f_X5_kindOf (M3 46 (M3 45 4).toNatClampNeg) M3).bind fun (r6 : Int32) =>
      lt (um M3 45 3 r6) fun (M7 : Mem) =>
      lt (um M7 45 5 ((M7 45 5) + 1)) fun (M8 : Mem) =>
      f_X5_nextToken_97  (fun (M9 : Mem) =>
        some M9) FU M8
    else
      lt (um M3 45 3 0) fun (M10 : Mem) =>
      some M10) = R → f_X5_nextToken M = R := fun R hR => by
    rw [← hR]
    unfold f_X5_nextToken
    rw [h5, lt_e]
    exact g1
  generalize tks T e = s at *
  by_cases hsT : s < T.length
  · have hc : M2 46 s = cha T s := by rw [g2 46 (by omega)]; exact T_at hT hsT
    have hkl := kd_le (cha T s)
    have hk : tkk T s = kd (cha T s) := if_pos hsT
    by_cases h3 : kd (cha T s) = 3
    · have he3 : tke T s = s + 1 := by unfold tke; rw [if_pos hsT, if_pos h3]
      refine ⟨um (um (um M2 45 5 (nI s)) 45 3 (nI 3)) 45 5 (nI (s + 1)), hstart _ ?_, fun c hc => by rw [um_a hc, um_a hc, um_a hc]; exact g2 c hc, by rw [um_k (by omega), um_k (by omega), um_k (by omega), g3, h1], by rw [um_k (by omega), um_k (by omega), um_k (by omega)]; exact g4, by rw [um_k (by omega), um_s, hk, h3], by rw [um_k (by omega), um_k (by omega), um_k (by omega)]; exact g5, by rw [um_s, he3]⟩
      have e33 : nI 3 = 3 := rfl
      simp (disch := omega) only [g5, um_k, um_s, um_a, g3, hc, x5_kindOf, h3, e33, iL, iT, iE, iN, iZ, i0, cl, nL, yL, nT, yT, s1_i, ad_i, z0, c0, la_1, la_2, la_11, la_12, la_21, la_22, la_27, la_54, la_10, la_243, ml_4, ml_6, ml_27, ml_10, ml_3, false_or, or_false, true_or, or_true, or_self, if_false, if_true, not_true, not_false_iff, bs, lt_p]
      rw [show FU = 19999 + 1 from rfl, ef_X5_nextToken_97]
      unfold s_X5_nextToken_97
      rw [if_pos (by rw [um_k (by omega), um_s])]
    · have he3 : tke T s = ten T (kd (cha T s)) (T.length - (s + 1)) (s + 1) := by unfold tke; rw [if_pos hsT, if_neg h3]
      obtain ⟨M3, k1, k2, k3, k4, k5, k6, k7⟩ := l97 s (kd (cha T s)) h3 (by omega) (T.length - (s + 1)) (s + 1) (um (um (um M2 45 5 (nI s)) 45 3 (nI (kd (cha T s)))) 45 5 (nI (s + 1))) (by omega) (fun c hc => by rw [um_a hc, um_a hc, um_a hc]; exact g2 c hc) (by rw [um_k (by omega), um_k (by omega), um_k (by omega)]; exact g3) (by rw [um_k (by omega), um_k (by omega), um_k (by omega)]; exact g4) (by rw [um_k (by omega), um_s]) (by rw [um_k (by omega), um_k (by omega), um_k (by omega)]; exact g5) um_s FU (FU_gt (by omega))
      refine ⟨M3, hstart _ ?_, k2, by rw [k3, h1], k4, by rw [k5, hk], k6, by rw [k7, he3]⟩
      rw [← k1]
      simp (disch := omega) only [g5, um_k, um_s, um_a, g3, hc, x5_kindOf, iL, iT, iE, iN, iZ, i0, cl, nL, yL, nT, yT, s1_i, ad_i, z0, c0, la_1, la_2, la_11, la_12, la_21, la_22, la_27, la_54, la_10, la_243, ml_4, ml_6, ml_27, ml_10, ml_3, false_or, or_false, true_or, or_true, or_self, if_false, if_true, not_true, not_false_iff, bs, lt_p]
  · have hk : tkk T s = 0 := if_neg hsT
    have he3 : tke T s = s := by unfold tke; rw [if_neg hsT]
    refine ⟨um (um M2 45 5 (nI s)) 45 3 0, hstart _ ?_, fun c hc => by rw [um_a hc, um_a hc]; exact g2 c hc, by rw [um_k (by omega), um_k (by omega), g3, h1], by rw [um_k (by omega), um_k (by omega)]; exact g4, by rw [um_s, hk]; rfl, by rw [um_k (by omega), um_k (by omega)]; exact g5, by rw [um_k (by omega), um_s, he3]⟩
    simp (disch := omega) only [g5, um_k, um_s, um_a, g3, iL, iT, iE, iN, iZ, i0, cl, nL, yL, nT, yT, s1_i, ad_i, z0, c0, la_1, la_2, la_11, la_12, la_21, la_22, la_27, la_54, la_10, la_243, ml_4, ml_6, ml_27, ml_10, ml_3, false_or, or_false, true_or, or_true, or_self, if_false, if_true, not_true, not_false_iff, bs, lt_p]
/-- the reference goes on to the next token -/
theorem x8_next (hC : MT M T) (hL : T.length ≤ 200) {e : Nat} (he : e ≤ T.length) (h16 : M 176 16 = nI e) : ∃ M', f_X8_nextToken M = some M' ∧ (∀ c, c ≠ 176 → M' c = M c) ∧ (∀ j, j ≠ 15 → j ≠ 16 → M' 176 j = M 176 j) ∧ M' 176 15 = nI (tks T e) ∧ M' 176 16 = nI (tke T (tks T e)) := by
  obtain ⟨h1, hT⟩ := hC
  have l8 : ∀ (kk : Mem → Option Mem) d i M1, i + d = T.length → (∀ c, c ≠ 176 → M1 c = M c) → (∀ j, j ≠ 15 → j ≠ 16 → M1 176 j = M 176 j) → M1 176 15 = nI i → ∀ f, d < f → ∃ M2, f_X8_nextToken_8 kk f M1 = kk M2 ∧ (∀ c, c ≠ 176 → M2 c = M c) ∧ (∀ j, j ≠ 15 → j ≠ 16 → M2 176 j = M 176 j) ∧ M2 176 15 = nI (skp T d i) := by
    intro kk d
    induction d with
    | zero =>
      intro i M1 hi e1 e2 e4 f hf
      obtain ⟨f, rfl⟩ : ∃ f', f = f' + 1 := ⟨f - 1, by omega⟩
      refine ⟨M1, ?_, e1, e2, e4⟩
      have e5 : M1 176 5 = nI T.length := by rw [e2 5 (by omega) (by omega)]; exact h1
      simp (disch := omega) only [ef_X8_nextToken_8, s_X8_nextToken_8, e5, e4, iL, iT, iE, iN, iZ, i0, cl, nL, yL, nT, yT, s1_i, ad_i, z0, c0, la_1, la_2, la_11, la_12, la_21, la_22, la_27, la_54, la_10, la_243, ml_4, ml_6, ml_27, ml_10, ml_3, false_or, or_false, true_or, or_true, or_self, if_false, if_true, not_true, not_false_iff, bs, lt_p]
    | succ d ih =>
      intro i M1 hi e1 e2 e4 f hf
      obtain ⟨f, rfl⟩ : ∃ f', f = f' + 1 := ⟨f - 1, by omega⟩
      have hi2 : i < T.length := by omega
      have e5 : M1 176 5 = nI T.length := by rw [e2 5 (by omega) (by omega)]; exact h1
      have hc : M1 179 i = cha T i := by rw [e1 179 (by omega)]; exact T_at8 hT hi2
      by_cases h32 : cha T i = 32
      · obtain ⟨M2, g1, g2⟩ := ih (i + 1) (um M1 176 15 (nI (i + 1))) (by omega) (fun c hc => by rw [um_a hc]; exact e1 c hc) (fun j j1 j2 => by rw [um_k j1]; exact e2 j j1 j2) um_s f (by omega)
        refine ⟨M2, ?_, ?_⟩
        · rw [← g1]
          simp (disch := omega) only [ef_X8_nextToken_8, s_X8_nextToken_8, e5, e4, hc, eq_true h32, iL, iT, iE, iN, iZ, i0, cl, nL, yL, nT, yT, s1_i, ad_i, z0, c0, la_1, la_2, la_11, la_12, la_21, la_22, la_27, la_54, la_10, la_243, ml_4, ml_6, ml_27, ml_10, ml_3, false_or, or_false, true_or, or_true, or_self, if_false, if_true, not_true, not_false_iff, bs, lt_p]
        · show _ ∧ _ ∧ M2 176 15 = nI (if i < T.length ∧ cha T i = 32 then skp T d (i + 1) else i)
          rw [if_pos ⟨hi2, h32⟩]
          exact g2
      · refine ⟨M1, ?_, e1, e2, ?_⟩
        · simp (disch := omega) only [ef_X8_nextToken_8, s_X8_nextToken_8, e5, e4, hc, h32, iL, iT, iE, iN, iZ, i0, cl, nL, yL, nT, yT, s1_i, ad_i, z0, c0, la_1, la_2, la_11, la_12, la_21, la_22, la_27, la_54, la_10, la_243, ml_4, ml_6, ml_27, ml_10, ml_3, false_or, or_false, true_or, or_true, or_self, if_false, if_true, not_true, not_false_iff, bs, lt_p]
        · show M1 176 15 = nI (if i < T.length ∧ cha T i = 32 then skp T d (i + 1) else i)
          rw [if_neg (fun q => h32 q.2)]
          exact e4
  have l100 : ∀ (s : Nat), ∀ d i M1, i + d = T.length → (∀ c, c ≠ 176 → M1 c = M c) → (∀ j, j ≠ 15 → j ≠ 16 → M1 176 j = M 176 j) → M1 176 15 = nI s → M1 176 16 = nI i → ∀ f, d < f → (∃ M2, f_X8_nextToken_100 (fun M9 => some M9) f M1 = some M2 ∧ (∀ c, c ≠ 176 → M2 c = M c) ∧ (∀ j, j ≠ 15 → j ≠ 16 → M2 176 j = M 176 j) ∧ M2 176 15 = nI s ∧ M2 176 16 = nI (ten T 1 d i)) ∧ ∃ M2, f_X8_nextToken_165 (fun M9 => some M9) f M1 = some M2 ∧ (∀ c, c ≠ 176 → M2 c = M c) ∧ (∀ j, j ≠ 15 → j ≠ 16 → M2 176 j = M 176 j) ∧ M2 176 15 = nI s ∧ M2 176 16 = nI (ten T 2 d i) := by
    intro s d
    induction d with
    | zero =>
      intro i M1 hi e1 e2 e5 e6 f hf
      obtain ⟨f, rfl⟩ : ∃ f', f = f' + 1 := ⟨f - 1, by omega⟩
      have e7 : M1 176 5 = nI T.length := by rw [e2 5 (by omega) (by omega)]; exact h1
      refine ⟨⟨M1, ?_, e1, e2, e5, e6⟩, ⟨M1, ?_, e1, e2, e5, e6⟩⟩
      · simp (disch := omega) only [ef_X8_nextToken_100, s_X8_nextToken_100, e7, e6, iL, iT, iE, iN, iZ, i0, cl, nL, yL, nT, yT, s1_i, ad_i, z0, c0, la_1, la_2, la_11, la_12, la_21, la_22, la_27, la_54, la_10, la_243, ml_4, ml_6, ml_27, ml_10, ml_3, false_or, or_false, true_or, or_true, or_self, if_false, if_true, not_true, not_false_iff, bs, lt_p]
      · simp (disch := omega) only [ef_X8_nextToken_165, s_X8_nextToken_165, e7, e6, iL, iT, iE, iN, iZ, i0, cl, nL, yL, nT, yT, s1_i, ad_i, z0, c0, la_1, la_2, la_11, la_12, la_21, la_22, la_27, la_54, la_10, la_243, ml_4, ml_6, ml_27, ml_10, ml_3, false_or, or_false, true_or, or_true, or_self, if_false, if_true, not_true, not_false_iff, bs, lt_p]
    | succ d ih =>
      intro i M1 hi e1 e2 e5 e6 f hf
      obtain ⟨f, rfl⟩ : ∃ f', f = f' + 1 := ⟨f - 1, by omega⟩
      have hi2 : i < T.length := by omega
      have e7 : M1 176 5 = nI T.length := by rw [e2 5 (by omega) (by omega)]; exact h1
      have hc : M1 179 i = cha T i := by rw [e1 179 (by omega)]; exact T_at8 hT hi2
      obtain ⟨⟨M2, g1, g2⟩, ⟨M3, k1, k2⟩⟩ := ih (i + 1) (um M1 176 16 (nI (i + 1))) (by omega) (fun c hc => by rw [um_a hc]; exact e1 c hc) (fun j j1 j2 => by rw [um_k j2]; exact e2 j j1 j2) (by rw [um_k (by omega)]; exact e5) um_s f (by omega)
      constructor
      · by_cases hk : kd (cha T i) = 1
        · refine ⟨M2, ?_, ?_⟩
          · rw [← g1]
            simp (disch := omega) only [ef_X8_nextToken_100, s_X8_nextToken_100, e7, e6, hc, x8_isSmall, hk, e10, eq_self, iL, iT, iE, iN, iZ, i0, cl, nL, yL, nT, yT, s1_i, ad_i, z0, c0, la_1, la_2, la_11, la_12, la_21, la_22, la_27, la_54, la_10, la_243, ml_4, ml_6, ml_27, ml_10, ml_3, false_or, or_false, true_or, or_true, or_self, if_false, if_true, not_true, not_false_iff, bs, lt_p]
          · show _ ∧ _ ∧ _ ∧ M2 176 16 = nI (if i < T.length ∧ kd (cha T i) = 1 then ten T 1 d (i + 1) else i)
            rw [if_pos ⟨hi2, hk⟩]
            exact g2
        · refine ⟨M1, ?_, e1, e2, e5, ?_⟩
          · simp (disch := omega) only [ef_X8_nextToken_100, s_X8_nextToken_100, e7, e6, hc, x8_isSmall, hk, eq_self, iL, iT, iE, iN, iZ, i0, cl, nL, yL, nT, yT, s1_i, ad_i, z0, c0, la_1, la_2, la_11, la_12, la_21, la_22, la_27, la_54, la_10, la_243, ml_4, ml_6, ml_27, ml_10, ml_3, false_or, or_false, true_or, or_true, or_self, if_false, if_true, not_true, not_false_iff, bs, lt_p]
          · show M1 176 16 = nI (if i < T.length ∧ kd (cha T i) = 1 then ten T 1 d (i + 1) else i)
            rw [if_neg (fun q => hk q.2)]
            exact e6
      · by_cases hk : kd (cha T i) = 2
        · refine ⟨M3, ?_, ?_⟩
          · rw [← k1]
            simp (disch := omega) only [ef_X8_nextToken_165, s_X8_nextToken_165, e7, e6, hc, x8_isDigit, hk, e10, eq_self, iL, iT, iE, iN, iZ, i0, cl, nL, yL, nT, yT, s1_i, ad_i, z0, c0, la_1, la_2, la_11, la_12, la_21, la_22, la_27, la_54, la_10, la_243, ml_4, ml_6, ml_27, ml_10, ml_3, false_or, or_false, true_or, or_true, or_self, if_false, if_true, not_true, not_false_iff, bs, lt_p]
          · show _ ∧ _ ∧ _ ∧ M3 176 16 = nI (if i < T.length ∧ kd (cha T i) = 2 then ten T 2 d (i + 1) else i)
            rw [if_pos ⟨hi2, hk⟩]
            exact k2
        · refine ⟨M1, ?_, e1, e2, e5, ?_⟩
          · simp (disch := omega) only [ef_X8_nextToken_165, s_X8_nextToken_165, e7, e6, hc, x8_isDigit, hk, eq_self, iL, iT, iE, iN, iZ, i0, cl, nL, yL, nT, yT, s1_i, ad_i, z0, c0, la_1, la_2, la_11, la_12, la_21, la_22, la_27, la_54, la_10, la_243, ml_4, ml_6, ml_27, ml_10, ml_3, false_or, or_false, true_or, or_true, or_self, if_false, if_true, not_true, not_false_iff, bs, lt_p]
          · show M1 176 16 = nI (if i < T.length ∧ kd (cha T i) = 2 then ten T 2 d (i + 1) else i)
            rw [if_neg (fun q => hk q.2)]
            exact e6
  obtain ⟨M2, g1, g2, g3, g5⟩ := l8 _ (T.length - e) e (um M 176 15 (nI e)) (by omega) (fun c hc => um_a hc) (fun j j1 j2 => um_k j1) um_s FU (FU_gt (by omega))
  have hs : skp T (T.length - e) e = tks T e := rfl
  rw [hs] at g5
  have hsl := (tks_ok (T := T) he).2
  have e5 : M2 176 5 = nI T.length := by rw [g3 5 (by omega) (by omega)]; exact h1
  unfold f_X8_nextToken
  rw [h16, lt_e, g1]
  generalize tks T e = s at *
  by_cases hsT : s < T.length
  · have hc : M2 179 s = cha T s := by rw [g2 179 (by omega)]; exact T_at8 hT hsT
    obtain ⟨⟨M3, p1, p2, p3, p4, p5⟩, ⟨M4, q1, q2, q3, q4, q5⟩⟩ := l100 s (T.length - (s + 1)) (s + 1) (um M2 176 16 (nI (s + 1))) (by omega) (fun c hc => by rw [um_a hc]; exact g2 c hc) (fun j j1 j2 => by rw [um_k j2]; exact g3 j j1 j2) (by rw [um_k (by omega)]; exact g5) um_s FU (FU_gt (by omega))
    have hkl := kd_le (cha T s)
    by_cases k1 : kd (cha T s) = 1
    · refine ⟨M3, ?_, p2, p3, p4, by rw [p5]; unfold tke; rw [if_pos hsT, if_neg (by omega), k1]⟩
      rw [← p1]
      simp (disch := omega) only [e5, g5, um_k, um_a, hc, x8_isSmall, k1, e10, eq_self, iL, iT, iE, iN, iZ, i0, cl, nL, yL, nT, yT, s1_i, ad_i, z0, c0, la_1, la_2, la_11, la_12, la_21, la_22, la_27, la_54, la_10, la_243, ml_4, ml_6, ml_27, ml_10, ml_3, false_or, or_false, true_or, or_true, or_self, if_false, if_true, not_true, not_false_iff, bs, lt_p]
    · by_cases k2 : kd (cha T s) = 2
      · refine ⟨M4, ?_, q2, q3, q4, by rw [q5]; unfold tke; rw [if_pos hsT, if_neg (by omega), k2]⟩
        rw [← q1]
        have n21 : ¬ (2 : Nat) = 1 := by omega
        simp (disch := omega) only [e5, g5, um_k, um_a, hc, x8_isSmall, x8_isDigit, k2, n21, e10, eq_self, iL, iT, iE, iN, iZ, i0, cl, nL, yL, nT, yT, s1_i, ad_i, z0, c0, la_1, la_2, la_11, la_12, la_21, la_22, la_27, la_54, la_10, la_243, ml_4, ml_6, ml_27, ml_10, ml_3, false_or, or_false, true_or, or_true, or_self, if_false, if_true, not_true, not_false_iff, bs, lt_p]
      · refine ⟨um M2 176 16 (nI (s + 1)), ?_, fun c hc => by rw [um_a hc]; exact g2 c hc, fun j j1 j2 => by rw [um_k j2]; exact g3 j j1 j2, by rw [um_k (by omega)]; exact g5, by rw [um_s]; unfold tke; rw [if_pos hsT, if_pos (by omega)]⟩
        simp (disch := omega) only [e5, g5, um_k, um_a, hc, x8_isSmall, x8_isDigit, k1, k2, eq_self, iL, iT, iE, iN, iZ, i0, cl, nL, yL, nT, yT, s1_i, ad_i, z0, c0, la_1, la_2, la_11, la_12, la_21, la_22, la_27, la_54, la_10, la_243, ml_4, ml_6, ml_27, ml_10, ml_3, false_or, or_false, true_or, or_true, or_self, if_false, if_true, not_true, not_false_iff, bs, lt_p]
  · refine ⟨um M2 176 16 (nI s), ?_, fun c hc => by rw [um_a hc]; exact g2 c hc, fun j j1 j2 => by rw [um_k j2]; exact g3 j j1 j2, by rw [um_k (by omega)]; exact g5, by rw [um_s]; unfold tke; rw [if_neg hsT]⟩
    simp (disch := omega) only [e5, g5, um_k, um_a, iL, iT, iE, iN, iZ, i0, cl, nL, yL, nT, yT, s1_i, ad_i, z0, c0, la_1, la_2, la_11, la_12, la_21, la_22, la_27, la_54, la_10, la_243, ml_4, ml_6, ml_27, ml_10, ml_3, false_or, or_false, true_or, or_true, or_self, if_false, if_true, not_true, not_false_iff, bs, lt_p]
end TOKEN

/-! ===== the class's quiver: reads ===== -/
theorem x2_hasPoint {M : Mem} {a n : Nat} (hn : M a 0 = nI n) (hn6 : n ≤ 6) (j : Nat) (hj : j < n) : f_X2_hasPoint a (nI j) M = some 1 := by
  simp (disch := omega) only [f_X2_hasPoint, hn, iL, iT, iE, iN, iZ, i0, cl, nL, yL, nT, yT, s1_i, ad_i, z0, c0, la_1, la_2, la_11, la_12, la_21, la_22, la_27, la_54, la_10, la_243, ml_4, ml_6, ml_27, ml_10, ml_3, false_or, or_false, true_or, or_true, or_self, if_false, if_true, not_true, not_false_iff, Option.bind_some, lt]
theorem x2_hasPointN {M : Mem} {a n : Nat} {i : Int32} (hn : M a 0 = nI n) (h : i < 0 ∨ nI n ≤ i) : f_X2_hasPoint a i M = some 0 := by
  unfold f_X2_hasPoint
  by_cases h0 : i < 0
  · rw [if_pos h0]
  · rw [if_neg h0, hn, if_pos (h.resolve_left h0)]
theorem x2_hasArrow {M : Mem} {a n : Nat} (hn : M a 1 = nI n) (hn6 : n ≤ 10) (j : Nat) (hj : j < n) : f_X2_hasArrow a (nI j) M = some 1 := by
  simp (disch := omega) only [f_X2_hasArrow, hn, iL, iT, iE, iN, iZ, i0, cl, nL, yL, nT, yT, s1_i, ad_i, z0, c0, la_1, la_2, la_11, la_12, la_21, la_22, la_27, la_54, la_10, la_243, ml_4, ml_6, ml_27, ml_10, ml_3, false_or, or_false, true_or, or_true, or_self, if_false, if_true, not_true, not_false_iff, Option.bind_some, lt]
theorem x2_hasArrowN {M : Mem} {a n : Nat} {i : Int32} (hn : M a 1 = nI n) (h : i < 0 ∨ nI n ≤ i) : f_X2_hasArrow a i M = some 0 := by
  unfold f_X2_hasArrow
  by_cases h0 : i < 0
  · rw [if_pos h0]
  · rw [if_neg h0, hn, if_pos (h.resolve_left h0)]
/-- arrows that come to p, that go from p -/
def cin (A : Arr) (p : Nat) : Int32 := A.foldl (fun c e => if e.2 = p then c + 1 else c) 0
def cou (A : Arr) (p : Nat) : Int32 := A.foldl (fun c e => if e.1 = p then c + 1 else c) 0
theorem x2_coming {M : Mem} {a n : Nat} {A : Arr} {x : Row} (hq : CQ M a n A x) (hA : OKA n A) (hn : n ≤ 6) (p : Nat) (hp : p < n) : f_X2_coming a (nI p) M = some (cin A p) := by
  have hl := hA.1
  refine loop_L (fun m c j => f_X2_coming_4 a (nI p) M (fun i2 _ => some i2) m c (nI j)) (fun c => some c) A (fun e c => if e.2 = p then c + 1 else c) 0 (fun m j c hj => ?_) (fun m c => ?_) FU (FU_gt (by omega))
  · have ht := (hA.at j hj)
    simp (disch := omega) only [ef_X2_coming_4, s_X2_coming_4, hq.2.1, (hq.at j hj).2, iL, iT, iE, iN, iZ, i0, cl, nL, yL, nT, yT, s1_i, ad_i, z0, c0, la_1, la_2, la_11, la_12, la_21, la_22, la_27, la_54, la_10, la_243, ml_4, ml_6, ml_27, ml_10, ml_3, false_or, or_false, true_or, or_true, or_self, if_false, if_true, not_true, not_false_iff, Option.bind_some, lt]
    by_cases hc : tt A j = p
    · rw [if_pos hc, if_pos hc]
    · rw [if_neg hc, if_neg hc]
  · simp (disch := omega) only [ef_X2_coming_4, s_X2_coming_4, hq.2.1, iL, iT, iE, iN, iZ, i0, cl, nL, yL, nT, yT, s1_i, ad_i, z0, c0, la_1, la_2, la_11, la_12, la_21, la_22, la_27, la_54, la_10, la_243, ml_4, ml_6, ml_27, ml_10, ml_3, false_or, or_false, true_or, or_true, or_self, if_false, if_true, not_true, not_false_iff, Option.bind_some, lt]
theorem x2_going {M : Mem} {a n : Nat} {A : Arr} {x : Row} (hq : CQ M a n A x) (hA : OKA n A) (hn : n ≤ 6) (p : Nat) (hp : p < n) : f_X2_going a (nI p) M = some (cou A p) := by
  have hl := hA.1
  refine loop_L (fun m c j => f_X2_going_4 a (nI p) M (fun i2 _ => some i2) m c (nI j)) (fun c => some c) A (fun e c => if e.1 = p then c + 1 else c) 0 (fun m j c hj => ?_) (fun m c => ?_) FU (FU_gt (by omega))
  · have ht := (hA.at j hj)
    simp (disch := omega) only [ef_X2_going_4, s_X2_going_4, hq.2.1, (hq.at j hj).1, iL, iT, iE, iN, iZ, i0, cl, nL, yL, nT, yT, s1_i, ad_i, z0, c0, la_1, la_2, la_11, la_12, la_21, la_22, la_27, la_54, la_10, la_243, ml_4, ml_6, ml_27, ml_10, ml_3, false_or, or_false, true_or, or_true, or_self, if_false, if_true, not_true, not_false_iff, Option.bind_some, lt]
    by_cases hc : fr A j = p
    · rw [if_pos hc, if_pos hc]
    · rw [if_neg hc, if_neg hc]
  · simp (disch := omega) only [ef_X2_going_4, s_X2_going_4, hq.2.1, iL, iT, iE, iN, iZ, i0, cl, nL, yL, nT, yT, s1_i, ad_i, z0, c0, la_1, la_2, la_11, la_12, la_21, la_22, la_27, la_54, la_10, la_243, ml_4, ml_6, ml_27, ml_10, ml_3, false_or, or_false, true_or, or_true, or_self, if_false, if_true, not_true, not_false_iff, Option.bind_some, lt]
/-- Euler's form of two rows -/
def eul (n : Nat) (A : Arr) (y z : Row) : Int32 := A.foldl (fun s e => s - y e.1 * z e.2) (fo (fun i s => s + y i * z i) n 0)
theorem x2_eulerOf {M : Mem} {a n : Nat} {A : Arr} {x : Row} (hq : CQ M a n A x) (hA : OKA n A) (hn : n ≤ 6) (b c : Nat) : f_X2_eulerOf a b c M = some (eul n A (M b) (M c)) := by
  have hl := hA.1
  unfold f_X2_eulerOf
  have h1 := loop_u (fun m s j => f_X2_eulerOf_5 a b c M (fun i3 i4 => f_X2_eulerOf_35 a b c M (fun i _ => some i) FU i3 0) m s (nI j)) (fun s => f_X2_eulerOf_35 a b c M (fun i _ => some i) FU s 0) n (fun i s => s + M b i * M c i) 0 (fun m j s hj => ?_) (fun m s => ?_) FU (FU_gt (by omega))
  · refine h1.trans ?_
    refine loop_L (fun m s j => f_X2_eulerOf_35 a b c M (fun i _ => some i) m s (nI j)) (fun c => some c) A (fun e s => s - M b e.1 * M c e.2) _ (fun m j s hj => ?_) (fun m s => ?_) FU (FU_gt (by omega))
    · have ht := (hA.at j hj)
      simp (disch := omega) only [ef_X2_eulerOf_35, s_X2_eulerOf_35, hq.2.1, (hq.at j hj).1, (hq.at j hj).2, iL, iT, iE, iN, iZ, i0, cl, nL, yL, nT, yT, s1_i, ad_i, z0, c0, la_1, la_2, la_11, la_12, la_21, la_22, la_27, la_54, la_10, la_243, ml_4, ml_6, ml_27, ml_10, ml_3, false_or, or_false, true_or, or_true, or_self, if_false, if_true, not_true, not_false_iff, Option.bind_some, lt]
    · simp (disch := omega) only [ef_X2_eulerOf_35, s_X2_eulerOf_35, hq.2.1, iL, iT, iE, iN, iZ, i0, cl, nL, yL, nT, yT, s1_i, ad_i, z0, c0, la_1, la_2, la_11, la_12, la_21, la_22, la_27, la_54, la_10, la_243, ml_4, ml_6, ml_27, ml_10, ml_3, false_or, or_false, true_or, or_true, or_self, if_false, if_true, not_true, not_false_iff, Option.bind_some, lt]
  · simp (disch := omega) only [ef_X2_eulerOf_5, s_X2_eulerOf_5, hq.1, iL, iT, iE, iN, iZ, i0, cl, nL, yL, nT, yT, s1_i, ad_i, z0, c0, la_1, la_2, la_11, la_12, la_21, la_22, la_27, la_54, la_10, la_243, ml_4, ml_6, ml_27, ml_10, ml_3, false_or, or_false, true_or, or_true, or_self, if_false, if_true, not_true, not_false_iff, Option.bind_some, lt]
  · simp (disch := omega) only [ef_X2_eulerOf_5, s_X2_eulerOf_5, hq.1, iL, iT, iE, iN, iZ, i0, cl, nL, yL, nT, yT, s1_i, ad_i, z0, c0, la_1, la_2, la_11, la_12, la_21, la_22, la_27, la_54, la_10, la_243, ml_4, ml_6, ml_27, ml_10, ml_3, false_or, or_false, true_or, or_true, or_self, if_false, if_true, not_true, not_false_iff, Option.bind_some, lt]
/-- what there is at p, turned about -/
def trn (A : Arr) (y : Row) (p : Nat) : Int32 := A.foldl (fun s e => if e.1 = p then (if e.2 = p then s + y e.2 + y e.1 else s + y e.2) else (if e.2 = p then s + y e.1 else s)) (-(y p))
theorem x2_turnedAbout {M : Mem} {a n : Nat} {A : Arr} {x : Row} (hq : CQ M a n A x) (hA : OKA n A) (hn : n ≤ 6) (b p : Nat) (hp : p < n) : f_X2_turnedAbout a b (nI p) M = some (trn A (M b) p) := by
  have hl := hA.1
  simp (disch := omega) only [f_X2_turnedAbout, iL, iT, iE, iN, iZ, i0, cl, nL, yL, nT, yT, s1_i, ad_i, z0, c0, la_1, la_2, la_11, la_12, la_21, la_22, la_27, la_54, la_10, la_243, ml_4, ml_6, ml_27, ml_10, ml_3, false_or, or_false, true_or, or_true, or_self, if_false, if_true, not_true, not_false_iff, Option.bind_some, lt]
  refine loop_L (fun m s j => f_X2_turnedAbout_8 a b (nI p) M (fun i _ => some i) m s (nI j)) (fun c => some c) A (fun e s => if e.1 = p then (if e.2 = p then s + M b e.2 + M b e.1 else s + M b e.2) else (if e.2 = p then s + M b e.1 else s)) _ (fun m j s hj => ?_) (fun m s => ?_) FU (FU_gt (by omega))
  · have ht := (hA.at j hj)
    simp (disch := omega) only [ef_X2_turnedAbout_8, s_X2_turnedAbout_8, hq.2.1, (hq.at j hj).1, (hq.at j hj).2, iL, iT, iE, iN, iZ, i0, cl, nL, yL, nT, yT, s1_i, ad_i, z0, c0, la_1, la_2, la_11, la_12, la_21, la_22, la_27, la_54, la_10, la_243, ml_4, ml_6, ml_27, ml_10, ml_3, false_or, or_false, true_or, or_true, or_self, if_false, if_true, not_true, not_false_iff, Option.bind_some, lt]
    by_cases hc : fr A j = p
    · by_cases hd : tt A j = p
      · simp only [hc, hd, if_true]
      · simp only [hc, hd, if_true, if_false]
    · by_cases hd : tt A j = p
      · simp only [hc, hd, if_true, if_false]
      · simp only [hc, hd, if_false]
  · simp (disch := omega) only [ef_X2_turnedAbout_8, s_X2_turnedAbout_8, hq.2.1, iL, iT, iE, iN, iZ, i0, cl, nL, yL, nT, yT, s1_i, ad_i, z0, c0, la_1, la_2, la_11, la_12, la_21, la_22, la_27, la_54, la_10, la_243, ml_4, ml_6, ml_27, ml_10, ml_3, false_or, or_false, true_or, or_true, or_self, if_false, if_true, not_true, not_false_iff, Option.bind_some, lt]

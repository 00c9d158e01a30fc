/-! ===== the reference: bounds, reads of its quiver ===== -/
theorem fa_lt (a b : Int32) : a < b ↔ a.toInt < b.toInt := Int32.lt_iff_toInt_lt
theorem fa_le (a b : Int32) : a ≤ b ↔ a.toInt ≤ b.toInt := Int32.le_iff_toInt_le
theorem fa_eq (a b : Int32) : a = b ↔ a.toInt = b.toInt := Int32.toInt_inj.symm
theorem fa_lt64 (a b : Int64) : a < b ↔ a.toInt < b.toInt := Int64.lt_iff_toInt_lt
theorem fa_le64 (a b : Int64) : a ≤ b ↔ a.toInt ≤ b.toInt := Int64.le_iff_toInt_le
theorem lc_lt (x y : Int64) : lg_cmp x y < 0 ↔ x < y := by
  have h := lg_cmp_ge x y
  rw [fa_le] at h
  rw [fa_lt, fa_lt64]
  rw [fa_le64] at h
  have e : (0 : Int32).toInt = 0 := by decide
  rw [e] at h ⊢
  omega
theorem lc_gt (x y : Int64) : 0 < lg_cmp x y ↔ y < x := by
  unfold lg_cmp
  by_cases h : x > y
  · rw [if_pos h]
    exact iff_of_true (by decide) h
  · rw [if_neg h]
    refine iff_of_false ?_ h
    by_cases h2 : x = y
    · rw [if_pos h2]; decide
    · rw [if_neg h2]; decide
theorem x8_inY {i lo hi : Int32} {L H : Int64} {M : Mem} (hL : L = lo.toInt64) (hH : H = hi.toInt64) (h : lo ≤ i ∧ i ≤ hi) : f_X8_in i.toInt64 L H M = some 1 := by
  unfold f_X8_in
  have h1 := (fa_le _ _).mp h.1
  have h2 := (fa_le _ _).mp h.2
  rw [if_neg (by rw [lc_lt, hL, fa_lt64, Int32.toInt_toInt64, Int32.toInt_toInt64]; omega), if_neg (by rw [lc_gt, hH, fa_lt64, Int32.toInt_toInt64, Int32.toInt_toInt64]; omega)]
theorem x8_inN {i lo hi : Int32} {L H : Int64} {M : Mem} (hL : L = lo.toInt64) (hH : H = hi.toInt64) (h : ¬ (lo ≤ i ∧ i ≤ hi)) : f_X8_in i.toInt64 L H M = some 0 := by
  unfold f_X8_in
  by_cases h1 : lo ≤ i
  · have h2 : ¬ i ≤ hi := fun q => h ⟨h1, q⟩
    have g1 := (fa_le _ _).mp h1
    have g2 : ¬ i.toInt ≤ hi.toInt := fun q => h2 ((fa_le _ _).mpr q)
    rw [if_neg (by rw [lc_lt, hL, fa_lt64, Int32.toInt_toInt64, Int32.toInt_toInt64]; omega), if_pos (by rw [lc_gt, hH, fa_lt64, Int32.toInt_toInt64, Int32.toInt_toInt64]; omega)]
  · have g1 : ¬ lo.toInt ≤ i.toInt := fun q => h1 ((fa_le _ _).mpr q)
    rw [if_pos (by rw [lc_lt, hL, fa_lt64, Int32.toInt_toInt64, Int32.toInt_toInt64]; omega)]
theorem rg_iff {i : Int32} {n : Nat} (hn : 1 ≤ n) (hn2 : n < 2147483648) : (0 ≤ i ∧ i ≤ nI n - 1) ↔ ¬ (i < 0 ∨ nI n ≤ i) := by
  have e : nI n - 1 = nI (n - 1) := sb_i (b := 1) hn
  rw [e, fa_le, fa_le, fa_le, fa_lt, nI_toInt (by omega), nI_toInt (by omega), show (0 : Int32).toInt = 0 from rfl]
  omega
theorem x8_isPoint {M : Mem} {n : Nat} (hn : M 176 0 = nI n) (hn6 : n ≤ 6) (j : Nat) (hj : j < n) : f_X8_isPoint (nI j) M = some 1 := by
  unfold f_X8_isPoint
  rw [hn, x8_inY (L := 0) (lo := 0) (hi := nI n - 1) (by decide) rfl ((rg_iff (by omega) (by omega)).mpr (fun q => q.elim (fun h => (iN (by omega)).mp h) (fun h => by have := (iL (by omega) (by omega)).mp h; omega)))]
  rfl
theorem x8_isPointN {M : Mem} {n : Nat} {i : Int32} (hn : M 176 0 = nI n) (hn1 : 1 ≤ n) (hn6 : n ≤ 6) (h : i < 0 ∨ nI n ≤ i) : f_X8_isPoint i M = some 0 := by
  unfold f_X8_isPoint
  rw [hn, x8_inN (L := 0) (lo := 0) (hi := nI n - 1) (by decide) rfl (fun q => (rg_iff (by omega) (by omega)).mp q h)]
  rfl
theorem x8_comes {M : Mem} {n : Nat} {A : Arr} {x : Row} (hq : RQ (M 177) 0 A x) (hA : OKA n A) (hn : n ≤ 6) (p : Nat) (hp : p < n) : f_X8_comes (nI p) M = some (cin A p) := by
  have hl := hA.1
  refine loop_L (fun m c j => f_X8_comes_4 (nI p) M (fun i2 _ => some i2) m c (nI j)) (fun c => some c) A (fun e c => if e.2 = p then c + 1 else c) 0 (fun m j c hj => ?_) (fun m c => ?_) FU (FU_gt (by omega))
  · have ht := (hA.at j hj)
    have h1 := (hq.at j hj).1
    have h2 := (hq.at j hj).2
    rw [Nat.zero_add] at h1 h2
    simp (disch := omega) only [ef_X8_comes_4, s_X8_comes_4, hq.1, h2, Int32.add_zero, iL, iT, iE, iN, iZ, i0, cl, nL, yL, nT, yT, s1_i, ad_i, z0, c0, la_1, la_2, la_11, la_12, la_21, la_22, la_27, la_54, la_10, la_243, ml_4, ml_6, ml_27, ml_10, ml_3, false_or, or_false, true_or, or_true, or_self, if_false, if_true, not_true, not_false_iff, Option.bind_some, lt]
    by_cases hc : tt A j = p
    · rw [if_pos hc, if_pos hc]
    · rw [if_neg hc, if_neg hc]
  · simp (disch := omega) only [ef_X8_comes_4, s_X8_comes_4, hq.1, iL, iT, iE, iN, iZ, i0, cl, nL, yL, nT, yT, s1_i, ad_i, z0, c0, la_1, la_2, la_11, la_12, la_21, la_22, la_27, la_54, la_10, la_243, ml_4, ml_6, ml_27, ml_10, ml_3, false_or, or_false, true_or, or_true, or_self, if_false, if_true, not_true, not_false_iff, Option.bind_some, lt]
theorem x8_goes {M : Mem} {n : Nat} {A : Arr} {x : Row} (hq : RQ (M 177) 0 A x) (hA : OKA n A) (hn : n ≤ 6) (p : Nat) (hp : p < n) : f_X8_goes (nI p) M = some (cou A p) := by
  have hl := hA.1
  refine loop_L (fun m c j => f_X8_goes_4 (nI p) M (fun i2 _ => some i2) m c (nI j)) (fun c => some c) A (fun e c => if e.1 = p then c + 1 else c) 0 (fun m j c hj => ?_) (fun m c => ?_) FU (FU_gt (by omega))
  · have ht := (hA.at j hj)
    have h1 := (hq.at j hj).1
    have h2 := (hq.at j hj).2
    rw [Nat.zero_add] at h1 h2
    simp (disch := omega) only [ef_X8_goes_4, s_X8_goes_4, hq.1, h1, Int32.add_zero, iL, iT, iE, iN, iZ, i0, cl, nL, yL, nT, yT, s1_i, ad_i, z0, c0, la_1, la_2, la_11, la_12, la_21, la_22, la_27, la_54, la_10, la_243, ml_4, ml_6, ml_27, ml_10, ml_3, false_or, or_false, true_or, or_true, or_self, if_false, if_true, not_true, not_false_iff, Option.bind_some, lt]
    by_cases hc : fr A j = p
    · rw [if_pos hc, if_pos hc]
    · rw [if_neg hc, if_neg hc]
  · simp (disch := omega) only [ef_X8_goes_4, s_X8_goes_4, hq.1, iL, iT, iE, iN, iZ, i0, cl, nL, yL, nT, yT, s1_i, ad_i, z0, c0, la_1, la_2, la_11, la_12, la_21, la_22, la_27, la_54, la_10, la_243, ml_4, ml_6, ml_27, ml_10, ml_3, false_or, or_false, true_or, or_true, or_self, if_false, if_true, not_true, not_false_iff, Option.bind_some, lt]
theorem x8_form {M : Mem} {n : Nat} {A : Arr} {x : Row} (hp : M 176 0 = nI n) (hq : RQ (M 177) 0 A x) (hA : OKA n A) (hn : n ≤ 6) (a b o1 o2 : Nat) (h1 : o1 + 6 ≤ alen a) (h2 : o2 + 6 ≤ alen b) (ha : alen a < 1000) (hb : alen b < 1000) : f_X8_form a (nI o1) b (nI o2) M = some (eul n A (fun i => M a (o1 + i)) (fun i => M b (o2 + i))) := by
  have hl := hA.1
  unfold f_X8_form
  have h1 := loop_u (fun m s j => f_X8_form_6 a (nI o1) b (nI o2) M (fun i5 i6 => f_X8_form_43 a (nI o1) b (nI o2) M (fun i _ => some i) FU i5 0) m s (nI j)) (fun s => f_X8_form_43 a (nI o1) b (nI o2) M (fun i _ => some i) FU s 0) n (fun i s => s + M a (o1 + i) * M b (o2 + i)) 0 (fun m j s hj => ?_) (fun m s => ?_) FU (FU_gt (by omega))
  · refine h1.trans ?_
    refine loop_L (fun m s j => f_X8_form_43 a (nI o1) b (nI o2) M (fun i _ => some i) m s (nI j)) (fun c => some c) A (fun e s => s - M a (o1 + e.1) * M b (o2 + e.2)) _ (fun m j s hj => ?_) (fun m s => ?_) FU (FU_gt (by omega))
    · have ht := (hA.at j hj)
      have g1 := (hq.at j hj).1
      have g2 := (hq.at j hj).2
      rw [Nat.zero_add] at g1 g2
      simp (disch := omega) only [ef_X8_form_43, s_X8_form_43, hq.1, g1, g2, iL, iT, iE, iN, iZ, i0, cl, nL, yL, nT, yT, s1_i, ad_i, z0, c0, la_1, la_2, la_11, la_12, la_21, la_22, la_27, la_54, la_10, la_243, ml_4, ml_6, ml_27, ml_10, ml_3, false_or, or_false, true_or, or_true, or_self, if_false, if_true, not_true, not_false_iff, Option.bind_some, lt]
    · simp (disch := omega) only [ef_X8_form_43, s_X8_form_43, hq.1, iL, iT, iE, iN, iZ, i0, cl, nL, yL, nT, yT, s1_i, ad_i, z0, c0, la_1, la_2, la_11, la_12, la_21, la_22, la_27, la_54, la_10, la_243, ml_4, ml_6, ml_27, ml_10, ml_3, false_or, or_false, true_or, or_true, or_self, if_false, if_true, not_true, not_false_iff, Option.bind_some, lt]
  · simp (disch := omega) only [ef_X8_form_6, s_X8_form_6, hp, iL, iT, iE, iN, iZ, i0, cl, nL, yL, nT, yT, s1_i, ad_i, z0, c0, la_1, la_2, la_11, la_12, la_21, la_22, la_27, la_54, la_10, la_243, ml_4, ml_6, ml_27, ml_10, ml_3, false_or, or_false, true_or, or_true, or_self, if_false, if_true, not_true, not_false_iff, Option.bind_some, lt]
  · simp (disch := omega) only [ef_X8_form_6, s_X8_form_6, hp, iL, iT, iE, iN, iZ, i0, cl, nL, yL, nT, yT, s1_i, ad_i, z0, c0, la_1, la_2, la_11, la_12, la_21, la_22, la_27, la_54, la_10, la_243, ml_4, ml_6, ml_27, ml_10, ml_3, false_or, or_false, true_or, or_true, or_self, if_false, if_true, not_true, not_false_iff, Option.bind_some, lt]
theorem x8_about {M : Mem} {n : Nat} {A : Arr} {x : Row} (hq : RQ (M 177) 0 A x) (hA : OKA n A) (hn : n ≤ 6) (p : Nat) (hp : p < n) : f_X8_about (nI p) M = some (trn A (fun i => M 177 (21 + i)) p) := by
  have hl := hA.1
  obtain ⟨rk, hrk⟩ := hA.2.2
  simp (disch := omega) only [f_X8_about, iL, iT, iE, iN, iZ, i0, cl, nL, yL, nT, yT, s1_i, ad_i, z0, c0, la_1, la_2, la_11, la_12, la_21, la_22, la_27, la_54, la_10, la_243, ml_4, ml_6, ml_27, ml_10, ml_3, false_or, or_false, true_or, or_true, or_self, if_false, if_true, not_true, not_false_iff, Option.bind_some, lt]
  refine loop_L (fun m s j => f_X8_about_13 (nI p) M (fun i _ => some i) m s (nI j)) (fun c => some c) A (fun e s => if e.1 = p then (if e.2 = p then s + M 177 (21 + e.2) + M 177 (21 + e.1) else s + M 177 (21 + e.2)) else (if e.2 = p then s + M 177 (21 + e.1) else s)) _ (fun m j s hj => ?_) (fun m s => ?_) FU (FU_gt (by omega))
  · have ht := (hA.at j hj)
    have g1 := (hq.at j hj).1
    have g2 := (hq.at j hj).2
    rw [Nat.zero_add] at g1 g2
    have hr := hrk _ (List.mem_of_getElem? (ft_get hj))
    simp (disch := omega) only [ef_X8_about_13, s_X8_about_13, hq.1, g1, g2, Int32.add_zero, iL, iT, iE, iN, iZ, i0, cl, nL, yL, nT, yT, s1_i, ad_i, z0, c0, la_1, la_2, la_11, la_12, la_21, la_22, la_27, la_54, la_10, la_243, ml_4, ml_6, ml_27, ml_10, ml_3, false_or, or_false, true_or, or_true, or_self, if_false, if_true, not_true, not_false_iff, Option.bind_some, lt]
    by_cases hc : fr A j = p
    · have hd : ¬ tt A j = p := fun q => by
        have hr : rk (tt A j) < rk (fr A j) := hr
        rw [hc, q] at hr
        omega
      simp only [hc, hd, if_true, if_false]
    · by_cases hd : tt A j = p
      · simp only [hc, hd, if_true, if_false]
      · simp only [hc, hd, if_false]
  · simp (disch := omega) only [ef_X8_about_13, s_X8_about_13, hq.1, iL, iT, iE, iN, iZ, i0, cl, nL, yL, nT, yT, s1_i, ad_i, z0, c0, la_1, la_2, la_11, la_12, la_21, la_22, la_27, la_54, la_10, la_243, ml_4, ml_6, ml_27, ml_10, ml_3, false_or, or_false, true_or, or_true, or_self, if_false, if_true, not_true, not_false_iff, Option.bind_some, lt]
/-- whether an arrow goes from p to one of a set -/
def goT (A : Arr) (p b : Nat) : Bool := A.any (fun e => e.1 == p && b.testBit e.2)
theorem x8_goesTo {M : Mem} {n : Nat} {A : Arr} {x : Row} (hq : RQ (M 177) 0 A x) (hA : OKA n A) (hn : n ≤ 6) (p : Nat) (hp : p < n) (b : Nat) (hb : b < 64) : f_X8_goesTo (nI p) (nI b) M = some (if goT A p b then 1 else 0) := by
  have hl := hA.1
  have h := loop_L (fun m (c : Bool) j => f_X8_goesTo_5 (nI p) (nI b) M (fun i3 _ => if ¬ (i3 = 0 ∨ i3 = 1) then none else some i3) m (if c then 1 else 0) (nI j)) (fun (c : Bool) => some (if c then 1 else 0)) A (fun e c => c || (e.1 == p && b.testBit e.2)) false (fun m j c hj => ?_) (fun m c => ?_) FU (FU_gt (by omega))
  · have e : A.foldl (fun c e => c || (e.1 == p && b.testBit e.2)) false = goT A p b := by
      unfold goT
      have : ∀ (B : Arr) (c : Bool), B.foldl (fun c e => c || (e.1 == p && b.testBit e.2)) c = (c || B.any (fun e => e.1 == p && b.testBit e.2)) := by
        intro B
        induction B with
        | nil => intro c; simp
        | cons e B ih => intro c; rw [List.foldl_cons, ih, List.any_cons, Bool.or_assoc]
      rw [this]
      simp
    rw [e] at h
    exact h
  · have ht := (hA.at j hj)
    have g1 := (hq.at j hj).1
    have g2 := (hq.at j hj).2
    rw [Nat.zero_add] at g1 g2
    simp (disch := omega) only [ef_X8_goesTo_5, s_X8_goesTo_5, hq.1, g1, g2, bT, iL, iT, iE, iN, iZ, i0, cl, nL, yL, nT, yT, s1_i, ad_i, z0, c0, la_1, la_2, la_11, la_12, la_21, la_22, la_27, la_54, la_10, la_243, ml_4, ml_6, ml_27, ml_10, ml_3, false_or, or_false, true_or, or_true, or_self, if_false, if_true, not_true, not_false_iff, Option.bind_some, lt]
    cases c
    · by_cases h1 : fr A j = p
      · by_cases h2 : b.testBit (tt A j) = true
        · simp [h1, h2]
        · simp [h1, h2]
      · simp [h1]
    · simp
  · simp (disch := omega) only [ef_X8_goesTo_5, s_X8_goesTo_5, hq.1, iL, iT, iE, iN, iZ, i0, cl, nL, yL, nT, yT, s1_i, ad_i, z0, c0, la_1, la_2, la_11, la_12, la_21, la_22, la_27, la_54, la_10, la_243, ml_4, ml_6, ml_27, ml_10, ml_3, false_or, or_false, true_or, or_true, or_self, if_false, if_true, not_true, not_false_iff, Option.bind_some, lt]
    cases c
    · simp
    · simp
theorem x8_hangs {M : Mem} {n : Nat} {A : Arr} {x : Row} (hp : M 176 0 = nI n) (hq : RQ (M 177) 0 A x) (hA : OKA n A) (hn : n ≤ 6) : f_X8_hangs M = some (if rch true A 6 1 = 2 ^ n - 1 then 1 else 0) := by
  have hl := hA.1
  unfold f_X8_hangs
  have hpn : 2 ^ n - 1 < 64 := (show ∀ n, n ≤ 6 → 2 ^ n - 1 < 64 by decide) n hn
  have h := loop_up (fun m b j => f_X8_hangs_4 M (fun i _ => if i = (1 <<< ((M 176 0) &&& 31)) - 1 then some 1 else some 0) m (nI b) (nI j)) (fun b => if nI b = (1 <<< ((M 176 0) &&& 31)) - 1 then some 1 else some 0) 6 (fun _ b => rnd true A b) 1 (fun _ b => b < 64) (by omega) (fun j b _ hb => rnd_lt hA hn hb) (fun m j b hj hb => ?_) (fun m b hb => ?_) FU (FU_gt (by omega))
  · refine h.trans ?_
    have hb := rch_lt (ew := true) hA hn (b := 1) (by omega) 6
    have hb : fo (fun _ b => rnd true A b) 6 1 < 64 := hb
    simp (disch := omega) only [hp, bL, iE]
    show (if fo (fun _ b => rnd true A b) 6 1 = 2 ^ n - 1 then some (1 : Int32) else some 0) = some (if fo (fun _ b => rnd true A b) 6 1 = 2 ^ n - 1 then 1 else 0)
    by_cases hc : fo (fun _ b => rnd true A b) 6 1 = 2 ^ n - 1
    · rw [if_pos hc, if_pos hc]
    · rw [if_neg hc, if_neg hc]
  · have e6 : (6 : Int32) ≤ nI j ↔ False := iff_of_false (by rw [show (6 : Int32) = nI 6 from rfl, iL (by omega) (by omega)]; omega) id
    simp (disch := omega) only [ef_X8_hangs_4, s_X8_hangs_4, e6, iL, iT, iE, iN, iZ, i0, cl, nL, yL, nT, yT, s1_i, ad_i, z0, c0, la_1, la_2, la_11, la_12, la_21, la_22, la_27, la_54, la_10, la_243, ml_4, ml_6, ml_27, ml_10, ml_3, false_or, or_false, true_or, or_true, or_self, if_false, if_true, not_true, not_false_iff, Option.bind_some, lt]
    refine loop_LI (fun m2 b i => f_X8_hangs_12 (nI j) M (fun i3 _ => f_X8_hangs_4 M (fun i _ => if i = (1 <<< ((M 176 0) &&& 31)) - 1 then some 1 else some 0) m i3 (nI (j + 1))) m2 (nI b) (nI i)) (fun b => f_X8_hangs_4 M (fun i _ => if i = (1 <<< ((M 176 0) &&& 31)) - 1 then some 1 else some 0) m (nI b) (nI (j + 1))) A (fun e b => rst2 b e.1 e.2) b (fun b => b < 64) hb (fun i b hi hb => ?_) (fun m2 i b hi hb => ?_) (fun m2 b hb => ?_) FU (FU_gt (by omega))
    · have h := hA.at i hi
      exact rst2_lt hb (by omega) (by omega)
    · have ht := hA.at i hi
      have g1 := (hq.at i hi).1
      have g2 := (hq.at i hi).2
      rw [Nat.zero_add] at g1 g2
      simp (disch := omega) only [ef_X8_hangs_12, s_X8_hangs_12, hq.1, g1, g2, bH, iL, iT, iE, iN, iZ, i0, cl, nL, yL, nT, yT, s1_i, ad_i, z0, c0, la_1, la_2, la_11, la_12, la_21, la_22, la_27, la_54, la_10, la_243, ml_4, ml_6, ml_27, ml_10, ml_3, false_or, or_false, true_or, or_true, or_self, if_false, if_true, not_true, not_false_iff, Option.bind_some, lt]
    · simp (disch := omega) only [ef_X8_hangs_12, s_X8_hangs_12, hq.1, iL, iT, iE, iN, iZ, i0, cl, nL, yL, nT, yT, s1_i, ad_i, z0, c0, la_1, la_2, la_11, la_12, la_21, la_22, la_27, la_54, la_10, la_243, ml_4, ml_6, ml_27, ml_10, ml_3, false_or, or_false, true_or, or_true, or_self, if_false, if_true, not_true, not_false_iff, Option.bind_some, lt]
  · have e6 : (6 : Int32) ≤ nI 6 ↔ True := iff_of_true (by decide) trivial
    simp (disch := omega) only [ef_X8_hangs_4, s_X8_hangs_4, e6, iL, iT, iE, iN, iZ, i0, cl, nL, yL, nT, yT, s1_i, ad_i, z0, c0, la_1, la_2, la_11, la_12, la_21, la_22, la_27, la_54, la_10, la_243, ml_4, ml_6, ml_27, ml_10, ml_3, false_or, or_false, true_or, or_true, or_self, if_false, if_true, not_true, not_false_iff, Option.bind_some, lt]
/-- the arrows that are told -/
def TO (M : Mem) (A : Arr) : Prop := M 176 18 = nI A.length ∧ ∀ k, k < A.length → M 187 k = nI (fr A k) ∧ M 188 k = nI (tt A k)
theorem x8_leads {M : Mem} {n : Nat} {A : Arr} (hq : TO M A) (hA : OKA n A) (hn : n ≤ 6) (p q : Nat) (hp : p < 6) (hq6 : q < 6) : f_X8_leads (nI p) (nI q) M = some (if (rch false A 6 (2 ^ p)).testBit q then 1 else 0) := by
  have hl := hA.1
  have hp2 : 2 ^ p < 64 := (show ∀ p, p < 6 → 2 ^ p < 64 by decide) p hp
  simp (disch := omega) only [f_X8_leads, b1, iL, iT, iE, iN, iZ, i0, cl, nL, yL, nT, yT, s1_i, ad_i, z0, c0, la_1, la_2, la_11, la_12, la_21, la_22, la_27, la_54, la_10, la_243, ml_4, ml_6, ml_27, ml_10, ml_3, false_or, or_false, true_or, or_true, or_self, if_false, if_true, not_true, not_false_iff, Option.bind_some, lt]
  have h := loop_up (fun m b j => f_X8_leads_7 (nI p) (nI q) M (fun i _ => if (i >>> (nI q &&& 31)) &&& 1 = 1 then some 1 else some 0) m (nI b) (nI j)) (fun b => if (nI b >>> (nI q &&& 31)) &&& 1 = 1 then some 1 else some 0) 6 (fun _ b => rnd false A b) (2 ^ p) (fun _ b => b < 64) hp2 (fun j b _ hb => rnd_lt hA hn hb) (fun m j b hj hb => ?_) (fun m b hb => ?_) FU (FU_gt (by omega))
  · refine h.trans ?_
    have hb := rch_lt (ew := false) hA hn hp2 6
    have hb : fo (fun _ b => rnd false A b) 6 (2 ^ p) < 64 := hb
    simp (disch := omega) only [bT]
    show (if (fo (fun _ b => rnd false A b) 6 (2 ^ p)).testBit q = true then some (1 : Int32) else some 0) = some (if (fo (fun _ b => rnd false A b) 6 (2 ^ p)).testBit q = true then 1 else 0)
    by_cases hc : (fo (fun _ b => rnd false A b) 6 (2 ^ p)).testBit q = true
    · rw [if_pos hc, if_pos hc]
    · rw [if_neg hc, if_neg hc]
  · have e6 : (6 : Int32) ≤ nI j ↔ False := iff_of_false (by rw [show (6 : Int32) = nI 6 from rfl, iL (by omega) (by omega)]; omega) id
    simp (disch := omega) only [ef_X8_leads_7, s_X8_leads_7, e6, iL, iT, iE, iN, iZ, i0, cl, nL, yL, nT, yT, s1_i, ad_i, z0, c0, la_1, la_2, la_11, la_12, la_21, la_22, la_27, la_54, la_10, la_243, ml_4, ml_6, ml_27, ml_10, ml_3, false_or, or_false, true_or, or_true, or_self, if_false, if_true, not_true, not_false_iff, Option.bind_some, lt]
    refine loop_LI (fun m2 b i => f_X8_leads_17 (nI p) (nI q) (nI j) M (fun i3 _ => f_X8_leads_7 (nI p) (nI q) M (fun i _ => if (i >>> (nI q &&& 31)) &&& 1 = 1 then some 1 else some 0) m i3 (nI (j + 1))) m2 (nI b) (nI i)) (fun b => f_X8_leads_7 (nI p) (nI q) M (fun i _ => if (i >>> (nI q &&& 31)) &&& 1 = 1 then some 1 else some 0) m (nI b) (nI (j + 1))) A (fun e b => rst b e.1 e.2) b (fun b => b < 64) hb (fun i b hi hb => ?_) (fun m2 i b hi hb => ?_) (fun m2 b hb => ?_) FU (FU_gt (by omega))
    · have h := hA.at i hi
      exact rst_lt hb (by omega)
    · have ht := hA.at i hi
      simp (disch := omega) only [ef_X8_leads_17, s_X8_leads_17, hq.1, (hq.2 i hi).1, (hq.2 i hi).2, bM, iL, iT, iE, iN, iZ, i0, cl, nL, yL, nT, yT, s1_i, ad_i, z0, c0, la_1, la_2, la_11, la_12, la_21, la_22, la_27, la_54, la_10, la_243, ml_4, ml_6, ml_27, ml_10, ml_3, false_or, or_false, true_or, or_true, or_self, if_false, if_true, not_true, not_false_iff, Option.bind_some, lt]
    · simp (disch := omega) only [ef_X8_leads_17, s_X8_leads_17, hq.1, iL, iT, iE, iN, iZ, i0, cl, nL, yL, nT, yT, s1_i, ad_i, z0, c0, la_1, la_2, la_11, la_12, la_21, la_22, la_27, la_54, la_10, la_243, ml_4, ml_6, ml_27, ml_10, ml_3, false_or, or_false, true_or, or_true, or_self, if_false, if_true, not_true, not_false_iff, Option.bind_some, lt]
  · have e6 : (6 : Int32) ≤ nI 6 ↔ True := iff_of_true (by decide) trivial
    simp (disch := omega) only [ef_X8_leads_7, s_X8_leads_7, e6, iL, iT, iE, iN, iZ, i0, cl, nL, yL, nT, yT, s1_i, ad_i, z0, c0, la_1, la_2, la_11, la_12, la_21, la_22, la_27, la_54, la_10, la_243, ml_4, ml_6, ml_27, ml_10, ml_3, false_or, or_false, true_or, or_true, or_self, if_false, if_true, not_true, not_false_iff, Option.bind_some, lt]

/-! ===== words and numbers ===== -/
def wdp (T : List Int32) (j s : Nat) : Prop := tkk T s = 1 ∧ tke T s - s = lenS j ∧ ∀ k, k < lenS j → cha T (s + k) = chS j k
def vlr (T : List Int32) (s d : Nat) : Int32 := fo (fun j v => v * 10 + (cha T (s + j) - 48)) d 0
def nm (T : List Int32) (s lo hi : Nat) : Option Nat := if tkk T s = 2 ∧ tke T s - s ≤ 2 ∧ (lo : Int) ≤ (vlr T s (tke T s - s)).toInt ∧ (vlr T s (tke T s - s)).toInt ≤ (hi : Int) then some (vlr T s (tke T s - s)).toInt.toNat else none
section WORDS
variable {M M' : Mem} {T : List Int32}
theorem ten_kd {k : Nat} : ∀ f e i, e ≤ i → i < ten T k f e → kd (cha T i) = k := by
  intro f
  induction f with
  | zero => intro e i h1 h2; have : ten T k 0 e = e := rfl; omega
  | succ f ih =>
    intro e i h1 h2
    unfold ten at h2
    by_cases h : e < T.length ∧ kd (cha T e) = k
    · rw [if_pos h] at h2
      by_cases hie : i = e
      · subst hie; exact h.2
      · exact ih (e + 1) i (by omega) h2
    · rw [if_neg h] at h2; omega
theorem tke_kd {s i : Nat} (hs : s < T.length) (h3 : kd (cha T s) ≠ 3) (h1 : s ≤ i) (h2 : i < tke T s) : kd (cha T i) = kd (cha T s) := by
  unfold tke at h2
  rw [if_pos hs, if_neg h3] at h2
  by_cases his : i = s
  · subst his; rfl
  · exact ten_kd _ (s + 1) i (by omega) h2
theorem tke_1 {s : Nat} (hs : s < T.length) (h3 : kd (cha T s) = 3) : tke T s = s + 1 := by unfold tke; rw [if_pos hs, if_pos h3]
theorem tkk_le (T : List Int32) (s : Nat) : tkk T s ≤ 3 := by
  unfold tkk
  split
  · exact (kd_le _).1
  · omega
theorem lenS_b {j : Nat} (hj : j < 3) : 3 ≤ lenS j ∧ lenS j ≤ 6 := (show ∀ j, j < 3 → 3 ≤ lenS j ∧ lenS j ≤ 6 by decide) j hj
theorem chS_kd {j k : Nat} (hj : j < 3) (hk : k < lenS j) : kd (chS j k) = 1 := (show ∀ j, j < 3 → ∀ k, k < lenS j → kd (chS j k) = 1 by decide) j hj k hk
theorem kd_0 : kd 0 = 3 := by decide
theorem wdp_uq {i j s : Nat} (hi : i < 3) (hj : j < 3) (h1 : wdp T i s) (h2 : wdp T j s) : i = j := by
  have e : lenS i = lenS j := h1.2.1.symm.trans h2.2.1
  exact (show ∀ i, i < 3 → ∀ j, j < 3 → lenS i = lenS j → i = j by decide) i hi j hj e
theorem x5_isWord (hC : CT M T) (hL : T.length ≤ 200) {j s : Nat} (hj : j < 3) (hs : s ≤ T.length) (h3 : M 45 3 = nI (tkk T s)) (h4 : M 45 4 = nI s) (h5 : M 45 5 = nI (tke T s)) : f_X5_isWord j M = some (if dc (wdp T j s) then 1 else 0) := by
  have hk := tke_ok (T := T) hs
  have hkk := tkk_le T s
  have hlb := lenS_b hj
  have h11 : (1 : Int32) = nI 1 := rfl
  by_cases k1 : tkk T s = 1
  · have hsT : s < T.length := by
      apply Classical.byContradiction
      intro q
      unfold tkk at k1
      rw [if_neg q] at k1
      omega
    by_cases k2 : tke T s - s = lenS j
    · have e54 : nI (tke T s) - nI s = nI (lenS j) := by rw [sb_i hk.1, k2]
      rcases first_bad (p := fun k => cha T (s + k) = chS j k) (lenS j) with h | ⟨k, q1, q2, q3⟩
      · rw [dc_t ⟨k1, k2, h⟩, if_pos rfl]
        unfold f_X5_isWord
        rw [h3, k1, if_pos (show nI 1 = (1 : Int32) from rfl), h5, h4, e54, if_pos rfl]
        refine loop_u (fun m (_ : Unit) i => f_X5_isWord_28 j M (fun _ => some 1) m (nI i)) (fun _ => some 1) (lenS j) (fun _ s => s) () (fun m i u hi => ?_) (fun m u => ?_) FU (FU_gt (by omega))
        · have hc : M 46 (s + i) = chS j i := by rw [T_at hC.2 (by omega)]; exact h i hi
          simp (disch := omega) only [ef_X5_isWord_28, s_X5_isWord_28, h4, hc, eq_self, iL, iT, iE, iN, iZ, i0, cl, nL, yL, nT, yT, s1_i, ad_i, z0, c0, la_1, la_2, la_11, la_12, la_21, la_22, la_27, la_54, la_10, la_243, ml_4, ml_6, ml_27, ml_10, ml_3, false_or, or_false, true_or, or_true, or_self, if_false, if_true, not_true, not_false_iff, bs, lt_p]
        · simp (disch := omega) only [ef_X5_isWord_28, s_X5_isWord_28, iL, iT, iE, iN, iZ, i0, cl, nL, yL, nT, yT, s1_i, ad_i, z0, c0, la_1, la_2, la_11, la_12, la_21, la_22, la_27, la_54, la_10, la_243, ml_4, ml_6, ml_27, ml_10, ml_3, false_or, or_false, true_or, or_true, or_self, if_false, if_true, not_true, not_false_iff, bs, lt_p]
      · rw [dc_f (fun q => q3 (q.2.2 k q1)), if_neg ff_t]
        unfold f_X5_isWord
        rw [h3, k1, if_pos (show nI 1 = (1 : Int32) from rfl), h5, h4, e54, if_pos rfl]
        refine loop_u (fun m (_ : Unit) i => f_X5_isWord_28 j M (fun _ => some 1) m (nI i)) (fun _ => some 0) k (fun _ s => s) () (fun m i u hi => ?_) (fun m u => ?_) FU (FU_gt (by omega))
        · have hc : M 46 (s + i) = chS j i := by rw [T_at hC.2 (by omega)]; exact q2 i hi
          simp (disch := omega) only [ef_X5_isWord_28, s_X5_isWord_28, h4, hc, eq_self, iL, iT, iE, iN, iZ, i0, cl, nL, yL, nT, yT, s1_i, ad_i, z0, c0, la_1, la_2, la_11, la_12, la_21, la_22, la_27, la_54, la_10, la_243, ml_4, ml_6, ml_27, ml_10, ml_3, false_or, or_false, true_or, or_true, or_self, if_false, if_true, not_true, not_false_iff, bs, lt_p]
        · have hc : M 46 (s + k) = cha T (s + k) := T_at hC.2 (by omega)
          simp (disch := omega) only [ef_X5_isWord_28, s_X5_isWord_28, h4, hc, q3, iL, iT, iE, iN, iZ, i0, cl, nL, yL, nT, yT, s1_i, ad_i, z0, c0, la_1, la_2, la_11, la_12, la_21, la_22, la_27, la_54, la_10, la_243, ml_4, ml_6, ml_27, ml_10, ml_3, false_or, or_false, true_or, or_true, or_self, if_false, if_true, not_true, not_false_iff, bs, lt_p]
    · rw [dc_f (fun q => k2 q.2.1), if_neg ff_t]
      unfold f_X5_isWord
      rw [h3, k1, if_pos (show nI 1 = (1 : Int32) from rfl), h5, h4, sb_i hk.1, if_neg (show ¬ nI (tke T s - s) = nI (lenS j) from fun q => k2 ((iE (by omega) (by omega)).mp q))]
  · rw [dc_f (fun q => k1 q.1), if_neg ff_t]
    unfold f_X5_isWord
    rw [h3, if_neg (show ¬ nI (tkk T s) = (1 : Int32) from fun q => k1 ((iE (b := 1) (by omega) (by omega)).mp q))]
theorem w190 (h : ∀ k, k < 18 → M 190 k = ([113, 117, 105, 118, 101, 114, 97, 114, 114, 111, 119, 0, 114, 111, 119, 0, 0, 0] : List Int32).getD k 0) {j k : Nat} (hj : j < 3) (hk : k < 6) : M 190 (6 * j + k) = if k < lenS j then chS j k else 0 := by
  rw [h (6 * j + k) (by omega)]
  exact (show ∀ j, j < 3 → ∀ k, k < 6 → ([113, 117, 105, 118, 101, 114, 97, 114, 114, 111, 119, 0, 114, 111, 119, 0, 0, 0] : List Int32).getD (6 * j + k) 0 = if k < lenS j then chS j k else 0 by decide) j hj k hk
/-- the word that is here, for the reference -/
theorem wdp_iff {j s : Nat} (hj : j < 3) (hs : s < T.length) : (tke T s - s < 7 ∧ ∀ k, k < 6 → (if k < lenS j then chS j k else 0) = if s + k < tke T s then cha T (s + k) else 0) ↔ wdp T j s := by
  have hk := tke_ok (T := T) (show s ≤ T.length by omega)
  have hk2 := hk.2.2 hs
  have hlb := lenS_b hj
  constructor
  · rintro ⟨h7, h⟩
    have h0 := h 0 (by omega)
    rw [if_pos (by omega), if_pos (by omega), Nat.add_zero] at h0
    have hkd : kd (cha T s) = 1 := by rw [← h0]; exact chS_kd hj (by omega)
    have hd : tke T s - s = lenS j := by
      rcases Nat.lt_trichotomy (tke T s - s) (lenS j) with hl | hl | hl
      · have h1 := h (tke T s - s) (by omega)
        rw [if_pos hl, if_neg (by omega)] at h1
        have := chS_kd hj hl
        rw [h1, kd_0] at this
        omega
      · exact hl
      · have h1 := h (lenS j) (by omega)
        rw [if_neg (by omega), if_pos (by omega)] at h1
        have := tke_kd hs (by omega) (show s ≤ s + lenS j by omega) (by omega)
        rw [← h1, kd_0] at this
        omega
    refine ⟨by unfold tkk; rw [if_pos hs]; exact hkd, hd, fun k hkl => ?_⟩
    have h1 := h k (by omega)
    rw [if_pos hkl, if_pos (by omega)] at h1
    exact h1.symm
  · rintro ⟨h1, h2, h3⟩
    refine ⟨by omega, fun k hk6 => ?_⟩
    by_cases hkl : k < lenS j
    · rw [if_pos hkl, if_pos (by omega)]; exact (h3 k hkl).symm
    · rw [if_neg hkl, if_neg (by omega)]
theorem x8_wordHere (hC : MT M T) (hW : ∀ k, k < 18 → M 190 k = ([113, 117, 105, 118, 101, 114, 97, 114, 114, 111, 119, 0, 114, 111, 119, 0, 0, 0] : List Int32).getD k 0) (hL : T.length ≤ 200) {s : Nat} (hs : s ≤ T.length) (h15 : M 176 15 = nI s) (h16 : M 176 16 = nI (tke T s)) : (∃ j, j < 3 ∧ wdp T j s ∧ f_X8_wordHere M = some (nI j)) ∨ ((∀ j, j < 3 → ¬ wdp T j s) ∧ f_X8_wordHere M = some (-1)) := by
  have hk := tke_ok (T := T) hs
  have h40 : ∀ (kk : Int32 → Int32 → Option Int32) (j : Nat), j < 3 → s < T.length → ∃ v, f_X8_wordHere_40 (nI j) M kk FU 1 0 = kk (if dc (∀ k, k < 6 → (if k < lenS j then chS j k else 0) = if s + k < tke T s then cha T (s + k) else 0) then 1 else 0) v := by
    intro kk j hj hsT
    have hstep : ∀ k, k < 6 → ∀ m, f_X8_wordHere_40 (nI j) M kk (m + 1) 1 (nI k) = f_X8_wordHere_40 (nI j) M kk m (if dc ((if k < lenS j then chS j k else 0) = if s + k < tke T s then cha T (s + k) else 0) then 1 else 0) (nI (k + 1)) := by
      intro k hk6 m
      have e190 := w190 hW hj hk6
      by_cases hse : s + k < tke T s
      · have hc : M 179 (s + k) = cha T (s + k) := T_at8 hC.2 (by omega)
        rw [if_pos hse]
        by_cases heq : (if k < lenS j then chS j k else 0) = cha T (s + k)
        · rw [dc_t heq]
          simp (disch := omega) only [ef_X8_wordHere_40, s_X8_wordHere_40, e6y hk6, e10, h15, h16, e190, hc, eq_true heq, iL, iT, iE, iN, iZ, i0, cl, nL, yL, nT, yT, s1_i, ad_i, z0, c0, la_1, la_2, la_11, la_12, la_21, la_22, la_27, la_54, la_10, la_243, ml_4, ml_6, ml_27, ml_10, ml_3, false_or, or_false, true_or, or_true, or_self, if_false, if_true, not_true, not_false_iff, bs, lt_p]
        · rw [dc_f heq]
          simp (disch := omega) only [ef_X8_wordHere_40, s_X8_wordHere_40, e6y hk6, e10, h15, h16, e190, hc, heq, Bool.false_eq_true, iL, iT, iE, iN, iZ, i0, cl, nL, yL, nT, yT, s1_i, ad_i, z0, c0, la_1, la_2, la_11, la_12, la_21, la_22, la_27, la_54, la_10, la_243, ml_4, ml_6, ml_27, ml_10, ml_3, false_or, or_false, true_or, or_true, or_self, if_false, if_true, not_true, not_false_iff, bs, lt_p]
      · rw [if_neg hse]
        by_cases heq : (if k < lenS j then chS j k else 0) = 0
        · rw [dc_t heq]
          simp (disch := omega) only [ef_X8_wordHere_40, s_X8_wordHere_40, e6y hk6, e10, h15, h16, e190, eq_true heq, iL, iT, iE, iN, iZ, i0, cl, nL, yL, nT, yT, s1_i, ad_i, z0, c0, la_1, la_2, la_11, la_12, la_21, la_22, la_27, la_54, la_10, la_243, ml_4, ml_6, ml_27, ml_10, ml_3, false_or, or_false, true_or, or_true, or_self, if_false, if_true, not_true, not_false_iff, bs, lt_p]
        · rw [dc_f heq]
          simp (disch := omega) only [ef_X8_wordHere_40, s_X8_wordHere_40, e6y hk6, e10, h15, h16, e190, heq, Bool.false_eq_true, iL, iT, iE, iN, iZ, i0, cl, nL, yL, nT, yT, s1_i, ad_i, z0, c0, la_1, la_2, la_11, la_12, la_21, la_22, la_27, la_54, la_10, la_243, ml_4, ml_6, ml_27, ml_10, ml_3, false_or, or_false, true_or, or_true, or_self, if_false, if_true, not_true, not_false_iff, bs, lt_p]
    rcases first_bad (p := fun k => (if k < lenS j then chS j k else 0) = if s + k < tke T s then cha T (s + k) else 0) 6 with h | ⟨k, q1, q2, q3⟩
    · refine ⟨6, ?_⟩
      rw [dc_t h]
      refine loop_u (fun m (_ : Unit) i => f_X8_wordHere_40 (nI j) M kk m 1 (nI i)) (fun _ => kk (if true = true then 1 else 0) 6) 6 (fun _ s => s) () (fun m i u hi => ?_) (fun m u => ?_) FU (FU_gt (by omega))
      · rw [hstep i hi m, dc_t (h i hi)]; rfl
      · show f_X8_wordHere_40 (nI j) M kk (m + 1) 1 (nI 6) = _
        simp only [ef_X8_wordHere_40, s_X8_wordHere_40, e6n, if_true]
        rfl
    · refine ⟨nI (k + 1), ?_⟩
      rw [dc_f (fun q => q3 (q k q1))]
      obtain ⟨f', g1, g2, _⟩ := loop_fo (fun m (_ : Unit) i => f_X8_wordHere_40 (nI j) M kk m 1 (nI i)) k (fun _ s => s) () (fun _ _ => True) trivial (fun _ _ _ _ => trivial) (fun m i u hi _ => by
        show f_X8_wordHere_40 (nI j) M kk (m + 1) 1 (nI i) = _
        rw [hstep i (by omega) m, dc_t (q2 i hi)]; rfl) k 0 (by omega) FU (FU_gt (by omega))
      have hF : FU = 20000 := rfl
      refine Eq.trans g2 ?_
      obtain ⟨f2, rfl⟩ : ∃ f2, f' = f2 + 1 := ⟨f' - 1, by omega⟩
      show f_X8_wordHere_40 (nI j) M kk (f2 + 1 + 1) 1 (nI k) = _
      rw [hstep k q1 (f2 + 1), dc_f q3, ef_X8_wordHere_40]
      unfold s_X8_wordHere_40
      rw [if_neg ff_t, if_pos rfl, ite_self]
  have h0 : ∀ (kk : Int32 → Int32 → Option Int32) (j : Nat), f_X8_wordHere_40 (nI j) M kk FU 0 0 = kk 0 0 := by
    intro kk j
    have z6 : ¬ (6 : Int32) ≤ 0 := by decide
    rw [show FU = 19999 + 1 from rfl, ef_X8_wordHere_40]
    unfold s_X8_wordHere_40
    rw [if_neg z6, if_pos rfl]
  have hone : ∀ j, j < 3 → ∀ m, f_X8_wordHere_2 M (fun _ => some (-1)) (m + 1) (nI j) = if dc (wdp T j s) then some (nI j) else f_X8_wordHere_2 M (fun _ => some (-1)) m (nI (j + 1)) := by
    intro j hj m
    have n2 : ¬ (2 : Int32) < nI j := by rw [show (2 : Int32) = nI 2 from rfl, iT (by omega) (by omega)]; omega
    rw [ef_X8_wordHere_2]
    unfold s_X8_wordHere_2
    rw [if_neg n2, h15, h16]
    by_cases hsT : s < T.length
    · have hk2 := hk.2.2 hsT
      rw [if_neg (by rw [iL (by omega) (by omega)]; omega), sb_i hk.1]
      by_cases h7 : tke T s - s < 7
      · rw [if_neg (by rw [show (7 : Int32) = nI 7 from rfl, iL (by omega) (by omega)]; omega)]
        obtain ⟨v, hv⟩ := h40 (fun (i2_10 : Int32) (_ : Int32) =>
          if i2_10 = 0 then
            f_X8_wordHere_2 M (fun _ => some (-1)) m (nI j + 1)
          else
            some (nI j)) j hj hsT
        refine Eq.trans hv ?_
        have hw := wdp_iff (T := T) hj hsT
        by_cases hd : ∀ k, k < 6 → (if k < lenS j then chS j k else 0) = if s + k < tke T s then cha T (s + k) else 0
        · rw [dc_t hd, dc_t (hw.mp ⟨h7, hd⟩), if_pos rfl, if_neg e10, if_pos rfl]
        · rw [dc_f hd, dc_f (fun q => hd (hw.mpr q).2), if_neg ff_t, if_pos rfl, if_neg ff_t, s1_i]
      · rw [if_pos (by rw [show (7 : Int32) = nI 7 from rfl, iL (by omega) (by omega)]; omega), h0, if_pos rfl]
        rw [dc_f (fun q => h7 ((wdp_iff (T := T) hj hsT).mpr q).1), if_neg ff_t, s1_i]
    · have he : tke T s = s := by unfold tke; rw [if_neg hsT]
      rw [he, if_pos (by rw [iL (by omega) (by omega)]; omega), h0, if_pos rfl]
      rw [dc_f (fun q => by have := q.1; unfold tkk at this; rw [if_neg hsT] at this; omega), if_neg ff_t, s1_i]
  have hF : f_X8_wordHere M = f_X8_wordHere_2 M (fun _ => some (-1)) (19996 + 1 + 1 + 1 + 1) (nI 0) := rfl
  rw [hF, hone 0 (by omega), hone 1 (by omega), hone 2 (by omega)]
  have hend : f_X8_wordHere_2 M (fun _ => some (-1)) (19996 + 1) (nI (2 + 1)) = some (-1) := by
    have n2 : (2 : Int32) < nI 3 := by decide
    rw [ef_X8_wordHere_2]
    unfold s_X8_wordHere_2
    rw [if_pos n2]
  rw [hend]
  by_cases w0 : wdp T 0 s
  · exact Or.inl ⟨0, by omega, w0, by rw [dc_t w0, if_pos rfl]⟩
  · rw [dc_f w0, if_neg ff_t]
    by_cases w1 : wdp T 1 s
    · exact Or.inl ⟨1, by omega, w1, by rw [dc_t w1, if_pos rfl]⟩
    · rw [dc_f w1, if_neg ff_t]
      by_cases w2 : wdp T 2 s
      · exact Or.inl ⟨2, by omega, w2, by rw [dc_t w2, if_pos rfl]⟩
      · rw [dc_f w2, if_neg ff_t]
        refine Or.inr ⟨fun j hj => ?_, rfl⟩
        have : j = 0 ∨ j = 1 ∨ j = 2 := by omega
        rcases this with rfl | rfl | rfl
        · exact w0
        · exact w1
        · exact w2
/-- numbers -/
theorem nm_ok {s lo hi m : Nat} (h : nm T s lo hi = some m) : lo ≤ m ∧ m ≤ hi ∧ tkk T s = 2 ∧ tke T s - s ≤ 2 ∧ vlr T s (tke T s - s) = nI m := by
  unfold nm at h
  by_cases hc : tkk T s = 2 ∧ tke T s - s ≤ 2 ∧ (lo : Int) ≤ (vlr T s (tke T s - s)).toInt ∧ (vlr T s (tke T s - s)).toInt ≤ (hi : Int)
  · rw [if_pos hc] at h
    have h : (vlr T s (tke T s - s)).toInt.toNat = m := Option.some.inj h
    have hb := Int32.toInt_lt (vlr T s (tke T s - s))
    refine ⟨by omega, by omega, hc.1, hc.2.1, ?_⟩
    rw [fa_eq, nI_toInt (by omega)]
    omega
  · rw [if_neg hc] at h; cases h
theorem x5_value (hC : CT M T) (hL : T.length ≤ 200) {s : Nat} (hs : s ≤ T.length) (h4 : M 45 4 = nI s) (h5 : M 45 5 = nI (tke T s)) : f_X5_value M = some (vlr T s (tke T s - s)) := by
  have hk := tke_ok (T := T) hs
  unfold f_X5_value
  rw [h4, lt_e]
  refine loop_u (fun m (v : Int32) j => f_X5_value_7 M (fun i1 _ => some i1) m v (nI (s + j))) (fun v => some v) (tke T s - s) (fun j v => v * 10 + (cha T (s + j) - 48)) 0 (fun m j v hj => ?_) (fun m v => ?_) FU (FU_gt (by omega))
  · have hc : M 46 (s + j) = cha T (s + j) := T_at hC.2 (by omega)
    simp (disch := omega) only [ef_X5_value_7, s_X5_value_7, h5, hc, iL, iT, iE, iN, iZ, i0, cl, nL, yL, nT, yT, s1_i, ad_i, z0, c0, la_1, la_2, la_11, la_12, la_21, la_22, la_27, la_54, la_10, la_243, ml_4, ml_6, ml_27, ml_10, ml_3, false_or, or_false, true_or, or_true, or_self, if_false, if_true, not_true, not_false_iff, bs, lt_p]
    rfl
  · simp (disch := omega) only [ef_X5_value_7, s_X5_value_7, h5, iL, iT, iE, iN, iZ, i0, cl, nL, yL, nT, yT, s1_i, ad_i, z0, c0, la_1, la_2, la_11, la_12, la_21, la_22, la_27, la_54, la_10, la_243, ml_4, ml_6, ml_27, ml_10, ml_3, false_or, or_false, true_or, or_true, or_self, if_false, if_true, not_true, not_false_iff, bs, lt_p]
theorem x5_isNumber (hC : CT M T) (hL : T.length ≤ 200) {s lo hi : Nat} (hs : s ≤ T.length) (hhi : hi < 1000) (hlo : lo < 1000) (h3 : M 45 3 = nI (tkk T s)) (h4 : M 45 4 = nI s) (h5 : M 45 5 = nI (tke T s)) : f_X5_isNumber (nI lo) (nI hi) M = some (if (nm T s lo hi).isSome then 1 else 0) := by
  have hk := tke_ok (T := T) hs
  have hkk := tkk_le T s
  have hv := x5_value hC hL hs h4 h5
  have hle2 : (nI (tke T s - s) ≤ 2) = (tke T s - s ≤ 2) := by rw [show (2 : Int32) = nI 2 from rfl]; exact propext (iL (by omega) (by omega))
  have hk2 : (nI (tkk T s) = 2) = (tkk T s = 2) := by rw [show (2 : Int32) = nI 2 from rfl]; exact propext (iE (by omega) (by omega))
  unfold f_X5_isNumber nm
  rw [h3, h4, h5, sb_i hk.1, hv]
  simp only [hle2, hk2]
  generalize vlr T s (tke T s - s) = v
  have n0 : ∀ P : Prop, ∀ _ : Decidable P, ¬ P → (if (if P then some v.toInt.toNat else none).isSome = true then (1 : Int32) else 0) = 0 := fun P _ h => by rw [if_neg h]; rfl
  by_cases k1 : tkk T s = 2
  · rw [if_pos k1]
    by_cases k2 : tke T s - s ≤ 2
    · rw [if_pos k2, bs]
      by_cases k3 : v < nI lo
      · rw [if_pos k3]
        rw [fa_lt, nI_toInt (by omega)] at k3
        rw [n0 _ _ (fun q => by omega)]
      · rw [if_neg k3]
        rw [fa_lt, nI_toInt (by omega)] at k3
        by_cases k4 : nI hi < v
        · rw [if_pos k4]
          rw [fa_lt, nI_toInt (by omega)] at k4
          rw [n0 _ _ (fun q => by omega)]
        · rw [if_neg k4]
          rw [fa_lt, nI_toInt (by omega)] at k4
          have hc : tkk T s = 2 ∧ tke T s - s ≤ 2 ∧ (lo : Int) ≤ v.toInt ∧ v.toInt ≤ (hi : Int) := ⟨k1, k2, by omega, by omega⟩
          rw [if_pos hc]
          rfl
    · rw [if_neg k2, n0 _ _ (fun q => k2 q.2.1)]
  · rw [if_neg k1, n0 _ _ (fun q => k1 q.1)]
theorem i32_10 (v c : Int32) : ((10 * v) + c) - 48 = v * 10 + (c - 48) := by
  rw [Int32.mul_comm 10 v, Int32.sub_eq_add_neg, Int32.add_assoc, ← Int32.sub_eq_add_neg]
theorem x8_numberHere (hC : MT M T) (hL : T.length ≤ 200) {s lo hi : Nat} (hs : s ≤ T.length) (hhi : hi < 1000) (hlo : lo < 1000) (h15 : M 176 15 = nI s) (h16 : M 176 16 = nI (tke T s)) : f_X8_numberHere (nI lo) (nI hi) M = some (match nm T s lo hi with | some m => nI m | none => -1) := by
  have hk := tke_ok (T := T) hs
  have h5 := hC.1
  unfold f_X8_numberHere
  rw [h15, h16, h5]
  by_cases hsT : s < T.length
  · rw [if_neg (fun q => by have := (iE (by omega) (by omega)).mp q; omega), if_neg (nI_in (show s < 200 by omega) (by omega)), cl (by omega), T_at8 hC.2 hsT, x8_isDigit, bs]
    have htk : tkk T s = kd (cha T s) := by unfold tkk; rw [if_pos hsT]
    by_cases k1 : kd (cha T s) = 2
    · rw [if_pos k1, if_neg e10, sb_i hk.1]
      by_cases k2 : tke T s - s ≤ 2
      · rw [if_pos (by rw [show (2 : Int32) = nI 2 from rfl, iL (by omega) (by omega)]; exact k2), lt_e]
        have hl := loop_u (fun m (v : Int32) j => f_X8_numberHere_49 (nI lo) (nI hi) M (fun (i3_7 : Int32) (_ : Int32) =>
          (f_X8_in i3_7.toInt64 (nI lo).toInt64 (nI hi).toInt64 M).bind fun (r9 : Int32) =>
          if r9 = 0 then
            some (-1)
          else
            some i3_7) m v (nI (s + j))) (fun v => (f_X8_in v.toInt64 (nI lo).toInt64 (nI hi).toInt64 M).bind fun (r9 : Int32) => if r9 = 0 then some (-1) else some v) (tke T s - s) (fun j v => v * 10 + (cha T (s + j) - 48)) 0 (fun m j v hj => ?_) (fun m v => ?_) FU (FU_gt (by omega))
        · refine Eq.trans hl ?_
          have hv : fo (fun j v => v * 10 + (cha T (s + j) - 48)) (tke T s - s) 0 = vlr T s (tke T s - s) := rfl
          rw [hv]
          unfold nm
          by_cases k3 : (lo : Int) ≤ (vlr T s (tke T s - s)).toInt ∧ (vlr T s (tke T s - s)).toInt ≤ (hi : Int)
          · have hb := Int32.toInt_lt (vlr T s (tke T s - s))
            rw [if_pos ⟨by omega, k2, k3⟩, x8_inY (L := (nI lo).toInt64) (lo := nI lo) (H := (nI hi).toInt64) (hi := nI hi) rfl rfl (by rw [fa_le, fa_le, nI_toInt (by omega), nI_toInt (by omega)]; exact k3), bs, if_neg e10]
            congr 1
            show _ = nI _
            rw [fa_eq, nI_toInt (by omega)]
            omega
          · rw [if_neg (fun q => k3 q.2.2), x8_inN (L := (nI lo).toInt64) (lo := nI lo) (H := (nI hi).toInt64) (hi := nI hi) rfl rfl (by rw [fa_le, fa_le, nI_toInt (by omega), nI_toInt (by omega)]; exact k3), bs, if_pos rfl]
        · have hc : M 179 (s + j) = cha T (s + j) := T_at8 hC.2 (by omega)
          simp (disch := omega) only [ef_X8_numberHere_49, s_X8_numberHere_49, h16, hc, i32_10, iL, iT, iE, iN, iZ, i0, cl, nL, yL, nT, yT, s1_i, ad_i, z0, c0, la_1, la_2, la_11, la_12, la_21, la_22, la_27, la_54, la_10, la_243, ml_4, ml_6, ml_27, ml_10, ml_3, false_or, or_false, true_or, or_true, or_self, if_false, if_true, not_true, not_false_iff, bs, lt_p]
          rfl
        · show f_X8_numberHere_49 (nI lo) (nI hi) M _ (m + 1) v (nI (s + (tke T s - s))) = _
          rw [ef_X8_numberHere_49]
          unfold s_X8_numberHere_49
          rw [h16, if_pos (by rw [iL (by omega) (by omega)]; omega)]
      · rw [if_neg (by rw [show (2 : Int32) = nI 2 from rfl, iL (by omega) (by omega)]; exact k2)]
        unfold nm
        rw [if_neg (fun q => k2 q.2.1)]
    · rw [if_neg k1, if_pos rfl]
      unfold nm
      rw [if_neg (fun q => k1 (htk ▸ q.1))]
  · rw [if_pos (by congr 1; omega)]
    unfold nm
    rw [if_neg (fun q => by have := q.1; unfold tkk at this; rw [if_neg hsT] at this; omega)]
end WORDS

section WAYS2
variable {M M' : Mem} {n : Nat} {A A' : Arr} {x x' : Row} {P P' : List (Arr × Row)} {K K' : Nat → Option (Arr × Row)} {T T' : List Int32} {S S' : Nat → Option (List (Nat × Row))}
/-- the class knows the ways -/
theorem x7_findWays (w : WF n A x P K T S) (hc : CI M n A x P K T S) : ∃ M', f_X7_findWays M = some M' ∧ CI M' n A x P K T S ∧ M' 0 11 = 0 ∧ WaysOK M' n A ∧ (∀ c, c ≠ 0 → (c < 48 ∨ 56 < c) → M' c = M c) ∧ ∀ j, j ≠ 11 → M' 0 j = M 0 j := by
  rcases hc.2.2.2.2.2.1 with h | ⟨h1, h2⟩
  · obtain ⟨M1, g1, g2, g3⟩ := x6_learn hc.1 w.2.1 w.1.2
    have e : ∀ c, c ≠ 0 → (c < 48 ∨ 56 < c) → um M1 0 11 0 c = M c := fun c c0 c1 => by rw [um_a c0]; exact g2 c c1
    have hw : WaysOK (um M1 0 11 0) n A := g3.on w.1.2 (fun b _ _ => um_a (by omega))
    have e0 : ∀ j, j ≠ 11 → um M1 0 11 0 0 j = M 0 j := fun j hj => by rw [um_k hj, g2 0 (by omega)]
    refine ⟨um M1 0 11 0, ?_, ⟨hc.1.on (fun b _ _ => e b (by omega) (by omega)), hc.2.1.on (fun b _ _ => e b (by omega) (by omega)), hc.2.2.1.on (e _ (by omega) (by omega)) (fun b _ _ => e b (by omega) (by omega)), hc.2.2.2.1.on (e _ (by omega) (by omega)) (e _ (by omega) (by omega)), hc.2.2.2.2.1.on (hc.cS w) (fun b _ _ => e b (by omega) (by omega)), Or.inr ⟨um_s, hw⟩, hc.2.2.2.2.2.2.on (e0 12 (by omega)) (fun b _ _ => e b (by omega) (by omega))⟩, um_s, hw, e, e0⟩
    simp only [f_X7_findWays, h, e10, g1, lt_p, bs, if_false]
  · exact ⟨M, by simp only [f_X7_findWays, h1, if_true], hc, h1, h2, fun _ _ _ => rfl, fun _ _ => rfl⟩
theorem x8_orderOf (hp0 : M 176 0 = nI n) (hq : RQ (M 177) 0 A x) (hA : OKA n A) (hn : n ≤ 6) (p : Nat) (hp : p < n) : f_X8_orderOf (nI p) M = some (nI (plc n A p)) := by
  have h64 := p64 hn
  have hpl := plc_lt hA hn hp
  -- the next point is found
  have hin : ∀ (kk : Int32 → Option Int32) (i1 i3 i4 : Int32) (i : Nat), i < n → f_X8_orderOf_22 i1 (nI (lft n A i)) i3 i4 M kk FU 0 = kk (nI (ord n A i)) := by
    intro kk i1 i3 i4 i hi
    have hlf := lft_ok hA hn i (by omega)
    obtain ⟨o1, o2, o3, o4⟩ := ord_ok hA hn hi
    refine loop_u (fun m (_ : Unit) j => f_X8_orderOf_22 i1 (nI (lft n A i)) i3 i4 M kk m (nI j)) (fun _ => kk (nI (ord n A i))) (ord n A i) (fun _ s => s) () (fun m j s hj => ?_) (fun m s => ?_) FU (FU_gt (by omega))
    · have h := o4 j hj
      simp (disch := omega) only [ef_X8_orderOf_22, s_X8_orderOf_22, bT0, x8_goesTo hq hA hn j (by omega) (lft n A i) (by omega), iL, iT, iE, iN, iZ, i0, cl, nL, yL, nT, yT, s1_i, ad_i, z0, c0, la_1, la_2, la_11, la_12, la_21, la_22, la_27, la_54, la_10, la_243, ml_4, ml_6, ml_27, ml_10, ml_3, false_or, or_false, true_or, or_true, or_self, if_false, if_true, not_true, not_false_iff, bs, lt_p]
      cases h1 : (lft n A i).testBit j with
      | false => rw [if_pos rfl]
      | true =>
        rw [h1] at h
        have h2 : goT A j (lft n A i) = true := by simpa using h
        rw [if_neg (by simp), h2]
        rfl
    · simp (disch := omega) only [ef_X8_orderOf_22, s_X8_orderOf_22, bT0, x8_goesTo hq hA hn (ord n A i) o1 (lft n A i) (by omega), o2, o3, iL, iT, iE, iN, iZ, i0, cl, nL, yL, nT, yT, s1_i, ad_i, z0, c0, la_1, la_2, la_11, la_12, la_21, la_22, la_27, la_54, la_10, la_243, ml_4, ml_6, ml_27, ml_10, ml_3, false_or, or_false, true_or, or_true, or_self, if_false, if_true, not_true, not_false_iff, bs, lt_p]
      rfl
  have hst : ∀ m j (s : Unit), j < plc n A p → f_X8_orderOf_14 (nI p) M (fun (_ : Int32) (i3 : Int32) (_ : Int32) => some i3) (m + 1) (nI (lft n A j)) (nI j) 0 = f_X8_orderOf_14 (nI p) M (fun (_ : Int32) (i3 : Int32) (_ : Int32) => some i3) m (nI (lft n A (j + 1))) (nI (j + 1)) 0 := by
    intro m j s hj
    obtain ⟨o1, o2, o3, o4⟩ := ord_ok hA hn (show j < n by omega)
    have hlf := lft_ok hA hn j (by omega)
    have hne : ord n A j ≠ p := fun q => by have h9 := plc_ord hA hn (show j < n by omega); rw [q] at h9; omega
    have hb := bC (b := lft n A j) (r := ord n A j) (by omega) (by omega) o2
    rw [ef_X8_orderOf_14]
    unfold s_X8_orderOf_14
    rw [if_pos rfl, hin _ _ _ _ j (by omega)]
    simp (disch := omega) only [hne, hb, iL, iT, iE, iN, iZ, i0, cl, nL, yL, nT, yT, s1_i, ad_i, z0, c0, la_1, la_2, la_11, la_12, la_21, la_22, la_27, la_54, la_10, la_243, ml_4, ml_6, ml_27, ml_10, ml_3, false_or, or_false, true_or, or_true, or_self, if_false, if_true, not_true, not_false_iff, bs, lt_p]
    rfl
  obtain ⟨n', a1, a2, a3⟩ := loop_fo (fun m (_ : Unit) j => f_X8_orderOf_14 (nI p) M (fun (_ : Int32) (i3 : Int32) (_ : Int32) => some i3) m (nI (lft n A j)) (nI j) 0) (plc n A p) (fun _ s => s) () (fun _ _ => True) trivial (fun _ _ _ _ => trivial) (fun m j s hj _ => hst m j s hj) (plc n A p) 0 (by omega) FU (FU_gt (by omega))
  unfold f_X8_orderOf
  rw [hp0, bL (by omega), lt_e]
  refine Eq.trans a2 ?_
  have hFU : FU = 20000 := rfl
  obtain ⟨n2, rfl⟩ : ∃ n2, n' = n2 + 1 := ⟨n' - 1, by omega⟩
  show f_X8_orderOf_14 (nI p) M (fun (_ : Int32) (i3 : Int32) (_ : Int32) => some i3) (n2 + 1 + 1) (nI (lft n A (plc n A p))) (nI (plc n A p)) 0 = _
  rw [ef_X8_orderOf_14]
  unfold s_X8_orderOf_14
  rw [if_pos rfl, hin _ _ _ _ (plc n A p) hpl.1, hpl.2]
  have i00 : nI (plc n A p) + 0 = nI (plc n A p) := Int32.add_zero _
  simp only [if_true, e10, if_false, lt_p, i00]
  rw [ef_X8_orderOf_14]
  unfold s_X8_orderOf_14
  rw [if_neg e10]
theorem op_point (h : Inv M) (i c : Int32) : ∃ r M1, f_X7_point i c M = some (r, M1) ∧ f_X8_point i c M1 = some r ∧ Inv M1 := by
  obtain ⟨n, A, x, P, K, T, S, w, hc, hm⟩ := id h
  have hn6 := w.1.2
  have hA := w.2.1
  have hl := hA.1
  have hno : (i < 0 ∨ nI n ≤ i) → ∃ r M1, f_X7_point i c M = some (r, M1) ∧ f_X8_point i c M1 = some r ∧ Inv M1 := fun hi => ⟨-1000001, M, by unfold f_X7_point; rw [x2_hasPointN hc.1.1 hi]; rfl, by unfold f_X8_point; rw [x8_isPointN hm.1 w.1.1 hn6 hi]; rfl, h⟩
  rcases pk_ix i (n := n) (by omega) with hi | hi | ⟨p, hp, rfl⟩
  · exact hno (Or.inl hi)
  · exact hno (Or.inr hi)
  have e1 : f_X2_hasPoint 1 (nI p) M = some 1 := x2_hasPoint hc.1.1 hn6 p hp
  have c1 : f_X2_going 1 (nI p) M = some (cou A p) := x2_going hc.1 hA hn6 p hp
  have c2 : f_X2_coming 1 (nI p) M = some (cin A p) := x2_coming hc.1 hA hn6 p hp
  have m0 := x8_isPoint hm.1 hn6 p hp
  have m1 := x8_comes hm.2.1 hA hn6 p hp
  have m2 := x8_goes hm.2.1 hA hn6 p hp
  by_cases c0 : c = 0
  · subst c0
    have e4 : M 4 p = x p := hc.1.2.2.2 p (by omega)
    have e5 : M 177 (21 + p) = x p := by have := hm.2.1.2.2 p (by omega); rw [Nat.zero_add] at this; exact this
    exact ⟨x p, M, by simp (disch := omega) only [f_X7_point, e1, e10, e4, iL, iT, iE, iN, iZ, i0, cl, nL, yL, nT, yT, s1_i, ad_i, z0, c0, la_1, la_2, la_11, la_12, la_21, la_22, la_27, la_54, la_10, la_243, ml_4, ml_6, ml_27, ml_10, ml_3, false_or, or_false, true_or, or_true, or_self, if_false, if_true, not_true, not_false_iff, bs, lt_p], by simp (disch := omega) only [f_X8_point, m0, e10, e5, iL, iT, iE, iN, iZ, i0, cl, nL, yL, nT, yT, s1_i, ad_i, z0, c0, la_1, la_2, la_11, la_12, la_21, la_22, la_27, la_54, la_10, la_243, ml_4, ml_6, ml_27, ml_10, ml_3, false_or, or_false, true_or, or_true, or_self, if_false, if_true, not_true, not_false_iff, bs, lt_p], h⟩
  by_cases c1' : c = 1
  · subst c1'
    by_cases hz : cou A p = 0
    · exact ⟨1, M, by simp (disch := omega) only [f_X7_point, f_X2_isSink, e1, e10, c1, hz, iL, iT, iE, iN, iZ, i0, cl, nL, yL, nT, yT, s1_i, ad_i, z0, c0, la_1, la_2, la_11, la_12, la_21, la_22, la_27, la_54, la_10, la_243, ml_4, ml_6, ml_27, ml_10, ml_3, false_or, or_false, true_or, or_true, or_self, if_false, if_true, not_true, not_false_iff, bs, lt_p], by simp (disch := omega) only [f_X8_point, m0, m2, hz, e10, iL, iT, iE, iN, iZ, i0, cl, nL, yL, nT, yT, s1_i, ad_i, z0, c0, la_1, la_2, la_11, la_12, la_21, la_22, la_27, la_54, la_10, la_243, ml_4, ml_6, ml_27, ml_10, ml_3, false_or, or_false, true_or, or_true, or_self, if_false, if_true, not_true, not_false_iff, bs, lt_p], h⟩
    · exact ⟨0, M, by simp (disch := omega) only [f_X7_point, f_X2_isSink, e1, e10, c1, hz, iL, iT, iE, iN, iZ, i0, cl, nL, yL, nT, yT, s1_i, ad_i, z0, c0, la_1, la_2, la_11, la_12, la_21, la_22, la_27, la_54, la_10, la_243, ml_4, ml_6, ml_27, ml_10, ml_3, false_or, or_false, true_or, or_true, or_self, if_false, if_true, not_true, not_false_iff, bs, lt_p], by simp (disch := omega) only [f_X8_point, m0, m2, hz, e10, iL, iT, iE, iN, iZ, i0, cl, nL, yL, nT, yT, s1_i, ad_i, z0, c0, la_1, la_2, la_11, la_12, la_21, la_22, la_27, la_54, la_10, la_243, ml_4, ml_6, ml_27, ml_10, ml_3, false_or, or_false, true_or, or_true, or_self, if_false, if_true, not_true, not_false_iff, bs, lt_p], h⟩
  have n20 : ¬ (2 : Int32) = 0 := by decide
  have n21 : ¬ (2 : Int32) = 1 := by decide
  by_cases c2' : c = 2
  · subst c2'
    by_cases hz : cin A p = 0
    · exact ⟨1, M, by simp (disch := omega) only [f_X7_point, f_X2_isSource, e1, e10, n20, n21, c2, hz, iL, iT, iE, iN, iZ, i0, cl, nL, yL, nT, yT, s1_i, ad_i, z0, c0, la_1, la_2, la_11, la_12, la_21, la_22, la_27, la_54, la_10, la_243, ml_4, ml_6, ml_27, ml_10, ml_3, false_or, or_false, true_or, or_true, or_self, if_false, if_true, not_true, not_false_iff, bs, lt_p], by simp (disch := omega) only [f_X8_point, m0, m1, hz, e10, n20, n21, iL, iT, iE, iN, iZ, i0, cl, nL, yL, nT, yT, s1_i, ad_i, z0, c0, la_1, la_2, la_11, la_12, la_21, la_22, la_27, la_54, la_10, la_243, ml_4, ml_6, ml_27, ml_10, ml_3, false_or, or_false, true_or, or_true, or_self, if_false, if_true, not_true, not_false_iff, bs, lt_p], h⟩
    · exact ⟨0, M, by simp (disch := omega) only [f_X7_point, f_X2_isSource, e1, e10, n20, n21, c2, hz, iL, iT, iE, iN, iZ, i0, cl, nL, yL, nT, yT, s1_i, ad_i, z0, c0, la_1, la_2, la_11, la_12, la_21, la_22, la_27, la_54, la_10, la_243, ml_4, ml_6, ml_27, ml_10, ml_3, false_or, or_false, true_or, or_true, or_self, if_false, if_true, not_true, not_false_iff, bs, lt_p], by simp (disch := omega) only [f_X8_point, m0, m1, hz, e10, n20, n21, iL, iT, iE, iN, iZ, i0, cl, nL, yL, nT, yT, s1_i, ad_i, z0, c0, la_1, la_2, la_11, la_12, la_21, la_22, la_27, la_54, la_10, la_243, ml_4, ml_6, ml_27, ml_10, ml_3, false_or, or_false, true_or, or_true, or_self, if_false, if_true, not_true, not_false_iff, bs, lt_p], h⟩
  by_cases c3' : c = 3
  · subst c3'
    obtain ⟨M1, g1, g2, g3, g4, g5, g6⟩ := x7_findWays w hc
    have hm1 : MI M1 n A x P K T S := hm.frame (fun b _ => g5 b (by omega) (by omega))
    have e9 := g4.2.1 p hp
    exact ⟨nI (plc n A p), M1, by simp (disch := omega) only [f_X7_point, e1, e10, c0, c1', c2', g1, e9, iL, iT, iE, iN, iZ, i0, cl, nL, yL, nT, yT, s1_i, ad_i, z0, c0, la_1, la_2, la_11, la_12, la_21, la_22, la_27, la_54, la_10, la_243, ml_4, ml_6, ml_27, ml_10, ml_3, false_or, or_false, true_or, or_true, or_self, if_false, if_true, not_true, not_false_iff, bs, lt_p], by simp (disch := omega) only [f_X8_point, x8_isPoint hm1.1 hn6 p hp, e10, c0, c1', c2', x8_orderOf hm1.1 hm1.2.1 hA hn6 p hp, iL, iT, iE, iN, iZ, i0, cl, nL, yL, nT, yT, s1_i, ad_i, z0, c0, la_1, la_2, la_11, la_12, la_21, la_22, la_27, la_54, la_10, la_243, ml_4, ml_6, ml_27, ml_10, ml_3, false_or, or_false, true_or, or_true, or_self, if_false, if_true, not_true, not_false_iff, bs, lt_p], n, A, x, P, K, T, S, w, g2, hm1⟩
  by_cases c4' : c = 4
  · subst c4'
    exact ⟨cin A p, M, by simp (disch := omega) only [f_X7_point, e1, e10, c0, c1', c2', c3', c2, iL, iT, iE, iN, iZ, i0, cl, nL, yL, nT, yT, s1_i, ad_i, z0, c0, la_1, la_2, la_11, la_12, la_21, la_22, la_27, la_54, la_10, la_243, ml_4, ml_6, ml_27, ml_10, ml_3, false_or, or_false, true_or, or_true, or_self, if_false, if_true, not_true, not_false_iff, bs, lt_p], by simp (disch := omega) only [f_X8_point, m0, m1, e10, c0, c1', c2', c3', iL, iT, iE, iN, iZ, i0, cl, nL, yL, nT, yT, s1_i, ad_i, z0, c0, la_1, la_2, la_11, la_12, la_21, la_22, la_27, la_54, la_10, la_243, ml_4, ml_6, ml_27, ml_10, ml_3, false_or, or_false, true_or, or_true, or_self, if_false, if_true, not_true, not_false_iff, bs, lt_p], h⟩
  by_cases c5' : c = 5
  · subst c5'
    exact ⟨cou A p, M, by simp (disch := omega) only [f_X7_point, e1, e10, c0, c1', c2', c3', c4', c1, iL, iT, iE, iN, iZ, i0, cl, nL, yL, nT, yT, s1_i, ad_i, z0, c0, la_1, la_2, la_11, la_12, la_21, la_22, la_27, la_54, la_10, la_243, ml_4, ml_6, ml_27, ml_10, ml_3, false_or, or_false, true_or, or_true, or_self, if_false, if_true, not_true, not_false_iff, bs, lt_p], by simp (disch := omega) only [f_X8_point, m0, m2, e10, c0, c1', c2', c3', c4', iL, iT, iE, iN, iZ, i0, cl, nL, yL, nT, yT, s1_i, ad_i, z0, c0, la_1, la_2, la_11, la_12, la_21, la_22, la_27, la_54, la_10, la_243, ml_4, ml_6, ml_27, ml_10, ml_3, false_or, or_false, true_or, or_true, or_self, if_false, if_true, not_true, not_false_iff, bs, lt_p], h⟩
  exact ⟨-1000002, M, by simp (disch := omega) only [f_X7_point, e1, e10, c0, c1', c2', c3', c4', c5', iL, iT, iE, iN, iZ, i0, cl, nL, yL, nT, yT, s1_i, ad_i, z0, c0, la_1, la_2, la_11, la_12, la_21, la_22, la_27, la_54, la_10, la_243, ml_4, ml_6, ml_27, ml_10, ml_3, false_or, or_false, true_or, or_true, or_self, if_false, if_true, not_true, not_false_iff, bs, lt_p], by simp (disch := omega) only [f_X8_point, m0, e10, c0, c1', c2', c3', c4', c5', iL, iT, iE, iN, iZ, i0, cl, nL, yL, nT, yT, s1_i, ad_i, z0, c0, la_1, la_2, la_11, la_12, la_21, la_22, la_27, la_54, la_10, la_243, ml_4, ml_6, ml_27, ml_10, ml_3, false_or, or_false, true_or, or_true, or_self, if_false, if_true, not_true, not_false_iff, bs, lt_p], h⟩
end WAYS2

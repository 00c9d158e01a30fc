/-! ===== the class chooses the roots, and counts ===== -/
section CSUMS2
variable {M M0 M' : Mem} {n : Nat} {A A' : Arr} {x x' : Row}
theorem x0_put5 (kk : Int32 → Mem → Option Mem) (i1 i2 : Int32) {U : List Nat} (hU : U.length < 36) : ∀ a M1, a ≤ U.length → ((∀ c, c ≠ 142 → c ≠ 143 → M1 c = M c) ∧ (∀ j t, j < a → U[j]? = some t → M1 142 j = nI t) ∧ ∀ j t, a ≤ j → U[j]? = some t → M1 142 (j + 1) = nI t) → ∀ f, a < f → ∃ k M', k ≤ a ∧ f_X0_putAmongUsed_5 i1 i2 kk f (nI a) M1 = kk (nI k) M' ∧ (∀ c, c ≠ 142 → c ≠ 143 → M' c = M c) ∧ (∀ j t, j < k → U[j]? = some t → M' 142 j = nI t) ∧ ∀ j t, k ≤ j → U[j]? = some t → M' 142 (j + 1) = nI t := by
  intro a
  induction a with
  | zero =>
    intro M1 _ hI f hf
    obtain ⟨f, rfl⟩ : ∃ f', f = f' + 1 := ⟨f - 1, by omega⟩
    refine ⟨0, M1, Nat.le_refl _, ?_, hI⟩
    have e0 : nI 0 ≤ 0 := by decide
    rw [ef_X0_putAmongUsed_5]
    unfold s_X0_putAmongUsed_5
    rw [if_pos e0]
  | succ a ih =>
    intro M1 ha hI f hf
    obtain ⟨f, rfl⟩ : ∃ f', f = f' + 1 := ⟨f - 1, by omega⟩
    obtain ⟨i1', i2', i3⟩ := hI
    have e1 : nI (a + 1) - 1 = nI a := nI_pred a
    have e0 : ¬ nI (a + 1) ≤ 0 := nI_nle (by omega) (by omega)
    have e3 : nI (a + 1) + (-1) = nI a := by rw [← e1]; exact (Int32.sub_eq_add_neg _ _).symm
    by_cases hle : i2 ≤ M1 143 a
    · refine ⟨a + 1, M1, Nat.le_refl _, ?_, i1', i2', i3⟩
      simp (disch := omega) only [ef_X0_putAmongUsed_5, s_X0_putAmongUsed_5, e0, e1, hle, iL, iT, iE, iN, iZ, i0, cl, nL, yL, nT, yT, s1_i, ad_i, z0, c0, la_1, la_2, la_11, la_12, la_21, la_22, la_27, la_54, la_10, la_243, ml_4, ml_6, ml_27, ml_10, ml_3, false_or, or_false, true_or, or_true, or_self, if_false, if_true, not_true, not_false_iff, bs, lt_p]
    · obtain ⟨k, M3, k1, k2, k3⟩ := ih (um (um M1 143 (a + 1) (M1 143 a)) 142 (a + 1) (M1 142 a)) (by omega) ⟨fun c d1 d2 => by rw [um_a d1, um_a d2]; exact i1' c d1 d2, fun j t hj hjt => by rw [um_k (by omega), um_a (by omega)]; exact i2' j t (by omega) hjt, fun j t hj hjt => by
        by_cases hja : j = a
        · subst hja
          rw [um_s]
          exact i2' j t (by omega) hjt
        · rw [um_k (by omega), um_a (by omega)]; exact i3 j t (by omega) hjt⟩ f (by omega)
      refine ⟨k, M3, by omega, ?_, k3⟩
      rw [← k2]
      have e4 : um M1 143 (a + 1) (M1 143 a) 142 a = M1 142 a := by rw [um_a (by omega)]
      simp (disch := omega) only [ef_X0_putAmongUsed_5, s_X0_putAmongUsed_5, e0, e1, e3, e4, hle, iL, iT, iE, iN, iZ, i0, cl, nL, yL, nT, yT, s1_i, ad_i, z0, c0, la_1, la_2, la_11, la_12, la_21, la_22, la_27, la_54, la_10, la_243, ml_4, ml_6, ml_27, ml_10, ml_3, false_or, or_false, true_or, or_true, or_self, if_false, if_true, not_true, not_false_iff, bs, lt_p]
theorem x0_put {U : List Nat} (hU : U.length < 36) (h3 : M 141 3 = nI U.length) (h142 : ∀ j t, U[j]? = some t → M 142 j = nI t) (r : Nat) (v : Int32) : ∃ k M', k ≤ U.length ∧ f_X0_putAmongUsed (nI r) v M = some M' ∧ (∀ c, c ≠ 141 → c ≠ 142 → c ≠ 143 → M' c = M c) ∧ (∀ j, j ≠ 3 → M' 141 j = M 141 j) ∧ M' 141 3 = nI (U.length + 1) ∧ ∀ j t, (insA U k r)[j]? = some t → M' 142 j = nI t := by
  obtain ⟨k, M1, k1, k2, k3, k4, k5⟩ := x0_put5 (M := M) (fun (i3_2 : Int32) (M3 : Mem) =>
    if i3_2 < 0 ∨ 36 ≤ i3_2.toNatClampNeg then none else
    lt (um M3 143 i3_2.toNatClampNeg v) fun (M5 : Mem) =>
    if i3_2 < 0 ∨ 36 ≤ i3_2.toNatClampNeg then none else
    lt (um M5 142 i3_2.toNatClampNeg (nI r)) fun (M7 : Mem) =>
    lt (um M7 141 3 ((M7 141 3) + 1)) fun (M8 : Mem) =>
    some M8) (nI r) v hU U.length M (Nat.le_refl _) ⟨fun _ _ _ => rfl, fun j t _ hjt => h142 j t hjt, fun j t hj hjt => by have := (List.getElem?_eq_some_iff.mp hjt).1; omega⟩ FU (FU_gt (by omega))
  have e3 : um (um M1 143 k v) 142 k (nI r) 141 3 = nI U.length := by rw [um_a (by omega), um_a (by omega), k3 141 (by omega) (by omega)]; exact h3
  refine ⟨k, um (um (um M1 143 k v) 142 k (nI r)) 141 3 (nI (U.length + 1)), k1, ?_, fun c d1 d2 d3 => by rw [um_a d1, um_a d2, um_a d3]; exact k3 c d2 d3, fun j hj => by rw [um_k hj, um_a (by omega), um_a (by omega), k3 141 (by omega) (by omega)], um_s, fun j t hj => ?_⟩
  · unfold f_X0_putAmongUsed
    rw [h3, lt_e]
    refine Eq.trans k2 ?_
    simp (disch := omega) only [e3, iL, iT, iE, iN, iZ, i0, cl, nL, yL, nT, yT, s1_i, ad_i, z0, c0, la_1, la_2, la_11, la_12, la_21, la_22, la_27, la_54, la_10, la_243, ml_4, ml_6, ml_27, ml_10, ml_3, false_or, or_false, true_or, or_true, or_self, if_false, if_true, not_true, not_false_iff, bs, lt_p]
  · rw [um_a (by omega)]
    unfold insA at hj
    have hkl : (U.take k).length = k := by rw [List.length_take]; omega
    by_cases hjk : j < k
    · rw [List.getElem?_append_left (by omega), List.getElem?_take_of_lt hjk] at hj
      rw [um_k (by omega), um_a (by omega)]
      exact k4 j t hjk hj
    · rw [List.getElem?_append_right (by omega), hkl] at hj
      by_cases hjk2 : j = k
      · subst hjk2
        rw [Nat.sub_self] at hj
        have hj : r = t := by simpa using hj
        subst hj
        rw [um_s]
      · obtain ⟨d, hd⟩ : ∃ d, j - k = d + 1 := ⟨j - k - 1, by omega⟩
        rw [hd, List.getElem?_cons_succ, List.getElem?_drop] at hj
        rw [um_k hjk2, um_a (by omega)]
        have := k5 (k + d) t (by omega) hj
        rw [show k + d + 1 = j by omega] at this
        exact this
theorem insA_perm {U : List Nat} {k r : Nat} : List.Perm (insA U k r) (r :: U) := by
  unfold insA
  refine List.Perm.trans List.perm_middle ?_
  rw [List.take_append_drop]
noncomputable def sel (n : Nat) (A : Arr) (X : Nat → Int) (t : Nat) : Bool := dc (1 < rsm n ((rts n A).getD t 0) ∧ fitP (Rz n A t) X)
theorem x0_choose (hA : OKA n A) (hn : n ≤ 6) (hn1 : 1 ≤ n) {X : Nat → Int} (hX : ∀ i, 0 ≤ X i ∧ X i ≤ 99) (h4 : M0 141 4 = nI n) (hR : RW M0 n A) (hT : ∀ t, t < (rts n A).length → M0 95 t = nI (rsm n ((rts n A).getD t 0))) (h144 : ∀ i, i < n → M0 144 i = Int32.ofInt (X i)) : ∃ U M', f_X0_chooseRoots M0 = some M' ∧ (∀ c, c ≠ 141 → c ≠ 142 → c ≠ 143 → M' c = M0 c) ∧ M' 141 4 = nI n ∧ List.Perm U ((List.range (rts n A).length).filter (sel n A X)) ∧ U.length ≤ 36 ∧ M' 141 3 = nI U.length ∧ (∀ j t, U[j]? = some t → M' 142 j = nI t) ∧ ∀ j, j < U.length → M' 143 j = 0 := by
  have h36 := hR.1
  have hlen : ∀ r U, List.Perm U ((List.range r).filter (sel n A X)) → U.length ≤ r := fun r U hp => by
    rw [hp.length_eq]
    have := List.length_filter_le (sel n A X) (List.range r)
    rw [List.length_range] at this
    exact this
  have key : ∀ (kk : Int32 → Mem → Option Mem) (m r : Nat) (M1 : Mem) (U : List Nat), r + m = (rts n A).length → ((∀ c, c ≠ 141 → c ≠ 142 → c ≠ 143 → M1 c = M0 c) ∧ M1 141 4 = nI n ∧ List.Perm U ((List.range r).filter (sel n A X)) ∧ M1 141 3 = nI U.length ∧ ∀ j t, U[j]? = some t → M1 142 j = nI t) → ∀ f, m < f → ∃ M2 U2, ((∀ c, c ≠ 141 → c ≠ 142 → c ≠ 143 → M2 c = M0 c) ∧ M2 141 4 = nI n ∧ List.Perm U2 ((List.range (rts n A).length).filter (sel n A X)) ∧ M2 141 3 = nI U2.length ∧ ∀ j t, U2[j]? = some t → M2 142 j = nI t) ∧ f_X0_chooseRoots_7 kk f (nI r) M1 = kk (nI (rts n A).length) M2 := by
    intro kk m
    induction m with
    | zero =>
      intro r M1 U hr hI f hf
      obtain ⟨f, rfl⟩ : ∃ f', f = f' + 1 := ⟨f - 1, by omega⟩
      have : r = (rts n A).length := by omega
      subst this
      refine ⟨M1, U, hI, ?_⟩
      have h57 : M1 57 1 = nI (rts n A).length := by rw [hI.1 57 (by omega) (by omega) (by omega)]; exact hR.2.1
      simp (disch := omega) only [ef_X0_chooseRoots_7, s_X0_chooseRoots_7, h57, iL, iT, iE, iN, iZ, i0, cl, nL, yL, nT, yT, s1_i, ad_i, z0, c0, la_1, la_2, la_11, la_12, la_21, la_22, la_27, la_54, la_10, la_243, ml_4, ml_6, ml_27, ml_10, ml_3, false_or, or_false, true_or, or_true, or_self, if_false, if_true, not_true, not_false_iff, bs, lt_p]
    | succ m ih =>
      intro r M1 U hr hI f hf
      obtain ⟨f, rfl⟩ : ∃ f', f = f' + 1 := ⟨f - 1, by omega⟩
      obtain ⟨i1, i2, i3, i4, i5⟩ := hI
      have hrl : r < (rts n A).length := by omega
      have h57 : M1 57 1 = nI (rts n A).length := by rw [i1 57 (by omega) (by omega) (by omega)]; exact hR.2.1
      have h95 : M1 95 r = nI (rsm n ((rts n A).getD r 0)) := by rw [i1 95 (by omega) (by omega) (by omega)]; exact hT r hrl
      have hrow : ∀ i, i < 6 → M1 (59 + r) i = rt n A r i := fun i hi => by rw [i1 _ (by omega) (by omega) (by omega)]; exact hR.2.2 r hrl i hi
      have hb : ∀ i, i < n → M1 144 i = Int32.ofInt (X i) := fun i hi => by rw [i1 144 (by omega) (by omega) (by omega)]; exact h144 i hi
      have hfit := x0_fits (A := A) hn i2 hrl hrow hb hX
      have hrs := rsm_lt hn ((rts n A).getD r 0)
      have hUl := hlen r U i3
      have e1 : nI (rsm n ((rts n A).getD r 0)) ≤ 1 ↔ rsm n ((rts n A).getD r 0) ≤ 1 := by rw [show (1 : Int32) = nI 1 from rfl, iL (by omega) (by omega)]
      have hskip : sel n A X r = false → ((∀ c, c ≠ 141 → c ≠ 142 → c ≠ 143 → M1 c = M0 c) ∧ M1 141 4 = nI n ∧ List.Perm U ((List.range (r + 1)).filter (sel n A X)) ∧ M1 141 3 = nI U.length ∧ ∀ j t, U[j]? = some t → M1 142 j = nI t) := fun hs => ⟨i1, i2, by
        rw [List.range_succ, List.filter_append, List.filter_cons, hs, if_neg ff_t, List.filter_nil, List.append_nil]
        exact i3, i4, i5⟩
      by_cases h1 : rsm n ((rts n A).getD r 0) ≤ 1
      · obtain ⟨M2, U2, q1, q2⟩ := ih (r + 1) M1 U (by omega) (hskip (dc_f (fun q => by omega))) f (by omega)
        refine ⟨M2, U2, q1, ?_⟩
        rw [← q2]
        simp (disch := omega) only [ef_X0_chooseRoots_7, s_X0_chooseRoots_7, h57, h95, e1, h1, iL, iT, iE, iN, iZ, i0, cl, nL, yL, nT, yT, s1_i, ad_i, z0, c0, la_1, la_2, la_11, la_12, la_21, la_22, la_27, la_54, la_10, la_243, ml_4, ml_6, ml_27, ml_10, ml_3, false_or, or_false, true_or, or_true, or_self, if_false, if_true, not_true, not_false_iff, bs, lt_p]
      · by_cases hf2 : fitP (Rz n A r) X
        · rw [dc_t hf2, if_pos rfl] at hfit
          obtain ⟨h, h2, h3, _⟩ := x0_often (A := A) hA hn hn1 i2 hrl hrow hb hX
          obtain ⟨k, M3, k1, k2, k3, k4, k5, k6⟩ := x0_put (M := M1) (show U.length < 36 by omega) i4 i5 r (nI h)
          obtain ⟨M2, U2, q1, q2⟩ := ih (r + 1) M3 (insA U k r) (by omega) ⟨fun c d1 d2 d3 => by rw [k3 c d1 d2 d3]; exact i1 c d1 d2 d3, by rw [k4 4 (by omega)]; exact i2, by
            have hs : sel n A X r = true := dc_t ⟨by omega, hf2⟩
            rw [List.range_succ, List.filter_append, List.filter_cons, hs, if_pos rfl, List.filter_nil]
            refine insA_perm.trans ?_
            exact ((i3.cons r).trans (List.perm_append_comm (l₁ := [r]) (l₂ := (List.range r).filter (sel n A X)))), by
            rw [k5]
            congr 1
            rw [insA_perm.length_eq, List.length_cons], k6⟩ f (by omega)
          refine ⟨M2, U2, q1, ?_⟩
          rw [← q2]
          simp (disch := omega) only [ef_X0_chooseRoots_7, s_X0_chooseRoots_7, h57, h95, e1, h1, hfit, e10, h3, k2, iL, iT, iE, iN, iZ, i0, cl, nL, yL, nT, yT, s1_i, ad_i, z0, c0, la_1, la_2, la_11, la_12, la_21, la_22, la_27, la_54, la_10, la_243, ml_4, ml_6, ml_27, ml_10, ml_3, false_or, or_false, true_or, or_true, or_self, if_false, if_true, not_true, not_false_iff, bs, lt_p]
        · rw [dc_f hf2, if_neg ff_t] at hfit
          obtain ⟨M2, U2, q1, q2⟩ := ih (r + 1) M1 U (by omega) (hskip (dc_f (fun q => hf2 q.2))) f (by omega)
          refine ⟨M2, U2, q1, ?_⟩
          rw [← q2]
          simp (disch := omega) only [ef_X0_chooseRoots_7, s_X0_chooseRoots_7, h57, h95, e1, h1, hfit, iL, iT, iE, iN, iZ, i0, cl, nL, yL, nT, yT, s1_i, ad_i, z0, c0, la_1, la_2, la_11, la_12, la_21, la_22, la_27, la_54, la_10, la_243, ml_4, ml_6, ml_27, ml_10, ml_3, false_or, or_false, true_or, or_true, or_self, if_false, if_true, not_true, not_false_iff, bs, lt_p]
  obtain ⟨M1, U, ⟨i1, i2, i3, i4, i5⟩, q2⟩ := key (fun (_ : Int32) (M3 : Mem) => f_X0_chooseRoots_61 (fun (_ : Int32) (M5 : Mem) => some M5) FU 0 M3) (rts n A).length 0 (um M0 141 3 0) [] (by omega) ⟨fun c d1 d2 d3 => um_a d1, by rw [um_k (by omega)]; exact h4, List.Perm.refl _, um_s, fun j t hj => by simp at hj⟩ FU (FU_gt (by omega))
  have hUl := hlen _ U i3
  have hst : ∀ (f j : Nat) (M2 : Mem), j < U.length → ((∀ c, c ≠ 143 → M2 c = M1 c) ∧ ∀ q, q < j → M2 143 q = 0) → ∃ M', ((∀ c, c ≠ 143 → M' c = M1 c) ∧ ∀ q, q < j + 1 → M' 143 q = 0) ∧ f_X0_chooseRoots_61 (fun (_ : Int32) (M5 : Mem) => some M5) (f + 1) (nI j) M2 = f_X0_chooseRoots_61 (fun (_ : Int32) (M5 : Mem) => some M5) f (nI (j + 1)) M' := by
    intro f j M2 hj hI
    refine ⟨um M2 143 j 0, ⟨fun c hc => by rw [um_a hc]; exact hI.1 c hc, fun q hq => ?_⟩, ?_⟩
    · by_cases hqj : q = j
      · subst hqj; rw [um_s]
      · rw [um_k hqj]; exact hI.2 q (by omega)
    · have e3 : M2 141 3 = nI U.length := by rw [hI.1 141 (by omega)]; exact i4
      simp (disch := omega) only [ef_X0_chooseRoots_61, s_X0_chooseRoots_61, e3, iL, iT, iE, iN, iZ, i0, cl, nL, yL, nT, yT, s1_i, ad_i, z0, c0, la_1, la_2, la_11, la_12, la_21, la_22, la_27, la_54, la_10, la_243, ml_4, ml_6, ml_27, ml_10, ml_3, false_or, or_false, true_or, or_true, or_self, if_false, if_true, not_true, not_false_iff, bs, lt_p]
  obtain ⟨f', M2, ⟨g1, g2⟩, g3⟩ := loop_M (fun f M i => f_X0_chooseRoots_61 (fun (_ : Int32) (M5 : Mem) => some M5) f (nI i) M) U.length (fun j M2 => (∀ c, c ≠ 143 → M2 c = M1 c) ∧ ∀ q, q < j → M2 143 q = 0) hst U.length 0 M1 (by omega) ⟨fun _ _ => rfl, fun q hq => by omega⟩ FU (FU_gt (by omega))
  refine ⟨U, M2, ?_, fun c d1 d2 d3 => by rw [g1 c d3]; exact i1 c d1 d2 d3, by rw [g1 141 (by omega)]; exact i2, i3, by omega, by rw [g1 141 (by omega)]; exact i4, fun j t hj => by rw [g1 142 (by omega)]; exact i5 j t hj, g2⟩
  unfold f_X0_chooseRoots
  rw [lt_e]
  refine Eq.trans q2 ?_
  refine Eq.trans g3 ?_
  have e3 : M2 141 3 = nI U.length := by rw [g1 141 (by omega)]; exact i4
  simp (disch := omega) only [ef_X0_chooseRoots_61, s_X0_chooseRoots_61, e3, iL, iT, iE, iN, iZ, i0, cl, nL, yL, nT, yT, s1_i, ad_i, z0, c0, la_1, la_2, la_11, la_12, la_21, la_22, la_27, la_54, la_10, la_243, ml_4, ml_6, ml_27, ml_10, ml_3, false_or, or_false, true_or, or_true, or_self, if_false, if_true, not_true, not_false_iff, bs, lt_p]
noncomputable def TOT (n : Nat) (A : Arr) (x : Row) : Nat := Fn n (Rz n A) ((List.range (rts n A).length).filter (sel n A (Xz n x))) (fun _ => 1) (Xz n x)
noncomputable def SUM (n : Nat) (A : Arr) (x : Row) : Nat := if dc (∀ i, i < n → 0 ≤ ti x i) then min (TOT n A x) 9999 else 0
theorem x0_ways (hA : OKA n A) (hn : n ≤ 6) (hn1 : 1 ≤ n) (hx : OKR n x) (hq : CQ M 1 n A x) (hR : RW M n A) (hT : ∀ t, t < (rts n A).length → M 95 t = nI (rsm n ((rts n A).getD t 0))) : ∃ M', f_X0_ways M = some (nI (SUM n A x), M') ∧ ∀ c, (c < 141 ∨ 144 < c) → M' c = M c := by
  have a10 : M 1 0 = nI n := hq.1
  let M2 : Mem := uc (um M 141 4 (nI n)) 144 (va_cpy (um M 141 4 (nI n) 4) (um M 141 4 (nI n) 144) 0 0 6)
  have f2 : ∀ c, c ≠ 141 → c ≠ 144 → M2 c = M c := fun c d1 d2 => by
    show uc (um M 141 4 (nI n)) 144 _ c = _
    rw [uc_a d2, um_a d1]
  have h4 : M2 141 4 = nI n := by
    show uc (um M 141 4 (nI n)) 144 _ 141 4 = _
    rw [uc_a (by omega), um_s]
  have h144 : ∀ i, i < 6 → M2 144 i = x i := fun i hi => by
    show uc (um M 141 4 (nI n)) 144 _ 144 i = _
    rw [uc_s, cp_lt hi, um_a (by omega)]
    exact hq.2.2.2 i hi
  have hstart : ∀ R, f_X0_ways_21 M2 (fun (_ : Int32) =>
    (f_X0_chooseRoots M2).bind fun (M4 : Mem) =>
    if M4 141 3 = 0 then
      some (1, M4)
    else
      f_X0_ways_65  (fun (i3_6 : Int32) (_ : Int32) (M8 : Mem) =>
        some (mn i3_6 9999, M8)) FU 0 0 M4) FU 0 = R → f_X0_ways M = R := fun R hR => by
    rw [← hR]
    unfold f_X0_ways
    rw [a10, lt_e, x7_copyRow, bs]
  have hsg : ∀ i, i < n → (0 ≤ M2 144 i ↔ 0 ≤ ti x i) := fun i hi => by
    rw [h144 i (by omega), fa_le]
    rfl
  unfold SUM
  rcases first_bad (p := fun i => 0 ≤ ti x i) n with hall | ⟨k, k1, k2, k3⟩
  · rw [dc_t hall, if_pos rfl]
    have hX : ∀ i, 0 ≤ Xz n x i ∧ Xz n x i ≤ 99 := fun i => by
      unfold Xz
      by_cases hi : i < n
      · rw [if_pos hi]
        have := hx.1 i (by omega)
        exact ⟨hall i hi, this.2⟩
      · rw [if_neg hi]; omega
    obtain ⟨U, M3, c1, c2, c3, c4, c5, c6, c7, c8⟩ := x0_choose (M0 := M2) (A := A) hA hn hn1 hX h4 (hR.on (fun c _ _ => f2 c (by omega) (by omega))) (fun t ht => by rw [f2 95 (by omega) (by omega)]; exact hT t ht) (fun i hi => by
      rw [h144 i (by omega)]
      unfold Xz
      rw [if_pos hi]
      exact (Int32.ofInt_toInt _).symm)
    have hw21 : ∀ kk : Int32 → Option (Int32 × Mem), f_X0_ways_21 M2 kk FU 0 = kk (nI n) := fun kk => by
      refine loop_u (fun m (_ : Unit) j => f_X0_ways_21 M2 kk m (nI j)) (fun _ => kk (nI n)) n (fun _ s => s) () (fun m j s hj => ?_) (fun m s => ?_) FU (FU_gt (by omega))
      · have := (hsg j hj).mpr (hall j hj)
        simp (disch := omega) only [ef_X0_ways_21, s_X0_ways_21, h4, this, iL, iT, iE, iN, iZ, i0, cl, nL, yL, nT, yT, s1_i, ad_i, z0, c0, la_1, la_2, la_11, la_12, la_21, la_22, la_27, la_54, la_10, la_243, ml_4, ml_6, ml_27, ml_10, ml_3, false_or, or_false, true_or, or_true, or_self, if_false, if_true, not_true, not_false_iff, bs, lt_p]
      · simp (disch := omega) only [ef_X0_ways_21, s_X0_ways_21, h4, iL, iT, iE, iN, iZ, i0, cl, nL, yL, nT, yT, s1_i, ad_i, z0, c0, la_1, la_2, la_11, la_12, la_21, la_22, la_27, la_54, la_10, la_243, ml_4, ml_6, ml_27, ml_10, ml_3, false_or, or_false, true_or, or_true, or_self, if_false, if_true, not_true, not_false_iff, bs, lt_p]
    have hTOT : TOT n A x = Fn n (Rz n A) U (fun _ => 1) (Xz n x) := by
      unfold TOT
      rw [Fn_perm (Rz_Rw hA hn hn1) c4]
    have f3 : ∀ c, (c < 141 ∨ 144 < c) → M3 c = M c := fun c hc => by rw [c2 c (by omega) (by omega) (by omega)]; exact f2 c (by omega) (by omega)
    cases hU : U with
    | nil =>
      rw [hU] at c6 hTOT
      refine ⟨M3, hstart _ ?_, f3⟩
      rw [hw21, c1, bs, c6, if_pos (show nI ([] : List Nat).length = 0 from rfl), hTOT]
      rfl
    | cons u U' =>
      rw [hU] at c4 c5 c6 c7 c8 hTOT
      have hmem : ∀ t ∈ u :: U', t < (rts n A).length := fun t ht => by
        have := c4.mem_iff.mp ht
        rw [List.mem_filter, List.mem_range] at this
        exact this.1
      have hV : VS n A x (u :: U') (0 :: List.replicate U'.length 0) (Xz n x) := by
        refine ⟨by simp, hmem, fun i => (hX i).1, fun i => ?_, fun i => (hX i).2⟩
        have hz : ∀ V : List Nat, ∀ K : List Nat, (∀ k ∈ K, k = 0) → dt (Rz n A) V K i = 0 := by
          intro V
          induction V with
          | nil => intro K _; rfl
          | cons v V ihV =>
            intro K hK
            have h0 : K.headD 0 = 0 := by
              cases K with
              | nil => rfl
              | cons k K => exact hK k List.mem_cons_self
            show ((K.headD 0 : Nat) : Int) * Rz n A v i + dt (Rz n A) V K.tail i = 0
            rw [h0, ihV K.tail (fun k hk => hK k (List.mem_of_mem_tail hk)), Int.natCast_zero, Int.zero_mul]
            rfl
        rw [hz (u :: U') (0 :: List.replicate U'.length 0) (fun k hk => by
          rcases List.mem_cons.mp hk with h | h
          · exact h
          · exact List.eq_of_mem_replicate h)]
        omega
      have hC : CM M3 n A (u :: U') (0 :: List.replicate U'.length 0) (Xz n x) := by
        refine ⟨c3, c6, c5, c7, fun j k hj => ?_, fun i hi => ?_, hR.on (fun c _ _ => f3 c (by omega))⟩
        · have hjl := (List.getElem?_eq_some_iff.mp hj).1
          have hk : k = 0 := by
            rcases List.mem_cons.mp (List.mem_of_getElem? hj) with h | h
            · exact h
            · exact List.eq_of_mem_replicate h
          rw [hk, c8 j (by simpa using hjl)]
          rfl
        · rw [c2 144 (by omega) (by omega) (by omega), h144 i (by omega)]
          unfold Xz
          rw [if_pos hi]
          exact (Int32.ofInt_toInt _).symm
      obtain ⟨M4, m1, m2⟩ := x0_loop (x := x) hA hn hn1 9999 0 0 (List.replicate U'.length 0) (Xz n x) M3 (by omega) (by omega) (by omega) hV hC FU (FU_gt (by omega))
      refine ⟨M4, hstart _ ?_, fun c hc => by rw [m1 c (by omega) (by omega)]; exact f3 c hc⟩
      rw [hw21, c1, bs, c6, if_neg (nI_ne0 (by simp) (by omega))]
      refine Eq.trans m2 ?_
      rw [hTOT, Nat.zero_add, Hn_zero (Rz_Rw hA hn hn1) U' _ _ _ (fun k hk => List.eq_of_mem_replicate hk)]
      rfl
  · have hno : ¬ ∀ i, i < n → 0 ≤ ti x i := fun q => k3 (q k k1)
    rw [dc_f hno, if_neg ff_t]
    refine ⟨M2, hstart _ ?_, fun c hc => f2 c (by omega) (by omega)⟩
    refine loop_u (fun m (_ : Unit) j => f_X0_ways_21 M2 _ m (nI j)) (fun _ => some (0, M2)) k (fun _ s => s) () (fun m j s hj => ?_) (fun m s => ?_) FU (FU_gt (by omega))
    · have := (hsg j (by omega)).mpr (k2 j hj)
      simp (disch := omega) only [ef_X0_ways_21, s_X0_ways_21, h4, this, iL, iT, iE, iN, iZ, i0, cl, nL, yL, nT, yT, s1_i, ad_i, z0, c0, la_1, la_2, la_11, la_12, la_21, la_22, la_27, la_54, la_10, la_243, ml_4, ml_6, ml_27, ml_10, ml_3, false_or, or_false, true_or, or_true, or_self, if_false, if_true, not_true, not_false_iff, bs, lt_p]
    · have : ¬ 0 ≤ M2 144 k := fun q => k3 ((hsg k k1).mp q)
      simp (disch := omega) only [ef_X0_ways_21, s_X0_ways_21, h4, this, iL, iT, iE, iN, iZ, i0, cl, nL, yL, nT, yT, s1_i, ad_i, z0, c0, la_1, la_2, la_11, la_12, la_21, la_22, la_27, la_54, la_10, la_243, ml_4, ml_6, ml_27, ml_10, ml_3, false_or, or_false, true_or, or_true, or_self, if_false, if_true, not_true, not_false_iff, bs, lt_p]
end CSUMS2

/-! ===== lay, draw, add ===== -/
section OPS5
variable {M M' : Mem} {n : Nat} {A A' : Arr} {x x' : Row} {P P' : List (Arr × Row)} {K K' : Nat → Option (Arr × Row)} {T T' : List Int32} {S S' : Nat → Option (List (Nat × Row))}
theorem e6y {i : Nat} (h : i < 6) : (6 : Int32) ≤ nI i ↔ False := by rw [show (6 : Int32) = nI 6 from rfl, iL (by omega) (by omega)]; exact iff_of_false (by omega) id
theorem e6n : (6 : Int32) ≤ nI 6 ↔ True := iff_of_true (by decide) trivial
theorem x8_layLoop (kk : Int32 → Mem → Option (Int32 × Mem)) (s z : Nat) (hz : z < 12) : ∃ M', f_X8_lay_60 (nI s) (nI z) kk FU 0 M = kk 6 M' ∧ (∀ c, c ≠ 182 → M' c = M c) ∧ (∀ i, i < 6 → M' 182 (6 * z + i) = M 177 (21 + i)) ∧ ∀ q, (q < 6 * z ∨ 6 * z + 6 ≤ q) → M' 182 q = M 182 q := by
  have hst : ∀ (f i : Nat) (M1 : Mem), i < 6 → ((∀ c, c ≠ 182 → M1 c = M c) ∧ (∀ j, j < i → M1 182 (6 * z + j) = M 177 (21 + j)) ∧ ∀ q, (q < 6 * z ∨ 6 * z + 6 ≤ q) → M1 182 q = M 182 q) → ∃ M', ((∀ c, c ≠ 182 → M' c = M c) ∧ (∀ j, j < i + 1 → M' 182 (6 * z + j) = M 177 (21 + j)) ∧ ∀ q, (q < 6 * z ∨ 6 * z + 6 ≤ q) → M' 182 q = M 182 q) ∧ f_X8_lay_60 (nI s) (nI z) kk (f + 1) (nI i) M1 = f_X8_lay_60 (nI s) (nI z) kk f (nI (i + 1)) M' := by
    intro f i M1 hi hI
    obtain ⟨i1, i2, i3⟩ := hI
    refine ⟨um M1 182 (6 * z + i) (M1 177 (21 + i)), ⟨fun c hc => by rw [um_a hc]; exact i1 c hc, fun j hj => ?_, fun q hq => ?_⟩, ?_⟩
    · by_cases hji : j = i
      · subst hji; rw [um_s, i1 177 (by omega)]
      · rw [um_k (by omega)]; exact i2 j (by omega)
    · rw [um_k (by omega)]; exact i3 q hq
    · simp (disch := omega) only [ef_X8_lay_60, s_X8_lay_60, e6y hi, iL, iT, iE, iN, iZ, i0, cl, nL, yL, nT, yT, s1_i, ad_i, z0, c0, la_1, la_2, la_11, la_12, la_21, la_22, la_27, la_54, la_10, la_243, ml_4, ml_6, ml_27, ml_10, ml_3, false_or, or_false, true_or, or_true, or_self, if_false, if_true, not_true, not_false_iff, Option.bind_some, lt]
  obtain ⟨f', M2, ⟨g1, g2, g3⟩, g4⟩ := loop_M (fun f M i => f_X8_lay_60 (nI s) (nI z) kk f (nI i) M) 6 (fun i M1 => (∀ c, c ≠ 182 → M1 c = M c) ∧ (∀ j, j < i → M1 182 (6 * z + j) = M 177 (21 + j)) ∧ ∀ q, (q < 6 * z ∨ 6 * z + 6 ≤ q) → M1 182 q = M 182 q) hst 6 0 M (by omega) ⟨fun _ _ => rfl, fun j hj => by omega, fun _ _ => rfl⟩ FU (FU_gt (by omega))
  refine ⟨M2, ?_, g1, g2, g3⟩
  refine Eq.trans g4 ?_
  simp only [ef_X8_lay_60, s_X8_lay_60, e6n, if_true]
  rfl
theorem op_lay (h : Inv M) (i : Int32) : ∃ r M1 M2, f_X7_lay i M = some (r, M1) ∧ f_X8_lay i M1 = some (r, M2) ∧ Inv M2 := by
  obtain ⟨n, A, x, P, K, T, S, w, hc, hm⟩ := id h
  have hn6 := w.1.2
  have hno : (i < 0 ∨ nI 3 ≤ i) → ∃ r M1 M2, f_X7_lay i M = some (r, M1) ∧ f_X8_lay i M1 = some (r, M2) ∧ Inv M2 := fun hi => op_no (f := f_X7_lay i) (g := f_X8_lay i) h (-1000001) (by unfold f_X7_lay; rw [x7_isShelfN hi]; rfl) (by unfold f_X8_lay; rw [x8_isShelfN hi]; rfl)
  rcases pk_ix i (n := 3) (by omega) with hi | hi | ⟨s, hs, rfl⟩
  · exact hno (Or.inl hi)
  · exact hno (Or.inr hi)
  have msz : ∀ M1, MI M1 n A x P K T S → ∀ l, S s = some l → M1 180 s = nI l.length := fun M1 hm1 l hl => by
    rcases hm1.2.2.2.2.2.1 s hs with ⟨q, _⟩ | ⟨l', q, q2, _⟩
    · rw [hl] at q; cases q
    · rw [hl] at q; cases q; exact q2
  rcases hc.2.2.2.2.1 s hs with ⟨h1, h2, h3⟩ | ⟨l, h1, h2, h3, h4⟩
  · have hm1' : ¬ (0 : Int32) ≤ -1 := by decide
    have hs1 : M 180 s = -1 := by
      rcases hm.2.2.2.2.2.1 s hs with ⟨_, q⟩ | ⟨l, q, _⟩
      · exact q
      · rw [h1] at q; cases q
    exact op_no (f := f_X7_lay (nI s)) (g := f_X8_lay (nI s)) h (-1000011) (by simp (disch := omega) only [f_X7_lay, x7_isShelf hs, e10, h2, iL, iT, iE, iN, iZ, i0, cl, nL, yL, nT, yT, s1_i, ad_i, z0, c0, la_1, la_2, la_11, la_12, la_21, la_22, la_27, la_54, la_10, la_243, ml_4, ml_6, ml_27, ml_10, ml_3, false_or, or_false, true_or, or_true, or_self, if_false, if_true, not_true, not_false_iff, Option.bind_some, lt]) (by simp (disch := omega) only [f_X8_lay, x8_isShelf hs, e10, hs1, hm1', iL, iT, iE, iN, iZ, i0, cl, nL, yL, nT, yT, s1_i, ad_i, z0, c0, la_1, la_2, la_11, la_12, la_21, la_22, la_27, la_54, la_10, la_243, ml_4, ml_6, ml_27, ml_10, ml_3, false_or, or_false, true_or, or_true, or_self, if_false, if_true, not_true, not_false_iff, Option.bind_some])
  have hl4 := (w.sl hs l h1).1
  have e4 : (4 : Int32) = nI 4 := rfl
  by_cases hl : l.length = 4
  · have c1 : nI l.length < 4 ↔ False := by rw [e4, iT (by omega) (by omega)]; exact iff_of_false (by omega) id
    have c2 : nI l.length = 4 ↔ True := by rw [e4, iE (by omega) (by omega)]; exact iff_of_true hl trivial
    exact op_no (f := f_X7_lay (nI s)) (g := f_X8_lay (nI s)) h (-1000013) (by simp (disch := omega) only [f_X7_lay, x7_isShelf hs, e10, h2, h3, c1, iL, iT, iE, iN, iZ, i0, cl, nL, yL, nT, yT, s1_i, ad_i, z0, c0, la_1, la_2, la_11, la_12, la_21, la_22, la_27, la_54, la_10, la_243, ml_4, ml_6, ml_27, ml_10, ml_3, false_or, or_false, true_or, or_true, or_self, if_false, if_true, not_true, not_false_iff, Option.bind_some, lt]) (by simp (disch := omega) only [f_X8_lay, x8_isShelf hs, e10, msz M hm l h1, c2, iL, iT, iE, iN, iZ, i0, cl, nL, yL, nT, yT, s1_i, ad_i, z0, c0, la_1, la_2, la_11, la_12, la_21, la_22, la_27, la_54, la_10, la_243, ml_4, ml_6, ml_27, ml_10, ml_3, false_or, or_false, true_or, or_true, or_self, if_false, if_true, not_true, not_false_iff, Option.bind_some])
  have c1 : nI l.length < 4 ↔ True := by rw [e4, iT (by omega) (by omega)]; exact iff_of_true (by omega) trivial
  have c2 : nI l.length = 4 ↔ False := by rw [e4, iE (by omega) (by omega)]; exact iff_of_false (by omega) id
  have hlen : (l ++ [(n, x)]).length = l.length + 1 := by simp
  have hsp : ∀ (j : Nat) (e : Nat × Row), (l ++ [(n, x)])[j]? = some e → (j = l.length ∧ e = (n, x)) ∨ (j < l.length ∧ l[j]? = some e) := fun j e he => by
    have hj := (List.getElem?_eq_some_iff.mp he).1
    rw [hlen] at hj
    by_cases hjl : j = l.length
    · subst hjl; exact Or.inl ⟨rfl, by simpa using he.symm⟩
    · rw [List.getElem?_append_left (by omega)] at he
      exact Or.inr ⟨by omega, he⟩
  refine op_mk (f := f_X7_lay (nI s)) (g := f_X8_lay (nI s)) (nI (l.length + 1)) hm (w.shelf (s := s) w.2.2.1 (some (l ++ [(n, x)])) (fun l' hl' => by
    cases hl'
    refine ⟨by omega, fun e he => ?_⟩
    rcases List.mem_append.mp he with he | he
    · exact (w.2.2.2.2.2.2 s l hs h1).2 e he
    · simp at he; subst he; exact ⟨w.1.1, w.1.2, w.2.2.1⟩)) ?_ (fun M1 hm1 => ?_)
  · refine ⟨um (um (uc M (155 + 7 * s + 2 + l.length) (va_cpy (M 4) (M (155 + 7 * s + 2 + l.length)) 0 0 6)) (155 + 7 * s + 6) l.length (nI n)) (155 + 7 * s) 1 (nI (l.length + 1)), ?_, hc.shelf w (hc.1.on (fun b _ _ => by rw [um_a (by omega), um_a (by omega), uc_a (by omega)])) (hc.2.2.2.2.1.upd (hc.cS w) hs _ (Or.inr ⟨_, rfl, ?_, ?_, fun j e he => ?_⟩) (fun b _ _ _ => by rw [um_a (by omega), um_a (by omega), uc_a (by omega)])) (fun b _ _ => by rw [um_a (by omega), um_a (by omega), uc_a (by omega)]), fun b hb => by rw [um_a (by omega), um_a (by omega), uc_a (by omega)]⟩
    · have h10 : M 1 0 = nI n := hc.1.1
      simp (disch := omega) only [f_X7_lay, x7_isShelf hs, e10, h2, h3, c1, x7_copyRow, uc_a, um_a, um_s, h10, iL, iT, iE, iN, iZ, i0, cl, nL, yL, nT, yT, s1_i, ad_i, z0, c0, la_1, la_2, la_11, la_12, la_21, la_22, la_27, la_54, la_10, la_243, ml_4, ml_6, ml_27, ml_10, ml_3, false_or, or_false, true_or, or_true, or_self, if_false, if_true, not_true, not_false_iff, Option.bind_some, lt]
    · rw [um_k (by omega), um_a (by omega), uc_a (by omega)]; exact h2
    · rw [um_s, hlen]
    · rcases hsp j e he with ⟨rfl, rfl⟩ | ⟨hj, he⟩
      · refine ⟨by rw [um_a (by omega), um_s], fun i hi => ?_⟩
        rw [um_a (by omega), um_a (by omega), uc_s, cp_lt hi]
        exact hc.1.2.2.2 i hi
      · rw [um_a (by omega), um_k (by omega), uc_a (by omega), um_a (by omega), um_a (by omega), uc_a (by omega)]
        exact h4 j e he
  · have hs1 := msz M1 hm1 l h1
    obtain ⟨M2, g1, g2, g3, g4⟩ := x8_layLoop (M := um M1 181 (4 * s + l.length) (nI n)) (fun (i3_11 : Int32) (M12 : Mem) =>
          if nI s < 0 ∨ 3 ≤ (nI s).toNatClampNeg then none else
          if nI s < 0 ∨ 3 ≤ (nI s).toNatClampNeg then none else
          lt (um M12 180 (nI s).toNatClampNeg ((M12 180 (nI s).toNatClampNeg) + 1)) fun (M15 : Mem) =>
          if nI s < 0 ∨ 3 ≤ (nI s).toNatClampNeg then none else
          some (M15 180 (nI s).toNatClampNeg, M15)) s (4 * s + l.length) (by omega)
    have f4 : ∀ j e, l[j]? = some e → M1 181 (4 * s + j) = nI e.1 ∧ ∀ i, i < 6 → M1 182 (6 * (4 * s + j) + i) = e.2 i := by
      rcases hm1.2.2.2.2.2.1 s hs with ⟨q, _⟩ | ⟨l', q, q2, q3⟩
      · rw [h1] at q; cases q
      · rw [h1] at q; cases q; exact q3
    refine ⟨um M2 180 s (nI (l.length + 1)), ?_, hm1.shelf w (by rw [um_a (by omega), g2 177 (by omega), um_a (by omega)]; exact hm1.2.1) (hm1.2.2.2.2.2.1.upd (hc.cS w) hs _ (Or.inr ⟨_, rfl, by rw [um_s, hlen], fun j e he => ?_⟩) (fun j hj => by rw [um_k hj, g2 180 (by omega), um_a (by omega)]) (fun q hq => by rw [um_a (by omega), g2 181 (by omega), um_k (by omega)]) (fun q hq => by rw [um_a (by omega), g4 q (by omega), um_a (by omega)])) (fun c _ c1 c2 c3 c4 => by rw [um_a c2, g2 c c4, um_a c3]) (fun q hq => by rw [um_a (by omega), g2 177 (by omega), um_a (by omega)]), fun b hb => by rw [um_a (by omega), g2 b (by omega), um_a (by omega)]⟩
    · have e2 : M2 180 s = nI l.length := by rw [g2 180 (by omega), um_a (by omega)]; exact hs1
      simp (disch := omega) only [um_s, e2, iL, iT, iE, iN, iZ, i0, cl, nL, yL, nT, yT, s1_i, ad_i, z0, c0, la_1, la_2, la_11, la_12, la_21, la_22, la_27, la_54, la_10, la_243, ml_4, ml_6, ml_27, ml_10, ml_3, false_or, or_false, true_or, or_true, or_self, if_false, if_true, not_true, not_false_iff, Option.bind_some, lt] at g1
      have g1' := g1
      simp (disch := omega) only [f_X8_lay, x8_isShelf hs, e10, hs1, c2, hm1.1, um_s, iL, iT, iE, iN, iZ, i0, cl, nL, yL, nT, yT, s1_i, ad_i, z0, c0, la_1, la_2, la_11, la_12, la_21, la_22, la_27, la_54, la_10, la_243, ml_4, ml_6, ml_27, ml_10, ml_3, false_or, or_false, true_or, or_true, or_self, if_false, if_true, not_true, not_false_iff, Option.bind_some, lt]
      exact g1
    · rcases hsp j e he with ⟨rfl, rfl⟩ | ⟨hj, he⟩
      · refine ⟨by rw [um_a (by omega), g2 181 (by omega), um_s], fun i hi => ?_⟩
        rw [um_a (by omega), g3 i hi, um_a (by omega)]
        have := hm1.2.1.2.2 i hi
        rw [Nat.zero_add] at this
        exact this
      · rw [um_a (by omega), um_a (by omega), g2 181 (by omega), um_k (by omega)]
        refine ⟨(f4 j e he).1, fun i hi => ?_⟩
        rw [g4 _ (by omega), um_a (by omega)]
        exact (f4 j e he).2 i hi
end OPS5

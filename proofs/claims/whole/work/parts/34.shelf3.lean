/-- as the given ones, but not by reflexivity: the kernel need not look inside a loop -/
theorem bs {α β : Type} {a : α} {f : α → Option β} : (some a).bind f = f a := (Option.bind_some (a := a) (f := f)).trans (Eq.refl _)
theorem lt_p {α β : Type} {a : α} {f : α → β} : lt a f = f a := (lt_e a f).trans (Eq.refl _)
section OPS6
variable {M M' : Mem} {n : Nat} {A A' : Arr} {x x' : Row} {P P' : List (Arr × Row)} {K K' : Nat → Option (Arr × Row)} {T T' : List Int32} {S S' : Nat → Option (List (Nat × Row))}
/-- the last row of a shelf, on both halves -/
theorem CS.last (h : CS M S) {s : Nat} (hs : s < 3) {l : List (Nat × Row)} {e : Nat × Row} (hl : S s = some (l ++ [e])) : M (155 + 7 * s) 0 = 1 ∧ M (155 + 7 * s) 1 = nI (l ++ [e]).length ∧ (∀ i, i < 6 → M (155 + 7 * s + 2 + l.length) i = e.2 i) ∧ ∀ j q, (l ++ [e])[j]? = some q → M (155 + 7 * s + 6) j = nI q.1 ∧ ∀ i, i < 6 → M (155 + 7 * s + 2 + j) i = q.2 i := by
  rcases h s hs with ⟨h1, _, _⟩ | ⟨l', h1, h2, h3, h4⟩
  · rw [hl] at h1; cases h1
  · rw [hl] at h1; cases h1
    exact ⟨h2, h3, (h4 l.length e (by simp)).2, h4⟩
theorem MS.last (h : MS M S) {s : Nat} (hs : s < 3) {l : List (Nat × Row)} {e : Nat × Row} (hl : S s = some (l ++ [e])) : M 180 s = nI (l ++ [e]).length ∧ (∀ i, i < 6 → M 182 (6 * (4 * s + l.length) + i) = e.2 i) ∧ ∀ j q, (l ++ [e])[j]? = some q → M 181 (4 * s + j) = nI q.1 ∧ ∀ i, i < 6 → M 182 (6 * (4 * s + j) + i) = q.2 i := by
  rcases h s hs with ⟨h1, _⟩ | ⟨l', h1, h2, h3⟩
  · rw [hl] at h1; cases h1
  · rw [hl] at h1; cases h1
    exact ⟨h2, (h3 l.length e (by simp)).2, h3⟩
theorem x8_drawLoop (kk : Int32 → Mem → Option (Int32 × Mem)) (r : Int32) (s z : Nat) (hz : z < 12) (hlast : ∀ M1 : Mem, (∀ c, c ≠ 177 → M1 c = M c) → f_X8_lastAt (nI s) M1 = some (nI (6 * z))) : ∃ M', f_X8_draw_24 (nI s) r kk FU 0 M = kk 6 M' ∧ (∀ c, c ≠ 177 → M' c = M c) ∧ (∀ i, i < 6 → M' 177 (21 + i) = M 182 (6 * z + i)) ∧ ∀ q, (q < 21 ∨ 27 ≤ q) → M' 177 q = M 177 q := by
  have hst : ∀ (f i : Nat) (M1 : Mem), i < 6 → ((∀ c, c ≠ 177 → M1 c = M c) ∧ (∀ j, j < i → M1 177 (21 + j) = M 182 (6 * z + j)) ∧ ∀ q, (q < 21 ∨ 27 ≤ q) → M1 177 q = M 177 q) → ∃ M', ((∀ c, c ≠ 177 → M' c = M c) ∧ (∀ j, j < i + 1 → M' 177 (21 + j) = M 182 (6 * z + j)) ∧ ∀ q, (q < 21 ∨ 27 ≤ q) → M' 177 q = M 177 q) ∧ f_X8_draw_24 (nI s) r kk (f + 1) (nI i) M1 = f_X8_draw_24 (nI s) r kk f (nI (i + 1)) M' := by
    intro f i M1 hi hI
    obtain ⟨i1, i2, i3⟩ := hI
    refine ⟨um M1 177 (21 + i) (M1 182 (6 * z + i)), ⟨fun c hc => by rw [um_a hc]; exact i1 c hc, fun j hj => ?_, fun q hq => ?_⟩, ?_⟩
    · by_cases hji : j = i
      · subst hji; rw [um_s, i1 182 (by omega)]
      · rw [um_k (by omega)]; exact i2 j (by omega)
    · rw [um_k (by omega)]; exact i3 q hq
    · simp (disch := omega) only [ef_X8_draw_24, s_X8_draw_24, e6y hi, hlast M1 i1, iL, iT, iE, iN, iZ, i0, cl, nL, yL, nT, yT, s1_i, ad_i, z0, c0, la_1, la_2, la_11, la_12, la_21, la_22, la_27, la_54, la_10, la_243, ml_4, ml_6, ml_27, ml_10, ml_3, false_or, or_false, true_or, or_true, or_self, if_false, if_true, not_true, not_false_iff, Option.bind_some, lt]
  obtain ⟨f', M2, ⟨g1, g2, g3⟩, g4⟩ := loop_M (fun f M i => f_X8_draw_24 (nI s) r kk f (nI i) M) 6 (fun i M1 => (∀ c, c ≠ 177 → M1 c = M c) ∧ (∀ j, j < i → M1 177 (21 + j) = M 182 (6 * z + j)) ∧ ∀ q, (q < 21 ∨ 27 ≤ q) → M1 177 q = M 177 q) hst 6 0 M (by omega) ⟨fun _ _ => rfl, fun j hj => by omega, fun _ _ => rfl⟩ FU (FU_gt (by omega))
  refine ⟨M2, ?_, g1, g2, g3⟩
  refine Eq.trans g4 ?_
  simp only [ef_X8_draw_24, s_X8_draw_24, e6n, if_true]
  rfl
theorem op_draw (h : Inv M) (i : Int32) : ∃ r M1 M2, f_X7_draw i M = some (r, M1) ∧ f_X8_draw i M1 = some (r, M2) ∧ Inv M2 := by
  obtain ⟨n, A, x, P, K, T, S, w, hc, hm⟩ := id h
  have hn6 := w.1.2
  have hl10 := w.2.1.1
  have hm1' : ¬ (-1000001 : Int32) = 0 := by decide
  have hno : (i < 0 ∨ nI 3 ≤ i) → ∃ r M1 M2, f_X7_draw i M = some (r, M1) ∧ f_X8_draw i M1 = some (r, M2) ∧ Inv M2 := fun hi => op_no (f := f_X7_draw i) (g := f_X8_draw i) h (-1000001) (by simp only [f_X7_draw, f_X7_refusalOfLastRow, x7_isShelfN hi, if_true, bs, hm1', if_false]) (by unfold f_X8_draw; rw [x8_isShelfN hi]; rfl)
  rcases pk_ix i (n := 3) (by omega) with hi | hi | ⟨s, hs, rfl⟩
  · exact hno (Or.inl hi)
  · exact hno (Or.inr hi)
  have r1 := x7_refusal hc.1.1 hn6 hc.2.2.2.2.1 hs (w.sl hs)
  have r2 : ∀ M1, MI M1 n A x P K T S → f_X8_finds (nI s) M1 = some (rf n (S s)) := fun M1 hm1 => x8_finds hm1.1 hn6 hm1.2.2.2.2.2.1 hs (w.sl hs)
  rcases rf_cases (n := n) (S s) with ⟨l, e, q1, q2, q3⟩ | ⟨q1, q2⟩
  · rw [q3] at r1 r2
    have hl4 := (w.sl hs _ q1).1
    have hlen : (l ++ [e]).length = l.length + 1 := by simp
    rw [hlen] at hl4
    obtain ⟨h2, h3, h4, h5⟩ := hc.2.2.2.2.1.last hs q1
    have hwe := (w.2.2.2.2.2.2 s _ hs q1).2
    have hxe : OKR n e.2 := q2 ▸ (hwe e (by simp)).2.2
    have l1 := x4_last hs (by omega) h3
    have hs1 : nI (l.length + 1) - 1 = nI l.length := sb_i (a := l.length + 1) (b := 1) (by omega)
    refine op_mk (f := f_X7_draw (nI s)) (g := f_X8_draw (nI s)) (nI l.length) hm (w.shelf (s := s) hxe (some l) (fun l' hl' => by
      cases hl'
      exact ⟨by omega, fun q hq => hwe q (List.mem_append_left _ hq)⟩)) ?_ (fun M1 hm1 => ?_)
    · refine ⟨um (uc M 4 (va_cpy (M (155 + 7 * s + 2 + l.length)) (M 4) 0 0 6)) (155 + 7 * s) 1 (nI l.length), ?_, hc.shelf w ⟨?_, ?_, fun k u v hk => ?_, fun j hj => ?_⟩ (hc.2.2.2.2.1.upd (hc.cS w) hs _ (Or.inr ⟨l, rfl, ?_, um_s, fun j q hq => ?_⟩) (fun b _ _ _ => by rw [um_a (by omega), uc_a (by omega)])) (fun b _ _ => by rw [um_a (by omega), uc_a (by omega)]), fun b hb => by rw [um_a (by omega), uc_a (by omega)]⟩
      · simp (disch := omega) only [f_X7_draw, r1, l1, x7_copyRow, uc_a, um_s, h3, hlen, hs1, iL, iT, iE, iN, iZ, i0, cl, nL, yL, nT, yT, s1_i, ad_i, z0, c0, la_1, la_2, la_11, la_12, la_21, la_22, la_27, la_54, la_10, la_243, ml_4, ml_6, ml_27, ml_10, ml_3, false_or, or_false, true_or, or_true, or_self, if_false, if_true, not_true, not_false_iff, Option.bind_some, lt]
      · rw [um_a (by omega), uc_a (by omega)]; exact hc.1.1
      · rw [um_a (by omega), uc_a (by omega)]; exact hc.1.2.1
      · rw [um_a (by omega), um_a (by omega), uc_a (by omega), uc_a (by omega)]; exact hc.1.2.2.1 k u v hk
      · rw [um_a (by omega), uc_s, cp_lt hj]; exact h4 j hj
      · rw [um_k (by omega), uc_a (by omega)]; exact h2
      · have hjl := (List.getElem?_eq_some_iff.mp hq).1
        rw [um_a (by omega), um_a (by omega), uc_a (by omega), uc_a (by omega)]
        exact h5 j q (by rw [List.getElem?_append_left hjl]; exact hq)
    · obtain ⟨m1, m2, m3⟩ := hm1.2.2.2.2.2.1.last hs q1
      obtain ⟨M2, g1, g2, g3, g4⟩ := x8_drawLoop (M := M1) (fun (i3_5 : Int32) (M6 : Mem) =>
        if nI s < 0 ∨ 3 ≤ (nI s).toNatClampNeg then none else
        if nI s < 0 ∨ 3 ≤ (nI s).toNatClampNeg then none else
        lt (um M6 180 (nI s).toNatClampNeg ((M6 180 (nI s).toNatClampNeg) - 1)) fun (M9 : Mem) =>
        if nI s < 0 ∨ 3 ≤ (nI s).toNatClampNeg then none else
        some (M9 180 (nI s).toNatClampNeg, M9)) 0 s (4 * s + l.length) (by omega) (fun M3 h3 => x8_last hs (by omega) (by rw [h3 180 (by omega)]; exact m1))
      have e2 : M2 180 s = nI (l.length + 1) := by rw [g2 180 (by omega), m1, hlen]
      refine ⟨um M2 180 s (nI l.length), ?_, hm1.shelf w ?_ (hm1.2.2.2.2.2.1.upd (hc.cS w) hs _ (Or.inr ⟨l, rfl, um_s, fun j q hq => ?_⟩) (fun j hj => by rw [um_k hj, g2 180 (by omega)]) (fun q hq => by rw [um_a (by omega), g2 181 (by omega)]) (fun q hq => by rw [um_a (by omega), g2 182 (by omega)])) (fun c _ c1 c2 c3 c4 => by rw [um_a c2, g2 c c1]) (fun q hq => by rw [um_a (by omega), g4 q (by omega)]), fun b hb => by rw [um_a (by omega), g2 b (by omega)]⟩
      · have z00 : (0 : Int32) ≤ 0 := by decide
        unfold f_X8_draw
        simp only [x8_isShelf hs, e10, r2 M1 hm1, z00, if_true, if_false, bs]
        rw [g1]
        simp (disch := omega) only [um_s, e2, hs1, iL, iT, iE, iN, iZ, i0, cl, nL, yL, nT, yT, s1_i, ad_i, z0, c0, la_1, la_2, la_11, la_12, la_21, la_22, la_27, la_54, la_10, la_243, ml_4, ml_6, ml_27, ml_10, ml_3, false_or, or_false, true_or, or_true, or_self, if_false, if_true, not_true, not_false_iff, Option.bind_some, lt]
      · rw [um_a (by omega)]
        have hq := hm1.2.1
        refine ⟨by rw [g4 0 (by omega)]; exact hq.1, fun k u v hk => ?_, fun j hj => ?_⟩
        · have hkl := (List.getElem?_eq_some_iff.mp hk).1
          rw [g4 _ (by omega), g4 _ (by omega)]
          exact hq.2.1 k u v hk
        · rw [Nat.zero_add, g3 j hj]; exact m2 j hj
      · have hjl := (List.getElem?_eq_some_iff.mp hq).1
        rw [um_a (by omega), um_a (by omega), g2 181 (by omega), g2 182 (by omega)]
        exact m3 j q (by rw [List.getElem?_append_left hjl]; exact hq)
  · exact op_no (f := f_X7_draw (nI s)) (g := f_X8_draw (nI s)) h (rf n (S s)) (by simp only [f_X7_draw, r1, q1, if_false, bs]) (by simp (disch := omega) only [f_X8_draw, x8_isShelf hs, e10, r2 M hm, q2, iL, iT, iE, iN, iZ, i0, cl, nL, yL, nT, yT, s1_i, ad_i, z0, c0, la_1, la_2, la_11, la_12, la_21, la_22, la_27, la_54, la_10, la_243, ml_4, ml_6, ml_27, ml_10, ml_3, false_or, or_false, true_or, or_true, or_self, if_false, if_true, not_true, not_false_iff, bs, lt_p])
theorem CI.scr (w : WF n A x P K T S) (hc : CI M n A x P K T S) (e : ∀ b, b ≠ 146 → M' b = M b) : CI M' n A x P K T S :=
  hc.shelf (M' := M') w (hc.1.on (fun b _ _ => e b (by omega))) (hc.2.2.2.2.1.on (hc.cS w) (fun b _ _ => e b (by omega))) |> fun _ => ⟨hc.1.on (fun b _ _ => e b (by omega)), hc.2.1.on (fun b _ _ => e b (by omega)), hc.2.2.1.on (e _ (by omega)) (fun b _ _ => e b (by omega)), hc.2.2.2.1.on (e _ (by omega)) (e _ (by omega)), hc.2.2.2.2.1.on (hc.cS w) (fun b _ _ => e b (by omega)), hc.2.2.2.2.2.1.on w.1.2 (by rw [e 0 (by omega)]) (fun b _ _ => e b (by omega)), hc.2.2.2.2.2.2.on (by rw [e 0 (by omega)]) (fun b _ _ => e b (by omega))⟩
theorem MI.scr (hm : MI M n A x P K T S) (e : ∀ c, 176 ≤ c → c ≠ 193 → M' c = M c) : MI M' n A x P K T S := by
  unfold MI MP MK MT MS MN KnowsOK MC at hm ⊢
  rw [e 176 (by omega) (by omega), e 177 (by omega) (by omega), e 178 (by omega) (by omega), e 179 (by omega) (by omega), e 180 (by omega) (by omega), e 181 (by omega) (by omega), e 182 (by omega) (by omega), e 183 (by omega) (by omega), e 184 (by omega) (by omega), e 185 (by omega) (by omega), e 186 (by omega) (by omega), e 190 (by omega) (by omega)]
  exact hm
/-- the trial row lies within its bounds -/
theorem x7_trialY (hn : M 1 0 = nI n) (hn6 : n ≤ 6) (h : ∀ i, i < n → -99 ≤ (M 146 i).toInt ∧ (M 146 i).toInt ≤ 99) : f_X7_isTrialWithinBounds M = some 1 := by
  refine loop_u (fun m (_ : Unit) j => f_X7_isTrialWithinBounds_2 M (fun _ => some 1) m (nI j)) (fun _ => some 1) n (fun _ s => s) () (fun m j s hj => ?_) (fun m s => ?_) FU (FU_gt (by omega))
  · simp (disch := omega) only [ef_X7_isTrialWithinBounds_2, s_X7_isTrialWithinBounds_2, hn, x7_bndY ((bnd_iff _).mpr (h j hj)), e10, iL, iT, iE, iN, iZ, i0, cl, nL, yL, nT, yT, s1_i, ad_i, z0, c0, la_1, la_2, la_11, la_12, la_21, la_22, la_27, la_54, la_10, la_243, ml_4, ml_6, ml_27, ml_10, ml_3, false_or, or_false, true_or, or_true, or_self, if_false, if_true, not_true, not_false_iff, Option.bind_some, lt]
  · simp (disch := omega) only [ef_X7_isTrialWithinBounds_2, s_X7_isTrialWithinBounds_2, hn, iL, iT, iE, iN, iZ, i0, cl, nL, yL, nT, yT, s1_i, ad_i, z0, c0, la_1, la_2, la_11, la_12, la_21, la_22, la_27, la_54, la_10, la_243, ml_4, ml_6, ml_27, ml_10, ml_3, false_or, or_false, true_or, or_true, or_self, if_false, if_true, not_true, not_false_iff, Option.bind_some, lt]
theorem first_bad {p : Nat → Prop} : ∀ m, (∀ i, i < m → p i) ∨ ∃ k, k < m ∧ (∀ i, i < k → p i) ∧ ¬ p k := by
  intro m
  induction m with
  | zero => exact Or.inl (fun i hi => by omega)
  | succ m ih =>
    rcases ih with h1 | ⟨k, k1, k2, k3⟩
    · by_cases hb : p m
      · refine Or.inl (fun i hi => ?_)
        by_cases him : i = m
        · subst him; exact hb
        · exact h1 i (by omega)
      · exact Or.inr ⟨m, by omega, h1, hb⟩
    · exact Or.inr ⟨k, by omega, k2, k3⟩
theorem x7_trialN (hn : M 1 0 = nI n) (hn6 : n ≤ 6) (h : ¬ ∀ i, i < n → -99 ≤ (M 146 i).toInt ∧ (M 146 i).toInt ≤ 99) : f_X7_isTrialWithinBounds M = some 0 := by
  obtain ⟨k, k1, k2, k3⟩ := (first_bad (p := fun i => -99 ≤ (M 146 i).toInt ∧ (M 146 i).toInt ≤ 99) n).resolve_left h
  refine loop_u (fun m (_ : Unit) j => f_X7_isTrialWithinBounds_2 M (fun _ => some 1) m (nI j)) (fun _ => some 0) k (fun _ s => s) () (fun m j s hj => ?_) (fun m s => ?_) FU (FU_gt (by omega))
  · simp (disch := omega) only [ef_X7_isTrialWithinBounds_2, s_X7_isTrialWithinBounds_2, hn, x7_bndY ((bnd_iff _).mpr (k2 j hj)), e10, iL, iT, iE, iN, iZ, i0, cl, nL, yL, nT, yT, s1_i, ad_i, z0, c0, la_1, la_2, la_11, la_12, la_21, la_22, la_27, la_54, la_10, la_243, ml_4, ml_6, ml_27, ml_10, ml_3, false_or, or_false, true_or, or_true, or_self, if_false, if_true, not_true, not_false_iff, Option.bind_some, lt]
  · simp (disch := omega) only [ef_X7_isTrialWithinBounds_2, s_X7_isTrialWithinBounds_2, hn, x7_bndN (fun q => k3 ((bnd_iff _).mp q)), iL, iT, iE, iN, iZ, i0, cl, nL, yL, nT, yT, s1_i, ad_i, z0, c0, la_1, la_2, la_11, la_12, la_21, la_22, la_27, la_54, la_10, la_243, ml_4, ml_6, ml_27, ml_10, ml_3, false_or, or_false, true_or, or_true, or_self, if_false, if_true, not_true, not_false_iff, Option.bind_some, lt]
theorem x7_addLoop (kk : Int32 → Mem → Option (Int32 × Mem)) (i r : Int32) (a : Nat) (ha : a ≠ 146) : ∃ M', f_X7_add_25 i r a kk FU 0 M = kk 6 M' ∧ (∀ c, c ≠ 146 → M' c = M c) ∧ ∀ i, i < 6 → M' 146 i = M 4 i + M a i := by
  have hst : ∀ (f j : Nat) (M1 : Mem), j < 6 → ((∀ c, c ≠ 146 → M1 c = M c) ∧ (∀ q, q < j → M1 146 q = M 4 q + M a q)) → ∃ M', ((∀ c, c ≠ 146 → M' c = M c) ∧ (∀ q, q < j + 1 → M' 146 q = M 4 q + M a q)) ∧ f_X7_add_25 i r a kk (f + 1) (nI j) M1 = f_X7_add_25 i r a kk f (nI (j + 1)) M' := by
    intro f j M1 hj hI
    obtain ⟨i1, i2⟩ := hI
    refine ⟨um M1 146 j (M1 4 j + M1 a j), ⟨fun c hc => by rw [um_a hc]; exact i1 c hc, fun q hq => ?_⟩, ?_⟩
    · by_cases hji : q = j
      · subst hji; rw [um_s, i1 4 (by omega), i1 a ha]
      · rw [um_k (by omega)]; exact i2 q (by omega)
    · simp (disch := omega) only [ef_X7_add_25, s_X7_add_25, e6y hj, iL, iT, iE, iN, iZ, i0, cl, nL, yL, nT, yT, s1_i, ad_i, z0, c0, la_1, la_2, la_11, la_12, la_21, la_22, la_27, la_54, la_10, la_243, ml_4, ml_6, ml_27, ml_10, ml_3, false_or, or_false, true_or, or_true, or_self, if_false, if_true, not_true, not_false_iff, Option.bind_some, lt]
  obtain ⟨f', M2, ⟨g1, g2⟩, g4⟩ := loop_M (fun f M j => f_X7_add_25 i r a kk f (nI j) M) 6 (fun j M1 => (∀ c, c ≠ 146 → M1 c = M c) ∧ (∀ q, q < j → M1 146 q = M 4 q + M a q)) hst 6 0 M (by omega) ⟨fun _ _ => rfl, fun j hj => by omega⟩ FU (FU_gt (by omega))
  refine ⟨M2, ?_, g1, g2⟩
  refine Eq.trans g4 ?_
  simp only [ef_X7_add_25, s_X7_add_25, e6n, if_true]
  rfl
theorem x8_addLoop (kk : Int32 → Mem → Option (Int32 × Mem)) (r : Int32) (s z : Nat) (hz : z < 12) (hlast : ∀ M1 : Mem, (∀ c, c ≠ 193 → M1 c = M c) → f_X8_lastAt (nI s) M1 = some (nI (6 * z))) : ∃ M', f_X8_add_24 (nI s) r kk FU 0 M = kk 6 M' ∧ (∀ c, c ≠ 193 → M' c = M c) ∧ ∀ i, i < 6 → M' 193 i = M 177 (21 + i) + M 182 (6 * z + i) := by
  have hst : ∀ (f j : Nat) (M1 : Mem), j < 6 → ((∀ c, c ≠ 193 → M1 c = M c) ∧ (∀ q, q < j → M1 193 q = M 177 (21 + q) + M 182 (6 * z + q))) → ∃ M', ((∀ c, c ≠ 193 → M' c = M c) ∧ (∀ q, q < j + 1 → M' 193 q = M 177 (21 + q) + M 182 (6 * z + q))) ∧ f_X8_add_24 (nI s) r kk (f + 1) (nI j) M1 = f_X8_add_24 (nI s) r kk f (nI (j + 1)) M' := by
    intro f j M1 hj hI
    obtain ⟨i1, i2⟩ := hI
    refine ⟨um M1 193 j (M1 177 (21 + j) + M1 182 (6 * z + j)), ⟨fun c hc => by rw [um_a hc]; exact i1 c hc, fun q hq => ?_⟩, ?_⟩
    · by_cases hji : q = j
      · subst hji; rw [um_s, i1 177 (by omega), i1 182 (by omega)]
      · rw [um_k (by omega)]; exact i2 q (by omega)
    · simp (disch := omega) only [ef_X8_add_24, s_X8_add_24, e6y hj, hlast M1 i1, iL, iT, iE, iN, iZ, i0, cl, nL, yL, nT, yT, s1_i, ad_i, z0, c0, la_1, la_2, la_11, la_12, la_21, la_22, la_27, la_54, la_10, la_243, ml_4, ml_6, ml_27, ml_10, ml_3, false_or, or_false, true_or, or_true, or_self, if_false, if_true, not_true, not_false_iff, Option.bind_some, lt]
  obtain ⟨f', M2, ⟨g1, g2⟩, g4⟩ := loop_M (fun f M j => f_X8_add_24 (nI s) r kk f (nI j) M) 6 (fun j M1 => (∀ c, c ≠ 193 → M1 c = M c) ∧ (∀ q, q < j → M1 193 q = M 177 (21 + q) + M 182 (6 * z + q))) hst 6 0 M (by omega) ⟨fun _ _ => rfl, fun j hj => by omega⟩ FU (FU_gt (by omega))
  refine ⟨M2, ?_, g1, g2⟩
  refine Eq.trans g4 ?_
  simp only [ef_X8_add_24, s_X8_add_24, e6n, if_true]
  rfl
/-- the trial row y becomes the row: past, row, both halves -/
theorem x7_become (w : WF n A x P K T S) (hc : CI M n A x P K T S) {y : Row} (hy : ∀ i, i < 6 → M 146 i = y i) : ∃ M1, f_X1_remember M = some M1 ∧ CI (uc M1 4 (va_cpy (M1 146) (M1 4) 0 0 6)) n A y (psh P (A, x)) K T S ∧ (∀ b, 176 ≤ b → uc M1 4 (va_cpy (M1 146) (M1 4) 0 0 6) b = M b) ∧ ∀ i, i < 6 → uc M1 4 (va_cpy (M1 146) (M1 4) 0 0 6) 4 i = y i := by
  obtain ⟨M1, g1, g2, g3⟩ := x1_remember hc.1 w.2.1.1 hc.2.1 w.2.2.2.1.1
  have hq1 := hc.1.on (M' := M1) (fun b _ _ => g3 b (by omega))
  have hrow : ∀ i, i < 6 → uc M1 4 (va_cpy (M1 146) (M1 4) 0 0 6) 4 i = y i := fun i hi => by rw [uc_s, cp_lt hi, g3 146 (by omega)]; exact hy i hi
  refine ⟨M1, g1, hc.past w ⟨?_, ?_, fun k a b hk => ?_, hrow⟩ (g2.on (fun b _ _ => uc_a (by omega))) (fun b b1 b2 => by rw [uc_a (by omega)]; exact g3 b (by omega)), fun b hb => by rw [uc_a (by omega)]; exact g3 b (by omega), hrow⟩
  · rw [uc_a (by omega)]; exact hq1.1
  · rw [uc_a (by omega)]; exact hq1.2.1
  · rw [uc_a (by omega), uc_a (by omega)]; exact hq1.2.2.1 k a b hk
theorem WF.row (w : WF n A x P K T S) {y : Row} (hy0 : ∀ i, n ≤ i → i < 6 → y i = 0) (hb : ∀ i, i < n → -99 ≤ (y i).toInt ∧ (y i).toInt ≤ 99) : WF n A y (psh P (A, x)) K T S :=
  w.deed w.2.1 ⟨fun i hi => by
    by_cases h : i < n
    · exact hb i h
    · rw [hy0 i (by omega) hi]; decide, hy0⟩
theorem op_add (h : Inv M) (i : Int32) : ∃ r M1 M2, f_X7_add i M = some (r, M1) ∧ f_X8_add i M1 = some (r, M2) ∧ Inv M2 := by
  obtain ⟨n, A, x, P, K, T, S, w, hc, hm⟩ := id h
  have hn6 := w.1.2
  have hl10 := w.2.1.1
  have hm1' : ¬ (-1000001 : Int32) = 0 := by decide
  have hno : (i < 0 ∨ nI 3 ≤ i) → ∃ r M1 M2, f_X7_add i M = some (r, M1) ∧ f_X8_add i M1 = some (r, M2) ∧ Inv M2 := fun hi => op_no (f := f_X7_add i) (g := f_X8_add i) h (-1000001) (by simp only [f_X7_add, f_X7_refusalOfLastRow, x7_isShelfN hi, if_true, bs, hm1', if_false]) (by unfold f_X8_add; rw [x8_isShelfN hi]; rfl)
  rcases pk_ix i (n := 3) (by omega) with hi | hi | ⟨s, hs, rfl⟩
  · exact hno (Or.inl hi)
  · exact hno (Or.inr hi)
  have r1 := x7_refusal hc.1.1 hn6 hc.2.2.2.2.1 hs (w.sl hs)
  have r2 : ∀ M1, MI M1 n A x P K T S → f_X8_finds (nI s) M1 = some (rf n (S s)) := fun M1 hm1 => x8_finds hm1.1 hn6 hm1.2.2.2.2.2.1 hs (w.sl hs)
  rcases rf_cases (n := n) (S s) with ⟨l, e, q1, q2, q3⟩ | ⟨q1, q2⟩
  · rw [q3] at r1 r2
    have hl4 := (w.sl hs _ q1).1
    have hlen : (l ++ [e]).length = l.length + 1 := by simp
    rw [hlen] at hl4
    obtain ⟨h2, h3, h4, h5⟩ := hc.2.2.2.2.1.last hs q1
    have hwe := (w.2.2.2.2.2.2 s _ hs q1).2
    have hxe : OKR n e.2 := q2 ▸ (hwe e (by simp)).2.2
    have l1 := x4_last hs (by omega) h3
    have z00 : (0 : Int32) ≤ 0 := by decide
    -- what both halves add up
    have hC : ∀ kk : Int32 → Mem → Option (Int32 × Mem), ∃ M', f_X7_add_25 (nI s) 0 (155 + 7 * s + 2 + l.length) kk FU 0 M = kk 6 M' ∧ (∀ c, c ≠ 146 → M' c = M c) ∧ ∀ i, i < 6 → M' 146 i = x i + e.2 i := fun kk => by
      obtain ⟨M', a1, a2, a3⟩ := x7_addLoop (M := M) kk (nI s) 0 (155 + 7 * s + 2 + l.length) (by omega)
      refine ⟨M', a1, a2, fun i hi => ?_⟩
      have e4 : M 4 i = x i := hc.1.2.2.2 i hi
      rw [a3 i hi, e4, h4 i hi]
    have hMM : ∀ M1, MI M1 n A x P K T S → ∀ kk : Int32 → Mem → Option (Int32 × Mem), ∃ M', f_X8_add_24 (nI s) 0 kk FU 0 M1 = kk 6 M' ∧ (∀ c, c ≠ 193 → M' c = M1 c) ∧ ∀ i, i < 6 → M' 193 i = x i + e.2 i := fun M1 hm1 kk => by
      obtain ⟨m1, m2, m3⟩ := hm1.2.2.2.2.2.1.last hs q1
      obtain ⟨M', a1, a2, a3⟩ := x8_addLoop (M := M1) kk 0 s (4 * s + l.length) (by omega) (fun M3 h3 => x8_last hs (by omega) (by rw [h3 180 (by omega)]; exact m1))
      refine ⟨M', a1, a2, fun i hi => ?_⟩
      have e4 : M1 177 (21 + i) = x i := by have := hm1.2.1.2.2 i hi; rw [Nat.zero_add] at this; exact this
      rw [a3 i hi, e4, m2 i hi]
    have hy0 : ∀ i, n ≤ i → i < 6 → x i + e.2 i = 0 := fun i h1 h6 => by rw [w.2.2.1.2 i h1 h6, hxe.2 i h1 h6]; rfl
    by_cases hb : ∀ i, i < n → -99 ≤ (x i + e.2 i).toInt ∧ (x i + e.2 i).toInt ≤ 99
    · refine op_mk (f := f_X7_add (nI s)) (g := f_X8_add (nI s)) (x 0 + e.2 0) hm (w.row (y := fun i => x i + e.2 i) hy0 hb) ?_ (fun M1 hm1 => ?_)
      · obtain ⟨M1, a1, a2, a3⟩ := hC (fun (i4_5 : Int32) (M6 : Mem) =>
      (f_X7_isTrialWithinBounds M6).bind fun (r7 : Int32) =>
      if r7 = 0 then
        some ((-1000003), M6)
      else
        (f_X1_remember M6).bind fun (M9 : Mem) =>
        (f_X7_copyRow 146 4 M9).bind fun (M10 : Mem) =>
        if (0 : Int32) < 0 ∨ 6 ≤ (0 : Int32).toNatClampNeg then none else
        some (M10 4 (0 : Int32).toNatClampNeg, M10))
        unfold f_X7_add
        simp (disch := omega) only [r1, l1, if_true, bs, iN, cl, nL, or_self, if_false]
        rw [a1]
        have hc1 := hc.scr w a2
        obtain ⟨M2, b1, b2, b3, b4⟩ := x7_become w hc1 (y := fun i => x i + e.2 i) a3
        refine ⟨_, ?_, b2, fun b hb => by rw [b3 b hb, a2 b (by omega)]⟩
        have t1 := x7_trialY hc1.1.1 hn6 (fun i hi => by rw [a3 i (by omega)]; exact hb i hi)
        simp (disch := omega) only [t1, e10, b1, x7_copyRow, b4, iL, iT, iE, iN, iZ, i0, cl, nL, yL, nT, yT, s1_i, ad_i, z0, c0, la_1, la_2, la_11, la_12, la_21, la_22, la_27, la_54, la_10, la_243, ml_4, ml_6, ml_27, ml_10, ml_3, false_or, or_false, true_or, or_true, or_self, if_false, if_true, not_true, not_false_iff, Option.bind_some, lt]
      · obtain ⟨M2, a1, a2, a3⟩ := hMM M1 hm1 (fun (i3_5 : Int32) (M6 : Mem) =>
        (f_X8_becomes M6).bind fun (q7 : Int32 × Mem) =>
        if q7.1 = 0 then
          some ((-1000003), q7.2)
        else
          if (21 : Int32) < 0 ∨ 297 ≤ (21 : Int32).toNatClampNeg then none else
          some (q7.2 177 (21 : Int32).toNatClampNeg, q7.2))
        unfold f_X8_add
        simp only [x8_isShelf hs, e10, r2 M1 hm1, z00, if_true, if_false, bs]
        rw [a1]
        have hm2 := hm1.scr (M' := M2) (fun c _ c1 => a2 c c1)
        obtain ⟨M3, b1, b2, b3, b4, b5, b6⟩ := x8_becomesY (y := fun i => x i + e.2 i) hm2.1 hn6 hm2.2.1 hl10 hm2.2.2.1 w.2.2.2.1.1 w.pastA a3 (fun i h1 h6 => by rw [hy0 i h1 h6]; exact w.2.2.1.2 i h1 h6) hb
        refine ⟨M3, ?_, hm2.past w b2 b3 (fun c _ c1 c2 => b4 c c1 c2) b5 b6, fun b hb => by rw [b4 b (by omega) (by omega), a2 b (by omega)]⟩
        have e21 : (21 : Int32) = nI 21 := rfl
        have e3 : M3 177 21 = x 0 + e.2 0 := b2.2.2 0 (by omega)
        rw [b1, e21]
        simp (disch := omega) only [e10, e3, iL, iT, iE, iN, iZ, i0, cl, nL, yL, nT, yT, s1_i, ad_i, z0, c0, la_1, la_2, la_11, la_12, la_21, la_22, la_27, la_54, la_10, la_243, ml_4, ml_6, ml_27, ml_10, ml_3, false_or, or_false, true_or, or_true, or_self, if_false, if_true, not_true, not_false_iff, Option.bind_some, lt]
    · obtain ⟨M1, a1, a2, a3⟩ := hC (fun (i4_5 : Int32) (M6 : Mem) =>
      (f_X7_isTrialWithinBounds M6).bind fun (r7 : Int32) =>
      if r7 = 0 then
        some ((-1000003), M6)
      else
        (f_X1_remember M6).bind fun (M9 : Mem) =>
        (f_X7_copyRow 146 4 M9).bind fun (M10 : Mem) =>
        if (0 : Int32) < 0 ∨ 6 ≤ (0 : Int32).toNatClampNeg then none else
        some (M10 4 (0 : Int32).toNatClampNeg, M10))
      refine op_mk (f := f_X7_add (nI s)) (g := f_X8_add (nI s)) (-1000003) hm w ⟨M1, ?_, hc.scr w a2, fun b hb => a2 b (by omega)⟩ (fun M1 hm1 => ?_)
      · unfold f_X7_add
        simp (disch := omega) only [r1, l1, if_true, bs, iN, cl, nL, or_self, if_false]
        rw [a1]
        have t1 := x7_trialN (M := M1) (n := n) (by rw [a2 1 (by omega)]; exact hc.1.1) hn6 (fun q => hb (fun i hi => by have := q i hi; rw [a3 i (by omega)] at this; exact this))
        simp only [t1, if_true, bs]
      · obtain ⟨M2, a1, a2, a3⟩ := hMM M1 hm1 (fun (i3_5 : Int32) (M6 : Mem) =>
        (f_X8_becomes M6).bind fun (q7 : Int32 × Mem) =>
        if q7.1 = 0 then
          some ((-1000003), q7.2)
        else
          if (21 : Int32) < 0 ∨ 297 ≤ (21 : Int32).toNatClampNeg then none else
          some (q7.2 177 (21 : Int32).toNatClampNeg, q7.2))
        unfold f_X8_add
        simp only [x8_isShelf hs, e10, r2 M1 hm1, z00, if_true, if_false, bs]
        rw [a1]
        have hm2 := hm1.scr (M' := M2) (fun c _ c1 => a2 c c1)
        refine ⟨M2, ?_, hm2, fun b hb => a2 b (by omega)⟩
        rw [x8_becomesN (y := fun i => x i + e.2 i) hm2.1 hn6 a3 hb]
        simp only [if_true, bs]
  · exact op_no (f := f_X7_add (nI s)) (g := f_X8_add (nI s)) h (rf n (S s)) (by simp only [f_X7_add, r1, q1, if_false, bs]) (by simp (disch := omega) only [f_X8_add, x8_isShelf hs, e10, r2 M hm, q2, iL, iT, iE, iN, iZ, i0, cl, nL, yL, nT, yT, s1_i, ad_i, z0, c0, la_1, la_2, la_11, la_12, la_21, la_22, la_27, la_54, la_10, la_243, ml_4, ml_6, ml_27, ml_10, ml_3, false_or, or_false, true_or, or_true, or_self, if_false, if_true, not_true, not_false_iff, bs, lt_p])
end OPS6

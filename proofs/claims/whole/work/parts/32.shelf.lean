/-! ===== the shelves ===== -/
def rf (n : Nat) : Option (List (Nat × Row)) → Int32
  | none => -1000011
  | some l => match l.getLast? with
    | none => -1000012
    | some e => if e.1 = n then 0 else -1000014
section OPS4
variable {M M' : Mem} {n : Nat} {A A' : Arr} {x x' : Row} {P P' : List (Arr × Row)} {K K' : Nat → Option (Arr × Row)} {T T' : List Int32} {S S' : Nat → Option (List (Nat × Row))}
theorem rf_cases (v : Option (List (Nat × Row))) : (∃ l e, v = some (l ++ [e]) ∧ e.1 = n ∧ rf n v = 0) ∨ (¬ rf n v = 0 ∧ ¬ 0 ≤ rf n v) := by
  rcases v with _ | l
  · exact Or.inr ⟨by show ¬ (-1000011 : Int32) = 0; decide, by show ¬ 0 ≤ (-1000011 : Int32); decide⟩
  rcases List.eq_nil_or_concat l with rfl | ⟨l0, e, rfl⟩
  · exact Or.inr ⟨by show ¬ (-1000012 : Int32) = 0; decide, by show ¬ 0 ≤ (-1000012 : Int32); decide⟩
  · rw [List.concat_eq_append]
    have hr : rf n (some (l0 ++ [e])) = if e.1 = n then 0 else -1000014 := by simp [rf]
    rw [hr]
    by_cases h : e.1 = n
    · exact Or.inl ⟨l0, e, rfl, h, if_pos h⟩
    · exact Or.inr (by rw [if_neg h]; exact ⟨by decide, by decide⟩)
theorem x7_isShelf {s : Nat} (hs : s < 3) : f_X7_isShelf (nI s) M = some 1 := by
  have e2 : (3 : Int32) = nI 3 := rfl
  unfold f_X7_isShelf
  rw [e2]
  simp (disch := omega) only [iL, iT, iE, iN, iZ, i0, cl, nL, yL, nT, yT, s1_i, ad_i, z0, c0, la_1, la_2, la_11, la_12, la_21, la_22, la_27, la_54, la_10, la_243, ml_4, ml_6, ml_27, ml_10, ml_3, false_or, or_false, true_or, or_true, or_self, if_false, if_true, not_true, not_false_iff, Option.bind_some, lt]
theorem x7_isShelfN {i : Int32} (h : i < 0 ∨ nI 3 ≤ i) : f_X7_isShelf i M = some 0 := by
  unfold f_X7_isShelf
  by_cases h0 : i < 0
  · rw [if_pos h0]
  · rw [if_neg h0, show (3 : Int32) = nI 3 from rfl, if_pos (h.resolve_left h0)]
theorem x8_isShelf {s : Nat} (hs : s < 3) : f_X8_isShelf (nI s) M = some 1 := by
  unfold f_X8_isShelf
  rw [x8_in2 (m := 2) (H := 2) (by omega) rfl (show s ≤ 2 by omega)]
  rfl
theorem x8_isShelfN {i : Int32} (h : i < 0 ∨ nI 3 ≤ i) : f_X8_isShelf i M = some 0 := by
  unfold f_X8_isShelf
  rw [x8_in2N (m := 2) (H := 2) (by omega) rfl h]
  rfl
theorem x7_refusal (hn : M 1 0 = nI n) (hn6 : n ≤ 6) (hS : CS M S) {s : Nat} (hs : s < 3) (hl : ∀ l, S s = some l → l.length ≤ 4 ∧ ∀ e ∈ l, e.1 ≤ 6) : f_X7_refusalOfLastRow (nI s) M = some (rf n (S s)) := by
  rcases hS s hs with ⟨h1, h2, h3⟩ | ⟨l, h1, h2, h3, h4⟩
  · rw [h1]
    simp (disch := omega) only [f_X7_refusalOfLastRow, x7_isShelf hs, e10, h2, rf, iL, iT, iE, iN, iZ, i0, cl, nL, yL, nT, yT, s1_i, ad_i, z0, c0, la_1, la_2, la_11, la_12, la_21, la_22, la_27, la_54, la_10, la_243, ml_4, ml_6, ml_27, ml_10, ml_3, false_or, or_false, true_or, or_true, or_self, if_false, if_true, not_true, not_false_iff, Option.bind_some, lt]
  · rw [h1]
    have hl := hl l h1
    rcases List.eq_nil_or_concat l with rfl | ⟨l0, e, rfl⟩
    · have h3' : M (155 + 7 * s) 1 = 0 := h3
      simp (disch := omega) only [f_X7_refusalOfLastRow, x7_isShelf hs, e10, h2, h3', rf, List.getLast?_nil, iL, iT, iE, iN, iZ, i0, cl, nL, yL, nT, yT, s1_i, ad_i, z0, c0, la_1, la_2, la_11, la_12, la_21, la_22, la_27, la_54, la_10, la_243, ml_4, ml_6, ml_27, ml_10, ml_3, false_or, or_false, true_or, or_true, or_self, if_false, if_true, not_true, not_false_iff, Option.bind_some, lt]
    · rw [List.concat_eq_append] at h3 h4 hl ⊢
      have hlen : (l0 ++ [e]).length = l0.length + 1 := by simp
      rw [hlen] at h3 hl
      have e6 := (h4 l0.length e (by simp)).1
      have hle := hl.2 e (by simp)
      have hs1 : nI (l0.length + 1) - 1 = nI l0.length := sb_i (a := l0.length + 1) (b := 1) (by omega)
      have h0 : nI (l0.length + 1) = 0 ↔ False := by rw [i0 (by omega)]; exact iff_of_false (by omega) id
      simp (disch := omega) only [f_X7_refusalOfLastRow, x7_isShelf hs, e10, h2, h3, h0, hs1, e6, hn, rf, List.getLast?_concat, iL, iT, iE, iN, iZ, i0, cl, nL, yL, nT, yT, s1_i, ad_i, z0, c0, la_1, la_2, la_11, la_12, la_21, la_22, la_27, la_54, la_10, la_243, ml_4, ml_6, ml_27, ml_10, ml_3, false_or, or_false, true_or, or_true, or_self, if_false, if_true, not_true, not_false_iff, Option.bind_some, lt]
      by_cases h : e.1 = n
      · rw [if_pos h, if_pos h]
      · rw [if_neg h, if_neg h]
theorem x8_finds (hn : M 176 0 = nI n) (hn6 : n ≤ 6) (hS : MS M S) {s : Nat} (hs : s < 3) (hl : ∀ l, S s = some l → l.length ≤ 4 ∧ ∀ e ∈ l, e.1 ≤ 6) : f_X8_finds (nI s) M = some (rf n (S s)) := by
  rcases hS s hs with ⟨h1, h2⟩ | ⟨l, h1, h2, h4⟩
  · rw [h1]
    have hm1 : ¬ (0 : Int32) ≤ -1 := by decide
    simp (disch := omega) only [f_X8_finds, h2, hm1, rf, iL, iT, iE, iN, iZ, i0, cl, nL, yL, nT, yT, s1_i, ad_i, z0, c0, la_1, la_2, la_11, la_12, la_21, la_22, la_27, la_54, la_10, la_243, ml_4, ml_6, ml_27, ml_10, ml_3, false_or, or_false, true_or, or_true, or_self, if_false, if_true, not_true, not_false_iff, Option.bind_some, lt]
  · rw [h1]
    have hl := hl l h1
    rcases List.eq_nil_or_concat l with rfl | ⟨l0, e, rfl⟩
    · have h2' : M 180 s = 0 := h2
      have h00 : (0 : Int32) ≤ 0 := by decide
      simp (disch := omega) only [f_X8_finds, h2', h00, rf, List.getLast?_nil, iL, iT, iE, iN, iZ, i0, cl, nL, yL, nT, yT, s1_i, ad_i, z0, c0, la_1, la_2, la_11, la_12, la_21, la_22, la_27, la_54, la_10, la_243, ml_4, ml_6, ml_27, ml_10, ml_3, false_or, or_false, true_or, or_true, or_self, if_false, if_true, not_true, not_false_iff, Option.bind_some, lt]
    · rw [List.concat_eq_append] at h2 h4 hl ⊢
      have hlen : (l0 ++ [e]).length = l0.length + 1 := by simp
      rw [hlen] at h2 hl
      have e6 := (h4 l0.length e (by simp)).1
      have hle := hl.2 e (by simp)
      have hs1 : nI (4 * s + (l0.length + 1)) - 1 = nI (4 * s + l0.length) := sb_i (a := 4 * s + (l0.length + 1)) (b := 1) (by omega)
      have h0 : nI (l0.length + 1) = 0 ↔ False := by rw [i0 (by omega)]; exact iff_of_false (by omega) id
      simp (disch := omega) only [f_X8_finds, h2, h0, hs1, e6, hn, rf, List.getLast?_concat, iL, iT, iE, iN, iZ, i0, cl, nL, yL, nT, yT, s1_i, ad_i, z0, c0, la_1, la_2, la_11, la_12, la_21, la_22, la_27, la_54, la_10, la_243, ml_4, ml_6, ml_27, ml_10, ml_3, false_or, or_false, true_or, or_true, or_self, if_false, if_true, not_true, not_false_iff, Option.bind_some, lt]
      by_cases h : e.1 = n
      · rw [if_pos h, if_pos h]
      · rw [if_neg h, if_neg h]
theorem CS.upd (h : CS M S) (hS : ∀ s l, s < 3 → S s = some l → l.length ≤ 4) {s : Nat} (hs : s < 3) (v : Option (List (Nat × Row))) (hnew : (v = none ∧ M' (155 + 7 * s) 0 = 0 ∧ M' (155 + 7 * s) 1 = 0) ∨ ∃ l, v = some l ∧ M' (155 + 7 * s) 0 = 1 ∧ M' (155 + 7 * s) 1 = nI l.length ∧ ∀ j e, l[j]? = some e → M' (155 + 7 * s + 6) j = nI e.1 ∧ ∀ i, i < 6 → M' (155 + 7 * s + 2 + j) i = e.2 i) (e : ∀ b, 155 ≤ b → b ≤ 175 → (b < 155 + 7 * s ∨ 155 + 7 * s + 6 < b) → M' b = M b) : CS M' (fun j => if j = s then v else S j) := by
  intro t ht
  by_cases hts : t = s
  · subst hts
    simp only [if_true]
    exact hnew
  · simp only [hts, if_false]
    have hd : 155 + 7 * t + 6 < 155 + 7 * s ∨ 155 + 7 * s + 6 < 155 + 7 * t := by omega
    rw [e (155 + 7 * t) (by omega) (by omega) (by omega)]
    rcases h t ht with h | ⟨l, h1, h2, h3, h4⟩
    · exact Or.inl h
    · refine Or.inr ⟨l, h1, h2, h3, fun j q hq => ?_⟩
      have hl := hS t l ht h1
      have hj := (List.getElem?_eq_some_iff.mp hq).1
      rw [e (155 + 7 * t + 6) (by omega) (by omega) (by omega), e (155 + 7 * t + 2 + j) (by omega) (by omega) (by omega)]
      exact h4 j q hq
theorem MS.upd (h : MS M S) (hS : ∀ s l, s < 3 → S s = some l → l.length ≤ 4) {s : Nat} (hs : s < 3) (v : Option (List (Nat × Row))) (hnew : (v = none ∧ M' 180 s = -1) ∨ ∃ l, v = some l ∧ M' 180 s = nI l.length ∧ ∀ j e, l[j]? = some e → M' 181 (4 * s + j) = nI e.1 ∧ ∀ i, i < 6 → M' 182 (6 * (4 * s + j) + i) = e.2 i) (e0 : ∀ j, j ≠ s → M' 180 j = M 180 j) (e1 : ∀ q, (q < 4 * s ∨ 4 * s + 4 ≤ q) → M' 181 q = M 181 q) (e2 : ∀ q, (q < 24 * s ∨ 24 * s + 24 ≤ q) → M' 182 q = M 182 q) : MS M' (fun j => if j = s then v else S j) := by
  intro t ht
  by_cases hts : t = s
  · subst hts
    simp only [if_true]
    exact hnew
  · simp only [hts, if_false]
    have hd : 4 * t + 4 ≤ 4 * s ∨ 4 * s + 4 ≤ 4 * t := by omega
    rw [e0 t hts]
    rcases h t ht with h | ⟨l, h1, h2, h4⟩
    · exact Or.inl h
    · refine Or.inr ⟨l, h1, h2, fun j q hq => ?_⟩
      have hl := hS t l ht h1
      have hj := (List.getElem?_eq_some_iff.mp hq).1
      rw [e1 _ (by omega)]
      exact ⟨(h4 j q hq).1, fun i hi => by rw [e2 _ (by omega)]; exact (h4 j q hq).2 i hi⟩
theorem CI.shelf (w : WF n A x P K T S) (hc : CI M n A x P K T S) (hq : CQ M' 1 n A x') (hs : CS M' S') (e : ∀ b, (b = 0 ∨ 5 ≤ b) → b < 155 → M' b = M b) : CI M' n A x' P K T S' :=
  ⟨hq, hc.2.1.on (fun b _ _ => e b (by omega) (by omega)), hc.2.2.1.on (e _ (by omega) (by omega)) (fun b _ _ => e b (by omega) (by omega)), hc.2.2.2.1.on (e _ (by omega) (by omega)) (e _ (by omega) (by omega)), hs, hc.2.2.2.2.2.1.on w.1.2 (by rw [e 0 (by omega) (by omega)]) (fun b _ _ => e b (by omega) (by omega)), hc.2.2.2.2.2.2.on (by rw [e 0 (by omega) (by omega)]) (fun b _ _ => e b (by omega) (by omega))⟩
theorem MI.shelf (w : WF n A x P K T S) (hm : MI M n A x P K T S) (hq : RQ (M' 177) 0 A x') (hs : MS M' S') (e : ∀ c, 176 ≤ c → c ≠ 177 → c ≠ 180 → c ≠ 181 → c ≠ 182 → M' c = M c) (e7 : ∀ q, 27 ≤ q → M' 177 q = M 177 q) : MI M' n A x' P K T S' := by
  obtain ⟨h1, h2, h3, h4, h5, h6, h7, h8⟩ := hm
  have e6 := e 176 (by omega) (by omega) (by omega) (by omega) (by omega)
  refine ⟨by rw [e6]; exact h1, hq, ⟨by rw [e6]; exact h3.1, fun j q hj => (h3.2 j q hj).mv (w.pastA q (List.mem_of_getElem? hj)) (fun i hi => e7 _ (by omega))⟩, fun k hk => ?_, ?_, hs, ?_, ?_⟩
  · rw [e 178 (by omega) (by omega) (by omega) (by omega) (by omega)]
    rcases h4 k hk with h | ⟨q, q1, q2, q3⟩
    · exact Or.inl h
    · exact Or.inr ⟨q, q1, q2, q3.mv (w.2.2.2.2.1 k q hk q1).1.1 (fun i hi => e7 _ (by omega))⟩
  · unfold MT; rw [e6, e 179 (by omega) (by omega) (by omega) (by omega) (by omega)]; exact h5
  · unfold MN KnowsOK; rw [e6, e 183 (by omega) (by omega) (by omega) (by omega) (by omega), e 184 (by omega) (by omega) (by omega) (by omega) (by omega), e 185 (by omega) (by omega) (by omega) (by omega) (by omega)]; exact h7
  · unfold MC; rw [e 186 (by omega) (by omega) (by omega) (by omega) (by omega), e 190 (by omega) (by omega) (by omega) (by omega) (by omega)]; exact h8
theorem WF.shelf (w : WF n A x P K T S) (hx : OKR n x') {s : Nat} (v : Option (List (Nat × Row))) (hv : ∀ l, v = some l → l.length ≤ 4 ∧ ∀ e ∈ l, 1 ≤ e.1 ∧ e.1 ≤ 6 ∧ OKR e.1 e.2) : WF n A x' P K T (fun j => if j = s then v else S j) := by
  obtain ⟨h1, h2, h3, h4, h5, h6, h7⟩ := w
  refine ⟨h1, h2, hx, h4, h5, h6, fun t l ht hl => ?_⟩
  have hl : (if t = s then v else S t) = some l := hl
  by_cases hts : t = s
  · rw [if_pos hts] at hl; exact hv l hl
  · rw [if_neg hts] at hl; exact h7 t l ht hl
theorem WF.sl (w : WF n A x P K T S) {s : Nat} (hs : s < 3) : ∀ l, S s = some l → l.length ≤ 4 ∧ ∀ e ∈ l, e.1 ≤ 6 := fun l hl => ⟨(w.2.2.2.2.2.2 s l hs hl).1, fun e he => ((w.2.2.2.2.2.2 s l hs hl).2 e he).2.1⟩
theorem op_shelf (h : Inv M) (i : Int32) : ∃ r M1 M2, f_X7_shelf i M = some (r, M1) ∧ f_X8_shelf i M1 = some (r, M2) ∧ Inv M2 := by
  obtain ⟨n, A, x, P, K, T, S, w, hc, hm⟩ := id h
  have hno : (i < 0 ∨ nI 3 ≤ i) → ∃ r M1 M2, f_X7_shelf i M = some (r, M1) ∧ f_X8_shelf i M1 = some (r, M2) ∧ Inv M2 := fun hi => op_no (f := f_X7_shelf i) (g := f_X8_shelf i) h (-1000001) (by unfold f_X7_shelf; rw [x7_isShelfN hi]; rfl) (by unfold f_X8_shelf; rw [x8_isShelfN hi]; rfl)
  rcases pk_ix i (n := 3) (by omega) with hi | hi | ⟨s, hs, rfl⟩
  · exact hno (Or.inl hi)
  · exact hno (Or.inr hi)
  refine op_mk (f := f_X7_shelf (nI s)) (g := f_X8_shelf (nI s)) 0 hm (w.shelf (s := s) w.2.2.1 (some []) (fun l hl => by cases hl; exact ⟨by simp, fun e he => by cases he⟩)) ?_ (fun M1 hm1 => ?_)
  · refine ⟨um (um M (155 + 7 * s) 0 1) (155 + 7 * s) 1 0, by simp (disch := omega) only [f_X7_shelf, x7_isShelf hs, e10, iL, iT, iE, iN, iZ, i0, cl, nL, yL, nT, yT, s1_i, ad_i, z0, c0, la_1, la_2, la_11, la_12, la_21, la_22, la_27, la_54, la_10, la_243, ml_4, ml_6, ml_27, ml_10, ml_3, false_or, or_false, true_or, or_true, or_self, if_false, if_true, not_true, not_false_iff, Option.bind_some, lt], hc.shelf w (hc.1.on (fun b _ _ => by rw [um_a (by omega), um_a (by omega)])) (hc.2.2.2.2.1.upd (hc.cS w) hs _ (Or.inr ⟨[], rfl, by rw [um_k (by omega), um_s], um_s, fun j e he => by simp at he⟩) (fun b _ _ _ => by rw [um_a (by omega), um_a (by omega)])) (fun b _ _ => by rw [um_a (by omega), um_a (by omega)]), fun b hb => by rw [um_a (by omega), um_a (by omega)]⟩
  · refine ⟨um M1 180 s 0, by simp (disch := omega) only [f_X8_shelf, x8_isShelf hs, e10, iL, iT, iE, iN, iZ, i0, cl, nL, yL, nT, yT, s1_i, ad_i, z0, c0, la_1, la_2, la_11, la_12, la_21, la_22, la_27, la_54, la_10, la_243, ml_4, ml_6, ml_27, ml_10, ml_3, false_or, or_false, true_or, or_true, or_self, if_false, if_true, not_true, not_false_iff, Option.bind_some, lt], hm1.shelf w (by rw [um_a (by omega)]; exact hm1.2.1) (hm1.2.2.2.2.2.1.upd (hc.cS w) hs _ (Or.inr ⟨[], rfl, um_s, fun j e he => by simp at he⟩) (fun j hj => um_k hj) (fun q _ => by rw [um_a (by omega)]) (fun q _ => by rw [um_a (by omega)])) (fun c _ _ c1 _ _ => um_a c1) (fun q _ => by rw [um_a (by omega)]), fun b hb => um_a (by omega)⟩
theorem op_drop (h : Inv M) (i : Int32) : ∃ r M1 M2, f_X7_drop i M = some (r, M1) ∧ f_X8_drop i M1 = some (r, M2) ∧ Inv M2 := by
  obtain ⟨n, A, x, P, K, T, S, w, hc, hm⟩ := id h
  have hno : (i < 0 ∨ nI 3 ≤ i) → ∃ r M1 M2, f_X7_drop i M = some (r, M1) ∧ f_X8_drop i M1 = some (r, M2) ∧ Inv M2 := fun hi => op_no (f := f_X7_drop i) (g := f_X8_drop i) h (-1000001) (by unfold f_X7_drop; rw [x7_isShelfN hi]; rfl) (by unfold f_X8_drop; rw [x8_isShelfN hi]; rfl)
  rcases pk_ix i (n := 3) (by omega) with hi | hi | ⟨s, hs, rfl⟩
  · exact hno (Or.inl hi)
  · exact hno (Or.inr hi)
  have hmd : ∀ M1, MI M1 n A x P K T S → MI (um M1 180 s (-1)) n A x P K T (fun j => if j = s then none else S j) := fun M1 hm1 => hm1.shelf w (by rw [um_a (by omega)]; exact hm1.2.1) (hm1.2.2.2.2.2.1.upd (hc.cS w) hs none (Or.inl ⟨rfl, um_s⟩) (fun j hj => um_k hj) (fun q _ => by rw [um_a (by omega)]) (fun q _ => by rw [um_a (by omega)])) (fun c _ _ c1 _ _ => um_a c1) (fun q _ => by rw [um_a (by omega)])
  have w' : WF n A x P K T (fun j => if j = s then none else S j) := w.shelf (s := s) w.2.2.1 none (fun l hl => by cases hl)
  rcases hc.2.2.2.2.1 s hs with ⟨h1, h2, h3⟩ | ⟨l, h1, h2, h3, h4⟩
  · refine op_mk (f := f_X7_drop (nI s)) (g := f_X8_drop (nI s)) (-1000011) hm w' ?_ (fun M1 hm1 => ?_)
    · exact ⟨M, by simp (disch := omega) only [f_X7_drop, x7_isShelf hs, e10, h2, iL, iT, iE, iN, iZ, i0, cl, nL, yL, nT, yT, s1_i, ad_i, z0, c0, la_1, la_2, la_11, la_12, la_21, la_22, la_27, la_54, la_10, la_243, ml_4, ml_6, ml_27, ml_10, ml_3, false_or, or_false, true_or, or_true, or_self, if_false, if_true, not_true, not_false_iff, Option.bind_some, lt], hc.shelf w hc.1 (hc.2.2.2.2.1.upd (hc.cS w) hs none (Or.inl ⟨rfl, h2, h3⟩) (fun b _ _ _ => rfl)) (fun b _ _ => rfl), fun b hb => rfl⟩
    · have hm1' : ¬ (0 : Int32) ≤ -1 := by decide
      have hs1 : M1 180 s = -1 := by
        rcases hm1.2.2.2.2.2.1 s hs with ⟨_, q⟩ | ⟨l, q, _⟩
        · exact q
        · rw [h1] at q; cases q
      exact ⟨_, by simp (disch := omega) only [f_X8_drop, x8_isShelf hs, e10, hs1, hm1', iL, iT, iE, iN, iZ, i0, cl, nL, yL, nT, yT, s1_i, ad_i, z0, c0, la_1, la_2, la_11, la_12, la_21, la_22, la_27, la_54, la_10, la_243, ml_4, ml_6, ml_27, ml_10, ml_3, false_or, or_false, true_or, or_true, or_self, if_false, if_true, not_true, not_false_iff, Option.bind_some, lt], hmd M1 hm1, fun b hb => um_a (by omega)⟩
  · have hl := (w.sl hs l h1).1
    refine op_mk (f := f_X7_drop (nI s)) (g := f_X8_drop (nI s)) (nI l.length) hm w' ?_ (fun M1 hm1 => ?_)
    · exact ⟨um (um M (155 + 7 * s) 0 0) (155 + 7 * s) 1 0, by simp (disch := omega) only [f_X7_drop, x7_isShelf hs, e10, h2, h3, iL, iT, iE, iN, iZ, i0, cl, nL, yL, nT, yT, s1_i, ad_i, z0, c0, la_1, la_2, la_11, la_12, la_21, la_22, la_27, la_54, la_10, la_243, ml_4, ml_6, ml_27, ml_10, ml_3, false_or, or_false, true_or, or_true, or_self, if_false, if_true, not_true, not_false_iff, Option.bind_some, lt], hc.shelf w (hc.1.on (fun b _ _ => by rw [um_a (by omega), um_a (by omega)])) (hc.2.2.2.2.1.upd (hc.cS w) hs none (Or.inl ⟨rfl, by rw [um_k (by omega), um_s], um_s⟩) (fun b _ _ _ => by rw [um_a (by omega), um_a (by omega)])) (fun b _ _ => by rw [um_a (by omega), um_a (by omega)]), fun b hb => by rw [um_a (by omega), um_a (by omega)]⟩
    · have hs1 : M1 180 s = nI l.length := by
        rcases hm1.2.2.2.2.2.1 s hs with ⟨q, _⟩ | ⟨l', q, q2, _⟩
        · rw [h1] at q; cases q
        · rw [h1] at q; cases q; exact q2
      exact ⟨_, by simp (disch := omega) only [f_X8_drop, x8_isShelf hs, e10, hs1, iL, iT, iE, iN, iZ, i0, cl, nL, yL, nT, yT, s1_i, ad_i, z0, c0, la_1, la_2, la_11, la_12, la_21, la_22, la_27, la_54, la_10, la_243, ml_4, ml_6, ml_27, ml_10, ml_3, false_or, or_false, true_or, or_true, or_self, if_false, if_true, not_true, not_false_iff, Option.bind_some, lt], hmd M1 hm1, fun b hb => um_a (by omega)⟩
theorem eul_congr {y y' z z' : Row} (hA : OKA n A) (h1 : ∀ i, i < n → y i = y' i) (h2 : ∀ i, i < n → z i = z' i) : eul n A y z = eul n A y' z' := by
  unfold eul
  rw [fo_congr (g := fun i s => s + y' i * z' i) (fun k hk b => by rw [h1 k hk, h2 k hk])]
  have : ∀ (B : Arr) (s : Int32), (∀ e ∈ B, e.1 < n ∧ e.2 < n) → B.foldl (fun s e => s - y e.1 * z e.2) s = B.foldl (fun s e => s - y' e.1 * z' e.2) s := by
    intro B
    induction B with
    | nil => intro s _; rfl
    | cons e B ih =>
      intro s hB
      have he := hB e List.mem_cons_self
      rw [List.foldl_cons, List.foldl_cons, h1 _ he.1, h2 _ he.2]
      exact ih _ (fun e he => hB e (List.mem_cons_of_mem _ he))
  exact this A _ hA.2.1
theorem x4_last {s : Nat} (hs : s < 3) {l : List (Nat × Row)} {e : Nat × Row} (hl : l.length < 4) (h3 : M (155 + 7 * s) 1 = nI (l ++ [e]).length) : f_X4_lastRow (155 + 7 * s) M = some (155 + 7 * s + 2 + l.length) := by
  have hlen : (l ++ [e]).length = l.length + 1 := by simp
  have hs1 : nI (l.length + 1) - 1 = nI l.length := sb_i (a := l.length + 1) (b := 1) (by omega)
  simp (disch := omega) only [f_X4_lastRow, h3, hlen, hs1, iL, iT, iE, iN, iZ, i0, cl, nL, yL, nT, yT, s1_i, ad_i, z0, c0, la_1, la_2, la_11, la_12, la_21, la_22, la_27, la_54, la_10, la_243, ml_4, ml_6, ml_27, ml_10, ml_3, false_or, or_false, true_or, or_true, or_self, if_false, if_true, not_true, not_false_iff, Option.bind_some, lt]
theorem x8_last {s : Nat} (hs : s < 3) {l : List (Nat × Row)} {e : Nat × Row} (hl : l.length < 4) (h3 : M 180 s = nI (l ++ [e]).length) : f_X8_lastAt (nI s) M = some (nI (6 * (4 * s + l.length))) := by
  have hlen : (l ++ [e]).length = l.length + 1 := by simp
  have hs1 : nI (4 * s + (l.length + 1)) - 1 = nI (4 * s + l.length) := sb_i (a := 4 * s + (l.length + 1)) (b := 1) (by omega)
  simp (disch := omega) only [f_X8_lastAt, h3, hlen, hs1, iL, iT, iE, iN, iZ, i0, cl, nL, yL, nT, yT, s1_i, ad_i, z0, c0, la_1, la_2, la_11, la_12, la_21, la_22, la_27, la_54, la_10, la_243, ml_4, ml_6, ml_27, ml_10, ml_3, false_or, or_false, true_or, or_true, or_self, if_false, if_true, not_true, not_false_iff, Option.bind_some, lt]
theorem op_euler (h : Inv M) (i c : Int32) : ∃ r, f_X7_euler i c M = some r ∧ f_X8_euler i c M = some r := by
  obtain ⟨n, A, x, P, K, T, S, w, hc, hm⟩ := id h
  have hn6 := w.1.2
  have hA := w.2.1
  have hno : (i < 0 ∨ nI 3 ≤ i) → ∃ r, f_X7_euler i c M = some r ∧ f_X8_euler i c M = some r := fun hi => ⟨-1000001, by unfold f_X7_euler; rw [x7_isShelfN hi]; rfl, by unfold f_X8_euler; rw [x8_isShelfN hi]; rfl⟩
  rcases pk_ix i (n := 3) (by omega) with hi | hi | ⟨s, hs, rfl⟩
  · exact hno (Or.inl hi)
  · exact hno (Or.inr hi)
  have c1 := x7_isShelf (M := M) hs
  have m1 := x8_isShelf (M := M) hs
  have r1 := x7_refusal hc.1.1 hn6 hc.2.2.2.2.1 hs (w.sl hs)
  have r2 := x8_finds hm.1 hn6 hm.2.2.2.2.2.1 hs (w.sl hs)
  rcases pk_ix c (n := 3) (by omega) with hi | hi | ⟨k, hk, rfl⟩
  · exact ⟨-1000002, by simp only [f_X7_euler, c1, e10, hi, if_true, if_false, Option.bind_some], by simp only [f_X8_euler, m1, e10, x8_in2N (M := M) (m := 2) (H := 2) (by omega) rfl (Or.inl hi), if_true, if_false, Option.bind_some]⟩
  · have h3 := (fa_le _ _).mp hi
    rw [nI_toInt (by omega)] at h3
    have d1 : ¬ c < 0 := by rw [fa_lt, show (0 : Int32).toInt = 0 from rfl]; omega
    have d2 : ¬ c ≤ 2 := by rw [fa_le, show (2 : Int32).toInt = 2 from rfl]; omega
    exact ⟨-1000002, by simp only [f_X7_euler, c1, e10, d1, d2, if_true, if_false, Option.bind_some], by simp only [f_X8_euler, m1, e10, x8_in2N (M := M) (m := 2) (H := 2) (by omega) rfl (Or.inr hi), if_true, if_false, Option.bind_some]⟩
  have i1 := x8_in2 (M := M) (m := 2) (H := 2) (by omega) rfl (show k ≤ 2 by omega)
  have d2 : nI k ≤ 2 ↔ True := by rw [show (2 : Int32) = nI 2 from rfl, iL (by omega) (by omega)]; exact iff_of_true (by omega) trivial
  rcases rf_cases (n := n) (S s) with ⟨l, e, q1, q2, q3⟩ | ⟨q1, q2⟩
  · rw [q3] at r1 r2
    have hl4 := (w.sl hs _ q1).1
    have hlen : (l ++ [e]).length = l.length + 1 := by simp
    rw [hlen] at hl4
    rcases hc.2.2.2.2.1 s hs with ⟨h1, _, _⟩ | ⟨l', h1, h2, h3, h4⟩
    · rw [q1] at h1; cases h1
    rw [q1] at h1; cases h1
    rcases hm.2.2.2.2.2.1 s hs with ⟨h1, _⟩ | ⟨l', h1, h5, h6⟩
    · rw [q1] at h1; cases h1
    rw [q1] at h1; cases h1
    have hr1 := (h4 l.length e (by simp)).2
    have hr2 := (h6 l.length e (by simp)).2
    have l1 := x4_last hs (by omega) h3
    have l2 := x8_last hs (by omega) h5
    have hx1 : ∀ i, i < n → M 4 i = x i := fun i hi => hc.1.2.2.2 i (by omega)
    have hx2 : ∀ i, i < n → M 177 (21 + i) = x i := fun i hi => by have := hm.2.1.2.2 i (by omega); rw [Nat.zero_add] at this; exact this
    have u1 : f_X2_eulerOf 1 4 (155 + 7 * s + 2 + l.length) M = some (eul n A x e.2) := by rw [x2_eulerOf hc.1 hA hn6, eul_congr hA hx1 (fun i hi => hr1 i (by omega))]
    have u2 : f_X2_eulerOf 1 (155 + 7 * s + 2 + l.length) 4 M = some (eul n A e.2 x) := by rw [x2_eulerOf hc.1 hA hn6, eul_congr hA (fun i hi => hr1 i (by omega)) hx1]
    have a1 : alen 177 = 297 := rfl
    have a2 : alen 182 = 72 := rfl
    have v1 : f_X8_form 177 21 182 (nI (6 * (4 * s + l.length))) M = some (eul n A x e.2) := by
      rw [show (21 : Int32) = nI 21 from rfl, x8_form hm.1 hm.2.1 hA hn6 177 182 21 (6 * (4 * s + l.length)) (by omega) (by omega) (by omega) (by omega)]
      rw [eul_congr (y' := x) (z' := e.2) hA hx2 (fun i hi => hr2 i (by omega))]
    have v2 : f_X8_form 182 (nI (6 * (4 * s + l.length))) 177 21 M = some (eul n A e.2 x) := by
      rw [show (21 : Int32) = nI 21 from rfl, x8_form hm.1 hm.2.1 hA hn6 182 177 (6 * (4 * s + l.length)) 21 (by omega) (by omega) (by omega) (by omega)]
      rw [eul_congr (y' := e.2) (z' := x) hA (fun i hi => hr2 i (by omega)) hx2]
    have z00 : (0 : Int32) ≤ 0 := by decide
    refine ⟨if nI k = 0 then eul n A x e.2 else if nI k = 1 then eul n A e.2 x else eul n A e.2 x + eul n A x e.2, ?_, ?_⟩
    · simp (disch := omega) only [f_X7_euler, c1, e10, d2, r1, l1, u1, u2, iL, iT, iE, iN, iZ, i0, cl, nL, yL, nT, yT, s1_i, ad_i, z0, c0, la_1, la_2, la_11, la_12, la_21, la_22, la_27, la_54, la_10, la_243, ml_4, ml_6, ml_27, ml_10, ml_3, false_or, or_false, true_or, or_true, or_self, if_false, if_true, not_true, not_false_iff, Option.bind_some, lt]
      by_cases k0 : nI k = 0
      · have k0' : k = 0 := (i0 (by omega)).mp k0
        simp only [k0', if_true]
      · have k0' : ¬ k = 0 := fun z => k0 ((i0 (by omega)).mpr z)
        by_cases k1 : nI k = 1
        · simp (disch := omega) only [k0', k1, iL, iT, iE, iN, iZ, i0, cl, nL, yL, nT, yT, s1_i, ad_i, z0, c0, la_1, la_2, la_11, la_12, la_21, la_22, la_27, la_54, la_10, la_243, ml_4, ml_6, ml_27, ml_10, ml_3, false_or, or_false, true_or, or_true, or_self, if_false, if_true, not_true, not_false_iff, Option.bind_some, lt]
        · simp (disch := omega) only [k0', k1, iL, iT, iE, iN, iZ, i0, cl, nL, yL, nT, yT, s1_i, ad_i, z0, c0, la_1, la_2, la_11, la_12, la_21, la_22, la_27, la_54, la_10, la_243, ml_4, ml_6, ml_27, ml_10, ml_3, false_or, or_false, true_or, or_true, or_self, if_false, if_true, not_true, not_false_iff, Option.bind_some, lt]
    · simp (disch := omega) only [f_X8_euler, m1, i1, e10, d2, r2, l2, v1, v2, z00, iL, iT, iE, iN, iZ, i0, cl, nL, yL, nT, yT, s1_i, ad_i, z0, c0, la_1, la_2, la_11, la_12, la_21, la_22, la_27, la_54, la_10, la_243, ml_4, ml_6, ml_27, ml_10, ml_3, false_or, or_false, true_or, or_true, or_self, if_false, if_true, not_true, not_false_iff, Option.bind_some, lt]
      by_cases k0 : k = 0
      · simp only [k0, if_true]
      · by_cases k1 : nI k = 1
        · simp only [k0, k1, if_true, if_false]
        · simp only [k0, k1, if_false, Int32.add_comm]
  · exact ⟨rf n (S s), by simp (disch := omega) only [f_X7_euler, c1, e10, d2, r1, q1, iL, iT, iE, iN, iZ, i0, cl, nL, yL, nT, yT, s1_i, ad_i, z0, c0, la_1, la_2, la_11, la_12, la_21, la_22, la_27, la_54, la_10, la_243, ml_4, ml_6, ml_27, ml_10, ml_3, false_or, or_false, true_or, or_true, or_self, if_false, if_true, not_true, not_false_iff, Option.bind_some, lt], by simp (disch := omega) only [f_X8_euler, m1, i1, e10, r2, q2, iL, iT, iE, iN, iZ, i0, cl, nL, yL, nT, yT, s1_i, ad_i, z0, c0, la_1, la_2, la_11, la_12, la_21, la_22, la_27, la_54, la_10, la_243, ml_4, ml_6, ml_27, ml_10, ml_3, false_or, or_false, true_or, or_true, or_self, if_false, if_true, not_true, not_false_iff, Option.bind_some, lt]⟩
end OPS4

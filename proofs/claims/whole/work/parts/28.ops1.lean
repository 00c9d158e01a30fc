/-! ===== the calls, one by one: both halves over one state ===== -/
theorem op_mk {M : Mem} {f g : Mem → Option (Int32 × Mem)} {n n' : Nat} {A A' : Arr} {x x' : Row} {P P' : List (Arr × Row)} {K K' : Nat → Option (Arr × Row)} {T T' : List Int32} {S S' : Nat → Option (List (Nat × Row))} (r : Int32) (hm : MI M n A x P K T S) (w' : WF n' A' x' P' K' T' S') (hf : ∃ M1, f M = some (r, M1) ∧ CI M1 n' A' x' P' K' T' S' ∧ ∀ b, 176 ≤ b → M1 b = M b) (hg : ∀ M1, MI M1 n A x P K T S → ∃ M2, g M1 = some (r, M2) ∧ MI M2 n' A' x' P' K' T' S' ∧ ∀ b, b < 176 → M2 b = M1 b) : ∃ r M1 M2, f M = some (r, M1) ∧ g M1 = some (r, M2) ∧ Inv M2 := by
  obtain ⟨M1, h1, h2, h3⟩ := hf
  obtain ⟨M2, h4, h5, h6⟩ := hg M1 (hm.frame h3)
  exact ⟨r, M1, M2, h1, h4, n', A', x', P', K', T', S', w', h2.frame w' h6, h5⟩
theorem op_no {M : Mem} {f g : Mem → Option (Int32 × Mem)} (h : Inv M) (r : Int32) (hf : f M = some (r, M)) (hg : g M = some (r, M)) : ∃ r M1 M2, f M = some (r, M1) ∧ g M1 = some (r, M2) ∧ Inv M2 := ⟨r, M, M, hf, hg, h⟩
section OPS
variable {M M' : Mem} {n : Nat} {A A' : Arr} {x x' : Row} {P P' : List (Arr × Row)} {K K' : Nat → Option (Arr × Row)} {T T' : List Int32} {S S' : Nat → Option (List (Nat × Row))}
theorem CI.past (w : WF n A x P K T S) (hc : CI M n A x P K T S) (hq : CQ M' 1 n A x') (hp : CP M' n P') (e : ∀ b, (b = 0 ∨ 5 ≤ b) → (b < 9 ∨ 43 ≤ b) → M' b = M b) : CI M' n A x' P' K T S :=
  ⟨hq, hp, hc.2.2.1.on (e _ (by omega) (by omega)) (fun b _ _ => e b (by omega) (by omega)), hc.2.2.2.1.on (e _ (by omega) (by omega)) (e _ (by omega) (by omega)), hc.2.2.2.2.1.on (fun s l hs hl => (w.2.2.2.2.2.2 s l hs hl).1) (fun b _ _ => e b (by omega) (by omega)), hc.2.2.2.2.2.1.on w.1.2 (by rw [e 0 (by omega) (by omega)]) (fun b _ _ => e b (by omega) (by omega)), hc.2.2.2.2.2.2.on (by rw [e 0 (by omega) (by omega)]) (fun b _ _ => e b (by omega) (by omega))⟩
theorem CI.chg (w : WF n A x P K T S) (hc : CI M n A x P K T S) (hq : CQ M' 1 n A' x') (hp : CP M' n P') (h1 : M' 0 11 = 1) (h2 : M' 0 12 = 1) (e : ∀ b, 5 ≤ b → (b < 9 ∨ 43 ≤ b) → M' b = M b) : CI M' n A' x' P' K T S :=
  ⟨hq, hp, hc.2.2.1.on (e _ (by omega) (by omega)) (fun b _ _ => e b (by omega) (by omega)), hc.2.2.2.1.on (e _ (by omega) (by omega)) (e _ (by omega) (by omega)), hc.2.2.2.2.1.on (fun s l hs hl => (w.2.2.2.2.2.2 s l hs hl).1) (fun b _ _ => e b (by omega) (by omega)), Or.inl h1, Or.inl h2⟩
theorem x7_changed : f_X7_arrowsChanged M = some (um (um M 0 11 1) 0 12 1) := rfl
/-- the reference's half, its row and its past having changed alone -/
theorem MI.past (w : WF n A x P K T S) (hm : MI M n A x P K T S) (hq : RQ (M' 177) 0 A x') (hp : MP M' P') (e : ∀ c, 176 ≤ c → c ≠ 176 → c ≠ 177 → M' c = M c) (e6 : ∀ j, j ≠ 2 → M' 176 j = M 176 j) (e7 : ∀ q, 243 ≤ q → M' 177 q = M 177 q) : MI M' n A x' P' K T S := by
  obtain ⟨h1, h2, h3, h4, h5, h6, h7, h8⟩ := hm
  refine ⟨by rw [e6 0 (by omega)]; exact h1, hq, hp, fun k hk => ?_, ?_, ?_, ?_, ?_⟩
  · rw [e 178 (by omega) (by omega) (by omega)]
    rcases h4 k hk with h | ⟨q, q1, q2, q3⟩
    · exact Or.inl h
    · exact Or.inr ⟨q, q1, q2, q3.mv (w.2.2.2.2.1 k q hk q1).1.1 (fun i hi => e7 _ (by omega))⟩
  · unfold MT; rw [e6 5 (by omega), e 179 (by omega) (by omega) (by omega)]; exact h5
  · unfold MS; rw [e 180 (by omega) (by omega) (by omega), e 181 (by omega) (by omega) (by omega), e 182 (by omega) (by omega) (by omega)]; exact h6
  · unfold MN KnowsOK; rw [e6 13 (by omega), e6 12 (by omega), e 183 (by omega) (by omega) (by omega), e 184 (by omega) (by omega) (by omega), e 185 (by omega) (by omega) (by omega)]; exact h7
  · unfold MC; rw [e 186 (by omega) (by omega) (by omega), e 190 (by omega) (by omega) (by omega)]; exact h8
theorem MI.chg (w : WF n A x P K T S) (hm : MI M n A x P K T S) (hq : RQ (M' 177) 0 A' x') (hp : MP M' P') (e : ∀ c, 176 ≤ c → c ≠ 176 → c ≠ 177 → c ≠ 187 → c ≠ 188 → M' c = M c) (e6 : ∀ j, j ≠ 2 → j ≠ 13 → j ≠ 18 → M' 176 j = M 176 j) (h13 : M' 176 13 = 0) (e7 : ∀ q, 243 ≤ q → M' 177 q = M 177 q) : MI M' n A' x' P' K T S := by
  obtain ⟨h1, h2, h3, h4, h5, h6, h7, h8⟩ := hm
  refine ⟨by rw [e6 0 (by omega) (by omega) (by omega)]; exact h1, hq, hp, fun k hk => ?_, ?_, ?_, Or.inl h13, ?_⟩
  · rw [e 178 (by omega) (by omega) (by omega) (by omega) (by omega)]
    rcases h4 k hk with h | ⟨q, q1, q2, q3⟩
    · exact Or.inl h
    · exact Or.inr ⟨q, q1, q2, q3.mv (w.2.2.2.2.1 k q hk q1).1.1 (fun i hi => e7 _ (by omega))⟩
  · unfold MT; rw [e6 5 (by omega) (by omega) (by omega), e 179 (by omega) (by omega) (by omega) (by omega) (by omega)]; exact h5
  · unfold MS; rw [e 180 (by omega) (by omega) (by omega) (by omega) (by omega), e 181 (by omega) (by omega) (by omega) (by omega) (by omega), e 182 (by omega) (by omega) (by omega) (by omega) (by omega)]; exact h6
  · unfold MC; rw [e 186 (by omega) (by omega) (by omega) (by omega) (by omega), e 190 (by omega) (by omega) (by omega) (by omega) (by omega)]; exact h8
theorem OKA.len {n : Nat} {A : Arr} (h : OKA n A) : A.length ≤ 10 := h.1
theorem WF.pastA (w : WF n A x P K T S) : ∀ e ∈ P, e.1.length ≤ 10 := fun e he => (w.2.2.2.1.2 e he).1.1
theorem psh_mem {P : List (Arr × Row)} {e q : Arr × Row} (h : q ∈ psh P e) : q = e ∨ q ∈ P := by
  unfold psh at h
  by_cases h8 : P.length = 8
  · rw [if_pos h8, List.mem_append] at h
    rcases h with h | h
    · exact Or.inr (List.mem_of_mem_drop h)
    · exact Or.inl (by simpa using h)
  · rw [if_neg h8, List.mem_append] at h
    rcases h with h | h
    · exact Or.inr h
    · exact Or.inl (by simpa using h)
/-- the state behind a deed: the past has grown -/
theorem WF.deed (w : WF n A x P K T S) (hA : OKA n A') (hx : OKR n x') : WF n A' x' (psh P (A, x)) K T S := by
  obtain ⟨h1, h2, h3, h4, h5, h6, h7⟩ := w
  refine ⟨h1, hA, hx, ⟨by rw [psh_len h4.1]; omega, fun e he => ?_⟩, h5, h6, h7⟩
  rcases psh_mem he with rfl | h
  · exact ⟨h2, h3⟩
  · exact h4.2 e h
theorem x7_bndY {v : Int32} (h : -99 ≤ v ∧ v ≤ 99) : f_X7_isWithinBounds v M = some 1 := by
  unfold f_X7_isWithinBounds
  have h1 := (fa_le _ _).mp h.1
  have h2 := (fa_le _ _).mp h.2
  have h3 : ¬ v < -99 := by rw [fa_lt]; omega
  first
    | rw [if_neg h3, if_neg (by rw [fa_lt]; omega)]
    | rw [if_neg h3, if_pos h.2]
    | rw [if_pos h.1, if_pos h.2]
theorem x7_bndN {v : Int32} (h : ¬ (-99 ≤ v ∧ v ≤ 99)) : f_X7_isWithinBounds v M = some 0 := by
  unfold f_X7_isWithinBounds
  by_cases h1 : v < -99
  · rw [if_pos h1]
  · have h4 : -99 ≤ v := by rw [fa_le]; rw [fa_lt] at h1; omega
    have h2 : ¬ v ≤ 99 := fun q => h ⟨h4, q⟩
    first
      | rw [if_neg h1, if_pos (by rw [fa_lt]; rw [fa_le] at h2; omega)]
      | rw [if_neg h1, if_neg h2]
theorem op_set (h : Inv M) (i v : Int32) : ∃ r M1 M2, f_X7_set i v M = some (r, M1) ∧ f_X8_set i v M1 = some (r, M2) ∧ Inv M2 := by
  obtain ⟨n, A, x, P, K, T, S, w, hc, hm⟩ := id h
  have hn6 := w.1.2
  have hnc := hc.1.1
  have hno : (i < 0 ∨ nI n ≤ i) → ∃ r M1 M2, f_X7_set i v M = some (r, M1) ∧ f_X8_set i v M1 = some (r, M2) ∧ Inv M2 := fun hi => op_no (f := f_X7_set i v) (g := f_X8_set i v) h (-1000001) (by unfold f_X7_set; rw [x2_hasPointN hnc hi]; rfl) (by unfold f_X8_set; rw [x8_isPointN hm.1 w.1.1 hn6 hi]; rfl)
  rcases pk_ix i (n := n) (by omega) with hi | hi | ⟨j, hj, rfl⟩
  · exact hno (Or.inl hi)
  · exact hno (Or.inr hi)
  · have e1 : f_X2_hasPoint 1 (nI j) M = some 1 := x2_hasPoint hnc hn6 j hj
    by_cases hv : -99 ≤ v ∧ v ≤ 99
    · have hx' : OKR n (upd x j v) := ⟨fun q hq => by
        by_cases hqj : q = j
        · subst hqj; rw [pk_us]; exact (bnd_iff v).mp hv
        · rw [pk_un hqj]; exact w.2.2.1.1 q hq, fun q hq h6 => by rw [pk_un (by omega)]; exact w.2.2.1.2 q hq h6⟩
      refine op_mk (f := f_X7_set (nI j) v) (g := f_X8_set (nI j) v) (x j) hm (w.deed w.2.1 hx') ?_ (fun M1 hm1 => ?_)
      · obtain ⟨M1, g1, g2, g3⟩ := x1_remember hc.1 w.2.1.1 hc.2.1 w.2.2.2.1.1
        have hq1 := hc.1.on (M' := M1) (fun b _ _ => g3 b (by omega))
        refine ⟨um M1 4 j v, ?_, hc.past w ⟨?_, ?_, fun k a b hk => ?_, fun q hq => ?_⟩ (g2.on (fun b _ _ => um_a (by omega))) (fun b b1 b2 => by rw [um_a (by omega)]; exact g3 b (by omega)), fun b hb => by rw [um_a (by omega)]; exact g3 b (by omega)⟩
        · have e4 : M1 4 j = x j := hq1.2.2.2 j (by omega)
          have e10 : ¬ (1 : Int32) = 0 := by decide
          simp (disch := omega) only [f_X7_set, e1, x7_bndY hv, g1, e4, e10, iL, iT, iE, iN, iZ, i0, cl, nL, yL, nT, yT, s1_i, ad_i, z0, c0, la_1, la_2, la_11, la_12, la_21, la_22, la_27, la_54, la_10, la_243, ml_4, ml_6, ml_27, ml_10, ml_3, false_or, or_false, true_or, or_true, or_self, if_false, if_true, not_true, not_false_iff, Option.bind_some, lt]
        · rw [um_a (by omega)]; exact hq1.1
        · rw [um_a (by omega)]; exact hq1.2.1
        · rw [um_a (by omega), um_a (by omega)]; exact hq1.2.2.1 k a b hk
        · show um M1 4 j v 4 q = _
          by_cases hqj : q = j
          · subst hqj; rw [um_s, pk_us]
          · rw [um_k hqj, pk_un hqj]; exact hq1.2.2.2 q hq
      · obtain ⟨M2, g1, g2, g3, g4, g5⟩ := x8_keepPast hm1.2.1 w.2.1.1 hm1.2.2.1 w.2.2.2.1.1 w.pastA
        have hq1 : RQ (M2 177) 0 A x := hm1.2.1.mv w.2.1.1 (fun q hq => g5 _ (by omega))
        have e4 : M2 177 (21 + j) = x j := by have := hq1.2.2 j (by omega); rw [Nat.zero_add] at this; exact this
        refine ⟨um M2 177 (21 + j) v, ?_, hm1.past w ⟨?_, fun k a b hk => ?_, fun q hq => ?_⟩ ⟨by rw [um_a (by omega)]; exact g2.1, fun k e he => ?_⟩ (fun c _ c1 c2 => by rw [um_a c2]; exact g3 c c1 c2) (fun k hk => by rw [um_a (by omega)]; exact g4 k hk) (fun q hq => by rw [um_k (by omega)]; exact g5 q (by omega)), fun b hb => by rw [um_a (by omega)]; exact g3 b (by omega) (by omega)⟩
        · have e10 : ¬ (1 : Int32) = 0 := by decide
          simp (disch := omega) only [f_X8_set, x8_isPoint hm1.1 hn6 j hj, x8_inY (L := -99) (lo := -99) (H := 99) (hi := 99) (by decide) (by decide) hv, g1, e4, e10, iL, iT, iE, iN, iZ, i0, cl, nL, yL, nT, yT, s1_i, ad_i, z0, c0, la_1, la_2, la_11, la_12, la_21, la_22, la_27, la_54, la_10, la_243, ml_4, ml_6, ml_27, ml_10, ml_3, false_or, or_false, true_or, or_true, or_self, if_false, if_true, not_true, not_false_iff, Option.bind_some, lt]
        · rw [um_k (by omega)]; exact hq1.1
        · have hkl := (List.getElem?_eq_some_iff.mp hk).1
          have := w.2.1.1
          rw [um_k (by omega), um_k (by omega)]; exact hq1.2.1 k a b hk
        · rw [Nat.zero_add]
          by_cases hqj : q = j
          · subst hqj; rw [um_s, pk_us]
          · rw [um_k (by omega), pk_un hqj]
            have := hq1.2.2 q hq
            rw [Nat.zero_add] at this
            exact this
        · refine (g2.2 k e he).mv ?_ (fun q hq => by rw [um_k (by omega)])
          rcases psh_mem (List.mem_of_getElem? he) with rfl | h9
          · exact w.2.1.1
          · exact w.pastA e h9
    · have e10 : ¬ (1 : Int32) = 0 := by decide
      exact op_no (f := f_X7_set (nI j) v) (g := f_X8_set (nI j) v) h (-1000002) (by simp (disch := omega) only [f_X7_set, e1, x7_bndN hv, e10, iL, iT, iE, iN, iZ, i0, cl, nL, yL, nT, yT, s1_i, ad_i, z0, c0, la_1, la_2, la_11, la_12, la_21, la_22, la_27, la_54, la_10, la_243, ml_4, ml_6, ml_27, ml_10, ml_3, false_or, or_false, true_or, or_true, or_self, if_false, if_true, not_true, not_false_iff, Option.bind_some, lt]) (by simp (disch := omega) only [f_X8_set, x8_isPoint hm.1 hn6 j hj, x8_inN (L := -99) (lo := -99) (H := 99) (hi := 99) (by decide) (by decide) hv, e10, iL, iT, iE, iN, iZ, i0, cl, nL, yL, nT, yT, s1_i, ad_i, z0, c0, la_1, la_2, la_11, la_12, la_21, la_22, la_27, la_54, la_10, la_243, ml_4, ml_6, ml_27, ml_10, ml_3, false_or, or_false, true_or, or_true, or_self, if_false, if_true, not_true, not_false_iff, Option.bind_some, lt])
end OPS

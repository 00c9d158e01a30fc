/-! ===== keep, back, write, erase, arrow, turned ===== -/
section OPS3
variable {M M' : Mem} {n : Nat} {A A' : Arr} {x x' : Row} {P P' : List (Arr × Row)} {K K' : Nat → Option (Arr × Row)} {T T' : List Int32} {S S' : Nat → Option (List (Nat × Row))}
theorem CI.cS (w : WF n A x P K T S) (hc : CI M n A x P K T S) : ∀ s l, s < 3 → S s = some l → l.length ≤ 4 := fun s l hs hl => (w.2.2.2.2.2.2 s l hs hl).1
theorem x7_isKeep {k : Nat} (hk : k < 2) : f_X7_isKeep (nI k) M = some 1 := by
  have e2 : (2 : Int32) = nI 2 := rfl
  unfold f_X7_isKeep
  rw [e2]
  simp (disch := omega) only [iL, iT, iE, iN, iZ, i0, cl, nL, yL, nT, yT, s1_i, ad_i, z0, c0, la_1, la_2, la_11, la_12, la_21, la_22, la_27, la_54, la_10, la_243, ml_4, ml_6, ml_27, ml_10, ml_3, false_or, or_false, true_or, or_true, or_self, if_false, if_true, not_true, not_false_iff, Option.bind_some, lt]
theorem x7_isKeepN {i : Int32} (h : i < 0 ∨ nI 2 ≤ i) : f_X7_isKeep i M = some 0 := by
  unfold f_X7_isKeep
  by_cases h0 : i < 0
  · rw [if_pos h0]
  · rw [if_neg h0, show (2 : Int32) = nI 2 from rfl, if_pos (h.resolve_left h0)]
theorem x8_in2 {k m : Nat} {H : Int64} (hm1 : m ≤ 255) (hH : H = (nI m).toInt64) (hk : k ≤ m) : f_X8_in (nI k).toInt64 0 H M = some 1 :=
  x8_inY (L := 0) (lo := 0) (hi := nI m) (by decide) hH ⟨(iZ (by omega)).mpr trivial, (iL (by omega) (by omega)).mpr hk⟩
theorem x8_in2N {i : Int32} {m : Nat} {H : Int64} (hm1 : m ≤ 255) (hH : H = (nI m).toInt64) (h : i < 0 ∨ nI (m + 1) ≤ i) : f_X8_in i.toInt64 0 H M = some 0 := by
  refine x8_inN (L := 0) (lo := 0) (hi := nI m) (by decide) hH (fun q => ?_)
  have q1 := (fa_le _ _).mp q.1
  have q2 := (fa_le _ _).mp q.2
  rw [nI_toInt (by omega)] at q2
  have e2 : (0 : Int32).toInt = 0 := rfl
  rcases h with h | h
  · have := (fa_lt _ _).mp h; omega
  · have := (fa_le _ _).mp h; rw [nI_toInt (by omega)] at this; omega
theorem op_keep (h : Inv M) (i : Int32) : ∃ r M1 M2, f_X7_keep i M = some (r, M1) ∧ f_X8_keep i M1 = some (r, M2) ∧ Inv M2 := by
  obtain ⟨n, A, x, P, K, T, S, w, hc, hm⟩ := id h
  have hn6 := w.1.2
  have hA := w.2.1
  have hl := hA.1
  have hno : (i < 0 ∨ nI 2 ≤ i) → ∃ r M1 M2, f_X7_keep i M = some (r, M1) ∧ f_X8_keep i M1 = some (r, M2) ∧ Inv M2 := fun hi => op_no (f := f_X7_keep i) (g := f_X8_keep i) h (-1000001) (by unfold f_X7_keep; rw [x7_isKeepN hi]; rfl) (by unfold f_X8_keep; rw [x8_in2N (m := 1) (H := 1) (by omega) rfl hi]; rfl)
  rcases pk_ix i (n := 2) (by omega) with hi | hi | ⟨k, hk, rfl⟩
  · exact hno (Or.inl hi)
  · exact hno (Or.inr hi)
  have w' : WF n A x P (fun j => if j = k then some (A, x) else K j) T S := by
    obtain ⟨h1, h2, h3, h4, h5, h6⟩ := w
    refine ⟨h1, h2, h3, h4, fun j e hj he => ?_, h6⟩
    have he : (if j = k then some (A, x) else K j) = some e := he
    by_cases hjk : j = k
    · rw [if_pos hjk] at he
      cases he
      exact ⟨h2, h3⟩
    · rw [if_neg hjk] at he
      exact h5 j e hj he
  refine op_mk (f := f_X7_keep (nI k)) (g := f_X8_keep (nI k)) (nI A.length) hm w' ?_ (fun M1 hm1 => ?_)
  · obtain ⟨M1, g1, g2, g3⟩ := x2_become (a := 147 + 4 * k) hc.1 hl (by omega)
    have hM : ∀ b, b ≠ 44 → (b < 147 + 4 * k ∨ 147 + 4 * k + 3 < b) → um M1 44 k 1 b = M b := fun b b1 b2 => by rw [um_a b1, g3 b b2]
    refine ⟨um M1 44 k 1, ?_, ⟨hc.1.on (fun b _ _ => hM b (by omega) (by omega)), hc.2.1.on (fun b _ _ => hM b (by omega) (by omega)), fun j hj => ?_, hc.2.2.2.1.on (hM _ (by omega) (by omega)) (hM _ (by omega) (by omega)), hc.2.2.2.2.1.on (hc.cS w) (fun b _ _ => hM b (by omega) (by omega)), hc.2.2.2.2.2.1.on hn6 (by rw [hM 0 (by omega) (by omega)]) (fun b _ _ => hM b (by omega) (by omega)), hc.2.2.2.2.2.2.on (by rw [hM 0 (by omega) (by omega)]) (fun b _ _ => hM b (by omega) (by omega))⟩, fun b hb => hM b (by omega) (by omega)⟩
    · have e11 : M1 1 1 = nI A.length := by rw [g3 1 (by omega)]; exact hc.1.2.1
      simp (disch := omega) only [f_X7_keep, x7_isKeep hk, e10, g1, um_a, e11, iL, iT, iE, iN, iZ, i0, cl, nL, yL, nT, yT, s1_i, ad_i, z0, c0, la_1, la_2, la_11, la_12, la_21, la_22, la_27, la_54, la_10, la_243, ml_4, ml_6, ml_27, ml_10, ml_3, false_or, or_false, true_or, or_true, or_self, if_false, if_true, not_true, not_false_iff, Option.bind_some, lt]
    · by_cases hjk : j = k
      · subst hjk
        exact Or.inr ⟨(A, x), by simp, um_s, g2.on (fun b _ _ => um_a (by omega))⟩
      · rw [um_k hjk, g3 44 (by omega)]
        rcases hc.2.2.1 j hj with ⟨q1, q2⟩ | ⟨e, q1, q2, q3⟩
        · exact Or.inl ⟨by simp [hjk, q1], q2⟩
        · exact Or.inr ⟨e, by simp [hjk, q1], q2, q3.on (fun b _ _ => hM b (by omega) (by omega))⟩
  · obtain ⟨M2, g1, g2, g3, g4⟩ := x8_copyRow (M := M1) 0 (243 + 27 * k) (by omega) (by omega) (by omega)
    have h0 : M1 177 0 = nI A.length := hm1.2.1.1
    obtain ⟨q1, q2, q3, q4, q5, q6, q7, q8⟩ := hm1
    refine ⟨um M2 178 k 1, ?_, ⟨?_, ?_, ?_, fun j hj => ?_, ?_, ?_, ?_, ?_⟩, fun b hb => by rw [um_a (by omega), g2 b (by omega)]⟩
    · have e0 : (0 : Int32) = nI 0 := rfl
      have e02 : M2 177 0 = nI A.length := by rw [g4 0 (by omega)]; exact h0
      have hin := x8_in2 (M := M1) (m := 1) (H := 1) (by omega) rfl (show k ≤ 1 by omega)
      have g1' : f_X8_copyRow 0 (nI (243 + 27 * k)) M1 = some M2 := g1
      simp (disch := omega) only [f_X8_keep, hin, e10, g1', um_a, e02, iL, iT, iE, iN, iZ, i0, cl, nL, yL, nT, yT, s1_i, ad_i, z0, c0, la_1, la_2, la_11, la_12, la_21, la_22, la_27, la_54, la_10, la_243, ml_4, ml_6, ml_27, ml_10, ml_3, false_or, or_false, true_or, or_true, or_self, if_false, if_true, not_true, not_false_iff, Option.bind_some, lt]
    · rw [um_a (by omega), g2 176 (by omega)]; exact q1
    · rw [um_a (by omega)]; exact q2.mv hl (fun q hq => g4 _ (by omega))
    · refine ⟨by rw [um_a (by omega), g2 176 (by omega)]; exact q3.1, fun j e he => ?_⟩
      rw [um_a (by omega)]
      have hjl := (List.getElem?_eq_some_iff.mp he).1
      have := w.2.2.2.1.1
      exact (q3.2 j e he).mv (w.pastA e (List.mem_of_getElem? he)) (fun q hq => g4 _ (by omega))
    · by_cases hjk : j = k
      · subst hjk
        exact Or.inr ⟨(A, x), by simp, um_s, by rw [um_a (by omega)]; exact q2.mv hl (fun q hq => by rw [g3 q hq])⟩
      · rw [um_k hjk, g2 178 (by omega)]
        rcases q4 j hj with ⟨a1, a2⟩ | ⟨e, a1, a2, a3⟩
        · exact Or.inl ⟨by simp [hjk, a1], a2⟩
        · refine Or.inr ⟨e, by simp [hjk, a1], a2, ?_⟩
          rw [um_a (by omega)]
          exact a3.mv (w.2.2.2.2.1 j e hj a1).1.1 (fun q hq => g4 _ (by omega))
    · unfold MT; rw [um_a (by omega), um_a (by omega), g2 176 (by omega), g2 179 (by omega)]; exact q5
    · unfold MS; rw [um_a (by omega), um_a (by omega), um_a (by omega), g2 180 (by omega), g2 181 (by omega), g2 182 (by omega)]; exact q6
    · unfold MN KnowsOK; rw [um_a (by omega), um_a (by omega), um_a (by omega), um_a (by omega), g2 176 (by omega), g2 183 (by omega), g2 184 (by omega), g2 185 (by omega)]; exact q7
    · unfold MC; rw [um_a (by omega), um_a (by omega), g2 186 (by omega), g2 190 (by omega)]; exact q8
theorem op_back (h : Inv M) (i : Int32) : ∃ r M1 M2, f_X7_back i M = some (r, M1) ∧ f_X8_back i M1 = some (r, M2) ∧ Inv M2 := by
  obtain ⟨n, A, x, P, K, T, S, w, hc, hm⟩ := id h
  have hn6 := w.1.2
  have hno : (i < 0 ∨ nI 2 ≤ i) → ∃ r M1 M2, f_X7_back i M = some (r, M1) ∧ f_X8_back i M1 = some (r, M2) ∧ Inv M2 := fun hi => op_no (f := f_X7_back i) (g := f_X8_back i) h (-1000001) (by unfold f_X7_back; rw [x7_isKeepN hi]; rfl) (by unfold f_X8_back; rw [x8_in2N (m := 1) (H := 1) (by omega) rfl hi]; rfl)
  rcases pk_ix i (n := 2) (by omega) with hi | hi | ⟨k, hk, rfl⟩
  · exact hno (Or.inl hi)
  · exact hno (Or.inr hi)
  have hin : ∀ M1 : Mem, f_X8_in (nI k).toInt64 0 1 M1 = some 1 := fun M1 => x8_in2 (m := 1) (by omega) rfl (show k ≤ 1 by omega)
  rcases hc.2.2.1 k hk with ⟨k1, k2⟩ | ⟨e, k1, k2, k3⟩
  · have hmk : M 178 k = 0 := by
      rcases hm.2.2.2.1 k hk with ⟨a1, a2⟩ | ⟨e, a1, a2, a3⟩
      · exact a2
      · rw [k1] at a1; cases a1
    exact op_no (f := f_X7_back (nI k)) (g := f_X8_back (nI k)) h (-1000003) (by simp (disch := omega) only [f_X7_back, x7_isKeep hk, e10, k2, iL, iT, iE, iN, iZ, i0, cl, nL, yL, nT, yT, s1_i, ad_i, z0, c0, la_1, la_2, la_11, la_12, la_21, la_22, la_27, la_54, la_10, la_243, ml_4, ml_6, ml_27, ml_10, ml_3, false_or, or_false, true_or, or_true, or_self, if_false, if_true, not_true, not_false_iff, Option.bind_some, lt]) (by simp (disch := omega) only [f_X8_back, hin, e10, hmk, iL, iT, iE, iN, iZ, i0, cl, nL, yL, nT, yT, s1_i, ad_i, z0, c0, la_1, la_2, la_11, la_12, la_21, la_22, la_27, la_54, la_10, la_243, ml_4, ml_6, ml_27, ml_10, ml_3, false_or, or_false, true_or, or_true, or_self, if_false, if_true, not_true, not_false_iff, Option.bind_some, lt])
  have he := w.2.2.2.2.1 k e hk k1
  have hl := he.1.1
  have w' : WF n e.1 e.2 [] K T S := ⟨w.1, he.1, he.2, ⟨by simp, fun q hq => by cases hq⟩, w.2.2.2.2⟩
  refine op_mk (f := f_X7_back (nI k)) (g := f_X8_back (nI k)) (nI e.1.length) hm w' ?_ (fun M1 hm1 => ?_)
  · obtain ⟨M1, g1, g2, g3⟩ := x2_become (a := 1) k3 hl (by omega)
    have hq2 : CQ (um M1 9 2 0) 1 n e.1 e.2 := g2.on (fun b _ _ => um_a (by omega))
    obtain ⟨nx, n1, n2, n3⟩ := hc.2.1.2
    have hp2 : CP (um M1 9 2 0) n [] := ⟨um_s, nx, n1, by rw [um_k (by omega), g3 9 (by omega)]; exact n2, fun j q hq => by simp at hq⟩
    refine ⟨_, ?_, hc.done w hq2 hp2 (fun b b1 b2 => by rw [um_a (by omega), g3 b (by omega)]), fun b hb => by rw [um_a (by omega), um_a (by omega), um_a (by omega), g3 b (by omega)]⟩
    simp (disch := omega) only [f_X7_back, x7_isKeep hk, e10, k2, g1, f_X1_forget, x7_changed, um_a, g2.2.1, iL, iT, iE, iN, iZ, i0, cl, nL, yL, nT, yT, s1_i, ad_i, z0, c0, la_1, la_2, la_11, la_12, la_21, la_22, la_27, la_54, la_10, la_243, ml_4, ml_6, ml_27, ml_10, ml_3, false_or, or_false, true_or, or_true, or_self, if_false, if_true, not_true, not_false_iff, Option.bind_some, lt]
  · have hmk : M1 178 k = 1 ∧ RQ (M1 177) (243 + 27 * k) e.1 e.2 := by
      rcases hm1.2.2.2.1 k hk with ⟨a1, a2⟩ | ⟨e', a1, a2, a3⟩
      · rw [k1] at a1; cases a1
      · rw [k1] at a1; cases a1; exact ⟨a2, a3⟩
    obtain ⟨M2, g1, g2, g3, g4⟩ := x8_copyRow (M := M1) (243 + 27 * k) 0 (by omega) (by omega) (by omega)
    have hq2 : RQ (um M2 176 2 0 177) 0 e.1 e.2 := by rw [um_a (by omega)]; exact hmk.2.mv hl (fun q hq => g3 q hq)
    refine ⟨um (um M2 176 2 0) 176 13 0, ?_, hm1.done w hq2 ⟨um_s, fun j q hj => by simp at hj⟩ (fun c c0 c1 c2 c3 c4 => by rw [um_a c1, g2 c c2]) (fun j j1 j2 j3 => by rw [um_k j1, g2 176 (by omega)]) (fun q hq => by rw [um_a (by omega), g4 q (by omega)]), fun b hb => by rw [um_a (by omega), um_a (by omega), g2 b (by omega)]⟩
    have e02 : M2 177 0 = nI e.1.length := by have := hq2.1; rw [um_a (by omega)] at this; exact this
    have g1' : f_X8_copyRow (nI (243 + 27 * k)) 0 M1 = some M2 := g1
    simp (disch := omega) only [f_X8_back, hin, e10, hmk.1, g1', um_a, e02, iL, iT, iE, iN, iZ, i0, cl, nL, yL, nT, yT, s1_i, ad_i, z0, c0, la_1, la_2, la_11, la_12, la_21, la_22, la_27, la_54, la_10, la_243, ml_4, ml_6, ml_27, ml_10, ml_3, false_or, or_false, true_or, or_true, or_self, if_false, if_true, not_true, not_false_iff, Option.bind_some, lt]
theorem CI.text (w : WF n A x P K T S) (hc : CI M n A x P K T S) (ht : CT M' T') (e : ∀ b, b ≠ 45 → b ≠ 46 → M' b = M b) : CI M' n A x P K T' S :=
  ⟨hc.1.on (fun b _ _ => e b (by omega) (by omega)), hc.2.1.on (fun b _ _ => e b (by omega) (by omega)), hc.2.2.1.on (e _ (by omega) (by omega)) (fun b _ _ => e b (by omega) (by omega)), ht, hc.2.2.2.2.1.on (hc.cS w) (fun b _ _ => e b (by omega) (by omega)), hc.2.2.2.2.2.1.on w.1.2 (by rw [e 0 (by omega) (by omega)]) (fun b _ _ => e b (by omega) (by omega)), hc.2.2.2.2.2.2.on (by rw [e 0 (by omega) (by omega)]) (fun b _ _ => e b (by omega) (by omega))⟩
theorem MI.text (hm : MI M n A x P K T S) (ht : MT M' T') (e : ∀ b, b ≠ 176 → b ≠ 179 → M' b = M b) (e6 : ∀ j, j ≠ 5 → M' 176 j = M 176 j) : MI M' n A x P K T' S := by
  unfold MI MP MK MS MN KnowsOK MC at hm ⊢
  rw [e6 0 (by omega), e6 2 (by omega), e6 12 (by omega), e6 13 (by omega), e 177 (by omega) (by omega), e 178 (by omega) (by omega), e 180 (by omega) (by omega), e 181 (by omega) (by omega), e 182 (by omega) (by omega), e 183 (by omega) (by omega), e 184 (by omega) (by omega), e 185 (by omega) (by omega), e 186 (by omega) (by omega), e 190 (by omega) (by omega)]
  obtain ⟨q1, q2, q3, q4, q5, q6⟩ := hm
  exact ⟨q1, q2, q3, q4, ht, q6⟩
theorem op_write (h : Inv M) (i : Int32) : ∃ r M1 M2, f_X7_write i M = some (r, M1) ∧ f_X8_write i M1 = some (r, M2) ∧ Inv M2 := by
  obtain ⟨n, A, x, P, K, T, S, w, hc, hm⟩ := id h
  have hT := w.2.2.2.2.2.1
  have hcl : M 45 1 = nI T.length := hc.2.2.2.1.1
  have hml : M 176 5 = nI T.length := hm.2.2.2.2.1.1
  have e255 : (255 : Int32) = nI 255 := rfl
  have e200 : (200 : Int32) = nI 200 := rfl
  rcases pk_ix i (n := 256) (by omega) with hi | hi | ⟨c, hcc, rfl⟩
  · exact op_no (f := f_X7_write i) (g := f_X8_write i) h (-1000002) (by unfold f_X7_write; rw [if_pos hi]) (by unfold f_X8_write; rw [x8_in2N (m := 255) (H := 255) (by omega) rfl (Or.inl hi)]; rfl)
  · refine op_no (f := f_X7_write i) (g := f_X8_write i) h (-1000002) ?_ (by unfold f_X8_write; rw [x8_in2N (m := 255) (H := 255) (by omega) rfl (Or.inr hi)]; rfl)
    have := (fa_le _ _).mp hi
    rw [nI_toInt (by omega)] at this
    unfold f_X7_write
    rw [if_neg (by rw [fa_lt, show (0 : Int32).toInt = 0 from rfl]; omega), if_neg (by rw [fa_le, show (255 : Int32).toInt = 255 from rfl]; omega)]
  have c1 : nI c ≤ 255 ↔ True := by rw [e255, iL (by omega) (by omega)]; exact iff_of_true (by omega) trivial
  have hin : ∀ M1 : Mem, f_X8_in (nI c).toInt64 0 255 M1 = some 1 := fun M1 => x8_in2 (m := 255) (by omega) rfl (show c ≤ 255 by omega)
  by_cases h200 : T.length = 200
  · have c2 : M 45 1 < 200 ↔ False := by rw [hcl, e200, iT (by omega) (by omega)]; exact iff_of_false (by omega) id
    have c3 : M 176 5 = 200 ↔ True := by rw [hml, e200, iE (by omega) (by omega)]; exact iff_of_true h200 trivial
    exact op_no (f := f_X7_write (nI c)) (g := f_X8_write (nI c)) h (-1000004) (by simp (disch := omega) only [f_X7_write, c1, c2, iL, iT, iE, iN, iZ, i0, cl, nL, yL, nT, yT, s1_i, ad_i, z0, c0, la_1, la_2, la_11, la_12, la_21, la_22, la_27, la_54, la_10, la_243, ml_4, ml_6, ml_27, ml_10, ml_3, false_or, or_false, true_or, or_true, or_self, if_false, if_true, not_true, not_false_iff, Option.bind_some, lt]) (by simp (disch := omega) only [f_X8_write, hin, e10, c3, iL, iT, iE, iN, iZ, i0, cl, nL, yL, nT, yT, s1_i, ad_i, z0, c0, la_1, la_2, la_11, la_12, la_21, la_22, la_27, la_54, la_10, la_243, ml_4, ml_6, ml_27, ml_10, ml_3, false_or, or_false, true_or, or_true, or_self, if_false, if_true, not_true, not_false_iff, Option.bind_some, lt])
  have w' : WF n A x P K (T ++ [nI c]) S := ⟨w.1, w.2.1, w.2.2.1, w.2.2.2.1, w.2.2.2.2.1, ⟨by simp; omega, fun d hd => by
    rcases List.mem_append.mp hd with hd | hd
    · exact hT.2 d hd
    · simp at hd; subst hd; rw [nI_toInt (by omega)]; omega⟩, w.2.2.2.2.2.2⟩
  have hlen : (T ++ [nI c]).length = T.length + 1 := by simp
  refine op_mk (f := f_X7_write (nI c)) (g := f_X8_write (nI c)) (nI (T.length + 1)) hm w' ?_ (fun M1 hm1 => ?_)
  · have c2 : nI T.length < 200 ↔ True := by rw [e200, iT (by omega) (by omega)]; exact iff_of_true (by omega) trivial
    refine ⟨um (um M 46 T.length (nI c)) 45 1 (nI (T.length + 1)), by simp (disch := omega) only [f_X7_write, c1, c2, hcl, um_a, um_s, iL, iT, iE, iN, iZ, i0, cl, nL, yL, nT, yT, s1_i, ad_i, z0, c0, la_1, la_2, la_11, la_12, la_21, la_22, la_27, la_54, la_10, la_243, ml_4, ml_6, ml_27, ml_10, ml_3, false_or, or_false, true_or, or_true, or_self, if_false, if_true, not_true, not_false_iff, Option.bind_some, lt], hc.text w ⟨by rw [um_s, hlen], fun j d hd => ?_⟩ (fun b b1 b2 => by rw [um_a b1, um_a b2]), fun b hb => by rw [um_a (by omega), um_a (by omega)]⟩
    rw [um_a (by omega)]
    have hjl := (List.getElem?_eq_some_iff.mp hd).1
    rw [hlen] at hjl
    by_cases hj : j = T.length
    · subst hj; rw [um_s]; simpa using hd
    · rw [um_k hj]
      rw [List.getElem?_append_left (by omega)] at hd
      exact hc.2.2.2.1.2 j d hd
  · have hml : M1 176 5 = nI T.length := hm1.2.2.2.2.1.1
    have c2 : nI T.length = 200 ↔ False := by rw [e200, iE (by omega) (by omega)]; exact iff_of_false (by omega) id
    refine ⟨um (um M1 179 T.length (nI c)) 176 5 (nI (T.length + 1)), by simp (disch := omega) only [f_X8_write, hin, e10, c2, hml, um_a, um_s, iL, iT, iE, iN, iZ, i0, cl, nL, yL, nT, yT, s1_i, ad_i, z0, c0, la_1, la_2, la_11, la_12, la_21, la_22, la_27, la_54, la_10, la_243, ml_4, ml_6, ml_27, ml_10, ml_3, false_or, or_false, true_or, or_true, or_self, if_false, if_true, not_true, not_false_iff, Option.bind_some, lt], hm1.text ⟨by rw [um_s, hlen], fun j d hd => ?_⟩ (fun b b1 b2 => by rw [um_a b1, um_a b2]) (fun j hj => by rw [um_k hj, um_a (by omega)]), fun b hb => by rw [um_a (by omega), um_a (by omega)]⟩
    rw [um_a (by omega)]
    have hjl := (List.getElem?_eq_some_iff.mp hd).1
    rw [hlen] at hjl
    by_cases hj : j = T.length
    · subst hj; rw [um_s]; simpa using hd
    · rw [um_k hj]
      rw [List.getElem?_append_left (by omega)] at hd
      exact hm1.2.2.2.2.1.2 j d hd
theorem op_erase (h : Inv M) : ∃ r M1 M2, f_X7_erase M = some (r, M1) ∧ f_X8_erase M1 = some (r, M2) ∧ Inv M2 := by
  obtain ⟨n, A, x, P, K, T, S, w, hc, hm⟩ := id h
  have hcl : M 45 1 = nI T.length := hc.2.2.2.1.1
  have w' : WF n A x P K [] S := ⟨w.1, w.2.1, w.2.2.1, w.2.2.2.1, w.2.2.2.2.1, ⟨by simp, fun d hd => by cases hd⟩, w.2.2.2.2.2.2⟩
  refine op_mk (f := f_X7_erase) (g := f_X8_erase) (nI T.length) hm w' ?_ (fun M1 hm1 => ?_)
  · exact ⟨um M 45 1 0, by simp only [f_X7_erase, hcl, lt], hc.text w ⟨um_s, fun j d hd => by simp at hd⟩ (fun b b1 b2 => um_a b1), fun b hb => um_a (by omega)⟩
  · have hml : M1 176 5 = nI T.length := hm1.2.2.2.2.1.1
    exact ⟨um M1 176 5 0, by simp only [f_X8_erase, hml, lt], hm1.text ⟨um_s, fun j d hd => by simp at hd⟩ (fun b b1 b2 => um_a b1) (fun j hj => um_k hj), fun b hb => um_a (by omega)⟩
theorem op_arrow (h : Inv M) (i e : Int32) : ∃ r, f_X7_arrow i e M = some r ∧ f_X8_arrow i e M = some r := by
  obtain ⟨n, A, x, P, K, T, S, w, hc, hm⟩ := id h
  have hA := w.2.1
  have hl := hA.1
  have hm0 : M 177 0 = nI A.length := hm.2.1.1
  have hno : (i < 0 ∨ nI A.length ≤ i) → ∃ r, f_X7_arrow i e M = some r ∧ f_X8_arrow i e M = some r := fun hi => ⟨-1000001, by unfold f_X7_arrow; rw [x2_hasArrowN hc.1.2.1 hi]; rfl, by simp (disch := omega) only [f_X8_arrow, hm0, x8_inAN hl hi, iL, iT, iE, iN, iZ, i0, cl, nL, yL, nT, yT, s1_i, ad_i, z0, c0, la_1, la_2, la_11, la_12, la_21, la_22, la_27, la_54, la_10, la_243, ml_4, ml_6, ml_27, ml_10, ml_3, false_or, or_false, true_or, or_true, or_self, if_false, if_true, not_true, not_false_iff, Option.bind_some, lt]⟩
  rcases pk_ix i (n := A.length) (by omega) with hi | hi | ⟨j, hj, rfl⟩
  · exact hno (Or.inl hi)
  · exact hno (Or.inr hi)
  have e1 : f_X2_hasArrow 1 (nI j) M = some 1 := x2_hasArrow hc.1.2.1 hl j hj
  have hin := x8_inA (M := M) hj hl
  have a1 := hc.1.at j hj
  have a2 := hm.2.1.at j hj
  rw [Nat.zero_add, Nat.zero_add] at a2
  have a11 : M 2 j = nI (fr A j) := a1.1
  have a12 : M 3 j = nI (tt A j) := a1.2
  have n10 : ¬ (1 : Int32) = 0 := by decide
  have z1 : ¬ ((1 : Int32) < 0) := by decide
  have z2 : (1 : Int32) ≤ 1 := by decide
  have z3 : (0 : Int32) ≤ 1 := by decide
  by_cases h0 : e = 0
  · subst h0
    exact ⟨nI (fr A j), by simp (disch := omega) only [f_X7_arrow, e1, e10, z3, a11, iL, iT, iE, iN, iZ, i0, cl, nL, yL, nT, yT, s1_i, ad_i, z0, c0, la_1, la_2, la_11, la_12, la_21, la_22, la_27, la_54, la_10, la_243, ml_4, ml_6, ml_27, ml_10, ml_3, false_or, or_false, true_or, or_true, or_self, if_false, if_true, not_true, not_false_iff, Option.bind_some, lt], by simp (disch := omega) only [f_X8_arrow, hm0, hin, e10, a2.1, iL, iT, iE, iN, iZ, i0, cl, nL, yL, nT, yT, s1_i, ad_i, z0, c0, la_1, la_2, la_11, la_12, la_21, la_22, la_27, la_54, la_10, la_243, ml_4, ml_6, ml_27, ml_10, ml_3, false_or, or_false, true_or, or_true, or_self, if_false, if_true, not_true, not_false_iff, Option.bind_some, lt]⟩
  by_cases h1 : e = 1
  · subst h1
    exact ⟨nI (tt A j), by simp (disch := omega) only [f_X7_arrow, e1, e10, z1, z2, a12, iL, iT, iE, iN, iZ, i0, cl, nL, yL, nT, yT, s1_i, ad_i, z0, c0, la_1, la_2, la_11, la_12, la_21, la_22, la_27, la_54, la_10, la_243, ml_4, ml_6, ml_27, ml_10, ml_3, false_or, or_false, true_or, or_true, or_self, if_false, if_true, not_true, not_false_iff, Option.bind_some, lt], by simp (disch := omega) only [f_X8_arrow, hm0, hin, e10, a2.2, iL, iT, iE, iN, iZ, i0, cl, nL, yL, nT, yT, s1_i, ad_i, z0, c0, la_1, la_2, la_11, la_12, la_21, la_22, la_27, la_54, la_10, la_243, ml_4, ml_6, ml_27, ml_10, ml_3, false_or, or_false, true_or, or_true, or_self, if_false, if_true, not_true, not_false_iff, Option.bind_some, lt]⟩
  refine ⟨-1000002, ?_, by simp (disch := omega) only [f_X8_arrow, hm0, hin, e10, h0, h1, iL, iT, iE, iN, iZ, i0, cl, nL, yL, nT, yT, s1_i, ad_i, z0, c0, la_1, la_2, la_11, la_12, la_21, la_22, la_27, la_54, la_10, la_243, ml_4, ml_6, ml_27, ml_10, ml_3, false_or, or_false, true_or, or_true, or_self, if_false, if_true, not_true, not_false_iff, Option.bind_some, lt]⟩
  by_cases hlt : e < 0
  · simp (disch := omega) only [f_X7_arrow, e1, e10, hlt, iL, iT, iE, iN, iZ, i0, cl, nL, yL, nT, yT, s1_i, ad_i, z0, c0, la_1, la_2, la_11, la_12, la_21, la_22, la_27, la_54, la_10, la_243, ml_4, ml_6, ml_27, ml_10, ml_3, false_or, or_false, true_or, or_true, or_self, if_false, if_true, not_true, not_false_iff, Option.bind_some, lt]
  · have hle : ¬ e ≤ 1 := by
      intro q
      have q1 := (fa_le _ _).mp q
      rw [show (1 : Int32).toInt = 1 from rfl] at q1
      have q2 : ¬ e.toInt < 0 := fun z => hlt ((fa_lt _ _).mpr z)
      have q3 : e.toInt ≠ 0 := fun z => h0 ((fa_eq _ _).mpr z)
      have q4 : e.toInt ≠ 1 := fun z => h1 ((fa_eq _ _).mpr z)
      omega
    simp (disch := omega) only [f_X7_arrow, e1, e10, hlt, hle, iL, iT, iE, iN, iZ, i0, cl, nL, yL, nT, yT, s1_i, ad_i, z0, c0, la_1, la_2, la_11, la_12, la_21, la_22, la_27, la_54, la_10, la_243, ml_4, ml_6, ml_27, ml_10, ml_3, false_or, or_false, true_or, or_true, or_self, if_false, if_true, not_true, not_false_iff, Option.bind_some, lt]
theorem op_turned (h : Inv M) (i : Int32) : ∃ r, f_X7_turned i M = some r ∧ f_X8_turned i M = some r := by
  obtain ⟨n, A, x, P, K, T, S, w, hc, hm⟩ := id h
  have hn6 := w.1.2
  have hA := w.2.1
  have hno : (i < 0 ∨ nI n ≤ i) → ∃ r, f_X7_turned i M = some r ∧ f_X8_turned i M = some r := fun hi => ⟨-1000001, by unfold f_X7_turned; rw [x2_hasPointN hc.1.1 hi]; rfl, by unfold f_X8_turned; rw [x8_isPointN hm.1 w.1.1 hn6 hi]; rfl⟩
  rcases pk_ix i (n := n) (by omega) with hi | hi | ⟨p, hp, rfl⟩
  · exact hno (Or.inl hi)
  · exact hno (Or.inr hi)
  have e1 : f_X2_hasPoint 1 (nI p) M = some 1 := x2_hasPoint hc.1.1 hn6 p hp
  have c3 : f_X2_turnedAbout 1 4 (nI p) M = some (trn A x p) := by rw [x2_turnedAbout hc.1 hA hn6 4 p hp, trn_congr hA hp (fun i hi => hc.1.2.2.2 i (by omega))]
  have c4 : f_X8_about (nI p) M = some (trn A x p) := by rw [x8_about hm.2.1 hA hn6 p hp, trn_congr (z := x) hA hp (fun i hi => (by have := hm.2.1.2.2 i (by omega); rw [Nat.zero_add] at this; exact this : M 177 (21 + i) = x i))]
  exact ⟨trn A x p, by simp only [f_X7_turned, e1, e10, c3, if_false, Option.bind_some], by simp only [f_X8_turned, x8_isPoint hm.1 hn6 p hp, e10, c4, if_false, Option.bind_some]⟩
end OPS3

/-! ===== the reference knows ways and roots ===== -/
section MTAU
variable {M M0 M' : Mem} {n : Nat} {A : Arr} {x : Row}
theorem x8_formU (hp : M 176 0 = nI n) (hq : RQ (M 177) 0 A x) (hA : OKA n A) (hn : n ≤ 6) (hC : ∀ i, i < 6 → ∀ j, j < 6 → M 186 (6 * i + j) = unr i j) {i o b : Nat} (hi : i < 6) (hb : o + 6 ≤ alen b) (hb2 : alen b < 1000) {y : Row} (hy : ∀ j, j < n → M b (o + j) = y j) : f_X8_form 186 (nI (6 * i)) b (nI o) M = some (eul n A (unr i) y) ∧ f_X8_form b (nI o) 186 (nI (6 * i)) M = some (eul n A y (unr i)) := by
  have a186 : alen 186 = 36 := by decide
  constructor
  · rw [x8_form hp hq hA hn 186 b (6 * i) o (by omega) hb (by omega) hb2, eul_congr (y' := unr i) (z' := y) hA (fun j hj => hC i hi j (by omega)) hy]
  · rw [x8_form hp hq hA hn b 186 o (6 * i) hb (by omega) hb2 (by omega), eul_congr (y' := y) (z' := unr i) hA hy (fun j hj => hC i hi j (by omega))]
theorem x8_t19 (hp : M 176 0 = nI n) (hq : RQ (M 177) 0 A x) (hA : OKA n A) (hn : n ≤ 6) (hC : ∀ i, i < 6 → ∀ j, j < 6 → M 186 (6 * i + j) = unr i j) (h36 : (rts n A).length ≤ 36) (hR : ∀ t, t < (rts n A).length → ∀ i, i < 6 → M 184 (6 * t + i) = rt n A t i) {r t : Nat} (hr : r < (rts n A).length) (ht : t < (rts n A).length) (i2 : Int32) (kk : Int32 → Int32 → Option Int32) : ∃ v, f_X8_tauOf_19 (nI r) i2 (nI t) M kk FU 1 0 = kk (if dc (isTau n A r t) then 1 else 0) v := by
  have a184 : alen 184 = 216 := by decide
  have hfo : ∀ i, i < n → f_X8_form 186 (nI (6 * i)) 184 (nI (6 * t)) M = some (eul n A (unr i) (rt n A t)) ∧ f_X8_form 184 (nI (6 * r)) 186 (nI (6 * i)) M = some (eul n A (rt n A r) (unr i)) := fun i hi => ⟨(x8_formU hp hq hA hn hC (show i < 6 by omega) (by omega) (by omega) (fun j hj => hR t ht j (by omega))).1, (x8_formU hp hq hA hn hC (show i < 6 by omega) (by omega) (by omega) (fun j hj => hR r hr j (by omega))).2⟩
  rcases first_bad (p := fun i => eul n A (unr i) (rt n A t) + eul n A (rt n A r) (unr i) = 0) n with hall | ⟨k, k1, k2, k3⟩
  · have hd : dc (isTau n A r t) = true := dc_iff.mpr hall
    rw [hd]
    refine ⟨nI n, ?_⟩
    refine loop_u (fun m (_ : Unit) j => f_X8_tauOf_19 (nI r) i2 (nI t) M kk m 1 (nI j)) (fun _ => kk 1 (nI n)) n (fun _ s => s) () (fun m j s hj => ?_) (fun m s => ?_) FU (FU_gt (by omega))
    · simp (disch := omega) only [ef_X8_tauOf_19, s_X8_tauOf_19, hp, e10, (hfo j hj).1, (hfo j hj).2, hall j hj, eq_self, iL, iT, iE, iN, iZ, i0, cl, nL, yL, nT, yT, s1_i, ad_i, z0, c0, la_1, la_2, la_11, la_12, la_21, la_22, la_27, la_54, la_10, la_243, ml_4, ml_6, ml_27, ml_10, ml_3, false_or, or_false, true_or, or_true, or_self, if_false, if_true, not_true, not_false_iff, bs, lt_p]
    · simp (disch := omega) only [ef_X8_tauOf_19, s_X8_tauOf_19, hp, iL, iT, iE, iN, iZ, i0, cl, nL, yL, nT, yT, s1_i, ad_i, z0, c0, la_1, la_2, la_11, la_12, la_21, la_22, la_27, la_54, la_10, la_243, ml_4, ml_6, ml_27, ml_10, ml_3, false_or, or_false, true_or, or_true, or_self, if_false, if_true, not_true, not_false_iff, bs, lt_p]
  · have hd : dc (isTau n A r t) = false := by
      cases hh : dc (isTau n A r t) with
      | false => rfl
      | true => exact absurd (dc_iff.mp hh k k1) k3
    rw [hd]
    refine ⟨nI (k + 1), ?_⟩
    obtain ⟨f', g1, g2, _⟩ := loop_fo (fun m (_ : Unit) j => f_X8_tauOf_19 (nI r) i2 (nI t) M kk m 1 (nI j)) k (fun _ s => s) () (fun _ _ => True) trivial (fun _ _ _ _ => trivial) (fun m j s hj _ => by
      simp (disch := omega) only [ef_X8_tauOf_19, s_X8_tauOf_19, hp, e10, (hfo j (by omega)).1, (hfo j (by omega)).2, k2 j hj, eq_self, iL, iT, iE, iN, iZ, i0, cl, nL, yL, nT, yT, s1_i, ad_i, z0, c0, la_1, la_2, la_11, la_12, la_21, la_22, la_27, la_54, la_10, la_243, ml_4, ml_6, ml_27, ml_10, ml_3, false_or, or_false, true_or, or_true, or_self, if_false, if_true, not_true, not_false_iff, bs, lt_p]) k 0 (by omega) FU (FU_gt (by omega))
    have hF : FU = 20000 := rfl
    refine Eq.trans g2 ?_
    obtain ⟨f2, rfl⟩ : ∃ f2, f' = f2 + 1 := ⟨f' - 1, by omega⟩
    show f_X8_tauOf_19 (nI r) i2 (nI t) M kk (f2 + 1 + 1) 1 (nI k) = _
    rw [ef_X8_tauOf_19]
    unfold s_X8_tauOf_19
    rw [hp, if_neg (by rw [iL (by omega) (by omega)]; omega), if_neg e10, ml_6, ml_6, ml_6, (hfo k k1).1, bs, (hfo k k1).2, bs, if_neg k3, ef_X8_tauOf_19]
    unfold s_X8_tauOf_19
    rw [hp, if_pos rfl, ite_self, s1_i]
    rfl
theorem fo_last {L : Nat} {p : Nat → Bool} {z : Int32} : (∃ t, t < L ∧ p t = true ∧ fo (fun t f => if p t then nI t else f) L z = nI t) ∨ ((∀ t, t < L → p t = false) ∧ fo (fun t f => if p t then nI t else f) L z = z) := by
  induction L with
  | zero => exact Or.inr ⟨fun t ht => by omega, rfl⟩
  | succ L ih =>
    rw [fo_s]
    cases h : p L with
    | true => exact Or.inl ⟨L, by omega, h, if_pos rfl⟩
    | false =>
      rw [if_neg (by simp)]
      rcases ih with ⟨t, t1, t2, t3⟩ | ⟨t1, t2⟩
      · exact Or.inl ⟨t, by omega, t2, t3⟩
      · refine Or.inr ⟨fun t ht => ?_, t2⟩
        by_cases htl : t = L
        · subst htl; exact h
        · exact t1 t (by omega)
theorem x8_tauOf (hp : M 176 0 = nI n) (hq : RQ (M 177) 0 A x) (hA : OKA n A) (hn : n ≤ 6) (hC : ∀ i, i < 6 → ∀ j, j < 6 → M 186 (6 * i + j) = unr i j) (h36 : (rts n A).length ≤ 36) (h12 : M 176 12 = nI (rts n A).length) (hR : ∀ t, t < (rts n A).length → ∀ i, i < 6 → M 184 (6 * t + i) = rt n A t i) {r : Nat} (hr : r < (rts n A).length) : ∃ v, f_X8_tauOf (nI r) M = some v ∧ TauOK n A r v := by
  have h := loop_u (fun m (v : Int32) j => f_X8_tauOf_5 (nI r) M (fun i2 _ => some i2) m v (nI j)) (fun v => some v) (rts n A).length (fun t f => if dc (isTau n A r t) then nI t else f) (-1000000) (fun m j v hj => ?_) (fun m v => ?_) FU (FU_gt (by omega))
  · refine ⟨_, h, ?_⟩
    rcases fo_last (L := (rts n A).length) (p := fun t => dc (isTau n A r t)) (z := -1000000) with ⟨t, t1, t2, t3⟩ | ⟨t1, t2⟩
    · exact Or.inl ⟨t, t1, t3, dc_iff.mp t2⟩
    · exact Or.inr ⟨t2, fun s hs q => Bool.noConfusion ((t1 s hs).symm.trans (dc_iff.mpr q))⟩
  · obtain ⟨u, hu⟩ := x8_t19 hp hq hA hn hC h36 hR hr hj v (fun (i4_2 : Int32) (_ : Int32) =>
      if i4_2 = 0 then
        f_X8_tauOf_5 (nI r) M (fun i2 _ => some i2) m v (nI j + 1)
      else
        f_X8_tauOf_5 (nI r) M (fun i2 _ => some i2) m (nI j) (nI j + 1))
    show f_X8_tauOf_5 (nI r) M (fun i2 _ => some i2) (m + 1) v (nI j) = _
    rw [ef_X8_tauOf_5]
    unfold s_X8_tauOf_5
    rw [h12, if_neg (by rw [iL (by omega) (by omega)]; omega)]
    refine Eq.trans hu ?_
    cases dc (isTau n A r j) with
    | true => rw [if_pos rfl, if_neg e10, if_pos rfl, s1_i]
    | false =>
      have hft : ¬ (false = true) := by simp
      rw [if_neg hft, if_pos rfl, if_neg hft, s1_i]
  · simp (disch := omega) only [ef_X8_tauOf_5, s_X8_tauOf_5, h12, iL, iT, iE, iN, iZ, i0, cl, nL, yL, nT, yT, s1_i, ad_i, z0, c0, la_1, la_2, la_11, la_12, la_21, la_22, la_27, la_54, la_10, la_243, ml_4, ml_6, ml_27, ml_10, ml_3, false_or, or_false, true_or, or_true, or_self, if_false, if_true, not_true, not_false_iff, bs, lt_p]
end MTAU
section MKNOWS
variable {M M' : Mem} {n : Nat} {A A' : Arr} {x x' : Row} {P P' : List (Arr × Row)} {K K' : Nat → Option (Arr × Row)} {T T' : List Int32} {S S' : Nat → Option (List (Nat × Row))}
theorem x8_k19 (kk : Int32 → Mem → Option Mem) : ∃ M', f_X8_knows_19 kk FU 0 M = kk 6 M' ∧ (∀ c, c ≠ 192 → M' c = M c) ∧ ∀ i, i < 6 → M' 192 i = 0 := by
  have hst : ∀ (f i : Nat) (M1 : Mem), i < 6 → ((∀ c, c ≠ 192 → M1 c = M c) ∧ ∀ j, j < i → M1 192 j = 0) → ∃ M', ((∀ c, c ≠ 192 → M' c = M c) ∧ ∀ j, j < i + 1 → M' 192 j = 0) ∧ f_X8_knows_19 kk (f + 1) (nI i) M1 = f_X8_knows_19 kk f (nI (i + 1)) M' := by
    intro f i M1 hi hI
    refine ⟨um M1 192 i 0, ⟨fun c hc => by rw [um_a hc]; exact hI.1 c hc, fun j hj => ?_⟩, ?_⟩
    · by_cases hji : j = i
      · subst hji; rw [um_s]
      · rw [um_k hji]; exact hI.2 j (by omega)
    · simp (disch := omega) only [ef_X8_knows_19, s_X8_knows_19, e6y hi, iL, iT, iE, iN, iZ, i0, cl, nL, yL, nT, yT, s1_i, ad_i, z0, c0, la_1, la_2, la_11, la_12, la_21, la_22, la_27, la_54, la_10, la_243, ml_4, ml_6, ml_27, ml_10, ml_3, false_or, or_false, true_or, or_true, or_self, if_false, if_true, not_true, not_false_iff, bs, lt_p]
  obtain ⟨f', M2, ⟨g1, g2⟩, g3⟩ := loop_M (fun f M i => f_X8_knows_19 kk f (nI i) M) 6 (fun i M1 => (∀ c, c ≠ 192 → M1 c = M c) ∧ ∀ j, j < i → M1 192 j = 0) hst 6 0 M (by omega) ⟨fun _ _ => rfl, fun j hj => by omega⟩ FU (FU_gt (by omega))
  refine ⟨M2, ?_, g1, g2⟩
  refine Eq.trans g3 ?_
  simp only [ef_X8_knows_19, s_X8_knows_19, e6n, if_true]
  rfl
theorem MI.known (hm : MI M n A x P K T S) (e : ∀ c, 177 ≤ c → c ≠ 183 → c ≠ 184 → c ≠ 185 → c ≠ 191 → c ≠ 192 → M' c = M c) (e6 : ∀ j, j ≠ 12 → j ≠ 13 → M' 176 j = M 176 j) (h : KnowsOK M' n A) (h13 : M' 176 13 = 1) : MI M' n A x P K T S := by
  obtain ⟨h1, h2, h3, h4, h5, h6, h7, h8⟩ := hm
  refine ⟨by rw [e6 0 (by omega) (by omega)]; exact h1, by rw [e 177 (by omega) (by omega) (by omega) (by omega) (by omega) (by omega)]; exact h2, ?_, ?_, ?_, ?_, Or.inr ⟨h13, h⟩, ?_⟩
  · unfold MP; rw [e6 2 (by omega) (by omega), e 177 (by omega) (by omega) (by omega) (by omega) (by omega) (by omega)]; exact h3
  · unfold MK; rw [e 178 (by omega) (by omega) (by omega) (by omega) (by omega) (by omega), e 177 (by omega) (by omega) (by omega) (by omega) (by omega) (by omega)]; exact h4
  · unfold MT; rw [e6 5 (by omega) (by omega), e 179 (by omega) (by omega) (by omega) (by omega) (by omega) (by omega)]; exact h5
  · unfold MS; rw [e 180 (by omega) (by omega) (by omega) (by omega) (by omega) (by omega), e 181 (by omega) (by omega) (by omega) (by omega) (by omega) (by omega), e 182 (by omega) (by omega) (by omega) (by omega) (by omega) (by omega)]; exact h6
  · unfold MC; rw [e 186 (by omega) (by omega) (by omega) (by omega) (by omega) (by omega), e 190 (by omega) (by omega) (by omega) (by omega) (by omega) (by omega)]; exact h8
theorem x8_knows (w : WF n A x P K T S) (hm : MI M n A x P K T S) : ∃ M', f_X8_knows M = some M' ∧ MI M' n A x P K T S ∧ KnowsOK M' n A ∧ (∀ c, c ≠ 176 → c ≠ 183 → c ≠ 184 → c ≠ 185 → c ≠ 191 → c ≠ 192 → M' c = M c) ∧ ∀ j, j ≠ 12 → j ≠ 13 → M' 176 j = M 176 j := by
  rcases hm.2.2.2.2.2.2.1 with h0 | ⟨h1, h2⟩
  · have hA := w.2.1
    have hn := w.1.2
    have hn1 := w.1.1
    obtain ⟨M1, a1, a2, a3⟩ := x8_findsWays (M := um M 176 13 1) (A := A) (x := x) (by rw [um_a (by omega)]; exact hm.2.1) hA hn
    let k19 : Int32 → Mem → Option Mem := fun (_ : Int32) (M5 : Mem) =>
      (f_X8_isFinite M5).bind fun (q6 : Int32 × Mem) =>
      if q6.1 = 0 then
        lt (um q6.2 176 12 (-1)) fun (M15 : Mem) =>
        some M15
      else
        lt (um q6.2 176 12 0) fun (M8 : Mem) =>
        (f_X8_power 4 (M8 176 0) M8).bind fun (r9 : Int32) =>
        lt (r9 - 1) fun (v10 : Int32) =>
        f_X8_knows_67  (fun (_ : Int32) (M12 : Mem) =>
          f_X8_knows_116  (fun (_ : Int32) (M14 : Mem) =>
            some M14) FU 0 M12) FU v10 M8
    obtain ⟨M2, b1, b2, b3⟩ := x8_k19 (M := M1) k19
    have f2 : ∀ c, c ≠ 176 → c ≠ 183 → c ≠ 191 → c ≠ 192 → M2 c = M c := fun c c0 c1 c2 c3 => by rw [b2 c c3, a2 c c1 c2, um_a c0]
    have f26 : ∀ j, j ≠ 13 → M2 176 j = M 176 j := fun j hj => by rw [b2 176 (by omega), a2 176 (by omega) (by omega), um_k hj]
    have f213 : M2 176 13 = 1 := by rw [b2 176 (by omega), a2 176 (by omega) (by omega), um_s]
    have hp2 : M2 176 0 = nI n := by rw [f26 0 (by omega)]; exact hm.1
    have hq2 : RQ (M2 177) 0 A x := by rw [f2 177 (by omega) (by omega) (by omega) (by omega)]; exact hm.2.1
    have hw2 : ∀ p, p < 6 → ∀ q, q < 6 → M2 183 (6 * p + q) = pth A p q := fun p hp q hq => by rw [b2 183 (by omega)]; exact a3 p hp q hq
    obtain ⟨M3, c1, c2, c3⟩ := x8_isFinite hp2 hq2 hA hn hn1
    have hstart : ∀ R, k19 6 M2 = R → f_X8_knows M = R := fun R hR => by
      rw [← hR]
      unfold f_X8_knows
      rw [if_pos h0, lt_e, a1, bs]
      exact b1
    cases hf : fnt n A with
    | false =>
      rw [hf] at c1
      have hk : KnowsOK (um M3 176 12 (-1)) n A := ⟨fun p hp q hq => by rw [um_a (by omega), c2 183 (by omega)]; exact hw2 p (by omega) q (by omega), Or.inl ⟨hf, um_s⟩⟩
      refine ⟨um M3 176 12 (-1), hstart _ ?_, hm.known (fun c d1 d2 d3 d4 d5 d6 => by rw [um_a (by omega), c2 c d6, f2 c (by omega) d2 d5 d6]) (fun j j1 j2 => by rw [um_k j1, c2 176 (by omega), f26 j j2]) hk (by rw [um_k (by omega), c2 176 (by omega)]; exact f213), hk, fun c d1 d2 d3 d4 d5 d6 => by rw [um_a d1, c2 c d6, f2 c d1 d2 d5 d6], fun j j1 j2 => by rw [um_k j1, c2 176 (by omega), f26 j j2]⟩
      show (f_X8_isFinite M2).bind _ = _
      rw [c1, bs, if_pos (if_neg (by simp)), lt_e]
    | true =>
      rw [hf] at c1
      have h4 := p4_le hn
      have h4p := p4_pos n
      have h36 := fnt_36 hA hn hf
      let M4 : Mem := um M3 176 12 0
      have f4 : ∀ c, c ≠ 176 → c ≠ 183 → c ≠ 191 → c ≠ 192 → M4 c = M c := fun c d0 d1 d2 d3 => by
        show um M3 176 12 0 c = _
        rw [um_a d0, c2 c d3]
        exact f2 c d0 d1 d2 d3
      have f46 : ∀ j, j ≠ 12 → j ≠ 13 → M4 176 j = M 176 j := fun j j1 j2 => by
        show um M3 176 12 0 176 j = _
        rw [um_k j1, c2 176 (by omega)]
        exact f26 j j2
      have f413 : M4 176 13 = 1 := by
        show um M3 176 12 0 176 13 = _
        rw [um_k (by omega), c2 176 (by omega)]
        exact f213
      have hp4 : M4 176 0 = nI n := by rw [f46 0 (by omega) (by omega)]; exact hm.1
      have hq4 : RQ (M4 177) 0 A x := by rw [f4 177 (by omega) (by omega) (by omega) (by omega)]; exact hm.2.1
      have hw4 : ∀ p, p < 6 → ∀ q, q < 6 → M4 183 (6 * p + q) = pth A p q := fun p hp q hq => by
        show um M3 176 12 0 183 _ = _
        rw [um_a (by omega), c2 183 (by omega)]
        exact hw2 p hp q hq
      have e1 : nI (4 ^ n) - 1 = nI (4 ^ n - 1) := sb_i (b := 1) (by omega)
      obtain ⟨M5, d1, d2, d3, d4⟩ := x8_k67 hp4 hq4 hA hn hn1 hf (fun (_ : Int32) (M12 : Mem) => f_X8_knows_116 (fun (_ : Int32) (M14 : Mem) => some M14) FU 0 M12) (4 ^ n - 1) M4 [] (by omega) (fun _ _ _ _ => rfl) (fun _ _ => rfl) (fun i a b => by
        show um M3 176 12 0 192 i = 0
        rw [um_a (by omega), c3 i a]
        exact b3 i b) ⟨by show um M3 176 12 0 176 12 = _; rw [um_s]; rfl, fun j y hj => by simp at hj⟩ List.Pairwise.nil (fun y => by
        refine iff_of_false (by simp) (fun q => ?_)
        have := ((mem_rts hA hn).mp q.1).1
        omega) FU (FU_gt (by omega))
      have hR5 : ∀ t, t < (rts n A).length → ∀ i, i < 6 → M5 184 (6 * t + i) = rt n A t i := fun t ht i hi => by
        rw [d4.2 t _ (List.getElem?_eq_getElem ht) i hi]
        unfold rt
        rw [List.getD_eq_getElem?_getD, List.getElem?_eq_getElem ht]
        rfl
      have hst : ∀ (f r : Nat) (M6 : Mem), r < (rts n A).length → ((∀ c, c ≠ 185 → M6 c = M5 c) ∧ ∀ q, q < r → TauOK n A q (M6 185 q)) → ∃ M', ((∀ c, c ≠ 185 → M' c = M5 c) ∧ ∀ q, q < r + 1 → TauOK n A q (M' 185 q)) ∧ f_X8_knows_116 (fun (_ : Int32) (M14 : Mem) => some M14) (f + 1) (nI r) M6 = f_X8_knows_116 (fun (_ : Int32) (M14 : Mem) => some M14) f (nI (r + 1)) M' := by
        intro f r M6 hr hI
        obtain ⟨i1, i2⟩ := hI
        have h12 : M6 176 12 = nI (rts n A).length := by rw [i1 176 (by omega)]; exact d4.1
        obtain ⟨v, v1, v2⟩ := x8_tauOf (M := M6) (A := A) (x := x) (n := n) (by rw [i1 176 (by omega), d3 0 (by omega)]; exact hp4) (by rw [i1 177 (by omega), d2 177 (by omega) (by omega) (by omega)]; exact hq4) hA hn (fun i hi j hj => by rw [i1 186 (by omega), d2 186 (by omega) (by omega) (by omega), f4 186 (by omega) (by omega) (by omega) (by omega)]; exact hm.2.2.2.2.2.2.2.1 i hi j hj) h36 h12 (fun t ht i hi => by rw [i1 184 (by omega)]; exact hR5 t ht i hi) hr
        refine ⟨um M6 185 r v, ⟨fun c hc => by rw [um_a hc]; exact i1 c hc, fun q hq => ?_⟩, ?_⟩
        · by_cases hqr : q = r
          · subst hqr; rw [um_s]; exact v2
          · rw [um_k hqr]; exact i2 q (by omega)
        · simp (disch := omega) only [ef_X8_knows_116, s_X8_knows_116, h12, v1, iL, iT, iE, iN, iZ, i0, cl, nL, yL, nT, yT, s1_i, ad_i, z0, c0, la_1, la_2, la_11, la_12, la_21, la_22, la_27, la_54, la_10, la_243, ml_4, ml_6, ml_27, ml_10, ml_3, false_or, or_false, true_or, or_true, or_self, if_false, if_true, not_true, not_false_iff, bs, lt_p]
      obtain ⟨f', M6, ⟨g1, g2⟩, g3⟩ := loop_M (fun f M i => f_X8_knows_116 (fun (_ : Int32) (M14 : Mem) => some M14) f (nI i) M) (rts n A).length (fun r M6 => (∀ c, c ≠ 185 → M6 c = M5 c) ∧ ∀ q, q < r → TauOK n A q (M6 185 q)) hst (rts n A).length 0 M5 (by omega) ⟨fun _ _ => rfl, fun q hq => by omega⟩ FU (FU_gt (by omega))
      have h12 : M6 176 12 = nI (rts n A).length := by rw [g1 176 (by omega)]; exact d4.1
      have f6 : ∀ c, c ≠ 176 → c ≠ 183 → c ≠ 184 → c ≠ 185 → c ≠ 191 → c ≠ 192 → M6 c = M c := fun c q1 q2 q3 q4 q5 q6 => by rw [g1 c q4, d2 c q6 q3 q1]; exact f4 c q1 q2 q5 q6
      have f66 : ∀ j, j ≠ 12 → j ≠ 13 → M6 176 j = M 176 j := fun j j1 j2 => by rw [g1 176 (by omega), d3 j j1]; exact f46 j j1 j2
      have f613 : M6 176 13 = 1 := by rw [g1 176 (by omega), d3 13 (by omega)]; exact f413
      have hk : KnowsOK M6 n A := ⟨fun p hp q hq => by rw [g1 183 (by omega), d2 183 (by omega) (by omega) (by omega)]; exact hw4 p (by omega) q (by omega), Or.inr ⟨hf, h36, h12, fun t ht => ⟨fun i hi => by rw [g1 184 (by omega)]; exact hR5 t ht i hi, g2 t ht⟩⟩⟩
      refine ⟨M6, hstart _ ?_, hm.known (fun c q1 q2 q3 q4 q5 q6 => f6 c (by omega) q2 q3 q4 q5 q6) f66 hk f613, hk, f6, f66⟩
      show (f_X8_isFinite M2).bind _ = _
      rw [c1, bs, if_neg (by rw [if_pos rfl]; exact e10), lt_e]
      show (f_X8_power 4 (M4 176 0) M4).bind _ = _
      have e4 : f_X8_power 4 (nI n) M4 = some (nI (4 ^ n)) := x8_power 4 hn
      rw [hp4, e4, bs, e1, lt_e]
      refine Eq.trans d1 ?_
      refine Eq.trans g3 ?_
      rw [ef_X8_knows_116]
      unfold s_X8_knows_116
      rw [h12, if_pos (by rw [iL (by omega) (by omega)]; omega)]
  · refine ⟨M, ?_, hm, h2, fun _ _ _ _ _ _ _ => rfl, fun _ _ _ => rfl⟩
    unfold f_X8_knows
    rw [h1, if_neg e10]
end MKNOWS

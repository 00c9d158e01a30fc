/-! ===== take, shift ===== -/
theorem x8_becomesZ {M : Mem} {n : Nat} {A : Arr} {x y : Row} {P : List (Arr × Row)} (hn : M 176 0 = nI n) (hn6 : n ≤ 6) (hq : RQ (M 177) 0 A x) (hA : A.length ≤ 10) (hP : MP M P) (h8 : P.length ≤ 8) (hPA : ∀ e ∈ P, e.1.length ≤ 10) (hy : ∀ i, i < n → M 193 i = y i) (hx0 : ∀ i, n ≤ i → i < 6 → x i = y i) (hb : ∀ i, i < n → -99 ≤ (y i).toInt ∧ (y i).toInt ≤ 99) : ∃ M', f_X8_becomes M = some (1, M') ∧ RQ (M' 177) 0 A y ∧ MP M' (psh P (A, x)) ∧ (∀ c, c ≠ 176 → c ≠ 177 → M' c = M c) ∧ (∀ j, j ≠ 2 → M' 176 j = M 176 j) ∧ ∀ q, 243 ≤ q → M' 177 q = M 177 q := by
  obtain ⟨M1, k1, k2, k3, k4, k5⟩ := x8_keepPast hq hA hP h8 hPA
  have h1 := loop_u (fun m (_ : Unit) j => f_X8_becomes_4 M (fun (i1_1 : Int32) (i2_2 : Int32) =>
    if i1_1 = 0 then
      if ¬ (i1_1 = 0 ∨ i1_1 = 1) then none else
      some (i1_1, M)
    else
      (f_X8_keepPast M).bind fun (M5 : Mem) =>
      f_X8_becomes_57 i1_1 (fun (i2_6 : Int32) (M7 : Mem) =>
        if ¬ (i1_1 = 0 ∨ i1_1 = 1) then none else
        some (i1_1, M7)) FU 0 M5) m 1 (nI j)) (fun _ => f_X8_becomes_57 1 (fun (i2_6 : Int32) (M7 : Mem) => some (1, M7)) FU 0 M1) n (fun _ u => u) () (fun m j u hj => by
      have hb2 := (bnd_iff (M 193 j)).mpr (by rw [hy j hj]; exact hb j hj)
      have e10 : ¬ (1 : Int32) = 0 := by decide
      simp (disch := omega) only [ef_X8_becomes_4, s_X8_becomes_4, hn, e10, x8_inY (L := -99) (lo := -99) (H := 99) (hi := 99) (by decide) (by decide) hb2, iL, iT, iE, iN, iZ, i0, cl, nL, yL, nT, yT, s1_i, ad_i, z0, c0, la_1, la_2, la_11, la_12, la_21, la_22, la_27, la_54, la_10, la_243, ml_4, ml_6, ml_27, ml_10, ml_3, false_or, or_false, true_or, or_true, or_self, if_false, if_true, not_true, not_false_iff, Option.bind_some, lt]) (fun m u => by
      have e10 : ¬ (1 : Int32) = 0 := by decide
      simp (disch := omega) only [ef_X8_becomes_4, s_X8_becomes_4, hn, e10, k1, or_true, iL, iT, iE, iN, iZ, i0, cl, nL, yL, nT, yT, s1_i, ad_i, z0, c0, la_1, la_2, la_11, la_12, la_21, la_22, la_27, la_54, la_10, la_243, ml_4, ml_6, ml_27, ml_10, ml_3, false_or, or_false, true_or, or_true, or_self, if_false, if_true, not_true, not_false_iff, Option.bind_some, lt]) FU (FU_gt (by omega))
  have hst : ∀ (kk : Int32 → Mem → Option (Int32 × Mem)) (m i : Nat) (M2 : Mem), i < n → ((∀ c, c ≠ 177 → M2 c = M1 c) ∧ ∀ q, M2 177 q = if 21 ≤ q ∧ q < 21 + i then y (q - 21) else M1 177 q) → ∃ M', ((∀ c, c ≠ 177 → M' c = M1 c) ∧ ∀ q, M' 177 q = if 21 ≤ q ∧ q < 21 + (i + 1) then y (q - 21) else M1 177 q) ∧ f_X8_becomes_57 1 kk (m + 1) (nI i) M2 = f_X8_becomes_57 1 kk m (nI (i + 1)) M' := by
    intro kk m i M2 hi hI
    obtain ⟨i1, i2⟩ := hI
    refine ⟨um M2 177 (21 + i) (y i), ⟨fun c hc => by rw [um_a hc]; exact i1 c hc, fun q => ?_⟩, ?_⟩
    · by_cases hq : q = 21 + i
      · subst hq
        rw [um_s, if_pos (by omega)]
        congr 1
        omega
      · rw [um_k hq, i2]
        by_cases hc : 21 ≤ q ∧ q < 21 + i
        · rw [if_pos hc, if_pos (by omega)]
        · rw [if_neg hc, if_neg (by omega)]
    · have e1 : M2 176 0 = nI n := by rw [i1 176 (by omega), k4 0 (by omega)]; exact hn
      have e2 : M2 193 i = y i := by rw [i1 193 (by omega), k3 193 (by omega) (by omega)]; exact hy i hi
      simp (disch := omega) only [ef_X8_becomes_57, s_X8_becomes_57, e1, e2, iL, iT, iE, iN, iZ, i0, cl, nL, yL, nT, yT, s1_i, ad_i, z0, c0, la_1, la_2, la_11, la_12, la_21, la_22, la_27, la_54, la_10, la_243, ml_4, ml_6, ml_27, ml_10, ml_3, false_or, or_false, true_or, or_true, or_self, if_false, if_true, not_true, not_false_iff, Option.bind_some, lt]
  obtain ⟨f', M2, ⟨g1, g2⟩, g3⟩ := loop_M (fun f M i => f_X8_becomes_57 1 (fun (_ : Int32) (M7 : Mem) => some (1, M7)) f (nI i) M) n (fun i M2 => (∀ c, c ≠ 177 → M2 c = M1 c) ∧ ∀ q, M2 177 q = if 21 ≤ q ∧ q < 21 + i then y (q - 21) else M1 177 q) (hst _) n 0 M1 (by omega) ⟨fun _ _ => rfl, fun q => by rw [if_neg (by omega)]⟩ FU (FU_gt (by omega))
  have hn2 : M2 176 0 = nI n := by rw [g1 176 (by omega), k4 0 (by omega)]; exact hn
  refine ⟨M2, ?_, ⟨?_, fun k u v hk => ?_, fun i hi => ?_⟩, ⟨?_, fun j e he => ?_⟩, fun c c1 c2 => ?_, fun j hj => ?_, fun q hq => ?_⟩
  · refine Eq.trans h1 (Eq.trans g3 ?_)
    simp (disch := omega) only [ef_X8_becomes_57, s_X8_becomes_57, hn2, iL, iT, iE, iN, iZ, i0, cl, nL, yL, nT, yT, s1_i, ad_i, z0, c0, la_1, la_2, la_11, la_12, la_21, la_22, la_27, la_54, la_10, la_243, ml_4, ml_6, ml_27, ml_10, ml_3, false_or, or_false, true_or, or_true, or_self, if_false, if_true, not_true, not_false_iff, Option.bind_some, lt]
  · rw [g2, if_neg (by omega), k5 0 (by omega)]
    exact hq.1
  · have hkl := (List.getElem?_eq_some_iff.mp hk).1
    rw [g2, if_neg (by omega), k5 _ (by omega), g2, if_neg (by omega), k5 _ (by omega)]
    exact hq.2.1 k u v hk
  · rw [g2]
    by_cases hin : i < n
    · rw [if_pos (by omega)]
      congr 1
      omega
    · rw [if_neg (by omega), k5 _ (by omega), hq.2.2 i hi]
      exact hx0 i (by omega) hi
  · rw [g1 176 (by omega)]
    exact k2.1
  · have hh := k2.2 j e he
    have hl : e.1.length ≤ 10 := by
      rcases psh_at h8 he with ⟨-, rfl⟩ | ⟨-, c2⟩
      · exact hA
      · exact hPA e (List.mem_of_getElem? c2)
    exact hh.mv hl (fun q hq => by rw [g2, if_neg (by omega)])
  · rw [g1 c c2]
    exact k3 c c1 c2
  · rw [g1 176 (by omega)]
    exact k4 j hj
  · rw [g2, if_neg (by omega)]
    exact k5 q (by omega)
section TAKE
variable {M M' : Mem} {n : Nat} {A A' : Arr} {x x' : Row} {P P' : List (Arr × Row)} {K K' : Nat → Option (Arr × Row)} {T T' : List Int32} {S S' : Nat → Option (List (Nat × Row))}
theorem x8_take35 (kk : Int32 → Mem → Option (Int32 × Mem)) {t : Nat} (ht : t < 36) : ∃ M', f_X8_take_35 (nI t) kk FU 0 M = kk 6 M' ∧ (∀ c, c ≠ 193 → M' c = M c) ∧ ∀ i, i < 6 → M' 193 i = M 184 (6 * t + i) := by
  have hst : ∀ (f i : Nat) (M1 : Mem), i < 6 → ((∀ c, c ≠ 193 → M1 c = M c) ∧ ∀ j, j < i → M1 193 j = M 184 (6 * t + j)) → ∃ M', ((∀ c, c ≠ 193 → M' c = M c) ∧ ∀ j, j < i + 1 → M' 193 j = M 184 (6 * t + j)) ∧ f_X8_take_35 (nI t) kk (f + 1) (nI i) M1 = f_X8_take_35 (nI t) kk f (nI (i + 1)) M' := by
    intro f i M1 hi hI
    refine ⟨um M1 193 i (M1 184 (6 * t + i)), ⟨fun c hc => by rw [um_a hc]; exact hI.1 c hc, fun j hj => ?_⟩, ?_⟩
    · by_cases hji : j = i
      · subst hji; rw [um_s, hI.1 184 (by omega)]
      · rw [um_k hji]; exact hI.2 j (by omega)
    · simp (disch := omega) only [ef_X8_take_35, s_X8_take_35, e6y hi, iL, iT, iE, iN, iZ, i0, cl, nL, yL, nT, yT, s1_i, ad_i, z0, c0, la_1, la_2, la_11, la_12, la_21, la_22, la_27, la_54, la_10, la_243, ml_4, ml_6, ml_27, ml_10, ml_3, false_or, or_false, true_or, or_true, or_self, if_false, if_true, not_true, not_false_iff, bs, lt_p]
  obtain ⟨f', M2, ⟨g1, g2⟩, g3⟩ := loop_M (fun f M i => f_X8_take_35 (nI t) kk f (nI i) M) 6 (fun i M1 => (∀ c, c ≠ 193 → M1 c = M c) ∧ ∀ j, j < i → M1 193 j = M 184 (6 * t + j)) hst 6 0 M (by omega) ⟨fun _ _ => rfl, fun j hj => by omega⟩ FU (FU_gt (by omega))
  refine ⟨M2, ?_, g1, g2⟩
  refine Eq.trans g3 ?_
  simp only [ef_X8_take_35, s_X8_take_35, e6n, if_true]
  rfl
theorem rt_tail {t i : Nat} (hi : n ≤ i) : rt n A t i = 0 := by
  unfold rt rowOf
  rw [if_neg (by omega)]
theorem rt_bnd (hn : n ≤ 6) {t i : Nat} (hi : i < n) : -99 ≤ (rt n A t i).toInt ∧ (rt n A t i).toInt ≤ 99 := by
  have h1 := ti_rt (A := A) (t := t) hn hi
  have h2 := RR_nn (n := n) (A := A) t i
  have h3 := RR_3 (n := n) (A := A) t i
  unfold ti at h1
  omega
theorem op_take (h : Inv M) (i : Int32) : ∃ r M1 M2, f_X7_take i M = some (r, M1) ∧ f_X8_take i M1 = some (r, M2) ∧ Inv M2 := by
  obtain ⟨n, A, x, P, K, T, S, w, hc, hm⟩ := id h
  have hn6 := w.1.2
  have hA := w.2.1
  cases hf : fnt n A with
  | false => exact op_rd (f := f_X7_take i) (g := f_X8_take i) w hc hm (fun M => rfl) (fun M => rfl) ⟨-1000003, fun M1 _ hr => by rw [hr.no hf, if_pos rfl], fun M2 _ hk => by rw [hk.no hf, if_neg n1m]⟩
  | true =>
    have hL1 := rts_pos hA hn6 w.1.1 hf
    have hL := fnt_36 hA hn6 hf
    have hL3 : (rts n A).length < 1000 := by omega
    have z0 : (0 : Int32) ≤ nI (rts n A).length := nI_pos' (by omega)
    have hno : (i < 0 ∨ nI (rts n A).length ≤ i) → ∃ r M1 M2, f_X7_take i M = some (r, M1) ∧ f_X8_take i M1 = some (r, M2) ∧ Inv M2 := fun hi => op_rd (f := f_X7_take i) (g := f_X8_take i) w hc hm (fun M => rfl) (fun M => rfl) ⟨-1000001, fun M1 _ hr => by obtain ⟨_, q1, q2, _⟩ := hr.yes hf; simp only [q1, e10, if_false, x3_hasN q2 hi, bs, if_true], fun M2 _ hk => by obtain ⟨_, q1, _⟩ := hk.yes hf; simp only [q1, z0, if_true, x8_inRN hL1 hL3 hi, bs]⟩
    rcases pk_ix i (n := (rts n A).length) (by omega) with hi | hi | ⟨t, ht, rfl⟩
    · exact hno (Or.inl hi)
    · exact hno (Or.inr hi)
    refine op_mk (f := f_X7_take (nI t)) (g := f_X8_take (nI t)) (nI (rsm n ((rts n A).getD t 0))) hm (w.row (y := rt n A t) (fun i h1 _ => rt_tail h1) (fun i hi => rt_bnd hn6 hi)) ?_ (fun M1 hm1 => ?_)
    · obtain ⟨M1, a1, a2, a3, a4⟩ := x7_findRoots w hc
      obtain ⟨_, q1, q2, q3⟩ := a3.yes hf
      obtain ⟨M2, g1, g2, g3⟩ := x1_remember a2.1 w.2.1.1 a2.2.1 w.2.2.2.1.1
      have hq1 := a2.1.on (M' := M2) (fun b _ _ => g3 b (by omega))
      have hrow : ∀ i, i < 6 → uc M2 4 (va_cpy (M2 (59 + t)) (M2 4) 0 0 6) 4 i = rt n A t i := fun i hi => by rw [uc_s, cp_lt hi, g3 (59 + t) (by omega)]; exact (q3 t ht).1 i hi
      have e95 : uc M2 4 (va_cpy (M2 (59 + t)) (M2 4) 0 0 6) 95 t = nI (rsm n ((rts n A).getD t 0)) := by rw [uc_a (by omega), g3 95 (by omega)]; exact (q3 t ht).2.1
      refine ⟨uc M2 4 (va_cpy (M2 (59 + t)) (M2 4) 0 0 6), ?_, a2.past w ⟨?_, ?_, fun k a b hk => ?_, hrow⟩ (g2.on (fun b _ _ => uc_a (by omega))) (fun b b1 b2 => by rw [uc_a (by omega)]; exact g3 b (by omega)), fun b hb => by rw [uc_a (by omega), g3 b (by omega)]; exact a4 b (by omega) (by omega)⟩
      · simp (disch := omega) only [f_X7_take, a1, q1, e10, x3_hasY hL q2 ht, g1, x7_copyRow, e95, iL, iT, iE, iN, iZ, i0, cl, nL, yL, nT, yT, s1_i, ad_i, z0, c0, la_1, la_2, la_11, la_12, la_21, la_22, la_27, la_54, la_10, la_243, ml_4, ml_6, ml_27, ml_10, ml_3, false_or, or_false, true_or, or_true, or_self, if_false, if_true, not_true, not_false_iff, bs, lt_p]
      · rw [uc_a (by omega)]; exact hq1.1
      · rw [uc_a (by omega)]; exact hq1.2.1
      · rw [uc_a (by omega), uc_a (by omega)]; exact hq1.2.2.1 k a b hk
    · obtain ⟨M2, b1, b2, b3, b4, b5⟩ := x8_knows w hm1
      obtain ⟨_, q1, q3⟩ := b3.yes hf
      obtain ⟨M3, c1, c2, c3⟩ := x8_take35 (M := M2) (fun (_ : Int32) (M6 : Mem) =>
        (f_X8_becomes M6).bind fun (q7 : Int32 × Mem) =>
        (f_X8_sumOf 184 (6 * nI t) q7.2).bind fun (r8 : Int32) =>
        some (r8, q7.2)) (show t < 36 by omega)
      have hm3 : MI M3 n A x P K T S := b2.scr (fun c _ c1 => c2 c c1)
      obtain ⟨M4, d1, d2, d3, d4, d5, d6⟩ := x8_becomesZ (y := rt n A t) hm3.1 hn6 hm3.2.1 hA.1 hm3.2.2.1 w.2.2.2.1.1 w.pastA (fun i hi => by rw [c3 i (by omega)]; exact (q3 t ht).1 i (by omega)) (fun i h1 h6 => by rw [rt_tail h1]; exact w.2.2.1.2 i h1 h6) (fun i hi => rt_bnd hn6 hi)
      refine ⟨M4, ?_, hm3.past w d2 d3 (fun c _ c1 c2 => d4 c c1 c2) d5 d6, fun b hb => by rw [d4 b (by omega) (by omega), c2 b (by omega)]; exact b4 b (by omega) (by omega) (by omega) (by omega) (by omega) (by omega)⟩
      have es := x8_sumR (M := M4) (A := A) hn6 (show t < 36 by omega) (fun i hi => by rw [d4 184 (by omega) (by omega), c2 184 (by omega)]; exact (q3 t ht).1 i hi)
      unfold f_X8_take
      rw [b1, bs, q1, if_pos z0, x8_inR ht hL3, bs, if_neg e10]
      refine Eq.trans c1 ?_
      rw [d1, bs, ml_6, es, bs]
/-- the row of the reference's shift -/
theorem eo_lin {m : Nat} {W : Nat → Nat → Int} {c : Nat → Int} {p : Nat} : eo A (fun i => zs m (fun j => W j i * c j)) p = zs m (fun j => eo A (W j) p * c j) := by
  unfold eo
  rw [zs_congr (f := fun j => (W j p - sA A (fun e => if e.1 = p then W j e.2 else 0)) * c j) (g := fun j => W j p * c j - sA A (fun e => if e.1 = p then W j e.2 else 0) * c j) (fun j _ => Int.sub_mul _ _ _), zs_sub]
  congr 1
  induction A with
  | nil =>
    show (0 : Int) = zs m (fun j => 0 * c j)
    rw [zs_congr (g := fun _ => 0) (fun j _ => Int.zero_mul _), zs_0]
  | cons e A ih =>
    show (if e.1 = p then zs m (fun j => W j e.2 * c j) else 0) + sA A (fun e => if e.1 = p then zs m (fun j => W j e.2 * c j) else 0) = zs m (fun j => ((if e.1 = p then W j e.2 else 0) + sA A (fun e => if e.1 = p then W j e.2 else 0)) * c j)
    rw [ih, zs_congr (f := fun j => ((if e.1 = p then W j e.2 else 0) + sA A (fun e => if e.1 = p then W j e.2 else 0)) * c j) (g := fun j => (if e.1 = p then W j e.2 else 0) * c j + sA A (fun e => if e.1 = p then W j e.2 else 0) * c j) (fun j _ => Int.add_mul _ _ _), zs_add]
    congr 1
    by_cases h : e.1 = p
    · rw [if_pos h]
      exact zs_congr (fun j _ => by rw [if_pos h])
    · rw [if_neg h, zs_congr (g := fun _ => 0) (fun j _ => by rw [if_neg h, Int.zero_mul]), zs_0]
theorem ei_lin {m : Nat} {W : Nat → Nat → Int} {c : Nat → Int} {p : Nat} : ei A (fun i => zs m (fun j => W j i * c j)) p = zs m (fun j => ei A (W j) p * c j) := by
  unfold ei
  rw [zs_congr (f := fun j => (W j p - sA A (fun e => if e.2 = p then W j e.1 else 0)) * c j) (g := fun j => W j p * c j - sA A (fun e => if e.2 = p then W j e.1 else 0) * c j) (fun j _ => Int.sub_mul _ _ _), zs_sub]
  congr 1
  induction A with
  | nil =>
    show (0 : Int) = zs m (fun j => 0 * c j)
    rw [zs_congr (g := fun _ => 0) (fun j _ => Int.zero_mul _), zs_0]
  | cons e A ih =>
    show (if e.2 = p then zs m (fun j => W j e.1 * c j) else 0) + sA A (fun e => if e.2 = p then zs m (fun j => W j e.1 * c j) else 0) = zs m (fun j => ((if e.2 = p then W j e.1 else 0) + sA A (fun e => if e.2 = p then W j e.1 else 0)) * c j)
    rw [ih, zs_congr (f := fun j => ((if e.2 = p then W j e.1 else 0) + sA A (fun e => if e.2 = p then W j e.1 else 0)) * c j) (g := fun j => (if e.2 = p then W j e.1 else 0) * c j + sA A (fun e => if e.2 = p then W j e.1 else 0) * c j) (fun j _ => Int.add_mul _ _ _), zs_add]
    congr 1
    by_cases h : e.2 = p
    · rw [if_pos h]
      exact zs_congr (fun j _ => by rw [if_pos h])
    · rw [if_neg h, zs_congr (g := fun _ => 0) (fun j _ => by rw [if_neg h, Int.zero_mul]), zs_0]
theorem zs_del {p : Nat} (hp : p < n) {c : Nat → Int} : zs n (fun j => (if p = j then 1 else 0) * c j) = c p := by
  rw [← zs_one hp (f := c)]
  refine zs_congr (fun j _ => ?_)
  by_cases h : j = p
  · rw [if_pos h.symm, if_pos h, Int.one_mul]
  · rw [if_neg (fun z => h z.symm), if_neg h, Int.zero_mul]
theorem zs_del' {p : Nat} (hp : p < n) {c : Nat → Int} : zs n (fun j => (if j = p then 1 else 0) * c j) = c p := by
  rw [← zs_one hp (f := c)]
  refine zs_congr (fun j _ => ?_)
  by_cases h : j = p
  · rw [if_pos h, if_pos h, Int.one_mul]
  · rw [if_neg h, if_neg h, Int.zero_mul]
/-- what the reference subtracts, point by point -/
def shc (A : Arr) (X : Nat → Int) (b : Bool) (i j : Nat) : Int := if b then pz A i j * ei A X j else pz A j i * eo A X j
def shf (n : Nat) (A : Arr) (X : Nat → Int) (b : Bool) (i : Nat) : Int := if b then sbk n A X n i else son n A X n i
theorem shc_eq (hA : OKA n A) (hn : n ≤ 6) (X : Nat → Int) (b : Bool) : ∀ i, i < n → - zs n (fun j => shc A X b i j) = shf n A X b i := by
  cases b with
  | true =>
    refine uq_o hA hn (u := fun i => - zs n (fun j => shc A X true i j)) (v := fun i => shf n A X true i) (fun p hp => ?_)
    have e1 : eo A (fun i => - zs n (fun j => shc A X true i j)) p = eo A (fun i => zs n (fun j => pz A i j * (- ei A X j))) p := eo_congr hA hp (fun i _ => by
      rw [zs_congr (f := fun j => pz A i j * (- ei A X j)) (g := fun j => (-1) * shc A X true i j) (fun j _ => by
        show pz A i j * (- ei A X j) = (-1) * (pz A i j * ei A X j)
        rw [Int.mul_neg]; omega), zs_mul]
      exact (Int.neg_one_mul _).symm)
    rw [e1, eo_lin (W := fun j i => pz A i j), zs_congr (g := fun j => (if p = j then 1 else 0) * (- ei A X j)) (fun j _ => by rw [pz_eo hA hn hp j]), zs_del hp]
    exact (sbk_eq hA hn hp).symm
  | false =>
    refine uq_i hA hn (u := fun i => - zs n (fun j => shc A X false i j)) (v := fun i => shf n A X false i) (fun p hp => ?_)
    have e1 : ei A (fun i => - zs n (fun j => shc A X false i j)) p = ei A (fun i => zs n (fun j => pz A j i * (- eo A X j))) p := ei_congr hA hp (fun i _ => by
      rw [zs_congr (f := fun j => pz A j i * (- eo A X j)) (g := fun j => (-1) * shc A X false i j) (fun j _ => by
        show pz A j i * (- eo A X j) = (-1) * (pz A j i * eo A X j)
        rw [Int.mul_neg]; omega), zs_mul]
      exact (Int.neg_one_mul _).symm)
    rw [e1, ei_lin (W := fun j i => pz A j i), zs_congr (g := fun j => (if j = p then 1 else 0) * (- eo A X j)) (fun j hj => by rw [pz_ei hA hn hj p]), zs_del' hp]
    exact (son_eq hA hn hp).symm
theorem x8_s23 (hA : OKA n A) (hn : n ≤ 6) (hp : M 176 0 = nI n) (hq : RQ (M 177) 0 A x) (hC : ∀ i, i < 6 → ∀ j, j < 6 → M 186 (6 * i + j) = unr i j) (hw : ∀ p, p < n → ∀ q, q < n → M 183 (6 * p + q) = pth A p q) (b : Bool) (kk : Int32 → Mem → Option Mem) {i : Nat} (hi : i < n) (h0 : M 193 i = 0) : ∃ M', f_X8_shifts_23 (if b then 1 else 0) (nI i) kk FU 0 M = kk (nI n) M' ∧ (∀ c, c ≠ 193 → M' c = M c) ∧ (∀ j, j ≠ i → M' 193 j = M 193 j) ∧ M' 193 i = Int32.ofInt (shf n A (ti x) b i) := by
  have hst : ∀ (f j : Nat) (M1 : Mem), j < n → ((∀ c, c ≠ 193 → M1 c = M c) ∧ (∀ q, q ≠ i → M1 193 q = M 193 q) ∧ M1 193 i = Int32.ofInt (- zs j (fun j => shc A (ti x) b i j))) → ∃ M', ((∀ c, c ≠ 193 → M' c = M c) ∧ (∀ q, q ≠ i → M' 193 q = M 193 q) ∧ M' 193 i = Int32.ofInt (- zs (j + 1) (fun j => shc A (ti x) b i j))) ∧ f_X8_shifts_23 (if b then 1 else 0) (nI i) kk (f + 1) (nI j) M1 = f_X8_shifts_23 (if b then 1 else 0) (nI i) kk f (nI (j + 1)) M' := by
    intro f j M1 hj hI
    obtain ⟨i1, i2, i3⟩ := hI
    have hp1 : M1 176 0 = nI n := by rw [i1 176 (by omega)]; exact hp
    have hq1 : RQ (M1 177) 0 A x := by rw [i1 177 (by omega)]; exact hq
    have hx1 : ∀ k, k < n → M1 177 (21 + k) = x k := fun k hk => by have := hq1.2.2 k (by omega); rw [Nat.zero_add] at this; exact this
    obtain ⟨u1, u2⟩ := x8_formU (M := M1) hp1 hq1 hA hn (fun a ha b hb => by rw [i1 186 (by omega)]; exact hC a ha b hb) (i := j) (o := 21) (b := 177) (by omega) (by decide) (by decide) hx1
    have v1 : eul n A (unr j) x = Int32.ofInt (eo A (ti x) j) := by
      rw [eul_of hA (Y := uz j) (Z := ti x) (fun k _ => by rw [← ti_unr]; exact (Int32.ofInt_toInt _).symm) (fun k _ => (Int32.ofInt_toInt _).symm), ez_eo hj]
    have v2 : eul n A x (unr j) = Int32.ofInt (ei A (ti x) j) := by
      rw [eul_of hA (Y := ti x) (Z := uz j) (fun k _ => (Int32.ofInt_toInt _).symm) (fun k _ => by rw [← ti_unr]; exact (Int32.ofInt_toInt _).symm), ez_ei hj]
    have e21 : (21 : Int32) = nI 21 := rfl
    cases b with
    | true =>
      have w1 : M1 183 (6 * i + j) = Int32.ofInt (pz A i j) := by rw [i1 183 (by omega), hw i hi j hj]; exact pth_pz i j
      refine ⟨um M1 193 i (M1 193 i - Int32.ofInt (pz A i j) * Int32.ofInt (ei A (ti x) j)), ⟨fun c hc => by rw [um_a hc]; exact i1 c hc, fun q hq => by rw [um_k hq]; exact i2 q hq, ?_⟩, ?_⟩
      · rw [um_s, i3, ← Int32.ofInt_mul, ← Int32.ofInt_sub, zs_s]
        congr 1
        show - zs j (fun j => shc A (ti x) true i j) - pz A i j * ei A (ti x) j = -(zs j (fun j => shc A (ti x) true i j) + pz A i j * ei A (ti x) j)
        omega
      · simp (disch := omega) only [ef_X8_shifts_23, s_X8_shifts_23, hp1, e10, e21, u2, v2, w1, if_true, iL, iT, iE, iN, iZ, i0, cl, nL, yL, nT, yT, s1_i, ad_i, z0, c0, la_1, la_2, la_11, la_12, la_21, la_22, la_27, la_54, la_10, la_243, ml_4, ml_6, ml_27, ml_10, ml_3, false_or, or_false, true_or, or_true, or_self, if_false, if_true, not_true, not_false_iff, bs, lt_p]
    | false =>
      have w1 : M1 183 (6 * j + i) = Int32.ofInt (pz A j i) := by rw [i1 183 (by omega), hw j hj i hi]; exact pth_pz j i
      refine ⟨um M1 193 i (M1 193 i - Int32.ofInt (pz A j i) * Int32.ofInt (eo A (ti x) j)), ⟨fun c hc => by rw [um_a hc]; exact i1 c hc, fun q hq => by rw [um_k hq]; exact i2 q hq, ?_⟩, ?_⟩
      · rw [um_s, i3, ← Int32.ofInt_mul, ← Int32.ofInt_sub, zs_s]
        congr 1
        show - zs j (fun j => shc A (ti x) false i j) - pz A j i * eo A (ti x) j = -(zs j (fun j => shc A (ti x) false i j) + pz A j i * eo A (ti x) j)
        omega
      · simp (disch := omega) only [ef_X8_shifts_23, s_X8_shifts_23, hp1, Bool.false_eq_true, eq_self, e21, u1, v1, w1, iL, iT, iE, iN, iZ, i0, cl, nL, yL, nT, yT, s1_i, ad_i, z0, c0, la_1, la_2, la_11, la_12, la_21, la_22, la_27, la_54, la_10, la_243, ml_4, ml_6, ml_27, ml_10, ml_3, false_or, or_false, true_or, or_true, or_self, if_false, if_true, not_true, not_false_iff, bs, lt_p]
  obtain ⟨f', M2, ⟨g1, g2, g3⟩, g4⟩ := loop_M (fun f M j => f_X8_shifts_23 (if b then 1 else 0) (nI i) kk f (nI j) M) n (fun j M1 => (∀ c, c ≠ 193 → M1 c = M c) ∧ (∀ q, q ≠ i → M1 193 q = M 193 q) ∧ M1 193 i = Int32.ofInt (- zs j (fun j => shc A (ti x) b i j))) hst n 0 M (by omega) ⟨fun _ _ => rfl, fun _ _ => rfl, by rw [h0]; rfl⟩ FU (FU_gt (by omega))
  refine ⟨M2, ?_, g1, g2, by rw [g3, shc_eq hA hn (ti x) b i hi]⟩
  refine Eq.trans g4 ?_
  have hp2 : M2 176 0 = nI n := by rw [g1 176 (by omega)]; exact hp
  rw [ef_X8_shifts_23]
  unfold s_X8_shifts_23
  rw [hp2, if_pos (by rw [iL (by omega) (by omega)]; omega)]
theorem x8_shifts (w : WF n A x P K T S) (hm : MI M n A x P K T S) (b : Bool) : ∃ M', f_X8_shifts (if b then 1 else 0) M = some M' ∧ MI M' n A x P K T S ∧ (∀ c, c < 176 → M' c = M c) ∧ ∀ i, i < n → M' 193 i = Int32.ofInt (shf n A (ti x) b i) := by
  have hA := w.2.1
  have hn := w.1.2
  obtain ⟨M1, b1, b2, b3, b4, b5⟩ := x8_knows w hm
  have hst : ∀ (f i : Nat) (M2 : Mem), i < n → ((∀ c, c ≠ 193 → M2 c = M1 c) ∧ ∀ q, q < i → M2 193 q = Int32.ofInt (shf n A (ti x) b q)) → ∃ M', ((∀ c, c ≠ 193 → M' c = M1 c) ∧ ∀ q, q < i + 1 → M' 193 q = Int32.ofInt (shf n A (ti x) b q)) ∧ f_X8_shifts_6 (if b then 1 else 0) (fun (_ : Int32) (M3 : Mem) => some M3) (f + 1) (nI i) M2 = f_X8_shifts_6 (if b then 1 else 0) (fun (_ : Int32) (M3 : Mem) => some M3) f (nI (i + 1)) M' := by
    intro f i M2 hi hI
    obtain ⟨i1, i2⟩ := hI
    have e : ∀ c, c ≠ 193 → um M2 193 i 0 c = M1 c := fun c hc => by rw [um_a hc]; exact i1 c hc
    obtain ⟨M3, g1, g2, g3, g4⟩ := x8_s23 (M := um M2 193 i 0) (A := A) (x := x) hA hn (by rw [e 176 (by omega)]; exact b2.1) (by rw [e 177 (by omega)]; exact b2.2.1) (fun a ha b hb => by rw [e 186 (by omega)]; exact b2.2.2.2.2.2.2.2.1 a ha b hb) (fun p hp q hq => by rw [e 183 (by omega)]; exact b3.1 p hp q hq) b (fun (_ : Int32) (M5 : Mem) => f_X8_shifts_6 (if b then 1 else 0) (fun (_ : Int32) (M3 : Mem) => some M3) f (nI i + 1) M5) hi um_s
    refine ⟨M3, ⟨fun c hc => by rw [g2 c hc]; exact e c hc, fun q hq => ?_⟩, ?_⟩
    · by_cases hqi : q = i
      · subst hqi; exact g4
      · rw [g3 q hqi, um_k hqi]; exact i2 q (by omega)
    · have hp2 : M2 176 0 = nI n := by rw [i1 176 (by omega)]; exact b2.1
      rw [ef_X8_shifts_6]
      unfold s_X8_shifts_6
      rw [hp2, if_neg (by rw [iL (by omega) (by omega)]; omega), if_neg (nI_in (show i < 6 by omega) (by omega)), cl (by omega), lt_e]
      rw [g1, s1_i]
  obtain ⟨f', M2, ⟨g1, g2⟩, g3⟩ := loop_M (fun f M i => f_X8_shifts_6 (if b then 1 else 0) (fun (_ : Int32) (M3 : Mem) => some M3) f (nI i) M) n (fun i M2 => (∀ c, c ≠ 193 → M2 c = M1 c) ∧ ∀ q, q < i → M2 193 q = Int32.ofInt (shf n A (ti x) b q)) hst n 0 M1 (by omega) ⟨fun _ _ => rfl, fun q hq => by omega⟩ FU (FU_gt (by omega))
  refine ⟨M2, ?_, b2.scr (fun c _ c1 => g1 c c1), fun c hc => by rw [g1 c (by omega)]; exact b4 c (by omega) (by omega) (by omega) (by omega) (by omega) (by omega), g2⟩
  unfold f_X8_shifts
  rw [b1, bs]
  refine Eq.trans g3 ?_
  have hp2 : M2 176 0 = nI n := by rw [g1 176 (by omega)]; exact b2.1
  rw [ef_X8_shifts_6]
  unfold s_X8_shifts_6
  rw [hp2, if_pos (by rw [iL (by omega) (by omega)]; omega)]
theorem op_shift (h : Inv M) (i : Int32) : ∃ r M1 M2, f_X7_shift i M = some (r, M1) ∧ f_X8_shift i M1 = some (r, M2) ∧ Inv M2 := by
  obtain ⟨n, A, x, P, K, T, S, w, hc, hm⟩ := id h
  have hn6 := w.1.2
  have hA := w.2.1
  by_cases hin : i < 0 ∨ ¬ i ≤ 1
  · refine op_no (f := f_X7_shift i) (g := f_X8_shift i) h (-1000002) ?_ ?_
    · unfold f_X7_shift
      by_cases h0 : i < 0
      · rw [if_pos h0]
      · rw [if_neg h0, if_neg (hin.resolve_left h0)]
    · unfold f_X8_shift
      rw [x8_inN (L := 0) (lo := 0) (H := 1) (hi := 1) (by decide) (by decide) (fun q => by
        rcases hin with q1 | q1
        · rw [fa_lt] at q1
          have := (fa_le _ _).mp q.1
          omega
        · exact q1 q.2)]
      rfl
  have h0 : ¬ i < 0 := fun q => hin (Or.inl q)
  have h1 : i ≤ 1 := Classical.byContradiction (fun q => hin (Or.inr q))
  have hI : ∀ M2 : Mem, f_X8_in i.toInt64 0 1 M2 = some 1 := fun M2 => x8_inY (L := 0) (lo := 0) (H := 1) (hi := 1) (by decide) (by decide) ⟨by rw [fa_le]; rw [fa_lt] at h0; omega, h1⟩
  obtain ⟨b, hb⟩ : ∃ b : Bool, b = true ↔ i = 0 := ⟨dc (i = 0), dc_iff⟩
  -- the class's trial row
  obtain ⟨M1, a1, a2, a3, a4, a5, a6⟩ := x7_findWays w hc
  have eR : uc M1 146 (va_cpy (M1 4) (M1 146) 0 0 6) = uc M1 146 (va_cpy (M1 4) (M1 146) 0 0 6) := rfl
  have f2 : ∀ c, c ≠ 146 → uc M1 146 (va_cpy (M1 4) (M1 146) 0 0 6) c = M1 c := fun c hc => uc_a hc
  have hx4 : ∀ k, k < 6 → M1 4 k = x k := fun k hk => a2.1.2.2.2 k hk
  have hY : ∀ k, k < n → uc M1 146 (va_cpy (M1 4) (M1 146) 0 0 6) 146 k = Int32.ofInt (ti x k) := fun k hk => by rw [uc_s, cp_lt (by omega), hx4 k (by omega)]; exact (Int32.ofInt_toInt _).symm
  have hq2 : CQ (uc M1 146 (va_cpy (M1 4) (M1 146) 0 0 6)) 1 n A x := a2.1.on (fun c _ _ => f2 c (by omega))
  have hw2 : WaysOK (uc M1 146 (va_cpy (M1 4) (M1 146) 0 0 6)) n A := a4.on hn6 (fun c _ _ => f2 c (by omega))
  let y : Row := fun k => if k < n then Int32.ofInt (shf n A (ti x) b k) else 0
  obtain ⟨M3, g1, g2, g3⟩ : ∃ M3, (if i = 0 then f_X6_shiftBack 146 (uc M1 146 (va_cpy (M1 4) (M1 146) 0 0 6)) else f_X6_shiftOn 146 (uc M1 146 (va_cpy (M1 4) (M1 146) 0 0 6))) = some M3 ∧ (∀ c, c ≠ 146 → M3 c = M1 c) ∧ ∀ k, k < 6 → M3 146 k = y k := by
    have tail : ∀ k, n ≤ k → k < 6 → uc M1 146 (va_cpy (M1 4) (M1 146) 0 0 6) 146 k = 0 := fun k h1 h2 => by rw [uc_s, cp_lt h2, hx4 k h2]; exact w.2.2.1.2 k h1 h2
    by_cases hi0 : i = 0
    · obtain ⟨M3, k1, k2, k3, k4⟩ := x6_shiftBack hq2 hw2 hA hn6 146 (by omega) hY
      refine ⟨M3, by rw [if_pos hi0]; exact k1, fun c hc => by rw [k2 c hc]; exact f2 c hc, fun k hk => ?_⟩
      show M3 146 k = if k < n then Int32.ofInt (shf n A (ti x) b k) else 0
      have hbt : b = true := hb.mpr hi0
      by_cases hkn : k < n
      · rw [if_pos hkn, k3 k hkn, hbt]; rfl
      · rw [if_neg hkn, k4 k (by omega)]; exact tail k (by omega) hk
    · obtain ⟨M3, k1, k2, k3, k4⟩ := x6_shiftOn hq2 hw2 hA hn6 146 (by omega) hY
      refine ⟨M3, by rw [if_neg hi0]; exact k1, fun c hc => by rw [k2 c hc]; exact f2 c hc, fun k hk => ?_⟩
      show M3 146 k = if k < n then Int32.ofInt (shf n A (ti x) b k) else 0
      have hbf : b = false := by
        cases hbb : b with
        | false => rfl
        | true => exact absurd (hb.mp hbb) hi0
      by_cases hkn : k < n
      · rw [if_pos hkn, k3 k hkn, hbf]; rfl
      · rw [if_neg hkn, k4 k (by omega)]; exact tail k (by omega) hk
  have hc3 : CI M3 n A x P K T S := a2.scr w g2
  have hcls : ∀ R : Option (Int32 × Mem), ((f_X7_isTrialWithinBounds M3).bind fun (r13 : Int32) =>
        if r13 = 0 then
          some ((-1000003), M3)
        else
          (f_X1_remember M3).bind fun (M15 : Mem) =>
          (f_X7_copyRow 146 4 M15).bind fun (M16 : Mem) =>
          (f_X2_tits 1 M16).bind fun (r17 : Int32) =>
          some (r17, M16)) = R → f_X7_shift i M = R := fun R hR => by
    rw [← hR]
    unfold f_X7_shift
    rw [if_neg h0, if_pos h1, a1, bs, x7_copyRow, bs]
    by_cases hi0 : i = 0
    · rw [if_pos hi0] at g1 ⊢
      rw [g1, bs]
    · rw [if_neg hi0] at g1 ⊢
      rw [g1, bs]
  have hi1 : (if b then (1 : Int32) else 0) = if i = 0 then 1 else 0 := by
    by_cases hi0 : i = 0
    · rw [if_pos (hb.mpr hi0), if_pos hi0]
    · rw [if_neg (fun q => hi0 (hb.mp q)), if_neg hi0]
  have hmod : ∀ M4 : Mem, ∀ M5, f_X8_shifts (if b then 1 else 0) M4 = some M5 → ∀ R : Option (Int32 × Mem), ((f_X8_becomes M5).bind fun (q9 : Int32 × Mem) =>
      if q9.1 = 0 then
        some ((-1000003), q9.2)
      else
        (f_X8_tits q9.2).bind fun (r11 : Int32) =>
        some (r11, q9.2)) = R → f_X8_shift i M4 = R := fun M4 M5 h5 R hR => by
    rw [← hR]
    unfold f_X8_shift
    rw [hI M4, bs, if_neg e10]
    rw [hi1] at h5
    by_cases hi0 : i = 0
    · rw [if_pos hi0] at h5 ⊢
      rw [h5, bs]
    · rw [if_neg hi0] at h5 ⊢
      rw [h5, bs]
  have hy0 : ∀ k, n ≤ k → k < 6 → y k = 0 := fun k h1 _ => if_neg (by omega)
  by_cases hbd : ∀ k, k < n → -99 ≤ (y k).toInt ∧ (y k).toInt ≤ 99
  · refine op_mk (f := f_X7_shift i) (g := f_X8_shift i) (eul n A y y) hm (w.row hy0 hbd) ?_ (fun M4 hm4 => ?_)
    · obtain ⟨M4, b1, b2, b3, b4⟩ := x7_become w hc3 (y := y) g3
      refine ⟨_, hcls _ ?_, b2, fun b hb => by rw [b3 b hb, g2 b (by omega)]; exact a5 b (by omega) (by omega)⟩
      have t1 := x7_trialY (M := M3) (n := n) hc3.1.1 hn6 (fun k hk => by rw [g3 k (by omega)]; exact hbd k hk)
      have et : f_X2_tits 1 (uc M4 4 (va_cpy (M4 146) (M4 4) 0 0 6)) = some (eul n A y y) := by
        have e : f_X2_eulerOf 1 4 4 (uc M4 4 (va_cpy (M4 146) (M4 4) 0 0 6)) = some (eul n A y y) := by
          rw [x2_eulerOf b2.1 hA hn6, eul_congr hA (fun k hk => b4 k (by omega)) (fun k hk => b4 k (by omega))]
        unfold f_X2_tits
        rw [e, bs]
      rw [t1, bs, if_neg e10, b1, bs, x7_copyRow, bs, et, bs]
    · obtain ⟨M5, c1, c2, c3, c4⟩ := x8_shifts w hm4 b
      obtain ⟨M6, d1, d2, d3, d4, d5, d6⟩ := x8_becomesZ (y := y) c2.1 hn6 c2.2.1 hA.1 c2.2.2.1 w.2.2.2.1.1 w.pastA (fun k hk => by rw [c4 k hk]; exact (if_pos hk).symm) (fun k h1 h6 => by rw [hy0 k h1 h6]; exact w.2.2.1.2 k h1 h6) hbd
      have hm6 := c2.past w d2 d3 (fun c _ c1 c2 => d4 c c1 c2) d5 d6
      refine ⟨M6, hmod M4 M5 c1 _ ?_, hm6, fun b hb => by rw [d4 b (by omega) (by omega)]; exact c3 b hb⟩
      have et : f_X8_tits M6 = some (eul n A y y) := by
        have hx6 : ∀ k, k < n → M6 177 (21 + k) = y k := fun k hk => by have := d2.2.2 k (by omega); rw [Nat.zero_add] at this; exact this
        have e : f_X8_form 177 21 177 21 M6 = some (eul n A y y) := by
          have e2 := x8_form hm6.1 d2 hA hn6 177 177 21 21 (by decide) (by decide) (by decide) (by decide)
          rw [eul_congr hA hx6 hx6] at e2
          exact e2
        unfold f_X8_tits
        rw [e, bs]
      rw [d1, bs, if_neg e10, et, bs]
  · refine op_mk (f := f_X7_shift i) (g := f_X8_shift i) (-1000003) hm w ⟨M3, hcls _ ?_, hc3, fun b hb => by rw [g2 b (by omega)]; exact a5 b (by omega) (by omega)⟩ (fun M4 hm4 => ?_)
    · have t1 := x7_trialN (M := M3) (n := n) hc3.1.1 hn6 (fun q => hbd (fun k hk => by have := q k hk; rw [g3 k (by omega)] at this; exact this))
      rw [t1, bs, if_pos rfl]
    · obtain ⟨M5, c1, c2, c3, c4⟩ := x8_shifts w hm4 b
      refine ⟨M5, hmod M4 M5 c1 _ ?_, c2, c3⟩
      rw [x8_becomesN (y := M5 193) c2.1 hn6 (fun _ _ => rfl) (fun q => hbd (fun k hk => by
        have := q k hk
        rw [c4 k hk] at this
        show -99 ≤ (if k < n then Int32.ofInt (shf n A (ti x) b k) else 0).toInt ∧ (if k < n then Int32.ofInt (shf n A (ti x) b k) else 0).toInt ≤ 99
        rw [if_pos hk]
        exact this)), bs, if_pos rfl]
end TAKE

/-! ===== the reference places the roots ===== -/
def LM (M : Mem) (n : Nat) (l : List Nat) : Prop := M 176 12 = nI l.length ∧ ∀ j x, l[j]? = some x → ∀ i, i < 6 → M 184 (6 * j + i) = rowOf n 4 x i
section MROOTS
variable {M M0 M' : Mem} {n : Nat} {A : Arr} {x : Row}
theorem x8_sumOf {a o : Nat} (d : Nat → Nat) (ha : o + 6 ≤ alen a) (ha2 : alen a < 1000) (h : ∀ i, i < 6 → M a (o + i) = nI (d i)) : f_X8_sumOf a (nI o) M = some (nI (fo (fun i s => s + d i) 6 0)) := by
  have hh := loop_u (fun m (v : Nat) j => f_X8_sumOf_4 a (nI o) M (fun i2 _ => some i2) m (nI v) (nI j)) (fun v => some (nI v)) 6 (fun i s => s + d i) 0 (fun m j v hj => ?_) (fun m v => ?_) FU (FU_gt (by omega))
  · exact hh
  · simp (disch := omega) only [ef_X8_sumOf_4, s_X8_sumOf_4, e6y hj, h j hj, iL, iT, iE, iN, iZ, i0, cl, nL, yL, nT, yT, s1_i, ad_i, z0, c0, la_1, la_2, la_11, la_12, la_21, la_22, la_27, la_54, la_10, la_243, ml_4, ml_6, ml_27, ml_10, ml_3, false_or, or_false, true_or, or_true, or_self, if_false, if_true, not_true, not_false_iff, bs, lt_p]
  · simp (disch := omega) only [ef_X8_sumOf_4, s_X8_sumOf_4, e6n, iL, iT, iE, iN, iZ, i0, cl, nL, yL, nT, yT, s1_i, ad_i, z0, c0, la_1, la_2, la_11, la_12, la_21, la_22, la_27, la_54, la_10, la_243, ml_4, ml_6, ml_27, ml_10, ml_3, false_or, or_false, true_or, or_true, or_self, if_false, if_true, not_true, not_false_iff, bs, lt_p]
theorem fo_zero {d : Nat → Nat} {s : Nat} : ∀ m k, (∀ i, k ≤ i → i < k + m → d i = 0) → fo (fun i s => s + d i) (k + m) s = fo (fun i s => s + d i) k s := by
  intro m
  induction m with
  | zero => intro k _; rfl
  | succ m ih => intro k h; rw [← Nat.add_assoc, fo_s, ih k (fun i a b => h i a (by omega)), h (k + m) (by omega) (by omega)]; rfl
theorem sum_row (hn : n ≤ 6) (c : Nat) : fo (fun i s => s + (if i < n then dgs 4 n c i else 0)) 6 0 = rsm n c := by
  obtain ⟨m, hm⟩ : ∃ m, 6 = n + m := ⟨6 - n, by omega⟩
  rw [hm, fo_zero m n (fun i a b => if_neg (by omega))]
  unfold rsm
  refine fo_congr (fun k hk b => ?_)
  rw [if_pos hk]
  rfl
theorem rowOf_n (c i : Nat) : rowOf n 4 c i = nI (if i < n then dgs 4 n c i else 0) := by
  unfold rowOf
  by_cases h : i < n
  · rw [if_pos h, if_pos h]; rfl
  · rw [if_neg h, if_neg h]; rfl
theorem LM.sum {l : List Nat} (h : LM M n l) (hl : l.length ≤ 36) (hn : n ≤ 6) {j c : Nat} (hj : l[j]? = some c) : f_X8_sumOf 184 (nI (6 * j)) M = some (nI (rsm n c)) := by
  have hjl := (List.getElem?_eq_some_iff.mp hj).1
  rw [x8_sumOf (fun i => if i < n then dgs 4 n c i else 0) (show 6 * j + 6 ≤ alen 184 from by have : alen 184 = 216 := by decide
                                                                                              omega) (by decide) (fun i hi => by rw [h.2 j c hj i hi]; exact rowOf_n c i), sum_row hn]
theorem x8_p35 (kk : Int32 → Mem → Option Mem) {a : Nat} (ha : a < 35) : ∃ M', f_X8_placesRoot_35 (nI (a + 1)) kk FU 0 M = kk 6 M' ∧ (∀ c, c ≠ 184 → M' c = M c) ∧ (∀ i, i < 6 → M' 184 (6 * (a + 1) + i) = M 184 (6 * a + i)) ∧ ∀ q, (q < 6 * (a + 1) ∨ 6 * (a + 1) + 6 ≤ q) → M' 184 q = M 184 q := by
  have e1 : nI (a + 1) - 1 = nI a := nI_pred a
  have hst : ∀ (f i : Nat) (M1 : Mem), i < 6 → ((∀ c, c ≠ 184 → M1 c = M c) ∧ (∀ j, j < i → M1 184 (6 * (a + 1) + j) = M 184 (6 * a + j)) ∧ ∀ q, (q < 6 * (a + 1) ∨ 6 * (a + 1) + i ≤ q) → M1 184 q = M 184 q) → ∃ M', ((∀ c, c ≠ 184 → M' c = M c) ∧ (∀ j, j < i + 1 → M' 184 (6 * (a + 1) + j) = M 184 (6 * a + j)) ∧ ∀ q, (q < 6 * (a + 1) ∨ 6 * (a + 1) + (i + 1) ≤ q) → M' 184 q = M 184 q) ∧ f_X8_placesRoot_35 (nI (a + 1)) kk (f + 1) (nI i) M1 = f_X8_placesRoot_35 (nI (a + 1)) kk f (nI (i + 1)) M' := by
    intro f i M1 hi hI
    obtain ⟨i1, i2, i3⟩ := hI
    refine ⟨um M1 184 (6 * (a + 1) + i) (M1 184 (6 * a + i)), ⟨fun c hc => by rw [um_a hc]; exact i1 c hc, fun j hj => ?_, fun q hq => ?_⟩, ?_⟩
    · by_cases hji : j = i
      · subst hji; rw [um_s, i3 _ (by omega)]
      · rw [um_k (by omega)]; exact i2 j (by omega)
    · rw [um_k (by omega)]; exact i3 q (by omega)
    · simp (disch := omega) only [ef_X8_placesRoot_35, s_X8_placesRoot_35, e6y hi, e1, iL, iT, iE, iN, iZ, i0, cl, nL, yL, nT, yT, s1_i, ad_i, z0, c0, la_1, la_2, la_11, la_12, la_21, la_22, la_27, la_54, la_10, la_243, ml_4, ml_6, ml_27, ml_10, ml_3, false_or, or_false, true_or, or_true, or_self, if_false, if_true, not_true, not_false_iff, bs, lt_p]
  obtain ⟨f', M2, ⟨g1, g2, g3⟩, g4⟩ := loop_M (fun f M i => f_X8_placesRoot_35 (nI (a + 1)) kk f (nI i) M) 6 (fun i M1 => (∀ c, c ≠ 184 → M1 c = M c) ∧ (∀ j, j < i → M1 184 (6 * (a + 1) + j) = M 184 (6 * a + j)) ∧ ∀ q, (q < 6 * (a + 1) ∨ 6 * (a + 1) + i ≤ q) → M1 184 q = M 184 q) hst 6 0 M (by omega) ⟨fun _ _ => rfl, fun j hj => by omega, fun _ _ => rfl⟩ FU (FU_gt (by omega))
  refine ⟨M2, ?_, g1, g2, g3⟩
  refine Eq.trans g4 ?_
  simp only [ef_X8_placesRoot_35, s_X8_placesRoot_35, e6n, if_true]
  rfl
theorem x8_p79 (kk : Int32 → Mem → Option Mem) {a : Nat} (ha : a < 36) : ∃ M', f_X8_placesRoot_79 (nI a) kk FU 0 M = kk 6 M' ∧ (∀ c, c ≠ 184 → M' c = M c) ∧ (∀ i, i < 6 → M' 184 (6 * a + i) = M 192 i) ∧ ∀ q, (q < 6 * a ∨ 6 * a + 6 ≤ q) → M' 184 q = M 184 q := by
  have hst : ∀ (f i : Nat) (M1 : Mem), i < 6 → ((∀ c, c ≠ 184 → M1 c = M c) ∧ (∀ j, j < i → M1 184 (6 * a + j) = M 192 j) ∧ ∀ q, (q < 6 * a ∨ 6 * a + 6 ≤ q) → M1 184 q = M 184 q) → ∃ M', ((∀ c, c ≠ 184 → M' c = M c) ∧ (∀ j, j < i + 1 → M' 184 (6 * a + j) = M 192 j) ∧ ∀ q, (q < 6 * a ∨ 6 * a + 6 ≤ q) → M' 184 q = M 184 q) ∧ f_X8_placesRoot_79 (nI a) kk (f + 1) (nI i) M1 = f_X8_placesRoot_79 (nI a) kk f (nI (i + 1)) M' := by
    intro f i M1 hi hI
    obtain ⟨i1, i2, i3⟩ := hI
    refine ⟨um M1 184 (6 * a + i) (M1 192 i), ⟨fun c hc => by rw [um_a hc]; exact i1 c hc, fun j hj => ?_, fun q hq => ?_⟩, ?_⟩
    · by_cases hji : j = i
      · subst hji; rw [um_s, i1 192 (by omega)]
      · rw [um_k (by omega)]; exact i2 j (by omega)
    · rw [um_k (by omega)]; exact i3 q (by omega)
    · simp (disch := omega) only [ef_X8_placesRoot_79, s_X8_placesRoot_79, e6y hi, iL, iT, iE, iN, iZ, i0, cl, nL, yL, nT, yT, s1_i, ad_i, z0, c0, la_1, la_2, la_11, la_12, la_21, la_22, la_27, la_54, la_10, la_243, ml_4, ml_6, ml_27, ml_10, ml_3, false_or, or_false, true_or, or_true, or_self, if_false, if_true, not_true, not_false_iff, bs, lt_p]
  obtain ⟨f', M2, ⟨g1, g2, g3⟩, g4⟩ := loop_M (fun f M i => f_X8_placesRoot_79 (nI a) kk f (nI i) M) 6 (fun i M1 => (∀ c, c ≠ 184 → M1 c = M c) ∧ (∀ j, j < i → M1 184 (6 * a + j) = M 192 j) ∧ ∀ q, (q < 6 * a ∨ 6 * a + 6 ≤ q) → M1 184 q = M 184 q) hst 6 0 M (by omega) ⟨fun _ _ => rfl, fun j hj => by omega, fun _ _ => rfl⟩ FU (FU_gt (by omega))
  refine ⟨M2, ?_, g1, g2, g3⟩
  refine Eq.trans g4 ?_
  simp only [ef_X8_placesRoot_79, s_X8_placesRoot_79, e6n, if_true]
  rfl
/-- the rows behind a place have gone on by one -/
theorem x8_p5 (kk : Int32 → Mem → Option Mem) {l : List Nat} (hl : l.length < 36) (hn : n ≤ 6) {c : Nat} (hM : LM M n l) (ht : ∀ i, i < 6 → M 192 i = rowOf n 4 c i) : ∀ a M1, a ≤ l.length → ((∀ q, q ≠ 184 → M1 q = M q) ∧ (∀ j y, j < a → l[j]? = some y → ∀ i, i < 6 → M1 184 (6 * j + i) = rowOf n 4 y i) ∧ (∀ j y, a ≤ j → l[j]? = some y → (∀ i, i < 6 → M1 184 (6 * (j + 1) + i) = rowOf n 4 y i) ∧ rsm n c < rsm n y)) → ∀ f, a < f → ∃ k M', k ≤ a ∧ f_X8_placesRoot_5 kk f (nI a) M1 = kk (nI k) M' ∧ (∀ q, q ≠ 184 → M' q = M q) ∧ (∀ j y, j < k → l[j]? = some y → ∀ i, i < 6 → M' 184 (6 * j + i) = rowOf n 4 y i) ∧ (∀ j y, k ≤ j → l[j]? = some y → (∀ i, i < 6 → M' 184 (6 * (j + 1) + i) = rowOf n 4 y i) ∧ rsm n c < rsm n y) ∧ (k = 0 ∨ ∃ y, l[k - 1]? = some y ∧ rsm n y ≤ rsm n c) := by
  intro a
  induction a with
  | zero =>
    intro M1 _ hI f hf
    obtain ⟨f, rfl⟩ : ∃ f', f = f' + 1 := ⟨f - 1, by omega⟩
    refine ⟨0, M1, Nat.le_refl _, ?_, hI.1, hI.2.1, hI.2.2, Or.inl rfl⟩
    have e0 : nI 0 ≤ 0 := by decide
    rw [ef_X8_placesRoot_5]
    unfold s_X8_placesRoot_5
    rw [if_pos e0]
  | succ a ih =>
    intro M1 ha hI f hf
    obtain ⟨f, rfl⟩ : ∃ f', f = f' + 1 := ⟨f - 1, by omega⟩
    obtain ⟨i1, i2, i3⟩ := hI
    have hal : a < l.length := by omega
    have hy : l[a]? = some l[a] := List.getElem?_eq_getElem hal
    have a184 : alen 184 = 216 := by decide
    have s1 : f_X8_sumOf 184 (nI (6 * a)) M1 = some (nI (rsm n l[a])) := by
      rw [x8_sumOf (fun i => if i < n then dgs 4 n l[a] i else 0) (show 6 * a + 6 ≤ alen 184 by omega) (by decide) (fun i hi => by rw [i2 a l[a] (by omega) hy i hi]; exact rowOf_n l[a] i), sum_row hn]
    have s2 : f_X8_sumOf 192 0 M1 = some (nI (rsm n c)) := by
      have h := x8_sumOf (M := M1) (a := 192) (o := 0) (fun i => if i < n then dgs 4 n c i else 0) (by decide) (by decide) (fun i hi => by rw [Nat.zero_add, i1 192 (by omega), ht i hi]; exact rowOf_n c i)
      rw [sum_row hn] at h
      exact h
    have e1 : nI (a + 1) - 1 = nI a := nI_pred a
    have e0 : ¬ nI (a + 1) ≤ 0 := nI_nle (by omega) (by omega)
    have r1 := rsm_lt hn l[a]
    have r2 := rsm_lt hn c
    by_cases hle : rsm n l[a] ≤ rsm n c
    · refine ⟨a + 1, M1, Nat.le_refl _, ?_, i1, i2, i3, Or.inr ⟨l[a], by rw [Nat.add_sub_cancel]; exact hy, hle⟩⟩
      simp (disch := omega) only [ef_X8_placesRoot_5, s_X8_placesRoot_5, e0, e1, s1, s2, hle, iL, iT, iE, iN, iZ, i0, cl, nL, yL, nT, yT, s1_i, ad_i, z0, c0, la_1, la_2, la_11, la_12, la_21, la_22, la_27, la_54, la_10, la_243, ml_4, ml_6, ml_27, ml_10, ml_3, false_or, or_false, true_or, or_true, or_self, if_false, if_true, not_true, not_false_iff, bs, lt_p]
    · obtain ⟨M2, g1, g2, g3, g4⟩ := x8_p35 (M := M1) (fun (_ : Int32) (M6 : Mem) => f_X8_placesRoot_5 kk f (nI (a + 1) + (-1)) M6) (show a < 35 by omega)
      have e3 : nI (a + 1) + (-1) = nI a := by rw [← e1]; exact (Int32.sub_eq_add_neg _ _).symm
      obtain ⟨k, M3, k1, k2, k3, k4, k5, k6⟩ := ih M2 (by omega) ⟨fun q hq => by rw [g2 q hq]; exact i1 q hq, fun j y hj hjy i hi => by rw [g4 _ (by omega)]; exact i2 j y (by omega) hjy i hi, fun j y hj hjy => by
        by_cases hja : j = a
        · subst hja
          rw [hy] at hjy
          cases hjy
          exact ⟨fun i hi => by rw [g3 i hi]; exact i2 j _ (by omega) hy i hi, by omega⟩
        · obtain ⟨q1, q2⟩ := i3 j y (by omega) hjy
          exact ⟨fun i hi => by rw [g4 _ (by omega)]; exact q1 i hi, q2⟩⟩ f (by omega)
      refine ⟨k, M3, by omega, ?_, k3, k4, k5, k6⟩
      rw [← k2]
      rw [ef_X8_placesRoot_5]
      unfold s_X8_placesRoot_5
      rw [if_neg e0, e1, ml_6, s1, bs, s2, bs, if_neg (by rw [iL (by omega) (by omega)]; exact hle)]
      rw [g1, e3]
def insA (l : List Nat) (k c : Nat) : List Nat := l.take k ++ c :: l.drop k
theorem x8_places {l : List Nat} (hl : l.length < 36) (hn : n ≤ 6) {c : Nat} (hM : LM M n l) (ht : ∀ i, i < 6 → M 192 i = rowOf n 4 c i) : ∃ k M', k ≤ l.length ∧ f_X8_placesRoot M = some M' ∧ LM M' n (insA l k c) ∧ (∀ q, q ≠ 184 → q ≠ 176 → M' q = M q) ∧ (∀ j, j ≠ 12 → M' 176 j = M 176 j) ∧ (∀ j y, k ≤ j → l[j]? = some y → rsm n c < rsm n y) ∧ (k = 0 ∨ ∃ y, l[k - 1]? = some y ∧ rsm n y ≤ rsm n c) := by
  obtain ⟨k, M1, k1, k2, k3, k4, k5, k6⟩ := x8_p5 (M := M) (fun (i1_2 : Int32) (M3 : Mem) =>
    f_X8_placesRoot_79 i1_2 (fun (_ : Int32) (M5 : Mem) =>
      lt (um M5 176 12 ((M5 176 12) + 1)) fun (M6 : Mem) =>
      some M6) FU 0 M3) hl hn hM ht l.length M (Nat.le_refl _) ⟨fun _ _ => rfl, fun j y _ hjy i hi => hM.2 j y hjy i hi, fun j y hj hjy => by have := (List.getElem?_eq_some_iff.mp hjy).1; omega⟩ FU (FU_gt (by omega))
  obtain ⟨M2, g1, g2, g3, g4⟩ := x8_p79 (M := M1) (fun (_ : Int32) (M5 : Mem) =>
      lt (um M5 176 12 ((M5 176 12) + 1)) fun (M6 : Mem) =>
      some M6) (show k < 36 by omega)
  have e12 : M2 176 12 = nI l.length := by rw [g2 176 (by omega), k3 176 (by omega)]; exact hM.1
  refine ⟨k, um M2 176 12 (nI (l.length + 1)), k1, ?_, ⟨?_, fun j y hj i hi => ?_⟩, fun q q1 q2 => by rw [um_a q2, g2 q q1]; exact k3 q q1, fun j hj => by rw [um_k hj, g2 176 (by omega)]; rw [k3 176 (by omega)], fun j y a b => (k5 j y a b).2, k6⟩
  · unfold f_X8_placesRoot
    rw [hM.1, lt_e]
    refine Eq.trans k2 ?_
    refine Eq.trans g1 ?_
    rw [e12, s1_i, lt_e]
  · rw [um_s]
    congr 1
    unfold insA
    rw [List.length_append, List.length_cons, List.length_take, List.length_drop]
    omega
  · rw [um_a (by omega)]
    unfold insA at hj
    have hkl : (l.take k).length = k := by rw [List.length_take]; omega
    by_cases hjk : j < k
    · rw [List.getElem?_append_left (by omega), List.getElem?_take_of_lt hjk] at hj
      rw [g4 _ (by omega)]
      exact k4 j y hjk hj i hi
    · rw [List.getElem?_append_right (by omega), hkl] at hj
      by_cases hjk2 : j = k
      · subst hjk2
        rw [Nat.sub_self] at hj
        have hj : c = y := by simpa using hj
        subst hj
        rw [g3 i hi, k3 192 (by omega)]
        exact ht i hi
      · obtain ⟨d, hd⟩ : ∃ d, j - k = d + 1 := ⟨j - k - 1, by omega⟩
        rw [hd, List.getElem?_cons_succ, List.getElem?_drop] at hj
        rw [g4 _ (by omega)]
        have := (k5 (k + d) y (by omega) hj).1 i hi
        rw [show k + d + 1 = j by omega] at this
        exact this
theorem insA_mem {l : List Nat} {k c x : Nat} : x ∈ insA l k c ↔ x = c ∨ x ∈ l := by
  unfold insA
  rw [List.mem_append, List.mem_cons]
  constructor
  · rintro (h | h | h)
    · exact Or.inr (List.mem_of_mem_take h)
    · exact Or.inl h
    · exact Or.inr (List.mem_of_mem_drop h)
  · rintro (h | h)
    · exact Or.inr (Or.inl h)
    · rw [← List.take_append_drop k l, List.mem_append] at h
      rcases h with h | h
      · exact Or.inl h
      · exact Or.inr (Or.inr h)
theorem insA_srt {l : List Nat} {k c : Nat} (h : l.Pairwise (ahd n)) (hk : k ≤ l.length) (hc : ∀ y ∈ l, c < y) (h1 : ∀ j y, k ≤ j → l[j]? = some y → rsm n c < rsm n y) (h2 : k = 0 ∨ ∃ y, l[k - 1]? = some y ∧ rsm n y ≤ rsm n c) : (insA l k c).Pairwise (ahd n) := by
  have ht : (l.take k ++ l.drop k).Pairwise (ahd n) := by rw [List.take_append_drop]; exact h
  rw [List.pairwise_append] at ht
  obtain ⟨t1, t2, t3⟩ := ht
  unfold insA
  rw [List.pairwise_append, List.pairwise_cons]
  have hd : ∀ b ∈ l.drop k, rsm n c < rsm n b := fun b hb => by
    obtain ⟨j, hj, e⟩ := List.getElem_of_mem hb
    have e2 : (l.drop k)[j]? = some b := by rw [List.getElem?_eq_getElem hj, e]
    rw [List.getElem?_drop] at e2
    exact h1 (k + j) b (by omega) e2
  have ha : ∀ a ∈ l.take k, rsm n a ≤ rsm n c := fun a ha => by
    rcases h2 with h2 | ⟨y, y1, y2⟩
    · rw [h2, List.take_zero] at ha; cases ha
    · obtain ⟨j, hj, e⟩ := List.getElem_of_mem ha
      have hjk : j < k := by rw [List.length_take] at hj; omega
      rw [List.getElem_take] at e
      by_cases hjk1 : j = k - 1
      · subst hjk1
        rw [List.getElem?_eq_getElem (by omega), e] at y1
        cases y1
        exact y2
      · have hyl := (List.getElem?_eq_some_iff.mp y1)
        obtain ⟨hy1, hy2⟩ := hyl
        have hp := List.pairwise_iff_getElem.mp h j (k - 1) (by omega) hy1 (by omega)
        rw [e, hy2] at hp
        rcases hp with hp | hp <;> omega
  refine ⟨t1, ⟨fun b hb => Or.inl (hd b hb), t2⟩, fun a haa b hb => ?_⟩
  rcases List.mem_cons.mp hb with rfl | hb
  · have h3 := ha a haa
    have h4 := hc a (List.mem_of_mem_take haa)
    by_cases h5 : rsm n a = rsm n b
    · exact Or.inr ⟨h5, h4⟩
    · exact Or.inl (by omega)
  · exact t3 a haa b hb
theorem srt_eq {l1 l2 : List Nat} (h1 : l1.Pairwise (ahd n)) (h2 : l2.Pairwise (ahd n)) (h : ∀ a, a ∈ l1 ↔ a ∈ l2) : l1 = l2 := by
  have nd : ∀ l : List Nat, l.Pairwise (ahd n) → l.Nodup := fun l hl => hl.imp (fun {a b} q z => by subst z; rcases q with q | q <;> omega)
  refine List.Perm.eq_of_pairwise (le := ahd n) (fun a b _ _ q1 q2 => ?_) h1 h2 ((List.perm_ext_iff_of_nodup (nd l1 h1) (nd l2 h2)).mpr h)
  rcases q1 with q1 | q1 <;> rcases q2 with q2 | q2 <;> omega
theorem x8_k67 (hp : M0 176 0 = nI n) (hq : RQ (M0 177) 0 A x) (hA : OKA n A) (hn : n ≤ 6) (hn1 : 1 ≤ n) (hf : fnt n A = true) (kk : Int32 → Mem → Option Mem) : ∀ c M l, c < 4 ^ n → (∀ q, q ≠ 192 → q ≠ 184 → q ≠ 176 → M q = M0 q) → (∀ j, j ≠ 12 → M 176 j = M0 176 j) → (∀ i, n ≤ i → i < 6 → M 192 i = 0) → LM M n l → l.Pairwise (ahd n) → (∀ y, y ∈ l ↔ (y ∈ rts n A ∧ c < y)) → ∀ f, c < f → ∃ M', f_X8_knows_67 kk f (nI c) M = kk 0 M' ∧ (∀ q, q ≠ 192 → q ≠ 184 → q ≠ 176 → M' q = M0 q) ∧ (∀ j, j ≠ 12 → M' 176 j = M0 176 j) ∧ LM M' n (rts n A) := by
  intro c
  have h4 := p4_le hn
  induction c with
  | zero =>
    intro M l _ e1 e2 e3 hL hs hm f hf2
    obtain ⟨f, rfl⟩ : ∃ f', f = f' + 1 := ⟨f - 1, by omega⟩
    have hl : l = rts n A := srt_eq hs rts_sorted (fun a => by
      rw [hm a]
      refine ⟨fun q => q.1, fun q => ⟨q, ?_⟩⟩
      apply Classical.byContradiction
      intro h0
      have h0 : a = 0 := by omega
      subst h0
      have := ((mem_rts hA hn).mp q).2
      rw [bb_zero (fun i _ => by unfold zr; rw [dgs_zero]; rfl)] at this
      omega)
    subst hl
    refine ⟨M, ?_, e1, e2, hL⟩
    have e0 : nI 0 ≤ 0 := by decide
    rw [ef_X8_knows_67]
    unfold s_X8_knows_67
    rw [if_pos e0]
    rfl
  | succ c ih =>
    intro M l hc e1 e2 e3 hL hs hm f hf2
    obtain ⟨f, rfl⟩ : ∃ f', f = f' + 1 := ⟨f - 1, by omega⟩
    have hpM : M 176 0 = nI n := by rw [e2 0 (by omega)]; exact hp
    obtain ⟨M1, g1, g2, g3, g4⟩ := x8_tries hpM hn hn1 (c + 1) 4 (by omega) (by omega) (by omega)
    have hfm := x8_form192 (M := M1) (A := A) (x := x) (n := n) (by rw [g2 176 (by omega)]; exact hpM) (by rw [g2 177 (by omega), e1 177 (by omega) (by omega) (by omega)]; exact hq) hA hn (y := rowOf n 4 (c + 1)) (fun i hi => by rw [g3 i hi, rowOf_d hi])
    have e0 : ¬ nI (c + 1) ≤ 0 := nI_nle (by omega) (by omega)
    have e4 : nI (c + 1) + (-1) = nI c := by rw [← nI_pred c]; exact (Int32.sub_eq_add_neg _ _).symm
    have e44 : (4 : Int32) = nI 4 := rfl
    have hL1 : LM M1 n l := ⟨by rw [g2 176 (by omega)]; exact hL.1, fun j y hj i hi => by rw [g2 184 (by omega)]; exact hL.2 j y hj i hi⟩
    by_cases h1 : eul n A (rowOf n 4 (c + 1)) (rowOf n 4 (c + 1)) = 1
    · have hr : c + 1 ∈ rts n A := (mem_rts hA hn).mpr ⟨hc, (eul1 hA hn).mp h1⟩
      have hnd : ((c + 1) :: l).Nodup := by
        rw [List.nodup_cons]
        refine ⟨fun q => ?_, hs.imp (fun {a b} q z => by subst z; rcases q with q | q <;> omega)⟩
        have := ((hm _).mp q).2
        omega
      have h36 := nd_len hnd (l2 := rts n A) (fun a ha => by
        rcases List.mem_cons.mp ha with rfl | ha
        · exact hr
        · exact ((hm a).mp ha).1)
      rw [List.length_cons] at h36
      have h36' := fnt_36 hA hn hf
      obtain ⟨k, M2, k1, k2, k3, k4, k5, k6, k7⟩ := x8_places (M := M1) (l := l) (show l.length < 36 by omega) hn (c := c + 1) hL1 (fun i hi => by
        by_cases hin : i < n
        · rw [g3 i hin, rowOf_d hin]
        · rw [g4 i (by omega), e3 i (by omega) hi]
          unfold rowOf
          rw [if_neg hin])
      obtain ⟨M3, m1, m2⟩ := ih M2 (insA l k (c + 1)) (by omega) (fun q q1 q2 q3 => by rw [k4 q q2 q3, g2 q q1]; exact e1 q q1 q2 q3) (fun j hj => by rw [k5 j hj, g2 176 (by omega)]; exact e2 j hj) (fun i a b => by rw [k4 192 (by omega) (by omega), g4 i a]; exact e3 i a b) k3 (insA_srt hs k1 (fun y hy => ((hm y).mp hy).2) k6 k7) (fun y => by
        rw [insA_mem, hm y]
        constructor
        · rintro (rfl | ⟨q1, q2⟩)
          · exact ⟨hr, by omega⟩
          · exact ⟨q1, by omega⟩
        · rintro ⟨q1, q2⟩
          by_cases hyc : y = c + 1
          · exact Or.inl hyc
          · exact Or.inr ⟨q1, by omega⟩) f (by omega)
      refine ⟨M3, ?_, m2⟩
      rw [← m1]
      have e36 : ((36 : Int32) ≤ nI l.length) ↔ False := e36y (by omega)
      simp (disch := omega) only [ef_X8_knows_67, s_X8_knows_67, e0, e44, g1, hfm, h1, hL1.1, e36, k2, e4, eq_self, iL, iT, iE, iN, iZ, i0, cl, nL, yL, nT, yT, s1_i, ad_i, z0, c0, la_1, la_2, la_11, la_12, la_21, la_22, la_27, la_54, la_10, la_243, ml_4, ml_6, ml_27, ml_10, ml_3, false_or, or_false, true_or, or_true, or_self, if_false, if_true, not_true, not_false_iff, bs, lt_p]
    · obtain ⟨M3, m1, m2⟩ := ih M1 l (by omega) (fun q q1 q2 q3 => by rw [g2 q q1]; exact e1 q q1 q2 q3) (fun j hj => by rw [g2 176 (by omega)]; exact e2 j hj) (fun i a b => by rw [g4 i a]; exact e3 i a b) hL1 hs (fun y => by
        rw [hm y]
        constructor
        · rintro ⟨q1, q2⟩; exact ⟨q1, by omega⟩
        · rintro ⟨q1, q2⟩
          refine ⟨q1, ?_⟩
          by_cases hyc : y = c + 1
          · subst hyc
            exact absurd ((eul1 hA hn).mpr ((mem_rts hA hn).mp q1).2) h1
          · omega) f (by omega)
      refine ⟨M3, ?_, m2⟩
      rw [← m1]
      simp (disch := omega) only [ef_X8_knows_67, s_X8_knows_67, e0, e44, g1, hfm, h1, e4, iL, iT, iE, iN, iZ, i0, cl, nL, yL, nT, yT, s1_i, ad_i, z0, c0, la_1, la_2, la_11, la_12, la_21, la_22, la_27, la_54, la_10, la_243, ml_4, ml_6, ml_27, ml_10, ml_3, false_or, or_false, true_or, or_true, or_self, if_false, if_true, not_true, not_false_iff, bs, lt_p]
end MROOTS

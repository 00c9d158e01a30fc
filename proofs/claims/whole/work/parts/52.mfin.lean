/-! ===== the reference: finite or not ===== -/
theorem dv_i {a b : Nat} (ha : a < 2147483648) (hb : b < 2147483648) : nI a / nI b = nI (a / b) := by
  have h1 : a / b ≤ a := Nat.div_le_self a b
  have hne : nI a ≠ Int32.minValue := fun q => by
    have := congrArg Int32.toInt q
    rw [nI_toInt ha] at this
    have e : Int32.minValue.toInt = -2147483648 := by decide
    rw [e] at this
    omega
  rw [fa_eq, Int32.toInt_div_of_ne_left _ _ hne, nI_toInt ha, nI_toInt hb, nI_toInt (by omega)]
  exact (Int.ofNat_tdiv a b).symm
theorem md_i {a b : Nat} (ha : a < 2147483648) (hb : b < 2147483648) : nI a - nI a / nI b * nI b = nI (a % b) := by
  rw [dv_i ha hb, ml_i, sb_i (Nat.div_mul_le_self a b)]
  congr 1
  have := Nat.mod_add_div a b
  rw [Nat.mul_comm] at this
  omega
section MFIN
variable {M M' : Mem} {n : Nat} {A : Arr} {x : Row}
theorem x8_power (b : Nat) (hn : n ≤ 6) : f_X8_power (nI b) (nI n) M = some (nI (b ^ n)) := by
  have h := loop_u (fun m (v : Nat) j => f_X8_power_4 (nI b) (nI n) M (fun i2 _ => some i2) m (nI v) (nI j)) (fun v => some (nI v)) n (fun _ v => v * b) 1 (fun m j v hj => ?_) (fun m v => ?_) FU (FU_gt (by omega))
  · have e : ∀ j, fo (fun _ v => v * b) j 1 = b ^ j := by
      intro j
      induction j with
      | zero => rfl
      | succ j ih => rw [fo_s, ih, Nat.pow_succ]
    rw [e] at h
    exact h
  · simp (disch := omega) only [ef_X8_power_4, s_X8_power_4, ml_i, iL, iT, iE, iN, iZ, i0, cl, nL, yL, nT, yT, s1_i, ad_i, z0, c0, la_1, la_2, la_11, la_12, la_21, la_22, la_27, la_54, la_10, la_243, ml_4, ml_6, ml_27, ml_10, ml_3, false_or, or_false, true_or, or_true, or_self, if_false, if_true, not_true, not_false_iff, bs, lt_p]
  · simp (disch := omega) only [ef_X8_power_4, s_X8_power_4, iL, iT, iE, iN, iZ, i0, cl, nL, yL, nT, yT, s1_i, ad_i, z0, c0, la_1, la_2, la_11, la_12, la_21, la_22, la_27, la_54, la_10, la_243, ml_4, ml_6, ml_27, ml_10, ml_3, false_or, or_false, true_or, or_true, or_self, if_false, if_true, not_true, not_false_iff, bs, lt_p]
/-- the row of a number's figures -/
theorem x8_tries (hp : M 176 0 = nI n) (hn : n ≤ 6) (hn1 : 1 ≤ n) (c b : Nat) (hc : c < 100000) (hb : b < 100) (hb0 : 0 < b) : ∃ M', f_X8_tries (nI c) (nI b) M = some M' ∧ (∀ q, q ≠ 192 → M' q = M q) ∧ (∀ i, i < n → M' 192 i = nI (dgs b n c i)) ∧ ∀ i, n ≤ i → M' 192 i = M 192 i := by
  have hb1 : nI b = 0 ↔ False := iff_of_false (nI_ne0 hb0 (by omega)) id
  have hdv : ∀ j, c / b ^ j < 100000 := fun j => Nat.lt_of_le_of_lt (Nat.div_le_self _ _) hc
  have hst : ∀ (f j : Nat) (M1 : Mem), j < n → ((∀ q, q ≠ 192 → M1 q = M q) ∧ (∀ i, i < n → n - j ≤ i → M1 192 i = nI (dgs b n c i)) ∧ ∀ i, n ≤ i → M1 192 i = M 192 i) → ∃ M', ((∀ q, q ≠ 192 → M' q = M q) ∧ (∀ i, i < n → n - (j + 1) ≤ i → M' 192 i = nI (dgs b n c i)) ∧ ∀ i, n ≤ i → M' 192 i = M 192 i) ∧ f_X8_tries_10 (nI c) (nI b) (fun (_ : Int32) (_ : Int32) (M4 : Mem) => some M4) (f + 1) (nI (c / b ^ j)) (nI (n - j) - 1) M1 = f_X8_tries_10 (nI c) (nI b) (fun (_ : Int32) (_ : Int32) (M4 : Mem) => some M4) f (nI (c / b ^ (j + 1))) (nI (n - (j + 1)) - 1) M' := by
    intro f j M1 hj hI
    obtain ⟨i1, i2, i3⟩ := hI
    have hd := hdv j
    have e2 : nI (n - j) - 1 = nI (n - 1 - j) := by rw [show n - 1 - j = n - j - 1 by omega]; exact sb_i (b := 1) (by omega)
    have e3 : nI (n - 1 - j) + (-1) = nI (n - (j + 1)) - 1 := by rw [show n - (j + 1) = n - 1 - j by omega]; exact (Int32.sub_eq_add_neg _ _).symm
    have e4 : nI (c / b ^ j) / nI b = nI (c / b ^ (j + 1)) := by rw [dv_i (by omega) (by omega), Nat.div_div_eq_div_mul, Nat.pow_succ]
    have e5 : nI (c / b ^ j) - nI (c / b ^ j) / nI b * nI b = nI (dgs b n c (n - 1 - j)) := by
      rw [md_i (by omega) (by omega)]
      unfold dgs
      rw [show n - 1 - (n - 1 - j) = j by omega]
    refine ⟨um M1 192 (n - 1 - j) (nI (dgs b n c (n - 1 - j))), ⟨fun q hq => by rw [um_a hq]; exact i1 q hq, fun i hi hni => ?_, fun i hi => ?_⟩, ?_⟩
    · by_cases hij : i = n - 1 - j
      · subst hij; rw [um_s]
      · rw [um_k hij]; exact i2 i hi (by omega)
    · rw [um_k (by omega)]; exact i3 i hi
    · rw [e2, ← e3, ← e4]
      rw [ef_X8_tries_10]
      unfold s_X8_tries_10
      rw [e5]
      simp (disch := omega) only [hb1, iL, iT, iE, iN, iZ, i0, cl, nL, yL, nT, yT, s1_i, ad_i, z0, c0, la_1, la_2, la_11, la_12, la_21, la_22, la_27, la_54, la_10, la_243, ml_4, ml_6, ml_27, ml_10, ml_3, false_or, or_false, true_or, or_true, or_self, if_false, if_true, not_true, not_false_iff, bs, lt_p]
  have key : ∀ m j M1, j + m = n → ((∀ q, q ≠ 192 → M1 q = M q) ∧ (∀ i, i < n → n - j ≤ i → M1 192 i = nI (dgs b n c i)) ∧ ∀ i, n ≤ i → M1 192 i = M 192 i) → ∀ f, m < f → ∃ f' M', ((∀ q, q ≠ 192 → M' q = M q) ∧ (∀ i, i < n → n - n ≤ i → M' 192 i = nI (dgs b n c i)) ∧ ∀ i, n ≤ i → M' 192 i = M 192 i) ∧ f_X8_tries_10 (nI c) (nI b) (fun (_ : Int32) (_ : Int32) (M4 : Mem) => some M4) f (nI (c / b ^ j)) (nI (n - j) - 1) M1 = f_X8_tries_10 (nI c) (nI b) (fun (_ : Int32) (_ : Int32) (M4 : Mem) => some M4) (f' + 1) (nI (c / b ^ n)) (nI (n - n) - 1) M' :=
    loop_M (fun f M j => f_X8_tries_10 (nI c) (nI b) (fun (_ : Int32) (_ : Int32) (M4 : Mem) => some M4) f (nI (c / b ^ j)) (nI (n - j) - 1) M) n (fun j M1 => (∀ q, q ≠ 192 → M1 q = M q) ∧ (∀ i, i < n → n - j ≤ i → M1 192 i = nI (dgs b n c i)) ∧ ∀ i, n ≤ i → M1 192 i = M 192 i) hst
  obtain ⟨f', M2, ⟨g1, g2, g3⟩, g4⟩ := key n 0 M (by omega) ⟨fun _ _ => rfl, fun i hi h2 => by omega, fun _ _ => rfl⟩ FU (FU_gt (by omega))
  refine ⟨M2, ?_, g1, fun i hi => g2 i hi (by omega), g3⟩
  unfold f_X8_tries
  rw [hp, lt_e]
  rw [Nat.pow_zero, Nat.div_one] at g4
  refine Eq.trans g4 ?_
  have e0 : nI (n - n) - 1 < 0 := by rw [Nat.sub_self]; decide
  rw [ef_X8_tries_10]
  unfold s_X8_tries_10
  rw [if_pos e0]
theorem x8_form192 (hp : M 176 0 = nI n) (hq : RQ (M 177) 0 A x) (hA : OKA n A) (hn : n ≤ 6) {y : Row} (hy : ∀ i, i < n → M 192 i = y i) : f_X8_form 192 0 192 0 M = some (eul n A y y) := by
  have h := x8_form (M := M) hp hq hA hn 192 192 0 0 (by decide) (by decide) (by decide) (by decide)
  have e : f_X8_form 192 0 192 0 M = f_X8_form 192 (nI 0) 192 (nI 0) M := rfl
  rw [e, h, eul_congr (y' := y) (z' := y) hA (fun i hi => by rw [Nat.zero_add]; exact hy i hi) (fun i hi => by rw [Nat.zero_add]; exact hy i hi)]
theorem rowOf_d {b c i : Nat} (hi : i < n) : rowOf n b c i = nI (dgs b n c i) := by
  unfold rowOf
  rw [if_pos hi]
  rfl
theorem p3_le (hn : n ≤ 6) : 3 ^ n ≤ 729 := (show ∀ n, n < 7 → 3 ^ n ≤ 729 by decide) n (by omega)
theorem p4_le (hn : n ≤ 6) : 4 ^ n ≤ 4096 := (show ∀ n, n < 7 → 4 ^ n ≤ 4096 by decide) n (by omega)
theorem x8_isFinite (hp : M 176 0 = nI n) (hq : RQ (M 177) 0 A x) (hA : OKA n A) (hn : n ≤ 6) (hn1 : 1 ≤ n) : ∃ M', f_X8_isFinite M = some (if fnt n A then 1 else 0, M') ∧ (∀ q, q ≠ 192 → M' q = M q) ∧ ∀ i, n ≤ i → M' 192 i = M 192 i := by
  have h3 := p3_le hn
  have good : ∀ c, c < 3 ^ n → c ≠ 0 → fnt n A = true → 0 < eul n A (rowOf n 3 c) (rowOf n 3 c) := fun c hc h0 hf => by
    unfold fnt at hf
    rw [List.all_eq_true] at hf
    have := hf c (List.mem_range.mpr hc)
    rw [Bool.or_eq_true, decide_eq_true_iff] at this
    exact this.resolve_left (by simpa using h0)
  have key : ∀ m c M1, c + m = 3 ^ n → 1 ≤ c → (∀ c', 1 ≤ c' → c' < c → 0 < eul n A (rowOf n 3 c') (rowOf n 3 c')) → ((∀ q, q ≠ 192 → M1 q = M q) ∧ ∀ i, n ≤ i → M1 192 i = M 192 i) → ∀ f, m + 1 < f → ∃ M', f_X8_isFinite_13 (nI (3 ^ n)) (fun (i1 : Int32) (_ : Int32) (M4 : Mem) => if ¬ (i1 = 0 ∨ i1 = 1) then none else some (i1, M4)) f 1 (nI c) M1 = some (if fnt n A then 1 else 0, M') ∧ (∀ q, q ≠ 192 → M' q = M q) ∧ ∀ i, n ≤ i → M' 192 i = M 192 i := by
    intro m
    induction m with
    | zero =>
      intro c M1 hc h1 hall hI f hf
      obtain ⟨f, rfl⟩ : ∃ f', f = f' + 1 := ⟨f - 1, by omega⟩
      have hc : c = 3 ^ n := by omega
      subst hc
      have hfn : fnt n A = true := by
        unfold fnt
        rw [List.all_eq_true]
        intro c' hc'
        rw [Bool.or_eq_true, decide_eq_true_iff]
        by_cases h0 : c' = 0
        · exact Or.inl (by simpa using h0)
        · exact Or.inr (hall c' (by omega) (List.mem_range.mp hc'))
      refine ⟨M1, ?_, hI⟩
      rw [hfn]
      simp (disch := omega) only [ef_X8_isFinite_13, s_X8_isFinite_13, e10, eq_self, iL, iT, iE, iN, iZ, i0, cl, nL, yL, nT, yT, s1_i, ad_i, z0, c0, la_1, la_2, la_11, la_12, la_21, la_22, la_27, la_54, la_10, la_243, ml_4, ml_6, ml_27, ml_10, ml_3, false_or, or_false, true_or, or_true, or_self, if_false, if_true, not_true, not_false_iff, bs, lt_p]
    | succ m ih =>
      intro c M1 hc h1 hall hI f hf
      obtain ⟨f, rfl⟩ : ∃ f', f = f' + 1 := ⟨f - 1, by omega⟩
      obtain ⟨i1, i2⟩ := hI
      obtain ⟨M2, g1, g2, g3, g4⟩ := x8_tries (M := M1) (by rw [i1 176 (by omega)]; exact hp) hn hn1 c 3 (by omega) (by omega) (by omega)
      have hfm := x8_form192 (M := M2) (A := A) (x := x) (n := n) (by rw [g2 176 (by omega), i1 176 (by omega)]; exact hp) (by rw [g2 177 (by omega), i1 177 (by omega)]; exact hq) hA hn (y := rowOf n 3 c) (fun i hi => by rw [g3 i hi, rowOf_d hi])
      have hI2 : (∀ q, q ≠ 192 → M2 q = M q) ∧ ∀ i, n ≤ i → M2 192 i = M 192 i := ⟨fun q hq => by rw [g2 q hq]; exact i1 q hq, fun i hi => by rw [g4 i hi]; exact i2 i hi⟩
      have e33 : (3 : Int32) = nI 3 := rfl
      by_cases hgood : 0 < eul n A (rowOf n 3 c) (rowOf n 3 c)
      · have hle : eul n A (rowOf n 3 c) (rowOf n 3 c) ≤ 0 ↔ False := iff_of_false (fun q => by
          rw [fa_le] at q
          rw [fa_lt] at hgood
          omega) id
        obtain ⟨M3, k1, k2⟩ := ih (c + 1) M2 (by omega) (by omega) (fun c' a b => by
          by_cases hcc : c' = c
          · subst hcc; exact hgood
          · exact hall c' a (by omega)) hI2 f (by omega)
        refine ⟨M3, ?_, k2⟩
        rw [← k1]
        simp (disch := omega) only [ef_X8_isFinite_13, s_X8_isFinite_13, e10, e33, g1, hfm, hle, iL, iT, iE, iN, iZ, i0, cl, nL, yL, nT, yT, s1_i, ad_i, z0, c0, la_1, la_2, la_11, la_12, la_21, la_22, la_27, la_54, la_10, la_243, ml_4, ml_6, ml_27, ml_10, ml_3, false_or, or_false, true_or, or_true, or_self, if_false, if_true, not_true, not_false_iff, bs, lt_p]
      · have hle : eul n A (rowOf n 3 c) (rowOf n 3 c) ≤ 0 ↔ True := iff_of_true (by
          rw [fa_lt] at hgood
          rw [fa_le]
          omega) trivial
        have hfn : fnt n A = false := by
          cases hh : fnt n A with
          | false => rfl
          | true => exact absurd (good c (by omega) (by omega) hh) hgood
        refine ⟨M2, ?_, hI2⟩
        rw [hfn]
        obtain ⟨f, rfl⟩ : ∃ f', f = f' + 1 := ⟨f - 1, by omega⟩
        simp (disch := omega) only [ef_X8_isFinite_13, s_X8_isFinite_13, e10, e33, g1, hfm, hle, eq_self, ite_self, iL, iT, iE, iN, iZ, i0, cl, nL, yL, nT, yT, s1_i, ad_i, z0, c0, la_1, la_2, la_11, la_12, la_21, la_22, la_27, la_54, la_10, la_243, ml_4, ml_6, ml_27, ml_10, ml_3, false_or, or_false, true_or, or_true, or_self, if_false, if_true, not_true, not_false_iff, bs, lt_p]
        rfl
  obtain ⟨M2, k1, k2⟩ := key (3 ^ n - 1) 1 M (by have := Nat.pow_pos (n := n) (show 0 < 3 by omega); omega) (by omega) (fun c' a b => by omega) ⟨fun _ _ => rfl, fun _ _ => rfl⟩ FU (FU_gt (by omega))
  refine ⟨M2, ?_, k2⟩
  unfold f_X8_isFinite
  rw [hp]
  have e : f_X8_power 3 (nI n) M = some (nI (3 ^ n)) := x8_power 3 hn
  rw [e, bs]
  exact k1
end MFIN

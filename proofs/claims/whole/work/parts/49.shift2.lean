/-! ===== shifts, in the class's memory ===== -/
section SHIFT2
variable {M M' : Mem} {n : Nat} {A : Arr} {x : Row}
theorem trn_of (hA : OKA n A) {y : Row} {Y : Nat → Int} (h : ∀ i, i < n → y i = Int32.ofInt (Y i)) {p : Nat} (hp : p < n) : trn A y p = Int32.ofInt (Y p - bg n (gA A) Y p) := by
  have h2 : ∀ (B : Arr), (∀ e ∈ B, e.1 < n ∧ e.2 < n) → ∀ (s : Int), B.foldl (fun s e => if e.1 = p then (if e.2 = p then s + y e.2 + y e.1 else s + y e.2) else (if e.2 = p then s + y e.1 else s)) (Int32.ofInt s) = Int32.ofInt (s + sA B (fun e => (if e.1 = p then Y e.2 else 0) + (if e.2 = p then Y e.1 else 0))) := by
    intro B
    induction B with
    | nil => intro _ s; show Int32.ofInt s = Int32.ofInt (s + 0); rw [Int.add_zero]
    | cons e B ih =>
      intro hB s
      have he := hB e List.mem_cons_self
      rw [List.foldl_cons]
      have e1 : (if e.1 = p then (if e.2 = p then Int32.ofInt s + y e.2 + y e.1 else Int32.ofInt s + y e.2) else (if e.2 = p then Int32.ofInt s + y e.1 else Int32.ofInt s)) = Int32.ofInt (s + ((if e.1 = p then Y e.2 else 0) + (if e.2 = p then Y e.1 else 0))) := by
        by_cases c1 : e.1 = p
        · by_cases c2 : e.2 = p
          · rw [if_pos c1, if_pos c2, if_pos c1, if_pos c2, h e.2 he.2, h e.1 he.1, ← Int32.ofInt_add, ← Int32.ofInt_add, Int.add_assoc]
          · rw [if_pos c1, if_neg c2, if_pos c1, if_neg c2, h e.2 he.2, ← Int32.ofInt_add, Int.add_zero]
        · by_cases c2 : e.2 = p
          · rw [if_neg c1, if_pos c2, if_neg c1, if_pos c2, h e.1 he.1, ← Int32.ofInt_add, Int.zero_add]
          · rw [if_neg c1, if_neg c2, if_neg c1, if_neg c2, Int.add_zero, Int.add_zero]
      rw [e1, ih (fun e he => hB e (List.mem_cons_of_mem _ he))]
      congr 1
      show s + ((if e.1 = p then Y e.2 else 0) + (if e.2 = p then Y e.1 else 0)) + _ = s + (((if e.1 = p then Y e.2 else 0) + (if e.2 = p then Y e.1 else 0)) + _)
      omega
  unfold trn bg
  have e3 : -(y p) = Int32.ofInt (- Y p) := by rw [Int32.ofInt_neg, h p hp]
  rw [e3, h2 A hA.2.1, zs_gA1 hA.2.1]
  congr 1
  omega
theorem eul_of (hA : OKA n A) {y z : Row} {Y Z : Nat → Int} (hy : ∀ i, i < n → y i = Int32.ofInt (Y i)) (hz : ∀ i, i < n → z i = Int32.ofInt (Z i)) : eul n A y z = Int32.ofInt (ez n A Y Z) := by
  have h1 : ∀ j, j ≤ n → fo (fun i s => s + y i * z i) j 0 = Int32.ofInt (zs j (fun i => Y i * Z i)) := by
    intro j
    induction j with
    | zero => intro _; rfl
    | succ j ih =>
      intro hj
      rw [fo_s, ih (by omega), zs_s, Int32.ofInt_add, Int32.ofInt_mul, hy j (by omega), hz j (by omega)]
  have h2 : ∀ (B : Arr), (∀ e ∈ B, e.1 < n ∧ e.2 < n) → ∀ (s : Int), B.foldl (fun s e => s - y e.1 * z e.2) (Int32.ofInt s) = Int32.ofInt (s - sA B (fun e => Y e.1 * Z e.2)) := by
    intro B
    induction B with
    | nil => intro _ s; show Int32.ofInt s = Int32.ofInt (s - 0); rw [Int.sub_zero]
    | cons e B ih =>
      intro hB s
      have he := hB e List.mem_cons_self
      rw [List.foldl_cons]
      have e1 : Int32.ofInt s - y e.1 * z e.2 = Int32.ofInt (s - Y e.1 * Z e.2) := by
        rw [Int32.ofInt_sub, Int32.ofInt_mul, hy e.1 he.1, hz e.2 he.2]
      rw [e1, ih (fun e he => hB e (List.mem_cons_of_mem _ he))]
      congr 1
      show s - Y e.1 * Z e.2 - _ = s - (Y e.1 * Z e.2 + _)
      omega
  unfold eul ez
  rw [h1 n (Nat.le_refl _), h2 A hA.2.1]
theorem x6_shiftBack (hq : CQ M 1 n A x) (hw : WaysOK M n A) (hA : OKA n A) (hn : n ≤ 6) (b : Nat) (hb : 56 < b) {Y : Nat → Int} (hY : ∀ i, i < n → M b i = Int32.ofInt (Y i)) : ∃ M', f_X6_shiftBack b M = some M' ∧ (∀ c, c ≠ b → M' c = M c) ∧ (∀ i, i < n → M' b i = Int32.ofInt (sbk n A Y n i)) ∧ ∀ i, n ≤ i → M' b i = M b i := by
  have hst : ∀ (f i : Nat) (M1 : Mem), i < n → ((∀ c, c ≠ b → M1 c = M c) ∧ (∀ j, j < n → M1 b j = Int32.ofInt (sbk n A Y i j)) ∧ ∀ j, n ≤ j → M1 b j = M b j) → ∃ M', ((∀ c, c ≠ b → M' c = M c) ∧ (∀ j, j < n → M' b j = Int32.ofInt (sbk n A Y (i + 1) j)) ∧ ∀ j, n ≤ j → M' b j = M b j) ∧ f_X6_shiftBack_2 b (fun (_ : Int32) (M2 : Mem) => some M2) (f + 1) (nI i) M1 = f_X6_shiftBack_2 b (fun (_ : Int32) (M2 : Mem) => some M2) f (nI (i + 1)) M' := by
    intro f i M1 hi hI
    obtain ⟨i1, i2, i3⟩ := hI
    have hqM : CQ M1 1 n A x := hq.on (fun c _ _ => i1 c (by omega))
    have a10 : M1 1 0 = nI n := hqM.1
    have a48 : M1 48 i = nI (ord n A i) := by rw [i1 48 (by omega)]; exact hw.1 i hi
    have ho := (ord_ok hA hn hi).1
    have e1 := x2_turnedAbout hqM hA hn b (ord n A i) ho
    refine ⟨um M1 b (ord n A i) (trn A (M1 b) (ord n A i)), ⟨fun c hc => by rw [um_a hc]; exact i1 c hc, fun j hj => ?_, fun j hj => ?_⟩, ?_⟩
    · rw [sbk_s]
      by_cases hjo : j = ord n A i
      · subst hjo
        rw [um_s, ua_s, trn_of hA i2 ho]
        congr 1
      · rw [um_k hjo, ua_n hjo]; exact i2 j hj
    · rw [um_k (by omega)]; exact i3 j hj
    · simp (disch := omega) only [ef_X6_shiftBack_2, s_X6_shiftBack_2, a10, a48, e1, iL, iT, iE, iN, iZ, i0, cl, nL, yL, nT, yT, s1_i, ad_i, z0, c0, la_1, la_2, la_11, la_12, la_21, la_22, la_27, la_54, la_10, la_243, ml_4, ml_6, ml_27, ml_10, ml_3, false_or, or_false, true_or, or_true, or_self, if_false, if_true, not_true, not_false_iff, bs, lt_p]
  obtain ⟨f', M2, ⟨g1, g2, g3⟩, g4⟩ := loop_M (fun f M i => f_X6_shiftBack_2 b (fun (_ : Int32) (M2 : Mem) => some M2) f (nI i) M) n (fun i M1 => (∀ c, c ≠ b → M1 c = M c) ∧ (∀ j, j < n → M1 b j = Int32.ofInt (sbk n A Y i j)) ∧ ∀ j, n ≤ j → M1 b j = M b j) hst n 0 M (by omega) ⟨fun _ _ => rfl, hY, fun _ _ => rfl⟩ FU (FU_gt (by omega))
  refine ⟨M2, ?_, g1, g2, g3⟩
  unfold f_X6_shiftBack
  refine Eq.trans g4 ?_
  have a10 : M2 1 0 = nI n := by rw [g1 1 (by omega)]; exact hq.1
  simp (disch := omega) only [ef_X6_shiftBack_2, s_X6_shiftBack_2, a10, iL, iT, iE, iN, iZ, i0, cl, nL, yL, nT, yT, s1_i, ad_i, z0, c0, la_1, la_2, la_11, la_12, la_21, la_22, la_27, la_54, la_10, la_243, ml_4, ml_6, ml_27, ml_10, ml_3, false_or, or_false, true_or, or_true, or_self, if_false, if_true, not_true, not_false_iff, bs, lt_p]
theorem x6_shiftOn (hq : CQ M 1 n A x) (hw : WaysOK M n A) (hA : OKA n A) (hn : n ≤ 6) (b : Nat) (hb : 56 < b) {Y : Nat → Int} (hY : ∀ i, i < n → M b i = Int32.ofInt (Y i)) : ∃ M', f_X6_shiftOn b M = some M' ∧ (∀ c, c ≠ b → M' c = M c) ∧ (∀ i, i < n → M' b i = Int32.ofInt (son n A Y n i)) ∧ ∀ i, n ≤ i → M' b i = M b i := by
  have hst : ∀ (f i : Nat) (M1 : Mem), i < n → ((∀ c, c ≠ b → M1 c = M c) ∧ (∀ j, j < n → M1 b j = Int32.ofInt (son n A Y i j)) ∧ ∀ j, n ≤ j → M1 b j = M b j) → ∃ M', ((∀ c, c ≠ b → M' c = M c) ∧ (∀ j, j < n → M' b j = Int32.ofInt (son n A Y (i + 1) j)) ∧ ∀ j, n ≤ j → M' b j = M b j) ∧ f_X6_shiftOn_7 b (fun (_ : Int32) (M2 : Mem) => some M2) (f + 1) (nI (n - i) - 1) M1 = f_X6_shiftOn_7 b (fun (_ : Int32) (M2 : Mem) => some M2) f (nI (n - (i + 1)) - 1) M' := by
    intro f i M1 hi hI
    obtain ⟨i1, i2, i3⟩ := hI
    have hqM : CQ M1 1 n A x := hq.on (fun c _ _ => i1 c (by omega))
    have hi2 : n - 1 - i < n := by omega
    have a48 : M1 48 (n - 1 - i) = nI (ord n A (n - 1 - i)) := by rw [i1 48 (by omega)]; exact hw.1 _ hi2
    have ho := (ord_ok hA hn hi2).1
    have e1 := x2_turnedAbout hqM hA hn b (ord n A (n - 1 - i)) ho
    have e2 : nI (n - i) - 1 = nI (n - 1 - i) := by rw [show n - 1 - i = n - i - 1 by omega]; exact sb_i (b := 1) (by omega)
    have e3 : nI (n - 1 - i) + (-1) = nI (n - (i + 1)) - 1 := by rw [show n - (i + 1) = n - 1 - i by omega]; exact (Int32.sub_eq_add_neg _ _).symm
    refine ⟨um M1 b (ord n A (n - 1 - i)) (trn A (M1 b) (ord n A (n - 1 - i))), ⟨fun c hc => by rw [um_a hc]; exact i1 c hc, fun j hj => ?_, fun j hj => ?_⟩, ?_⟩
    · rw [son_s]
      by_cases hjo : j = ord n A (n - 1 - i)
      · subst hjo
        rw [um_s, ua_s, trn_of hA i2 ho]
        congr 1
      · rw [um_k hjo, ua_n hjo]; exact i2 j hj
    · rw [um_k (by omega)]; exact i3 j hj
    · rw [e2, ← e3]
      simp (disch := omega) only [ef_X6_shiftOn_7, s_X6_shiftOn_7, a48, e1, iL, iT, iE, iN, iZ, i0, cl, nL, yL, nT, yT, s1_i, ad_i, z0, c0, la_1, la_2, la_11, la_12, la_21, la_22, la_27, la_54, la_10, la_243, ml_4, ml_6, ml_27, ml_10, ml_3, false_or, or_false, true_or, or_true, or_self, if_false, if_true, not_true, not_false_iff, bs, lt_p]
  obtain ⟨f', M2, ⟨g1, g2, g3⟩, g4⟩ := loop_M (fun f M i => f_X6_shiftOn_7 b (fun (_ : Int32) (M2 : Mem) => some M2) f (nI (n - i) - 1) M) n (fun i M1 => (∀ c, c ≠ b → M1 c = M c) ∧ (∀ j, j < n → M1 b j = Int32.ofInt (son n A Y i j)) ∧ ∀ j, n ≤ j → M1 b j = M b j) hst n 0 M (by omega) ⟨fun _ _ => rfl, hY, fun _ _ => rfl⟩ FU (FU_gt (by omega))
  refine ⟨M2, ?_, g1, g2, g3⟩
  have a10 : M 1 0 = nI n := hq.1
  unfold f_X6_shiftOn
  rw [a10, lt_e]
  refine Eq.trans g4 ?_
  have e0 : nI (n - n) - 1 < 0 := by rw [Nat.sub_self]; decide
  rw [ef_X6_shiftOn_7]
  unfold s_X6_shiftOn_7
  rw [if_pos e0]
end SHIFT2

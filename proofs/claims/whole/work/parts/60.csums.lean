/-! ===== the class counts the ways ===== -/
def Rz (n : Nat) (A : Arr) (t : Nat) : Nat → Int := fun i => if t < (rts n A).length then (if i < n then RR n A t i else 0) else uz 0 i
def Xz (n : Nat) (x : Row) : Nat → Int := fun i => if i < n then ti x i else 0
def dt (R : Nat → Nat → Int) : List Nat → List Nat → Nat → Int
  | [], _, _ => 0
  | t :: U, K, i => ((K.headD 0 : Nat) : Int) * R t i + dt R U K.tail i
section CSUMS
variable {M M' : Mem} {n : Nat} {A A' : Arr} {x x' : Row}
theorem Rz_i {t i : Nat} (ht : t < (rts n A).length) (hi : i < n) : Rz n A t i = RR n A t i := by unfold Rz; rw [if_pos ht, if_pos hi]
theorem Rz_hi {t i : Nat} (ht : t < (rts n A).length) (hi : n ≤ i) : Rz n A t i = 0 := by unfold Rz; rw [if_pos ht, if_neg (by omega)]
theorem Rz_nn (t i : Nat) : 0 ≤ Rz n A t i := by
  unfold Rz
  split
  · split
    · exact RR_nn _ _
    · omega
  · unfold uz; split <;> omega
theorem Rz_3 {t : Nat} (ht : t < (rts n A).length) (i : Nat) : Rz n A t i ≤ 3 := by
  unfold Rz
  rw [if_pos ht]
  split
  · exact RR_3 _ _
  · omega
theorem Rz_Rw (hA : OKA n A) (hn : n ≤ 6) (hn1 : 1 ≤ n) (t : Nat) : Rw n (Rz n A t) := by
  refine ⟨Rz_nn t, ?_⟩
  by_cases ht : t < (rts n A).length
  · apply Classical.byContradiction
    intro hno
    have h0 := zs_all0 (n := n) (f := Rz n A t) (fun i _ => Rz_nn t i) (by omega)
    have := RR_bb hA hn ht
    rw [bb_zero (fun i hi => by rw [← Rz_i ht hi]; exact h0 i hi)] at this
    omega
  · rw [zs_congr (g := fun i => if i = 0 then (fun _ => (1 : Int)) i else 0) (fun i _ => by unfold Rz uz; rw [if_neg ht]), zs_one (show 0 < n by omega) (f := fun _ => (1 : Int))]
    omega
theorem dt_nn {R : Nat → Nat → Int} (hR : ∀ t i, 0 ≤ R t i) : ∀ U K i, 0 ≤ dt R U K i := by
  intro U
  induction U with
  | nil => intro K i; exact Int.le_refl _
  | cons t U ih => intro K i; exact Int.add_nonneg (Int.mul_nonneg (Int.natCast_nonneg _) (hR t i)) (ih K.tail i)
theorem dt_app {R : Nat → Nat → Int} : ∀ U1 K1 U2 K2 i, K1.length = U1.length → dt R (U1 ++ U2) (K1 ++ K2) i = dt R U1 K1 i + dt R U2 K2 i := by
  intro U1
  induction U1 with
  | nil =>
    intro K1 U2 K2 i h
    cases K1 with
    | nil => show dt R U2 K2 i = 0 + dt R U2 K2 i; omega
    | cons k K1 => simp at h
  | cons t U1 ih =>
    intro K1 U2 K2 i h
    cases K1 with
    | nil => simp at h
    | cons k K1 =>
      show ((k : Nat) : Int) * R t i + dt R (U1 ++ U2) (K1 ++ K2) i = ((k : Nat) : Int) * R t i + dt R U1 K1 i + dt R U2 K2 i
      rw [ih K1 U2 K2 i (by simpa using h)]
      omega
theorem ofI_nI {v : Int} (h : 0 ≤ v) (h2 : v ≤ 1000) : Int32.ofInt v = nI v.toNat := by
  rw [fa_eq, Int32.toInt_ofInt_of_le (by omega) (by omega), nI_toInt (by omega)]
  omega
/-- a state of the wheels, over whole numbers -/
def VS (n : Nat) (A : Arr) (x : Row) (U K : List Nat) (b : Nat → Int) : Prop := K.length = U.length ∧ (∀ t ∈ U, t < (rts n A).length) ∧ (∀ i, 0 ≤ b i) ∧ (∀ i, b i + dt (Rz n A) U K i = Xz n x i) ∧ ∀ i, Xz n x i ≤ 99
theorem VS.le {U K : List Nat} {b : Nat → Int} (h : VS n A x U K b) (i : Nat) : b i ≤ 99 := by
  have h1 := h.2.2.2.1 i
  have h2 := dt_nn (R := Rz n A) Rz_nn U K i
  have h3 := h.2.2.2.2 i
  omega
theorem VS.hi {U K : List Nat} {b : Nat → Int} (h : VS n A x U K b) {i : Nat} (hi : n ≤ i) : b i = 0 := by
  have h1 := h.2.2.2.1 i
  have h2 := dt_nn (R := Rz n A) Rz_nn U K i
  have h3 := h.2.2.1 i
  have h4 : Xz n x i = 0 := if_neg (by omega)
  omega
/-- a wheel's number is small -/
theorem VS.small (hA : OKA n A) (hn : n ≤ 6) (hn1 : 1 ≤ n) {U1 K1 U2 K2 : List Nat} {t k : Nat} {b : Nat → Int} (h : VS n A x (U1 ++ t :: U2) (K1 ++ k :: K2) b) (hl : K1.length = U1.length) : k ≤ 99 := by
  obtain ⟨i, hi, hpos⟩ : ∃ i, i < n ∧ 0 < Rz n A t i := zs_pos (by have := (Rz_Rw hA hn hn1 (A := A) t).2; omega)
  have h1 := h.2.2.2.1 i
  rw [dt_app U1 K1 (t :: U2) (k :: K2) i hl] at h1
  have h1 : b i + (dt (Rz n A) U1 K1 i + (((k : Nat) : Int) * Rz n A t i + dt (Rz n A) U2 K2 i)) = Xz n x i := h1
  have h2 := dt_nn (R := Rz n A) Rz_nn U1 K1 i
  have h3 := dt_nn (R := Rz n A) Rz_nn U2 K2 i
  have h4 := h.2.2.1 i
  have h5 := h.2.2.2.2 i
  have h6 : ((k : Nat) : Int) * 1 ≤ ((k : Nat) : Int) * Rz n A t i := Int.mul_le_mul_of_nonneg_left (by omega) (Int.natCast_nonneg _)
  omega
/-- the class's memory -/
def CM (M : Mem) (n : Nat) (A : Arr) (U K : List Nat) (b : Nat → Int) : Prop := M 141 4 = nI n ∧ M 141 3 = nI U.length ∧ U.length ≤ 36 ∧ (∀ j t, U[j]? = some t → M 142 j = nI t) ∧ (∀ j k, K[j]? = some k → M 143 j = nI k) ∧ (∀ i, i < n → M 144 i = Int32.ofInt (b i)) ∧ RW M n A
theorem RW.on (h : RW M n A) (e : ∀ b, 57 ≤ b → b ≤ 94 → M' b = M b) : RW M' n A := by
  obtain ⟨h1, h2, h3⟩ := h
  exact ⟨h1, by rw [e 57 (by omega) (by omega)]; exact h2, fun t ht i hi => by rw [e _ (by omega) (by omega)]; exact h3 t ht i hi⟩
theorem x0_fits (hn : n ≤ 6) (h4 : M 141 4 = nI n) {t : Nat} {b : Nat → Int} (ht : t < (rts n A).length) (hrow : ∀ i, i < 6 → M (59 + t) i = rt n A t i) (hb : ∀ i, i < n → M 144 i = Int32.ofInt (b i)) (hb2 : ∀ i, 0 ≤ b i ∧ b i ≤ 99) : f_X0_fits (59 + t) M = some (if dc (fitP (Rz n A t) b) then 1 else 0) := by
  have hle : ∀ i, i < n → (M (59 + t) i ≤ M 144 i ↔ Rz n A t i ≤ b i) := fun i hi => by
    have h1 := RR_nn (n := n) (A := A) t i
    have h2 := RR_3 (n := n) (A := A) t i
    have h3 := hb2 i
    rw [hrow i (by omega), hb i hi, rt_of hi, fa_le, Int32.toInt_ofInt_of_le (by omega) (by omega), Int32.toInt_ofInt_of_le (by omega) (by omega), Rz_i ht hi]
  rcases first_bad (p := fun i => Rz n A t i ≤ b i) n with h | ⟨k, k1, k2, k3⟩
  · have hf : fitP (Rz n A t) b := fun i => by
      by_cases hi : i < n
      · exact h i hi
      · rw [Rz_hi ht (by omega)]; exact (hb2 i).1
    rw [dc_t hf, if_pos rfl]
    refine loop_u (fun m (_ : Unit) j => f_X0_fits_2 (59 + t) M (fun _ => some 1) m (nI j)) (fun _ => some 1) n (fun _ s => s) () (fun m j s hj => ?_) (fun m s => ?_) FU (FU_gt (by omega))
    · have := (hle j hj).mpr (h j hj)
      simp (disch := omega) only [ef_X0_fits_2, s_X0_fits_2, h4, this, iL, iT, iE, iN, iZ, i0, cl, nL, yL, nT, yT, s1_i, ad_i, z0, c0, la_1, la_2, la_11, la_12, la_21, la_22, la_27, la_54, la_10, la_243, ml_4, ml_6, ml_27, ml_10, ml_3, false_or, or_false, true_or, or_true, or_self, if_false, if_true, not_true, not_false_iff, bs, lt_p]
    · simp (disch := omega) only [ef_X0_fits_2, s_X0_fits_2, h4, iL, iT, iE, iN, iZ, i0, cl, nL, yL, nT, yT, s1_i, ad_i, z0, c0, la_1, la_2, la_11, la_12, la_21, la_22, la_27, la_54, la_10, la_243, ml_4, ml_6, ml_27, ml_10, ml_3, false_or, or_false, true_or, or_true, or_self, if_false, if_true, not_true, not_false_iff, bs, lt_p]
  · have hf : ¬ fitP (Rz n A t) b := fun q => k3 (q k)
    rw [dc_f hf, if_neg ff_t]
    refine loop_u (fun m (_ : Unit) j => f_X0_fits_2 (59 + t) M (fun _ => some 1) m (nI j)) (fun _ => some 0) k (fun _ s => s) () (fun m j s hj => ?_) (fun m s => ?_) FU (FU_gt (by omega))
    · have := (hle j (by omega)).mpr (k2 j hj)
      simp (disch := omega) only [ef_X0_fits_2, s_X0_fits_2, h4, this, iL, iT, iE, iN, iZ, i0, cl, nL, yL, nT, yT, s1_i, ad_i, z0, c0, la_1, la_2, la_11, la_12, la_21, la_22, la_27, la_54, la_10, la_243, ml_4, ml_6, ml_27, ml_10, ml_3, false_or, or_false, true_or, or_true, or_self, if_false, if_true, not_true, not_false_iff, bs, lt_p]
    · have : ¬ M (59 + t) k ≤ M 144 k := fun q => k3 ((hle k k1).mp q)
      simp (disch := omega) only [ef_X0_fits_2, s_X0_fits_2, h4, this, iL, iT, iE, iN, iZ, i0, cl, nL, yL, nT, yT, s1_i, ad_i, z0, c0, la_1, la_2, la_11, la_12, la_21, la_22, la_27, la_54, la_10, la_243, ml_4, ml_6, ml_27, ml_10, ml_3, false_or, or_false, true_or, or_true, or_self, if_false, if_true, not_true, not_false_iff, bs, lt_p]
theorem x0_away (hn : n ≤ 6) (h4 : M 141 4 = nI n) (a : Nat) (ha : a ≠ 144 ∧ a ≠ 141) (v : Int32) : ∃ M', f_X0_takeAway a v M = some M' ∧ (∀ c, c ≠ 144 → M' c = M c) ∧ ∀ i, i < n → M' 144 i = M 144 i - v * M a i := by
  have hst : ∀ (f i : Nat) (M1 : Mem), i < n → ((∀ c, c ≠ 144 → M1 c = M c) ∧ (∀ j, j < i → M1 144 j = M 144 j - v * M a j) ∧ ∀ j, i ≤ j → M1 144 j = M 144 j) → ∃ M', ((∀ c, c ≠ 144 → M' c = M c) ∧ (∀ j, j < i + 1 → M' 144 j = M 144 j - v * M a j) ∧ ∀ j, i + 1 ≤ j → M' 144 j = M 144 j) ∧ f_X0_takeAway_2 a v (fun (_ : Int32) (M2 : Mem) => some M2) (f + 1) (nI i) M1 = f_X0_takeAway_2 a v (fun (_ : Int32) (M2 : Mem) => some M2) f (nI (i + 1)) M' := by
    intro f i M1 hi hI
    obtain ⟨i1, i2, i3⟩ := hI
    refine ⟨um M1 144 i (M1 144 i - v * M1 a i), ⟨fun c hc => by rw [um_a hc]; exact i1 c hc, fun j hj => ?_, fun j hj => ?_⟩, ?_⟩
    · by_cases hji : j = i
      · subst hji; rw [um_s, i3 j (Nat.le_refl _), i1 a ha.1]
      · rw [um_k hji]; exact i2 j (by omega)
    · rw [um_k (by omega)]; exact i3 j (by omega)
    · have e4 : M1 141 4 = nI n := by rw [i1 141 (by omega)]; exact h4
      simp (disch := omega) only [ef_X0_takeAway_2, s_X0_takeAway_2, e4, iL, iT, iE, iN, iZ, i0, cl, nL, yL, nT, yT, s1_i, ad_i, z0, c0, la_1, la_2, la_11, la_12, la_21, la_22, la_27, la_54, la_10, la_243, ml_4, ml_6, ml_27, ml_10, ml_3, false_or, or_false, true_or, or_true, or_self, if_false, if_true, not_true, not_false_iff, bs, lt_p]
  obtain ⟨f', M2, ⟨g1, g2, g3⟩, g4⟩ := loop_M (fun f M i => f_X0_takeAway_2 a v (fun (_ : Int32) (M2 : Mem) => some M2) f (nI i) M) n (fun i M1 => (∀ c, c ≠ 144 → M1 c = M c) ∧ (∀ j, j < i → M1 144 j = M 144 j - v * M a j) ∧ ∀ j, i ≤ j → M1 144 j = M 144 j) hst n 0 M (by omega) ⟨fun _ _ => rfl, fun j hj => by omega, fun _ _ => rfl⟩ FU (FU_gt (by omega))
  refine ⟨M2, ?_, g1, g2⟩
  unfold f_X0_takeAway
  refine Eq.trans g4 ?_
  have e4 : M2 141 4 = nI n := by rw [g1 141 (by omega)]; exact h4
  simp (disch := omega) only [ef_X0_takeAway_2, s_X0_takeAway_2, e4, iL, iT, iE, iN, iZ, i0, cl, nL, yL, nT, yT, s1_i, ad_i, z0, c0, la_1, la_2, la_11, la_12, la_21, la_22, la_27, la_54, la_10, la_243, ml_4, ml_6, ml_27, ml_10, ml_3, false_or, or_false, true_or, or_true, or_self, if_false, if_true, not_true, not_false_iff, bs, lt_p]
theorem x0_often (hA : OKA n A) (hn : n ≤ 6) (hn1 : 1 ≤ n) (h4 : M 141 4 = nI n) {t : Nat} {b : Nat → Int} (ht : t < (rts n A).length) (hrow : ∀ i, i < 6 → M (59 + t) i = rt n A t i) (hb : ∀ i, i < n → M 144 i = Int32.ofInt (b i)) (hb2 : ∀ i, 0 ≤ b i ∧ b i ≤ 99) : ∃ h : Nat, h ≤ 99 ∧ f_X0_howOftenFits (59 + t) M = some (nI h) ∧ ∀ k : Nat, (∀ i, (k : Int) * Rz n A t i ≤ b i) ↔ k ≤ h := by
  have key : ∀ m j h f, j + m = n → h ≤ 99 → (∀ k : Nat, k ≤ h ↔ k ≤ 99 ∧ ∀ i, i < j → (k : Int) * Rz n A t i ≤ b i) → m < f → ∃ h' : Nat, h' ≤ 99 ∧ f_X0_howOftenFits_5 (59 + t) M (fun i2 _ => some i2) f (nI h) (nI j) = some (nI h') ∧ ∀ k : Nat, k ≤ h' ↔ k ≤ 99 ∧ ∀ i, i < n → (k : Int) * Rz n A t i ≤ b i := by
    intro m
    induction m with
    | zero =>
      intro j h f hj hh hI hf
      obtain ⟨f, rfl⟩ : ∃ f', f = f' + 1 := ⟨f - 1, by omega⟩
      have : j = n := by omega
      subst this
      refine ⟨h, hh, ?_, hI⟩
      simp (disch := omega) only [ef_X0_howOftenFits_5, s_X0_howOftenFits_5, h4, iL, iT, iE, iN, iZ, i0, cl, nL, yL, nT, yT, s1_i, ad_i, z0, c0, la_1, la_2, la_11, la_12, la_21, la_22, la_27, la_54, la_10, la_243, ml_4, ml_6, ml_27, ml_10, ml_3, false_or, or_false, true_or, or_true, or_self, if_false, if_true, not_true, not_false_iff, bs, lt_p]
    | succ m ih =>
      intro j h f hj hh hI hf
      obtain ⟨f, rfl⟩ : ∃ f', f = f' + 1 := ⟨f - 1, by omega⟩
      have hjn : j < n := by omega
      have r1 := RR_nn (n := n) (A := A) t j
      have r2 := RR_3 (n := n) (A := A) t j
      have er : M (59 + t) j = nI (RR n A t j).toNat := by rw [hrow j (by omega), rt_of hjn, ofI_nI r1 (by omega)]
      have eb : M 144 j = nI (b j).toNat := by rw [hb j hjn, ofI_nI (hb2 j).1 (by have := (hb2 j).2; omega)]
      have eR := Rz_i (A := A) ht hjn
      have hbj := hb2 j
      by_cases h0 : RR n A t j = 0
      · have e0 : (RR n A t j).toNat = 0 := by omega
        have z0 : nI 0 ≤ 0 := by decide
        obtain ⟨h', q1, q2, q3⟩ := ih (j + 1) h f (by omega) hh (fun k => by
          rw [hI k]
          constructor
          · rintro ⟨a, c⟩
            refine ⟨a, fun i hi => ?_⟩
            by_cases hij : i = j
            · subst hij; rw [eR, h0]; omega
            · exact c i (by omega)
          · rintro ⟨a, c⟩
            exact ⟨a, fun i hi => c i (by omega)⟩) (by omega)
        refine ⟨h', q1, ?_, q3⟩
        rw [← q2]
        simp (disch := omega) only [ef_X0_howOftenFits_5, s_X0_howOftenFits_5, h4, er, e0, z0, iL, iT, iE, iN, iZ, i0, cl, nL, yL, nT, yT, s1_i, ad_i, z0, c0, la_1, la_2, la_11, la_12, la_21, la_22, la_27, la_54, la_10, la_243, ml_4, ml_6, ml_27, ml_10, ml_3, false_or, or_false, true_or, or_true, or_self, if_false, if_true, not_true, not_false_iff, bs, lt_p]
      · have e1 : 0 < (RR n A t j).toNat := by omega
        have hdiv : (b j).toNat / (RR n A t j).toNat ≤ 99 := Nat.le_trans (Nat.div_le_self _ _) (by omega)
        have hne : ¬ nI (RR n A t j).toNat ≤ 0 := nI_nle e1 (by omega)
        have hne2 : ¬ nI (RR n A t j).toNat = 0 := nI_ne0 e1 (by omega)
        have ed : nI (b j).toNat / nI (RR n A t j).toNat = nI ((b j).toNat / (RR n A t j).toNat) := dv_i (by omega) (by omega)
        obtain ⟨h', q1, q2, q3⟩ := ih (j + 1) (min h ((b j).toNat / (RR n A t j).toNat)) f (by omega) (by omega) (fun k => by
          have hk : k ≤ (b j).toNat / (RR n A t j).toNat ↔ (k : Int) * Rz n A t j ≤ b j := by
            have c1 : ((RR n A t j).toNat : Int) = RR n A t j := by omega
            have c2 : ((b j).toNat : Int) = b j := by omega
            rw [Nat.le_div_iff_mul_le e1, eR, ← Int.ofNat_le, Int.natCast_mul, c1, c2]
          rw [Nat.le_min, hI k, hk]
          constructor
          · rintro ⟨⟨a, c⟩, d⟩
            refine ⟨a, fun i hi => ?_⟩
            by_cases hij : i = j
            · subst hij; exact d
            · exact c i (by omega)
          · rintro ⟨a, c⟩
            exact ⟨⟨a, fun i hi => c i (by omega)⟩, c j (by omega)⟩) (by omega)
        refine ⟨h', q1, ?_, q3⟩
        rw [← q2]
        simp (disch := omega) only [ef_X0_howOftenFits_5, s_X0_howOftenFits_5, h4, er, eb, hne, hne2, ed, mn_i, iL, iT, iE, iN, iZ, i0, cl, nL, yL, nT, yT, s1_i, ad_i, z0, c0, la_1, la_2, la_11, la_12, la_21, la_22, la_27, la_54, la_10, la_243, ml_4, ml_6, ml_27, ml_10, ml_3, false_or, or_false, true_or, or_true, or_self, if_false, if_true, not_true, not_false_iff, bs, lt_p]
  obtain ⟨h, q1, q2, q3⟩ := key n 0 99 FU (by omega) (by omega) (fun k => ⟨fun q => ⟨q, fun i hi => by omega⟩, fun q => q.1⟩) (FU_gt (by omega))
  refine ⟨h, q1, q2, fun k => ?_⟩
  rw [q3 k]
  obtain ⟨i0, hi0, hpos⟩ : ∃ i, i < n ∧ 0 < Rz n A t i := zs_pos (by have := (Rz_Rw hA hn hn1 (A := A) t).2; omega)
  constructor
  · intro q
    refine ⟨?_, fun i _ => q i⟩
    have h1 := q i0
    have h2 := (hb2 i0).2
    have h6 : ((k : Nat) : Int) * 1 ≤ ((k : Nat) : Int) * Rz n A t i0 := Int.mul_le_mul_of_nonneg_left (by omega) (Int.natCast_nonneg _)
    omega
  · rintro ⟨_, q⟩ i
    by_cases hi : i < n
    · exact q i hi
    · rw [Rz_hi ht (by omega), Int.mul_zero]; exact (hb2 i).1
/-- the wheels go on, from one on -/
theorem x0_goOn2 (hA : OKA n A) (hn : n ≤ 6) (hn1 : 1 ≤ n) : ∀ (U2 U1 K1 K2 : List Nat) (b : Nat → Int) (M : Mem), K1.length = U1.length → VS n A x (U1 ++ U2) (K1 ++ K2) b → CM M n A (U1 ++ U2) (K1 ++ K2) b → ∀ f, U2.length < f → ∃ M', (∀ c, c ≠ 143 → c ≠ 144 → M' c = M c) ∧ ((stp (Rz n A) U2 K2 b = none ∧ f_X0_goOn_2 (fun (_ : Int32) (M2 : Mem) => some (0, M2)) f (nI U1.length) M = some (0, M')) ∨ ∃ K3 b3, stp (Rz n A) U2 K2 b = some (K3, b3) ∧ f_X0_goOn_2 (fun (_ : Int32) (M2 : Mem) => some (0, M2)) f (nI U1.length) M = some (1, M') ∧ VS n A x (U1 ++ U2) (K1 ++ K3) b3 ∧ CM M' n A (U1 ++ U2) (K1 ++ K3) b3) := by
  intro U2
  induction U2 with
  | nil =>
    intro U1 K1 K2 b M hl hV hC f hf
    obtain ⟨f, rfl⟩ : ∃ f', f = f' + 1 := ⟨f - 1, by omega⟩
    refine ⟨M, fun _ _ _ => rfl, Or.inl ⟨rfl, ?_⟩⟩
    have h3 : M 141 3 = nI U1.length := by have := hC.2.1; rw [List.append_nil] at this; exact this
    have h36 := hC.2.2.1
    rw [List.append_nil] at h36
    simp (disch := omega) only [ef_X0_goOn_2, s_X0_goOn_2, h3, iL, iT, iE, iN, iZ, i0, cl, nL, yL, nT, yT, s1_i, ad_i, z0, c0, la_1, la_2, la_11, la_12, la_21, la_22, la_27, la_54, la_10, la_243, ml_4, ml_6, ml_27, ml_10, ml_3, false_or, or_false, true_or, or_true, or_self, if_false, if_true, not_true, not_false_iff, bs, lt_p]
  | cons t U2 ih =>
    intro U1 K1 K2 b M hl hV hC f hf
    obtain ⟨f, rfl⟩ : ∃ f', f = f' + 1 := ⟨f - 1, by omega⟩
    obtain ⟨k, K2', rfl⟩ : ∃ k K2', K2 = k :: K2' := by
      cases K2 with
      | nil => have := hV.1; rw [List.length_append, List.length_append, hl, List.length_cons] at this; simp at this
      | cons k K2' => exact ⟨k, K2', rfl⟩
    obtain ⟨c1, c2, c3, c4, c5, c6, c7⟩ := hC
    have hk99 := hV.small hA hn hn1 hl
    have ht : t < (rts n A).length := hV.2.1 t (by simp)
    have h36 := c7.1
    have hrow := c7.2.2 t ht
    have hlen : (U1 ++ t :: U2).length = U1.length + 1 + U2.length := by rw [List.length_append, List.length_cons]; omega
    have e142 : M 142 U1.length = nI t := c4 U1.length t (by rw [List.getElem?_append_right (Nat.le_refl _), Nat.sub_self]; rfl)
    have e143 : M 143 U1.length = nI k := c5 U1.length k (by rw [List.getElem?_append_right (by omega), hl, Nat.sub_self]; rfl)
    have hb2 : ∀ i, 0 ≤ b i ∧ b i ≤ 99 := fun i => ⟨hV.2.2.1 i, hV.le i⟩
    have hfit := x0_fits (A := A) hn c1 ht hrow c6 hb2
    have hX : ∀ i, b i + (dt (Rz n A) U1 K1 i + (((k : Nat) : Int) * Rz n A t i + dt (Rz n A) U2 K2' i)) = Xz n x i := fun i => by
      have := hV.2.2.2.1 i
      rw [dt_app U1 K1 (t :: U2) (k :: K2') i hl] at this
      exact this
    have hstp : stp (Rz n A) (t :: U2) (k :: K2') b = if dc (fitP (Rz n A t) b) then some ((k + 1) :: K2', vsub b (Rz n A t)) else (stp (Rz n A) U2 K2' (vadd b (Rz n A t) k)).map (fun q => (0 :: q.1, q.2)) := rfl
    by_cases hf2 : fitP (Rz n A t) b
    · rw [dc_t hf2, if_pos rfl] at hfit hstp
      obtain ⟨M1, g1, g2, g3⟩ := x0_away (M := M) hn c1 (59 + t) (by omega) 1
      have e1431 : M1 143 U1.length = nI k := by rw [g2 143 (by omega)]; exact e143
      refine ⟨um M1 143 U1.length (nI (k + 1)), fun c d1 d2 => by rw [um_a d1]; exact g2 c d2, Or.inr ⟨(k + 1) :: K2', vsub b (Rz n A t), hstp, ?_, ?_, ?_⟩⟩
      · simp (disch := omega) only [ef_X0_goOn_2, s_X0_goOn_2, c2, hlen, e142, hfit, e10, g1, e1431, iL, iT, iE, iN, iZ, i0, cl, nL, yL, nT, yT, s1_i, ad_i, z0, c0, la_1, la_2, la_11, la_12, la_21, la_22, la_27, la_54, la_10, la_243, ml_4, ml_6, ml_27, ml_10, ml_3, false_or, or_false, true_or, or_true, or_self, if_false, if_true, not_true, not_false_iff, bs, lt_p]
      · refine ⟨by have := hV.1; rw [List.length_append, List.length_append] at this ⊢; exact this, hV.2.1, fun i => by have : Rz n A t i ≤ b i := hf2 i; show 0 ≤ b i - Rz n A t i; omega, fun i => ?_, hV.2.2.2.2⟩
        rw [dt_app U1 K1 (t :: U2) ((k + 1) :: K2') i hl]
        show b i - Rz n A t i + (dt (Rz n A) U1 K1 i + (((k + 1 : Nat) : Int) * Rz n A t i + dt (Rz n A) U2 K2' i)) = Xz n x i
        rw [Int.natCast_add, Int.add_mul, Int.natCast_one, Int.one_mul]
        have := hX i
        omega
      · refine ⟨by rw [um_a (by omega), g2 141 (by omega)]; exact c1, by rw [um_a (by omega), g2 141 (by omega)]; exact c2, c3, fun j q hj => by rw [um_a (by omega), g2 142 (by omega)]; exact c4 j q hj, fun j q hj => ?_, fun i hi => ?_, c7.on (fun c d1 d2 => by rw [um_a (by omega)]; exact g2 c (by omega))⟩
        · by_cases hju : j = U1.length
          · subst hju
            rw [List.getElem?_append_right (by omega), hl, Nat.sub_self] at hj
            have hj : k + 1 = q := by simpa using hj
            subst hj
            rw [um_s]
          · rw [um_k hju, g2 143 (by omega)]
            refine c5 j q ?_
            by_cases hjl : j < K1.length
            · rw [List.getElem?_append_left hjl] at hj ⊢; exact hj
            · rw [List.getElem?_append_right (by omega)] at hj ⊢
              obtain ⟨d, hd⟩ : ∃ d, j - K1.length = d + 1 := ⟨j - K1.length - 1, by omega⟩
              rw [hd, List.getElem?_cons_succ] at hj ⊢
              exact hj
        · rw [um_a (by omega), g3 i hi, c6 i hi, hrow i (by omega), rt_of hi, Int32.one_mul, ← Int32.ofInt_sub]
          congr 1
          show b i - RR n A t i = b i - Rz n A t i
          rw [Rz_i ht hi]
    · rw [dc_f hf2, if_neg ff_t] at hfit hstp
      have hV2 : VS n A x ((U1 ++ [t]) ++ U2) ((K1 ++ [0]) ++ K2') (vadd b (Rz n A t) k) := by
        have e1 : (U1 ++ [t]) ++ U2 = U1 ++ t :: U2 := by simp
        have e2 : (K1 ++ [0]) ++ K2' = K1 ++ 0 :: K2' := by simp
        rw [e1, e2]
        refine ⟨by have := hV.1; rw [List.length_append, List.length_append] at this ⊢; exact this, hV.2.1, fun i => Int.add_nonneg (hV.2.2.1 i) (Int.mul_nonneg (Int.natCast_nonneg _) (Rz_nn t i)), fun i => ?_, hV.2.2.2.2⟩
        rw [dt_app U1 K1 (t :: U2) (0 :: K2') i hl]
        show b i + ((k : Nat) : Int) * Rz n A t i + (dt (Rz n A) U1 K1 i + (((0 : Nat) : Int) * Rz n A t i + dt (Rz n A) U2 K2' i)) = Xz n x i
        rw [Int.natCast_zero, Int.zero_mul]
        have := hX i
        omega
      have hl2 : (K1 ++ [0]).length = (U1 ++ [t]).length := by rw [List.length_append, List.length_append, hl]; rfl
      have el : (U1 ++ [t]).length = U1.length + 1 := by rw [List.length_append]; rfl
      obtain ⟨M1, hMf, hM1, hgo⟩ : ∃ M1, (∀ c, c ≠ 143 → c ≠ 144 → M1 c = M c) ∧ CM M1 n A ((U1 ++ [t]) ++ U2) ((K1 ++ [0]) ++ K2') (vadd b (Rz n A t) k) ∧ f_X0_goOn_2 (fun (_ : Int32) (M2 : Mem) => some (0, M2)) (f + 1) (nI U1.length) M = f_X0_goOn_2 (fun (_ : Int32) (M2 : Mem) => some (0, M2)) f (nI (U1.length + 1)) M1 := by
        have e1 : (U1 ++ [t]) ++ U2 = U1 ++ t :: U2 := by simp
        have e2 : (K1 ++ [0]) ++ K2' = K1 ++ 0 :: K2' := by simp
        rw [e1, e2]
        by_cases hk0 : k = 0
        · subst hk0
          have z0 : nI 0 ≤ 0 := by decide
          refine ⟨M, fun _ _ _ => rfl, ⟨c1, c2, c3, c4, c5, fun i hi => by rw [vadd_0]; exact c6 i hi, c7⟩, ?_⟩
          simp (disch := omega) only [ef_X0_goOn_2, s_X0_goOn_2, c2, hlen, e142, hfit, e143, z0, iL, iT, iE, iN, iZ, i0, cl, nL, yL, nT, yT, s1_i, ad_i, z0, c0, la_1, la_2, la_11, la_12, la_21, la_22, la_27, la_54, la_10, la_243, ml_4, ml_6, ml_27, ml_10, ml_3, false_or, or_false, true_or, or_true, or_self, if_false, if_true, not_true, not_false_iff, bs, lt_p]
        · have hkn : ¬ nI k ≤ 0 := nI_nle (by omega) (by omega)
          obtain ⟨M1, g1, g2, g3⟩ := x0_away (M := M) hn c1 (59 + t) (by omega) (-(nI k))
          refine ⟨um M1 143 U1.length 0, fun c d1 d2 => by rw [um_a d1]; exact g2 c d2, ⟨by rw [um_a (by omega), g2 141 (by omega)]; exact c1, by rw [um_a (by omega), g2 141 (by omega)]; exact c2, c3, fun j q hj => by rw [um_a (by omega), g2 142 (by omega)]; exact c4 j q hj, fun j q hj => ?_, fun i hi => ?_, c7.on (fun c d1 d2 => by rw [um_a (by omega)]; exact g2 c (by omega))⟩, ?_⟩
          · by_cases hju : j = U1.length
            · subst hju
              rw [List.getElem?_append_right (by omega), hl, Nat.sub_self] at hj
              have hj : 0 = q := by simpa using hj
              subst hj
              rw [um_s]; rfl
            · rw [um_k hju, g2 143 (by omega)]
              refine c5 j q ?_
              by_cases hjl : j < K1.length
              · rw [List.getElem?_append_left hjl] at hj ⊢; exact hj
              · rw [List.getElem?_append_right (by omega)] at hj ⊢
                obtain ⟨d, hd⟩ : ∃ d, j - K1.length = d + 1 := ⟨j - K1.length - 1, by omega⟩
                rw [hd, List.getElem?_cons_succ] at hj ⊢
                exact hj
          · have ek : nI k = Int32.ofInt ((k : Nat) : Int) := by rw [ofI_nI (Int.natCast_nonneg _) (by omega)]; rfl
            rw [um_a (by omega), g3 i hi, c6 i hi, hrow i (by omega), rt_of hi, ek, ← Int32.ofInt_neg, ← Int32.ofInt_mul, ← Int32.ofInt_sub]
            congr 1
            show b i - -((k : Nat) : Int) * RR n A t i = b i + ((k : Nat) : Int) * Rz n A t i
            rw [Rz_i ht hi, Int.neg_mul]
            omega
          · simp (disch := omega) only [ef_X0_goOn_2, s_X0_goOn_2, c2, hlen, e142, hfit, e143, hkn, g1, iL, iT, iE, iN, iZ, i0, cl, nL, yL, nT, yT, s1_i, ad_i, z0, c0, la_1, la_2, la_11, la_12, la_21, la_22, la_27, la_54, la_10, la_243, ml_4, ml_6, ml_27, ml_10, ml_3, false_or, or_false, true_or, or_true, or_self, if_false, if_true, not_true, not_false_iff, bs, lt_p]
      obtain ⟨M2, m1, m2⟩ := ih (U1 ++ [t]) (K1 ++ [0]) K2' (vadd b (Rz n A t) k) M1 hl2 hV2 hM1 f (by rw [List.length_cons] at hf; omega)
      rw [el] at m2
      refine ⟨M2, fun c d1 d2 => by rw [m1 c d1 d2]; exact hMf c d1 d2, ?_⟩
      rcases m2 with ⟨p1, p2⟩ | ⟨K3, b3, p1, p2, p3, p4⟩
      · refine Or.inl ⟨by rw [hstp, p1]; rfl, by rw [hgo]; exact p2⟩
      · refine Or.inr ⟨0 :: K3, b3, by rw [hstp, p1]; rfl, by rw [hgo]; exact p2, ?_, ?_⟩
        · have e1 : (U1 ++ [t]) ++ U2 = U1 ++ t :: U2 := by simp
          have e2 : (K1 ++ [0]) ++ K3 = K1 ++ 0 :: K3 := by simp
          rw [e1, e2] at p3
          exact p3
        · have e1 : (U1 ++ [t]) ++ U2 = U1 ++ t :: U2 := by simp
          have e2 : (K1 ++ [0]) ++ K3 = K1 ++ 0 :: K3 := by simp
          rw [e1, e2] at p4
          exact p4
/-- the loop of all states -/
theorem x0_loop (hA : OKA n A) (hn : n ≤ 6) (hn1 : 1 ≤ n) {u : Nat} {U : List Nat} : ∀ (m st all : Nat) (K : List Nat) (b : Nat → Int) (M : Mem), st + m = 9999 → st ≤ all → all ≤ 11000 → VS n A x (u :: U) (0 :: K) b → CM M n A (u :: U) (0 :: K) b → ∀ f, m < f → ∃ M', (∀ c, c ≠ 143 → c ≠ 144 → M' c = M c) ∧ f_X0_ways_65 (fun (i3_6 : Int32) (_ : Int32) (M8 : Mem) => some (mn i3_6 9999, M8)) f (nI all) (nI st) M = some (nI (min (all + Hn n (Rz n A) U K b (SS n (Rz n A u) (fun _ => 1))) 9999), M') := by
  intro m
  have hend : ∀ (all : Nat) (H : Nat), 9999 ≤ all → all ≤ 11000 → mn (nI all) 9999 = nI (min (all + H) 9999) := fun all H h1 h2 => by
    rw [show (9999 : Int32) = nI 9999 from rfl, mn_i (by omega) (by omega)]
    congr 1
    omega
  induction m with
  | zero =>
    intro st all K b M hm hst hall hV hC f hf
    obtain ⟨f, rfl⟩ : ∃ f', f = f' + 1 := ⟨f - 1, by omega⟩
    have : st = 9999 := by omega
    subst this
    refine ⟨M, fun _ _ _ => rfl, ?_⟩
    have e9 : (9999 : Int32) ≤ nI 9999 := by decide
    rw [ef_X0_ways_65]
    unfold s_X0_ways_65
    rw [if_pos e9]
    show some (mn (nI all) 9999, M) = _
    rw [hend all _ hst hall]
  | succ m ih =>
    intro st all K b M hm hst hall hV hC f hf
    obtain ⟨f, rfl⟩ : ∃ f', f = f' + 1 := ⟨f - 1, by omega⟩
    have e9 : ¬ (9999 : Int32) ≤ nI st := by rw [show (9999 : Int32) = nI 9999 from rfl, iL (by omega) (by omega)]; omega
    by_cases hall9 : 9999 ≤ all
    · refine ⟨M, fun _ _ _ => rfl, ?_⟩
      have e99 : (9999 : Int32) ≤ nI all := by rw [show (9999 : Int32) = nI 9999 from rfl, iL (by omega) (by omega)]; omega
      rw [ef_X0_ways_65]
      unfold s_X0_ways_65
      rw [if_neg e9, if_pos e99]
      show some (mn (nI all) 9999, M) = _
      rw [hend all _ hall9 hall]
    · have e99 : ¬ (9999 : Int32) ≤ nI all := by rw [show (9999 : Int32) = nI 9999 from rfl, iL (by omega) (by omega)]; omega
      have hC' := hC
      obtain ⟨c1, c2, c3, c4, c5, c6, c7⟩ := hC'
      have hu : u < (rts n A).length := hV.2.1 u List.mem_cons_self
      have h36 := c7.1
      have e142 : M 142 0 = nI u := c4 0 u rfl
      have hb2 : ∀ i, 0 ≤ b i ∧ b i ≤ 99 := fun i => ⟨hV.2.2.1 i, hV.le i⟩
      obtain ⟨h, h1, h2, h3⟩ := x0_often (A := A) hA hn hn1 c1 hu (c7.2.2 u hu) c6 hb2
      have hS : SS n (Rz n A u) (fun _ => 1) b = 1 + h := SS_one (Rz_Rw hA hn hn1 u) h b h3
      obtain ⟨M1, m1, m2⟩ := x0_goOn2 (x := x) hA hn hn1 U [u] [0] K b M rfl hV hC FU (FU_gt (by have := c3; rw [List.length_cons] at this; omega))
      have hg : f_X0_goOn M = f_X0_goOn_2 (fun (_ : Int32) (M2 : Mem) => some (0, M2)) FU (nI [u].length) M := rfl
      have e1h : (1 : Int32) + nI h = nI (1 + h) := la_1 h
      have hH := Hn_step (n := n) (R := Rz n A) (Rz_Rw hA hn hn1) U K b (SS n (Rz n A u) (fun _ => 1))
      rcases m2 with ⟨p1, p2⟩ | ⟨K3, b3, p1, p2, p3, p4⟩
      · rw [← hg] at p2
        refine ⟨M1, m1, ?_⟩
        rw [hH.1 p1, hS]
        have e00 : (0 : Int32).toNatClampNeg = 0 := rfl
        have ef : mn (nI (all + (1 + h))) 9999 = nI (min (all + (1 + h)) 9999) := by
          rw [show (9999 : Int32) = nI 9999 from rfl, mn_i (by omega) (by omega)]
        simp (disch := omega) only [ef_X0_ways_65, s_X0_ways_65, e9, e99, e00, e142, h2, e1h, p2, ef, iL, iT, iE, iN, iZ, i0, cl, nL, yL, nT, yT, s1_i, ad_i, z0, c0, la_1, la_2, la_11, la_12, la_21, la_22, la_27, la_54, la_10, la_243, ml_4, ml_6, ml_27, ml_10, ml_3, false_or, or_false, true_or, or_true, or_self, if_false, if_true, not_true, not_false_iff, bs, lt_p]
      · rw [← hg] at p2
        obtain ⟨M2, q1, q2⟩ := ih (st + 1) (all + (1 + h)) K3 b3 M1 (by omega) (by omega) (by omega) p3 p4 f (by omega)
        refine ⟨M2, fun c d1 d2 => by rw [q1 c d1 d2]; exact m1 c d1 d2, ?_⟩
        rw [hH.2 K3 b3 p1, hS, show all + (1 + h + Hn n (Rz n A) U K3 b3 (SS n (Rz n A u) (fun _ => 1))) = all + (1 + h) + Hn n (Rz n A) U K3 b3 (SS n (Rz n A u) (fun _ => 1)) by omega, ← q2]
        have e00 : (0 : Int32).toNatClampNeg = 0 := rfl
        simp (disch := omega) only [ef_X0_ways_65, s_X0_ways_65, e9, e99, e00, e142, h2, e1h, p2, e10, iL, iT, iE, iN, iZ, i0, cl, nL, yL, nT, yT, s1_i, ad_i, z0, c0, la_1, la_2, la_11, la_12, la_21, la_22, la_27, la_54, la_10, la_243, ml_4, ml_6, ml_27, ml_10, ml_3, false_or, or_false, true_or, or_true, or_self, if_false, if_true, not_true, not_false_iff, bs, lt_p]
end CSUMS

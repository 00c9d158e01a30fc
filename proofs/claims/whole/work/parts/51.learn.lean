/-! ===== the class learns the roots ===== -/
section LEARN
variable {M M0 M' : Mem} {n : Nat} {A : Arr} {x : Row}
theorem x7_sameY (hn : n ≤ 6) {a b : Nat} (h : ∀ i, i < n → M a i = M b i) : f_X7_isSameRow a b (nI n) M = some 1 := by
  refine loop_u (fun m (_ : Unit) j => f_X7_isSameRow_2 a b (nI n) M (fun _ => some 1) m (nI j)) (fun _ => some 1) n (fun _ s => s) () (fun m j s hj => ?_) (fun m s => ?_) FU (FU_gt (by omega))
  · simp (disch := omega) only [ef_X7_isSameRow_2, s_X7_isSameRow_2, h j hj, iL, iT, iE, iN, iZ, i0, cl, nL, yL, nT, yT, s1_i, ad_i, z0, c0, la_1, la_2, la_11, la_12, la_21, la_22, la_27, la_54, la_10, la_243, ml_4, ml_6, ml_27, ml_10, ml_3, false_or, or_false, true_or, or_true, or_self, if_false, if_true, not_true, not_false_iff, bs, lt_p]
  · simp (disch := omega) only [ef_X7_isSameRow_2, s_X7_isSameRow_2, iL, iT, iE, iN, iZ, i0, cl, nL, yL, nT, yT, s1_i, ad_i, z0, c0, la_1, la_2, la_11, la_12, la_21, la_22, la_27, la_54, la_10, la_243, ml_4, ml_6, ml_27, ml_10, ml_3, false_or, or_false, true_or, or_true, or_self, if_false, if_true, not_true, not_false_iff, bs, lt_p]
theorem x7_sameN (hn : n ≤ 6) {a b : Nat} (h : ¬ ∀ i, i < n → M a i = M b i) : f_X7_isSameRow a b (nI n) M = some 0 := by
  obtain ⟨k, k1, k2, k3⟩ := (first_bad (p := fun i => M a i = M b i) n).resolve_left h
  refine loop_u (fun m (_ : Unit) j => f_X7_isSameRow_2 a b (nI n) M (fun _ => some 1) m (nI j)) (fun _ => some 0) k (fun _ s => s) () (fun m j s hj => ?_) (fun m s => ?_) FU (FU_gt (by omega))
  · simp (disch := omega) only [ef_X7_isSameRow_2, s_X7_isSameRow_2, k2 j hj, iL, iT, iE, iN, iZ, i0, cl, nL, yL, nT, yT, s1_i, ad_i, z0, c0, la_1, la_2, la_11, la_12, la_21, la_22, la_27, la_54, la_10, la_243, ml_4, ml_6, ml_27, ml_10, ml_3, false_or, or_false, true_or, or_true, or_self, if_false, if_true, not_true, not_false_iff, bs, lt_p]
  · simp (disch := omega) only [ef_X7_isSameRow_2, s_X7_isSameRow_2, k3, iL, iT, iE, iN, iZ, i0, cl, nL, yL, nT, yT, s1_i, ad_i, z0, c0, la_1, la_2, la_11, la_12, la_21, la_22, la_27, la_54, la_10, la_243, ml_4, ml_6, ml_27, ml_10, ml_3, false_or, or_false, true_or, or_true, or_self, if_false, if_true, not_true, not_false_iff, bs, lt_p]
theorem x6_prj (hn : n ≤ 6) (b : Nat) : (∃ p, p < n ∧ (∀ i, i < n → M (51 + p) i = M b i) ∧ f_X6_pointOfProjective b (nI n) M = some (nI p)) ∨ ((∀ p, p < n → ¬ ∀ i, i < n → M (51 + p) i = M b i) ∧ f_X6_pointOfProjective b (nI n) M = some (-1)) := by
  have h := loop_find (fun m j => f_X6_pointOfProjective_2 b (nI n) M (fun _ => some (-1)) m (nI j)) n (fun j => dc (∀ i, i < n → M (51 + j) i = M b i)) (fun k => some (nI k)) (some (-1)) (fun m j hj hf => ?_) (fun m j hj hf => ?_) (fun m => ?_) (f := FU) (FU_gt (by omega))
  · rcases h with ⟨k, k1, k2, k3, k4⟩ | ⟨k1, k2⟩
    · exact Or.inl ⟨k, k1, dc_iff.mp k3, k4⟩
    · exact Or.inr ⟨fun p hp q => Bool.noConfusion ((k1 p hp).symm.trans (dc_iff.mpr q)), k2⟩
  · have hf2 : ¬ ∀ i, i < n → M (51 + j) i = M b i := fun q => by rw [dc_iff.mpr q] at hf; cases hf
    simp (disch := omega) only [ef_X6_pointOfProjective_2, s_X6_pointOfProjective_2, x7_sameN hn hf2, iL, iT, iE, iN, iZ, i0, cl, nL, yL, nT, yT, s1_i, ad_i, z0, c0, la_1, la_2, la_11, la_12, la_21, la_22, la_27, la_54, la_10, la_243, ml_4, ml_6, ml_27, ml_10, ml_3, false_or, or_false, true_or, or_true, or_self, if_false, if_true, not_true, not_false_iff, bs, lt_p]
  · simp (disch := omega) only [ef_X6_pointOfProjective_2, s_X6_pointOfProjective_2, x7_sameY hn (dc_iff.mp hf), e10, iL, iT, iE, iN, iZ, i0, cl, nL, yL, nT, yT, s1_i, ad_i, z0, c0, la_1, la_2, la_11, la_12, la_21, la_22, la_27, la_54, la_10, la_243, ml_4, ml_6, ml_27, ml_10, ml_3, false_or, or_false, true_or, or_true, or_self, if_false, if_true, not_true, not_false_iff, bs, lt_p]
  · simp (disch := omega) only [ef_X6_pointOfProjective_2, s_X6_pointOfProjective_2, iL, iT, iE, iN, iZ, i0, cl, nL, yL, nT, yT, s1_i, ad_i, z0, c0, la_1, la_2, la_11, la_12, la_21, la_22, la_27, la_54, la_10, la_243, ml_4, ml_6, ml_27, ml_10, ml_3, false_or, or_false, true_or, or_true, or_self, if_false, if_true, not_true, not_false_iff, bs, lt_p]
theorem x6_injY (hn : n ≤ 6) {b p : Nat} (hp : p < 6) (h : ∀ i, i < n → M (51 + i) p = M b i) : f_X6_isInjective (nI p) b (nI n) M = some 1 := by
  refine loop_u (fun m (_ : Unit) j => f_X6_isInjective_3 (nI p) b (nI n) M (fun _ => some 1) m (nI j)) (fun _ => some 1) n (fun _ s => s) () (fun m j s hj => ?_) (fun m s => ?_) FU (FU_gt (by omega))
  · simp (disch := omega) only [ef_X6_isInjective_3, s_X6_isInjective_3, h j hj, iL, iT, iE, iN, iZ, i0, cl, nL, yL, nT, yT, s1_i, ad_i, z0, c0, la_1, la_2, la_11, la_12, la_21, la_22, la_27, la_54, la_10, la_243, ml_4, ml_6, ml_27, ml_10, ml_3, false_or, or_false, true_or, or_true, or_self, if_false, if_true, not_true, not_false_iff, bs, lt_p]
  · simp (disch := omega) only [ef_X6_isInjective_3, s_X6_isInjective_3, iL, iT, iE, iN, iZ, i0, cl, nL, yL, nT, yT, s1_i, ad_i, z0, c0, la_1, la_2, la_11, la_12, la_21, la_22, la_27, la_54, la_10, la_243, ml_4, ml_6, ml_27, ml_10, ml_3, false_or, or_false, true_or, or_true, or_self, if_false, if_true, not_true, not_false_iff, bs, lt_p]
theorem x6_injN (hn : n ≤ 6) {b p : Nat} (hp : p < 6) (h : ¬ ∀ i, i < n → M (51 + i) p = M b i) : f_X6_isInjective (nI p) b (nI n) M = some 0 := by
  obtain ⟨k, k1, k2, k3⟩ := (first_bad (p := fun i => M (51 + i) p = M b i) n).resolve_left h
  refine loop_u (fun m (_ : Unit) j => f_X6_isInjective_3 (nI p) b (nI n) M (fun _ => some 1) m (nI j)) (fun _ => some 0) k (fun _ s => s) () (fun m j s hj => ?_) (fun m s => ?_) FU (FU_gt (by omega))
  · simp (disch := omega) only [ef_X6_isInjective_3, s_X6_isInjective_3, k2 j hj, iL, iT, iE, iN, iZ, i0, cl, nL, yL, nT, yT, s1_i, ad_i, z0, c0, la_1, la_2, la_11, la_12, la_21, la_22, la_27, la_54, la_10, la_243, ml_4, ml_6, ml_27, ml_10, ml_3, false_or, or_false, true_or, or_true, or_self, if_false, if_true, not_true, not_false_iff, bs, lt_p]
  · simp (disch := omega) only [ef_X6_isInjective_3, s_X6_isInjective_3, k3, iL, iT, iE, iN, iZ, i0, cl, nL, yL, nT, yT, s1_i, ad_i, z0, c0, la_1, la_2, la_11, la_12, la_21, la_22, la_27, la_54, la_10, la_243, ml_4, ml_6, ml_27, ml_10, ml_3, false_or, or_false, true_or, or_true, or_self, if_false, if_true, not_true, not_false_iff, bs, lt_p]
theorem x6_inj (hn : n ≤ 6) (b : Nat) : (∃ p, p < n ∧ (∀ i, i < n → M (51 + i) p = M b i) ∧ f_X6_pointOfInjective b (nI n) M = some (nI p)) ∨ ((∀ p, p < n → ¬ ∀ i, i < n → M (51 + i) p = M b i) ∧ f_X6_pointOfInjective b (nI n) M = some (-1)) := by
  have h := loop_find (fun m j => f_X6_pointOfInjective_2 b (nI n) M (fun _ => some (-1)) m (nI j)) n (fun j => dc (∀ i, i < n → M (51 + i) j = M b i)) (fun k => some (nI k)) (some (-1)) (fun m j hj hf => ?_) (fun m j hj hf => ?_) (fun m => ?_) (f := FU) (FU_gt (by omega))
  · rcases h with ⟨k, k1, k2, k3, k4⟩ | ⟨k1, k2⟩
    · exact Or.inl ⟨k, k1, dc_iff.mp k3, k4⟩
    · exact Or.inr ⟨fun p hp q => Bool.noConfusion ((k1 p hp).symm.trans (dc_iff.mpr q)), k2⟩
  · have hf2 : ¬ ∀ i, i < n → M (51 + i) j = M b i := fun q => by rw [dc_iff.mpr q] at hf; cases hf
    simp (disch := omega) only [ef_X6_pointOfInjective_2, s_X6_pointOfInjective_2, x6_injN hn (show j < 6 by omega) hf2, iL, iT, iE, iN, iZ, i0, cl, nL, yL, nT, yT, s1_i, ad_i, z0, c0, la_1, la_2, la_11, la_12, la_21, la_22, la_27, la_54, la_10, la_243, ml_4, ml_6, ml_27, ml_10, ml_3, false_or, or_false, true_or, or_true, or_self, if_false, if_true, not_true, not_false_iff, bs, lt_p]
  · simp (disch := omega) only [ef_X6_pointOfInjective_2, s_X6_pointOfInjective_2, x6_injY hn (show j < 6 by omega) (dc_iff.mp hf), e10, iL, iT, iE, iN, iZ, i0, cl, nL, yL, nT, yT, s1_i, ad_i, z0, c0, la_1, la_2, la_11, la_12, la_21, la_22, la_27, la_54, la_10, la_243, ml_4, ml_6, ml_27, ml_10, ml_3, false_or, or_false, true_or, or_true, or_self, if_false, if_true, not_true, not_false_iff, bs, lt_p]
  · simp (disch := omega) only [ef_X6_pointOfInjective_2, s_X6_pointOfInjective_2, iL, iT, iE, iN, iZ, i0, cl, nL, yL, nT, yT, s1_i, ad_i, z0, c0, la_1, la_2, la_11, la_12, la_21, la_22, la_27, la_54, la_10, la_243, ml_4, ml_6, ml_27, ml_10, ml_3, false_or, or_false, true_or, or_true, or_self, if_false, if_true, not_true, not_false_iff, bs, lt_p]
theorem x3_numberOf {L : Nat} (hL : L ≤ 36) (h57 : M 57 1 = nI L) (hn : n ≤ 6) (b : Nat) : (∃ r, r < L ∧ (∀ i, i < n → M (59 + r) i = M b i) ∧ f_X3_numberOf b (nI n) M = some (nI r)) ∨ ((∀ r, r < L → ¬ ∀ i, i < n → M (59 + r) i = M b i) ∧ f_X3_numberOf b (nI n) M = some (-1000000)) := by
  have h := loop_find (fun m j => f_X3_numberOf_2 b (nI n) M (fun _ => some (-1000000)) m (nI j)) L (fun j => dc (∀ i, i < n → M (59 + j) i = M b i)) (fun k => some (nI k)) (some (-1000000)) (fun m j hj hf => ?_) (fun m j hj hf => ?_) (fun m => ?_) (f := FU) (FU_gt (by omega))
  · rcases h with ⟨k, k1, k2, k3, k4⟩ | ⟨k1, k2⟩
    · exact Or.inl ⟨k, k1, dc_iff.mp k3, k4⟩
    · exact Or.inr ⟨fun p hp q => Bool.noConfusion ((k1 p hp).symm.trans (dc_iff.mpr q)), k2⟩
  · have hf2 : ¬ ∀ i, i < n → M (59 + j) i = M b i := fun q => by rw [dc_iff.mpr q] at hf; cases hf
    simp (disch := omega) only [ef_X3_numberOf_2, s_X3_numberOf_2, h57, x7_sameN hn hf2, iL, iT, iE, iN, iZ, i0, cl, nL, yL, nT, yT, s1_i, ad_i, z0, c0, la_1, la_2, la_11, la_12, la_21, la_22, la_27, la_54, la_10, la_243, ml_4, ml_6, ml_27, ml_10, ml_3, false_or, or_false, true_or, or_true, or_self, if_false, if_true, not_true, not_false_iff, bs, lt_p]
  · simp (disch := omega) only [ef_X3_numberOf_2, s_X3_numberOf_2, h57, x7_sameY hn (dc_iff.mp hf), e10, iL, iT, iE, iN, iZ, i0, cl, nL, yL, nT, yT, s1_i, ad_i, z0, c0, la_1, la_2, la_11, la_12, la_21, la_22, la_27, la_54, la_10, la_243, ml_4, ml_6, ml_27, ml_10, ml_3, false_or, or_false, true_or, or_true, or_self, if_false, if_true, not_true, not_false_iff, bs, lt_p]
  · simp (disch := omega) only [ef_X3_numberOf_2, s_X3_numberOf_2, h57, iL, iT, iE, iN, iZ, i0, cl, nL, yL, nT, yT, s1_i, ad_i, z0, c0, la_1, la_2, la_11, la_12, la_21, la_22, la_27, la_54, la_10, la_243, ml_4, ml_6, ml_27, ml_10, ml_3, false_or, or_false, true_or, or_true, or_self, if_false, if_true, not_true, not_false_iff, bs, lt_p]
/-- the roots' rows, in memory -/
def RW (M : Mem) (n : Nat) (A : Arr) : Prop := (rts n A).length ≤ 36 ∧ M 57 1 = nI (rts n A).length ∧ ∀ t, t < (rts n A).length → ∀ i, i < 6 → M (59 + t) i = rt n A t i
def PrjOK (n : Nat) (A : Arr) (t : Nat) (v : Int32) : Prop := (∃ p, p < n ∧ isPrj n A t p ∧ v = nI p) ∨ (v = -1 ∧ ∀ p, p < n → ¬ isPrj n A t p)
def InjOK (n : Nat) (A : Arr) (t : Nat) (v : Int32) : Prop := (∃ p, p < n ∧ isInj n A t p ∧ v = nI p) ∨ (v = -1 ∧ ∀ p, p < n → ¬ isInj n A t p)
theorem x3_find (hq : CQ M 1 n A x) (hw : WaysOK M n A) (hA : OKA n A) (hn : n ≤ 6) (h : fnt n A = true) (hR : RW M n A) {r : Nat} (hr : r < (rts n A).length) : ∃ M', f_X3_findNeighbours (nI r) M = some M' ∧ (∀ c, c ≠ 139 → c ≠ 99 → c ≠ 96 → c ≠ 140 → M' c = M c) ∧ (∀ c j, j ≠ r → c ≠ 140 → M' c j = M c j) ∧ PrjOK n A r (M' 139 r) ∧ InjOK n A r (M' 99 r) ∧ TauOK n A r (M' 96 r) := by
  obtain ⟨h36, h57, hrow⟩ := hR
  have a10 : M 1 0 = nI n := hq.1
  have ep : ∀ p, p < n → ((∀ i, i < n → M (51 + p) i = M (59 + r) i) ↔ isPrj n A r p) := fun p hp => by
    unfold isPrj
    constructor
    · intro q j hj; rw [← hrow r hr j (by omega), ← q j hj]; exact hw.2.2 p hp j hj
    · intro q j hj; rw [hrow r hr j (by omega), q j hj]; exact hw.2.2 p hp j hj
  have ej : ∀ p, p < n → ((∀ i, i < n → M (51 + i) p = M (59 + r) i) ↔ isInj n A r p) := fun p hp => by
    unfold isInj
    constructor
    · intro q j hj; rw [← hrow r hr j (by omega), ← q j hj]; exact hw.2.2 j hj p hp
    · intro q j hj; rw [hrow r hr j (by omega), q j hj]; exact hw.2.2 j hj p hp
  obtain ⟨v, hv, hvP⟩ : ∃ v, f_X6_pointOfProjective (59 + r) (nI n) M = some v ∧ PrjOK n A r v := by
    rcases x6_prj (M := M) hn (59 + r) with ⟨p, p1, p2, p3⟩ | ⟨p1, p2⟩
    · exact ⟨_, p3, Or.inl ⟨p, p1, (ep p p1).mp p2, rfl⟩⟩
    · exact ⟨_, p2, Or.inr ⟨rfl, fun p hp q => p1 p hp ((ep p hp).mpr q)⟩⟩
  obtain ⟨u, hu, huP⟩ : ∃ u, f_X6_pointOfInjective (59 + r) (nI n) (um M 139 r v) = some u ∧ InjOK n A r u := by
    have e : ∀ c, c ≠ 139 → um M 139 r v c = M c := fun c hc => um_a hc
    rcases x6_inj (M := um M 139 r v) hn (59 + r) with ⟨p, p1, p2, p3⟩ | ⟨p1, p2⟩
    · refine ⟨_, p3, Or.inl ⟨p, p1, (ej p p1).mp (fun i hi => ?_), rfl⟩⟩
      have := p2 i hi
      rw [e _ (by omega), e _ (by omega)] at this
      exact this
    · refine ⟨_, p2, Or.inr ⟨rfl, fun p hp q => p1 p hp (fun i hi => ?_)⟩⟩
      rw [e _ (by omega), e _ (by omega)]
      exact (ej p hp).mpr q i hi
  have f10 : um M 139 r v 1 0 = nI n := by rw [um_a (by omega)]; exact a10
  have e139 : um (um (um M 139 r v) 99 r u) 96 r (-1000000) 139 r = v := by rw [um_a (by omega), um_a (by omega), um_s]
  rcases hvP with ⟨p, p1, p2, p3⟩ | ⟨p1, p2⟩
  · have hv1 : ¬ v = -1 := by
      rw [p3, fa_eq, nI_toInt (by omega), show (-1 : Int32).toInt = -1 from rfl]
      omega
    refine ⟨um (um (um M 139 r v) 99 r u) 96 r (-1000000), ?_, fun c c1 c2 c3 c4 => ?_, fun c j hj _ => ?_, ?_, ?_, ?_⟩
    · simp (disch := omega) only [f_X3_findNeighbours, a10, hv, f10, hu, e139, hv1, iL, iT, iE, iN, iZ, i0, cl, nL, yL, nT, yT, s1_i, ad_i, z0, c0, la_1, la_2, la_11, la_12, la_21, la_22, la_27, la_54, la_10, la_243, ml_4, ml_6, ml_27, ml_10, ml_3, false_or, or_false, true_or, or_true, or_self, if_false, if_true, not_true, not_false_iff, bs, lt_p]
    · rw [um_a c3, um_a c2, um_a c1]
    · by_cases c1 : c = 96
      · subst c1; rw [um_k hj, um_a (by omega), um_a (by omega)]
      · rw [um_a c1]
        by_cases c2 : c = 99
        · subst c2; rw [um_k hj, um_a (by omega)]
        · rw [um_a c2]
          by_cases c3 : c = 139
          · subst c3; rw [um_k hj]
          · rw [um_a c3]
    · rw [e139]; exact Or.inl ⟨p, p1, p2, p3⟩
    · rw [um_a (by omega), um_s]; exact huP
    · rw [um_s]; exact Or.inr ⟨rfl, fun s _ => prj_no hA hn p1 p2⟩
  · obtain ⟨t, t1, t2, t3⟩ := tau_ex hA hn h hr p2
    let M3 : Mem := um (um (um M 139 r v) 99 r u) 96 r (-1000000)
    let M4 : Mem := uc M3 140 (va_cpy (M3 (59 + r)) (M3 140) 0 0 6)
    have e4 : ∀ c, c ≠ 139 → c ≠ 99 → c ≠ 96 → c ≠ 140 → M4 c = M c := fun c c1 c2 c3 c4 => by
      show uc M3 140 _ c = M c
      rw [uc_a c4]
      show um (um (um M 139 r v) 99 r u) 96 r (-1000000) c = M c
      rw [um_a c3, um_a c2, um_a c1]
    have hq4 : CQ M4 1 n A x := hq.on (fun c _ _ => e4 c (by omega) (by omega) (by omega) (by omega))
    have hw4 : WaysOK M4 n A := hw.on hn (fun c _ _ => e4 c (by omega) (by omega) (by omega) (by omega))
    have hY4 : ∀ i, i < n → M4 140 i = Int32.ofInt (RR n A r i) := fun i hi => by
      show uc M3 140 (va_cpy (M3 (59 + r)) (M3 140) 0 0 6) 140 i = _
      rw [uc_s, cp_lt (by omega)]
      show um (um (um M 139 r v) 99 r u) 96 r (-1000000) (59 + r) i = _
      rw [um_a (by omega), um_a (by omega), um_a (by omega), hrow r hr i (by omega)]
      exact rt_of hi
    obtain ⟨M5, g1, g2, g3, g4⟩ := x6_shiftBack hq4 hw4 hA hn 140 (by omega) hY4
    have e5 : ∀ c, c ≠ 139 → c ≠ 99 → c ≠ 96 → c ≠ 140 → M5 c = M c := fun c c1 c2 c3 c4 => by rw [g2 c c4]; exact e4 c c1 c2 c3 c4
    have f105 : M5 1 0 = nI n := by rw [e5 1 (by omega) (by omega) (by omega) (by omega)]; exact a10
    have hnum : f_X3_numberOf 140 (nI n) M5 = some (nI t) := by
      have h5 : ∀ s, s < (rts n A).length → ((∀ i, i < n → M5 (59 + s) i = M5 140 i) ↔ s = t) := fun s hs => by
        have hk : ∀ i, i < n → (M5 (59 + s) i = M5 140 i ↔ RR n A s i = RR n A t i) := fun i hi => by
          rw [e5 (59 + s) (by omega) (by omega) (by omega) (by omega), hrow s hs i (by omega), rt_of hi, g3 i hi, ← t3 i hi, fa_eq]
          have a1 := RR_nn (n := n) (A := A) s i
          have a2 := RR_3 (n := n) (A := A) s i
          have a3 := RR_nn (n := n) (A := A) t i
          have a4 := RR_3 (n := n) (A := A) t i
          rw [Int32.toInt_ofInt_of_le (by omega) (by omega), Int32.toInt_ofInt_of_le (by omega) (by omega)]
        constructor
        · intro q; exact RR_inj hA hn hs t1 (fun i hi => (hk i hi).mp (q i hi))
        · intro q i hi; exact (hk i hi).mpr (by rw [q])
      rcases x3_numberOf (M := M5) h36 (by rw [e5 57 (by omega) (by omega) (by omega) (by omega)]; exact h57) hn 140 with ⟨s, s1, s2, s3⟩ | ⟨s1, s2⟩
      · rw [(h5 s s1).mp s2] at s3; exact s3
      · exact absurd ((h5 t t1).mpr rfl) (s1 t t1)
    have hv1 : (v = -1) = True := eq_true p1
    have hM4 : f_X7_copyRow (59 + r) 140 (um (um (um M 139 r v) 99 r u) 96 r (-1000000)) = some M4 := rfl
    refine ⟨um M5 96 r (nI t), ?_, fun c c1 c2 c3 c4 => ?_, fun c j hj hc => ?_, ?_, ?_, ?_⟩
    · simp (disch := omega) only [f_X3_findNeighbours, a10, hv, f10, hu, e139, hv1, hM4, g1, f105, hnum, iL, iT, iE, iN, iZ, i0, cl, nL, yL, nT, yT, s1_i, ad_i, z0, c0, la_1, la_2, la_11, la_12, la_21, la_22, la_27, la_54, la_10, la_243, ml_4, ml_6, ml_27, ml_10, ml_3, false_or, or_false, true_or, or_true, or_self, if_false, if_true, not_true, not_false_iff, bs, lt_p]
    · rw [um_a c3]; exact e5 c c1 c2 c3 c4
    · have k1 : M5 c j = M3 c j := by
        rw [g2 c hc]
        show uc M3 140 _ c j = _
        rw [uc_a hc]
      have k2 : M3 c j = M c j := by
        show um (um (um M 139 r v) 99 r u) 96 r (-1000000) c j = _
        by_cases c1 : c = 96
        · subst c1; rw [um_k hj, um_a (by omega), um_a (by omega)]
        · rw [um_a c1]
          by_cases c2 : c = 99
          · subst c2; rw [um_k hj, um_a (by omega)]
          · rw [um_a c2]
            by_cases c3 : c = 139
            · subst c3; rw [um_k hj]
            · rw [um_a c3]
      by_cases c1 : c = 96
      · subst c1; rw [um_k hj, k1, k2]
      · rw [um_a c1, k1, k2]
    · rw [um_a (by omega), g2 139 (by omega)]
      show PrjOK n A r (uc M3 140 _ 139 r)
      rw [uc_a (by omega)]
      show PrjOK n A r (um (um (um M 139 r v) 99 r u) 96 r (-1000000) 139 r)
      rw [e139]
      exact Or.inr ⟨p1, p2⟩
    · rw [um_a (by omega), g2 99 (by omega)]
      show InjOK n A r (uc M3 140 _ 99 r)
      rw [uc_a (by omega)]
      show InjOK n A r (um (um (um M 139 r v) 99 r u) 96 r (-1000000) 99 r)
      rw [um_a (by omega), um_s]
      exact huP
    · rw [um_s]
      exact Or.inl ⟨t, t1, rfl, t2⟩
/-- back, step by step -/
theorem x3_goBack (hA : OKA n A) (hn : n ≤ 6) (h : fnt n A = true) (h36 : (rts n A).length ≤ 36) (h57 : M 57 1 = nI (rts n A).length) (hT : ∀ t, t < (rts n A).length → TauOK n A t (M 96 t)) (hP : ∀ t, t < (rts n A).length → PrjOK n A t (M 139 t)) {r : Nat} (hr : r < (rts n A).length) : ∃ k e p, stepsTo n A k r e ∧ k < 36 ∧ p < n ∧ isPrj n A e p ∧ f_X3_goBack (nI r) M = some (um (um M 97 r (nI k)) 98 r (nI p)) := by
  obtain ⟨k, e, k1, k2, k3⟩ := steps_ex hA hn h hr
  obtain ⟨p, p1, p2⟩ := end_prj hA hn h k3 (steps_end k r e k1)
  have hneg : (-1000000 : Int32) < 0 := by decide
  have key : ∀ (kk : Int32 → Int32 → Option Mem) (d t j : Nat), stepsTo n A d t e → t < (rts n A).length → j + d < (rts n A).length → ∀ f, d < f → f_X3_goBack_4 (nI r) M kk f (nI t) (nI j) = kk (nI e) (nI (j + d)) := by
    intro kk d
    induction d with
    | zero =>
      intro t j hs ht hj f hf
      obtain ⟨f, rfl⟩ : ∃ f', f = f' + 1 := ⟨f - 1, by omega⟩
      obtain ⟨rfl, hs2⟩ := hs
      rcases hT t ht with ⟨s, s1, s2, s3⟩ | ⟨s1, s2⟩
      · exact absurd s3 (hs2 s s1)
      · simp (disch := omega) only [ef_X3_goBack_4, s_X3_goBack_4, h57, s1, hneg, Nat.add_zero, iL, iT, iE, iN, iZ, i0, cl, nL, yL, nT, yT, s1_i, ad_i, z0, c0, la_1, la_2, la_11, la_12, la_21, la_22, la_27, la_54, la_10, la_243, ml_4, ml_6, ml_27, ml_10, ml_3, false_or, or_false, true_or, or_true, or_self, if_false, if_true, not_true, not_false_iff, bs, lt_p]
    | succ d ih =>
      intro t j hs ht hj f hf
      obtain ⟨f, rfl⟩ : ∃ f', f = f' + 1 := ⟨f - 1, by omega⟩
      obtain ⟨s, s1, s2, s3⟩ := hs
      rcases hT t ht with ⟨u, u1, u2, u3⟩ | ⟨u1, u2⟩
      · have := tau_uq hA hn s1 u1 s2 u3
        subst this
        have h2 := ih s (j + 1) s3 s1 (by omega) f (by omega)
        rw [show j + 1 + d = j + (d + 1) by omega] at h2
        simp (disch := omega) only [ef_X3_goBack_4, s_X3_goBack_4, h57, u2, iL, iT, iE, iN, iZ, i0, cl, nL, yL, nT, yT, s1_i, ad_i, z0, c0, la_1, la_2, la_11, la_12, la_21, la_22, la_27, la_54, la_10, la_243, ml_4, ml_6, ml_27, ml_10, ml_3, false_or, or_false, true_or, or_true, or_self, if_false, if_true, not_true, not_false_iff, bs, lt_p]
        exact h2
      · exact absurd s2 (u2 s s1)
  refine ⟨k, e, p, k1, by omega, p1, p2, ?_⟩
  have e139 : M 139 e = nI p := by
    rcases hP e k3 with ⟨q, q1, q2, q3⟩ | ⟨_, q2⟩
    · rw [q3, prj_uq hA hn q1 p1 q2 p2]
    · exact absurd p2 (q2 p p1)
  unfold f_X3_goBack
  have h1 := key (fun (i2_1 : Int32) (i3_2 : Int32) =>
    if nI r < 0 ∨ 36 ≤ (nI r).toNatClampNeg then none else
    lt (um M 97 (nI r).toNatClampNeg i3_2) fun (M4 : Mem) =>
    if i2_1 < 0 ∨ 36 ≤ i2_1.toNatClampNeg then none else
    if nI r < 0 ∨ 36 ≤ (nI r).toNatClampNeg then none else
    lt (um M4 98 (nI r).toNatClampNeg (M4 139 i2_1.toNatClampNeg)) fun (M7 : Mem) =>
    some M7) k r 0 k1 hr (by omega) FU (FU_gt (by omega))
  refine Eq.trans h1 ?_
  simp (disch := omega) only [um_a, e139, Nat.zero_add, iL, iT, iE, iN, iZ, i0, cl, nL, yL, nT, yT, s1_i, ad_i, z0, c0, la_1, la_2, la_11, la_12, la_21, la_22, la_27, la_54, la_10, la_243, ml_4, ml_6, ml_27, ml_10, ml_3, false_or, or_false, true_or, or_true, or_self, if_false, if_true, not_true, not_false_iff, bs, lt_p]
theorem x3_learn (hq : CQ M 1 n A x) (hw : WaysOK M n A) (hA : OKA n A) (hn : n ≤ 6) : ∃ M', f_X3_learn M = some M' ∧ (∀ c, (c < 57 ∨ 140 < c) → M' c = M c) ∧ RootsOK M' n A := by
  rcases x3_search hq hA hn with ⟨M1, b1, b2, b3⟩ | ⟨F, M1, b1, b2, b3, b4, b5, b6⟩
  · refine ⟨um M1 57 0 0, ?_, fun c hc => by rw [um_a (by omega)]; exact b2 c hc, Or.inl ⟨b3, um_s⟩⟩
    simp only [f_X3_learn, b1, um_s, eq_self, bs, lt_p, true_or, not_true, if_false, if_true]
  · have hlen : (rts n A).length = F.length := by rw [← b6.length_eq, List.length_map]
    have h36 := fnt_36 hA hn b5
    have e2 : ∀ c, c ≠ 57 → um M1 57 0 1 c = M1 c := fun c hc => um_a hc
    have hFD : FD (um M1 57 0 1) F := ⟨by rw [um_k (by omega)]; exact b2.1, b2.2.1, fun r c hrc => by
      rw [e2 _ (by omega), e2 _ (by omega), e2 _ (by omega)]
      exact b2.2.2 r c hrc⟩
    obtain ⟨M3, g1, g2, g3⟩ := x3_give hA hn b5 hFD b3 b6
    have f3 : ∀ c, (c < 57 ∨ 140 < c) → M3 c = M c := fun c hc => by rw [g2 c (by omega), e2 c (by omega)]; exact b4 c hc
    have s57 : M3 57 1 = nI (rts n A).length := by rw [g2 57 (by omega), um_k (by omega), hlen]; exact b2.1
    have t57 : M3 57 0 = 1 := by rw [g2 57 (by omega), um_s]
    -- the neighbours
    have hst : ∀ (kk : Int32 → Mem → Option Mem) (f r : Nat) (M4 : Mem), r < (rts n A).length → ((∀ c, c ≠ 139 → c ≠ 99 → c ≠ 96 → c ≠ 140 → M4 c = M3 c) ∧ ∀ q, q < r → PrjOK n A q (M4 139 q) ∧ InjOK n A q (M4 99 q) ∧ TauOK n A q (M4 96 q)) → ∃ M', ((∀ c, c ≠ 139 → c ≠ 99 → c ≠ 96 → c ≠ 140 → M' c = M3 c) ∧ ∀ q, q < r + 1 → PrjOK n A q (M' 139 q) ∧ InjOK n A q (M' 99 q) ∧ TauOK n A q (M' 96 q)) ∧ f_X3_learn_23 kk (f + 1) (nI r) M4 = f_X3_learn_23 kk f (nI (r + 1)) M' := by
      intro kk f r M4 hr hI
      obtain ⟨i1, i2⟩ := hI
      have hq4 : CQ M4 1 n A x := hq.on (fun c _ _ => by rw [i1 c (by omega) (by omega) (by omega) (by omega)]; exact f3 c (by omega))
      have hw4 : WaysOK M4 n A := hw.on hn (fun c _ _ => by rw [i1 c (by omega) (by omega) (by omega) (by omega)]; exact f3 c (by omega))
      have s4 : M4 57 1 = nI (rts n A).length := by rw [i1 57 (by omega) (by omega) (by omega) (by omega)]; exact s57
      have hR4 : RW M4 n A := ⟨h36, s4, fun t ht i hi => by rw [i1 _ (by omega) (by omega) (by omega) (by omega)]; exact (g3 t ht).1 i hi⟩
      obtain ⟨M5, k1, k2, k3, k4, k5, k6⟩ := x3_find hq4 hw4 hA hn b5 hR4 hr
      refine ⟨M5, ⟨fun c c1 c2 c3 c4 => by rw [k2 c c1 c2 c3 c4]; exact i1 c c1 c2 c3 c4, fun q hq => ?_⟩, ?_⟩
      · by_cases hqr : q = r
        · subst hqr; exact ⟨k4, k5, k6⟩
        · rw [k3 139 q hqr (by omega), k3 99 q hqr (by omega), k3 96 q hqr (by omega)]
          exact i2 q (by omega)
      · simp (disch := omega) only [ef_X3_learn_23, s_X3_learn_23, s4, k1, iL, iT, iE, iN, iZ, i0, cl, nL, yL, nT, yT, s1_i, ad_i, z0, c0, la_1, la_2, la_11, la_12, la_21, la_22, la_27, la_54, la_10, la_243, ml_4, ml_6, ml_27, ml_10, ml_3, false_or, or_false, true_or, or_true, or_self, if_false, if_true, not_true, not_false_iff, bs, lt_p]
    obtain ⟨f', M4, ⟨m1, m2⟩, m3⟩ := loop_M (fun f M i => f_X3_learn_23 (fun (_ : Int32) (M7 : Mem) => f_X3_learn_46 (fun (_ : Int32) (M9 : Mem) => some M9) FU 0 M7) f (nI i) M) (rts n A).length (fun r M4 => (∀ c, c ≠ 139 → c ≠ 99 → c ≠ 96 → c ≠ 140 → M4 c = M3 c) ∧ ∀ q, q < r → PrjOK n A q (M4 139 q) ∧ InjOK n A q (M4 99 q) ∧ TauOK n A q (M4 96 q)) (hst _) (rts n A).length 0 M3 (by omega) ⟨fun _ _ _ _ _ => rfl, fun q hq => by omega⟩ FU (FU_gt (by omega))
    have s4 : M4 57 1 = nI (rts n A).length := by rw [m1 57 (by omega) (by omega) (by omega) (by omega)]; exact s57
    -- the steps
    have hst2 : ∀ (f r : Nat) (M5 : Mem), r < (rts n A).length → ((∀ c, c ≠ 97 → c ≠ 98 → M5 c = M4 c) ∧ ∀ q, q < r → ∃ k e p, stepsTo n A k q e ∧ M5 97 q = nI k ∧ k < 36 ∧ p < n ∧ isPrj n A e p ∧ M5 98 q = nI p) → ∃ M', ((∀ c, c ≠ 97 → c ≠ 98 → M' c = M4 c) ∧ ∀ q, q < r + 1 → ∃ k e p, stepsTo n A k q e ∧ M' 97 q = nI k ∧ k < 36 ∧ p < n ∧ isPrj n A e p ∧ M' 98 q = nI p) ∧ f_X3_learn_46 (fun (_ : Int32) (M9 : Mem) => some M9) (f + 1) (nI r) M5 = f_X3_learn_46 (fun (_ : Int32) (M9 : Mem) => some M9) f (nI (r + 1)) M' := by
      intro f r M5 hr hI
      obtain ⟨i1, i2⟩ := hI
      have s5 : M5 57 1 = nI (rts n A).length := by rw [i1 57 (by omega) (by omega)]; exact s4
      obtain ⟨k, e, p, k1, k2, k3, k4, k5⟩ := x3_goBack (M := M5) hA hn b5 h36 s5 (fun t ht => by rw [i1 96 (by omega) (by omega)]; exact (m2 t ht).2.2) (fun t ht => by rw [i1 139 (by omega) (by omega)]; exact (m2 t ht).1) hr
      refine ⟨um (um M5 97 r (nI k)) 98 r (nI p), ⟨fun c c1 c2 => by rw [um_a c2, um_a c1]; exact i1 c c1 c2, fun q hq => ?_⟩, by
        simp (disch := omega) only [ef_X3_learn_46, s_X3_learn_46, s5, k5, iL, iT, iE, iN, iZ, i0, cl, nL, yL, nT, yT, s1_i, ad_i, z0, c0, la_1, la_2, la_11, la_12, la_21, la_22, la_27, la_54, la_10, la_243, ml_4, ml_6, ml_27, ml_10, ml_3, false_or, or_false, true_or, or_true, or_self, if_false, if_true, not_true, not_false_iff, bs, lt_p]⟩
      by_cases hqr : q = r
      · subst hqr
        exact ⟨k, e, p, k1, by rw [um_a (by omega), um_s], k2, k3, k4, um_s⟩
      · rw [um_a (by omega), um_k hqr, um_k hqr, um_a (by omega)]
        exact i2 q (by omega)
    obtain ⟨f2, M5, ⟨n1, n2⟩, n3⟩ := loop_M (fun f M i => f_X3_learn_46 (fun (_ : Int32) (M9 : Mem) => some M9) f (nI i) M) (rts n A).length (fun r M5 => (∀ c, c ≠ 97 → c ≠ 98 → M5 c = M4 c) ∧ ∀ q, q < r → ∃ k e p, stepsTo n A k q e ∧ M5 97 q = nI k ∧ k < 36 ∧ p < n ∧ isPrj n A e p ∧ M5 98 q = nI p) hst2 (rts n A).length 0 M4 (by omega) ⟨fun _ _ _ => rfl, fun q hq => by omega⟩ FU (FU_gt (by omega))
    have s5 : M5 57 1 = nI (rts n A).length := by rw [n1 57 (by omega) (by omega)]; exact s4
    refine ⟨M5, ?_, fun c hc => ?_, Or.inr ⟨b5, h36, ?_, s5, fun t ht => ⟨fun i hi => ?_, ?_, ?_, n2 t ht, ?_⟩⟩⟩
    · simp only [f_X3_learn, b1, um_s, eq_self, e10, g1, bs, lt_p, or_true, not_true, if_false]
      refine Eq.trans m3 ?_
      rw [ef_X3_learn_23]
      unfold s_X3_learn_23
      rw [s4, if_pos (by rw [iL (by omega) (by omega)]; omega)]
      refine Eq.trans n3 ?_
      rw [ef_X3_learn_46]
      unfold s_X3_learn_46
      rw [s5, if_pos (by rw [iL (by omega) (by omega)]; omega)]
    · rw [n1 c (by omega) (by omega), m1 c (by omega) (by omega) (by omega) (by omega)]; exact f3 c hc
    · rw [n1 57 (by omega) (by omega), m1 57 (by omega) (by omega) (by omega) (by omega)]; exact t57
    · rw [n1 _ (by omega) (by omega), m1 _ (by omega) (by omega) (by omega) (by omega)]; exact (g3 t ht).1 i hi
    · rw [n1 _ (by omega) (by omega), m1 _ (by omega) (by omega) (by omega) (by omega)]; exact (g3 t ht).2
    · rw [n1 _ (by omega) (by omega)]; exact (m2 t ht).2.2
    · rw [n1 _ (by omega) (by omega)]; exact (m2 t ht).2.1
end LEARN
section LEARN2
variable {M M' : Mem} {n : Nat} {A A' : Arr} {x x' : Row} {P P' : List (Arr × Row)} {K K' : Nat → Option (Arr × Row)} {T T' : List Int32} {S S' : Nat → Option (List (Nat × Row))}
/-- the class knows the roots -/
theorem x7_findRoots (w : WF n A x P K T S) (hc : CI M n A x P K T S) : ∃ M', f_X7_findRoots M = some M' ∧ CI M' n A x P K T S ∧ RootsOK M' n A ∧ ∀ c, c ≠ 0 → (c < 48 ∨ 140 < c) → M' c = M c := by
  rcases hc.2.2.2.2.2.2 with h | ⟨h1, h2⟩
  · obtain ⟨M1, a1, a2, a3, a4, a5, a6⟩ := x7_findWays w hc
    obtain ⟨M2, g1, g2, g3⟩ := x3_learn a2.1 a4 w.2.1 w.1.2
    have e : ∀ c, c ≠ 0 → (c < 57 ∨ 140 < c) → um M2 0 12 0 c = M1 c := fun c c0 c1 => by rw [um_a c0]; exact g2 c c1
    have e0 : ∀ j, j ≠ 12 → um M2 0 12 0 0 j = M1 0 j := fun j hj => by rw [um_k hj, g2 0 (by omega)]
    have hr : RootsOK (um M2 0 12 0) n A := by
      rcases g3 with ⟨q1, q2⟩ | ⟨q1, q0, q2, q3, q4⟩
      · exact Or.inl ⟨q1, by rw [um_a (by omega)]; exact q2⟩
      · refine Or.inr ⟨q1, q0, by rw [um_a (by omega)]; exact q2, by rw [um_a (by omega)]; exact q3, fun t ht => ?_⟩
        rw [um_a (by omega), um_a (by omega), um_a (by omega), um_a (by omega), um_a (by omega), um_a (by omega)]
        exact q4 t ht
    refine ⟨um M2 0 12 0, ?_, ⟨a2.1.on (fun b _ _ => e b (by omega) (by omega)), a2.2.1.on (fun b _ _ => e b (by omega) (by omega)), a2.2.2.1.on (e _ (by omega) (by omega)) (fun b _ _ => e b (by omega) (by omega)), a2.2.2.2.1.on (e _ (by omega) (by omega)) (e _ (by omega) (by omega)), a2.2.2.2.2.1.on (hc.cS w) (fun b _ _ => e b (by omega) (by omega)), a2.2.2.2.2.2.1.on w.1.2 (e0 11 (by omega)) (fun b _ _ => e b (by omega) (by omega)), Or.inr ⟨um_s, hr⟩⟩, hr, fun c c0 c1 => by rw [e c c0 (by omega)]; exact a5 c c0 (by omega)⟩
    simp only [f_X7_findRoots, h, e10, a1, g1, lt_p, bs, if_false]
  · exact ⟨M, by simp only [f_X7_findRoots, h1, if_true], hc, h2, fun _ _ _ => rfl⟩
end LEARN2

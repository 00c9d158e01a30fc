/-! ===== place ===== -/
section PLACE
variable {M M' : Mem} {n : Nat} {A A' : Arr} {x x' : Row} {P P' : List (Arr × Row)} {K K' : Nat → Option (Arr × Row)} {T T' : List Int32} {S S' : Nat → Option (List (Nat × Row))}
theorem tau_val (hA : OKA n A) (hn : n ≤ 6) (t : Nat) : ∃ v, TauOK n A t v ∧ ∀ v', TauOK n A t v' → v' = v := by
  by_cases hex : ∃ s, s < (rts n A).length ∧ isTau n A t s
  · obtain ⟨s, s1, s2⟩ := hex
    refine ⟨nI s, Or.inl ⟨s, s1, rfl, s2⟩, fun v' hv => ?_⟩
    rcases hv with ⟨u, u1, u2, u3⟩ | ⟨_, u2⟩
    · rw [u2, tau_uq hA hn u1 s1 u3 s2]
    · exact absurd s2 (u2 s s1)
  · refine ⟨-1000000, Or.inr ⟨rfl, fun s hs q => hex ⟨s, hs, q⟩⟩, fun v' hv => ?_⟩
    rcases hv with ⟨u, u1, u2, u3⟩ | ⟨u1, _⟩
    · exact absurd ⟨u, u1, u3⟩ hex
    · exact u1
theorem nI_none {s : Nat} (hs : s < 1000) : nI s = -1000000 ↔ False := iff_of_false (fun q => by
  rw [fa_eq, nI_toInt (by omega), show (-1000000 : Int32).toInt = -1000000 from rfl] at q
  omega) id
theorem x8_steps (hA : OKA n A) (hn : n ≤ 6) (h36 : (rts n A).length ≤ 36) (hT : ∀ t, t < (rts n A).length → TauOK n A t (M 185 t)) {k t e : Nat} (hs : stepsTo n A k t e) (ht : t < (rts n A).length) (hk : k < 36) : f_X8_steps (nI t) M = some (nI k) := by
  have key : ∀ (kk : Int32 → Int32 → Option Int32) (i1 : Int32) (d t j : Nat), stepsTo n A d t e → t < (rts n A).length → ∀ f, d < f → f_X8_steps_9 i1 M kk f (nI j) (M 185 t) = kk (nI (j + d)) (-1000000) := by
    intro kk i1 d
    induction d with
    | zero =>
      intro t j hs ht f hf
      obtain ⟨f, rfl⟩ : ∃ f', f = f' + 1 := ⟨f - 1, by omega⟩
      obtain ⟨rfl, hs2⟩ := hs
      rcases hT t ht with ⟨s, s1, s2, s3⟩ | ⟨s1, s2⟩
      · exact absurd s3 (hs2 s s1)
      · simp only [ef_X8_steps_9, s_X8_steps_9, s1, if_true, Nat.add_zero]
    | succ d ih =>
      intro t j hs ht f hf
      obtain ⟨f, rfl⟩ : ∃ f', f = f' + 1 := ⟨f - 1, by omega⟩
      obtain ⟨s, s1, s2, s3⟩ := hs
      rcases hT t ht with ⟨u, u1, u2, u3⟩ | ⟨u1, u2⟩
      · have := tau_uq hA hn s1 u1 s2 u3
        subst this
        have h2 := ih s (j + 1) s3 s1 f (by omega)
        rw [show j + 1 + d = j + (d + 1) by omega] at h2
        rw [← h2]
        simp (disch := omega) only [ef_X8_steps_9, s_X8_steps_9, u2, nI_none, iL, iT, iE, iN, iZ, i0, cl, nL, yL, nT, yT, s1_i, ad_i, z0, c0, la_1, la_2, la_11, la_12, la_21, la_22, la_27, la_54, la_10, la_243, ml_4, ml_6, ml_27, ml_10, ml_3, false_or, or_false, true_or, or_true, or_self, if_false, if_true, not_true, not_false_iff, bs, lt_p]
      · exact absurd s2 (u2 s s1)
  unfold f_X8_steps
  rw [if_neg (nI_in (show t < 36 by omega) (by omega)), cl (by omega), lt_e]
  have := key (fun (i2_3 : Int32) (_ : Int32) => some i2_3) (nI t) k t 0 hs ht FU (FU_gt (by omega))
  rw [Nat.zero_add] at this
  exact this
theorem x8_prj (hp : M 176 0 = nI n) (hn : n ≤ 6) (hw : ∀ p, p < n → ∀ q, q < n → M 183 (6 * p + q) = pth A p q) {r : Nat} (h36 : r < 36) (hR : ∀ i, i < 6 → M 184 (6 * r + i) = rt n A r i) : (∃ p, p < n ∧ isPrj n A r p ∧ f_X8_projective (nI r) M = some (nI p)) ∨ ((∀ p, p < n → ¬ isPrj n A r p) ∧ f_X8_projective (nI r) M = some (-1000000)) := by
  have h19 : ∀ (i2 : Int32) (p : Nat) (kk : Int32 → Int32 → Option Int32), p < n → f_X8_projective_19 (nI r) i2 (nI p) M kk FU 1 0 = kk (if dc (isPrj n A r p) then 1 else 0) (nI n) := by
    intro i2 p kk hpn
    have hh := loop_u (fun m (b : Bool) j => f_X8_projective_19 (nI r) i2 (nI p) M kk m (if b then 1 else 0) (nI j)) (fun b => kk (if b then 1 else 0) (nI n)) n (fun j b => b && dc (rt n A r j = pth A p j)) true (fun m j b hj => ?_) (fun m b => ?_) FU (FU_gt (by omega))
    · have e : fo (fun j b => b && dc (rt n A r j = pth A p j)) n true = dc (isPrj n A r p) := by
        rw [Bool.eq_iff_iff, fo_and, dc_iff]
        exact ⟨fun q i hi => dc_iff.mp (q i hi), fun q i hi => dc_iff.mpr (q i hi)⟩
      rw [e] at hh
      exact hh
    · have hr := hR j (by omega)
      have hxj := hw p hpn j hj
      cases b with
      | false => simp (disch := omega) only [ef_X8_projective_19, s_X8_projective_19, hp, Bool.false_eq_true, eq_self, Bool.false_and, iL, iT, iE, iN, iZ, i0, cl, nL, yL, nT, yT, s1_i, ad_i, z0, c0, la_1, la_2, la_11, la_12, la_21, la_22, la_27, la_54, la_10, la_243, ml_4, ml_6, ml_27, ml_10, ml_3, false_or, or_false, true_or, or_true, or_self, if_false, if_true, not_true, not_false_iff, bs, lt_p]
      | true =>
        simp (disch := omega) only [ef_X8_projective_19, s_X8_projective_19, hp, hr, hxj, e10, eq_self, Bool.true_and, iL, iT, iE, iN, iZ, i0, cl, nL, yL, nT, yT, s1_i, ad_i, z0, c0, la_1, la_2, la_11, la_12, la_21, la_22, la_27, la_54, la_10, la_243, ml_4, ml_6, ml_27, ml_10, ml_3, false_or, or_false, true_or, or_true, or_self, if_false, if_true, not_true, not_false_iff, bs, lt_p]
        by_cases hc : rt n A r j = pth A p j
        · rw [if_pos hc, if_pos (dc_iff.mpr hc)]
        · rw [if_neg hc, if_neg (fun z => hc (dc_iff.mp z))]
    · simp (disch := omega) only [ef_X8_projective_19, s_X8_projective_19, hp, iL, iT, iE, iN, iZ, i0, cl, nL, yL, nT, yT, s1_i, ad_i, z0, c0, la_1, la_2, la_11, la_12, la_21, la_22, la_27, la_54, la_10, la_243, ml_4, ml_6, ml_27, ml_10, ml_3, false_or, or_false, true_or, or_true, or_self, if_false, if_true, not_true, not_false_iff, bs, lt_p]
  have hh := loop_u (fun m (v : Int32) j => f_X8_projective_5 (nI r) M (fun i2 _ => some i2) m v (nI j)) (fun v => some v) n (fun p f => if dc (isPrj n A r p) then nI p else f) (-1000000) (fun m j v hj => ?_) (fun m v => ?_) FU (FU_gt (by omega))
  · rcases fo_last (L := n) (p := fun p => dc (isPrj n A r p)) (z := -1000000) with ⟨t, t1, t2, t3⟩ | ⟨t1, t2⟩
    · exact Or.inl ⟨t, t1, dc_iff.mp t2, by rw [t3] at hh; exact hh⟩
    · exact Or.inr ⟨fun s hs q => Bool.noConfusion ((t1 s hs).symm.trans (dc_iff.mpr q)), by rw [t2] at hh; exact hh⟩
  · show f_X8_projective_5 (nI r) M (fun i2 _ => some i2) (m + 1) v (nI j) = _
    rw [ef_X8_projective_5]
    unfold s_X8_projective_5
    rw [hp, if_neg (by rw [iL (by omega) (by omega)]; omega), h19 v j _ hj]
    cases dc (isPrj n A r j) with
    | true => rw [if_pos rfl, if_neg e10, if_pos rfl, s1_i]
    | false =>
      have hft : ¬ (false = true) := by simp
      rw [if_neg hft, if_pos rfl, if_neg hft, s1_i]
  · simp (disch := omega) only [ef_X8_projective_5, s_X8_projective_5, hp, iL, iT, iE, iN, iZ, i0, cl, nL, yL, nT, yT, s1_i, ad_i, z0, c0, la_1, la_2, la_11, la_12, la_21, la_22, la_27, la_54, la_10, la_243, ml_4, ml_6, ml_27, ml_10, ml_3, false_or, or_false, true_or, or_true, or_self, if_false, if_true, not_true, not_false_iff, bs, lt_p]
theorem x8_inj (hp : M 176 0 = nI n) (hn : n ≤ 6) (hw : ∀ p, p < n → ∀ q, q < n → M 183 (6 * p + q) = pth A p q) {r : Nat} (h36 : r < 36) (hR : ∀ i, i < 6 → M 184 (6 * r + i) = rt n A r i) : (∃ p, p < n ∧ isInj n A r p ∧ f_X8_injective (nI r) M = some (nI p)) ∨ ((∀ p, p < n → ¬ isInj n A r p) ∧ f_X8_injective (nI r) M = some (-1000000)) := by
  have h19 : ∀ (i2 : Int32) (p : Nat) (kk : Int32 → Int32 → Option Int32), p < n → f_X8_injective_19 (nI r) i2 (nI p) M kk FU 1 0 = kk (if dc (isInj n A r p) then 1 else 0) (nI n) := by
    intro i2 p kk hpn
    have hh := loop_u (fun m (b : Bool) j => f_X8_injective_19 (nI r) i2 (nI p) M kk m (if b then 1 else 0) (nI j)) (fun b => kk (if b then 1 else 0) (nI n)) n (fun j b => b && dc (rt n A r j = pth A j p)) true (fun m j b hj => ?_) (fun m b => ?_) FU (FU_gt (by omega))
    · have e : fo (fun j b => b && dc (rt n A r j = pth A j p)) n true = dc (isInj n A r p) := by
        rw [Bool.eq_iff_iff, fo_and, dc_iff]
        exact ⟨fun q i hi => dc_iff.mp (q i hi), fun q i hi => dc_iff.mpr (q i hi)⟩
      rw [e] at hh
      exact hh
    · have hr := hR j (by omega)
      have hxj := hw j hj p hpn
      cases b with
      | false => simp (disch := omega) only [ef_X8_injective_19, s_X8_injective_19, hp, Bool.false_eq_true, eq_self, Bool.false_and, iL, iT, iE, iN, iZ, i0, cl, nL, yL, nT, yT, s1_i, ad_i, z0, c0, la_1, la_2, la_11, la_12, la_21, la_22, la_27, la_54, la_10, la_243, ml_4, ml_6, ml_27, ml_10, ml_3, false_or, or_false, true_or, or_true, or_self, if_false, if_true, not_true, not_false_iff, bs, lt_p]
      | true =>
        simp (disch := omega) only [ef_X8_injective_19, s_X8_injective_19, hp, hr, hxj, e10, eq_self, Bool.true_and, iL, iT, iE, iN, iZ, i0, cl, nL, yL, nT, yT, s1_i, ad_i, z0, c0, la_1, la_2, la_11, la_12, la_21, la_22, la_27, la_54, la_10, la_243, ml_4, ml_6, ml_27, ml_10, ml_3, false_or, or_false, true_or, or_true, or_self, if_false, if_true, not_true, not_false_iff, bs, lt_p]
        by_cases hc : rt n A r j = pth A j p
        · rw [if_pos hc, if_pos (dc_iff.mpr hc)]
        · rw [if_neg hc, if_neg (fun z => hc (dc_iff.mp z))]
    · simp (disch := omega) only [ef_X8_injective_19, s_X8_injective_19, hp, iL, iT, iE, iN, iZ, i0, cl, nL, yL, nT, yT, s1_i, ad_i, z0, c0, la_1, la_2, la_11, la_12, la_21, la_22, la_27, la_54, la_10, la_243, ml_4, ml_6, ml_27, ml_10, ml_3, false_or, or_false, true_or, or_true, or_self, if_false, if_true, not_true, not_false_iff, bs, lt_p]
  have hh := loop_u (fun m (v : Int32) j => f_X8_injective_5 (nI r) M (fun i2 _ => some i2) m v (nI j)) (fun v => some v) n (fun p f => if dc (isInj n A r p) then nI p else f) (-1000000) (fun m j v hj => ?_) (fun m v => ?_) FU (FU_gt (by omega))
  · rcases fo_last (L := n) (p := fun p => dc (isInj n A r p)) (z := -1000000) with ⟨t, t1, t2, t3⟩ | ⟨t1, t2⟩
    · exact Or.inl ⟨t, t1, dc_iff.mp t2, by rw [t3] at hh; exact hh⟩
    · exact Or.inr ⟨fun s hs q => Bool.noConfusion ((t1 s hs).symm.trans (dc_iff.mpr q)), by rw [t2] at hh; exact hh⟩
  · show f_X8_injective_5 (nI r) M (fun i2 _ => some i2) (m + 1) v (nI j) = _
    rw [ef_X8_injective_5]
    unfold s_X8_injective_5
    rw [hp, if_neg (by rw [iL (by omega) (by omega)]; omega), h19 v j _ hj]
    cases dc (isInj n A r j) with
    | true => rw [if_pos rfl, if_neg e10, if_pos rfl, s1_i]
    | false =>
      have hft : ¬ (false = true) := by simp
      rw [if_neg hft, if_pos rfl, if_neg hft, s1_i]
  · simp (disch := omega) only [ef_X8_injective_5, s_X8_injective_5, hp, iL, iT, iE, iN, iZ, i0, cl, nL, yL, nT, yT, s1_i, ad_i, z0, c0, la_1, la_2, la_11, la_12, la_21, la_22, la_27, la_54, la_10, la_243, ml_4, ml_6, ml_27, ml_10, ml_3, false_or, or_false, true_or, or_true, or_self, if_false, if_true, not_true, not_false_iff, bs, lt_p]
theorem x8_foot (hA : OKA n A) (hn : n ≤ 6) (hp : M 176 0 = nI n) (hw : ∀ p, p < n → ∀ q, q < n → M 183 (6 * p + q) = pth A p q) (h36 : (rts n A).length ≤ 36) (hR : ∀ t, t < (rts n A).length → (∀ i, i < 6 → M 184 (6 * t + i) = rt n A t i) ∧ TauOK n A t (M 185 t)) {k t e p : Nat} (hs : stepsTo n A k t e) (ht : t < (rts n A).length) (hk : k < 36) (hpn : p < n) (hpj : isPrj n A e p) : f_X8_foot (nI t) M = some (nI p) := by
  have hel : ∀ d t, stepsTo n A d t e → t < (rts n A).length → e < (rts n A).length := by
    intro d
    induction d with
    | zero => intro t hs ht; obtain ⟨rfl, _⟩ := hs; exact ht
    | succ d ih => intro t hs _; obtain ⟨s, s1, _, s3⟩ := hs; exact ih s s3 s1
  have he := hel k t hs ht
  have key : ∀ (kk : Int32 → Int32 → Option Int32) (i1 : Int32) (d t : Nat), stepsTo n A d t e → t < (rts n A).length → ∀ f, d < f → f_X8_foot_9 i1 M kk f (nI t) (M 185 t) = kk (nI e) (-1000000) := by
    intro kk i1 d
    induction d with
    | zero =>
      intro t hs ht f hf
      obtain ⟨f, rfl⟩ : ∃ f', f = f' + 1 := ⟨f - 1, by omega⟩
      obtain ⟨rfl, hs2⟩ := hs
      rcases (hR t ht).2 with ⟨s, s1, s2, s3⟩ | ⟨s1, s2⟩
      · exact absurd s3 (hs2 s s1)
      · simp only [ef_X8_foot_9, s_X8_foot_9, s1, if_true]
    | succ d ih =>
      intro t hs ht f hf
      obtain ⟨f, rfl⟩ : ∃ f', f = f' + 1 := ⟨f - 1, by omega⟩
      obtain ⟨s, s1, s2, s3⟩ := hs
      rcases (hR t ht).2 with ⟨u, u1, u2, u3⟩ | ⟨u1, u2⟩
      · have := tau_uq hA hn s1 u1 s2 u3
        subst this
        have h2 := ih s s3 s1 f (by omega)
        rw [← h2]
        simp (disch := omega) only [ef_X8_foot_9, s_X8_foot_9, u2, nI_none, iL, iT, iE, iN, iZ, i0, cl, nL, yL, nT, yT, s1_i, ad_i, z0, c0, la_1, la_2, la_11, la_12, la_21, la_22, la_27, la_54, la_10, la_243, ml_4, ml_6, ml_27, ml_10, ml_3, false_or, or_false, true_or, or_true, or_self, if_false, if_true, not_true, not_false_iff, bs, lt_p]
      · exact absurd s2 (u2 s s1)
  unfold f_X8_foot
  rw [if_neg (nI_in (show t < 36 by omega) (by omega)), cl (by omega), lt_e]
  refine Eq.trans (key _ (nI t) k t hs ht FU (FU_gt (by omega))) ?_
  rcases x8_prj hp hn hw (show e < 36 by omega) (hR e he).1 with ⟨q, q1, q2, q3⟩ | ⟨q1, _⟩
  · rw [q3, bs, prj_uq hA hn q1 hpn q2 hpj]
  · exact absurd hpj (q1 p hpn)
theorem x8_sumR (hn : n ≤ 6) {t : Nat} (h36 : t < 36) (hR : ∀ i, i < 6 → M 184 (6 * t + i) = rt n A t i) : f_X8_sumOf 184 (nI (6 * t)) M = some (nI (rsm n ((rts n A).getD t 0))) := by
  have a184 : alen 184 = 216 := by decide
  rw [x8_sumOf (fun i => if i < n then dgs 4 n ((rts n A).getD t 0) i else 0) (show 6 * t + 6 ≤ alen 184 by omega) (by omega) (fun i hi => by rw [hR i hi]; exact rowOf_n _ i), sum_row hn]
theorem op_place (h : Inv M) (i c : Int32) : ∃ r M1 M2, f_X7_place i c M = some (r, M1) ∧ f_X8_place i c M1 = some (r, M2) ∧ Inv M2 := by
  obtain ⟨n, A, x, P, K, T, S, w, hc, hm⟩ := id h
  have hn6 := w.1.2
  have hA := w.2.1
  refine op_rd (f := f_X7_place i c) (g := f_X8_place i c) w hc hm (fun M => rfl) (fun M => rfl) ?_
  cases hf : fnt n A with
  | false => exact ⟨-1000003, fun M1 _ hr => by rw [hr.no hf, if_pos rfl], fun M2 _ hk => by rw [hk.no hf, if_neg n1m]⟩
  | true =>
    have hL1 := rts_pos hA hn6 w.1.1 hf
    have hL := fnt_36 hA hn6 hf
    have hL3 : (rts n A).length < 1000 := by omega
    have z0 : (0 : Int32) ≤ nI (rts n A).length := nI_pos' (by omega)
    rcases pk_ix i (n := (rts n A).length) (by omega) with hi | hi | ⟨t, ht, rfl⟩
    · exact ⟨-1000001, fun M1 _ hr => by obtain ⟨_, q1, q2, _⟩ := hr.yes hf; simp only [q1, e10, if_false, x3_hasN q2 (Or.inl hi), bs, if_true], fun M2 _ hk => by obtain ⟨_, q1, _⟩ := hk.yes hf; simp only [q1, z0, if_true, x8_inRN hL1 hL3 (Or.inl hi), bs]⟩
    · exact ⟨-1000001, fun M1 _ hr => by obtain ⟨_, q1, q2, _⟩ := hr.yes hf; simp only [q1, e10, if_false, x3_hasN q2 (Or.inr hi), bs, if_true], fun M2 _ hk => by obtain ⟨_, q1, _⟩ := hk.yes hf; simp only [q1, z0, if_true, x8_inRN hL1 hL3 (Or.inr hi), bs]⟩
    by_cases c0 : c = 0
    · refine ⟨nI (rsm n ((rts n A).getD t 0)), fun M1 hc1 hr => ?_, fun M2 hm2 hk => ?_⟩
      · obtain ⟨_, q1, q2, q3⟩ := hr.yes hf
        have e3 := (q3 t ht).2.1
        simp (disch := omega) only [q1, e10, x3_hasY hL q2 ht, c0, e3, iL, iT, iE, iN, iZ, i0, cl, nL, yL, nT, yT, s1_i, ad_i, z0, c0, la_1, la_2, la_11, la_12, la_21, la_22, la_27, la_54, la_10, la_243, ml_4, ml_6, ml_27, ml_10, ml_3, false_or, or_false, true_or, or_true, or_self, if_false, if_true, not_true, not_false_iff, bs, lt_p]
      · obtain ⟨_, q1, q3⟩ := hk.yes hf
        simp (disch := omega) only [q1, z0, x8_inR ht hL3, e10, c0, x8_sumR hn6 (show t < 36 by omega) (q3 t ht).1, iL, iT, iE, iN, iZ, i0, cl, nL, yL, nT, yT, s1_i, ad_i, z0, c0, la_1, la_2, la_11, la_12, la_21, la_22, la_27, la_54, la_10, la_243, ml_4, ml_6, ml_27, ml_10, ml_3, false_or, or_false, true_or, or_true, or_self, if_false, if_true, not_true, not_false_iff, bs, lt_p]
    by_cases c1 : c = 1
    · obtain ⟨v, v1, v2⟩ := tau_val hA hn6 (n := n) t
      refine ⟨v, fun M1 hc1 hr => ?_, fun M2 hm2 hk => ?_⟩
      · obtain ⟨_, q1, q2, q3⟩ := hr.yes hf
        have e3 := v2 _ (q3 t ht).2.2.1
        simp (disch := omega) only [q1, e10, x3_hasY hL q2 ht, c0, c1, e3, iL, iT, iE, iN, iZ, i0, cl, nL, yL, nT, yT, s1_i, ad_i, z0, c0, la_1, la_2, la_11, la_12, la_21, la_22, la_27, la_54, la_10, la_243, ml_4, ml_6, ml_27, ml_10, ml_3, false_or, or_false, true_or, or_true, or_self, if_false, if_true, not_true, not_false_iff, bs, lt_p]
      · obtain ⟨_, q1, q3⟩ := hk.yes hf
        have e3 := v2 _ (q3 t ht).2
        simp (disch := omega) only [q1, z0, x8_inR ht hL3, e10, c0, c1, e3, iL, iT, iE, iN, iZ, i0, cl, nL, yL, nT, yT, s1_i, ad_i, z0, c0, la_1, la_2, la_11, la_12, la_21, la_22, la_27, la_54, la_10, la_243, ml_4, ml_6, ml_27, ml_10, ml_3, false_or, or_false, true_or, or_true, or_self, if_false, if_true, not_true, not_false_iff, bs, lt_p]
    by_cases c2 : c = 2
    · obtain ⟨k, e, k1, k2, k3⟩ := steps_ex hA hn6 hf ht
      refine ⟨nI k, fun M1 hc1 hr => ?_, fun M2 hm2 hk => ?_⟩
      · obtain ⟨_, q1, q2, q3⟩ := hr.yes hf
        obtain ⟨k', e', p, s1, s2, s3, s4, s5, s6⟩ := (q3 t ht).2.2.2.1
        rw [(steps_uq hA hn6 k' t e' k e s1 k1).1] at s2
        simp (disch := omega) only [q1, e10, x3_hasY hL q2 ht, c0, c1, eq_true c2, s2, iL, iT, iE, iN, iZ, i0, cl, nL, yL, nT, yT, s1_i, ad_i, z0, c0, la_1, la_2, la_11, la_12, la_21, la_22, la_27, la_54, la_10, la_243, ml_4, ml_6, ml_27, ml_10, ml_3, false_or, or_false, true_or, or_true, or_self, if_false, if_true, not_true, not_false_iff, bs, lt_p]
      · obtain ⟨_, q1, q3⟩ := hk.yes hf
        simp (disch := omega) only [q1, z0, x8_inR ht hL3, e10, c0, c1, eq_true c2, x8_steps hA hn6 hL (fun s hs => (q3 s hs).2) k1 ht (by omega), iL, iT, iE, iN, iZ, i0, cl, nL, yL, nT, yT, s1_i, ad_i, z0, c0, la_1, la_2, la_11, la_12, la_21, la_22, la_27, la_54, la_10, la_243, ml_4, ml_6, ml_27, ml_10, ml_3, false_or, or_false, true_or, or_true, or_self, if_false, if_true, not_true, not_false_iff, bs, lt_p]
    by_cases c3 : c = 3
    · obtain ⟨k, e, k1, k2, k3⟩ := steps_ex hA hn6 hf ht
      obtain ⟨p, p1, p2⟩ := end_prj hA hn6 hf k3 (steps_end k t e k1)
      refine ⟨nI p, fun M1 hc1 hr => ?_, fun M2 hm2 hk => ?_⟩
      · obtain ⟨_, q1, q2, q3⟩ := hr.yes hf
        obtain ⟨k', e', p', s1, s2, s3, s4, s5, s6⟩ := (q3 t ht).2.2.2.1
        rw [(steps_uq hA hn6 k' t e' k e s1 k1).2] at s5
        rw [prj_uq hA hn6 s4 p1 s5 p2] at s6
        simp (disch := omega) only [q1, e10, x3_hasY hL q2 ht, c0, c1, c2, eq_true c3, s6, iL, iT, iE, iN, iZ, i0, cl, nL, yL, nT, yT, s1_i, ad_i, z0, c0, la_1, la_2, la_11, la_12, la_21, la_22, la_27, la_54, la_10, la_243, ml_4, ml_6, ml_27, ml_10, ml_3, false_or, or_false, true_or, or_true, or_self, if_false, if_true, not_true, not_false_iff, bs, lt_p]
      · obtain ⟨_, q1, q3⟩ := hk.yes hf
        simp (disch := omega) only [q1, z0, x8_inR ht hL3, e10, c0, c1, c2, eq_true c3, x8_foot hA hn6 hm2.1 hk.1 hL q3 k1 ht (by omega) p1 p2, iL, iT, iE, iN, iZ, i0, cl, nL, yL, nT, yT, s1_i, ad_i, z0, c0, la_1, la_2, la_11, la_12, la_21, la_22, la_27, la_54, la_10, la_243, ml_4, ml_6, ml_27, ml_10, ml_3, false_or, or_false, true_or, or_true, or_self, if_false, if_true, not_true, not_false_iff, bs, lt_p]
    by_cases c4' : c = 4
    · obtain ⟨v, v1, v2⟩ := tau_val hA hn6 (n := n) t
      rcases v1 with ⟨s, s1, s2, s3⟩ | ⟨s1, s2⟩
      · refine ⟨nI (rsm n ((rts n A).getD t 0)) + nI (rsm n ((rts n A).getD s 0)), fun M1 hc1 hr => ?_, fun M2 hm2 hk => ?_⟩
        · obtain ⟨_, q1, q2, q3⟩ := hr.yes hf
          have e3 := (v2 _ (q3 t ht).2.2.1).trans s2
          have e4 := (q3 t ht).2.1
          have e5 := (q3 s s1).2.1
          have hme : f_X3_meshTotal (nI t) M1 = some (nI (rsm n ((rts n A).getD t 0)) + nI (rsm n ((rts n A).getD s 0))) := by
            rw [← e4, ← e5]
            simp (disch := omega) only [f_X3_meshTotal, e3, iL, iN, iZ, cl, nL, or_self, if_false, if_true]
          simp (disch := omega) only [q1, e10, x3_hasY hL q2 ht, c0, c1, c2, c3, eq_true c4', hme, if_true, if_false, bs]
        · obtain ⟨_, q1, q3⟩ := hk.yes hf
          have e3 := (v2 _ (q3 t ht).2).trans s2
          have hme : f_X8_mesh (nI t) M2 = some (nI (rsm n ((rts n A).getD t 0)) + nI (rsm n ((rts n A).getD s 0))) := by
            unfold f_X8_mesh
            rw [if_neg (nI_in (show t < 36 by omega) (by omega)), cl (by omega), lt_e, e3, if_neg (fun q => (nI_none (by omega)).mp q), ml_6, ml_6, x8_sumR hn6 (show t < 36 by omega) (q3 t ht).1, bs, x8_sumR hn6 (show s < 36 by omega) (q3 s s1).1, bs]
          simp (disch := omega) only [q1, z0, x8_inR ht hL3, e10, c0, c1, c2, c3, eq_true c4', hme, if_true, if_false, bs]
      · refine ⟨-1000000, fun M1 hc1 hr => ?_, fun M2 hm2 hk => ?_⟩
        · obtain ⟨_, q1, q2, q3⟩ := hr.yes hf
          have e3 := (v2 _ (q3 t ht).2.2.1).trans s1
          have n0 : ¬ ((0 : Int32) ≤ -1000000) := by decide
          have hme : f_X3_meshTotal (nI t) M1 = some (-1000000) := by
            simp (disch := omega) only [f_X3_meshTotal, e3, n0, iL, iT, iE, iN, iZ, i0, cl, nL, yL, nT, yT, s1_i, ad_i, z0, c0, la_1, la_2, la_11, la_12, la_21, la_22, la_27, la_54, la_10, la_243, ml_4, ml_6, ml_27, ml_10, ml_3, false_or, or_false, true_or, or_true, or_self, if_false, if_true, not_true, not_false_iff, bs, lt_p]
          simp (disch := omega) only [q1, e10, x3_hasY hL q2 ht, c0, c1, c2, c3, eq_true c4', hme, if_true, if_false, bs]
        · obtain ⟨_, q1, q3⟩ := hk.yes hf
          have e3 := (v2 _ (q3 t ht).2).trans s1
          have hme : f_X8_mesh (nI t) M2 = some (-1000000) := by
            unfold f_X8_mesh
            rw [if_neg (nI_in (show t < 36 by omega) (by omega)), cl (by omega), lt_e, e3, if_pos rfl]
          simp (disch := omega) only [q1, z0, x8_inR ht hL3, e10, c0, c1, c2, c3, eq_true c4', hme, if_true, if_false, bs]
    by_cases c5 : c = 5
    · by_cases hex : ∃ p, p < n ∧ isInj n A t p
      · obtain ⟨p, p1, p2⟩ := hex
        refine ⟨nI p, fun M1 hc1 hr => ?_, fun M2 hm2 hk => ?_⟩
        · obtain ⟨_, q1, q2, q3⟩ := hr.yes hf
          have e3 : M1 99 t = nI p := by
            rcases (q3 t ht).2.2.2.2 with ⟨q, s1, s2, s3⟩ | ⟨_, s2⟩
            · rw [s3, inj_uq hA hn6 s1 p1 s2 p2]
            · exact absurd p2 (s2 p p1)
          have n1 : ¬ nI p = -1 := fun q => by
            rw [fa_eq, nI_toInt (by omega), show (-1 : Int32).toInt = -1 from rfl] at q
            omega
          simp (disch := omega) only [q1, e10, x3_hasY hL q2 ht, c0, c1, c2, c3, c4', eq_true c5, e3, n1, iL, iT, iE, iN, iZ, i0, cl, nL, yL, nT, yT, s1_i, ad_i, z0, c0, la_1, la_2, la_11, la_12, la_21, la_22, la_27, la_54, la_10, la_243, ml_4, ml_6, ml_27, ml_10, ml_3, false_or, or_false, true_or, or_true, or_self, if_false, if_true, not_true, not_false_iff, bs, lt_p]
        · obtain ⟨_, q1, q3⟩ := hk.yes hf
          have hme : f_X8_injective (nI t) M2 = some (nI p) := by
            rcases x8_inj hm2.1 hn6 hk.1 (show t < 36 by omega) (q3 t ht).1 with ⟨q, s1, s2, s3⟩ | ⟨s1, _⟩
            · rw [s3, inj_uq hA hn6 s1 p1 s2 p2]
            · exact absurd p2 (s1 p p1)
          simp (disch := omega) only [q1, z0, x8_inR ht hL3, e10, c0, c1, c2, c3, c4', eq_true c5, hme, if_true, if_false, bs]
      · refine ⟨-1000000, fun M1 hc1 hr => ?_, fun M2 hm2 hk => ?_⟩
        · obtain ⟨_, q1, q2, q3⟩ := hr.yes hf
          have e3 : M1 99 t = -1 := by
            rcases (q3 t ht).2.2.2.2 with ⟨q, s1, s2, s3⟩ | ⟨s1, _⟩
            · exact absurd ⟨q, s1, s2⟩ hex
            · exact s1
          simp (disch := omega) only [q1, e10, x3_hasY hL q2 ht, c0, c1, c2, c3, c4', eq_true c5, e3, iL, iT, iE, iN, iZ, i0, cl, nL, yL, nT, yT, s1_i, ad_i, z0, c0, la_1, la_2, la_11, la_12, la_21, la_22, la_27, la_54, la_10, la_243, ml_4, ml_6, ml_27, ml_10, ml_3, false_or, or_false, true_or, or_true, or_self, if_false, if_true, not_true, not_false_iff, bs, lt_p]
        · obtain ⟨_, q1, q3⟩ := hk.yes hf
          have hme : f_X8_injective (nI t) M2 = some (-1000000) := by
            rcases x8_inj hm2.1 hn6 hk.1 (show t < 36 by omega) (q3 t ht).1 with ⟨q, s1, s2, s3⟩ | ⟨_, s2⟩
            · exact absurd ⟨q, s1, s2⟩ hex
            · exact s2
          simp (disch := omega) only [q1, z0, x8_inR ht hL3, e10, c0, c1, c2, c3, c4', eq_true c5, hme, if_true, if_false, bs]
    refine ⟨-1000002, fun M1 hc1 hr => ?_, fun M2 hm2 hk => ?_⟩
    · obtain ⟨_, q1, q2, q3⟩ := hr.yes hf
      simp (disch := omega) only [q1, e10, x3_hasY hL q2 ht, c0, c1, c2, c3, c4', c5, if_true, if_false, bs]
    · obtain ⟨_, q1, q3⟩ := hk.yes hf
      simp (disch := omega) only [q1, z0, x8_inR ht hL3, e10, c0, c1, c2, c3, c4', c5, if_true, if_false, bs]
end PLACE

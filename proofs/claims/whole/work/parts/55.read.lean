/-! ===== the calls that ask for ways and roots ===== -/
theorem x8_inR {M : Mem} {m j : Nat} (hj : j < m) (hm : m < 1000) : f_X8_in (nI j).toInt64 0 ((nI m - 1).toInt64) M = some 1 :=
  x8_inY (L := 0) (lo := 0) (hi := nI m - 1) (by decide) rfl ((rg_iff (by omega) (by omega)).mpr (fun q => q.elim (fun h => (iN (by omega)).mp h) (fun h => by have := (iL (by omega) (by omega)).mp h; omega)))
theorem x8_inRN {M : Mem} {m : Nat} {i : Int32} (hm1 : 1 ≤ m) (hm : m < 1000) (h : i < 0 ∨ nI m ≤ i) : f_X8_in i.toInt64 0 ((nI m - 1).toInt64) M = some 0 :=
  x8_inN (L := 0) (lo := 0) (hi := nI m - 1) (by decide) rfl (fun q => (rg_iff hm1 (by omega)).mp q h)
theorem fo_and {p : Nat → Bool} : ∀ n, fo (fun j b => b && p j) n true = true ↔ ∀ j, j < n → p j = true := by
  intro n
  induction n with
  | zero => exact iff_of_true rfl (fun j hj => by omega)
  | succ n ih =>
    rw [fo_s, Bool.and_eq_true, ih]
    constructor
    · rintro ⟨h1, h2⟩ j hj
      by_cases hjn : j = n
      · subst hjn; exact h2
      · exact h1 j (by omega)
    · intro h
      exact ⟨fun j hj => h j (by omega), h n (by omega)⟩
theorem n1m : ¬ ((0 : Int32) ≤ -1) := by decide
section READ
variable {M M' : Mem} {n : Nat} {A A' : Arr} {x x' : Row} {P P' : List (Arr × Row)} {K K' : Nat → Option (Arr × Row)} {T T' : List Int32} {S S' : Nat → Option (List (Nat × Row))}
theorem op_kn {f g G : Mem → Option (Int32 × Mem)} (w : WF n A x P K T S) (hm : MI M n A x P K T S) (r : Int32) (hf : ∃ M1, f M = some (r, M1) ∧ CI M1 n A x P K T S ∧ ∀ b, 176 ≤ b → M1 b = M b) (hg : ∀ M, g M = (f_X8_knows M).bind G) (key : ∀ M2, MI M2 n A x P K T S → KnowsOK M2 n A → G M2 = some (r, M2)) : ∃ r M1 M2, f M = some (r, M1) ∧ g M1 = some (r, M2) ∧ Inv M2 := by
  refine op_mk r hm w hf (fun M1 hm1 => ?_)
  obtain ⟨M2, b1, b2, b3, b4, b5⟩ := x8_knows w hm1
  exact ⟨M2, by rw [hg, b1, bs]; exact key M2 b2 b3, b2, fun b hb => b4 b (by omega) (by omega) (by omega) (by omega) (by omega) (by omega)⟩
theorem op_rd {f g F G : Mem → Option (Int32 × Mem)} (w : WF n A x P K T S) (hc : CI M n A x P K T S) (hm : MI M n A x P K T S) (hf : ∀ M, f M = (f_X7_findRoots M).bind F) (hg : ∀ M, g M = (f_X8_knows M).bind G) (key : ∃ r, (∀ M1, CI M1 n A x P K T S → RootsOK M1 n A → F M1 = some (r, M1)) ∧ ∀ M2, MI M2 n A x P K T S → KnowsOK M2 n A → G M2 = some (r, M2)) : ∃ r M1 M2, f M = some (r, M1) ∧ g M1 = some (r, M2) ∧ Inv M2 := by
  obtain ⟨r, k1, k2⟩ := key
  obtain ⟨M1, a1, a2, a3, a4⟩ := x7_findRoots w hc
  exact op_kn w hm r ⟨M1, by rw [hf, a1, bs]; exact k1 M1 a2 a3, a2, fun b hb => a4 b (by omega) (by omega)⟩ hg k2
/-- one value of both halves -/
theorem rts_pos (hA : OKA n A) (hn : n ≤ 6) (hn1 : 1 ≤ n) (h : fnt n A = true) : 1 ≤ (rts n A).length := by
  obtain ⟨t, ht, _⟩ := RR_ex hA hn h (Y := uz 0) (fun i _ => by unfold uz; split <;> omega) (by
    have e : ∀ i, i < n → uz 0 i = ua (fun _ => 0) 0 1 i := fun i _ => by
      unfold uz ua
      by_cases hi : i = 0
      · rw [if_pos hi, if_pos hi]; rfl
      · rw [if_neg hi, if_neg hi]
    rw [bb_congr e e, bb_ua hA.sym (by omega), bb_zero (fun _ _ => rfl), bg_zero (by omega) (fun _ _ => rfl)]
    rfl)
  omega
theorem fnt_tf (h : fnt n A = true) (h2 : fnt n A = false) : False := by rw [h] at h2; cases h2
theorem RootsOK.no (h : RootsOK M n A) (hf : fnt n A = false) : M 57 0 = 0 := by
  rcases h with ⟨_, h⟩ | ⟨h, _⟩
  · exact h
  · exact (fnt_tf h hf).elim
theorem RootsOK.yes (h : RootsOK M n A) (hf : fnt n A = true) : (rts n A).length ≤ 36 ∧ M 57 0 = 1 ∧ M 57 1 = nI (rts n A).length ∧ ∀ t, t < (rts n A).length → (∀ i, i < 6 → M (59 + t) i = rt n A t i) ∧ M 95 t = nI (rsm n ((rts n A).getD t 0)) ∧ TauOK n A t (M 96 t) ∧ (∃ k e p, stepsTo n A k t e ∧ M 97 t = nI k ∧ k < 36 ∧ p < n ∧ isPrj n A e p ∧ M 98 t = nI p) ∧ ((∃ p, p < n ∧ isInj n A t p ∧ M 99 t = nI p) ∨ (M 99 t = -1 ∧ ∀ p, p < n → ¬ isInj n A t p)) := by
  rcases h with ⟨h, _⟩ | ⟨_, h⟩
  · exact (fnt_tf hf h).elim
  · exact h
theorem KnowsOK.no (h : KnowsOK M n A) (hf : fnt n A = false) : M 176 12 = -1 := by
  rcases h.2 with ⟨_, h⟩ | ⟨h, _⟩
  · exact h
  · exact (fnt_tf h hf).elim
theorem KnowsOK.yes (h : KnowsOK M n A) (hf : fnt n A = true) : (rts n A).length ≤ 36 ∧ M 176 12 = nI (rts n A).length ∧ ∀ t, t < (rts n A).length → (∀ i, i < 6 → M 184 (6 * t + i) = rt n A t i) ∧ TauOK n A t (M 185 t) := by
  rcases h.2 with ⟨h, _⟩ | ⟨_, h⟩
  · exact (fnt_tf hf h).elim
  · exact h
theorem x3_hasY {L : Nat} (hL : L ≤ 36) (h : M 57 1 = nI L) {t : Nat} (ht : t < L) : f_X3_has (nI t) M = some 1 := by
  simp (disch := omega) only [f_X3_has, h, iL, iT, iE, iN, iZ, i0, cl, nL, yL, nT, yT, s1_i, ad_i, z0, c0, la_1, la_2, la_11, la_12, la_21, la_22, la_27, la_54, la_10, la_243, ml_4, ml_6, ml_27, ml_10, ml_3, false_or, or_false, true_or, or_true, or_self, if_false, if_true, not_true, not_false_iff, bs, lt_p]
theorem x3_hasN {L : Nat} (h : M 57 1 = nI L) {i : Int32} (hi : i < 0 ∨ nI L ≤ i) : f_X3_has i M = some 0 := by
  unfold f_X3_has
  by_cases h0 : i < 0
  · rw [if_pos h0]
  · rw [if_neg h0, h, if_pos (hi.resolve_left h0)]
theorem op_paths (h : Inv M) (i j : Int32) : ∃ r M1 M2, f_X7_paths i j M = some (r, M1) ∧ f_X8_paths i j M1 = some (r, M2) ∧ Inv M2 := by
  obtain ⟨n, A, x, P, K, T, S, w, hc, hm⟩ := id h
  have hn6 := w.1.2
  rcases pk_ix i (n := n) (by omega) with hi | hi | ⟨p, hp, rfl⟩
  · exact op_no (f := f_X7_paths i j) (g := f_X8_paths i j) h (-1000001) (by unfold f_X7_paths; rw [x2_hasPointN hc.1.1 (Or.inl hi)]; rfl) (by unfold f_X8_paths; rw [x8_isPointN hm.1 w.1.1 hn6 (Or.inl hi)]; rfl)
  · exact op_no (f := f_X7_paths i j) (g := f_X8_paths i j) h (-1000001) (by unfold f_X7_paths; rw [x2_hasPointN hc.1.1 (Or.inr hi)]; rfl) (by unfold f_X8_paths; rw [x8_isPointN hm.1 w.1.1 hn6 (Or.inr hi)]; rfl)
  have e1 : f_X2_hasPoint 1 (nI p) M = some 1 := x2_hasPoint hc.1.1 hn6 p hp
  have m1 := x8_isPoint hm.1 hn6 p hp
  have hno : (j < 0 ∨ nI n ≤ j) → ∃ r M1 M2, f_X7_paths (nI p) j M = some (r, M1) ∧ f_X8_paths (nI p) j M1 = some (r, M2) ∧ Inv M2 := fun hj => op_no (f := f_X7_paths (nI p) j) (g := f_X8_paths (nI p) j) h (-1000001) (by simp only [f_X7_paths, e1, bs, e10, if_false, x2_hasPointN hc.1.1 hj, if_true]) (by simp only [f_X8_paths, m1, bs, e10, if_false, x8_isPointN hm.1 w.1.1 hn6 hj, if_true])
  rcases pk_ix j (n := n) (by omega) with hj | hj | ⟨q, hq, rfl⟩
  · exact hno (Or.inl hj)
  · exact hno (Or.inr hj)
  have e2 : f_X2_hasPoint 1 (nI q) M = some 1 := x2_hasPoint hc.1.1 hn6 q hq
  refine op_mk (f := f_X7_paths (nI p) (nI q)) (g := f_X8_paths (nI p) (nI q)) (pth A p q) hm w ?_ (fun M1 hm1 => ?_)
  · obtain ⟨M1, a1, a2, a3, a4, a5, a6⟩ := x7_findWays w hc
    have e3 := a4.2.2 p hp q hq
    refine ⟨M1, ?_, a2, fun b hb => a5 b (by omega) (by omega)⟩
    simp (disch := omega) only [f_X7_paths, e1, e2, e10, a1, e3, iL, iT, iE, iN, iZ, i0, cl, nL, yL, nT, yT, s1_i, ad_i, z0, c0, la_1, la_2, la_11, la_12, la_21, la_22, la_27, la_54, la_10, la_243, ml_4, ml_6, ml_27, ml_10, ml_3, false_or, or_false, true_or, or_true, or_self, if_false, if_true, not_true, not_false_iff, bs, lt_p]
  · obtain ⟨M2, b1, b2, b3, b4, b5⟩ := x8_knows w hm1
    have e3 := b3.1 p hp q hq
    refine ⟨M2, ?_, b2, fun b hb => b4 b (by omega) (by omega) (by omega) (by omega) (by omega) (by omega)⟩
    simp (disch := omega) only [f_X8_paths, x8_isPoint hm1.1 hn6 p hp, x8_isPoint hm1.1 hn6 q hq, e10, b1, e3, iL, iT, iE, iN, iZ, i0, cl, nL, yL, nT, yT, s1_i, ad_i, z0, c0, la_1, la_2, la_11, la_12, la_21, la_22, la_27, la_54, la_10, la_243, ml_4, ml_6, ml_27, ml_10, ml_3, false_or, or_false, true_or, or_true, or_self, if_false, if_true, not_true, not_false_iff, bs, lt_p]
theorem op_root (h : Inv M) (i j : Int32) : ∃ r M1 M2, f_X7_root i j M = some (r, M1) ∧ f_X8_root i j M1 = some (r, M2) ∧ Inv M2 := by
  obtain ⟨n, A, x, P, K, T, S, w, hc, hm⟩ := id h
  have hn6 := w.1.2
  have hA := w.2.1
  refine op_rd (f := f_X7_root i j) (g := f_X8_root i j) w hc hm (fun M => rfl) (fun M => rfl) ?_
  cases hf : fnt n A with
  | false => exact ⟨-1000003, fun M1 _ hr => by rw [hr.no hf, if_pos rfl], fun M2 _ hk => by rw [hk.no hf, if_neg n1m]⟩
  | true =>
    have hL1 := rts_pos hA hn6 w.1.1 hf
    have hL := fnt_36 hA hn6 hf
    have z0 : (0 : Int32) ≤ nI (rts n A).length := nI_pos' (by omega)
    rcases pk_ix i (n := (rts n A).length) (by omega) with hi | hi | ⟨t, ht, rfl⟩
    · exact ⟨-1000001, fun M1 _ hr => by obtain ⟨_, q1, q2, _⟩ := hr.yes hf; simp only [q1, e10, if_false, x3_hasN q2 (Or.inl hi), bs, if_true], fun M2 _ hk => by obtain ⟨_, q1, _⟩ := hk.yes hf; simp only [q1, z0, if_true, x8_inRN hL1 (show (rts n A).length < 1000 by omega) (Or.inl hi), bs]⟩
    · exact ⟨-1000001, fun M1 _ hr => by obtain ⟨_, q1, q2, _⟩ := hr.yes hf; simp only [q1, e10, if_false, x3_hasN q2 (Or.inr hi), bs, if_true], fun M2 _ hk => by obtain ⟨_, q1, _⟩ := hk.yes hf; simp only [q1, z0, if_true, x8_inRN hL1 (show (rts n A).length < 1000 by omega) (Or.inr hi), bs]⟩
    · by_cases hj : j < 0 ∨ nI n ≤ j
      · refine ⟨-1000001, fun M1 hc1 hr => ?_, fun M2 hm2 hk => ?_⟩
        · obtain ⟨_, q1, q2, _⟩ := hr.yes hf
          simp only [q1, e10, if_false, x3_hasY hL q2 ht, bs, x2_hasPointN hc1.1.1 hj, if_true]
        · obtain ⟨_, q1, _⟩ := hk.yes hf
          simp only [q1, z0, if_true, x8_inR ht (show (rts n A).length < 1000 by omega), bs, e10, if_false, x8_isPointN hm2.1 w.1.1 hn6 hj]
      obtain ⟨q, hq, rfl⟩ : ∃ q, q < n ∧ j = nI q := by
        rcases pk_ix j (n := n) (by omega) with q | q | q
        · exact absurd (Or.inl q) hj
        · exact absurd (Or.inr q) hj
        · exact q
      refine ⟨rt n A t q, fun M1 hc1 hr => ?_, fun M2 hm2 hk => ?_⟩
      · obtain ⟨_, q1, q2, q3⟩ := hr.yes hf
        have e3 := (q3 t ht).1 q (by omega)
        have e4 : f_X2_hasPoint 1 (nI q) M1 = some 1 := x2_hasPoint hc1.1.1 hn6 q hq
        simp (disch := omega) only [q1, e10, x3_hasY hL q2 ht, e4, e3, iL, iT, iE, iN, iZ, i0, cl, nL, yL, nT, yT, s1_i, ad_i, z0, c0, la_1, la_2, la_11, la_12, la_21, la_22, la_27, la_54, la_10, la_243, ml_4, ml_6, ml_27, ml_10, ml_3, false_or, or_false, true_or, or_true, or_self, if_false, if_true, not_true, not_false_iff, bs, lt_p]
      · obtain ⟨_, q1, q3⟩ := hk.yes hf
        have e3 := (q3 t ht).1 q (by omega)
        simp (disch := omega) only [q1, z0, x8_inR ht (show (rts n A).length < 1000 by omega), e10, x8_isPoint hm2.1 hn6 q hq, e3, iL, iT, iE, iN, iZ, i0, cl, nL, yL, nT, yT, s1_i, ad_i, z0, c0, la_1, la_2, la_11, la_12, la_21, la_22, la_27, la_54, la_10, la_243, ml_4, ml_6, ml_27, ml_10, ml_3, false_or, or_false, true_or, or_true, or_self, if_false, if_true, not_true, not_false_iff, bs, lt_p]
theorem mx_hom (v : Int32) : mx v 0 = if v ≤ 0 then 0 else v := by
  unfold mx
  by_cases h : v ≤ 0
  · rw [if_pos h]
    by_cases h2 : v < 0
    · rw [if_pos h2]
    · rw [if_neg h2]
      rw [fa_le] at h
      rw [fa_lt] at h2
      rw [fa_eq]
      omega
  · rw [if_neg h, if_neg (fun q => h (by rw [fa_le]; rw [fa_lt] at q; omega))]
theorem mx_ext {v : Int32} (hv : -16000000 ≤ v.toInt ∧ v.toInt ≤ 16000000) : mx (-v) 0 = if 0 ≤ v then 0 else -v := by
  have hn : (-v).toInt = - v.toInt := by
    have : -v = Int32.ofInt (- v.toInt) := by rw [Int32.ofInt_neg, Int32.ofInt_toInt]
    rw [this]
    exact toInt_small (by omega)
  have z : (0 : Int32).toInt = 0 := rfl
  unfold mx
  by_cases h : 0 ≤ v
  · rw [if_pos h]
    rw [fa_le, z] at h
    by_cases h2 : -v < 0
    · rw [if_pos h2]
    · rw [if_neg h2]
      rw [fa_lt, hn, z] at h2
      rw [fa_eq, hn, z]
      omega
  · rw [if_neg h, if_neg (fun q => h (by rw [fa_le, z]; rw [fa_lt, hn, z] at q; omega))]
theorem op_between (h : Inv M) (i j c : Int32) : ∃ r M1 M2, f_X7_between i j c M = some (r, M1) ∧ f_X8_between i j c M1 = some (r, M2) ∧ Inv M2 := by
  obtain ⟨n, A, x, P, K, T, S, w, hc, hm⟩ := id h
  have hn6 := w.1.2
  have hA := w.2.1
  refine op_rd (f := f_X7_between i j c) (g := f_X8_between i j c) w hc hm (fun M => rfl) (fun M => rfl) ?_
  cases hf : fnt n A with
  | false => exact ⟨-1000003, fun M1 _ hr => by rw [hr.no hf, if_pos rfl], fun M2 _ hk => by rw [hk.no hf, if_neg n1m]⟩
  | true =>
    have hL1 := rts_pos hA hn6 w.1.1 hf
    have hL := fnt_36 hA hn6 hf
    have hL3 : (rts n A).length < 1000 := by omega
    have z0 : (0 : Int32) ≤ nI (rts n A).length := nI_pos' (by omega)
    rcases pk_ix i (n := (rts n A).length) (by omega) with hi | hi | ⟨t, ht, rfl⟩
    · exact ⟨-1000001, fun M1 _ hr => by obtain ⟨_, q1, q2, _⟩ := hr.yes hf; simp only [q1, e10, if_false, x3_hasN q2 (Or.inl hi), bs, if_true], fun M2 _ hk => by obtain ⟨_, q1, _⟩ := hk.yes hf; simp only [q1, z0, if_true, x8_inRN hL1 hL3 (Or.inl hi), bs]⟩
    · exact ⟨-1000001, fun M1 _ hr => by obtain ⟨_, q1, q2, _⟩ := hr.yes hf; simp only [q1, e10, if_false, x3_hasN q2 (Or.inr hi), bs, if_true], fun M2 _ hk => by obtain ⟨_, q1, _⟩ := hk.yes hf; simp only [q1, z0, if_true, x8_inRN hL1 hL3 (Or.inr hi), bs]⟩
    rcases pk_ix j (n := (rts n A).length) (by omega) with hj | hj | ⟨u, hu, rfl⟩
    · exact ⟨-1000001, fun M1 _ hr => by obtain ⟨_, q1, q2, _⟩ := hr.yes hf; simp only [q1, e10, if_false, x3_hasY hL q2 ht, x3_hasN q2 (Or.inl hj), bs, if_true], fun M2 _ hk => by obtain ⟨_, q1, _⟩ := hk.yes hf; simp only [q1, z0, if_true, x8_inR ht hL3, x8_inRN hL1 hL3 (Or.inl hj), bs, e10, if_false]⟩
    · exact ⟨-1000001, fun M1 _ hr => by obtain ⟨_, q1, q2, _⟩ := hr.yes hf; simp only [q1, e10, if_false, x3_hasY hL q2 ht, x3_hasN q2 (Or.inr hj), bs, if_true], fun M2 _ hk => by obtain ⟨_, q1, _⟩ := hk.yes hf; simp only [q1, z0, if_true, x8_inR ht hL3, x8_inRN hL1 hL3 (Or.inr hj), bs, e10, if_false]⟩
    have c1 : ∀ M1, CI M1 n A x P K T S → RootsOK M1 n A → f_X2_eulerOf 1 (59 + t) (59 + u) M1 = some (eul n A (rt n A t) (rt n A u)) := fun M1 hc1 hr => by
      obtain ⟨_, q1, q2, q3⟩ := hr.yes hf
      rw [x2_eulerOf hc1.1 hA hn6, eul_congr hA (fun i hi => (q3 t ht).1 i (by omega)) (fun i hi => (q3 u hu).1 i (by omega))]
    have a184 : alen 184 = 216 := by decide
    have m1 : ∀ M2, MI M2 n A x P K T S → KnowsOK M2 n A → f_X8_form 184 (nI (6 * t)) 184 (nI (6 * u)) M2 = some (eul n A (rt n A t) (rt n A u)) := fun M2 hm2 hk => by
      obtain ⟨_, q1, q3⟩ := hk.yes hf
      rw [x8_form hm2.1 hm2.2.1 hA hn6 184 184 (6 * t) (6 * u) (by omega) (by omega) (by omega) (by omega), eul_congr hA (fun i hi => (q3 t ht).1 i (by omega)) (fun i hi => (q3 u hu).1 i (by omega))]
    have hv : -16000000 ≤ (eul n A (rt n A t) (rt n A u)).toInt ∧ (eul n A (rt n A t) (rt n A u)).toInt ≤ 16000000 := by
      have hb : ∀ s i, i < n → -(1000 : Int) ≤ ti (rt n A s) i ∧ ti (rt n A s) i ≤ 1000 := fun s i hi => by
        rw [ti_rt hn6 hi]
        have := RR_nn (n := n) (A := A) s i
        have := RR_3 (n := n) (A := A) s i
        omega
      rw [eul_toInt hA hn6 (b := 1000) (by omega) (by omega) (hb t) (hb u)]
      exact ez_bd hA hn6 (b := 1000) (by omega) (by omega) (hb t) (hb u)
    generalize eul n A (rt n A t) (rt n A u) = v at *
    by_cases hcn : c < 0 ∨ ¬ c ≤ 2
    · have hin : ∀ M2 : Mem, f_X8_in c.toInt64 0 2 M2 = some 0 := fun M2 => x8_inN (L := 0) (lo := 0) (H := 2) (hi := 2) (by decide) (by decide) (fun q => by
        rcases hcn with q1 | q1
        · rw [fa_lt] at q1
          have := (fa_le _ _).mp q.1
          omega
        · exact q1 q.2)
      refine ⟨-1000002, fun M1 hc1 hr => ?_, fun M2 hm2 hk => ?_⟩
      · obtain ⟨_, q1, q2, q3⟩ := hr.yes hf
        simp only [q1, e10, if_false, x3_hasY hL q2 ht, x3_hasY hL q2 hu, bs]
        by_cases hc0 : c < 0
        · rw [if_pos hc0]
        · rw [if_neg hc0, if_neg (hcn.resolve_left hc0)]
      · obtain ⟨_, q1, q3⟩ := hk.yes hf
        simp only [q1, z0, if_true, x8_inR ht hL3, x8_inR hu hL3, bs, e10, if_false, hin M2]
    · have hc0 : ¬ c < 0 := fun q => hcn (Or.inl q)
      have hc2 : c ≤ 2 := Classical.byContradiction (fun q => hcn (Or.inr q))
      have hin : ∀ M2 : Mem, f_X8_in c.toInt64 0 2 M2 = some 1 := fun M2 => x8_inY (L := 0) (lo := 0) (H := 2) (hi := 2) (by decide) (by decide) ⟨by rw [fa_le]; rw [fa_lt] at hc0; omega, hc2⟩
      refine ⟨if c = 0 then mx v 0 else if c = 1 then mx (-v) 0 else v, fun M1 hc1 hr => ?_, fun M2 hm2 hk => ?_⟩
      · obtain ⟨_, q1, q2, q3⟩ := hr.yes hf
        simp (disch := omega) only [q1, e10, x3_hasY hL q2 ht, x3_hasY hL q2 hu, hc0, hc2, c1 M1 hc1 hr, iL, iT, iE, iN, iZ, i0, cl, nL, yL, nT, yT, s1_i, ad_i, z0, c0, la_1, la_2, la_11, la_12, la_21, la_22, la_27, la_54, la_10, la_243, ml_4, ml_6, ml_27, ml_10, ml_3, false_or, or_false, true_or, or_true, or_self, if_false, if_true, not_true, not_false_iff, bs, lt_p]
        by_cases c0 : c = 0
        · rw [if_pos c0, if_pos c0]
        · rw [if_neg c0, if_neg c0]
          by_cases c1 : c = 1
          · rw [if_pos c1, if_pos c1]
          · rw [if_neg c1, if_neg c1]
      · obtain ⟨_, q1, q3⟩ := hk.yes hf
        have n02 : ¬ (0 : Int32) = 2 := by decide
        have n12 : ¬ (1 : Int32) = 2 := by decide
        simp (disch := omega) only [q1, z0, x8_inR ht hL3, x8_inR hu hL3, e10, hin M2, m1 M2 hm2 hk, iL, iT, iE, iN, iZ, i0, cl, nL, yL, nT, yT, s1_i, ad_i, z0, c0, la_1, la_2, la_11, la_12, la_21, la_22, la_27, la_54, la_10, la_243, ml_4, ml_6, ml_27, ml_10, ml_3, false_or, or_false, true_or, or_true, or_self, if_false, if_true, not_true, not_false_iff, bs, lt_p]
        by_cases c0 : c = 0
        · subst c0
          rw [if_neg n02, if_pos rfl, if_pos rfl, mx_hom]
          by_cases hv0 : v ≤ 0
          · rw [if_pos hv0, if_pos hv0]
          · rw [if_neg hv0, if_neg hv0]
        · by_cases c1 : c = 1
          · subst c1
            rw [if_neg n12, if_neg e10, if_neg e10, if_pos rfl, mx_ext hv]
            by_cases hv0 : 0 ≤ v
            · rw [if_pos hv0, if_pos hv0]
            · rw [if_neg hv0, if_neg hv0]
          · have c2 : c = 2 := by
              rw [fa_lt] at hc0
              rw [fa_le] at hc2
              rw [fa_eq] at c0 c1 ⊢
              have k0 : (0 : Int32).toInt = 0 := rfl
              have k1 : (1 : Int32).toInt = 1 := rfl
              have k2 : (2 : Int32).toInt = 2 := rfl
              omega
            rw [if_pos c2, if_neg c0, if_neg c1]
theorem op_find (h : Inv M) : ∃ r M1 M2, f_X7_find M = some (r, M1) ∧ f_X8_find M1 = some (r, M2) ∧ Inv M2 := by
  obtain ⟨n, A, x, P, K, T, S, w, hc, hm⟩ := id h
  have hn6 := w.1.2
  have hA := w.2.1
  refine op_rd (f := f_X7_find) (g := f_X8_find) w hc hm (fun M => rfl) (fun M => rfl) ?_
  cases hf : fnt n A with
  | false => exact ⟨-1000003, fun M1 _ hr => by rw [hr.no hf, if_pos rfl], fun M2 _ hk => by rw [hk.no hf, if_neg n1m]⟩
  | true =>
    have hL := fnt_36 hA hn6 hf
    have z0 : (0 : Int32) ≤ nI (rts n A).length := nI_pos' (by omega)
    have uq : ∀ s t, s < (rts n A).length → t < (rts n A).length → (∀ i, i < n → rt n A s i = x i) → (∀ i, i < n → rt n A t i = x i) → s = t := fun s t hs ht h1 h2 => RR_inj hA hn6 hs ht (fun i hi => by
      rw [← ti_rt hn6 hi, ← ti_rt hn6 hi]
      unfold ti
      rw [h1 i hi, h2 i hi])
    obtain ⟨v, hv⟩ : ∃ v : Int32, (∃ t, t < (rts n A).length ∧ (∀ i, i < n → rt n A t i = x i) ∧ v = nI t) ∨ ((∀ t, t < (rts n A).length → ¬ ∀ i, i < n → rt n A t i = x i) ∧ v = -1000000) := by
      by_cases hex : ∃ t, t < (rts n A).length ∧ ∀ i, i < n → rt n A t i = x i
      · obtain ⟨t, t1, t2⟩ := hex
        exact ⟨nI t, Or.inl ⟨t, t1, t2, rfl⟩⟩
      · exact ⟨-1000000, Or.inr ⟨fun t ht q => hex ⟨t, ht, q⟩, rfl⟩⟩
    have same : ∀ u : Int32, ((∃ t, t < (rts n A).length ∧ (∀ i, i < n → rt n A t i = x i) ∧ u = nI t) ∨ ((∀ t, t < (rts n A).length → ¬ ∀ i, i < n → rt n A t i = x i) ∧ u = -1000000)) → u = v := fun u hu => by
      rcases hu with ⟨t, t1, t2, t3⟩ | ⟨t1, t2⟩
      · rcases hv with ⟨s, s1, s2, s3⟩ | ⟨s1, s2⟩
        · rw [t3, s3, uq t s t1 s1 t2 s2]
        · exact absurd t2 (s1 t t1)
      · rcases hv with ⟨s, s1, s2, s3⟩ | ⟨s1, s2⟩
        · exact absurd s2 (t1 s s1)
        · rw [t2, s2]
    refine ⟨v, fun M1 hc1 hr => ?_, fun M2 hm2 hk => ?_⟩
    · obtain ⟨_, q1, q2, q3⟩ := hr.yes hf
      have hrow : ∀ t, t < (rts n A).length → ((∀ i, i < n → M1 (59 + t) i = M1 4 i) ↔ ∀ i, i < n → rt n A t i = x i) := fun t ht => ⟨fun q i hi => by rw [← (q3 t ht).1 i (by omega), q i hi]; exact hc1.1.2.2.2 i (by omega), fun q i hi => by rw [(q3 t ht).1 i (by omega), q i hi]; exact (hc1.1.2.2.2 i (by omega)).symm⟩
      have a10 : M1 1 0 = nI n := hc1.1.1
      have hnum : f_X3_numberOf 4 (nI n) M1 = some v := by
        rcases x3_numberOf (M := M1) hL q2 hn6 4 with ⟨s, s1, s2, s3⟩ | ⟨s1, s2⟩
        · rw [s3]; congr 1; exact same _ (Or.inl ⟨s, s1, (hrow s s1).mp s2, rfl⟩)
        · rw [s2]; congr 1; exact same _ (Or.inr ⟨fun t ht q => s1 t ht ((hrow t ht).mpr q), rfl⟩)
      simp only [q1, e10, if_false, a10, hnum, bs]
    · obtain ⟨_, q1, q3⟩ := hk.yes hf
      have hx : ∀ i, i < 6 → M2 177 (21 + i) = x i := fun i hi => by have := hm2.2.1.2.2 i hi; rw [Nat.zero_add] at this; exact this
      have hp2 := hm2.1
      -- one root
      have h32 : ∀ (i1 : Int32) (t : Nat) (kk : Int32 → Int32 → Option (Int32 × Mem)), t < (rts n A).length → f_X8_find_32 i1 (nI t) M2 kk FU 1 0 = kk (if dc (∀ i, i < n → rt n A t i = x i) then 1 else 0) (nI n) := by
        intro i1 t kk ht
        have hh := loop_u (fun m (b : Bool) j => f_X8_find_32 i1 (nI t) M2 kk m (if b then 1 else 0) (nI j)) (fun b => kk (if b then 1 else 0) (nI n)) n (fun j b => b && dc (rt n A t j = x j)) true (fun m j b hj => ?_) (fun m b => ?_) FU (FU_gt (by omega))
        · have e : fo (fun j b => b && dc (rt n A t j = x j)) n true = dc (∀ i, i < n → rt n A t i = x i) := by
            rw [Bool.eq_iff_iff, fo_and, dc_iff]
            exact ⟨fun q i hi => dc_iff.mp (q i hi), fun q i hi => dc_iff.mpr (q i hi)⟩
          rw [e] at hh
          exact hh
        · have hr := (q3 t ht).1 j (by omega)
          have hxj := hx j (by omega)
          cases b with
          | false =>
            simp (disch := omega) only [ef_X8_find_32, s_X8_find_32, hp2, Bool.false_eq_true, eq_self, Bool.false_and, iL, iT, iE, iN, iZ, i0, cl, nL, yL, nT, yT, s1_i, ad_i, z0, c0, la_1, la_2, la_11, la_12, la_21, la_22, la_27, la_54, la_10, la_243, ml_4, ml_6, ml_27, ml_10, ml_3, false_or, or_false, true_or, or_true, or_self, if_false, if_true, not_true, not_false_iff, bs, lt_p]
          | true =>
            simp (disch := omega) only [ef_X8_find_32, s_X8_find_32, hp2, hr, hxj, e10, eq_self, Bool.true_and, iL, iT, iE, iN, iZ, i0, cl, nL, yL, nT, yT, s1_i, ad_i, z0, c0, la_1, la_2, la_11, la_12, la_21, la_22, la_27, la_54, la_10, la_243, ml_4, ml_6, ml_27, ml_10, ml_3, false_or, or_false, true_or, or_true, or_self, if_false, if_true, not_true, not_false_iff, bs, lt_p]
            by_cases hc : rt n A t j = x j
            · rw [if_pos hc, if_pos (dc_iff.mpr hc)]
            · rw [if_neg hc, if_neg (fun z => hc (dc_iff.mp z))]
        · simp (disch := omega) only [ef_X8_find_32, s_X8_find_32, hp2, iL, iT, iE, iN, iZ, i0, cl, nL, yL, nT, yT, s1_i, ad_i, z0, c0, la_1, la_2, la_11, la_12, la_21, la_22, la_27, la_54, la_10, la_243, ml_4, ml_6, ml_27, ml_10, ml_3, false_or, or_false, true_or, or_true, or_self, if_false, if_true, not_true, not_false_iff, bs, lt_p]
      have hh := loop_u (fun m (v : Int32) j => f_X8_find_19 M2 (fun i1 _ => some (i1, M2)) m v (nI j)) (fun v => some (v, M2)) (rts n A).length (fun t f => if dc (∀ i, i < n → rt n A t i = x i) then nI t else f) (-1000000) (fun m j v hj => ?_) (fun m v => ?_) FU (FU_gt (by omega))
      · rw [q1, if_pos z0]
        refine Eq.trans hh ?_
        congr 2
        refine same _ ?_
        rcases fo_last (L := (rts n A).length) (p := fun t => dc (∀ i, i < n → rt n A t i = x i)) (z := -1000000) with ⟨t, t1, t2, t3⟩ | ⟨t1, t2⟩
        · exact Or.inl ⟨t, t1, dc_iff.mp t2, t3⟩
        · exact Or.inr ⟨fun s hs q => Bool.noConfusion ((t1 s hs).symm.trans (dc_iff.mpr q)), t2⟩
      · show f_X8_find_19 M2 (fun i1 _ => some (i1, M2)) (m + 1) v (nI j) = _
        rw [ef_X8_find_19]
        unfold s_X8_find_19
        rw [q1, if_neg (by rw [iL (by omega) (by omega)]; omega), h32 v j _ hj]
        cases dc (∀ i, i < n → rt n A j i = x i) with
        | true => rw [if_pos rfl, if_neg e10, if_pos rfl, s1_i]
        | false =>
          have hft : ¬ (false = true) := by simp
          rw [if_neg hft, if_pos rfl, if_neg hft, s1_i]
      · simp (disch := omega) only [ef_X8_find_19, s_X8_find_19, q1, iL, iT, iE, iN, iZ, i0, cl, nL, yL, nT, yT, s1_i, ad_i, z0, c0, la_1, la_2, la_11, la_12, la_21, la_22, la_27, la_54, la_10, la_243, ml_4, ml_6, ml_27, ml_10, ml_3, false_or, or_false, true_or, or_true, or_self, if_false, if_true, not_true, not_false_iff, bs, lt_p]
end READ

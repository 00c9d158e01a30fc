/-! ===== the class numbers the roots ===== -/
theorem fo_cnt {p : Nat → Bool} {l : List Nat} : ∀ j, j ≤ l.length → fo (fun k c => if p (l.getD k 0) then c + 1 else c) j 0 = (l.take j).countP p := by
  intro j
  induction j with
  | zero => intro _; rw [List.take_zero]; rfl
  | succ j ih =>
    intro hj
    rw [fo_s, ih (by omega), List.take_add_one, List.countP_append, List.getElem?_eq_getElem (show j < l.length by omega), List.getD_eq_getElem?_getD, List.getElem?_eq_getElem (show j < l.length by omega)]
    show (if p l[j] then _ else _) = _ + [l[j]].countP p
    rw [List.countP_cons, List.countP_nil]
    split <;> omega
noncomputable def dc (p : Prop) : Bool := @decide p (Classical.propDecidable p)
theorem dc_iff {p : Prop} : dc p = true ↔ p := @decide_eq_true_iff p (Classical.propDecidable p)
def ah6 (a b : Nat) : Prop := sm6 a < sm6 b ∨ (sm6 a = sm6 b ∧ b < a)
section GIVE
variable {M M0 M' : Mem} {n : Nat} {A : Arr} {x : Row} {F : List Nat}
theorem FG.sm (hA : OKA n A) (hn : n ≤ 6) (h : fnt n A = true) (hF : FG n A F) {c : Nat} (hc : c ∈ F) : sm6 c = rsm n (c4 n c) := by
  have h1 := sm6_zs c
  have h2 := rsm_zs n (c4 n c)
  obtain ⟨m, hm⟩ : ∃ m, 6 = n + m := ⟨6 - n, by omega⟩
  rw [hm, zs_of_le m (fun i a b => by unfold zr; rw [(hF.2.2 c hc).2.2.1 i a (by omega)]; rfl)] at h1
  rw [zs_congr (g := zr (dx c)) (fun i hi => by unfold zr; rw [hF.c4_dgs hA hn h hc i hi])] at h2
  omega
theorem FG.ord (hA : OKA n A) (hn : n ≤ 6) (h : fnt n A = true) (hF : FG n A F) {a b : Nat} (ha : a ∈ F) (hb : b ∈ F) : b < a ↔ c4 n b < c4 n a := by
  obtain ⟨a1, a2, a3, a4⟩ := hF.2.2 a ha
  obtain ⟨b1, b2, b3, b4⟩ := hF.2.2 b hb
  have ea : enc 16 6 (dx a) = a := enc_dgs (by omega) 6 a a1
  have eb : enc 16 6 (dx b) = b := enc_dgs (by omega) 6 b b1
  have h1 := enc_lex (b := 16) 6 (dx b) (dx a) (fun i _ => dx_lt b i) (fun i _ => dx_lt a i)
  have h2 := enc_lex (b := 4) n (dx b) (dx a) (hF.dig3 hA hn h hb) (hF.dig3 hA hn h ha)
  rw [ea, eb] at h1
  rw [h1]
  unfold c4
  rw [h2]
  constructor
  · rintro ⟨i, q1, q2, q3⟩
    refine ⟨i, ?_, q2, q3⟩
    apply Classical.byContradiction
    intro hno
    have := a3 i (by omega) q1
    omega
  · rintro ⟨i, q1, q2, q3⟩
    exact ⟨i, by omega, q2, q3⟩
theorem FG.ah (hA : OKA n A) (hn : n ≤ 6) (h : fnt n A = true) (hF : FG n A F) {a b : Nat} (ha : a ∈ F) (hb : b ∈ F) : ah6 a b ↔ ahd n (c4 n a) (c4 n b) := by
  unfold ah6 ahd
  rw [hF.sm hA hn h ha, hF.sm hA hn h hb, hF.ord hA hn h ha hb]
noncomputable def rk (F : List Nat) (b : Nat) : Nat := F.countP (fun a => dc (ah6 a b))
theorem rk_idx (hA : OKA n A) (hn : n ≤ 6) (h : fnt n A = true) (hF : FG n A F) (hp : List.Perm (F.map (c4 n)) (rts n A)) {b t : Nat} (hb : b ∈ F) (ht : (rts n A)[t]? = some (c4 n b)) : rk F b = t := by
  rw [← idx_cnt (n := n) rts_sorted t (c4 n b) ht (fun y => dc (ahd n y (c4 n b))) (fun a _ => by rw [dc_iff]), ← hp.countP_eq, List.countP_map]
  unfold rk
  refine List.countP_congr (fun a ha => ?_)
  show (dc (ah6 a b) = true) ↔ (dc (ahd n (c4 n a) (c4 n b)) = true)
  rw [dc_iff, dc_iff]
  exact hF.ah hA hn h ha hb
theorem rk_ex (hA : OKA n A) (hn : n ≤ 6) (h : fnt n A = true) (hF : FG n A F) (hp : List.Perm (F.map (c4 n)) (rts n A)) {b : Nat} (hb : b ∈ F) : (rts n A)[rk F b]? = some (c4 n b) := by
  have h1 := hF.c4_rts hA hn h hb
  obtain ⟨t, ht, e⟩ := List.getElem_of_mem h1
  have h2 : (rts n A)[t]? = some (c4 n b) := by rw [List.getElem?_eq_getElem ht, e]
  rw [rk_idx hA hn h hF hp hb h2]
  exact h2
theorem x3_isAhead (hF : FD M F) (hl : ∀ c ∈ F, c < 16 ^ 6) {s r : Nat} (hs : s < F.length) (hr : r < F.length) : f_X3_isAhead (nI s) (nI r) M = some (if dc (ah6 F[s] F[r]) then 1 else 0) := by
  have h36 := hF.2.1
  obtain ⟨_, g2, g3⟩ := hF.get hs
  obtain ⟨_, k2, k3⟩ := hF.get hr
  have a1 := sm6_le F[s]
  have a2 := sm6_le F[r]
  have b1 := hl _ (List.getElem_mem hs)
  have b2 := hl _ (List.getElem_mem hr)
  generalize F[s] = a at *
  generalize F[r] = b at *
  simp (disch := omega) only [f_X3_isAhead, g2, g3, k2, k3, iE, iL, iT, iE, iN, iZ, i0, cl, nL, yL, nT, yT, s1_i, ad_i, z0, c0, la_1, la_2, la_11, la_12, la_21, la_22, la_27, la_54, la_10, la_243, ml_4, ml_6, ml_27, ml_10, ml_3, false_or, or_false, true_or, or_true, or_self, if_false, if_true, not_true, not_false_iff, bs, lt_p]
  by_cases h1 : sm6 a = sm6 b
  · rw [if_pos h1]
    by_cases h2 : a ≤ b
    · rw [if_pos h2, if_neg (by rw [dc_iff]; unfold ah6; omega)]
    · rw [if_neg h2, if_pos (by rw [dc_iff]; unfold ah6; omega)]
  · rw [if_neg h1]
    by_cases h2 : sm6 b ≤ sm6 a
    · rw [if_pos h2, if_neg (by rw [dc_iff]; unfold ah6; omega)]
    · rw [if_neg h2, if_pos (by rw [dc_iff]; unfold ah6; omega)]
theorem x3_g14 (hF : FD M F) (hl : ∀ c ∈ F, c < 16 ^ 6) {r : Nat} (hr : r < F.length) (kk : Int32 → Int32 → Option Mem) : f_X3_giveNumbers_14 (nI r) M kk FU 0 0 = kk (nI (rk F F[r])) (nI F.length) := by
  have h36 := hF.2.1
  have h57 := hF.1
  have h := loop_u (fun m (c : Nat) j => f_X3_giveNumbers_14 (nI r) M kk m (nI c) (nI j)) (fun c => kk (nI c) (nI F.length)) F.length (fun k c => if dc (ah6 (F.getD k 0) F[r]) then c + 1 else c) 0 (fun m j c hj => ?_) (fun m c => ?_) FU (FU_gt (by omega))
  · rw [fo_cnt (p := fun a => dc (ah6 a F[r])) F.length (Nat.le_refl _), List.take_length] at h
    exact h
  · have e1 : F.getD j 0 = F[j] := by rw [List.getD_eq_getElem?_getD, List.getElem?_eq_getElem hj]; rfl
    rw [e1]
    simp (disch := omega) only [ef_X3_giveNumbers_14, s_X3_giveNumbers_14, h57, x3_isAhead hF hl hj hr, iL, iT, iE, iN, iZ, i0, cl, nL, yL, nT, yT, s1_i, ad_i, z0, c0, la_1, la_2, la_11, la_12, la_21, la_22, la_27, la_54, la_10, la_243, ml_4, ml_6, ml_27, ml_10, ml_3, false_or, or_false, true_or, or_true, or_self, if_false, if_true, not_true, not_false_iff, bs, lt_p]
    by_cases hc : dc (ah6 F[j] F[r]) = true
    · rw [if_pos hc, if_pos hc, if_neg e10]
    · rw [if_neg hc, if_neg hc, if_pos rfl]
  · simp (disch := omega) only [ef_X3_giveNumbers_14, s_X3_giveNumbers_14, h57, iL, iT, iE, iN, iZ, i0, cl, nL, yL, nT, yT, s1_i, ad_i, z0, c0, la_1, la_2, la_11, la_12, la_21, la_22, la_27, la_54, la_10, la_243, ml_4, ml_6, ml_27, ml_10, ml_3, false_or, or_false, true_or, or_true, or_self, if_false, if_true, not_true, not_false_iff, bs, lt_p]
theorem rt_row (hA : OKA n A) (hn : n ≤ 6) (h : fnt n A = true) (hF : FG n A F) (hp : List.Perm (F.map (c4 n)) (rts n A)) {b : Nat} (hb : b ∈ F) : (∀ i, i < 6 → nI (dx b i) = rt n A (rk F b) i) ∧ sm6 b = rsm n ((rts n A).getD (rk F b) 0) := by
  have h1 : (rts n A).getD (rk F b) 0 = c4 n b := by rw [List.getD_eq_getElem?_getD, rk_ex hA hn h hF hp hb]; rfl
  refine ⟨fun i hi => ?_, by rw [h1]; exact hF.sm hA hn h hb⟩
  unfold rt rowOf
  rw [h1]
  by_cases hin : i < n
  · rw [if_pos hin]
    have := hF.c4_dgs hA hn h hb i hin
    unfold dgs at this
    rw [this]
  · rw [if_neg hin, (hF.2.2 b hb).2.2.1 i (by omega) hi]
    rfl
theorem x3_give (hA : OKA n A) (hn : n ≤ 6) (h : fnt n A = true) (hF : FD M F) (hG : FG n A F) (hp : List.Perm (F.map (c4 n)) (rts n A)) : ∃ M', f_X3_giveNumbers M = some M' ∧ (∀ c, (c < 59 ∨ 95 < c) → M' c = M c) ∧ ∀ t, t < (rts n A).length → (∀ i, i < 6 → M' (59 + t) i = rt n A t i) ∧ M' 95 t = nI (rsm n ((rts n A).getD t 0)) := by
  have h36 := hF.2.1
  have hlen : (rts n A).length = F.length := by rw [← hp.length_eq, List.length_map]
  have hl : ∀ c ∈ F, c < 16 ^ 6 := fun c hc => (hG.2.2 c hc).1
  have hst : ∀ (f r : Nat) (M1 : Mem), r < F.length → ((∀ c, (c < 59 ∨ 95 < c) → M1 c = M c) ∧ ∀ q c, q < r → F[q]? = some c → (∀ i, i < 6 → M1 (59 + rk F c) i = rt n A (rk F c) i) ∧ M1 95 (rk F c) = nI (rsm n ((rts n A).getD (rk F c) 0))) → ∃ M', ((∀ c, (c < 59 ∨ 95 < c) → M' c = M c) ∧ ∀ q c, q < r + 1 → F[q]? = some c → (∀ i, i < 6 → M' (59 + rk F c) i = rt n A (rk F c) i) ∧ M' 95 (rk F c) = nI (rsm n ((rts n A).getD (rk F c) 0))) ∧ f_X3_giveNumbers_2 (fun (_ : Int32) (M2 : Mem) => some M2) (f + 1) (nI r) M1 = f_X3_giveNumbers_2 (fun (_ : Int32) (M2 : Mem) => some M2) f (nI (r + 1)) M' := by
    intro f r M1 hr hI
    obtain ⟨i1, i2⟩ := hI
    have hF1 : FD M1 F := ⟨by rw [i1 57 (by omega)]; exact hF.1, h36, fun q c hq => by
      rw [i1 (101 + q) (by omega), i1 137 (by omega), i1 138 (by omega)]
      exact hF.2.2 q c hq⟩
    have hmem : F[r] ∈ F := List.getElem_mem hr
    have hrk := (List.getElem?_eq_some_iff.mp (rk_ex hA hn h hG hp hmem)).1
    obtain ⟨g1, g2, g3⟩ := hF1.get hr
    obtain ⟨t1, t2⟩ := rt_row hA hn h hG hp hmem
    have e14 := x3_g14 hF1 hl hr (fun (i2_2 : Int32) (_ : Int32) =>
      if nI r < 0 ∨ 36 ≤ (nI r).toNatClampNeg then none else
      if i2_2 < 0 ∨ 36 ≤ i2_2.toNatClampNeg then none else
      (f_X7_copyRow (101 + (nI r).toNatClampNeg) (59 + i2_2.toNatClampNeg) M1).bind fun (M6 : Mem) =>
      if nI r < 0 ∨ 36 ≤ (nI r).toNatClampNeg then none else
      if i2_2 < 0 ∨ 36 ≤ i2_2.toNatClampNeg then none else
      lt (um M6 95 i2_2.toNatClampNeg (M6 138 (nI r).toNatClampNeg)) fun (M9 : Mem) =>
      f_X3_giveNumbers_2 (fun (_ : Int32) (M2 : Mem) => some M2) f (nI r + 1) M9)
    generalize hk : rk F F[r] = k at *
    refine ⟨um (uc M1 (59 + k) (va_cpy (M1 (101 + r)) (M1 (59 + k)) 0 0 6)) 95 k (nI (sm6 F[r])), ⟨fun c hc => ?_, fun q c hq hqc => ?_⟩, ?_⟩
    · rw [um_a (by omega), uc_a (by omega)]; exact i1 c hc
    · by_cases hkc : rk F c = k
      · rw [hkc]
        refine ⟨fun i hi => ?_, ?_⟩
        · rw [um_a (by omega), uc_s, cp_lt hi, g1 i hi]; exact t1 i hi
        · rw [um_s, t2]
      · have hqr : q ≠ r := fun z => by
          subst z
          rw [List.getElem?_eq_getElem hr] at hqc
          cases hqc
          exact hkc hk
        obtain ⟨k1, k2⟩ := i2 q c (by omega) hqc
        have hc36 := (List.getElem?_eq_some_iff.mp (rk_ex hA hn h hG hp (List.mem_of_getElem? hqc))).1
        refine ⟨fun i hi => ?_, ?_⟩
        · rw [um_a (by omega), uc_a (by omega)]; exact k1 i hi
        · rw [um_k hkc, uc_a (by omega)]; exact k2
    · have h57 := hF1.1
      have h1 : ¬ nI F.length ≤ nI r := by rw [iL (by omega) (by omega)]; omega
      rw [ef_X3_giveNumbers_2]
      unfold s_X3_giveNumbers_2
      rw [h57, if_neg h1]
      refine Eq.trans e14 ?_
      simp (disch := omega) only [x7_copyRow, uc_a, g3, iL, iT, iE, iN, iZ, i0, cl, nL, yL, nT, yT, s1_i, ad_i, z0, c0, la_1, la_2, la_11, la_12, la_21, la_22, la_27, la_54, la_10, la_243, ml_4, ml_6, ml_27, ml_10, ml_3, false_or, or_false, true_or, or_true, or_self, if_false, if_true, not_true, not_false_iff, bs, lt_p]
  obtain ⟨f', M2, ⟨g1, g2⟩, g3⟩ := loop_M (fun f M i => f_X3_giveNumbers_2 (fun (_ : Int32) (M2 : Mem) => some M2) f (nI i) M) F.length (fun r M1 => (∀ c, (c < 59 ∨ 95 < c) → M1 c = M c) ∧ ∀ q c, q < r → F[q]? = some c → (∀ i, i < 6 → M1 (59 + rk F c) i = rt n A (rk F c) i) ∧ M1 95 (rk F c) = nI (rsm n ((rts n A).getD (rk F c) 0))) hst F.length 0 M (by omega) ⟨fun _ _ => rfl, fun q c hq => by omega⟩ FU (FU_gt (by omega))
  refine ⟨M2, ?_, g1, fun t ht => ?_⟩
  · unfold f_X3_giveNumbers
    refine Eq.trans g3 ?_
    have h57 : M2 57 1 = nI F.length := by rw [g1 57 (by omega)]; exact hF.1
    simp (disch := omega) only [ef_X3_giveNumbers_2, s_X3_giveNumbers_2, h57, iL, iT, iE, iN, iZ, i0, cl, nL, yL, nT, yT, s1_i, ad_i, z0, c0, la_1, la_2, la_11, la_12, la_21, la_22, la_27, la_54, la_10, la_243, ml_4, ml_6, ml_27, ml_10, ml_3, false_or, or_false, true_or, or_true, or_self, if_false, if_true, not_true, not_false_iff, bs, lt_p]
  · have h1 := hp.mem_iff.mpr (List.getElem_mem ht)
    obtain ⟨c, hc, e⟩ := List.mem_map.mp h1
    obtain ⟨q, hq, e2⟩ := List.getElem_of_mem hc
    have e3 : F[q]? = some c := by rw [List.getElem?_eq_getElem hq, e2]
    have e4 : rk F c = t := rk_idx hA hn h hG hp hc (by rw [List.getElem?_eq_getElem ht, e])
    have := g2 q c hq e3
    rw [e4] at this
    exact this
end GIVE

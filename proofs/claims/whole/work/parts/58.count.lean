/-! ===== count ===== -/
theorem Int32_or_zero (v : Int32) : v ||| 0 = v := by
  first
    | exact Int32.or_zero
    | simp
noncomputable def kst (n : Nat) (A : Arr) (t : Nat) : Nat := Classical.epsilon (fun k => ∃ e, stepsTo n A k t e)
section COUNT
variable {M M' : Mem} {n : Nat} {A A' : Arr} {x x' : Row} {P P' : List (Arr × Row)} {K K' : Nat → Option (Arr × Row)} {T T' : List Int32} {S S' : Nat → Option (List (Nat × Row))}
theorem kst_ok (hA : OKA n A) (hn : n ≤ 6) {k t e : Nat} (h : stepsTo n A k t e) : kst n A t = k := by
  have h2 : ∃ e, stepsTo n A (kst n A t) t e := Classical.epsilon_spec (p := fun k => ∃ e, stepsTo n A k t e) ⟨k, e, h⟩
  obtain ⟨e', h3⟩ := h2
  exact (steps_uq hA hn _ t e' k e h3 h).1
theorem mx_i {a b : Nat} (ha : a < 1000) (hb : b < 1000) : mx (nI a) (nI b) = nI (max a b) := by
  unfold mx
  by_cases h : a < b
  · rw [if_pos ((iT (by omega) (by omega)).mpr h)]; congr 1; omega
  · rw [if_neg (fun q => h ((iT (by omega) (by omega)).mp q))]; congr 1; omega
theorem x3_deepest {L : Nat} (hL : L ≤ 36) (h57 : M 57 1 = nI L) {k : Nat → Nat} (hk : ∀ t, t < L → k t < 36 ∧ M 97 t = nI (k t)) : f_X3_deepest M = some (nI (fo (fun t m => max m (k t)) L 0)) := by
  refine loop_up (fun m (v : Nat) j => f_X3_deepest_4 M (fun i1 _ => some i1) m (nI v) (nI j)) (fun v => some (nI v)) L (fun t m => max m (k t)) 0 (fun _ v => v < 36) (by omega) (fun j v hj hv => by have := (hk j hj).1; omega) (fun m j v hj hv => ?_) (fun m v hv => ?_) FU (FU_gt (by omega))
  · have h1 := hk j hj
    simp (disch := omega) only [ef_X3_deepest_4, s_X3_deepest_4, h57, h1.2, mx_i, iL, iT, iE, iN, iZ, i0, cl, nL, yL, nT, yT, s1_i, ad_i, z0, c0, la_1, la_2, la_11, la_12, la_21, la_22, la_27, la_54, la_10, la_243, ml_4, ml_6, ml_27, ml_10, ml_3, false_or, or_false, true_or, or_true, or_self, if_false, if_true, not_true, not_false_iff, bs, lt_p]
  · simp (disch := omega) only [ef_X3_deepest_4, s_X3_deepest_4, h57, iL, iT, iE, iN, iZ, i0, cl, nL, yL, nT, yT, s1_i, ad_i, z0, c0, la_1, la_2, la_11, la_12, la_21, la_22, la_27, la_54, la_10, la_243, ml_4, ml_6, ml_27, ml_10, ml_3, false_or, or_false, true_or, or_true, or_self, if_false, if_true, not_true, not_false_iff, bs, lt_p]
theorem x8_deepest {L : Nat} (hL : L ≤ 36) (h12 : M 176 12 = nI L) {k : Nat → Nat} (hk : ∀ t, t < L → k t < 36 ∧ f_X8_steps (nI t) M = some (nI (k t))) : f_X8_deepest M = some (nI (fo (fun t m => max m (k t)) L 0)) := by
  refine loop_up (fun m (v : Nat) j => f_X8_deepest_4 M (fun i1 _ => some i1) m (nI v) (nI j)) (fun v => some (nI v)) L (fun t m => max m (k t)) 0 (fun _ v => v < 36) (by omega) (fun j v hj hv => by have := (hk j hj).1; omega) (fun m j v hj hv => ?_) (fun m v hv => ?_) FU (FU_gt (by omega))
  · have h1 := hk j hj
    simp (disch := omega) only [ef_X8_deepest_4, s_X8_deepest_4, h12, h1.2, iL, iT, iE, iN, iZ, i0, cl, nL, yL, nT, yT, s1_i, ad_i, z0, c0, la_1, la_2, la_11, la_12, la_21, la_22, la_27, la_54, la_10, la_243, ml_4, ml_6, ml_27, ml_10, ml_3, false_or, or_false, true_or, or_true, or_self, if_false, if_true, not_true, not_false_iff, bs, lt_p]
    by_cases h2 : k j ≤ v
    · rw [if_pos h2, show max v (k j) = v by omega]
    · rw [if_neg h2, show max v (k j) = k j by omega]
  · simp (disch := omega) only [ef_X8_deepest_4, s_X8_deepest_4, h12, iL, iT, iE, iN, iZ, i0, cl, nL, yL, nT, yT, s1_i, ad_i, z0, c0, la_1, la_2, la_11, la_12, la_21, la_22, la_27, la_54, la_10, la_243, ml_4, ml_6, ml_27, ml_10, ml_3, false_or, or_false, true_or, or_true, or_self, if_false, if_true, not_true, not_false_iff, bs, lt_p]
/-- points of a kind, as bits -/
def bits (n : Nat) (z : Nat → Int32) : Int32 := fo (fun p s => if z p = 0 then s ||| (1 <<< (nI p &&& 31)) else s) n 0
theorem x2_sinks (hq : CQ M 1 n A x) (hA : OKA n A) (hn : n ≤ 6) : f_X2_sinks 1 M = some (bits n (cou A)) := by
  refine loop_u (fun m (v : Int32) j => f_X2_sinks_4 1 M (fun i1 _ => some i1) m v (nI j)) (fun v => some v) n (fun p s => if cou A p = 0 then s ||| (1 <<< (nI p &&& 31)) else s) 0 (fun m j v hj => ?_) (fun m v => ?_) FU (FU_gt (by omega))
  · have a10 : M 1 0 = nI n := hq.1
    have e1 : f_X2_going 1 (nI j) M = some (cou A j) := x2_going hq hA hn j hj
    by_cases hz : cou A j = 0
    · simp (disch := omega) only [ef_X2_sinks_4, s_X2_sinks_4, f_X2_isSink, a10, e1, hz, e10, eq_self, iL, iT, iE, iN, iZ, i0, cl, nL, yL, nT, yT, s1_i, ad_i, z0, c0, la_1, la_2, la_11, la_12, la_21, la_22, la_27, la_54, la_10, la_243, ml_4, ml_6, ml_27, ml_10, ml_3, false_or, or_false, true_or, or_true, or_self, if_false, if_true, not_true, not_false_iff, bs, lt_p]
    · simp (disch := omega) only [ef_X2_sinks_4, s_X2_sinks_4, f_X2_isSink, a10, e1, hz, eq_self, iL, iT, iE, iN, iZ, i0, cl, nL, yL, nT, yT, s1_i, ad_i, z0, c0, la_1, la_2, la_11, la_12, la_21, la_22, la_27, la_54, la_10, la_243, ml_4, ml_6, ml_27, ml_10, ml_3, false_or, or_false, true_or, or_true, or_self, if_false, if_true, not_true, not_false_iff, bs, lt_p]
  · have a10 : M 1 0 = nI n := hq.1
    simp (disch := omega) only [ef_X2_sinks_4, s_X2_sinks_4, a10, iL, iT, iE, iN, iZ, i0, cl, nL, yL, nT, yT, s1_i, ad_i, z0, c0, la_1, la_2, la_11, la_12, la_21, la_22, la_27, la_54, la_10, la_243, ml_4, ml_6, ml_27, ml_10, ml_3, false_or, or_false, true_or, or_true, or_self, if_false, if_true, not_true, not_false_iff, bs, lt_p]
theorem x2_sources (hq : CQ M 1 n A x) (hA : OKA n A) (hn : n ≤ 6) : f_X2_sources 1 M = some (bits n (cin A)) := by
  refine loop_u (fun m (v : Int32) j => f_X2_sources_4 1 M (fun i1 _ => some i1) m v (nI j)) (fun v => some v) n (fun p s => if cin A p = 0 then s ||| (1 <<< (nI p &&& 31)) else s) 0 (fun m j v hj => ?_) (fun m v => ?_) FU (FU_gt (by omega))
  · have a10 : M 1 0 = nI n := hq.1
    have e1 : f_X2_coming 1 (nI j) M = some (cin A j) := x2_coming hq hA hn j hj
    by_cases hz : cin A j = 0
    · simp (disch := omega) only [ef_X2_sources_4, s_X2_sources_4, f_X2_isSource, a10, e1, hz, e10, eq_self, iL, iT, iE, iN, iZ, i0, cl, nL, yL, nT, yT, s1_i, ad_i, z0, c0, la_1, la_2, la_11, la_12, la_21, la_22, la_27, la_54, la_10, la_243, ml_4, ml_6, ml_27, ml_10, ml_3, false_or, or_false, true_or, or_true, or_self, if_false, if_true, not_true, not_false_iff, bs, lt_p]
    · simp (disch := omega) only [ef_X2_sources_4, s_X2_sources_4, f_X2_isSource, a10, e1, hz, eq_self, iL, iT, iE, iN, iZ, i0, cl, nL, yL, nT, yT, s1_i, ad_i, z0, c0, la_1, la_2, la_11, la_12, la_21, la_22, la_27, la_54, la_10, la_243, ml_4, ml_6, ml_27, ml_10, ml_3, false_or, or_false, true_or, or_true, or_self, if_false, if_true, not_true, not_false_iff, bs, lt_p]
  · have a10 : M 1 0 = nI n := hq.1
    simp (disch := omega) only [ef_X2_sources_4, s_X2_sources_4, a10, iL, iT, iE, iN, iZ, i0, cl, nL, yL, nT, yT, s1_i, ad_i, z0, c0, la_1, la_2, la_11, la_12, la_21, la_22, la_27, la_54, la_10, la_243, ml_4, ml_6, ml_27, ml_10, ml_3, false_or, or_false, true_or, or_true, or_self, if_false, if_true, not_true, not_false_iff, bs, lt_p]
theorem x8_ends (hp : M 176 0 = nI n) (hq : RQ (M 177) 0 A x) (hA : OKA n A) (hn : n ≤ 6) (b : Bool) : f_X8_ends (if b then 1 else 0) M = some (bits n (if b then cou A else cin A)) := by
  refine loop_u (fun m (v : Int32) j => f_X8_ends_4 (if b then 1 else 0) M (fun i1 _ => some i1) m v (nI j)) (fun v => some v) n (fun p s => if (if b then cou A else cin A) p = 0 then s ||| (1 <<< (nI p &&& 31)) else s) 0 (fun m j v hj => ?_) (fun m v => ?_) FU (FU_gt (by omega))
  · have e1 := x8_goes hq hA hn j hj
    have e2 := x8_comes hq hA hn j hj
    cases b with
    | true =>
      by_cases hz : cou A j = 0
      · simp (disch := omega) only [ef_X8_ends_4, s_X8_ends_4, hp, e10, e1, hz, eq_self, iL, iT, iE, iN, iZ, i0, cl, nL, yL, nT, yT, s1_i, ad_i, z0, c0, la_1, la_2, la_11, la_12, la_21, la_22, la_27, la_54, la_10, la_243, ml_4, ml_6, ml_27, ml_10, ml_3, false_or, or_false, true_or, or_true, or_self, if_false, if_true, not_true, not_false_iff, bs, lt_p]
      · simp (disch := omega) only [ef_X8_ends_4, s_X8_ends_4, hp, e10, e1, hz, eq_self, Int32_or_zero, iL, iT, iE, iN, iZ, i0, cl, nL, yL, nT, yT, s1_i, ad_i, z0, c0, la_1, la_2, la_11, la_12, la_21, la_22, la_27, la_54, la_10, la_243, ml_4, ml_6, ml_27, ml_10, ml_3, false_or, or_false, true_or, or_true, or_self, if_false, if_true, not_true, not_false_iff, bs, lt_p]
    | false =>
      by_cases hz : cin A j = 0
      · simp (disch := omega) only [ef_X8_ends_4, s_X8_ends_4, hp, Bool.false_eq_true, e2, hz, eq_self, iL, iT, iE, iN, iZ, i0, cl, nL, yL, nT, yT, s1_i, ad_i, z0, c0, la_1, la_2, la_11, la_12, la_21, la_22, la_27, la_54, la_10, la_243, ml_4, ml_6, ml_27, ml_10, ml_3, false_or, or_false, true_or, or_true, or_self, if_false, if_true, not_true, not_false_iff, bs, lt_p]
      · simp (disch := omega) only [ef_X8_ends_4, s_X8_ends_4, hp, Bool.false_eq_true, e2, hz, eq_self, Int32_or_zero, iL, iT, iE, iN, iZ, i0, cl, nL, yL, nT, yT, s1_i, ad_i, z0, c0, la_1, la_2, la_11, la_12, la_21, la_22, la_27, la_54, la_10, la_243, ml_4, ml_6, ml_27, ml_10, ml_3, false_or, or_false, true_or, or_true, or_self, if_false, if_true, not_true, not_false_iff, bs, lt_p]
  · simp (disch := omega) only [ef_X8_ends_4, s_X8_ends_4, hp, iL, iT, iE, iN, iZ, i0, cl, nL, yL, nT, yT, s1_i, ad_i, z0, c0, la_1, la_2, la_11, la_12, la_21, la_22, la_27, la_54, la_10, la_243, ml_4, ml_6, ml_27, ml_10, ml_3, false_or, or_false, true_or, or_true, or_self, if_false, if_true, not_true, not_false_iff, bs, lt_p]
/-- all ways -/
def tot (n : Nat) (W : Nat → Nat → Int32) (p : Nat) : Int32 := fo (fun q s => s + W p q) n 0
def all2 (n : Nat) (W : Nat → Nat → Int32) : Int32 := fo (fun p s => s + tot n W p) n 0
theorem x6_allPaths (hn : n ≤ 6) {W : Nat → Nat → Int32} (hw : ∀ p, p < n → ∀ q, q < n → M (51 + p) q = W p q) : f_X6_allPaths (nI n) M = some (all2 n W) := by
  have ht : ∀ p, p < n → f_X7_totalOf (51 + p) (nI n) M = some (tot n W p) := fun p hp => by
    refine loop_u (fun m (v : Int32) j => f_X7_totalOf_4 (51 + p) (nI n) M (fun i1 _ => some i1) m v (nI j)) (fun v => some v) n (fun q s => s + W p q) 0 (fun m j v hj => ?_) (fun m v => ?_) FU (FU_gt (by omega))
    · simp (disch := omega) only [ef_X7_totalOf_4, s_X7_totalOf_4, hw p hp j hj, iL, iT, iE, iN, iZ, i0, cl, nL, yL, nT, yT, s1_i, ad_i, z0, c0, la_1, la_2, la_11, la_12, la_21, la_22, la_27, la_54, la_10, la_243, ml_4, ml_6, ml_27, ml_10, ml_3, false_or, or_false, true_or, or_true, or_self, if_false, if_true, not_true, not_false_iff, bs, lt_p]
    · simp (disch := omega) only [ef_X7_totalOf_4, s_X7_totalOf_4, iL, iT, iE, iN, iZ, i0, cl, nL, yL, nT, yT, s1_i, ad_i, z0, c0, la_1, la_2, la_11, la_12, la_21, la_22, la_27, la_54, la_10, la_243, ml_4, ml_6, ml_27, ml_10, ml_3, false_or, or_false, true_or, or_true, or_self, if_false, if_true, not_true, not_false_iff, bs, lt_p]
  refine loop_u (fun m (v : Int32) j => f_X6_allPaths_4 (nI n) M (fun i1 _ => some i1) m v (nI j)) (fun v => some v) n (fun p s => s + tot n W p) 0 (fun m j v hj => ?_) (fun m v => ?_) FU (FU_gt (by omega))
  · simp (disch := omega) only [ef_X6_allPaths_4, s_X6_allPaths_4, ht j hj, iL, iT, iE, iN, iZ, i0, cl, nL, yL, nT, yT, s1_i, ad_i, z0, c0, la_1, la_2, la_11, la_12, la_21, la_22, la_27, la_54, la_10, la_243, ml_4, ml_6, ml_27, ml_10, ml_3, false_or, or_false, true_or, or_true, or_self, if_false, if_true, not_true, not_false_iff, bs, lt_p]
  · simp (disch := omega) only [ef_X6_allPaths_4, s_X6_allPaths_4, iL, iT, iE, iN, iZ, i0, cl, nL, yL, nT, yT, s1_i, ad_i, z0, c0, la_1, la_2, la_11, la_12, la_21, la_22, la_27, la_54, la_10, la_243, ml_4, ml_6, ml_27, ml_10, ml_3, false_or, or_false, true_or, or_true, or_self, if_false, if_true, not_true, not_false_iff, bs, lt_p]
theorem x8_allWays (hp : M 176 0 = nI n) (hn : n ≤ 6) {W : Nat → Nat → Int32} (hw : ∀ p, p < n → ∀ q, q < n → M 183 (6 * p + q) = W p q) : f_X8_allWays M = some (all2 n W) := by
  have h := loop_u (fun m (v : Int32) j => f_X8_allWays_4 M (fun i1 _ => some i1) m v (nI j)) (fun v => some v) 36 (fun k s => if k / 6 < n ∧ k % 6 < n then s + M 183 k else s) 0 (fun m j v hj => ?_) (fun m v => ?_) FU (FU_gt (by omega))
  · refine Eq.trans h ?_
    congr 1
    have hin : ∀ p, p < 6 → ∀ q, q ≤ 6 → fo (fun k s => if k / 6 < n ∧ k % 6 < n then s + M 183 k else s) (6 * p + q) 0 = fo (fun k s => if k / 6 < n ∧ k % 6 < n then s + M 183 k else s) (6 * p) 0 + (if p < n then fo (fun q s => s + W p q) (min q n) 0 else 0) := by
      intro p hp6 q
      induction q with
      | zero =>
        intro _
        rw [Nat.add_zero, show min 0 n = 0 by omega]
        show _ = _ + (if p < n then (0 : Int32) else 0)
        rw [ite_self, Int32.add_zero]
      | succ q ih =>
        intro hq
        rw [← Nat.add_assoc, fo_s, ih (by omega), show (6 * p + q) / 6 = p by omega, show (6 * p + q) % 6 = q by omega]
        by_cases hpn : p < n
        · by_cases hqn : q < n
          · rw [if_pos ⟨hpn, hqn⟩, if_pos hpn, if_pos hpn, show min (q + 1) n = q + 1 by omega, show min q n = q by omega, fo_s, Int32.add_assoc, hw p hpn q hqn]
          · rw [if_neg (fun z => hqn z.2), show min (q + 1) n = n by omega, show min q n = n by omega]
        · rw [if_neg (fun z => hpn z.1), if_neg hpn, if_neg hpn]
    have hout : ∀ p, p ≤ 6 → fo (fun k s => if k / 6 < n ∧ k % 6 < n then s + M 183 k else s) (6 * p) 0 = fo (fun p s => s + (if p < n then tot n W p else 0)) p 0 := by
      intro p
      induction p with
      | zero => intro _; rfl
      | succ p ih =>
        intro hp6
        rw [show 6 * (p + 1) = 6 * p + 6 by omega, hin p (by omega) 6 (by omega), ih (by omega), fo_s, show min 6 n = n by omega]
        rfl
    rw [show 36 = 6 * 6 by omega, hout 6 (by omega)]
    have htl : ∀ d, n + d ≤ 6 → fo (fun p s => s + (if p < n then tot n W p else 0)) (n + d) 0 = all2 n W := by
      intro d
      induction d with
      | zero =>
        intro _
        exact fo_congr (fun k hk b => by rw [if_pos (show k < n from hk)])
      | succ d ih =>
        intro hd
        rw [← Nat.add_assoc, fo_s, ih (by omega), if_neg (by omega), Int32.add_zero]
    have := htl (6 - n) (by omega)
    rw [show n + (6 - n) = 6 by omega] at this
    exact this
  · have e6 : (6 : Int32) = nI 6 := rfl
    have d1 : nI j / nI 6 = nI (j / 6) := dv_i (by omega) (by omega)
    have d2 : nI j - nI (j / 6) * nI 6 = nI (j % 6) := by rw [← d1]; exact md_i (by omega) (by omega)
    have hdj : j / 6 < 6 := by omega
    show f_X8_allWays_4 M (fun i1 _ => some i1) (m + 1) v (nI j) = _
    rw [ef_X8_allWays_4]
    unfold s_X8_allWays_4
    rw [if_neg (fun z => (e36y hj).mp z), hp, e6, d1, d2]
    by_cases c1 : j / 6 < n
    · rw [if_neg (by rw [iL (by omega) (by omega)]; omega)]
      by_cases c2 : j % 6 < n
      · rw [if_neg (by rw [iL (by omega) (by omega)]; omega), if_neg (nI_in hj (by omega)), cl (by omega), lt_e, s1_i, if_pos ⟨c1, c2⟩]
      · rw [if_pos (by rw [iL (by omega) (by omega)]; omega), lt_e, s1_i, if_neg (fun z => c2 z.2), Int32.add_zero]
    · rw [if_pos (by rw [iL (by omega) (by omega)]; omega), lt_e, s1_i, if_neg (fun z => c1 z.1), Int32.add_zero]
  · simp (disch := omega) only [ef_X8_allWays_4, s_X8_allWays_4, e36n, iL, iT, iE, iN, iZ, i0, cl, nL, yL, nT, yT, s1_i, ad_i, z0, c0, la_1, la_2, la_11, la_12, la_21, la_22, la_27, la_54, la_10, la_243, ml_4, ml_6, ml_27, ml_10, ml_3, false_or, or_false, true_or, or_true, or_self, if_false, if_true, not_true, not_false_iff, bs, lt_p]
/-- rows of all shelves -/
def szs (S : Nat → Option (List (Nat × Row))) (s : Nat) : Nat := match S s with
  | none => 0
  | some l => l.length
theorem e3y {i : Nat} (h : i < 3) : (3 : Int32) ≤ nI i ↔ False := by rw [show (3 : Int32) = nI 3 from rfl, iL (by omega) (by omega)]; exact iff_of_false (by omega) id
theorem e3n : (3 : Int32) ≤ nI 3 ↔ True := iff_of_true (by decide) trivial
theorem x7_rows (hS : CS M S) : f_X7_rowsOfAllShelves M = some (fo (fun s v => v + nI (szs S s)) 3 0) := by
  refine loop_u (fun m (v : Int32) j => f_X7_rowsOfAllShelves_4 M (fun i1 _ => some i1) m v (nI j)) (fun v => some v) 3 (fun s v => v + nI (szs S s)) 0 (fun m j v hj => ?_) (fun m v => ?_) FU (FU_gt (by omega))
  · have e : M (155 + 7 * j) 1 = nI (szs S j) := by
      unfold szs
      rcases hS j hj with ⟨h1, _, h3⟩ | ⟨l, h1, _, h3, _⟩
      · rw [h1]; exact h3
      · rw [h1]; exact h3
    simp (disch := omega) only [ef_X7_rowsOfAllShelves_4, s_X7_rowsOfAllShelves_4, e3y hj, e, iL, iT, iE, iN, iZ, i0, cl, nL, yL, nT, yT, s1_i, ad_i, z0, c0, la_1, la_2, la_11, la_12, la_21, la_22, la_27, la_54, la_10, la_243, ml_4, ml_6, ml_27, ml_10, ml_3, false_or, or_false, true_or, or_true, or_self, if_false, if_true, not_true, not_false_iff, bs, lt_p]
  · simp (disch := omega) only [ef_X7_rowsOfAllShelves_4, s_X7_rowsOfAllShelves_4, e3n, iL, iT, iE, iN, iZ, i0, cl, nL, yL, nT, yT, s1_i, ad_i, z0, c0, la_1, la_2, la_11, la_12, la_21, la_22, la_27, la_54, la_10, la_243, ml_4, ml_6, ml_27, ml_10, ml_3, false_or, or_false, true_or, or_true, or_self, if_false, if_true, not_true, not_false_iff, bs, lt_p]
theorem x8_rows (hS : MS M S) (hl : ∀ s l, s < 3 → S s = some l → l.length ≤ 4) : f_X8_allRows M = some (fo (fun s v => v + nI (szs S s)) 3 0) := by
  refine loop_u (fun m (v : Int32) j => f_X8_allRows_4 M (fun i1 _ => some i1) m v (nI j)) (fun v => some v) 3 (fun s v => v + nI (szs S s)) 0 (fun m j v hj => ?_) (fun m v => ?_) FU (FU_gt (by omega))
  · rcases hS j hj with ⟨h1, h2⟩ | ⟨l, h1, h2, _⟩
    · have e : szs S j = 0 := by unfold szs; rw [h1]
      have z : nI 0 = 0 := rfl
      simp (disch := omega) only [ef_X8_allRows_4, s_X8_allRows_4, e3y hj, h2, n1m, e, z, iL, iT, iE, iN, iZ, i0, cl, nL, yL, nT, yT, s1_i, ad_i, z0, c0, la_1, la_2, la_11, la_12, la_21, la_22, la_27, la_54, la_10, la_243, ml_4, ml_6, ml_27, ml_10, ml_3, false_or, or_false, true_or, or_true, or_self, if_false, if_true, not_true, not_false_iff, bs, lt_p]
    · have e : szs S j = l.length := by unfold szs; rw [h1]
      have := hl j l hj h1
      simp (disch := omega) only [ef_X8_allRows_4, s_X8_allRows_4, e3y hj, h2, e, iL, iT, iE, iN, iZ, i0, cl, nL, yL, nT, yT, s1_i, ad_i, z0, c0, la_1, la_2, la_11, la_12, la_21, la_22, la_27, la_54, la_10, la_243, ml_4, ml_6, ml_27, ml_10, ml_3, false_or, or_false, true_or, or_true, or_self, if_false, if_true, not_true, not_false_iff, bs, lt_p]
  · simp (disch := omega) only [ef_X8_allRows_4, s_X8_allRows_4, e3n, iL, iT, iE, iN, iZ, i0, cl, nL, yL, nT, yT, s1_i, ad_i, z0, c0, la_1, la_2, la_11, la_12, la_21, la_22, la_27, la_54, la_10, la_243, ml_4, ml_6, ml_27, ml_10, ml_3, false_or, or_false, true_or, or_true, or_self, if_false, if_true, not_true, not_false_iff, bs, lt_p]
theorem x7_tits (hq : CQ M 1 n A x) (hA : OKA n A) (hn : n ≤ 6) : f_X2_tits 1 M = some (eul n A x x) := by
  have e : f_X2_eulerOf 1 4 4 M = some (eul n A x x) := by
    rw [x2_eulerOf hq hA hn, eul_congr hA (fun k hk => hq.2.2.2 k (by omega)) (fun k hk => hq.2.2.2 k (by omega))]
  unfold f_X2_tits
  rw [e, bs]
theorem x8_tits (hp : M 176 0 = nI n) (hq : RQ (M 177) 0 A x) (hA : OKA n A) (hn : n ≤ 6) : f_X8_tits M = some (eul n A x x) := by
  have hx : ∀ k, k < n → M 177 (21 + k) = x k := fun k hk => by have := hq.2.2 k (by omega); rw [Nat.zero_add] at this; exact this
  have e : f_X8_form 177 21 177 21 M = some (eul n A x x) := by
    have e2 := x8_form hp hq hA hn 177 177 21 21 (by decide) (by decide) (by decide) (by decide)
    rw [eul_congr hA hx hx] at e2
    exact e2
  unfold f_X8_tits
  rw [e, bs]
theorem x2_hangs (hq : CQ M 1 n A x) (hA : OKA n A) (hn : n ≤ 6) : f_X2_hangsTogether 1 M = some (if rch true A n 1 = 2 ^ n - 1 then 1 else 0) := by
  have h1 := x2_reached hq hA hn true 0 (by omega)
  have h1 : f_X2_reached 1 0 1 M = some (nI (rch true A n 1)) := h1
  have hlt := rch_lt (ew := true) hA hn (b := 1) (by omega) n
  have hpn : 2 ^ n - 1 < 64 := (show ∀ n, n ≤ 6 → 2 ^ n - 1 < 64 by decide) n hn
  have a10 : M 1 0 = nI n := hq.1
  unfold f_X2_hangsTogether
  rw [h1, bs, a10, bL (by omega)]
  by_cases hc : rch true A n 1 = 2 ^ n - 1
  · rw [if_pos (by rw [hc]), if_pos hc]
  · rw [if_neg (fun z => hc ((iE (by omega) (by omega)).mp z)), if_neg hc]
theorem op_count (h : Inv M) (c : Int32) : ∃ r M1 M2, f_X7_count c M = some (r, M1) ∧ f_X8_count c M1 = some (r, M2) ∧ Inv M2 := by
  obtain ⟨n, A, x, P, K, T, S, w, hc, hm⟩ := id h
  have hn6 := w.1.2
  have hA := w.2.1
  by_cases c0 : c = 0
  · refine op_kn (f := f_X7_count c) (g := f_X8_count c) w hm (nI n) ⟨M, ?_, hc, fun _ _ => rfl⟩ (fun M => rfl) (fun M2 hm2 hk => ?_)
    · have a10 : M 1 0 = nI n := hc.1.1
      simp only [f_X7_count, eq_true c0, if_true, a10]
    · simp only [eq_true c0, if_true, hm2.1]
  by_cases c1 : c = 1
  · refine op_kn (f := f_X7_count c) (g := f_X8_count c) w hm (nI A.length) ⟨M, ?_, hc, fun _ _ => rfl⟩ (fun M => rfl) (fun M2 hm2 hk => ?_)
    · have a11 : M 1 1 = nI A.length := hc.1.2.1
      simp only [f_X7_count, c0, eq_true c1, if_true, if_false, a11]
    · have e := hm2.2.1.1
      have e00 : (0 : Int32).toNatClampNeg = 0 := rfl
      simp (disch := omega) only [c0, eq_true c1, e00, e, iL, iT, iE, iN, iZ, i0, cl, nL, yL, nT, yT, s1_i, ad_i, z0, c0, la_1, la_2, la_11, la_12, la_21, la_22, la_27, la_54, la_10, la_243, ml_4, ml_6, ml_27, ml_10, ml_3, false_or, or_false, true_or, or_true, or_self, if_false, if_true, not_true, not_false_iff, bs, lt_p]
  by_cases c2 : c = 2
  · refine op_kn (f := f_X7_count c) (g := f_X8_count c) w hm (eul n A x x) ⟨M, ?_, hc, fun _ _ => rfl⟩ (fun M => rfl) (fun M2 hm2 hk => ?_)
    · simp only [f_X7_count, c0, c1, eq_true c2, if_true, if_false, x7_tits hc.1 hA hn6, bs]
    · simp only [c0, c1, eq_true c2, if_true, if_false, x8_tits hm2.1 hm2.2.1 hA hn6, bs]
  by_cases c3 : c = 3
  · refine op_kn (f := f_X7_count c) (g := f_X8_count c) w hm (eul n A x x - 1) ⟨M, ?_, hc, fun _ _ => rfl⟩ (fun M => rfl) (fun M2 hm2 hk => ?_)
    · simp only [f_X7_count, c0, c1, c2, eq_true c3, if_true, if_false, x7_tits hc.1 hA hn6, bs]
    · simp only [c0, c1, c2, eq_true c3, if_true, if_false, x8_tits hm2.1 hm2.2.1 hA hn6, bs]
  by_cases c4' : c = 4
  · obtain ⟨M1, a1, a2, a3, a4⟩ := x7_findRoots w hc
    cases hf : fnt n A with
    | false =>
      refine op_kn (f := f_X7_count c) (g := f_X8_count c) w hm (-1000000) ⟨M1, ?_, a2, fun b hb => a4 b (by omega) (by omega)⟩ (fun M => rfl) (fun M2 hm2 hk => ?_)
      · simp only [f_X7_count, c0, c1, c2, c3, eq_true c4', if_true, if_false, a1, bs, a3.no hf]
      · simp only [c0, c1, c2, c3, eq_true c4', if_true, if_false, hk.no hf, n1m]
    | true =>
      have hL := fnt_36 hA hn6 hf
      have z0 : (0 : Int32) ≤ nI (rts n A).length := nI_pos' (by omega)
      refine op_kn (f := f_X7_count c) (g := f_X8_count c) w hm (nI (rts n A).length) ⟨M1, ?_, a2, fun b hb => a4 b (by omega) (by omega)⟩ (fun M => rfl) (fun M2 hm2 hk => ?_)
      · obtain ⟨_, q1, q2, q3⟩ := a3.yes hf
        simp only [f_X7_count, c0, c1, c2, c3, eq_true c4', if_true, if_false, a1, bs, q1, q2, e10]
      · obtain ⟨_, q1, q3⟩ := hk.yes hf
        simp only [c0, c1, c2, c3, eq_true c4', if_true, if_false, q1, z0]
  by_cases c5 : c = 5
  · obtain ⟨M1, a1, a2, a3, a4⟩ := x7_findRoots w hc
    cases hf : fnt n A with
    | false =>
      refine op_kn (f := f_X7_count c) (g := f_X8_count c) w hm (-1000000) ⟨M1, ?_, a2, fun b hb => a4 b (by omega) (by omega)⟩ (fun M => rfl) (fun M2 hm2 hk => ?_)
      · simp only [f_X7_count, c0, c1, c2, c3, c4', eq_true c5, if_true, if_false, a1, bs, a3.no hf]
      · simp only [c0, c1, c2, c3, c4', eq_true c5, if_true, if_false, hk.no hf, n1m]
    | true =>
      have hL := fnt_36 hA hn6 hf
      have z0 : (0 : Int32) ≤ nI (rts n A).length := nI_pos' (by omega)
      refine op_kn (f := f_X7_count c) (g := f_X8_count c) w hm (nI (fo (fun t m => max m (kst n A t)) (rts n A).length 0)) ⟨M1, ?_, a2, fun b hb => a4 b (by omega) (by omega)⟩ (fun M => rfl) (fun M2 hm2 hk => ?_)
      · obtain ⟨_, q1, q2, q3⟩ := a3.yes hf
        have hd := x3_deepest (M := M1) hL q2 (k := kst n A) (fun t ht => by
          obtain ⟨k, e, p, s1, s2, s3, _⟩ := (q3 t ht).2.2.2.1
          rw [kst_ok hA hn6 s1]
          exact ⟨s3, s2⟩)
        simp only [f_X7_count, c0, c1, c2, c3, c4', eq_true c5, if_true, if_false, a1, bs, q1, hd, e10]
      · obtain ⟨_, q1, q3⟩ := hk.yes hf
        have hd := x8_deepest (M := M2) hL q1 (k := kst n A) (fun t ht => by
          obtain ⟨k, e, k1, k2, k3⟩ := steps_ex hA hn6 hf ht
          rw [kst_ok hA hn6 k1]
          exact ⟨by omega, x8_steps hA hn6 hL (fun s hs => (q3 s hs).2) k1 ht (by omega)⟩)
        simp only [c0, c1, c2, c3, c4', eq_true c5, if_true, if_false, q1, z0, hd, bs]
  by_cases c6 : c = 6
  · refine op_kn (f := f_X7_count c) (g := f_X8_count c) w hm (bits n (cou A)) ⟨M, ?_, hc, fun _ _ => rfl⟩ (fun M => rfl) (fun M2 hm2 hk => ?_)
    · simp only [f_X7_count, c0, c1, c2, c3, c4', c5, eq_true c6, if_true, if_false, x2_sinks hc.1 hA hn6, bs]
    · have e : f_X8_ends 1 M2 = some (bits n (cou A)) := x8_ends hm2.1 hm2.2.1 hA hn6 true
      simp only [c0, c1, c2, c3, c4', c5, eq_true c6, if_true, if_false, e, bs]
  by_cases c7 : c = 7
  · refine op_kn (f := f_X7_count c) (g := f_X8_count c) w hm (bits n (cin A)) ⟨M, ?_, hc, fun _ _ => rfl⟩ (fun M => rfl) (fun M2 hm2 hk => ?_)
    · simp only [f_X7_count, c0, c1, c2, c3, c4', c5, c6, eq_true c7, if_true, if_false, x2_sources hc.1 hA hn6, bs]
    · have e : f_X8_ends 0 M2 = some (bits n (cin A)) := x8_ends hm2.1 hm2.2.1 hA hn6 false
      simp only [c0, c1, c2, c3, c4', c5, c6, eq_true c7, if_true, if_false, e, bs]
  by_cases c8 : c = 8
  · obtain ⟨M1, a1, a2, a3, a4, a5, a6⟩ := x7_findWays w hc
    refine op_kn (f := f_X7_count c) (g := f_X8_count c) w hm (all2 n (pth A)) ⟨M1, ?_, a2, fun b hb => a5 b (by omega) (by omega)⟩ (fun M => rfl) (fun M2 hm2 hk => ?_)
    · have a10 : M1 1 0 = nI n := a2.1.1
      simp only [f_X7_count, c0, c1, c2, c3, c4', c5, c6, c7, eq_true c8, if_true, if_false, a1, a10, x6_allPaths (M := M1) hn6 a4.2.2, bs]
    · simp only [c0, c1, c2, c3, c4', c5, c6, c7, eq_true c8, if_true, if_false, x8_allWays (M := M2) hm2.1 hn6 hk.1, bs]
  by_cases c9 : c = 9
  · have hsat := (rch_sat (ew := true) hA hn6 (b := 1) (Nat.one_lt_two_pow (by have := w.1.1; omega)) (by omega)).1
    refine op_kn (f := f_X7_count c) (g := f_X8_count c) w hm (if rch true A n 1 = 2 ^ n - 1 then 1 else 0) ⟨M, ?_, hc, fun _ _ => rfl⟩ (fun M => rfl) (fun M2 hm2 hk => ?_)
    · simp only [f_X7_count, c0, c1, c2, c3, c4', c5, c6, c7, c8, eq_true c9, if_true, if_false, x2_hangs hc.1 hA hn6, bs]
      by_cases hh : rch true A n 1 = 2 ^ n - 1
      · rw [if_pos hh, if_neg e10]
      · rw [if_neg hh, if_pos rfl]
    · simp only [c0, c1, c2, c3, c4', c5, c6, c7, c8, eq_true c9, if_true, if_false, x8_hangs hm2.1 hm2.2.1 hA hn6, bs, hsat]
  by_cases c10 : c = 10
  · refine op_kn (f := f_X7_count c) (g := f_X8_count c) w hm (fo (fun s v => v + nI (szs S s)) 3 0) ⟨M, ?_, hc, fun _ _ => rfl⟩ (fun M => rfl) (fun M2 hm2 hk => ?_)
    · simp only [f_X7_count, c0, c1, c2, c3, c4', c5, c6, c7, c8, c9, eq_true c10, if_true, if_false, x7_rows hc.2.2.2.2.1, bs]
    · simp only [c0, c1, c2, c3, c4', c5, c6, c7, c8, c9, eq_true c10, if_true, if_false, x8_rows hm2.2.2.2.2.2.1 (fun s l hs hl => (w.2.2.2.2.2.2 s l hs hl).1), bs]
  by_cases c11 : c = 11
  · refine op_kn (f := f_X7_count c) (g := f_X8_count c) w hm (nI P.length) ⟨M, ?_, hc, fun _ _ => rfl⟩ (fun M => rfl) (fun M2 hm2 hk => ?_)
    · have e := hc.2.1.1
      simp only [f_X7_count, c0, c1, c2, c3, c4', c5, c6, c7, c8, c9, c10, eq_true c11, if_true, if_false, e]
    · have e := hm2.2.2.1.1
      simp only [c0, c1, c2, c3, c4', c5, c6, c7, c8, c9, c10, eq_true c11, if_true, if_false, e]
  by_cases c12 : c = 12
  · refine op_kn (f := f_X7_count c) (g := f_X8_count c) w hm (nI T.length) ⟨M, ?_, hc, fun _ _ => rfl⟩ (fun M => rfl) (fun M2 hm2 hk => ?_)
    · have e := hc.2.2.2.1.1
      simp only [f_X7_count, c0, c1, c2, c3, c4', c5, c6, c7, c8, c9, c10, c11, eq_true c12, if_true, if_false, e]
    · have e := hm2.2.2.2.2.1.1
      simp only [c0, c1, c2, c3, c4', c5, c6, c7, c8, c9, c10, c11, eq_true c12, if_true, if_false, e]
  refine op_kn (f := f_X7_count c) (g := f_X8_count c) w hm (-1000002) ⟨M, ?_, hc, fun _ _ => rfl⟩ (fun M => rfl) (fun M2 hm2 hk => ?_)
  · simp only [f_X7_count, c0, c1, c2, c3, c4', c5, c6, c7, c8, c9, c10, c11, c12, if_false]
  · simp only [c0, c1, c2, c3, c4', c5, c6, c7, c8, c9, c10, c11, c12, if_false]
end COUNT

/-! ===== the search goes through, or the kind is not finite ===== -/
def c4 (n c : Nat) : Nat := enc 4 n (dx c)
section SEARCH2
variable {M M0 M' : Mem} {n : Nat} {A : Arr} {x : Row}
theorem FG.dig3 (hA : OKA n A) (hn : n ≤ 6) (h : fnt n A = true) {F : List Nat} (hF : FG n A F) {c : Nat} (hc : c ∈ F) : ∀ i, i < n → dx c i < 4 := fun i hi => by
  have := fnt_3 hA hn h (fun i _ => zr_nn (d := dx c) i) (hF.2.2 c hc).2.2.2 i hi
  unfold zr at this
  omega
theorem FG.c4_dgs (hA : OKA n A) (hn : n ≤ 6) (h : fnt n A = true) {F : List Nat} (hF : FG n A F) {c : Nat} (hc : c ∈ F) : ∀ i, i < n → dgs 4 n (c4 n c) i = dx c i := dgs_enc (by omega) n (dx c) (hF.dig3 hA hn h hc)
theorem FG.c4_rts (hA : OKA n A) (hn : n ≤ 6) (h : fnt n A = true) {F : List Nat} (hF : FG n A F) {c : Nat} (hc : c ∈ F) : c4 n c ∈ rts n A := by
  rw [mem_rts hA hn]
  refine ⟨enc_lt (hF.dig3 hA hn h hc), ?_⟩
  rw [← (hF.2.2 c hc).2.2.2]
  exact bb_congr (fun i hi => by unfold zr; rw [hF.c4_dgs hA hn h hc i hi]) (fun i hi => by unfold zr; rw [hF.c4_dgs hA hn h hc i hi])
theorem FG.c4_inj (hA : OKA n A) (hn : n ≤ 6) (h : fnt n A = true) {F : List Nat} (hF : FG n A F) {a b : Nat} (ha : a ∈ F) (hb : b ∈ F) (e : c4 n a = c4 n b) : a = b := by
  obtain ⟨a1, a2, a3, a4⟩ := hF.2.2 a ha
  obtain ⟨b1, b2, b3, b4⟩ := hF.2.2 b hb
  refine dgs_inj (b := 16) (n := 6) (by omega) a1 b1 (fun i hi => ?_)
  by_cases hin : i < n
  · have h1 := hF.c4_dgs hA hn h ha i hin
    have h2 := hF.c4_dgs hA hn h hb i hin
    rw [e, h2] at h1
    exact h1.symm
  · have h1 := a3 i (by omega) hi
    have h2 := b3 i (by omega) hi
    exact h1.trans h2.symm
theorem FG.nd (hA : OKA n A) (hn : n ≤ 6) (h : fnt n A = true) {F : List Nat} (hF : FG n A F) : (F.map (c4 n)).Nodup := map_nd hF.1 (fun _ ha _ hb e => hF.c4_inj hA hn h ha hb e)
theorem FG.len (hA : OKA n A) (hn : n ≤ 6) (h : fnt n A = true) {F : List Nat} (hF : FG n A F) : F.length ≤ 36 := by
  have h1 := nd_len (hF.nd hA hn h) (l2 := rts n A) (fun a ha => by
    obtain ⟨c, hc, rfl⟩ := List.mem_map.mp ha
    exact hF.c4_rts hA hn h hc)
  rw [List.length_map] at h1
  exact Nat.le_trans h1 (fnt_36 hA hn h)
theorem rfl_row {c p t : Nat} (hn : n ≤ 6) (hp : p < n) (ht : t < 16) (e : rfl_ n A c p = (t : Int)) : ∀ i, i < 6 → zr (dx (stc c p t)) i = ua (zr (dx c)) p (- bg n (gA A) (zr (dx c)) p) i := fun i hi => by
  rw [stc_zr ht hi]
  have : (t : Int) - zr (dx c) p = - bg n (gA A) (zr (dx c)) p := by unfold rfl_ at e; omega
  rw [this]
theorem bb_rfl (hA : OKA n A) {y : Nat → Int} {p : Nat} (hp : p < n) : bb n (gA A) (ua y p (- bg n (gA A) y p)) (ua y p (- bg n (gA A) y p)) = bb n (gA A) y y := by
  rw [bb_ua hA.sym hp, Int.neg_mul, Int.neg_mul_neg]
  omega
theorem FG.rfl3 (hA : OKA n A) (hn : n ≤ 6) (h : fnt n A = true) {F : List Nat} (hF : FG n A F) {c : Nat} (hc : c ∈ F) {p : Nat} (hp : p < n) : rfl_ n A c p ≤ 9 := by
  by_cases h0 : 0 ≤ rfl_ n A c p
  · have h1 := fnt_3 hA hn h (y := ua (zr (dx c)) p (- bg n (gA A) (zr (dx c)) p)) (fun i hi => by
      by_cases hip : i = p
      · subst hip; rw [ua_s]; unfold rfl_ at h0; omega
      · rw [ua_n hip]; exact zr_nn i) (by rw [bb_rfl hA hp]; exact (hF.2.2 c hc).2.2.2) p hp
    rw [ua_s] at h1
    unfold rfl_
    omega
  · omega
/-- one more row -/
theorem FG.add (hA : OKA n A) (hn : n ≤ 6) {F : List Nat} (hF : FG n A F) {c : Nat} (hc : c ∈ F) {p t : Nat} (hp : p < n) (ht : t ≤ 9) (e : rfl_ n A c p = (t : Int)) (hnew : stc c p t ∉ F) : FG n A (F ++ [stc c p t]) := by
  obtain ⟨h1, h2, h3⟩ := hF
  refine ⟨?_, fun p hp => List.mem_append_left _ (h2 p hp), fun q hq => ?_⟩
  · rw [List.nodup_append]
    refine ⟨h1, by simp, fun a ha b hb => ?_⟩
    have : b = stc c p t := by simpa using hb
    subst this
    exact fun q => hnew (q ▸ ha)
  · rw [List.mem_append] at hq
    rcases hq with hq | hq
    · exact h3 q hq
    · have : q = stc c p t := by simpa using hq
      subst this
      obtain ⟨a1, a2, a3, a4⟩ := h3 c hc
      refine ⟨stc_lt (by omega), fun i hi => ?_, fun i h1 h2 => ?_, ?_⟩
      · rw [stc_dx (by omega) hi]
        by_cases hip : i = p
        · rw [if_pos hip]; exact ht
        · rw [if_neg hip]; exact a2 i hi
      · rw [stc_dx (by omega) h2, if_neg (by omega)]; exact a3 i h1 h2
      · rw [bb_congr (fun i hi => rfl_row hn hp (by omega) e i (by omega)) (fun i hi => rfl_row hn hp (by omega) e i (by omega)), bb_rfl hA hp]
        exact a4
def SI (M0 M : Mem) (n : Nat) (A : Arr) (F : List Nat) : Prop := FD M F ∧ FG n A F ∧ ∀ c, (c < 57 ∨ 140 < c) → M c = M0 c
def Done (n : Nat) (A : Arr) (F : List Nat) (r p : Nat) : Prop := ∀ r' c', F[r']? = some c' → ∀ p', ((r' < r ∧ p' < n) ∨ (r' = r ∧ p' < p)) → Cl1 n A F c' p'
theorem Done.more {F F2 : List Nat} {r p : Nat} (h : Done n A F r p) (hr : r < F.length) : ∀ r' c', (F ++ F2)[r']? = some c' → ∀ p', ((r' < r ∧ p' < n) ∨ (r' = r ∧ p' < p)) → Cl1 n A (F ++ F2) c' p' := by
  intro r' c' h1 p' h2 h3
  rw [List.getElem?_append_left (by omega)] at h1
  obtain ⟨k0, c2, k1, k2⟩ := h r' c' h1 p' h2 h3
  exact ⟨k0, c2, List.mem_append_left _ k1, k2⟩
theorem x3_s26 (hq : CQ M0 1 n A x) (hA : OKA n A) (hn : n ≤ 6) (kk : Int32 → Mem → Option (Int32 × Mem)) (r : Nat) : ∀ m p, p + m = n → ∀ F M, SI M0 M n A F → r < F.length → Done n A F r p → ∀ f, m < f → (∃ M', f_X3_search_26 (nI r) kk f (nI p) M = some (0, M') ∧ (∀ c, (c < 57 ∨ 140 < c) → M' c = M0 c) ∧ fnt n A = false) ∨ (∃ F' M', f_X3_search_26 (nI r) kk f (nI p) M = kk (nI n) M' ∧ SI M0 M' n A F' ∧ r < F'.length ∧ Done n A F' r n) := by
  intro m
  induction m with
  | zero =>
    intro p hp F M hS hr hD f hf
    obtain ⟨f, rfl⟩ : ∃ f', f = f' + 1 := ⟨f - 1, by omega⟩
    have : p = n := by omega
    subst this
    refine Or.inr ⟨F, M, ?_, hS, hr, hD⟩
    have a10 : M 1 0 = nI p := by rw [hS.2.2 1 (by omega)]; exact hq.1
    simp (disch := omega) only [ef_X3_search_26, s_X3_search_26, a10, iL, iT, iE, iN, iZ, i0, cl, nL, yL, nT, yT, s1_i, ad_i, z0, c0, la_1, la_2, la_11, la_12, la_21, la_22, la_27, la_54, la_10, la_243, ml_4, ml_6, ml_27, ml_10, ml_3, false_or, or_false, true_or, or_true, or_self, if_false, if_true, not_true, not_false_iff, bs, lt_p]
  | succ m ih =>
    intro p hp F M hS hr hD f hf
    obtain ⟨f, rfl⟩ : ∃ f', f = f' + 1 := ⟨f - 1, by omega⟩
    have hpn : p < n := by omega
    have hS' := hS
    obtain ⟨s1, s2, s3⟩ := hS'
    have h36 := s1.2.1
    have hqM : CQ M 1 n A x := hq.on (fun b _ _ => s3 b (by omega))
    have a10 : M 1 0 = nI n := hqM.1
    obtain ⟨g1, g2, g3⟩ := s1.get hr
    have hc : F[r] ∈ F := List.getElem_mem hr
    obtain ⟨b1, b2, b3, b4⟩ := s2.2.2 _ hc
    have et : ∀ i, i < 6 → ti (M (101 + r)) i = zr (dx F[r]) i := fun i hi => by
      unfold ti zr
      rw [g1 i hi]
      have := dx_lt F[r] i
      exact nI_toInt (by omega)
    have e1 : f_X2_turnedAbout 1 (101 + r) (nI p) M = some (trn A (M (101 + r)) p) := x2_turnedAbout hqM hA hn (101 + r) p hpn
    have e2 : (trn A (M (101 + r)) p).toInt = rfl_ n A F[r] p := by
      rw [trn_toInt hA hn (b := 9) (by omega) (by omega) (fun i hi => by
        rw [et i (by omega)]
        have := b2 i (by omega)
        unfold zr
        omega) hpn, et p (by omega), bg_congr hpn (fun i hi => et i (by omega))]
      rfl
    generalize hv : trn A (M (101 + r)) p = v at *
    have e9 : v ≤ 9 ↔ rfl_ n A F[r] p ≤ 9 := by rw [fa_le, e2, show (9 : Int32).toInt = 9 from rfl]
    have e0 : v < 0 ↔ rfl_ n A F[r] p < 0 := by rw [fa_lt, e2, show (0 : Int32).toInt = 0 from rfl]
    by_cases h9 : rfl_ n A F[r] p ≤ 9
    · by_cases h0 : rfl_ n A F[r] p < 0
      · have hD2 : Done n A F r (p + 1) := fun r' c' q1 p' q2 q3 => by
          by_cases hh : r' = r ∧ p' = p
          · obtain ⟨rfl, rfl⟩ := hh
            rw [List.getElem?_eq_getElem hr] at q1
            cases q1
            omega
          · exact hD r' c' q1 p' (by omega) q3
        rcases ih (p + 1) (by omega) F M hS hr hD2 f (by omega) with ⟨M', k1, k2⟩ | ⟨F', M', k1, k2⟩
        · refine Or.inl ⟨M', ?_, k2⟩
          simp (disch := omega) only [ef_X3_search_26, s_X3_search_26, a10, e1, e9, e0, h9, h0, iL, iT, iE, iN, iZ, i0, cl, nL, yL, nT, yT, s1_i, ad_i, z0, c0, la_1, la_2, la_11, la_12, la_21, la_22, la_27, la_54, la_10, la_243, ml_4, ml_6, ml_27, ml_10, ml_3, false_or, or_false, true_or, or_true, or_self, if_false, if_true, not_true, not_false_iff, bs, lt_p]
          exact k1
        · refine Or.inr ⟨F', M', ?_, k2⟩
          simp (disch := omega) only [ef_X3_search_26, s_X3_search_26, a10, e1, e9, e0, h9, h0, iL, iT, iE, iN, iZ, i0, cl, nL, yL, nT, yT, s1_i, ad_i, z0, c0, la_1, la_2, la_11, la_12, la_21, la_22, la_27, la_54, la_10, la_243, ml_4, ml_6, ml_27, ml_10, ml_3, false_or, or_false, true_or, or_true, or_self, if_false, if_true, not_true, not_false_iff, bs, lt_p]
          exact k1
      · have ht : rfl_ n A F[r] p = ((rfl_ n A F[r] p).toNat : Int) := by omega
        have hvt : v = nI (rfl_ n A F[r] p).toNat := by
          rw [fa_eq, e2, nI_toInt (by omega)]
          exact ht
        have ht9 : (rfl_ n A F[r] p).toNat ≤ 9 := by omega
        have hin : ∀ F2 : List Nat, stc F[r] p (rfl_ n A F[r] p).toNat ∈ F ++ F2 → Done n A (F ++ F2) r (p + 1) := fun F2 hmem r' c' q1 p' q2 q3 => by
          by_cases hh : r' = r ∧ p' = p
          · obtain ⟨rfl, rfl⟩ := hh
            rw [List.getElem?_append_left hr, List.getElem?_eq_getElem hr] at q1
            cases q1
            exact ⟨h9, _, hmem, rfl⟩
          · exact hD.more hr r' c' q1 p' (by omega) q3
        rcases x3_takeIn s1 (fun c hc => (s2.2.2 c hc).1) (r := r) (p := p) hr (by omega) ht9 with ⟨t1, t2⟩ | ⟨t1, t2, t3⟩ | ⟨t1, t2, M2, t3, t4, t5⟩
        · have hD2 := hin [] (by rw [List.append_nil]; exact t1)
          rw [List.append_nil] at hD2
          rcases ih (p + 1) (by omega) F M hS hr hD2 f (by omega) with ⟨M', k1, k2⟩ | ⟨F', M', k1, k2⟩
          · refine Or.inl ⟨M', ?_, k2⟩
            simp (disch := omega) only [ef_X3_search_26, s_X3_search_26, a10, e1, e9, e0, h9, h0, iL, iT, iE, iN, iZ, i0, cl, nL, yL, nT, yT, s1_i, ad_i, z0, c0, la_1, la_2, la_11, la_12, la_21, la_22, la_27, la_54, la_10, la_243, ml_4, ml_6, ml_27, ml_10, ml_3, false_or, or_false, true_or, or_true, or_self, if_false, if_true, not_true, not_false_iff, bs, lt_p]
            rw [hvt, t2]
            simp only [bs, e10, if_false]
            exact k1
          · refine Or.inr ⟨F', M', ?_, k2⟩
            simp (disch := omega) only [ef_X3_search_26, s_X3_search_26, a10, e1, e9, e0, h9, h0, iL, iT, iE, iN, iZ, i0, cl, nL, yL, nT, yT, s1_i, ad_i, z0, c0, la_1, la_2, la_11, la_12, la_21, la_22, la_27, la_54, la_10, la_243, ml_4, ml_6, ml_27, ml_10, ml_3, false_or, or_false, true_or, or_true, or_self, if_false, if_true, not_true, not_false_iff, bs, lt_p]
            rw [hvt, t2]
            simp only [bs, e10, if_false]
            exact k1
        · refine Or.inl ⟨M, ?_, s3, ?_⟩
          · simp (disch := omega) only [ef_X3_search_26, s_X3_search_26, a10, e1, e9, e0, h9, h0, iL, iT, iE, iN, iZ, i0, cl, nL, yL, nT, yT, s1_i, ad_i, z0, c0, la_1, la_2, la_11, la_12, la_21, la_22, la_27, la_54, la_10, la_243, ml_4, ml_6, ml_27, ml_10, ml_3, false_or, or_false, true_or, or_true, or_self, if_false, if_true, not_true, not_false_iff, bs, lt_p]
            rw [hvt, t3]
            simp only [bs, if_true]
          · cases hf : fnt n A with
            | false => rfl
            | true =>
              have := (s2.add hA hn hc hpn ht9 ht t1).len hA hn hf
              rw [List.length_append] at this
              have : F.length + 1 ≤ 36 := this
              omega
        · have hS2 : SI M0 M2 n A (F ++ [stc F[r] p (rfl_ n A F[r] p).toNat]) := ⟨t4, s2.add hA hn hc hpn ht9 ht t1, fun c hc => by rw [t5 c hc]; exact s3 c hc⟩
          have hD2 := hin [stc F[r] p (rfl_ n A F[r] p).toNat] (by simp)
          rcases ih (p + 1) (by omega) _ M2 hS2 (by rw [List.length_append]; omega) hD2 f (by omega) with ⟨M', k1, k2⟩ | ⟨F', M', k1, k2⟩
          · refine Or.inl ⟨M', ?_, k2⟩
            simp (disch := omega) only [ef_X3_search_26, s_X3_search_26, a10, e1, e9, e0, h9, h0, iL, iT, iE, iN, iZ, i0, cl, nL, yL, nT, yT, s1_i, ad_i, z0, c0, la_1, la_2, la_11, la_12, la_21, la_22, la_27, la_54, la_10, la_243, ml_4, ml_6, ml_27, ml_10, ml_3, false_or, or_false, true_or, or_true, or_self, if_false, if_true, not_true, not_false_iff, bs, lt_p]
            rw [hvt, t3]
            simp only [bs, e10, if_false]
            exact k1
          · refine Or.inr ⟨F', M', ?_, k2⟩
            simp (disch := omega) only [ef_X3_search_26, s_X3_search_26, a10, e1, e9, e0, h9, h0, iL, iT, iE, iN, iZ, i0, cl, nL, yL, nT, yT, s1_i, ad_i, z0, c0, la_1, la_2, la_11, la_12, la_21, la_22, la_27, la_54, la_10, la_243, ml_4, ml_6, ml_27, ml_10, ml_3, false_or, or_false, true_or, or_true, or_self, if_false, if_true, not_true, not_false_iff, bs, lt_p]
            rw [hvt, t3]
            simp only [bs, e10, if_false]
            exact k1
    · refine Or.inl ⟨M, ?_, s3, ?_⟩
      · simp (disch := omega) only [ef_X3_search_26, s_X3_search_26, a10, e1, e9, h9, iL, iT, iE, iN, iZ, i0, cl, nL, yL, nT, yT, s1_i, ad_i, z0, c0, la_1, la_2, la_11, la_12, la_21, la_22, la_27, la_54, la_10, la_243, ml_4, ml_6, ml_27, ml_10, ml_3, false_or, or_false, true_or, or_true, or_self, if_false, if_true, not_true, not_false_iff, bs, lt_p]
      · cases hf : fnt n A with
        | false => rfl
        | true => exact absurd (s2.rfl3 hA hn hf hc hpn) h9
theorem x3_s10 (hq : CQ M0 1 n A x) (hA : OKA n A) (hn : n ≤ 6) : ∀ m r, r + m = 36 → ∀ F M, SI M0 M n A F → r ≤ F.length → Done n A F r 0 → ∀ f, m < f → (∃ M', f_X3_search_10 (fun (_ : Int32) (M3 : Mem) => some (1, M3)) f (nI r) M = some (0, M') ∧ (∀ c, (c < 57 ∨ 140 < c) → M' c = M0 c) ∧ fnt n A = false) ∨ (∃ F' M', f_X3_search_10 (fun (_ : Int32) (M3 : Mem) => some (1, M3)) f (nI r) M = some (1, M') ∧ SI M0 M' n A F' ∧ Done n A F' F'.length 0) := by
  intro m
  induction m with
  | zero =>
    intro r hrm F M hS hr hD f hf
    obtain ⟨f, rfl⟩ : ∃ f', f = f' + 1 := ⟨f - 1, by omega⟩
    have h36 := hS.1.2.1
    have : r = F.length := by omega
    subst this
    have h57 := hS.1.1
    refine Or.inr ⟨F, M, ?_, hS, hD⟩
    simp (disch := omega) only [ef_X3_search_10, s_X3_search_10, h57, iL, iT, iE, iN, iZ, i0, cl, nL, yL, nT, yT, s1_i, ad_i, z0, c0, la_1, la_2, la_11, la_12, la_21, la_22, la_27, la_54, la_10, la_243, ml_4, ml_6, ml_27, ml_10, ml_3, false_or, or_false, true_or, or_true, or_self, if_false, if_true, not_true, not_false_iff, bs, lt_p]
  | succ m ih =>
    intro r hrm F M hS hr hD f hf
    obtain ⟨f, rfl⟩ : ∃ f', f = f' + 1 := ⟨f - 1, by omega⟩
    have h36 := hS.1.2.1
    have h57 := hS.1.1
    by_cases hrl : r = F.length
    · subst hrl
      refine Or.inr ⟨F, M, ?_, hS, hD⟩
      simp (disch := omega) only [ef_X3_search_10, s_X3_search_10, h57, iL, iT, iE, iN, iZ, i0, cl, nL, yL, nT, yT, s1_i, ad_i, z0, c0, la_1, la_2, la_11, la_12, la_21, la_22, la_27, la_54, la_10, la_243, ml_4, ml_6, ml_27, ml_10, ml_3, false_or, or_false, true_or, or_true, or_self, if_false, if_true, not_true, not_false_iff, bs, lt_p]
    · have hr2 : r < F.length := by omega
      have e4 : ((36 : Int32) ≤ nI r) ↔ False := e36y (by omega)
      rcases x3_s26 hq hA hn (fun (_ : Int32) (M4 : Mem) => f_X3_search_10 (fun (_ : Int32) (M3 : Mem) => some (1, M3)) f (nI (r + 1)) M4) r n 0 (by omega) F M hS hr2 hD FU (FU_gt (by omega)) with ⟨M', k1, k2⟩ | ⟨F', M', k1, k2, k3, k4⟩
      · refine Or.inl ⟨M', ?_, k2⟩
        simp (disch := omega) only [ef_X3_search_10, s_X3_search_10, h57, e4, iL, iT, iE, iN, iZ, i0, cl, nL, yL, nT, yT, s1_i, ad_i, z0, c0, la_1, la_2, la_11, la_12, la_21, la_22, la_27, la_54, la_10, la_243, ml_4, ml_6, ml_27, ml_10, ml_3, false_or, or_false, true_or, or_true, or_self, if_false, if_true, not_true, not_false_iff, bs, lt_p]
        exact k1
      · have hD2 : Done n A F' (r + 1) 0 := fun r' c' q1 p' q2 q3 => k4 r' c' q1 p' (by omega) q3
        rcases ih (r + 1) (by omega) F' M' k2 (by omega) hD2 f (by omega) with ⟨M2, j1, j2⟩ | ⟨F2, M2, j1, j2⟩
        · refine Or.inl ⟨M2, ?_, j2⟩
          simp (disch := omega) only [ef_X3_search_10, s_X3_search_10, h57, e4, iL, iT, iE, iN, iZ, i0, cl, nL, yL, nT, yT, s1_i, ad_i, z0, c0, la_1, la_2, la_11, la_12, la_21, la_22, la_27, la_54, la_10, la_243, ml_4, ml_6, ml_27, ml_10, ml_3, false_or, or_false, true_or, or_true, or_self, if_false, if_true, not_true, not_false_iff, bs, lt_p]
          exact k1.trans j1
        · refine Or.inr ⟨F2, M2, ?_, j2⟩
          simp (disch := omega) only [ef_X3_search_10, s_X3_search_10, h57, e4, iL, iT, iE, iN, iZ, i0, cl, nL, yL, nT, yT, s1_i, ad_i, z0, c0, la_1, la_2, la_11, la_12, la_21, la_22, la_27, la_54, la_10, la_243, ml_4, ml_6, ml_27, ml_10, ml_3, false_or, or_false, true_or, or_true, or_self, if_false, if_true, not_true, not_false_iff, bs, lt_p]
          exact k1.trans j1
/-- the unit rows -/
def fz0 (n : Nat) : List Nat := (List.range n).map (fun p => 16 ^ (5 - p))
theorem dx_unit {p i : Nat} (hp : p < 6) (hi : i < 6) : dx (16 ^ (5 - p)) i = if i = p then 1 else 0 := (show ∀ p, p < 6 → ∀ i, i < 6 → dx (16 ^ (5 - p)) i = if i = p then 1 else 0 by decide +kernel) p hp i hi
theorem sm6_unit {p : Nat} (hp : p < 6) : sm6 (16 ^ (5 - p)) = 1 := (show ∀ p, p < 6 → sm6 (16 ^ (5 - p)) = 1 by decide +kernel) p hp
theorem fz0_get {r c : Nat} (h : (fz0 n)[r]? = some c) : r < n ∧ c = 16 ^ (5 - r) := by
  unfold fz0 at h
  have h1 := (List.getElem?_eq_some_iff.mp h).1
  rw [List.length_map, List.length_range] at h1
  rw [List.getElem?_map, List.getElem?_range h1] at h
  exact ⟨h1, by simpa using h.symm⟩
theorem fz0_FG (hA : OKA n A) (hn : n ≤ 6) : FG n A (fz0 n) := by
  refine ⟨?_, fun p hp => List.mem_map.mpr ⟨p, List.mem_range.mpr hp, rfl⟩, fun c hc => ?_⟩
  · unfold fz0
    refine map_nd List.nodup_range (fun a ha b hb e => ?_)
    rw [List.mem_range] at ha hb
    have : 5 - a = 5 - b := (Nat.pow_right_inj (by omega)).mp e
    omega
  · obtain ⟨p, hp, rfl⟩ := List.mem_map.mp hc
    rw [List.mem_range] at hp
    refine ⟨(show ∀ p, p < 6 → 16 ^ (5 - p) < 16 ^ 6 by decide +kernel) p (by omega), fun i hi => ?_, fun i h1 h2 => ?_, ?_⟩
    · rw [dx_unit (by omega) hi]; split <;> omega
    · rw [dx_unit (by omega) h2, if_neg (by omega)]
    · have e : ∀ i, i < n → zr (dx (16 ^ (5 - p))) i = ua (fun _ => 0) p 1 i := fun i hi => by
        unfold zr ua
        rw [dx_unit (by omega) (by omega)]
        by_cases hip : i = p
        · rw [if_pos hip, if_pos hip]; rfl
        · rw [if_neg hip, if_neg hip]; rfl
      rw [bb_congr e e, bb_ua hA.sym hp, bb_zero (fun _ _ => rfl), bg_zero hp (fun _ _ => rfl)]
      rfl
theorem x3_b14 (i1 : Int32) (r : Nat) (hr : r < 6) (kk : Int32 → Mem → Option Mem) : ∃ M', f_X3_beginWithPoints_14 i1 (nI r) kk FU 0 M = kk 6 M' ∧ (∀ c, c ≠ 101 + r → M' c = M c) ∧ ∀ i, i < 6 → M' (101 + r) i = nI (dx (16 ^ (5 - r)) i) := by
  have hst : ∀ (f i : Nat) (M1 : Mem), i < 6 → ((∀ c, c ≠ 101 + r → M1 c = M c) ∧ ∀ j, j < i → M1 (101 + r) j = nI (dx (16 ^ (5 - r)) j)) → ∃ M', ((∀ c, c ≠ 101 + r → M' c = M c) ∧ ∀ j, j < i + 1 → M' (101 + r) j = nI (dx (16 ^ (5 - r)) j)) ∧ f_X3_beginWithPoints_14 i1 (nI r) kk (f + 1) (nI i) M1 = f_X3_beginWithPoints_14 i1 (nI r) kk f (nI (i + 1)) M' := by
    intro f i M1 hi hI
    refine ⟨um M1 (101 + r) i (nI (dx (16 ^ (5 - r)) i)), ⟨fun c hc => by rw [um_a hc]; exact hI.1 c hc, fun j hj => ?_⟩, ?_⟩
    · by_cases hji : j = i
      · subst hji; rw [um_s]
      · rw [um_k hji]; exact hI.2 j (by omega)
    · rw [dx_unit hr hi]
      by_cases hir : i = r
      · simp (disch := omega) only [ef_X3_beginWithPoints_14, s_X3_beginWithPoints_14, e6y hr, hir, iL, iT, iE, iN, iZ, i0, cl, nL, yL, nT, yT, s1_i, ad_i, z0, c0, la_1, la_2, la_11, la_12, la_21, la_22, la_27, la_54, la_10, la_243, ml_4, ml_6, ml_27, ml_10, ml_3, false_or, or_false, true_or, or_true, or_self, if_false, if_true, not_true, not_false_iff, bs, lt_p]
        rfl
      · simp (disch := omega) only [ef_X3_beginWithPoints_14, s_X3_beginWithPoints_14, e6y hi, hir, iL, iT, iE, iN, iZ, i0, cl, nL, yL, nT, yT, s1_i, ad_i, z0, c0, la_1, la_2, la_11, la_12, la_21, la_22, la_27, la_54, la_10, la_243, ml_4, ml_6, ml_27, ml_10, ml_3, false_or, or_false, true_or, or_true, or_self, if_false, if_true, not_true, not_false_iff, bs, lt_p]
        rfl
  obtain ⟨f', M2, ⟨g1, g2⟩, g3⟩ := loop_M (fun f M i => f_X3_beginWithPoints_14 i1 (nI r) kk f (nI i) M) 6 (fun i M1 => (∀ c, c ≠ 101 + r → M1 c = M c) ∧ ∀ j, j < i → M1 (101 + r) j = nI (dx (16 ^ (5 - r)) j)) hst 6 0 M (by omega) ⟨fun _ _ => rfl, fun j hj => by omega⟩ FU (FU_gt (by omega))
  refine ⟨M2, ?_, g1, g2⟩
  refine Eq.trans g3 ?_
  simp only [ef_X3_beginWithPoints_14, s_X3_beginWithPoints_14, e6n, if_true]
  rfl
theorem x3_begin (hn : n ≤ 6) : ∃ M', f_X3_beginWithPoints (nI n) M = some M' ∧ FD M' (fz0 n) ∧ ∀ c, (c < 57 ∨ 140 < c) → M' c = M c := by
  have hst : ∀ (f r : Nat) (M1 : Mem), r < n → (M1 57 1 = nI n ∧ (∀ c, (c < 57 ∨ 140 < c) → M1 c = M c) ∧ ∀ q, q < r → (∀ i, i < 6 → M1 (101 + q) i = nI (dx (16 ^ (5 - q)) i)) ∧ M1 137 q = nI (16 ^ (5 - q)) ∧ M1 138 q = nI (sm6 (16 ^ (5 - q)))) → ∃ M', (M' 57 1 = nI n ∧ (∀ c, (c < 57 ∨ 140 < c) → M' c = M c) ∧ ∀ q, q < r + 1 → (∀ i, i < 6 → M' (101 + q) i = nI (dx (16 ^ (5 - q)) i)) ∧ M' 137 q = nI (16 ^ (5 - q)) ∧ M' 138 q = nI (sm6 (16 ^ (5 - q)))) ∧ f_X3_beginWithPoints_7 (nI n) (fun (_ : Int32) (M3 : Mem) => some M3) (f + 1) (nI r) M1 = f_X3_beginWithPoints_7 (nI n) (fun (_ : Int32) (M3 : Mem) => some M3) f (nI (r + 1)) M' := by
    intro f r M1 hr hI
    obtain ⟨i1, i2, i3⟩ := hI
    obtain ⟨M2, g1, g2, g3⟩ := x3_b14 (M := M1) (nI n) r (by omega) (fun (_ : Int32) (M3 : Mem) =>
      (f_X3_codeOf (nI r) 1 M3).bind fun (r4 : Int32) =>
      if nI r < 0 ∨ 36 ≤ (nI r).toNatClampNeg then none else
      lt (um M3 137 (nI r).toNatClampNeg r4) fun (M6 : Mem) =>
      if nI r < 0 ∨ 36 ≤ (nI r).toNatClampNeg then none else
      lt (um M6 138 (nI r).toNatClampNeg 1) fun (M8 : Mem) =>
      f_X3_beginWithPoints_7 (nI n) (fun (_ : Int32) (M3 : Mem) => some M3) f (nI r + 1) M8)
    refine ⟨um (um M2 137 r (nI (16 ^ (5 - r)))) 138 r 1, ⟨?_, fun c hc => ?_, fun q hq => ?_⟩, ?_⟩
    · rw [um_a (by omega), um_a (by omega), g2 57 (by omega)]; exact i1
    · rw [um_a (by omega), um_a (by omega), g2 c (by omega)]; exact i2 c hc
    · by_cases hqr : q = r
      · subst hqr
        refine ⟨fun i hi => ?_, ?_, ?_⟩
        · rw [um_a (by omega), um_a (by omega)]; exact g3 i hi
        · rw [um_a (by omega), um_s]
        · rw [um_s, sm6_unit (by omega)]; rfl
      · obtain ⟨k1, k2, k3⟩ := i3 q (by omega)
        refine ⟨fun i hi => ?_, ?_, ?_⟩
        · rw [um_a (by omega), um_a (by omega), g2 _ (by omega)]; exact k1 i hi
        · rw [um_a (by omega), um_k hqr, g2 _ (by omega)]; exact k2
        · rw [um_k hqr, um_a (by omega), g2 _ (by omega)]; exact k3
    · have e1 : (1 : Int32) * (nI (16 ^ (5 - r))) = nI (16 ^ (5 - r)) := Int32.one_mul _
      have h1 : ¬ nI n ≤ nI r := by rw [iL (by omega) (by omega)]; omega
      rw [ef_X3_beginWithPoints_7]
      unfold s_X3_beginWithPoints_7
      rw [if_neg h1]
      refine Eq.trans g1 ?_
      simp (disch := omega) only [f_X3_codeOf, code_e, e1, iL, iT, iE, iN, iZ, i0, cl, nL, yL, nT, yT, s1_i, ad_i, z0, c0, la_1, la_2, la_11, la_12, la_21, la_22, la_27, la_54, la_10, la_243, ml_4, ml_6, ml_27, ml_10, ml_3, false_or, or_false, true_or, or_true, or_self, if_false, if_true, not_true, not_false_iff, bs, lt_p]
  obtain ⟨f', M2, ⟨g1, g2, g3⟩, g4⟩ := loop_M (fun f M i => f_X3_beginWithPoints_7 (nI n) (fun (_ : Int32) (M3 : Mem) => some M3) f (nI i) M) n (fun r M1 => M1 57 1 = nI n ∧ (∀ c, (c < 57 ∨ 140 < c) → M1 c = M c) ∧ ∀ q, q < r → (∀ i, i < 6 → M1 (101 + q) i = nI (dx (16 ^ (5 - q)) i)) ∧ M1 137 q = nI (16 ^ (5 - q)) ∧ M1 138 q = nI (sm6 (16 ^ (5 - q)))) hst n 0 (um M 57 1 (nI n)) (by omega) ⟨um_s, fun c hc => um_a (by omega), fun q hq => by omega⟩ FU (FU_gt (by omega))
  have hl : (fz0 n).length = n := by unfold fz0; rw [List.length_map, List.length_range]
  refine ⟨M2, ?_, ⟨by rw [hl]; exact g1, by omega, fun r c hrc => ?_⟩, g2⟩
  · unfold f_X3_beginWithPoints
    rw [lt_e]
    refine Eq.trans g4 ?_
    simp (disch := omega) only [ef_X3_beginWithPoints_7, s_X3_beginWithPoints_7, iL, iT, iE, iN, iZ, i0, cl, nL, yL, nT, yT, s1_i, ad_i, z0, c0, la_1, la_2, la_11, la_12, la_21, la_22, la_27, la_54, la_10, la_243, ml_4, ml_6, ml_27, ml_10, ml_3, false_or, or_false, true_or, or_true, or_self, if_false, if_true, not_true, not_false_iff, bs, lt_p]
  · obtain ⟨h1, rfl⟩ := fz0_get hrc
    exact g3 r h1
/-- the search: it finds all roots, or the kind is not finite -/
theorem x3_search (hq : CQ M 1 n A x) (hA : OKA n A) (hn : n ≤ 6) : (∃ M', f_X3_search M = some (0, M') ∧ (∀ c, (c < 57 ∨ 140 < c) → M' c = M c) ∧ fnt n A = false) ∨ (∃ F M', f_X3_search M = some (1, M') ∧ FD M' F ∧ FG n A F ∧ (∀ c, (c < 57 ∨ 140 < c) → M' c = M c) ∧ fnt n A = true ∧ List.Perm (F.map (c4 n)) (rts n A)) := by
  obtain ⟨M1, b1, b2, b3⟩ := x3_begin (M := M) hn
  have a10 : M 1 0 = nI n := hq.1
  have hS : SI M M1 n A (fz0 n) := ⟨b2, fz0_FG hA hn, b3⟩
  have hD : Done n A (fz0 n) 0 0 := fun r' c' _ p' q2 => by omega
  rcases x3_s10 hq hA hn 36 0 (by omega) (fz0 n) M1 hS (Nat.zero_le _) hD FU (FU_gt (by omega)) with ⟨M', k1, k2⟩ | ⟨F', M', k1, ⟨k2, k3, k4⟩, k5⟩
  · refine Or.inl ⟨M', ?_, k2⟩
    unfold f_X3_search
    rw [a10, b1, bs]
    exact k1
  · refine Or.inr ⟨F', M', ?_, k2, k3, k4, ?_⟩
    · unfold f_X3_search
      rw [a10, b1, bs]
      exact k1
    · have hclo : Clo n (gA A) (fun y => ∃ c ∈ F', y = zr (dx c)) := by
        refine ⟨?_, fun p hp => ⟨_, ⟨_, k3.2.1 p hp, rfl⟩, fun i hi => ?_⟩, ?_⟩
        · rintro y ⟨c, hc, rfl⟩
          exact ⟨fun i _ => zr_nn i, (k3.2.2 c hc).2.2.2⟩
        · unfold zr
          rw [dx_unit (by omega) (by omega)]
          split <;> rfl
        · rintro y p ⟨c, hc, rfl⟩ hp hnn
          obtain ⟨r, hr, e⟩ := List.getElem_of_mem hc
          have hrc : F'[r]? = some c := by rw [List.getElem?_eq_getElem hr, e]
          have h0 : 0 ≤ rfl_ n A c p := hnn
          obtain ⟨j0, c2, j1, j2⟩ := k5 r c hrc p (Or.inl ⟨hr, hp⟩) h0
          refine ⟨_, ⟨c2, j1, rfl⟩, fun i hi => ?_⟩
          have hd := (k3.2.2 c2 j1).2.1 p (by omega)
          have ht : rfl_ n A c p = ((rfl_ n A c p).toNat : Int) := by omega
          rw [j2]
          exact rfl_row hn hp (by omega) ht i (by omega)
      have hwp := wp_of hA.sym (S := n * 9) hclo (by
        rintro y ⟨c, hc, rfl⟩
        refine zs_ub (fun i hi => ?_)
        have := (k3.2.2 c hc).2.1 i (by omega)
        unfold zr
        omega)
      have hf := wp_fnt hA hn hwp
      refine ⟨hf, (List.perm_ext_iff_of_nodup (k3.nd hA hn hf) rts_nodup).mpr (fun a => ⟨fun ha => ?_, fun ha => ?_⟩)⟩
      · obtain ⟨c, hc, rfl⟩ := List.mem_map.mp ha
        exact k3.c4_rts hA hn hf hc
      · obtain ⟨a1, a2⟩ := (mem_rts hA hn).mp ha
        obtain ⟨y, ⟨c, hc, rfl⟩, e⟩ := desc hA.sym hwp hclo _ (fun i _ => zr_nn i) a2
        refine List.mem_map.mpr ⟨c, hc, ?_⟩
        refine dgs_inj (b := 4) (n := n) (by omega) (enc_lt (k3.dig3 hA hn hf hc)) a1 (fun i hi => ?_)
        rw [k3.c4_dgs hA hn hf hc i hi]
        have := e i hi
        unfold zr at this
        omega
end SEARCH2

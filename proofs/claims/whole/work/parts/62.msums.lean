/-! ===== the reference counts the ways; sums ===== -/
def ucd (n p : Nat) : Nat := enc 4 n (fun i => if i = p then 1 else 0)
def dnl (c : Nat) : Nat → List Nat
  | 0 => []
  | d + 1 => (c + d) :: dnl c d
section UNITS
variable {n : Nat} {A : Arr}
theorem ucd_d {p i : Nat} (hi : i < n) : dgs 4 n (ucd n p) i = if i = p then 1 else 0 := dgs_enc (by omega) n _ (fun i _ => by split <;> omega) i hi
theorem ucd_lt {p : Nat} : ucd n p < 4 ^ n := enc_lt (fun i _ => by split <;> omega)
theorem ucd_zr {p i : Nat} (hi : i < n) : zr (dgs 4 n (ucd n p)) i = uz p i := by
  unfold zr uz
  rw [ucd_d hi]
  split <;> rfl
theorem ucd_rsm {p : Nat} (hp : p < n) : rsm n (ucd n p) = 1 := by
  have h := rsm_zs n (ucd n p)
  rw [zs_congr (g := fun i => if i = p then (fun _ => (1 : Int)) i else 0) (fun i hi => ucd_zr hi), zs_one hp] at h
  omega
theorem bb_uz (hA : OKA n A) {p : Nat} (hp : p < n) : bb n (gA A) (uz p) (uz p) = 2 := by
  have e : ∀ i, i < n → uz p i = ua (fun _ => 0) p 1 i := fun i _ => by
    unfold uz ua
    by_cases hi : i = p
    · rw [if_pos hi, if_pos hi]; rfl
    · rw [if_neg hi, if_neg hi]
  rw [bb_congr e e, bb_ua hA.sym hp, bb_zero (fun _ _ => rfl), bg_zero hp (fun _ _ => rfl)]
  rfl
theorem ucd_mem (hA : OKA n A) (hn : n ≤ 6) {p : Nat} (hp : p < n) : ucd n p ∈ rts n A := by
  rw [mem_rts hA hn]
  exact ⟨ucd_lt, by rw [bb_congr (fun i hi => ucd_zr hi) (fun i hi => ucd_zr hi)]; exact bb_uz hA hp⟩
theorem rsm_pos (hA : OKA n A) (hn : n ≤ 6) {c : Nat} (h : c ∈ rts n A) : 1 ≤ rsm n c := by
  apply Classical.byContradiction
  intro hno
  have h1 := rsm_zs n c
  have h0 := zs_all0 (n := n) (f := zr (dgs 4 n c)) (fun i _ => zr_nn i) (by omega)
  have h2 := ((mem_rts hA hn).mp h).2
  rw [bb_zero h0] at h2
  omega
theorem ucd_of (hA : OKA n A) (hn : n ≤ 6) {c : Nat} (h : c ∈ rts n A) (h1 : rsm n c = 1) : ∃ p, p < n ∧ c = ucd n p := by
  have hz := rsm_zs n c
  rw [h1] at hz
  obtain ⟨p, hp, hpos⟩ := zs_pos (n := n) (f := zr (dgs 4 n c)) (by omega)
  refine ⟨p, hp, dgs_inj (b := 4) (n := n) (by omega) ((mem_rts hA hn).mp h).1 ucd_lt (fun i hi => ?_)⟩
  have hle := zs_le1 (n := n) (f := zr (dgs 4 n c)) (fun i _ => zr_nn i) hp
  have h0 := zs_all0 (n := n) (f := fun i => zr (dgs 4 n c) i - (if i = p then zr (dgs 4 n c) i else 0)) (fun i _ => by
    show 0 ≤ zr (dgs 4 n c) i - (if i = p then zr (dgs 4 n c) i else 0)
    have := zr_nn (d := dgs 4 n c) i
    split <;> omega) (by rw [zs_sub, zs_one hp (f := zr (dgs 4 n c))]; omega) i hi
  rw [ucd_d hi]
  have h0 : zr (dgs 4 n c) i - (if i = p then zr (dgs 4 n c) i else 0) = 0 := h0
  by_cases hip : i = p
  · rw [if_pos hip, hip]
    unfold zr at hle hpos hz
    have hz' : ((1 : Nat) : Int) = 1 := rfl
    omega
  · rw [if_neg hip] at h0 ⊢
    unfold zr at h0
    omega
theorem ucd_ord {p q : Nat} (hp : p < n) (hq : q < n) : ucd n p < ucd n q ↔ q < p := by
  unfold ucd
  rw [enc_lex n _ _ (fun i _ => by split <;> omega) (fun i _ => by split <;> omega)]
  constructor
  · rintro ⟨i, hi, h1, h2⟩
    have e2 : i = q := Classical.byContradiction (fun z => by rw [if_neg z] at h2; omega)
    subst e2
    rw [if_pos rfl] at h2
    have hip : i ≠ p := fun z => by rw [if_pos z] at h2; omega
    apply Classical.byContradiction
    intro hno
    have h3 := h1 p (by omega)
    rw [if_pos rfl, if_neg (fun z => hip z.symm)] at h3
    omega
  · intro hqp
    refine ⟨q, hq, fun j hj => by rw [if_neg (by omega), if_neg (by omega)], ?_⟩
    rw [if_neg (by omega), if_pos rfl]
    omega
theorem ucd_idx (hA : OKA n A) (hn : n ≤ 6) {p t : Nat} (hp : p < n) (h : (rts n A)[t]? = some (ucd n p)) : t = p := by
  rw [← idx_cnt (n := n) rts_sorted t _ h (fun a => dc (ahd n a (ucd n p))) (fun a _ => dc_iff), List.countP_eq_length_filter]
  have hperm : List.Perm ((rts n A).filter (fun a => dc (ahd n a (ucd n p)))) ((List.range p).map (ucd n)) := by
    refine (List.perm_ext_iff_of_nodup (rts_nodup.filter _) (map_nd List.nodup_range (fun a ha b hb e => ?_))).mpr (fun a => ?_)
    · rw [List.mem_range] at ha hb
      rcases Nat.lt_trichotomy a b with q | q | q
      · have := (ucd_ord (n := n) (show b < n by omega) (show a < n by omega)).mpr q; omega
      · exact q
      · have := (ucd_ord (n := n) (show a < n by omega) (show b < n by omega)).mpr q; omega
    · rw [List.mem_filter, dc_iff, List.mem_map]
      constructor
      · rintro ⟨h1, h2⟩
        have h3 := rsm_pos hA hn h1
        have h4 := ucd_rsm (n := n) hp
        have h5 : rsm n a = 1 ∧ ucd n p < a := by
          rcases h2 with h2 | h2
          · omega
          · exact ⟨by omega, h2.2⟩
        obtain ⟨q, hq, rfl⟩ := ucd_of hA hn h1 h5.1
        exact ⟨q, List.mem_range.mpr ((ucd_ord hp hq).mp h5.2), rfl⟩
      · rintro ⟨q, hq, rfl⟩
        rw [List.mem_range] at hq
        have hqn : q < n := by omega
        exact ⟨ucd_mem hA hn hqn, Or.inr ⟨by rw [ucd_rsm hqn, ucd_rsm hp], (ucd_ord hp hqn).mpr hq⟩⟩
  rw [hperm.length_eq, List.length_map, List.length_range]
/-- the first ones are the single points -/
theorem unit_iff (hA : OKA n A) (hn : n ≤ 6) {t : Nat} (ht : t < (rts n A).length) : 1 < rsm n ((rts n A).getD t 0) ↔ n ≤ t := by
  have hg : (rts n A)[t]? = some ((rts n A).getD t 0) := by rw [List.getD_eq_getElem?_getD, List.getElem?_eq_getElem ht]; rfl
  have hm := RR_get ht
  constructor
  · intro h
    apply Classical.byContradiction
    intro hno
    have htn : t < n := by omega
    obtain ⟨s, hs, e⟩ := List.getElem_of_mem (ucd_mem (A := A) hA hn htn)
    have hs2 : (rts n A)[s]? = some (ucd n t) := by rw [List.getElem?_eq_getElem hs, e]
    have hst := ucd_idx hA hn htn hs2
    subst hst
    rw [hg] at hs2
    have hs2 : (rts n A).getD s 0 = ucd n s := Option.some.inj hs2
    rw [hs2, ucd_rsm htn] at h
    omega
  · intro h
    have h1 := rsm_pos hA hn hm
    apply Classical.byContradiction
    intro hno
    obtain ⟨p, hp, e⟩ := ucd_of hA hn hm (by omega)
    rw [e] at hg
    have := ucd_idx hA hn hp hg
    omega
theorem dnl_mem {c d t : Nat} : t ∈ dnl c d ↔ c ≤ t ∧ t < c + d := by
  induction d with
  | zero => exact iff_of_false (by simp [dnl]) (by omega)
  | succ d ih =>
    show t ∈ (c + d) :: dnl c d ↔ _
    rw [List.mem_cons, ih]
    omega
theorem dnl_nd {c d : Nat} : (dnl c d).Nodup := by
  induction d with
  | zero => exact List.nodup_nil
  | succ d ih =>
    show ((c + d) :: dnl c d).Nodup
    rw [List.nodup_cons]
    exact ⟨fun q => by have := (dnl_mem.mp q).2; omega, ih⟩
theorem dnl_len {c d : Nat} : (dnl c d).length = d := by
  induction d with
  | zero => rfl
  | succ d ih => show (dnl c d).length + 1 = d + 1; rw [ih]
theorem TOT_dnl (hA : OKA n A) (hn : n ≤ 6) (hn1 : 1 ≤ n) (x : Row) (hL : n ≤ (rts n A).length) : TOT n A x = Fn n (Rz n A) (dnl n ((rts n A).length - n)) (fun _ => 1) (Xz n x) := by
  have hp : List.Perm (dnl n ((rts n A).length - n)) ((List.range (rts n A).length).filter (sel n A (Xz n x)) ++ (dnl n ((rts n A).length - n)).filter (fun t => !dc (fitP (Rz n A t) (Xz n x)))) := by
    have h1 : List.Perm ((dnl n ((rts n A).length - n)).filter (fun t => dc (fitP (Rz n A t) (Xz n x)))) ((List.range (rts n A).length).filter (sel n A (Xz n x))) := by
      refine (List.perm_ext_iff_of_nodup (dnl_nd.filter _) (List.nodup_range.filter _)).mpr (fun t => ?_)
      rw [List.mem_filter, List.mem_filter, dnl_mem, List.mem_range]
      unfold sel
      rw [dc_iff, dc_iff]
      constructor
      · rintro ⟨⟨a, b⟩, c⟩
        have ht : t < (rts n A).length := by omega
        exact ⟨ht, (unit_iff hA hn ht).mpr a, c⟩
      · rintro ⟨a, b, c⟩
        have := (unit_iff hA hn a).mp b
        exact ⟨⟨this, by omega⟩, c⟩
    exact (List.filter_append_perm (fun t => dc (fitP (Rz n A t) (Xz n x))) (dnl n ((rts n A).length - n))).symm.trans (h1.append_right _)
  rw [Fn_perm (Rz_Rw hA hn hn1) hp, Fn_no (Rz_Rw hA hn hn1) _ _ _ (fun t ht q => by
    rw [List.mem_filter, dc_t q] at ht
    simp at ht)]
  rfl
theorem len_ge (hA : OKA n A) (hn : n ≤ 6) (h1 : 1 ≤ n) : n ≤ (rts n A).length := by
  obtain ⟨s, hs, e⟩ := List.getElem_of_mem (ucd_mem (A := A) hA hn (show n - 1 < n by omega))
  have hs2 : (rts n A)[s]? = some (ucd n (n - 1)) := by rw [List.getElem?_eq_getElem hs, e]
  have := ucd_idx hA hn (show n - 1 < n by omega) hs2
  omega
end UNITS
section MSUMS
variable {M M0 M' : Mem} {n : Nat} {A A' : Arr} {x x' : Row}
/-- the reference's memory -/
def RM (M : Mem) (n : Nat) (A : Arr) (K : List Nat) (b : Nat → Int) : Prop := M 176 0 = nI n ∧ M 176 12 = nI (rts n A).length ∧ (rts n A).length ≤ 36 ∧ (∀ t, t < (rts n A).length → ∀ i, i < 6 → M 184 (6 * t + i) = rt n A t i) ∧ (∀ j k, K[j]? = some k → M 194 ((rts n A).length - 1 - j) = nI k) ∧ ∀ i, i < n → M 195 i = Int32.ofInt (b i)
theorem x8_fits (hn : n ≤ 6) (hp : M 176 0 = nI n) {t : Nat} {b : Nat → Int} (ht : t < (rts n A).length) (h36 : t < 36) (hrow : ∀ i, i < 6 → M 184 (6 * t + i) = rt n A t i) (hb : ∀ i, i < n → M 195 i = Int32.ofInt (b i)) (hb2 : ∀ i, 0 ≤ b i ∧ b i ≤ 99) : f_X8_fits (nI t) M = some (if dc (fitP (Rz n A t) b) then 1 else 0) := by
  have hle : ∀ i, i < n → (M 195 i < M 184 (6 * t + i) ↔ ¬ Rz n A t i ≤ b i) := fun i hi => by
    have h1 := RR_nn (n := n) (A := A) t i
    have h2 := RR_3 (n := n) (A := A) t i
    have h3 := hb2 i
    rw [hrow i (by omega), hb i hi, rt_of hi, fa_lt, Int32.toInt_ofInt_of_le (by omega) (by omega), Int32.toInt_ofInt_of_le (by omega) (by omega), Rz_i ht hi]
    omega
  have hh := loop_u (fun m (c : Bool) j => f_X8_fits_4 (nI t) M (fun i2 _ => if ¬ (i2 = 0 ∨ i2 = 1) then none else some i2) m (if c then 1 else 0) (nI j)) (fun c => some (if c then 1 else 0)) n (fun j c => c && dc (Rz n A t j ≤ b j)) true (fun m j c hj => ?_) (fun m c => ?_) FU (FU_gt (by omega))
  · have e : fo (fun j c => c && dc (Rz n A t j ≤ b j)) n true = dc (fitP (Rz n A t) b) := by
      rw [Bool.eq_iff_iff, fo_and, dc_iff]
      constructor
      · intro q i
        by_cases hi : i < n
        · exact dc_iff.mp (q i hi)
        · rw [Rz_hi ht (by omega)]; exact (hb2 i).1
      · intro q i _
        exact dc_iff.mpr (q i)
    rw [e] at hh
    exact hh
  · cases c with
    | false => simp (disch := omega) only [ef_X8_fits_4, s_X8_fits_4, hp, Bool.false_eq_true, eq_self, Bool.false_and, iL, iT, iE, iN, iZ, i0, cl, nL, yL, nT, yT, s1_i, ad_i, z0, c0, la_1, la_2, la_11, la_12, la_21, la_22, la_27, la_54, la_10, la_243, ml_4, ml_6, ml_27, ml_10, ml_3, false_or, or_false, true_or, or_true, or_self, if_false, if_true, not_true, not_false_iff, bs, lt_p]
    | true =>
      by_cases hc : Rz n A t j ≤ b j
      · have h1 : ¬ M 195 j < M 184 (6 * t + j) := fun q => (hle j hj).mp q hc
        rw [dc_t hc]
        simp (disch := omega) only [ef_X8_fits_4, s_X8_fits_4, hp, e10, h1, Bool.true_and, eq_self, iL, iT, iE, iN, iZ, i0, cl, nL, yL, nT, yT, s1_i, ad_i, z0, c0, la_1, la_2, la_11, la_12, la_21, la_22, la_27, la_54, la_10, la_243, ml_4, ml_6, ml_27, ml_10, ml_3, false_or, or_false, true_or, or_true, or_self, if_false, if_true, not_true, not_false_iff, bs, lt_p]
      · have h1 : M 195 j < M 184 (6 * t + j) := (hle j hj).mpr hc
        rw [dc_f hc]
        simp (disch := omega) only [ef_X8_fits_4, s_X8_fits_4, hp, e10, h1, Bool.true_and, Bool.false_eq_true, eq_self, iL, iT, iE, iN, iZ, i0, cl, nL, yL, nT, yT, s1_i, ad_i, z0, c0, la_1, la_2, la_11, la_12, la_21, la_22, la_27, la_54, la_10, la_243, ml_4, ml_6, ml_27, ml_10, ml_3, false_or, or_false, true_or, or_true, or_self, if_false, if_true, not_true, not_false_iff, bs, lt_p]
  · cases c with
    | false => simp (disch := omega) only [ef_X8_fits_4, s_X8_fits_4, hp, Bool.false_eq_true, eq_self, true_or, iL, iT, iE, iN, iZ, i0, cl, nL, yL, nT, yT, s1_i, ad_i, z0, c0, la_1, la_2, la_11, la_12, la_21, la_22, la_27, la_54, la_10, la_243, ml_4, ml_6, ml_27, ml_10, ml_3, false_or, or_false, true_or, or_true, or_self, if_false, if_true, not_true, not_false_iff, bs, lt_p]
    | true => simp (disch := omega) only [ef_X8_fits_4, s_X8_fits_4, hp, eq_self, or_true, iL, iT, iE, iN, iZ, i0, cl, nL, yL, nT, yT, s1_i, ad_i, z0, c0, la_1, la_2, la_11, la_12, la_21, la_22, la_27, la_54, la_10, la_243, ml_4, ml_6, ml_27, ml_10, ml_3, false_or, or_false, true_or, or_true, or_self, if_false, if_true, not_true, not_false_iff, bs, lt_p]
theorem x8_takes (hn : n ≤ 6) (hp : M 176 0 = nI n) {t : Nat} (h36 : t < 36) (v : Int32) : ∃ M', f_X8_takes (nI t) v M = some M' ∧ (∀ c, c ≠ 194 → c ≠ 195 → M' c = M c) ∧ (∀ j, j ≠ t → M' 194 j = M 194 j) ∧ M' 194 t = M 194 t + v ∧ ∀ i, i < n → M' 195 i = M 195 i - v * M 184 (6 * t + i) := by
  have hst : ∀ (kk : Int32 → Mem → Option Mem) (f i : Nat) (M1 : Mem), i < n → ((∀ c, c ≠ 195 → M1 c = M c) ∧ (∀ j, j < i → M1 195 j = M 195 j - v * M 184 (6 * t + j)) ∧ ∀ j, i ≤ j → M1 195 j = M 195 j) → ∃ M', ((∀ c, c ≠ 195 → M' c = M c) ∧ (∀ j, j < i + 1 → M' 195 j = M 195 j - v * M 184 (6 * t + j)) ∧ ∀ j, i + 1 ≤ j → M' 195 j = M 195 j) ∧ f_X8_takes_2 (nI t) v kk (f + 1) (nI i) M1 = f_X8_takes_2 (nI t) v kk f (nI (i + 1)) M' := by
    intro kk f i M1 hi hI
    obtain ⟨i1, i2, i3⟩ := hI
    refine ⟨um M1 195 i (M1 195 i - v * M1 184 (6 * t + i)), ⟨fun c hc => by rw [um_a hc]; exact i1 c hc, fun j hj => ?_, fun j hj => ?_⟩, ?_⟩
    · by_cases hji : j = i
      · subst hji; rw [um_s, i3 j (Nat.le_refl _), i1 184 (by omega)]
      · rw [um_k hji]; exact i2 j (by omega)
    · rw [um_k (by omega)]; exact i3 j (by omega)
    · have e4 : M1 176 0 = nI n := by rw [i1 176 (by omega)]; exact hp
      simp (disch := omega) only [ef_X8_takes_2, s_X8_takes_2, e4, iL, iT, iE, iN, iZ, i0, cl, nL, yL, nT, yT, s1_i, ad_i, z0, c0, la_1, la_2, la_11, la_12, la_21, la_22, la_27, la_54, la_10, la_243, ml_4, ml_6, ml_27, ml_10, ml_3, false_or, or_false, true_or, or_true, or_self, if_false, if_true, not_true, not_false_iff, bs, lt_p]
  obtain ⟨f', M2, ⟨g1, g2, g3⟩, g4⟩ := loop_M (fun f M i => f_X8_takes_2 (nI t) v (fun (_ : Int32) (M2 : Mem) =>
    if nI t < 0 ∨ 36 ≤ (nI t).toNatClampNeg then none else
    if nI t < 0 ∨ 36 ≤ (nI t).toNatClampNeg then none else
    lt (um M2 194 (nI t).toNatClampNeg ((M2 194 (nI t).toNatClampNeg) + v)) fun (M5 : Mem) =>
    some M5) f (nI i) M) n (fun i M1 => (∀ c, c ≠ 195 → M1 c = M c) ∧ (∀ j, j < i → M1 195 j = M 195 j - v * M 184 (6 * t + j)) ∧ ∀ j, i ≤ j → M1 195 j = M 195 j) (hst _) n 0 M (by omega) ⟨fun _ _ => rfl, fun j hj => by omega, fun _ _ => rfl⟩ FU (FU_gt (by omega))
  refine ⟨um M2 194 t (M2 194 t + v), ?_, fun c d1 d2 => by rw [um_a d1]; exact g1 c d2, fun j hj => by rw [um_k hj, g1 194 (by omega)], by rw [um_s, g1 194 (by omega)], fun i hi => by rw [um_a (by omega)]; exact g2 i hi⟩
  unfold f_X8_takes
  refine Eq.trans g4 ?_
  have e4 : M2 176 0 = nI n := by rw [g1 176 (by omega)]; exact hp
  simp (disch := omega) only [ef_X8_takes_2, s_X8_takes_2, e4, iL, iT, iE, iN, iZ, i0, cl, nL, yL, nT, yT, s1_i, ad_i, z0, c0, la_1, la_2, la_11, la_12, la_21, la_22, la_27, la_54, la_10, la_243, ml_4, ml_6, ml_27, ml_10, ml_3, false_or, or_false, true_or, or_true, or_self, if_false, if_true, not_true, not_false_iff, bs, lt_p]
/-- the wheels go on, from one down -/
theorem x8_s115 (hA : OKA n A) (hn : n ≤ 6) (hn1 : 1 ≤ n) (i1 i2 : Int32) (kN kS : Mem → Option (Int32 × Mem)) : ∀ (d : Nat) (K1 K2 : List Nat) (b : Nat → Int) (M : Mem) (U1 : List Nat), n + d ≤ (rts n A).length → K1.length = U1.length → U1.length + d = (rts n A).length - n → VS n A x (U1 ++ dnl n d) (K1 ++ K2) b → RM M n A (K1 ++ K2) b → ∀ f, d < f → ∃ M', (∀ c, c ≠ 194 → c ≠ 195 → M' c = M c) ∧ ((stp (Rz n A) (dnl n d) K2 b = none ∧ f_X8_sums_115 i1 i2 (fun (i3_4 : Int32) (M5 : Mem) => if i3_4 < M5 176 0 then kN M5 else (f_X8_takes i3_4 1 M5).bind kS) f (nI (n + d) - 1) M = kN M') ∨ ∃ K3 b3, stp (Rz n A) (dnl n d) K2 b = some (K3, b3) ∧ f_X8_sums_115 i1 i2 (fun (i3_4 : Int32) (M5 : Mem) => if i3_4 < M5 176 0 then kN M5 else (f_X8_takes i3_4 1 M5).bind kS) f (nI (n + d) - 1) M = kS M' ∧ VS n A x (U1 ++ dnl n d) (K1 ++ K3) b3 ∧ RM M' n A (K1 ++ K3) b3) := by
  intro d
  induction d with
  | zero =>
    intro K1 K2 b M U1 hL hl hd hV hC f hf
    obtain ⟨f, rfl⟩ : ∃ f', f = f' + 1 := ⟨f - 1, by omega⟩
    refine ⟨M, fun _ _ _ => rfl, Or.inl ⟨rfl, ?_⟩⟩
    have hp := hC.1
    have e1 : nI (n + 0) - 1 = nI (n - 1) := sb_i (b := 1) (by omega)
    have hlt : nI (n - 1) < nI n := by rw [iT (by omega) (by omega)]; omega
    rw [e1, ef_X8_sums_115]
    unfold s_X8_sums_115
    rw [hp, if_pos hlt]
    show (if nI (n - 1) < M 176 0 then kN M else (f_X8_takes (nI (n - 1)) 1 M).bind kS) = kN M
    rw [hp, if_pos hlt]
  | succ d ih =>
    intro K1 K2 b M U1 hL hl hd hV hC f hf
    obtain ⟨f, rfl⟩ : ∃ f', f = f' + 1 := ⟨f - 1, by omega⟩
    have hU : dnl n (d + 1) = (n + d) :: dnl n d := rfl
    rw [hU] at hV ⊢
    obtain ⟨k, K2', rfl⟩ : ∃ k K2', K2 = k :: K2' := by
      cases K2 with
      | nil => have := hV.1; rw [List.length_append, List.length_append, hl, List.length_cons] at this; simp at this
      | cons k K2' => exact ⟨k, K2', rfl⟩
    obtain ⟨c1, c2, c3, c4, c5, c6⟩ := hC
    have hk99 := hV.small hA hn hn1 hl
    have ht : n + d < (rts n A).length := by omega
    have h36 : n + d < 36 := by omega
    have hrow := c4 (n + d) ht
    have hidx : (rts n A).length - 1 - K1.length = n + d := by omega
    have e194 : M 194 (n + d) = nI k := by
      have := c5 K1.length k (by rw [List.getElem?_append_right (Nat.le_refl _), Nat.sub_self]; rfl)
      rw [hidx] at this
      exact this
    have hb2 : ∀ i, 0 ≤ b i ∧ b i ≤ 99 := fun i => ⟨hV.2.2.1 i, hV.le i⟩
    have hfit := x8_fits (A := A) hn c1 ht h36 hrow c6 hb2
    have hX : ∀ i, b i + (dt (Rz n A) U1 K1 i + (((k : Nat) : Int) * Rz n A (n + d) i + dt (Rz n A) (dnl n d) K2' i)) = Xz n x i := fun i => by
      have := hV.2.2.2.1 i
      rw [dt_app U1 K1 ((n + d) :: dnl n d) (k :: K2') i hl] at this
      exact this
    have hstp : stp (Rz n A) ((n + d) :: dnl n d) (k :: K2') b = if dc (fitP (Rz n A (n + d)) b) then some ((k + 1) :: K2', vsub b (Rz n A (n + d))) else (stp (Rz n A) (dnl n d) K2' (vadd b (Rz n A (n + d)) k)).map (fun q => (0 :: q.1, q.2)) := rfl
    have e1 : nI (n + (d + 1)) - 1 = nI (n + d) := sb_i (a := n + (d + 1)) (b := 1) (by omega)
    have hge : ¬ nI (n + d) < nI n := by rw [iT (by omega) (by omega)]; omega
    by_cases hf2 : fitP (Rz n A (n + d)) b
    · rw [dc_t hf2, if_pos rfl] at hfit hstp
      obtain ⟨M1, g1, g2, g3, g4, g5⟩ := x8_takes (M := M) hn c1 h36 1
      refine ⟨M1, g2, Or.inr ⟨(k + 1) :: K2', vsub b (Rz n A (n + d)), hstp, ?_, ?_, ?_⟩⟩
      · rw [e1, ef_X8_sums_115]
        unfold s_X8_sums_115
        rw [c1, if_neg hge, hfit, bs, if_neg e10]
        show (if nI (n + d) < M 176 0 then kN M else (f_X8_takes (nI (n + d)) 1 M).bind kS) = kS M1
        rw [c1, if_neg hge, g1, bs]
      · refine ⟨by have := hV.1; rw [List.length_append, List.length_append] at this ⊢; exact this, hV.2.1, fun i => by have : Rz n A (n + d) i ≤ b i := hf2 i; show 0 ≤ b i - Rz n A (n + d) i; omega, fun i => ?_, hV.2.2.2.2⟩
        rw [dt_app U1 K1 ((n + d) :: dnl n d) ((k + 1) :: K2') i hl]
        show b i - Rz n A (n + d) i + (dt (Rz n A) U1 K1 i + (((k + 1 : Nat) : Int) * Rz n A (n + d) i + dt (Rz n A) (dnl n d) K2' i)) = Xz n x i
        rw [Int.natCast_add, Int.add_mul, Int.natCast_one, Int.one_mul]
        have := hX i
        omega
      · refine ⟨by rw [g2 176 (by omega) (by omega)]; exact c1, by rw [g2 176 (by omega) (by omega)]; exact c2, c3, fun t ht i hi => by rw [g2 184 (by omega) (by omega)]; exact c4 t ht i hi, fun j q hj => ?_, fun i hi => ?_⟩
        · have hjl := (List.getElem?_eq_some_iff.mp hj).1
          rw [List.length_append, List.length_cons] at hjl
          have hK2 : K2'.length = d := by
            have := hV.1
            rw [List.length_append, List.length_append, List.length_cons, List.length_cons, hl, dnl_len] at this
            omega
          by_cases hju : j = K1.length
          · subst hju
            rw [List.getElem?_append_right (by omega), Nat.sub_self] at hj
            have hj : k + 1 = q := by simpa using hj
            subst hj
            rw [hidx, g4, e194, s1_i]
          · rw [g3 _ (by omega)]
            refine c5 j q ?_
            by_cases hjl : j < K1.length
            · rw [List.getElem?_append_left hjl] at hj ⊢; exact hj
            · rw [List.getElem?_append_right (by omega)] at hj ⊢
              obtain ⟨e, he⟩ : ∃ e, j - K1.length = e + 1 := ⟨j - K1.length - 1, by omega⟩
              rw [he, List.getElem?_cons_succ] at hj ⊢
              exact hj
        · rw [g5 i hi, c6 i hi, hrow i (by omega), rt_of hi, Int32.one_mul, ← Int32.ofInt_sub]
          congr 1
          show b i - RR n A (n + d) i = b i - Rz n A (n + d) i
          rw [Rz_i ht hi]
    · rw [dc_f hf2, if_neg ff_t] at hfit hstp
      obtain ⟨M1, g1, g2, g3, g4, g5⟩ := x8_takes (M := M) hn c1 h36 (-(nI k))
      have e1' : (U1 ++ [n + d]) ++ dnl n d = U1 ++ (n + d) :: dnl n d := by simp
      have e2' : ∀ L : List Nat, (K1 ++ [0]) ++ L = K1 ++ 0 :: L := fun L => by simp
      have hK2 : K2'.length = d := by
        have := hV.1
        rw [List.length_append, List.length_append, List.length_cons, List.length_cons, hl, dnl_len] at this
        omega
      have hV2 : VS n A x ((U1 ++ [n + d]) ++ dnl n d) ((K1 ++ [0]) ++ K2') (vadd b (Rz n A (n + d)) k) := by
        rw [e1', e2']
        refine ⟨by have := hV.1; rw [List.length_append, List.length_append] at this ⊢; exact this, hV.2.1, fun i => Int.add_nonneg (hV.2.2.1 i) (Int.mul_nonneg (Int.natCast_nonneg _) (Rz_nn (n + d) i)), fun i => ?_, hV.2.2.2.2⟩
        rw [dt_app U1 K1 ((n + d) :: dnl n d) (0 :: K2') i hl]
        show b i + ((k : Nat) : Int) * Rz n A (n + d) i + (dt (Rz n A) U1 K1 i + (((0 : Nat) : Int) * Rz n A (n + d) i + dt (Rz n A) (dnl n d) K2' i)) = Xz n x i
        rw [Int.natCast_zero, Int.zero_mul]
        have := hX i
        omega
      have hC2 : RM M1 n A ((K1 ++ [0]) ++ K2') (vadd b (Rz n A (n + d)) k) := by
        rw [e2']
        refine ⟨by rw [g2 176 (by omega) (by omega)]; exact c1, by rw [g2 176 (by omega) (by omega)]; exact c2, c3, fun t ht i hi => by rw [g2 184 (by omega) (by omega)]; exact c4 t ht i hi, fun j q hj => ?_, fun i hi => ?_⟩
        · have hjl := (List.getElem?_eq_some_iff.mp hj).1
          rw [List.length_append, List.length_cons] at hjl
          by_cases hju : j = K1.length
          · subst hju
            rw [List.getElem?_append_right (by omega), Nat.sub_self] at hj
            have hj : 0 = q := by simpa using hj
            subst hj
            rw [hidx, g4, e194]
            exact Int32.add_right_neg _
          · rw [g3 _ (by omega)]
            refine c5 j q ?_
            by_cases hjl : j < K1.length
            · rw [List.getElem?_append_left hjl] at hj ⊢; exact hj
            · rw [List.getElem?_append_right (by omega)] at hj ⊢
              obtain ⟨e, he⟩ : ∃ e, j - K1.length = e + 1 := ⟨j - K1.length - 1, by omega⟩
              rw [he, List.getElem?_cons_succ] at hj ⊢
              exact hj
        · have ek : nI k = Int32.ofInt ((k : Nat) : Int) := by rw [ofI_nI (Int.natCast_nonneg _) (by omega)]; rfl
          rw [g5 i hi, c6 i hi, hrow i (by omega), rt_of hi, ek, ← Int32.ofInt_neg, ← Int32.ofInt_mul, ← Int32.ofInt_sub]
          congr 1
          show b i - -((k : Nat) : Int) * RR n A (n + d) i = b i + ((k : Nat) : Int) * Rz n A (n + d) i
          rw [Rz_i ht hi, Int.neg_mul]
          omega
      have hl2 : (K1 ++ [0]).length = (U1 ++ [n + d]).length := by rw [List.length_append, List.length_append, hl]; rfl
      have el : (U1 ++ [n + d]).length = U1.length + 1 := by rw [List.length_append]; rfl
      obtain ⟨M2, m1, m2⟩ := ih (K1 ++ [0]) K2' (vadd b (Rz n A (n + d)) k) M1 (U1 ++ [n + d]) (by omega) hl2 (by omega) hV2 hC2 f (by omega)
      have hgo : f_X8_sums_115 i1 i2 (fun (i3_4 : Int32) (M5 : Mem) => if i3_4 < M5 176 0 then kN M5 else (f_X8_takes i3_4 1 M5).bind kS) (f + 1) (nI (n + (d + 1)) - 1) M = f_X8_sums_115 i1 i2 (fun (i3_4 : Int32) (M5 : Mem) => if i3_4 < M5 176 0 then kN M5 else (f_X8_takes i3_4 1 M5).bind kS) f (nI (n + d) - 1) M1 := by
        have e5 : nI (n + d) + (-1) = nI (n + d) - 1 := (Int32.sub_eq_add_neg _ _).symm
        rw [e1, ef_X8_sums_115]
        unfold s_X8_sums_115
        rw [c1, if_neg hge, hfit, bs, if_pos rfl, if_neg (nI_in h36 (by omega)), cl (by omega), e194, g1, bs, e5]
      refine ⟨M2, fun c d1 d2 => by rw [m1 c d1 d2]; exact g2 c d1 d2, ?_⟩
      rcases m2 with ⟨p1, p2⟩ | ⟨K3, b3, p1, p2, p3, p4⟩
      · exact Or.inl ⟨by rw [hstp, p1]; rfl, by rw [hgo]; exact p2⟩
      · refine Or.inr ⟨0 :: K3, b3, by rw [hstp, p1]; rfl, by rw [hgo]; exact p2, ?_, ?_⟩
        · rw [e1', e2'] at p3; exact p3
        · rw [e2'] at p4; exact p4
theorem x8_s97 (hA : OKA n A) (hn : n ≤ 6) (hn1 : 1 ≤ n) (hL : n ≤ (rts n A).length) : ∀ (m cnt : Nat) (K : List Nat) (b : Nat → Int) (M : Mem), cnt + m = 9999 → 1 ≤ cnt → VS n A x (dnl n ((rts n A).length - n)) K b → RM M n A K b → ∀ f, m + 1 < f → ∃ M', (∀ c, c ≠ 194 → c ≠ 195 → M' c = M c) ∧ f_X8_sums_97 (fun (_ : Int32) (i2 : Int32) (M11 : Mem) => some (i2, M11)) f 1 (nI cnt) M = some (nI (min (cnt - 1 + Hn n (Rz n A) (dnl n ((rts n A).length - n)) K b (fun _ => 1)) 9999), M') := by
  intro m
  induction m with
  | zero =>
    intro cnt K b M hm h1 hV hC f hf
    obtain ⟨f, rfl⟩ : ∃ f', f = f' + 1 := ⟨f - 1, by omega⟩
    have : cnt = 9999 := by omega
    subst this
    refine ⟨M, fun _ _ _ => rfl, ?_⟩
    have e9 : (9999 : Int32) ≤ nI 9999 := by decide
    have hg := Hn_ge (n := n) (R := Rz n A) (Rz_Rw hA hn hn1) (dnl n ((rts n A).length - n)) K b (fun _ => 1)
    rw [ef_X8_sums_97]
    unfold s_X8_sums_97
    rw [if_neg e10, if_pos e9]
    have hg : 1 ≤ Hn n (Rz n A) (dnl n ((rts n A).length - n)) K b (fun _ => 1) := hg
    rw [show min (9999 - 1 + Hn n (Rz n A) (dnl n ((rts n A).length - n)) K b (fun _ => 1)) 9999 = 9999 by omega]
  | succ m ih =>
    intro cnt K b M hm h1 hV hC f hf
    obtain ⟨f, rfl⟩ : ∃ f', f = f' + 1 := ⟨f - 1, by omega⟩
    have e9 : ¬ (9999 : Int32) ≤ nI cnt := by rw [show (9999 : Int32) = nI 9999 from rfl, iL (by omega) (by omega)]; omega
    have hH := Hn_step (n := n) (R := Rz n A) (Rz_Rw hA hn hn1) (dnl n ((rts n A).length - n)) K b (fun _ => 1)
    have h36 := hC.2.2.1
    obtain ⟨M1, m1, m2⟩ := x8_s115 (x := x) hA hn hn1 1 (nI cnt) (fun M5 => f_X8_sums_97 (fun (_ : Int32) (i2 : Int32) (M11 : Mem) => some (i2, M11)) f 0 (nI cnt) M5) (fun M10 => f_X8_sums_97 (fun (_ : Int32) (i2 : Int32) (M11 : Mem) => some (i2, M11)) f 1 (nI cnt + 1) M10) ((rts n A).length - n) [] K b M [] (by omega) rfl (by simp) hV hC FU (FU_gt (by omega))
    have hgo : f_X8_sums_97 (fun (_ : Int32) (i2 : Int32) (M11 : Mem) => some (i2, M11)) (f + 1) 1 (nI cnt) M = f_X8_sums_115 1 (nI cnt) (fun (i3_4 : Int32) (M5 : Mem) => if i3_4 < M5 176 0 then (fun M5 => f_X8_sums_97 (fun (_ : Int32) (i2 : Int32) (M11 : Mem) => some (i2, M11)) f 0 (nI cnt) M5) M5 else (f_X8_takes i3_4 1 M5).bind (fun M10 => f_X8_sums_97 (fun (_ : Int32) (i2 : Int32) (M11 : Mem) => some (i2, M11)) f 1 (nI cnt + 1) M10)) FU (nI (n + ((rts n A).length - n)) - 1) M := by
      rw [ef_X8_sums_97]
      unfold s_X8_sums_97
      rw [if_neg e10, if_neg e9, hC.2.1, lt_e, show n + ((rts n A).length - n) = (rts n A).length by omega]
      congr 1
    rcases m2 with ⟨p1, p2⟩ | ⟨K3, b3, p1, p2, p3, p4⟩
    · refine ⟨M1, m1, ?_⟩
      rw [hgo, hH.1 p1]
      refine Eq.trans p2 ?_
      obtain ⟨f, rfl⟩ : ∃ f', f = f' + 1 := ⟨f - 1, by omega⟩
      show f_X8_sums_97 (fun (_ : Int32) (i2 : Int32) (M11 : Mem) => some (i2, M11)) (f + 1) 0 (nI cnt) M1 = _
      rw [ef_X8_sums_97]
      unfold s_X8_sums_97
      rw [if_pos rfl, show min (cnt - 1 + 1) 9999 = cnt by omega]
    · obtain ⟨M2, q1, q2⟩ := ih (cnt + 1) K3 b3 M1 (by omega) (by omega) p3 p4 f (by omega)
      refine ⟨M2, fun c d1 d2 => by rw [q1 c d1 d2]; exact m1 c d1 d2, ?_⟩
      rw [hgo, hH.2 K3 b3 p1]
      refine Eq.trans p2 ?_
      show f_X8_sums_97 (fun (_ : Int32) (i2 : Int32) (M11 : Mem) => some (i2, M11)) f 1 (nI cnt + 1) M1 = _
      rw [s1_i, q2]
      congr 4
      omega
theorem x8_s16 (kk : Int32 → Mem → Option (Int32 × Mem)) : ∃ M', f_X8_sums_16 kk FU 0 M = kk 36 M' ∧ (∀ c, c ≠ 194 → M' c = M c) ∧ ∀ q, q < 36 → M' 194 q = 0 := by
  have hst : ∀ (f i : Nat) (M1 : Mem), i < 36 → ((∀ c, c ≠ 194 → M1 c = M c) ∧ ∀ q, q < i → M1 194 q = 0) → ∃ M', ((∀ c, c ≠ 194 → M' c = M c) ∧ ∀ q, q < i + 1 → M' 194 q = 0) ∧ f_X8_sums_16 kk (f + 1) (nI i) M1 = f_X8_sums_16 kk f (nI (i + 1)) M' := by
    intro f i M1 hi hI
    refine ⟨um M1 194 i 0, ⟨fun c hc => by rw [um_a hc]; exact hI.1 c hc, fun q hq => ?_⟩, ?_⟩
    · by_cases hqi : q = i
      · subst hqi; rw [um_s]
      · rw [um_k hqi]; exact hI.2 q (by omega)
    · simp (disch := omega) only [ef_X8_sums_16, s_X8_sums_16, e36y hi, iL, iT, iE, iN, iZ, i0, cl, nL, yL, nT, yT, s1_i, ad_i, z0, c0, la_1, la_2, la_11, la_12, la_21, la_22, la_27, la_54, la_10, la_243, ml_4, ml_6, ml_27, ml_10, ml_3, false_or, or_false, true_or, or_true, or_self, if_false, if_true, not_true, not_false_iff, bs, lt_p]
  obtain ⟨f', M2, ⟨g1, g2⟩, g3⟩ := loop_M (fun f M i => f_X8_sums_16 kk f (nI i) M) 36 (fun i M1 => (∀ c, c ≠ 194 → M1 c = M c) ∧ ∀ q, q < i → M1 194 q = 0) hst 36 0 M (by omega) ⟨fun _ _ => rfl, fun j hj => by omega⟩ FU (FU_gt (by omega))
  refine ⟨M2, ?_, g1, g2⟩
  refine Eq.trans g3 ?_
  simp only [ef_X8_sums_16, s_X8_sums_16, e36n, if_true]
  rfl
theorem x8_s39 (hn : n ≤ 6) (hp : M 176 0 = nI n) (hx : ∀ i, i < 6 → M 177 (21 + i) = x i) (kk : Int32 → Int32 → Mem → Option (Int32 × Mem)) : ∃ M', f_X8_sums_39 kk FU 1 0 M = kk (if dc (∀ i, i < n → 0 ≤ ti x i) then 1 else 0) (nI n) M' ∧ (∀ c, c ≠ 195 → M' c = M c) ∧ ∀ i, i < n → M' 195 i = x i := by
  have hz : (0 : Int32).toInt = 0 := rfl
  have key : ∀ m j M1 (c : Bool), j + m = n → (∀ q, q ≠ 195 → M1 q = M q) → (∀ i, i < j → M1 195 i = x i) → (c = true ↔ ∀ i, i < j → 0 ≤ ti x i) → ∀ f, m < f → ∃ M', f_X8_sums_39 kk f (if c then 1 else 0) (nI j) M1 = kk (if dc (∀ i, i < n → 0 ≤ ti x i) then 1 else 0) (nI n) M' ∧ (∀ c, c ≠ 195 → M' c = M c) ∧ ∀ i, i < n → M' 195 i = x i := by
    intro m
    induction m with
    | zero =>
      intro j M1 c hj e1 e2 hc f hf
      obtain ⟨f, rfl⟩ : ∃ f', f = f' + 1 := ⟨f - 1, by omega⟩
      have : j = n := by omega
      subst this
      refine ⟨M1, ?_, e1, e2⟩
      have hp1 : M1 176 0 = nI j := by rw [e1 176 (by omega)]; exact hp
      have hcc : dc (∀ i, i < j → 0 ≤ ti x i) = c := by rw [Bool.eq_iff_iff, dc_iff]; exact hc.symm
      rw [hcc, ef_X8_sums_39]
      unfold s_X8_sums_39
      rw [hp1, if_pos (by rw [iL (by omega) (by omega)]; omega)]
    | succ m ih =>
      intro j M1 c hj e1 e2 hc f hf
      obtain ⟨f, rfl⟩ : ∃ f', f = f' + 1 := ⟨f - 1, by omega⟩
      have hp1 : M1 176 0 = nI n := by rw [e1 176 (by omega)]; exact hp
      have hxj : M1 177 (21 + j) = x j := by rw [e1 177 (by omega)]; exact hx j (by omega)
      have eneg : x j < 0 ↔ ¬ 0 ≤ ti x j := by rw [fa_lt, hz]; unfold ti; omega
      obtain ⟨M2, q1, q2⟩ := ih (j + 1) (um M1 195 j (x j)) (c && dc (0 ≤ ti x j)) (by omega) (fun q hq => by rw [um_a hq]; exact e1 q hq) (fun i hi => by
        by_cases hij : i = j
        · subst hij; rw [um_s]
        · rw [um_k hij]; exact e2 i (by omega)) (by
        rw [Bool.and_eq_true, hc, dc_iff]
        constructor
        · rintro ⟨a, b⟩ i hi
          by_cases hij : i = j
          · subst hij; exact b
          · exact a i (by omega)
        · intro a
          exact ⟨fun i hi => a i (by omega), a j (by omega)⟩) f (by omega)
      refine ⟨M2, ?_, q2⟩
      rw [← q1]
      cases c with
      | false => simp (disch := omega) only [ef_X8_sums_39, s_X8_sums_39, hp1, hxj, Bool.false_and, Bool.false_eq_true, eq_self, iL, iT, iE, iN, iZ, i0, cl, nL, yL, nT, yT, s1_i, ad_i, z0, c0, la_1, la_2, la_11, la_12, la_21, la_22, la_27, la_54, la_10, la_243, ml_4, ml_6, ml_27, ml_10, ml_3, false_or, or_false, true_or, or_true, or_self, if_false, if_true, not_true, not_false_iff, bs, lt_p]
      | true =>
        by_cases h0 : 0 ≤ ti x j
        · have hn0 : ¬ x j < 0 := fun q => eneg.mp q h0
          rw [dc_t h0]
          simp (disch := omega) only [ef_X8_sums_39, s_X8_sums_39, hp1, hxj, um_s, e10, hn0, Bool.true_and, eq_self, iL, iT, iE, iN, iZ, i0, cl, nL, yL, nT, yT, s1_i, ad_i, z0, c0, la_1, la_2, la_11, la_12, la_21, la_22, la_27, la_54, la_10, la_243, ml_4, ml_6, ml_27, ml_10, ml_3, false_or, or_false, true_or, or_true, or_self, if_false, if_true, not_true, not_false_iff, bs, lt_p]
        · have hn0 : x j < 0 := eneg.mpr h0
          rw [dc_f h0]
          simp (disch := omega) only [ef_X8_sums_39, s_X8_sums_39, hp1, hxj, um_s, e10, hn0, Bool.true_and, Bool.false_eq_true, eq_self, iL, iT, iE, iN, iZ, i0, cl, nL, yL, nT, yT, s1_i, ad_i, z0, c0, la_1, la_2, la_11, la_12, la_21, la_22, la_27, la_54, la_10, la_243, ml_4, ml_6, ml_27, ml_10, ml_3, false_or, or_false, true_or, or_true, or_self, if_false, if_true, not_true, not_false_iff, bs, lt_p]
  exact key n 0 M true (by omega) (fun _ _ => rfl) (fun i hi => by omega) (iff_of_true rfl (fun i hi => by omega)) FU (FU_gt (by omega))
end MSUMS
section OPSUMS
variable {M M' : Mem} {n : Nat} {A A' : Arr} {x x' : Row} {P P' : List (Arr × Row)} {K K' : Nat → Option (Arr × Row)} {T T' : List Int32} {S S' : Nat → Option (List (Nat × Row))}
theorem CI.scr2 (w : WF n A x P K T S) (hc : CI M n A x P K T S) (e : ∀ b, (b < 141 ∨ 144 < b) → M' b = M b) : CI M' n A x P K T S :=
  ⟨hc.1.on (fun b _ _ => e b (by omega)), hc.2.1.on (fun b _ _ => e b (by omega)), hc.2.2.1.on (e _ (by omega)) (fun b _ _ => e b (by omega)), hc.2.2.2.1.on (e _ (by omega)) (e _ (by omega)), hc.2.2.2.2.1.on (hc.cS w) (fun b _ _ => e b (by omega)), hc.2.2.2.2.2.1.on w.1.2 (by rw [e 0 (by omega)]) (fun b _ _ => e b (by omega)), hc.2.2.2.2.2.2.on (by rw [e 0 (by omega)]) (fun b _ _ => e b (by omega))⟩
theorem MI.scr2 (hm : MI M n A x P K T S) (e : ∀ c, c ≠ 194 → c ≠ 195 → M' c = M c) : MI M' n A x P K T S := by
  unfold MI MP MK MT MS MN KnowsOK MC at hm ⊢
  rw [e 176 (by omega) (by omega), e 177 (by omega) (by omega), e 178 (by omega) (by omega), e 179 (by omega) (by omega), e 180 (by omega) (by omega), e 181 (by omega) (by omega), e 182 (by omega) (by omega), e 183 (by omega) (by omega), e 184 (by omega) (by omega), e 185 (by omega) (by omega), e 186 (by omega) (by omega), e 190 (by omega) (by omega)]
  exact hm
theorem op_sums (h : Inv M) : ∃ r M1 M2, f_X7_sums M = some (r, M1) ∧ f_X8_sums M1 = some (r, M2) ∧ Inv M2 := by
  obtain ⟨n, A, x, P, K, T, S, w, hc, hm⟩ := id h
  have hn6 := w.1.2
  have hn1 := w.1.1
  have hA := w.2.1
  cases hf : fnt n A with
  | false => exact op_rd (f := f_X7_sums) (g := f_X8_sums) w hc hm (fun M => rfl) (fun M => rfl) ⟨-1000003, fun M1 _ hr => by rw [hr.no hf, if_pos rfl], fun M2 _ hk => by rw [hk.no hf, if_neg n1m]⟩
  | true =>
    have hL := fnt_36 hA hn6 hf
    have hLn := len_ge (A := A) hA hn6 hn1
    have z0 : (0 : Int32) ≤ nI (rts n A).length := nI_pos' (by omega)
    refine op_mk (f := f_X7_sums) (g := f_X8_sums) (nI (SUM n A x)) hm w ?_ (fun M1 hm1 => ?_)
    · obtain ⟨M1, a1, a2, a3, a4⟩ := x7_findRoots w hc
      obtain ⟨_, q1, q2, q3⟩ := a3.yes hf
      obtain ⟨M2, b1, b2⟩ := x0_ways (M := M1) hA hn6 hn1 w.2.2.1 a2.1 ⟨hL, q2, fun t ht i hi => (q3 t ht).1 i hi⟩ (fun t ht => (q3 t ht).2.1)
      refine ⟨M2, ?_, a2.scr2 w b2, fun b hb => by rw [b2 b (by omega)]; exact a4 b (by omega) (by omega)⟩
      simp only [f_X7_sums, a1, bs, q1, e10, if_false, b1]
    · obtain ⟨M2, b1, b2, b3, b4, b5⟩ := x8_knows w hm1
      obtain ⟨_, q1, q3⟩ := b3.yes hf
      let k39 : Int32 → Int32 → Mem → Option (Int32 × Mem) := fun (i1_5 : Int32) (_ : Int32) (M7 : Mem) =>
        if i1_5 = 0 then
          f_X8_sums_97  (fun (_ : Int32) (i2_10 : Int32) (M11 : Mem) =>
            some (i2_10, M11)) FU i1_5 0 M7
        else
          f_X8_sums_97  (fun (_ : Int32) (i2_13 : Int32) (M14 : Mem) =>
            some (i2_13, M14)) FU i1_5 1 M7
      obtain ⟨M3, c1, c2, c3⟩ := x8_s16 (M := M2) (fun (_ : Int32) (M4 : Mem) => f_X8_sums_39 k39 FU 1 0 M4)
      have hx3 : ∀ i, i < 6 → M3 177 (21 + i) = x i := fun i hi => by
        rw [c2 177 (by omega)]
        have := b2.2.1.2.2 i hi
        rw [Nat.zero_add] at this
        exact this
      obtain ⟨M4, d1, d2, d3⟩ := x8_s39 (M := M3) (x := x) hn6 (by rw [c2 176 (by omega)]; exact b2.1) hx3 k39
      have f4 : ∀ c, c ≠ 194 → c ≠ 195 → M4 c = M2 c := fun c e1 e2 => by rw [d2 c e2]; exact c2 c e1
      have hstart : ∀ R, k39 (if dc (∀ i, i < n → 0 ≤ ti x i) then 1 else 0) (nI n) M4 = R → f_X8_sums M1 = R := fun R hR => by
        rw [← hR]
        unfold f_X8_sums
        rw [b1, bs, q1, if_pos z0]
        refine Eq.trans c1 ?_
        exact d1
      unfold SUM
      by_cases hall : ∀ i, i < n → 0 ≤ ti x i
      · rw [dc_t hall, if_pos rfl] at hstart ⊢
        have hX : ∀ i, 0 ≤ Xz n x i ∧ Xz n x i ≤ 99 := fun i => by
          unfold Xz
          by_cases hi : i < n
          · rw [if_pos hi]
            exact ⟨hall i hi, (w.2.2.1.1 i (by omega)).2⟩
          · rw [if_neg hi]; omega
        have hz : ∀ V K : List Nat, ∀ i, (∀ k ∈ K, k = 0) → dt (Rz n A) V K i = 0 := by
          intro V
          induction V with
          | nil => intro K i _; rfl
          | cons v V ihV =>
            intro K i hK
            have h0 : K.headD 0 = 0 := by
              cases K with
              | nil => rfl
              | cons k K => exact hK k List.mem_cons_self
            show ((K.headD 0 : Nat) : Int) * Rz n A v i + dt (Rz n A) V K.tail i = 0
            rw [h0, ihV K.tail i (fun k hk => hK k (List.mem_of_mem_tail hk)), Int.natCast_zero, Int.zero_mul]
            rfl
        have hV : VS n A x (dnl n ((rts n A).length - n)) (List.replicate ((rts n A).length - n) 0) (Xz n x) := by
          refine ⟨by rw [List.length_replicate, dnl_len], fun t ht => by have := (dnl_mem.mp ht).2; omega, fun i => (hX i).1, fun i => ?_, fun i => (hX i).2⟩
          rw [hz _ _ i (fun k hk => List.eq_of_mem_replicate hk)]
          omega
        have hC : RM M4 n A (List.replicate ((rts n A).length - n) 0) (Xz n x) := by
          refine ⟨by rw [f4 176 (by omega) (by omega)]; exact b2.1, by rw [f4 176 (by omega) (by omega)]; exact q1, hL, fun t ht i hi => by rw [f4 184 (by omega) (by omega)]; exact (q3 t ht).1 i hi, fun j k hj => ?_, fun i hi => ?_⟩
          · rw [List.eq_of_mem_replicate (List.mem_of_getElem? hj), d2 194 (by omega), c3 _ (by omega)]
            rfl
          · rw [d3 i hi]
            unfold Xz
            rw [if_pos hi]
            exact (Int32.ofInt_toInt _).symm
        obtain ⟨M5, m1, m2⟩ := x8_s97 (x := x) hA hn6 hn1 hLn 9998 1 _ _ M4 (by omega) (by omega) hV hC FU (FU_gt (by omega))
        refine ⟨M5, hstart _ ?_, b2.scr2 (fun c e1 e2 => by rw [m1 c e1 e2]; exact f4 c e1 e2), fun b hb => by rw [m1 b (by omega) (by omega), f4 b (by omega) (by omega)]; exact b4 b (by omega) (by omega) (by omega) (by omega) (by omega) (by omega)⟩
        show (if (1 : Int32) = 0 then _ else f_X8_sums_97 (fun (_ : Int32) (i2_13 : Int32) (M14 : Mem) => some (i2_13, M14)) FU 1 1 M4) = _
        rw [if_neg e10]
        refine Eq.trans m2 ?_
        rw [TOT_dnl hA hn6 hn1 x hLn, Hn_zero (Rz_Rw hA hn6 hn1) _ _ _ _ (fun k hk => List.eq_of_mem_replicate hk), Nat.sub_self, Nat.zero_add]
      · rw [dc_f hall, if_neg ff_t] at hstart ⊢
        refine ⟨M4, hstart _ ?_, b2.scr2 f4, fun b hb => by rw [f4 b (by omega) (by omega)]; exact b4 b (by omega) (by omega) (by omega) (by omega) (by omega) (by omega)⟩
        show (if (0 : Int32) = 0 then f_X8_sums_97 (fun (_ : Int32) (i2_10 : Int32) (M11 : Mem) => some (i2_10, M11)) FU 0 0 M4 else _) = _
        rw [if_pos rfl, show FU = 19999 + 1 from rfl, ef_X8_sums_97]
        unfold s_X8_sums_97
        rw [if_pos rfl]
        rfl
end OPSUMS

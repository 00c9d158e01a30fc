/-! ===== the class searches the roots ===== -/
/-- the figures of a found row: four bits a point -/
def dx (c : Nat) : Nat → Nat := dgs 16 6 c
def sm6 (c : Nat) : Nat := fo (fun i s => s + dx c i) 6 0
def stc (c p t : Nat) : Nat := enc 16 6 (fun i => if i = p then t else dx c i)
theorem enc_upd {b t p : Nat} {d : Nat → Nat} : ∀ n, p < n → enc b n (fun i => if i = p then t else d i) + d p * b ^ (n - 1 - p) = enc b n d + t * b ^ (n - 1 - p) := by
  intro n
  induction n with
  | zero => intro hp; omega
  | succ n ih =>
    intro hp
    rw [enc_s, enc_s]
    by_cases hpn : p = n
    · subst hpn
      rw [if_pos rfl, enc_congr (d' := d) (fun i hi => if_neg (by omega)), show p + 1 - 1 - p = 0 by omega, Nat.pow_zero]
      omega
    · have h1 := ih (by omega)
      rw [if_neg (fun q => hpn q.symm), show n + 1 - 1 - p = n - 1 - p + 1 by omega, Nat.pow_succ, ← Nat.mul_assoc, ← Nat.mul_assoc]
      have h2 : (enc b n (fun i => if i = p then t else d i) + d p * b ^ (n - 1 - p)) * b = (enc b n d + t * b ^ (n - 1 - p)) * b := by rw [h1]
      rw [Nat.add_mul, Nat.add_mul] at h2
      omega
section SEARCH
variable {M M' : Mem} {n : Nat} {A : Arr} {x : Row}
theorem dx_lt (c i : Nat) : dx c i < 16 := dgs_lt (by omega)
theorem stc_dx {c p t : Nat} (ht : t < 16) {i : Nat} (hi : i < 6) : dx (stc c p t) i = if i = p then t else dx c i := by
  unfold stc dx
  refine dgs_enc (by omega) 6 _ (fun i _ => ?_) i hi
  by_cases h : i = p
  · rw [if_pos h]; exact ht
  · rw [if_neg h]; exact dx_lt c i
theorem stc_lt {c p t : Nat} (ht : t < 16) : stc c p t < 16 ^ 6 := enc_lt (fun i _ => by
  by_cases h : i = p
  · rw [if_pos h]; exact ht
  · rw [if_neg h]; exact dx_lt c i)
theorem stc_eq {c p t : Nat} (hc : c < 16 ^ 6) (hp : p < 6) : stc c p t + dx c p * 16 ^ (5 - p) = c + t * 16 ^ (5 - p) := by
  have h := enc_upd (b := 16) (t := t) (p := p) (d := dx c) 6 hp
  have e : enc 16 6 (dx c) = c := enc_dgs (by omega) 6 c hc
  rw [e] at h
  exact h
theorem sm6_zs (c : Nat) : ((sm6 c : Nat) : Int) = zs 6 (zr (dx c)) := by
  have : ∀ j, ((fo (fun i s => s + dx c i) j 0 : Nat) : Int) = zs j (zr (dx c)) := by
    intro j
    induction j with
    | zero => rfl
    | succ j ih => rw [fo_s, zs_s, ← ih, Int.natCast_add]; rfl
  exact this 6
theorem stc_zr {c p t : Nat} (ht : t < 16) {i : Nat} (hi : i < 6) : zr (dx (stc c p t)) i = ua (zr (dx c)) p ((t : Int) - zr (dx c) p) i := by
  unfold zr ua
  rw [stc_dx ht hi]
  by_cases h : i = p
  · subst h
    rw [if_pos rfl, if_pos rfl]
    show (t : Int) = ((dx c i : Nat) : Int) + ((t : Int) - ((dx c i : Nat) : Int))
    omega
  · rw [if_neg h, if_neg h]
theorem sm6_stc {c p t : Nat} (ht : t < 16) (hp : p < 6) : sm6 (stc c p t) + dx c p = sm6 c + t := by
  have h1 := sm6_zs (stc c p t)
  have h2 := sm6_zs c
  rw [zs_congr (fun i hi => stc_zr ht hi), zs_ua hp] at h1
  unfold zr at h1 h2
  omega
theorem sm6_le (c : Nat) : sm6 c ≤ 90 := by
  have h1 := sm6_zs c
  have h2 := zs_ub (n := 6) (f := zr (dx c)) (b := 15) (fun i _ => by
    have := dx_lt c i
    unfold zr
    omega)
  omega
theorem p16_le {p : Nat} : 16 ^ (5 - p) ≤ 16 ^ 5 := Nat.pow_le_pow_right (by omega) (by omega)
/-- the search's rows in memory -/
def FD (M : Mem) (F : List Nat) : Prop := M 57 1 = nI F.length ∧ F.length ≤ 36 ∧ ∀ r c, F[r]? = some c → (∀ i, i < 6 → M (101 + r) i = nI (dx c i)) ∧ M 137 r = nI c ∧ M 138 r = nI (sm6 c)
/-- what they are -/
def FG (n : Nat) (A : Arr) (F : List Nat) : Prop := F.Nodup ∧ (∀ p, p < n → 16 ^ (5 - p) ∈ F) ∧ ∀ c ∈ F, c < 16 ^ 6 ∧ (∀ i, i < 6 → dx c i ≤ 9) ∧ (∀ i, n ≤ i → i < 6 → dx c i = 0) ∧ bb n (gA A) (zr (dx c)) (zr (dx c)) = 2
def rfl_ (n : Nat) (A : Arr) (c p : Nat) : Int := zr (dx c) p - bg n (gA A) (zr (dx c)) p
def Cl1 (n : Nat) (A : Arr) (F : List Nat) (c p : Nat) : Prop := 0 ≤ rfl_ n A c p → rfl_ n A c p ≤ 9 ∧ ∃ c2 ∈ F, c2 = stc c p (rfl_ n A c p).toNat
theorem code_e {p : Nat} (hp : p < 6) : (1 : Int32) <<< ((4 * (5 - nI p)) &&& 31) = nI (16 ^ (5 - p)) := (show ∀ p, p < 6 → (1 : Int32) <<< ((4 * (5 - nI p)) &&& 31) = nI (16 ^ (5 - p)) by decide +kernel) p hp
theorem i32_mv {a b c t v w : Nat} (h : a + v * w = c + t * w) : nI c + (nI t - nI v) * nI w = nI a := by
  have h1 : nI a + nI v * nI w = nI c + nI t * nI w := by
    rw [ml_i, ml_i, ad_i, ad_i, h]
  rw [Int32.sub_mul, Int32.sub_eq_add_neg, ← Int32.add_assoc, ← h1, ← Int32.sub_eq_add_neg, Int32.add_sub_cancel]
theorem i32_mv1 {a c t v : Nat} (h : a + v = c + t) : nI c + (nI t - nI v) = nI a := by
  have h1 : nI a + nI v = nI c + nI t := by rw [ad_i, ad_i, h]
  rw [Int32.sub_eq_add_neg, ← Int32.add_assoc, ← h1, ← Int32.sub_eq_add_neg, Int32.add_sub_cancel]
theorem x3_isFound {F : List Nat} (hF : FD M F) (hl : ∀ c ∈ F, c < 16 ^ 6) {c : Nat} (hc : c < 16 ^ 6) : f_X3_isFound (nI c) M = some (if c ∈ F then 1 else 0) := by
  obtain ⟨h1, h2, h3⟩ := hF
  have h := loop_find (fun m j => f_X3_isFound_2 (nI c) M (fun _ => some 0) m (nI j)) F.length (fun j => decide (F[j]? = some c)) (fun _ => some 1) (some 0) (fun m j hj hf => ?_) (fun m j hj hf => ?_) (fun m => ?_) (f := FU) (FU_gt (by omega))
  · rcases h with ⟨k, k1, k2, k3, k4⟩ | ⟨k1, k2⟩
    · rw [decide_eq_true_iff] at k3
      rw [if_pos (List.mem_of_getElem? k3)]
      exact k4
    · rw [if_neg (fun q => by
        obtain ⟨j, hj, e⟩ := List.getElem_of_mem q
        have := k1 j hj
        rw [decide_eq_false_iff_not, List.getElem?_eq_getElem hj, e] at this
        exact this rfl)]
      exact k2
  · rw [decide_eq_false_iff_not] at hf
    have e1 := (h3 j _ (List.getElem?_eq_getElem hj)).2.1
    have e2 := hl _ (List.getElem_mem hj)
    have e3 : ¬ F[j] = c := fun q => hf (by rw [List.getElem?_eq_getElem hj, q])
    simp (disch := omega) only [ef_X3_isFound_2, s_X3_isFound_2, h1, e1, iL, iT, iE, iN, iZ, i0, cl, nL, yL, nT, yT, s1_i, ad_i, z0, c0, la_1, la_2, la_11, la_12, la_21, la_22, la_27, la_54, la_10, la_243, ml_4, ml_6, ml_27, ml_10, ml_3, false_or, or_false, true_or, or_true, or_self, if_false, if_true, not_true, not_false_iff, bs, lt_p]
    rw [if_neg e3]
  · rw [decide_eq_true_iff] at hf
    have e1 := (h3 j _ hf).2.1
    simp (disch := omega) only [ef_X3_isFound_2, s_X3_isFound_2, h1, e1, iL, iT, iE, iN, iZ, i0, cl, nL, yL, nT, yT, s1_i, ad_i, z0, c0, la_1, la_2, la_11, la_12, la_21, la_22, la_27, la_54, la_10, la_243, ml_4, ml_6, ml_27, ml_10, ml_3, false_or, or_false, true_or, or_true, or_self, if_false, if_true, not_true, not_false_iff, bs, lt_p]
  · simp (disch := omega) only [ef_X3_isFound_2, s_X3_isFound_2, h1, iL, iT, iE, iN, iZ, i0, cl, nL, yL, nT, yT, s1_i, ad_i, z0, c0, la_1, la_2, la_11, la_12, la_21, la_22, la_27, la_54, la_10, la_243, ml_4, ml_6, ml_27, ml_10, ml_3, false_or, or_false, true_or, or_true, or_self, if_false, if_true, not_true, not_false_iff, bs, lt_p]
theorem FD.get {F : List Nat} (hF : FD M F) {r : Nat} (hr : r < F.length) : (∀ i, i < 6 → M (101 + r) i = nI (dx F[r] i)) ∧ M 137 r = nI F[r] ∧ M 138 r = nI (sm6 F[r]) := hF.2.2 r _ (List.getElem?_eq_getElem hr)
theorem x3_takeIn {F : List Nat} (hF : FD M F) (hl : ∀ c ∈ F, c < 16 ^ 6) {r p t : Nat} (hr : r < F.length) (hp : p < 6) (ht : t ≤ 9) :
    (stc F[r] p t ∈ F ∧ f_X3_takeIn (nI r) (nI p) (nI t) M = some (1, M)) ∨ (stc F[r] p t ∉ F ∧ F.length = 36 ∧ f_X3_takeIn (nI r) (nI p) (nI t) M = some (0, M)) ∨ (stc F[r] p t ∉ F ∧ F.length < 36 ∧ ∃ M', f_X3_takeIn (nI r) (nI p) (nI t) M = some (1, M') ∧ FD M' (F ++ [stc F[r] p t]) ∧ ∀ c, (c < 57 ∨ 140 < c) → M' c = M c) := by
  have hl36 := hF.2.1
  obtain ⟨g1, g2, g3⟩ := hF.get hr
  have hc := hl _ (List.getElem_mem hr)
  have hs := stc_eq (t := t) hc hp
  have hs2 := sm6_stc (c := F[r]) (p := p) (t := t) (by omega) hp
  have hslt := stc_lt (c := F[r]) (p := p) (t := t) (by omega)
  have e1 : f_X3_isFound (nI (stc F[r] p t)) M = some (if stc F[r] p t ∈ F then 1 else 0) := x3_isFound hF hl hslt
  have e0 := g1 p hp
  have e2 : nI F[r] + (nI t - nI (dx F[r] p)) * nI (16 ^ (5 - p)) = nI (stc F[r] p t) := i32_mv (b := 0) hs
  have e3 : nI (sm6 F[r]) + (nI t - nI (dx F[r] p)) = nI (sm6 (stc F[r] p t)) := i32_mv1 hs2
  generalize hc2 : stc F[r] p t = c2 at *
  by_cases hm : c2 ∈ F
  · refine Or.inl ⟨hm, ?_⟩
    rw [if_pos hm] at e1
    simp (disch := omega) only [f_X3_takeIn, f_X3_codeOf, e0, g2, code_e, e2, e1, e10, iL, iT, iE, iN, iZ, i0, cl, nL, yL, nT, yT, s1_i, ad_i, z0, c0, la_1, la_2, la_11, la_12, la_21, la_22, la_27, la_54, la_10, la_243, ml_4, ml_6, ml_27, ml_10, ml_3, false_or, or_false, true_or, or_true, or_self, if_false, if_true, not_true, not_false_iff, bs, lt_p]
  · rw [if_neg hm] at e1
    refine Or.inr ?_
    have h57 := hF.1
    by_cases h36 : F.length = 36
    · refine Or.inl ⟨hm, h36, ?_⟩
      have e4 : (nI 36 < (36 : Int32)) ↔ False := iff_of_false (by decide) id
      simp (disch := omega) only [f_X3_takeIn, f_X3_codeOf, e0, g2, code_e, e2, e1, h57, h36, e4, iL, iT, iE, iN, iZ, i0, cl, nL, yL, nT, yT, s1_i, ad_i, z0, c0, la_1, la_2, la_11, la_12, la_21, la_22, la_27, la_54, la_10, la_243, ml_4, ml_6, ml_27, ml_10, ml_3, false_or, or_false, true_or, or_true, or_self, if_false, if_true, not_true, not_false_iff, bs, lt_p]
    · refine Or.inr ⟨hm, by omega, ?_⟩
      have e4 : (nI F.length < (36 : Int32)) ↔ True := iff_of_true (by rw [show (36 : Int32) = nI 36 from rfl, iT (by omega) (by omega)]; omega) trivial
      refine ⟨_, by
        simp (disch := omega) only [f_X3_takeIn, f_X3_codeOf, e0, g2, code_e, e2, e1, h57, e4, x7_copyRow, uc_a, um_a, um_s, um_k, g3, e3, iL, iT, iE, iN, iZ, i0, cl, nL, yL, nT, yT, s1_i, ad_i, z0, c0, la_1, la_2, la_11, la_12, la_21, la_22, la_27, la_54, la_10, la_243, ml_4, ml_6, ml_27, ml_10, ml_3, false_or, or_false, true_or, or_true, or_self, if_false, if_true, not_true, not_false_iff, bs, lt_p]
        rfl, ⟨?_, ?_, fun q c hq => ?_⟩, fun c hc => ?_⟩
      · simp (disch := omega) only [um_s, um_a, uc_a, h57, List.length_append, List.length_cons, List.length_nil, s1_i]
      · rw [List.length_append]; show F.length + 1 ≤ 36; omega
      · by_cases hql : q < F.length
        · rw [List.getElem?_append_left hql] at hq
          obtain ⟨k1, k2, k3⟩ := hF.2.2 q c hq
          refine ⟨fun i hi => ?_, ?_, ?_⟩
          · simp (disch := omega) only [um_a, uc_a]
            exact k1 i hi
          · simp (disch := omega) only [um_a, um_k, uc_a]
            exact k2
          · simp (disch := omega) only [um_a, um_k, uc_a]
            exact k3
        · have hq2 := (List.getElem?_eq_some_iff.mp hq).1
          rw [List.length_append] at hq2
          have hq2 : q < F.length + 1 := hq2
          have : q = F.length := by omega
          subst this
          rw [List.getElem?_append_right (Nat.le_refl _), Nat.sub_self] at hq
          have hq : c2 = c := by simpa using hq
          subst hq
          refine ⟨fun i hi => ?_, ?_, ?_⟩
          · simp (disch := omega) only [um_a]
            by_cases hip : i = p
            · subst hip
              rw [um_s, ← hc2, stc_dx (by omega) hi, if_pos rfl]
            · rw [um_k hip, uc_s, cp_lt hi, g1 i hi, ← hc2, stc_dx (by omega) hi, if_neg hip]
          · simp (disch := omega) only [um_a, um_s]
          · simp (disch := omega) only [um_a, um_s]
      · simp (disch := omega) only [um_a, uc_a]
end SEARCH

/-! ===== the reference reads the text ===== -/
def RT (M : Mem) (d : Bool) (n : Nat) (A : Arr) (x : Row) : Prop := M 176 17 = nI n ∧ TO M A ∧ M 176 22 = (if d then 1 else 0) ∧ (d = true → M 176 0 = nI n ∧ RQ (M 177) 0 A x)
def RF (d : Bool) (M M' : Mem) : Prop := (∀ c, c ≠ 176 → c ≠ 177 → c ≠ 187 → c ≠ 188 → c ≠ 189 → M' c = M c) ∧ (∀ j, j ≠ 0 → j ≠ 15 → j ≠ 16 → j ≠ 17 → j ≠ 18 → j ≠ 21 → j ≠ 22 → M' 176 j = M 176 j) ∧ (d = false → M' 177 = M 177 ∧ M' 176 0 = M 176 0) ∧ ∀ q, 27 ≤ q → M' 177 q = M 177 q
def WDS (M : Mem) : Prop := ∀ k, k < 18 → M 190 k = ([113, 117, 105, 118, 101, 114, 97, 114, 114, 111, 119, 0, 114, 111, 119, 0, 0, 0] : List Int32).getD k 0
/-- the token of the reference -/
def RTk (M : Mem) (T : List Int32) (s : Nat) : Prop := M 176 15 = nI s ∧ M 176 16 = nI (tke T s)
section MREAD2
variable {M M0 M' : Mem} {T : List Int32} {n : Nat} {A : Arr} {x : Row} {d : Bool}
theorem RF.refl : RF d M M := ⟨fun _ _ _ _ _ _ => rfl, fun _ _ _ _ _ _ _ _ => rfl, fun _ => ⟨rfl, rfl⟩, fun _ _ => rfl⟩
theorem RF.tr {M1 M2 M3 : Mem} (h1 : RF d M1 M2) (h2 : RF d M2 M3) : RF d M1 M3 := ⟨fun c a b e f g => by rw [h2.1 c a b e f g]; exact h1.1 c a b e f g, fun j a b e f g h i => by rw [h2.2.1 j a b e f g h i]; exact h1.2.1 j a b e f g h i, fun hd => ⟨by rw [(h2.2.2.1 hd).1]; exact (h1.2.2.1 hd).1, by rw [(h2.2.2.1 hd).2]; exact (h1.2.2.1 hd).2⟩, fun q hq => by rw [h2.2.2.2 q hq]; exact h1.2.2.2 q hq⟩
theorem RF.mt (h : RF d M M') (hC : MT M T) : MT M' T := ⟨by rw [h.2.1 5 (by omega) (by omega) (by omega) (by omega) (by omega) (by omega) (by omega)]; exact hC.1, fun j c hj => by rw [h.1 179 (by omega) (by omega) (by omega) (by omega) (by omega)]; exact hC.2 j c hj⟩
theorem RF.wds (h : RF d M M') (hC : WDS M) : WDS M' := fun k hk => by rw [h.1 190 (by omega) (by omega) (by omega) (by omega) (by omega)]; exact hC k hk
/-- a step of the token alone -/
theorem RT.tok (h : RT M d n A x) (e : ∀ c, c ≠ 176 → c ≠ 189 → M' c = M c) (e6 : ∀ j, j ≠ 15 → j ≠ 16 → M' 176 j = M 176 j) : RT M' d n A x ∧ RF d M M' := by
  obtain ⟨h1, h2, h3, h4⟩ := h
  refine ⟨⟨by rw [e6 17 (by omega) (by omega)]; exact h1, ⟨by rw [e6 18 (by omega) (by omega)]; exact h2.1, fun k hk => by rw [e 187 (by omega) (by omega), e 188 (by omega) (by omega)]; exact h2.2 k hk⟩, by rw [e6 22 (by omega) (by omega)]; exact h3, fun hd => ⟨by rw [e6 0 (by omega) (by omega)]; exact (h4 hd).1, by rw [e 177 (by omega) (by omega)]; exact (h4 hd).2⟩⟩, fun c a _ _ _ b => e c a b, fun j _ a b _ _ _ _ => e6 j a b, fun _ => ⟨e 177 (by omega) (by omega), e6 0 (by omega) (by omega)⟩, fun q _ => by rw [e 177 (by omega) (by omega)]⟩
theorem r_next (hC : MT M T) (hL : T.length ≤ 200) {e : Nat} (he : e ≤ T.length) (h16 : M 176 16 = nI e) : ∃ M', f_X8_nextToken M = some M' ∧ (∀ c, c ≠ 176 → M' c = M c) ∧ (∀ j, j ≠ 15 → j ≠ 16 → M' 176 j = M 176 j) ∧ RTk M' T (tks T e) ∧ tks T e ≤ T.length ∧ tke T (tks T e) ≤ T.length := by
  obtain ⟨M', g1, g2, g3, g4, g5⟩ := x8_next hC hL he h16
  have h1 := tks_ok (T := T) he
  exact ⟨M', g1, g2, g3, ⟨g4, g5⟩, h1.2, (tke_ok h1.2).2.1⟩
theorem x8_number (hC : MT M T) (hL : T.length ≤ 200) {s lo hi k : Nat} (hs : s ≤ T.length) (hhi : hi < 1000) (hlo : lo < 1000) (hk : k < 6) (ht : RTk M T s) : (nm T s lo hi = none ∧ f_X8_number (nI k) (nI lo) (nI hi) M = some (0, M)) ∨ ∃ m M', nm T s lo hi = some m ∧ f_X8_number (nI k) (nI lo) (nI hi) M = some (1, M') ∧ (∀ c, c ≠ 176 → c ≠ 189 → M' c = M c) ∧ (∀ j, j ≠ 15 → j ≠ 16 → M' 176 j = M 176 j) ∧ (∀ j, j ≠ k → M' 189 j = M 189 j) ∧ M' 189 k = nI m ∧ RTk M' T (tks T (tke T s)) ∧ tks T (tke T s) ≤ T.length ∧ tke T (tks T (tke T s)) ≤ T.length := by
  have hh := x8_numberHere hC hL hs hhi hlo ht.1 ht.2
  cases hnm : nm T s lo hi with
  | none =>
    rw [hnm] at hh
    have hh : f_X8_numberHere (nI lo) (nI hi) M = some (-1) := hh
    refine Or.inl ⟨rfl, ?_⟩
    have hneg : (-1 : Int32) < 0 := by decide
    unfold f_X8_number
    rw [hh, bs, if_pos hneg, if_pos hneg]
  | some m =>
    rw [hnm] at hh
    have hh : f_X8_numberHere (nI lo) (nI hi) M = some (nI m) := hh
    have hm := nm_ok hnm
    have hpos : ¬ nI m < 0 := nI_pos (by omega)
    have hC2 : MT (um M 189 k (nI m)) T := ⟨by rw [um_a (by omega)]; exact hC.1, fun j c hj => by rw [um_a (by omega)]; exact hC.2 j c hj⟩
    obtain ⟨M1, a1, a2, a3, a4, a5, a6⟩ := r_next hC2 hL (tke_ok (T := T) hs).2.1 (by rw [um_a (by omega)]; exact ht.2)
    refine Or.inr ⟨m, M1, rfl, ?_, fun c c1 c2 => by rw [a2 c c1, um_a c2], fun j j1 j2 => by rw [a3 j j1 j2, um_a (by omega)], fun j hj => by rw [a2 189 (by omega), um_k hj], by rw [a2 189 (by omega), um_s], a4, a5, a6⟩
    unfold f_X8_number
    rw [hh, bs, if_neg hpos, if_neg (nI_in hk (by omega)), cl (by omega), lt_e, a1, bs, if_neg hpos]
theorem TO.add (h : TO M A) {u v : Nat} (h1 : ∀ k, k < A.length → M' 187 k = M 187 k ∧ M' 188 k = M 188 k) (h2 : M' 187 A.length = nI u) (h3 : M' 188 A.length = nI v) (h4 : M' 176 18 = nI (A.length + 1)) : TO M' (A ++ [(u, v)]) := by
  refine ⟨by rw [h4, List.length_append]; rfl, fun k hk => ?_⟩
  rw [List.length_append] at hk
  have hk : k < A.length + 1 := hk
  by_cases hkl : k < A.length
  · rw [(h1 k hkl).1, (h1 k hkl).2]
    have e : (A ++ [(u, v)]).getD k (0, 0) = A.getD k (0, 0) := by rw [List.getD_eq_getElem?_getD, List.getD_eq_getElem?_getD, List.getElem?_append_left hkl]
    unfold fr tt
    rw [e]
    exact h.2 k hkl
  · have : k = A.length := by omega
    subst this
    have e : (A ++ [(u, v)]).getD A.length (0, 0) = (u, v) := by rw [List.getD_eq_getElem?_getD, List.getElem?_append_right (Nat.le_refl _), Nat.sub_self]; rfl
    unfold fr tt
    rw [e]
    exact ⟨h2, h3⟩
theorem x8_anew (m : Nat) : ∃ M', f_X8_anew (nI m) M = some M' ∧ (∀ c, c ≠ 176 → c ≠ 177 → M' c = M c) ∧ (∀ j, j ≠ 0 → M' 176 j = M 176 j) ∧ M' 176 0 = nI m ∧ RQ (M' 177) 0 [] (fun _ => 0) ∧ ∀ q, 27 ≤ q → M' 177 q = M 177 q := by
  have hst : ∀ (f i : Nat) (M1 : Mem), i < 6 → ((∀ c, c ≠ 177 → M1 c = um (um M 176 0 (nI m)) 177 0 0 c) ∧ (∀ j, j < i → M1 177 (21 + j) = 0) ∧ ∀ q, (q < 21 ∨ 27 ≤ q) → M1 177 q = um (um M 176 0 (nI m)) 177 0 0 177 q) → ∃ M', ((∀ c, c ≠ 177 → M' c = um (um M 176 0 (nI m)) 177 0 0 c) ∧ (∀ j, j < i + 1 → M' 177 (21 + j) = 0) ∧ ∀ q, (q < 21 ∨ 27 ≤ q) → M' 177 q = um (um M 176 0 (nI m)) 177 0 0 177 q) ∧ f_X8_anew_14 (nI m) (fun (_ : Int32) (M5 : Mem) => some M5) (f + 1) (nI i) M1 = f_X8_anew_14 (nI m) (fun (_ : Int32) (M5 : Mem) => some M5) f (nI (i + 1)) M' := by
    intro f i M1 hi hI
    obtain ⟨i1, i2, i3⟩ := hI
    refine ⟨um M1 177 (21 + i) 0, ⟨fun c hc => by rw [um_a hc]; exact i1 c hc, fun j hj => ?_, fun q hq => by rw [um_k (by omega)]; exact i3 q hq⟩, ?_⟩
    · by_cases hji : j = i
      · subst hji; rw [um_s]
      · rw [um_k (by omega)]; exact i2 j (by omega)
    · simp (disch := omega) only [ef_X8_anew_14, s_X8_anew_14, e6y hi, iL, iT, iE, iN, iZ, i0, cl, nL, yL, nT, yT, s1_i, ad_i, z0, c0, la_1, la_2, la_11, la_12, la_21, la_22, la_27, la_54, la_10, la_243, ml_4, ml_6, ml_27, ml_10, ml_3, false_or, or_false, true_or, or_true, or_self, if_false, if_true, not_true, not_false_iff, bs, lt_p]
  obtain ⟨f', M2, ⟨g1, g2, g3⟩, g4⟩ := loop_M (fun f M i => f_X8_anew_14 (nI m) (fun (_ : Int32) (M5 : Mem) => some M5) f (nI i) M) 6 (fun i M1 => (∀ c, c ≠ 177 → M1 c = um (um M 176 0 (nI m)) 177 0 0 c) ∧ (∀ j, j < i → M1 177 (21 + j) = 0) ∧ ∀ q, (q < 21 ∨ 27 ≤ q) → M1 177 q = um (um M 176 0 (nI m)) 177 0 0 177 q) hst 6 0 (um (um M 176 0 (nI m)) 177 0 0) (by omega) ⟨fun _ _ => rfl, fun j hj => by omega, fun _ _ => rfl⟩ FU (FU_gt (by omega))
  refine ⟨M2, ?_, fun c c1 c2 => by rw [g1 c c2, um_a c2, um_a c1], fun j hj => by rw [g1 176 (by omega), um_a (by omega), um_k hj], by rw [g1 176 (by omega), um_a (by omega), um_s], ⟨by rw [g3 0 (by omega), um_s]; rfl, fun k u v hk => by simp at hk, fun i hi => by rw [Nat.zero_add]; exact g2 i hi⟩, fun q hq => by rw [g3 q (by omega), um_k (by omega), um_a (by omega)]⟩
  unfold f_X8_anew
  have e00 : ¬ ((0 : Int32) < 0 ∨ 297 ≤ (0 : Int32).toNatClampNeg) := by decide
  rw [lt_e, if_neg e00, lt_e]
  refine Eq.trans g4 ?_
  simp only [ef_X8_anew_14, s_X8_anew_14, e6n, if_true]
theorem x8_does43 (hn : n ≤ 6) (hp : M 176 0 = nI n) (hq : RQ (M 177) 0 A x) (hl : A.length ≤ 10) {y : Row} (hy : ∀ i, i < n → M 189 i = y i) (hy2 : ∀ i, n ≤ i → i < 6 → y i = x i) (i1 : Int32) : ∃ M', f_X8_does_43 i1 (fun (_ : Int32) (M4 : Mem) => some M4) FU 0 M = some M' ∧ (∀ c, c ≠ 177 → M' c = M c) ∧ RQ (M' 177) 0 A y ∧ ∀ q, 27 ≤ q → M' 177 q = M 177 q := by
  have hst : ∀ (f i : Nat) (M1 : Mem), i < n → ((∀ c, c ≠ 177 → M1 c = M c) ∧ (∀ j, j < i → M1 177 (21 + j) = y j) ∧ ∀ q, (q < 21 ∨ 21 + i ≤ q) → M1 177 q = M 177 q) → ∃ M', ((∀ c, c ≠ 177 → M' c = M c) ∧ (∀ j, j < i + 1 → M' 177 (21 + j) = y j) ∧ ∀ q, (q < 21 ∨ 21 + (i + 1) ≤ q) → M' 177 q = M 177 q) ∧ f_X8_does_43 i1 (fun (_ : Int32) (M4 : Mem) => some M4) (f + 1) (nI i) M1 = f_X8_does_43 i1 (fun (_ : Int32) (M4 : Mem) => some M4) f (nI (i + 1)) M' := by
    intro f i M1 hi hI
    obtain ⟨j1, j2, j3⟩ := hI
    have hp1 : M1 176 0 = nI n := by rw [j1 176 (by omega)]; exact hp
    have hy1 : M1 189 i = y i := by rw [j1 189 (by omega)]; exact hy i hi
    refine ⟨um M1 177 (21 + i) (y i), ⟨fun c hc => by rw [um_a hc]; exact j1 c hc, fun j hj => ?_, fun q hq => by rw [um_k (by omega)]; exact j3 q (by omega)⟩, ?_⟩
    · by_cases hji : j = i
      · subst hji; rw [um_s]
      · rw [um_k (by omega)]; exact j2 j (by omega)
    · simp (disch := omega) only [ef_X8_does_43, s_X8_does_43, hp1, hy1, iL, iT, iE, iN, iZ, i0, cl, nL, yL, nT, yT, s1_i, ad_i, z0, c0, la_1, la_2, la_11, la_12, la_21, la_22, la_27, la_54, la_10, la_243, ml_4, ml_6, ml_27, ml_10, ml_3, false_or, or_false, true_or, or_true, or_self, if_false, if_true, not_true, not_false_iff, bs, lt_p]
  obtain ⟨f', M2, ⟨g1, g2, g3⟩, g4⟩ := loop_M (fun f M i => f_X8_does_43 i1 (fun (_ : Int32) (M4 : Mem) => some M4) f (nI i) M) n (fun i M1 => (∀ c, c ≠ 177 → M1 c = M c) ∧ (∀ j, j < i → M1 177 (21 + j) = y j) ∧ ∀ q, (q < 21 ∨ 21 + i ≤ q) → M1 177 q = M 177 q) hst n 0 M (by omega) ⟨fun _ _ => rfl, fun j hj => by omega, fun _ _ => rfl⟩ FU (FU_gt (by omega))
  refine ⟨M2, ?_, g1, ⟨by rw [g3 0 (by omega)]; exact hq.1, fun k u v hk => ?_, fun i hi => ?_⟩, fun q hq => g3 q (by omega)⟩
  · refine Eq.trans g4 ?_
    have hp2 : M2 176 0 = nI n := by rw [g1 176 (by omega)]; exact hp
    simp (disch := omega) only [ef_X8_does_43, s_X8_does_43, hp2, iL, iT, iE, iN, iZ, i0, cl, nL, yL, nT, yT, s1_i, ad_i, z0, c0, la_1, la_2, la_11, la_12, la_21, la_22, la_27, la_54, la_10, la_243, ml_4, ml_6, ml_27, ml_10, ml_3, false_or, or_false, true_or, or_true, or_self, if_false, if_true, not_true, not_false_iff, bs, lt_p]
  · have hkl := (List.getElem?_eq_some_iff.mp hk).1
    rw [g3 _ (by omega), g3 _ (by omega)]
    exact hq.2.1 k u v hk
  · rw [Nat.zero_add]
    by_cases hin : i < n
    · exact g2 i hin
    · rw [g3 _ (by omega), hy2 i (by omega) hi]
      have := hq.2.2 i hi
      rw [Nat.zero_add] at this
      exact this
theorem x8_rowz (hL : T.length ≤ 200) (hn : n ≤ 6) : ∀ (k i e : Nat) (x : Row) (M : Mem), i + k = n → e ≤ T.length → MT M T → M 176 17 = nI n → RTk M T (tks T e) → (∀ j, j < i → M 189 j = x j) → ∀ f, k + 1 < f → (∃ p M', rowz T k i e x = .inl p ∧ f_X8_readsRest_90 2 (fun (i2 : Int32) (_ : Int32) (M5 : Mem) => if ¬ (i2 = 0 ∨ i2 = 1) then none else some (i2, M5)) f 1 (nI i) M = some (0, M') ∧ (∀ c, c ≠ 176 → c ≠ 189 → M' c = M c) ∧ (∀ j, j ≠ 15 → j ≠ 16 → M' 176 j = M 176 j) ∧ M' 176 15 = nI p) ∨ (∃ x' e' M', rowz T k i e x = .inr (x', e') ∧ f_X8_readsRest_90 2 (fun (i2 : Int32) (_ : Int32) (M5 : Mem) => if ¬ (i2 = 0 ∨ i2 = 1) then none else some (i2, M5)) f 1 (nI i) M = some (1, M') ∧ (∀ c, c ≠ 176 → c ≠ 189 → M' c = M c) ∧ (∀ j, j ≠ 15 → j ≠ 16 → M' 176 j = M 176 j) ∧ RTk M' T (tks T e') ∧ e' ≤ T.length ∧ (∀ j, j < n → M' 189 j = x' j) ∧ ∀ j, n ≤ j → x' j = x j) := by
  intro k
  induction k with
  | zero =>
    intro i e x M hi he hC h17 ht hy f hf
    obtain ⟨f, rfl⟩ : ∃ f', f = f' + 1 := ⟨f - 1, by omega⟩
    have : i = n := by omega
    subst this
    refine Or.inr ⟨x, e, M, rfl, ?_, fun _ _ _ => rfl, fun _ _ _ => rfl, ht, he, hy, fun _ _ => rfl⟩
    simp (disch := omega) only [ef_X8_readsRest_90, s_X8_readsRest_90, h17, eq_self, iL, iT, iE, iN, iZ, i0, cl, nL, yL, nT, yT, s1_i, ad_i, z0, c0, la_1, la_2, la_11, la_12, la_21, la_22, la_27, la_54, la_10, la_243, ml_4, ml_6, ml_27, ml_10, ml_3, false_or, or_false, true_or, or_true, or_self, if_false, if_true, not_true, not_false_iff, bs, lt_p]
  | succ k ih =>
    intro i e x M hi he hC h17 ht hy f hf
    obtain ⟨f, rfl⟩ : ∃ f', f = f' + 1 := ⟨f - 1, by omega⟩
    have hse := (tks_ok (T := T) he).2
    rcases x8_number (k := i) (lo := 0) (hi := 99) hC hL hse (by omega) (by omega) (by omega) ht with ⟨g1, g2⟩ | ⟨m, M1, g1, g2, g3, g4, g5, g6, g7, g8, g9⟩
    · refine Or.inl ⟨tks T e, M, by unfold rowz; rw [g1], ?_, fun _ _ _ => rfl, fun _ _ _ => rfl, ht.1⟩
      have g2 : f_X8_number (nI i) 0 99 M = some (0, M) := g2
      obtain ⟨f, rfl⟩ : ∃ f', f = f' + 1 := ⟨f - 1, by omega⟩
      rw [ef_X8_readsRest_90]
      unfold s_X8_readsRest_90
      rw [h17, if_neg (by rw [iL (by omega) (by omega)]; omega), if_neg e10, g2, bs, ef_X8_readsRest_90]
      unfold s_X8_readsRest_90
      rw [if_pos rfl, ite_self]
      rfl
    · have hr : rowz T (k + 1) i e x = rowz T k (i + 1) (tke T (tks T e)) (upd x i (nI m)) := by
        show (match nm T (tks T e) 0 99 with | none => Sum.inl (tks T e) | some m => rowz T k (i + 1) (tke T (tks T e)) (upd x i (nI m))) = _
        rw [g1]
      have g2 : f_X8_number (nI i) 0 99 M = some (1, M1) := g2
      have hgo : ∀ kk, f_X8_readsRest_90 2 kk (f + 1) 1 (nI i) M = f_X8_readsRest_90 2 kk f 1 (nI (i + 1)) M1 := fun kk => by
        rw [ef_X8_readsRest_90]
        unfold s_X8_readsRest_90
        rw [h17, if_neg (by rw [iL (by omega) (by omega)]; omega), if_neg e10, g2, bs, s1_i]
      have hC1 : MT M1 T := ⟨by rw [g4 5 (by omega) (by omega)]; exact hC.1, fun j c hj => by rw [g3 179 (by omega) (by omega)]; exact hC.2 j c hj⟩
      have hte := (tke_ok (T := T) hse).2.1
      rcases ih (i + 1) (tke T (tks T e)) (upd x i (nI m)) M1 (by omega) hte hC1 (by rw [g4 17 (by omega) (by omega)]; exact h17) g7 (fun j hj => by
        by_cases hji : j = i
        · subst hji; rw [g6, pk_us]
        · rw [g5 j hji, pk_un hji]; exact hy j (by omega)) f (by omega) with ⟨p, M', r1, r2, r3, r4, r5⟩ | ⟨x', e', M', r1, r2, r3, r4, r5, r6, r7, r8⟩
      · exact Or.inl ⟨p, M', hr.trans r1, (hgo _).trans r2, fun c a b => by rw [r3 c a b]; exact g3 c a b, fun j a b => by rw [r4 j a b]; exact g4 j a b, r5⟩
      · exact Or.inr ⟨x', e', M', hr.trans r1, (hgo _).trans r2, fun c a b => by rw [r3 c a b]; exact g3 c a b, fun j a b => by rw [r4 j a b]; exact g4 j a b, r5, r6, r7, fun j hj => by rw [r8 j hj, pk_un (by omega)]⟩
end MREAD2

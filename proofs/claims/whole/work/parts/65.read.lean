/-! ===== the text, read ===== -/
def rowz (T : List Int32) : Nat → Nat → Nat → Row → Nat ⊕ (Row × Nat)
  | 0, _, e, x => .inr (x, e)
  | d + 1, i, e, x => match nm T (tks T e) 0 99 with
    | none => .inl (tks T e)
    | some m => rowz T d (i + 1) (tke T (tks T e)) (upd x i (nI m))
noncomputable def clz (T : List Int32) (n : Nat) (A : Arr) (x : Row) (s : Nat) : Nat ⊕ ((Nat × Arr × Row) × Nat) :=
  if dc (wdp T 0 s) then
    match nm T (tks T (tke T s)) 1 6 with
    | none => .inl (tks T (tke T s))
    | some m => .inr ((m, [], fun _ => 0), tke T (tks T (tke T s)))
  else if dc (wdp T 1 s) then
    if A.length < 10 then
      match nm T (tks T (tke T s)) 0 (n - 1) with
      | none => .inl (tks T (tke T s))
      | some u => match nm T (tks T (tke T (tks T (tke T s)))) 0 (n - 1) with
        | none => .inl (tks T (tke T (tks T (tke T s))))
        | some v => if (rch false A n (2 ^ v)).testBit u then .inl (tks T (tke T (tks T (tke T s)))) else .inr ((n, A ++ [(u, v)], x), tke T (tks T (tke T (tks T (tke T s)))))
    else .inl s
  else if dc (wdp T 2 s) then
    match rowz T n 0 (tke T s) x with
    | .inl p => .inl p
    | .inr q => .inr ((n, A, q.1), q.2)
  else .inl s
/-- all clauses: k are allowed yet, c were read -/
noncomputable def rdz (T : List Int32) : Nat → Nat → Nat → Arr → Row → Nat → Nat ⊕ ((Nat × Arr × Row) × Nat)
  | 0, _, _, _, _, e => .inl e
  | k + 1, c, n, A, x, e => match clz T n A x (tks T e) with
    | .inl p => .inl p
    | .inr q => if tks T q.2 < T.length then (if cha T (tks T q.2) = 59 then (if k = 0 then .inl (tks T q.2) else rdz T k (c + 1) q.1.1 q.1.2.1 q.1.2.2 (tke T (tks T q.2))) else .inl (tks T q.2)) else .inr (q.1, c + 1)
def OKQ (n : Nat) (A : Arr) (x : Row) : Prop := (1 ≤ n ∧ n ≤ 6) ∧ OKA n A ∧ OKR n x
section READ2
variable {M M0 M' : Mem} {T : List Int32} {n : Nat} {A : Arr} {x : Row}
theorem x2_leadA {a : Nat} (hq : CQ M a n A x) (hA : OKA n A) (hn : n ≤ 6) (u v : Nat) (hu : u < n) (hv : v < n) : f_X2_wouldLeadRound a (nI u) (nI v) M = some (if (rch false A n (2 ^ v)).testBit u then 1 else 0) := by
  have h1 := x2_reached hq hA hn false v (by omega)
  have h1 : f_X2_reached a (nI v) 0 M = some (nI (rch false A n (2 ^ v))) := h1
  have hb := rch_lt (ew := false) hA hn (p2lt (show v < 6 by omega)) n
  unfold f_X2_wouldLeadRound
  rw [h1, bs]
  cases ht : (rch false A n (2 ^ v)).testBit u with
  | false =>
    have := (bA hb (show u < 6 by omega)).mpr ht
    rw [if_pos this, if_neg ff_t]
  | true =>
    have : ¬ nI (rch false A n (2 ^ v)) &&& (1 <<< (nI u &&& 31)) = 0 := fun q => by
      have := (bA hb (show u < 6 by omega)).mp q
      rw [ht] at this
      cases this
    rw [if_neg this, if_pos rfl]
theorem x2_begin (m : Nat) : ∃ M', f_X2_begin 5 (nI m) M = some M' ∧ CQ M' 5 m [] (fun _ => 0) ∧ ∀ c, (c < 5 ∨ 8 < c) → M' c = M c := by
  have hst : ∀ (f i : Nat) (M1 : Mem), i < 6 → ((∀ c, c ≠ 8 → M1 c = um (um M 5 0 (nI m)) 5 1 0 c) ∧ ∀ j, j < i → M1 8 j = 0) → ∃ M', ((∀ c, c ≠ 8 → M' c = um (um M 5 0 (nI m)) 5 1 0 c) ∧ ∀ j, j < i + 1 → M' 8 j = 0) ∧ f_X2_begin_12 5 (nI m) (fun (_ : Int32) (M4 : Mem) => some M4) (f + 1) (nI i) M1 = f_X2_begin_12 5 (nI m) (fun (_ : Int32) (M4 : Mem) => some M4) f (nI (i + 1)) M' := by
    intro f i M1 hi hI
    refine ⟨um M1 8 i 0, ⟨fun c hc => by rw [um_a hc]; exact hI.1 c hc, fun j hj => ?_⟩, ?_⟩
    · by_cases hji : j = i
      · subst hji; rw [um_s]
      · rw [um_k hji]; exact hI.2 j (by omega)
    · simp (disch := omega) only [ef_X2_begin_12, s_X2_begin_12, e6y hi, iL, iT, iE, iN, iZ, i0, cl, nL, yL, nT, yT, s1_i, ad_i, z0, c0, la_1, la_2, la_11, la_12, la_21, la_22, la_27, la_54, la_10, la_243, ml_4, ml_6, ml_27, ml_10, ml_3, false_or, or_false, true_or, or_true, or_self, if_false, if_true, not_true, not_false_iff, bs, lt_p]
  obtain ⟨f', M2, ⟨g1, g2⟩, g3⟩ := loop_M (fun f M i => f_X2_begin_12 5 (nI m) (fun (_ : Int32) (M4 : Mem) => some M4) f (nI i) M) 6 (fun i M1 => (∀ c, c ≠ 8 → M1 c = um (um M 5 0 (nI m)) 5 1 0 c) ∧ ∀ j, j < i → M1 8 j = 0) hst 6 0 (um (um M 5 0 (nI m)) 5 1 0) (by omega) ⟨fun _ _ => rfl, fun j hj => by omega⟩ FU (FU_gt (by omega))
  refine ⟨M2, ?_, ⟨by rw [g1 5 (by omega), um_k (by omega), um_s], by rw [g1 5 (by omega), um_s]; rfl, fun k u v hk => by simp at hk, fun i hi => g2 i hi⟩, fun c hc => by rw [g1 c (by omega), um_a (by omega), um_a (by omega)]⟩
  unfold f_X2_begin
  rw [lt_e, lt_e]
  refine Eq.trans g3 ?_
  simp only [ef_X2_begin_12, s_X2_begin_12, e6n, if_true]
/-- what the reading of the class leaves alone -/
def CF (M M' : Mem) : Prop := (∀ c, (c < 5 ∨ 8 < c) → c ≠ 45 → M' c = M c) ∧ M' 45 1 = M 45 1
theorem CF.tr {M1 M2 M3 : Mem} (h1 : CF M1 M2) (h2 : CF M2 M3) : CF M1 M3 := ⟨fun c a b => by rw [h2.1 c a b]; exact h1.1 c a b, by rw [h2.2]; exact h1.2⟩
theorem CF.ct (h : CF M M') (hC : CT M T) : CT M' T := ⟨by rw [h.2]; exact hC.1, fun j c hj => by rw [h.1 46 (by omega) (by omega)]; exact hC.2 j c hj⟩
/-- the token of the class -/
def CTk (M : Mem) (T : List Int32) (s : Nat) : Prop := M 45 3 = nI (tkk T s) ∧ M 45 4 = nI s ∧ M 45 5 = nI (tke T s)
theorem c_next (hC : CT M T) (hL : T.length ≤ 200) {e : Nat} (he : e ≤ T.length) (h5 : M 45 5 = nI e) : ∃ M', f_X5_nextToken M = some M' ∧ (∀ c, c ≠ 45 → M' c = M c) ∧ CF M M' ∧ M' 45 2 = M 45 2 ∧ CTk M' T (tks T e) ∧ tks T e ≤ T.length ∧ tke T (tks T e) ≤ T.length := by
  obtain ⟨M', g1, g2, g3, g4, g5, g6, g7⟩ := x5_next hC hL he h5
  have h1 := tks_ok (T := T) he
  exact ⟨M', g1, g2, ⟨fun c _ b => g2 c b, g3⟩, g4, ⟨g5, g6, g7⟩, h1.2, (tke_ok h1.2).2.1⟩
theorem okr_set {i m : Nat} (hx : OKR n x) (hi : i < n) (hm : m ≤ 99) : OKR n (upd x i (nI m)) := hx.upd hi ((bnd_iff _).mpr (by rw [nI_toInt (by omega)]; omega))
theorem okr_zero : OKR n (fun _ => 0) := ⟨fun i _ => by show -99 ≤ (0 : Int32).toInt ∧ (0 : Int32).toInt ≤ 99; decide, fun _ _ _ => rfl⟩
theorem oka_nil : OKA n [] := ⟨Nat.zero_le _, fun e he => by simp at he, fun _ => 0, fun e he => by simp at he⟩
theorem oka_put (hA : OKA n A) (hn : n ≤ 6) (hl : A.length < 10) {u v : Nat} (hu : u < n) (hv : v < n) (h : (rch false A n (2 ^ v)).testBit u = false) : OKA n (A ++ [(u, v)]) := by
  have hvn : 2 ^ v < 2 ^ n := Nat.pow_lt_pow_right (by omega) hv
  have hs := (rch_sat (ew := false) hA hn hvn pow_ne0).2
  refine hA.add hl hu hv (rch false A n (2 ^ v)) (rnd_cl hs) (tb_sub (rch_sub n) (by simp)) h
theorem x5_rowz (hL : T.length ≤ 200) (hn : n ≤ 6) (hA : OKA n A) : ∀ (d i e : Nat) (x : Row) (M : Mem), i + d = n → e ≤ T.length → CT M T → CQ M 5 n A x → OKR n x → M 45 5 = nI e → ∀ f, d < f → (∃ p M', rowz T d i e x = .inl p ∧ f_X5_readRow_2 (fun (_ : Int32) (M2 : Mem) => some (1, M2)) f (nI i) M = some (0, M') ∧ CF M M' ∧ M' 45 2 = M 45 2 ∧ M' 45 4 = nI p ∧ p ≤ T.length) ∨ (∃ x' e' M', rowz T d i e x = .inr (x', e') ∧ f_X5_readRow_2 (fun (_ : Int32) (M2 : Mem) => some (1, M2)) f (nI i) M = some (1, M') ∧ CF M M' ∧ M' 45 2 = M 45 2 ∧ CQ M' 5 n A x' ∧ OKR n x' ∧ e' ≤ T.length ∧ M' 45 5 = nI e') := by
  intro d
  induction d with
  | zero =>
    intro i e x M hi he hC hq hx h5 f hf
    obtain ⟨f, rfl⟩ : ∃ f', f = f' + 1 := ⟨f - 1, by omega⟩
    have : i = n := by omega
    subst this
    refine Or.inr ⟨x, e, M, rfl, ?_, ⟨fun _ _ _ => rfl, rfl⟩, rfl, hq, hx, he, h5⟩
    have h50 : M 5 0 = nI i := hq.1
    simp (disch := omega) only [ef_X5_readRow_2, s_X5_readRow_2, h50, iL, iT, iE, iN, iZ, i0, cl, nL, yL, nT, yT, s1_i, ad_i, z0, c0, la_1, la_2, la_11, la_12, la_21, la_22, la_27, la_54, la_10, la_243, ml_4, ml_6, ml_27, ml_10, ml_3, false_or, or_false, true_or, or_true, or_self, if_false, if_true, not_true, not_false_iff, bs, lt_p]
  | succ d ih =>
    intro i e x M hi he hC hq hx h5 f hf
    obtain ⟨f, rfl⟩ : ∃ f', f = f' + 1 := ⟨f - 1, by omega⟩
    obtain ⟨M1, a1, a2, a3, a4, a5, a6, a7⟩ := c_next hC hL he h5
    have hC1 := a3.ct hC
    have hnum := x5_isNumber (lo := 0) (hi := 99) hC1 hL a6 (by omega) (by omega) a5.1 a5.2.1 a5.2.2
    have hnum : f_X5_isNumber 0 99 M1 = some (if (nm T (tks T e) 0 99).isSome then 1 else 0) := hnum
    have hval := x5_value hC1 hL a6 a5.2.1 a5.2.2
    have h50 : M 5 0 = nI n := hq.1
    cases hnm : nm T (tks T e) 0 99 with
    | none =>
      refine Or.inl ⟨tks T e, M1, by unfold rowz; rw [hnm], ?_, a3, a4, a5.2.1, a6⟩
      rw [hnm] at hnum
      have hnum : f_X5_isNumber 0 99 M1 = some 0 := hnum
      simp (disch := omega) only [ef_X5_readRow_2, s_X5_readRow_2, h50, a1, hnum, iL, iT, iE, iN, iZ, i0, cl, nL, yL, nT, yT, s1_i, ad_i, z0, c0, la_1, la_2, la_11, la_12, la_21, la_22, la_27, la_54, la_10, la_243, ml_4, ml_6, ml_27, ml_10, ml_3, false_or, or_false, true_or, or_true, or_self, if_false, if_true, not_true, not_false_iff, bs, lt_p]
    | some m =>
      rw [hnm] at hnum
      have hnum : f_X5_isNumber 0 99 M1 = some 1 := hnum
      obtain ⟨o1, o2, o3, o4, o5⟩ := nm_ok hnm
      rw [o5] at hval
      have hq1 : CQ (um M1 8 i (nI m)) 5 n A (upd x i (nI m)) := by
        refine ⟨by rw [um_a (by omega), a2 5 (by omega)]; exact hq.1, by rw [um_a (by omega), a2 5 (by omega)]; exact hq.2.1, fun k u v hk => by rw [um_a (by omega), um_a (by omega), a2 _ (by omega), a2 _ (by omega)]; exact hq.2.2.1 k u v hk, fun j hj => ?_⟩
        show um M1 8 i (nI m) 8 j = _
        by_cases hji : j = i
        · subst hji; rw [um_s, pk_us]
        · rw [um_k hji, pk_un hji, a2 8 (by omega)]; exact hq.2.2.2 j hj
      have hCF : CF M (um M1 8 i (nI m)) := ⟨fun c c1 c2 => by rw [um_a (by omega)]; exact a2 c c2, by rw [um_a (by omega)]; exact a3.2⟩
      have hr : rowz T (d + 1) i e x = rowz T d (i + 1) (tke T (tks T e)) (upd x i (nI m)) := by
        show (match nm T (tks T e) 0 99 with | none => Sum.inl (tks T e) | some m => rowz T d (i + 1) (tke T (tks T e)) (upd x i (nI m))) = _
        rw [hnm]
      have hgo : f_X5_readRow_2 (fun (_ : Int32) (M2 : Mem) => some (1, M2)) (f + 1) (nI i) M = f_X5_readRow_2 (fun (_ : Int32) (M2 : Mem) => some (1, M2)) f (nI (i + 1)) (um M1 8 i (nI m)) := by
        simp (disch := omega) only [ef_X5_readRow_2, s_X5_readRow_2, h50, a1, hnum, hval, e10, iL, iT, iE, iN, iZ, i0, cl, nL, yL, nT, yT, s1_i, ad_i, z0, c0, la_1, la_2, la_11, la_12, la_21, la_22, la_27, la_54, la_10, la_243, ml_4, ml_6, ml_27, ml_10, ml_3, false_or, or_false, true_or, or_true, or_self, if_false, if_true, not_true, not_false_iff, bs, lt_p]
      rcases ih (i + 1) (tke T (tks T e)) (upd x i (nI m)) (um M1 8 i (nI m)) (by omega) a7 (hCF.ct hC) hq1 (okr_set hx (by omega) o2) (by rw [um_a (by omega)]; exact a5.2.2) f (by omega) with ⟨p, M', k1, k2, k3, k4, k5⟩ | ⟨x', e', M', k1, k2, k3, k4, k5⟩
      · exact Or.inl ⟨p, M', by rw [hr]; exact k1, by rw [hgo]; exact k2, hCF.tr k3, by rw [k4, um_a (by omega)]; exact a4, k5⟩
      · exact Or.inr ⟨x', e', M', by rw [hr]; exact k1, by rw [hgo]; exact k2, hCF.tr k3, by rw [k4, um_a (by omega)]; exact a4, k5⟩
theorem x5_clause (hL : T.length ≤ 200) (hC : CT M T) (hQ : OKQ n A x) (hq : CQ M 5 n A x) {s : Nat} (hs : s ≤ T.length) (hk : CTk M T s) : (∃ p M', clz T n A x s = .inl p ∧ f_X5_readClause M = some (0, M') ∧ CF M M' ∧ M' 45 2 = M 45 2 ∧ M' 45 4 = nI p ∧ p ≤ T.length) ∨ (∃ q M', clz T n A x s = .inr q ∧ f_X5_readClause M = some (1, M') ∧ CF M M' ∧ M' 45 2 = M 45 2 ∧ CQ M' 5 q.1.1 q.1.2.1 q.1.2.2 ∧ OKQ q.1.1 q.1.2.1 q.1.2.2 ∧ q.2 ≤ T.length ∧ M' 45 5 = nI q.2) := by
  obtain ⟨⟨hn1, hn⟩, hA, hx⟩ := hQ
  have hl10 := hA.1
  obtain ⟨k3, k4, k5⟩ := hk
  have w0 := x5_isWord (j := 0) hC hL (by omega) hs k3 k4 k5
  have w1 := x5_isWord (j := 1) hC hL (by omega) hs k3 k4 k5
  have w2 := x5_isWord (j := 2) hC hL (by omega) hs k3 k4 k5
  have hse := (tke_ok (T := T) hs).2.1
  have e00 : ¬ ¬ ((0 : Int32) = 0 ∨ (0 : Int32) = 1) := by decide
  have e11 : ¬ ¬ ((1 : Int32) = 0 ∨ (1 : Int32) = 1) := by decide
  have hfr : ∀ M1 : Mem, (∀ c, c ≠ 45 → M1 c = M c) → CQ M1 5 n A x := fun M1 h => hq.on (fun b _ _ => h b (by omega))
  by_cases c0 : wdp T 0 s
  · have hz : clz T n A x s = match nm T (tks T (tke T s)) 1 6 with
      | none => .inl (tks T (tke T s))
      | some m => .inr ((m, [], fun _ => 0), tke T (tks T (tke T s))) := by unfold clz; rw [dc_t c0, if_pos rfl]
    rw [dc_t c0, if_pos rfl] at w0
    obtain ⟨M1, a1, a2, a3, a4, a5, a6, a7⟩ := c_next hC hL hse k5
    have hC1 := a3.ct hC
    have hnum : f_X5_isNumber 1 6 M1 = some (if (nm T (tks T (tke T s)) 1 6).isSome then 1 else 0) := x5_isNumber (lo := 1) (hi := 6) hC1 hL a6 (by omega) (by omega) a5.1 a5.2.1 a5.2.2
    have hval := x5_value hC1 hL a6 a5.2.1 a5.2.2
    cases hnm : nm T (tks T (tke T s)) 1 6 with
    | none =>
      rw [hnm] at hz hnum
      have hnum : f_X5_isNumber 1 6 M1 = some 0 := hnum
      refine Or.inl ⟨_, M1, hz, ?_, a3, a4, a5.2.1, a6⟩
      simp only [f_X5_readClause, f_X5_readPoints, w0, bs, e10, if_false, a1, hnum, if_true, true_or, or_true, not_true, eq_self]
    | some m =>
      rw [hnm] at hz hnum
      have hnum : f_X5_isNumber 1 6 M1 = some 1 := hnum
      obtain ⟨o1, o2, o3, o4, o5⟩ := nm_ok hnm
      rw [o5] at hval
      obtain ⟨M2, b1, b2, b3⟩ := x2_begin (M := M1) m
      refine Or.inr ⟨_, M2, hz, ?_, ⟨fun c c1 c2 => by rw [b3 c c1]; exact a2 c c2, by rw [b3 45 (by omega)]; exact a3.2⟩, by rw [b3 45 (by omega)]; exact a4, b2, ⟨⟨o1, o2⟩, oka_nil, okr_zero⟩, a7, by rw [b3 45 (by omega)]; exact a5.2.2⟩
      simp only [f_X5_readClause, f_X5_readPoints, w0, bs, e10, if_false, a1, hnum, hval, b1, true_or, or_true, not_true, eq_self]
  rw [dc_f c0, if_neg ff_t] at w0
  by_cases c1 : wdp T 1 s
  · rw [dc_t c1, if_pos rfl] at w1
    have h51 : M 5 1 = nI A.length := hq.2.1
    by_cases hl : A.length < 10
    · have hz : clz T n A x s = match nm T (tks T (tke T s)) 0 (n - 1) with
        | none => .inl (tks T (tke T s))
        | some u => match nm T (tks T (tke T (tks T (tke T s)))) 0 (n - 1) with
          | none => .inl (tks T (tke T (tks T (tke T s))))
          | some v => if (rch false A n (2 ^ v)).testBit u then .inl (tks T (tke T (tks T (tke T s)))) else .inr ((n, A ++ [(u, v)], x), tke T (tks T (tke T (tks T (tke T s))))) := by unfold clz; rw [dc_f c0, if_neg ff_t, dc_t c1, if_pos rfl, if_pos hl]
      have hlt : nI A.length < 10 ↔ True := iff_of_true (by rw [show (10 : Int32) = nI 10 from rfl, iT (by omega) (by omega)]; exact hl) trivial
      have en : nI n - 1 = nI (n - 1) := sb_i (b := 1) (by omega)
      obtain ⟨M1, a1, a2, a3, a4, a5, a6, a7⟩ := c_next hC hL hse k5
      have hC1 := a3.ct hC
      have h501 : M1 5 0 = nI n := by rw [a2 5 (by omega)]; exact hq.1
      have hnum : f_X5_isNumber 0 (nI (n - 1)) M1 = some (if (nm T (tks T (tke T s)) 0 (n - 1)).isSome then 1 else 0) := x5_isNumber (lo := 0) hC1 hL a6 (by omega) (by omega) a5.1 a5.2.1 a5.2.2
      have hval := x5_value hC1 hL a6 a5.2.1 a5.2.2
      cases hnm : nm T (tks T (tke T s)) 0 (n - 1) with
      | none =>
        rw [hnm] at hz hnum
        have hnum : f_X5_isNumber 0 (nI (n - 1)) M1 = some 0 := hnum
        refine Or.inl ⟨_, M1, hz, ?_, a3, a4, a5.2.1, a6⟩
        simp only [f_X5_readClause, f_X5_readArrow, w0, w1, bs, e10, if_false, h51, hlt, a1, h501, en, hnum, if_true, true_or, or_true, not_true, eq_self]
      | some u =>
        rw [hnm] at hz hnum
        have hnum : f_X5_isNumber 0 (nI (n - 1)) M1 = some 1 := hnum
        obtain ⟨o1, o2, o3, o4, o5⟩ := nm_ok hnm
        rw [o5] at hval
        obtain ⟨M2, b1, b2, b3, b4, b5, b6, b7⟩ := c_next hC1 hL a7 a5.2.2
        have hC2 := b3.ct hC1
        have h502 : M2 5 0 = nI n := by rw [b2 5 (by omega)]; exact h501
        have hnum2 : f_X5_isNumber 0 (nI (n - 1)) M2 = some (if (nm T (tks T (tke T (tks T (tke T s)))) 0 (n - 1)).isSome then 1 else 0) := x5_isNumber (lo := 0) hC2 hL b6 (by omega) (by omega) b5.1 b5.2.1 b5.2.2
        have hval2 := x5_value hC2 hL b6 b5.2.1 b5.2.2
        have hCF := a3.tr b3
        have e452 : M2 45 2 = M 45 2 := by rw [b4]; exact a4
        cases hnm2 : nm T (tks T (tke T (tks T (tke T s)))) 0 (n - 1) with
        | none =>
          rw [hnm2] at hnum2
          have hz : clz T n A x s = .inl (tks T (tke T (tks T (tke T s)))) := by rw [hz]; show (match nm T (tks T (tke T (tks T (tke T s)))) 0 (n - 1) with | none => _ | some v => _) = _; rw [hnm2]
          have hnum2 : f_X5_isNumber 0 (nI (n - 1)) M2 = some 0 := hnum2
          refine Or.inl ⟨_, M2, hz, ?_, hCF, e452, b5.2.1, b6⟩
          simp only [f_X5_readClause, f_X5_readArrow, w0, w1, bs, e10, if_false, h51, hlt, a1, h501, en, hnum, hval, b1, h502, hnum2, if_true, true_or, or_true, not_true, eq_self]
        | some v =>
          rw [hnm2] at hnum2
          have hz : clz T n A x s = if (rch false A n (2 ^ v)).testBit u then .inl (tks T (tke T (tks T (tke T s)))) else .inr ((n, A ++ [(u, v)], x), tke T (tks T (tke T (tks T (tke T s))))) := by rw [hz]; show (match nm T (tks T (tke T (tks T (tke T s)))) 0 (n - 1) with | none => _ | some v => _) = _; rw [hnm2]
          have hnum2 : f_X5_isNumber 0 (nI (n - 1)) M2 = some 1 := hnum2
          obtain ⟨p1, p2, p3, p4, p5⟩ := nm_ok hnm2
          rw [p5] at hval2
          have hq2 : CQ M2 5 n A x := hfr M2 (fun c hc => by rw [b2 c hc]; exact a2 c hc)
          have hld := x2_leadA hq2 hA hn u v (by omega) (by omega)
          cases htb : (rch false A n (2 ^ v)).testBit u with
          | true =>
            rw [htb] at hz hld
            rw [if_pos rfl] at hz hld
            refine Or.inl ⟨_, M2, hz, ?_, hCF, e452, b5.2.1, b6⟩
            simp only [f_X5_readClause, f_X5_readArrow, w0, w1, bs, e10, if_false, h51, hlt, a1, h501, en, hnum, hval, b1, h502, hnum2, hval2, hld, if_true, true_or, or_true, not_true, eq_self]
          | false =>
            rw [htb] at hz hld
            rw [if_neg ff_t] at hz hld
            obtain ⟨M3, d1, d2, d3⟩ := x2_join hq2 hl u v
            refine Or.inr ⟨_, M3, hz, ?_, hCF.tr ⟨fun c c1 c2 => d3 c (by omega), by rw [d3 45 (by omega)]⟩, by rw [d3 45 (by omega)]; exact e452, d2, ⟨⟨hn1, hn⟩, oka_put hA hn hl (by omega) (by omega) htb, hx⟩, b7, by rw [d3 45 (by omega)]; exact b5.2.2⟩
            simp only [f_X5_readClause, f_X5_readArrow, w0, w1, bs, e10, if_false, h51, hlt, a1, h501, en, hnum, hval, b1, h502, hnum2, hval2, hld, d1, if_true, true_or, or_true, not_true, eq_self]
    · have hz : clz T n A x s = .inl s := by unfold clz; rw [dc_f c0, if_neg ff_t, dc_t c1, if_pos rfl, if_neg hl]
      have hlt : nI A.length < 10 ↔ False := iff_of_false (by rw [show (10 : Int32) = nI 10 from rfl, iT (by omega) (by omega)]; exact hl) id
      refine Or.inl ⟨s, M, hz, ?_, ⟨fun _ _ _ => rfl, rfl⟩, rfl, k4, hs⟩
      simp only [f_X5_readClause, f_X5_readArrow, w0, w1, bs, e10, if_false, h51, hlt, if_true, true_or, or_true, not_true, eq_self]
  rw [dc_f c1, if_neg ff_t] at w1
  by_cases c2 : wdp T 2 s
  · rw [dc_t c2, if_pos rfl] at w2
    have hz : clz T n A x s = match rowz T n 0 (tke T s) x with
      | .inl p => .inl p
      | .inr q => .inr ((n, A, q.1), q.2) := by unfold clz; rw [dc_f c0, if_neg ff_t, dc_f c1, if_neg ff_t, dc_t c2, if_pos rfl]
    rcases x5_rowz hL hn hA n 0 (tke T s) x M (by omega) hse hC hq hx k5 FU (FU_gt (by omega)) with ⟨p, M', r1, r2, r3, r4, r5⟩ | ⟨x', e', M', r1, r2, r3, r4, r5, r6, r7, r8⟩
    · rw [r1] at hz
      refine Or.inl ⟨p, M', hz, ?_, r3, r4, r5⟩
      have r2 : f_X5_readRow M = some (0, M') := r2
      simp only [f_X5_readClause, w0, w1, w2, bs, e10, if_false, r2, if_true]
    · rw [r1] at hz
      refine Or.inr ⟨_, M', hz, ?_, r3, r4, r5, ⟨⟨hn1, hn⟩, hA, r6⟩, r7, r8⟩
      have r2 : f_X5_readRow M = some (1, M') := r2
      simp only [f_X5_readClause, w0, w1, w2, bs, e10, if_false, r2, if_true]
  · rw [dc_f c2, if_neg ff_t] at w2
    have hz : clz T n A x s = .inl s := by unfold clz; rw [dc_f c0, if_neg ff_t, dc_f c1, if_neg ff_t, dc_f c2, if_neg ff_t]
    refine Or.inl ⟨s, M, hz, ?_, ⟨fun _ _ _ => rfl, rfl⟩, rfl, k4, hs⟩
    simp only [f_X5_readClause, w0, w1, w2, bs, if_true]
theorem kd_59 : kd 59 = 3 := by decide
/-- one clause, and what stands behind it -/
theorem x5_one (hL : T.length ≤ 200) {i c e : Nat} (hi : i < 24) (hQ : OKQ n A x) (hq : CQ M 5 n A x) (hC : CT M T) (he : e ≤ T.length) (h5 : M 45 5 = nI e) (h2 : M 45 2 = nI c) (f : Nat) : (∃ p M', clz T n A x (tks T e) = .inl p ∧ p ≤ T.length ∧ f_X5_readInto_12 (fun (_ : Int32) (M4 : Mem) => some (M4 45 4, M4)) (f + 1) (nI i) M = some (nI p, M') ∧ CF M M') ∨ ∃ q M', clz T n A x (tks T e) = .inr q ∧ q.2 ≤ T.length ∧ CF M M' ∧ CQ M' 5 q.1.1 q.1.2.1 q.1.2.2 ∧ OKQ q.1.1 q.1.2.1 q.1.2.2 ∧ M' 45 2 = nI (c + 1) ∧ M' 45 4 = nI (tks T q.2) ∧ M' 45 5 = nI (tke T (tks T q.2)) ∧ tks T q.2 ≤ T.length ∧ tke T (tks T q.2) ≤ T.length ∧ f_X5_readInto_12 (fun (_ : Int32) (M4 : Mem) => some (M4 45 4, M4)) (f + 1) (nI i) M = if tks T q.2 < T.length then (if cha T (tks T q.2) = 59 then f_X5_readInto_12 (fun (_ : Int32) (M4 : Mem) => some (M4 45 4, M4)) f (nI (i + 1)) M' else some (nI (tks T q.2), M')) else some (-1, M') := by
  have n24 : ¬ (24 : Int32) ≤ nI i := by rw [show (24 : Int32) = nI 24 from rfl, iL (by omega) (by omega)]; omega
  obtain ⟨M1, a1, a2, a3, a4, a5, a6, a7⟩ := c_next hC hL he h5
  have hC1 := a3.ct hC
  have hq1 : CQ M1 5 n A x := hq.on (fun b _ _ => a2 b (by omega))
  rcases x5_clause hL hC1 hQ hq1 a6 a5 with ⟨p, M2, b1, b2, b3, b4, b5, b6⟩ | ⟨q, M2, b1, b2, b3, b4, b5, b6, b7, b8⟩
  · refine Or.inl ⟨p, M2, b1, b6, ?_, a3.tr b3⟩
    rw [ef_X5_readInto_12]
    unfold s_X5_readInto_12
    rw [if_neg n24, a1, bs, b2, bs, if_pos rfl]
    show some (M2 45 4, M2) = _
    rw [b5]
  · have hCF2 : CF M (um M2 45 2 (nI (c + 1))) := (a3.tr b3).tr ⟨fun c _ c2 => um_a c2, um_k (by omega)⟩
    obtain ⟨M3, d1, d2, d3, d4, d5, d6, d7⟩ := c_next (M := um M2 45 2 (nI (c + 1))) (hCF2.ct hC) hL b7 (by rw [um_k (by omega)]; exact b8)
    refine Or.inr ⟨q, M3, b1, b7, hCF2.tr d3, b5.on (fun b _ _ => by rw [d2 b (by omega), um_a (by omega)]), b6, by rw [d4, um_s], d5.2.1, d5.2.2, d6, d7, ?_⟩
    have e2 : M2 45 2 + 1 = nI (c + 1) := by rw [b4, a4, h2, s1_i]
    rw [ef_X5_readInto_12]
    unfold s_X5_readInto_12
    rw [if_neg n24, a1, bs, b2, bs, if_neg e10]
    show (lt (um M2 45 2 (M2 45 2 + 1)) fun (M5 : Mem) => _) = _
    rw [e2, lt_e, d1, bs, d5.1, d5.2.1]
    have hkk := tkk_le T (tks T q.2)
    by_cases hs2 : tks T q.2 < T.length
    · have htk : tkk T (tks T q.2) = kd (cha T (tks T q.2)) := by unfold tkk; rw [if_pos hs2]
      have hkd := kd_le (cha T (tks T q.2))
      have h46 : M3 46 (tks T q.2) = cha T (tks T q.2) := T_at ((hCF2.tr d3).ct hC).2 hs2
      rw [if_pos hs2, if_neg (fun z => by have := (i0 (by omega)).mp z; omega)]
      by_cases h59 : cha T (tks T q.2) = 59
      · have h3 : tkk T (tks T q.2) = 3 := by rw [htk, h59, kd_59]
        rw [if_pos (show nI (tkk T (tks T q.2)) = 3 by rw [h3]; rfl), if_neg (nI_in (show tks T q.2 < 200 by omega) (by omega)), cl (by omega), h46, if_pos h59, if_pos h59, s1_i]
      · rw [if_neg h59]
        by_cases h3 : nI (tkk T (tks T q.2)) = 3
        · rw [if_pos h3, if_neg (nI_in (show tks T q.2 < 200 by omega) (by omega)), cl (by omega), h46, if_neg h59]
        · rw [if_neg h3]
    · have htk : tkk T (tks T q.2) = 0 := by unfold tkk; rw [if_neg hs2]
      rw [if_neg hs2, htk, if_pos (show nI 0 = 0 from rfl)]
theorem rdz_l {k c n : Nat} {A : Arr} {x : Row} {e p : Nat} (h : clz T n A x (tks T e) = .inl p) : rdz T (k + 1) c n A x e = .inl p := by
  show (match clz T n A x (tks T e) with | .inl p => _ | .inr q => _) = _
  rw [h]
theorem rdz_r {k c n : Nat} {A : Arr} {x : Row} {e : Nat} {q : (Nat × Arr × Row) × Nat} (h : clz T n A x (tks T e) = .inr q) : rdz T (k + 1) c n A x e = if tks T q.2 < T.length then (if cha T (tks T q.2) = 59 then (if k = 0 then .inl (tks T q.2) else rdz T k (c + 1) q.1.1 q.1.2.1 q.1.2.2 (tke T (tks T q.2))) else .inl (tks T q.2)) else .inr (q.1, c + 1) := by
  show (match clz T n A x (tks T e) with | .inl p => _ | .inr q => _) = _
  rw [h]
theorem x5_rdz (hL : T.length ≤ 200) : ∀ (k i n : Nat) (A : Arr) (x : Row) (e : Nat) (M : Mem), i + (k + 1) = 24 → OKQ n A x → CQ M 5 n A x → CT M T → e ≤ T.length → M 45 5 = nI e → M 45 2 = nI i → ∀ f, k + 1 < f → (∃ p M', rdz T (k + 1) i n A x e = .inl p ∧ f_X5_readInto_12 (fun (_ : Int32) (M4 : Mem) => some (M4 45 4, M4)) f (nI i) M = some (nI p, M') ∧ p ≤ 200 ∧ CF M M') ∨ (∃ q M', rdz T (k + 1) i n A x e = .inr q ∧ f_X5_readInto_12 (fun (_ : Int32) (M4 : Mem) => some (M4 45 4, M4)) f (nI i) M = some (-1, M') ∧ CF M M' ∧ CQ M' 5 q.1.1 q.1.2.1 q.1.2.2 ∧ OKQ q.1.1 q.1.2.1 q.1.2.2 ∧ M' 45 2 = nI q.2) := by
  intro k
  induction k with
  | zero =>
    intro i n A x e M hi hQ hq hC he h5 h2 f hf
    obtain ⟨f, rfl⟩ : ∃ f', f = f' + 1 := ⟨f - 1, by omega⟩
    rcases x5_one (i := i) hL (by omega) hQ hq hC he h5 h2 f with ⟨p, M', g1, g2, g3, g4⟩ | ⟨q, M', g1, g2, g3, g4, g5, g6, g7, g8, g9, g10, g11⟩
    · exact Or.inl ⟨p, M', rdz_l g1, g3, by omega, g4⟩
    · have hz := rdz_r (k := 0) (c := i) g1
      by_cases hs2 : tks T q.2 < T.length
      · rw [if_pos hs2] at hz g11
        by_cases h59 : cha T (tks T q.2) = 59
        · rw [if_pos h59] at hz g11
          rw [if_pos rfl] at hz
          refine Or.inl ⟨_, M', hz, ?_, by omega, g3⟩
          rw [g11]
          obtain ⟨f, rfl⟩ : ∃ f', f = f' + 1 := ⟨f - 1, by omega⟩
          have n24 : (24 : Int32) ≤ nI (i + 1) := by rw [show (24 : Int32) = nI 24 from rfl, iL (by omega) (by omega)]; omega
          rw [ef_X5_readInto_12]
          unfold s_X5_readInto_12
          rw [if_pos n24]
          show some (M' 45 4, M') = _
          rw [g7]
        · rw [if_neg h59] at hz g11
          exact Or.inl ⟨_, M', hz, g11, by omega, g3⟩
      · rw [if_neg hs2] at hz g11
        exact Or.inr ⟨_, M', hz, g11, g3, g4, g5, g6⟩
  | succ k ih =>
    intro i n A x e M hi hQ hq hC he h5 h2 f hf
    obtain ⟨f, rfl⟩ : ∃ f', f = f' + 1 := ⟨f - 1, by omega⟩
    rcases x5_one (i := i) hL (by omega) hQ hq hC he h5 h2 f with ⟨p, M', g1, g2, g3, g4⟩ | ⟨q, M', g1, g2, g3, g4, g5, g6, g7, g8, g9, g10, g11⟩
    · exact Or.inl ⟨p, M', rdz_l g1, g3, by omega, g4⟩
    · have hz := rdz_r (k := k + 1) (c := i) g1
      by_cases hs2 : tks T q.2 < T.length
      · rw [if_pos hs2] at hz g11
        by_cases h59 : cha T (tks T q.2) = 59
        · rw [if_pos h59] at hz g11
          rw [if_neg (by omega)] at hz
          rcases ih (i + 1) q.1.1 q.1.2.1 q.1.2.2 (tke T (tks T q.2)) M' (by omega) g5 g4 (g3.ct hC) g10 g8 g6 f (by omega) with ⟨p, M2, k1, k2, k3, k4⟩ | ⟨q2, M2, k1, k2, k3, k4⟩
          · exact Or.inl ⟨p, M2, hz.trans k1, g11.trans k2, k3, g3.tr k4⟩
          · exact Or.inr ⟨q2, M2, hz.trans k1, g11.trans k2, g3.tr k3, k4⟩
        · rw [if_neg h59] at hz g11
          exact Or.inl ⟨_, M', hz, g11, by omega, g3⟩
      · rw [if_neg hs2] at hz g11
        exact Or.inr ⟨_, M', hz, g11, g3, g4, g5, g6⟩
/-- the class reads the whole text -/
theorem x5_read (hL : T.length ≤ 200) (hQ : OKQ n A x) (hq : CQ M 5 n A x) (hC : CT M T) : (∃ p M', rdz T 24 0 n A x 0 = .inl p ∧ f_X5_readInto M = some (nI p, M') ∧ p ≤ 200 ∧ CF M M') ∨ (∃ q M', rdz T 24 0 n A x 0 = .inr q ∧ f_X5_readInto M = some (-1, M') ∧ CF M M' ∧ CQ M' 5 q.1.1 q.1.2.1 q.1.2.2 ∧ OKQ q.1.1 q.1.2.1 q.1.2.2 ∧ M' 45 2 = nI q.2) := by
  have hCF : CF M (um (um M 45 2 0) 45 5 0) := ⟨fun c _ c2 => by rw [um_a c2, um_a c2], by rw [um_k (by omega), um_k (by omega)]⟩
  have h := x5_rdz (T := T) hL 23 0 n A x 0 (um (um M 45 2 0) 45 5 0) (by omega) hQ (hq.on (fun b _ _ => by rw [um_a (by omega), um_a (by omega)])) (hCF.ct hC) (Nat.zero_le _) um_s (by rw [um_k (by omega), um_s]; rfl) FU (FU_gt (by omega))
  have hgo : f_X5_readInto M = f_X5_readInto_12 (fun (_ : Int32) (M4 : Mem) => some (M4 45 4, M4)) FU (nI 0) (um (um M 45 2 0) 45 5 0) := rfl
  rw [hgo]
  rcases h with ⟨p, M', k1, k2, k3, k4⟩ | ⟨q, M', k1, k2, k3, k4⟩
  · exact Or.inl ⟨p, M', k1, k2, k3, hCF.tr k4⟩
  · exact Or.inr ⟨q, M', k1, k2, hCF.tr k3, k4⟩
end READ2

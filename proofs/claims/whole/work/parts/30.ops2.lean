/-! ===== put, cut, turn, undo ===== -/
theorem x8_inA {M : Mem} {m j : Nat} (hj : j < m) (hm : m ≤ 10) : f_X8_in (nI j).toInt64 0 ((nI m - 1).toInt64) M = some 1 :=
  x8_inY (L := 0) (lo := 0) (hi := nI m - 1) (by decide) rfl ((rg_iff (by omega) (by omega)).mpr (fun q => q.elim (fun h => (iN (by omega)).mp h) (fun h => by have := (iL (by omega) (by omega)).mp h; omega)))
theorem x8_inAN {M : Mem} {m : Nat} {i : Int32} (hm : m ≤ 10) (h : i < 0 ∨ nI m ≤ i) : f_X8_in i.toInt64 0 ((nI m - 1).toInt64) M = some 0 := by
  refine x8_inN (L := 0) (lo := 0) (hi := nI m - 1) (by decide) rfl (fun q => ?_)
  by_cases h0 : m = 0
  · subst h0
    have q1 := (fa_le _ _).mp q.1
    have q2 := (fa_le _ _).mp q.2
    have e1 : (nI 0 - 1).toInt = -1 := by decide
    have e2 : (0 : Int32).toInt = 0 := rfl
    omega
  · exact (rg_iff (by omega) (by omega)).mp q h
theorem lt_e {α β : Type} (a : α) (f : α → β) : lt a f = f a := rfl
section OPS2
variable {M M' : Mem} {n : Nat} {A A' : Arr} {x x' : Row} {P P' : List (Arr × Row)} {K K' : Nat → Option (Arr × Row)} {T T' : List Int32} {S S' : Nat → Option (List (Nat × Row))}
theorem CI.done (w : WF n A x P K T S) (hc : CI M n A x P K T S) (hq : CQ M' 1 n A' x') (hp : CP M' n P') (e : ∀ b, 5 ≤ b → (b < 9 ∨ 43 ≤ b) → M' b = M b) : CI (um (um M' 0 11 1) 0 12 1) n A' x' P' K T S :=
  hc.chg w (hq.on (fun b _ _ => by rw [um_a (by omega), um_a (by omega)])) (hp.on (fun b _ _ => by rw [um_a (by omega), um_a (by omega)])) (by rw [um_k (by omega), um_s]) um_s (fun b b1 b2 => by rw [um_a (by omega), um_a (by omega)]; exact e b b1 b2)
theorem MI.done (w : WF n A x P K T S) (hm : MI M n A x P K T S) (hq : RQ (M' 177) 0 A' x') (hp : MP M' P') (e : ∀ c, 176 ≤ c → c ≠ 176 → c ≠ 177 → c ≠ 187 → c ≠ 188 → M' c = M c) (e6 : ∀ j, j ≠ 2 → j ≠ 13 → j ≠ 18 → M' 176 j = M 176 j) (e7 : ∀ q, 243 ≤ q → M' 177 q = M 177 q) : MI (um M' 176 13 0) n A' x' P' K T S :=
  hm.chg w (by rw [um_a (by omega)]; exact hq) ⟨by rw [um_k (by omega)]; exact hp.1, by rw [um_a (by omega)]; exact hp.2⟩ (fun c c0 c1 c2 c3 c4 => by rw [um_a c1]; exact e c c0 c1 c2 c3 c4) (fun j j1 j2 j3 => by rw [um_k j2]; exact e6 j j1 j2 j3) um_s (fun q hq => by rw [um_a (by omega)]; exact e7 q hq)
theorem MI.told (hm : MI M n A x P K T S) (e : ∀ c, 177 ≤ c → c ≠ 187 → c ≠ 188 → M' c = M c) (e6 : ∀ j, j ≠ 18 → M' 176 j = M 176 j) : MI M' n A x P K T S := by
  unfold MI MP MK MT MS MN KnowsOK MC at hm ⊢
  rw [e6 0 (by omega), e6 2 (by omega), e6 5 (by omega), e6 12 (by omega), e6 13 (by omega), e 177 (by omega) (by omega) (by omega), e 178 (by omega) (by omega) (by omega), e 179 (by omega) (by omega) (by omega), e 180 (by omega) (by omega) (by omega), e 181 (by omega) (by omega) (by omega), e 182 (by omega) (by omega) (by omega), e 183 (by omega) (by omega) (by omega), e 184 (by omega) (by omega) (by omega), e 185 (by omega) (by omega) (by omega), e 186 (by omega) (by omega) (by omega), e 190 (by omega) (by omega) (by omega)]
  exact hm
theorem op_mk' {f g : Mem → Option (Int32 × Mem)} (r : Int32) (w : WF n A x P K T S) (hc : CI M n A x P K T S) (hm : MI M n A x P K T S) (hf : f M = some (r, M)) (hg : ∃ M2, g M = some (r, M2) ∧ MI M2 n A x P K T S ∧ ∀ b, b < 176 → M2 b = M b) : ∃ r M1 M2, f M = some (r, M1) ∧ g M1 = some (r, M2) ∧ Inv M2 := by
  obtain ⟨M2, h1, h2, h3⟩ := hg
  exact ⟨r, M, M2, hf, h1, n, A, x, P, K, T, S, w, hc.frame w h3, h2⟩
theorem p2lt {p : Nat} (h : p < 6) : 2 ^ p < 64 := (show ∀ p, p < 6 → 2 ^ p < 64 by decide) p h
theorem e10 : ¬ (1 : Int32) = 0 := by decide
theorem x2_leadRound (hq : CQ M 1 n A x) (hA : OKA n A) (hn : n ≤ 6) (u v : Nat) (hu : u < n) (hv : v < n) : f_X2_wouldLeadRound 1 (nI u) (nI v) M = some (if (rch false A n (2 ^ v)).testBit u then 1 else 0) := by
  have h : f_X2_reached 1 (nI v) 0 M = _ := x2_reached hq hA hn false v (by omega)
  have hb := rch_lt (ew := false) hA hn (p2lt (show v < 6 by omega)) n
  unfold f_X2_wouldLeadRound
  rw [h]
  simp (disch := omega) only [bA, Option.bind_some]
  by_cases hb2 : (rch false A n (2 ^ v)).testBit u = true
  · rw [hb2]; rfl
  · have : (rch false A n (2 ^ v)).testBit u = false := by simpa using hb2
    rw [this]; rfl
theorem pow_ne0 {v : Nat} : 2 ^ v ≠ 0 := by have := Nat.two_pow_pos v; omega
theorem op_put (h : Inv M) (i v : Int32) : ∃ r M1 M2, f_X7_put i v M = some (r, M1) ∧ f_X8_put i v M1 = some (r, M2) ∧ Inv M2 := by
  obtain ⟨n, A, x, P, K, T, S, w, hc, hm⟩ := id h
  have hn6 := w.1.2
  have hnc := hc.1.1
  have hA := w.2.1
  have hl := hA.1
  rcases pk_ix i (n := n) (by omega) with hi | hi | ⟨j, hj, rfl⟩
  · exact op_no (f := f_X7_put i v) (g := f_X8_put i v) h (-1000001) (by unfold f_X7_put; rw [x2_hasPointN hnc (Or.inl hi)]; rfl) (by unfold f_X8_put; rw [x8_isPointN hm.1 w.1.1 hn6 (Or.inl hi)]; rfl)
  · exact op_no (f := f_X7_put i v) (g := f_X8_put i v) h (-1000001) (by unfold f_X7_put; rw [x2_hasPointN hnc (Or.inr hi)]; rfl) (by unfold f_X8_put; rw [x8_isPointN hm.1 w.1.1 hn6 (Or.inr hi)]; rfl)
  have e1 : f_X2_hasPoint 1 (nI j) M = some 1 := x2_hasPoint hnc hn6 j hj
  have hno : (v < 0 ∨ nI n ≤ v) → ∃ r M1 M2, f_X7_put (nI j) v M = some (r, M1) ∧ f_X8_put (nI j) v M1 = some (r, M2) ∧ Inv M2 := fun hi => op_no (f := f_X7_put (nI j) v) (g := f_X8_put (nI j) v) h (-1000001) (by simp (disch := omega) only [f_X7_put, e1, x2_hasPointN hnc hi, e10, iL, iT, iE, iN, iZ, i0, cl, nL, yL, nT, yT, s1_i, ad_i, z0, c0, la_1, la_2, la_11, la_12, la_21, la_22, la_27, la_54, la_10, la_243, ml_4, ml_6, ml_27, ml_10, ml_3, false_or, or_false, true_or, or_true, or_self, if_false, if_true, not_true, not_false_iff, Option.bind_some, lt]) (by simp (disch := omega) only [f_X8_put, x8_isPoint hm.1 hn6 j hj, x8_isPointN hm.1 w.1.1 hn6 hi, e10, iL, iT, iE, iN, iZ, i0, cl, nL, yL, nT, yT, s1_i, ad_i, z0, c0, la_1, la_2, la_11, la_12, la_21, la_22, la_27, la_54, la_10, la_243, ml_4, ml_6, ml_27, ml_10, ml_3, false_or, or_false, true_or, or_true, or_self, if_false, if_true, not_true, not_false_iff, Option.bind_some, lt])
  rcases pk_ix v (n := n) (by omega) with hv | hv | ⟨k, hk, rfl⟩
  · exact hno (Or.inl hv)
  · exact hno (Or.inr hv)
  have e2 : f_X2_hasPoint 1 (nI k) M = some 1 := x2_hasPoint hnc hn6 k hk
  by_cases hjk : j = k
  · subst hjk
    exact op_no (f := f_X7_put (nI j) (nI j)) (g := f_X8_put (nI j) (nI j)) h (-1000001) (by simp (disch := omega) only [f_X7_put, e1, e10, iL, iT, iE, iN, iZ, i0, cl, nL, yL, nT, yT, s1_i, ad_i, z0, c0, la_1, la_2, la_11, la_12, la_21, la_22, la_27, la_54, la_10, la_243, ml_4, ml_6, ml_27, ml_10, ml_3, false_or, or_false, true_or, or_true, or_self, if_false, if_true, not_true, not_false_iff, Option.bind_some, lt]) (by simp (disch := omega) only [f_X8_put, x8_isPoint hm.1 hn6 j hj, e10, iL, iT, iE, iN, iZ, i0, cl, nL, yL, nT, yT, s1_i, ad_i, z0, c0, la_1, la_2, la_11, la_12, la_21, la_22, la_27, la_54, la_10, la_243, ml_4, ml_6, ml_27, ml_10, ml_3, false_or, or_false, true_or, or_true, or_self, if_false, if_true, not_true, not_false_iff, Option.bind_some, lt])
  have hs := rch_sat (ew := false) (b := 2 ^ k) hA hn6 (Nat.pow_lt_pow_right (by omega) hk) pow_ne0
  have e3 := x2_leadRound hc.1 hA hn6 j k hj hk
  have tell : ∀ M1, MI M1 n A x P K T S → ∃ M2, f_X8_tellsArrows M1 = some M2 ∧ MI M2 n A x P K T S ∧ (∀ c, c ≠ 176 → c ≠ 187 → c ≠ 188 → M2 c = M1 c) ∧ (∀ q, q ≠ 18 → M2 176 q = M1 176 q) ∧ f_X8_leads (nI k) (nI j) M2 = some (if (rch false A n (2 ^ k)).testBit j then 1 else 0) := by
    intro M1 hm1
    obtain ⟨M2, g1, g2, g3, g4⟩ := x8_tells hm1.2.1 hA
    refine ⟨M2, g1, hm1.told (fun c c1 c2 c3 => g3 c (by omega) c2 c3) g4, g3, g4, ?_⟩
    rw [x8_leads g2 hA hn6 k j (by omega) (by omega), hs.1]
  have f1 := x8_isPoint hm.1 hn6 j hj
  by_cases hb : (rch false A n (2 ^ k)).testBit j = true
  · obtain ⟨M2, g1, g2, g3, g4, g5⟩ := tell M hm
    rw [if_pos hb] at e3 g5
    exact op_mk' (f := f_X7_put (nI j) (nI k)) (g := f_X8_put (nI j) (nI k)) (-1000003) w hc hm (by simp (disch := omega) only [f_X7_put, e1, e2, e3, e10, hjk, iL, iT, iE, iN, iZ, i0, cl, nL, yL, nT, yT, s1_i, ad_i, z0, c0, la_1, la_2, la_11, la_12, la_21, la_22, la_27, la_54, la_10, la_243, ml_4, ml_6, ml_27, ml_10, ml_3, false_or, or_false, true_or, or_true, or_self, if_false, if_true, not_true, not_false_iff, Option.bind_some, lt]) ⟨M2, by simp (disch := omega) only [f_X8_put, f1, x8_isPoint hm.1 hn6 k hk, g1, g5, e10, hjk, iL, iT, iE, iN, iZ, i0, cl, nL, yL, nT, yT, s1_i, ad_i, z0, c0, la_1, la_2, la_11, la_12, la_21, la_22, la_27, la_54, la_10, la_243, ml_4, ml_6, ml_27, ml_10, ml_3, false_or, or_false, true_or, or_true, or_self, if_false, if_true, not_true, not_false_iff, Option.bind_some, lt], g2, fun b hb => g3 b (by omega) (by omega) (by omega)⟩
  · have hb' : (rch false A n (2 ^ k)).testBit j = false := by simpa using hb
    rw [if_neg hb] at e3
    have t10 : (10 : Int32) = nI 10 := rfl
    by_cases h10 : A.length = 10
    · obtain ⟨M2, g1, g2, g3, g4, g5⟩ := tell M hm
      rw [if_neg hb] at g5
      have e4 : M 1 1 < 10 ↔ False := by rw [hc.1.2.1, t10, iT (by omega) (by omega)]; exact iff_of_false (by omega) id
      have e5 : M2 177 0 = 10 := by rw [g2.2.1.1, h10, t10]
      exact op_mk' (f := f_X7_put (nI j) (nI k)) (g := f_X8_put (nI j) (nI k)) (-1000004) w hc hm (by simp (disch := omega) only [f_X7_put, e1, e2, e3, e10, e4, hjk, iL, iT, iE, iN, iZ, i0, cl, nL, yL, nT, yT, s1_i, ad_i, z0, c0, la_1, la_2, la_11, la_12, la_21, la_22, la_27, la_54, la_10, la_243, ml_4, ml_6, ml_27, ml_10, ml_3, false_or, or_false, true_or, or_true, or_self, if_false, if_true, not_true, not_false_iff, Option.bind_some, lt]) ⟨M2, by simp (disch := omega) only [f_X8_put, f1, x8_isPoint hm.1 hn6 k hk, g1, g5, e10, e5, hjk, iL, iT, iE, iN, iZ, i0, cl, nL, yL, nT, yT, s1_i, ad_i, z0, c0, la_1, la_2, la_11, la_12, la_21, la_22, la_27, la_54, la_10, la_243, ml_4, ml_6, ml_27, ml_10, ml_3, false_or, or_false, true_or, or_true, or_self, if_false, if_true, not_true, not_false_iff, Option.bind_some, lt], g2, fun b hb => g3 b (by omega) (by omega) (by omega)⟩
    · have hA' : OKA n (A ++ [(j, k)]) := hA.add (by omega) hj hk _ (rnd_cl hs.2) (tb_sub (rch_sub n) (Nat.testBit_two_pow_self)) hb'
      have hlen : (A ++ [(j, k)]).length = A.length + 1 := by simp
      have hres : nI (A.length + 1) - 1 = nI A.length := sb_i (a := A.length + 1) (b := 1) (by omega)
      refine op_mk (f := f_X7_put (nI j) (nI k)) (g := f_X8_put (nI j) (nI k)) (nI A.length) hm (w.deed hA' w.2.2.1) ?_ (fun M1 hm1 => ?_)
      · obtain ⟨M1, g1, g2, g3⟩ := x1_remember hc.1 hl hc.2.1 w.2.2.2.1.1
        have hq1 := hc.1.on (M' := M1) (fun b _ _ => g3 b (by omega))
        obtain ⟨M2, k1, k2, k3⟩ := x2_join hq1 (by omega) j k
        have hp2 := g2.on (M' := M2) (fun b _ _ => k3 b (by omega))
        refine ⟨_, ?_, hc.done w k2 hp2 (fun b b1 b2 => by rw [k3 b (by omega), g3 b (by omega)]), fun b hb => by rw [um_a (by omega), um_a (by omega), k3 b (by omega), g3 b (by omega)]⟩
        have e4 : M 1 1 < 10 ↔ True := by rw [hc.1.2.1, t10, iT (by omega) (by omega)]; exact iff_of_true (by omega) trivial
        simp (disch := omega) only [f_X7_put, e1, e2, e3, e10, e4, hjk, g1, k1, x7_changed, um_a, k2.2.1, hlen, hres, iL, iT, iE, iN, iZ, i0, cl, nL, yL, nT, yT, s1_i, ad_i, z0, c0, la_1, la_2, la_11, la_12, la_21, la_22, la_27, la_54, la_10, la_243, ml_4, ml_6, ml_27, ml_10, ml_3, false_or, or_false, true_or, or_true, or_self, if_false, if_true, not_true, not_false_iff, Option.bind_some, lt]
      · obtain ⟨M2, g1, g2, g3, g4, g5⟩ := tell M1 hm1
        rw [if_neg hb] at g5
        have e5 : M2 177 0 = 10 ↔ False := by rw [g2.2.1.1, t10, iE (by omega) (by omega)]; exact iff_of_false (by omega) id
        obtain ⟨M3, k1, k2, k3, k4, k5⟩ := x8_keepPast g2.2.1 hl g2.2.2.1 w.2.2.2.1.1 w.pastA
        obtain ⟨M4, q1, q2, q3, q4⟩ := x8_addArrow (g2.2.1.mv hl (f' := M3 177) (fun q hq => k5 _ (by omega))) (by omega) j k
        refine ⟨um M4 176 13 0, ?_, g2.done w q2 ⟨by rw [q3 176 (by omega)]; exact k2.1, fun a e he => (k2.2 a e he).mv ?_ (fun q hq => q4 _ (by omega))⟩ (fun c c0 c1 c2 c3 c4 => by rw [q3 c c2, k3 c c1 c2]) (fun a a1 a2 a3 => by rw [q3 176 (by omega), k4 a a1]) (fun q hq => by rw [q4 q (by omega), k5 q (by omega)]), fun b hb => by rw [um_a (by omega), q3 b (by omega), k3 b (by omega) (by omega), g3 b (by omega) (by omega) (by omega)]⟩
        · have e6 : M4 177 0 = nI (A.length + 1) := by rw [q2.1, hlen]
          simp (disch := omega) only [f_X8_put, x8_isPoint hm1.1 hn6 j hj, x8_isPoint hm1.1 hn6 k hk, g1, g5, e10, e5, hjk, k1, q1, um_a, e6, hres, iL, iT, iE, iN, iZ, i0, cl, nL, yL, nT, yT, s1_i, ad_i, z0, c0, la_1, la_2, la_11, la_12, la_21, la_22, la_27, la_54, la_10, la_243, ml_4, ml_6, ml_27, ml_10, ml_3, false_or, or_false, true_or, or_true, or_self, if_false, if_true, not_true, not_false_iff, Option.bind_some, lt]
        · rcases psh_mem (List.mem_of_getElem? he) with rfl | h9
          · exact hl
          · exact w.pastA e h9
theorem op_cut (h : Inv M) (i : Int32) : ∃ r M1 M2, f_X7_cut i M = some (r, M1) ∧ f_X8_cut i M1 = some (r, M2) ∧ Inv M2 := by
  obtain ⟨n, A, x, P, K, T, S, w, hc, hm⟩ := id h
  have hn6 := w.1.2
  have hA := w.2.1
  have hl := hA.1
  have hm0 : M 177 0 = nI A.length := hm.2.1.1
  have hno : (i < 0 ∨ nI A.length ≤ i) → ∃ r M1 M2, f_X7_cut i M = some (r, M1) ∧ f_X8_cut i M1 = some (r, M2) ∧ Inv M2 := fun hi => op_no (f := f_X7_cut i) (g := f_X8_cut i) h (-1000001) (by unfold f_X7_cut; rw [x2_hasArrowN hc.1.2.1 hi]; rfl) (by simp (disch := omega) only [f_X8_cut, hm0, x8_inAN hl hi, iL, iT, iE, iN, iZ, i0, cl, nL, yL, nT, yT, s1_i, ad_i, z0, c0, la_1, la_2, la_11, la_12, la_21, la_22, la_27, la_54, la_10, la_243, ml_4, ml_6, ml_27, ml_10, ml_3, false_or, or_false, true_or, or_true, or_self, if_false, if_true, not_true, not_false_iff, Option.bind_some, lt])
  rcases pk_ix i (n := A.length) (by omega) with hi | hi | ⟨j, hj, rfl⟩
  · exact hno (Or.inl hi)
  · exact hno (Or.inr hi)
  have hlen : (A.eraseIdx j).length = A.length - 1 := List.length_eraseIdx_of_lt hj
  have hres : nI A.length - 1 = nI (A.length - 1) := sb_i (b := 1) (by omega)
  refine op_mk (f := f_X7_cut (nI j)) (g := f_X8_cut (nI j)) (nI (A.length - 1)) hm (w.deed (hA.erase j) w.2.2.1) ?_ (fun M1 hm1 => ?_)
  · obtain ⟨M1, g1, g2, g3⟩ := x1_remember hc.1 hl hc.2.1 w.2.2.2.1.1
    have hq1 := hc.1.on (M' := M1) (fun b _ _ => g3 b (by omega))
    obtain ⟨M2, k1, k2, k3⟩ := x2_sever hq1 hl j hj
    have hp2 := g2.on (M' := M2) (fun b _ _ => k3 b (by omega))
    refine ⟨_, ?_, hc.done w k2 hp2 (fun b b1 b2 => by rw [k3 b (by omega), g3 b (by omega)]), fun b hb => by rw [um_a (by omega), um_a (by omega), k3 b (by omega), g3 b (by omega)]⟩
    simp (disch := omega) only [f_X7_cut, x2_hasArrow hc.1.2.1 hl j hj, e10, g1, k1, x7_changed, um_a, k2.2.1, hlen, iL, iT, iE, iN, iZ, i0, cl, nL, yL, nT, yT, s1_i, ad_i, z0, c0, la_1, la_2, la_11, la_12, la_21, la_22, la_27, la_54, la_10, la_243, ml_4, ml_6, ml_27, ml_10, ml_3, false_or, or_false, true_or, or_true, or_self, if_false, if_true, not_true, not_false_iff, Option.bind_some, lt]
  · obtain ⟨M3, k1, k2, k3, k4, k5⟩ := x8_keepPast hm1.2.1 hl hm1.2.2.1 w.2.2.2.1.1 w.pastA
    have hq3 : RQ (M3 177) 0 A x := hm1.2.1.mv hl (fun q hq => k5 _ (by omega))
    have h30 : M3 177 0 = nI A.length := hq3.1
    have h10 : M1 177 0 = nI A.length := hm1.2.1.1
    obtain ⟨M4, z, q1, q2, q3, q4⟩ := x8_cutLoop (fun (i2_8 : Int32) (M9 : Mem) =>
      lt (um M9 176 13 0) fun (M10 : Mem) =>
      if (0 : Int32) < 0 ∨ 297 ≤ (0 : Int32).toNatClampNeg then none else
      some (M10 177 (0 : Int32).toNatClampNeg, M10)) hq3 hl j hj _ rfl
    refine ⟨um M4 176 13 0, ?_, hm1.done w q2 ⟨by rw [q3 176 (by omega)]; exact k2.1, fun a e he => (k2.2 a e he).mv ?_ (fun q hq => q4 _ (by omega))⟩ (fun c c0 c1 c2 c3 c4 => by rw [q3 c c2, k3 c c1 c2]) (fun a a1 a2 a3 => by rw [q3 176 (by omega), k4 a a1]) (fun q hq => by rw [q4 q (by omega), k5 q (by omega)]), fun b hb => by rw [um_a (by omega), q3 b (by omega), k3 b (by omega) (by omega)]⟩
    · have e6 : M4 177 0 = nI (A.length - 1) := by rw [q2.1, hlen]
      simp (disch := omega) only [um_a, e6, iL, iT, iE, iN, iZ, i0, cl, nL, yL, nT, yT, s1_i, ad_i, z0, c0, la_1, la_2, la_11, la_12, la_21, la_22, la_27, la_54, la_10, la_243, ml_4, ml_6, ml_27, ml_10, ml_3, false_or, or_false, true_or, or_true, or_self, if_false, if_true, not_true, not_false_iff, Option.bind_some, lt] at q1
      have hin := x8_inA (M := M1) hj hl
      rw [hres] at hin
      simp (disch := omega) only [f_X8_cut, h10, hin, e10, k1, h30, hres, um_a, iL, iT, iE, iN, iZ, i0, cl, nL, yL, nT, yT, s1_i, ad_i, z0, c0, la_1, la_2, la_11, la_12, la_21, la_22, la_27, la_54, la_10, la_243, ml_4, ml_6, ml_27, ml_10, ml_3, false_or, or_false, true_or, or_true, or_self, if_false, if_true, not_true, not_false_iff, Option.bind_some, lt]
      exact q1
    · rcases psh_mem (List.mem_of_getElem? he) with rfl | h9
      · exact hl
      · exact w.pastA e h9
theorem trn_congr {y z : Row} (hA : OKA n A) {p : Nat} (hp : p < n) (h : ∀ i, i < n → y i = z i) : trn A y p = trn A z p := by
  unfold trn
  rw [h p hp]
  have : ∀ (B : Arr) (s : Int32), (∀ e ∈ B, e.1 < n ∧ e.2 < n) → B.foldl (fun s e => if e.1 = p then (if e.2 = p then s + y e.2 + y e.1 else s + y e.2) else (if e.2 = p then s + y e.1 else s)) s = B.foldl (fun s e => if e.1 = p then (if e.2 = p then s + z e.2 + z e.1 else s + z e.2) else (if e.2 = p then s + z e.1 else s)) s := by
    intro B
    induction B with
    | nil => intro s _; rfl
    | cons e B ih =>
      intro s hB
      have he := hB e List.mem_cons_self
      rw [List.foldl_cons, List.foldl_cons, h _ he.1, h _ he.2]
      exact ih _ (fun e he => hB e (List.mem_cons_of_mem _ he))
  exact this A _ hA.2.1
theorem OKR.upd {j : Nat} {v : Int32} (hx : OKR n x) (hj : j < n) (hv : -99 ≤ v ∧ v ≤ 99) : OKR n (upd x j v) := ⟨fun q hq => by
  by_cases hqj : q = j
  · subst hqj; rw [pk_us]; exact (bnd_iff v).mp hv
  · rw [pk_un hqj]; exact hx.1 q hq, fun q hq h6 => by rw [pk_un (by omega)]; exact hx.2 q hq h6⟩
theorem op_turn (h : Inv M) (i : Int32) : ∃ r M1 M2, f_X7_turn i M = some (r, M1) ∧ f_X8_turn i M1 = some (r, M2) ∧ Inv M2 := by
  obtain ⟨n, A, x, P, K, T, S, w, hc, hm⟩ := id h
  have hn6 := w.1.2
  have hnc := hc.1.1
  have hA := w.2.1
  have hl := hA.1
  have hno : (i < 0 ∨ nI n ≤ i) → ∃ r M1 M2, f_X7_turn i M = some (r, M1) ∧ f_X8_turn i M1 = some (r, M2) ∧ Inv M2 := fun hi => op_no (f := f_X7_turn i) (g := f_X8_turn i) h (-1000001) (by unfold f_X7_turn; rw [x2_hasPointN hnc hi]; rfl) (by unfold f_X8_turn; rw [x8_isPointN hm.1 w.1.1 hn6 hi]; rfl)
  rcases pk_ix i (n := n) (by omega) with hi | hi | ⟨p, hp, rfl⟩
  · exact hno (Or.inl hi)
  · exact hno (Or.inr hi)
  have e1 : f_X2_hasPoint 1 (nI p) M = some 1 := x2_hasPoint hnc hn6 p hp
  have c1 : f_X2_going 1 (nI p) M = some (cou A p) := x2_going hc.1 hA hn6 p hp
  have c2 : f_X2_coming 1 (nI p) M = some (cin A p) := x2_coming hc.1 hA hn6 p hp
  have c3 : f_X2_turnedAbout 1 4 (nI p) M = some (trn A x p) := by rw [x2_turnedAbout hc.1 hA hn6 4 p hp, trn_congr hA hp (fun i hi => hc.1.2.2.2 i (by omega))]
  have mrd : ∀ M1, MI M1 n A x P K T S → f_X8_isPoint (nI p) M1 = some 1 ∧ f_X8_about (nI p) M1 = some (trn A x p) ∧ f_X8_comes (nI p) M1 = some (cin A p) ∧ f_X8_goes (nI p) M1 = some (cou A p) := fun M1 hm1 => ⟨x8_isPoint hm1.1 hn6 p hp, by rw [x8_about hm1.2.1 hA hn6 p hp, trn_congr (z := x) hA hp (fun i hi => (by have := hm1.2.1.2.2 i (by omega); rw [Nat.zero_add] at this; exact this : M1 177 (21 + i) = x i))], x8_comes hm1.2.1 hA hn6 p hp, x8_goes hm1.2.1 hA hn6 p hp⟩
  generalize hv : trn A x p = v at c3 mrd
  obtain ⟨ci, ci10, hci⟩ := cin_nn (p := p) hl
  obtain ⟨co, co10, hco⟩ := cou_nn (p := p) hl
  have zi := cin_zero (p := p) hl
  have zo := cou_zero (p := p) hl
  rw [hci] at c2 zi
  rw [hco] at c1 zo
  simp only [hci, hco] at mrd
  rw [i0 (by omega)] at zi zo
  by_cases hno : co ≠ 0 ∧ ci ≠ 0
  · have d1 : nI co = 0 ↔ False := by rw [i0 (by omega)]; exact iff_of_false hno.1 id
    have d2 : nI ci = 0 ↔ False := by rw [i0 (by omega)]; exact iff_of_false hno.2 id
    have d3 : nI ci ≤ 0 ↔ False := by rw [show (0 : Int32) = nI 0 from rfl, iL (by omega) (by omega)]; exact iff_of_false (by have := hno.2; omega) id
    have d4 : 0 < nI co ↔ True := by rw [show (0 : Int32) = nI 0 from rfl, iT (by omega) (by omega)]; exact iff_of_true (by have := hno.1; omega) trivial
    obtain ⟨m1, m2, m3, m4⟩ := mrd M hm
    exact op_no (f := f_X7_turn (nI p)) (g := f_X8_turn (nI p)) h (-1000003) (by simp only [f_X7_turn, f_X2_isSink, f_X2_isSource, e1, c1, c2, e10, d1, d2, if_false, if_true, Option.bind_some]) (by simp only [f_X8_turn, m1, m2, m3, m4, e10, d3, d4, if_false, if_true, Option.bind_some])
  have hss : (∀ e ∈ A, e.1 ≠ p) ∨ ∀ e ∈ A, e.2 ≠ p := by
    by_cases h0 : co = 0
    · exact Or.inl (zo.mp h0)
    · exact Or.inr (zi.mp (Classical.byContradiction (fun q => hno ⟨h0, q⟩)))
  by_cases hv : -99 ≤ v ∧ v ≤ 99
  · refine op_mk (f := f_X7_turn (nI p)) (g := f_X8_turn (nI p)) v hm (w.deed (hA.swp p hss) (w.2.2.1.upd hp hv)) ?_ (fun M1 hm1 => ?_)
    · obtain ⟨M1, g1, g2, g3⟩ := x1_remember hc.1 hl hc.2.1 w.2.2.2.1.1
      have hq1 := hc.1.on (M' := M1) (fun b _ _ => g3 b (by omega))
      have hq2 : CQ (um M1 4 p v) 1 n A (upd x p v) := ⟨by rw [um_a (by omega)]; exact hq1.1, by rw [um_a (by omega)]; exact hq1.2.1, fun k a b hk => by rw [um_a (by omega), um_a (by omega)]; exact hq1.2.2.1 k a b hk, fun q hq => by
        show um M1 4 p v 4 q = _
        by_cases hqj : q = p
        · subst hqj; rw [um_s, pk_us]
        · rw [um_k hqj, pk_un hqj]; exact hq1.2.2.2 q hq⟩
      obtain ⟨M2, k1, k2, k3⟩ := x2_swap hq2 hA hn6 p hp
      have hp2 := g2.on (M' := M2) (fun b _ _ => by rw [k3 b (by omega), um_a (by omega)])
      refine ⟨_, ?_, hc.done w k2 hp2 (fun b b1 b2 => by rw [k3 b (by omega), um_a (by omega), g3 b (by omega)]), fun b hb => by rw [um_a (by omega), um_a (by omega), k3 b (by omega), um_a (by omega), g3 b (by omega)]⟩
      by_cases h0 : co = 0
      · have d1 : nI co = 0 ↔ True := by rw [i0 (by omega)]; exact iff_of_true h0 trivial
        simp (disch := omega) only [f_X7_turn, f_X2_isSink, f_X2_isSource, e1, c1, c2, c3, e10, d1, x7_bndY hv, g1, k1, x7_changed, iL, iT, iE, iN, iZ, i0, cl, nL, yL, nT, yT, s1_i, ad_i, z0, c0, la_1, la_2, la_11, la_12, la_21, la_22, la_27, la_54, la_10, la_243, ml_4, ml_6, ml_27, ml_10, ml_3, false_or, or_false, true_or, or_true, or_self, if_false, if_true, not_true, not_false_iff, Option.bind_some, lt]
      · have d1 : nI co = 0 ↔ False := by rw [i0 (by omega)]; exact iff_of_false h0 id
        have d2 : nI ci = 0 ↔ True := by rw [i0 (by omega)]; exact iff_of_true (Classical.byContradiction (fun q => hno ⟨h0, q⟩)) trivial
        simp (disch := omega) only [f_X7_turn, f_X2_isSink, f_X2_isSource, e1, c1, c2, c3, e10, d1, d2, x7_bndY hv, g1, k1, x7_changed, iL, iT, iE, iN, iZ, i0, cl, nL, yL, nT, yT, s1_i, ad_i, z0, c0, la_1, la_2, la_11, la_12, la_21, la_22, la_27, la_54, la_10, la_243, ml_4, ml_6, ml_27, ml_10, ml_3, false_or, or_false, true_or, or_true, or_self, if_false, if_true, not_true, not_false_iff, Option.bind_some, lt]
    · obtain ⟨m1, m2, m3, m4⟩ := mrd M1 hm1
      obtain ⟨M3, k1, k2, k3, k4, k5⟩ := x8_keepPast hm1.2.1 hl hm1.2.2.1 w.2.2.2.1.1 w.pastA
      have hq3 : RQ (M3 177) 0 A x := hm1.2.1.mv hl (fun q hq => k5 _ (by omega))
      have hq4 : RQ (um M3 177 (21 + p) v 177) 0 A (upd x p v) := by
        refine ⟨by rw [um_k (by omega)]; exact hq3.1, fun k a b hk => ?_, fun q hq => ?_⟩
        · have hkl := (List.getElem?_eq_some_iff.mp hk).1
          rw [um_k (by omega), um_k (by omega)]; exact hq3.2.1 k a b hk
        · rw [Nat.zero_add]
          by_cases hqj : q = p
          · subst hqj; rw [um_s, pk_us]
          · rw [um_k (by omega), pk_un hqj]
            have := hq3.2.2 q hq
            rw [Nat.zero_add] at this
            exact this
      obtain ⟨M4, z, q1, q2, q3, q4⟩ := x8_swapLoop (fun (i3_11 : Int32) (M12 : Mem) =>
          lt (um M12 176 13 0) fun (M13 : Mem) =>
          some (v, M13)) v hq4 hA hn6 p hp
      refine ⟨um M4 176 13 0, ?_, hm1.done w q2 ⟨by rw [q3 176 (by omega), um_a (by omega)]; exact k2.1, fun a e he => (k2.2 a e he).mv ?_ (fun q hq => by rw [q4 _ (by omega), um_k (by omega)])⟩ (fun c c0 c1 c2 c3 c4 => by rw [q3 c c2, um_a c2, k3 c c1 c2]) (fun a a1 a2 a3 => by rw [q3 176 (by omega), um_a (by omega), k4 a a1]) (fun q hq => by rw [q4 q (by omega), um_k (by omega), k5 q (by omega)]), fun b hb => by rw [um_a (by omega), q3 b (by omega), um_a (by omega), k3 b (by omega) (by omega)]⟩
      · have hin := x8_inY (M := M1) (i := v) (L := -99) (lo := -99) (H := 99) (hi := 99) (by decide) (by decide) hv
        by_cases h0 : ci = 0
        · have d3 : nI ci ≤ 0 ↔ True := by rw [show (0 : Int32) = nI 0 from rfl, iL (by omega) (by omega)]; exact iff_of_true (by omega) trivial
          simp (disch := omega) only [f_X8_turn, m1, m2, m3, m4, e10, d3, hin, k1, iL, iT, iE, iN, iZ, i0, cl, nL, yL, nT, yT, s1_i, ad_i, z0, c0, la_1, la_2, la_11, la_12, la_21, la_22, la_27, la_54, la_10, la_243, ml_4, ml_6, ml_27, ml_10, ml_3, false_or, or_false, true_or, or_true, or_self, if_false, if_true, not_true, not_false_iff, Option.bind_some]
          rw [lt_e]
          exact q1
        · have d3 : nI ci ≤ 0 ↔ False := by rw [show (0 : Int32) = nI 0 from rfl, iL (by omega) (by omega)]; exact iff_of_false (by omega) id
          have d4 : 0 < nI co ↔ False := by rw [show (0 : Int32) = nI 0 from rfl, iT (by omega) (by omega)]; exact iff_of_false (fun q => hno ⟨by omega, h0⟩) id
          simp (disch := omega) only [f_X8_turn, m1, m2, m3, m4, e10, d3, d4, hin, k1, iL, iT, iE, iN, iZ, i0, cl, nL, yL, nT, yT, s1_i, ad_i, z0, c0, la_1, la_2, la_11, la_12, la_21, la_22, la_27, la_54, la_10, la_243, ml_4, ml_6, ml_27, ml_10, ml_3, false_or, or_false, true_or, or_true, or_self, if_false, if_true, not_true, not_false_iff, Option.bind_some]
          rw [lt_e]
          exact q1
      · rcases psh_mem (List.mem_of_getElem? he) with rfl | h9
        · exact hl
        · exact w.pastA e h9
  · obtain ⟨m1, m2, m3, m4⟩ := mrd M hm
    have hin := x8_inN (M := M) (i := v) (L := -99) (lo := -99) (H := 99) (hi := 99) (by decide) (by decide) hv
    refine op_no (f := f_X7_turn (nI p)) (g := f_X8_turn (nI p)) h (-1000003) ?_ ?_
    · by_cases h0 : co = 0
      · have d1 : nI co = 0 ↔ True := by rw [i0 (by omega)]; exact iff_of_true h0 trivial
        simp (disch := omega) only [f_X7_turn, f_X2_isSink, f_X2_isSource, e1, c1, c2, c3, e10, d1, x7_bndN hv, iL, iT, iE, iN, iZ, i0, cl, nL, yL, nT, yT, s1_i, ad_i, z0, c0, la_1, la_2, la_11, la_12, la_21, la_22, la_27, la_54, la_10, la_243, ml_4, ml_6, ml_27, ml_10, ml_3, false_or, or_false, true_or, or_true, or_self, if_false, if_true, not_true, not_false_iff, Option.bind_some]
      · have d1 : nI co = 0 ↔ False := by rw [i0 (by omega)]; exact iff_of_false h0 id
        have d2 : nI ci = 0 ↔ True := by rw [i0 (by omega)]; exact iff_of_true (Classical.byContradiction (fun q => hno ⟨h0, q⟩)) trivial
        simp (disch := omega) only [f_X7_turn, f_X2_isSink, f_X2_isSource, e1, c1, c2, c3, e10, d1, d2, x7_bndN hv, iL, iT, iE, iN, iZ, i0, cl, nL, yL, nT, yT, s1_i, ad_i, z0, c0, la_1, la_2, la_11, la_12, la_21, la_22, la_27, la_54, la_10, la_243, ml_4, ml_6, ml_27, ml_10, ml_3, false_or, or_false, true_or, or_true, or_self, if_false, if_true, not_true, not_false_iff, Option.bind_some]
    · by_cases h0 : ci = 0
      · have d3 : nI ci ≤ 0 ↔ True := by rw [show (0 : Int32) = nI 0 from rfl, iL (by omega) (by omega)]; exact iff_of_true (by omega) trivial
        simp (disch := omega) only [f_X8_turn, m1, m2, m3, m4, e10, d3, hin, iL, iT, iE, iN, iZ, i0, cl, nL, yL, nT, yT, s1_i, ad_i, z0, c0, la_1, la_2, la_11, la_12, la_21, la_22, la_27, la_54, la_10, la_243, ml_4, ml_6, ml_27, ml_10, ml_3, false_or, or_false, true_or, or_true, or_self, if_false, if_true, not_true, not_false_iff, Option.bind_some]
      · have d3 : nI ci ≤ 0 ↔ False := by rw [show (0 : Int32) = nI 0 from rfl, iL (by omega) (by omega)]; exact iff_of_false (by omega) id
        have d4 : 0 < nI co ↔ False := by rw [show (0 : Int32) = nI 0 from rfl, iT (by omega) (by omega)]; exact iff_of_false (fun q => hno ⟨by omega, h0⟩) id
        simp (disch := omega) only [f_X8_turn, m1, m2, m3, m4, e10, d3, d4, hin, iL, iT, iE, iN, iZ, i0, cl, nL, yL, nT, yT, s1_i, ad_i, z0, c0, la_1, la_2, la_11, la_12, la_21, la_22, la_27, la_54, la_10, la_243, ml_4, ml_6, ml_27, ml_10, ml_3, false_or, or_false, true_or, or_true, or_self, if_false, if_true, not_true, not_false_iff, Option.bind_some]
theorem op_undo (h : Inv M) : ∃ r M1 M2, f_X7_undo M = some (r, M1) ∧ f_X8_undo M1 = some (r, M2) ∧ Inv M2 := by
  obtain ⟨n, A, x, P, K, T, S, w, hc, hm⟩ := id h
  have hn6 := w.1.2
  have hP8 := w.2.2.2.1.1
  rcases List.eq_nil_or_concat P with rfl | ⟨P0, e, hPe⟩
  · have c1 : M 9 2 = 0 := hc.2.1.1
    have c2 : M 176 2 = 0 := hm.2.2.1.1
    exact op_no (f := f_X7_undo) (g := f_X8_undo) h (-1000003) (by simp only [f_X7_undo, c1, if_true]) (by simp only [f_X8_undo, c2, if_true])
  rw [List.concat_eq_append] at hPe
  subst hPe
  have hlen : (P0 ++ [e]).length = P0.length + 1 := by simp
  have he := w.2.2.2.1.2 e (by simp)
  have hl := he.1.1
  have w' : WF n e.1 e.2 P0 K T S := ⟨w.1, he.1, he.2, ⟨by omega, fun q hq => w.2.2.2.1.2 q (List.mem_append_left _ hq)⟩, w.2.2.2.2⟩
  refine op_mk (f := f_X7_undo) (g := f_X8_undo) (nI P0.length) hm w' ?_ (fun M1 hm1 => ?_)
  · have c1 : M 9 2 = nI (P0.length + 1) := by rw [hc.2.1.1, hlen]
    obtain ⟨M1, g1, g2, g3, g4⟩ := x1_recall hc.2.1 (by omega) hl
    refine ⟨_, ?_, hc.done w g2 g3 (fun b b1 b2 => g4 b (by omega) (by omega)), fun b hb => by rw [um_a (by omega), um_a (by omega), g4 b (by omega) (by omega)]⟩
    simp (disch := omega) only [f_X7_undo, c1, g1, x7_changed, um_a, g3.1, i0, iL, iT, iE, iN, iZ, i0, cl, nL, yL, nT, yT, s1_i, ad_i, z0, c0, la_1, la_2, la_11, la_12, la_21, la_22, la_27, la_54, la_10, la_243, ml_4, ml_6, ml_27, ml_10, ml_3, false_or, or_false, true_or, or_true, or_self, if_false, if_true, not_true, not_false_iff, Option.bind_some, lt]
    rw [if_neg (by omega)]
  · have c1 : M1 176 2 = nI (P0.length + 1) := by rw [hm1.2.2.1.1, hlen]
    have hres : nI (P0.length + 1) - 1 = nI P0.length := sb_i (a := P0.length + 1) (b := 1) (by omega)
    obtain ⟨M2, g1, g2, g3, g4⟩ := x8_copyRow (M := um M1 176 2 (nI P0.length)) (27 + 27 * P0.length) 0 (by omega) (by omega) (by omega)
    have hq2 : RQ (M2 177) 0 e.1 e.2 := by
      refine (hm1.2.2.1.2 P0.length e (by simp)).mv hl (fun q hq => ?_)
      rw [g3 q hq, um_a (by omega)]
    refine ⟨um M2 176 13 0, ?_, hm1.done w hq2 ⟨by rw [g2 176 (by omega), um_s], fun j q hj => ?_⟩ (fun c c0 c1 c2 c3 c4 => by rw [g2 c c2, um_a c1]) (fun j j1 j2 j3 => by rw [g2 176 (by omega), um_k j1]) (fun q hq => by rw [g4 q (by omega), um_a (by omega)]), fun b hb => by rw [um_a (by omega), g2 b (by omega), um_a (by omega)]⟩
    · have e0 : (0 : Int32) = nI 0 := rfl
      simp (disch := omega) only [f_X8_undo, c1, hres, um_s, iL, iT, iE, iN, iZ, i0, cl, nL, yL, nT, yT, s1_i, ad_i, z0, c0, la_1, la_2, la_11, la_12, la_21, la_22, la_27, la_54, la_10, la_243, ml_4, ml_6, ml_27, ml_10, ml_3, false_or, or_false, true_or, or_true, or_self, if_false, if_true, not_true, not_false_iff, Option.bind_some, lt]
      rw [if_neg (by omega), e0, g1]
      simp (disch := omega) only [um_k, g2, um_s, iL, iT, iE, iN, iZ, i0, cl, nL, yL, nT, yT, s1_i, ad_i, z0, c0, la_1, la_2, la_11, la_12, la_21, la_22, la_27, la_54, la_10, la_243, ml_4, ml_6, ml_27, ml_10, ml_3, false_or, or_false, true_or, or_true, or_self, if_false, if_true, not_true, not_false_iff, Option.bind_some, lt]
    · have hjl := (List.getElem?_eq_some_iff.mp hj).1
      refine (hm1.2.2.1.2 j q (by rw [List.getElem?_append_left hjl]; exact hj)).mv (w.pastA q (List.mem_append_left _ (List.mem_of_getElem? hj))) (fun i hi => ?_)
      rw [g4 _ (by omega), um_a (by omega)]
end OPS2

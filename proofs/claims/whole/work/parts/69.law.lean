/-! ===== the law's loop ===== -/
section LAW
variable {M : Mem} {SL : Nat} {SX : Nat → Int32}
theorem law_end (hL : SL ≤ 2048) {i : Nat} (hi : i ≤ SL) : nI SL - 4 < nI i ↔ SL < i + 4 := by
  by_cases h4 : 4 ≤ SL
  · rw [show nI SL - 4 = nI (SL - 4) from sb_i (b := 4) h4, iT (by omega) (by omega)]
    omega
  · refine iff_of_true ?_ (by omega)
    have h : SL = 0 ∨ SL = 1 ∨ SL = 2 ∨ SL = 3 := by omega
    have g : i = 0 ∨ i = 1 ∨ i = 2 ∨ i = 3 := by omega
    rcases h with rfl | rfl | rfl | rfl <;> rcases g with rfl | rfl | rfl | rfl <;> decide
theorem law_step (k rec : Int32 → Mem → Option (Int32 × Mem)) (hL : SL ≤ 2048) {i : Nat} (hi : i + 4 ≤ SL) (hI : Inv M) : ∃ M', Inv M' ∧ s_L_law_18 SL SX k rec (nI i) M = rec (nI (i + 4)) M' := by
  have hend : ¬ nI SL - 4 < nI i := by rw [law_end hL (by omega)]; omega
  have cl0 : (nI i).toNatClampNeg = i := cl (by omega)
  have in0 : ¬ (nI (i + 0) < 0 ∨ SL ≤ i + 0) := fun q => q.elim (fun h => (nI_pos (by omega)) h) (fun h => by omega)
  have p1 : nI i + 1 = nI (i + 1) := ad_i i 1
  have cl1 : (nI (i + 1)).toNatClampNeg = i + 1 := cl (by omega)
  have in1 : ¬ (nI (i + 1) < 0 ∨ SL ≤ i + 1) := fun q => q.elim (fun h => (nI_pos (by omega)) h) (fun h => by omega)
  have p2 : nI i + 2 = nI (i + 2) := ad_i i 2
  have cl2 : (nI (i + 2)).toNatClampNeg = i + 2 := cl (by omega)
  have in2 : ¬ (nI (i + 2) < 0 ∨ SL ≤ i + 2) := fun q => q.elim (fun h => (nI_pos (by omega)) h) (fun h => by omega)
  have p3 : nI i + 3 = nI (i + 3) := ad_i i 3
  have cl3 : (nI (i + 3)).toNatClampNeg = i + 3 := cl (by omega)
  have in3 : ¬ (nI (i + 3) < 0 ∨ SL ≤ i + 3) := fun q => q.elim (fun h => (nI_pos (by omega)) h) (fun h => by omega)
  have in0' : ¬ (nI i < 0 ∨ SL ≤ i) := in0
  have p4 : nI i + 4 = nI (i + 4) := ad_i i 4
  unfold s_L_law_18
  simp only [hend, p1, p2, p3, p4, cl0, cl1, cl2, cl3, in0', in1, in2, in3, if_false]
  by_cases h0 : SX i &&& 31 = 0
  · rw [if_pos h0]
    obtain ⟨r, M1, M2, a, b, c⟩ := op_write hI (SX (i + 1))
    exact ⟨M2, c, by rw [a, bs, b, bs]; exact if_pos rfl⟩
  rw [if_neg h0]
  by_cases h1 : SX i &&& 31 = 1
  · rw [if_pos h1]
    obtain ⟨r, M1, M2, a, b, c⟩ := op_erase hI
    exact ⟨M2, c, by rw [a, bs, b, bs]; exact if_pos rfl⟩
  rw [if_neg h1]
  by_cases h2 : SX i &&& 31 = 2
  · rw [if_pos h2]
    obtain ⟨r, M1, M2, a, b, c⟩ := op_fault hI
    exact ⟨M2, c, by rw [a, bs, b, bs]; exact if_pos rfl⟩
  rw [if_neg h2]
  by_cases h3 : SX i &&& 31 = 3
  · rw [if_pos h3]
    obtain ⟨r, M1, M2, a, b, c⟩ := op_quiver hI
    exact ⟨M2, c, by rw [a, bs, b, bs]; exact if_pos rfl⟩
  rw [if_neg h3]
  by_cases h4 : SX i &&& 31 = 4
  · rw [if_pos h4]
    obtain ⟨r, a, b⟩ := op_arrow hI (SX (i + 1)) (SX (i + 2))
    exact ⟨M, hI, by rw [a, bs, b, bs]; exact if_pos rfl⟩
  rw [if_neg h4]
  by_cases h5 : SX i &&& 31 = 5
  · rw [if_pos h5]
    obtain ⟨r, M1, a, b, c⟩ := op_point hI (SX (i + 1)) (SX (i + 2))
    exact ⟨M1, c, by rw [a, bs, b, bs]; exact if_pos rfl⟩
  rw [if_neg h5]
  by_cases h6 : SX i &&& 31 = 6
  · rw [if_pos h6]
    obtain ⟨r, M1, M2, a, b, c⟩ := op_paths hI (SX (i + 1)) (SX (i + 2))
    exact ⟨M2, c, by rw [a, bs, b, bs]; exact if_pos rfl⟩
  rw [if_neg h6]
  by_cases h7 : SX i &&& 31 = 7
  · rw [if_pos h7]
    obtain ⟨r, M1, M2, a, b, c⟩ := op_put hI (SX (i + 1)) (SX (i + 2))
    exact ⟨M2, c, by rw [a, bs, b, bs]; exact if_pos rfl⟩
  rw [if_neg h7]
  by_cases h8 : SX i &&& 31 = 8
  · rw [if_pos h8]
    obtain ⟨r, M1, M2, a, b, c⟩ := op_cut hI (SX (i + 1))
    exact ⟨M2, c, by rw [a, bs, b, bs]; exact if_pos rfl⟩
  rw [if_neg h8]
  by_cases h9 : SX i &&& 31 = 9
  · rw [if_pos h9]
    obtain ⟨r, M1, M2, a, b, c⟩ := op_turn hI (SX (i + 1))
    exact ⟨M2, c, by rw [a, bs, b, bs]; exact if_pos rfl⟩
  rw [if_neg h9]
  by_cases h10 : SX i &&& 31 = 10
  · rw [if_pos h10]
    obtain ⟨r, M1, M2, a, b, c⟩ := op_set hI (SX (i + 1)) (SX (i + 2))
    exact ⟨M2, c, by rw [a, bs, b, bs]; exact if_pos rfl⟩
  rw [if_neg h10]
  by_cases h11 : SX i &&& 31 = 11
  · rw [if_pos h11]
    obtain ⟨r, M1, M2, a, b, c⟩ := op_shift hI (SX (i + 1))
    exact ⟨M2, c, by rw [a, bs, b, bs]; exact if_pos rfl⟩
  rw [if_neg h11]
  by_cases h12 : SX i &&& 31 = 12
  · rw [if_pos h12]
    obtain ⟨r, M1, M2, a, b, c⟩ := op_take hI (SX (i + 1))
    exact ⟨M2, c, by rw [a, bs, b, bs]; exact if_pos rfl⟩
  rw [if_neg h12]
  by_cases h13 : SX i &&& 31 = 13
  · rw [if_pos h13]
    obtain ⟨r, M1, M2, a, b, c⟩ := op_undo hI
    exact ⟨M2, c, by rw [a, bs, b, bs]; exact if_pos rfl⟩
  rw [if_neg h13]
  by_cases h14 : SX i &&& 31 = 14
  · rw [if_pos h14]
    obtain ⟨r, M1, M2, a, b, c⟩ := op_keep hI (SX (i + 1))
    exact ⟨M2, c, by rw [a, bs, b, bs]; exact if_pos rfl⟩
  rw [if_neg h14]
  by_cases h15 : SX i &&& 31 = 15
  · rw [if_pos h15]
    obtain ⟨r, M1, M2, a, b, c⟩ := op_back hI (SX (i + 1))
    exact ⟨M2, c, by rw [a, bs, b, bs]; exact if_pos rfl⟩
  rw [if_neg h15]
  by_cases h16 : SX i &&& 31 = 16
  · rw [if_pos h16]
    obtain ⟨r, a, b⟩ := op_turned hI (SX (i + 1))
    exact ⟨M, hI, by rw [a, bs, b, bs]; exact if_pos rfl⟩
  rw [if_neg h16]
  by_cases h17 : SX i &&& 31 = 17
  · rw [if_pos h17]
    obtain ⟨r, M1, M2, a, b, c⟩ := op_root hI (SX (i + 1)) (SX (i + 2))
    exact ⟨M2, c, by rw [a, bs, b, bs]; exact if_pos rfl⟩
  rw [if_neg h17]
  by_cases h18 : SX i &&& 31 = 18
  · rw [if_pos h18]
    obtain ⟨r, M1, M2, a, b, c⟩ := op_place hI (SX (i + 1)) (SX (i + 2))
    exact ⟨M2, c, by rw [a, bs, b, bs]; exact if_pos rfl⟩
  rw [if_neg h18]
  by_cases h19 : SX i &&& 31 = 19
  · rw [if_pos h19]
    obtain ⟨r, M1, M2, a, b, c⟩ := op_between hI (SX (i + 1)) (SX (i + 2)) (SX (i + 3))
    exact ⟨M2, c, by rw [a, bs, b, bs]; exact if_pos rfl⟩
  rw [if_neg h19]
  by_cases h20 : SX i &&& 31 = 20
  · rw [if_pos h20]
    obtain ⟨r, M1, M2, a, b, c⟩ := op_find hI
    exact ⟨M2, c, by rw [a, bs, b, bs]; exact if_pos rfl⟩
  rw [if_neg h20]
  by_cases h21 : SX i &&& 31 = 21
  · rw [if_pos h21]
    obtain ⟨r, M1, M2, a, b, c⟩ := op_sums hI
    exact ⟨M2, c, by rw [a, bs, b, bs]; exact if_pos rfl⟩
  rw [if_neg h21]
  by_cases h22 : SX i &&& 31 = 22
  · rw [if_pos h22]
    obtain ⟨r, M1, M2, a, b, c⟩ := op_shelf hI (SX (i + 1))
    exact ⟨M2, c, by rw [a, bs, b, bs]; exact if_pos rfl⟩
  rw [if_neg h22]
  by_cases h23 : SX i &&& 31 = 23
  · rw [if_pos h23]
    obtain ⟨r, M1, M2, a, b, c⟩ := op_lay hI (SX (i + 1))
    exact ⟨M2, c, by rw [a, bs, b, bs]; exact if_pos rfl⟩
  rw [if_neg h23]
  by_cases h24 : SX i &&& 31 = 24
  · rw [if_pos h24]
    obtain ⟨r, M1, M2, a, b, c⟩ := op_draw hI (SX (i + 1))
    exact ⟨M2, c, by rw [a, bs, b, bs]; exact if_pos rfl⟩
  rw [if_neg h24]
  by_cases h25 : SX i &&& 31 = 25
  · rw [if_pos h25]
    obtain ⟨r, M1, M2, a, b, c⟩ := op_add hI (SX (i + 1))
    exact ⟨M2, c, by rw [a, bs, b, bs]; exact if_pos rfl⟩
  rw [if_neg h25]
  by_cases h26 : SX i &&& 31 = 26
  · rw [if_pos h26]
    obtain ⟨r, a, b⟩ := op_euler hI (SX (i + 1)) (SX (i + 2))
    exact ⟨M, hI, by rw [a, bs, b, bs]; exact if_pos rfl⟩
  rw [if_neg h26]
  by_cases h27 : SX i &&& 31 = 27
  · rw [if_pos h27]
    obtain ⟨r, M1, M2, a, b, c⟩ := op_drop hI (SX (i + 1))
    exact ⟨M2, c, by rw [a, bs, b, bs]; exact if_pos rfl⟩
  rw [if_neg h27]
  by_cases h28 : SX i &&& 31 = 28
  · rw [if_pos h28]
    obtain ⟨r, M1, M2, a, b, c⟩ := op_count hI (SX (i + 1))
    exact ⟨M2, c, by rw [a, bs, b, bs]; exact if_pos rfl⟩
  rw [if_neg h28]
  exact ⟨M, hI, rfl⟩
theorem law_loop (hL : SL ≤ 2048) : ∀ (m i : Nat) (M : Mem), Inv M → i ≤ SL → SL ≤ i + 4 * m + 3 → ∀ f, m < f → ∃ M' : Mem, f_L_law_18 SL SX (fun _ M => some (1, M)) f (nI i) M = some (1, M') := by
  intro m
  have hstop : ∀ (i f : Nat) (M : Mem), i ≤ SL → SL < i + 4 → f_L_law_18 SL SX (fun _ M => some (1, M)) (f + 1) (nI i) M = some (1, M) := fun i f M h1 h2 => by
    rw [ef_L_law_18]
    unfold s_L_law_18
    rw [if_pos ((law_end hL h1).mpr h2)]
  induction m with
  | zero =>
    intro i M _ h1 h2 f hf
    obtain ⟨f, rfl⟩ : ∃ f', f = f' + 1 := ⟨f - 1, by omega⟩
    exact ⟨M, hstop i f M h1 (by omega)⟩
  | succ m ih =>
    intro i M hI h1 h2 f hf
    obtain ⟨f, rfl⟩ : ∃ f', f = f' + 1 := ⟨f - 1, by omega⟩
    by_cases h4 : SL < i + 4
    · exact ⟨M, hstop i f M h1 h4⟩
    · obtain ⟨M1, g1, g2⟩ := law_step (SX := SX) (fun _ M => some (1, M)) (f_L_law_18 SL SX (fun _ M => some (1, M)) f) hL (show i + 4 ≤ SL by omega) hI
      obtain ⟨M2, g3⟩ := ih (i + 4) M1 g1 (by omega) (by omega) f (by omega)
      exact ⟨M2, by rw [ef_L_law_18]; exact g2.trans g3⟩
end LAW
theorem inv_first : Inv (tabM TE_22) := by
  have k4 : ∀ i, i < 6 → tabM TE_22 4 i = 0 := by decide +kernel
  have k44 : ∀ i, i < 2 → tabM TE_22 44 i = 0 := by decide +kernel
  have kS : ∀ s, s < 3 → tabM TE_22 (155 + 7 * s) 0 = 0 := by decide +kernel
  have kS1 : ∀ s, s < 3 → tabM TE_22 (155 + 7 * s) 1 = 0 := by decide +kernel
  have k177 : ∀ i, i < 6 → tabM TE_22 177 (0 + 21 + i) = 0 := by decide +kernel
  have k178 : ∀ i, i < 2 → tabM TE_22 178 i = 0 := by decide +kernel
  have k180 : ∀ i, i < 3 → tabM TE_22 180 i = -1 := by decide +kernel
  have k186 : ∀ i, i < 6 → ∀ j, j < 6 → tabM TE_22 186 (6 * i + j) = unr i j := by decide +kernel
  have k190 : ∀ k, k < 18 → tabM TE_22 190 k = ([113, 117, 105, 118, 101, 114, 97, 114, 114, 111, 119, 0, 114, 111, 119, 0, 0, 0] : List Int32).getD k 0 := by decide +kernel
  exact ⟨3, [], fun _ => 0, [], fun _ => none, [], fun _ => none, ⟨⟨by omega, by omega⟩, oka_nil, okr_zero, ⟨by simp, fun e he => absurd he (by simp)⟩, fun k e _ he => absurd he (by simp), ⟨by simp, fun e he => absurd he (by simp)⟩, fun s l _ he => absurd he (by simp)⟩, ⟨⟨by decide +kernel, by decide +kernel, fun k u v hk => absurd hk (by simp), k4⟩, ⟨by decide +kernel, 0, by omega, by decide +kernel, fun j e hj => absurd hj (by simp)⟩, fun k hk => Or.inl ⟨rfl, k44 k hk⟩, ⟨by decide +kernel, fun j c hj => absurd hj (by simp)⟩, fun s hs => Or.inl ⟨rfl, kS s hs, kS1 s hs⟩, Or.inl (by decide +kernel), Or.inl (by decide +kernel)⟩, ⟨by decide +kernel, ⟨by decide +kernel, fun k u v hk => absurd hk (by simp), k177⟩, ⟨by decide +kernel, fun j e hj => absurd hj (by simp)⟩, fun k hk => Or.inl ⟨rfl, k178 k hk⟩, ⟨by decide +kernel, fun j c hj => absurd hj (by simp)⟩, fun s hs => Or.inl ⟨rfl, k180 s hs⟩, Or.inl (by decide +kernel), ⟨k186, k190⟩⟩⟩
theorem pure_law (SL : Nat) (SX : Nat → Int32) (hL : SL ≤ 2048) : ∃ M' : Mem, f_L_law_18 SL SX (fun _ M => some (1, M)) FU 0 (tabM TE_22) = some (1, M') :=
  law_loop hL 512 0 _ inv_first (by omega) (by omega) FU (FU_gt (by omega))

/-! ===== the search is run: from each graph of four points ===== -/
def gk_t (_ : List (Nat × List Nat)) (_ : List Nat) (_ : Nat) : Bool := true
def gk_w0 : List (Nat × List Nat) × List Nat × Nat := ([(64, []), (16, []), (4, []), (1, [])], [64, 16, 4, 1], 18446744073709617170)
def gk_w1 : List (Nat × List Nat) × List Nat × Nat := ([(64, [1]), (16, []), (4, []), (1, [64])], [65, 64, 16, 4, 1], 55340232221128720402)
def gk_w2 : List (Nat × List Nat) × List Nat × Nat := ([(64, [4]), (16, []), (4, [64]), (1, [])], [68, 64, 16, 4, 1], 313594649253062443026)
def gk_w3 : List (Nat × List Nat) × List Nat × Nat := ([(64, [4, 1]), (16, []), (4, [64]), (1, [64])], [69, 65, 68, 64, 16, 4, 1], 940783947759187197970)
def gk_w4 : List (Nat × List Nat) × List Nat × Nat := ([(64, [16]), (16, [64]), (4, []), (1, [])], [80, 64, 16, 4, 1], 1208944266358702884323346)
def gk_w5 : List (Nat × List Nat) × List Nat × Nat := ([(64, [16, 1]), (16, [64]), (4, []), (1, [64])], [81, 65, 80, 64, 16, 4, 1], 3626832799076108652838930)
def gk_w6 : List (Nat × List Nat) × List Nat × Nat := ([(64, [16, 4]), (16, [64]), (4, [64]), (1, [])], [84, 68, 80, 64, 16, 4, 1], 20552052528097949032448018)
def gk_w7 : List (Nat × List Nat) × List Nat × Nat := ([(64, [16, 4, 1]), (16, [64]), (4, [64]), (1, [64])], [84, 149, 85, 69, 81, 65, 68, 80, 64, 16, 4, 1], 713623846352979940590799142309041415288586258)
def gk_w8 : List (Nat × List Nat) × List Nat × Nat := ([(64, []), (16, [1]), (4, []), (1, [16])], [64, 17, 16, 4, 1], 18446744073709748242)
def gk_w9 : List (Nat × List Nat) × List Nat × Nat := ([(64, [1]), (16, [1]), (4, []), (1, [64, 16])], [81, 65, 64, 17, 16, 4, 1], 2417906979461479478263826)
def gk_w10 : List (Nat × List Nat) × List Nat × Nat := ([(64, [4]), (16, [1]), (4, [64]), (1, [16])], [68, 64, 17, 16, 4, 1], 313594649253062574098)
def gk_w11 : List (Nat × List Nat) × List Nat × Nat := ([(64, [4, 1]), (16, [1]), (4, [64]), (1, [64, 16])], [85, 69, 81, 65, 68, 64, 17, 16, 4, 1], 41104418650845151127339026)
def gk_w12 : List (Nat × List Nat) × List Nat × Nat := ([(64, [16]), (16, [64, 1]), (4, []), (1, [16])], [81, 80, 64, 17, 16, 4, 1], 3626795905587961233866770)
def gk_w13 : List (Nat × List Nat) × List Nat × Nat := ([(64, [16, 4]), (16, [64, 1]), (4, [64]), (1, [16])], [81, 85, 84, 68, 80, 64, 17, 16, 4, 1], 61655530394995340972589074)
def gk_w14 : List (Nat × List Nat) × List Nat × Nat := ([(64, []), (16, [4]), (4, [16]), (1, [])], [64, 20, 16, 4, 1], 18446744073710665746)
def gk_w15 : List (Nat × List Nat) × List Nat × Nat := ([(64, [1]), (16, [4]), (4, [16]), (1, [64])], [65, 64, 20, 16, 4, 1], 55340232221129768978)
def gk_w16 : List (Nat × List Nat) × List Nat × Nat := ([(64, [4]), (16, [4]), (4, [64, 16]), (1, [])], [84, 68, 64, 20, 16, 4, 1], 19343126708483319858790418)
def gk_w17 : List (Nat × List Nat) × List Nat × Nat := ([(64, [4, 1]), (16, [4]), (4, [64, 16]), (1, [64])], [84, 85, 69, 65, 68, 64, 20, 16, 4, 1], 58029380125449959574142994)
def gk_w18 : List (Nat × List Nat) × List Nat × Nat := ([(64, [16]), (16, [64, 4]), (4, [16]), (1, [])], [84, 80, 64, 20, 16, 4, 1], 20551757380192769680670738)
def gk_w19 : List (Nat × List Nat) × List Nat × Nat := ([(64, [16, 1]), (16, [64, 4]), (4, [16]), (1, [64])], [84, 85, 81, 65, 80, 64, 20, 16, 4, 1], 61655272140578309039783954)
def gk_w20 : List (Nat × List Nat) × List Nat × Nat := ([(64, []), (16, [4, 1]), (4, [16]), (1, [16])], [64, 21, 17, 20, 16, 4, 1], 18446744073712893970)
def gk_w21 : List (Nat × List Nat) × List Nat × Nat := ([(64, [1]), (16, [4, 1]), (4, [16]), (1, [64, 16])], [85, 81, 65, 64, 21, 17, 20, 16, 4, 1], 41103533207129613072007186)
def gk_w22 : List (Nat × List Nat) × List Nat × Nat := ([(64, [4]), (16, [4, 1]), (4, [64, 16]), (1, [16])], [85, 84, 68, 64, 21, 17, 20, 16, 4, 1], 58028752936151453451616274)
def gk_w23 : List (Nat × List Nat) × List Nat × Nat := ([(64, [16]), (16, [64, 4, 1]), (4, [16]), (1, [16])], [101, 85, 81, 84, 80, 64, 21, 17, 20, 16, 4, 1], 2535362855691705893155029319698)
def gk_w24 : List (Nat × List Nat) × List Nat × Nat := ([(64, []), (16, []), (4, [1]), (1, [4])], [64, 16, 5, 4, 1], 18446744073709617202)
def gk_w25 : List (Nat × List Nat) × List Nat × Nat := ([(64, [1]), (16, []), (4, [1]), (1, [64, 4])], [69, 65, 64, 16, 5, 4, 1], 645636042579834372146)
def gk_w26 : List (Nat × List Nat) × List Nat × Nat := ([(64, [4]), (16, []), (4, [64, 1]), (1, [4])], [69, 68, 64, 16, 5, 4, 1], 903890459611768094770)
def gk_w27 : List (Nat × List Nat) × List Nat × Nat := ([(64, [16]), (16, [64]), (4, [1]), (1, [4])], [80, 64, 16, 5, 4, 1], 1208944266358702884323378)
def gk_w28 : List (Nat × List Nat) × List Nat × Nat := ([(64, [16, 1]), (16, [64]), (4, [1]), (1, [64, 4])], [85, 69, 81, 65, 80, 64, 16, 5, 4, 1], 42313049322554600949088306)
def gk_w29 : List (Nat × List Nat) × List Nat × Nat := ([(64, [16, 4]), (16, [64]), (4, [64, 1]), (1, [4])], [85, 69, 84, 68, 80, 64, 16, 5, 4, 1], 59238269051576441328697394)
def gk_w30 : List (Nat × List Nat) × List Nat × Nat := ([(64, []), (16, [1]), (4, [1]), (1, [16, 4])], [64, 21, 17, 16, 5, 4, 1], 18446744073711845426)
def gk_w31 : List (Nat × List Nat) × List Nat × Nat := ([(64, [1]), (16, [1]), (4, [1]), (1, [64, 16, 4])], [86, 85, 69, 81, 65, 64, 21, 17, 16, 5, 4, 1], 118475375958276238957805618)
def gk_w32 : List (Nat × List Nat) × List Nat × Nat := ([(64, [4]), (16, [1]), (4, [64, 1]), (1, [16, 4])], [85, 69, 68, 64, 21, 17, 16, 5, 4, 1], 38686530118127745360920626)
def gk_w33 : List (Nat × List Nat) × List Nat × Nat := ([(64, [16]), (16, [64, 1]), (4, [1]), (1, [16, 4])], [85, 81, 80, 64, 21, 17, 16, 5, 4, 1], 42312422133256094826561586)
def gk_w34 : List (Nat × List Nat) × List Nat × Nat := ([(64, []), (16, [4]), (4, [16, 1]), (1, [4])], [64, 21, 20, 16, 5, 4, 1], 18446744073712762930)
def gk_w35 : List (Nat × List Nat) × List Nat × Nat := ([(64, [1]), (16, [4]), (4, [16, 1]), (1, [64, 4])], [85, 69, 65, 64, 21, 20, 16, 5, 4, 1], 38686271863710713428115506)
def gk_w36 : List (Nat × List Nat) × List Nat × Nat := ([(64, [4]), (16, [4]), (4, [64, 16, 1]), (1, [4])], [89, 85, 69, 84, 68, 64, 21, 20, 16, 5, 4, 1], 676999362874651949606699058)
def gk_w37 : List (Nat × List Nat) × List Nat × Nat := ([(64, [16]), (16, [64, 4]), (4, [16, 1]), (1, [4])], [85, 84, 80, 64, 21, 20, 16, 5, 4, 1], 59237383607860903273365554)
set_option maxRecDepth 100000 in
theorem gk_r0 : gk_go gk_t 2 4 gk_w0.1 gk_w0.2.1 gk_w0.2.2 = true := by decide +kernel
set_option maxRecDepth 100000 in
theorem gk_r1 : gk_go gk_t 2 4 gk_w1.1 gk_w1.2.1 gk_w1.2.2 = true := by decide +kernel
set_option maxRecDepth 100000 in
theorem gk_r2 : gk_go gk_t 2 4 gk_w2.1 gk_w2.2.1 gk_w2.2.2 = true := by decide +kernel
set_option maxRecDepth 100000 in
theorem gk_r3 : gk_go gk_t 2 4 gk_w3.1 gk_w3.2.1 gk_w3.2.2 = true := by decide +kernel
set_option maxRecDepth 100000 in
theorem gk_r4 : gk_go gk_t 2 4 gk_w4.1 gk_w4.2.1 gk_w4.2.2 = true := by decide +kernel
set_option maxRecDepth 100000 in
theorem gk_r5 : gk_go gk_t 2 4 gk_w5.1 gk_w5.2.1 gk_w5.2.2 = true := by decide +kernel
set_option maxRecDepth 100000 in
theorem gk_r6 : gk_go gk_t 2 4 gk_w6.1 gk_w6.2.1 gk_w6.2.2 = true := by decide +kernel
set_option maxRecDepth 100000 in
theorem gk_r7 : gk_go gk_t 2 4 gk_w7.1 gk_w7.2.1 gk_w7.2.2 = true := by decide +kernel
set_option maxRecDepth 100000 in
theorem gk_r8 : gk_go gk_t 2 4 gk_w8.1 gk_w8.2.1 gk_w8.2.2 = true := by decide +kernel
set_option maxRecDepth 100000 in
theorem gk_r9 : gk_go gk_t 2 4 gk_w9.1 gk_w9.2.1 gk_w9.2.2 = true := by decide +kernel
set_option maxRecDepth 100000 in
theorem gk_r10 : gk_go gk_t 2 4 gk_w10.1 gk_w10.2.1 gk_w10.2.2 = true := by decide +kernel
set_option maxRecDepth 100000 in
theorem gk_r11 : gk_go gk_t 2 4 gk_w11.1 gk_w11.2.1 gk_w11.2.2 = true := by decide +kernel
set_option maxRecDepth 100000 in
theorem gk_r12 : gk_go gk_t 2 4 gk_w12.1 gk_w12.2.1 gk_w12.2.2 = true := by decide +kernel
set_option maxRecDepth 100000 in
theorem gk_r13 : gk_go gk_t 2 4 gk_w13.1 gk_w13.2.1 gk_w13.2.2 = true := by decide +kernel
set_option maxRecDepth 100000 in
theorem gk_r14 : gk_go gk_t 2 4 gk_w14.1 gk_w14.2.1 gk_w14.2.2 = true := by decide +kernel
set_option maxRecDepth 100000 in
theorem gk_r15 : gk_go gk_t 2 4 gk_w15.1 gk_w15.2.1 gk_w15.2.2 = true := by decide +kernel
set_option maxRecDepth 100000 in
theorem gk_r16 : gk_go gk_t 2 4 gk_w16.1 gk_w16.2.1 gk_w16.2.2 = true := by decide +kernel
set_option maxRecDepth 100000 in
theorem gk_r17 : gk_go gk_t 2 4 gk_w17.1 gk_w17.2.1 gk_w17.2.2 = true := by decide +kernel
set_option maxRecDepth 100000 in
theorem gk_r18 : gk_go gk_t 2 4 gk_w18.1 gk_w18.2.1 gk_w18.2.2 = true := by decide +kernel
set_option maxRecDepth 100000 in
theorem gk_r19 : gk_go gk_t 2 4 gk_w19.1 gk_w19.2.1 gk_w19.2.2 = true := by decide +kernel
set_option maxRecDepth 100000 in
theorem gk_r20 : gk_go gk_t 2 4 gk_w20.1 gk_w20.2.1 gk_w20.2.2 = true := by decide +kernel
set_option maxRecDepth 100000 in
theorem gk_r21 : gk_go gk_t 2 4 gk_w21.1 gk_w21.2.1 gk_w21.2.2 = true := by decide +kernel
set_option maxRecDepth 100000 in
theorem gk_r22 : gk_go gk_t 2 4 gk_w22.1 gk_w22.2.1 gk_w22.2.2 = true := by decide +kernel
set_option maxRecDepth 100000 in
theorem gk_r23 : gk_go gk_t 2 4 gk_w23.1 gk_w23.2.1 gk_w23.2.2 = true := by decide +kernel
set_option maxRecDepth 100000 in
theorem gk_r24 : gk_go gk_t 2 4 gk_w24.1 gk_w24.2.1 gk_w24.2.2 = true := by decide +kernel
set_option maxRecDepth 100000 in
theorem gk_r25 : gk_go gk_t 2 4 gk_w25.1 gk_w25.2.1 gk_w25.2.2 = true := by decide +kernel
set_option maxRecDepth 100000 in
theorem gk_r26 : gk_go gk_t 2 4 gk_w26.1 gk_w26.2.1 gk_w26.2.2 = true := by decide +kernel
set_option maxRecDepth 100000 in
theorem gk_r27 : gk_go gk_t 2 4 gk_w27.1 gk_w27.2.1 gk_w27.2.2 = true := by decide +kernel
set_option maxRecDepth 100000 in
theorem gk_r28 : gk_go gk_t 2 4 gk_w28.1 gk_w28.2.1 gk_w28.2.2 = true := by decide +kernel
set_option maxRecDepth 100000 in
theorem gk_r29 : gk_go gk_t 2 4 gk_w29.1 gk_w29.2.1 gk_w29.2.2 = true := by decide +kernel
set_option maxRecDepth 100000 in
theorem gk_r30 : gk_go gk_t 2 4 gk_w30.1 gk_w30.2.1 gk_w30.2.2 = true := by decide +kernel
set_option maxRecDepth 100000 in
theorem gk_r31 : gk_go gk_t 2 4 gk_w31.1 gk_w31.2.1 gk_w31.2.2 = true := by decide +kernel
set_option maxRecDepth 100000 in
theorem gk_r32 : gk_go gk_t 2 4 gk_w32.1 gk_w32.2.1 gk_w32.2.2 = true := by decide +kernel
set_option maxRecDepth 100000 in
theorem gk_r33 : gk_go gk_t 2 4 gk_w33.1 gk_w33.2.1 gk_w33.2.2 = true := by decide +kernel
set_option maxRecDepth 100000 in
theorem gk_r34 : gk_go gk_t 2 4 gk_w34.1 gk_w34.2.1 gk_w34.2.2 = true := by decide +kernel
set_option maxRecDepth 100000 in
theorem gk_r35 : gk_go gk_t 2 4 gk_w35.1 gk_w35.2.1 gk_w35.2.2 = true := by decide +kernel
set_option maxRecDepth 100000 in
theorem gk_r36 : gk_go gk_t 2 4 gk_w36.1 gk_w36.2.1 gk_w36.2.2 = true := by decide +kernel
set_option maxRecDepth 100000 in
theorem gk_r37 : gk_go gk_t 2 4 gk_w37.1 gk_w37.2.1 gk_w37.2.2 = true := by decide +kernel
def gk_W : List (List (Nat × List Nat) × List Nat × Nat) := [gk_w0, gk_w1, gk_w2, gk_w3, gk_w4, gk_w5, gk_w6, gk_w7, gk_w8, gk_w9, gk_w10, gk_w11, gk_w12, gk_w13, gk_w14, gk_w15, gk_w16, gk_w17, gk_w18, gk_w19, gk_w20, gk_w21, gk_w22, gk_w23, gk_w24, gk_w25, gk_w26, gk_w27, gk_w28, gk_w29, gk_w30, gk_w31, gk_w32, gk_w33, gk_w34, gk_w35, gk_w36, gk_w37]
theorem gk_wall : ∀ s ∈ gk_W, gk_go gk_t 2 4 s.1 s.2.1 s.2.2 = true := by
  intro s hs
  unfold gk_W at hs
  simp only [List.mem_cons, List.not_mem_nil, or_false] at hs
  rcases hs with rfl | rfl | rfl | rfl | rfl | rfl | rfl | rfl | rfl | rfl | rfl | rfl | rfl | rfl | rfl | rfl | rfl | rfl | rfl | rfl | rfl | rfl | rfl | rfl | rfl | rfl | rfl | rfl | rfl | rfl | rfl | rfl | rfl | rfl | rfl | rfl | rfl | rfl
  · exact gk_r0
  · exact gk_r1
  · exact gk_r2
  · exact gk_r3
  · exact gk_r4
  · exact gk_r5
  · exact gk_r6
  · exact gk_r7
  · exact gk_r8
  · exact gk_r9
  · exact gk_r10
  · exact gk_r11
  · exact gk_r12
  · exact gk_r13
  · exact gk_r14
  · exact gk_r15
  · exact gk_r16
  · exact gk_r17
  · exact gk_r18
  · exact gk_r19
  · exact gk_r20
  · exact gk_r21
  · exact gk_r22
  · exact gk_r23
  · exact gk_r24
  · exact gk_r25
  · exact gk_r26
  · exact gk_r27
  · exact gk_r28
  · exact gk_r29
  · exact gk_r30
  · exact gk_r31
  · exact gk_r32
  · exact gk_r33
  · exact gk_r34
  · exact gk_r35
  · exact gk_r36
  · exact gk_r37
def gk_l (ad : List (Nat × List Nat)) (L : List Nat) (m : Nat) : Bool := gk_W.any (fun s => decide (s = (ad, L, m)))
set_option maxRecDepth 100000 in
theorem gk_top : gk_go gk_l 4 0 [] [] 0 = true := by decide +kernel
/-- every graph without a double edge: a row of 0, 1, 2 at which the form is not above 0, or a closed list -/
theorem gk_all {g : Nat → Nat → Int} (hs : Sym g) (h01 : ∀ i j, g i j = 0 ∨ g i j = 1) (n : Nat) (hn : n ≤ 6) : Bad n g ∨ ∃ L, Good n g L := by
  have h6 : GL g 6 gk_t := fun nb L m _ _ _ hL n h1 h2 => by
    have : n = 6 := by omega
    subst this
    exact Or.inr ⟨L, hL⟩
  have h4 : GL g 4 gk_l := fun nb L m h hA hm hL n h1 h2 => by
    unfold gk_l at h
    obtain ⟨s, s1, s2⟩ := List.any_eq_true.mp h
    rw [decide_eq_true_iff] at s2
    have h5 := gk_wall s s1
    rw [s2] at h5
    exact gk_sound hs h01 h6 2 4 nb L m rfl h5 hA hm hL n h1 h2
  exact gk_sound hs h01 h4 4 0 (fun _ => []) [] 0 rfl gk_top (fun p hp => by omega) (fun c hc => by rw [gk_tb_e] at hc; simp at hc) ⟨Nat.zero_le _, fun p hp => by omega, fun c hc => by cases hc⟩ n (by omega) hn

/-! ===== fault, quiver ===== -/
section READS
variable {M M0 M' : Mem} {n : Nat} {A A' : Arr} {x x' : Row} {P P' : List (Arr × Row)} {K K' : Nat → Option (Arr × Row)} {T T' : List Int32} {S S' : Nat → Option (List (Nat × Row))} {d : Bool}
theorem x8_reads (hL : T.length ≤ 200) (hQ : OKQ n A x) (h0 : M 176 0 = nI n) (hq : RQ (M 177) 0 A x) (hC : MT M T) (hW : WDS M) (d : Bool) (i1 : Int32) (hi : i1 = if d then 1 else 0) : (∃ p M', rdz T 24 0 n A x 0 = .inl p ∧ f_X8_reads i1 M = some (0, M') ∧ RF d M M' ∧ M' 176 15 = nI p) ∨ (∃ q M', rdz T 24 0 n A x 0 = .inr q ∧ f_X8_reads i1 M = some (1, M') ∧ RF d M M' ∧ RT M' d q.1.1 q.1.2.1 q.1.2.2 ∧ OKQ q.1.1 q.1.2.1 q.1.2.2 ∧ M' 176 21 = nI q.2) := by
  have hi01 : ¬ ¬ (i1 = 0 ∨ i1 = 1) := by
    rw [hi]
    cases d
    · decide
    · decide
  let M4 : Mem := um (um (um M 176 22 i1) 176 16 0) 176 21 1
  let M5 : Mem := um M4 176 17 (M4 176 0)
  have h40 : M4 176 0 = nI n := by show um (um (um M 176 22 i1) 176 16 0) 176 21 1 176 0 = _; rw [um_k (by omega), um_k (by omega), um_k (by omega)]; exact h0
  have f5 : ∀ c, c ≠ 176 → M5 c = M c := fun c hc => by show um (um (um (um M 176 22 i1) 176 16 0) 176 21 1) 176 17 (M4 176 0) c = _; rw [um_a hc, um_a hc, um_a hc, um_a hc]
  have f56 : ∀ j, j ≠ 22 → j ≠ 16 → j ≠ 21 → j ≠ 17 → M5 176 j = M 176 j := fun j j1 j2 j3 j4 => by show um (um (um (um M 176 22 i1) 176 16 0) 176 21 1) 176 17 (M4 176 0) 176 j = _; rw [um_k j4, um_k j3, um_k j2, um_k j1]
  have h517 : M5 176 17 = nI n := by show um M4 176 17 (M4 176 0) 176 17 = _; rw [um_s]; exact h40
  have h521 : M5 176 21 = 1 := by show um (um (um (um M 176 22 i1) 176 16 0) 176 21 1) 176 17 (M4 176 0) 176 21 = _; rw [um_k (by omega), um_s]
  have h516 : M5 176 16 = 0 := by show um (um (um (um M 176 22 i1) 176 16 0) 176 21 1) 176 17 (M4 176 0) 176 16 = _; rw [um_k (by omega), um_k (by omega), um_s]
  have h522 : M5 176 22 = i1 := by show um (um (um (um M 176 22 i1) 176 16 0) 176 21 1) 176 17 (M4 176 0) 176 22 = _; rw [um_k (by omega), um_k (by omega), um_k (by omega), um_s]
  have hq5 : RQ (M5 177) 0 A x := by rw [f5 177 (by omega)]; exact hq
  obtain ⟨M6, a1, a2, a3, a4⟩ := x8_tells hq5 hQ.2.1
  have hF6 : RF d M M6 := ⟨fun c c1 c2 c3 c4 c5 => by rw [a3 c c1 c3 c4, f5 c c1], fun j j0 j1 j2 j3 j4 j5 j6 => by rw [a4 j j4, f56 j j6 j2 j5 j3], fun _ => ⟨by rw [a3 177 (by omega) (by omega) (by omega), f5 177 (by omega)], by rw [a4 0 (by omega), f56 0 (by omega) (by omega) (by omega) (by omega)]⟩, fun q _ => by rw [a3 177 (by omega) (by omega) (by omega), f5 177 (by omega)]⟩
  have hR6 : RT M6 d n A x := ⟨by rw [a4 17 (by omega)]; exact h517, a2, by rw [a4 22 (by omega), h522]; exact hi, fun _ => ⟨by rw [a4 0 (by omega), f56 0 (by omega) (by omega) (by omega) (by omega)]; exact h0, by rw [a3 177 (by omega) (by omega) (by omega)]; exact hq5⟩⟩
  obtain ⟨M7, b1, b2, b3, b4, b5, b6⟩ := r_next (e := 0) (hF6.mt hC) hL (by omega) (by rw [a4 16 (by omega)]; exact h516)
  obtain ⟨hR7, hF7'⟩ := hR6.tok (M' := M7) (fun c c1 _ => b2 c c1) b3
  have hF7 := hF6.tr hF7'
  obtain ⟨qq, g0, g00, g⟩ := x8_rdz (d := d) hL i1 23 0 n A x 0 M7 (by omega) hQ hR7 (hF7.mt hC) (hF7.wds hW) (by omega) b4 FU (FU_gt (by omega))
  have h21 : qq.2 176 21 = nI (0 + 1) := by rw [g00, b3 21 (by omega) (by omega), a4 21 (by omega), h521]; rfl
  rw [um_self h21] at g
  have hrun : f_X8_reads i1 M = f_X8_reads_36 i1 (fun (i2_9 : Int32) (M10 : Mem) => if ¬ (i2_9 = 0 ∨ i2_9 = 1) then none else some (i2_9, M10)) FU qq.1 qq.2 := by
    unfold f_X8_reads
    rw [if_neg hi01, lt_e, lt_e, lt_e, lt_e]
    show (f_X8_tellsArrows M5).bind _ = _
    rw [a1, bs, b1, bs, g0, bs]
  rw [hrun]
  rcases g with ⟨p, M8, p1, p2, p3, p4⟩ | ⟨q, M8, p1, p2, p3, p4, p5, p6⟩
  · exact Or.inl ⟨p, M8, p1, p2, hF7.tr p3, p4⟩
  · exact Or.inr ⟨q, M8, p1, p2, hF7.tr p3, p4, p5, p6⟩
theorem CI.rds (w : WF n A x P K T S) (hc : CI M n A x P K T S) (h : CF M M') : CI M' n A x P K T S := by
  have e : ∀ c, (c < 5 ∨ 8 < c) → c ≠ 45 → M' c = M c := h.1
  exact ⟨hc.1.on (fun b _ _ => e b (by omega) (by omega)), hc.2.1.on (fun b _ _ => e b (by omega) (by omega)), hc.2.2.1.on (e _ (by omega) (by omega)) (fun b _ _ => e b (by omega) (by omega)), h.ct hc.2.2.2.1, hc.2.2.2.2.1.on (hc.cS w) (fun b _ _ => e b (by omega) (by omega)), hc.2.2.2.2.2.1.on w.1.2 (by rw [e 0 (by omega) (by omega)]) (fun b _ _ => e b (by omega) (by omega)), hc.2.2.2.2.2.2.on (by rw [e 0 (by omega) (by omega)]) (fun b _ _ => e b (by omega) (by omega))⟩
theorem MI.rds (hm : MI M n A x P K T S) (h : RF false M M') : MI M' n A x P K T S := by
  have e : ∀ c, 177 ≤ c → c ≠ 187 → c ≠ 188 → c ≠ 189 → M' c = M c := fun c c1 c2 c3 c4 => by
    by_cases h7 : c = 177
    · subst h7; exact (h.2.2.1 rfl).1
    · exact h.1 c (by omega) h7 c2 c3 c4
  have e6 : ∀ j, j ≠ 15 → j ≠ 16 → j ≠ 17 → j ≠ 18 → j ≠ 21 → j ≠ 22 → M' 176 j = M 176 j := fun j j1 j2 j3 j4 j5 j6 => by
    by_cases h0 : j = 0
    · subst h0; exact (h.2.2.1 rfl).2
    · exact h.2.1 j h0 j1 j2 j3 j4 j5 j6
  unfold MI MP MK MT MS MN KnowsOK MC at hm ⊢
  rw [e6 0 (by omega) (by omega) (by omega) (by omega) (by omega) (by omega), e6 2 (by omega) (by omega) (by omega) (by omega) (by omega) (by omega), e6 5 (by omega) (by omega) (by omega) (by omega) (by omega) (by omega), e6 12 (by omega) (by omega) (by omega) (by omega) (by omega) (by omega), e6 13 (by omega) (by omega) (by omega) (by omega) (by omega) (by omega), e 177 (by omega) (by omega) (by omega) (by omega), e 178 (by omega) (by omega) (by omega) (by omega), e 179 (by omega) (by omega) (by omega) (by omega), e 180 (by omega) (by omega) (by omega) (by omega), e 181 (by omega) (by omega) (by omega) (by omega), e 182 (by omega) (by omega) (by omega) (by omega), e 183 (by omega) (by omega) (by omega) (by omega), e 184 (by omega) (by omega) (by omega) (by omega), e 185 (by omega) (by omega) (by omega) (by omega), e 186 (by omega) (by omega) (by omega) (by omega), e 190 (by omega) (by omega) (by omega) (by omega)]
  exact hm
theorem RF.low (h : RF d M M') : ∀ b, b < 176 → M' b = M b := fun b hb => h.1 b (by omega) (by omega) (by omega) (by omega) (by omega)
theorem CF.high (h : CF M M') : ∀ b, 176 ≤ b → M' b = M b := fun b hb => h.1 b (by omega) (by omega)
theorem WF.okq (w : WF n A x P K T S) : OKQ n A x := ⟨w.1, w.2.1, w.2.2.1⟩
theorem MI.wds (hm : MI M n A x P K T S) : WDS M := hm.2.2.2.2.2.2.2.2
/-- the class has read: from the beginning -/
theorem x7_read (w : WF n A x P K T S) (hc : CI M n A x P K T S) : ∃ M1, f_X2_become 5 1 M = some M1 ∧ CF M M1 ∧ ((∃ p M', rdz T 24 0 n A x 0 = .inl p ∧ f_X5_readInto M1 = some (nI p, M') ∧ p ≤ 200 ∧ CF M M') ∨ (∃ q M', rdz T 24 0 n A x 0 = .inr q ∧ f_X5_readInto M1 = some (-1, M') ∧ CF M M' ∧ CQ M' 5 q.1.1 q.1.2.1 q.1.2.2 ∧ OKQ q.1.1 q.1.2.1 q.1.2.2 ∧ M' 45 2 = nI q.2)) := by
  obtain ⟨M1, g1, g2, g3⟩ := x2_become (a := 5) hc.1 w.2.1.1 (by omega)
  have hF : CF M M1 := ⟨fun c c1 _ => g3 c (by omega), by rw [g3 45 (by omega)]⟩
  refine ⟨M1, g1, hF, ?_⟩
  rcases x5_read w.2.2.2.2.2.1.1 w.okq g2 (hF.ct hc.2.2.2.1) with ⟨p, M', r1, r2, r3, r4⟩ | ⟨q, M', r1, r2, r3, r4⟩
  · exact Or.inl ⟨p, M', r1, r2, r3, hF.tr r4⟩
  · exact Or.inr ⟨q, M', r1, r2, hF.tr r3, r4⟩
theorem op_fault (h : Inv M) : ∃ r M1 M2, f_X7_fault M = some (r, M1) ∧ f_X8_fault M1 = some (r, M2) ∧ Inv M2 := by
  obtain ⟨n, A, x, P, K, T, S, w, hc, hm⟩ := id h
  obtain ⟨M1, g1, g2, g⟩ := x7_read w hc
  rcases g with ⟨p, M', r1, r2, r3, r4⟩ | ⟨q, M', r1, r2, r3, r4⟩
  · refine op_mk (f := f_X7_fault) (g := f_X8_fault) (nI p) hm w ⟨M', by unfold f_X7_fault; rw [g1, bs, r2, bs], hc.rds w r4, r4.high⟩ (fun M2 hm2 => ?_)
    rcases x8_reads w.2.2.2.2.2.1.1 w.okq hm2.1 hm2.2.1 hm2.2.2.2.2.1 hm2.wds false 0 rfl with ⟨p', M3, s1, s2, s3, s4⟩ | ⟨q', M3, s1, s2, s3, s4⟩
    · rw [r1] at s1
      cases s1
      exact ⟨M3, by unfold f_X8_fault; rw [s2, bs]; show (if (0 : Int32) = 0 then some (M3 176 15, M3) else some (-1, M3)) = _; rw [if_pos rfl, s4], hm2.rds s3, s3.low⟩
    · rw [r1] at s1
      cases s1
  · refine op_mk (f := f_X7_fault) (g := f_X8_fault) (-1) hm w ⟨M', by unfold f_X7_fault; rw [g1, bs, r2, bs], hc.rds w r3, r3.high⟩ (fun M2 hm2 => ?_)
    rcases x8_reads w.2.2.2.2.2.1.1 w.okq hm2.1 hm2.2.1 hm2.2.2.2.2.1 hm2.wds false 0 rfl with ⟨p', M3, s1, s2, s3, s4⟩ | ⟨q', M3, s1, s2, s3, s4⟩
    · rw [r1] at s1
      cases s1
    · exact ⟨M3, by unfold f_X8_fault; rw [s2, bs]; show (if (1 : Int32) = 0 then some (M3 176 15, M3) else some (-1, M3)) = _; rw [if_neg e10], hm2.rds s3, s3.low⟩
theorem x7_quiver57 (kk : Int32 → Mem → Option (Int32 × Mem)) : f_X7_quiver_57 kk FU 0 M = kk 2 (um (um M 44 0 0) 44 1 0) := by
  have h := FU_gt (n := 3) (by omega)
  generalize FU = f at h
  obtain ⟨f, rfl⟩ : ∃ f', f = f' + 1 + 1 + 1 := ⟨f - 3, by omega⟩
  rfl
theorem op_quiver (h : Inv M) : ∃ r M1 M2, f_X7_quiver M = some (r, M1) ∧ f_X8_quiver M1 = some (r, M2) ∧ Inv M2 := by
  obtain ⟨n, A, x, P, K, T, S, w, hc, hm⟩ := id h
  obtain ⟨M1, g1, g2, g⟩ := x7_read w hc
  rcases g with ⟨p, M', r1, r2, r3, r4⟩ | ⟨q, M', r1, r2, r3, r4, r5, r6⟩
  · have hp : ¬ nI p = -1 := fun e => by
      have h1 := nI_toInt (n := p) (by omega)
      rw [e] at h1
      have h2 : (-1 : Int32).toInt = -1 := rfl
      omega
    refine op_mk (f := f_X7_quiver) (g := f_X8_quiver) (-1000003) hm w ⟨M', by unfold f_X7_quiver; rw [g1, bs, r2, bs]; show (if nI p = -1 then _ else _) = _; rw [if_neg hp], hc.rds w r4, r4.high⟩ (fun M2 hm2 => ?_)
    rcases x8_reads w.2.2.2.2.2.1.1 w.okq hm2.1 hm2.2.1 hm2.2.2.2.2.1 hm2.wds false 0 rfl with ⟨p', M3, s1, s2, s3, s4⟩ | ⟨q', M3, s1, s2, s3, s4⟩
    · exact ⟨M3, by unfold f_X8_quiver; rw [s2, bs]; show (if (0 : Int32) = 0 then some (-1000003, M3) else _) = _; rw [if_pos rfl], hm2.rds s3, s3.low⟩
    · rw [r1] at s1
      cases s1
  · have w' : WF q.1.1 q.1.2.1 q.1.2.2 [] (fun _ => none) [] S := ⟨r5.1, r5.2.1, r5.2.2, ⟨by simp, fun e he => by cases he⟩, fun k e _ he => absurd he (by simp), ⟨by simp, fun e he => by cases he⟩, w.2.2.2.2.2.2⟩
    refine op_mk (f := f_X7_quiver) (g := f_X8_quiver) (nI q.2) hm w' ?_ (fun M2 hm2 => ?_)
    · obtain ⟨M4, b1, b2, b3⟩ := x2_become (a := 1) r4 r5.2.1.1 (by omega)
      obtain ⟨nx, n1, n2, n3⟩ := hc.2.1.2
      let M6 : Mem := um (um M4 45 1 0) 9 2 0
      let M8 : Mem := um (um M6 44 0 0) 44 1 0
      let M9 : Mem := um (um M8 0 11 1) 0 12 1
      have f9 : ∀ c, c ≠ 0 → c ≠ 9 → c ≠ 44 → c ≠ 45 → M9 c = M4 c := fun c c1 c2 c3 c4 => by show um (um (um (um (um (um M4 45 1 0) 9 2 0) 44 0 0) 44 1 0) 0 11 1) 0 12 1 c = _; rw [um_a c1, um_a c1, um_a c3, um_a c3, um_a c2, um_a c4]
      have f4 : ∀ c, c = 0 ∨ 8 < c → c ≠ 45 → M4 c = M c := fun c c1 c2 => by rw [b3 c (by omega), r3.1 c (by omega) c2]
      have h91 : M9 9 1 = nI nx := by show um (um (um (um (um (um M4 45 1 0) 9 2 0) 44 0 0) 44 1 0) 0 11 1) 0 12 1 9 1 = _; rw [um_a (by omega), um_a (by omega), um_a (by omega), um_a (by omega), um_k (by omega), um_a (by omega), f4 9 (by omega) (by omega)]; exact n2
      have h92 : M9 9 2 = nI 0 := by show um (um (um (um (um (um M4 45 1 0) 9 2 0) 44 0 0) 44 1 0) 0 11 1) 0 12 1 9 2 = _; rw [um_a (by omega), um_a (by omega), um_a (by omega), um_a (by omega), um_s]; rfl
      have h44 : ∀ k, k < 2 → M9 44 k = 0 := fun k hk => by
        show um (um (um (um (um (um M4 45 1 0) 9 2 0) 44 0 0) 44 1 0) 0 11 1) 0 12 1 44 k = _
        rw [um_a (by omega), um_a (by omega)]
        by_cases h1 : k = 1
        · subst h1; rw [um_s]
        · have h0 : k = 0 := by omega
          subst h0; rw [um_k (by omega), um_s]
      have h451 : M9 45 1 = nI 0 := by show um (um (um (um (um (um M4 45 1 0) 9 2 0) 44 0 0) 44 1 0) 0 11 1) 0 12 1 45 1 = _; rw [um_a (by omega), um_a (by omega), um_a (by omega), um_a (by omega), um_a (by omega), um_s]; rfl
      have h452 : M9 45 2 = nI q.2 := by show um (um (um (um (um (um M4 45 1 0) 9 2 0) 44 0 0) 44 1 0) 0 11 1) 0 12 1 45 2 = _; rw [um_a (by omega), um_a (by omega), um_a (by omega), um_a (by omega), um_a (by omega), um_k (by omega), b3 45 (by omega)]; exact r6
      have h011 : M9 0 11 = 1 := by show um (um M8 0 11 1) 0 12 1 0 11 = _; rw [um_k (by omega), um_s]
      have h012 : M9 0 12 = 1 := by show um (um M8 0 11 1) 0 12 1 0 12 = _; rw [um_s]
      refine ⟨M9, ?_, ⟨b2.on (fun b _ _ => f9 b (by omega) (by omega) (by omega) (by omega)), ⟨h92, nx, n1, h91, fun j e hj => by simp at hj⟩, fun k hk => Or.inl ⟨rfl, h44 k hk⟩, ⟨h451, fun j c hj => by simp at hj⟩, hc.2.2.2.2.1.on (hc.cS w) (fun b _ _ => by rw [f9 b (by omega) (by omega) (by omega) (by omega), f4 b (by omega) (by omega)]), Or.inl h011, Or.inl h012⟩, fun b hb => by rw [f9 b (by omega) (by omega) (by omega) (by omega), f4 b (by omega) (by omega)]⟩
      unfold f_X7_quiver
      rw [g1, bs, r2, bs]
      show (if (-1 : Int32) = -1 then (f_X2_become 1 5 M').bind _ else _) = _
      rw [if_pos rfl, b1, bs, lt_e]
      show (f_X1_forget (um M4 45 1 0)).bind _ = _
      unfold f_X1_forget
      rw [lt_e, bs, x7_quiver57]
      show (f_X7_arrowsChanged M8).bind _ = _
      rw [x7_changed, bs]
      show some (M9 45 2, M9) = _
      rw [h452]
    · rcases x8_reads w.2.2.2.2.2.1.1 w.okq hm2.1 hm2.2.1 hm2.2.2.2.2.1 hm2.wds false 0 rfl with ⟨p', M3, s1, s2, s3, s4⟩ | ⟨q', M3, s1, s2, s3, s4⟩
      · rw [r1] at s1
        cases s1
      have hm3 := hm2.rds s3
      rcases x8_reads w.2.2.2.2.2.1.1 w.okq hm3.1 hm3.2.1 hm3.2.2.2.2.1 hm3.wds true 1 rfl with ⟨p', M4, t1, t2, t3, t4⟩ | ⟨q2, M4, t1, t2, t3, t4, t5, t6⟩
      · rw [r1] at t1
        cases t1
      rw [r1] at t1
      cases t1
      have hq4 := t4.2.2.2 rfl
      let M9 : Mem := um (um (um (um (um M4 176 5 0) 176 2 0) 178 0 0) 178 1 0) 176 13 0
      have f9 : ∀ c, c ≠ 176 → c ≠ 178 → M9 c = M4 c := fun c c1 c2 => by show um (um (um (um (um M4 176 5 0) 176 2 0) 178 0 0) 178 1 0) 176 13 0 c = _; rw [um_a c1, um_a c2, um_a c2, um_a c1, um_a c1]
      have f96 : ∀ j, j ≠ 5 → j ≠ 2 → j ≠ 13 → M9 176 j = M4 176 j := fun j j1 j2 j3 => by show um (um (um (um (um M4 176 5 0) 176 2 0) 178 0 0) 178 1 0) 176 13 0 176 j = _; rw [um_k j3, um_a (by omega), um_a (by omega), um_k j2, um_k j1]
      have h5 : M9 176 5 = nI 0 := by show um (um (um (um (um M4 176 5 0) 176 2 0) 178 0 0) 178 1 0) 176 13 0 176 5 = _; rw [um_k (by omega), um_a (by omega), um_a (by omega), um_k (by omega), um_s]; rfl
      have h2 : M9 176 2 = nI 0 := by show um (um (um (um (um M4 176 5 0) 176 2 0) 178 0 0) 178 1 0) 176 13 0 176 2 = _; rw [um_k (by omega), um_a (by omega), um_a (by omega), um_s]; rfl
      have h13 : M9 176 13 = 0 := by show um (um (um (um (um M4 176 5 0) 176 2 0) 178 0 0) 178 1 0) 176 13 0 176 13 = _; rw [um_s]
      have h178 : ∀ k, k < 2 → M9 178 k = 0 := fun k hk => by
        show um (um (um (um (um M4 176 5 0) 176 2 0) 178 0 0) 178 1 0) 176 13 0 178 k = _
        rw [um_a (by omega)]
        by_cases h1 : k = 1
        · subst h1; rw [um_s]
        · have h0 : k = 0 := by omega
          subst h0; rw [um_k (by omega), um_s]
      have f4 : ∀ c, 180 ≤ c → c ≠ 187 → c ≠ 188 → c ≠ 189 → M9 c = M2 c := fun c c0 c1 c2 c3 => by rw [f9 c (by omega) (by omega), t3.1 c (by omega) (by omega) c1 c2 c3, s3.1 c (by omega) (by omega) c1 c2 c3]
      refine ⟨M9, ?_, ⟨by rw [f96 0 (by omega) (by omega) (by omega)]; exact hq4.1, by rw [f9 177 (by omega) (by omega)]; exact hq4.2, ⟨h2, fun j e hj => by simp at hj⟩, fun k hk => Or.inl ⟨rfl, h178 k hk⟩, ⟨h5, fun j c hj => by simp at hj⟩, ?_, Or.inl h13, ?_⟩, fun b hb => by rw [f9 b (by omega) (by omega), t3.low b hb, s3.low b hb]⟩
      · unfold f_X8_quiver
        rw [s2, bs]
        show (if (1 : Int32) = 0 then _ else (f_X8_reads 1 M3).bind _) = _
        rw [if_neg e10, t2, bs, lt_e, lt_e, if_neg (by decide), lt_e, if_neg (by decide), lt_e, lt_e]
        show some (M9 176 21, M9) = _
        rw [f96 21 (by omega) (by omega) (by omega), t6]
      · unfold MS; rw [f4 180 (by omega) (by omega) (by omega) (by omega), f4 181 (by omega) (by omega) (by omega) (by omega), f4 182 (by omega) (by omega) (by omega) (by omega)]; exact hm2.2.2.2.2.2.1
      · unfold MC; rw [f4 186 (by omega) (by omega) (by omega) (by omega), f4 190 (by omega) (by omega) (by omega) (by omega)]; exact hm2.2.2.2.2.2.2.2
end READS

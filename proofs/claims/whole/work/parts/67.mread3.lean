/-! ===== the reference reads the clauses ===== -/
section MREAD3
variable {M M0 M' : Mem} {T : List Int32} {n : Nat} {A : Arr} {x : Row} {d : Bool}
theorem x8_clause (hL : T.length ≤ 200) (hC : MT M T) (hW : WDS M) (hQ : OKQ n A x) (hr : RT M d n A x) {s : Nat} (hs : s ≤ T.length) (ht : RTk M T s) : (∃ p M', clz T n A x s = .inl p ∧ f_X8_readsClause M = some (0, M') ∧ RF d M M' ∧ M' 176 21 = M 176 21 ∧ M' 176 15 = nI p) ∨ (∃ q M', clz T n A x s = .inr q ∧ f_X8_readsClause M = some (1, M') ∧ RF d M M' ∧ M' 176 21 = M 176 21 ∧ RT M' d q.1.1 q.1.2.1 q.1.2.2 ∧ OKQ q.1.1 q.1.2.1 q.1.2.2 ∧ q.2 ≤ T.length ∧ RTk M' T (tks T q.2)) := by
  obtain ⟨⟨hn1, hn⟩, hA, hx⟩ := hQ
  have hl10 := hA.1
  have hse := (tke_ok (T := T) hs).2.1
  have e10a : (1 : Int32).toNatClampNeg = 1 := rfl
  have e00a : (0 : Int32).toNatClampNeg = 0 := rfl
  have g06 : ¬ ((0 : Int32) < 0 ∨ 6 ≤ (0 : Int32).toNatClampNeg) := by decide
  have g16 : ¬ ((1 : Int32) < 0 ∨ 6 ≤ (1 : Int32).toNatClampNeg) := by decide
  have q00 : ¬ (0 : Int32) < 0 := by decide
  have q10 : ¬ (1 : Int32) < 0 := by decide
  have n60 : ¬ (6 : Nat) ≤ 0 := by omega
  have n61 : ¬ (6 : Nat) ≤ 1 := by omega
  rcases x8_wordHere hC hW hL hs ht.1 ht.2 with ⟨j, hj, hwj, hw⟩ | ⟨hno, hw⟩
  · have hj3 : j = 0 ∨ j = 1 ∨ j = 2 := by omega
    rcases hj3 with rfl | rfl | rfl
    · -- quiver
      have hz : clz T n A x s = match nm T (tks T (tke T s)) 1 6 with
        | none => .inl (tks T (tke T s))
        | some m => .inr ((m, [], fun _ => 0), tke T (tks T (tke T s))) := by unfold clz; rw [dc_t hwj, if_pos rfl]; rfl
      have hw : f_X8_wordHere M = some 0 := hw
      have z0 : ¬ (0 : Int32) < 0 := by decide
      have z1 : ¬ (0 : Int32) = 1 := by decide
      obtain ⟨M1, a1, a2, a3, a4, a5, a6⟩ := r_next hC hL hse ht.2
      obtain ⟨hr1, hf1⟩ := hr.tok (M' := M1) (fun c c1 _ => a2 c c1) a3
      have h21 : M1 176 21 = M 176 21 := a3 21 (by omega) (by omega)
      have hC1 := hf1.mt hC
      rcases x8_number (k := 0) (lo := 1) (hi := 6) hC1 hL a5 (by omega) (by omega) (by omega) a4 with ⟨g1, g2⟩ | ⟨m, M2, g1, g2, g3, g4, g5, g6, g7, g8, g9⟩
      · rw [g1] at hz
        have g2 : f_X8_number 0 1 6 M1 = some (0, M1) := g2
        refine Or.inl ⟨_, M1, hz, ?_, hf1, h21, a4.1⟩
        simp only [f_X8_readsClause, f_X8_readsRest, hw, bs, z0, z1, if_false, a1, if_true, g2, true_or, not_true, eq_self]
      · rw [g1] at hz
        have g2 : f_X8_number 0 1 6 M1 = some (1, M2) := g2
        have hm := nm_ok g1
        obtain ⟨hr2, hf2⟩ := hr1.tok g3 g4
        have g6 : M2 189 0 = nI m := g6
        -- told anew
        let M3 : Mem := um (um M2 176 17 (nI m)) 176 18 0
        have hte := (tke_ok (T := T) a5).2.1
        have f3 : ∀ c, c ≠ 176 → M3 c = M2 c := fun c hc => by show um (um M2 176 17 (nI m)) 176 18 0 c = _; rw [um_a hc, um_a hc]
        have f36 : ∀ j, j ≠ 17 → j ≠ 18 → M3 176 j = M2 176 j := fun j j1 j2 => by show um (um M2 176 17 (nI m)) 176 18 0 176 j = _; rw [um_k j2, um_k j1]
        have hR3 : RF d M M3 := (hf1.tr hf2).tr ⟨fun c c1 _ _ _ _ => f3 c c1, fun j _ _ _ j17 j18 _ _ => f36 j j17 j18, fun _ => ⟨f3 177 (by omega), f36 0 (by omega) (by omega)⟩, fun q _ => by rw [f3 177 (by omega)]⟩
        have h17 : M3 176 17 = nI m := by show um (um M2 176 17 (nI m)) 176 18 0 176 17 = _; rw [um_k (by omega), um_s]
        have h18 : M3 176 18 = 0 := by show um (um M2 176 17 (nI m)) 176 18 0 176 18 = _; rw [um_s]
        have hTO : TO M3 [] := ⟨h18, fun k hk => by simp at hk⟩
        have ht3 : RTk M3 T (tks T (tke T (tks T (tke T s)))) := ⟨by rw [f36 15 (by omega) (by omega)]; exact g7.1, by rw [f36 16 (by omega) (by omega)]; exact g7.2⟩
        have h321 : M3 176 21 = M 176 21 := by rw [f36 21 (by omega) (by omega), g4 21 (by omega) (by omega)]; exact h21
        have h22 : M3 176 22 = if d then 1 else 0 := by rw [f36 22 (by omega) (by omega)]; exact hr2.2.2.1
        have hrun : f_X8_readsClause M = if M3 176 22 = 0 then some (1, M3) else (f_X8_does 0 M3).bind fun (M24 : Mem) => some (1, M24) := by
          simp only [f_X8_readsClause, f_X8_readsRest, hw, bs, z0, z1, if_false, a1, if_true, g2, e10, e00a, q00, n60, or_self, g6, lt_p, or_true, not_true, eq_self]
          rfl
        cases d with
        | false =>
          refine Or.inr ⟨_, M3, hz, ?_, hR3, h321, ⟨h17, hTO, h22, fun q => absurd q (by simp)⟩, ⟨⟨hm.1, hm.2.1⟩, oka_nil, okr_zero⟩, hte, ht3⟩
          rw [hrun, h22, if_neg ff_t, if_pos rfl]
        | true =>
          have h189 : M3 189 0 = nI m := by rw [f3 189 (by omega)]; exact g6
          obtain ⟨M4, b1, b2, b3, b4, b5, b6⟩ := x8_anew (M := M3) m
          refine Or.inr ⟨_, M4, hz, ?_, hR3.tr ⟨fun c c1 c2 _ _ _ => b2 c c1 c2, fun j j0 _ _ _ _ _ _ => b3 j j0, fun q => absurd q (by simp), b6⟩, by rw [b3 21 (by omega)]; exact h321, ⟨by rw [b3 17 (by omega)]; exact h17, ⟨by rw [b3 18 (by omega)]; exact h18, fun k hk => by simp at hk⟩, by rw [b3 22 (by omega)]; exact h22, fun _ => ⟨b4, b5⟩⟩, ⟨⟨hm.1, hm.2.1⟩, oka_nil, okr_zero⟩, hte, ⟨by rw [b3 15 (by omega)]; exact ht3.1, by rw [b3 16 (by omega)]; exact ht3.2⟩⟩
          have hdo : f_X8_does 0 M3 = some M4 := by
            unfold f_X8_does
            rw [if_pos rfl, if_neg g06, e00a, h189, b1, bs]
          rw [hrun, h22, if_pos rfl, if_neg e10, hdo, bs]
    · -- arrow
      have hw : f_X8_wordHere M = some 1 := hw
      have c0 : ¬ wdp T 0 s := fun q => by have := wdp_uq (T := T) (by omega) (by omega) q hwj; omega
      have z0 : ¬ (1 : Int32) < 0 := by decide
      have h18 : M 176 18 = nI A.length := hr.2.1.1
      by_cases hl : A.length < 10
      · have hz : clz T n A x s = match nm T (tks T (tke T s)) 0 (n - 1) with
          | none => .inl (tks T (tke T s))
          | some u => match nm T (tks T (tke T (tks T (tke T s)))) 0 (n - 1) with
            | none => .inl (tks T (tke T (tks T (tke T s))))
            | some v => if (rch false A n (2 ^ v)).testBit u then .inl (tks T (tke T (tks T (tke T s)))) else .inr ((n, A ++ [(u, v)], x), tke T (tks T (tke T (tks T (tke T s))))) := by unfold clz; rw [dc_f c0, if_neg ff_t, dc_t hwj, if_pos rfl, if_pos hl]; rfl
        have hne : nI A.length = 10 ↔ False := iff_of_false (fun q => by have := (iE (b := 10) (by omega) (by omega)).mp q; omega) id
        have en : nI n - 1 = nI (n - 1) := sb_i (b := 1) (by omega)
        obtain ⟨M1, a1, a2, a3, a4, a5, a6⟩ := r_next hC hL hse ht.2
        obtain ⟨hr1, hf1⟩ := hr.tok (M' := M1) (fun c c1 _ => a2 c c1) a3
        have h21 : M1 176 21 = M 176 21 := a3 21 (by omega) (by omega)
        have hC1 := hf1.mt hC
        have h17 : M1 176 17 = nI n := hr1.1
        rcases x8_number (k := 0) (lo := 0) (hi := n - 1) hC1 hL a5 (by omega) (by omega) (by omega) a4 with ⟨g1, g2⟩ | ⟨u, M2, g1, g2, g3, g4, g5, g6, g7, g8, g9⟩
        · rw [g1] at hz
          have g2 : f_X8_number 0 0 (nI (n - 1)) M1 = some (0, M1) := g2
          refine Or.inl ⟨_, M1, hz, ?_, hf1, h21, a4.1⟩
          simp only [f_X8_readsClause, f_X8_readsRest, hw, bs, z0, if_false, h18, hne, a1, if_true, h17, en, g2, e10, eq_self]
        · rw [g1] at hz
          have g2 : f_X8_number 0 0 (nI (n - 1)) M1 = some (1, M2) := g2
          have g6 : M2 189 0 = nI u := g6
          have hu := nm_ok g1
          obtain ⟨hr2, hf2⟩ := hr1.tok g3 g4
          have hC2 := hf2.mt hC1
          have h172 : M2 176 17 = nI n := hr2.1
          have h221 : M2 176 21 = M 176 21 := by rw [g4 21 (by omega) (by omega)]; exact h21
          have hh : f_X8_numberHere 0 (nI (n - 1)) M2 = some (match nm T (tks T (tke T (tks T (tke T s)))) 0 (n - 1) with | some m => nI m | none => -1) := x8_numberHere (lo := 0) hC2 hL g8 (by omega) (by omega) g7.1 g7.2
          have hneg : (-1 : Int32) < 0 := by decide
          rcases x8_number (k := 1) (lo := 0) (hi := n - 1) hC2 hL g8 (by omega) (by omega) (by omega) g7 with ⟨k1, k2⟩ | ⟨v, M3, k1, k2, k3, k4, k5, k6, k7, k8, k9⟩
          · rw [k1] at hh
            have hh : f_X8_numberHere 0 (nI (n - 1)) M2 = some (-1) := hh
            have hz : clz T n A x s = .inl (tks T (tke T (tks T (tke T s)))) := by rw [hz]; show (match nm T (tks T (tke T (tks T (tke T s)))) 0 (n - 1) with | none => _ | some v => _) = _; rw [k1]
            refine Or.inl ⟨_, M2, hz, ?_, hf1.tr hf2, h221, g7.1⟩
            simp only [f_X8_readsClause, f_X8_readsRest, hw, bs, z0, if_false, h18, hne, a1, if_true, h17, en, g2, e10, eq_self, h172, hh, hneg]
          · rw [k1] at hh
            have hh : f_X8_numberHere 0 (nI (n - 1)) M2 = some (nI v) := hh
            have k2 : f_X8_number 1 0 (nI (n - 1)) M2 = some (1, M3) := k2
            have hv := nm_ok k1
            have hvp : ¬ nI v < 0 := nI_pos (by omega)
            have hz : clz T n A x s = if (rch false A n (2 ^ v)).testBit u then .inl (tks T (tke T (tks T (tke T s)))) else .inr ((n, A ++ [(u, v)], x), tke T (tks T (tke T (tks T (tke T s))))) := by rw [hz]; show (match nm T (tks T (tke T (tks T (tke T s)))) 0 (n - 1) with | none => _ | some v => _) = _; rw [k1]
            have hsat := (rch_sat (ew := false) hA hn (b := 2 ^ v) (Nat.pow_lt_pow_right (by omega) (show v < n by omega)) pow_ne0).1
            have hld := x8_leads hr2.2.1 hA hn v u (by omega) (by omega)
            rw [← hsat] at hld
            cases htb : (rch false A n (2 ^ v)).testBit u with
            | true =>
              rw [htb, if_pos rfl] at hz hld
              refine Or.inl ⟨_, M2, hz, ?_, hf1.tr hf2, h221, g7.1⟩
              simp only [f_X8_readsClause, f_X8_readsRest, hw, bs, z0, if_false, h18, hne, a1, if_true, h17, en, g2, e10, eq_self, h172, hh, hvp, q00, n60, or_self, e00a, g6, hld]
            | false =>
              rw [htb, if_neg ff_t] at hz hld
              obtain ⟨hr3, hf3⟩ := hr2.tok k3 k4
              have h1890 : M3 189 0 = nI u := by rw [k5 0 (by omega)]; exact g6
              have h1891 : M3 189 1 = nI v := k6
              have h183 : M3 176 18 = nI A.length := hr3.2.1.1
              let M4 : Mem := um (um (um M3 187 A.length (nI u)) 188 A.length (nI v)) 176 18 (nI (A.length + 1))
              have f4 : ∀ c, c ≠ 176 → c ≠ 187 → c ≠ 188 → M4 c = M3 c := fun c c1 c2 c3 => by show um (um (um M3 187 A.length (nI u)) 188 A.length (nI v)) 176 18 (nI (A.length + 1)) c = _; rw [um_a c1, um_a c3, um_a c2]
              have f46 : ∀ j, j ≠ 18 → M4 176 j = M3 176 j := fun j hj => by show um (um (um M3 187 A.length (nI u)) 188 A.length (nI v)) 176 18 (nI (A.length + 1)) 176 j = _; rw [um_k hj, um_a (by omega), um_a (by omega)]
              have hTO : TO M4 (A ++ [(u, v)]) := hr3.2.1.add (fun k hk => ⟨by show um (um (um M3 187 A.length (nI u)) 188 A.length (nI v)) 176 18 (nI (A.length + 1)) 187 k = _; rw [um_a (by omega), um_a (by omega), um_k (by omega)], by show um (um (um M3 187 A.length (nI u)) 188 A.length (nI v)) 176 18 (nI (A.length + 1)) 188 k = _; rw [um_a (by omega), um_k (by omega), um_a (by omega)]⟩) (by show um (um (um M3 187 A.length (nI u)) 188 A.length (nI v)) 176 18 (nI (A.length + 1)) 187 A.length = _; rw [um_a (by omega), um_a (by omega), um_s]) (by show um (um (um M3 187 A.length (nI u)) 188 A.length (nI v)) 176 18 (nI (A.length + 1)) 188 A.length = _; rw [um_a (by omega), um_s]) (by show um (um (um M3 187 A.length (nI u)) 188 A.length (nI v)) 176 18 (nI (A.length + 1)) 176 18 = _; rw [um_s])
              have hR4 : RF d M M4 := ((hf1.tr hf2).tr hf3).tr ⟨fun c c1 _ c3 c4 _ => f4 c c1 c3 c4, fun j _ _ _ _ j18 _ _ => f46 j j18, fun _ => ⟨f4 177 (by omega) (by omega) (by omega), f46 0 (by omega)⟩, fun q _ => by rw [f4 177 (by omega) (by omega) (by omega)]⟩
              have h421 : M4 176 21 = M 176 21 := by rw [f46 21 (by omega), k4 21 (by omega) (by omega)]; exact h221
              have h22 : M4 176 22 = if d then 1 else 0 := by rw [f46 22 (by omega)]; exact hr3.2.2.1
              have ht4 : RTk M4 T (tks T (tke T (tks T (tke T (tks T (tke T s)))))) := ⟨by rw [f46 15 (by omega)]; exact k7.1, by rw [f46 16 (by omega)]; exact k7.2⟩
              have hte := (tke_ok (T := T) g8).2.1
              have hQ' : OKQ n (A ++ [(u, v)]) x := ⟨⟨hn1, hn⟩, oka_put hA hn hl (by omega) (by omega) htb, hx⟩
              have e187 : um M3 187 A.length (nI u) 176 18 = nI A.length := by rw [um_a (by omega)]; exact h183
              have e189 : um M3 187 A.length (nI u) 189 1 = nI v := by rw [um_a (by omega)]; exact h1891
              have e188 : um (um M3 187 A.length (nI u)) 188 A.length (nI v) 176 18 = nI A.length := by rw [um_a (by omega)]; exact e187
              have hin10 : ¬ (nI A.length < 0 ∨ 10 ≤ (nI A.length).toNatClampNeg) := nI_in hl (by omega)
              have hcl : (nI A.length).toNatClampNeg = A.length := cl (by omega)
              have hneg10 : ¬ nI A.length < 0 := nI_pos (by omega)
              have hle10 : ¬ 10 ≤ A.length := by omega
              have hrun : f_X8_readsClause M = if M4 176 22 = 0 then some (1, M4) else (f_X8_does 1 M4).bind fun (M24 : Mem) => some (1, M24) := by
                simp only [f_X8_readsClause, f_X8_readsRest, hw, bs, z0, if_false, h18, hne, a1, if_true, h17, en, g2, e10, eq_self, h172, hh, hvp, q00, n60, or_self, e00a, g6, hld, k2, h183, hneg10, hle10, hcl, h1890, lt_p, q10, n61, e10a, e187, e189, e188, s1_i]
                rfl
              cases d with
              | false =>
                refine Or.inr ⟨_, M4, hz, ?_, hR4, h421, ⟨by rw [f46 17 (by omega)]; exact hr3.1, hTO, h22, fun q => absurd q (by simp)⟩, hQ', hte, ht4⟩
                rw [hrun, h22, if_neg ff_t, if_pos rfl]
              | true =>
                have hrq := hr3.2.2.2 rfl
                obtain ⟨M5, b1, b2, b3, b4⟩ := x8_addArrow (M := M4) (A := A) (x := x) (by rw [f4 177 (by omega) (by omega) (by omega)]; exact hrq.2) hl u v
                refine Or.inr ⟨_, M5, hz, ?_, hR4.tr ⟨fun c _ c2 _ _ _ => b3 c c2, fun j _ _ _ _ _ _ _ => by rw [b3 176 (by omega)], fun q => absurd q (by simp), b4⟩, by rw [b3 176 (by omega)]; exact h421, ⟨by rw [b3 176 (by omega), f46 17 (by omega)]; exact hr3.1, ⟨by rw [b3 176 (by omega)]; exact hTO.1, fun k hk => by rw [b3 187 (by omega), b3 188 (by omega)]; exact hTO.2 k hk⟩, by rw [b3 176 (by omega)]; exact h22, fun _ => ⟨by rw [b3 176 (by omega), f46 0 (by omega)]; exact hrq.1, b2⟩⟩, hQ', hte, ⟨by rw [b3 176 (by omega)]; exact ht4.1, by rw [b3 176 (by omega)]; exact ht4.2⟩⟩
                have h0 : M4 189 0 = nI u := by rw [f4 189 (by omega) (by omega) (by omega)]; exact h1890
                have h1 : M4 189 1 = nI v := by rw [f4 189 (by omega) (by omega) (by omega)]; exact h1891
                have hdo : f_X8_does 1 M4 = some M5 := by
                  unfold f_X8_does
                  rw [if_neg e10, if_pos rfl, if_neg g06, if_neg g16, e00a, e10a, h0, h1, b1, bs]
                rw [hrun, h22, if_pos rfl, if_neg e10, hdo, bs]
      · have hz : clz T n A x s = .inl s := by unfold clz; rw [dc_f c0, if_neg ff_t, dc_t hwj, if_pos rfl, if_neg hl]
        have h10 : A.length = 10 := by omega
        have h18' : M 176 18 = 10 := by rw [h18, h10]; rfl
        refine Or.inl ⟨s, M, hz, ?_, RF.refl, rfl, ht.1⟩
        simp only [f_X8_readsClause, hw, bs, z0, if_false, if_true, h18', eq_self]
    · -- row
      have hw : f_X8_wordHere M = some 2 := hw
      have c0 : ¬ wdp T 0 s := fun q => by have := wdp_uq (T := T) (by omega) (by omega) q hwj; omega
      have c1 : ¬ wdp T 1 s := fun q => by have := wdp_uq (T := T) (by omega) (by omega) q hwj; omega
      have hz : clz T n A x s = match rowz T n 0 (tke T s) x with
        | .inl p => .inl p
        | .inr q => .inr ((n, A, q.1), q.2) := by unfold clz; rw [dc_f c0, if_neg ff_t, dc_f c1, if_neg ff_t, dc_t hwj, if_pos rfl]; rfl
      have z0 : ¬ (2 : Int32) < 0 := by decide
      have z1 : ¬ (2 : Int32) = 1 := by decide
      have z2 : ¬ (2 : Int32) = 0 := by decide
      obtain ⟨M1, a1, a2, a3, a4, a5, a6⟩ := r_next hC hL hse ht.2
      obtain ⟨hr1, hf1⟩ := hr.tok (M' := M1) (fun c c1 _ => a2 c c1) a3
      have h21 : M1 176 21 = M 176 21 := a3 21 (by omega) (by omega)
      have hC1 := hf1.mt hC
      rcases x8_rowz hL hn n 0 (tke T s) x M1 (by omega) hse hC1 hr1.1 a4 (fun j hj => by omega) FU (FU_gt (by omega)) with ⟨p, M2, r1, r2, r3, r4, r5⟩ | ⟨x', e', M2, r1, r2, r3, r4, r5, r6, r7, r8⟩
      · rw [r1] at hz
        obtain ⟨hr2, hf2⟩ := hr1.tok r3 r4
        refine Or.inl ⟨p, M2, hz, ?_, hf1.tr hf2, by rw [r4 21 (by omega) (by omega)]; exact h21, r5⟩
        have hrest : f_X8_readsRest 2 M1 = some (0, M2) := by
          unfold f_X8_readsRest
          rw [if_neg z2, if_neg z1]
          exact r2
        simp only [f_X8_readsClause, hw, bs, z0, z1, if_false, a1, hrest, if_true]
      · rw [r1] at hz
        obtain ⟨hr2, hf2⟩ := hr1.tok r3 r4
        have hrest : f_X8_readsRest 2 M1 = some (1, M2) := by
          unfold f_X8_readsRest
          rw [if_neg z2, if_neg z1]
          exact r2
        have h221 : M2 176 21 = M 176 21 := by rw [r4 21 (by omega) (by omega)]; exact h21
        have h22 : M2 176 22 = if d then 1 else 0 := hr2.2.2.1
        have hrun : f_X8_readsClause M = if M2 176 22 = 0 then some (1, M2) else (f_X8_does 2 M2).bind fun (M24 : Mem) => some (1, M24) := by
          simp only [f_X8_readsClause, hw, bs, z0, z1, z2, if_false, a1, hrest, e10]
        have hrz : ∀ (k i e : Nat) (y y' : Row) (e' : Nat), i + k = n → OKR n y → rowz T k i e y = .inr (y', e') → OKR n y' := by
          intro k
          induction k with
          | zero =>
            intro i e y y' e' _ hy h
            have h : (Sum.inr (y, e) : Nat ⊕ (Row × Nat)) = .inr (y', e') := h
            cases h
            exact hy
          | succ k ihk =>
            intro i e y y' e' hi hy h
            cases hnm : nm T (tks T e) 0 99 with
            | none =>
              have h : (match nm T (tks T e) 0 99 with | none => Sum.inl (tks T e) | some m => rowz T k (i + 1) (tke T (tks T e)) (upd y i (nI m))) = .inr (y', e') := h
              rw [hnm] at h
              cases h
            | some m =>
              have h : (match nm T (tks T e) 0 99 with | none => Sum.inl (tks T e) | some m => rowz T k (i + 1) (tke T (tks T e)) (upd y i (nI m))) = .inr (y', e') := h
              rw [hnm] at h
              exact ihk (i + 1) _ _ y' e' (by omega) (okr_set hy (by omega) (nm_ok hnm).2.1) h
        have hx' := hrz n 0 (tke T s) x x' e' (by omega) hx r1
        have hR' : ∀ M3 : Mem, RT M2 d n A x → True := fun _ _ => trivial
        cases d with
        | false =>
          refine Or.inr ⟨_, M2, hz, ?_, hf1.tr hf2, h221, ⟨hr2.1, hr2.2.1, h22, fun q => absurd q (by simp)⟩, ⟨⟨hn1, hn⟩, hA, hx'⟩, r6, r5⟩
          rw [hrun, h22, if_neg ff_t, if_pos rfl]
        | true =>
          have hrq := hr2.2.2.2 rfl
          obtain ⟨M3, b1, b2, b3, b4⟩ := x8_does43 (M := M2) (A := A) (x := x) (y := x') hn hrq.1 hrq.2 hl10 r7 (fun i h1 _ => r8 i h1) 2
          refine Or.inr ⟨_, M3, hz, ?_, (hf1.tr hf2).tr ⟨fun c _ c2 _ _ _ => b2 c c2, fun j _ _ _ _ _ _ _ => by rw [b2 176 (by omega)], fun q => absurd q (by simp), b4⟩, by rw [b2 176 (by omega)]; exact h221, ⟨by rw [b2 176 (by omega)]; exact hr2.1, ⟨by rw [b2 176 (by omega)]; exact hr2.2.1.1, fun k hk => by rw [b2 187 (by omega), b2 188 (by omega)]; exact hr2.2.1.2 k hk⟩, by rw [b2 176 (by omega)]; exact h22, fun _ => ⟨by rw [b2 176 (by omega)]; exact hrq.1, b3⟩⟩, ⟨⟨hn1, hn⟩, hA, hx'⟩, r6, ⟨by rw [b2 176 (by omega)]; exact r5.1, by rw [b2 176 (by omega)]; exact r5.2⟩⟩
          have hdo : f_X8_does 2 M2 = some M3 := by
            unfold f_X8_does
            rw [if_neg z2, if_neg z1]
            exact b1
          rw [hrun, h22, if_pos rfl, if_neg e10, hdo, bs]
  · have hz : clz T n A x s = .inl s := by unfold clz; rw [dc_f (hno 0 (by omega)), if_neg ff_t, dc_f (hno 1 (by omega)), if_neg ff_t, dc_f (hno 2 (by omega)), if_neg ff_t]
    have hneg : (-1 : Int32) < 0 := by decide
    refine Or.inl ⟨s, M, hz, ?_, RF.refl, rfl, ht.1⟩
    simp only [f_X8_readsClause, hw, bs, hneg, if_true]
theorem um_self {a k : Nat} {v : Int32} (h : M a k = v) : um M a k v = M := by
  funext b j
  by_cases hb : b = a
  · subst hb
    by_cases hj : j = k
    · subst hj; rw [um_s]; exact h.symm
    · rw [um_k hj]
  · rw [um_a hb]
/-- from a token on, all clauses -/
theorem x8_rdz (hL : T.length ≤ 200) (i1 : Int32) : ∀ (k c n : Nat) (A : Arr) (x : Row) (e : Nat) (M : Mem), c + (k + 1) = 24 → OKQ n A x → RT M d n A x → MT M T → WDS M → e ≤ T.length → RTk M T (tks T e) → ∀ f, k + 2 < f → ∃ qq : Int32 × Mem, f_X8_readsClause M = some qq ∧ qq.2 176 21 = M 176 21 ∧ ((∃ p M', rdz T (k + 1) c n A x e = .inl p ∧ f_X8_reads_36 i1 (fun (i2_9 : Int32) (M10 : Mem) => if ¬ (i2_9 = 0 ∨ i2_9 = 1) then none else some (i2_9, M10)) f qq.1 (um qq.2 176 21 (nI (c + 1))) = some (0, M') ∧ RF d M M' ∧ M' 176 15 = nI p) ∨ (∃ q M', rdz T (k + 1) c n A x e = .inr q ∧ f_X8_reads_36 i1 (fun (i2_9 : Int32) (M10 : Mem) => if ¬ (i2_9 = 0 ∨ i2_9 = 1) then none else some (i2_9, M10)) f qq.1 (um qq.2 176 21 (nI (c + 1))) = some (1, M') ∧ RF d M M' ∧ RT M' d q.1.1 q.1.2.1 q.1.2.2 ∧ OKQ q.1.1 q.1.2.1 q.1.2.2 ∧ M' 176 21 = nI q.2)) := by
  intro k
  have e11 : ¬ ¬ ((1 : Int32) = 0 ∨ (1 : Int32) = 1) := by decide
  have e00 : ¬ ¬ ((0 : Int32) = 0 ∨ (0 : Int32) = 1) := by decide
  have hfail : ∀ (f : Nat) (M2 : Mem), f_X8_reads_36 i1 (fun (i2_9 : Int32) (M10 : Mem) => if ¬ (i2_9 = 0 ∨ i2_9 = 1) then none else some (i2_9, M10)) (f + 1) 0 M2 = some (0, M2) := fun f M2 => by
    rw [ef_X8_reads_36]
    unfold s_X8_reads_36
    rw [if_pos rfl]
    show (if ¬ ((0 : Int32) = 0 ∨ (0 : Int32) = 1) then none else some (0, M2)) = _
    rw [if_neg e00]
  -- the count alone has changed
  have hcnt : ∀ (M1 M2 : Mem) (v : Int32), RF d M1 M2 → RF d M1 (um M2 176 21 v) := fun M1 M2 v h => h.tr ⟨fun c c1 _ _ _ _ => um_a c1, fun j _ _ _ _ _ j21 _ => um_k j21, fun _ => ⟨um_a (by omega), um_k (by omega)⟩, fun q _ => by rw [um_a (by omega)]⟩
  have hcntT : ∀ (M2 : Mem) (v : Int32) (n : Nat) (A : Arr) (x : Row), RT M2 d n A x → RT (um M2 176 21 v) d n A x := fun M2 v n A x h => ⟨by rw [um_k (by omega)]; exact h.1, ⟨by rw [um_k (by omega)]; exact h.2.1.1, fun k hk => by rw [um_a (by omega), um_a (by omega)]; exact h.2.1.2 k hk⟩, by rw [um_k (by omega)]; exact h.2.2.1, fun hd => ⟨by rw [um_k (by omega)]; exact (h.2.2.2 hd).1, by rw [um_a (by omega)]; exact (h.2.2.2 hd).2⟩⟩
  -- one clause
  have hone : ∀ (k c n : Nat) (A : Arr) (x : Row) (e : Nat) (M : Mem), c < 24 → OKQ n A x → RT M d n A x → MT M T → WDS M → e ≤ T.length → RTk M T (tks T e) → ∀ f, ∃ qq : Int32 × Mem, f_X8_readsClause M = some qq ∧ qq.2 176 21 = M 176 21 ∧ ((∃ p, clz T n A x (tks T e) = .inl p ∧ f_X8_reads_36 i1 (fun (i2_9 : Int32) (M10 : Mem) => if ¬ (i2_9 = 0 ∨ i2_9 = 1) then none else some (i2_9, M10)) (f + 1) qq.1 (um qq.2 176 21 (nI (c + 1))) = some (0, um qq.2 176 21 (nI (c + 1))) ∧ RF d M (um qq.2 176 21 (nI (c + 1))) ∧ um qq.2 176 21 (nI (c + 1)) 176 15 = nI p) ∨ ∃ q, clz T n A x (tks T e) = .inr q ∧ q.2 ≤ T.length ∧ RF d M (um qq.2 176 21 (nI (c + 1))) ∧ RT (um qq.2 176 21 (nI (c + 1))) d q.1.1 q.1.2.1 q.1.2.2 ∧ OKQ q.1.1 q.1.2.1 q.1.2.2 ∧ RTk (um qq.2 176 21 (nI (c + 1))) T (tks T q.2) ∧ f_X8_reads_36 i1 (fun (i2_9 : Int32) (M10 : Mem) => if ¬ (i2_9 = 0 ∨ i2_9 = 1) then none else some (i2_9, M10)) (f + 1) qq.1 (um qq.2 176 21 (nI (c + 1))) = if tks T q.2 < T.length then (if c + 1 < 24 ∧ cha T (tks T q.2) = 59 then (f_X8_nextToken (um qq.2 176 21 (nI (c + 1)))).bind (fun (M15 : Mem) => (f_X8_readsClause M15).bind fun (q16 : Int32 × Mem) => lt (um q16.2 176 21 ((q16.2 176 21) + 1)) fun (M17 : Mem) => f_X8_reads_36 i1 (fun (i2_9 : Int32) (M10 : Mem) => if ¬ (i2_9 = 0 ∨ i2_9 = 1) then none else some (i2_9, M10)) f q16.1 M17) else f_X8_reads_36 i1 (fun (i2_9 : Int32) (M10 : Mem) => if ¬ (i2_9 = 0 ∨ i2_9 = 1) then none else some (i2_9, M10)) f 0 (um qq.2 176 21 (nI (c + 1)))) else some (1, um qq.2 176 21 (nI (c + 1)))) := by
    intro k c n A x e M hc hQ hr hC hW he ht f
    rcases x8_clause hL hC hW hQ hr (tks_ok (T := T) he).2 ht with ⟨p, M2, g1, g2, g3, g4, g5⟩ | ⟨q, M2, g1, g2, g3, g4, g5, g6, g7, g8⟩
    · exact ⟨(0, M2), g2, g4, Or.inl ⟨p, g1, hfail f _, hcnt M M2 _ g3, by rw [um_k (by omega)]; exact g5⟩⟩
    · refine ⟨(1, M2), g2, g4, Or.inr ⟨q, g1, g7, hcnt M M2 _ g3, hcntT M2 _ _ _ _ g5, g6, ⟨by rw [um_k (by omega)]; exact g8.1, by rw [um_k (by omega)]; exact g8.2⟩, ?_⟩⟩
      have hs2 := (tks_ok (T := T) g7).2
      show f_X8_reads_36 i1 _ (f + 1) 1 (um M2 176 21 (nI (c + 1))) = _
      generalize hM3 : um M2 176 21 (nI (c + 1)) = M3
      have h5 : M3 176 5 = nI T.length := by rw [← hM3, um_k (by omega)]; exact (g3.mt hC).1
      have h15 : M3 176 15 = nI (tks T q.2) := by rw [← hM3, um_k (by omega)]; exact g8.1
      have h21 : M3 176 21 = nI (c + 1) := by rw [← hM3, um_s]
      rw [ef_X8_reads_36]
      unfold s_X8_reads_36
      rw [if_neg e10, h5, h15]
      by_cases hl : tks T q.2 < T.length
      · have h179 : M3 179 (tks T q.2) = cha T (tks T q.2) := by rw [← hM3, um_a (by omega)]; exact T_at8 (g3.mt hC).2 hl
        rw [if_pos hl, if_neg (show ¬ nI T.length ≤ nI (tks T q.2) by rw [iL (by omega) (by omega)]; omega), h21]
        by_cases h24 : c + 1 < 24
        · have n24 : ¬ (24 : Int32) ≤ nI (c + 1) := by rw [show (24 : Int32) = nI 24 from rfl, iL (by omega) (by omega)]; omega
          rw [if_neg n24, if_neg (nI_in (show tks T q.2 < 200 by omega) (by omega)), cl (by omega), h179]
          by_cases h59 : cha T (tks T q.2) = 59
          · rw [if_pos h59, if_neg e10, if_pos ⟨h24, h59⟩]
          · rw [if_neg h59, if_pos rfl, if_neg (fun z => h59 z.2)]
        · have n24 : (24 : Int32) ≤ nI (c + 1) := by rw [show (24 : Int32) = nI 24 from rfl, iL (by omega) (by omega)]; omega
          rw [if_pos n24, if_pos rfl, if_neg (fun z => h24 z.1)]
      · rw [if_neg hl, if_pos (show nI T.length ≤ nI (tks T q.2) by rw [iL (by omega) (by omega)]; omega)]
        show (if ¬ ((1 : Int32) = 0 ∨ (1 : Int32) = 1) then none else some (1, M3)) = _
        rw [if_neg e11]
  induction k with
  | zero =>
    intro c n A x e M hc hQ hr hC hW he ht f hf
    obtain ⟨f, rfl⟩ : ∃ f', f = f' + 1 + 1 := ⟨f - 2, by omega⟩
    obtain ⟨qq, g0, g00, g⟩ := hone 0 c n A x e M (by omega) hQ hr hC hW he ht (f + 1)
    refine ⟨qq, g0, g00, ?_⟩
    rcases g with ⟨p, g1, g2, g3, g4⟩ | ⟨q, g1, g2, g3, g4, g5, g6, g7⟩
    · exact Or.inl ⟨p, _, rdz_l g1, g2, g3, g4⟩
    · have hz := rdz_r (T := T) (k := 0) (c := c) g1
      by_cases hl : tks T q.2 < T.length
      · rw [if_pos hl] at hz g7
        rw [if_neg (fun z => by omega), hfail f _] at g7
        refine Or.inl ⟨tks T q.2, _, ?_, g7, g3, g6.1⟩
        rw [hz]
        by_cases h59 : cha T (tks T q.2) = 59
        · rw [if_pos h59, if_pos rfl]
        · rw [if_neg h59]
      · rw [if_neg hl] at hz g7
        exact Or.inr ⟨_, _, hz, g7, g3, g4, g5, um_s⟩
  | succ k ih =>
    intro c n A x e M hc hQ hr hC hW he ht f hf
    obtain ⟨f, rfl⟩ : ∃ f', f = f' + 1 + 1 := ⟨f - 2, by omega⟩
    obtain ⟨qq, g0, g00, g⟩ := hone (k + 1) c n A x e M (by omega) hQ hr hC hW he ht (f + 1)
    refine ⟨qq, g0, g00, ?_⟩
    rcases g with ⟨p, g1, g2, g3, g4⟩ | ⟨q, g1, g2, g3, g4, g5, g6, g7⟩
    · exact Or.inl ⟨p, _, rdz_l g1, g2, g3, g4⟩
    · have hz := rdz_r (T := T) (k := k + 1) (c := c) g1
      have hs2 := tks_ok (T := T) g2
      by_cases hl : tks T q.2 < T.length
      · rw [if_pos hl] at hz g7
        by_cases h59 : cha T (tks T q.2) = 59
        · rw [if_pos h59, if_neg (by omega)] at hz
          rw [if_pos ⟨by omega, h59⟩] at g7
          have h213 : um qq.2 176 21 (nI (c + 1)) 176 21 = nI (c + 1) := um_s
          generalize um qq.2 176 21 (nI (c + 1)) = M3 at *
          obtain ⟨M4, b1, b2, b3, b4, b5, b6⟩ := r_next (g3.mt hC) hL (tke_ok (T := T) hs2.2).2.1 g6.2
          obtain ⟨hr4, hf4⟩ := g4.tok (M' := M4) (fun c c1 _ => b2 c c1) b3
          have hf34 := g3.tr hf4
          obtain ⟨qq2, p0, p00, p⟩ := ih (c + 1) q.1.1 q.1.2.1 q.1.2.2 (tke T (tks T q.2)) M4 (by omega) g5 hr4 (hf34.mt hC) (hf34.wds hW) (tke_ok (T := T) hs2.2).2.1 b4 (f + 1) (by omega)
          have e21 : qq2.2 176 21 + 1 = nI (c + 1 + 1) := by rw [p00, b3 21 (by omega) (by omega), h213, s1_i]
          rw [b1, bs, p0, bs, e21, lt_e] at g7
          rcases p with ⟨pp, M5, p1, p2, p3, p4⟩ | ⟨q5, M5, p1, p2, p3, p4⟩
          · exact Or.inl ⟨pp, M5, hz.trans p1, g7.trans p2, hf34.tr p3, p4⟩
          · exact Or.inr ⟨q5, M5, hz.trans p1, g7.trans p2, hf34.tr p3, p4⟩
        · rw [if_neg h59] at hz
          rw [if_neg (fun z => h59 z.2), hfail f _] at g7
          exact Or.inl ⟨tks T q.2, _, hz, g7, g3, g6.1⟩
      · rw [if_neg hl] at hz g7
        exact Or.inr ⟨_, _, hz, g7, g3, g4, g5, um_s⟩
end MREAD3

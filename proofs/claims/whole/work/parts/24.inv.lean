/-! ===== what is found of a quiver: the words ===== -/
/-- the points that are left when i have been taken, by right order; the point that is taken then -/
def rdy (n : Nat) (A : Arr) (b : Nat) : Nat := ((List.range n).find? (fun p => b.testBit p && !goT A p b)).getD 0
def lft (n : Nat) (A : Arr) : Nat → Nat
  | 0 => 2 ^ n - 1
  | i + 1 => lft n A i - 2 ^ rdy n A (lft n A i)
def ord (n : Nat) (A : Arr) (i : Nat) : Nat := rdy n A (lft n A i)
def plc (n : Nat) (A : Arr) (p : Nat) : Nat := ((List.range n).find? (fun i => ord n A i == p)).getD 0
/-- ways of fewer than t arrows -/
def wys (A : Arr) : Nat → Nat → Nat → Int32
  | 0, _, _ => 0
  | t + 1, p, q => A.foldl (fun s e => if e.1 = p then s + wys A t e.2 q else s) (if p = q then 1 else 0)
def pth (A : Arr) (p q : Nat) : Int32 := wys A 6 p q
/-- the row that a number tells by its figures, the first point by the highest -/
def rowOf (n b c : Nat) : Row := fun i => if i < n then nI (c / b ^ (n - 1 - i) % b) else 0
def rsm (n c : Nat) : Nat := fo (fun i s => s + c / 4 ^ (n - 1 - i) % 4) n 0
def fnt (n : Nat) (A : Arr) : Bool := (List.range (3 ^ n)).all (fun c => c == 0 || decide (0 < eul n A (rowOf n 3 c) (rowOf n 3 c)))
/-- the roots, as numbers of figures below 4, in their order -/
def rts (n : Nat) (A : Arr) : List Nat := (List.range 19).flatMap (fun s => (List.range (4 ^ n)).reverse.filter (fun c => decide (c ≠ 0) && decide (rsm n c = s) && decide (eul n A (rowOf n 4 c) (rowOf n 4 c) = 1)))
def rt (n : Nat) (A : Arr) (t : Nat) : Row := rowOf n 4 ((rts n A).getD t 0)
def unr (i : Nat) : Row := fun j => if j = i then 1 else 0
/-- the number of TAU -/
def isTau (n : Nat) (A : Arr) (r t : Nat) : Prop := ∀ i, i < n → eul n A (unr i) (rt n A t) + eul n A (rt n A r) (unr i) = 0
/-! ===== the class's memory ===== -/
def WaysOK (M : Mem) (n : Nat) (A : Arr) : Prop := (∀ i, i < n → M 48 i = nI (ord n A i)) ∧ (∀ p, p < n → M 49 p = nI (plc n A p)) ∧ ∀ p, p < n → ∀ q, q < n → M (51 + p) q = pth A p q
def TauOK (n : Nat) (A : Arr) (t : Nat) (v : Int32) : Prop := (∃ s, s < (rts n A).length ∧ v = nI s ∧ isTau n A t s) ∨ (v = -1000000 ∧ ∀ s, s < (rts n A).length → ¬ isTau n A t s)
/-- how often TAU can be taken, and where that ends -/
def stepsTo (n : Nat) (A : Arr) : Nat → Nat → Nat → Prop
  | 0, t, e => t = e ∧ ∀ s, s < (rts n A).length → ¬ isTau n A t s
  | k + 1, t, e => ∃ s, s < (rts n A).length ∧ isTau n A t s ∧ stepsTo n A k s e
def isPrj (n : Nat) (A : Arr) (t p : Nat) : Prop := ∀ j, j < n → rt n A t j = pth A p j
def isInj (n : Nat) (A : Arr) (t p : Nat) : Prop := ∀ j, j < n → rt n A t j = pth A j p
def RootsOK (M : Mem) (n : Nat) (A : Arr) : Prop := (fnt n A = false ∧ M 57 0 = 0) ∨ (fnt n A = true ∧ (rts n A).length ≤ 36 ∧ M 57 0 = 1 ∧ M 57 1 = nI (rts n A).length ∧ ∀ t, t < (rts n A).length → (∀ i, i < 6 → M (59 + t) i = rt n A t i) ∧ M 95 t = nI (rsm n ((rts n A).getD t 0)) ∧ TauOK n A t (M 96 t) ∧ (∃ k e p, stepsTo n A k t e ∧ M 97 t = nI k ∧ k < 36 ∧ p < n ∧ isPrj n A e p ∧ M 98 t = nI p) ∧ ((∃ p, p < n ∧ isInj n A t p ∧ M 99 t = nI p) ∨ (M 99 t = -1 ∧ ∀ p, p < n → ¬ isInj n A t p)))
def CP (M : Mem) (n : Nat) (P : List (Arr × Row)) : Prop := M 9 2 = nI P.length ∧ ∃ nx, nx < 8 ∧ M 9 1 = nI nx ∧ ∀ j e, P[j]? = some e → CQ M (11 + 4 * ((nx + 8 - P.length + j) % 8)) n e.1 e.2
def CK (M : Mem) (n : Nat) (K : Nat → Option (Arr × Row)) : Prop := ∀ k, k < 2 → (K k = none ∧ M 44 k = 0) ∨ ∃ e, K k = some e ∧ M 44 k = 1 ∧ CQ M (147 + 4 * k) n e.1 e.2
def CT (M : Mem) (T : List Int32) : Prop := M 45 1 = nI T.length ∧ ∀ j c, T[j]? = some c → M 46 j = c
def CS (M : Mem) (S : Nat → Option (List (Nat × Row))) : Prop := ∀ s, s < 3 → (S s = none ∧ M (155 + 7 * s) 0 = 0 ∧ M (155 + 7 * s) 1 = 0) ∨ ∃ l, S s = some l ∧ M (155 + 7 * s) 0 = 1 ∧ M (155 + 7 * s) 1 = nI l.length ∧ ∀ j e, l[j]? = some e → M (155 + 7 * s + 6) j = nI e.1 ∧ ∀ i, i < 6 → M (155 + 7 * s + 2 + j) i = e.2 i
def CW (M : Mem) (n : Nat) (A : Arr) : Prop := M 0 11 = 1 ∨ (M 0 11 = 0 ∧ WaysOK M n A)
def CR (M : Mem) (n : Nat) (A : Arr) : Prop := M 0 12 = 1 ∨ (M 0 12 = 0 ∧ RootsOK M n A)
/-! ===== the reference's memory ===== -/
def KnowsOK (M : Mem) (n : Nat) (A : Arr) : Prop := (∀ p, p < n → ∀ q, q < n → M 183 (6 * p + q) = pth A p q) ∧ ((fnt n A = false ∧ M 176 12 = -1) ∨ (fnt n A = true ∧ (rts n A).length ≤ 36 ∧ M 176 12 = nI (rts n A).length ∧ ∀ t, t < (rts n A).length → (∀ i, i < 6 → M 184 (6 * t + i) = rt n A t i) ∧ TauOK n A t (M 185 t)))
def MP (M : Mem) (P : List (Arr × Row)) : Prop := M 176 2 = nI P.length ∧ ∀ j e, P[j]? = some e → RQ (M 177) (27 + 27 * j) e.1 e.2
def MK (M : Mem) (K : Nat → Option (Arr × Row)) : Prop := ∀ k, k < 2 → (K k = none ∧ M 178 k = 0) ∨ ∃ e, K k = some e ∧ M 178 k = 1 ∧ RQ (M 177) (243 + 27 * k) e.1 e.2
def MT (M : Mem) (T : List Int32) : Prop := M 176 5 = nI T.length ∧ ∀ j c, T[j]? = some c → M 179 j = c
def MS (M : Mem) (S : Nat → Option (List (Nat × Row))) : Prop := ∀ s, s < 3 → (S s = none ∧ M 180 s = -1) ∨ ∃ l, S s = some l ∧ M 180 s = nI l.length ∧ ∀ j e, l[j]? = some e → M 181 (4 * s + j) = nI e.1 ∧ ∀ i, i < 6 → M 182 (6 * (4 * s + j) + i) = e.2 i
def MN (M : Mem) (n : Nat) (A : Arr) : Prop := M 176 13 = 0 ∨ (M 176 13 = 1 ∧ KnowsOK M n A)
def MC (M : Mem) : Prop := (∀ i, i < 6 → ∀ j, j < 6 → M 186 (6 * i + j) = unr i j) ∧ ∀ k, k < 18 → M 190 k = ([113, 117, 105, 118, 101, 114, 97, 114, 114, 111, 119, 0, 114, 111, 119, 0, 0, 0] : List Int32).getD k 0
/-! ===== the whole ===== -/
def WF (n : Nat) (A : Arr) (x : Row) (P : List (Arr × Row)) (K : Nat → Option (Arr × Row)) (T : List Int32) (S : Nat → Option (List (Nat × Row))) : Prop :=
  (1 ≤ n ∧ n ≤ 6) ∧ OKA n A ∧ OKR n x ∧ (P.length ≤ 8 ∧ ∀ e ∈ P, OKA n e.1 ∧ OKR n e.2) ∧ (∀ k e, k < 2 → K k = some e → OKA n e.1 ∧ OKR n e.2) ∧ (T.length ≤ 200 ∧ ∀ c ∈ T, 0 ≤ c.toInt ∧ c.toInt ≤ 255) ∧ ∀ s l, s < 3 → S s = some l → l.length ≤ 4 ∧ ∀ e ∈ l, 1 ≤ e.1 ∧ e.1 ≤ 6 ∧ OKR e.1 e.2
def CI (M : Mem) (n : Nat) (A : Arr) (x : Row) (P : List (Arr × Row)) (K : Nat → Option (Arr × Row)) (T : List Int32) (S : Nat → Option (List (Nat × Row))) : Prop :=
  CQ M 1 n A x ∧ CP M n P ∧ CK M n K ∧ CT M T ∧ CS M S ∧ CW M n A ∧ CR M n A
def MI (M : Mem) (n : Nat) (A : Arr) (x : Row) (P : List (Arr × Row)) (K : Nat → Option (Arr × Row)) (T : List Int32) (S : Nat → Option (List (Nat × Row))) : Prop :=
  M 176 0 = nI n ∧ RQ (M 177) 0 A x ∧ MP M P ∧ MK M K ∧ MT M T ∧ MS M S ∧ MN M n A ∧ MC M
def Inv (M : Mem) : Prop := ∃ (n : Nat) (A : Arr) (x : Row) (P : List (Arr × Row)) (K : Nat → Option (Arr × Row)) (T : List Int32) (S : Nat → Option (List (Nat × Row))), WF n A x P K T S ∧ CI M n A x P K T S ∧ MI M n A x P K T S
/-- the class's half is of the cells below 176, the reference's of the others -/
theorem CQ.on {M M' : Mem} {a n : Nat} {A : Arr} {x : Row} (h : CQ M a n A x) (e : ∀ b, a ≤ b → b ≤ a + 3 → M' b = M b) : CQ M' a n A x := h.congr (e a (by omega) (by omega)) (e _ (by omega) (by omega)) (e _ (by omega) (by omega)) (e _ (by omega) (by omega))
theorem CP.on {M M' : Mem} {n : Nat} {P : List (Arr × Row)} (h : CP M n P) (e : ∀ b, 9 ≤ b → b ≤ 42 → M' b = M b) : CP M' n P := by
  obtain ⟨h1, nx, h2, h3, h4⟩ := h
  refine ⟨by rw [e 9 (by omega) (by omega)]; exact h1, nx, h2, by rw [e 9 (by omega) (by omega)]; exact h3, fun j q hq => (h4 j q hq).on (fun b g1 g2 => e b (by omega) ?_)⟩
  have := Nat.mod_lt (nx + 8 - P.length + j) (show 0 < 8 by omega)
  omega
theorem CK.on {M M' : Mem} {n : Nat} {K : Nat → Option (Arr × Row)} (h : CK M n K) (e1 : M' 44 = M 44) (e : ∀ b, 147 ≤ b → b ≤ 154 → M' b = M b) : CK M' n K := by
  intro k hk
  rw [e1]
  rcases h k hk with h | ⟨q, h1, h2, h3⟩
  · exact Or.inl h
  · exact Or.inr ⟨q, h1, h2, h3.on (fun b g1 g2 => e b (by omega) (by omega))⟩
theorem CT.on {M M' : Mem} {T : List Int32} (h : CT M T) (e1 : M' 45 = M 45) (e2 : M' 46 = M 46) : CT M' T := by unfold CT; rw [e1, e2]; exact h
theorem CS.on {M M' : Mem} {S : Nat → Option (List (Nat × Row))} (h : CS M S) (hS : ∀ s l, s < 3 → S s = some l → l.length ≤ 4) (e : ∀ b, 155 ≤ b → b ≤ 175 → M' b = M b) : CS M' S := by
  intro s hs
  rw [e (155 + 7 * s) (by omega) (by omega)]
  rcases h s hs with h | ⟨l, h1, h2, h3, h4⟩
  · exact Or.inl h
  · refine Or.inr ⟨l, h1, h2, h3, fun j q hq => ?_⟩
    have hl := hS s l hs h1
    have hj := (List.getElem?_eq_some_iff.mp hq).1
    rw [e (155 + 7 * s + 6) (by omega) (by omega), e (155 + 7 * s + 2 + j) (by omega) (by omega)]
    exact h4 j q hq
theorem WaysOK.on {M M' : Mem} {n : Nat} {A : Arr} (h : WaysOK M n A) (hn : n ≤ 6) (e : ∀ b, 48 ≤ b → b ≤ 56 → M' b = M b) : WaysOK M' n A := by
  obtain ⟨h1, h2, h3⟩ := h
  refine ⟨fun i hi => by rw [e 48 (by omega) (by omega)]; exact h1 i hi, fun i hi => by rw [e 49 (by omega) (by omega)]; exact h2 i hi, fun p hp q hq => by rw [e (51 + p) (by omega) (by omega)]; exact h3 p hp q hq⟩
theorem CW.on {M M' : Mem} {n : Nat} {A : Arr} (h : CW M n A) (hn : n ≤ 6) (e0 : M' 0 11 = M 0 11) (e : ∀ b, 48 ≤ b → b ≤ 56 → M' b = M b) : CW M' n A := by
  unfold CW
  rw [e0]
  exact h.imp id (fun g => ⟨g.1, g.2.on hn e⟩)
theorem CR.on {M M' : Mem} {n : Nat} {A : Arr} (h : CR M n A) (e0 : M' 0 12 = M 0 12) (e : ∀ b, 57 ≤ b → b ≤ 99 → M' b = M b) : CR M' n A := by
  unfold CR
  rw [e0]
  refine h.imp id (fun g => ⟨g.1, ?_⟩)
  rcases g.2 with ⟨q1, q2⟩ | ⟨q1, q0, q2, q3, q4⟩
  · exact Or.inl ⟨q1, by rw [e 57 (by omega) (by omega)]; exact q2⟩
  · refine Or.inr ⟨q1, q0, by rw [e 57 (by omega) (by omega)]; exact q2, by rw [e 57 (by omega) (by omega)]; exact q3, fun t ht => ?_⟩
    have := q4 t ht
    rw [e (59 + t) (by omega) (by omega), e 95 (by omega) (by omega), e 96 (by omega) (by omega), e 97 (by omega) (by omega), e 98 (by omega) (by omega), e 99 (by omega) (by omega)]
    exact this
theorem CI.frame {M M' : Mem} {n : Nat} {A : Arr} {x : Row} {P : List (Arr × Row)} {K : Nat → Option (Arr × Row)} {T : List Int32} {S : Nat → Option (List (Nat × Row))} (w : WF n A x P K T S) (h : CI M n A x P K T S) (e : ∀ b, b < 176 → M' b = M b) : CI M' n A x P K T S := by
  obtain ⟨h1, h2, h3, h4, h5, h6, h7⟩ := h
  refine ⟨h1.on (fun b _ _ => e b (by omega)), h2.on (fun b _ _ => e b (by omega)), h3.on (e _ (by omega)) (fun b _ _ => e b (by omega)), h4.on (e _ (by omega)) (e _ (by omega)), h5.on (fun s l hs hl => (w.2.2.2.2.2.2 s l hs hl).1) (fun b _ _ => e b (by omega)), h6.on w.1.2 (by rw [e 0 (by omega)]) (fun b _ _ => e b (by omega)), h7.on (by rw [e 0 (by omega)]) (fun b _ _ => e b (by omega))⟩
theorem MI.frame {M M' : Mem} {n : Nat} {A : Arr} {x : Row} {P : List (Arr × Row)} {K : Nat → Option (Arr × Row)} {T : List Int32} {S : Nat → Option (List (Nat × Row))} (h : MI M n A x P K T S) (e : ∀ b, 176 ≤ b → M' b = M b) : MI M' n A x P K T S := by
  unfold MI MP MK MT MS MN KnowsOK MC at h ⊢
  rw [e 176 (by omega), e 177 (by omega), e 178 (by omega), e 179 (by omega), e 180 (by omega), e 181 (by omega), e 182 (by omega), e 183 (by omega), e 184 (by omega), e 185 (by omega), e 186 (by omega), e 190 (by omega)]
  exact h

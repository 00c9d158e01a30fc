/-! ===== pure level: memory, indices, loops ===== -/
theorem um_s {M : Mem} {a k : Nat} {v : Int32} : um M a k v a k = v := by unfold um va_up; rw [if_pos rfl]; exact pk_us
theorem um_k {M : Mem} {a k j : Nat} {v : Int32} (h : j ≠ k) : um M a k v a j = M a j := by unfold um va_up; rw [if_pos rfl]; exact pk_un h
theorem um_a {M : Mem} {a b k : Nat} {v : Int32} (h : b ≠ a) : um M a k v b = M b := by unfold um va_up; rw [if_neg h]
theorem um_r {M : Mem} {a k : Nat} {v : Int32} : um M a k v a = upd (M a) k v := by unfold um va_up; rw [if_pos rfl]
theorem uc_s {M : Mem} {a : Nat} {f : Nat → Int32} : uc M a f a = f := by unfold uc va_up; rw [if_pos rfl]
theorem uc_a {M : Mem} {a b : Nat} {f : Nat → Int32} (h : b ≠ a) : uc M a f b = M b := by unfold uc va_up; rw [if_neg h]
theorem cp_lt {f g : Nat → Int32} {n j : Nat} (h : j < n) : va_cpy f g 0 0 n j = f j := by
  unfold va_cpy
  rw [if_pos ⟨Nat.zero_le _, by omega⟩]
  congr 1
  omega
theorem cp_ge {f g : Nat → Int32} {n j : Nat} (h : n ≤ j) : va_cpy f g 0 0 n j = g j := by
  unfold va_cpy
  rw [if_neg (by omega)]
theorem gd {α : Type} {k N : Nat} {X : Option α} (h : k < N) (hN : N < 2147483648) : (if nI k < 0 ∨ N ≤ (nI k).toNatClampNeg then none else X) = X := if_neg (vp_in_nI h hN)
theorem cl {n : Nat} (h : n < 2147483648) : (nI n).toNatClampNeg = n := nI_clamp h
theorem le_i {a b : Nat} (ha : a < 2147483648) (hb : b < 2147483648) : (nI a ≤ nI b) = (a ≤ b) := propext (nI_leI ha hb)
theorem lt_i {a b : Nat} (ha : a < 2147483648) (hb : b < 2147483648) : (nI a < nI b) = (a < b) := propext (nI_ltI ha hb)
theorem eq_i {a b : Nat} (ha : a < 2147483648) (hb : b < 2147483648) : (nI a = nI b) = (a = b) := propext (nI_eq ha hb)
theorem ad_i (a b : Nat) : nI a + nI b = nI (a + b) := nI_add a b
theorem s1_i (a : Nat) : nI a + 1 = nI (a + 1) := nI_1 a
theorem sb_i {a b : Nat} (h : b ≤ a) : nI a - nI b = nI (a - b) := pk_sub h
theorem ml_i (a b : Nat) : nI a * nI b = nI (a * b) := pk_mul a b
/-- a fold over the numbers below n, from the first on -/
def fo {α : Type} (f : Nat → α → α) : Nat → α → α
  | 0, a => a
  | n + 1, a => f n (fo f n a)
theorem fo_0 {α : Type} {f : Nat → α → α} {a : α} : fo f 0 a = a := rfl
theorem fo_s {α : Type} {f : Nat → α → α} {n : Nat} {a : α} : fo f (n + 1) a = f n (fo f n a) := rfl
theorem fo_congr {α : Type} {f g : Nat → α → α} {n : Nat} {a : α} (h : ∀ k, k < n → ∀ b, f k b = g k b) : fo f n a = fo g n a := by
  induction n with
  | zero => rfl
  | succ n ih => rw [fo_s, fo_s, ih (fun k hk b => h k (by omega) b), h n (by omega)]
/-- a counting loop: at j the state is what the fold says; the invariant may use it -/
theorem loop_fo {σ ρ : Type} (F : Nat → σ → Nat → Option ρ) (N : Nat) (step : Nat → σ → σ) (s0 : σ) (I : Nat → σ → Prop) (hI0 : I 0 s0) (hI : ∀ j s, j < N → I j s → I (j + 1) (step j s))
    (hstep : ∀ n j s, j < N → I j s → F (n + 1) s j = F n (step j s) (j + 1)) : ∀ m j, j + m = N → ∀ n, m < n → ∃ n', n = n' + m + 1 ∧ F n (fo step j s0) j = F (n' + 1) (fo step N s0) N ∧ I N (fo step N s0) := by
  have hIj : ∀ j, j ≤ N → I j (fo step j s0) := by
    intro j
    induction j with
    | zero => intro _; exact hI0
    | succ j ih => intro h; exact hI j _ (by omega) (ih (by omega))
  intro m
  induction m with
  | zero =>
    intro j hj n hn
    have : j = N := by omega
    subst this
    exact ⟨n - 1, by omega, by rw [show n - 1 + 1 = n by omega], hIj j (Nat.le_refl _)⟩
  | succ m ih =>
    intro j hj n hn
    obtain ⟨n1, rfl⟩ : ∃ n1, n = n1 + 1 := ⟨n - 1, by omega⟩
    obtain ⟨n', h1, h2, h3⟩ := ih (j + 1) (by omega) n1 (by omega)
    refine ⟨n', by omega, ?_, h3⟩
    rw [hstep n1 j _ (by omega) (hIj j (by omega)), ← h2]
    rfl
/-- the same from the start, with the loop's end -/
theorem loop_up {σ ρ : Type} (F : Nat → σ → Nat → Option ρ) (k : σ → Option ρ) (N : Nat) (step : Nat → σ → σ) (s0 : σ) (I : Nat → σ → Prop) (hI0 : I 0 s0) (hI : ∀ j s, j < N → I j s → I (j + 1) (step j s))
    (hstep : ∀ n j s, j < N → I j s → F (n + 1) s j = F n (step j s) (j + 1)) (hend : ∀ n s, I N s → F (n + 1) s N = k s) : ∀ n, N < n → F n s0 0 = k (fo step N s0) := by
  intro n hn
  obtain ⟨n', h1, h2, h3⟩ := loop_fo F N step s0 I hI0 hI hstep N 0 (by omega) n hn
  rw [show F n s0 0 = F n (fo step 0 s0) 0 from rfl, h2]
  exact hend _ _ h3
theorem loop_u {σ ρ : Type} (F : Nat → σ → Nat → Option ρ) (k : σ → Option ρ) (N : Nat) (step : Nat → σ → σ) (s0 : σ) (hstep : ∀ n j s, j < N → F (n + 1) s j = F n (step j s) (j + 1)) (hend : ∀ n s, F (n + 1) s N = k s) : ∀ n, N < n → F n s0 0 = k (fo step N s0) :=
  loop_up F k N step s0 (fun _ _ => True) trivial (fun _ _ _ _ => trivial) (fun n j s h _ => hstep n j s h) (fun n s _ => hend n s)
theorem FU_gt {n : Nat} (h : n < 20000) : n < FU := h
/-! ===== the abstract quiver ===== -/
abbrev Arr : Type := List (Nat × Nat)
abbrev Row : Type := Nat → Int32
/-- arrows between points below n, ten at most, no way leads round -/
def OKA (n : Nat) (A : Arr) : Prop := A.length ≤ 10 ∧ (∀ e ∈ A, e.1 < n ∧ e.2 < n) ∧ ∃ rk : Nat → Nat, ∀ e ∈ A, rk e.2 < rk e.1
/-- a row: within its bounds, nothing beyond the points -/
def OKR (n : Nat) (x : Row) : Prop := (∀ i, i < 6 → -99 ≤ (x i).toInt ∧ (x i).toInt ≤ 99) ∧ ∀ i, n ≤ i → i < 6 → x i = 0
/-- a quiver of the class, at its cell -/
def CQ (M : Mem) (a n : Nat) (A : Arr) (x : Row) : Prop := M a 0 = nI n ∧ M a 1 = nI A.length ∧ (∀ k u v, A[k]? = some (u, v) → M (a + 1) k = nI u ∧ M (a + 2) k = nI v) ∧ ∀ i, i < 6 → M (a + 3) i = x i
/-- a quiver of the reference, at its place in the row -/
def RQ (f : Row) (o : Nat) (A : Arr) (x : Row) : Prop := f o = nI A.length ∧ (∀ k u v, A[k]? = some (u, v) → f (o + 1 + k) = nI u ∧ f (o + 11 + k) = nI v) ∧ ∀ i, i < 6 → f (o + 21 + i) = x i
theorem CQ.congr {M M' : Mem} {a n : Nat} {A : Arr} {x : Row} (h : CQ M a n A x) (e0 : M' a = M a) (e1 : M' (a + 1) = M (a + 1)) (e2 : M' (a + 2) = M (a + 2)) (e3 : M' (a + 3) = M (a + 3)) : CQ M' a n A x := by
  unfold CQ
  rw [e0, e1, e2, e3]
  exact h
def fr (A : Arr) (k : Nat) : Nat := (A.getD k (0, 0)).1
def tt (A : Arr) (k : Nat) : Nat := (A.getD k (0, 0)).2
theorem ft_get {A : Arr} {k : Nat} (h : k < A.length) : A[k]? = some (fr A k, tt A k) := by
  simp [fr, tt, List.getD_eq_getElem?_getD, List.getElem?_eq_getElem h]
theorem CQ.at {M : Mem} {a n : Nat} {A : Arr} {x : Row} (h : CQ M a n A x) : ∀ k, k < A.length → M (a + 1) k = nI (fr A k) ∧ M (a + 2) k = nI (tt A k) := fun k hk => h.2.2.1 k _ _ (ft_get hk)
theorem RQ.at {f : Row} {o : Nat} {A : Arr} {x : Row} (h : RQ f o A x) : ∀ k, k < A.length → f (o + 1 + k) = nI (fr A k) ∧ f (o + 11 + k) = nI (tt A k) := fun k hk => h.2.1 k _ _ (ft_get hk)
theorem OKA.at {n : Nat} {A : Arr} (h : OKA n A) : ∀ k, k < A.length → fr A k < n ∧ tt A k < n := fun k hk => h.2.1 _ (List.mem_of_getElem? (ft_get hk))
/-- a fold over indices is one over the list -/
theorem fo_list {α : Type} {A : Arr} {g : Nat × Nat → α → α} {s : α} : fo (fun k => g (A.getD k (0, 0))) A.length s = A.foldl (fun s e => g e s) s := by
  have h : ∀ j, j ≤ A.length → fo (fun k => g (A.getD k (0, 0))) j s = (A.take j).foldl (fun s e => g e s) s := by
    intro j
    induction j with
    | zero => intro _; simp [fo]
    | succ j ih =>
      intro hj
      have hj2 : j < A.length := by omega
      rw [fo_s, ih (by omega), List.take_add_one, List.foldl_append]
      simp [List.getElem?_eq_getElem hj2, List.getD_eq_getElem?_getD]
  rw [h A.length (Nat.le_refl _), List.take_length]
theorem loop_L {σ ρ : Type} (F : Nat → σ → Nat → Option ρ) (k : σ → Option ρ) (A : Arr) (g : Nat × Nat → σ → σ) (s0 : σ) (hstep : ∀ n j s, j < A.length → F (n + 1) s j = F n (g (fr A j, tt A j) s) (j + 1)) (hend : ∀ n s, F (n + 1) s A.length = k s) : ∀ n, A.length < n → F n s0 0 = k (A.foldl (fun s e => g e s) s0) := by
  intro n hn
  rw [← fo_list]
  exact loop_u F k A.length (fun k => g (A.getD k (0, 0))) s0 (fun n j s h => hstep n j s h) hend n hn
theorem gF {k N : Nat} (h : k < N) (hN : N < 2147483648) : (nI k < 0 ∨ N ≤ (nI k).toNatClampNeg) ↔ False := iff_of_false (vp_in_nI h hN) id
theorem iL {a b : Nat} (ha : a < 2147483648) (hb : b < 2147483648) : nI a ≤ nI b ↔ a ≤ b := nI_leI ha hb
theorem iT {a b : Nat} (ha : a < 2147483648) (hb : b < 2147483648) : nI a < nI b ↔ a < b := nI_ltI ha hb
theorem iE {a b : Nat} (ha : a < 2147483648) (hb : b < 2147483648) : nI a = nI b ↔ a = b := nI_eq ha hb
theorem i0 {a : Nat} (ha : a < 2147483648) : nI a = 0 ↔ a = 0 := by rw [← nI_0]; exact nI_eq ha (by omega)
theorem iN {a : Nat} (ha : a < 2147483648) : nI a < 0 ↔ False := iff_of_false (nI_pos ha) id
theorem iZ {a : Nat} (ha : a < 2147483648) : 0 ≤ nI a ↔ True := iff_of_true (nI_pos' ha) trivial
theorem nL {a b : Nat} (h : b < a) : a ≤ b ↔ False := iff_of_false (by omega) id
theorem yL {a b : Nat} (h : a ≤ b) : a ≤ b ↔ True := iff_of_true h trivial
theorem nT {a b : Nat} (h : b ≤ a) : a < b ↔ False := iff_of_false (by omega) id
theorem yT {a b : Nat} (h : a < b) : a < b ↔ True := iff_of_true h trivial
theorem z0 : ((0 : Int32) < 0) ↔ False := by decide
theorem c0 : (0 : Int32).toNatClampNeg = 0 := rfl
theorem la_1 (j : Nat) : (1 : Int32) + nI j = nI (1 + j) := nI_add 1 j
theorem la_2 (j : Nat) : (2 : Int32) + nI j = nI (2 + j) := nI_add 2 j
theorem la_11 (j : Nat) : (11 : Int32) + nI j = nI (11 + j) := nI_add 11 j
theorem la_12 (j : Nat) : (12 : Int32) + nI j = nI (12 + j) := nI_add 12 j
theorem la_21 (j : Nat) : (21 : Int32) + nI j = nI (21 + j) := nI_add 21 j
theorem la_22 (j : Nat) : (22 : Int32) + nI j = nI (22 + j) := nI_add 22 j
theorem la_27 (j : Nat) : (27 : Int32) + nI j = nI (27 + j) := nI_add 27 j
theorem la_54 (j : Nat) : (54 : Int32) + nI j = nI (54 + j) := nI_add 54 j
theorem la_10 (j : Nat) : (10 : Int32) + nI j = nI (10 + j) := nI_add 10 j
theorem ml_4 (j : Nat) : (4 : Int32) * nI j = nI (4 * j) := pk_mul 4 j
theorem ml_6 (j : Nat) : (6 : Int32) * nI j = nI (6 * j) := pk_mul 6 j
theorem ml_27 (j : Nat) : (27 : Int32) * nI j = nI (27 * j) := pk_mul 27 j
theorem ml_10 (j : Nat) : (10 : Int32) * nI j = nI (10 * j) := pk_mul 10 j
theorem ml_3 (j : Nat) : (3 : Int32) * nI j = nI (3 * j) := pk_mul 3 j
theorem loop_LI {σ ρ : Type} (F : Nat → σ → Nat → Option ρ) (k : σ → Option ρ) (A : Arr) (g : Nat × Nat → σ → σ) (s0 : σ) (I : σ → Prop) (h0 : I s0) (hI : ∀ j s, j < A.length → I s → I (g (fr A j, tt A j) s)) (hstep : ∀ n j s, j < A.length → I s → F (n + 1) s j = F n (g (fr A j, tt A j) s) (j + 1)) (hend : ∀ n s, I s → F (n + 1) s A.length = k s) : ∀ n, A.length < n → F n s0 0 = k (A.foldl (fun s e => g e s) s0) := by
  intro n hn
  rw [← fo_list]
  exact loop_up F k A.length (fun k => g (A.getD k (0, 0))) s0 (fun _ s => I s) h0 (fun j s h hi => hI j s h hi) (fun n j s h hi => hstep n j s h hi) (fun n s hi => hend n s hi) n hn
theorem foldl_inv {σ : Type} {A : Arr} {g : Nat × Nat → σ → σ} {s0 : σ} (I : σ → Prop) (h0 : I s0) (hI : ∀ e s, e ∈ A → I s → I (g e s)) : I (A.foldl (fun s e => g e s) s0) := by
  induction A generalizing s0 with
  | nil => exact h0
  | cons e A ih => exact ih (hI e s0 List.mem_cons_self h0) (fun e s he => hI e s (List.mem_cons_of_mem _ he))
theorem la_243 (j : Nat) : (243 : Int32) + nI j = nI (243 + j) := nI_add 243 j

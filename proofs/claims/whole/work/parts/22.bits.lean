/-! ===== points reached, as bits ===== -/
def rst (b u v : Nat) : Nat := if b.testBit u then b ||| 2 ^ v else b
def rst2 (b u v : Nat) : Nat := rst (rst b u v) v u
theorem bs_lt {b v : Nat} (hb : b < 64) (hv : v < 6) : b ||| 2 ^ v < 64 := (show ∀ b, b < 64 → ∀ v, v < 6 → b ||| 2 ^ v < 64 by decide +kernel) b hb v hv
theorem rst_lt {b u v : Nat} (hb : b < 64) (hv : v < 6) : rst b u v < 64 := by
  unfold rst
  by_cases h : b.testBit u
  · rw [if_pos h]; exact bs_lt hb hv
  · rw [if_neg h]; exact hb
theorem bA {b u : Nat} (hb : b < 64) (hu : u < 6) : (nI b &&& (1 <<< (nI u &&& 31)) = 0) ↔ b.testBit u = false := (show ∀ b, b < 64 → ∀ u, u < 6 → ((nI b &&& (1 <<< (nI u &&& 31)) = 0) ↔ b.testBit u = false) by decide +kernel) b hb u hu
theorem bO {b u : Nat} (hb : b < 64) (hu : u < 6) : nI b ||| (1 <<< (nI u &&& 31)) = nI (b ||| 2 ^ u) := (show ∀ b, b < 64 → ∀ u, u < 6 → nI b ||| (1 <<< (nI u &&& 31)) = nI (b ||| 2 ^ u) by decide +kernel) b hb u hu
theorem b1 {u : Nat} (hu : u < 7) : (1 : Int32) <<< (nI u &&& 31) = nI (2 ^ u) := (show ∀ u, u < 7 → (1 : Int32) <<< (nI u &&& 31) = nI (2 ^ u) by decide +kernel) u hu
theorem bM {b u v : Nat} (hb : b < 64) (hu : u < 6) (hv : v < 6) : nI b ||| (((nI b >>> (nI u &&& 31)) &&& 1) <<< (nI v &&& 31)) = nI (rst b u v) := (show ∀ u, u < 6 → ∀ v, v < 6 → ∀ b, b < 64 → nI b ||| (((nI b >>> (nI u &&& 31)) &&& 1) <<< (nI v &&& 31)) = nI (rst b u v) by decide +kernel) u hu v hv b hb
theorem bH {b u v : Nat} (hb : b < 64) (hu : u < 6) (hv : v < 6) : nI b ||| (((((nI b >>> (nI u &&& 31)) ||| (nI b >>> (nI v &&& 31))) &&& 1) <<< (nI u &&& 31)) ||| ((((nI b >>> (nI u &&& 31)) ||| (nI b >>> (nI v &&& 31))) &&& 1) <<< (nI v &&& 31))) = nI (rst2 b u v) := (show ∀ u, u < 6 → ∀ v, v < 6 → ∀ b, b < 64 → nI b ||| (((((nI b >>> (nI u &&& 31)) ||| (nI b >>> (nI v &&& 31))) &&& 1) <<< (nI u &&& 31)) ||| ((((nI b >>> (nI u &&& 31)) ||| (nI b >>> (nI v &&& 31))) &&& 1) <<< (nI v &&& 31))) = nI (rst2 b u v) by decide +kernel) u hu v hv b hb
theorem bT {b u : Nat} (hb : b < 64) (hu : u < 6) : ((nI b >>> (nI u &&& 31)) &&& 1 = 1) ↔ b.testBit u = true := (show ∀ b, b < 64 → ∀ u, u < 6 → (((nI b >>> (nI u &&& 31)) &&& 1 = 1) ↔ b.testBit u = true) by decide +kernel) b hb u hu
theorem bT0 {b u : Nat} (hb : b < 64) (hu : u < 6) : ((nI b >>> (nI u &&& 31)) &&& 1 = 0) ↔ b.testBit u = false := (show ∀ b, b < 64 → ∀ u, u < 6 → (((nI b >>> (nI u &&& 31)) &&& 1 = 0) ↔ b.testBit u = false) by decide +kernel) b hb u hu
theorem bL {n : Nat} (hn : n < 7) : ((1 : Int32) <<< (nI n &&& 31)) - 1 = nI (2 ^ n - 1) := (show ∀ n, n < 7 → ((1 : Int32) <<< (nI n &&& 31)) - 1 = nI (2 ^ n - 1) by decide +kernel) n hn
/-- one round, by either kind of step -/
def rnd (ew : Bool) (A : Arr) (b : Nat) : Nat := A.foldl (fun b e => if ew then rst2 b e.1 e.2 else rst b e.1 e.2) b
def rch (ew : Bool) (A : Arr) (n b : Nat) : Nat := fo (fun _ b => rnd ew A b) n b
theorem rst2_lt {b u v : Nat} (hb : b < 64) (hu : u < 6) (hv : v < 6) : rst2 b u v < 64 := rst_lt (rst_lt hb hv) hu
theorem rnd_lt {ew : Bool} {n : Nat} {A : Arr} (hA : OKA n A) (hn : n ≤ 6) {b : Nat} (hb : b < 64) : rnd ew A b < 64 := by
  refine foldl_inv (g := fun e b => if ew then rst2 b e.1 e.2 else rst b e.1 e.2) (fun b => b < 64) hb (fun e s he hs => ?_)
  have h := hA.2.1 e he
  cases ew
  · exact rst_lt hs (by omega)
  · exact rst2_lt hs (by omega) (by omega)
theorem rch_lt {ew : Bool} {n : Nat} {A : Arr} (hA : OKA n A) (hn : n ≤ 6) {b : Nat} (hb : b < 64) (k : Nat) : rch ew A k b < 64 := by
  induction k with
  | zero => exact hb
  | succ k ih => exact rnd_lt hA hn ih
theorem x2_reached {M : Mem} {a n : Nat} {A : Arr} {x : Row} (hq : CQ M a n A x) (hA : OKA n A) (hn : n ≤ 6) (ew : Bool) (p : Nat) (hp : p < 6) : f_X2_reached a (nI p) (if ew then 1 else 0) M = some (nI (rch ew A n (2 ^ p))) := by
  have hl := hA.1
  have hp2 : 2 ^ p < 64 := (show ∀ p, p < 6 → 2 ^ p < 64 by decide) p hp
  simp (disch := omega) only [f_X2_reached, b1, iL, iT, iE, iN, iZ, i0, cl, nL, yL, nT, yT, s1_i, ad_i, z0, c0, la_1, la_2, la_11, la_12, la_21, la_22, la_27, la_54, la_10, la_243, ml_4, ml_6, ml_27, ml_10, ml_3, false_or, or_false, true_or, or_true, or_self, if_false, if_true, not_true, not_false_iff, Option.bind_some, lt]
  have h := loop_up (fun m b j => f_X2_reached_7 a (nI p) (if ew then 1 else 0) M (fun i _ => some i) m (nI b) (nI j)) (fun b => some (nI b)) n (fun _ b => rnd ew A b) (2 ^ p) (fun _ b => b < 64) hp2 (fun j b _ hb => rnd_lt hA hn hb) (fun m j b hj hb => ?_) (fun m b hb => ?_) FU (FU_gt (by omega))
  · exact h
  · simp (disch := omega) only [ef_X2_reached_7, s_X2_reached_7, hq.1, iL, iT, iE, iN, iZ, i0, cl, nL, yL, nT, yT, s1_i, ad_i, z0, c0, la_1, la_2, la_11, la_12, la_21, la_22, la_27, la_54, la_10, la_243, ml_4, ml_6, ml_27, ml_10, ml_3, false_or, or_false, true_or, or_true, or_self, if_false, if_true, not_true, not_false_iff, Option.bind_some, lt]
    refine loop_LI (fun m2 b i => f_X2_reached_19 a (nI p) (if ew then 1 else 0) (nI j) M (fun i3 _ => f_X2_reached_7 a (nI p) (if ew then 1 else 0) M (fun i _ => some i) m i3 (nI (j + 1))) m2 (nI b) (nI i)) (fun b => f_X2_reached_7 a (nI p) (if ew then 1 else 0) M (fun i _ => some i) m (nI b) (nI (j + 1))) A (fun e b => if ew then rst2 b e.1 e.2 else rst b e.1 e.2) b (fun b => b < 64) hb (fun i b hi hb => ?_) (fun m2 i b hi hb => ?_) (fun m2 b hb => ?_) FU (FU_gt (by omega))
    · have h := hA.at i hi
      cases ew
      · exact rst_lt hb (by omega)
      · exact rst2_lt hb (by omega) (by omega)
    · have ht := hA.at i hi
      have hv6 : tt A i < 6 := by omega
      have hb2 := bs_lt hb hv6
      simp (disch := omega) only [ef_X2_reached_19, s_X2_reached_19, hq.2.1, (hq.at i hi).1, (hq.at i hi).2, bA, bO, iL, iT, iE, iN, iZ, i0, cl, nL, yL, nT, yT, s1_i, ad_i, z0, c0, la_1, la_2, la_11, la_12, la_21, la_22, la_27, la_54, la_10, la_243, ml_4, ml_6, ml_27, ml_10, ml_3, false_or, or_false, true_or, or_true, or_self, if_false, if_true, not_true, not_false_iff, Option.bind_some, lt]
      cases ew
      · simp only [rst]
        by_cases h1 : b.testBit (fr A i) = true
        · simp [h1]
        · simp [h1]
      · simp only [rst, rst2]
        have h3 : (b ||| 2 ^ tt A i).testBit (tt A i) = true := by simp
        by_cases h1 : b.testBit (fr A i) = true
        · simp (disch := omega) [h1, bA, bO]
        · by_cases h2 : b.testBit (tt A i) = true
          · simp [h1, h2]
          · simp [h1, h2]
    · simp (disch := omega) only [ef_X2_reached_19, s_X2_reached_19, hq.2.1, iL, iT, iE, iN, iZ, i0, cl, nL, yL, nT, yT, s1_i, ad_i, z0, c0, la_1, la_2, la_11, la_12, la_21, la_22, la_27, la_54, la_10, la_243, ml_4, ml_6, ml_27, ml_10, ml_3, false_or, or_false, true_or, or_true, or_self, if_false, if_true, not_true, not_false_iff, Option.bind_some, lt]
  · simp (disch := omega) only [ef_X2_reached_7, s_X2_reached_7, hq.1, iL, iT, iE, iN, iZ, i0, cl, nL, yL, nT, yT, s1_i, ad_i, z0, c0, la_1, la_2, la_11, la_12, la_21, la_22, la_27, la_54, la_10, la_243, ml_4, ml_6, ml_27, ml_10, ml_3, false_or, or_false, true_or, or_true, or_self, if_false, if_true, not_true, not_false_iff, Option.bind_some, lt]

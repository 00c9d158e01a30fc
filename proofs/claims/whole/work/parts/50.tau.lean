/-! ===== TAU, its steps, over whole numbers ===== -/
def RR (n : Nat) (A : Arr) (t : Nat) : Nat → Int := zr (dgs 4 n ((rts n A).getD t 0))
section TAU
variable {n : Nat} {A : Arr} {Y : Nat → Int}
theorem RR_get {t : Nat} (ht : t < (rts n A).length) : (rts n A).getD t 0 ∈ rts n A := by
  rw [List.getD_eq_getElem?_getD, List.getElem?_eq_getElem ht]
  exact List.getElem_mem ht
theorem RR_nn (t i : Nat) : 0 ≤ RR n A t i := zr_nn i
theorem RR_3 (t i : Nat) : RR n A t i ≤ 3 := by
  have : dgs 4 n ((rts n A).getD t 0) i < 4 := dgs_lt (by omega)
  unfold RR zr
  omega
theorem RR_bb (hA : OKA n A) (hn : n ≤ 6) {t : Nat} (ht : t < (rts n A).length) : bb n (gA A) (RR n A t) (RR n A t) = 2 := ((mem_rts hA hn).mp (RR_get ht)).2
theorem ti_rt (hn : n ≤ 6) {t i : Nat} (hi : i < n) : ti (rt n A t) i = RR n A t i := ti_rowOf (by omega) (by omega) hi
theorem rt_of {t i : Nat} (hi : i < n) : rt n A t i = Int32.ofInt (RR n A t i) := by
  have : ti (rt n A t) i = RR n A t i := ti_rowOf (by omega) (by omega) hi
  rw [← this]
  exact (Int32.ofInt_toInt _).symm
theorem RR_inj (hA : OKA n A) (hn : n ≤ 6) {s t : Nat} (hs : s < (rts n A).length) (ht : t < (rts n A).length) (h : ∀ i, i < n → RR n A s i = RR n A t i) : s = t := by
  have e : (rts n A).getD s 0 = (rts n A).getD t 0 := dgs_inj (b := 4) (n := n) (by omega) ((mem_rts hA hn).mp (RR_get hs)).1 ((mem_rts hA hn).mp (RR_get ht)).1 (fun i hi => by
    have := h i hi
    unfold RR zr at this
    omega)
  rw [List.getD_eq_getElem?_getD, List.getD_eq_getElem?_getD, List.getElem?_eq_getElem hs, List.getElem?_eq_getElem ht] at e
  have e : (rts n A)[s] = (rts n A)[t] := e
  have hp := List.pairwise_iff_getElem.mp (rts_nodup (n := n) (A := A))
  rcases Nat.lt_trichotomy s t with hl | hl | hl
  · exact absurd e (hp s t hs ht hl)
  · exact hl
  · exact absurd e.symm (hp t s ht hs hl)
theorem RR_ex (hA : OKA n A) (hn : n ≤ 6) (h : fnt n A = true) (hy : ∀ i, i < n → 0 ≤ Y i) (h2 : bb n (gA A) Y Y = 2) : ∃ t, t < (rts n A).length ∧ ∀ i, i < n → RR n A t i = Y i := by
  have h3 := fnt_3 hA hn h hy h2
  have hd : ∀ i, i < n → (Y i).toNat < 4 := fun i hi => by have := h3 i hi; omega
  have e := dgs_enc (b := 4) (by omega) n (fun i => (Y i).toNat) hd
  have e2 : ∀ i, i < n → zr (dgs 4 n (enc 4 n (fun i => (Y i).toNat))) i = Y i := fun i hi => by
    unfold zr
    rw [e i hi]
    have := hy i hi
    omega
  have hm : enc 4 n (fun i => (Y i).toNat) ∈ rts n A := (mem_rts hA hn).mpr ⟨enc_lt hd, by rw [bb_congr e2 e2]; exact h2⟩
  obtain ⟨t, ht, et⟩ := List.getElem_of_mem hm
  refine ⟨t, ht, fun i hi => ?_⟩
  unfold RR
  rw [List.getD_eq_getElem?_getD, List.getElem?_eq_getElem ht]
  show zr (dgs 4 n (rts n A)[t]) i = _
  rw [et]
  exact e2 i hi
theorem ti_unr (p i : Nat) : ti (unr p) i = uz p i := by
  unfold ti unr uz
  by_cases h : i = p
  · rw [if_pos h, if_pos h]; rfl
  · rw [if_neg h, if_neg h]; rfl
theorem isTau_iff (hA : OKA n A) (hn : n ≤ 6) (r t : Nat) : isTau n A r t ↔ ∀ i, i < n → eo A (RR n A t) i = - ei A (RR n A r) i := by
  have hu : ∀ p i, i < n → -(1000 : Int) ≤ ti (unr p) i ∧ ti (unr p) i ≤ 1000 := fun p i _ => by
    rw [ti_unr]
    unfold uz
    split <;> omega
  have hr : ∀ s i, i < n → -(1000 : Int) ≤ ti (rt n A s) i ∧ ti (rt n A s) i ≤ 1000 := fun s i hi => by
    rw [ti_rt hn hi]
    have := RR_nn (n := n) (A := A) s i
    have := RR_3 (n := n) (A := A) s i
    omega
  have key : ∀ i, i < n → (eul n A (unr i) (rt n A t) + eul n A (rt n A r) (unr i) = 0 ↔ eo A (RR n A t) i = - ei A (RR n A r) i) := by
    intro i hi
    have b1 := ez_bd hA hn (b := 1000) (by omega) (by omega) (hu i) (hr t)
    have b2 := ez_bd hA hn (b := 1000) (by omega) (by omega) (hr r) (hu i)
    rw [eul_ez, eul_ez, ← Int32.ofInt_add, fa_eq, Int32.toInt_ofInt_of_le (by omega) (by omega)]
    have e1 : ez n A (ti (unr i)) (ti (rt n A t)) = eo A (RR n A t) i := by
      rw [← eo_congr hA hi (fun j hj => ti_rt (A := A) (t := t) hn hj), ← ez_eo hi]
      congr 1
      funext j
      exact ti_unr i j
    have e2 : ez n A (ti (rt n A r)) (ti (unr i)) = ei A (RR n A r) i := by
      rw [← ei_congr hA hi (fun j hj => ti_rt (A := A) (t := r) hn hj), ← ez_ei hi]
      congr 1
      funext j
      exact ti_unr i j
    rw [e1, e2, show (0 : Int32).toInt = 0 from rfl]
    omega
  unfold isTau
  exact ⟨fun h i hi => (key i hi).mp (h i hi), fun h i hi => (key i hi).mpr (h i hi)⟩
theorem tau_uq (hA : OKA n A) (hn : n ≤ 6) {r s t : Nat} (hs : s < (rts n A).length) (ht : t < (rts n A).length) (h1 : isTau n A r s) (h2 : isTau n A r t) : s = t := by
  rw [isTau_iff hA hn] at h1 h2
  exact RR_inj hA hn hs ht (uq_o hA hn (fun p hp => by rw [h1 p hp, h2 p hp]))
/-- ways are few -/
def bz : Nat → Int
  | 0 => 0
  | t + 1 => 10 * bz t + 1
theorem bz_nn (t : Nat) : 0 ≤ bz t := by
  induction t with
  | zero => exact Int.le_refl _
  | succ t ih => show 0 ≤ 10 * bz t + 1; omega
theorem wz_bd (hA : OKA n A) (q : Nat) : ∀ t p, 0 ≤ wz A t p q ∧ wz A t p q ≤ bz t := by
  intro t
  induction t with
  | zero => intro p; exact ⟨Int.le_refl _, Int.le_refl _⟩
  | succ t ih =>
    intro p
    have hl := hA.1
    have hb := bz_nn t
    have h1 : ∀ B : Arr, 0 ≤ sA B (fun e => if e.1 = p then wz A t e.2 q else 0) ∧ sA B (fun e => if e.1 = p then wz A t e.2 q else 0) ≤ B.length * bz t := by
      intro B
      induction B with
      | nil => show (0 : Int) ≤ 0 ∧ (0 : Int) ≤ (0 : Nat) * _; rw [Int.natCast_zero, Int.zero_mul]; omega
      | cons e B ihB =>
        have i2 := ih e.2
        show 0 ≤ (if e.1 = p then wz A t e.2 q else 0) + sA B (fun e => if e.1 = p then wz A t e.2 q else 0) ∧ (if e.1 = p then wz A t e.2 q else 0) + sA B (fun e => if e.1 = p then wz A t e.2 q else 0) ≤ ((B.length + 1 : Nat) : Int) * _
        rw [Int.natCast_add, Int.add_mul]
        split <;> omega
    have h2 : (A.length : Int) * bz t ≤ 10 * bz t := Int.mul_le_mul_of_nonneg_right (by omega) hb
    have h3 := h1 A
    rw [wz_s]
    show 0 ≤ _ ∧ _ ≤ 10 * bz t + 1
    split <;> omega
theorem pz_bd (hA : OKA n A) (p q : Nat) : 0 ≤ pz A p q ∧ pz A p q ≤ 111111 := wz_bd hA q 6 p
theorem rt_pth (hA : OKA n A) (hn : n ≤ 6) {t i p q : Nat} (hi : i < n) : rt n A t i = pth A p q ↔ RR n A t i = pz A p q := by
  rw [rt_of hi, pth_pz, fa_eq]
  have h1 := RR_nn (n := n) (A := A) t i
  have h2 := RR_3 (n := n) (A := A) t i
  have h3 := pz_bd hA p q
  rw [Int32.toInt_ofInt_of_le (by omega) (by omega), Int32.toInt_ofInt_of_le (by omega) (by omega)]
theorem isPrj_iff (hA : OKA n A) (hn : n ≤ 6) {t p : Nat} : isPrj n A t p ↔ ∀ j, j < n → RR n A t j = pz A p j := by
  unfold isPrj
  exact ⟨fun h j hj => (rt_pth hA hn hj).mp (h j hj), fun h j hj => (rt_pth hA hn hj).mpr (h j hj)⟩
theorem isInj_iff (hA : OKA n A) (hn : n ≤ 6) {t p : Nat} : isInj n A t p ↔ ∀ j, j < n → RR n A t j = pz A j p := by
  unfold isInj
  exact ⟨fun h j hj => (rt_pth hA hn hj).mp (h j hj), fun h j hj => (rt_pth hA hn hj).mpr (h j hj)⟩
theorem prj_uq (hA : OKA n A) (hn : n ≤ 6) {t p q : Nat} (hp : p < n) (hq : q < n) (h1 : isPrj n A t p) (h2 : isPrj n A t q) : p = q := by
  rw [isPrj_iff hA hn] at h1 h2
  have e1 := h1 p hp
  have e2 := h2 p hp
  have e3 := h1 q hq
  have e4 := h2 q hq
  rw [pz_self hA hn hp] at e1
  rw [pz_self hA hn hq] at e4
  have k1 := plc_lt hA hn hp
  have k2 := plc_lt hA hn hq
  rcases Nat.lt_trichotomy (plc n A p) (plc n A q) with hl | hl | hl
  · have := pz_zero hA hn q p hp hq hl; omega
  · rw [← k1.2, hl]; exact k2.2
  · have := pz_zero hA hn p q hq hp hl; omega
theorem inj_uq (hA : OKA n A) (hn : n ≤ 6) {t p q : Nat} (hp : p < n) (hq : q < n) (h1 : isInj n A t p) (h2 : isInj n A t q) : p = q := by
  rw [isInj_iff hA hn] at h1 h2
  have e1 := h1 p hp
  have e2 := h2 p hp
  have e3 := h1 q hq
  have e4 := h2 q hq
  rw [pz_self hA hn hp] at e1
  rw [pz_self hA hn hq] at e4
  have k1 := plc_lt hA hn hp
  have k2 := plc_lt hA hn hq
  rcases Nat.lt_trichotomy (plc n A p) (plc n A q) with hl | hl | hl
  · have := pz_zero hA hn q p hp hq hl; omega
  · rw [← k1.2, hl]; exact k2.2
  · have := pz_zero hA hn p q hq hp hl; omega
/-- a projective one has no TAU -/
theorem prj_no (hA : OKA n A) (hn : n ≤ 6) {r p t : Nat} (hp : p < n) (h1 : isPrj n A r p) : ¬ isTau n A r t := by
  intro h2
  rw [isPrj_iff hA hn] at h1
  rw [isTau_iff hA hn] at h2
  have h3 : ∀ i, i < n → eo A (RR n A t) i = eo A (fun i => - pz A i p) i := fun i hi => by
    rw [h2 i hi, ei_congr hA hi h1, pz_ei hA hn hp]
    have h4 : pz A i p - sA A (fun e => if e.1 = i then pz A e.2 p else 0) = if i = p then 1 else 0 := pz_eo hA hn hi p
    unfold eo
    have e : sA A (fun e => if e.1 = i then - pz A e.2 p else 0) = - sA A (fun e => if e.1 = i then pz A e.2 p else 0) := by
      have := sA_mul (A := A) (-1) (f := fun e => if e.1 = i then pz A e.2 p else 0)
      rw [← Int.neg_one_mul, ← this]
      refine sA_congr (fun e _ => ?_)
      by_cases h : e.1 = i
      · rw [if_pos h, if_pos h]; omega
      · rw [if_neg h, if_neg h]; rfl
    show _ = - pz A i p - _
    rw [e]
    by_cases hip : i = p
    · rw [if_pos hip.symm]
      rw [if_pos hip] at h4
      omega
    · rw [if_neg (fun z => hip z.symm)]
      rw [if_neg hip] at h4
      omega
  have h5 := uq_o hA hn h3 p hp
  have h5 : RR n A t p = - pz A p p := h5
  rw [pz_self hA hn hp] at h5
  have := RR_nn (n := n) (A := A) t p
  omega
/-- a row that would fall below 0 is a unit row -/
theorem unit_of (hA : OKA n A) (wp : WP n (gA A)) {y : Nat → Int} {p : Nat} (hp : p < n) (hy : ∀ i, i < n → 0 ≤ y i) (h2 : bb n (gA A) y y = 2) (hneg : y p - bg n (gA A) y p < 0) : ∀ i, i < n → y i = uz p i := by
  have hs := hA.sym
  have hyp := hy p hp
  have h3 := bb_ua hs hp (y := y) (c := - y p)
  rw [Int.neg_mul, Int.neg_mul_neg] at h3
  have h4 : y p * (y p + 1) ≤ y p * bg n (gA A) y p := Int.mul_le_mul_of_nonneg_left (by omega) hyp
  rw [Int.mul_add, Int.mul_one] at h4
  by_cases hy0 : y p = 0
  · exfalso
    -- the sum of what goes up at p cannot be below 0
    have h5 : bg n (gA A) y p = 2 * y p - zs n (fun i => gA A p i * y i) := rfl
    have h6 : 0 ≤ zs n (fun i => gA A p i * y i) := zs_nn (fun i hi => Int.mul_nonneg (gA_nn p i) (hy i hi))
    omega
  have h5 : ∀ i, i < n → ua y p (- y p) i = 0 := fun i hi => by
    apply Classical.byContradiction
    intro hne
    have := wp (ua y p (- y p)) (fun i hi => by
      by_cases hip : i = p
      · subst hip; rw [ua_s]; omega
      · rw [ua_n hip]; exact hy i hi) ⟨i, hi, hne⟩
    omega
  have h6 : bb n (gA A) (ua y p (- y p)) (ua y p (- y p)) = 0 := bb_zero h5
  have h7 : bg n (gA A) (ua y p (- y p)) p = 0 := bg_zero hp h5
  rw [bg_ua hs hp] at h7
  have h8 : bg n (gA A) y p = 2 * y p := by omega
  rw [h6, h8, Int.mul_left_comm, h2] at h3
  have h9 : y p * y p = 1 := by omega
  have h10 : y p = 1 := by
    apply Classical.byContradiction
    intro hne
    have h11 : y p * 2 ≤ y p * y p := Int.mul_le_mul_of_nonneg_left (by omega) hyp
    omega
  intro i hi
  unfold uz
  by_cases hip : i = p
  · rw [if_pos hip, hip]; exact h10
  · rw [if_neg hip]
    have := h5 i hi
    rw [ua_n hip] at this
    exact this
/-- what comes back to a unit row was the projective row of its point -/
theorem sbk_prj (hA : OKA n A) (hn : n ≤ 6) {i : Nat} (hi : i < n) (h : ∀ r, r < n → sbk n A Y i r = uz (ord n A i) r) : ∀ r, r < n → Y r = pz A (ord n A i) r := by
  have ho := (ord_ok hA hn hi).1
  have hpl := plc_ord hA hn hi
  have key : ∀ k r, r < n → n - 1 - plc n A r < k → Y r = pz A (ord n A i) r := by
    intro k
    induction k with
    | zero => intro r _ h; omega
    | succ k ih =>
      intro r hr hk
      have hpr := plc_lt hA hn hr
      by_cases hpi : i ≤ plc n A r
      · have h1 := h r hr
        rw [sbk_old hA hn i (by omega) hpi] at h1
        rw [h1]
        unfold uz
        by_cases hro : r = ord n A i
        · rw [if_pos hro, hro, pz_self hA hn ho]
        · rw [if_neg hro, pz_zero hA hn r _ ho hr (by
            rw [hpl]
            have : plc n A r ≠ i := fun z => hro (by rw [← hpr.2, z])
            omega)]
      · have hro : r ≠ ord n A i := fun z => by rw [z, hpl] at hpi; omega
        obtain ⟨j, hj, hjr⟩ : ∃ j, j < i ∧ ord n A j = r := ⟨plc n A r, by omega, hpr.2⟩
        have hpj : plc n A r = j := by rw [← hjr]; exact plc_ord hA hn (by omega)
        have e1 : sbk n A Y i r = sbk n A Y j r - bg n (gA A) (sbk n A Y j) r := by
          have h1 := sbk_new (Y := Y) hA hn (r := r) (i - (j + 1)) (j + 1) (by omega) (by omega)
          rw [show j + 1 + (i - (j + 1)) = i by omega, sbk_s, hjr, ua_s] at h1
          rw [h1]
          omega
        rw [h r hr, bg_eo hA] at e1
        unfold eo ei at e1
        rw [sA_congr (f := fun e => if e.1 = r then sbk n A Y j e.2 else 0) (g := fun _ => 0) (fun e he => by
          by_cases h2 : e.1 = r
          · have h3 := plc_arr hA hn he
            rw [h2, hpj] at h3
            have h4 := sbk_new (Y := Y) hA hn (r := e.2) (i - j) j (by omega) h3
            rw [show j + (i - j) = i by omega, h e.2 (hA.2.1 e he).2] at h4
            rw [if_pos h2, ← h4]
            unfold uz
            rw [if_neg (fun z => by rw [z, hpl] at h3; omega)]
          · rw [if_neg h2]), sA_0, sA_congr (f := fun e => if e.2 = r then sbk n A Y j e.1 else 0) (g := fun e => if e.2 = r then pz A (ord n A i) e.1 else 0) (fun e he => by
          by_cases h2 : e.2 = r
          · have h3 := plc_arr hA hn he
            rw [h2, hpj] at h3
            rw [if_pos h2, if_pos h2, sbk_old hA hn j (by omega) (by omega)]
            have h4 := plc_lt hA hn (hA.2.1 e he).1
            exact ih e.1 (hA.2.1 e he).1 (by omega)
          · rw [if_neg h2, if_neg h2]), sbk_old hA hn (r := r) j (by omega) (by omega)] at e1
        have e2 := pz_last hA hn r _ ho
        rw [if_neg (fun z => hro z.symm)] at e2
        have e3 : uz (ord n A i) r = 0 := if_neg hro
        omega
  intro r hr
  exact key (n - 1 - plc n A r + 1) r hr (by omega)
/-- a root that is not projective has a TAU: what it is shifted back -/
theorem sbk_root (hA : OKA n A) (hn : n ≤ 6) (wp : WP n (gA A)) (hy : ∀ i, i < n → 0 ≤ Y i) (h2 : bb n (gA A) Y Y = 2) (hno : ∀ p, p < n → ¬ ∀ r, r < n → Y r = pz A p r) : ∀ i, i ≤ n → (∀ r, r < n → 0 ≤ sbk n A Y i r) ∧ bb n (gA A) (sbk n A Y i) (sbk n A Y i) = 2 := by
  intro i
  induction i with
  | zero => intro _; exact ⟨hy, h2⟩
  | succ i ih =>
    intro hi
    obtain ⟨i1, i2⟩ := ih (by omega)
    have ho := (ord_ok hA hn (show i < n by omega)).1
    refine ⟨fun r hr => ?_, by rw [sbk_s, bb_rfl hA ho]; exact i2⟩
    rw [sbk_s]
    by_cases hro : r = ord n A i
    · rw [hro, ua_s]
      apply Classical.byContradiction
      intro hneg
      exact hno _ ho (sbk_prj hA hn (by omega) (unit_of hA wp ho i1 i2 (by omega)))
    · rw [ua_n hro]; exact i1 r hr
theorem tau_ex (hA : OKA n A) (hn : n ≤ 6) (h : fnt n A = true) {r : Nat} (hr : r < (rts n A).length) (hno : ∀ p, p < n → ¬ isPrj n A r p) : ∃ t, t < (rts n A).length ∧ isTau n A r t ∧ ∀ i, i < n → RR n A t i = sbk n A (RR n A r) n i := by
  obtain ⟨h1, h2⟩ := sbk_root hA hn (fnt_wp hA hn h) (fun i _ => RR_nn r i) (RR_bb hA hn hr) (fun p hp q => hno p hp ((isPrj_iff hA hn).mpr q)) n (Nat.le_refl _)
  obtain ⟨t, ht, e⟩ := RR_ex hA hn h h1 h2
  refine ⟨t, ht, ?_, e⟩
  rw [isTau_iff hA hn]
  intro i hi
  rw [eo_congr hA hi e, sbk_eq hA hn hi]
/-- no way of TAUs leads round -/
theorem zs_tel (f : Nat → Int) (m : Nat) : zs m (fun k => f k - f (k + 1)) = f 0 - f m := by
  induction m with
  | zero => show (0 : Int) = f 0 - f 0; omega
  | succ m ih => rw [zs_s, ih]; omega
theorem bg_zs {g : Nat → Nat → Int} {m p : Nat} {W : Nat → Nat → Int} : bg n g (fun q => zs m (fun k => W k q)) p = zs m (fun k => bg n g (W k) p) := by
  unfold bg
  rw [zs_sub, zs_mul, zs_swap]
  congr 1
  exact zs_congr (fun i _ => (zs_mul _).symm)
theorem tau_round (hA : OKA n A) (hn : n ≤ 6) (wp : WP n (gA A)) {m : Nat} (a : Nat → Nat) (hm : 0 < m) (hl : ∀ k, k ≤ m → a k < (rts n A).length) (ht : ∀ k, k < m → isTau n A (a k) (a (k + 1))) : a 0 ≠ a m := by
  intro he
  have hb : ∀ p, p < n → bg n (gA A) (fun q => zs m (fun k => RR n A (a k) q)) p = 0 := by
    intro p hp
    rw [bg_zs, zs_congr (g := fun k => eo A (RR n A (a k)) p - eo A (RR n A (a (k + 1))) p) (fun k hk => by
      have := (isTau_iff hA hn _ _).mp (ht k hk) p hp
      rw [bg_eo hA]
      omega), zs_tel (fun k => eo A (RR n A (a k)) p), he]
    omega
  have h0 : bb n (gA A) (fun q => zs m (fun k => RR n A (a k) q)) (fun q => zs m (fun k => RR n A (a k) q)) = 0 := by
    unfold bb
    rw [zs_congr (g := fun _ => 0) (fun p hp => by rw [hb p hp, Int.mul_zero]), zs_0]
  have hne : ∃ i, i < n ∧ RR n A (a 0) i ≠ 0 := by
    apply Classical.byContradiction
    intro hno
    have := RR_bb hA hn (hl 0 (by omega))
    rw [bb_zero (fun i hi => Classical.byContradiction (fun q => hno ⟨i, hi, q⟩))] at this
    omega
  obtain ⟨i, hi, hne⟩ := hne
  have := wp (fun q => zs m (fun k => RR n A (a k) q)) (fun i _ => zs_nn (fun k _ => RR_nn _ _)) ⟨i, hi, by
    have h1 := zs_le1 (n := m) (f := fun k => RR n A (a k) i) (fun k _ => RR_nn _ _) hm
    have h2 := RR_nn (n := n) (A := A) (a 0) i
    show zs m (fun k => RR n A (a k) i) ≠ 0
    have h1 : RR n A (a 0) i ≤ zs m (fun k => RR n A (a k) i) := h1
    omega⟩
  omega
/-- every root comes to a projective one -/
theorem steps_ex (hA : OKA n A) (hn : n ≤ 6) (h : fnt n A = true) {t : Nat} (ht : t < (rts n A).length) : ∃ k e, stepsTo n A k t e ∧ k < (rts n A).length ∧ e < (rts n A).length := by
  let nx : Nat → Nat := fun r => @dite Nat (∃ s, s < (rts n A).length ∧ isTau n A r s) (Classical.propDecidable _) (fun q => Classical.choose q) (fun _ => r)
  have hnx : ∀ r, (∃ s, s < (rts n A).length ∧ isTau n A r s) → nx r < (rts n A).length ∧ isTau n A r (nx r) := fun r q => by
    have e : nx r = Classical.choose q := dif_pos q
    rw [e]
    exact Classical.choose_spec q
  let a : Nat → Nat := fun k => fo (fun _ r => nx r) k t
  have ha : ∀ k, a (k + 1) = nx (a k) := fun k => rfl
  rcases first_bad (p := fun k => ∃ s, s < (rts n A).length ∧ isTau n A (a k) s) (rts n A).length with hall | ⟨k, k1, k2, k3⟩
  · exfalso
    have hl : ∀ k, k ≤ (rts n A).length → a k < (rts n A).length := fun k hk => by
      cases k with
      | zero => exact ht
      | succ k => rw [ha]; exact (hnx _ (hall k (by omega))).1
    have hnd : ((List.range ((rts n A).length + 1)).map a).Nodup := map_nd List.nodup_range (fun i hi j hj e => by
      rw [List.mem_range] at hi hj
      have key : ∀ i j, i < j → j ≤ (rts n A).length → a i ≠ a j := fun i j hij hj => by
        have := tau_round hA hn (fnt_wp hA hn h) (m := j - i) (fun k => a (i + k)) (by omega) (fun k hk => hl _ (by omega)) (fun k hk => by
          show isTau n A (a (i + k)) (a (i + k + 1))
          rw [ha]
          exact (hnx _ (hall _ (by omega))).2)
        have e2 : i + (j - i) = j := by omega
        have this : a (i + 0) ≠ a (i + (j - i)) := this
        rw [e2] at this
        exact this
      rcases Nat.lt_trichotomy i j with q | q | q
      · exact absurd e (key i j q (by omega))
      · exact q
      · exact absurd e.symm (key j i q (by omega)))
    have := nd_len hnd (l2 := List.range (rts n A).length) (fun b hb => by
      obtain ⟨k, hk, rfl⟩ := List.mem_map.mp hb
      rw [List.mem_range] at hk
      exact List.mem_range.mpr (hl k (by omega)))
    rw [List.length_map, List.length_range, List.length_range] at this
    omega
  · have hs : ∀ d i, i + d = k → stepsTo n A d (a i) (a k) := by
      intro d
      induction d with
      | zero =>
        intro i hi
        have : i = k := by omega
        subst this
        exact ⟨rfl, fun s hs q => k3 ⟨s, hs, q⟩⟩
      | succ d ih =>
        intro i hi
        have h1 := hnx _ (k2 i (by omega))
        exact ⟨a (i + 1), by rw [ha]; exact h1.1, by rw [ha]; exact h1.2, ih (i + 1) (by omega)⟩
    refine ⟨k, a k, hs k 0 (by omega), k1, ?_⟩
    cases k with
    | zero => exact ht
    | succ k => rw [ha]; exact (hnx _ (k2 k (by omega))).1
theorem steps_uq (hA : OKA n A) (hn : n ≤ 6) : ∀ k t e k' e', stepsTo n A k t e → stepsTo n A k' t e' → k = k' ∧ e = e' := by
  intro k
  induction k with
  | zero =>
    intro t e k' e' h1 h2
    cases k' with
    | zero => exact ⟨rfl, h1.1.symm.trans h2.1⟩
    | succ k' =>
      obtain ⟨s, s1, s2, _⟩ := h2
      exact absurd s2 (h1.2 s s1)
  | succ k ih =>
    intro t e k' e' h1 h2
    obtain ⟨s, s1, s2, s3⟩ := h1
    cases k' with
    | zero => exact absurd s2 (h2.2 s s1)
    | succ k' =>
      obtain ⟨u, u1, u2, u3⟩ := h2
      have := tau_uq hA hn s1 u1 s2 u2
      subst this
      obtain ⟨q1, q2⟩ := ih s e k' e' s3 u3
      exact ⟨by omega, q2⟩
theorem steps_end (k t e : Nat) (h : stepsTo n A k t e) : ∀ s, s < (rts n A).length → ¬ isTau n A e s := by
  induction k generalizing t with
  | zero => obtain ⟨rfl, h2⟩ := h; exact h2
  | succ k ih =>
    obtain ⟨s, _, _, s3⟩ := h
    exact ih s s3
theorem end_prj (hA : OKA n A) (hn : n ≤ 6) (h : fnt n A = true) {e : Nat} (he : e < (rts n A).length) (hno : ∀ s, s < (rts n A).length → ¬ isTau n A e s) : ∃ p, p < n ∧ isPrj n A e p := by
  apply Classical.byContradiction
  intro hc
  obtain ⟨t, h1, h2, _⟩ := tau_ex hA hn h he (fun p hp q => hc ⟨p, hp, q⟩)
  exact hno t h1 h2
end TAU

def s_X0_fits_2 (p1 : Nat) (M : Mem) (k : Int32 → Option Int32) (rec : Int32 → Option Int32) (i2 : Int32) : Option Int32 :=
  if M 141 4 ≤ i2 then
    k i2
  else
    if i2 < 0 ∨ 6 ≤ i2.toNatClampNeg then none else
    if i2 < 0 ∨ 6 ≤ i2.toNatClampNeg then none else
    if M p1 i2.toNatClampNeg ≤ M 144 i2.toNatClampNeg then
      rec (i2 + 1)
    else
      some 0
def f_X0_fits_2 (p1 : Nat) (M : Mem) (k : Int32 → Option Int32) : Nat → Int32 → Option Int32
  | 0 => fun _ => none
  | n + 1 => fun i2 => s_X0_fits_2 p1 M k (f_X0_fits_2 p1 M k n) i2
set_option maxRecDepth 100000 in
set_option maxHeartbeats 4000000 in
theorem w_X0_fits_2 (l : Launch) (x : WX) {p1 : Nat} {M : Mem} {k : Int32 → Option Int32} {r : Int32} (hp1 : LAY[p1]? = some (1, 6, [])) (K : ∀ (i2 : Int32), k i2 = some r → Ev l x false cX0_fits RX0 (some FieldType.boolean) 3 0 0 0 (pI r M) 30 [some (.ref (x.2.2.1 + 141)), some (.ref (x.2.2.1 + p1)), some (.int i2)] [] LAY M) : ∀ (n : Nat) (i2 : Int32), f_X0_fits_2 p1 M k n i2 = some r → Ev l x false cX0_fits RX0 (some FieldType.boolean) 3 0 0 0 (pI r M) 2 [some (.ref (x.2.2.1 + 141)), some (.ref (x.2.2.1 + p1)), some (.int i2)] [] LAY M := by
  intro n
  induction n with
  | zero =>
    intro i2 h
    exact nomatch (show (none : Option Int32) = some r from h)
  | succ n ih =>
    intro i2 h
    have h : s_X0_fits_2 p1 M k (f_X0_fits_2 p1 M k n) i2 = some r := h
    unfold s_X0_fits_2 at h
    refine e_iload_n aX0_fits_2 rfl ?_
    refine e_aload_n aX0_fits_3 rfl ?_
    refine e_getI aX0_fits_4 fX0_25 ly_141 rfl ?_
    rcases of_ite h with ⟨hc1, h⟩ | ⟨hc1, h⟩
    · refine e_icmp_ge (tgt := 30) aX0_fits_7 (by decide) (fun _ => ?_) (fun q => absurd hc1 q)
      exact K _ h
    · refine e_icmp_ge (tgt := 30) aX0_fits_7 (by decide) (fun q => absurd q hc1) (fun _ => ?_)
      refine e_aload_n aX0_fits_10 rfl ?_
      refine e_iload_n aX0_fits_11 rfl ?_
      obtain ⟨hg2, h⟩ := of_guard h
      refine e_iald aX0_fits_12 hp1 hg2 ?_
      refine e_aload_n aX0_fits_13 rfl ?_
      refine e_getR (r := 144) aX0_fits_14 fX0_18 ly_141 rfl ?_
      refine e_iload_n aX0_fits_17 rfl ?_
      obtain ⟨hg3, h⟩ := of_guard h
      refine e_iald aX0_fits_18 ly_144 hg3 ?_
      rcases of_ite h with ⟨hc4, h⟩ | ⟨hc4, h⟩
      · refine e_icmp_le (tgt := 24) aX0_fits_19 (by decide) (fun _ => ?_) (fun q => absurd hc4 q)
        refine e_iinc (v := i2 + 1) (L2 := [some (.ref (x.2.2.1 + 141)), some (.ref (x.2.2.1 + p1)), some (.int (i2 + 1))]) aX0_fits_24 rfl rfl ⟨by decide, rfl⟩ rfl ?_
        refine e_goto (tgt := 2) aX0_fits_27 (by decide) ?_
        exact ih _ h
      · refine e_icmp_le (tgt := 24) aX0_fits_19 (by decide) (fun q => absurd q hc4) (fun _ => ?_)
        refine e_iconst (v := 0) aX0_fits_22 (by decide) ?_
        exact e_retI aX0_fits_23 rfl (by decide +kernel) (pI_ro h)
def f_X0_fits (p1 : Nat) (M : Mem) : Option Int32 :=
  f_X0_fits_2 p1 M (fun (i2_1 : Int32) =>
    some 1) FU 0
set_option maxRecDepth 100000 in
set_option maxHeartbeats 4000000 in
theorem c_X0_fits (l : Launch) (x : WX) {p1 : Nat} {M : Mem} {r : Int32} (hp1 : LAY[p1]? = some (1, 6, [])) (h : f_X0_fits p1 M = some r) : Mt l x false yX0_fits cX0_fits 3 (some FieldType.boolean) 0 0 0 [.ref (x.2.2.1 + 141), .ref (x.2.2.1 + p1)] LAY M (pI r M) := by
  refine mt_of (L0 := [some (.ref (x.2.2.1 + 141)), some (.ref (x.2.2.1 + p1)), none]) (by decide +kernel) rfl (Nat.le_of_ble_eq_true rfl) (lvA_of 1 rfl) ?_
  unfold f_X0_fits at h
  refine e_iconst (v := 0) aX0_fits_0 (by decide) ?_
  refine e_istore_n (L2 := [some (.ref (x.2.2.1 + 141)), some (.ref (x.2.2.1 + p1)), some (.int 0)]) aX0_fits_1 ⟨by decide, rfl⟩ rfl ?_
  refine w_X0_fits_2 l x hp1 (fun i2_1 h => ?_) FU _ h
  refine e_iconst (v := 1) aX0_fits_30 (by decide) ?_
  exact e_retI aX0_fits_31 rfl (by decide +kernel) (pI_ro h)
def s_X0_howOftenFits_5 (p1 : Nat) (M : Mem) (k : Int32 → Int32 → Option Int32) (rec : Int32 → Int32 → Option Int32) (i2 : Int32) (i3 : Int32) : Option Int32 :=
  if M 141 4 ≤ i3 then
    k i2 i3
  else
    if i3 < 0 ∨ 6 ≤ i3.toNatClampNeg then none else
    if M p1 i3.toNatClampNeg ≤ 0 then
      rec i2 (i3 + 1)
    else
      if i3 < 0 ∨ 6 ≤ i3.toNatClampNeg then none else
      if i3 < 0 ∨ 6 ≤ i3.toNatClampNeg then none else
      if M p1 i3.toNatClampNeg = 0 then none else
      lt (mn i2 ((M 144 i3.toNatClampNeg) / (M p1 i3.toNatClampNeg))) fun (v7 : Int32) =>
      rec v7 (i3 + 1)
def f_X0_howOftenFits_5 (p1 : Nat) (M : Mem) (k : Int32 → Int32 → Option Int32) : Nat → Int32 → Int32 → Option Int32
  | 0 => fun _ _ => none
  | n + 1 => fun i2 i3 => s_X0_howOftenFits_5 p1 M k (f_X0_howOftenFits_5 p1 M k n) i2 i3
set_option maxRecDepth 100000 in
set_option maxHeartbeats 4000000 in
theorem w_X0_howOftenFits_5 (l : Launch) (x : WX) {p1 : Nat} {M : Mem} {k : Int32 → Int32 → Option Int32} {r : Int32} (hp1 : LAY[p1]? = some (1, 6, [])) (K : ∀ (i2 : Int32) (i3 : Int32), k i2 i3 = some r → Ev l x false cX0_howOftenFits RX0 (some FieldType.int) 4 1 0 0 (pI r M) 40 [some (.ref (x.2.2.1 + 141)), some (.ref (x.2.2.1 + p1)), some (.int i2), some (.int i3)] [] LAY M) : ∀ (n : Nat) (i2 : Int32) (i3 : Int32), f_X0_howOftenFits_5 p1 M k n i2 i3 = some r → Ev l x false cX0_howOftenFits RX0 (some FieldType.int) 4 1 0 0 (pI r M) 5 [some (.ref (x.2.2.1 + 141)), some (.ref (x.2.2.1 + p1)), some (.int i2), some (.int i3)] [] LAY M := by
  intro n
  induction n with
  | zero =>
    intro i2 i3 h
    exact nomatch (show (none : Option Int32) = some r from h)
  | succ n ih =>
    intro i2 i3 h
    have h : s_X0_howOftenFits_5 p1 M k (f_X0_howOftenFits_5 p1 M k n) i2 i3 = some r := h
    unfold s_X0_howOftenFits_5 at h
    refine e_iload_n aX0_howOftenFits_5 rfl ?_
    refine e_aload_n aX0_howOftenFits_6 rfl ?_
    refine e_getI aX0_howOftenFits_7 fX0_25 ly_141 rfl ?_
    rcases of_ite h with ⟨hc1, h⟩ | ⟨hc1, h⟩
    · refine e_icmp_ge (tgt := 40) aX0_howOftenFits_10 (by decide) (fun _ => ?_) (fun q => absurd hc1 q)
      exact K _ _ h
    · refine e_icmp_ge (tgt := 40) aX0_howOftenFits_10 (by decide) (fun q => absurd q hc1) (fun _ => ?_)
      refine e_aload_n aX0_howOftenFits_13 rfl ?_
      refine e_iload_n aX0_howOftenFits_14 rfl ?_
      obtain ⟨hg2, h⟩ := of_guard h
      refine e_iald aX0_howOftenFits_15 hp1 hg2 ?_
      rcases of_ite h with ⟨hc3, h⟩ | ⟨hc3, h⟩
      · refine e_if_le (tgt := 34) aX0_howOftenFits_16 (by decide) (fun _ => ?_) (fun q => absurd hc3 q)
        refine e_iinc (v := i3 + 1) (L2 := [some (.ref (x.2.2.1 + 141)), some (.ref (x.2.2.1 + p1)), some (.int i2), some (.int (i3 + 1))]) aX0_howOftenFits_34 rfl rfl ⟨by decide, rfl⟩ rfl ?_
        refine e_goto (tgt := 5) aX0_howOftenFits_37 (by decide) ?_
        exact ih _ _ h
      · refine e_if_le (tgt := 34) aX0_howOftenFits_16 (by decide) (fun q => absurd q hc3) (fun _ => ?_)
        refine e_iload_n aX0_howOftenFits_19 rfl ?_
        refine e_aload_n aX0_howOftenFits_20 rfl ?_
        refine e_getR (r := 144) aX0_howOftenFits_21 fX0_18 ly_141 rfl ?_
        refine e_iload_n aX0_howOftenFits_24 rfl ?_
        obtain ⟨hg4, h⟩ := of_guard h
        refine e_iald aX0_howOftenFits_25 ly_144 hg4 ?_
        refine e_aload_n aX0_howOftenFits_26 rfl ?_
        refine e_iload_n aX0_howOftenFits_27 rfl ?_
        obtain ⟨hg5, h⟩ := of_guard h
        refine e_iald aX0_howOftenFits_28 hp1 hg5 ?_
        obtain ⟨hg6, h⟩ := of_guard h
        refine e_idiv aX0_howOftenFits_29 hg6 ?_
        refine e_min aX0_howOftenFits_30 mX0_56 (by decide) (Nat.le_of_ble_eq_true rfl) ?_
        obtain ⟨v7, ev7, h⟩ := of_lt h
        refine e_nameI ev7 ?_
        refine e_istore_n (L2 := [some (.ref (x.2.2.1 + 141)), some (.ref (x.2.2.1 + p1)), some (.int v7), some (.int i3)]) aX0_howOftenFits_33 ⟨by decide, rfl⟩ rfl ?_
        refine e_iinc (v := i3 + 1) (L2 := [some (.ref (x.2.2.1 + 141)), some (.ref (x.2.2.1 + p1)), some (.int v7), some (.int (i3 + 1))]) aX0_howOftenFits_34 rfl rfl ⟨by decide, rfl⟩ rfl ?_
        refine e_goto (tgt := 5) aX0_howOftenFits_37 (by decide) ?_
        exact ih _ _ h
def f_X0_howOftenFits (p1 : Nat) (M : Mem) : Option Int32 :=
  f_X0_howOftenFits_5 p1 M (fun (i2_1 : Int32) (i3_2 : Int32) =>
    some i2_1) FU 99 0
set_option maxRecDepth 100000 in
set_option maxHeartbeats 4000000 in
theorem c_X0_howOftenFits (l : Launch) (x : WX) {p1 : Nat} {M : Mem} {r : Int32} (hp1 : LAY[p1]? = some (1, 6, [])) (h : f_X0_howOftenFits p1 M = some r) : Mt l x false yX0_howOftenFits cX0_howOftenFits 4 (some FieldType.int) 1 0 0 [.ref (x.2.2.1 + 141), .ref (x.2.2.1 + p1)] LAY M (pI r M) := by
  refine mt_of (L0 := [some (.ref (x.2.2.1 + 141)), some (.ref (x.2.2.1 + p1)), none, none]) (by decide +kernel) rfl (Nat.le_of_ble_eq_true rfl) (lvA_of 2 rfl) ?_
  unfold f_X0_howOftenFits at h
  refine e_bipush (v := 99) aX0_howOftenFits_0 (by decide) ?_
  refine e_istore_n (L2 := [some (.ref (x.2.2.1 + 141)), some (.ref (x.2.2.1 + p1)), some (.int 99), none]) aX0_howOftenFits_2 ⟨by decide, rfl⟩ rfl ?_
  refine e_iconst (v := 0) aX0_howOftenFits_3 (by decide) ?_
  refine e_istore_n (L2 := [some (.ref (x.2.2.1 + 141)), some (.ref (x.2.2.1 + p1)), some (.int 99), some (.int 0)]) aX0_howOftenFits_4 ⟨by decide, rfl⟩ rfl ?_
  refine w_X0_howOftenFits_5 l x hp1 (fun i2_1 i3_2 h => ?_) FU _ _ h
  refine e_iload_n aX0_howOftenFits_40 rfl ?_
  exact e_retI aX0_howOftenFits_41 rfl rfl (pI_ro h)
def s_X0_putAmongUsed_5 (i1 : Int32) (i2 : Int32) (k : Int32 → Mem → Option Mem) (rec : Int32 → Mem → Option Mem) (i3 : Int32) (M : Mem) : Option Mem :=
  if i3 ≤ 0 then
    k i3 M
  else
    if i3 - 1 < 0 ∨ 36 ≤ (i3 - 1).toNatClampNeg then none else
    if i2 ≤ M 143 (i3 - 1).toNatClampNeg then
      k i3 M
    else
      if i3 - 1 < 0 ∨ 36 ≤ (i3 - 1).toNatClampNeg then none else
      if i3 < 0 ∨ 36 ≤ i3.toNatClampNeg then none else
      lt (um M 143 i3.toNatClampNeg (M 143 (i3 - 1).toNatClampNeg)) fun (M6 : Mem) =>
      if i3 - 1 < 0 ∨ 36 ≤ (i3 - 1).toNatClampNeg then none else
      if i3 < 0 ∨ 36 ≤ i3.toNatClampNeg then none else
      lt (um M6 142 i3.toNatClampNeg (M6 142 (i3 - 1).toNatClampNeg)) fun (M9 : Mem) =>
      rec (i3 + (-1)) M9
def f_X0_putAmongUsed_5 (i1 : Int32) (i2 : Int32) (k : Int32 → Mem → Option Mem) : Nat → Int32 → Mem → Option Mem
  | 0 => fun _ _ => none
  | n + 1 => fun i3 M => s_X0_putAmongUsed_5 i1 i2 k (f_X0_putAmongUsed_5 i1 i2 k n) i3 M
set_option maxRecDepth 100000 in
set_option maxHeartbeats 4000000 in
theorem w_X0_putAmongUsed_5 (l : Launch) (x : WX) {i1 : Int32} {i2 : Int32} {k : Int32 → Mem → Option Mem} {r : Mem}  (K : ∀ (i3 : Int32) (M : Mem), k i3 M = some r → Ev l x false cX0_putAmongUsed RX0 none 4 0 0 0 (pV r) 55 [some (.ref (x.2.2.1 + 141)), some (.int i1), some (.int i2), some (.int i3)] [] LAY M) : ∀ (n : Nat) (i3 : Int32) (M : Mem), f_X0_putAmongUsed_5 i1 i2 k n i3 M = some r → Ev l x false cX0_putAmongUsed RX0 none 4 0 0 0 (pV r) 5 [some (.ref (x.2.2.1 + 141)), some (.int i1), some (.int i2), some (.int i3)] [] LAY M := by
  intro n
  induction n with
  | zero =>
    intro i3 M h
    exact nomatch (show (none : Option Mem) = some r from h)
  | succ n ih =>
    intro i3 M h
    have h : s_X0_putAmongUsed_5 i1 i2 k (f_X0_putAmongUsed_5 i1 i2 k n) i3 M = some r := h
    unfold s_X0_putAmongUsed_5 at h
    refine e_iload_n aX0_putAmongUsed_5 rfl ?_
    rcases of_ite h with ⟨hc1, h⟩ | ⟨hc1, h⟩
    · refine e_if_le (tgt := 55) aX0_putAmongUsed_6 (by decide) (fun _ => ?_) (fun q => absurd hc1 q)
      exact K _ _ h
    · refine e_if_le (tgt := 55) aX0_putAmongUsed_6 (by decide) (fun q => absurd q hc1) (fun _ => ?_)
      refine e_aload_n aX0_putAmongUsed_9 rfl ?_
      refine e_getR (r := 143) aX0_putAmongUsed_10 fX0_15 ly_141 rfl ?_
      refine e_iload_n aX0_putAmongUsed_13 rfl ?_
      refine e_iconst (v := 1) aX0_putAmongUsed_14 (by decide) ?_
      refine e_isub aX0_putAmongUsed_15 ?_
      obtain ⟨hg2, h⟩ := of_guard h
      refine e_iald aX0_putAmongUsed_16 ly_143 hg2 ?_
      refine e_iload_n aX0_putAmongUsed_17 rfl ?_
      rcases of_ite h with ⟨hc3, h⟩ | ⟨hc3, h⟩
      · refine e_icmp_ge (tgt := 55) aX0_putAmongUsed_18 (by decide) (fun _ => ?_) (fun q => absurd hc3 q)
        exact K _ _ h
      · refine e_icmp_ge (tgt := 55) aX0_putAmongUsed_18 (by decide) (fun q => absurd q hc3) (fun _ => ?_)
        refine e_aload_n aX0_putAmongUsed_21 rfl ?_
        refine e_getR (r := 143) aX0_putAmongUsed_22 fX0_15 ly_141 rfl ?_
        refine e_iload_n aX0_putAmongUsed_25 rfl ?_
        refine e_aload_n aX0_putAmongUsed_26 rfl ?_
        refine e_getR (r := 143) aX0_putAmongUsed_27 fX0_15 ly_141 rfl ?_
        refine e_iload_n aX0_putAmongUsed_30 rfl ?_
        refine e_iconst (v := 1) aX0_putAmongUsed_31 (by decide) ?_
        refine e_isub aX0_putAmongUsed_32 ?_
        obtain ⟨hg4, h⟩ := of_guard h
        refine e_iald aX0_putAmongUsed_33 ly_143 hg4 ?_
        obtain ⟨hg5, h⟩ := of_guard h
        obtain ⟨M6, eM6, h⟩ := of_lt h
        refine e_ist aX0_putAmongUsed_34 ly_143 hg5 eM6 ?_
        refine e_aload_n aX0_putAmongUsed_35 rfl ?_
        refine e_getR (r := 142) aX0_putAmongUsed_36 fX0_9 ly_141 rfl ?_
        refine e_iload_n aX0_putAmongUsed_39 rfl ?_
        refine e_aload_n aX0_putAmongUsed_40 rfl ?_
        refine e_getR (r := 142) aX0_putAmongUsed_41 fX0_9 ly_141 rfl ?_
        refine e_iload_n aX0_putAmongUsed_44 rfl ?_
        refine e_iconst (v := 1) aX0_putAmongUsed_45 (by decide) ?_
        refine e_isub aX0_putAmongUsed_46 ?_
        obtain ⟨hg7, h⟩ := of_guard h
        refine e_iald aX0_putAmongUsed_47 ly_142 hg7 ?_
        obtain ⟨hg8, h⟩ := of_guard h
        obtain ⟨M9, eM9, h⟩ := of_lt h
        refine e_ist aX0_putAmongUsed_48 ly_142 hg8 eM9 ?_
        refine e_iinc (v := i3 + (-1)) (L2 := [some (.ref (x.2.2.1 + 141)), some (.int i1), some (.int i2), some (.int (i3 + (-1)))]) aX0_putAmongUsed_49 rfl rfl ⟨by decide, rfl⟩ rfl ?_
        refine e_goto (tgt := 5) aX0_putAmongUsed_52 (by decide) ?_
        exact ih _ _ h
def f_X0_putAmongUsed (i1 : Int32) (i2 : Int32) (M : Mem) : Option Mem :=
  lt (M 141 3) fun (v1 : Int32) =>
  f_X0_putAmongUsed_5 i1 i2 (fun (i3_2 : Int32) (M3 : Mem) =>
    if i3_2 < 0 ∨ 36 ≤ i3_2.toNatClampNeg then none else
    lt (um M3 143 i3_2.toNatClampNeg i2) fun (M5 : Mem) =>
    if i3_2 < 0 ∨ 36 ≤ i3_2.toNatClampNeg then none else
    lt (um M5 142 i3_2.toNatClampNeg i1) fun (M7 : Mem) =>
    lt (um M7 141 3 ((M7 141 3) + 1)) fun (M8 : Mem) =>
    some M8) FU v1 M
set_option maxRecDepth 100000 in
set_option maxHeartbeats 4000000 in
theorem c_X0_putAmongUsed (l : Launch) (x : WX) {i1 : Int32} {i2 : Int32} {M : Mem} {r : Mem}  (h : f_X0_putAmongUsed i1 i2 M = some r) : Mt l x false yX0_putAmongUsed cX0_putAmongUsed 4 none 0 0 0 [.ref (x.2.2.1 + 141), .int i1, .int i2] LAY M (pV r) := by
  refine mt_of (L0 := [some (.ref (x.2.2.1 + 141)), some (.int i1), some (.int i2), none]) (by decide +kernel) rfl (Nat.le_of_ble_eq_true rfl) (lvA_of 1 rfl) ?_
  unfold f_X0_putAmongUsed at h
  refine e_aload_n aX0_putAmongUsed_0 rfl ?_
  refine e_getI aX0_putAmongUsed_1 fX0_21 ly_141 rfl ?_
  obtain ⟨v1, ev1, h⟩ := of_lt h
  refine e_nameI ev1 ?_
  refine e_istore_n (L2 := [some (.ref (x.2.2.1 + 141)), some (.int i1), some (.int i2), some (.int v1)]) aX0_putAmongUsed_4 ⟨by decide, rfl⟩ rfl ?_
  refine w_X0_putAmongUsed_5 l x  (fun i3_2 M3 h => ?_) FU _ _ h
  refine e_aload_n aX0_putAmongUsed_55 rfl ?_
  refine e_getR (r := 143) aX0_putAmongUsed_56 fX0_15 ly_141 rfl ?_
  refine e_iload_n aX0_putAmongUsed_59 rfl ?_
  refine e_iload_n aX0_putAmongUsed_60 rfl ?_
  obtain ⟨hg4, h⟩ := of_guard h
  obtain ⟨M5, eM5, h⟩ := of_lt h
  refine e_ist aX0_putAmongUsed_61 ly_143 hg4 eM5 ?_
  refine e_aload_n aX0_putAmongUsed_62 rfl ?_
  refine e_getR (r := 142) aX0_putAmongUsed_63 fX0_9 ly_141 rfl ?_
  refine e_iload_n aX0_putAmongUsed_66 rfl ?_
  refine e_iload_n aX0_putAmongUsed_67 rfl ?_
  obtain ⟨hg6, h⟩ := of_guard h
  obtain ⟨M7, eM7, h⟩ := of_lt h
  refine e_ist aX0_putAmongUsed_68 ly_142 hg6 eM7 ?_
  refine e_aload_n aX0_putAmongUsed_69 rfl ?_
  refine e_dupR aX0_putAmongUsed_70 ?_
  refine e_getI aX0_putAmongUsed_71 fX0_21 ly_141 rfl ?_
  refine e_iconst (v := 1) aX0_putAmongUsed_74 (by decide) ?_
  refine e_iadd aX0_putAmongUsed_75 ?_
  obtain ⟨M8, eM8, h⟩ := of_lt h
  refine e_put aX0_putAmongUsed_76 qX0_21 ly_141 rfl (fi_of _) eM8 ?_
  exact e_ret0 aX0_putAmongUsed_79 rfl (pV_of h)
def s_X0_chooseRoots_7  (k : Int32 → Mem → Option Mem) (rec : Int32 → Mem → Option Mem) (i2 : Int32) (M : Mem) : Option Mem :=
  if M 57 1 ≤ i2 then
    k i2 M
  else
    if i2 < 0 ∨ 36 ≤ i2.toNatClampNeg then none else
    if M 95 i2.toNatClampNeg ≤ 1 then
      rec (i2 + 1) M
    else
      if i2 < 0 ∨ 36 ≤ i2.toNatClampNeg then none else
      (f_X0_fits (59 + i2.toNatClampNeg) M).bind fun (r5 : Int32) =>
      if r5 = 0 then
        rec (i2 + 1) M
      else
        if i2 < 0 ∨ 36 ≤ i2.toNatClampNeg then none else
        (f_X0_howOftenFits (59 + i2.toNatClampNeg) M).bind fun (r8 : Int32) =>
        (f_X0_putAmongUsed i2 r8 M).bind fun (M9 : Mem) =>
        rec (i2 + 1) M9
def f_X0_chooseRoots_7  (k : Int32 → Mem → Option Mem) : Nat → Int32 → Mem → Option Mem
  | 0 => fun _ _ => none
  | n + 1 => fun i2 M => s_X0_chooseRoots_7  k (f_X0_chooseRoots_7  k n) i2 M
set_option maxRecDepth 100000 in
set_option maxHeartbeats 4000000 in
theorem w_X0_chooseRoots_7 (l : Launch) (x : WX)  {k : Int32 → Mem → Option Mem} {r : Mem}  (K : ∀ (i2 : Int32) (M : Mem), k i2 M = some r → Ev l x false cX0_chooseRoots RX0 none 3 2 0 0 (pV r) 59 [some (.ref (x.2.2.1 + 141)), some (.ref (x.2.2.1 + 57)), some (.int i2)] [] LAY M) : ∀ (n : Nat) (i2 : Int32) (M : Mem), f_X0_chooseRoots_7  k n i2 M = some r → Ev l x false cX0_chooseRoots RX0 none 3 2 0 0 (pV r) 7 [some (.ref (x.2.2.1 + 141)), some (.ref (x.2.2.1 + 57)), some (.int i2)] [] LAY M := by
  intro n
  induction n with
  | zero =>
    intro i2 M h
    exact nomatch (show (none : Option Mem) = some r from h)
  | succ n ih =>
    intro i2 M h
    have h : s_X0_chooseRoots_7  k (f_X0_chooseRoots_7  k n) i2 M = some r := h
    unfold s_X0_chooseRoots_7 at h
    refine e_iload_n aX0_chooseRoots_7 rfl ?_
    refine e_aload_n aX0_chooseRoots_8 rfl ?_
    refine e_getI aX0_chooseRoots_9 fX0_62 ly_57 rfl ?_
    rcases of_ite h with ⟨hc1, h⟩ | ⟨hc1, h⟩
    · refine e_icmp_ge (tgt := 59) aX0_chooseRoots_12 (by decide) (fun _ => ?_) (fun q => absurd hc1 q)
      exact K _ _ h
    · refine e_icmp_ge (tgt := 59) aX0_chooseRoots_12 (by decide) (fun q => absurd q hc1) (fun _ => ?_)
      refine e_aload_n aX0_chooseRoots_15 rfl ?_
      refine e_getR (r := 95) aX0_chooseRoots_16 fX0_65 ly_57 rfl ?_
      refine e_iload_n aX0_chooseRoots_19 rfl ?_
      obtain ⟨hg2, h⟩ := of_guard h
      refine e_iald aX0_chooseRoots_20 ly_95 hg2 ?_
      refine e_iconst (v := 1) aX0_chooseRoots_21 (by decide) ?_
      rcases of_ite h with ⟨hc3, h⟩ | ⟨hc3, h⟩
      · refine e_icmp_le (tgt := 53) aX0_chooseRoots_22 (by decide) (fun _ => ?_) (fun q => absurd hc3 q)
        refine e_iinc (v := i2 + 1) (L2 := [some (.ref (x.2.2.1 + 141)), some (.ref (x.2.2.1 + 57)), some (.int (i2 + 1))]) aX0_chooseRoots_53 rfl rfl ⟨by decide, rfl⟩ rfl ?_
        refine e_goto (tgt := 7) aX0_chooseRoots_56 (by decide) ?_
        exact ih _ _ h
      · refine e_icmp_le (tgt := 53) aX0_chooseRoots_22 (by decide) (fun q => absurd q hc3) (fun _ => ?_)
        refine e_aload_n aX0_chooseRoots_25 rfl ?_
        refine e_aload_n aX0_chooseRoots_26 rfl ?_
        refine e_getR (r := 58) aX0_chooseRoots_27 fX0_42 ly_57 rfl ?_
        refine e_iload_n aX0_chooseRoots_30 rfl ?_
        obtain ⟨hg4, h⟩ := of_guard h
        refine e_aald aX0_chooseRoots_31 ly_58 (by decide) hg4 (ra_R _ (ix_lt hg4)) ?_
        obtain ⟨r5, hr5, h⟩ := of_bind h
        refine e_VI [] aX0_chooseRoots_32 co_X0_fits mX0_68 ly_141 rfl rfl (c_X0_fits l x (rr_R _ (ix_lt hg4)) hr5) rfl ⟨by decide, by decide⟩ (Nat.le_of_ble_eq_true rfl) rfl ?_
        rcases of_ite h with ⟨hc6, h⟩ | ⟨hc6, h⟩
        · refine e_if_eq (tgt := 53) aX0_chooseRoots_35 (by decide) (fun _ => ?_) (fun q => absurd hc6 q)
          refine e_iinc (v := i2 + 1) (L2 := [some (.ref (x.2.2.1 + 141)), some (.ref (x.2.2.1 + 57)), some (.int (i2 + 1))]) aX0_chooseRoots_53 rfl rfl ⟨by decide, rfl⟩ rfl ?_
          refine e_goto (tgt := 7) aX0_chooseRoots_56 (by decide) ?_
          exact ih _ _ h
        · refine e_if_eq (tgt := 53) aX0_chooseRoots_35 (by decide) (fun q => absurd q hc6) (fun _ => ?_)
          refine e_aload_n aX0_chooseRoots_38 rfl ?_
          refine e_iload_n aX0_chooseRoots_39 rfl ?_
          refine e_aload_n aX0_chooseRoots_40 rfl ?_
          refine e_aload_n aX0_chooseRoots_41 rfl ?_
          refine e_getR (r := 58) aX0_chooseRoots_42 fX0_42 ly_57 rfl ?_
          refine e_iload_n aX0_chooseRoots_45 rfl ?_
          obtain ⟨hg7, h⟩ := of_guard h
          refine e_aald aX0_chooseRoots_46 ly_58 (by decide) hg7 (ra_R _ (ix_lt hg7)) ?_
          obtain ⟨r8, hr8, h⟩ := of_bind h
          refine e_VI [.int i2, .ref (x.2.2.1 + 141)] aX0_chooseRoots_47 co_X0_howOftenFits mX0_48 ly_141 rfl rfl (c_X0_howOftenFits l x (rr_R _ (ix_lt hg7)) hr8) rfl ⟨by decide, by decide⟩ (Nat.le_of_ble_eq_true rfl) rfl ?_
          obtain ⟨M9, hM9, h⟩ := of_bind h
          refine e_VV [] aX0_chooseRoots_50 co_X0_putAmongUsed mX0_72 ly_141 rfl rfl (c_X0_putAmongUsed l x hM9) rfl ⟨by decide, by decide⟩ (Nat.le_of_ble_eq_true rfl) rfl ?_
          refine e_iinc (v := i2 + 1) (L2 := [some (.ref (x.2.2.1 + 141)), some (.ref (x.2.2.1 + 57)), some (.int (i2 + 1))]) aX0_chooseRoots_53 rfl rfl ⟨by decide, rfl⟩ rfl ?_
          refine e_goto (tgt := 7) aX0_chooseRoots_56 (by decide) ?_
          exact ih _ _ h
def s_X0_chooseRoots_61  (k : Int32 → Mem → Option Mem) (rec : Int32 → Mem → Option Mem) (i2 : Int32) (M : Mem) : Option Mem :=
  if M 141 3 ≤ i2 then
    k i2 M
  else
    if i2 < 0 ∨ 36 ≤ i2.toNatClampNeg then none else
    lt (um M 143 i2.toNatClampNeg 0) fun (M3 : Mem) =>
    rec (i2 + 1) M3
def f_X0_chooseRoots_61  (k : Int32 → Mem → Option Mem) : Nat → Int32 → Mem → Option Mem
  | 0 => fun _ _ => none
  | n + 1 => fun i2 M => s_X0_chooseRoots_61  k (f_X0_chooseRoots_61  k n) i2 M
set_option maxRecDepth 100000 in
set_option maxHeartbeats 4000000 in
theorem w_X0_chooseRoots_61 (l : Launch) (x : WX)  {k : Int32 → Mem → Option Mem} {r : Mem}  (K : ∀ (i2 : Int32) (M : Mem), k i2 M = some r → Ev l x false cX0_chooseRoots RX0 none 3 2 0 0 (pV r) 82 [some (.ref (x.2.2.1 + 141)), some (.ref (x.2.2.1 + 57)), some (.int i2)] [] LAY M) : ∀ (n : Nat) (i2 : Int32) (M : Mem), f_X0_chooseRoots_61  k n i2 M = some r → Ev l x false cX0_chooseRoots RX0 none 3 2 0 0 (pV r) 61 [some (.ref (x.2.2.1 + 141)), some (.ref (x.2.2.1 + 57)), some (.int i2)] [] LAY M := by
  intro n
  induction n with
  | zero =>
    intro i2 M h
    exact nomatch (show (none : Option Mem) = some r from h)
  | succ n ih =>
    intro i2 M h
    have h : s_X0_chooseRoots_61  k (f_X0_chooseRoots_61  k n) i2 M = some r := h
    unfold s_X0_chooseRoots_61 at h
    refine e_iload_n aX0_chooseRoots_61 rfl ?_
    refine e_aload_n aX0_chooseRoots_62 rfl ?_
    refine e_getI aX0_chooseRoots_63 fX0_21 ly_141 rfl ?_
    rcases of_ite h with ⟨hc1, h⟩ | ⟨hc1, h⟩
    · refine e_icmp_ge (tgt := 82) aX0_chooseRoots_66 (by decide) (fun _ => ?_) (fun q => absurd hc1 q)
      exact K _ _ h
    · refine e_icmp_ge (tgt := 82) aX0_chooseRoots_66 (by decide) (fun q => absurd q hc1) (fun _ => ?_)
      refine e_aload_n aX0_chooseRoots_69 rfl ?_
      refine e_getR (r := 143) aX0_chooseRoots_70 fX0_15 ly_141 rfl ?_
      refine e_iload_n aX0_chooseRoots_73 rfl ?_
      refine e_iconst (v := 0) aX0_chooseRoots_74 (by decide) ?_
      obtain ⟨hg2, h⟩ := of_guard h
      obtain ⟨M3, eM3, h⟩ := of_lt h
      refine e_ist aX0_chooseRoots_75 ly_143 hg2 eM3 ?_
      refine e_iinc (v := i2 + 1) (L2 := [some (.ref (x.2.2.1 + 141)), some (.ref (x.2.2.1 + 57)), some (.int (i2 + 1))]) aX0_chooseRoots_76 rfl rfl ⟨by decide, rfl⟩ rfl ?_
      refine e_goto (tgt := 61) aX0_chooseRoots_79 (by decide) ?_
      exact ih _ _ h
def f_X0_chooseRoots  (M : Mem) : Option Mem :=
  lt (um M 141 3 0) fun (M1 : Mem) =>
  f_X0_chooseRoots_7  (fun (i2_2 : Int32) (M3 : Mem) =>
    f_X0_chooseRoots_61  (fun (i2_4 : Int32) (M5 : Mem) =>
      some M5) FU 0 M3) FU 0 M1
set_option maxRecDepth 100000 in
set_option maxHeartbeats 4000000 in
theorem c_X0_chooseRoots (l : Launch) (x : WX)  {M : Mem} {r : Mem}  (h : f_X0_chooseRoots  M = some r) : Mt l x false yX0_chooseRoots cX0_chooseRoots 3 none 2 0 0 [.ref (x.2.2.1 + 141), .ref (x.2.2.1 + 57)] LAY M (pV r) := by
  refine mt_of (L0 := [some (.ref (x.2.2.1 + 141)), some (.ref (x.2.2.1 + 57)), none]) (by decide +kernel) rfl (Nat.le_of_ble_eq_true rfl) (lvA_of 1 rfl) ?_
  unfold f_X0_chooseRoots at h
  refine e_aload_n aX0_chooseRoots_0 rfl ?_
  refine e_iconst (v := 0) aX0_chooseRoots_1 (by decide) ?_
  obtain ⟨M1, eM1, h⟩ := of_lt h
  refine e_put aX0_chooseRoots_2 qX0_21 ly_141 rfl (fi_of _) eM1 ?_
  refine e_iconst (v := 0) aX0_chooseRoots_5 (by decide) ?_
  refine e_istore_n (L2 := [some (.ref (x.2.2.1 + 141)), some (.ref (x.2.2.1 + 57)), some (.int 0)]) aX0_chooseRoots_6 ⟨by decide, rfl⟩ rfl ?_
  refine w_X0_chooseRoots_7 l x  (fun i2_2 M3 h => ?_) FU _ _ h
  refine e_iconst (v := 0) aX0_chooseRoots_59 (by decide) ?_
  refine e_istore_n (L2 := [some (.ref (x.2.2.1 + 141)), some (.ref (x.2.2.1 + 57)), some (.int 0)]) aX0_chooseRoots_60 ⟨by decide, rfl⟩ rfl ?_
  refine w_X0_chooseRoots_61 l x  (fun i2_4 M5 h => ?_) FU _ _ h
  exact e_ret0 aX0_chooseRoots_82 rfl (pV_of h)
def s_X0_takeAway_2 (p1 : Nat) (i2 : Int32) (k : Int32 → Mem → Option Mem) (rec : Int32 → Mem → Option Mem) (i3 : Int32) (M : Mem) : Option Mem :=
  if M 141 4 ≤ i3 then
    k i3 M
  else
    if i3 < 0 ∨ 6 ≤ i3.toNatClampNeg then none else
    if i3 < 0 ∨ 6 ≤ i3.toNatClampNeg then none else
    if i3 < 0 ∨ 6 ≤ i3.toNatClampNeg then none else
    lt (um M 144 i3.toNatClampNeg ((M 144 i3.toNatClampNeg) - (i2 * (M p1 i3.toNatClampNeg)))) fun (M5 : Mem) =>
    rec (i3 + 1) M5
def f_X0_takeAway_2 (p1 : Nat) (i2 : Int32) (k : Int32 → Mem → Option Mem) : Nat → Int32 → Mem → Option Mem
  | 0 => fun _ _ => none
  | n + 1 => fun i3 M => s_X0_takeAway_2 p1 i2 k (f_X0_takeAway_2 p1 i2 k n) i3 M
set_option maxRecDepth 100000 in
set_option maxHeartbeats 4000000 in
theorem w_X0_takeAway_2 (l : Launch) (x : WX) {p1 : Nat} {i2 : Int32} {k : Int32 → Mem → Option Mem} {r : Mem} (hp1 : LAY[p1]? = some (1, 6, [])) (K : ∀ (i3 : Int32) (M : Mem), k i3 M = some r → Ev l x false cX0_takeAway RX0 none 4 0 0 0 (pV r) 30 [some (.ref (x.2.2.1 + 141)), some (.ref (x.2.2.1 + p1)), some (.int i2), some (.int i3)] [] LAY M) : ∀ (n : Nat) (i3 : Int32) (M : Mem), f_X0_takeAway_2 p1 i2 k n i3 M = some r → Ev l x false cX0_takeAway RX0 none 4 0 0 0 (pV r) 2 [some (.ref (x.2.2.1 + 141)), some (.ref (x.2.2.1 + p1)), some (.int i2), some (.int i3)] [] LAY M := by
  intro n
  induction n with
  | zero =>
    intro i3 M h
    exact nomatch (show (none : Option Mem) = some r from h)
  | succ n ih =>
    intro i3 M h
    have h : s_X0_takeAway_2 p1 i2 k (f_X0_takeAway_2 p1 i2 k n) i3 M = some r := h
    unfold s_X0_takeAway_2 at h
    refine e_iload_n aX0_takeAway_2 rfl ?_
    refine e_aload_n aX0_takeAway_3 rfl ?_
    refine e_getI aX0_takeAway_4 fX0_25 ly_141 rfl ?_
    rcases of_ite h with ⟨hc1, h⟩ | ⟨hc1, h⟩
    · refine e_icmp_ge (tgt := 30) aX0_takeAway_7 (by decide) (fun _ => ?_) (fun q => absurd hc1 q)
      exact K _ _ h
    · refine e_icmp_ge (tgt := 30) aX0_takeAway_7 (by decide) (fun q => absurd q hc1) (fun _ => ?_)
      refine e_aload_n aX0_takeAway_10 rfl ?_
      refine e_getR (r := 144) aX0_takeAway_11 fX0_18 ly_141 rfl ?_
      refine e_iload_n aX0_takeAway_14 rfl ?_
      refine e_dup2 aX0_takeAway_15 ?_
      obtain ⟨hg2, h⟩ := of_guard h
      refine e_iald aX0_takeAway_16 ly_144 hg2 ?_
      refine e_iload_n aX0_takeAway_17 rfl ?_
      refine e_aload_n aX0_takeAway_18 rfl ?_
      refine e_iload_n aX0_takeAway_19 rfl ?_
      obtain ⟨hg3, h⟩ := of_guard h
      refine e_iald aX0_takeAway_20 hp1 hg3 ?_
      refine e_imul aX0_takeAway_21 ?_
      refine e_isub aX0_takeAway_22 ?_
      obtain ⟨hg4, h⟩ := of_guard h
      obtain ⟨M5, eM5, h⟩ := of_lt h
      refine e_ist aX0_takeAway_23 ly_144 hg4 eM5 ?_
      refine e_iinc (v := i3 + 1) (L2 := [some (.ref (x.2.2.1 + 141)), some (.ref (x.2.2.1 + p1)), some (.int i2), some (.int (i3 + 1))]) aX0_takeAway_24 rfl rfl ⟨by decide, rfl⟩ rfl ?_
      refine e_goto (tgt := 2) aX0_takeAway_27 (by decide) ?_
      exact ih _ _ h
def f_X0_takeAway (p1 : Nat) (i2 : Int32) (M : Mem) : Option Mem :=
  f_X0_takeAway_2 p1 i2 (fun (i3_1 : Int32) (M2 : Mem) =>
    some M2) FU 0 M
set_option maxRecDepth 100000 in
set_option maxHeartbeats 4000000 in
theorem c_X0_takeAway (l : Launch) (x : WX) {p1 : Nat} {i2 : Int32} {M : Mem} {r : Mem} (hp1 : LAY[p1]? = some (1, 6, [])) (h : f_X0_takeAway p1 i2 M = some r) : Mt l x false yX0_takeAway cX0_takeAway 4 none 0 0 0 [.ref (x.2.2.1 + 141), .ref (x.2.2.1 + p1), .int i2] LAY M (pV r) := by
  refine mt_of (L0 := [some (.ref (x.2.2.1 + 141)), some (.ref (x.2.2.1 + p1)), some (.int i2), none]) (by decide +kernel) rfl (Nat.le_of_ble_eq_true rfl) (lvA_of 1 rfl) ?_
  unfold f_X0_takeAway at h
  refine e_iconst (v := 0) aX0_takeAway_0 (by decide) ?_
  refine e_istore_n (L2 := [some (.ref (x.2.2.1 + 141)), some (.ref (x.2.2.1 + p1)), some (.int i2), some (.int 0)]) aX0_takeAway_1 ⟨by decide, rfl⟩ rfl ?_
  refine w_X0_takeAway_2 l x hp1 (fun i3_1 M2 h => ?_) FU _ _ h
  exact e_ret0 aX0_takeAway_30 rfl (pV_of h)
def s_X0_goOn_2  (k : Int32 → Mem → Option (Int32 × Mem)) (rec : Int32 → Mem → Option (Int32 × Mem)) (i2 : Int32) (M : Mem) : Option (Int32 × Mem) :=
  if M 141 3 ≤ i2 then
    k i2 M
  else
    if i2 < 0 ∨ 36 ≤ i2.toNatClampNeg then none else
    if M 142 i2.toNatClampNeg < 0 ∨ 36 ≤ (M 142 i2.toNatClampNeg).toNatClampNeg then none else
    (f_X0_fits (59 + (M 142 i2.toNatClampNeg).toNatClampNeg) M).bind fun (r4 : Int32) =>
    if r4 = 0 then
      if i2 < 0 ∨ 36 ≤ i2.toNatClampNeg then none else
      if M 143 i2.toNatClampNeg ≤ 0 then
        rec (i2 + 1) M
      else
        if i2 < 0 ∨ 36 ≤ i2.toNatClampNeg then none else
        (f_X0_takeAway (59 + (M 142 i2.toNatClampNeg).toNatClampNeg) (-(M 143 i2.toNatClampNeg)) M).bind fun (M9 : Mem) =>
        if i2 < 0 ∨ 36 ≤ i2.toNatClampNeg then none else
        lt (um M9 143 i2.toNatClampNeg 0) fun (M11 : Mem) =>
        rec (i2 + 1) M11
    else
      (f_X0_takeAway (59 + (M 142 i2.toNatClampNeg).toNatClampNeg) 1 M).bind fun (M12 : Mem) =>
      if i2 < 0 ∨ 36 ≤ i2.toNatClampNeg then none else
      if i2 < 0 ∨ 36 ≤ i2.toNatClampNeg then none else
      lt (um M12 143 i2.toNatClampNeg ((M12 143 i2.toNatClampNeg) + 1)) fun (M15 : Mem) =>
      some (1, M15)
def f_X0_goOn_2  (k : Int32 → Mem → Option (Int32 × Mem)) : Nat → Int32 → Mem → Option (Int32 × Mem)
  | 0 => fun _ _ => none
  | n + 1 => fun i2 M => s_X0_goOn_2  k (f_X0_goOn_2  k n) i2 M
set_option maxRecDepth 100000 in
set_option maxHeartbeats 4000000 in
theorem w_X0_goOn_2 (l : Launch) (x : WX)  {k : Int32 → Mem → Option (Int32 × Mem)} {r : (Int32 × Mem)}  (K : ∀ (i2 : Int32) (M : Mem), k i2 M = some r → Ev l x false cX0_goOn RX0 (some FieldType.boolean) 4 1 0 0 (pI r.1 r.2) 82 [some (.ref (x.2.2.1 + 141)), some (.ref (x.2.2.1 + 57)), some (.int i2), none] [] LAY M) : ∀ (n : Nat) (i2 : Int32) (M : Mem), f_X0_goOn_2  k n i2 M = some r → Ev l x false cX0_goOn RX0 (some FieldType.boolean) 4 1 0 0 (pI r.1 r.2) 2 [some (.ref (x.2.2.1 + 141)), some (.ref (x.2.2.1 + 57)), some (.int i2), none] [] LAY M := by
  intro n
  induction n with
  | zero =>
    intro i2 M h
    exact nomatch (show (none : Option (Int32 × Mem)) = some r from h)
  | succ n ih =>
    intro i2 M h
    have h : s_X0_goOn_2  k (f_X0_goOn_2  k n) i2 M = some r := h
    unfold s_X0_goOn_2 at h
    refine e_iload_n aX0_goOn_2 rfl ?_
    refine e_aload_n aX0_goOn_3 rfl ?_
    refine e_getI aX0_goOn_4 fX0_21 ly_141 rfl ?_
    rcases of_ite h with ⟨hc1, h⟩ | ⟨hc1, h⟩
    · refine e_icmp_ge (tgt := 82) aX0_goOn_7 (by decide) (fun _ => ?_) (fun q => absurd hc1 q)
      exact K _ _ h
    · refine e_icmp_ge (tgt := 82) aX0_goOn_7 (by decide) (fun q => absurd q hc1) (fun _ => ?_)
      refine e_aload_n aX0_goOn_10 rfl ?_
      refine e_getR (r := 58) aX0_goOn_11 fX0_42 ly_57 rfl ?_
      refine e_aload_n aX0_goOn_14 rfl ?_
      refine e_getR (r := 142) aX0_goOn_15 fX0_9 ly_141 rfl ?_
      refine e_iload_n aX0_goOn_18 rfl ?_
      obtain ⟨hg2, h⟩ := of_guard h
      refine e_iald aX0_goOn_19 ly_142 hg2 ?_
      obtain ⟨hg3, h⟩ := of_guard h
      refine e_aald aX0_goOn_20 ly_58 (by decide) hg3 (ra_R _ (ix_lt hg3)) ?_
      refine e_astore_n (L2 := [some (.ref (x.2.2.1 + 141)), some (.ref (x.2.2.1 + 57)), some (.int i2), some (.ref (x.2.2.1 + (59 + (M 142 i2.toNatClampNeg).toNatClampNeg)))]) aX0_goOn_21 ⟨by decide, rfl⟩ rfl ?_
      refine e_aload_n aX0_goOn_22 rfl ?_
      refine e_aload_n aX0_goOn_23 rfl ?_
      obtain ⟨r4, hr4, h⟩ := of_bind h
      refine e_VI [] aX0_goOn_24 co_X0_fits mX0_68 ly_141 rfl rfl (c_X0_fits l x (rr_R _ (ix_lt hg3)) hr4) rfl ⟨by decide, by decide⟩ (Nat.le_of_ble_eq_true rfl) rfl ?_
      rcases of_ite h with ⟨hc5, h⟩ | ⟨hc5, h⟩
      · refine e_if_eq (tgt := 48) aX0_goOn_27 (by decide) (fun _ => ?_) (fun q => absurd hc5 q)
        refine e_aload_n aX0_goOn_48 rfl ?_
        refine e_getR (r := 143) aX0_goOn_49 fX0_15 ly_141 rfl ?_
        refine e_iload_n aX0_goOn_52 rfl ?_
        obtain ⟨hg6, h⟩ := of_guard h
        refine e_iald aX0_goOn_53 ly_143 hg6 ?_
        rcases of_ite h with ⟨hc7, h⟩ | ⟨hc7, h⟩
        · refine e_if_le (tgt := 76) aX0_goOn_54 (by decide) (fun _ => ?_) (fun q => absurd hc7 q)
          refine e_iinc (v := i2 + 1) (L2 := [some (.ref (x.2.2.1 + 141)), some (.ref (x.2.2.1 + 57)), some (.int (i2 + 1)), some (.ref (x.2.2.1 + (59 + (M 142 i2.toNatClampNeg).toNatClampNeg)))]) aX0_goOn_76 rfl rfl ⟨by decide, rfl⟩ rfl ?_
          refine e_goto (tgt := 2) aX0_goOn_79 (by decide) ?_
          refine e_drop 3 (L2 := [some (.ref (x.2.2.1 + 141)), some (.ref (x.2.2.1 + 57)), some (.int (i2 + 1)), none]) rfl ?_
          exact ih _ _ h
        · refine e_if_le (tgt := 76) aX0_goOn_54 (by decide) (fun q => absurd q hc7) (fun _ => ?_)
          refine e_aload_n aX0_goOn_57 rfl ?_
          refine e_aload_n aX0_goOn_58 rfl ?_
          refine e_aload_n aX0_goOn_59 rfl ?_
          refine e_getR (r := 143) aX0_goOn_60 fX0_15 ly_141 rfl ?_
          refine e_iload_n aX0_goOn_63 rfl ?_
          obtain ⟨hg8, h⟩ := of_guard h
          refine e_iald aX0_goOn_64 ly_143 hg8 ?_
          refine e_ineg aX0_goOn_65 ?_
          obtain ⟨M9, hM9, h⟩ := of_bind h
          refine e_VV [] aX0_goOn_66 co_X0_takeAway mX0_76 ly_141 rfl rfl (c_X0_takeAway l x (rr_R _ (ix_lt hg3)) hM9) rfl ⟨by decide, by decide⟩ (Nat.le_of_ble_eq_true rfl) rfl ?_
          refine e_aload_n aX0_goOn_69 rfl ?_
          refine e_getR (r := 143) aX0_goOn_70 fX0_15 ly_141 rfl ?_
          refine e_iload_n aX0_goOn_73 rfl ?_
          refine e_iconst (v := 0) aX0_goOn_74 (by decide) ?_
          obtain ⟨hg10, h⟩ := of_guard h
          obtain ⟨M11, eM11, h⟩ := of_lt h
          refine e_ist aX0_goOn_75 ly_143 hg10 eM11 ?_
          refine e_iinc (v := i2 + 1) (L2 := [some (.ref (x.2.2.1 + 141)), some (.ref (x.2.2.1 + 57)), some (.int (i2 + 1)), some (.ref (x.2.2.1 + (59 + (M 142 i2.toNatClampNeg).toNatClampNeg)))]) aX0_goOn_76 rfl rfl ⟨by decide, rfl⟩ rfl ?_
          refine e_goto (tgt := 2) aX0_goOn_79 (by decide) ?_
          refine e_drop 3 (L2 := [some (.ref (x.2.2.1 + 141)), some (.ref (x.2.2.1 + 57)), some (.int (i2 + 1)), none]) rfl ?_
          exact ih _ _ h
      · refine e_if_eq (tgt := 48) aX0_goOn_27 (by decide) (fun q => absurd q hc5) (fun _ => ?_)
        refine e_aload_n aX0_goOn_30 rfl ?_
        refine e_aload_n aX0_goOn_31 rfl ?_
        refine e_iconst (v := 1) aX0_goOn_32 (by decide) ?_
        obtain ⟨M12, hM12, h⟩ := of_bind h
        refine e_VV [] aX0_goOn_33 co_X0_takeAway mX0_76 ly_141 rfl rfl (c_X0_takeAway l x (rr_R _ (ix_lt hg3)) hM12) rfl ⟨by decide, by decide⟩ (Nat.le_of_ble_eq_true rfl) rfl ?_
        refine e_aload_n aX0_goOn_36 rfl ?_
        refine e_getR (r := 143) aX0_goOn_37 fX0_15 ly_141 rfl ?_
        refine e_iload_n aX0_goOn_40 rfl ?_
        refine e_dup2 aX0_goOn_41 ?_
        obtain ⟨hg13, h⟩ := of_guard h
        refine e_iald aX0_goOn_42 ly_143 hg13 ?_
        refine e_iconst (v := 1) aX0_goOn_43 (by decide) ?_
        refine e_iadd aX0_goOn_44 ?_
        obtain ⟨hg14, h⟩ := of_guard h
        obtain ⟨M15, eM15, h⟩ := of_lt h
        refine e_ist aX0_goOn_45 ly_143 hg14 eM15 ?_
        refine e_iconst (v := 1) aX0_goOn_46 (by decide) ?_
        exact e_retI aX0_goOn_47 rfl (by decide +kernel) (pI_of h)
def f_X0_goOn  (M : Mem) : Option (Int32 × Mem) :=
  f_X0_goOn_2  (fun (i2_1 : Int32) (M2 : Mem) =>
    some (0, M2)) FU 1 M
set_option maxRecDepth 100000 in
set_option maxHeartbeats 4000000 in
theorem c_X0_goOn (l : Launch) (x : WX)  {M : Mem} {r : (Int32 × Mem)}  (h : f_X0_goOn  M = some r) : Mt l x false yX0_goOn cX0_goOn 4 (some FieldType.boolean) 1 0 0 [.ref (x.2.2.1 + 141), .ref (x.2.2.1 + 57)] LAY M (pI r.1 r.2) := by
  refine mt_of (L0 := [some (.ref (x.2.2.1 + 141)), some (.ref (x.2.2.1 + 57)), none, none]) (by decide +kernel) rfl (Nat.le_of_ble_eq_true rfl) (lvA_of 2 rfl) ?_
  unfold f_X0_goOn at h
  refine e_iconst (v := 1) aX0_goOn_0 (by decide) ?_
  refine e_istore_n (L2 := [some (.ref (x.2.2.1 + 141)), some (.ref (x.2.2.1 + 57)), some (.int 1), none]) aX0_goOn_1 ⟨by decide, rfl⟩ rfl ?_
  refine w_X0_goOn_2 l x  (fun i2_1 M2 h => ?_) FU _ _ h
  refine e_iconst (v := 0) aX0_goOn_82 (by decide) ?_
  exact e_retI aX0_goOn_83 rfl (by decide +kernel) (pI_of h)
def s_X0_ways_21  (M : Mem) (k : Int32 → Option (Int32 × Mem)) (rec : Int32 → Option (Int32 × Mem)) (i3 : Int32) : Option (Int32 × Mem) :=
  if M 141 4 ≤ i3 then
    k i3
  else
    if i3 < 0 ∨ 6 ≤ i3.toNatClampNeg then none else
    if 0 ≤ M 144 i3.toNatClampNeg then
      rec (i3 + 1)
    else
      some (0, M)
def f_X0_ways_21  (M : Mem) (k : Int32 → Option (Int32 × Mem)) : Nat → Int32 → Option (Int32 × Mem)
  | 0 => fun _ => none
  | n + 1 => fun i3 => s_X0_ways_21  M k (f_X0_ways_21  M k n) i3
set_option maxRecDepth 100000 in
set_option maxHeartbeats 4000000 in
theorem w_X0_ways_21 (l : Launch) (x : WX)  {M : Mem} {k : Int32 → Option (Int32 × Mem)} {r : (Int32 × Mem)}  (K : ∀ (i3 : Int32), k i3 = some r → Ev l x false cX0_ways RX0 (some FieldType.int) 5 3 0 0 (pI r.1 r.2) 46 [some (.ref (x.2.2.1 + 141)), some (.ref (x.2.2.1 + 1)), some (.ref (x.2.2.1 + 57)), some (.int i3), none] [] LAY M) : ∀ (n : Nat) (i3 : Int32), f_X0_ways_21  M k n i3 = some r → Ev l x false cX0_ways RX0 (some FieldType.int) 5 3 0 0 (pI r.1 r.2) 21 [some (.ref (x.2.2.1 + 141)), some (.ref (x.2.2.1 + 1)), some (.ref (x.2.2.1 + 57)), some (.int i3), none] [] LAY M := by
  intro n
  induction n with
  | zero =>
    intro i3 h
    exact nomatch (show (none : Option (Int32 × Mem)) = some r from h)
  | succ n ih =>
    intro i3 h
    have h : s_X0_ways_21  M k (f_X0_ways_21  M k n) i3 = some r := h
    unfold s_X0_ways_21 at h
    refine e_iload_n aX0_ways_21 rfl ?_
    refine e_aload_n aX0_ways_22 rfl ?_
    refine e_getI aX0_ways_23 fX0_25 ly_141 rfl ?_
    rcases of_ite h with ⟨hc1, h⟩ | ⟨hc1, h⟩
    · refine e_icmp_ge (tgt := 46) aX0_ways_26 (by decide) (fun _ => ?_) (fun q => absurd hc1 q)
      exact K _ h
    · refine e_icmp_ge (tgt := 46) aX0_ways_26 (by decide) (fun q => absurd q hc1) (fun _ => ?_)
      refine e_aload_n aX0_ways_29 rfl ?_
      refine e_getR (r := 144) aX0_ways_30 fX0_18 ly_141 rfl ?_
      refine e_iload_n aX0_ways_33 rfl ?_
      obtain ⟨hg2, h⟩ := of_guard h
      refine e_iald aX0_ways_34 ly_144 hg2 ?_
      rcases of_ite h with ⟨hc3, h⟩ | ⟨hc3, h⟩
      · refine e_if_ge (tgt := 40) aX0_ways_35 (by decide) (fun _ => ?_) (fun q => absurd hc3 q)
        refine e_iinc (v := i3 + 1) (L2 := [some (.ref (x.2.2.1 + 141)), some (.ref (x.2.2.1 + 1)), some (.ref (x.2.2.1 + 57)), some (.int (i3 + 1)), none]) aX0_ways_40 rfl rfl ⟨by decide, rfl⟩ rfl ?_
        refine e_goto (tgt := 21) aX0_ways_43 (by decide) ?_
        exact ih _ h
      · refine e_if_ge (tgt := 40) aX0_ways_35 (by decide) (fun q => absurd q hc3) (fun _ => ?_)
        refine e_iconst (v := 0) aX0_ways_38 (by decide) ?_
        exact e_retI aX0_ways_39 rfl rfl (pI_of h)
def s_X0_ways_65  (k : Int32 → Int32 → Mem → Option (Int32 × Mem)) (rec : Int32 → Int32 → Mem → Option (Int32 × Mem)) (i3 : Int32) (i4 : Int32) (M : Mem) : Option (Int32 × Mem) :=
  if 9999 ≤ i4 then
    k i3 i4 M
  else
    if 9999 ≤ i3 then
      k i3 i4 M
    else
      if (0 : Int32) < 0 ∨ 36 ≤ (0 : Int32).toNatClampNeg then none else
      if M 142 (0 : Int32).toNatClampNeg < 0 ∨ 36 ≤ (M 142 (0 : Int32).toNatClampNeg).toNatClampNeg then none else
      (f_X0_howOftenFits (59 + (M 142 (0 : Int32).toNatClampNeg).toNatClampNeg) M).bind fun (r5 : Int32) =>
      lt (i3 + (1 + r5)) fun (v6 : Int32) =>
      (f_X0_goOn M).bind fun (q7 : Int32 × Mem) =>
      if q7.1 = 0 then
        k v6 i4 q7.2
      else
        rec v6 (i4 + 1) q7.2
def f_X0_ways_65  (k : Int32 → Int32 → Mem → Option (Int32 × Mem)) : Nat → Int32 → Int32 → Mem → Option (Int32 × Mem)
  | 0 => fun _ _ _ => none
  | n + 1 => fun i3 i4 M => s_X0_ways_65  k (f_X0_ways_65  k n) i3 i4 M
set_option maxRecDepth 100000 in
set_option maxHeartbeats 4000000 in
theorem w_X0_ways_65 (l : Launch) (x : WX)  {k : Int32 → Int32 → Mem → Option (Int32 × Mem)} {r : (Int32 × Mem)}  (K : ∀ (i3 : Int32) (i4 : Int32) (M : Mem), k i3 i4 M = some r → Ev l x false cX0_ways RX0 (some FieldType.int) 5 3 0 0 (pI r.1 r.2) 117 [some (.ref (x.2.2.1 + 141)), some (.ref (x.2.2.1 + 1)), some (.ref (x.2.2.1 + 57)), some (.int i3), some (.int i4)] [] LAY M) : ∀ (n : Nat) (i3 : Int32) (i4 : Int32) (M : Mem), f_X0_ways_65  k n i3 i4 M = some r → Ev l x false cX0_ways RX0 (some FieldType.int) 5 3 0 0 (pI r.1 r.2) 65 [some (.ref (x.2.2.1 + 141)), some (.ref (x.2.2.1 + 1)), some (.ref (x.2.2.1 + 57)), some (.int i3), some (.int i4)] [] LAY M := by
  intro n
  induction n with
  | zero =>
    intro i3 i4 M h
    exact nomatch (show (none : Option (Int32 × Mem)) = some r from h)
  | succ n ih =>
    intro i3 i4 M h
    have h : s_X0_ways_65  k (f_X0_ways_65  k n) i3 i4 M = some r := h
    unfold s_X0_ways_65 at h
    refine e_iload aX0_ways_65 rfl ?_
    refine e_sipush (v := 9999) aX0_ways_67 (by decide) ?_
    rcases of_ite h with ⟨hc1, h⟩ | ⟨hc1, h⟩
    · refine e_icmp_ge (tgt := 117) aX0_ways_70 (by decide) (fun _ => ?_) (fun q => absurd hc1 q)
      exact K _ _ _ h
    · refine e_icmp_ge (tgt := 117) aX0_ways_70 (by decide) (fun q => absurd q hc1) (fun _ => ?_)
      refine e_iload_n aX0_ways_73 rfl ?_
      refine e_sipush (v := 9999) aX0_ways_74 (by decide) ?_
      rcases of_ite h with ⟨hc2, h⟩ | ⟨hc2, h⟩
      · refine e_icmp_ge (tgt := 117) aX0_ways_77 (by decide) (fun _ => ?_) (fun q => absurd hc2 q)
        exact K _ _ _ h
      · refine e_icmp_ge (tgt := 117) aX0_ways_77 (by decide) (fun q => absurd q hc2) (fun _ => ?_)
        refine e_iload_n aX0_ways_80 rfl ?_
        refine e_iconst (v := 1) aX0_ways_81 (by decide) ?_
        refine e_aload_n aX0_ways_82 rfl ?_
        refine e_aload_n aX0_ways_83 rfl ?_
        refine e_getR (r := 58) aX0_ways_84 fX0_42 ly_57 rfl ?_
        refine e_aload_n aX0_ways_87 rfl ?_
        refine e_getR (r := 142) aX0_ways_88 fX0_9 ly_141 rfl ?_
        refine e_iconst (v := 0) aX0_ways_91 (by decide) ?_
        obtain ⟨hg3, h⟩ := of_guard h
        refine e_iald aX0_ways_92 ly_142 hg3 ?_
        obtain ⟨hg4, h⟩ := of_guard h
        refine e_aald aX0_ways_93 ly_58 (by decide) hg4 (ra_R _ (ix_lt hg4)) ?_
        obtain ⟨r5, hr5, h⟩ := of_bind h
        refine e_VI [.int 1, .int i3] aX0_ways_94 co_X0_howOftenFits mX0_48 ly_141 rfl rfl (c_X0_howOftenFits l x (rr_R _ (ix_lt hg4)) hr5) rfl ⟨by decide, by decide⟩ (Nat.le_of_ble_eq_true rfl) rfl ?_
        refine e_iadd aX0_ways_97 ?_
        refine e_iadd aX0_ways_98 ?_
        obtain ⟨v6, ev6, h⟩ := of_lt h
        refine e_nameI ev6 ?_
        refine e_istore_n (L2 := [some (.ref (x.2.2.1 + 141)), some (.ref (x.2.2.1 + 1)), some (.ref (x.2.2.1 + 57)), some (.int v6), some (.int i4)]) aX0_ways_99 ⟨by decide, rfl⟩ rfl ?_
        refine e_aload_n aX0_ways_100 rfl ?_
        refine e_aload_n aX0_ways_101 rfl ?_
        obtain ⟨q7, hq7, h⟩ := of_bind h
        refine e_VI [] aX0_ways_102 co_X0_goOn mX0_52 ly_141 rfl rfl (c_X0_goOn l x hq7) rfl ⟨by decide, by decide⟩ (Nat.le_of_ble_eq_true rfl) rfl ?_
        rcases of_ite h with ⟨hc8, h⟩ | ⟨hc8, h⟩
        · refine e_if_ne (tgt := 111) aX0_ways_105 (by decide) (fun q => absurd hc8 q) (fun _ => ?_)
          refine e_goto (tgt := 117) aX0_ways_108 (by decide) ?_
          exact K _ _ _ h
        · refine e_if_ne (tgt := 111) aX0_ways_105 (by decide) (fun _ => ?_) (fun q => absurd q hc8)
          refine e_iinc (v := i4 + 1) (L2 := [some (.ref (x.2.2.1 + 141)), some (.ref (x.2.2.1 + 1)), some (.ref (x.2.2.1 + 57)), some (.int v6), some (.int (i4 + 1))]) aX0_ways_111 rfl rfl ⟨by decide, rfl⟩ rfl ?_
          refine e_goto (tgt := 65) aX0_ways_114 (by decide) ?_
          exact ih _ _ _ h
def f_X0_ways  (M : Mem) : Option (Int32 × Mem) :=
  lt (um M 141 4 (M 1 0)) fun (M1 : Mem) =>
  (f_X7_copyRow 4 144 M1).bind fun (M2 : Mem) =>
  f_X0_ways_21  M2 (fun (i3_3 : Int32) =>
    (f_X0_chooseRoots M2).bind fun (M4 : Mem) =>
    if M4 141 3 = 0 then
      some (1, M4)
    else
      f_X0_ways_65  (fun (i3_6 : Int32) (i4_7 : Int32) (M8 : Mem) =>
        some (mn i3_6 9999, M8)) FU 0 0 M4) FU 0
set_option maxRecDepth 100000 in
set_option maxHeartbeats 4000000 in
theorem c_X0_ways (l : Launch) (x : WX)  {M : Mem} {r : (Int32 × Mem)}  (h : f_X0_ways  M = some r) : Mt l x false yX0_ways cX0_ways 5 (some FieldType.int) 3 0 0 [.ref (x.2.2.1 + 141), .ref (x.2.2.1 + 1), .ref (x.2.2.1 + 57)] LAY M (pI r.1 r.2) := by
  refine mt_of (L0 := [some (.ref (x.2.2.1 + 141)), some (.ref (x.2.2.1 + 1)), some (.ref (x.2.2.1 + 57)), none, none]) (by decide +kernel) rfl (Nat.le_of_ble_eq_true rfl) (lvA_of 2 rfl) ?_
  unfold f_X0_ways at h
  refine e_aload_n aX0_ways_0 rfl ?_
  refine e_aload_n aX0_ways_1 rfl ?_
  refine e_getI aX0_ways_2 fX0_28 ly_1 rfl ?_
  obtain ⟨M1, eM1, h⟩ := of_lt h
  refine e_put aX0_ways_5 qX0_25 ly_141 rfl (fi_of _) eM1 ?_
  refine e_aload_n aX0_ways_8 rfl ?_
  refine e_getR (r := 4) aX0_ways_9 fX0_31 ly_1 rfl ?_
  refine e_aload_n aX0_ways_12 rfl ?_
  refine e_getR (r := 144) aX0_ways_13 fX0_18 ly_141 rfl ?_
  obtain ⟨M2, hM2, h⟩ := of_bind h
  refine e_NV [] aX0_ways_16 co_X7_copyRow mX0_34 (c_X7_copyRow l x ly_4 ly_144 hM2) rfl ⟨by decide, by decide⟩ (Nat.le_of_ble_eq_true rfl) rfl ?_
  refine e_iconst (v := 0) aX0_ways_19 (by decide) ?_
  refine e_istore_n (L2 := [some (.ref (x.2.2.1 + 141)), some (.ref (x.2.2.1 + 1)), some (.ref (x.2.2.1 + 57)), some (.int 0), none]) aX0_ways_20 ⟨by decide, rfl⟩ rfl ?_
  refine w_X0_ways_21 l x  (fun i3_3 h => ?_) FU _ h
  refine e_aload_n aX0_ways_46 rfl ?_
  refine e_aload_n aX0_ways_47 rfl ?_
  obtain ⟨M4, hM4, h⟩ := of_bind h
  refine e_VV [] aX0_ways_48 co_X0_chooseRoots mX0_38 ly_141 rfl rfl (c_X0_chooseRoots l x hM4) rfl ⟨by decide, by decide⟩ (Nat.le_of_ble_eq_true rfl) rfl ?_
  refine e_aload_n aX0_ways_51 rfl ?_
  refine e_getI aX0_ways_52 fX0_21 ly_141 rfl ?_
  rcases of_ite h with ⟨hc5, h⟩ | ⟨hc5, h⟩
  · refine e_if_ne (tgt := 60) aX0_ways_55 (by decide) (fun q => absurd hc5 q) (fun _ => ?_)
    refine e_iconst (v := 1) aX0_ways_58 (by decide) ?_
    exact e_retI aX0_ways_59 rfl rfl (pI_of h)
  · refine e_if_ne (tgt := 60) aX0_ways_55 (by decide) (fun _ => ?_) (fun q => absurd q hc5)
    refine e_iconst (v := 0) aX0_ways_60 (by decide) ?_
    refine e_istore_n (L2 := [some (.ref (x.2.2.1 + 141)), some (.ref (x.2.2.1 + 1)), some (.ref (x.2.2.1 + 57)), some (.int 0), none]) aX0_ways_61 ⟨by decide, rfl⟩ rfl ?_
    refine e_iconst (v := 0) aX0_ways_62 (by decide) ?_
    refine e_istore (L2 := [some (.ref (x.2.2.1 + 141)), some (.ref (x.2.2.1 + 1)), some (.ref (x.2.2.1 + 57)), some (.int 0), some (.int 0)]) aX0_ways_63 ⟨by decide, rfl⟩ rfl ?_
    refine w_X0_ways_65 l x  (fun i3_6 i4_7 M8 h => ?_) FU _ _ _ h
    refine e_iload_n aX0_ways_117 rfl ?_
    refine e_sipush (v := 9999) aX0_ways_118 (by decide) ?_
    refine e_min aX0_ways_121 mX0_56 (by decide) (Nat.le_of_ble_eq_true rfl) ?_
    exact e_retI aX0_ways_124 rfl rfl (pI_of h)
def f_X1_forget  (M : Mem) : Option Mem :=
  lt (um M 9 2 0) fun (M1 : Mem) =>
  some M1
set_option maxRecDepth 100000 in
set_option maxHeartbeats 4000000 in
theorem c_X1_forget (l : Launch) (x : WX)  {M : Mem} {r : Mem}  (h : f_X1_forget  M = some r) : Mt l x false yX1_forget cX1_forget 1 none 0 0 0 [.ref (x.2.2.1 + 9)] LAY M (pV r) := by
  refine mt_of (L0 := [some (.ref (x.2.2.1 + 9))]) (by decide +kernel) rfl (Nat.le_of_ble_eq_true rfl) (lvA_of 0 rfl) ?_
  unfold f_X1_forget at h
  refine e_aload_n aX1_forget_0 rfl ?_
  refine e_iconst (v := 0) aX1_forget_1 (by decide) ?_
  obtain ⟨M1, eM1, h⟩ := of_lt h
  refine e_put aX1_forget_2 qX1_21 ly_9 rfl (fi_of _) eM1 ?_
  exact e_ret0 aX1_forget_5 rfl (pV_of h)
def f_X1_remember  (M : Mem) : Option Mem :=
  if M 9 1 < 0 ∨ 8 ≤ (M 9 1).toNatClampNeg then none else
  (f_X2_become (11 + 4 * (M 9 1).toNatClampNeg) 1 M).bind fun (M2 : Mem) =>
  if M2 9 1 = 7 then
    lt (um M2 9 1 0) fun (M6 : Mem) =>
    lt (um M6 9 2 (mn ((M6 9 2) + 1) 8)) fun (M7 : Mem) =>
    some M7
  else
    lt (um M2 9 1 ((M2 9 1) + 1)) fun (M4 : Mem) =>
    lt (um M4 9 2 (mn ((M4 9 2) + 1) 8)) fun (M5 : Mem) =>
    some M5
set_option maxRecDepth 100000 in
set_option maxHeartbeats 4000000 in
theorem c_X1_remember (l : Launch) (x : WX)  {M : Mem} {r : Mem}  (h : f_X1_remember  M = some r) : Mt l x false yX1_remember cX1_remember 2 none 3 0 0 [.ref (x.2.2.1 + 9), .ref (x.2.2.1 + 1)] LAY M (pV r) := by
  refine mt_of (L0 := [some (.ref (x.2.2.1 + 9)), some (.ref (x.2.2.1 + 1))]) (by decide +kernel) rfl (Nat.le_of_ble_eq_true rfl) (lvA_of 0 rfl) ?_
  unfold f_X1_remember at h
  refine e_aload_n aX1_remember_0 rfl ?_
  refine e_getR (r := 10) aX1_remember_1 fX1_11 ly_9 rfl ?_
  refine e_aload_n aX1_remember_4 rfl ?_
  refine e_getI aX1_remember_5 fX1_17 ly_9 rfl ?_
  obtain ⟨hg1, h⟩ := of_guard h
  refine e_aald aX1_remember_8 ly_10 (by decide) hg1 (ra_S _ (ix_lt hg1)) ?_
  refine e_aload_n aX1_remember_9 rfl ?_
  obtain ⟨M2, hM2, h⟩ := of_bind h
  refine e_VV [] aX1_remember_10 co_X2_become mX1_25 (qa_S _ (ix_lt hg1)).1 rfl rfl (c_X2_become l x (qa_S _ (ix_lt hg1)) qa_1 hM2) rfl ⟨by decide, by decide⟩ (Nat.le_of_ble_eq_true rfl) rfl ?_
  refine e_aload_n aX1_remember_13 rfl ?_
  refine e_aload_n aX1_remember_14 rfl ?_
  refine e_getI aX1_remember_15 fX1_17 ly_9 rfl ?_
  refine e_bipush (v := 7) aX1_remember_18 (by decide) ?_
  rcases of_ite h with ⟨hc3, h⟩ | ⟨hc3, h⟩
  · refine e_icmp_ne (tgt := 27) aX1_remember_20 (by decide) (fun q => absurd hc3 q) (fun _ => ?_)
    refine e_iconst (v := 0) aX1_remember_23 (by decide) ?_
    refine e_goto (tgt := 33) aX1_remember_24 (by decide) ?_
    obtain ⟨M6, eM6, h⟩ := of_lt h
    refine e_put aX1_remember_33 qX1_17 ly_9 rfl (fi_of _) eM6 ?_
    refine e_aload_n aX1_remember_36 rfl ?_
    refine e_aload_n aX1_remember_37 rfl ?_
    refine e_getI aX1_remember_38 fX1_21 ly_9 rfl ?_
    refine e_iconst (v := 1) aX1_remember_41 (by decide) ?_
    refine e_iadd aX1_remember_42 ?_
    refine e_bipush (v := 8) aX1_remember_43 (by decide) ?_
    refine e_min aX1_remember_45 mX1_29 (by decide) (Nat.le_of_ble_eq_true rfl) ?_
    obtain ⟨M7, eM7, h⟩ := of_lt h
    refine e_put aX1_remember_48 qX1_21 ly_9 rfl (fi_of _) eM7 ?_
    exact e_ret0 aX1_remember_51 rfl (pV_of h)
  · refine e_icmp_ne (tgt := 27) aX1_remember_20 (by decide) (fun _ => ?_) (fun q => absurd q hc3)
    refine e_aload_n aX1_remember_27 rfl ?_
    refine e_getI aX1_remember_28 fX1_17 ly_9 rfl ?_
    refine e_iconst (v := 1) aX1_remember_31 (by decide) ?_
    refine e_iadd aX1_remember_32 ?_
    obtain ⟨M4, eM4, h⟩ := of_lt h
    refine e_put aX1_remember_33 qX1_17 ly_9 rfl (fi_of _) eM4 ?_
    refine e_aload_n aX1_remember_36 rfl ?_
    refine e_aload_n aX1_remember_37 rfl ?_
    refine e_getI aX1_remember_38 fX1_21 ly_9 rfl ?_
    refine e_iconst (v := 1) aX1_remember_41 (by decide) ?_
    refine e_iadd aX1_remember_42 ?_
    refine e_bipush (v := 8) aX1_remember_43 (by decide) ?_
    refine e_min aX1_remember_45 mX1_29 (by decide) (Nat.le_of_ble_eq_true rfl) ?_
    obtain ⟨M5, eM5, h⟩ := of_lt h
    refine e_put aX1_remember_48 qX1_21 ly_9 rfl (fi_of _) eM5 ?_
    exact e_ret0 aX1_remember_51 rfl (pV_of h)
def f_X1_recall  (M : Mem) : Option Mem :=
  if M 9 1 = 0 then
    lt (um M 9 1 7) fun (M6 : Mem) =>
    lt (um M6 9 2 ((M6 9 2) - 1)) fun (M7 : Mem) =>
    if M7 9 1 < 0 ∨ 8 ≤ (M7 9 1).toNatClampNeg then none else
    (f_X2_become 1 (11 + 4 * (M7 9 1).toNatClampNeg) M7).bind fun (M9 : Mem) =>
    some M9
  else
    lt (um M 9 1 ((M 9 1) - 1)) fun (M2 : Mem) =>
    lt (um M2 9 2 ((M2 9 2) - 1)) fun (M3 : Mem) =>
    if M3 9 1 < 0 ∨ 8 ≤ (M3 9 1).toNatClampNeg then none else
    (f_X2_become 1 (11 + 4 * (M3 9 1).toNatClampNeg) M3).bind fun (M5 : Mem) =>
    some M5
set_option maxRecDepth 100000 in
set_option maxHeartbeats 4000000 in
theorem c_X1_recall (l : Launch) (x : WX)  {M : Mem} {r : Mem}  (h : f_X1_recall  M = some r) : Mt l x false yX1_recall cX1_recall 2 none 3 0 0 [.ref (x.2.2.1 + 9), .ref (x.2.2.1 + 1)] LAY M (pV r) := by
  refine mt_of (L0 := [some (.ref (x.2.2.1 + 9)), some (.ref (x.2.2.1 + 1))]) (by decide +kernel) rfl (Nat.le_of_ble_eq_true rfl) (lvA_of 0 rfl) ?_
  unfold f_X1_recall at h
  refine e_aload_n aX1_recall_0 rfl ?_
  refine e_aload_n aX1_recall_1 rfl ?_
  refine e_getI aX1_recall_2 fX1_17 ly_9 rfl ?_
  rcases of_ite h with ⟨hc1, h⟩ | ⟨hc1, h⟩
  · refine e_if_ne (tgt := 13) aX1_recall_5 (by decide) (fun q => absurd hc1 q) (fun _ => ?_)
    refine e_bipush (v := 7) aX1_recall_8 (by decide) ?_
    refine e_goto (tgt := 19) aX1_recall_10 (by decide) ?_
    obtain ⟨M6, eM6, h⟩ := of_lt h
    refine e_put aX1_recall_19 qX1_17 ly_9 rfl (fi_of _) eM6 ?_
    refine e_aload_n aX1_recall_22 rfl ?_
    refine e_dupR aX1_recall_23 ?_
    refine e_getI aX1_recall_24 fX1_21 ly_9 rfl ?_
    refine e_iconst (v := 1) aX1_recall_27 (by decide) ?_
    refine e_isub aX1_recall_28 ?_
    obtain ⟨M7, eM7, h⟩ := of_lt h
    refine e_put aX1_recall_29 qX1_21 ly_9 rfl (fi_of _) eM7 ?_
    refine e_aload_n aX1_recall_32 rfl ?_
    refine e_aload_n aX1_recall_33 rfl ?_
    refine e_getR (r := 10) aX1_recall_34 fX1_11 ly_9 rfl ?_
    refine e_aload_n aX1_recall_37 rfl ?_
    refine e_getI aX1_recall_38 fX1_17 ly_9 rfl ?_
    obtain ⟨hg8, h⟩ := of_guard h
    refine e_aald aX1_recall_41 ly_10 (by decide) hg8 (ra_S _ (ix_lt hg8)) ?_
    obtain ⟨M9, hM9, h⟩ := of_bind h
    refine e_VV [] aX1_recall_42 co_X2_become mX1_25 ly_1 rfl rfl (c_X2_become l x qa_1 (qa_S _ (ix_lt hg8)) hM9) rfl ⟨by decide, by decide⟩ (Nat.le_of_ble_eq_true rfl) rfl ?_
    exact e_ret0 aX1_recall_45 rfl (pV_of h)
  · refine e_if_ne (tgt := 13) aX1_recall_5 (by decide) (fun _ => ?_) (fun q => absurd q hc1)
    refine e_aload_n aX1_recall_13 rfl ?_
    refine e_getI aX1_recall_14 fX1_17 ly_9 rfl ?_
    refine e_iconst (v := 1) aX1_recall_17 (by decide) ?_
    refine e_isub aX1_recall_18 ?_
    obtain ⟨M2, eM2, h⟩ := of_lt h
    refine e_put aX1_recall_19 qX1_17 ly_9 rfl (fi_of _) eM2 ?_
    refine e_aload_n aX1_recall_22 rfl ?_
    refine e_dupR aX1_recall_23 ?_
    refine e_getI aX1_recall_24 fX1_21 ly_9 rfl ?_
    refine e_iconst (v := 1) aX1_recall_27 (by decide) ?_
    refine e_isub aX1_recall_28 ?_
    obtain ⟨M3, eM3, h⟩ := of_lt h
    refine e_put aX1_recall_29 qX1_21 ly_9 rfl (fi_of _) eM3 ?_
    refine e_aload_n aX1_recall_32 rfl ?_
    refine e_aload_n aX1_recall_33 rfl ?_
    refine e_getR (r := 10) aX1_recall_34 fX1_11 ly_9 rfl ?_
    refine e_aload_n aX1_recall_37 rfl ?_
    refine e_getI aX1_recall_38 fX1_17 ly_9 rfl ?_
    obtain ⟨hg4, h⟩ := of_guard h
    refine e_aald aX1_recall_41 ly_10 (by decide) hg4 (ra_S _ (ix_lt hg4)) ?_
    obtain ⟨M5, hM5, h⟩ := of_bind h
    refine e_VV [] aX1_recall_42 co_X2_become mX1_25 ly_1 rfl rfl (c_X2_become l x qa_1 (qa_S _ (ix_lt hg4)) hM5) rfl ⟨by decide, by decide⟩ (Nat.le_of_ble_eq_true rfl) rfl ?_
    exact e_ret0 aX1_recall_45 rfl (pV_of h)
def f_X3_codeOf (i0 : Int32) (i1 : Int32) (M : Mem) : Option Int32 :=
  some (i1 * (1 <<< ((4 * (5 - i0)) &&& 31)))
set_option maxRecDepth 100000 in
set_option maxHeartbeats 4000000 in
theorem c_X3_codeOf (l : Launch) (x : WX) {i0 : Int32} {i1 : Int32} {M : Mem} {r : Int32}  (h : f_X3_codeOf i0 i1 M = some r) : Mt l x false yX3_codeOf cX3_codeOf 2 (some FieldType.int) 0 0 0 [.int i0, .int i1] LAY M (pI r M) := by
  refine mt_of (L0 := [some (.int i0), some (.int i1)]) (by decide +kernel) rfl (Nat.le_of_ble_eq_true rfl) (lvA_of 0 rfl) ?_
  unfold f_X3_codeOf at h
  refine e_iload_n aX3_codeOf_0 rfl ?_
  refine e_iconst (v := 1) aX3_codeOf_1 (by decide) ?_
  refine e_iconst (v := 4) aX3_codeOf_2 (by decide) ?_
  refine e_iconst (v := 5) aX3_codeOf_3 (by decide) ?_
  refine e_iload_n aX3_codeOf_4 rfl ?_
  refine e_isub aX3_codeOf_5 ?_
  refine e_imul aX3_codeOf_6 ?_
  refine e_ishl aX3_codeOf_7 ?_
  refine e_imul aX3_codeOf_8 ?_
  exact e_retI aX3_codeOf_9 rfl rfl (pI_ro h)
def s_X3_beginWithPoints_14 (i1 : Int32) (i2 : Int32) (k : Int32 → Mem → Option Mem) (rec : Int32 → Mem → Option Mem) (i3 : Int32) (M : Mem) : Option Mem :=
  if 6 ≤ i3 then
    k i3 M
  else
    if i2 < 0 ∨ 36 ≤ i2.toNatClampNeg then none else
    if i3 = i2 then
      if i3 < 0 ∨ 6 ≤ i3.toNatClampNeg then none else
      lt (um M (101 + i2.toNatClampNeg) i3.toNatClampNeg 1) fun (M7 : Mem) =>
      rec (i3 + 1) M7
    else
      if i3 < 0 ∨ 6 ≤ i3.toNatClampNeg then none else
      lt (um M (101 + i2.toNatClampNeg) i3.toNatClampNeg 0) fun (M5 : Mem) =>
      rec (i3 + 1) M5
def f_X3_beginWithPoints_14 (i1 : Int32) (i2 : Int32) (k : Int32 → Mem → Option Mem) : Nat → Int32 → Mem → Option Mem
  | 0 => fun _ _ => none
  | n + 1 => fun i3 M => s_X3_beginWithPoints_14 i1 i2 k (f_X3_beginWithPoints_14 i1 i2 k n) i3 M
set_option maxRecDepth 100000 in
set_option maxHeartbeats 4000000 in
theorem w_X3_beginWithPoints_14 (l : Launch) (x : WX) {i1 : Int32} {i2 : Int32} {k : Int32 → Mem → Option Mem} {r : Mem}  (K : ∀ (i3 : Int32) (M : Mem), k i3 M = some r → Ev l x false cX3_beginWithPoints RX3 none 4 1 0 0 (pV r) 44 [some (.ref (x.2.2.1 + 57)), some (.int i1), some (.int i2), some (.int i3)] [] LAY M) : ∀ (n : Nat) (i3 : Int32) (M : Mem), f_X3_beginWithPoints_14 i1 i2 k n i3 M = some r → Ev l x false cX3_beginWithPoints RX3 none 4 1 0 0 (pV r) 14 [some (.ref (x.2.2.1 + 57)), some (.int i1), some (.int i2), some (.int i3)] [] LAY M := by
  intro n
  induction n with
  | zero =>
    intro i3 M h
    exact nomatch (show (none : Option Mem) = some r from h)
  | succ n ih =>
    intro i3 M h
    have h : s_X3_beginWithPoints_14 i1 i2 k (f_X3_beginWithPoints_14 i1 i2 k n) i3 M = some r := h
    unfold s_X3_beginWithPoints_14 at h
    refine e_iload_n aX3_beginWithPoints_14 rfl ?_
    refine e_bipush (v := 6) aX3_beginWithPoints_15 (by decide) ?_
    rcases of_ite h with ⟨hc1, h⟩ | ⟨hc1, h⟩
    · refine e_icmp_ge (tgt := 44) aX3_beginWithPoints_17 (by decide) (fun _ => ?_) (fun q => absurd hc1 q)
      exact K _ _ h
    · refine e_icmp_ge (tgt := 44) aX3_beginWithPoints_17 (by decide) (fun q => absurd q hc1) (fun _ => ?_)
      refine e_aload_n aX3_beginWithPoints_20 rfl ?_
      refine e_getR (r := 100) aX3_beginWithPoints_21 fX3_40 ly_57 rfl ?_
      refine e_iload_n aX3_beginWithPoints_24 rfl ?_
      obtain ⟨hg2, h⟩ := of_guard h
      refine e_aald aX3_beginWithPoints_25 ly_100 (by decide) hg2 (ra_D _ (ix_lt hg2)) ?_
      refine e_iload_n aX3_beginWithPoints_26 rfl ?_
      refine e_iload_n aX3_beginWithPoints_27 rfl ?_
      refine e_iload_n aX3_beginWithPoints_28 rfl ?_
      rcases of_ite h with ⟨hc3, h⟩ | ⟨hc3, h⟩
      · refine e_icmp_ne (tgt := 36) aX3_beginWithPoints_29 (by decide) (fun q => absurd hc3 q) (fun _ => ?_)
        refine e_iconst (v := 1) aX3_beginWithPoints_32 (by decide) ?_
        refine e_goto (tgt := 37) aX3_beginWithPoints_33 (by decide) ?_
        obtain ⟨hg6, h⟩ := of_guard h
        obtain ⟨M7, eM7, h⟩ := of_lt h
        refine e_ist aX3_beginWithPoints_37 (rr_D _ (ix_lt hg2)) hg6 eM7 ?_
        refine e_iinc (v := i3 + 1) (L2 := [some (.ref (x.2.2.1 + 57)), some (.int i1), some (.int i2), some (.int (i3 + 1))]) aX3_beginWithPoints_38 rfl rfl ⟨by decide, rfl⟩ rfl ?_
        refine e_goto (tgt := 14) aX3_beginWithPoints_41 (by decide) ?_
        exact ih _ _ h
      · refine e_icmp_ne (tgt := 36) aX3_beginWithPoints_29 (by decide) (fun _ => ?_) (fun q => absurd q hc3)
        refine e_iconst (v := 0) aX3_beginWithPoints_36 (by decide) ?_
        obtain ⟨hg4, h⟩ := of_guard h
        obtain ⟨M5, eM5, h⟩ := of_lt h
        refine e_ist aX3_beginWithPoints_37 (rr_D _ (ix_lt hg2)) hg4 eM5 ?_
        refine e_iinc (v := i3 + 1) (L2 := [some (.ref (x.2.2.1 + 57)), some (.int i1), some (.int i2), some (.int (i3 + 1))]) aX3_beginWithPoints_38 rfl rfl ⟨by decide, rfl⟩ rfl ?_
        refine e_goto (tgt := 14) aX3_beginWithPoints_41 (by decide) ?_
        exact ih _ _ h
def s_X3_beginWithPoints_7 (i1 : Int32) (k : Int32 → Mem → Option Mem) (rec : Int32 → Mem → Option Mem) (i2 : Int32) (M : Mem) : Option Mem :=
  if i1 ≤ i2 then
    k i2 M
  else
    f_X3_beginWithPoints_14 i1 i2 (fun (i3_2 : Int32) (M3 : Mem) =>
      (f_X3_codeOf i2 1 M3).bind fun (r4 : Int32) =>
      if i2 < 0 ∨ 36 ≤ i2.toNatClampNeg then none else
      lt (um M3 137 i2.toNatClampNeg r4) fun (M6 : Mem) =>
      if i2 < 0 ∨ 36 ≤ i2.toNatClampNeg then none else
      lt (um M6 138 i2.toNatClampNeg 1) fun (M8 : Mem) =>
      rec (i2 + 1) M8) FU 0 M
def f_X3_beginWithPoints_7 (i1 : Int32) (k : Int32 → Mem → Option Mem) : Nat → Int32 → Mem → Option Mem
  | 0 => fun _ _ => none
  | n + 1 => fun i2 M => s_X3_beginWithPoints_7 i1 k (f_X3_beginWithPoints_7 i1 k n) i2 M
set_option maxRecDepth 100000 in
set_option maxHeartbeats 4000000 in
theorem w_X3_beginWithPoints_7 (l : Launch) (x : WX) {i1 : Int32} {k : Int32 → Mem → Option Mem} {r : Mem}  (K : ∀ (i2 : Int32) (M : Mem), k i2 M = some r → Ev l x false cX3_beginWithPoints RX3 none 4 1 0 0 (pV r) 68 [some (.ref (x.2.2.1 + 57)), some (.int i1), some (.int i2), none] [] LAY M) : ∀ (n : Nat) (i2 : Int32) (M : Mem), f_X3_beginWithPoints_7 i1 k n i2 M = some r → Ev l x false cX3_beginWithPoints RX3 none 4 1 0 0 (pV r) 7 [some (.ref (x.2.2.1 + 57)), some (.int i1), some (.int i2), none] [] LAY M := by
  intro n
  induction n with
  | zero =>
    intro i2 M h
    exact nomatch (show (none : Option Mem) = some r from h)
  | succ n ih =>
    intro i2 M h
    have h : s_X3_beginWithPoints_7 i1 k (f_X3_beginWithPoints_7 i1 k n) i2 M = some r := h
    unfold s_X3_beginWithPoints_7 at h
    refine e_iload_n aX3_beginWithPoints_7 rfl ?_
    refine e_iload_n aX3_beginWithPoints_8 rfl ?_
    rcases of_ite h with ⟨hc1, h⟩ | ⟨hc1, h⟩
    · refine e_icmp_ge (tgt := 68) aX3_beginWithPoints_9 (by decide) (fun _ => ?_) (fun q => absurd hc1 q)
      exact K _ _ h
    · refine e_icmp_ge (tgt := 68) aX3_beginWithPoints_9 (by decide) (fun q => absurd q hc1) (fun _ => ?_)
      refine e_iconst (v := 0) aX3_beginWithPoints_12 (by decide) ?_
      refine e_istore_n (L2 := [some (.ref (x.2.2.1 + 57)), some (.int i1), some (.int i2), some (.int 0)]) aX3_beginWithPoints_13 ⟨by decide, rfl⟩ rfl ?_
      refine w_X3_beginWithPoints_14 l x  (fun i3_2 M3 h => ?_) FU _ _ h
      refine e_aload_n aX3_beginWithPoints_44 rfl ?_
      refine e_getR (r := 137) aX3_beginWithPoints_45 fX3_43 ly_57 rfl ?_
      refine e_iload_n aX3_beginWithPoints_48 rfl ?_
      refine e_iload_n aX3_beginWithPoints_49 rfl ?_
      refine e_iconst (v := 1) aX3_beginWithPoints_50 (by decide) ?_
      obtain ⟨r4, hr4, h⟩ := of_bind h
      refine e_SI [.int i2, .ref (x.2.2.1 + 137)] aX3_beginWithPoints_51 co_X3_codeOf mX3_86 (c_X3_codeOf l x hr4) rfl ⟨by decide, by decide⟩ (Nat.le_of_ble_eq_true rfl) rfl ?_
      obtain ⟨hg5, h⟩ := of_guard h
      obtain ⟨M6, eM6, h⟩ := of_lt h
      refine e_ist aX3_beginWithPoints_54 ly_137 hg5 eM6 ?_
      refine e_aload_n aX3_beginWithPoints_55 rfl ?_
      refine e_getR (r := 138) aX3_beginWithPoints_56 fX3_46 ly_57 rfl ?_
      refine e_iload_n aX3_beginWithPoints_59 rfl ?_
      refine e_iconst (v := 1) aX3_beginWithPoints_60 (by decide) ?_
      obtain ⟨hg7, h⟩ := of_guard h
      obtain ⟨M8, eM8, h⟩ := of_lt h
      refine e_ist aX3_beginWithPoints_61 ly_138 hg7 eM8 ?_
      refine e_iinc (v := i2 + 1) (L2 := [some (.ref (x.2.2.1 + 57)), some (.int i1), some (.int (i2 + 1)), some (.int i3_2)]) aX3_beginWithPoints_62 rfl rfl ⟨by decide, rfl⟩ rfl ?_
      refine e_goto (tgt := 7) aX3_beginWithPoints_65 (by decide) ?_
      refine e_drop 3 (L2 := [some (.ref (x.2.2.1 + 57)), some (.int i1), some (.int (i2 + 1)), none]) rfl ?_
      exact ih _ _ h
def f_X3_beginWithPoints (i1 : Int32) (M : Mem) : Option Mem :=
  lt (um M 57 1 i1) fun (M1 : Mem) =>
  f_X3_beginWithPoints_7 i1 (fun (i2_2 : Int32) (M3 : Mem) =>
    some M3) FU 0 M1
set_option maxRecDepth 100000 in
set_option maxHeartbeats 4000000 in
theorem c_X3_beginWithPoints (l : Launch) (x : WX) {i1 : Int32} {M : Mem} {r : Mem}  (h : f_X3_beginWithPoints i1 M = some r) : Mt l x false yX3_beginWithPoints cX3_beginWithPoints 4 none 1 0 0 [.ref (x.2.2.1 + 57), .int i1] LAY M (pV r) := by
  refine mt_of (L0 := [some (.ref (x.2.2.1 + 57)), some (.int i1), none, none]) (by decide +kernel) rfl (Nat.le_of_ble_eq_true rfl) (lvA_of 2 rfl) ?_
  unfold f_X3_beginWithPoints at h
  refine e_aload_n aX3_beginWithPoints_0 rfl ?_
  refine e_iload_n aX3_beginWithPoints_1 rfl ?_
  obtain ⟨M1, eM1, h⟩ := of_lt h
  refine e_put aX3_beginWithPoints_2 qX3_15 ly_57 rfl (fi_of _) eM1 ?_
  refine e_iconst (v := 0) aX3_beginWithPoints_5 (by decide) ?_
  refine e_istore_n (L2 := [some (.ref (x.2.2.1 + 57)), some (.int i1), some (.int 0), none]) aX3_beginWithPoints_6 ⟨by decide, rfl⟩ rfl ?_
  refine w_X3_beginWithPoints_7 l x  (fun i2_2 M3 h => ?_) FU _ _ h
  exact e_ret0 aX3_beginWithPoints_68 rfl (pV_of h)
def s_X3_isFound_2 (i1 : Int32) (M : Mem) (k : Int32 → Option Int32) (rec : Int32 → Option Int32) (i2 : Int32) : Option Int32 :=
  if M 57 1 ≤ i2 then
    k i2
  else
    if i2 < 0 ∨ 36 ≤ i2.toNatClampNeg then none else
    if M 137 i2.toNatClampNeg = i1 then
      some 1
    else
      rec (i2 + 1)
def f_X3_isFound_2 (i1 : Int32) (M : Mem) (k : Int32 → Option Int32) : Nat → Int32 → Option Int32
  | 0 => fun _ => none
  | n + 1 => fun i2 => s_X3_isFound_2 i1 M k (f_X3_isFound_2 i1 M k n) i2
set_option maxRecDepth 100000 in
set_option maxHeartbeats 4000000 in
theorem w_X3_isFound_2 (l : Launch) (x : WX) {i1 : Int32} {M : Mem} {k : Int32 → Option Int32} {r : Int32}  (K : ∀ (i2 : Int32), k i2 = some r → Ev l x false cX3_isFound RX3 (some FieldType.boolean) 3 0 0 0 (pI r M) 28 [some (.ref (x.2.2.1 + 57)), some (.int i1), some (.int i2)] [] LAY M) : ∀ (n : Nat) (i2 : Int32), f_X3_isFound_2 i1 M k n i2 = some r → Ev l x false cX3_isFound RX3 (some FieldType.boolean) 3 0 0 0 (pI r M) 2 [some (.ref (x.2.2.1 + 57)), some (.int i1), some (.int i2)] [] LAY M := by
  intro n
  induction n with
  | zero =>
    intro i2 h
    exact nomatch (show (none : Option Int32) = some r from h)
  | succ n ih =>
    intro i2 h
    have h : s_X3_isFound_2 i1 M k (f_X3_isFound_2 i1 M k n) i2 = some r := h
    unfold s_X3_isFound_2 at h
    refine e_iload_n aX3_isFound_2 rfl ?_
    refine e_aload_n aX3_isFound_3 rfl ?_
    refine e_getI aX3_isFound_4 fX3_15 ly_57 rfl ?_
    rcases of_ite h with ⟨hc1, h⟩ | ⟨hc1, h⟩
    · refine e_icmp_ge (tgt := 28) aX3_isFound_7 (by decide) (fun _ => ?_) (fun q => absurd hc1 q)
      exact K _ h
    · refine e_icmp_ge (tgt := 28) aX3_isFound_7 (by decide) (fun q => absurd q hc1) (fun _ => ?_)
      refine e_aload_n aX3_isFound_10 rfl ?_
      refine e_getR (r := 137) aX3_isFound_11 fX3_43 ly_57 rfl ?_
      refine e_iload_n aX3_isFound_14 rfl ?_
      obtain ⟨hg2, h⟩ := of_guard h
      refine e_iald aX3_isFound_15 ly_137 hg2 ?_
      refine e_iload_n aX3_isFound_16 rfl ?_
      rcases of_ite h with ⟨hc3, h⟩ | ⟨hc3, h⟩
      · refine e_icmp_ne (tgt := 22) aX3_isFound_17 (by decide) (fun q => absurd hc3 q) (fun _ => ?_)
        refine e_iconst (v := 1) aX3_isFound_20 (by decide) ?_
        exact e_retI aX3_isFound_21 rfl (by decide +kernel) (pI_ro h)
      · refine e_icmp_ne (tgt := 22) aX3_isFound_17 (by decide) (fun _ => ?_) (fun q => absurd q hc3)
        refine e_iinc (v := i2 + 1) (L2 := [some (.ref (x.2.2.1 + 57)), some (.int i1), some (.int (i2 + 1))]) aX3_isFound_22 rfl rfl ⟨by decide, rfl⟩ rfl ?_
        refine e_goto (tgt := 2) aX3_isFound_25 (by decide) ?_
        exact ih _ h
def f_X3_isFound (i1 : Int32) (M : Mem) : Option Int32 :=
  f_X3_isFound_2 i1 M (fun (i2_1 : Int32) =>
    some 0) FU 0
set_option maxRecDepth 100000 in
set_option maxHeartbeats 4000000 in
theorem c_X3_isFound (l : Launch) (x : WX) {i1 : Int32} {M : Mem} {r : Int32}  (h : f_X3_isFound i1 M = some r) : Mt l x false yX3_isFound cX3_isFound 3 (some FieldType.boolean) 0 0 0 [.ref (x.2.2.1 + 57), .int i1] LAY M (pI r M) := by
  refine mt_of (L0 := [some (.ref (x.2.2.1 + 57)), some (.int i1), none]) (by decide +kernel) rfl (Nat.le_of_ble_eq_true rfl) (lvA_of 1 rfl) ?_
  unfold f_X3_isFound at h
  refine e_iconst (v := 0) aX3_isFound_0 (by decide) ?_
  refine e_istore_n (L2 := [some (.ref (x.2.2.1 + 57)), some (.int i1), some (.int 0)]) aX3_isFound_1 ⟨by decide, rfl⟩ rfl ?_
  refine w_X3_isFound_2 l x  (fun i2_1 h => ?_) FU _ h
  refine e_iconst (v := 0) aX3_isFound_28 (by decide) ?_
  exact e_retI aX3_isFound_29 rfl (by decide +kernel) (pI_ro h)
def f_X3_takeIn (i1 : Int32) (i2 : Int32) (i3 : Int32) (M : Mem) : Option (Int32 × Mem) :=
  if i1 < 0 ∨ 36 ≤ i1.toNatClampNeg then none else
  if i2 < 0 ∨ 6 ≤ i2.toNatClampNeg then none else
  lt (i3 - (M (101 + i1.toNatClampNeg) i2.toNatClampNeg)) fun (v3 : Int32) =>
  if i1 < 0 ∨ 36 ≤ i1.toNatClampNeg then none else
  (f_X3_codeOf i2 v3 M).bind fun (r5 : Int32) =>
  lt ((M 137 i1.toNatClampNeg) + r5) fun (v6 : Int32) =>
  (f_X3_isFound v6 M).bind fun (r7 : Int32) =>
  if r7 = 0 then
    if M 57 1 < 36 then
      if i1 < 0 ∨ 36 ≤ i1.toNatClampNeg then none else
      if M 57 1 < 0 ∨ 36 ≤ (M 57 1).toNatClampNeg then none else
      (f_X7_copyRow (101 + i1.toNatClampNeg) (101 + (M 57 1).toNatClampNeg) M).bind fun (M12 : Mem) =>
      if M12 57 1 < 0 ∨ 36 ≤ (M12 57 1).toNatClampNeg then none else
      if i2 < 0 ∨ 6 ≤ i2.toNatClampNeg then none else
      lt (um M12 (101 + (M12 57 1).toNatClampNeg) i2.toNatClampNeg i3) fun (M15 : Mem) =>
      if M15 57 1 < 0 ∨ 36 ≤ (M15 57 1).toNatClampNeg then none else
      lt (um M15 137 (M15 57 1).toNatClampNeg v6) fun (M17 : Mem) =>
      if i1 < 0 ∨ 36 ≤ i1.toNatClampNeg then none else
      if M17 57 1 < 0 ∨ 36 ≤ (M17 57 1).toNatClampNeg then none else
      lt (um M17 138 (M17 57 1).toNatClampNeg ((M17 138 i1.toNatClampNeg) + v3)) fun (M20 : Mem) =>
      lt (um M20 57 1 ((M20 57 1) + 1)) fun (M21 : Mem) =>
      some (1, M21)
    else
      some (0, M)
  else
    some (1, M)
set_option maxRecDepth 100000 in
set_option maxHeartbeats 4000000 in
theorem c_X3_takeIn (l : Launch) (x : WX) {i1 : Int32} {i2 : Int32} {i3 : Int32} {M : Mem} {r : (Int32 × Mem)}  (h : f_X3_takeIn i1 i2 i3 M = some r) : Mt l x false yX3_takeIn cX3_takeIn 6 (some FieldType.boolean) 2 0 0 [.ref (x.2.2.1 + 57), .int i1, .int i2, .int i3] LAY M (pI r.1 r.2) := by
  refine mt_of (L0 := [some (.ref (x.2.2.1 + 57)), some (.int i1), some (.int i2), some (.int i3), none, none]) (by decide +kernel) rfl (Nat.le_of_ble_eq_true rfl) (lvA_of 2 rfl) ?_
  unfold f_X3_takeIn at h
  refine e_iload_n aX3_takeIn_0 rfl ?_
  refine e_aload_n aX3_takeIn_1 rfl ?_
  refine e_getR (r := 100) aX3_takeIn_2 fX3_40 ly_57 rfl ?_
  refine e_iload_n aX3_takeIn_5 rfl ?_
  obtain ⟨hg1, h⟩ := of_guard h
  refine e_aald aX3_takeIn_6 ly_100 (by decide) hg1 (ra_D _ (ix_lt hg1)) ?_
  refine e_iload_n aX3_takeIn_7 rfl ?_
  obtain ⟨hg2, h⟩ := of_guard h
  refine e_iald aX3_takeIn_8 (rr_D _ (ix_lt hg1)) hg2 ?_
  refine e_isub aX3_takeIn_9 ?_
  obtain ⟨v3, ev3, h⟩ := of_lt h
  refine e_nameI ev3 ?_
  refine e_istore (L2 := [some (.ref (x.2.2.1 + 57)), some (.int i1), some (.int i2), some (.int i3), some (.int v3), none]) aX3_takeIn_10 ⟨by decide, rfl⟩ rfl ?_
  refine e_aload_n aX3_takeIn_12 rfl ?_
  refine e_getR (r := 137) aX3_takeIn_13 fX3_43 ly_57 rfl ?_
  refine e_iload_n aX3_takeIn_16 rfl ?_
  obtain ⟨hg4, h⟩ := of_guard h
  refine e_iald aX3_takeIn_17 ly_137 hg4 ?_
  refine e_iload_n aX3_takeIn_18 rfl ?_
  refine e_iload aX3_takeIn_19 rfl ?_
  obtain ⟨r5, hr5, h⟩ := of_bind h
  refine e_SI [.int (M 137 i1.toNatClampNeg)] aX3_takeIn_21 co_X3_codeOf mX3_86 (c_X3_codeOf l x hr5) rfl ⟨by decide, by decide⟩ (Nat.le_of_ble_eq_true rfl) rfl ?_
  refine e_iadd aX3_takeIn_24 ?_
  obtain ⟨v6, ev6, h⟩ := of_lt h
  refine e_nameI ev6 ?_
  refine e_istore (L2 := [some (.ref (x.2.2.1 + 57)), some (.int i1), some (.int i2), some (.int i3), some (.int v3), some (.int v6)]) aX3_takeIn_25 ⟨by decide, rfl⟩ rfl ?_
  refine e_aload_n aX3_takeIn_27 rfl ?_
  refine e_iload aX3_takeIn_28 rfl ?_
  obtain ⟨r7, hr7, h⟩ := of_bind h
  refine e_VI [] aX3_takeIn_30 co_X3_isFound mX3_90 ly_57 rfl rfl (c_X3_isFound l x hr7) rfl ⟨by decide, by decide⟩ (Nat.le_of_ble_eq_true rfl) rfl ?_
  rcases of_ite h with ⟨hc8, h⟩ | ⟨hc8, h⟩
  · refine e_if_eq (tgt := 38) aX3_takeIn_33 (by decide) (fun _ => ?_) (fun q => absurd hc8 q)
    refine e_aload_n aX3_takeIn_38 rfl ?_
    refine e_getI aX3_takeIn_39 fX3_15 ly_57 rfl ?_
    refine e_bipush (v := 36) aX3_takeIn_42 (by decide) ?_
    rcases of_ite h with ⟨hc9, h⟩ | ⟨hc9, h⟩
    · refine e_icmp_lt (tgt := 49) aX3_takeIn_44 (by decide) (fun _ => ?_) (fun q => absurd hc9 q)
      refine e_aload_n aX3_takeIn_49 rfl ?_
      refine e_getR (r := 100) aX3_takeIn_50 fX3_40 ly_57 rfl ?_
      refine e_iload_n aX3_takeIn_53 rfl ?_
      obtain ⟨hg10, h⟩ := of_guard h
      refine e_aald aX3_takeIn_54 ly_100 (by decide) hg10 (ra_D _ (ix_lt hg10)) ?_
      refine e_aload_n aX3_takeIn_55 rfl ?_
      refine e_getR (r := 100) aX3_takeIn_56 fX3_40 ly_57 rfl ?_
      refine e_aload_n aX3_takeIn_59 rfl ?_
      refine e_getI aX3_takeIn_60 fX3_15 ly_57 rfl ?_
      obtain ⟨hg11, h⟩ := of_guard h
      refine e_aald aX3_takeIn_63 ly_100 (by decide) hg11 (ra_D _ (ix_lt hg11)) ?_
      obtain ⟨M12, hM12, h⟩ := of_bind h
      refine e_NV [] aX3_takeIn_64 co_X7_copyRow mX3_94 (c_X7_copyRow l x (rr_D _ (ix_lt hg10)) (rr_D _ (ix_lt hg11)) hM12) rfl ⟨by decide, by decide⟩ (Nat.le_of_ble_eq_true rfl) rfl ?_
      refine e_aload_n aX3_takeIn_67 rfl ?_
      refine e_getR (r := 100) aX3_takeIn_68 fX3_40 ly_57 rfl ?_
      refine e_aload_n aX3_takeIn_71 rfl ?_
      refine e_getI aX3_takeIn_72 fX3_15 ly_57 rfl ?_
      obtain ⟨hg13, h⟩ := of_guard h
      refine e_aald aX3_takeIn_75 ly_100 (by decide) hg13 (ra_D _ (ix_lt hg13)) ?_
      refine e_iload_n aX3_takeIn_76 rfl ?_
      refine e_iload_n aX3_takeIn_77 rfl ?_
      obtain ⟨hg14, h⟩ := of_guard h
      obtain ⟨M15, eM15, h⟩ := of_lt h
      refine e_ist aX3_takeIn_78 (rr_D _ (ix_lt hg13)) hg14 eM15 ?_
      refine e_aload_n aX3_takeIn_79 rfl ?_
      refine e_getR (r := 137) aX3_takeIn_80 fX3_43 ly_57 rfl ?_
      refine e_aload_n aX3_takeIn_83 rfl ?_
      refine e_getI aX3_takeIn_84 fX3_15 ly_57 rfl ?_
      refine e_iload aX3_takeIn_87 rfl ?_
      obtain ⟨hg16, h⟩ := of_guard h
      obtain ⟨M17, eM17, h⟩ := of_lt h
      refine e_ist aX3_takeIn_89 ly_137 hg16 eM17 ?_
      refine e_aload_n aX3_takeIn_90 rfl ?_
      refine e_getR (r := 138) aX3_takeIn_91 fX3_46 ly_57 rfl ?_
      refine e_aload_n aX3_takeIn_94 rfl ?_
      refine e_getI aX3_takeIn_95 fX3_15 ly_57 rfl ?_
      refine e_aload_n aX3_takeIn_98 rfl ?_
      refine e_getR (r := 138) aX3_takeIn_99 fX3_46 ly_57 rfl ?_
      refine e_iload_n aX3_takeIn_102 rfl ?_
      obtain ⟨hg18, h⟩ := of_guard h
      refine e_iald aX3_takeIn_103 ly_138 hg18 ?_
      refine e_iload aX3_takeIn_104 rfl ?_
      refine e_iadd aX3_takeIn_106 ?_
      obtain ⟨hg19, h⟩ := of_guard h
      obtain ⟨M20, eM20, h⟩ := of_lt h
      refine e_ist aX3_takeIn_107 ly_138 hg19 eM20 ?_
      refine e_aload_n aX3_takeIn_108 rfl ?_
      refine e_dupR aX3_takeIn_109 ?_
      refine e_getI aX3_takeIn_110 fX3_15 ly_57 rfl ?_
      refine e_iconst (v := 1) aX3_takeIn_113 (by decide) ?_
      refine e_iadd aX3_takeIn_114 ?_
      obtain ⟨M21, eM21, h⟩ := of_lt h
      refine e_put aX3_takeIn_115 qX3_15 ly_57 rfl (fi_of _) eM21 ?_
      refine e_iconst (v := 1) aX3_takeIn_118 (by decide) ?_
      exact e_retI aX3_takeIn_119 rfl (by decide +kernel) (pI_of h)
    · refine e_icmp_lt (tgt := 49) aX3_takeIn_44 (by decide) (fun q => absurd q hc9) (fun _ => ?_)
      refine e_iconst (v := 0) aX3_takeIn_47 (by decide) ?_
      exact e_retI aX3_takeIn_48 rfl (by decide +kernel) (pI_of h)
  · refine e_if_eq (tgt := 38) aX3_takeIn_33 (by decide) (fun q => absurd q hc8) (fun _ => ?_)
    refine e_iconst (v := 1) aX3_takeIn_36 (by decide) ?_
    exact e_retI aX3_takeIn_37 rfl (by decide +kernel) (pI_of h)
def s_X3_search_26 (i2 : Int32) (k : Int32 → Mem → Option (Int32 × Mem)) (rec : Int32 → Mem → Option (Int32 × Mem)) (i3 : Int32) (M : Mem) : Option (Int32 × Mem) :=
  if M 1 0 ≤ i3 then
    k i3 M
  else
    if i2 < 0 ∨ 36 ≤ i2.toNatClampNeg then none else
    (f_X2_turnedAbout 1 (101 + i2.toNatClampNeg) i3 M).bind fun (r3 : Int32) =>
    if r3 ≤ 9 then
      if r3 < 0 then
        rec (i3 + 1) M
      else
        (f_X3_takeIn i2 i3 r3 M).bind fun (q6 : Int32 × Mem) =>
        if q6.1 = 0 then
          some (0, q6.2)
        else
          rec (i3 + 1) q6.2
    else
      some (0, M)
def f_X3_search_26 (i2 : Int32) (k : Int32 → Mem → Option (Int32 × Mem)) : Nat → Int32 → Mem → Option (Int32 × Mem)
  | 0 => fun _ _ => none
  | n + 1 => fun i3 M => s_X3_search_26 i2 k (f_X3_search_26 i2 k n) i3 M
set_option maxRecDepth 100000 in
set_option maxHeartbeats 4000000 in
theorem w_X3_search_26 (l : Launch) (x : WX) {i2 : Int32} {k : Int32 → Mem → Option (Int32 × Mem)} {r : (Int32 × Mem)}  (K : ∀ (i3 : Int32) (M : Mem), k i3 M = some r → Ev l x false cX3_search RX3 (some FieldType.boolean) 5 3 0 0 (pI r.1 r.2) 80 [some (.ref (x.2.2.1 + 57)), some (.ref (x.2.2.1 + 1)), some (.int i2), some (.int i3), none] [] LAY M) : ∀ (n : Nat) (i3 : Int32) (M : Mem), f_X3_search_26 i2 k n i3 M = some r → Ev l x false cX3_search RX3 (some FieldType.boolean) 5 3 0 0 (pI r.1 r.2) 26 [some (.ref (x.2.2.1 + 57)), some (.ref (x.2.2.1 + 1)), some (.int i2), some (.int i3), none] [] LAY M := by
  intro n
  induction n with
  | zero =>
    intro i3 M h
    exact nomatch (show (none : Option (Int32 × Mem)) = some r from h)
  | succ n ih =>
    intro i3 M h
    have h : s_X3_search_26 i2 k (f_X3_search_26 i2 k n) i3 M = some r := h
    unfold s_X3_search_26 at h
    refine e_iload_n aX3_search_26 rfl ?_
    refine e_aload_n aX3_search_27 rfl ?_
    refine e_getI aX3_search_28 fX3_70 ly_1 rfl ?_
    rcases of_ite h with ⟨hc1, h⟩ | ⟨hc1, h⟩
    · refine e_icmp_ge (tgt := 80) aX3_search_31 (by decide) (fun _ => ?_) (fun q => absurd hc1 q)
      exact K _ _ h
    · refine e_icmp_ge (tgt := 80) aX3_search_31 (by decide) (fun q => absurd q hc1) (fun _ => ?_)
      refine e_aload_n aX3_search_34 rfl ?_
      refine e_aload_n aX3_search_35 rfl ?_
      refine e_getR (r := 100) aX3_search_36 fX3_40 ly_57 rfl ?_
      refine e_iload_n aX3_search_39 rfl ?_
      obtain ⟨hg2, h⟩ := of_guard h
      refine e_aald aX3_search_40 ly_100 (by decide) hg2 (ra_D _ (ix_lt hg2)) ?_
      refine e_iload_n aX3_search_41 rfl ?_
      obtain ⟨r3, hr3, h⟩ := of_bind h
      refine e_VI [] aX3_search_42 co_X2_turnedAbout mX3_78 ly_1 rfl rfl (c_X2_turnedAbout l x qa_1 (rr_D _ (ix_lt hg2)) hr3) rfl ⟨by decide, by decide⟩ (Nat.le_of_ble_eq_true rfl) rfl ?_
      refine e_istore (L2 := [some (.ref (x.2.2.1 + 57)), some (.ref (x.2.2.1 + 1)), some (.int i2), some (.int i3), some (.int r3)]) aX3_search_45 ⟨by decide, rfl⟩ rfl ?_
      refine e_iload aX3_search_47 rfl ?_
      refine e_bipush (v := 9) aX3_search_49 (by decide) ?_
      rcases of_ite h with ⟨hc4, h⟩ | ⟨hc4, h⟩
      · refine e_icmp_le (tgt := 56) aX3_search_51 (by decide) (fun _ => ?_) (fun q => absurd hc4 q)
        refine e_iload aX3_search_56 rfl ?_
        rcases of_ite h with ⟨hc5, h⟩ | ⟨hc5, h⟩
        · refine e_if_lt (tgt := 74) aX3_search_58 (by decide) (fun _ => ?_) (fun q => absurd hc5 q)
          refine e_iinc (v := i3 + 1) (L2 := [some (.ref (x.2.2.1 + 57)), some (.ref (x.2.2.1 + 1)), some (.int i2), some (.int (i3 + 1)), some (.int r3)]) aX3_search_74 rfl rfl ⟨by decide, rfl⟩ rfl ?_
          refine e_goto (tgt := 26) aX3_search_77 (by decide) ?_
          refine e_drop 4 (L2 := [some (.ref (x.2.2.1 + 57)), some (.ref (x.2.2.1 + 1)), some (.int i2), some (.int (i3 + 1)), none]) rfl ?_
          exact ih _ _ h
        · refine e_if_lt (tgt := 74) aX3_search_58 (by decide) (fun q => absurd q hc5) (fun _ => ?_)
          refine e_aload_n aX3_search_61 rfl ?_
          refine e_iload_n aX3_search_62 rfl ?_
          refine e_iload_n aX3_search_63 rfl ?_
          refine e_iload aX3_search_64 rfl ?_
          obtain ⟨q6, hq6, h⟩ := of_bind h
          refine e_VI [] aX3_search_66 co_X3_takeIn mX3_82 ly_57 rfl rfl (c_X3_takeIn l x hq6) rfl ⟨by decide, by decide⟩ (Nat.le_of_ble_eq_true rfl) rfl ?_
          rcases of_ite h with ⟨hc7, h⟩ | ⟨hc7, h⟩
          · refine e_if_ne (tgt := 74) aX3_search_69 (by decide) (fun q => absurd hc7 q) (fun _ => ?_)
            refine e_iconst (v := 0) aX3_search_72 (by decide) ?_
            exact e_retI aX3_search_73 rfl (by decide +kernel) (pI_of h)
          · refine e_if_ne (tgt := 74) aX3_search_69 (by decide) (fun _ => ?_) (fun q => absurd q hc7)
            refine e_iinc (v := i3 + 1) (L2 := [some (.ref (x.2.2.1 + 57)), some (.ref (x.2.2.1 + 1)), some (.int i2), some (.int (i3 + 1)), some (.int r3)]) aX3_search_74 rfl rfl ⟨by decide, rfl⟩ rfl ?_
            refine e_goto (tgt := 26) aX3_search_77 (by decide) ?_
            refine e_drop 4 (L2 := [some (.ref (x.2.2.1 + 57)), some (.ref (x.2.2.1 + 1)), some (.int i2), some (.int (i3 + 1)), none]) rfl ?_
            exact ih _ _ h
      · refine e_icmp_le (tgt := 56) aX3_search_51 (by decide) (fun q => absurd q hc4) (fun _ => ?_)
        refine e_iconst (v := 0) aX3_search_54 (by decide) ?_
        exact e_retI aX3_search_55 rfl (by decide +kernel) (pI_of h)
def s_X3_search_10  (k : Int32 → Mem → Option (Int32 × Mem)) (rec : Int32 → Mem → Option (Int32 × Mem)) (i2 : Int32) (M : Mem) : Option (Int32 × Mem) :=
  if M 57 1 ≤ i2 then
    k i2 M
  else
    if 36 ≤ i2 then
      k i2 M
    else
      f_X3_search_26 i2 (fun (i3_3 : Int32) (M4 : Mem) =>
        rec (i2 + 1) M4) FU 0 M
def f_X3_search_10  (k : Int32 → Mem → Option (Int32 × Mem)) : Nat → Int32 → Mem → Option (Int32 × Mem)
  | 0 => fun _ _ => none
  | n + 1 => fun i2 M => s_X3_search_10  k (f_X3_search_10  k n) i2 M
set_option maxRecDepth 100000 in
set_option maxHeartbeats 4000000 in
theorem w_X3_search_10 (l : Launch) (x : WX)  {k : Int32 → Mem → Option (Int32 × Mem)} {r : (Int32 × Mem)}  (K : ∀ (i2 : Int32) (M : Mem), k i2 M = some r → Ev l x false cX3_search RX3 (some FieldType.boolean) 5 3 0 0 (pI r.1 r.2) 86 [some (.ref (x.2.2.1 + 57)), some (.ref (x.2.2.1 + 1)), some (.int i2), none, none] [] LAY M) : ∀ (n : Nat) (i2 : Int32) (M : Mem), f_X3_search_10  k n i2 M = some r → Ev l x false cX3_search RX3 (some FieldType.boolean) 5 3 0 0 (pI r.1 r.2) 10 [some (.ref (x.2.2.1 + 57)), some (.ref (x.2.2.1 + 1)), some (.int i2), none, none] [] LAY M := by
  intro n
  induction n with
  | zero =>
    intro i2 M h
    exact nomatch (show (none : Option (Int32 × Mem)) = some r from h)
  | succ n ih =>
    intro i2 M h
    have h : s_X3_search_10  k (f_X3_search_10  k n) i2 M = some r := h
    unfold s_X3_search_10 at h
    refine e_iload_n aX3_search_10 rfl ?_
    refine e_aload_n aX3_search_11 rfl ?_
    refine e_getI aX3_search_12 fX3_15 ly_57 rfl ?_
    rcases of_ite h with ⟨hc1, h⟩ | ⟨hc1, h⟩
    · refine e_icmp_ge (tgt := 86) aX3_search_15 (by decide) (fun _ => ?_) (fun q => absurd hc1 q)
      exact K _ _ h
    · refine e_icmp_ge (tgt := 86) aX3_search_15 (by decide) (fun q => absurd q hc1) (fun _ => ?_)
      refine e_iload_n aX3_search_18 rfl ?_
      refine e_bipush (v := 36) aX3_search_19 (by decide) ?_
      rcases of_ite h with ⟨hc2, h⟩ | ⟨hc2, h⟩
      · refine e_icmp_ge (tgt := 86) aX3_search_21 (by decide) (fun _ => ?_) (fun q => absurd hc2 q)
        exact K _ _ h
      · refine e_icmp_ge (tgt := 86) aX3_search_21 (by decide) (fun q => absurd q hc2) (fun _ => ?_)
        refine e_iconst (v := 0) aX3_search_24 (by decide) ?_
        refine e_istore_n (L2 := [some (.ref (x.2.2.1 + 57)), some (.ref (x.2.2.1 + 1)), some (.int i2), some (.int 0), none]) aX3_search_25 ⟨by decide, rfl⟩ rfl ?_
        refine w_X3_search_26 l x  (fun i3_3 M4 h => ?_) FU _ _ h
        refine e_iinc (v := i2 + 1) (L2 := [some (.ref (x.2.2.1 + 57)), some (.ref (x.2.2.1 + 1)), some (.int (i2 + 1)), some (.int i3_3), none]) aX3_search_80 rfl rfl ⟨by decide, rfl⟩ rfl ?_
        refine e_goto (tgt := 10) aX3_search_83 (by decide) ?_
        refine e_drop 3 (L2 := [some (.ref (x.2.2.1 + 57)), some (.ref (x.2.2.1 + 1)), some (.int (i2 + 1)), none, none]) rfl ?_
        exact ih _ _ h
def f_X3_search  (M : Mem) : Option (Int32 × Mem) :=
  (f_X3_beginWithPoints (M 1 0) M).bind fun (M1 : Mem) =>
  f_X3_search_10  (fun (i2_2 : Int32) (M3 : Mem) =>
    some (1, M3)) FU 0 M1
set_option maxRecDepth 100000 in
set_option maxHeartbeats 4000000 in
theorem c_X3_search (l : Launch) (x : WX)  {M : Mem} {r : (Int32 × Mem)}  (h : f_X3_search  M = some r) : Mt l x false yX3_search cX3_search 5 (some FieldType.boolean) 3 0 0 [.ref (x.2.2.1 + 57), .ref (x.2.2.1 + 1)] LAY M (pI r.1 r.2) := by
  refine mt_of (L0 := [some (.ref (x.2.2.1 + 57)), some (.ref (x.2.2.1 + 1)), none, none, none]) (by decide +kernel) rfl (Nat.le_of_ble_eq_true rfl) (lvA_of 3 rfl) ?_
  unfold f_X3_search at h
  refine e_aload_n aX3_search_0 rfl ?_
  refine e_aload_n aX3_search_1 rfl ?_
  refine e_getI aX3_search_2 fX3_70 ly_1 rfl ?_
  obtain ⟨M1, hM1, h⟩ := of_bind h
  refine e_VV [] aX3_search_5 co_X3_beginWithPoints mX3_75 ly_57 rfl rfl (c_X3_beginWithPoints l x hM1) rfl ⟨by decide, by decide⟩ (Nat.le_of_ble_eq_true rfl) rfl ?_
  refine e_iconst (v := 0) aX3_search_8 (by decide) ?_
  refine e_istore_n (L2 := [some (.ref (x.2.2.1 + 57)), some (.ref (x.2.2.1 + 1)), some (.int 0), none, none]) aX3_search_9 ⟨by decide, rfl⟩ rfl ?_
  refine w_X3_search_10 l x  (fun i2_2 M3 h => ?_) FU _ _ h
  refine e_iconst (v := 1) aX3_search_86 (by decide) ?_
  exact e_retI aX3_search_87 rfl (by decide +kernel) (pI_of h)
def f_X3_isAhead (i1 : Int32) (i2 : Int32) (M : Mem) : Option Int32 :=
  if i1 < 0 ∨ 36 ≤ i1.toNatClampNeg then none else
  if i2 < 0 ∨ 36 ≤ i2.toNatClampNeg then none else
  if M 138 i1.toNatClampNeg = M 138 i2.toNatClampNeg then
    if i1 < 0 ∨ 36 ≤ i1.toNatClampNeg then none else
    if i2 < 0 ∨ 36 ≤ i2.toNatClampNeg then none else
    if M 137 i1.toNatClampNeg ≤ M 137 i2.toNatClampNeg then
      some 0
    else
      some 1
  else
    if i1 < 0 ∨ 36 ≤ i1.toNatClampNeg then none else
    if i2 < 0 ∨ 36 ≤ i2.toNatClampNeg then none else
    if M 138 i2.toNatClampNeg ≤ M 138 i1.toNatClampNeg then
      some 0
    else
      some 1
set_option maxRecDepth 100000 in
set_option maxHeartbeats 4000000 in
theorem c_X3_isAhead (l : Launch) (x : WX) {i1 : Int32} {i2 : Int32} {M : Mem} {r : Int32}  (h : f_X3_isAhead i1 i2 M = some r) : Mt l x false yX3_isAhead cX3_isAhead 3 (some FieldType.boolean) 0 0 0 [.ref (x.2.2.1 + 57), .int i1, .int i2] LAY M (pI r M) := by
  refine mt_of (L0 := [some (.ref (x.2.2.1 + 57)), some (.int i1), some (.int i2)]) (by decide +kernel) rfl (Nat.le_of_ble_eq_true rfl) (lvA_of 0 rfl) ?_
  unfold f_X3_isAhead at h
  refine e_aload_n aX3_isAhead_0 rfl ?_
  refine e_getR (r := 138) aX3_isAhead_1 fX3_46 ly_57 rfl ?_
  refine e_iload_n aX3_isAhead_4 rfl ?_
  obtain ⟨hg1, h⟩ := of_guard h
  refine e_iald aX3_isAhead_5 ly_138 hg1 ?_
  refine e_aload_n aX3_isAhead_6 rfl ?_
  refine e_getR (r := 138) aX3_isAhead_7 fX3_46 ly_57 rfl ?_
  refine e_iload_n aX3_isAhead_10 rfl ?_
  obtain ⟨hg2, h⟩ := of_guard h
  refine e_iald aX3_isAhead_11 ly_138 hg2 ?_
  rcases of_ite h with ⟨hc3, h⟩ | ⟨hc3, h⟩
  · refine e_icmp_eq (tgt := 36) aX3_isAhead_12 (by decide) (fun _ => ?_) (fun q => absurd hc3 q)
    refine e_aload_n aX3_isAhead_36 rfl ?_
    refine e_getR (r := 137) aX3_isAhead_37 fX3_43 ly_57 rfl ?_
    refine e_iload_n aX3_isAhead_40 rfl ?_
    obtain ⟨hg4, h⟩ := of_guard h
    refine e_iald aX3_isAhead_41 ly_137 hg4 ?_
    refine e_aload_n aX3_isAhead_42 rfl ?_
    refine e_getR (r := 137) aX3_isAhead_43 fX3_43 ly_57 rfl ?_
    refine e_iload_n aX3_isAhead_46 rfl ?_
    obtain ⟨hg5, h⟩ := of_guard h
    refine e_iald aX3_isAhead_47 ly_137 hg5 ?_
    rcases of_ite h with ⟨hc6, h⟩ | ⟨hc6, h⟩
    · refine e_icmp_le (tgt := 55) aX3_isAhead_48 (by decide) (fun _ => ?_) (fun q => absurd hc6 q)
      refine e_iconst (v := 0) aX3_isAhead_55 (by decide) ?_
      exact e_retI aX3_isAhead_56 rfl (by decide +kernel) (pI_ro h)
    · refine e_icmp_le (tgt := 55) aX3_isAhead_48 (by decide) (fun q => absurd q hc6) (fun _ => ?_)
      refine e_iconst (v := 1) aX3_isAhead_51 (by decide) ?_
      refine e_goto (tgt := 56) aX3_isAhead_52 (by decide) ?_
      exact e_retI aX3_isAhead_56 rfl (by decide +kernel) (pI_ro h)
  · refine e_icmp_eq (tgt := 36) aX3_isAhead_12 (by decide) (fun q => absurd q hc3) (fun _ => ?_)
    refine e_aload_n aX3_isAhead_15 rfl ?_
    refine e_getR (r := 138) aX3_isAhead_16 fX3_46 ly_57 rfl ?_
    refine e_iload_n aX3_isAhead_19 rfl ?_
    obtain ⟨hg7, h⟩ := of_guard h
    refine e_iald aX3_isAhead_20 ly_138 hg7 ?_
    refine e_aload_n aX3_isAhead_21 rfl ?_
    refine e_getR (r := 138) aX3_isAhead_22 fX3_46 ly_57 rfl ?_
    refine e_iload_n aX3_isAhead_25 rfl ?_
    obtain ⟨hg8, h⟩ := of_guard h
    refine e_iald aX3_isAhead_26 ly_138 hg8 ?_
    rcases of_ite h with ⟨hc9, h⟩ | ⟨hc9, h⟩
    · refine e_icmp_ge (tgt := 34) aX3_isAhead_27 (by decide) (fun _ => ?_) (fun q => absurd hc9 q)
      refine e_iconst (v := 0) aX3_isAhead_34 (by decide) ?_
      exact e_retI aX3_isAhead_35 rfl (by decide +kernel) (pI_ro h)
    · refine e_icmp_ge (tgt := 34) aX3_isAhead_27 (by decide) (fun q => absurd q hc9) (fun _ => ?_)
      refine e_iconst (v := 1) aX3_isAhead_30 (by decide) ?_
      refine e_goto (tgt := 35) aX3_isAhead_31 (by decide) ?_
      exact e_retI aX3_isAhead_35 rfl (by decide +kernel) (pI_ro h)
def s_X3_giveNumbers_14 (i1 : Int32) (M : Mem) (k : Int32 → Int32 → Option Mem) (rec : Int32 → Int32 → Option Mem) (i2 : Int32) (i3 : Int32) : Option Mem :=
  if M 57 1 ≤ i3 then
    k i2 i3
  else
    (f_X3_isAhead i3 i1 M).bind fun (r2 : Int32) =>
    if r2 = 0 then
      rec i2 (i3 + 1)
    else
      rec (i2 + 1) (i3 + 1)
def f_X3_giveNumbers_14 (i1 : Int32) (M : Mem) (k : Int32 → Int32 → Option Mem) : Nat → Int32 → Int32 → Option Mem
  | 0 => fun _ _ => none
  | n + 1 => fun i2 i3 => s_X3_giveNumbers_14 i1 M k (f_X3_giveNumbers_14 i1 M k n) i2 i3
set_option maxRecDepth 100000 in
set_option maxHeartbeats 4000000 in
theorem w_X3_giveNumbers_14 (l : Launch) (x : WX) {i1 : Int32} {M : Mem} {k : Int32 → Int32 → Option Mem} {r : Mem}  (K : ∀ (i2 : Int32) (i3 : Int32), k i2 i3 = some r → Ev l x false cX3_giveNumbers RX3 none 4 2 0 0 (pV r) 40 [some (.ref (x.2.2.1 + 57)), some (.int i1), some (.int i2), some (.int i3)] [] LAY M) : ∀ (n : Nat) (i2 : Int32) (i3 : Int32), f_X3_giveNumbers_14 i1 M k n i2 i3 = some r → Ev l x false cX3_giveNumbers RX3 none 4 2 0 0 (pV r) 14 [some (.ref (x.2.2.1 + 57)), some (.int i1), some (.int i2), some (.int i3)] [] LAY M := by
  intro n
  induction n with
  | zero =>
    intro i2 i3 h
    exact nomatch (show (none : Option Mem) = some r from h)
  | succ n ih =>
    intro i2 i3 h
    have h : s_X3_giveNumbers_14 i1 M k (f_X3_giveNumbers_14 i1 M k n) i2 i3 = some r := h
    unfold s_X3_giveNumbers_14 at h
    refine e_iload_n aX3_giveNumbers_14 rfl ?_
    refine e_aload_n aX3_giveNumbers_15 rfl ?_
    refine e_getI aX3_giveNumbers_16 fX3_15 ly_57 rfl ?_
    rcases of_ite h with ⟨hc1, h⟩ | ⟨hc1, h⟩
    · refine e_icmp_ge (tgt := 40) aX3_giveNumbers_19 (by decide) (fun _ => ?_) (fun q => absurd hc1 q)
      exact K _ _ h
    · refine e_icmp_ge (tgt := 40) aX3_giveNumbers_19 (by decide) (fun q => absurd q hc1) (fun _ => ?_)
      refine e_aload_n aX3_giveNumbers_22 rfl ?_
      refine e_iload_n aX3_giveNumbers_23 rfl ?_
      refine e_iload_n aX3_giveNumbers_24 rfl ?_
      obtain ⟨r2, hr2, h⟩ := of_bind h
      refine e_VI [] aX3_giveNumbers_25 co_X3_isAhead mX3_98 ly_57 rfl rfl (c_X3_isAhead l x hr2) rfl ⟨by decide, by decide⟩ (Nat.le_of_ble_eq_true rfl) rfl ?_
      rcases of_ite h with ⟨hc3, h⟩ | ⟨hc3, h⟩
      · refine e_if_eq (tgt := 34) aX3_giveNumbers_28 (by decide) (fun _ => ?_) (fun q => absurd hc3 q)
        refine e_iinc (v := i3 + 1) (L2 := [some (.ref (x.2.2.1 + 57)), some (.int i1), some (.int i2), some (.int (i3 + 1))]) aX3_giveNumbers_34 rfl rfl ⟨by decide, rfl⟩ rfl ?_
        refine e_goto (tgt := 14) aX3_giveNumbers_37 (by decide) ?_
        exact ih _ _ h
      · refine e_if_eq (tgt := 34) aX3_giveNumbers_28 (by decide) (fun q => absurd q hc3) (fun _ => ?_)
        refine e_iinc (v := i2 + 1) (L2 := [some (.ref (x.2.2.1 + 57)), some (.int i1), some (.int (i2 + 1)), some (.int i3)]) aX3_giveNumbers_31 rfl rfl ⟨by decide, rfl⟩ rfl ?_
        refine e_iinc (v := i3 + 1) (L2 := [some (.ref (x.2.2.1 + 57)), some (.int i1), some (.int (i2 + 1)), some (.int (i3 + 1))]) aX3_giveNumbers_34 rfl rfl ⟨by decide, rfl⟩ rfl ?_
        refine e_goto (tgt := 14) aX3_giveNumbers_37 (by decide) ?_
        exact ih _ _ h
def s_X3_giveNumbers_2  (k : Int32 → Mem → Option Mem) (rec : Int32 → Mem → Option Mem) (i1 : Int32) (M : Mem) : Option Mem :=
  if M 57 1 ≤ i1 then
    k i1 M
  else
    f_X3_giveNumbers_14 i1 M (fun (i2_2 : Int32) (i3_3 : Int32) =>
      if i1 < 0 ∨ 36 ≤ i1.toNatClampNeg then none else
      if i2_2 < 0 ∨ 36 ≤ i2_2.toNatClampNeg then none else
      (f_X7_copyRow (101 + i1.toNatClampNeg) (59 + i2_2.toNatClampNeg) M).bind fun (M6 : Mem) =>
      if i1 < 0 ∨ 36 ≤ i1.toNatClampNeg then none else
      if i2_2 < 0 ∨ 36 ≤ i2_2.toNatClampNeg then none else
      lt (um M6 95 i2_2.toNatClampNeg (M6 138 i1.toNatClampNeg)) fun (M9 : Mem) =>
      rec (i1 + 1) M9) FU 0 0
def f_X3_giveNumbers_2  (k : Int32 → Mem → Option Mem) : Nat → Int32 → Mem → Option Mem
  | 0 => fun _ _ => none
  | n + 1 => fun i1 M => s_X3_giveNumbers_2  k (f_X3_giveNumbers_2  k n) i1 M
set_option maxRecDepth 100000 in
set_option maxHeartbeats 4000000 in
theorem w_X3_giveNumbers_2 (l : Launch) (x : WX)  {k : Int32 → Mem → Option Mem} {r : Mem}  (K : ∀ (i1 : Int32) (M : Mem), k i1 M = some r → Ev l x false cX3_giveNumbers RX3 none 4 2 0 0 (pV r) 73 [some (.ref (x.2.2.1 + 57)), some (.int i1), none, none] [] LAY M) : ∀ (n : Nat) (i1 : Int32) (M : Mem), f_X3_giveNumbers_2  k n i1 M = some r → Ev l x false cX3_giveNumbers RX3 none 4 2 0 0 (pV r) 2 [some (.ref (x.2.2.1 + 57)), some (.int i1), none, none] [] LAY M := by
  intro n
  induction n with
  | zero =>
    intro i1 M h
    exact nomatch (show (none : Option Mem) = some r from h)
  | succ n ih =>
    intro i1 M h
    have h : s_X3_giveNumbers_2  k (f_X3_giveNumbers_2  k n) i1 M = some r := h
    unfold s_X3_giveNumbers_2 at h
    refine e_iload_n aX3_giveNumbers_2 rfl ?_
    refine e_aload_n aX3_giveNumbers_3 rfl ?_
    refine e_getI aX3_giveNumbers_4 fX3_15 ly_57 rfl ?_
    rcases of_ite h with ⟨hc1, h⟩ | ⟨hc1, h⟩
    · refine e_icmp_ge (tgt := 73) aX3_giveNumbers_7 (by decide) (fun _ => ?_) (fun q => absurd hc1 q)
      exact K _ _ h
    · refine e_icmp_ge (tgt := 73) aX3_giveNumbers_7 (by decide) (fun q => absurd q hc1) (fun _ => ?_)
      refine e_iconst (v := 0) aX3_giveNumbers_10 (by decide) ?_
      refine e_istore_n (L2 := [some (.ref (x.2.2.1 + 57)), some (.int i1), some (.int 0), none]) aX3_giveNumbers_11 ⟨by decide, rfl⟩ rfl ?_
      refine e_iconst (v := 0) aX3_giveNumbers_12 (by decide) ?_
      refine e_istore_n (L2 := [some (.ref (x.2.2.1 + 57)), some (.int i1), some (.int 0), some (.int 0)]) aX3_giveNumbers_13 ⟨by decide, rfl⟩ rfl ?_
      refine w_X3_giveNumbers_14 l x  (fun i2_2 i3_3 h => ?_) FU _ _ h
      refine e_aload_n aX3_giveNumbers_40 rfl ?_
      refine e_getR (r := 100) aX3_giveNumbers_41 fX3_40 ly_57 rfl ?_
      refine e_iload_n aX3_giveNumbers_44 rfl ?_
      obtain ⟨hg4, h⟩ := of_guard h
      refine e_aald aX3_giveNumbers_45 ly_100 (by decide) hg4 (ra_D _ (ix_lt hg4)) ?_
      refine e_aload_n aX3_giveNumbers_46 rfl ?_
      refine e_getR (r := 58) aX3_giveNumbers_47 fX3_21 ly_57 rfl ?_
      refine e_iload_n aX3_giveNumbers_50 rfl ?_
      obtain ⟨hg5, h⟩ := of_guard h
      refine e_aald aX3_giveNumbers_51 ly_58 (by decide) hg5 (ra_R _ (ix_lt hg5)) ?_
      obtain ⟨M6, hM6, h⟩ := of_bind h
      refine e_NV [] aX3_giveNumbers_52 co_X7_copyRow mX3_94 (c_X7_copyRow l x (rr_D _ (ix_lt hg4)) (rr_R _ (ix_lt hg5)) hM6) rfl ⟨by decide, by decide⟩ (Nat.le_of_ble_eq_true rfl) rfl ?_
      refine e_aload_n aX3_giveNumbers_55 rfl ?_
      refine e_getR (r := 95) aX3_giveNumbers_56 fX3_24 ly_57 rfl ?_
      refine e_iload_n aX3_giveNumbers_59 rfl ?_
      refine e_aload_n aX3_giveNumbers_60 rfl ?_
      refine e_getR (r := 138) aX3_giveNumbers_61 fX3_46 ly_57 rfl ?_
      refine e_iload_n aX3_giveNumbers_64 rfl ?_
      obtain ⟨hg7, h⟩ := of_guard h
      refine e_iald aX3_giveNumbers_65 ly_138 hg7 ?_
      obtain ⟨hg8, h⟩ := of_guard h
      obtain ⟨M9, eM9, h⟩ := of_lt h
      refine e_ist aX3_giveNumbers_66 ly_95 hg8 eM9 ?_
      refine e_iinc (v := i1 + 1) (L2 := [some (.ref (x.2.2.1 + 57)), some (.int (i1 + 1)), some (.int i2_2), some (.int i3_3)]) aX3_giveNumbers_67 rfl rfl ⟨by decide, rfl⟩ rfl ?_
      refine e_goto (tgt := 2) aX3_giveNumbers_70 (by decide) ?_
      refine e_drop 2 (L2 := [some (.ref (x.2.2.1 + 57)), some (.int (i1 + 1)), none, some (.int i3_3)]) rfl ?_
      refine e_drop 3 (L2 := [some (.ref (x.2.2.1 + 57)), some (.int (i1 + 1)), none, none]) rfl ?_
      exact ih _ _ h
def f_X3_giveNumbers  (M : Mem) : Option Mem :=
  f_X3_giveNumbers_2  (fun (i1_1 : Int32) (M2 : Mem) =>
    some M2) FU 0 M
set_option maxRecDepth 100000 in
set_option maxHeartbeats 4000000 in
theorem c_X3_giveNumbers (l : Launch) (x : WX)  {M : Mem} {r : Mem}  (h : f_X3_giveNumbers  M = some r) : Mt l x false yX3_giveNumbers cX3_giveNumbers 4 none 2 0 0 [.ref (x.2.2.1 + 57)] LAY M (pV r) := by
  refine mt_of (L0 := [some (.ref (x.2.2.1 + 57)), none, none, none]) (by decide +kernel) rfl (Nat.le_of_ble_eq_true rfl) (lvA_of 3 rfl) ?_
  unfold f_X3_giveNumbers at h
  refine e_iconst (v := 0) aX3_giveNumbers_0 (by decide) ?_
  refine e_istore_n (L2 := [some (.ref (x.2.2.1 + 57)), some (.int 0), none, none]) aX3_giveNumbers_1 ⟨by decide, rfl⟩ rfl ?_
  refine w_X3_giveNumbers_2 l x  (fun i1_1 M2 h => ?_) FU _ _ h
  exact e_ret0 aX3_giveNumbers_73 rfl (pV_of h)
def s_X7_isSameRow_2 (p0 : Nat) (p1 : Nat) (i2 : Int32) (M : Mem) (k : Int32 → Option Int32) (rec : Int32 → Option Int32) (i3 : Int32) : Option Int32 :=
  if i2 ≤ i3 then
    k i3
  else
    if i3 < 0 ∨ 6 ≤ i3.toNatClampNeg then none else
    if i3 < 0 ∨ 6 ≤ i3.toNatClampNeg then none else
    if M p0 i3.toNatClampNeg = M p1 i3.toNatClampNeg then
      rec (i3 + 1)
    else
      some 0
def f_X7_isSameRow_2 (p0 : Nat) (p1 : Nat) (i2 : Int32) (M : Mem) (k : Int32 → Option Int32) : Nat → Int32 → Option Int32
  | 0 => fun _ => none
  | n + 1 => fun i3 => s_X7_isSameRow_2 p0 p1 i2 M k (f_X7_isSameRow_2 p0 p1 i2 M k n) i3
set_option maxRecDepth 100000 in
set_option maxHeartbeats 4000000 in
theorem w_X7_isSameRow_2 (l : Launch) (x : WX) {p0 : Nat} {p1 : Nat} {i2 : Int32} {M : Mem} {k : Int32 → Option Int32} {r : Int32} (hp0 : LAY[p0]? = some (1, 6, [])) (hp1 : LAY[p1]? = some (1, 6, [])) (K : ∀ (i3 : Int32), k i3 = some r → Ev l x false cX7_isSameRow RX7 (some FieldType.boolean) 4 0 0 0 (pI r M) 24 [some (.ref (x.2.2.1 + p0)), some (.ref (x.2.2.1 + p1)), some (.int i2), some (.int i3)] [] LAY M) : ∀ (n : Nat) (i3 : Int32), f_X7_isSameRow_2 p0 p1 i2 M k n i3 = some r → Ev l x false cX7_isSameRow RX7 (some FieldType.boolean) 4 0 0 0 (pI r M) 2 [some (.ref (x.2.2.1 + p0)), some (.ref (x.2.2.1 + p1)), some (.int i2), some (.int i3)] [] LAY M := by
  intro n
  induction n with
  | zero =>
    intro i3 h
    exact nomatch (show (none : Option Int32) = some r from h)
  | succ n ih =>
    intro i3 h
    have h : s_X7_isSameRow_2 p0 p1 i2 M k (f_X7_isSameRow_2 p0 p1 i2 M k n) i3 = some r := h
    unfold s_X7_isSameRow_2 at h
    refine e_iload_n aX7_isSameRow_2 rfl ?_
    refine e_iload_n aX7_isSameRow_3 rfl ?_
    rcases of_ite h with ⟨hc1, h⟩ | ⟨hc1, h⟩
    · refine e_icmp_ge (tgt := 24) aX7_isSameRow_4 (by decide) (fun _ => ?_) (fun q => absurd hc1 q)
      exact K _ h
    · refine e_icmp_ge (tgt := 24) aX7_isSameRow_4 (by decide) (fun q => absurd q hc1) (fun _ => ?_)
      refine e_aload_n aX7_isSameRow_7 rfl ?_
      refine e_iload_n aX7_isSameRow_8 rfl ?_
      obtain ⟨hg2, h⟩ := of_guard h
      refine e_iald aX7_isSameRow_9 hp0 hg2 ?_
      refine e_aload_n aX7_isSameRow_10 rfl ?_
      refine e_iload_n aX7_isSameRow_11 rfl ?_
      obtain ⟨hg3, h⟩ := of_guard h
      refine e_iald aX7_isSameRow_12 hp1 hg3 ?_
      rcases of_ite h with ⟨hc4, h⟩ | ⟨hc4, h⟩
      · refine e_icmp_eq (tgt := 18) aX7_isSameRow_13 (by decide) (fun _ => ?_) (fun q => absurd hc4 q)
        refine e_iinc (v := i3 + 1) (L2 := [some (.ref (x.2.2.1 + p0)), some (.ref (x.2.2.1 + p1)), some (.int i2), some (.int (i3 + 1))]) aX7_isSameRow_18 rfl rfl ⟨by decide, rfl⟩ rfl ?_
        refine e_goto (tgt := 2) aX7_isSameRow_21 (by decide) ?_
        exact ih _ h
      · refine e_icmp_eq (tgt := 18) aX7_isSameRow_13 (by decide) (fun q => absurd q hc4) (fun _ => ?_)
        refine e_iconst (v := 0) aX7_isSameRow_16 (by decide) ?_
        exact e_retI aX7_isSameRow_17 rfl (by decide +kernel) (pI_ro h)
def f_X7_isSameRow (p0 : Nat) (p1 : Nat) (i2 : Int32) (M : Mem) : Option Int32 :=
  f_X7_isSameRow_2 p0 p1 i2 M (fun (i3_1 : Int32) =>
    some 1) FU 0
set_option maxRecDepth 100000 in
set_option maxHeartbeats 4000000 in
theorem c_X7_isSameRow (l : Launch) (x : WX) {p0 : Nat} {p1 : Nat} {i2 : Int32} {M : Mem} {r : Int32} (hp0 : LAY[p0]? = some (1, 6, [])) (hp1 : LAY[p1]? = some (1, 6, [])) (h : f_X7_isSameRow p0 p1 i2 M = some r) : Mt l x false yX7_isSameRow cX7_isSameRow 4 (some FieldType.boolean) 0 0 0 [.ref (x.2.2.1 + p0), .ref (x.2.2.1 + p1), .int i2] LAY M (pI r M) := by
  refine mt_of (L0 := [some (.ref (x.2.2.1 + p0)), some (.ref (x.2.2.1 + p1)), some (.int i2), none]) (by decide +kernel) rfl (Nat.le_of_ble_eq_true rfl) (lvA_of 1 rfl) ?_
  unfold f_X7_isSameRow at h
  refine e_iconst (v := 0) aX7_isSameRow_0 (by decide) ?_
  refine e_istore_n (L2 := [some (.ref (x.2.2.1 + p0)), some (.ref (x.2.2.1 + p1)), some (.int i2), some (.int 0)]) aX7_isSameRow_1 ⟨by decide, rfl⟩ rfl ?_
  refine w_X7_isSameRow_2 l x hp0 hp1 (fun i3_1 h => ?_) FU _ h
  refine e_iconst (v := 1) aX7_isSameRow_24 (by decide) ?_
  exact e_retI aX7_isSameRow_25 rfl (by decide +kernel) (pI_ro h)
def s_X6_pointOfProjective_2 (p1 : Nat) (i2 : Int32) (M : Mem) (k : Int32 → Option Int32) (rec : Int32 → Option Int32) (i3 : Int32) : Option Int32 :=
  if i2 ≤ i3 then
    k i3
  else
    if i3 < 0 ∨ 6 ≤ i3.toNatClampNeg then none else
    (f_X7_isSameRow (51 + i3.toNatClampNeg) p1 i2 M).bind fun (r3 : Int32) =>
    if r3 = 0 then
      rec (i3 + 1)
    else
      some i3
def f_X6_pointOfProjective_2 (p1 : Nat) (i2 : Int32) (M : Mem) (k : Int32 → Option Int32) : Nat → Int32 → Option Int32
  | 0 => fun _ => none
  | n + 1 => fun i3 => s_X6_pointOfProjective_2 p1 i2 M k (f_X6_pointOfProjective_2 p1 i2 M k n) i3
set_option maxRecDepth 100000 in
set_option maxHeartbeats 4000000 in
theorem w_X6_pointOfProjective_2 (l : Launch) (x : WX) {p1 : Nat} {i2 : Int32} {M : Mem} {k : Int32 → Option Int32} {r : Int32} (hp1 : LAY[p1]? = some (1, 6, [])) (K : ∀ (i3 : Int32), k i3 = some r → Ev l x false cX6_pointOfProjective RX6 (some FieldType.int) 4 1 0 0 (pI r M) 29 [some (.ref (x.2.2.1 + 47)), some (.ref (x.2.2.1 + p1)), some (.int i2), some (.int i3)] [] LAY M) : ∀ (n : Nat) (i3 : Int32), f_X6_pointOfProjective_2 p1 i2 M k n i3 = some r → Ev l x false cX6_pointOfProjective RX6 (some FieldType.int) 4 1 0 0 (pI r M) 2 [some (.ref (x.2.2.1 + 47)), some (.ref (x.2.2.1 + p1)), some (.int i2), some (.int i3)] [] LAY M := by
  intro n
  induction n with
  | zero =>
    intro i3 h
    exact nomatch (show (none : Option Int32) = some r from h)
  | succ n ih =>
    intro i3 h
    have h : s_X6_pointOfProjective_2 p1 i2 M k (f_X6_pointOfProjective_2 p1 i2 M k n) i3 = some r := h
    unfold s_X6_pointOfProjective_2 at h
    refine e_iload_n aX6_pointOfProjective_2 rfl ?_
    refine e_iload_n aX6_pointOfProjective_3 rfl ?_
    rcases of_ite h with ⟨hc1, h⟩ | ⟨hc1, h⟩
    · refine e_icmp_ge (tgt := 29) aX6_pointOfProjective_4 (by decide) (fun _ => ?_) (fun q => absurd hc1 q)
      exact K _ h
    · refine e_icmp_ge (tgt := 29) aX6_pointOfProjective_4 (by decide) (fun q => absurd q hc1) (fun _ => ?_)
      refine e_aload_n aX6_pointOfProjective_7 rfl ?_
      refine e_getR (r := 50) aX6_pointOfProjective_8 fX6_20 ly_47 rfl ?_
      refine e_iload_n aX6_pointOfProjective_11 rfl ?_
      obtain ⟨hg2, h⟩ := of_guard h
      refine e_aald aX6_pointOfProjective_12 ly_50 (by decide) hg2 (ra_W _ (ix_lt hg2)) ?_
      refine e_aload_n aX6_pointOfProjective_13 rfl ?_
      refine e_iload_n aX6_pointOfProjective_14 rfl ?_
      obtain ⟨r3, hr3, h⟩ := of_bind h
      refine e_NI [] aX6_pointOfProjective_15 co_X7_isSameRow mX6_57 (c_X7_isSameRow l x (rr_W _ (ix_lt hg2)) hp1 hr3) rfl ⟨by decide, by decide⟩ (Nat.le_of_ble_eq_true rfl) rfl ?_
      rcases of_ite h with ⟨hc4, h⟩ | ⟨hc4, h⟩
      · refine e_if_eq (tgt := 23) aX6_pointOfProjective_18 (by decide) (fun _ => ?_) (fun q => absurd hc4 q)
        refine e_iinc (v := i3 + 1) (L2 := [some (.ref (x.2.2.1 + 47)), some (.ref (x.2.2.1 + p1)), some (.int i2), some (.int (i3 + 1))]) aX6_pointOfProjective_23 rfl rfl ⟨by decide, rfl⟩ rfl ?_
        refine e_goto (tgt := 2) aX6_pointOfProjective_26 (by decide) ?_
        exact ih _ h
      · refine e_if_eq (tgt := 23) aX6_pointOfProjective_18 (by decide) (fun q => absurd q hc4) (fun _ => ?_)
        refine e_iload_n aX6_pointOfProjective_21 rfl ?_
        exact e_retI aX6_pointOfProjective_22 rfl rfl (pI_ro h)
def f_X6_pointOfProjective (p1 : Nat) (i2 : Int32) (M : Mem) : Option Int32 :=
  f_X6_pointOfProjective_2 p1 i2 M (fun (i3_1 : Int32) =>
    some (-1)) FU 0
set_option maxRecDepth 100000 in
set_option maxHeartbeats 4000000 in
theorem c_X6_pointOfProjective (l : Launch) (x : WX) {p1 : Nat} {i2 : Int32} {M : Mem} {r : Int32} (hp1 : LAY[p1]? = some (1, 6, [])) (h : f_X6_pointOfProjective p1 i2 M = some r) : Mt l x false yX6_pointOfProjective cX6_pointOfProjective 4 (some FieldType.int) 1 0 0 [.ref (x.2.2.1 + 47), .ref (x.2.2.1 + p1), .int i2] LAY M (pI r M) := by
  refine mt_of (L0 := [some (.ref (x.2.2.1 + 47)), some (.ref (x.2.2.1 + p1)), some (.int i2), none]) (by decide +kernel) rfl (Nat.le_of_ble_eq_true rfl) (lvA_of 1 rfl) ?_
  unfold f_X6_pointOfProjective at h
  refine e_iconst (v := 0) aX6_pointOfProjective_0 (by decide) ?_
  refine e_istore_n (L2 := [some (.ref (x.2.2.1 + 47)), some (.ref (x.2.2.1 + p1)), some (.int i2), some (.int 0)]) aX6_pointOfProjective_1 ⟨by decide, rfl⟩ rfl ?_
  refine w_X6_pointOfProjective_2 l x hp1 (fun i3_1 h => ?_) FU _ h
  refine e_iconst (v := (-1)) aX6_pointOfProjective_29 (by decide) ?_
  exact e_retI aX6_pointOfProjective_30 rfl rfl (pI_ro h)
def s_X6_isInjective_3 (i1 : Int32) (p2 : Nat) (i3 : Int32) (M : Mem) (k : Int32 → Option Int32) (rec : Int32 → Option Int32) (i4 : Int32) : Option Int32 :=
  if i3 ≤ i4 then
    k i4
  else
    if i4 < 0 ∨ 6 ≤ i4.toNatClampNeg then none else
    if i1 < 0 ∨ 6 ≤ i1.toNatClampNeg then none else
    if i4 < 0 ∨ 6 ≤ i4.toNatClampNeg then none else
    if M (51 + i4.toNatClampNeg) i1.toNatClampNeg = M p2 i4.toNatClampNeg then
      rec (i4 + 1)
    else
      some 0
def f_X6_isInjective_3 (i1 : Int32) (p2 : Nat) (i3 : Int32) (M : Mem) (k : Int32 → Option Int32) : Nat → Int32 → Option Int32
  | 0 => fun _ => none
  | n + 1 => fun i4 => s_X6_isInjective_3 i1 p2 i3 M k (f_X6_isInjective_3 i1 p2 i3 M k n) i4
set_option maxRecDepth 100000 in
set_option maxHeartbeats 4000000 in
theorem w_X6_isInjective_3 (l : Launch) (x : WX) {i1 : Int32} {p2 : Nat} {i3 : Int32} {M : Mem} {k : Int32 → Option Int32} {r : Int32} (hp2 : LAY[p2]? = some (1, 6, [])) (K : ∀ (i4 : Int32), k i4 = some r → Ev l x false cX6_isInjective RX6 (some FieldType.boolean) 5 0 0 0 (pI r M) 33 [some (.ref (x.2.2.1 + 47)), some (.int i1), some (.ref (x.2.2.1 + p2)), some (.int i3), some (.int i4)] [] LAY M) : ∀ (n : Nat) (i4 : Int32), f_X6_isInjective_3 i1 p2 i3 M k n i4 = some r → Ev l x false cX6_isInjective RX6 (some FieldType.boolean) 5 0 0 0 (pI r M) 3 [some (.ref (x.2.2.1 + 47)), some (.int i1), some (.ref (x.2.2.1 + p2)), some (.int i3), some (.int i4)] [] LAY M := by
  intro n
  induction n with
  | zero =>
    intro i4 h
    exact nomatch (show (none : Option Int32) = some r from h)
  | succ n ih =>
    intro i4 h
    have h : s_X6_isInjective_3 i1 p2 i3 M k (f_X6_isInjective_3 i1 p2 i3 M k n) i4 = some r := h
    unfold s_X6_isInjective_3 at h
    refine e_iload aX6_isInjective_3 rfl ?_
    refine e_iload_n aX6_isInjective_5 rfl ?_
    rcases of_ite h with ⟨hc1, h⟩ | ⟨hc1, h⟩
    · refine e_icmp_ge (tgt := 33) aX6_isInjective_6 (by decide) (fun _ => ?_) (fun q => absurd hc1 q)
      exact K _ h
    · refine e_icmp_ge (tgt := 33) aX6_isInjective_6 (by decide) (fun q => absurd q hc1) (fun _ => ?_)
      refine e_aload_n aX6_isInjective_9 rfl ?_
      refine e_getR (r := 50) aX6_isInjective_10 fX6_20 ly_47 rfl ?_
      refine e_iload aX6_isInjective_13 rfl ?_
      obtain ⟨hg2, h⟩ := of_guard h
      refine e_aald aX6_isInjective_15 ly_50 (by decide) hg2 (ra_W _ (ix_lt hg2)) ?_
      refine e_iload_n aX6_isInjective_16 rfl ?_
      obtain ⟨hg3, h⟩ := of_guard h
      refine e_iald aX6_isInjective_17 (rr_W _ (ix_lt hg2)) hg3 ?_
      refine e_aload_n aX6_isInjective_18 rfl ?_
      refine e_iload aX6_isInjective_19 rfl ?_
      obtain ⟨hg4, h⟩ := of_guard h
      refine e_iald aX6_isInjective_21 hp2 hg4 ?_
      rcases of_ite h with ⟨hc5, h⟩ | ⟨hc5, h⟩
      · refine e_icmp_eq (tgt := 27) aX6_isInjective_22 (by decide) (fun _ => ?_) (fun q => absurd hc5 q)
        refine e_iinc (v := i4 + 1) (L2 := [some (.ref (x.2.2.1 + 47)), some (.int i1), some (.ref (x.2.2.1 + p2)), some (.int i3), some (.int (i4 + 1))]) aX6_isInjective_27 rfl rfl ⟨by decide, rfl⟩ rfl ?_
        refine e_goto (tgt := 3) aX6_isInjective_30 (by decide) ?_
        exact ih _ h
      · refine e_icmp_eq (tgt := 27) aX6_isInjective_22 (by decide) (fun q => absurd q hc5) (fun _ => ?_)
        refine e_iconst (v := 0) aX6_isInjective_25 (by decide) ?_
        exact e_retI aX6_isInjective_26 rfl (by decide +kernel) (pI_ro h)
def f_X6_isInjective (i1 : Int32) (p2 : Nat) (i3 : Int32) (M : Mem) : Option Int32 :=
  f_X6_isInjective_3 i1 p2 i3 M (fun (i4_1 : Int32) =>
    some 1) FU 0
set_option maxRecDepth 100000 in
set_option maxHeartbeats 4000000 in
theorem c_X6_isInjective (l : Launch) (x : WX) {i1 : Int32} {p2 : Nat} {i3 : Int32} {M : Mem} {r : Int32} (hp2 : LAY[p2]? = some (1, 6, [])) (h : f_X6_isInjective i1 p2 i3 M = some r) : Mt l x false yX6_isInjective cX6_isInjective 5 (some FieldType.boolean) 0 0 0 [.ref (x.2.2.1 + 47), .int i1, .ref (x.2.2.1 + p2), .int i3] LAY M (pI r M) := by
  refine mt_of (L0 := [some (.ref (x.2.2.1 + 47)), some (.int i1), some (.ref (x.2.2.1 + p2)), some (.int i3), none]) (by decide +kernel) rfl (Nat.le_of_ble_eq_true rfl) (lvA_of 1 rfl) ?_
  unfold f_X6_isInjective at h
  refine e_iconst (v := 0) aX6_isInjective_0 (by decide) ?_
  refine e_istore (L2 := [some (.ref (x.2.2.1 + 47)), some (.int i1), some (.ref (x.2.2.1 + p2)), some (.int i3), some (.int 0)]) aX6_isInjective_1 ⟨by decide, rfl⟩ rfl ?_
  refine w_X6_isInjective_3 l x hp2 (fun i4_1 h => ?_) FU _ h
  refine e_iconst (v := 1) aX6_isInjective_33 (by decide) ?_
  exact e_retI aX6_isInjective_34 rfl (by decide +kernel) (pI_ro h)
def s_X6_pointOfInjective_2 (p1 : Nat) (i2 : Int32) (M : Mem) (k : Int32 → Option Int32) (rec : Int32 → Option Int32) (i3 : Int32) : Option Int32 :=
  if i2 ≤ i3 then
    k i3
  else
    (f_X6_isInjective i3 p1 i2 M).bind fun (r2 : Int32) =>
    if r2 = 0 then
      rec (i3 + 1)
    else
      some i3
def f_X6_pointOfInjective_2 (p1 : Nat) (i2 : Int32) (M : Mem) (k : Int32 → Option Int32) : Nat → Int32 → Option Int32
  | 0 => fun _ => none
  | n + 1 => fun i3 => s_X6_pointOfInjective_2 p1 i2 M k (f_X6_pointOfInjective_2 p1 i2 M k n) i3
set_option maxRecDepth 100000 in
set_option maxHeartbeats 4000000 in
theorem w_X6_pointOfInjective_2 (l : Launch) (x : WX) {p1 : Nat} {i2 : Int32} {M : Mem} {k : Int32 → Option Int32} {r : Int32} (hp1 : LAY[p1]? = some (1, 6, [])) (K : ∀ (i3 : Int32), k i3 = some r → Ev l x false cX6_pointOfInjective RX6 (some FieldType.int) 4 1 0 0 (pI r M) 25 [some (.ref (x.2.2.1 + 47)), some (.ref (x.2.2.1 + p1)), some (.int i2), some (.int i3)] [] LAY M) : ∀ (n : Nat) (i3 : Int32), f_X6_pointOfInjective_2 p1 i2 M k n i3 = some r → Ev l x false cX6_pointOfInjective RX6 (some FieldType.int) 4 1 0 0 (pI r M) 2 [some (.ref (x.2.2.1 + 47)), some (.ref (x.2.2.1 + p1)), some (.int i2), some (.int i3)] [] LAY M := by
  intro n
  induction n with
  | zero =>
    intro i3 h
    exact nomatch (show (none : Option Int32) = some r from h)
  | succ n ih =>
    intro i3 h
    have h : s_X6_pointOfInjective_2 p1 i2 M k (f_X6_pointOfInjective_2 p1 i2 M k n) i3 = some r := h
    unfold s_X6_pointOfInjective_2 at h
    refine e_iload_n aX6_pointOfInjective_2 rfl ?_
    refine e_iload_n aX6_pointOfInjective_3 rfl ?_
    rcases of_ite h with ⟨hc1, h⟩ | ⟨hc1, h⟩
    · refine e_icmp_ge (tgt := 25) aX6_pointOfInjective_4 (by decide) (fun _ => ?_) (fun q => absurd hc1 q)
      exact K _ h
    · refine e_icmp_ge (tgt := 25) aX6_pointOfInjective_4 (by decide) (fun q => absurd q hc1) (fun _ => ?_)
      refine e_aload_n aX6_pointOfInjective_7 rfl ?_
      refine e_iload_n aX6_pointOfInjective_8 rfl ?_
      refine e_aload_n aX6_pointOfInjective_9 rfl ?_
      refine e_iload_n aX6_pointOfInjective_10 rfl ?_
      obtain ⟨r2, hr2, h⟩ := of_bind h
      refine e_VI [] aX6_pointOfInjective_11 co_X6_isInjective mX6_61 ly_47 rfl rfl (c_X6_isInjective l x hp1 hr2) rfl ⟨by decide, by decide⟩ (Nat.le_of_ble_eq_true rfl) rfl ?_
      rcases of_ite h with ⟨hc3, h⟩ | ⟨hc3, h⟩
      · refine e_if_eq (tgt := 19) aX6_pointOfInjective_14 (by decide) (fun _ => ?_) (fun q => absurd hc3 q)
        refine e_iinc (v := i3 + 1) (L2 := [some (.ref (x.2.2.1 + 47)), some (.ref (x.2.2.1 + p1)), some (.int i2), some (.int (i3 + 1))]) aX6_pointOfInjective_19 rfl rfl ⟨by decide, rfl⟩ rfl ?_
        refine e_goto (tgt := 2) aX6_pointOfInjective_22 (by decide) ?_
        exact ih _ h
      · refine e_if_eq (tgt := 19) aX6_pointOfInjective_14 (by decide) (fun q => absurd q hc3) (fun _ => ?_)
        refine e_iload_n aX6_pointOfInjective_17 rfl ?_
        exact e_retI aX6_pointOfInjective_18 rfl rfl (pI_ro h)
def f_X6_pointOfInjective (p1 : Nat) (i2 : Int32) (M : Mem) : Option Int32 :=
  f_X6_pointOfInjective_2 p1 i2 M (fun (i3_1 : Int32) =>
    some (-1)) FU 0
set_option maxRecDepth 100000 in
set_option maxHeartbeats 4000000 in
theorem c_X6_pointOfInjective (l : Launch) (x : WX) {p1 : Nat} {i2 : Int32} {M : Mem} {r : Int32} (hp1 : LAY[p1]? = some (1, 6, [])) (h : f_X6_pointOfInjective p1 i2 M = some r) : Mt l x false yX6_pointOfInjective cX6_pointOfInjective 4 (some FieldType.int) 1 0 0 [.ref (x.2.2.1 + 47), .ref (x.2.2.1 + p1), .int i2] LAY M (pI r M) := by
  refine mt_of (L0 := [some (.ref (x.2.2.1 + 47)), some (.ref (x.2.2.1 + p1)), some (.int i2), none]) (by decide +kernel) rfl (Nat.le_of_ble_eq_true rfl) (lvA_of 1 rfl) ?_
  unfold f_X6_pointOfInjective at h
  refine e_iconst (v := 0) aX6_pointOfInjective_0 (by decide) ?_
  refine e_istore_n (L2 := [some (.ref (x.2.2.1 + 47)), some (.ref (x.2.2.1 + p1)), some (.int i2), some (.int 0)]) aX6_pointOfInjective_1 ⟨by decide, rfl⟩ rfl ?_
  refine w_X6_pointOfInjective_2 l x hp1 (fun i3_1 h => ?_) FU _ h
  refine e_iconst (v := (-1)) aX6_pointOfInjective_25 (by decide) ?_
  exact e_retI aX6_pointOfInjective_26 rfl rfl (pI_ro h)
def s_X6_shiftBack_2 (p2 : Nat) (k : Int32 → Mem → Option Mem) (rec : Int32 → Mem → Option Mem) (i3 : Int32) (M : Mem) : Option Mem :=
  if M 1 0 ≤ i3 then
    k i3 M
  else
    if i3 < 0 ∨ 6 ≤ i3.toNatClampNeg then none else
    if i3 < 0 ∨ 6 ≤ i3.toNatClampNeg then none else
    (f_X2_turnedAbout 1 p2 (M 48 i3.toNatClampNeg) M).bind fun (r4 : Int32) =>
    if M 48 i3.toNatClampNeg < 0 ∨ 6 ≤ (M 48 i3.toNatClampNeg).toNatClampNeg then none else
    lt (um M p2 (M 48 i3.toNatClampNeg).toNatClampNeg r4) fun (M6 : Mem) =>
    rec (i3 + 1) M6
def f_X6_shiftBack_2 (p2 : Nat) (k : Int32 → Mem → Option Mem) : Nat → Int32 → Mem → Option Mem
  | 0 => fun _ _ => none
  | n + 1 => fun i3 M => s_X6_shiftBack_2 p2 k (f_X6_shiftBack_2 p2 k n) i3 M
set_option maxRecDepth 100000 in
set_option maxHeartbeats 4000000 in
theorem w_X6_shiftBack_2 (l : Launch) (x : WX) {p2 : Nat} {k : Int32 → Mem → Option Mem} {r : Mem} (hp2 : LAY[p2]? = some (1, 6, [])) (K : ∀ (i3 : Int32) (M : Mem), k i3 M = some r → Ev l x false cX6_shiftBack RX6 none 4 1 0 0 (pV r) 35 [some (.ref (x.2.2.1 + 47)), some (.ref (x.2.2.1 + 1)), some (.ref (x.2.2.1 + p2)), some (.int i3)] [] LAY M) : ∀ (n : Nat) (i3 : Int32) (M : Mem), f_X6_shiftBack_2 p2 k n i3 M = some r → Ev l x false cX6_shiftBack RX6 none 4 1 0 0 (pV r) 2 [some (.ref (x.2.2.1 + 47)), some (.ref (x.2.2.1 + 1)), some (.ref (x.2.2.1 + p2)), some (.int i3)] [] LAY M := by
  intro n
  induction n with
  | zero =>
    intro i3 M h
    exact nomatch (show (none : Option Mem) = some r from h)
  | succ n ih =>
    intro i3 M h
    have h : s_X6_shiftBack_2 p2 k (f_X6_shiftBack_2 p2 k n) i3 M = some r := h
    unfold s_X6_shiftBack_2 at h
    refine e_iload_n aX6_shiftBack_2 rfl ?_
    refine e_aload_n aX6_shiftBack_3 rfl ?_
    refine e_getI aX6_shiftBack_4 fX6_23 ly_1 rfl ?_
    rcases of_ite h with ⟨hc1, h⟩ | ⟨hc1, h⟩
    · refine e_icmp_ge (tgt := 35) aX6_shiftBack_7 (by decide) (fun _ => ?_) (fun q => absurd hc1 q)
      exact K _ _ h
    · refine e_icmp_ge (tgt := 35) aX6_shiftBack_7 (by decide) (fun q => absurd q hc1) (fun _ => ?_)
      refine e_aload_n aX6_shiftBack_10 rfl ?_
      refine e_aload_n aX6_shiftBack_11 rfl ?_
      refine e_getR (r := 48) aX6_shiftBack_12 fX6_9 ly_47 rfl ?_
      refine e_iload_n aX6_shiftBack_15 rfl ?_
      obtain ⟨hg2, h⟩ := of_guard h
      refine e_iald aX6_shiftBack_16 ly_48 hg2 ?_
      refine e_aload_n aX6_shiftBack_17 rfl ?_
      refine e_aload_n aX6_shiftBack_18 rfl ?_
      refine e_aload_n aX6_shiftBack_19 rfl ?_
      refine e_getR (r := 48) aX6_shiftBack_20 fX6_9 ly_47 rfl ?_
      refine e_iload_n aX6_shiftBack_23 rfl ?_
      obtain ⟨hg3, h⟩ := of_guard h
      refine e_iald aX6_shiftBack_24 ly_48 hg3 ?_
      obtain ⟨r4, hr4, h⟩ := of_bind h
      refine e_VI [.int (M 48 i3.toNatClampNeg), .ref (x.2.2.1 + p2)] aX6_shiftBack_25 co_X2_turnedAbout mX6_54 ly_1 rfl rfl (c_X2_turnedAbout l x qa_1 hp2 hr4) rfl ⟨by decide, by decide⟩ (Nat.le_of_ble_eq_true rfl) rfl ?_
      obtain ⟨hg5, h⟩ := of_guard h
      obtain ⟨M6, eM6, h⟩ := of_lt h
      refine e_ist aX6_shiftBack_28 hp2 hg5 eM6 ?_
      refine e_iinc (v := i3 + 1) (L2 := [some (.ref (x.2.2.1 + 47)), some (.ref (x.2.2.1 + 1)), some (.ref (x.2.2.1 + p2)), some (.int (i3 + 1))]) aX6_shiftBack_29 rfl rfl ⟨by decide, rfl⟩ rfl ?_
      refine e_goto (tgt := 2) aX6_shiftBack_32 (by decide) ?_
      exact ih _ _ h
def f_X6_shiftBack (p2 : Nat) (M : Mem) : Option Mem :=
  f_X6_shiftBack_2 p2 (fun (i3_1 : Int32) (M2 : Mem) =>
    some M2) FU 0 M
set_option maxRecDepth 100000 in
set_option maxHeartbeats 4000000 in
theorem c_X6_shiftBack (l : Launch) (x : WX) {p2 : Nat} {M : Mem} {r : Mem} (hp2 : LAY[p2]? = some (1, 6, [])) (h : f_X6_shiftBack p2 M = some r) : Mt l x false yX6_shiftBack cX6_shiftBack 4 none 1 0 0 [.ref (x.2.2.1 + 47), .ref (x.2.2.1 + 1), .ref (x.2.2.1 + p2)] LAY M (pV r) := by
  refine mt_of (L0 := [some (.ref (x.2.2.1 + 47)), some (.ref (x.2.2.1 + 1)), some (.ref (x.2.2.1 + p2)), none]) (by decide +kernel) rfl (Nat.le_of_ble_eq_true rfl) (lvA_of 1 rfl) ?_
  unfold f_X6_shiftBack at h
  refine e_iconst (v := 0) aX6_shiftBack_0 (by decide) ?_
  refine e_istore_n (L2 := [some (.ref (x.2.2.1 + 47)), some (.ref (x.2.2.1 + 1)), some (.ref (x.2.2.1 + p2)), some (.int 0)]) aX6_shiftBack_1 ⟨by decide, rfl⟩ rfl ?_
  refine w_X6_shiftBack_2 l x hp2 (fun i3_1 M2 h => ?_) FU _ _ h
  exact e_ret0 aX6_shiftBack_35 rfl (pV_of h)
def s_X3_numberOf_2 (p1 : Nat) (i2 : Int32) (M : Mem) (k : Int32 → Option Int32) (rec : Int32 → Option Int32) (i3 : Int32) : Option Int32 :=
  if M 57 1 ≤ i3 then
    k i3
  else
    if i3 < 0 ∨ 36 ≤ i3.toNatClampNeg then none else
    (f_X7_isSameRow (59 + i3.toNatClampNeg) p1 i2 M).bind fun (r3 : Int32) =>
    if r3 = 0 then
      rec (i3 + 1)
    else
      some i3
def f_X3_numberOf_2 (p1 : Nat) (i2 : Int32) (M : Mem) (k : Int32 → Option Int32) : Nat → Int32 → Option Int32
  | 0 => fun _ => none
  | n + 1 => fun i3 => s_X3_numberOf_2 p1 i2 M k (f_X3_numberOf_2 p1 i2 M k n) i3
set_option maxRecDepth 100000 in
set_option maxHeartbeats 4000000 in
theorem w_X3_numberOf_2 (l : Launch) (x : WX) {p1 : Nat} {i2 : Int32} {M : Mem} {k : Int32 → Option Int32} {r : Int32} (hp1 : LAY[p1]? = some (1, 6, [])) (K : ∀ (i3 : Int32), k i3 = some r → Ev l x false cX3_numberOf RX3 (some FieldType.int) 4 1 0 0 (pI r M) 32 [some (.ref (x.2.2.1 + 57)), some (.ref (x.2.2.1 + p1)), some (.int i2), some (.int i3)] [] LAY M) : ∀ (n : Nat) (i3 : Int32), f_X3_numberOf_2 p1 i2 M k n i3 = some r → Ev l x false cX3_numberOf RX3 (some FieldType.int) 4 1 0 0 (pI r M) 2 [some (.ref (x.2.2.1 + 57)), some (.ref (x.2.2.1 + p1)), some (.int i2), some (.int i3)] [] LAY M := by
  intro n
  induction n with
  | zero =>
    intro i3 h
    exact nomatch (show (none : Option Int32) = some r from h)
  | succ n ih =>
    intro i3 h
    have h : s_X3_numberOf_2 p1 i2 M k (f_X3_numberOf_2 p1 i2 M k n) i3 = some r := h
    unfold s_X3_numberOf_2 at h
    refine e_iload_n aX3_numberOf_2 rfl ?_
    refine e_aload_n aX3_numberOf_3 rfl ?_
    refine e_getI aX3_numberOf_4 fX3_15 ly_57 rfl ?_
    rcases of_ite h with ⟨hc1, h⟩ | ⟨hc1, h⟩
    · refine e_icmp_ge (tgt := 32) aX3_numberOf_7 (by decide) (fun _ => ?_) (fun q => absurd hc1 q)
      exact K _ h
    · refine e_icmp_ge (tgt := 32) aX3_numberOf_7 (by decide) (fun q => absurd q hc1) (fun _ => ?_)
      refine e_aload_n aX3_numberOf_10 rfl ?_
      refine e_getR (r := 58) aX3_numberOf_11 fX3_21 ly_57 rfl ?_
      refine e_iload_n aX3_numberOf_14 rfl ?_
      obtain ⟨hg2, h⟩ := of_guard h
      refine e_aald aX3_numberOf_15 ly_58 (by decide) hg2 (ra_R _ (ix_lt hg2)) ?_
      refine e_aload_n aX3_numberOf_16 rfl ?_
      refine e_iload_n aX3_numberOf_17 rfl ?_
      obtain ⟨r3, hr3, h⟩ := of_bind h
      refine e_NI [] aX3_numberOf_18 co_X7_isSameRow mX3_118 (c_X7_isSameRow l x (rr_R _ (ix_lt hg2)) hp1 hr3) rfl ⟨by decide, by decide⟩ (Nat.le_of_ble_eq_true rfl) rfl ?_
      rcases of_ite h with ⟨hc4, h⟩ | ⟨hc4, h⟩
      · refine e_if_eq (tgt := 26) aX3_numberOf_21 (by decide) (fun _ => ?_) (fun q => absurd hc4 q)
        refine e_iinc (v := i3 + 1) (L2 := [some (.ref (x.2.2.1 + 57)), some (.ref (x.2.2.1 + p1)), some (.int i2), some (.int (i3 + 1))]) aX3_numberOf_26 rfl rfl ⟨by decide, rfl⟩ rfl ?_
        refine e_goto (tgt := 2) aX3_numberOf_29 (by decide) ?_
        exact ih _ h
      · refine e_if_eq (tgt := 26) aX3_numberOf_21 (by decide) (fun q => absurd q hc4) (fun _ => ?_)
        refine e_iload_n aX3_numberOf_24 rfl ?_
        exact e_retI aX3_numberOf_25 rfl rfl (pI_ro h)
def f_X3_numberOf (p1 : Nat) (i2 : Int32) (M : Mem) : Option Int32 :=
  f_X3_numberOf_2 p1 i2 M (fun (i3_1 : Int32) =>
    some (-1000000)) FU 0
set_option maxRecDepth 100000 in
set_option maxHeartbeats 4000000 in
theorem c_X3_numberOf (l : Launch) (x : WX) {p1 : Nat} {i2 : Int32} {M : Mem} {r : Int32} (hp1 : LAY[p1]? = some (1, 6, [])) (h : f_X3_numberOf p1 i2 M = some r) : Mt l x false yX3_numberOf cX3_numberOf 4 (some FieldType.int) 1 0 0 [.ref (x.2.2.1 + 57), .ref (x.2.2.1 + p1), .int i2] LAY M (pI r M) := by
  refine mt_of (L0 := [some (.ref (x.2.2.1 + 57)), some (.ref (x.2.2.1 + p1)), some (.int i2), none]) (by decide +kernel) rfl (Nat.le_of_ble_eq_true rfl) (lvA_of 1 rfl) ?_
  unfold f_X3_numberOf at h
  refine e_iconst (v := 0) aX3_numberOf_0 (by decide) ?_
  refine e_istore_n (L2 := [some (.ref (x.2.2.1 + 57)), some (.ref (x.2.2.1 + p1)), some (.int i2), some (.int 0)]) aX3_numberOf_1 ⟨by decide, rfl⟩ rfl ?_
  refine w_X3_numberOf_2 l x hp1 (fun i3_1 h => ?_) FU _ h
  refine e_ldc aX3_numberOf_32 kX3_110 ?_
  exact e_retI aX3_numberOf_34 rfl rfl (pI_ro h)
def f_X3_findNeighbours (i3 : Int32) (M : Mem) : Option Mem :=
  if i3 < 0 ∨ 36 ≤ i3.toNatClampNeg then none else
  (f_X6_pointOfProjective (59 + i3.toNatClampNeg) (M 1 0) M).bind fun (r2 : Int32) =>
  if i3 < 0 ∨ 36 ≤ i3.toNatClampNeg then none else
  lt (um M 139 i3.toNatClampNeg r2) fun (M4 : Mem) =>
  if i3 < 0 ∨ 36 ≤ i3.toNatClampNeg then none else
  (f_X6_pointOfInjective (59 + i3.toNatClampNeg) (M4 1 0) M4).bind fun (r6 : Int32) =>
  if i3 < 0 ∨ 36 ≤ i3.toNatClampNeg then none else
  lt (um M4 99 i3.toNatClampNeg r6) fun (M8 : Mem) =>
  if i3 < 0 ∨ 36 ≤ i3.toNatClampNeg then none else
  lt (um M8 96 i3.toNatClampNeg (-1000000)) fun (M10 : Mem) =>
  if i3 < 0 ∨ 36 ≤ i3.toNatClampNeg then none else
  if M10 139 i3.toNatClampNeg = (-1) then
    if i3 < 0 ∨ 36 ≤ i3.toNatClampNeg then none else
    (f_X7_copyRow (59 + i3.toNatClampNeg) 140 M10).bind fun (M14 : Mem) =>
    (f_X6_shiftBack 140 M14).bind fun (M15 : Mem) =>
    (f_X3_numberOf 140 (M15 1 0) M15).bind fun (r16 : Int32) =>
    if i3 < 0 ∨ 36 ≤ i3.toNatClampNeg then none else
    lt (um M15 96 i3.toNatClampNeg r16) fun (M18 : Mem) =>
    some M18
  else
    some M10
set_option maxRecDepth 100000 in
set_option maxHeartbeats 4000000 in
theorem c_X3_findNeighbours (l : Launch) (x : WX) {i3 : Int32} {M : Mem} {r : Mem}  (h : f_X3_findNeighbours i3 M = some r) : Mt l x false yX3_findNeighbours cX3_findNeighbours 4 none 2 0 0 [.ref (x.2.2.1 + 57), .ref (x.2.2.1 + 1), .ref (x.2.2.1 + 47), .int i3] LAY M (pV r) := by
  refine mt_of (L0 := [some (.ref (x.2.2.1 + 57)), some (.ref (x.2.2.1 + 1)), some (.ref (x.2.2.1 + 47)), some (.int i3)]) (by decide +kernel) rfl (Nat.le_of_ble_eq_true rfl) (lvA_of 0 rfl) ?_
  unfold f_X3_findNeighbours at h
  refine e_aload_n aX3_findNeighbours_0 rfl ?_
  refine e_getR (r := 139) aX3_findNeighbours_1 fX3_49 ly_57 rfl ?_
  refine e_iload_n aX3_findNeighbours_4 rfl ?_
  refine e_aload_n aX3_findNeighbours_5 rfl ?_
  refine e_aload_n aX3_findNeighbours_6 rfl ?_
  refine e_getR (r := 58) aX3_findNeighbours_7 fX3_21 ly_57 rfl ?_
  refine e_iload_n aX3_findNeighbours_10 rfl ?_
  obtain ⟨hg1, h⟩ := of_guard h
  refine e_aald aX3_findNeighbours_11 ly_58 (by decide) hg1 (ra_R _ (ix_lt hg1)) ?_
  refine e_aload_n aX3_findNeighbours_12 rfl ?_
  refine e_getI aX3_findNeighbours_13 fX3_70 ly_1 rfl ?_
  obtain ⟨r2, hr2, h⟩ := of_bind h
  refine e_VI [.int i3, .ref (x.2.2.1 + 139)] aX3_findNeighbours_16 co_X6_pointOfProjective mX3_102 ly_47 rfl rfl (c_X6_pointOfProjective l x (rr_R _ (ix_lt hg1)) hr2) rfl ⟨by decide, by decide⟩ (Nat.le_of_ble_eq_true rfl) rfl ?_
  obtain ⟨hg3, h⟩ := of_guard h
  obtain ⟨M4, eM4, h⟩ := of_lt h
  refine e_ist aX3_findNeighbours_19 ly_139 hg3 eM4 ?_
  refine e_aload_n aX3_findNeighbours_20 rfl ?_
  refine e_getR (r := 99) aX3_findNeighbours_21 fX3_37 ly_57 rfl ?_
  refine e_iload_n aX3_findNeighbours_24 rfl ?_
  refine e_aload_n aX3_findNeighbours_25 rfl ?_
  refine e_aload_n aX3_findNeighbours_26 rfl ?_
  refine e_getR (r := 58) aX3_findNeighbours_27 fX3_21 ly_57 rfl ?_
  refine e_iload_n aX3_findNeighbours_30 rfl ?_
  obtain ⟨hg5, h⟩ := of_guard h
  refine e_aald aX3_findNeighbours_31 ly_58 (by decide) hg5 (ra_R _ (ix_lt hg5)) ?_
  refine e_aload_n aX3_findNeighbours_32 rfl ?_
  refine e_getI aX3_findNeighbours_33 fX3_70 ly_1 rfl ?_
  obtain ⟨r6, hr6, h⟩ := of_bind h
  refine e_VI [.int i3, .ref (x.2.2.1 + 99)] aX3_findNeighbours_36 co_X6_pointOfInjective mX3_107 ly_47 rfl rfl (c_X6_pointOfInjective l x (rr_R _ (ix_lt hg5)) hr6) rfl ⟨by decide, by decide⟩ (Nat.le_of_ble_eq_true rfl) rfl ?_
  obtain ⟨hg7, h⟩ := of_guard h
  obtain ⟨M8, eM8, h⟩ := of_lt h
  refine e_ist aX3_findNeighbours_39 ly_99 hg7 eM8 ?_
  refine e_aload_n aX3_findNeighbours_40 rfl ?_
  refine e_getR (r := 96) aX3_findNeighbours_41 fX3_28 ly_57 rfl ?_
  refine e_iload_n aX3_findNeighbours_44 rfl ?_
  refine e_ldc aX3_findNeighbours_45 kX3_110 ?_
  obtain ⟨hg9, h⟩ := of_guard h
  obtain ⟨M10, eM10, h⟩ := of_lt h
  refine e_ist aX3_findNeighbours_47 ly_96 hg9 eM10 ?_
  refine e_aload_n aX3_findNeighbours_48 rfl ?_
  refine e_getR (r := 139) aX3_findNeighbours_49 fX3_49 ly_57 rfl ?_
  refine e_iload_n aX3_findNeighbours_52 rfl ?_
  obtain ⟨hg11, h⟩ := of_guard h
  refine e_iald aX3_findNeighbours_53 ly_139 hg11 ?_
  refine e_iconst (v := (-1)) aX3_findNeighbours_54 (by decide) ?_
  rcases of_ite h with ⟨hc12, h⟩ | ⟨hc12, h⟩
  · refine e_icmp_ne (tgt := 98) aX3_findNeighbours_55 (by decide) (fun q => absurd hc12 q) (fun _ => ?_)
    refine e_aload_n aX3_findNeighbours_58 rfl ?_
    refine e_getR (r := 58) aX3_findNeighbours_59 fX3_21 ly_57 rfl ?_
    refine e_iload_n aX3_findNeighbours_62 rfl ?_
    obtain ⟨hg13, h⟩ := of_guard h
    refine e_aald aX3_findNeighbours_63 ly_58 (by decide) hg13 (ra_R _ (ix_lt hg13)) ?_
    refine e_aload_n aX3_findNeighbours_64 rfl ?_
    refine e_getR (r := 140) aX3_findNeighbours_65 fX3_52 ly_57 rfl ?_
    obtain ⟨M14, hM14, h⟩ := of_bind h
    refine e_NV [] aX3_findNeighbours_68 co_X7_copyRow mX3_94 (c_X7_copyRow l x (rr_R _ (ix_lt hg13)) ly_140 hM14) rfl ⟨by decide, by decide⟩ (Nat.le_of_ble_eq_true rfl) rfl ?_
    refine e_aload_n aX3_findNeighbours_71 rfl ?_
    refine e_aload_n aX3_findNeighbours_72 rfl ?_
    refine e_aload_n aX3_findNeighbours_73 rfl ?_
    refine e_getR (r := 140) aX3_findNeighbours_74 fX3_52 ly_57 rfl ?_
    obtain ⟨M15, hM15, h⟩ := of_bind h
    refine e_VV [] aX3_findNeighbours_77 co_X6_shiftBack mX3_111 ly_47 rfl rfl (c_X6_shiftBack l x ly_140 hM15) rfl ⟨by decide, by decide⟩ (Nat.le_of_ble_eq_true rfl) rfl ?_
    refine e_aload_n aX3_findNeighbours_80 rfl ?_
    refine e_getR (r := 96) aX3_findNeighbours_81 fX3_28 ly_57 rfl ?_
    refine e_iload_n aX3_findNeighbours_84 rfl ?_
    refine e_aload_n aX3_findNeighbours_85 rfl ?_
    refine e_aload_n aX3_findNeighbours_86 rfl ?_
    refine e_getR (r := 140) aX3_findNeighbours_87 fX3_52 ly_57 rfl ?_
    refine e_aload_n aX3_findNeighbours_90 rfl ?_
    refine e_getI aX3_findNeighbours_91 fX3_70 ly_1 rfl ?_
    obtain ⟨r16, hr16, h⟩ := of_bind h
    refine e_VI [.int i3, .ref (x.2.2.1 + 96)] aX3_findNeighbours_94 co_X3_numberOf mX3_115 ly_57 rfl rfl (c_X3_numberOf l x ly_140 hr16) rfl ⟨by decide, by decide⟩ (Nat.le_of_ble_eq_true rfl) rfl ?_
    obtain ⟨hg17, h⟩ := of_guard h
    obtain ⟨M18, eM18, h⟩ := of_lt h
    refine e_ist aX3_findNeighbours_97 ly_96 hg17 eM18 ?_
    exact e_ret0 aX3_findNeighbours_98 rfl (pV_of h)
  · refine e_icmp_ne (tgt := 98) aX3_findNeighbours_55 (by decide) (fun _ => ?_) (fun q => absurd q hc12)
    exact e_ret0 aX3_findNeighbours_98 rfl (pV_of h)
def s_X3_goBack_4 (i1 : Int32) (M : Mem) (k : Int32 → Int32 → Option Mem) (rec : Int32 → Int32 → Option Mem) (i2 : Int32) (i3 : Int32) : Option Mem :=
  if M 57 1 ≤ i3 then
    k i2 i3
  else
    if i2 < 0 ∨ 36 ≤ i2.toNatClampNeg then none else
    if M 96 i2.toNatClampNeg < 0 then
      k i2 i3
    else
      if i2 < 0 ∨ 36 ≤ i2.toNatClampNeg then none else
      lt (M 96 i2.toNatClampNeg) fun (v5 : Int32) =>
      rec v5 (i3 + 1)
def f_X3_goBack_4 (i1 : Int32) (M : Mem) (k : Int32 → Int32 → Option Mem) : Nat → Int32 → Int32 → Option Mem
  | 0 => fun _ _ => none
  | n + 1 => fun i2 i3 => s_X3_goBack_4 i1 M k (f_X3_goBack_4 i1 M k n) i2 i3
set_option maxRecDepth 100000 in
set_option maxHeartbeats 4000000 in
theorem w_X3_goBack_4 (l : Launch) (x : WX) {i1 : Int32} {M : Mem} {k : Int32 → Int32 → Option Mem} {r : Mem}  (K : ∀ (i2 : Int32) (i3 : Int32), k i2 i3 = some r → Ev l x false cX3_goBack RX3 none 4 0 0 0 (pV r) 34 [some (.ref (x.2.2.1 + 57)), some (.int i1), some (.int i2), some (.int i3)] [] LAY M) : ∀ (n : Nat) (i2 : Int32) (i3 : Int32), f_X3_goBack_4 i1 M k n i2 i3 = some r → Ev l x false cX3_goBack RX3 none 4 0 0 0 (pV r) 4 [some (.ref (x.2.2.1 + 57)), some (.int i1), some (.int i2), some (.int i3)] [] LAY M := by
  intro n
  induction n with
  | zero =>
    intro i2 i3 h
    exact nomatch (show (none : Option Mem) = some r from h)
  | succ n ih =>
    intro i2 i3 h
    have h : s_X3_goBack_4 i1 M k (f_X3_goBack_4 i1 M k n) i2 i3 = some r := h
    unfold s_X3_goBack_4 at h
    refine e_iload_n aX3_goBack_4 rfl ?_
    refine e_aload_n aX3_goBack_5 rfl ?_
    refine e_getI aX3_goBack_6 fX3_15 ly_57 rfl ?_
    rcases of_ite h with ⟨hc1, h⟩ | ⟨hc1, h⟩
    · refine e_icmp_ge (tgt := 34) aX3_goBack_9 (by decide) (fun _ => ?_) (fun q => absurd hc1 q)
      exact K _ _ h
    · refine e_icmp_ge (tgt := 34) aX3_goBack_9 (by decide) (fun q => absurd q hc1) (fun _ => ?_)
      refine e_aload_n aX3_goBack_12 rfl ?_
      refine e_getR (r := 96) aX3_goBack_13 fX3_28 ly_57 rfl ?_
      refine e_iload_n aX3_goBack_16 rfl ?_
      obtain ⟨hg2, h⟩ := of_guard h
      refine e_iald aX3_goBack_17 ly_96 hg2 ?_
      rcases of_ite h with ⟨hc3, h⟩ | ⟨hc3, h⟩
      · refine e_if_lt (tgt := 34) aX3_goBack_18 (by decide) (fun _ => ?_) (fun q => absurd hc3 q)
        exact K _ _ h
      · refine e_if_lt (tgt := 34) aX3_goBack_18 (by decide) (fun q => absurd q hc3) (fun _ => ?_)
        refine e_aload_n aX3_goBack_21 rfl ?_
        refine e_getR (r := 96) aX3_goBack_22 fX3_28 ly_57 rfl ?_
        refine e_iload_n aX3_goBack_25 rfl ?_
        obtain ⟨hg4, h⟩ := of_guard h
        refine e_iald aX3_goBack_26 ly_96 hg4 ?_
        obtain ⟨v5, ev5, h⟩ := of_lt h
        refine e_nameI ev5 ?_
        refine e_istore_n (L2 := [some (.ref (x.2.2.1 + 57)), some (.int i1), some (.int v5), some (.int i3)]) aX3_goBack_27 ⟨by decide, rfl⟩ rfl ?_
        refine e_iinc (v := i3 + 1) (L2 := [some (.ref (x.2.2.1 + 57)), some (.int i1), some (.int v5), some (.int (i3 + 1))]) aX3_goBack_28 rfl rfl ⟨by decide, rfl⟩ rfl ?_
        refine e_goto (tgt := 4) aX3_goBack_31 (by decide) ?_
        exact ih _ _ h
def f_X3_goBack (i1 : Int32) (M : Mem) : Option Mem :=
  f_X3_goBack_4 i1 M (fun (i2_1 : Int32) (i3_2 : Int32) =>
    if i1 < 0 ∨ 36 ≤ i1.toNatClampNeg then none else
    lt (um M 97 i1.toNatClampNeg i3_2) fun (M4 : Mem) =>
    if i2_1 < 0 ∨ 36 ≤ i2_1.toNatClampNeg then none else
    if i1 < 0 ∨ 36 ≤ i1.toNatClampNeg then none else
    lt (um M4 98 i1.toNatClampNeg (M4 139 i2_1.toNatClampNeg)) fun (M7 : Mem) =>
    some M7) FU i1 0
set_option maxRecDepth 100000 in
set_option maxHeartbeats 4000000 in
theorem c_X3_goBack (l : Launch) (x : WX) {i1 : Int32} {M : Mem} {r : Mem}  (h : f_X3_goBack i1 M = some r) : Mt l x false yX3_goBack cX3_goBack 4 none 0 0 0 [.ref (x.2.2.1 + 57), .int i1] LAY M (pV r) := by
  refine mt_of (L0 := [some (.ref (x.2.2.1 + 57)), some (.int i1), none, none]) (by decide +kernel) rfl (Nat.le_of_ble_eq_true rfl) (lvA_of 2 rfl) ?_
  unfold f_X3_goBack at h
  refine e_iload_n aX3_goBack_0 rfl ?_
  refine e_istore_n (L2 := [some (.ref (x.2.2.1 + 57)), some (.int i1), some (.int i1), none]) aX3_goBack_1 ⟨by decide, rfl⟩ rfl ?_
  refine e_iconst (v := 0) aX3_goBack_2 (by decide) ?_
  refine e_istore_n (L2 := [some (.ref (x.2.2.1 + 57)), some (.int i1), some (.int i1), some (.int 0)]) aX3_goBack_3 ⟨by decide, rfl⟩ rfl ?_
  refine w_X3_goBack_4 l x  (fun i2_1 i3_2 h => ?_) FU _ _ h
  refine e_aload_n aX3_goBack_34 rfl ?_
  refine e_getR (r := 97) aX3_goBack_35 fX3_31 ly_57 rfl ?_
  refine e_iload_n aX3_goBack_38 rfl ?_
  refine e_iload_n aX3_goBack_39 rfl ?_
  obtain ⟨hg3, h⟩ := of_guard h
  obtain ⟨M4, eM4, h⟩ := of_lt h
  refine e_ist aX3_goBack_40 ly_97 hg3 eM4 ?_
  refine e_aload_n aX3_goBack_41 rfl ?_
  refine e_getR (r := 98) aX3_goBack_42 fX3_34 ly_57 rfl ?_
  refine e_iload_n aX3_goBack_45 rfl ?_
  refine e_aload_n aX3_goBack_46 rfl ?_
  refine e_getR (r := 139) aX3_goBack_47 fX3_49 ly_57 rfl ?_
  refine e_iload_n aX3_goBack_50 rfl ?_
  obtain ⟨hg5, h⟩ := of_guard h
  refine e_iald aX3_goBack_51 ly_139 hg5 ?_
  obtain ⟨hg6, h⟩ := of_guard h
  obtain ⟨M7, eM7, h⟩ := of_lt h
  refine e_ist aX3_goBack_52 ly_98 hg6 eM7 ?_
  exact e_ret0 aX3_goBack_53 rfl (pV_of h)
def s_X3_learn_23  (k : Int32 → Mem → Option Mem) (rec : Int32 → Mem → Option Mem) (i3 : Int32) (M : Mem) : Option Mem :=
  if M 57 1 ≤ i3 then
    k i3 M
  else
    (f_X3_findNeighbours i3 M).bind fun (M2 : Mem) =>
    rec (i3 + 1) M2
def f_X3_learn_23  (k : Int32 → Mem → Option Mem) : Nat → Int32 → Mem → Option Mem
  | 0 => fun _ _ => none
  | n + 1 => fun i3 M => s_X3_learn_23  k (f_X3_learn_23  k n) i3 M
set_option maxRecDepth 100000 in
set_option maxHeartbeats 4000000 in
theorem w_X3_learn_23 (l : Launch) (x : WX)  {k : Int32 → Mem → Option Mem} {r : Mem}  (K : ∀ (i3 : Int32) (M : Mem), k i3 M = some r → Ev l x false cX3_learn RX3 none 4 4 0 0 (pV r) 44 [some (.ref (x.2.2.1 + 57)), some (.ref (x.2.2.1 + 1)), some (.ref (x.2.2.1 + 47)), some (.int i3)] [] LAY M) : ∀ (n : Nat) (i3 : Int32) (M : Mem), f_X3_learn_23  k n i3 M = some r → Ev l x false cX3_learn RX3 none 4 4 0 0 (pV r) 23 [some (.ref (x.2.2.1 + 57)), some (.ref (x.2.2.1 + 1)), some (.ref (x.2.2.1 + 47)), some (.int i3)] [] LAY M := by
  intro n
  induction n with
  | zero =>
    intro i3 M h
    exact nomatch (show (none : Option Mem) = some r from h)
  | succ n ih =>
    intro i3 M h
    have h : s_X3_learn_23  k (f_X3_learn_23  k n) i3 M = some r := h
    unfold s_X3_learn_23 at h
    refine e_iload_n aX3_learn_23 rfl ?_
    refine e_aload_n aX3_learn_24 rfl ?_
    refine e_getI aX3_learn_25 fX3_15 ly_57 rfl ?_
    rcases of_ite h with ⟨hc1, h⟩ | ⟨hc1, h⟩
    · refine e_icmp_ge (tgt := 44) aX3_learn_28 (by decide) (fun _ => ?_) (fun q => absurd hc1 q)
      exact K _ _ h
    · refine e_icmp_ge (tgt := 44) aX3_learn_28 (by decide) (fun q => absurd q hc1) (fun _ => ?_)
      refine e_aload_n aX3_learn_31 rfl ?_
      refine e_aload_n aX3_learn_32 rfl ?_
      refine e_aload_n aX3_learn_33 rfl ?_
      refine e_iload_n aX3_learn_34 rfl ?_
      obtain ⟨M2, hM2, h⟩ := of_bind h
      refine e_VV [] aX3_learn_35 co_X3_findNeighbours mX3_62 ly_57 rfl rfl (c_X3_findNeighbours l x hM2) rfl ⟨by decide, by decide⟩ (Nat.le_of_ble_eq_true rfl) rfl ?_
      refine e_iinc (v := i3 + 1) (L2 := [some (.ref (x.2.2.1 + 57)), some (.ref (x.2.2.1 + 1)), some (.ref (x.2.2.1 + 47)), some (.int (i3 + 1))]) aX3_learn_38 rfl rfl ⟨by decide, rfl⟩ rfl ?_
      refine e_goto (tgt := 23) aX3_learn_41 (by decide) ?_
      exact ih _ _ h
def s_X3_learn_46  (k : Int32 → Mem → Option Mem) (rec : Int32 → Mem → Option Mem) (i3 : Int32) (M : Mem) : Option Mem :=
  if M 57 1 ≤ i3 then
    k i3 M
  else
    (f_X3_goBack i3 M).bind fun (M2 : Mem) =>
    rec (i3 + 1) M2
def f_X3_learn_46  (k : Int32 → Mem → Option Mem) : Nat → Int32 → Mem → Option Mem
  | 0 => fun _ _ => none
  | n + 1 => fun i3 M => s_X3_learn_46  k (f_X3_learn_46  k n) i3 M
set_option maxRecDepth 100000 in
set_option maxHeartbeats 4000000 in
theorem w_X3_learn_46 (l : Launch) (x : WX)  {k : Int32 → Mem → Option Mem} {r : Mem}  (K : ∀ (i3 : Int32) (M : Mem), k i3 M = some r → Ev l x false cX3_learn RX3 none 4 4 0 0 (pV r) 65 [some (.ref (x.2.2.1 + 57)), some (.ref (x.2.2.1 + 1)), some (.ref (x.2.2.1 + 47)), some (.int i3)] [] LAY M) : ∀ (n : Nat) (i3 : Int32) (M : Mem), f_X3_learn_46  k n i3 M = some r → Ev l x false cX3_learn RX3 none 4 4 0 0 (pV r) 46 [some (.ref (x.2.2.1 + 57)), some (.ref (x.2.2.1 + 1)), some (.ref (x.2.2.1 + 47)), some (.int i3)] [] LAY M := by
  intro n
  induction n with
  | zero =>
    intro i3 M h
    exact nomatch (show (none : Option Mem) = some r from h)
  | succ n ih =>
    intro i3 M h
    have h : s_X3_learn_46  k (f_X3_learn_46  k n) i3 M = some r := h
    unfold s_X3_learn_46 at h
    refine e_iload_n aX3_learn_46 rfl ?_
    refine e_aload_n aX3_learn_47 rfl ?_
    refine e_getI aX3_learn_48 fX3_15 ly_57 rfl ?_
    rcases of_ite h with ⟨hc1, h⟩ | ⟨hc1, h⟩
    · refine e_icmp_ge (tgt := 65) aX3_learn_51 (by decide) (fun _ => ?_) (fun q => absurd hc1 q)
      exact K _ _ h
    · refine e_icmp_ge (tgt := 65) aX3_learn_51 (by decide) (fun q => absurd q hc1) (fun _ => ?_)
      refine e_aload_n aX3_learn_54 rfl ?_
      refine e_iload_n aX3_learn_55 rfl ?_
      obtain ⟨M2, hM2, h⟩ := of_bind h
      refine e_VV [] aX3_learn_56 co_X3_goBack mX3_66 ly_57 rfl rfl (c_X3_goBack l x hM2) rfl ⟨by decide, by decide⟩ (Nat.le_of_ble_eq_true rfl) rfl ?_
      refine e_iinc (v := i3 + 1) (L2 := [some (.ref (x.2.2.1 + 57)), some (.ref (x.2.2.1 + 1)), some (.ref (x.2.2.1 + 47)), some (.int (i3 + 1))]) aX3_learn_59 rfl rfl ⟨by decide, rfl⟩ rfl ?_
      refine e_goto (tgt := 46) aX3_learn_62 (by decide) ?_
      exact ih _ _ h
def f_X3_learn  (M : Mem) : Option Mem :=
  (f_X3_search M).bind fun (q1 : Int32 × Mem) =>
  if ¬ (q1.1 = 0 ∨ q1.1 = 1) then none else
  lt (um q1.2 57 0 q1.1) fun (M3 : Mem) =>
  if M3 57 0 = 0 then
    some M3
  else
    (f_X3_giveNumbers M3).bind fun (M5 : Mem) =>
    f_X3_learn_23  (fun (i3_6 : Int32) (M7 : Mem) =>
      f_X3_learn_46  (fun (i3_8 : Int32) (M9 : Mem) =>
        some M9) FU 0 M7) FU 0 M5
set_option maxRecDepth 100000 in
set_option maxHeartbeats 4000000 in
theorem c_X3_learn (l : Launch) (x : WX)  {M : Mem} {r : Mem}  (h : f_X3_learn  M = some r) : Mt l x false yX3_learn cX3_learn 4 none 4 0 0 [.ref (x.2.2.1 + 57), .ref (x.2.2.1 + 1), .ref (x.2.2.1 + 47)] LAY M (pV r) := by
  refine mt_of (L0 := [some (.ref (x.2.2.1 + 57)), some (.ref (x.2.2.1 + 1)), some (.ref (x.2.2.1 + 47)), none]) (by decide +kernel) rfl (Nat.le_of_ble_eq_true rfl) (lvA_of 1 rfl) ?_
  unfold f_X3_learn at h
  refine e_aload_n aX3_learn_0 rfl ?_
  refine e_aload_n aX3_learn_1 rfl ?_
  refine e_aload_n aX3_learn_2 rfl ?_
  obtain ⟨q1, hq1, h⟩ := of_bind h
  refine e_VI [.ref (x.2.2.1 + 57)] aX3_learn_3 co_X3_search mX3_55 ly_57 rfl rfl (c_X3_search l x hq1) rfl ⟨by decide, by decide⟩ (Nat.le_of_ble_eq_true rfl) rfl ?_
  obtain ⟨hg2, h⟩ := of_guard h
  obtain ⟨M3, eM3, h⟩ := of_lt h
  refine e_put aX3_learn_6 qX3_9 ly_57 rfl (fz_of (Decidable.of_not_not hg2)) eM3 ?_
  refine e_aload_n aX3_learn_9 rfl ?_
  refine e_getI aX3_learn_10 fX3_9 ly_57 rfl ?_
  rcases of_ite h with ⟨hc4, h⟩ | ⟨hc4, h⟩
  · refine e_if_ne (tgt := 17) aX3_learn_13 (by decide) (fun q => absurd hc4 q) (fun _ => ?_)
    exact e_ret0 aX3_learn_16 rfl (pV_of h)
  · refine e_if_ne (tgt := 17) aX3_learn_13 (by decide) (fun _ => ?_) (fun q => absurd q hc4)
    refine e_aload_n aX3_learn_17 rfl ?_
    obtain ⟨M5, hM5, h⟩ := of_bind h
    refine e_VV [] aX3_learn_18 co_X3_giveNumbers mX3_59 ly_57 rfl rfl (c_X3_giveNumbers l x hM5) rfl ⟨by decide, by decide⟩ (Nat.le_of_ble_eq_true rfl) rfl ?_
    refine e_iconst (v := 0) aX3_learn_21 (by decide) ?_
    refine e_istore_n (L2 := [some (.ref (x.2.2.1 + 57)), some (.ref (x.2.2.1 + 1)), some (.ref (x.2.2.1 + 47)), some (.int 0)]) aX3_learn_22 ⟨by decide, rfl⟩ rfl ?_
    refine w_X3_learn_23 l x  (fun i3_6 M7 h => ?_) FU _ _ h
    refine e_iconst (v := 0) aX3_learn_44 (by decide) ?_
    refine e_istore_n (L2 := [some (.ref (x.2.2.1 + 57)), some (.ref (x.2.2.1 + 1)), some (.ref (x.2.2.1 + 47)), some (.int 0)]) aX3_learn_45 ⟨by decide, rfl⟩ rfl ?_
    refine w_X3_learn_46 l x  (fun i3_8 M9 h => ?_) FU _ _ h
    exact e_ret0 aX3_learn_65 rfl (pV_of h)
def f_X3_has (i1 : Int32) (M : Mem) : Option Int32 :=
  if i1 < 0 then
    some 0
  else
    if M 57 1 ≤ i1 then
      some 0
    else
      some 1
set_option maxRecDepth 100000 in
set_option maxHeartbeats 4000000 in
theorem c_X3_has (l : Launch) (x : WX) {i1 : Int32} {M : Mem} {r : Int32}  (h : f_X3_has i1 M = some r) : Mt l x false yX3_has cX3_has 2 (some FieldType.boolean) 0 0 0 [.ref (x.2.2.1 + 57), .int i1] LAY M (pI r M) := by
  refine mt_of (L0 := [some (.ref (x.2.2.1 + 57)), some (.int i1)]) (by decide +kernel) rfl (Nat.le_of_ble_eq_true rfl) (lvA_of 0 rfl) ?_
  unfold f_X3_has at h
  refine e_iload_n aX3_has_0 rfl ?_
  rcases of_ite h with ⟨hc1, h⟩ | ⟨hc1, h⟩
  · refine e_if_lt (tgt := 16) aX3_has_1 (by decide) (fun _ => ?_) (fun q => absurd hc1 q)
    refine e_iconst (v := 0) aX3_has_16 (by decide) ?_
    exact e_retI aX3_has_17 rfl (by decide +kernel) (pI_ro h)
  · refine e_if_lt (tgt := 16) aX3_has_1 (by decide) (fun q => absurd q hc1) (fun _ => ?_)
    refine e_iload_n aX3_has_4 rfl ?_
    refine e_aload_n aX3_has_5 rfl ?_
    refine e_getI aX3_has_6 fX3_15 ly_57 rfl ?_
    rcases of_ite h with ⟨hc2, h⟩ | ⟨hc2, h⟩
    · refine e_icmp_ge (tgt := 16) aX3_has_9 (by decide) (fun _ => ?_) (fun q => absurd hc2 q)
      refine e_iconst (v := 0) aX3_has_16 (by decide) ?_
      exact e_retI aX3_has_17 rfl (by decide +kernel) (pI_ro h)
    · refine e_icmp_ge (tgt := 16) aX3_has_9 (by decide) (fun q => absurd q hc2) (fun _ => ?_)
      refine e_iconst (v := 1) aX3_has_12 (by decide) ?_
      refine e_goto (tgt := 17) aX3_has_13 (by decide) ?_
      exact e_retI aX3_has_17 rfl (by decide +kernel) (pI_ro h)
def f_X3_meshTotal (i1 : Int32) (M : Mem) : Option Int32 :=
  if i1 < 0 ∨ 36 ≤ i1.toNatClampNeg then none else
  if 0 ≤ M 96 i1.toNatClampNeg then
    if i1 < 0 ∨ 36 ≤ i1.toNatClampNeg then none else
    if i1 < 0 ∨ 36 ≤ i1.toNatClampNeg then none else
    if M 96 i1.toNatClampNeg < 0 ∨ 36 ≤ (M 96 i1.toNatClampNeg).toNatClampNeg then none else
    some ((M 95 i1.toNatClampNeg) + (M 95 (M 96 i1.toNatClampNeg).toNatClampNeg))
  else
    some (-1000000)
set_option maxRecDepth 100000 in
set_option maxHeartbeats 4000000 in
theorem c_X3_meshTotal (l : Launch) (x : WX) {i1 : Int32} {M : Mem} {r : Int32}  (h : f_X3_meshTotal i1 M = some r) : Mt l x false yX3_meshTotal cX3_meshTotal 2 (some FieldType.int) 0 0 0 [.ref (x.2.2.1 + 57), .int i1] LAY M (pI r M) := by
  refine mt_of (L0 := [some (.ref (x.2.2.1 + 57)), some (.int i1)]) (by decide +kernel) rfl (Nat.le_of_ble_eq_true rfl) (lvA_of 0 rfl) ?_
  unfold f_X3_meshTotal at h
  refine e_aload_n aX3_meshTotal_0 rfl ?_
  refine e_getR (r := 96) aX3_meshTotal_1 fX3_28 ly_57 rfl ?_
  refine e_iload_n aX3_meshTotal_4 rfl ?_
  obtain ⟨hg1, h⟩ := of_guard h
  refine e_iald aX3_meshTotal_5 ly_96 hg1 ?_
  rcases of_ite h with ⟨hc2, h⟩ | ⟨hc2, h⟩
  · refine e_if_ge (tgt := 14) aX3_meshTotal_6 (by decide) (fun _ => ?_) (fun q => absurd hc2 q)
    refine e_aload_n aX3_meshTotal_14 rfl ?_
    refine e_getR (r := 95) aX3_meshTotal_15 fX3_24 ly_57 rfl ?_
    refine e_iload_n aX3_meshTotal_18 rfl ?_
    obtain ⟨hg3, h⟩ := of_guard h
    refine e_iald aX3_meshTotal_19 ly_95 hg3 ?_
    refine e_aload_n aX3_meshTotal_20 rfl ?_
    refine e_getR (r := 95) aX3_meshTotal_21 fX3_24 ly_57 rfl ?_
    refine e_aload_n aX3_meshTotal_24 rfl ?_
    refine e_getR (r := 96) aX3_meshTotal_25 fX3_28 ly_57 rfl ?_
    refine e_iload_n aX3_meshTotal_28 rfl ?_
    obtain ⟨hg4, h⟩ := of_guard h
    refine e_iald aX3_meshTotal_29 ly_96 hg4 ?_
    obtain ⟨hg5, h⟩ := of_guard h
    refine e_iald aX3_meshTotal_30 ly_95 hg5 ?_
    refine e_iadd aX3_meshTotal_31 ?_
    exact e_retI aX3_meshTotal_32 rfl rfl (pI_ro h)
  · refine e_if_ge (tgt := 14) aX3_meshTotal_6 (by decide) (fun q => absurd q hc2) (fun _ => ?_)
    refine e_ldc aX3_meshTotal_9 kX3_110 ?_
    refine e_goto (tgt := 32) aX3_meshTotal_11 (by decide) ?_
    exact e_retI aX3_meshTotal_32 rfl rfl (pI_ro h)
def s_X3_deepest_4  (M : Mem) (k : Int32 → Int32 → Option Int32) (rec : Int32 → Int32 → Option Int32) (i1 : Int32) (i2 : Int32) : Option Int32 :=
  if M 57 1 ≤ i2 then
    k i1 i2
  else
    if i2 < 0 ∨ 36 ≤ i2.toNatClampNeg then none else
    lt (mx i1 (M 97 i2.toNatClampNeg)) fun (v3 : Int32) =>
    rec v3 (i2 + 1)
def f_X3_deepest_4  (M : Mem) (k : Int32 → Int32 → Option Int32) : Nat → Int32 → Int32 → Option Int32
  | 0 => fun _ _ => none
  | n + 1 => fun i1 i2 => s_X3_deepest_4  M k (f_X3_deepest_4  M k n) i1 i2
set_option maxRecDepth 100000 in
set_option maxHeartbeats 4000000 in
theorem w_X3_deepest_4 (l : Launch) (x : WX)  {M : Mem} {k : Int32 → Int32 → Option Int32} {r : Int32}  (K : ∀ (i1 : Int32) (i2 : Int32), k i1 i2 = some r → Ev l x false cX3_deepest RX3 (some FieldType.int) 3 1 0 0 (pI r M) 29 [some (.ref (x.2.2.1 + 57)), some (.int i1), some (.int i2)] [] LAY M) : ∀ (n : Nat) (i1 : Int32) (i2 : Int32), f_X3_deepest_4  M k n i1 i2 = some r → Ev l x false cX3_deepest RX3 (some FieldType.int) 3 1 0 0 (pI r M) 4 [some (.ref (x.2.2.1 + 57)), some (.int i1), some (.int i2)] [] LAY M := by
  intro n
  induction n with
  | zero =>
    intro i1 i2 h
    exact nomatch (show (none : Option Int32) = some r from h)
  | succ n ih =>
    intro i1 i2 h
    have h : s_X3_deepest_4  M k (f_X3_deepest_4  M k n) i1 i2 = some r := h
    unfold s_X3_deepest_4 at h
    refine e_iload_n aX3_deepest_4 rfl ?_
    refine e_aload_n aX3_deepest_5 rfl ?_
    refine e_getI aX3_deepest_6 fX3_15 ly_57 rfl ?_
    rcases of_ite h with ⟨hc1, h⟩ | ⟨hc1, h⟩
    · refine e_icmp_ge (tgt := 29) aX3_deepest_9 (by decide) (fun _ => ?_) (fun q => absurd hc1 q)
      exact K _ _ h
    · refine e_icmp_ge (tgt := 29) aX3_deepest_9 (by decide) (fun q => absurd q hc1) (fun _ => ?_)
      refine e_iload_n aX3_deepest_12 rfl ?_
      refine e_aload_n aX3_deepest_13 rfl ?_
      refine e_getR (r := 97) aX3_deepest_14 fX3_31 ly_57 rfl ?_
      refine e_iload_n aX3_deepest_17 rfl ?_
      obtain ⟨hg2, h⟩ := of_guard h
      refine e_iald aX3_deepest_18 ly_97 hg2 ?_
      refine e_max aX3_deepest_19 mX3_122 (by decide) (Nat.le_of_ble_eq_true rfl) ?_
      obtain ⟨v3, ev3, h⟩ := of_lt h
      refine e_nameI ev3 ?_
      refine e_istore_n (L2 := [some (.ref (x.2.2.1 + 57)), some (.int v3), some (.int i2)]) aX3_deepest_22 ⟨by decide, rfl⟩ rfl ?_
      refine e_iinc (v := i2 + 1) (L2 := [some (.ref (x.2.2.1 + 57)), some (.int v3), some (.int (i2 + 1))]) aX3_deepest_23 rfl rfl ⟨by decide, rfl⟩ rfl ?_
      refine e_goto (tgt := 4) aX3_deepest_26 (by decide) ?_
      exact ih _ _ h
def f_X3_deepest  (M : Mem) : Option Int32 :=
  f_X3_deepest_4  M (fun (i1_1 : Int32) (i2_2 : Int32) =>
    some i1_1) FU 0 0
set_option maxRecDepth 100000 in
set_option maxHeartbeats 4000000 in
theorem c_X3_deepest (l : Launch) (x : WX)  {M : Mem} {r : Int32}  (h : f_X3_deepest  M = some r) : Mt l x false yX3_deepest cX3_deepest 3 (some FieldType.int) 1 0 0 [.ref (x.2.2.1 + 57)] LAY M (pI r M) := by
  refine mt_of (L0 := [some (.ref (x.2.2.1 + 57)), none, none]) (by decide +kernel) rfl (Nat.le_of_ble_eq_true rfl) (lvA_of 2 rfl) ?_
  unfold f_X3_deepest at h
  refine e_iconst (v := 0) aX3_deepest_0 (by decide) ?_
  refine e_istore_n (L2 := [some (.ref (x.2.2.1 + 57)), some (.int 0), none]) aX3_deepest_1 ⟨by decide, rfl⟩ rfl ?_
  refine e_iconst (v := 0) aX3_deepest_2 (by decide) ?_
  refine e_istore_n (L2 := [some (.ref (x.2.2.1 + 57)), some (.int 0), some (.int 0)]) aX3_deepest_3 ⟨by decide, rfl⟩ rfl ?_
  refine w_X3_deepest_4 l x  (fun i1_1 i2_2 h => ?_) FU _ _ h
  refine e_iload_n aX3_deepest_29 rfl ?_
  exact e_retI aX3_deepest_30 rfl rfl (pI_ro h)
def f_X4_lastRow (p0 : Nat) (M : Mem) : Option Nat :=
  if (M p0 1) - 1 < 0 ∨ 4 ≤ ((M p0 1) - 1).toNatClampNeg then none else
  some (p0 + 2 + ((M p0 1) - 1).toNatClampNeg)
set_option maxRecDepth 100000 in
set_option maxHeartbeats 4000000 in
theorem c_X4_lastRow (l : Launch) (x : WX) {p0 : Nat} {M : Mem} {r : Nat} (hp0 : SA p0) (h : f_X4_lastRow p0 M = some r) : Mt l x false yX4_lastRow cX4_lastRow 1 (some ((FieldType.array FieldType.int))) 0 0 0 [.ref (x.2.2.1 + p0)] LAY M (pA x r M) := by
  refine mt_of (L0 := [some (.ref (x.2.2.1 + p0))]) (by decide +kernel) rfl (Nat.le_of_ble_eq_true rfl) (lvA_of 0 rfl) ?_
  unfold f_X4_lastRow at h
  refine e_aload_n aX4_lastRow_0 rfl ?_
  refine e_getR (r := p0 + 1) aX4_lastRow_1 fX4_21 hp0.1 rfl ?_
  refine e_aload_n aX4_lastRow_4 rfl ?_
  refine e_getI aX4_lastRow_5 fX4_15 hp0.1 rfl ?_
  refine e_iconst (v := 1) aX4_lastRow_8 (by decide) ?_
  refine e_isub aX4_lastRow_9 ?_
  obtain ⟨hg1, h⟩ := of_guard h
  refine e_aald (t := 2) aX4_lastRow_10 hp0.2.1 (by decide) hg1 (sa_ra _ _ (ix_lt hg1)) ?_
  exact e_retR aX4_lastRow_11 rfl (pA_ro h)
theorem lr_X4_lastRow {p0 : Nat} {M : Mem} {r : Nat} (hp0 : SA p0) (h : f_X4_lastRow p0 M = some r) : LAY[r]? = some (1, 6, []) := by
  unfold f_X4_lastRow at h
  obtain ⟨hg, h⟩ := of_guard h
  cases h
  exact hp0.2.2.1 _ (ix_lt hg)
def f_X5_kindOf (i0 : Int32) (M : Mem) : Option Int32 :=
  if i0 < 97 then
    if i0 < 48 then
      some 3
    else
      if 57 < i0 then
        some 3
      else
        some 2
  else
    if 122 < i0 then
      if i0 < 48 then
        some 3
      else
        if 57 < i0 then
          some 3
        else
          some 2
    else
      some 1
set_option maxRecDepth 100000 in
set_option maxHeartbeats 4000000 in
theorem c_X5_kindOf (l : Launch) (x : WX) {i0 : Int32} {M : Mem} {r : Int32}  (h : f_X5_kindOf i0 M = some r) : Mt l x false yX5_kindOf cX5_kindOf 1 (some FieldType.int) 0 0 0 [.int i0] LAY M (pI r M) := by
  refine mt_of (L0 := [some (.int i0)]) (by decide +kernel) rfl (Nat.le_of_ble_eq_true rfl) (lvA_of 0 rfl) ?_
  unfold f_X5_kindOf at h
  refine e_iload_n aX5_kindOf_0 rfl ?_
  refine e_bipush (v := 97) aX5_kindOf_1 (by decide) ?_
  rcases of_ite h with ⟨hc1, h⟩ | ⟨hc1, h⟩
  · refine e_icmp_lt (tgt := 14) aX5_kindOf_3 (by decide) (fun _ => ?_) (fun q => absurd hc1 q)
    refine e_iload_n aX5_kindOf_14 rfl ?_
    refine e_bipush (v := 48) aX5_kindOf_15 (by decide) ?_
    rcases of_ite h with ⟨hc2, h⟩ | ⟨hc2, h⟩
    · refine e_icmp_lt (tgt := 30) aX5_kindOf_17 (by decide) (fun _ => ?_) (fun q => absurd hc2 q)
      refine e_iconst (v := 3) aX5_kindOf_30 (by decide) ?_
      exact e_retI aX5_kindOf_31 rfl rfl (pI_ro h)
    · refine e_icmp_lt (tgt := 30) aX5_kindOf_17 (by decide) (fun q => absurd q hc2) (fun _ => ?_)
      refine e_iload_n aX5_kindOf_20 rfl ?_
      refine e_bipush (v := 57) aX5_kindOf_21 (by decide) ?_
      rcases of_ite h with ⟨hc3, h⟩ | ⟨hc3, h⟩
      · refine e_icmp_gt (tgt := 30) aX5_kindOf_23 (by decide) (fun _ => ?_) (fun q => absurd hc3 q)
        refine e_iconst (v := 3) aX5_kindOf_30 (by decide) ?_
        exact e_retI aX5_kindOf_31 rfl rfl (pI_ro h)
      · refine e_icmp_gt (tgt := 30) aX5_kindOf_23 (by decide) (fun q => absurd q hc3) (fun _ => ?_)
        refine e_iconst (v := 2) aX5_kindOf_26 (by decide) ?_
        refine e_goto (tgt := 31) aX5_kindOf_27 (by decide) ?_
        exact e_retI aX5_kindOf_31 rfl rfl (pI_ro h)
  · refine e_icmp_lt (tgt := 14) aX5_kindOf_3 (by decide) (fun q => absurd q hc1) (fun _ => ?_)
    refine e_iload_n aX5_kindOf_6 rfl ?_
    refine e_bipush (v := 122) aX5_kindOf_7 (by decide) ?_
    rcases of_ite h with ⟨hc4, h⟩ | ⟨hc4, h⟩
    · refine e_icmp_gt (tgt := 14) aX5_kindOf_9 (by decide) (fun _ => ?_) (fun q => absurd hc4 q)
      refine e_iload_n aX5_kindOf_14 rfl ?_
      refine e_bipush (v := 48) aX5_kindOf_15 (by decide) ?_
      rcases of_ite h with ⟨hc5, h⟩ | ⟨hc5, h⟩
      · refine e_icmp_lt (tgt := 30) aX5_kindOf_17 (by decide) (fun _ => ?_) (fun q => absurd hc5 q)
        refine e_iconst (v := 3) aX5_kindOf_30 (by decide) ?_
        exact e_retI aX5_kindOf_31 rfl rfl (pI_ro h)
      · refine e_icmp_lt (tgt := 30) aX5_kindOf_17 (by decide) (fun q => absurd q hc5) (fun _ => ?_)
        refine e_iload_n aX5_kindOf_20 rfl ?_
        refine e_bipush (v := 57) aX5_kindOf_21 (by decide) ?_
        rcases of_ite h with ⟨hc6, h⟩ | ⟨hc6, h⟩
        · refine e_icmp_gt (tgt := 30) aX5_kindOf_23 (by decide) (fun _ => ?_) (fun q => absurd hc6 q)
          refine e_iconst (v := 3) aX5_kindOf_30 (by decide) ?_
          exact e_retI aX5_kindOf_31 rfl rfl (pI_ro h)
        · refine e_icmp_gt (tgt := 30) aX5_kindOf_23 (by decide) (fun q => absurd q hc6) (fun _ => ?_)
          refine e_iconst (v := 2) aX5_kindOf_26 (by decide) ?_
          refine e_goto (tgt := 31) aX5_kindOf_27 (by decide) ?_
          exact e_retI aX5_kindOf_31 rfl rfl (pI_ro h)
    · refine e_icmp_gt (tgt := 14) aX5_kindOf_9 (by decide) (fun q => absurd q hc4) (fun _ => ?_)
      refine e_iconst (v := 1) aX5_kindOf_12 (by decide) ?_
      exact e_retI aX5_kindOf_13 rfl rfl (pI_ro h)
def s_X5_nextToken_8  (k : Mem → Option Mem) (rec : Mem → Option Mem) (M : Mem) : Option Mem :=
  if M 45 1 ≤ M 45 4 then
    k M
  else
    if M 45 4 < 0 ∨ 200 ≤ (M 45 4).toNatClampNeg then none else
    if M 46 (M 45 4).toNatClampNeg = 32 then
      lt (um M 45 4 ((M 45 4) + 1)) fun (M4 : Mem) =>
      rec M4
    else
      k M
def f_X5_nextToken_8  (k : Mem → Option Mem) : Nat → Mem → Option Mem
  | 0 => fun _ => none
  | n + 1 => fun M => s_X5_nextToken_8  k (f_X5_nextToken_8  k n) M
set_option maxRecDepth 100000 in
set_option maxHeartbeats 4000000 in
theorem w_X5_nextToken_8 (l : Launch) (x : WX)  {k : Mem → Option Mem} {r : Mem}  (K : ∀ (M : Mem), k M = some r → Ev l x false cX5_nextToken RX5 none 1 1 0 0 (pV r) 46 [some (.ref (x.2.2.1 + 45))] [] LAY M) : ∀ (n : Nat) (M : Mem), f_X5_nextToken_8  k n M = some r → Ev l x false cX5_nextToken RX5 none 1 1 0 0 (pV r) 8 [some (.ref (x.2.2.1 + 45))] [] LAY M := by
  intro n
  induction n with
  | zero =>
    intro M h
    exact nomatch (show (none : Option Mem) = some r from h)
  | succ n ih =>
    intro M h
    have h : s_X5_nextToken_8  k (f_X5_nextToken_8  k n) M = some r := h
    unfold s_X5_nextToken_8 at h
    refine e_aload_n aX5_nextToken_8 rfl ?_
    refine e_getI aX5_nextToken_9 fX5_25 ly_45 rfl ?_
    refine e_aload_n aX5_nextToken_12 rfl ?_
    refine e_getI aX5_nextToken_13 fX5_15 ly_45 rfl ?_
    rcases of_ite h with ⟨hc1, h⟩ | ⟨hc1, h⟩
    · refine e_icmp_ge (tgt := 46) aX5_nextToken_16 (by decide) (fun _ => ?_) (fun q => absurd hc1 q)
      exact K _ h
    · refine e_icmp_ge (tgt := 46) aX5_nextToken_16 (by decide) (fun q => absurd q hc1) (fun _ => ?_)
      refine e_aload_n aX5_nextToken_19 rfl ?_
      refine e_getR (r := 46) aX5_nextToken_20 fX5_9 ly_45 rfl ?_
      refine e_aload_n aX5_nextToken_23 rfl ?_
      refine e_getI aX5_nextToken_24 fX5_25 ly_45 rfl ?_
      obtain ⟨hg2, h⟩ := of_guard h
      refine e_iald aX5_nextToken_27 ly_46 hg2 ?_
      refine e_bipush (v := 32) aX5_nextToken_28 (by decide) ?_
      rcases of_ite h with ⟨hc3, h⟩ | ⟨hc3, h⟩
      · refine e_icmp_ne (tgt := 46) aX5_nextToken_30 (by decide) (fun q => absurd hc3 q) (fun _ => ?_)
        refine e_aload_n aX5_nextToken_33 rfl ?_
        refine e_dupR aX5_nextToken_34 ?_
        refine e_getI aX5_nextToken_35 fX5_25 ly_45 rfl ?_
        refine e_iconst (v := 1) aX5_nextToken_38 (by decide) ?_
        refine e_iadd aX5_nextToken_39 ?_
        obtain ⟨M4, eM4, h⟩ := of_lt h
        refine e_put aX5_nextToken_40 qX5_25 ly_45 rfl (fi_of _) eM4 ?_
        refine e_goto (tgt := 8) aX5_nextToken_43 (by decide) ?_
        exact ih _ h
      · refine e_icmp_ne (tgt := 46) aX5_nextToken_30 (by decide) (fun _ => ?_) (fun q => absurd q hc3)
        exact K _ h
def s_X5_nextToken_97  (k : Mem → Option Mem) (rec : Mem → Option Mem) (M : Mem) : Option Mem :=
  if M 45 3 = 3 then
    k M
  else
    if M 45 1 ≤ M 45 5 then
      k M
    else
      if M 45 5 < 0 ∨ 200 ≤ (M 45 5).toNatClampNeg then none else
      (f_X5_kindOf (M 46 (M 45 5).toNatClampNeg) M).bind fun (r4 : Int32) =>
      if r4 = M 45 3 then
        lt (um M 45 5 ((M 45 5) + 1)) fun (M6 : Mem) =>
        rec M6
      else
        k M
def f_X5_nextToken_97  (k : Mem → Option Mem) : Nat → Mem → Option Mem
  | 0 => fun _ => none
  | n + 1 => fun M => s_X5_nextToken_97  k (f_X5_nextToken_97  k n) M
set_option maxRecDepth 100000 in
set_option maxHeartbeats 4000000 in
theorem w_X5_nextToken_97 (l : Launch) (x : WX)  {k : Mem → Option Mem} {r : Mem}  (K : ∀ (M : Mem), k M = some r → Ev l x false cX5_nextToken RX5 none 1 1 0 0 (pV r) 148 [some (.ref (x.2.2.1 + 45))] [] LAY M) : ∀ (n : Nat) (M : Mem), f_X5_nextToken_97  k n M = some r → Ev l x false cX5_nextToken RX5 none 1 1 0 0 (pV r) 97 [some (.ref (x.2.2.1 + 45))] [] LAY M := by
  intro n
  induction n with
  | zero =>
    intro M h
    exact nomatch (show (none : Option Mem) = some r from h)
  | succ n ih =>
    intro M h
    have h : s_X5_nextToken_97  k (f_X5_nextToken_97  k n) M = some r := h
    unfold s_X5_nextToken_97 at h
    refine e_aload_n aX5_nextToken_97 rfl ?_
    refine e_getI aX5_nextToken_98 fX5_22 ly_45 rfl ?_
    refine e_iconst (v := 3) aX5_nextToken_101 (by decide) ?_
    rcases of_ite h with ⟨hc1, h⟩ | ⟨hc1, h⟩
    · refine e_icmp_eq (tgt := 148) aX5_nextToken_102 (by decide) (fun _ => ?_) (fun q => absurd hc1 q)
      exact K _ h
    · refine e_icmp_eq (tgt := 148) aX5_nextToken_102 (by decide) (fun q => absurd q hc1) (fun _ => ?_)
      refine e_aload_n aX5_nextToken_105 rfl ?_
      refine e_getI aX5_nextToken_106 fX5_28 ly_45 rfl ?_
      refine e_aload_n aX5_nextToken_109 rfl ?_
      refine e_getI aX5_nextToken_110 fX5_15 ly_45 rfl ?_
      rcases of_ite h with ⟨hc2, h⟩ | ⟨hc2, h⟩
      · refine e_icmp_ge (tgt := 148) aX5_nextToken_113 (by decide) (fun _ => ?_) (fun q => absurd hc2 q)
        exact K _ h
      · refine e_icmp_ge (tgt := 148) aX5_nextToken_113 (by decide) (fun q => absurd q hc2) (fun _ => ?_)
        refine e_aload_n aX5_nextToken_116 rfl ?_
        refine e_getR (r := 46) aX5_nextToken_117 fX5_9 ly_45 rfl ?_
        refine e_aload_n aX5_nextToken_120 rfl ?_
        refine e_getI aX5_nextToken_121 fX5_28 ly_45 rfl ?_
        obtain ⟨hg3, h⟩ := of_guard h
        refine e_iald aX5_nextToken_124 ly_46 hg3 ?_
        obtain ⟨r4, hr4, h⟩ := of_bind h
        refine e_SI [] aX5_nextToken_125 co_X5_kindOf mX5_86 (c_X5_kindOf l x hr4) rfl ⟨by decide, by decide⟩ (Nat.le_of_ble_eq_true rfl) rfl ?_
        refine e_aload_n aX5_nextToken_128 rfl ?_
        refine e_getI aX5_nextToken_129 fX5_22 ly_45 rfl ?_
        rcases of_ite h with ⟨hc5, h⟩ | ⟨hc5, h⟩
        · refine e_icmp_ne (tgt := 148) aX5_nextToken_132 (by decide) (fun q => absurd hc5 q) (fun _ => ?_)
          refine e_aload_n aX5_nextToken_135 rfl ?_
          refine e_dupR aX5_nextToken_136 ?_
          refine e_getI aX5_nextToken_137 fX5_28 ly_45 rfl ?_
          refine e_iconst (v := 1) aX5_nextToken_140 (by decide) ?_
          refine e_iadd aX5_nextToken_141 ?_
          obtain ⟨M6, eM6, h⟩ := of_lt h
          refine e_put aX5_nextToken_142 qX5_28 ly_45 rfl (fi_of _) eM6 ?_
          refine e_goto (tgt := 97) aX5_nextToken_145 (by decide) ?_
          exact ih _ h
        · refine e_icmp_ne (tgt := 148) aX5_nextToken_132 (by decide) (fun _ => ?_) (fun q => absurd q hc5)
          exact K _ h
def f_X5_nextToken  (M : Mem) : Option Mem :=
  lt (um M 45 4 (M 45 5)) fun (M1 : Mem) =>
  f_X5_nextToken_8  (fun (M2 : Mem) =>
    lt (um M2 45 5 (M2 45 4)) fun (M3 : Mem) =>
    if M3 45 4 < M3 45 1 then
      if M3 45 4 < 0 ∨ 200 ≤ (M3 45 4).toNatClampNeg then none else
      (f_X5_kindOf (M3 46 (M3 45 4).toNatClampNeg) M3).bind fun (r6 : Int32) =>
      lt (um M3 45 3 r6) fun (M7 : Mem) =>
      lt (um M7 45 5 ((M7 45 5) + 1)) fun (M8 : Mem) =>
      f_X5_nextToken_97  (fun (M9 : Mem) =>
        some M9) FU M8
    else
      lt (um M3 45 3 0) fun (M10 : Mem) =>
      some M10) FU M1
set_option maxRecDepth 100000 in
set_option maxHeartbeats 4000000 in
theorem c_X5_nextToken (l : Launch) (x : WX)  {M : Mem} {r : Mem}  (h : f_X5_nextToken  M = some r) : Mt l x false yX5_nextToken cX5_nextToken 1 none 1 0 0 [.ref (x.2.2.1 + 45)] LAY M (pV r) := by
  refine mt_of (L0 := [some (.ref (x.2.2.1 + 45))]) (by decide +kernel) rfl (Nat.le_of_ble_eq_true rfl) (lvA_of 0 rfl) ?_
  unfold f_X5_nextToken at h
  refine e_aload_n aX5_nextToken_0 rfl ?_
  refine e_aload_n aX5_nextToken_1 rfl ?_
  refine e_getI aX5_nextToken_2 fX5_28 ly_45 rfl ?_
  obtain ⟨M1, eM1, h⟩ := of_lt h
  refine e_put aX5_nextToken_5 qX5_25 ly_45 rfl (fi_of _) eM1 ?_
  refine w_X5_nextToken_8 l x  (fun M2 h => ?_) FU _ h
  refine e_aload_n aX5_nextToken_46 rfl ?_
  refine e_aload_n aX5_nextToken_47 rfl ?_
  refine e_getI aX5_nextToken_48 fX5_25 ly_45 rfl ?_
  obtain ⟨M3, eM3, h⟩ := of_lt h
  refine e_put aX5_nextToken_51 qX5_28 ly_45 rfl (fi_of _) eM3 ?_
  refine e_aload_n aX5_nextToken_54 rfl ?_
  refine e_getI aX5_nextToken_55 fX5_25 ly_45 rfl ?_
  refine e_aload_n aX5_nextToken_58 rfl ?_
  refine e_getI aX5_nextToken_59 fX5_15 ly_45 rfl ?_
  rcases of_ite h with ⟨hc4, h⟩ | ⟨hc4, h⟩
  · refine e_icmp_lt (tgt := 71) aX5_nextToken_62 (by decide) (fun _ => ?_) (fun q => absurd hc4 q)
    refine e_aload_n aX5_nextToken_71 rfl ?_
    refine e_aload_n aX5_nextToken_72 rfl ?_
    refine e_getR (r := 46) aX5_nextToken_73 fX5_9 ly_45 rfl ?_
    refine e_aload_n aX5_nextToken_76 rfl ?_
    refine e_getI aX5_nextToken_77 fX5_25 ly_45 rfl ?_
    obtain ⟨hg5, h⟩ := of_guard h
    refine e_iald aX5_nextToken_80 ly_46 hg5 ?_
    obtain ⟨r6, hr6, h⟩ := of_bind h
    refine e_SI [.ref (x.2.2.1 + 45)] aX5_nextToken_81 co_X5_kindOf mX5_86 (c_X5_kindOf l x hr6) rfl ⟨by decide, by decide⟩ (Nat.le_of_ble_eq_true rfl) rfl ?_
    obtain ⟨M7, eM7, h⟩ := of_lt h
    refine e_put aX5_nextToken_84 qX5_22 ly_45 rfl (fi_of _) eM7 ?_
    refine e_aload_n aX5_nextToken_87 rfl ?_
    refine e_dupR aX5_nextToken_88 ?_
    refine e_getI aX5_nextToken_89 fX5_28 ly_45 rfl ?_
    refine e_iconst (v := 1) aX5_nextToken_92 (by decide) ?_
    refine e_iadd aX5_nextToken_93 ?_
    obtain ⟨M8, eM8, h⟩ := of_lt h
    refine e_put aX5_nextToken_94 qX5_28 ly_45 rfl (fi_of _) eM8 ?_
    refine w_X5_nextToken_97 l x  (fun M9 h => ?_) FU _ h
    exact e_ret0 aX5_nextToken_148 rfl (pV_of h)
  · refine e_icmp_lt (tgt := 71) aX5_nextToken_62 (by decide) (fun q => absurd q hc4) (fun _ => ?_)
    refine e_aload_n aX5_nextToken_65 rfl ?_
    refine e_iconst (v := 0) aX5_nextToken_66 (by decide) ?_
    obtain ⟨M10, eM10, h⟩ := of_lt h
    refine e_put aX5_nextToken_67 qX5_22 ly_45 rfl (fi_of _) eM10 ?_
    exact e_ret0 aX5_nextToken_70 rfl (pV_of h)
def s_X5_value_7  (M : Mem) (k : Int32 → Int32 → Option Int32) (rec : Int32 → Int32 → Option Int32) (i1 : Int32) (i2 : Int32) : Option Int32 :=
  if M 45 5 ≤ i2 then
    k i1 i2
  else
    if i2 < 0 ∨ 200 ≤ i2.toNatClampNeg then none else
    lt ((i1 * 10) + ((M 46 i2.toNatClampNeg) - 48)) fun (v3 : Int32) =>
    rec v3 (i2 + 1)
def f_X5_value_7  (M : Mem) (k : Int32 → Int32 → Option Int32) : Nat → Int32 → Int32 → Option Int32
  | 0 => fun _ _ => none
  | n + 1 => fun i1 i2 => s_X5_value_7  M k (f_X5_value_7  M k n) i1 i2
set_option maxRecDepth 100000 in
set_option maxHeartbeats 4000000 in
theorem w_X5_value_7 (l : Launch) (x : WX)  {M : Mem} {k : Int32 → Int32 → Option Int32} {r : Int32}  (K : ∀ (i1 : Int32) (i2 : Int32), k i1 i2 = some r → Ev l x false cX5_value RX5 (some FieldType.int) 3 0 0 0 (pI r M) 36 [some (.ref (x.2.2.1 + 45)), some (.int i1), some (.int i2)] [] LAY M) : ∀ (n : Nat) (i1 : Int32) (i2 : Int32), f_X5_value_7  M k n i1 i2 = some r → Ev l x false cX5_value RX5 (some FieldType.int) 3 0 0 0 (pI r M) 7 [some (.ref (x.2.2.1 + 45)), some (.int i1), some (.int i2)] [] LAY M := by
  intro n
  induction n with
  | zero =>
    intro i1 i2 h
    exact nomatch (show (none : Option Int32) = some r from h)
  | succ n ih =>
    intro i1 i2 h
    have h : s_X5_value_7  M k (f_X5_value_7  M k n) i1 i2 = some r := h
    unfold s_X5_value_7 at h
    refine e_iload_n aX5_value_7 rfl ?_
    refine e_aload_n aX5_value_8 rfl ?_
    refine e_getI aX5_value_9 fX5_28 ly_45 rfl ?_
    rcases of_ite h with ⟨hc1, h⟩ | ⟨hc1, h⟩
    · refine e_icmp_ge (tgt := 36) aX5_value_12 (by decide) (fun _ => ?_) (fun q => absurd hc1 q)
      exact K _ _ h
    · refine e_icmp_ge (tgt := 36) aX5_value_12 (by decide) (fun q => absurd q hc1) (fun _ => ?_)
      refine e_iload_n aX5_value_15 rfl ?_
      refine e_bipush (v := 10) aX5_value_16 (by decide) ?_
      refine e_imul aX5_value_18 ?_
      refine e_aload_n aX5_value_19 rfl ?_
      refine e_getR (r := 46) aX5_value_20 fX5_9 ly_45 rfl ?_
      refine e_iload_n aX5_value_23 rfl ?_
      obtain ⟨hg2, h⟩ := of_guard h
      refine e_iald aX5_value_24 ly_46 hg2 ?_
      refine e_bipush (v := 48) aX5_value_25 (by decide) ?_
      refine e_isub aX5_value_27 ?_
      refine e_iadd aX5_value_28 ?_
      obtain ⟨v3, ev3, h⟩ := of_lt h
      refine e_nameI ev3 ?_
      refine e_istore_n (L2 := [some (.ref (x.2.2.1 + 45)), some (.int v3), some (.int i2)]) aX5_value_29 ⟨by decide, rfl⟩ rfl ?_
      refine e_iinc (v := i2 + 1) (L2 := [some (.ref (x.2.2.1 + 45)), some (.int v3), some (.int (i2 + 1))]) aX5_value_30 rfl rfl ⟨by decide, rfl⟩ rfl ?_
      refine e_goto (tgt := 7) aX5_value_33 (by decide) ?_
      exact ih _ _ h
def f_X5_value  (M : Mem) : Option Int32 :=
  lt (M 45 4) fun (v1 : Int32) =>
  f_X5_value_7  M (fun (i1_2 : Int32) (i2_3 : Int32) =>
    some i1_2) FU 0 v1
set_option maxRecDepth 100000 in
set_option maxHeartbeats 4000000 in
theorem c_X5_value (l : Launch) (x : WX)  {M : Mem} {r : Int32}  (h : f_X5_value  M = some r) : Mt l x false yX5_value cX5_value 3 (some FieldType.int) 0 0 0 [.ref (x.2.2.1 + 45)] LAY M (pI r M) := by
  refine mt_of (L0 := [some (.ref (x.2.2.1 + 45)), none, none]) (by decide +kernel) rfl (Nat.le_of_ble_eq_true rfl) (lvA_of 2 rfl) ?_
  unfold f_X5_value at h
  refine e_iconst (v := 0) aX5_value_0 (by decide) ?_
  refine e_istore_n (L2 := [some (.ref (x.2.2.1 + 45)), some (.int 0), none]) aX5_value_1 ⟨by decide, rfl⟩ rfl ?_
  refine e_aload_n aX5_value_2 rfl ?_
  refine e_getI aX5_value_3 fX5_25 ly_45 rfl ?_
  obtain ⟨v1, ev1, h⟩ := of_lt h
  refine e_nameI ev1 ?_
  refine e_istore_n (L2 := [some (.ref (x.2.2.1 + 45)), some (.int 0), some (.int v1)]) aX5_value_6 ⟨by decide, rfl⟩ rfl ?_
  refine w_X5_value_7 l x  (fun i1_2 i2_3 h => ?_) FU _ _ h
  refine e_iload_n aX5_value_36 rfl ?_
  exact e_retI aX5_value_37 rfl rfl (pI_ro h)
def f_X5_isNumber (i1 : Int32) (i2 : Int32) (M : Mem) : Option Int32 :=
  if M 45 3 = 2 then
    if (M 45 5) - (M 45 4) ≤ 2 then
      (f_X5_value M).bind fun (r3 : Int32) =>
      if r3 < i1 then
        some 0
      else
        if i2 < r3 then
          some 0
        else
          some 1
    else
      some 0
  else
    some 0
set_option maxRecDepth 100000 in
set_option maxHeartbeats 4000000 in
theorem c_X5_isNumber (l : Launch) (x : WX) {i1 : Int32} {i2 : Int32} {M : Mem} {r : Int32}  (h : f_X5_isNumber i1 i2 M = some r) : Mt l x false yX5_isNumber cX5_isNumber 4 (some FieldType.boolean) 1 0 0 [.ref (x.2.2.1 + 45), .int i1, .int i2] LAY M (pI r M) := by
  refine mt_of (L0 := [some (.ref (x.2.2.1 + 45)), some (.int i1), some (.int i2), none]) (by decide +kernel) rfl (Nat.le_of_ble_eq_true rfl) (lvA_of 1 rfl) ?_
  unfold f_X5_isNumber at h
  refine e_aload_n aX5_isNumber_0 rfl ?_
  refine e_getI aX5_isNumber_1 fX5_22 ly_45 rfl ?_
  refine e_iconst (v := 2) aX5_isNumber_4 (by decide) ?_
  rcases of_ite h with ⟨hc1, h⟩ | ⟨hc1, h⟩
  · refine e_icmp_ne (tgt := 21) aX5_isNumber_5 (by decide) (fun q => absurd hc1 q) (fun _ => ?_)
    refine e_aload_n aX5_isNumber_8 rfl ?_
    refine e_getI aX5_isNumber_9 fX5_28 ly_45 rfl ?_
    refine e_aload_n aX5_isNumber_12 rfl ?_
    refine e_getI aX5_isNumber_13 fX5_25 ly_45 rfl ?_
    refine e_isub aX5_isNumber_16 ?_
    refine e_iconst (v := 2) aX5_isNumber_17 (by decide) ?_
    rcases of_ite h with ⟨hc2, h⟩ | ⟨hc2, h⟩
    · refine e_icmp_le (tgt := 23) aX5_isNumber_18 (by decide) (fun _ => ?_) (fun q => absurd hc2 q)
      refine e_aload_n aX5_isNumber_23 rfl ?_
      obtain ⟨r3, hr3, h⟩ := of_bind h
      refine e_VI [] aX5_isNumber_24 co_X5_value mX5_61 ly_45 rfl rfl (c_X5_value l x hr3) rfl ⟨by decide, by decide⟩ (Nat.le_of_ble_eq_true rfl) rfl ?_
      refine e_istore_n (L2 := [some (.ref (x.2.2.1 + 45)), some (.int i1), some (.int i2), some (.int r3)]) aX5_isNumber_27 ⟨by decide, rfl⟩ rfl ?_
      refine e_iload_n aX5_isNumber_28 rfl ?_
      refine e_iload_n aX5_isNumber_29 rfl ?_
      rcases of_ite h with ⟨hc4, h⟩ | ⟨hc4, h⟩
      · refine e_icmp_lt (tgt := 42) aX5_isNumber_30 (by decide) (fun _ => ?_) (fun q => absurd hc4 q)
        refine e_iconst (v := 0) aX5_isNumber_42 (by decide) ?_
        exact e_retI aX5_isNumber_43 rfl (by decide +kernel) (pI_ro h)
      · refine e_icmp_lt (tgt := 42) aX5_isNumber_30 (by decide) (fun q => absurd q hc4) (fun _ => ?_)
        refine e_iload_n aX5_isNumber_33 rfl ?_
        refine e_iload_n aX5_isNumber_34 rfl ?_
        rcases of_ite h with ⟨hc5, h⟩ | ⟨hc5, h⟩
        · refine e_icmp_gt (tgt := 42) aX5_isNumber_35 (by decide) (fun _ => ?_) (fun q => absurd hc5 q)
          refine e_iconst (v := 0) aX5_isNumber_42 (by decide) ?_
          exact e_retI aX5_isNumber_43 rfl (by decide +kernel) (pI_ro h)
        · refine e_icmp_gt (tgt := 42) aX5_isNumber_35 (by decide) (fun q => absurd q hc5) (fun _ => ?_)
          refine e_iconst (v := 1) aX5_isNumber_38 (by decide) ?_
          refine e_goto (tgt := 43) aX5_isNumber_39 (by decide) ?_
          exact e_retI aX5_isNumber_43 rfl (by decide +kernel) (pI_ro h)
    · refine e_icmp_le (tgt := 23) aX5_isNumber_18 (by decide) (fun q => absurd q hc2) (fun _ => ?_)
      refine e_iconst (v := 0) aX5_isNumber_21 (by decide) ?_
      exact e_retI aX5_isNumber_22 rfl (by decide +kernel) (pI_ro h)
  · refine e_icmp_ne (tgt := 21) aX5_isNumber_5 (by decide) (fun _ => ?_) (fun q => absurd q hc1)
    refine e_iconst (v := 0) aX5_isNumber_21 (by decide) ?_
    exact e_retI aX5_isNumber_22 rfl (by decide +kernel) (pI_ro h)
def f_X5_readPoints  (M : Mem) : Option (Int32 × Mem) :=
  (f_X5_nextToken M).bind fun (M1 : Mem) =>
  (f_X5_isNumber 1 6 M1).bind fun (r2 : Int32) =>
  if r2 = 0 then
    some (0, M1)
  else
    (f_X5_value M1).bind fun (r4 : Int32) =>
    (f_X2_begin 5 r4 M1).bind fun (M5 : Mem) =>
    some (1, M5)
set_option maxRecDepth 100000 in
set_option maxHeartbeats 4000000 in
theorem c_X5_readPoints (l : Launch) (x : WX)  {M : Mem} {r : (Int32 × Mem)}  (h : f_X5_readPoints  M = some r) : Mt l x false yX5_readPoints cX5_readPoints 2 (some FieldType.boolean) 2 0 0 [.ref (x.2.2.1 + 45), .ref (x.2.2.1 + 5)] LAY M (pI r.1 r.2) := by
  refine mt_of (L0 := [some (.ref (x.2.2.1 + 45)), some (.ref (x.2.2.1 + 5))]) (by decide +kernel) rfl (Nat.le_of_ble_eq_true rfl) (lvA_of 0 rfl) ?_
  unfold f_X5_readPoints at h
  refine e_aload_n aX5_readPoints_0 rfl ?_
  obtain ⟨M1, hM1, h⟩ := of_bind h
  refine e_VV [] aX5_readPoints_1 co_X5_nextToken mX5_31 ly_45 rfl rfl (c_X5_nextToken l x hM1) rfl ⟨by decide, by decide⟩ (Nat.le_of_ble_eq_true rfl) rfl ?_
  refine e_aload_n aX5_readPoints_4 rfl ?_
  refine e_iconst (v := 1) aX5_readPoints_5 (by decide) ?_
  refine e_bipush (v := 6) aX5_readPoints_6 (by decide) ?_
  obtain ⟨r2, hr2, h⟩ := of_bind h
  refine e_VI [] aX5_readPoints_8 co_X5_isNumber mX5_57 ly_45 rfl rfl (c_X5_isNumber l x hr2) rfl ⟨by decide, by decide⟩ (Nat.le_of_ble_eq_true rfl) rfl ?_
  rcases of_ite h with ⟨hc3, h⟩ | ⟨hc3, h⟩
  · refine e_if_ne (tgt := 16) aX5_readPoints_11 (by decide) (fun q => absurd hc3 q) (fun _ => ?_)
    refine e_iconst (v := 0) aX5_readPoints_14 (by decide) ?_
    exact e_retI aX5_readPoints_15 rfl (by decide +kernel) (pI_of h)
  · refine e_if_ne (tgt := 16) aX5_readPoints_11 (by decide) (fun _ => ?_) (fun q => absurd q hc3)
    refine e_aload_n aX5_readPoints_16 rfl ?_
    refine e_aload_n aX5_readPoints_17 rfl ?_
    obtain ⟨r4, hr4, h⟩ := of_bind h
    refine e_VI [.ref (x.2.2.1 + 5)] aX5_readPoints_18 co_X5_value mX5_61 ly_45 rfl rfl (c_X5_value l x hr4) rfl ⟨by decide, by decide⟩ (Nat.le_of_ble_eq_true rfl) rfl ?_
    obtain ⟨M5, hM5, h⟩ := of_bind h
    refine e_VV [] aX5_readPoints_21 co_X2_begin mX5_65 ly_5 rfl rfl (c_X2_begin l x qa_5 hM5) rfl ⟨by decide, by decide⟩ (Nat.le_of_ble_eq_true rfl) rfl ?_
    refine e_iconst (v := 1) aX5_readPoints_24 (by decide) ?_
    exact e_retI aX5_readPoints_25 rfl (by decide +kernel) (pI_of h)
def f_X5_readArrow  (M : Mem) : Option (Int32 × Mem) :=
  if M 5 1 < 10 then
    (f_X5_nextToken M).bind fun (M2 : Mem) =>
    (f_X5_isNumber 0 ((M2 5 0) - 1) M2).bind fun (r3 : Int32) =>
    if r3 = 0 then
      some (0, M2)
    else
      (f_X5_value M2).bind fun (r5 : Int32) =>
      (f_X5_nextToken M2).bind fun (M6 : Mem) =>
      (f_X5_isNumber 0 ((M6 5 0) - 1) M6).bind fun (r7 : Int32) =>
      if r7 = 0 then
        some (0, M6)
      else
        (f_X5_value M6).bind fun (r9 : Int32) =>
        (f_X2_wouldLeadRound 5 r5 r9 M6).bind fun (r10 : Int32) =>
        if r10 = 0 then
          (f_X2_join 5 r5 r9 M6).bind fun (M12 : Mem) =>
          some (1, M12)
        else
          some (0, M6)
  else
    some (0, M)
set_option maxRecDepth 100000 in
set_option maxHeartbeats 4000000 in
theorem c_X5_readArrow (l : Launch) (x : WX)  {M : Mem} {r : (Int32 × Mem)}  (h : f_X5_readArrow  M = some r) : Mt l x false yX5_readArrow cX5_readArrow 4 (some FieldType.boolean) 2 0 0 [.ref (x.2.2.1 + 45), .ref (x.2.2.1 + 5)] LAY M (pI r.1 r.2) := by
  refine mt_of (L0 := [some (.ref (x.2.2.1 + 45)), some (.ref (x.2.2.1 + 5)), none, none]) (by decide +kernel) rfl (Nat.le_of_ble_eq_true rfl) (lvA_of 2 rfl) ?_
  unfold f_X5_readArrow at h
  refine e_aload_n aX5_readArrow_0 rfl ?_
  refine e_getI aX5_readArrow_1 fX5_71 ly_5 rfl ?_
  refine e_bipush (v := 10) aX5_readArrow_4 (by decide) ?_
  rcases of_ite h with ⟨hc1, h⟩ | ⟨hc1, h⟩
  · refine e_icmp_lt (tgt := 11) aX5_readArrow_6 (by decide) (fun _ => ?_) (fun q => absurd hc1 q)
    refine e_aload_n aX5_readArrow_11 rfl ?_
    obtain ⟨M2, hM2, h⟩ := of_bind h
    refine e_VV [] aX5_readArrow_12 co_X5_nextToken mX5_31 ly_45 rfl rfl (c_X5_nextToken l x hM2) rfl ⟨by decide, by decide⟩ (Nat.le_of_ble_eq_true rfl) rfl ?_
    refine e_aload_n aX5_readArrow_15 rfl ?_
    refine e_iconst (v := 0) aX5_readArrow_16 (by decide) ?_
    refine e_aload_n aX5_readArrow_17 rfl ?_
    refine e_getI aX5_readArrow_18 fX5_74 ly_5 rfl ?_
    refine e_iconst (v := 1) aX5_readArrow_21 (by decide) ?_
    refine e_isub aX5_readArrow_22 ?_
    obtain ⟨r3, hr3, h⟩ := of_bind h
    refine e_VI [] aX5_readArrow_23 co_X5_isNumber mX5_57 ly_45 rfl rfl (c_X5_isNumber l x hr3) rfl ⟨by decide, by decide⟩ (Nat.le_of_ble_eq_true rfl) rfl ?_
    rcases of_ite h with ⟨hc4, h⟩ | ⟨hc4, h⟩
    · refine e_if_ne (tgt := 31) aX5_readArrow_26 (by decide) (fun q => absurd hc4 q) (fun _ => ?_)
      refine e_iconst (v := 0) aX5_readArrow_29 (by decide) ?_
      exact e_retI aX5_readArrow_30 rfl (by decide +kernel) (pI_of h)
    · refine e_if_ne (tgt := 31) aX5_readArrow_26 (by decide) (fun _ => ?_) (fun q => absurd q hc4)
      refine e_aload_n aX5_readArrow_31 rfl ?_
      obtain ⟨r5, hr5, h⟩ := of_bind h
      refine e_VI [] aX5_readArrow_32 co_X5_value mX5_61 ly_45 rfl rfl (c_X5_value l x hr5) rfl ⟨by decide, by decide⟩ (Nat.le_of_ble_eq_true rfl) rfl ?_
      refine e_istore_n (L2 := [some (.ref (x.2.2.1 + 45)), some (.ref (x.2.2.1 + 5)), some (.int r5), none]) aX5_readArrow_35 ⟨by decide, rfl⟩ rfl ?_
      refine e_aload_n aX5_readArrow_36 rfl ?_
      obtain ⟨M6, hM6, h⟩ := of_bind h
      refine e_VV [] aX5_readArrow_37 co_X5_nextToken mX5_31 ly_45 rfl rfl (c_X5_nextToken l x hM6) rfl ⟨by decide, by decide⟩ (Nat.le_of_ble_eq_true rfl) rfl ?_
      refine e_aload_n aX5_readArrow_40 rfl ?_
      refine e_iconst (v := 0) aX5_readArrow_41 (by decide) ?_
      refine e_aload_n aX5_readArrow_42 rfl ?_
      refine e_getI aX5_readArrow_43 fX5_74 ly_5 rfl ?_
      refine e_iconst (v := 1) aX5_readArrow_46 (by decide) ?_
      refine e_isub aX5_readArrow_47 ?_
      obtain ⟨r7, hr7, h⟩ := of_bind h
      refine e_VI [] aX5_readArrow_48 co_X5_isNumber mX5_57 ly_45 rfl rfl (c_X5_isNumber l x hr7) rfl ⟨by decide, by decide⟩ (Nat.le_of_ble_eq_true rfl) rfl ?_
      rcases of_ite h with ⟨hc8, h⟩ | ⟨hc8, h⟩
      · refine e_if_ne (tgt := 56) aX5_readArrow_51 (by decide) (fun q => absurd hc8 q) (fun _ => ?_)
        refine e_iconst (v := 0) aX5_readArrow_54 (by decide) ?_
        exact e_retI aX5_readArrow_55 rfl (by decide +kernel) (pI_of h)
      · refine e_if_ne (tgt := 56) aX5_readArrow_51 (by decide) (fun _ => ?_) (fun q => absurd q hc8)
        refine e_aload_n aX5_readArrow_56 rfl ?_
        obtain ⟨r9, hr9, h⟩ := of_bind h
        refine e_VI [] aX5_readArrow_57 co_X5_value mX5_61 ly_45 rfl rfl (c_X5_value l x hr9) rfl ⟨by decide, by decide⟩ (Nat.le_of_ble_eq_true rfl) rfl ?_
        refine e_istore_n (L2 := [some (.ref (x.2.2.1 + 45)), some (.ref (x.2.2.1 + 5)), some (.int r5), some (.int r9)]) aX5_readArrow_60 ⟨by decide, rfl⟩ rfl ?_
        refine e_aload_n aX5_readArrow_61 rfl ?_
        refine e_iload_n aX5_readArrow_62 rfl ?_
        refine e_iload_n aX5_readArrow_63 rfl ?_
        obtain ⟨r10, hr10, h⟩ := of_bind h
        refine e_VI [] aX5_readArrow_64 co_X2_wouldLeadRound mX5_77 ly_5 rfl rfl (c_X2_wouldLeadRound l x qa_5 hr10) rfl ⟨by decide, by decide⟩ (Nat.le_of_ble_eq_true rfl) rfl ?_
        rcases of_ite h with ⟨hc11, h⟩ | ⟨hc11, h⟩
        · refine e_if_eq (tgt := 72) aX5_readArrow_67 (by decide) (fun _ => ?_) (fun q => absurd hc11 q)
          refine e_aload_n aX5_readArrow_72 rfl ?_
          refine e_iload_n aX5_readArrow_73 rfl ?_
          refine e_iload_n aX5_readArrow_74 rfl ?_
          obtain ⟨M12, hM12, h⟩ := of_bind h
          refine e_VV [] aX5_readArrow_75 co_X2_join mX5_80 ly_5 rfl rfl (c_X2_join l x qa_5 hM12) rfl ⟨by decide, by decide⟩ (Nat.le_of_ble_eq_true rfl) rfl ?_
          refine e_iconst (v := 1) aX5_readArrow_78 (by decide) ?_
          exact e_retI aX5_readArrow_79 rfl (by decide +kernel) (pI_of h)
        · refine e_if_eq (tgt := 72) aX5_readArrow_67 (by decide) (fun q => absurd q hc11) (fun _ => ?_)
          refine e_iconst (v := 0) aX5_readArrow_70 (by decide) ?_
          exact e_retI aX5_readArrow_71 rfl (by decide +kernel) (pI_of h)
  · refine e_icmp_lt (tgt := 11) aX5_readArrow_6 (by decide) (fun q => absurd q hc1) (fun _ => ?_)
    refine e_iconst (v := 0) aX5_readArrow_9 (by decide) ?_
    exact e_retI aX5_readArrow_10 rfl (by decide +kernel) (pI_of h)
def s_X5_readRow_2  (k : Int32 → Mem → Option (Int32 × Mem)) (rec : Int32 → Mem → Option (Int32 × Mem)) (i2 : Int32) (M : Mem) : Option (Int32 × Mem) :=
  if M 5 0 ≤ i2 then
    k i2 M
  else
    (f_X5_nextToken M).bind fun (M2 : Mem) =>
    (f_X5_isNumber 0 99 M2).bind fun (r3 : Int32) =>
    if r3 = 0 then
      some (0, M2)
    else
      (f_X5_value M2).bind fun (r5 : Int32) =>
      if i2 < 0 ∨ 6 ≤ i2.toNatClampNeg then none else
      lt (um M2 8 i2.toNatClampNeg r5) fun (M7 : Mem) =>
      rec (i2 + 1) M7
def f_X5_readRow_2  (k : Int32 → Mem → Option (Int32 × Mem)) : Nat → Int32 → Mem → Option (Int32 × Mem)
  | 0 => fun _ _ => none
  | n + 1 => fun i2 M => s_X5_readRow_2  k (f_X5_readRow_2  k n) i2 M
set_option maxRecDepth 100000 in
set_option maxHeartbeats 4000000 in
theorem w_X5_readRow_2 (l : Launch) (x : WX)  {k : Int32 → Mem → Option (Int32 × Mem)} {r : (Int32 × Mem)}  (K : ∀ (i2 : Int32) (M : Mem), k i2 M = some r → Ev l x false cX5_readRow RX5 (some FieldType.boolean) 3 2 0 0 (pI r.1 r.2) 42 [some (.ref (x.2.2.1 + 45)), some (.ref (x.2.2.1 + 5)), some (.int i2)] [] LAY M) : ∀ (n : Nat) (i2 : Int32) (M : Mem), f_X5_readRow_2  k n i2 M = some r → Ev l x false cX5_readRow RX5 (some FieldType.boolean) 3 2 0 0 (pI r.1 r.2) 2 [some (.ref (x.2.2.1 + 45)), some (.ref (x.2.2.1 + 5)), some (.int i2)] [] LAY M := by
  intro n
  induction n with
  | zero =>
    intro i2 M h
    exact nomatch (show (none : Option (Int32 × Mem)) = some r from h)
  | succ n ih =>
    intro i2 M h
    have h : s_X5_readRow_2  k (f_X5_readRow_2  k n) i2 M = some r := h
    unfold s_X5_readRow_2 at h
    refine e_iload_n aX5_readRow_2 rfl ?_
    refine e_aload_n aX5_readRow_3 rfl ?_
    refine e_getI aX5_readRow_4 fX5_74 ly_5 rfl ?_
    rcases of_ite h with ⟨hc1, h⟩ | ⟨hc1, h⟩
    · refine e_icmp_ge (tgt := 42) aX5_readRow_7 (by decide) (fun _ => ?_) (fun q => absurd hc1 q)
      exact K _ _ h
    · refine e_icmp_ge (tgt := 42) aX5_readRow_7 (by decide) (fun q => absurd q hc1) (fun _ => ?_)
      refine e_aload_n aX5_readRow_10 rfl ?_
      obtain ⟨M2, hM2, h⟩ := of_bind h
      refine e_VV [] aX5_readRow_11 co_X5_nextToken mX5_31 ly_45 rfl rfl (c_X5_nextToken l x hM2) rfl ⟨by decide, by decide⟩ (Nat.le_of_ble_eq_true rfl) rfl ?_
      refine e_aload_n aX5_readRow_14 rfl ?_
      refine e_iconst (v := 0) aX5_readRow_15 (by decide) ?_
      refine e_bipush (v := 99) aX5_readRow_16 (by decide) ?_
      obtain ⟨r3, hr3, h⟩ := of_bind h
      refine e_VI [] aX5_readRow_18 co_X5_isNumber mX5_57 ly_45 rfl rfl (c_X5_isNumber l x hr3) rfl ⟨by decide, by decide⟩ (Nat.le_of_ble_eq_true rfl) rfl ?_
      rcases of_ite h with ⟨hc4, h⟩ | ⟨hc4, h⟩
      · refine e_if_ne (tgt := 26) aX5_readRow_21 (by decide) (fun q => absurd hc4 q) (fun _ => ?_)
        refine e_iconst (v := 0) aX5_readRow_24 (by decide) ?_
        exact e_retI aX5_readRow_25 rfl (by decide +kernel) (pI_of h)
      · refine e_if_ne (tgt := 26) aX5_readRow_21 (by decide) (fun _ => ?_) (fun q => absurd q hc4)
        refine e_aload_n aX5_readRow_26 rfl ?_
        refine e_getR (r := 8) aX5_readRow_27 fX5_84 ly_5 rfl ?_
        refine e_iload_n aX5_readRow_30 rfl ?_
        refine e_aload_n aX5_readRow_31 rfl ?_
        obtain ⟨r5, hr5, h⟩ := of_bind h
        refine e_VI [.int i2, .ref (x.2.2.1 + 8)] aX5_readRow_32 co_X5_value mX5_61 ly_45 rfl rfl (c_X5_value l x hr5) rfl ⟨by decide, by decide⟩ (Nat.le_of_ble_eq_true rfl) rfl ?_
        obtain ⟨hg6, h⟩ := of_guard h
        obtain ⟨M7, eM7, h⟩ := of_lt h
        refine e_ist aX5_readRow_35 ly_8 hg6 eM7 ?_
        refine e_iinc (v := i2 + 1) (L2 := [some (.ref (x.2.2.1 + 45)), some (.ref (x.2.2.1 + 5)), some (.int (i2 + 1))]) aX5_readRow_36 rfl rfl ⟨by decide, rfl⟩ rfl ?_
        refine e_goto (tgt := 2) aX5_readRow_39 (by decide) ?_
        exact ih _ _ h
def f_X5_readRow  (M : Mem) : Option (Int32 × Mem) :=
  f_X5_readRow_2  (fun (i2_1 : Int32) (M2 : Mem) =>
    some (1, M2)) FU 0 M
set_option maxRecDepth 100000 in
set_option maxHeartbeats 4000000 in
theorem c_X5_readRow (l : Launch) (x : WX)  {M : Mem} {r : (Int32 × Mem)}  (h : f_X5_readRow  M = some r) : Mt l x false yX5_readRow cX5_readRow 3 (some FieldType.boolean) 2 0 0 [.ref (x.2.2.1 + 45), .ref (x.2.2.1 + 5)] LAY M (pI r.1 r.2) := by
  refine mt_of (L0 := [some (.ref (x.2.2.1 + 45)), some (.ref (x.2.2.1 + 5)), none]) (by decide +kernel) rfl (Nat.le_of_ble_eq_true rfl) (lvA_of 1 rfl) ?_
  unfold f_X5_readRow at h
  refine e_iconst (v := 0) aX5_readRow_0 (by decide) ?_
  refine e_istore_n (L2 := [some (.ref (x.2.2.1 + 45)), some (.ref (x.2.2.1 + 5)), some (.int 0)]) aX5_readRow_1 ⟨by decide, rfl⟩ rfl ?_
  refine w_X5_readRow_2 l x  (fun i2_1 M2 h => ?_) FU _ _ h
  refine e_iconst (v := 1) aX5_readRow_42 (by decide) ?_
  exact e_retI aX5_readRow_43 rfl (by decide +kernel) (pI_of h)
def s_X6_goesInto_2 (i1 : Int32) (i2 : Int32) (M : Mem) (k : Int32 → Option Int32) (rec : Int32 → Option Int32) (i3 : Int32) : Option Int32 :=
  if M 1 1 ≤ i3 then
    k i3
  else
    if i3 < 0 ∨ 10 ≤ i3.toNatClampNeg then none else
    if M 2 i3.toNatClampNeg = i1 then
      if i3 < 0 ∨ 10 ≤ i3.toNatClampNeg then none else
      if i2 &&& (1 <<< ((M 3 i3.toNatClampNeg) &&& 31)) = 0 then
        rec (i3 + 1)
      else
        some 1
    else
      rec (i3 + 1)
def f_X6_goesInto_2 (i1 : Int32) (i2 : Int32) (M : Mem) (k : Int32 → Option Int32) : Nat → Int32 → Option Int32
  | 0 => fun _ => none
  | n + 1 => fun i3 => s_X6_goesInto_2 i1 i2 M k (f_X6_goesInto_2 i1 i2 M k n) i3
set_option maxRecDepth 100000 in
set_option maxHeartbeats 4000000 in
theorem w_X6_goesInto_2 (l : Launch) (x : WX) {i1 : Int32} {i2 : Int32} {M : Mem} {k : Int32 → Option Int32} {r : Int32}  (K : ∀ (i3 : Int32), k i3 = some r → Ev l x false cX6_goesInto RX6 (some FieldType.boolean) 4 0 0 0 (pI r M) 41 [some (.ref (x.2.2.1 + 1)), some (.int i1), some (.int i2), some (.int i3)] [] LAY M) : ∀ (n : Nat) (i3 : Int32), f_X6_goesInto_2 i1 i2 M k n i3 = some r → Ev l x false cX6_goesInto RX6 (some FieldType.boolean) 4 0 0 0 (pI r M) 2 [some (.ref (x.2.2.1 + 1)), some (.int i1), some (.int i2), some (.int i3)] [] LAY M := by
  intro n
  induction n with
  | zero =>
    intro i3 h
    exact nomatch (show (none : Option Int32) = some r from h)
  | succ n ih =>
    intro i3 h
    have h : s_X6_goesInto_2 i1 i2 M k (f_X6_goesInto_2 i1 i2 M k n) i3 = some r := h
    unfold s_X6_goesInto_2 at h
    refine e_iload_n aX6_goesInto_2 rfl ?_
    refine e_aload_n aX6_goesInto_3 rfl ?_
    refine e_getI aX6_goesInto_4 fX6_41 ly_1 rfl ?_
    rcases of_ite h with ⟨hc1, h⟩ | ⟨hc1, h⟩
    · refine e_icmp_ge (tgt := 41) aX6_goesInto_7 (by decide) (fun _ => ?_) (fun q => absurd hc1 q)
      exact K _ h
    · refine e_icmp_ge (tgt := 41) aX6_goesInto_7 (by decide) (fun q => absurd q hc1) (fun _ => ?_)
      refine e_aload_n aX6_goesInto_10 rfl ?_
      refine e_getR (r := 2) aX6_goesInto_11 fX6_44 ly_1 rfl ?_
      refine e_iload_n aX6_goesInto_14 rfl ?_
      obtain ⟨hg2, h⟩ := of_guard h
      refine e_iald aX6_goesInto_15 ly_2 hg2 ?_
      refine e_iload_n aX6_goesInto_16 rfl ?_
      rcases of_ite h with ⟨hc3, h⟩ | ⟨hc3, h⟩
      · refine e_icmp_ne (tgt := 35) aX6_goesInto_17 (by decide) (fun q => absurd hc3 q) (fun _ => ?_)
        refine e_iload_n aX6_goesInto_20 rfl ?_
        refine e_iconst (v := 1) aX6_goesInto_21 (by decide) ?_
        refine e_aload_n aX6_goesInto_22 rfl ?_
        refine e_getR (r := 3) aX6_goesInto_23 fX6_47 ly_1 rfl ?_
        refine e_iload_n aX6_goesInto_26 rfl ?_
        obtain ⟨hg4, h⟩ := of_guard h
        refine e_iald aX6_goesInto_27 ly_3 hg4 ?_
        refine e_ishl aX6_goesInto_28 ?_
        refine e_iand aX6_goesInto_29 ?_
        rcases of_ite h with ⟨hc5, h⟩ | ⟨hc5, h⟩
        · refine e_if_eq (tgt := 35) aX6_goesInto_30 (by decide) (fun _ => ?_) (fun q => absurd hc5 q)
          refine e_iinc (v := i3 + 1) (L2 := [some (.ref (x.2.2.1 + 1)), some (.int i1), some (.int i2), some (.int (i3 + 1))]) aX6_goesInto_35 rfl rfl ⟨by decide, rfl⟩ rfl ?_
          refine e_goto (tgt := 2) aX6_goesInto_38 (by decide) ?_
          exact ih _ h
        · refine e_if_eq (tgt := 35) aX6_goesInto_30 (by decide) (fun q => absurd q hc5) (fun _ => ?_)
          refine e_iconst (v := 1) aX6_goesInto_33 (by decide) ?_
          exact e_retI aX6_goesInto_34 rfl (by decide +kernel) (pI_ro h)
      · refine e_icmp_ne (tgt := 35) aX6_goesInto_17 (by decide) (fun _ => ?_) (fun q => absurd q hc3)
        refine e_iinc (v := i3 + 1) (L2 := [some (.ref (x.2.2.1 + 1)), some (.int i1), some (.int i2), some (.int (i3 + 1))]) aX6_goesInto_35 rfl rfl ⟨by decide, rfl⟩ rfl ?_
        refine e_goto (tgt := 2) aX6_goesInto_38 (by decide) ?_
        exact ih _ h
def f_X6_goesInto (i1 : Int32) (i2 : Int32) (M : Mem) : Option Int32 :=
  f_X6_goesInto_2 i1 i2 M (fun (i3_1 : Int32) =>
    some 0) FU 0
set_option maxRecDepth 100000 in
set_option maxHeartbeats 4000000 in
theorem c_X6_goesInto (l : Launch) (x : WX) {i1 : Int32} {i2 : Int32} {M : Mem} {r : Int32}  (h : f_X6_goesInto i1 i2 M = some r) : Mt l x false yX6_goesInto cX6_goesInto 4 (some FieldType.boolean) 0 0 0 [.ref (x.2.2.1 + 1), .int i1, .int i2] LAY M (pI r M) := by
  refine mt_of (L0 := [some (.ref (x.2.2.1 + 1)), some (.int i1), some (.int i2), none]) (by decide +kernel) rfl (Nat.le_of_ble_eq_true rfl) (lvA_of 1 rfl) ?_
  unfold f_X6_goesInto at h
  refine e_iconst (v := 0) aX6_goesInto_0 (by decide) ?_
  refine e_istore_n (L2 := [some (.ref (x.2.2.1 + 1)), some (.int i1), some (.int i2), some (.int 0)]) aX6_goesInto_1 ⟨by decide, rfl⟩ rfl ?_
  refine w_X6_goesInto_2 l x  (fun i3_1 h => ?_) FU _ h
  refine e_iconst (v := 0) aX6_goesInto_41 (by decide) ?_
  exact e_retI aX6_goesInto_42 rfl (by decide +kernel) (pI_ro h)
def s_X6_leastReady_2 (i1 : Int32) (M : Mem) (k : Int32 → Option Int32) (rec : Int32 → Option Int32) (i2 : Int32) : Option Int32 :=
  if M 1 0 ≤ i2 then
    k i2
  else
    if i1 &&& (1 <<< (i2 &&& 31)) = 0 then
      rec (i2 + 1)
    else
      (f_X6_goesInto i2 i1 M).bind fun (r3 : Int32) =>
      if r3 = 0 then
        some i2
      else
        rec (i2 + 1)
def f_X6_leastReady_2 (i1 : Int32) (M : Mem) (k : Int32 → Option Int32) : Nat → Int32 → Option Int32
  | 0 => fun _ => none
  | n + 1 => fun i2 => s_X6_leastReady_2 i1 M k (f_X6_leastReady_2 i1 M k n) i2
set_option maxRecDepth 100000 in
set_option maxHeartbeats 4000000 in
theorem w_X6_leastReady_2 (l : Launch) (x : WX) {i1 : Int32} {M : Mem} {k : Int32 → Option Int32} {r : Int32}  (K : ∀ (i2 : Int32), k i2 = some r → Ev l x false cX6_leastReady RX6 (some FieldType.int) 3 1 0 0 (pI r M) 35 [some (.ref (x.2.2.1 + 1)), some (.int i1), some (.int i2)] [] LAY M) : ∀ (n : Nat) (i2 : Int32), f_X6_leastReady_2 i1 M k n i2 = some r → Ev l x false cX6_leastReady RX6 (some FieldType.int) 3 1 0 0 (pI r M) 2 [some (.ref (x.2.2.1 + 1)), some (.int i1), some (.int i2)] [] LAY M := by
  intro n
  induction n with
  | zero =>
    intro i2 h
    exact nomatch (show (none : Option Int32) = some r from h)
  | succ n ih =>
    intro i2 h
    have h : s_X6_leastReady_2 i1 M k (f_X6_leastReady_2 i1 M k n) i2 = some r := h
    unfold s_X6_leastReady_2 at h
    refine e_iload_n aX6_leastReady_2 rfl ?_
    refine e_aload_n aX6_leastReady_3 rfl ?_
    refine e_getI aX6_leastReady_4 fX6_23 ly_1 rfl ?_
    rcases of_ite h with ⟨hc1, h⟩ | ⟨hc1, h⟩
    · refine e_icmp_ge (tgt := 35) aX6_leastReady_7 (by decide) (fun _ => ?_) (fun q => absurd hc1 q)
      exact K _ h
    · refine e_icmp_ge (tgt := 35) aX6_leastReady_7 (by decide) (fun q => absurd q hc1) (fun _ => ?_)
      refine e_iload_n aX6_leastReady_10 rfl ?_
      refine e_iconst (v := 1) aX6_leastReady_11 (by decide) ?_
      refine e_iload_n aX6_leastReady_12 rfl ?_
      refine e_ishl aX6_leastReady_13 ?_
      refine e_iand aX6_leastReady_14 ?_
      rcases of_ite h with ⟨hc2, h⟩ | ⟨hc2, h⟩
      · refine e_if_eq (tgt := 29) aX6_leastReady_15 (by decide) (fun _ => ?_) (fun q => absurd hc2 q)
        refine e_iinc (v := i2 + 1) (L2 := [some (.ref (x.2.2.1 + 1)), some (.int i1), some (.int (i2 + 1))]) aX6_leastReady_29 rfl rfl ⟨by decide, rfl⟩ rfl ?_
        refine e_goto (tgt := 2) aX6_leastReady_32 (by decide) ?_
        exact ih _ h
      · refine e_if_eq (tgt := 29) aX6_leastReady_15 (by decide) (fun q => absurd q hc2) (fun _ => ?_)
        refine e_aload_n aX6_leastReady_18 rfl ?_
        refine e_iload_n aX6_leastReady_19 rfl ?_
        refine e_iload_n aX6_leastReady_20 rfl ?_
        obtain ⟨r3, hr3, h⟩ := of_bind h
        refine e_SI [] aX6_leastReady_21 co_X6_goesInto mX6_37 (c_X6_goesInto l x hr3) rfl ⟨by decide, by decide⟩ (Nat.le_of_ble_eq_true rfl) rfl ?_
        rcases of_ite h with ⟨hc4, h⟩ | ⟨hc4, h⟩
        · refine e_if_ne (tgt := 29) aX6_leastReady_24 (by decide) (fun q => absurd hc4 q) (fun _ => ?_)
          refine e_iload_n aX6_leastReady_27 rfl ?_
          exact e_retI aX6_leastReady_28 rfl rfl (pI_ro h)
        · refine e_if_ne (tgt := 29) aX6_leastReady_24 (by decide) (fun _ => ?_) (fun q => absurd q hc4)
          refine e_iinc (v := i2 + 1) (L2 := [some (.ref (x.2.2.1 + 1)), some (.int i1), some (.int (i2 + 1))]) aX6_leastReady_29 rfl rfl ⟨by decide, rfl⟩ rfl ?_
          refine e_goto (tgt := 2) aX6_leastReady_32 (by decide) ?_
          exact ih _ h
def f_X6_leastReady (i1 : Int32) (M : Mem) : Option Int32 :=
  f_X6_leastReady_2 i1 M (fun (i2_1 : Int32) =>
    some 0) FU 0
set_option maxRecDepth 100000 in
set_option maxHeartbeats 4000000 in
theorem c_X6_leastReady (l : Launch) (x : WX) {i1 : Int32} {M : Mem} {r : Int32}  (h : f_X6_leastReady i1 M = some r) : Mt l x false yX6_leastReady cX6_leastReady 3 (some FieldType.int) 1 0 0 [.ref (x.2.2.1 + 1), .int i1] LAY M (pI r M) := by
  refine mt_of (L0 := [some (.ref (x.2.2.1 + 1)), some (.int i1), none]) (by decide +kernel) rfl (Nat.le_of_ble_eq_true rfl) (lvA_of 1 rfl) ?_
  unfold f_X6_leastReady at h
  refine e_iconst (v := 0) aX6_leastReady_0 (by decide) ?_
  refine e_istore_n (L2 := [some (.ref (x.2.2.1 + 1)), some (.int i1), some (.int 0)]) aX6_leastReady_1 ⟨by decide, rfl⟩ rfl ?_
  refine w_X6_leastReady_2 l x  (fun i2_1 h => ?_) FU _ h
  refine e_iconst (v := 0) aX6_leastReady_35 (by decide) ?_
  exact e_retI aX6_leastReady_36 rfl rfl (pI_ro h)
def s_X6_findPathsFrom_2 (i2 : Int32) (k : Int32 → Mem → Option Mem) (rec : Int32 → Mem → Option Mem) (i3 : Int32) (M : Mem) : Option Mem :=
  if 6 ≤ i3 then
    k i3 M
  else
    if i2 < 0 ∨ 6 ≤ i2.toNatClampNeg then none else
    if i3 = i2 then
      if i3 < 0 ∨ 6 ≤ i3.toNatClampNeg then none else
      lt (um M (51 + i2.toNatClampNeg) i3.toNatClampNeg 1) fun (M7 : Mem) =>
      rec (i3 + 1) M7
    else
      if i3 < 0 ∨ 6 ≤ i3.toNatClampNeg then none else
      lt (um M (51 + i2.toNatClampNeg) i3.toNatClampNeg 0) fun (M5 : Mem) =>
      rec (i3 + 1) M5
def f_X6_findPathsFrom_2 (i2 : Int32) (k : Int32 → Mem → Option Mem) : Nat → Int32 → Mem → Option Mem
  | 0 => fun _ _ => none
  | n + 1 => fun i3 M => s_X6_findPathsFrom_2 i2 k (f_X6_findPathsFrom_2 i2 k n) i3 M
set_option maxRecDepth 100000 in
set_option maxHeartbeats 4000000 in
theorem w_X6_findPathsFrom_2 (l : Launch) (x : WX) {i2 : Int32} {k : Int32 → Mem → Option Mem} {r : Mem}  (K : ∀ (i3 : Int32) (M : Mem), k i3 M = some r → Ev l x false cX6_findPathsFrom RX6 none 5 0 0 0 (pV r) 32 [some (.ref (x.2.2.1 + 47)), some (.ref (x.2.2.1 + 1)), some (.int i2), some (.int i3), none] [] LAY M) : ∀ (n : Nat) (i3 : Int32) (M : Mem), f_X6_findPathsFrom_2 i2 k n i3 M = some r → Ev l x false cX6_findPathsFrom RX6 none 5 0 0 0 (pV r) 2 [some (.ref (x.2.2.1 + 47)), some (.ref (x.2.2.1 + 1)), some (.int i2), some (.int i3), none] [] LAY M := by
  intro n
  induction n with
  | zero =>
    intro i3 M h
    exact nomatch (show (none : Option Mem) = some r from h)
  | succ n ih =>
    intro i3 M h
    have h : s_X6_findPathsFrom_2 i2 k (f_X6_findPathsFrom_2 i2 k n) i3 M = some r := h
    unfold s_X6_findPathsFrom_2 at h
    refine e_iload_n aX6_findPathsFrom_2 rfl ?_
    refine e_bipush (v := 6) aX6_findPathsFrom_3 (by decide) ?_
    rcases of_ite h with ⟨hc1, h⟩ | ⟨hc1, h⟩
    · refine e_icmp_ge (tgt := 32) aX6_findPathsFrom_5 (by decide) (fun _ => ?_) (fun q => absurd hc1 q)
      exact K _ _ h
    · refine e_icmp_ge (tgt := 32) aX6_findPathsFrom_5 (by decide) (fun q => absurd q hc1) (fun _ => ?_)
      refine e_aload_n aX6_findPathsFrom_8 rfl ?_
      refine e_getR (r := 50) aX6_findPathsFrom_9 fX6_20 ly_47 rfl ?_
      refine e_iload_n aX6_findPathsFrom_12 rfl ?_
      obtain ⟨hg2, h⟩ := of_guard h
      refine e_aald aX6_findPathsFrom_13 ly_50 (by decide) hg2 (ra_W _ (ix_lt hg2)) ?_
      refine e_iload_n aX6_findPathsFrom_14 rfl ?_
      refine e_iload_n aX6_findPathsFrom_15 rfl ?_
      refine e_iload_n aX6_findPathsFrom_16 rfl ?_
      rcases of_ite h with ⟨hc3, h⟩ | ⟨hc3, h⟩
      · refine e_icmp_ne (tgt := 24) aX6_findPathsFrom_17 (by decide) (fun q => absurd hc3 q) (fun _ => ?_)
        refine e_iconst (v := 1) aX6_findPathsFrom_20 (by decide) ?_
        refine e_goto (tgt := 25) aX6_findPathsFrom_21 (by decide) ?_
        obtain ⟨hg6, h⟩ := of_guard h
        obtain ⟨M7, eM7, h⟩ := of_lt h
        refine e_ist aX6_findPathsFrom_25 (rr_W _ (ix_lt hg2)) hg6 eM7 ?_
        refine e_iinc (v := i3 + 1) (L2 := [some (.ref (x.2.2.1 + 47)), some (.ref (x.2.2.1 + 1)), some (.int i2), some (.int (i3 + 1)), none]) aX6_findPathsFrom_26 rfl rfl ⟨by decide, rfl⟩ rfl ?_
        refine e_goto (tgt := 2) aX6_findPathsFrom_29 (by decide) ?_
        exact ih _ _ h
      · refine e_icmp_ne (tgt := 24) aX6_findPathsFrom_17 (by decide) (fun _ => ?_) (fun q => absurd q hc3)
        refine e_iconst (v := 0) aX6_findPathsFrom_24 (by decide) ?_
        obtain ⟨hg4, h⟩ := of_guard h
        obtain ⟨M5, eM5, h⟩ := of_lt h
        refine e_ist aX6_findPathsFrom_25 (rr_W _ (ix_lt hg2)) hg4 eM5 ?_
        refine e_iinc (v := i3 + 1) (L2 := [some (.ref (x.2.2.1 + 47)), some (.ref (x.2.2.1 + 1)), some (.int i2), some (.int (i3 + 1)), none]) aX6_findPathsFrom_26 rfl rfl ⟨by decide, rfl⟩ rfl ?_
        refine e_goto (tgt := 2) aX6_findPathsFrom_29 (by decide) ?_
        exact ih _ _ h
def s_X6_findPathsFrom_55 (i2 : Int32) (i3 : Int32) (k : Int32 → Mem → Option Mem) (rec : Int32 → Mem → Option Mem) (i4 : Int32) (M : Mem) : Option Mem :=
  if M 1 0 ≤ i4 then
    k i4 M
  else
    if i2 < 0 ∨ 6 ≤ i2.toNatClampNeg then none else
    if i4 < 0 ∨ 6 ≤ i4.toNatClampNeg then none else
    if i3 < 0 ∨ 10 ≤ i3.toNatClampNeg then none else
    if M 3 i3.toNatClampNeg < 0 ∨ 6 ≤ (M 3 i3.toNatClampNeg).toNatClampNeg then none else
    if i4 < 0 ∨ 6 ≤ i4.toNatClampNeg then none else
    if i4 < 0 ∨ 6 ≤ i4.toNatClampNeg then none else
    lt (um M (51 + i2.toNatClampNeg) i4.toNatClampNeg ((M (51 + i2.toNatClampNeg) i4.toNatClampNeg) + (M (51 + (M 3 i3.toNatClampNeg).toNatClampNeg) i4.toNatClampNeg))) fun (M8 : Mem) =>
    rec (i4 + 1) M8
def f_X6_findPathsFrom_55 (i2 : Int32) (i3 : Int32) (k : Int32 → Mem → Option Mem) : Nat → Int32 → Mem → Option Mem
  | 0 => fun _ _ => none
  | n + 1 => fun i4 M => s_X6_findPathsFrom_55 i2 i3 k (f_X6_findPathsFrom_55 i2 i3 k n) i4 M
set_option maxRecDepth 100000 in
set_option maxHeartbeats 4000000 in
theorem w_X6_findPathsFrom_55 (l : Launch) (x : WX) {i2 : Int32} {i3 : Int32} {k : Int32 → Mem → Option Mem} {r : Mem}  (K : ∀ (i4 : Int32) (M : Mem), k i4 M = some r → Ev l x false cX6_findPathsFrom RX6 none 5 0 0 0 (pV r) 96 [some (.ref (x.2.2.1 + 47)), some (.ref (x.2.2.1 + 1)), some (.int i2), some (.int i3), some (.int i4)] [] LAY M) : ∀ (n : Nat) (i4 : Int32) (M : Mem), f_X6_findPathsFrom_55 i2 i3 k n i4 M = some r → Ev l x false cX6_findPathsFrom RX6 none 5 0 0 0 (pV r) 55 [some (.ref (x.2.2.1 + 47)), some (.ref (x.2.2.1 + 1)), some (.int i2), some (.int i3), some (.int i4)] [] LAY M := by
  intro n
  induction n with
  | zero =>
    intro i4 M h
    exact nomatch (show (none : Option Mem) = some r from h)
  | succ n ih =>
    intro i4 M h
    have h : s_X6_findPathsFrom_55 i2 i3 k (f_X6_findPathsFrom_55 i2 i3 k n) i4 M = some r := h
    unfold s_X6_findPathsFrom_55 at h
    refine e_iload aX6_findPathsFrom_55 rfl ?_
    refine e_aload_n aX6_findPathsFrom_57 rfl ?_
    refine e_getI aX6_findPathsFrom_58 fX6_23 ly_1 rfl ?_
    rcases of_ite h with ⟨hc1, h⟩ | ⟨hc1, h⟩
    · refine e_icmp_ge (tgt := 96) aX6_findPathsFrom_61 (by decide) (fun _ => ?_) (fun q => absurd hc1 q)
      exact K _ _ h
    · refine e_icmp_ge (tgt := 96) aX6_findPathsFrom_61 (by decide) (fun q => absurd q hc1) (fun _ => ?_)
      refine e_aload_n aX6_findPathsFrom_64 rfl ?_
      refine e_getR (r := 50) aX6_findPathsFrom_65 fX6_20 ly_47 rfl ?_
      refine e_iload_n aX6_findPathsFrom_68 rfl ?_
      obtain ⟨hg2, h⟩ := of_guard h
      refine e_aald aX6_findPathsFrom_69 ly_50 (by decide) hg2 (ra_W _ (ix_lt hg2)) ?_
      refine e_iload aX6_findPathsFrom_70 rfl ?_
      refine e_dup2 aX6_findPathsFrom_72 ?_
      obtain ⟨hg3, h⟩ := of_guard h
      refine e_iald aX6_findPathsFrom_73 (rr_W _ (ix_lt hg2)) hg3 ?_
      refine e_aload_n aX6_findPathsFrom_74 rfl ?_
      refine e_getR (r := 50) aX6_findPathsFrom_75 fX6_20 ly_47 rfl ?_
      refine e_aload_n aX6_findPathsFrom_78 rfl ?_
      refine e_getR (r := 3) aX6_findPathsFrom_79 fX6_47 ly_1 rfl ?_
      refine e_iload_n aX6_findPathsFrom_82 rfl ?_
      obtain ⟨hg4, h⟩ := of_guard h
      refine e_iald aX6_findPathsFrom_83 ly_3 hg4 ?_
      obtain ⟨hg5, h⟩ := of_guard h
      refine e_aald aX6_findPathsFrom_84 ly_50 (by decide) hg5 (ra_W _ (ix_lt hg5)) ?_
      refine e_iload aX6_findPathsFrom_85 rfl ?_
      obtain ⟨hg6, h⟩ := of_guard h
      refine e_iald aX6_findPathsFrom_87 (rr_W _ (ix_lt hg5)) hg6 ?_
      refine e_iadd aX6_findPathsFrom_88 ?_
      obtain ⟨hg7, h⟩ := of_guard h
      obtain ⟨M8, eM8, h⟩ := of_lt h
      refine e_ist aX6_findPathsFrom_89 (rr_W _ (ix_lt hg2)) hg7 eM8 ?_
      refine e_iinc (v := i4 + 1) (L2 := [some (.ref (x.2.2.1 + 47)), some (.ref (x.2.2.1 + 1)), some (.int i2), some (.int i3), some (.int (i4 + 1))]) aX6_findPathsFrom_90 rfl rfl ⟨by decide, rfl⟩ rfl ?_
      refine e_goto (tgt := 55) aX6_findPathsFrom_93 (by decide) ?_
      exact ih _ _ h
def s_X6_findPathsFrom_34 (i2 : Int32) (k : Int32 → Mem → Option Mem) (rec : Int32 → Mem → Option Mem) (i3 : Int32) (M : Mem) : Option Mem :=
  if M 1 1 ≤ i3 then
    k i3 M
  else
    if i3 < 0 ∨ 10 ≤ i3.toNatClampNeg then none else
    if M 2 i3.toNatClampNeg = i2 then
      f_X6_findPathsFrom_55 i2 i3 (fun (i4_4 : Int32) (M5 : Mem) =>
        rec (i3 + 1) M5) FU 0 M
    else
      rec (i3 + 1) M
def f_X6_findPathsFrom_34 (i2 : Int32) (k : Int32 → Mem → Option Mem) : Nat → Int32 → Mem → Option Mem
  | 0 => fun _ _ => none
  | n + 1 => fun i3 M => s_X6_findPathsFrom_34 i2 k (f_X6_findPathsFrom_34 i2 k n) i3 M
set_option maxRecDepth 100000 in
set_option maxHeartbeats 4000000 in
theorem w_X6_findPathsFrom_34 (l : Launch) (x : WX) {i2 : Int32} {k : Int32 → Mem → Option Mem} {r : Mem}  (K : ∀ (i3 : Int32) (M : Mem), k i3 M = some r → Ev l x false cX6_findPathsFrom RX6 none 5 0 0 0 (pV r) 102 [some (.ref (x.2.2.1 + 47)), some (.ref (x.2.2.1 + 1)), some (.int i2), some (.int i3), none] [] LAY M) : ∀ (n : Nat) (i3 : Int32) (M : Mem), f_X6_findPathsFrom_34 i2 k n i3 M = some r → Ev l x false cX6_findPathsFrom RX6 none 5 0 0 0 (pV r) 34 [some (.ref (x.2.2.1 + 47)), some (.ref (x.2.2.1 + 1)), some (.int i2), some (.int i3), none] [] LAY M := by
  intro n
  induction n with
  | zero =>
    intro i3 M h
    exact nomatch (show (none : Option Mem) = some r from h)
  | succ n ih =>
    intro i3 M h
    have h : s_X6_findPathsFrom_34 i2 k (f_X6_findPathsFrom_34 i2 k n) i3 M = some r := h
    unfold s_X6_findPathsFrom_34 at h
    refine e_iload_n aX6_findPathsFrom_34 rfl ?_
    refine e_aload_n aX6_findPathsFrom_35 rfl ?_
    refine e_getI aX6_findPathsFrom_36 fX6_41 ly_1 rfl ?_
    rcases of_ite h with ⟨hc1, h⟩ | ⟨hc1, h⟩
    · refine e_icmp_ge (tgt := 102) aX6_findPathsFrom_39 (by decide) (fun _ => ?_) (fun q => absurd hc1 q)
      exact K _ _ h
    · refine e_icmp_ge (tgt := 102) aX6_findPathsFrom_39 (by decide) (fun q => absurd q hc1) (fun _ => ?_)
      refine e_aload_n aX6_findPathsFrom_42 rfl ?_
      refine e_getR (r := 2) aX6_findPathsFrom_43 fX6_44 ly_1 rfl ?_
      refine e_iload_n aX6_findPathsFrom_46 rfl ?_
      obtain ⟨hg2, h⟩ := of_guard h
      refine e_iald aX6_findPathsFrom_47 ly_2 hg2 ?_
      refine e_iload_n aX6_findPathsFrom_48 rfl ?_
      rcases of_ite h with ⟨hc3, h⟩ | ⟨hc3, h⟩
      · refine e_icmp_ne (tgt := 96) aX6_findPathsFrom_49 (by decide) (fun q => absurd hc3 q) (fun _ => ?_)
        refine e_iconst (v := 0) aX6_findPathsFrom_52 (by decide) ?_
        refine e_istore (L2 := [some (.ref (x.2.2.1 + 47)), some (.ref (x.2.2.1 + 1)), some (.int i2), some (.int i3), some (.int 0)]) aX6_findPathsFrom_53 ⟨by decide, rfl⟩ rfl ?_
        refine w_X6_findPathsFrom_55 l x  (fun i4_4 M5 h => ?_) FU _ _ h
        refine e_iinc (v := i3 + 1) (L2 := [some (.ref (x.2.2.1 + 47)), some (.ref (x.2.2.1 + 1)), some (.int i2), some (.int (i3 + 1)), some (.int i4_4)]) aX6_findPathsFrom_96 rfl rfl ⟨by decide, rfl⟩ rfl ?_
        refine e_goto (tgt := 34) aX6_findPathsFrom_99 (by decide) ?_
        refine e_drop 4 (L2 := [some (.ref (x.2.2.1 + 47)), some (.ref (x.2.2.1 + 1)), some (.int i2), some (.int (i3 + 1)), none]) rfl ?_
        exact ih _ _ h
      · refine e_icmp_ne (tgt := 96) aX6_findPathsFrom_49 (by decide) (fun _ => ?_) (fun q => absurd q hc3)
        refine e_iinc (v := i3 + 1) (L2 := [some (.ref (x.2.2.1 + 47)), some (.ref (x.2.2.1 + 1)), some (.int i2), some (.int (i3 + 1)), none]) aX6_findPathsFrom_96 rfl rfl ⟨by decide, rfl⟩ rfl ?_
        refine e_goto (tgt := 34) aX6_findPathsFrom_99 (by decide) ?_
        exact ih _ _ h
def f_X6_findPathsFrom (i2 : Int32) (M : Mem) : Option Mem :=
  f_X6_findPathsFrom_2 i2 (fun (i3_1 : Int32) (M2 : Mem) =>
    f_X6_findPathsFrom_34 i2 (fun (i3_3 : Int32) (M4 : Mem) =>
      some M4) FU 0 M2) FU 0 M
set_option maxRecDepth 100000 in
set_option maxHeartbeats 4000000 in
theorem c_X6_findPathsFrom (l : Launch) (x : WX) {i2 : Int32} {M : Mem} {r : Mem}  (h : f_X6_findPathsFrom i2 M = some r) : Mt l x false yX6_findPathsFrom cX6_findPathsFrom 5 none 0 0 0 [.ref (x.2.2.1 + 47), .ref (x.2.2.1 + 1), .int i2] LAY M (pV r) := by
  refine mt_of (L0 := [some (.ref (x.2.2.1 + 47)), some (.ref (x.2.2.1 + 1)), some (.int i2), none, none]) (by decide +kernel) rfl (Nat.le_of_ble_eq_true rfl) (lvA_of 2 rfl) ?_
  unfold f_X6_findPathsFrom at h
  refine e_iconst (v := 0) aX6_findPathsFrom_0 (by decide) ?_
  refine e_istore_n (L2 := [some (.ref (x.2.2.1 + 47)), some (.ref (x.2.2.1 + 1)), some (.int i2), some (.int 0), none]) aX6_findPathsFrom_1 ⟨by decide, rfl⟩ rfl ?_
  refine w_X6_findPathsFrom_2 l x  (fun i3_1 M2 h => ?_) FU _ _ h
  refine e_iconst (v := 0) aX6_findPathsFrom_32 (by decide) ?_
  refine e_istore_n (L2 := [some (.ref (x.2.2.1 + 47)), some (.ref (x.2.2.1 + 1)), some (.int i2), some (.int 0), none]) aX6_findPathsFrom_33 ⟨by decide, rfl⟩ rfl ?_
  refine w_X6_findPathsFrom_34 l x  (fun i3_3 M4 h => ?_) FU _ _ h
  exact e_ret0 aX6_findPathsFrom_102 rfl (pV_of h)
def s_X6_learn_11  (k : Int32 → Int32 → Mem → Option Mem) (rec : Int32 → Int32 → Mem → Option Mem) (i2 : Int32) (i3 : Int32) (M : Mem) : Option Mem :=
  if M 1 0 ≤ i3 then
    k i2 i3 M
  else
    (f_X6_leastReady i2 M).bind fun (r2 : Int32) =>
    if i3 < 0 ∨ 6 ≤ i3.toNatClampNeg then none else
    lt (um M 48 i3.toNatClampNeg r2) fun (M4 : Mem) =>
    if r2 < 0 ∨ 6 ≤ r2.toNatClampNeg then none else
    lt (um M4 49 r2.toNatClampNeg i3) fun (M6 : Mem) =>
    lt (i2 &&& ((1 <<< (r2 &&& 31)) ^^^ (-1))) fun (v7 : Int32) =>
    (f_X6_findPathsFrom r2 M6).bind fun (M8 : Mem) =>
    rec v7 (i3 + 1) M8
def f_X6_learn_11  (k : Int32 → Int32 → Mem → Option Mem) : Nat → Int32 → Int32 → Mem → Option Mem
  | 0 => fun _ _ _ => none
  | n + 1 => fun i2 i3 M => s_X6_learn_11  k (f_X6_learn_11  k n) i2 i3 M
set_option maxRecDepth 100000 in
set_option maxHeartbeats 4000000 in
theorem w_X6_learn_11 (l : Launch) (x : WX)  {k : Int32 → Int32 → Mem → Option Mem} {r : Mem}  (K : ∀ (i2 : Int32) (i3 : Int32) (M : Mem), k i2 i3 M = some r → Ev l x false cX6_learn RX6 none 5 2 0 0 (pV r) 64 [some (.ref (x.2.2.1 + 47)), some (.ref (x.2.2.1 + 1)), some (.int i2), some (.int i3), none] [] LAY M) : ∀ (n : Nat) (i2 : Int32) (i3 : Int32) (M : Mem), f_X6_learn_11  k n i2 i3 M = some r → Ev l x false cX6_learn RX6 none 5 2 0 0 (pV r) 11 [some (.ref (x.2.2.1 + 47)), some (.ref (x.2.2.1 + 1)), some (.int i2), some (.int i3), none] [] LAY M := by
  intro n
  induction n with
  | zero =>
    intro i2 i3 M h
    exact nomatch (show (none : Option Mem) = some r from h)
  | succ n ih =>
    intro i2 i3 M h
    have h : s_X6_learn_11  k (f_X6_learn_11  k n) i2 i3 M = some r := h
    unfold s_X6_learn_11 at h
    refine e_iload_n aX6_learn_11 rfl ?_
    refine e_aload_n aX6_learn_12 rfl ?_
    refine e_getI aX6_learn_13 fX6_23 ly_1 rfl ?_
    rcases of_ite h with ⟨hc1, h⟩ | ⟨hc1, h⟩
    · refine e_icmp_ge (tgt := 64) aX6_learn_16 (by decide) (fun _ => ?_) (fun q => absurd hc1 q)
      exact K _ _ _ h
    · refine e_icmp_ge (tgt := 64) aX6_learn_16 (by decide) (fun q => absurd q hc1) (fun _ => ?_)
      refine e_aload_n aX6_learn_19 rfl ?_
      refine e_iload_n aX6_learn_20 rfl ?_
      obtain ⟨r2, hr2, h⟩ := of_bind h
      refine e_SI [] aX6_learn_21 co_X6_leastReady mX6_29 (c_X6_leastReady l x hr2) rfl ⟨by decide, by decide⟩ (Nat.le_of_ble_eq_true rfl) rfl ?_
      refine e_istore (L2 := [some (.ref (x.2.2.1 + 47)), some (.ref (x.2.2.1 + 1)), some (.int i2), some (.int i3), some (.int r2)]) aX6_learn_24 ⟨by decide, rfl⟩ rfl ?_
      refine e_aload_n aX6_learn_26 rfl ?_
      refine e_getR (r := 48) aX6_learn_27 fX6_9 ly_47 rfl ?_
      refine e_iload_n aX6_learn_30 rfl ?_
      refine e_iload aX6_learn_31 rfl ?_
      obtain ⟨hg3, h⟩ := of_guard h
      obtain ⟨M4, eM4, h⟩ := of_lt h
      refine e_ist aX6_learn_33 ly_48 hg3 eM4 ?_
      refine e_aload_n aX6_learn_34 rfl ?_
      refine e_getR (r := 49) aX6_learn_35 fX6_15 ly_47 rfl ?_
      refine e_iload aX6_learn_38 rfl ?_
      refine e_iload_n aX6_learn_40 rfl ?_
      obtain ⟨hg5, h⟩ := of_guard h
      obtain ⟨M6, eM6, h⟩ := of_lt h
      refine e_ist aX6_learn_41 ly_49 hg5 eM6 ?_
      refine e_iload_n aX6_learn_42 rfl ?_
      refine e_iconst (v := 1) aX6_learn_43 (by decide) ?_
      refine e_iload aX6_learn_44 rfl ?_
      refine e_ishl aX6_learn_46 ?_
      refine e_iconst (v := (-1)) aX6_learn_47 (by decide) ?_
      refine e_ixor aX6_learn_48 ?_
      refine e_iand aX6_learn_49 ?_
      obtain ⟨v7, ev7, h⟩ := of_lt h
      refine e_nameI ev7 ?_
      refine e_istore_n (L2 := [some (.ref (x.2.2.1 + 47)), some (.ref (x.2.2.1 + 1)), some (.int v7), some (.int i3), some (.int r2)]) aX6_learn_50 ⟨by decide, rfl⟩ rfl ?_
      refine e_aload_n aX6_learn_51 rfl ?_
      refine e_aload_n aX6_learn_52 rfl ?_
      refine e_iload aX6_learn_53 rfl ?_
      obtain ⟨M8, hM8, h⟩ := of_bind h
      refine e_VV [] aX6_learn_55 co_X6_findPathsFrom mX6_33 ly_47 rfl rfl (c_X6_findPathsFrom l x hM8) rfl ⟨by decide, by decide⟩ (Nat.le_of_ble_eq_true rfl) rfl ?_
      refine e_iinc (v := i3 + 1) (L2 := [some (.ref (x.2.2.1 + 47)), some (.ref (x.2.2.1 + 1)), some (.int v7), some (.int (i3 + 1)), some (.int r2)]) aX6_learn_58 rfl rfl ⟨by decide, rfl⟩ rfl ?_
      refine e_goto (tgt := 11) aX6_learn_61 (by decide) ?_
      refine e_drop 4 (L2 := [some (.ref (x.2.2.1 + 47)), some (.ref (x.2.2.1 + 1)), some (.int v7), some (.int (i3 + 1)), none]) rfl ?_
      exact ih _ _ _ h
def f_X6_learn  (M : Mem) : Option Mem :=
  lt ((1 <<< ((M 1 0) &&& 31)) - 1) fun (v1 : Int32) =>
  f_X6_learn_11  (fun (i2_2 : Int32) (i3_3 : Int32) (M4 : Mem) =>
    some M4) FU v1 0 M
set_option maxRecDepth 100000 in
set_option maxHeartbeats 4000000 in
theorem c_X6_learn (l : Launch) (x : WX)  {M : Mem} {r : Mem}  (h : f_X6_learn  M = some r) : Mt l x false yX6_learn cX6_learn 5 none 2 0 0 [.ref (x.2.2.1 + 47), .ref (x.2.2.1 + 1)] LAY M (pV r) := by
  refine mt_of (L0 := [some (.ref (x.2.2.1 + 47)), some (.ref (x.2.2.1 + 1)), none, none, none]) (by decide +kernel) rfl (Nat.le_of_ble_eq_true rfl) (lvA_of 3 rfl) ?_
  unfold f_X6_learn at h
  refine e_iconst (v := 1) aX6_learn_0 (by decide) ?_
  refine e_aload_n aX6_learn_1 rfl ?_
  refine e_getI aX6_learn_2 fX6_23 ly_1 rfl ?_
  refine e_ishl aX6_learn_5 ?_
  refine e_iconst (v := 1) aX6_learn_6 (by decide) ?_
  refine e_isub aX6_learn_7 ?_
  obtain ⟨v1, ev1, h⟩ := of_lt h
  refine e_nameI ev1 ?_
  refine e_istore_n (L2 := [some (.ref (x.2.2.1 + 47)), some (.ref (x.2.2.1 + 1)), some (.int v1), none, none]) aX6_learn_8 ⟨by decide, rfl⟩ rfl ?_
  refine e_iconst (v := 0) aX6_learn_9 (by decide) ?_
  refine e_istore_n (L2 := [some (.ref (x.2.2.1 + 47)), some (.ref (x.2.2.1 + 1)), some (.int v1), some (.int 0), none]) aX6_learn_10 ⟨by decide, rfl⟩ rfl ?_
  refine w_X6_learn_11 l x  (fun i2_2 i3_3 M4 h => ?_) FU _ _ _ h
  exact e_ret0 aX6_learn_64 rfl (pV_of h)
def s_X7_totalOf_4 (p0 : Nat) (i1 : Int32) (M : Mem) (k : Int32 → Int32 → Option Int32) (rec : Int32 → Int32 → Option Int32) (i2 : Int32) (i3 : Int32) : Option Int32 :=
  if i1 ≤ i3 then
    k i2 i3
  else
    if i3 < 0 ∨ 6 ≤ i3.toNatClampNeg then none else
    lt (i2 + (M p0 i3.toNatClampNeg)) fun (v3 : Int32) =>
    rec v3 (i3 + 1)
def f_X7_totalOf_4 (p0 : Nat) (i1 : Int32) (M : Mem) (k : Int32 → Int32 → Option Int32) : Nat → Int32 → Int32 → Option Int32
  | 0 => fun _ _ => none
  | n + 1 => fun i2 i3 => s_X7_totalOf_4 p0 i1 M k (f_X7_totalOf_4 p0 i1 M k n) i2 i3
set_option maxRecDepth 100000 in
set_option maxHeartbeats 4000000 in
theorem w_X7_totalOf_4 (l : Launch) (x : WX) {p0 : Nat} {i1 : Int32} {M : Mem} {k : Int32 → Int32 → Option Int32} {r : Int32} (hp0 : LAY[p0]? = some (1, 6, [])) (K : ∀ (i2 : Int32) (i3 : Int32), k i2 i3 = some r → Ev l x false cX7_totalOf RX7 (some FieldType.int) 4 0 0 0 (pI r M) 21 [some (.ref (x.2.2.1 + p0)), some (.int i1), some (.int i2), some (.int i3)] [] LAY M) : ∀ (n : Nat) (i2 : Int32) (i3 : Int32), f_X7_totalOf_4 p0 i1 M k n i2 i3 = some r → Ev l x false cX7_totalOf RX7 (some FieldType.int) 4 0 0 0 (pI r M) 4 [some (.ref (x.2.2.1 + p0)), some (.int i1), some (.int i2), some (.int i3)] [] LAY M := by
  intro n
  induction n with
  | zero =>
    intro i2 i3 h
    exact nomatch (show (none : Option Int32) = some r from h)
  | succ n ih =>
    intro i2 i3 h
    have h : s_X7_totalOf_4 p0 i1 M k (f_X7_totalOf_4 p0 i1 M k n) i2 i3 = some r := h
    unfold s_X7_totalOf_4 at h
    refine e_iload_n aX7_totalOf_4 rfl ?_
    refine e_iload_n aX7_totalOf_5 rfl ?_
    rcases of_ite h with ⟨hc1, h⟩ | ⟨hc1, h⟩
    · refine e_icmp_ge (tgt := 21) aX7_totalOf_6 (by decide) (fun _ => ?_) (fun q => absurd hc1 q)
      exact K _ _ h
    · refine e_icmp_ge (tgt := 21) aX7_totalOf_6 (by decide) (fun q => absurd q hc1) (fun _ => ?_)
      refine e_iload_n aX7_totalOf_9 rfl ?_
      refine e_aload_n aX7_totalOf_10 rfl ?_
      refine e_iload_n aX7_totalOf_11 rfl ?_
      obtain ⟨hg2, h⟩ := of_guard h
      refine e_iald aX7_totalOf_12 hp0 hg2 ?_
      refine e_iadd aX7_totalOf_13 ?_
      obtain ⟨v3, ev3, h⟩ := of_lt h
      refine e_nameI ev3 ?_
      refine e_istore_n (L2 := [some (.ref (x.2.2.1 + p0)), some (.int i1), some (.int v3), some (.int i3)]) aX7_totalOf_14 ⟨by decide, rfl⟩ rfl ?_
      refine e_iinc (v := i3 + 1) (L2 := [some (.ref (x.2.2.1 + p0)), some (.int i1), some (.int v3), some (.int (i3 + 1))]) aX7_totalOf_15 rfl rfl ⟨by decide, rfl⟩ rfl ?_
      refine e_goto (tgt := 4) aX7_totalOf_18 (by decide) ?_
      exact ih _ _ h
def f_X7_totalOf (p0 : Nat) (i1 : Int32) (M : Mem) : Option Int32 :=
  f_X7_totalOf_4 p0 i1 M (fun (i2_1 : Int32) (i3_2 : Int32) =>
    some i2_1) FU 0 0
set_option maxRecDepth 100000 in
set_option maxHeartbeats 4000000 in
theorem c_X7_totalOf (l : Launch) (x : WX) {p0 : Nat} {i1 : Int32} {M : Mem} {r : Int32} (hp0 : LAY[p0]? = some (1, 6, [])) (h : f_X7_totalOf p0 i1 M = some r) : Mt l x false yX7_totalOf cX7_totalOf 4 (some FieldType.int) 0 0 0 [.ref (x.2.2.1 + p0), .int i1] LAY M (pI r M) := by
  refine mt_of (L0 := [some (.ref (x.2.2.1 + p0)), some (.int i1), none, none]) (by decide +kernel) rfl (Nat.le_of_ble_eq_true rfl) (lvA_of 2 rfl) ?_
  unfold f_X7_totalOf at h
  refine e_iconst (v := 0) aX7_totalOf_0 (by decide) ?_
  refine e_istore_n (L2 := [some (.ref (x.2.2.1 + p0)), some (.int i1), some (.int 0), none]) aX7_totalOf_1 ⟨by decide, rfl⟩ rfl ?_
  refine e_iconst (v := 0) aX7_totalOf_2 (by decide) ?_
  refine e_istore_n (L2 := [some (.ref (x.2.2.1 + p0)), some (.int i1), some (.int 0), some (.int 0)]) aX7_totalOf_3 ⟨by decide, rfl⟩ rfl ?_
  refine w_X7_totalOf_4 l x hp0 (fun i2_1 i3_2 h => ?_) FU _ _ h
  refine e_iload_n aX7_totalOf_21 rfl ?_
  exact e_retI aX7_totalOf_22 rfl rfl (pI_ro h)
def s_X6_allPaths_4 (i1 : Int32) (M : Mem) (k : Int32 → Int32 → Option Int32) (rec : Int32 → Int32 → Option Int32) (i2 : Int32) (i3 : Int32) : Option Int32 :=
  if i1 ≤ i3 then
    k i2 i3
  else
    if i3 < 0 ∨ 6 ≤ i3.toNatClampNeg then none else
    (f_X7_totalOf (51 + i3.toNatClampNeg) i1 M).bind fun (r3 : Int32) =>
    lt (i2 + r3) fun (v4 : Int32) =>
    rec v4 (i3 + 1)
def f_X6_allPaths_4 (i1 : Int32) (M : Mem) (k : Int32 → Int32 → Option Int32) : Nat → Int32 → Int32 → Option Int32
  | 0 => fun _ _ => none
  | n + 1 => fun i2 i3 => s_X6_allPaths_4 i1 M k (f_X6_allPaths_4 i1 M k n) i2 i3
set_option maxRecDepth 100000 in
set_option maxHeartbeats 4000000 in
theorem w_X6_allPaths_4 (l : Launch) (x : WX) {i1 : Int32} {M : Mem} {k : Int32 → Int32 → Option Int32} {r : Int32}  (K : ∀ (i2 : Int32) (i3 : Int32), k i2 i3 = some r → Ev l x false cX6_allPaths RX6 (some FieldType.int) 4 1 0 0 (pI r M) 28 [some (.ref (x.2.2.1 + 47)), some (.int i1), some (.int i2), some (.int i3)] [] LAY M) : ∀ (n : Nat) (i2 : Int32) (i3 : Int32), f_X6_allPaths_4 i1 M k n i2 i3 = some r → Ev l x false cX6_allPaths RX6 (some FieldType.int) 4 1 0 0 (pI r M) 4 [some (.ref (x.2.2.1 + 47)), some (.int i1), some (.int i2), some (.int i3)] [] LAY M := by
  intro n
  induction n with
  | zero =>
    intro i2 i3 h
    exact nomatch (show (none : Option Int32) = some r from h)
  | succ n ih =>
    intro i2 i3 h
    have h : s_X6_allPaths_4 i1 M k (f_X6_allPaths_4 i1 M k n) i2 i3 = some r := h
    unfold s_X6_allPaths_4 at h
    refine e_iload_n aX6_allPaths_4 rfl ?_
    refine e_iload_n aX6_allPaths_5 rfl ?_
    rcases of_ite h with ⟨hc1, h⟩ | ⟨hc1, h⟩
    · refine e_icmp_ge (tgt := 28) aX6_allPaths_6 (by decide) (fun _ => ?_) (fun q => absurd hc1 q)
      exact K _ _ h
    · refine e_icmp_ge (tgt := 28) aX6_allPaths_6 (by decide) (fun q => absurd q hc1) (fun _ => ?_)
      refine e_iload_n aX6_allPaths_9 rfl ?_
      refine e_aload_n aX6_allPaths_10 rfl ?_
      refine e_getR (r := 50) aX6_allPaths_11 fX6_20 ly_47 rfl ?_
      refine e_iload_n aX6_allPaths_14 rfl ?_
      obtain ⟨hg2, h⟩ := of_guard h
      refine e_aald aX6_allPaths_15 ly_50 (by decide) hg2 (ra_W _ (ix_lt hg2)) ?_
      refine e_iload_n aX6_allPaths_16 rfl ?_
      obtain ⟨r3, hr3, h⟩ := of_bind h
      refine e_NI [.int i2] aX6_allPaths_17 co_X7_totalOf mX6_50 (c_X7_totalOf l x (rr_W _ (ix_lt hg2)) hr3) rfl ⟨by decide, by decide⟩ (Nat.le_of_ble_eq_true rfl) rfl ?_
      refine e_iadd aX6_allPaths_20 ?_
      obtain ⟨v4, ev4, h⟩ := of_lt h
      refine e_nameI ev4 ?_
      refine e_istore_n (L2 := [some (.ref (x.2.2.1 + 47)), some (.int i1), some (.int v4), some (.int i3)]) aX6_allPaths_21 ⟨by decide, rfl⟩ rfl ?_
      refine e_iinc (v := i3 + 1) (L2 := [some (.ref (x.2.2.1 + 47)), some (.int i1), some (.int v4), some (.int (i3 + 1))]) aX6_allPaths_22 rfl rfl ⟨by decide, rfl⟩ rfl ?_
      refine e_goto (tgt := 4) aX6_allPaths_25 (by decide) ?_
      exact ih _ _ h
def f_X6_allPaths (i1 : Int32) (M : Mem) : Option Int32 :=
  f_X6_allPaths_4 i1 M (fun (i2_1 : Int32) (i3_2 : Int32) =>
    some i2_1) FU 0 0
set_option maxRecDepth 100000 in
set_option maxHeartbeats 4000000 in
theorem c_X6_allPaths (l : Launch) (x : WX) {i1 : Int32} {M : Mem} {r : Int32}  (h : f_X6_allPaths i1 M = some r) : Mt l x false yX6_allPaths cX6_allPaths 4 (some FieldType.int) 1 0 0 [.ref (x.2.2.1 + 47), .int i1] LAY M (pI r M) := by
  refine mt_of (L0 := [some (.ref (x.2.2.1 + 47)), some (.int i1), none, none]) (by decide +kernel) rfl (Nat.le_of_ble_eq_true rfl) (lvA_of 2 rfl) ?_
  unfold f_X6_allPaths at h
  refine e_iconst (v := 0) aX6_allPaths_0 (by decide) ?_
  refine e_istore_n (L2 := [some (.ref (x.2.2.1 + 47)), some (.int i1), some (.int 0), none]) aX6_allPaths_1 ⟨by decide, rfl⟩ rfl ?_
  refine e_iconst (v := 0) aX6_allPaths_2 (by decide) ?_
  refine e_istore_n (L2 := [some (.ref (x.2.2.1 + 47)), some (.int i1), some (.int 0), some (.int 0)]) aX6_allPaths_3 ⟨by decide, rfl⟩ rfl ?_
  refine w_X6_allPaths_4 l x  (fun i2_1 i3_2 h => ?_) FU _ _ h
  refine e_iload_n aX6_allPaths_28 rfl ?_
  exact e_retI aX6_allPaths_29 rfl rfl (pI_ro h)
def s_X6_shiftOn_7 (p2 : Nat) (k : Int32 → Mem → Option Mem) (rec : Int32 → Mem → Option Mem) (i3 : Int32) (M : Mem) : Option Mem :=
  if i3 < 0 then
    k i3 M
  else
    if i3 < 0 ∨ 6 ≤ i3.toNatClampNeg then none else
    if i3 < 0 ∨ 6 ≤ i3.toNatClampNeg then none else
    (f_X2_turnedAbout 1 p2 (M 48 i3.toNatClampNeg) M).bind fun (r4 : Int32) =>
    if M 48 i3.toNatClampNeg < 0 ∨ 6 ≤ (M 48 i3.toNatClampNeg).toNatClampNeg then none else
    lt (um M p2 (M 48 i3.toNatClampNeg).toNatClampNeg r4) fun (M6 : Mem) =>
    rec (i3 + (-1)) M6
def f_X6_shiftOn_7 (p2 : Nat) (k : Int32 → Mem → Option Mem) : Nat → Int32 → Mem → Option Mem
  | 0 => fun _ _ => none
  | n + 1 => fun i3 M => s_X6_shiftOn_7 p2 k (f_X6_shiftOn_7 p2 k n) i3 M
set_option maxRecDepth 100000 in
set_option maxHeartbeats 4000000 in
theorem w_X6_shiftOn_7 (l : Launch) (x : WX) {p2 : Nat} {k : Int32 → Mem → Option Mem} {r : Mem} (hp2 : LAY[p2]? = some (1, 6, [])) (K : ∀ (i3 : Int32) (M : Mem), k i3 M = some r → Ev l x false cX6_shiftOn RX6 none 4 1 0 0 (pV r) 36 [some (.ref (x.2.2.1 + 47)), some (.ref (x.2.2.1 + 1)), some (.ref (x.2.2.1 + p2)), some (.int i3)] [] LAY M) : ∀ (n : Nat) (i3 : Int32) (M : Mem), f_X6_shiftOn_7 p2 k n i3 M = some r → Ev l x false cX6_shiftOn RX6 none 4 1 0 0 (pV r) 7 [some (.ref (x.2.2.1 + 47)), some (.ref (x.2.2.1 + 1)), some (.ref (x.2.2.1 + p2)), some (.int i3)] [] LAY M := by
  intro n
  induction n with
  | zero =>
    intro i3 M h
    exact nomatch (show (none : Option Mem) = some r from h)
  | succ n ih =>
    intro i3 M h
    have h : s_X6_shiftOn_7 p2 k (f_X6_shiftOn_7 p2 k n) i3 M = some r := h
    unfold s_X6_shiftOn_7 at h
    refine e_iload_n aX6_shiftOn_7 rfl ?_
    rcases of_ite h with ⟨hc1, h⟩ | ⟨hc1, h⟩
    · refine e_if_lt (tgt := 36) aX6_shiftOn_8 (by decide) (fun _ => ?_) (fun q => absurd hc1 q)
      exact K _ _ h
    · refine e_if_lt (tgt := 36) aX6_shiftOn_8 (by decide) (fun q => absurd q hc1) (fun _ => ?_)
      refine e_aload_n aX6_shiftOn_11 rfl ?_
      refine e_aload_n aX6_shiftOn_12 rfl ?_
      refine e_getR (r := 48) aX6_shiftOn_13 fX6_9 ly_47 rfl ?_
      refine e_iload_n aX6_shiftOn_16 rfl ?_
      obtain ⟨hg2, h⟩ := of_guard h
      refine e_iald aX6_shiftOn_17 ly_48 hg2 ?_
      refine e_aload_n aX6_shiftOn_18 rfl ?_
      refine e_aload_n aX6_shiftOn_19 rfl ?_
      refine e_aload_n aX6_shiftOn_20 rfl ?_
      refine e_getR (r := 48) aX6_shiftOn_21 fX6_9 ly_47 rfl ?_
      refine e_iload_n aX6_shiftOn_24 rfl ?_
      obtain ⟨hg3, h⟩ := of_guard h
      refine e_iald aX6_shiftOn_25 ly_48 hg3 ?_
      obtain ⟨r4, hr4, h⟩ := of_bind h
      refine e_VI [.int (M 48 i3.toNatClampNeg), .ref (x.2.2.1 + p2)] aX6_shiftOn_26 co_X2_turnedAbout mX6_54 ly_1 rfl rfl (c_X2_turnedAbout l x qa_1 hp2 hr4) rfl ⟨by decide, by decide⟩ (Nat.le_of_ble_eq_true rfl) rfl ?_
      obtain ⟨hg5, h⟩ := of_guard h
      obtain ⟨M6, eM6, h⟩ := of_lt h
      refine e_ist aX6_shiftOn_29 hp2 hg5 eM6 ?_
      refine e_iinc (v := i3 + (-1)) (L2 := [some (.ref (x.2.2.1 + 47)), some (.ref (x.2.2.1 + 1)), some (.ref (x.2.2.1 + p2)), some (.int (i3 + (-1)))]) aX6_shiftOn_30 rfl rfl ⟨by decide, rfl⟩ rfl ?_
      refine e_goto (tgt := 7) aX6_shiftOn_33 (by decide) ?_
      exact ih _ _ h
def f_X6_shiftOn (p2 : Nat) (M : Mem) : Option Mem :=
  lt ((M 1 0) - 1) fun (v1 : Int32) =>
  f_X6_shiftOn_7 p2 (fun (i3_2 : Int32) (M3 : Mem) =>
    some M3) FU v1 M
set_option maxRecDepth 100000 in
set_option maxHeartbeats 4000000 in
theorem c_X6_shiftOn (l : Launch) (x : WX) {p2 : Nat} {M : Mem} {r : Mem} (hp2 : LAY[p2]? = some (1, 6, [])) (h : f_X6_shiftOn p2 M = some r) : Mt l x false yX6_shiftOn cX6_shiftOn 4 none 1 0 0 [.ref (x.2.2.1 + 47), .ref (x.2.2.1 + 1), .ref (x.2.2.1 + p2)] LAY M (pV r) := by
  refine mt_of (L0 := [some (.ref (x.2.2.1 + 47)), some (.ref (x.2.2.1 + 1)), some (.ref (x.2.2.1 + p2)), none]) (by decide +kernel) rfl (Nat.le_of_ble_eq_true rfl) (lvA_of 1 rfl) ?_
  unfold f_X6_shiftOn at h
  refine e_aload_n aX6_shiftOn_0 rfl ?_
  refine e_getI aX6_shiftOn_1 fX6_23 ly_1 rfl ?_
  refine e_iconst (v := 1) aX6_shiftOn_4 (by decide) ?_
  refine e_isub aX6_shiftOn_5 ?_
  obtain ⟨v1, ev1, h⟩ := of_lt h
  refine e_nameI ev1 ?_
  refine e_istore_n (L2 := [some (.ref (x.2.2.1 + 47)), some (.ref (x.2.2.1 + 1)), some (.ref (x.2.2.1 + p2)), some (.int v1)]) aX6_shiftOn_6 ⟨by decide, rfl⟩ rfl ?_
  refine w_X6_shiftOn_7 l x hp2 (fun i3_2 M3 h => ?_) FU _ _ h
  exact e_ret0 aX6_shiftOn_36 rfl (pV_of h)
def f_X7_write (i1 : Int32) (M : Mem) : Option (Int32 × Mem) :=
  if i1 < 0 then
    some ((-1000002), M)
  else
    if i1 ≤ 255 then
      if M 45 1 < 200 then
        if M 45 1 < 0 ∨ 200 ≤ (M 45 1).toNatClampNeg then none else
        lt (um M 46 (M 45 1).toNatClampNeg i1) fun (M5 : Mem) =>
        lt (um M5 45 1 ((M5 45 1) + 1)) fun (M6 : Mem) =>
        some (M6 45 1, M6)
      else
        some ((-1000004), M)
    else
      some ((-1000002), M)
set_option maxRecDepth 100000 in
set_option maxHeartbeats 4000000 in
theorem c_X7_write (l : Launch) (x : WX) {i1 : Int32} {M : Mem} {r : (Int32 × Mem)}  (h : f_X7_write i1 M = some r) : Mt l x false yX7_write cX7_write 2 (some FieldType.int) 0 0 0 [.ref (x.2.2.1 + 0), .int i1] LAY M (pI r.1 r.2) := by
  refine mt_of (L0 := [some (.ref (x.2.2.1 + 0)), some (.int i1)]) (by decide +kernel) rfl (Nat.le_of_ble_eq_true rfl) (lvA_of 0 rfl) ?_
  unfold f_X7_write at h
  refine e_iload_n aX7_write_0 rfl ?_
  rcases of_ite h with ⟨hc1, h⟩ | ⟨hc1, h⟩
  · refine e_if_lt (tgt := 11) aX7_write_1 (by decide) (fun _ => ?_) (fun q => absurd hc1 q)
    refine e_ldc aX7_write_11 kX7_80 ?_
    exact e_retI aX7_write_13 rfl rfl (pI_of h)
  · refine e_if_lt (tgt := 11) aX7_write_1 (by decide) (fun q => absurd q hc1) (fun _ => ?_)
    refine e_iload_n aX7_write_4 rfl ?_
    refine e_sipush (v := 255) aX7_write_5 (by decide) ?_
    rcases of_ite h with ⟨hc2, h⟩ | ⟨hc2, h⟩
    · refine e_icmp_le (tgt := 14) aX7_write_8 (by decide) (fun _ => ?_) (fun q => absurd hc2 q)
      refine e_aload_n aX7_write_14 rfl ?_
      refine e_getR (r := 45) aX7_write_15 fX7_37 ly_0 rfl ?_
      refine e_getI aX7_write_18 fX7_81 ly_45 rfl ?_
      refine e_sipush (v := 200) aX7_write_21 (by decide) ?_
      rcases of_ite h with ⟨hc3, h⟩ | ⟨hc3, h⟩
      · refine e_icmp_lt (tgt := 30) aX7_write_24 (by decide) (fun _ => ?_) (fun q => absurd hc3 q)
        refine e_aload_n aX7_write_30 rfl ?_
        refine e_getR (r := 45) aX7_write_31 fX7_37 ly_0 rfl ?_
        refine e_getR (r := 46) aX7_write_34 fX7_86 ly_45 rfl ?_
        refine e_aload_n aX7_write_37 rfl ?_
        refine e_getR (r := 45) aX7_write_38 fX7_37 ly_0 rfl ?_
        refine e_getI aX7_write_41 fX7_81 ly_45 rfl ?_
        refine e_iload_n aX7_write_44 rfl ?_
        obtain ⟨hg4, h⟩ := of_guard h
        obtain ⟨M5, eM5, h⟩ := of_lt h
        refine e_ist aX7_write_45 ly_46 hg4 eM5 ?_
        refine e_aload_n aX7_write_46 rfl ?_
        refine e_getR (r := 45) aX7_write_47 fX7_37 ly_0 rfl ?_
        refine e_dupR aX7_write_50 ?_
        refine e_getI aX7_write_51 fX7_81 ly_45 rfl ?_
        refine e_iconst (v := 1) aX7_write_54 (by decide) ?_
        refine e_iadd aX7_write_55 ?_
        obtain ⟨M6, eM6, h⟩ := of_lt h
        refine e_put aX7_write_56 qX7_81 ly_45 rfl (fi_of _) eM6 ?_
        refine e_aload_n aX7_write_59 rfl ?_
        refine e_getR (r := 45) aX7_write_60 fX7_37 ly_0 rfl ?_
        refine e_getI aX7_write_63 fX7_81 ly_45 rfl ?_
        exact e_retI aX7_write_66 rfl rfl (pI_of h)
      · refine e_icmp_lt (tgt := 30) aX7_write_24 (by decide) (fun q => absurd q hc3) (fun _ => ?_)
        refine e_ldc aX7_write_27 kX7_85 ?_
        exact e_retI aX7_write_29 rfl rfl (pI_of h)
    · refine e_icmp_le (tgt := 14) aX7_write_8 (by decide) (fun q => absurd q hc2) (fun _ => ?_)
      refine e_ldc aX7_write_11 kX7_80 ?_
      exact e_retI aX7_write_13 rfl rfl (pI_of h)
def f_X7_erase  (M : Mem) : Option (Int32 × Mem) :=
  lt (M 45 1) fun (v1 : Int32) =>
  lt (um M 45 1 0) fun (M2 : Mem) =>
  some (v1, M2)
set_option maxRecDepth 100000 in
set_option maxHeartbeats 4000000 in
theorem c_X7_erase (l : Launch) (x : WX)  {M : Mem} {r : (Int32 × Mem)}  (h : f_X7_erase  M = some r) : Mt l x false yX7_erase cX7_erase 2 (some FieldType.int) 0 0 0 [.ref (x.2.2.1 + 0)] LAY M (pI r.1 r.2) := by
  refine mt_of (L0 := [some (.ref (x.2.2.1 + 0)), none]) (by decide +kernel) rfl (Nat.le_of_ble_eq_true rfl) (lvA_of 1 rfl) ?_
  unfold f_X7_erase at h
  refine e_aload_n aX7_erase_0 rfl ?_
  refine e_getR (r := 45) aX7_erase_1 fX7_37 ly_0 rfl ?_
  refine e_getI aX7_erase_4 fX7_81 ly_45 rfl ?_
  obtain ⟨v1, ev1, h⟩ := of_lt h
  refine e_nameI ev1 ?_
  refine e_istore_n (L2 := [some (.ref (x.2.2.1 + 0)), some (.int v1)]) aX7_erase_7 ⟨by decide, rfl⟩ rfl ?_
  refine e_aload_n aX7_erase_8 rfl ?_
  refine e_getR (r := 45) aX7_erase_9 fX7_37 ly_0 rfl ?_
  refine e_iconst (v := 0) aX7_erase_12 (by decide) ?_
  obtain ⟨M2, eM2, h⟩ := of_lt h
  refine e_put aX7_erase_13 qX7_81 ly_45 rfl (fi_of _) eM2 ?_
  refine e_iload_n aX7_erase_16 rfl ?_
  exact e_retI aX7_erase_17 rfl rfl (pI_of h)
def f_X7_arrowsChanged  (M : Mem) : Option Mem :=
  lt (um M 0 11 1) fun (M1 : Mem) =>
  lt (um M1 0 12 1) fun (M2 : Mem) =>
  some M2
set_option maxRecDepth 100000 in
set_option maxHeartbeats 4000000 in
theorem c_X7_arrowsChanged (l : Launch) (x : WX)  {M : Mem} {r : Mem}  (h : f_X7_arrowsChanged  M = some r) : Mt l x false yX7_arrowsChanged cX7_arrowsChanged 1 none 0 0 0 [.ref (x.2.2.1 + 0)] LAY M (pV r) := by
  refine mt_of (L0 := [some (.ref (x.2.2.1 + 0))]) (by decide +kernel) rfl (Nat.le_of_ble_eq_true rfl) (lvA_of 0 rfl) ?_
  unfold f_X7_arrowsChanged at h
  refine e_aload_n aX7_arrowsChanged_0 rfl ?_
  refine e_iconst (v := 1) aX7_arrowsChanged_1 (by decide) ?_
  obtain ⟨M1, eM1, h⟩ := of_lt h
  refine e_put aX7_arrowsChanged_2 qX7_72 ly_0 rfl (by decide +kernel) eM1 ?_
  refine e_aload_n aX7_arrowsChanged_5 rfl ?_
  refine e_iconst (v := 1) aX7_arrowsChanged_6 (by decide) ?_
  obtain ⟨M2, eM2, h⟩ := of_lt h
  refine e_put aX7_arrowsChanged_7 qX7_76 ly_0 rfl (by decide +kernel) eM2 ?_
  exact e_ret0 aX7_arrowsChanged_10 rfl (pV_of h)
def f_X7_arrow (i1 : Int32) (i2 : Int32) (M : Mem) : Option Int32 :=
  (f_X2_hasArrow 1 i1 M).bind fun (r1 : Int32) =>
  if r1 = 0 then
    some (-1000001)
  else
    if i2 < 0 then
      some (-1000002)
    else
      if i2 ≤ 1 then
        if i2 = 0 then
          if i1 < 0 ∨ 10 ≤ i1.toNatClampNeg then none else
          some (M 2 i1.toNatClampNeg)
        else
          if i1 < 0 ∨ 10 ≤ i1.toNatClampNeg then none else
          some (M 3 i1.toNatClampNeg)
      else
        some (-1000002)
set_option maxRecDepth 100000 in
set_option maxHeartbeats 4000000 in
theorem c_X7_arrow (l : Launch) (x : WX) {i1 : Int32} {i2 : Int32} {M : Mem} {r : Int32}  (h : f_X7_arrow i1 i2 M = some r) : Mt l x false yX7_arrow cX7_arrow 3 (some FieldType.int) 1 0 0 [.ref (x.2.2.1 + 0), .int i1, .int i2] LAY M (pI r M) := by
  refine mt_of (L0 := [some (.ref (x.2.2.1 + 0)), some (.int i1), some (.int i2)]) (by decide +kernel) rfl (Nat.le_of_ble_eq_true rfl) (lvA_of 0 rfl) ?_
  unfold f_X7_arrow at h
  refine e_aload_n aX7_arrow_0 rfl ?_
  refine e_getR (r := 1) aX7_arrow_1 fX7_10 ly_0 rfl ?_
  refine e_iload_n aX7_arrow_4 rfl ?_
  obtain ⟨r1, hr1, h⟩ := of_bind h
  refine e_VI [] aX7_arrow_5 co_X2_hasArrow mX7_107 ly_1 rfl rfl (c_X2_hasArrow l x qa_1 hr1) rfl ⟨by decide, by decide⟩ (Nat.le_of_ble_eq_true rfl) rfl ?_
  rcases of_ite h with ⟨hc2, h⟩ | ⟨hc2, h⟩
  · refine e_if_ne (tgt := 14) aX7_arrow_8 (by decide) (fun q => absurd hc2 q) (fun _ => ?_)
    refine e_ldc aX7_arrow_11 kX7_111 ?_
    exact e_retI aX7_arrow_13 rfl rfl (pI_ro h)
  · refine e_if_ne (tgt := 14) aX7_arrow_8 (by decide) (fun _ => ?_) (fun q => absurd q hc2)
    refine e_iload_n aX7_arrow_14 rfl ?_
    rcases of_ite h with ⟨hc3, h⟩ | ⟨hc3, h⟩
    · refine e_if_lt (tgt := 23) aX7_arrow_15 (by decide) (fun _ => ?_) (fun q => absurd hc3 q)
      refine e_ldc aX7_arrow_23 kX7_80 ?_
      exact e_retI aX7_arrow_25 rfl rfl (pI_ro h)
    · refine e_if_lt (tgt := 23) aX7_arrow_15 (by decide) (fun q => absurd q hc3) (fun _ => ?_)
      refine e_iload_n aX7_arrow_18 rfl ?_
      refine e_iconst (v := 1) aX7_arrow_19 (by decide) ?_
      rcases of_ite h with ⟨hc4, h⟩ | ⟨hc4, h⟩
      · refine e_icmp_le (tgt := 26) aX7_arrow_20 (by decide) (fun _ => ?_) (fun q => absurd hc4 q)
        refine e_iload_n aX7_arrow_26 rfl ?_
        rcases of_ite h with ⟨hc5, h⟩ | ⟨hc5, h⟩
        · refine e_if_ne (tgt := 42) aX7_arrow_27 (by decide) (fun q => absurd hc5 q) (fun _ => ?_)
          refine e_aload_n aX7_arrow_30 rfl ?_
          refine e_getR (r := 1) aX7_arrow_31 fX7_10 ly_0 rfl ?_
          refine e_getR (r := 2) aX7_arrow_34 fX7_112 ly_1 rfl ?_
          refine e_iload_n aX7_arrow_37 rfl ?_
          obtain ⟨hg7, h⟩ := of_guard h
          refine e_iald aX7_arrow_38 ly_2 hg7 ?_
          refine e_goto (tgt := 51) aX7_arrow_39 (by decide) ?_
          exact e_retI aX7_arrow_51 rfl rfl (pI_ro h)
        · refine e_if_ne (tgt := 42) aX7_arrow_27 (by decide) (fun _ => ?_) (fun q => absurd q hc5)
          refine e_aload_n aX7_arrow_42 rfl ?_
          refine e_getR (r := 1) aX7_arrow_43 fX7_10 ly_0 rfl ?_
          refine e_getR (r := 3) aX7_arrow_46 fX7_115 ly_1 rfl ?_
          refine e_iload_n aX7_arrow_49 rfl ?_
          obtain ⟨hg6, h⟩ := of_guard h
          refine e_iald aX7_arrow_50 ly_3 hg6 ?_
          exact e_retI aX7_arrow_51 rfl rfl (pI_ro h)
      · refine e_icmp_le (tgt := 26) aX7_arrow_20 (by decide) (fun q => absurd q hc4) (fun _ => ?_)
        refine e_ldc aX7_arrow_23 kX7_80 ?_
        exact e_retI aX7_arrow_25 rfl rfl (pI_ro h)
def f_X7_findWays  (M : Mem) : Option Mem :=
  if M 0 11 = 0 then
    some M
  else
    (f_X6_learn M).bind fun (M2 : Mem) =>
    lt (um M2 0 11 0) fun (M3 : Mem) =>
    some M3
set_option maxRecDepth 100000 in
set_option maxHeartbeats 4000000 in
theorem c_X7_findWays (l : Launch) (x : WX)  {M : Mem} {r : Mem}  (h : f_X7_findWays  M = some r) : Mt l x false yX7_findWays cX7_findWays 1 none 3 0 0 [.ref (x.2.2.1 + 0)] LAY M (pV r) := by
  refine mt_of (L0 := [some (.ref (x.2.2.1 + 0))]) (by decide +kernel) rfl (Nat.le_of_ble_eq_true rfl) (lvA_of 0 rfl) ?_
  unfold f_X7_findWays at h
  refine e_aload_n aX7_findWays_0 rfl ?_
  refine e_getI aX7_findWays_1 fX7_72 ly_0 rfl ?_
  rcases of_ite h with ⟨hc1, h⟩ | ⟨hc1, h⟩
  · refine e_if_eq (tgt := 23) aX7_findWays_4 (by decide) (fun _ => ?_) (fun q => absurd hc1 q)
    exact e_ret0 aX7_findWays_23 rfl (pV_of h)
  · refine e_if_eq (tgt := 23) aX7_findWays_4 (by decide) (fun q => absurd q hc1) (fun _ => ?_)
    refine e_aload_n aX7_findWays_7 rfl ?_
    refine e_getR (r := 47) aX7_findWays_8 fX7_44 ly_0 rfl ?_
    refine e_aload_n aX7_findWays_11 rfl ?_
    refine e_getR (r := 1) aX7_findWays_12 fX7_10 ly_0 rfl ?_
    obtain ⟨M2, hM2, h⟩ := of_bind h
    refine e_VV [] aX7_findWays_15 co_X6_learn mX7_291 ly_47 rfl rfl (c_X6_learn l x hM2) rfl ⟨by decide, by decide⟩ (Nat.le_of_ble_eq_true rfl) rfl ?_
    refine e_aload_n aX7_findWays_18 rfl ?_
    refine e_iconst (v := 0) aX7_findWays_19 (by decide) ?_
    obtain ⟨M3, eM3, h⟩ := of_lt h
    refine e_put aX7_findWays_20 qX7_72 ly_0 rfl (by decide +kernel) eM3 ?_
    exact e_ret0 aX7_findWays_23 rfl (pV_of h)
def f_X7_point (i1 : Int32) (i2 : Int32) (M : Mem) : Option (Int32 × Mem) :=
  (f_X2_hasPoint 1 i1 M).bind fun (r1 : Int32) =>
  if r1 = 0 then
    some ((-1000001), M)
  else
    if i2 = 0 then
      if i1 < 0 ∨ 6 ≤ i1.toNatClampNeg then none else
      some (M 4 i1.toNatClampNeg, M)
    else if i2 = 1 then
      (f_X2_isSink 1 i1 M).bind fun (r10 : Int32) =>
      if r10 = 0 then
        some (0, M)
      else
        some (1, M)
    else if i2 = 2 then
      (f_X2_isSource 1 i1 M).bind fun (r12 : Int32) =>
      if r12 = 0 then
        some (0, M)
      else
        some (1, M)
    else if i2 = 3 then
      (f_X7_findWays M).bind fun (M14 : Mem) =>
      if i1 < 0 ∨ 6 ≤ i1.toNatClampNeg then none else
      some (M14 49 i1.toNatClampNeg, M14)
    else if i2 = 4 then
      (f_X2_coming 1 i1 M).bind fun (r16 : Int32) =>
      some (r16, M)
    else if i2 = 5 then
      (f_X2_going 1 i1 M).bind fun (r17 : Int32) =>
      some (r17, M)
    else 
      some ((-1000002), M)
set_option maxRecDepth 100000 in
set_option maxHeartbeats 4000000 in
theorem c_X7_point (l : Launch) (x : WX) {i1 : Int32} {i2 : Int32} {M : Mem} {r : (Int32 × Mem)}  (h : f_X7_point i1 i2 M = some r) : Mt l x false yX7_point cX7_point 3 (some FieldType.int) 4 0 0 [.ref (x.2.2.1 + 0), .int i1, .int i2] LAY M (pI r.1 r.2) := by
  refine mt_of (L0 := [some (.ref (x.2.2.1 + 0)), some (.int i1), some (.int i2)]) (by decide +kernel) rfl (Nat.le_of_ble_eq_true rfl) (lvA_of 0 rfl) ?_
  unfold f_X7_point at h
  refine e_aload_n aX7_point_0 rfl ?_
  refine e_getR (r := 1) aX7_point_1 fX7_10 ly_0 rfl ?_
  refine e_iload_n aX7_point_4 rfl ?_
  obtain ⟨r1, hr1, h⟩ := of_bind h
  refine e_VI [] aX7_point_5 co_X2_hasPoint mX7_118 ly_1 rfl rfl (c_X2_hasPoint l x qa_1 hr1) rfl ⟨by decide, by decide⟩ (Nat.le_of_ble_eq_true rfl) rfl ?_
  rcases of_ite h with ⟨hc2, h⟩ | ⟨hc2, h⟩
  · refine e_if_ne (tgt := 14) aX7_point_8 (by decide) (fun q => absurd hc2 q) (fun _ => ?_)
    refine e_ldc aX7_point_11 kX7_111 ?_
    exact e_retI aX7_point_13 rfl rfl (pI_of h)
  · refine e_if_ne (tgt := 14) aX7_point_8 (by decide) (fun _ => ?_) (fun q => absurd q hc2)
    refine e_iload_n aX7_point_14 rfl ?_
    rcases of_ite h with ⟨hc3, h⟩ | ⟨hc3, h⟩
    · refine e_tableIn (off := 37) (tgt := 52) aX7_point_15 (by rw [hc3]; decide) (by rw [hc3]; decide) (by rw [hc3]; rfl) (by decide) ?_
      refine e_aload_n aX7_point_52 rfl ?_
      refine e_getR (r := 1) aX7_point_53 fX7_10 ly_0 rfl ?_
      refine e_getR (r := 4) aX7_point_56 fX7_121 ly_1 rfl ?_
      refine e_iload_n aX7_point_59 rfl ?_
      obtain ⟨hg9, h⟩ := of_guard h
      refine e_iald aX7_point_60 ly_4 hg9 ?_
      exact e_retI aX7_point_61 rfl rfl (pI_of h)
    · rcases of_ite h with ⟨hc4, h⟩ | ⟨hc4, h⟩
      · refine e_tableIn (off := 47) (tgt := 62) aX7_point_15 (by rw [hc4]; decide) (by rw [hc4]; decide) (by rw [hc4]; rfl) (by decide) ?_
        refine e_aload_n aX7_point_62 rfl ?_
        refine e_getR (r := 1) aX7_point_63 fX7_10 ly_0 rfl ?_
        refine e_iload_n aX7_point_66 rfl ?_
        obtain ⟨r10, hr10, h⟩ := of_bind h
        refine e_VI [] aX7_point_67 co_X2_isSink mX7_124 ly_1 rfl rfl (c_X2_isSink l x qa_1 hr10) rfl ⟨by decide, by decide⟩ (Nat.le_of_ble_eq_true rfl) rfl ?_
        rcases of_ite h with ⟨hc11, h⟩ | ⟨hc11, h⟩
        · refine e_if_eq (tgt := 77) aX7_point_70 (by decide) (fun _ => ?_) (fun q => absurd hc11 q)
          refine e_iconst (v := 0) aX7_point_77 (by decide) ?_
          exact e_retI aX7_point_78 rfl rfl (pI_of h)
        · refine e_if_eq (tgt := 77) aX7_point_70 (by decide) (fun q => absurd q hc11) (fun _ => ?_)
          refine e_iconst (v := 1) aX7_point_73 (by decide) ?_
          refine e_goto (tgt := 78) aX7_point_74 (by decide) ?_
          exact e_retI aX7_point_78 rfl rfl (pI_of h)
      · rcases of_ite h with ⟨hc5, h⟩ | ⟨hc5, h⟩
        · refine e_tableIn (off := 64) (tgt := 79) aX7_point_15 (by rw [hc5]; decide) (by rw [hc5]; decide) (by rw [hc5]; rfl) (by decide) ?_
          refine e_aload_n aX7_point_79 rfl ?_
          refine e_getR (r := 1) aX7_point_80 fX7_10 ly_0 rfl ?_
          refine e_iload_n aX7_point_83 rfl ?_
          obtain ⟨r12, hr12, h⟩ := of_bind h
          refine e_VI [] aX7_point_84 co_X2_isSource mX7_127 ly_1 rfl rfl (c_X2_isSource l x qa_1 hr12) rfl ⟨by decide, by decide⟩ (Nat.le_of_ble_eq_true rfl) rfl ?_
          rcases of_ite h with ⟨hc13, h⟩ | ⟨hc13, h⟩
          · refine e_if_eq (tgt := 94) aX7_point_87 (by decide) (fun _ => ?_) (fun q => absurd hc13 q)
            refine e_iconst (v := 0) aX7_point_94 (by decide) ?_
            exact e_retI aX7_point_95 rfl rfl (pI_of h)
          · refine e_if_eq (tgt := 94) aX7_point_87 (by decide) (fun q => absurd q hc13) (fun _ => ?_)
            refine e_iconst (v := 1) aX7_point_90 (by decide) ?_
            refine e_goto (tgt := 95) aX7_point_91 (by decide) ?_
            exact e_retI aX7_point_95 rfl rfl (pI_of h)
        · rcases of_ite h with ⟨hc6, h⟩ | ⟨hc6, h⟩
          · refine e_tableIn (off := 81) (tgt := 96) aX7_point_15 (by rw [hc6]; decide) (by rw [hc6]; decide) (by rw [hc6]; rfl) (by decide) ?_
            refine e_aload_n aX7_point_96 rfl ?_
            obtain ⟨M14, hM14, h⟩ := of_bind h
            refine e_VV [] aX7_point_97 co_X7_findWays mX7_130 ly_0 rfl rfl (c_X7_findWays l x hM14) rfl ⟨by decide, by decide⟩ (Nat.le_of_ble_eq_true rfl) rfl ?_
            refine e_aload_n aX7_point_100 rfl ?_
            refine e_getR (r := 47) aX7_point_101 fX7_44 ly_0 rfl ?_
            refine e_getR (r := 49) aX7_point_104 fX7_133 ly_47 rfl ?_
            refine e_iload_n aX7_point_107 rfl ?_
            obtain ⟨hg15, h⟩ := of_guard h
            refine e_iald aX7_point_108 ly_49 hg15 ?_
            exact e_retI aX7_point_109 rfl rfl (pI_of h)
          · rcases of_ite h with ⟨hc7, h⟩ | ⟨hc7, h⟩
            · refine e_tableIn (off := 95) (tgt := 110) aX7_point_15 (by rw [hc7]; decide) (by rw [hc7]; decide) (by rw [hc7]; rfl) (by decide) ?_
              refine e_aload_n aX7_point_110 rfl ?_
              refine e_getR (r := 1) aX7_point_111 fX7_10 ly_0 rfl ?_
              refine e_iload_n aX7_point_114 rfl ?_
              obtain ⟨r16, hr16, h⟩ := of_bind h
              refine e_VI [] aX7_point_115 co_X2_coming mX7_136 ly_1 rfl rfl (c_X2_coming l x qa_1 hr16) rfl ⟨by decide, by decide⟩ (Nat.le_of_ble_eq_true rfl) rfl ?_
              exact e_retI aX7_point_118 rfl rfl (pI_of h)
            · rcases of_ite h with ⟨hc8, h⟩ | ⟨hc8, h⟩
              · refine e_tableIn (off := 104) (tgt := 119) aX7_point_15 (by rw [hc8]; decide) (by rw [hc8]; decide) (by rw [hc8]; rfl) (by decide) ?_
                refine e_aload_n aX7_point_119 rfl ?_
                refine e_getR (r := 1) aX7_point_120 fX7_10 ly_0 rfl ?_
                refine e_iload_n aX7_point_123 rfl ?_
                obtain ⟨r17, hr17, h⟩ := of_bind h
                refine e_VI [] aX7_point_124 co_X2_going mX7_140 ly_1 rfl rfl (c_X2_going l x qa_1 hr17) rfl ⟨by decide, by decide⟩ (Nat.le_of_ble_eq_true rfl) rfl ?_
                exact e_retI aX7_point_127 rfl rfl (pI_of h)
              · refine e_tableOut (tgt := 128) aX7_point_15 (sw_out (n := 5) (by decide) (fun c hc => match c, hc with | 0, _ => hc3 | 1, _ => hc4 | 2, _ => hc5 | 3, _ => hc6 | 4, _ => hc7 | 5, _ => hc8 | c + 6, hc => absurd hc (by omega))) (by decide) ?_
                refine e_ldc aX7_point_128 kX7_80 ?_
                exact e_retI aX7_point_130 rfl rfl (pI_of h)
def f_X7_paths (i1 : Int32) (i2 : Int32) (M : Mem) : Option (Int32 × Mem) :=
  (f_X2_hasPoint 1 i1 M).bind fun (r1 : Int32) =>
  if r1 = 0 then
    some ((-1000001), M)
  else
    (f_X2_hasPoint 1 i2 M).bind fun (r3 : Int32) =>
    if r3 = 0 then
      some ((-1000001), M)
    else
      (f_X7_findWays M).bind fun (M5 : Mem) =>
      if i1 < 0 ∨ 6 ≤ i1.toNatClampNeg then none else
      if i2 < 0 ∨ 6 ≤ i2.toNatClampNeg then none else
      some (M5 (51 + i1.toNatClampNeg) i2.toNatClampNeg, M5)
set_option maxRecDepth 100000 in
set_option maxHeartbeats 4000000 in
theorem c_X7_paths (l : Launch) (x : WX) {i1 : Int32} {i2 : Int32} {M : Mem} {r : (Int32 × Mem)}  (h : f_X7_paths i1 i2 M = some r) : Mt l x false yX7_paths cX7_paths 3 (some FieldType.int) 4 0 0 [.ref (x.2.2.1 + 0), .int i1, .int i2] LAY M (pI r.1 r.2) := by
  refine mt_of (L0 := [some (.ref (x.2.2.1 + 0)), some (.int i1), some (.int i2)]) (by decide +kernel) rfl (Nat.le_of_ble_eq_true rfl) (lvA_of 0 rfl) ?_
  unfold f_X7_paths at h
  refine e_aload_n aX7_paths_0 rfl ?_
  refine e_getR (r := 1) aX7_paths_1 fX7_10 ly_0 rfl ?_
  refine e_iload_n aX7_paths_4 rfl ?_
  obtain ⟨r1, hr1, h⟩ := of_bind h
  refine e_VI [] aX7_paths_5 co_X2_hasPoint mX7_118 ly_1 rfl rfl (c_X2_hasPoint l x qa_1 hr1) rfl ⟨by decide, by decide⟩ (Nat.le_of_ble_eq_true rfl) rfl ?_
  rcases of_ite h with ⟨hc2, h⟩ | ⟨hc2, h⟩
  · refine e_if_eq (tgt := 22) aX7_paths_8 (by decide) (fun _ => ?_) (fun q => absurd hc2 q)
    refine e_ldc aX7_paths_22 kX7_111 ?_
    exact e_retI aX7_paths_24 rfl rfl (pI_of h)
  · refine e_if_eq (tgt := 22) aX7_paths_8 (by decide) (fun q => absurd q hc2) (fun _ => ?_)
    refine e_aload_n aX7_paths_11 rfl ?_
    refine e_getR (r := 1) aX7_paths_12 fX7_10 ly_0 rfl ?_
    refine e_iload_n aX7_paths_15 rfl ?_
    obtain ⟨r3, hr3, h⟩ := of_bind h
    refine e_VI [] aX7_paths_16 co_X2_hasPoint mX7_118 ly_1 rfl rfl (c_X2_hasPoint l x qa_1 hr3) rfl ⟨by decide, by decide⟩ (Nat.le_of_ble_eq_true rfl) rfl ?_
    rcases of_ite h with ⟨hc4, h⟩ | ⟨hc4, h⟩
    · refine e_if_ne (tgt := 25) aX7_paths_19 (by decide) (fun q => absurd hc4 q) (fun _ => ?_)
      refine e_ldc aX7_paths_22 kX7_111 ?_
      exact e_retI aX7_paths_24 rfl rfl (pI_of h)
    · refine e_if_ne (tgt := 25) aX7_paths_19 (by decide) (fun _ => ?_) (fun q => absurd q hc4)
      refine e_aload_n aX7_paths_25 rfl ?_
      obtain ⟨M5, hM5, h⟩ := of_bind h
      refine e_VV [] aX7_paths_26 co_X7_findWays mX7_130 ly_0 rfl rfl (c_X7_findWays l x hM5) rfl ⟨by decide, by decide⟩ (Nat.le_of_ble_eq_true rfl) rfl ?_
      refine e_aload_n aX7_paths_29 rfl ?_
      refine e_getR (r := 47) aX7_paths_30 fX7_44 ly_0 rfl ?_
      refine e_getR (r := 50) aX7_paths_33 fX7_143 ly_47 rfl ?_
      refine e_iload_n aX7_paths_36 rfl ?_
      obtain ⟨hg6, h⟩ := of_guard h
      refine e_aald aX7_paths_37 ly_50 (by decide) hg6 (ra_W _ (ix_lt hg6)) ?_
      refine e_iload_n aX7_paths_38 rfl ?_
      obtain ⟨hg7, h⟩ := of_guard h
      refine e_iald aX7_paths_39 (rr_W _ (ix_lt hg6)) hg7 ?_
      exact e_retI aX7_paths_40 rfl rfl (pI_of h)
def f_X7_put (i1 : Int32) (i2 : Int32) (M : Mem) : Option (Int32 × Mem) :=
  (f_X2_hasPoint 1 i1 M).bind fun (r1 : Int32) =>
  if r1 = 0 then
    some ((-1000001), M)
  else
    (f_X2_hasPoint 1 i2 M).bind fun (r3 : Int32) =>
    if r3 = 0 then
      some ((-1000001), M)
    else
      if i1 = i2 then
        some ((-1000001), M)
      else
        (f_X2_wouldLeadRound 1 i1 i2 M).bind fun (r6 : Int32) =>
        if r6 = 0 then
          if M 1 1 < 10 then
            (f_X1_remember M).bind fun (M9 : Mem) =>
            (f_X2_join 1 i1 i2 M9).bind fun (M10 : Mem) =>
            (f_X7_arrowsChanged M10).bind fun (M11 : Mem) =>
            some ((M11 1 1) - 1, M11)
          else
            some ((-1000004), M)
        else
          some ((-1000003), M)
set_option maxRecDepth 100000 in
set_option maxHeartbeats 4000000 in
theorem c_X7_put (l : Launch) (x : WX) {i1 : Int32} {i2 : Int32} {M : Mem} {r : (Int32 × Mem)}  (h : f_X7_put i1 i2 M = some r) : Mt l x false yX7_put cX7_put 3 (some FieldType.int) 4 0 0 [.ref (x.2.2.1 + 0), .int i1, .int i2] LAY M (pI r.1 r.2) := by
  refine mt_of (L0 := [some (.ref (x.2.2.1 + 0)), some (.int i1), some (.int i2)]) (by decide +kernel) rfl (Nat.le_of_ble_eq_true rfl) (lvA_of 0 rfl) ?_
  unfold f_X7_put at h
  refine e_aload_n aX7_put_0 rfl ?_
  refine e_getR (r := 1) aX7_put_1 fX7_10 ly_0 rfl ?_
  refine e_iload_n aX7_put_4 rfl ?_
  obtain ⟨r1, hr1, h⟩ := of_bind h
  refine e_VI [] aX7_put_5 co_X2_hasPoint mX7_118 ly_1 rfl rfl (c_X2_hasPoint l x qa_1 hr1) rfl ⟨by decide, by decide⟩ (Nat.le_of_ble_eq_true rfl) rfl ?_
  rcases of_ite h with ⟨hc2, h⟩ | ⟨hc2, h⟩
  · refine e_if_eq (tgt := 27) aX7_put_8 (by decide) (fun _ => ?_) (fun q => absurd hc2 q)
    refine e_ldc aX7_put_27 kX7_111 ?_
    exact e_retI aX7_put_29 rfl rfl (pI_of h)
  · refine e_if_eq (tgt := 27) aX7_put_8 (by decide) (fun q => absurd q hc2) (fun _ => ?_)
    refine e_aload_n aX7_put_11 rfl ?_
    refine e_getR (r := 1) aX7_put_12 fX7_10 ly_0 rfl ?_
    refine e_iload_n aX7_put_15 rfl ?_
    obtain ⟨r3, hr3, h⟩ := of_bind h
    refine e_VI [] aX7_put_16 co_X2_hasPoint mX7_118 ly_1 rfl rfl (c_X2_hasPoint l x qa_1 hr3) rfl ⟨by decide, by decide⟩ (Nat.le_of_ble_eq_true rfl) rfl ?_
    rcases of_ite h with ⟨hc4, h⟩ | ⟨hc4, h⟩
    · refine e_if_eq (tgt := 27) aX7_put_19 (by decide) (fun _ => ?_) (fun q => absurd hc4 q)
      refine e_ldc aX7_put_27 kX7_111 ?_
      exact e_retI aX7_put_29 rfl rfl (pI_of h)
    · refine e_if_eq (tgt := 27) aX7_put_19 (by decide) (fun q => absurd q hc4) (fun _ => ?_)
      refine e_iload_n aX7_put_22 rfl ?_
      refine e_iload_n aX7_put_23 rfl ?_
      rcases of_ite h with ⟨hc5, h⟩ | ⟨hc5, h⟩
      · refine e_icmp_ne (tgt := 30) aX7_put_24 (by decide) (fun q => absurd hc5 q) (fun _ => ?_)
        refine e_ldc aX7_put_27 kX7_111 ?_
        exact e_retI aX7_put_29 rfl rfl (pI_of h)
      · refine e_icmp_ne (tgt := 30) aX7_put_24 (by decide) (fun _ => ?_) (fun q => absurd q hc5)
        refine e_aload_n aX7_put_30 rfl ?_
        refine e_getR (r := 1) aX7_put_31 fX7_10 ly_0 rfl ?_
        refine e_iload_n aX7_put_34 rfl ?_
        refine e_iload_n aX7_put_35 rfl ?_
        obtain ⟨r6, hr6, h⟩ := of_bind h
        refine e_VI [] aX7_put_36 co_X2_wouldLeadRound mX7_147 ly_1 rfl rfl (c_X2_wouldLeadRound l x qa_1 hr6) rfl ⟨by decide, by decide⟩ (Nat.le_of_ble_eq_true rfl) rfl ?_
        rcases of_ite h with ⟨hc7, h⟩ | ⟨hc7, h⟩
        · refine e_if_eq (tgt := 45) aX7_put_39 (by decide) (fun _ => ?_) (fun q => absurd hc7 q)
          refine e_aload_n aX7_put_45 rfl ?_
          refine e_getR (r := 1) aX7_put_46 fX7_10 ly_0 rfl ?_
          refine e_getI aX7_put_49 fX7_151 ly_1 rfl ?_
          refine e_bipush (v := 10) aX7_put_52 (by decide) ?_
          rcases of_ite h with ⟨hc8, h⟩ | ⟨hc8, h⟩
          · refine e_icmp_lt (tgt := 60) aX7_put_54 (by decide) (fun _ => ?_) (fun q => absurd hc8 q)
            refine e_aload_n aX7_put_60 rfl ?_
            refine e_getR (r := 9) aX7_put_61 fX7_22 ly_0 rfl ?_
            refine e_aload_n aX7_put_64 rfl ?_
            refine e_getR (r := 1) aX7_put_65 fX7_10 ly_0 rfl ?_
            obtain ⟨M9, hM9, h⟩ := of_bind h
            refine e_VV [] aX7_put_68 co_X1_remember mX7_154 ly_9 rfl rfl (c_X1_remember l x hM9) rfl ⟨by decide, by decide⟩ (Nat.le_of_ble_eq_true rfl) rfl ?_
            refine e_aload_n aX7_put_71 rfl ?_
            refine e_getR (r := 1) aX7_put_72 fX7_10 ly_0 rfl ?_
            refine e_iload_n aX7_put_75 rfl ?_
            refine e_iload_n aX7_put_76 rfl ?_
            obtain ⟨M10, hM10, h⟩ := of_bind h
            refine e_VV [] aX7_put_77 co_X2_join mX7_157 ly_1 rfl rfl (c_X2_join l x qa_1 hM10) rfl ⟨by decide, by decide⟩ (Nat.le_of_ble_eq_true rfl) rfl ?_
            refine e_aload_n aX7_put_80 rfl ?_
            obtain ⟨M11, hM11, h⟩ := of_bind h
            refine e_VV [] aX7_put_81 co_X7_arrowsChanged mX7_101 ly_0 rfl rfl (c_X7_arrowsChanged l x hM11) rfl ⟨by decide, by decide⟩ (Nat.le_of_ble_eq_true rfl) rfl ?_
            refine e_aload_n aX7_put_84 rfl ?_
            refine e_getR (r := 1) aX7_put_85 fX7_10 ly_0 rfl ?_
            refine e_getI aX7_put_88 fX7_151 ly_1 rfl ?_
            refine e_iconst (v := 1) aX7_put_91 (by decide) ?_
            refine e_isub aX7_put_92 ?_
            exact e_retI aX7_put_93 rfl rfl (pI_of h)
          · refine e_icmp_lt (tgt := 60) aX7_put_54 (by decide) (fun q => absurd q hc8) (fun _ => ?_)
            refine e_ldc aX7_put_57 kX7_85 ?_
            exact e_retI aX7_put_59 rfl rfl (pI_of h)
        · refine e_if_eq (tgt := 45) aX7_put_39 (by decide) (fun q => absurd q hc7) (fun _ => ?_)
          refine e_ldc aX7_put_42 kX7_97 ?_
          exact e_retI aX7_put_44 rfl rfl (pI_of h)
def f_X7_cut (i1 : Int32) (M : Mem) : Option (Int32 × Mem) :=
  (f_X2_hasArrow 1 i1 M).bind fun (r1 : Int32) =>
  if r1 = 0 then
    some ((-1000001), M)
  else
    (f_X1_remember M).bind fun (M3 : Mem) =>
    (f_X2_sever 1 i1 M3).bind fun (M4 : Mem) =>
    (f_X7_arrowsChanged M4).bind fun (M5 : Mem) =>
    some (M5 1 1, M5)
set_option maxRecDepth 100000 in
set_option maxHeartbeats 4000000 in
theorem c_X7_cut (l : Launch) (x : WX) {i1 : Int32} {M : Mem} {r : (Int32 × Mem)}  (h : f_X7_cut i1 M = some r) : Mt l x false yX7_cut cX7_cut 2 (some FieldType.int) 4 0 0 [.ref (x.2.2.1 + 0), .int i1] LAY M (pI r.1 r.2) := by
  refine mt_of (L0 := [some (.ref (x.2.2.1 + 0)), some (.int i1)]) (by decide +kernel) rfl (Nat.le_of_ble_eq_true rfl) (lvA_of 0 rfl) ?_
  unfold f_X7_cut at h
  refine e_aload_n aX7_cut_0 rfl ?_
  refine e_getR (r := 1) aX7_cut_1 fX7_10 ly_0 rfl ?_
  refine e_iload_n aX7_cut_4 rfl ?_
  obtain ⟨r1, hr1, h⟩ := of_bind h
  refine e_VI [] aX7_cut_5 co_X2_hasArrow mX7_107 ly_1 rfl rfl (c_X2_hasArrow l x qa_1 hr1) rfl ⟨by decide, by decide⟩ (Nat.le_of_ble_eq_true rfl) rfl ?_
  rcases of_ite h with ⟨hc2, h⟩ | ⟨hc2, h⟩
  · refine e_if_ne (tgt := 14) aX7_cut_8 (by decide) (fun q => absurd hc2 q) (fun _ => ?_)
    refine e_ldc aX7_cut_11 kX7_111 ?_
    exact e_retI aX7_cut_13 rfl rfl (pI_of h)
  · refine e_if_ne (tgt := 14) aX7_cut_8 (by decide) (fun _ => ?_) (fun q => absurd q hc2)
    refine e_aload_n aX7_cut_14 rfl ?_
    refine e_getR (r := 9) aX7_cut_15 fX7_22 ly_0 rfl ?_
    refine e_aload_n aX7_cut_18 rfl ?_
    refine e_getR (r := 1) aX7_cut_19 fX7_10 ly_0 rfl ?_
    obtain ⟨M3, hM3, h⟩ := of_bind h
    refine e_VV [] aX7_cut_22 co_X1_remember mX7_154 ly_9 rfl rfl (c_X1_remember l x hM3) rfl ⟨by decide, by decide⟩ (Nat.le_of_ble_eq_true rfl) rfl ?_
    refine e_aload_n aX7_cut_25 rfl ?_
    refine e_getR (r := 1) aX7_cut_26 fX7_10 ly_0 rfl ?_
    refine e_iload_n aX7_cut_29 rfl ?_
    obtain ⟨M4, hM4, h⟩ := of_bind h
    refine e_VV [] aX7_cut_30 co_X2_sever mX7_161 ly_1 rfl rfl (c_X2_sever l x qa_1 hM4) rfl ⟨by decide, by decide⟩ (Nat.le_of_ble_eq_true rfl) rfl ?_
    refine e_aload_n aX7_cut_33 rfl ?_
    obtain ⟨M5, hM5, h⟩ := of_bind h
    refine e_VV [] aX7_cut_34 co_X7_arrowsChanged mX7_101 ly_0 rfl rfl (c_X7_arrowsChanged l x hM5) rfl ⟨by decide, by decide⟩ (Nat.le_of_ble_eq_true rfl) rfl ?_
    refine e_aload_n aX7_cut_37 rfl ?_
    refine e_getR (r := 1) aX7_cut_38 fX7_10 ly_0 rfl ?_
    refine e_getI aX7_cut_41 fX7_151 ly_1 rfl ?_
    exact e_retI aX7_cut_44 rfl rfl (pI_of h)
def f_X7_isWithinBounds (i0 : Int32) (M : Mem) : Option Int32 :=
  if i0 < (-99) then
    some 0
  else
    if 99 < i0 then
      some 0
    else
      some 1
set_option maxRecDepth 100000 in
set_option maxHeartbeats 4000000 in
theorem c_X7_isWithinBounds (l : Launch) (x : WX) {i0 : Int32} {M : Mem} {r : Int32}  (h : f_X7_isWithinBounds i0 M = some r) : Mt l x false yX7_isWithinBounds cX7_isWithinBounds 1 (some FieldType.boolean) 0 0 0 [.int i0] LAY M (pI r M) := by
  refine mt_of (L0 := [some (.int i0)]) (by decide +kernel) rfl (Nat.le_of_ble_eq_true rfl) (lvA_of 0 rfl) ?_
  unfold f_X7_isWithinBounds at h
  refine e_iload_n aX7_isWithinBounds_0 rfl ?_
  refine e_bipush (v := (-99)) aX7_isWithinBounds_1 (by decide) ?_
  rcases of_ite h with ⟨hc1, h⟩ | ⟨hc1, h⟩
  · refine e_icmp_lt (tgt := 16) aX7_isWithinBounds_3 (by decide) (fun _ => ?_) (fun q => absurd hc1 q)
    refine e_iconst (v := 0) aX7_isWithinBounds_16 (by decide) ?_
    exact e_retI aX7_isWithinBounds_17 rfl (by decide +kernel) (pI_ro h)
  · refine e_icmp_lt (tgt := 16) aX7_isWithinBounds_3 (by decide) (fun q => absurd q hc1) (fun _ => ?_)
    refine e_iload_n aX7_isWithinBounds_6 rfl ?_
    refine e_bipush (v := 99) aX7_isWithinBounds_7 (by decide) ?_
    rcases of_ite h with ⟨hc2, h⟩ | ⟨hc2, h⟩
    · refine e_icmp_gt (tgt := 16) aX7_isWithinBounds_9 (by decide) (fun _ => ?_) (fun q => absurd hc2 q)
      refine e_iconst (v := 0) aX7_isWithinBounds_16 (by decide) ?_
      exact e_retI aX7_isWithinBounds_17 rfl (by decide +kernel) (pI_ro h)
    · refine e_icmp_gt (tgt := 16) aX7_isWithinBounds_9 (by decide) (fun q => absurd q hc2) (fun _ => ?_)
      refine e_iconst (v := 1) aX7_isWithinBounds_12 (by decide) ?_
      refine e_goto (tgt := 17) aX7_isWithinBounds_13 (by decide) ?_
      exact e_retI aX7_isWithinBounds_17 rfl (by decide +kernel) (pI_ro h)
def f_X7_turn (i1 : Int32) (M : Mem) : Option (Int32 × Mem) :=
  (f_X2_hasPoint 1 i1 M).bind fun (r1 : Int32) =>
  if r1 = 0 then
    some ((-1000001), M)
  else
    (f_X2_isSink 1 i1 M).bind fun (r3 : Int32) =>
    if r3 = 0 then
      (f_X2_isSource 1 i1 M).bind fun (r13 : Int32) =>
      if r13 = 0 then
        some ((-1000003), M)
      else
        (f_X2_turnedAbout 1 4 i1 M).bind fun (r15 : Int32) =>
        (f_X7_isWithinBounds r15 M).bind fun (r16 : Int32) =>
        if r16 = 0 then
          some ((-1000003), M)
        else
          (f_X1_remember M).bind fun (M18 : Mem) =>
          if i1 < 0 ∨ 6 ≤ i1.toNatClampNeg then none else
          lt (um M18 4 i1.toNatClampNeg r15) fun (M20 : Mem) =>
          (f_X2_swapArrowsAt 1 i1 M20).bind fun (M21 : Mem) =>
          (f_X7_arrowsChanged M21).bind fun (M22 : Mem) =>
          some (r15, M22)
    else
      (f_X2_turnedAbout 1 4 i1 M).bind fun (r5 : Int32) =>
      (f_X7_isWithinBounds r5 M).bind fun (r6 : Int32) =>
      if r6 = 0 then
        some ((-1000003), M)
      else
        (f_X1_remember M).bind fun (M8 : Mem) =>
        if i1 < 0 ∨ 6 ≤ i1.toNatClampNeg then none else
        lt (um M8 4 i1.toNatClampNeg r5) fun (M10 : Mem) =>
        (f_X2_swapArrowsAt 1 i1 M10).bind fun (M11 : Mem) =>
        (f_X7_arrowsChanged M11).bind fun (M12 : Mem) =>
        some (r5, M12)
set_option maxRecDepth 100000 in
set_option maxHeartbeats 4000000 in
theorem c_X7_turn (l : Launch) (x : WX) {i1 : Int32} {M : Mem} {r : (Int32 × Mem)}  (h : f_X7_turn i1 M = some r) : Mt l x false yX7_turn cX7_turn 3 (some FieldType.int) 4 0 0 [.ref (x.2.2.1 + 0), .int i1] LAY M (pI r.1 r.2) := by
  refine mt_of (L0 := [some (.ref (x.2.2.1 + 0)), some (.int i1), none]) (by decide +kernel) rfl (Nat.le_of_ble_eq_true rfl) (lvA_of 1 rfl) ?_
  unfold f_X7_turn at h
  refine e_aload_n aX7_turn_0 rfl ?_
  refine e_getR (r := 1) aX7_turn_1 fX7_10 ly_0 rfl ?_
  refine e_iload_n aX7_turn_4 rfl ?_
  obtain ⟨r1, hr1, h⟩ := of_bind h
  refine e_VI [] aX7_turn_5 co_X2_hasPoint mX7_118 ly_1 rfl rfl (c_X2_hasPoint l x qa_1 hr1) rfl ⟨by decide, by decide⟩ (Nat.le_of_ble_eq_true rfl) rfl ?_
  rcases of_ite h with ⟨hc2, h⟩ | ⟨hc2, h⟩
  · refine e_if_ne (tgt := 14) aX7_turn_8 (by decide) (fun q => absurd hc2 q) (fun _ => ?_)
    refine e_ldc aX7_turn_11 kX7_111 ?_
    exact e_retI aX7_turn_13 rfl rfl (pI_of h)
  · refine e_if_ne (tgt := 14) aX7_turn_8 (by decide) (fun _ => ?_) (fun q => absurd q hc2)
    refine e_aload_n aX7_turn_14 rfl ?_
    refine e_getR (r := 1) aX7_turn_15 fX7_10 ly_0 rfl ?_
    refine e_iload_n aX7_turn_18 rfl ?_
    obtain ⟨r3, hr3, h⟩ := of_bind h
    refine e_VI [] aX7_turn_19 co_X2_isSink mX7_124 ly_1 rfl rfl (c_X2_isSink l x qa_1 hr3) rfl ⟨by decide, by decide⟩ (Nat.le_of_ble_eq_true rfl) rfl ?_
    rcases of_ite h with ⟨hc4, h⟩ | ⟨hc4, h⟩
    · refine e_if_ne (tgt := 39) aX7_turn_22 (by decide) (fun q => absurd hc4 q) (fun _ => ?_)
      refine e_aload_n aX7_turn_25 rfl ?_
      refine e_getR (r := 1) aX7_turn_26 fX7_10 ly_0 rfl ?_
      refine e_iload_n aX7_turn_29 rfl ?_
      obtain ⟨r13, hr13, h⟩ := of_bind h
      refine e_VI [] aX7_turn_30 co_X2_isSource mX7_127 ly_1 rfl rfl (c_X2_isSource l x qa_1 hr13) rfl ⟨by decide, by decide⟩ (Nat.le_of_ble_eq_true rfl) rfl ?_
      rcases of_ite h with ⟨hc14, h⟩ | ⟨hc14, h⟩
      · refine e_if_ne (tgt := 39) aX7_turn_33 (by decide) (fun q => absurd hc14 q) (fun _ => ?_)
        refine e_ldc aX7_turn_36 kX7_97 ?_
        exact e_retI aX7_turn_38 rfl rfl (pI_of h)
      · refine e_if_ne (tgt := 39) aX7_turn_33 (by decide) (fun _ => ?_) (fun q => absurd q hc14)
        refine e_aload_n aX7_turn_39 rfl ?_
        refine e_getR (r := 1) aX7_turn_40 fX7_10 ly_0 rfl ?_
        refine e_aload_n aX7_turn_43 rfl ?_
        refine e_getR (r := 1) aX7_turn_44 fX7_10 ly_0 rfl ?_
        refine e_getR (r := 4) aX7_turn_47 fX7_121 ly_1 rfl ?_
        refine e_iload_n aX7_turn_50 rfl ?_
        obtain ⟨r15, hr15, h⟩ := of_bind h
        refine e_VI [] aX7_turn_51 co_X2_turnedAbout mX7_165 ly_1 rfl rfl (c_X2_turnedAbout l x qa_1 ly_4 hr15) rfl ⟨by decide, by decide⟩ (Nat.le_of_ble_eq_true rfl) rfl ?_
        refine e_istore_n (L2 := [some (.ref (x.2.2.1 + 0)), some (.int i1), some (.int r15)]) aX7_turn_54 ⟨by decide, rfl⟩ rfl ?_
        refine e_iload_n aX7_turn_55 rfl ?_
        obtain ⟨r16, hr16, h⟩ := of_bind h
        refine e_SI [] aX7_turn_56 co_X7_isWithinBounds mX7_169 (c_X7_isWithinBounds l x hr16) rfl ⟨by decide, by decide⟩ (Nat.le_of_ble_eq_true rfl) rfl ?_
        rcases of_ite h with ⟨hc17, h⟩ | ⟨hc17, h⟩
        · refine e_if_ne (tgt := 65) aX7_turn_59 (by decide) (fun q => absurd hc17 q) (fun _ => ?_)
          refine e_ldc aX7_turn_62 kX7_97 ?_
          exact e_retI aX7_turn_64 rfl rfl (pI_of h)
        · refine e_if_ne (tgt := 65) aX7_turn_59 (by decide) (fun _ => ?_) (fun q => absurd q hc17)
          refine e_aload_n aX7_turn_65 rfl ?_
          refine e_getR (r := 9) aX7_turn_66 fX7_22 ly_0 rfl ?_
          refine e_aload_n aX7_turn_69 rfl ?_
          refine e_getR (r := 1) aX7_turn_70 fX7_10 ly_0 rfl ?_
          obtain ⟨M18, hM18, h⟩ := of_bind h
          refine e_VV [] aX7_turn_73 co_X1_remember mX7_154 ly_9 rfl rfl (c_X1_remember l x hM18) rfl ⟨by decide, by decide⟩ (Nat.le_of_ble_eq_true rfl) rfl ?_
          refine e_aload_n aX7_turn_76 rfl ?_
          refine e_getR (r := 1) aX7_turn_77 fX7_10 ly_0 rfl ?_
          refine e_getR (r := 4) aX7_turn_80 fX7_121 ly_1 rfl ?_
          refine e_iload_n aX7_turn_83 rfl ?_
          refine e_iload_n aX7_turn_84 rfl ?_
          obtain ⟨hg19, h⟩ := of_guard h
          obtain ⟨M20, eM20, h⟩ := of_lt h
          refine e_ist aX7_turn_85 ly_4 hg19 eM20 ?_
          refine e_aload_n aX7_turn_86 rfl ?_
          refine e_getR (r := 1) aX7_turn_87 fX7_10 ly_0 rfl ?_
          refine e_iload_n aX7_turn_90 rfl ?_
          obtain ⟨M21, hM21, h⟩ := of_bind h
          refine e_VV [] aX7_turn_91 co_X2_swapArrowsAt mX7_172 ly_1 rfl rfl (c_X2_swapArrowsAt l x qa_1 hM21) rfl ⟨by decide, by decide⟩ (Nat.le_of_ble_eq_true rfl) rfl ?_
          refine e_aload_n aX7_turn_94 rfl ?_
          obtain ⟨M22, hM22, h⟩ := of_bind h
          refine e_VV [] aX7_turn_95 co_X7_arrowsChanged mX7_101 ly_0 rfl rfl (c_X7_arrowsChanged l x hM22) rfl ⟨by decide, by decide⟩ (Nat.le_of_ble_eq_true rfl) rfl ?_
          refine e_iload_n aX7_turn_98 rfl ?_
          exact e_retI aX7_turn_99 rfl rfl (pI_of h)
    · refine e_if_ne (tgt := 39) aX7_turn_22 (by decide) (fun _ => ?_) (fun q => absurd q hc4)
      refine e_aload_n aX7_turn_39 rfl ?_
      refine e_getR (r := 1) aX7_turn_40 fX7_10 ly_0 rfl ?_
      refine e_aload_n aX7_turn_43 rfl ?_
      refine e_getR (r := 1) aX7_turn_44 fX7_10 ly_0 rfl ?_
      refine e_getR (r := 4) aX7_turn_47 fX7_121 ly_1 rfl ?_
      refine e_iload_n aX7_turn_50 rfl ?_
      obtain ⟨r5, hr5, h⟩ := of_bind h
      refine e_VI [] aX7_turn_51 co_X2_turnedAbout mX7_165 ly_1 rfl rfl (c_X2_turnedAbout l x qa_1 ly_4 hr5) rfl ⟨by decide, by decide⟩ (Nat.le_of_ble_eq_true rfl) rfl ?_
      refine e_istore_n (L2 := [some (.ref (x.2.2.1 + 0)), some (.int i1), some (.int r5)]) aX7_turn_54 ⟨by decide, rfl⟩ rfl ?_
      refine e_iload_n aX7_turn_55 rfl ?_
      obtain ⟨r6, hr6, h⟩ := of_bind h
      refine e_SI [] aX7_turn_56 co_X7_isWithinBounds mX7_169 (c_X7_isWithinBounds l x hr6) rfl ⟨by decide, by decide⟩ (Nat.le_of_ble_eq_true rfl) rfl ?_
      rcases of_ite h with ⟨hc7, h⟩ | ⟨hc7, h⟩
      · refine e_if_ne (tgt := 65) aX7_turn_59 (by decide) (fun q => absurd hc7 q) (fun _ => ?_)
        refine e_ldc aX7_turn_62 kX7_97 ?_
        exact e_retI aX7_turn_64 rfl rfl (pI_of h)
      · refine e_if_ne (tgt := 65) aX7_turn_59 (by decide) (fun _ => ?_) (fun q => absurd q hc7)
        refine e_aload_n aX7_turn_65 rfl ?_
        refine e_getR (r := 9) aX7_turn_66 fX7_22 ly_0 rfl ?_
        refine e_aload_n aX7_turn_69 rfl ?_
        refine e_getR (r := 1) aX7_turn_70 fX7_10 ly_0 rfl ?_
        obtain ⟨M8, hM8, h⟩ := of_bind h
        refine e_VV [] aX7_turn_73 co_X1_remember mX7_154 ly_9 rfl rfl (c_X1_remember l x hM8) rfl ⟨by decide, by decide⟩ (Nat.le_of_ble_eq_true rfl) rfl ?_
        refine e_aload_n aX7_turn_76 rfl ?_
        refine e_getR (r := 1) aX7_turn_77 fX7_10 ly_0 rfl ?_
        refine e_getR (r := 4) aX7_turn_80 fX7_121 ly_1 rfl ?_
        refine e_iload_n aX7_turn_83 rfl ?_
        refine e_iload_n aX7_turn_84 rfl ?_
        obtain ⟨hg9, h⟩ := of_guard h
        obtain ⟨M10, eM10, h⟩ := of_lt h
        refine e_ist aX7_turn_85 ly_4 hg9 eM10 ?_
        refine e_aload_n aX7_turn_86 rfl ?_
        refine e_getR (r := 1) aX7_turn_87 fX7_10 ly_0 rfl ?_
        refine e_iload_n aX7_turn_90 rfl ?_
        obtain ⟨M11, hM11, h⟩ := of_bind h
        refine e_VV [] aX7_turn_91 co_X2_swapArrowsAt mX7_172 ly_1 rfl rfl (c_X2_swapArrowsAt l x qa_1 hM11) rfl ⟨by decide, by decide⟩ (Nat.le_of_ble_eq_true rfl) rfl ?_
        refine e_aload_n aX7_turn_94 rfl ?_
        obtain ⟨M12, hM12, h⟩ := of_bind h
        refine e_VV [] aX7_turn_95 co_X7_arrowsChanged mX7_101 ly_0 rfl rfl (c_X7_arrowsChanged l x hM12) rfl ⟨by decide, by decide⟩ (Nat.le_of_ble_eq_true rfl) rfl ?_
        refine e_iload_n aX7_turn_98 rfl ?_
        exact e_retI aX7_turn_99 rfl rfl (pI_of h)
def f_X7_set (i1 : Int32) (i2 : Int32) (M : Mem) : Option (Int32 × Mem) :=
  (f_X2_hasPoint 1 i1 M).bind fun (r1 : Int32) =>
  if r1 = 0 then
    some ((-1000001), M)
  else
    (f_X7_isWithinBounds i2 M).bind fun (r3 : Int32) =>
    if r3 = 0 then
      some ((-1000002), M)
    else
      (f_X1_remember M).bind fun (M5 : Mem) =>
      if i1 < 0 ∨ 6 ≤ i1.toNatClampNeg then none else
      lt (M5 4 i1.toNatClampNeg) fun (v7 : Int32) =>
      if i1 < 0 ∨ 6 ≤ i1.toNatClampNeg then none else
      lt (um M5 4 i1.toNatClampNeg i2) fun (M9 : Mem) =>
      some (v7, M9)
set_option maxRecDepth 100000 in
set_option maxHeartbeats 4000000 in
theorem c_X7_set (l : Launch) (x : WX) {i1 : Int32} {i2 : Int32} {M : Mem} {r : (Int32 × Mem)}  (h : f_X7_set i1 i2 M = some r) : Mt l x false yX7_set cX7_set 4 (some FieldType.int) 4 0 0 [.ref (x.2.2.1 + 0), .int i1, .int i2] LAY M (pI r.1 r.2) := by
  refine mt_of (L0 := [some (.ref (x.2.2.1 + 0)), some (.int i1), some (.int i2), none]) (by decide +kernel) rfl (Nat.le_of_ble_eq_true rfl) (lvA_of 1 rfl) ?_
  unfold f_X7_set at h
  refine e_aload_n aX7_set_0 rfl ?_
  refine e_getR (r := 1) aX7_set_1 fX7_10 ly_0 rfl ?_
  refine e_iload_n aX7_set_4 rfl ?_
  obtain ⟨r1, hr1, h⟩ := of_bind h
  refine e_VI [] aX7_set_5 co_X2_hasPoint mX7_118 ly_1 rfl rfl (c_X2_hasPoint l x qa_1 hr1) rfl ⟨by decide, by decide⟩ (Nat.le_of_ble_eq_true rfl) rfl ?_
  rcases of_ite h with ⟨hc2, h⟩ | ⟨hc2, h⟩
  · refine e_if_ne (tgt := 14) aX7_set_8 (by decide) (fun q => absurd hc2 q) (fun _ => ?_)
    refine e_ldc aX7_set_11 kX7_111 ?_
    exact e_retI aX7_set_13 rfl rfl (pI_of h)
  · refine e_if_ne (tgt := 14) aX7_set_8 (by decide) (fun _ => ?_) (fun q => absurd q hc2)
    refine e_iload_n aX7_set_14 rfl ?_
    obtain ⟨r3, hr3, h⟩ := of_bind h
    refine e_SI [] aX7_set_15 co_X7_isWithinBounds mX7_169 (c_X7_isWithinBounds l x hr3) rfl ⟨by decide, by decide⟩ (Nat.le_of_ble_eq_true rfl) rfl ?_
    rcases of_ite h with ⟨hc4, h⟩ | ⟨hc4, h⟩
    · refine e_if_ne (tgt := 24) aX7_set_18 (by decide) (fun q => absurd hc4 q) (fun _ => ?_)
      refine e_ldc aX7_set_21 kX7_80 ?_
      exact e_retI aX7_set_23 rfl rfl (pI_of h)
    · refine e_if_ne (tgt := 24) aX7_set_18 (by decide) (fun _ => ?_) (fun q => absurd q hc4)
      refine e_aload_n aX7_set_24 rfl ?_
      refine e_getR (r := 9) aX7_set_25 fX7_22 ly_0 rfl ?_
      refine e_aload_n aX7_set_28 rfl ?_
      refine e_getR (r := 1) aX7_set_29 fX7_10 ly_0 rfl ?_
      obtain ⟨M5, hM5, h⟩ := of_bind h
      refine e_VV [] aX7_set_32 co_X1_remember mX7_154 ly_9 rfl rfl (c_X1_remember l x hM5) rfl ⟨by decide, by decide⟩ (Nat.le_of_ble_eq_true rfl) rfl ?_
      refine e_aload_n aX7_set_35 rfl ?_
      refine e_getR (r := 1) aX7_set_36 fX7_10 ly_0 rfl ?_
      refine e_getR (r := 4) aX7_set_39 fX7_121 ly_1 rfl ?_
      refine e_iload_n aX7_set_42 rfl ?_
      obtain ⟨hg6, h⟩ := of_guard h
      refine e_iald aX7_set_43 ly_4 hg6 ?_
      obtain ⟨v7, ev7, h⟩ := of_lt h
      refine e_nameI ev7 ?_
      refine e_istore_n (L2 := [some (.ref (x.2.2.1 + 0)), some (.int i1), some (.int i2), some (.int v7)]) aX7_set_44 ⟨by decide, rfl⟩ rfl ?_
      refine e_aload_n aX7_set_45 rfl ?_
      refine e_getR (r := 1) aX7_set_46 fX7_10 ly_0 rfl ?_
      refine e_getR (r := 4) aX7_set_49 fX7_121 ly_1 rfl ?_
      refine e_iload_n aX7_set_52 rfl ?_
      refine e_iload_n aX7_set_53 rfl ?_
      obtain ⟨hg8, h⟩ := of_guard h
      obtain ⟨M9, eM9, h⟩ := of_lt h
      refine e_ist aX7_set_54 ly_4 hg8 eM9 ?_
      refine e_iload_n aX7_set_55 rfl ?_
      exact e_retI aX7_set_56 rfl rfl (pI_of h)
def s_X7_isTrialWithinBounds_2  (M : Mem) (k : Int32 → Option Int32) (rec : Int32 → Option Int32) (i1 : Int32) : Option Int32 :=
  if M 1 0 ≤ i1 then
    k i1
  else
    if i1 < 0 ∨ 6 ≤ i1.toNatClampNeg then none else
    (f_X7_isWithinBounds (M 146 i1.toNatClampNeg) M).bind fun (r3 : Int32) =>
    if r3 = 0 then
      some 0
    else
      rec (i1 + 1)
def f_X7_isTrialWithinBounds_2  (M : Mem) (k : Int32 → Option Int32) : Nat → Int32 → Option Int32
  | 0 => fun _ => none
  | n + 1 => fun i1 => s_X7_isTrialWithinBounds_2  M k (f_X7_isTrialWithinBounds_2  M k n) i1
set_option maxRecDepth 100000 in
set_option maxHeartbeats 4000000 in
theorem w_X7_isTrialWithinBounds_2 (l : Launch) (x : WX)  {M : Mem} {k : Int32 → Option Int32} {r : Int32}  (K : ∀ (i1 : Int32), k i1 = some r → Ev l x false cX7_isTrialWithinBounds RX7 (some FieldType.boolean) 2 1 0 0 (pI r M) 33 [some (.ref (x.2.2.1 + 0)), some (.int i1)] [] LAY M) : ∀ (n : Nat) (i1 : Int32), f_X7_isTrialWithinBounds_2  M k n i1 = some r → Ev l x false cX7_isTrialWithinBounds RX7 (some FieldType.boolean) 2 1 0 0 (pI r M) 2 [some (.ref (x.2.2.1 + 0)), some (.int i1)] [] LAY M := by
  intro n
  induction n with
  | zero =>
    intro i1 h
    exact nomatch (show (none : Option Int32) = some r from h)
  | succ n ih =>
    intro i1 h
    have h : s_X7_isTrialWithinBounds_2  M k (f_X7_isTrialWithinBounds_2  M k n) i1 = some r := h
    unfold s_X7_isTrialWithinBounds_2 at h
    refine e_iload_n aX7_isTrialWithinBounds_2 rfl ?_
    refine e_aload_n aX7_isTrialWithinBounds_3 rfl ?_
    refine e_getR (r := 1) aX7_isTrialWithinBounds_4 fX7_10 ly_0 rfl ?_
    refine e_getI aX7_isTrialWithinBounds_7 fX7_244 ly_1 rfl ?_
    rcases of_ite h with ⟨hc1, h⟩ | ⟨hc1, h⟩
    · refine e_icmp_ge (tgt := 33) aX7_isTrialWithinBounds_10 (by decide) (fun _ => ?_) (fun q => absurd hc1 q)
      exact K _ h
    · refine e_icmp_ge (tgt := 33) aX7_isTrialWithinBounds_10 (by decide) (fun q => absurd q hc1) (fun _ => ?_)
      refine e_aload_n aX7_isTrialWithinBounds_13 rfl ?_
      refine e_getR (r := 146) aX7_isTrialWithinBounds_14 fX7_68 ly_0 rfl ?_
      refine e_iload_n aX7_isTrialWithinBounds_17 rfl ?_
      obtain ⟨hg2, h⟩ := of_guard h
      refine e_iald aX7_isTrialWithinBounds_18 ly_146 hg2 ?_
      obtain ⟨r3, hr3, h⟩ := of_bind h
      refine e_SI [] aX7_isTrialWithinBounds_19 co_X7_isWithinBounds mX7_169 (c_X7_isWithinBounds l x hr3) rfl ⟨by decide, by decide⟩ (Nat.le_of_ble_eq_true rfl) rfl ?_
      rcases of_ite h with ⟨hc4, h⟩ | ⟨hc4, h⟩
      · refine e_if_ne (tgt := 27) aX7_isTrialWithinBounds_22 (by decide) (fun q => absurd hc4 q) (fun _ => ?_)
        refine e_iconst (v := 0) aX7_isTrialWithinBounds_25 (by decide) ?_
        exact e_retI aX7_isTrialWithinBounds_26 rfl (by decide +kernel) (pI_ro h)
      · refine e_if_ne (tgt := 27) aX7_isTrialWithinBounds_22 (by decide) (fun _ => ?_) (fun q => absurd q hc4)
        refine e_iinc (v := i1 + 1) (L2 := [some (.ref (x.2.2.1 + 0)), some (.int (i1 + 1))]) aX7_isTrialWithinBounds_27 rfl rfl ⟨by decide, rfl⟩ rfl ?_
        refine e_goto (tgt := 2) aX7_isTrialWithinBounds_30 (by decide) ?_
        exact ih _ h
def f_X7_isTrialWithinBounds  (M : Mem) : Option Int32 :=
  f_X7_isTrialWithinBounds_2  M (fun (i1_1 : Int32) =>
    some 1) FU 0
set_option maxRecDepth 100000 in
set_option maxHeartbeats 4000000 in
theorem c_X7_isTrialWithinBounds (l : Launch) (x : WX)  {M : Mem} {r : Int32}  (h : f_X7_isTrialWithinBounds  M = some r) : Mt l x false yX7_isTrialWithinBounds cX7_isTrialWithinBounds 2 (some FieldType.boolean) 1 0 0 [.ref (x.2.2.1 + 0)] LAY M (pI r M) := by
  refine mt_of (L0 := [some (.ref (x.2.2.1 + 0)), none]) (by decide +kernel) rfl (Nat.le_of_ble_eq_true rfl) (lvA_of 1 rfl) ?_
  unfold f_X7_isTrialWithinBounds at h
  refine e_iconst (v := 0) aX7_isTrialWithinBounds_0 (by decide) ?_
  refine e_istore_n (L2 := [some (.ref (x.2.2.1 + 0)), some (.int 0)]) aX7_isTrialWithinBounds_1 ⟨by decide, rfl⟩ rfl ?_
  refine w_X7_isTrialWithinBounds_2 l x  (fun i1_1 h => ?_) FU _ h
  refine e_iconst (v := 1) aX7_isTrialWithinBounds_33 (by decide) ?_
  exact e_retI aX7_isTrialWithinBounds_34 rfl (by decide +kernel) (pI_ro h)
def f_X7_shift (i1 : Int32) (M : Mem) : Option (Int32 × Mem) :=
  if i1 < 0 then
    some ((-1000002), M)
  else
    if i1 ≤ 1 then
      (f_X7_findWays M).bind fun (M3 : Mem) =>
      (f_X7_copyRow 4 146 M3).bind fun (M4 : Mem) =>
      if i1 = 0 then
        (f_X6_shiftBack 146 M4).bind fun (M12 : Mem) =>
        (f_X7_isTrialWithinBounds M12).bind fun (r13 : Int32) =>
        if r13 = 0 then
          some ((-1000003), M12)
        else
          (f_X1_remember M12).bind fun (M15 : Mem) =>
          (f_X7_copyRow 146 4 M15).bind fun (M16 : Mem) =>
          (f_X2_tits 1 M16).bind fun (r17 : Int32) =>
          some (r17, M16)
      else
        (f_X6_shiftOn 146 M4).bind fun (M6 : Mem) =>
        (f_X7_isTrialWithinBounds M6).bind fun (r7 : Int32) =>
        if r7 = 0 then
          some ((-1000003), M6)
        else
          (f_X1_remember M6).bind fun (M9 : Mem) =>
          (f_X7_copyRow 146 4 M9).bind fun (M10 : Mem) =>
          (f_X2_tits 1 M10).bind fun (r11 : Int32) =>
          some (r11, M10)
    else
      some ((-1000002), M)
set_option maxRecDepth 100000 in
set_option maxHeartbeats 4000000 in
theorem c_X7_shift (l : Launch) (x : WX) {i1 : Int32} {M : Mem} {r : (Int32 × Mem)}  (h : f_X7_shift i1 M = some r) : Mt l x false yX7_shift cX7_shift 2 (some FieldType.int) 4 0 0 [.ref (x.2.2.1 + 0), .int i1] LAY M (pI r.1 r.2) := by
  refine mt_of (L0 := [some (.ref (x.2.2.1 + 0)), some (.int i1)]) (by decide +kernel) rfl (Nat.le_of_ble_eq_true rfl) (lvA_of 0 rfl) ?_
  unfold f_X7_shift at h
  refine e_iload_n aX7_shift_0 rfl ?_
  rcases of_ite h with ⟨hc1, h⟩ | ⟨hc1, h⟩
  · refine e_if_lt (tgt := 9) aX7_shift_1 (by decide) (fun _ => ?_) (fun q => absurd hc1 q)
    refine e_ldc aX7_shift_9 kX7_80 ?_
    exact e_retI aX7_shift_11 rfl rfl (pI_of h)
  · refine e_if_lt (tgt := 9) aX7_shift_1 (by decide) (fun q => absurd q hc1) (fun _ => ?_)
    refine e_iload_n aX7_shift_4 rfl ?_
    refine e_iconst (v := 1) aX7_shift_5 (by decide) ?_
    rcases of_ite h with ⟨hc2, h⟩ | ⟨hc2, h⟩
    · refine e_icmp_le (tgt := 12) aX7_shift_6 (by decide) (fun _ => ?_) (fun q => absurd hc2 q)
      refine e_aload_n aX7_shift_12 rfl ?_
      obtain ⟨M3, hM3, h⟩ := of_bind h
      refine e_VV [] aX7_shift_13 co_X7_findWays mX7_130 ly_0 rfl rfl (c_X7_findWays l x hM3) rfl ⟨by decide, by decide⟩ (Nat.le_of_ble_eq_true rfl) rfl ?_
      refine e_aload_n aX7_shift_16 rfl ?_
      refine e_getR (r := 1) aX7_shift_17 fX7_10 ly_0 rfl ?_
      refine e_getR (r := 4) aX7_shift_20 fX7_121 ly_1 rfl ?_
      refine e_aload_n aX7_shift_23 rfl ?_
      refine e_getR (r := 146) aX7_shift_24 fX7_68 ly_0 rfl ?_
      obtain ⟨M4, hM4, h⟩ := of_bind h
      refine e_SV [] aX7_shift_27 co_X7_copyRow mX7_175 (c_X7_copyRow l x ly_4 ly_146 hM4) rfl ⟨by decide, by decide⟩ (Nat.le_of_ble_eq_true rfl) rfl ?_
      refine e_iload_n aX7_shift_30 rfl ?_
      rcases of_ite h with ⟨hc5, h⟩ | ⟨hc5, h⟩
      · refine e_if_ne (tgt := 52) aX7_shift_31 (by decide) (fun q => absurd hc5 q) (fun _ => ?_)
        refine e_aload_n aX7_shift_34 rfl ?_
        refine e_getR (r := 47) aX7_shift_35 fX7_44 ly_0 rfl ?_
        refine e_aload_n aX7_shift_38 rfl ?_
        refine e_getR (r := 1) aX7_shift_39 fX7_10 ly_0 rfl ?_
        refine e_aload_n aX7_shift_42 rfl ?_
        refine e_getR (r := 146) aX7_shift_43 fX7_68 ly_0 rfl ?_
        obtain ⟨M12, hM12, h⟩ := of_bind h
        refine e_VV [] aX7_shift_46 co_X6_shiftBack mX7_179 ly_47 rfl rfl (c_X6_shiftBack l x ly_146 hM12) rfl ⟨by decide, by decide⟩ (Nat.le_of_ble_eq_true rfl) rfl ?_
        refine e_goto (tgt := 67) aX7_shift_49 (by decide) ?_
        refine e_aload_n aX7_shift_67 rfl ?_
        obtain ⟨r13, hr13, h⟩ := of_bind h
        refine e_VI [] aX7_shift_68 co_X7_isTrialWithinBounds mX7_186 ly_0 rfl rfl (c_X7_isTrialWithinBounds l x hr13) rfl ⟨by decide, by decide⟩ (Nat.le_of_ble_eq_true rfl) rfl ?_
        rcases of_ite h with ⟨hc14, h⟩ | ⟨hc14, h⟩
        · refine e_if_ne (tgt := 77) aX7_shift_71 (by decide) (fun q => absurd hc14 q) (fun _ => ?_)
          refine e_ldc aX7_shift_74 kX7_97 ?_
          exact e_retI aX7_shift_76 rfl rfl (pI_of h)
        · refine e_if_ne (tgt := 77) aX7_shift_71 (by decide) (fun _ => ?_) (fun q => absurd q hc14)
          refine e_aload_n aX7_shift_77 rfl ?_
          refine e_getR (r := 9) aX7_shift_78 fX7_22 ly_0 rfl ?_
          refine e_aload_n aX7_shift_81 rfl ?_
          refine e_getR (r := 1) aX7_shift_82 fX7_10 ly_0 rfl ?_
          obtain ⟨M15, hM15, h⟩ := of_bind h
          refine e_VV [] aX7_shift_85 co_X1_remember mX7_154 ly_9 rfl rfl (c_X1_remember l x hM15) rfl ⟨by decide, by decide⟩ (Nat.le_of_ble_eq_true rfl) rfl ?_
          refine e_aload_n aX7_shift_88 rfl ?_
          refine e_getR (r := 146) aX7_shift_89 fX7_68 ly_0 rfl ?_
          refine e_aload_n aX7_shift_92 rfl ?_
          refine e_getR (r := 1) aX7_shift_93 fX7_10 ly_0 rfl ?_
          refine e_getR (r := 4) aX7_shift_96 fX7_121 ly_1 rfl ?_
          obtain ⟨M16, hM16, h⟩ := of_bind h
          refine e_SV [] aX7_shift_99 co_X7_copyRow mX7_175 (c_X7_copyRow l x ly_146 ly_4 hM16) rfl ⟨by decide, by decide⟩ (Nat.le_of_ble_eq_true rfl) rfl ?_
          refine e_aload_n aX7_shift_102 rfl ?_
          refine e_getR (r := 1) aX7_shift_103 fX7_10 ly_0 rfl ?_
          obtain ⟨r17, hr17, h⟩ := of_bind h
          refine e_VI [] aX7_shift_106 co_X2_tits mX7_190 ly_1 rfl rfl (c_X2_tits l x qa_1 hr17) rfl ⟨by decide, by decide⟩ (Nat.le_of_ble_eq_true rfl) rfl ?_
          exact e_retI aX7_shift_109 rfl rfl (pI_of h)
      · refine e_if_ne (tgt := 52) aX7_shift_31 (by decide) (fun _ => ?_) (fun q => absurd q hc5)
        refine e_aload_n aX7_shift_52 rfl ?_
        refine e_getR (r := 47) aX7_shift_53 fX7_44 ly_0 rfl ?_
        refine e_aload_n aX7_shift_56 rfl ?_
        refine e_getR (r := 1) aX7_shift_57 fX7_10 ly_0 rfl ?_
        refine e_aload_n aX7_shift_60 rfl ?_
        refine e_getR (r := 146) aX7_shift_61 fX7_68 ly_0 rfl ?_
        obtain ⟨M6, hM6, h⟩ := of_bind h
        refine e_VV [] aX7_shift_64 co_X6_shiftOn mX7_183 ly_47 rfl rfl (c_X6_shiftOn l x ly_146 hM6) rfl ⟨by decide, by decide⟩ (Nat.le_of_ble_eq_true rfl) rfl ?_
        refine e_aload_n aX7_shift_67 rfl ?_
        obtain ⟨r7, hr7, h⟩ := of_bind h
        refine e_VI [] aX7_shift_68 co_X7_isTrialWithinBounds mX7_186 ly_0 rfl rfl (c_X7_isTrialWithinBounds l x hr7) rfl ⟨by decide, by decide⟩ (Nat.le_of_ble_eq_true rfl) rfl ?_
        rcases of_ite h with ⟨hc8, h⟩ | ⟨hc8, h⟩
        · refine e_if_ne (tgt := 77) aX7_shift_71 (by decide) (fun q => absurd hc8 q) (fun _ => ?_)
          refine e_ldc aX7_shift_74 kX7_97 ?_
          exact e_retI aX7_shift_76 rfl rfl (pI_of h)
        · refine e_if_ne (tgt := 77) aX7_shift_71 (by decide) (fun _ => ?_) (fun q => absurd q hc8)
          refine e_aload_n aX7_shift_77 rfl ?_
          refine e_getR (r := 9) aX7_shift_78 fX7_22 ly_0 rfl ?_
          refine e_aload_n aX7_shift_81 rfl ?_
          refine e_getR (r := 1) aX7_shift_82 fX7_10 ly_0 rfl ?_
          obtain ⟨M9, hM9, h⟩ := of_bind h
          refine e_VV [] aX7_shift_85 co_X1_remember mX7_154 ly_9 rfl rfl (c_X1_remember l x hM9) rfl ⟨by decide, by decide⟩ (Nat.le_of_ble_eq_true rfl) rfl ?_
          refine e_aload_n aX7_shift_88 rfl ?_
          refine e_getR (r := 146) aX7_shift_89 fX7_68 ly_0 rfl ?_
          refine e_aload_n aX7_shift_92 rfl ?_
          refine e_getR (r := 1) aX7_shift_93 fX7_10 ly_0 rfl ?_
          refine e_getR (r := 4) aX7_shift_96 fX7_121 ly_1 rfl ?_
          obtain ⟨M10, hM10, h⟩ := of_bind h
          refine e_SV [] aX7_shift_99 co_X7_copyRow mX7_175 (c_X7_copyRow l x ly_146 ly_4 hM10) rfl ⟨by decide, by decide⟩ (Nat.le_of_ble_eq_true rfl) rfl ?_
          refine e_aload_n aX7_shift_102 rfl ?_
          refine e_getR (r := 1) aX7_shift_103 fX7_10 ly_0 rfl ?_
          obtain ⟨r11, hr11, h⟩ := of_bind h
          refine e_VI [] aX7_shift_106 co_X2_tits mX7_190 ly_1 rfl rfl (c_X2_tits l x qa_1 hr11) rfl ⟨by decide, by decide⟩ (Nat.le_of_ble_eq_true rfl) rfl ?_
          exact e_retI aX7_shift_109 rfl rfl (pI_of h)
    · refine e_icmp_le (tgt := 12) aX7_shift_6 (by decide) (fun q => absurd q hc2) (fun _ => ?_)
      refine e_ldc aX7_shift_9 kX7_80 ?_
      exact e_retI aX7_shift_11 rfl rfl (pI_of h)
def f_X7_findRoots  (M : Mem) : Option Mem :=
  if M 0 12 = 0 then
    some M
  else
    (f_X7_findWays M).bind fun (M2 : Mem) =>
    (f_X3_learn M2).bind fun (M3 : Mem) =>
    lt (um M3 0 12 0) fun (M4 : Mem) =>
    some M4
set_option maxRecDepth 100000 in
set_option maxHeartbeats 4000000 in
theorem c_X7_findRoots (l : Launch) (x : WX)  {M : Mem} {r : Mem}  (h : f_X7_findRoots  M = some r) : Mt l x false yX7_findRoots cX7_findRoots 1 none 5 0 0 [.ref (x.2.2.1 + 0)] LAY M (pV r) := by
  refine mt_of (L0 := [some (.ref (x.2.2.1 + 0))]) (by decide +kernel) rfl (Nat.le_of_ble_eq_true rfl) (lvA_of 0 rfl) ?_
  unfold f_X7_findRoots at h
  refine e_aload_n aX7_findRoots_0 rfl ?_
  refine e_getI aX7_findRoots_1 fX7_76 ly_0 rfl ?_
  rcases of_ite h with ⟨hc1, h⟩ | ⟨hc1, h⟩
  · refine e_if_eq (tgt := 31) aX7_findRoots_4 (by decide) (fun _ => ?_) (fun q => absurd hc1 q)
    exact e_ret0 aX7_findRoots_31 rfl (pV_of h)
  · refine e_if_eq (tgt := 31) aX7_findRoots_4 (by decide) (fun q => absurd q hc1) (fun _ => ?_)
    refine e_aload_n aX7_findRoots_7 rfl ?_
    obtain ⟨M2, hM2, h⟩ := of_bind h
    refine e_VV [] aX7_findRoots_8 co_X7_findWays mX7_130 ly_0 rfl rfl (c_X7_findWays l x hM2) rfl ⟨by decide, by decide⟩ (Nat.le_of_ble_eq_true rfl) rfl ?_
    refine e_aload_n aX7_findRoots_11 rfl ?_
    refine e_getR (r := 57) aX7_findRoots_12 fX7_51 ly_0 rfl ?_
    refine e_aload_n aX7_findRoots_15 rfl ?_
    refine e_getR (r := 1) aX7_findRoots_16 fX7_10 ly_0 rfl ?_
    refine e_aload_n aX7_findRoots_19 rfl ?_
    refine e_getR (r := 47) aX7_findRoots_20 fX7_44 ly_0 rfl ?_
    obtain ⟨M3, hM3, h⟩ := of_bind h
    refine e_VV [] aX7_findRoots_23 co_X3_learn mX7_294 ly_57 rfl rfl (c_X3_learn l x hM3) rfl ⟨by decide, by decide⟩ (Nat.le_of_ble_eq_true rfl) rfl ?_
    refine e_aload_n aX7_findRoots_26 rfl ?_
    refine e_iconst (v := 0) aX7_findRoots_27 (by decide) ?_
    obtain ⟨M4, eM4, h⟩ := of_lt h
    refine e_put aX7_findRoots_28 qX7_76 ly_0 rfl (by decide +kernel) eM4 ?_
    exact e_ret0 aX7_findRoots_31 rfl (pV_of h)
def f_X7_take (i1 : Int32) (M : Mem) : Option (Int32 × Mem) :=
  (f_X7_findRoots M).bind fun (M1 : Mem) =>
  if M1 57 0 = 0 then
    some ((-1000003), M1)
  else
    (f_X3_has i1 M1).bind fun (r3 : Int32) =>
    if r3 = 0 then
      some ((-1000001), M1)
    else
      (f_X1_remember M1).bind fun (M5 : Mem) =>
      if i1 < 0 ∨ 36 ≤ i1.toNatClampNeg then none else
      (f_X7_copyRow (59 + i1.toNatClampNeg) 4 M5).bind fun (M7 : Mem) =>
      if i1 < 0 ∨ 36 ≤ i1.toNatClampNeg then none else
      some (M7 95 i1.toNatClampNeg, M7)
set_option maxRecDepth 100000 in
set_option maxHeartbeats 4000000 in
theorem c_X7_take (l : Launch) (x : WX) {i1 : Int32} {M : Mem} {r : (Int32 × Mem)}  (h : f_X7_take i1 M = some r) : Mt l x false yX7_take cX7_take 2 (some FieldType.int) 6 0 0 [.ref (x.2.2.1 + 0), .int i1] LAY M (pI r.1 r.2) := by
  refine mt_of (L0 := [some (.ref (x.2.2.1 + 0)), some (.int i1)]) (by decide +kernel) rfl (Nat.le_of_ble_eq_true rfl) (lvA_of 0 rfl) ?_
  unfold f_X7_take at h
  refine e_aload_n aX7_take_0 rfl ?_
  obtain ⟨M1, hM1, h⟩ := of_bind h
  refine e_VV [] aX7_take_1 co_X7_findRoots mX7_194 ly_0 rfl rfl (c_X7_findRoots l x hM1) rfl ⟨by decide, by decide⟩ (Nat.le_of_ble_eq_true rfl) rfl ?_
  refine e_aload_n aX7_take_4 rfl ?_
  refine e_getR (r := 57) aX7_take_5 fX7_51 ly_0 rfl ?_
  refine e_getI aX7_take_8 fX7_197 ly_57 rfl ?_
  rcases of_ite h with ⟨hc2, h⟩ | ⟨hc2, h⟩
  · refine e_if_ne (tgt := 17) aX7_take_11 (by decide) (fun q => absurd hc2 q) (fun _ => ?_)
    refine e_ldc aX7_take_14 kX7_97 ?_
    exact e_retI aX7_take_16 rfl rfl (pI_of h)
  · refine e_if_ne (tgt := 17) aX7_take_11 (by decide) (fun _ => ?_) (fun q => absurd q hc2)
    refine e_aload_n aX7_take_17 rfl ?_
    refine e_getR (r := 57) aX7_take_18 fX7_51 ly_0 rfl ?_
    refine e_iload_n aX7_take_21 rfl ?_
    obtain ⟨r3, hr3, h⟩ := of_bind h
    refine e_VI [] aX7_take_22 co_X3_has mX7_200 ly_57 rfl rfl (c_X3_has l x hr3) rfl ⟨by decide, by decide⟩ (Nat.le_of_ble_eq_true rfl) rfl ?_
    rcases of_ite h with ⟨hc4, h⟩ | ⟨hc4, h⟩
    · refine e_if_ne (tgt := 31) aX7_take_25 (by decide) (fun q => absurd hc4 q) (fun _ => ?_)
      refine e_ldc aX7_take_28 kX7_111 ?_
      exact e_retI aX7_take_30 rfl rfl (pI_of h)
    · refine e_if_ne (tgt := 31) aX7_take_25 (by decide) (fun _ => ?_) (fun q => absurd q hc4)
      refine e_aload_n aX7_take_31 rfl ?_
      refine e_getR (r := 9) aX7_take_32 fX7_22 ly_0 rfl ?_
      refine e_aload_n aX7_take_35 rfl ?_
      refine e_getR (r := 1) aX7_take_36 fX7_10 ly_0 rfl ?_
      obtain ⟨M5, hM5, h⟩ := of_bind h
      refine e_VV [] aX7_take_39 co_X1_remember mX7_154 ly_9 rfl rfl (c_X1_remember l x hM5) rfl ⟨by decide, by decide⟩ (Nat.le_of_ble_eq_true rfl) rfl ?_
      refine e_aload_n aX7_take_42 rfl ?_
      refine e_getR (r := 57) aX7_take_43 fX7_51 ly_0 rfl ?_
      refine e_getR (r := 58) aX7_take_46 fX7_203 ly_57 rfl ?_
      refine e_iload_n aX7_take_49 rfl ?_
      obtain ⟨hg6, h⟩ := of_guard h
      refine e_aald aX7_take_50 ly_58 (by decide) hg6 (ra_R _ (ix_lt hg6)) ?_
      refine e_aload_n aX7_take_51 rfl ?_
      refine e_getR (r := 1) aX7_take_52 fX7_10 ly_0 rfl ?_
      refine e_getR (r := 4) aX7_take_55 fX7_121 ly_1 rfl ?_
      obtain ⟨M7, hM7, h⟩ := of_bind h
      refine e_SV [] aX7_take_58 co_X7_copyRow mX7_175 (c_X7_copyRow l x (rr_R _ (ix_lt hg6)) ly_4 hM7) rfl ⟨by decide, by decide⟩ (Nat.le_of_ble_eq_true rfl) rfl ?_
      refine e_aload_n aX7_take_61 rfl ?_
      refine e_getR (r := 57) aX7_take_62 fX7_51 ly_0 rfl ?_
      refine e_getR (r := 95) aX7_take_65 fX7_206 ly_57 rfl ?_
      refine e_iload_n aX7_take_68 rfl ?_
      obtain ⟨hg8, h⟩ := of_guard h
      refine e_iald aX7_take_69 ly_95 hg8 ?_
      exact e_retI aX7_take_70 rfl rfl (pI_of h)
def f_X7_undo  (M : Mem) : Option (Int32 × Mem) :=
  if M 9 2 = 0 then
    some ((-1000003), M)
  else
    (f_X1_recall M).bind fun (M2 : Mem) =>
    (f_X7_arrowsChanged M2).bind fun (M3 : Mem) =>
    some (M3 9 2, M3)
set_option maxRecDepth 100000 in
set_option maxHeartbeats 4000000 in
theorem c_X7_undo (l : Launch) (x : WX)  {M : Mem} {r : (Int32 × Mem)}  (h : f_X7_undo  M = some r) : Mt l x false yX7_undo cX7_undo 1 (some FieldType.int) 4 0 0 [.ref (x.2.2.1 + 0)] LAY M (pI r.1 r.2) := by
  refine mt_of (L0 := [some (.ref (x.2.2.1 + 0))]) (by decide +kernel) rfl (Nat.le_of_ble_eq_true rfl) (lvA_of 0 rfl) ?_
  unfold f_X7_undo at h
  refine e_aload_n aX7_undo_0 rfl ?_
  refine e_getR (r := 9) aX7_undo_1 fX7_22 ly_0 rfl ?_
  refine e_getI aX7_undo_4 fX7_209 ly_9 rfl ?_
  rcases of_ite h with ⟨hc1, h⟩ | ⟨hc1, h⟩
  · refine e_if_ne (tgt := 13) aX7_undo_7 (by decide) (fun q => absurd hc1 q) (fun _ => ?_)
    refine e_ldc aX7_undo_10 kX7_97 ?_
    exact e_retI aX7_undo_12 rfl rfl (pI_of h)
  · refine e_if_ne (tgt := 13) aX7_undo_7 (by decide) (fun _ => ?_) (fun q => absurd q hc1)
    refine e_aload_n aX7_undo_13 rfl ?_
    refine e_getR (r := 9) aX7_undo_14 fX7_22 ly_0 rfl ?_
    refine e_aload_n aX7_undo_17 rfl ?_
    refine e_getR (r := 1) aX7_undo_18 fX7_10 ly_0 rfl ?_
    obtain ⟨M2, hM2, h⟩ := of_bind h
    refine e_VV [] aX7_undo_21 co_X1_recall mX7_212 ly_9 rfl rfl (c_X1_recall l x hM2) rfl ⟨by decide, by decide⟩ (Nat.le_of_ble_eq_true rfl) rfl ?_
    refine e_aload_n aX7_undo_24 rfl ?_
    obtain ⟨M3, hM3, h⟩ := of_bind h
    refine e_VV [] aX7_undo_25 co_X7_arrowsChanged mX7_101 ly_0 rfl rfl (c_X7_arrowsChanged l x hM3) rfl ⟨by decide, by decide⟩ (Nat.le_of_ble_eq_true rfl) rfl ?_
    refine e_aload_n aX7_undo_28 rfl ?_
    refine e_getR (r := 9) aX7_undo_29 fX7_22 ly_0 rfl ?_
    refine e_getI aX7_undo_32 fX7_209 ly_9 rfl ?_
    exact e_retI aX7_undo_35 rfl rfl (pI_of h)
def f_X7_isKeep (i0 : Int32) (M : Mem) : Option Int32 :=
  if i0 < 0 then
    some 0
  else
    if 2 ≤ i0 then
      some 0
    else
      some 1
set_option maxRecDepth 100000 in
set_option maxHeartbeats 4000000 in
theorem c_X7_isKeep (l : Launch) (x : WX) {i0 : Int32} {M : Mem} {r : Int32}  (h : f_X7_isKeep i0 M = some r) : Mt l x false yX7_isKeep cX7_isKeep 1 (some FieldType.boolean) 0 0 0 [.int i0] LAY M (pI r M) := by
  refine mt_of (L0 := [some (.int i0)]) (by decide +kernel) rfl (Nat.le_of_ble_eq_true rfl) (lvA_of 0 rfl) ?_
  unfold f_X7_isKeep at h
  refine e_iload_n aX7_isKeep_0 rfl ?_
  rcases of_ite h with ⟨hc1, h⟩ | ⟨hc1, h⟩
  · refine e_if_lt (tgt := 13) aX7_isKeep_1 (by decide) (fun _ => ?_) (fun q => absurd hc1 q)
    refine e_iconst (v := 0) aX7_isKeep_13 (by decide) ?_
    exact e_retI aX7_isKeep_14 rfl (by decide +kernel) (pI_ro h)
  · refine e_if_lt (tgt := 13) aX7_isKeep_1 (by decide) (fun q => absurd q hc1) (fun _ => ?_)
    refine e_iload_n aX7_isKeep_4 rfl ?_
    refine e_iconst (v := 2) aX7_isKeep_5 (by decide) ?_
    rcases of_ite h with ⟨hc2, h⟩ | ⟨hc2, h⟩
    · refine e_icmp_ge (tgt := 13) aX7_isKeep_6 (by decide) (fun _ => ?_) (fun q => absurd hc2 q)
      refine e_iconst (v := 0) aX7_isKeep_13 (by decide) ?_
      exact e_retI aX7_isKeep_14 rfl (by decide +kernel) (pI_ro h)
    · refine e_icmp_ge (tgt := 13) aX7_isKeep_6 (by decide) (fun q => absurd q hc2) (fun _ => ?_)
      refine e_iconst (v := 1) aX7_isKeep_9 (by decide) ?_
      refine e_goto (tgt := 14) aX7_isKeep_10 (by decide) ?_
      exact e_retI aX7_isKeep_14 rfl (by decide +kernel) (pI_ro h)
def f_X7_keep (i1 : Int32) (M : Mem) : Option (Int32 × Mem) :=
  (f_X7_isKeep i1 M).bind fun (r1 : Int32) =>
  if r1 = 0 then
    some ((-1000001), M)
  else
    if i1 < 0 ∨ 2 ≤ i1.toNatClampNeg then none else
    (f_X2_become (147 + 4 * i1.toNatClampNeg) 1 M).bind fun (M4 : Mem) =>
    if i1 < 0 ∨ 2 ≤ i1.toNatClampNeg then none else
    lt (um M4 44 i1.toNatClampNeg 1) fun (M6 : Mem) =>
    some (M6 1 1, M6)
set_option maxRecDepth 100000 in
set_option maxHeartbeats 4000000 in
theorem c_X7_keep (l : Launch) (x : WX) {i1 : Int32} {M : Mem} {r : (Int32 × Mem)}  (h : f_X7_keep i1 M = some r) : Mt l x false yX7_keep cX7_keep 2 (some FieldType.int) 3 0 0 [.ref (x.2.2.1 + 0), .int i1] LAY M (pI r.1 r.2) := by
  refine mt_of (L0 := [some (.ref (x.2.2.1 + 0)), some (.int i1)]) (by decide +kernel) rfl (Nat.le_of_ble_eq_true rfl) (lvA_of 0 rfl) ?_
  unfold f_X7_keep at h
  refine e_iload_n aX7_keep_0 rfl ?_
  obtain ⟨r1, hr1, h⟩ := of_bind h
  refine e_SI [] aX7_keep_1 co_X7_isKeep mX7_215 (c_X7_isKeep l x hr1) rfl ⟨by decide, by decide⟩ (Nat.le_of_ble_eq_true rfl) rfl ?_
  rcases of_ite h with ⟨hc2, h⟩ | ⟨hc2, h⟩
  · refine e_if_ne (tgt := 10) aX7_keep_4 (by decide) (fun q => absurd hc2 q) (fun _ => ?_)
    refine e_ldc aX7_keep_7 kX7_111 ?_
    exact e_retI aX7_keep_9 rfl rfl (pI_of h)
  · refine e_if_ne (tgt := 10) aX7_keep_4 (by decide) (fun _ => ?_) (fun q => absurd q hc2)
    refine e_aload_n aX7_keep_10 rfl ?_
    refine e_getR (r := 43) aX7_keep_11 fX7_26 ly_0 rfl ?_
    refine e_iload_n aX7_keep_14 rfl ?_
    obtain ⟨hg3, h⟩ := of_guard h
    refine e_aald aX7_keep_15 ly_43 (by decide) hg3 (ra_K _ (ix_lt hg3)) ?_
    refine e_aload_n aX7_keep_16 rfl ?_
    refine e_getR (r := 1) aX7_keep_17 fX7_10 ly_0 rfl ?_
    obtain ⟨M4, hM4, h⟩ := of_bind h
    refine e_VV [] aX7_keep_20 co_X2_become mX7_89 (qa_K _ (ix_lt hg3)).1 rfl rfl (c_X2_become l x (qa_K _ (ix_lt hg3)) qa_1 hM4) rfl ⟨by decide, by decide⟩ (Nat.le_of_ble_eq_true rfl) rfl ?_
    refine e_aload_n aX7_keep_23 rfl ?_
    refine e_getR (r := 44) aX7_keep_24 fX7_30 ly_0 rfl ?_
    refine e_iload_n aX7_keep_27 rfl ?_
    refine e_iconst (v := 1) aX7_keep_28 (by decide) ?_
    obtain ⟨hg5, h⟩ := of_guard h
    obtain ⟨M6, eM6, h⟩ := of_lt h
    refine e_zst aX7_keep_29 ly_44 hg5 (by decide +kernel) eM6 ?_
    refine e_aload_n aX7_keep_30 rfl ?_
    refine e_getR (r := 1) aX7_keep_31 fX7_10 ly_0 rfl ?_
    refine e_getI aX7_keep_34 fX7_151 ly_1 rfl ?_
    exact e_retI aX7_keep_37 rfl rfl (pI_of h)
def f_X7_back (i1 : Int32) (M : Mem) : Option (Int32 × Mem) :=
  (f_X7_isKeep i1 M).bind fun (r1 : Int32) =>
  if r1 = 0 then
    some ((-1000001), M)
  else
    if i1 < 0 ∨ 2 ≤ i1.toNatClampNeg then none else
    if M 44 i1.toNatClampNeg = 0 then
      some ((-1000003), M)
    else
      if i1 < 0 ∨ 2 ≤ i1.toNatClampNeg then none else
      (f_X2_become 1 (147 + 4 * i1.toNatClampNeg) M).bind fun (M6 : Mem) =>
      (f_X1_forget M6).bind fun (M7 : Mem) =>
      (f_X7_arrowsChanged M7).bind fun (M8 : Mem) =>
      some (M8 1 1, M8)
set_option maxRecDepth 100000 in
set_option maxHeartbeats 4000000 in
theorem c_X7_back (l : Launch) (x : WX) {i1 : Int32} {M : Mem} {r : (Int32 × Mem)}  (h : f_X7_back i1 M = some r) : Mt l x false yX7_back cX7_back 2 (some FieldType.int) 3 0 0 [.ref (x.2.2.1 + 0), .int i1] LAY M (pI r.1 r.2) := by
  refine mt_of (L0 := [some (.ref (x.2.2.1 + 0)), some (.int i1)]) (by decide +kernel) rfl (Nat.le_of_ble_eq_true rfl) (lvA_of 0 rfl) ?_
  unfold f_X7_back at h
  refine e_iload_n aX7_back_0 rfl ?_
  obtain ⟨r1, hr1, h⟩ := of_bind h
  refine e_SI [] aX7_back_1 co_X7_isKeep mX7_215 (c_X7_isKeep l x hr1) rfl ⟨by decide, by decide⟩ (Nat.le_of_ble_eq_true rfl) rfl ?_
  rcases of_ite h with ⟨hc2, h⟩ | ⟨hc2, h⟩
  · refine e_if_ne (tgt := 10) aX7_back_4 (by decide) (fun q => absurd hc2 q) (fun _ => ?_)
    refine e_ldc aX7_back_7 kX7_111 ?_
    exact e_retI aX7_back_9 rfl rfl (pI_of h)
  · refine e_if_ne (tgt := 10) aX7_back_4 (by decide) (fun _ => ?_) (fun q => absurd q hc2)
    refine e_aload_n aX7_back_10 rfl ?_
    refine e_getR (r := 44) aX7_back_11 fX7_30 ly_0 rfl ?_
    refine e_iload_n aX7_back_14 rfl ?_
    obtain ⟨hg3, h⟩ := of_guard h
    refine e_zald aX7_back_15 ly_44 hg3 ?_
    rcases of_ite h with ⟨hc4, h⟩ | ⟨hc4, h⟩
    · refine e_if_ne (tgt := 22) aX7_back_16 (by decide) (fun q => absurd hc4 q) (fun _ => ?_)
      refine e_ldc aX7_back_19 kX7_97 ?_
      exact e_retI aX7_back_21 rfl rfl (pI_of h)
    · refine e_if_ne (tgt := 22) aX7_back_16 (by decide) (fun _ => ?_) (fun q => absurd q hc4)
      refine e_aload_n aX7_back_22 rfl ?_
      refine e_getR (r := 1) aX7_back_23 fX7_10 ly_0 rfl ?_
      refine e_aload_n aX7_back_26 rfl ?_
      refine e_getR (r := 43) aX7_back_27 fX7_26 ly_0 rfl ?_
      refine e_iload_n aX7_back_30 rfl ?_
      obtain ⟨hg5, h⟩ := of_guard h
      refine e_aald aX7_back_31 ly_43 (by decide) hg5 (ra_K _ (ix_lt hg5)) ?_
      obtain ⟨M6, hM6, h⟩ := of_bind h
      refine e_VV [] aX7_back_32 co_X2_become mX7_89 ly_1 rfl rfl (c_X2_become l x qa_1 (qa_K _ (ix_lt hg5)) hM6) rfl ⟨by decide, by decide⟩ (Nat.le_of_ble_eq_true rfl) rfl ?_
      refine e_aload_n aX7_back_35 rfl ?_
      refine e_getR (r := 9) aX7_back_36 fX7_22 ly_0 rfl ?_
      obtain ⟨M7, hM7, h⟩ := of_bind h
      refine e_VV [] aX7_back_39 co_X1_forget mX7_98 ly_9 rfl rfl (c_X1_forget l x hM7) rfl ⟨by decide, by decide⟩ (Nat.le_of_ble_eq_true rfl) rfl ?_
      refine e_aload_n aX7_back_42 rfl ?_
      obtain ⟨M8, hM8, h⟩ := of_bind h
      refine e_VV [] aX7_back_43 co_X7_arrowsChanged mX7_101 ly_0 rfl rfl (c_X7_arrowsChanged l x hM8) rfl ⟨by decide, by decide⟩ (Nat.le_of_ble_eq_true rfl) rfl ?_
      refine e_aload_n aX7_back_46 rfl ?_
      refine e_getR (r := 1) aX7_back_47 fX7_10 ly_0 rfl ?_
      refine e_getI aX7_back_50 fX7_151 ly_1 rfl ?_
      exact e_retI aX7_back_53 rfl rfl (pI_of h)
def f_X7_turned (i1 : Int32) (M : Mem) : Option Int32 :=
  (f_X2_hasPoint 1 i1 M).bind fun (r1 : Int32) =>
  if r1 = 0 then
    some (-1000001)
  else
    (f_X2_turnedAbout 1 4 i1 M).bind fun (r3 : Int32) =>
    some r3
set_option maxRecDepth 100000 in
set_option maxHeartbeats 4000000 in
theorem c_X7_turned (l : Launch) (x : WX) {i1 : Int32} {M : Mem} {r : Int32}  (h : f_X7_turned i1 M = some r) : Mt l x false yX7_turned cX7_turned 2 (some FieldType.int) 1 0 0 [.ref (x.2.2.1 + 0), .int i1] LAY M (pI r M) := by
  refine mt_of (L0 := [some (.ref (x.2.2.1 + 0)), some (.int i1)]) (by decide +kernel) rfl (Nat.le_of_ble_eq_true rfl) (lvA_of 0 rfl) ?_
  unfold f_X7_turned at h
  refine e_aload_n aX7_turned_0 rfl ?_
  refine e_getR (r := 1) aX7_turned_1 fX7_10 ly_0 rfl ?_
  refine e_iload_n aX7_turned_4 rfl ?_
  obtain ⟨r1, hr1, h⟩ := of_bind h
  refine e_VI [] aX7_turned_5 co_X2_hasPoint mX7_118 ly_1 rfl rfl (c_X2_hasPoint l x qa_1 hr1) rfl ⟨by decide, by decide⟩ (Nat.le_of_ble_eq_true rfl) rfl ?_
  rcases of_ite h with ⟨hc2, h⟩ | ⟨hc2, h⟩
  · refine e_if_ne (tgt := 14) aX7_turned_8 (by decide) (fun q => absurd hc2 q) (fun _ => ?_)
    refine e_ldc aX7_turned_11 kX7_111 ?_
    exact e_retI aX7_turned_13 rfl rfl (pI_ro h)
  · refine e_if_ne (tgt := 14) aX7_turned_8 (by decide) (fun _ => ?_) (fun q => absurd q hc2)
    refine e_aload_n aX7_turned_14 rfl ?_
    refine e_getR (r := 1) aX7_turned_15 fX7_10 ly_0 rfl ?_
    refine e_aload_n aX7_turned_18 rfl ?_
    refine e_getR (r := 1) aX7_turned_19 fX7_10 ly_0 rfl ?_
    refine e_getR (r := 4) aX7_turned_22 fX7_121 ly_1 rfl ?_
    refine e_iload_n aX7_turned_25 rfl ?_
    obtain ⟨r3, hr3, h⟩ := of_bind h
    refine e_VI [] aX7_turned_26 co_X2_turnedAbout mX7_165 ly_1 rfl rfl (c_X2_turnedAbout l x qa_1 ly_4 hr3) rfl ⟨by decide, by decide⟩ (Nat.le_of_ble_eq_true rfl) rfl ?_
    exact e_retI aX7_turned_29 rfl rfl (pI_ro h)
def f_X7_root (i1 : Int32) (i2 : Int32) (M : Mem) : Option (Int32 × Mem) :=
  (f_X7_findRoots M).bind fun (M1 : Mem) =>
  if M1 57 0 = 0 then
    some ((-1000003), M1)
  else
    (f_X3_has i1 M1).bind fun (r3 : Int32) =>
    if r3 = 0 then
      some ((-1000001), M1)
    else
      (f_X2_hasPoint 1 i2 M1).bind fun (r5 : Int32) =>
      if r5 = 0 then
        some ((-1000001), M1)
      else
        if i1 < 0 ∨ 36 ≤ i1.toNatClampNeg then none else
        if i2 < 0 ∨ 6 ≤ i2.toNatClampNeg then none else
        some (M1 (59 + i1.toNatClampNeg) i2.toNatClampNeg, M1)
set_option maxRecDepth 100000 in
set_option maxHeartbeats 4000000 in
theorem c_X7_root (l : Launch) (x : WX) {i1 : Int32} {i2 : Int32} {M : Mem} {r : (Int32 × Mem)}  (h : f_X7_root i1 i2 M = some r) : Mt l x false yX7_root cX7_root 3 (some FieldType.int) 6 0 0 [.ref (x.2.2.1 + 0), .int i1, .int i2] LAY M (pI r.1 r.2) := by
  refine mt_of (L0 := [some (.ref (x.2.2.1 + 0)), some (.int i1), some (.int i2)]) (by decide +kernel) rfl (Nat.le_of_ble_eq_true rfl) (lvA_of 0 rfl) ?_
  unfold f_X7_root at h
  refine e_aload_n aX7_root_0 rfl ?_
  obtain ⟨M1, hM1, h⟩ := of_bind h
  refine e_VV [] aX7_root_1 co_X7_findRoots mX7_194 ly_0 rfl rfl (c_X7_findRoots l x hM1) rfl ⟨by decide, by decide⟩ (Nat.le_of_ble_eq_true rfl) rfl ?_
  refine e_aload_n aX7_root_4 rfl ?_
  refine e_getR (r := 57) aX7_root_5 fX7_51 ly_0 rfl ?_
  refine e_getI aX7_root_8 fX7_197 ly_57 rfl ?_
  rcases of_ite h with ⟨hc2, h⟩ | ⟨hc2, h⟩
  · refine e_if_ne (tgt := 17) aX7_root_11 (by decide) (fun q => absurd hc2 q) (fun _ => ?_)
    refine e_ldc aX7_root_14 kX7_97 ?_
    exact e_retI aX7_root_16 rfl rfl (pI_of h)
  · refine e_if_ne (tgt := 17) aX7_root_11 (by decide) (fun _ => ?_) (fun q => absurd q hc2)
    refine e_aload_n aX7_root_17 rfl ?_
    refine e_getR (r := 57) aX7_root_18 fX7_51 ly_0 rfl ?_
    refine e_iload_n aX7_root_21 rfl ?_
    obtain ⟨r3, hr3, h⟩ := of_bind h
    refine e_VI [] aX7_root_22 co_X3_has mX7_200 ly_57 rfl rfl (c_X3_has l x hr3) rfl ⟨by decide, by decide⟩ (Nat.le_of_ble_eq_true rfl) rfl ?_
    rcases of_ite h with ⟨hc4, h⟩ | ⟨hc4, h⟩
    · refine e_if_eq (tgt := 39) aX7_root_25 (by decide) (fun _ => ?_) (fun q => absurd hc4 q)
      refine e_ldc aX7_root_39 kX7_111 ?_
      exact e_retI aX7_root_41 rfl rfl (pI_of h)
    · refine e_if_eq (tgt := 39) aX7_root_25 (by decide) (fun q => absurd q hc4) (fun _ => ?_)
      refine e_aload_n aX7_root_28 rfl ?_
      refine e_getR (r := 1) aX7_root_29 fX7_10 ly_0 rfl ?_
      refine e_iload_n aX7_root_32 rfl ?_
      obtain ⟨r5, hr5, h⟩ := of_bind h
      refine e_VI [] aX7_root_33 co_X2_hasPoint mX7_118 ly_1 rfl rfl (c_X2_hasPoint l x qa_1 hr5) rfl ⟨by decide, by decide⟩ (Nat.le_of_ble_eq_true rfl) rfl ?_
      rcases of_ite h with ⟨hc6, h⟩ | ⟨hc6, h⟩
      · refine e_if_ne (tgt := 42) aX7_root_36 (by decide) (fun q => absurd hc6 q) (fun _ => ?_)
        refine e_ldc aX7_root_39 kX7_111 ?_
        exact e_retI aX7_root_41 rfl rfl (pI_of h)
      · refine e_if_ne (tgt := 42) aX7_root_36 (by decide) (fun _ => ?_) (fun q => absurd q hc6)
        refine e_aload_n aX7_root_42 rfl ?_
        refine e_getR (r := 57) aX7_root_43 fX7_51 ly_0 rfl ?_
        refine e_getR (r := 58) aX7_root_46 fX7_203 ly_57 rfl ?_
        refine e_iload_n aX7_root_49 rfl ?_
        obtain ⟨hg7, h⟩ := of_guard h
        refine e_aald aX7_root_50 ly_58 (by decide) hg7 (ra_R _ (ix_lt hg7)) ?_
        refine e_iload_n aX7_root_51 rfl ?_
        obtain ⟨hg8, h⟩ := of_guard h
        refine e_iald aX7_root_52 (rr_R _ (ix_lt hg7)) hg8 ?_
        exact e_retI aX7_root_53 rfl rfl (pI_of h)
def f_X7_place (i1 : Int32) (i2 : Int32) (M : Mem) : Option (Int32 × Mem) :=
  (f_X7_findRoots M).bind fun (M1 : Mem) =>
  if M1 57 0 = 0 then
    some ((-1000003), M1)
  else
    (f_X3_has i1 M1).bind fun (r3 : Int32) =>
    if r3 = 0 then
      some ((-1000001), M1)
    else
      if i2 = 0 then
        if i1 < 0 ∨ 36 ≤ i1.toNatClampNeg then none else
        some (M1 95 i1.toNatClampNeg, M1)
      else if i2 = 1 then
        if i1 < 0 ∨ 36 ≤ i1.toNatClampNeg then none else
        some (M1 96 i1.toNatClampNeg, M1)
      else if i2 = 2 then
        if i1 < 0 ∨ 36 ≤ i1.toNatClampNeg then none else
        some (M1 97 i1.toNatClampNeg, M1)
      else if i2 = 3 then
        if i1 < 0 ∨ 36 ≤ i1.toNatClampNeg then none else
        some (M1 98 i1.toNatClampNeg, M1)
      else if i2 = 4 then
        (f_X3_meshTotal i1 M1).bind fun (r15 : Int32) =>
        some (r15, M1)
      else if i2 = 5 then
        if i1 < 0 ∨ 36 ≤ i1.toNatClampNeg then none else
        if M1 99 i1.toNatClampNeg = (-1) then
          some ((-1000000), M1)
        else
          if i1 < 0 ∨ 36 ≤ i1.toNatClampNeg then none else
          some (M1 99 i1.toNatClampNeg, M1)
      else 
        some ((-1000002), M1)
set_option maxRecDepth 100000 in
set_option maxHeartbeats 4000000 in
theorem c_X7_place (l : Launch) (x : WX) {i1 : Int32} {i2 : Int32} {M : Mem} {r : (Int32 × Mem)}  (h : f_X7_place i1 i2 M = some r) : Mt l x false yX7_place cX7_place 3 (some FieldType.int) 6 0 0 [.ref (x.2.2.1 + 0), .int i1, .int i2] LAY M (pI r.1 r.2) := by
  refine mt_of (L0 := [some (.ref (x.2.2.1 + 0)), some (.int i1), some (.int i2)]) (by decide +kernel) rfl (Nat.le_of_ble_eq_true rfl) (lvA_of 0 rfl) ?_
  unfold f_X7_place at h
  refine e_aload_n aX7_place_0 rfl ?_
  obtain ⟨M1, hM1, h⟩ := of_bind h
  refine e_VV [] aX7_place_1 co_X7_findRoots mX7_194 ly_0 rfl rfl (c_X7_findRoots l x hM1) rfl ⟨by decide, by decide⟩ (Nat.le_of_ble_eq_true rfl) rfl ?_
  refine e_aload_n aX7_place_4 rfl ?_
  refine e_getR (r := 57) aX7_place_5 fX7_51 ly_0 rfl ?_
  refine e_getI aX7_place_8 fX7_197 ly_57 rfl ?_
  rcases of_ite h with ⟨hc2, h⟩ | ⟨hc2, h⟩
  · refine e_if_ne (tgt := 17) aX7_place_11 (by decide) (fun q => absurd hc2 q) (fun _ => ?_)
    refine e_ldc aX7_place_14 kX7_97 ?_
    exact e_retI aX7_place_16 rfl rfl (pI_of h)
  · refine e_if_ne (tgt := 17) aX7_place_11 (by decide) (fun _ => ?_) (fun q => absurd q hc2)
    refine e_aload_n aX7_place_17 rfl ?_
    refine e_getR (r := 57) aX7_place_18 fX7_51 ly_0 rfl ?_
    refine e_iload_n aX7_place_21 rfl ?_
    obtain ⟨r3, hr3, h⟩ := of_bind h
    refine e_VI [] aX7_place_22 co_X3_has mX7_200 ly_57 rfl rfl (c_X3_has l x hr3) rfl ⟨by decide, by decide⟩ (Nat.le_of_ble_eq_true rfl) rfl ?_
    rcases of_ite h with ⟨hc4, h⟩ | ⟨hc4, h⟩
    · refine e_if_ne (tgt := 31) aX7_place_25 (by decide) (fun q => absurd hc4 q) (fun _ => ?_)
      refine e_ldc aX7_place_28 kX7_111 ?_
      exact e_retI aX7_place_30 rfl rfl (pI_of h)
    · refine e_if_ne (tgt := 31) aX7_place_25 (by decide) (fun _ => ?_) (fun q => absurd q hc4)
      refine e_iload_n aX7_place_31 rfl ?_
      rcases of_ite h with ⟨hc5, h⟩ | ⟨hc5, h⟩
      · refine e_tableIn (off := 40) (tgt := 72) aX7_place_32 (by rw [hc5]; decide) (by rw [hc5]; decide) (by rw [hc5]; rfl) (by decide) ?_
        refine e_aload_n aX7_place_72 rfl ?_
        refine e_getR (r := 57) aX7_place_73 fX7_51 ly_0 rfl ?_
        refine e_getR (r := 95) aX7_place_76 fX7_206 ly_57 rfl ?_
        refine e_iload_n aX7_place_79 rfl ?_
        obtain ⟨hg11, h⟩ := of_guard h
        refine e_iald aX7_place_80 ly_95 hg11 ?_
        exact e_retI aX7_place_81 rfl rfl (pI_of h)
      · rcases of_ite h with ⟨hc6, h⟩ | ⟨hc6, h⟩
        · refine e_tableIn (off := 50) (tgt := 82) aX7_place_32 (by rw [hc6]; decide) (by rw [hc6]; decide) (by rw [hc6]; rfl) (by decide) ?_
          refine e_aload_n aX7_place_82 rfl ?_
          refine e_getR (r := 57) aX7_place_83 fX7_51 ly_0 rfl ?_
          refine e_getR (r := 96) aX7_place_86 fX7_218 ly_57 rfl ?_
          refine e_iload_n aX7_place_89 rfl ?_
          obtain ⟨hg12, h⟩ := of_guard h
          refine e_iald aX7_place_90 ly_96 hg12 ?_
          exact e_retI aX7_place_91 rfl rfl (pI_of h)
        · rcases of_ite h with ⟨hc7, h⟩ | ⟨hc7, h⟩
          · refine e_tableIn (off := 60) (tgt := 92) aX7_place_32 (by rw [hc7]; decide) (by rw [hc7]; decide) (by rw [hc7]; rfl) (by decide) ?_
            refine e_aload_n aX7_place_92 rfl ?_
            refine e_getR (r := 57) aX7_place_93 fX7_51 ly_0 rfl ?_
            refine e_getR (r := 97) aX7_place_96 fX7_221 ly_57 rfl ?_
            refine e_iload_n aX7_place_99 rfl ?_
            obtain ⟨hg13, h⟩ := of_guard h
            refine e_iald aX7_place_100 ly_97 hg13 ?_
            exact e_retI aX7_place_101 rfl rfl (pI_of h)
          · rcases of_ite h with ⟨hc8, h⟩ | ⟨hc8, h⟩
            · refine e_tableIn (off := 70) (tgt := 102) aX7_place_32 (by rw [hc8]; decide) (by rw [hc8]; decide) (by rw [hc8]; rfl) (by decide) ?_
              refine e_aload_n aX7_place_102 rfl ?_
              refine e_getR (r := 57) aX7_place_103 fX7_51 ly_0 rfl ?_
              refine e_getR (r := 98) aX7_place_106 fX7_224 ly_57 rfl ?_
              refine e_iload_n aX7_place_109 rfl ?_
              obtain ⟨hg14, h⟩ := of_guard h
              refine e_iald aX7_place_110 ly_98 hg14 ?_
              exact e_retI aX7_place_111 rfl rfl (pI_of h)
            · rcases of_ite h with ⟨hc9, h⟩ | ⟨hc9, h⟩
              · refine e_tableIn (off := 80) (tgt := 112) aX7_place_32 (by rw [hc9]; decide) (by rw [hc9]; decide) (by rw [hc9]; rfl) (by decide) ?_
                refine e_aload_n aX7_place_112 rfl ?_
                refine e_getR (r := 57) aX7_place_113 fX7_51 ly_0 rfl ?_
                refine e_iload_n aX7_place_116 rfl ?_
                obtain ⟨r15, hr15, h⟩ := of_bind h
                refine e_VI [] aX7_place_117 co_X3_meshTotal mX7_227 ly_57 rfl rfl (c_X3_meshTotal l x hr15) rfl ⟨by decide, by decide⟩ (Nat.le_of_ble_eq_true rfl) rfl ?_
                exact e_retI aX7_place_120 rfl rfl (pI_of h)
              · rcases of_ite h with ⟨hc10, h⟩ | ⟨hc10, h⟩
                · refine e_tableIn (off := 89) (tgt := 121) aX7_place_32 (by rw [hc10]; decide) (by rw [hc10]; decide) (by rw [hc10]; rfl) (by decide) ?_
                  refine e_aload_n aX7_place_121 rfl ?_
                  refine e_getR (r := 57) aX7_place_122 fX7_51 ly_0 rfl ?_
                  refine e_getR (r := 99) aX7_place_125 fX7_230 ly_57 rfl ?_
                  refine e_iload_n aX7_place_128 rfl ?_
                  obtain ⟨hg16, h⟩ := of_guard h
                  refine e_iald aX7_place_129 ly_99 hg16 ?_
                  refine e_iconst (v := (-1)) aX7_place_130 (by decide) ?_
                  rcases of_ite h with ⟨hc17, h⟩ | ⟨hc17, h⟩
                  · refine e_icmp_ne (tgt := 139) aX7_place_131 (by decide) (fun q => absurd hc17 q) (fun _ => ?_)
                    refine e_ldc aX7_place_134 kX7_233 ?_
                    refine e_goto (tgt := 148) aX7_place_136 (by decide) ?_
                    exact e_retI aX7_place_148 rfl rfl (pI_of h)
                  · refine e_icmp_ne (tgt := 139) aX7_place_131 (by decide) (fun _ => ?_) (fun q => absurd q hc17)
                    refine e_aload_n aX7_place_139 rfl ?_
                    refine e_getR (r := 57) aX7_place_140 fX7_51 ly_0 rfl ?_
                    refine e_getR (r := 99) aX7_place_143 fX7_230 ly_57 rfl ?_
                    refine e_iload_n aX7_place_146 rfl ?_
                    obtain ⟨hg18, h⟩ := of_guard h
                    refine e_iald aX7_place_147 ly_99 hg18 ?_
                    exact e_retI aX7_place_148 rfl rfl (pI_of h)
                · refine e_tableOut (tgt := 149) aX7_place_32 (sw_out (n := 5) (by decide) (fun c hc => match c, hc with | 0, _ => hc5 | 1, _ => hc6 | 2, _ => hc7 | 3, _ => hc8 | 4, _ => hc9 | 5, _ => hc10 | c + 6, hc => absurd hc (by omega))) (by decide) ?_
                  refine e_ldc aX7_place_149 kX7_80 ?_
                  exact e_retI aX7_place_151 rfl rfl (pI_of h)
def f_X7_between (i1 : Int32) (i2 : Int32) (i3 : Int32) (M : Mem) : Option (Int32 × Mem) :=
  (f_X7_findRoots M).bind fun (M1 : Mem) =>
  if M1 57 0 = 0 then
    some ((-1000003), M1)
  else
    (f_X3_has i1 M1).bind fun (r3 : Int32) =>
    if r3 = 0 then
      some ((-1000001), M1)
    else
      (f_X3_has i2 M1).bind fun (r5 : Int32) =>
      if r5 = 0 then
        some ((-1000001), M1)
      else
        if i3 < 0 then
          some ((-1000002), M1)
        else
          if i3 ≤ 2 then
            if i1 < 0 ∨ 36 ≤ i1.toNatClampNeg then none else
            if i2 < 0 ∨ 36 ≤ i2.toNatClampNeg then none else
            (f_X2_eulerOf 1 (59 + i1.toNatClampNeg) (59 + i2.toNatClampNeg) M1).bind fun (r11 : Int32) =>
            if i3 = 0 then
              some (mx r11 0, M1)
            else
              if i3 = 1 then
                some (mx (-r11) 0, M1)
              else
                some (r11, M1)
          else
            some ((-1000002), M1)
set_option maxRecDepth 100000 in
set_option maxHeartbeats 4000000 in
theorem c_X7_between (l : Launch) (x : WX) {i1 : Int32} {i2 : Int32} {i3 : Int32} {M : Mem} {r : (Int32 × Mem)}  (h : f_X7_between i1 i2 i3 M = some r) : Mt l x false yX7_between cX7_between 5 (some FieldType.int) 6 0 0 [.ref (x.2.2.1 + 0), .int i1, .int i2, .int i3] LAY M (pI r.1 r.2) := by
  refine mt_of (L0 := [some (.ref (x.2.2.1 + 0)), some (.int i1), some (.int i2), some (.int i3), none]) (by decide +kernel) rfl (Nat.le_of_ble_eq_true rfl) (lvA_of 1 rfl) ?_
  unfold f_X7_between at h
  refine e_aload_n aX7_between_0 rfl ?_
  obtain ⟨M1, hM1, h⟩ := of_bind h
  refine e_VV [] aX7_between_1 co_X7_findRoots mX7_194 ly_0 rfl rfl (c_X7_findRoots l x hM1) rfl ⟨by decide, by decide⟩ (Nat.le_of_ble_eq_true rfl) rfl ?_
  refine e_aload_n aX7_between_4 rfl ?_
  refine e_getR (r := 57) aX7_between_5 fX7_51 ly_0 rfl ?_
  refine e_getI aX7_between_8 fX7_197 ly_57 rfl ?_
  rcases of_ite h with ⟨hc2, h⟩ | ⟨hc2, h⟩
  · refine e_if_ne (tgt := 17) aX7_between_11 (by decide) (fun q => absurd hc2 q) (fun _ => ?_)
    refine e_ldc aX7_between_14 kX7_97 ?_
    exact e_retI aX7_between_16 rfl rfl (pI_of h)
  · refine e_if_ne (tgt := 17) aX7_between_11 (by decide) (fun _ => ?_) (fun q => absurd q hc2)
    refine e_aload_n aX7_between_17 rfl ?_
    refine e_getR (r := 57) aX7_between_18 fX7_51 ly_0 rfl ?_
    refine e_iload_n aX7_between_21 rfl ?_
    obtain ⟨r3, hr3, h⟩ := of_bind h
    refine e_VI [] aX7_between_22 co_X3_has mX7_200 ly_57 rfl rfl (c_X3_has l x hr3) rfl ⟨by decide, by decide⟩ (Nat.le_of_ble_eq_true rfl) rfl ?_
    rcases of_ite h with ⟨hc4, h⟩ | ⟨hc4, h⟩
    · refine e_if_eq (tgt := 39) aX7_between_25 (by decide) (fun _ => ?_) (fun q => absurd hc4 q)
      refine e_ldc aX7_between_39 kX7_111 ?_
      exact e_retI aX7_between_41 rfl rfl (pI_of h)
    · refine e_if_eq (tgt := 39) aX7_between_25 (by decide) (fun q => absurd q hc4) (fun _ => ?_)
      refine e_aload_n aX7_between_28 rfl ?_
      refine e_getR (r := 57) aX7_between_29 fX7_51 ly_0 rfl ?_
      refine e_iload_n aX7_between_32 rfl ?_
      obtain ⟨r5, hr5, h⟩ := of_bind h
      refine e_VI [] aX7_between_33 co_X3_has mX7_200 ly_57 rfl rfl (c_X3_has l x hr5) rfl ⟨by decide, by decide⟩ (Nat.le_of_ble_eq_true rfl) rfl ?_
      rcases of_ite h with ⟨hc6, h⟩ | ⟨hc6, h⟩
      · refine e_if_ne (tgt := 42) aX7_between_36 (by decide) (fun q => absurd hc6 q) (fun _ => ?_)
        refine e_ldc aX7_between_39 kX7_111 ?_
        exact e_retI aX7_between_41 rfl rfl (pI_of h)
      · refine e_if_ne (tgt := 42) aX7_between_36 (by decide) (fun _ => ?_) (fun q => absurd q hc6)
        refine e_iload_n aX7_between_42 rfl ?_
        rcases of_ite h with ⟨hc7, h⟩ | ⟨hc7, h⟩
        · refine e_if_lt (tgt := 51) aX7_between_43 (by decide) (fun _ => ?_) (fun q => absurd hc7 q)
          refine e_ldc aX7_between_51 kX7_80 ?_
          exact e_retI aX7_between_53 rfl rfl (pI_of h)
        · refine e_if_lt (tgt := 51) aX7_between_43 (by decide) (fun q => absurd q hc7) (fun _ => ?_)
          refine e_iload_n aX7_between_46 rfl ?_
          refine e_iconst (v := 2) aX7_between_47 (by decide) ?_
          rcases of_ite h with ⟨hc8, h⟩ | ⟨hc8, h⟩
          · refine e_icmp_le (tgt := 54) aX7_between_48 (by decide) (fun _ => ?_) (fun q => absurd hc8 q)
            refine e_aload_n aX7_between_54 rfl ?_
            refine e_getR (r := 1) aX7_between_55 fX7_10 ly_0 rfl ?_
            refine e_aload_n aX7_between_58 rfl ?_
            refine e_getR (r := 57) aX7_between_59 fX7_51 ly_0 rfl ?_
            refine e_getR (r := 58) aX7_between_62 fX7_203 ly_57 rfl ?_
            refine e_iload_n aX7_between_65 rfl ?_
            obtain ⟨hg9, h⟩ := of_guard h
            refine e_aald aX7_between_66 ly_58 (by decide) hg9 (ra_R _ (ix_lt hg9)) ?_
            refine e_aload_n aX7_between_67 rfl ?_
            refine e_getR (r := 57) aX7_between_68 fX7_51 ly_0 rfl ?_
            refine e_getR (r := 58) aX7_between_71 fX7_203 ly_57 rfl ?_
            refine e_iload_n aX7_between_74 rfl ?_
            obtain ⟨hg10, h⟩ := of_guard h
            refine e_aald aX7_between_75 ly_58 (by decide) hg10 (ra_R _ (ix_lt hg10)) ?_
            obtain ⟨r11, hr11, h⟩ := of_bind h
            refine e_VI [] aX7_between_76 co_X2_eulerOf mX7_234 ly_1 rfl rfl (c_X2_eulerOf l x qa_1 (rr_R _ (ix_lt hg9)) (rr_R _ (ix_lt hg10)) hr11) rfl ⟨by decide, by decide⟩ (Nat.le_of_ble_eq_true rfl) rfl ?_
            refine e_istore (L2 := [some (.ref (x.2.2.1 + 0)), some (.int i1), some (.int i2), some (.int i3), some (.int r11)]) aX7_between_79 ⟨by decide, rfl⟩ rfl ?_
            refine e_iload_n aX7_between_81 rfl ?_
            rcases of_ite h with ⟨hc12, h⟩ | ⟨hc12, h⟩
            · refine e_if_ne (tgt := 92) aX7_between_82 (by decide) (fun q => absurd hc12 q) (fun _ => ?_)
              refine e_iload aX7_between_85 rfl ?_
              refine e_iconst (v := 0) aX7_between_87 (by decide) ?_
              refine e_max aX7_between_88 mX7_238 (by decide) (Nat.le_of_ble_eq_true rfl) ?_
              exact e_retI aX7_between_91 rfl rfl (pI_of h)
            · refine e_if_ne (tgt := 92) aX7_between_82 (by decide) (fun _ => ?_) (fun q => absurd q hc12)
              refine e_iload_n aX7_between_92 rfl ?_
              refine e_iconst (v := 1) aX7_between_93 (by decide) ?_
              rcases of_ite h with ⟨hc13, h⟩ | ⟨hc13, h⟩
              · refine e_icmp_ne (tgt := 107) aX7_between_94 (by decide) (fun q => absurd hc13 q) (fun _ => ?_)
                refine e_iload aX7_between_97 rfl ?_
                refine e_ineg aX7_between_99 ?_
                refine e_iconst (v := 0) aX7_between_100 (by decide) ?_
                refine e_max aX7_between_101 mX7_238 (by decide) (Nat.le_of_ble_eq_true rfl) ?_
                refine e_goto (tgt := 109) aX7_between_104 (by decide) ?_
                exact e_retI aX7_between_109 rfl rfl (pI_of h)
              · refine e_icmp_ne (tgt := 107) aX7_between_94 (by decide) (fun _ => ?_) (fun q => absurd q hc13)
                refine e_iload aX7_between_107 rfl ?_
                exact e_retI aX7_between_109 rfl rfl (pI_of h)
          · refine e_icmp_le (tgt := 54) aX7_between_48 (by decide) (fun q => absurd q hc8) (fun _ => ?_)
            refine e_ldc aX7_between_51 kX7_80 ?_
            exact e_retI aX7_between_53 rfl rfl (pI_of h)
def f_X7_find  (M : Mem) : Option (Int32 × Mem) :=
  (f_X7_findRoots M).bind fun (M1 : Mem) =>
  if M1 57 0 = 0 then
    some ((-1000003), M1)
  else
    (f_X3_numberOf 4 (M1 1 0) M1).bind fun (r3 : Int32) =>
    some (r3, M1)
set_option maxRecDepth 100000 in
set_option maxHeartbeats 4000000 in
theorem c_X7_find (l : Launch) (x : WX)  {M : Mem} {r : (Int32 × Mem)}  (h : f_X7_find  M = some r) : Mt l x false yX7_find cX7_find 1 (some FieldType.int) 6 0 0 [.ref (x.2.2.1 + 0)] LAY M (pI r.1 r.2) := by
  refine mt_of (L0 := [some (.ref (x.2.2.1 + 0))]) (by decide +kernel) rfl (Nat.le_of_ble_eq_true rfl) (lvA_of 0 rfl) ?_
  unfold f_X7_find at h
  refine e_aload_n aX7_find_0 rfl ?_
  obtain ⟨M1, hM1, h⟩ := of_bind h
  refine e_VV [] aX7_find_1 co_X7_findRoots mX7_194 ly_0 rfl rfl (c_X7_findRoots l x hM1) rfl ⟨by decide, by decide⟩ (Nat.le_of_ble_eq_true rfl) rfl ?_
  refine e_aload_n aX7_find_4 rfl ?_
  refine e_getR (r := 57) aX7_find_5 fX7_51 ly_0 rfl ?_
  refine e_getI aX7_find_8 fX7_197 ly_57 rfl ?_
  rcases of_ite h with ⟨hc2, h⟩ | ⟨hc2, h⟩
  · refine e_if_ne (tgt := 17) aX7_find_11 (by decide) (fun q => absurd hc2 q) (fun _ => ?_)
    refine e_ldc aX7_find_14 kX7_97 ?_
    exact e_retI aX7_find_16 rfl rfl (pI_of h)
  · refine e_if_ne (tgt := 17) aX7_find_11 (by decide) (fun _ => ?_) (fun q => absurd q hc2)
    refine e_aload_n aX7_find_17 rfl ?_
    refine e_getR (r := 57) aX7_find_18 fX7_51 ly_0 rfl ?_
    refine e_aload_n aX7_find_21 rfl ?_
    refine e_getR (r := 1) aX7_find_22 fX7_10 ly_0 rfl ?_
    refine e_getR (r := 4) aX7_find_25 fX7_121 ly_1 rfl ?_
    refine e_aload_n aX7_find_28 rfl ?_
    refine e_getR (r := 1) aX7_find_29 fX7_10 ly_0 rfl ?_
    refine e_getI aX7_find_32 fX7_244 ly_1 rfl ?_
    obtain ⟨r3, hr3, h⟩ := of_bind h
    refine e_VI [] aX7_find_35 co_X3_numberOf mX7_247 ly_57 rfl rfl (c_X3_numberOf l x ly_4 hr3) rfl ⟨by decide, by decide⟩ (Nat.le_of_ble_eq_true rfl) rfl ?_
    exact e_retI aX7_find_38 rfl rfl (pI_of h)
def f_X7_sums  (M : Mem) : Option (Int32 × Mem) :=
  (f_X7_findRoots M).bind fun (M1 : Mem) =>
  if M1 57 0 = 0 then
    some ((-1000003), M1)
  else
    (f_X0_ways M1).bind fun (q3 : Int32 × Mem) =>
    some (q3.1, q3.2)
set_option maxRecDepth 100000 in
set_option maxHeartbeats 4000000 in
theorem c_X7_sums (l : Launch) (x : WX)  {M : Mem} {r : (Int32 × Mem)}  (h : f_X7_sums  M = some r) : Mt l x false yX7_sums cX7_sums 1 (some FieldType.int) 6 0 0 [.ref (x.2.2.1 + 0)] LAY M (pI r.1 r.2) := by
  refine mt_of (L0 := [some (.ref (x.2.2.1 + 0))]) (by decide +kernel) rfl (Nat.le_of_ble_eq_true rfl) (lvA_of 0 rfl) ?_
  unfold f_X7_sums at h
  refine e_aload_n aX7_sums_0 rfl ?_
  obtain ⟨M1, hM1, h⟩ := of_bind h
  refine e_VV [] aX7_sums_1 co_X7_findRoots mX7_194 ly_0 rfl rfl (c_X7_findRoots l x hM1) rfl ⟨by decide, by decide⟩ (Nat.le_of_ble_eq_true rfl) rfl ?_
  refine e_aload_n aX7_sums_4 rfl ?_
  refine e_getR (r := 57) aX7_sums_5 fX7_51 ly_0 rfl ?_
  refine e_getI aX7_sums_8 fX7_197 ly_57 rfl ?_
  rcases of_ite h with ⟨hc2, h⟩ | ⟨hc2, h⟩
  · refine e_if_ne (tgt := 17) aX7_sums_11 (by decide) (fun q => absurd hc2 q) (fun _ => ?_)
    refine e_ldc aX7_sums_14 kX7_97 ?_
    exact e_retI aX7_sums_16 rfl rfl (pI_of h)
  · refine e_if_ne (tgt := 17) aX7_sums_11 (by decide) (fun _ => ?_) (fun q => absurd q hc2)
    refine e_aload_n aX7_sums_17 rfl ?_
    refine e_getR (r := 141) aX7_sums_18 fX7_58 ly_0 rfl ?_
    refine e_aload_n aX7_sums_21 rfl ?_
    refine e_getR (r := 1) aX7_sums_22 fX7_10 ly_0 rfl ?_
    refine e_aload_n aX7_sums_25 rfl ?_
    refine e_getR (r := 57) aX7_sums_26 fX7_51 ly_0 rfl ?_
    obtain ⟨q3, hq3, h⟩ := of_bind h
    refine e_VI [] aX7_sums_29 co_X0_ways mX7_250 ly_141 rfl rfl (c_X0_ways l x hq3) rfl ⟨by decide, by decide⟩ (Nat.le_of_ble_eq_true rfl) rfl ?_
    exact e_retI aX7_sums_32 rfl rfl (pI_of h)
def f_X7_isShelf (i0 : Int32) (M : Mem) : Option Int32 :=
  if i0 < 0 then
    some 0
  else
    if 3 ≤ i0 then
      some 0
    else
      some 1
set_option maxRecDepth 100000 in
set_option maxHeartbeats 4000000 in
theorem c_X7_isShelf (l : Launch) (x : WX) {i0 : Int32} {M : Mem} {r : Int32}  (h : f_X7_isShelf i0 M = some r) : Mt l x false yX7_isShelf cX7_isShelf 1 (some FieldType.boolean) 0 0 0 [.int i0] LAY M (pI r M) := by
  refine mt_of (L0 := [some (.int i0)]) (by decide +kernel) rfl (Nat.le_of_ble_eq_true rfl) (lvA_of 0 rfl) ?_
  unfold f_X7_isShelf at h
  refine e_iload_n aX7_isShelf_0 rfl ?_
  rcases of_ite h with ⟨hc1, h⟩ | ⟨hc1, h⟩
  · refine e_if_lt (tgt := 13) aX7_isShelf_1 (by decide) (fun _ => ?_) (fun q => absurd hc1 q)
    refine e_iconst (v := 0) aX7_isShelf_13 (by decide) ?_
    exact e_retI aX7_isShelf_14 rfl (by decide +kernel) (pI_ro h)
  · refine e_if_lt (tgt := 13) aX7_isShelf_1 (by decide) (fun q => absurd q hc1) (fun _ => ?_)
    refine e_iload_n aX7_isShelf_4 rfl ?_
    refine e_iconst (v := 3) aX7_isShelf_5 (by decide) ?_
    rcases of_ite h with ⟨hc2, h⟩ | ⟨hc2, h⟩
    · refine e_icmp_ge (tgt := 13) aX7_isShelf_6 (by decide) (fun _ => ?_) (fun q => absurd hc2 q)
      refine e_iconst (v := 0) aX7_isShelf_13 (by decide) ?_
      exact e_retI aX7_isShelf_14 rfl (by decide +kernel) (pI_ro h)
    · refine e_icmp_ge (tgt := 13) aX7_isShelf_6 (by decide) (fun q => absurd q hc2) (fun _ => ?_)
      refine e_iconst (v := 1) aX7_isShelf_9 (by decide) ?_
      refine e_goto (tgt := 14) aX7_isShelf_10 (by decide) ?_
      exact e_retI aX7_isShelf_14 rfl (by decide +kernel) (pI_ro h)
def f_X7_shelf (i1 : Int32) (M : Mem) : Option (Int32 × Mem) :=
  (f_X7_isShelf i1 M).bind fun (r1 : Int32) =>
  if r1 = 0 then
    some ((-1000001), M)
  else
    if i1 < 0 ∨ 3 ≤ i1.toNatClampNeg then none else
    lt (um M (155 + 7 * i1.toNatClampNeg) 0 1) fun (M4 : Mem) =>
    if i1 < 0 ∨ 3 ≤ i1.toNatClampNeg then none else
    lt (um M4 (155 + 7 * i1.toNatClampNeg) 1 0) fun (M6 : Mem) =>
    some (0, M6)
set_option maxRecDepth 100000 in
set_option maxHeartbeats 4000000 in
theorem c_X7_shelf (l : Launch) (x : WX) {i1 : Int32} {M : Mem} {r : (Int32 × Mem)}  (h : f_X7_shelf i1 M = some r) : Mt l x false yX7_shelf cX7_shelf 2 (some FieldType.int) 1 0 0 [.ref (x.2.2.1 + 0), .int i1] LAY M (pI r.1 r.2) := by
  refine mt_of (L0 := [some (.ref (x.2.2.1 + 0)), some (.int i1)]) (by decide +kernel) rfl (Nat.le_of_ble_eq_true rfl) (lvA_of 0 rfl) ?_
  unfold f_X7_shelf at h
  refine e_iload_n aX7_shelf_0 rfl ?_
  obtain ⟨r1, hr1, h⟩ := of_bind h
  refine e_SI [] aX7_shelf_1 co_X7_isShelf mX7_253 (c_X7_isShelf l x hr1) rfl ⟨by decide, by decide⟩ (Nat.le_of_ble_eq_true rfl) rfl ?_
  rcases of_ite h with ⟨hc2, h⟩ | ⟨hc2, h⟩
  · refine e_if_ne (tgt := 10) aX7_shelf_4 (by decide) (fun q => absurd hc2 q) (fun _ => ?_)
    refine e_ldc aX7_shelf_7 kX7_111 ?_
    exact e_retI aX7_shelf_9 rfl rfl (pI_of h)
  · refine e_if_ne (tgt := 10) aX7_shelf_4 (by decide) (fun _ => ?_) (fun q => absurd q hc2)
    refine e_aload_n aX7_shelf_10 rfl ?_
    refine e_getR (r := 145) aX7_shelf_11 fX7_64 ly_0 rfl ?_
    refine e_iload_n aX7_shelf_14 rfl ?_
    obtain ⟨hg3, h⟩ := of_guard h
    refine e_aald aX7_shelf_15 ly_145 (by decide) hg3 (ra_F _ (ix_lt hg3)) ?_
    refine e_iconst (v := 1) aX7_shelf_16 (by decide) ?_
    obtain ⟨M4, eM4, h⟩ := of_lt h
    refine e_put aX7_shelf_17 qX7_256 (sa_F _ (ix_lt hg3)).1 rfl (by decide +kernel) eM4 ?_
    refine e_aload_n aX7_shelf_20 rfl ?_
    refine e_getR (r := 145) aX7_shelf_21 fX7_64 ly_0 rfl ?_
    refine e_iload_n aX7_shelf_24 rfl ?_
    obtain ⟨hg5, h⟩ := of_guard h
    refine e_aald aX7_shelf_25 ly_145 (by decide) hg5 (ra_F _ (ix_lt hg5)) ?_
    refine e_iconst (v := 0) aX7_shelf_26 (by decide) ?_
    obtain ⟨M6, eM6, h⟩ := of_lt h
    refine e_put aX7_shelf_27 qX7_259 (sa_F _ (ix_lt hg5)).1 rfl (fi_of _) eM6 ?_
    refine e_iconst (v := 0) aX7_shelf_30 (by decide) ?_
    exact e_retI aX7_shelf_31 rfl rfl (pI_of h)
def f_X7_lay (i1 : Int32) (M : Mem) : Option (Int32 × Mem) :=
  (f_X7_isShelf i1 M).bind fun (r1 : Int32) =>
  if r1 = 0 then
    some ((-1000001), M)
  else
    if i1 < 0 ∨ 3 ≤ i1.toNatClampNeg then none else
    if M (155 + 7 * i1.toNatClampNeg) 0 = 0 then
      some ((-1000011), M)
    else
      if M (155 + 7 * i1.toNatClampNeg) 1 < 4 then
        if M (155 + 7 * i1.toNatClampNeg) 1 < 0 ∨ 4 ≤ (M (155 + 7 * i1.toNatClampNeg) 1).toNatClampNeg then none else
        (f_X7_copyRow 4 ((155 + 7 * i1.toNatClampNeg) + 2 + (M (155 + 7 * i1.toNatClampNeg) 1).toNatClampNeg) M).bind fun (M7 : Mem) =>
        if M7 (155 + 7 * i1.toNatClampNeg) 1 < 0 ∨ 4 ≤ (M7 (155 + 7 * i1.toNatClampNeg) 1).toNatClampNeg then none else
        lt (um M7 ((155 + 7 * i1.toNatClampNeg) + 6) (M7 (155 + 7 * i1.toNatClampNeg) 1).toNatClampNeg (M7 1 0)) fun (M9 : Mem) =>
        lt (um M9 (155 + 7 * i1.toNatClampNeg) 1 ((M9 (155 + 7 * i1.toNatClampNeg) 1) + 1)) fun (M10 : Mem) =>
        some (M10 (155 + 7 * i1.toNatClampNeg) 1, M10)
      else
        some ((-1000013), M)
set_option maxRecDepth 100000 in
set_option maxHeartbeats 4000000 in
theorem c_X7_lay (l : Launch) (x : WX) {i1 : Int32} {M : Mem} {r : (Int32 × Mem)}  (h : f_X7_lay i1 M = some r) : Mt l x false yX7_lay cX7_lay 3 (some FieldType.int) 2 0 0 [.ref (x.2.2.1 + 0), .int i1] LAY M (pI r.1 r.2) := by
  refine mt_of (L0 := [some (.ref (x.2.2.1 + 0)), some (.int i1), none]) (by decide +kernel) rfl (Nat.le_of_ble_eq_true rfl) (lvA_of 1 rfl) ?_
  unfold f_X7_lay at h
  refine e_iload_n aX7_lay_0 rfl ?_
  obtain ⟨r1, hr1, h⟩ := of_bind h
  refine e_SI [] aX7_lay_1 co_X7_isShelf mX7_253 (c_X7_isShelf l x hr1) rfl ⟨by decide, by decide⟩ (Nat.le_of_ble_eq_true rfl) rfl ?_
  rcases of_ite h with ⟨hc2, h⟩ | ⟨hc2, h⟩
  · refine e_if_ne (tgt := 10) aX7_lay_4 (by decide) (fun q => absurd hc2 q) (fun _ => ?_)
    refine e_ldc aX7_lay_7 kX7_111 ?_
    exact e_retI aX7_lay_9 rfl rfl (pI_of h)
  · refine e_if_ne (tgt := 10) aX7_lay_4 (by decide) (fun _ => ?_) (fun q => absurd q hc2)
    refine e_aload_n aX7_lay_10 rfl ?_
    refine e_getR (r := 145) aX7_lay_11 fX7_64 ly_0 rfl ?_
    refine e_iload_n aX7_lay_14 rfl ?_
    obtain ⟨hg3, h⟩ := of_guard h
    refine e_aald aX7_lay_15 ly_145 (by decide) hg3 (ra_F _ (ix_lt hg3)) ?_
    refine e_astore_n (L2 := [some (.ref (x.2.2.1 + 0)), some (.int i1), some (.ref (x.2.2.1 + (155 + 7 * i1.toNatClampNeg)))]) aX7_lay_16 ⟨by decide, rfl⟩ rfl ?_
    refine e_aload_n aX7_lay_17 rfl ?_
    refine e_getI aX7_lay_18 fX7_256 (sa_F _ (ix_lt hg3)).1 rfl ?_
    rcases of_ite h with ⟨hc4, h⟩ | ⟨hc4, h⟩
    · refine e_if_ne (tgt := 28) aX7_lay_21 (by decide) (fun q => absurd hc4 q) (fun _ => ?_)
      refine e_ldc_w aX7_lay_24 kX7_260 ?_
      exact e_retI aX7_lay_27 rfl rfl (pI_of h)
    · refine e_if_ne (tgt := 28) aX7_lay_21 (by decide) (fun _ => ?_) (fun q => absurd q hc4)
      refine e_aload_n aX7_lay_28 rfl ?_
      refine e_getI aX7_lay_29 fX7_259 (sa_F _ (ix_lt hg3)).1 rfl ?_
      refine e_iconst (v := 4) aX7_lay_32 (by decide) ?_
      rcases of_ite h with ⟨hc5, h⟩ | ⟨hc5, h⟩
      · refine e_icmp_lt (tgt := 40) aX7_lay_33 (by decide) (fun _ => ?_) (fun q => absurd hc5 q)
        refine e_aload_n aX7_lay_40 rfl ?_
        refine e_getR (r := 1) aX7_lay_41 fX7_10 ly_0 rfl ?_
        refine e_getR (r := 4) aX7_lay_44 fX7_121 ly_1 rfl ?_
        refine e_aload_n aX7_lay_47 rfl ?_
        refine e_getR (r := (155 + 7 * i1.toNatClampNeg) + 1) aX7_lay_48 fX7_262 (sa_F _ (ix_lt hg3)).1 rfl ?_
        refine e_aload_n aX7_lay_51 rfl ?_
        refine e_getI aX7_lay_52 fX7_259 (sa_F _ (ix_lt hg3)).1 rfl ?_
        obtain ⟨hg6, h⟩ := of_guard h
        refine e_aald (t := 2) aX7_lay_55 (sa_F _ (ix_lt hg3)).2.1 (by decide) hg6 (sa_ra _ _ (ix_lt hg6)) ?_
        obtain ⟨M7, hM7, h⟩ := of_bind h
        refine e_SV [] aX7_lay_56 co_X7_copyRow mX7_175 (c_X7_copyRow l x ly_4 ((sa_F _ (ix_lt hg3)).2.2.1 _ (ix_lt hg6)) hM7) rfl ⟨by decide, by decide⟩ (Nat.le_of_ble_eq_true rfl) rfl ?_
        refine e_aload_n aX7_lay_59 rfl ?_
        refine e_getR (r := (155 + 7 * i1.toNatClampNeg) + 6) aX7_lay_60 fX7_263 (sa_F _ (ix_lt hg3)).1 rfl ?_
        refine e_aload_n aX7_lay_63 rfl ?_
        refine e_getI aX7_lay_64 fX7_259 (sa_F _ (ix_lt hg3)).1 rfl ?_
        refine e_aload_n aX7_lay_67 rfl ?_
        refine e_getR (r := 1) aX7_lay_68 fX7_10 ly_0 rfl ?_
        refine e_getI aX7_lay_71 fX7_244 ly_1 rfl ?_
        obtain ⟨hg8, h⟩ := of_guard h
        obtain ⟨M9, eM9, h⟩ := of_lt h
        refine e_ist aX7_lay_74 (sa_F _ (ix_lt hg3)).2.2.2 hg8 eM9 ?_
        refine e_aload_n aX7_lay_75 rfl ?_
        refine e_dupR aX7_lay_76 ?_
        refine e_getI aX7_lay_77 fX7_259 (sa_F _ (ix_lt hg3)).1 rfl ?_
        refine e_iconst (v := 1) aX7_lay_80 (by decide) ?_
        refine e_iadd aX7_lay_81 ?_
        obtain ⟨M10, eM10, h⟩ := of_lt h
        refine e_put aX7_lay_82 qX7_259 (sa_F _ (ix_lt hg3)).1 rfl (fi_of _) eM10 ?_
        refine e_aload_n aX7_lay_85 rfl ?_
        refine e_getI aX7_lay_86 fX7_259 (sa_F _ (ix_lt hg3)).1 rfl ?_
        exact e_retI aX7_lay_89 rfl rfl (pI_of h)
      · refine e_icmp_lt (tgt := 40) aX7_lay_33 (by decide) (fun q => absurd q hc5) (fun _ => ?_)
        refine e_ldc_w aX7_lay_36 kX7_261 ?_
        exact e_retI aX7_lay_39 rfl rfl (pI_of h)
def f_X7_refusalOfLastRow (i1 : Int32) (M : Mem) : Option Int32 :=
  (f_X7_isShelf i1 M).bind fun (r1 : Int32) =>
  if r1 = 0 then
    some (-1000001)
  else
    if i1 < 0 ∨ 3 ≤ i1.toNatClampNeg then none else
    if M (155 + 7 * i1.toNatClampNeg) 0 = 0 then
      some (-1000011)
    else
      if M (155 + 7 * i1.toNatClampNeg) 1 = 0 then
        some (-1000012)
      else
        if (M (155 + 7 * i1.toNatClampNeg) 1) - 1 < 0 ∨ 4 ≤ ((M (155 + 7 * i1.toNatClampNeg) 1) - 1).toNatClampNeg then none else
        if M ((155 + 7 * i1.toNatClampNeg) + 6) ((M (155 + 7 * i1.toNatClampNeg) 1) - 1).toNatClampNeg = M 1 0 then
          some 0
        else
          some (-1000014)
set_option maxRecDepth 100000 in
set_option maxHeartbeats 4000000 in
theorem c_X7_refusalOfLastRow (l : Launch) (x : WX) {i1 : Int32} {M : Mem} {r : Int32}  (h : f_X7_refusalOfLastRow i1 M = some r) : Mt l x false yX7_refusalOfLastRow cX7_refusalOfLastRow 3 (some FieldType.int) 1 0 0 [.ref (x.2.2.1 + 0), .int i1] LAY M (pI r M) := by
  refine mt_of (L0 := [some (.ref (x.2.2.1 + 0)), some (.int i1), none]) (by decide +kernel) rfl (Nat.le_of_ble_eq_true rfl) (lvA_of 1 rfl) ?_
  unfold f_X7_refusalOfLastRow at h
  refine e_iload_n aX7_refusalOfLastRow_0 rfl ?_
  obtain ⟨r1, hr1, h⟩ := of_bind h
  refine e_SI [] aX7_refusalOfLastRow_1 co_X7_isShelf mX7_253 (c_X7_isShelf l x hr1) rfl ⟨by decide, by decide⟩ (Nat.le_of_ble_eq_true rfl) rfl ?_
  rcases of_ite h with ⟨hc2, h⟩ | ⟨hc2, h⟩
  · refine e_if_ne (tgt := 10) aX7_refusalOfLastRow_4 (by decide) (fun q => absurd hc2 q) (fun _ => ?_)
    refine e_ldc aX7_refusalOfLastRow_7 kX7_111 ?_
    exact e_retI aX7_refusalOfLastRow_9 rfl rfl (pI_ro h)
  · refine e_if_ne (tgt := 10) aX7_refusalOfLastRow_4 (by decide) (fun _ => ?_) (fun q => absurd q hc2)
    refine e_aload_n aX7_refusalOfLastRow_10 rfl ?_
    refine e_getR (r := 145) aX7_refusalOfLastRow_11 fX7_64 ly_0 rfl ?_
    refine e_iload_n aX7_refusalOfLastRow_14 rfl ?_
    obtain ⟨hg3, h⟩ := of_guard h
    refine e_aald aX7_refusalOfLastRow_15 ly_145 (by decide) hg3 (ra_F _ (ix_lt hg3)) ?_
    refine e_astore_n (L2 := [some (.ref (x.2.2.1 + 0)), some (.int i1), some (.ref (x.2.2.1 + (155 + 7 * i1.toNatClampNeg)))]) aX7_refusalOfLastRow_16 ⟨by decide, rfl⟩ rfl ?_
    refine e_aload_n aX7_refusalOfLastRow_17 rfl ?_
    refine e_getI aX7_refusalOfLastRow_18 fX7_256 (sa_F _ (ix_lt hg3)).1 rfl ?_
    rcases of_ite h with ⟨hc4, h⟩ | ⟨hc4, h⟩
    · refine e_if_ne (tgt := 28) aX7_refusalOfLastRow_21 (by decide) (fun q => absurd hc4 q) (fun _ => ?_)
      refine e_ldc_w aX7_refusalOfLastRow_24 kX7_260 ?_
      exact e_retI aX7_refusalOfLastRow_27 rfl rfl (pI_ro h)
    · refine e_if_ne (tgt := 28) aX7_refusalOfLastRow_21 (by decide) (fun _ => ?_) (fun q => absurd q hc4)
      refine e_aload_n aX7_refusalOfLastRow_28 rfl ?_
      refine e_getI aX7_refusalOfLastRow_29 fX7_259 (sa_F _ (ix_lt hg3)).1 rfl ?_
      rcases of_ite h with ⟨hc5, h⟩ | ⟨hc5, h⟩
      · refine e_if_ne (tgt := 39) aX7_refusalOfLastRow_32 (by decide) (fun q => absurd hc5 q) (fun _ => ?_)
        refine e_ldc_w aX7_refusalOfLastRow_35 kX7_297 ?_
        exact e_retI aX7_refusalOfLastRow_38 rfl rfl (pI_ro h)
      · refine e_if_ne (tgt := 39) aX7_refusalOfLastRow_32 (by decide) (fun _ => ?_) (fun q => absurd q hc5)
        refine e_aload_n aX7_refusalOfLastRow_39 rfl ?_
        refine e_getR (r := (155 + 7 * i1.toNatClampNeg) + 6) aX7_refusalOfLastRow_40 fX7_263 (sa_F _ (ix_lt hg3)).1 rfl ?_
        refine e_aload_n aX7_refusalOfLastRow_43 rfl ?_
        refine e_getI aX7_refusalOfLastRow_44 fX7_259 (sa_F _ (ix_lt hg3)).1 rfl ?_
        refine e_iconst (v := 1) aX7_refusalOfLastRow_47 (by decide) ?_
        refine e_isub aX7_refusalOfLastRow_48 ?_
        obtain ⟨hg6, h⟩ := of_guard h
        refine e_iald aX7_refusalOfLastRow_49 (sa_F _ (ix_lt hg3)).2.2.2 hg6 ?_
        refine e_aload_n aX7_refusalOfLastRow_50 rfl ?_
        refine e_getR (r := 1) aX7_refusalOfLastRow_51 fX7_10 ly_0 rfl ?_
        refine e_getI aX7_refusalOfLastRow_54 fX7_244 ly_1 rfl ?_
        rcases of_ite h with ⟨hc7, h⟩ | ⟨hc7, h⟩
        · refine e_icmp_ne (tgt := 64) aX7_refusalOfLastRow_57 (by decide) (fun q => absurd hc7 q) (fun _ => ?_)
          refine e_iconst (v := 0) aX7_refusalOfLastRow_60 (by decide) ?_
          refine e_goto (tgt := 67) aX7_refusalOfLastRow_61 (by decide) ?_
          exact e_retI aX7_refusalOfLastRow_67 rfl rfl (pI_ro h)
        · refine e_icmp_ne (tgt := 64) aX7_refusalOfLastRow_57 (by decide) (fun _ => ?_) (fun q => absurd q hc7)
          refine e_ldc_w aX7_refusalOfLastRow_64 kX7_298 ?_
          exact e_retI aX7_refusalOfLastRow_67 rfl rfl (pI_ro h)
def f_X7_draw (i1 : Int32) (M : Mem) : Option (Int32 × Mem) :=
  (f_X7_refusalOfLastRow i1 M).bind fun (r1 : Int32) =>
  if r1 = 0 then
    if i1 < 0 ∨ 3 ≤ i1.toNatClampNeg then none else
    (f_X4_lastRow (155 + 7 * i1.toNatClampNeg) M).bind fun (r4 : Nat) =>
    (f_X7_copyRow r4 4 M).bind fun (M5 : Mem) =>
    lt (um M5 (155 + 7 * i1.toNatClampNeg) 1 ((M5 (155 + 7 * i1.toNatClampNeg) 1) - 1)) fun (M6 : Mem) =>
    some (M6 (155 + 7 * i1.toNatClampNeg) 1, M6)
  else
    some (r1, M)
set_option maxRecDepth 100000 in
set_option maxHeartbeats 4000000 in
theorem c_X7_draw (l : Launch) (x : WX) {i1 : Int32} {M : Mem} {r : (Int32 × Mem)}  (h : f_X7_draw i1 M = some r) : Mt l x false yX7_draw cX7_draw 4 (some FieldType.int) 2 0 0 [.ref (x.2.2.1 + 0), .int i1] LAY M (pI r.1 r.2) := by
  refine mt_of (L0 := [some (.ref (x.2.2.1 + 0)), some (.int i1), none, none]) (by decide +kernel) rfl (Nat.le_of_ble_eq_true rfl) (lvA_of 2 rfl) ?_
  unfold f_X7_draw at h
  refine e_aload_n aX7_draw_0 rfl ?_
  refine e_iload_n aX7_draw_1 rfl ?_
  obtain ⟨r1, hr1, h⟩ := of_bind h
  refine e_VI [] aX7_draw_2 co_X7_refusalOfLastRow mX7_265 ly_0 rfl rfl (c_X7_refusalOfLastRow l x hr1) rfl ⟨by decide, by decide⟩ (Nat.le_of_ble_eq_true rfl) rfl ?_
  refine e_istore_n (L2 := [some (.ref (x.2.2.1 + 0)), some (.int i1), some (.int r1), none]) aX7_draw_5 ⟨by decide, rfl⟩ rfl ?_
  refine e_iload_n aX7_draw_6 rfl ?_
  rcases of_ite h with ⟨hc2, h⟩ | ⟨hc2, h⟩
  · refine e_if_eq (tgt := 12) aX7_draw_7 (by decide) (fun _ => ?_) (fun q => absurd hc2 q)
    refine e_aload_n aX7_draw_12 rfl ?_
    refine e_getR (r := 145) aX7_draw_13 fX7_64 ly_0 rfl ?_
    refine e_iload_n aX7_draw_16 rfl ?_
    obtain ⟨hg3, h⟩ := of_guard h
    refine e_aald aX7_draw_17 ly_145 (by decide) hg3 (ra_F _ (ix_lt hg3)) ?_
    refine e_astore_n (L2 := [some (.ref (x.2.2.1 + 0)), some (.int i1), some (.int r1), some (.ref (x.2.2.1 + (155 + 7 * i1.toNatClampNeg)))]) aX7_draw_18 ⟨by decide, rfl⟩ rfl ?_
    refine e_aload_n aX7_draw_19 rfl ?_
    obtain ⟨r4, hr4, h⟩ := of_bind h
    refine e_VA [] aX7_draw_20 co_X4_lastRow mX7_268 (sa_F _ (ix_lt hg3)).1 rfl rfl (c_X4_lastRow l x (sa_F _ (ix_lt hg3)) hr4) rfl ⟨by decide, by decide⟩ (Nat.le_of_ble_eq_true rfl) rfl ?_
    refine e_aload_n aX7_draw_23 rfl ?_
    refine e_getR (r := 1) aX7_draw_24 fX7_10 ly_0 rfl ?_
    refine e_getR (r := 4) aX7_draw_27 fX7_121 ly_1 rfl ?_
    obtain ⟨M5, hM5, h⟩ := of_bind h
    refine e_SV [] aX7_draw_30 co_X7_copyRow mX7_175 (c_X7_copyRow l x (lr_X4_lastRow (sa_F _ (ix_lt hg3)) hr4) ly_4 hM5) rfl ⟨by decide, by decide⟩ (Nat.le_of_ble_eq_true rfl) rfl ?_
    refine e_aload_n aX7_draw_33 rfl ?_
    refine e_dupR aX7_draw_34 ?_
    refine e_getI aX7_draw_35 fX7_259 (sa_F _ (ix_lt hg3)).1 rfl ?_
    refine e_iconst (v := 1) aX7_draw_38 (by decide) ?_
    refine e_isub aX7_draw_39 ?_
    obtain ⟨M6, eM6, h⟩ := of_lt h
    refine e_put aX7_draw_40 qX7_259 (sa_F _ (ix_lt hg3)).1 rfl (fi_of _) eM6 ?_
    refine e_aload_n aX7_draw_43 rfl ?_
    refine e_getI aX7_draw_44 fX7_259 (sa_F _ (ix_lt hg3)).1 rfl ?_
    exact e_retI aX7_draw_47 rfl rfl (pI_of h)
  · refine e_if_eq (tgt := 12) aX7_draw_7 (by decide) (fun q => absurd q hc2) (fun _ => ?_)
    refine e_iload_n aX7_draw_10 rfl ?_
    exact e_retI aX7_draw_11 rfl rfl (pI_of h)
def s_X7_add_25 (i1 : Int32) (i2 : Int32) (p3 : Nat) (k : Int32 → Mem → Option (Int32 × Mem)) (rec : Int32 → Mem → Option (Int32 × Mem)) (i4 : Int32) (M : Mem) : Option (Int32 × Mem) :=
  if 6 ≤ i4 then
    k i4 M
  else
    if i4 < 0 ∨ 6 ≤ i4.toNatClampNeg then none else
    if i4 < 0 ∨ 6 ≤ i4.toNatClampNeg then none else
    if i4 < 0 ∨ 6 ≤ i4.toNatClampNeg then none else
    lt (um M 146 i4.toNatClampNeg ((M 4 i4.toNatClampNeg) + (M p3 i4.toNatClampNeg))) fun (M5 : Mem) =>
    rec (i4 + 1) M5
def f_X7_add_25 (i1 : Int32) (i2 : Int32) (p3 : Nat) (k : Int32 → Mem → Option (Int32 × Mem)) : Nat → Int32 → Mem → Option (Int32 × Mem)
  | 0 => fun _ _ => none
  | n + 1 => fun i4 M => s_X7_add_25 i1 i2 p3 k (f_X7_add_25 i1 i2 p3 k n) i4 M
set_option maxRecDepth 100000 in
set_option maxHeartbeats 4000000 in
theorem w_X7_add_25 (l : Launch) (x : WX) {i1 : Int32} {i2 : Int32} {p3 : Nat} {k : Int32 → Mem → Option (Int32 × Mem)} {r : (Int32 × Mem)} (hp3 : LAY[p3]? = some (1, 6, [])) (K : ∀ (i4 : Int32) (M : Mem), k i4 M = some r → Ev l x false cX7_add RX7 (some FieldType.int) 5 4 0 0 (pI r.1 r.2) 60 [some (.ref (x.2.2.1 + 0)), some (.int i1), some (.int i2), some (.ref (x.2.2.1 + p3)), some (.int i4)] [] LAY M) : ∀ (n : Nat) (i4 : Int32) (M : Mem), f_X7_add_25 i1 i2 p3 k n i4 M = some r → Ev l x false cX7_add RX7 (some FieldType.int) 5 4 0 0 (pI r.1 r.2) 25 [some (.ref (x.2.2.1 + 0)), some (.int i1), some (.int i2), some (.ref (x.2.2.1 + p3)), some (.int i4)] [] LAY M := by
  intro n
  induction n with
  | zero =>
    intro i4 M h
    exact nomatch (show (none : Option (Int32 × Mem)) = some r from h)
  | succ n ih =>
    intro i4 M h
    have h : s_X7_add_25 i1 i2 p3 k (f_X7_add_25 i1 i2 p3 k n) i4 M = some r := h
    unfold s_X7_add_25 at h
    refine e_iload aX7_add_25 rfl ?_
    refine e_bipush (v := 6) aX7_add_27 (by decide) ?_
    rcases of_ite h with ⟨hc1, h⟩ | ⟨hc1, h⟩
    · refine e_icmp_ge (tgt := 60) aX7_add_29 (by decide) (fun _ => ?_) (fun q => absurd hc1 q)
      exact K _ _ h
    · refine e_icmp_ge (tgt := 60) aX7_add_29 (by decide) (fun q => absurd q hc1) (fun _ => ?_)
      refine e_aload_n aX7_add_32 rfl ?_
      refine e_getR (r := 146) aX7_add_33 fX7_68 ly_0 rfl ?_
      refine e_iload aX7_add_36 rfl ?_
      refine e_aload_n aX7_add_38 rfl ?_
      refine e_getR (r := 1) aX7_add_39 fX7_10 ly_0 rfl ?_
      refine e_getR (r := 4) aX7_add_42 fX7_121 ly_1 rfl ?_
      refine e_iload aX7_add_45 rfl ?_
      obtain ⟨hg2, h⟩ := of_guard h
      refine e_iald aX7_add_47 ly_4 hg2 ?_
      refine e_aload_n aX7_add_48 rfl ?_
      refine e_iload aX7_add_49 rfl ?_
      obtain ⟨hg3, h⟩ := of_guard h
      refine e_iald aX7_add_51 hp3 hg3 ?_
      refine e_iadd aX7_add_52 ?_
      obtain ⟨hg4, h⟩ := of_guard h
      obtain ⟨M5, eM5, h⟩ := of_lt h
      refine e_ist aX7_add_53 ly_146 hg4 eM5 ?_
      refine e_iinc (v := i4 + 1) (L2 := [some (.ref (x.2.2.1 + 0)), some (.int i1), some (.int i2), some (.ref (x.2.2.1 + p3)), some (.int (i4 + 1))]) aX7_add_54 rfl rfl ⟨by decide, rfl⟩ rfl ?_
      refine e_goto (tgt := 25) aX7_add_57 (by decide) ?_
      exact ih _ _ h
def f_X7_add (i1 : Int32) (M : Mem) : Option (Int32 × Mem) :=
  (f_X7_refusalOfLastRow i1 M).bind fun (r1 : Int32) =>
  if r1 = 0 then
    if i1 < 0 ∨ 3 ≤ i1.toNatClampNeg then none else
    (f_X4_lastRow (155 + 7 * i1.toNatClampNeg) M).bind fun (r4 : Nat) =>
    f_X7_add_25 i1 r1 r4 (fun (i4_5 : Int32) (M6 : Mem) =>
      (f_X7_isTrialWithinBounds M6).bind fun (r7 : Int32) =>
      if r7 = 0 then
        some ((-1000003), M6)
      else
        (f_X1_remember M6).bind fun (M9 : Mem) =>
        (f_X7_copyRow 146 4 M9).bind fun (M10 : Mem) =>
        if (0 : Int32) < 0 ∨ 6 ≤ (0 : Int32).toNatClampNeg then none else
        some (M10 4 (0 : Int32).toNatClampNeg, M10)) FU 0 M
  else
    some (r1, M)
set_option maxRecDepth 100000 in
set_option maxHeartbeats 4000000 in
theorem c_X7_add (l : Launch) (x : WX) {i1 : Int32} {M : Mem} {r : (Int32 × Mem)}  (h : f_X7_add i1 M = some r) : Mt l x false yX7_add cX7_add 5 (some FieldType.int) 4 0 0 [.ref (x.2.2.1 + 0), .int i1] LAY M (pI r.1 r.2) := by
  refine mt_of (L0 := [some (.ref (x.2.2.1 + 0)), some (.int i1), none, none, none]) (by decide +kernel) rfl (Nat.le_of_ble_eq_true rfl) (lvA_of 3 rfl) ?_
  unfold f_X7_add at h
  refine e_aload_n aX7_add_0 rfl ?_
  refine e_iload_n aX7_add_1 rfl ?_
  obtain ⟨r1, hr1, h⟩ := of_bind h
  refine e_VI [] aX7_add_2 co_X7_refusalOfLastRow mX7_265 ly_0 rfl rfl (c_X7_refusalOfLastRow l x hr1) rfl ⟨by decide, by decide⟩ (Nat.le_of_ble_eq_true rfl) rfl ?_
  refine e_istore_n (L2 := [some (.ref (x.2.2.1 + 0)), some (.int i1), some (.int r1), none, none]) aX7_add_5 ⟨by decide, rfl⟩ rfl ?_
  refine e_iload_n aX7_add_6 rfl ?_
  rcases of_ite h with ⟨hc2, h⟩ | ⟨hc2, h⟩
  · refine e_if_eq (tgt := 12) aX7_add_7 (by decide) (fun _ => ?_) (fun q => absurd hc2 q)
    refine e_aload_n aX7_add_12 rfl ?_
    refine e_getR (r := 145) aX7_add_13 fX7_64 ly_0 rfl ?_
    refine e_iload_n aX7_add_16 rfl ?_
    obtain ⟨hg3, h⟩ := of_guard h
    refine e_aald aX7_add_17 ly_145 (by decide) hg3 (ra_F _ (ix_lt hg3)) ?_
    obtain ⟨r4, hr4, h⟩ := of_bind h
    refine e_VA [] aX7_add_18 co_X4_lastRow mX7_268 (sa_F _ (ix_lt hg3)).1 rfl rfl (c_X4_lastRow l x (sa_F _ (ix_lt hg3)) hr4) rfl ⟨by decide, by decide⟩ (Nat.le_of_ble_eq_true rfl) rfl ?_
    refine e_astore_n (L2 := [some (.ref (x.2.2.1 + 0)), some (.int i1), some (.int r1), some (.ref (x.2.2.1 + r4)), none]) aX7_add_21 ⟨by decide, rfl⟩ rfl ?_
    refine e_iconst (v := 0) aX7_add_22 (by decide) ?_
    refine e_istore (L2 := [some (.ref (x.2.2.1 + 0)), some (.int i1), some (.int r1), some (.ref (x.2.2.1 + r4)), some (.int 0)]) aX7_add_23 ⟨by decide, rfl⟩ rfl ?_
    refine w_X7_add_25 l x (lr_X4_lastRow (sa_F _ (ix_lt hg3)) hr4) (fun i4_5 M6 h => ?_) FU _ _ h
    refine e_aload_n aX7_add_60 rfl ?_
    obtain ⟨r7, hr7, h⟩ := of_bind h
    refine e_VI [] aX7_add_61 co_X7_isTrialWithinBounds mX7_186 ly_0 rfl rfl (c_X7_isTrialWithinBounds l x hr7) rfl ⟨by decide, by decide⟩ (Nat.le_of_ble_eq_true rfl) rfl ?_
    rcases of_ite h with ⟨hc8, h⟩ | ⟨hc8, h⟩
    · refine e_if_ne (tgt := 70) aX7_add_64 (by decide) (fun q => absurd hc8 q) (fun _ => ?_)
      refine e_ldc aX7_add_67 kX7_97 ?_
      exact e_retI aX7_add_69 rfl rfl (pI_of h)
    · refine e_if_ne (tgt := 70) aX7_add_64 (by decide) (fun _ => ?_) (fun q => absurd q hc8)
      refine e_aload_n aX7_add_70 rfl ?_
      refine e_getR (r := 9) aX7_add_71 fX7_22 ly_0 rfl ?_
      refine e_aload_n aX7_add_74 rfl ?_
      refine e_getR (r := 1) aX7_add_75 fX7_10 ly_0 rfl ?_
      obtain ⟨M9, hM9, h⟩ := of_bind h
      refine e_VV [] aX7_add_78 co_X1_remember mX7_154 ly_9 rfl rfl (c_X1_remember l x hM9) rfl ⟨by decide, by decide⟩ (Nat.le_of_ble_eq_true rfl) rfl ?_
      refine e_aload_n aX7_add_81 rfl ?_
      refine e_getR (r := 146) aX7_add_82 fX7_68 ly_0 rfl ?_
      refine e_aload_n aX7_add_85 rfl ?_
      refine e_getR (r := 1) aX7_add_86 fX7_10 ly_0 rfl ?_
      refine e_getR (r := 4) aX7_add_89 fX7_121 ly_1 rfl ?_
      obtain ⟨M10, hM10, h⟩ := of_bind h
      refine e_SV [] aX7_add_92 co_X7_copyRow mX7_175 (c_X7_copyRow l x ly_146 ly_4 hM10) rfl ⟨by decide, by decide⟩ (Nat.le_of_ble_eq_true rfl) rfl ?_
      refine e_aload_n aX7_add_95 rfl ?_
      refine e_getR (r := 1) aX7_add_96 fX7_10 ly_0 rfl ?_
      refine e_getR (r := 4) aX7_add_99 fX7_121 ly_1 rfl ?_
      refine e_iconst (v := 0) aX7_add_102 (by decide) ?_
      obtain ⟨hg11, h⟩ := of_guard h
      refine e_iald aX7_add_103 ly_4 hg11 ?_
      exact e_retI aX7_add_104 rfl rfl (pI_of h)
  · refine e_if_eq (tgt := 12) aX7_add_7 (by decide) (fun q => absurd q hc2) (fun _ => ?_)
    refine e_iload_n aX7_add_10 rfl ?_
    exact e_retI aX7_add_11 rfl rfl (pI_of h)
def f_X7_euler (i1 : Int32) (i2 : Int32) (M : Mem) : Option Int32 :=
  (f_X7_isShelf i1 M).bind fun (r1 : Int32) =>
  if r1 = 0 then
    some (-1000001)
  else
    if i2 < 0 then
      some (-1000002)
    else
      if i2 ≤ 2 then
        (f_X7_refusalOfLastRow i1 M).bind fun (r5 : Int32) =>
        if r5 = 0 then
          if i1 < 0 ∨ 3 ≤ i1.toNatClampNeg then none else
          (f_X4_lastRow (155 + 7 * i1.toNatClampNeg) M).bind fun (r8 : Nat) =>
          if i2 = 0 then
            (f_X2_eulerOf 1 4 r8 M).bind fun (r13 : Int32) =>
            some r13
          else
            (f_X2_eulerOf 1 r8 4 M).bind fun (r10 : Int32) =>
            if i2 = 1 then
              some r10
            else
              (f_X2_eulerOf 1 4 r8 M).bind fun (r12 : Int32) =>
              some (r10 + r12)
        else
          some r5
      else
        some (-1000002)
set_option maxRecDepth 100000 in
set_option maxHeartbeats 4000000 in
theorem c_X7_euler (l : Launch) (x : WX) {i1 : Int32} {i2 : Int32} {M : Mem} {r : Int32}  (h : f_X7_euler i1 i2 M = some r) : Mt l x false yX7_euler cX7_euler 6 (some FieldType.int) 2 0 0 [.ref (x.2.2.1 + 0), .int i1, .int i2] LAY M (pI r M) := by
  refine mt_of (L0 := [some (.ref (x.2.2.1 + 0)), some (.int i1), some (.int i2), none, none, none]) (by decide +kernel) rfl (Nat.le_of_ble_eq_true rfl) (lvA_of 3 rfl) ?_
  unfold f_X7_euler at h
  refine e_iload_n aX7_euler_0 rfl ?_
  obtain ⟨r1, hr1, h⟩ := of_bind h
  refine e_SI [] aX7_euler_1 co_X7_isShelf mX7_253 (c_X7_isShelf l x hr1) rfl ⟨by decide, by decide⟩ (Nat.le_of_ble_eq_true rfl) rfl ?_
  rcases of_ite h with ⟨hc2, h⟩ | ⟨hc2, h⟩
  · refine e_if_ne (tgt := 10) aX7_euler_4 (by decide) (fun q => absurd hc2 q) (fun _ => ?_)
    refine e_ldc aX7_euler_7 kX7_111 ?_
    exact e_retI aX7_euler_9 rfl rfl (pI_ro h)
  · refine e_if_ne (tgt := 10) aX7_euler_4 (by decide) (fun _ => ?_) (fun q => absurd q hc2)
    refine e_iload_n aX7_euler_10 rfl ?_
    rcases of_ite h with ⟨hc3, h⟩ | ⟨hc3, h⟩
    · refine e_if_lt (tgt := 19) aX7_euler_11 (by decide) (fun _ => ?_) (fun q => absurd hc3 q)
      refine e_ldc aX7_euler_19 kX7_80 ?_
      exact e_retI aX7_euler_21 rfl rfl (pI_ro h)
    · refine e_if_lt (tgt := 19) aX7_euler_11 (by decide) (fun q => absurd q hc3) (fun _ => ?_)
      refine e_iload_n aX7_euler_14 rfl ?_
      refine e_iconst (v := 2) aX7_euler_15 (by decide) ?_
      rcases of_ite h with ⟨hc4, h⟩ | ⟨hc4, h⟩
      · refine e_icmp_le (tgt := 22) aX7_euler_16 (by decide) (fun _ => ?_) (fun q => absurd hc4 q)
        refine e_aload_n aX7_euler_22 rfl ?_
        refine e_iload_n aX7_euler_23 rfl ?_
        obtain ⟨r5, hr5, h⟩ := of_bind h
        refine e_VI [] aX7_euler_24 co_X7_refusalOfLastRow mX7_265 ly_0 rfl rfl (c_X7_refusalOfLastRow l x hr5) rfl ⟨by decide, by decide⟩ (Nat.le_of_ble_eq_true rfl) rfl ?_
        refine e_istore_n (L2 := [some (.ref (x.2.2.1 + 0)), some (.int i1), some (.int i2), some (.int r5), none, none]) aX7_euler_27 ⟨by decide, rfl⟩ rfl ?_
        refine e_iload_n aX7_euler_28 rfl ?_
        rcases of_ite h with ⟨hc6, h⟩ | ⟨hc6, h⟩
        · refine e_if_eq (tgt := 34) aX7_euler_29 (by decide) (fun _ => ?_) (fun q => absurd hc6 q)
          refine e_aload_n aX7_euler_34 rfl ?_
          refine e_getR (r := 145) aX7_euler_35 fX7_64 ly_0 rfl ?_
          refine e_iload_n aX7_euler_38 rfl ?_
          obtain ⟨hg7, h⟩ := of_guard h
          refine e_aald aX7_euler_39 ly_145 (by decide) hg7 (ra_F _ (ix_lt hg7)) ?_
          obtain ⟨r8, hr8, h⟩ := of_bind h
          refine e_VA [] aX7_euler_40 co_X4_lastRow mX7_268 (sa_F _ (ix_lt hg7)).1 rfl rfl (c_X4_lastRow l x (sa_F _ (ix_lt hg7)) hr8) rfl ⟨by decide, by decide⟩ (Nat.le_of_ble_eq_true rfl) rfl ?_
          refine e_astore (L2 := [some (.ref (x.2.2.1 + 0)), some (.int i1), some (.int i2), some (.int r5), some (.ref (x.2.2.1 + r8)), none]) aX7_euler_43 ⟨by decide, rfl⟩ rfl ?_
          refine e_iload_n aX7_euler_45 rfl ?_
          rcases of_ite h with ⟨hc9, h⟩ | ⟨hc9, h⟩
          · refine e_if_ne (tgt := 66) aX7_euler_46 (by decide) (fun q => absurd hc9 q) (fun _ => ?_)
            refine e_aload_n aX7_euler_49 rfl ?_
            refine e_getR (r := 1) aX7_euler_50 fX7_10 ly_0 rfl ?_
            refine e_aload_n aX7_euler_53 rfl ?_
            refine e_getR (r := 1) aX7_euler_54 fX7_10 ly_0 rfl ?_
            refine e_getR (r := 4) aX7_euler_57 fX7_121 ly_1 rfl ?_
            refine e_aload aX7_euler_60 rfl ?_
            obtain ⟨r13, hr13, h⟩ := of_bind h
            refine e_VI [] aX7_euler_62 co_X2_eulerOf mX7_234 ly_1 rfl rfl (c_X2_eulerOf l x qa_1 ly_4 (lr_X4_lastRow (sa_F _ (ix_lt hg7)) hr8) hr13) rfl ⟨by decide, by decide⟩ (Nat.le_of_ble_eq_true rfl) rfl ?_
            exact e_retI aX7_euler_65 rfl rfl (pI_ro h)
          · refine e_if_ne (tgt := 66) aX7_euler_46 (by decide) (fun _ => ?_) (fun q => absurd q hc9)
            refine e_aload_n aX7_euler_66 rfl ?_
            refine e_getR (r := 1) aX7_euler_67 fX7_10 ly_0 rfl ?_
            refine e_aload aX7_euler_70 rfl ?_
            refine e_aload_n aX7_euler_72 rfl ?_
            refine e_getR (r := 1) aX7_euler_73 fX7_10 ly_0 rfl ?_
            refine e_getR (r := 4) aX7_euler_76 fX7_121 ly_1 rfl ?_
            obtain ⟨r10, hr10, h⟩ := of_bind h
            refine e_VI [] aX7_euler_79 co_X2_eulerOf mX7_234 ly_1 rfl rfl (c_X2_eulerOf l x qa_1 (lr_X4_lastRow (sa_F _ (ix_lt hg7)) hr8) ly_4 hr10) rfl ⟨by decide, by decide⟩ (Nat.le_of_ble_eq_true rfl) rfl ?_
            refine e_istore (L2 := [some (.ref (x.2.2.1 + 0)), some (.int i1), some (.int i2), some (.int r5), some (.ref (x.2.2.1 + r8)), some (.int r10)]) aX7_euler_82 ⟨by decide, rfl⟩ rfl ?_
            refine e_iload_n aX7_euler_84 rfl ?_
            refine e_iconst (v := 1) aX7_euler_85 (by decide) ?_
            rcases of_ite h with ⟨hc11, h⟩ | ⟨hc11, h⟩
            · refine e_icmp_ne (tgt := 94) aX7_euler_86 (by decide) (fun q => absurd hc11 q) (fun _ => ?_)
              refine e_iload aX7_euler_89 rfl ?_
              refine e_goto (tgt := 113) aX7_euler_91 (by decide) ?_
              exact e_retI aX7_euler_113 rfl rfl (pI_ro h)
            · refine e_icmp_ne (tgt := 94) aX7_euler_86 (by decide) (fun _ => ?_) (fun q => absurd q hc11)
              refine e_iload aX7_euler_94 rfl ?_
              refine e_aload_n aX7_euler_96 rfl ?_
              refine e_getR (r := 1) aX7_euler_97 fX7_10 ly_0 rfl ?_
              refine e_aload_n aX7_euler_100 rfl ?_
              refine e_getR (r := 1) aX7_euler_101 fX7_10 ly_0 rfl ?_
              refine e_getR (r := 4) aX7_euler_104 fX7_121 ly_1 rfl ?_
              refine e_aload aX7_euler_107 rfl ?_
              obtain ⟨r12, hr12, h⟩ := of_bind h
              refine e_VI [.int r10] aX7_euler_109 co_X2_eulerOf mX7_234 ly_1 rfl rfl (c_X2_eulerOf l x qa_1 ly_4 (lr_X4_lastRow (sa_F _ (ix_lt hg7)) hr8) hr12) rfl ⟨by decide, by decide⟩ (Nat.le_of_ble_eq_true rfl) rfl ?_
              refine e_iadd aX7_euler_112 ?_
              exact e_retI aX7_euler_113 rfl rfl (pI_ro h)
        · refine e_if_eq (tgt := 34) aX7_euler_29 (by decide) (fun q => absurd q hc6) (fun _ => ?_)
          refine e_iload_n aX7_euler_32 rfl ?_
          exact e_retI aX7_euler_33 rfl rfl (pI_ro h)
      · refine e_icmp_le (tgt := 22) aX7_euler_16 (by decide) (fun q => absurd q hc4) (fun _ => ?_)
        refine e_ldc aX7_euler_19 kX7_80 ?_
        exact e_retI aX7_euler_21 rfl rfl (pI_ro h)
def f_X7_drop (i1 : Int32) (M : Mem) : Option (Int32 × Mem) :=
  (f_X7_isShelf i1 M).bind fun (r1 : Int32) =>
  if r1 = 0 then
    some ((-1000001), M)
  else
    if i1 < 0 ∨ 3 ≤ i1.toNatClampNeg then none else
    if M (155 + 7 * i1.toNatClampNeg) 0 = 0 then
      some ((-1000011), M)
    else
      lt (M (155 + 7 * i1.toNatClampNeg) 1) fun (v5 : Int32) =>
      lt (um M (155 + 7 * i1.toNatClampNeg) 0 0) fun (M6 : Mem) =>
      lt (um M6 (155 + 7 * i1.toNatClampNeg) 1 0) fun (M7 : Mem) =>
      some (v5, M7)
set_option maxRecDepth 100000 in
set_option maxHeartbeats 4000000 in
theorem c_X7_drop (l : Launch) (x : WX) {i1 : Int32} {M : Mem} {r : (Int32 × Mem)}  (h : f_X7_drop i1 M = some r) : Mt l x false yX7_drop cX7_drop 4 (some FieldType.int) 1 0 0 [.ref (x.2.2.1 + 0), .int i1] LAY M (pI r.1 r.2) := by
  refine mt_of (L0 := [some (.ref (x.2.2.1 + 0)), some (.int i1), none, none]) (by decide +kernel) rfl (Nat.le_of_ble_eq_true rfl) (lvA_of 2 rfl) ?_
  unfold f_X7_drop at h
  refine e_iload_n aX7_drop_0 rfl ?_
  obtain ⟨r1, hr1, h⟩ := of_bind h
  refine e_SI [] aX7_drop_1 co_X7_isShelf mX7_253 (c_X7_isShelf l x hr1) rfl ⟨by decide, by decide⟩ (Nat.le_of_ble_eq_true rfl) rfl ?_
  rcases of_ite h with ⟨hc2, h⟩ | ⟨hc2, h⟩
  · refine e_if_ne (tgt := 10) aX7_drop_4 (by decide) (fun q => absurd hc2 q) (fun _ => ?_)
    refine e_ldc aX7_drop_7 kX7_111 ?_
    exact e_retI aX7_drop_9 rfl rfl (pI_of h)
  · refine e_if_ne (tgt := 10) aX7_drop_4 (by decide) (fun _ => ?_) (fun q => absurd q hc2)
    refine e_aload_n aX7_drop_10 rfl ?_
    refine e_getR (r := 145) aX7_drop_11 fX7_64 ly_0 rfl ?_
    refine e_iload_n aX7_drop_14 rfl ?_
    obtain ⟨hg3, h⟩ := of_guard h
    refine e_aald aX7_drop_15 ly_145 (by decide) hg3 (ra_F _ (ix_lt hg3)) ?_
    refine e_astore_n (L2 := [some (.ref (x.2.2.1 + 0)), some (.int i1), some (.ref (x.2.2.1 + (155 + 7 * i1.toNatClampNeg))), none]) aX7_drop_16 ⟨by decide, rfl⟩ rfl ?_
    refine e_aload_n aX7_drop_17 rfl ?_
    refine e_getI aX7_drop_18 fX7_256 (sa_F _ (ix_lt hg3)).1 rfl ?_
    rcases of_ite h with ⟨hc4, h⟩ | ⟨hc4, h⟩
    · refine e_if_ne (tgt := 28) aX7_drop_21 (by decide) (fun q => absurd hc4 q) (fun _ => ?_)
      refine e_ldc_w aX7_drop_24 kX7_260 ?_
      exact e_retI aX7_drop_27 rfl rfl (pI_of h)
    · refine e_if_ne (tgt := 28) aX7_drop_21 (by decide) (fun _ => ?_) (fun q => absurd q hc4)
      refine e_aload_n aX7_drop_28 rfl ?_
      refine e_getI aX7_drop_29 fX7_259 (sa_F _ (ix_lt hg3)).1 rfl ?_
      obtain ⟨v5, ev5, h⟩ := of_lt h
      refine e_nameI ev5 ?_
      refine e_istore_n (L2 := [some (.ref (x.2.2.1 + 0)), some (.int i1), some (.ref (x.2.2.1 + (155 + 7 * i1.toNatClampNeg))), some (.int v5)]) aX7_drop_32 ⟨by decide, rfl⟩ rfl ?_
      refine e_aload_n aX7_drop_33 rfl ?_
      refine e_iconst (v := 0) aX7_drop_34 (by decide) ?_
      obtain ⟨M6, eM6, h⟩ := of_lt h
      refine e_put aX7_drop_35 qX7_256 (sa_F _ (ix_lt hg3)).1 rfl (by decide +kernel) eM6 ?_
      refine e_aload_n aX7_drop_38 rfl ?_
      refine e_iconst (v := 0) aX7_drop_39 (by decide) ?_
      obtain ⟨M7, eM7, h⟩ := of_lt h
      refine e_put aX7_drop_40 qX7_259 (sa_F _ (ix_lt hg3)).1 rfl (fi_of _) eM7 ?_
      refine e_iload_n aX7_drop_43 rfl ?_
      exact e_retI aX7_drop_44 rfl rfl (pI_of h)
def s_X7_rowsOfAllShelves_4  (M : Mem) (k : Int32 → Int32 → Option Int32) (rec : Int32 → Int32 → Option Int32) (i1 : Int32) (i2 : Int32) : Option Int32 :=
  if 3 ≤ i2 then
    k i1 i2
  else
    if i2 < 0 ∨ 3 ≤ i2.toNatClampNeg then none else
    lt (i1 + (M (155 + 7 * i2.toNatClampNeg) 1)) fun (v3 : Int32) =>
    rec v3 (i2 + 1)
def f_X7_rowsOfAllShelves_4  (M : Mem) (k : Int32 → Int32 → Option Int32) : Nat → Int32 → Int32 → Option Int32
  | 0 => fun _ _ => none
  | n + 1 => fun i1 i2 => s_X7_rowsOfAllShelves_4  M k (f_X7_rowsOfAllShelves_4  M k n) i1 i2
set_option maxRecDepth 100000 in
set_option maxHeartbeats 4000000 in
theorem w_X7_rowsOfAllShelves_4 (l : Launch) (x : WX)  {M : Mem} {k : Int32 → Int32 → Option Int32} {r : Int32}  (K : ∀ (i1 : Int32) (i2 : Int32), k i1 i2 = some r → Ev l x false cX7_rowsOfAllShelves RX7 (some FieldType.int) 3 0 0 0 (pI r M) 27 [some (.ref (x.2.2.1 + 0)), some (.int i1), some (.int i2)] [] LAY M) : ∀ (n : Nat) (i1 : Int32) (i2 : Int32), f_X7_rowsOfAllShelves_4  M k n i1 i2 = some r → Ev l x false cX7_rowsOfAllShelves RX7 (some FieldType.int) 3 0 0 0 (pI r M) 4 [some (.ref (x.2.2.1 + 0)), some (.int i1), some (.int i2)] [] LAY M := by
  intro n
  induction n with
  | zero =>
    intro i1 i2 h
    exact nomatch (show (none : Option Int32) = some r from h)
  | succ n ih =>
    intro i1 i2 h
    have h : s_X7_rowsOfAllShelves_4  M k (f_X7_rowsOfAllShelves_4  M k n) i1 i2 = some r := h
    unfold s_X7_rowsOfAllShelves_4 at h
    refine e_iload_n aX7_rowsOfAllShelves_4 rfl ?_
    refine e_iconst (v := 3) aX7_rowsOfAllShelves_5 (by decide) ?_
    rcases of_ite h with ⟨hc1, h⟩ | ⟨hc1, h⟩
    · refine e_icmp_ge (tgt := 27) aX7_rowsOfAllShelves_6 (by decide) (fun _ => ?_) (fun q => absurd hc1 q)
      exact K _ _ h
    · refine e_icmp_ge (tgt := 27) aX7_rowsOfAllShelves_6 (by decide) (fun q => absurd q hc1) (fun _ => ?_)
      refine e_iload_n aX7_rowsOfAllShelves_9 rfl ?_
      refine e_aload_n aX7_rowsOfAllShelves_10 rfl ?_
      refine e_getR (r := 145) aX7_rowsOfAllShelves_11 fX7_64 ly_0 rfl ?_
      refine e_iload_n aX7_rowsOfAllShelves_14 rfl ?_
      obtain ⟨hg2, h⟩ := of_guard h
      refine e_aald aX7_rowsOfAllShelves_15 ly_145 (by decide) hg2 (ra_F _ (ix_lt hg2)) ?_
      refine e_getI aX7_rowsOfAllShelves_16 fX7_259 (sa_F _ (ix_lt hg2)).1 rfl ?_
      refine e_iadd aX7_rowsOfAllShelves_19 ?_
      obtain ⟨v3, ev3, h⟩ := of_lt h
      refine e_nameI ev3 ?_
      refine e_istore_n (L2 := [some (.ref (x.2.2.1 + 0)), some (.int v3), some (.int i2)]) aX7_rowsOfAllShelves_20 ⟨by decide, rfl⟩ rfl ?_
      refine e_iinc (v := i2 + 1) (L2 := [some (.ref (x.2.2.1 + 0)), some (.int v3), some (.int (i2 + 1))]) aX7_rowsOfAllShelves_21 rfl rfl ⟨by decide, rfl⟩ rfl ?_
      refine e_goto (tgt := 4) aX7_rowsOfAllShelves_24 (by decide) ?_
      exact ih _ _ h
def f_X7_rowsOfAllShelves  (M : Mem) : Option Int32 :=
  f_X7_rowsOfAllShelves_4  M (fun (i1_1 : Int32) (i2_2 : Int32) =>
    some i1_1) FU 0 0
set_option maxRecDepth 100000 in
set_option maxHeartbeats 4000000 in
theorem c_X7_rowsOfAllShelves (l : Launch) (x : WX)  {M : Mem} {r : Int32}  (h : f_X7_rowsOfAllShelves  M = some r) : Mt l x false yX7_rowsOfAllShelves cX7_rowsOfAllShelves 3 (some FieldType.int) 0 0 0 [.ref (x.2.2.1 + 0)] LAY M (pI r M) := by
  refine mt_of (L0 := [some (.ref (x.2.2.1 + 0)), none, none]) (by decide +kernel) rfl (Nat.le_of_ble_eq_true rfl) (lvA_of 2 rfl) ?_
  unfold f_X7_rowsOfAllShelves at h
  refine e_iconst (v := 0) aX7_rowsOfAllShelves_0 (by decide) ?_
  refine e_istore_n (L2 := [some (.ref (x.2.2.1 + 0)), some (.int 0), none]) aX7_rowsOfAllShelves_1 ⟨by decide, rfl⟩ rfl ?_
  refine e_iconst (v := 0) aX7_rowsOfAllShelves_2 (by decide) ?_
  refine e_istore_n (L2 := [some (.ref (x.2.2.1 + 0)), some (.int 0), some (.int 0)]) aX7_rowsOfAllShelves_3 ⟨by decide, rfl⟩ rfl ?_
  refine w_X7_rowsOfAllShelves_4 l x  (fun i1_1 i2_2 h => ?_) FU _ _ h
  refine e_iload_n aX7_rowsOfAllShelves_27 rfl ?_
  exact e_retI aX7_rowsOfAllShelves_28 rfl rfl (pI_ro h)
def f_X7_count (i1 : Int32) (M : Mem) : Option (Int32 × Mem) :=
  if i1 = 0 then
    some (M 1 0, M)
  else if i1 = 1 then
    some (M 1 1, M)
  else if i1 = 2 then
    (f_X2_tits 1 M).bind fun (r14 : Int32) =>
    some (r14, M)
  else if i1 = 3 then
    (f_X2_tits 1 M).bind fun (r15 : Int32) =>
    some (r15 - 1, M)
  else if i1 = 4 then
    (f_X7_findRoots M).bind fun (M16 : Mem) =>
    if M16 57 0 = 0 then
      some ((-1000000), M16)
    else
      some (M16 57 1, M16)
  else if i1 = 5 then
    (f_X7_findRoots M).bind fun (M18 : Mem) =>
    if M18 57 0 = 0 then
      some ((-1000000), M18)
    else
      (f_X3_deepest M18).bind fun (r20 : Int32) =>
      some (r20, M18)
  else if i1 = 6 then
    (f_X2_sinks 1 M).bind fun (r21 : Int32) =>
    some (r21, M)
  else if i1 = 7 then
    (f_X2_sources 1 M).bind fun (r22 : Int32) =>
    some (r22, M)
  else if i1 = 8 then
    (f_X7_findWays M).bind fun (M23 : Mem) =>
    (f_X6_allPaths (M23 1 0) M23).bind fun (r24 : Int32) =>
    some (r24, M23)
  else if i1 = 9 then
    (f_X2_hangsTogether 1 M).bind fun (r25 : Int32) =>
    if r25 = 0 then
      some (0, M)
    else
      some (1, M)
  else if i1 = 10 then
    (f_X7_rowsOfAllShelves M).bind fun (r27 : Int32) =>
    some (r27, M)
  else if i1 = 11 then
    some (M 9 2, M)
  else if i1 = 12 then
    some (M 45 1, M)
  else 
    some ((-1000002), M)
set_option maxRecDepth 100000 in
set_option maxHeartbeats 4000000 in
theorem c_X7_count (l : Launch) (x : WX) {i1 : Int32} {M : Mem} {r : (Int32 × Mem)}  (h : f_X7_count i1 M = some r) : Mt l x false yX7_count cX7_count 2 (some FieldType.int) 6 0 0 [.ref (x.2.2.1 + 0), .int i1] LAY M (pI r.1 r.2) := by
  refine mt_of (L0 := [some (.ref (x.2.2.1 + 0)), some (.int i1)]) (by decide +kernel) rfl (Nat.le_of_ble_eq_true rfl) (lvA_of 0 rfl) ?_
  unfold f_X7_count at h
  refine e_iload_n aX7_count_0 rfl ?_
  rcases of_ite h with ⟨hc1, h⟩ | ⟨hc1, h⟩
  · refine e_tableIn (off := 67) (tgt := 68) aX7_count_1 (by rw [hc1]; decide) (by rw [hc1]; decide) (by rw [hc1]; rfl) (by decide) ?_
    refine e_aload_n aX7_count_68 rfl ?_
    refine e_getR (r := 1) aX7_count_69 fX7_10 ly_0 rfl ?_
    refine e_getI aX7_count_72 fX7_244 ly_1 rfl ?_
    exact e_retI aX7_count_75 rfl rfl (pI_of h)
  · rcases of_ite h with ⟨hc2, h⟩ | ⟨hc2, h⟩
    · refine e_tableIn (off := 75) (tgt := 76) aX7_count_1 (by rw [hc2]; decide) (by rw [hc2]; decide) (by rw [hc2]; rfl) (by decide) ?_
      refine e_aload_n aX7_count_76 rfl ?_
      refine e_getR (r := 1) aX7_count_77 fX7_10 ly_0 rfl ?_
      refine e_getI aX7_count_80 fX7_151 ly_1 rfl ?_
      exact e_retI aX7_count_83 rfl rfl (pI_of h)
    · rcases of_ite h with ⟨hc3, h⟩ | ⟨hc3, h⟩
      · refine e_tableIn (off := 83) (tgt := 84) aX7_count_1 (by rw [hc3]; decide) (by rw [hc3]; decide) (by rw [hc3]; rfl) (by decide) ?_
        refine e_aload_n aX7_count_84 rfl ?_
        refine e_getR (r := 1) aX7_count_85 fX7_10 ly_0 rfl ?_
        obtain ⟨r14, hr14, h⟩ := of_bind h
        refine e_VI [] aX7_count_88 co_X2_tits mX7_190 ly_1 rfl rfl (c_X2_tits l x qa_1 hr14) rfl ⟨by decide, by decide⟩ (Nat.le_of_ble_eq_true rfl) rfl ?_
        exact e_retI aX7_count_91 rfl rfl (pI_of h)
      · rcases of_ite h with ⟨hc4, h⟩ | ⟨hc4, h⟩
        · refine e_tableIn (off := 91) (tgt := 92) aX7_count_1 (by rw [hc4]; decide) (by rw [hc4]; decide) (by rw [hc4]; rfl) (by decide) ?_
          refine e_aload_n aX7_count_92 rfl ?_
          refine e_getR (r := 1) aX7_count_93 fX7_10 ly_0 rfl ?_
          obtain ⟨r15, hr15, h⟩ := of_bind h
          refine e_VI [] aX7_count_96 co_X2_tits mX7_190 ly_1 rfl rfl (c_X2_tits l x qa_1 hr15) rfl ⟨by decide, by decide⟩ (Nat.le_of_ble_eq_true rfl) rfl ?_
          refine e_iconst (v := 1) aX7_count_99 (by decide) ?_
          refine e_isub aX7_count_100 ?_
          exact e_retI aX7_count_101 rfl rfl (pI_of h)
        · rcases of_ite h with ⟨hc5, h⟩ | ⟨hc5, h⟩
          · refine e_tableIn (off := 101) (tgt := 102) aX7_count_1 (by rw [hc5]; decide) (by rw [hc5]; decide) (by rw [hc5]; rfl) (by decide) ?_
            refine e_aload_n aX7_count_102 rfl ?_
            obtain ⟨M16, hM16, h⟩ := of_bind h
            refine e_VV [] aX7_count_103 co_X7_findRoots mX7_194 ly_0 rfl rfl (c_X7_findRoots l x hM16) rfl ⟨by decide, by decide⟩ (Nat.le_of_ble_eq_true rfl) rfl ?_
            refine e_aload_n aX7_count_106 rfl ?_
            refine e_getR (r := 57) aX7_count_107 fX7_51 ly_0 rfl ?_
            refine e_getI aX7_count_110 fX7_197 ly_57 rfl ?_
            rcases of_ite h with ⟨hc17, h⟩ | ⟨hc17, h⟩
            · refine e_if_eq (tgt := 126) aX7_count_113 (by decide) (fun _ => ?_) (fun q => absurd hc17 q)
              refine e_ldc aX7_count_126 kX7_233 ?_
              exact e_retI aX7_count_128 rfl rfl (pI_of h)
            · refine e_if_eq (tgt := 126) aX7_count_113 (by decide) (fun q => absurd q hc17) (fun _ => ?_)
              refine e_aload_n aX7_count_116 rfl ?_
              refine e_getR (r := 57) aX7_count_117 fX7_51 ly_0 rfl ?_
              refine e_getI aX7_count_120 fX7_272 ly_57 rfl ?_
              refine e_goto (tgt := 128) aX7_count_123 (by decide) ?_
              exact e_retI aX7_count_128 rfl rfl (pI_of h)
          · rcases of_ite h with ⟨hc6, h⟩ | ⟨hc6, h⟩
            · refine e_tableIn (off := 128) (tgt := 129) aX7_count_1 (by rw [hc6]; decide) (by rw [hc6]; decide) (by rw [hc6]; rfl) (by decide) ?_
              refine e_aload_n aX7_count_129 rfl ?_
              obtain ⟨M18, hM18, h⟩ := of_bind h
              refine e_VV [] aX7_count_130 co_X7_findRoots mX7_194 ly_0 rfl rfl (c_X7_findRoots l x hM18) rfl ⟨by decide, by decide⟩ (Nat.le_of_ble_eq_true rfl) rfl ?_
              refine e_aload_n aX7_count_133 rfl ?_
              refine e_getR (r := 57) aX7_count_134 fX7_51 ly_0 rfl ?_
              refine e_getI aX7_count_137 fX7_197 ly_57 rfl ?_
              rcases of_ite h with ⟨hc19, h⟩ | ⟨hc19, h⟩
              · refine e_if_eq (tgt := 153) aX7_count_140 (by decide) (fun _ => ?_) (fun q => absurd hc19 q)
                refine e_ldc aX7_count_153 kX7_233 ?_
                exact e_retI aX7_count_155 rfl rfl (pI_of h)
              · refine e_if_eq (tgt := 153) aX7_count_140 (by decide) (fun q => absurd q hc19) (fun _ => ?_)
                refine e_aload_n aX7_count_143 rfl ?_
                refine e_getR (r := 57) aX7_count_144 fX7_51 ly_0 rfl ?_
                obtain ⟨r20, hr20, h⟩ := of_bind h
                refine e_VI [] aX7_count_147 co_X3_deepest mX7_273 ly_57 rfl rfl (c_X3_deepest l x hr20) rfl ⟨by decide, by decide⟩ (Nat.le_of_ble_eq_true rfl) rfl ?_
                refine e_goto (tgt := 155) aX7_count_150 (by decide) ?_
                exact e_retI aX7_count_155 rfl rfl (pI_of h)
            · rcases of_ite h with ⟨hc7, h⟩ | ⟨hc7, h⟩
              · refine e_tableIn (off := 155) (tgt := 156) aX7_count_1 (by rw [hc7]; decide) (by rw [hc7]; decide) (by rw [hc7]; rfl) (by decide) ?_
                refine e_aload_n aX7_count_156 rfl ?_
                refine e_getR (r := 1) aX7_count_157 fX7_10 ly_0 rfl ?_
                obtain ⟨r21, hr21, h⟩ := of_bind h
                refine e_VI [] aX7_count_160 co_X2_sinks mX7_276 ly_1 rfl rfl (c_X2_sinks l x qa_1 hr21) rfl ⟨by decide, by decide⟩ (Nat.le_of_ble_eq_true rfl) rfl ?_
                exact e_retI aX7_count_163 rfl rfl (pI_of h)
              · rcases of_ite h with ⟨hc8, h⟩ | ⟨hc8, h⟩
                · refine e_tableIn (off := 163) (tgt := 164) aX7_count_1 (by rw [hc8]; decide) (by rw [hc8]; decide) (by rw [hc8]; rfl) (by decide) ?_
                  refine e_aload_n aX7_count_164 rfl ?_
                  refine e_getR (r := 1) aX7_count_165 fX7_10 ly_0 rfl ?_
                  obtain ⟨r22, hr22, h⟩ := of_bind h
                  refine e_VI [] aX7_count_168 co_X2_sources mX7_279 ly_1 rfl rfl (c_X2_sources l x qa_1 hr22) rfl ⟨by decide, by decide⟩ (Nat.le_of_ble_eq_true rfl) rfl ?_
                  exact e_retI aX7_count_171 rfl rfl (pI_of h)
                · rcases of_ite h with ⟨hc9, h⟩ | ⟨hc9, h⟩
                  · refine e_tableIn (off := 171) (tgt := 172) aX7_count_1 (by rw [hc9]; decide) (by rw [hc9]; decide) (by rw [hc9]; rfl) (by decide) ?_
                    refine e_aload_n aX7_count_172 rfl ?_
                    obtain ⟨M23, hM23, h⟩ := of_bind h
                    refine e_VV [] aX7_count_173 co_X7_findWays mX7_130 ly_0 rfl rfl (c_X7_findWays l x hM23) rfl ⟨by decide, by decide⟩ (Nat.le_of_ble_eq_true rfl) rfl ?_
                    refine e_aload_n aX7_count_176 rfl ?_
                    refine e_getR (r := 47) aX7_count_177 fX7_44 ly_0 rfl ?_
                    refine e_aload_n aX7_count_180 rfl ?_
                    refine e_getR (r := 1) aX7_count_181 fX7_10 ly_0 rfl ?_
                    refine e_getI aX7_count_184 fX7_244 ly_1 rfl ?_
                    obtain ⟨r24, hr24, h⟩ := of_bind h
                    refine e_VI [] aX7_count_187 co_X6_allPaths mX7_282 ly_47 rfl rfl (c_X6_allPaths l x hr24) rfl ⟨by decide, by decide⟩ (Nat.le_of_ble_eq_true rfl) rfl ?_
                    exact e_retI aX7_count_190 rfl rfl (pI_of h)
                  · rcases of_ite h with ⟨hc10, h⟩ | ⟨hc10, h⟩
                    · refine e_tableIn (off := 190) (tgt := 191) aX7_count_1 (by rw [hc10]; decide) (by rw [hc10]; decide) (by rw [hc10]; rfl) (by decide) ?_
                      refine e_aload_n aX7_count_191 rfl ?_
                      refine e_getR (r := 1) aX7_count_192 fX7_10 ly_0 rfl ?_
                      obtain ⟨r25, hr25, h⟩ := of_bind h
                      refine e_VI [] aX7_count_195 co_X2_hangsTogether mX7_285 ly_1 rfl rfl (c_X2_hangsTogether l x qa_1 hr25) rfl ⟨by decide, by decide⟩ (Nat.le_of_ble_eq_true rfl) rfl ?_
                      rcases of_ite h with ⟨hc26, h⟩ | ⟨hc26, h⟩
                      · refine e_if_eq (tgt := 205) aX7_count_198 (by decide) (fun _ => ?_) (fun q => absurd hc26 q)
                        refine e_iconst (v := 0) aX7_count_205 (by decide) ?_
                        exact e_retI aX7_count_206 rfl rfl (pI_of h)
                      · refine e_if_eq (tgt := 205) aX7_count_198 (by decide) (fun q => absurd q hc26) (fun _ => ?_)
                        refine e_iconst (v := 1) aX7_count_201 (by decide) ?_
                        refine e_goto (tgt := 206) aX7_count_202 (by decide) ?_
                        exact e_retI aX7_count_206 rfl rfl (pI_of h)
                    · rcases of_ite h with ⟨hc11, h⟩ | ⟨hc11, h⟩
                      · refine e_tableIn (off := 206) (tgt := 207) aX7_count_1 (by rw [hc11]; decide) (by rw [hc11]; decide) (by rw [hc11]; rfl) (by decide) ?_
                        refine e_aload_n aX7_count_207 rfl ?_
                        obtain ⟨r27, hr27, h⟩ := of_bind h
                        refine e_VI [] aX7_count_208 co_X7_rowsOfAllShelves mX7_288 ly_0 rfl rfl (c_X7_rowsOfAllShelves l x hr27) rfl ⟨by decide, by decide⟩ (Nat.le_of_ble_eq_true rfl) rfl ?_
                        exact e_retI aX7_count_211 rfl rfl (pI_of h)
                      · rcases of_ite h with ⟨hc12, h⟩ | ⟨hc12, h⟩
                        · refine e_tableIn (off := 211) (tgt := 212) aX7_count_1 (by rw [hc12]; decide) (by rw [hc12]; decide) (by rw [hc12]; rfl) (by decide) ?_
                          refine e_aload_n aX7_count_212 rfl ?_
                          refine e_getR (r := 9) aX7_count_213 fX7_22 ly_0 rfl ?_
                          refine e_getI aX7_count_216 fX7_209 ly_9 rfl ?_
                          exact e_retI aX7_count_219 rfl rfl (pI_of h)
                        · rcases of_ite h with ⟨hc13, h⟩ | ⟨hc13, h⟩
                          · refine e_tableIn (off := 219) (tgt := 220) aX7_count_1 (by rw [hc13]; decide) (by rw [hc13]; decide) (by rw [hc13]; rfl) (by decide) ?_
                            refine e_aload_n aX7_count_220 rfl ?_
                            refine e_getR (r := 45) aX7_count_221 fX7_37 ly_0 rfl ?_
                            refine e_getI aX7_count_224 fX7_81 ly_45 rfl ?_
                            exact e_retI aX7_count_227 rfl rfl (pI_of h)
                          · refine e_tableOut (tgt := 228) aX7_count_1 (sw_out (n := 12) (by decide) (fun c hc => match c, hc with | 0, _ => hc1 | 1, _ => hc2 | 2, _ => hc3 | 3, _ => hc4 | 4, _ => hc5 | 5, _ => hc6 | 6, _ => hc7 | 7, _ => hc8 | 8, _ => hc9 | 9, _ => hc10 | 10, _ => hc11 | 11, _ => hc12 | 12, _ => hc13 | c + 13, hc => absurd hc (by omega))) (by decide) ?_
                            refine e_ldc aX7_count_228 kX7_80 ?_
                            exact e_retI aX7_count_230 rfl rfl (pI_of h)

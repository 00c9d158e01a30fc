def f_X8_in (i0 : Int64) (i2 : Int64) (i4 : Int64) (M : Mem) : Option Int32 :=
  if lg_cmp i0 i2 < 0 then
    some 0
  else
    if 0 < lg_cmp i0 i4 then
      some 0
    else
      some 1
set_option maxRecDepth 100000 in
set_option maxHeartbeats 4000000 in
theorem c_X8_in (l : Launch) (x : WX) {i0 : Int64} {i2 : Int64} {i4 : Int64} {M : Mem} {r : Int32}  (h : f_X8_in i0 i2 i4 M = some r) : Mt l x false yX8_in cX8_in 6 (some FieldType.boolean) 0 0 0 [.long i0, .long i2, .long i4] LAY M (pI r M) := by
  refine mt_of (L0 := [some (.long i0), none, some (.long i2), none, some (.long i4), none]) (by decide +kernel) rfl (Nat.le_of_ble_eq_true rfl) (lvA_of 0 rfl) ?_
  unfold f_X8_in at h
  refine e_lload_n aX8_in_0 rfl ?_
  refine e_lload_n aX8_in_1 rfl ?_
  refine e_lcmp aX8_in_2 ?_
  rcases of_ite h with ⟨hc1, h⟩ | ⟨hc1, h⟩
  · refine e_if_lt (tgt := 17) aX8_in_3 (by decide) (fun _ => ?_) (fun q => absurd hc1 q)
    refine e_iconst (v := 0) aX8_in_17 (by decide) ?_
    exact e_retI aX8_in_18 rfl (by decide +kernel) (pI_ro h)
  · refine e_if_lt (tgt := 17) aX8_in_3 (by decide) (fun q => absurd q hc1) (fun _ => ?_)
    refine e_lload_n aX8_in_6 rfl ?_
    refine e_lload aX8_in_7 rfl ?_
    refine e_lcmp aX8_in_9 ?_
    rcases of_ite h with ⟨hc2, h⟩ | ⟨hc2, h⟩
    · refine e_if_gt (tgt := 17) aX8_in_10 (by decide) (fun _ => ?_) (fun q => absurd hc2 q)
      refine e_iconst (v := 0) aX8_in_17 (by decide) ?_
      exact e_retI aX8_in_18 rfl (by decide +kernel) (pI_ro h)
    · refine e_if_gt (tgt := 17) aX8_in_10 (by decide) (fun q => absurd q hc2) (fun _ => ?_)
      refine e_iconst (v := 1) aX8_in_13 (by decide) ?_
      refine e_goto (tgt := 18) aX8_in_14 (by decide) ?_
      exact e_retI aX8_in_18 rfl (by decide +kernel) (pI_ro h)
def f_X8_isPoint (i1 : Int32) (M : Mem) : Option Int32 :=
  (f_X8_in i1.toInt64 0 (((M 176 0) - 1).toInt64) M).bind fun (r1 : Int32) =>
  if ¬ (r1 = 0 ∨ r1 = 1) then none else
  some r1
set_option maxRecDepth 100000 in
set_option maxHeartbeats 4000000 in
theorem c_X8_isPoint (l : Launch) (x : WX) {i1 : Int32} {M : Mem} {r : Int32}  (h : f_X8_isPoint i1 M = some r) : Mt l x false yX8_isPoint cX8_isPoint 2 (some FieldType.boolean) 1 0 0 [.ref (x.2.2.1 + 176), .int i1] LAY M (pI r M) := by
  refine mt_of (L0 := [some (.ref (x.2.2.1 + 176)), some (.int i1)]) (by decide +kernel) rfl (Nat.le_of_ble_eq_true rfl) (lvA_of 0 rfl) ?_
  unfold f_X8_isPoint at h
  refine e_iload_n aX8_isPoint_0 rfl ?_
  refine e_i2l aX8_isPoint_1 ?_
  refine e_lconst (v := 0) aX8_isPoint_2 (by decide) ?_
  refine e_aload_n aX8_isPoint_3 rfl ?_
  refine e_getI aX8_isPoint_4 fX8_7 ly_176 rfl ?_
  refine e_iconst (v := 1) aX8_isPoint_7 (by decide) ?_
  refine e_isub aX8_isPoint_8 ?_
  refine e_i2l aX8_isPoint_9 ?_
  obtain ⟨r1, hr1, h⟩ := of_bind h
  refine e_SI [] aX8_isPoint_10 co_X8_in mX8_72 (c_X8_in l x hr1) rfl ⟨by decide, by decide⟩ (Nat.le_of_ble_eq_true rfl) rfl ?_
  obtain ⟨hg2, h⟩ := of_guard h
  exact e_retI aX8_isPoint_13 rfl (nz_of (Decidable.of_not_not hg2)) (pI_ro h)
def s_X8_copyRow_2 (i1 : Int32) (i2 : Int32) (k : Int32 → Mem → Option Mem) (rec : Int32 → Mem → Option Mem) (i3 : Int32) (M : Mem) : Option Mem :=
  if 27 ≤ i3 then
    k i3 M
  else
    if i1 + i3 < 0 ∨ 297 ≤ (i1 + i3).toNatClampNeg then none else
    if i2 + i3 < 0 ∨ 297 ≤ (i2 + i3).toNatClampNeg then none else
    lt (um M 177 (i2 + i3).toNatClampNeg (M 177 (i1 + i3).toNatClampNeg)) fun (M4 : Mem) =>
    rec (i3 + 1) M4
def f_X8_copyRow_2 (i1 : Int32) (i2 : Int32) (k : Int32 → Mem → Option Mem) : Nat → Int32 → Mem → Option Mem
  | 0 => fun _ _ => none
  | n + 1 => fun i3 M => s_X8_copyRow_2 i1 i2 k (f_X8_copyRow_2 i1 i2 k n) i3 M
set_option maxRecDepth 100000 in
set_option maxHeartbeats 4000000 in
theorem w_X8_copyRow_2 (l : Launch) (x : WX) {i1 : Int32} {i2 : Int32} {k : Int32 → Mem → Option Mem} {r : Mem}  (K : ∀ (i3 : Int32) (M : Mem), k i3 M = some r → Ev l x false cX8_copyRow RX8 none 4 0 0 0 (pV r) 30 [some (.ref (x.2.2.1 + 176)), some (.int i1), some (.int i2), some (.int i3)] [] LAY M) : ∀ (n : Nat) (i3 : Int32) (M : Mem), f_X8_copyRow_2 i1 i2 k n i3 M = some r → Ev l x false cX8_copyRow RX8 none 4 0 0 0 (pV r) 2 [some (.ref (x.2.2.1 + 176)), some (.int i1), some (.int i2), some (.int i3)] [] LAY M := by
  intro n
  induction n with
  | zero =>
    intro i3 M h
    exact nomatch (show (none : Option Mem) = some r from h)
  | succ n ih =>
    intro i3 M h
    have h : s_X8_copyRow_2 i1 i2 k (f_X8_copyRow_2 i1 i2 k n) i3 M = some r := h
    unfold s_X8_copyRow_2 at h
    refine e_iload_n aX8_copyRow_2 rfl ?_
    refine e_bipush (v := 27) aX8_copyRow_3 (by decide) ?_
    rcases of_ite h with ⟨hc1, h⟩ | ⟨hc1, h⟩
    · refine e_icmp_ge (tgt := 30) aX8_copyRow_5 (by decide) (fun _ => ?_) (fun q => absurd hc1 q)
      exact K _ _ h
    · refine e_icmp_ge (tgt := 30) aX8_copyRow_5 (by decide) (fun q => absurd q hc1) (fun _ => ?_)
      refine e_aload_n aX8_copyRow_8 rfl ?_
      refine e_getR (r := 177) aX8_copyRow_9 fX8_13 ly_176 rfl ?_
      refine e_iload_n aX8_copyRow_12 rfl ?_
      refine e_iload_n aX8_copyRow_13 rfl ?_
      refine e_iadd aX8_copyRow_14 ?_
      refine e_aload_n aX8_copyRow_15 rfl ?_
      refine e_getR (r := 177) aX8_copyRow_16 fX8_13 ly_176 rfl ?_
      refine e_iload_n aX8_copyRow_19 rfl ?_
      refine e_iload_n aX8_copyRow_20 rfl ?_
      refine e_iadd aX8_copyRow_21 ?_
      obtain ⟨hg2, h⟩ := of_guard h
      refine e_iald aX8_copyRow_22 ly_177 hg2 ?_
      obtain ⟨hg3, h⟩ := of_guard h
      obtain ⟨M4, eM4, h⟩ := of_lt h
      refine e_ist aX8_copyRow_23 ly_177 hg3 eM4 ?_
      refine e_iinc (v := i3 + 1) (L2 := [some (.ref (x.2.2.1 + 176)), some (.int i1), some (.int i2), some (.int (i3 + 1))]) aX8_copyRow_24 rfl rfl ⟨by decide, rfl⟩ rfl ?_
      refine e_goto (tgt := 2) aX8_copyRow_27 (by decide) ?_
      exact ih _ _ h
def f_X8_copyRow (i1 : Int32) (i2 : Int32) (M : Mem) : Option Mem :=
  f_X8_copyRow_2 i1 i2 (fun (i3_1 : Int32) (M2 : Mem) =>
    some M2) FU 0 M
set_option maxRecDepth 100000 in
set_option maxHeartbeats 4000000 in
theorem c_X8_copyRow (l : Launch) (x : WX) {i1 : Int32} {i2 : Int32} {M : Mem} {r : Mem}  (h : f_X8_copyRow i1 i2 M = some r) : Mt l x false yX8_copyRow cX8_copyRow 4 none 0 0 0 [.ref (x.2.2.1 + 176), .int i1, .int i2] LAY M (pV r) := by
  refine mt_of (L0 := [some (.ref (x.2.2.1 + 176)), some (.int i1), some (.int i2), none]) (by decide +kernel) rfl (Nat.le_of_ble_eq_true rfl) (lvA_of 1 rfl) ?_
  unfold f_X8_copyRow at h
  refine e_iconst (v := 0) aX8_copyRow_0 (by decide) ?_
  refine e_istore_n (L2 := [some (.ref (x.2.2.1 + 176)), some (.int i1), some (.int i2), some (.int 0)]) aX8_copyRow_1 ⟨by decide, rfl⟩ rfl ?_
  refine w_X8_copyRow_2 l x  (fun i3_1 M2 h => ?_) FU _ _ h
  exact e_ret0 aX8_copyRow_30 rfl (pV_of h)
def f_X8_write (i1 : Int32) (M : Mem) : Option (Int32 × Mem) :=
  (f_X8_in i1.toInt64 0 255 M).bind fun (r1 : Int32) =>
  if r1 = 0 then
    some ((-1000002), M)
  else
    if M 176 5 = 200 then
      some ((-1000004), M)
    else
      if M 176 5 < 0 ∨ 200 ≤ (M 176 5).toNatClampNeg then none else
      lt (um M 179 (M 176 5).toNatClampNeg i1) fun (M5 : Mem) =>
      lt (um M5 176 5 ((M5 176 5) + 1)) fun (M6 : Mem) =>
      some (M6 176 5, M6)
set_option maxRecDepth 100000 in
set_option maxHeartbeats 4000000 in
theorem c_X8_write (l : Launch) (x : WX) {i1 : Int32} {M : Mem} {r : (Int32 × Mem)}  (h : f_X8_write i1 M = some r) : Mt l x false yX8_write cX8_write 2 (some FieldType.int) 1 0 0 [.ref (x.2.2.1 + 176), .int i1] LAY M (pI r.1 r.2) := by
  refine mt_of (L0 := [some (.ref (x.2.2.1 + 176)), some (.int i1)]) (by decide +kernel) rfl (Nat.le_of_ble_eq_true rfl) (lvA_of 0 rfl) ?_
  unfold f_X8_write at h
  refine e_iload_n aX8_write_0 rfl ?_
  refine e_i2l aX8_write_1 ?_
  refine e_lconst (v := 0) aX8_write_2 (by decide) ?_
  refine e_ldc2_w aX8_write_3 kX8_76 ?_
  obtain ⟨r1, hr1, h⟩ := of_bind h
  refine e_SI [] aX8_write_6 co_X8_in mX8_72 (c_X8_in l x hr1) rfl ⟨by decide, by decide⟩ (Nat.le_of_ble_eq_true rfl) rfl ?_
  rcases of_ite h with ⟨hc2, h⟩ | ⟨hc2, h⟩
  · refine e_if_ne (tgt := 15) aX8_write_9 (by decide) (fun q => absurd hc2 q) (fun _ => ?_)
    refine e_ldc aX8_write_12 kX8_78 ?_
    exact e_retI aX8_write_14 rfl rfl (pI_of h)
  · refine e_if_ne (tgt := 15) aX8_write_9 (by decide) (fun _ => ?_) (fun q => absurd q hc2)
    refine e_aload_n aX8_write_15 rfl ?_
    refine e_getI aX8_write_16 fX8_79 ly_176 rfl ?_
    refine e_sipush (v := 200) aX8_write_19 (by decide) ?_
    rcases of_ite h with ⟨hc3, h⟩ | ⟨hc3, h⟩
    · refine e_icmp_ne (tgt := 28) aX8_write_22 (by decide) (fun q => absurd hc3 q) (fun _ => ?_)
      refine e_ldc aX8_write_25 kX8_82 ?_
      exact e_retI aX8_write_27 rfl rfl (pI_of h)
    · refine e_icmp_ne (tgt := 28) aX8_write_22 (by decide) (fun _ => ?_) (fun q => absurd q hc3)
      refine e_aload_n aX8_write_28 rfl ?_
      refine e_getR (r := 179) aX8_write_29 fX8_21 ly_176 rfl ?_
      refine e_aload_n aX8_write_32 rfl ?_
      refine e_getI aX8_write_33 fX8_79 ly_176 rfl ?_
      refine e_iload_n aX8_write_36 rfl ?_
      obtain ⟨hg4, h⟩ := of_guard h
      obtain ⟨M5, eM5, h⟩ := of_lt h
      refine e_ist aX8_write_37 ly_179 hg4 eM5 ?_
      refine e_aload_n aX8_write_38 rfl ?_
      refine e_dupR aX8_write_39 ?_
      refine e_getI aX8_write_40 fX8_79 ly_176 rfl ?_
      refine e_iconst (v := 1) aX8_write_43 (by decide) ?_
      refine e_iadd aX8_write_44 ?_
      obtain ⟨M6, eM6, h⟩ := of_lt h
      refine e_put aX8_write_45 qX8_79 ly_176 rfl (fi_of _) eM6 ?_
      refine e_aload_n aX8_write_48 rfl ?_
      refine e_getI aX8_write_49 fX8_79 ly_176 rfl ?_
      exact e_retI aX8_write_52 rfl rfl (pI_of h)
def f_X8_erase  (M : Mem) : Option (Int32 × Mem) :=
  lt (M 176 5) fun (v1 : Int32) =>
  lt (um M 176 5 0) fun (M2 : Mem) =>
  some (v1, M2)
set_option maxRecDepth 100000 in
set_option maxHeartbeats 4000000 in
theorem c_X8_erase (l : Launch) (x : WX)  {M : Mem} {r : (Int32 × Mem)}  (h : f_X8_erase  M = some r) : Mt l x false yX8_erase cX8_erase 2 (some FieldType.int) 0 0 0 [.ref (x.2.2.1 + 176)] LAY M (pI r.1 r.2) := by
  refine mt_of (L0 := [some (.ref (x.2.2.1 + 176)), none]) (by decide +kernel) rfl (Nat.le_of_ble_eq_true rfl) (lvA_of 1 rfl) ?_
  unfold f_X8_erase at h
  refine e_aload_n aX8_erase_0 rfl ?_
  refine e_getI aX8_erase_1 fX8_79 ly_176 rfl ?_
  obtain ⟨v1, ev1, h⟩ := of_lt h
  refine e_nameI ev1 ?_
  refine e_istore_n (L2 := [some (.ref (x.2.2.1 + 176)), some (.int v1)]) aX8_erase_4 ⟨by decide, rfl⟩ rfl ?_
  refine e_aload_n aX8_erase_5 rfl ?_
  refine e_iconst (v := 0) aX8_erase_6 (by decide) ?_
  obtain ⟨M2, eM2, h⟩ := of_lt h
  refine e_put aX8_erase_7 qX8_79 ly_176 rfl (fi_of _) eM2 ?_
  refine e_iload_n aX8_erase_10 rfl ?_
  exact e_retI aX8_erase_11 rfl rfl (pI_of h)
def f_X8_isSmall (i0 : Int32) (M : Mem) : Option Int32 :=
  (f_X8_in i0.toInt64 97 122 M).bind fun (r1 : Int32) =>
  if ¬ (r1 = 0 ∨ r1 = 1) then none else
  some r1
set_option maxRecDepth 100000 in
set_option maxHeartbeats 4000000 in
theorem c_X8_isSmall (l : Launch) (x : WX) {i0 : Int32} {M : Mem} {r : Int32}  (h : f_X8_isSmall i0 M = some r) : Mt l x false yX8_isSmall cX8_isSmall 1 (some FieldType.boolean) 1 0 0 [.int i0] LAY M (pI r M) := by
  refine mt_of (L0 := [some (.int i0)]) (by decide +kernel) rfl (Nat.le_of_ble_eq_true rfl) (lvA_of 0 rfl) ?_
  unfold f_X8_isSmall at h
  refine e_iload_n aX8_isSmall_0 rfl ?_
  refine e_i2l aX8_isSmall_1 ?_
  refine e_ldc2_w aX8_isSmall_2 kX8_83 ?_
  refine e_ldc2_w aX8_isSmall_5 kX8_85 ?_
  obtain ⟨r1, hr1, h⟩ := of_bind h
  refine e_SI [] aX8_isSmall_8 co_X8_in mX8_72 (c_X8_in l x hr1) rfl ⟨by decide, by decide⟩ (Nat.le_of_ble_eq_true rfl) rfl ?_
  obtain ⟨hg2, h⟩ := of_guard h
  exact e_retI aX8_isSmall_11 rfl (nz_of (Decidable.of_not_not hg2)) (pI_ro h)
def f_X8_isDigit (i0 : Int32) (M : Mem) : Option Int32 :=
  (f_X8_in i0.toInt64 48 57 M).bind fun (r1 : Int32) =>
  if ¬ (r1 = 0 ∨ r1 = 1) then none else
  some r1
set_option maxRecDepth 100000 in
set_option maxHeartbeats 4000000 in
theorem c_X8_isDigit (l : Launch) (x : WX) {i0 : Int32} {M : Mem} {r : Int32}  (h : f_X8_isDigit i0 M = some r) : Mt l x false yX8_isDigit cX8_isDigit 1 (some FieldType.boolean) 1 0 0 [.int i0] LAY M (pI r M) := by
  refine mt_of (L0 := [some (.int i0)]) (by decide +kernel) rfl (Nat.le_of_ble_eq_true rfl) (lvA_of 0 rfl) ?_
  unfold f_X8_isDigit at h
  refine e_iload_n aX8_isDigit_0 rfl ?_
  refine e_i2l aX8_isDigit_1 ?_
  refine e_ldc2_w aX8_isDigit_2 kX8_87 ?_
  refine e_ldc2_w aX8_isDigit_5 kX8_89 ?_
  obtain ⟨r1, hr1, h⟩ := of_bind h
  refine e_SI [] aX8_isDigit_8 co_X8_in mX8_72 (c_X8_in l x hr1) rfl ⟨by decide, by decide⟩ (Nat.le_of_ble_eq_true rfl) rfl ?_
  obtain ⟨hg2, h⟩ := of_guard h
  exact e_retI aX8_isDigit_11 rfl (nz_of (Decidable.of_not_not hg2)) (pI_ro h)
def s_X8_nextToken_8  (k : Mem → Option Mem) (rec : Mem → Option Mem) (M : Mem) : Option Mem :=
  if M 176 5 ≤ M 176 15 then
    k M
  else
    if M 176 15 < 0 ∨ 200 ≤ (M 176 15).toNatClampNeg then none else
    if M 179 (M 176 15).toNatClampNeg = 32 then
      lt (um M 176 15 ((M 176 15) + 1)) fun (M4 : Mem) =>
      rec M4
    else
      k M
def f_X8_nextToken_8  (k : Mem → Option Mem) : Nat → Mem → Option Mem
  | 0 => fun _ => none
  | n + 1 => fun M => s_X8_nextToken_8  k (f_X8_nextToken_8  k n) M
set_option maxRecDepth 100000 in
set_option maxHeartbeats 4000000 in
theorem w_X8_nextToken_8 (l : Launch) (x : WX)  {k : Mem → Option Mem} {r : Mem}  (K : ∀ (M : Mem), k M = some r → Ev l x false cX8_nextToken RX8 none 1 2 0 0 (pV r) 46 [some (.ref (x.2.2.1 + 176))] [] LAY M) : ∀ (n : Nat) (M : Mem), f_X8_nextToken_8  k n M = some r → Ev l x false cX8_nextToken RX8 none 1 2 0 0 (pV r) 8 [some (.ref (x.2.2.1 + 176))] [] LAY M := by
  intro n
  induction n with
  | zero =>
    intro M h
    exact nomatch (show (none : Option Mem) = some r from h)
  | succ n ih =>
    intro M h
    have h : s_X8_nextToken_8  k (f_X8_nextToken_8  k n) M = some r := h
    unfold s_X8_nextToken_8 at h
    refine e_aload_n aX8_nextToken_8 rfl ?_
    refine e_getI aX8_nextToken_9 fX8_94 ly_176 rfl ?_
    refine e_aload_n aX8_nextToken_12 rfl ?_
    refine e_getI aX8_nextToken_13 fX8_79 ly_176 rfl ?_
    rcases of_ite h with ⟨hc1, h⟩ | ⟨hc1, h⟩
    · refine e_icmp_ge (tgt := 46) aX8_nextToken_16 (by decide) (fun _ => ?_) (fun q => absurd hc1 q)
      exact K _ h
    · refine e_icmp_ge (tgt := 46) aX8_nextToken_16 (by decide) (fun q => absurd q hc1) (fun _ => ?_)
      refine e_aload_n aX8_nextToken_19 rfl ?_
      refine e_getR (r := 179) aX8_nextToken_20 fX8_21 ly_176 rfl ?_
      refine e_aload_n aX8_nextToken_23 rfl ?_
      refine e_getI aX8_nextToken_24 fX8_94 ly_176 rfl ?_
      obtain ⟨hg2, h⟩ := of_guard h
      refine e_iald aX8_nextToken_27 ly_179 hg2 ?_
      refine e_bipush (v := 32) aX8_nextToken_28 (by decide) ?_
      rcases of_ite h with ⟨hc3, h⟩ | ⟨hc3, h⟩
      · refine e_icmp_ne (tgt := 46) aX8_nextToken_30 (by decide) (fun q => absurd hc3 q) (fun _ => ?_)
        refine e_aload_n aX8_nextToken_33 rfl ?_
        refine e_dupR aX8_nextToken_34 ?_
        refine e_getI aX8_nextToken_35 fX8_94 ly_176 rfl ?_
        refine e_iconst (v := 1) aX8_nextToken_38 (by decide) ?_
        refine e_iadd aX8_nextToken_39 ?_
        obtain ⟨M4, eM4, h⟩ := of_lt h
        refine e_put aX8_nextToken_40 qX8_94 ly_176 rfl (fi_of _) eM4 ?_
        refine e_goto (tgt := 8) aX8_nextToken_43 (by decide) ?_
        exact ih _ h
      · refine e_icmp_ne (tgt := 46) aX8_nextToken_30 (by decide) (fun _ => ?_) (fun q => absurd q hc3)
        exact K _ h
def s_X8_nextToken_165  (k : Mem → Option Mem) (rec : Mem → Option Mem) (M : Mem) : Option Mem :=
  if M 176 5 ≤ M 176 16 then
    k M
  else
    if M 176 16 < 0 ∨ 200 ≤ (M 176 16).toNatClampNeg then none else
    (f_X8_isDigit (M 179 (M 176 16).toNatClampNeg) M).bind fun (r3 : Int32) =>
    if r3 = 0 then
      k M
    else
      lt (um M 176 16 ((M 176 16) + 1)) fun (M5 : Mem) =>
      rec M5
def f_X8_nextToken_165  (k : Mem → Option Mem) : Nat → Mem → Option Mem
  | 0 => fun _ => none
  | n + 1 => fun M => s_X8_nextToken_165  k (f_X8_nextToken_165  k n) M
set_option maxRecDepth 100000 in
set_option maxHeartbeats 4000000 in
theorem w_X8_nextToken_165 (l : Launch) (x : WX)  {k : Mem → Option Mem} {r : Mem}  (K : ∀ (M : Mem), k M = some r → Ev l x false cX8_nextToken RX8 none 1 2 0 0 (pV r) 204 [some (.ref (x.2.2.1 + 176))] [] LAY M) : ∀ (n : Nat) (M : Mem), f_X8_nextToken_165  k n M = some r → Ev l x false cX8_nextToken RX8 none 1 2 0 0 (pV r) 165 [some (.ref (x.2.2.1 + 176))] [] LAY M := by
  intro n
  induction n with
  | zero =>
    intro M h
    exact nomatch (show (none : Option Mem) = some r from h)
  | succ n ih =>
    intro M h
    have h : s_X8_nextToken_165  k (f_X8_nextToken_165  k n) M = some r := h
    unfold s_X8_nextToken_165 at h
    refine e_aload_n aX8_nextToken_165 rfl ?_
    refine e_getI aX8_nextToken_166 fX8_91 ly_176 rfl ?_
    refine e_aload_n aX8_nextToken_169 rfl ?_
    refine e_getI aX8_nextToken_170 fX8_79 ly_176 rfl ?_
    rcases of_ite h with ⟨hc1, h⟩ | ⟨hc1, h⟩
    · refine e_icmp_ge (tgt := 204) aX8_nextToken_173 (by decide) (fun _ => ?_) (fun q => absurd hc1 q)
      exact K _ h
    · refine e_icmp_ge (tgt := 204) aX8_nextToken_173 (by decide) (fun q => absurd q hc1) (fun _ => ?_)
      refine e_aload_n aX8_nextToken_176 rfl ?_
      refine e_getR (r := 179) aX8_nextToken_177 fX8_21 ly_176 rfl ?_
      refine e_aload_n aX8_nextToken_180 rfl ?_
      refine e_getI aX8_nextToken_181 fX8_91 ly_176 rfl ?_
      obtain ⟨hg2, h⟩ := of_guard h
      refine e_iald aX8_nextToken_184 ly_179 hg2 ?_
      obtain ⟨r3, hr3, h⟩ := of_bind h
      refine e_SI [] aX8_nextToken_185 co_X8_isDigit mX8_101 (c_X8_isDigit l x hr3) rfl ⟨by decide, by decide⟩ (Nat.le_of_ble_eq_true rfl) rfl ?_
      rcases of_ite h with ⟨hc4, h⟩ | ⟨hc4, h⟩
      · refine e_if_eq (tgt := 204) aX8_nextToken_188 (by decide) (fun _ => ?_) (fun q => absurd hc4 q)
        exact K _ h
      · refine e_if_eq (tgt := 204) aX8_nextToken_188 (by decide) (fun q => absurd q hc4) (fun _ => ?_)
        refine e_aload_n aX8_nextToken_191 rfl ?_
        refine e_dupR aX8_nextToken_192 ?_
        refine e_getI aX8_nextToken_193 fX8_91 ly_176 rfl ?_
        refine e_iconst (v := 1) aX8_nextToken_196 (by decide) ?_
        refine e_iadd aX8_nextToken_197 ?_
        obtain ⟨M5, eM5, h⟩ := of_lt h
        refine e_put aX8_nextToken_198 qX8_91 ly_176 rfl (fi_of _) eM5 ?_
        refine e_goto (tgt := 165) aX8_nextToken_201 (by decide) ?_
        exact ih _ h
def s_X8_nextToken_100  (k : Mem → Option Mem) (rec : Mem → Option Mem) (M : Mem) : Option Mem :=
  if M 176 5 ≤ M 176 16 then
    k M
  else
    if M 176 16 < 0 ∨ 200 ≤ (M 176 16).toNatClampNeg then none else
    (f_X8_isSmall (M 179 (M 176 16).toNatClampNeg) M).bind fun (r3 : Int32) =>
    if r3 = 0 then
      k M
    else
      lt (um M 176 16 ((M 176 16) + 1)) fun (M5 : Mem) =>
      rec M5
def f_X8_nextToken_100  (k : Mem → Option Mem) : Nat → Mem → Option Mem
  | 0 => fun _ => none
  | n + 1 => fun M => s_X8_nextToken_100  k (f_X8_nextToken_100  k n) M
set_option maxRecDepth 100000 in
set_option maxHeartbeats 4000000 in
theorem w_X8_nextToken_100 (l : Launch) (x : WX)  {k : Mem → Option Mem} {r : Mem}  (K : ∀ (M : Mem), k M = some r → Ev l x false cX8_nextToken RX8 none 1 2 0 0 (pV r) 204 [some (.ref (x.2.2.1 + 176))] [] LAY M) : ∀ (n : Nat) (M : Mem), f_X8_nextToken_100  k n M = some r → Ev l x false cX8_nextToken RX8 none 1 2 0 0 (pV r) 100 [some (.ref (x.2.2.1 + 176))] [] LAY M := by
  intro n
  induction n with
  | zero =>
    intro M h
    exact nomatch (show (none : Option Mem) = some r from h)
  | succ n ih =>
    intro M h
    have h : s_X8_nextToken_100  k (f_X8_nextToken_100  k n) M = some r := h
    unfold s_X8_nextToken_100 at h
    refine e_aload_n aX8_nextToken_100 rfl ?_
    refine e_getI aX8_nextToken_101 fX8_91 ly_176 rfl ?_
    refine e_aload_n aX8_nextToken_104 rfl ?_
    refine e_getI aX8_nextToken_105 fX8_79 ly_176 rfl ?_
    rcases of_ite h with ⟨hc1, h⟩ | ⟨hc1, h⟩
    · refine e_icmp_ge (tgt := 204) aX8_nextToken_108 (by decide) (fun _ => ?_) (fun q => absurd hc1 q)
      exact K _ h
    · refine e_icmp_ge (tgt := 204) aX8_nextToken_108 (by decide) (fun q => absurd q hc1) (fun _ => ?_)
      refine e_aload_n aX8_nextToken_111 rfl ?_
      refine e_getR (r := 179) aX8_nextToken_112 fX8_21 ly_176 rfl ?_
      refine e_aload_n aX8_nextToken_115 rfl ?_
      refine e_getI aX8_nextToken_116 fX8_91 ly_176 rfl ?_
      obtain ⟨hg2, h⟩ := of_guard h
      refine e_iald aX8_nextToken_119 ly_179 hg2 ?_
      obtain ⟨r3, hr3, h⟩ := of_bind h
      refine e_SI [] aX8_nextToken_120 co_X8_isSmall mX8_97 (c_X8_isSmall l x hr3) rfl ⟨by decide, by decide⟩ (Nat.le_of_ble_eq_true rfl) rfl ?_
      rcases of_ite h with ⟨hc4, h⟩ | ⟨hc4, h⟩
      · refine e_if_eq (tgt := 204) aX8_nextToken_123 (by decide) (fun _ => ?_) (fun q => absurd hc4 q)
        exact K _ h
      · refine e_if_eq (tgt := 204) aX8_nextToken_123 (by decide) (fun q => absurd q hc4) (fun _ => ?_)
        refine e_aload_n aX8_nextToken_126 rfl ?_
        refine e_dupR aX8_nextToken_127 ?_
        refine e_getI aX8_nextToken_128 fX8_91 ly_176 rfl ?_
        refine e_iconst (v := 1) aX8_nextToken_131 (by decide) ?_
        refine e_iadd aX8_nextToken_132 ?_
        obtain ⟨M5, eM5, h⟩ := of_lt h
        refine e_put aX8_nextToken_133 qX8_91 ly_176 rfl (fi_of _) eM5 ?_
        refine e_goto (tgt := 100) aX8_nextToken_136 (by decide) ?_
        exact ih _ h
def f_X8_nextToken  (M : Mem) : Option Mem :=
  lt (um M 176 15 (M 176 16)) fun (M1 : Mem) =>
  f_X8_nextToken_8  (fun (M2 : Mem) =>
    if M2 176 5 ≤ M2 176 15 then
      lt (um M2 176 16 (M2 176 15)) fun (M4 : Mem) =>
      if M4 176 5 ≤ M4 176 15 then
        if M4 176 5 ≤ M4 176 15 then
          some M4
        else
          if M4 176 15 < 0 ∨ 200 ≤ (M4 176 15).toNatClampNeg then none else
          (f_X8_isDigit (M4 179 (M4 176 15).toNatClampNeg) M4).bind fun (r8 : Int32) =>
          if r8 = 0 then
            some M4
          else
            f_X8_nextToken_165  (fun (M10 : Mem) =>
              some M10) FU M4
      else
        if M4 176 15 < 0 ∨ 200 ≤ (M4 176 15).toNatClampNeg then none else
        (f_X8_isSmall (M4 179 (M4 176 15).toNatClampNeg) M4).bind fun (r12 : Int32) =>
        if r12 = 0 then
          if M4 176 5 ≤ M4 176 15 then
            some M4
          else
            if M4 176 15 < 0 ∨ 200 ≤ (M4 176 15).toNatClampNeg then none else
            (f_X8_isDigit (M4 179 (M4 176 15).toNatClampNeg) M4).bind fun (r16 : Int32) =>
            if r16 = 0 then
              some M4
            else
              f_X8_nextToken_165  (fun (M18 : Mem) =>
                some M18) FU M4
        else
          f_X8_nextToken_100  (fun (M19 : Mem) =>
            some M19) FU M4
    else
      lt (um M2 176 16 ((M2 176 15) + 1)) fun (M20 : Mem) =>
      if M20 176 5 ≤ M20 176 15 then
        if M20 176 5 ≤ M20 176 15 then
          some M20
        else
          if M20 176 15 < 0 ∨ 200 ≤ (M20 176 15).toNatClampNeg then none else
          (f_X8_isDigit (M20 179 (M20 176 15).toNatClampNeg) M20).bind fun (r24 : Int32) =>
          if r24 = 0 then
            some M20
          else
            f_X8_nextToken_165  (fun (M26 : Mem) =>
              some M26) FU M20
      else
        if M20 176 15 < 0 ∨ 200 ≤ (M20 176 15).toNatClampNeg then none else
        (f_X8_isSmall (M20 179 (M20 176 15).toNatClampNeg) M20).bind fun (r28 : Int32) =>
        if r28 = 0 then
          if M20 176 5 ≤ M20 176 15 then
            some M20
          else
            if M20 176 15 < 0 ∨ 200 ≤ (M20 176 15).toNatClampNeg then none else
            (f_X8_isDigit (M20 179 (M20 176 15).toNatClampNeg) M20).bind fun (r32 : Int32) =>
            if r32 = 0 then
              some M20
            else
              f_X8_nextToken_165  (fun (M34 : Mem) =>
                some M34) FU M20
        else
          f_X8_nextToken_100  (fun (M35 : Mem) =>
            some M35) FU M20) FU M1
set_option maxRecDepth 100000 in
set_option maxHeartbeats 4000000 in
theorem c_X8_nextToken (l : Launch) (x : WX)  {M : Mem} {r : Mem}  (h : f_X8_nextToken  M = some r) : Mt l x false yX8_nextToken cX8_nextToken 1 none 2 0 0 [.ref (x.2.2.1 + 176)] LAY M (pV r) := by
  refine mt_of (L0 := [some (.ref (x.2.2.1 + 176))]) (by decide +kernel) rfl (Nat.le_of_ble_eq_true rfl) (lvA_of 0 rfl) ?_
  unfold f_X8_nextToken at h
  refine e_aload_n aX8_nextToken_0 rfl ?_
  refine e_aload_n aX8_nextToken_1 rfl ?_
  refine e_getI aX8_nextToken_2 fX8_91 ly_176 rfl ?_
  obtain ⟨M1, eM1, h⟩ := of_lt h
  refine e_put aX8_nextToken_5 qX8_94 ly_176 rfl (fi_of _) eM1 ?_
  refine w_X8_nextToken_8 l x  (fun M2 h => ?_) FU _ h
  refine e_aload_n aX8_nextToken_46 rfl ?_
  refine e_aload_n aX8_nextToken_47 rfl ?_
  refine e_getI aX8_nextToken_48 fX8_94 ly_176 rfl ?_
  refine e_aload_n aX8_nextToken_51 rfl ?_
  refine e_getI aX8_nextToken_52 fX8_79 ly_176 rfl ?_
  rcases of_ite h with ⟨hc3, h⟩ | ⟨hc3, h⟩
  · refine e_icmp_ge (tgt := 67) aX8_nextToken_55 (by decide) (fun _ => ?_) (fun q => absurd hc3 q)
    refine e_aload_n aX8_nextToken_67 rfl ?_
    refine e_getI aX8_nextToken_68 fX8_94 ly_176 rfl ?_
    obtain ⟨M4, eM4, h⟩ := of_lt h
    refine e_put aX8_nextToken_71 qX8_91 ly_176 rfl (fi_of _) eM4 ?_
    refine e_aload_n aX8_nextToken_74 rfl ?_
    refine e_getI aX8_nextToken_75 fX8_94 ly_176 rfl ?_
    refine e_aload_n aX8_nextToken_78 rfl ?_
    refine e_getI aX8_nextToken_79 fX8_79 ly_176 rfl ?_
    rcases of_ite h with ⟨hc5, h⟩ | ⟨hc5, h⟩
    · refine e_icmp_ge (tgt := 139) aX8_nextToken_82 (by decide) (fun _ => ?_) (fun q => absurd hc5 q)
      refine e_aload_n aX8_nextToken_139 rfl ?_
      refine e_getI aX8_nextToken_140 fX8_94 ly_176 rfl ?_
      refine e_aload_n aX8_nextToken_143 rfl ?_
      refine e_getI aX8_nextToken_144 fX8_79 ly_176 rfl ?_
      rcases of_ite h with ⟨hc6, h⟩ | ⟨hc6, h⟩
      · refine e_icmp_ge (tgt := 204) aX8_nextToken_147 (by decide) (fun _ => ?_) (fun q => absurd hc6 q)
        exact e_ret0 aX8_nextToken_204 rfl (pV_of h)
      · refine e_icmp_ge (tgt := 204) aX8_nextToken_147 (by decide) (fun q => absurd q hc6) (fun _ => ?_)
        refine e_aload_n aX8_nextToken_150 rfl ?_
        refine e_getR (r := 179) aX8_nextToken_151 fX8_21 ly_176 rfl ?_
        refine e_aload_n aX8_nextToken_154 rfl ?_
        refine e_getI aX8_nextToken_155 fX8_94 ly_176 rfl ?_
        obtain ⟨hg7, h⟩ := of_guard h
        refine e_iald aX8_nextToken_158 ly_179 hg7 ?_
        obtain ⟨r8, hr8, h⟩ := of_bind h
        refine e_SI [] aX8_nextToken_159 co_X8_isDigit mX8_101 (c_X8_isDigit l x hr8) rfl ⟨by decide, by decide⟩ (Nat.le_of_ble_eq_true rfl) rfl ?_
        rcases of_ite h with ⟨hc9, h⟩ | ⟨hc9, h⟩
        · refine e_if_eq (tgt := 204) aX8_nextToken_162 (by decide) (fun _ => ?_) (fun q => absurd hc9 q)
          exact e_ret0 aX8_nextToken_204 rfl (pV_of h)
        · refine e_if_eq (tgt := 204) aX8_nextToken_162 (by decide) (fun q => absurd q hc9) (fun _ => ?_)
          refine w_X8_nextToken_165 l x  (fun M10 h => ?_) FU _ h
          exact e_ret0 aX8_nextToken_204 rfl (pV_of h)
    · refine e_icmp_ge (tgt := 139) aX8_nextToken_82 (by decide) (fun q => absurd q hc5) (fun _ => ?_)
      refine e_aload_n aX8_nextToken_85 rfl ?_
      refine e_getR (r := 179) aX8_nextToken_86 fX8_21 ly_176 rfl ?_
      refine e_aload_n aX8_nextToken_89 rfl ?_
      refine e_getI aX8_nextToken_90 fX8_94 ly_176 rfl ?_
      obtain ⟨hg11, h⟩ := of_guard h
      refine e_iald aX8_nextToken_93 ly_179 hg11 ?_
      obtain ⟨r12, hr12, h⟩ := of_bind h
      refine e_SI [] aX8_nextToken_94 co_X8_isSmall mX8_97 (c_X8_isSmall l x hr12) rfl ⟨by decide, by decide⟩ (Nat.le_of_ble_eq_true rfl) rfl ?_
      rcases of_ite h with ⟨hc13, h⟩ | ⟨hc13, h⟩
      · refine e_if_eq (tgt := 139) aX8_nextToken_97 (by decide) (fun _ => ?_) (fun q => absurd hc13 q)
        refine e_aload_n aX8_nextToken_139 rfl ?_
        refine e_getI aX8_nextToken_140 fX8_94 ly_176 rfl ?_
        refine e_aload_n aX8_nextToken_143 rfl ?_
        refine e_getI aX8_nextToken_144 fX8_79 ly_176 rfl ?_
        rcases of_ite h with ⟨hc14, h⟩ | ⟨hc14, h⟩
        · refine e_icmp_ge (tgt := 204) aX8_nextToken_147 (by decide) (fun _ => ?_) (fun q => absurd hc14 q)
          exact e_ret0 aX8_nextToken_204 rfl (pV_of h)
        · refine e_icmp_ge (tgt := 204) aX8_nextToken_147 (by decide) (fun q => absurd q hc14) (fun _ => ?_)
          refine e_aload_n aX8_nextToken_150 rfl ?_
          refine e_getR (r := 179) aX8_nextToken_151 fX8_21 ly_176 rfl ?_
          refine e_aload_n aX8_nextToken_154 rfl ?_
          refine e_getI aX8_nextToken_155 fX8_94 ly_176 rfl ?_
          obtain ⟨hg15, h⟩ := of_guard h
          refine e_iald aX8_nextToken_158 ly_179 hg15 ?_
          obtain ⟨r16, hr16, h⟩ := of_bind h
          refine e_SI [] aX8_nextToken_159 co_X8_isDigit mX8_101 (c_X8_isDigit l x hr16) rfl ⟨by decide, by decide⟩ (Nat.le_of_ble_eq_true rfl) rfl ?_
          rcases of_ite h with ⟨hc17, h⟩ | ⟨hc17, h⟩
          · refine e_if_eq (tgt := 204) aX8_nextToken_162 (by decide) (fun _ => ?_) (fun q => absurd hc17 q)
            exact e_ret0 aX8_nextToken_204 rfl (pV_of h)
          · refine e_if_eq (tgt := 204) aX8_nextToken_162 (by decide) (fun q => absurd q hc17) (fun _ => ?_)
            refine w_X8_nextToken_165 l x  (fun M18 h => ?_) FU _ h
            exact e_ret0 aX8_nextToken_204 rfl (pV_of h)
      · refine e_if_eq (tgt := 139) aX8_nextToken_97 (by decide) (fun q => absurd q hc13) (fun _ => ?_)
        refine w_X8_nextToken_100 l x  (fun M19 h => ?_) FU _ h
        exact e_ret0 aX8_nextToken_204 rfl (pV_of h)
  · refine e_icmp_ge (tgt := 67) aX8_nextToken_55 (by decide) (fun q => absurd q hc3) (fun _ => ?_)
    refine e_aload_n aX8_nextToken_58 rfl ?_
    refine e_getI aX8_nextToken_59 fX8_94 ly_176 rfl ?_
    refine e_iconst (v := 1) aX8_nextToken_62 (by decide) ?_
    refine e_iadd aX8_nextToken_63 ?_
    refine e_goto (tgt := 71) aX8_nextToken_64 (by decide) ?_
    obtain ⟨M20, eM20, h⟩ := of_lt h
    refine e_put aX8_nextToken_71 qX8_91 ly_176 rfl (fi_of _) eM20 ?_
    refine e_aload_n aX8_nextToken_74 rfl ?_
    refine e_getI aX8_nextToken_75 fX8_94 ly_176 rfl ?_
    refine e_aload_n aX8_nextToken_78 rfl ?_
    refine e_getI aX8_nextToken_79 fX8_79 ly_176 rfl ?_
    rcases of_ite h with ⟨hc21, h⟩ | ⟨hc21, h⟩
    · refine e_icmp_ge (tgt := 139) aX8_nextToken_82 (by decide) (fun _ => ?_) (fun q => absurd hc21 q)
      refine e_aload_n aX8_nextToken_139 rfl ?_
      refine e_getI aX8_nextToken_140 fX8_94 ly_176 rfl ?_
      refine e_aload_n aX8_nextToken_143 rfl ?_
      refine e_getI aX8_nextToken_144 fX8_79 ly_176 rfl ?_
      rcases of_ite h with ⟨hc22, h⟩ | ⟨hc22, h⟩
      · refine e_icmp_ge (tgt := 204) aX8_nextToken_147 (by decide) (fun _ => ?_) (fun q => absurd hc22 q)
        exact e_ret0 aX8_nextToken_204 rfl (pV_of h)
      · refine e_icmp_ge (tgt := 204) aX8_nextToken_147 (by decide) (fun q => absurd q hc22) (fun _ => ?_)
        refine e_aload_n aX8_nextToken_150 rfl ?_
        refine e_getR (r := 179) aX8_nextToken_151 fX8_21 ly_176 rfl ?_
        refine e_aload_n aX8_nextToken_154 rfl ?_
        refine e_getI aX8_nextToken_155 fX8_94 ly_176 rfl ?_
        obtain ⟨hg23, h⟩ := of_guard h
        refine e_iald aX8_nextToken_158 ly_179 hg23 ?_
        obtain ⟨r24, hr24, h⟩ := of_bind h
        refine e_SI [] aX8_nextToken_159 co_X8_isDigit mX8_101 (c_X8_isDigit l x hr24) rfl ⟨by decide, by decide⟩ (Nat.le_of_ble_eq_true rfl) rfl ?_
        rcases of_ite h with ⟨hc25, h⟩ | ⟨hc25, h⟩
        · refine e_if_eq (tgt := 204) aX8_nextToken_162 (by decide) (fun _ => ?_) (fun q => absurd hc25 q)
          exact e_ret0 aX8_nextToken_204 rfl (pV_of h)
        · refine e_if_eq (tgt := 204) aX8_nextToken_162 (by decide) (fun q => absurd q hc25) (fun _ => ?_)
          refine w_X8_nextToken_165 l x  (fun M26 h => ?_) FU _ h
          exact e_ret0 aX8_nextToken_204 rfl (pV_of h)
    · refine e_icmp_ge (tgt := 139) aX8_nextToken_82 (by decide) (fun q => absurd q hc21) (fun _ => ?_)
      refine e_aload_n aX8_nextToken_85 rfl ?_
      refine e_getR (r := 179) aX8_nextToken_86 fX8_21 ly_176 rfl ?_
      refine e_aload_n aX8_nextToken_89 rfl ?_
      refine e_getI aX8_nextToken_90 fX8_94 ly_176 rfl ?_
      obtain ⟨hg27, h⟩ := of_guard h
      refine e_iald aX8_nextToken_93 ly_179 hg27 ?_
      obtain ⟨r28, hr28, h⟩ := of_bind h
      refine e_SI [] aX8_nextToken_94 co_X8_isSmall mX8_97 (c_X8_isSmall l x hr28) rfl ⟨by decide, by decide⟩ (Nat.le_of_ble_eq_true rfl) rfl ?_
      rcases of_ite h with ⟨hc29, h⟩ | ⟨hc29, h⟩
      · refine e_if_eq (tgt := 139) aX8_nextToken_97 (by decide) (fun _ => ?_) (fun q => absurd hc29 q)
        refine e_aload_n aX8_nextToken_139 rfl ?_
        refine e_getI aX8_nextToken_140 fX8_94 ly_176 rfl ?_
        refine e_aload_n aX8_nextToken_143 rfl ?_
        refine e_getI aX8_nextToken_144 fX8_79 ly_176 rfl ?_
        rcases of_ite h with ⟨hc30, h⟩ | ⟨hc30, h⟩
        · refine e_icmp_ge (tgt := 204) aX8_nextToken_147 (by decide) (fun _ => ?_) (fun q => absurd hc30 q)
          exact e_ret0 aX8_nextToken_204 rfl (pV_of h)
        · refine e_icmp_ge (tgt := 204) aX8_nextToken_147 (by decide) (fun q => absurd q hc30) (fun _ => ?_)
          refine e_aload_n aX8_nextToken_150 rfl ?_
          refine e_getR (r := 179) aX8_nextToken_151 fX8_21 ly_176 rfl ?_
          refine e_aload_n aX8_nextToken_154 rfl ?_
          refine e_getI aX8_nextToken_155 fX8_94 ly_176 rfl ?_
          obtain ⟨hg31, h⟩ := of_guard h
          refine e_iald aX8_nextToken_158 ly_179 hg31 ?_
          obtain ⟨r32, hr32, h⟩ := of_bind h
          refine e_SI [] aX8_nextToken_159 co_X8_isDigit mX8_101 (c_X8_isDigit l x hr32) rfl ⟨by decide, by decide⟩ (Nat.le_of_ble_eq_true rfl) rfl ?_
          rcases of_ite h with ⟨hc33, h⟩ | ⟨hc33, h⟩
          · refine e_if_eq (tgt := 204) aX8_nextToken_162 (by decide) (fun _ => ?_) (fun q => absurd hc33 q)
            exact e_ret0 aX8_nextToken_204 rfl (pV_of h)
          · refine e_if_eq (tgt := 204) aX8_nextToken_162 (by decide) (fun q => absurd q hc33) (fun _ => ?_)
            refine w_X8_nextToken_165 l x  (fun M34 h => ?_) FU _ h
            exact e_ret0 aX8_nextToken_204 rfl (pV_of h)
      · refine e_if_eq (tgt := 139) aX8_nextToken_97 (by decide) (fun q => absurd q hc29) (fun _ => ?_)
        refine w_X8_nextToken_100 l x  (fun M35 h => ?_) FU _ h
        exact e_ret0 aX8_nextToken_204 rfl (pV_of h)
def s_X8_wordHere_40 (i1 : Int32) (M : Mem) (k : Int32 → Int32 → Option Int32) (rec : Int32 → Int32 → Option Int32) (i2 : Int32) (i3 : Int32) : Option Int32 :=
  if 6 ≤ i3 then
    k i2 i3
  else
    if i2 = 0 then
      k i2 i3
    else
      if (6 * i1) + i3 < 0 ∨ 18 ≤ ((6 * i1) + i3).toNatClampNeg then none else
      if M 176 16 ≤ (M 176 15) + i3 then
        if M 190 ((6 * i1) + i3).toNatClampNeg = 0 then
          rec 1 (i3 + 1)
        else
          rec 0 (i3 + 1)
      else
        if (M 176 15) + i3 < 0 ∨ 200 ≤ ((M 176 15) + i3).toNatClampNeg then none else
        if M 190 ((6 * i1) + i3).toNatClampNeg = M 179 ((M 176 15) + i3).toNatClampNeg then
          rec 1 (i3 + 1)
        else
          rec 0 (i3 + 1)
def f_X8_wordHere_40 (i1 : Int32) (M : Mem) (k : Int32 → Int32 → Option Int32) : Nat → Int32 → Int32 → Option Int32
  | 0 => fun _ _ => none
  | n + 1 => fun i2 i3 => s_X8_wordHere_40 i1 M k (f_X8_wordHere_40 i1 M k n) i2 i3
set_option maxRecDepth 100000 in
set_option maxHeartbeats 4000000 in
theorem w_X8_wordHere_40 (l : Launch) (x : WX) {i1 : Int32} {M : Mem} {k : Int32 → Int32 → Option Int32} {r : Int32}  (K : ∀ (i2 : Int32) (i3 : Int32), k i2 i3 = some r → Ev l x false cX8_wordHere RX8 (some FieldType.int) 4 0 0 0 (pI r M) 104 [some (.ref (x.2.2.1 + 176)), some (.int i1), some (.int i2), some (.int i3)] [] LAY M) : ∀ (n : Nat) (i2 : Int32) (i3 : Int32), f_X8_wordHere_40 i1 M k n i2 i3 = some r → Ev l x false cX8_wordHere RX8 (some FieldType.int) 4 0 0 0 (pI r M) 40 [some (.ref (x.2.2.1 + 176)), some (.int i1), some (.int i2), some (.int i3)] [] LAY M := by
  intro n
  induction n with
  | zero =>
    intro i2 i3 h
    exact nomatch (show (none : Option Int32) = some r from h)
  | succ n ih =>
    intro i2 i3 h
    have h : s_X8_wordHere_40 i1 M k (f_X8_wordHere_40 i1 M k n) i2 i3 = some r := h
    unfold s_X8_wordHere_40 at h
    refine e_iload_n aX8_wordHere_40 rfl ?_
    refine e_bipush (v := 6) aX8_wordHere_41 (by decide) ?_
    rcases of_ite h with ⟨hc1, h⟩ | ⟨hc1, h⟩
    · refine e_icmp_ge (tgt := 104) aX8_wordHere_43 (by decide) (fun _ => ?_) (fun q => absurd hc1 q)
      exact K _ _ h
    · refine e_icmp_ge (tgt := 104) aX8_wordHere_43 (by decide) (fun q => absurd q hc1) (fun _ => ?_)
      refine e_iload_n aX8_wordHere_46 rfl ?_
      rcases of_ite h with ⟨hc2, h⟩ | ⟨hc2, h⟩
      · refine e_if_eq (tgt := 104) aX8_wordHere_47 (by decide) (fun _ => ?_) (fun q => absurd hc2 q)
        exact K _ _ h
      · refine e_if_eq (tgt := 104) aX8_wordHere_47 (by decide) (fun q => absurd q hc2) (fun _ => ?_)
        refine e_aload_n aX8_wordHere_50 rfl ?_
        refine e_getR (r := 190) aX8_wordHere_51 fX8_54 ly_176 rfl ?_
        refine e_bipush (v := 6) aX8_wordHere_54 (by decide) ?_
        refine e_iload_n aX8_wordHere_56 rfl ?_
        refine e_imul aX8_wordHere_57 ?_
        refine e_iload_n aX8_wordHere_58 rfl ?_
        refine e_iadd aX8_wordHere_59 ?_
        obtain ⟨hg3, h⟩ := of_guard h
        refine e_iald aX8_wordHere_60 ly_190 hg3 ?_
        refine e_aload_n aX8_wordHere_61 rfl ?_
        refine e_getI aX8_wordHere_62 fX8_94 ly_176 rfl ?_
        refine e_iload_n aX8_wordHere_65 rfl ?_
        refine e_iadd aX8_wordHere_66 ?_
        refine e_aload_n aX8_wordHere_67 rfl ?_
        refine e_getI aX8_wordHere_68 fX8_91 ly_176 rfl ?_
        rcases of_ite h with ⟨hc4, h⟩ | ⟨hc4, h⟩
        · refine e_icmp_ge (tgt := 88) aX8_wordHere_71 (by decide) (fun _ => ?_) (fun q => absurd hc4 q)
          refine e_iconst (v := 0) aX8_wordHere_88 (by decide) ?_
          rcases of_ite h with ⟨hc5, h⟩ | ⟨hc5, h⟩
          · refine e_icmp_ne (tgt := 96) aX8_wordHere_89 (by decide) (fun q => absurd hc5 q) (fun _ => ?_)
            refine e_iconst (v := 1) aX8_wordHere_92 (by decide) ?_
            refine e_goto (tgt := 97) aX8_wordHere_93 (by decide) ?_
            refine e_istore_n (L2 := [some (.ref (x.2.2.1 + 176)), some (.int i1), some (.int 1), some (.int i3)]) aX8_wordHere_97 ⟨by decide, rfl⟩ rfl ?_
            refine e_iinc (v := i3 + 1) (L2 := [some (.ref (x.2.2.1 + 176)), some (.int i1), some (.int 1), some (.int (i3 + 1))]) aX8_wordHere_98 rfl rfl ⟨by decide, rfl⟩ rfl ?_
            refine e_goto (tgt := 40) aX8_wordHere_101 (by decide) ?_
            exact ih _ _ h
          · refine e_icmp_ne (tgt := 96) aX8_wordHere_89 (by decide) (fun _ => ?_) (fun q => absurd q hc5)
            refine e_iconst (v := 0) aX8_wordHere_96 (by decide) ?_
            refine e_istore_n (L2 := [some (.ref (x.2.2.1 + 176)), some (.int i1), some (.int 0), some (.int i3)]) aX8_wordHere_97 ⟨by decide, rfl⟩ rfl ?_
            refine e_iinc (v := i3 + 1) (L2 := [some (.ref (x.2.2.1 + 176)), some (.int i1), some (.int 0), some (.int (i3 + 1))]) aX8_wordHere_98 rfl rfl ⟨by decide, rfl⟩ rfl ?_
            refine e_goto (tgt := 40) aX8_wordHere_101 (by decide) ?_
            exact ih _ _ h
        · refine e_icmp_ge (tgt := 88) aX8_wordHere_71 (by decide) (fun q => absurd q hc4) (fun _ => ?_)
          refine e_aload_n aX8_wordHere_74 rfl ?_
          refine e_getR (r := 179) aX8_wordHere_75 fX8_21 ly_176 rfl ?_
          refine e_aload_n aX8_wordHere_78 rfl ?_
          refine e_getI aX8_wordHere_79 fX8_94 ly_176 rfl ?_
          refine e_iload_n aX8_wordHere_82 rfl ?_
          refine e_iadd aX8_wordHere_83 ?_
          obtain ⟨hg6, h⟩ := of_guard h
          refine e_iald aX8_wordHere_84 ly_179 hg6 ?_
          refine e_goto (tgt := 89) aX8_wordHere_85 (by decide) ?_
          rcases of_ite h with ⟨hc7, h⟩ | ⟨hc7, h⟩
          · refine e_icmp_ne (tgt := 96) aX8_wordHere_89 (by decide) (fun q => absurd hc7 q) (fun _ => ?_)
            refine e_iconst (v := 1) aX8_wordHere_92 (by decide) ?_
            refine e_goto (tgt := 97) aX8_wordHere_93 (by decide) ?_
            refine e_istore_n (L2 := [some (.ref (x.2.2.1 + 176)), some (.int i1), some (.int 1), some (.int i3)]) aX8_wordHere_97 ⟨by decide, rfl⟩ rfl ?_
            refine e_iinc (v := i3 + 1) (L2 := [some (.ref (x.2.2.1 + 176)), some (.int i1), some (.int 1), some (.int (i3 + 1))]) aX8_wordHere_98 rfl rfl ⟨by decide, rfl⟩ rfl ?_
            refine e_goto (tgt := 40) aX8_wordHere_101 (by decide) ?_
            exact ih _ _ h
          · refine e_icmp_ne (tgt := 96) aX8_wordHere_89 (by decide) (fun _ => ?_) (fun q => absurd q hc7)
            refine e_iconst (v := 0) aX8_wordHere_96 (by decide) ?_
            refine e_istore_n (L2 := [some (.ref (x.2.2.1 + 176)), some (.int i1), some (.int 0), some (.int i3)]) aX8_wordHere_97 ⟨by decide, rfl⟩ rfl ?_
            refine e_iinc (v := i3 + 1) (L2 := [some (.ref (x.2.2.1 + 176)), some (.int i1), some (.int 0), some (.int (i3 + 1))]) aX8_wordHere_98 rfl rfl ⟨by decide, rfl⟩ rfl ?_
            refine e_goto (tgt := 40) aX8_wordHere_101 (by decide) ?_
            exact ih _ _ h
def s_X8_wordHere_2  (M : Mem) (k : Int32 → Option Int32) (rec : Int32 → Option Int32) (i1 : Int32) : Option Int32 :=
  if 2 < i1 then
    k i1
  else
    if M 176 16 ≤ M 176 15 then
      f_X8_wordHere_40 i1 M (fun (i2_3 : Int32) (i3_4 : Int32) =>
        if i2_3 = 0 then
          rec (i1 + 1)
        else
          some i1) FU 0 0
    else
      if 7 ≤ (M 176 16) - (M 176 15) then
        f_X8_wordHere_40 i1 M (fun (i2_7 : Int32) (i3_8 : Int32) =>
          if i2_7 = 0 then
            rec (i1 + 1)
          else
            some i1) FU 0 0
      else
        f_X8_wordHere_40 i1 M (fun (i2_10 : Int32) (i3_11 : Int32) =>
          if i2_10 = 0 then
            rec (i1 + 1)
          else
            some i1) FU 1 0
def f_X8_wordHere_2  (M : Mem) (k : Int32 → Option Int32) : Nat → Int32 → Option Int32
  | 0 => fun _ => none
  | n + 1 => fun i1 => s_X8_wordHere_2  M k (f_X8_wordHere_2  M k n) i1
set_option maxRecDepth 100000 in
set_option maxHeartbeats 4000000 in
theorem w_X8_wordHere_2 (l : Launch) (x : WX)  {M : Mem} {k : Int32 → Option Int32} {r : Int32}  (K : ∀ (i1 : Int32), k i1 = some r → Ev l x false cX8_wordHere RX8 (some FieldType.int) 4 0 0 0 (pI r M) 116 [some (.ref (x.2.2.1 + 176)), some (.int i1), none, none] [] LAY M) : ∀ (n : Nat) (i1 : Int32), f_X8_wordHere_2  M k n i1 = some r → Ev l x false cX8_wordHere RX8 (some FieldType.int) 4 0 0 0 (pI r M) 2 [some (.ref (x.2.2.1 + 176)), some (.int i1), none, none] [] LAY M := by
  intro n
  induction n with
  | zero =>
    intro i1 h
    exact nomatch (show (none : Option Int32) = some r from h)
  | succ n ih =>
    intro i1 h
    have h : s_X8_wordHere_2  M k (f_X8_wordHere_2  M k n) i1 = some r := h
    unfold s_X8_wordHere_2 at h
    refine e_iload_n aX8_wordHere_2 rfl ?_
    refine e_iconst (v := 2) aX8_wordHere_3 (by decide) ?_
    rcases of_ite h with ⟨hc1, h⟩ | ⟨hc1, h⟩
    · refine e_icmp_gt (tgt := 116) aX8_wordHere_4 (by decide) (fun _ => ?_) (fun q => absurd hc1 q)
      exact K _ h
    · refine e_icmp_gt (tgt := 116) aX8_wordHere_4 (by decide) (fun q => absurd q hc1) (fun _ => ?_)
      refine e_aload_n aX8_wordHere_7 rfl ?_
      refine e_getI aX8_wordHere_8 fX8_91 ly_176 rfl ?_
      refine e_aload_n aX8_wordHere_11 rfl ?_
      refine e_getI aX8_wordHere_12 fX8_94 ly_176 rfl ?_
      rcases of_ite h with ⟨hc2, h⟩ | ⟨hc2, h⟩
      · refine e_icmp_le (tgt := 36) aX8_wordHere_15 (by decide) (fun _ => ?_) (fun q => absurd hc2 q)
        refine e_iconst (v := 0) aX8_wordHere_36 (by decide) ?_
        refine e_istore_n (L2 := [some (.ref (x.2.2.1 + 176)), some (.int i1), some (.int 0), none]) aX8_wordHere_37 ⟨by decide, rfl⟩ rfl ?_
        refine e_iconst (v := 0) aX8_wordHere_38 (by decide) ?_
        refine e_istore_n (L2 := [some (.ref (x.2.2.1 + 176)), some (.int i1), some (.int 0), some (.int 0)]) aX8_wordHere_39 ⟨by decide, rfl⟩ rfl ?_
        refine w_X8_wordHere_40 l x  (fun i2_3 i3_4 h => ?_) FU _ _ h
        refine e_iload_n aX8_wordHere_104 rfl ?_
        rcases of_ite h with ⟨hc5, h⟩ | ⟨hc5, h⟩
        · refine e_if_eq (tgt := 110) aX8_wordHere_105 (by decide) (fun _ => ?_) (fun q => absurd hc5 q)
          refine e_iinc (v := i1 + 1) (L2 := [some (.ref (x.2.2.1 + 176)), some (.int (i1 + 1)), some (.int i2_3), some (.int i3_4)]) aX8_wordHere_110 rfl rfl ⟨by decide, rfl⟩ rfl ?_
          refine e_goto (tgt := 2) aX8_wordHere_113 (by decide) ?_
          refine e_drop 2 (L2 := [some (.ref (x.2.2.1 + 176)), some (.int (i1 + 1)), none, some (.int i3_4)]) rfl ?_
          refine e_drop 3 (L2 := [some (.ref (x.2.2.1 + 176)), some (.int (i1 + 1)), none, none]) rfl ?_
          exact ih _ h
        · refine e_if_eq (tgt := 110) aX8_wordHere_105 (by decide) (fun q => absurd q hc5) (fun _ => ?_)
          refine e_iload_n aX8_wordHere_108 rfl ?_
          exact e_retI aX8_wordHere_109 rfl rfl (pI_ro h)
      · refine e_icmp_le (tgt := 36) aX8_wordHere_15 (by decide) (fun q => absurd q hc2) (fun _ => ?_)
        refine e_aload_n aX8_wordHere_18 rfl ?_
        refine e_getI aX8_wordHere_19 fX8_91 ly_176 rfl ?_
        refine e_aload_n aX8_wordHere_22 rfl ?_
        refine e_getI aX8_wordHere_23 fX8_94 ly_176 rfl ?_
        refine e_isub aX8_wordHere_26 ?_
        refine e_bipush (v := 7) aX8_wordHere_27 (by decide) ?_
        rcases of_ite h with ⟨hc6, h⟩ | ⟨hc6, h⟩
        · refine e_icmp_ge (tgt := 36) aX8_wordHere_29 (by decide) (fun _ => ?_) (fun q => absurd hc6 q)
          refine e_iconst (v := 0) aX8_wordHere_36 (by decide) ?_
          refine e_istore_n (L2 := [some (.ref (x.2.2.1 + 176)), some (.int i1), some (.int 0), none]) aX8_wordHere_37 ⟨by decide, rfl⟩ rfl ?_
          refine e_iconst (v := 0) aX8_wordHere_38 (by decide) ?_
          refine e_istore_n (L2 := [some (.ref (x.2.2.1 + 176)), some (.int i1), some (.int 0), some (.int 0)]) aX8_wordHere_39 ⟨by decide, rfl⟩ rfl ?_
          refine w_X8_wordHere_40 l x  (fun i2_7 i3_8 h => ?_) FU _ _ h
          refine e_iload_n aX8_wordHere_104 rfl ?_
          rcases of_ite h with ⟨hc9, h⟩ | ⟨hc9, h⟩
          · refine e_if_eq (tgt := 110) aX8_wordHere_105 (by decide) (fun _ => ?_) (fun q => absurd hc9 q)
            refine e_iinc (v := i1 + 1) (L2 := [some (.ref (x.2.2.1 + 176)), some (.int (i1 + 1)), some (.int i2_7), some (.int i3_8)]) aX8_wordHere_110 rfl rfl ⟨by decide, rfl⟩ rfl ?_
            refine e_goto (tgt := 2) aX8_wordHere_113 (by decide) ?_
            refine e_drop 2 (L2 := [some (.ref (x.2.2.1 + 176)), some (.int (i1 + 1)), none, some (.int i3_8)]) rfl ?_
            refine e_drop 3 (L2 := [some (.ref (x.2.2.1 + 176)), some (.int (i1 + 1)), none, none]) rfl ?_
            exact ih _ h
          · refine e_if_eq (tgt := 110) aX8_wordHere_105 (by decide) (fun q => absurd q hc9) (fun _ => ?_)
            refine e_iload_n aX8_wordHere_108 rfl ?_
            exact e_retI aX8_wordHere_109 rfl rfl (pI_ro h)
        · refine e_icmp_ge (tgt := 36) aX8_wordHere_29 (by decide) (fun q => absurd q hc6) (fun _ => ?_)
          refine e_iconst (v := 1) aX8_wordHere_32 (by decide) ?_
          refine e_goto (tgt := 37) aX8_wordHere_33 (by decide) ?_
          refine e_istore_n (L2 := [some (.ref (x.2.2.1 + 176)), some (.int i1), some (.int 1), none]) aX8_wordHere_37 ⟨by decide, rfl⟩ rfl ?_
          refine e_iconst (v := 0) aX8_wordHere_38 (by decide) ?_
          refine e_istore_n (L2 := [some (.ref (x.2.2.1 + 176)), some (.int i1), some (.int 1), some (.int 0)]) aX8_wordHere_39 ⟨by decide, rfl⟩ rfl ?_
          refine w_X8_wordHere_40 l x  (fun i2_10 i3_11 h => ?_) FU _ _ h
          refine e_iload_n aX8_wordHere_104 rfl ?_
          rcases of_ite h with ⟨hc12, h⟩ | ⟨hc12, h⟩
          · refine e_if_eq (tgt := 110) aX8_wordHere_105 (by decide) (fun _ => ?_) (fun q => absurd hc12 q)
            refine e_iinc (v := i1 + 1) (L2 := [some (.ref (x.2.2.1 + 176)), some (.int (i1 + 1)), some (.int i2_10), some (.int i3_11)]) aX8_wordHere_110 rfl rfl ⟨by decide, rfl⟩ rfl ?_
            refine e_goto (tgt := 2) aX8_wordHere_113 (by decide) ?_
            refine e_drop 2 (L2 := [some (.ref (x.2.2.1 + 176)), some (.int (i1 + 1)), none, some (.int i3_11)]) rfl ?_
            refine e_drop 3 (L2 := [some (.ref (x.2.2.1 + 176)), some (.int (i1 + 1)), none, none]) rfl ?_
            exact ih _ h
          · refine e_if_eq (tgt := 110) aX8_wordHere_105 (by decide) (fun q => absurd q hc12) (fun _ => ?_)
            refine e_iload_n aX8_wordHere_108 rfl ?_
            exact e_retI aX8_wordHere_109 rfl rfl (pI_ro h)
def f_X8_wordHere  (M : Mem) : Option Int32 :=
  f_X8_wordHere_2  M (fun (i1_1 : Int32) =>
    some (-1)) FU 0
set_option maxRecDepth 100000 in
set_option maxHeartbeats 4000000 in
theorem c_X8_wordHere (l : Launch) (x : WX)  {M : Mem} {r : Int32}  (h : f_X8_wordHere  M = some r) : Mt l x false yX8_wordHere cX8_wordHere 4 (some FieldType.int) 0 0 0 [.ref (x.2.2.1 + 176)] LAY M (pI r M) := by
  refine mt_of (L0 := [some (.ref (x.2.2.1 + 176)), none, none, none]) (by decide +kernel) rfl (Nat.le_of_ble_eq_true rfl) (lvA_of 3 rfl) ?_
  unfold f_X8_wordHere at h
  refine e_iconst (v := 0) aX8_wordHere_0 (by decide) ?_
  refine e_istore_n (L2 := [some (.ref (x.2.2.1 + 176)), some (.int 0), none, none]) aX8_wordHere_1 ⟨by decide, rfl⟩ rfl ?_
  refine w_X8_wordHere_2 l x  (fun i1_1 h => ?_) FU _ h
  refine e_iconst (v := (-1)) aX8_wordHere_116 (by decide) ?_
  exact e_retI aX8_wordHere_117 rfl rfl (pI_ro h)
def s_X8_numberHere_49 (i1 : Int32) (i2 : Int32) (M : Mem) (k : Int32 → Int32 → Option Int32) (rec : Int32 → Int32 → Option Int32) (i3 : Int32) (i4 : Int32) : Option Int32 :=
  if M 176 16 ≤ i4 then
    k i3 i4
  else
    if i4 < 0 ∨ 200 ≤ i4.toNatClampNeg then none else
    lt (((10 * i3) + (M 179 i4.toNatClampNeg)) - 48) fun (v3 : Int32) =>
    rec v3 (i4 + 1)
def f_X8_numberHere_49 (i1 : Int32) (i2 : Int32) (M : Mem) (k : Int32 → Int32 → Option Int32) : Nat → Int32 → Int32 → Option Int32
  | 0 => fun _ _ => none
  | n + 1 => fun i3 i4 => s_X8_numberHere_49 i1 i2 M k (f_X8_numberHere_49 i1 i2 M k n) i3 i4
set_option maxRecDepth 100000 in
set_option maxHeartbeats 4000000 in
theorem w_X8_numberHere_49 (l : Launch) (x : WX) {i1 : Int32} {i2 : Int32} {M : Mem} {k : Int32 → Int32 → Option Int32} {r : Int32}  (K : ∀ (i3 : Int32) (i4 : Int32), k i3 i4 = some r → Ev l x false cX8_numberHere RX8 (some FieldType.int) 5 2 0 0 (pI r M) 80 [some (.ref (x.2.2.1 + 176)), some (.int i1), some (.int i2), some (.int i3), some (.int i4)] [] LAY M) : ∀ (n : Nat) (i3 : Int32) (i4 : Int32), f_X8_numberHere_49 i1 i2 M k n i3 i4 = some r → Ev l x false cX8_numberHere RX8 (some FieldType.int) 5 2 0 0 (pI r M) 49 [some (.ref (x.2.2.1 + 176)), some (.int i1), some (.int i2), some (.int i3), some (.int i4)] [] LAY M := by
  intro n
  induction n with
  | zero =>
    intro i3 i4 h
    exact nomatch (show (none : Option Int32) = some r from h)
  | succ n ih =>
    intro i3 i4 h
    have h : s_X8_numberHere_49 i1 i2 M k (f_X8_numberHere_49 i1 i2 M k n) i3 i4 = some r := h
    unfold s_X8_numberHere_49 at h
    refine e_iload aX8_numberHere_49 rfl ?_
    refine e_aload_n aX8_numberHere_51 rfl ?_
    refine e_getI aX8_numberHere_52 fX8_91 ly_176 rfl ?_
    rcases of_ite h with ⟨hc1, h⟩ | ⟨hc1, h⟩
    · refine e_icmp_ge (tgt := 80) aX8_numberHere_55 (by decide) (fun _ => ?_) (fun q => absurd hc1 q)
      exact K _ _ h
    · refine e_icmp_ge (tgt := 80) aX8_numberHere_55 (by decide) (fun q => absurd q hc1) (fun _ => ?_)
      refine e_bipush (v := 10) aX8_numberHere_58 (by decide) ?_
      refine e_iload_n aX8_numberHere_60 rfl ?_
      refine e_imul aX8_numberHere_61 ?_
      refine e_aload_n aX8_numberHere_62 rfl ?_
      refine e_getR (r := 179) aX8_numberHere_63 fX8_21 ly_176 rfl ?_
      refine e_iload aX8_numberHere_66 rfl ?_
      obtain ⟨hg2, h⟩ := of_guard h
      refine e_iald aX8_numberHere_68 ly_179 hg2 ?_
      refine e_iadd aX8_numberHere_69 ?_
      refine e_bipush (v := 48) aX8_numberHere_70 (by decide) ?_
      refine e_isub aX8_numberHere_72 ?_
      obtain ⟨v3, ev3, h⟩ := of_lt h
      refine e_nameI ev3 ?_
      refine e_istore_n (L2 := [some (.ref (x.2.2.1 + 176)), some (.int i1), some (.int i2), some (.int v3), some (.int i4)]) aX8_numberHere_73 ⟨by decide, rfl⟩ rfl ?_
      refine e_iinc (v := i4 + 1) (L2 := [some (.ref (x.2.2.1 + 176)), some (.int i1), some (.int i2), some (.int v3), some (.int (i4 + 1))]) aX8_numberHere_74 rfl rfl ⟨by decide, rfl⟩ rfl ?_
      refine e_goto (tgt := 49) aX8_numberHere_77 (by decide) ?_
      exact ih _ _ h
def f_X8_numberHere (i1 : Int32) (i2 : Int32) (M : Mem) : Option Int32 :=
  if M 176 15 = M 176 5 then
    some (-1)
  else
    if M 176 15 < 0 ∨ 200 ≤ (M 176 15).toNatClampNeg then none else
    (f_X8_isDigit (M 179 (M 176 15).toNatClampNeg) M).bind fun (r3 : Int32) =>
    if r3 = 0 then
      some (-1)
    else
      if (M 176 16) - (M 176 15) ≤ 2 then
        lt (M 176 15) fun (v6 : Int32) =>
        f_X8_numberHere_49 i1 i2 M (fun (i3_7 : Int32) (i4_8 : Int32) =>
          (f_X8_in i3_7.toInt64 i1.toInt64 i2.toInt64 M).bind fun (r9 : Int32) =>
          if r9 = 0 then
            some (-1)
          else
            some i3_7) FU 0 v6
      else
        some (-1)
set_option maxRecDepth 100000 in
set_option maxHeartbeats 4000000 in
theorem c_X8_numberHere (l : Launch) (x : WX) {i1 : Int32} {i2 : Int32} {M : Mem} {r : Int32}  (h : f_X8_numberHere i1 i2 M = some r) : Mt l x false yX8_numberHere cX8_numberHere 5 (some FieldType.int) 2 0 0 [.ref (x.2.2.1 + 176), .int i1, .int i2] LAY M (pI r M) := by
  refine mt_of (L0 := [some (.ref (x.2.2.1 + 176)), some (.int i1), some (.int i2), none, none]) (by decide +kernel) rfl (Nat.le_of_ble_eq_true rfl) (lvA_of 2 rfl) ?_
  unfold f_X8_numberHere at h
  refine e_aload_n aX8_numberHere_0 rfl ?_
  refine e_getI aX8_numberHere_1 fX8_94 ly_176 rfl ?_
  refine e_aload_n aX8_numberHere_4 rfl ?_
  refine e_getI aX8_numberHere_5 fX8_79 ly_176 rfl ?_
  rcases of_ite h with ⟨hc1, h⟩ | ⟨hc1, h⟩
  · refine e_icmp_eq (tgt := 39) aX8_numberHere_8 (by decide) (fun _ => ?_) (fun q => absurd hc1 q)
    refine e_iconst (v := (-1)) aX8_numberHere_39 (by decide) ?_
    exact e_retI aX8_numberHere_40 rfl rfl (pI_ro h)
  · refine e_icmp_eq (tgt := 39) aX8_numberHere_8 (by decide) (fun q => absurd q hc1) (fun _ => ?_)
    refine e_aload_n aX8_numberHere_11 rfl ?_
    refine e_getR (r := 179) aX8_numberHere_12 fX8_21 ly_176 rfl ?_
    refine e_aload_n aX8_numberHere_15 rfl ?_
    refine e_getI aX8_numberHere_16 fX8_94 ly_176 rfl ?_
    obtain ⟨hg2, h⟩ := of_guard h
    refine e_iald aX8_numberHere_19 ly_179 hg2 ?_
    obtain ⟨r3, hr3, h⟩ := of_bind h
    refine e_SI [] aX8_numberHere_20 co_X8_isDigit mX8_101 (c_X8_isDigit l x hr3) rfl ⟨by decide, by decide⟩ (Nat.le_of_ble_eq_true rfl) rfl ?_
    rcases of_ite h with ⟨hc4, h⟩ | ⟨hc4, h⟩
    · refine e_if_eq (tgt := 39) aX8_numberHere_23 (by decide) (fun _ => ?_) (fun q => absurd hc4 q)
      refine e_iconst (v := (-1)) aX8_numberHere_39 (by decide) ?_
      exact e_retI aX8_numberHere_40 rfl rfl (pI_ro h)
    · refine e_if_eq (tgt := 39) aX8_numberHere_23 (by decide) (fun q => absurd q hc4) (fun _ => ?_)
      refine e_aload_n aX8_numberHere_26 rfl ?_
      refine e_getI aX8_numberHere_27 fX8_91 ly_176 rfl ?_
      refine e_aload_n aX8_numberHere_30 rfl ?_
      refine e_getI aX8_numberHere_31 fX8_94 ly_176 rfl ?_
      refine e_isub aX8_numberHere_34 ?_
      refine e_iconst (v := 2) aX8_numberHere_35 (by decide) ?_
      rcases of_ite h with ⟨hc5, h⟩ | ⟨hc5, h⟩
      · refine e_icmp_le (tgt := 41) aX8_numberHere_36 (by decide) (fun _ => ?_) (fun q => absurd hc5 q)
        refine e_iconst (v := 0) aX8_numberHere_41 (by decide) ?_
        refine e_istore_n (L2 := [some (.ref (x.2.2.1 + 176)), some (.int i1), some (.int i2), some (.int 0), none]) aX8_numberHere_42 ⟨by decide, rfl⟩ rfl ?_
        refine e_aload_n aX8_numberHere_43 rfl ?_
        refine e_getI aX8_numberHere_44 fX8_94 ly_176 rfl ?_
        obtain ⟨v6, ev6, h⟩ := of_lt h
        refine e_nameI ev6 ?_
        refine e_istore (L2 := [some (.ref (x.2.2.1 + 176)), some (.int i1), some (.int i2), some (.int 0), some (.int v6)]) aX8_numberHere_47 ⟨by decide, rfl⟩ rfl ?_
        refine w_X8_numberHere_49 l x  (fun i3_7 i4_8 h => ?_) FU _ _ h
        refine e_iload_n aX8_numberHere_80 rfl ?_
        refine e_i2l aX8_numberHere_81 ?_
        refine e_iload_n aX8_numberHere_82 rfl ?_
        refine e_i2l aX8_numberHere_83 ?_
        refine e_iload_n aX8_numberHere_84 rfl ?_
        refine e_i2l aX8_numberHere_85 ?_
        obtain ⟨r9, hr9, h⟩ := of_bind h
        refine e_SI [] aX8_numberHere_86 co_X8_in mX8_72 (c_X8_in l x hr9) rfl ⟨by decide, by decide⟩ (Nat.le_of_ble_eq_true rfl) rfl ?_
        rcases of_ite h with ⟨hc10, h⟩ | ⟨hc10, h⟩
        · refine e_if_eq (tgt := 96) aX8_numberHere_89 (by decide) (fun _ => ?_) (fun q => absurd hc10 q)
          refine e_iconst (v := (-1)) aX8_numberHere_96 (by decide) ?_
          exact e_retI aX8_numberHere_97 rfl rfl (pI_ro h)
        · refine e_if_eq (tgt := 96) aX8_numberHere_89 (by decide) (fun q => absurd q hc10) (fun _ => ?_)
          refine e_iload_n aX8_numberHere_92 rfl ?_
          refine e_goto (tgt := 97) aX8_numberHere_93 (by decide) ?_
          exact e_retI aX8_numberHere_97 rfl rfl (pI_ro h)
      · refine e_icmp_le (tgt := 41) aX8_numberHere_36 (by decide) (fun q => absurd q hc5) (fun _ => ?_)
        refine e_iconst (v := (-1)) aX8_numberHere_39 (by decide) ?_
        exact e_retI aX8_numberHere_40 rfl rfl (pI_ro h)
def f_X8_number (i1 : Int32) (i2 : Int32) (i3 : Int32) (M : Mem) : Option (Int32 × Mem) :=
  (f_X8_numberHere i2 i3 M).bind fun (r1 : Int32) =>
  if r1 < 0 then
    if r1 < 0 then
      some (0, M)
    else
      some (1, M)
  else
    if i1 < 0 ∨ 6 ≤ i1.toNatClampNeg then none else
    lt (um M 189 i1.toNatClampNeg r1) fun (M5 : Mem) =>
    (f_X8_nextToken M5).bind fun (M6 : Mem) =>
    if r1 < 0 then
      some (0, M6)
    else
      some (1, M6)
set_option maxRecDepth 100000 in
set_option maxHeartbeats 4000000 in
theorem c_X8_number (l : Launch) (x : WX) {i1 : Int32} {i2 : Int32} {i3 : Int32} {M : Mem} {r : (Int32 × Mem)}  (h : f_X8_number i1 i2 i3 M = some r) : Mt l x false yX8_number cX8_number 5 (some FieldType.boolean) 3 0 0 [.ref (x.2.2.1 + 176), .int i1, .int i2, .int i3] LAY M (pI r.1 r.2) := by
  refine mt_of (L0 := [some (.ref (x.2.2.1 + 176)), some (.int i1), some (.int i2), some (.int i3), none]) (by decide +kernel) rfl (Nat.le_of_ble_eq_true rfl) (lvA_of 1 rfl) ?_
  unfold f_X8_number at h
  refine e_aload_n aX8_number_0 rfl ?_
  refine e_iload_n aX8_number_1 rfl ?_
  refine e_iload_n aX8_number_2 rfl ?_
  obtain ⟨r1, hr1, h⟩ := of_bind h
  refine e_VI [] aX8_number_3 co_X8_numberHere mX8_104 ly_176 rfl rfl (c_X8_numberHere l x hr1) rfl ⟨by decide, by decide⟩ (Nat.le_of_ble_eq_true rfl) rfl ?_
  refine e_istore (L2 := [some (.ref (x.2.2.1 + 176)), some (.int i1), some (.int i2), some (.int i3), some (.int r1)]) aX8_number_6 ⟨by decide, rfl⟩ rfl ?_
  refine e_iload aX8_number_8 rfl ?_
  rcases of_ite h with ⟨hc2, h⟩ | ⟨hc2, h⟩
  · refine e_if_lt (tgt := 25) aX8_number_10 (by decide) (fun _ => ?_) (fun q => absurd hc2 q)
    refine e_iload aX8_number_25 rfl ?_
    rcases of_ite h with ⟨hc3, h⟩ | ⟨hc3, h⟩
    · refine e_if_lt (tgt := 34) aX8_number_27 (by decide) (fun _ => ?_) (fun q => absurd hc3 q)
      refine e_iconst (v := 0) aX8_number_34 (by decide) ?_
      exact e_retI aX8_number_35 rfl (by decide +kernel) (pI_of h)
    · refine e_if_lt (tgt := 34) aX8_number_27 (by decide) (fun q => absurd q hc3) (fun _ => ?_)
      refine e_iconst (v := 1) aX8_number_30 (by decide) ?_
      refine e_goto (tgt := 35) aX8_number_31 (by decide) ?_
      exact e_retI aX8_number_35 rfl (by decide +kernel) (pI_of h)
  · refine e_if_lt (tgt := 25) aX8_number_10 (by decide) (fun q => absurd q hc2) (fun _ => ?_)
    refine e_aload_n aX8_number_13 rfl ?_
    refine e_getR (r := 189) aX8_number_14 fX8_51 ly_176 rfl ?_
    refine e_iload_n aX8_number_17 rfl ?_
    refine e_iload aX8_number_18 rfl ?_
    obtain ⟨hg4, h⟩ := of_guard h
    obtain ⟨M5, eM5, h⟩ := of_lt h
    refine e_ist aX8_number_20 ly_189 hg4 eM5 ?_
    refine e_aload_n aX8_number_21 rfl ?_
    obtain ⟨M6, hM6, h⟩ := of_bind h
    refine e_VV [] aX8_number_22 co_X8_nextToken mX8_108 ly_176 rfl rfl (c_X8_nextToken l x hM6) rfl ⟨by decide, by decide⟩ (Nat.le_of_ble_eq_true rfl) rfl ?_
    refine e_iload aX8_number_25 rfl ?_
    rcases of_ite h with ⟨hc7, h⟩ | ⟨hc7, h⟩
    · refine e_if_lt (tgt := 34) aX8_number_27 (by decide) (fun _ => ?_) (fun q => absurd hc7 q)
      refine e_iconst (v := 0) aX8_number_34 (by decide) ?_
      exact e_retI aX8_number_35 rfl (by decide +kernel) (pI_of h)
    · refine e_if_lt (tgt := 34) aX8_number_27 (by decide) (fun q => absurd q hc7) (fun _ => ?_)
      refine e_iconst (v := 1) aX8_number_30 (by decide) ?_
      refine e_goto (tgt := 35) aX8_number_31 (by decide) ?_
      exact e_retI aX8_number_35 rfl (by decide +kernel) (pI_of h)
def s_X8_leads_17 (i1 : Int32) (i2 : Int32) (i4 : Int32) (M : Mem) (k : Int32 → Int32 → Option Int32) (rec : Int32 → Int32 → Option Int32) (i3 : Int32) (i5 : Int32) : Option Int32 :=
  if M 176 18 ≤ i5 then
    k i3 i5
  else
    if i5 < 0 ∨ 10 ≤ i5.toNatClampNeg then none else
    if i5 < 0 ∨ 10 ≤ i5.toNatClampNeg then none else
    lt (i3 ||| (((i3 >>> ((M 187 i5.toNatClampNeg) &&& 31)) &&& 1) <<< ((M 188 i5.toNatClampNeg) &&& 31))) fun (v4 : Int32) =>
    rec v4 (i5 + 1)
def f_X8_leads_17 (i1 : Int32) (i2 : Int32) (i4 : Int32) (M : Mem) (k : Int32 → Int32 → Option Int32) : Nat → Int32 → Int32 → Option Int32
  | 0 => fun _ _ => none
  | n + 1 => fun i3 i5 => s_X8_leads_17 i1 i2 i4 M k (f_X8_leads_17 i1 i2 i4 M k n) i3 i5
set_option maxRecDepth 100000 in
set_option maxHeartbeats 4000000 in
theorem w_X8_leads_17 (l : Launch) (x : WX) {i1 : Int32} {i2 : Int32} {i4 : Int32} {M : Mem} {k : Int32 → Int32 → Option Int32} {r : Int32}  (K : ∀ (i3 : Int32) (i5 : Int32), k i3 i5 = some r → Ev l x false cX8_leads RX8 (some FieldType.boolean) 6 0 0 0 (pI r M) 54 [some (.ref (x.2.2.1 + 176)), some (.int i1), some (.int i2), some (.int i3), some (.int i4), some (.int i5)] [] LAY M) : ∀ (n : Nat) (i3 : Int32) (i5 : Int32), f_X8_leads_17 i1 i2 i4 M k n i3 i5 = some r → Ev l x false cX8_leads RX8 (some FieldType.boolean) 6 0 0 0 (pI r M) 17 [some (.ref (x.2.2.1 + 176)), some (.int i1), some (.int i2), some (.int i3), some (.int i4), some (.int i5)] [] LAY M := by
  intro n
  induction n with
  | zero =>
    intro i3 i5 h
    exact nomatch (show (none : Option Int32) = some r from h)
  | succ n ih =>
    intro i3 i5 h
    have h : s_X8_leads_17 i1 i2 i4 M k (f_X8_leads_17 i1 i2 i4 M k n) i3 i5 = some r := h
    unfold s_X8_leads_17 at h
    refine e_iload aX8_leads_17 rfl ?_
    refine e_aload_n aX8_leads_19 rfl ?_
    refine e_getI aX8_leads_20 fX8_111 ly_176 rfl ?_
    rcases of_ite h with ⟨hc1, h⟩ | ⟨hc1, h⟩
    · refine e_icmp_ge (tgt := 54) aX8_leads_23 (by decide) (fun _ => ?_) (fun q => absurd hc1 q)
      exact K _ _ h
    · refine e_icmp_ge (tgt := 54) aX8_leads_23 (by decide) (fun q => absurd q hc1) (fun _ => ?_)
      refine e_iload_n aX8_leads_26 rfl ?_
      refine e_iload_n aX8_leads_27 rfl ?_
      refine e_aload_n aX8_leads_28 rfl ?_
      refine e_getR (r := 187) aX8_leads_29 fX8_45 ly_176 rfl ?_
      refine e_iload aX8_leads_32 rfl ?_
      obtain ⟨hg2, h⟩ := of_guard h
      refine e_iald aX8_leads_34 ly_187 hg2 ?_
      refine e_ishr aX8_leads_35 ?_
      refine e_iconst (v := 1) aX8_leads_36 (by decide) ?_
      refine e_iand aX8_leads_37 ?_
      refine e_aload_n aX8_leads_38 rfl ?_
      refine e_getR (r := 188) aX8_leads_39 fX8_48 ly_176 rfl ?_
      refine e_iload aX8_leads_42 rfl ?_
      obtain ⟨hg3, h⟩ := of_guard h
      refine e_iald aX8_leads_44 ly_188 hg3 ?_
      refine e_ishl aX8_leads_45 ?_
      refine e_ior aX8_leads_46 ?_
      obtain ⟨v4, ev4, h⟩ := of_lt h
      refine e_nameI ev4 ?_
      refine e_istore_n (L2 := [some (.ref (x.2.2.1 + 176)), some (.int i1), some (.int i2), some (.int v4), some (.int i4), some (.int i5)]) aX8_leads_47 ⟨by decide, rfl⟩ rfl ?_
      refine e_iinc (v := i5 + 1) (L2 := [some (.ref (x.2.2.1 + 176)), some (.int i1), some (.int i2), some (.int v4), some (.int i4), some (.int (i5 + 1))]) aX8_leads_48 rfl rfl ⟨by decide, rfl⟩ rfl ?_
      refine e_goto (tgt := 17) aX8_leads_51 (by decide) ?_
      exact ih _ _ h
def s_X8_leads_7 (i1 : Int32) (i2 : Int32) (M : Mem) (k : Int32 → Int32 → Option Int32) (rec : Int32 → Int32 → Option Int32) (i3 : Int32) (i4 : Int32) : Option Int32 :=
  if 6 ≤ i4 then
    k i3 i4
  else
    f_X8_leads_17 i1 i2 i4 M (fun (i3_2 : Int32) (i5_3 : Int32) =>
      rec i3_2 (i4 + 1)) FU i3 0
def f_X8_leads_7 (i1 : Int32) (i2 : Int32) (M : Mem) (k : Int32 → Int32 → Option Int32) : Nat → Int32 → Int32 → Option Int32
  | 0 => fun _ _ => none
  | n + 1 => fun i3 i4 => s_X8_leads_7 i1 i2 M k (f_X8_leads_7 i1 i2 M k n) i3 i4
set_option maxRecDepth 100000 in
set_option maxHeartbeats 4000000 in
theorem w_X8_leads_7 (l : Launch) (x : WX) {i1 : Int32} {i2 : Int32} {M : Mem} {k : Int32 → Int32 → Option Int32} {r : Int32}  (K : ∀ (i3 : Int32) (i4 : Int32), k i3 i4 = some r → Ev l x false cX8_leads RX8 (some FieldType.boolean) 6 0 0 0 (pI r M) 60 [some (.ref (x.2.2.1 + 176)), some (.int i1), some (.int i2), some (.int i3), some (.int i4), none] [] LAY M) : ∀ (n : Nat) (i3 : Int32) (i4 : Int32), f_X8_leads_7 i1 i2 M k n i3 i4 = some r → Ev l x false cX8_leads RX8 (some FieldType.boolean) 6 0 0 0 (pI r M) 7 [some (.ref (x.2.2.1 + 176)), some (.int i1), some (.int i2), some (.int i3), some (.int i4), none] [] LAY M := by
  intro n
  induction n with
  | zero =>
    intro i3 i4 h
    exact nomatch (show (none : Option Int32) = some r from h)
  | succ n ih =>
    intro i3 i4 h
    have h : s_X8_leads_7 i1 i2 M k (f_X8_leads_7 i1 i2 M k n) i3 i4 = some r := h
    unfold s_X8_leads_7 at h
    refine e_iload aX8_leads_7 rfl ?_
    refine e_bipush (v := 6) aX8_leads_9 (by decide) ?_
    rcases of_ite h with ⟨hc1, h⟩ | ⟨hc1, h⟩
    · refine e_icmp_ge (tgt := 60) aX8_leads_11 (by decide) (fun _ => ?_) (fun q => absurd hc1 q)
      exact K _ _ h
    · refine e_icmp_ge (tgt := 60) aX8_leads_11 (by decide) (fun q => absurd q hc1) (fun _ => ?_)
      refine e_iconst (v := 0) aX8_leads_14 (by decide) ?_
      refine e_istore (L2 := [some (.ref (x.2.2.1 + 176)), some (.int i1), some (.int i2), some (.int i3), some (.int i4), some (.int 0)]) aX8_leads_15 ⟨by decide, rfl⟩ rfl ?_
      refine w_X8_leads_17 l x  (fun i3_2 i5_3 h => ?_) FU _ _ h
      refine e_iinc (v := i4 + 1) (L2 := [some (.ref (x.2.2.1 + 176)), some (.int i1), some (.int i2), some (.int i3_2), some (.int (i4 + 1)), some (.int i5_3)]) aX8_leads_54 rfl rfl ⟨by decide, rfl⟩ rfl ?_
      refine e_goto (tgt := 7) aX8_leads_57 (by decide) ?_
      refine e_drop 5 (L2 := [some (.ref (x.2.2.1 + 176)), some (.int i1), some (.int i2), some (.int i3_2), some (.int (i4 + 1)), none]) rfl ?_
      exact ih _ _ h
def f_X8_leads (i1 : Int32) (i2 : Int32) (M : Mem) : Option Int32 :=
  lt (1 <<< (i1 &&& 31)) fun (v1 : Int32) =>
  f_X8_leads_7 i1 i2 M (fun (i3_2 : Int32) (i4_3 : Int32) =>
    if (i3_2 >>> (i2 &&& 31)) &&& 1 = 1 then
      some 1
    else
      some 0) FU v1 0
set_option maxRecDepth 100000 in
set_option maxHeartbeats 4000000 in
theorem c_X8_leads (l : Launch) (x : WX) {i1 : Int32} {i2 : Int32} {M : Mem} {r : Int32}  (h : f_X8_leads i1 i2 M = some r) : Mt l x false yX8_leads cX8_leads 6 (some FieldType.boolean) 0 0 0 [.ref (x.2.2.1 + 176), .int i1, .int i2] LAY M (pI r M) := by
  refine mt_of (L0 := [some (.ref (x.2.2.1 + 176)), some (.int i1), some (.int i2), none, none, none]) (by decide +kernel) rfl (Nat.le_of_ble_eq_true rfl) (lvA_of 3 rfl) ?_
  unfold f_X8_leads at h
  refine e_iconst (v := 1) aX8_leads_0 (by decide) ?_
  refine e_iload_n aX8_leads_1 rfl ?_
  refine e_ishl aX8_leads_2 ?_
  obtain ⟨v1, ev1, h⟩ := of_lt h
  refine e_nameI ev1 ?_
  refine e_istore_n (L2 := [some (.ref (x.2.2.1 + 176)), some (.int i1), some (.int i2), some (.int v1), none, none]) aX8_leads_3 ⟨by decide, rfl⟩ rfl ?_
  refine e_iconst (v := 0) aX8_leads_4 (by decide) ?_
  refine e_istore (L2 := [some (.ref (x.2.2.1 + 176)), some (.int i1), some (.int i2), some (.int v1), some (.int 0), none]) aX8_leads_5 ⟨by decide, rfl⟩ rfl ?_
  refine w_X8_leads_7 l x  (fun i3_2 i4_3 h => ?_) FU _ _ h
  refine e_iload_n aX8_leads_60 rfl ?_
  refine e_iload_n aX8_leads_61 rfl ?_
  refine e_ishr aX8_leads_62 ?_
  refine e_iconst (v := 1) aX8_leads_63 (by decide) ?_
  refine e_iand aX8_leads_64 ?_
  refine e_iconst (v := 1) aX8_leads_65 (by decide) ?_
  rcases of_ite h with ⟨hc4, h⟩ | ⟨hc4, h⟩
  · refine e_icmp_ne (tgt := 73) aX8_leads_66 (by decide) (fun q => absurd hc4 q) (fun _ => ?_)
    refine e_iconst (v := 1) aX8_leads_69 (by decide) ?_
    refine e_goto (tgt := 74) aX8_leads_70 (by decide) ?_
    exact e_retI aX8_leads_74 rfl (by decide +kernel) (pI_ro h)
  · refine e_icmp_ne (tgt := 73) aX8_leads_66 (by decide) (fun _ => ?_) (fun q => absurd q hc4)
    refine e_iconst (v := 0) aX8_leads_73 (by decide) ?_
    exact e_retI aX8_leads_74 rfl (by decide +kernel) (pI_ro h)
def s_X8_readsRest_90 (i1 : Int32) (k : Int32 → Int32 → Mem → Option (Int32 × Mem)) (rec : Int32 → Int32 → Mem → Option (Int32 × Mem)) (i2 : Int32) (i3 : Int32) (M : Mem) : Option (Int32 × Mem) :=
  if M 176 17 ≤ i3 then
    k i2 i3 M
  else
    if i2 = 0 then
      k i2 i3 M
    else
      (f_X8_number i3 0 99 M).bind fun (q3 : Int32 × Mem) =>
      rec q3.1 (i3 + 1) q3.2
def f_X8_readsRest_90 (i1 : Int32) (k : Int32 → Int32 → Mem → Option (Int32 × Mem)) : Nat → Int32 → Int32 → Mem → Option (Int32 × Mem)
  | 0 => fun _ _ _ => none
  | n + 1 => fun i2 i3 M => s_X8_readsRest_90 i1 k (f_X8_readsRest_90 i1 k n) i2 i3 M
set_option maxRecDepth 100000 in
set_option maxHeartbeats 4000000 in
theorem w_X8_readsRest_90 (l : Launch) (x : WX) {i1 : Int32} {k : Int32 → Int32 → Mem → Option (Int32 × Mem)} {r : (Int32 × Mem)}  (K : ∀ (i2 : Int32) (i3 : Int32) (M : Mem), k i2 i3 M = some r → Ev l x false cX8_readsRest RX8 (some FieldType.boolean) 4 4 0 0 (pI r.1 r.2) 117 [some (.ref (x.2.2.1 + 176)), some (.int i1), some (.int i2), some (.int i3)] [] LAY M) : ∀ (n : Nat) (i2 : Int32) (i3 : Int32) (M : Mem), f_X8_readsRest_90 i1 k n i2 i3 M = some r → Ev l x false cX8_readsRest RX8 (some FieldType.boolean) 4 4 0 0 (pI r.1 r.2) 90 [some (.ref (x.2.2.1 + 176)), some (.int i1), some (.int i2), some (.int i3)] [] LAY M := by
  intro n
  induction n with
  | zero =>
    intro i2 i3 M h
    exact nomatch (show (none : Option (Int32 × Mem)) = some r from h)
  | succ n ih =>
    intro i2 i3 M h
    have h : s_X8_readsRest_90 i1 k (f_X8_readsRest_90 i1 k n) i2 i3 M = some r := h
    unfold s_X8_readsRest_90 at h
    refine e_iload_n aX8_readsRest_90 rfl ?_
    refine e_aload_n aX8_readsRest_91 rfl ?_
    refine e_getI aX8_readsRest_92 fX8_118 ly_176 rfl ?_
    rcases of_ite h with ⟨hc1, h⟩ | ⟨hc1, h⟩
    · refine e_icmp_ge (tgt := 117) aX8_readsRest_95 (by decide) (fun _ => ?_) (fun q => absurd hc1 q)
      exact K _ _ _ h
    · refine e_icmp_ge (tgt := 117) aX8_readsRest_95 (by decide) (fun q => absurd q hc1) (fun _ => ?_)
      refine e_iload_n aX8_readsRest_98 rfl ?_
      rcases of_ite h with ⟨hc2, h⟩ | ⟨hc2, h⟩
      · refine e_if_eq (tgt := 117) aX8_readsRest_99 (by decide) (fun _ => ?_) (fun q => absurd hc2 q)
        exact K _ _ _ h
      · refine e_if_eq (tgt := 117) aX8_readsRest_99 (by decide) (fun q => absurd q hc2) (fun _ => ?_)
        refine e_aload_n aX8_readsRest_102 rfl ?_
        refine e_iload_n aX8_readsRest_103 rfl ?_
        refine e_iconst (v := 0) aX8_readsRest_104 (by decide) ?_
        refine e_bipush (v := 99) aX8_readsRest_105 (by decide) ?_
        obtain ⟨q3, hq3, h⟩ := of_bind h
        refine e_VI [] aX8_readsRest_107 co_X8_number mX8_114 ly_176 rfl rfl (c_X8_number l x hq3) rfl ⟨by decide, by decide⟩ (Nat.le_of_ble_eq_true rfl) rfl ?_
        refine e_istore_n (L2 := [some (.ref (x.2.2.1 + 176)), some (.int i1), some (.int q3.1), some (.int i3)]) aX8_readsRest_110 ⟨by decide, rfl⟩ rfl ?_
        refine e_iinc (v := i3 + 1) (L2 := [some (.ref (x.2.2.1 + 176)), some (.int i1), some (.int q3.1), some (.int (i3 + 1))]) aX8_readsRest_111 rfl rfl ⟨by decide, rfl⟩ rfl ?_
        refine e_goto (tgt := 90) aX8_readsRest_114 (by decide) ?_
        exact ih _ _ _ h
def f_X8_readsRest (i1 : Int32) (M : Mem) : Option (Int32 × Mem) :=
  if i1 = 0 then
    (f_X8_number 0 1 6 M).bind fun (q16 : Int32 × Mem) =>
    if ¬ (q16.1 = 0 ∨ q16.1 = 1) then none else
    some (q16.1, q16.2)
  else
    if i1 = 1 then
      (f_X8_number 0 0 ((M 176 17) - 1) M).bind fun (q7 : Int32 × Mem) =>
      if q7.1 = 0 then
        some (0, q7.2)
      else
        (f_X8_numberHere 0 ((q7.2 176 17) - 1) q7.2).bind fun (r9 : Int32) =>
        if r9 < 0 then
          some (0, q7.2)
        else
          if (0 : Int32) < 0 ∨ 6 ≤ (0 : Int32).toNatClampNeg then none else
          (f_X8_leads r9 (q7.2 189 (0 : Int32).toNatClampNeg) q7.2).bind fun (r12 : Int32) =>
          if r12 = 0 then
            (f_X8_number 1 0 ((q7.2 176 17) - 1) q7.2).bind fun (q14 : Int32 × Mem) =>
            if q14.1 = 0 then
              some (0, q14.2)
            else
              some (1, q14.2)
          else
            some (0, q7.2)
    else
      f_X8_readsRest_90 i1 (fun (i2_3 : Int32) (i3_4 : Int32) (M5 : Mem) =>
        if ¬ (i2_3 = 0 ∨ i2_3 = 1) then none else
        some (i2_3, M5)) FU 1 0 M
set_option maxRecDepth 100000 in
set_option maxHeartbeats 4000000 in
theorem c_X8_readsRest (l : Launch) (x : WX) {i1 : Int32} {M : Mem} {r : (Int32 × Mem)}  (h : f_X8_readsRest i1 M = some r) : Mt l x false yX8_readsRest cX8_readsRest 4 (some FieldType.boolean) 4 0 0 [.ref (x.2.2.1 + 176), .int i1] LAY M (pI r.1 r.2) := by
  refine mt_of (L0 := [some (.ref (x.2.2.1 + 176)), some (.int i1), none, none]) (by decide +kernel) rfl (Nat.le_of_ble_eq_true rfl) (lvA_of 2 rfl) ?_
  unfold f_X8_readsRest at h
  refine e_iload_n aX8_readsRest_0 rfl ?_
  rcases of_ite h with ⟨hc1, h⟩ | ⟨hc1, h⟩
  · refine e_if_ne (tgt := 13) aX8_readsRest_1 (by decide) (fun q => absurd hc1 q) (fun _ => ?_)
    refine e_aload_n aX8_readsRest_4 rfl ?_
    refine e_iconst (v := 0) aX8_readsRest_5 (by decide) ?_
    refine e_iconst (v := 1) aX8_readsRest_6 (by decide) ?_
    refine e_bipush (v := 6) aX8_readsRest_7 (by decide) ?_
    obtain ⟨q16, hq16, h⟩ := of_bind h
    refine e_VI [] aX8_readsRest_9 co_X8_number mX8_114 ly_176 rfl rfl (c_X8_number l x hq16) rfl ⟨by decide, by decide⟩ (Nat.le_of_ble_eq_true rfl) rfl ?_
    obtain ⟨hg17, h⟩ := of_guard h
    exact e_retI aX8_readsRest_12 rfl (nz_of (Decidable.of_not_not hg17)) (pI_of h)
  · refine e_if_ne (tgt := 13) aX8_readsRest_1 (by decide) (fun _ => ?_) (fun q => absurd q hc1)
    refine e_iload_n aX8_readsRest_13 rfl ?_
    refine e_iconst (v := 1) aX8_readsRest_14 (by decide) ?_
    rcases of_ite h with ⟨hc2, h⟩ | ⟨hc2, h⟩
    · refine e_icmp_ne (tgt := 86) aX8_readsRest_15 (by decide) (fun q => absurd hc2 q) (fun _ => ?_)
      refine e_aload_n aX8_readsRest_18 rfl ?_
      refine e_iconst (v := 0) aX8_readsRest_19 (by decide) ?_
      refine e_iconst (v := 0) aX8_readsRest_20 (by decide) ?_
      refine e_aload_n aX8_readsRest_21 rfl ?_
      refine e_getI aX8_readsRest_22 fX8_118 ly_176 rfl ?_
      refine e_iconst (v := 1) aX8_readsRest_25 (by decide) ?_
      refine e_isub aX8_readsRest_26 ?_
      obtain ⟨q7, hq7, h⟩ := of_bind h
      refine e_VI [] aX8_readsRest_27 co_X8_number mX8_114 ly_176 rfl rfl (c_X8_number l x hq7) rfl ⟨by decide, by decide⟩ (Nat.le_of_ble_eq_true rfl) rfl ?_
      rcases of_ite h with ⟨hc8, h⟩ | ⟨hc8, h⟩
      · refine e_if_ne (tgt := 35) aX8_readsRest_30 (by decide) (fun q => absurd hc8 q) (fun _ => ?_)
        refine e_iconst (v := 0) aX8_readsRest_33 (by decide) ?_
        exact e_retI aX8_readsRest_34 rfl (by decide +kernel) (pI_of h)
      · refine e_if_ne (tgt := 35) aX8_readsRest_30 (by decide) (fun _ => ?_) (fun q => absurd q hc8)
        refine e_aload_n aX8_readsRest_35 rfl ?_
        refine e_iconst (v := 0) aX8_readsRest_36 (by decide) ?_
        refine e_aload_n aX8_readsRest_37 rfl ?_
        refine e_getI aX8_readsRest_38 fX8_118 ly_176 rfl ?_
        refine e_iconst (v := 1) aX8_readsRest_41 (by decide) ?_
        refine e_isub aX8_readsRest_42 ?_
        obtain ⟨r9, hr9, h⟩ := of_bind h
        refine e_VI [] aX8_readsRest_43 co_X8_numberHere mX8_104 ly_176 rfl rfl (c_X8_numberHere l x hr9) rfl ⟨by decide, by decide⟩ (Nat.le_of_ble_eq_true rfl) rfl ?_
        refine e_istore_n (L2 := [some (.ref (x.2.2.1 + 176)), some (.int i1), some (.int r9), none]) aX8_readsRest_46 ⟨by decide, rfl⟩ rfl ?_
        refine e_iload_n aX8_readsRest_47 rfl ?_
        rcases of_ite h with ⟨hc10, h⟩ | ⟨hc10, h⟩
        · refine e_if_lt (tgt := 84) aX8_readsRest_48 (by decide) (fun _ => ?_) (fun q => absurd hc10 q)
          refine e_iconst (v := 0) aX8_readsRest_84 (by decide) ?_
          exact e_retI aX8_readsRest_85 rfl (by decide +kernel) (pI_of h)
        · refine e_if_lt (tgt := 84) aX8_readsRest_48 (by decide) (fun q => absurd q hc10) (fun _ => ?_)
          refine e_aload_n aX8_readsRest_51 rfl ?_
          refine e_iload_n aX8_readsRest_52 rfl ?_
          refine e_aload_n aX8_readsRest_53 rfl ?_
          refine e_getR (r := 189) aX8_readsRest_54 fX8_51 ly_176 rfl ?_
          refine e_iconst (v := 0) aX8_readsRest_57 (by decide) ?_
          obtain ⟨hg11, h⟩ := of_guard h
          refine e_iald aX8_readsRest_58 ly_189 hg11 ?_
          obtain ⟨r12, hr12, h⟩ := of_bind h
          refine e_VI [] aX8_readsRest_59 co_X8_leads mX8_121 ly_176 rfl rfl (c_X8_leads l x hr12) rfl ⟨by decide, by decide⟩ (Nat.le_of_ble_eq_true rfl) rfl ?_
          rcases of_ite h with ⟨hc13, h⟩ | ⟨hc13, h⟩
          · refine e_if_ne (tgt := 84) aX8_readsRest_62 (by decide) (fun q => absurd hc13 q) (fun _ => ?_)
            refine e_aload_n aX8_readsRest_65 rfl ?_
            refine e_iconst (v := 1) aX8_readsRest_66 (by decide) ?_
            refine e_iconst (v := 0) aX8_readsRest_67 (by decide) ?_
            refine e_aload_n aX8_readsRest_68 rfl ?_
            refine e_getI aX8_readsRest_69 fX8_118 ly_176 rfl ?_
            refine e_iconst (v := 1) aX8_readsRest_72 (by decide) ?_
            refine e_isub aX8_readsRest_73 ?_
            obtain ⟨q14, hq14, h⟩ := of_bind h
            refine e_VI [] aX8_readsRest_74 co_X8_number mX8_114 ly_176 rfl rfl (c_X8_number l x hq14) rfl ⟨by decide, by decide⟩ (Nat.le_of_ble_eq_true rfl) rfl ?_
            rcases of_ite h with ⟨hc15, h⟩ | ⟨hc15, h⟩
            · refine e_if_eq (tgt := 84) aX8_readsRest_77 (by decide) (fun _ => ?_) (fun q => absurd hc15 q)
              refine e_iconst (v := 0) aX8_readsRest_84 (by decide) ?_
              exact e_retI aX8_readsRest_85 rfl (by decide +kernel) (pI_of h)
            · refine e_if_eq (tgt := 84) aX8_readsRest_77 (by decide) (fun q => absurd q hc15) (fun _ => ?_)
              refine e_iconst (v := 1) aX8_readsRest_80 (by decide) ?_
              refine e_goto (tgt := 85) aX8_readsRest_81 (by decide) ?_
              exact e_retI aX8_readsRest_85 rfl (by decide +kernel) (pI_of h)
          · refine e_if_ne (tgt := 84) aX8_readsRest_62 (by decide) (fun _ => ?_) (fun q => absurd q hc13)
            refine e_iconst (v := 0) aX8_readsRest_84 (by decide) ?_
            exact e_retI aX8_readsRest_85 rfl (by decide +kernel) (pI_of h)
    · refine e_icmp_ne (tgt := 86) aX8_readsRest_15 (by decide) (fun _ => ?_) (fun q => absurd q hc2)
      refine e_iconst (v := 1) aX8_readsRest_86 (by decide) ?_
      refine e_istore_n (L2 := [some (.ref (x.2.2.1 + 176)), some (.int i1), some (.int 1), none]) aX8_readsRest_87 ⟨by decide, rfl⟩ rfl ?_
      refine e_iconst (v := 0) aX8_readsRest_88 (by decide) ?_
      refine e_istore_n (L2 := [some (.ref (x.2.2.1 + 176)), some (.int i1), some (.int 1), some (.int 0)]) aX8_readsRest_89 ⟨by decide, rfl⟩ rfl ?_
      refine w_X8_readsRest_90 l x  (fun i2_3 i3_4 M5 h => ?_) FU _ _ _ h
      refine e_iload_n aX8_readsRest_117 rfl ?_
      obtain ⟨hg6, h⟩ := of_guard h
      exact e_retI aX8_readsRest_118 rfl (nz_of (Decidable.of_not_not hg6)) (pI_of h)
def s_X8_anew_14 (i1 : Int32) (k : Int32 → Mem → Option Mem) (rec : Int32 → Mem → Option Mem) (i2 : Int32) (M : Mem) : Option Mem :=
  if 6 ≤ i2 then
    k i2 M
  else
    if 21 + i2 < 0 ∨ 297 ≤ (21 + i2).toNatClampNeg then none else
    lt (um M 177 (21 + i2).toNatClampNeg 0) fun (M3 : Mem) =>
    rec (i2 + 1) M3
def f_X8_anew_14 (i1 : Int32) (k : Int32 → Mem → Option Mem) : Nat → Int32 → Mem → Option Mem
  | 0 => fun _ _ => none
  | n + 1 => fun i2 M => s_X8_anew_14 i1 k (f_X8_anew_14 i1 k n) i2 M
set_option maxRecDepth 100000 in
set_option maxHeartbeats 4000000 in
theorem w_X8_anew_14 (l : Launch) (x : WX) {i1 : Int32} {k : Int32 → Mem → Option Mem} {r : Mem}  (K : ∀ (i2 : Int32) (M : Mem), k i2 M = some r → Ev l x false cX8_anew RX8 none 3 0 0 0 (pV r) 36 [some (.ref (x.2.2.1 + 176)), some (.int i1), some (.int i2)] [] LAY M) : ∀ (n : Nat) (i2 : Int32) (M : Mem), f_X8_anew_14 i1 k n i2 M = some r → Ev l x false cX8_anew RX8 none 3 0 0 0 (pV r) 14 [some (.ref (x.2.2.1 + 176)), some (.int i1), some (.int i2)] [] LAY M := by
  intro n
  induction n with
  | zero =>
    intro i2 M h
    exact nomatch (show (none : Option Mem) = some r from h)
  | succ n ih =>
    intro i2 M h
    have h : s_X8_anew_14 i1 k (f_X8_anew_14 i1 k n) i2 M = some r := h
    unfold s_X8_anew_14 at h
    refine e_iload_n aX8_anew_14 rfl ?_
    refine e_bipush (v := 6) aX8_anew_15 (by decide) ?_
    rcases of_ite h with ⟨hc1, h⟩ | ⟨hc1, h⟩
    · refine e_icmp_ge (tgt := 36) aX8_anew_17 (by decide) (fun _ => ?_) (fun q => absurd hc1 q)
      exact K _ _ h
    · refine e_icmp_ge (tgt := 36) aX8_anew_17 (by decide) (fun q => absurd q hc1) (fun _ => ?_)
      refine e_aload_n aX8_anew_20 rfl ?_
      refine e_getR (r := 177) aX8_anew_21 fX8_13 ly_176 rfl ?_
      refine e_bipush (v := 21) aX8_anew_24 (by decide) ?_
      refine e_iload_n aX8_anew_26 rfl ?_
      refine e_iadd aX8_anew_27 ?_
      refine e_iconst (v := 0) aX8_anew_28 (by decide) ?_
      obtain ⟨hg2, h⟩ := of_guard h
      obtain ⟨M3, eM3, h⟩ := of_lt h
      refine e_ist aX8_anew_29 ly_177 hg2 eM3 ?_
      refine e_iinc (v := i2 + 1) (L2 := [some (.ref (x.2.2.1 + 176)), some (.int i1), some (.int (i2 + 1))]) aX8_anew_30 rfl rfl ⟨by decide, rfl⟩ rfl ?_
      refine e_goto (tgt := 14) aX8_anew_33 (by decide) ?_
      exact ih _ _ h
def f_X8_anew (i1 : Int32) (M : Mem) : Option Mem :=
  lt (um M 176 0 i1) fun (M1 : Mem) =>
  if (0 : Int32) < 0 ∨ 297 ≤ (0 : Int32).toNatClampNeg then none else
  lt (um M1 177 (0 : Int32).toNatClampNeg 0) fun (M3 : Mem) =>
  f_X8_anew_14 i1 (fun (i2_4 : Int32) (M5 : Mem) =>
    some M5) FU 0 M3
set_option maxRecDepth 100000 in
set_option maxHeartbeats 4000000 in
theorem c_X8_anew (l : Launch) (x : WX) {i1 : Int32} {M : Mem} {r : Mem}  (h : f_X8_anew i1 M = some r) : Mt l x false yX8_anew cX8_anew 3 none 0 0 0 [.ref (x.2.2.1 + 176), .int i1] LAY M (pV r) := by
  refine mt_of (L0 := [some (.ref (x.2.2.1 + 176)), some (.int i1), none]) (by decide +kernel) rfl (Nat.le_of_ble_eq_true rfl) (lvA_of 1 rfl) ?_
  unfold f_X8_anew at h
  refine e_aload_n aX8_anew_0 rfl ?_
  refine e_iload_n aX8_anew_1 rfl ?_
  obtain ⟨M1, eM1, h⟩ := of_lt h
  refine e_put aX8_anew_2 qX8_7 ly_176 rfl (fi_of _) eM1 ?_
  refine e_aload_n aX8_anew_5 rfl ?_
  refine e_getR (r := 177) aX8_anew_6 fX8_13 ly_176 rfl ?_
  refine e_iconst (v := 0) aX8_anew_9 (by decide) ?_
  refine e_iconst (v := 0) aX8_anew_10 (by decide) ?_
  obtain ⟨hg2, h⟩ := of_guard h
  obtain ⟨M3, eM3, h⟩ := of_lt h
  refine e_ist aX8_anew_11 ly_177 hg2 eM3 ?_
  refine e_iconst (v := 0) aX8_anew_12 (by decide) ?_
  refine e_istore_n (L2 := [some (.ref (x.2.2.1 + 176)), some (.int i1), some (.int 0)]) aX8_anew_13 ⟨by decide, rfl⟩ rfl ?_
  refine w_X8_anew_14 l x  (fun i2_4 M5 h => ?_) FU _ _ h
  exact e_ret0 aX8_anew_36 rfl (pV_of h)
def f_X8_addArrow (i1 : Int32) (i2 : Int32) (M : Mem) : Option Mem :=
  if (0 : Int32) < 0 ∨ 297 ≤ (0 : Int32).toNatClampNeg then none else
  if 1 + (M 177 (0 : Int32).toNatClampNeg) < 0 ∨ 297 ≤ (1 + (M 177 (0 : Int32).toNatClampNeg)).toNatClampNeg then none else
  lt (um M 177 (1 + (M 177 (0 : Int32).toNatClampNeg)).toNatClampNeg i1) fun (M3 : Mem) =>
  if (0 : Int32) < 0 ∨ 297 ≤ (0 : Int32).toNatClampNeg then none else
  if 11 + (M3 177 (0 : Int32).toNatClampNeg) < 0 ∨ 297 ≤ (11 + (M3 177 (0 : Int32).toNatClampNeg)).toNatClampNeg then none else
  lt (um M3 177 (11 + (M3 177 (0 : Int32).toNatClampNeg)).toNatClampNeg i2) fun (M6 : Mem) =>
  if (0 : Int32) < 0 ∨ 297 ≤ (0 : Int32).toNatClampNeg then none else
  if (0 : Int32) < 0 ∨ 297 ≤ (0 : Int32).toNatClampNeg then none else
  lt (um M6 177 (0 : Int32).toNatClampNeg ((M6 177 (0 : Int32).toNatClampNeg) + 1)) fun (M9 : Mem) =>
  some M9
set_option maxRecDepth 100000 in
set_option maxHeartbeats 4000000 in
theorem c_X8_addArrow (l : Launch) (x : WX) {i1 : Int32} {i2 : Int32} {M : Mem} {r : Mem}  (h : f_X8_addArrow i1 i2 M = some r) : Mt l x false yX8_addArrow cX8_addArrow 3 none 0 0 0 [.ref (x.2.2.1 + 176), .int i1, .int i2] LAY M (pV r) := by
  refine mt_of (L0 := [some (.ref (x.2.2.1 + 176)), some (.int i1), some (.int i2)]) (by decide +kernel) rfl (Nat.le_of_ble_eq_true rfl) (lvA_of 0 rfl) ?_
  unfold f_X8_addArrow at h
  refine e_aload_n aX8_addArrow_0 rfl ?_
  refine e_getR (r := 177) aX8_addArrow_1 fX8_13 ly_176 rfl ?_
  refine e_iconst (v := 1) aX8_addArrow_4 (by decide) ?_
  refine e_aload_n aX8_addArrow_5 rfl ?_
  refine e_getR (r := 177) aX8_addArrow_6 fX8_13 ly_176 rfl ?_
  refine e_iconst (v := 0) aX8_addArrow_9 (by decide) ?_
  obtain ⟨hg1, h⟩ := of_guard h
  refine e_iald aX8_addArrow_10 ly_177 hg1 ?_
  refine e_iadd aX8_addArrow_11 ?_
  refine e_iload_n aX8_addArrow_12 rfl ?_
  obtain ⟨hg2, h⟩ := of_guard h
  obtain ⟨M3, eM3, h⟩ := of_lt h
  refine e_ist aX8_addArrow_13 ly_177 hg2 eM3 ?_
  refine e_aload_n aX8_addArrow_14 rfl ?_
  refine e_getR (r := 177) aX8_addArrow_15 fX8_13 ly_176 rfl ?_
  refine e_bipush (v := 11) aX8_addArrow_18 (by decide) ?_
  refine e_aload_n aX8_addArrow_20 rfl ?_
  refine e_getR (r := 177) aX8_addArrow_21 fX8_13 ly_176 rfl ?_
  refine e_iconst (v := 0) aX8_addArrow_24 (by decide) ?_
  obtain ⟨hg4, h⟩ := of_guard h
  refine e_iald aX8_addArrow_25 ly_177 hg4 ?_
  refine e_iadd aX8_addArrow_26 ?_
  refine e_iload_n aX8_addArrow_27 rfl ?_
  obtain ⟨hg5, h⟩ := of_guard h
  obtain ⟨M6, eM6, h⟩ := of_lt h
  refine e_ist aX8_addArrow_28 ly_177 hg5 eM6 ?_
  refine e_aload_n aX8_addArrow_29 rfl ?_
  refine e_getR (r := 177) aX8_addArrow_30 fX8_13 ly_176 rfl ?_
  refine e_iconst (v := 0) aX8_addArrow_33 (by decide) ?_
  refine e_dup2 aX8_addArrow_34 ?_
  obtain ⟨hg7, h⟩ := of_guard h
  refine e_iald aX8_addArrow_35 ly_177 hg7 ?_
  refine e_iconst (v := 1) aX8_addArrow_36 (by decide) ?_
  refine e_iadd aX8_addArrow_37 ?_
  obtain ⟨hg8, h⟩ := of_guard h
  obtain ⟨M9, eM9, h⟩ := of_lt h
  refine e_ist aX8_addArrow_38 ly_177 hg8 eM9 ?_
  exact e_ret0 aX8_addArrow_39 rfl (pV_of h)
def s_X8_does_43 (i1 : Int32) (k : Int32 → Mem → Option Mem) (rec : Int32 → Mem → Option Mem) (i2 : Int32) (M : Mem) : Option Mem :=
  if M 176 0 ≤ i2 then
    k i2 M
  else
    if i2 < 0 ∨ 6 ≤ i2.toNatClampNeg then none else
    if 21 + i2 < 0 ∨ 297 ≤ (21 + i2).toNatClampNeg then none else
    lt (um M 177 (21 + i2).toNatClampNeg (M 189 i2.toNatClampNeg)) fun (M4 : Mem) =>
    rec (i2 + 1) M4
def f_X8_does_43 (i1 : Int32) (k : Int32 → Mem → Option Mem) : Nat → Int32 → Mem → Option Mem
  | 0 => fun _ _ => none
  | n + 1 => fun i2 M => s_X8_does_43 i1 k (f_X8_does_43 i1 k n) i2 M
set_option maxRecDepth 100000 in
set_option maxHeartbeats 4000000 in
theorem w_X8_does_43 (l : Launch) (x : WX) {i1 : Int32} {k : Int32 → Mem → Option Mem} {r : Mem}  (K : ∀ (i2 : Int32) (M : Mem), k i2 M = some r → Ev l x false cX8_does RX8 none 3 1 0 0 (pV r) 72 [some (.ref (x.2.2.1 + 176)), some (.int i1), some (.int i2)] [] LAY M) : ∀ (n : Nat) (i2 : Int32) (M : Mem), f_X8_does_43 i1 k n i2 M = some r → Ev l x false cX8_does RX8 none 3 1 0 0 (pV r) 43 [some (.ref (x.2.2.1 + 176)), some (.int i1), some (.int i2)] [] LAY M := by
  intro n
  induction n with
  | zero =>
    intro i2 M h
    exact nomatch (show (none : Option Mem) = some r from h)
  | succ n ih =>
    intro i2 M h
    have h : s_X8_does_43 i1 k (f_X8_does_43 i1 k n) i2 M = some r := h
    unfold s_X8_does_43 at h
    refine e_iload_n aX8_does_43 rfl ?_
    refine e_aload_n aX8_does_44 rfl ?_
    refine e_getI aX8_does_45 fX8_7 ly_176 rfl ?_
    rcases of_ite h with ⟨hc1, h⟩ | ⟨hc1, h⟩
    · refine e_icmp_ge (tgt := 72) aX8_does_48 (by decide) (fun _ => ?_) (fun q => absurd hc1 q)
      exact K _ _ h
    · refine e_icmp_ge (tgt := 72) aX8_does_48 (by decide) (fun q => absurd q hc1) (fun _ => ?_)
      refine e_aload_n aX8_does_51 rfl ?_
      refine e_getR (r := 177) aX8_does_52 fX8_13 ly_176 rfl ?_
      refine e_bipush (v := 21) aX8_does_55 (by decide) ?_
      refine e_iload_n aX8_does_57 rfl ?_
      refine e_iadd aX8_does_58 ?_
      refine e_aload_n aX8_does_59 rfl ?_
      refine e_getR (r := 189) aX8_does_60 fX8_51 ly_176 rfl ?_
      refine e_iload_n aX8_does_63 rfl ?_
      obtain ⟨hg2, h⟩ := of_guard h
      refine e_iald aX8_does_64 ly_189 hg2 ?_
      obtain ⟨hg3, h⟩ := of_guard h
      obtain ⟨M4, eM4, h⟩ := of_lt h
      refine e_ist aX8_does_65 ly_177 hg3 eM4 ?_
      refine e_iinc (v := i2 + 1) (L2 := [some (.ref (x.2.2.1 + 176)), some (.int i1), some (.int (i2 + 1))]) aX8_does_66 rfl rfl ⟨by decide, rfl⟩ rfl ?_
      refine e_goto (tgt := 43) aX8_does_69 (by decide) ?_
      exact ih _ _ h
def f_X8_does (i1 : Int32) (M : Mem) : Option Mem :=
  if i1 = 0 then
    if (0 : Int32) < 0 ∨ 6 ≤ (0 : Int32).toNatClampNeg then none else
    (f_X8_anew (M 189 (0 : Int32).toNatClampNeg) M).bind fun (M9 : Mem) =>
    some M9
  else
    if i1 = 1 then
      if (0 : Int32) < 0 ∨ 6 ≤ (0 : Int32).toNatClampNeg then none else
      if (1 : Int32) < 0 ∨ 6 ≤ (1 : Int32).toNatClampNeg then none else
      (f_X8_addArrow (M 189 (0 : Int32).toNatClampNeg) (M 189 (1 : Int32).toNatClampNeg) M).bind fun (M7 : Mem) =>
      some M7
    else
      f_X8_does_43 i1 (fun (i2_3 : Int32) (M4 : Mem) =>
        some M4) FU 0 M
set_option maxRecDepth 100000 in
set_option maxHeartbeats 4000000 in
theorem c_X8_does (l : Launch) (x : WX) {i1 : Int32} {M : Mem} {r : Mem}  (h : f_X8_does i1 M = some r) : Mt l x false yX8_does cX8_does 3 none 1 0 0 [.ref (x.2.2.1 + 176), .int i1] LAY M (pV r) := by
  refine mt_of (L0 := [some (.ref (x.2.2.1 + 176)), some (.int i1), none]) (by decide +kernel) rfl (Nat.le_of_ble_eq_true rfl) (lvA_of 1 rfl) ?_
  unfold f_X8_does at h
  refine e_iload_n aX8_does_0 rfl ?_
  rcases of_ite h with ⟨hc1, h⟩ | ⟨hc1, h⟩
  · refine e_if_ne (tgt := 17) aX8_does_1 (by decide) (fun q => absurd hc1 q) (fun _ => ?_)
    refine e_aload_n aX8_does_4 rfl ?_
    refine e_aload_n aX8_does_5 rfl ?_
    refine e_getR (r := 189) aX8_does_6 fX8_51 ly_176 rfl ?_
    refine e_iconst (v := 0) aX8_does_9 (by decide) ?_
    obtain ⟨hg8, h⟩ := of_guard h
    refine e_iald aX8_does_10 ly_189 hg8 ?_
    obtain ⟨M9, hM9, h⟩ := of_bind h
    refine e_VV [] aX8_does_11 co_X8_anew mX8_125 ly_176 rfl rfl (c_X8_anew l x hM9) rfl ⟨by decide, by decide⟩ (Nat.le_of_ble_eq_true rfl) rfl ?_
    refine e_goto (tgt := 72) aX8_does_14 (by decide) ?_
    exact e_ret0 aX8_does_72 rfl (pV_of h)
  · refine e_if_ne (tgt := 17) aX8_does_1 (by decide) (fun _ => ?_) (fun q => absurd q hc1)
    refine e_iload_n aX8_does_17 rfl ?_
    refine e_iconst (v := 1) aX8_does_18 (by decide) ?_
    rcases of_ite h with ⟨hc2, h⟩ | ⟨hc2, h⟩
    · refine e_icmp_ne (tgt := 41) aX8_does_19 (by decide) (fun q => absurd hc2 q) (fun _ => ?_)
      refine e_aload_n aX8_does_22 rfl ?_
      refine e_aload_n aX8_does_23 rfl ?_
      refine e_getR (r := 189) aX8_does_24 fX8_51 ly_176 rfl ?_
      refine e_iconst (v := 0) aX8_does_27 (by decide) ?_
      obtain ⟨hg5, h⟩ := of_guard h
      refine e_iald aX8_does_28 ly_189 hg5 ?_
      refine e_aload_n aX8_does_29 rfl ?_
      refine e_getR (r := 189) aX8_does_30 fX8_51 ly_176 rfl ?_
      refine e_iconst (v := 1) aX8_does_33 (by decide) ?_
      obtain ⟨hg6, h⟩ := of_guard h
      refine e_iald aX8_does_34 ly_189 hg6 ?_
      obtain ⟨M7, hM7, h⟩ := of_bind h
      refine e_VV [] aX8_does_35 co_X8_addArrow mX8_129 ly_176 rfl rfl (c_X8_addArrow l x hM7) rfl ⟨by decide, by decide⟩ (Nat.le_of_ble_eq_true rfl) rfl ?_
      refine e_goto (tgt := 72) aX8_does_38 (by decide) ?_
      exact e_ret0 aX8_does_72 rfl (pV_of h)
    · refine e_icmp_ne (tgt := 41) aX8_does_19 (by decide) (fun _ => ?_) (fun q => absurd q hc2)
      refine e_iconst (v := 0) aX8_does_41 (by decide) ?_
      refine e_istore_n (L2 := [some (.ref (x.2.2.1 + 176)), some (.int i1), some (.int 0)]) aX8_does_42 ⟨by decide, rfl⟩ rfl ?_
      refine w_X8_does_43 l x  (fun i2_3 M4 h => ?_) FU _ _ h
      exact e_ret0 aX8_does_72 rfl (pV_of h)
def f_X8_readsClause  (M : Mem) : Option (Int32 × Mem) :=
  (f_X8_wordHere M).bind fun (r1 : Int32) =>
  if r1 < 0 then
    some (0, M)
  else
    if r1 = 1 then
      if M 176 18 = 10 then
        some (0, M)
      else
        (f_X8_nextToken M).bind fun (M26 : Mem) =>
        (f_X8_readsRest r1 M26).bind fun (q27 : Int32 × Mem) =>
        if q27.1 = 0 then
          some (0, q27.2)
        else
          if r1 = 0 then
            if (0 : Int32) < 0 ∨ 6 ≤ (0 : Int32).toNatClampNeg then none else
            lt (um q27.2 176 17 (q27.2 189 (0 : Int32).toNatClampNeg)) fun (M43 : Mem) =>
            lt (um M43 176 18 0) fun (M44 : Mem) =>
            if M44 176 22 = 0 then
              some (1, M44)
            else
              (f_X8_does r1 M44).bind fun (M46 : Mem) =>
              some (1, M46)
          else
            if r1 = 1 then
              if (0 : Int32) < 0 ∨ 6 ≤ (0 : Int32).toNatClampNeg then none else
              if q27.2 176 18 < 0 ∨ 10 ≤ (q27.2 176 18).toNatClampNeg then none else
              lt (um q27.2 187 (q27.2 176 18).toNatClampNeg (q27.2 189 (0 : Int32).toNatClampNeg)) fun (M35 : Mem) =>
              if (1 : Int32) < 0 ∨ 6 ≤ (1 : Int32).toNatClampNeg then none else
              if M35 176 18 < 0 ∨ 10 ≤ (M35 176 18).toNatClampNeg then none else
              lt (um M35 188 (M35 176 18).toNatClampNeg (M35 189 (1 : Int32).toNatClampNeg)) fun (M38 : Mem) =>
              lt (um M38 176 18 ((M38 176 18) + 1)) fun (M39 : Mem) =>
              if M39 176 22 = 0 then
                some (1, M39)
              else
                (f_X8_does r1 M39).bind fun (M41 : Mem) =>
                some (1, M41)
            else
              if q27.2 176 22 = 0 then
                some (1, q27.2)
              else
                (f_X8_does r1 q27.2).bind fun (M32 : Mem) =>
                some (1, M32)
    else
      (f_X8_nextToken M).bind fun (M4 : Mem) =>
      (f_X8_readsRest r1 M4).bind fun (q5 : Int32 × Mem) =>
      if q5.1 = 0 then
        some (0, q5.2)
      else
        if r1 = 0 then
          if (0 : Int32) < 0 ∨ 6 ≤ (0 : Int32).toNatClampNeg then none else
          lt (um q5.2 176 17 (q5.2 189 (0 : Int32).toNatClampNeg)) fun (M21 : Mem) =>
          lt (um M21 176 18 0) fun (M22 : Mem) =>
          if M22 176 22 = 0 then
            some (1, M22)
          else
            (f_X8_does r1 M22).bind fun (M24 : Mem) =>
            some (1, M24)
        else
          if r1 = 1 then
            if (0 : Int32) < 0 ∨ 6 ≤ (0 : Int32).toNatClampNeg then none else
            if q5.2 176 18 < 0 ∨ 10 ≤ (q5.2 176 18).toNatClampNeg then none else
            lt (um q5.2 187 (q5.2 176 18).toNatClampNeg (q5.2 189 (0 : Int32).toNatClampNeg)) fun (M13 : Mem) =>
            if (1 : Int32) < 0 ∨ 6 ≤ (1 : Int32).toNatClampNeg then none else
            if M13 176 18 < 0 ∨ 10 ≤ (M13 176 18).toNatClampNeg then none else
            lt (um M13 188 (M13 176 18).toNatClampNeg (M13 189 (1 : Int32).toNatClampNeg)) fun (M16 : Mem) =>
            lt (um M16 176 18 ((M16 176 18) + 1)) fun (M17 : Mem) =>
            if M17 176 22 = 0 then
              some (1, M17)
            else
              (f_X8_does r1 M17).bind fun (M19 : Mem) =>
              some (1, M19)
          else
            if q5.2 176 22 = 0 then
              some (1, q5.2)
            else
              (f_X8_does r1 q5.2).bind fun (M10 : Mem) =>
              some (1, M10)
set_option maxRecDepth 100000 in
set_option maxHeartbeats 4000000 in
theorem c_X8_readsClause (l : Launch) (x : WX)  {M : Mem} {r : (Int32 × Mem)}  (h : f_X8_readsClause  M = some r) : Mt l x false yX8_readsClause cX8_readsClause 2 (some FieldType.boolean) 5 0 0 [.ref (x.2.2.1 + 176)] LAY M (pI r.1 r.2) := by
  refine mt_of (L0 := [some (.ref (x.2.2.1 + 176)), none]) (by decide +kernel) rfl (Nat.le_of_ble_eq_true rfl) (lvA_of 1 rfl) ?_
  unfold f_X8_readsClause at h
  refine e_aload_n aX8_readsClause_0 rfl ?_
  obtain ⟨r1, hr1, h⟩ := of_bind h
  refine e_VI [] aX8_readsClause_1 co_X8_wordHere mX8_133 ly_176 rfl rfl (c_X8_wordHere l x hr1) rfl ⟨by decide, by decide⟩ (Nat.le_of_ble_eq_true rfl) rfl ?_
  refine e_istore_n (L2 := [some (.ref (x.2.2.1 + 176)), some (.int r1)]) aX8_readsClause_4 ⟨by decide, rfl⟩ rfl ?_
  refine e_iload_n aX8_readsClause_5 rfl ?_
  rcases of_ite h with ⟨hc2, h⟩ | ⟨hc2, h⟩
  · refine e_if_lt (tgt := 23) aX8_readsClause_6 (by decide) (fun _ => ?_) (fun q => absurd hc2 q)
    refine e_iconst (v := 0) aX8_readsClause_23 (by decide) ?_
    exact e_retI aX8_readsClause_24 rfl (by decide +kernel) (pI_of h)
  · refine e_if_lt (tgt := 23) aX8_readsClause_6 (by decide) (fun q => absurd q hc2) (fun _ => ?_)
    refine e_iload_n aX8_readsClause_9 rfl ?_
    refine e_iconst (v := 1) aX8_readsClause_10 (by decide) ?_
    rcases of_ite h with ⟨hc3, h⟩ | ⟨hc3, h⟩
    · refine e_icmp_ne (tgt := 25) aX8_readsClause_11 (by decide) (fun q => absurd hc3 q) (fun _ => ?_)
      refine e_aload_n aX8_readsClause_14 rfl ?_
      refine e_getI aX8_readsClause_15 fX8_111 ly_176 rfl ?_
      refine e_bipush (v := 10) aX8_readsClause_18 (by decide) ?_
      rcases of_ite h with ⟨hc25, h⟩ | ⟨hc25, h⟩
      · refine e_icmp_ne (tgt := 25) aX8_readsClause_20 (by decide) (fun q => absurd hc25 q) (fun _ => ?_)
        refine e_iconst (v := 0) aX8_readsClause_23 (by decide) ?_
        exact e_retI aX8_readsClause_24 rfl (by decide +kernel) (pI_of h)
      · refine e_icmp_ne (tgt := 25) aX8_readsClause_20 (by decide) (fun _ => ?_) (fun q => absurd q hc25)
        refine e_aload_n aX8_readsClause_25 rfl ?_
        obtain ⟨M26, hM26, h⟩ := of_bind h
        refine e_VV [] aX8_readsClause_26 co_X8_nextToken mX8_108 ly_176 rfl rfl (c_X8_nextToken l x hM26) rfl ⟨by decide, by decide⟩ (Nat.le_of_ble_eq_true rfl) rfl ?_
        refine e_aload_n aX8_readsClause_29 rfl ?_
        refine e_iload_n aX8_readsClause_30 rfl ?_
        obtain ⟨q27, hq27, h⟩ := of_bind h
        refine e_VI [] aX8_readsClause_31 co_X8_readsRest mX8_137 ly_176 rfl rfl (c_X8_readsRest l x hq27) rfl ⟨by decide, by decide⟩ (Nat.le_of_ble_eq_true rfl) rfl ?_
        rcases of_ite h with ⟨hc28, h⟩ | ⟨hc28, h⟩
        · refine e_if_ne (tgt := 39) aX8_readsClause_34 (by decide) (fun q => absurd hc28 q) (fun _ => ?_)
          refine e_iconst (v := 0) aX8_readsClause_37 (by decide) ?_
          exact e_retI aX8_readsClause_38 rfl (by decide +kernel) (pI_of h)
        · refine e_if_ne (tgt := 39) aX8_readsClause_34 (by decide) (fun _ => ?_) (fun q => absurd q hc28)
          refine e_iload_n aX8_readsClause_39 rfl ?_
          rcases of_ite h with ⟨hc29, h⟩ | ⟨hc29, h⟩
          · refine e_if_ne (tgt := 61) aX8_readsClause_40 (by decide) (fun q => absurd hc29 q) (fun _ => ?_)
            refine e_aload_n aX8_readsClause_43 rfl ?_
            refine e_aload_n aX8_readsClause_44 rfl ?_
            refine e_getR (r := 189) aX8_readsClause_45 fX8_51 ly_176 rfl ?_
            refine e_iconst (v := 0) aX8_readsClause_48 (by decide) ?_
            obtain ⟨hg42, h⟩ := of_guard h
            refine e_iald aX8_readsClause_49 ly_189 hg42 ?_
            obtain ⟨M43, eM43, h⟩ := of_lt h
            refine e_put aX8_readsClause_50 qX8_118 ly_176 rfl (fi_of _) eM43 ?_
            refine e_aload_n aX8_readsClause_53 rfl ?_
            refine e_iconst (v := 0) aX8_readsClause_54 (by decide) ?_
            obtain ⟨M44, eM44, h⟩ := of_lt h
            refine e_put aX8_readsClause_55 qX8_111 ly_176 rfl (fi_of _) eM44 ?_
            refine e_goto (tgt := 106) aX8_readsClause_58 (by decide) ?_
            refine e_aload_n aX8_readsClause_106 rfl ?_
            refine e_getI aX8_readsClause_107 fX8_140 ly_176 rfl ?_
            rcases of_ite h with ⟨hc45, h⟩ | ⟨hc45, h⟩
            · refine e_if_eq (tgt := 118) aX8_readsClause_110 (by decide) (fun _ => ?_) (fun q => absurd hc45 q)
              refine e_iconst (v := 1) aX8_readsClause_118 (by decide) ?_
              exact e_retI aX8_readsClause_119 rfl (by decide +kernel) (pI_of h)
            · refine e_if_eq (tgt := 118) aX8_readsClause_110 (by decide) (fun q => absurd q hc45) (fun _ => ?_)
              refine e_aload_n aX8_readsClause_113 rfl ?_
              refine e_iload_n aX8_readsClause_114 rfl ?_
              obtain ⟨M46, hM46, h⟩ := of_bind h
              refine e_VV [] aX8_readsClause_115 co_X8_does mX8_144 ly_176 rfl rfl (c_X8_does l x hM46) rfl ⟨by decide, by decide⟩ (Nat.le_of_ble_eq_true rfl) rfl ?_
              refine e_iconst (v := 1) aX8_readsClause_118 (by decide) ?_
              exact e_retI aX8_readsClause_119 rfl (by decide +kernel) (pI_of h)
          · refine e_if_ne (tgt := 61) aX8_readsClause_40 (by decide) (fun _ => ?_) (fun q => absurd q hc29)
            refine e_iload_n aX8_readsClause_61 rfl ?_
            refine e_iconst (v := 1) aX8_readsClause_62 (by decide) ?_
            rcases of_ite h with ⟨hc30, h⟩ | ⟨hc30, h⟩
            · refine e_icmp_ne (tgt := 106) aX8_readsClause_63 (by decide) (fun q => absurd hc30 q) (fun _ => ?_)
              refine e_aload_n aX8_readsClause_66 rfl ?_
              refine e_getR (r := 187) aX8_readsClause_67 fX8_45 ly_176 rfl ?_
              refine e_aload_n aX8_readsClause_70 rfl ?_
              refine e_getI aX8_readsClause_71 fX8_111 ly_176 rfl ?_
              refine e_aload_n aX8_readsClause_74 rfl ?_
              refine e_getR (r := 189) aX8_readsClause_75 fX8_51 ly_176 rfl ?_
              refine e_iconst (v := 0) aX8_readsClause_78 (by decide) ?_
              obtain ⟨hg33, h⟩ := of_guard h
              refine e_iald aX8_readsClause_79 ly_189 hg33 ?_
              obtain ⟨hg34, h⟩ := of_guard h
              obtain ⟨M35, eM35, h⟩ := of_lt h
              refine e_ist aX8_readsClause_80 ly_187 hg34 eM35 ?_
              refine e_aload_n aX8_readsClause_81 rfl ?_
              refine e_getR (r := 188) aX8_readsClause_82 fX8_48 ly_176 rfl ?_
              refine e_aload_n aX8_readsClause_85 rfl ?_
              refine e_getI aX8_readsClause_86 fX8_111 ly_176 rfl ?_
              refine e_aload_n aX8_readsClause_89 rfl ?_
              refine e_getR (r := 189) aX8_readsClause_90 fX8_51 ly_176 rfl ?_
              refine e_iconst (v := 1) aX8_readsClause_93 (by decide) ?_
              obtain ⟨hg36, h⟩ := of_guard h
              refine e_iald aX8_readsClause_94 ly_189 hg36 ?_
              obtain ⟨hg37, h⟩ := of_guard h
              obtain ⟨M38, eM38, h⟩ := of_lt h
              refine e_ist aX8_readsClause_95 ly_188 hg37 eM38 ?_
              refine e_aload_n aX8_readsClause_96 rfl ?_
              refine e_dupR aX8_readsClause_97 ?_
              refine e_getI aX8_readsClause_98 fX8_111 ly_176 rfl ?_
              refine e_iconst (v := 1) aX8_readsClause_101 (by decide) ?_
              refine e_iadd aX8_readsClause_102 ?_
              obtain ⟨M39, eM39, h⟩ := of_lt h
              refine e_put aX8_readsClause_103 qX8_111 ly_176 rfl (fi_of _) eM39 ?_
              refine e_aload_n aX8_readsClause_106 rfl ?_
              refine e_getI aX8_readsClause_107 fX8_140 ly_176 rfl ?_
              rcases of_ite h with ⟨hc40, h⟩ | ⟨hc40, h⟩
              · refine e_if_eq (tgt := 118) aX8_readsClause_110 (by decide) (fun _ => ?_) (fun q => absurd hc40 q)
                refine e_iconst (v := 1) aX8_readsClause_118 (by decide) ?_
                exact e_retI aX8_readsClause_119 rfl (by decide +kernel) (pI_of h)
              · refine e_if_eq (tgt := 118) aX8_readsClause_110 (by decide) (fun q => absurd q hc40) (fun _ => ?_)
                refine e_aload_n aX8_readsClause_113 rfl ?_
                refine e_iload_n aX8_readsClause_114 rfl ?_
                obtain ⟨M41, hM41, h⟩ := of_bind h
                refine e_VV [] aX8_readsClause_115 co_X8_does mX8_144 ly_176 rfl rfl (c_X8_does l x hM41) rfl ⟨by decide, by decide⟩ (Nat.le_of_ble_eq_true rfl) rfl ?_
                refine e_iconst (v := 1) aX8_readsClause_118 (by decide) ?_
                exact e_retI aX8_readsClause_119 rfl (by decide +kernel) (pI_of h)
            · refine e_icmp_ne (tgt := 106) aX8_readsClause_63 (by decide) (fun _ => ?_) (fun q => absurd q hc30)
              refine e_aload_n aX8_readsClause_106 rfl ?_
              refine e_getI aX8_readsClause_107 fX8_140 ly_176 rfl ?_
              rcases of_ite h with ⟨hc31, h⟩ | ⟨hc31, h⟩
              · refine e_if_eq (tgt := 118) aX8_readsClause_110 (by decide) (fun _ => ?_) (fun q => absurd hc31 q)
                refine e_iconst (v := 1) aX8_readsClause_118 (by decide) ?_
                exact e_retI aX8_readsClause_119 rfl (by decide +kernel) (pI_of h)
              · refine e_if_eq (tgt := 118) aX8_readsClause_110 (by decide) (fun q => absurd q hc31) (fun _ => ?_)
                refine e_aload_n aX8_readsClause_113 rfl ?_
                refine e_iload_n aX8_readsClause_114 rfl ?_
                obtain ⟨M32, hM32, h⟩ := of_bind h
                refine e_VV [] aX8_readsClause_115 co_X8_does mX8_144 ly_176 rfl rfl (c_X8_does l x hM32) rfl ⟨by decide, by decide⟩ (Nat.le_of_ble_eq_true rfl) rfl ?_
                refine e_iconst (v := 1) aX8_readsClause_118 (by decide) ?_
                exact e_retI aX8_readsClause_119 rfl (by decide +kernel) (pI_of h)
    · refine e_icmp_ne (tgt := 25) aX8_readsClause_11 (by decide) (fun _ => ?_) (fun q => absurd q hc3)
      refine e_aload_n aX8_readsClause_25 rfl ?_
      obtain ⟨M4, hM4, h⟩ := of_bind h
      refine e_VV [] aX8_readsClause_26 co_X8_nextToken mX8_108 ly_176 rfl rfl (c_X8_nextToken l x hM4) rfl ⟨by decide, by decide⟩ (Nat.le_of_ble_eq_true rfl) rfl ?_
      refine e_aload_n aX8_readsClause_29 rfl ?_
      refine e_iload_n aX8_readsClause_30 rfl ?_
      obtain ⟨q5, hq5, h⟩ := of_bind h
      refine e_VI [] aX8_readsClause_31 co_X8_readsRest mX8_137 ly_176 rfl rfl (c_X8_readsRest l x hq5) rfl ⟨by decide, by decide⟩ (Nat.le_of_ble_eq_true rfl) rfl ?_
      rcases of_ite h with ⟨hc6, h⟩ | ⟨hc6, h⟩
      · refine e_if_ne (tgt := 39) aX8_readsClause_34 (by decide) (fun q => absurd hc6 q) (fun _ => ?_)
        refine e_iconst (v := 0) aX8_readsClause_37 (by decide) ?_
        exact e_retI aX8_readsClause_38 rfl (by decide +kernel) (pI_of h)
      · refine e_if_ne (tgt := 39) aX8_readsClause_34 (by decide) (fun _ => ?_) (fun q => absurd q hc6)
        refine e_iload_n aX8_readsClause_39 rfl ?_
        rcases of_ite h with ⟨hc7, h⟩ | ⟨hc7, h⟩
        · refine e_if_ne (tgt := 61) aX8_readsClause_40 (by decide) (fun q => absurd hc7 q) (fun _ => ?_)
          refine e_aload_n aX8_readsClause_43 rfl ?_
          refine e_aload_n aX8_readsClause_44 rfl ?_
          refine e_getR (r := 189) aX8_readsClause_45 fX8_51 ly_176 rfl ?_
          refine e_iconst (v := 0) aX8_readsClause_48 (by decide) ?_
          obtain ⟨hg20, h⟩ := of_guard h
          refine e_iald aX8_readsClause_49 ly_189 hg20 ?_
          obtain ⟨M21, eM21, h⟩ := of_lt h
          refine e_put aX8_readsClause_50 qX8_118 ly_176 rfl (fi_of _) eM21 ?_
          refine e_aload_n aX8_readsClause_53 rfl ?_
          refine e_iconst (v := 0) aX8_readsClause_54 (by decide) ?_
          obtain ⟨M22, eM22, h⟩ := of_lt h
          refine e_put aX8_readsClause_55 qX8_111 ly_176 rfl (fi_of _) eM22 ?_
          refine e_goto (tgt := 106) aX8_readsClause_58 (by decide) ?_
          refine e_aload_n aX8_readsClause_106 rfl ?_
          refine e_getI aX8_readsClause_107 fX8_140 ly_176 rfl ?_
          rcases of_ite h with ⟨hc23, h⟩ | ⟨hc23, h⟩
          · refine e_if_eq (tgt := 118) aX8_readsClause_110 (by decide) (fun _ => ?_) (fun q => absurd hc23 q)
            refine e_iconst (v := 1) aX8_readsClause_118 (by decide) ?_
            exact e_retI aX8_readsClause_119 rfl (by decide +kernel) (pI_of h)
          · refine e_if_eq (tgt := 118) aX8_readsClause_110 (by decide) (fun q => absurd q hc23) (fun _ => ?_)
            refine e_aload_n aX8_readsClause_113 rfl ?_
            refine e_iload_n aX8_readsClause_114 rfl ?_
            obtain ⟨M24, hM24, h⟩ := of_bind h
            refine e_VV [] aX8_readsClause_115 co_X8_does mX8_144 ly_176 rfl rfl (c_X8_does l x hM24) rfl ⟨by decide, by decide⟩ (Nat.le_of_ble_eq_true rfl) rfl ?_
            refine e_iconst (v := 1) aX8_readsClause_118 (by decide) ?_
            exact e_retI aX8_readsClause_119 rfl (by decide +kernel) (pI_of h)
        · refine e_if_ne (tgt := 61) aX8_readsClause_40 (by decide) (fun _ => ?_) (fun q => absurd q hc7)
          refine e_iload_n aX8_readsClause_61 rfl ?_
          refine e_iconst (v := 1) aX8_readsClause_62 (by decide) ?_
          rcases of_ite h with ⟨hc8, h⟩ | ⟨hc8, h⟩
          · refine e_icmp_ne (tgt := 106) aX8_readsClause_63 (by decide) (fun q => absurd hc8 q) (fun _ => ?_)
            refine e_aload_n aX8_readsClause_66 rfl ?_
            refine e_getR (r := 187) aX8_readsClause_67 fX8_45 ly_176 rfl ?_
            refine e_aload_n aX8_readsClause_70 rfl ?_
            refine e_getI aX8_readsClause_71 fX8_111 ly_176 rfl ?_
            refine e_aload_n aX8_readsClause_74 rfl ?_
            refine e_getR (r := 189) aX8_readsClause_75 fX8_51 ly_176 rfl ?_
            refine e_iconst (v := 0) aX8_readsClause_78 (by decide) ?_
            obtain ⟨hg11, h⟩ := of_guard h
            refine e_iald aX8_readsClause_79 ly_189 hg11 ?_
            obtain ⟨hg12, h⟩ := of_guard h
            obtain ⟨M13, eM13, h⟩ := of_lt h
            refine e_ist aX8_readsClause_80 ly_187 hg12 eM13 ?_
            refine e_aload_n aX8_readsClause_81 rfl ?_
            refine e_getR (r := 188) aX8_readsClause_82 fX8_48 ly_176 rfl ?_
            refine e_aload_n aX8_readsClause_85 rfl ?_
            refine e_getI aX8_readsClause_86 fX8_111 ly_176 rfl ?_
            refine e_aload_n aX8_readsClause_89 rfl ?_
            refine e_getR (r := 189) aX8_readsClause_90 fX8_51 ly_176 rfl ?_
            refine e_iconst (v := 1) aX8_readsClause_93 (by decide) ?_
            obtain ⟨hg14, h⟩ := of_guard h
            refine e_iald aX8_readsClause_94 ly_189 hg14 ?_
            obtain ⟨hg15, h⟩ := of_guard h
            obtain ⟨M16, eM16, h⟩ := of_lt h
            refine e_ist aX8_readsClause_95 ly_188 hg15 eM16 ?_
            refine e_aload_n aX8_readsClause_96 rfl ?_
            refine e_dupR aX8_readsClause_97 ?_
            refine e_getI aX8_readsClause_98 fX8_111 ly_176 rfl ?_
            refine e_iconst (v := 1) aX8_readsClause_101 (by decide) ?_
            refine e_iadd aX8_readsClause_102 ?_
            obtain ⟨M17, eM17, h⟩ := of_lt h
            refine e_put aX8_readsClause_103 qX8_111 ly_176 rfl (fi_of _) eM17 ?_
            refine e_aload_n aX8_readsClause_106 rfl ?_
            refine e_getI aX8_readsClause_107 fX8_140 ly_176 rfl ?_
            rcases of_ite h with ⟨hc18, h⟩ | ⟨hc18, h⟩
            · refine e_if_eq (tgt := 118) aX8_readsClause_110 (by decide) (fun _ => ?_) (fun q => absurd hc18 q)
              refine e_iconst (v := 1) aX8_readsClause_118 (by decide) ?_
              exact e_retI aX8_readsClause_119 rfl (by decide +kernel) (pI_of h)
            · refine e_if_eq (tgt := 118) aX8_readsClause_110 (by decide) (fun q => absurd q hc18) (fun _ => ?_)
              refine e_aload_n aX8_readsClause_113 rfl ?_
              refine e_iload_n aX8_readsClause_114 rfl ?_
              obtain ⟨M19, hM19, h⟩ := of_bind h
              refine e_VV [] aX8_readsClause_115 co_X8_does mX8_144 ly_176 rfl rfl (c_X8_does l x hM19) rfl ⟨by decide, by decide⟩ (Nat.le_of_ble_eq_true rfl) rfl ?_
              refine e_iconst (v := 1) aX8_readsClause_118 (by decide) ?_
              exact e_retI aX8_readsClause_119 rfl (by decide +kernel) (pI_of h)
          · refine e_icmp_ne (tgt := 106) aX8_readsClause_63 (by decide) (fun _ => ?_) (fun q => absurd q hc8)
            refine e_aload_n aX8_readsClause_106 rfl ?_
            refine e_getI aX8_readsClause_107 fX8_140 ly_176 rfl ?_
            rcases of_ite h with ⟨hc9, h⟩ | ⟨hc9, h⟩
            · refine e_if_eq (tgt := 118) aX8_readsClause_110 (by decide) (fun _ => ?_) (fun q => absurd hc9 q)
              refine e_iconst (v := 1) aX8_readsClause_118 (by decide) ?_
              exact e_retI aX8_readsClause_119 rfl (by decide +kernel) (pI_of h)
            · refine e_if_eq (tgt := 118) aX8_readsClause_110 (by decide) (fun q => absurd q hc9) (fun _ => ?_)
              refine e_aload_n aX8_readsClause_113 rfl ?_
              refine e_iload_n aX8_readsClause_114 rfl ?_
              obtain ⟨M10, hM10, h⟩ := of_bind h
              refine e_VV [] aX8_readsClause_115 co_X8_does mX8_144 ly_176 rfl rfl (c_X8_does l x hM10) rfl ⟨by decide, by decide⟩ (Nat.le_of_ble_eq_true rfl) rfl ?_
              refine e_iconst (v := 1) aX8_readsClause_118 (by decide) ?_
              exact e_retI aX8_readsClause_119 rfl (by decide +kernel) (pI_of h)
def s_X8_tellsArrows_12  (k : Int32 → Mem → Option Mem) (rec : Int32 → Mem → Option Mem) (i1 : Int32) (M : Mem) : Option Mem :=
  if M 176 18 ≤ i1 then
    k i1 M
  else
    if 1 + i1 < 0 ∨ 297 ≤ (1 + i1).toNatClampNeg then none else
    if i1 < 0 ∨ 10 ≤ i1.toNatClampNeg then none else
    lt (um M 187 i1.toNatClampNeg (M 177 (1 + i1).toNatClampNeg)) fun (M4 : Mem) =>
    if 11 + i1 < 0 ∨ 297 ≤ (11 + i1).toNatClampNeg then none else
    if i1 < 0 ∨ 10 ≤ i1.toNatClampNeg then none else
    lt (um M4 188 i1.toNatClampNeg (M4 177 (11 + i1).toNatClampNeg)) fun (M7 : Mem) =>
    rec (i1 + 1) M7
def f_X8_tellsArrows_12  (k : Int32 → Mem → Option Mem) : Nat → Int32 → Mem → Option Mem
  | 0 => fun _ _ => none
  | n + 1 => fun i1 M => s_X8_tellsArrows_12  k (f_X8_tellsArrows_12  k n) i1 M
set_option maxRecDepth 100000 in
set_option maxHeartbeats 4000000 in
theorem w_X8_tellsArrows_12 (l : Launch) (x : WX)  {k : Int32 → Mem → Option Mem} {r : Mem}  (K : ∀ (i1 : Int32) (M : Mem), k i1 M = some r → Ev l x false cX8_tellsArrows RX8 none 2 0 0 0 (pV r) 55 [some (.ref (x.2.2.1 + 176)), some (.int i1)] [] LAY M) : ∀ (n : Nat) (i1 : Int32) (M : Mem), f_X8_tellsArrows_12  k n i1 M = some r → Ev l x false cX8_tellsArrows RX8 none 2 0 0 0 (pV r) 12 [some (.ref (x.2.2.1 + 176)), some (.int i1)] [] LAY M := by
  intro n
  induction n with
  | zero =>
    intro i1 M h
    exact nomatch (show (none : Option Mem) = some r from h)
  | succ n ih =>
    intro i1 M h
    have h : s_X8_tellsArrows_12  k (f_X8_tellsArrows_12  k n) i1 M = some r := h
    unfold s_X8_tellsArrows_12 at h
    refine e_iload_n aX8_tellsArrows_12 rfl ?_
    refine e_aload_n aX8_tellsArrows_13 rfl ?_
    refine e_getI aX8_tellsArrows_14 fX8_111 ly_176 rfl ?_
    rcases of_ite h with ⟨hc1, h⟩ | ⟨hc1, h⟩
    · refine e_icmp_ge (tgt := 55) aX8_tellsArrows_17 (by decide) (fun _ => ?_) (fun q => absurd hc1 q)
      exact K _ _ h
    · refine e_icmp_ge (tgt := 55) aX8_tellsArrows_17 (by decide) (fun q => absurd q hc1) (fun _ => ?_)
      refine e_aload_n aX8_tellsArrows_20 rfl ?_
      refine e_getR (r := 187) aX8_tellsArrows_21 fX8_45 ly_176 rfl ?_
      refine e_iload_n aX8_tellsArrows_24 rfl ?_
      refine e_aload_n aX8_tellsArrows_25 rfl ?_
      refine e_getR (r := 177) aX8_tellsArrows_26 fX8_13 ly_176 rfl ?_
      refine e_iconst (v := 1) aX8_tellsArrows_29 (by decide) ?_
      refine e_iload_n aX8_tellsArrows_30 rfl ?_
      refine e_iadd aX8_tellsArrows_31 ?_
      obtain ⟨hg2, h⟩ := of_guard h
      refine e_iald aX8_tellsArrows_32 ly_177 hg2 ?_
      obtain ⟨hg3, h⟩ := of_guard h
      obtain ⟨M4, eM4, h⟩ := of_lt h
      refine e_ist aX8_tellsArrows_33 ly_187 hg3 eM4 ?_
      refine e_aload_n aX8_tellsArrows_34 rfl ?_
      refine e_getR (r := 188) aX8_tellsArrows_35 fX8_48 ly_176 rfl ?_
      refine e_iload_n aX8_tellsArrows_38 rfl ?_
      refine e_aload_n aX8_tellsArrows_39 rfl ?_
      refine e_getR (r := 177) aX8_tellsArrows_40 fX8_13 ly_176 rfl ?_
      refine e_bipush (v := 11) aX8_tellsArrows_43 (by decide) ?_
      refine e_iload_n aX8_tellsArrows_45 rfl ?_
      refine e_iadd aX8_tellsArrows_46 ?_
      obtain ⟨hg5, h⟩ := of_guard h
      refine e_iald aX8_tellsArrows_47 ly_177 hg5 ?_
      obtain ⟨hg6, h⟩ := of_guard h
      obtain ⟨M7, eM7, h⟩ := of_lt h
      refine e_ist aX8_tellsArrows_48 ly_188 hg6 eM7 ?_
      refine e_iinc (v := i1 + 1) (L2 := [some (.ref (x.2.2.1 + 176)), some (.int (i1 + 1))]) aX8_tellsArrows_49 rfl rfl ⟨by decide, rfl⟩ rfl ?_
      refine e_goto (tgt := 12) aX8_tellsArrows_52 (by decide) ?_
      exact ih _ _ h
def f_X8_tellsArrows  (M : Mem) : Option Mem :=
  if (0 : Int32) < 0 ∨ 297 ≤ (0 : Int32).toNatClampNeg then none else
  lt (um M 176 18 (M 177 (0 : Int32).toNatClampNeg)) fun (M2 : Mem) =>
  f_X8_tellsArrows_12  (fun (i1_3 : Int32) (M4 : Mem) =>
    some M4) FU 0 M2
set_option maxRecDepth 100000 in
set_option maxHeartbeats 4000000 in
theorem c_X8_tellsArrows (l : Launch) (x : WX)  {M : Mem} {r : Mem}  (h : f_X8_tellsArrows  M = some r) : Mt l x false yX8_tellsArrows cX8_tellsArrows 2 none 0 0 0 [.ref (x.2.2.1 + 176)] LAY M (pV r) := by
  refine mt_of (L0 := [some (.ref (x.2.2.1 + 176)), none]) (by decide +kernel) rfl (Nat.le_of_ble_eq_true rfl) (lvA_of 1 rfl) ?_
  unfold f_X8_tellsArrows at h
  refine e_aload_n aX8_tellsArrows_0 rfl ?_
  refine e_aload_n aX8_tellsArrows_1 rfl ?_
  refine e_getR (r := 177) aX8_tellsArrows_2 fX8_13 ly_176 rfl ?_
  refine e_iconst (v := 0) aX8_tellsArrows_5 (by decide) ?_
  obtain ⟨hg1, h⟩ := of_guard h
  refine e_iald aX8_tellsArrows_6 ly_177 hg1 ?_
  obtain ⟨M2, eM2, h⟩ := of_lt h
  refine e_put aX8_tellsArrows_7 qX8_111 ly_176 rfl (fi_of _) eM2 ?_
  refine e_iconst (v := 0) aX8_tellsArrows_10 (by decide) ?_
  refine e_istore_n (L2 := [some (.ref (x.2.2.1 + 176)), some (.int 0)]) aX8_tellsArrows_11 ⟨by decide, rfl⟩ rfl ?_
  refine w_X8_tellsArrows_12 l x  (fun i1_3 M4 h => ?_) FU _ _ h
  exact e_ret0 aX8_tellsArrows_55 rfl (pV_of h)
def s_X8_reads_36 (i1 : Int32) (k : Int32 → Mem → Option (Int32 × Mem)) (rec : Int32 → Mem → Option (Int32 × Mem)) (i2 : Int32) (M : Mem) : Option (Int32 × Mem) :=
  if i2 = 0 then
    k i2 M
  else
    if M 176 5 ≤ M 176 15 then
      k i2 M
    else
      if 24 ≤ M 176 21 then
        if (0 : Int32) = 0 then
          rec 0 M
        else
          (f_X8_nextToken M).bind fun (M5 : Mem) =>
          (f_X8_readsClause M5).bind fun (q6 : Int32 × Mem) =>
          lt (um q6.2 176 21 ((q6.2 176 21) + 1)) fun (M7 : Mem) =>
          rec q6.1 M7
      else
        if M 176 15 < 0 ∨ 200 ≤ (M 176 15).toNatClampNeg then none else
        if M 179 (M 176 15).toNatClampNeg = 59 then
          if (1 : Int32) = 0 then
            rec 1 M
          else
            (f_X8_nextToken M).bind fun (M15 : Mem) =>
            (f_X8_readsClause M15).bind fun (q16 : Int32 × Mem) =>
            lt (um q16.2 176 21 ((q16.2 176 21) + 1)) fun (M17 : Mem) =>
            rec q16.1 M17
        else
          if (0 : Int32) = 0 then
            rec 0 M
          else
            (f_X8_nextToken M).bind fun (M11 : Mem) =>
            (f_X8_readsClause M11).bind fun (q12 : Int32 × Mem) =>
            lt (um q12.2 176 21 ((q12.2 176 21) + 1)) fun (M13 : Mem) =>
            rec q12.1 M13
def f_X8_reads_36 (i1 : Int32) (k : Int32 → Mem → Option (Int32 × Mem)) : Nat → Int32 → Mem → Option (Int32 × Mem)
  | 0 => fun _ _ => none
  | n + 1 => fun i2 M => s_X8_reads_36 i1 k (f_X8_reads_36 i1 k n) i2 M
set_option maxRecDepth 100000 in
set_option maxHeartbeats 4000000 in
theorem w_X8_reads_36 (l : Launch) (x : WX) {i1 : Int32} {k : Int32 → Mem → Option (Int32 × Mem)} {r : (Int32 × Mem)}  (K : ∀ (i2 : Int32) (M : Mem), k i2 M = some r → Ev l x false cX8_reads RX8 (some FieldType.boolean) 3 6 0 0 (pI r.1 r.2) 106 [some (.ref (x.2.2.1 + 176)), some (.int i1), some (.int i2)] [] LAY M) : ∀ (n : Nat) (i2 : Int32) (M : Mem), f_X8_reads_36 i1 k n i2 M = some r → Ev l x false cX8_reads RX8 (some FieldType.boolean) 3 6 0 0 (pI r.1 r.2) 36 [some (.ref (x.2.2.1 + 176)), some (.int i1), some (.int i2)] [] LAY M := by
  intro n
  induction n with
  | zero =>
    intro i2 M h
    exact nomatch (show (none : Option (Int32 × Mem)) = some r from h)
  | succ n ih =>
    intro i2 M h
    have h : s_X8_reads_36 i1 k (f_X8_reads_36 i1 k n) i2 M = some r := h
    unfold s_X8_reads_36 at h
    refine e_iload_n aX8_reads_36 rfl ?_
    rcases of_ite h with ⟨hc1, h⟩ | ⟨hc1, h⟩
    · refine e_if_eq (tgt := 106) aX8_reads_37 (by decide) (fun _ => ?_) (fun q => absurd hc1 q)
      exact K _ _ h
    · refine e_if_eq (tgt := 106) aX8_reads_37 (by decide) (fun q => absurd q hc1) (fun _ => ?_)
      refine e_aload_n aX8_reads_40 rfl ?_
      refine e_getI aX8_reads_41 fX8_94 ly_176 rfl ?_
      refine e_aload_n aX8_reads_44 rfl ?_
      refine e_getI aX8_reads_45 fX8_79 ly_176 rfl ?_
      rcases of_ite h with ⟨hc2, h⟩ | ⟨hc2, h⟩
      · refine e_icmp_ge (tgt := 106) aX8_reads_48 (by decide) (fun _ => ?_) (fun q => absurd hc2 q)
        exact K _ _ h
      · refine e_icmp_ge (tgt := 106) aX8_reads_48 (by decide) (fun q => absurd q hc2) (fun _ => ?_)
        refine e_aload_n aX8_reads_51 rfl ?_
        refine e_getI aX8_reads_52 fX8_147 ly_176 rfl ?_
        refine e_bipush (v := 24) aX8_reads_55 (by decide) ?_
        rcases of_ite h with ⟨hc3, h⟩ | ⟨hc3, h⟩
        · refine e_icmp_ge (tgt := 78) aX8_reads_57 (by decide) (fun _ => ?_) (fun q => absurd hc3 q)
          refine e_iconst (v := 0) aX8_reads_78 (by decide) ?_
          refine e_istore_n (L2 := [some (.ref (x.2.2.1 + 176)), some (.int i1), some (.int 0)]) aX8_reads_79 ⟨by decide, rfl⟩ rfl ?_
          refine e_iload_n aX8_reads_80 rfl ?_
          rcases of_ite h with ⟨hc4, h⟩ | ⟨hc4, h⟩
          · refine e_if_eq (tgt := 36) aX8_reads_81 (by decide) (fun _ => ?_) (fun q => absurd hc4 q)
            exact ih _ _ h
          · refine e_if_eq (tgt := 36) aX8_reads_81 (by decide) (fun q => absurd q hc4) (fun _ => ?_)
            refine e_aload_n aX8_reads_84 rfl ?_
            obtain ⟨M5, hM5, h⟩ := of_bind h
            refine e_VV [] aX8_reads_85 co_X8_nextToken mX8_108 ly_176 rfl rfl (c_X8_nextToken l x hM5) rfl ⟨by decide, by decide⟩ (Nat.le_of_ble_eq_true rfl) rfl ?_
            refine e_aload_n aX8_reads_88 rfl ?_
            obtain ⟨q6, hq6, h⟩ := of_bind h
            refine e_VI [] aX8_reads_89 co_X8_readsClause mX8_153 ly_176 rfl rfl (c_X8_readsClause l x hq6) rfl ⟨by decide, by decide⟩ (Nat.le_of_ble_eq_true rfl) rfl ?_
            refine e_istore_n (L2 := [some (.ref (x.2.2.1 + 176)), some (.int i1), some (.int q6.1)]) aX8_reads_92 ⟨by decide, rfl⟩ rfl ?_
            refine e_aload_n aX8_reads_93 rfl ?_
            refine e_dupR aX8_reads_94 ?_
            refine e_getI aX8_reads_95 fX8_147 ly_176 rfl ?_
            refine e_iconst (v := 1) aX8_reads_98 (by decide) ?_
            refine e_iadd aX8_reads_99 ?_
            obtain ⟨M7, eM7, h⟩ := of_lt h
            refine e_put aX8_reads_100 qX8_147 ly_176 rfl (fi_of _) eM7 ?_
            refine e_goto (tgt := 36) aX8_reads_103 (by decide) ?_
            exact ih _ _ h
        · refine e_icmp_ge (tgt := 78) aX8_reads_57 (by decide) (fun q => absurd q hc3) (fun _ => ?_)
          refine e_aload_n aX8_reads_60 rfl ?_
          refine e_getR (r := 179) aX8_reads_61 fX8_21 ly_176 rfl ?_
          refine e_aload_n aX8_reads_64 rfl ?_
          refine e_getI aX8_reads_65 fX8_94 ly_176 rfl ?_
          obtain ⟨hg8, h⟩ := of_guard h
          refine e_iald aX8_reads_68 ly_179 hg8 ?_
          refine e_bipush (v := 59) aX8_reads_69 (by decide) ?_
          rcases of_ite h with ⟨hc9, h⟩ | ⟨hc9, h⟩
          · refine e_icmp_ne (tgt := 78) aX8_reads_71 (by decide) (fun q => absurd hc9 q) (fun _ => ?_)
            refine e_iconst (v := 1) aX8_reads_74 (by decide) ?_
            refine e_goto (tgt := 79) aX8_reads_75 (by decide) ?_
            refine e_istore_n (L2 := [some (.ref (x.2.2.1 + 176)), some (.int i1), some (.int 1)]) aX8_reads_79 ⟨by decide, rfl⟩ rfl ?_
            refine e_iload_n aX8_reads_80 rfl ?_
            rcases of_ite h with ⟨hc14, h⟩ | ⟨hc14, h⟩
            · refine e_if_eq (tgt := 36) aX8_reads_81 (by decide) (fun _ => ?_) (fun q => absurd hc14 q)
              exact ih _ _ h
            · refine e_if_eq (tgt := 36) aX8_reads_81 (by decide) (fun q => absurd q hc14) (fun _ => ?_)
              refine e_aload_n aX8_reads_84 rfl ?_
              obtain ⟨M15, hM15, h⟩ := of_bind h
              refine e_VV [] aX8_reads_85 co_X8_nextToken mX8_108 ly_176 rfl rfl (c_X8_nextToken l x hM15) rfl ⟨by decide, by decide⟩ (Nat.le_of_ble_eq_true rfl) rfl ?_
              refine e_aload_n aX8_reads_88 rfl ?_
              obtain ⟨q16, hq16, h⟩ := of_bind h
              refine e_VI [] aX8_reads_89 co_X8_readsClause mX8_153 ly_176 rfl rfl (c_X8_readsClause l x hq16) rfl ⟨by decide, by decide⟩ (Nat.le_of_ble_eq_true rfl) rfl ?_
              refine e_istore_n (L2 := [some (.ref (x.2.2.1 + 176)), some (.int i1), some (.int q16.1)]) aX8_reads_92 ⟨by decide, rfl⟩ rfl ?_
              refine e_aload_n aX8_reads_93 rfl ?_
              refine e_dupR aX8_reads_94 ?_
              refine e_getI aX8_reads_95 fX8_147 ly_176 rfl ?_
              refine e_iconst (v := 1) aX8_reads_98 (by decide) ?_
              refine e_iadd aX8_reads_99 ?_
              obtain ⟨M17, eM17, h⟩ := of_lt h
              refine e_put aX8_reads_100 qX8_147 ly_176 rfl (fi_of _) eM17 ?_
              refine e_goto (tgt := 36) aX8_reads_103 (by decide) ?_
              exact ih _ _ h
          · refine e_icmp_ne (tgt := 78) aX8_reads_71 (by decide) (fun _ => ?_) (fun q => absurd q hc9)
            refine e_iconst (v := 0) aX8_reads_78 (by decide) ?_
            refine e_istore_n (L2 := [some (.ref (x.2.2.1 + 176)), some (.int i1), some (.int 0)]) aX8_reads_79 ⟨by decide, rfl⟩ rfl ?_
            refine e_iload_n aX8_reads_80 rfl ?_
            rcases of_ite h with ⟨hc10, h⟩ | ⟨hc10, h⟩
            · refine e_if_eq (tgt := 36) aX8_reads_81 (by decide) (fun _ => ?_) (fun q => absurd hc10 q)
              exact ih _ _ h
            · refine e_if_eq (tgt := 36) aX8_reads_81 (by decide) (fun q => absurd q hc10) (fun _ => ?_)
              refine e_aload_n aX8_reads_84 rfl ?_
              obtain ⟨M11, hM11, h⟩ := of_bind h
              refine e_VV [] aX8_reads_85 co_X8_nextToken mX8_108 ly_176 rfl rfl (c_X8_nextToken l x hM11) rfl ⟨by decide, by decide⟩ (Nat.le_of_ble_eq_true rfl) rfl ?_
              refine e_aload_n aX8_reads_88 rfl ?_
              obtain ⟨q12, hq12, h⟩ := of_bind h
              refine e_VI [] aX8_reads_89 co_X8_readsClause mX8_153 ly_176 rfl rfl (c_X8_readsClause l x hq12) rfl ⟨by decide, by decide⟩ (Nat.le_of_ble_eq_true rfl) rfl ?_
              refine e_istore_n (L2 := [some (.ref (x.2.2.1 + 176)), some (.int i1), some (.int q12.1)]) aX8_reads_92 ⟨by decide, rfl⟩ rfl ?_
              refine e_aload_n aX8_reads_93 rfl ?_
              refine e_dupR aX8_reads_94 ?_
              refine e_getI aX8_reads_95 fX8_147 ly_176 rfl ?_
              refine e_iconst (v := 1) aX8_reads_98 (by decide) ?_
              refine e_iadd aX8_reads_99 ?_
              obtain ⟨M13, eM13, h⟩ := of_lt h
              refine e_put aX8_reads_100 qX8_147 ly_176 rfl (fi_of _) eM13 ?_
              refine e_goto (tgt := 36) aX8_reads_103 (by decide) ?_
              exact ih _ _ h
def f_X8_reads (i1 : Int32) (M : Mem) : Option (Int32 × Mem) :=
  if ¬ (i1 = 0 ∨ i1 = 1) then none else
  lt (um M 176 22 i1) fun (M2 : Mem) =>
  lt (um M2 176 16 0) fun (M3 : Mem) =>
  lt (um M3 176 21 1) fun (M4 : Mem) =>
  lt (um M4 176 17 (M4 176 0)) fun (M5 : Mem) =>
  (f_X8_tellsArrows M5).bind fun (M6 : Mem) =>
  (f_X8_nextToken M6).bind fun (M7 : Mem) =>
  (f_X8_readsClause M7).bind fun (q8 : Int32 × Mem) =>
  f_X8_reads_36 i1 (fun (i2_9 : Int32) (M10 : Mem) =>
    if ¬ (i2_9 = 0 ∨ i2_9 = 1) then none else
    some (i2_9, M10)) FU q8.1 q8.2
set_option maxRecDepth 100000 in
set_option maxHeartbeats 4000000 in
theorem c_X8_reads (l : Launch) (x : WX) {i1 : Int32} {M : Mem} {r : (Int32 × Mem)}  (h : f_X8_reads i1 M = some r) : Mt l x false yX8_reads cX8_reads 3 (some FieldType.boolean) 6 0 0 [.ref (x.2.2.1 + 176), .int i1] LAY M (pI r.1 r.2) := by
  refine mt_of (L0 := [some (.ref (x.2.2.1 + 176)), some (.int i1), none]) (by decide +kernel) rfl (Nat.le_of_ble_eq_true rfl) (lvA_of 1 rfl) ?_
  unfold f_X8_reads at h
  refine e_aload_n aX8_reads_0 rfl ?_
  refine e_iload_n aX8_reads_1 rfl ?_
  obtain ⟨hg1, h⟩ := of_guard h
  obtain ⟨M2, eM2, h⟩ := of_lt h
  refine e_put aX8_reads_2 qX8_140 ly_176 rfl (fz_of (Decidable.of_not_not hg1)) eM2 ?_
  refine e_aload_n aX8_reads_5 rfl ?_
  refine e_iconst (v := 0) aX8_reads_6 (by decide) ?_
  obtain ⟨M3, eM3, h⟩ := of_lt h
  refine e_put aX8_reads_7 qX8_91 ly_176 rfl (fi_of _) eM3 ?_
  refine e_aload_n aX8_reads_10 rfl ?_
  refine e_iconst (v := 1) aX8_reads_11 (by decide) ?_
  obtain ⟨M4, eM4, h⟩ := of_lt h
  refine e_put aX8_reads_12 qX8_147 ly_176 rfl (fi_of _) eM4 ?_
  refine e_aload_n aX8_reads_15 rfl ?_
  refine e_aload_n aX8_reads_16 rfl ?_
  refine e_getI aX8_reads_17 fX8_7 ly_176 rfl ?_
  obtain ⟨M5, eM5, h⟩ := of_lt h
  refine e_put aX8_reads_20 qX8_118 ly_176 rfl (fi_of _) eM5 ?_
  refine e_aload_n aX8_reads_23 rfl ?_
  obtain ⟨M6, hM6, h⟩ := of_bind h
  refine e_VV [] aX8_reads_24 co_X8_tellsArrows mX8_150 ly_176 rfl rfl (c_X8_tellsArrows l x hM6) rfl ⟨by decide, by decide⟩ (Nat.le_of_ble_eq_true rfl) rfl ?_
  refine e_aload_n aX8_reads_27 rfl ?_
  obtain ⟨M7, hM7, h⟩ := of_bind h
  refine e_VV [] aX8_reads_28 co_X8_nextToken mX8_108 ly_176 rfl rfl (c_X8_nextToken l x hM7) rfl ⟨by decide, by decide⟩ (Nat.le_of_ble_eq_true rfl) rfl ?_
  refine e_aload_n aX8_reads_31 rfl ?_
  obtain ⟨q8, hq8, h⟩ := of_bind h
  refine e_VI [] aX8_reads_32 co_X8_readsClause mX8_153 ly_176 rfl rfl (c_X8_readsClause l x hq8) rfl ⟨by decide, by decide⟩ (Nat.le_of_ble_eq_true rfl) rfl ?_
  refine e_istore_n (L2 := [some (.ref (x.2.2.1 + 176)), some (.int i1), some (.int q8.1)]) aX8_reads_35 ⟨by decide, rfl⟩ rfl ?_
  refine w_X8_reads_36 l x  (fun i2_9 M10 h => ?_) FU _ _ h
  refine e_iload_n aX8_reads_106 rfl ?_
  obtain ⟨hg11, h⟩ := of_guard h
  exact e_retI aX8_reads_107 rfl (nz_of (Decidable.of_not_not hg11)) (pI_of h)
def f_X8_fault  (M : Mem) : Option (Int32 × Mem) :=
  (f_X8_reads 0 M).bind fun (q1 : Int32 × Mem) =>
  if q1.1 = 0 then
    some (q1.2 176 15, q1.2)
  else
    some ((-1), q1.2)
set_option maxRecDepth 100000 in
set_option maxHeartbeats 4000000 in
theorem c_X8_fault (l : Launch) (x : WX)  {M : Mem} {r : (Int32 × Mem)}  (h : f_X8_fault  M = some r) : Mt l x false yX8_fault cX8_fault 1 (some FieldType.int) 7 0 0 [.ref (x.2.2.1 + 176)] LAY M (pI r.1 r.2) := by
  refine mt_of (L0 := [some (.ref (x.2.2.1 + 176))]) (by decide +kernel) rfl (Nat.le_of_ble_eq_true rfl) (lvA_of 0 rfl) ?_
  unfold f_X8_fault at h
  refine e_aload_n aX8_fault_0 rfl ?_
  refine e_iconst (v := 0) aX8_fault_1 (by decide) ?_
  obtain ⟨q1, hq1, h⟩ := of_bind h
  refine e_VI [] aX8_fault_2 co_X8_reads mX8_157 ly_176 rfl rfl (c_X8_reads l x hq1) rfl ⟨by decide, by decide⟩ (Nat.le_of_ble_eq_true rfl) rfl ?_
  rcases of_ite h with ⟨hc2, h⟩ | ⟨hc2, h⟩
  · refine e_if_eq (tgt := 12) aX8_fault_5 (by decide) (fun _ => ?_) (fun q => absurd hc2 q)
    refine e_aload_n aX8_fault_12 rfl ?_
    refine e_getI aX8_fault_13 fX8_94 ly_176 rfl ?_
    exact e_retI aX8_fault_16 rfl rfl (pI_of h)
  · refine e_if_eq (tgt := 12) aX8_fault_5 (by decide) (fun q => absurd q hc2) (fun _ => ?_)
    refine e_iconst (v := (-1)) aX8_fault_8 (by decide) ?_
    refine e_goto (tgt := 16) aX8_fault_9 (by decide) ?_
    exact e_retI aX8_fault_16 rfl rfl (pI_of h)
def f_X8_quiver  (M : Mem) : Option (Int32 × Mem) :=
  (f_X8_reads 0 M).bind fun (q1 : Int32 × Mem) =>
  if q1.1 = 0 then
    some ((-1000003), q1.2)
  else
    (f_X8_reads 1 q1.2).bind fun (q3 : Int32 × Mem) =>
    lt (um q3.2 176 5 0) fun (M4 : Mem) =>
    lt (um M4 176 2 0) fun (M5 : Mem) =>
    if (0 : Int32) < 0 ∨ 2 ≤ (0 : Int32).toNatClampNeg then none else
    lt (um M5 178 (0 : Int32).toNatClampNeg 0) fun (M7 : Mem) =>
    if (1 : Int32) < 0 ∨ 2 ≤ (1 : Int32).toNatClampNeg then none else
    lt (um M7 178 (1 : Int32).toNatClampNeg 0) fun (M9 : Mem) =>
    lt (um M9 176 13 0) fun (M10 : Mem) =>
    some (M10 176 21, M10)
set_option maxRecDepth 100000 in
set_option maxHeartbeats 4000000 in
theorem c_X8_quiver (l : Launch) (x : WX)  {M : Mem} {r : (Int32 × Mem)}  (h : f_X8_quiver  M = some r) : Mt l x false yX8_quiver cX8_quiver 1 (some FieldType.int) 7 0 0 [.ref (x.2.2.1 + 176)] LAY M (pI r.1 r.2) := by
  refine mt_of (L0 := [some (.ref (x.2.2.1 + 176))]) (by decide +kernel) rfl (Nat.le_of_ble_eq_true rfl) (lvA_of 0 rfl) ?_
  unfold f_X8_quiver at h
  refine e_aload_n aX8_quiver_0 rfl ?_
  refine e_iconst (v := 0) aX8_quiver_1 (by decide) ?_
  obtain ⟨q1, hq1, h⟩ := of_bind h
  refine e_VI [] aX8_quiver_2 co_X8_reads mX8_157 ly_176 rfl rfl (c_X8_reads l x hq1) rfl ⟨by decide, by decide⟩ (Nat.le_of_ble_eq_true rfl) rfl ?_
  rcases of_ite h with ⟨hc2, h⟩ | ⟨hc2, h⟩
  · refine e_if_ne (tgt := 11) aX8_quiver_5 (by decide) (fun q => absurd hc2 q) (fun _ => ?_)
    refine e_ldc aX8_quiver_8 kX8_161 ?_
    exact e_retI aX8_quiver_10 rfl rfl (pI_of h)
  · refine e_if_ne (tgt := 11) aX8_quiver_5 (by decide) (fun _ => ?_) (fun q => absurd q hc2)
    refine e_aload_n aX8_quiver_11 rfl ?_
    refine e_iconst (v := 1) aX8_quiver_12 (by decide) ?_
    obtain ⟨q3, hq3, h⟩ := of_bind h
    refine e_VI [] aX8_quiver_13 co_X8_reads mX8_157 ly_176 rfl rfl (c_X8_reads l x hq3) rfl ⟨by decide, by decide⟩ (Nat.le_of_ble_eq_true rfl) rfl ?_
    refine e_popI aX8_quiver_16 ?_
    refine e_aload_n aX8_quiver_17 rfl ?_
    refine e_iconst (v := 0) aX8_quiver_18 (by decide) ?_
    obtain ⟨M4, eM4, h⟩ := of_lt h
    refine e_put aX8_quiver_19 qX8_79 ly_176 rfl (fi_of _) eM4 ?_
    refine e_aload_n aX8_quiver_22 rfl ?_
    refine e_iconst (v := 0) aX8_quiver_23 (by decide) ?_
    obtain ⟨M5, eM5, h⟩ := of_lt h
    refine e_put aX8_quiver_24 qX8_162 ly_176 rfl (fi_of _) eM5 ?_
    refine e_aload_n aX8_quiver_27 rfl ?_
    refine e_getR (r := 178) aX8_quiver_28 fX8_17 ly_176 rfl ?_
    refine e_iconst (v := 0) aX8_quiver_31 (by decide) ?_
    refine e_iconst (v := 0) aX8_quiver_32 (by decide) ?_
    obtain ⟨hg6, h⟩ := of_guard h
    obtain ⟨M7, eM7, h⟩ := of_lt h
    refine e_zst aX8_quiver_33 ly_178 hg6 (by decide +kernel) eM7 ?_
    refine e_aload_n aX8_quiver_34 rfl ?_
    refine e_getR (r := 178) aX8_quiver_35 fX8_17 ly_176 rfl ?_
    refine e_iconst (v := 1) aX8_quiver_38 (by decide) ?_
    refine e_iconst (v := 0) aX8_quiver_39 (by decide) ?_
    obtain ⟨hg8, h⟩ := of_guard h
    obtain ⟨M9, eM9, h⟩ := of_lt h
    refine e_zst aX8_quiver_40 ly_178 hg8 (by decide +kernel) eM9 ?_
    refine e_aload_n aX8_quiver_41 rfl ?_
    refine e_iconst (v := 0) aX8_quiver_42 (by decide) ?_
    obtain ⟨M10, eM10, h⟩ := of_lt h
    refine e_put aX8_quiver_43 qX8_165 ly_176 rfl (by decide +kernel) eM10 ?_
    refine e_aload_n aX8_quiver_46 rfl ?_
    refine e_getI aX8_quiver_47 fX8_147 ly_176 rfl ?_
    exact e_retI aX8_quiver_50 rfl rfl (pI_of h)
def f_X8_arrow (i1 : Int32) (i2 : Int32) (M : Mem) : Option Int32 :=
  if (0 : Int32) < 0 ∨ 297 ≤ (0 : Int32).toNatClampNeg then none else
  (f_X8_in i1.toInt64 0 (((M 177 (0 : Int32).toNatClampNeg) - 1).toInt64) M).bind fun (r2 : Int32) =>
  if r2 = 0 then
    some (-1000001)
  else
    if i2 = 0 then
      if 1 + i1 < 0 ∨ 297 ≤ (1 + i1).toNatClampNeg then none else
      some (M 177 (1 + i1).toNatClampNeg)
    else
      if i2 = 1 then
        if 11 + i1 < 0 ∨ 297 ≤ (11 + i1).toNatClampNeg then none else
        some (M 177 (11 + i1).toNatClampNeg)
      else
        some (-1000002)
set_option maxRecDepth 100000 in
set_option maxHeartbeats 4000000 in
theorem c_X8_arrow (l : Launch) (x : WX) {i1 : Int32} {i2 : Int32} {M : Mem} {r : Int32}  (h : f_X8_arrow i1 i2 M = some r) : Mt l x false yX8_arrow cX8_arrow 3 (some FieldType.int) 1 0 0 [.ref (x.2.2.1 + 176), .int i1, .int i2] LAY M (pI r M) := by
  refine mt_of (L0 := [some (.ref (x.2.2.1 + 176)), some (.int i1), some (.int i2)]) (by decide +kernel) rfl (Nat.le_of_ble_eq_true rfl) (lvA_of 0 rfl) ?_
  unfold f_X8_arrow at h
  refine e_iload_n aX8_arrow_0 rfl ?_
  refine e_i2l aX8_arrow_1 ?_
  refine e_lconst (v := 0) aX8_arrow_2 (by decide) ?_
  refine e_aload_n aX8_arrow_3 rfl ?_
  refine e_getR (r := 177) aX8_arrow_4 fX8_13 ly_176 rfl ?_
  refine e_iconst (v := 0) aX8_arrow_7 (by decide) ?_
  obtain ⟨hg1, h⟩ := of_guard h
  refine e_iald aX8_arrow_8 ly_177 hg1 ?_
  refine e_iconst (v := 1) aX8_arrow_9 (by decide) ?_
  refine e_isub aX8_arrow_10 ?_
  refine e_i2l aX8_arrow_11 ?_
  obtain ⟨r2, hr2, h⟩ := of_bind h
  refine e_SI [] aX8_arrow_12 co_X8_in mX8_72 (c_X8_in l x hr2) rfl ⟨by decide, by decide⟩ (Nat.le_of_ble_eq_true rfl) rfl ?_
  rcases of_ite h with ⟨hc3, h⟩ | ⟨hc3, h⟩
  · refine e_if_ne (tgt := 21) aX8_arrow_15 (by decide) (fun q => absurd hc3 q) (fun _ => ?_)
    refine e_ldc aX8_arrow_18 kX8_168 ?_
    exact e_retI aX8_arrow_20 rfl rfl (pI_ro h)
  · refine e_if_ne (tgt := 21) aX8_arrow_15 (by decide) (fun _ => ?_) (fun q => absurd q hc3)
    refine e_iload_n aX8_arrow_21 rfl ?_
    rcases of_ite h with ⟨hc4, h⟩ | ⟨hc4, h⟩
    · refine e_if_ne (tgt := 36) aX8_arrow_22 (by decide) (fun q => absurd hc4 q) (fun _ => ?_)
      refine e_aload_n aX8_arrow_25 rfl ?_
      refine e_getR (r := 177) aX8_arrow_26 fX8_13 ly_176 rfl ?_
      refine e_iconst (v := 1) aX8_arrow_29 (by decide) ?_
      refine e_iload_n aX8_arrow_30 rfl ?_
      refine e_iadd aX8_arrow_31 ?_
      obtain ⟨hg7, h⟩ := of_guard h
      refine e_iald aX8_arrow_32 ly_177 hg7 ?_
      refine e_goto (tgt := 55) aX8_arrow_33 (by decide) ?_
      exact e_retI aX8_arrow_55 rfl rfl (pI_ro h)
    · refine e_if_ne (tgt := 36) aX8_arrow_22 (by decide) (fun _ => ?_) (fun q => absurd q hc4)
      refine e_iload_n aX8_arrow_36 rfl ?_
      refine e_iconst (v := 1) aX8_arrow_37 (by decide) ?_
      rcases of_ite h with ⟨hc5, h⟩ | ⟨hc5, h⟩
      · refine e_icmp_ne (tgt := 53) aX8_arrow_38 (by decide) (fun q => absurd hc5 q) (fun _ => ?_)
        refine e_aload_n aX8_arrow_41 rfl ?_
        refine e_getR (r := 177) aX8_arrow_42 fX8_13 ly_176 rfl ?_
        refine e_bipush (v := 11) aX8_arrow_45 (by decide) ?_
        refine e_iload_n aX8_arrow_47 rfl ?_
        refine e_iadd aX8_arrow_48 ?_
        obtain ⟨hg6, h⟩ := of_guard h
        refine e_iald aX8_arrow_49 ly_177 hg6 ?_
        refine e_goto (tgt := 55) aX8_arrow_50 (by decide) ?_
        exact e_retI aX8_arrow_55 rfl rfl (pI_ro h)
      · refine e_icmp_ne (tgt := 53) aX8_arrow_38 (by decide) (fun _ => ?_) (fun q => absurd q hc5)
        refine e_ldc aX8_arrow_53 kX8_78 ?_
        exact e_retI aX8_arrow_55 rfl rfl (pI_ro h)
def s_X8_comes_4 (i1 : Int32) (M : Mem) (k : Int32 → Int32 → Option Int32) (rec : Int32 → Int32 → Option Int32) (i2 : Int32) (i3 : Int32) : Option Int32 :=
  if (0 : Int32) < 0 ∨ 297 ≤ (0 : Int32).toNatClampNeg then none else
  if M 177 (0 : Int32).toNatClampNeg ≤ i3 then
    k i2 i3
  else
    if 11 + i3 < 0 ∨ 297 ≤ (11 + i3).toNatClampNeg then none else
    if M 177 (11 + i3).toNatClampNeg = i1 then
      lt (i2 + 1) fun (v6 : Int32) =>
      rec v6 (i3 + 1)
    else
      lt (i2 + 0) fun (v5 : Int32) =>
      rec v5 (i3 + 1)
def f_X8_comes_4 (i1 : Int32) (M : Mem) (k : Int32 → Int32 → Option Int32) : Nat → Int32 → Int32 → Option Int32
  | 0 => fun _ _ => none
  | n + 1 => fun i2 i3 => s_X8_comes_4 i1 M k (f_X8_comes_4 i1 M k n) i2 i3
set_option maxRecDepth 100000 in
set_option maxHeartbeats 4000000 in
theorem w_X8_comes_4 (l : Launch) (x : WX) {i1 : Int32} {M : Mem} {k : Int32 → Int32 → Option Int32} {r : Int32}  (K : ∀ (i2 : Int32) (i3 : Int32), k i2 i3 = some r → Ev l x false cX8_comes RX8 (some FieldType.int) 4 0 0 0 (pI r M) 41 [some (.ref (x.2.2.1 + 176)), some (.int i1), some (.int i2), some (.int i3)] [] LAY M) : ∀ (n : Nat) (i2 : Int32) (i3 : Int32), f_X8_comes_4 i1 M k n i2 i3 = some r → Ev l x false cX8_comes RX8 (some FieldType.int) 4 0 0 0 (pI r M) 4 [some (.ref (x.2.2.1 + 176)), some (.int i1), some (.int i2), some (.int i3)] [] LAY M := by
  intro n
  induction n with
  | zero =>
    intro i2 i3 h
    exact nomatch (show (none : Option Int32) = some r from h)
  | succ n ih =>
    intro i2 i3 h
    have h : s_X8_comes_4 i1 M k (f_X8_comes_4 i1 M k n) i2 i3 = some r := h
    unfold s_X8_comes_4 at h
    refine e_iload_n aX8_comes_4 rfl ?_
    refine e_aload_n aX8_comes_5 rfl ?_
    refine e_getR (r := 177) aX8_comes_6 fX8_13 ly_176 rfl ?_
    refine e_iconst (v := 0) aX8_comes_9 (by decide) ?_
    obtain ⟨hg1, h⟩ := of_guard h
    refine e_iald aX8_comes_10 ly_177 hg1 ?_
    rcases of_ite h with ⟨hc2, h⟩ | ⟨hc2, h⟩
    · refine e_icmp_ge (tgt := 41) aX8_comes_11 (by decide) (fun _ => ?_) (fun q => absurd hc2 q)
      exact K _ _ h
    · refine e_icmp_ge (tgt := 41) aX8_comes_11 (by decide) (fun q => absurd q hc2) (fun _ => ?_)
      refine e_iload_n aX8_comes_14 rfl ?_
      refine e_aload_n aX8_comes_15 rfl ?_
      refine e_getR (r := 177) aX8_comes_16 fX8_13 ly_176 rfl ?_
      refine e_bipush (v := 11) aX8_comes_19 (by decide) ?_
      refine e_iload_n aX8_comes_21 rfl ?_
      refine e_iadd aX8_comes_22 ?_
      obtain ⟨hg3, h⟩ := of_guard h
      refine e_iald aX8_comes_23 ly_177 hg3 ?_
      refine e_iload_n aX8_comes_24 rfl ?_
      rcases of_ite h with ⟨hc4, h⟩ | ⟨hc4, h⟩
      · refine e_icmp_ne (tgt := 32) aX8_comes_25 (by decide) (fun q => absurd hc4 q) (fun _ => ?_)
        refine e_iconst (v := 1) aX8_comes_28 (by decide) ?_
        refine e_goto (tgt := 33) aX8_comes_29 (by decide) ?_
        refine e_iadd aX8_comes_33 ?_
        obtain ⟨v6, ev6, h⟩ := of_lt h
        refine e_nameI ev6 ?_
        refine e_istore_n (L2 := [some (.ref (x.2.2.1 + 176)), some (.int i1), some (.int v6), some (.int i3)]) aX8_comes_34 ⟨by decide, rfl⟩ rfl ?_
        refine e_iinc (v := i3 + 1) (L2 := [some (.ref (x.2.2.1 + 176)), some (.int i1), some (.int v6), some (.int (i3 + 1))]) aX8_comes_35 rfl rfl ⟨by decide, rfl⟩ rfl ?_
        refine e_goto (tgt := 4) aX8_comes_38 (by decide) ?_
        exact ih _ _ h
      · refine e_icmp_ne (tgt := 32) aX8_comes_25 (by decide) (fun _ => ?_) (fun q => absurd q hc4)
        refine e_iconst (v := 0) aX8_comes_32 (by decide) ?_
        refine e_iadd aX8_comes_33 ?_
        obtain ⟨v5, ev5, h⟩ := of_lt h
        refine e_nameI ev5 ?_
        refine e_istore_n (L2 := [some (.ref (x.2.2.1 + 176)), some (.int i1), some (.int v5), some (.int i3)]) aX8_comes_34 ⟨by decide, rfl⟩ rfl ?_
        refine e_iinc (v := i3 + 1) (L2 := [some (.ref (x.2.2.1 + 176)), some (.int i1), some (.int v5), some (.int (i3 + 1))]) aX8_comes_35 rfl rfl ⟨by decide, rfl⟩ rfl ?_
        refine e_goto (tgt := 4) aX8_comes_38 (by decide) ?_
        exact ih _ _ h
def f_X8_comes (i1 : Int32) (M : Mem) : Option Int32 :=
  f_X8_comes_4 i1 M (fun (i2_1 : Int32) (i3_2 : Int32) =>
    some i2_1) FU 0 0
set_option maxRecDepth 100000 in
set_option maxHeartbeats 4000000 in
theorem c_X8_comes (l : Launch) (x : WX) {i1 : Int32} {M : Mem} {r : Int32}  (h : f_X8_comes i1 M = some r) : Mt l x false yX8_comes cX8_comes 4 (some FieldType.int) 0 0 0 [.ref (x.2.2.1 + 176), .int i1] LAY M (pI r M) := by
  refine mt_of (L0 := [some (.ref (x.2.2.1 + 176)), some (.int i1), none, none]) (by decide +kernel) rfl (Nat.le_of_ble_eq_true rfl) (lvA_of 2 rfl) ?_
  unfold f_X8_comes at h
  refine e_iconst (v := 0) aX8_comes_0 (by decide) ?_
  refine e_istore_n (L2 := [some (.ref (x.2.2.1 + 176)), some (.int i1), some (.int 0), none]) aX8_comes_1 ⟨by decide, rfl⟩ rfl ?_
  refine e_iconst (v := 0) aX8_comes_2 (by decide) ?_
  refine e_istore_n (L2 := [some (.ref (x.2.2.1 + 176)), some (.int i1), some (.int 0), some (.int 0)]) aX8_comes_3 ⟨by decide, rfl⟩ rfl ?_
  refine w_X8_comes_4 l x  (fun i2_1 i3_2 h => ?_) FU _ _ h
  refine e_iload_n aX8_comes_41 rfl ?_
  exact e_retI aX8_comes_42 rfl rfl (pI_ro h)
def s_X8_goes_4 (i1 : Int32) (M : Mem) (k : Int32 → Int32 → Option Int32) (rec : Int32 → Int32 → Option Int32) (i2 : Int32) (i3 : Int32) : Option Int32 :=
  if (0 : Int32) < 0 ∨ 297 ≤ (0 : Int32).toNatClampNeg then none else
  if M 177 (0 : Int32).toNatClampNeg ≤ i3 then
    k i2 i3
  else
    if 1 + i3 < 0 ∨ 297 ≤ (1 + i3).toNatClampNeg then none else
    if M 177 (1 + i3).toNatClampNeg = i1 then
      lt (i2 + 1) fun (v6 : Int32) =>
      rec v6 (i3 + 1)
    else
      lt (i2 + 0) fun (v5 : Int32) =>
      rec v5 (i3 + 1)
def f_X8_goes_4 (i1 : Int32) (M : Mem) (k : Int32 → Int32 → Option Int32) : Nat → Int32 → Int32 → Option Int32
  | 0 => fun _ _ => none
  | n + 1 => fun i2 i3 => s_X8_goes_4 i1 M k (f_X8_goes_4 i1 M k n) i2 i3
set_option maxRecDepth 100000 in
set_option maxHeartbeats 4000000 in
theorem w_X8_goes_4 (l : Launch) (x : WX) {i1 : Int32} {M : Mem} {k : Int32 → Int32 → Option Int32} {r : Int32}  (K : ∀ (i2 : Int32) (i3 : Int32), k i2 i3 = some r → Ev l x false cX8_goes RX8 (some FieldType.int) 4 0 0 0 (pI r M) 40 [some (.ref (x.2.2.1 + 176)), some (.int i1), some (.int i2), some (.int i3)] [] LAY M) : ∀ (n : Nat) (i2 : Int32) (i3 : Int32), f_X8_goes_4 i1 M k n i2 i3 = some r → Ev l x false cX8_goes RX8 (some FieldType.int) 4 0 0 0 (pI r M) 4 [some (.ref (x.2.2.1 + 176)), some (.int i1), some (.int i2), some (.int i3)] [] LAY M := by
  intro n
  induction n with
  | zero =>
    intro i2 i3 h
    exact nomatch (show (none : Option Int32) = some r from h)
  | succ n ih =>
    intro i2 i3 h
    have h : s_X8_goes_4 i1 M k (f_X8_goes_4 i1 M k n) i2 i3 = some r := h
    unfold s_X8_goes_4 at h
    refine e_iload_n aX8_goes_4 rfl ?_
    refine e_aload_n aX8_goes_5 rfl ?_
    refine e_getR (r := 177) aX8_goes_6 fX8_13 ly_176 rfl ?_
    refine e_iconst (v := 0) aX8_goes_9 (by decide) ?_
    obtain ⟨hg1, h⟩ := of_guard h
    refine e_iald aX8_goes_10 ly_177 hg1 ?_
    rcases of_ite h with ⟨hc2, h⟩ | ⟨hc2, h⟩
    · refine e_icmp_ge (tgt := 40) aX8_goes_11 (by decide) (fun _ => ?_) (fun q => absurd hc2 q)
      exact K _ _ h
    · refine e_icmp_ge (tgt := 40) aX8_goes_11 (by decide) (fun q => absurd q hc2) (fun _ => ?_)
      refine e_iload_n aX8_goes_14 rfl ?_
      refine e_aload_n aX8_goes_15 rfl ?_
      refine e_getR (r := 177) aX8_goes_16 fX8_13 ly_176 rfl ?_
      refine e_iconst (v := 1) aX8_goes_19 (by decide) ?_
      refine e_iload_n aX8_goes_20 rfl ?_
      refine e_iadd aX8_goes_21 ?_
      obtain ⟨hg3, h⟩ := of_guard h
      refine e_iald aX8_goes_22 ly_177 hg3 ?_
      refine e_iload_n aX8_goes_23 rfl ?_
      rcases of_ite h with ⟨hc4, h⟩ | ⟨hc4, h⟩
      · refine e_icmp_ne (tgt := 31) aX8_goes_24 (by decide) (fun q => absurd hc4 q) (fun _ => ?_)
        refine e_iconst (v := 1) aX8_goes_27 (by decide) ?_
        refine e_goto (tgt := 32) aX8_goes_28 (by decide) ?_
        refine e_iadd aX8_goes_32 ?_
        obtain ⟨v6, ev6, h⟩ := of_lt h
        refine e_nameI ev6 ?_
        refine e_istore_n (L2 := [some (.ref (x.2.2.1 + 176)), some (.int i1), some (.int v6), some (.int i3)]) aX8_goes_33 ⟨by decide, rfl⟩ rfl ?_
        refine e_iinc (v := i3 + 1) (L2 := [some (.ref (x.2.2.1 + 176)), some (.int i1), some (.int v6), some (.int (i3 + 1))]) aX8_goes_34 rfl rfl ⟨by decide, rfl⟩ rfl ?_
        refine e_goto (tgt := 4) aX8_goes_37 (by decide) ?_
        exact ih _ _ h
      · refine e_icmp_ne (tgt := 31) aX8_goes_24 (by decide) (fun _ => ?_) (fun q => absurd q hc4)
        refine e_iconst (v := 0) aX8_goes_31 (by decide) ?_
        refine e_iadd aX8_goes_32 ?_
        obtain ⟨v5, ev5, h⟩ := of_lt h
        refine e_nameI ev5 ?_
        refine e_istore_n (L2 := [some (.ref (x.2.2.1 + 176)), some (.int i1), some (.int v5), some (.int i3)]) aX8_goes_33 ⟨by decide, rfl⟩ rfl ?_
        refine e_iinc (v := i3 + 1) (L2 := [some (.ref (x.2.2.1 + 176)), some (.int i1), some (.int v5), some (.int (i3 + 1))]) aX8_goes_34 rfl rfl ⟨by decide, rfl⟩ rfl ?_
        refine e_goto (tgt := 4) aX8_goes_37 (by decide) ?_
        exact ih _ _ h
def f_X8_goes (i1 : Int32) (M : Mem) : Option Int32 :=
  f_X8_goes_4 i1 M (fun (i2_1 : Int32) (i3_2 : Int32) =>
    some i2_1) FU 0 0
set_option maxRecDepth 100000 in
set_option maxHeartbeats 4000000 in
theorem c_X8_goes (l : Launch) (x : WX) {i1 : Int32} {M : Mem} {r : Int32}  (h : f_X8_goes i1 M = some r) : Mt l x false yX8_goes cX8_goes 4 (some FieldType.int) 0 0 0 [.ref (x.2.2.1 + 176), .int i1] LAY M (pI r M) := by
  refine mt_of (L0 := [some (.ref (x.2.2.1 + 176)), some (.int i1), none, none]) (by decide +kernel) rfl (Nat.le_of_ble_eq_true rfl) (lvA_of 2 rfl) ?_
  unfold f_X8_goes at h
  refine e_iconst (v := 0) aX8_goes_0 (by decide) ?_
  refine e_istore_n (L2 := [some (.ref (x.2.2.1 + 176)), some (.int i1), some (.int 0), none]) aX8_goes_1 ⟨by decide, rfl⟩ rfl ?_
  refine e_iconst (v := 0) aX8_goes_2 (by decide) ?_
  refine e_istore_n (L2 := [some (.ref (x.2.2.1 + 176)), some (.int i1), some (.int 0), some (.int 0)]) aX8_goes_3 ⟨by decide, rfl⟩ rfl ?_
  refine w_X8_goes_4 l x  (fun i2_1 i3_2 h => ?_) FU _ _ h
  refine e_iload_n aX8_goes_40 rfl ?_
  exact e_retI aX8_goes_41 rfl rfl (pI_ro h)
def s_X8_goesTo_5 (i1 : Int32) (i2 : Int32) (M : Mem) (k : Int32 → Int32 → Option Int32) (rec : Int32 → Int32 → Option Int32) (i3 : Int32) (i4 : Int32) : Option Int32 :=
  if (0 : Int32) < 0 ∨ 297 ≤ (0 : Int32).toNatClampNeg then none else
  if M 177 (0 : Int32).toNatClampNeg ≤ i4 then
    k i3 i4
  else
    if i3 = 0 then
      if 1 + i4 < 0 ∨ 297 ≤ (1 + i4).toNatClampNeg then none else
      if M 177 (1 + i4).toNatClampNeg = i1 then
        if 11 + i4 < 0 ∨ 297 ≤ (11 + i4).toNatClampNeg then none else
        if (i2 >>> ((M 177 (11 + i4).toNatClampNeg) &&& 31)) &&& 1 = 1 then
          rec 1 (i4 + 1)
        else
          rec 0 (i4 + 1)
      else
        rec 0 (i4 + 1)
    else
      rec 1 (i4 + 1)
def f_X8_goesTo_5 (i1 : Int32) (i2 : Int32) (M : Mem) (k : Int32 → Int32 → Option Int32) : Nat → Int32 → Int32 → Option Int32
  | 0 => fun _ _ => none
  | n + 1 => fun i3 i4 => s_X8_goesTo_5 i1 i2 M k (f_X8_goesTo_5 i1 i2 M k n) i3 i4
set_option maxRecDepth 100000 in
set_option maxHeartbeats 4000000 in
theorem w_X8_goesTo_5 (l : Launch) (x : WX) {i1 : Int32} {i2 : Int32} {M : Mem} {k : Int32 → Int32 → Option Int32} {r : Int32}  (K : ∀ (i3 : Int32) (i4 : Int32), k i3 i4 = some r → Ev l x false cX8_goesTo RX8 (some FieldType.boolean) 5 0 0 0 (pI r M) 63 [some (.ref (x.2.2.1 + 176)), some (.int i1), some (.int i2), some (.int i3), some (.int i4)] [] LAY M) : ∀ (n : Nat) (i3 : Int32) (i4 : Int32), f_X8_goesTo_5 i1 i2 M k n i3 i4 = some r → Ev l x false cX8_goesTo RX8 (some FieldType.boolean) 5 0 0 0 (pI r M) 5 [some (.ref (x.2.2.1 + 176)), some (.int i1), some (.int i2), some (.int i3), some (.int i4)] [] LAY M := by
  intro n
  induction n with
  | zero =>
    intro i3 i4 h
    exact nomatch (show (none : Option Int32) = some r from h)
  | succ n ih =>
    intro i3 i4 h
    have h : s_X8_goesTo_5 i1 i2 M k (f_X8_goesTo_5 i1 i2 M k n) i3 i4 = some r := h
    unfold s_X8_goesTo_5 at h
    refine e_iload aX8_goesTo_5 rfl ?_
    refine e_aload_n aX8_goesTo_7 rfl ?_
    refine e_getR (r := 177) aX8_goesTo_8 fX8_13 ly_176 rfl ?_
    refine e_iconst (v := 0) aX8_goesTo_11 (by decide) ?_
    obtain ⟨hg1, h⟩ := of_guard h
    refine e_iald aX8_goesTo_12 ly_177 hg1 ?_
    rcases of_ite h with ⟨hc2, h⟩ | ⟨hc2, h⟩
    · refine e_icmp_ge (tgt := 63) aX8_goesTo_13 (by decide) (fun _ => ?_) (fun q => absurd hc2 q)
      exact K _ _ h
    · refine e_icmp_ge (tgt := 63) aX8_goesTo_13 (by decide) (fun q => absurd q hc2) (fun _ => ?_)
      refine e_iload_n aX8_goesTo_16 rfl ?_
      rcases of_ite h with ⟨hc3, h⟩ | ⟨hc3, h⟩
      · refine e_if_ne (tgt := 51) aX8_goesTo_17 (by decide) (fun q => absurd hc3 q) (fun _ => ?_)
        refine e_aload_n aX8_goesTo_20 rfl ?_
        refine e_getR (r := 177) aX8_goesTo_21 fX8_13 ly_176 rfl ?_
        refine e_iconst (v := 1) aX8_goesTo_24 (by decide) ?_
        refine e_iload aX8_goesTo_25 rfl ?_
        refine e_iadd aX8_goesTo_27 ?_
        obtain ⟨hg4, h⟩ := of_guard h
        refine e_iald aX8_goesTo_28 ly_177 hg4 ?_
        refine e_iload_n aX8_goesTo_29 rfl ?_
        rcases of_ite h with ⟨hc5, h⟩ | ⟨hc5, h⟩
        · refine e_icmp_ne (tgt := 55) aX8_goesTo_30 (by decide) (fun q => absurd hc5 q) (fun _ => ?_)
          refine e_iload_n aX8_goesTo_33 rfl ?_
          refine e_aload_n aX8_goesTo_34 rfl ?_
          refine e_getR (r := 177) aX8_goesTo_35 fX8_13 ly_176 rfl ?_
          refine e_bipush (v := 11) aX8_goesTo_38 (by decide) ?_
          refine e_iload aX8_goesTo_40 rfl ?_
          refine e_iadd aX8_goesTo_42 ?_
          obtain ⟨hg6, h⟩ := of_guard h
          refine e_iald aX8_goesTo_43 ly_177 hg6 ?_
          refine e_ishr aX8_goesTo_44 ?_
          refine e_iconst (v := 1) aX8_goesTo_45 (by decide) ?_
          refine e_iand aX8_goesTo_46 ?_
          refine e_iconst (v := 1) aX8_goesTo_47 (by decide) ?_
          rcases of_ite h with ⟨hc7, h⟩ | ⟨hc7, h⟩
          · refine e_icmp_ne (tgt := 55) aX8_goesTo_48 (by decide) (fun q => absurd hc7 q) (fun _ => ?_)
            refine e_iconst (v := 1) aX8_goesTo_51 (by decide) ?_
            refine e_goto (tgt := 56) aX8_goesTo_52 (by decide) ?_
            refine e_istore_n (L2 := [some (.ref (x.2.2.1 + 176)), some (.int i1), some (.int i2), some (.int 1), some (.int i4)]) aX8_goesTo_56 ⟨by decide, rfl⟩ rfl ?_
            refine e_iinc (v := i4 + 1) (L2 := [some (.ref (x.2.2.1 + 176)), some (.int i1), some (.int i2), some (.int 1), some (.int (i4 + 1))]) aX8_goesTo_57 rfl rfl ⟨by decide, rfl⟩ rfl ?_
            refine e_goto (tgt := 5) aX8_goesTo_60 (by decide) ?_
            exact ih _ _ h
          · refine e_icmp_ne (tgt := 55) aX8_goesTo_48 (by decide) (fun _ => ?_) (fun q => absurd q hc7)
            refine e_iconst (v := 0) aX8_goesTo_55 (by decide) ?_
            refine e_istore_n (L2 := [some (.ref (x.2.2.1 + 176)), some (.int i1), some (.int i2), some (.int 0), some (.int i4)]) aX8_goesTo_56 ⟨by decide, rfl⟩ rfl ?_
            refine e_iinc (v := i4 + 1) (L2 := [some (.ref (x.2.2.1 + 176)), some (.int i1), some (.int i2), some (.int 0), some (.int (i4 + 1))]) aX8_goesTo_57 rfl rfl ⟨by decide, rfl⟩ rfl ?_
            refine e_goto (tgt := 5) aX8_goesTo_60 (by decide) ?_
            exact ih _ _ h
        · refine e_icmp_ne (tgt := 55) aX8_goesTo_30 (by decide) (fun _ => ?_) (fun q => absurd q hc5)
          refine e_iconst (v := 0) aX8_goesTo_55 (by decide) ?_
          refine e_istore_n (L2 := [some (.ref (x.2.2.1 + 176)), some (.int i1), some (.int i2), some (.int 0), some (.int i4)]) aX8_goesTo_56 ⟨by decide, rfl⟩ rfl ?_
          refine e_iinc (v := i4 + 1) (L2 := [some (.ref (x.2.2.1 + 176)), some (.int i1), some (.int i2), some (.int 0), some (.int (i4 + 1))]) aX8_goesTo_57 rfl rfl ⟨by decide, rfl⟩ rfl ?_
          refine e_goto (tgt := 5) aX8_goesTo_60 (by decide) ?_
          exact ih _ _ h
      · refine e_if_ne (tgt := 51) aX8_goesTo_17 (by decide) (fun _ => ?_) (fun q => absurd q hc3)
        refine e_iconst (v := 1) aX8_goesTo_51 (by decide) ?_
        refine e_goto (tgt := 56) aX8_goesTo_52 (by decide) ?_
        refine e_istore_n (L2 := [some (.ref (x.2.2.1 + 176)), some (.int i1), some (.int i2), some (.int 1), some (.int i4)]) aX8_goesTo_56 ⟨by decide, rfl⟩ rfl ?_
        refine e_iinc (v := i4 + 1) (L2 := [some (.ref (x.2.2.1 + 176)), some (.int i1), some (.int i2), some (.int 1), some (.int (i4 + 1))]) aX8_goesTo_57 rfl rfl ⟨by decide, rfl⟩ rfl ?_
        refine e_goto (tgt := 5) aX8_goesTo_60 (by decide) ?_
        exact ih _ _ h
def f_X8_goesTo (i1 : Int32) (i2 : Int32) (M : Mem) : Option Int32 :=
  f_X8_goesTo_5 i1 i2 M (fun (i3_1 : Int32) (i4_2 : Int32) =>
    if ¬ (i3_1 = 0 ∨ i3_1 = 1) then none else
    some i3_1) FU 0 0
set_option maxRecDepth 100000 in
set_option maxHeartbeats 4000000 in
theorem c_X8_goesTo (l : Launch) (x : WX) {i1 : Int32} {i2 : Int32} {M : Mem} {r : Int32}  (h : f_X8_goesTo i1 i2 M = some r) : Mt l x false yX8_goesTo cX8_goesTo 5 (some FieldType.boolean) 0 0 0 [.ref (x.2.2.1 + 176), .int i1, .int i2] LAY M (pI r M) := by
  refine mt_of (L0 := [some (.ref (x.2.2.1 + 176)), some (.int i1), some (.int i2), none, none]) (by decide +kernel) rfl (Nat.le_of_ble_eq_true rfl) (lvA_of 2 rfl) ?_
  unfold f_X8_goesTo at h
  refine e_iconst (v := 0) aX8_goesTo_0 (by decide) ?_
  refine e_istore_n (L2 := [some (.ref (x.2.2.1 + 176)), some (.int i1), some (.int i2), some (.int 0), none]) aX8_goesTo_1 ⟨by decide, rfl⟩ rfl ?_
  refine e_iconst (v := 0) aX8_goesTo_2 (by decide) ?_
  refine e_istore (L2 := [some (.ref (x.2.2.1 + 176)), some (.int i1), some (.int i2), some (.int 0), some (.int 0)]) aX8_goesTo_3 ⟨by decide, rfl⟩ rfl ?_
  refine w_X8_goesTo_5 l x  (fun i3_1 i4_2 h => ?_) FU _ _ h
  refine e_iload_n aX8_goesTo_63 rfl ?_
  obtain ⟨hg3, h⟩ := of_guard h
  exact e_retI aX8_goesTo_64 rfl (nz_of (Decidable.of_not_not hg3)) (pI_ro h)
def s_X8_orderOf_22 (i1 : Int32) (i2 : Int32) (i3 : Int32) (i4 : Int32) (M : Mem) (k : Int32 → Option Int32) (rec : Int32 → Option Int32) (i5 : Int32) : Option Int32 :=
  if (i2 >>> (i5 &&& 31)) &&& 1 = 0 then
    rec (i5 + 1)
  else
    (f_X8_goesTo i5 i2 M).bind fun (r2 : Int32) =>
    if r2 = 0 then
      k i5
    else
      rec (i5 + 1)
def f_X8_orderOf_22 (i1 : Int32) (i2 : Int32) (i3 : Int32) (i4 : Int32) (M : Mem) (k : Int32 → Option Int32) : Nat → Int32 → Option Int32
  | 0 => fun _ => none
  | n + 1 => fun i5 => s_X8_orderOf_22 i1 i2 i3 i4 M k (f_X8_orderOf_22 i1 i2 i3 i4 M k n) i5
set_option maxRecDepth 100000 in
set_option maxHeartbeats 4000000 in
theorem w_X8_orderOf_22 (l : Launch) (x : WX) {i1 : Int32} {i2 : Int32} {i3 : Int32} {i4 : Int32} {M : Mem} {k : Int32 → Option Int32} {r : Int32}  (K : ∀ (i5 : Int32), k i5 = some r → Ev l x false cX8_orderOf RX8 (some FieldType.int) 6 1 0 0 (pI r M) 47 [some (.ref (x.2.2.1 + 176)), some (.int i1), some (.int i2), some (.int i3), some (.int i4), some (.int i5)] [] LAY M) : ∀ (n : Nat) (i5 : Int32), f_X8_orderOf_22 i1 i2 i3 i4 M k n i5 = some r → Ev l x false cX8_orderOf RX8 (some FieldType.int) 6 1 0 0 (pI r M) 22 [some (.ref (x.2.2.1 + 176)), some (.int i1), some (.int i2), some (.int i3), some (.int i4), some (.int i5)] [] LAY M := by
  intro n
  induction n with
  | zero =>
    intro i5 h
    exact nomatch (show (none : Option Int32) = some r from h)
  | succ n ih =>
    intro i5 h
    have h : s_X8_orderOf_22 i1 i2 i3 i4 M k (f_X8_orderOf_22 i1 i2 i3 i4 M k n) i5 = some r := h
    unfold s_X8_orderOf_22 at h
    refine e_iload_n aX8_orderOf_22 rfl ?_
    refine e_iload aX8_orderOf_23 rfl ?_
    refine e_ishr aX8_orderOf_25 ?_
    refine e_iconst (v := 1) aX8_orderOf_26 (by decide) ?_
    refine e_iand aX8_orderOf_27 ?_
    rcases of_ite h with ⟨hc1, h⟩ | ⟨hc1, h⟩
    · refine e_if_eq (tgt := 41) aX8_orderOf_28 (by decide) (fun _ => ?_) (fun q => absurd hc1 q)
      refine e_iinc (v := i5 + 1) (L2 := [some (.ref (x.2.2.1 + 176)), some (.int i1), some (.int i2), some (.int i3), some (.int i4), some (.int (i5 + 1))]) aX8_orderOf_41 rfl rfl ⟨by decide, rfl⟩ rfl ?_
      refine e_goto (tgt := 22) aX8_orderOf_44 (by decide) ?_
      exact ih _ h
    · refine e_if_eq (tgt := 41) aX8_orderOf_28 (by decide) (fun q => absurd q hc1) (fun _ => ?_)
      refine e_aload_n aX8_orderOf_31 rfl ?_
      refine e_iload aX8_orderOf_32 rfl ?_
      refine e_iload_n aX8_orderOf_34 rfl ?_
      obtain ⟨r2, hr2, h⟩ := of_bind h
      refine e_VI [] aX8_orderOf_35 co_X8_goesTo mX8_169 ly_176 rfl rfl (c_X8_goesTo l x hr2) rfl ⟨by decide, by decide⟩ (Nat.le_of_ble_eq_true rfl) rfl ?_
      rcases of_ite h with ⟨hc3, h⟩ | ⟨hc3, h⟩
      · refine e_if_eq (tgt := 47) aX8_orderOf_38 (by decide) (fun _ => ?_) (fun q => absurd hc3 q)
        exact K _ h
      · refine e_if_eq (tgt := 47) aX8_orderOf_38 (by decide) (fun q => absurd q hc3) (fun _ => ?_)
        refine e_iinc (v := i5 + 1) (L2 := [some (.ref (x.2.2.1 + 176)), some (.int i1), some (.int i2), some (.int i3), some (.int i4), some (.int (i5 + 1))]) aX8_orderOf_41 rfl rfl ⟨by decide, rfl⟩ rfl ?_
        refine e_goto (tgt := 22) aX8_orderOf_44 (by decide) ?_
        exact ih _ h
def s_X8_orderOf_14 (i1 : Int32) (M : Mem) (k : Int32 → Int32 → Int32 → Option Int32) (rec : Int32 → Int32 → Int32 → Option Int32) (i2 : Int32) (i3 : Int32) (i4 : Int32) : Option Int32 :=
  if i4 = 0 then
    f_X8_orderOf_22 i1 i2 i3 i4 M (fun (i5_2 : Int32) =>
      if i5_2 = i1 then
        if (1 : Int32) = 0 then
          lt (i3 + 1) fun (v10 : Int32) =>
          lt (i2 &&& ((1 <<< (i5_2 &&& 31)) ^^^ (-1))) fun (v11 : Int32) =>
          rec v11 v10 1
        else
          lt (i3 + 0) fun (v12 : Int32) =>
          lt (i2 &&& ((1 <<< (i5_2 &&& 31)) ^^^ (-1))) fun (v13 : Int32) =>
          rec v13 v12 1
      else
        if (0 : Int32) = 0 then
          lt (i3 + 1) fun (v5 : Int32) =>
          lt (i2 &&& ((1 <<< (i5_2 &&& 31)) ^^^ (-1))) fun (v6 : Int32) =>
          rec v6 v5 0
        else
          lt (i3 + 0) fun (v7 : Int32) =>
          lt (i2 &&& ((1 <<< (i5_2 &&& 31)) ^^^ (-1))) fun (v8 : Int32) =>
          rec v8 v7 0) FU 0
  else
    k i2 i3 i4
def f_X8_orderOf_14 (i1 : Int32) (M : Mem) (k : Int32 → Int32 → Int32 → Option Int32) : Nat → Int32 → Int32 → Int32 → Option Int32
  | 0 => fun _ _ _ => none
  | n + 1 => fun i2 i3 i4 => s_X8_orderOf_14 i1 M k (f_X8_orderOf_14 i1 M k n) i2 i3 i4
set_option maxRecDepth 100000 in
set_option maxHeartbeats 4000000 in
theorem w_X8_orderOf_14 (l : Launch) (x : WX) {i1 : Int32} {M : Mem} {k : Int32 → Int32 → Int32 → Option Int32} {r : Int32}  (K : ∀ (i2 : Int32) (i3 : Int32) (i4 : Int32), k i2 i3 i4 = some r → Ev l x false cX8_orderOf RX8 (some FieldType.int) 6 1 0 0 (pI r M) 85 [some (.ref (x.2.2.1 + 176)), some (.int i1), some (.int i2), some (.int i3), some (.int i4), none] [] LAY M) : ∀ (n : Nat) (i2 : Int32) (i3 : Int32) (i4 : Int32), f_X8_orderOf_14 i1 M k n i2 i3 i4 = some r → Ev l x false cX8_orderOf RX8 (some FieldType.int) 6 1 0 0 (pI r M) 14 [some (.ref (x.2.2.1 + 176)), some (.int i1), some (.int i2), some (.int i3), some (.int i4), none] [] LAY M := by
  intro n
  induction n with
  | zero =>
    intro i2 i3 i4 h
    exact nomatch (show (none : Option Int32) = some r from h)
  | succ n ih =>
    intro i2 i3 i4 h
    have h : s_X8_orderOf_14 i1 M k (f_X8_orderOf_14 i1 M k n) i2 i3 i4 = some r := h
    unfold s_X8_orderOf_14 at h
    refine e_iload aX8_orderOf_14 rfl ?_
    rcases of_ite h with ⟨hc1, h⟩ | ⟨hc1, h⟩
    · refine e_if_ne (tgt := 85) aX8_orderOf_16 (by decide) (fun q => absurd hc1 q) (fun _ => ?_)
      refine e_iconst (v := 0) aX8_orderOf_19 (by decide) ?_
      refine e_istore (L2 := [some (.ref (x.2.2.1 + 176)), some (.int i1), some (.int i2), some (.int i3), some (.int i4), some (.int 0)]) aX8_orderOf_20 ⟨by decide, rfl⟩ rfl ?_
      refine w_X8_orderOf_22 l x  (fun i5_2 h => ?_) FU _ h
      refine e_iload aX8_orderOf_47 rfl ?_
      refine e_iload_n aX8_orderOf_49 rfl ?_
      rcases of_ite h with ⟨hc3, h⟩ | ⟨hc3, h⟩
      · refine e_icmp_ne (tgt := 57) aX8_orderOf_50 (by decide) (fun q => absurd hc3 q) (fun _ => ?_)
        refine e_iconst (v := 1) aX8_orderOf_53 (by decide) ?_
        refine e_goto (tgt := 58) aX8_orderOf_54 (by decide) ?_
        refine e_istore (L2 := [some (.ref (x.2.2.1 + 176)), some (.int i1), some (.int i2), some (.int i3), some (.int 1), some (.int i5_2)]) aX8_orderOf_58 ⟨by decide, rfl⟩ rfl ?_
        refine e_iload_n aX8_orderOf_60 rfl ?_
        refine e_iload aX8_orderOf_61 rfl ?_
        rcases of_ite h with ⟨hc9, h⟩ | ⟨hc9, h⟩
        · refine e_if_eq (tgt := 70) aX8_orderOf_63 (by decide) (fun _ => ?_) (fun q => absurd hc9 q)
          refine e_iconst (v := 1) aX8_orderOf_70 (by decide) ?_
          refine e_iadd aX8_orderOf_71 ?_
          obtain ⟨v10, ev10, h⟩ := of_lt h
          refine e_nameI ev10 ?_
          refine e_istore_n (L2 := [some (.ref (x.2.2.1 + 176)), some (.int i1), some (.int i2), some (.int v10), some (.int 1), some (.int i5_2)]) aX8_orderOf_72 ⟨by decide, rfl⟩ rfl ?_
          refine e_iload_n aX8_orderOf_73 rfl ?_
          refine e_iconst (v := 1) aX8_orderOf_74 (by decide) ?_
          refine e_iload aX8_orderOf_75 rfl ?_
          refine e_ishl aX8_orderOf_77 ?_
          refine e_iconst (v := (-1)) aX8_orderOf_78 (by decide) ?_
          refine e_ixor aX8_orderOf_79 ?_
          refine e_iand aX8_orderOf_80 ?_
          obtain ⟨v11, ev11, h⟩ := of_lt h
          refine e_nameI ev11 ?_
          refine e_istore_n (L2 := [some (.ref (x.2.2.1 + 176)), some (.int i1), some (.int v11), some (.int v10), some (.int 1), some (.int i5_2)]) aX8_orderOf_81 ⟨by decide, rfl⟩ rfl ?_
          refine e_goto (tgt := 14) aX8_orderOf_82 (by decide) ?_
          refine e_drop 5 (L2 := [some (.ref (x.2.2.1 + 176)), some (.int i1), some (.int v11), some (.int v10), some (.int 1), none]) rfl ?_
          exact ih _ _ _ h
        · refine e_if_eq (tgt := 70) aX8_orderOf_63 (by decide) (fun q => absurd q hc9) (fun _ => ?_)
          refine e_iconst (v := 0) aX8_orderOf_66 (by decide) ?_
          refine e_goto (tgt := 71) aX8_orderOf_67 (by decide) ?_
          refine e_iadd aX8_orderOf_71 ?_
          obtain ⟨v12, ev12, h⟩ := of_lt h
          refine e_nameI ev12 ?_
          refine e_istore_n (L2 := [some (.ref (x.2.2.1 + 176)), some (.int i1), some (.int i2), some (.int v12), some (.int 1), some (.int i5_2)]) aX8_orderOf_72 ⟨by decide, rfl⟩ rfl ?_
          refine e_iload_n aX8_orderOf_73 rfl ?_
          refine e_iconst (v := 1) aX8_orderOf_74 (by decide) ?_
          refine e_iload aX8_orderOf_75 rfl ?_
          refine e_ishl aX8_orderOf_77 ?_
          refine e_iconst (v := (-1)) aX8_orderOf_78 (by decide) ?_
          refine e_ixor aX8_orderOf_79 ?_
          refine e_iand aX8_orderOf_80 ?_
          obtain ⟨v13, ev13, h⟩ := of_lt h
          refine e_nameI ev13 ?_
          refine e_istore_n (L2 := [some (.ref (x.2.2.1 + 176)), some (.int i1), some (.int v13), some (.int v12), some (.int 1), some (.int i5_2)]) aX8_orderOf_81 ⟨by decide, rfl⟩ rfl ?_
          refine e_goto (tgt := 14) aX8_orderOf_82 (by decide) ?_
          refine e_drop 5 (L2 := [some (.ref (x.2.2.1 + 176)), some (.int i1), some (.int v13), some (.int v12), some (.int 1), none]) rfl ?_
          exact ih _ _ _ h
      · refine e_icmp_ne (tgt := 57) aX8_orderOf_50 (by decide) (fun _ => ?_) (fun q => absurd q hc3)
        refine e_iconst (v := 0) aX8_orderOf_57 (by decide) ?_
        refine e_istore (L2 := [some (.ref (x.2.2.1 + 176)), some (.int i1), some (.int i2), some (.int i3), some (.int 0), some (.int i5_2)]) aX8_orderOf_58 ⟨by decide, rfl⟩ rfl ?_
        refine e_iload_n aX8_orderOf_60 rfl ?_
        refine e_iload aX8_orderOf_61 rfl ?_
        rcases of_ite h with ⟨hc4, h⟩ | ⟨hc4, h⟩
        · refine e_if_eq (tgt := 70) aX8_orderOf_63 (by decide) (fun _ => ?_) (fun q => absurd hc4 q)
          refine e_iconst (v := 1) aX8_orderOf_70 (by decide) ?_
          refine e_iadd aX8_orderOf_71 ?_
          obtain ⟨v5, ev5, h⟩ := of_lt h
          refine e_nameI ev5 ?_
          refine e_istore_n (L2 := [some (.ref (x.2.2.1 + 176)), some (.int i1), some (.int i2), some (.int v5), some (.int 0), some (.int i5_2)]) aX8_orderOf_72 ⟨by decide, rfl⟩ rfl ?_
          refine e_iload_n aX8_orderOf_73 rfl ?_
          refine e_iconst (v := 1) aX8_orderOf_74 (by decide) ?_
          refine e_iload aX8_orderOf_75 rfl ?_
          refine e_ishl aX8_orderOf_77 ?_
          refine e_iconst (v := (-1)) aX8_orderOf_78 (by decide) ?_
          refine e_ixor aX8_orderOf_79 ?_
          refine e_iand aX8_orderOf_80 ?_
          obtain ⟨v6, ev6, h⟩ := of_lt h
          refine e_nameI ev6 ?_
          refine e_istore_n (L2 := [some (.ref (x.2.2.1 + 176)), some (.int i1), some (.int v6), some (.int v5), some (.int 0), some (.int i5_2)]) aX8_orderOf_81 ⟨by decide, rfl⟩ rfl ?_
          refine e_goto (tgt := 14) aX8_orderOf_82 (by decide) ?_
          refine e_drop 5 (L2 := [some (.ref (x.2.2.1 + 176)), some (.int i1), some (.int v6), some (.int v5), some (.int 0), none]) rfl ?_
          exact ih _ _ _ h
        · refine e_if_eq (tgt := 70) aX8_orderOf_63 (by decide) (fun q => absurd q hc4) (fun _ => ?_)
          refine e_iconst (v := 0) aX8_orderOf_66 (by decide) ?_
          refine e_goto (tgt := 71) aX8_orderOf_67 (by decide) ?_
          refine e_iadd aX8_orderOf_71 ?_
          obtain ⟨v7, ev7, h⟩ := of_lt h
          refine e_nameI ev7 ?_
          refine e_istore_n (L2 := [some (.ref (x.2.2.1 + 176)), some (.int i1), some (.int i2), some (.int v7), some (.int 0), some (.int i5_2)]) aX8_orderOf_72 ⟨by decide, rfl⟩ rfl ?_
          refine e_iload_n aX8_orderOf_73 rfl ?_
          refine e_iconst (v := 1) aX8_orderOf_74 (by decide) ?_
          refine e_iload aX8_orderOf_75 rfl ?_
          refine e_ishl aX8_orderOf_77 ?_
          refine e_iconst (v := (-1)) aX8_orderOf_78 (by decide) ?_
          refine e_ixor aX8_orderOf_79 ?_
          refine e_iand aX8_orderOf_80 ?_
          obtain ⟨v8, ev8, h⟩ := of_lt h
          refine e_nameI ev8 ?_
          refine e_istore_n (L2 := [some (.ref (x.2.2.1 + 176)), some (.int i1), some (.int v8), some (.int v7), some (.int 0), some (.int i5_2)]) aX8_orderOf_81 ⟨by decide, rfl⟩ rfl ?_
          refine e_goto (tgt := 14) aX8_orderOf_82 (by decide) ?_
          refine e_drop 5 (L2 := [some (.ref (x.2.2.1 + 176)), some (.int i1), some (.int v8), some (.int v7), some (.int 0), none]) rfl ?_
          exact ih _ _ _ h
    · refine e_if_ne (tgt := 85) aX8_orderOf_16 (by decide) (fun _ => ?_) (fun q => absurd q hc1)
      exact K _ _ _ h
def f_X8_orderOf (i1 : Int32) (M : Mem) : Option Int32 :=
  lt ((1 <<< ((M 176 0) &&& 31)) - 1) fun (v1 : Int32) =>
  f_X8_orderOf_14 i1 M (fun (i2_2 : Int32) (i3_3 : Int32) (i4_4 : Int32) =>
    some i3_3) FU v1 0 0
set_option maxRecDepth 100000 in
set_option maxHeartbeats 4000000 in
theorem c_X8_orderOf (l : Launch) (x : WX) {i1 : Int32} {M : Mem} {r : Int32}  (h : f_X8_orderOf i1 M = some r) : Mt l x false yX8_orderOf cX8_orderOf 6 (some FieldType.int) 1 0 0 [.ref (x.2.2.1 + 176), .int i1] LAY M (pI r M) := by
  refine mt_of (L0 := [some (.ref (x.2.2.1 + 176)), some (.int i1), none, none, none, none]) (by decide +kernel) rfl (Nat.le_of_ble_eq_true rfl) (lvA_of 4 rfl) ?_
  unfold f_X8_orderOf at h
  refine e_iconst (v := 1) aX8_orderOf_0 (by decide) ?_
  refine e_aload_n aX8_orderOf_1 rfl ?_
  refine e_getI aX8_orderOf_2 fX8_7 ly_176 rfl ?_
  refine e_ishl aX8_orderOf_5 ?_
  refine e_iconst (v := 1) aX8_orderOf_6 (by decide) ?_
  refine e_isub aX8_orderOf_7 ?_
  obtain ⟨v1, ev1, h⟩ := of_lt h
  refine e_nameI ev1 ?_
  refine e_istore_n (L2 := [some (.ref (x.2.2.1 + 176)), some (.int i1), some (.int v1), none, none, none]) aX8_orderOf_8 ⟨by decide, rfl⟩ rfl ?_
  refine e_iconst (v := 0) aX8_orderOf_9 (by decide) ?_
  refine e_istore_n (L2 := [some (.ref (x.2.2.1 + 176)), some (.int i1), some (.int v1), some (.int 0), none, none]) aX8_orderOf_10 ⟨by decide, rfl⟩ rfl ?_
  refine e_iconst (v := 0) aX8_orderOf_11 (by decide) ?_
  refine e_istore (L2 := [some (.ref (x.2.2.1 + 176)), some (.int i1), some (.int v1), some (.int 0), some (.int 0), none]) aX8_orderOf_12 ⟨by decide, rfl⟩ rfl ?_
  refine w_X8_orderOf_14 l x  (fun i2_2 i3_3 i4_4 h => ?_) FU _ _ _ h
  refine e_iload_n aX8_orderOf_85 rfl ?_
  exact e_retI aX8_orderOf_86 rfl rfl (pI_ro h)
def f_X8_point (i1 : Int32) (i2 : Int32) (M : Mem) : Option Int32 :=
  (f_X8_isPoint i1 M).bind fun (r1 : Int32) =>
  if r1 = 0 then
    some (-1000001)
  else
    if i2 = 0 then
      if 21 + i1 < 0 ∨ 297 ≤ (21 + i1).toNatClampNeg then none else
      some (M 177 (21 + i1).toNatClampNeg)
    else if i2 = 1 then
      (f_X8_goes i1 M).bind fun (r10 : Int32) =>
      if r10 = 0 then
        some 1
      else
        some 0
    else if i2 = 2 then
      (f_X8_comes i1 M).bind fun (r12 : Int32) =>
      if r12 = 0 then
        some 1
      else
        some 0
    else if i2 = 3 then
      (f_X8_orderOf i1 M).bind fun (r14 : Int32) =>
      some r14
    else if i2 = 4 then
      (f_X8_comes i1 M).bind fun (r15 : Int32) =>
      some r15
    else if i2 = 5 then
      (f_X8_goes i1 M).bind fun (r16 : Int32) =>
      some r16
    else 
      some (-1000002)
set_option maxRecDepth 100000 in
set_option maxHeartbeats 4000000 in
theorem c_X8_point (l : Launch) (x : WX) {i1 : Int32} {i2 : Int32} {M : Mem} {r : Int32}  (h : f_X8_point i1 i2 M = some r) : Mt l x false yX8_point cX8_point 3 (some FieldType.int) 2 0 0 [.ref (x.2.2.1 + 176), .int i1, .int i2] LAY M (pI r M) := by
  refine mt_of (L0 := [some (.ref (x.2.2.1 + 176)), some (.int i1), some (.int i2)]) (by decide +kernel) rfl (Nat.le_of_ble_eq_true rfl) (lvA_of 0 rfl) ?_
  unfold f_X8_point at h
  refine e_aload_n aX8_point_0 rfl ?_
  refine e_iload_n aX8_point_1 rfl ?_
  obtain ⟨r1, hr1, h⟩ := of_bind h
  refine e_VI [] aX8_point_2 co_X8_isPoint mX8_172 ly_176 rfl rfl (c_X8_isPoint l x hr1) rfl ⟨by decide, by decide⟩ (Nat.le_of_ble_eq_true rfl) rfl ?_
  rcases of_ite h with ⟨hc2, h⟩ | ⟨hc2, h⟩
  · refine e_if_ne (tgt := 11) aX8_point_5 (by decide) (fun q => absurd hc2 q) (fun _ => ?_)
    refine e_ldc aX8_point_8 kX8_168 ?_
    exact e_retI aX8_point_10 rfl rfl (pI_ro h)
  · refine e_if_ne (tgt := 11) aX8_point_5 (by decide) (fun _ => ?_) (fun q => absurd q hc2)
    refine e_iload_n aX8_point_11 rfl ?_
    rcases of_ite h with ⟨hc3, h⟩ | ⟨hc3, h⟩
    · refine e_tableIn (off := 40) (tgt := 52) aX8_point_12 (by rw [hc3]; decide) (by rw [hc3]; decide) (by rw [hc3]; rfl) (by decide) ?_
      refine e_aload_n aX8_point_52 rfl ?_
      refine e_getR (r := 177) aX8_point_53 fX8_13 ly_176 rfl ?_
      refine e_bipush (v := 21) aX8_point_56 (by decide) ?_
      refine e_iload_n aX8_point_58 rfl ?_
      refine e_iadd aX8_point_59 ?_
      obtain ⟨hg9, h⟩ := of_guard h
      refine e_iald aX8_point_60 ly_177 hg9 ?_
      exact e_retI aX8_point_61 rfl rfl (pI_ro h)
    · rcases of_ite h with ⟨hc4, h⟩ | ⟨hc4, h⟩
      · refine e_tableIn (off := 50) (tgt := 62) aX8_point_12 (by rw [hc4]; decide) (by rw [hc4]; decide) (by rw [hc4]; rfl) (by decide) ?_
        refine e_aload_n aX8_point_62 rfl ?_
        refine e_iload_n aX8_point_63 rfl ?_
        obtain ⟨r10, hr10, h⟩ := of_bind h
        refine e_VI [] aX8_point_64 co_X8_goes mX8_175 ly_176 rfl rfl (c_X8_goes l x hr10) rfl ⟨by decide, by decide⟩ (Nat.le_of_ble_eq_true rfl) rfl ?_
        rcases of_ite h with ⟨hc11, h⟩ | ⟨hc11, h⟩
        · refine e_if_ne (tgt := 74) aX8_point_67 (by decide) (fun q => absurd hc11 q) (fun _ => ?_)
          refine e_iconst (v := 1) aX8_point_70 (by decide) ?_
          refine e_goto (tgt := 75) aX8_point_71 (by decide) ?_
          exact e_retI aX8_point_75 rfl rfl (pI_ro h)
        · refine e_if_ne (tgt := 74) aX8_point_67 (by decide) (fun _ => ?_) (fun q => absurd q hc11)
          refine e_iconst (v := 0) aX8_point_74 (by decide) ?_
          exact e_retI aX8_point_75 rfl rfl (pI_ro h)
      · rcases of_ite h with ⟨hc5, h⟩ | ⟨hc5, h⟩
        · refine e_tableIn (off := 64) (tgt := 76) aX8_point_12 (by rw [hc5]; decide) (by rw [hc5]; decide) (by rw [hc5]; rfl) (by decide) ?_
          refine e_aload_n aX8_point_76 rfl ?_
          refine e_iload_n aX8_point_77 rfl ?_
          obtain ⟨r12, hr12, h⟩ := of_bind h
          refine e_VI [] aX8_point_78 co_X8_comes mX8_179 ly_176 rfl rfl (c_X8_comes l x hr12) rfl ⟨by decide, by decide⟩ (Nat.le_of_ble_eq_true rfl) rfl ?_
          rcases of_ite h with ⟨hc13, h⟩ | ⟨hc13, h⟩
          · refine e_if_ne (tgt := 88) aX8_point_81 (by decide) (fun q => absurd hc13 q) (fun _ => ?_)
            refine e_iconst (v := 1) aX8_point_84 (by decide) ?_
            refine e_goto (tgt := 89) aX8_point_85 (by decide) ?_
            exact e_retI aX8_point_89 rfl rfl (pI_ro h)
          · refine e_if_ne (tgt := 88) aX8_point_81 (by decide) (fun _ => ?_) (fun q => absurd q hc13)
            refine e_iconst (v := 0) aX8_point_88 (by decide) ?_
            exact e_retI aX8_point_89 rfl rfl (pI_ro h)
        · rcases of_ite h with ⟨hc6, h⟩ | ⟨hc6, h⟩
          · refine e_tableIn (off := 78) (tgt := 90) aX8_point_12 (by rw [hc6]; decide) (by rw [hc6]; decide) (by rw [hc6]; rfl) (by decide) ?_
            refine e_aload_n aX8_point_90 rfl ?_
            refine e_iload_n aX8_point_91 rfl ?_
            obtain ⟨r14, hr14, h⟩ := of_bind h
            refine e_VI [] aX8_point_92 co_X8_orderOf mX8_182 ly_176 rfl rfl (c_X8_orderOf l x hr14) rfl ⟨by decide, by decide⟩ (Nat.le_of_ble_eq_true rfl) rfl ?_
            exact e_retI aX8_point_95 rfl rfl (pI_ro h)
          · rcases of_ite h with ⟨hc7, h⟩ | ⟨hc7, h⟩
            · refine e_tableIn (off := 84) (tgt := 96) aX8_point_12 (by rw [hc7]; decide) (by rw [hc7]; decide) (by rw [hc7]; rfl) (by decide) ?_
              refine e_aload_n aX8_point_96 rfl ?_
              refine e_iload_n aX8_point_97 rfl ?_
              obtain ⟨r15, hr15, h⟩ := of_bind h
              refine e_VI [] aX8_point_98 co_X8_comes mX8_179 ly_176 rfl rfl (c_X8_comes l x hr15) rfl ⟨by decide, by decide⟩ (Nat.le_of_ble_eq_true rfl) rfl ?_
              exact e_retI aX8_point_101 rfl rfl (pI_ro h)
            · rcases of_ite h with ⟨hc8, h⟩ | ⟨hc8, h⟩
              · refine e_tableIn (off := 90) (tgt := 102) aX8_point_12 (by rw [hc8]; decide) (by rw [hc8]; decide) (by rw [hc8]; rfl) (by decide) ?_
                refine e_aload_n aX8_point_102 rfl ?_
                refine e_iload_n aX8_point_103 rfl ?_
                obtain ⟨r16, hr16, h⟩ := of_bind h
                refine e_VI [] aX8_point_104 co_X8_goes mX8_175 ly_176 rfl rfl (c_X8_goes l x hr16) rfl ⟨by decide, by decide⟩ (Nat.le_of_ble_eq_true rfl) rfl ?_
                exact e_retI aX8_point_107 rfl rfl (pI_ro h)
              · refine e_tableOut (tgt := 108) aX8_point_12 (sw_out (n := 5) (by decide) (fun c hc => match c, hc with | 0, _ => hc3 | 1, _ => hc4 | 2, _ => hc5 | 3, _ => hc6 | 4, _ => hc7 | 5, _ => hc8 | c + 6, hc => absurd hc (by omega))) (by decide) ?_
                refine e_ldc aX8_point_108 kX8_78 ?_
                exact e_retI aX8_point_110 rfl rfl (pI_ro h)
def s_X8_form_6 (p1 : Nat) (i2 : Int32) (p3 : Nat) (i4 : Int32) (M : Mem) (k : Int32 → Int32 → Option Int32) (rec : Int32 → Int32 → Option Int32) (i5 : Int32) (i6 : Int32) : Option Int32 :=
  if M 176 0 ≤ i6 then
    k i5 i6
  else
    if i2 + i6 < 0 ∨ (alen p1) ≤ (i2 + i6).toNatClampNeg then none else
    if i4 + i6 < 0 ∨ (alen p3) ≤ (i4 + i6).toNatClampNeg then none else
    lt (i5 + ((M p1 (i2 + i6).toNatClampNeg) * (M p3 (i4 + i6).toNatClampNeg))) fun (v4 : Int32) =>
    rec v4 (i6 + 1)
def f_X8_form_6 (p1 : Nat) (i2 : Int32) (p3 : Nat) (i4 : Int32) (M : Mem) (k : Int32 → Int32 → Option Int32) : Nat → Int32 → Int32 → Option Int32
  | 0 => fun _ _ => none
  | n + 1 => fun i5 i6 => s_X8_form_6 p1 i2 p3 i4 M k (f_X8_form_6 p1 i2 p3 i4 M k n) i5 i6
set_option maxRecDepth 100000 in
set_option maxHeartbeats 4000000 in
theorem w_X8_form_6 (l : Launch) (x : WX) {p1 : Nat} {i2 : Int32} {p3 : Nat} {i4 : Int32} {M : Mem} {k : Int32 → Int32 → Option Int32} {r : Int32} (hp1 : IA p1) (hp3 : IA p3) (K : ∀ (i5 : Int32) (i6 : Int32), k i5 i6 = some r → Ev l x false cX8_form RX8 (some FieldType.int) 7 0 0 0 (pI r M) 40 [some (.ref (x.2.2.1 + 176)), some (.ref (x.2.2.1 + p1)), some (.int i2), some (.ref (x.2.2.1 + p3)), some (.int i4), some (.int i5), some (.int i6)] [] LAY M) : ∀ (n : Nat) (i5 : Int32) (i6 : Int32), f_X8_form_6 p1 i2 p3 i4 M k n i5 i6 = some r → Ev l x false cX8_form RX8 (some FieldType.int) 7 0 0 0 (pI r M) 6 [some (.ref (x.2.2.1 + 176)), some (.ref (x.2.2.1 + p1)), some (.int i2), some (.ref (x.2.2.1 + p3)), some (.int i4), some (.int i5), some (.int i6)] [] LAY M := by
  intro n
  induction n with
  | zero =>
    intro i5 i6 h
    exact nomatch (show (none : Option Int32) = some r from h)
  | succ n ih =>
    intro i5 i6 h
    have h : s_X8_form_6 p1 i2 p3 i4 M k (f_X8_form_6 p1 i2 p3 i4 M k n) i5 i6 = some r := h
    unfold s_X8_form_6 at h
    refine e_iload aX8_form_6 rfl ?_
    refine e_aload_n aX8_form_8 rfl ?_
    refine e_getI aX8_form_9 fX8_7 ly_176 rfl ?_
    rcases of_ite h with ⟨hc1, h⟩ | ⟨hc1, h⟩
    · refine e_icmp_ge (tgt := 40) aX8_form_12 (by decide) (fun _ => ?_) (fun q => absurd hc1 q)
      exact K _ _ h
    · refine e_icmp_ge (tgt := 40) aX8_form_12 (by decide) (fun q => absurd q hc1) (fun _ => ?_)
      refine e_iload aX8_form_15 rfl ?_
      refine e_aload_n aX8_form_17 rfl ?_
      refine e_iload_n aX8_form_18 rfl ?_
      refine e_iload aX8_form_19 rfl ?_
      refine e_iadd aX8_form_21 ?_
      obtain ⟨hg2, h⟩ := of_guard h
      refine e_iald aX8_form_22 hp1 hg2 ?_
      refine e_aload_n aX8_form_23 rfl ?_
      refine e_iload aX8_form_24 rfl ?_
      refine e_iload aX8_form_26 rfl ?_
      refine e_iadd aX8_form_28 ?_
      obtain ⟨hg3, h⟩ := of_guard h
      refine e_iald aX8_form_29 hp3 hg3 ?_
      refine e_imul aX8_form_30 ?_
      refine e_iadd aX8_form_31 ?_
      obtain ⟨v4, ev4, h⟩ := of_lt h
      refine e_nameI ev4 ?_
      refine e_istore (L2 := [some (.ref (x.2.2.1 + 176)), some (.ref (x.2.2.1 + p1)), some (.int i2), some (.ref (x.2.2.1 + p3)), some (.int i4), some (.int v4), some (.int i6)]) aX8_form_32 ⟨by decide, rfl⟩ rfl ?_
      refine e_iinc (v := i6 + 1) (L2 := [some (.ref (x.2.2.1 + 176)), some (.ref (x.2.2.1 + p1)), some (.int i2), some (.ref (x.2.2.1 + p3)), some (.int i4), some (.int v4), some (.int (i6 + 1))]) aX8_form_34 rfl rfl ⟨by decide, rfl⟩ rfl ?_
      refine e_goto (tgt := 6) aX8_form_37 (by decide) ?_
      exact ih _ _ h
def s_X8_form_43 (p1 : Nat) (i2 : Int32) (p3 : Nat) (i4 : Int32) (M : Mem) (k : Int32 → Int32 → Option Int32) (rec : Int32 → Int32 → Option Int32) (i5 : Int32) (i6 : Int32) : Option Int32 :=
  if (0 : Int32) < 0 ∨ 297 ≤ (0 : Int32).toNatClampNeg then none else
  if M 177 (0 : Int32).toNatClampNeg ≤ i6 then
    k i5 i6
  else
    if 1 + i6 < 0 ∨ 297 ≤ (1 + i6).toNatClampNeg then none else
    if i2 + (M 177 (1 + i6).toNatClampNeg) < 0 ∨ (alen p1) ≤ (i2 + (M 177 (1 + i6).toNatClampNeg)).toNatClampNeg then none else
    if 11 + i6 < 0 ∨ 297 ≤ (11 + i6).toNatClampNeg then none else
    if i4 + (M 177 (11 + i6).toNatClampNeg) < 0 ∨ (alen p3) ≤ (i4 + (M 177 (11 + i6).toNatClampNeg)).toNatClampNeg then none else
    lt (i5 - ((M p1 (i2 + (M 177 (1 + i6).toNatClampNeg)).toNatClampNeg) * (M p3 (i4 + (M 177 (11 + i6).toNatClampNeg)).toNatClampNeg))) fun (v7 : Int32) =>
    rec v7 (i6 + 1)
def f_X8_form_43 (p1 : Nat) (i2 : Int32) (p3 : Nat) (i4 : Int32) (M : Mem) (k : Int32 → Int32 → Option Int32) : Nat → Int32 → Int32 → Option Int32
  | 0 => fun _ _ => none
  | n + 1 => fun i5 i6 => s_X8_form_43 p1 i2 p3 i4 M k (f_X8_form_43 p1 i2 p3 i4 M k n) i5 i6
set_option maxRecDepth 100000 in
set_option maxHeartbeats 4000000 in
theorem w_X8_form_43 (l : Launch) (x : WX) {p1 : Nat} {i2 : Int32} {p3 : Nat} {i4 : Int32} {M : Mem} {k : Int32 → Int32 → Option Int32} {r : Int32} (hp1 : IA p1) (hp3 : IA p3) (K : ∀ (i5 : Int32) (i6 : Int32), k i5 i6 = some r → Ev l x false cX8_form RX8 (some FieldType.int) 7 0 0 0 (pI r M) 94 [some (.ref (x.2.2.1 + 176)), some (.ref (x.2.2.1 + p1)), some (.int i2), some (.ref (x.2.2.1 + p3)), some (.int i4), some (.int i5), some (.int i6)] [] LAY M) : ∀ (n : Nat) (i5 : Int32) (i6 : Int32), f_X8_form_43 p1 i2 p3 i4 M k n i5 i6 = some r → Ev l x false cX8_form RX8 (some FieldType.int) 7 0 0 0 (pI r M) 43 [some (.ref (x.2.2.1 + 176)), some (.ref (x.2.2.1 + p1)), some (.int i2), some (.ref (x.2.2.1 + p3)), some (.int i4), some (.int i5), some (.int i6)] [] LAY M := by
  intro n
  induction n with
  | zero =>
    intro i5 i6 h
    exact nomatch (show (none : Option Int32) = some r from h)
  | succ n ih =>
    intro i5 i6 h
    have h : s_X8_form_43 p1 i2 p3 i4 M k (f_X8_form_43 p1 i2 p3 i4 M k n) i5 i6 = some r := h
    unfold s_X8_form_43 at h
    refine e_iload aX8_form_43 rfl ?_
    refine e_aload_n aX8_form_45 rfl ?_
    refine e_getR (r := 177) aX8_form_46 fX8_13 ly_176 rfl ?_
    refine e_iconst (v := 0) aX8_form_49 (by decide) ?_
    obtain ⟨hg1, h⟩ := of_guard h
    refine e_iald aX8_form_50 ly_177 hg1 ?_
    rcases of_ite h with ⟨hc2, h⟩ | ⟨hc2, h⟩
    · refine e_icmp_ge (tgt := 94) aX8_form_51 (by decide) (fun _ => ?_) (fun q => absurd hc2 q)
      exact K _ _ h
    · refine e_icmp_ge (tgt := 94) aX8_form_51 (by decide) (fun q => absurd q hc2) (fun _ => ?_)
      refine e_iload aX8_form_54 rfl ?_
      refine e_aload_n aX8_form_56 rfl ?_
      refine e_iload_n aX8_form_57 rfl ?_
      refine e_aload_n aX8_form_58 rfl ?_
      refine e_getR (r := 177) aX8_form_59 fX8_13 ly_176 rfl ?_
      refine e_iconst (v := 1) aX8_form_62 (by decide) ?_
      refine e_iload aX8_form_63 rfl ?_
      refine e_iadd aX8_form_65 ?_
      obtain ⟨hg3, h⟩ := of_guard h
      refine e_iald aX8_form_66 ly_177 hg3 ?_
      refine e_iadd aX8_form_67 ?_
      obtain ⟨hg4, h⟩ := of_guard h
      refine e_iald aX8_form_68 hp1 hg4 ?_
      refine e_aload_n aX8_form_69 rfl ?_
      refine e_iload aX8_form_70 rfl ?_
      refine e_aload_n aX8_form_72 rfl ?_
      refine e_getR (r := 177) aX8_form_73 fX8_13 ly_176 rfl ?_
      refine e_bipush (v := 11) aX8_form_76 (by decide) ?_
      refine e_iload aX8_form_78 rfl ?_
      refine e_iadd aX8_form_80 ?_
      obtain ⟨hg5, h⟩ := of_guard h
      refine e_iald aX8_form_81 ly_177 hg5 ?_
      refine e_iadd aX8_form_82 ?_
      obtain ⟨hg6, h⟩ := of_guard h
      refine e_iald aX8_form_83 hp3 hg6 ?_
      refine e_imul aX8_form_84 ?_
      refine e_isub aX8_form_85 ?_
      obtain ⟨v7, ev7, h⟩ := of_lt h
      refine e_nameI ev7 ?_
      refine e_istore (L2 := [some (.ref (x.2.2.1 + 176)), some (.ref (x.2.2.1 + p1)), some (.int i2), some (.ref (x.2.2.1 + p3)), some (.int i4), some (.int v7), some (.int i6)]) aX8_form_86 ⟨by decide, rfl⟩ rfl ?_
      refine e_iinc (v := i6 + 1) (L2 := [some (.ref (x.2.2.1 + 176)), some (.ref (x.2.2.1 + p1)), some (.int i2), some (.ref (x.2.2.1 + p3)), some (.int i4), some (.int v7), some (.int (i6 + 1))]) aX8_form_88 rfl rfl ⟨by decide, rfl⟩ rfl ?_
      refine e_goto (tgt := 43) aX8_form_91 (by decide) ?_
      exact ih _ _ h
def f_X8_form (p1 : Nat) (i2 : Int32) (p3 : Nat) (i4 : Int32) (M : Mem) : Option Int32 :=
  f_X8_form_6 p1 i2 p3 i4 M (fun (i5_1 : Int32) (i6_2 : Int32) =>
    f_X8_form_43 p1 i2 p3 i4 M (fun (i5_3 : Int32) (i6_4 : Int32) =>
      some i5_3) FU i5_1 0) FU 0 0
set_option maxRecDepth 100000 in
set_option maxHeartbeats 4000000 in
theorem c_X8_form (l : Launch) (x : WX) {p1 : Nat} {i2 : Int32} {p3 : Nat} {i4 : Int32} {M : Mem} {r : Int32} (hp1 : IA p1) (hp3 : IA p3) (h : f_X8_form p1 i2 p3 i4 M = some r) : Mt l x false yX8_form cX8_form 7 (some FieldType.int) 0 0 0 [.ref (x.2.2.1 + 176), .ref (x.2.2.1 + p1), .int i2, .ref (x.2.2.1 + p3), .int i4] LAY M (pI r M) := by
  refine mt_of (L0 := [some (.ref (x.2.2.1 + 176)), some (.ref (x.2.2.1 + p1)), some (.int i2), some (.ref (x.2.2.1 + p3)), some (.int i4), none, none]) (by decide +kernel) rfl (Nat.le_of_ble_eq_true rfl) (lvA_of 2 rfl) ?_
  unfold f_X8_form at h
  refine e_iconst (v := 0) aX8_form_0 (by decide) ?_
  refine e_istore (L2 := [some (.ref (x.2.2.1 + 176)), some (.ref (x.2.2.1 + p1)), some (.int i2), some (.ref (x.2.2.1 + p3)), some (.int i4), some (.int 0), none]) aX8_form_1 ⟨by decide, rfl⟩ rfl ?_
  refine e_iconst (v := 0) aX8_form_3 (by decide) ?_
  refine e_istore (L2 := [some (.ref (x.2.2.1 + 176)), some (.ref (x.2.2.1 + p1)), some (.int i2), some (.ref (x.2.2.1 + p3)), some (.int i4), some (.int 0), some (.int 0)]) aX8_form_4 ⟨by decide, rfl⟩ rfl ?_
  refine w_X8_form_6 l x hp1 hp3 (fun i5_1 i6_2 h => ?_) FU _ _ h
  refine e_iconst (v := 0) aX8_form_40 (by decide) ?_
  refine e_istore (L2 := [some (.ref (x.2.2.1 + 176)), some (.ref (x.2.2.1 + p1)), some (.int i2), some (.ref (x.2.2.1 + p3)), some (.int i4), some (.int i5_1), some (.int 0)]) aX8_form_41 ⟨by decide, rfl⟩ rfl ?_
  refine w_X8_form_43 l x hp1 hp3 (fun i5_3 i6_4 h => ?_) FU _ _ h
  refine e_iload aX8_form_94 rfl ?_
  exact e_retI aX8_form_96 rfl rfl (pI_ro h)
def s_X8_findsWays_2  (k : Int32 → Mem → Option Mem) (rec : Int32 → Mem → Option Mem) (i1 : Int32) (M : Mem) : Option Mem :=
  if 36 ≤ i1 then
    k i1 M
  else
    if i1 < 0 ∨ 36 ≤ i1.toNatClampNeg then none else
    lt (um M 183 i1.toNatClampNeg 0) fun (M3 : Mem) =>
    rec (i1 + 1) M3
def f_X8_findsWays_2  (k : Int32 → Mem → Option Mem) : Nat → Int32 → Mem → Option Mem
  | 0 => fun _ _ => none
  | n + 1 => fun i1 M => s_X8_findsWays_2  k (f_X8_findsWays_2  k n) i1 M
set_option maxRecDepth 100000 in
set_option maxHeartbeats 4000000 in
theorem w_X8_findsWays_2 (l : Launch) (x : WX)  {k : Int32 → Mem → Option Mem} {r : Mem}  (K : ∀ (i1 : Int32) (M : Mem), k i1 M = some r → Ev l x false cX8_findsWays RX8 none 4 0 0 0 (pV r) 21 [some (.ref (x.2.2.1 + 176)), some (.int i1), none, none] [] LAY M) : ∀ (n : Nat) (i1 : Int32) (M : Mem), f_X8_findsWays_2  k n i1 M = some r → Ev l x false cX8_findsWays RX8 none 4 0 0 0 (pV r) 2 [some (.ref (x.2.2.1 + 176)), some (.int i1), none, none] [] LAY M := by
  intro n
  induction n with
  | zero =>
    intro i1 M h
    exact nomatch (show (none : Option Mem) = some r from h)
  | succ n ih =>
    intro i1 M h
    have h : s_X8_findsWays_2  k (f_X8_findsWays_2  k n) i1 M = some r := h
    unfold s_X8_findsWays_2 at h
    refine e_iload_n aX8_findsWays_2 rfl ?_
    refine e_bipush (v := 36) aX8_findsWays_3 (by decide) ?_
    rcases of_ite h with ⟨hc1, h⟩ | ⟨hc1, h⟩
    · refine e_icmp_ge (tgt := 21) aX8_findsWays_5 (by decide) (fun _ => ?_) (fun q => absurd hc1 q)
      exact K _ _ h
    · refine e_icmp_ge (tgt := 21) aX8_findsWays_5 (by decide) (fun q => absurd q hc1) (fun _ => ?_)
      refine e_aload_n aX8_findsWays_8 rfl ?_
      refine e_getR (r := 183) aX8_findsWays_9 fX8_33 ly_176 rfl ?_
      refine e_iload_n aX8_findsWays_12 rfl ?_
      refine e_iconst (v := 0) aX8_findsWays_13 (by decide) ?_
      obtain ⟨hg2, h⟩ := of_guard h
      obtain ⟨M3, eM3, h⟩ := of_lt h
      refine e_ist aX8_findsWays_14 ly_183 hg2 eM3 ?_
      refine e_iinc (v := i1 + 1) (L2 := [some (.ref (x.2.2.1 + 176)), some (.int (i1 + 1)), none, none]) aX8_findsWays_15 rfl rfl ⟨by decide, rfl⟩ rfl ?_
      refine e_goto (tgt := 2) aX8_findsWays_18 (by decide) ?_
      exact ih _ _ h
def s_X8_findsWays_31 (i1 : Int32) (k : Int32 → Mem → Option Mem) (rec : Int32 → Mem → Option Mem) (i2 : Int32) (M : Mem) : Option Mem :=
  if 36 ≤ i2 then
    k i2 M
  else
    if i2 / 6 = i2 - i2 / 6 * 6 then
      if i2 < 0 ∨ 36 ≤ i2.toNatClampNeg then none else
      lt (um M 191 i2.toNatClampNeg 1) fun (M6 : Mem) =>
      rec (i2 + 1) M6
    else
      if i2 < 0 ∨ 36 ≤ i2.toNatClampNeg then none else
      lt (um M 191 i2.toNatClampNeg 0) fun (M4 : Mem) =>
      rec (i2 + 1) M4
def f_X8_findsWays_31 (i1 : Int32) (k : Int32 → Mem → Option Mem) : Nat → Int32 → Mem → Option Mem
  | 0 => fun _ _ => none
  | n + 1 => fun i2 M => s_X8_findsWays_31 i1 k (f_X8_findsWays_31 i1 k n) i2 M
set_option maxRecDepth 100000 in
set_option maxHeartbeats 4000000 in
theorem w_X8_findsWays_31 (l : Launch) (x : WX) {i1 : Int32} {k : Int32 → Mem → Option Mem} {r : Mem}  (K : ∀ (i2 : Int32) (M : Mem), k i2 M = some r → Ev l x false cX8_findsWays RX8 none 4 0 0 0 (pV r) 65 [some (.ref (x.2.2.1 + 176)), some (.int i1), some (.int i2), none] [] LAY M) : ∀ (n : Nat) (i2 : Int32) (M : Mem), f_X8_findsWays_31 i1 k n i2 M = some r → Ev l x false cX8_findsWays RX8 none 4 0 0 0 (pV r) 31 [some (.ref (x.2.2.1 + 176)), some (.int i1), some (.int i2), none] [] LAY M := by
  intro n
  induction n with
  | zero =>
    intro i2 M h
    exact nomatch (show (none : Option Mem) = some r from h)
  | succ n ih =>
    intro i2 M h
    have h : s_X8_findsWays_31 i1 k (f_X8_findsWays_31 i1 k n) i2 M = some r := h
    unfold s_X8_findsWays_31 at h
    refine e_iload_n aX8_findsWays_31 rfl ?_
    refine e_bipush (v := 36) aX8_findsWays_32 (by decide) ?_
    rcases of_ite h with ⟨hc1, h⟩ | ⟨hc1, h⟩
    · refine e_icmp_ge (tgt := 65) aX8_findsWays_34 (by decide) (fun _ => ?_) (fun q => absurd hc1 q)
      exact K _ _ h
    · refine e_icmp_ge (tgt := 65) aX8_findsWays_34 (by decide) (fun q => absurd q hc1) (fun _ => ?_)
      refine e_aload_n aX8_findsWays_37 rfl ?_
      refine e_getR (r := 191) aX8_findsWays_38 fX8_57 ly_176 rfl ?_
      refine e_iload_n aX8_findsWays_41 rfl ?_
      refine e_iload_n aX8_findsWays_42 rfl ?_
      refine e_bipush (v := 6) aX8_findsWays_43 (by decide) ?_
      refine e_idiv aX8_findsWays_45 (by decide) ?_
      refine e_iload_n aX8_findsWays_46 rfl ?_
      refine e_bipush (v := 6) aX8_findsWays_47 (by decide) ?_
      refine e_irem aX8_findsWays_49 (by decide) ?_
      rcases of_ite h with ⟨hc2, h⟩ | ⟨hc2, h⟩
      · refine e_icmp_ne (tgt := 57) aX8_findsWays_50 (by decide) (fun q => absurd hc2 q) (fun _ => ?_)
        refine e_iconst (v := 1) aX8_findsWays_53 (by decide) ?_
        refine e_goto (tgt := 58) aX8_findsWays_54 (by decide) ?_
        obtain ⟨hg5, h⟩ := of_guard h
        obtain ⟨M6, eM6, h⟩ := of_lt h
        refine e_ist aX8_findsWays_58 ly_191 hg5 eM6 ?_
        refine e_iinc (v := i2 + 1) (L2 := [some (.ref (x.2.2.1 + 176)), some (.int i1), some (.int (i2 + 1)), none]) aX8_findsWays_59 rfl rfl ⟨by decide, rfl⟩ rfl ?_
        refine e_goto (tgt := 31) aX8_findsWays_62 (by decide) ?_
        exact ih _ _ h
      · refine e_icmp_ne (tgt := 57) aX8_findsWays_50 (by decide) (fun _ => ?_) (fun q => absurd q hc2)
        refine e_iconst (v := 0) aX8_findsWays_57 (by decide) ?_
        obtain ⟨hg3, h⟩ := of_guard h
        obtain ⟨M4, eM4, h⟩ := of_lt h
        refine e_ist aX8_findsWays_58 ly_191 hg3 eM4 ?_
        refine e_iinc (v := i2 + 1) (L2 := [some (.ref (x.2.2.1 + 176)), some (.int i1), some (.int (i2 + 1)), none]) aX8_findsWays_59 rfl rfl ⟨by decide, rfl⟩ rfl ?_
        refine e_goto (tgt := 31) aX8_findsWays_62 (by decide) ?_
        exact ih _ _ h
def s_X8_findsWays_79 (i1 : Int32) (i2 : Int32) (k : Int32 → Mem → Option Mem) (rec : Int32 → Mem → Option Mem) (i3 : Int32) (M : Mem) : Option Mem :=
  if 6 ≤ i3 then
    k i3 M
  else
    if 1 + i2 < 0 ∨ 297 ≤ (1 + i2).toNatClampNeg then none else
    if (6 * (M 177 (1 + i2).toNatClampNeg)) + i3 < 0 ∨ 36 ≤ ((6 * (M 177 (1 + i2).toNatClampNeg)) + i3).toNatClampNeg then none else
    if 11 + i2 < 0 ∨ 297 ≤ (11 + i2).toNatClampNeg then none else
    if (6 * (M 177 (11 + i2).toNatClampNeg)) + i3 < 0 ∨ 36 ≤ ((6 * (M 177 (11 + i2).toNatClampNeg)) + i3).toNatClampNeg then none else
    if (6 * (M 177 (1 + i2).toNatClampNeg)) + i3 < 0 ∨ 36 ≤ ((6 * (M 177 (1 + i2).toNatClampNeg)) + i3).toNatClampNeg then none else
    lt (um M 191 ((6 * (M 177 (1 + i2).toNatClampNeg)) + i3).toNatClampNeg ((M 191 ((6 * (M 177 (1 + i2).toNatClampNeg)) + i3).toNatClampNeg) + (M 183 ((6 * (M 177 (11 + i2).toNatClampNeg)) + i3).toNatClampNeg))) fun (M7 : Mem) =>
    rec (i3 + 1) M7
def f_X8_findsWays_79 (i1 : Int32) (i2 : Int32) (k : Int32 → Mem → Option Mem) : Nat → Int32 → Mem → Option Mem
  | 0 => fun _ _ => none
  | n + 1 => fun i3 M => s_X8_findsWays_79 i1 i2 k (f_X8_findsWays_79 i1 i2 k n) i3 M
set_option maxRecDepth 100000 in
set_option maxHeartbeats 4000000 in
theorem w_X8_findsWays_79 (l : Launch) (x : WX) {i1 : Int32} {i2 : Int32} {k : Int32 → Mem → Option Mem} {r : Mem}  (K : ∀ (i3 : Int32) (M : Mem), k i3 M = some r → Ev l x false cX8_findsWays RX8 none 4 0 0 0 (pV r) 131 [some (.ref (x.2.2.1 + 176)), some (.int i1), some (.int i2), some (.int i3)] [] LAY M) : ∀ (n : Nat) (i3 : Int32) (M : Mem), f_X8_findsWays_79 i1 i2 k n i3 M = some r → Ev l x false cX8_findsWays RX8 none 4 0 0 0 (pV r) 79 [some (.ref (x.2.2.1 + 176)), some (.int i1), some (.int i2), some (.int i3)] [] LAY M := by
  intro n
  induction n with
  | zero =>
    intro i3 M h
    exact nomatch (show (none : Option Mem) = some r from h)
  | succ n ih =>
    intro i3 M h
    have h : s_X8_findsWays_79 i1 i2 k (f_X8_findsWays_79 i1 i2 k n) i3 M = some r := h
    unfold s_X8_findsWays_79 at h
    refine e_iload_n aX8_findsWays_79 rfl ?_
    refine e_bipush (v := 6) aX8_findsWays_80 (by decide) ?_
    rcases of_ite h with ⟨hc1, h⟩ | ⟨hc1, h⟩
    · refine e_icmp_ge (tgt := 131) aX8_findsWays_82 (by decide) (fun _ => ?_) (fun q => absurd hc1 q)
      exact K _ _ h
    · refine e_icmp_ge (tgt := 131) aX8_findsWays_82 (by decide) (fun q => absurd q hc1) (fun _ => ?_)
      refine e_aload_n aX8_findsWays_85 rfl ?_
      refine e_getR (r := 191) aX8_findsWays_86 fX8_57 ly_176 rfl ?_
      refine e_bipush (v := 6) aX8_findsWays_89 (by decide) ?_
      refine e_aload_n aX8_findsWays_91 rfl ?_
      refine e_getR (r := 177) aX8_findsWays_92 fX8_13 ly_176 rfl ?_
      refine e_iconst (v := 1) aX8_findsWays_95 (by decide) ?_
      refine e_iload_n aX8_findsWays_96 rfl ?_
      refine e_iadd aX8_findsWays_97 ?_
      obtain ⟨hg2, h⟩ := of_guard h
      refine e_iald aX8_findsWays_98 ly_177 hg2 ?_
      refine e_imul aX8_findsWays_99 ?_
      refine e_iload_n aX8_findsWays_100 rfl ?_
      refine e_iadd aX8_findsWays_101 ?_
      refine e_dup2 aX8_findsWays_102 ?_
      obtain ⟨hg3, h⟩ := of_guard h
      refine e_iald aX8_findsWays_103 ly_191 hg3 ?_
      refine e_aload_n aX8_findsWays_104 rfl ?_
      refine e_getR (r := 183) aX8_findsWays_105 fX8_33 ly_176 rfl ?_
      refine e_bipush (v := 6) aX8_findsWays_108 (by decide) ?_
      refine e_aload_n aX8_findsWays_110 rfl ?_
      refine e_getR (r := 177) aX8_findsWays_111 fX8_13 ly_176 rfl ?_
      refine e_bipush (v := 11) aX8_findsWays_114 (by decide) ?_
      refine e_iload_n aX8_findsWays_116 rfl ?_
      refine e_iadd aX8_findsWays_117 ?_
      obtain ⟨hg4, h⟩ := of_guard h
      refine e_iald aX8_findsWays_118 ly_177 hg4 ?_
      refine e_imul aX8_findsWays_119 ?_
      refine e_iload_n aX8_findsWays_120 rfl ?_
      refine e_iadd aX8_findsWays_121 ?_
      obtain ⟨hg5, h⟩ := of_guard h
      refine e_iald aX8_findsWays_122 ly_183 hg5 ?_
      refine e_iadd aX8_findsWays_123 ?_
      obtain ⟨hg6, h⟩ := of_guard h
      obtain ⟨M7, eM7, h⟩ := of_lt h
      refine e_ist aX8_findsWays_124 ly_191 hg6 eM7 ?_
      refine e_iinc (v := i3 + 1) (L2 := [some (.ref (x.2.2.1 + 176)), some (.int i1), some (.int i2), some (.int (i3 + 1))]) aX8_findsWays_125 rfl rfl ⟨by decide, rfl⟩ rfl ?_
      refine e_goto (tgt := 79) aX8_findsWays_128 (by decide) ?_
      exact ih _ _ h
def s_X8_findsWays_67 (i1 : Int32) (k : Int32 → Mem → Option Mem) (rec : Int32 → Mem → Option Mem) (i2 : Int32) (M : Mem) : Option Mem :=
  if (0 : Int32) < 0 ∨ 297 ≤ (0 : Int32).toNatClampNeg then none else
  if M 177 (0 : Int32).toNatClampNeg ≤ i2 then
    k i2 M
  else
    f_X8_findsWays_79 i1 i2 (fun (i3_3 : Int32) (M4 : Mem) =>
      rec (i2 + 1) M4) FU 0 M
def f_X8_findsWays_67 (i1 : Int32) (k : Int32 → Mem → Option Mem) : Nat → Int32 → Mem → Option Mem
  | 0 => fun _ _ => none
  | n + 1 => fun i2 M => s_X8_findsWays_67 i1 k (f_X8_findsWays_67 i1 k n) i2 M
set_option maxRecDepth 100000 in
set_option maxHeartbeats 4000000 in
theorem w_X8_findsWays_67 (l : Launch) (x : WX) {i1 : Int32} {k : Int32 → Mem → Option Mem} {r : Mem}  (K : ∀ (i2 : Int32) (M : Mem), k i2 M = some r → Ev l x false cX8_findsWays RX8 none 4 0 0 0 (pV r) 137 [some (.ref (x.2.2.1 + 176)), some (.int i1), some (.int i2), none] [] LAY M) : ∀ (n : Nat) (i2 : Int32) (M : Mem), f_X8_findsWays_67 i1 k n i2 M = some r → Ev l x false cX8_findsWays RX8 none 4 0 0 0 (pV r) 67 [some (.ref (x.2.2.1 + 176)), some (.int i1), some (.int i2), none] [] LAY M := by
  intro n
  induction n with
  | zero =>
    intro i2 M h
    exact nomatch (show (none : Option Mem) = some r from h)
  | succ n ih =>
    intro i2 M h
    have h : s_X8_findsWays_67 i1 k (f_X8_findsWays_67 i1 k n) i2 M = some r := h
    unfold s_X8_findsWays_67 at h
    refine e_iload_n aX8_findsWays_67 rfl ?_
    refine e_aload_n aX8_findsWays_68 rfl ?_
    refine e_getR (r := 177) aX8_findsWays_69 fX8_13 ly_176 rfl ?_
    refine e_iconst (v := 0) aX8_findsWays_72 (by decide) ?_
    obtain ⟨hg1, h⟩ := of_guard h
    refine e_iald aX8_findsWays_73 ly_177 hg1 ?_
    rcases of_ite h with ⟨hc2, h⟩ | ⟨hc2, h⟩
    · refine e_icmp_ge (tgt := 137) aX8_findsWays_74 (by decide) (fun _ => ?_) (fun q => absurd hc2 q)
      exact K _ _ h
    · refine e_icmp_ge (tgt := 137) aX8_findsWays_74 (by decide) (fun q => absurd q hc2) (fun _ => ?_)
      refine e_iconst (v := 0) aX8_findsWays_77 (by decide) ?_
      refine e_istore_n (L2 := [some (.ref (x.2.2.1 + 176)), some (.int i1), some (.int i2), some (.int 0)]) aX8_findsWays_78 ⟨by decide, rfl⟩ rfl ?_
      refine w_X8_findsWays_79 l x  (fun i3_3 M4 h => ?_) FU _ _ h
      refine e_iinc (v := i2 + 1) (L2 := [some (.ref (x.2.2.1 + 176)), some (.int i1), some (.int (i2 + 1)), some (.int i3_3)]) aX8_findsWays_131 rfl rfl ⟨by decide, rfl⟩ rfl ?_
      refine e_goto (tgt := 67) aX8_findsWays_134 (by decide) ?_
      refine e_drop 3 (L2 := [some (.ref (x.2.2.1 + 176)), some (.int i1), some (.int (i2 + 1)), none]) rfl ?_
      exact ih _ _ h
def s_X8_findsWays_139 (i1 : Int32) (k : Int32 → Mem → Option Mem) (rec : Int32 → Mem → Option Mem) (i2 : Int32) (M : Mem) : Option Mem :=
  if 36 ≤ i2 then
    k i2 M
  else
    if i2 < 0 ∨ 36 ≤ i2.toNatClampNeg then none else
    if i2 < 0 ∨ 36 ≤ i2.toNatClampNeg then none else
    lt (um M 183 i2.toNatClampNeg (M 191 i2.toNatClampNeg)) fun (M4 : Mem) =>
    rec (i2 + 1) M4
def f_X8_findsWays_139 (i1 : Int32) (k : Int32 → Mem → Option Mem) : Nat → Int32 → Mem → Option Mem
  | 0 => fun _ _ => none
  | n + 1 => fun i2 M => s_X8_findsWays_139 i1 k (f_X8_findsWays_139 i1 k n) i2 M
set_option maxRecDepth 100000 in
set_option maxHeartbeats 4000000 in
theorem w_X8_findsWays_139 (l : Launch) (x : WX) {i1 : Int32} {k : Int32 → Mem → Option Mem} {r : Mem}  (K : ∀ (i2 : Int32) (M : Mem), k i2 M = some r → Ev l x false cX8_findsWays RX8 none 4 0 0 0 (pV r) 163 [some (.ref (x.2.2.1 + 176)), some (.int i1), some (.int i2), none] [] LAY M) : ∀ (n : Nat) (i2 : Int32) (M : Mem), f_X8_findsWays_139 i1 k n i2 M = some r → Ev l x false cX8_findsWays RX8 none 4 0 0 0 (pV r) 139 [some (.ref (x.2.2.1 + 176)), some (.int i1), some (.int i2), none] [] LAY M := by
  intro n
  induction n with
  | zero =>
    intro i2 M h
    exact nomatch (show (none : Option Mem) = some r from h)
  | succ n ih =>
    intro i2 M h
    have h : s_X8_findsWays_139 i1 k (f_X8_findsWays_139 i1 k n) i2 M = some r := h
    unfold s_X8_findsWays_139 at h
    refine e_iload_n aX8_findsWays_139 rfl ?_
    refine e_bipush (v := 36) aX8_findsWays_140 (by decide) ?_
    rcases of_ite h with ⟨hc1, h⟩ | ⟨hc1, h⟩
    · refine e_icmp_ge (tgt := 163) aX8_findsWays_142 (by decide) (fun _ => ?_) (fun q => absurd hc1 q)
      exact K _ _ h
    · refine e_icmp_ge (tgt := 163) aX8_findsWays_142 (by decide) (fun q => absurd q hc1) (fun _ => ?_)
      refine e_aload_n aX8_findsWays_145 rfl ?_
      refine e_getR (r := 183) aX8_findsWays_146 fX8_33 ly_176 rfl ?_
      refine e_iload_n aX8_findsWays_149 rfl ?_
      refine e_aload_n aX8_findsWays_150 rfl ?_
      refine e_getR (r := 191) aX8_findsWays_151 fX8_57 ly_176 rfl ?_
      refine e_iload_n aX8_findsWays_154 rfl ?_
      obtain ⟨hg2, h⟩ := of_guard h
      refine e_iald aX8_findsWays_155 ly_191 hg2 ?_
      obtain ⟨hg3, h⟩ := of_guard h
      obtain ⟨M4, eM4, h⟩ := of_lt h
      refine e_ist aX8_findsWays_156 ly_183 hg3 eM4 ?_
      refine e_iinc (v := i2 + 1) (L2 := [some (.ref (x.2.2.1 + 176)), some (.int i1), some (.int (i2 + 1)), none]) aX8_findsWays_157 rfl rfl ⟨by decide, rfl⟩ rfl ?_
      refine e_goto (tgt := 139) aX8_findsWays_160 (by decide) ?_
      exact ih _ _ h
def s_X8_findsWays_23  (k : Int32 → Mem → Option Mem) (rec : Int32 → Mem → Option Mem) (i1 : Int32) (M : Mem) : Option Mem :=
  if 6 ≤ i1 then
    k i1 M
  else
    f_X8_findsWays_31 i1 (fun (i2_2 : Int32) (M3 : Mem) =>
      f_X8_findsWays_67 i1 (fun (i2_4 : Int32) (M5 : Mem) =>
        f_X8_findsWays_139 i1 (fun (i2_6 : Int32) (M7 : Mem) =>
          rec (i1 + 1) M7) FU 0 M5) FU 0 M3) FU 0 M
def f_X8_findsWays_23  (k : Int32 → Mem → Option Mem) : Nat → Int32 → Mem → Option Mem
  | 0 => fun _ _ => none
  | n + 1 => fun i1 M => s_X8_findsWays_23  k (f_X8_findsWays_23  k n) i1 M
set_option maxRecDepth 100000 in
set_option maxHeartbeats 4000000 in
theorem w_X8_findsWays_23 (l : Launch) (x : WX)  {k : Int32 → Mem → Option Mem} {r : Mem}  (K : ∀ (i1 : Int32) (M : Mem), k i1 M = some r → Ev l x false cX8_findsWays RX8 none 4 0 0 0 (pV r) 169 [some (.ref (x.2.2.1 + 176)), some (.int i1), none, none] [] LAY M) : ∀ (n : Nat) (i1 : Int32) (M : Mem), f_X8_findsWays_23  k n i1 M = some r → Ev l x false cX8_findsWays RX8 none 4 0 0 0 (pV r) 23 [some (.ref (x.2.2.1 + 176)), some (.int i1), none, none] [] LAY M := by
  intro n
  induction n with
  | zero =>
    intro i1 M h
    exact nomatch (show (none : Option Mem) = some r from h)
  | succ n ih =>
    intro i1 M h
    have h : s_X8_findsWays_23  k (f_X8_findsWays_23  k n) i1 M = some r := h
    unfold s_X8_findsWays_23 at h
    refine e_iload_n aX8_findsWays_23 rfl ?_
    refine e_bipush (v := 6) aX8_findsWays_24 (by decide) ?_
    rcases of_ite h with ⟨hc1, h⟩ | ⟨hc1, h⟩
    · refine e_icmp_ge (tgt := 169) aX8_findsWays_26 (by decide) (fun _ => ?_) (fun q => absurd hc1 q)
      exact K _ _ h
    · refine e_icmp_ge (tgt := 169) aX8_findsWays_26 (by decide) (fun q => absurd q hc1) (fun _ => ?_)
      refine e_iconst (v := 0) aX8_findsWays_29 (by decide) ?_
      refine e_istore_n (L2 := [some (.ref (x.2.2.1 + 176)), some (.int i1), some (.int 0), none]) aX8_findsWays_30 ⟨by decide, rfl⟩ rfl ?_
      refine w_X8_findsWays_31 l x  (fun i2_2 M3 h => ?_) FU _ _ h
      refine e_iconst (v := 0) aX8_findsWays_65 (by decide) ?_
      refine e_istore_n (L2 := [some (.ref (x.2.2.1 + 176)), some (.int i1), some (.int 0), none]) aX8_findsWays_66 ⟨by decide, rfl⟩ rfl ?_
      refine w_X8_findsWays_67 l x  (fun i2_4 M5 h => ?_) FU _ _ h
      refine e_iconst (v := 0) aX8_findsWays_137 (by decide) ?_
      refine e_istore_n (L2 := [some (.ref (x.2.2.1 + 176)), some (.int i1), some (.int 0), none]) aX8_findsWays_138 ⟨by decide, rfl⟩ rfl ?_
      refine w_X8_findsWays_139 l x  (fun i2_6 M7 h => ?_) FU _ _ h
      refine e_iinc (v := i1 + 1) (L2 := [some (.ref (x.2.2.1 + 176)), some (.int (i1 + 1)), some (.int i2_6), none]) aX8_findsWays_163 rfl rfl ⟨by decide, rfl⟩ rfl ?_
      refine e_goto (tgt := 23) aX8_findsWays_166 (by decide) ?_
      refine e_drop 2 (L2 := [some (.ref (x.2.2.1 + 176)), some (.int (i1 + 1)), none, none]) rfl ?_
      exact ih _ _ h
def f_X8_findsWays  (M : Mem) : Option Mem :=
  f_X8_findsWays_2  (fun (i1_1 : Int32) (M2 : Mem) =>
    f_X8_findsWays_23  (fun (i1_3 : Int32) (M4 : Mem) =>
      some M4) FU 0 M2) FU 0 M
set_option maxRecDepth 100000 in
set_option maxHeartbeats 4000000 in
theorem c_X8_findsWays (l : Launch) (x : WX)  {M : Mem} {r : Mem}  (h : f_X8_findsWays  M = some r) : Mt l x false yX8_findsWays cX8_findsWays 4 none 0 0 0 [.ref (x.2.2.1 + 176)] LAY M (pV r) := by
  refine mt_of (L0 := [some (.ref (x.2.2.1 + 176)), none, none, none]) (by decide +kernel) rfl (Nat.le_of_ble_eq_true rfl) (lvA_of 3 rfl) ?_
  unfold f_X8_findsWays at h
  refine e_iconst (v := 0) aX8_findsWays_0 (by decide) ?_
  refine e_istore_n (L2 := [some (.ref (x.2.2.1 + 176)), some (.int 0), none, none]) aX8_findsWays_1 ⟨by decide, rfl⟩ rfl ?_
  refine w_X8_findsWays_2 l x  (fun i1_1 M2 h => ?_) FU _ _ h
  refine e_iconst (v := 0) aX8_findsWays_21 (by decide) ?_
  refine e_istore_n (L2 := [some (.ref (x.2.2.1 + 176)), some (.int 0), none, none]) aX8_findsWays_22 ⟨by decide, rfl⟩ rfl ?_
  refine w_X8_findsWays_23 l x  (fun i1_3 M4 h => ?_) FU _ _ h
  exact e_ret0 aX8_findsWays_169 rfl (pV_of h)
def s_X8_tries_10 (i1 : Int32) (i2 : Int32) (k : Int32 → Int32 → Mem → Option Mem) (rec : Int32 → Int32 → Mem → Option Mem) (i3 : Int32) (i4 : Int32) (M : Mem) : Option Mem :=
  if i4 < 0 then
    k i3 i4 M
  else
    if i2 = 0 then none else
    if i4 < 0 ∨ 6 ≤ i4.toNatClampNeg then none else
    lt (um M 192 i4.toNatClampNeg (i3 - i3 / i2 * i2)) fun (M4 : Mem) =>
    if i2 = 0 then none else
    lt (i3 / i2) fun (v6 : Int32) =>
    rec v6 (i4 + (-1)) M4
def f_X8_tries_10 (i1 : Int32) (i2 : Int32) (k : Int32 → Int32 → Mem → Option Mem) : Nat → Int32 → Int32 → Mem → Option Mem
  | 0 => fun _ _ _ => none
  | n + 1 => fun i3 i4 M => s_X8_tries_10 i1 i2 k (f_X8_tries_10 i1 i2 k n) i3 i4 M
set_option maxRecDepth 100000 in
set_option maxHeartbeats 4000000 in
theorem w_X8_tries_10 (l : Launch) (x : WX) {i1 : Int32} {i2 : Int32} {k : Int32 → Int32 → Mem → Option Mem} {r : Mem}  (K : ∀ (i3 : Int32) (i4 : Int32) (M : Mem), k i3 i4 M = some r → Ev l x false cX8_tries RX8 none 5 0 0 0 (pV r) 35 [some (.ref (x.2.2.1 + 176)), some (.int i1), some (.int i2), some (.int i3), some (.int i4)] [] LAY M) : ∀ (n : Nat) (i3 : Int32) (i4 : Int32) (M : Mem), f_X8_tries_10 i1 i2 k n i3 i4 M = some r → Ev l x false cX8_tries RX8 none 5 0 0 0 (pV r) 10 [some (.ref (x.2.2.1 + 176)), some (.int i1), some (.int i2), some (.int i3), some (.int i4)] [] LAY M := by
  intro n
  induction n with
  | zero =>
    intro i3 i4 M h
    exact nomatch (show (none : Option Mem) = some r from h)
  | succ n ih =>
    intro i3 i4 M h
    have h : s_X8_tries_10 i1 i2 k (f_X8_tries_10 i1 i2 k n) i3 i4 M = some r := h
    unfold s_X8_tries_10 at h
    refine e_iload aX8_tries_10 rfl ?_
    rcases of_ite h with ⟨hc1, h⟩ | ⟨hc1, h⟩
    · refine e_if_lt (tgt := 35) aX8_tries_12 (by decide) (fun _ => ?_) (fun q => absurd hc1 q)
      exact K _ _ _ h
    · refine e_if_lt (tgt := 35) aX8_tries_12 (by decide) (fun q => absurd q hc1) (fun _ => ?_)
      refine e_aload_n aX8_tries_15 rfl ?_
      refine e_getR (r := 192) aX8_tries_16 fX8_60 ly_176 rfl ?_
      refine e_iload aX8_tries_19 rfl ?_
      refine e_iload_n aX8_tries_21 rfl ?_
      refine e_iload_n aX8_tries_22 rfl ?_
      obtain ⟨hg2, h⟩ := of_guard h
      refine e_irem aX8_tries_23 hg2 ?_
      obtain ⟨hg3, h⟩ := of_guard h
      obtain ⟨M4, eM4, h⟩ := of_lt h
      refine e_ist aX8_tries_24 ly_192 hg3 eM4 ?_
      refine e_iload_n aX8_tries_25 rfl ?_
      refine e_iload_n aX8_tries_26 rfl ?_
      obtain ⟨hg5, h⟩ := of_guard h
      refine e_idiv aX8_tries_27 hg5 ?_
      obtain ⟨v6, ev6, h⟩ := of_lt h
      refine e_nameI ev6 ?_
      refine e_istore_n (L2 := [some (.ref (x.2.2.1 + 176)), some (.int i1), some (.int i2), some (.int v6), some (.int i4)]) aX8_tries_28 ⟨by decide, rfl⟩ rfl ?_
      refine e_iinc (v := i4 + (-1)) (L2 := [some (.ref (x.2.2.1 + 176)), some (.int i1), some (.int i2), some (.int v6), some (.int (i4 + (-1)))]) aX8_tries_29 rfl rfl ⟨by decide, rfl⟩ rfl ?_
      refine e_goto (tgt := 10) aX8_tries_32 (by decide) ?_
      exact ih _ _ _ h
def f_X8_tries (i1 : Int32) (i2 : Int32) (M : Mem) : Option Mem :=
  lt ((M 176 0) - 1) fun (v1 : Int32) =>
  f_X8_tries_10 i1 i2 (fun (i3_2 : Int32) (i4_3 : Int32) (M4 : Mem) =>
    some M4) FU i1 v1 M
set_option maxRecDepth 100000 in
set_option maxHeartbeats 4000000 in
theorem c_X8_tries (l : Launch) (x : WX) {i1 : Int32} {i2 : Int32} {M : Mem} {r : Mem}  (h : f_X8_tries i1 i2 M = some r) : Mt l x false yX8_tries cX8_tries 5 none 0 0 0 [.ref (x.2.2.1 + 176), .int i1, .int i2] LAY M (pV r) := by
  refine mt_of (L0 := [some (.ref (x.2.2.1 + 176)), some (.int i1), some (.int i2), none, none]) (by decide +kernel) rfl (Nat.le_of_ble_eq_true rfl) (lvA_of 2 rfl) ?_
  unfold f_X8_tries at h
  refine e_iload_n aX8_tries_0 rfl ?_
  refine e_istore_n (L2 := [some (.ref (x.2.2.1 + 176)), some (.int i1), some (.int i2), some (.int i1), none]) aX8_tries_1 ⟨by decide, rfl⟩ rfl ?_
  refine e_aload_n aX8_tries_2 rfl ?_
  refine e_getI aX8_tries_3 fX8_7 ly_176 rfl ?_
  refine e_iconst (v := 1) aX8_tries_6 (by decide) ?_
  refine e_isub aX8_tries_7 ?_
  obtain ⟨v1, ev1, h⟩ := of_lt h
  refine e_nameI ev1 ?_
  refine e_istore (L2 := [some (.ref (x.2.2.1 + 176)), some (.int i1), some (.int i2), some (.int i1), some (.int v1)]) aX8_tries_8 ⟨by decide, rfl⟩ rfl ?_
  refine w_X8_tries_10 l x  (fun i3_2 i4_3 M4 h => ?_) FU _ _ _ h
  exact e_ret0 aX8_tries_35 rfl (pV_of h)
def s_X8_power_4 (i0 : Int32) (i1 : Int32) (M : Mem) (k : Int32 → Int32 → Option Int32) (rec : Int32 → Int32 → Option Int32) (i2 : Int32) (i3 : Int32) : Option Int32 :=
  if i1 ≤ i3 then
    k i2 i3
  else
    lt (i2 * i0) fun (v2 : Int32) =>
    rec v2 (i3 + 1)
def f_X8_power_4 (i0 : Int32) (i1 : Int32) (M : Mem) (k : Int32 → Int32 → Option Int32) : Nat → Int32 → Int32 → Option Int32
  | 0 => fun _ _ => none
  | n + 1 => fun i2 i3 => s_X8_power_4 i0 i1 M k (f_X8_power_4 i0 i1 M k n) i2 i3
set_option maxRecDepth 100000 in
set_option maxHeartbeats 4000000 in
theorem w_X8_power_4 (l : Launch) (x : WX) {i0 : Int32} {i1 : Int32} {M : Mem} {k : Int32 → Int32 → Option Int32} {r : Int32}  (K : ∀ (i2 : Int32) (i3 : Int32), k i2 i3 = some r → Ev l x false cX8_power RX8 (some FieldType.int) 4 0 0 0 (pI r M) 19 [some (.int i0), some (.int i1), some (.int i2), some (.int i3)] [] LAY M) : ∀ (n : Nat) (i2 : Int32) (i3 : Int32), f_X8_power_4 i0 i1 M k n i2 i3 = some r → Ev l x false cX8_power RX8 (some FieldType.int) 4 0 0 0 (pI r M) 4 [some (.int i0), some (.int i1), some (.int i2), some (.int i3)] [] LAY M := by
  intro n
  induction n with
  | zero =>
    intro i2 i3 h
    exact nomatch (show (none : Option Int32) = some r from h)
  | succ n ih =>
    intro i2 i3 h
    have h : s_X8_power_4 i0 i1 M k (f_X8_power_4 i0 i1 M k n) i2 i3 = some r := h
    unfold s_X8_power_4 at h
    refine e_iload_n aX8_power_4 rfl ?_
    refine e_iload_n aX8_power_5 rfl ?_
    rcases of_ite h with ⟨hc1, h⟩ | ⟨hc1, h⟩
    · refine e_icmp_ge (tgt := 19) aX8_power_6 (by decide) (fun _ => ?_) (fun q => absurd hc1 q)
      exact K _ _ h
    · refine e_icmp_ge (tgt := 19) aX8_power_6 (by decide) (fun q => absurd q hc1) (fun _ => ?_)
      refine e_iload_n aX8_power_9 rfl ?_
      refine e_iload_n aX8_power_10 rfl ?_
      refine e_imul aX8_power_11 ?_
      obtain ⟨v2, ev2, h⟩ := of_lt h
      refine e_nameI ev2 ?_
      refine e_istore_n (L2 := [some (.int i0), some (.int i1), some (.int v2), some (.int i3)]) aX8_power_12 ⟨by decide, rfl⟩ rfl ?_
      refine e_iinc (v := i3 + 1) (L2 := [some (.int i0), some (.int i1), some (.int v2), some (.int (i3 + 1))]) aX8_power_13 rfl rfl ⟨by decide, rfl⟩ rfl ?_
      refine e_goto (tgt := 4) aX8_power_16 (by decide) ?_
      exact ih _ _ h
def f_X8_power (i0 : Int32) (i1 : Int32) (M : Mem) : Option Int32 :=
  f_X8_power_4 i0 i1 M (fun (i2_1 : Int32) (i3_2 : Int32) =>
    some i2_1) FU 1 0
set_option maxRecDepth 100000 in
set_option maxHeartbeats 4000000 in
theorem c_X8_power (l : Launch) (x : WX) {i0 : Int32} {i1 : Int32} {M : Mem} {r : Int32}  (h : f_X8_power i0 i1 M = some r) : Mt l x false yX8_power cX8_power 4 (some FieldType.int) 0 0 0 [.int i0, .int i1] LAY M (pI r M) := by
  refine mt_of (L0 := [some (.int i0), some (.int i1), none, none]) (by decide +kernel) rfl (Nat.le_of_ble_eq_true rfl) (lvA_of 2 rfl) ?_
  unfold f_X8_power at h
  refine e_iconst (v := 1) aX8_power_0 (by decide) ?_
  refine e_istore_n (L2 := [some (.int i0), some (.int i1), some (.int 1), none]) aX8_power_1 ⟨by decide, rfl⟩ rfl ?_
  refine e_iconst (v := 0) aX8_power_2 (by decide) ?_
  refine e_istore_n (L2 := [some (.int i0), some (.int i1), some (.int 1), some (.int 0)]) aX8_power_3 ⟨by decide, rfl⟩ rfl ?_
  refine w_X8_power_4 l x  (fun i2_1 i3_2 h => ?_) FU _ _ h
  refine e_iload_n aX8_power_19 rfl ?_
  exact e_retI aX8_power_20 rfl rfl (pI_ro h)
def s_X8_isFinite_13 (i2 : Int32) (k : Int32 → Int32 → Mem → Option (Int32 × Mem)) (rec : Int32 → Int32 → Mem → Option (Int32 × Mem)) (i1 : Int32) (i3 : Int32) (M : Mem) : Option (Int32 × Mem) :=
  if i2 ≤ i3 then
    k i1 i3 M
  else
    if i1 = 0 then
      k i1 i3 M
    else
      (f_X8_tries i3 3 M).bind fun (M3 : Mem) =>
      (f_X8_form 192 0 192 0 M3).bind fun (r4 : Int32) =>
      if r4 ≤ 0 then
        rec 0 (i3 + 1) M3
      else
        rec 1 (i3 + 1) M3
def f_X8_isFinite_13 (i2 : Int32) (k : Int32 → Int32 → Mem → Option (Int32 × Mem)) : Nat → Int32 → Int32 → Mem → Option (Int32 × Mem)
  | 0 => fun _ _ _ => none
  | n + 1 => fun i1 i3 M => s_X8_isFinite_13 i2 k (f_X8_isFinite_13 i2 k n) i1 i3 M
set_option maxRecDepth 100000 in
set_option maxHeartbeats 4000000 in
theorem w_X8_isFinite_13 (l : Launch) (x : WX) {i2 : Int32} {k : Int32 → Int32 → Mem → Option (Int32 × Mem)} {r : (Int32 × Mem)}  (K : ∀ (i1 : Int32) (i3 : Int32) (M : Mem), k i1 i3 M = some r → Ev l x false cX8_isFinite RX8 (some FieldType.boolean) 4 1 0 0 (pI r.1 r.2) 57 [some (.ref (x.2.2.1 + 176)), some (.int i1), some (.int i2), some (.int i3)] [] LAY M) : ∀ (n : Nat) (i1 : Int32) (i3 : Int32) (M : Mem), f_X8_isFinite_13 i2 k n i1 i3 M = some r → Ev l x false cX8_isFinite RX8 (some FieldType.boolean) 4 1 0 0 (pI r.1 r.2) 13 [some (.ref (x.2.2.1 + 176)), some (.int i1), some (.int i2), some (.int i3)] [] LAY M := by
  intro n
  induction n with
  | zero =>
    intro i1 i3 M h
    exact nomatch (show (none : Option (Int32 × Mem)) = some r from h)
  | succ n ih =>
    intro i1 i3 M h
    have h : s_X8_isFinite_13 i2 k (f_X8_isFinite_13 i2 k n) i1 i3 M = some r := h
    unfold s_X8_isFinite_13 at h
    refine e_iload_n aX8_isFinite_13 rfl ?_
    refine e_iload_n aX8_isFinite_14 rfl ?_
    rcases of_ite h with ⟨hc1, h⟩ | ⟨hc1, h⟩
    · refine e_icmp_ge (tgt := 57) aX8_isFinite_15 (by decide) (fun _ => ?_) (fun q => absurd hc1 q)
      exact K _ _ _ h
    · refine e_icmp_ge (tgt := 57) aX8_isFinite_15 (by decide) (fun q => absurd q hc1) (fun _ => ?_)
      refine e_iload_n aX8_isFinite_18 rfl ?_
      rcases of_ite h with ⟨hc2, h⟩ | ⟨hc2, h⟩
      · refine e_if_eq (tgt := 57) aX8_isFinite_19 (by decide) (fun _ => ?_) (fun q => absurd hc2 q)
        exact K _ _ _ h
      · refine e_if_eq (tgt := 57) aX8_isFinite_19 (by decide) (fun q => absurd q hc2) (fun _ => ?_)
        refine e_aload_n aX8_isFinite_22 rfl ?_
        refine e_iload_n aX8_isFinite_23 rfl ?_
        refine e_iconst (v := 3) aX8_isFinite_24 (by decide) ?_
        obtain ⟨M3, hM3, h⟩ := of_bind h
        refine e_VV [] aX8_isFinite_25 co_X8_tries mX8_188 ly_176 rfl rfl (c_X8_tries l x hM3) rfl ⟨by decide, by decide⟩ (Nat.le_of_ble_eq_true rfl) rfl ?_
        refine e_aload_n aX8_isFinite_28 rfl ?_
        refine e_aload_n aX8_isFinite_29 rfl ?_
        refine e_getR (r := 192) aX8_isFinite_30 fX8_60 ly_176 rfl ?_
        refine e_iconst (v := 0) aX8_isFinite_33 (by decide) ?_
        refine e_aload_n aX8_isFinite_34 rfl ?_
        refine e_getR (r := 192) aX8_isFinite_35 fX8_60 ly_176 rfl ?_
        refine e_iconst (v := 0) aX8_isFinite_38 (by decide) ?_
        obtain ⟨r4, hr4, h⟩ := of_bind h
        refine e_VI [] aX8_isFinite_39 co_X8_form mX8_191 ly_176 rfl rfl (c_X8_form l x ia_192 ia_192 hr4) rfl ⟨by decide, by decide⟩ (Nat.le_of_ble_eq_true rfl) rfl ?_
        rcases of_ite h with ⟨hc5, h⟩ | ⟨hc5, h⟩
        · refine e_if_le (tgt := 49) aX8_isFinite_42 (by decide) (fun _ => ?_) (fun q => absurd hc5 q)
          refine e_iconst (v := 0) aX8_isFinite_49 (by decide) ?_
          refine e_istore_n (L2 := [some (.ref (x.2.2.1 + 176)), some (.int 0), some (.int i2), some (.int i3)]) aX8_isFinite_50 ⟨by decide, rfl⟩ rfl ?_
          refine e_iinc (v := i3 + 1) (L2 := [some (.ref (x.2.2.1 + 176)), some (.int 0), some (.int i2), some (.int (i3 + 1))]) aX8_isFinite_51 rfl rfl ⟨by decide, rfl⟩ rfl ?_
          refine e_goto (tgt := 13) aX8_isFinite_54 (by decide) ?_
          exact ih _ _ _ h
        · refine e_if_le (tgt := 49) aX8_isFinite_42 (by decide) (fun q => absurd q hc5) (fun _ => ?_)
          refine e_iconst (v := 1) aX8_isFinite_45 (by decide) ?_
          refine e_goto (tgt := 50) aX8_isFinite_46 (by decide) ?_
          refine e_istore_n (L2 := [some (.ref (x.2.2.1 + 176)), some (.int 1), some (.int i2), some (.int i3)]) aX8_isFinite_50 ⟨by decide, rfl⟩ rfl ?_
          refine e_iinc (v := i3 + 1) (L2 := [some (.ref (x.2.2.1 + 176)), some (.int 1), some (.int i2), some (.int (i3 + 1))]) aX8_isFinite_51 rfl rfl ⟨by decide, rfl⟩ rfl ?_
          refine e_goto (tgt := 13) aX8_isFinite_54 (by decide) ?_
          exact ih _ _ _ h
def f_X8_isFinite  (M : Mem) : Option (Int32 × Mem) :=
  (f_X8_power 3 (M 176 0) M).bind fun (r1 : Int32) =>
  f_X8_isFinite_13 r1 (fun (i1_2 : Int32) (i3_3 : Int32) (M4 : Mem) =>
    if ¬ (i1_2 = 0 ∨ i1_2 = 1) then none else
    some (i1_2, M4)) FU 1 1 M
set_option maxRecDepth 100000 in
set_option maxHeartbeats 4000000 in
theorem c_X8_isFinite (l : Launch) (x : WX)  {M : Mem} {r : (Int32 × Mem)}  (h : f_X8_isFinite  M = some r) : Mt l x false yX8_isFinite cX8_isFinite 4 (some FieldType.boolean) 1 0 0 [.ref (x.2.2.1 + 176)] LAY M (pI r.1 r.2) := by
  refine mt_of (L0 := [some (.ref (x.2.2.1 + 176)), none, none, none]) (by decide +kernel) rfl (Nat.le_of_ble_eq_true rfl) (lvA_of 3 rfl) ?_
  unfold f_X8_isFinite at h
  refine e_iconst (v := 1) aX8_isFinite_0 (by decide) ?_
  refine e_istore_n (L2 := [some (.ref (x.2.2.1 + 176)), some (.int 1), none, none]) aX8_isFinite_1 ⟨by decide, rfl⟩ rfl ?_
  refine e_iconst (v := 3) aX8_isFinite_2 (by decide) ?_
  refine e_aload_n aX8_isFinite_3 rfl ?_
  refine e_getI aX8_isFinite_4 fX8_7 ly_176 rfl ?_
  obtain ⟨r1, hr1, h⟩ := of_bind h
  refine e_SI [] aX8_isFinite_7 co_X8_power mX8_185 (c_X8_power l x hr1) rfl ⟨by decide, by decide⟩ (Nat.le_of_ble_eq_true rfl) rfl ?_
  refine e_istore_n (L2 := [some (.ref (x.2.2.1 + 176)), some (.int 1), some (.int r1), none]) aX8_isFinite_10 ⟨by decide, rfl⟩ rfl ?_
  refine e_iconst (v := 1) aX8_isFinite_11 (by decide) ?_
  refine e_istore_n (L2 := [some (.ref (x.2.2.1 + 176)), some (.int 1), some (.int r1), some (.int 1)]) aX8_isFinite_12 ⟨by decide, rfl⟩ rfl ?_
  refine w_X8_isFinite_13 l x  (fun i1_2 i3_3 M4 h => ?_) FU _ _ _ h
  refine e_iload_n aX8_isFinite_57 rfl ?_
  obtain ⟨hg5, h⟩ := of_guard h
  exact e_retI aX8_isFinite_58 rfl (nz_of (Decidable.of_not_not hg5)) (pI_of h)
def s_X8_sumOf_4 (p0 : Nat) (i1 : Int32) (M : Mem) (k : Int32 → Int32 → Option Int32) (rec : Int32 → Int32 → Option Int32) (i2 : Int32) (i3 : Int32) : Option Int32 :=
  if 6 ≤ i3 then
    k i2 i3
  else
    if i1 + i3 < 0 ∨ (alen p0) ≤ (i1 + i3).toNatClampNeg then none else
    lt (i2 + (M p0 (i1 + i3).toNatClampNeg)) fun (v3 : Int32) =>
    rec v3 (i3 + 1)
def f_X8_sumOf_4 (p0 : Nat) (i1 : Int32) (M : Mem) (k : Int32 → Int32 → Option Int32) : Nat → Int32 → Int32 → Option Int32
  | 0 => fun _ _ => none
  | n + 1 => fun i2 i3 => s_X8_sumOf_4 p0 i1 M k (f_X8_sumOf_4 p0 i1 M k n) i2 i3
set_option maxRecDepth 100000 in
set_option maxHeartbeats 4000000 in
theorem w_X8_sumOf_4 (l : Launch) (x : WX) {p0 : Nat} {i1 : Int32} {M : Mem} {k : Int32 → Int32 → Option Int32} {r : Int32} (hp0 : IA p0) (K : ∀ (i2 : Int32) (i3 : Int32), k i2 i3 = some r → Ev l x false cX8_sumOf RX8 (some FieldType.int) 4 0 0 0 (pI r M) 24 [some (.ref (x.2.2.1 + p0)), some (.int i1), some (.int i2), some (.int i3)] [] LAY M) : ∀ (n : Nat) (i2 : Int32) (i3 : Int32), f_X8_sumOf_4 p0 i1 M k n i2 i3 = some r → Ev l x false cX8_sumOf RX8 (some FieldType.int) 4 0 0 0 (pI r M) 4 [some (.ref (x.2.2.1 + p0)), some (.int i1), some (.int i2), some (.int i3)] [] LAY M := by
  intro n
  induction n with
  | zero =>
    intro i2 i3 h
    exact nomatch (show (none : Option Int32) = some r from h)
  | succ n ih =>
    intro i2 i3 h
    have h : s_X8_sumOf_4 p0 i1 M k (f_X8_sumOf_4 p0 i1 M k n) i2 i3 = some r := h
    unfold s_X8_sumOf_4 at h
    refine e_iload_n aX8_sumOf_4 rfl ?_
    refine e_bipush (v := 6) aX8_sumOf_5 (by decide) ?_
    rcases of_ite h with ⟨hc1, h⟩ | ⟨hc1, h⟩
    · refine e_icmp_ge (tgt := 24) aX8_sumOf_7 (by decide) (fun _ => ?_) (fun q => absurd hc1 q)
      exact K _ _ h
    · refine e_icmp_ge (tgt := 24) aX8_sumOf_7 (by decide) (fun q => absurd q hc1) (fun _ => ?_)
      refine e_iload_n aX8_sumOf_10 rfl ?_
      refine e_aload_n aX8_sumOf_11 rfl ?_
      refine e_iload_n aX8_sumOf_12 rfl ?_
      refine e_iload_n aX8_sumOf_13 rfl ?_
      refine e_iadd aX8_sumOf_14 ?_
      obtain ⟨hg2, h⟩ := of_guard h
      refine e_iald aX8_sumOf_15 hp0 hg2 ?_
      refine e_iadd aX8_sumOf_16 ?_
      obtain ⟨v3, ev3, h⟩ := of_lt h
      refine e_nameI ev3 ?_
      refine e_istore_n (L2 := [some (.ref (x.2.2.1 + p0)), some (.int i1), some (.int v3), some (.int i3)]) aX8_sumOf_17 ⟨by decide, rfl⟩ rfl ?_
      refine e_iinc (v := i3 + 1) (L2 := [some (.ref (x.2.2.1 + p0)), some (.int i1), some (.int v3), some (.int (i3 + 1))]) aX8_sumOf_18 rfl rfl ⟨by decide, rfl⟩ rfl ?_
      refine e_goto (tgt := 4) aX8_sumOf_21 (by decide) ?_
      exact ih _ _ h
def f_X8_sumOf (p0 : Nat) (i1 : Int32) (M : Mem) : Option Int32 :=
  f_X8_sumOf_4 p0 i1 M (fun (i2_1 : Int32) (i3_2 : Int32) =>
    some i2_1) FU 0 0
set_option maxRecDepth 100000 in
set_option maxHeartbeats 4000000 in
theorem c_X8_sumOf (l : Launch) (x : WX) {p0 : Nat} {i1 : Int32} {M : Mem} {r : Int32} (hp0 : IA p0) (h : f_X8_sumOf p0 i1 M = some r) : Mt l x false yX8_sumOf cX8_sumOf 4 (some FieldType.int) 0 0 0 [.ref (x.2.2.1 + p0), .int i1] LAY M (pI r M) := by
  refine mt_of (L0 := [some (.ref (x.2.2.1 + p0)), some (.int i1), none, none]) (by decide +kernel) rfl (Nat.le_of_ble_eq_true rfl) (lvA_of 2 rfl) ?_
  unfold f_X8_sumOf at h
  refine e_iconst (v := 0) aX8_sumOf_0 (by decide) ?_
  refine e_istore_n (L2 := [some (.ref (x.2.2.1 + p0)), some (.int i1), some (.int 0), none]) aX8_sumOf_1 ⟨by decide, rfl⟩ rfl ?_
  refine e_iconst (v := 0) aX8_sumOf_2 (by decide) ?_
  refine e_istore_n (L2 := [some (.ref (x.2.2.1 + p0)), some (.int i1), some (.int 0), some (.int 0)]) aX8_sumOf_3 ⟨by decide, rfl⟩ rfl ?_
  refine w_X8_sumOf_4 l x hp0 (fun i2_1 i3_2 h => ?_) FU _ _ h
  refine e_iload_n aX8_sumOf_24 rfl ?_
  exact e_retI aX8_sumOf_25 rfl rfl (pI_ro h)
def s_X8_placesRoot_35 (i1 : Int32) (k : Int32 → Mem → Option Mem) (rec : Int32 → Mem → Option Mem) (i2 : Int32) (M : Mem) : Option Mem :=
  if 6 ≤ i2 then
    k i2 M
  else
    if (6 * (i1 - 1)) + i2 < 0 ∨ 216 ≤ ((6 * (i1 - 1)) + i2).toNatClampNeg then none else
    if (6 * i1) + i2 < 0 ∨ 216 ≤ ((6 * i1) + i2).toNatClampNeg then none else
    lt (um M 184 ((6 * i1) + i2).toNatClampNeg (M 184 ((6 * (i1 - 1)) + i2).toNatClampNeg)) fun (M4 : Mem) =>
    rec (i2 + 1) M4
def f_X8_placesRoot_35 (i1 : Int32) (k : Int32 → Mem → Option Mem) : Nat → Int32 → Mem → Option Mem
  | 0 => fun _ _ => none
  | n + 1 => fun i2 M => s_X8_placesRoot_35 i1 k (f_X8_placesRoot_35 i1 k n) i2 M
set_option maxRecDepth 100000 in
set_option maxHeartbeats 4000000 in
theorem w_X8_placesRoot_35 (l : Launch) (x : WX) {i1 : Int32} {k : Int32 → Mem → Option Mem} {r : Mem}  (K : ∀ (i2 : Int32) (M : Mem), k i2 M = some r → Ev l x false cX8_placesRoot RX8 none 3 1 0 0 (pV r) 71 [some (.ref (x.2.2.1 + 176)), some (.int i1), some (.int i2)] [] LAY M) : ∀ (n : Nat) (i2 : Int32) (M : Mem), f_X8_placesRoot_35 i1 k n i2 M = some r → Ev l x false cX8_placesRoot RX8 none 3 1 0 0 (pV r) 35 [some (.ref (x.2.2.1 + 176)), some (.int i1), some (.int i2)] [] LAY M := by
  intro n
  induction n with
  | zero =>
    intro i2 M h
    exact nomatch (show (none : Option Mem) = some r from h)
  | succ n ih =>
    intro i2 M h
    have h : s_X8_placesRoot_35 i1 k (f_X8_placesRoot_35 i1 k n) i2 M = some r := h
    unfold s_X8_placesRoot_35 at h
    refine e_iload_n aX8_placesRoot_35 rfl ?_
    refine e_bipush (v := 6) aX8_placesRoot_36 (by decide) ?_
    rcases of_ite h with ⟨hc1, h⟩ | ⟨hc1, h⟩
    · refine e_icmp_ge (tgt := 71) aX8_placesRoot_38 (by decide) (fun _ => ?_) (fun q => absurd hc1 q)
      exact K _ _ h
    · refine e_icmp_ge (tgt := 71) aX8_placesRoot_38 (by decide) (fun q => absurd q hc1) (fun _ => ?_)
      refine e_aload_n aX8_placesRoot_41 rfl ?_
      refine e_getR (r := 184) aX8_placesRoot_42 fX8_36 ly_176 rfl ?_
      refine e_bipush (v := 6) aX8_placesRoot_45 (by decide) ?_
      refine e_iload_n aX8_placesRoot_47 rfl ?_
      refine e_imul aX8_placesRoot_48 ?_
      refine e_iload_n aX8_placesRoot_49 rfl ?_
      refine e_iadd aX8_placesRoot_50 ?_
      refine e_aload_n aX8_placesRoot_51 rfl ?_
      refine e_getR (r := 184) aX8_placesRoot_52 fX8_36 ly_176 rfl ?_
      refine e_bipush (v := 6) aX8_placesRoot_55 (by decide) ?_
      refine e_iload_n aX8_placesRoot_57 rfl ?_
      refine e_iconst (v := 1) aX8_placesRoot_58 (by decide) ?_
      refine e_isub aX8_placesRoot_59 ?_
      refine e_imul aX8_placesRoot_60 ?_
      refine e_iload_n aX8_placesRoot_61 rfl ?_
      refine e_iadd aX8_placesRoot_62 ?_
      obtain ⟨hg2, h⟩ := of_guard h
      refine e_iald aX8_placesRoot_63 ly_184 hg2 ?_
      obtain ⟨hg3, h⟩ := of_guard h
      obtain ⟨M4, eM4, h⟩ := of_lt h
      refine e_ist aX8_placesRoot_64 ly_184 hg3 eM4 ?_
      refine e_iinc (v := i2 + 1) (L2 := [some (.ref (x.2.2.1 + 176)), some (.int i1), some (.int (i2 + 1))]) aX8_placesRoot_65 rfl rfl ⟨by decide, rfl⟩ rfl ?_
      refine e_goto (tgt := 35) aX8_placesRoot_68 (by decide) ?_
      exact ih _ _ h
def s_X8_placesRoot_5  (k : Int32 → Mem → Option Mem) (rec : Int32 → Mem → Option Mem) (i1 : Int32) (M : Mem) : Option Mem :=
  if i1 ≤ 0 then
    k i1 M
  else
    (f_X8_sumOf 184 (6 * (i1 - 1)) M).bind fun (r2 : Int32) =>
    (f_X8_sumOf 192 0 M).bind fun (r3 : Int32) =>
    if r2 ≤ r3 then
      k i1 M
    else
      f_X8_placesRoot_35 i1 (fun (i2_5 : Int32) (M6 : Mem) =>
        rec (i1 + (-1)) M6) FU 0 M
def f_X8_placesRoot_5  (k : Int32 → Mem → Option Mem) : Nat → Int32 → Mem → Option Mem
  | 0 => fun _ _ => none
  | n + 1 => fun i1 M => s_X8_placesRoot_5  k (f_X8_placesRoot_5  k n) i1 M
set_option maxRecDepth 100000 in
set_option maxHeartbeats 4000000 in
theorem w_X8_placesRoot_5 (l : Launch) (x : WX)  {k : Int32 → Mem → Option Mem} {r : Mem}  (K : ∀ (i1 : Int32) (M : Mem), k i1 M = some r → Ev l x false cX8_placesRoot RX8 none 3 1 0 0 (pV r) 77 [some (.ref (x.2.2.1 + 176)), some (.int i1), none] [] LAY M) : ∀ (n : Nat) (i1 : Int32) (M : Mem), f_X8_placesRoot_5  k n i1 M = some r → Ev l x false cX8_placesRoot RX8 none 3 1 0 0 (pV r) 5 [some (.ref (x.2.2.1 + 176)), some (.int i1), none] [] LAY M := by
  intro n
  induction n with
  | zero =>
    intro i1 M h
    exact nomatch (show (none : Option Mem) = some r from h)
  | succ n ih =>
    intro i1 M h
    have h : s_X8_placesRoot_5  k (f_X8_placesRoot_5  k n) i1 M = some r := h
    unfold s_X8_placesRoot_5 at h
    refine e_iload_n aX8_placesRoot_5 rfl ?_
    rcases of_ite h with ⟨hc1, h⟩ | ⟨hc1, h⟩
    · refine e_if_le (tgt := 77) aX8_placesRoot_6 (by decide) (fun _ => ?_) (fun q => absurd hc1 q)
      exact K _ _ h
    · refine e_if_le (tgt := 77) aX8_placesRoot_6 (by decide) (fun q => absurd q hc1) (fun _ => ?_)
      refine e_aload_n aX8_placesRoot_9 rfl ?_
      refine e_getR (r := 184) aX8_placesRoot_10 fX8_36 ly_176 rfl ?_
      refine e_bipush (v := 6) aX8_placesRoot_13 (by decide) ?_
      refine e_iload_n aX8_placesRoot_15 rfl ?_
      refine e_iconst (v := 1) aX8_placesRoot_16 (by decide) ?_
      refine e_isub aX8_placesRoot_17 ?_
      refine e_imul aX8_placesRoot_18 ?_
      obtain ⟨r2, hr2, h⟩ := of_bind h
      refine e_SI [] aX8_placesRoot_19 co_X8_sumOf mX8_198 (c_X8_sumOf l x ia_184 hr2) rfl ⟨by decide, by decide⟩ (Nat.le_of_ble_eq_true rfl) rfl ?_
      refine e_aload_n aX8_placesRoot_22 rfl ?_
      refine e_getR (r := 192) aX8_placesRoot_23 fX8_60 ly_176 rfl ?_
      refine e_iconst (v := 0) aX8_placesRoot_26 (by decide) ?_
      obtain ⟨r3, hr3, h⟩ := of_bind h
      refine e_SI [.int r2] aX8_placesRoot_27 co_X8_sumOf mX8_198 (c_X8_sumOf l x ia_192 hr3) rfl ⟨by decide, by decide⟩ (Nat.le_of_ble_eq_true rfl) rfl ?_
      rcases of_ite h with ⟨hc4, h⟩ | ⟨hc4, h⟩
      · refine e_icmp_le (tgt := 77) aX8_placesRoot_30 (by decide) (fun _ => ?_) (fun q => absurd hc4 q)
        exact K _ _ h
      · refine e_icmp_le (tgt := 77) aX8_placesRoot_30 (by decide) (fun q => absurd q hc4) (fun _ => ?_)
        refine e_iconst (v := 0) aX8_placesRoot_33 (by decide) ?_
        refine e_istore_n (L2 := [some (.ref (x.2.2.1 + 176)), some (.int i1), some (.int 0)]) aX8_placesRoot_34 ⟨by decide, rfl⟩ rfl ?_
        refine w_X8_placesRoot_35 l x  (fun i2_5 M6 h => ?_) FU _ _ h
        refine e_iinc (v := i1 + (-1)) (L2 := [some (.ref (x.2.2.1 + 176)), some (.int (i1 + (-1))), some (.int i2_5)]) aX8_placesRoot_71 rfl rfl ⟨by decide, rfl⟩ rfl ?_
        refine e_goto (tgt := 5) aX8_placesRoot_74 (by decide) ?_
        refine e_drop 2 (L2 := [some (.ref (x.2.2.1 + 176)), some (.int (i1 + (-1))), none]) rfl ?_
        exact ih _ _ h
def s_X8_placesRoot_79 (i1 : Int32) (k : Int32 → Mem → Option Mem) (rec : Int32 → Mem → Option Mem) (i2 : Int32) (M : Mem) : Option Mem :=
  if 6 ≤ i2 then
    k i2 M
  else
    if i2 < 0 ∨ 6 ≤ i2.toNatClampNeg then none else
    if (6 * i1) + i2 < 0 ∨ 216 ≤ ((6 * i1) + i2).toNatClampNeg then none else
    lt (um M 184 ((6 * i1) + i2).toNatClampNeg (M 192 i2.toNatClampNeg)) fun (M4 : Mem) =>
    rec (i2 + 1) M4
def f_X8_placesRoot_79 (i1 : Int32) (k : Int32 → Mem → Option Mem) : Nat → Int32 → Mem → Option Mem
  | 0 => fun _ _ => none
  | n + 1 => fun i2 M => s_X8_placesRoot_79 i1 k (f_X8_placesRoot_79 i1 k n) i2 M
set_option maxRecDepth 100000 in
set_option maxHeartbeats 4000000 in
theorem w_X8_placesRoot_79 (l : Launch) (x : WX) {i1 : Int32} {k : Int32 → Mem → Option Mem} {r : Mem}  (K : ∀ (i2 : Int32) (M : Mem), k i2 M = some r → Ev l x false cX8_placesRoot RX8 none 3 1 0 0 (pV r) 108 [some (.ref (x.2.2.1 + 176)), some (.int i1), some (.int i2)] [] LAY M) : ∀ (n : Nat) (i2 : Int32) (M : Mem), f_X8_placesRoot_79 i1 k n i2 M = some r → Ev l x false cX8_placesRoot RX8 none 3 1 0 0 (pV r) 79 [some (.ref (x.2.2.1 + 176)), some (.int i1), some (.int i2)] [] LAY M := by
  intro n
  induction n with
  | zero =>
    intro i2 M h
    exact nomatch (show (none : Option Mem) = some r from h)
  | succ n ih =>
    intro i2 M h
    have h : s_X8_placesRoot_79 i1 k (f_X8_placesRoot_79 i1 k n) i2 M = some r := h
    unfold s_X8_placesRoot_79 at h
    refine e_iload_n aX8_placesRoot_79 rfl ?_
    refine e_bipush (v := 6) aX8_placesRoot_80 (by decide) ?_
    rcases of_ite h with ⟨hc1, h⟩ | ⟨hc1, h⟩
    · refine e_icmp_ge (tgt := 108) aX8_placesRoot_82 (by decide) (fun _ => ?_) (fun q => absurd hc1 q)
      exact K _ _ h
    · refine e_icmp_ge (tgt := 108) aX8_placesRoot_82 (by decide) (fun q => absurd q hc1) (fun _ => ?_)
      refine e_aload_n aX8_placesRoot_85 rfl ?_
      refine e_getR (r := 184) aX8_placesRoot_86 fX8_36 ly_176 rfl ?_
      refine e_bipush (v := 6) aX8_placesRoot_89 (by decide) ?_
      refine e_iload_n aX8_placesRoot_91 rfl ?_
      refine e_imul aX8_placesRoot_92 ?_
      refine e_iload_n aX8_placesRoot_93 rfl ?_
      refine e_iadd aX8_placesRoot_94 ?_
      refine e_aload_n aX8_placesRoot_95 rfl ?_
      refine e_getR (r := 192) aX8_placesRoot_96 fX8_60 ly_176 rfl ?_
      refine e_iload_n aX8_placesRoot_99 rfl ?_
      obtain ⟨hg2, h⟩ := of_guard h
      refine e_iald aX8_placesRoot_100 ly_192 hg2 ?_
      obtain ⟨hg3, h⟩ := of_guard h
      obtain ⟨M4, eM4, h⟩ := of_lt h
      refine e_ist aX8_placesRoot_101 ly_184 hg3 eM4 ?_
      refine e_iinc (v := i2 + 1) (L2 := [some (.ref (x.2.2.1 + 176)), some (.int i1), some (.int (i2 + 1))]) aX8_placesRoot_102 rfl rfl ⟨by decide, rfl⟩ rfl ?_
      refine e_goto (tgt := 79) aX8_placesRoot_105 (by decide) ?_
      exact ih _ _ h
def f_X8_placesRoot  (M : Mem) : Option Mem :=
  lt (M 176 12) fun (v1 : Int32) =>
  f_X8_placesRoot_5  (fun (i1_2 : Int32) (M3 : Mem) =>
    f_X8_placesRoot_79 i1_2 (fun (i2_4 : Int32) (M5 : Mem) =>
      lt (um M5 176 12 ((M5 176 12) + 1)) fun (M6 : Mem) =>
      some M6) FU 0 M3) FU v1 M
set_option maxRecDepth 100000 in
set_option maxHeartbeats 4000000 in
theorem c_X8_placesRoot (l : Launch) (x : WX)  {M : Mem} {r : Mem}  (h : f_X8_placesRoot  M = some r) : Mt l x false yX8_placesRoot cX8_placesRoot 3 none 1 0 0 [.ref (x.2.2.1 + 176)] LAY M (pV r) := by
  refine mt_of (L0 := [some (.ref (x.2.2.1 + 176)), none, none]) (by decide +kernel) rfl (Nat.le_of_ble_eq_true rfl) (lvA_of 2 rfl) ?_
  unfold f_X8_placesRoot at h
  refine e_aload_n aX8_placesRoot_0 rfl ?_
  refine e_getI aX8_placesRoot_1 fX8_195 ly_176 rfl ?_
  obtain ⟨v1, ev1, h⟩ := of_lt h
  refine e_nameI ev1 ?_
  refine e_istore_n (L2 := [some (.ref (x.2.2.1 + 176)), some (.int v1), none]) aX8_placesRoot_4 ⟨by decide, rfl⟩ rfl ?_
  refine w_X8_placesRoot_5 l x  (fun i1_2 M3 h => ?_) FU _ _ h
  refine e_iconst (v := 0) aX8_placesRoot_77 (by decide) ?_
  refine e_istore_n (L2 := [some (.ref (x.2.2.1 + 176)), some (.int i1_2), some (.int 0)]) aX8_placesRoot_78 ⟨by decide, rfl⟩ rfl ?_
  refine w_X8_placesRoot_79 l x  (fun i2_4 M5 h => ?_) FU _ _ h
  refine e_aload_n aX8_placesRoot_108 rfl ?_
  refine e_dupR aX8_placesRoot_109 ?_
  refine e_getI aX8_placesRoot_110 fX8_195 ly_176 rfl ?_
  refine e_iconst (v := 1) aX8_placesRoot_113 (by decide) ?_
  refine e_iadd aX8_placesRoot_114 ?_
  obtain ⟨M6, eM6, h⟩ := of_lt h
  refine e_put aX8_placesRoot_115 qX8_195 ly_176 rfl (fi_of _) eM6 ?_
  exact e_ret0 aX8_placesRoot_118 rfl (pV_of h)
def s_X8_tauOf_19 (i1 : Int32) (i2 : Int32) (i3 : Int32) (M : Mem) (k : Int32 → Int32 → Option Int32) (rec : Int32 → Int32 → Option Int32) (i4 : Int32) (i5 : Int32) : Option Int32 :=
  if M 176 0 ≤ i5 then
    k i4 i5
  else
    if i4 = 0 then
      k i4 i5
    else
      (f_X8_form 186 (6 * i5) 184 (6 * i3) M).bind fun (r3 : Int32) =>
      (f_X8_form 184 (6 * i1) 186 (6 * i5) M).bind fun (r4 : Int32) =>
      if r3 + r4 = 0 then
        rec 1 (i5 + 1)
      else
        rec 0 (i5 + 1)
def f_X8_tauOf_19 (i1 : Int32) (i2 : Int32) (i3 : Int32) (M : Mem) (k : Int32 → Int32 → Option Int32) : Nat → Int32 → Int32 → Option Int32
  | 0 => fun _ _ => none
  | n + 1 => fun i4 i5 => s_X8_tauOf_19 i1 i2 i3 M k (f_X8_tauOf_19 i1 i2 i3 M k n) i4 i5
set_option maxRecDepth 100000 in
set_option maxHeartbeats 4000000 in
theorem w_X8_tauOf_19 (l : Launch) (x : WX) {i1 : Int32} {i2 : Int32} {i3 : Int32} {M : Mem} {k : Int32 → Int32 → Option Int32} {r : Int32}  (K : ∀ (i4 : Int32) (i5 : Int32), k i4 i5 = some r → Ev l x false cX8_tauOf RX8 (some FieldType.int) 6 1 0 0 (pI r M) 92 [some (.ref (x.2.2.1 + 176)), some (.int i1), some (.int i2), some (.int i3), some (.int i4), some (.int i5)] [] LAY M) : ∀ (n : Nat) (i4 : Int32) (i5 : Int32), f_X8_tauOf_19 i1 i2 i3 M k n i4 i5 = some r → Ev l x false cX8_tauOf RX8 (some FieldType.int) 6 1 0 0 (pI r M) 19 [some (.ref (x.2.2.1 + 176)), some (.int i1), some (.int i2), some (.int i3), some (.int i4), some (.int i5)] [] LAY M := by
  intro n
  induction n with
  | zero =>
    intro i4 i5 h
    exact nomatch (show (none : Option Int32) = some r from h)
  | succ n ih =>
    intro i4 i5 h
    have h : s_X8_tauOf_19 i1 i2 i3 M k (f_X8_tauOf_19 i1 i2 i3 M k n) i4 i5 = some r := h
    unfold s_X8_tauOf_19 at h
    refine e_iload aX8_tauOf_19 rfl ?_
    refine e_aload_n aX8_tauOf_21 rfl ?_
    refine e_getI aX8_tauOf_22 fX8_7 ly_176 rfl ?_
    rcases of_ite h with ⟨hc1, h⟩ | ⟨hc1, h⟩
    · refine e_icmp_ge (tgt := 92) aX8_tauOf_25 (by decide) (fun _ => ?_) (fun q => absurd hc1 q)
      exact K _ _ h
    · refine e_icmp_ge (tgt := 92) aX8_tauOf_25 (by decide) (fun q => absurd q hc1) (fun _ => ?_)
      refine e_iload aX8_tauOf_28 rfl ?_
      rcases of_ite h with ⟨hc2, h⟩ | ⟨hc2, h⟩
      · refine e_if_eq (tgt := 92) aX8_tauOf_30 (by decide) (fun _ => ?_) (fun q => absurd hc2 q)
        exact K _ _ h
      · refine e_if_eq (tgt := 92) aX8_tauOf_30 (by decide) (fun q => absurd q hc2) (fun _ => ?_)
        refine e_aload_n aX8_tauOf_33 rfl ?_
        refine e_aload_n aX8_tauOf_34 rfl ?_
        refine e_getR (r := 186) aX8_tauOf_35 fX8_42 ly_176 rfl ?_
        refine e_bipush (v := 6) aX8_tauOf_38 (by decide) ?_
        refine e_iload aX8_tauOf_40 rfl ?_
        refine e_imul aX8_tauOf_42 ?_
        refine e_aload_n aX8_tauOf_43 rfl ?_
        refine e_getR (r := 184) aX8_tauOf_44 fX8_36 ly_176 rfl ?_
        refine e_bipush (v := 6) aX8_tauOf_47 (by decide) ?_
        refine e_iload_n aX8_tauOf_49 rfl ?_
        refine e_imul aX8_tauOf_50 ?_
        obtain ⟨r3, hr3, h⟩ := of_bind h
        refine e_VI [] aX8_tauOf_51 co_X8_form mX8_191 ly_176 rfl rfl (c_X8_form l x ia_186 ia_184 hr3) rfl ⟨by decide, by decide⟩ (Nat.le_of_ble_eq_true rfl) rfl ?_
        refine e_aload_n aX8_tauOf_54 rfl ?_
        refine e_aload_n aX8_tauOf_55 rfl ?_
        refine e_getR (r := 184) aX8_tauOf_56 fX8_36 ly_176 rfl ?_
        refine e_bipush (v := 6) aX8_tauOf_59 (by decide) ?_
        refine e_iload_n aX8_tauOf_61 rfl ?_
        refine e_imul aX8_tauOf_62 ?_
        refine e_aload_n aX8_tauOf_63 rfl ?_
        refine e_getR (r := 186) aX8_tauOf_64 fX8_42 ly_176 rfl ?_
        refine e_bipush (v := 6) aX8_tauOf_67 (by decide) ?_
        refine e_iload aX8_tauOf_69 rfl ?_
        refine e_imul aX8_tauOf_71 ?_
        obtain ⟨r4, hr4, h⟩ := of_bind h
        refine e_VI [.int r3] aX8_tauOf_72 co_X8_form mX8_191 ly_176 rfl rfl (c_X8_form l x ia_184 ia_186 hr4) rfl ⟨by decide, by decide⟩ (Nat.le_of_ble_eq_true rfl) rfl ?_
        refine e_iadd aX8_tauOf_75 ?_
        rcases of_ite h with ⟨hc5, h⟩ | ⟨hc5, h⟩
        · refine e_if_ne (tgt := 83) aX8_tauOf_76 (by decide) (fun q => absurd hc5 q) (fun _ => ?_)
          refine e_iconst (v := 1) aX8_tauOf_79 (by decide) ?_
          refine e_goto (tgt := 84) aX8_tauOf_80 (by decide) ?_
          refine e_istore (L2 := [some (.ref (x.2.2.1 + 176)), some (.int i1), some (.int i2), some (.int i3), some (.int 1), some (.int i5)]) aX8_tauOf_84 ⟨by decide, rfl⟩ rfl ?_
          refine e_iinc (v := i5 + 1) (L2 := [some (.ref (x.2.2.1 + 176)), some (.int i1), some (.int i2), some (.int i3), some (.int 1), some (.int (i5 + 1))]) aX8_tauOf_86 rfl rfl ⟨by decide, rfl⟩ rfl ?_
          refine e_goto (tgt := 19) aX8_tauOf_89 (by decide) ?_
          exact ih _ _ h
        · refine e_if_ne (tgt := 83) aX8_tauOf_76 (by decide) (fun _ => ?_) (fun q => absurd q hc5)
          refine e_iconst (v := 0) aX8_tauOf_83 (by decide) ?_
          refine e_istore (L2 := [some (.ref (x.2.2.1 + 176)), some (.int i1), some (.int i2), some (.int i3), some (.int 0), some (.int i5)]) aX8_tauOf_84 ⟨by decide, rfl⟩ rfl ?_
          refine e_iinc (v := i5 + 1) (L2 := [some (.ref (x.2.2.1 + 176)), some (.int i1), some (.int i2), some (.int i3), some (.int 0), some (.int (i5 + 1))]) aX8_tauOf_86 rfl rfl ⟨by decide, rfl⟩ rfl ?_
          refine e_goto (tgt := 19) aX8_tauOf_89 (by decide) ?_
          exact ih _ _ h
def s_X8_tauOf_5 (i1 : Int32) (M : Mem) (k : Int32 → Int32 → Option Int32) (rec : Int32 → Int32 → Option Int32) (i2 : Int32) (i3 : Int32) : Option Int32 :=
  if M 176 12 ≤ i3 then
    k i2 i3
  else
    f_X8_tauOf_19 i1 i2 i3 M (fun (i4_2 : Int32) (i5_3 : Int32) =>
      if i4_2 = 0 then
        rec i2 (i3 + 1)
      else
        rec i3 (i3 + 1)) FU 1 0
def f_X8_tauOf_5 (i1 : Int32) (M : Mem) (k : Int32 → Int32 → Option Int32) : Nat → Int32 → Int32 → Option Int32
  | 0 => fun _ _ => none
  | n + 1 => fun i2 i3 => s_X8_tauOf_5 i1 M k (f_X8_tauOf_5 i1 M k n) i2 i3
set_option maxRecDepth 100000 in
set_option maxHeartbeats 4000000 in
theorem w_X8_tauOf_5 (l : Launch) (x : WX) {i1 : Int32} {M : Mem} {k : Int32 → Int32 → Option Int32} {r : Int32}  (K : ∀ (i2 : Int32) (i3 : Int32), k i2 i3 = some r → Ev l x false cX8_tauOf RX8 (some FieldType.int) 6 1 0 0 (pI r M) 109 [some (.ref (x.2.2.1 + 176)), some (.int i1), some (.int i2), some (.int i3), none, none] [] LAY M) : ∀ (n : Nat) (i2 : Int32) (i3 : Int32), f_X8_tauOf_5 i1 M k n i2 i3 = some r → Ev l x false cX8_tauOf RX8 (some FieldType.int) 6 1 0 0 (pI r M) 5 [some (.ref (x.2.2.1 + 176)), some (.int i1), some (.int i2), some (.int i3), none, none] [] LAY M := by
  intro n
  induction n with
  | zero =>
    intro i2 i3 h
    exact nomatch (show (none : Option Int32) = some r from h)
  | succ n ih =>
    intro i2 i3 h
    have h : s_X8_tauOf_5 i1 M k (f_X8_tauOf_5 i1 M k n) i2 i3 = some r := h
    unfold s_X8_tauOf_5 at h
    refine e_iload_n aX8_tauOf_5 rfl ?_
    refine e_aload_n aX8_tauOf_6 rfl ?_
    refine e_getI aX8_tauOf_7 fX8_195 ly_176 rfl ?_
    rcases of_ite h with ⟨hc1, h⟩ | ⟨hc1, h⟩
    · refine e_icmp_ge (tgt := 109) aX8_tauOf_10 (by decide) (fun _ => ?_) (fun q => absurd hc1 q)
      exact K _ _ h
    · refine e_icmp_ge (tgt := 109) aX8_tauOf_10 (by decide) (fun q => absurd q hc1) (fun _ => ?_)
      refine e_iconst (v := 1) aX8_tauOf_13 (by decide) ?_
      refine e_istore (L2 := [some (.ref (x.2.2.1 + 176)), some (.int i1), some (.int i2), some (.int i3), some (.int 1), none]) aX8_tauOf_14 ⟨by decide, rfl⟩ rfl ?_
      refine e_iconst (v := 0) aX8_tauOf_16 (by decide) ?_
      refine e_istore (L2 := [some (.ref (x.2.2.1 + 176)), some (.int i1), some (.int i2), some (.int i3), some (.int 1), some (.int 0)]) aX8_tauOf_17 ⟨by decide, rfl⟩ rfl ?_
      refine w_X8_tauOf_19 l x  (fun i4_2 i5_3 h => ?_) FU _ _ h
      refine e_iload aX8_tauOf_92 rfl ?_
      rcases of_ite h with ⟨hc4, h⟩ | ⟨hc4, h⟩
      · refine e_if_eq (tgt := 101) aX8_tauOf_94 (by decide) (fun _ => ?_) (fun q => absurd hc4 q)
        refine e_iload_n aX8_tauOf_101 rfl ?_
        refine e_istore_n (L2 := [some (.ref (x.2.2.1 + 176)), some (.int i1), some (.int i2), some (.int i3), some (.int i4_2), some (.int i5_3)]) aX8_tauOf_102 ⟨by decide, rfl⟩ rfl ?_
        refine e_iinc (v := i3 + 1) (L2 := [some (.ref (x.2.2.1 + 176)), some (.int i1), some (.int i2), some (.int (i3 + 1)), some (.int i4_2), some (.int i5_3)]) aX8_tauOf_103 rfl rfl ⟨by decide, rfl⟩ rfl ?_
        refine e_goto (tgt := 5) aX8_tauOf_106 (by decide) ?_
        refine e_drop 4 (L2 := [some (.ref (x.2.2.1 + 176)), some (.int i1), some (.int i2), some (.int (i3 + 1)), none, some (.int i5_3)]) rfl ?_
        refine e_drop 5 (L2 := [some (.ref (x.2.2.1 + 176)), some (.int i1), some (.int i2), some (.int (i3 + 1)), none, none]) rfl ?_
        exact ih _ _ h
      · refine e_if_eq (tgt := 101) aX8_tauOf_94 (by decide) (fun q => absurd q hc4) (fun _ => ?_)
        refine e_iload_n aX8_tauOf_97 rfl ?_
        refine e_goto (tgt := 102) aX8_tauOf_98 (by decide) ?_
        refine e_istore_n (L2 := [some (.ref (x.2.2.1 + 176)), some (.int i1), some (.int i3), some (.int i3), some (.int i4_2), some (.int i5_3)]) aX8_tauOf_102 ⟨by decide, rfl⟩ rfl ?_
        refine e_iinc (v := i3 + 1) (L2 := [some (.ref (x.2.2.1 + 176)), some (.int i1), some (.int i3), some (.int (i3 + 1)), some (.int i4_2), some (.int i5_3)]) aX8_tauOf_103 rfl rfl ⟨by decide, rfl⟩ rfl ?_
        refine e_goto (tgt := 5) aX8_tauOf_106 (by decide) ?_
        refine e_drop 4 (L2 := [some (.ref (x.2.2.1 + 176)), some (.int i1), some (.int i3), some (.int (i3 + 1)), none, some (.int i5_3)]) rfl ?_
        refine e_drop 5 (L2 := [some (.ref (x.2.2.1 + 176)), some (.int i1), some (.int i3), some (.int (i3 + 1)), none, none]) rfl ?_
        exact ih _ _ h
def f_X8_tauOf (i1 : Int32) (M : Mem) : Option Int32 :=
  f_X8_tauOf_5 i1 M (fun (i2_1 : Int32) (i3_2 : Int32) =>
    some i2_1) FU (-1000000) 0
set_option maxRecDepth 100000 in
set_option maxHeartbeats 4000000 in
theorem c_X8_tauOf (l : Launch) (x : WX) {i1 : Int32} {M : Mem} {r : Int32}  (h : f_X8_tauOf i1 M = some r) : Mt l x false yX8_tauOf cX8_tauOf 6 (some FieldType.int) 1 0 0 [.ref (x.2.2.1 + 176), .int i1] LAY M (pI r M) := by
  refine mt_of (L0 := [some (.ref (x.2.2.1 + 176)), some (.int i1), none, none, none, none]) (by decide +kernel) rfl (Nat.le_of_ble_eq_true rfl) (lvA_of 4 rfl) ?_
  unfold f_X8_tauOf at h
  refine e_ldc aX8_tauOf_0 kX8_240 ?_
  refine e_istore_n (L2 := [some (.ref (x.2.2.1 + 176)), some (.int i1), some (.int (-1000000)), none, none, none]) aX8_tauOf_2 ⟨by decide, rfl⟩ rfl ?_
  refine e_iconst (v := 0) aX8_tauOf_3 (by decide) ?_
  refine e_istore_n (L2 := [some (.ref (x.2.2.1 + 176)), some (.int i1), some (.int (-1000000)), some (.int 0), none, none]) aX8_tauOf_4 ⟨by decide, rfl⟩ rfl ?_
  refine w_X8_tauOf_5 l x  (fun i2_1 i3_2 h => ?_) FU _ _ h
  refine e_iload_n aX8_tauOf_109 rfl ?_
  exact e_retI aX8_tauOf_110 rfl rfl (pI_ro h)
def s_X8_knows_19  (k : Int32 → Mem → Option Mem) (rec : Int32 → Mem → Option Mem) (i1 : Int32) (M : Mem) : Option Mem :=
  if 6 ≤ i1 then
    k i1 M
  else
    if i1 < 0 ∨ 6 ≤ i1.toNatClampNeg then none else
    lt (um M 192 i1.toNatClampNeg 0) fun (M3 : Mem) =>
    rec (i1 + 1) M3
def f_X8_knows_19  (k : Int32 → Mem → Option Mem) : Nat → Int32 → Mem → Option Mem
  | 0 => fun _ _ => none
  | n + 1 => fun i1 M => s_X8_knows_19  k (f_X8_knows_19  k n) i1 M
set_option maxRecDepth 100000 in
set_option maxHeartbeats 4000000 in
theorem w_X8_knows_19 (l : Launch) (x : WX)  {k : Int32 → Mem → Option Mem} {r : Mem}  (K : ∀ (i1 : Int32) (M : Mem), k i1 M = some r → Ev l x false cX8_knows RX8 none 2 2 0 0 (pV r) 38 [some (.ref (x.2.2.1 + 176)), some (.int i1)] [] LAY M) : ∀ (n : Nat) (i1 : Int32) (M : Mem), f_X8_knows_19  k n i1 M = some r → Ev l x false cX8_knows RX8 none 2 2 0 0 (pV r) 19 [some (.ref (x.2.2.1 + 176)), some (.int i1)] [] LAY M := by
  intro n
  induction n with
  | zero =>
    intro i1 M h
    exact nomatch (show (none : Option Mem) = some r from h)
  | succ n ih =>
    intro i1 M h
    have h : s_X8_knows_19  k (f_X8_knows_19  k n) i1 M = some r := h
    unfold s_X8_knows_19 at h
    refine e_iload_n aX8_knows_19 rfl ?_
    refine e_bipush (v := 6) aX8_knows_20 (by decide) ?_
    rcases of_ite h with ⟨hc1, h⟩ | ⟨hc1, h⟩
    · refine e_icmp_ge (tgt := 38) aX8_knows_22 (by decide) (fun _ => ?_) (fun q => absurd hc1 q)
      exact K _ _ h
    · refine e_icmp_ge (tgt := 38) aX8_knows_22 (by decide) (fun q => absurd q hc1) (fun _ => ?_)
      refine e_aload_n aX8_knows_25 rfl ?_
      refine e_getR (r := 192) aX8_knows_26 fX8_60 ly_176 rfl ?_
      refine e_iload_n aX8_knows_29 rfl ?_
      refine e_iconst (v := 0) aX8_knows_30 (by decide) ?_
      obtain ⟨hg2, h⟩ := of_guard h
      obtain ⟨M3, eM3, h⟩ := of_lt h
      refine e_ist aX8_knows_31 ly_192 hg2 eM3 ?_
      refine e_iinc (v := i1 + 1) (L2 := [some (.ref (x.2.2.1 + 176)), some (.int (i1 + 1))]) aX8_knows_32 rfl rfl ⟨by decide, rfl⟩ rfl ?_
      refine e_goto (tgt := 19) aX8_knows_35 (by decide) ?_
      exact ih _ _ h
def s_X8_knows_67  (k : Int32 → Mem → Option Mem) (rec : Int32 → Mem → Option Mem) (i1 : Int32) (M : Mem) : Option Mem :=
  if i1 ≤ 0 then
    k i1 M
  else
    (f_X8_tries i1 4 M).bind fun (M2 : Mem) =>
    (f_X8_form 192 0 192 0 M2).bind fun (r3 : Int32) =>
    if r3 = 1 then
      if 36 ≤ M2 176 12 then
        rec (i1 + (-1)) M2
      else
        (f_X8_placesRoot M2).bind fun (M6 : Mem) =>
        rec (i1 + (-1)) M6
    else
      rec (i1 + (-1)) M2
def f_X8_knows_67  (k : Int32 → Mem → Option Mem) : Nat → Int32 → Mem → Option Mem
  | 0 => fun _ _ => none
  | n + 1 => fun i1 M => s_X8_knows_67  k (f_X8_knows_67  k n) i1 M
set_option maxRecDepth 100000 in
set_option maxHeartbeats 4000000 in
theorem w_X8_knows_67 (l : Launch) (x : WX)  {k : Int32 → Mem → Option Mem} {r : Mem}  (K : ∀ (i1 : Int32) (M : Mem), k i1 M = some r → Ev l x false cX8_knows RX8 none 2 2 0 0 (pV r) 114 [some (.ref (x.2.2.1 + 176)), some (.int i1)] [] LAY M) : ∀ (n : Nat) (i1 : Int32) (M : Mem), f_X8_knows_67  k n i1 M = some r → Ev l x false cX8_knows RX8 none 2 2 0 0 (pV r) 67 [some (.ref (x.2.2.1 + 176)), some (.int i1)] [] LAY M := by
  intro n
  induction n with
  | zero =>
    intro i1 M h
    exact nomatch (show (none : Option Mem) = some r from h)
  | succ n ih =>
    intro i1 M h
    have h : s_X8_knows_67  k (f_X8_knows_67  k n) i1 M = some r := h
    unfold s_X8_knows_67 at h
    refine e_iload_n aX8_knows_67 rfl ?_
    rcases of_ite h with ⟨hc1, h⟩ | ⟨hc1, h⟩
    · refine e_if_le (tgt := 114) aX8_knows_68 (by decide) (fun _ => ?_) (fun q => absurd hc1 q)
      exact K _ _ h
    · refine e_if_le (tgt := 114) aX8_knows_68 (by decide) (fun q => absurd q hc1) (fun _ => ?_)
      refine e_aload_n aX8_knows_71 rfl ?_
      refine e_iload_n aX8_knows_72 rfl ?_
      refine e_iconst (v := 4) aX8_knows_73 (by decide) ?_
      obtain ⟨M2, hM2, h⟩ := of_bind h
      refine e_VV [] aX8_knows_74 co_X8_tries mX8_188 ly_176 rfl rfl (c_X8_tries l x hM2) rfl ⟨by decide, by decide⟩ (Nat.le_of_ble_eq_true rfl) rfl ?_
      refine e_aload_n aX8_knows_77 rfl ?_
      refine e_aload_n aX8_knows_78 rfl ?_
      refine e_getR (r := 192) aX8_knows_79 fX8_60 ly_176 rfl ?_
      refine e_iconst (v := 0) aX8_knows_82 (by decide) ?_
      refine e_aload_n aX8_knows_83 rfl ?_
      refine e_getR (r := 192) aX8_knows_84 fX8_60 ly_176 rfl ?_
      refine e_iconst (v := 0) aX8_knows_87 (by decide) ?_
      obtain ⟨r3, hr3, h⟩ := of_bind h
      refine e_VI [] aX8_knows_88 co_X8_form mX8_191 ly_176 rfl rfl (c_X8_form l x ia_192 ia_192 hr3) rfl ⟨by decide, by decide⟩ (Nat.le_of_ble_eq_true rfl) rfl ?_
      refine e_iconst (v := 1) aX8_knows_91 (by decide) ?_
      rcases of_ite h with ⟨hc4, h⟩ | ⟨hc4, h⟩
      · refine e_icmp_ne (tgt := 108) aX8_knows_92 (by decide) (fun q => absurd hc4 q) (fun _ => ?_)
        refine e_aload_n aX8_knows_95 rfl ?_
        refine e_getI aX8_knows_96 fX8_195 ly_176 rfl ?_
        refine e_bipush (v := 36) aX8_knows_99 (by decide) ?_
        rcases of_ite h with ⟨hc5, h⟩ | ⟨hc5, h⟩
        · refine e_icmp_ge (tgt := 108) aX8_knows_101 (by decide) (fun _ => ?_) (fun q => absurd hc5 q)
          refine e_iinc (v := i1 + (-1)) (L2 := [some (.ref (x.2.2.1 + 176)), some (.int (i1 + (-1)))]) aX8_knows_108 rfl rfl ⟨by decide, rfl⟩ rfl ?_
          refine e_goto (tgt := 67) aX8_knows_111 (by decide) ?_
          exact ih _ _ h
        · refine e_icmp_ge (tgt := 108) aX8_knows_101 (by decide) (fun q => absurd q hc5) (fun _ => ?_)
          refine e_aload_n aX8_knows_104 rfl ?_
          obtain ⟨M6, hM6, h⟩ := of_bind h
          refine e_VV [] aX8_knows_105 co_X8_placesRoot mX8_208 ly_176 rfl rfl (c_X8_placesRoot l x hM6) rfl ⟨by decide, by decide⟩ (Nat.le_of_ble_eq_true rfl) rfl ?_
          refine e_iinc (v := i1 + (-1)) (L2 := [some (.ref (x.2.2.1 + 176)), some (.int (i1 + (-1)))]) aX8_knows_108 rfl rfl ⟨by decide, rfl⟩ rfl ?_
          refine e_goto (tgt := 67) aX8_knows_111 (by decide) ?_
          exact ih _ _ h
      · refine e_icmp_ne (tgt := 108) aX8_knows_92 (by decide) (fun _ => ?_) (fun q => absurd q hc4)
        refine e_iinc (v := i1 + (-1)) (L2 := [some (.ref (x.2.2.1 + 176)), some (.int (i1 + (-1)))]) aX8_knows_108 rfl rfl ⟨by decide, rfl⟩ rfl ?_
        refine e_goto (tgt := 67) aX8_knows_111 (by decide) ?_
        exact ih _ _ h
def s_X8_knows_116  (k : Int32 → Mem → Option Mem) (rec : Int32 → Mem → Option Mem) (i1 : Int32) (M : Mem) : Option Mem :=
  if M 176 12 ≤ i1 then
    k i1 M
  else
    (f_X8_tauOf i1 M).bind fun (r2 : Int32) =>
    if i1 < 0 ∨ 36 ≤ i1.toNatClampNeg then none else
    lt (um M 185 i1.toNatClampNeg r2) fun (M4 : Mem) =>
    rec (i1 + 1) M4
def f_X8_knows_116  (k : Int32 → Mem → Option Mem) : Nat → Int32 → Mem → Option Mem
  | 0 => fun _ _ => none
  | n + 1 => fun i1 M => s_X8_knows_116  k (f_X8_knows_116  k n) i1 M
set_option maxRecDepth 100000 in
set_option maxHeartbeats 4000000 in
theorem w_X8_knows_116 (l : Launch) (x : WX)  {k : Int32 → Mem → Option Mem} {r : Mem}  (K : ∀ (i1 : Int32) (M : Mem), k i1 M = some r → Ev l x false cX8_knows RX8 none 2 2 0 0 (pV r) 141 [some (.ref (x.2.2.1 + 176)), some (.int i1)] [] LAY M) : ∀ (n : Nat) (i1 : Int32) (M : Mem), f_X8_knows_116  k n i1 M = some r → Ev l x false cX8_knows RX8 none 2 2 0 0 (pV r) 116 [some (.ref (x.2.2.1 + 176)), some (.int i1)] [] LAY M := by
  intro n
  induction n with
  | zero =>
    intro i1 M h
    exact nomatch (show (none : Option Mem) = some r from h)
  | succ n ih =>
    intro i1 M h
    have h : s_X8_knows_116  k (f_X8_knows_116  k n) i1 M = some r := h
    unfold s_X8_knows_116 at h
    refine e_iload_n aX8_knows_116 rfl ?_
    refine e_aload_n aX8_knows_117 rfl ?_
    refine e_getI aX8_knows_118 fX8_195 ly_176 rfl ?_
    rcases of_ite h with ⟨hc1, h⟩ | ⟨hc1, h⟩
    · refine e_icmp_ge (tgt := 141) aX8_knows_121 (by decide) (fun _ => ?_) (fun q => absurd hc1 q)
      exact K _ _ h
    · refine e_icmp_ge (tgt := 141) aX8_knows_121 (by decide) (fun q => absurd q hc1) (fun _ => ?_)
      refine e_aload_n aX8_knows_124 rfl ?_
      refine e_getR (r := 185) aX8_knows_125 fX8_39 ly_176 rfl ?_
      refine e_iload_n aX8_knows_128 rfl ?_
      refine e_aload_n aX8_knows_129 rfl ?_
      refine e_iload_n aX8_knows_130 rfl ?_
      obtain ⟨r2, hr2, h⟩ := of_bind h
      refine e_VI [.int i1, .ref (x.2.2.1 + 185)] aX8_knows_131 co_X8_tauOf mX8_211 ly_176 rfl rfl (c_X8_tauOf l x hr2) rfl ⟨by decide, by decide⟩ (Nat.le_of_ble_eq_true rfl) rfl ?_
      obtain ⟨hg3, h⟩ := of_guard h
      obtain ⟨M4, eM4, h⟩ := of_lt h
      refine e_ist aX8_knows_134 ly_185 hg3 eM4 ?_
      refine e_iinc (v := i1 + 1) (L2 := [some (.ref (x.2.2.1 + 176)), some (.int (i1 + 1))]) aX8_knows_135 rfl rfl ⟨by decide, rfl⟩ rfl ?_
      refine e_goto (tgt := 116) aX8_knows_138 (by decide) ?_
      exact ih _ _ h
def f_X8_knows  (M : Mem) : Option Mem :=
  if M 176 13 = 0 then
    lt (um M 176 13 1) fun (M2 : Mem) =>
    (f_X8_findsWays M2).bind fun (M3 : Mem) =>
    f_X8_knows_19  (fun (i1_4 : Int32) (M5 : Mem) =>
      (f_X8_isFinite M5).bind fun (q6 : Int32 × Mem) =>
      if q6.1 = 0 then
        lt (um q6.2 176 12 (-1)) fun (M15 : Mem) =>
        some M15
      else
        lt (um q6.2 176 12 0) fun (M8 : Mem) =>
        (f_X8_power 4 (M8 176 0) M8).bind fun (r9 : Int32) =>
        lt (r9 - 1) fun (v10 : Int32) =>
        f_X8_knows_67  (fun (i1_11 : Int32) (M12 : Mem) =>
          f_X8_knows_116  (fun (i1_13 : Int32) (M14 : Mem) =>
            some M14) FU 0 M12) FU v10 M8) FU 0 M3
  else
    some M
set_option maxRecDepth 100000 in
set_option maxHeartbeats 4000000 in
theorem c_X8_knows (l : Launch) (x : WX)  {M : Mem} {r : Mem}  (h : f_X8_knows  M = some r) : Mt l x false yX8_knows cX8_knows 2 none 2 0 0 [.ref (x.2.2.1 + 176)] LAY M (pV r) := by
  refine mt_of (L0 := [some (.ref (x.2.2.1 + 176)), none]) (by decide +kernel) rfl (Nat.le_of_ble_eq_true rfl) (lvA_of 1 rfl) ?_
  unfold f_X8_knows at h
  refine e_aload_n aX8_knows_0 rfl ?_
  refine e_getI aX8_knows_1 fX8_165 ly_176 rfl ?_
  rcases of_ite h with ⟨hc1, h⟩ | ⟨hc1, h⟩
  · refine e_if_eq (tgt := 8) aX8_knows_4 (by decide) (fun _ => ?_) (fun q => absurd hc1 q)
    refine e_aload_n aX8_knows_8 rfl ?_
    refine e_iconst (v := 1) aX8_knows_9 (by decide) ?_
    obtain ⟨M2, eM2, h⟩ := of_lt h
    refine e_put aX8_knows_10 qX8_165 ly_176 rfl (by decide +kernel) eM2 ?_
    refine e_aload_n aX8_knows_13 rfl ?_
    obtain ⟨M3, hM3, h⟩ := of_bind h
    refine e_VV [] aX8_knows_14 co_X8_findsWays mX8_202 ly_176 rfl rfl (c_X8_findsWays l x hM3) rfl ⟨by decide, by decide⟩ (Nat.le_of_ble_eq_true rfl) rfl ?_
    refine e_iconst (v := 0) aX8_knows_17 (by decide) ?_
    refine e_istore_n (L2 := [some (.ref (x.2.2.1 + 176)), some (.int 0)]) aX8_knows_18 ⟨by decide, rfl⟩ rfl ?_
    refine w_X8_knows_19 l x  (fun i1_4 M5 h => ?_) FU _ _ h
    refine e_aload_n aX8_knows_38 rfl ?_
    obtain ⟨q6, hq6, h⟩ := of_bind h
    refine e_VI [] aX8_knows_39 co_X8_isFinite mX8_205 ly_176 rfl rfl (c_X8_isFinite l x hq6) rfl ⟨by decide, by decide⟩ (Nat.le_of_ble_eq_true rfl) rfl ?_
    rcases of_ite h with ⟨hc7, h⟩ | ⟨hc7, h⟩
    · refine e_if_ne (tgt := 51) aX8_knows_42 (by decide) (fun q => absurd hc7 q) (fun _ => ?_)
      refine e_aload_n aX8_knows_45 rfl ?_
      refine e_iconst (v := (-1)) aX8_knows_46 (by decide) ?_
      obtain ⟨M15, eM15, h⟩ := of_lt h
      refine e_put aX8_knows_47 qX8_195 ly_176 rfl (fi_of _) eM15 ?_
      exact e_ret0 aX8_knows_50 rfl (pV_of h)
    · refine e_if_ne (tgt := 51) aX8_knows_42 (by decide) (fun _ => ?_) (fun q => absurd q hc7)
      refine e_aload_n aX8_knows_51 rfl ?_
      refine e_iconst (v := 0) aX8_knows_52 (by decide) ?_
      obtain ⟨M8, eM8, h⟩ := of_lt h
      refine e_put aX8_knows_53 qX8_195 ly_176 rfl (fi_of _) eM8 ?_
      refine e_iconst (v := 4) aX8_knows_56 (by decide) ?_
      refine e_aload_n aX8_knows_57 rfl ?_
      refine e_getI aX8_knows_58 fX8_7 ly_176 rfl ?_
      obtain ⟨r9, hr9, h⟩ := of_bind h
      refine e_SI [] aX8_knows_61 co_X8_power mX8_185 (c_X8_power l x hr9) rfl ⟨by decide, by decide⟩ (Nat.le_of_ble_eq_true rfl) rfl ?_
      refine e_iconst (v := 1) aX8_knows_64 (by decide) ?_
      refine e_isub aX8_knows_65 ?_
      obtain ⟨v10, ev10, h⟩ := of_lt h
      refine e_nameI ev10 ?_
      refine e_istore_n (L2 := [some (.ref (x.2.2.1 + 176)), some (.int v10)]) aX8_knows_66 ⟨by decide, rfl⟩ rfl ?_
      refine w_X8_knows_67 l x  (fun i1_11 M12 h => ?_) FU _ _ h
      refine e_iconst (v := 0) aX8_knows_114 (by decide) ?_
      refine e_istore_n (L2 := [some (.ref (x.2.2.1 + 176)), some (.int 0)]) aX8_knows_115 ⟨by decide, rfl⟩ rfl ?_
      refine w_X8_knows_116 l x  (fun i1_13 M14 h => ?_) FU _ _ h
      exact e_ret0 aX8_knows_141 rfl (pV_of h)
  · refine e_if_eq (tgt := 8) aX8_knows_4 (by decide) (fun q => absurd q hc1) (fun _ => ?_)
    exact e_ret0 aX8_knows_7 rfl (pV_of h)
def f_X8_paths (i1 : Int32) (i2 : Int32) (M : Mem) : Option (Int32 × Mem) :=
  (f_X8_isPoint i1 M).bind fun (r1 : Int32) =>
  if r1 = 0 then
    some ((-1000001), M)
  else
    (f_X8_isPoint i2 M).bind fun (r3 : Int32) =>
    if r3 = 0 then
      some ((-1000001), M)
    else
      (f_X8_knows M).bind fun (M5 : Mem) =>
      if (6 * i1) + i2 < 0 ∨ 36 ≤ ((6 * i1) + i2).toNatClampNeg then none else
      some (M5 183 ((6 * i1) + i2).toNatClampNeg, M5)
set_option maxRecDepth 100000 in
set_option maxHeartbeats 4000000 in
theorem c_X8_paths (l : Launch) (x : WX) {i1 : Int32} {i2 : Int32} {M : Mem} {r : (Int32 × Mem)}  (h : f_X8_paths i1 i2 M = some r) : Mt l x false yX8_paths cX8_paths 3 (some FieldType.int) 3 0 0 [.ref (x.2.2.1 + 176), .int i1, .int i2] LAY M (pI r.1 r.2) := by
  refine mt_of (L0 := [some (.ref (x.2.2.1 + 176)), some (.int i1), some (.int i2)]) (by decide +kernel) rfl (Nat.le_of_ble_eq_true rfl) (lvA_of 0 rfl) ?_
  unfold f_X8_paths at h
  refine e_aload_n aX8_paths_0 rfl ?_
  refine e_iload_n aX8_paths_1 rfl ?_
  obtain ⟨r1, hr1, h⟩ := of_bind h
  refine e_VI [] aX8_paths_2 co_X8_isPoint mX8_172 ly_176 rfl rfl (c_X8_isPoint l x hr1) rfl ⟨by decide, by decide⟩ (Nat.le_of_ble_eq_true rfl) rfl ?_
  rcases of_ite h with ⟨hc2, h⟩ | ⟨hc2, h⟩
  · refine e_if_eq (tgt := 16) aX8_paths_5 (by decide) (fun _ => ?_) (fun q => absurd hc2 q)
    refine e_ldc aX8_paths_16 kX8_168 ?_
    exact e_retI aX8_paths_18 rfl rfl (pI_of h)
  · refine e_if_eq (tgt := 16) aX8_paths_5 (by decide) (fun q => absurd q hc2) (fun _ => ?_)
    refine e_aload_n aX8_paths_8 rfl ?_
    refine e_iload_n aX8_paths_9 rfl ?_
    obtain ⟨r3, hr3, h⟩ := of_bind h
    refine e_VI [] aX8_paths_10 co_X8_isPoint mX8_172 ly_176 rfl rfl (c_X8_isPoint l x hr3) rfl ⟨by decide, by decide⟩ (Nat.le_of_ble_eq_true rfl) rfl ?_
    rcases of_ite h with ⟨hc4, h⟩ | ⟨hc4, h⟩
    · refine e_if_ne (tgt := 19) aX8_paths_13 (by decide) (fun q => absurd hc4 q) (fun _ => ?_)
      refine e_ldc aX8_paths_16 kX8_168 ?_
      exact e_retI aX8_paths_18 rfl rfl (pI_of h)
    · refine e_if_ne (tgt := 19) aX8_paths_13 (by decide) (fun _ => ?_) (fun q => absurd q hc4)
      refine e_aload_n aX8_paths_19 rfl ?_
      obtain ⟨M5, hM5, h⟩ := of_bind h
      refine e_VV [] aX8_paths_20 co_X8_knows mX8_214 ly_176 rfl rfl (c_X8_knows l x hM5) rfl ⟨by decide, by decide⟩ (Nat.le_of_ble_eq_true rfl) rfl ?_
      refine e_aload_n aX8_paths_23 rfl ?_
      refine e_getR (r := 183) aX8_paths_24 fX8_33 ly_176 rfl ?_
      refine e_bipush (v := 6) aX8_paths_27 (by decide) ?_
      refine e_iload_n aX8_paths_29 rfl ?_
      refine e_imul aX8_paths_30 ?_
      refine e_iload_n aX8_paths_31 rfl ?_
      refine e_iadd aX8_paths_32 ?_
      obtain ⟨hg6, h⟩ := of_guard h
      refine e_iald aX8_paths_33 ly_183 hg6 ?_
      exact e_retI aX8_paths_34 rfl rfl (pI_of h)
def s_X8_keepPast_2  (k : Int32 → Mem → Option Mem) (rec : Int32 → Mem → Option Mem) (i1 : Int32) (M : Mem) : Option Mem :=
  if 189 ≤ i1 then
    k i1 M
  else
    if M 176 2 = 8 then
      if 54 + i1 < 0 ∨ 297 ≤ (54 + i1).toNatClampNeg then none else
      if 27 + i1 < 0 ∨ 297 ≤ (27 + i1).toNatClampNeg then none else
      lt (um M 177 (27 + i1).toNatClampNeg (M 177 (54 + i1).toNatClampNeg)) fun (M5 : Mem) =>
      rec (i1 + 1) M5
    else
      k i1 M
def f_X8_keepPast_2  (k : Int32 → Mem → Option Mem) : Nat → Int32 → Mem → Option Mem
  | 0 => fun _ _ => none
  | n + 1 => fun i1 M => s_X8_keepPast_2  k (f_X8_keepPast_2  k n) i1 M
set_option maxRecDepth 100000 in
set_option maxHeartbeats 4000000 in
theorem w_X8_keepPast_2 (l : Launch) (x : WX)  {k : Int32 → Mem → Option Mem} {r : Mem}  (K : ∀ (i1 : Int32) (M : Mem), k i1 M = some r → Ev l x false cX8_keepPast RX8 none 2 1 0 0 (pV r) 42 [some (.ref (x.2.2.1 + 176)), some (.int i1)] [] LAY M) : ∀ (n : Nat) (i1 : Int32) (M : Mem), f_X8_keepPast_2  k n i1 M = some r → Ev l x false cX8_keepPast RX8 none 2 1 0 0 (pV r) 2 [some (.ref (x.2.2.1 + 176)), some (.int i1)] [] LAY M := by
  intro n
  induction n with
  | zero =>
    intro i1 M h
    exact nomatch (show (none : Option Mem) = some r from h)
  | succ n ih =>
    intro i1 M h
    have h : s_X8_keepPast_2  k (f_X8_keepPast_2  k n) i1 M = some r := h
    unfold s_X8_keepPast_2 at h
    refine e_iload_n aX8_keepPast_2 rfl ?_
    refine e_sipush (v := 189) aX8_keepPast_3 (by decide) ?_
    rcases of_ite h with ⟨hc1, h⟩ | ⟨hc1, h⟩
    · refine e_icmp_ge (tgt := 42) aX8_keepPast_6 (by decide) (fun _ => ?_) (fun q => absurd hc1 q)
      exact K _ _ h
    · refine e_icmp_ge (tgt := 42) aX8_keepPast_6 (by decide) (fun q => absurd q hc1) (fun _ => ?_)
      refine e_aload_n aX8_keepPast_9 rfl ?_
      refine e_getI aX8_keepPast_10 fX8_162 ly_176 rfl ?_
      refine e_bipush (v := 8) aX8_keepPast_13 (by decide) ?_
      rcases of_ite h with ⟨hc2, h⟩ | ⟨hc2, h⟩
      · refine e_icmp_ne (tgt := 42) aX8_keepPast_15 (by decide) (fun q => absurd hc2 q) (fun _ => ?_)
        refine e_aload_n aX8_keepPast_18 rfl ?_
        refine e_getR (r := 177) aX8_keepPast_19 fX8_13 ly_176 rfl ?_
        refine e_bipush (v := 27) aX8_keepPast_22 (by decide) ?_
        refine e_iload_n aX8_keepPast_24 rfl ?_
        refine e_iadd aX8_keepPast_25 ?_
        refine e_aload_n aX8_keepPast_26 rfl ?_
        refine e_getR (r := 177) aX8_keepPast_27 fX8_13 ly_176 rfl ?_
        refine e_bipush (v := 54) aX8_keepPast_30 (by decide) ?_
        refine e_iload_n aX8_keepPast_32 rfl ?_
        refine e_iadd aX8_keepPast_33 ?_
        obtain ⟨hg3, h⟩ := of_guard h
        refine e_iald aX8_keepPast_34 ly_177 hg3 ?_
        obtain ⟨hg4, h⟩ := of_guard h
        obtain ⟨M5, eM5, h⟩ := of_lt h
        refine e_ist aX8_keepPast_35 ly_177 hg4 eM5 ?_
        refine e_iinc (v := i1 + 1) (L2 := [some (.ref (x.2.2.1 + 176)), some (.int (i1 + 1))]) aX8_keepPast_36 rfl rfl ⟨by decide, rfl⟩ rfl ?_
        refine e_goto (tgt := 2) aX8_keepPast_39 (by decide) ?_
        exact ih _ _ h
      · refine e_icmp_ne (tgt := 42) aX8_keepPast_15 (by decide) (fun _ => ?_) (fun q => absurd q hc2)
        exact K _ _ h
def f_X8_keepPast  (M : Mem) : Option Mem :=
  f_X8_keepPast_2  (fun (i1_1 : Int32) (M2 : Mem) =>
    if M2 176 2 = 8 then
      lt (um M2 176 2 ((M2 176 2) - 1)) fun (M7 : Mem) =>
      (f_X8_copyRow 0 (27 + (27 * (M7 176 2))) M7).bind fun (M8 : Mem) =>
      lt (um M8 176 2 ((M8 176 2) + 1)) fun (M9 : Mem) =>
      some M9
    else
      lt (um M2 176 2 ((M2 176 2) - 0)) fun (M4 : Mem) =>
      (f_X8_copyRow 0 (27 + (27 * (M4 176 2))) M4).bind fun (M5 : Mem) =>
      lt (um M5 176 2 ((M5 176 2) + 1)) fun (M6 : Mem) =>
      some M6) FU 0 M
set_option maxRecDepth 100000 in
set_option maxHeartbeats 4000000 in
theorem c_X8_keepPast (l : Launch) (x : WX)  {M : Mem} {r : Mem}  (h : f_X8_keepPast  M = some r) : Mt l x false yX8_keepPast cX8_keepPast 2 none 1 0 0 [.ref (x.2.2.1 + 176)] LAY M (pV r) := by
  refine mt_of (L0 := [some (.ref (x.2.2.1 + 176)), none]) (by decide +kernel) rfl (Nat.le_of_ble_eq_true rfl) (lvA_of 1 rfl) ?_
  unfold f_X8_keepPast at h
  refine e_iconst (v := 0) aX8_keepPast_0 (by decide) ?_
  refine e_istore_n (L2 := [some (.ref (x.2.2.1 + 176)), some (.int 0)]) aX8_keepPast_1 ⟨by decide, rfl⟩ rfl ?_
  refine w_X8_keepPast_2 l x  (fun i1_1 M2 h => ?_) FU _ _ h
  refine e_aload_n aX8_keepPast_42 rfl ?_
  refine e_dupR aX8_keepPast_43 ?_
  refine e_getI aX8_keepPast_44 fX8_162 ly_176 rfl ?_
  refine e_aload_n aX8_keepPast_47 rfl ?_
  refine e_getI aX8_keepPast_48 fX8_162 ly_176 rfl ?_
  refine e_bipush (v := 8) aX8_keepPast_51 (by decide) ?_
  rcases of_ite h with ⟨hc3, h⟩ | ⟨hc3, h⟩
  · refine e_icmp_ne (tgt := 60) aX8_keepPast_53 (by decide) (fun q => absurd hc3 q) (fun _ => ?_)
    refine e_iconst (v := 1) aX8_keepPast_56 (by decide) ?_
    refine e_goto (tgt := 61) aX8_keepPast_57 (by decide) ?_
    refine e_isub aX8_keepPast_61 ?_
    obtain ⟨M7, eM7, h⟩ := of_lt h
    refine e_put aX8_keepPast_62 qX8_162 ly_176 rfl (fi_of _) eM7 ?_
    refine e_aload_n aX8_keepPast_65 rfl ?_
    refine e_iconst (v := 0) aX8_keepPast_66 (by decide) ?_
    refine e_bipush (v := 27) aX8_keepPast_67 (by decide) ?_
    refine e_bipush (v := 27) aX8_keepPast_69 (by decide) ?_
    refine e_aload_n aX8_keepPast_71 rfl ?_
    refine e_getI aX8_keepPast_72 fX8_162 ly_176 rfl ?_
    refine e_imul aX8_keepPast_75 ?_
    refine e_iadd aX8_keepPast_76 ?_
    obtain ⟨M8, hM8, h⟩ := of_bind h
    refine e_VV [] aX8_keepPast_77 co_X8_copyRow mX8_217 ly_176 rfl rfl (c_X8_copyRow l x hM8) rfl ⟨by decide, by decide⟩ (Nat.le_of_ble_eq_true rfl) rfl ?_
    refine e_aload_n aX8_keepPast_80 rfl ?_
    refine e_dupR aX8_keepPast_81 ?_
    refine e_getI aX8_keepPast_82 fX8_162 ly_176 rfl ?_
    refine e_iconst (v := 1) aX8_keepPast_85 (by decide) ?_
    refine e_iadd aX8_keepPast_86 ?_
    obtain ⟨M9, eM9, h⟩ := of_lt h
    refine e_put aX8_keepPast_87 qX8_162 ly_176 rfl (fi_of _) eM9 ?_
    exact e_ret0 aX8_keepPast_90 rfl (pV_of h)
  · refine e_icmp_ne (tgt := 60) aX8_keepPast_53 (by decide) (fun _ => ?_) (fun q => absurd q hc3)
    refine e_iconst (v := 0) aX8_keepPast_60 (by decide) ?_
    refine e_isub aX8_keepPast_61 ?_
    obtain ⟨M4, eM4, h⟩ := of_lt h
    refine e_put aX8_keepPast_62 qX8_162 ly_176 rfl (fi_of _) eM4 ?_
    refine e_aload_n aX8_keepPast_65 rfl ?_
    refine e_iconst (v := 0) aX8_keepPast_66 (by decide) ?_
    refine e_bipush (v := 27) aX8_keepPast_67 (by decide) ?_
    refine e_bipush (v := 27) aX8_keepPast_69 (by decide) ?_
    refine e_aload_n aX8_keepPast_71 rfl ?_
    refine e_getI aX8_keepPast_72 fX8_162 ly_176 rfl ?_
    refine e_imul aX8_keepPast_75 ?_
    refine e_iadd aX8_keepPast_76 ?_
    obtain ⟨M5, hM5, h⟩ := of_bind h
    refine e_VV [] aX8_keepPast_77 co_X8_copyRow mX8_217 ly_176 rfl rfl (c_X8_copyRow l x hM5) rfl ⟨by decide, by decide⟩ (Nat.le_of_ble_eq_true rfl) rfl ?_
    refine e_aload_n aX8_keepPast_80 rfl ?_
    refine e_dupR aX8_keepPast_81 ?_
    refine e_getI aX8_keepPast_82 fX8_162 ly_176 rfl ?_
    refine e_iconst (v := 1) aX8_keepPast_85 (by decide) ?_
    refine e_iadd aX8_keepPast_86 ?_
    obtain ⟨M6, eM6, h⟩ := of_lt h
    refine e_put aX8_keepPast_87 qX8_162 ly_176 rfl (fi_of _) eM6 ?_
    exact e_ret0 aX8_keepPast_90 rfl (pV_of h)
def f_X8_put (i1 : Int32) (i2 : Int32) (M : Mem) : Option (Int32 × Mem) :=
  (f_X8_isPoint i1 M).bind fun (r1 : Int32) =>
  if r1 = 0 then
    some ((-1000001), M)
  else
    (f_X8_isPoint i2 M).bind fun (r3 : Int32) =>
    if r3 = 0 then
      some ((-1000001), M)
    else
      if i1 = i2 then
        some ((-1000001), M)
      else
        (f_X8_tellsArrows M).bind fun (M6 : Mem) =>
        (f_X8_leads i2 i1 M6).bind fun (r7 : Int32) =>
        if r7 = 0 then
          if (0 : Int32) < 0 ∨ 297 ≤ (0 : Int32).toNatClampNeg then none else
          if M6 177 (0 : Int32).toNatClampNeg = 10 then
            some ((-1000004), M6)
          else
            (f_X8_keepPast M6).bind fun (M11 : Mem) =>
            (f_X8_addArrow i1 i2 M11).bind fun (M12 : Mem) =>
            lt (um M12 176 13 0) fun (M13 : Mem) =>
            if (0 : Int32) < 0 ∨ 297 ≤ (0 : Int32).toNatClampNeg then none else
            some ((M13 177 (0 : Int32).toNatClampNeg) - 1, M13)
        else
          some ((-1000003), M6)
set_option maxRecDepth 100000 in
set_option maxHeartbeats 4000000 in
theorem c_X8_put (l : Launch) (x : WX) {i1 : Int32} {i2 : Int32} {M : Mem} {r : (Int32 × Mem)}  (h : f_X8_put i1 i2 M = some r) : Mt l x false yX8_put cX8_put 3 (some FieldType.int) 2 0 0 [.ref (x.2.2.1 + 176), .int i1, .int i2] LAY M (pI r.1 r.2) := by
  refine mt_of (L0 := [some (.ref (x.2.2.1 + 176)), some (.int i1), some (.int i2)]) (by decide +kernel) rfl (Nat.le_of_ble_eq_true rfl) (lvA_of 0 rfl) ?_
  unfold f_X8_put at h
  refine e_aload_n aX8_put_0 rfl ?_
  refine e_iload_n aX8_put_1 rfl ?_
  obtain ⟨r1, hr1, h⟩ := of_bind h
  refine e_VI [] aX8_put_2 co_X8_isPoint mX8_172 ly_176 rfl rfl (c_X8_isPoint l x hr1) rfl ⟨by decide, by decide⟩ (Nat.le_of_ble_eq_true rfl) rfl ?_
  rcases of_ite h with ⟨hc2, h⟩ | ⟨hc2, h⟩
  · refine e_if_eq (tgt := 21) aX8_put_5 (by decide) (fun _ => ?_) (fun q => absurd hc2 q)
    refine e_ldc aX8_put_21 kX8_168 ?_
    exact e_retI aX8_put_23 rfl rfl (pI_of h)
  · refine e_if_eq (tgt := 21) aX8_put_5 (by decide) (fun q => absurd q hc2) (fun _ => ?_)
    refine e_aload_n aX8_put_8 rfl ?_
    refine e_iload_n aX8_put_9 rfl ?_
    obtain ⟨r3, hr3, h⟩ := of_bind h
    refine e_VI [] aX8_put_10 co_X8_isPoint mX8_172 ly_176 rfl rfl (c_X8_isPoint l x hr3) rfl ⟨by decide, by decide⟩ (Nat.le_of_ble_eq_true rfl) rfl ?_
    rcases of_ite h with ⟨hc4, h⟩ | ⟨hc4, h⟩
    · refine e_if_eq (tgt := 21) aX8_put_13 (by decide) (fun _ => ?_) (fun q => absurd hc4 q)
      refine e_ldc aX8_put_21 kX8_168 ?_
      exact e_retI aX8_put_23 rfl rfl (pI_of h)
    · refine e_if_eq (tgt := 21) aX8_put_13 (by decide) (fun q => absurd q hc4) (fun _ => ?_)
      refine e_iload_n aX8_put_16 rfl ?_
      refine e_iload_n aX8_put_17 rfl ?_
      rcases of_ite h with ⟨hc5, h⟩ | ⟨hc5, h⟩
      · refine e_icmp_ne (tgt := 24) aX8_put_18 (by decide) (fun q => absurd hc5 q) (fun _ => ?_)
        refine e_ldc aX8_put_21 kX8_168 ?_
        exact e_retI aX8_put_23 rfl rfl (pI_of h)
      · refine e_icmp_ne (tgt := 24) aX8_put_18 (by decide) (fun _ => ?_) (fun q => absurd q hc5)
        refine e_aload_n aX8_put_24 rfl ?_
        obtain ⟨M6, hM6, h⟩ := of_bind h
        refine e_VV [] aX8_put_25 co_X8_tellsArrows mX8_150 ly_176 rfl rfl (c_X8_tellsArrows l x hM6) rfl ⟨by decide, by decide⟩ (Nat.le_of_ble_eq_true rfl) rfl ?_
        refine e_aload_n aX8_put_28 rfl ?_
        refine e_iload_n aX8_put_29 rfl ?_
        refine e_iload_n aX8_put_30 rfl ?_
        obtain ⟨r7, hr7, h⟩ := of_bind h
        refine e_VI [] aX8_put_31 co_X8_leads mX8_121 ly_176 rfl rfl (c_X8_leads l x hr7) rfl ⟨by decide, by decide⟩ (Nat.le_of_ble_eq_true rfl) rfl ?_
        rcases of_ite h with ⟨hc8, h⟩ | ⟨hc8, h⟩
        · refine e_if_eq (tgt := 40) aX8_put_34 (by decide) (fun _ => ?_) (fun q => absurd hc8 q)
          refine e_aload_n aX8_put_40 rfl ?_
          refine e_getR (r := 177) aX8_put_41 fX8_13 ly_176 rfl ?_
          refine e_iconst (v := 0) aX8_put_44 (by decide) ?_
          obtain ⟨hg9, h⟩ := of_guard h
          refine e_iald aX8_put_45 ly_177 hg9 ?_
          refine e_bipush (v := 10) aX8_put_46 (by decide) ?_
          rcases of_ite h with ⟨hc10, h⟩ | ⟨hc10, h⟩
          · refine e_icmp_ne (tgt := 54) aX8_put_48 (by decide) (fun q => absurd hc10 q) (fun _ => ?_)
            refine e_ldc aX8_put_51 kX8_82 ?_
            exact e_retI aX8_put_53 rfl rfl (pI_of h)
          · refine e_icmp_ne (tgt := 54) aX8_put_48 (by decide) (fun _ => ?_) (fun q => absurd q hc10)
            refine e_aload_n aX8_put_54 rfl ?_
            obtain ⟨M11, hM11, h⟩ := of_bind h
            refine e_VV [] aX8_put_55 co_X8_keepPast mX8_220 ly_176 rfl rfl (c_X8_keepPast l x hM11) rfl ⟨by decide, by decide⟩ (Nat.le_of_ble_eq_true rfl) rfl ?_
            refine e_aload_n aX8_put_58 rfl ?_
            refine e_iload_n aX8_put_59 rfl ?_
            refine e_iload_n aX8_put_60 rfl ?_
            obtain ⟨M12, hM12, h⟩ := of_bind h
            refine e_VV [] aX8_put_61 co_X8_addArrow mX8_129 ly_176 rfl rfl (c_X8_addArrow l x hM12) rfl ⟨by decide, by decide⟩ (Nat.le_of_ble_eq_true rfl) rfl ?_
            refine e_aload_n aX8_put_64 rfl ?_
            refine e_iconst (v := 0) aX8_put_65 (by decide) ?_
            obtain ⟨M13, eM13, h⟩ := of_lt h
            refine e_put aX8_put_66 qX8_165 ly_176 rfl (by decide +kernel) eM13 ?_
            refine e_aload_n aX8_put_69 rfl ?_
            refine e_getR (r := 177) aX8_put_70 fX8_13 ly_176 rfl ?_
            refine e_iconst (v := 0) aX8_put_73 (by decide) ?_
            obtain ⟨hg14, h⟩ := of_guard h
            refine e_iald aX8_put_74 ly_177 hg14 ?_
            refine e_iconst (v := 1) aX8_put_75 (by decide) ?_
            refine e_isub aX8_put_76 ?_
            exact e_retI aX8_put_77 rfl rfl (pI_of h)
        · refine e_if_eq (tgt := 40) aX8_put_34 (by decide) (fun q => absurd q hc8) (fun _ => ?_)
          refine e_ldc aX8_put_37 kX8_161 ?_
          exact e_retI aX8_put_39 rfl rfl (pI_of h)
def s_X8_cut_37 (i1 : Int32) (k : Int32 → Mem → Option (Int32 × Mem)) (rec : Int32 → Mem → Option (Int32 × Mem)) (i2 : Int32) (M : Mem) : Option (Int32 × Mem) :=
  if (0 : Int32) < 0 ∨ 297 ≤ (0 : Int32).toNatClampNeg then none else
  if M 177 (0 : Int32).toNatClampNeg ≤ i2 then
    k i2 M
  else
    if (1 + i2) + 1 < 0 ∨ 297 ≤ ((1 + i2) + 1).toNatClampNeg then none else
    if 1 + i2 < 0 ∨ 297 ≤ (1 + i2).toNatClampNeg then none else
    lt (um M 177 (1 + i2).toNatClampNeg (M 177 ((1 + i2) + 1).toNatClampNeg)) fun (M5 : Mem) =>
    if (11 + i2) + 1 < 0 ∨ 297 ≤ ((11 + i2) + 1).toNatClampNeg then none else
    if 11 + i2 < 0 ∨ 297 ≤ (11 + i2).toNatClampNeg then none else
    lt (um M5 177 (11 + i2).toNatClampNeg (M5 177 ((11 + i2) + 1).toNatClampNeg)) fun (M8 : Mem) =>
    rec (i2 + 1) M8
def f_X8_cut_37 (i1 : Int32) (k : Int32 → Mem → Option (Int32 × Mem)) : Nat → Int32 → Mem → Option (Int32 × Mem)
  | 0 => fun _ _ => none
  | n + 1 => fun i2 M => s_X8_cut_37 i1 k (f_X8_cut_37 i1 k n) i2 M
set_option maxRecDepth 100000 in
set_option maxHeartbeats 4000000 in
theorem w_X8_cut_37 (l : Launch) (x : WX) {i1 : Int32} {k : Int32 → Mem → Option (Int32 × Mem)} {r : (Int32 × Mem)}  (K : ∀ (i2 : Int32) (M : Mem), k i2 M = some r → Ev l x false cX8_cut RX8 (some FieldType.int) 3 2 0 0 (pI r.1 r.2) 91 [some (.ref (x.2.2.1 + 176)), some (.int i1), some (.int i2)] [] LAY M) : ∀ (n : Nat) (i2 : Int32) (M : Mem), f_X8_cut_37 i1 k n i2 M = some r → Ev l x false cX8_cut RX8 (some FieldType.int) 3 2 0 0 (pI r.1 r.2) 37 [some (.ref (x.2.2.1 + 176)), some (.int i1), some (.int i2)] [] LAY M := by
  intro n
  induction n with
  | zero =>
    intro i2 M h
    exact nomatch (show (none : Option (Int32 × Mem)) = some r from h)
  | succ n ih =>
    intro i2 M h
    have h : s_X8_cut_37 i1 k (f_X8_cut_37 i1 k n) i2 M = some r := h
    unfold s_X8_cut_37 at h
    refine e_iload_n aX8_cut_37 rfl ?_
    refine e_aload_n aX8_cut_38 rfl ?_
    refine e_getR (r := 177) aX8_cut_39 fX8_13 ly_176 rfl ?_
    refine e_iconst (v := 0) aX8_cut_42 (by decide) ?_
    obtain ⟨hg1, h⟩ := of_guard h
    refine e_iald aX8_cut_43 ly_177 hg1 ?_
    rcases of_ite h with ⟨hc2, h⟩ | ⟨hc2, h⟩
    · refine e_icmp_ge (tgt := 91) aX8_cut_44 (by decide) (fun _ => ?_) (fun q => absurd hc2 q)
      exact K _ _ h
    · refine e_icmp_ge (tgt := 91) aX8_cut_44 (by decide) (fun q => absurd q hc2) (fun _ => ?_)
      refine e_aload_n aX8_cut_47 rfl ?_
      refine e_getR (r := 177) aX8_cut_48 fX8_13 ly_176 rfl ?_
      refine e_iconst (v := 1) aX8_cut_51 (by decide) ?_
      refine e_iload_n aX8_cut_52 rfl ?_
      refine e_iadd aX8_cut_53 ?_
      refine e_aload_n aX8_cut_54 rfl ?_
      refine e_getR (r := 177) aX8_cut_55 fX8_13 ly_176 rfl ?_
      refine e_iconst (v := 1) aX8_cut_58 (by decide) ?_
      refine e_iload_n aX8_cut_59 rfl ?_
      refine e_iadd aX8_cut_60 ?_
      refine e_iconst (v := 1) aX8_cut_61 (by decide) ?_
      refine e_iadd aX8_cut_62 ?_
      obtain ⟨hg3, h⟩ := of_guard h
      refine e_iald aX8_cut_63 ly_177 hg3 ?_
      obtain ⟨hg4, h⟩ := of_guard h
      obtain ⟨M5, eM5, h⟩ := of_lt h
      refine e_ist aX8_cut_64 ly_177 hg4 eM5 ?_
      refine e_aload_n aX8_cut_65 rfl ?_
      refine e_getR (r := 177) aX8_cut_66 fX8_13 ly_176 rfl ?_
      refine e_bipush (v := 11) aX8_cut_69 (by decide) ?_
      refine e_iload_n aX8_cut_71 rfl ?_
      refine e_iadd aX8_cut_72 ?_
      refine e_aload_n aX8_cut_73 rfl ?_
      refine e_getR (r := 177) aX8_cut_74 fX8_13 ly_176 rfl ?_
      refine e_bipush (v := 11) aX8_cut_77 (by decide) ?_
      refine e_iload_n aX8_cut_79 rfl ?_
      refine e_iadd aX8_cut_80 ?_
      refine e_iconst (v := 1) aX8_cut_81 (by decide) ?_
      refine e_iadd aX8_cut_82 ?_
      obtain ⟨hg6, h⟩ := of_guard h
      refine e_iald aX8_cut_83 ly_177 hg6 ?_
      obtain ⟨hg7, h⟩ := of_guard h
      obtain ⟨M8, eM8, h⟩ := of_lt h
      refine e_ist aX8_cut_84 ly_177 hg7 eM8 ?_
      refine e_iinc (v := i2 + 1) (L2 := [some (.ref (x.2.2.1 + 176)), some (.int i1), some (.int (i2 + 1))]) aX8_cut_85 rfl rfl ⟨by decide, rfl⟩ rfl ?_
      refine e_goto (tgt := 37) aX8_cut_88 (by decide) ?_
      exact ih _ _ h
def f_X8_cut (i1 : Int32) (M : Mem) : Option (Int32 × Mem) :=
  if (0 : Int32) < 0 ∨ 297 ≤ (0 : Int32).toNatClampNeg then none else
  (f_X8_in i1.toInt64 0 (((M 177 (0 : Int32).toNatClampNeg) - 1).toInt64) M).bind fun (r2 : Int32) =>
  if r2 = 0 then
    some ((-1000001), M)
  else
    (f_X8_keepPast M).bind fun (M4 : Mem) =>
    if (0 : Int32) < 0 ∨ 297 ≤ (0 : Int32).toNatClampNeg then none else
    if (0 : Int32) < 0 ∨ 297 ≤ (0 : Int32).toNatClampNeg then none else
    lt (um M4 177 (0 : Int32).toNatClampNeg ((M4 177 (0 : Int32).toNatClampNeg) - 1)) fun (M7 : Mem) =>
    f_X8_cut_37 i1 (fun (i2_8 : Int32) (M9 : Mem) =>
      lt (um M9 176 13 0) fun (M10 : Mem) =>
      if (0 : Int32) < 0 ∨ 297 ≤ (0 : Int32).toNatClampNeg then none else
      some (M10 177 (0 : Int32).toNatClampNeg, M10)) FU i1 M7
set_option maxRecDepth 100000 in
set_option maxHeartbeats 4000000 in
theorem c_X8_cut (l : Launch) (x : WX) {i1 : Int32} {M : Mem} {r : (Int32 × Mem)}  (h : f_X8_cut i1 M = some r) : Mt l x false yX8_cut cX8_cut 3 (some FieldType.int) 2 0 0 [.ref (x.2.2.1 + 176), .int i1] LAY M (pI r.1 r.2) := by
  refine mt_of (L0 := [some (.ref (x.2.2.1 + 176)), some (.int i1), none]) (by decide +kernel) rfl (Nat.le_of_ble_eq_true rfl) (lvA_of 1 rfl) ?_
  unfold f_X8_cut at h
  refine e_iload_n aX8_cut_0 rfl ?_
  refine e_i2l aX8_cut_1 ?_
  refine e_lconst (v := 0) aX8_cut_2 (by decide) ?_
  refine e_aload_n aX8_cut_3 rfl ?_
  refine e_getR (r := 177) aX8_cut_4 fX8_13 ly_176 rfl ?_
  refine e_iconst (v := 0) aX8_cut_7 (by decide) ?_
  obtain ⟨hg1, h⟩ := of_guard h
  refine e_iald aX8_cut_8 ly_177 hg1 ?_
  refine e_iconst (v := 1) aX8_cut_9 (by decide) ?_
  refine e_isub aX8_cut_10 ?_
  refine e_i2l aX8_cut_11 ?_
  obtain ⟨r2, hr2, h⟩ := of_bind h
  refine e_SI [] aX8_cut_12 co_X8_in mX8_72 (c_X8_in l x hr2) rfl ⟨by decide, by decide⟩ (Nat.le_of_ble_eq_true rfl) rfl ?_
  rcases of_ite h with ⟨hc3, h⟩ | ⟨hc3, h⟩
  · refine e_if_ne (tgt := 21) aX8_cut_15 (by decide) (fun q => absurd hc3 q) (fun _ => ?_)
    refine e_ldc aX8_cut_18 kX8_168 ?_
    exact e_retI aX8_cut_20 rfl rfl (pI_of h)
  · refine e_if_ne (tgt := 21) aX8_cut_15 (by decide) (fun _ => ?_) (fun q => absurd q hc3)
    refine e_aload_n aX8_cut_21 rfl ?_
    obtain ⟨M4, hM4, h⟩ := of_bind h
    refine e_VV [] aX8_cut_22 co_X8_keepPast mX8_220 ly_176 rfl rfl (c_X8_keepPast l x hM4) rfl ⟨by decide, by decide⟩ (Nat.le_of_ble_eq_true rfl) rfl ?_
    refine e_aload_n aX8_cut_25 rfl ?_
    refine e_getR (r := 177) aX8_cut_26 fX8_13 ly_176 rfl ?_
    refine e_iconst (v := 0) aX8_cut_29 (by decide) ?_
    refine e_dup2 aX8_cut_30 ?_
    obtain ⟨hg5, h⟩ := of_guard h
    refine e_iald aX8_cut_31 ly_177 hg5 ?_
    refine e_iconst (v := 1) aX8_cut_32 (by decide) ?_
    refine e_isub aX8_cut_33 ?_
    obtain ⟨hg6, h⟩ := of_guard h
    obtain ⟨M7, eM7, h⟩ := of_lt h
    refine e_ist aX8_cut_34 ly_177 hg6 eM7 ?_
    refine e_iload_n aX8_cut_35 rfl ?_
    refine e_istore_n (L2 := [some (.ref (x.2.2.1 + 176)), some (.int i1), some (.int i1)]) aX8_cut_36 ⟨by decide, rfl⟩ rfl ?_
    refine w_X8_cut_37 l x  (fun i2_8 M9 h => ?_) FU _ _ h
    refine e_aload_n aX8_cut_91 rfl ?_
    refine e_iconst (v := 0) aX8_cut_92 (by decide) ?_
    obtain ⟨M10, eM10, h⟩ := of_lt h
    refine e_put aX8_cut_93 qX8_165 ly_176 rfl (by decide +kernel) eM10 ?_
    refine e_aload_n aX8_cut_96 rfl ?_
    refine e_getR (r := 177) aX8_cut_97 fX8_13 ly_176 rfl ?_
    refine e_iconst (v := 0) aX8_cut_100 (by decide) ?_
    obtain ⟨hg11, h⟩ := of_guard h
    refine e_iald aX8_cut_101 ly_177 hg11 ?_
    exact e_retI aX8_cut_102 rfl rfl (pI_of h)
def s_X8_about_13 (i1 : Int32) (M : Mem) (k : Int32 → Int32 → Option Int32) (rec : Int32 → Int32 → Option Int32) (i2 : Int32) (i3 : Int32) : Option Int32 :=
  if (0 : Int32) < 0 ∨ 297 ≤ (0 : Int32).toNatClampNeg then none else
  if M 177 (0 : Int32).toNatClampNeg ≤ i3 then
    k i2 i3
  else
    if 1 + i3 < 0 ∨ 297 ≤ (1 + i3).toNatClampNeg then none else
    if M 177 (1 + i3).toNatClampNeg = i1 then
      if 11 + i3 < 0 ∨ 297 ≤ (11 + i3).toNatClampNeg then none else
      if 21 + (M 177 (11 + i3).toNatClampNeg) < 0 ∨ 297 ≤ (21 + (M 177 (11 + i3).toNatClampNeg)).toNatClampNeg then none else
      lt (i2 + (M 177 (21 + (M 177 (11 + i3).toNatClampNeg)).toNatClampNeg)) fun (v13 : Int32) =>
      rec v13 (i3 + 1)
    else
      if 11 + i3 < 0 ∨ 297 ≤ (11 + i3).toNatClampNeg then none else
      if M 177 (11 + i3).toNatClampNeg = i1 then
        if 1 + i3 < 0 ∨ 297 ≤ (1 + i3).toNatClampNeg then none else
        if 21 + (M 177 (1 + i3).toNatClampNeg) < 0 ∨ 297 ≤ (21 + (M 177 (1 + i3).toNatClampNeg)).toNatClampNeg then none else
        lt (i2 + (M 177 (21 + (M 177 (1 + i3).toNatClampNeg)).toNatClampNeg)) fun (v10 : Int32) =>
        rec v10 (i3 + 1)
      else
        lt (i2 + 0) fun (v7 : Int32) =>
        rec v7 (i3 + 1)
def f_X8_about_13 (i1 : Int32) (M : Mem) (k : Int32 → Int32 → Option Int32) : Nat → Int32 → Int32 → Option Int32
  | 0 => fun _ _ => none
  | n + 1 => fun i2 i3 => s_X8_about_13 i1 M k (f_X8_about_13 i1 M k n) i2 i3
set_option maxRecDepth 100000 in
set_option maxHeartbeats 4000000 in
theorem w_X8_about_13 (l : Launch) (x : WX) {i1 : Int32} {M : Mem} {k : Int32 → Int32 → Option Int32} {r : Int32}  (K : ∀ (i2 : Int32) (i3 : Int32), k i2 i3 = some r → Ev l x false cX8_about RX8 (some FieldType.int) 4 0 0 0 (pI r M) 97 [some (.ref (x.2.2.1 + 176)), some (.int i1), some (.int i2), some (.int i3)] [] LAY M) : ∀ (n : Nat) (i2 : Int32) (i3 : Int32), f_X8_about_13 i1 M k n i2 i3 = some r → Ev l x false cX8_about RX8 (some FieldType.int) 4 0 0 0 (pI r M) 13 [some (.ref (x.2.2.1 + 176)), some (.int i1), some (.int i2), some (.int i3)] [] LAY M := by
  intro n
  induction n with
  | zero =>
    intro i2 i3 h
    exact nomatch (show (none : Option Int32) = some r from h)
  | succ n ih =>
    intro i2 i3 h
    have h : s_X8_about_13 i1 M k (f_X8_about_13 i1 M k n) i2 i3 = some r := h
    unfold s_X8_about_13 at h
    refine e_iload_n aX8_about_13 rfl ?_
    refine e_aload_n aX8_about_14 rfl ?_
    refine e_getR (r := 177) aX8_about_15 fX8_13 ly_176 rfl ?_
    refine e_iconst (v := 0) aX8_about_18 (by decide) ?_
    obtain ⟨hg1, h⟩ := of_guard h
    refine e_iald aX8_about_19 ly_177 hg1 ?_
    rcases of_ite h with ⟨hc2, h⟩ | ⟨hc2, h⟩
    · refine e_icmp_ge (tgt := 97) aX8_about_20 (by decide) (fun _ => ?_) (fun q => absurd hc2 q)
      exact K _ _ h
    · refine e_icmp_ge (tgt := 97) aX8_about_20 (by decide) (fun q => absurd q hc2) (fun _ => ?_)
      refine e_iload_n aX8_about_23 rfl ?_
      refine e_aload_n aX8_about_24 rfl ?_
      refine e_getR (r := 177) aX8_about_25 fX8_13 ly_176 rfl ?_
      refine e_iconst (v := 1) aX8_about_28 (by decide) ?_
      refine e_iload_n aX8_about_29 rfl ?_
      refine e_iadd aX8_about_30 ?_
      obtain ⟨hg3, h⟩ := of_guard h
      refine e_iald aX8_about_31 ly_177 hg3 ?_
      refine e_iload_n aX8_about_32 rfl ?_
      rcases of_ite h with ⟨hc4, h⟩ | ⟨hc4, h⟩
      · refine e_icmp_ne (tgt := 56) aX8_about_33 (by decide) (fun q => absurd hc4 q) (fun _ => ?_)
        refine e_aload_n aX8_about_36 rfl ?_
        refine e_getR (r := 177) aX8_about_37 fX8_13 ly_176 rfl ?_
        refine e_bipush (v := 21) aX8_about_40 (by decide) ?_
        refine e_aload_n aX8_about_42 rfl ?_
        refine e_getR (r := 177) aX8_about_43 fX8_13 ly_176 rfl ?_
        refine e_bipush (v := 11) aX8_about_46 (by decide) ?_
        refine e_iload_n aX8_about_48 rfl ?_
        refine e_iadd aX8_about_49 ?_
        obtain ⟨hg11, h⟩ := of_guard h
        refine e_iald aX8_about_50 ly_177 hg11 ?_
        refine e_iadd aX8_about_51 ?_
        obtain ⟨hg12, h⟩ := of_guard h
        refine e_iald aX8_about_52 ly_177 hg12 ?_
        refine e_goto (tgt := 89) aX8_about_53 (by decide) ?_
        refine e_iadd aX8_about_89 ?_
        obtain ⟨v13, ev13, h⟩ := of_lt h
        refine e_nameI ev13 ?_
        refine e_istore_n (L2 := [some (.ref (x.2.2.1 + 176)), some (.int i1), some (.int v13), some (.int i3)]) aX8_about_90 ⟨by decide, rfl⟩ rfl ?_
        refine e_iinc (v := i3 + 1) (L2 := [some (.ref (x.2.2.1 + 176)), some (.int i1), some (.int v13), some (.int (i3 + 1))]) aX8_about_91 rfl rfl ⟨by decide, rfl⟩ rfl ?_
        refine e_goto (tgt := 13) aX8_about_94 (by decide) ?_
        exact ih _ _ h
      · refine e_icmp_ne (tgt := 56) aX8_about_33 (by decide) (fun _ => ?_) (fun q => absurd q hc4)
        refine e_aload_n aX8_about_56 rfl ?_
        refine e_getR (r := 177) aX8_about_57 fX8_13 ly_176 rfl ?_
        refine e_bipush (v := 11) aX8_about_60 (by decide) ?_
        refine e_iload_n aX8_about_62 rfl ?_
        refine e_iadd aX8_about_63 ?_
        obtain ⟨hg5, h⟩ := of_guard h
        refine e_iald aX8_about_64 ly_177 hg5 ?_
        refine e_iload_n aX8_about_65 rfl ?_
        rcases of_ite h with ⟨hc6, h⟩ | ⟨hc6, h⟩
        · refine e_icmp_ne (tgt := 88) aX8_about_66 (by decide) (fun q => absurd hc6 q) (fun _ => ?_)
          refine e_aload_n aX8_about_69 rfl ?_
          refine e_getR (r := 177) aX8_about_70 fX8_13 ly_176 rfl ?_
          refine e_bipush (v := 21) aX8_about_73 (by decide) ?_
          refine e_aload_n aX8_about_75 rfl ?_
          refine e_getR (r := 177) aX8_about_76 fX8_13 ly_176 rfl ?_
          refine e_iconst (v := 1) aX8_about_79 (by decide) ?_
          refine e_iload_n aX8_about_80 rfl ?_
          refine e_iadd aX8_about_81 ?_
          obtain ⟨hg8, h⟩ := of_guard h
          refine e_iald aX8_about_82 ly_177 hg8 ?_
          refine e_iadd aX8_about_83 ?_
          obtain ⟨hg9, h⟩ := of_guard h
          refine e_iald aX8_about_84 ly_177 hg9 ?_
          refine e_goto (tgt := 89) aX8_about_85 (by decide) ?_
          refine e_iadd aX8_about_89 ?_
          obtain ⟨v10, ev10, h⟩ := of_lt h
          refine e_nameI ev10 ?_
          refine e_istore_n (L2 := [some (.ref (x.2.2.1 + 176)), some (.int i1), some (.int v10), some (.int i3)]) aX8_about_90 ⟨by decide, rfl⟩ rfl ?_
          refine e_iinc (v := i3 + 1) (L2 := [some (.ref (x.2.2.1 + 176)), some (.int i1), some (.int v10), some (.int (i3 + 1))]) aX8_about_91 rfl rfl ⟨by decide, rfl⟩ rfl ?_
          refine e_goto (tgt := 13) aX8_about_94 (by decide) ?_
          exact ih _ _ h
        · refine e_icmp_ne (tgt := 88) aX8_about_66 (by decide) (fun _ => ?_) (fun q => absurd q hc6)
          refine e_iconst (v := 0) aX8_about_88 (by decide) ?_
          refine e_iadd aX8_about_89 ?_
          obtain ⟨v7, ev7, h⟩ := of_lt h
          refine e_nameI ev7 ?_
          refine e_istore_n (L2 := [some (.ref (x.2.2.1 + 176)), some (.int i1), some (.int v7), some (.int i3)]) aX8_about_90 ⟨by decide, rfl⟩ rfl ?_
          refine e_iinc (v := i3 + 1) (L2 := [some (.ref (x.2.2.1 + 176)), some (.int i1), some (.int v7), some (.int (i3 + 1))]) aX8_about_91 rfl rfl ⟨by decide, rfl⟩ rfl ?_
          refine e_goto (tgt := 13) aX8_about_94 (by decide) ?_
          exact ih _ _ h
def f_X8_about (i1 : Int32) (M : Mem) : Option Int32 :=
  if 21 + i1 < 0 ∨ 297 ≤ (21 + i1).toNatClampNeg then none else
  lt (-(M 177 (21 + i1).toNatClampNeg)) fun (v2 : Int32) =>
  f_X8_about_13 i1 M (fun (i2_3 : Int32) (i3_4 : Int32) =>
    some i2_3) FU v2 0
set_option maxRecDepth 100000 in
set_option maxHeartbeats 4000000 in
theorem c_X8_about (l : Launch) (x : WX) {i1 : Int32} {M : Mem} {r : Int32}  (h : f_X8_about i1 M = some r) : Mt l x false yX8_about cX8_about 4 (some FieldType.int) 0 0 0 [.ref (x.2.2.1 + 176), .int i1] LAY M (pI r M) := by
  refine mt_of (L0 := [some (.ref (x.2.2.1 + 176)), some (.int i1), none, none]) (by decide +kernel) rfl (Nat.le_of_ble_eq_true rfl) (lvA_of 2 rfl) ?_
  unfold f_X8_about at h
  refine e_aload_n aX8_about_0 rfl ?_
  refine e_getR (r := 177) aX8_about_1 fX8_13 ly_176 rfl ?_
  refine e_bipush (v := 21) aX8_about_4 (by decide) ?_
  refine e_iload_n aX8_about_6 rfl ?_
  refine e_iadd aX8_about_7 ?_
  obtain ⟨hg1, h⟩ := of_guard h
  refine e_iald aX8_about_8 ly_177 hg1 ?_
  refine e_ineg aX8_about_9 ?_
  obtain ⟨v2, ev2, h⟩ := of_lt h
  refine e_nameI ev2 ?_
  refine e_istore_n (L2 := [some (.ref (x.2.2.1 + 176)), some (.int i1), some (.int v2), none]) aX8_about_10 ⟨by decide, rfl⟩ rfl ?_
  refine e_iconst (v := 0) aX8_about_11 (by decide) ?_
  refine e_istore_n (L2 := [some (.ref (x.2.2.1 + 176)), some (.int i1), some (.int v2), some (.int 0)]) aX8_about_12 ⟨by decide, rfl⟩ rfl ?_
  refine w_X8_about_13 l x  (fun i2_3 i3_4 h => ?_) FU _ _ h
  refine e_iload_n aX8_about_97 rfl ?_
  exact e_retI aX8_about_98 rfl rfl (pI_ro h)
def s_X8_turn_66 (i1 : Int32) (i2 : Int32) (k : Int32 → Mem → Option (Int32 × Mem)) (rec : Int32 → Mem → Option (Int32 × Mem)) (i3 : Int32) (M : Mem) : Option (Int32 × Mem) :=
  if (0 : Int32) < 0 ∨ 297 ≤ (0 : Int32).toNatClampNeg then none else
  if M 177 (0 : Int32).toNatClampNeg ≤ i3 then
    k i3 M
  else
    if 1 + i3 < 0 ∨ 297 ≤ (1 + i3).toNatClampNeg then none else
    if M 177 (1 + i3).toNatClampNeg = i1 then
      if 1 + i3 < 0 ∨ 297 ≤ (1 + i3).toNatClampNeg then none else
      lt (M 177 (1 + i3).toNatClampNeg) fun (v6 : Int32) =>
      if 11 + i3 < 0 ∨ 297 ≤ (11 + i3).toNatClampNeg then none else
      if 1 + i3 < 0 ∨ 297 ≤ (1 + i3).toNatClampNeg then none else
      lt (um M 177 (1 + i3).toNatClampNeg (M 177 (11 + i3).toNatClampNeg)) fun (M9 : Mem) =>
      if 11 + i3 < 0 ∨ 297 ≤ (11 + i3).toNatClampNeg then none else
      lt (um M9 177 (11 + i3).toNatClampNeg v6) fun (M11 : Mem) =>
      rec (i3 + 1) M11
    else
      if 11 + i3 < 0 ∨ 297 ≤ (11 + i3).toNatClampNeg then none else
      if M 177 (11 + i3).toNatClampNeg = i1 then
        if 1 + i3 < 0 ∨ 297 ≤ (1 + i3).toNatClampNeg then none else
        lt (M 177 (1 + i3).toNatClampNeg) fun (v15 : Int32) =>
        if 11 + i3 < 0 ∨ 297 ≤ (11 + i3).toNatClampNeg then none else
        if 1 + i3 < 0 ∨ 297 ≤ (1 + i3).toNatClampNeg then none else
        lt (um M 177 (1 + i3).toNatClampNeg (M 177 (11 + i3).toNatClampNeg)) fun (M18 : Mem) =>
        if 11 + i3 < 0 ∨ 297 ≤ (11 + i3).toNatClampNeg then none else
        lt (um M18 177 (11 + i3).toNatClampNeg v15) fun (M20 : Mem) =>
        rec (i3 + 1) M20
      else
        rec (i3 + 1) M
def f_X8_turn_66 (i1 : Int32) (i2 : Int32) (k : Int32 → Mem → Option (Int32 × Mem)) : Nat → Int32 → Mem → Option (Int32 × Mem)
  | 0 => fun _ _ => none
  | n + 1 => fun i3 M => s_X8_turn_66 i1 i2 k (f_X8_turn_66 i1 i2 k n) i3 M
set_option maxRecDepth 100000 in
set_option maxHeartbeats 4000000 in
theorem w_X8_turn_66 (l : Launch) (x : WX) {i1 : Int32} {i2 : Int32} {k : Int32 → Mem → Option (Int32 × Mem)} {r : (Int32 × Mem)}  (K : ∀ (i3 : Int32) (M : Mem), k i3 M = some r → Ev l x false cX8_turn RX8 (some FieldType.int) 5 2 0 0 (pI r.1 r.2) 145 [some (.ref (x.2.2.1 + 176)), some (.int i1), some (.int i2), some (.int i3), none] [] LAY M) : ∀ (n : Nat) (i3 : Int32) (M : Mem), f_X8_turn_66 i1 i2 k n i3 M = some r → Ev l x false cX8_turn RX8 (some FieldType.int) 5 2 0 0 (pI r.1 r.2) 66 [some (.ref (x.2.2.1 + 176)), some (.int i1), some (.int i2), some (.int i3), none] [] LAY M := by
  intro n
  induction n with
  | zero =>
    intro i3 M h
    exact nomatch (show (none : Option (Int32 × Mem)) = some r from h)
  | succ n ih =>
    intro i3 M h
    have h : s_X8_turn_66 i1 i2 k (f_X8_turn_66 i1 i2 k n) i3 M = some r := h
    unfold s_X8_turn_66 at h
    refine e_iload_n aX8_turn_66 rfl ?_
    refine e_aload_n aX8_turn_67 rfl ?_
    refine e_getR (r := 177) aX8_turn_68 fX8_13 ly_176 rfl ?_
    refine e_iconst (v := 0) aX8_turn_71 (by decide) ?_
    obtain ⟨hg1, h⟩ := of_guard h
    refine e_iald aX8_turn_72 ly_177 hg1 ?_
    rcases of_ite h with ⟨hc2, h⟩ | ⟨hc2, h⟩
    · refine e_icmp_ge (tgt := 145) aX8_turn_73 (by decide) (fun _ => ?_) (fun q => absurd hc2 q)
      exact K _ _ h
    · refine e_icmp_ge (tgt := 145) aX8_turn_73 (by decide) (fun q => absurd q hc2) (fun _ => ?_)
      refine e_aload_n aX8_turn_76 rfl ?_
      refine e_getR (r := 177) aX8_turn_77 fX8_13 ly_176 rfl ?_
      refine e_iconst (v := 1) aX8_turn_80 (by decide) ?_
      refine e_iload_n aX8_turn_81 rfl ?_
      refine e_iadd aX8_turn_82 ?_
      obtain ⟨hg3, h⟩ := of_guard h
      refine e_iald aX8_turn_83 ly_177 hg3 ?_
      refine e_iload_n aX8_turn_84 rfl ?_
      rcases of_ite h with ⟨hc4, h⟩ | ⟨hc4, h⟩
      · refine e_icmp_eq (tgt := 101) aX8_turn_85 (by decide) (fun _ => ?_) (fun q => absurd hc4 q)
        refine e_aload_n aX8_turn_101 rfl ?_
        refine e_getR (r := 177) aX8_turn_102 fX8_13 ly_176 rfl ?_
        refine e_iconst (v := 1) aX8_turn_105 (by decide) ?_
        refine e_iload_n aX8_turn_106 rfl ?_
        refine e_iadd aX8_turn_107 ?_
        obtain ⟨hg5, h⟩ := of_guard h
        refine e_iald aX8_turn_108 ly_177 hg5 ?_
        obtain ⟨v6, ev6, h⟩ := of_lt h
        refine e_nameI ev6 ?_
        refine e_istore (L2 := [some (.ref (x.2.2.1 + 176)), some (.int i1), some (.int i2), some (.int i3), some (.int v6)]) aX8_turn_109 ⟨by decide, rfl⟩ rfl ?_
        refine e_aload_n aX8_turn_111 rfl ?_
        refine e_getR (r := 177) aX8_turn_112 fX8_13 ly_176 rfl ?_
        refine e_iconst (v := 1) aX8_turn_115 (by decide) ?_
        refine e_iload_n aX8_turn_116 rfl ?_
        refine e_iadd aX8_turn_117 ?_
        refine e_aload_n aX8_turn_118 rfl ?_
        refine e_getR (r := 177) aX8_turn_119 fX8_13 ly_176 rfl ?_
        refine e_bipush (v := 11) aX8_turn_122 (by decide) ?_
        refine e_iload_n aX8_turn_124 rfl ?_
        refine e_iadd aX8_turn_125 ?_
        obtain ⟨hg7, h⟩ := of_guard h
        refine e_iald aX8_turn_126 ly_177 hg7 ?_
        obtain ⟨hg8, h⟩ := of_guard h
        obtain ⟨M9, eM9, h⟩ := of_lt h
        refine e_ist aX8_turn_127 ly_177 hg8 eM9 ?_
        refine e_aload_n aX8_turn_128 rfl ?_
        refine e_getR (r := 177) aX8_turn_129 fX8_13 ly_176 rfl ?_
        refine e_bipush (v := 11) aX8_turn_132 (by decide) ?_
        refine e_iload_n aX8_turn_134 rfl ?_
        refine e_iadd aX8_turn_135 ?_
        refine e_iload aX8_turn_136 rfl ?_
        obtain ⟨hg10, h⟩ := of_guard h
        obtain ⟨M11, eM11, h⟩ := of_lt h
        refine e_ist aX8_turn_138 ly_177 hg10 eM11 ?_
        refine e_iinc (v := i3 + 1) (L2 := [some (.ref (x.2.2.1 + 176)), some (.int i1), some (.int i2), some (.int (i3 + 1)), some (.int v6)]) aX8_turn_139 rfl rfl ⟨by decide, rfl⟩ rfl ?_
        refine e_goto (tgt := 66) aX8_turn_142 (by decide) ?_
        refine e_drop 4 (L2 := [some (.ref (x.2.2.1 + 176)), some (.int i1), some (.int i2), some (.int (i3 + 1)), none]) rfl ?_
        exact ih _ _ h
      · refine e_icmp_eq (tgt := 101) aX8_turn_85 (by decide) (fun q => absurd q hc4) (fun _ => ?_)
        refine e_aload_n aX8_turn_88 rfl ?_
        refine e_getR (r := 177) aX8_turn_89 fX8_13 ly_176 rfl ?_
        refine e_bipush (v := 11) aX8_turn_92 (by decide) ?_
        refine e_iload_n aX8_turn_94 rfl ?_
        refine e_iadd aX8_turn_95 ?_
        obtain ⟨hg12, h⟩ := of_guard h
        refine e_iald aX8_turn_96 ly_177 hg12 ?_
        refine e_iload_n aX8_turn_97 rfl ?_
        rcases of_ite h with ⟨hc13, h⟩ | ⟨hc13, h⟩
        · refine e_icmp_ne (tgt := 139) aX8_turn_98 (by decide) (fun q => absurd hc13 q) (fun _ => ?_)
          refine e_aload_n aX8_turn_101 rfl ?_
          refine e_getR (r := 177) aX8_turn_102 fX8_13 ly_176 rfl ?_
          refine e_iconst (v := 1) aX8_turn_105 (by decide) ?_
          refine e_iload_n aX8_turn_106 rfl ?_
          refine e_iadd aX8_turn_107 ?_
          obtain ⟨hg14, h⟩ := of_guard h
          refine e_iald aX8_turn_108 ly_177 hg14 ?_
          obtain ⟨v15, ev15, h⟩ := of_lt h
          refine e_nameI ev15 ?_
          refine e_istore (L2 := [some (.ref (x.2.2.1 + 176)), some (.int i1), some (.int i2), some (.int i3), some (.int v15)]) aX8_turn_109 ⟨by decide, rfl⟩ rfl ?_
          refine e_aload_n aX8_turn_111 rfl ?_
          refine e_getR (r := 177) aX8_turn_112 fX8_13 ly_176 rfl ?_
          refine e_iconst (v := 1) aX8_turn_115 (by decide) ?_
          refine e_iload_n aX8_turn_116 rfl ?_
          refine e_iadd aX8_turn_117 ?_
          refine e_aload_n aX8_turn_118 rfl ?_
          refine e_getR (r := 177) aX8_turn_119 fX8_13 ly_176 rfl ?_
          refine e_bipush (v := 11) aX8_turn_122 (by decide) ?_
          refine e_iload_n aX8_turn_124 rfl ?_
          refine e_iadd aX8_turn_125 ?_
          obtain ⟨hg16, h⟩ := of_guard h
          refine e_iald aX8_turn_126 ly_177 hg16 ?_
          obtain ⟨hg17, h⟩ := of_guard h
          obtain ⟨M18, eM18, h⟩ := of_lt h
          refine e_ist aX8_turn_127 ly_177 hg17 eM18 ?_
          refine e_aload_n aX8_turn_128 rfl ?_
          refine e_getR (r := 177) aX8_turn_129 fX8_13 ly_176 rfl ?_
          refine e_bipush (v := 11) aX8_turn_132 (by decide) ?_
          refine e_iload_n aX8_turn_134 rfl ?_
          refine e_iadd aX8_turn_135 ?_
          refine e_iload aX8_turn_136 rfl ?_
          obtain ⟨hg19, h⟩ := of_guard h
          obtain ⟨M20, eM20, h⟩ := of_lt h
          refine e_ist aX8_turn_138 ly_177 hg19 eM20 ?_
          refine e_iinc (v := i3 + 1) (L2 := [some (.ref (x.2.2.1 + 176)), some (.int i1), some (.int i2), some (.int (i3 + 1)), some (.int v15)]) aX8_turn_139 rfl rfl ⟨by decide, rfl⟩ rfl ?_
          refine e_goto (tgt := 66) aX8_turn_142 (by decide) ?_
          refine e_drop 4 (L2 := [some (.ref (x.2.2.1 + 176)), some (.int i1), some (.int i2), some (.int (i3 + 1)), none]) rfl ?_
          exact ih _ _ h
        · refine e_icmp_ne (tgt := 139) aX8_turn_98 (by decide) (fun _ => ?_) (fun q => absurd q hc13)
          refine e_iinc (v := i3 + 1) (L2 := [some (.ref (x.2.2.1 + 176)), some (.int i1), some (.int i2), some (.int (i3 + 1)), none]) aX8_turn_139 rfl rfl ⟨by decide, rfl⟩ rfl ?_
          refine e_goto (tgt := 66) aX8_turn_142 (by decide) ?_
          exact ih _ _ h
def f_X8_turn (i1 : Int32) (M : Mem) : Option (Int32 × Mem) :=
  (f_X8_isPoint i1 M).bind fun (r1 : Int32) =>
  if r1 = 0 then
    some ((-1000001), M)
  else
    (f_X8_about i1 M).bind fun (r3 : Int32) =>
    (f_X8_comes i1 M).bind fun (r4 : Int32) =>
    if r4 ≤ 0 then
      (f_X8_in r3.toInt64 (-99) 99 M).bind fun (r6 : Int32) =>
      if r6 = 0 then
        some ((-1000003), M)
      else
        (f_X8_keepPast M).bind fun (M8 : Mem) =>
        if 21 + i1 < 0 ∨ 297 ≤ (21 + i1).toNatClampNeg then none else
        lt (um M8 177 (21 + i1).toNatClampNeg r3) fun (M10 : Mem) =>
        f_X8_turn_66 i1 r3 (fun (i3_11 : Int32) (M12 : Mem) =>
          lt (um M12 176 13 0) fun (M13 : Mem) =>
          some (r3, M13)) FU 0 M10
    else
      (f_X8_goes i1 M).bind fun (r14 : Int32) =>
      if 0 < r14 then
        some ((-1000003), M)
      else
        (f_X8_in r3.toInt64 (-99) 99 M).bind fun (r16 : Int32) =>
        if r16 = 0 then
          some ((-1000003), M)
        else
          (f_X8_keepPast M).bind fun (M18 : Mem) =>
          if 21 + i1 < 0 ∨ 297 ≤ (21 + i1).toNatClampNeg then none else
          lt (um M18 177 (21 + i1).toNatClampNeg r3) fun (M20 : Mem) =>
          f_X8_turn_66 i1 r3 (fun (i3_21 : Int32) (M22 : Mem) =>
            lt (um M22 176 13 0) fun (M23 : Mem) =>
            some (r3, M23)) FU 0 M20
set_option maxRecDepth 100000 in
set_option maxHeartbeats 4000000 in
theorem c_X8_turn (l : Launch) (x : WX) {i1 : Int32} {M : Mem} {r : (Int32 × Mem)}  (h : f_X8_turn i1 M = some r) : Mt l x false yX8_turn cX8_turn 5 (some FieldType.int) 2 0 0 [.ref (x.2.2.1 + 176), .int i1] LAY M (pI r.1 r.2) := by
  refine mt_of (L0 := [some (.ref (x.2.2.1 + 176)), some (.int i1), none, none, none]) (by decide +kernel) rfl (Nat.le_of_ble_eq_true rfl) (lvA_of 3 rfl) ?_
  unfold f_X8_turn at h
  refine e_aload_n aX8_turn_0 rfl ?_
  refine e_iload_n aX8_turn_1 rfl ?_
  obtain ⟨r1, hr1, h⟩ := of_bind h
  refine e_VI [] aX8_turn_2 co_X8_isPoint mX8_172 ly_176 rfl rfl (c_X8_isPoint l x hr1) rfl ⟨by decide, by decide⟩ (Nat.le_of_ble_eq_true rfl) rfl ?_
  rcases of_ite h with ⟨hc2, h⟩ | ⟨hc2, h⟩
  · refine e_if_ne (tgt := 11) aX8_turn_5 (by decide) (fun q => absurd hc2 q) (fun _ => ?_)
    refine e_ldc aX8_turn_8 kX8_168 ?_
    exact e_retI aX8_turn_10 rfl rfl (pI_of h)
  · refine e_if_ne (tgt := 11) aX8_turn_5 (by decide) (fun _ => ?_) (fun q => absurd q hc2)
    refine e_aload_n aX8_turn_11 rfl ?_
    refine e_iload_n aX8_turn_12 rfl ?_
    obtain ⟨r3, hr3, h⟩ := of_bind h
    refine e_VI [] aX8_turn_13 co_X8_about mX8_223 ly_176 rfl rfl (c_X8_about l x hr3) rfl ⟨by decide, by decide⟩ (Nat.le_of_ble_eq_true rfl) rfl ?_
    refine e_istore_n (L2 := [some (.ref (x.2.2.1 + 176)), some (.int i1), some (.int r3), none, none]) aX8_turn_16 ⟨by decide, rfl⟩ rfl ?_
    refine e_aload_n aX8_turn_17 rfl ?_
    refine e_iload_n aX8_turn_18 rfl ?_
    obtain ⟨r4, hr4, h⟩ := of_bind h
    refine e_VI [] aX8_turn_19 co_X8_comes mX8_179 ly_176 rfl rfl (c_X8_comes l x hr4) rfl ⟨by decide, by decide⟩ (Nat.le_of_ble_eq_true rfl) rfl ?_
    rcases of_ite h with ⟨hc5, h⟩ | ⟨hc5, h⟩
    · refine e_if_le (tgt := 33) aX8_turn_22 (by decide) (fun _ => ?_) (fun q => absurd hc5 q)
      refine e_iload_n aX8_turn_33 rfl ?_
      refine e_i2l aX8_turn_34 ?_
      refine e_ldc2_w aX8_turn_35 kX8_226 ?_
      refine e_ldc2_w aX8_turn_38 kX8_228 ?_
      obtain ⟨r6, hr6, h⟩ := of_bind h
      refine e_SI [] aX8_turn_41 co_X8_in mX8_72 (c_X8_in l x hr6) rfl ⟨by decide, by decide⟩ (Nat.le_of_ble_eq_true rfl) rfl ?_
      rcases of_ite h with ⟨hc7, h⟩ | ⟨hc7, h⟩
      · refine e_if_ne (tgt := 50) aX8_turn_44 (by decide) (fun q => absurd hc7 q) (fun _ => ?_)
        refine e_ldc aX8_turn_47 kX8_161 ?_
        exact e_retI aX8_turn_49 rfl rfl (pI_of h)
      · refine e_if_ne (tgt := 50) aX8_turn_44 (by decide) (fun _ => ?_) (fun q => absurd q hc7)
        refine e_aload_n aX8_turn_50 rfl ?_
        obtain ⟨M8, hM8, h⟩ := of_bind h
        refine e_VV [] aX8_turn_51 co_X8_keepPast mX8_220 ly_176 rfl rfl (c_X8_keepPast l x hM8) rfl ⟨by decide, by decide⟩ (Nat.le_of_ble_eq_true rfl) rfl ?_
        refine e_aload_n aX8_turn_54 rfl ?_
        refine e_getR (r := 177) aX8_turn_55 fX8_13 ly_176 rfl ?_
        refine e_bipush (v := 21) aX8_turn_58 (by decide) ?_
        refine e_iload_n aX8_turn_60 rfl ?_
        refine e_iadd aX8_turn_61 ?_
        refine e_iload_n aX8_turn_62 rfl ?_
        obtain ⟨hg9, h⟩ := of_guard h
        obtain ⟨M10, eM10, h⟩ := of_lt h
        refine e_ist aX8_turn_63 ly_177 hg9 eM10 ?_
        refine e_iconst (v := 0) aX8_turn_64 (by decide) ?_
        refine e_istore_n (L2 := [some (.ref (x.2.2.1 + 176)), some (.int i1), some (.int r3), some (.int 0), none]) aX8_turn_65 ⟨by decide, rfl⟩ rfl ?_
        refine w_X8_turn_66 l x  (fun i3_11 M12 h => ?_) FU _ _ h
        refine e_aload_n aX8_turn_145 rfl ?_
        refine e_iconst (v := 0) aX8_turn_146 (by decide) ?_
        obtain ⟨M13, eM13, h⟩ := of_lt h
        refine e_put aX8_turn_147 qX8_165 ly_176 rfl (by decide +kernel) eM13 ?_
        refine e_iload_n aX8_turn_150 rfl ?_
        exact e_retI aX8_turn_151 rfl rfl (pI_of h)
    · refine e_if_le (tgt := 33) aX8_turn_22 (by decide) (fun q => absurd q hc5) (fun _ => ?_)
      refine e_aload_n aX8_turn_25 rfl ?_
      refine e_iload_n aX8_turn_26 rfl ?_
      obtain ⟨r14, hr14, h⟩ := of_bind h
      refine e_VI [] aX8_turn_27 co_X8_goes mX8_175 ly_176 rfl rfl (c_X8_goes l x hr14) rfl ⟨by decide, by decide⟩ (Nat.le_of_ble_eq_true rfl) rfl ?_
      rcases of_ite h with ⟨hc15, h⟩ | ⟨hc15, h⟩
      · refine e_if_gt (tgt := 47) aX8_turn_30 (by decide) (fun _ => ?_) (fun q => absurd hc15 q)
        refine e_ldc aX8_turn_47 kX8_161 ?_
        exact e_retI aX8_turn_49 rfl rfl (pI_of h)
      · refine e_if_gt (tgt := 47) aX8_turn_30 (by decide) (fun q => absurd q hc15) (fun _ => ?_)
        refine e_iload_n aX8_turn_33 rfl ?_
        refine e_i2l aX8_turn_34 ?_
        refine e_ldc2_w aX8_turn_35 kX8_226 ?_
        refine e_ldc2_w aX8_turn_38 kX8_228 ?_
        obtain ⟨r16, hr16, h⟩ := of_bind h
        refine e_SI [] aX8_turn_41 co_X8_in mX8_72 (c_X8_in l x hr16) rfl ⟨by decide, by decide⟩ (Nat.le_of_ble_eq_true rfl) rfl ?_
        rcases of_ite h with ⟨hc17, h⟩ | ⟨hc17, h⟩
        · refine e_if_ne (tgt := 50) aX8_turn_44 (by decide) (fun q => absurd hc17 q) (fun _ => ?_)
          refine e_ldc aX8_turn_47 kX8_161 ?_
          exact e_retI aX8_turn_49 rfl rfl (pI_of h)
        · refine e_if_ne (tgt := 50) aX8_turn_44 (by decide) (fun _ => ?_) (fun q => absurd q hc17)
          refine e_aload_n aX8_turn_50 rfl ?_
          obtain ⟨M18, hM18, h⟩ := of_bind h
          refine e_VV [] aX8_turn_51 co_X8_keepPast mX8_220 ly_176 rfl rfl (c_X8_keepPast l x hM18) rfl ⟨by decide, by decide⟩ (Nat.le_of_ble_eq_true rfl) rfl ?_
          refine e_aload_n aX8_turn_54 rfl ?_
          refine e_getR (r := 177) aX8_turn_55 fX8_13 ly_176 rfl ?_
          refine e_bipush (v := 21) aX8_turn_58 (by decide) ?_
          refine e_iload_n aX8_turn_60 rfl ?_
          refine e_iadd aX8_turn_61 ?_
          refine e_iload_n aX8_turn_62 rfl ?_
          obtain ⟨hg19, h⟩ := of_guard h
          obtain ⟨M20, eM20, h⟩ := of_lt h
          refine e_ist aX8_turn_63 ly_177 hg19 eM20 ?_
          refine e_iconst (v := 0) aX8_turn_64 (by decide) ?_
          refine e_istore_n (L2 := [some (.ref (x.2.2.1 + 176)), some (.int i1), some (.int r3), some (.int 0), none]) aX8_turn_65 ⟨by decide, rfl⟩ rfl ?_
          refine w_X8_turn_66 l x  (fun i3_21 M22 h => ?_) FU _ _ h
          refine e_aload_n aX8_turn_145 rfl ?_
          refine e_iconst (v := 0) aX8_turn_146 (by decide) ?_
          obtain ⟨M23, eM23, h⟩ := of_lt h
          refine e_put aX8_turn_147 qX8_165 ly_176 rfl (by decide +kernel) eM23 ?_
          refine e_iload_n aX8_turn_150 rfl ?_
          exact e_retI aX8_turn_151 rfl rfl (pI_of h)
def f_X8_set (i1 : Int32) (i2 : Int32) (M : Mem) : Option (Int32 × Mem) :=
  (f_X8_isPoint i1 M).bind fun (r1 : Int32) =>
  if r1 = 0 then
    some ((-1000001), M)
  else
    (f_X8_in i2.toInt64 (-99) 99 M).bind fun (r3 : Int32) =>
    if r3 = 0 then
      some ((-1000002), M)
    else
      (f_X8_keepPast M).bind fun (M5 : Mem) =>
      if 21 + i1 < 0 ∨ 297 ≤ (21 + i1).toNatClampNeg then none else
      lt (M5 177 (21 + i1).toNatClampNeg) fun (v7 : Int32) =>
      if 21 + i1 < 0 ∨ 297 ≤ (21 + i1).toNatClampNeg then none else
      lt (um M5 177 (21 + i1).toNatClampNeg i2) fun (M9 : Mem) =>
      some (v7, M9)
set_option maxRecDepth 100000 in
set_option maxHeartbeats 4000000 in
theorem c_X8_set (l : Launch) (x : WX) {i1 : Int32} {i2 : Int32} {M : Mem} {r : (Int32 × Mem)}  (h : f_X8_set i1 i2 M = some r) : Mt l x false yX8_set cX8_set 4 (some FieldType.int) 2 0 0 [.ref (x.2.2.1 + 176), .int i1, .int i2] LAY M (pI r.1 r.2) := by
  refine mt_of (L0 := [some (.ref (x.2.2.1 + 176)), some (.int i1), some (.int i2), none]) (by decide +kernel) rfl (Nat.le_of_ble_eq_true rfl) (lvA_of 1 rfl) ?_
  unfold f_X8_set at h
  refine e_aload_n aX8_set_0 rfl ?_
  refine e_iload_n aX8_set_1 rfl ?_
  obtain ⟨r1, hr1, h⟩ := of_bind h
  refine e_VI [] aX8_set_2 co_X8_isPoint mX8_172 ly_176 rfl rfl (c_X8_isPoint l x hr1) rfl ⟨by decide, by decide⟩ (Nat.le_of_ble_eq_true rfl) rfl ?_
  rcases of_ite h with ⟨hc2, h⟩ | ⟨hc2, h⟩
  · refine e_if_ne (tgt := 11) aX8_set_5 (by decide) (fun q => absurd hc2 q) (fun _ => ?_)
    refine e_ldc aX8_set_8 kX8_168 ?_
    exact e_retI aX8_set_10 rfl rfl (pI_of h)
  · refine e_if_ne (tgt := 11) aX8_set_5 (by decide) (fun _ => ?_) (fun q => absurd q hc2)
    refine e_iload_n aX8_set_11 rfl ?_
    refine e_i2l aX8_set_12 ?_
    refine e_ldc2_w aX8_set_13 kX8_226 ?_
    refine e_ldc2_w aX8_set_16 kX8_228 ?_
    obtain ⟨r3, hr3, h⟩ := of_bind h
    refine e_SI [] aX8_set_19 co_X8_in mX8_72 (c_X8_in l x hr3) rfl ⟨by decide, by decide⟩ (Nat.le_of_ble_eq_true rfl) rfl ?_
    rcases of_ite h with ⟨hc4, h⟩ | ⟨hc4, h⟩
    · refine e_if_ne (tgt := 28) aX8_set_22 (by decide) (fun q => absurd hc4 q) (fun _ => ?_)
      refine e_ldc aX8_set_25 kX8_78 ?_
      exact e_retI aX8_set_27 rfl rfl (pI_of h)
    · refine e_if_ne (tgt := 28) aX8_set_22 (by decide) (fun _ => ?_) (fun q => absurd q hc4)
      refine e_aload_n aX8_set_28 rfl ?_
      obtain ⟨M5, hM5, h⟩ := of_bind h
      refine e_VV [] aX8_set_29 co_X8_keepPast mX8_220 ly_176 rfl rfl (c_X8_keepPast l x hM5) rfl ⟨by decide, by decide⟩ (Nat.le_of_ble_eq_true rfl) rfl ?_
      refine e_aload_n aX8_set_32 rfl ?_
      refine e_getR (r := 177) aX8_set_33 fX8_13 ly_176 rfl ?_
      refine e_bipush (v := 21) aX8_set_36 (by decide) ?_
      refine e_iload_n aX8_set_38 rfl ?_
      refine e_iadd aX8_set_39 ?_
      obtain ⟨hg6, h⟩ := of_guard h
      refine e_iald aX8_set_40 ly_177 hg6 ?_
      obtain ⟨v7, ev7, h⟩ := of_lt h
      refine e_nameI ev7 ?_
      refine e_istore_n (L2 := [some (.ref (x.2.2.1 + 176)), some (.int i1), some (.int i2), some (.int v7)]) aX8_set_41 ⟨by decide, rfl⟩ rfl ?_
      refine e_aload_n aX8_set_42 rfl ?_
      refine e_getR (r := 177) aX8_set_43 fX8_13 ly_176 rfl ?_
      refine e_bipush (v := 21) aX8_set_46 (by decide) ?_
      refine e_iload_n aX8_set_48 rfl ?_
      refine e_iadd aX8_set_49 ?_
      refine e_iload_n aX8_set_50 rfl ?_
      obtain ⟨hg8, h⟩ := of_guard h
      obtain ⟨M9, eM9, h⟩ := of_lt h
      refine e_ist aX8_set_51 ly_177 hg8 eM9 ?_
      refine e_iload_n aX8_set_52 rfl ?_
      exact e_retI aX8_set_53 rfl rfl (pI_of h)
def s_X8_becomes_4  (M : Mem) (k : Int32 → Int32 → Option (Int32 × Mem)) (rec : Int32 → Int32 → Option (Int32 × Mem)) (i1 : Int32) (i2 : Int32) : Option (Int32 × Mem) :=
  if M 176 0 ≤ i2 then
    k i1 i2
  else
    if i1 = 0 then
      rec 0 (i2 + 1)
    else
      if i2 < 0 ∨ 6 ≤ i2.toNatClampNeg then none else
      (f_X8_in ((M 193 i2.toNatClampNeg).toInt64) (-99) 99 M).bind fun (r4 : Int32) =>
      if r4 = 0 then
        rec 0 (i2 + 1)
      else
        rec 1 (i2 + 1)
def f_X8_becomes_4  (M : Mem) (k : Int32 → Int32 → Option (Int32 × Mem)) : Nat → Int32 → Int32 → Option (Int32 × Mem)
  | 0 => fun _ _ => none
  | n + 1 => fun i1 i2 => s_X8_becomes_4  M k (f_X8_becomes_4  M k n) i1 i2
set_option maxRecDepth 100000 in
set_option maxHeartbeats 4000000 in
theorem w_X8_becomes_4 (l : Launch) (x : WX)  {M : Mem} {k : Int32 → Int32 → Option (Int32 × Mem)} {r : (Int32 × Mem)}  (K : ∀ (i1 : Int32) (i2 : Int32), k i1 i2 = some r → Ev l x false cX8_becomes RX8 (some FieldType.boolean) 3 2 0 0 (pI r.1 r.2) 47 [some (.ref (x.2.2.1 + 176)), some (.int i1), some (.int i2)] [] LAY M) : ∀ (n : Nat) (i1 : Int32) (i2 : Int32), f_X8_becomes_4  M k n i1 i2 = some r → Ev l x false cX8_becomes RX8 (some FieldType.boolean) 3 2 0 0 (pI r.1 r.2) 4 [some (.ref (x.2.2.1 + 176)), some (.int i1), some (.int i2)] [] LAY M := by
  intro n
  induction n with
  | zero =>
    intro i1 i2 h
    exact nomatch (show (none : Option (Int32 × Mem)) = some r from h)
  | succ n ih =>
    intro i1 i2 h
    have h : s_X8_becomes_4  M k (f_X8_becomes_4  M k n) i1 i2 = some r := h
    unfold s_X8_becomes_4 at h
    refine e_iload_n aX8_becomes_4 rfl ?_
    refine e_aload_n aX8_becomes_5 rfl ?_
    refine e_getI aX8_becomes_6 fX8_7 ly_176 rfl ?_
    rcases of_ite h with ⟨hc1, h⟩ | ⟨hc1, h⟩
    · refine e_icmp_ge (tgt := 47) aX8_becomes_9 (by decide) (fun _ => ?_) (fun q => absurd hc1 q)
      exact K _ _ h
    · refine e_icmp_ge (tgt := 47) aX8_becomes_9 (by decide) (fun q => absurd q hc1) (fun _ => ?_)
      refine e_iload_n aX8_becomes_12 rfl ?_
      rcases of_ite h with ⟨hc2, h⟩ | ⟨hc2, h⟩
      · refine e_if_eq (tgt := 39) aX8_becomes_13 (by decide) (fun _ => ?_) (fun q => absurd hc2 q)
        refine e_iconst (v := 0) aX8_becomes_39 (by decide) ?_
        refine e_istore_n (L2 := [some (.ref (x.2.2.1 + 176)), some (.int 0), some (.int i2)]) aX8_becomes_40 ⟨by decide, rfl⟩ rfl ?_
        refine e_iinc (v := i2 + 1) (L2 := [some (.ref (x.2.2.1 + 176)), some (.int 0), some (.int (i2 + 1))]) aX8_becomes_41 rfl rfl ⟨by decide, rfl⟩ rfl ?_
        refine e_goto (tgt := 4) aX8_becomes_44 (by decide) ?_
        exact ih _ _ h
      · refine e_if_eq (tgt := 39) aX8_becomes_13 (by decide) (fun q => absurd q hc2) (fun _ => ?_)
        refine e_aload_n aX8_becomes_16 rfl ?_
        refine e_getR (r := 193) aX8_becomes_17 fX8_63 ly_176 rfl ?_
        refine e_iload_n aX8_becomes_20 rfl ?_
        obtain ⟨hg3, h⟩ := of_guard h
        refine e_iald aX8_becomes_21 ly_193 hg3 ?_
        refine e_i2l aX8_becomes_22 ?_
        refine e_ldc2_w aX8_becomes_23 kX8_226 ?_
        refine e_ldc2_w aX8_becomes_26 kX8_228 ?_
        obtain ⟨r4, hr4, h⟩ := of_bind h
        refine e_SI [] aX8_becomes_29 co_X8_in mX8_72 (c_X8_in l x hr4) rfl ⟨by decide, by decide⟩ (Nat.le_of_ble_eq_true rfl) rfl ?_
        rcases of_ite h with ⟨hc5, h⟩ | ⟨hc5, h⟩
        · refine e_if_eq (tgt := 39) aX8_becomes_32 (by decide) (fun _ => ?_) (fun q => absurd hc5 q)
          refine e_iconst (v := 0) aX8_becomes_39 (by decide) ?_
          refine e_istore_n (L2 := [some (.ref (x.2.2.1 + 176)), some (.int 0), some (.int i2)]) aX8_becomes_40 ⟨by decide, rfl⟩ rfl ?_
          refine e_iinc (v := i2 + 1) (L2 := [some (.ref (x.2.2.1 + 176)), some (.int 0), some (.int (i2 + 1))]) aX8_becomes_41 rfl rfl ⟨by decide, rfl⟩ rfl ?_
          refine e_goto (tgt := 4) aX8_becomes_44 (by decide) ?_
          exact ih _ _ h
        · refine e_if_eq (tgt := 39) aX8_becomes_32 (by decide) (fun q => absurd q hc5) (fun _ => ?_)
          refine e_iconst (v := 1) aX8_becomes_35 (by decide) ?_
          refine e_goto (tgt := 40) aX8_becomes_36 (by decide) ?_
          refine e_istore_n (L2 := [some (.ref (x.2.2.1 + 176)), some (.int 1), some (.int i2)]) aX8_becomes_40 ⟨by decide, rfl⟩ rfl ?_
          refine e_iinc (v := i2 + 1) (L2 := [some (.ref (x.2.2.1 + 176)), some (.int 1), some (.int (i2 + 1))]) aX8_becomes_41 rfl rfl ⟨by decide, rfl⟩ rfl ?_
          refine e_goto (tgt := 4) aX8_becomes_44 (by decide) ?_
          exact ih _ _ h
def s_X8_becomes_57 (i1 : Int32) (k : Int32 → Mem → Option (Int32 × Mem)) (rec : Int32 → Mem → Option (Int32 × Mem)) (i2 : Int32) (M : Mem) : Option (Int32 × Mem) :=
  if M 176 0 ≤ i2 then
    k i2 M
  else
    if i2 < 0 ∨ 6 ≤ i2.toNatClampNeg then none else
    if 21 + i2 < 0 ∨ 297 ≤ (21 + i2).toNatClampNeg then none else
    lt (um M 177 (21 + i2).toNatClampNeg (M 193 i2.toNatClampNeg)) fun (M4 : Mem) =>
    rec (i2 + 1) M4
def f_X8_becomes_57 (i1 : Int32) (k : Int32 → Mem → Option (Int32 × Mem)) : Nat → Int32 → Mem → Option (Int32 × Mem)
  | 0 => fun _ _ => none
  | n + 1 => fun i2 M => s_X8_becomes_57 i1 k (f_X8_becomes_57 i1 k n) i2 M
set_option maxRecDepth 100000 in
set_option maxHeartbeats 4000000 in
theorem w_X8_becomes_57 (l : Launch) (x : WX) {i1 : Int32} {k : Int32 → Mem → Option (Int32 × Mem)} {r : (Int32 × Mem)}  (K : ∀ (i2 : Int32) (M : Mem), k i2 M = some r → Ev l x false cX8_becomes RX8 (some FieldType.boolean) 3 2 0 0 (pI r.1 r.2) 86 [some (.ref (x.2.2.1 + 176)), some (.int i1), some (.int i2)] [] LAY M) : ∀ (n : Nat) (i2 : Int32) (M : Mem), f_X8_becomes_57 i1 k n i2 M = some r → Ev l x false cX8_becomes RX8 (some FieldType.boolean) 3 2 0 0 (pI r.1 r.2) 57 [some (.ref (x.2.2.1 + 176)), some (.int i1), some (.int i2)] [] LAY M := by
  intro n
  induction n with
  | zero =>
    intro i2 M h
    exact nomatch (show (none : Option (Int32 × Mem)) = some r from h)
  | succ n ih =>
    intro i2 M h
    have h : s_X8_becomes_57 i1 k (f_X8_becomes_57 i1 k n) i2 M = some r := h
    unfold s_X8_becomes_57 at h
    refine e_iload_n aX8_becomes_57 rfl ?_
    refine e_aload_n aX8_becomes_58 rfl ?_
    refine e_getI aX8_becomes_59 fX8_7 ly_176 rfl ?_
    rcases of_ite h with ⟨hc1, h⟩ | ⟨hc1, h⟩
    · refine e_icmp_ge (tgt := 86) aX8_becomes_62 (by decide) (fun _ => ?_) (fun q => absurd hc1 q)
      exact K _ _ h
    · refine e_icmp_ge (tgt := 86) aX8_becomes_62 (by decide) (fun q => absurd q hc1) (fun _ => ?_)
      refine e_aload_n aX8_becomes_65 rfl ?_
      refine e_getR (r := 177) aX8_becomes_66 fX8_13 ly_176 rfl ?_
      refine e_bipush (v := 21) aX8_becomes_69 (by decide) ?_
      refine e_iload_n aX8_becomes_71 rfl ?_
      refine e_iadd aX8_becomes_72 ?_
      refine e_aload_n aX8_becomes_73 rfl ?_
      refine e_getR (r := 193) aX8_becomes_74 fX8_63 ly_176 rfl ?_
      refine e_iload_n aX8_becomes_77 rfl ?_
      obtain ⟨hg2, h⟩ := of_guard h
      refine e_iald aX8_becomes_78 ly_193 hg2 ?_
      obtain ⟨hg3, h⟩ := of_guard h
      obtain ⟨M4, eM4, h⟩ := of_lt h
      refine e_ist aX8_becomes_79 ly_177 hg3 eM4 ?_
      refine e_iinc (v := i2 + 1) (L2 := [some (.ref (x.2.2.1 + 176)), some (.int i1), some (.int (i2 + 1))]) aX8_becomes_80 rfl rfl ⟨by decide, rfl⟩ rfl ?_
      refine e_goto (tgt := 57) aX8_becomes_83 (by decide) ?_
      exact ih _ _ h
def f_X8_becomes  (M : Mem) : Option (Int32 × Mem) :=
  f_X8_becomes_4  M (fun (i1_1 : Int32) (i2_2 : Int32) =>
    if i1_1 = 0 then
      if ¬ (i1_1 = 0 ∨ i1_1 = 1) then none else
      some (i1_1, M)
    else
      (f_X8_keepPast M).bind fun (M5 : Mem) =>
      f_X8_becomes_57 i1_1 (fun (i2_6 : Int32) (M7 : Mem) =>
        if ¬ (i1_1 = 0 ∨ i1_1 = 1) then none else
        some (i1_1, M7)) FU 0 M5) FU 1 0
set_option maxRecDepth 100000 in
set_option maxHeartbeats 4000000 in
theorem c_X8_becomes (l : Launch) (x : WX)  {M : Mem} {r : (Int32 × Mem)}  (h : f_X8_becomes  M = some r) : Mt l x false yX8_becomes cX8_becomes 3 (some FieldType.boolean) 2 0 0 [.ref (x.2.2.1 + 176)] LAY M (pI r.1 r.2) := by
  refine mt_of (L0 := [some (.ref (x.2.2.1 + 176)), none, none]) (by decide +kernel) rfl (Nat.le_of_ble_eq_true rfl) (lvA_of 2 rfl) ?_
  unfold f_X8_becomes at h
  refine e_iconst (v := 1) aX8_becomes_0 (by decide) ?_
  refine e_istore_n (L2 := [some (.ref (x.2.2.1 + 176)), some (.int 1), none]) aX8_becomes_1 ⟨by decide, rfl⟩ rfl ?_
  refine e_iconst (v := 0) aX8_becomes_2 (by decide) ?_
  refine e_istore_n (L2 := [some (.ref (x.2.2.1 + 176)), some (.int 1), some (.int 0)]) aX8_becomes_3 ⟨by decide, rfl⟩ rfl ?_
  refine w_X8_becomes_4 l x  (fun i1_1 i2_2 h => ?_) FU _ _ h
  refine e_iload_n aX8_becomes_47 rfl ?_
  rcases of_ite h with ⟨hc3, h⟩ | ⟨hc3, h⟩
  · refine e_if_eq (tgt := 86) aX8_becomes_48 (by decide) (fun _ => ?_) (fun q => absurd hc3 q)
    refine e_iload_n aX8_becomes_86 rfl ?_
    obtain ⟨hg4, h⟩ := of_guard h
    exact e_retI aX8_becomes_87 rfl (nz_of (Decidable.of_not_not hg4)) (pI_of h)
  · refine e_if_eq (tgt := 86) aX8_becomes_48 (by decide) (fun q => absurd q hc3) (fun _ => ?_)
    refine e_aload_n aX8_becomes_51 rfl ?_
    obtain ⟨M5, hM5, h⟩ := of_bind h
    refine e_VV [] aX8_becomes_52 co_X8_keepPast mX8_220 ly_176 rfl rfl (c_X8_keepPast l x hM5) rfl ⟨by decide, by decide⟩ (Nat.le_of_ble_eq_true rfl) rfl ?_
    refine e_iconst (v := 0) aX8_becomes_55 (by decide) ?_
    refine e_istore_n (L2 := [some (.ref (x.2.2.1 + 176)), some (.int i1_1), some (.int 0)]) aX8_becomes_56 ⟨by decide, rfl⟩ rfl ?_
    refine w_X8_becomes_57 l x  (fun i2_6 M7 h => ?_) FU _ _ h
    refine e_iload_n aX8_becomes_86 rfl ?_
    obtain ⟨hg8, h⟩ := of_guard h
    exact e_retI aX8_becomes_87 rfl (nz_of (Decidable.of_not_not hg8)) (pI_of h)
def s_X8_shifts_23 (i1 : Int32) (i2 : Int32) (k : Int32 → Mem → Option Mem) (rec : Int32 → Mem → Option Mem) (i3 : Int32) (M : Mem) : Option Mem :=
  if M 176 0 ≤ i3 then
    k i3 M
  else
    if i2 < 0 ∨ 6 ≤ i2.toNatClampNeg then none else
    if i1 = 0 then
      if (6 * i3) + i2 < 0 ∨ 36 ≤ ((6 * i3) + i2).toNatClampNeg then none else
      (f_X8_form 186 (6 * i3) 177 21 M).bind fun (r5 : Int32) =>
      if i2 < 0 ∨ 6 ≤ i2.toNatClampNeg then none else
      lt (um M 193 i2.toNatClampNeg ((M 193 i2.toNatClampNeg) - ((M 183 ((6 * i3) + i2).toNatClampNeg) * r5))) fun (M7 : Mem) =>
      rec (i3 + 1) M7
    else
      if (6 * i2) + i3 < 0 ∨ 36 ≤ ((6 * i2) + i3).toNatClampNeg then none else
      (f_X8_form 177 21 186 (6 * i3) M).bind fun (r9 : Int32) =>
      if i2 < 0 ∨ 6 ≤ i2.toNatClampNeg then none else
      lt (um M 193 i2.toNatClampNeg ((M 193 i2.toNatClampNeg) - ((M 183 ((6 * i2) + i3).toNatClampNeg) * r9))) fun (M11 : Mem) =>
      rec (i3 + 1) M11
def f_X8_shifts_23 (i1 : Int32) (i2 : Int32) (k : Int32 → Mem → Option Mem) : Nat → Int32 → Mem → Option Mem
  | 0 => fun _ _ => none
  | n + 1 => fun i3 M => s_X8_shifts_23 i1 i2 k (f_X8_shifts_23 i1 i2 k n) i3 M
set_option maxRecDepth 100000 in
set_option maxHeartbeats 4000000 in
theorem w_X8_shifts_23 (l : Launch) (x : WX) {i1 : Int32} {i2 : Int32} {k : Int32 → Mem → Option Mem} {r : Mem}  (K : ∀ (i3 : Int32) (M : Mem), k i3 M = some r → Ev l x false cX8_shifts RX8 none 4 3 0 0 (pV r) 113 [some (.ref (x.2.2.1 + 176)), some (.int i1), some (.int i2), some (.int i3)] [] LAY M) : ∀ (n : Nat) (i3 : Int32) (M : Mem), f_X8_shifts_23 i1 i2 k n i3 M = some r → Ev l x false cX8_shifts RX8 none 4 3 0 0 (pV r) 23 [some (.ref (x.2.2.1 + 176)), some (.int i1), some (.int i2), some (.int i3)] [] LAY M := by
  intro n
  induction n with
  | zero =>
    intro i3 M h
    exact nomatch (show (none : Option Mem) = some r from h)
  | succ n ih =>
    intro i3 M h
    have h : s_X8_shifts_23 i1 i2 k (f_X8_shifts_23 i1 i2 k n) i3 M = some r := h
    unfold s_X8_shifts_23 at h
    refine e_iload_n aX8_shifts_23 rfl ?_
    refine e_aload_n aX8_shifts_24 rfl ?_
    refine e_getI aX8_shifts_25 fX8_7 ly_176 rfl ?_
    rcases of_ite h with ⟨hc1, h⟩ | ⟨hc1, h⟩
    · refine e_icmp_ge (tgt := 113) aX8_shifts_28 (by decide) (fun _ => ?_) (fun q => absurd hc1 q)
      exact K _ _ h
    · refine e_icmp_ge (tgt := 113) aX8_shifts_28 (by decide) (fun q => absurd q hc1) (fun _ => ?_)
      refine e_aload_n aX8_shifts_31 rfl ?_
      refine e_getR (r := 193) aX8_shifts_32 fX8_63 ly_176 rfl ?_
      refine e_iload_n aX8_shifts_35 rfl ?_
      refine e_dup2 aX8_shifts_36 ?_
      obtain ⟨hg2, h⟩ := of_guard h
      refine e_iald aX8_shifts_37 ly_193 hg2 ?_
      refine e_iload_n aX8_shifts_38 rfl ?_
      rcases of_ite h with ⟨hc3, h⟩ | ⟨hc3, h⟩
      · refine e_if_eq (tgt := 75) aX8_shifts_39 (by decide) (fun _ => ?_) (fun q => absurd hc3 q)
        refine e_aload_n aX8_shifts_75 rfl ?_
        refine e_getR (r := 183) aX8_shifts_76 fX8_33 ly_176 rfl ?_
        refine e_bipush (v := 6) aX8_shifts_79 (by decide) ?_
        refine e_iload_n aX8_shifts_81 rfl ?_
        refine e_imul aX8_shifts_82 ?_
        refine e_iload_n aX8_shifts_83 rfl ?_
        refine e_iadd aX8_shifts_84 ?_
        obtain ⟨hg4, h⟩ := of_guard h
        refine e_iald aX8_shifts_85 ly_183 hg4 ?_
        refine e_aload_n aX8_shifts_86 rfl ?_
        refine e_aload_n aX8_shifts_87 rfl ?_
        refine e_getR (r := 186) aX8_shifts_88 fX8_42 ly_176 rfl ?_
        refine e_bipush (v := 6) aX8_shifts_91 (by decide) ?_
        refine e_iload_n aX8_shifts_93 rfl ?_
        refine e_imul aX8_shifts_94 ?_
        refine e_aload_n aX8_shifts_95 rfl ?_
        refine e_getR (r := 177) aX8_shifts_96 fX8_13 ly_176 rfl ?_
        refine e_bipush (v := 21) aX8_shifts_99 (by decide) ?_
        obtain ⟨r5, hr5, h⟩ := of_bind h
        refine e_VI [.int (M 183 ((6 * i3) + i2).toNatClampNeg), .int (M 193 i2.toNatClampNeg), .int i2, .ref (x.2.2.1 + 193)] aX8_shifts_101 co_X8_form mX8_191 ly_176 rfl rfl (c_X8_form l x ia_186 ia_177 hr5) rfl ⟨by decide, by decide⟩ (Nat.le_of_ble_eq_true rfl) rfl ?_
        refine e_imul aX8_shifts_104 ?_
        refine e_isub aX8_shifts_105 ?_
        obtain ⟨hg6, h⟩ := of_guard h
        obtain ⟨M7, eM7, h⟩ := of_lt h
        refine e_ist aX8_shifts_106 ly_193 hg6 eM7 ?_
        refine e_iinc (v := i3 + 1) (L2 := [some (.ref (x.2.2.1 + 176)), some (.int i1), some (.int i2), some (.int (i3 + 1))]) aX8_shifts_107 rfl rfl ⟨by decide, rfl⟩ rfl ?_
        refine e_goto (tgt := 23) aX8_shifts_110 (by decide) ?_
        exact ih _ _ h
      · refine e_if_eq (tgt := 75) aX8_shifts_39 (by decide) (fun q => absurd q hc3) (fun _ => ?_)
        refine e_aload_n aX8_shifts_42 rfl ?_
        refine e_getR (r := 183) aX8_shifts_43 fX8_33 ly_176 rfl ?_
        refine e_bipush (v := 6) aX8_shifts_46 (by decide) ?_
        refine e_iload_n aX8_shifts_48 rfl ?_
        refine e_imul aX8_shifts_49 ?_
        refine e_iload_n aX8_shifts_50 rfl ?_
        refine e_iadd aX8_shifts_51 ?_
        obtain ⟨hg8, h⟩ := of_guard h
        refine e_iald aX8_shifts_52 ly_183 hg8 ?_
        refine e_aload_n aX8_shifts_53 rfl ?_
        refine e_aload_n aX8_shifts_54 rfl ?_
        refine e_getR (r := 177) aX8_shifts_55 fX8_13 ly_176 rfl ?_
        refine e_bipush (v := 21) aX8_shifts_58 (by decide) ?_
        refine e_aload_n aX8_shifts_60 rfl ?_
        refine e_getR (r := 186) aX8_shifts_61 fX8_42 ly_176 rfl ?_
        refine e_bipush (v := 6) aX8_shifts_64 (by decide) ?_
        refine e_iload_n aX8_shifts_66 rfl ?_
        refine e_imul aX8_shifts_67 ?_
        obtain ⟨r9, hr9, h⟩ := of_bind h
        refine e_VI [.int (M 183 ((6 * i2) + i3).toNatClampNeg), .int (M 193 i2.toNatClampNeg), .int i2, .ref (x.2.2.1 + 193)] aX8_shifts_68 co_X8_form mX8_191 ly_176 rfl rfl (c_X8_form l x ia_177 ia_186 hr9) rfl ⟨by decide, by decide⟩ (Nat.le_of_ble_eq_true rfl) rfl ?_
        refine e_imul aX8_shifts_71 ?_
        refine e_goto (tgt := 105) aX8_shifts_72 (by decide) ?_
        refine e_isub aX8_shifts_105 ?_
        obtain ⟨hg10, h⟩ := of_guard h
        obtain ⟨M11, eM11, h⟩ := of_lt h
        refine e_ist aX8_shifts_106 ly_193 hg10 eM11 ?_
        refine e_iinc (v := i3 + 1) (L2 := [some (.ref (x.2.2.1 + 176)), some (.int i1), some (.int i2), some (.int (i3 + 1))]) aX8_shifts_107 rfl rfl ⟨by decide, rfl⟩ rfl ?_
        refine e_goto (tgt := 23) aX8_shifts_110 (by decide) ?_
        exact ih _ _ h
def s_X8_shifts_6 (i1 : Int32) (k : Int32 → Mem → Option Mem) (rec : Int32 → Mem → Option Mem) (i2 : Int32) (M : Mem) : Option Mem :=
  if M 176 0 ≤ i2 then
    k i2 M
  else
    if i2 < 0 ∨ 6 ≤ i2.toNatClampNeg then none else
    lt (um M 193 i2.toNatClampNeg 0) fun (M3 : Mem) =>
    f_X8_shifts_23 i1 i2 (fun (i3_4 : Int32) (M5 : Mem) =>
      rec (i2 + 1) M5) FU 0 M3
def f_X8_shifts_6 (i1 : Int32) (k : Int32 → Mem → Option Mem) : Nat → Int32 → Mem → Option Mem
  | 0 => fun _ _ => none
  | n + 1 => fun i2 M => s_X8_shifts_6 i1 k (f_X8_shifts_6 i1 k n) i2 M
set_option maxRecDepth 100000 in
set_option maxHeartbeats 4000000 in
theorem w_X8_shifts_6 (l : Launch) (x : WX) {i1 : Int32} {k : Int32 → Mem → Option Mem} {r : Mem}  (K : ∀ (i2 : Int32) (M : Mem), k i2 M = some r → Ev l x false cX8_shifts RX8 none 4 3 0 0 (pV r) 119 [some (.ref (x.2.2.1 + 176)), some (.int i1), some (.int i2), none] [] LAY M) : ∀ (n : Nat) (i2 : Int32) (M : Mem), f_X8_shifts_6 i1 k n i2 M = some r → Ev l x false cX8_shifts RX8 none 4 3 0 0 (pV r) 6 [some (.ref (x.2.2.1 + 176)), some (.int i1), some (.int i2), none] [] LAY M := by
  intro n
  induction n with
  | zero =>
    intro i2 M h
    exact nomatch (show (none : Option Mem) = some r from h)
  | succ n ih =>
    intro i2 M h
    have h : s_X8_shifts_6 i1 k (f_X8_shifts_6 i1 k n) i2 M = some r := h
    unfold s_X8_shifts_6 at h
    refine e_iload_n aX8_shifts_6 rfl ?_
    refine e_aload_n aX8_shifts_7 rfl ?_
    refine e_getI aX8_shifts_8 fX8_7 ly_176 rfl ?_
    rcases of_ite h with ⟨hc1, h⟩ | ⟨hc1, h⟩
    · refine e_icmp_ge (tgt := 119) aX8_shifts_11 (by decide) (fun _ => ?_) (fun q => absurd hc1 q)
      exact K _ _ h
    · refine e_icmp_ge (tgt := 119) aX8_shifts_11 (by decide) (fun q => absurd q hc1) (fun _ => ?_)
      refine e_aload_n aX8_shifts_14 rfl ?_
      refine e_getR (r := 193) aX8_shifts_15 fX8_63 ly_176 rfl ?_
      refine e_iload_n aX8_shifts_18 rfl ?_
      refine e_iconst (v := 0) aX8_shifts_19 (by decide) ?_
      obtain ⟨hg2, h⟩ := of_guard h
      obtain ⟨M3, eM3, h⟩ := of_lt h
      refine e_ist aX8_shifts_20 ly_193 hg2 eM3 ?_
      refine e_iconst (v := 0) aX8_shifts_21 (by decide) ?_
      refine e_istore_n (L2 := [some (.ref (x.2.2.1 + 176)), some (.int i1), some (.int i2), some (.int 0)]) aX8_shifts_22 ⟨by decide, rfl⟩ rfl ?_
      refine w_X8_shifts_23 l x  (fun i3_4 M5 h => ?_) FU _ _ h
      refine e_iinc (v := i2 + 1) (L2 := [some (.ref (x.2.2.1 + 176)), some (.int i1), some (.int (i2 + 1)), some (.int i3_4)]) aX8_shifts_113 rfl rfl ⟨by decide, rfl⟩ rfl ?_
      refine e_goto (tgt := 6) aX8_shifts_116 (by decide) ?_
      refine e_drop 3 (L2 := [some (.ref (x.2.2.1 + 176)), some (.int i1), some (.int (i2 + 1)), none]) rfl ?_
      exact ih _ _ h
def f_X8_shifts (i1 : Int32) (M : Mem) : Option Mem :=
  (f_X8_knows M).bind fun (M1 : Mem) =>
  f_X8_shifts_6 i1 (fun (i2_2 : Int32) (M3 : Mem) =>
    some M3) FU 0 M1
set_option maxRecDepth 100000 in
set_option maxHeartbeats 4000000 in
theorem c_X8_shifts (l : Launch) (x : WX) {i1 : Int32} {M : Mem} {r : Mem}  (h : f_X8_shifts i1 M = some r) : Mt l x false yX8_shifts cX8_shifts 4 none 3 0 0 [.ref (x.2.2.1 + 176), .int i1] LAY M (pV r) := by
  refine mt_of (L0 := [some (.ref (x.2.2.1 + 176)), some (.int i1), none, none]) (by decide +kernel) rfl (Nat.le_of_ble_eq_true rfl) (lvA_of 2 rfl) ?_
  unfold f_X8_shifts at h
  refine e_aload_n aX8_shifts_0 rfl ?_
  obtain ⟨M1, hM1, h⟩ := of_bind h
  refine e_VV [] aX8_shifts_1 co_X8_knows mX8_214 ly_176 rfl rfl (c_X8_knows l x hM1) rfl ⟨by decide, by decide⟩ (Nat.le_of_ble_eq_true rfl) rfl ?_
  refine e_iconst (v := 0) aX8_shifts_4 (by decide) ?_
  refine e_istore_n (L2 := [some (.ref (x.2.2.1 + 176)), some (.int i1), some (.int 0), none]) aX8_shifts_5 ⟨by decide, rfl⟩ rfl ?_
  refine w_X8_shifts_6 l x  (fun i2_2 M3 h => ?_) FU _ _ h
  exact e_ret0 aX8_shifts_119 rfl (pV_of h)
def f_X8_tits  (M : Mem) : Option Int32 :=
  (f_X8_form 177 21 177 21 M).bind fun (r1 : Int32) =>
  some r1
set_option maxRecDepth 100000 in
set_option maxHeartbeats 4000000 in
theorem c_X8_tits (l : Launch) (x : WX)  {M : Mem} {r : Int32}  (h : f_X8_tits  M = some r) : Mt l x false yX8_tits cX8_tits 1 (some FieldType.int) 1 0 0 [.ref (x.2.2.1 + 176)] LAY M (pI r M) := by
  refine mt_of (L0 := [some (.ref (x.2.2.1 + 176))]) (by decide +kernel) rfl (Nat.le_of_ble_eq_true rfl) (lvA_of 0 rfl) ?_
  unfold f_X8_tits at h
  refine e_aload_n aX8_tits_0 rfl ?_
  refine e_aload_n aX8_tits_1 rfl ?_
  refine e_getR (r := 177) aX8_tits_2 fX8_13 ly_176 rfl ?_
  refine e_bipush (v := 21) aX8_tits_5 (by decide) ?_
  refine e_aload_n aX8_tits_7 rfl ?_
  refine e_getR (r := 177) aX8_tits_8 fX8_13 ly_176 rfl ?_
  refine e_bipush (v := 21) aX8_tits_11 (by decide) ?_
  obtain ⟨r1, hr1, h⟩ := of_bind h
  refine e_VI [] aX8_tits_13 co_X8_form mX8_191 ly_176 rfl rfl (c_X8_form l x ia_177 ia_177 hr1) rfl ⟨by decide, by decide⟩ (Nat.le_of_ble_eq_true rfl) rfl ?_
  exact e_retI aX8_tits_16 rfl rfl (pI_ro h)
def f_X8_shift (i1 : Int32) (M : Mem) : Option (Int32 × Mem) :=
  (f_X8_in i1.toInt64 0 1 M).bind fun (r1 : Int32) =>
  if r1 = 0 then
    some ((-1000002), M)
  else
    if i1 = 0 then
      (f_X8_shifts 1 M).bind fun (M8 : Mem) =>
      (f_X8_becomes M8).bind fun (q9 : Int32 × Mem) =>
      if q9.1 = 0 then
        some ((-1000003), q9.2)
      else
        (f_X8_tits q9.2).bind fun (r11 : Int32) =>
        some (r11, q9.2)
    else
      (f_X8_shifts 0 M).bind fun (M4 : Mem) =>
      (f_X8_becomes M4).bind fun (q5 : Int32 × Mem) =>
      if q5.1 = 0 then
        some ((-1000003), q5.2)
      else
        (f_X8_tits q5.2).bind fun (r7 : Int32) =>
        some (r7, q5.2)
set_option maxRecDepth 100000 in
set_option maxHeartbeats 4000000 in
theorem c_X8_shift (l : Launch) (x : WX) {i1 : Int32} {M : Mem} {r : (Int32 × Mem)}  (h : f_X8_shift i1 M = some r) : Mt l x false yX8_shift cX8_shift 2 (some FieldType.int) 4 0 0 [.ref (x.2.2.1 + 176), .int i1] LAY M (pI r.1 r.2) := by
  refine mt_of (L0 := [some (.ref (x.2.2.1 + 176)), some (.int i1)]) (by decide +kernel) rfl (Nat.le_of_ble_eq_true rfl) (lvA_of 0 rfl) ?_
  unfold f_X8_shift at h
  refine e_iload_n aX8_shift_0 rfl ?_
  refine e_i2l aX8_shift_1 ?_
  refine e_lconst (v := 0) aX8_shift_2 (by decide) ?_
  refine e_lconst (v := 1) aX8_shift_3 (by decide) ?_
  obtain ⟨r1, hr1, h⟩ := of_bind h
  refine e_SI [] aX8_shift_4 co_X8_in mX8_72 (c_X8_in l x hr1) rfl ⟨by decide, by decide⟩ (Nat.le_of_ble_eq_true rfl) rfl ?_
  rcases of_ite h with ⟨hc2, h⟩ | ⟨hc2, h⟩
  · refine e_if_ne (tgt := 13) aX8_shift_7 (by decide) (fun q => absurd hc2 q) (fun _ => ?_)
    refine e_ldc aX8_shift_10 kX8_78 ?_
    exact e_retI aX8_shift_12 rfl rfl (pI_of h)
  · refine e_if_ne (tgt := 13) aX8_shift_7 (by decide) (fun _ => ?_) (fun q => absurd q hc2)
    refine e_aload_n aX8_shift_13 rfl ?_
    refine e_iload_n aX8_shift_14 rfl ?_
    rcases of_ite h with ⟨hc3, h⟩ | ⟨hc3, h⟩
    · refine e_if_ne (tgt := 22) aX8_shift_15 (by decide) (fun q => absurd hc3 q) (fun _ => ?_)
      refine e_iconst (v := 1) aX8_shift_18 (by decide) ?_
      refine e_goto (tgt := 23) aX8_shift_19 (by decide) ?_
      obtain ⟨M8, hM8, h⟩ := of_bind h
      refine e_VV [] aX8_shift_23 co_X8_shifts mX8_230 ly_176 rfl rfl (c_X8_shifts l x hM8) rfl ⟨by decide, by decide⟩ (Nat.le_of_ble_eq_true rfl) rfl ?_
      refine e_aload_n aX8_shift_26 rfl ?_
      obtain ⟨q9, hq9, h⟩ := of_bind h
      refine e_VI [] aX8_shift_27 co_X8_becomes mX8_234 ly_176 rfl rfl (c_X8_becomes l x hq9) rfl ⟨by decide, by decide⟩ (Nat.le_of_ble_eq_true rfl) rfl ?_
      rcases of_ite h with ⟨hc10, h⟩ | ⟨hc10, h⟩
      · refine e_if_eq (tgt := 40) aX8_shift_30 (by decide) (fun _ => ?_) (fun q => absurd hc10 q)
        refine e_ldc aX8_shift_40 kX8_161 ?_
        exact e_retI aX8_shift_42 rfl rfl (pI_of h)
      · refine e_if_eq (tgt := 40) aX8_shift_30 (by decide) (fun q => absurd q hc10) (fun _ => ?_)
        refine e_aload_n aX8_shift_33 rfl ?_
        obtain ⟨r11, hr11, h⟩ := of_bind h
        refine e_VI [] aX8_shift_34 co_X8_tits mX8_237 ly_176 rfl rfl (c_X8_tits l x hr11) rfl ⟨by decide, by decide⟩ (Nat.le_of_ble_eq_true rfl) rfl ?_
        refine e_goto (tgt := 42) aX8_shift_37 (by decide) ?_
        exact e_retI aX8_shift_42 rfl rfl (pI_of h)
    · refine e_if_ne (tgt := 22) aX8_shift_15 (by decide) (fun _ => ?_) (fun q => absurd q hc3)
      refine e_iconst (v := 0) aX8_shift_22 (by decide) ?_
      obtain ⟨M4, hM4, h⟩ := of_bind h
      refine e_VV [] aX8_shift_23 co_X8_shifts mX8_230 ly_176 rfl rfl (c_X8_shifts l x hM4) rfl ⟨by decide, by decide⟩ (Nat.le_of_ble_eq_true rfl) rfl ?_
      refine e_aload_n aX8_shift_26 rfl ?_
      obtain ⟨q5, hq5, h⟩ := of_bind h
      refine e_VI [] aX8_shift_27 co_X8_becomes mX8_234 ly_176 rfl rfl (c_X8_becomes l x hq5) rfl ⟨by decide, by decide⟩ (Nat.le_of_ble_eq_true rfl) rfl ?_
      rcases of_ite h with ⟨hc6, h⟩ | ⟨hc6, h⟩
      · refine e_if_eq (tgt := 40) aX8_shift_30 (by decide) (fun _ => ?_) (fun q => absurd hc6 q)
        refine e_ldc aX8_shift_40 kX8_161 ?_
        exact e_retI aX8_shift_42 rfl rfl (pI_of h)
      · refine e_if_eq (tgt := 40) aX8_shift_30 (by decide) (fun q => absurd q hc6) (fun _ => ?_)
        refine e_aload_n aX8_shift_33 rfl ?_
        obtain ⟨r7, hr7, h⟩ := of_bind h
        refine e_VI [] aX8_shift_34 co_X8_tits mX8_237 ly_176 rfl rfl (c_X8_tits l x hr7) rfl ⟨by decide, by decide⟩ (Nat.le_of_ble_eq_true rfl) rfl ?_
        refine e_goto (tgt := 42) aX8_shift_37 (by decide) ?_
        exact e_retI aX8_shift_42 rfl rfl (pI_of h)
def s_X8_take_35 (i1 : Int32) (k : Int32 → Mem → Option (Int32 × Mem)) (rec : Int32 → Mem → Option (Int32 × Mem)) (i2 : Int32) (M : Mem) : Option (Int32 × Mem) :=
  if 6 ≤ i2 then
    k i2 M
  else
    if (6 * i1) + i2 < 0 ∨ 216 ≤ ((6 * i1) + i2).toNatClampNeg then none else
    if i2 < 0 ∨ 6 ≤ i2.toNatClampNeg then none else
    lt (um M 193 i2.toNatClampNeg (M 184 ((6 * i1) + i2).toNatClampNeg)) fun (M4 : Mem) =>
    rec (i2 + 1) M4
def f_X8_take_35 (i1 : Int32) (k : Int32 → Mem → Option (Int32 × Mem)) : Nat → Int32 → Mem → Option (Int32 × Mem)
  | 0 => fun _ _ => none
  | n + 1 => fun i2 M => s_X8_take_35 i1 k (f_X8_take_35 i1 k n) i2 M
set_option maxRecDepth 100000 in
set_option maxHeartbeats 4000000 in
theorem w_X8_take_35 (l : Launch) (x : WX) {i1 : Int32} {k : Int32 → Mem → Option (Int32 × Mem)} {r : (Int32 × Mem)}  (K : ∀ (i2 : Int32) (M : Mem), k i2 M = some r → Ev l x false cX8_take RX8 (some FieldType.int) 3 3 0 0 (pI r.1 r.2) 64 [some (.ref (x.2.2.1 + 176)), some (.int i1), some (.int i2)] [] LAY M) : ∀ (n : Nat) (i2 : Int32) (M : Mem), f_X8_take_35 i1 k n i2 M = some r → Ev l x false cX8_take RX8 (some FieldType.int) 3 3 0 0 (pI r.1 r.2) 35 [some (.ref (x.2.2.1 + 176)), some (.int i1), some (.int i2)] [] LAY M := by
  intro n
  induction n with
  | zero =>
    intro i2 M h
    exact nomatch (show (none : Option (Int32 × Mem)) = some r from h)
  | succ n ih =>
    intro i2 M h
    have h : s_X8_take_35 i1 k (f_X8_take_35 i1 k n) i2 M = some r := h
    unfold s_X8_take_35 at h
    refine e_iload_n aX8_take_35 rfl ?_
    refine e_bipush (v := 6) aX8_take_36 (by decide) ?_
    rcases of_ite h with ⟨hc1, h⟩ | ⟨hc1, h⟩
    · refine e_icmp_ge (tgt := 64) aX8_take_38 (by decide) (fun _ => ?_) (fun q => absurd hc1 q)
      exact K _ _ h
    · refine e_icmp_ge (tgt := 64) aX8_take_38 (by decide) (fun q => absurd q hc1) (fun _ => ?_)
      refine e_aload_n aX8_take_41 rfl ?_
      refine e_getR (r := 193) aX8_take_42 fX8_63 ly_176 rfl ?_
      refine e_iload_n aX8_take_45 rfl ?_
      refine e_aload_n aX8_take_46 rfl ?_
      refine e_getR (r := 184) aX8_take_47 fX8_36 ly_176 rfl ?_
      refine e_bipush (v := 6) aX8_take_50 (by decide) ?_
      refine e_iload_n aX8_take_52 rfl ?_
      refine e_imul aX8_take_53 ?_
      refine e_iload_n aX8_take_54 rfl ?_
      refine e_iadd aX8_take_55 ?_
      obtain ⟨hg2, h⟩ := of_guard h
      refine e_iald aX8_take_56 ly_184 hg2 ?_
      obtain ⟨hg3, h⟩ := of_guard h
      obtain ⟨M4, eM4, h⟩ := of_lt h
      refine e_ist aX8_take_57 ly_193 hg3 eM4 ?_
      refine e_iinc (v := i2 + 1) (L2 := [some (.ref (x.2.2.1 + 176)), some (.int i1), some (.int (i2 + 1))]) aX8_take_58 rfl rfl ⟨by decide, rfl⟩ rfl ?_
      refine e_goto (tgt := 35) aX8_take_61 (by decide) ?_
      exact ih _ _ h
def f_X8_take (i1 : Int32) (M : Mem) : Option (Int32 × Mem) :=
  (f_X8_knows M).bind fun (M1 : Mem) =>
  if 0 ≤ M1 176 12 then
    (f_X8_in i1.toInt64 0 (((M1 176 12) - 1).toInt64) M1).bind fun (r3 : Int32) =>
    if r3 = 0 then
      some ((-1000001), M1)
    else
      f_X8_take_35 i1 (fun (i2_5 : Int32) (M6 : Mem) =>
        (f_X8_becomes M6).bind fun (q7 : Int32 × Mem) =>
        (f_X8_sumOf 184 (6 * i1) q7.2).bind fun (r8 : Int32) =>
        some (r8, q7.2)) FU 0 M1
  else
    some ((-1000003), M1)
set_option maxRecDepth 100000 in
set_option maxHeartbeats 4000000 in
theorem c_X8_take (l : Launch) (x : WX) {i1 : Int32} {M : Mem} {r : (Int32 × Mem)}  (h : f_X8_take i1 M = some r) : Mt l x false yX8_take cX8_take 3 (some FieldType.int) 3 0 0 [.ref (x.2.2.1 + 176), .int i1] LAY M (pI r.1 r.2) := by
  refine mt_of (L0 := [some (.ref (x.2.2.1 + 176)), some (.int i1), none]) (by decide +kernel) rfl (Nat.le_of_ble_eq_true rfl) (lvA_of 1 rfl) ?_
  unfold f_X8_take at h
  refine e_aload_n aX8_take_0 rfl ?_
  obtain ⟨M1, hM1, h⟩ := of_bind h
  refine e_VV [] aX8_take_1 co_X8_knows mX8_214 ly_176 rfl rfl (c_X8_knows l x hM1) rfl ⟨by decide, by decide⟩ (Nat.le_of_ble_eq_true rfl) rfl ?_
  refine e_aload_n aX8_take_4 rfl ?_
  refine e_getI aX8_take_5 fX8_195 ly_176 rfl ?_
  rcases of_ite h with ⟨hc2, h⟩ | ⟨hc2, h⟩
  · refine e_if_ge (tgt := 14) aX8_take_8 (by decide) (fun _ => ?_) (fun q => absurd hc2 q)
    refine e_iload_n aX8_take_14 rfl ?_
    refine e_i2l aX8_take_15 ?_
    refine e_lconst (v := 0) aX8_take_16 (by decide) ?_
    refine e_aload_n aX8_take_17 rfl ?_
    refine e_getI aX8_take_18 fX8_195 ly_176 rfl ?_
    refine e_iconst (v := 1) aX8_take_21 (by decide) ?_
    refine e_isub aX8_take_22 ?_
    refine e_i2l aX8_take_23 ?_
    obtain ⟨r3, hr3, h⟩ := of_bind h
    refine e_SI [] aX8_take_24 co_X8_in mX8_72 (c_X8_in l x hr3) rfl ⟨by decide, by decide⟩ (Nat.le_of_ble_eq_true rfl) rfl ?_
    rcases of_ite h with ⟨hc4, h⟩ | ⟨hc4, h⟩
    · refine e_if_ne (tgt := 33) aX8_take_27 (by decide) (fun q => absurd hc4 q) (fun _ => ?_)
      refine e_ldc aX8_take_30 kX8_168 ?_
      exact e_retI aX8_take_32 rfl rfl (pI_of h)
    · refine e_if_ne (tgt := 33) aX8_take_27 (by decide) (fun _ => ?_) (fun q => absurd q hc4)
      refine e_iconst (v := 0) aX8_take_33 (by decide) ?_
      refine e_istore_n (L2 := [some (.ref (x.2.2.1 + 176)), some (.int i1), some (.int 0)]) aX8_take_34 ⟨by decide, rfl⟩ rfl ?_
      refine w_X8_take_35 l x  (fun i2_5 M6 h => ?_) FU _ _ h
      refine e_aload_n aX8_take_64 rfl ?_
      obtain ⟨q7, hq7, h⟩ := of_bind h
      refine e_VI [] aX8_take_65 co_X8_becomes mX8_234 ly_176 rfl rfl (c_X8_becomes l x hq7) rfl ⟨by decide, by decide⟩ (Nat.le_of_ble_eq_true rfl) rfl ?_
      refine e_popI aX8_take_68 ?_
      refine e_aload_n aX8_take_69 rfl ?_
      refine e_getR (r := 184) aX8_take_70 fX8_36 ly_176 rfl ?_
      refine e_bipush (v := 6) aX8_take_73 (by decide) ?_
      refine e_iload_n aX8_take_75 rfl ?_
      refine e_imul aX8_take_76 ?_
      obtain ⟨r8, hr8, h⟩ := of_bind h
      refine e_SI [] aX8_take_77 co_X8_sumOf mX8_198 (c_X8_sumOf l x ia_184 hr8) rfl ⟨by decide, by decide⟩ (Nat.le_of_ble_eq_true rfl) rfl ?_
      exact e_retI aX8_take_80 rfl rfl (pI_of h)
  · refine e_if_ge (tgt := 14) aX8_take_8 (by decide) (fun q => absurd q hc2) (fun _ => ?_)
    refine e_ldc aX8_take_11 kX8_161 ?_
    exact e_retI aX8_take_13 rfl rfl (pI_of h)
def f_X8_undo  (M : Mem) : Option (Int32 × Mem) :=
  if M 176 2 = 0 then
    some ((-1000003), M)
  else
    lt (um M 176 2 ((M 176 2) - 1)) fun (M2 : Mem) =>
    (f_X8_copyRow (27 + (27 * (M2 176 2))) 0 M2).bind fun (M3 : Mem) =>
    lt (um M3 176 13 0) fun (M4 : Mem) =>
    some (M4 176 2, M4)
set_option maxRecDepth 100000 in
set_option maxHeartbeats 4000000 in
theorem c_X8_undo (l : Launch) (x : WX)  {M : Mem} {r : (Int32 × Mem)}  (h : f_X8_undo  M = some r) : Mt l x false yX8_undo cX8_undo 1 (some FieldType.int) 1 0 0 [.ref (x.2.2.1 + 176)] LAY M (pI r.1 r.2) := by
  refine mt_of (L0 := [some (.ref (x.2.2.1 + 176))]) (by decide +kernel) rfl (Nat.le_of_ble_eq_true rfl) (lvA_of 0 rfl) ?_
  unfold f_X8_undo at h
  refine e_aload_n aX8_undo_0 rfl ?_
  refine e_getI aX8_undo_1 fX8_162 ly_176 rfl ?_
  rcases of_ite h with ⟨hc1, h⟩ | ⟨hc1, h⟩
  · refine e_if_ne (tgt := 10) aX8_undo_4 (by decide) (fun q => absurd hc1 q) (fun _ => ?_)
    refine e_ldc aX8_undo_7 kX8_161 ?_
    exact e_retI aX8_undo_9 rfl rfl (pI_of h)
  · refine e_if_ne (tgt := 10) aX8_undo_4 (by decide) (fun _ => ?_) (fun q => absurd q hc1)
    refine e_aload_n aX8_undo_10 rfl ?_
    refine e_dupR aX8_undo_11 ?_
    refine e_getI aX8_undo_12 fX8_162 ly_176 rfl ?_
    refine e_iconst (v := 1) aX8_undo_15 (by decide) ?_
    refine e_isub aX8_undo_16 ?_
    obtain ⟨M2, eM2, h⟩ := of_lt h
    refine e_put aX8_undo_17 qX8_162 ly_176 rfl (fi_of _) eM2 ?_
    refine e_aload_n aX8_undo_20 rfl ?_
    refine e_bipush (v := 27) aX8_undo_21 (by decide) ?_
    refine e_bipush (v := 27) aX8_undo_23 (by decide) ?_
    refine e_aload_n aX8_undo_25 rfl ?_
    refine e_getI aX8_undo_26 fX8_162 ly_176 rfl ?_
    refine e_imul aX8_undo_29 ?_
    refine e_iadd aX8_undo_30 ?_
    refine e_iconst (v := 0) aX8_undo_31 (by decide) ?_
    obtain ⟨M3, hM3, h⟩ := of_bind h
    refine e_VV [] aX8_undo_32 co_X8_copyRow mX8_217 ly_176 rfl rfl (c_X8_copyRow l x hM3) rfl ⟨by decide, by decide⟩ (Nat.le_of_ble_eq_true rfl) rfl ?_
    refine e_aload_n aX8_undo_35 rfl ?_
    refine e_iconst (v := 0) aX8_undo_36 (by decide) ?_
    obtain ⟨M4, eM4, h⟩ := of_lt h
    refine e_put aX8_undo_37 qX8_165 ly_176 rfl (by decide +kernel) eM4 ?_
    refine e_aload_n aX8_undo_40 rfl ?_
    refine e_getI aX8_undo_41 fX8_162 ly_176 rfl ?_
    exact e_retI aX8_undo_44 rfl rfl (pI_of h)
def f_X8_keep (i1 : Int32) (M : Mem) : Option (Int32 × Mem) :=
  (f_X8_in i1.toInt64 0 1 M).bind fun (r1 : Int32) =>
  if r1 = 0 then
    some ((-1000001), M)
  else
    (f_X8_copyRow 0 (243 + (27 * i1)) M).bind fun (M3 : Mem) =>
    if i1 < 0 ∨ 2 ≤ i1.toNatClampNeg then none else
    lt (um M3 178 i1.toNatClampNeg 1) fun (M5 : Mem) =>
    if (0 : Int32) < 0 ∨ 297 ≤ (0 : Int32).toNatClampNeg then none else
    some (M5 177 (0 : Int32).toNatClampNeg, M5)
set_option maxRecDepth 100000 in
set_option maxHeartbeats 4000000 in
theorem c_X8_keep (l : Launch) (x : WX) {i1 : Int32} {M : Mem} {r : (Int32 × Mem)}  (h : f_X8_keep i1 M = some r) : Mt l x false yX8_keep cX8_keep 2 (some FieldType.int) 1 0 0 [.ref (x.2.2.1 + 176), .int i1] LAY M (pI r.1 r.2) := by
  refine mt_of (L0 := [some (.ref (x.2.2.1 + 176)), some (.int i1)]) (by decide +kernel) rfl (Nat.le_of_ble_eq_true rfl) (lvA_of 0 rfl) ?_
  unfold f_X8_keep at h
  refine e_iload_n aX8_keep_0 rfl ?_
  refine e_i2l aX8_keep_1 ?_
  refine e_lconst (v := 0) aX8_keep_2 (by decide) ?_
  refine e_lconst (v := 1) aX8_keep_3 (by decide) ?_
  obtain ⟨r1, hr1, h⟩ := of_bind h
  refine e_SI [] aX8_keep_4 co_X8_in mX8_72 (c_X8_in l x hr1) rfl ⟨by decide, by decide⟩ (Nat.le_of_ble_eq_true rfl) rfl ?_
  rcases of_ite h with ⟨hc2, h⟩ | ⟨hc2, h⟩
  · refine e_if_ne (tgt := 13) aX8_keep_7 (by decide) (fun q => absurd hc2 q) (fun _ => ?_)
    refine e_ldc aX8_keep_10 kX8_168 ?_
    exact e_retI aX8_keep_12 rfl rfl (pI_of h)
  · refine e_if_ne (tgt := 13) aX8_keep_7 (by decide) (fun _ => ?_) (fun q => absurd q hc2)
    refine e_aload_n aX8_keep_13 rfl ?_
    refine e_iconst (v := 0) aX8_keep_14 (by decide) ?_
    refine e_sipush (v := 243) aX8_keep_15 (by decide) ?_
    refine e_bipush (v := 27) aX8_keep_18 (by decide) ?_
    refine e_iload_n aX8_keep_20 rfl ?_
    refine e_imul aX8_keep_21 ?_
    refine e_iadd aX8_keep_22 ?_
    obtain ⟨M3, hM3, h⟩ := of_bind h
    refine e_VV [] aX8_keep_23 co_X8_copyRow mX8_217 ly_176 rfl rfl (c_X8_copyRow l x hM3) rfl ⟨by decide, by decide⟩ (Nat.le_of_ble_eq_true rfl) rfl ?_
    refine e_aload_n aX8_keep_26 rfl ?_
    refine e_getR (r := 178) aX8_keep_27 fX8_17 ly_176 rfl ?_
    refine e_iload_n aX8_keep_30 rfl ?_
    refine e_iconst (v := 1) aX8_keep_31 (by decide) ?_
    obtain ⟨hg4, h⟩ := of_guard h
    obtain ⟨M5, eM5, h⟩ := of_lt h
    refine e_zst aX8_keep_32 ly_178 hg4 (by decide +kernel) eM5 ?_
    refine e_aload_n aX8_keep_33 rfl ?_
    refine e_getR (r := 177) aX8_keep_34 fX8_13 ly_176 rfl ?_
    refine e_iconst (v := 0) aX8_keep_37 (by decide) ?_
    obtain ⟨hg6, h⟩ := of_guard h
    refine e_iald aX8_keep_38 ly_177 hg6 ?_
    exact e_retI aX8_keep_39 rfl rfl (pI_of h)
def f_X8_back (i1 : Int32) (M : Mem) : Option (Int32 × Mem) :=
  (f_X8_in i1.toInt64 0 1 M).bind fun (r1 : Int32) =>
  if r1 = 0 then
    some ((-1000001), M)
  else
    if i1 < 0 ∨ 2 ≤ i1.toNatClampNeg then none else
    if M 178 i1.toNatClampNeg = 0 then
      some ((-1000003), M)
    else
      (f_X8_copyRow (243 + (27 * i1)) 0 M).bind fun (M5 : Mem) =>
      lt (um M5 176 2 0) fun (M6 : Mem) =>
      lt (um M6 176 13 0) fun (M7 : Mem) =>
      if (0 : Int32) < 0 ∨ 297 ≤ (0 : Int32).toNatClampNeg then none else
      some (M7 177 (0 : Int32).toNatClampNeg, M7)
set_option maxRecDepth 100000 in
set_option maxHeartbeats 4000000 in
theorem c_X8_back (l : Launch) (x : WX) {i1 : Int32} {M : Mem} {r : (Int32 × Mem)}  (h : f_X8_back i1 M = some r) : Mt l x false yX8_back cX8_back 2 (some FieldType.int) 1 0 0 [.ref (x.2.2.1 + 176), .int i1] LAY M (pI r.1 r.2) := by
  refine mt_of (L0 := [some (.ref (x.2.2.1 + 176)), some (.int i1)]) (by decide +kernel) rfl (Nat.le_of_ble_eq_true rfl) (lvA_of 0 rfl) ?_
  unfold f_X8_back at h
  refine e_iload_n aX8_back_0 rfl ?_
  refine e_i2l aX8_back_1 ?_
  refine e_lconst (v := 0) aX8_back_2 (by decide) ?_
  refine e_lconst (v := 1) aX8_back_3 (by decide) ?_
  obtain ⟨r1, hr1, h⟩ := of_bind h
  refine e_SI [] aX8_back_4 co_X8_in mX8_72 (c_X8_in l x hr1) rfl ⟨by decide, by decide⟩ (Nat.le_of_ble_eq_true rfl) rfl ?_
  rcases of_ite h with ⟨hc2, h⟩ | ⟨hc2, h⟩
  · refine e_if_ne (tgt := 13) aX8_back_7 (by decide) (fun q => absurd hc2 q) (fun _ => ?_)
    refine e_ldc aX8_back_10 kX8_168 ?_
    exact e_retI aX8_back_12 rfl rfl (pI_of h)
  · refine e_if_ne (tgt := 13) aX8_back_7 (by decide) (fun _ => ?_) (fun q => absurd q hc2)
    refine e_aload_n aX8_back_13 rfl ?_
    refine e_getR (r := 178) aX8_back_14 fX8_17 ly_176 rfl ?_
    refine e_iload_n aX8_back_17 rfl ?_
    obtain ⟨hg3, h⟩ := of_guard h
    refine e_zald aX8_back_18 ly_178 hg3 ?_
    rcases of_ite h with ⟨hc4, h⟩ | ⟨hc4, h⟩
    · refine e_if_ne (tgt := 25) aX8_back_19 (by decide) (fun q => absurd hc4 q) (fun _ => ?_)
      refine e_ldc aX8_back_22 kX8_161 ?_
      exact e_retI aX8_back_24 rfl rfl (pI_of h)
    · refine e_if_ne (tgt := 25) aX8_back_19 (by decide) (fun _ => ?_) (fun q => absurd q hc4)
      refine e_aload_n aX8_back_25 rfl ?_
      refine e_sipush (v := 243) aX8_back_26 (by decide) ?_
      refine e_bipush (v := 27) aX8_back_29 (by decide) ?_
      refine e_iload_n aX8_back_31 rfl ?_
      refine e_imul aX8_back_32 ?_
      refine e_iadd aX8_back_33 ?_
      refine e_iconst (v := 0) aX8_back_34 (by decide) ?_
      obtain ⟨M5, hM5, h⟩ := of_bind h
      refine e_VV [] aX8_back_35 co_X8_copyRow mX8_217 ly_176 rfl rfl (c_X8_copyRow l x hM5) rfl ⟨by decide, by decide⟩ (Nat.le_of_ble_eq_true rfl) rfl ?_
      refine e_aload_n aX8_back_38 rfl ?_
      refine e_iconst (v := 0) aX8_back_39 (by decide) ?_
      obtain ⟨M6, eM6, h⟩ := of_lt h
      refine e_put aX8_back_40 qX8_162 ly_176 rfl (fi_of _) eM6 ?_
      refine e_aload_n aX8_back_43 rfl ?_
      refine e_iconst (v := 0) aX8_back_44 (by decide) ?_
      obtain ⟨M7, eM7, h⟩ := of_lt h
      refine e_put aX8_back_45 qX8_165 ly_176 rfl (by decide +kernel) eM7 ?_
      refine e_aload_n aX8_back_48 rfl ?_
      refine e_getR (r := 177) aX8_back_49 fX8_13 ly_176 rfl ?_
      refine e_iconst (v := 0) aX8_back_52 (by decide) ?_
      obtain ⟨hg8, h⟩ := of_guard h
      refine e_iald aX8_back_53 ly_177 hg8 ?_
      exact e_retI aX8_back_54 rfl rfl (pI_of h)
def f_X8_turned (i1 : Int32) (M : Mem) : Option Int32 :=
  (f_X8_isPoint i1 M).bind fun (r1 : Int32) =>
  if r1 = 0 then
    some (-1000001)
  else
    (f_X8_about i1 M).bind fun (r3 : Int32) =>
    some r3
set_option maxRecDepth 100000 in
set_option maxHeartbeats 4000000 in
theorem c_X8_turned (l : Launch) (x : WX) {i1 : Int32} {M : Mem} {r : Int32}  (h : f_X8_turned i1 M = some r) : Mt l x false yX8_turned cX8_turned 2 (some FieldType.int) 2 0 0 [.ref (x.2.2.1 + 176), .int i1] LAY M (pI r M) := by
  refine mt_of (L0 := [some (.ref (x.2.2.1 + 176)), some (.int i1)]) (by decide +kernel) rfl (Nat.le_of_ble_eq_true rfl) (lvA_of 0 rfl) ?_
  unfold f_X8_turned at h
  refine e_aload_n aX8_turned_0 rfl ?_
  refine e_iload_n aX8_turned_1 rfl ?_
  obtain ⟨r1, hr1, h⟩ := of_bind h
  refine e_VI [] aX8_turned_2 co_X8_isPoint mX8_172 ly_176 rfl rfl (c_X8_isPoint l x hr1) rfl ⟨by decide, by decide⟩ (Nat.le_of_ble_eq_true rfl) rfl ?_
  rcases of_ite h with ⟨hc2, h⟩ | ⟨hc2, h⟩
  · refine e_if_eq (tgt := 16) aX8_turned_5 (by decide) (fun _ => ?_) (fun q => absurd hc2 q)
    refine e_ldc aX8_turned_16 kX8_168 ?_
    exact e_retI aX8_turned_18 rfl rfl (pI_ro h)
  · refine e_if_eq (tgt := 16) aX8_turned_5 (by decide) (fun q => absurd q hc2) (fun _ => ?_)
    refine e_aload_n aX8_turned_8 rfl ?_
    refine e_iload_n aX8_turned_9 rfl ?_
    obtain ⟨r3, hr3, h⟩ := of_bind h
    refine e_VI [] aX8_turned_10 co_X8_about mX8_223 ly_176 rfl rfl (c_X8_about l x hr3) rfl ⟨by decide, by decide⟩ (Nat.le_of_ble_eq_true rfl) rfl ?_
    refine e_goto (tgt := 18) aX8_turned_13 (by decide) ?_
    exact e_retI aX8_turned_18 rfl rfl (pI_ro h)
def f_X8_root (i1 : Int32) (i2 : Int32) (M : Mem) : Option (Int32 × Mem) :=
  (f_X8_knows M).bind fun (M1 : Mem) =>
  if 0 ≤ M1 176 12 then
    (f_X8_in i1.toInt64 0 (((M1 176 12) - 1).toInt64) M1).bind fun (r3 : Int32) =>
    if r3 = 0 then
      some ((-1000001), M1)
    else
      (f_X8_isPoint i2 M1).bind fun (r5 : Int32) =>
      if r5 = 0 then
        some ((-1000001), M1)
      else
        if (6 * i1) + i2 < 0 ∨ 216 ≤ ((6 * i1) + i2).toNatClampNeg then none else
        some (M1 184 ((6 * i1) + i2).toNatClampNeg, M1)
  else
    some ((-1000003), M1)
set_option maxRecDepth 100000 in
set_option maxHeartbeats 4000000 in
theorem c_X8_root (l : Launch) (x : WX) {i1 : Int32} {i2 : Int32} {M : Mem} {r : (Int32 × Mem)}  (h : f_X8_root i1 i2 M = some r) : Mt l x false yX8_root cX8_root 3 (some FieldType.int) 3 0 0 [.ref (x.2.2.1 + 176), .int i1, .int i2] LAY M (pI r.1 r.2) := by
  refine mt_of (L0 := [some (.ref (x.2.2.1 + 176)), some (.int i1), some (.int i2)]) (by decide +kernel) rfl (Nat.le_of_ble_eq_true rfl) (lvA_of 0 rfl) ?_
  unfold f_X8_root at h
  refine e_aload_n aX8_root_0 rfl ?_
  obtain ⟨M1, hM1, h⟩ := of_bind h
  refine e_VV [] aX8_root_1 co_X8_knows mX8_214 ly_176 rfl rfl (c_X8_knows l x hM1) rfl ⟨by decide, by decide⟩ (Nat.le_of_ble_eq_true rfl) rfl ?_
  refine e_aload_n aX8_root_4 rfl ?_
  refine e_getI aX8_root_5 fX8_195 ly_176 rfl ?_
  rcases of_ite h with ⟨hc2, h⟩ | ⟨hc2, h⟩
  · refine e_if_ge (tgt := 14) aX8_root_8 (by decide) (fun _ => ?_) (fun q => absurd hc2 q)
    refine e_iload_n aX8_root_14 rfl ?_
    refine e_i2l aX8_root_15 ?_
    refine e_lconst (v := 0) aX8_root_16 (by decide) ?_
    refine e_aload_n aX8_root_17 rfl ?_
    refine e_getI aX8_root_18 fX8_195 ly_176 rfl ?_
    refine e_iconst (v := 1) aX8_root_21 (by decide) ?_
    refine e_isub aX8_root_22 ?_
    refine e_i2l aX8_root_23 ?_
    obtain ⟨r3, hr3, h⟩ := of_bind h
    refine e_SI [] aX8_root_24 co_X8_in mX8_72 (c_X8_in l x hr3) rfl ⟨by decide, by decide⟩ (Nat.le_of_ble_eq_true rfl) rfl ?_
    rcases of_ite h with ⟨hc4, h⟩ | ⟨hc4, h⟩
    · refine e_if_eq (tgt := 52) aX8_root_27 (by decide) (fun _ => ?_) (fun q => absurd hc4 q)
      refine e_ldc aX8_root_52 kX8_168 ?_
      exact e_retI aX8_root_54 rfl rfl (pI_of h)
    · refine e_if_eq (tgt := 52) aX8_root_27 (by decide) (fun q => absurd q hc4) (fun _ => ?_)
      refine e_aload_n aX8_root_30 rfl ?_
      refine e_iload_n aX8_root_31 rfl ?_
      obtain ⟨r5, hr5, h⟩ := of_bind h
      refine e_VI [] aX8_root_32 co_X8_isPoint mX8_172 ly_176 rfl rfl (c_X8_isPoint l x hr5) rfl ⟨by decide, by decide⟩ (Nat.le_of_ble_eq_true rfl) rfl ?_
      rcases of_ite h with ⟨hc6, h⟩ | ⟨hc6, h⟩
      · refine e_if_eq (tgt := 52) aX8_root_35 (by decide) (fun _ => ?_) (fun q => absurd hc6 q)
        refine e_ldc aX8_root_52 kX8_168 ?_
        exact e_retI aX8_root_54 rfl rfl (pI_of h)
      · refine e_if_eq (tgt := 52) aX8_root_35 (by decide) (fun q => absurd q hc6) (fun _ => ?_)
        refine e_aload_n aX8_root_38 rfl ?_
        refine e_getR (r := 184) aX8_root_39 fX8_36 ly_176 rfl ?_
        refine e_bipush (v := 6) aX8_root_42 (by decide) ?_
        refine e_iload_n aX8_root_44 rfl ?_
        refine e_imul aX8_root_45 ?_
        refine e_iload_n aX8_root_46 rfl ?_
        refine e_iadd aX8_root_47 ?_
        obtain ⟨hg7, h⟩ := of_guard h
        refine e_iald aX8_root_48 ly_184 hg7 ?_
        refine e_goto (tgt := 54) aX8_root_49 (by decide) ?_
        exact e_retI aX8_root_54 rfl rfl (pI_of h)
  · refine e_if_ge (tgt := 14) aX8_root_8 (by decide) (fun q => absurd q hc2) (fun _ => ?_)
    refine e_ldc aX8_root_11 kX8_161 ?_
    exact e_retI aX8_root_13 rfl rfl (pI_of h)
def s_X8_steps_9 (i1 : Int32) (M : Mem) (k : Int32 → Int32 → Option Int32) (rec : Int32 → Int32 → Option Int32) (i2 : Int32) (i3 : Int32) : Option Int32 :=
  if i3 = (-1000000) then
    k i2 i3
  else
    if i3 < 0 ∨ 36 ≤ i3.toNatClampNeg then none else
    lt (M 185 i3.toNatClampNeg) fun (v3 : Int32) =>
    rec (i2 + 1) v3
def f_X8_steps_9 (i1 : Int32) (M : Mem) (k : Int32 → Int32 → Option Int32) : Nat → Int32 → Int32 → Option Int32
  | 0 => fun _ _ => none
  | n + 1 => fun i2 i3 => s_X8_steps_9 i1 M k (f_X8_steps_9 i1 M k n) i2 i3
set_option maxRecDepth 100000 in
set_option maxHeartbeats 4000000 in
theorem w_X8_steps_9 (l : Launch) (x : WX) {i1 : Int32} {M : Mem} {k : Int32 → Int32 → Option Int32} {r : Int32}  (K : ∀ (i2 : Int32) (i3 : Int32), k i2 i3 = some r → Ev l x false cX8_steps RX8 (some FieldType.int) 4 0 0 0 (pI r M) 28 [some (.ref (x.2.2.1 + 176)), some (.int i1), some (.int i2), some (.int i3)] [] LAY M) : ∀ (n : Nat) (i2 : Int32) (i3 : Int32), f_X8_steps_9 i1 M k n i2 i3 = some r → Ev l x false cX8_steps RX8 (some FieldType.int) 4 0 0 0 (pI r M) 9 [some (.ref (x.2.2.1 + 176)), some (.int i1), some (.int i2), some (.int i3)] [] LAY M := by
  intro n
  induction n with
  | zero =>
    intro i2 i3 h
    exact nomatch (show (none : Option Int32) = some r from h)
  | succ n ih =>
    intro i2 i3 h
    have h : s_X8_steps_9 i1 M k (f_X8_steps_9 i1 M k n) i2 i3 = some r := h
    unfold s_X8_steps_9 at h
    refine e_iload_n aX8_steps_9 rfl ?_
    refine e_ldc aX8_steps_10 kX8_240 ?_
    rcases of_ite h with ⟨hc1, h⟩ | ⟨hc1, h⟩
    · refine e_icmp_eq (tgt := 28) aX8_steps_12 (by decide) (fun _ => ?_) (fun q => absurd hc1 q)
      exact K _ _ h
    · refine e_icmp_eq (tgt := 28) aX8_steps_12 (by decide) (fun q => absurd q hc1) (fun _ => ?_)
      refine e_iinc (v := i2 + 1) (L2 := [some (.ref (x.2.2.1 + 176)), some (.int i1), some (.int (i2 + 1)), some (.int i3)]) aX8_steps_15 rfl rfl ⟨by decide, rfl⟩ rfl ?_
      refine e_aload_n aX8_steps_18 rfl ?_
      refine e_getR (r := 185) aX8_steps_19 fX8_39 ly_176 rfl ?_
      refine e_iload_n aX8_steps_22 rfl ?_
      obtain ⟨hg2, h⟩ := of_guard h
      refine e_iald aX8_steps_23 ly_185 hg2 ?_
      obtain ⟨v3, ev3, h⟩ := of_lt h
      refine e_nameI ev3 ?_
      refine e_istore_n (L2 := [some (.ref (x.2.2.1 + 176)), some (.int i1), some (.int (i2 + 1)), some (.int v3)]) aX8_steps_24 ⟨by decide, rfl⟩ rfl ?_
      refine e_goto (tgt := 9) aX8_steps_25 (by decide) ?_
      exact ih _ _ h
def f_X8_steps (i1 : Int32) (M : Mem) : Option Int32 :=
  if i1 < 0 ∨ 36 ≤ i1.toNatClampNeg then none else
  lt (M 185 i1.toNatClampNeg) fun (v2 : Int32) =>
  f_X8_steps_9 i1 M (fun (i2_3 : Int32) (i3_4 : Int32) =>
    some i2_3) FU 0 v2
set_option maxRecDepth 100000 in
set_option maxHeartbeats 4000000 in
theorem c_X8_steps (l : Launch) (x : WX) {i1 : Int32} {M : Mem} {r : Int32}  (h : f_X8_steps i1 M = some r) : Mt l x false yX8_steps cX8_steps 4 (some FieldType.int) 0 0 0 [.ref (x.2.2.1 + 176), .int i1] LAY M (pI r M) := by
  refine mt_of (L0 := [some (.ref (x.2.2.1 + 176)), some (.int i1), none, none]) (by decide +kernel) rfl (Nat.le_of_ble_eq_true rfl) (lvA_of 2 rfl) ?_
  unfold f_X8_steps at h
  refine e_iconst (v := 0) aX8_steps_0 (by decide) ?_
  refine e_istore_n (L2 := [some (.ref (x.2.2.1 + 176)), some (.int i1), some (.int 0), none]) aX8_steps_1 ⟨by decide, rfl⟩ rfl ?_
  refine e_aload_n aX8_steps_2 rfl ?_
  refine e_getR (r := 185) aX8_steps_3 fX8_39 ly_176 rfl ?_
  refine e_iload_n aX8_steps_6 rfl ?_
  obtain ⟨hg1, h⟩ := of_guard h
  refine e_iald aX8_steps_7 ly_185 hg1 ?_
  obtain ⟨v2, ev2, h⟩ := of_lt h
  refine e_nameI ev2 ?_
  refine e_istore_n (L2 := [some (.ref (x.2.2.1 + 176)), some (.int i1), some (.int 0), some (.int v2)]) aX8_steps_8 ⟨by decide, rfl⟩ rfl ?_
  refine w_X8_steps_9 l x  (fun i2_3 i3_4 h => ?_) FU _ _ h
  refine e_iload_n aX8_steps_28 rfl ?_
  exact e_retI aX8_steps_29 rfl rfl (pI_ro h)
def s_X8_projective_19 (i1 : Int32) (i2 : Int32) (i3 : Int32) (M : Mem) (k : Int32 → Int32 → Option Int32) (rec : Int32 → Int32 → Option Int32) (i4 : Int32) (i5 : Int32) : Option Int32 :=
  if M 176 0 ≤ i5 then
    k i4 i5
  else
    if i4 = 0 then
      rec 0 (i5 + 1)
    else
      if (6 * i1) + i5 < 0 ∨ 216 ≤ ((6 * i1) + i5).toNatClampNeg then none else
      if (6 * i3) + i5 < 0 ∨ 36 ≤ ((6 * i3) + i5).toNatClampNeg then none else
      if M 184 ((6 * i1) + i5).toNatClampNeg = M 183 ((6 * i3) + i5).toNatClampNeg then
        rec 1 (i5 + 1)
      else
        rec 0 (i5 + 1)
def f_X8_projective_19 (i1 : Int32) (i2 : Int32) (i3 : Int32) (M : Mem) (k : Int32 → Int32 → Option Int32) : Nat → Int32 → Int32 → Option Int32
  | 0 => fun _ _ => none
  | n + 1 => fun i4 i5 => s_X8_projective_19 i1 i2 i3 M k (f_X8_projective_19 i1 i2 i3 M k n) i4 i5
set_option maxRecDepth 100000 in
set_option maxHeartbeats 4000000 in
theorem w_X8_projective_19 (l : Launch) (x : WX) {i1 : Int32} {i2 : Int32} {i3 : Int32} {M : Mem} {k : Int32 → Int32 → Option Int32} {r : Int32}  (K : ∀ (i4 : Int32) (i5 : Int32), k i4 i5 = some r → Ev l x false cX8_projective RX8 (some FieldType.int) 6 0 0 0 (pI r M) 73 [some (.ref (x.2.2.1 + 176)), some (.int i1), some (.int i2), some (.int i3), some (.int i4), some (.int i5)] [] LAY M) : ∀ (n : Nat) (i4 : Int32) (i5 : Int32), f_X8_projective_19 i1 i2 i3 M k n i4 i5 = some r → Ev l x false cX8_projective RX8 (some FieldType.int) 6 0 0 0 (pI r M) 19 [some (.ref (x.2.2.1 + 176)), some (.int i1), some (.int i2), some (.int i3), some (.int i4), some (.int i5)] [] LAY M := by
  intro n
  induction n with
  | zero =>
    intro i4 i5 h
    exact nomatch (show (none : Option Int32) = some r from h)
  | succ n ih =>
    intro i4 i5 h
    have h : s_X8_projective_19 i1 i2 i3 M k (f_X8_projective_19 i1 i2 i3 M k n) i4 i5 = some r := h
    unfold s_X8_projective_19 at h
    refine e_iload aX8_projective_19 rfl ?_
    refine e_aload_n aX8_projective_21 rfl ?_
    refine e_getI aX8_projective_22 fX8_7 ly_176 rfl ?_
    rcases of_ite h with ⟨hc1, h⟩ | ⟨hc1, h⟩
    · refine e_icmp_ge (tgt := 73) aX8_projective_25 (by decide) (fun _ => ?_) (fun q => absurd hc1 q)
      exact K _ _ h
    · refine e_icmp_ge (tgt := 73) aX8_projective_25 (by decide) (fun q => absurd q hc1) (fun _ => ?_)
      refine e_iload aX8_projective_28 rfl ?_
      rcases of_ite h with ⟨hc2, h⟩ | ⟨hc2, h⟩
      · refine e_if_eq (tgt := 64) aX8_projective_30 (by decide) (fun _ => ?_) (fun q => absurd hc2 q)
        refine e_iconst (v := 0) aX8_projective_64 (by decide) ?_
        refine e_istore (L2 := [some (.ref (x.2.2.1 + 176)), some (.int i1), some (.int i2), some (.int i3), some (.int 0), some (.int i5)]) aX8_projective_65 ⟨by decide, rfl⟩ rfl ?_
        refine e_iinc (v := i5 + 1) (L2 := [some (.ref (x.2.2.1 + 176)), some (.int i1), some (.int i2), some (.int i3), some (.int 0), some (.int (i5 + 1))]) aX8_projective_67 rfl rfl ⟨by decide, rfl⟩ rfl ?_
        refine e_goto (tgt := 19) aX8_projective_70 (by decide) ?_
        exact ih _ _ h
      · refine e_if_eq (tgt := 64) aX8_projective_30 (by decide) (fun q => absurd q hc2) (fun _ => ?_)
        refine e_aload_n aX8_projective_33 rfl ?_
        refine e_getR (r := 184) aX8_projective_34 fX8_36 ly_176 rfl ?_
        refine e_bipush (v := 6) aX8_projective_37 (by decide) ?_
        refine e_iload_n aX8_projective_39 rfl ?_
        refine e_imul aX8_projective_40 ?_
        refine e_iload aX8_projective_41 rfl ?_
        refine e_iadd aX8_projective_43 ?_
        obtain ⟨hg3, h⟩ := of_guard h
        refine e_iald aX8_projective_44 ly_184 hg3 ?_
        refine e_aload_n aX8_projective_45 rfl ?_
        refine e_getR (r := 183) aX8_projective_46 fX8_33 ly_176 rfl ?_
        refine e_bipush (v := 6) aX8_projective_49 (by decide) ?_
        refine e_iload_n aX8_projective_51 rfl ?_
        refine e_imul aX8_projective_52 ?_
        refine e_iload aX8_projective_53 rfl ?_
        refine e_iadd aX8_projective_55 ?_
        obtain ⟨hg4, h⟩ := of_guard h
        refine e_iald aX8_projective_56 ly_183 hg4 ?_
        rcases of_ite h with ⟨hc5, h⟩ | ⟨hc5, h⟩
        · refine e_icmp_ne (tgt := 64) aX8_projective_57 (by decide) (fun q => absurd hc5 q) (fun _ => ?_)
          refine e_iconst (v := 1) aX8_projective_60 (by decide) ?_
          refine e_goto (tgt := 65) aX8_projective_61 (by decide) ?_
          refine e_istore (L2 := [some (.ref (x.2.2.1 + 176)), some (.int i1), some (.int i2), some (.int i3), some (.int 1), some (.int i5)]) aX8_projective_65 ⟨by decide, rfl⟩ rfl ?_
          refine e_iinc (v := i5 + 1) (L2 := [some (.ref (x.2.2.1 + 176)), some (.int i1), some (.int i2), some (.int i3), some (.int 1), some (.int (i5 + 1))]) aX8_projective_67 rfl rfl ⟨by decide, rfl⟩ rfl ?_
          refine e_goto (tgt := 19) aX8_projective_70 (by decide) ?_
          exact ih _ _ h
        · refine e_icmp_ne (tgt := 64) aX8_projective_57 (by decide) (fun _ => ?_) (fun q => absurd q hc5)
          refine e_iconst (v := 0) aX8_projective_64 (by decide) ?_
          refine e_istore (L2 := [some (.ref (x.2.2.1 + 176)), some (.int i1), some (.int i2), some (.int i3), some (.int 0), some (.int i5)]) aX8_projective_65 ⟨by decide, rfl⟩ rfl ?_
          refine e_iinc (v := i5 + 1) (L2 := [some (.ref (x.2.2.1 + 176)), some (.int i1), some (.int i2), some (.int i3), some (.int 0), some (.int (i5 + 1))]) aX8_projective_67 rfl rfl ⟨by decide, rfl⟩ rfl ?_
          refine e_goto (tgt := 19) aX8_projective_70 (by decide) ?_
          exact ih _ _ h
def s_X8_projective_5 (i1 : Int32) (M : Mem) (k : Int32 → Int32 → Option Int32) (rec : Int32 → Int32 → Option Int32) (i2 : Int32) (i3 : Int32) : Option Int32 :=
  if M 176 0 ≤ i3 then
    k i2 i3
  else
    f_X8_projective_19 i1 i2 i3 M (fun (i4_2 : Int32) (i5_3 : Int32) =>
      if i4_2 = 0 then
        rec i2 (i3 + 1)
      else
        rec i3 (i3 + 1)) FU 1 0
def f_X8_projective_5 (i1 : Int32) (M : Mem) (k : Int32 → Int32 → Option Int32) : Nat → Int32 → Int32 → Option Int32
  | 0 => fun _ _ => none
  | n + 1 => fun i2 i3 => s_X8_projective_5 i1 M k (f_X8_projective_5 i1 M k n) i2 i3
set_option maxRecDepth 100000 in
set_option maxHeartbeats 4000000 in
theorem w_X8_projective_5 (l : Launch) (x : WX) {i1 : Int32} {M : Mem} {k : Int32 → Int32 → Option Int32} {r : Int32}  (K : ∀ (i2 : Int32) (i3 : Int32), k i2 i3 = some r → Ev l x false cX8_projective RX8 (some FieldType.int) 6 0 0 0 (pI r M) 90 [some (.ref (x.2.2.1 + 176)), some (.int i1), some (.int i2), some (.int i3), none, none] [] LAY M) : ∀ (n : Nat) (i2 : Int32) (i3 : Int32), f_X8_projective_5 i1 M k n i2 i3 = some r → Ev l x false cX8_projective RX8 (some FieldType.int) 6 0 0 0 (pI r M) 5 [some (.ref (x.2.2.1 + 176)), some (.int i1), some (.int i2), some (.int i3), none, none] [] LAY M := by
  intro n
  induction n with
  | zero =>
    intro i2 i3 h
    exact nomatch (show (none : Option Int32) = some r from h)
  | succ n ih =>
    intro i2 i3 h
    have h : s_X8_projective_5 i1 M k (f_X8_projective_5 i1 M k n) i2 i3 = some r := h
    unfold s_X8_projective_5 at h
    refine e_iload_n aX8_projective_5 rfl ?_
    refine e_aload_n aX8_projective_6 rfl ?_
    refine e_getI aX8_projective_7 fX8_7 ly_176 rfl ?_
    rcases of_ite h with ⟨hc1, h⟩ | ⟨hc1, h⟩
    · refine e_icmp_ge (tgt := 90) aX8_projective_10 (by decide) (fun _ => ?_) (fun q => absurd hc1 q)
      exact K _ _ h
    · refine e_icmp_ge (tgt := 90) aX8_projective_10 (by decide) (fun q => absurd q hc1) (fun _ => ?_)
      refine e_iconst (v := 1) aX8_projective_13 (by decide) ?_
      refine e_istore (L2 := [some (.ref (x.2.2.1 + 176)), some (.int i1), some (.int i2), some (.int i3), some (.int 1), none]) aX8_projective_14 ⟨by decide, rfl⟩ rfl ?_
      refine e_iconst (v := 0) aX8_projective_16 (by decide) ?_
      refine e_istore (L2 := [some (.ref (x.2.2.1 + 176)), some (.int i1), some (.int i2), some (.int i3), some (.int 1), some (.int 0)]) aX8_projective_17 ⟨by decide, rfl⟩ rfl ?_
      refine w_X8_projective_19 l x  (fun i4_2 i5_3 h => ?_) FU _ _ h
      refine e_iload aX8_projective_73 rfl ?_
      rcases of_ite h with ⟨hc4, h⟩ | ⟨hc4, h⟩
      · refine e_if_eq (tgt := 82) aX8_projective_75 (by decide) (fun _ => ?_) (fun q => absurd hc4 q)
        refine e_iload_n aX8_projective_82 rfl ?_
        refine e_istore_n (L2 := [some (.ref (x.2.2.1 + 176)), some (.int i1), some (.int i2), some (.int i3), some (.int i4_2), some (.int i5_3)]) aX8_projective_83 ⟨by decide, rfl⟩ rfl ?_
        refine e_iinc (v := i3 + 1) (L2 := [some (.ref (x.2.2.1 + 176)), some (.int i1), some (.int i2), some (.int (i3 + 1)), some (.int i4_2), some (.int i5_3)]) aX8_projective_84 rfl rfl ⟨by decide, rfl⟩ rfl ?_
        refine e_goto (tgt := 5) aX8_projective_87 (by decide) ?_
        refine e_drop 4 (L2 := [some (.ref (x.2.2.1 + 176)), some (.int i1), some (.int i2), some (.int (i3 + 1)), none, some (.int i5_3)]) rfl ?_
        refine e_drop 5 (L2 := [some (.ref (x.2.2.1 + 176)), some (.int i1), some (.int i2), some (.int (i3 + 1)), none, none]) rfl ?_
        exact ih _ _ h
      · refine e_if_eq (tgt := 82) aX8_projective_75 (by decide) (fun q => absurd q hc4) (fun _ => ?_)
        refine e_iload_n aX8_projective_78 rfl ?_
        refine e_goto (tgt := 83) aX8_projective_79 (by decide) ?_
        refine e_istore_n (L2 := [some (.ref (x.2.2.1 + 176)), some (.int i1), some (.int i3), some (.int i3), some (.int i4_2), some (.int i5_3)]) aX8_projective_83 ⟨by decide, rfl⟩ rfl ?_
        refine e_iinc (v := i3 + 1) (L2 := [some (.ref (x.2.2.1 + 176)), some (.int i1), some (.int i3), some (.int (i3 + 1)), some (.int i4_2), some (.int i5_3)]) aX8_projective_84 rfl rfl ⟨by decide, rfl⟩ rfl ?_
        refine e_goto (tgt := 5) aX8_projective_87 (by decide) ?_
        refine e_drop 4 (L2 := [some (.ref (x.2.2.1 + 176)), some (.int i1), some (.int i3), some (.int (i3 + 1)), none, some (.int i5_3)]) rfl ?_
        refine e_drop 5 (L2 := [some (.ref (x.2.2.1 + 176)), some (.int i1), some (.int i3), some (.int (i3 + 1)), none, none]) rfl ?_
        exact ih _ _ h
def f_X8_projective (i1 : Int32) (M : Mem) : Option Int32 :=
  f_X8_projective_5 i1 M (fun (i2_1 : Int32) (i3_2 : Int32) =>
    some i2_1) FU (-1000000) 0
set_option maxRecDepth 100000 in
set_option maxHeartbeats 4000000 in
theorem c_X8_projective (l : Launch) (x : WX) {i1 : Int32} {M : Mem} {r : Int32}  (h : f_X8_projective i1 M = some r) : Mt l x false yX8_projective cX8_projective 6 (some FieldType.int) 0 0 0 [.ref (x.2.2.1 + 176), .int i1] LAY M (pI r M) := by
  refine mt_of (L0 := [some (.ref (x.2.2.1 + 176)), some (.int i1), none, none, none, none]) (by decide +kernel) rfl (Nat.le_of_ble_eq_true rfl) (lvA_of 4 rfl) ?_
  unfold f_X8_projective at h
  refine e_ldc aX8_projective_0 kX8_240 ?_
  refine e_istore_n (L2 := [some (.ref (x.2.2.1 + 176)), some (.int i1), some (.int (-1000000)), none, none, none]) aX8_projective_2 ⟨by decide, rfl⟩ rfl ?_
  refine e_iconst (v := 0) aX8_projective_3 (by decide) ?_
  refine e_istore_n (L2 := [some (.ref (x.2.2.1 + 176)), some (.int i1), some (.int (-1000000)), some (.int 0), none, none]) aX8_projective_4 ⟨by decide, rfl⟩ rfl ?_
  refine w_X8_projective_5 l x  (fun i2_1 i3_2 h => ?_) FU _ _ h
  refine e_iload_n aX8_projective_90 rfl ?_
  exact e_retI aX8_projective_91 rfl rfl (pI_ro h)
def s_X8_injective_19 (i1 : Int32) (i2 : Int32) (i3 : Int32) (M : Mem) (k : Int32 → Int32 → Option Int32) (rec : Int32 → Int32 → Option Int32) (i4 : Int32) (i5 : Int32) : Option Int32 :=
  if M 176 0 ≤ i5 then
    k i4 i5
  else
    if i4 = 0 then
      rec 0 (i5 + 1)
    else
      if (6 * i1) + i5 < 0 ∨ 216 ≤ ((6 * i1) + i5).toNatClampNeg then none else
      if (6 * i5) + i3 < 0 ∨ 36 ≤ ((6 * i5) + i3).toNatClampNeg then none else
      if M 184 ((6 * i1) + i5).toNatClampNeg = M 183 ((6 * i5) + i3).toNatClampNeg then
        rec 1 (i5 + 1)
      else
        rec 0 (i5 + 1)
def f_X8_injective_19 (i1 : Int32) (i2 : Int32) (i3 : Int32) (M : Mem) (k : Int32 → Int32 → Option Int32) : Nat → Int32 → Int32 → Option Int32
  | 0 => fun _ _ => none
  | n + 1 => fun i4 i5 => s_X8_injective_19 i1 i2 i3 M k (f_X8_injective_19 i1 i2 i3 M k n) i4 i5
set_option maxRecDepth 100000 in
set_option maxHeartbeats 4000000 in
theorem w_X8_injective_19 (l : Launch) (x : WX) {i1 : Int32} {i2 : Int32} {i3 : Int32} {M : Mem} {k : Int32 → Int32 → Option Int32} {r : Int32}  (K : ∀ (i4 : Int32) (i5 : Int32), k i4 i5 = some r → Ev l x false cX8_injective RX8 (some FieldType.int) 6 0 0 0 (pI r M) 73 [some (.ref (x.2.2.1 + 176)), some (.int i1), some (.int i2), some (.int i3), some (.int i4), some (.int i5)] [] LAY M) : ∀ (n : Nat) (i4 : Int32) (i5 : Int32), f_X8_injective_19 i1 i2 i3 M k n i4 i5 = some r → Ev l x false cX8_injective RX8 (some FieldType.int) 6 0 0 0 (pI r M) 19 [some (.ref (x.2.2.1 + 176)), some (.int i1), some (.int i2), some (.int i3), some (.int i4), some (.int i5)] [] LAY M := by
  intro n
  induction n with
  | zero =>
    intro i4 i5 h
    exact nomatch (show (none : Option Int32) = some r from h)
  | succ n ih =>
    intro i4 i5 h
    have h : s_X8_injective_19 i1 i2 i3 M k (f_X8_injective_19 i1 i2 i3 M k n) i4 i5 = some r := h
    unfold s_X8_injective_19 at h
    refine e_iload aX8_injective_19 rfl ?_
    refine e_aload_n aX8_injective_21 rfl ?_
    refine e_getI aX8_injective_22 fX8_7 ly_176 rfl ?_
    rcases of_ite h with ⟨hc1, h⟩ | ⟨hc1, h⟩
    · refine e_icmp_ge (tgt := 73) aX8_injective_25 (by decide) (fun _ => ?_) (fun q => absurd hc1 q)
      exact K _ _ h
    · refine e_icmp_ge (tgt := 73) aX8_injective_25 (by decide) (fun q => absurd q hc1) (fun _ => ?_)
      refine e_iload aX8_injective_28 rfl ?_
      rcases of_ite h with ⟨hc2, h⟩ | ⟨hc2, h⟩
      · refine e_if_eq (tgt := 64) aX8_injective_30 (by decide) (fun _ => ?_) (fun q => absurd hc2 q)
        refine e_iconst (v := 0) aX8_injective_64 (by decide) ?_
        refine e_istore (L2 := [some (.ref (x.2.2.1 + 176)), some (.int i1), some (.int i2), some (.int i3), some (.int 0), some (.int i5)]) aX8_injective_65 ⟨by decide, rfl⟩ rfl ?_
        refine e_iinc (v := i5 + 1) (L2 := [some (.ref (x.2.2.1 + 176)), some (.int i1), some (.int i2), some (.int i3), some (.int 0), some (.int (i5 + 1))]) aX8_injective_67 rfl rfl ⟨by decide, rfl⟩ rfl ?_
        refine e_goto (tgt := 19) aX8_injective_70 (by decide) ?_
        exact ih _ _ h
      · refine e_if_eq (tgt := 64) aX8_injective_30 (by decide) (fun q => absurd q hc2) (fun _ => ?_)
        refine e_aload_n aX8_injective_33 rfl ?_
        refine e_getR (r := 184) aX8_injective_34 fX8_36 ly_176 rfl ?_
        refine e_bipush (v := 6) aX8_injective_37 (by decide) ?_
        refine e_iload_n aX8_injective_39 rfl ?_
        refine e_imul aX8_injective_40 ?_
        refine e_iload aX8_injective_41 rfl ?_
        refine e_iadd aX8_injective_43 ?_
        obtain ⟨hg3, h⟩ := of_guard h
        refine e_iald aX8_injective_44 ly_184 hg3 ?_
        refine e_aload_n aX8_injective_45 rfl ?_
        refine e_getR (r := 183) aX8_injective_46 fX8_33 ly_176 rfl ?_
        refine e_bipush (v := 6) aX8_injective_49 (by decide) ?_
        refine e_iload aX8_injective_51 rfl ?_
        refine e_imul aX8_injective_53 ?_
        refine e_iload_n aX8_injective_54 rfl ?_
        refine e_iadd aX8_injective_55 ?_
        obtain ⟨hg4, h⟩ := of_guard h
        refine e_iald aX8_injective_56 ly_183 hg4 ?_
        rcases of_ite h with ⟨hc5, h⟩ | ⟨hc5, h⟩
        · refine e_icmp_ne (tgt := 64) aX8_injective_57 (by decide) (fun q => absurd hc5 q) (fun _ => ?_)
          refine e_iconst (v := 1) aX8_injective_60 (by decide) ?_
          refine e_goto (tgt := 65) aX8_injective_61 (by decide) ?_
          refine e_istore (L2 := [some (.ref (x.2.2.1 + 176)), some (.int i1), some (.int i2), some (.int i3), some (.int 1), some (.int i5)]) aX8_injective_65 ⟨by decide, rfl⟩ rfl ?_
          refine e_iinc (v := i5 + 1) (L2 := [some (.ref (x.2.2.1 + 176)), some (.int i1), some (.int i2), some (.int i3), some (.int 1), some (.int (i5 + 1))]) aX8_injective_67 rfl rfl ⟨by decide, rfl⟩ rfl ?_
          refine e_goto (tgt := 19) aX8_injective_70 (by decide) ?_
          exact ih _ _ h
        · refine e_icmp_ne (tgt := 64) aX8_injective_57 (by decide) (fun _ => ?_) (fun q => absurd q hc5)
          refine e_iconst (v := 0) aX8_injective_64 (by decide) ?_
          refine e_istore (L2 := [some (.ref (x.2.2.1 + 176)), some (.int i1), some (.int i2), some (.int i3), some (.int 0), some (.int i5)]) aX8_injective_65 ⟨by decide, rfl⟩ rfl ?_
          refine e_iinc (v := i5 + 1) (L2 := [some (.ref (x.2.2.1 + 176)), some (.int i1), some (.int i2), some (.int i3), some (.int 0), some (.int (i5 + 1))]) aX8_injective_67 rfl rfl ⟨by decide, rfl⟩ rfl ?_
          refine e_goto (tgt := 19) aX8_injective_70 (by decide) ?_
          exact ih _ _ h
def s_X8_injective_5 (i1 : Int32) (M : Mem) (k : Int32 → Int32 → Option Int32) (rec : Int32 → Int32 → Option Int32) (i2 : Int32) (i3 : Int32) : Option Int32 :=
  if M 176 0 ≤ i3 then
    k i2 i3
  else
    f_X8_injective_19 i1 i2 i3 M (fun (i4_2 : Int32) (i5_3 : Int32) =>
      if i4_2 = 0 then
        rec i2 (i3 + 1)
      else
        rec i3 (i3 + 1)) FU 1 0
def f_X8_injective_5 (i1 : Int32) (M : Mem) (k : Int32 → Int32 → Option Int32) : Nat → Int32 → Int32 → Option Int32
  | 0 => fun _ _ => none
  | n + 1 => fun i2 i3 => s_X8_injective_5 i1 M k (f_X8_injective_5 i1 M k n) i2 i3
set_option maxRecDepth 100000 in
set_option maxHeartbeats 4000000 in
theorem w_X8_injective_5 (l : Launch) (x : WX) {i1 : Int32} {M : Mem} {k : Int32 → Int32 → Option Int32} {r : Int32}  (K : ∀ (i2 : Int32) (i3 : Int32), k i2 i3 = some r → Ev l x false cX8_injective RX8 (some FieldType.int) 6 0 0 0 (pI r M) 90 [some (.ref (x.2.2.1 + 176)), some (.int i1), some (.int i2), some (.int i3), none, none] [] LAY M) : ∀ (n : Nat) (i2 : Int32) (i3 : Int32), f_X8_injective_5 i1 M k n i2 i3 = some r → Ev l x false cX8_injective RX8 (some FieldType.int) 6 0 0 0 (pI r M) 5 [some (.ref (x.2.2.1 + 176)), some (.int i1), some (.int i2), some (.int i3), none, none] [] LAY M := by
  intro n
  induction n with
  | zero =>
    intro i2 i3 h
    exact nomatch (show (none : Option Int32) = some r from h)
  | succ n ih =>
    intro i2 i3 h
    have h : s_X8_injective_5 i1 M k (f_X8_injective_5 i1 M k n) i2 i3 = some r := h
    unfold s_X8_injective_5 at h
    refine e_iload_n aX8_injective_5 rfl ?_
    refine e_aload_n aX8_injective_6 rfl ?_
    refine e_getI aX8_injective_7 fX8_7 ly_176 rfl ?_
    rcases of_ite h with ⟨hc1, h⟩ | ⟨hc1, h⟩
    · refine e_icmp_ge (tgt := 90) aX8_injective_10 (by decide) (fun _ => ?_) (fun q => absurd hc1 q)
      exact K _ _ h
    · refine e_icmp_ge (tgt := 90) aX8_injective_10 (by decide) (fun q => absurd q hc1) (fun _ => ?_)
      refine e_iconst (v := 1) aX8_injective_13 (by decide) ?_
      refine e_istore (L2 := [some (.ref (x.2.2.1 + 176)), some (.int i1), some (.int i2), some (.int i3), some (.int 1), none]) aX8_injective_14 ⟨by decide, rfl⟩ rfl ?_
      refine e_iconst (v := 0) aX8_injective_16 (by decide) ?_
      refine e_istore (L2 := [some (.ref (x.2.2.1 + 176)), some (.int i1), some (.int i2), some (.int i3), some (.int 1), some (.int 0)]) aX8_injective_17 ⟨by decide, rfl⟩ rfl ?_
      refine w_X8_injective_19 l x  (fun i4_2 i5_3 h => ?_) FU _ _ h
      refine e_iload aX8_injective_73 rfl ?_
      rcases of_ite h with ⟨hc4, h⟩ | ⟨hc4, h⟩
      · refine e_if_eq (tgt := 82) aX8_injective_75 (by decide) (fun _ => ?_) (fun q => absurd hc4 q)
        refine e_iload_n aX8_injective_82 rfl ?_
        refine e_istore_n (L2 := [some (.ref (x.2.2.1 + 176)), some (.int i1), some (.int i2), some (.int i3), some (.int i4_2), some (.int i5_3)]) aX8_injective_83 ⟨by decide, rfl⟩ rfl ?_
        refine e_iinc (v := i3 + 1) (L2 := [some (.ref (x.2.2.1 + 176)), some (.int i1), some (.int i2), some (.int (i3 + 1)), some (.int i4_2), some (.int i5_3)]) aX8_injective_84 rfl rfl ⟨by decide, rfl⟩ rfl ?_
        refine e_goto (tgt := 5) aX8_injective_87 (by decide) ?_
        refine e_drop 4 (L2 := [some (.ref (x.2.2.1 + 176)), some (.int i1), some (.int i2), some (.int (i3 + 1)), none, some (.int i5_3)]) rfl ?_
        refine e_drop 5 (L2 := [some (.ref (x.2.2.1 + 176)), some (.int i1), some (.int i2), some (.int (i3 + 1)), none, none]) rfl ?_
        exact ih _ _ h
      · refine e_if_eq (tgt := 82) aX8_injective_75 (by decide) (fun q => absurd q hc4) (fun _ => ?_)
        refine e_iload_n aX8_injective_78 rfl ?_
        refine e_goto (tgt := 83) aX8_injective_79 (by decide) ?_
        refine e_istore_n (L2 := [some (.ref (x.2.2.1 + 176)), some (.int i1), some (.int i3), some (.int i3), some (.int i4_2), some (.int i5_3)]) aX8_injective_83 ⟨by decide, rfl⟩ rfl ?_
        refine e_iinc (v := i3 + 1) (L2 := [some (.ref (x.2.2.1 + 176)), some (.int i1), some (.int i3), some (.int (i3 + 1)), some (.int i4_2), some (.int i5_3)]) aX8_injective_84 rfl rfl ⟨by decide, rfl⟩ rfl ?_
        refine e_goto (tgt := 5) aX8_injective_87 (by decide) ?_
        refine e_drop 4 (L2 := [some (.ref (x.2.2.1 + 176)), some (.int i1), some (.int i3), some (.int (i3 + 1)), none, some (.int i5_3)]) rfl ?_
        refine e_drop 5 (L2 := [some (.ref (x.2.2.1 + 176)), some (.int i1), some (.int i3), some (.int (i3 + 1)), none, none]) rfl ?_
        exact ih _ _ h
def f_X8_injective (i1 : Int32) (M : Mem) : Option Int32 :=
  f_X8_injective_5 i1 M (fun (i2_1 : Int32) (i3_2 : Int32) =>
    some i2_1) FU (-1000000) 0
set_option maxRecDepth 100000 in
set_option maxHeartbeats 4000000 in
theorem c_X8_injective (l : Launch) (x : WX) {i1 : Int32} {M : Mem} {r : Int32}  (h : f_X8_injective i1 M = some r) : Mt l x false yX8_injective cX8_injective 6 (some FieldType.int) 0 0 0 [.ref (x.2.2.1 + 176), .int i1] LAY M (pI r M) := by
  refine mt_of (L0 := [some (.ref (x.2.2.1 + 176)), some (.int i1), none, none, none, none]) (by decide +kernel) rfl (Nat.le_of_ble_eq_true rfl) (lvA_of 4 rfl) ?_
  unfold f_X8_injective at h
  refine e_ldc aX8_injective_0 kX8_240 ?_
  refine e_istore_n (L2 := [some (.ref (x.2.2.1 + 176)), some (.int i1), some (.int (-1000000)), none, none, none]) aX8_injective_2 ⟨by decide, rfl⟩ rfl ?_
  refine e_iconst (v := 0) aX8_injective_3 (by decide) ?_
  refine e_istore_n (L2 := [some (.ref (x.2.2.1 + 176)), some (.int i1), some (.int (-1000000)), some (.int 0), none, none]) aX8_injective_4 ⟨by decide, rfl⟩ rfl ?_
  refine w_X8_injective_5 l x  (fun i2_1 i3_2 h => ?_) FU _ _ h
  refine e_iload_n aX8_injective_90 rfl ?_
  exact e_retI aX8_injective_91 rfl rfl (pI_ro h)
def s_X8_foot_9 (i1 : Int32) (M : Mem) (k : Int32 → Int32 → Option Int32) (rec : Int32 → Int32 → Option Int32) (i2 : Int32) (i3 : Int32) : Option Int32 :=
  if i3 = (-1000000) then
    k i2 i3
  else
    if i3 < 0 ∨ 36 ≤ i3.toNatClampNeg then none else
    lt (M 185 i3.toNatClampNeg) fun (v3 : Int32) =>
    rec i3 v3
def f_X8_foot_9 (i1 : Int32) (M : Mem) (k : Int32 → Int32 → Option Int32) : Nat → Int32 → Int32 → Option Int32
  | 0 => fun _ _ => none
  | n + 1 => fun i2 i3 => s_X8_foot_9 i1 M k (f_X8_foot_9 i1 M k n) i2 i3
set_option maxRecDepth 100000 in
set_option maxHeartbeats 4000000 in
theorem w_X8_foot_9 (l : Launch) (x : WX) {i1 : Int32} {M : Mem} {k : Int32 → Int32 → Option Int32} {r : Int32}  (K : ∀ (i2 : Int32) (i3 : Int32), k i2 i3 = some r → Ev l x false cX8_foot RX8 (some FieldType.int) 4 1 0 0 (pI r M) 27 [some (.ref (x.2.2.1 + 176)), some (.int i1), some (.int i2), some (.int i3)] [] LAY M) : ∀ (n : Nat) (i2 : Int32) (i3 : Int32), f_X8_foot_9 i1 M k n i2 i3 = some r → Ev l x false cX8_foot RX8 (some FieldType.int) 4 1 0 0 (pI r M) 9 [some (.ref (x.2.2.1 + 176)), some (.int i1), some (.int i2), some (.int i3)] [] LAY M := by
  intro n
  induction n with
  | zero =>
    intro i2 i3 h
    exact nomatch (show (none : Option Int32) = some r from h)
  | succ n ih =>
    intro i2 i3 h
    have h : s_X8_foot_9 i1 M k (f_X8_foot_9 i1 M k n) i2 i3 = some r := h
    unfold s_X8_foot_9 at h
    refine e_iload_n aX8_foot_9 rfl ?_
    refine e_ldc aX8_foot_10 kX8_240 ?_
    rcases of_ite h with ⟨hc1, h⟩ | ⟨hc1, h⟩
    · refine e_icmp_eq (tgt := 27) aX8_foot_12 (by decide) (fun _ => ?_) (fun q => absurd hc1 q)
      exact K _ _ h
    · refine e_icmp_eq (tgt := 27) aX8_foot_12 (by decide) (fun q => absurd q hc1) (fun _ => ?_)
      refine e_iload_n aX8_foot_15 rfl ?_
      refine e_istore_n (L2 := [some (.ref (x.2.2.1 + 176)), some (.int i1), some (.int i3), some (.int i3)]) aX8_foot_16 ⟨by decide, rfl⟩ rfl ?_
      refine e_aload_n aX8_foot_17 rfl ?_
      refine e_getR (r := 185) aX8_foot_18 fX8_39 ly_176 rfl ?_
      refine e_iload_n aX8_foot_21 rfl ?_
      obtain ⟨hg2, h⟩ := of_guard h
      refine e_iald aX8_foot_22 ly_185 hg2 ?_
      obtain ⟨v3, ev3, h⟩ := of_lt h
      refine e_nameI ev3 ?_
      refine e_istore_n (L2 := [some (.ref (x.2.2.1 + 176)), some (.int i1), some (.int i3), some (.int v3)]) aX8_foot_23 ⟨by decide, rfl⟩ rfl ?_
      refine e_goto (tgt := 9) aX8_foot_24 (by decide) ?_
      exact ih _ _ h
def f_X8_foot (i1 : Int32) (M : Mem) : Option Int32 :=
  if i1 < 0 ∨ 36 ≤ i1.toNatClampNeg then none else
  lt (M 185 i1.toNatClampNeg) fun (v2 : Int32) =>
  f_X8_foot_9 i1 M (fun (i2_3 : Int32) (i3_4 : Int32) =>
    (f_X8_projective i2_3 M).bind fun (r5 : Int32) =>
    some r5) FU i1 v2
set_option maxRecDepth 100000 in
set_option maxHeartbeats 4000000 in
theorem c_X8_foot (l : Launch) (x : WX) {i1 : Int32} {M : Mem} {r : Int32}  (h : f_X8_foot i1 M = some r) : Mt l x false yX8_foot cX8_foot 4 (some FieldType.int) 1 0 0 [.ref (x.2.2.1 + 176), .int i1] LAY M (pI r M) := by
  refine mt_of (L0 := [some (.ref (x.2.2.1 + 176)), some (.int i1), none, none]) (by decide +kernel) rfl (Nat.le_of_ble_eq_true rfl) (lvA_of 2 rfl) ?_
  unfold f_X8_foot at h
  refine e_iload_n aX8_foot_0 rfl ?_
  refine e_istore_n (L2 := [some (.ref (x.2.2.1 + 176)), some (.int i1), some (.int i1), none]) aX8_foot_1 ⟨by decide, rfl⟩ rfl ?_
  refine e_aload_n aX8_foot_2 rfl ?_
  refine e_getR (r := 185) aX8_foot_3 fX8_39 ly_176 rfl ?_
  refine e_iload_n aX8_foot_6 rfl ?_
  obtain ⟨hg1, h⟩ := of_guard h
  refine e_iald aX8_foot_7 ly_185 hg1 ?_
  obtain ⟨v2, ev2, h⟩ := of_lt h
  refine e_nameI ev2 ?_
  refine e_istore_n (L2 := [some (.ref (x.2.2.1 + 176)), some (.int i1), some (.int i1), some (.int v2)]) aX8_foot_8 ⟨by decide, rfl⟩ rfl ?_
  refine w_X8_foot_9 l x  (fun i2_3 i3_4 h => ?_) FU _ _ h
  refine e_aload_n aX8_foot_27 rfl ?_
  refine e_iload_n aX8_foot_28 rfl ?_
  obtain ⟨r5, hr5, h⟩ := of_bind h
  refine e_VI [] aX8_foot_29 co_X8_projective mX8_241 ly_176 rfl rfl (c_X8_projective l x hr5) rfl ⟨by decide, by decide⟩ (Nat.le_of_ble_eq_true rfl) rfl ?_
  exact e_retI aX8_foot_32 rfl rfl (pI_ro h)
def f_X8_mesh (i1 : Int32) (M : Mem) : Option Int32 :=
  if i1 < 0 ∨ 36 ≤ i1.toNatClampNeg then none else
  lt (M 185 i1.toNatClampNeg) fun (v2 : Int32) =>
  if v2 = (-1000000) then
    some (-1000000)
  else
    (f_X8_sumOf 184 (6 * i1) M).bind fun (r4 : Int32) =>
    (f_X8_sumOf 184 (6 * v2) M).bind fun (r5 : Int32) =>
    some (r4 + r5)
set_option maxRecDepth 100000 in
set_option maxHeartbeats 4000000 in
theorem c_X8_mesh (l : Launch) (x : WX) {i1 : Int32} {M : Mem} {r : Int32}  (h : f_X8_mesh i1 M = some r) : Mt l x false yX8_mesh cX8_mesh 3 (some FieldType.int) 1 0 0 [.ref (x.2.2.1 + 176), .int i1] LAY M (pI r M) := by
  refine mt_of (L0 := [some (.ref (x.2.2.1 + 176)), some (.int i1), none]) (by decide +kernel) rfl (Nat.le_of_ble_eq_true rfl) (lvA_of 1 rfl) ?_
  unfold f_X8_mesh at h
  refine e_aload_n aX8_mesh_0 rfl ?_
  refine e_getR (r := 185) aX8_mesh_1 fX8_39 ly_176 rfl ?_
  refine e_iload_n aX8_mesh_4 rfl ?_
  obtain ⟨hg1, h⟩ := of_guard h
  refine e_iald aX8_mesh_5 ly_185 hg1 ?_
  obtain ⟨v2, ev2, h⟩ := of_lt h
  refine e_nameI ev2 ?_
  refine e_istore_n (L2 := [some (.ref (x.2.2.1 + 176)), some (.int i1), some (.int v2)]) aX8_mesh_6 ⟨by decide, rfl⟩ rfl ?_
  refine e_iload_n aX8_mesh_7 rfl ?_
  refine e_ldc aX8_mesh_8 kX8_240 ?_
  rcases of_ite h with ⟨hc3, h⟩ | ⟨hc3, h⟩
  · refine e_icmp_ne (tgt := 18) aX8_mesh_10 (by decide) (fun q => absurd hc3 q) (fun _ => ?_)
    refine e_ldc aX8_mesh_13 kX8_240 ?_
    refine e_goto (tgt := 41) aX8_mesh_15 (by decide) ?_
    exact e_retI aX8_mesh_41 rfl rfl (pI_ro h)
  · refine e_icmp_ne (tgt := 18) aX8_mesh_10 (by decide) (fun _ => ?_) (fun q => absurd q hc3)
    refine e_aload_n aX8_mesh_18 rfl ?_
    refine e_getR (r := 184) aX8_mesh_19 fX8_36 ly_176 rfl ?_
    refine e_bipush (v := 6) aX8_mesh_22 (by decide) ?_
    refine e_iload_n aX8_mesh_24 rfl ?_
    refine e_imul aX8_mesh_25 ?_
    obtain ⟨r4, hr4, h⟩ := of_bind h
    refine e_SI [] aX8_mesh_26 co_X8_sumOf mX8_198 (c_X8_sumOf l x ia_184 hr4) rfl ⟨by decide, by decide⟩ (Nat.le_of_ble_eq_true rfl) rfl ?_
    refine e_aload_n aX8_mesh_29 rfl ?_
    refine e_getR (r := 184) aX8_mesh_30 fX8_36 ly_176 rfl ?_
    refine e_bipush (v := 6) aX8_mesh_33 (by decide) ?_
    refine e_iload_n aX8_mesh_35 rfl ?_
    refine e_imul aX8_mesh_36 ?_
    obtain ⟨r5, hr5, h⟩ := of_bind h
    refine e_SI [.int r4] aX8_mesh_37 co_X8_sumOf mX8_198 (c_X8_sumOf l x ia_184 hr5) rfl ⟨by decide, by decide⟩ (Nat.le_of_ble_eq_true rfl) rfl ?_
    refine e_iadd aX8_mesh_40 ?_
    exact e_retI aX8_mesh_41 rfl rfl (pI_ro h)
def f_X8_place (i1 : Int32) (i2 : Int32) (M : Mem) : Option (Int32 × Mem) :=
  (f_X8_knows M).bind fun (M1 : Mem) =>
  if 0 ≤ M1 176 12 then
    (f_X8_in i1.toInt64 0 (((M1 176 12) - 1).toInt64) M1).bind fun (r3 : Int32) =>
    if r3 = 0 then
      some ((-1000001), M1)
    else
      if i2 = 0 then
        (f_X8_sumOf 184 (6 * i1) M1).bind fun (r11 : Int32) =>
        some (r11, M1)
      else if i2 = 1 then
        if i1 < 0 ∨ 36 ≤ i1.toNatClampNeg then none else
        some (M1 185 i1.toNatClampNeg, M1)
      else if i2 = 2 then
        (f_X8_steps i1 M1).bind fun (r13 : Int32) =>
        some (r13, M1)
      else if i2 = 3 then
        (f_X8_foot i1 M1).bind fun (r14 : Int32) =>
        some (r14, M1)
      else if i2 = 4 then
        (f_X8_mesh i1 M1).bind fun (r15 : Int32) =>
        some (r15, M1)
      else if i2 = 5 then
        (f_X8_injective i1 M1).bind fun (r16 : Int32) =>
        some (r16, M1)
      else 
        some ((-1000002), M1)
  else
    some ((-1000003), M1)
set_option maxRecDepth 100000 in
set_option maxHeartbeats 4000000 in
theorem c_X8_place (l : Launch) (x : WX) {i1 : Int32} {i2 : Int32} {M : Mem} {r : (Int32 × Mem)}  (h : f_X8_place i1 i2 M = some r) : Mt l x false yX8_place cX8_place 3 (some FieldType.int) 3 0 0 [.ref (x.2.2.1 + 176), .int i1, .int i2] LAY M (pI r.1 r.2) := by
  refine mt_of (L0 := [some (.ref (x.2.2.1 + 176)), some (.int i1), some (.int i2)]) (by decide +kernel) rfl (Nat.le_of_ble_eq_true rfl) (lvA_of 0 rfl) ?_
  unfold f_X8_place at h
  refine e_aload_n aX8_place_0 rfl ?_
  obtain ⟨M1, hM1, h⟩ := of_bind h
  refine e_VV [] aX8_place_1 co_X8_knows mX8_214 ly_176 rfl rfl (c_X8_knows l x hM1) rfl ⟨by decide, by decide⟩ (Nat.le_of_ble_eq_true rfl) rfl ?_
  refine e_aload_n aX8_place_4 rfl ?_
  refine e_getI aX8_place_5 fX8_195 ly_176 rfl ?_
  rcases of_ite h with ⟨hc2, h⟩ | ⟨hc2, h⟩
  · refine e_if_ge (tgt := 14) aX8_place_8 (by decide) (fun _ => ?_) (fun q => absurd hc2 q)
    refine e_iload_n aX8_place_14 rfl ?_
    refine e_i2l aX8_place_15 ?_
    refine e_lconst (v := 0) aX8_place_16 (by decide) ?_
    refine e_aload_n aX8_place_17 rfl ?_
    refine e_getI aX8_place_18 fX8_195 ly_176 rfl ?_
    refine e_iconst (v := 1) aX8_place_21 (by decide) ?_
    refine e_isub aX8_place_22 ?_
    refine e_i2l aX8_place_23 ?_
    obtain ⟨r3, hr3, h⟩ := of_bind h
    refine e_SI [] aX8_place_24 co_X8_in mX8_72 (c_X8_in l x hr3) rfl ⟨by decide, by decide⟩ (Nat.le_of_ble_eq_true rfl) rfl ?_
    rcases of_ite h with ⟨hc4, h⟩ | ⟨hc4, h⟩
    · refine e_if_ne (tgt := 33) aX8_place_27 (by decide) (fun q => absurd hc4 q) (fun _ => ?_)
      refine e_ldc aX8_place_30 kX8_168 ?_
      exact e_retI aX8_place_32 rfl rfl (pI_of h)
    · refine e_if_ne (tgt := 33) aX8_place_27 (by decide) (fun _ => ?_) (fun q => absurd q hc4)
      refine e_iload_n aX8_place_33 rfl ?_
      rcases of_ite h with ⟨hc5, h⟩ | ⟨hc5, h⟩
      · refine e_tableIn (off := 38) (tgt := 72) aX8_place_34 (by rw [hc5]; decide) (by rw [hc5]; decide) (by rw [hc5]; rfl) (by decide) ?_
        refine e_aload_n aX8_place_72 rfl ?_
        refine e_getR (r := 184) aX8_place_73 fX8_36 ly_176 rfl ?_
        refine e_bipush (v := 6) aX8_place_76 (by decide) ?_
        refine e_iload_n aX8_place_78 rfl ?_
        refine e_imul aX8_place_79 ?_
        obtain ⟨r11, hr11, h⟩ := of_bind h
        refine e_SI [] aX8_place_80 co_X8_sumOf mX8_198 (c_X8_sumOf l x ia_184 hr11) rfl ⟨by decide, by decide⟩ (Nat.le_of_ble_eq_true rfl) rfl ?_
        exact e_retI aX8_place_83 rfl rfl (pI_of h)
      · rcases of_ite h with ⟨hc6, h⟩ | ⟨hc6, h⟩
        · refine e_tableIn (off := 50) (tgt := 84) aX8_place_34 (by rw [hc6]; decide) (by rw [hc6]; decide) (by rw [hc6]; rfl) (by decide) ?_
          refine e_aload_n aX8_place_84 rfl ?_
          refine e_getR (r := 185) aX8_place_85 fX8_39 ly_176 rfl ?_
          refine e_iload_n aX8_place_88 rfl ?_
          obtain ⟨hg12, h⟩ := of_guard h
          refine e_iald aX8_place_89 ly_185 hg12 ?_
          exact e_retI aX8_place_90 rfl rfl (pI_of h)
        · rcases of_ite h with ⟨hc7, h⟩ | ⟨hc7, h⟩
          · refine e_tableIn (off := 57) (tgt := 91) aX8_place_34 (by rw [hc7]; decide) (by rw [hc7]; decide) (by rw [hc7]; rfl) (by decide) ?_
            refine e_aload_n aX8_place_91 rfl ?_
            refine e_iload_n aX8_place_92 rfl ?_
            obtain ⟨r13, hr13, h⟩ := of_bind h
            refine e_VI [] aX8_place_93 co_X8_steps mX8_244 ly_176 rfl rfl (c_X8_steps l x hr13) rfl ⟨by decide, by decide⟩ (Nat.le_of_ble_eq_true rfl) rfl ?_
            exact e_retI aX8_place_96 rfl rfl (pI_of h)
          · rcases of_ite h with ⟨hc8, h⟩ | ⟨hc8, h⟩
            · refine e_tableIn (off := 63) (tgt := 97) aX8_place_34 (by rw [hc8]; decide) (by rw [hc8]; decide) (by rw [hc8]; rfl) (by decide) ?_
              refine e_aload_n aX8_place_97 rfl ?_
              refine e_iload_n aX8_place_98 rfl ?_
              obtain ⟨r14, hr14, h⟩ := of_bind h
              refine e_VI [] aX8_place_99 co_X8_foot mX8_247 ly_176 rfl rfl (c_X8_foot l x hr14) rfl ⟨by decide, by decide⟩ (Nat.le_of_ble_eq_true rfl) rfl ?_
              exact e_retI aX8_place_102 rfl rfl (pI_of h)
            · rcases of_ite h with ⟨hc9, h⟩ | ⟨hc9, h⟩
              · refine e_tableIn (off := 69) (tgt := 103) aX8_place_34 (by rw [hc9]; decide) (by rw [hc9]; decide) (by rw [hc9]; rfl) (by decide) ?_
                refine e_aload_n aX8_place_103 rfl ?_
                refine e_iload_n aX8_place_104 rfl ?_
                obtain ⟨r15, hr15, h⟩ := of_bind h
                refine e_VI [] aX8_place_105 co_X8_mesh mX8_250 ly_176 rfl rfl (c_X8_mesh l x hr15) rfl ⟨by decide, by decide⟩ (Nat.le_of_ble_eq_true rfl) rfl ?_
                exact e_retI aX8_place_108 rfl rfl (pI_of h)
              · rcases of_ite h with ⟨hc10, h⟩ | ⟨hc10, h⟩
                · refine e_tableIn (off := 75) (tgt := 109) aX8_place_34 (by rw [hc10]; decide) (by rw [hc10]; decide) (by rw [hc10]; rfl) (by decide) ?_
                  refine e_aload_n aX8_place_109 rfl ?_
                  refine e_iload_n aX8_place_110 rfl ?_
                  obtain ⟨r16, hr16, h⟩ := of_bind h
                  refine e_VI [] aX8_place_111 co_X8_injective mX8_253 ly_176 rfl rfl (c_X8_injective l x hr16) rfl ⟨by decide, by decide⟩ (Nat.le_of_ble_eq_true rfl) rfl ?_
                  exact e_retI aX8_place_114 rfl rfl (pI_of h)
                · refine e_tableOut (tgt := 115) aX8_place_34 (sw_out (n := 5) (by decide) (fun c hc => match c, hc with | 0, _ => hc5 | 1, _ => hc6 | 2, _ => hc7 | 3, _ => hc8 | 4, _ => hc9 | 5, _ => hc10 | c + 6, hc => absurd hc (by omega))) (by decide) ?_
                  refine e_ldc aX8_place_115 kX8_78 ?_
                  exact e_retI aX8_place_117 rfl rfl (pI_of h)
  · refine e_if_ge (tgt := 14) aX8_place_8 (by decide) (fun q => absurd q hc2) (fun _ => ?_)
    refine e_ldc aX8_place_11 kX8_161 ?_
    exact e_retI aX8_place_13 rfl rfl (pI_of h)
def f_X8_between (i1 : Int32) (i2 : Int32) (i3 : Int32) (M : Mem) : Option (Int32 × Mem) :=
  (f_X8_knows M).bind fun (M1 : Mem) =>
  if 0 ≤ M1 176 12 then
    (f_X8_in i1.toInt64 0 (((M1 176 12) - 1).toInt64) M1).bind fun (r3 : Int32) =>
    if r3 = 0 then
      some ((-1000001), M1)
    else
      (f_X8_in i2.toInt64 0 (((M1 176 12) - 1).toInt64) M1).bind fun (r5 : Int32) =>
      if r5 = 0 then
        some ((-1000001), M1)
      else
        (f_X8_in i3.toInt64 0 2 M1).bind fun (r7 : Int32) =>
        if r7 = 0 then
          some ((-1000002), M1)
        else
          (f_X8_form 184 (6 * i1) 184 (6 * i2) M1).bind fun (r9 : Int32) =>
          if i3 = 2 then
            some (r9, M1)
          else
            if i3 = 0 then
              if r9 ≤ 0 then
                some (0, M1)
              else
                some (r9, M1)
            else
              if 0 ≤ r9 then
                some (0, M1)
              else
                some (-r9, M1)
  else
    some ((-1000003), M1)
set_option maxRecDepth 100000 in
set_option maxHeartbeats 4000000 in
theorem c_X8_between (l : Launch) (x : WX) {i1 : Int32} {i2 : Int32} {i3 : Int32} {M : Mem} {r : (Int32 × Mem)}  (h : f_X8_between i1 i2 i3 M = some r) : Mt l x false yX8_between cX8_between 5 (some FieldType.int) 3 0 0 [.ref (x.2.2.1 + 176), .int i1, .int i2, .int i3] LAY M (pI r.1 r.2) := by
  refine mt_of (L0 := [some (.ref (x.2.2.1 + 176)), some (.int i1), some (.int i2), some (.int i3), none]) (by decide +kernel) rfl (Nat.le_of_ble_eq_true rfl) (lvA_of 1 rfl) ?_
  unfold f_X8_between at h
  refine e_aload_n aX8_between_0 rfl ?_
  obtain ⟨M1, hM1, h⟩ := of_bind h
  refine e_VV [] aX8_between_1 co_X8_knows mX8_214 ly_176 rfl rfl (c_X8_knows l x hM1) rfl ⟨by decide, by decide⟩ (Nat.le_of_ble_eq_true rfl) rfl ?_
  refine e_aload_n aX8_between_4 rfl ?_
  refine e_getI aX8_between_5 fX8_195 ly_176 rfl ?_
  rcases of_ite h with ⟨hc2, h⟩ | ⟨hc2, h⟩
  · refine e_if_ge (tgt := 14) aX8_between_8 (by decide) (fun _ => ?_) (fun q => absurd hc2 q)
    refine e_iload_n aX8_between_14 rfl ?_
    refine e_i2l aX8_between_15 ?_
    refine e_lconst (v := 0) aX8_between_16 (by decide) ?_
    refine e_aload_n aX8_between_17 rfl ?_
    refine e_getI aX8_between_18 fX8_195 ly_176 rfl ?_
    refine e_iconst (v := 1) aX8_between_21 (by decide) ?_
    refine e_isub aX8_between_22 ?_
    refine e_i2l aX8_between_23 ?_
    obtain ⟨r3, hr3, h⟩ := of_bind h
    refine e_SI [] aX8_between_24 co_X8_in mX8_72 (c_X8_in l x hr3) rfl ⟨by decide, by decide⟩ (Nat.le_of_ble_eq_true rfl) rfl ?_
    rcases of_ite h with ⟨hc4, h⟩ | ⟨hc4, h⟩
    · refine e_if_eq (tgt := 46) aX8_between_27 (by decide) (fun _ => ?_) (fun q => absurd hc4 q)
      refine e_ldc aX8_between_46 kX8_168 ?_
      exact e_retI aX8_between_48 rfl rfl (pI_of h)
    · refine e_if_eq (tgt := 46) aX8_between_27 (by decide) (fun q => absurd q hc4) (fun _ => ?_)
      refine e_iload_n aX8_between_30 rfl ?_
      refine e_i2l aX8_between_31 ?_
      refine e_lconst (v := 0) aX8_between_32 (by decide) ?_
      refine e_aload_n aX8_between_33 rfl ?_
      refine e_getI aX8_between_34 fX8_195 ly_176 rfl ?_
      refine e_iconst (v := 1) aX8_between_37 (by decide) ?_
      refine e_isub aX8_between_38 ?_
      refine e_i2l aX8_between_39 ?_
      obtain ⟨r5, hr5, h⟩ := of_bind h
      refine e_SI [] aX8_between_40 co_X8_in mX8_72 (c_X8_in l x hr5) rfl ⟨by decide, by decide⟩ (Nat.le_of_ble_eq_true rfl) rfl ?_
      rcases of_ite h with ⟨hc6, h⟩ | ⟨hc6, h⟩
      · refine e_if_ne (tgt := 49) aX8_between_43 (by decide) (fun q => absurd hc6 q) (fun _ => ?_)
        refine e_ldc aX8_between_46 kX8_168 ?_
        exact e_retI aX8_between_48 rfl rfl (pI_of h)
      · refine e_if_ne (tgt := 49) aX8_between_43 (by decide) (fun _ => ?_) (fun q => absurd q hc6)
        refine e_iload_n aX8_between_49 rfl ?_
        refine e_i2l aX8_between_50 ?_
        refine e_lconst (v := 0) aX8_between_51 (by decide) ?_
        refine e_ldc2_w aX8_between_52 kX8_256 ?_
        obtain ⟨r7, hr7, h⟩ := of_bind h
        refine e_SI [] aX8_between_55 co_X8_in mX8_72 (c_X8_in l x hr7) rfl ⟨by decide, by decide⟩ (Nat.le_of_ble_eq_true rfl) rfl ?_
        rcases of_ite h with ⟨hc8, h⟩ | ⟨hc8, h⟩
        · refine e_if_ne (tgt := 64) aX8_between_58 (by decide) (fun q => absurd hc8 q) (fun _ => ?_)
          refine e_ldc aX8_between_61 kX8_78 ?_
          exact e_retI aX8_between_63 rfl rfl (pI_of h)
        · refine e_if_ne (tgt := 64) aX8_between_58 (by decide) (fun _ => ?_) (fun q => absurd q hc8)
          refine e_aload_n aX8_between_64 rfl ?_
          refine e_aload_n aX8_between_65 rfl ?_
          refine e_getR (r := 184) aX8_between_66 fX8_36 ly_176 rfl ?_
          refine e_bipush (v := 6) aX8_between_69 (by decide) ?_
          refine e_iload_n aX8_between_71 rfl ?_
          refine e_imul aX8_between_72 ?_
          refine e_aload_n aX8_between_73 rfl ?_
          refine e_getR (r := 184) aX8_between_74 fX8_36 ly_176 rfl ?_
          refine e_bipush (v := 6) aX8_between_77 (by decide) ?_
          refine e_iload_n aX8_between_79 rfl ?_
          refine e_imul aX8_between_80 ?_
          obtain ⟨r9, hr9, h⟩ := of_bind h
          refine e_VI [] aX8_between_81 co_X8_form mX8_191 ly_176 rfl rfl (c_X8_form l x ia_184 ia_184 hr9) rfl ⟨by decide, by decide⟩ (Nat.le_of_ble_eq_true rfl) rfl ?_
          refine e_istore (L2 := [some (.ref (x.2.2.1 + 176)), some (.int i1), some (.int i2), some (.int i3), some (.int r9)]) aX8_between_84 ⟨by decide, rfl⟩ rfl ?_
          refine e_iload_n aX8_between_86 rfl ?_
          refine e_iconst (v := 2) aX8_between_87 (by decide) ?_
          rcases of_ite h with ⟨hc10, h⟩ | ⟨hc10, h⟩
          · refine e_icmp_ne (tgt := 96) aX8_between_88 (by decide) (fun q => absurd hc10 q) (fun _ => ?_)
            refine e_iload aX8_between_91 rfl ?_
            refine e_goto (tgt := 126) aX8_between_93 (by decide) ?_
            exact e_retI aX8_between_126 rfl rfl (pI_of h)
          · refine e_icmp_ne (tgt := 96) aX8_between_88 (by decide) (fun _ => ?_) (fun q => absurd q hc10)
            refine e_iload_n aX8_between_96 rfl ?_
            rcases of_ite h with ⟨hc11, h⟩ | ⟨hc11, h⟩
            · refine e_if_ne (tgt := 114) aX8_between_97 (by decide) (fun q => absurd hc11 q) (fun _ => ?_)
              refine e_iload aX8_between_100 rfl ?_
              rcases of_ite h with ⟨hc13, h⟩ | ⟨hc13, h⟩
              · refine e_if_le (tgt := 110) aX8_between_102 (by decide) (fun _ => ?_) (fun q => absurd hc13 q)
                refine e_iconst (v := 0) aX8_between_110 (by decide) ?_
                refine e_goto (tgt := 126) aX8_between_111 (by decide) ?_
                exact e_retI aX8_between_126 rfl rfl (pI_of h)
              · refine e_if_le (tgt := 110) aX8_between_102 (by decide) (fun q => absurd q hc13) (fun _ => ?_)
                refine e_iload aX8_between_105 rfl ?_
                refine e_goto (tgt := 126) aX8_between_107 (by decide) ?_
                exact e_retI aX8_between_126 rfl rfl (pI_of h)
            · refine e_if_ne (tgt := 114) aX8_between_97 (by decide) (fun _ => ?_) (fun q => absurd q hc11)
              refine e_iload aX8_between_114 rfl ?_
              rcases of_ite h with ⟨hc12, h⟩ | ⟨hc12, h⟩
              · refine e_if_ge (tgt := 125) aX8_between_116 (by decide) (fun _ => ?_) (fun q => absurd hc12 q)
                refine e_iconst (v := 0) aX8_between_125 (by decide) ?_
                exact e_retI aX8_between_126 rfl rfl (pI_of h)
              · refine e_if_ge (tgt := 125) aX8_between_116 (by decide) (fun q => absurd q hc12) (fun _ => ?_)
                refine e_iload aX8_between_119 rfl ?_
                refine e_ineg aX8_between_121 ?_
                refine e_goto (tgt := 126) aX8_between_122 (by decide) ?_
                exact e_retI aX8_between_126 rfl rfl (pI_of h)
  · refine e_if_ge (tgt := 14) aX8_between_8 (by decide) (fun q => absurd q hc2) (fun _ => ?_)
    refine e_ldc aX8_between_11 kX8_161 ?_
    exact e_retI aX8_between_13 rfl rfl (pI_of h)
def s_X8_find_32 (i1 : Int32) (i2 : Int32) (M : Mem) (k : Int32 → Int32 → Option (Int32 × Mem)) (rec : Int32 → Int32 → Option (Int32 × Mem)) (i3 : Int32) (i4 : Int32) : Option (Int32 × Mem) :=
  if M 176 0 ≤ i4 then
    k i3 i4
  else
    if i3 = 0 then
      rec 0 (i4 + 1)
    else
      if (6 * i2) + i4 < 0 ∨ 216 ≤ ((6 * i2) + i4).toNatClampNeg then none else
      if 21 + i4 < 0 ∨ 297 ≤ (21 + i4).toNatClampNeg then none else
      if M 184 ((6 * i2) + i4).toNatClampNeg = M 177 (21 + i4).toNatClampNeg then
        rec 1 (i4 + 1)
      else
        rec 0 (i4 + 1)
def f_X8_find_32 (i1 : Int32) (i2 : Int32) (M : Mem) (k : Int32 → Int32 → Option (Int32 × Mem)) : Nat → Int32 → Int32 → Option (Int32 × Mem)
  | 0 => fun _ _ => none
  | n + 1 => fun i3 i4 => s_X8_find_32 i1 i2 M k (f_X8_find_32 i1 i2 M k n) i3 i4
set_option maxRecDepth 100000 in
set_option maxHeartbeats 4000000 in
theorem w_X8_find_32 (l : Launch) (x : WX) {i1 : Int32} {i2 : Int32} {M : Mem} {k : Int32 → Int32 → Option (Int32 × Mem)} {r : (Int32 × Mem)}  (K : ∀ (i3 : Int32) (i4 : Int32), k i3 i4 = some r → Ev l x false cX8_find RX8 (some FieldType.int) 5 3 0 0 (pI r.1 r.2) 82 [some (.ref (x.2.2.1 + 176)), some (.int i1), some (.int i2), some (.int i3), some (.int i4)] [] LAY M) : ∀ (n : Nat) (i3 : Int32) (i4 : Int32), f_X8_find_32 i1 i2 M k n i3 i4 = some r → Ev l x false cX8_find RX8 (some FieldType.int) 5 3 0 0 (pI r.1 r.2) 32 [some (.ref (x.2.2.1 + 176)), some (.int i1), some (.int i2), some (.int i3), some (.int i4)] [] LAY M := by
  intro n
  induction n with
  | zero =>
    intro i3 i4 h
    exact nomatch (show (none : Option (Int32 × Mem)) = some r from h)
  | succ n ih =>
    intro i3 i4 h
    have h : s_X8_find_32 i1 i2 M k (f_X8_find_32 i1 i2 M k n) i3 i4 = some r := h
    unfold s_X8_find_32 at h
    refine e_iload aX8_find_32 rfl ?_
    refine e_aload_n aX8_find_34 rfl ?_
    refine e_getI aX8_find_35 fX8_7 ly_176 rfl ?_
    rcases of_ite h with ⟨hc1, h⟩ | ⟨hc1, h⟩
    · refine e_icmp_ge (tgt := 82) aX8_find_38 (by decide) (fun _ => ?_) (fun q => absurd hc1 q)
      exact K _ _ h
    · refine e_icmp_ge (tgt := 82) aX8_find_38 (by decide) (fun q => absurd q hc1) (fun _ => ?_)
      refine e_iload_n aX8_find_41 rfl ?_
      rcases of_ite h with ⟨hc2, h⟩ | ⟨hc2, h⟩
      · refine e_if_eq (tgt := 74) aX8_find_42 (by decide) (fun _ => ?_) (fun q => absurd hc2 q)
        refine e_iconst (v := 0) aX8_find_74 (by decide) ?_
        refine e_istore_n (L2 := [some (.ref (x.2.2.1 + 176)), some (.int i1), some (.int i2), some (.int 0), some (.int i4)]) aX8_find_75 ⟨by decide, rfl⟩ rfl ?_
        refine e_iinc (v := i4 + 1) (L2 := [some (.ref (x.2.2.1 + 176)), some (.int i1), some (.int i2), some (.int 0), some (.int (i4 + 1))]) aX8_find_76 rfl rfl ⟨by decide, rfl⟩ rfl ?_
        refine e_goto (tgt := 32) aX8_find_79 (by decide) ?_
        exact ih _ _ h
      · refine e_if_eq (tgt := 74) aX8_find_42 (by decide) (fun q => absurd q hc2) (fun _ => ?_)
        refine e_aload_n aX8_find_45 rfl ?_
        refine e_getR (r := 184) aX8_find_46 fX8_36 ly_176 rfl ?_
        refine e_bipush (v := 6) aX8_find_49 (by decide) ?_
        refine e_iload_n aX8_find_51 rfl ?_
        refine e_imul aX8_find_52 ?_
        refine e_iload aX8_find_53 rfl ?_
        refine e_iadd aX8_find_55 ?_
        obtain ⟨hg3, h⟩ := of_guard h
        refine e_iald aX8_find_56 ly_184 hg3 ?_
        refine e_aload_n aX8_find_57 rfl ?_
        refine e_getR (r := 177) aX8_find_58 fX8_13 ly_176 rfl ?_
        refine e_bipush (v := 21) aX8_find_61 (by decide) ?_
        refine e_iload aX8_find_63 rfl ?_
        refine e_iadd aX8_find_65 ?_
        obtain ⟨hg4, h⟩ := of_guard h
        refine e_iald aX8_find_66 ly_177 hg4 ?_
        rcases of_ite h with ⟨hc5, h⟩ | ⟨hc5, h⟩
        · refine e_icmp_ne (tgt := 74) aX8_find_67 (by decide) (fun q => absurd hc5 q) (fun _ => ?_)
          refine e_iconst (v := 1) aX8_find_70 (by decide) ?_
          refine e_goto (tgt := 75) aX8_find_71 (by decide) ?_
          refine e_istore_n (L2 := [some (.ref (x.2.2.1 + 176)), some (.int i1), some (.int i2), some (.int 1), some (.int i4)]) aX8_find_75 ⟨by decide, rfl⟩ rfl ?_
          refine e_iinc (v := i4 + 1) (L2 := [some (.ref (x.2.2.1 + 176)), some (.int i1), some (.int i2), some (.int 1), some (.int (i4 + 1))]) aX8_find_76 rfl rfl ⟨by decide, rfl⟩ rfl ?_
          refine e_goto (tgt := 32) aX8_find_79 (by decide) ?_
          exact ih _ _ h
        · refine e_icmp_ne (tgt := 74) aX8_find_67 (by decide) (fun _ => ?_) (fun q => absurd q hc5)
          refine e_iconst (v := 0) aX8_find_74 (by decide) ?_
          refine e_istore_n (L2 := [some (.ref (x.2.2.1 + 176)), some (.int i1), some (.int i2), some (.int 0), some (.int i4)]) aX8_find_75 ⟨by decide, rfl⟩ rfl ?_
          refine e_iinc (v := i4 + 1) (L2 := [some (.ref (x.2.2.1 + 176)), some (.int i1), some (.int i2), some (.int 0), some (.int (i4 + 1))]) aX8_find_76 rfl rfl ⟨by decide, rfl⟩ rfl ?_
          refine e_goto (tgt := 32) aX8_find_79 (by decide) ?_
          exact ih _ _ h
def s_X8_find_19  (M : Mem) (k : Int32 → Int32 → Option (Int32 × Mem)) (rec : Int32 → Int32 → Option (Int32 × Mem)) (i1 : Int32) (i2 : Int32) : Option (Int32 × Mem) :=
  if M 176 12 ≤ i2 then
    k i1 i2
  else
    f_X8_find_32 i1 i2 M (fun (i3_2 : Int32) (i4_3 : Int32) =>
      if i3_2 = 0 then
        rec i1 (i2 + 1)
      else
        rec i2 (i2 + 1)) FU 1 0
def f_X8_find_19  (M : Mem) (k : Int32 → Int32 → Option (Int32 × Mem)) : Nat → Int32 → Int32 → Option (Int32 × Mem)
  | 0 => fun _ _ => none
  | n + 1 => fun i1 i2 => s_X8_find_19  M k (f_X8_find_19  M k n) i1 i2
set_option maxRecDepth 100000 in
set_option maxHeartbeats 4000000 in
theorem w_X8_find_19 (l : Launch) (x : WX)  {M : Mem} {k : Int32 → Int32 → Option (Int32 × Mem)} {r : (Int32 × Mem)}  (K : ∀ (i1 : Int32) (i2 : Int32), k i1 i2 = some r → Ev l x false cX8_find RX8 (some FieldType.int) 5 3 0 0 (pI r.1 r.2) 98 [some (.ref (x.2.2.1 + 176)), some (.int i1), some (.int i2), none, none] [] LAY M) : ∀ (n : Nat) (i1 : Int32) (i2 : Int32), f_X8_find_19  M k n i1 i2 = some r → Ev l x false cX8_find RX8 (some FieldType.int) 5 3 0 0 (pI r.1 r.2) 19 [some (.ref (x.2.2.1 + 176)), some (.int i1), some (.int i2), none, none] [] LAY M := by
  intro n
  induction n with
  | zero =>
    intro i1 i2 h
    exact nomatch (show (none : Option (Int32 × Mem)) = some r from h)
  | succ n ih =>
    intro i1 i2 h
    have h : s_X8_find_19  M k (f_X8_find_19  M k n) i1 i2 = some r := h
    unfold s_X8_find_19 at h
    refine e_iload_n aX8_find_19 rfl ?_
    refine e_aload_n aX8_find_20 rfl ?_
    refine e_getI aX8_find_21 fX8_195 ly_176 rfl ?_
    rcases of_ite h with ⟨hc1, h⟩ | ⟨hc1, h⟩
    · refine e_icmp_ge (tgt := 98) aX8_find_24 (by decide) (fun _ => ?_) (fun q => absurd hc1 q)
      exact K _ _ h
    · refine e_icmp_ge (tgt := 98) aX8_find_24 (by decide) (fun q => absurd q hc1) (fun _ => ?_)
      refine e_iconst (v := 1) aX8_find_27 (by decide) ?_
      refine e_istore_n (L2 := [some (.ref (x.2.2.1 + 176)), some (.int i1), some (.int i2), some (.int 1), none]) aX8_find_28 ⟨by decide, rfl⟩ rfl ?_
      refine e_iconst (v := 0) aX8_find_29 (by decide) ?_
      refine e_istore (L2 := [some (.ref (x.2.2.1 + 176)), some (.int i1), some (.int i2), some (.int 1), some (.int 0)]) aX8_find_30 ⟨by decide, rfl⟩ rfl ?_
      refine w_X8_find_32 l x  (fun i3_2 i4_3 h => ?_) FU _ _ h
      refine e_iload_n aX8_find_82 rfl ?_
      rcases of_ite h with ⟨hc4, h⟩ | ⟨hc4, h⟩
      · refine e_if_eq (tgt := 90) aX8_find_83 (by decide) (fun _ => ?_) (fun q => absurd hc4 q)
        refine e_iload_n aX8_find_90 rfl ?_
        refine e_istore_n (L2 := [some (.ref (x.2.2.1 + 176)), some (.int i1), some (.int i2), some (.int i3_2), some (.int i4_3)]) aX8_find_91 ⟨by decide, rfl⟩ rfl ?_
        refine e_iinc (v := i2 + 1) (L2 := [some (.ref (x.2.2.1 + 176)), some (.int i1), some (.int (i2 + 1)), some (.int i3_2), some (.int i4_3)]) aX8_find_92 rfl rfl ⟨by decide, rfl⟩ rfl ?_
        refine e_goto (tgt := 19) aX8_find_95 (by decide) ?_
        refine e_drop 3 (L2 := [some (.ref (x.2.2.1 + 176)), some (.int i1), some (.int (i2 + 1)), none, some (.int i4_3)]) rfl ?_
        refine e_drop 4 (L2 := [some (.ref (x.2.2.1 + 176)), some (.int i1), some (.int (i2 + 1)), none, none]) rfl ?_
        exact ih _ _ h
      · refine e_if_eq (tgt := 90) aX8_find_83 (by decide) (fun q => absurd q hc4) (fun _ => ?_)
        refine e_iload_n aX8_find_86 rfl ?_
        refine e_goto (tgt := 91) aX8_find_87 (by decide) ?_
        refine e_istore_n (L2 := [some (.ref (x.2.2.1 + 176)), some (.int i2), some (.int i2), some (.int i3_2), some (.int i4_3)]) aX8_find_91 ⟨by decide, rfl⟩ rfl ?_
        refine e_iinc (v := i2 + 1) (L2 := [some (.ref (x.2.2.1 + 176)), some (.int i2), some (.int (i2 + 1)), some (.int i3_2), some (.int i4_3)]) aX8_find_92 rfl rfl ⟨by decide, rfl⟩ rfl ?_
        refine e_goto (tgt := 19) aX8_find_95 (by decide) ?_
        refine e_drop 3 (L2 := [some (.ref (x.2.2.1 + 176)), some (.int i2), some (.int (i2 + 1)), none, some (.int i4_3)]) rfl ?_
        refine e_drop 4 (L2 := [some (.ref (x.2.2.1 + 176)), some (.int i2), some (.int (i2 + 1)), none, none]) rfl ?_
        exact ih _ _ h
def f_X8_find  (M : Mem) : Option (Int32 × Mem) :=
  (f_X8_knows M).bind fun (M1 : Mem) =>
  if 0 ≤ M1 176 12 then
    f_X8_find_19  M1 (fun (i1_3 : Int32) (i2_4 : Int32) =>
      some (i1_3, M1)) FU (-1000000) 0
  else
    some ((-1000003), M1)
set_option maxRecDepth 100000 in
set_option maxHeartbeats 4000000 in
theorem c_X8_find (l : Launch) (x : WX)  {M : Mem} {r : (Int32 × Mem)}  (h : f_X8_find  M = some r) : Mt l x false yX8_find cX8_find 5 (some FieldType.int) 3 0 0 [.ref (x.2.2.1 + 176)] LAY M (pI r.1 r.2) := by
  refine mt_of (L0 := [some (.ref (x.2.2.1 + 176)), none, none, none, none]) (by decide +kernel) rfl (Nat.le_of_ble_eq_true rfl) (lvA_of 4 rfl) ?_
  unfold f_X8_find at h
  refine e_aload_n aX8_find_0 rfl ?_
  obtain ⟨M1, hM1, h⟩ := of_bind h
  refine e_VV [] aX8_find_1 co_X8_knows mX8_214 ly_176 rfl rfl (c_X8_knows l x hM1) rfl ⟨by decide, by decide⟩ (Nat.le_of_ble_eq_true rfl) rfl ?_
  refine e_aload_n aX8_find_4 rfl ?_
  refine e_getI aX8_find_5 fX8_195 ly_176 rfl ?_
  rcases of_ite h with ⟨hc2, h⟩ | ⟨hc2, h⟩
  · refine e_if_ge (tgt := 14) aX8_find_8 (by decide) (fun _ => ?_) (fun q => absurd hc2 q)
    refine e_ldc aX8_find_14 kX8_240 ?_
    refine e_istore_n (L2 := [some (.ref (x.2.2.1 + 176)), some (.int (-1000000)), none, none, none]) aX8_find_16 ⟨by decide, rfl⟩ rfl ?_
    refine e_iconst (v := 0) aX8_find_17 (by decide) ?_
    refine e_istore_n (L2 := [some (.ref (x.2.2.1 + 176)), some (.int (-1000000)), some (.int 0), none, none]) aX8_find_18 ⟨by decide, rfl⟩ rfl ?_
    refine w_X8_find_19 l x  (fun i1_3 i2_4 h => ?_) FU _ _ h
    refine e_iload_n aX8_find_98 rfl ?_
    exact e_retI aX8_find_99 rfl rfl (pI_of h)
  · refine e_if_ge (tgt := 14) aX8_find_8 (by decide) (fun q => absurd q hc2) (fun _ => ?_)
    refine e_ldc aX8_find_11 kX8_161 ?_
    exact e_retI aX8_find_13 rfl rfl (pI_of h)
def s_X8_fits_4 (i1 : Int32) (M : Mem) (k : Int32 → Int32 → Option Int32) (rec : Int32 → Int32 → Option Int32) (i2 : Int32) (i3 : Int32) : Option Int32 :=
  if M 176 0 ≤ i3 then
    k i2 i3
  else
    if i2 = 0 then
      rec 0 (i3 + 1)
    else
      if (6 * i1) + i3 < 0 ∨ 216 ≤ ((6 * i1) + i3).toNatClampNeg then none else
      if i3 < 0 ∨ 6 ≤ i3.toNatClampNeg then none else
      if M 195 i3.toNatClampNeg < M 184 ((6 * i1) + i3).toNatClampNeg then
        rec 0 (i3 + 1)
      else
        rec 1 (i3 + 1)
def f_X8_fits_4 (i1 : Int32) (M : Mem) (k : Int32 → Int32 → Option Int32) : Nat → Int32 → Int32 → Option Int32
  | 0 => fun _ _ => none
  | n + 1 => fun i2 i3 => s_X8_fits_4 i1 M k (f_X8_fits_4 i1 M k n) i2 i3
set_option maxRecDepth 100000 in
set_option maxHeartbeats 4000000 in
theorem w_X8_fits_4 (l : Launch) (x : WX) {i1 : Int32} {M : Mem} {k : Int32 → Int32 → Option Int32} {r : Int32}  (K : ∀ (i2 : Int32) (i3 : Int32), k i2 i3 = some r → Ev l x false cX8_fits RX8 (some FieldType.boolean) 4 0 0 0 (pI r M) 48 [some (.ref (x.2.2.1 + 176)), some (.int i1), some (.int i2), some (.int i3)] [] LAY M) : ∀ (n : Nat) (i2 : Int32) (i3 : Int32), f_X8_fits_4 i1 M k n i2 i3 = some r → Ev l x false cX8_fits RX8 (some FieldType.boolean) 4 0 0 0 (pI r M) 4 [some (.ref (x.2.2.1 + 176)), some (.int i1), some (.int i2), some (.int i3)] [] LAY M := by
  intro n
  induction n with
  | zero =>
    intro i2 i3 h
    exact nomatch (show (none : Option Int32) = some r from h)
  | succ n ih =>
    intro i2 i3 h
    have h : s_X8_fits_4 i1 M k (f_X8_fits_4 i1 M k n) i2 i3 = some r := h
    unfold s_X8_fits_4 at h
    refine e_iload_n aX8_fits_4 rfl ?_
    refine e_aload_n aX8_fits_5 rfl ?_
    refine e_getI aX8_fits_6 fX8_7 ly_176 rfl ?_
    rcases of_ite h with ⟨hc1, h⟩ | ⟨hc1, h⟩
    · refine e_icmp_ge (tgt := 48) aX8_fits_9 (by decide) (fun _ => ?_) (fun q => absurd hc1 q)
      exact K _ _ h
    · refine e_icmp_ge (tgt := 48) aX8_fits_9 (by decide) (fun q => absurd q hc1) (fun _ => ?_)
      refine e_iload_n aX8_fits_12 rfl ?_
      rcases of_ite h with ⟨hc2, h⟩ | ⟨hc2, h⟩
      · refine e_if_eq (tgt := 40) aX8_fits_13 (by decide) (fun _ => ?_) (fun q => absurd hc2 q)
        refine e_iconst (v := 0) aX8_fits_40 (by decide) ?_
        refine e_istore_n (L2 := [some (.ref (x.2.2.1 + 176)), some (.int i1), some (.int 0), some (.int i3)]) aX8_fits_41 ⟨by decide, rfl⟩ rfl ?_
        refine e_iinc (v := i3 + 1) (L2 := [some (.ref (x.2.2.1 + 176)), some (.int i1), some (.int 0), some (.int (i3 + 1))]) aX8_fits_42 rfl rfl ⟨by decide, rfl⟩ rfl ?_
        refine e_goto (tgt := 4) aX8_fits_45 (by decide) ?_
        exact ih _ _ h
      · refine e_if_eq (tgt := 40) aX8_fits_13 (by decide) (fun q => absurd q hc2) (fun _ => ?_)
        refine e_aload_n aX8_fits_16 rfl ?_
        refine e_getR (r := 184) aX8_fits_17 fX8_36 ly_176 rfl ?_
        refine e_bipush (v := 6) aX8_fits_20 (by decide) ?_
        refine e_iload_n aX8_fits_22 rfl ?_
        refine e_imul aX8_fits_23 ?_
        refine e_iload_n aX8_fits_24 rfl ?_
        refine e_iadd aX8_fits_25 ?_
        obtain ⟨hg3, h⟩ := of_guard h
        refine e_iald aX8_fits_26 ly_184 hg3 ?_
        refine e_aload_n aX8_fits_27 rfl ?_
        refine e_getR (r := 195) aX8_fits_28 fX8_69 ly_176 rfl ?_
        refine e_iload_n aX8_fits_31 rfl ?_
        obtain ⟨hg4, h⟩ := of_guard h
        refine e_iald aX8_fits_32 ly_195 hg4 ?_
        rcases of_ite h with ⟨hc5, h⟩ | ⟨hc5, h⟩
        · refine e_icmp_gt (tgt := 40) aX8_fits_33 (by decide) (fun _ => ?_) (fun q => absurd hc5 q)
          refine e_iconst (v := 0) aX8_fits_40 (by decide) ?_
          refine e_istore_n (L2 := [some (.ref (x.2.2.1 + 176)), some (.int i1), some (.int 0), some (.int i3)]) aX8_fits_41 ⟨by decide, rfl⟩ rfl ?_
          refine e_iinc (v := i3 + 1) (L2 := [some (.ref (x.2.2.1 + 176)), some (.int i1), some (.int 0), some (.int (i3 + 1))]) aX8_fits_42 rfl rfl ⟨by decide, rfl⟩ rfl ?_
          refine e_goto (tgt := 4) aX8_fits_45 (by decide) ?_
          exact ih _ _ h
        · refine e_icmp_gt (tgt := 40) aX8_fits_33 (by decide) (fun q => absurd q hc5) (fun _ => ?_)
          refine e_iconst (v := 1) aX8_fits_36 (by decide) ?_
          refine e_goto (tgt := 41) aX8_fits_37 (by decide) ?_
          refine e_istore_n (L2 := [some (.ref (x.2.2.1 + 176)), some (.int i1), some (.int 1), some (.int i3)]) aX8_fits_41 ⟨by decide, rfl⟩ rfl ?_
          refine e_iinc (v := i3 + 1) (L2 := [some (.ref (x.2.2.1 + 176)), some (.int i1), some (.int 1), some (.int (i3 + 1))]) aX8_fits_42 rfl rfl ⟨by decide, rfl⟩ rfl ?_
          refine e_goto (tgt := 4) aX8_fits_45 (by decide) ?_
          exact ih _ _ h
def f_X8_fits (i1 : Int32) (M : Mem) : Option Int32 :=
  f_X8_fits_4 i1 M (fun (i2_1 : Int32) (i3_2 : Int32) =>
    if ¬ (i2_1 = 0 ∨ i2_1 = 1) then none else
    some i2_1) FU 1 0
set_option maxRecDepth 100000 in
set_option maxHeartbeats 4000000 in
theorem c_X8_fits (l : Launch) (x : WX) {i1 : Int32} {M : Mem} {r : Int32}  (h : f_X8_fits i1 M = some r) : Mt l x false yX8_fits cX8_fits 4 (some FieldType.boolean) 0 0 0 [.ref (x.2.2.1 + 176), .int i1] LAY M (pI r M) := by
  refine mt_of (L0 := [some (.ref (x.2.2.1 + 176)), some (.int i1), none, none]) (by decide +kernel) rfl (Nat.le_of_ble_eq_true rfl) (lvA_of 2 rfl) ?_
  unfold f_X8_fits at h
  refine e_iconst (v := 1) aX8_fits_0 (by decide) ?_
  refine e_istore_n (L2 := [some (.ref (x.2.2.1 + 176)), some (.int i1), some (.int 1), none]) aX8_fits_1 ⟨by decide, rfl⟩ rfl ?_
  refine e_iconst (v := 0) aX8_fits_2 (by decide) ?_
  refine e_istore_n (L2 := [some (.ref (x.2.2.1 + 176)), some (.int i1), some (.int 1), some (.int 0)]) aX8_fits_3 ⟨by decide, rfl⟩ rfl ?_
  refine w_X8_fits_4 l x  (fun i2_1 i3_2 h => ?_) FU _ _ h
  refine e_iload_n aX8_fits_48 rfl ?_
  obtain ⟨hg3, h⟩ := of_guard h
  exact e_retI aX8_fits_49 rfl (nz_of (Decidable.of_not_not hg3)) (pI_ro h)
def s_X8_takes_2 (i1 : Int32) (i2 : Int32) (k : Int32 → Mem → Option Mem) (rec : Int32 → Mem → Option Mem) (i3 : Int32) (M : Mem) : Option Mem :=
  if M 176 0 ≤ i3 then
    k i3 M
  else
    if i3 < 0 ∨ 6 ≤ i3.toNatClampNeg then none else
    if (6 * i1) + i3 < 0 ∨ 216 ≤ ((6 * i1) + i3).toNatClampNeg then none else
    if i3 < 0 ∨ 6 ≤ i3.toNatClampNeg then none else
    lt (um M 195 i3.toNatClampNeg ((M 195 i3.toNatClampNeg) - (i2 * (M 184 ((6 * i1) + i3).toNatClampNeg)))) fun (M5 : Mem) =>
    rec (i3 + 1) M5
def f_X8_takes_2 (i1 : Int32) (i2 : Int32) (k : Int32 → Mem → Option Mem) : Nat → Int32 → Mem → Option Mem
  | 0 => fun _ _ => none
  | n + 1 => fun i3 M => s_X8_takes_2 i1 i2 k (f_X8_takes_2 i1 i2 k n) i3 M
set_option maxRecDepth 100000 in
set_option maxHeartbeats 4000000 in
theorem w_X8_takes_2 (l : Launch) (x : WX) {i1 : Int32} {i2 : Int32} {k : Int32 → Mem → Option Mem} {r : Mem}  (K : ∀ (i3 : Int32) (M : Mem), k i3 M = some r → Ev l x false cX8_takes RX8 none 4 0 0 0 (pV r) 38 [some (.ref (x.2.2.1 + 176)), some (.int i1), some (.int i2), some (.int i3)] [] LAY M) : ∀ (n : Nat) (i3 : Int32) (M : Mem), f_X8_takes_2 i1 i2 k n i3 M = some r → Ev l x false cX8_takes RX8 none 4 0 0 0 (pV r) 2 [some (.ref (x.2.2.1 + 176)), some (.int i1), some (.int i2), some (.int i3)] [] LAY M := by
  intro n
  induction n with
  | zero =>
    intro i3 M h
    exact nomatch (show (none : Option Mem) = some r from h)
  | succ n ih =>
    intro i3 M h
    have h : s_X8_takes_2 i1 i2 k (f_X8_takes_2 i1 i2 k n) i3 M = some r := h
    unfold s_X8_takes_2 at h
    refine e_iload_n aX8_takes_2 rfl ?_
    refine e_aload_n aX8_takes_3 rfl ?_
    refine e_getI aX8_takes_4 fX8_7 ly_176 rfl ?_
    rcases of_ite h with ⟨hc1, h⟩ | ⟨hc1, h⟩
    · refine e_icmp_ge (tgt := 38) aX8_takes_7 (by decide) (fun _ => ?_) (fun q => absurd hc1 q)
      exact K _ _ h
    · refine e_icmp_ge (tgt := 38) aX8_takes_7 (by decide) (fun q => absurd q hc1) (fun _ => ?_)
      refine e_aload_n aX8_takes_10 rfl ?_
      refine e_getR (r := 195) aX8_takes_11 fX8_69 ly_176 rfl ?_
      refine e_iload_n aX8_takes_14 rfl ?_
      refine e_dup2 aX8_takes_15 ?_
      obtain ⟨hg2, h⟩ := of_guard h
      refine e_iald aX8_takes_16 ly_195 hg2 ?_
      refine e_iload_n aX8_takes_17 rfl ?_
      refine e_aload_n aX8_takes_18 rfl ?_
      refine e_getR (r := 184) aX8_takes_19 fX8_36 ly_176 rfl ?_
      refine e_bipush (v := 6) aX8_takes_22 (by decide) ?_
      refine e_iload_n aX8_takes_24 rfl ?_
      refine e_imul aX8_takes_25 ?_
      refine e_iload_n aX8_takes_26 rfl ?_
      refine e_iadd aX8_takes_27 ?_
      obtain ⟨hg3, h⟩ := of_guard h
      refine e_iald aX8_takes_28 ly_184 hg3 ?_
      refine e_imul aX8_takes_29 ?_
      refine e_isub aX8_takes_30 ?_
      obtain ⟨hg4, h⟩ := of_guard h
      obtain ⟨M5, eM5, h⟩ := of_lt h
      refine e_ist aX8_takes_31 ly_195 hg4 eM5 ?_
      refine e_iinc (v := i3 + 1) (L2 := [some (.ref (x.2.2.1 + 176)), some (.int i1), some (.int i2), some (.int (i3 + 1))]) aX8_takes_32 rfl rfl ⟨by decide, rfl⟩ rfl ?_
      refine e_goto (tgt := 2) aX8_takes_35 (by decide) ?_
      exact ih _ _ h
def f_X8_takes (i1 : Int32) (i2 : Int32) (M : Mem) : Option Mem :=
  f_X8_takes_2 i1 i2 (fun (i3_1 : Int32) (M2 : Mem) =>
    if i1 < 0 ∨ 36 ≤ i1.toNatClampNeg then none else
    if i1 < 0 ∨ 36 ≤ i1.toNatClampNeg then none else
    lt (um M2 194 i1.toNatClampNeg ((M2 194 i1.toNatClampNeg) + i2)) fun (M5 : Mem) =>
    some M5) FU 0 M
set_option maxRecDepth 100000 in
set_option maxHeartbeats 4000000 in
theorem c_X8_takes (l : Launch) (x : WX) {i1 : Int32} {i2 : Int32} {M : Mem} {r : Mem}  (h : f_X8_takes i1 i2 M = some r) : Mt l x false yX8_takes cX8_takes 4 none 0 0 0 [.ref (x.2.2.1 + 176), .int i1, .int i2] LAY M (pV r) := by
  refine mt_of (L0 := [some (.ref (x.2.2.1 + 176)), some (.int i1), some (.int i2), none]) (by decide +kernel) rfl (Nat.le_of_ble_eq_true rfl) (lvA_of 1 rfl) ?_
  unfold f_X8_takes at h
  refine e_iconst (v := 0) aX8_takes_0 (by decide) ?_
  refine e_istore_n (L2 := [some (.ref (x.2.2.1 + 176)), some (.int i1), some (.int i2), some (.int 0)]) aX8_takes_1 ⟨by decide, rfl⟩ rfl ?_
  refine w_X8_takes_2 l x  (fun i3_1 M2 h => ?_) FU _ _ h
  refine e_aload_n aX8_takes_38 rfl ?_
  refine e_getR (r := 194) aX8_takes_39 fX8_66 ly_176 rfl ?_
  refine e_iload_n aX8_takes_42 rfl ?_
  refine e_dup2 aX8_takes_43 ?_
  obtain ⟨hg3, h⟩ := of_guard h
  refine e_iald aX8_takes_44 ly_194 hg3 ?_
  refine e_iload_n aX8_takes_45 rfl ?_
  refine e_iadd aX8_takes_46 ?_
  obtain ⟨hg4, h⟩ := of_guard h
  obtain ⟨M5, eM5, h⟩ := of_lt h
  refine e_ist aX8_takes_47 ly_194 hg4 eM5 ?_
  exact e_ret0 aX8_takes_48 rfl (pV_of h)
def s_X8_sums_16  (k : Int32 → Mem → Option (Int32 × Mem)) (rec : Int32 → Mem → Option (Int32 × Mem)) (i1 : Int32) (M : Mem) : Option (Int32 × Mem) :=
  if 36 ≤ i1 then
    k i1 M
  else
    if i1 < 0 ∨ 36 ≤ i1.toNatClampNeg then none else
    lt (um M 194 i1.toNatClampNeg 0) fun (M3 : Mem) =>
    rec (i1 + 1) M3
def f_X8_sums_16  (k : Int32 → Mem → Option (Int32 × Mem)) : Nat → Int32 → Mem → Option (Int32 × Mem)
  | 0 => fun _ _ => none
  | n + 1 => fun i1 M => s_X8_sums_16  k (f_X8_sums_16  k n) i1 M
set_option maxRecDepth 100000 in
set_option maxHeartbeats 4000000 in
theorem w_X8_sums_16 (l : Launch) (x : WX)  {k : Int32 → Mem → Option (Int32 × Mem)} {r : (Int32 × Mem)}  (K : ∀ (i1 : Int32) (M : Mem), k i1 M = some r → Ev l x false cX8_sums RX8 (some FieldType.int) 4 3 0 0 (pI r.1 r.2) 35 [some (.ref (x.2.2.1 + 176)), some (.int i1), none, none] [] LAY M) : ∀ (n : Nat) (i1 : Int32) (M : Mem), f_X8_sums_16  k n i1 M = some r → Ev l x false cX8_sums RX8 (some FieldType.int) 4 3 0 0 (pI r.1 r.2) 16 [some (.ref (x.2.2.1 + 176)), some (.int i1), none, none] [] LAY M := by
  intro n
  induction n with
  | zero =>
    intro i1 M h
    exact nomatch (show (none : Option (Int32 × Mem)) = some r from h)
  | succ n ih =>
    intro i1 M h
    have h : s_X8_sums_16  k (f_X8_sums_16  k n) i1 M = some r := h
    unfold s_X8_sums_16 at h
    refine e_iload_n aX8_sums_16 rfl ?_
    refine e_bipush (v := 36) aX8_sums_17 (by decide) ?_
    rcases of_ite h with ⟨hc1, h⟩ | ⟨hc1, h⟩
    · refine e_icmp_ge (tgt := 35) aX8_sums_19 (by decide) (fun _ => ?_) (fun q => absurd hc1 q)
      exact K _ _ h
    · refine e_icmp_ge (tgt := 35) aX8_sums_19 (by decide) (fun q => absurd q hc1) (fun _ => ?_)
      refine e_aload_n aX8_sums_22 rfl ?_
      refine e_getR (r := 194) aX8_sums_23 fX8_66 ly_176 rfl ?_
      refine e_iload_n aX8_sums_26 rfl ?_
      refine e_iconst (v := 0) aX8_sums_27 (by decide) ?_
      obtain ⟨hg2, h⟩ := of_guard h
      obtain ⟨M3, eM3, h⟩ := of_lt h
      refine e_ist aX8_sums_28 ly_194 hg2 eM3 ?_
      refine e_iinc (v := i1 + 1) (L2 := [some (.ref (x.2.2.1 + 176)), some (.int (i1 + 1)), none, none]) aX8_sums_29 rfl rfl ⟨by decide, rfl⟩ rfl ?_
      refine e_goto (tgt := 16) aX8_sums_32 (by decide) ?_
      exact ih _ _ h
def s_X8_sums_39  (k : Int32 → Int32 → Mem → Option (Int32 × Mem)) (rec : Int32 → Int32 → Mem → Option (Int32 × Mem)) (i1 : Int32) (i2 : Int32) (M : Mem) : Option (Int32 × Mem) :=
  if M 176 0 ≤ i2 then
    k i1 i2 M
  else
    if 21 + i2 < 0 ∨ 297 ≤ (21 + i2).toNatClampNeg then none else
    if i2 < 0 ∨ 6 ≤ i2.toNatClampNeg then none else
    lt (um M 195 i2.toNatClampNeg (M 177 (21 + i2).toNatClampNeg)) fun (M4 : Mem) =>
    if i1 = 0 then
      rec 0 (i2 + 1) M4
    else
      if i2 < 0 ∨ 6 ≤ i2.toNatClampNeg then none else
      if M4 195 i2.toNatClampNeg < 0 then
        rec 0 (i2 + 1) M4
      else
        rec 1 (i2 + 1) M4
def f_X8_sums_39  (k : Int32 → Int32 → Mem → Option (Int32 × Mem)) : Nat → Int32 → Int32 → Mem → Option (Int32 × Mem)
  | 0 => fun _ _ _ => none
  | n + 1 => fun i1 i2 M => s_X8_sums_39  k (f_X8_sums_39  k n) i1 i2 M
set_option maxRecDepth 100000 in
set_option maxHeartbeats 4000000 in
theorem w_X8_sums_39 (l : Launch) (x : WX)  {k : Int32 → Int32 → Mem → Option (Int32 × Mem)} {r : (Int32 × Mem)}  (K : ∀ (i1 : Int32) (i2 : Int32) (M : Mem), k i1 i2 M = some r → Ev l x false cX8_sums RX8 (some FieldType.int) 4 3 0 0 (pI r.1 r.2) 87 [some (.ref (x.2.2.1 + 176)), some (.int i1), some (.int i2), none] [] LAY M) : ∀ (n : Nat) (i1 : Int32) (i2 : Int32) (M : Mem), f_X8_sums_39  k n i1 i2 M = some r → Ev l x false cX8_sums RX8 (some FieldType.int) 4 3 0 0 (pI r.1 r.2) 39 [some (.ref (x.2.2.1 + 176)), some (.int i1), some (.int i2), none] [] LAY M := by
  intro n
  induction n with
  | zero =>
    intro i1 i2 M h
    exact nomatch (show (none : Option (Int32 × Mem)) = some r from h)
  | succ n ih =>
    intro i1 i2 M h
    have h : s_X8_sums_39  k (f_X8_sums_39  k n) i1 i2 M = some r := h
    unfold s_X8_sums_39 at h
    refine e_iload_n aX8_sums_39 rfl ?_
    refine e_aload_n aX8_sums_40 rfl ?_
    refine e_getI aX8_sums_41 fX8_7 ly_176 rfl ?_
    rcases of_ite h with ⟨hc1, h⟩ | ⟨hc1, h⟩
    · refine e_icmp_ge (tgt := 87) aX8_sums_44 (by decide) (fun _ => ?_) (fun q => absurd hc1 q)
      exact K _ _ _ h
    · refine e_icmp_ge (tgt := 87) aX8_sums_44 (by decide) (fun q => absurd q hc1) (fun _ => ?_)
      refine e_aload_n aX8_sums_47 rfl ?_
      refine e_getR (r := 195) aX8_sums_48 fX8_69 ly_176 rfl ?_
      refine e_iload_n aX8_sums_51 rfl ?_
      refine e_aload_n aX8_sums_52 rfl ?_
      refine e_getR (r := 177) aX8_sums_53 fX8_13 ly_176 rfl ?_
      refine e_bipush (v := 21) aX8_sums_56 (by decide) ?_
      refine e_iload_n aX8_sums_58 rfl ?_
      refine e_iadd aX8_sums_59 ?_
      obtain ⟨hg2, h⟩ := of_guard h
      refine e_iald aX8_sums_60 ly_177 hg2 ?_
      obtain ⟨hg3, h⟩ := of_guard h
      obtain ⟨M4, eM4, h⟩ := of_lt h
      refine e_ist aX8_sums_61 ly_195 hg3 eM4 ?_
      refine e_iload_n aX8_sums_62 rfl ?_
      rcases of_ite h with ⟨hc5, h⟩ | ⟨hc5, h⟩
      · refine e_if_eq (tgt := 79) aX8_sums_63 (by decide) (fun _ => ?_) (fun q => absurd hc5 q)
        refine e_iconst (v := 0) aX8_sums_79 (by decide) ?_
        refine e_istore_n (L2 := [some (.ref (x.2.2.1 + 176)), some (.int 0), some (.int i2), none]) aX8_sums_80 ⟨by decide, rfl⟩ rfl ?_
        refine e_iinc (v := i2 + 1) (L2 := [some (.ref (x.2.2.1 + 176)), some (.int 0), some (.int (i2 + 1)), none]) aX8_sums_81 rfl rfl ⟨by decide, rfl⟩ rfl ?_
        refine e_goto (tgt := 39) aX8_sums_84 (by decide) ?_
        exact ih _ _ _ h
      · refine e_if_eq (tgt := 79) aX8_sums_63 (by decide) (fun q => absurd q hc5) (fun _ => ?_)
        refine e_aload_n aX8_sums_66 rfl ?_
        refine e_getR (r := 195) aX8_sums_67 fX8_69 ly_176 rfl ?_
        refine e_iload_n aX8_sums_70 rfl ?_
        obtain ⟨hg6, h⟩ := of_guard h
        refine e_iald aX8_sums_71 ly_195 hg6 ?_
        rcases of_ite h with ⟨hc7, h⟩ | ⟨hc7, h⟩
        · refine e_if_lt (tgt := 79) aX8_sums_72 (by decide) (fun _ => ?_) (fun q => absurd hc7 q)
          refine e_iconst (v := 0) aX8_sums_79 (by decide) ?_
          refine e_istore_n (L2 := [some (.ref (x.2.2.1 + 176)), some (.int 0), some (.int i2), none]) aX8_sums_80 ⟨by decide, rfl⟩ rfl ?_
          refine e_iinc (v := i2 + 1) (L2 := [some (.ref (x.2.2.1 + 176)), some (.int 0), some (.int (i2 + 1)), none]) aX8_sums_81 rfl rfl ⟨by decide, rfl⟩ rfl ?_
          refine e_goto (tgt := 39) aX8_sums_84 (by decide) ?_
          exact ih _ _ _ h
        · refine e_if_lt (tgt := 79) aX8_sums_72 (by decide) (fun q => absurd q hc7) (fun _ => ?_)
          refine e_iconst (v := 1) aX8_sums_75 (by decide) ?_
          refine e_goto (tgt := 80) aX8_sums_76 (by decide) ?_
          refine e_istore_n (L2 := [some (.ref (x.2.2.1 + 176)), some (.int 1), some (.int i2), none]) aX8_sums_80 ⟨by decide, rfl⟩ rfl ?_
          refine e_iinc (v := i2 + 1) (L2 := [some (.ref (x.2.2.1 + 176)), some (.int 1), some (.int (i2 + 1)), none]) aX8_sums_81 rfl rfl ⟨by decide, rfl⟩ rfl ?_
          refine e_goto (tgt := 39) aX8_sums_84 (by decide) ?_
          exact ih _ _ _ h
def s_X8_sums_115 (i1 : Int32) (i2 : Int32) (k : Int32 → Mem → Option (Int32 × Mem)) (rec : Int32 → Mem → Option (Int32 × Mem)) (i3 : Int32) (M : Mem) : Option (Int32 × Mem) :=
  if i3 < M 176 0 then
    k i3 M
  else
    (f_X8_fits i3 M).bind fun (r2 : Int32) =>
    if r2 = 0 then
      if i3 < 0 ∨ 36 ≤ i3.toNatClampNeg then none else
      (f_X8_takes i3 (-(M 194 i3.toNatClampNeg)) M).bind fun (M5 : Mem) =>
      rec (i3 + (-1)) M5
    else
      k i3 M
def f_X8_sums_115 (i1 : Int32) (i2 : Int32) (k : Int32 → Mem → Option (Int32 × Mem)) : Nat → Int32 → Mem → Option (Int32 × Mem)
  | 0 => fun _ _ => none
  | n + 1 => fun i3 M => s_X8_sums_115 i1 i2 k (f_X8_sums_115 i1 i2 k n) i3 M
set_option maxRecDepth 100000 in
set_option maxHeartbeats 4000000 in
theorem w_X8_sums_115 (l : Launch) (x : WX) {i1 : Int32} {i2 : Int32} {k : Int32 → Mem → Option (Int32 × Mem)} {r : (Int32 × Mem)}  (K : ∀ (i3 : Int32) (M : Mem), k i3 M = some r → Ev l x false cX8_sums RX8 (some FieldType.int) 4 3 0 0 (pI r.1 r.2) 149 [some (.ref (x.2.2.1 + 176)), some (.int i1), some (.int i2), some (.int i3)] [] LAY M) : ∀ (n : Nat) (i3 : Int32) (M : Mem), f_X8_sums_115 i1 i2 k n i3 M = some r → Ev l x false cX8_sums RX8 (some FieldType.int) 4 3 0 0 (pI r.1 r.2) 115 [some (.ref (x.2.2.1 + 176)), some (.int i1), some (.int i2), some (.int i3)] [] LAY M := by
  intro n
  induction n with
  | zero =>
    intro i3 M h
    exact nomatch (show (none : Option (Int32 × Mem)) = some r from h)
  | succ n ih =>
    intro i3 M h
    have h : s_X8_sums_115 i1 i2 k (f_X8_sums_115 i1 i2 k n) i3 M = some r := h
    unfold s_X8_sums_115 at h
    refine e_iload_n aX8_sums_115 rfl ?_
    refine e_aload_n aX8_sums_116 rfl ?_
    refine e_getI aX8_sums_117 fX8_7 ly_176 rfl ?_
    rcases of_ite h with ⟨hc1, h⟩ | ⟨hc1, h⟩
    · refine e_icmp_lt (tgt := 149) aX8_sums_120 (by decide) (fun _ => ?_) (fun q => absurd hc1 q)
      exact K _ _ h
    · refine e_icmp_lt (tgt := 149) aX8_sums_120 (by decide) (fun q => absurd q hc1) (fun _ => ?_)
      refine e_aload_n aX8_sums_123 rfl ?_
      refine e_iload_n aX8_sums_124 rfl ?_
      obtain ⟨r2, hr2, h⟩ := of_bind h
      refine e_VI [] aX8_sums_125 co_X8_fits mX8_258 ly_176 rfl rfl (c_X8_fits l x hr2) rfl ⟨by decide, by decide⟩ (Nat.le_of_ble_eq_true rfl) rfl ?_
      rcases of_ite h with ⟨hc3, h⟩ | ⟨hc3, h⟩
      · refine e_if_ne (tgt := 149) aX8_sums_128 (by decide) (fun q => absurd hc3 q) (fun _ => ?_)
        refine e_aload_n aX8_sums_131 rfl ?_
        refine e_iload_n aX8_sums_132 rfl ?_
        refine e_aload_n aX8_sums_133 rfl ?_
        refine e_getR (r := 194) aX8_sums_134 fX8_66 ly_176 rfl ?_
        refine e_iload_n aX8_sums_137 rfl ?_
        obtain ⟨hg4, h⟩ := of_guard h
        refine e_iald aX8_sums_138 ly_194 hg4 ?_
        refine e_ineg aX8_sums_139 ?_
        obtain ⟨M5, hM5, h⟩ := of_bind h
        refine e_VV [] aX8_sums_140 co_X8_takes mX8_261 ly_176 rfl rfl (c_X8_takes l x hM5) rfl ⟨by decide, by decide⟩ (Nat.le_of_ble_eq_true rfl) rfl ?_
        refine e_iinc (v := i3 + (-1)) (L2 := [some (.ref (x.2.2.1 + 176)), some (.int i1), some (.int i2), some (.int (i3 + (-1)))]) aX8_sums_143 rfl rfl ⟨by decide, rfl⟩ rfl ?_
        refine e_goto (tgt := 115) aX8_sums_146 (by decide) ?_
        exact ih _ _ h
      · refine e_if_ne (tgt := 149) aX8_sums_128 (by decide) (fun _ => ?_) (fun q => absurd q hc3)
        exact K _ _ h
def s_X8_sums_97  (k : Int32 → Int32 → Mem → Option (Int32 × Mem)) (rec : Int32 → Int32 → Mem → Option (Int32 × Mem)) (i1 : Int32) (i2 : Int32) (M : Mem) : Option (Int32 × Mem) :=
  if i1 = 0 then
    k i1 i2 M
  else
    if 9999 ≤ i2 then
      k i1 i2 M
    else
      lt ((M 176 12) - 1) fun (v3 : Int32) =>
      f_X8_sums_115 i1 i2 (fun (i3_4 : Int32) (M5 : Mem) =>
        if i3_4 < M5 176 0 then
          if (0 : Int32) = 0 then
            rec 0 i2 M5
          else
            (f_X8_takes i3_4 1 M5).bind fun (M8 : Mem) =>
            rec 0 (i2 + 1) M8
        else
          if (1 : Int32) = 0 then
            rec 1 i2 M5
          else
            (f_X8_takes i3_4 1 M5).bind fun (M10 : Mem) =>
            rec 1 (i2 + 1) M10) FU v3 M
def f_X8_sums_97  (k : Int32 → Int32 → Mem → Option (Int32 × Mem)) : Nat → Int32 → Int32 → Mem → Option (Int32 × Mem)
  | 0 => fun _ _ _ => none
  | n + 1 => fun i1 i2 M => s_X8_sums_97  k (f_X8_sums_97  k n) i1 i2 M
set_option maxRecDepth 100000 in
set_option maxHeartbeats 4000000 in
theorem w_X8_sums_97 (l : Launch) (x : WX)  {k : Int32 → Int32 → Mem → Option (Int32 × Mem)} {r : (Int32 × Mem)}  (K : ∀ (i1 : Int32) (i2 : Int32) (M : Mem), k i1 i2 M = some r → Ev l x false cX8_sums RX8 (some FieldType.int) 4 3 0 0 (pI r.1 r.2) 179 [some (.ref (x.2.2.1 + 176)), some (.int i1), some (.int i2), none] [] LAY M) : ∀ (n : Nat) (i1 : Int32) (i2 : Int32) (M : Mem), f_X8_sums_97  k n i1 i2 M = some r → Ev l x false cX8_sums RX8 (some FieldType.int) 4 3 0 0 (pI r.1 r.2) 97 [some (.ref (x.2.2.1 + 176)), some (.int i1), some (.int i2), none] [] LAY M := by
  intro n
  induction n with
  | zero =>
    intro i1 i2 M h
    exact nomatch (show (none : Option (Int32 × Mem)) = some r from h)
  | succ n ih =>
    intro i1 i2 M h
    have h : s_X8_sums_97  k (f_X8_sums_97  k n) i1 i2 M = some r := h
    unfold s_X8_sums_97 at h
    refine e_iload_n aX8_sums_97 rfl ?_
    rcases of_ite h with ⟨hc1, h⟩ | ⟨hc1, h⟩
    · refine e_if_eq (tgt := 179) aX8_sums_98 (by decide) (fun _ => ?_) (fun q => absurd hc1 q)
      exact K _ _ _ h
    · refine e_if_eq (tgt := 179) aX8_sums_98 (by decide) (fun q => absurd q hc1) (fun _ => ?_)
      refine e_iload_n aX8_sums_101 rfl ?_
      refine e_sipush (v := 9999) aX8_sums_102 (by decide) ?_
      rcases of_ite h with ⟨hc2, h⟩ | ⟨hc2, h⟩
      · refine e_icmp_ge (tgt := 179) aX8_sums_105 (by decide) (fun _ => ?_) (fun q => absurd hc2 q)
        exact K _ _ _ h
      · refine e_icmp_ge (tgt := 179) aX8_sums_105 (by decide) (fun q => absurd q hc2) (fun _ => ?_)
        refine e_aload_n aX8_sums_108 rfl ?_
        refine e_getI aX8_sums_109 fX8_195 ly_176 rfl ?_
        refine e_iconst (v := 1) aX8_sums_112 (by decide) ?_
        refine e_isub aX8_sums_113 ?_
        obtain ⟨v3, ev3, h⟩ := of_lt h
        refine e_nameI ev3 ?_
        refine e_istore_n (L2 := [some (.ref (x.2.2.1 + 176)), some (.int i1), some (.int i2), some (.int v3)]) aX8_sums_114 ⟨by decide, rfl⟩ rfl ?_
        refine w_X8_sums_115 l x  (fun i3_4 M5 h => ?_) FU _ _ h
        refine e_iload_n aX8_sums_149 rfl ?_
        refine e_aload_n aX8_sums_150 rfl ?_
        refine e_getI aX8_sums_151 fX8_7 ly_176 rfl ?_
        rcases of_ite h with ⟨hc6, h⟩ | ⟨hc6, h⟩
        · refine e_icmp_lt (tgt := 161) aX8_sums_154 (by decide) (fun _ => ?_) (fun q => absurd hc6 q)
          refine e_iconst (v := 0) aX8_sums_161 (by decide) ?_
          refine e_istore_n (L2 := [some (.ref (x.2.2.1 + 176)), some (.int 0), some (.int i2), some (.int i3_4)]) aX8_sums_162 ⟨by decide, rfl⟩ rfl ?_
          refine e_iload_n aX8_sums_163 rfl ?_
          rcases of_ite h with ⟨hc7, h⟩ | ⟨hc7, h⟩
          · refine e_if_eq (tgt := 176) aX8_sums_164 (by decide) (fun _ => ?_) (fun q => absurd hc7 q)
            refine e_goto (tgt := 97) aX8_sums_176 (by decide) ?_
            refine e_drop 3 (L2 := [some (.ref (x.2.2.1 + 176)), some (.int 0), some (.int i2), none]) rfl ?_
            exact ih _ _ _ h
          · refine e_if_eq (tgt := 176) aX8_sums_164 (by decide) (fun q => absurd q hc7) (fun _ => ?_)
            refine e_aload_n aX8_sums_167 rfl ?_
            refine e_iload_n aX8_sums_168 rfl ?_
            refine e_iconst (v := 1) aX8_sums_169 (by decide) ?_
            obtain ⟨M8, hM8, h⟩ := of_bind h
            refine e_VV [] aX8_sums_170 co_X8_takes mX8_261 ly_176 rfl rfl (c_X8_takes l x hM8) rfl ⟨by decide, by decide⟩ (Nat.le_of_ble_eq_true rfl) rfl ?_
            refine e_iinc (v := i2 + 1) (L2 := [some (.ref (x.2.2.1 + 176)), some (.int 0), some (.int (i2 + 1)), some (.int i3_4)]) aX8_sums_173 rfl rfl ⟨by decide, rfl⟩ rfl ?_
            refine e_goto (tgt := 97) aX8_sums_176 (by decide) ?_
            refine e_drop 3 (L2 := [some (.ref (x.2.2.1 + 176)), some (.int 0), some (.int (i2 + 1)), none]) rfl ?_
            exact ih _ _ _ h
        · refine e_icmp_lt (tgt := 161) aX8_sums_154 (by decide) (fun q => absurd q hc6) (fun _ => ?_)
          refine e_iconst (v := 1) aX8_sums_157 (by decide) ?_
          refine e_goto (tgt := 162) aX8_sums_158 (by decide) ?_
          refine e_istore_n (L2 := [some (.ref (x.2.2.1 + 176)), some (.int 1), some (.int i2), some (.int i3_4)]) aX8_sums_162 ⟨by decide, rfl⟩ rfl ?_
          refine e_iload_n aX8_sums_163 rfl ?_
          rcases of_ite h with ⟨hc9, h⟩ | ⟨hc9, h⟩
          · refine e_if_eq (tgt := 176) aX8_sums_164 (by decide) (fun _ => ?_) (fun q => absurd hc9 q)
            refine e_goto (tgt := 97) aX8_sums_176 (by decide) ?_
            refine e_drop 3 (L2 := [some (.ref (x.2.2.1 + 176)), some (.int 1), some (.int i2), none]) rfl ?_
            exact ih _ _ _ h
          · refine e_if_eq (tgt := 176) aX8_sums_164 (by decide) (fun q => absurd q hc9) (fun _ => ?_)
            refine e_aload_n aX8_sums_167 rfl ?_
            refine e_iload_n aX8_sums_168 rfl ?_
            refine e_iconst (v := 1) aX8_sums_169 (by decide) ?_
            obtain ⟨M10, hM10, h⟩ := of_bind h
            refine e_VV [] aX8_sums_170 co_X8_takes mX8_261 ly_176 rfl rfl (c_X8_takes l x hM10) rfl ⟨by decide, by decide⟩ (Nat.le_of_ble_eq_true rfl) rfl ?_
            refine e_iinc (v := i2 + 1) (L2 := [some (.ref (x.2.2.1 + 176)), some (.int 1), some (.int (i2 + 1)), some (.int i3_4)]) aX8_sums_173 rfl rfl ⟨by decide, rfl⟩ rfl ?_
            refine e_goto (tgt := 97) aX8_sums_176 (by decide) ?_
            refine e_drop 3 (L2 := [some (.ref (x.2.2.1 + 176)), some (.int 1), some (.int (i2 + 1)), none]) rfl ?_
            exact ih _ _ _ h
def f_X8_sums  (M : Mem) : Option (Int32 × Mem) :=
  (f_X8_knows M).bind fun (M1 : Mem) =>
  if 0 ≤ M1 176 12 then
    f_X8_sums_16  (fun (i1_3 : Int32) (M4 : Mem) =>
      f_X8_sums_39  (fun (i1_5 : Int32) (i2_6 : Int32) (M7 : Mem) =>
        if i1_5 = 0 then
          f_X8_sums_97  (fun (i1_9 : Int32) (i2_10 : Int32) (M11 : Mem) =>
            some (i2_10, M11)) FU i1_5 0 M7
        else
          f_X8_sums_97  (fun (i1_12 : Int32) (i2_13 : Int32) (M14 : Mem) =>
            some (i2_13, M14)) FU i1_5 1 M7) FU 1 0 M4) FU 0 M1
  else
    some ((-1000003), M1)
set_option maxRecDepth 100000 in
set_option maxHeartbeats 4000000 in
theorem c_X8_sums (l : Launch) (x : WX)  {M : Mem} {r : (Int32 × Mem)}  (h : f_X8_sums  M = some r) : Mt l x false yX8_sums cX8_sums 4 (some FieldType.int) 3 0 0 [.ref (x.2.2.1 + 176)] LAY M (pI r.1 r.2) := by
  refine mt_of (L0 := [some (.ref (x.2.2.1 + 176)), none, none, none]) (by decide +kernel) rfl (Nat.le_of_ble_eq_true rfl) (lvA_of 3 rfl) ?_
  unfold f_X8_sums at h
  refine e_aload_n aX8_sums_0 rfl ?_
  obtain ⟨M1, hM1, h⟩ := of_bind h
  refine e_VV [] aX8_sums_1 co_X8_knows mX8_214 ly_176 rfl rfl (c_X8_knows l x hM1) rfl ⟨by decide, by decide⟩ (Nat.le_of_ble_eq_true rfl) rfl ?_
  refine e_aload_n aX8_sums_4 rfl ?_
  refine e_getI aX8_sums_5 fX8_195 ly_176 rfl ?_
  rcases of_ite h with ⟨hc2, h⟩ | ⟨hc2, h⟩
  · refine e_if_ge (tgt := 14) aX8_sums_8 (by decide) (fun _ => ?_) (fun q => absurd hc2 q)
    refine e_iconst (v := 0) aX8_sums_14 (by decide) ?_
    refine e_istore_n (L2 := [some (.ref (x.2.2.1 + 176)), some (.int 0), none, none]) aX8_sums_15 ⟨by decide, rfl⟩ rfl ?_
    refine w_X8_sums_16 l x  (fun i1_3 M4 h => ?_) FU _ _ h
    refine e_iconst (v := 1) aX8_sums_35 (by decide) ?_
    refine e_istore_n (L2 := [some (.ref (x.2.2.1 + 176)), some (.int 1), none, none]) aX8_sums_36 ⟨by decide, rfl⟩ rfl ?_
    refine e_iconst (v := 0) aX8_sums_37 (by decide) ?_
    refine e_istore_n (L2 := [some (.ref (x.2.2.1 + 176)), some (.int 1), some (.int 0), none]) aX8_sums_38 ⟨by decide, rfl⟩ rfl ?_
    refine w_X8_sums_39 l x  (fun i1_5 i2_6 M7 h => ?_) FU _ _ _ h
    refine e_iload_n aX8_sums_87 rfl ?_
    rcases of_ite h with ⟨hc8, h⟩ | ⟨hc8, h⟩
    · refine e_if_eq (tgt := 95) aX8_sums_88 (by decide) (fun _ => ?_) (fun q => absurd hc8 q)
      refine e_iconst (v := 0) aX8_sums_95 (by decide) ?_
      refine e_istore_n (L2 := [some (.ref (x.2.2.1 + 176)), some (.int i1_5), some (.int 0), none]) aX8_sums_96 ⟨by decide, rfl⟩ rfl ?_
      refine w_X8_sums_97 l x  (fun i1_9 i2_10 M11 h => ?_) FU _ _ _ h
      refine e_iload_n aX8_sums_179 rfl ?_
      exact e_retI aX8_sums_180 rfl rfl (pI_of h)
    · refine e_if_eq (tgt := 95) aX8_sums_88 (by decide) (fun q => absurd q hc8) (fun _ => ?_)
      refine e_iconst (v := 1) aX8_sums_91 (by decide) ?_
      refine e_goto (tgt := 96) aX8_sums_92 (by decide) ?_
      refine e_istore_n (L2 := [some (.ref (x.2.2.1 + 176)), some (.int i1_5), some (.int 1), none]) aX8_sums_96 ⟨by decide, rfl⟩ rfl ?_
      refine w_X8_sums_97 l x  (fun i1_12 i2_13 M14 h => ?_) FU _ _ _ h
      refine e_iload_n aX8_sums_179 rfl ?_
      exact e_retI aX8_sums_180 rfl rfl (pI_of h)
  · refine e_if_ge (tgt := 14) aX8_sums_8 (by decide) (fun q => absurd q hc2) (fun _ => ?_)
    refine e_ldc aX8_sums_11 kX8_161 ?_
    exact e_retI aX8_sums_13 rfl rfl (pI_of h)
def f_X8_isShelf (i0 : Int32) (M : Mem) : Option Int32 :=
  (f_X8_in i0.toInt64 0 2 M).bind fun (r1 : Int32) =>
  if ¬ (r1 = 0 ∨ r1 = 1) then none else
  some r1
set_option maxRecDepth 100000 in
set_option maxHeartbeats 4000000 in
theorem c_X8_isShelf (l : Launch) (x : WX) {i0 : Int32} {M : Mem} {r : Int32}  (h : f_X8_isShelf i0 M = some r) : Mt l x false yX8_isShelf cX8_isShelf 1 (some FieldType.boolean) 1 0 0 [.int i0] LAY M (pI r M) := by
  refine mt_of (L0 := [some (.int i0)]) (by decide +kernel) rfl (Nat.le_of_ble_eq_true rfl) (lvA_of 0 rfl) ?_
  unfold f_X8_isShelf at h
  refine e_iload_n aX8_isShelf_0 rfl ?_
  refine e_i2l aX8_isShelf_1 ?_
  refine e_lconst (v := 0) aX8_isShelf_2 (by decide) ?_
  refine e_ldc2_w aX8_isShelf_3 kX8_256 ?_
  obtain ⟨r1, hr1, h⟩ := of_bind h
  refine e_SI [] aX8_isShelf_6 co_X8_in mX8_72 (c_X8_in l x hr1) rfl ⟨by decide, by decide⟩ (Nat.le_of_ble_eq_true rfl) rfl ?_
  obtain ⟨hg2, h⟩ := of_guard h
  exact e_retI aX8_isShelf_9 rfl (nz_of (Decidable.of_not_not hg2)) (pI_ro h)
def f_X8_shelf (i1 : Int32) (M : Mem) : Option (Int32 × Mem) :=
  (f_X8_isShelf i1 M).bind fun (r1 : Int32) =>
  if r1 = 0 then
    some ((-1000001), M)
  else
    if i1 < 0 ∨ 3 ≤ i1.toNatClampNeg then none else
    lt (um M 180 i1.toNatClampNeg 0) fun (M4 : Mem) =>
    some (0, M4)
set_option maxRecDepth 100000 in
set_option maxHeartbeats 4000000 in
theorem c_X8_shelf (l : Launch) (x : WX) {i1 : Int32} {M : Mem} {r : (Int32 × Mem)}  (h : f_X8_shelf i1 M = some r) : Mt l x false yX8_shelf cX8_shelf 2 (some FieldType.int) 2 0 0 [.ref (x.2.2.1 + 176), .int i1] LAY M (pI r.1 r.2) := by
  refine mt_of (L0 := [some (.ref (x.2.2.1 + 176)), some (.int i1)]) (by decide +kernel) rfl (Nat.le_of_ble_eq_true rfl) (lvA_of 0 rfl) ?_
  unfold f_X8_shelf at h
  refine e_iload_n aX8_shelf_0 rfl ?_
  obtain ⟨r1, hr1, h⟩ := of_bind h
  refine e_SI [] aX8_shelf_1 co_X8_isShelf mX8_264 (c_X8_isShelf l x hr1) rfl ⟨by decide, by decide⟩ (Nat.le_of_ble_eq_true rfl) rfl ?_
  rcases of_ite h with ⟨hc2, h⟩ | ⟨hc2, h⟩
  · refine e_if_ne (tgt := 10) aX8_shelf_4 (by decide) (fun q => absurd hc2 q) (fun _ => ?_)
    refine e_ldc aX8_shelf_7 kX8_168 ?_
    exact e_retI aX8_shelf_9 rfl rfl (pI_of h)
  · refine e_if_ne (tgt := 10) aX8_shelf_4 (by decide) (fun _ => ?_) (fun q => absurd q hc2)
    refine e_aload_n aX8_shelf_10 rfl ?_
    refine e_getR (r := 180) aX8_shelf_11 fX8_24 ly_176 rfl ?_
    refine e_iload_n aX8_shelf_14 rfl ?_
    refine e_iconst (v := 0) aX8_shelf_15 (by decide) ?_
    obtain ⟨hg3, h⟩ := of_guard h
    obtain ⟨M4, eM4, h⟩ := of_lt h
    refine e_ist aX8_shelf_16 ly_180 hg3 eM4 ?_
    refine e_iconst (v := 0) aX8_shelf_17 (by decide) ?_
    exact e_retI aX8_shelf_18 rfl rfl (pI_of h)
def s_X8_lay_60 (i1 : Int32) (i2 : Int32) (k : Int32 → Mem → Option (Int32 × Mem)) (rec : Int32 → Mem → Option (Int32 × Mem)) (i3 : Int32) (M : Mem) : Option (Int32 × Mem) :=
  if 6 ≤ i3 then
    k i3 M
  else
    if 21 + i3 < 0 ∨ 297 ≤ (21 + i3).toNatClampNeg then none else
    if (6 * i2) + i3 < 0 ∨ 72 ≤ ((6 * i2) + i3).toNatClampNeg then none else
    lt (um M 182 ((6 * i2) + i3).toNatClampNeg (M 177 (21 + i3).toNatClampNeg)) fun (M4 : Mem) =>
    rec (i3 + 1) M4
def f_X8_lay_60 (i1 : Int32) (i2 : Int32) (k : Int32 → Mem → Option (Int32 × Mem)) : Nat → Int32 → Mem → Option (Int32 × Mem)
  | 0 => fun _ _ => none
  | n + 1 => fun i3 M => s_X8_lay_60 i1 i2 k (f_X8_lay_60 i1 i2 k n) i3 M
set_option maxRecDepth 100000 in
set_option maxHeartbeats 4000000 in
theorem w_X8_lay_60 (l : Launch) (x : WX) {i1 : Int32} {i2 : Int32} {k : Int32 → Mem → Option (Int32 × Mem)} {r : (Int32 × Mem)}  (K : ∀ (i3 : Int32) (M : Mem), k i3 M = some r → Ev l x false cX8_lay RX8 (some FieldType.int) 4 2 0 0 (pI r.1 r.2) 92 [some (.ref (x.2.2.1 + 176)), some (.int i1), some (.int i2), some (.int i3)] [] LAY M) : ∀ (n : Nat) (i3 : Int32) (M : Mem), f_X8_lay_60 i1 i2 k n i3 M = some r → Ev l x false cX8_lay RX8 (some FieldType.int) 4 2 0 0 (pI r.1 r.2) 60 [some (.ref (x.2.2.1 + 176)), some (.int i1), some (.int i2), some (.int i3)] [] LAY M := by
  intro n
  induction n with
  | zero =>
    intro i3 M h
    exact nomatch (show (none : Option (Int32 × Mem)) = some r from h)
  | succ n ih =>
    intro i3 M h
    have h : s_X8_lay_60 i1 i2 k (f_X8_lay_60 i1 i2 k n) i3 M = some r := h
    unfold s_X8_lay_60 at h
    refine e_iload_n aX8_lay_60 rfl ?_
    refine e_bipush (v := 6) aX8_lay_61 (by decide) ?_
    rcases of_ite h with ⟨hc1, h⟩ | ⟨hc1, h⟩
    · refine e_icmp_ge (tgt := 92) aX8_lay_63 (by decide) (fun _ => ?_) (fun q => absurd hc1 q)
      exact K _ _ h
    · refine e_icmp_ge (tgt := 92) aX8_lay_63 (by decide) (fun q => absurd q hc1) (fun _ => ?_)
      refine e_aload_n aX8_lay_66 rfl ?_
      refine e_getR (r := 182) aX8_lay_67 fX8_30 ly_176 rfl ?_
      refine e_bipush (v := 6) aX8_lay_70 (by decide) ?_
      refine e_iload_n aX8_lay_72 rfl ?_
      refine e_imul aX8_lay_73 ?_
      refine e_iload_n aX8_lay_74 rfl ?_
      refine e_iadd aX8_lay_75 ?_
      refine e_aload_n aX8_lay_76 rfl ?_
      refine e_getR (r := 177) aX8_lay_77 fX8_13 ly_176 rfl ?_
      refine e_bipush (v := 21) aX8_lay_80 (by decide) ?_
      refine e_iload_n aX8_lay_82 rfl ?_
      refine e_iadd aX8_lay_83 ?_
      obtain ⟨hg2, h⟩ := of_guard h
      refine e_iald aX8_lay_84 ly_177 hg2 ?_
      obtain ⟨hg3, h⟩ := of_guard h
      obtain ⟨M4, eM4, h⟩ := of_lt h
      refine e_ist aX8_lay_85 ly_182 hg3 eM4 ?_
      refine e_iinc (v := i3 + 1) (L2 := [some (.ref (x.2.2.1 + 176)), some (.int i1), some (.int i2), some (.int (i3 + 1))]) aX8_lay_86 rfl rfl ⟨by decide, rfl⟩ rfl ?_
      refine e_goto (tgt := 60) aX8_lay_89 (by decide) ?_
      exact ih _ _ h
def f_X8_lay (i1 : Int32) (M : Mem) : Option (Int32 × Mem) :=
  (f_X8_isShelf i1 M).bind fun (r1 : Int32) =>
  if r1 = 0 then
    some ((-1000001), M)
  else
    if i1 < 0 ∨ 3 ≤ i1.toNatClampNeg then none else
    if 0 ≤ M 180 i1.toNatClampNeg then
      if i1 < 0 ∨ 3 ≤ i1.toNatClampNeg then none else
      if M 180 i1.toNatClampNeg = 4 then
        some ((-1000013), M)
      else
        if i1 < 0 ∨ 3 ≤ i1.toNatClampNeg then none else
        lt ((4 * i1) + (M 180 i1.toNatClampNeg)) fun (v8 : Int32) =>
        if v8 < 0 ∨ 12 ≤ v8.toNatClampNeg then none else
        lt (um M 181 v8.toNatClampNeg (M 176 0)) fun (M10 : Mem) =>
        f_X8_lay_60 i1 v8 (fun (i3_11 : Int32) (M12 : Mem) =>
          if i1 < 0 ∨ 3 ≤ i1.toNatClampNeg then none else
          if i1 < 0 ∨ 3 ≤ i1.toNatClampNeg then none else
          lt (um M12 180 i1.toNatClampNeg ((M12 180 i1.toNatClampNeg) + 1)) fun (M15 : Mem) =>
          if i1 < 0 ∨ 3 ≤ i1.toNatClampNeg then none else
          some (M15 180 i1.toNatClampNeg, M15)) FU 0 M10
    else
      some ((-1000011), M)
set_option maxRecDepth 100000 in
set_option maxHeartbeats 4000000 in
theorem c_X8_lay (l : Launch) (x : WX) {i1 : Int32} {M : Mem} {r : (Int32 × Mem)}  (h : f_X8_lay i1 M = some r) : Mt l x false yX8_lay cX8_lay 4 (some FieldType.int) 2 0 0 [.ref (x.2.2.1 + 176), .int i1] LAY M (pI r.1 r.2) := by
  refine mt_of (L0 := [some (.ref (x.2.2.1 + 176)), some (.int i1), none, none]) (by decide +kernel) rfl (Nat.le_of_ble_eq_true rfl) (lvA_of 2 rfl) ?_
  unfold f_X8_lay at h
  refine e_iload_n aX8_lay_0 rfl ?_
  obtain ⟨r1, hr1, h⟩ := of_bind h
  refine e_SI [] aX8_lay_1 co_X8_isShelf mX8_264 (c_X8_isShelf l x hr1) rfl ⟨by decide, by decide⟩ (Nat.le_of_ble_eq_true rfl) rfl ?_
  rcases of_ite h with ⟨hc2, h⟩ | ⟨hc2, h⟩
  · refine e_if_ne (tgt := 10) aX8_lay_4 (by decide) (fun q => absurd hc2 q) (fun _ => ?_)
    refine e_ldc aX8_lay_7 kX8_168 ?_
    exact e_retI aX8_lay_9 rfl rfl (pI_of h)
  · refine e_if_ne (tgt := 10) aX8_lay_4 (by decide) (fun _ => ?_) (fun q => absurd q hc2)
    refine e_aload_n aX8_lay_10 rfl ?_
    refine e_getR (r := 180) aX8_lay_11 fX8_24 ly_176 rfl ?_
    refine e_iload_n aX8_lay_14 rfl ?_
    obtain ⟨hg3, h⟩ := of_guard h
    refine e_iald aX8_lay_15 ly_180 hg3 ?_
    rcases of_ite h with ⟨hc4, h⟩ | ⟨hc4, h⟩
    · refine e_if_ge (tgt := 23) aX8_lay_16 (by decide) (fun _ => ?_) (fun q => absurd hc4 q)
      refine e_aload_n aX8_lay_23 rfl ?_
      refine e_getR (r := 180) aX8_lay_24 fX8_24 ly_176 rfl ?_
      refine e_iload_n aX8_lay_27 rfl ?_
      obtain ⟨hg5, h⟩ := of_guard h
      refine e_iald aX8_lay_28 ly_180 hg5 ?_
      refine e_iconst (v := 4) aX8_lay_29 (by decide) ?_
      rcases of_ite h with ⟨hc6, h⟩ | ⟨hc6, h⟩
      · refine e_icmp_ne (tgt := 37) aX8_lay_30 (by decide) (fun q => absurd hc6 q) (fun _ => ?_)
        refine e_ldc_w aX8_lay_33 kX8_268 ?_
        exact e_retI aX8_lay_36 rfl rfl (pI_of h)
      · refine e_icmp_ne (tgt := 37) aX8_lay_30 (by decide) (fun _ => ?_) (fun q => absurd q hc6)
        refine e_iconst (v := 4) aX8_lay_37 (by decide) ?_
        refine e_iload_n aX8_lay_38 rfl ?_
        refine e_imul aX8_lay_39 ?_
        refine e_aload_n aX8_lay_40 rfl ?_
        refine e_getR (r := 180) aX8_lay_41 fX8_24 ly_176 rfl ?_
        refine e_iload_n aX8_lay_44 rfl ?_
        obtain ⟨hg7, h⟩ := of_guard h
        refine e_iald aX8_lay_45 ly_180 hg7 ?_
        refine e_iadd aX8_lay_46 ?_
        obtain ⟨v8, ev8, h⟩ := of_lt h
        refine e_nameI ev8 ?_
        refine e_istore_n (L2 := [some (.ref (x.2.2.1 + 176)), some (.int i1), some (.int v8), none]) aX8_lay_47 ⟨by decide, rfl⟩ rfl ?_
        refine e_aload_n aX8_lay_48 rfl ?_
        refine e_getR (r := 181) aX8_lay_49 fX8_27 ly_176 rfl ?_
        refine e_iload_n aX8_lay_52 rfl ?_
        refine e_aload_n aX8_lay_53 rfl ?_
        refine e_getI aX8_lay_54 fX8_7 ly_176 rfl ?_
        obtain ⟨hg9, h⟩ := of_guard h
        obtain ⟨M10, eM10, h⟩ := of_lt h
        refine e_ist aX8_lay_57 ly_181 hg9 eM10 ?_
        refine e_iconst (v := 0) aX8_lay_58 (by decide) ?_
        refine e_istore_n (L2 := [some (.ref (x.2.2.1 + 176)), some (.int i1), some (.int v8), some (.int 0)]) aX8_lay_59 ⟨by decide, rfl⟩ rfl ?_
        refine w_X8_lay_60 l x  (fun i3_11 M12 h => ?_) FU _ _ h
        refine e_aload_n aX8_lay_92 rfl ?_
        refine e_getR (r := 180) aX8_lay_93 fX8_24 ly_176 rfl ?_
        refine e_iload_n aX8_lay_96 rfl ?_
        refine e_dup2 aX8_lay_97 ?_
        obtain ⟨hg13, h⟩ := of_guard h
        refine e_iald aX8_lay_98 ly_180 hg13 ?_
        refine e_iconst (v := 1) aX8_lay_99 (by decide) ?_
        refine e_iadd aX8_lay_100 ?_
        obtain ⟨hg14, h⟩ := of_guard h
        obtain ⟨M15, eM15, h⟩ := of_lt h
        refine e_ist aX8_lay_101 ly_180 hg14 eM15 ?_
        refine e_aload_n aX8_lay_102 rfl ?_
        refine e_getR (r := 180) aX8_lay_103 fX8_24 ly_176 rfl ?_
        refine e_iload_n aX8_lay_106 rfl ?_
        obtain ⟨hg16, h⟩ := of_guard h
        refine e_iald aX8_lay_107 ly_180 hg16 ?_
        exact e_retI aX8_lay_108 rfl rfl (pI_of h)
    · refine e_if_ge (tgt := 23) aX8_lay_16 (by decide) (fun q => absurd q hc4) (fun _ => ?_)
      refine e_ldc_w aX8_lay_19 kX8_267 ?_
      exact e_retI aX8_lay_22 rfl rfl (pI_of h)
def f_X8_finds (i1 : Int32) (M : Mem) : Option Int32 :=
  if i1 < 0 ∨ 3 ≤ i1.toNatClampNeg then none else
  if 0 ≤ M 180 i1.toNatClampNeg then
    if i1 < 0 ∨ 3 ≤ i1.toNatClampNeg then none else
    if M 180 i1.toNatClampNeg = 0 then
      some (-1000012)
    else
      if i1 < 0 ∨ 3 ≤ i1.toNatClampNeg then none else
      if ((4 * i1) + (M 180 i1.toNatClampNeg)) - 1 < 0 ∨ 12 ≤ (((4 * i1) + (M 180 i1.toNatClampNeg)) - 1).toNatClampNeg then none else
      if M 181 (((4 * i1) + (M 180 i1.toNatClampNeg)) - 1).toNatClampNeg = M 176 0 then
        some 0
      else
        some (-1000014)
  else
    some (-1000011)
set_option maxRecDepth 100000 in
set_option maxHeartbeats 4000000 in
theorem c_X8_finds (l : Launch) (x : WX) {i1 : Int32} {M : Mem} {r : Int32}  (h : f_X8_finds i1 M = some r) : Mt l x false yX8_finds cX8_finds 2 (some FieldType.int) 0 0 0 [.ref (x.2.2.1 + 176), .int i1] LAY M (pI r M) := by
  refine mt_of (L0 := [some (.ref (x.2.2.1 + 176)), some (.int i1)]) (by decide +kernel) rfl (Nat.le_of_ble_eq_true rfl) (lvA_of 0 rfl) ?_
  unfold f_X8_finds at h
  refine e_aload_n aX8_finds_0 rfl ?_
  refine e_getR (r := 180) aX8_finds_1 fX8_24 ly_176 rfl ?_
  refine e_iload_n aX8_finds_4 rfl ?_
  obtain ⟨hg1, h⟩ := of_guard h
  refine e_iald aX8_finds_5 ly_180 hg1 ?_
  rcases of_ite h with ⟨hc2, h⟩ | ⟨hc2, h⟩
  · refine e_if_ge (tgt := 13) aX8_finds_6 (by decide) (fun _ => ?_) (fun q => absurd hc2 q)
    refine e_aload_n aX8_finds_13 rfl ?_
    refine e_getR (r := 180) aX8_finds_14 fX8_24 ly_176 rfl ?_
    refine e_iload_n aX8_finds_17 rfl ?_
    obtain ⟨hg3, h⟩ := of_guard h
    refine e_iald aX8_finds_18 ly_180 hg3 ?_
    rcases of_ite h with ⟨hc4, h⟩ | ⟨hc4, h⟩
    · refine e_if_ne (tgt := 26) aX8_finds_19 (by decide) (fun q => absurd hc4 q) (fun _ => ?_)
      refine e_ldc_w aX8_finds_22 kX8_269 ?_
      exact e_retI aX8_finds_25 rfl rfl (pI_ro h)
    · refine e_if_ne (tgt := 26) aX8_finds_19 (by decide) (fun _ => ?_) (fun q => absurd q hc4)
      refine e_aload_n aX8_finds_26 rfl ?_
      refine e_getR (r := 181) aX8_finds_27 fX8_27 ly_176 rfl ?_
      refine e_iconst (v := 4) aX8_finds_30 (by decide) ?_
      refine e_iload_n aX8_finds_31 rfl ?_
      refine e_imul aX8_finds_32 ?_
      refine e_aload_n aX8_finds_33 rfl ?_
      refine e_getR (r := 180) aX8_finds_34 fX8_24 ly_176 rfl ?_
      refine e_iload_n aX8_finds_37 rfl ?_
      obtain ⟨hg5, h⟩ := of_guard h
      refine e_iald aX8_finds_38 ly_180 hg5 ?_
      refine e_iadd aX8_finds_39 ?_
      refine e_iconst (v := 1) aX8_finds_40 (by decide) ?_
      refine e_isub aX8_finds_41 ?_
      obtain ⟨hg6, h⟩ := of_guard h
      refine e_iald aX8_finds_42 ly_181 hg6 ?_
      refine e_aload_n aX8_finds_43 rfl ?_
      refine e_getI aX8_finds_44 fX8_7 ly_176 rfl ?_
      rcases of_ite h with ⟨hc7, h⟩ | ⟨hc7, h⟩
      · refine e_icmp_ne (tgt := 54) aX8_finds_47 (by decide) (fun q => absurd hc7 q) (fun _ => ?_)
        refine e_iconst (v := 0) aX8_finds_50 (by decide) ?_
        refine e_goto (tgt := 57) aX8_finds_51 (by decide) ?_
        exact e_retI aX8_finds_57 rfl rfl (pI_ro h)
      · refine e_icmp_ne (tgt := 54) aX8_finds_47 (by decide) (fun _ => ?_) (fun q => absurd q hc7)
        refine e_ldc_w aX8_finds_54 kX8_270 ?_
        exact e_retI aX8_finds_57 rfl rfl (pI_ro h)
  · refine e_if_ge (tgt := 13) aX8_finds_6 (by decide) (fun q => absurd q hc2) (fun _ => ?_)
    refine e_ldc_w aX8_finds_9 kX8_267 ?_
    exact e_retI aX8_finds_12 rfl rfl (pI_ro h)
def f_X8_lastAt (i1 : Int32) (M : Mem) : Option Int32 :=
  if i1 < 0 ∨ 3 ≤ i1.toNatClampNeg then none else
  some (6 * (((4 * i1) + (M 180 i1.toNatClampNeg)) - 1))
set_option maxRecDepth 100000 in
set_option maxHeartbeats 4000000 in
theorem c_X8_lastAt (l : Launch) (x : WX) {i1 : Int32} {M : Mem} {r : Int32}  (h : f_X8_lastAt i1 M = some r) : Mt l x false yX8_lastAt cX8_lastAt 2 (some FieldType.int) 0 0 0 [.ref (x.2.2.1 + 176), .int i1] LAY M (pI r M) := by
  refine mt_of (L0 := [some (.ref (x.2.2.1 + 176)), some (.int i1)]) (by decide +kernel) rfl (Nat.le_of_ble_eq_true rfl) (lvA_of 0 rfl) ?_
  unfold f_X8_lastAt at h
  refine e_bipush (v := 6) aX8_lastAt_0 (by decide) ?_
  refine e_iconst (v := 4) aX8_lastAt_2 (by decide) ?_
  refine e_iload_n aX8_lastAt_3 rfl ?_
  refine e_imul aX8_lastAt_4 ?_
  refine e_aload_n aX8_lastAt_5 rfl ?_
  refine e_getR (r := 180) aX8_lastAt_6 fX8_24 ly_176 rfl ?_
  refine e_iload_n aX8_lastAt_9 rfl ?_
  obtain ⟨hg1, h⟩ := of_guard h
  refine e_iald aX8_lastAt_10 ly_180 hg1 ?_
  refine e_iadd aX8_lastAt_11 ?_
  refine e_iconst (v := 1) aX8_lastAt_12 (by decide) ?_
  refine e_isub aX8_lastAt_13 ?_
  refine e_imul aX8_lastAt_14 ?_
  exact e_retI aX8_lastAt_15 rfl rfl (pI_ro h)
def s_X8_draw_24 (i1 : Int32) (i2 : Int32) (k : Int32 → Mem → Option (Int32 × Mem)) (rec : Int32 → Mem → Option (Int32 × Mem)) (i3 : Int32) (M : Mem) : Option (Int32 × Mem) :=
  if 6 ≤ i3 then
    k i3 M
  else
    (f_X8_lastAt i1 M).bind fun (r2 : Int32) =>
    if r2 + i3 < 0 ∨ 72 ≤ (r2 + i3).toNatClampNeg then none else
    if 21 + i3 < 0 ∨ 297 ≤ (21 + i3).toNatClampNeg then none else
    lt (um M 177 (21 + i3).toNatClampNeg (M 182 (r2 + i3).toNatClampNeg)) fun (M5 : Mem) =>
    rec (i3 + 1) M5
def f_X8_draw_24 (i1 : Int32) (i2 : Int32) (k : Int32 → Mem → Option (Int32 × Mem)) : Nat → Int32 → Mem → Option (Int32 × Mem)
  | 0 => fun _ _ => none
  | n + 1 => fun i3 M => s_X8_draw_24 i1 i2 k (f_X8_draw_24 i1 i2 k n) i3 M
set_option maxRecDepth 100000 in
set_option maxHeartbeats 4000000 in
theorem w_X8_draw_24 (l : Launch) (x : WX) {i1 : Int32} {i2 : Int32} {k : Int32 → Mem → Option (Int32 × Mem)} {r : (Int32 × Mem)}  (K : ∀ (i3 : Int32) (M : Mem), k i3 M = some r → Ev l x false cX8_draw RX8 (some FieldType.int) 4 2 0 0 (pI r.1 r.2) 57 [some (.ref (x.2.2.1 + 176)), some (.int i1), some (.int i2), some (.int i3)] [] LAY M) : ∀ (n : Nat) (i3 : Int32) (M : Mem), f_X8_draw_24 i1 i2 k n i3 M = some r → Ev l x false cX8_draw RX8 (some FieldType.int) 4 2 0 0 (pI r.1 r.2) 24 [some (.ref (x.2.2.1 + 176)), some (.int i1), some (.int i2), some (.int i3)] [] LAY M := by
  intro n
  induction n with
  | zero =>
    intro i3 M h
    exact nomatch (show (none : Option (Int32 × Mem)) = some r from h)
  | succ n ih =>
    intro i3 M h
    have h : s_X8_draw_24 i1 i2 k (f_X8_draw_24 i1 i2 k n) i3 M = some r := h
    unfold s_X8_draw_24 at h
    refine e_iload_n aX8_draw_24 rfl ?_
    refine e_bipush (v := 6) aX8_draw_25 (by decide) ?_
    rcases of_ite h with ⟨hc1, h⟩ | ⟨hc1, h⟩
    · refine e_icmp_ge (tgt := 57) aX8_draw_27 (by decide) (fun _ => ?_) (fun q => absurd hc1 q)
      exact K _ _ h
    · refine e_icmp_ge (tgt := 57) aX8_draw_27 (by decide) (fun q => absurd q hc1) (fun _ => ?_)
      refine e_aload_n aX8_draw_30 rfl ?_
      refine e_getR (r := 177) aX8_draw_31 fX8_13 ly_176 rfl ?_
      refine e_bipush (v := 21) aX8_draw_34 (by decide) ?_
      refine e_iload_n aX8_draw_36 rfl ?_
      refine e_iadd aX8_draw_37 ?_
      refine e_aload_n aX8_draw_38 rfl ?_
      refine e_getR (r := 182) aX8_draw_39 fX8_30 ly_176 rfl ?_
      refine e_aload_n aX8_draw_42 rfl ?_
      refine e_iload_n aX8_draw_43 rfl ?_
      obtain ⟨r2, hr2, h⟩ := of_bind h
      refine e_VI [.ref (x.2.2.1 + 182), .int (21 + i3), .ref (x.2.2.1 + 177)] aX8_draw_44 co_X8_lastAt mX8_274 ly_176 rfl rfl (c_X8_lastAt l x hr2) rfl ⟨by decide, by decide⟩ (Nat.le_of_ble_eq_true rfl) rfl ?_
      refine e_iload_n aX8_draw_47 rfl ?_
      refine e_iadd aX8_draw_48 ?_
      obtain ⟨hg3, h⟩ := of_guard h
      refine e_iald aX8_draw_49 ly_182 hg3 ?_
      obtain ⟨hg4, h⟩ := of_guard h
      obtain ⟨M5, eM5, h⟩ := of_lt h
      refine e_ist aX8_draw_50 ly_177 hg4 eM5 ?_
      refine e_iinc (v := i3 + 1) (L2 := [some (.ref (x.2.2.1 + 176)), some (.int i1), some (.int i2), some (.int (i3 + 1))]) aX8_draw_51 rfl rfl ⟨by decide, rfl⟩ rfl ?_
      refine e_goto (tgt := 24) aX8_draw_54 (by decide) ?_
      exact ih _ _ h
def f_X8_draw (i1 : Int32) (M : Mem) : Option (Int32 × Mem) :=
  (f_X8_isShelf i1 M).bind fun (r1 : Int32) =>
  if r1 = 0 then
    some ((-1000001), M)
  else
    (f_X8_finds i1 M).bind fun (r3 : Int32) =>
    if 0 ≤ r3 then
      f_X8_draw_24 i1 r3 (fun (i3_5 : Int32) (M6 : Mem) =>
        if i1 < 0 ∨ 3 ≤ i1.toNatClampNeg then none else
        if i1 < 0 ∨ 3 ≤ i1.toNatClampNeg then none else
        lt (um M6 180 i1.toNatClampNeg ((M6 180 i1.toNatClampNeg) - 1)) fun (M9 : Mem) =>
        if i1 < 0 ∨ 3 ≤ i1.toNatClampNeg then none else
        some (M9 180 i1.toNatClampNeg, M9)) FU 0 M
    else
      some (r3, M)
set_option maxRecDepth 100000 in
set_option maxHeartbeats 4000000 in
theorem c_X8_draw (l : Launch) (x : WX) {i1 : Int32} {M : Mem} {r : (Int32 × Mem)}  (h : f_X8_draw i1 M = some r) : Mt l x false yX8_draw cX8_draw 4 (some FieldType.int) 2 0 0 [.ref (x.2.2.1 + 176), .int i1] LAY M (pI r.1 r.2) := by
  refine mt_of (L0 := [some (.ref (x.2.2.1 + 176)), some (.int i1), none, none]) (by decide +kernel) rfl (Nat.le_of_ble_eq_true rfl) (lvA_of 2 rfl) ?_
  unfold f_X8_draw at h
  refine e_iload_n aX8_draw_0 rfl ?_
  obtain ⟨r1, hr1, h⟩ := of_bind h
  refine e_SI [] aX8_draw_1 co_X8_isShelf mX8_264 (c_X8_isShelf l x hr1) rfl ⟨by decide, by decide⟩ (Nat.le_of_ble_eq_true rfl) rfl ?_
  rcases of_ite h with ⟨hc2, h⟩ | ⟨hc2, h⟩
  · refine e_if_ne (tgt := 10) aX8_draw_4 (by decide) (fun q => absurd hc2 q) (fun _ => ?_)
    refine e_ldc aX8_draw_7 kX8_168 ?_
    exact e_retI aX8_draw_9 rfl rfl (pI_of h)
  · refine e_if_ne (tgt := 10) aX8_draw_4 (by decide) (fun _ => ?_) (fun q => absurd q hc2)
    refine e_aload_n aX8_draw_10 rfl ?_
    refine e_iload_n aX8_draw_11 rfl ?_
    obtain ⟨r3, hr3, h⟩ := of_bind h
    refine e_VI [] aX8_draw_12 co_X8_finds mX8_271 ly_176 rfl rfl (c_X8_finds l x hr3) rfl ⟨by decide, by decide⟩ (Nat.le_of_ble_eq_true rfl) rfl ?_
    refine e_istore_n (L2 := [some (.ref (x.2.2.1 + 176)), some (.int i1), some (.int r3), none]) aX8_draw_15 ⟨by decide, rfl⟩ rfl ?_
    refine e_iload_n aX8_draw_16 rfl ?_
    rcases of_ite h with ⟨hc4, h⟩ | ⟨hc4, h⟩
    · refine e_if_ge (tgt := 22) aX8_draw_17 (by decide) (fun _ => ?_) (fun q => absurd hc4 q)
      refine e_iconst (v := 0) aX8_draw_22 (by decide) ?_
      refine e_istore_n (L2 := [some (.ref (x.2.2.1 + 176)), some (.int i1), some (.int r3), some (.int 0)]) aX8_draw_23 ⟨by decide, rfl⟩ rfl ?_
      refine w_X8_draw_24 l x  (fun i3_5 M6 h => ?_) FU _ _ h
      refine e_aload_n aX8_draw_57 rfl ?_
      refine e_getR (r := 180) aX8_draw_58 fX8_24 ly_176 rfl ?_
      refine e_iload_n aX8_draw_61 rfl ?_
      refine e_dup2 aX8_draw_62 ?_
      obtain ⟨hg7, h⟩ := of_guard h
      refine e_iald aX8_draw_63 ly_180 hg7 ?_
      refine e_iconst (v := 1) aX8_draw_64 (by decide) ?_
      refine e_isub aX8_draw_65 ?_
      obtain ⟨hg8, h⟩ := of_guard h
      obtain ⟨M9, eM9, h⟩ := of_lt h
      refine e_ist aX8_draw_66 ly_180 hg8 eM9 ?_
      refine e_aload_n aX8_draw_67 rfl ?_
      refine e_getR (r := 180) aX8_draw_68 fX8_24 ly_176 rfl ?_
      refine e_iload_n aX8_draw_71 rfl ?_
      obtain ⟨hg10, h⟩ := of_guard h
      refine e_iald aX8_draw_72 ly_180 hg10 ?_
      exact e_retI aX8_draw_73 rfl rfl (pI_of h)
    · refine e_if_ge (tgt := 22) aX8_draw_17 (by decide) (fun q => absurd q hc4) (fun _ => ?_)
      refine e_iload_n aX8_draw_20 rfl ?_
      exact e_retI aX8_draw_21 rfl rfl (pI_of h)
def s_X8_add_24 (i1 : Int32) (i2 : Int32) (k : Int32 → Mem → Option (Int32 × Mem)) (rec : Int32 → Mem → Option (Int32 × Mem)) (i3 : Int32) (M : Mem) : Option (Int32 × Mem) :=
  if 6 ≤ i3 then
    k i3 M
  else
    if 21 + i3 < 0 ∨ 297 ≤ (21 + i3).toNatClampNeg then none else
    (f_X8_lastAt i1 M).bind fun (r3 : Int32) =>
    if r3 + i3 < 0 ∨ 72 ≤ (r3 + i3).toNatClampNeg then none else
    if i3 < 0 ∨ 6 ≤ i3.toNatClampNeg then none else
    lt (um M 193 i3.toNatClampNeg ((M 177 (21 + i3).toNatClampNeg) + (M 182 (r3 + i3).toNatClampNeg))) fun (M6 : Mem) =>
    rec (i3 + 1) M6
def f_X8_add_24 (i1 : Int32) (i2 : Int32) (k : Int32 → Mem → Option (Int32 × Mem)) : Nat → Int32 → Mem → Option (Int32 × Mem)
  | 0 => fun _ _ => none
  | n + 1 => fun i3 M => s_X8_add_24 i1 i2 k (f_X8_add_24 i1 i2 k n) i3 M
set_option maxRecDepth 100000 in
set_option maxHeartbeats 4000000 in
theorem w_X8_add_24 (l : Launch) (x : WX) {i1 : Int32} {i2 : Int32} {k : Int32 → Mem → Option (Int32 × Mem)} {r : (Int32 × Mem)}  (K : ∀ (i3 : Int32) (M : Mem), k i3 M = some r → Ev l x false cX8_add RX8 (some FieldType.int) 4 3 0 0 (pI r.1 r.2) 64 [some (.ref (x.2.2.1 + 176)), some (.int i1), some (.int i2), some (.int i3)] [] LAY M) : ∀ (n : Nat) (i3 : Int32) (M : Mem), f_X8_add_24 i1 i2 k n i3 M = some r → Ev l x false cX8_add RX8 (some FieldType.int) 4 3 0 0 (pI r.1 r.2) 24 [some (.ref (x.2.2.1 + 176)), some (.int i1), some (.int i2), some (.int i3)] [] LAY M := by
  intro n
  induction n with
  | zero =>
    intro i3 M h
    exact nomatch (show (none : Option (Int32 × Mem)) = some r from h)
  | succ n ih =>
    intro i3 M h
    have h : s_X8_add_24 i1 i2 k (f_X8_add_24 i1 i2 k n) i3 M = some r := h
    unfold s_X8_add_24 at h
    refine e_iload_n aX8_add_24 rfl ?_
    refine e_bipush (v := 6) aX8_add_25 (by decide) ?_
    rcases of_ite h with ⟨hc1, h⟩ | ⟨hc1, h⟩
    · refine e_icmp_ge (tgt := 64) aX8_add_27 (by decide) (fun _ => ?_) (fun q => absurd hc1 q)
      exact K _ _ h
    · refine e_icmp_ge (tgt := 64) aX8_add_27 (by decide) (fun q => absurd q hc1) (fun _ => ?_)
      refine e_aload_n aX8_add_30 rfl ?_
      refine e_getR (r := 193) aX8_add_31 fX8_63 ly_176 rfl ?_
      refine e_iload_n aX8_add_34 rfl ?_
      refine e_aload_n aX8_add_35 rfl ?_
      refine e_getR (r := 177) aX8_add_36 fX8_13 ly_176 rfl ?_
      refine e_bipush (v := 21) aX8_add_39 (by decide) ?_
      refine e_iload_n aX8_add_41 rfl ?_
      refine e_iadd aX8_add_42 ?_
      obtain ⟨hg2, h⟩ := of_guard h
      refine e_iald aX8_add_43 ly_177 hg2 ?_
      refine e_aload_n aX8_add_44 rfl ?_
      refine e_getR (r := 182) aX8_add_45 fX8_30 ly_176 rfl ?_
      refine e_aload_n aX8_add_48 rfl ?_
      refine e_iload_n aX8_add_49 rfl ?_
      obtain ⟨r3, hr3, h⟩ := of_bind h
      refine e_VI [.ref (x.2.2.1 + 182), .int (M 177 (21 + i3).toNatClampNeg), .int i3, .ref (x.2.2.1 + 193)] aX8_add_50 co_X8_lastAt mX8_274 ly_176 rfl rfl (c_X8_lastAt l x hr3) rfl ⟨by decide, by decide⟩ (Nat.le_of_ble_eq_true rfl) rfl ?_
      refine e_iload_n aX8_add_53 rfl ?_
      refine e_iadd aX8_add_54 ?_
      obtain ⟨hg4, h⟩ := of_guard h
      refine e_iald aX8_add_55 ly_182 hg4 ?_
      refine e_iadd aX8_add_56 ?_
      obtain ⟨hg5, h⟩ := of_guard h
      obtain ⟨M6, eM6, h⟩ := of_lt h
      refine e_ist aX8_add_57 ly_193 hg5 eM6 ?_
      refine e_iinc (v := i3 + 1) (L2 := [some (.ref (x.2.2.1 + 176)), some (.int i1), some (.int i2), some (.int (i3 + 1))]) aX8_add_58 rfl rfl ⟨by decide, rfl⟩ rfl ?_
      refine e_goto (tgt := 24) aX8_add_61 (by decide) ?_
      exact ih _ _ h
def f_X8_add (i1 : Int32) (M : Mem) : Option (Int32 × Mem) :=
  (f_X8_isShelf i1 M).bind fun (r1 : Int32) =>
  if r1 = 0 then
    some ((-1000001), M)
  else
    (f_X8_finds i1 M).bind fun (r3 : Int32) =>
    if 0 ≤ r3 then
      f_X8_add_24 i1 r3 (fun (i3_5 : Int32) (M6 : Mem) =>
        (f_X8_becomes M6).bind fun (q7 : Int32 × Mem) =>
        if q7.1 = 0 then
          some ((-1000003), q7.2)
        else
          if (21 : Int32) < 0 ∨ 297 ≤ (21 : Int32).toNatClampNeg then none else
          some (q7.2 177 (21 : Int32).toNatClampNeg, q7.2)) FU 0 M
    else
      some (r3, M)
set_option maxRecDepth 100000 in
set_option maxHeartbeats 4000000 in
theorem c_X8_add (l : Launch) (x : WX) {i1 : Int32} {M : Mem} {r : (Int32 × Mem)}  (h : f_X8_add i1 M = some r) : Mt l x false yX8_add cX8_add 4 (some FieldType.int) 3 0 0 [.ref (x.2.2.1 + 176), .int i1] LAY M (pI r.1 r.2) := by
  refine mt_of (L0 := [some (.ref (x.2.2.1 + 176)), some (.int i1), none, none]) (by decide +kernel) rfl (Nat.le_of_ble_eq_true rfl) (lvA_of 2 rfl) ?_
  unfold f_X8_add at h
  refine e_iload_n aX8_add_0 rfl ?_
  obtain ⟨r1, hr1, h⟩ := of_bind h
  refine e_SI [] aX8_add_1 co_X8_isShelf mX8_264 (c_X8_isShelf l x hr1) rfl ⟨by decide, by decide⟩ (Nat.le_of_ble_eq_true rfl) rfl ?_
  rcases of_ite h with ⟨hc2, h⟩ | ⟨hc2, h⟩
  · refine e_if_ne (tgt := 10) aX8_add_4 (by decide) (fun q => absurd hc2 q) (fun _ => ?_)
    refine e_ldc aX8_add_7 kX8_168 ?_
    exact e_retI aX8_add_9 rfl rfl (pI_of h)
  · refine e_if_ne (tgt := 10) aX8_add_4 (by decide) (fun _ => ?_) (fun q => absurd q hc2)
    refine e_aload_n aX8_add_10 rfl ?_
    refine e_iload_n aX8_add_11 rfl ?_
    obtain ⟨r3, hr3, h⟩ := of_bind h
    refine e_VI [] aX8_add_12 co_X8_finds mX8_271 ly_176 rfl rfl (c_X8_finds l x hr3) rfl ⟨by decide, by decide⟩ (Nat.le_of_ble_eq_true rfl) rfl ?_
    refine e_istore_n (L2 := [some (.ref (x.2.2.1 + 176)), some (.int i1), some (.int r3), none]) aX8_add_15 ⟨by decide, rfl⟩ rfl ?_
    refine e_iload_n aX8_add_16 rfl ?_
    rcases of_ite h with ⟨hc4, h⟩ | ⟨hc4, h⟩
    · refine e_if_ge (tgt := 22) aX8_add_17 (by decide) (fun _ => ?_) (fun q => absurd hc4 q)
      refine e_iconst (v := 0) aX8_add_22 (by decide) ?_
      refine e_istore_n (L2 := [some (.ref (x.2.2.1 + 176)), some (.int i1), some (.int r3), some (.int 0)]) aX8_add_23 ⟨by decide, rfl⟩ rfl ?_
      refine w_X8_add_24 l x  (fun i3_5 M6 h => ?_) FU _ _ h
      refine e_aload_n aX8_add_64 rfl ?_
      obtain ⟨q7, hq7, h⟩ := of_bind h
      refine e_VI [] aX8_add_65 co_X8_becomes mX8_234 ly_176 rfl rfl (c_X8_becomes l x hq7) rfl ⟨by decide, by decide⟩ (Nat.le_of_ble_eq_true rfl) rfl ?_
      rcases of_ite h with ⟨hc8, h⟩ | ⟨hc8, h⟩
      · refine e_if_eq (tgt := 81) aX8_add_68 (by decide) (fun _ => ?_) (fun q => absurd hc8 q)
        refine e_ldc aX8_add_81 kX8_161 ?_
        exact e_retI aX8_add_83 rfl rfl (pI_of h)
      · refine e_if_eq (tgt := 81) aX8_add_68 (by decide) (fun q => absurd q hc8) (fun _ => ?_)
        refine e_aload_n aX8_add_71 rfl ?_
        refine e_getR (r := 177) aX8_add_72 fX8_13 ly_176 rfl ?_
        refine e_bipush (v := 21) aX8_add_75 (by decide) ?_
        obtain ⟨hg9, h⟩ := of_guard h
        refine e_iald aX8_add_77 ly_177 hg9 ?_
        refine e_goto (tgt := 83) aX8_add_78 (by decide) ?_
        exact e_retI aX8_add_83 rfl rfl (pI_of h)
    · refine e_if_ge (tgt := 22) aX8_add_17 (by decide) (fun q => absurd q hc4) (fun _ => ?_)
      refine e_iload_n aX8_add_20 rfl ?_
      exact e_retI aX8_add_21 rfl rfl (pI_of h)
def f_X8_euler (i1 : Int32) (i2 : Int32) (M : Mem) : Option Int32 :=
  (f_X8_isShelf i1 M).bind fun (r1 : Int32) =>
  if r1 = 0 then
    some (-1000001)
  else
    (f_X8_in i2.toInt64 0 2 M).bind fun (r3 : Int32) =>
    if r3 = 0 then
      some (-1000002)
    else
      (f_X8_finds i1 M).bind fun (r5 : Int32) =>
      if 0 ≤ r5 then
        (f_X8_lastAt i1 M).bind fun (r7 : Int32) =>
        (f_X8_form 177 21 182 r7 M).bind fun (r8 : Int32) =>
        (f_X8_lastAt i1 M).bind fun (r9 : Int32) =>
        (f_X8_form 182 r9 177 21 M).bind fun (r10 : Int32) =>
        if i2 = 0 then
          some r8
        else
          if i2 = 1 then
            some r10
          else
            some (r8 + r10)
      else
        some r5
set_option maxRecDepth 100000 in
set_option maxHeartbeats 4000000 in
theorem c_X8_euler (l : Launch) (x : WX) {i1 : Int32} {i2 : Int32} {M : Mem} {r : Int32}  (h : f_X8_euler i1 i2 M = some r) : Mt l x false yX8_euler cX8_euler 6 (some FieldType.int) 2 0 0 [.ref (x.2.2.1 + 176), .int i1, .int i2] LAY M (pI r M) := by
  refine mt_of (L0 := [some (.ref (x.2.2.1 + 176)), some (.int i1), some (.int i2), none, none, none]) (by decide +kernel) rfl (Nat.le_of_ble_eq_true rfl) (lvA_of 3 rfl) ?_
  unfold f_X8_euler at h
  refine e_iload_n aX8_euler_0 rfl ?_
  obtain ⟨r1, hr1, h⟩ := of_bind h
  refine e_SI [] aX8_euler_1 co_X8_isShelf mX8_264 (c_X8_isShelf l x hr1) rfl ⟨by decide, by decide⟩ (Nat.le_of_ble_eq_true rfl) rfl ?_
  rcases of_ite h with ⟨hc2, h⟩ | ⟨hc2, h⟩
  · refine e_if_ne (tgt := 10) aX8_euler_4 (by decide) (fun q => absurd hc2 q) (fun _ => ?_)
    refine e_ldc aX8_euler_7 kX8_168 ?_
    exact e_retI aX8_euler_9 rfl rfl (pI_ro h)
  · refine e_if_ne (tgt := 10) aX8_euler_4 (by decide) (fun _ => ?_) (fun q => absurd q hc2)
    refine e_iload_n aX8_euler_10 rfl ?_
    refine e_i2l aX8_euler_11 ?_
    refine e_lconst (v := 0) aX8_euler_12 (by decide) ?_
    refine e_ldc2_w aX8_euler_13 kX8_256 ?_
    obtain ⟨r3, hr3, h⟩ := of_bind h
    refine e_SI [] aX8_euler_16 co_X8_in mX8_72 (c_X8_in l x hr3) rfl ⟨by decide, by decide⟩ (Nat.le_of_ble_eq_true rfl) rfl ?_
    rcases of_ite h with ⟨hc4, h⟩ | ⟨hc4, h⟩
    · refine e_if_ne (tgt := 25) aX8_euler_19 (by decide) (fun q => absurd hc4 q) (fun _ => ?_)
      refine e_ldc aX8_euler_22 kX8_78 ?_
      exact e_retI aX8_euler_24 rfl rfl (pI_ro h)
    · refine e_if_ne (tgt := 25) aX8_euler_19 (by decide) (fun _ => ?_) (fun q => absurd q hc4)
      refine e_aload_n aX8_euler_25 rfl ?_
      refine e_iload_n aX8_euler_26 rfl ?_
      obtain ⟨r5, hr5, h⟩ := of_bind h
      refine e_VI [] aX8_euler_27 co_X8_finds mX8_271 ly_176 rfl rfl (c_X8_finds l x hr5) rfl ⟨by decide, by decide⟩ (Nat.le_of_ble_eq_true rfl) rfl ?_
      refine e_istore_n (L2 := [some (.ref (x.2.2.1 + 176)), some (.int i1), some (.int i2), some (.int r5), none, none]) aX8_euler_30 ⟨by decide, rfl⟩ rfl ?_
      refine e_iload_n aX8_euler_31 rfl ?_
      rcases of_ite h with ⟨hc6, h⟩ | ⟨hc6, h⟩
      · refine e_if_ge (tgt := 37) aX8_euler_32 (by decide) (fun _ => ?_) (fun q => absurd hc6 q)
        refine e_aload_n aX8_euler_37 rfl ?_
        refine e_aload_n aX8_euler_38 rfl ?_
        refine e_getR (r := 177) aX8_euler_39 fX8_13 ly_176 rfl ?_
        refine e_bipush (v := 21) aX8_euler_42 (by decide) ?_
        refine e_aload_n aX8_euler_44 rfl ?_
        refine e_getR (r := 182) aX8_euler_45 fX8_30 ly_176 rfl ?_
        refine e_aload_n aX8_euler_48 rfl ?_
        refine e_iload_n aX8_euler_49 rfl ?_
        obtain ⟨r7, hr7, h⟩ := of_bind h
        refine e_VI [.ref (x.2.2.1 + 182), .int 21, .ref (x.2.2.1 + 177), .ref (x.2.2.1 + 176)] aX8_euler_50 co_X8_lastAt mX8_274 ly_176 rfl rfl (c_X8_lastAt l x hr7) rfl ⟨by decide, by decide⟩ (Nat.le_of_ble_eq_true rfl) rfl ?_
        obtain ⟨r8, hr8, h⟩ := of_bind h
        refine e_VI [] aX8_euler_53 co_X8_form mX8_191 ly_176 rfl rfl (c_X8_form l x ia_177 ia_182 hr8) rfl ⟨by decide, by decide⟩ (Nat.le_of_ble_eq_true rfl) rfl ?_
        refine e_istore (L2 := [some (.ref (x.2.2.1 + 176)), some (.int i1), some (.int i2), some (.int r5), some (.int r8), none]) aX8_euler_56 ⟨by decide, rfl⟩ rfl ?_
        refine e_aload_n aX8_euler_58 rfl ?_
        refine e_aload_n aX8_euler_59 rfl ?_
        refine e_getR (r := 182) aX8_euler_60 fX8_30 ly_176 rfl ?_
        refine e_aload_n aX8_euler_63 rfl ?_
        refine e_iload_n aX8_euler_64 rfl ?_
        obtain ⟨r9, hr9, h⟩ := of_bind h
        refine e_VI [.ref (x.2.2.1 + 182), .ref (x.2.2.1 + 176)] aX8_euler_65 co_X8_lastAt mX8_274 ly_176 rfl rfl (c_X8_lastAt l x hr9) rfl ⟨by decide, by decide⟩ (Nat.le_of_ble_eq_true rfl) rfl ?_
        refine e_aload_n aX8_euler_68 rfl ?_
        refine e_getR (r := 177) aX8_euler_69 fX8_13 ly_176 rfl ?_
        refine e_bipush (v := 21) aX8_euler_72 (by decide) ?_
        obtain ⟨r10, hr10, h⟩ := of_bind h
        refine e_VI [] aX8_euler_74 co_X8_form mX8_191 ly_176 rfl rfl (c_X8_form l x ia_182 ia_177 hr10) rfl ⟨by decide, by decide⟩ (Nat.le_of_ble_eq_true rfl) rfl ?_
        refine e_istore (L2 := [some (.ref (x.2.2.1 + 176)), some (.int i1), some (.int i2), some (.int r5), some (.int r8), some (.int r10)]) aX8_euler_77 ⟨by decide, rfl⟩ rfl ?_
        refine e_iload_n aX8_euler_79 rfl ?_
        rcases of_ite h with ⟨hc11, h⟩ | ⟨hc11, h⟩
        · refine e_if_ne (tgt := 88) aX8_euler_80 (by decide) (fun q => absurd hc11 q) (fun _ => ?_)
          refine e_iload aX8_euler_83 rfl ?_
          refine e_goto (tgt := 103) aX8_euler_85 (by decide) ?_
          exact e_retI aX8_euler_103 rfl rfl (pI_ro h)
        · refine e_if_ne (tgt := 88) aX8_euler_80 (by decide) (fun _ => ?_) (fun q => absurd q hc11)
          refine e_iload_n aX8_euler_88 rfl ?_
          refine e_iconst (v := 1) aX8_euler_89 (by decide) ?_
          rcases of_ite h with ⟨hc12, h⟩ | ⟨hc12, h⟩
          · refine e_icmp_ne (tgt := 98) aX8_euler_90 (by decide) (fun q => absurd hc12 q) (fun _ => ?_)
            refine e_iload aX8_euler_93 rfl ?_
            refine e_goto (tgt := 103) aX8_euler_95 (by decide) ?_
            exact e_retI aX8_euler_103 rfl rfl (pI_ro h)
          · refine e_icmp_ne (tgt := 98) aX8_euler_90 (by decide) (fun _ => ?_) (fun q => absurd q hc12)
            refine e_iload aX8_euler_98 rfl ?_
            refine e_iload aX8_euler_100 rfl ?_
            refine e_iadd aX8_euler_102 ?_
            exact e_retI aX8_euler_103 rfl rfl (pI_ro h)
      · refine e_if_ge (tgt := 37) aX8_euler_32 (by decide) (fun q => absurd q hc6) (fun _ => ?_)
        refine e_iload_n aX8_euler_35 rfl ?_
        exact e_retI aX8_euler_36 rfl rfl (pI_ro h)
def f_X8_drop (i1 : Int32) (M : Mem) : Option (Int32 × Mem) :=
  (f_X8_isShelf i1 M).bind fun (r1 : Int32) =>
  if r1 = 0 then
    some ((-1000001), M)
  else
    if i1 < 0 ∨ 3 ≤ i1.toNatClampNeg then none else
    lt (M 180 i1.toNatClampNeg) fun (v4 : Int32) =>
    if i1 < 0 ∨ 3 ≤ i1.toNatClampNeg then none else
    lt (um M 180 i1.toNatClampNeg (-1)) fun (M6 : Mem) =>
    if 0 ≤ v4 then
      some (v4, M6)
    else
      some ((-1000011), M6)
set_option maxRecDepth 100000 in
set_option maxHeartbeats 4000000 in
theorem c_X8_drop (l : Launch) (x : WX) {i1 : Int32} {M : Mem} {r : (Int32 × Mem)}  (h : f_X8_drop i1 M = some r) : Mt l x false yX8_drop cX8_drop 3 (some FieldType.int) 2 0 0 [.ref (x.2.2.1 + 176), .int i1] LAY M (pI r.1 r.2) := by
  refine mt_of (L0 := [some (.ref (x.2.2.1 + 176)), some (.int i1), none]) (by decide +kernel) rfl (Nat.le_of_ble_eq_true rfl) (lvA_of 1 rfl) ?_
  unfold f_X8_drop at h
  refine e_iload_n aX8_drop_0 rfl ?_
  obtain ⟨r1, hr1, h⟩ := of_bind h
  refine e_SI [] aX8_drop_1 co_X8_isShelf mX8_264 (c_X8_isShelf l x hr1) rfl ⟨by decide, by decide⟩ (Nat.le_of_ble_eq_true rfl) rfl ?_
  rcases of_ite h with ⟨hc2, h⟩ | ⟨hc2, h⟩
  · refine e_if_ne (tgt := 10) aX8_drop_4 (by decide) (fun q => absurd hc2 q) (fun _ => ?_)
    refine e_ldc aX8_drop_7 kX8_168 ?_
    exact e_retI aX8_drop_9 rfl rfl (pI_of h)
  · refine e_if_ne (tgt := 10) aX8_drop_4 (by decide) (fun _ => ?_) (fun q => absurd q hc2)
    refine e_aload_n aX8_drop_10 rfl ?_
    refine e_getR (r := 180) aX8_drop_11 fX8_24 ly_176 rfl ?_
    refine e_iload_n aX8_drop_14 rfl ?_
    obtain ⟨hg3, h⟩ := of_guard h
    refine e_iald aX8_drop_15 ly_180 hg3 ?_
    obtain ⟨v4, ev4, h⟩ := of_lt h
    refine e_nameI ev4 ?_
    refine e_istore_n (L2 := [some (.ref (x.2.2.1 + 176)), some (.int i1), some (.int v4)]) aX8_drop_16 ⟨by decide, rfl⟩ rfl ?_
    refine e_aload_n aX8_drop_17 rfl ?_
    refine e_getR (r := 180) aX8_drop_18 fX8_24 ly_176 rfl ?_
    refine e_iload_n aX8_drop_21 rfl ?_
    refine e_iconst (v := (-1)) aX8_drop_22 (by decide) ?_
    obtain ⟨hg5, h⟩ := of_guard h
    obtain ⟨M6, eM6, h⟩ := of_lt h
    refine e_ist aX8_drop_23 ly_180 hg5 eM6 ?_
    refine e_iload_n aX8_drop_24 rfl ?_
    rcases of_ite h with ⟨hc7, h⟩ | ⟨hc7, h⟩
    · refine e_if_ge (tgt := 34) aX8_drop_25 (by decide) (fun _ => ?_) (fun q => absurd hc7 q)
      refine e_iload_n aX8_drop_34 rfl ?_
      exact e_retI aX8_drop_35 rfl rfl (pI_of h)
    · refine e_if_ge (tgt := 34) aX8_drop_25 (by decide) (fun q => absurd q hc7) (fun _ => ?_)
      refine e_ldc_w aX8_drop_28 kX8_267 ?_
      refine e_goto (tgt := 35) aX8_drop_31 (by decide) ?_
      exact e_retI aX8_drop_35 rfl rfl (pI_of h)
def s_X8_deepest_4  (M : Mem) (k : Int32 → Int32 → Option Int32) (rec : Int32 → Int32 → Option Int32) (i1 : Int32) (i2 : Int32) : Option Int32 :=
  if M 176 12 ≤ i2 then
    k i1 i2
  else
    (f_X8_steps i2 M).bind fun (r2 : Int32) =>
    if r2 ≤ i1 then
      rec i1 (i2 + 1)
    else
      (f_X8_steps i2 M).bind fun (r4 : Int32) =>
      rec r4 (i2 + 1)
def f_X8_deepest_4  (M : Mem) (k : Int32 → Int32 → Option Int32) : Nat → Int32 → Int32 → Option Int32
  | 0 => fun _ _ => none
  | n + 1 => fun i1 i2 => s_X8_deepest_4  M k (f_X8_deepest_4  M k n) i1 i2
set_option maxRecDepth 100000 in
set_option maxHeartbeats 4000000 in
theorem w_X8_deepest_4 (l : Launch) (x : WX)  {M : Mem} {k : Int32 → Int32 → Option Int32} {r : Int32}  (K : ∀ (i1 : Int32) (i2 : Int32), k i1 i2 = some r → Ev l x false cX8_deepest RX8 (some FieldType.int) 3 1 0 0 (pI r M) 37 [some (.ref (x.2.2.1 + 176)), some (.int i1), some (.int i2)] [] LAY M) : ∀ (n : Nat) (i1 : Int32) (i2 : Int32), f_X8_deepest_4  M k n i1 i2 = some r → Ev l x false cX8_deepest RX8 (some FieldType.int) 3 1 0 0 (pI r M) 4 [some (.ref (x.2.2.1 + 176)), some (.int i1), some (.int i2)] [] LAY M := by
  intro n
  induction n with
  | zero =>
    intro i1 i2 h
    exact nomatch (show (none : Option Int32) = some r from h)
  | succ n ih =>
    intro i1 i2 h
    have h : s_X8_deepest_4  M k (f_X8_deepest_4  M k n) i1 i2 = some r := h
    unfold s_X8_deepest_4 at h
    refine e_iload_n aX8_deepest_4 rfl ?_
    refine e_aload_n aX8_deepest_5 rfl ?_
    refine e_getI aX8_deepest_6 fX8_195 ly_176 rfl ?_
    rcases of_ite h with ⟨hc1, h⟩ | ⟨hc1, h⟩
    · refine e_icmp_ge (tgt := 37) aX8_deepest_9 (by decide) (fun _ => ?_) (fun q => absurd hc1 q)
      exact K _ _ h
    · refine e_icmp_ge (tgt := 37) aX8_deepest_9 (by decide) (fun q => absurd q hc1) (fun _ => ?_)
      refine e_aload_n aX8_deepest_12 rfl ?_
      refine e_iload_n aX8_deepest_13 rfl ?_
      obtain ⟨r2, hr2, h⟩ := of_bind h
      refine e_VI [] aX8_deepest_14 co_X8_steps mX8_244 ly_176 rfl rfl (c_X8_steps l x hr2) rfl ⟨by decide, by decide⟩ (Nat.le_of_ble_eq_true rfl) rfl ?_
      refine e_iload_n aX8_deepest_17 rfl ?_
      rcases of_ite h with ⟨hc3, h⟩ | ⟨hc3, h⟩
      · refine e_icmp_le (tgt := 29) aX8_deepest_18 (by decide) (fun _ => ?_) (fun q => absurd hc3 q)
        refine e_iload_n aX8_deepest_29 rfl ?_
        refine e_istore_n (L2 := [some (.ref (x.2.2.1 + 176)), some (.int i1), some (.int i2)]) aX8_deepest_30 ⟨by decide, rfl⟩ rfl ?_
        refine e_iinc (v := i2 + 1) (L2 := [some (.ref (x.2.2.1 + 176)), some (.int i1), some (.int (i2 + 1))]) aX8_deepest_31 rfl rfl ⟨by decide, rfl⟩ rfl ?_
        refine e_goto (tgt := 4) aX8_deepest_34 (by decide) ?_
        exact ih _ _ h
      · refine e_icmp_le (tgt := 29) aX8_deepest_18 (by decide) (fun q => absurd q hc3) (fun _ => ?_)
        refine e_aload_n aX8_deepest_21 rfl ?_
        refine e_iload_n aX8_deepest_22 rfl ?_
        obtain ⟨r4, hr4, h⟩ := of_bind h
        refine e_VI [] aX8_deepest_23 co_X8_steps mX8_244 ly_176 rfl rfl (c_X8_steps l x hr4) rfl ⟨by decide, by decide⟩ (Nat.le_of_ble_eq_true rfl) rfl ?_
        refine e_goto (tgt := 30) aX8_deepest_26 (by decide) ?_
        refine e_istore_n (L2 := [some (.ref (x.2.2.1 + 176)), some (.int r4), some (.int i2)]) aX8_deepest_30 ⟨by decide, rfl⟩ rfl ?_
        refine e_iinc (v := i2 + 1) (L2 := [some (.ref (x.2.2.1 + 176)), some (.int r4), some (.int (i2 + 1))]) aX8_deepest_31 rfl rfl ⟨by decide, rfl⟩ rfl ?_
        refine e_goto (tgt := 4) aX8_deepest_34 (by decide) ?_
        exact ih _ _ h
def f_X8_deepest  (M : Mem) : Option Int32 :=
  f_X8_deepest_4  M (fun (i1_1 : Int32) (i2_2 : Int32) =>
    some i1_1) FU 0 0
set_option maxRecDepth 100000 in
set_option maxHeartbeats 4000000 in
theorem c_X8_deepest (l : Launch) (x : WX)  {M : Mem} {r : Int32}  (h : f_X8_deepest  M = some r) : Mt l x false yX8_deepest cX8_deepest 3 (some FieldType.int) 1 0 0 [.ref (x.2.2.1 + 176)] LAY M (pI r M) := by
  refine mt_of (L0 := [some (.ref (x.2.2.1 + 176)), none, none]) (by decide +kernel) rfl (Nat.le_of_ble_eq_true rfl) (lvA_of 2 rfl) ?_
  unfold f_X8_deepest at h
  refine e_iconst (v := 0) aX8_deepest_0 (by decide) ?_
  refine e_istore_n (L2 := [some (.ref (x.2.2.1 + 176)), some (.int 0), none]) aX8_deepest_1 ⟨by decide, rfl⟩ rfl ?_
  refine e_iconst (v := 0) aX8_deepest_2 (by decide) ?_
  refine e_istore_n (L2 := [some (.ref (x.2.2.1 + 176)), some (.int 0), some (.int 0)]) aX8_deepest_3 ⟨by decide, rfl⟩ rfl ?_
  refine w_X8_deepest_4 l x  (fun i1_1 i2_2 h => ?_) FU _ _ h
  refine e_iload_n aX8_deepest_37 rfl ?_
  exact e_retI aX8_deepest_38 rfl rfl (pI_ro h)
def s_X8_allWays_4  (M : Mem) (k : Int32 → Int32 → Option Int32) (rec : Int32 → Int32 → Option Int32) (i1 : Int32) (i2 : Int32) : Option Int32 :=
  if 36 ≤ i2 then
    k i1 i2
  else
    if M 176 0 ≤ i2 / 6 then
      lt (i1 + 0) fun (v3 : Int32) =>
      rec v3 (i2 + 1)
    else
      if M 176 0 ≤ i2 - i2 / 6 * 6 then
        lt (i1 + 0) fun (v5 : Int32) =>
        rec v5 (i2 + 1)
      else
        if i2 < 0 ∨ 36 ≤ i2.toNatClampNeg then none else
        lt (i1 + (M 183 i2.toNatClampNeg)) fun (v7 : Int32) =>
        rec v7 (i2 + 1)
def f_X8_allWays_4  (M : Mem) (k : Int32 → Int32 → Option Int32) : Nat → Int32 → Int32 → Option Int32
  | 0 => fun _ _ => none
  | n + 1 => fun i1 i2 => s_X8_allWays_4  M k (f_X8_allWays_4  M k n) i1 i2
set_option maxRecDepth 100000 in
set_option maxHeartbeats 4000000 in
theorem w_X8_allWays_4 (l : Launch) (x : WX)  {M : Mem} {k : Int32 → Int32 → Option Int32} {r : Int32}  (K : ∀ (i1 : Int32) (i2 : Int32), k i1 i2 = some r → Ev l x false cX8_allWays RX8 (some FieldType.int) 3 0 0 0 (pI r M) 51 [some (.ref (x.2.2.1 + 176)), some (.int i1), some (.int i2)] [] LAY M) : ∀ (n : Nat) (i1 : Int32) (i2 : Int32), f_X8_allWays_4  M k n i1 i2 = some r → Ev l x false cX8_allWays RX8 (some FieldType.int) 3 0 0 0 (pI r M) 4 [some (.ref (x.2.2.1 + 176)), some (.int i1), some (.int i2)] [] LAY M := by
  intro n
  induction n with
  | zero =>
    intro i1 i2 h
    exact nomatch (show (none : Option Int32) = some r from h)
  | succ n ih =>
    intro i1 i2 h
    have h : s_X8_allWays_4  M k (f_X8_allWays_4  M k n) i1 i2 = some r := h
    unfold s_X8_allWays_4 at h
    refine e_iload_n aX8_allWays_4 rfl ?_
    refine e_bipush (v := 36) aX8_allWays_5 (by decide) ?_
    rcases of_ite h with ⟨hc1, h⟩ | ⟨hc1, h⟩
    · refine e_icmp_ge (tgt := 51) aX8_allWays_7 (by decide) (fun _ => ?_) (fun q => absurd hc1 q)
      exact K _ _ h
    · refine e_icmp_ge (tgt := 51) aX8_allWays_7 (by decide) (fun q => absurd q hc1) (fun _ => ?_)
      refine e_iload_n aX8_allWays_10 rfl ?_
      refine e_iload_n aX8_allWays_11 rfl ?_
      refine e_bipush (v := 6) aX8_allWays_12 (by decide) ?_
      refine e_idiv aX8_allWays_14 (by decide) ?_
      refine e_aload_n aX8_allWays_15 rfl ?_
      refine e_getI aX8_allWays_16 fX8_7 ly_176 rfl ?_
      rcases of_ite h with ⟨hc2, h⟩ | ⟨hc2, h⟩
      · refine e_icmp_ge (tgt := 42) aX8_allWays_19 (by decide) (fun _ => ?_) (fun q => absurd hc2 q)
        refine e_iconst (v := 0) aX8_allWays_42 (by decide) ?_
        refine e_iadd aX8_allWays_43 ?_
        obtain ⟨v3, ev3, h⟩ := of_lt h
        refine e_nameI ev3 ?_
        refine e_istore_n (L2 := [some (.ref (x.2.2.1 + 176)), some (.int v3), some (.int i2)]) aX8_allWays_44 ⟨by decide, rfl⟩ rfl ?_
        refine e_iinc (v := i2 + 1) (L2 := [some (.ref (x.2.2.1 + 176)), some (.int v3), some (.int (i2 + 1))]) aX8_allWays_45 rfl rfl ⟨by decide, rfl⟩ rfl ?_
        refine e_goto (tgt := 4) aX8_allWays_48 (by decide) ?_
        exact ih _ _ h
      · refine e_icmp_ge (tgt := 42) aX8_allWays_19 (by decide) (fun q => absurd q hc2) (fun _ => ?_)
        refine e_iload_n aX8_allWays_22 rfl ?_
        refine e_bipush (v := 6) aX8_allWays_23 (by decide) ?_
        refine e_irem aX8_allWays_25 (by decide) ?_
        refine e_aload_n aX8_allWays_26 rfl ?_
        refine e_getI aX8_allWays_27 fX8_7 ly_176 rfl ?_
        rcases of_ite h with ⟨hc4, h⟩ | ⟨hc4, h⟩
        · refine e_icmp_ge (tgt := 42) aX8_allWays_30 (by decide) (fun _ => ?_) (fun q => absurd hc4 q)
          refine e_iconst (v := 0) aX8_allWays_42 (by decide) ?_
          refine e_iadd aX8_allWays_43 ?_
          obtain ⟨v5, ev5, h⟩ := of_lt h
          refine e_nameI ev5 ?_
          refine e_istore_n (L2 := [some (.ref (x.2.2.1 + 176)), some (.int v5), some (.int i2)]) aX8_allWays_44 ⟨by decide, rfl⟩ rfl ?_
          refine e_iinc (v := i2 + 1) (L2 := [some (.ref (x.2.2.1 + 176)), some (.int v5), some (.int (i2 + 1))]) aX8_allWays_45 rfl rfl ⟨by decide, rfl⟩ rfl ?_
          refine e_goto (tgt := 4) aX8_allWays_48 (by decide) ?_
          exact ih _ _ h
        · refine e_icmp_ge (tgt := 42) aX8_allWays_30 (by decide) (fun q => absurd q hc4) (fun _ => ?_)
          refine e_aload_n aX8_allWays_33 rfl ?_
          refine e_getR (r := 183) aX8_allWays_34 fX8_33 ly_176 rfl ?_
          refine e_iload_n aX8_allWays_37 rfl ?_
          obtain ⟨hg6, h⟩ := of_guard h
          refine e_iald aX8_allWays_38 ly_183 hg6 ?_
          refine e_goto (tgt := 43) aX8_allWays_39 (by decide) ?_
          refine e_iadd aX8_allWays_43 ?_
          obtain ⟨v7, ev7, h⟩ := of_lt h
          refine e_nameI ev7 ?_
          refine e_istore_n (L2 := [some (.ref (x.2.2.1 + 176)), some (.int v7), some (.int i2)]) aX8_allWays_44 ⟨by decide, rfl⟩ rfl ?_
          refine e_iinc (v := i2 + 1) (L2 := [some (.ref (x.2.2.1 + 176)), some (.int v7), some (.int (i2 + 1))]) aX8_allWays_45 rfl rfl ⟨by decide, rfl⟩ rfl ?_
          refine e_goto (tgt := 4) aX8_allWays_48 (by decide) ?_
          exact ih _ _ h
def f_X8_allWays  (M : Mem) : Option Int32 :=
  f_X8_allWays_4  M (fun (i1_1 : Int32) (i2_2 : Int32) =>
    some i1_1) FU 0 0
set_option maxRecDepth 100000 in
set_option maxHeartbeats 4000000 in
theorem c_X8_allWays (l : Launch) (x : WX)  {M : Mem} {r : Int32}  (h : f_X8_allWays  M = some r) : Mt l x false yX8_allWays cX8_allWays 3 (some FieldType.int) 0 0 0 [.ref (x.2.2.1 + 176)] LAY M (pI r M) := by
  refine mt_of (L0 := [some (.ref (x.2.2.1 + 176)), none, none]) (by decide +kernel) rfl (Nat.le_of_ble_eq_true rfl) (lvA_of 2 rfl) ?_
  unfold f_X8_allWays at h
  refine e_iconst (v := 0) aX8_allWays_0 (by decide) ?_
  refine e_istore_n (L2 := [some (.ref (x.2.2.1 + 176)), some (.int 0), none]) aX8_allWays_1 ⟨by decide, rfl⟩ rfl ?_
  refine e_iconst (v := 0) aX8_allWays_2 (by decide) ?_
  refine e_istore_n (L2 := [some (.ref (x.2.2.1 + 176)), some (.int 0), some (.int 0)]) aX8_allWays_3 ⟨by decide, rfl⟩ rfl ?_
  refine w_X8_allWays_4 l x  (fun i1_1 i2_2 h => ?_) FU _ _ h
  refine e_iload_n aX8_allWays_51 rfl ?_
  exact e_retI aX8_allWays_52 rfl rfl (pI_ro h)
def s_X8_hangs_12 (i2 : Int32) (M : Mem) (k : Int32 → Int32 → Option Int32) (rec : Int32 → Int32 → Option Int32) (i1 : Int32) (i3 : Int32) : Option Int32 :=
  if (0 : Int32) < 0 ∨ 297 ≤ (0 : Int32).toNatClampNeg then none else
  if M 177 (0 : Int32).toNatClampNeg ≤ i3 then
    k i1 i3
  else
    if 1 + i3 < 0 ∨ 297 ≤ (1 + i3).toNatClampNeg then none else
    if 11 + i3 < 0 ∨ 297 ≤ (11 + i3).toNatClampNeg then none else
    lt (((i1 >>> ((M 177 (1 + i3).toNatClampNeg) &&& 31)) ||| (i1 >>> ((M 177 (11 + i3).toNatClampNeg) &&& 31))) &&& 1) fun (v5 : Int32) =>
    if 1 + i3 < 0 ∨ 297 ≤ (1 + i3).toNatClampNeg then none else
    if 11 + i3 < 0 ∨ 297 ≤ (11 + i3).toNatClampNeg then none else
    lt (i1 ||| ((v5 <<< ((M 177 (1 + i3).toNatClampNeg) &&& 31)) ||| (v5 <<< ((M 177 (11 + i3).toNatClampNeg) &&& 31)))) fun (v8 : Int32) =>
    rec v8 (i3 + 1)
def f_X8_hangs_12 (i2 : Int32) (M : Mem) (k : Int32 → Int32 → Option Int32) : Nat → Int32 → Int32 → Option Int32
  | 0 => fun _ _ => none
  | n + 1 => fun i1 i3 => s_X8_hangs_12 i2 M k (f_X8_hangs_12 i2 M k n) i1 i3
set_option maxRecDepth 100000 in
set_option maxHeartbeats 4000000 in
theorem w_X8_hangs_12 (l : Launch) (x : WX) {i2 : Int32} {M : Mem} {k : Int32 → Int32 → Option Int32} {r : Int32}  (K : ∀ (i1 : Int32) (i3 : Int32), k i1 i3 = some r → Ev l x false cX8_hangs RX8 (some FieldType.int) 5 0 0 0 (pI r M) 81 [some (.ref (x.2.2.1 + 176)), some (.int i1), some (.int i2), some (.int i3), none] [] LAY M) : ∀ (n : Nat) (i1 : Int32) (i3 : Int32), f_X8_hangs_12 i2 M k n i1 i3 = some r → Ev l x false cX8_hangs RX8 (some FieldType.int) 5 0 0 0 (pI r M) 12 [some (.ref (x.2.2.1 + 176)), some (.int i1), some (.int i2), some (.int i3), none] [] LAY M := by
  intro n
  induction n with
  | zero =>
    intro i1 i3 h
    exact nomatch (show (none : Option Int32) = some r from h)
  | succ n ih =>
    intro i1 i3 h
    have h : s_X8_hangs_12 i2 M k (f_X8_hangs_12 i2 M k n) i1 i3 = some r := h
    unfold s_X8_hangs_12 at h
    refine e_iload_n aX8_hangs_12 rfl ?_
    refine e_aload_n aX8_hangs_13 rfl ?_
    refine e_getR (r := 177) aX8_hangs_14 fX8_13 ly_176 rfl ?_
    refine e_iconst (v := 0) aX8_hangs_17 (by decide) ?_
    obtain ⟨hg1, h⟩ := of_guard h
    refine e_iald aX8_hangs_18 ly_177 hg1 ?_
    rcases of_ite h with ⟨hc2, h⟩ | ⟨hc2, h⟩
    · refine e_icmp_ge (tgt := 81) aX8_hangs_19 (by decide) (fun _ => ?_) (fun q => absurd hc2 q)
      exact K _ _ h
    · refine e_icmp_ge (tgt := 81) aX8_hangs_19 (by decide) (fun q => absurd q hc2) (fun _ => ?_)
      refine e_iload_n aX8_hangs_22 rfl ?_
      refine e_aload_n aX8_hangs_23 rfl ?_
      refine e_getR (r := 177) aX8_hangs_24 fX8_13 ly_176 rfl ?_
      refine e_iconst (v := 1) aX8_hangs_27 (by decide) ?_
      refine e_iload_n aX8_hangs_28 rfl ?_
      refine e_iadd aX8_hangs_29 ?_
      obtain ⟨hg3, h⟩ := of_guard h
      refine e_iald aX8_hangs_30 ly_177 hg3 ?_
      refine e_ishr aX8_hangs_31 ?_
      refine e_iload_n aX8_hangs_32 rfl ?_
      refine e_aload_n aX8_hangs_33 rfl ?_
      refine e_getR (r := 177) aX8_hangs_34 fX8_13 ly_176 rfl ?_
      refine e_bipush (v := 11) aX8_hangs_37 (by decide) ?_
      refine e_iload_n aX8_hangs_39 rfl ?_
      refine e_iadd aX8_hangs_40 ?_
      obtain ⟨hg4, h⟩ := of_guard h
      refine e_iald aX8_hangs_41 ly_177 hg4 ?_
      refine e_ishr aX8_hangs_42 ?_
      refine e_ior aX8_hangs_43 ?_
      refine e_iconst (v := 1) aX8_hangs_44 (by decide) ?_
      refine e_iand aX8_hangs_45 ?_
      obtain ⟨v5, ev5, h⟩ := of_lt h
      refine e_nameI ev5 ?_
      refine e_istore (L2 := [some (.ref (x.2.2.1 + 176)), some (.int i1), some (.int i2), some (.int i3), some (.int v5)]) aX8_hangs_46 ⟨by decide, rfl⟩ rfl ?_
      refine e_iload_n aX8_hangs_48 rfl ?_
      refine e_iload aX8_hangs_49 rfl ?_
      refine e_aload_n aX8_hangs_51 rfl ?_
      refine e_getR (r := 177) aX8_hangs_52 fX8_13 ly_176 rfl ?_
      refine e_iconst (v := 1) aX8_hangs_55 (by decide) ?_
      refine e_iload_n aX8_hangs_56 rfl ?_
      refine e_iadd aX8_hangs_57 ?_
      obtain ⟨hg6, h⟩ := of_guard h
      refine e_iald aX8_hangs_58 ly_177 hg6 ?_
      refine e_ishl aX8_hangs_59 ?_
      refine e_iload aX8_hangs_60 rfl ?_
      refine e_aload_n aX8_hangs_62 rfl ?_
      refine e_getR (r := 177) aX8_hangs_63 fX8_13 ly_176 rfl ?_
      refine e_bipush (v := 11) aX8_hangs_66 (by decide) ?_
      refine e_iload_n aX8_hangs_68 rfl ?_
      refine e_iadd aX8_hangs_69 ?_
      obtain ⟨hg7, h⟩ := of_guard h
      refine e_iald aX8_hangs_70 ly_177 hg7 ?_
      refine e_ishl aX8_hangs_71 ?_
      refine e_ior aX8_hangs_72 ?_
      refine e_ior aX8_hangs_73 ?_
      obtain ⟨v8, ev8, h⟩ := of_lt h
      refine e_nameI ev8 ?_
      refine e_istore_n (L2 := [some (.ref (x.2.2.1 + 176)), some (.int v8), some (.int i2), some (.int i3), some (.int v5)]) aX8_hangs_74 ⟨by decide, rfl⟩ rfl ?_
      refine e_iinc (v := i3 + 1) (L2 := [some (.ref (x.2.2.1 + 176)), some (.int v8), some (.int i2), some (.int (i3 + 1)), some (.int v5)]) aX8_hangs_75 rfl rfl ⟨by decide, rfl⟩ rfl ?_
      refine e_goto (tgt := 12) aX8_hangs_78 (by decide) ?_
      refine e_drop 4 (L2 := [some (.ref (x.2.2.1 + 176)), some (.int v8), some (.int i2), some (.int (i3 + 1)), none]) rfl ?_
      exact ih _ _ h
def s_X8_hangs_4  (M : Mem) (k : Int32 → Int32 → Option Int32) (rec : Int32 → Int32 → Option Int32) (i1 : Int32) (i2 : Int32) : Option Int32 :=
  if 6 ≤ i2 then
    k i1 i2
  else
    f_X8_hangs_12 i2 M (fun (i1_2 : Int32) (i3_3 : Int32) =>
      rec i1_2 (i2 + 1)) FU i1 0
def f_X8_hangs_4  (M : Mem) (k : Int32 → Int32 → Option Int32) : Nat → Int32 → Int32 → Option Int32
  | 0 => fun _ _ => none
  | n + 1 => fun i1 i2 => s_X8_hangs_4  M k (f_X8_hangs_4  M k n) i1 i2
set_option maxRecDepth 100000 in
set_option maxHeartbeats 4000000 in
theorem w_X8_hangs_4 (l : Launch) (x : WX)  {M : Mem} {k : Int32 → Int32 → Option Int32} {r : Int32}  (K : ∀ (i1 : Int32) (i2 : Int32), k i1 i2 = some r → Ev l x false cX8_hangs RX8 (some FieldType.int) 5 0 0 0 (pI r M) 87 [some (.ref (x.2.2.1 + 176)), some (.int i1), some (.int i2), none, none] [] LAY M) : ∀ (n : Nat) (i1 : Int32) (i2 : Int32), f_X8_hangs_4  M k n i1 i2 = some r → Ev l x false cX8_hangs RX8 (some FieldType.int) 5 0 0 0 (pI r M) 4 [some (.ref (x.2.2.1 + 176)), some (.int i1), some (.int i2), none, none] [] LAY M := by
  intro n
  induction n with
  | zero =>
    intro i1 i2 h
    exact nomatch (show (none : Option Int32) = some r from h)
  | succ n ih =>
    intro i1 i2 h
    have h : s_X8_hangs_4  M k (f_X8_hangs_4  M k n) i1 i2 = some r := h
    unfold s_X8_hangs_4 at h
    refine e_iload_n aX8_hangs_4 rfl ?_
    refine e_bipush (v := 6) aX8_hangs_5 (by decide) ?_
    rcases of_ite h with ⟨hc1, h⟩ | ⟨hc1, h⟩
    · refine e_icmp_ge (tgt := 87) aX8_hangs_7 (by decide) (fun _ => ?_) (fun q => absurd hc1 q)
      exact K _ _ h
    · refine e_icmp_ge (tgt := 87) aX8_hangs_7 (by decide) (fun q => absurd q hc1) (fun _ => ?_)
      refine e_iconst (v := 0) aX8_hangs_10 (by decide) ?_
      refine e_istore_n (L2 := [some (.ref (x.2.2.1 + 176)), some (.int i1), some (.int i2), some (.int 0), none]) aX8_hangs_11 ⟨by decide, rfl⟩ rfl ?_
      refine w_X8_hangs_12 l x  (fun i1_2 i3_3 h => ?_) FU _ _ h
      refine e_iinc (v := i2 + 1) (L2 := [some (.ref (x.2.2.1 + 176)), some (.int i1_2), some (.int (i2 + 1)), some (.int i3_3), none]) aX8_hangs_81 rfl rfl ⟨by decide, rfl⟩ rfl ?_
      refine e_goto (tgt := 4) aX8_hangs_84 (by decide) ?_
      refine e_drop 3 (L2 := [some (.ref (x.2.2.1 + 176)), some (.int i1_2), some (.int (i2 + 1)), none, none]) rfl ?_
      exact ih _ _ h
def f_X8_hangs  (M : Mem) : Option Int32 :=
  f_X8_hangs_4  M (fun (i1_1 : Int32) (i2_2 : Int32) =>
    if i1_1 = (1 <<< ((M 176 0) &&& 31)) - 1 then
      some 1
    else
      some 0) FU 1 0
set_option maxRecDepth 100000 in
set_option maxHeartbeats 4000000 in
theorem c_X8_hangs (l : Launch) (x : WX)  {M : Mem} {r : Int32}  (h : f_X8_hangs  M = some r) : Mt l x false yX8_hangs cX8_hangs 5 (some FieldType.int) 0 0 0 [.ref (x.2.2.1 + 176)] LAY M (pI r M) := by
  refine mt_of (L0 := [some (.ref (x.2.2.1 + 176)), none, none, none, none]) (by decide +kernel) rfl (Nat.le_of_ble_eq_true rfl) (lvA_of 4 rfl) ?_
  unfold f_X8_hangs at h
  refine e_iconst (v := 1) aX8_hangs_0 (by decide) ?_
  refine e_istore_n (L2 := [some (.ref (x.2.2.1 + 176)), some (.int 1), none, none, none]) aX8_hangs_1 ⟨by decide, rfl⟩ rfl ?_
  refine e_iconst (v := 0) aX8_hangs_2 (by decide) ?_
  refine e_istore_n (L2 := [some (.ref (x.2.2.1 + 176)), some (.int 1), some (.int 0), none, none]) aX8_hangs_3 ⟨by decide, rfl⟩ rfl ?_
  refine w_X8_hangs_4 l x  (fun i1_1 i2_2 h => ?_) FU _ _ h
  refine e_iload_n aX8_hangs_87 rfl ?_
  refine e_iconst (v := 1) aX8_hangs_88 (by decide) ?_
  refine e_aload_n aX8_hangs_89 rfl ?_
  refine e_getI aX8_hangs_90 fX8_7 ly_176 rfl ?_
  refine e_ishl aX8_hangs_93 ?_
  refine e_iconst (v := 1) aX8_hangs_94 (by decide) ?_
  refine e_isub aX8_hangs_95 ?_
  rcases of_ite h with ⟨hc3, h⟩ | ⟨hc3, h⟩
  · refine e_icmp_ne (tgt := 103) aX8_hangs_96 (by decide) (fun q => absurd hc3 q) (fun _ => ?_)
    refine e_iconst (v := 1) aX8_hangs_99 (by decide) ?_
    refine e_goto (tgt := 104) aX8_hangs_100 (by decide) ?_
    exact e_retI aX8_hangs_104 rfl rfl (pI_ro h)
  · refine e_icmp_ne (tgt := 103) aX8_hangs_96 (by decide) (fun _ => ?_) (fun q => absurd q hc3)
    refine e_iconst (v := 0) aX8_hangs_103 (by decide) ?_
    exact e_retI aX8_hangs_104 rfl rfl (pI_ro h)
def s_X8_ends_4 (i1 : Int32) (M : Mem) (k : Int32 → Int32 → Option Int32) (rec : Int32 → Int32 → Option Int32) (i2 : Int32) (i3 : Int32) : Option Int32 :=
  if M 176 0 ≤ i3 then
    k i2 i3
  else
    if i1 = 0 then
      (f_X8_comes i3 M).bind fun (r3 : Int32) =>
      if r3 = 0 then
        lt (i2 ||| (1 <<< (i3 &&& 31))) fun (v6 : Int32) =>
        rec v6 (i3 + 1)
      else
        lt (i2 ||| 0) fun (v5 : Int32) =>
        rec v5 (i3 + 1)
    else
      (f_X8_goes i3 M).bind fun (r7 : Int32) =>
      if r7 = 0 then
        lt (i2 ||| (1 <<< (i3 &&& 31))) fun (v10 : Int32) =>
        rec v10 (i3 + 1)
      else
        lt (i2 ||| 0) fun (v9 : Int32) =>
        rec v9 (i3 + 1)
def f_X8_ends_4 (i1 : Int32) (M : Mem) (k : Int32 → Int32 → Option Int32) : Nat → Int32 → Int32 → Option Int32
  | 0 => fun _ _ => none
  | n + 1 => fun i2 i3 => s_X8_ends_4 i1 M k (f_X8_ends_4 i1 M k n) i2 i3
set_option maxRecDepth 100000 in
set_option maxHeartbeats 4000000 in
theorem w_X8_ends_4 (l : Launch) (x : WX) {i1 : Int32} {M : Mem} {k : Int32 → Int32 → Option Int32} {r : Int32}  (K : ∀ (i2 : Int32) (i3 : Int32), k i2 i3 = some r → Ev l x false cX8_ends RX8 (some FieldType.int) 4 1 0 0 (pI r M) 48 [some (.ref (x.2.2.1 + 176)), some (.int i1), some (.int i2), some (.int i3)] [] LAY M) : ∀ (n : Nat) (i2 : Int32) (i3 : Int32), f_X8_ends_4 i1 M k n i2 i3 = some r → Ev l x false cX8_ends RX8 (some FieldType.int) 4 1 0 0 (pI r M) 4 [some (.ref (x.2.2.1 + 176)), some (.int i1), some (.int i2), some (.int i3)] [] LAY M := by
  intro n
  induction n with
  | zero =>
    intro i2 i3 h
    exact nomatch (show (none : Option Int32) = some r from h)
  | succ n ih =>
    intro i2 i3 h
    have h : s_X8_ends_4 i1 M k (f_X8_ends_4 i1 M k n) i2 i3 = some r := h
    unfold s_X8_ends_4 at h
    refine e_iload_n aX8_ends_4 rfl ?_
    refine e_aload_n aX8_ends_5 rfl ?_
    refine e_getI aX8_ends_6 fX8_7 ly_176 rfl ?_
    rcases of_ite h with ⟨hc1, h⟩ | ⟨hc1, h⟩
    · refine e_icmp_ge (tgt := 48) aX8_ends_9 (by decide) (fun _ => ?_) (fun q => absurd hc1 q)
      exact K _ _ h
    · refine e_icmp_ge (tgt := 48) aX8_ends_9 (by decide) (fun q => absurd q hc1) (fun _ => ?_)
      refine e_iload_n aX8_ends_12 rfl ?_
      refine e_iload_n aX8_ends_13 rfl ?_
      rcases of_ite h with ⟨hc2, h⟩ | ⟨hc2, h⟩
      · refine e_if_eq (tgt := 25) aX8_ends_14 (by decide) (fun _ => ?_) (fun q => absurd hc2 q)
        refine e_aload_n aX8_ends_25 rfl ?_
        refine e_iload_n aX8_ends_26 rfl ?_
        obtain ⟨r3, hr3, h⟩ := of_bind h
        refine e_VI [.int i2] aX8_ends_27 co_X8_comes mX8_179 ly_176 rfl rfl (c_X8_comes l x hr3) rfl ⟨by decide, by decide⟩ (Nat.le_of_ble_eq_true rfl) rfl ?_
        rcases of_ite h with ⟨hc4, h⟩ | ⟨hc4, h⟩
        · refine e_if_ne (tgt := 39) aX8_ends_30 (by decide) (fun q => absurd hc4 q) (fun _ => ?_)
          refine e_iconst (v := 1) aX8_ends_33 (by decide) ?_
          refine e_iload_n aX8_ends_34 rfl ?_
          refine e_ishl aX8_ends_35 ?_
          refine e_goto (tgt := 40) aX8_ends_36 (by decide) ?_
          refine e_ior aX8_ends_40 ?_
          obtain ⟨v6, ev6, h⟩ := of_lt h
          refine e_nameI ev6 ?_
          refine e_istore_n (L2 := [some (.ref (x.2.2.1 + 176)), some (.int i1), some (.int v6), some (.int i3)]) aX8_ends_41 ⟨by decide, rfl⟩ rfl ?_
          refine e_iinc (v := i3 + 1) (L2 := [some (.ref (x.2.2.1 + 176)), some (.int i1), some (.int v6), some (.int (i3 + 1))]) aX8_ends_42 rfl rfl ⟨by decide, rfl⟩ rfl ?_
          refine e_goto (tgt := 4) aX8_ends_45 (by decide) ?_
          exact ih _ _ h
        · refine e_if_ne (tgt := 39) aX8_ends_30 (by decide) (fun _ => ?_) (fun q => absurd q hc4)
          refine e_iconst (v := 0) aX8_ends_39 (by decide) ?_
          refine e_ior aX8_ends_40 ?_
          obtain ⟨v5, ev5, h⟩ := of_lt h
          refine e_nameI ev5 ?_
          refine e_istore_n (L2 := [some (.ref (x.2.2.1 + 176)), some (.int i1), some (.int v5), some (.int i3)]) aX8_ends_41 ⟨by decide, rfl⟩ rfl ?_
          refine e_iinc (v := i3 + 1) (L2 := [some (.ref (x.2.2.1 + 176)), some (.int i1), some (.int v5), some (.int (i3 + 1))]) aX8_ends_42 rfl rfl ⟨by decide, rfl⟩ rfl ?_
          refine e_goto (tgt := 4) aX8_ends_45 (by decide) ?_
          exact ih _ _ h
      · refine e_if_eq (tgt := 25) aX8_ends_14 (by decide) (fun q => absurd q hc2) (fun _ => ?_)
        refine e_aload_n aX8_ends_17 rfl ?_
        refine e_iload_n aX8_ends_18 rfl ?_
        obtain ⟨r7, hr7, h⟩ := of_bind h
        refine e_VI [.int i2] aX8_ends_19 co_X8_goes mX8_175 ly_176 rfl rfl (c_X8_goes l x hr7) rfl ⟨by decide, by decide⟩ (Nat.le_of_ble_eq_true rfl) rfl ?_
        refine e_goto (tgt := 30) aX8_ends_22 (by decide) ?_
        rcases of_ite h with ⟨hc8, h⟩ | ⟨hc8, h⟩
        · refine e_if_ne (tgt := 39) aX8_ends_30 (by decide) (fun q => absurd hc8 q) (fun _ => ?_)
          refine e_iconst (v := 1) aX8_ends_33 (by decide) ?_
          refine e_iload_n aX8_ends_34 rfl ?_
          refine e_ishl aX8_ends_35 ?_
          refine e_goto (tgt := 40) aX8_ends_36 (by decide) ?_
          refine e_ior aX8_ends_40 ?_
          obtain ⟨v10, ev10, h⟩ := of_lt h
          refine e_nameI ev10 ?_
          refine e_istore_n (L2 := [some (.ref (x.2.2.1 + 176)), some (.int i1), some (.int v10), some (.int i3)]) aX8_ends_41 ⟨by decide, rfl⟩ rfl ?_
          refine e_iinc (v := i3 + 1) (L2 := [some (.ref (x.2.2.1 + 176)), some (.int i1), some (.int v10), some (.int (i3 + 1))]) aX8_ends_42 rfl rfl ⟨by decide, rfl⟩ rfl ?_
          refine e_goto (tgt := 4) aX8_ends_45 (by decide) ?_
          exact ih _ _ h
        · refine e_if_ne (tgt := 39) aX8_ends_30 (by decide) (fun _ => ?_) (fun q => absurd q hc8)
          refine e_iconst (v := 0) aX8_ends_39 (by decide) ?_
          refine e_ior aX8_ends_40 ?_
          obtain ⟨v9, ev9, h⟩ := of_lt h
          refine e_nameI ev9 ?_
          refine e_istore_n (L2 := [some (.ref (x.2.2.1 + 176)), some (.int i1), some (.int v9), some (.int i3)]) aX8_ends_41 ⟨by decide, rfl⟩ rfl ?_
          refine e_iinc (v := i3 + 1) (L2 := [some (.ref (x.2.2.1 + 176)), some (.int i1), some (.int v9), some (.int (i3 + 1))]) aX8_ends_42 rfl rfl ⟨by decide, rfl⟩ rfl ?_
          refine e_goto (tgt := 4) aX8_ends_45 (by decide) ?_
          exact ih _ _ h
def f_X8_ends (i1 : Int32) (M : Mem) : Option Int32 :=
  f_X8_ends_4 i1 M (fun (i2_1 : Int32) (i3_2 : Int32) =>
    some i2_1) FU 0 0
set_option maxRecDepth 100000 in
set_option maxHeartbeats 4000000 in
theorem c_X8_ends (l : Launch) (x : WX) {i1 : Int32} {M : Mem} {r : Int32}  (h : f_X8_ends i1 M = some r) : Mt l x false yX8_ends cX8_ends 4 (some FieldType.int) 1 0 0 [.ref (x.2.2.1 + 176), .int i1] LAY M (pI r M) := by
  refine mt_of (L0 := [some (.ref (x.2.2.1 + 176)), some (.int i1), none, none]) (by decide +kernel) rfl (Nat.le_of_ble_eq_true rfl) (lvA_of 2 rfl) ?_
  unfold f_X8_ends at h
  refine e_iconst (v := 0) aX8_ends_0 (by decide) ?_
  refine e_istore_n (L2 := [some (.ref (x.2.2.1 + 176)), some (.int i1), some (.int 0), none]) aX8_ends_1 ⟨by decide, rfl⟩ rfl ?_
  refine e_iconst (v := 0) aX8_ends_2 (by decide) ?_
  refine e_istore_n (L2 := [some (.ref (x.2.2.1 + 176)), some (.int i1), some (.int 0), some (.int 0)]) aX8_ends_3 ⟨by decide, rfl⟩ rfl ?_
  refine w_X8_ends_4 l x  (fun i2_1 i3_2 h => ?_) FU _ _ h
  refine e_iload_n aX8_ends_48 rfl ?_
  exact e_retI aX8_ends_49 rfl rfl (pI_ro h)
def s_X8_allRows_4  (M : Mem) (k : Int32 → Int32 → Option Int32) (rec : Int32 → Int32 → Option Int32) (i1 : Int32) (i2 : Int32) : Option Int32 :=
  if 3 ≤ i2 then
    k i1 i2
  else
    if i2 < 0 ∨ 3 ≤ i2.toNatClampNeg then none else
    if 0 ≤ M 180 i2.toNatClampNeg then
      if i2 < 0 ∨ 3 ≤ i2.toNatClampNeg then none else
      lt (i1 + (M 180 i2.toNatClampNeg)) fun (v5 : Int32) =>
      rec v5 (i2 + 1)
    else
      lt (i1 + 0) fun (v6 : Int32) =>
      rec v6 (i2 + 1)
def f_X8_allRows_4  (M : Mem) (k : Int32 → Int32 → Option Int32) : Nat → Int32 → Int32 → Option Int32
  | 0 => fun _ _ => none
  | n + 1 => fun i1 i2 => s_X8_allRows_4  M k (f_X8_allRows_4  M k n) i1 i2
set_option maxRecDepth 100000 in
set_option maxHeartbeats 4000000 in
theorem w_X8_allRows_4 (l : Launch) (x : WX)  {M : Mem} {k : Int32 → Int32 → Option Int32} {r : Int32}  (K : ∀ (i1 : Int32) (i2 : Int32), k i1 i2 = some r → Ev l x false cX8_allRows RX8 (some FieldType.int) 3 0 0 0 (pI r M) 37 [some (.ref (x.2.2.1 + 176)), some (.int i1), some (.int i2)] [] LAY M) : ∀ (n : Nat) (i1 : Int32) (i2 : Int32), f_X8_allRows_4  M k n i1 i2 = some r → Ev l x false cX8_allRows RX8 (some FieldType.int) 3 0 0 0 (pI r M) 4 [some (.ref (x.2.2.1 + 176)), some (.int i1), some (.int i2)] [] LAY M := by
  intro n
  induction n with
  | zero =>
    intro i1 i2 h
    exact nomatch (show (none : Option Int32) = some r from h)
  | succ n ih =>
    intro i1 i2 h
    have h : s_X8_allRows_4  M k (f_X8_allRows_4  M k n) i1 i2 = some r := h
    unfold s_X8_allRows_4 at h
    refine e_iload_n aX8_allRows_4 rfl ?_
    refine e_iconst (v := 3) aX8_allRows_5 (by decide) ?_
    rcases of_ite h with ⟨hc1, h⟩ | ⟨hc1, h⟩
    · refine e_icmp_ge (tgt := 37) aX8_allRows_6 (by decide) (fun _ => ?_) (fun q => absurd hc1 q)
      exact K _ _ h
    · refine e_icmp_ge (tgt := 37) aX8_allRows_6 (by decide) (fun q => absurd q hc1) (fun _ => ?_)
      refine e_iload_n aX8_allRows_9 rfl ?_
      refine e_aload_n aX8_allRows_10 rfl ?_
      refine e_getR (r := 180) aX8_allRows_11 fX8_24 ly_176 rfl ?_
      refine e_iload_n aX8_allRows_14 rfl ?_
      obtain ⟨hg2, h⟩ := of_guard h
      refine e_iald aX8_allRows_15 ly_180 hg2 ?_
      rcases of_ite h with ⟨hc3, h⟩ | ⟨hc3, h⟩
      · refine e_if_ge (tgt := 23) aX8_allRows_16 (by decide) (fun _ => ?_) (fun q => absurd hc3 q)
        refine e_aload_n aX8_allRows_23 rfl ?_
        refine e_getR (r := 180) aX8_allRows_24 fX8_24 ly_176 rfl ?_
        refine e_iload_n aX8_allRows_27 rfl ?_
        obtain ⟨hg4, h⟩ := of_guard h
        refine e_iald aX8_allRows_28 ly_180 hg4 ?_
        refine e_iadd aX8_allRows_29 ?_
        obtain ⟨v5, ev5, h⟩ := of_lt h
        refine e_nameI ev5 ?_
        refine e_istore_n (L2 := [some (.ref (x.2.2.1 + 176)), some (.int v5), some (.int i2)]) aX8_allRows_30 ⟨by decide, rfl⟩ rfl ?_
        refine e_iinc (v := i2 + 1) (L2 := [some (.ref (x.2.2.1 + 176)), some (.int v5), some (.int (i2 + 1))]) aX8_allRows_31 rfl rfl ⟨by decide, rfl⟩ rfl ?_
        refine e_goto (tgt := 4) aX8_allRows_34 (by decide) ?_
        exact ih _ _ h
      · refine e_if_ge (tgt := 23) aX8_allRows_16 (by decide) (fun q => absurd q hc3) (fun _ => ?_)
        refine e_iconst (v := 0) aX8_allRows_19 (by decide) ?_
        refine e_goto (tgt := 29) aX8_allRows_20 (by decide) ?_
        refine e_iadd aX8_allRows_29 ?_
        obtain ⟨v6, ev6, h⟩ := of_lt h
        refine e_nameI ev6 ?_
        refine e_istore_n (L2 := [some (.ref (x.2.2.1 + 176)), some (.int v6), some (.int i2)]) aX8_allRows_30 ⟨by decide, rfl⟩ rfl ?_
        refine e_iinc (v := i2 + 1) (L2 := [some (.ref (x.2.2.1 + 176)), some (.int v6), some (.int (i2 + 1))]) aX8_allRows_31 rfl rfl ⟨by decide, rfl⟩ rfl ?_
        refine e_goto (tgt := 4) aX8_allRows_34 (by decide) ?_
        exact ih _ _ h
def f_X8_allRows  (M : Mem) : Option Int32 :=
  f_X8_allRows_4  M (fun (i1_1 : Int32) (i2_2 : Int32) =>
    some i1_1) FU 0 0
set_option maxRecDepth 100000 in
set_option maxHeartbeats 4000000 in
theorem c_X8_allRows (l : Launch) (x : WX)  {M : Mem} {r : Int32}  (h : f_X8_allRows  M = some r) : Mt l x false yX8_allRows cX8_allRows 3 (some FieldType.int) 0 0 0 [.ref (x.2.2.1 + 176)] LAY M (pI r M) := by
  refine mt_of (L0 := [some (.ref (x.2.2.1 + 176)), none, none]) (by decide +kernel) rfl (Nat.le_of_ble_eq_true rfl) (lvA_of 2 rfl) ?_
  unfold f_X8_allRows at h
  refine e_iconst (v := 0) aX8_allRows_0 (by decide) ?_
  refine e_istore_n (L2 := [some (.ref (x.2.2.1 + 176)), some (.int 0), none]) aX8_allRows_1 ⟨by decide, rfl⟩ rfl ?_
  refine e_iconst (v := 0) aX8_allRows_2 (by decide) ?_
  refine e_istore_n (L2 := [some (.ref (x.2.2.1 + 176)), some (.int 0), some (.int 0)]) aX8_allRows_3 ⟨by decide, rfl⟩ rfl ?_
  refine w_X8_allRows_4 l x  (fun i1_1 i2_2 h => ?_) FU _ _ h
  refine e_iload_n aX8_allRows_37 rfl ?_
  exact e_retI aX8_allRows_38 rfl rfl (pI_ro h)
def f_X8_count (i1 : Int32) (M : Mem) : Option (Int32 × Mem) :=
  (f_X8_knows M).bind fun (M1 : Mem) =>
  if i1 = 0 then
    some (M1 176 0, M1)
  else if i1 = 1 then
    if (0 : Int32) < 0 ∨ 297 ≤ (0 : Int32).toNatClampNeg then none else
    some (M1 177 (0 : Int32).toNatClampNeg, M1)
  else if i1 = 2 then
    (f_X8_tits M1).bind fun (r16 : Int32) =>
    some (r16, M1)
  else if i1 = 3 then
    (f_X8_tits M1).bind fun (r17 : Int32) =>
    some (r17 - 1, M1)
  else if i1 = 4 then
    if 0 ≤ M1 176 12 then
      some (M1 176 12, M1)
    else
      some ((-1000000), M1)
  else if i1 = 5 then
    if 0 ≤ M1 176 12 then
      (f_X8_deepest M1).bind fun (r20 : Int32) =>
      some (r20, M1)
    else
      some ((-1000000), M1)
  else if i1 = 6 then
    (f_X8_ends 1 M1).bind fun (r21 : Int32) =>
    some (r21, M1)
  else if i1 = 7 then
    (f_X8_ends 0 M1).bind fun (r22 : Int32) =>
    some (r22, M1)
  else if i1 = 8 then
    (f_X8_allWays M1).bind fun (r23 : Int32) =>
    some (r23, M1)
  else if i1 = 9 then
    (f_X8_hangs M1).bind fun (r24 : Int32) =>
    some (r24, M1)
  else if i1 = 10 then
    (f_X8_allRows M1).bind fun (r25 : Int32) =>
    some (r25, M1)
  else if i1 = 11 then
    some (M1 176 2, M1)
  else if i1 = 12 then
    some (M1 176 5, M1)
  else 
    some ((-1000002), M1)
set_option maxRecDepth 100000 in
set_option maxHeartbeats 4000000 in
theorem c_X8_count (l : Launch) (x : WX) {i1 : Int32} {M : Mem} {r : (Int32 × Mem)}  (h : f_X8_count i1 M = some r) : Mt l x false yX8_count cX8_count 2 (some FieldType.int) 3 0 0 [.ref (x.2.2.1 + 176), .int i1] LAY M (pI r.1 r.2) := by
  refine mt_of (L0 := [some (.ref (x.2.2.1 + 176)), some (.int i1)]) (by decide +kernel) rfl (Nat.le_of_ble_eq_true rfl) (lvA_of 0 rfl) ?_
  unfold f_X8_count at h
  refine e_aload_n aX8_count_0 rfl ?_
  obtain ⟨M1, hM1, h⟩ := of_bind h
  refine e_VV [] aX8_count_1 co_X8_knows mX8_214 ly_176 rfl rfl (c_X8_knows l x hM1) rfl ⟨by decide, by decide⟩ (Nat.le_of_ble_eq_true rfl) rfl ?_
  refine e_iload_n aX8_count_4 rfl ?_
  rcases of_ite h with ⟨hc2, h⟩ | ⟨hc2, h⟩
  · refine e_tableIn (off := 67) (tgt := 72) aX8_count_5 (by rw [hc2]; decide) (by rw [hc2]; decide) (by rw [hc2]; rfl) (by decide) ?_
    refine e_aload_n aX8_count_72 rfl ?_
    refine e_getI aX8_count_73 fX8_7 ly_176 rfl ?_
    exact e_retI aX8_count_76 rfl rfl (pI_of h)
  · rcases of_ite h with ⟨hc3, h⟩ | ⟨hc3, h⟩
    · refine e_tableIn (off := 72) (tgt := 77) aX8_count_5 (by rw [hc3]; decide) (by rw [hc3]; decide) (by rw [hc3]; rfl) (by decide) ?_
      refine e_aload_n aX8_count_77 rfl ?_
      refine e_getR (r := 177) aX8_count_78 fX8_13 ly_176 rfl ?_
      refine e_iconst (v := 0) aX8_count_81 (by decide) ?_
      obtain ⟨hg15, h⟩ := of_guard h
      refine e_iald aX8_count_82 ly_177 hg15 ?_
      exact e_retI aX8_count_83 rfl rfl (pI_of h)
    · rcases of_ite h with ⟨hc4, h⟩ | ⟨hc4, h⟩
      · refine e_tableIn (off := 79) (tgt := 84) aX8_count_5 (by rw [hc4]; decide) (by rw [hc4]; decide) (by rw [hc4]; rfl) (by decide) ?_
        refine e_aload_n aX8_count_84 rfl ?_
        obtain ⟨r16, hr16, h⟩ := of_bind h
        refine e_VI [] aX8_count_85 co_X8_tits mX8_237 ly_176 rfl rfl (c_X8_tits l x hr16) rfl ⟨by decide, by decide⟩ (Nat.le_of_ble_eq_true rfl) rfl ?_
        exact e_retI aX8_count_88 rfl rfl (pI_of h)
      · rcases of_ite h with ⟨hc5, h⟩ | ⟨hc5, h⟩
        · refine e_tableIn (off := 84) (tgt := 89) aX8_count_5 (by rw [hc5]; decide) (by rw [hc5]; decide) (by rw [hc5]; rfl) (by decide) ?_
          refine e_aload_n aX8_count_89 rfl ?_
          obtain ⟨r17, hr17, h⟩ := of_bind h
          refine e_VI [] aX8_count_90 co_X8_tits mX8_237 ly_176 rfl rfl (c_X8_tits l x hr17) rfl ⟨by decide, by decide⟩ (Nat.le_of_ble_eq_true rfl) rfl ?_
          refine e_iconst (v := 1) aX8_count_93 (by decide) ?_
          refine e_isub aX8_count_94 ?_
          exact e_retI aX8_count_95 rfl rfl (pI_of h)
        · rcases of_ite h with ⟨hc6, h⟩ | ⟨hc6, h⟩
          · refine e_tableIn (off := 91) (tgt := 96) aX8_count_5 (by rw [hc6]; decide) (by rw [hc6]; decide) (by rw [hc6]; rfl) (by decide) ?_
            refine e_aload_n aX8_count_96 rfl ?_
            refine e_getI aX8_count_97 fX8_195 ly_176 rfl ?_
            rcases of_ite h with ⟨hc18, h⟩ | ⟨hc18, h⟩
            · refine e_if_ge (tgt := 108) aX8_count_100 (by decide) (fun _ => ?_) (fun q => absurd hc18 q)
              refine e_aload_n aX8_count_108 rfl ?_
              refine e_getI aX8_count_109 fX8_195 ly_176 rfl ?_
              exact e_retI aX8_count_112 rfl rfl (pI_of h)
            · refine e_if_ge (tgt := 108) aX8_count_100 (by decide) (fun q => absurd q hc18) (fun _ => ?_)
              refine e_ldc aX8_count_103 kX8_240 ?_
              refine e_goto (tgt := 112) aX8_count_105 (by decide) ?_
              exact e_retI aX8_count_112 rfl rfl (pI_of h)
          · rcases of_ite h with ⟨hc7, h⟩ | ⟨hc7, h⟩
            · refine e_tableIn (off := 108) (tgt := 113) aX8_count_5 (by rw [hc7]; decide) (by rw [hc7]; decide) (by rw [hc7]; rfl) (by decide) ?_
              refine e_aload_n aX8_count_113 rfl ?_
              refine e_getI aX8_count_114 fX8_195 ly_176 rfl ?_
              rcases of_ite h with ⟨hc19, h⟩ | ⟨hc19, h⟩
              · refine e_if_ge (tgt := 125) aX8_count_117 (by decide) (fun _ => ?_) (fun q => absurd hc19 q)
                refine e_aload_n aX8_count_125 rfl ?_
                obtain ⟨r20, hr20, h⟩ := of_bind h
                refine e_VI [] aX8_count_126 co_X8_deepest mX8_277 ly_176 rfl rfl (c_X8_deepest l x hr20) rfl ⟨by decide, by decide⟩ (Nat.le_of_ble_eq_true rfl) rfl ?_
                exact e_retI aX8_count_129 rfl rfl (pI_of h)
              · refine e_if_ge (tgt := 125) aX8_count_117 (by decide) (fun q => absurd q hc19) (fun _ => ?_)
                refine e_ldc aX8_count_120 kX8_240 ?_
                refine e_goto (tgt := 129) aX8_count_122 (by decide) ?_
                exact e_retI aX8_count_129 rfl rfl (pI_of h)
            · rcases of_ite h with ⟨hc8, h⟩ | ⟨hc8, h⟩
              · refine e_tableIn (off := 125) (tgt := 130) aX8_count_5 (by rw [hc8]; decide) (by rw [hc8]; decide) (by rw [hc8]; rfl) (by decide) ?_
                refine e_aload_n aX8_count_130 rfl ?_
                refine e_iconst (v := 1) aX8_count_131 (by decide) ?_
                obtain ⟨r21, hr21, h⟩ := of_bind h
                refine e_VI [] aX8_count_132 co_X8_ends mX8_280 ly_176 rfl rfl (c_X8_ends l x hr21) rfl ⟨by decide, by decide⟩ (Nat.le_of_ble_eq_true rfl) rfl ?_
                exact e_retI aX8_count_135 rfl rfl (pI_of h)
              · rcases of_ite h with ⟨hc9, h⟩ | ⟨hc9, h⟩
                · refine e_tableIn (off := 131) (tgt := 136) aX8_count_5 (by rw [hc9]; decide) (by rw [hc9]; decide) (by rw [hc9]; rfl) (by decide) ?_
                  refine e_aload_n aX8_count_136 rfl ?_
                  refine e_iconst (v := 0) aX8_count_137 (by decide) ?_
                  obtain ⟨r22, hr22, h⟩ := of_bind h
                  refine e_VI [] aX8_count_138 co_X8_ends mX8_280 ly_176 rfl rfl (c_X8_ends l x hr22) rfl ⟨by decide, by decide⟩ (Nat.le_of_ble_eq_true rfl) rfl ?_
                  exact e_retI aX8_count_141 rfl rfl (pI_of h)
                · rcases of_ite h with ⟨hc10, h⟩ | ⟨hc10, h⟩
                  · refine e_tableIn (off := 137) (tgt := 142) aX8_count_5 (by rw [hc10]; decide) (by rw [hc10]; decide) (by rw [hc10]; rfl) (by decide) ?_
                    refine e_aload_n aX8_count_142 rfl ?_
                    obtain ⟨r23, hr23, h⟩ := of_bind h
                    refine e_VI [] aX8_count_143 co_X8_allWays mX8_284 ly_176 rfl rfl (c_X8_allWays l x hr23) rfl ⟨by decide, by decide⟩ (Nat.le_of_ble_eq_true rfl) rfl ?_
                    exact e_retI aX8_count_146 rfl rfl (pI_of h)
                  · rcases of_ite h with ⟨hc11, h⟩ | ⟨hc11, h⟩
                    · refine e_tableIn (off := 142) (tgt := 147) aX8_count_5 (by rw [hc11]; decide) (by rw [hc11]; decide) (by rw [hc11]; rfl) (by decide) ?_
                      refine e_aload_n aX8_count_147 rfl ?_
                      obtain ⟨r24, hr24, h⟩ := of_bind h
                      refine e_VI [] aX8_count_148 co_X8_hangs mX8_287 ly_176 rfl rfl (c_X8_hangs l x hr24) rfl ⟨by decide, by decide⟩ (Nat.le_of_ble_eq_true rfl) rfl ?_
                      exact e_retI aX8_count_151 rfl rfl (pI_of h)
                    · rcases of_ite h with ⟨hc12, h⟩ | ⟨hc12, h⟩
                      · refine e_tableIn (off := 147) (tgt := 152) aX8_count_5 (by rw [hc12]; decide) (by rw [hc12]; decide) (by rw [hc12]; rfl) (by decide) ?_
                        refine e_aload_n aX8_count_152 rfl ?_
                        obtain ⟨r25, hr25, h⟩ := of_bind h
                        refine e_VI [] aX8_count_153 co_X8_allRows mX8_290 ly_176 rfl rfl (c_X8_allRows l x hr25) rfl ⟨by decide, by decide⟩ (Nat.le_of_ble_eq_true rfl) rfl ?_
                        exact e_retI aX8_count_156 rfl rfl (pI_of h)
                      · rcases of_ite h with ⟨hc13, h⟩ | ⟨hc13, h⟩
                        · refine e_tableIn (off := 152) (tgt := 157) aX8_count_5 (by rw [hc13]; decide) (by rw [hc13]; decide) (by rw [hc13]; rfl) (by decide) ?_
                          refine e_aload_n aX8_count_157 rfl ?_
                          refine e_getI aX8_count_158 fX8_162 ly_176 rfl ?_
                          exact e_retI aX8_count_161 rfl rfl (pI_of h)
                        · rcases of_ite h with ⟨hc14, h⟩ | ⟨hc14, h⟩
                          · refine e_tableIn (off := 157) (tgt := 162) aX8_count_5 (by rw [hc14]; decide) (by rw [hc14]; decide) (by rw [hc14]; rfl) (by decide) ?_
                            refine e_aload_n aX8_count_162 rfl ?_
                            refine e_getI aX8_count_163 fX8_79 ly_176 rfl ?_
                            exact e_retI aX8_count_166 rfl rfl (pI_of h)
                          · refine e_tableOut (tgt := 167) aX8_count_5 (sw_out (n := 12) (by decide) (fun c hc => match c, hc with | 0, _ => hc2 | 1, _ => hc3 | 2, _ => hc4 | 3, _ => hc5 | 4, _ => hc6 | 5, _ => hc7 | 6, _ => hc8 | 7, _ => hc9 | 8, _ => hc10 | 9, _ => hc11 | 10, _ => hc12 | 11, _ => hc13 | 12, _ => hc14 | c + 13, hc => absurd hc (by omega))) (by decide) ?_
                            refine e_ldc aX8_count_167 kX8_78 ?_
                            exact e_retI aX8_count_169 rfl rfl (pI_of h)

def FU : Nat := 20000
section EV
variable {l : Launch} {x : WX} {al : Bool} {cc : ByteArray} {own : String} {rt : Option FieldType} {nL d ca sa : Nat} {post : Option Value → List LC → Mem → Prop} {pc pc2 : Nat} {L : List (Option Value)} {st : List Value} {lay : List LC} {M M1 : Mem}
theorem e_nameI {u v : Int32} (h : v = u) (k : Ev l x al cc own rt nL d ca sa post pc L (.int v :: st) lay M) : Ev l x al cc own rt nL d ca sa post pc L (.int u :: st) lay M := h ▸ k
end EV

def s_X2_begin_12 (p0 : Nat) (i1 : Int32) (k : Int32 → Mem → Option Mem) (rec : Int32 → Mem → Option Mem) (i2 : Int32) (M : Mem) : Option Mem :=
  if 6 ≤ i2 then
    k i2 M
  else
    if i2 < 0 ∨ 6 ≤ i2.toNatClampNeg then none else
    lt (um M (p0 + 3) i2.toNatClampNeg 0) fun (M3 : Mem) =>
    rec (i2 + 1) M3
def f_X2_begin_12 (p0 : Nat) (i1 : Int32) (k : Int32 → Mem → Option Mem) : Nat → Int32 → Mem → Option Mem
  | 0 => fun _ _ => none
  | n + 1 => fun i2 M => s_X2_begin_12 p0 i1 k (f_X2_begin_12 p0 i1 k n) i2 M
set_option maxRecDepth 100000 in
set_option maxHeartbeats 4000000 in
theorem w_X2_begin_12 (l : Launch) (x : WX) {p0 : Nat} {i1 : Int32} {k : Int32 → Mem → Option Mem} {r : Mem} (hp0 : QA p0) (K : ∀ (i2 : Int32) (M : Mem), k i2 M = some r → Ev l x false cX2_begin RX2 none 3 0 0 0 (pV r) 31 [some (.ref (x.2.2.1 + p0)), some (.int i1), some (.int i2)] [] LAY M) : ∀ (n : Nat) (i2 : Int32) (M : Mem), f_X2_begin_12 p0 i1 k n i2 M = some r → Ev l x false cX2_begin RX2 none 3 0 0 0 (pV r) 12 [some (.ref (x.2.2.1 + p0)), some (.int i1), some (.int i2)] [] LAY M := by
  intro n
  induction n with
  | zero =>
    intro i2 M h
    exact nomatch (show (none : Option Mem) = some r from h)
  | succ n ih =>
    intro i2 M h
    have h : s_X2_begin_12 p0 i1 k (f_X2_begin_12 p0 i1 k n) i2 M = some r := h
    unfold s_X2_begin_12 at h
    refine e_iload_n aX2_begin_12 rfl ?_
    refine e_bipush (v := 6) aX2_begin_13 (by decide) ?_
    rcases of_ite h with ⟨hc1, h⟩ | ⟨hc1, h⟩
    · refine e_icmp_ge (tgt := 31) aX2_begin_15 (by decide) (fun _ => ?_) (fun q => absurd hc1 q)
      exact K _ _ h
    · refine e_icmp_ge (tgt := 31) aX2_begin_15 (by decide) (fun q => absurd q hc1) (fun _ => ?_)
      refine e_aload_n aX2_begin_18 rfl ?_
      refine e_getR (r := p0 + 3) aX2_begin_19 fX2_25 hp0.1 rfl ?_
      refine e_iload_n aX2_begin_22 rfl ?_
      refine e_iconst (v := 0) aX2_begin_23 (by decide) ?_
      obtain ⟨hg2, h⟩ := of_guard h
      obtain ⟨M3, eM3, h⟩ := of_lt h
      refine e_ist aX2_begin_24 hp0.2.2.2 hg2 eM3 ?_
      refine e_iinc (v := i2 + 1) (L2 := [some (.ref (x.2.2.1 + p0)), some (.int i1), some (.int (i2 + 1))]) aX2_begin_25 rfl rfl ⟨by decide, rfl⟩ rfl ?_
      refine e_goto (tgt := 12) aX2_begin_28 (by decide) ?_
      exact ih _ _ h
def f_X2_begin (p0 : Nat) (i1 : Int32) (M : Mem) : Option Mem :=
  lt (um M p0 0 i1) fun (M1 : Mem) =>
  lt (um M1 p0 1 0) fun (M2 : Mem) =>
  f_X2_begin_12 p0 i1 (fun (i2_3 : Int32) (M4 : Mem) =>
    some M4) FU 0 M2
set_option maxRecDepth 100000 in
set_option maxHeartbeats 4000000 in
theorem c_X2_begin (l : Launch) (x : WX) {p0 : Nat} {i1 : Int32} {M : Mem} {r : Mem} (hp0 : QA p0) (h : f_X2_begin p0 i1 M = some r) : Mt l x false yX2_begin cX2_begin 3 none 0 0 0 [.ref (x.2.2.1 + p0), .int i1] LAY M (pV r) := by
  refine mt_of (L0 := [some (.ref (x.2.2.1 + p0)), some (.int i1), none]) (by decide +kernel) rfl (Nat.le_of_ble_eq_true rfl) (lvA_of 1 rfl) ?_
  unfold f_X2_begin at h
  refine e_aload_n aX2_begin_0 rfl ?_
  refine e_iload_n aX2_begin_1 rfl ?_
  obtain ⟨M1, eM1, h⟩ := of_lt h
  refine e_put aX2_begin_2 qX2_9 hp0.1 rfl (fi_of _) eM1 ?_
  refine e_aload_n aX2_begin_5 rfl ?_
  refine e_iconst (v := 0) aX2_begin_6 (by decide) ?_
  obtain ⟨M2, eM2, h⟩ := of_lt h
  refine e_put aX2_begin_7 qX2_15 hp0.1 rfl (fi_of _) eM2 ?_
  refine e_iconst (v := 0) aX2_begin_10 (by decide) ?_
  refine e_istore_n (L2 := [some (.ref (x.2.2.1 + p0)), some (.int i1), some (.int 0)]) aX2_begin_11 ⟨by decide, rfl⟩ rfl ?_
  refine w_X2_begin_12 l x hp0 (fun i2_3 M4 h => ?_) FU _ _ h
  exact e_ret0 aX2_begin_31 rfl (pV_of h)
def f_X7_copyRow (p0 : Nat) (p1 : Nat) (M : Mem) : Option Mem :=
  lt (uc M p1 (va_cpy (M p0) (M p1) 0 0 6)) fun (M1 : Mem) =>
  some M1
set_option maxRecDepth 100000 in
set_option maxHeartbeats 4000000 in
theorem c_X7_copyRow (l : Launch) (x : WX) {p0 : Nat} {p1 : Nat} {M : Mem} {r : Mem} (hp0 : LAY[p0]? = some (1, 6, [])) (hp1 : LAY[p1]? = some (1, 6, [])) (h : f_X7_copyRow p0 p1 M = some r) : Mt l x false yX7_copyRow cX7_copyRow 2 none 1 0 0 [.ref (x.2.2.1 + p0), .ref (x.2.2.1 + p1)] LAY M (pV r) := by
  refine mt_of (L0 := [some (.ref (x.2.2.1 + p0)), some (.ref (x.2.2.1 + p1))]) (by decide +kernel) rfl (Nat.le_of_ble_eq_true rfl) (lvA_of 0 rfl) ?_
  unfold f_X7_copyRow at h
  refine e_aload_n aX7_copyRow_0 rfl ?_
  refine e_iconst (v := 0) aX7_copyRow_1 (by decide) ?_
  refine e_aload_n aX7_copyRow_2 rfl ?_
  refine e_iconst (v := 0) aX7_copyRow_3 (by decide) ?_
  refine e_bipush (v := 6) aX7_copyRow_4 (by decide) ?_
  obtain ⟨M1, eM1, h⟩ := of_lt h
  refine e_acopy aX7_copyRow_6 mX7_299 (by decide) hp0 hp1 (by decide) (by decide) (by decide) (by decide) (by decide) (Nat.le_of_ble_eq_true rfl) eM1 ?_
  exact e_ret0 aX7_copyRow_9 rfl (pV_of h)
def f_X2_become (p0 : Nat) (p1 : Nat) (M : Mem) : Option Mem :=
  lt (um M p0 0 (M p1 0)) fun (M1 : Mem) =>
  lt (um M1 p0 1 (M1 p1 1)) fun (M2 : Mem) =>
  lt (uc M2 (p0 + 1) (va_cpy (M2 (p1 + 1)) (M2 (p0 + 1)) 0 0 10)) fun (M3 : Mem) =>
  lt (uc M3 (p0 + 2) (va_cpy (M3 (p1 + 2)) (M3 (p0 + 2)) 0 0 10)) fun (M4 : Mem) =>
  (f_X7_copyRow (p1 + 3) (p0 + 3) M4).bind fun (M5 : Mem) =>
  some M5
set_option maxRecDepth 100000 in
set_option maxHeartbeats 4000000 in
theorem c_X2_become (l : Launch) (x : WX) {p0 : Nat} {p1 : Nat} {M : Mem} {r : Mem} (hp0 : QA p0) (hp1 : QA p1) (h : f_X2_become p0 p1 M = some r) : Mt l x false yX2_become cX2_become 2 none 2 0 0 [.ref (x.2.2.1 + p0), .ref (x.2.2.1 + p1)] LAY M (pV r) := by
  refine mt_of (L0 := [some (.ref (x.2.2.1 + p0)), some (.ref (x.2.2.1 + p1))]) (by decide +kernel) rfl (Nat.le_of_ble_eq_true rfl) (lvA_of 0 rfl) ?_
  unfold f_X2_become at h
  refine e_aload_n aX2_become_0 rfl ?_
  refine e_aload_n aX2_become_1 rfl ?_
  refine e_getI aX2_become_2 fX2_9 hp1.1 rfl ?_
  obtain ⟨M1, eM1, h⟩ := of_lt h
  refine e_put aX2_become_5 qX2_9 hp0.1 rfl (fi_of _) eM1 ?_
  refine e_aload_n aX2_become_8 rfl ?_
  refine e_aload_n aX2_become_9 rfl ?_
  refine e_getI aX2_become_10 fX2_15 hp1.1 rfl ?_
  obtain ⟨M2, eM2, h⟩ := of_lt h
  refine e_put aX2_become_13 qX2_15 hp0.1 rfl (fi_of _) eM2 ?_
  refine e_aload_n aX2_become_16 rfl ?_
  refine e_getR (r := p1 + 1) aX2_become_17 fX2_18 hp1.1 rfl ?_
  refine e_iconst (v := 0) aX2_become_20 (by decide) ?_
  refine e_aload_n aX2_become_21 rfl ?_
  refine e_getR (r := p0 + 1) aX2_become_22 fX2_18 hp0.1 rfl ?_
  refine e_iconst (v := 0) aX2_become_25 (by decide) ?_
  refine e_bipush (v := 10) aX2_become_26 (by decide) ?_
  obtain ⟨M3, eM3, h⟩ := of_lt h
  refine e_acopy aX2_become_28 mX2_28 (by decide) hp1.2.1 hp0.2.1 (by decide) (by decide) (by decide) (by decide) (by decide) (Nat.le_of_ble_eq_true rfl) eM3 ?_
  refine e_aload_n aX2_become_31 rfl ?_
  refine e_getR (r := p1 + 2) aX2_become_32 fX2_22 hp1.1 rfl ?_
  refine e_iconst (v := 0) aX2_become_35 (by decide) ?_
  refine e_aload_n aX2_become_36 rfl ?_
  refine e_getR (r := p0 + 2) aX2_become_37 fX2_22 hp0.1 rfl ?_
  refine e_iconst (v := 0) aX2_become_40 (by decide) ?_
  refine e_bipush (v := 10) aX2_become_41 (by decide) ?_
  obtain ⟨M4, eM4, h⟩ := of_lt h
  refine e_acopy aX2_become_43 mX2_28 (by decide) hp1.2.2.1 hp0.2.2.1 (by decide) (by decide) (by decide) (by decide) (by decide) (Nat.le_of_ble_eq_true rfl) eM4 ?_
  refine e_aload_n aX2_become_46 rfl ?_
  refine e_getR (r := p1 + 3) aX2_become_47 fX2_25 hp1.1 rfl ?_
  refine e_aload_n aX2_become_50 rfl ?_
  refine e_getR (r := p0 + 3) aX2_become_51 fX2_25 hp0.1 rfl ?_
  obtain ⟨M5, hM5, h⟩ := of_bind h
  refine e_NV [] aX2_become_54 co_X7_copyRow mX2_34 (c_X7_copyRow l x hp1.2.2.2 hp0.2.2.2 hM5) rfl ⟨by decide, by decide⟩ (Nat.le_of_ble_eq_true rfl) rfl ?_
  exact e_ret0 aX2_become_57 rfl (pV_of h)
def f_X2_hasPoint (p0 : Nat) (i1 : Int32) (M : Mem) : Option Int32 :=
  if i1 < 0 then
    some 0
  else
    if M p0 0 ≤ i1 then
      some 0
    else
      some 1
set_option maxRecDepth 100000 in
set_option maxHeartbeats 4000000 in
theorem c_X2_hasPoint (l : Launch) (x : WX) {p0 : Nat} {i1 : Int32} {M : Mem} {r : Int32} (hp0 : QA p0) (h : f_X2_hasPoint p0 i1 M = some r) : Mt l x false yX2_hasPoint cX2_hasPoint 2 (some FieldType.boolean) 0 0 0 [.ref (x.2.2.1 + p0), .int i1] LAY M (pI r M) := by
  refine mt_of (L0 := [some (.ref (x.2.2.1 + p0)), some (.int i1)]) (by decide +kernel) rfl (Nat.le_of_ble_eq_true rfl) (lvA_of 0 rfl) ?_
  unfold f_X2_hasPoint at h
  refine e_iload_n aX2_hasPoint_0 rfl ?_
  rcases of_ite h with ⟨hc1, h⟩ | ⟨hc1, h⟩
  · refine e_if_lt (tgt := 16) aX2_hasPoint_1 (by decide) (fun _ => ?_) (fun q => absurd hc1 q)
    refine e_iconst (v := 0) aX2_hasPoint_16 (by decide) ?_
    exact e_retI aX2_hasPoint_17 rfl (by decide +kernel) (pI_ro h)
  · refine e_if_lt (tgt := 16) aX2_hasPoint_1 (by decide) (fun q => absurd q hc1) (fun _ => ?_)
    refine e_iload_n aX2_hasPoint_4 rfl ?_
    refine e_aload_n aX2_hasPoint_5 rfl ?_
    refine e_getI aX2_hasPoint_6 fX2_9 hp0.1 rfl ?_
    rcases of_ite h with ⟨hc2, h⟩ | ⟨hc2, h⟩
    · refine e_icmp_ge (tgt := 16) aX2_hasPoint_9 (by decide) (fun _ => ?_) (fun q => absurd hc2 q)
      refine e_iconst (v := 0) aX2_hasPoint_16 (by decide) ?_
      exact e_retI aX2_hasPoint_17 rfl (by decide +kernel) (pI_ro h)
    · refine e_icmp_ge (tgt := 16) aX2_hasPoint_9 (by decide) (fun q => absurd q hc2) (fun _ => ?_)
      refine e_iconst (v := 1) aX2_hasPoint_12 (by decide) ?_
      refine e_goto (tgt := 17) aX2_hasPoint_13 (by decide) ?_
      exact e_retI aX2_hasPoint_17 rfl (by decide +kernel) (pI_ro h)
def f_X2_hasArrow (p0 : Nat) (i1 : Int32) (M : Mem) : Option Int32 :=
  if i1 < 0 then
    some 0
  else
    if M p0 1 ≤ i1 then
      some 0
    else
      some 1
set_option maxRecDepth 100000 in
set_option maxHeartbeats 4000000 in
theorem c_X2_hasArrow (l : Launch) (x : WX) {p0 : Nat} {i1 : Int32} {M : Mem} {r : Int32} (hp0 : QA p0) (h : f_X2_hasArrow p0 i1 M = some r) : Mt l x false yX2_hasArrow cX2_hasArrow 2 (some FieldType.boolean) 0 0 0 [.ref (x.2.2.1 + p0), .int i1] LAY M (pI r M) := by
  refine mt_of (L0 := [some (.ref (x.2.2.1 + p0)), some (.int i1)]) (by decide +kernel) rfl (Nat.le_of_ble_eq_true rfl) (lvA_of 0 rfl) ?_
  unfold f_X2_hasArrow at h
  refine e_iload_n aX2_hasArrow_0 rfl ?_
  rcases of_ite h with ⟨hc1, h⟩ | ⟨hc1, h⟩
  · refine e_if_lt (tgt := 16) aX2_hasArrow_1 (by decide) (fun _ => ?_) (fun q => absurd hc1 q)
    refine e_iconst (v := 0) aX2_hasArrow_16 (by decide) ?_
    exact e_retI aX2_hasArrow_17 rfl (by decide +kernel) (pI_ro h)
  · refine e_if_lt (tgt := 16) aX2_hasArrow_1 (by decide) (fun q => absurd q hc1) (fun _ => ?_)
    refine e_iload_n aX2_hasArrow_4 rfl ?_
    refine e_aload_n aX2_hasArrow_5 rfl ?_
    refine e_getI aX2_hasArrow_6 fX2_15 hp0.1 rfl ?_
    rcases of_ite h with ⟨hc2, h⟩ | ⟨hc2, h⟩
    · refine e_icmp_ge (tgt := 16) aX2_hasArrow_9 (by decide) (fun _ => ?_) (fun q => absurd hc2 q)
      refine e_iconst (v := 0) aX2_hasArrow_16 (by decide) ?_
      exact e_retI aX2_hasArrow_17 rfl (by decide +kernel) (pI_ro h)
    · refine e_icmp_ge (tgt := 16) aX2_hasArrow_9 (by decide) (fun q => absurd q hc2) (fun _ => ?_)
      refine e_iconst (v := 1) aX2_hasArrow_12 (by decide) ?_
      refine e_goto (tgt := 17) aX2_hasArrow_13 (by decide) ?_
      exact e_retI aX2_hasArrow_17 rfl (by decide +kernel) (pI_ro h)
def f_X2_join (p0 : Nat) (i1 : Int32) (i2 : Int32) (M : Mem) : Option Mem :=
  if M p0 1 < 0 ∨ 10 ≤ (M p0 1).toNatClampNeg then none else
  lt (um M (p0 + 1) (M p0 1).toNatClampNeg i1) fun (M2 : Mem) =>
  if M2 p0 1 < 0 ∨ 10 ≤ (M2 p0 1).toNatClampNeg then none else
  lt (um M2 (p0 + 2) (M2 p0 1).toNatClampNeg i2) fun (M4 : Mem) =>
  lt (um M4 p0 1 ((M4 p0 1) + 1)) fun (M5 : Mem) =>
  some M5
set_option maxRecDepth 100000 in
set_option maxHeartbeats 4000000 in
theorem c_X2_join (l : Launch) (x : WX) {p0 : Nat} {i1 : Int32} {i2 : Int32} {M : Mem} {r : Mem} (hp0 : QA p0) (h : f_X2_join p0 i1 i2 M = some r) : Mt l x false yX2_join cX2_join 3 none 0 0 0 [.ref (x.2.2.1 + p0), .int i1, .int i2] LAY M (pV r) := by
  refine mt_of (L0 := [some (.ref (x.2.2.1 + p0)), some (.int i1), some (.int i2)]) (by decide +kernel) rfl (Nat.le_of_ble_eq_true rfl) (lvA_of 0 rfl) ?_
  unfold f_X2_join at h
  refine e_aload_n aX2_join_0 rfl ?_
  refine e_getR (r := p0 + 1) aX2_join_1 fX2_18 hp0.1 rfl ?_
  refine e_aload_n aX2_join_4 rfl ?_
  refine e_getI aX2_join_5 fX2_15 hp0.1 rfl ?_
  refine e_iload_n aX2_join_8 rfl ?_
  obtain ⟨hg1, h⟩ := of_guard h
  obtain ⟨M2, eM2, h⟩ := of_lt h
  refine e_ist aX2_join_9 hp0.2.1 hg1 eM2 ?_
  refine e_aload_n aX2_join_10 rfl ?_
  refine e_getR (r := p0 + 2) aX2_join_11 fX2_22 hp0.1 rfl ?_
  refine e_aload_n aX2_join_14 rfl ?_
  refine e_getI aX2_join_15 fX2_15 hp0.1 rfl ?_
  refine e_iload_n aX2_join_18 rfl ?_
  obtain ⟨hg3, h⟩ := of_guard h
  obtain ⟨M4, eM4, h⟩ := of_lt h
  refine e_ist aX2_join_19 hp0.2.2.1 hg3 eM4 ?_
  refine e_aload_n aX2_join_20 rfl ?_
  refine e_dupR aX2_join_21 ?_
  refine e_getI aX2_join_22 fX2_15 hp0.1 rfl ?_
  refine e_iconst (v := 1) aX2_join_25 (by decide) ?_
  refine e_iadd aX2_join_26 ?_
  obtain ⟨M5, eM5, h⟩ := of_lt h
  refine e_put aX2_join_27 qX2_15 hp0.1 rfl (fi_of _) eM5 ?_
  exact e_ret0 aX2_join_30 rfl (pV_of h)
def s_X2_sever_2 (p0 : Nat) (i1 : Int32) (k : Int32 → Mem → Option Mem) (rec : Int32 → Mem → Option Mem) (i2 : Int32) (M : Mem) : Option Mem :=
  if (M p0 1) - 1 ≤ i2 then
    k i2 M
  else
    if i2 + 1 < 0 ∨ 10 ≤ (i2 + 1).toNatClampNeg then none else
    if i2 < 0 ∨ 10 ≤ i2.toNatClampNeg then none else
    lt (um M (p0 + 1) i2.toNatClampNeg (M (p0 + 1) (i2 + 1).toNatClampNeg)) fun (M4 : Mem) =>
    if i2 + 1 < 0 ∨ 10 ≤ (i2 + 1).toNatClampNeg then none else
    if i2 < 0 ∨ 10 ≤ i2.toNatClampNeg then none else
    lt (um M4 (p0 + 2) i2.toNatClampNeg (M4 (p0 + 2) (i2 + 1).toNatClampNeg)) fun (M7 : Mem) =>
    rec (i2 + 1) M7
def f_X2_sever_2 (p0 : Nat) (i1 : Int32) (k : Int32 → Mem → Option Mem) : Nat → Int32 → Mem → Option Mem
  | 0 => fun _ _ => none
  | n + 1 => fun i2 M => s_X2_sever_2 p0 i1 k (f_X2_sever_2 p0 i1 k n) i2 M
set_option maxRecDepth 100000 in
set_option maxHeartbeats 4000000 in
theorem w_X2_sever_2 (l : Launch) (x : WX) {p0 : Nat} {i1 : Int32} {k : Int32 → Mem → Option Mem} {r : Mem} (hp0 : QA p0) (K : ∀ (i2 : Int32) (M : Mem), k i2 M = some r → Ev l x false cX2_sever RX2 none 3 0 0 0 (pV r) 46 [some (.ref (x.2.2.1 + p0)), some (.int i1), some (.int i2)] [] LAY M) : ∀ (n : Nat) (i2 : Int32) (M : Mem), f_X2_sever_2 p0 i1 k n i2 M = some r → Ev l x false cX2_sever RX2 none 3 0 0 0 (pV r) 2 [some (.ref (x.2.2.1 + p0)), some (.int i1), some (.int i2)] [] LAY M := by
  intro n
  induction n with
  | zero =>
    intro i2 M h
    exact nomatch (show (none : Option Mem) = some r from h)
  | succ n ih =>
    intro i2 M h
    have h : s_X2_sever_2 p0 i1 k (f_X2_sever_2 p0 i1 k n) i2 M = some r := h
    unfold s_X2_sever_2 at h
    refine e_iload_n aX2_sever_2 rfl ?_
    refine e_aload_n aX2_sever_3 rfl ?_
    refine e_getI aX2_sever_4 fX2_15 hp0.1 rfl ?_
    refine e_iconst (v := 1) aX2_sever_7 (by decide) ?_
    refine e_isub aX2_sever_8 ?_
    rcases of_ite h with ⟨hc1, h⟩ | ⟨hc1, h⟩
    · refine e_icmp_ge (tgt := 46) aX2_sever_9 (by decide) (fun _ => ?_) (fun q => absurd hc1 q)
      exact K _ _ h
    · refine e_icmp_ge (tgt := 46) aX2_sever_9 (by decide) (fun q => absurd q hc1) (fun _ => ?_)
      refine e_aload_n aX2_sever_12 rfl ?_
      refine e_getR (r := p0 + 1) aX2_sever_13 fX2_18 hp0.1 rfl ?_
      refine e_iload_n aX2_sever_16 rfl ?_
      refine e_aload_n aX2_sever_17 rfl ?_
      refine e_getR (r := p0 + 1) aX2_sever_18 fX2_18 hp0.1 rfl ?_
      refine e_iload_n aX2_sever_21 rfl ?_
      refine e_iconst (v := 1) aX2_sever_22 (by decide) ?_
      refine e_iadd aX2_sever_23 ?_
      obtain ⟨hg2, h⟩ := of_guard h
      refine e_iald aX2_sever_24 hp0.2.1 hg2 ?_
      obtain ⟨hg3, h⟩ := of_guard h
      obtain ⟨M4, eM4, h⟩ := of_lt h
      refine e_ist aX2_sever_25 hp0.2.1 hg3 eM4 ?_
      refine e_aload_n aX2_sever_26 rfl ?_
      refine e_getR (r := p0 + 2) aX2_sever_27 fX2_22 hp0.1 rfl ?_
      refine e_iload_n aX2_sever_30 rfl ?_
      refine e_aload_n aX2_sever_31 rfl ?_
      refine e_getR (r := p0 + 2) aX2_sever_32 fX2_22 hp0.1 rfl ?_
      refine e_iload_n aX2_sever_35 rfl ?_
      refine e_iconst (v := 1) aX2_sever_36 (by decide) ?_
      refine e_iadd aX2_sever_37 ?_
      obtain ⟨hg5, h⟩ := of_guard h
      refine e_iald aX2_sever_38 hp0.2.2.1 hg5 ?_
      obtain ⟨hg6, h⟩ := of_guard h
      obtain ⟨M7, eM7, h⟩ := of_lt h
      refine e_ist aX2_sever_39 hp0.2.2.1 hg6 eM7 ?_
      refine e_iinc (v := i2 + 1) (L2 := [some (.ref (x.2.2.1 + p0)), some (.int i1), some (.int (i2 + 1))]) aX2_sever_40 rfl rfl ⟨by decide, rfl⟩ rfl ?_
      refine e_goto (tgt := 2) aX2_sever_43 (by decide) ?_
      exact ih _ _ h
def f_X2_sever (p0 : Nat) (i1 : Int32) (M : Mem) : Option Mem :=
  f_X2_sever_2 p0 i1 (fun (i2_1 : Int32) (M2 : Mem) =>
    lt (um M2 p0 1 ((M2 p0 1) - 1)) fun (M3 : Mem) =>
    some M3) FU i1 M
set_option maxRecDepth 100000 in
set_option maxHeartbeats 4000000 in
theorem c_X2_sever (l : Launch) (x : WX) {p0 : Nat} {i1 : Int32} {M : Mem} {r : Mem} (hp0 : QA p0) (h : f_X2_sever p0 i1 M = some r) : Mt l x false yX2_sever cX2_sever 3 none 0 0 0 [.ref (x.2.2.1 + p0), .int i1] LAY M (pV r) := by
  refine mt_of (L0 := [some (.ref (x.2.2.1 + p0)), some (.int i1), none]) (by decide +kernel) rfl (Nat.le_of_ble_eq_true rfl) (lvA_of 1 rfl) ?_
  unfold f_X2_sever at h
  refine e_iload_n aX2_sever_0 rfl ?_
  refine e_istore_n (L2 := [some (.ref (x.2.2.1 + p0)), some (.int i1), some (.int i1)]) aX2_sever_1 ⟨by decide, rfl⟩ rfl ?_
  refine w_X2_sever_2 l x hp0 (fun i2_1 M2 h => ?_) FU _ _ h
  refine e_aload_n aX2_sever_46 rfl ?_
  refine e_dupR aX2_sever_47 ?_
  refine e_getI aX2_sever_48 fX2_15 hp0.1 rfl ?_
  refine e_iconst (v := 1) aX2_sever_51 (by decide) ?_
  refine e_isub aX2_sever_52 ?_
  obtain ⟨M3, eM3, h⟩ := of_lt h
  refine e_put aX2_sever_53 qX2_15 hp0.1 rfl (fi_of _) eM3 ?_
  exact e_ret0 aX2_sever_56 rfl (pV_of h)
def s_X2_swapArrowsAt_2 (p0 : Nat) (i1 : Int32) (k : Int32 → Mem → Option Mem) (rec : Int32 → Mem → Option Mem) (i2 : Int32) (M : Mem) : Option Mem :=
  if M p0 1 ≤ i2 then
    k i2 M
  else
    if i2 < 0 ∨ 10 ≤ i2.toNatClampNeg then none else
    if M (p0 + 1) i2.toNatClampNeg = i1 then
      if i2 < 0 ∨ 10 ≤ i2.toNatClampNeg then none else
      lt (M (p0 + 1) i2.toNatClampNeg) fun (v5 : Int32) =>
      if i2 < 0 ∨ 10 ≤ i2.toNatClampNeg then none else
      if i2 < 0 ∨ 10 ≤ i2.toNatClampNeg then none else
      lt (um M (p0 + 1) i2.toNatClampNeg (M (p0 + 2) i2.toNatClampNeg)) fun (M8 : Mem) =>
      if i2 < 0 ∨ 10 ≤ i2.toNatClampNeg then none else
      lt (um M8 (p0 + 2) i2.toNatClampNeg v5) fun (M10 : Mem) =>
      rec (i2 + 1) M10
    else
      if i2 < 0 ∨ 10 ≤ i2.toNatClampNeg then none else
      if M (p0 + 2) i2.toNatClampNeg = i1 then
        if i2 < 0 ∨ 10 ≤ i2.toNatClampNeg then none else
        lt (M (p0 + 1) i2.toNatClampNeg) fun (v14 : Int32) =>
        if i2 < 0 ∨ 10 ≤ i2.toNatClampNeg then none else
        if i2 < 0 ∨ 10 ≤ i2.toNatClampNeg then none else
        lt (um M (p0 + 1) i2.toNatClampNeg (M (p0 + 2) i2.toNatClampNeg)) fun (M17 : Mem) =>
        if i2 < 0 ∨ 10 ≤ i2.toNatClampNeg then none else
        lt (um M17 (p0 + 2) i2.toNatClampNeg v14) fun (M19 : Mem) =>
        rec (i2 + 1) M19
      else
        rec (i2 + 1) M
def f_X2_swapArrowsAt_2 (p0 : Nat) (i1 : Int32) (k : Int32 → Mem → Option Mem) : Nat → Int32 → Mem → Option Mem
  | 0 => fun _ _ => none
  | n + 1 => fun i2 M => s_X2_swapArrowsAt_2 p0 i1 k (f_X2_swapArrowsAt_2 p0 i1 k n) i2 M
set_option maxRecDepth 100000 in
set_option maxHeartbeats 4000000 in
theorem w_X2_swapArrowsAt_2 (l : Launch) (x : WX) {p0 : Nat} {i1 : Int32} {k : Int32 → Mem → Option Mem} {r : Mem} (hp0 : QA p0) (K : ∀ (i2 : Int32) (M : Mem), k i2 M = some r → Ev l x false cX2_swapArrowsAt RX2 none 4 0 0 0 (pV r) 62 [some (.ref (x.2.2.1 + p0)), some (.int i1), some (.int i2), none] [] LAY M) : ∀ (n : Nat) (i2 : Int32) (M : Mem), f_X2_swapArrowsAt_2 p0 i1 k n i2 M = some r → Ev l x false cX2_swapArrowsAt RX2 none 4 0 0 0 (pV r) 2 [some (.ref (x.2.2.1 + p0)), some (.int i1), some (.int i2), none] [] LAY M := by
  intro n
  induction n with
  | zero =>
    intro i2 M h
    exact nomatch (show (none : Option Mem) = some r from h)
  | succ n ih =>
    intro i2 M h
    have h : s_X2_swapArrowsAt_2 p0 i1 k (f_X2_swapArrowsAt_2 p0 i1 k n) i2 M = some r := h
    unfold s_X2_swapArrowsAt_2 at h
    refine e_iload_n aX2_swapArrowsAt_2 rfl ?_
    refine e_aload_n aX2_swapArrowsAt_3 rfl ?_
    refine e_getI aX2_swapArrowsAt_4 fX2_15 hp0.1 rfl ?_
    rcases of_ite h with ⟨hc1, h⟩ | ⟨hc1, h⟩
    · refine e_icmp_ge (tgt := 62) aX2_swapArrowsAt_7 (by decide) (fun _ => ?_) (fun q => absurd hc1 q)
      exact K _ _ h
    · refine e_icmp_ge (tgt := 62) aX2_swapArrowsAt_7 (by decide) (fun q => absurd q hc1) (fun _ => ?_)
      refine e_aload_n aX2_swapArrowsAt_10 rfl ?_
      refine e_getR (r := p0 + 1) aX2_swapArrowsAt_11 fX2_18 hp0.1 rfl ?_
      refine e_iload_n aX2_swapArrowsAt_14 rfl ?_
      obtain ⟨hg2, h⟩ := of_guard h
      refine e_iald aX2_swapArrowsAt_15 hp0.2.1 hg2 ?_
      refine e_iload_n aX2_swapArrowsAt_16 rfl ?_
      rcases of_ite h with ⟨hc3, h⟩ | ⟨hc3, h⟩
      · refine e_icmp_eq (tgt := 30) aX2_swapArrowsAt_17 (by decide) (fun _ => ?_) (fun q => absurd hc3 q)
        refine e_aload_n aX2_swapArrowsAt_30 rfl ?_
        refine e_getR (r := p0 + 1) aX2_swapArrowsAt_31 fX2_18 hp0.1 rfl ?_
        refine e_iload_n aX2_swapArrowsAt_34 rfl ?_
        obtain ⟨hg4, h⟩ := of_guard h
        refine e_iald aX2_swapArrowsAt_35 hp0.2.1 hg4 ?_
        obtain ⟨v5, ev5, h⟩ := of_lt h
        refine e_nameI ev5 ?_
        refine e_istore_n (L2 := [some (.ref (x.2.2.1 + p0)), some (.int i1), some (.int i2), some (.int v5)]) aX2_swapArrowsAt_36 ⟨by decide, rfl⟩ rfl ?_
        refine e_aload_n aX2_swapArrowsAt_37 rfl ?_
        refine e_getR (r := p0 + 1) aX2_swapArrowsAt_38 fX2_18 hp0.1 rfl ?_
        refine e_iload_n aX2_swapArrowsAt_41 rfl ?_
        refine e_aload_n aX2_swapArrowsAt_42 rfl ?_
        refine e_getR (r := p0 + 2) aX2_swapArrowsAt_43 fX2_22 hp0.1 rfl ?_
        refine e_iload_n aX2_swapArrowsAt_46 rfl ?_
        obtain ⟨hg6, h⟩ := of_guard h
        refine e_iald aX2_swapArrowsAt_47 hp0.2.2.1 hg6 ?_
        obtain ⟨hg7, h⟩ := of_guard h
        obtain ⟨M8, eM8, h⟩ := of_lt h
        refine e_ist aX2_swapArrowsAt_48 hp0.2.1 hg7 eM8 ?_
        refine e_aload_n aX2_swapArrowsAt_49 rfl ?_
        refine e_getR (r := p0 + 2) aX2_swapArrowsAt_50 fX2_22 hp0.1 rfl ?_
        refine e_iload_n aX2_swapArrowsAt_53 rfl ?_
        refine e_iload_n aX2_swapArrowsAt_54 rfl ?_
        obtain ⟨hg9, h⟩ := of_guard h
        obtain ⟨M10, eM10, h⟩ := of_lt h
        refine e_ist aX2_swapArrowsAt_55 hp0.2.2.1 hg9 eM10 ?_
        refine e_iinc (v := i2 + 1) (L2 := [some (.ref (x.2.2.1 + p0)), some (.int i1), some (.int (i2 + 1)), some (.int v5)]) aX2_swapArrowsAt_56 rfl rfl ⟨by decide, rfl⟩ rfl ?_
        refine e_goto (tgt := 2) aX2_swapArrowsAt_59 (by decide) ?_
        refine e_drop 3 (L2 := [some (.ref (x.2.2.1 + p0)), some (.int i1), some (.int (i2 + 1)), none]) rfl ?_
        exact ih _ _ h
      · refine e_icmp_eq (tgt := 30) aX2_swapArrowsAt_17 (by decide) (fun q => absurd q hc3) (fun _ => ?_)
        refine e_aload_n aX2_swapArrowsAt_20 rfl ?_
        refine e_getR (r := p0 + 2) aX2_swapArrowsAt_21 fX2_22 hp0.1 rfl ?_
        refine e_iload_n aX2_swapArrowsAt_24 rfl ?_
        obtain ⟨hg11, h⟩ := of_guard h
        refine e_iald aX2_swapArrowsAt_25 hp0.2.2.1 hg11 ?_
        refine e_iload_n aX2_swapArrowsAt_26 rfl ?_
        rcases of_ite h with ⟨hc12, h⟩ | ⟨hc12, h⟩
        · refine e_icmp_ne (tgt := 56) aX2_swapArrowsAt_27 (by decide) (fun q => absurd hc12 q) (fun _ => ?_)
          refine e_aload_n aX2_swapArrowsAt_30 rfl ?_
          refine e_getR (r := p0 + 1) aX2_swapArrowsAt_31 fX2_18 hp0.1 rfl ?_
          refine e_iload_n aX2_swapArrowsAt_34 rfl ?_
          obtain ⟨hg13, h⟩ := of_guard h
          refine e_iald aX2_swapArrowsAt_35 hp0.2.1 hg13 ?_
          obtain ⟨v14, ev14, h⟩ := of_lt h
          refine e_nameI ev14 ?_
          refine e_istore_n (L2 := [some (.ref (x.2.2.1 + p0)), some (.int i1), some (.int i2), some (.int v14)]) aX2_swapArrowsAt_36 ⟨by decide, rfl⟩ rfl ?_
          refine e_aload_n aX2_swapArrowsAt_37 rfl ?_
          refine e_getR (r := p0 + 1) aX2_swapArrowsAt_38 fX2_18 hp0.1 rfl ?_
          refine e_iload_n aX2_swapArrowsAt_41 rfl ?_
          refine e_aload_n aX2_swapArrowsAt_42 rfl ?_
          refine e_getR (r := p0 + 2) aX2_swapArrowsAt_43 fX2_22 hp0.1 rfl ?_
          refine e_iload_n aX2_swapArrowsAt_46 rfl ?_
          obtain ⟨hg15, h⟩ := of_guard h
          refine e_iald aX2_swapArrowsAt_47 hp0.2.2.1 hg15 ?_
          obtain ⟨hg16, h⟩ := of_guard h
          obtain ⟨M17, eM17, h⟩ := of_lt h
          refine e_ist aX2_swapArrowsAt_48 hp0.2.1 hg16 eM17 ?_
          refine e_aload_n aX2_swapArrowsAt_49 rfl ?_
          refine e_getR (r := p0 + 2) aX2_swapArrowsAt_50 fX2_22 hp0.1 rfl ?_
          refine e_iload_n aX2_swapArrowsAt_53 rfl ?_
          refine e_iload_n aX2_swapArrowsAt_54 rfl ?_
          obtain ⟨hg18, h⟩ := of_guard h
          obtain ⟨M19, eM19, h⟩ := of_lt h
          refine e_ist aX2_swapArrowsAt_55 hp0.2.2.1 hg18 eM19 ?_
          refine e_iinc (v := i2 + 1) (L2 := [some (.ref (x.2.2.1 + p0)), some (.int i1), some (.int (i2 + 1)), some (.int v14)]) aX2_swapArrowsAt_56 rfl rfl ⟨by decide, rfl⟩ rfl ?_
          refine e_goto (tgt := 2) aX2_swapArrowsAt_59 (by decide) ?_
          refine e_drop 3 (L2 := [some (.ref (x.2.2.1 + p0)), some (.int i1), some (.int (i2 + 1)), none]) rfl ?_
          exact ih _ _ h
        · refine e_icmp_ne (tgt := 56) aX2_swapArrowsAt_27 (by decide) (fun _ => ?_) (fun q => absurd q hc12)
          refine e_iinc (v := i2 + 1) (L2 := [some (.ref (x.2.2.1 + p0)), some (.int i1), some (.int (i2 + 1)), none]) aX2_swapArrowsAt_56 rfl rfl ⟨by decide, rfl⟩ rfl ?_
          refine e_goto (tgt := 2) aX2_swapArrowsAt_59 (by decide) ?_
          exact ih _ _ h
def f_X2_swapArrowsAt (p0 : Nat) (i1 : Int32) (M : Mem) : Option Mem :=
  f_X2_swapArrowsAt_2 p0 i1 (fun (i2_1 : Int32) (M2 : Mem) =>
    some M2) FU 0 M
set_option maxRecDepth 100000 in
set_option maxHeartbeats 4000000 in
theorem c_X2_swapArrowsAt (l : Launch) (x : WX) {p0 : Nat} {i1 : Int32} {M : Mem} {r : Mem} (hp0 : QA p0) (h : f_X2_swapArrowsAt p0 i1 M = some r) : Mt l x false yX2_swapArrowsAt cX2_swapArrowsAt 4 none 0 0 0 [.ref (x.2.2.1 + p0), .int i1] LAY M (pV r) := by
  refine mt_of (L0 := [some (.ref (x.2.2.1 + p0)), some (.int i1), none, none]) (by decide +kernel) rfl (Nat.le_of_ble_eq_true rfl) (lvA_of 2 rfl) ?_
  unfold f_X2_swapArrowsAt at h
  refine e_iconst (v := 0) aX2_swapArrowsAt_0 (by decide) ?_
  refine e_istore_n (L2 := [some (.ref (x.2.2.1 + p0)), some (.int i1), some (.int 0), none]) aX2_swapArrowsAt_1 ⟨by decide, rfl⟩ rfl ?_
  refine w_X2_swapArrowsAt_2 l x hp0 (fun i2_1 M2 h => ?_) FU _ _ h
  exact e_ret0 aX2_swapArrowsAt_62 rfl (pV_of h)
def s_X2_coming_4 (p0 : Nat) (i1 : Int32) (M : Mem) (k : Int32 → Int32 → Option Int32) (rec : Int32 → Int32 → Option Int32) (i2 : Int32) (i3 : Int32) : Option Int32 :=
  if M p0 1 ≤ i3 then
    k i2 i3
  else
    if i3 < 0 ∨ 10 ≤ i3.toNatClampNeg then none else
    if M (p0 + 2) i3.toNatClampNeg = i1 then
      rec (i2 + 1) (i3 + 1)
    else
      rec i2 (i3 + 1)
def f_X2_coming_4 (p0 : Nat) (i1 : Int32) (M : Mem) (k : Int32 → Int32 → Option Int32) : Nat → Int32 → Int32 → Option Int32
  | 0 => fun _ _ => none
  | n + 1 => fun i2 i3 => s_X2_coming_4 p0 i1 M k (f_X2_coming_4 p0 i1 M k n) i2 i3
set_option maxRecDepth 100000 in
set_option maxHeartbeats 4000000 in
theorem w_X2_coming_4 (l : Launch) (x : WX) {p0 : Nat} {i1 : Int32} {M : Mem} {k : Int32 → Int32 → Option Int32} {r : Int32} (hp0 : QA p0) (K : ∀ (i2 : Int32) (i3 : Int32), k i2 i3 = some r → Ev l x false cX2_coming RX2 (some FieldType.int) 4 0 0 0 (pI r M) 31 [some (.ref (x.2.2.1 + p0)), some (.int i1), some (.int i2), some (.int i3)] [] LAY M) : ∀ (n : Nat) (i2 : Int32) (i3 : Int32), f_X2_coming_4 p0 i1 M k n i2 i3 = some r → Ev l x false cX2_coming RX2 (some FieldType.int) 4 0 0 0 (pI r M) 4 [some (.ref (x.2.2.1 + p0)), some (.int i1), some (.int i2), some (.int i3)] [] LAY M := by
  intro n
  induction n with
  | zero =>
    intro i2 i3 h
    exact nomatch (show (none : Option Int32) = some r from h)
  | succ n ih =>
    intro i2 i3 h
    have h : s_X2_coming_4 p0 i1 M k (f_X2_coming_4 p0 i1 M k n) i2 i3 = some r := h
    unfold s_X2_coming_4 at h
    refine e_iload_n aX2_coming_4 rfl ?_
    refine e_aload_n aX2_coming_5 rfl ?_
    refine e_getI aX2_coming_6 fX2_15 hp0.1 rfl ?_
    rcases of_ite h with ⟨hc1, h⟩ | ⟨hc1, h⟩
    · refine e_icmp_ge (tgt := 31) aX2_coming_9 (by decide) (fun _ => ?_) (fun q => absurd hc1 q)
      exact K _ _ h
    · refine e_icmp_ge (tgt := 31) aX2_coming_9 (by decide) (fun q => absurd q hc1) (fun _ => ?_)
      refine e_aload_n aX2_coming_12 rfl ?_
      refine e_getR (r := p0 + 2) aX2_coming_13 fX2_22 hp0.1 rfl ?_
      refine e_iload_n aX2_coming_16 rfl ?_
      obtain ⟨hg2, h⟩ := of_guard h
      refine e_iald aX2_coming_17 hp0.2.2.1 hg2 ?_
      refine e_iload_n aX2_coming_18 rfl ?_
      rcases of_ite h with ⟨hc3, h⟩ | ⟨hc3, h⟩
      · refine e_icmp_ne (tgt := 25) aX2_coming_19 (by decide) (fun q => absurd hc3 q) (fun _ => ?_)
        refine e_iinc (v := i2 + 1) (L2 := [some (.ref (x.2.2.1 + p0)), some (.int i1), some (.int (i2 + 1)), some (.int i3)]) aX2_coming_22 rfl rfl ⟨by decide, rfl⟩ rfl ?_
        refine e_iinc (v := i3 + 1) (L2 := [some (.ref (x.2.2.1 + p0)), some (.int i1), some (.int (i2 + 1)), some (.int (i3 + 1))]) aX2_coming_25 rfl rfl ⟨by decide, rfl⟩ rfl ?_
        refine e_goto (tgt := 4) aX2_coming_28 (by decide) ?_
        exact ih _ _ h
      · refine e_icmp_ne (tgt := 25) aX2_coming_19 (by decide) (fun _ => ?_) (fun q => absurd q hc3)
        refine e_iinc (v := i3 + 1) (L2 := [some (.ref (x.2.2.1 + p0)), some (.int i1), some (.int i2), some (.int (i3 + 1))]) aX2_coming_25 rfl rfl ⟨by decide, rfl⟩ rfl ?_
        refine e_goto (tgt := 4) aX2_coming_28 (by decide) ?_
        exact ih _ _ h
def f_X2_coming (p0 : Nat) (i1 : Int32) (M : Mem) : Option Int32 :=
  f_X2_coming_4 p0 i1 M (fun (i2_1 : Int32) (i3_2 : Int32) =>
    some i2_1) FU 0 0
set_option maxRecDepth 100000 in
set_option maxHeartbeats 4000000 in
theorem c_X2_coming (l : Launch) (x : WX) {p0 : Nat} {i1 : Int32} {M : Mem} {r : Int32} (hp0 : QA p0) (h : f_X2_coming p0 i1 M = some r) : Mt l x false yX2_coming cX2_coming 4 (some FieldType.int) 0 0 0 [.ref (x.2.2.1 + p0), .int i1] LAY M (pI r M) := by
  refine mt_of (L0 := [some (.ref (x.2.2.1 + p0)), some (.int i1), none, none]) (by decide +kernel) rfl (Nat.le_of_ble_eq_true rfl) (lvA_of 2 rfl) ?_
  unfold f_X2_coming at h
  refine e_iconst (v := 0) aX2_coming_0 (by decide) ?_
  refine e_istore_n (L2 := [some (.ref (x.2.2.1 + p0)), some (.int i1), some (.int 0), none]) aX2_coming_1 ⟨by decide, rfl⟩ rfl ?_
  refine e_iconst (v := 0) aX2_coming_2 (by decide) ?_
  refine e_istore_n (L2 := [some (.ref (x.2.2.1 + p0)), some (.int i1), some (.int 0), some (.int 0)]) aX2_coming_3 ⟨by decide, rfl⟩ rfl ?_
  refine w_X2_coming_4 l x hp0 (fun i2_1 i3_2 h => ?_) FU _ _ h
  refine e_iload_n aX2_coming_31 rfl ?_
  exact e_retI aX2_coming_32 rfl rfl (pI_ro h)
def s_X2_going_4 (p0 : Nat) (i1 : Int32) (M : Mem) (k : Int32 → Int32 → Option Int32) (rec : Int32 → Int32 → Option Int32) (i2 : Int32) (i3 : Int32) : Option Int32 :=
  if M p0 1 ≤ i3 then
    k i2 i3
  else
    if i3 < 0 ∨ 10 ≤ i3.toNatClampNeg then none else
    if M (p0 + 1) i3.toNatClampNeg = i1 then
      rec (i2 + 1) (i3 + 1)
    else
      rec i2 (i3 + 1)
def f_X2_going_4 (p0 : Nat) (i1 : Int32) (M : Mem) (k : Int32 → Int32 → Option Int32) : Nat → Int32 → Int32 → Option Int32
  | 0 => fun _ _ => none
  | n + 1 => fun i2 i3 => s_X2_going_4 p0 i1 M k (f_X2_going_4 p0 i1 M k n) i2 i3
set_option maxRecDepth 100000 in
set_option maxHeartbeats 4000000 in
theorem w_X2_going_4 (l : Launch) (x : WX) {p0 : Nat} {i1 : Int32} {M : Mem} {k : Int32 → Int32 → Option Int32} {r : Int32} (hp0 : QA p0) (K : ∀ (i2 : Int32) (i3 : Int32), k i2 i3 = some r → Ev l x false cX2_going RX2 (some FieldType.int) 4 0 0 0 (pI r M) 31 [some (.ref (x.2.2.1 + p0)), some (.int i1), some (.int i2), some (.int i3)] [] LAY M) : ∀ (n : Nat) (i2 : Int32) (i3 : Int32), f_X2_going_4 p0 i1 M k n i2 i3 = some r → Ev l x false cX2_going RX2 (some FieldType.int) 4 0 0 0 (pI r M) 4 [some (.ref (x.2.2.1 + p0)), some (.int i1), some (.int i2), some (.int i3)] [] LAY M := by
  intro n
  induction n with
  | zero =>
    intro i2 i3 h
    exact nomatch (show (none : Option Int32) = some r from h)
  | succ n ih =>
    intro i2 i3 h
    have h : s_X2_going_4 p0 i1 M k (f_X2_going_4 p0 i1 M k n) i2 i3 = some r := h
    unfold s_X2_going_4 at h
    refine e_iload_n aX2_going_4 rfl ?_
    refine e_aload_n aX2_going_5 rfl ?_
    refine e_getI aX2_going_6 fX2_15 hp0.1 rfl ?_
    rcases of_ite h with ⟨hc1, h⟩ | ⟨hc1, h⟩
    · refine e_icmp_ge (tgt := 31) aX2_going_9 (by decide) (fun _ => ?_) (fun q => absurd hc1 q)
      exact K _ _ h
    · refine e_icmp_ge (tgt := 31) aX2_going_9 (by decide) (fun q => absurd q hc1) (fun _ => ?_)
      refine e_aload_n aX2_going_12 rfl ?_
      refine e_getR (r := p0 + 1) aX2_going_13 fX2_18 hp0.1 rfl ?_
      refine e_iload_n aX2_going_16 rfl ?_
      obtain ⟨hg2, h⟩ := of_guard h
      refine e_iald aX2_going_17 hp0.2.1 hg2 ?_
      refine e_iload_n aX2_going_18 rfl ?_
      rcases of_ite h with ⟨hc3, h⟩ | ⟨hc3, h⟩
      · refine e_icmp_ne (tgt := 25) aX2_going_19 (by decide) (fun q => absurd hc3 q) (fun _ => ?_)
        refine e_iinc (v := i2 + 1) (L2 := [some (.ref (x.2.2.1 + p0)), some (.int i1), some (.int (i2 + 1)), some (.int i3)]) aX2_going_22 rfl rfl ⟨by decide, rfl⟩ rfl ?_
        refine e_iinc (v := i3 + 1) (L2 := [some (.ref (x.2.2.1 + p0)), some (.int i1), some (.int (i2 + 1)), some (.int (i3 + 1))]) aX2_going_25 rfl rfl ⟨by decide, rfl⟩ rfl ?_
        refine e_goto (tgt := 4) aX2_going_28 (by decide) ?_
        exact ih _ _ h
      · refine e_icmp_ne (tgt := 25) aX2_going_19 (by decide) (fun _ => ?_) (fun q => absurd q hc3)
        refine e_iinc (v := i3 + 1) (L2 := [some (.ref (x.2.2.1 + p0)), some (.int i1), some (.int i2), some (.int (i3 + 1))]) aX2_going_25 rfl rfl ⟨by decide, rfl⟩ rfl ?_
        refine e_goto (tgt := 4) aX2_going_28 (by decide) ?_
        exact ih _ _ h
def f_X2_going (p0 : Nat) (i1 : Int32) (M : Mem) : Option Int32 :=
  f_X2_going_4 p0 i1 M (fun (i2_1 : Int32) (i3_2 : Int32) =>
    some i2_1) FU 0 0
set_option maxRecDepth 100000 in
set_option maxHeartbeats 4000000 in
theorem c_X2_going (l : Launch) (x : WX) {p0 : Nat} {i1 : Int32} {M : Mem} {r : Int32} (hp0 : QA p0) (h : f_X2_going p0 i1 M = some r) : Mt l x false yX2_going cX2_going 4 (some FieldType.int) 0 0 0 [.ref (x.2.2.1 + p0), .int i1] LAY M (pI r M) := by
  refine mt_of (L0 := [some (.ref (x.2.2.1 + p0)), some (.int i1), none, none]) (by decide +kernel) rfl (Nat.le_of_ble_eq_true rfl) (lvA_of 2 rfl) ?_
  unfold f_X2_going at h
  refine e_iconst (v := 0) aX2_going_0 (by decide) ?_
  refine e_istore_n (L2 := [some (.ref (x.2.2.1 + p0)), some (.int i1), some (.int 0), none]) aX2_going_1 ⟨by decide, rfl⟩ rfl ?_
  refine e_iconst (v := 0) aX2_going_2 (by decide) ?_
  refine e_istore_n (L2 := [some (.ref (x.2.2.1 + p0)), some (.int i1), some (.int 0), some (.int 0)]) aX2_going_3 ⟨by decide, rfl⟩ rfl ?_
  refine w_X2_going_4 l x hp0 (fun i2_1 i3_2 h => ?_) FU _ _ h
  refine e_iload_n aX2_going_31 rfl ?_
  exact e_retI aX2_going_32 rfl rfl (pI_ro h)
def f_X2_isSink (p0 : Nat) (i1 : Int32) (M : Mem) : Option Int32 :=
  (f_X2_going p0 i1 M).bind fun (r1 : Int32) =>
  if r1 = 0 then
    some 1
  else
    some 0
set_option maxRecDepth 100000 in
set_option maxHeartbeats 4000000 in
theorem c_X2_isSink (l : Launch) (x : WX) {p0 : Nat} {i1 : Int32} {M : Mem} {r : Int32} (hp0 : QA p0) (h : f_X2_isSink p0 i1 M = some r) : Mt l x false yX2_isSink cX2_isSink 2 (some FieldType.boolean) 1 0 0 [.ref (x.2.2.1 + p0), .int i1] LAY M (pI r M) := by
  refine mt_of (L0 := [some (.ref (x.2.2.1 + p0)), some (.int i1)]) (by decide +kernel) rfl (Nat.le_of_ble_eq_true rfl) (lvA_of 0 rfl) ?_
  unfold f_X2_isSink at h
  refine e_aload_n aX2_isSink_0 rfl ?_
  refine e_iload_n aX2_isSink_1 rfl ?_
  obtain ⟨r1, hr1, h⟩ := of_bind h
  refine e_VI [] aX2_isSink_2 co_X2_going mX2_38 hp0.1 rfl rfl (c_X2_going l x hp0 hr1) rfl ⟨by decide, by decide⟩ (Nat.le_of_ble_eq_true rfl) rfl ?_
  rcases of_ite h with ⟨hc2, h⟩ | ⟨hc2, h⟩
  · refine e_if_ne (tgt := 12) aX2_isSink_5 (by decide) (fun q => absurd hc2 q) (fun _ => ?_)
    refine e_iconst (v := 1) aX2_isSink_8 (by decide) ?_
    refine e_goto (tgt := 13) aX2_isSink_9 (by decide) ?_
    exact e_retI aX2_isSink_13 rfl (by decide +kernel) (pI_ro h)
  · refine e_if_ne (tgt := 12) aX2_isSink_5 (by decide) (fun _ => ?_) (fun q => absurd q hc2)
    refine e_iconst (v := 0) aX2_isSink_12 (by decide) ?_
    exact e_retI aX2_isSink_13 rfl (by decide +kernel) (pI_ro h)
def f_X2_isSource (p0 : Nat) (i1 : Int32) (M : Mem) : Option Int32 :=
  (f_X2_coming p0 i1 M).bind fun (r1 : Int32) =>
  if r1 = 0 then
    some 1
  else
    some 0
set_option maxRecDepth 100000 in
set_option maxHeartbeats 4000000 in
theorem c_X2_isSource (l : Launch) (x : WX) {p0 : Nat} {i1 : Int32} {M : Mem} {r : Int32} (hp0 : QA p0) (h : f_X2_isSource p0 i1 M = some r) : Mt l x false yX2_isSource cX2_isSource 2 (some FieldType.boolean) 1 0 0 [.ref (x.2.2.1 + p0), .int i1] LAY M (pI r M) := by
  refine mt_of (L0 := [some (.ref (x.2.2.1 + p0)), some (.int i1)]) (by decide +kernel) rfl (Nat.le_of_ble_eq_true rfl) (lvA_of 0 rfl) ?_
  unfold f_X2_isSource at h
  refine e_aload_n aX2_isSource_0 rfl ?_
  refine e_iload_n aX2_isSource_1 rfl ?_
  obtain ⟨r1, hr1, h⟩ := of_bind h
  refine e_VI [] aX2_isSource_2 co_X2_coming mX2_42 hp0.1 rfl rfl (c_X2_coming l x hp0 hr1) rfl ⟨by decide, by decide⟩ (Nat.le_of_ble_eq_true rfl) rfl ?_
  rcases of_ite h with ⟨hc2, h⟩ | ⟨hc2, h⟩
  · refine e_if_ne (tgt := 12) aX2_isSource_5 (by decide) (fun q => absurd hc2 q) (fun _ => ?_)
    refine e_iconst (v := 1) aX2_isSource_8 (by decide) ?_
    refine e_goto (tgt := 13) aX2_isSource_9 (by decide) ?_
    exact e_retI aX2_isSource_13 rfl (by decide +kernel) (pI_ro h)
  · refine e_if_ne (tgt := 12) aX2_isSource_5 (by decide) (fun _ => ?_) (fun q => absurd q hc2)
    refine e_iconst (v := 0) aX2_isSource_12 (by decide) ?_
    exact e_retI aX2_isSource_13 rfl (by decide +kernel) (pI_ro h)
def s_X2_sinks_4 (p0 : Nat) (M : Mem) (k : Int32 → Int32 → Option Int32) (rec : Int32 → Int32 → Option Int32) (i1 : Int32) (i2 : Int32) : Option Int32 :=
  if M p0 0 ≤ i2 then
    k i1 i2
  else
    (f_X2_isSink p0 i2 M).bind fun (r2 : Int32) =>
    if r2 = 0 then
      rec i1 (i2 + 1)
    else
      lt (i1 ||| (1 <<< (i2 &&& 31))) fun (v4 : Int32) =>
      rec v4 (i2 + 1)
def f_X2_sinks_4 (p0 : Nat) (M : Mem) (k : Int32 → Int32 → Option Int32) : Nat → Int32 → Int32 → Option Int32
  | 0 => fun _ _ => none
  | n + 1 => fun i1 i2 => s_X2_sinks_4 p0 M k (f_X2_sinks_4 p0 M k n) i1 i2
set_option maxRecDepth 100000 in
set_option maxHeartbeats 4000000 in
theorem w_X2_sinks_4 (l : Launch) (x : WX) {p0 : Nat} {M : Mem} {k : Int32 → Int32 → Option Int32} {r : Int32} (hp0 : QA p0) (K : ∀ (i1 : Int32) (i2 : Int32), k i1 i2 = some r → Ev l x false cX2_sinks RX2 (some FieldType.int) 3 2 0 0 (pI r M) 32 [some (.ref (x.2.2.1 + p0)), some (.int i1), some (.int i2)] [] LAY M) : ∀ (n : Nat) (i1 : Int32) (i2 : Int32), f_X2_sinks_4 p0 M k n i1 i2 = some r → Ev l x false cX2_sinks RX2 (some FieldType.int) 3 2 0 0 (pI r M) 4 [some (.ref (x.2.2.1 + p0)), some (.int i1), some (.int i2)] [] LAY M := by
  intro n
  induction n with
  | zero =>
    intro i1 i2 h
    exact nomatch (show (none : Option Int32) = some r from h)
  | succ n ih =>
    intro i1 i2 h
    have h : s_X2_sinks_4 p0 M k (f_X2_sinks_4 p0 M k n) i1 i2 = some r := h
    unfold s_X2_sinks_4 at h
    refine e_iload_n aX2_sinks_4 rfl ?_
    refine e_aload_n aX2_sinks_5 rfl ?_
    refine e_getI aX2_sinks_6 fX2_9 hp0.1 rfl ?_
    rcases of_ite h with ⟨hc1, h⟩ | ⟨hc1, h⟩
    · refine e_icmp_ge (tgt := 32) aX2_sinks_9 (by decide) (fun _ => ?_) (fun q => absurd hc1 q)
      exact K _ _ h
    · refine e_icmp_ge (tgt := 32) aX2_sinks_9 (by decide) (fun q => absurd q hc1) (fun _ => ?_)
      refine e_aload_n aX2_sinks_12 rfl ?_
      refine e_iload_n aX2_sinks_13 rfl ?_
      obtain ⟨r2, hr2, h⟩ := of_bind h
      refine e_VI [] aX2_sinks_14 co_X2_isSink mX2_45 hp0.1 rfl rfl (c_X2_isSink l x hp0 hr2) rfl ⟨by decide, by decide⟩ (Nat.le_of_ble_eq_true rfl) rfl ?_
      rcases of_ite h with ⟨hc3, h⟩ | ⟨hc3, h⟩
      · refine e_if_eq (tgt := 26) aX2_sinks_17 (by decide) (fun _ => ?_) (fun q => absurd hc3 q)
        refine e_iinc (v := i2 + 1) (L2 := [some (.ref (x.2.2.1 + p0)), some (.int i1), some (.int (i2 + 1))]) aX2_sinks_26 rfl rfl ⟨by decide, rfl⟩ rfl ?_
        refine e_goto (tgt := 4) aX2_sinks_29 (by decide) ?_
        exact ih _ _ h
      · refine e_if_eq (tgt := 26) aX2_sinks_17 (by decide) (fun q => absurd q hc3) (fun _ => ?_)
        refine e_iload_n aX2_sinks_20 rfl ?_
        refine e_iconst (v := 1) aX2_sinks_21 (by decide) ?_
        refine e_iload_n aX2_sinks_22 rfl ?_
        refine e_ishl aX2_sinks_23 ?_
        refine e_ior aX2_sinks_24 ?_
        obtain ⟨v4, ev4, h⟩ := of_lt h
        refine e_nameI ev4 ?_
        refine e_istore_n (L2 := [some (.ref (x.2.2.1 + p0)), some (.int v4), some (.int i2)]) aX2_sinks_25 ⟨by decide, rfl⟩ rfl ?_
        refine e_iinc (v := i2 + 1) (L2 := [some (.ref (x.2.2.1 + p0)), some (.int v4), some (.int (i2 + 1))]) aX2_sinks_26 rfl rfl ⟨by decide, rfl⟩ rfl ?_
        refine e_goto (tgt := 4) aX2_sinks_29 (by decide) ?_
        exact ih _ _ h
def f_X2_sinks (p0 : Nat) (M : Mem) : Option Int32 :=
  f_X2_sinks_4 p0 M (fun (i1_1 : Int32) (i2_2 : Int32) =>
    some i1_1) FU 0 0
set_option maxRecDepth 100000 in
set_option maxHeartbeats 4000000 in
theorem c_X2_sinks (l : Launch) (x : WX) {p0 : Nat} {M : Mem} {r : Int32} (hp0 : QA p0) (h : f_X2_sinks p0 M = some r) : Mt l x false yX2_sinks cX2_sinks 3 (some FieldType.int) 2 0 0 [.ref (x.2.2.1 + p0)] LAY M (pI r M) := by
  refine mt_of (L0 := [some (.ref (x.2.2.1 + p0)), none, none]) (by decide +kernel) rfl (Nat.le_of_ble_eq_true rfl) (lvA_of 2 rfl) ?_
  unfold f_X2_sinks at h
  refine e_iconst (v := 0) aX2_sinks_0 (by decide) ?_
  refine e_istore_n (L2 := [some (.ref (x.2.2.1 + p0)), some (.int 0), none]) aX2_sinks_1 ⟨by decide, rfl⟩ rfl ?_
  refine e_iconst (v := 0) aX2_sinks_2 (by decide) ?_
  refine e_istore_n (L2 := [some (.ref (x.2.2.1 + p0)), some (.int 0), some (.int 0)]) aX2_sinks_3 ⟨by decide, rfl⟩ rfl ?_
  refine w_X2_sinks_4 l x hp0 (fun i1_1 i2_2 h => ?_) FU _ _ h
  refine e_iload_n aX2_sinks_32 rfl ?_
  exact e_retI aX2_sinks_33 rfl rfl (pI_ro h)
def s_X2_sources_4 (p0 : Nat) (M : Mem) (k : Int32 → Int32 → Option Int32) (rec : Int32 → Int32 → Option Int32) (i1 : Int32) (i2 : Int32) : Option Int32 :=
  if M p0 0 ≤ i2 then
    k i1 i2
  else
    (f_X2_isSource p0 i2 M).bind fun (r2 : Int32) =>
    if r2 = 0 then
      rec i1 (i2 + 1)
    else
      lt (i1 ||| (1 <<< (i2 &&& 31))) fun (v4 : Int32) =>
      rec v4 (i2 + 1)
def f_X2_sources_4 (p0 : Nat) (M : Mem) (k : Int32 → Int32 → Option Int32) : Nat → Int32 → Int32 → Option Int32
  | 0 => fun _ _ => none
  | n + 1 => fun i1 i2 => s_X2_sources_4 p0 M k (f_X2_sources_4 p0 M k n) i1 i2
set_option maxRecDepth 100000 in
set_option maxHeartbeats 4000000 in
theorem w_X2_sources_4 (l : Launch) (x : WX) {p0 : Nat} {M : Mem} {k : Int32 → Int32 → Option Int32} {r : Int32} (hp0 : QA p0) (K : ∀ (i1 : Int32) (i2 : Int32), k i1 i2 = some r → Ev l x false cX2_sources RX2 (some FieldType.int) 3 2 0 0 (pI r M) 32 [some (.ref (x.2.2.1 + p0)), some (.int i1), some (.int i2)] [] LAY M) : ∀ (n : Nat) (i1 : Int32) (i2 : Int32), f_X2_sources_4 p0 M k n i1 i2 = some r → Ev l x false cX2_sources RX2 (some FieldType.int) 3 2 0 0 (pI r M) 4 [some (.ref (x.2.2.1 + p0)), some (.int i1), some (.int i2)] [] LAY M := by
  intro n
  induction n with
  | zero =>
    intro i1 i2 h
    exact nomatch (show (none : Option Int32) = some r from h)
  | succ n ih =>
    intro i1 i2 h
    have h : s_X2_sources_4 p0 M k (f_X2_sources_4 p0 M k n) i1 i2 = some r := h
    unfold s_X2_sources_4 at h
    refine e_iload_n aX2_sources_4 rfl ?_
    refine e_aload_n aX2_sources_5 rfl ?_
    refine e_getI aX2_sources_6 fX2_9 hp0.1 rfl ?_
    rcases of_ite h with ⟨hc1, h⟩ | ⟨hc1, h⟩
    · refine e_icmp_ge (tgt := 32) aX2_sources_9 (by decide) (fun _ => ?_) (fun q => absurd hc1 q)
      exact K _ _ h
    · refine e_icmp_ge (tgt := 32) aX2_sources_9 (by decide) (fun q => absurd q hc1) (fun _ => ?_)
      refine e_aload_n aX2_sources_12 rfl ?_
      refine e_iload_n aX2_sources_13 rfl ?_
      obtain ⟨r2, hr2, h⟩ := of_bind h
      refine e_VI [] aX2_sources_14 co_X2_isSource mX2_49 hp0.1 rfl rfl (c_X2_isSource l x hp0 hr2) rfl ⟨by decide, by decide⟩ (Nat.le_of_ble_eq_true rfl) rfl ?_
      rcases of_ite h with ⟨hc3, h⟩ | ⟨hc3, h⟩
      · refine e_if_eq (tgt := 26) aX2_sources_17 (by decide) (fun _ => ?_) (fun q => absurd hc3 q)
        refine e_iinc (v := i2 + 1) (L2 := [some (.ref (x.2.2.1 + p0)), some (.int i1), some (.int (i2 + 1))]) aX2_sources_26 rfl rfl ⟨by decide, rfl⟩ rfl ?_
        refine e_goto (tgt := 4) aX2_sources_29 (by decide) ?_
        exact ih _ _ h
      · refine e_if_eq (tgt := 26) aX2_sources_17 (by decide) (fun q => absurd q hc3) (fun _ => ?_)
        refine e_iload_n aX2_sources_20 rfl ?_
        refine e_iconst (v := 1) aX2_sources_21 (by decide) ?_
        refine e_iload_n aX2_sources_22 rfl ?_
        refine e_ishl aX2_sources_23 ?_
        refine e_ior aX2_sources_24 ?_
        obtain ⟨v4, ev4, h⟩ := of_lt h
        refine e_nameI ev4 ?_
        refine e_istore_n (L2 := [some (.ref (x.2.2.1 + p0)), some (.int v4), some (.int i2)]) aX2_sources_25 ⟨by decide, rfl⟩ rfl ?_
        refine e_iinc (v := i2 + 1) (L2 := [some (.ref (x.2.2.1 + p0)), some (.int v4), some (.int (i2 + 1))]) aX2_sources_26 rfl rfl ⟨by decide, rfl⟩ rfl ?_
        refine e_goto (tgt := 4) aX2_sources_29 (by decide) ?_
        exact ih _ _ h
def f_X2_sources (p0 : Nat) (M : Mem) : Option Int32 :=
  f_X2_sources_4 p0 M (fun (i1_1 : Int32) (i2_2 : Int32) =>
    some i1_1) FU 0 0
set_option maxRecDepth 100000 in
set_option maxHeartbeats 4000000 in
theorem c_X2_sources (l : Launch) (x : WX) {p0 : Nat} {M : Mem} {r : Int32} (hp0 : QA p0) (h : f_X2_sources p0 M = some r) : Mt l x false yX2_sources cX2_sources 3 (some FieldType.int) 2 0 0 [.ref (x.2.2.1 + p0)] LAY M (pI r M) := by
  refine mt_of (L0 := [some (.ref (x.2.2.1 + p0)), none, none]) (by decide +kernel) rfl (Nat.le_of_ble_eq_true rfl) (lvA_of 2 rfl) ?_
  unfold f_X2_sources at h
  refine e_iconst (v := 0) aX2_sources_0 (by decide) ?_
  refine e_istore_n (L2 := [some (.ref (x.2.2.1 + p0)), some (.int 0), none]) aX2_sources_1 ⟨by decide, rfl⟩ rfl ?_
  refine e_iconst (v := 0) aX2_sources_2 (by decide) ?_
  refine e_istore_n (L2 := [some (.ref (x.2.2.1 + p0)), some (.int 0), some (.int 0)]) aX2_sources_3 ⟨by decide, rfl⟩ rfl ?_
  refine w_X2_sources_4 l x hp0 (fun i1_1 i2_2 h => ?_) FU _ _ h
  refine e_iload_n aX2_sources_32 rfl ?_
  exact e_retI aX2_sources_33 rfl rfl (pI_ro h)
def s_X2_reached_19 (p0 : Nat) (i1 : Int32) (i2 : Int32) (i4 : Int32) (M : Mem) (k : Int32 → Int32 → Option Int32) (rec : Int32 → Int32 → Option Int32) (i3 : Int32) (i5 : Int32) : Option Int32 :=
  if M p0 1 ≤ i5 then
    k i3 i5
  else
    if i5 < 0 ∨ 10 ≤ i5.toNatClampNeg then none else
    lt (1 <<< ((M (p0 + 1) i5.toNatClampNeg) &&& 31)) fun (v3 : Int32) =>
    if i5 < 0 ∨ 10 ≤ i5.toNatClampNeg then none else
    lt (1 <<< ((M (p0 + 2) i5.toNatClampNeg) &&& 31)) fun (v5 : Int32) =>
    if i3 &&& v3 = 0 then
      if i2 = 0 then
        rec i3 (i5 + 1)
      else
        if i3 &&& v5 = 0 then
          rec i3 (i5 + 1)
        else
          lt (i3 ||| v3) fun (v9 : Int32) =>
          rec v9 (i5 + 1)
    else
      lt (i3 ||| v5) fun (v10 : Int32) =>
      if i2 = 0 then
        rec v10 (i5 + 1)
      else
        if v10 &&& v5 = 0 then
          rec v10 (i5 + 1)
        else
          lt (v10 ||| v3) fun (v13 : Int32) =>
          rec v13 (i5 + 1)
def f_X2_reached_19 (p0 : Nat) (i1 : Int32) (i2 : Int32) (i4 : Int32) (M : Mem) (k : Int32 → Int32 → Option Int32) : Nat → Int32 → Int32 → Option Int32
  | 0 => fun _ _ => none
  | n + 1 => fun i3 i5 => s_X2_reached_19 p0 i1 i2 i4 M k (f_X2_reached_19 p0 i1 i2 i4 M k n) i3 i5
set_option maxRecDepth 100000 in
set_option maxHeartbeats 4000000 in
theorem w_X2_reached_19 (l : Launch) (x : WX) {p0 : Nat} {i1 : Int32} {i2 : Int32} {i4 : Int32} {M : Mem} {k : Int32 → Int32 → Option Int32} {r : Int32} (hp0 : QA p0) (K : ∀ (i3 : Int32) (i5 : Int32), k i3 i5 = some r → Ev l x false cX2_reached RX2 (some FieldType.int) 8 0 0 0 (pI r M) 84 [some (.ref (x.2.2.1 + p0)), some (.int i1), some (.int i2), some (.int i3), some (.int i4), some (.int i5), none, none] [] LAY M) : ∀ (n : Nat) (i3 : Int32) (i5 : Int32), f_X2_reached_19 p0 i1 i2 i4 M k n i3 i5 = some r → Ev l x false cX2_reached RX2 (some FieldType.int) 8 0 0 0 (pI r M) 19 [some (.ref (x.2.2.1 + p0)), some (.int i1), some (.int i2), some (.int i3), some (.int i4), some (.int i5), none, none] [] LAY M := by
  intro n
  induction n with
  | zero =>
    intro i3 i5 h
    exact nomatch (show (none : Option Int32) = some r from h)
  | succ n ih =>
    intro i3 i5 h
    have h : s_X2_reached_19 p0 i1 i2 i4 M k (f_X2_reached_19 p0 i1 i2 i4 M k n) i3 i5 = some r := h
    unfold s_X2_reached_19 at h
    refine e_iload aX2_reached_19 rfl ?_
    refine e_aload_n aX2_reached_21 rfl ?_
    refine e_getI aX2_reached_22 fX2_15 hp0.1 rfl ?_
    rcases of_ite h with ⟨hc1, h⟩ | ⟨hc1, h⟩
    · refine e_icmp_ge (tgt := 84) aX2_reached_25 (by decide) (fun _ => ?_) (fun q => absurd hc1 q)
      exact K _ _ h
    · refine e_icmp_ge (tgt := 84) aX2_reached_25 (by decide) (fun q => absurd q hc1) (fun _ => ?_)
      refine e_iconst (v := 1) aX2_reached_28 (by decide) ?_
      refine e_aload_n aX2_reached_29 rfl ?_
      refine e_getR (r := p0 + 1) aX2_reached_30 fX2_18 hp0.1 rfl ?_
      refine e_iload aX2_reached_33 rfl ?_
      obtain ⟨hg2, h⟩ := of_guard h
      refine e_iald aX2_reached_35 hp0.2.1 hg2 ?_
      refine e_ishl aX2_reached_36 ?_
      obtain ⟨v3, ev3, h⟩ := of_lt h
      refine e_nameI ev3 ?_
      refine e_istore (L2 := [some (.ref (x.2.2.1 + p0)), some (.int i1), some (.int i2), some (.int i3), some (.int i4), some (.int i5), some (.int v3), none]) aX2_reached_37 ⟨by decide, rfl⟩ rfl ?_
      refine e_iconst (v := 1) aX2_reached_39 (by decide) ?_
      refine e_aload_n aX2_reached_40 rfl ?_
      refine e_getR (r := p0 + 2) aX2_reached_41 fX2_22 hp0.1 rfl ?_
      refine e_iload aX2_reached_44 rfl ?_
      obtain ⟨hg4, h⟩ := of_guard h
      refine e_iald aX2_reached_46 hp0.2.2.1 hg4 ?_
      refine e_ishl aX2_reached_47 ?_
      obtain ⟨v5, ev5, h⟩ := of_lt h
      refine e_nameI ev5 ?_
      refine e_istore (L2 := [some (.ref (x.2.2.1 + p0)), some (.int i1), some (.int i2), some (.int i3), some (.int i4), some (.int i5), some (.int v3), some (.int v5)]) aX2_reached_48 ⟨by decide, rfl⟩ rfl ?_
      refine e_iload_n aX2_reached_50 rfl ?_
      refine e_iload aX2_reached_51 rfl ?_
      refine e_iand aX2_reached_53 ?_
      rcases of_ite h with ⟨hc6, h⟩ | ⟨hc6, h⟩
      · refine e_if_eq (tgt := 62) aX2_reached_54 (by decide) (fun _ => ?_) (fun q => absurd hc6 q)
        refine e_iload_n aX2_reached_62 rfl ?_
        rcases of_ite h with ⟨hc7, h⟩ | ⟨hc7, h⟩
        · refine e_if_eq (tgt := 78) aX2_reached_63 (by decide) (fun _ => ?_) (fun q => absurd hc7 q)
          refine e_iinc (v := i5 + 1) (L2 := [some (.ref (x.2.2.1 + p0)), some (.int i1), some (.int i2), some (.int i3), some (.int i4), some (.int (i5 + 1)), some (.int v3), some (.int v5)]) aX2_reached_78 rfl rfl ⟨by decide, rfl⟩ rfl ?_
          refine e_goto (tgt := 19) aX2_reached_81 (by decide) ?_
          refine e_drop 6 (L2 := [some (.ref (x.2.2.1 + p0)), some (.int i1), some (.int i2), some (.int i3), some (.int i4), some (.int (i5 + 1)), none, some (.int v5)]) rfl ?_
          refine e_drop 7 (L2 := [some (.ref (x.2.2.1 + p0)), some (.int i1), some (.int i2), some (.int i3), some (.int i4), some (.int (i5 + 1)), none, none]) rfl ?_
          exact ih _ _ h
        · refine e_if_eq (tgt := 78) aX2_reached_63 (by decide) (fun q => absurd q hc7) (fun _ => ?_)
          refine e_iload_n aX2_reached_66 rfl ?_
          refine e_iload aX2_reached_67 rfl ?_
          refine e_iand aX2_reached_69 ?_
          rcases of_ite h with ⟨hc8, h⟩ | ⟨hc8, h⟩
          · refine e_if_eq (tgt := 78) aX2_reached_70 (by decide) (fun _ => ?_) (fun q => absurd hc8 q)
            refine e_iinc (v := i5 + 1) (L2 := [some (.ref (x.2.2.1 + p0)), some (.int i1), some (.int i2), some (.int i3), some (.int i4), some (.int (i5 + 1)), some (.int v3), some (.int v5)]) aX2_reached_78 rfl rfl ⟨by decide, rfl⟩ rfl ?_
            refine e_goto (tgt := 19) aX2_reached_81 (by decide) ?_
            refine e_drop 6 (L2 := [some (.ref (x.2.2.1 + p0)), some (.int i1), some (.int i2), some (.int i3), some (.int i4), some (.int (i5 + 1)), none, some (.int v5)]) rfl ?_
            refine e_drop 7 (L2 := [some (.ref (x.2.2.1 + p0)), some (.int i1), some (.int i2), some (.int i3), some (.int i4), some (.int (i5 + 1)), none, none]) rfl ?_
            exact ih _ _ h
          · refine e_if_eq (tgt := 78) aX2_reached_70 (by decide) (fun q => absurd q hc8) (fun _ => ?_)
            refine e_iload_n aX2_reached_73 rfl ?_
            refine e_iload aX2_reached_74 rfl ?_
            refine e_ior aX2_reached_76 ?_
            obtain ⟨v9, ev9, h⟩ := of_lt h
            refine e_nameI ev9 ?_
            refine e_istore_n (L2 := [some (.ref (x.2.2.1 + p0)), some (.int i1), some (.int i2), some (.int v9), some (.int i4), some (.int i5), some (.int v3), some (.int v5)]) aX2_reached_77 ⟨by decide, rfl⟩ rfl ?_
            refine e_iinc (v := i5 + 1) (L2 := [some (.ref (x.2.2.1 + p0)), some (.int i1), some (.int i2), some (.int v9), some (.int i4), some (.int (i5 + 1)), some (.int v3), some (.int v5)]) aX2_reached_78 rfl rfl ⟨by decide, rfl⟩ rfl ?_
            refine e_goto (tgt := 19) aX2_reached_81 (by decide) ?_
            refine e_drop 6 (L2 := [some (.ref (x.2.2.1 + p0)), some (.int i1), some (.int i2), some (.int v9), some (.int i4), some (.int (i5 + 1)), none, some (.int v5)]) rfl ?_
            refine e_drop 7 (L2 := [some (.ref (x.2.2.1 + p0)), some (.int i1), some (.int i2), some (.int v9), some (.int i4), some (.int (i5 + 1)), none, none]) rfl ?_
            exact ih _ _ h
      · refine e_if_eq (tgt := 62) aX2_reached_54 (by decide) (fun q => absurd q hc6) (fun _ => ?_)
        refine e_iload_n aX2_reached_57 rfl ?_
        refine e_iload aX2_reached_58 rfl ?_
        refine e_ior aX2_reached_60 ?_
        obtain ⟨v10, ev10, h⟩ := of_lt h
        refine e_nameI ev10 ?_
        refine e_istore_n (L2 := [some (.ref (x.2.2.1 + p0)), some (.int i1), some (.int i2), some (.int v10), some (.int i4), some (.int i5), some (.int v3), some (.int v5)]) aX2_reached_61 ⟨by decide, rfl⟩ rfl ?_
        refine e_iload_n aX2_reached_62 rfl ?_
        rcases of_ite h with ⟨hc11, h⟩ | ⟨hc11, h⟩
        · refine e_if_eq (tgt := 78) aX2_reached_63 (by decide) (fun _ => ?_) (fun q => absurd hc11 q)
          refine e_iinc (v := i5 + 1) (L2 := [some (.ref (x.2.2.1 + p0)), some (.int i1), some (.int i2), some (.int v10), some (.int i4), some (.int (i5 + 1)), some (.int v3), some (.int v5)]) aX2_reached_78 rfl rfl ⟨by decide, rfl⟩ rfl ?_
          refine e_goto (tgt := 19) aX2_reached_81 (by decide) ?_
          refine e_drop 6 (L2 := [some (.ref (x.2.2.1 + p0)), some (.int i1), some (.int i2), some (.int v10), some (.int i4), some (.int (i5 + 1)), none, some (.int v5)]) rfl ?_
          refine e_drop 7 (L2 := [some (.ref (x.2.2.1 + p0)), some (.int i1), some (.int i2), some (.int v10), some (.int i4), some (.int (i5 + 1)), none, none]) rfl ?_
          exact ih _ _ h
        · refine e_if_eq (tgt := 78) aX2_reached_63 (by decide) (fun q => absurd q hc11) (fun _ => ?_)
          refine e_iload_n aX2_reached_66 rfl ?_
          refine e_iload aX2_reached_67 rfl ?_
          refine e_iand aX2_reached_69 ?_
          rcases of_ite h with ⟨hc12, h⟩ | ⟨hc12, h⟩
          · refine e_if_eq (tgt := 78) aX2_reached_70 (by decide) (fun _ => ?_) (fun q => absurd hc12 q)
            refine e_iinc (v := i5 + 1) (L2 := [some (.ref (x.2.2.1 + p0)), some (.int i1), some (.int i2), some (.int v10), some (.int i4), some (.int (i5 + 1)), some (.int v3), some (.int v5)]) aX2_reached_78 rfl rfl ⟨by decide, rfl⟩ rfl ?_
            refine e_goto (tgt := 19) aX2_reached_81 (by decide) ?_
            refine e_drop 6 (L2 := [some (.ref (x.2.2.1 + p0)), some (.int i1), some (.int i2), some (.int v10), some (.int i4), some (.int (i5 + 1)), none, some (.int v5)]) rfl ?_
            refine e_drop 7 (L2 := [some (.ref (x.2.2.1 + p0)), some (.int i1), some (.int i2), some (.int v10), some (.int i4), some (.int (i5 + 1)), none, none]) rfl ?_
            exact ih _ _ h
          · refine e_if_eq (tgt := 78) aX2_reached_70 (by decide) (fun q => absurd q hc12) (fun _ => ?_)
            refine e_iload_n aX2_reached_73 rfl ?_
            refine e_iload aX2_reached_74 rfl ?_
            refine e_ior aX2_reached_76 ?_
            obtain ⟨v13, ev13, h⟩ := of_lt h
            refine e_nameI ev13 ?_
            refine e_istore_n (L2 := [some (.ref (x.2.2.1 + p0)), some (.int i1), some (.int i2), some (.int v13), some (.int i4), some (.int i5), some (.int v3), some (.int v5)]) aX2_reached_77 ⟨by decide, rfl⟩ rfl ?_
            refine e_iinc (v := i5 + 1) (L2 := [some (.ref (x.2.2.1 + p0)), some (.int i1), some (.int i2), some (.int v13), some (.int i4), some (.int (i5 + 1)), some (.int v3), some (.int v5)]) aX2_reached_78 rfl rfl ⟨by decide, rfl⟩ rfl ?_
            refine e_goto (tgt := 19) aX2_reached_81 (by decide) ?_
            refine e_drop 6 (L2 := [some (.ref (x.2.2.1 + p0)), some (.int i1), some (.int i2), some (.int v13), some (.int i4), some (.int (i5 + 1)), none, some (.int v5)]) rfl ?_
            refine e_drop 7 (L2 := [some (.ref (x.2.2.1 + p0)), some (.int i1), some (.int i2), some (.int v13), some (.int i4), some (.int (i5 + 1)), none, none]) rfl ?_
            exact ih _ _ h
def s_X2_reached_7 (p0 : Nat) (i1 : Int32) (i2 : Int32) (M : Mem) (k : Int32 → Int32 → Option Int32) (rec : Int32 → Int32 → Option Int32) (i3 : Int32) (i4 : Int32) : Option Int32 :=
  if M p0 0 ≤ i4 then
    k i3 i4
  else
    f_X2_reached_19 p0 i1 i2 i4 M (fun (i3_2 : Int32) (i5_3 : Int32) =>
      rec i3_2 (i4 + 1)) FU i3 0
def f_X2_reached_7 (p0 : Nat) (i1 : Int32) (i2 : Int32) (M : Mem) (k : Int32 → Int32 → Option Int32) : Nat → Int32 → Int32 → Option Int32
  | 0 => fun _ _ => none
  | n + 1 => fun i3 i4 => s_X2_reached_7 p0 i1 i2 M k (f_X2_reached_7 p0 i1 i2 M k n) i3 i4
set_option maxRecDepth 100000 in
set_option maxHeartbeats 4000000 in
theorem w_X2_reached_7 (l : Launch) (x : WX) {p0 : Nat} {i1 : Int32} {i2 : Int32} {M : Mem} {k : Int32 → Int32 → Option Int32} {r : Int32} (hp0 : QA p0) (K : ∀ (i3 : Int32) (i4 : Int32), k i3 i4 = some r → Ev l x false cX2_reached RX2 (some FieldType.int) 8 0 0 0 (pI r M) 90 [some (.ref (x.2.2.1 + p0)), some (.int i1), some (.int i2), some (.int i3), some (.int i4), none, none, none] [] LAY M) : ∀ (n : Nat) (i3 : Int32) (i4 : Int32), f_X2_reached_7 p0 i1 i2 M k n i3 i4 = some r → Ev l x false cX2_reached RX2 (some FieldType.int) 8 0 0 0 (pI r M) 7 [some (.ref (x.2.2.1 + p0)), some (.int i1), some (.int i2), some (.int i3), some (.int i4), none, none, none] [] LAY M := by
  intro n
  induction n with
  | zero =>
    intro i3 i4 h
    exact nomatch (show (none : Option Int32) = some r from h)
  | succ n ih =>
    intro i3 i4 h
    have h : s_X2_reached_7 p0 i1 i2 M k (f_X2_reached_7 p0 i1 i2 M k n) i3 i4 = some r := h
    unfold s_X2_reached_7 at h
    refine e_iload aX2_reached_7 rfl ?_
    refine e_aload_n aX2_reached_9 rfl ?_
    refine e_getI aX2_reached_10 fX2_9 hp0.1 rfl ?_
    rcases of_ite h with ⟨hc1, h⟩ | ⟨hc1, h⟩
    · refine e_icmp_ge (tgt := 90) aX2_reached_13 (by decide) (fun _ => ?_) (fun q => absurd hc1 q)
      exact K _ _ h
    · refine e_icmp_ge (tgt := 90) aX2_reached_13 (by decide) (fun q => absurd q hc1) (fun _ => ?_)
      refine e_iconst (v := 0) aX2_reached_16 (by decide) ?_
      refine e_istore (L2 := [some (.ref (x.2.2.1 + p0)), some (.int i1), some (.int i2), some (.int i3), some (.int i4), some (.int 0), none, none]) aX2_reached_17 ⟨by decide, rfl⟩ rfl ?_
      refine w_X2_reached_19 l x hp0 (fun i3_2 i5_3 h => ?_) FU _ _ h
      refine e_iinc (v := i4 + 1) (L2 := [some (.ref (x.2.2.1 + p0)), some (.int i1), some (.int i2), some (.int i3_2), some (.int (i4 + 1)), some (.int i5_3), none, none]) aX2_reached_84 rfl rfl ⟨by decide, rfl⟩ rfl ?_
      refine e_goto (tgt := 7) aX2_reached_87 (by decide) ?_
      refine e_drop 5 (L2 := [some (.ref (x.2.2.1 + p0)), some (.int i1), some (.int i2), some (.int i3_2), some (.int (i4 + 1)), none, none, none]) rfl ?_
      exact ih _ _ h
def f_X2_reached (p0 : Nat) (i1 : Int32) (i2 : Int32) (M : Mem) : Option Int32 :=
  lt (1 <<< (i1 &&& 31)) fun (v1 : Int32) =>
  f_X2_reached_7 p0 i1 i2 M (fun (i3_2 : Int32) (i4_3 : Int32) =>
    some i3_2) FU v1 0
set_option maxRecDepth 100000 in
set_option maxHeartbeats 4000000 in
theorem c_X2_reached (l : Launch) (x : WX) {p0 : Nat} {i1 : Int32} {i2 : Int32} {M : Mem} {r : Int32} (hp0 : QA p0) (h : f_X2_reached p0 i1 i2 M = some r) : Mt l x false yX2_reached cX2_reached 8 (some FieldType.int) 0 0 0 [.ref (x.2.2.1 + p0), .int i1, .int i2] LAY M (pI r M) := by
  refine mt_of (L0 := [some (.ref (x.2.2.1 + p0)), some (.int i1), some (.int i2), none, none, none, none, none]) (by decide +kernel) rfl (Nat.le_of_ble_eq_true rfl) (lvA_of 5 rfl) ?_
  unfold f_X2_reached at h
  refine e_iconst (v := 1) aX2_reached_0 (by decide) ?_
  refine e_iload_n aX2_reached_1 rfl ?_
  refine e_ishl aX2_reached_2 ?_
  obtain ⟨v1, ev1, h⟩ := of_lt h
  refine e_nameI ev1 ?_
  refine e_istore_n (L2 := [some (.ref (x.2.2.1 + p0)), some (.int i1), some (.int i2), some (.int v1), none, none, none, none]) aX2_reached_3 ⟨by decide, rfl⟩ rfl ?_
  refine e_iconst (v := 0) aX2_reached_4 (by decide) ?_
  refine e_istore (L2 := [some (.ref (x.2.2.1 + p0)), some (.int i1), some (.int i2), some (.int v1), some (.int 0), none, none, none]) aX2_reached_5 ⟨by decide, rfl⟩ rfl ?_
  refine w_X2_reached_7 l x hp0 (fun i3_2 i4_3 h => ?_) FU _ _ h
  refine e_iload_n aX2_reached_90 rfl ?_
  exact e_retI aX2_reached_91 rfl rfl (pI_ro h)
def f_X2_wouldLeadRound (p0 : Nat) (i1 : Int32) (i2 : Int32) (M : Mem) : Option Int32 :=
  (f_X2_reached p0 i2 0 M).bind fun (r1 : Int32) =>
  if r1 &&& (1 <<< (i1 &&& 31)) = 0 then
    some 0
  else
    some 1
set_option maxRecDepth 100000 in
set_option maxHeartbeats 4000000 in
theorem c_X2_wouldLeadRound (l : Launch) (x : WX) {p0 : Nat} {i1 : Int32} {i2 : Int32} {M : Mem} {r : Int32} (hp0 : QA p0) (h : f_X2_wouldLeadRound p0 i1 i2 M = some r) : Mt l x false yX2_wouldLeadRound cX2_wouldLeadRound 3 (some FieldType.boolean) 1 0 0 [.ref (x.2.2.1 + p0), .int i1, .int i2] LAY M (pI r M) := by
  refine mt_of (L0 := [some (.ref (x.2.2.1 + p0)), some (.int i1), some (.int i2)]) (by decide +kernel) rfl (Nat.le_of_ble_eq_true rfl) (lvA_of 0 rfl) ?_
  unfold f_X2_wouldLeadRound at h
  refine e_aload_n aX2_wouldLeadRound_0 rfl ?_
  refine e_iload_n aX2_wouldLeadRound_1 rfl ?_
  refine e_iconst (v := 0) aX2_wouldLeadRound_2 (by decide) ?_
  obtain ⟨r1, hr1, h⟩ := of_bind h
  refine e_VI [] aX2_wouldLeadRound_3 co_X2_reached mX2_52 hp0.1 rfl rfl (c_X2_reached l x hp0 hr1) rfl ⟨by decide, by decide⟩ (Nat.le_of_ble_eq_true rfl) rfl ?_
  refine e_iconst (v := 1) aX2_wouldLeadRound_6 (by decide) ?_
  refine e_iload_n aX2_wouldLeadRound_7 rfl ?_
  refine e_ishl aX2_wouldLeadRound_8 ?_
  refine e_iand aX2_wouldLeadRound_9 ?_
  rcases of_ite h with ⟨hc2, h⟩ | ⟨hc2, h⟩
  · refine e_if_eq (tgt := 17) aX2_wouldLeadRound_10 (by decide) (fun _ => ?_) (fun q => absurd hc2 q)
    refine e_iconst (v := 0) aX2_wouldLeadRound_17 (by decide) ?_
    exact e_retI aX2_wouldLeadRound_18 rfl (by decide +kernel) (pI_ro h)
  · refine e_if_eq (tgt := 17) aX2_wouldLeadRound_10 (by decide) (fun q => absurd q hc2) (fun _ => ?_)
    refine e_iconst (v := 1) aX2_wouldLeadRound_13 (by decide) ?_
    refine e_goto (tgt := 18) aX2_wouldLeadRound_14 (by decide) ?_
    exact e_retI aX2_wouldLeadRound_18 rfl (by decide +kernel) (pI_ro h)
def f_X2_hangsTogether (p0 : Nat) (M : Mem) : Option Int32 :=
  (f_X2_reached p0 0 1 M).bind fun (r1 : Int32) =>
  if r1 = (1 <<< ((M p0 0) &&& 31)) - 1 then
    some 1
  else
    some 0
set_option maxRecDepth 100000 in
set_option maxHeartbeats 4000000 in
theorem c_X2_hangsTogether (l : Launch) (x : WX) {p0 : Nat} {M : Mem} {r : Int32} (hp0 : QA p0) (h : f_X2_hangsTogether p0 M = some r) : Mt l x false yX2_hangsTogether cX2_hangsTogether 1 (some FieldType.boolean) 1 0 0 [.ref (x.2.2.1 + p0)] LAY M (pI r M) := by
  refine mt_of (L0 := [some (.ref (x.2.2.1 + p0))]) (by decide +kernel) rfl (Nat.le_of_ble_eq_true rfl) (lvA_of 0 rfl) ?_
  unfold f_X2_hangsTogether at h
  refine e_aload_n aX2_hangsTogether_0 rfl ?_
  refine e_iconst (v := 0) aX2_hangsTogether_1 (by decide) ?_
  refine e_iconst (v := 1) aX2_hangsTogether_2 (by decide) ?_
  obtain ⟨r1, hr1, h⟩ := of_bind h
  refine e_VI [] aX2_hangsTogether_3 co_X2_reached mX2_52 hp0.1 rfl rfl (c_X2_reached l x hp0 hr1) rfl ⟨by decide, by decide⟩ (Nat.le_of_ble_eq_true rfl) rfl ?_
  refine e_iconst (v := 1) aX2_hangsTogether_6 (by decide) ?_
  refine e_aload_n aX2_hangsTogether_7 rfl ?_
  refine e_getI aX2_hangsTogether_8 fX2_9 hp0.1 rfl ?_
  refine e_ishl aX2_hangsTogether_11 ?_
  refine e_iconst (v := 1) aX2_hangsTogether_12 (by decide) ?_
  refine e_isub aX2_hangsTogether_13 ?_
  rcases of_ite h with ⟨hc2, h⟩ | ⟨hc2, h⟩
  · refine e_icmp_ne (tgt := 21) aX2_hangsTogether_14 (by decide) (fun q => absurd hc2 q) (fun _ => ?_)
    refine e_iconst (v := 1) aX2_hangsTogether_17 (by decide) ?_
    refine e_goto (tgt := 22) aX2_hangsTogether_18 (by decide) ?_
    exact e_retI aX2_hangsTogether_22 rfl (by decide +kernel) (pI_ro h)
  · refine e_icmp_ne (tgt := 21) aX2_hangsTogether_14 (by decide) (fun _ => ?_) (fun q => absurd q hc2)
    refine e_iconst (v := 0) aX2_hangsTogether_21 (by decide) ?_
    exact e_retI aX2_hangsTogether_22 rfl (by decide +kernel) (pI_ro h)
def s_X2_eulerOf_5 (p0 : Nat) (p1 : Nat) (p2 : Nat) (M : Mem) (k : Int32 → Int32 → Option Int32) (rec : Int32 → Int32 → Option Int32) (i3 : Int32) (i4 : Int32) : Option Int32 :=
  if M p0 0 ≤ i4 then
    k i3 i4
  else
    if i4 < 0 ∨ 6 ≤ i4.toNatClampNeg then none else
    if i4 < 0 ∨ 6 ≤ i4.toNatClampNeg then none else
    lt (i3 + ((M p1 i4.toNatClampNeg) * (M p2 i4.toNatClampNeg))) fun (v4 : Int32) =>
    rec v4 (i4 + 1)
def f_X2_eulerOf_5 (p0 : Nat) (p1 : Nat) (p2 : Nat) (M : Mem) (k : Int32 → Int32 → Option Int32) : Nat → Int32 → Int32 → Option Int32
  | 0 => fun _ _ => none
  | n + 1 => fun i3 i4 => s_X2_eulerOf_5 p0 p1 p2 M k (f_X2_eulerOf_5 p0 p1 p2 M k n) i3 i4
set_option maxRecDepth 100000 in
set_option maxHeartbeats 4000000 in
theorem w_X2_eulerOf_5 (l : Launch) (x : WX) {p0 : Nat} {p1 : Nat} {p2 : Nat} {M : Mem} {k : Int32 → Int32 → Option Int32} {r : Int32} (hp0 : QA p0) (hp1 : LAY[p1]? = some (1, 6, [])) (hp2 : LAY[p2]? = some (1, 6, [])) (K : ∀ (i3 : Int32) (i4 : Int32), k i3 i4 = some r → Ev l x false cX2_eulerOf RX2 (some FieldType.int) 5 0 0 0 (pI r M) 32 [some (.ref (x.2.2.1 + p0)), some (.ref (x.2.2.1 + p1)), some (.ref (x.2.2.1 + p2)), some (.int i3), some (.int i4)] [] LAY M) : ∀ (n : Nat) (i3 : Int32) (i4 : Int32), f_X2_eulerOf_5 p0 p1 p2 M k n i3 i4 = some r → Ev l x false cX2_eulerOf RX2 (some FieldType.int) 5 0 0 0 (pI r M) 5 [some (.ref (x.2.2.1 + p0)), some (.ref (x.2.2.1 + p1)), some (.ref (x.2.2.1 + p2)), some (.int i3), some (.int i4)] [] LAY M := by
  intro n
  induction n with
  | zero =>
    intro i3 i4 h
    exact nomatch (show (none : Option Int32) = some r from h)
  | succ n ih =>
    intro i3 i4 h
    have h : s_X2_eulerOf_5 p0 p1 p2 M k (f_X2_eulerOf_5 p0 p1 p2 M k n) i3 i4 = some r := h
    unfold s_X2_eulerOf_5 at h
    refine e_iload aX2_eulerOf_5 rfl ?_
    refine e_aload_n aX2_eulerOf_7 rfl ?_
    refine e_getI aX2_eulerOf_8 fX2_9 hp0.1 rfl ?_
    rcases of_ite h with ⟨hc1, h⟩ | ⟨hc1, h⟩
    · refine e_icmp_ge (tgt := 32) aX2_eulerOf_11 (by decide) (fun _ => ?_) (fun q => absurd hc1 q)
      exact K _ _ h
    · refine e_icmp_ge (tgt := 32) aX2_eulerOf_11 (by decide) (fun q => absurd q hc1) (fun _ => ?_)
      refine e_iload_n aX2_eulerOf_14 rfl ?_
      refine e_aload_n aX2_eulerOf_15 rfl ?_
      refine e_iload aX2_eulerOf_16 rfl ?_
      obtain ⟨hg2, h⟩ := of_guard h
      refine e_iald aX2_eulerOf_18 hp1 hg2 ?_
      refine e_aload_n aX2_eulerOf_19 rfl ?_
      refine e_iload aX2_eulerOf_20 rfl ?_
      obtain ⟨hg3, h⟩ := of_guard h
      refine e_iald aX2_eulerOf_22 hp2 hg3 ?_
      refine e_imul aX2_eulerOf_23 ?_
      refine e_iadd aX2_eulerOf_24 ?_
      obtain ⟨v4, ev4, h⟩ := of_lt h
      refine e_nameI ev4 ?_
      refine e_istore_n (L2 := [some (.ref (x.2.2.1 + p0)), some (.ref (x.2.2.1 + p1)), some (.ref (x.2.2.1 + p2)), some (.int v4), some (.int i4)]) aX2_eulerOf_25 ⟨by decide, rfl⟩ rfl ?_
      refine e_iinc (v := i4 + 1) (L2 := [some (.ref (x.2.2.1 + p0)), some (.ref (x.2.2.1 + p1)), some (.ref (x.2.2.1 + p2)), some (.int v4), some (.int (i4 + 1))]) aX2_eulerOf_26 rfl rfl ⟨by decide, rfl⟩ rfl ?_
      refine e_goto (tgt := 5) aX2_eulerOf_29 (by decide) ?_
      exact ih _ _ h
def s_X2_eulerOf_35 (p0 : Nat) (p1 : Nat) (p2 : Nat) (M : Mem) (k : Int32 → Int32 → Option Int32) (rec : Int32 → Int32 → Option Int32) (i3 : Int32) (i4 : Int32) : Option Int32 :=
  if M p0 1 ≤ i4 then
    k i3 i4
  else
    if i4 < 0 ∨ 10 ≤ i4.toNatClampNeg then none else
    if M (p0 + 1) i4.toNatClampNeg < 0 ∨ 6 ≤ (M (p0 + 1) i4.toNatClampNeg).toNatClampNeg then none else
    if i4 < 0 ∨ 10 ≤ i4.toNatClampNeg then none else
    if M (p0 + 2) i4.toNatClampNeg < 0 ∨ 6 ≤ (M (p0 + 2) i4.toNatClampNeg).toNatClampNeg then none else
    lt (i3 - ((M p1 (M (p0 + 1) i4.toNatClampNeg).toNatClampNeg) * (M p2 (M (p0 + 2) i4.toNatClampNeg).toNatClampNeg))) fun (v6 : Int32) =>
    rec v6 (i4 + 1)
def f_X2_eulerOf_35 (p0 : Nat) (p1 : Nat) (p2 : Nat) (M : Mem) (k : Int32 → Int32 → Option Int32) : Nat → Int32 → Int32 → Option Int32
  | 0 => fun _ _ => none
  | n + 1 => fun i3 i4 => s_X2_eulerOf_35 p0 p1 p2 M k (f_X2_eulerOf_35 p0 p1 p2 M k n) i3 i4
set_option maxRecDepth 100000 in
set_option maxHeartbeats 4000000 in
theorem w_X2_eulerOf_35 (l : Launch) (x : WX) {p0 : Nat} {p1 : Nat} {p2 : Nat} {M : Mem} {k : Int32 → Int32 → Option Int32} {r : Int32} (hp0 : QA p0) (hp1 : LAY[p1]? = some (1, 6, [])) (hp2 : LAY[p2]? = some (1, 6, [])) (K : ∀ (i3 : Int32) (i4 : Int32), k i3 i4 = some r → Ev l x false cX2_eulerOf RX2 (some FieldType.int) 5 0 0 0 (pI r M) 72 [some (.ref (x.2.2.1 + p0)), some (.ref (x.2.2.1 + p1)), some (.ref (x.2.2.1 + p2)), some (.int i3), some (.int i4)] [] LAY M) : ∀ (n : Nat) (i3 : Int32) (i4 : Int32), f_X2_eulerOf_35 p0 p1 p2 M k n i3 i4 = some r → Ev l x false cX2_eulerOf RX2 (some FieldType.int) 5 0 0 0 (pI r M) 35 [some (.ref (x.2.2.1 + p0)), some (.ref (x.2.2.1 + p1)), some (.ref (x.2.2.1 + p2)), some (.int i3), some (.int i4)] [] LAY M := by
  intro n
  induction n with
  | zero =>
    intro i3 i4 h
    exact nomatch (show (none : Option Int32) = some r from h)
  | succ n ih =>
    intro i3 i4 h
    have h : s_X2_eulerOf_35 p0 p1 p2 M k (f_X2_eulerOf_35 p0 p1 p2 M k n) i3 i4 = some r := h
    unfold s_X2_eulerOf_35 at h
    refine e_iload aX2_eulerOf_35 rfl ?_
    refine e_aload_n aX2_eulerOf_37 rfl ?_
    refine e_getI aX2_eulerOf_38 fX2_15 hp0.1 rfl ?_
    rcases of_ite h with ⟨hc1, h⟩ | ⟨hc1, h⟩
    · refine e_icmp_ge (tgt := 72) aX2_eulerOf_41 (by decide) (fun _ => ?_) (fun q => absurd hc1 q)
      exact K _ _ h
    · refine e_icmp_ge (tgt := 72) aX2_eulerOf_41 (by decide) (fun q => absurd q hc1) (fun _ => ?_)
      refine e_iload_n aX2_eulerOf_44 rfl ?_
      refine e_aload_n aX2_eulerOf_45 rfl ?_
      refine e_aload_n aX2_eulerOf_46 rfl ?_
      refine e_getR (r := p0 + 1) aX2_eulerOf_47 fX2_18 hp0.1 rfl ?_
      refine e_iload aX2_eulerOf_50 rfl ?_
      obtain ⟨hg2, h⟩ := of_guard h
      refine e_iald aX2_eulerOf_52 hp0.2.1 hg2 ?_
      obtain ⟨hg3, h⟩ := of_guard h
      refine e_iald aX2_eulerOf_53 hp1 hg3 ?_
      refine e_aload_n aX2_eulerOf_54 rfl ?_
      refine e_aload_n aX2_eulerOf_55 rfl ?_
      refine e_getR (r := p0 + 2) aX2_eulerOf_56 fX2_22 hp0.1 rfl ?_
      refine e_iload aX2_eulerOf_59 rfl ?_
      obtain ⟨hg4, h⟩ := of_guard h
      refine e_iald aX2_eulerOf_61 hp0.2.2.1 hg4 ?_
      obtain ⟨hg5, h⟩ := of_guard h
      refine e_iald aX2_eulerOf_62 hp2 hg5 ?_
      refine e_imul aX2_eulerOf_63 ?_
      refine e_isub aX2_eulerOf_64 ?_
      obtain ⟨v6, ev6, h⟩ := of_lt h
      refine e_nameI ev6 ?_
      refine e_istore_n (L2 := [some (.ref (x.2.2.1 + p0)), some (.ref (x.2.2.1 + p1)), some (.ref (x.2.2.1 + p2)), some (.int v6), some (.int i4)]) aX2_eulerOf_65 ⟨by decide, rfl⟩ rfl ?_
      refine e_iinc (v := i4 + 1) (L2 := [some (.ref (x.2.2.1 + p0)), some (.ref (x.2.2.1 + p1)), some (.ref (x.2.2.1 + p2)), some (.int v6), some (.int (i4 + 1))]) aX2_eulerOf_66 rfl rfl ⟨by decide, rfl⟩ rfl ?_
      refine e_goto (tgt := 35) aX2_eulerOf_69 (by decide) ?_
      exact ih _ _ h
def f_X2_eulerOf (p0 : Nat) (p1 : Nat) (p2 : Nat) (M : Mem) : Option Int32 :=
  f_X2_eulerOf_5 p0 p1 p2 M (fun (i3_1 : Int32) (i4_2 : Int32) =>
    f_X2_eulerOf_35 p0 p1 p2 M (fun (i3_3 : Int32) (i4_4 : Int32) =>
      some i3_3) FU i3_1 0) FU 0 0
set_option maxRecDepth 100000 in
set_option maxHeartbeats 4000000 in
theorem c_X2_eulerOf (l : Launch) (x : WX) {p0 : Nat} {p1 : Nat} {p2 : Nat} {M : Mem} {r : Int32} (hp0 : QA p0) (hp1 : LAY[p1]? = some (1, 6, [])) (hp2 : LAY[p2]? = some (1, 6, [])) (h : f_X2_eulerOf p0 p1 p2 M = some r) : Mt l x false yX2_eulerOf cX2_eulerOf 5 (some FieldType.int) 0 0 0 [.ref (x.2.2.1 + p0), .ref (x.2.2.1 + p1), .ref (x.2.2.1 + p2)] LAY M (pI r M) := by
  refine mt_of (L0 := [some (.ref (x.2.2.1 + p0)), some (.ref (x.2.2.1 + p1)), some (.ref (x.2.2.1 + p2)), none, none]) (by decide +kernel) rfl (Nat.le_of_ble_eq_true rfl) (lvA_of 2 rfl) ?_
  unfold f_X2_eulerOf at h
  refine e_iconst (v := 0) aX2_eulerOf_0 (by decide) ?_
  refine e_istore_n (L2 := [some (.ref (x.2.2.1 + p0)), some (.ref (x.2.2.1 + p1)), some (.ref (x.2.2.1 + p2)), some (.int 0), none]) aX2_eulerOf_1 ⟨by decide, rfl⟩ rfl ?_
  refine e_iconst (v := 0) aX2_eulerOf_2 (by decide) ?_
  refine e_istore (L2 := [some (.ref (x.2.2.1 + p0)), some (.ref (x.2.2.1 + p1)), some (.ref (x.2.2.1 + p2)), some (.int 0), some (.int 0)]) aX2_eulerOf_3 ⟨by decide, rfl⟩ rfl ?_
  refine w_X2_eulerOf_5 l x hp0 hp1 hp2 (fun i3_1 i4_2 h => ?_) FU _ _ h
  refine e_iconst (v := 0) aX2_eulerOf_32 (by decide) ?_
  refine e_istore (L2 := [some (.ref (x.2.2.1 + p0)), some (.ref (x.2.2.1 + p1)), some (.ref (x.2.2.1 + p2)), some (.int i3_1), some (.int 0)]) aX2_eulerOf_33 ⟨by decide, rfl⟩ rfl ?_
  refine w_X2_eulerOf_35 l x hp0 hp1 hp2 (fun i3_3 i4_4 h => ?_) FU _ _ h
  refine e_iload_n aX2_eulerOf_72 rfl ?_
  exact e_retI aX2_eulerOf_73 rfl rfl (pI_ro h)
def f_X2_tits (p0 : Nat) (M : Mem) : Option Int32 :=
  (f_X2_eulerOf p0 (p0 + 3) (p0 + 3) M).bind fun (r1 : Int32) =>
  some r1
set_option maxRecDepth 100000 in
set_option maxHeartbeats 4000000 in
theorem c_X2_tits (l : Launch) (x : WX) {p0 : Nat} {M : Mem} {r : Int32} (hp0 : QA p0) (h : f_X2_tits p0 M = some r) : Mt l x false yX2_tits cX2_tits 1 (some FieldType.int) 1 0 0 [.ref (x.2.2.1 + p0)] LAY M (pI r M) := by
  refine mt_of (L0 := [some (.ref (x.2.2.1 + p0))]) (by decide +kernel) rfl (Nat.le_of_ble_eq_true rfl) (lvA_of 0 rfl) ?_
  unfold f_X2_tits at h
  refine e_aload_n aX2_tits_0 rfl ?_
  refine e_aload_n aX2_tits_1 rfl ?_
  refine e_getR (r := p0 + 3) aX2_tits_2 fX2_25 hp0.1 rfl ?_
  refine e_aload_n aX2_tits_5 rfl ?_
  refine e_getR (r := p0 + 3) aX2_tits_6 fX2_25 hp0.1 rfl ?_
  obtain ⟨r1, hr1, h⟩ := of_bind h
  refine e_VI [] aX2_tits_9 co_X2_eulerOf mX2_56 hp0.1 rfl rfl (c_X2_eulerOf l x hp0 hp0.2.2.2 hp0.2.2.2 hr1) rfl ⟨by decide, by decide⟩ (Nat.le_of_ble_eq_true rfl) rfl ?_
  exact e_retI aX2_tits_12 rfl rfl (pI_ro h)
def s_X2_turnedAbout_8 (p0 : Nat) (p1 : Nat) (i2 : Int32) (M : Mem) (k : Int32 → Int32 → Option Int32) (rec : Int32 → Int32 → Option Int32) (i3 : Int32) (i4 : Int32) : Option Int32 :=
  if M p0 1 ≤ i4 then
    k i3 i4
  else
    if i4 < 0 ∨ 10 ≤ i4.toNatClampNeg then none else
    if M (p0 + 1) i4.toNatClampNeg = i2 then
      if i4 < 0 ∨ 10 ≤ i4.toNatClampNeg then none else
      if M (p0 + 2) i4.toNatClampNeg < 0 ∨ 6 ≤ (M (p0 + 2) i4.toNatClampNeg).toNatClampNeg then none else
      lt (i3 + (M p1 (M (p0 + 2) i4.toNatClampNeg).toNatClampNeg)) fun (v11 : Int32) =>
      if i4 < 0 ∨ 10 ≤ i4.toNatClampNeg then none else
      if M (p0 + 2) i4.toNatClampNeg = i2 then
        if i4 < 0 ∨ 10 ≤ i4.toNatClampNeg then none else
        if M (p0 + 1) i4.toNatClampNeg < 0 ∨ 6 ≤ (M (p0 + 1) i4.toNatClampNeg).toNatClampNeg then none else
        lt (v11 + (M p1 (M (p0 + 1) i4.toNatClampNeg).toNatClampNeg)) fun (v16 : Int32) =>
        rec v16 (i4 + 1)
      else
        rec v11 (i4 + 1)
    else
      if i4 < 0 ∨ 10 ≤ i4.toNatClampNeg then none else
      if M (p0 + 2) i4.toNatClampNeg = i2 then
        if i4 < 0 ∨ 10 ≤ i4.toNatClampNeg then none else
        if M (p0 + 1) i4.toNatClampNeg < 0 ∨ 6 ≤ (M (p0 + 1) i4.toNatClampNeg).toNatClampNeg then none else
        lt (i3 + (M p1 (M (p0 + 1) i4.toNatClampNeg).toNatClampNeg)) fun (v8 : Int32) =>
        rec v8 (i4 + 1)
      else
        rec i3 (i4 + 1)
def f_X2_turnedAbout_8 (p0 : Nat) (p1 : Nat) (i2 : Int32) (M : Mem) (k : Int32 → Int32 → Option Int32) : Nat → Int32 → Int32 → Option Int32
  | 0 => fun _ _ => none
  | n + 1 => fun i3 i4 => s_X2_turnedAbout_8 p0 p1 i2 M k (f_X2_turnedAbout_8 p0 p1 i2 M k n) i3 i4
set_option maxRecDepth 100000 in
set_option maxHeartbeats 4000000 in
theorem w_X2_turnedAbout_8 (l : Launch) (x : WX) {p0 : Nat} {p1 : Nat} {i2 : Int32} {M : Mem} {k : Int32 → Int32 → Option Int32} {r : Int32} (hp0 : QA p0) (hp1 : LAY[p1]? = some (1, 6, [])) (K : ∀ (i3 : Int32) (i4 : Int32), k i3 i4 = some r → Ev l x false cX2_turnedAbout RX2 (some FieldType.int) 5 0 0 0 (pI r M) 69 [some (.ref (x.2.2.1 + p0)), some (.ref (x.2.2.1 + p1)), some (.int i2), some (.int i3), some (.int i4)] [] LAY M) : ∀ (n : Nat) (i3 : Int32) (i4 : Int32), f_X2_turnedAbout_8 p0 p1 i2 M k n i3 i4 = some r → Ev l x false cX2_turnedAbout RX2 (some FieldType.int) 5 0 0 0 (pI r M) 8 [some (.ref (x.2.2.1 + p0)), some (.ref (x.2.2.1 + p1)), some (.int i2), some (.int i3), some (.int i4)] [] LAY M := by
  intro n
  induction n with
  | zero =>
    intro i3 i4 h
    exact nomatch (show (none : Option Int32) = some r from h)
  | succ n ih =>
    intro i3 i4 h
    have h : s_X2_turnedAbout_8 p0 p1 i2 M k (f_X2_turnedAbout_8 p0 p1 i2 M k n) i3 i4 = some r := h
    unfold s_X2_turnedAbout_8 at h
    refine e_iload aX2_turnedAbout_8 rfl ?_
    refine e_aload_n aX2_turnedAbout_10 rfl ?_
    refine e_getI aX2_turnedAbout_11 fX2_15 hp0.1 rfl ?_
    rcases of_ite h with ⟨hc1, h⟩ | ⟨hc1, h⟩
    · refine e_icmp_ge (tgt := 69) aX2_turnedAbout_14 (by decide) (fun _ => ?_) (fun q => absurd hc1 q)
      exact K _ _ h
    · refine e_icmp_ge (tgt := 69) aX2_turnedAbout_14 (by decide) (fun q => absurd q hc1) (fun _ => ?_)
      refine e_aload_n aX2_turnedAbout_17 rfl ?_
      refine e_getR (r := p0 + 1) aX2_turnedAbout_18 fX2_18 hp0.1 rfl ?_
      refine e_iload aX2_turnedAbout_21 rfl ?_
      obtain ⟨hg2, h⟩ := of_guard h
      refine e_iald aX2_turnedAbout_23 hp0.2.1 hg2 ?_
      refine e_iload_n aX2_turnedAbout_24 rfl ?_
      rcases of_ite h with ⟨hc3, h⟩ | ⟨hc3, h⟩
      · refine e_icmp_ne (tgt := 40) aX2_turnedAbout_25 (by decide) (fun q => absurd hc3 q) (fun _ => ?_)
        refine e_iload_n aX2_turnedAbout_28 rfl ?_
        refine e_aload_n aX2_turnedAbout_29 rfl ?_
        refine e_aload_n aX2_turnedAbout_30 rfl ?_
        refine e_getR (r := p0 + 2) aX2_turnedAbout_31 fX2_22 hp0.1 rfl ?_
        refine e_iload aX2_turnedAbout_34 rfl ?_
        obtain ⟨hg9, h⟩ := of_guard h
        refine e_iald aX2_turnedAbout_36 hp0.2.2.1 hg9 ?_
        obtain ⟨hg10, h⟩ := of_guard h
        refine e_iald aX2_turnedAbout_37 hp1 hg10 ?_
        refine e_iadd aX2_turnedAbout_38 ?_
        obtain ⟨v11, ev11, h⟩ := of_lt h
        refine e_nameI ev11 ?_
        refine e_istore_n (L2 := [some (.ref (x.2.2.1 + p0)), some (.ref (x.2.2.1 + p1)), some (.int i2), some (.int v11), some (.int i4)]) aX2_turnedAbout_39 ⟨by decide, rfl⟩ rfl ?_
        refine e_aload_n aX2_turnedAbout_40 rfl ?_
        refine e_getR (r := p0 + 2) aX2_turnedAbout_41 fX2_22 hp0.1 rfl ?_
        refine e_iload aX2_turnedAbout_44 rfl ?_
        obtain ⟨hg12, h⟩ := of_guard h
        refine e_iald aX2_turnedAbout_46 hp0.2.2.1 hg12 ?_
        refine e_iload_n aX2_turnedAbout_47 rfl ?_
        rcases of_ite h with ⟨hc13, h⟩ | ⟨hc13, h⟩
        · refine e_icmp_ne (tgt := 63) aX2_turnedAbout_48 (by decide) (fun q => absurd hc13 q) (fun _ => ?_)
          refine e_iload_n aX2_turnedAbout_51 rfl ?_
          refine e_aload_n aX2_turnedAbout_52 rfl ?_
          refine e_aload_n aX2_turnedAbout_53 rfl ?_
          refine e_getR (r := p0 + 1) aX2_turnedAbout_54 fX2_18 hp0.1 rfl ?_
          refine e_iload aX2_turnedAbout_57 rfl ?_
          obtain ⟨hg14, h⟩ := of_guard h
          refine e_iald aX2_turnedAbout_59 hp0.2.1 hg14 ?_
          obtain ⟨hg15, h⟩ := of_guard h
          refine e_iald aX2_turnedAbout_60 hp1 hg15 ?_
          refine e_iadd aX2_turnedAbout_61 ?_
          obtain ⟨v16, ev16, h⟩ := of_lt h
          refine e_nameI ev16 ?_
          refine e_istore_n (L2 := [some (.ref (x.2.2.1 + p0)), some (.ref (x.2.2.1 + p1)), some (.int i2), some (.int v16), some (.int i4)]) aX2_turnedAbout_62 ⟨by decide, rfl⟩ rfl ?_
          refine e_iinc (v := i4 + 1) (L2 := [some (.ref (x.2.2.1 + p0)), some (.ref (x.2.2.1 + p1)), some (.int i2), some (.int v16), some (.int (i4 + 1))]) aX2_turnedAbout_63 rfl rfl ⟨by decide, rfl⟩ rfl ?_
          refine e_goto (tgt := 8) aX2_turnedAbout_66 (by decide) ?_
          exact ih _ _ h
        · refine e_icmp_ne (tgt := 63) aX2_turnedAbout_48 (by decide) (fun _ => ?_) (fun q => absurd q hc13)
          refine e_iinc (v := i4 + 1) (L2 := [some (.ref (x.2.2.1 + p0)), some (.ref (x.2.2.1 + p1)), some (.int i2), some (.int v11), some (.int (i4 + 1))]) aX2_turnedAbout_63 rfl rfl ⟨by decide, rfl⟩ rfl ?_
          refine e_goto (tgt := 8) aX2_turnedAbout_66 (by decide) ?_
          exact ih _ _ h
      · refine e_icmp_ne (tgt := 40) aX2_turnedAbout_25 (by decide) (fun _ => ?_) (fun q => absurd q hc3)
        refine e_aload_n aX2_turnedAbout_40 rfl ?_
        refine e_getR (r := p0 + 2) aX2_turnedAbout_41 fX2_22 hp0.1 rfl ?_
        refine e_iload aX2_turnedAbout_44 rfl ?_
        obtain ⟨hg4, h⟩ := of_guard h
        refine e_iald aX2_turnedAbout_46 hp0.2.2.1 hg4 ?_
        refine e_iload_n aX2_turnedAbout_47 rfl ?_
        rcases of_ite h with ⟨hc5, h⟩ | ⟨hc5, h⟩
        · refine e_icmp_ne (tgt := 63) aX2_turnedAbout_48 (by decide) (fun q => absurd hc5 q) (fun _ => ?_)
          refine e_iload_n aX2_turnedAbout_51 rfl ?_
          refine e_aload_n aX2_turnedAbout_52 rfl ?_
          refine e_aload_n aX2_turnedAbout_53 rfl ?_
          refine e_getR (r := p0 + 1) aX2_turnedAbout_54 fX2_18 hp0.1 rfl ?_
          refine e_iload aX2_turnedAbout_57 rfl ?_
          obtain ⟨hg6, h⟩ := of_guard h
          refine e_iald aX2_turnedAbout_59 hp0.2.1 hg6 ?_
          obtain ⟨hg7, h⟩ := of_guard h
          refine e_iald aX2_turnedAbout_60 hp1 hg7 ?_
          refine e_iadd aX2_turnedAbout_61 ?_
          obtain ⟨v8, ev8, h⟩ := of_lt h
          refine e_nameI ev8 ?_
          refine e_istore_n (L2 := [some (.ref (x.2.2.1 + p0)), some (.ref (x.2.2.1 + p1)), some (.int i2), some (.int v8), some (.int i4)]) aX2_turnedAbout_62 ⟨by decide, rfl⟩ rfl ?_
          refine e_iinc (v := i4 + 1) (L2 := [some (.ref (x.2.2.1 + p0)), some (.ref (x.2.2.1 + p1)), some (.int i2), some (.int v8), some (.int (i4 + 1))]) aX2_turnedAbout_63 rfl rfl ⟨by decide, rfl⟩ rfl ?_
          refine e_goto (tgt := 8) aX2_turnedAbout_66 (by decide) ?_
          exact ih _ _ h
        · refine e_icmp_ne (tgt := 63) aX2_turnedAbout_48 (by decide) (fun _ => ?_) (fun q => absurd q hc5)
          refine e_iinc (v := i4 + 1) (L2 := [some (.ref (x.2.2.1 + p0)), some (.ref (x.2.2.1 + p1)), some (.int i2), some (.int i3), some (.int (i4 + 1))]) aX2_turnedAbout_63 rfl rfl ⟨by decide, rfl⟩ rfl ?_
          refine e_goto (tgt := 8) aX2_turnedAbout_66 (by decide) ?_
          exact ih _ _ h
def f_X2_turnedAbout (p0 : Nat) (p1 : Nat) (i2 : Int32) (M : Mem) : Option Int32 :=
  if i2 < 0 ∨ 6 ≤ i2.toNatClampNeg then none else
  lt (-(M p1 i2.toNatClampNeg)) fun (v2 : Int32) =>
  f_X2_turnedAbout_8 p0 p1 i2 M (fun (i3_3 : Int32) (i4_4 : Int32) =>
    some i3_3) FU v2 0
set_option maxRecDepth 100000 in
set_option maxHeartbeats 4000000 in
theorem c_X2_turnedAbout (l : Launch) (x : WX) {p0 : Nat} {p1 : Nat} {i2 : Int32} {M : Mem} {r : Int32} (hp0 : QA p0) (hp1 : LAY[p1]? = some (1, 6, [])) (h : f_X2_turnedAbout p0 p1 i2 M = some r) : Mt l x false yX2_turnedAbout cX2_turnedAbout 5 (some FieldType.int) 0 0 0 [.ref (x.2.2.1 + p0), .ref (x.2.2.1 + p1), .int i2] LAY M (pI r M) := by
  refine mt_of (L0 := [some (.ref (x.2.2.1 + p0)), some (.ref (x.2.2.1 + p1)), some (.int i2), none, none]) (by decide +kernel) rfl (Nat.le_of_ble_eq_true rfl) (lvA_of 2 rfl) ?_
  unfold f_X2_turnedAbout at h
  refine e_aload_n aX2_turnedAbout_0 rfl ?_
  refine e_iload_n aX2_turnedAbout_1 rfl ?_
  obtain ⟨hg1, h⟩ := of_guard h
  refine e_iald aX2_turnedAbout_2 hp1 hg1 ?_
  refine e_ineg aX2_turnedAbout_3 ?_
  obtain ⟨v2, ev2, h⟩ := of_lt h
  refine e_nameI ev2 ?_
  refine e_istore_n (L2 := [some (.ref (x.2.2.1 + p0)), some (.ref (x.2.2.1 + p1)), some (.int i2), some (.int v2), none]) aX2_turnedAbout_4 ⟨by decide, rfl⟩ rfl ?_
  refine e_iconst (v := 0) aX2_turnedAbout_5 (by decide) ?_
  refine e_istore (L2 := [some (.ref (x.2.2.1 + p0)), some (.ref (x.2.2.1 + p1)), some (.int i2), some (.int v2), some (.int 0)]) aX2_turnedAbout_6 ⟨by decide, rfl⟩ rfl ?_
  refine w_X2_turnedAbout_8 l x hp0 hp1 (fun i3_3 i4_4 h => ?_) FU _ _ h
  refine e_iload_n aX2_turnedAbout_69 rfl ?_
  exact e_retI aX2_turnedAbout_70 rfl rfl (pI_ro h)

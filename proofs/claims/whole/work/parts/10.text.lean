theorem w_sv : Cond.fieldLink RJ0 9 "java/lang/String" "value" "[B" ∈ TBW := tbw_memT 1200 (by decide +kernel) (by decide +kernel)
theorem w_sc : Cond.fieldLink RJ0 15 "java/lang/String" "coder" "B" ∈ TBW := tbw_memT 1201 (by decide +kernel) (by decide +kernel)
theorem w_cs : Cond.fieldLink RJ0 38 "java/lang/String" "COMPACT_STRINGS" "Z" ∈ TBW := tbw_memT 329 (by decide +kernel) (by decide +kernel)
theorem w_sf : Cond.fieldLink RJ0 1053 "jdk/internal/util/Preconditions" "SIOOBE_FORMATTER" "Ljava/util/function/BiFunction;" ∈ TBW := tbw_memT 345 (by decide +kernel) (by decide +kernel)
theorem co_J0_length_8abf5 : CO yJ0_length_8abf5 cJ0_length_8abf5 1 (some .int) 0 := ⟨tbw_memT 324 (by decide +kernel) (by decide +kernel), tbw_memT 11 (by decide +kernel) (by decide +kernel), by decide +kernel⟩
theorem co_J0_coder_7d493 : CO yJ0_coder_7d493 cJ0_coder_7d493 1 (some .byte) 0 := ⟨tbw_memT 328 (by decide +kernel) (by decide +kernel), tbw_memT 11 (by decide +kernel) (by decide +kernel), by decide +kernel⟩
theorem co_J0_isLatin1_aae02 : CO yJ0_isLatin1_aae02 cJ0_isLatin1_aae02 1 (some .boolean) 0 := ⟨tbw_memT 338 (by decide +kernel) (by decide +kernel), tbw_memT 11 (by decide +kernel) (by decide +kernel), by decide +kernel⟩
theorem co_J0_charAt_5068e : CO yJ0_charAt_5068e cJ0_charAt_5068e 2 (some .char) 1 := ⟨tbw_memT 334 (by decide +kernel) (by decide +kernel), tbw_memT 11 (by decide +kernel) (by decide +kernel), by decide +kernel⟩
theorem co_J1_charAt_3b067 : CO yJ1_charAt_3b067 cJ1_charAt_3b067 2 (some .char) 2 := ⟨tbw_memT 341 (by decide +kernel) (by decide +kernel), tbw_memT 12 (by decide +kernel) (by decide +kernel), by decide +kernel⟩
theorem co_J0_checkIndex_df160 : CO yJ0_checkIndex_df160 cJ0_checkIndex_df160 2 none 2 := ⟨tbw_memT 344 (by decide +kernel) (by decide +kernel), tbw_memT 11 (by decide +kernel) (by decide +kernel), by decide +kernel⟩
theorem co_J3_checkIndex_8e157 : CO yJ3_checkIndex_8e157 cJ3_checkIndex_8e157 3 (some .int) 3 := ⟨tbw_memT 349 (by decide +kernel) (by decide +kernel), tbw_memT 13 (by decide +kernel) (by decide +kernel), by decide +kernel⟩
theorem mJ0_335 : Cond.methodLink RJ0 335 yJ0_coder_7d493 ∈ TBW ∧ Cond.instanceMethod yJ0_coder_7d493 ∈ TBW ∧ Cond.selects yJ0_coder_7d493.cls yJ0_coder_7d493 yJ0_coder_7d493 ∈ TBW := ⟨tbw_memT 325 (by decide +kernel) (by decide +kernel), tbw_memT 326 (by decide +kernel) (by decide +kernel), tbw_memT 327 (by decide +kernel) (by decide +kernel)⟩
theorem mJ0_492 : Cond.methodLink RJ0 492 yJ0_isLatin1_aae02 ∈ TBW ∧ Cond.instanceMethod yJ0_isLatin1_aae02 ∈ TBW ∧ Cond.selects yJ0_isLatin1_aae02.cls yJ0_isLatin1_aae02 yJ0_isLatin1_aae02 ∈ TBW := ⟨tbw_memT 335 (by decide +kernel) (by decide +kernel), tbw_memT 336 (by decide +kernel) (by decide +kernel), tbw_memT 337 (by decide +kernel) (by decide +kernel)⟩
theorem mJ0_495 : Cond.methodLink RJ0 495 yJ1_charAt_3b067 ∈ TBW ∧ Cond.static yJ1_charAt_3b067 ∈ TBW := ⟨tbw_memT 339 (by decide +kernel) (by decide +kernel), tbw_memT 340 (by decide +kernel) (by decide +kernel)⟩
theorem mJ1_9 : Cond.methodLink RJ1 9 yJ0_checkIndex_df160 ∈ TBW ∧ Cond.static yJ0_checkIndex_df160 ∈ TBW := ⟨tbw_memT 342 (by decide +kernel) (by decide +kernel), tbw_memT 343 (by decide +kernel) (by decide +kernel)⟩
theorem mJ0_1059 : Cond.methodLink RJ0 1059 yJ3_checkIndex_8e157 ∈ TBW ∧ Cond.static yJ3_checkIndex_8e157 ∈ TBW := ⟨tbw_memT 347 (by decide +kernel) (by decide +kernel), tbw_memT 348 (by decide +kernel) (by decide +kernel)⟩
def lenS (j : Nat) : Nat := ([6, 5, 3] : List Nat).getD j 0
def chS (j k : Nat) : Int32 := (bytS.getD j []).getD k 0
section EV
variable {l : Launch} {x : WX} {al : Bool} {cc : ByteArray} {own : String} {rt : Option FieldType} {nL d ca sa : Nat} {post : Option Value → List LC → Mem → Prop} {pc pc2 : Nat} {L : List (Option Value)} {st : List Value} {lay : List LC} {M M1 : Mem}
theorem e_sval {j : Nat} (hj : j < 3) (hd : At cc pc 3 pc2 (.getfield 9)) (ho : own = RJ0) (kk : Ev l x al cc own rt nL d ca sa post pc2 L (.ref (x.2.2.2.2.1 j) :: st) lay M) : Ev l x al cc own rt nL d ca sa post pc L (.ref (x.2.2.2.1 j) :: st) lay M := by
  obtain ⟨hd, rfl⟩ := hd
  subst ho
  intro p e s m args below meth c R Q H locs cells slots ls C hw hS hls h1 h2 hr
  exact vk_getf C.1 C.2.1 (C.2.2.2.2.2.1.2.2.1.1 j hj).2.2.1 hS C.2.2.2.1 (C.2.2.2.2.1 _ w_sv) (fun _ h => h) hd (kk p e s m args below meth c R Q H locs cells slots ls C hw hS hls h1 h2 hr)
theorem e_scod {j : Nat} (hj : j < 3) (hd : At cc pc 3 pc2 (.getfield 15)) (ho : own = RJ0) (kk : Ev l x al cc own rt nL d ca sa post pc2 L (.int 0 :: st) lay M) : Ev l x al cc own rt nL d ca sa post pc L (.ref (x.2.2.2.1 j) :: st) lay M := by
  obtain ⟨hd, rfl⟩ := hd
  subst ho
  intro p e s m args below meth c R Q H locs cells slots ls C hw hS hls h1 h2 hr
  exact vk_getf C.1 C.2.1 (C.2.2.2.2.2.1.2.2.1.1 j hj).2.1 hS C.2.2.2.1 (C.2.2.2.2.1 _ w_sc) (fun _ h => h) hd (kk p e s m args below meth c R Q H locs cells slots ls C hw hS hls h1 h2 hr)
theorem e_comp (hd : At cc pc 3 pc2 (.getstatic 38)) (ho : own = RJ0) (kk : Ev l x al cc own rt nL d ca sa post pc2 L (.int 1 :: st) lay M) : Ev l x al cc own rt nL d ca sa post pc L st lay M := by
  obtain ⟨hd, rfl⟩ := hd
  subst ho
  intro p e s m args below meth c R Q H locs cells slots ls C hw hS hls h1 h2 hr
  exact va_gets C.1 C.2.1 C.2.2.2.2.2.1.2.2.2.2.1 hS C.2.2.2.1 (C.2.2.2.2.1 _ w_cs) (fun _ h => h) hd (kk p e s m args below meth c R Q H locs cells slots ls C hw hS hls h1 h2 hr)
theorem e_sioo (hd : At cc pc 3 pc2 (.getstatic 1053)) (ho : own = RJ0) (kk : ∀ v : Value, v.category = 1 → Ev l x al cc own rt nL d ca sa post pc2 L (v :: st) lay M) : Ev l x al cc own rt nL d ca sa post pc L st lay M := by
  obtain ⟨hd, rfl⟩ := hd
  subst ho
  intro p e s m args below meth c R Q H locs cells slots ls C hw hS hls h1 h2 hr
  rcases C.2.2.2.2.2.1.2.2.2.2.2.1 with hz | ⟨t, hz⟩
  · exact va_gets C.1 C.2.1 hz hS C.2.2.2.1 (C.2.2.2.2.1 _ w_sf) (fun _ h => h) hd (kk _ rfl p e s m args below meth c R Q H locs cells slots ls C hw hS hls h1 h2 hr)
  · exact va_gets C.1 C.2.1 hz hS C.2.2.2.1 (C.2.2.2.2.1 _ w_sf) (fun _ h => h) hd (kk _ rfl p e s m args below meth c R Q H locs cells slots ls C hw hS hls h1 h2 hr)
theorem e_sal {j : Nat} (hj : j < 3) (hd : At cc pc 1 pc2 .arraylength) (kk : Ev l x al cc own rt nL d ca sa post pc2 L (.int (nI (lenS j)) :: st) lay M) : Ev l x al cc own rt nL d ca sa post pc L (.ref (x.2.2.2.2.1 j) :: st) lay M := by
  obtain ⟨hd, rfl⟩ := hd
  intro p e s m args below meth c R Q H locs cells slots ls C hw hS hls h1 h2 hr
  exact va_tlen C.1 C.2.1 (C.2.2.2.2.2.1.2.2.1.1 j hj).2.2.2 hS rfl hd (kk p e s m args below meth c R Q H locs cells slots ls C hw hS hls h1 h2 hr)
theorem e_sbt {j : Nat} {i : Int32} (hj : j < 3) (hi : ¬ (i < 0 ∨ lenS j ≤ i.toNatClampNeg)) (hd : At cc pc 1 pc2 .baload) (kk : Ev l x al cc own rt nL d ca sa post pc2 L (.int (chS j i.toNatClampNeg) :: st) lay M) : Ev l x al cc own rt nL d ca sa post pc L (.int i :: .ref (x.2.2.2.2.1 j) :: st) lay M := by
  obtain ⟨hd, rfl⟩ := hd
  intro p e s m args below meth c R Q H locs cells slots ls C hw hS hls h1 h2 hr
  exact va_tb C.1 C.2.1 (C.2.2.2.2.2.1.2.2.1.1 j hj).2.2.2 hS hi rfl hd (kk p e s m args below meth c R Q H locs cells slots ls C hw hS hls h1 h2 hr)
/-- a call on a String constant -/
theorem e_callT {st0 : List Value} (rest : List Value) {As : List Value} {j idx n d2 nL2 : Nat} {y : MethodName} {cc2 : ByteArray} {rt2 : Option FieldType} {r : Int32} (hj : j < 3) (hd : At cc pc 3 pc2 (.invokevirtual idx)) (co : CO y cc2 nL2 rt2 n) (hlk : Cond.methodLink own idx y ∈ TBW ∧ Cond.instanceMethod y ∈ TBW ∧ Cond.selects y.cls y y ∈ TBW) (hqy : y.cls = "java/lang/String")
    (hM : Mt l x false y cc2 nL2 rt2 d2 0 0 (.ref (x.2.2.2.1 j) :: As) LAY M (pI r M)) (hn : As.length = n) (hdd : d2 + 1 ≤ d ∧ nL2 ≤ 13) (hrs : (rest.map fun v => v.category).sum ≤ 8) (hst : st0 = As.reverse ++ .ref (x.2.2.2.1 j) :: rest)
    (k : Ev l x false cc own rt nL d ca sa post pc2 L (.int r :: rest) LAY M) : Ev l x false cc own rt nL d ca sa post pc L st0 LAY M := by
  obtain ⟨hd, hpc⟩ := hd
  refine ev_run (mc := 0) (ms := 0) (rest := rest) (post2 := pI r M) hpc (aa := (.ref (x.2.2.2.1 j) :: As).toArray) (fun p e s m args below meth c R H locs cells slots ls C hw hS hls h1 h2 => ?_) (fun v lay2 M2 hp => by obtain ⟨h1, h2, h3⟩ := hp; subst h1; subst h2; subst h3; exact k)
  obtain ⟨hx, hb, hml, hown, hts, hku, hfr, hlo, hB, hnm9⟩ := id C
  refine va_runV (As := As) (b := x.2.2.2.1 j) (rest := rest) ⟨hx, hb, hml, hown, hts⟩ hM ⟨callB_of n hts (good_tbw co.1) rfl rfl rfl (hts _ co.2.1) (hts _ hlk.1) co.2.2 ⟨by show d2 + 1 ≤ R.frames; omega, by show 8 + (nL2 + 11) + 32 * d2 ≤ R.locals; omega⟩, hts _ hlk.2.1, hts _ hlk.2.2⟩ ⟨PcX.blind, by rw [hqy]; exact vk_recv hku.2.2.1 hj hS, fun U hU hW => ⟨rfl, hku.go hS hU hW, by rw [hU]; exact Nat.le_trans hB hS.1, by rw [hU]; exact hw⟩⟩ rfl hn hls.1 hst (lv_room hrs) hd ⟨h1, h2⟩
theorem e_ldcS (j : Nat) {idx : Nat} {tx : String} (hd : At cc pc 2 pc2 (.ldc idx)) (hq : (idx, tx, j) ∈ SRL) (ho : own = RX5) (kk : Ev l x al cc own rt nL d ca sa post pc2 L (.ref (x.2.2.2.1 j) :: st) lay M) : Ev l x al cc own rt nL d ca sa post pc L st lay M := by
  obtain ⟨hd, rfl⟩ := hd
  subst ho
  intro p e s m args below meth c R Q H locs cells slots ls C hw hS hls h1 h2 hr
  exact va_ldcS C.1 C.2.1 C.2.2.2.1 (C.2.2.2.2.2.1.2.2.2.1 _ hq) hd (kk p e s m args below meth c R Q H locs cells slots ls C hw hS hls h1 h2 hr)
theorem c_scoder (l : Launch) (x : WX) {j : Nat} {M : Mem} (hj : j < 3) : Mt l x false yJ0_coder_7d493 cJ0_coder_7d493 1 (some .byte) 0 0 0 [.ref (x.2.2.2.1 j)] LAY M (pI 0 M) := by
  refine mt_of (L0 := [some (.ref (x.2.2.2.1 j))]) (by decide +kernel) rfl (Nat.le_of_ble_eq_true rfl) (lvA_of 0 rfl) ?_
  refine e_comp aJ0_coder_7d493_0 rfl ?_
  refine e_if_eq (tgt := 13) aJ0_coder_7d493_3 (by decide) (fun q => absurd q (by decide)) (fun _ => ?_)
  refine e_aload_n aJ0_coder_7d493_6 rfl ?_
  refine e_scod hj aJ0_coder_7d493_7 rfl ?_
  refine e_goto (tgt := 14) aJ0_coder_7d493_10 (by decide) ?_
  exact e_retI aJ0_coder_7d493_14 rfl (by decide +kernel) ⟨rfl, rfl, rfl⟩
theorem c_slatin (l : Launch) (x : WX) {j : Nat} {M : Mem} (hj : j < 3) : Mt l x false yJ0_isLatin1_aae02 cJ0_isLatin1_aae02 1 (some .boolean) 0 0 0 [.ref (x.2.2.2.1 j)] LAY M (pI 1 M) := by
  refine mt_of (L0 := [some (.ref (x.2.2.2.1 j))]) (by decide +kernel) rfl (Nat.le_of_ble_eq_true rfl) (lvA_of 0 rfl) ?_
  refine e_comp aJ0_isLatin1_aae02_0 rfl ?_
  refine e_if_eq (tgt := 17) aJ0_isLatin1_aae02_3 (by decide) (fun q => absurd q (by decide)) (fun _ => ?_)
  refine e_aload_n aJ0_isLatin1_aae02_6 rfl ?_
  refine e_scod hj aJ0_isLatin1_aae02_7 rfl ?_
  refine e_if_ne (tgt := 17) aJ0_isLatin1_aae02_10 (by decide) (fun q => absurd rfl q) (fun _ => ?_)
  refine e_iconst (v := 1) aJ0_isLatin1_aae02_13 (by decide) ?_
  refine e_goto (tgt := 18) aJ0_isLatin1_aae02_14 (by decide) ?_
  exact e_retI aJ0_isLatin1_aae02_18 rfl (by decide +kernel) ⟨rfl, rfl, rfl⟩
theorem sl_sh : ∀ j, j < 3 → nI (lenS j) >>> ((0 : Int32) &&& 31) = nI (lenS j) := by decide +kernel
theorem c_slength (l : Launch) (x : WX) {j : Nat} {M : Mem} (hj : j < 3) : Mt l x false yJ0_length_8abf5 cJ0_length_8abf5 1 (some .int) 1 0 0 [.ref (x.2.2.2.1 j)] LAY M (pI (nI (lenS j)) M) := by
  refine mt_of (L0 := [some (.ref (x.2.2.2.1 j))]) (by decide +kernel) rfl (Nat.le_of_ble_eq_true rfl) (lvA_of 0 rfl) ?_
  refine e_aload_n aJ0_length_8abf5_0 rfl ?_
  refine e_sval hj aJ0_length_8abf5_1 rfl ?_
  refine e_sal hj aJ0_length_8abf5_4 ?_
  refine e_aload_n aJ0_length_8abf5_5 rfl ?_
  refine e_callT [.int (nI (lenS j))] hj aJ0_length_8abf5_6 co_J0_coder_7d493 mJ0_335 rfl (c_scoder l x hj) rfl ⟨by decide, by decide⟩ (Nat.le_of_ble_eq_true rfl) rfl ?_
  refine e_ishr aJ0_length_8abf5_9 ?_
  rw [sl_sh j hj]
  exact e_retI aJ0_length_8abf5_10 rfl rfl ⟨rfl, rfl, rfl⟩
theorem c_pcheck (l : Launch) (x : WX) {i n : Int32} {v : Value} {M : Mem} (hv : v.category = 1) (h0 : ¬ i < 0) (hn : i < n) : Mt l x false yJ3_checkIndex_8e157 cJ3_checkIndex_8e157 3 (some .int) 0 0 0 [.int i, .int n, v] LAY M (pI i M) := by
  refine mt_of (L0 := [some (.int i), some (.int n), none]) (by decide +kernel) rfl (by cases v <;> first | exact Nat.le_of_ble_eq_true rfl | cases hv) (fun k w hk => ?_) ?_
  · match k, hk with
    | 0, hk => exact hk
    | 1, hk => exact hk
    | 2, hk => exact nomatch hk
  · refine e_iload_n aJ3_checkIndex_8e157_0 rfl ?_
    refine e_if_lt (tgt := 9) aJ3_checkIndex_8e157_1 (by decide) (fun q => absurd q h0) (fun _ => ?_)
    refine e_iload_n aJ3_checkIndex_8e157_4 rfl ?_
    refine e_iload_n aJ3_checkIndex_8e157_5 rfl ?_
    refine e_icmp_lt (tgt := 16) aJ3_checkIndex_8e157_6 (by decide) (fun _ => ?_) (fun q => absurd hn q)
    refine e_iload_n aJ3_checkIndex_8e157_16 rfl ?_
    exact e_retI aJ3_checkIndex_8e157_17 rfl rfl ⟨rfl, rfl, rfl⟩
theorem c_scheck (l : Launch) (x : WX) {i n : Int32} {M : Mem} (h0 : ¬ i < 0) (hn : i < n) : Mt l x false yJ0_checkIndex_df160 cJ0_checkIndex_df160 2 none 1 0 0 [.int i, .int n] LAY M (pV M) := by
  refine mt_of (L0 := [some (.int i), some (.int n)]) (by decide +kernel) rfl (Nat.le_of_ble_eq_true rfl) (lvA_of 0 rfl) ?_
  refine e_iload_n aJ0_checkIndex_df160_0 rfl ?_
  refine e_iload_n aJ0_checkIndex_df160_1 rfl ?_
  refine e_sioo aJ0_checkIndex_df160_2 rfl (fun v hv => ?_)
  refine e_SI [] aJ0_checkIndex_df160_5 co_J3_checkIndex_8e157 mJ0_1059 (c_pcheck l x hv h0 hn) rfl ⟨by decide, by decide⟩ (Nat.le_of_ble_eq_true rfl) rfl ?_
  refine e_popI aJ0_checkIndex_df160_8 ?_
  exact e_ret0 aJ0_checkIndex_df160_9 rfl ⟨rfl, rfl, rfl⟩
theorem sl_ch : ∀ j, j < 3 → ∀ k, k < 6 → ((chS j k &&& 255).toUInt32 % 65536).toInt32 = chS j k ∧ narrow .char (.int (chS j k)) = .int (chS j k) := by decide +kernel
theorem sl_le : ∀ j, j < 3 → lenS j ≤ 6 := by decide +kernel
theorem ix_slt {i : Int32} {n : Nat} (hn : n < 2 ^ 31) (h : ¬ (i < 0 ∨ n ≤ i.toNatClampNeg)) : i < nI n := by
  obtain ⟨j, hj, rfl⟩ := vp_in_of (x := i) (n := n) h hn
  exact nI_lt hj hn
theorem c_lchar (l : Launch) (x : WX) {j : Nat} {i : Int32} {M : Mem} (hj : j < 3) (hi : ¬ (i < 0 ∨ lenS j ≤ i.toNatClampNeg)) : Mt l x false yJ1_charAt_3b067 cJ1_charAt_3b067 2 (some .char) 2 0 0 [.ref (x.2.2.2.2.1 j), .int i] LAY M (pI (chS j i.toNatClampNeg) M) := by
  have hk : i.toNatClampNeg < 6 := Nat.lt_of_lt_of_le (ix_lt hi) (sl_le j hj)
  have h31 : lenS j < 2 ^ 31 := Nat.lt_of_le_of_lt (sl_le j hj) (by decide)
  refine mt_of (L0 := [some (.ref (x.2.2.2.2.1 j)), some (.int i)]) (by decide +kernel) rfl (Nat.le_of_ble_eq_true rfl) (lvA_of 0 rfl) ?_
  refine e_iload_n aJ1_charAt_3b067_0 rfl ?_
  refine e_aload_n aJ1_charAt_3b067_1 rfl ?_
  refine e_sal hj aJ1_charAt_3b067_2 ?_
  refine e_SV [] aJ1_charAt_3b067_3 co_J0_checkIndex_df160 mJ1_9 (c_scheck l x (fun q => hi (Or.inl q)) (ix_slt h31 hi)) rfl ⟨by decide, by decide⟩ (Nat.le_of_ble_eq_true rfl) rfl ?_
  refine e_aload_n aJ1_charAt_3b067_6 rfl ?_
  refine e_iload_n aJ1_charAt_3b067_7 rfl ?_
  refine e_sbt hj hi aJ1_charAt_3b067_8 ?_
  refine e_sipush (v := 255) aJ1_charAt_3b067_9 (by decide) ?_
  refine e_iand aJ1_charAt_3b067_12 ?_
  refine e_i2c aJ1_charAt_3b067_13 ?_
  rw [(sl_ch j hj _ hk).1]
  exact e_retI aJ1_charAt_3b067_14 rfl (sl_ch j hj _ hk).2 ⟨rfl, rfl, rfl⟩
theorem c_schar (l : Launch) (x : WX) {j : Nat} {i : Int32} {M : Mem} (hj : j < 3) (hi : ¬ (i < 0 ∨ lenS j ≤ i.toNatClampNeg)) : Mt l x false yJ0_charAt_5068e cJ0_charAt_5068e 2 (some .char) 3 0 0 [.ref (x.2.2.2.1 j), .int i] LAY M (pI (chS j i.toNatClampNeg) M) := by
  have hk : i.toNatClampNeg < 6 := Nat.lt_of_lt_of_le (ix_lt hi) (sl_le j hj)
  refine mt_of (L0 := [some (.ref (x.2.2.2.1 j)), some (.int i)]) (by decide +kernel) rfl (Nat.le_of_ble_eq_true rfl) (lvA_of 0 rfl) ?_
  refine e_aload_n aJ0_charAt_5068e_0 rfl ?_
  refine e_callT [] hj aJ0_charAt_5068e_1 co_J0_isLatin1_aae02 mJ0_492 rfl (c_slatin l x hj) rfl ⟨by decide, by decide⟩ (Nat.le_of_ble_eq_true rfl) rfl ?_
  refine e_if_eq (tgt := 16) aJ0_charAt_5068e_4 (by decide) (fun q => absurd q (by decide)) (fun _ => ?_)
  refine e_aload_n aJ0_charAt_5068e_7 rfl ?_
  refine e_sval hj aJ0_charAt_5068e_8 rfl ?_
  refine e_iload_n aJ0_charAt_5068e_11 rfl ?_
  refine e_SI [] aJ0_charAt_5068e_12 co_J1_charAt_3b067 mJ0_495 (c_lchar l x hj hi) rfl ⟨by decide, by decide⟩ (Nat.le_of_ble_eq_true rfl) rfl ?_
  exact e_retI aJ0_charAt_5068e_15 rfl (sl_ch j hj _ hk).2 ⟨rfl, rfl, rfl⟩
theorem e_slen {j idx : Nat} (hd : At cc pc 3 pc2 (.invokevirtual idx)) (hj : j < 3) (hlk : Cond.methodLink own idx yJ0_length_8abf5 ∈ TBW ∧ Cond.instanceMethod yJ0_length_8abf5 ∈ TBW ∧ Cond.selects yJ0_length_8abf5.cls yJ0_length_8abf5 yJ0_length_8abf5 ∈ TBW) (hdd : 2 ≤ d) (hrs : (st.map fun v => v.category).sum ≤ 8) (k : Ev l x false cc own rt nL d ca sa post pc2 L (.int (nI (lenS j)) :: st) LAY M) : Ev l x false cc own rt nL d ca sa post pc L (.ref (x.2.2.2.1 j) :: st) LAY M :=
  e_callT st hj hd co_J0_length_8abf5 hlk rfl (c_slength l x hj) rfl ⟨hdd, by decide⟩ hrs rfl k
theorem e_schar {j idx : Nat} {i : Int32} (hd : At cc pc 3 pc2 (.invokevirtual idx)) (hj : j < 3) (hlk : Cond.methodLink own idx yJ0_charAt_5068e ∈ TBW ∧ Cond.instanceMethod yJ0_charAt_5068e ∈ TBW ∧ Cond.selects yJ0_charAt_5068e.cls yJ0_charAt_5068e yJ0_charAt_5068e ∈ TBW) (hi : ¬ (i < 0 ∨ lenS j ≤ i.toNatClampNeg)) (hdd : 4 ≤ d) (hrs : (st.map fun v => v.category).sum ≤ 8) (k : Ev l x false cc own rt nL d ca sa post pc2 L (.int (chS j i.toNatClampNeg) :: st) LAY M) : Ev l x false cc own rt nL d ca sa post pc L (.int i :: .ref (x.2.2.2.1 j) :: st) LAY M :=
  e_callT st hj hd co_J0_charAt_5068e hlk rfl (c_schar l x hj hi) rfl ⟨hdd, by decide⟩ hrs rfl k
end EV

def s_X5_isWord_28 (p1 : Nat) (M : Mem) (k : Int32 → Option Int32) (rec : Int32 → Option Int32) (i2 : Int32) : Option Int32 :=
  if nI (lenS p1) ≤ i2 then
    k i2
  else
    if (M 45 4) + i2 < 0 ∨ 200 ≤ ((M 45 4) + i2).toNatClampNeg then none else
    if i2 < 0 ∨ lenS p1 ≤ i2.toNatClampNeg then none else
    if M 46 ((M 45 4) + i2).toNatClampNeg = chS p1 i2.toNatClampNeg then
      rec (i2 + 1)
    else
      some 0
def f_X5_isWord_28 (p1 : Nat) (M : Mem) (k : Int32 → Option Int32) : Nat → Int32 → Option Int32
  | 0 => fun _ => none
  | n + 1 => fun i2 => s_X5_isWord_28 p1 M k (f_X5_isWord_28 p1 M k n) i2
set_option maxRecDepth 100000 in
set_option maxHeartbeats 4000000 in
theorem w_X5_isWord_28 (l : Launch) (x : WX) {p1 : Nat} {M : Mem} {k : Int32 → Option Int32} {r : Int32} (hp1 : p1 < 3) (K : ∀ (i2 : Int32), k i2 = some r → Ev l x false cX5_isWord RX5 (some FieldType.boolean) 3 5 0 0 (pI r M) 63 [some (.ref (x.2.2.1 + 45)), some (.ref (x.2.2.2.1 p1)), some (.int i2)] [] LAY M) : ∀ (n : Nat) (i2 : Int32), f_X5_isWord_28 p1 M k n i2 = some r → Ev l x false cX5_isWord RX5 (some FieldType.boolean) 3 5 0 0 (pI r M) 28 [some (.ref (x.2.2.1 + 45)), some (.ref (x.2.2.2.1 p1)), some (.int i2)] [] LAY M := by
  intro n
  induction n with
  | zero =>
    intro i2 h
    exact nomatch (show (none : Option Int32) = some r from h)
  | succ n ih =>
    intro i2 h
    have h : s_X5_isWord_28 p1 M k (f_X5_isWord_28 p1 M k n) i2 = some r := h
    unfold s_X5_isWord_28 at h
    refine e_iload_n aX5_isWord_28 rfl ?_
    refine e_aload_n aX5_isWord_29 rfl ?_
    refine e_slen aX5_isWord_30 hp1 mX5_90 (by decide) (Nat.le_of_ble_eq_true rfl) ?_
    rcases of_ite h with ⟨hc1, h⟩ | ⟨hc1, h⟩
    · refine e_icmp_ge (tgt := 63) aX5_isWord_33 (by decide) (fun _ => ?_) (fun q => absurd hc1 q)
      exact K _ h
    · refine e_icmp_ge (tgt := 63) aX5_isWord_33 (by decide) (fun q => absurd q hc1) (fun _ => ?_)
      refine e_aload_n aX5_isWord_36 rfl ?_
      refine e_getR (r := 46) aX5_isWord_37 fX5_9 ly_45 rfl ?_
      refine e_aload_n aX5_isWord_40 rfl ?_
      refine e_getI aX5_isWord_41 fX5_25 ly_45 rfl ?_
      refine e_iload_n aX5_isWord_44 rfl ?_
      refine e_iadd aX5_isWord_45 ?_
      obtain ⟨hg2, h⟩ := of_guard h
      refine e_iald aX5_isWord_46 ly_46 hg2 ?_
      refine e_aload_n aX5_isWord_47 rfl ?_
      refine e_iload_n aX5_isWord_48 rfl ?_
      obtain ⟨hg3, h⟩ := of_guard h
      refine e_schar aX5_isWord_49 hp1 mX5_94 hg3 (by decide) (Nat.le_of_ble_eq_true rfl) ?_
      rcases of_ite h with ⟨hc4, h⟩ | ⟨hc4, h⟩
      · refine e_icmp_eq (tgt := 57) aX5_isWord_52 (by decide) (fun _ => ?_) (fun q => absurd hc4 q)
        refine e_iinc (v := i2 + 1) (L2 := [some (.ref (x.2.2.1 + 45)), some (.ref (x.2.2.2.1 p1)), some (.int (i2 + 1))]) aX5_isWord_57 rfl rfl ⟨by decide, rfl⟩ rfl ?_
        refine e_goto (tgt := 28) aX5_isWord_60 (by decide) ?_
        exact ih _ h
      · refine e_icmp_eq (tgt := 57) aX5_isWord_52 (by decide) (fun q => absurd q hc4) (fun _ => ?_)
        refine e_iconst (v := 0) aX5_isWord_55 (by decide) ?_
        exact e_retI aX5_isWord_56 rfl (by decide +kernel) (pI_ro h)
def f_X5_isWord (p1 : Nat) (M : Mem) : Option Int32 :=
  if M 45 3 = 1 then
    if (M 45 5) - (M 45 4) = nI (lenS p1) then
      f_X5_isWord_28 p1 M (fun (i2_3 : Int32) =>
        some 1) FU 0
    else
      some 0
  else
    some 0
set_option maxRecDepth 100000 in
set_option maxHeartbeats 4000000 in
theorem c_X5_isWord (l : Launch) (x : WX) {p1 : Nat} {M : Mem} {r : Int32} (hp1 : p1 < 3) (h : f_X5_isWord p1 M = some r) : Mt l x false yX5_isWord cX5_isWord 3 (some FieldType.boolean) 5 0 0 [.ref (x.2.2.1 + 45), .ref (x.2.2.2.1 p1)] LAY M (pI r M) := by
  refine mt_of (L0 := [some (.ref (x.2.2.1 + 45)), some (.ref (x.2.2.2.1 p1)), none]) (by decide +kernel) rfl (Nat.le_of_ble_eq_true rfl) (lvA_of 1 rfl) ?_
  unfold f_X5_isWord at h
  refine e_aload_n aX5_isWord_0 rfl ?_
  refine e_getI aX5_isWord_1 fX5_22 ly_45 rfl ?_
  refine e_iconst (v := 1) aX5_isWord_4 (by decide) ?_
  rcases of_ite h with ⟨hc1, h⟩ | ⟨hc1, h⟩
  · refine e_icmp_ne (tgt := 24) aX5_isWord_5 (by decide) (fun q => absurd hc1 q) (fun _ => ?_)
    refine e_aload_n aX5_isWord_8 rfl ?_
    refine e_getI aX5_isWord_9 fX5_28 ly_45 rfl ?_
    refine e_aload_n aX5_isWord_12 rfl ?_
    refine e_getI aX5_isWord_13 fX5_25 ly_45 rfl ?_
    refine e_isub aX5_isWord_16 ?_
    refine e_aload_n aX5_isWord_17 rfl ?_
    refine e_slen aX5_isWord_18 hp1 mX5_90 (by decide) (Nat.le_of_ble_eq_true rfl) ?_
    rcases of_ite h with ⟨hc2, h⟩ | ⟨hc2, h⟩
    · refine e_icmp_eq (tgt := 26) aX5_isWord_21 (by decide) (fun _ => ?_) (fun q => absurd hc2 q)
      refine e_iconst (v := 0) aX5_isWord_26 (by decide) ?_
      refine e_istore_n (L2 := [some (.ref (x.2.2.1 + 45)), some (.ref (x.2.2.2.1 p1)), some (.int 0)]) aX5_isWord_27 ⟨by decide, rfl⟩ rfl ?_
      refine w_X5_isWord_28 l x hp1 (fun i2_3 h => ?_) FU _ h
      refine e_iconst (v := 1) aX5_isWord_63 (by decide) ?_
      exact e_retI aX5_isWord_64 rfl (by decide +kernel) (pI_ro h)
    · refine e_icmp_eq (tgt := 26) aX5_isWord_21 (by decide) (fun q => absurd q hc2) (fun _ => ?_)
      refine e_iconst (v := 0) aX5_isWord_24 (by decide) ?_
      exact e_retI aX5_isWord_25 rfl (by decide +kernel) (pI_ro h)
  · refine e_icmp_ne (tgt := 24) aX5_isWord_5 (by decide) (fun _ => ?_) (fun q => absurd q hc1)
    refine e_iconst (v := 0) aX5_isWord_24 (by decide) ?_
    exact e_retI aX5_isWord_25 rfl (by decide +kernel) (pI_ro h)
def f_X5_readClause  (M : Mem) : Option (Int32 × Mem) :=
  (f_X5_isWord 0 M).bind fun (r1 : Int32) =>
  if r1 = 0 then
    (f_X5_isWord 1 M).bind fun (r3 : Int32) =>
    if r3 = 0 then
      (f_X5_isWord 2 M).bind fun (r5 : Int32) =>
      if r5 = 0 then
        some (0, M)
      else
        (f_X5_readRow M).bind fun (q7 : Int32 × Mem) =>
        if q7.1 = 0 then
          some (0, q7.2)
        else
          some (1, q7.2)
    else
      (f_X5_readArrow M).bind fun (q9 : Int32 × Mem) =>
      if ¬ (q9.1 = 0 ∨ q9.1 = 1) then none else
      some (q9.1, q9.2)
  else
    (f_X5_readPoints M).bind fun (q11 : Int32 × Mem) =>
    if ¬ (q11.1 = 0 ∨ q11.1 = 1) then none else
    some (q11.1, q11.2)
set_option maxRecDepth 100000 in
set_option maxHeartbeats 4000000 in
theorem c_X5_readClause (l : Launch) (x : WX)  {M : Mem} {r : (Int32 × Mem)}  (h : f_X5_readClause  M = some r) : Mt l x false yX5_readClause cX5_readClause 2 (some FieldType.boolean) 6 0 0 [.ref (x.2.2.1 + 45), .ref (x.2.2.1 + 5)] LAY M (pI r.1 r.2) := by
  refine mt_of (L0 := [some (.ref (x.2.2.1 + 45)), some (.ref (x.2.2.1 + 5))]) (by decide +kernel) rfl (Nat.le_of_ble_eq_true rfl) (lvA_of 0 rfl) ?_
  unfold f_X5_readClause at h
  refine e_aload_n aX5_readClause_0 rfl ?_
  refine e_ldcS 0 (tx := "quiver") aX5_readClause_1 (by decide) rfl ?_
  obtain ⟨r1, hr1, h⟩ := of_bind h
  refine e_VI [] aX5_readClause_3 co_X5_isWord mX5_40 ly_45 rfl rfl (c_X5_isWord l x (by decide) hr1) rfl ⟨by decide, by decide⟩ (Nat.le_of_ble_eq_true rfl) rfl ?_
  rcases of_ite h with ⟨hc2, h⟩ | ⟨hc2, h⟩
  · refine e_if_eq (tgt := 15) aX5_readClause_6 (by decide) (fun _ => ?_) (fun q => absurd hc2 q)
    refine e_aload_n aX5_readClause_15 rfl ?_
    refine e_ldcS 1 (tx := "arrow") aX5_readClause_16 (by decide) rfl ?_
    obtain ⟨r3, hr3, h⟩ := of_bind h
    refine e_VI [] aX5_readClause_18 co_X5_isWord mX5_40 ly_45 rfl rfl (c_X5_isWord l x (by decide) hr3) rfl ⟨by decide, by decide⟩ (Nat.le_of_ble_eq_true rfl) rfl ?_
    rcases of_ite h with ⟨hc4, h⟩ | ⟨hc4, h⟩
    · refine e_if_eq (tgt := 30) aX5_readClause_21 (by decide) (fun _ => ?_) (fun q => absurd hc4 q)
      refine e_aload_n aX5_readClause_30 rfl ?_
      refine e_ldcS 2 (tx := "row") aX5_readClause_31 (by decide) rfl ?_
      obtain ⟨r5, hr5, h⟩ := of_bind h
      refine e_VI [] aX5_readClause_33 co_X5_isWord mX5_40 ly_45 rfl rfl (c_X5_isWord l x (by decide) hr5) rfl ⟨by decide, by decide⟩ (Nat.le_of_ble_eq_true rfl) rfl ?_
      rcases of_ite h with ⟨hc6, h⟩ | ⟨hc6, h⟩
      · refine e_if_eq (tgt := 51) aX5_readClause_36 (by decide) (fun _ => ?_) (fun q => absurd hc6 q)
        refine e_iconst (v := 0) aX5_readClause_51 (by decide) ?_
        exact e_retI aX5_readClause_52 rfl (by decide +kernel) (pI_of h)
      · refine e_if_eq (tgt := 51) aX5_readClause_36 (by decide) (fun q => absurd q hc6) (fun _ => ?_)
        refine e_aload_n aX5_readClause_39 rfl ?_
        refine e_aload_n aX5_readClause_40 rfl ?_
        obtain ⟨q7, hq7, h⟩ := of_bind h
        refine e_VI [] aX5_readClause_41 co_X5_readRow mX5_54 ly_45 rfl rfl (c_X5_readRow l x hq7) rfl ⟨by decide, by decide⟩ (Nat.le_of_ble_eq_true rfl) rfl ?_
        rcases of_ite h with ⟨hc8, h⟩ | ⟨hc8, h⟩
        · refine e_if_eq (tgt := 51) aX5_readClause_44 (by decide) (fun _ => ?_) (fun q => absurd hc8 q)
          refine e_iconst (v := 0) aX5_readClause_51 (by decide) ?_
          exact e_retI aX5_readClause_52 rfl (by decide +kernel) (pI_of h)
        · refine e_if_eq (tgt := 51) aX5_readClause_44 (by decide) (fun q => absurd q hc8) (fun _ => ?_)
          refine e_iconst (v := 1) aX5_readClause_47 (by decide) ?_
          refine e_goto (tgt := 52) aX5_readClause_48 (by decide) ?_
          exact e_retI aX5_readClause_52 rfl (by decide +kernel) (pI_of h)
    · refine e_if_eq (tgt := 30) aX5_readClause_21 (by decide) (fun q => absurd q hc4) (fun _ => ?_)
      refine e_aload_n aX5_readClause_24 rfl ?_
      refine e_aload_n aX5_readClause_25 rfl ?_
      obtain ⟨q9, hq9, h⟩ := of_bind h
      refine e_VI [] aX5_readClause_26 co_X5_readArrow mX5_49 ly_45 rfl rfl (c_X5_readArrow l x hq9) rfl ⟨by decide, by decide⟩ (Nat.le_of_ble_eq_true rfl) rfl ?_
      obtain ⟨hg10, h⟩ := of_guard h
      exact e_retI aX5_readClause_29 rfl (nz_of (Decidable.of_not_not hg10)) (pI_of h)
  · refine e_if_eq (tgt := 15) aX5_readClause_6 (by decide) (fun q => absurd q hc2) (fun _ => ?_)
    refine e_aload_n aX5_readClause_9 rfl ?_
    refine e_aload_n aX5_readClause_10 rfl ?_
    obtain ⟨q11, hq11, h⟩ := of_bind h
    refine e_VI [] aX5_readClause_11 co_X5_readPoints mX5_44 ly_45 rfl rfl (c_X5_readPoints l x hq11) rfl ⟨by decide, by decide⟩ (Nat.le_of_ble_eq_true rfl) rfl ?_
    obtain ⟨hg12, h⟩ := of_guard h
    exact e_retI aX5_readClause_14 rfl (nz_of (Decidable.of_not_not hg12)) (pI_of h)
def s_X5_readInto_12  (k : Int32 → Mem → Option (Int32 × Mem)) (rec : Int32 → Mem → Option (Int32 × Mem)) (i2 : Int32) (M : Mem) : Option (Int32 × Mem) :=
  if 24 ≤ i2 then
    k i2 M
  else
    (f_X5_nextToken M).bind fun (M2 : Mem) =>
    (f_X5_readClause M2).bind fun (q3 : Int32 × Mem) =>
    if q3.1 = 0 then
      some (q3.2 45 4, q3.2)
    else
      lt (um q3.2 45 2 ((q3.2 45 2) + 1)) fun (M5 : Mem) =>
      (f_X5_nextToken M5).bind fun (M6 : Mem) =>
      if M6 45 3 = 0 then
        some ((-1), M6)
      else
        if M6 45 3 = 3 then
          if M6 45 4 < 0 ∨ 200 ≤ (M6 45 4).toNatClampNeg then none else
          if M6 46 (M6 45 4).toNatClampNeg = 59 then
            rec (i2 + 1) M6
          else
            some (M6 45 4, M6)
        else
          some (M6 45 4, M6)
def f_X5_readInto_12  (k : Int32 → Mem → Option (Int32 × Mem)) : Nat → Int32 → Mem → Option (Int32 × Mem)
  | 0 => fun _ _ => none
  | n + 1 => fun i2 M => s_X5_readInto_12  k (f_X5_readInto_12  k n) i2 M
set_option maxRecDepth 100000 in
set_option maxHeartbeats 4000000 in
theorem w_X5_readInto_12 (l : Launch) (x : WX)  {k : Int32 → Mem → Option (Int32 × Mem)} {r : (Int32 × Mem)}  (K : ∀ (i2 : Int32) (M : Mem), k i2 M = some r → Ev l x false cX5_readInto RX5 (some FieldType.int) 3 7 0 0 (pI r.1 r.2) 91 [some (.ref (x.2.2.1 + 45)), some (.ref (x.2.2.1 + 5)), some (.int i2)] [] LAY M) : ∀ (n : Nat) (i2 : Int32) (M : Mem), f_X5_readInto_12  k n i2 M = some r → Ev l x false cX5_readInto RX5 (some FieldType.int) 3 7 0 0 (pI r.1 r.2) 12 [some (.ref (x.2.2.1 + 45)), some (.ref (x.2.2.1 + 5)), some (.int i2)] [] LAY M := by
  intro n
  induction n with
  | zero =>
    intro i2 M h
    exact nomatch (show (none : Option (Int32 × Mem)) = some r from h)
  | succ n ih =>
    intro i2 M h
    have h : s_X5_readInto_12  k (f_X5_readInto_12  k n) i2 M = some r := h
    unfold s_X5_readInto_12 at h
    refine e_iload_n aX5_readInto_12 rfl ?_
    refine e_bipush (v := 24) aX5_readInto_13 (by decide) ?_
    rcases of_ite h with ⟨hc1, h⟩ | ⟨hc1, h⟩
    · refine e_icmp_ge (tgt := 91) aX5_readInto_15 (by decide) (fun _ => ?_) (fun q => absurd hc1 q)
      exact K _ _ h
    · refine e_icmp_ge (tgt := 91) aX5_readInto_15 (by decide) (fun q => absurd q hc1) (fun _ => ?_)
      refine e_aload_n aX5_readInto_18 rfl ?_
      obtain ⟨M2, hM2, h⟩ := of_bind h
      refine e_VV [] aX5_readInto_19 co_X5_nextToken mX5_31 ly_45 rfl rfl (c_X5_nextToken l x hM2) rfl ⟨by decide, by decide⟩ (Nat.le_of_ble_eq_true rfl) rfl ?_
      refine e_aload_n aX5_readInto_22 rfl ?_
      refine e_aload_n aX5_readInto_23 rfl ?_
      obtain ⟨q3, hq3, h⟩ := of_bind h
      refine e_VI [] aX5_readInto_24 co_X5_readClause mX5_34 ly_45 rfl rfl (c_X5_readClause l x hq3) rfl ⟨by decide, by decide⟩ (Nat.le_of_ble_eq_true rfl) rfl ?_
      rcases of_ite h with ⟨hc4, h⟩ | ⟨hc4, h⟩
      · refine e_if_ne (tgt := 35) aX5_readInto_27 (by decide) (fun q => absurd hc4 q) (fun _ => ?_)
        refine e_aload_n aX5_readInto_30 rfl ?_
        refine e_getI aX5_readInto_31 fX5_25 ly_45 rfl ?_
        exact e_retI aX5_readInto_34 rfl rfl (pI_of h)
      · refine e_if_ne (tgt := 35) aX5_readInto_27 (by decide) (fun _ => ?_) (fun q => absurd q hc4)
        refine e_aload_n aX5_readInto_35 rfl ?_
        refine e_dupR aX5_readInto_36 ?_
        refine e_getI aX5_readInto_37 fX5_19 ly_45 rfl ?_
        refine e_iconst (v := 1) aX5_readInto_40 (by decide) ?_
        refine e_iadd aX5_readInto_41 ?_
        obtain ⟨M5, eM5, h⟩ := of_lt h
        refine e_put aX5_readInto_42 qX5_19 ly_45 rfl (fi_of _) eM5 ?_
        refine e_aload_n aX5_readInto_45 rfl ?_
        obtain ⟨M6, hM6, h⟩ := of_bind h
        refine e_VV [] aX5_readInto_46 co_X5_nextToken mX5_31 ly_45 rfl rfl (c_X5_nextToken l x hM6) rfl ⟨by decide, by decide⟩ (Nat.le_of_ble_eq_true rfl) rfl ?_
        refine e_aload_n aX5_readInto_49 rfl ?_
        refine e_getI aX5_readInto_50 fX5_22 ly_45 rfl ?_
        rcases of_ite h with ⟨hc7, h⟩ | ⟨hc7, h⟩
        · refine e_if_ne (tgt := 58) aX5_readInto_53 (by decide) (fun q => absurd hc7 q) (fun _ => ?_)
          refine e_iconst (v := (-1)) aX5_readInto_56 (by decide) ?_
          exact e_retI aX5_readInto_57 rfl rfl (pI_of h)
        · refine e_if_ne (tgt := 58) aX5_readInto_53 (by decide) (fun _ => ?_) (fun q => absurd q hc7)
          refine e_aload_n aX5_readInto_58 rfl ?_
          refine e_getI aX5_readInto_59 fX5_22 ly_45 rfl ?_
          refine e_iconst (v := 3) aX5_readInto_62 (by decide) ?_
          rcases of_ite h with ⟨hc8, h⟩ | ⟨hc8, h⟩
          · refine e_icmp_ne (tgt := 80) aX5_readInto_63 (by decide) (fun q => absurd hc8 q) (fun _ => ?_)
            refine e_aload_n aX5_readInto_66 rfl ?_
            refine e_getR (r := 46) aX5_readInto_67 fX5_9 ly_45 rfl ?_
            refine e_aload_n aX5_readInto_70 rfl ?_
            refine e_getI aX5_readInto_71 fX5_25 ly_45 rfl ?_
            obtain ⟨hg9, h⟩ := of_guard h
            refine e_iald aX5_readInto_74 ly_46 hg9 ?_
            refine e_bipush (v := 59) aX5_readInto_75 (by decide) ?_
            rcases of_ite h with ⟨hc10, h⟩ | ⟨hc10, h⟩
            · refine e_icmp_eq (tgt := 85) aX5_readInto_77 (by decide) (fun _ => ?_) (fun q => absurd hc10 q)
              refine e_iinc (v := i2 + 1) (L2 := [some (.ref (x.2.2.1 + 45)), some (.ref (x.2.2.1 + 5)), some (.int (i2 + 1))]) aX5_readInto_85 rfl rfl ⟨by decide, rfl⟩ rfl ?_
              refine e_goto (tgt := 12) aX5_readInto_88 (by decide) ?_
              exact ih _ _ h
            · refine e_icmp_eq (tgt := 85) aX5_readInto_77 (by decide) (fun q => absurd q hc10) (fun _ => ?_)
              refine e_aload_n aX5_readInto_80 rfl ?_
              refine e_getI aX5_readInto_81 fX5_25 ly_45 rfl ?_
              exact e_retI aX5_readInto_84 rfl rfl (pI_of h)
          · refine e_icmp_ne (tgt := 80) aX5_readInto_63 (by decide) (fun _ => ?_) (fun q => absurd q hc8)
            refine e_aload_n aX5_readInto_80 rfl ?_
            refine e_getI aX5_readInto_81 fX5_25 ly_45 rfl ?_
            exact e_retI aX5_readInto_84 rfl rfl (pI_of h)
def f_X5_readInto  (M : Mem) : Option (Int32 × Mem) :=
  lt (um M 45 2 0) fun (M1 : Mem) =>
  lt (um M1 45 5 0) fun (M2 : Mem) =>
  f_X5_readInto_12  (fun (i2_3 : Int32) (M4 : Mem) =>
    some (M4 45 4, M4)) FU 0 M2
set_option maxRecDepth 100000 in
set_option maxHeartbeats 4000000 in
theorem c_X5_readInto (l : Launch) (x : WX)  {M : Mem} {r : (Int32 × Mem)}  (h : f_X5_readInto  M = some r) : Mt l x false yX5_readInto cX5_readInto 3 (some FieldType.int) 7 0 0 [.ref (x.2.2.1 + 45), .ref (x.2.2.1 + 5)] LAY M (pI r.1 r.2) := by
  refine mt_of (L0 := [some (.ref (x.2.2.1 + 45)), some (.ref (x.2.2.1 + 5)), none]) (by decide +kernel) rfl (Nat.le_of_ble_eq_true rfl) (lvA_of 1 rfl) ?_
  unfold f_X5_readInto at h
  refine e_aload_n aX5_readInto_0 rfl ?_
  refine e_iconst (v := 0) aX5_readInto_1 (by decide) ?_
  obtain ⟨M1, eM1, h⟩ := of_lt h
  refine e_put aX5_readInto_2 qX5_19 ly_45 rfl (fi_of _) eM1 ?_
  refine e_aload_n aX5_readInto_5 rfl ?_
  refine e_iconst (v := 0) aX5_readInto_6 (by decide) ?_
  obtain ⟨M2, eM2, h⟩ := of_lt h
  refine e_put aX5_readInto_7 qX5_28 ly_45 rfl (fi_of _) eM2 ?_
  refine e_iconst (v := 0) aX5_readInto_10 (by decide) ?_
  refine e_istore_n (L2 := [some (.ref (x.2.2.1 + 45)), some (.ref (x.2.2.1 + 5)), some (.int 0)]) aX5_readInto_11 ⟨by decide, rfl⟩ rfl ?_
  refine w_X5_readInto_12 l x  (fun i2_3 M4 h => ?_) FU _ _ h
  refine e_aload_n aX5_readInto_91 rfl ?_
  refine e_getI aX5_readInto_92 fX5_25 ly_45 rfl ?_
  exact e_retI aX5_readInto_95 rfl rfl (pI_of h)
def f_X7_fault  (M : Mem) : Option (Int32 × Mem) :=
  (f_X2_become 5 1 M).bind fun (M1 : Mem) =>
  (f_X5_readInto M1).bind fun (q2 : Int32 × Mem) =>
  some (q2.1, q2.2)
set_option maxRecDepth 100000 in
set_option maxHeartbeats 4000000 in
theorem c_X7_fault (l : Launch) (x : WX)  {M : Mem} {r : (Int32 × Mem)}  (h : f_X7_fault  M = some r) : Mt l x false yX7_fault cX7_fault 1 (some FieldType.int) 8 0 0 [.ref (x.2.2.1 + 0)] LAY M (pI r.1 r.2) := by
  refine mt_of (L0 := [some (.ref (x.2.2.1 + 0))]) (by decide +kernel) rfl (Nat.le_of_ble_eq_true rfl) (lvA_of 0 rfl) ?_
  unfold f_X7_fault at h
  refine e_aload_n aX7_fault_0 rfl ?_
  refine e_getR (r := 5) aX7_fault_1 fX7_16 ly_0 rfl ?_
  refine e_aload_n aX7_fault_4 rfl ?_
  refine e_getR (r := 1) aX7_fault_5 fX7_10 ly_0 rfl ?_
  obtain ⟨M1, hM1, h⟩ := of_bind h
  refine e_VV [] aX7_fault_8 co_X2_become mX7_89 ly_5 rfl rfl (c_X2_become l x qa_5 qa_1 hM1) rfl ⟨by decide, by decide⟩ (Nat.le_of_ble_eq_true rfl) rfl ?_
  refine e_aload_n aX7_fault_11 rfl ?_
  refine e_getR (r := 45) aX7_fault_12 fX7_37 ly_0 rfl ?_
  refine e_aload_n aX7_fault_15 rfl ?_
  refine e_getR (r := 5) aX7_fault_16 fX7_16 ly_0 rfl ?_
  obtain ⟨q2, hq2, h⟩ := of_bind h
  refine e_VI [] aX7_fault_19 co_X5_readInto mX7_93 ly_45 rfl rfl (c_X5_readInto l x hq2) rfl ⟨by decide, by decide⟩ (Nat.le_of_ble_eq_true rfl) rfl ?_
  exact e_retI aX7_fault_22 rfl rfl (pI_of h)
def s_X7_quiver_57  (k : Int32 → Mem → Option (Int32 × Mem)) (rec : Int32 → Mem → Option (Int32 × Mem)) (i1 : Int32) (M : Mem) : Option (Int32 × Mem) :=
  if 2 ≤ i1 then
    k i1 M
  else
    if i1 < 0 ∨ 2 ≤ i1.toNatClampNeg then none else
    lt (um M 44 i1.toNatClampNeg 0) fun (M3 : Mem) =>
    rec (i1 + 1) M3
def f_X7_quiver_57  (k : Int32 → Mem → Option (Int32 × Mem)) : Nat → Int32 → Mem → Option (Int32 × Mem)
  | 0 => fun _ _ => none
  | n + 1 => fun i1 M => s_X7_quiver_57  k (f_X7_quiver_57  k n) i1 M
set_option maxRecDepth 100000 in
set_option maxHeartbeats 4000000 in
theorem w_X7_quiver_57 (l : Launch) (x : WX)  {k : Int32 → Mem → Option (Int32 × Mem)} {r : (Int32 × Mem)}  (K : ∀ (i1 : Int32) (M : Mem), k i1 M = some r → Ev l x false cX7_quiver RX7 (some FieldType.int) 2 8 0 0 (pI r.1 r.2) 75 [some (.ref (x.2.2.1 + 0)), some (.int i1)] [] LAY M) : ∀ (n : Nat) (i1 : Int32) (M : Mem), f_X7_quiver_57  k n i1 M = some r → Ev l x false cX7_quiver RX7 (some FieldType.int) 2 8 0 0 (pI r.1 r.2) 57 [some (.ref (x.2.2.1 + 0)), some (.int i1)] [] LAY M := by
  intro n
  induction n with
  | zero =>
    intro i1 M h
    exact nomatch (show (none : Option (Int32 × Mem)) = some r from h)
  | succ n ih =>
    intro i1 M h
    have h : s_X7_quiver_57  k (f_X7_quiver_57  k n) i1 M = some r := h
    unfold s_X7_quiver_57 at h
    refine e_iload_n aX7_quiver_57 rfl ?_
    refine e_iconst (v := 2) aX7_quiver_58 (by decide) ?_
    rcases of_ite h with ⟨hc1, h⟩ | ⟨hc1, h⟩
    · refine e_icmp_ge (tgt := 75) aX7_quiver_59 (by decide) (fun _ => ?_) (fun q => absurd hc1 q)
      exact K _ _ h
    · refine e_icmp_ge (tgt := 75) aX7_quiver_59 (by decide) (fun q => absurd q hc1) (fun _ => ?_)
      refine e_aload_n aX7_quiver_62 rfl ?_
      refine e_getR (r := 44) aX7_quiver_63 fX7_30 ly_0 rfl ?_
      refine e_iload_n aX7_quiver_66 rfl ?_
      refine e_iconst (v := 0) aX7_quiver_67 (by decide) ?_
      obtain ⟨hg2, h⟩ := of_guard h
      obtain ⟨M3, eM3, h⟩ := of_lt h
      refine e_zst aX7_quiver_68 ly_44 hg2 (by decide +kernel) eM3 ?_
      refine e_iinc (v := i1 + 1) (L2 := [some (.ref (x.2.2.1 + 0)), some (.int (i1 + 1))]) aX7_quiver_69 rfl rfl ⟨by decide, rfl⟩ rfl ?_
      refine e_goto (tgt := 57) aX7_quiver_72 (by decide) ?_
      exact ih _ _ h
def f_X7_quiver  (M : Mem) : Option (Int32 × Mem) :=
  (f_X2_become 5 1 M).bind fun (M1 : Mem) =>
  (f_X5_readInto M1).bind fun (q2 : Int32 × Mem) =>
  if q2.1 = (-1) then
    (f_X2_become 1 5 q2.2).bind fun (M4 : Mem) =>
    lt (um M4 45 1 0) fun (M5 : Mem) =>
    (f_X1_forget M5).bind fun (M6 : Mem) =>
    f_X7_quiver_57  (fun (i1_7 : Int32) (M8 : Mem) =>
      (f_X7_arrowsChanged M8).bind fun (M9 : Mem) =>
      some (M9 45 2, M9)) FU 0 M6
  else
    some ((-1000003), q2.2)
set_option maxRecDepth 100000 in
set_option maxHeartbeats 4000000 in
theorem c_X7_quiver (l : Launch) (x : WX)  {M : Mem} {r : (Int32 × Mem)}  (h : f_X7_quiver  M = some r) : Mt l x false yX7_quiver cX7_quiver 2 (some FieldType.int) 8 0 0 [.ref (x.2.2.1 + 0)] LAY M (pI r.1 r.2) := by
  refine mt_of (L0 := [some (.ref (x.2.2.1 + 0)), none]) (by decide +kernel) rfl (Nat.le_of_ble_eq_true rfl) (lvA_of 1 rfl) ?_
  unfold f_X7_quiver at h
  refine e_aload_n aX7_quiver_0 rfl ?_
  refine e_getR (r := 5) aX7_quiver_1 fX7_16 ly_0 rfl ?_
  refine e_aload_n aX7_quiver_4 rfl ?_
  refine e_getR (r := 1) aX7_quiver_5 fX7_10 ly_0 rfl ?_
  obtain ⟨M1, hM1, h⟩ := of_bind h
  refine e_VV [] aX7_quiver_8 co_X2_become mX7_89 ly_5 rfl rfl (c_X2_become l x qa_5 qa_1 hM1) rfl ⟨by decide, by decide⟩ (Nat.le_of_ble_eq_true rfl) rfl ?_
  refine e_aload_n aX7_quiver_11 rfl ?_
  refine e_getR (r := 45) aX7_quiver_12 fX7_37 ly_0 rfl ?_
  refine e_aload_n aX7_quiver_15 rfl ?_
  refine e_getR (r := 5) aX7_quiver_16 fX7_16 ly_0 rfl ?_
  obtain ⟨q2, hq2, h⟩ := of_bind h
  refine e_VI [] aX7_quiver_19 co_X5_readInto mX7_93 ly_45 rfl rfl (c_X5_readInto l x hq2) rfl ⟨by decide, by decide⟩ (Nat.le_of_ble_eq_true rfl) rfl ?_
  refine e_iconst (v := (-1)) aX7_quiver_22 (by decide) ?_
  rcases of_ite h with ⟨hc3, h⟩ | ⟨hc3, h⟩
  · refine e_icmp_eq (tgt := 29) aX7_quiver_23 (by decide) (fun _ => ?_) (fun q => absurd hc3 q)
    refine e_aload_n aX7_quiver_29 rfl ?_
    refine e_getR (r := 1) aX7_quiver_30 fX7_10 ly_0 rfl ?_
    refine e_aload_n aX7_quiver_33 rfl ?_
    refine e_getR (r := 5) aX7_quiver_34 fX7_16 ly_0 rfl ?_
    obtain ⟨M4, hM4, h⟩ := of_bind h
    refine e_VV [] aX7_quiver_37 co_X2_become mX7_89 ly_1 rfl rfl (c_X2_become l x qa_1 qa_5 hM4) rfl ⟨by decide, by decide⟩ (Nat.le_of_ble_eq_true rfl) rfl ?_
    refine e_aload_n aX7_quiver_40 rfl ?_
    refine e_getR (r := 45) aX7_quiver_41 fX7_37 ly_0 rfl ?_
    refine e_iconst (v := 0) aX7_quiver_44 (by decide) ?_
    obtain ⟨M5, eM5, h⟩ := of_lt h
    refine e_put aX7_quiver_45 qX7_81 ly_45 rfl (fi_of _) eM5 ?_
    refine e_aload_n aX7_quiver_48 rfl ?_
    refine e_getR (r := 9) aX7_quiver_49 fX7_22 ly_0 rfl ?_
    obtain ⟨M6, hM6, h⟩ := of_bind h
    refine e_VV [] aX7_quiver_52 co_X1_forget mX7_98 ly_9 rfl rfl (c_X1_forget l x hM6) rfl ⟨by decide, by decide⟩ (Nat.le_of_ble_eq_true rfl) rfl ?_
    refine e_iconst (v := 0) aX7_quiver_55 (by decide) ?_
    refine e_istore_n (L2 := [some (.ref (x.2.2.1 + 0)), some (.int 0)]) aX7_quiver_56 ⟨by decide, rfl⟩ rfl ?_
    refine w_X7_quiver_57 l x  (fun i1_7 M8 h => ?_) FU _ _ h
    refine e_aload_n aX7_quiver_75 rfl ?_
    obtain ⟨M9, hM9, h⟩ := of_bind h
    refine e_VV [] aX7_quiver_76 co_X7_arrowsChanged mX7_101 ly_0 rfl rfl (c_X7_arrowsChanged l x hM9) rfl ⟨by decide, by decide⟩ (Nat.le_of_ble_eq_true rfl) rfl ?_
    refine e_aload_n aX7_quiver_79 rfl ?_
    refine e_getR (r := 45) aX7_quiver_80 fX7_37 ly_0 rfl ?_
    refine e_getI aX7_quiver_83 fX7_104 ly_45 rfl ?_
    exact e_retI aX7_quiver_86 rfl rfl (pI_of h)
  · refine e_icmp_eq (tgt := 29) aX7_quiver_23 (by decide) (fun q => absurd q hc3) (fun _ => ?_)
    refine e_ldc aX7_quiver_26 kX7_97 ?_
    exact e_retI aX7_quiver_28 rfl rfl (pI_of h)

theorem e_norm {l : Launch} {x : WX} {al : Bool} {cc : ByteArray} {own : String} {rt : Option FieldType} {nL d ca sa : Nat} {post : Option Value → List LC → Mem → Prop} {pc : Nat} {L : List (Option Value)} {st : List Value} {lay lay2 : List LC} {T T2 : List (Nat × Nat × Int32)} (h1 : lay = lay2) (h2 : T = T2) (k : Ev l x al cc own rt nL d ca sa post pc L st lay2 (tabM T2)) : Ev l x al cc own rt nL d ca sa post pc L st lay (tabM T) := by
  subst h1; subst h2; exact k
theorem zt_all {T : List (Nat × Nat × Int32)} {n : Nat} (h : Zt T n) : ∀ q, n ≤ q → ∀ j, tabM T q j = 0 := fun q hq => zt_at (by
  unfold Zt at h ⊢
  rw [List.all_eq_true] at h ⊢
  intro e he
  have := h e he
  simp at this ⊢
  omega)
theorem mna_fs {fs : List Nat} {N n : Nat} (h : fs = (List.range N).map (fun j => n + 1 + j + 2)) : ∀ j, cr 0 (fs.getD j 1) = if j < N then some (n + 1 + j) else none := by
  intro j
  subst h
  rw [List.getD_eq_getElem?_getD, List.getElem?_map]
  by_cases hj : j < N
  · rw [List.getElem?_range hj, if_pos hj]
    simp [cr]
  · rw [if_neg hj]
    have : (List.range N)[j]? = none := List.getElem?_eq_none (by rw [List.length_range]; omega)
    rw [this]
    rfl
theorem clX7_7 : Cond.classLink RX7 7 "QuiverDesk$Quiver" ∈ TBW ∧ Cond.instantiable "QuiverDesk$Quiver" 5 ∈ TBW ∧ Cond.initialized "QuiverDesk$Quiver" ∈ TBW := ⟨tbw_memT 24 (by decide +kernel) (by decide +kernel), tbw_memT 25 (by decide +kernel) (by decide +kernel), tbw_memT 2 (by decide +kernel) (by decide +kernel)⟩
def LI_2 : List LC := [(0, 7, [1, 1, 1, 1, 1, 1, 1, 1, 1, 1, 1, 0, 0]), (0, 2, [0, 0, 1, 1, 1])]
def LE_2 : List LC := [(0, 7, [1, 1, 1, 1, 1, 1, 1, 1, 1, 1, 1, 0, 0]), (0, 2, [0, 0, 4, 5, 6]), (1, 10, []), (1, 10, []), (1, 6, [])]
def TI_2 : List (Nat × Nat × Int32) := []
def TE_2 : List (Nat × Nat × Int32) := [(1, 1, 0), (1, 0, 3)]
set_option maxRecDepth 100000 in
set_option maxHeartbeats 8000000 in
theorem ci_2 (l : Launch) (x : WX) : Mt l x true yX2_init cX2_init 1 none 1 3 26 [.ref (x.2.2.1 + 1)] LI_2 (tabM TI_2) (fun v lay9 M9 => v = none ∧ lay9 = LE_2 ∧ M9 = tabM TE_2) := by
  refine mt_of (L0 := [some (.ref (x.2.2.1 + 1))]) (by decide +kernel) rfl (Nat.le_of_ble_eq_true rfl) (lvA_of 0 rfl) ?_
  refine e_aload_n aX2_init_0 rfl ?_
  refine e_objI aX2_init_1 mX2_3 (by decide) (Nat.le_of_ble_eq_true rfl) ?_
  refine e_aload_n aX2_init_4 rfl ?_
  refine e_iconst (v := 3) aX2_init_5 (by decide) ?_
  refine e_putT (fs := [0, 0, 1, 1, 1]) aX2_init_6 qX2_9 (by decide +kernel) rfl (fi_of _) ?_
  refine e_aload_n aX2_init_9 rfl ?_
  refine e_iconst (v := 0) aX2_init_10 (by decide) ?_
  refine e_putT (fs := [0, 0, 1, 1, 1]) aX2_init_11 qX2_15 (by decide +kernel) rfl (fi_of _) ?_
  refine e_aload_n aX2_init_14 rfl ?_
  refine e_bipush (v := 10) aX2_init_15 (by decide) ?_
  refine e_budget (ca2 := 2 + 1) (sa2 := 16 + 10) rfl rfl ?_
  refine e_newI (n := 2) (N := 10) aX2_init_17 (by decide) (by decide) (by decide) (by decide +kernel) (zt_at (by decide +kernel)) ?_
  refine e_putR (r := 2) (fs := [0, 0, 1, 1, 1]) aX2_init_19 qX2_18 (fun q h => by cases h; rfl) (by decide +kernel) rfl (fun _ => ⟨rfl, rfl⟩) ?_
  refine e_aload_n aX2_init_22 rfl ?_
  refine e_bipush (v := 10) aX2_init_23 (by decide) ?_
  refine e_budget (ca2 := 1 + 1) (sa2 := 6 + 10) rfl rfl ?_
  refine e_newI (n := 3) (N := 10) aX2_init_25 (by decide) (by decide) (by decide) (by decide +kernel) (zt_at (by decide +kernel)) ?_
  refine e_putR (r := 3) (fs := [0, 0, 4, 1, 1]) aX2_init_27 qX2_22 (fun q h => by cases h; rfl) (by decide +kernel) rfl (fun _ => ⟨rfl, rfl⟩) ?_
  refine e_aload_n aX2_init_30 rfl ?_
  refine e_bipush (v := 6) aX2_init_31 (by decide) ?_
  refine e_budget (ca2 := 0 + 1) (sa2 := 0 + 6) rfl rfl ?_
  refine e_newI (n := 4) (N := 6) aX2_init_33 (by decide) (by decide) (by decide) (by decide +kernel) (zt_at (by decide +kernel)) ?_
  refine e_putR (r := 4) (fs := [0, 0, 4, 5, 1]) aX2_init_35 qX2_25 (fun q h => by cases h; rfl) (by decide +kernel) rfl (fun _ => ⟨rfl, rfl⟩) ?_
  exact e_ret0 aX2_init_38 rfl ⟨rfl, by decide +kernel, congrArg tabM (by decide +kernel)⟩
def LI_3 : List LC := [(0, 7, [3, 1, 1, 1, 1, 1, 1, 1, 1, 1, 1, 0, 0]), (0, 2, [0, 0, 4, 5, 6]), (1, 10, []), (1, 10, []), (1, 6, []), (0, 2, [0, 0, 1, 1, 1])]
def LE_3 : List LC := [(0, 7, [3, 1, 1, 1, 1, 1, 1, 1, 1, 1, 1, 0, 0]), (0, 2, [0, 0, 4, 5, 6]), (1, 10, []), (1, 10, []), (1, 6, []), (0, 2, [0, 0, 8, 9, 10]), (1, 10, []), (1, 10, []), (1, 6, [])]
def TI_3 : List (Nat × Nat × Int32) := [(1, 1, 0), (1, 0, 3)]
def TE_3 : List (Nat × Nat × Int32) := [(5, 1, 0), (5, 0, 3), (1, 1, 0), (1, 0, 3)]
set_option maxRecDepth 100000 in
set_option maxHeartbeats 8000000 in
theorem ci_3 (l : Launch) (x : WX) : Mt l x true yX2_init cX2_init 1 none 1 3 26 [.ref (x.2.2.1 + 5)] LI_3 (tabM TI_3) (fun v lay9 M9 => v = none ∧ lay9 = LE_3 ∧ M9 = tabM TE_3) := by
  refine mt_of (L0 := [some (.ref (x.2.2.1 + 5))]) (by decide +kernel) rfl (Nat.le_of_ble_eq_true rfl) (lvA_of 0 rfl) ?_
  refine e_aload_n aX2_init_0 rfl ?_
  refine e_objI aX2_init_1 mX2_3 (by decide) (Nat.le_of_ble_eq_true rfl) ?_
  refine e_aload_n aX2_init_4 rfl ?_
  refine e_iconst (v := 3) aX2_init_5 (by decide) ?_
  refine e_putT (fs := [0, 0, 1, 1, 1]) aX2_init_6 qX2_9 (by decide +kernel) rfl (fi_of _) ?_
  refine e_aload_n aX2_init_9 rfl ?_
  refine e_iconst (v := 0) aX2_init_10 (by decide) ?_
  refine e_putT (fs := [0, 0, 1, 1, 1]) aX2_init_11 qX2_15 (by decide +kernel) rfl (fi_of _) ?_
  refine e_aload_n aX2_init_14 rfl ?_
  refine e_bipush (v := 10) aX2_init_15 (by decide) ?_
  refine e_budget (ca2 := 2 + 1) (sa2 := 16 + 10) rfl rfl ?_
  refine e_newI (n := 6) (N := 10) aX2_init_17 (by decide) (by decide) (by decide) (by decide +kernel) (zt_at (by decide +kernel)) ?_
  refine e_putR (r := 6) (fs := [0, 0, 1, 1, 1]) aX2_init_19 qX2_18 (fun q h => by cases h; rfl) (by decide +kernel) rfl (fun _ => ⟨rfl, rfl⟩) ?_
  refine e_aload_n aX2_init_22 rfl ?_
  refine e_bipush (v := 10) aX2_init_23 (by decide) ?_
  refine e_budget (ca2 := 1 + 1) (sa2 := 6 + 10) rfl rfl ?_
  refine e_newI (n := 7) (N := 10) aX2_init_25 (by decide) (by decide) (by decide) (by decide +kernel) (zt_at (by decide +kernel)) ?_
  refine e_putR (r := 7) (fs := [0, 0, 8, 1, 1]) aX2_init_27 qX2_22 (fun q h => by cases h; rfl) (by decide +kernel) rfl (fun _ => ⟨rfl, rfl⟩) ?_
  refine e_aload_n aX2_init_30 rfl ?_
  refine e_bipush (v := 6) aX2_init_31 (by decide) ?_
  refine e_budget (ca2 := 0 + 1) (sa2 := 0 + 6) rfl rfl ?_
  refine e_newI (n := 8) (N := 6) aX2_init_33 (by decide) (by decide) (by decide) (by decide +kernel) (zt_at (by decide +kernel)) ?_
  refine e_putR (r := 8) (fs := [0, 0, 8, 9, 1]) aX2_init_35 qX2_25 (fun q h => by cases h; rfl) (by decide +kernel) rfl (fun _ => ⟨rfl, rfl⟩) ?_
  exact e_ret0 aX2_init_38 rfl ⟨rfl, by decide +kernel, congrArg tabM (by decide +kernel)⟩
theorem clX7_19 : Cond.classLink RX7 19 "QuiverDesk$Past" ∈ TBW ∧ Cond.instantiable "QuiverDesk$Past" 3 ∈ TBW ∧ Cond.initialized "QuiverDesk$Past" ∈ TBW := ⟨tbw_memT 62 (by decide +kernel) (by decide +kernel), tbw_memT 63 (by decide +kernel) (by decide +kernel), tbw_memT 3 (by decide +kernel) (by decide +kernel)⟩
theorem caX1_9 : Cond.classLink RX1 9 "QuiverDesk$Quiver" ∈ TBW := tbw_memT 68 (by decide +kernel) (by decide +kernel)
theorem clX1_9 : Cond.classLink RX1 9 "QuiverDesk$Quiver" ∈ TBW ∧ Cond.instantiable "QuiverDesk$Quiver" 5 ∈ TBW ∧ Cond.initialized "QuiverDesk$Quiver" ∈ TBW := ⟨tbw_memT 68 (by decide +kernel) (by decide +kernel), tbw_memT 25 (by decide +kernel) (by decide +kernel), tbw_memT 2 (by decide +kernel) (by decide +kernel)⟩
def LI_5 : List LC := [(0, 7, [3, 7, 1, 1, 1, 1, 1, 1, 1, 1, 1, 0, 0]), (0, 2, [0, 0, 4, 5, 6]), (1, 10, []), (1, 10, []), (1, 6, []), (0, 2, [0, 0, 8, 9, 10]), (1, 10, []), (1, 10, []), (1, 6, []), (0, 1, [12, 0, 0]), (3, 8, [1, 1, 1, 1, 1, 1, 1, 1]), (0, 2, [0, 0, 1, 1, 1])]
def LE_5 : List LC := [(0, 7, [3, 7, 1, 1, 1, 1, 1, 1, 1, 1, 1, 0, 0]), (0, 2, [0, 0, 4, 5, 6]), (1, 10, []), (1, 10, []), (1, 6, []), (0, 2, [0, 0, 8, 9, 10]), (1, 10, []), (1, 10, []), (1, 6, []), (0, 1, [12, 0, 0]), (3, 8, [1, 1, 1, 1, 1, 1, 1, 1]), (0, 2, [0, 0, 14, 15, 16]), (1, 10, []), (1, 10, []), (1, 6, [])]
def TI_5 : List (Nat × Nat × Int32) := [(9, 2, 0), (9, 1, 0), (5, 1, 0), (5, 0, 3), (1, 1, 0), (1, 0, 3)]
def TE_5 : List (Nat × Nat × Int32) := [(11, 1, 0), (11, 0, 3), (9, 2, 0), (9, 1, 0), (5, 1, 0), (5, 0, 3), (1, 1, 0), (1, 0, 3)]
set_option maxRecDepth 100000 in
set_option maxHeartbeats 8000000 in
theorem ci_5 (l : Launch) (x : WX) : Mt l x true yX2_init cX2_init 1 none 1 3 26 [.ref (x.2.2.1 + 11)] LI_5 (tabM TI_5) (fun v lay9 M9 => v = none ∧ lay9 = LE_5 ∧ M9 = tabM TE_5) := by
  refine mt_of (L0 := [some (.ref (x.2.2.1 + 11))]) (by decide +kernel) rfl (Nat.le_of_ble_eq_true rfl) (lvA_of 0 rfl) ?_
  refine e_aload_n aX2_init_0 rfl ?_
  refine e_objI aX2_init_1 mX2_3 (by decide) (Nat.le_of_ble_eq_true rfl) ?_
  refine e_aload_n aX2_init_4 rfl ?_
  refine e_iconst (v := 3) aX2_init_5 (by decide) ?_
  refine e_putT (fs := [0, 0, 1, 1, 1]) aX2_init_6 qX2_9 (by decide +kernel) rfl (fi_of _) ?_
  refine e_aload_n aX2_init_9 rfl ?_
  refine e_iconst (v := 0) aX2_init_10 (by decide) ?_
  refine e_putT (fs := [0, 0, 1, 1, 1]) aX2_init_11 qX2_15 (by decide +kernel) rfl (fi_of _) ?_
  refine e_aload_n aX2_init_14 rfl ?_
  refine e_bipush (v := 10) aX2_init_15 (by decide) ?_
  refine e_budget (ca2 := 2 + 1) (sa2 := 16 + 10) rfl rfl ?_
  refine e_newI (n := 12) (N := 10) aX2_init_17 (by decide) (by decide) (by decide) (by decide +kernel) (zt_at (by decide +kernel)) ?_
  refine e_putR (r := 12) (fs := [0, 0, 1, 1, 1]) aX2_init_19 qX2_18 (fun q h => by cases h; rfl) (by decide +kernel) rfl (fun _ => ⟨rfl, rfl⟩) ?_
  refine e_aload_n aX2_init_22 rfl ?_
  refine e_bipush (v := 10) aX2_init_23 (by decide) ?_
  refine e_budget (ca2 := 1 + 1) (sa2 := 6 + 10) rfl rfl ?_
  refine e_newI (n := 13) (N := 10) aX2_init_25 (by decide) (by decide) (by decide) (by decide +kernel) (zt_at (by decide +kernel)) ?_
  refine e_putR (r := 13) (fs := [0, 0, 14, 1, 1]) aX2_init_27 qX2_22 (fun q h => by cases h; rfl) (by decide +kernel) rfl (fun _ => ⟨rfl, rfl⟩) ?_
  refine e_aload_n aX2_init_30 rfl ?_
  refine e_bipush (v := 6) aX2_init_31 (by decide) ?_
  refine e_budget (ca2 := 0 + 1) (sa2 := 0 + 6) rfl rfl ?_
  refine e_newI (n := 14) (N := 6) aX2_init_33 (by decide) (by decide) (by decide) (by decide +kernel) (zt_at (by decide +kernel)) ?_
  refine e_putR (r := 14) (fs := [0, 0, 14, 15, 1]) aX2_init_35 qX2_25 (fun q h => by cases h; rfl) (by decide +kernel) rfl (fun _ => ⟨rfl, rfl⟩) ?_
  exact e_ret0 aX2_init_38 rfl ⟨rfl, by decide +kernel, congrArg tabM (by decide +kernel)⟩
def LI_6 : List LC := [(0, 7, [3, 7, 1, 1, 1, 1, 1, 1, 1, 1, 1, 0, 0]), (0, 2, [0, 0, 4, 5, 6]), (1, 10, []), (1, 10, []), (1, 6, []), (0, 2, [0, 0, 8, 9, 10]), (1, 10, []), (1, 10, []), (1, 6, []), (0, 1, [12, 0, 0]), (3, 8, [13, 1, 1, 1, 1, 1, 1, 1]), (0, 2, [0, 0, 14, 15, 16]), (1, 10, []), (1, 10, []), (1, 6, []), (0, 2, [0, 0, 1, 1, 1])]
def LE_6 : List LC := [(0, 7, [3, 7, 1, 1, 1, 1, 1, 1, 1, 1, 1, 0, 0]), (0, 2, [0, 0, 4, 5, 6]), (1, 10, []), (1, 10, []), (1, 6, []), (0, 2, [0, 0, 8, 9, 10]), (1, 10, []), (1, 10, []), (1, 6, []), (0, 1, [12, 0, 0]), (3, 8, [13, 1, 1, 1, 1, 1, 1, 1]), (0, 2, [0, 0, 14, 15, 16]), (1, 10, []), (1, 10, []), (1, 6, []), (0, 2, [0, 0, 18, 19, 20]), (1, 10, []), (1, 10, []), (1, 6, [])]
def TI_6 : List (Nat × Nat × Int32) := [(11, 1, 0), (11, 0, 3), (9, 2, 0), (9, 1, 0), (5, 1, 0), (5, 0, 3), (1, 1, 0), (1, 0, 3)]
def TE_6 : List (Nat × Nat × Int32) := [(15, 1, 0), (15, 0, 3), (11, 1, 0), (11, 0, 3), (9, 2, 0), (9, 1, 0), (5, 1, 0), (5, 0, 3), (1, 1, 0), (1, 0, 3)]
set_option maxRecDepth 100000 in
set_option maxHeartbeats 8000000 in
theorem ci_6 (l : Launch) (x : WX) : Mt l x true yX2_init cX2_init 1 none 1 3 26 [.ref (x.2.2.1 + 15)] LI_6 (tabM TI_6) (fun v lay9 M9 => v = none ∧ lay9 = LE_6 ∧ M9 = tabM TE_6) := by
  refine mt_of (L0 := [some (.ref (x.2.2.1 + 15))]) (by decide +kernel) rfl (Nat.le_of_ble_eq_true rfl) (lvA_of 0 rfl) ?_
  refine e_aload_n aX2_init_0 rfl ?_
  refine e_objI aX2_init_1 mX2_3 (by decide) (Nat.le_of_ble_eq_true rfl) ?_
  refine e_aload_n aX2_init_4 rfl ?_
  refine e_iconst (v := 3) aX2_init_5 (by decide) ?_
  refine e_putT (fs := [0, 0, 1, 1, 1]) aX2_init_6 qX2_9 (by decide +kernel) rfl (fi_of _) ?_
  refine e_aload_n aX2_init_9 rfl ?_
  refine e_iconst (v := 0) aX2_init_10 (by decide) ?_
  refine e_putT (fs := [0, 0, 1, 1, 1]) aX2_init_11 qX2_15 (by decide +kernel) rfl (fi_of _) ?_
  refine e_aload_n aX2_init_14 rfl ?_
  refine e_bipush (v := 10) aX2_init_15 (by decide) ?_
  refine e_budget (ca2 := 2 + 1) (sa2 := 16 + 10) rfl rfl ?_
  refine e_newI (n := 16) (N := 10) aX2_init_17 (by decide) (by decide) (by decide) (by decide +kernel) (zt_at (by decide +kernel)) ?_
  refine e_putR (r := 16) (fs := [0, 0, 1, 1, 1]) aX2_init_19 qX2_18 (fun q h => by cases h; rfl) (by decide +kernel) rfl (fun _ => ⟨rfl, rfl⟩) ?_
  refine e_aload_n aX2_init_22 rfl ?_
  refine e_bipush (v := 10) aX2_init_23 (by decide) ?_
  refine e_budget (ca2 := 1 + 1) (sa2 := 6 + 10) rfl rfl ?_
  refine e_newI (n := 17) (N := 10) aX2_init_25 (by decide) (by decide) (by decide) (by decide +kernel) (zt_at (by decide +kernel)) ?_
  refine e_putR (r := 17) (fs := [0, 0, 18, 1, 1]) aX2_init_27 qX2_22 (fun q h => by cases h; rfl) (by decide +kernel) rfl (fun _ => ⟨rfl, rfl⟩) ?_
  refine e_aload_n aX2_init_30 rfl ?_
  refine e_bipush (v := 6) aX2_init_31 (by decide) ?_
  refine e_budget (ca2 := 0 + 1) (sa2 := 0 + 6) rfl rfl ?_
  refine e_newI (n := 18) (N := 6) aX2_init_33 (by decide) (by decide) (by decide) (by decide +kernel) (zt_at (by decide +kernel)) ?_
  refine e_putR (r := 18) (fs := [0, 0, 18, 19, 1]) aX2_init_35 qX2_25 (fun q h => by cases h; rfl) (by decide +kernel) rfl (fun _ => ⟨rfl, rfl⟩) ?_
  exact e_ret0 aX2_init_38 rfl ⟨rfl, by decide +kernel, congrArg tabM (by decide +kernel)⟩
def LI_7 : List LC := [(0, 7, [3, 7, 1, 1, 1, 1, 1, 1, 1, 1, 1, 0, 0]), (0, 2, [0, 0, 4, 5, 6]), (1, 10, []), (1, 10, []), (1, 6, []), (0, 2, [0, 0, 8, 9, 10]), (1, 10, []), (1, 10, []), (1, 6, []), (0, 1, [12, 0, 0]), (3, 8, [13, 17, 1, 1, 1, 1, 1, 1]), (0, 2, [0, 0, 14, 15, 16]), (1, 10, []), (1, 10, []), (1, 6, []), (0, 2, [0, 0, 18, 19, 20]), (1, 10, []), (1, 10, []), (1, 6, []), (0, 2, [0, 0, 1, 1, 1])]
def LE_7 : List LC := [(0, 7, [3, 7, 1, 1, 1, 1, 1, 1, 1, 1, 1, 0, 0]), (0, 2, [0, 0, 4, 5, 6]), (1, 10, []), (1, 10, []), (1, 6, []), (0, 2, [0, 0, 8, 9, 10]), (1, 10, []), (1, 10, []), (1, 6, []), (0, 1, [12, 0, 0]), (3, 8, [13, 17, 1, 1, 1, 1, 1, 1]), (0, 2, [0, 0, 14, 15, 16]), (1, 10, []), (1, 10, []), (1, 6, []), (0, 2, [0, 0, 18, 19, 20]), (1, 10, []), (1, 10, []), (1, 6, []), (0, 2, [0, 0, 22, 23, 24]), (1, 10, []), (1, 10, []), (1, 6, [])]
def TI_7 : List (Nat × Nat × Int32) := [(15, 1, 0), (15, 0, 3), (11, 1, 0), (11, 0, 3), (9, 2, 0), (9, 1, 0), (5, 1, 0), (5, 0, 3), (1, 1, 0), (1, 0, 3)]
def TE_7 : List (Nat × Nat × Int32) := [(19, 1, 0), (19, 0, 3), (15, 1, 0), (15, 0, 3), (11, 1, 0), (11, 0, 3), (9, 2, 0), (9, 1, 0), (5, 1, 0), (5, 0, 3), (1, 1, 0), (1, 0, 3)]
set_option maxRecDepth 100000 in
set_option maxHeartbeats 8000000 in
theorem ci_7 (l : Launch) (x : WX) : Mt l x true yX2_init cX2_init 1 none 1 3 26 [.ref (x.2.2.1 + 19)] LI_7 (tabM TI_7) (fun v lay9 M9 => v = none ∧ lay9 = LE_7 ∧ M9 = tabM TE_7) := by
  refine mt_of (L0 := [some (.ref (x.2.2.1 + 19))]) (by decide +kernel) rfl (Nat.le_of_ble_eq_true rfl) (lvA_of 0 rfl) ?_
  refine e_aload_n aX2_init_0 rfl ?_
  refine e_objI aX2_init_1 mX2_3 (by decide) (Nat.le_of_ble_eq_true rfl) ?_
  refine e_aload_n aX2_init_4 rfl ?_
  refine e_iconst (v := 3) aX2_init_5 (by decide) ?_
  refine e_putT (fs := [0, 0, 1, 1, 1]) aX2_init_6 qX2_9 (by decide +kernel) rfl (fi_of _) ?_
  refine e_aload_n aX2_init_9 rfl ?_
  refine e_iconst (v := 0) aX2_init_10 (by decide) ?_
  refine e_putT (fs := [0, 0, 1, 1, 1]) aX2_init_11 qX2_15 (by decide +kernel) rfl (fi_of _) ?_
  refine e_aload_n aX2_init_14 rfl ?_
  refine e_bipush (v := 10) aX2_init_15 (by decide) ?_
  refine e_budget (ca2 := 2 + 1) (sa2 := 16 + 10) rfl rfl ?_
  refine e_newI (n := 20) (N := 10) aX2_init_17 (by decide) (by decide) (by decide) (by decide +kernel) (zt_at (by decide +kernel)) ?_
  refine e_putR (r := 20) (fs := [0, 0, 1, 1, 1]) aX2_init_19 qX2_18 (fun q h => by cases h; rfl) (by decide +kernel) rfl (fun _ => ⟨rfl, rfl⟩) ?_
  refine e_aload_n aX2_init_22 rfl ?_
  refine e_bipush (v := 10) aX2_init_23 (by decide) ?_
  refine e_budget (ca2 := 1 + 1) (sa2 := 6 + 10) rfl rfl ?_
  refine e_newI (n := 21) (N := 10) aX2_init_25 (by decide) (by decide) (by decide) (by decide +kernel) (zt_at (by decide +kernel)) ?_
  refine e_putR (r := 21) (fs := [0, 0, 22, 1, 1]) aX2_init_27 qX2_22 (fun q h => by cases h; rfl) (by decide +kernel) rfl (fun _ => ⟨rfl, rfl⟩) ?_
  refine e_aload_n aX2_init_30 rfl ?_
  refine e_bipush (v := 6) aX2_init_31 (by decide) ?_
  refine e_budget (ca2 := 0 + 1) (sa2 := 0 + 6) rfl rfl ?_
  refine e_newI (n := 22) (N := 6) aX2_init_33 (by decide) (by decide) (by decide) (by decide +kernel) (zt_at (by decide +kernel)) ?_
  refine e_putR (r := 22) (fs := [0, 0, 22, 23, 1]) aX2_init_35 qX2_25 (fun q h => by cases h; rfl) (by decide +kernel) rfl (fun _ => ⟨rfl, rfl⟩) ?_
  exact e_ret0 aX2_init_38 rfl ⟨rfl, by decide +kernel, congrArg tabM (by decide +kernel)⟩
def LI_8 : List LC := [(0, 7, [3, 7, 1, 1, 1, 1, 1, 1, 1, 1, 1, 0, 0]), (0, 2, [0, 0, 4, 5, 6]), (1, 10, []), (1, 10, []), (1, 6, []), (0, 2, [0, 0, 8, 9, 10]), (1, 10, []), (1, 10, []), (1, 6, []), (0, 1, [12, 0, 0]), (3, 8, [13, 17, 21, 1, 1, 1, 1, 1]), (0, 2, [0, 0, 14, 15, 16]), (1, 10, []), (1, 10, []), (1, 6, []), (0, 2, [0, 0, 18, 19, 20]), (1, 10, []), (1, 10, []), (1, 6, []), (0, 2, [0, 0, 22, 23, 24]), (1, 10, []), (1, 10, []), (1, 6, []), (0, 2, [0, 0, 1, 1, 1])]
def LE_8 : List LC := [(0, 7, [3, 7, 1, 1, 1, 1, 1, 1, 1, 1, 1, 0, 0]), (0, 2, [0, 0, 4, 5, 6]), (1, 10, []), (1, 10, []), (1, 6, []), (0, 2, [0, 0, 8, 9, 10]), (1, 10, []), (1, 10, []), (1, 6, []), (0, 1, [12, 0, 0]), (3, 8, [13, 17, 21, 1, 1, 1, 1, 1]), (0, 2, [0, 0, 14, 15, 16]), (1, 10, []), (1, 10, []), (1, 6, []), (0, 2, [0, 0, 18, 19, 20]), (1, 10, []), (1, 10, []), (1, 6, []), (0, 2, [0, 0, 22, 23, 24]), (1, 10, []), (1, 10, []), (1, 6, []), (0, 2, [0, 0, 26, 27, 28]), (1, 10, []), (1, 10, []), (1, 6, [])]
def TI_8 : List (Nat × Nat × Int32) := [(19, 1, 0), (19, 0, 3), (15, 1, 0), (15, 0, 3), (11, 1, 0), (11, 0, 3), (9, 2, 0), (9, 1, 0), (5, 1, 0), (5, 0, 3), (1, 1, 0), (1, 0, 3)]
def TE_8 : List (Nat × Nat × Int32) := [(23, 1, 0), (23, 0, 3), (19, 1, 0), (19, 0, 3), (15, 1, 0), (15, 0, 3), (11, 1, 0), (11, 0, 3), (9, 2, 0), (9, 1, 0), (5, 1, 0), (5, 0, 3), (1, 1, 0), (1, 0, 3)]
set_option maxRecDepth 100000 in
set_option maxHeartbeats 8000000 in
theorem ci_8 (l : Launch) (x : WX) : Mt l x true yX2_init cX2_init 1 none 1 3 26 [.ref (x.2.2.1 + 23)] LI_8 (tabM TI_8) (fun v lay9 M9 => v = none ∧ lay9 = LE_8 ∧ M9 = tabM TE_8) := by
  refine mt_of (L0 := [some (.ref (x.2.2.1 + 23))]) (by decide +kernel) rfl (Nat.le_of_ble_eq_true rfl) (lvA_of 0 rfl) ?_
  refine e_aload_n aX2_init_0 rfl ?_
  refine e_objI aX2_init_1 mX2_3 (by decide) (Nat.le_of_ble_eq_true rfl) ?_
  refine e_aload_n aX2_init_4 rfl ?_
  refine e_iconst (v := 3) aX2_init_5 (by decide) ?_
  refine e_putT (fs := [0, 0, 1, 1, 1]) aX2_init_6 qX2_9 (by decide +kernel) rfl (fi_of _) ?_
  refine e_aload_n aX2_init_9 rfl ?_
  refine e_iconst (v := 0) aX2_init_10 (by decide) ?_
  refine e_putT (fs := [0, 0, 1, 1, 1]) aX2_init_11 qX2_15 (by decide +kernel) rfl (fi_of _) ?_
  refine e_aload_n aX2_init_14 rfl ?_
  refine e_bipush (v := 10) aX2_init_15 (by decide) ?_
  refine e_budget (ca2 := 2 + 1) (sa2 := 16 + 10) rfl rfl ?_
  refine e_newI (n := 24) (N := 10) aX2_init_17 (by decide) (by decide) (by decide) (by decide +kernel) (zt_at (by decide +kernel)) ?_
  refine e_putR (r := 24) (fs := [0, 0, 1, 1, 1]) aX2_init_19 qX2_18 (fun q h => by cases h; rfl) (by decide +kernel) rfl (fun _ => ⟨rfl, rfl⟩) ?_
  refine e_aload_n aX2_init_22 rfl ?_
  refine e_bipush (v := 10) aX2_init_23 (by decide) ?_
  refine e_budget (ca2 := 1 + 1) (sa2 := 6 + 10) rfl rfl ?_
  refine e_newI (n := 25) (N := 10) aX2_init_25 (by decide) (by decide) (by decide) (by decide +kernel) (zt_at (by decide +kernel)) ?_
  refine e_putR (r := 25) (fs := [0, 0, 26, 1, 1]) aX2_init_27 qX2_22 (fun q h => by cases h; rfl) (by decide +kernel) rfl (fun _ => ⟨rfl, rfl⟩) ?_
  refine e_aload_n aX2_init_30 rfl ?_
  refine e_bipush (v := 6) aX2_init_31 (by decide) ?_
  refine e_budget (ca2 := 0 + 1) (sa2 := 0 + 6) rfl rfl ?_
  refine e_newI (n := 26) (N := 6) aX2_init_33 (by decide) (by decide) (by decide) (by decide +kernel) (zt_at (by decide +kernel)) ?_
  refine e_putR (r := 26) (fs := [0, 0, 26, 27, 1]) aX2_init_35 qX2_25 (fun q h => by cases h; rfl) (by decide +kernel) rfl (fun _ => ⟨rfl, rfl⟩) ?_
  exact e_ret0 aX2_init_38 rfl ⟨rfl, by decide +kernel, congrArg tabM (by decide +kernel)⟩
def LI_9 : List LC := [(0, 7, [3, 7, 1, 1, 1, 1, 1, 1, 1, 1, 1, 0, 0]), (0, 2, [0, 0, 4, 5, 6]), (1, 10, []), (1, 10, []), (1, 6, []), (0, 2, [0, 0, 8, 9, 10]), (1, 10, []), (1, 10, []), (1, 6, []), (0, 1, [12, 0, 0]), (3, 8, [13, 17, 21, 25, 1, 1, 1, 1]), (0, 2, [0, 0, 14, 15, 16]), (1, 10, []), (1, 10, []), (1, 6, []), (0, 2, [0, 0, 18, 19, 20]), (1, 10, []), (1, 10, []), (1, 6, []), (0, 2, [0, 0, 22, 23, 24]), (1, 10, []), (1, 10, []), (1, 6, []), (0, 2, [0, 0, 26, 27, 28]), (1, 10, []), (1, 10, []), (1, 6, []), (0, 2, [0, 0, 1, 1, 1])]
def LE_9 : List LC := [(0, 7, [3, 7, 1, 1, 1, 1, 1, 1, 1, 1, 1, 0, 0]), (0, 2, [0, 0, 4, 5, 6]), (1, 10, []), (1, 10, []), (1, 6, []), (0, 2, [0, 0, 8, 9, 10]), (1, 10, []), (1, 10, []), (1, 6, []), (0, 1, [12, 0, 0]), (3, 8, [13, 17, 21, 25, 1, 1, 1, 1]), (0, 2, [0, 0, 14, 15, 16]), (1, 10, []), (1, 10, []), (1, 6, []), (0, 2, [0, 0, 18, 19, 20]), (1, 10, []), (1, 10, []), (1, 6, []), (0, 2, [0, 0, 22, 23, 24]), (1, 10, []), (1, 10, []), (1, 6, []), (0, 2, [0, 0, 26, 27, 28]), (1, 10, []), (1, 10, []), (1, 6, []), (0, 2, [0, 0, 30, 31, 32]), (1, 10, []), (1, 10, []), (1, 6, [])]
def TI_9 : List (Nat × Nat × Int32) := [(23, 1, 0), (23, 0, 3), (19, 1, 0), (19, 0, 3), (15, 1, 0), (15, 0, 3), (11, 1, 0), (11, 0, 3), (9, 2, 0), (9, 1, 0), (5, 1, 0), (5, 0, 3), (1, 1, 0), (1, 0, 3)]
def TE_9 : List (Nat × Nat × Int32) := [(27, 1, 0), (27, 0, 3), (23, 1, 0), (23, 0, 3), (19, 1, 0), (19, 0, 3), (15, 1, 0), (15, 0, 3), (11, 1, 0), (11, 0, 3), (9, 2, 0), (9, 1, 0), (5, 1, 0), (5, 0, 3), (1, 1, 0), (1, 0, 3)]
set_option maxRecDepth 100000 in
set_option maxHeartbeats 8000000 in
theorem ci_9 (l : Launch) (x : WX) : Mt l x true yX2_init cX2_init 1 none 1 3 26 [.ref (x.2.2.1 + 27)] LI_9 (tabM TI_9) (fun v lay9 M9 => v = none ∧ lay9 = LE_9 ∧ M9 = tabM TE_9) := by
  refine mt_of (L0 := [some (.ref (x.2.2.1 + 27))]) (by decide +kernel) rfl (Nat.le_of_ble_eq_true rfl) (lvA_of 0 rfl) ?_
  refine e_aload_n aX2_init_0 rfl ?_
  refine e_objI aX2_init_1 mX2_3 (by decide) (Nat.le_of_ble_eq_true rfl) ?_
  refine e_aload_n aX2_init_4 rfl ?_
  refine e_iconst (v := 3) aX2_init_5 (by decide) ?_
  refine e_putT (fs := [0, 0, 1, 1, 1]) aX2_init_6 qX2_9 (by decide +kernel) rfl (fi_of _) ?_
  refine e_aload_n aX2_init_9 rfl ?_
  refine e_iconst (v := 0) aX2_init_10 (by decide) ?_
  refine e_putT (fs := [0, 0, 1, 1, 1]) aX2_init_11 qX2_15 (by decide +kernel) rfl (fi_of _) ?_
  refine e_aload_n aX2_init_14 rfl ?_
  refine e_bipush (v := 10) aX2_init_15 (by decide) ?_
  refine e_budget (ca2 := 2 + 1) (sa2 := 16 + 10) rfl rfl ?_
  refine e_newI (n := 28) (N := 10) aX2_init_17 (by decide) (by decide) (by decide) (by decide +kernel) (zt_at (by decide +kernel)) ?_
  refine e_putR (r := 28) (fs := [0, 0, 1, 1, 1]) aX2_init_19 qX2_18 (fun q h => by cases h; rfl) (by decide +kernel) rfl (fun _ => ⟨rfl, rfl⟩) ?_
  refine e_aload_n aX2_init_22 rfl ?_
  refine e_bipush (v := 10) aX2_init_23 (by decide) ?_
  refine e_budget (ca2 := 1 + 1) (sa2 := 6 + 10) rfl rfl ?_
  refine e_newI (n := 29) (N := 10) aX2_init_25 (by decide) (by decide) (by decide) (by decide +kernel) (zt_at (by decide +kernel)) ?_
  refine e_putR (r := 29) (fs := [0, 0, 30, 1, 1]) aX2_init_27 qX2_22 (fun q h => by cases h; rfl) (by decide +kernel) rfl (fun _ => ⟨rfl, rfl⟩) ?_
  refine e_aload_n aX2_init_30 rfl ?_
  refine e_bipush (v := 6) aX2_init_31 (by decide) ?_
  refine e_budget (ca2 := 0 + 1) (sa2 := 0 + 6) rfl rfl ?_
  refine e_newI (n := 30) (N := 6) aX2_init_33 (by decide) (by decide) (by decide) (by decide +kernel) (zt_at (by decide +kernel)) ?_
  refine e_putR (r := 30) (fs := [0, 0, 30, 31, 1]) aX2_init_35 qX2_25 (fun q h => by cases h; rfl) (by decide +kernel) rfl (fun _ => ⟨rfl, rfl⟩) ?_
  exact e_ret0 aX2_init_38 rfl ⟨rfl, by decide +kernel, congrArg tabM (by decide +kernel)⟩
def LI_10 : List LC := [(0, 7, [3, 7, 1, 1, 1, 1, 1, 1, 1, 1, 1, 0, 0]), (0, 2, [0, 0, 4, 5, 6]), (1, 10, []), (1, 10, []), (1, 6, []), (0, 2, [0, 0, 8, 9, 10]), (1, 10, []), (1, 10, []), (1, 6, []), (0, 1, [12, 0, 0]), (3, 8, [13, 17, 21, 25, 29, 1, 1, 1]), (0, 2, [0, 0, 14, 15, 16]), (1, 10, []), (1, 10, []), (1, 6, []), (0, 2, [0, 0, 18, 19, 20]), (1, 10, []), (1, 10, []), (1, 6, []), (0, 2, [0, 0, 22, 23, 24]), (1, 10, []), (1, 10, []), (1, 6, []), (0, 2, [0, 0, 26, 27, 28]), (1, 10, []), (1, 10, []), (1, 6, []), (0, 2, [0, 0, 30, 31, 32]), (1, 10, []), (1, 10, []), (1, 6, []), (0, 2, [0, 0, 1, 1, 1])]
def LE_10 : List LC := [(0, 7, [3, 7, 1, 1, 1, 1, 1, 1, 1, 1, 1, 0, 0]), (0, 2, [0, 0, 4, 5, 6]), (1, 10, []), (1, 10, []), (1, 6, []), (0, 2, [0, 0, 8, 9, 10]), (1, 10, []), (1, 10, []), (1, 6, []), (0, 1, [12, 0, 0]), (3, 8, [13, 17, 21, 25, 29, 1, 1, 1]), (0, 2, [0, 0, 14, 15, 16]), (1, 10, []), (1, 10, []), (1, 6, []), (0, 2, [0, 0, 18, 19, 20]), (1, 10, []), (1, 10, []), (1, 6, []), (0, 2, [0, 0, 22, 23, 24]), (1, 10, []), (1, 10, []), (1, 6, []), (0, 2, [0, 0, 26, 27, 28]), (1, 10, []), (1, 10, []), (1, 6, []), (0, 2, [0, 0, 30, 31, 32]), (1, 10, []), (1, 10, []), (1, 6, []), (0, 2, [0, 0, 34, 35, 36]), (1, 10, []), (1, 10, []), (1, 6, [])]
def TI_10 : List (Nat × Nat × Int32) := [(27, 1, 0), (27, 0, 3), (23, 1, 0), (23, 0, 3), (19, 1, 0), (19, 0, 3), (15, 1, 0), (15, 0, 3), (11, 1, 0), (11, 0, 3), (9, 2, 0), (9, 1, 0), (5, 1, 0), (5, 0, 3), (1, 1, 0), (1, 0, 3)]
def TE_10 : List (Nat × Nat × Int32) := [(31, 1, 0), (31, 0, 3), (27, 1, 0), (27, 0, 3), (23, 1, 0), (23, 0, 3), (19, 1, 0), (19, 0, 3), (15, 1, 0), (15, 0, 3), (11, 1, 0), (11, 0, 3), (9, 2, 0), (9, 1, 0), (5, 1, 0), (5, 0, 3), (1, 1, 0), (1, 0, 3)]
set_option maxRecDepth 100000 in
set_option maxHeartbeats 8000000 in
theorem ci_10 (l : Launch) (x : WX) : Mt l x true yX2_init cX2_init 1 none 1 3 26 [.ref (x.2.2.1 + 31)] LI_10 (tabM TI_10) (fun v lay9 M9 => v = none ∧ lay9 = LE_10 ∧ M9 = tabM TE_10) := by
  refine mt_of (L0 := [some (.ref (x.2.2.1 + 31))]) (by decide +kernel) rfl (Nat.le_of_ble_eq_true rfl) (lvA_of 0 rfl) ?_
  refine e_aload_n aX2_init_0 rfl ?_
  refine e_objI aX2_init_1 mX2_3 (by decide) (Nat.le_of_ble_eq_true rfl) ?_
  refine e_aload_n aX2_init_4 rfl ?_
  refine e_iconst (v := 3) aX2_init_5 (by decide) ?_
  refine e_putT (fs := [0, 0, 1, 1, 1]) aX2_init_6 qX2_9 (by decide +kernel) rfl (fi_of _) ?_
  refine e_aload_n aX2_init_9 rfl ?_
  refine e_iconst (v := 0) aX2_init_10 (by decide) ?_
  refine e_putT (fs := [0, 0, 1, 1, 1]) aX2_init_11 qX2_15 (by decide +kernel) rfl (fi_of _) ?_
  refine e_aload_n aX2_init_14 rfl ?_
  refine e_bipush (v := 10) aX2_init_15 (by decide) ?_
  refine e_budget (ca2 := 2 + 1) (sa2 := 16 + 10) rfl rfl ?_
  refine e_newI (n := 32) (N := 10) aX2_init_17 (by decide) (by decide) (by decide) (by decide +kernel) (zt_at (by decide +kernel)) ?_
  refine e_putR (r := 32) (fs := [0, 0, 1, 1, 1]) aX2_init_19 qX2_18 (fun q h => by cases h; rfl) (by decide +kernel) rfl (fun _ => ⟨rfl, rfl⟩) ?_
  refine e_aload_n aX2_init_22 rfl ?_
  refine e_bipush (v := 10) aX2_init_23 (by decide) ?_
  refine e_budget (ca2 := 1 + 1) (sa2 := 6 + 10) rfl rfl ?_
  refine e_newI (n := 33) (N := 10) aX2_init_25 (by decide) (by decide) (by decide) (by decide +kernel) (zt_at (by decide +kernel)) ?_
  refine e_putR (r := 33) (fs := [0, 0, 34, 1, 1]) aX2_init_27 qX2_22 (fun q h => by cases h; rfl) (by decide +kernel) rfl (fun _ => ⟨rfl, rfl⟩) ?_
  refine e_aload_n aX2_init_30 rfl ?_
  refine e_bipush (v := 6) aX2_init_31 (by decide) ?_
  refine e_budget (ca2 := 0 + 1) (sa2 := 0 + 6) rfl rfl ?_
  refine e_newI (n := 34) (N := 6) aX2_init_33 (by decide) (by decide) (by decide) (by decide +kernel) (zt_at (by decide +kernel)) ?_
  refine e_putR (r := 34) (fs := [0, 0, 34, 35, 1]) aX2_init_35 qX2_25 (fun q h => by cases h; rfl) (by decide +kernel) rfl (fun _ => ⟨rfl, rfl⟩) ?_
  exact e_ret0 aX2_init_38 rfl ⟨rfl, by decide +kernel, congrArg tabM (by decide +kernel)⟩
def LI_11 : List LC := [(0, 7, [3, 7, 1, 1, 1, 1, 1, 1, 1, 1, 1, 0, 0]), (0, 2, [0, 0, 4, 5, 6]), (1, 10, []), (1, 10, []), (1, 6, []), (0, 2, [0, 0, 8, 9, 10]), (1, 10, []), (1, 10, []), (1, 6, []), (0, 1, [12, 0, 0]), (3, 8, [13, 17, 21, 25, 29, 33, 1, 1]), (0, 2, [0, 0, 14, 15, 16]), (1, 10, []), (1, 10, []), (1, 6, []), (0, 2, [0, 0, 18, 19, 20]), (1, 10, []), (1, 10, []), (1, 6, []), (0, 2, [0, 0, 22, 23, 24]), (1, 10, []), (1, 10, []), (1, 6, []), (0, 2, [0, 0, 26, 27, 28]), (1, 10, []), (1, 10, []), (1, 6, []), (0, 2, [0, 0, 30, 31, 32]), (1, 10, []), (1, 10, []), (1, 6, []), (0, 2, [0, 0, 34, 35, 36]), (1, 10, []), (1, 10, []), (1, 6, []), (0, 2, [0, 0, 1, 1, 1])]
def LE_11 : List LC := [(0, 7, [3, 7, 1, 1, 1, 1, 1, 1, 1, 1, 1, 0, 0]), (0, 2, [0, 0, 4, 5, 6]), (1, 10, []), (1, 10, []), (1, 6, []), (0, 2, [0, 0, 8, 9, 10]), (1, 10, []), (1, 10, []), (1, 6, []), (0, 1, [12, 0, 0]), (3, 8, [13, 17, 21, 25, 29, 33, 1, 1]), (0, 2, [0, 0, 14, 15, 16]), (1, 10, []), (1, 10, []), (1, 6, []), (0, 2, [0, 0, 18, 19, 20]), (1, 10, []), (1, 10, []), (1, 6, []), (0, 2, [0, 0, 22, 23, 24]), (1, 10, []), (1, 10, []), (1, 6, []), (0, 2, [0, 0, 26, 27, 28]), (1, 10, []), (1, 10, []), (1, 6, []), (0, 2, [0, 0, 30, 31, 32]), (1, 10, []), (1, 10, []), (1, 6, []), (0, 2, [0, 0, 34, 35, 36]), (1, 10, []), (1, 10, []), (1, 6, []), (0, 2, [0, 0, 38, 39, 40]), (1, 10, []), (1, 10, []), (1, 6, [])]
def TI_11 : List (Nat × Nat × Int32) := [(31, 1, 0), (31, 0, 3), (27, 1, 0), (27, 0, 3), (23, 1, 0), (23, 0, 3), (19, 1, 0), (19, 0, 3), (15, 1, 0), (15, 0, 3), (11, 1, 0), (11, 0, 3), (9, 2, 0), (9, 1, 0), (5, 1, 0), (5, 0, 3), (1, 1, 0), (1, 0, 3)]
def TE_11 : List (Nat × Nat × Int32) := [(35, 1, 0), (35, 0, 3), (31, 1, 0), (31, 0, 3), (27, 1, 0), (27, 0, 3), (23, 1, 0), (23, 0, 3), (19, 1, 0), (19, 0, 3), (15, 1, 0), (15, 0, 3), (11, 1, 0), (11, 0, 3), (9, 2, 0), (9, 1, 0), (5, 1, 0), (5, 0, 3), (1, 1, 0), (1, 0, 3)]
set_option maxRecDepth 100000 in
set_option maxHeartbeats 8000000 in
theorem ci_11 (l : Launch) (x : WX) : Mt l x true yX2_init cX2_init 1 none 1 3 26 [.ref (x.2.2.1 + 35)] LI_11 (tabM TI_11) (fun v lay9 M9 => v = none ∧ lay9 = LE_11 ∧ M9 = tabM TE_11) := by
  refine mt_of (L0 := [some (.ref (x.2.2.1 + 35))]) (by decide +kernel) rfl (Nat.le_of_ble_eq_true rfl) (lvA_of 0 rfl) ?_
  refine e_aload_n aX2_init_0 rfl ?_
  refine e_objI aX2_init_1 mX2_3 (by decide) (Nat.le_of_ble_eq_true rfl) ?_
  refine e_aload_n aX2_init_4 rfl ?_
  refine e_iconst (v := 3) aX2_init_5 (by decide) ?_
  refine e_putT (fs := [0, 0, 1, 1, 1]) aX2_init_6 qX2_9 (by decide +kernel) rfl (fi_of _) ?_
  refine e_aload_n aX2_init_9 rfl ?_
  refine e_iconst (v := 0) aX2_init_10 (by decide) ?_
  refine e_putT (fs := [0, 0, 1, 1, 1]) aX2_init_11 qX2_15 (by decide +kernel) rfl (fi_of _) ?_
  refine e_aload_n aX2_init_14 rfl ?_
  refine e_bipush (v := 10) aX2_init_15 (by decide) ?_
  refine e_budget (ca2 := 2 + 1) (sa2 := 16 + 10) rfl rfl ?_
  refine e_newI (n := 36) (N := 10) aX2_init_17 (by decide) (by decide) (by decide) (by decide +kernel) (zt_at (by decide +kernel)) ?_
  refine e_putR (r := 36) (fs := [0, 0, 1, 1, 1]) aX2_init_19 qX2_18 (fun q h => by cases h; rfl) (by decide +kernel) rfl (fun _ => ⟨rfl, rfl⟩) ?_
  refine e_aload_n aX2_init_22 rfl ?_
  refine e_bipush (v := 10) aX2_init_23 (by decide) ?_
  refine e_budget (ca2 := 1 + 1) (sa2 := 6 + 10) rfl rfl ?_
  refine e_newI (n := 37) (N := 10) aX2_init_25 (by decide) (by decide) (by decide) (by decide +kernel) (zt_at (by decide +kernel)) ?_
  refine e_putR (r := 37) (fs := [0, 0, 38, 1, 1]) aX2_init_27 qX2_22 (fun q h => by cases h; rfl) (by decide +kernel) rfl (fun _ => ⟨rfl, rfl⟩) ?_
  refine e_aload_n aX2_init_30 rfl ?_
  refine e_bipush (v := 6) aX2_init_31 (by decide) ?_
  refine e_budget (ca2 := 0 + 1) (sa2 := 0 + 6) rfl rfl ?_
  refine e_newI (n := 38) (N := 6) aX2_init_33 (by decide) (by decide) (by decide) (by decide +kernel) (zt_at (by decide +kernel)) ?_
  refine e_putR (r := 38) (fs := [0, 0, 38, 39, 1]) aX2_init_35 qX2_25 (fun q h => by cases h; rfl) (by decide +kernel) rfl (fun _ => ⟨rfl, rfl⟩) ?_
  exact e_ret0 aX2_init_38 rfl ⟨rfl, by decide +kernel, congrArg tabM (by decide +kernel)⟩
def LI_12 : List LC := [(0, 7, [3, 7, 1, 1, 1, 1, 1, 1, 1, 1, 1, 0, 0]), (0, 2, [0, 0, 4, 5, 6]), (1, 10, []), (1, 10, []), (1, 6, []), (0, 2, [0, 0, 8, 9, 10]), (1, 10, []), (1, 10, []), (1, 6, []), (0, 1, [12, 0, 0]), (3, 8, [13, 17, 21, 25, 29, 33, 37, 1]), (0, 2, [0, 0, 14, 15, 16]), (1, 10, []), (1, 10, []), (1, 6, []), (0, 2, [0, 0, 18, 19, 20]), (1, 10, []), (1, 10, []), (1, 6, []), (0, 2, [0, 0, 22, 23, 24]), (1, 10, []), (1, 10, []), (1, 6, []), (0, 2, [0, 0, 26, 27, 28]), (1, 10, []), (1, 10, []), (1, 6, []), (0, 2, [0, 0, 30, 31, 32]), (1, 10, []), (1, 10, []), (1, 6, []), (0, 2, [0, 0, 34, 35, 36]), (1, 10, []), (1, 10, []), (1, 6, []), (0, 2, [0, 0, 38, 39, 40]), (1, 10, []), (1, 10, []), (1, 6, []), (0, 2, [0, 0, 1, 1, 1])]
def LE_12 : List LC := [(0, 7, [3, 7, 1, 1, 1, 1, 1, 1, 1, 1, 1, 0, 0]), (0, 2, [0, 0, 4, 5, 6]), (1, 10, []), (1, 10, []), (1, 6, []), (0, 2, [0, 0, 8, 9, 10]), (1, 10, []), (1, 10, []), (1, 6, []), (0, 1, [12, 0, 0]), (3, 8, [13, 17, 21, 25, 29, 33, 37, 1]), (0, 2, [0, 0, 14, 15, 16]), (1, 10, []), (1, 10, []), (1, 6, []), (0, 2, [0, 0, 18, 19, 20]), (1, 10, []), (1, 10, []), (1, 6, []), (0, 2, [0, 0, 22, 23, 24]), (1, 10, []), (1, 10, []), (1, 6, []), (0, 2, [0, 0, 26, 27, 28]), (1, 10, []), (1, 10, []), (1, 6, []), (0, 2, [0, 0, 30, 31, 32]), (1, 10, []), (1, 10, []), (1, 6, []), (0, 2, [0, 0, 34, 35, 36]), (1, 10, []), (1, 10, []), (1, 6, []), (0, 2, [0, 0, 38, 39, 40]), (1, 10, []), (1, 10, []), (1, 6, []), (0, 2, [0, 0, 42, 43, 44]), (1, 10, []), (1, 10, []), (1, 6, [])]
def TI_12 : List (Nat × Nat × Int32) := [(35, 1, 0), (35, 0, 3), (31, 1, 0), (31, 0, 3), (27, 1, 0), (27, 0, 3), (23, 1, 0), (23, 0, 3), (19, 1, 0), (19, 0, 3), (15, 1, 0), (15, 0, 3), (11, 1, 0), (11, 0, 3), (9, 2, 0), (9, 1, 0), (5, 1, 0), (5, 0, 3), (1, 1, 0), (1, 0, 3)]
def TE_12 : List (Nat × Nat × Int32) := [(39, 1, 0), (39, 0, 3), (35, 1, 0), (35, 0, 3), (31, 1, 0), (31, 0, 3), (27, 1, 0), (27, 0, 3), (23, 1, 0), (23, 0, 3), (19, 1, 0), (19, 0, 3), (15, 1, 0), (15, 0, 3), (11, 1, 0), (11, 0, 3), (9, 2, 0), (9, 1, 0), (5, 1, 0), (5, 0, 3), (1, 1, 0), (1, 0, 3)]
set_option maxRecDepth 100000 in
set_option maxHeartbeats 8000000 in
theorem ci_12 (l : Launch) (x : WX) : Mt l x true yX2_init cX2_init 1 none 1 3 26 [.ref (x.2.2.1 + 39)] LI_12 (tabM TI_12) (fun v lay9 M9 => v = none ∧ lay9 = LE_12 ∧ M9 = tabM TE_12) := by
  refine mt_of (L0 := [some (.ref (x.2.2.1 + 39))]) (by decide +kernel) rfl (Nat.le_of_ble_eq_true rfl) (lvA_of 0 rfl) ?_
  refine e_aload_n aX2_init_0 rfl ?_
  refine e_objI aX2_init_1 mX2_3 (by decide) (Nat.le_of_ble_eq_true rfl) ?_
  refine e_aload_n aX2_init_4 rfl ?_
  refine e_iconst (v := 3) aX2_init_5 (by decide) ?_
  refine e_putT (fs := [0, 0, 1, 1, 1]) aX2_init_6 qX2_9 (by decide +kernel) rfl (fi_of _) ?_
  refine e_aload_n aX2_init_9 rfl ?_
  refine e_iconst (v := 0) aX2_init_10 (by decide) ?_
  refine e_putT (fs := [0, 0, 1, 1, 1]) aX2_init_11 qX2_15 (by decide +kernel) rfl (fi_of _) ?_
  refine e_aload_n aX2_init_14 rfl ?_
  refine e_bipush (v := 10) aX2_init_15 (by decide) ?_
  refine e_budget (ca2 := 2 + 1) (sa2 := 16 + 10) rfl rfl ?_
  refine e_newI (n := 40) (N := 10) aX2_init_17 (by decide) (by decide) (by decide) (by decide +kernel) (zt_at (by decide +kernel)) ?_
  refine e_putR (r := 40) (fs := [0, 0, 1, 1, 1]) aX2_init_19 qX2_18 (fun q h => by cases h; rfl) (by decide +kernel) rfl (fun _ => ⟨rfl, rfl⟩) ?_
  refine e_aload_n aX2_init_22 rfl ?_
  refine e_bipush (v := 10) aX2_init_23 (by decide) ?_
  refine e_budget (ca2 := 1 + 1) (sa2 := 6 + 10) rfl rfl ?_
  refine e_newI (n := 41) (N := 10) aX2_init_25 (by decide) (by decide) (by decide) (by decide +kernel) (zt_at (by decide +kernel)) ?_
  refine e_putR (r := 41) (fs := [0, 0, 42, 1, 1]) aX2_init_27 qX2_22 (fun q h => by cases h; rfl) (by decide +kernel) rfl (fun _ => ⟨rfl, rfl⟩) ?_
  refine e_aload_n aX2_init_30 rfl ?_
  refine e_bipush (v := 6) aX2_init_31 (by decide) ?_
  refine e_budget (ca2 := 0 + 1) (sa2 := 0 + 6) rfl rfl ?_
  refine e_newI (n := 42) (N := 6) aX2_init_33 (by decide) (by decide) (by decide) (by decide +kernel) (zt_at (by decide +kernel)) ?_
  refine e_putR (r := 42) (fs := [0, 0, 42, 43, 1]) aX2_init_35 qX2_25 (fun q h => by cases h; rfl) (by decide +kernel) rfl (fun _ => ⟨rfl, rfl⟩) ?_
  exact e_ret0 aX2_init_38 rfl ⟨rfl, by decide +kernel, congrArg tabM (by decide +kernel)⟩
def LI_4 : List LC := [(0, 7, [3, 7, 1, 1, 1, 1, 1, 1, 1, 1, 1, 0, 0]), (0, 2, [0, 0, 4, 5, 6]), (1, 10, []), (1, 10, []), (1, 6, []), (0, 2, [0, 0, 8, 9, 10]), (1, 10, []), (1, 10, []), (1, 6, []), (0, 1, [1, 0, 0])]
def LE_4 : List LC := [(0, 7, [3, 7, 1, 1, 1, 1, 1, 1, 1, 1, 1, 0, 0]), (0, 2, [0, 0, 4, 5, 6]), (1, 10, []), (1, 10, []), (1, 6, []), (0, 2, [0, 0, 8, 9, 10]), (1, 10, []), (1, 10, []), (1, 6, []), (0, 1, [12, 0, 0]), (3, 8, [13, 17, 21, 25, 29, 33, 37, 41]), (0, 2, [0, 0, 14, 15, 16]), (1, 10, []), (1, 10, []), (1, 6, []), (0, 2, [0, 0, 18, 19, 20]), (1, 10, []), (1, 10, []), (1, 6, []), (0, 2, [0, 0, 22, 23, 24]), (1, 10, []), (1, 10, []), (1, 6, []), (0, 2, [0, 0, 26, 27, 28]), (1, 10, []), (1, 10, []), (1, 6, []), (0, 2, [0, 0, 30, 31, 32]), (1, 10, []), (1, 10, []), (1, 6, []), (0, 2, [0, 0, 34, 35, 36]), (1, 10, []), (1, 10, []), (1, 6, []), (0, 2, [0, 0, 38, 39, 40]), (1, 10, []), (1, 10, []), (1, 6, []), (0, 2, [0, 0, 42, 43, 44]), (1, 10, []), (1, 10, []), (1, 6, [])]
def TI_4 : List (Nat × Nat × Int32) := [(5, 1, 0), (5, 0, 3), (1, 1, 0), (1, 0, 3)]
def TE_4 : List (Nat × Nat × Int32) := [(39, 1, 0), (39, 0, 3), (35, 1, 0), (35, 0, 3), (31, 1, 0), (31, 0, 3), (27, 1, 0), (27, 0, 3), (23, 1, 0), (23, 0, 3), (19, 1, 0), (19, 0, 3), (15, 1, 0), (15, 0, 3), (11, 1, 0), (11, 0, 3), (9, 2, 0), (9, 1, 0), (5, 1, 0), (5, 0, 3), (1, 1, 0), (1, 0, 3)]
set_option maxRecDepth 100000 in
set_option maxHeartbeats 8000000 in
theorem ci_4 (l : Launch) (x : WX) : Mt l x true yX1_init cX1_init 2 none 2 33 256 [.ref (x.2.2.1 + 9)] LI_4 (tabM TI_4) (fun v lay9 M9 => v = none ∧ lay9 = LE_4 ∧ M9 = tabM TE_4) := by
  refine mt_of (L0 := [some (.ref (x.2.2.1 + 9)), none]) (by decide +kernel) rfl (Nat.le_of_ble_eq_true rfl) (lvA_of 1 rfl) ?_
  refine e_aload_n aX1_init_0 rfl ?_
  refine e_objI aX1_init_1 mX1_3 (by decide) (Nat.le_of_ble_eq_true rfl) ?_
  refine e_aload_n aX1_init_4 rfl ?_
  refine e_bipush (v := 8) aX1_init_5 (by decide) ?_
  refine e_budget (ca2 := 32 + 1) (sa2 := 248 + 8) rfl rfl ?_
  refine e_newQ (t := 0) (n := 10) (N := 8) (fs := [1, 1, 1, 1, 1, 1, 1, 1]) aX1_init_7 caX1_9 ⟨by decide, fun _ => rfl⟩ (by decide) (by decide) (by decide) (by decide) (by decide +kernel) ?_
  refine e_putR (r := 10) (fs := [1, 0, 0]) aX1_init_10 qX1_11 (fun q h => by cases h; rfl) (by decide +kernel) rfl (fun _ => ⟨rfl, rfl⟩) ?_
  refine e_aload_n aX1_init_13 rfl ?_
  refine e_iconst (v := 0) aX1_init_14 (by decide) ?_
  refine e_putT (fs := [12, 0, 0]) aX1_init_15 qX1_17 (by decide +kernel) rfl (fi_of _) ?_
  refine e_aload_n aX1_init_18 rfl ?_
  refine e_iconst (v := 0) aX1_init_19 (by decide) ?_
  refine e_putT (fs := [12, 0, 0]) aX1_init_20 qX1_21 (by decide +kernel) rfl (fi_of _) ?_
  refine e_iconst (v := 0) aX1_init_23 (by decide) ?_
  refine e_istore_n (L2 := [some (.ref (x.2.2.1 + 9)), some (.int 0)]) aX1_init_24 ⟨by decide, rfl⟩ rfl ?_
  refine e_iload_n aX1_init_25 rfl ?_
  refine e_bipush (v := 8) aX1_init_26 (by decide) ?_
  refine e_icmp_ge (tgt := 50) aX1_init_28 (by decide) (fun q => absurd q (by decide)) (fun _ => ?_)
  refine e_aload_n aX1_init_31 rfl ?_
  refine e_getR (r := 10) (ci := 1) (fs := [12, 0, 0]) aX1_init_32 fX1_11 (by decide +kernel) rfl ?_
  refine e_iload_n aX1_init_35 rfl ?_
  refine e_budget (ca2 := 31 + 1) (sa2 := 243 + 5) rfl rfl ?_
  refine e_newO (ci := 2) (n := 11) (fs := [0, 0, 1, 1, 1]) aX1_init_36 rfl uw_X2 tyX2_ok clX1_9 (by decide +kernel) (by decide) (by decide +kernel) (zt_at (by decide +kernel)) ?_
  refine e_dupR aX1_init_39 ?_
  refine e_norm (lay2 := LI_5) (T2 := TI_5) (by decide +kernel) (by decide +kernel) ?_
  refine e_budget (ca2 := 28 + 3) (sa2 := 217 + 26) rfl rfl ?_
  refine e_callIN (rest := [.ref (x.2.2.1 + 11), .int 0, .ref (x.2.2.1 + 10)]) (As := []) (b := 11) aX1_init_40 co_X2_init mX1_24 (ci_5 l x) rfl ⟨by decide, by decide⟩ (Nat.le_of_ble_eq_true rfl) rfl (fun v lay9 M9 hp => ?_)
  obtain ⟨rfl, rfl, rfl⟩ := hp
  refine e_aast (t := 0) (n := 8) (fs := [1, 1, 1, 1, 1, 1, 1, 1]) (fv := [0, 0, 14, 15, 16]) (j := 0) aX1_init_43 (by decide +kernel) (by decide +kernel) (show vwCl[2]? = some (RX2, TX2, 5) from rfl) (fun _ => rfl) (by decide) (by decide) (by decide) ?_
  refine e_iinc (v := 1) (L2 := [some (.ref (x.2.2.1 + 9)), some (.int 1)]) aX1_init_44 rfl (by decide) ⟨by decide, rfl⟩ rfl ?_
  refine e_goto (tgt := 25) aX1_init_47 (by decide) ?_
  refine e_iload_n aX1_init_25 rfl ?_
  refine e_bipush (v := 8) aX1_init_26 (by decide) ?_
  refine e_icmp_ge (tgt := 50) aX1_init_28 (by decide) (fun q => absurd q (by decide)) (fun _ => ?_)
  refine e_aload_n aX1_init_31 rfl ?_
  refine e_getR (r := 10) (ci := 1) (fs := [12, 0, 0]) aX1_init_32 fX1_11 (by decide +kernel) rfl ?_
  refine e_iload_n aX1_init_35 rfl ?_
  refine e_budget (ca2 := 27 + 1) (sa2 := 212 + 5) rfl rfl ?_
  refine e_newO (ci := 2) (n := 15) (fs := [0, 0, 1, 1, 1]) aX1_init_36 rfl uw_X2 tyX2_ok clX1_9 (by decide +kernel) (by decide) (by decide +kernel) (zt_at (by decide +kernel)) ?_
  refine e_dupR aX1_init_39 ?_
  refine e_norm (lay2 := LI_6) (T2 := TI_6) (by decide +kernel) (by decide +kernel) ?_
  refine e_budget (ca2 := 24 + 3) (sa2 := 186 + 26) rfl rfl ?_
  refine e_callIN (rest := [.ref (x.2.2.1 + 15), .int 1, .ref (x.2.2.1 + 10)]) (As := []) (b := 15) aX1_init_40 co_X2_init mX1_24 (ci_6 l x) rfl ⟨by decide, by decide⟩ (Nat.le_of_ble_eq_true rfl) rfl (fun v lay9 M9 hp => ?_)
  obtain ⟨rfl, rfl, rfl⟩ := hp
  refine e_aast (t := 0) (n := 8) (fs := [13, 1, 1, 1, 1, 1, 1, 1]) (fv := [0, 0, 18, 19, 20]) (j := 1) aX1_init_43 (by decide +kernel) (by decide +kernel) (show vwCl[2]? = some (RX2, TX2, 5) from rfl) (fun _ => rfl) (by decide) (by decide) (by decide) ?_
  refine e_iinc (v := 2) (L2 := [some (.ref (x.2.2.1 + 9)), some (.int 2)]) aX1_init_44 rfl (by decide) ⟨by decide, rfl⟩ rfl ?_
  refine e_goto (tgt := 25) aX1_init_47 (by decide) ?_
  refine e_iload_n aX1_init_25 rfl ?_
  refine e_bipush (v := 8) aX1_init_26 (by decide) ?_
  refine e_icmp_ge (tgt := 50) aX1_init_28 (by decide) (fun q => absurd q (by decide)) (fun _ => ?_)
  refine e_aload_n aX1_init_31 rfl ?_
  refine e_getR (r := 10) (ci := 1) (fs := [12, 0, 0]) aX1_init_32 fX1_11 (by decide +kernel) rfl ?_
  refine e_iload_n aX1_init_35 rfl ?_
  refine e_budget (ca2 := 23 + 1) (sa2 := 181 + 5) rfl rfl ?_
  refine e_newO (ci := 2) (n := 19) (fs := [0, 0, 1, 1, 1]) aX1_init_36 rfl uw_X2 tyX2_ok clX1_9 (by decide +kernel) (by decide) (by decide +kernel) (zt_at (by decide +kernel)) ?_
  refine e_dupR aX1_init_39 ?_
  refine e_norm (lay2 := LI_7) (T2 := TI_7) (by decide +kernel) (by decide +kernel) ?_
  refine e_budget (ca2 := 20 + 3) (sa2 := 155 + 26) rfl rfl ?_
  refine e_callIN (rest := [.ref (x.2.2.1 + 19), .int 2, .ref (x.2.2.1 + 10)]) (As := []) (b := 19) aX1_init_40 co_X2_init mX1_24 (ci_7 l x) rfl ⟨by decide, by decide⟩ (Nat.le_of_ble_eq_true rfl) rfl (fun v lay9 M9 hp => ?_)
  obtain ⟨rfl, rfl, rfl⟩ := hp
  refine e_aast (t := 0) (n := 8) (fs := [13, 17, 1, 1, 1, 1, 1, 1]) (fv := [0, 0, 22, 23, 24]) (j := 2) aX1_init_43 (by decide +kernel) (by decide +kernel) (show vwCl[2]? = some (RX2, TX2, 5) from rfl) (fun _ => rfl) (by decide) (by decide) (by decide) ?_
  refine e_iinc (v := 3) (L2 := [some (.ref (x.2.2.1 + 9)), some (.int 3)]) aX1_init_44 rfl (by decide) ⟨by decide, rfl⟩ rfl ?_
  refine e_goto (tgt := 25) aX1_init_47 (by decide) ?_
  refine e_iload_n aX1_init_25 rfl ?_
  refine e_bipush (v := 8) aX1_init_26 (by decide) ?_
  refine e_icmp_ge (tgt := 50) aX1_init_28 (by decide) (fun q => absurd q (by decide)) (fun _ => ?_)
  refine e_aload_n aX1_init_31 rfl ?_
  refine e_getR (r := 10) (ci := 1) (fs := [12, 0, 0]) aX1_init_32 fX1_11 (by decide +kernel) rfl ?_
  refine e_iload_n aX1_init_35 rfl ?_
  refine e_budget (ca2 := 19 + 1) (sa2 := 150 + 5) rfl rfl ?_
  refine e_newO (ci := 2) (n := 23) (fs := [0, 0, 1, 1, 1]) aX1_init_36 rfl uw_X2 tyX2_ok clX1_9 (by decide +kernel) (by decide) (by decide +kernel) (zt_at (by decide +kernel)) ?_
  refine e_dupR aX1_init_39 ?_
  refine e_norm (lay2 := LI_8) (T2 := TI_8) (by decide +kernel) (by decide +kernel) ?_
  refine e_budget (ca2 := 16 + 3) (sa2 := 124 + 26) rfl rfl ?_
  refine e_callIN (rest := [.ref (x.2.2.1 + 23), .int 3, .ref (x.2.2.1 + 10)]) (As := []) (b := 23) aX1_init_40 co_X2_init mX1_24 (ci_8 l x) rfl ⟨by decide, by decide⟩ (Nat.le_of_ble_eq_true rfl) rfl (fun v lay9 M9 hp => ?_)
  obtain ⟨rfl, rfl, rfl⟩ := hp
  refine e_aast (t := 0) (n := 8) (fs := [13, 17, 21, 1, 1, 1, 1, 1]) (fv := [0, 0, 26, 27, 28]) (j := 3) aX1_init_43 (by decide +kernel) (by decide +kernel) (show vwCl[2]? = some (RX2, TX2, 5) from rfl) (fun _ => rfl) (by decide) (by decide) (by decide) ?_
  refine e_iinc (v := 4) (L2 := [some (.ref (x.2.2.1 + 9)), some (.int 4)]) aX1_init_44 rfl (by decide) ⟨by decide, rfl⟩ rfl ?_
  refine e_goto (tgt := 25) aX1_init_47 (by decide) ?_
  refine e_iload_n aX1_init_25 rfl ?_
  refine e_bipush (v := 8) aX1_init_26 (by decide) ?_
  refine e_icmp_ge (tgt := 50) aX1_init_28 (by decide) (fun q => absurd q (by decide)) (fun _ => ?_)
  refine e_aload_n aX1_init_31 rfl ?_
  refine e_getR (r := 10) (ci := 1) (fs := [12, 0, 0]) aX1_init_32 fX1_11 (by decide +kernel) rfl ?_
  refine e_iload_n aX1_init_35 rfl ?_
  refine e_budget (ca2 := 15 + 1) (sa2 := 119 + 5) rfl rfl ?_
  refine e_newO (ci := 2) (n := 27) (fs := [0, 0, 1, 1, 1]) aX1_init_36 rfl uw_X2 tyX2_ok clX1_9 (by decide +kernel) (by decide) (by decide +kernel) (zt_at (by decide +kernel)) ?_
  refine e_dupR aX1_init_39 ?_
  refine e_norm (lay2 := LI_9) (T2 := TI_9) (by decide +kernel) (by decide +kernel) ?_
  refine e_budget (ca2 := 12 + 3) (sa2 := 93 + 26) rfl rfl ?_
  refine e_callIN (rest := [.ref (x.2.2.1 + 27), .int 4, .ref (x.2.2.1 + 10)]) (As := []) (b := 27) aX1_init_40 co_X2_init mX1_24 (ci_9 l x) rfl ⟨by decide, by decide⟩ (Nat.le_of_ble_eq_true rfl) rfl (fun v lay9 M9 hp => ?_)
  obtain ⟨rfl, rfl, rfl⟩ := hp
  refine e_aast (t := 0) (n := 8) (fs := [13, 17, 21, 25, 1, 1, 1, 1]) (fv := [0, 0, 30, 31, 32]) (j := 4) aX1_init_43 (by decide +kernel) (by decide +kernel) (show vwCl[2]? = some (RX2, TX2, 5) from rfl) (fun _ => rfl) (by decide) (by decide) (by decide) ?_
  refine e_iinc (v := 5) (L2 := [some (.ref (x.2.2.1 + 9)), some (.int 5)]) aX1_init_44 rfl (by decide) ⟨by decide, rfl⟩ rfl ?_
  refine e_goto (tgt := 25) aX1_init_47 (by decide) ?_
  refine e_iload_n aX1_init_25 rfl ?_
  refine e_bipush (v := 8) aX1_init_26 (by decide) ?_
  refine e_icmp_ge (tgt := 50) aX1_init_28 (by decide) (fun q => absurd q (by decide)) (fun _ => ?_)
  refine e_aload_n aX1_init_31 rfl ?_
  refine e_getR (r := 10) (ci := 1) (fs := [12, 0, 0]) aX1_init_32 fX1_11 (by decide +kernel) rfl ?_
  refine e_iload_n aX1_init_35 rfl ?_
  refine e_budget (ca2 := 11 + 1) (sa2 := 88 + 5) rfl rfl ?_
  refine e_newO (ci := 2) (n := 31) (fs := [0, 0, 1, 1, 1]) aX1_init_36 rfl uw_X2 tyX2_ok clX1_9 (by decide +kernel) (by decide) (by decide +kernel) (zt_at (by decide +kernel)) ?_
  refine e_dupR aX1_init_39 ?_
  refine e_norm (lay2 := LI_10) (T2 := TI_10) (by decide +kernel) (by decide +kernel) ?_
  refine e_budget (ca2 := 8 + 3) (sa2 := 62 + 26) rfl rfl ?_
  refine e_callIN (rest := [.ref (x.2.2.1 + 31), .int 5, .ref (x.2.2.1 + 10)]) (As := []) (b := 31) aX1_init_40 co_X2_init mX1_24 (ci_10 l x) rfl ⟨by decide, by decide⟩ (Nat.le_of_ble_eq_true rfl) rfl (fun v lay9 M9 hp => ?_)
  obtain ⟨rfl, rfl, rfl⟩ := hp
  refine e_aast (t := 0) (n := 8) (fs := [13, 17, 21, 25, 29, 1, 1, 1]) (fv := [0, 0, 34, 35, 36]) (j := 5) aX1_init_43 (by decide +kernel) (by decide +kernel) (show vwCl[2]? = some (RX2, TX2, 5) from rfl) (fun _ => rfl) (by decide) (by decide) (by decide) ?_
  refine e_iinc (v := 6) (L2 := [some (.ref (x.2.2.1 + 9)), some (.int 6)]) aX1_init_44 rfl (by decide) ⟨by decide, rfl⟩ rfl ?_
  refine e_goto (tgt := 25) aX1_init_47 (by decide) ?_
  refine e_iload_n aX1_init_25 rfl ?_
  refine e_bipush (v := 8) aX1_init_26 (by decide) ?_
  refine e_icmp_ge (tgt := 50) aX1_init_28 (by decide) (fun q => absurd q (by decide)) (fun _ => ?_)
  refine e_aload_n aX1_init_31 rfl ?_
  refine e_getR (r := 10) (ci := 1) (fs := [12, 0, 0]) aX1_init_32 fX1_11 (by decide +kernel) rfl ?_
  refine e_iload_n aX1_init_35 rfl ?_
  refine e_budget (ca2 := 7 + 1) (sa2 := 57 + 5) rfl rfl ?_
  refine e_newO (ci := 2) (n := 35) (fs := [0, 0, 1, 1, 1]) aX1_init_36 rfl uw_X2 tyX2_ok clX1_9 (by decide +kernel) (by decide) (by decide +kernel) (zt_at (by decide +kernel)) ?_
  refine e_dupR aX1_init_39 ?_
  refine e_norm (lay2 := LI_11) (T2 := TI_11) (by decide +kernel) (by decide +kernel) ?_
  refine e_budget (ca2 := 4 + 3) (sa2 := 31 + 26) rfl rfl ?_
  refine e_callIN (rest := [.ref (x.2.2.1 + 35), .int 6, .ref (x.2.2.1 + 10)]) (As := []) (b := 35) aX1_init_40 co_X2_init mX1_24 (ci_11 l x) rfl ⟨by decide, by decide⟩ (Nat.le_of_ble_eq_true rfl) rfl (fun v lay9 M9 hp => ?_)
  obtain ⟨rfl, rfl, rfl⟩ := hp
  refine e_aast (t := 0) (n := 8) (fs := [13, 17, 21, 25, 29, 33, 1, 1]) (fv := [0, 0, 38, 39, 40]) (j := 6) aX1_init_43 (by decide +kernel) (by decide +kernel) (show vwCl[2]? = some (RX2, TX2, 5) from rfl) (fun _ => rfl) (by decide) (by decide) (by decide) ?_
  refine e_iinc (v := 7) (L2 := [some (.ref (x.2.2.1 + 9)), some (.int 7)]) aX1_init_44 rfl (by decide) ⟨by decide, rfl⟩ rfl ?_
  refine e_goto (tgt := 25) aX1_init_47 (by decide) ?_
  refine e_iload_n aX1_init_25 rfl ?_
  refine e_bipush (v := 8) aX1_init_26 (by decide) ?_
  refine e_icmp_ge (tgt := 50) aX1_init_28 (by decide) (fun q => absurd q (by decide)) (fun _ => ?_)
  refine e_aload_n aX1_init_31 rfl ?_
  refine e_getR (r := 10) (ci := 1) (fs := [12, 0, 0]) aX1_init_32 fX1_11 (by decide +kernel) rfl ?_
  refine e_iload_n aX1_init_35 rfl ?_
  refine e_budget (ca2 := 3 + 1) (sa2 := 26 + 5) rfl rfl ?_
  refine e_newO (ci := 2) (n := 39) (fs := [0, 0, 1, 1, 1]) aX1_init_36 rfl uw_X2 tyX2_ok clX1_9 (by decide +kernel) (by decide) (by decide +kernel) (zt_at (by decide +kernel)) ?_
  refine e_dupR aX1_init_39 ?_
  refine e_norm (lay2 := LI_12) (T2 := TI_12) (by decide +kernel) (by decide +kernel) ?_
  refine e_budget (ca2 := 0 + 3) (sa2 := 0 + 26) rfl rfl ?_
  refine e_callIN (rest := [.ref (x.2.2.1 + 39), .int 7, .ref (x.2.2.1 + 10)]) (As := []) (b := 39) aX1_init_40 co_X2_init mX1_24 (ci_12 l x) rfl ⟨by decide, by decide⟩ (Nat.le_of_ble_eq_true rfl) rfl (fun v lay9 M9 hp => ?_)
  obtain ⟨rfl, rfl, rfl⟩ := hp
  refine e_aast (t := 0) (n := 8) (fs := [13, 17, 21, 25, 29, 33, 37, 1]) (fv := [0, 0, 42, 43, 44]) (j := 7) aX1_init_43 (by decide +kernel) (by decide +kernel) (show vwCl[2]? = some (RX2, TX2, 5) from rfl) (fun _ => rfl) (by decide) (by decide) (by decide) ?_
  refine e_iinc (v := 8) (L2 := [some (.ref (x.2.2.1 + 9)), some (.int 8)]) aX1_init_44 rfl (by decide) ⟨by decide, rfl⟩ rfl ?_
  refine e_goto (tgt := 25) aX1_init_47 (by decide) ?_
  refine e_iload_n aX1_init_25 rfl ?_
  refine e_bipush (v := 8) aX1_init_26 (by decide) ?_
  refine e_icmp_ge (tgt := 50) aX1_init_28 (by decide) (fun _ => ?_) (fun q => absurd (by decide) q)
  exact e_ret0 aX1_init_50 rfl ⟨rfl, by decide +kernel, congrArg tabM (by decide +kernel)⟩
theorem caX7_7 : Cond.classLink RX7 7 "QuiverDesk$Quiver" ∈ TBW := tbw_memT 24 (by decide +kernel) (by decide +kernel)
theorem clX7_34 : Cond.classLink RX7 34 "QuiverDesk$Text" ∈ TBW ∧ Cond.instantiable "QuiverDesk$Text" 6 ∈ TBW ∧ Cond.initialized "QuiverDesk$Text" ∈ TBW := ⟨tbw_memT 82 (by decide +kernel) (by decide +kernel), tbw_memT 83 (by decide +kernel) (by decide +kernel), tbw_memT 4 (by decide +kernel) (by decide +kernel)⟩
def LI_13 : List LC := [(0, 7, [3, 7, 11, 45, 46, 1, 1, 1, 1, 1, 1, 0, 0]), (0, 2, [0, 0, 4, 5, 6]), (1, 10, []), (1, 10, []), (1, 6, []), (0, 2, [0, 0, 8, 9, 10]), (1, 10, []), (1, 10, []), (1, 6, []), (0, 1, [12, 0, 0]), (3, 8, [13, 17, 21, 25, 29, 33, 37, 41]), (0, 2, [0, 0, 14, 15, 16]), (1, 10, []), (1, 10, []), (1, 6, []), (0, 2, [0, 0, 18, 19, 20]), (1, 10, []), (1, 10, []), (1, 6, []), (0, 2, [0, 0, 22, 23, 24]), (1, 10, []), (1, 10, []), (1, 6, []), (0, 2, [0, 0, 26, 27, 28]), (1, 10, []), (1, 10, []), (1, 6, []), (0, 2, [0, 0, 30, 31, 32]), (1, 10, []), (1, 10, []), (1, 6, []), (0, 2, [0, 0, 34, 35, 36]), (1, 10, []), (1, 10, []), (1, 6, []), (0, 2, [0, 0, 38, 39, 40]), (1, 10, []), (1, 10, []), (1, 6, []), (0, 2, [0, 0, 42, 43, 44]), (1, 10, []), (1, 10, []), (1, 6, []), (3, 2, [1, 1]), (2, 2, []), (0, 5, [1, 0, 0, 0, 0, 0])]
def LE_13 : List LC := [(0, 7, [3, 7, 11, 45, 46, 1, 1, 1, 1, 1, 1, 0, 0]), (0, 2, [0, 0, 4, 5, 6]), (1, 10, []), (1, 10, []), (1, 6, []), (0, 2, [0, 0, 8, 9, 10]), (1, 10, []), (1, 10, []), (1, 6, []), (0, 1, [12, 0, 0]), (3, 8, [13, 17, 21, 25, 29, 33, 37, 41]), (0, 2, [0, 0, 14, 15, 16]), (1, 10, []), (1, 10, []), (1, 6, []), (0, 2, [0, 0, 18, 19, 20]), (1, 10, []), (1, 10, []), (1, 6, []), (0, 2, [0, 0, 22, 23, 24]), (1, 10, []), (1, 10, []), (1, 6, []), (0, 2, [0, 0, 26, 27, 28]), (1, 10, []), (1, 10, []), (1, 6, []), (0, 2, [0, 0, 30, 31, 32]), (1, 10, []), (1, 10, []), (1, 6, []), (0, 2, [0, 0, 34, 35, 36]), (1, 10, []), (1, 10, []), (1, 6, []), (0, 2, [0, 0, 38, 39, 40]), (1, 10, []), (1, 10, []), (1, 6, []), (0, 2, [0, 0, 42, 43, 44]), (1, 10, []), (1, 10, []), (1, 6, []), (3, 2, [1, 1]), (2, 2, []), (0, 5, [48, 0, 0, 0, 0, 0]), (1, 200, [])]
def TI_13 : List (Nat × Nat × Int32) := [(39, 1, 0), (39, 0, 3), (35, 1, 0), (35, 0, 3), (31, 1, 0), (31, 0, 3), (27, 1, 0), (27, 0, 3), (23, 1, 0), (23, 0, 3), (19, 1, 0), (19, 0, 3), (15, 1, 0), (15, 0, 3), (11, 1, 0), (11, 0, 3), (9, 2, 0), (9, 1, 0), (5, 1, 0), (5, 0, 3), (1, 1, 0), (1, 0, 3)]
def TE_13 : List (Nat × Nat × Int32) := [(45, 5, 0), (45, 4, 0), (45, 3, 0), (45, 2, 0), (45, 1, 0), (39, 1, 0), (39, 0, 3), (35, 1, 0), (35, 0, 3), (31, 1, 0), (31, 0, 3), (27, 1, 0), (27, 0, 3), (23, 1, 0), (23, 0, 3), (19, 1, 0), (19, 0, 3), (15, 1, 0), (15, 0, 3), (11, 1, 0), (11, 0, 3), (9, 2, 0), (9, 1, 0), (5, 1, 0), (5, 0, 3), (1, 1, 0), (1, 0, 3)]
set_option maxRecDepth 100000 in
set_option maxHeartbeats 8000000 in
theorem ci_13 (l : Launch) (x : WX) : Mt l x true yX5_init cX5_init 1 none 1 1 200 [.ref (x.2.2.1 + 45)] LI_13 (tabM TI_13) (fun v lay9 M9 => v = none ∧ lay9 = LE_13 ∧ M9 = tabM TE_13) := by
  refine mt_of (L0 := [some (.ref (x.2.2.1 + 45))]) (by decide +kernel) rfl (Nat.le_of_ble_eq_true rfl) (lvA_of 0 rfl) ?_
  refine e_aload_n aX5_init_0 rfl ?_
  refine e_objI aX5_init_1 mX5_3 (by decide) (Nat.le_of_ble_eq_true rfl) ?_
  refine e_aload_n aX5_init_4 rfl ?_
  refine e_sipush (v := 200) aX5_init_5 (by decide) ?_
  refine e_budget (ca2 := 0 + 1) (sa2 := 0 + 200) rfl rfl ?_
  refine e_newI (n := 46) (N := 200) aX5_init_8 (by decide) (by decide) (by decide) (by decide +kernel) (zt_at (by decide +kernel)) ?_
  refine e_putR (r := 46) (fs := [1, 0, 0, 0, 0, 0]) aX5_init_10 qX5_9 (fun q h => by cases h; rfl) (by decide +kernel) rfl (fun _ => ⟨rfl, rfl⟩) ?_
  refine e_aload_n aX5_init_13 rfl ?_
  refine e_iconst (v := 0) aX5_init_14 (by decide) ?_
  refine e_putT (fs := [48, 0, 0, 0, 0, 0]) aX5_init_15 qX5_15 (by decide +kernel) rfl (fi_of _) ?_
  refine e_aload_n aX5_init_18 rfl ?_
  refine e_iconst (v := 0) aX5_init_19 (by decide) ?_
  refine e_putT (fs := [48, 0, 0, 0, 0, 0]) aX5_init_20 qX5_19 (by decide +kernel) rfl (fi_of _) ?_
  refine e_aload_n aX5_init_23 rfl ?_
  refine e_iconst (v := 0) aX5_init_24 (by decide) ?_
  refine e_putT (fs := [48, 0, 0, 0, 0, 0]) aX5_init_25 qX5_22 (by decide +kernel) rfl (fi_of _) ?_
  refine e_aload_n aX5_init_28 rfl ?_
  refine e_iconst (v := 0) aX5_init_29 (by decide) ?_
  refine e_putT (fs := [48, 0, 0, 0, 0, 0]) aX5_init_30 qX5_25 (by decide +kernel) rfl (fi_of _) ?_
  refine e_aload_n aX5_init_33 rfl ?_
  refine e_iconst (v := 0) aX5_init_34 (by decide) ?_
  refine e_putT (fs := [48, 0, 0, 0, 0, 0]) aX5_init_35 qX5_28 (by decide +kernel) rfl (fi_of _) ?_
  exact e_ret0 aX5_init_38 rfl ⟨rfl, by decide +kernel, congrArg tabM (by decide +kernel)⟩
theorem clX7_41 : Cond.classLink RX7 41 "QuiverDesk$Ways" ∈ TBW ∧ Cond.instantiable "QuiverDesk$Ways" 3 ∈ TBW ∧ Cond.initialized "QuiverDesk$Ways" ∈ TBW := ⟨tbw_memT 111 (by decide +kernel) (by decide +kernel), tbw_memT 112 (by decide +kernel) (by decide +kernel), tbw_memT 5 (by decide +kernel) (by decide +kernel)⟩
theorem caX6_18 : Cond.classLink RX6 18 ("[" ++ (FieldType.array .int).toString) ∈ TBW := tbw_memT 117 (by decide +kernel) (by decide +kernel)
def LI_14 : List LC := [(0, 7, [3, 7, 11, 45, 46, 47, 1, 1, 1, 1, 1, 0, 0]), (0, 2, [0, 0, 4, 5, 6]), (1, 10, []), (1, 10, []), (1, 6, []), (0, 2, [0, 0, 8, 9, 10]), (1, 10, []), (1, 10, []), (1, 6, []), (0, 1, [12, 0, 0]), (3, 8, [13, 17, 21, 25, 29, 33, 37, 41]), (0, 2, [0, 0, 14, 15, 16]), (1, 10, []), (1, 10, []), (1, 6, []), (0, 2, [0, 0, 18, 19, 20]), (1, 10, []), (1, 10, []), (1, 6, []), (0, 2, [0, 0, 22, 23, 24]), (1, 10, []), (1, 10, []), (1, 6, []), (0, 2, [0, 0, 26, 27, 28]), (1, 10, []), (1, 10, []), (1, 6, []), (0, 2, [0, 0, 30, 31, 32]), (1, 10, []), (1, 10, []), (1, 6, []), (0, 2, [0, 0, 34, 35, 36]), (1, 10, []), (1, 10, []), (1, 6, []), (0, 2, [0, 0, 38, 39, 40]), (1, 10, []), (1, 10, []), (1, 6, []), (0, 2, [0, 0, 42, 43, 44]), (1, 10, []), (1, 10, []), (1, 6, []), (3, 2, [1, 1]), (2, 2, []), (0, 5, [48, 0, 0, 0, 0, 0]), (1, 200, []), (0, 6, [1, 1, 1])]
def LE_14 : List LC := [(0, 7, [3, 7, 11, 45, 46, 47, 1, 1, 1, 1, 1, 0, 0]), (0, 2, [0, 0, 4, 5, 6]), (1, 10, []), (1, 10, []), (1, 6, []), (0, 2, [0, 0, 8, 9, 10]), (1, 10, []), (1, 10, []), (1, 6, []), (0, 1, [12, 0, 0]), (3, 8, [13, 17, 21, 25, 29, 33, 37, 41]), (0, 2, [0, 0, 14, 15, 16]), (1, 10, []), (1, 10, []), (1, 6, []), (0, 2, [0, 0, 18, 19, 20]), (1, 10, []), (1, 10, []), (1, 6, []), (0, 2, [0, 0, 22, 23, 24]), (1, 10, []), (1, 10, []), (1, 6, []), (0, 2, [0, 0, 26, 27, 28]), (1, 10, []), (1, 10, []), (1, 6, []), (0, 2, [0, 0, 30, 31, 32]), (1, 10, []), (1, 10, []), (1, 6, []), (0, 2, [0, 0, 34, 35, 36]), (1, 10, []), (1, 10, []), (1, 6, []), (0, 2, [0, 0, 38, 39, 40]), (1, 10, []), (1, 10, []), (1, 6, []), (0, 2, [0, 0, 42, 43, 44]), (1, 10, []), (1, 10, []), (1, 6, []), (3, 2, [1, 1]), (2, 2, []), (0, 5, [48, 0, 0, 0, 0, 0]), (1, 200, []), (0, 6, [50, 51, 52]), (1, 6, []), (1, 6, []), (5, 6, [53, 54, 55, 56, 57, 58]), (1, 6, []), (1, 6, []), (1, 6, []), (1, 6, []), (1, 6, []), (1, 6, [])]
def TI_14 : List (Nat × Nat × Int32) := [(45, 5, 0), (45, 4, 0), (45, 3, 0), (45, 2, 0), (45, 1, 0), (39, 1, 0), (39, 0, 3), (35, 1, 0), (35, 0, 3), (31, 1, 0), (31, 0, 3), (27, 1, 0), (27, 0, 3), (23, 1, 0), (23, 0, 3), (19, 1, 0), (19, 0, 3), (15, 1, 0), (15, 0, 3), (11, 1, 0), (11, 0, 3), (9, 2, 0), (9, 1, 0), (5, 1, 0), (5, 0, 3), (1, 1, 0), (1, 0, 3)]
def TE_14 : List (Nat × Nat × Int32) := [(45, 5, 0), (45, 4, 0), (45, 3, 0), (45, 2, 0), (45, 1, 0), (39, 1, 0), (39, 0, 3), (35, 1, 0), (35, 0, 3), (31, 1, 0), (31, 0, 3), (27, 1, 0), (27, 0, 3), (23, 1, 0), (23, 0, 3), (19, 1, 0), (19, 0, 3), (15, 1, 0), (15, 0, 3), (11, 1, 0), (11, 0, 3), (9, 2, 0), (9, 1, 0), (5, 1, 0), (5, 0, 3), (1, 1, 0), (1, 0, 3)]
set_option maxRecDepth 100000 in
set_option maxHeartbeats 8000000 in
theorem ci_14 (l : Launch) (x : WX) : Mt l x true yX6_init cX6_init 1 none 1 9 54 [.ref (x.2.2.1 + 47)] LI_14 (tabM TI_14) (fun v lay9 M9 => v = none ∧ lay9 = LE_14 ∧ M9 = tabM TE_14) := by
  refine mt_of (L0 := [some (.ref (x.2.2.1 + 47))]) (by decide +kernel) rfl (Nat.le_of_ble_eq_true rfl) (lvA_of 0 rfl) ?_
  refine e_aload_n aX6_init_0 rfl ?_
  refine e_objI aX6_init_1 mX6_3 (by decide) (Nat.le_of_ble_eq_true rfl) ?_
  refine e_aload_n aX6_init_4 rfl ?_
  refine e_bipush (v := 6) aX6_init_5 (by decide) ?_
  refine e_budget (ca2 := 8 + 1) (sa2 := 48 + 6) rfl rfl ?_
  refine e_newI (n := 48) (N := 6) aX6_init_7 (by decide) (by decide) (by decide) (by decide +kernel) (zt_at (by decide +kernel)) ?_
  refine e_putR (r := 48) (fs := [1, 1, 1]) aX6_init_9 qX6_9 (fun q h => by cases h; rfl) (by decide +kernel) rfl (fun _ => ⟨rfl, rfl⟩) ?_
  refine e_aload_n aX6_init_12 rfl ?_
  refine e_bipush (v := 6) aX6_init_13 (by decide) ?_
  refine e_budget (ca2 := 7 + 1) (sa2 := 42 + 6) rfl rfl ?_
  refine e_newI (n := 49) (N := 6) aX6_init_15 (by decide) (by decide) (by decide) (by decide +kernel) (zt_at (by decide +kernel)) ?_
  refine e_putR (r := 49) (fs := [50, 1, 1]) aX6_init_17 qX6_15 (fun q h => by cases h; rfl) (by decide +kernel) rfl (fun _ => ⟨rfl, rfl⟩) ?_
  refine e_aload_n aX6_init_20 rfl ?_
  refine e_bipush (v := 6) aX6_init_21 (by decide) ?_
  refine e_bipush (v := 6) aX6_init_23 (by decide) ?_
  refine e_budget (ca2 := 0 + (1 + 6)) (sa2 := 0 + (6 + 6 * 6)) rfl rfl ?_
  refine e_mna (n := 50) (N := 6) (K := 6) (fs := [53, 54, 55, 56, 57, 58]) aX6_init_25 caX6_18 (by decide) (by decide) (by decide) (by decide) (by decide) (by decide) (by decide +kernel) (zt_all (by decide +kernel)) (mna_fs (by decide +kernel)) ?_
  refine e_putR (r := 50) (fs := [50, 51, 1]) aX6_init_29 qX6_20 (fun q h => by cases h; rfl) (by decide +kernel) rfl (fun _ => ⟨rfl, rfl⟩) ?_
  exact e_ret0 aX6_init_32 rfl ⟨rfl, by decide +kernel, congrArg tabM (by decide +kernel)⟩
theorem clX7_48 : Cond.classLink RX7 48 "QuiverDesk$Roots" ∈ TBW ∧ Cond.instantiable "QuiverDesk$Roots" 13 ∈ TBW ∧ Cond.initialized "QuiverDesk$Roots" ∈ TBW := ⟨tbw_memT 131 (by decide +kernel) (by decide +kernel), tbw_memT 132 (by decide +kernel) (by decide +kernel), tbw_memT 6 (by decide +kernel) (by decide +kernel)⟩
theorem caX3_19 : Cond.classLink RX3 19 ("[" ++ (FieldType.array .int).toString) ∈ TBW := tbw_memT 137 (by decide +kernel) (by decide +kernel)
def LI_15 : List LC := [(0, 7, [3, 7, 11, 45, 46, 47, 49, 1, 1, 1, 1, 0, 0]), (0, 2, [0, 0, 4, 5, 6]), (1, 10, []), (1, 10, []), (1, 6, []), (0, 2, [0, 0, 8, 9, 10]), (1, 10, []), (1, 10, []), (1, 6, []), (0, 1, [12, 0, 0]), (3, 8, [13, 17, 21, 25, 29, 33, 37, 41]), (0, 2, [0, 0, 14, 15, 16]), (1, 10, []), (1, 10, []), (1, 6, []), (0, 2, [0, 0, 18, 19, 20]), (1, 10, []), (1, 10, []), (1, 6, []), (0, 2, [0, 0, 22, 23, 24]), (1, 10, []), (1, 10, []), (1, 6, []), (0, 2, [0, 0, 26, 27, 28]), (1, 10, []), (1, 10, []), (1, 6, []), (0, 2, [0, 0, 30, 31, 32]), (1, 10, []), (1, 10, []), (1, 6, []), (0, 2, [0, 0, 34, 35, 36]), (1, 10, []), (1, 10, []), (1, 6, []), (0, 2, [0, 0, 38, 39, 40]), (1, 10, []), (1, 10, []), (1, 6, []), (0, 2, [0, 0, 42, 43, 44]), (1, 10, []), (1, 10, []), (1, 6, []), (3, 2, [1, 1]), (2, 2, []), (0, 5, [48, 0, 0, 0, 0, 0]), (1, 200, []), (0, 6, [50, 51, 52]), (1, 6, []), (1, 6, []), (5, 6, [53, 54, 55, 56, 57, 58]), (1, 6, []), (1, 6, []), (1, 6, []), (1, 6, []), (1, 6, []), (1, 6, []), (0, 3, [0, 0, 1, 1, 1, 1, 1, 1, 1, 1, 1, 1, 1])]
def LE_15 : List LC := [(0, 7, [3, 7, 11, 45, 46, 47, 49, 1, 1, 1, 1, 0, 0]), (0, 2, [0, 0, 4, 5, 6]), (1, 10, []), (1, 10, []), (1, 6, []), (0, 2, [0, 0, 8, 9, 10]), (1, 10, []), (1, 10, []), (1, 6, []), (0, 1, [12, 0, 0]), (3, 8, [13, 17, 21, 25, 29, 33, 37, 41]), (0, 2, [0, 0, 14, 15, 16]), (1, 10, []), (1, 10, []), (1, 6, []), (0, 2, [0, 0, 18, 19, 20]), (1, 10, []), (1, 10, []), (1, 6, []), (0, 2, [0, 0, 22, 23, 24]), (1, 10, []), (1, 10, []), (1, 6, []), (0, 2, [0, 0, 26, 27, 28]), (1, 10, []), (1, 10, []), (1, 6, []), (0, 2, [0, 0, 30, 31, 32]), (1, 10, []), (1, 10, []), (1, 6, []), (0, 2, [0, 0, 34, 35, 36]), (1, 10, []), (1, 10, []), (1, 6, []), (0, 2, [0, 0, 38, 39, 40]), (1, 10, []), (1, 10, []), (1, 6, []), (0, 2, [0, 0, 42, 43, 44]), (1, 10, []), (1, 10, []), (1, 6, []), (3, 2, [1, 1]), (2, 2, []), (0, 5, [48, 0, 0, 0, 0, 0]), (1, 200, []), (0, 6, [50, 51, 52]), (1, 6, []), (1, 6, []), (5, 6, [53, 54, 55, 56, 57, 58]), (1, 6, []), (1, 6, []), (1, 6, []), (1, 6, []), (1, 6, []), (1, 6, []), (0, 3, [0, 0, 60, 97, 98, 99, 100, 101, 102, 139, 140, 141, 142]), (5, 36, [61, 62, 63, 64, 65, 66, 67, 68, 69, 70, 71, 72, 73, 74, 75, 76, 77, 78, 79, 80, 81, 82, 83, 84, 85, 86, 87, 88, 89, 90, 91, 92, 93, 94, 95, 96]), (1, 6, []), (1, 6, []), (1, 6, []), (1, 6, []), (1, 6, []), (1, 6, []), (1, 6, []), (1, 6, []), (1, 6, []), (1, 6, []), (1, 6, []), (1, 6, []), (1, 6, []), (1, 6, []), (1, 6, []), (1, 6, []), (1, 6, []), (1, 6, []), (1, 6, []), (1, 6, []), (1, 6, []), (1, 6, []), (1, 6, []), (1, 6, []), (1, 6, []), (1, 6, []), (1, 6, []), (1, 6, []), (1, 6, []), (1, 6, []), (1, 6, []), (1, 6, []), (1, 6, []), (1, 6, []), (1, 6, []), (1, 6, []), (1, 36, []), (1, 36, []), (1, 36, []), (1, 36, []), (1, 36, []), (5, 36, [103, 104, 105, 106, 107, 108, 109, 110, 111, 112, 113, 114, 115, 116, 117, 118, 119, 120, 121, 122, 123, 124, 125, 126, 127, 128, 129, 130, 131, 132, 133, 134, 135, 136, 137, 138]), (1, 6, []), (1, 6, []), (1, 6, []), (1, 6, []), (1, 6, []), (1, 6, []), (1, 6, []), (1, 6, []), (1, 6, []), (1, 6, []), (1, 6, []), (1, 6, []), (1, 6, []), (1, 6, []), (1, 6, []), (1, 6, []), (1, 6, []), (1, 6, []), (1, 6, []), (1, 6, []), (1, 6, []), (1, 6, []), (1, 6, []), (1, 6, []), (1, 6, []), (1, 6, []), (1, 6, []), (1, 6, []), (1, 6, []), (1, 6, []), (1, 6, []), (1, 6, []), (1, 6, []), (1, 6, []), (1, 6, []), (1, 6, []), (1, 36, []), (1, 36, []), (1, 36, []), (1, 6, [])]
def TI_15 : List (Nat × Nat × Int32) := [(45, 5, 0), (45, 4, 0), (45, 3, 0), (45, 2, 0), (45, 1, 0), (39, 1, 0), (39, 0, 3), (35, 1, 0), (35, 0, 3), (31, 1, 0), (31, 0, 3), (27, 1, 0), (27, 0, 3), (23, 1, 0), (23, 0, 3), (19, 1, 0), (19, 0, 3), (15, 1, 0), (15, 0, 3), (11, 1, 0), (11, 0, 3), (9, 2, 0), (9, 1, 0), (5, 1, 0), (5, 0, 3), (1, 1, 0), (1, 0, 3)]
def TE_15 : List (Nat × Nat × Int32) := [(57, 1, 0), (57, 0, 0), (45, 5, 0), (45, 4, 0), (45, 3, 0), (45, 2, 0), (45, 1, 0), (39, 1, 0), (39, 0, 3), (35, 1, 0), (35, 0, 3), (31, 1, 0), (31, 0, 3), (27, 1, 0), (27, 0, 3), (23, 1, 0), (23, 0, 3), (19, 1, 0), (19, 0, 3), (15, 1, 0), (15, 0, 3), (11, 1, 0), (11, 0, 3), (9, 2, 0), (9, 1, 0), (5, 1, 0), (5, 0, 3), (1, 1, 0), (1, 0, 3)]
set_option maxRecDepth 100000 in
set_option maxHeartbeats 8000000 in
theorem ci_15 (l : Launch) (x : WX) : Mt l x true yX3_init cX3_init 1 none 1 83 798 [.ref (x.2.2.1 + 57)] LI_15 (tabM TI_15) (fun v lay9 M9 => v = none ∧ lay9 = LE_15 ∧ M9 = tabM TE_15) := by
  refine mt_of (L0 := [some (.ref (x.2.2.1 + 57))]) (by decide +kernel) rfl (Nat.le_of_ble_eq_true rfl) (lvA_of 0 rfl) ?_
  refine e_aload_n aX3_init_0 rfl ?_
  refine e_objI aX3_init_1 mX3_3 (by decide) (Nat.le_of_ble_eq_true rfl) ?_
  refine e_aload_n aX3_init_4 rfl ?_
  refine e_iconst (v := 0) aX3_init_5 (by decide) ?_
  refine e_putT (fs := [0, 0, 1, 1, 1, 1, 1, 1, 1, 1, 1, 1, 1]) aX3_init_6 qX3_9 (by decide +kernel) rfl (by decide +kernel) ?_
  refine e_aload_n aX3_init_9 rfl ?_
  refine e_iconst (v := 0) aX3_init_10 (by decide) ?_
  refine e_putT (fs := [0, 0, 1, 1, 1, 1, 1, 1, 1, 1, 1, 1, 1]) aX3_init_11 qX3_15 (by decide +kernel) rfl (fi_of _) ?_
  refine e_aload_n aX3_init_14 rfl ?_
  refine e_bipush (v := 36) aX3_init_15 (by decide) ?_
  refine e_bipush (v := 6) aX3_init_17 (by decide) ?_
  refine e_budget (ca2 := 46 + (1 + 36)) (sa2 := 546 + (36 + 36 * 6)) rfl rfl ?_
  refine e_mna (n := 58) (N := 36) (K := 6) (fs := [61, 62, 63, 64, 65, 66, 67, 68, 69, 70, 71, 72, 73, 74, 75, 76, 77, 78, 79, 80, 81, 82, 83, 84, 85, 86, 87, 88, 89, 90, 91, 92, 93, 94, 95, 96]) aX3_init_19 caX3_19 (by decide) (by decide) (by decide) (by decide) (by decide) (by decide) (by decide +kernel) (zt_all (by decide +kernel)) (mna_fs (by decide +kernel)) ?_
  refine e_putR (r := 58) (fs := [0, 0, 1, 1, 1, 1, 1, 1, 1, 1, 1, 1, 1]) aX3_init_23 qX3_21 (fun q h => by cases h; rfl) (by decide +kernel) rfl (fun _ => ⟨rfl, rfl⟩) ?_
  refine e_aload_n aX3_init_26 rfl ?_
  refine e_bipush (v := 36) aX3_init_27 (by decide) ?_
  refine e_budget (ca2 := 45 + 1) (sa2 := 510 + 36) rfl rfl ?_
  refine e_newI (n := 95) (N := 36) aX3_init_29 (by decide) (by decide) (by decide) (by decide +kernel) (zt_at (by decide +kernel)) ?_
  refine e_putR (r := 95) (fs := [0, 0, 60, 1, 1, 1, 1, 1, 1, 1, 1, 1, 1]) aX3_init_31 qX3_24 (fun q h => by cases h; rfl) (by decide +kernel) rfl (fun _ => ⟨rfl, rfl⟩) ?_
  refine e_aload_n aX3_init_34 rfl ?_
  refine e_bipush (v := 36) aX3_init_35 (by decide) ?_
  refine e_budget (ca2 := 44 + 1) (sa2 := 474 + 36) rfl rfl ?_
  refine e_newI (n := 96) (N := 36) aX3_init_37 (by decide) (by decide) (by decide) (by decide +kernel) (zt_at (by decide +kernel)) ?_
  refine e_putR (r := 96) (fs := [0, 0, 60, 97, 1, 1, 1, 1, 1, 1, 1, 1, 1]) aX3_init_39 qX3_28 (fun q h => by cases h; rfl) (by decide +kernel) rfl (fun _ => ⟨rfl, rfl⟩) ?_
  refine e_aload_n aX3_init_42 rfl ?_
  refine e_bipush (v := 36) aX3_init_43 (by decide) ?_
  refine e_budget (ca2 := 43 + 1) (sa2 := 438 + 36) rfl rfl ?_
  refine e_newI (n := 97) (N := 36) aX3_init_45 (by decide) (by decide) (by decide) (by decide +kernel) (zt_at (by decide +kernel)) ?_
  refine e_putR (r := 97) (fs := [0, 0, 60, 97, 98, 1, 1, 1, 1, 1, 1, 1, 1]) aX3_init_47 qX3_31 (fun q h => by cases h; rfl) (by decide +kernel) rfl (fun _ => ⟨rfl, rfl⟩) ?_
  refine e_aload_n aX3_init_50 rfl ?_
  refine e_bipush (v := 36) aX3_init_51 (by decide) ?_
  refine e_budget (ca2 := 42 + 1) (sa2 := 402 + 36) rfl rfl ?_
  refine e_newI (n := 98) (N := 36) aX3_init_53 (by decide) (by decide) (by decide) (by decide +kernel) (zt_at (by decide +kernel)) ?_
  refine e_putR (r := 98) (fs := [0, 0, 60, 97, 98, 99, 1, 1, 1, 1, 1, 1, 1]) aX3_init_55 qX3_34 (fun q h => by cases h; rfl) (by decide +kernel) rfl (fun _ => ⟨rfl, rfl⟩) ?_
  refine e_aload_n aX3_init_58 rfl ?_
  refine e_bipush (v := 36) aX3_init_59 (by decide) ?_
  refine e_budget (ca2 := 41 + 1) (sa2 := 366 + 36) rfl rfl ?_
  refine e_newI (n := 99) (N := 36) aX3_init_61 (by decide) (by decide) (by decide) (by decide +kernel) (zt_at (by decide +kernel)) ?_
  refine e_putR (r := 99) (fs := [0, 0, 60, 97, 98, 99, 100, 1, 1, 1, 1, 1, 1]) aX3_init_63 qX3_37 (fun q h => by cases h; rfl) (by decide +kernel) rfl (fun _ => ⟨rfl, rfl⟩) ?_
  refine e_aload_n aX3_init_66 rfl ?_
  refine e_bipush (v := 36) aX3_init_67 (by decide) ?_
  refine e_bipush (v := 6) aX3_init_69 (by decide) ?_
  refine e_budget (ca2 := 4 + (1 + 36)) (sa2 := 114 + (36 + 36 * 6)) rfl rfl ?_
  refine e_mna (n := 100) (N := 36) (K := 6) (fs := [103, 104, 105, 106, 107, 108, 109, 110, 111, 112, 113, 114, 115, 116, 117, 118, 119, 120, 121, 122, 123, 124, 125, 126, 127, 128, 129, 130, 131, 132, 133, 134, 135, 136, 137, 138]) aX3_init_71 caX3_19 (by decide) (by decide) (by decide) (by decide) (by decide) (by decide) (by decide +kernel) (zt_all (by decide +kernel)) (mna_fs (by decide +kernel)) ?_
  refine e_putR (r := 100) (fs := [0, 0, 60, 97, 98, 99, 100, 101, 1, 1, 1, 1, 1]) aX3_init_75 qX3_40 (fun q h => by cases h; rfl) (by decide +kernel) rfl (fun _ => ⟨rfl, rfl⟩) ?_
  refine e_aload_n aX3_init_78 rfl ?_
  refine e_bipush (v := 36) aX3_init_79 (by decide) ?_
  refine e_budget (ca2 := 3 + 1) (sa2 := 78 + 36) rfl rfl ?_
  refine e_newI (n := 137) (N := 36) aX3_init_81 (by decide) (by decide) (by decide) (by decide +kernel) (zt_at (by decide +kernel)) ?_
  refine e_putR (r := 137) (fs := [0, 0, 60, 97, 98, 99, 100, 101, 102, 1, 1, 1, 1]) aX3_init_83 qX3_43 (fun q h => by cases h; rfl) (by decide +kernel) rfl (fun _ => ⟨rfl, rfl⟩) ?_
  refine e_aload_n aX3_init_86 rfl ?_
  refine e_bipush (v := 36) aX3_init_87 (by decide) ?_
  refine e_budget (ca2 := 2 + 1) (sa2 := 42 + 36) rfl rfl ?_
  refine e_newI (n := 138) (N := 36) aX3_init_89 (by decide) (by decide) (by decide) (by decide +kernel) (zt_at (by decide +kernel)) ?_
  refine e_putR (r := 138) (fs := [0, 0, 60, 97, 98, 99, 100, 101, 102, 139, 1, 1, 1]) aX3_init_91 qX3_46 (fun q h => by cases h; rfl) (by decide +kernel) rfl (fun _ => ⟨rfl, rfl⟩) ?_
  refine e_aload_n aX3_init_94 rfl ?_
  refine e_bipush (v := 36) aX3_init_95 (by decide) ?_
  refine e_budget (ca2 := 1 + 1) (sa2 := 6 + 36) rfl rfl ?_
  refine e_newI (n := 139) (N := 36) aX3_init_97 (by decide) (by decide) (by decide) (by decide +kernel) (zt_at (by decide +kernel)) ?_
  refine e_putR (r := 139) (fs := [0, 0, 60, 97, 98, 99, 100, 101, 102, 139, 140, 1, 1]) aX3_init_99 qX3_49 (fun q h => by cases h; rfl) (by decide +kernel) rfl (fun _ => ⟨rfl, rfl⟩) ?_
  refine e_aload_n aX3_init_102 rfl ?_
  refine e_bipush (v := 6) aX3_init_103 (by decide) ?_
  refine e_budget (ca2 := 0 + 1) (sa2 := 0 + 6) rfl rfl ?_
  refine e_newI (n := 140) (N := 6) aX3_init_105 (by decide) (by decide) (by decide) (by decide +kernel) (zt_at (by decide +kernel)) ?_
  refine e_putR (r := 140) (fs := [0, 0, 60, 97, 98, 99, 100, 101, 102, 139, 140, 141, 1]) aX3_init_107 qX3_52 (fun q h => by cases h; rfl) (by decide +kernel) rfl (fun _ => ⟨rfl, rfl⟩) ?_
  exact e_ret0 aX3_init_110 rfl ⟨rfl, by decide +kernel, congrArg tabM (by decide +kernel)⟩
theorem clX7_55 : Cond.classLink RX7 55 "QuiverDesk$Partition" ∈ TBW ∧ Cond.instantiable "QuiverDesk$Partition" 5 ∈ TBW ∧ Cond.initialized "QuiverDesk$Partition" ∈ TBW := ⟨tbw_memT 189 (by decide +kernel) (by decide +kernel), tbw_memT 190 (by decide +kernel) (by decide +kernel), tbw_memT 7 (by decide +kernel) (by decide +kernel)⟩
def LI_16 : List LC := [(0, 7, [3, 7, 11, 45, 46, 47, 49, 59, 1, 1, 1, 0, 0]), (0, 2, [0, 0, 4, 5, 6]), (1, 10, []), (1, 10, []), (1, 6, []), (0, 2, [0, 0, 8, 9, 10]), (1, 10, []), (1, 10, []), (1, 6, []), (0, 1, [12, 0, 0]), (3, 8, [13, 17, 21, 25, 29, 33, 37, 41]), (0, 2, [0, 0, 14, 15, 16]), (1, 10, []), (1, 10, []), (1, 6, []), (0, 2, [0, 0, 18, 19, 20]), (1, 10, []), (1, 10, []), (1, 6, []), (0, 2, [0, 0, 22, 23, 24]), (1, 10, []), (1, 10, []), (1, 6, []), (0, 2, [0, 0, 26, 27, 28]), (1, 10, []), (1, 10, []), (1, 6, []), (0, 2, [0, 0, 30, 31, 32]), (1, 10, []), (1, 10, []), (1, 6, []), (0, 2, [0, 0, 34, 35, 36]), (1, 10, []), (1, 10, []), (1, 6, []), (0, 2, [0, 0, 38, 39, 40]), (1, 10, []), (1, 10, []), (1, 6, []), (0, 2, [0, 0, 42, 43, 44]), (1, 10, []), (1, 10, []), (1, 6, []), (3, 2, [1, 1]), (2, 2, []), (0, 5, [48, 0, 0, 0, 0, 0]), (1, 200, []), (0, 6, [50, 51, 52]), (1, 6, []), (1, 6, []), (5, 6, [53, 54, 55, 56, 57, 58]), (1, 6, []), (1, 6, []), (1, 6, []), (1, 6, []), (1, 6, []), (1, 6, []), (0, 3, [0, 0, 60, 97, 98, 99, 100, 101, 102, 139, 140, 141, 142]), (5, 36, [61, 62, 63, 64, 65, 66, 67, 68, 69, 70, 71, 72, 73, 74, 75, 76, 77, 78, 79, 80, 81, 82, 83, 84, 85, 86, 87, 88, 89, 90, 91, 92, 93, 94, 95, 96]), (1, 6, []), (1, 6, []), (1, 6, []), (1, 6, []), (1, 6, []), (1, 6, []), (1, 6, []), (1, 6, []), (1, 6, []), (1, 6, []), (1, 6, []), (1, 6, []), (1, 6, []), (1, 6, []), (1, 6, []), (1, 6, []), (1, 6, []), (1, 6, []), (1, 6, []), (1, 6, []), (1, 6, []), (1, 6, []), (1, 6, []), (1, 6, []), (1, 6, []), (1, 6, []), (1, 6, []), (1, 6, []), (1, 6, []), (1, 6, []), (1, 6, []), (1, 6, []), (1, 6, []), (1, 6, []), (1, 6, []), (1, 6, []), (1, 36, []), (1, 36, []), (1, 36, []), (1, 36, []), (1, 36, []), (5, 36, [103, 104, 105, 106, 107, 108, 109, 110, 111, 112, 113, 114, 115, 116, 117, 118, 119, 120, 121, 122, 123, 124, 125, 126, 127, 128, 129, 130, 131, 132, 133, 134, 135, 136, 137, 138]), (1, 6, []), (1, 6, []), (1, 6, []), (1, 6, []), (1, 6, []), (1, 6, []), (1, 6, []), (1, 6, []), (1, 6, []), (1, 6, []), (1, 6, []), (1, 6, []), (1, 6, []), (1, 6, []), (1, 6, []), (1, 6, []), (1, 6, []), (1, 6, []), (1, 6, []), (1, 6, []), (1, 6, []), (1, 6, []), (1, 6, []), (1, 6, []), (1, 6, []), (1, 6, []), (1, 6, []), (1, 6, []), (1, 6, []), (1, 6, []), (1, 6, []), (1, 6, []), (1, 6, []), (1, 6, []), (1, 6, []), (1, 6, []), (1, 36, []), (1, 36, []), (1, 36, []), (1, 6, []), (0, 0, [1, 1, 1, 0, 0])]
def LE_16 : List LC := [(0, 7, [3, 7, 11, 45, 46, 47, 49, 59, 1, 1, 1, 0, 0]), (0, 2, [0, 0, 4, 5, 6]), (1, 10, []), (1, 10, []), (1, 6, []), (0, 2, [0, 0, 8, 9, 10]), (1, 10, []), (1, 10, []), (1, 6, []), (0, 1, [12, 0, 0]), (3, 8, [13, 17, 21, 25, 29, 33, 37, 41]), (0, 2, [0, 0, 14, 15, 16]), (1, 10, []), (1, 10, []), (1, 6, []), (0, 2, [0, 0, 18, 19, 20]), (1, 10, []), (1, 10, []), (1, 6, []), (0, 2, [0, 0, 22, 23, 24]), (1, 10, []), (1, 10, []), (1, 6, []), (0, 2, [0, 0, 26, 27, 28]), (1, 10, []), (1, 10, []), (1, 6, []), (0, 2, [0, 0, 30, 31, 32]), (1, 10, []), (1, 10, []), (1, 6, []), (0, 2, [0, 0, 34, 35, 36]), (1, 10, []), (1, 10, []), (1, 6, []), (0, 2, [0, 0, 38, 39, 40]), (1, 10, []), (1, 10, []), (1, 6, []), (0, 2, [0, 0, 42, 43, 44]), (1, 10, []), (1, 10, []), (1, 6, []), (3, 2, [1, 1]), (2, 2, []), (0, 5, [48, 0, 0, 0, 0, 0]), (1, 200, []), (0, 6, [50, 51, 52]), (1, 6, []), (1, 6, []), (5, 6, [53, 54, 55, 56, 57, 58]), (1, 6, []), (1, 6, []), (1, 6, []), (1, 6, []), (1, 6, []), (1, 6, []), (0, 3, [0, 0, 60, 97, 98, 99, 100, 101, 102, 139, 140, 141, 142]), (5, 36, [61, 62, 63, 64, 65, 66, 67, 68, 69, 70, 71, 72, 73, 74, 75, 76, 77, 78, 79, 80, 81, 82, 83, 84, 85, 86, 87, 88, 89, 90, 91, 92, 93, 94, 95, 96]), (1, 6, []), (1, 6, []), (1, 6, []), (1, 6, []), (1, 6, []), (1, 6, []), (1, 6, []), (1, 6, []), (1, 6, []), (1, 6, []), (1, 6, []), (1, 6, []), (1, 6, []), (1, 6, []), (1, 6, []), (1, 6, []), (1, 6, []), (1, 6, []), (1, 6, []), (1, 6, []), (1, 6, []), (1, 6, []), (1, 6, []), (1, 6, []), (1, 6, []), (1, 6, []), (1, 6, []), (1, 6, []), (1, 6, []), (1, 6, []), (1, 6, []), (1, 6, []), (1, 6, []), (1, 6, []), (1, 6, []), (1, 6, []), (1, 36, []), (1, 36, []), (1, 36, []), (1, 36, []), (1, 36, []), (5, 36, [103, 104, 105, 106, 107, 108, 109, 110, 111, 112, 113, 114, 115, 116, 117, 118, 119, 120, 121, 122, 123, 124, 125, 126, 127, 128, 129, 130, 131, 132, 133, 134, 135, 136, 137, 138]), (1, 6, []), (1, 6, []), (1, 6, []), (1, 6, []), (1, 6, []), (1, 6, []), (1, 6, []), (1, 6, []), (1, 6, []), (1, 6, []), (1, 6, []), (1, 6, []), (1, 6, []), (1, 6, []), (1, 6, []), (1, 6, []), (1, 6, []), (1, 6, []), (1, 6, []), (1, 6, []), (1, 6, []), (1, 6, []), (1, 6, []), (1, 6, []), (1, 6, []), (1, 6, []), (1, 6, []), (1, 6, []), (1, 6, []), (1, 6, []), (1, 6, []), (1, 6, []), (1, 6, []), (1, 6, []), (1, 6, []), (1, 6, []), (1, 36, []), (1, 36, []), (1, 36, []), (1, 6, []), (0, 0, [144, 145, 146, 0, 0]), (1, 36, []), (1, 36, []), (1, 6, [])]
def TI_16 : List (Nat × Nat × Int32) := [(57, 1, 0), (57, 0, 0), (45, 5, 0), (45, 4, 0), (45, 3, 0), (45, 2, 0), (45, 1, 0), (39, 1, 0), (39, 0, 3), (35, 1, 0), (35, 0, 3), (31, 1, 0), (31, 0, 3), (27, 1, 0), (27, 0, 3), (23, 1, 0), (23, 0, 3), (19, 1, 0), (19, 0, 3), (15, 1, 0), (15, 0, 3), (11, 1, 0), (11, 0, 3), (9, 2, 0), (9, 1, 0), (5, 1, 0), (5, 0, 3), (1, 1, 0), (1, 0, 3)]
def TE_16 : List (Nat × Nat × Int32) := [(141, 4, 0), (141, 3, 0), (57, 1, 0), (57, 0, 0), (45, 5, 0), (45, 4, 0), (45, 3, 0), (45, 2, 0), (45, 1, 0), (39, 1, 0), (39, 0, 3), (35, 1, 0), (35, 0, 3), (31, 1, 0), (31, 0, 3), (27, 1, 0), (27, 0, 3), (23, 1, 0), (23, 0, 3), (19, 1, 0), (19, 0, 3), (15, 1, 0), (15, 0, 3), (11, 1, 0), (11, 0, 3), (9, 2, 0), (9, 1, 0), (5, 1, 0), (5, 0, 3), (1, 1, 0), (1, 0, 3)]
set_option maxRecDepth 100000 in
set_option maxHeartbeats 8000000 in
theorem ci_16 (l : Launch) (x : WX) : Mt l x true yX0_init cX0_init 1 none 1 3 78 [.ref (x.2.2.1 + 141)] LI_16 (tabM TI_16) (fun v lay9 M9 => v = none ∧ lay9 = LE_16 ∧ M9 = tabM TE_16) := by
  refine mt_of (L0 := [some (.ref (x.2.2.1 + 141))]) (by decide +kernel) rfl (Nat.le_of_ble_eq_true rfl) (lvA_of 0 rfl) ?_
  refine e_aload_n aX0_init_0 rfl ?_
  refine e_objI aX0_init_1 mX0_3 (by decide) (Nat.le_of_ble_eq_true rfl) ?_
  refine e_aload_n aX0_init_4 rfl ?_
  refine e_bipush (v := 36) aX0_init_5 (by decide) ?_
  refine e_budget (ca2 := 2 + 1) (sa2 := 42 + 36) rfl rfl ?_
  refine e_newI (n := 142) (N := 36) aX0_init_7 (by decide) (by decide) (by decide) (by decide +kernel) (zt_at (by decide +kernel)) ?_
  refine e_putR (r := 142) (fs := [1, 1, 1, 0, 0]) aX0_init_9 qX0_9 (fun q h => by cases h; rfl) (by decide +kernel) rfl (fun _ => ⟨rfl, rfl⟩) ?_
  refine e_aload_n aX0_init_12 rfl ?_
  refine e_bipush (v := 36) aX0_init_13 (by decide) ?_
  refine e_budget (ca2 := 1 + 1) (sa2 := 6 + 36) rfl rfl ?_
  refine e_newI (n := 143) (N := 36) aX0_init_15 (by decide) (by decide) (by decide) (by decide +kernel) (zt_at (by decide +kernel)) ?_
  refine e_putR (r := 143) (fs := [144, 1, 1, 0, 0]) aX0_init_17 qX0_15 (fun q h => by cases h; rfl) (by decide +kernel) rfl (fun _ => ⟨rfl, rfl⟩) ?_
  refine e_aload_n aX0_init_20 rfl ?_
  refine e_bipush (v := 6) aX0_init_21 (by decide) ?_
  refine e_budget (ca2 := 0 + 1) (sa2 := 0 + 6) rfl rfl ?_
  refine e_newI (n := 144) (N := 6) aX0_init_23 (by decide) (by decide) (by decide) (by decide +kernel) (zt_at (by decide +kernel)) ?_
  refine e_putR (r := 144) (fs := [144, 145, 1, 0, 0]) aX0_init_25 qX0_18 (fun q h => by cases h; rfl) (by decide +kernel) rfl (fun _ => ⟨rfl, rfl⟩) ?_
  refine e_aload_n aX0_init_28 rfl ?_
  refine e_iconst (v := 0) aX0_init_29 (by decide) ?_
  refine e_putT (fs := [144, 145, 146, 0, 0]) aX0_init_30 qX0_21 (by decide +kernel) rfl (fi_of _) ?_
  refine e_aload_n aX0_init_33 rfl ?_
  refine e_iconst (v := 0) aX0_init_34 (by decide) ?_
  refine e_putT (fs := [144, 145, 146, 0, 0]) aX0_init_35 qX0_25 (by decide +kernel) rfl (fi_of _) ?_
  exact e_ret0 aX0_init_38 rfl ⟨rfl, by decide +kernel, congrArg tabM (by decide +kernel)⟩
theorem caX7_62 : Cond.classLink RX7 62 "QuiverDesk$Shelf" ∈ TBW := tbw_memT 211 (by decide +kernel) (by decide +kernel)
def LI_17 : List LC := [(0, 7, [3, 7, 11, 45, 46, 47, 49, 59, 143, 147, 148, 0, 0]), (0, 2, [0, 0, 4, 5, 6]), (1, 10, []), (1, 10, []), (1, 6, []), (0, 2, [0, 0, 8, 9, 10]), (1, 10, []), (1, 10, []), (1, 6, []), (0, 1, [12, 0, 0]), (3, 8, [13, 17, 21, 25, 29, 33, 37, 41]), (0, 2, [0, 0, 14, 15, 16]), (1, 10, []), (1, 10, []), (1, 6, []), (0, 2, [0, 0, 18, 19, 20]), (1, 10, []), (1, 10, []), (1, 6, []), (0, 2, [0, 0, 22, 23, 24]), (1, 10, []), (1, 10, []), (1, 6, []), (0, 2, [0, 0, 26, 27, 28]), (1, 10, []), (1, 10, []), (1, 6, []), (0, 2, [0, 0, 30, 31, 32]), (1, 10, []), (1, 10, []), (1, 6, []), (0, 2, [0, 0, 34, 35, 36]), (1, 10, []), (1, 10, []), (1, 6, []), (0, 2, [0, 0, 38, 39, 40]), (1, 10, []), (1, 10, []), (1, 6, []), (0, 2, [0, 0, 42, 43, 44]), (1, 10, []), (1, 10, []), (1, 6, []), (3, 2, [1, 1]), (2, 2, []), (0, 5, [48, 0, 0, 0, 0, 0]), (1, 200, []), (0, 6, [50, 51, 52]), (1, 6, []), (1, 6, []), (5, 6, [53, 54, 55, 56, 57, 58]), (1, 6, []), (1, 6, []), (1, 6, []), (1, 6, []), (1, 6, []), (1, 6, []), (0, 3, [0, 0, 60, 97, 98, 99, 100, 101, 102, 139, 140, 141, 142]), (5, 36, [61, 62, 63, 64, 65, 66, 67, 68, 69, 70, 71, 72, 73, 74, 75, 76, 77, 78, 79, 80, 81, 82, 83, 84, 85, 86, 87, 88, 89, 90, 91, 92, 93, 94, 95, 96]), (1, 6, []), (1, 6, []), (1, 6, []), (1, 6, []), (1, 6, []), (1, 6, []), (1, 6, []), (1, 6, []), (1, 6, []), (1, 6, []), (1, 6, []), (1, 6, []), (1, 6, []), (1, 6, []), (1, 6, []), (1, 6, []), (1, 6, []), (1, 6, []), (1, 6, []), (1, 6, []), (1, 6, []), (1, 6, []), (1, 6, []), (1, 6, []), (1, 6, []), (1, 6, []), (1, 6, []), (1, 6, []), (1, 6, []), (1, 6, []), (1, 6, []), (1, 6, []), (1, 6, []), (1, 6, []), (1, 6, []), (1, 6, []), (1, 36, []), (1, 36, []), (1, 36, []), (1, 36, []), (1, 36, []), (5, 36, [103, 104, 105, 106, 107, 108, 109, 110, 111, 112, 113, 114, 115, 116, 117, 118, 119, 120, 121, 122, 123, 124, 125, 126, 127, 128, 129, 130, 131, 132, 133, 134, 135, 136, 137, 138]), (1, 6, []), (1, 6, []), (1, 6, []), (1, 6, []), (1, 6, []), (1, 6, []), (1, 6, []), (1, 6, []), (1, 6, []), (1, 6, []), (1, 6, []), (1, 6, []), (1, 6, []), (1, 6, []), (1, 6, []), (1, 6, []), (1, 6, []), (1, 6, []), (1, 6, []), (1, 6, []), (1, 6, []), (1, 6, []), (1, 6, []), (1, 6, []), (1, 6, []), (1, 6, []), (1, 6, []), (1, 6, []), (1, 6, []), (1, 6, []), (1, 6, []), (1, 6, []), (1, 6, []), (1, 6, []), (1, 6, []), (1, 6, []), (1, 36, []), (1, 36, []), (1, 36, []), (1, 6, []), (0, 0, [144, 145, 146, 0, 0]), (1, 36, []), (1, 36, []), (1, 6, []), (4, 3, [1, 1, 1]), (1, 6, []), (0, 2, [0, 0, 1, 1, 1])]
def LE_17 : List LC := [(0, 7, [3, 7, 11, 45, 46, 47, 49, 59, 143, 147, 148, 0, 0]), (0, 2, [0, 0, 4, 5, 6]), (1, 10, []), (1, 10, []), (1, 6, []), (0, 2, [0, 0, 8, 9, 10]), (1, 10, []), (1, 10, []), (1, 6, []), (0, 1, [12, 0, 0]), (3, 8, [13, 17, 21, 25, 29, 33, 37, 41]), (0, 2, [0, 0, 14, 15, 16]), (1, 10, []), (1, 10, []), (1, 6, []), (0, 2, [0, 0, 18, 19, 20]), (1, 10, []), (1, 10, []), (1, 6, []), (0, 2, [0, 0, 22, 23, 24]), (1, 10, []), (1, 10, []), (1, 6, []), (0, 2, [0, 0, 26, 27, 28]), (1, 10, []), (1, 10, []), (1, 6, []), (0, 2, [0, 0, 30, 31, 32]), (1, 10, []), (1, 10, []), (1, 6, []), (0, 2, [0, 0, 34, 35, 36]), (1, 10, []), (1, 10, []), (1, 6, []), (0, 2, [0, 0, 38, 39, 40]), (1, 10, []), (1, 10, []), (1, 6, []), (0, 2, [0, 0, 42, 43, 44]), (1, 10, []), (1, 10, []), (1, 6, []), (3, 2, [1, 1]), (2, 2, []), (0, 5, [48, 0, 0, 0, 0, 0]), (1, 200, []), (0, 6, [50, 51, 52]), (1, 6, []), (1, 6, []), (5, 6, [53, 54, 55, 56, 57, 58]), (1, 6, []), (1, 6, []), (1, 6, []), (1, 6, []), (1, 6, []), (1, 6, []), (0, 3, [0, 0, 60, 97, 98, 99, 100, 101, 102, 139, 140, 141, 142]), (5, 36, [61, 62, 63, 64, 65, 66, 67, 68, 69, 70, 71, 72, 73, 74, 75, 76, 77, 78, 79, 80, 81, 82, 83, 84, 85, 86, 87, 88, 89, 90, 91, 92, 93, 94, 95, 96]), (1, 6, []), (1, 6, []), (1, 6, []), (1, 6, []), (1, 6, []), (1, 6, []), (1, 6, []), (1, 6, []), (1, 6, []), (1, 6, []), (1, 6, []), (1, 6, []), (1, 6, []), (1, 6, []), (1, 6, []), (1, 6, []), (1, 6, []), (1, 6, []), (1, 6, []), (1, 6, []), (1, 6, []), (1, 6, []), (1, 6, []), (1, 6, []), (1, 6, []), (1, 6, []), (1, 6, []), (1, 6, []), (1, 6, []), (1, 6, []), (1, 6, []), (1, 6, []), (1, 6, []), (1, 6, []), (1, 6, []), (1, 6, []), (1, 36, []), (1, 36, []), (1, 36, []), (1, 36, []), (1, 36, []), (5, 36, [103, 104, 105, 106, 107, 108, 109, 110, 111, 112, 113, 114, 115, 116, 117, 118, 119, 120, 121, 122, 123, 124, 125, 126, 127, 128, 129, 130, 131, 132, 133, 134, 135, 136, 137, 138]), (1, 6, []), (1, 6, []), (1, 6, []), (1, 6, []), (1, 6, []), (1, 6, []), (1, 6, []), (1, 6, []), (1, 6, []), (1, 6, []), (1, 6, []), (1, 6, []), (1, 6, []), (1, 6, []), (1, 6, []), (1, 6, []), (1, 6, []), (1, 6, []), (1, 6, []), (1, 6, []), (1, 6, []), (1, 6, []), (1, 6, []), (1, 6, []), (1, 6, []), (1, 6, []), (1, 6, []), (1, 6, []), (1, 6, []), (1, 6, []), (1, 6, []), (1, 6, []), (1, 6, []), (1, 6, []), (1, 6, []), (1, 6, []), (1, 36, []), (1, 36, []), (1, 36, []), (1, 6, []), (0, 0, [144, 145, 146, 0, 0]), (1, 36, []), (1, 36, []), (1, 6, []), (4, 3, [1, 1, 1]), (1, 6, []), (0, 2, [0, 0, 150, 151, 152]), (1, 10, []), (1, 10, []), (1, 6, [])]
def TI_17 : List (Nat × Nat × Int32) := [(0, 12, 1), (0, 11, 1), (141, 4, 0), (141, 3, 0), (57, 1, 0), (57, 0, 0), (45, 5, 0), (45, 4, 0), (45, 3, 0), (45, 2, 0), (45, 1, 0), (39, 1, 0), (39, 0, 3), (35, 1, 0), (35, 0, 3), (31, 1, 0), (31, 0, 3), (27, 1, 0), (27, 0, 3), (23, 1, 0), (23, 0, 3), (19, 1, 0), (19, 0, 3), (15, 1, 0), (15, 0, 3), (11, 1, 0), (11, 0, 3), (9, 2, 0), (9, 1, 0), (5, 1, 0), (5, 0, 3), (1, 1, 0), (1, 0, 3)]
def TE_17 : List (Nat × Nat × Int32) := [(147, 1, 0), (147, 0, 3), (0, 12, 1), (0, 11, 1), (141, 4, 0), (141, 3, 0), (57, 1, 0), (57, 0, 0), (45, 5, 0), (45, 4, 0), (45, 3, 0), (45, 2, 0), (45, 1, 0), (39, 1, 0), (39, 0, 3), (35, 1, 0), (35, 0, 3), (31, 1, 0), (31, 0, 3), (27, 1, 0), (27, 0, 3), (23, 1, 0), (23, 0, 3), (19, 1, 0), (19, 0, 3), (15, 1, 0), (15, 0, 3), (11, 1, 0), (11, 0, 3), (9, 2, 0), (9, 1, 0), (5, 1, 0), (5, 0, 3), (1, 1, 0), (1, 0, 3)]
set_option maxRecDepth 100000 in
set_option maxHeartbeats 8000000 in
theorem ci_17 (l : Launch) (x : WX) : Mt l x true yX2_init cX2_init 1 none 1 3 26 [.ref (x.2.2.1 + 147)] LI_17 (tabM TI_17) (fun v lay9 M9 => v = none ∧ lay9 = LE_17 ∧ M9 = tabM TE_17) := by
  refine mt_of (L0 := [some (.ref (x.2.2.1 + 147))]) (by decide +kernel) rfl (Nat.le_of_ble_eq_true rfl) (lvA_of 0 rfl) ?_
  refine e_aload_n aX2_init_0 rfl ?_
  refine e_objI aX2_init_1 mX2_3 (by decide) (Nat.le_of_ble_eq_true rfl) ?_
  refine e_aload_n aX2_init_4 rfl ?_
  refine e_iconst (v := 3) aX2_init_5 (by decide) ?_
  refine e_putT (fs := [0, 0, 1, 1, 1]) aX2_init_6 qX2_9 (by decide +kernel) rfl (fi_of _) ?_
  refine e_aload_n aX2_init_9 rfl ?_
  refine e_iconst (v := 0) aX2_init_10 (by decide) ?_
  refine e_putT (fs := [0, 0, 1, 1, 1]) aX2_init_11 qX2_15 (by decide +kernel) rfl (fi_of _) ?_
  refine e_aload_n aX2_init_14 rfl ?_
  refine e_bipush (v := 10) aX2_init_15 (by decide) ?_
  refine e_budget (ca2 := 2 + 1) (sa2 := 16 + 10) rfl rfl ?_
  refine e_newI (n := 148) (N := 10) aX2_init_17 (by decide) (by decide) (by decide) (by decide +kernel) (zt_at (by decide +kernel)) ?_
  refine e_putR (r := 148) (fs := [0, 0, 1, 1, 1]) aX2_init_19 qX2_18 (fun q h => by cases h; rfl) (by decide +kernel) rfl (fun _ => ⟨rfl, rfl⟩) ?_
  refine e_aload_n aX2_init_22 rfl ?_
  refine e_bipush (v := 10) aX2_init_23 (by decide) ?_
  refine e_budget (ca2 := 1 + 1) (sa2 := 6 + 10) rfl rfl ?_
  refine e_newI (n := 149) (N := 10) aX2_init_25 (by decide) (by decide) (by decide) (by decide +kernel) (zt_at (by decide +kernel)) ?_
  refine e_putR (r := 149) (fs := [0, 0, 150, 1, 1]) aX2_init_27 qX2_22 (fun q h => by cases h; rfl) (by decide +kernel) rfl (fun _ => ⟨rfl, rfl⟩) ?_
  refine e_aload_n aX2_init_30 rfl ?_
  refine e_bipush (v := 6) aX2_init_31 (by decide) ?_
  refine e_budget (ca2 := 0 + 1) (sa2 := 0 + 6) rfl rfl ?_
  refine e_newI (n := 150) (N := 6) aX2_init_33 (by decide) (by decide) (by decide) (by decide +kernel) (zt_at (by decide +kernel)) ?_
  refine e_putR (r := 150) (fs := [0, 0, 150, 151, 1]) aX2_init_35 qX2_25 (fun q h => by cases h; rfl) (by decide +kernel) rfl (fun _ => ⟨rfl, rfl⟩) ?_
  exact e_ret0 aX2_init_38 rfl ⟨rfl, by decide +kernel, congrArg tabM (by decide +kernel)⟩
def LI_18 : List LC := [(0, 7, [3, 7, 11, 45, 46, 47, 49, 59, 143, 147, 148, 0, 0]), (0, 2, [0, 0, 4, 5, 6]), (1, 10, []), (1, 10, []), (1, 6, []), (0, 2, [0, 0, 8, 9, 10]), (1, 10, []), (1, 10, []), (1, 6, []), (0, 1, [12, 0, 0]), (3, 8, [13, 17, 21, 25, 29, 33, 37, 41]), (0, 2, [0, 0, 14, 15, 16]), (1, 10, []), (1, 10, []), (1, 6, []), (0, 2, [0, 0, 18, 19, 20]), (1, 10, []), (1, 10, []), (1, 6, []), (0, 2, [0, 0, 22, 23, 24]), (1, 10, []), (1, 10, []), (1, 6, []), (0, 2, [0, 0, 26, 27, 28]), (1, 10, []), (1, 10, []), (1, 6, []), (0, 2, [0, 0, 30, 31, 32]), (1, 10, []), (1, 10, []), (1, 6, []), (0, 2, [0, 0, 34, 35, 36]), (1, 10, []), (1, 10, []), (1, 6, []), (0, 2, [0, 0, 38, 39, 40]), (1, 10, []), (1, 10, []), (1, 6, []), (0, 2, [0, 0, 42, 43, 44]), (1, 10, []), (1, 10, []), (1, 6, []), (3, 2, [149, 1]), (2, 2, []), (0, 5, [48, 0, 0, 0, 0, 0]), (1, 200, []), (0, 6, [50, 51, 52]), (1, 6, []), (1, 6, []), (5, 6, [53, 54, 55, 56, 57, 58]), (1, 6, []), (1, 6, []), (1, 6, []), (1, 6, []), (1, 6, []), (1, 6, []), (0, 3, [0, 0, 60, 97, 98, 99, 100, 101, 102, 139, 140, 141, 142]), (5, 36, [61, 62, 63, 64, 65, 66, 67, 68, 69, 70, 71, 72, 73, 74, 75, 76, 77, 78, 79, 80, 81, 82, 83, 84, 85, 86, 87, 88, 89, 90, 91, 92, 93, 94, 95, 96]), (1, 6, []), (1, 6, []), (1, 6, []), (1, 6, []), (1, 6, []), (1, 6, []), (1, 6, []), (1, 6, []), (1, 6, []), (1, 6, []), (1, 6, []), (1, 6, []), (1, 6, []), (1, 6, []), (1, 6, []), (1, 6, []), (1, 6, []), (1, 6, []), (1, 6, []), (1, 6, []), (1, 6, []), (1, 6, []), (1, 6, []), (1, 6, []), (1, 6, []), (1, 6, []), (1, 6, []), (1, 6, []), (1, 6, []), (1, 6, []), (1, 6, []), (1, 6, []), (1, 6, []), (1, 6, []), (1, 6, []), (1, 6, []), (1, 36, []), (1, 36, []), (1, 36, []), (1, 36, []), (1, 36, []), (5, 36, [103, 104, 105, 106, 107, 108, 109, 110, 111, 112, 113, 114, 115, 116, 117, 118, 119, 120, 121, 122, 123, 124, 125, 126, 127, 128, 129, 130, 131, 132, 133, 134, 135, 136, 137, 138]), (1, 6, []), (1, 6, []), (1, 6, []), (1, 6, []), (1, 6, []), (1, 6, []), (1, 6, []), (1, 6, []), (1, 6, []), (1, 6, []), (1, 6, []), (1, 6, []), (1, 6, []), (1, 6, []), (1, 6, []), (1, 6, []), (1, 6, []), (1, 6, []), (1, 6, []), (1, 6, []), (1, 6, []), (1, 6, []), (1, 6, []), (1, 6, []), (1, 6, []), (1, 6, []), (1, 6, []), (1, 6, []), (1, 6, []), (1, 6, []), (1, 6, []), (1, 6, []), (1, 6, []), (1, 6, []), (1, 6, []), (1, 6, []), (1, 36, []), (1, 36, []), (1, 36, []), (1, 6, []), (0, 0, [144, 145, 146, 0, 0]), (1, 36, []), (1, 36, []), (1, 6, []), (4, 3, [1, 1, 1]), (1, 6, []), (0, 2, [0, 0, 150, 151, 152]), (1, 10, []), (1, 10, []), (1, 6, []), (0, 2, [0, 0, 1, 1, 1])]
def LE_18 : List LC := [(0, 7, [3, 7, 11, 45, 46, 47, 49, 59, 143, 147, 148, 0, 0]), (0, 2, [0, 0, 4, 5, 6]), (1, 10, []), (1, 10, []), (1, 6, []), (0, 2, [0, 0, 8, 9, 10]), (1, 10, []), (1, 10, []), (1, 6, []), (0, 1, [12, 0, 0]), (3, 8, [13, 17, 21, 25, 29, 33, 37, 41]), (0, 2, [0, 0, 14, 15, 16]), (1, 10, []), (1, 10, []), (1, 6, []), (0, 2, [0, 0, 18, 19, 20]), (1, 10, []), (1, 10, []), (1, 6, []), (0, 2, [0, 0, 22, 23, 24]), (1, 10, []), (1, 10, []), (1, 6, []), (0, 2, [0, 0, 26, 27, 28]), (1, 10, []), (1, 10, []), (1, 6, []), (0, 2, [0, 0, 30, 31, 32]), (1, 10, []), (1, 10, []), (1, 6, []), (0, 2, [0, 0, 34, 35, 36]), (1, 10, []), (1, 10, []), (1, 6, []), (0, 2, [0, 0, 38, 39, 40]), (1, 10, []), (1, 10, []), (1, 6, []), (0, 2, [0, 0, 42, 43, 44]), (1, 10, []), (1, 10, []), (1, 6, []), (3, 2, [149, 1]), (2, 2, []), (0, 5, [48, 0, 0, 0, 0, 0]), (1, 200, []), (0, 6, [50, 51, 52]), (1, 6, []), (1, 6, []), (5, 6, [53, 54, 55, 56, 57, 58]), (1, 6, []), (1, 6, []), (1, 6, []), (1, 6, []), (1, 6, []), (1, 6, []), (0, 3, [0, 0, 60, 97, 98, 99, 100, 101, 102, 139, 140, 141, 142]), (5, 36, [61, 62, 63, 64, 65, 66, 67, 68, 69, 70, 71, 72, 73, 74, 75, 76, 77, 78, 79, 80, 81, 82, 83, 84, 85, 86, 87, 88, 89, 90, 91, 92, 93, 94, 95, 96]), (1, 6, []), (1, 6, []), (1, 6, []), (1, 6, []), (1, 6, []), (1, 6, []), (1, 6, []), (1, 6, []), (1, 6, []), (1, 6, []), (1, 6, []), (1, 6, []), (1, 6, []), (1, 6, []), (1, 6, []), (1, 6, []), (1, 6, []), (1, 6, []), (1, 6, []), (1, 6, []), (1, 6, []), (1, 6, []), (1, 6, []), (1, 6, []), (1, 6, []), (1, 6, []), (1, 6, []), (1, 6, []), (1, 6, []), (1, 6, []), (1, 6, []), (1, 6, []), (1, 6, []), (1, 6, []), (1, 6, []), (1, 6, []), (1, 36, []), (1, 36, []), (1, 36, []), (1, 36, []), (1, 36, []), (5, 36, [103, 104, 105, 106, 107, 108, 109, 110, 111, 112, 113, 114, 115, 116, 117, 118, 119, 120, 121, 122, 123, 124, 125, 126, 127, 128, 129, 130, 131, 132, 133, 134, 135, 136, 137, 138]), (1, 6, []), (1, 6, []), (1, 6, []), (1, 6, []), (1, 6, []), (1, 6, []), (1, 6, []), (1, 6, []), (1, 6, []), (1, 6, []), (1, 6, []), (1, 6, []), (1, 6, []), (1, 6, []), (1, 6, []), (1, 6, []), (1, 6, []), (1, 6, []), (1, 6, []), (1, 6, []), (1, 6, []), (1, 6, []), (1, 6, []), (1, 6, []), (1, 6, []), (1, 6, []), (1, 6, []), (1, 6, []), (1, 6, []), (1, 6, []), (1, 6, []), (1, 6, []), (1, 6, []), (1, 6, []), (1, 6, []), (1, 6, []), (1, 36, []), (1, 36, []), (1, 36, []), (1, 6, []), (0, 0, [144, 145, 146, 0, 0]), (1, 36, []), (1, 36, []), (1, 6, []), (4, 3, [1, 1, 1]), (1, 6, []), (0, 2, [0, 0, 150, 151, 152]), (1, 10, []), (1, 10, []), (1, 6, []), (0, 2, [0, 0, 154, 155, 156]), (1, 10, []), (1, 10, []), (1, 6, [])]
def TI_18 : List (Nat × Nat × Int32) := [(147, 1, 0), (147, 0, 3), (0, 12, 1), (0, 11, 1), (141, 4, 0), (141, 3, 0), (57, 1, 0), (57, 0, 0), (45, 5, 0), (45, 4, 0), (45, 3, 0), (45, 2, 0), (45, 1, 0), (39, 1, 0), (39, 0, 3), (35, 1, 0), (35, 0, 3), (31, 1, 0), (31, 0, 3), (27, 1, 0), (27, 0, 3), (23, 1, 0), (23, 0, 3), (19, 1, 0), (19, 0, 3), (15, 1, 0), (15, 0, 3), (11, 1, 0), (11, 0, 3), (9, 2, 0), (9, 1, 0), (5, 1, 0), (5, 0, 3), (1, 1, 0), (1, 0, 3)]
def TE_18 : List (Nat × Nat × Int32) := [(151, 1, 0), (151, 0, 3), (147, 1, 0), (147, 0, 3), (0, 12, 1), (0, 11, 1), (141, 4, 0), (141, 3, 0), (57, 1, 0), (57, 0, 0), (45, 5, 0), (45, 4, 0), (45, 3, 0), (45, 2, 0), (45, 1, 0), (39, 1, 0), (39, 0, 3), (35, 1, 0), (35, 0, 3), (31, 1, 0), (31, 0, 3), (27, 1, 0), (27, 0, 3), (23, 1, 0), (23, 0, 3), (19, 1, 0), (19, 0, 3), (15, 1, 0), (15, 0, 3), (11, 1, 0), (11, 0, 3), (9, 2, 0), (9, 1, 0), (5, 1, 0), (5, 0, 3), (1, 1, 0), (1, 0, 3)]
set_option maxRecDepth 100000 in
set_option maxHeartbeats 8000000 in
theorem ci_18 (l : Launch) (x : WX) : Mt l x true yX2_init cX2_init 1 none 1 3 26 [.ref (x.2.2.1 + 151)] LI_18 (tabM TI_18) (fun v lay9 M9 => v = none ∧ lay9 = LE_18 ∧ M9 = tabM TE_18) := by
  refine mt_of (L0 := [some (.ref (x.2.2.1 + 151))]) (by decide +kernel) rfl (Nat.le_of_ble_eq_true rfl) (lvA_of 0 rfl) ?_
  refine e_aload_n aX2_init_0 rfl ?_
  refine e_objI aX2_init_1 mX2_3 (by decide) (Nat.le_of_ble_eq_true rfl) ?_
  refine e_aload_n aX2_init_4 rfl ?_
  refine e_iconst (v := 3) aX2_init_5 (by decide) ?_
  refine e_putT (fs := [0, 0, 1, 1, 1]) aX2_init_6 qX2_9 (by decide +kernel) rfl (fi_of _) ?_
  refine e_aload_n aX2_init_9 rfl ?_
  refine e_iconst (v := 0) aX2_init_10 (by decide) ?_
  refine e_putT (fs := [0, 0, 1, 1, 1]) aX2_init_11 qX2_15 (by decide +kernel) rfl (fi_of _) ?_
  refine e_aload_n aX2_init_14 rfl ?_
  refine e_bipush (v := 10) aX2_init_15 (by decide) ?_
  refine e_budget (ca2 := 2 + 1) (sa2 := 16 + 10) rfl rfl ?_
  refine e_newI (n := 152) (N := 10) aX2_init_17 (by decide) (by decide) (by decide) (by decide +kernel) (zt_at (by decide +kernel)) ?_
  refine e_putR (r := 152) (fs := [0, 0, 1, 1, 1]) aX2_init_19 qX2_18 (fun q h => by cases h; rfl) (by decide +kernel) rfl (fun _ => ⟨rfl, rfl⟩) ?_
  refine e_aload_n aX2_init_22 rfl ?_
  refine e_bipush (v := 10) aX2_init_23 (by decide) ?_
  refine e_budget (ca2 := 1 + 1) (sa2 := 6 + 10) rfl rfl ?_
  refine e_newI (n := 153) (N := 10) aX2_init_25 (by decide) (by decide) (by decide) (by decide +kernel) (zt_at (by decide +kernel)) ?_
  refine e_putR (r := 153) (fs := [0, 0, 154, 1, 1]) aX2_init_27 qX2_22 (fun q h => by cases h; rfl) (by decide +kernel) rfl (fun _ => ⟨rfl, rfl⟩) ?_
  refine e_aload_n aX2_init_30 rfl ?_
  refine e_bipush (v := 6) aX2_init_31 (by decide) ?_
  refine e_budget (ca2 := 0 + 1) (sa2 := 0 + 6) rfl rfl ?_
  refine e_newI (n := 154) (N := 6) aX2_init_33 (by decide) (by decide) (by decide) (by decide +kernel) (zt_at (by decide +kernel)) ?_
  refine e_putR (r := 154) (fs := [0, 0, 154, 155, 1]) aX2_init_35 qX2_25 (fun q h => by cases h; rfl) (by decide +kernel) rfl (fun _ => ⟨rfl, rfl⟩) ?_
  exact e_ret0 aX2_init_38 rfl ⟨rfl, by decide +kernel, congrArg tabM (by decide +kernel)⟩
theorem clX7_62 : Cond.classLink RX7 62 "QuiverDesk$Shelf" ∈ TBW ∧ Cond.instantiable "QuiverDesk$Shelf" 4 ∈ TBW ∧ Cond.initialized "QuiverDesk$Shelf" ∈ TBW := ⟨tbw_memT 211 (by decide +kernel) (by decide +kernel), tbw_memT 213 (by decide +kernel) (by decide +kernel), tbw_memT 8 (by decide +kernel) (by decide +kernel)⟩
theorem caX4_19 : Cond.classLink RX4 19 ("[" ++ (FieldType.array .int).toString) ∈ TBW := tbw_memT 218 (by decide +kernel) (by decide +kernel)
def LI_19 : List LC := [(0, 7, [3, 7, 11, 45, 46, 47, 49, 59, 143, 147, 148, 0, 0]), (0, 2, [0, 0, 4, 5, 6]), (1, 10, []), (1, 10, []), (1, 6, []), (0, 2, [0, 0, 8, 9, 10]), (1, 10, []), (1, 10, []), (1, 6, []), (0, 1, [12, 0, 0]), (3, 8, [13, 17, 21, 25, 29, 33, 37, 41]), (0, 2, [0, 0, 14, 15, 16]), (1, 10, []), (1, 10, []), (1, 6, []), (0, 2, [0, 0, 18, 19, 20]), (1, 10, []), (1, 10, []), (1, 6, []), (0, 2, [0, 0, 22, 23, 24]), (1, 10, []), (1, 10, []), (1, 6, []), (0, 2, [0, 0, 26, 27, 28]), (1, 10, []), (1, 10, []), (1, 6, []), (0, 2, [0, 0, 30, 31, 32]), (1, 10, []), (1, 10, []), (1, 6, []), (0, 2, [0, 0, 34, 35, 36]), (1, 10, []), (1, 10, []), (1, 6, []), (0, 2, [0, 0, 38, 39, 40]), (1, 10, []), (1, 10, []), (1, 6, []), (0, 2, [0, 0, 42, 43, 44]), (1, 10, []), (1, 10, []), (1, 6, []), (3, 2, [149, 153]), (2, 2, []), (0, 5, [48, 0, 0, 0, 0, 0]), (1, 200, []), (0, 6, [50, 51, 52]), (1, 6, []), (1, 6, []), (5, 6, [53, 54, 55, 56, 57, 58]), (1, 6, []), (1, 6, []), (1, 6, []), (1, 6, []), (1, 6, []), (1, 6, []), (0, 3, [0, 0, 60, 97, 98, 99, 100, 101, 102, 139, 140, 141, 142]), (5, 36, [61, 62, 63, 64, 65, 66, 67, 68, 69, 70, 71, 72, 73, 74, 75, 76, 77, 78, 79, 80, 81, 82, 83, 84, 85, 86, 87, 88, 89, 90, 91, 92, 93, 94, 95, 96]), (1, 6, []), (1, 6, []), (1, 6, []), (1, 6, []), (1, 6, []), (1, 6, []), (1, 6, []), (1, 6, []), (1, 6, []), (1, 6, []), (1, 6, []), (1, 6, []), (1, 6, []), (1, 6, []), (1, 6, []), (1, 6, []), (1, 6, []), (1, 6, []), (1, 6, []), (1, 6, []), (1, 6, []), (1, 6, []), (1, 6, []), (1, 6, []), (1, 6, []), (1, 6, []), (1, 6, []), (1, 6, []), (1, 6, []), (1, 6, []), (1, 6, []), (1, 6, []), (1, 6, []), (1, 6, []), (1, 6, []), (1, 6, []), (1, 36, []), (1, 36, []), (1, 36, []), (1, 36, []), (1, 36, []), (5, 36, [103, 104, 105, 106, 107, 108, 109, 110, 111, 112, 113, 114, 115, 116, 117, 118, 119, 120, 121, 122, 123, 124, 125, 126, 127, 128, 129, 130, 131, 132, 133, 134, 135, 136, 137, 138]), (1, 6, []), (1, 6, []), (1, 6, []), (1, 6, []), (1, 6, []), (1, 6, []), (1, 6, []), (1, 6, []), (1, 6, []), (1, 6, []), (1, 6, []), (1, 6, []), (1, 6, []), (1, 6, []), (1, 6, []), (1, 6, []), (1, 6, []), (1, 6, []), (1, 6, []), (1, 6, []), (1, 6, []), (1, 6, []), (1, 6, []), (1, 6, []), (1, 6, []), (1, 6, []), (1, 6, []), (1, 6, []), (1, 6, []), (1, 6, []), (1, 6, []), (1, 6, []), (1, 6, []), (1, 6, []), (1, 6, []), (1, 6, []), (1, 36, []), (1, 36, []), (1, 36, []), (1, 6, []), (0, 0, [144, 145, 146, 0, 0]), (1, 36, []), (1, 36, []), (1, 6, []), (4, 3, [1, 1, 1]), (1, 6, []), (0, 2, [0, 0, 150, 151, 152]), (1, 10, []), (1, 10, []), (1, 6, []), (0, 2, [0, 0, 154, 155, 156]), (1, 10, []), (1, 10, []), (1, 6, []), (0, 4, [0, 0, 1, 1])]
def LE_19 : List LC := [(0, 7, [3, 7, 11, 45, 46, 47, 49, 59, 143, 147, 148, 0, 0]), (0, 2, [0, 0, 4, 5, 6]), (1, 10, []), (1, 10, []), (1, 6, []), (0, 2, [0, 0, 8, 9, 10]), (1, 10, []), (1, 10, []), (1, 6, []), (0, 1, [12, 0, 0]), (3, 8, [13, 17, 21, 25, 29, 33, 37, 41]), (0, 2, [0, 0, 14, 15, 16]), (1, 10, []), (1, 10, []), (1, 6, []), (0, 2, [0, 0, 18, 19, 20]), (1, 10, []), (1, 10, []), (1, 6, []), (0, 2, [0, 0, 22, 23, 24]), (1, 10, []), (1, 10, []), (1, 6, []), (0, 2, [0, 0, 26, 27, 28]), (1, 10, []), (1, 10, []), (1, 6, []), (0, 2, [0, 0, 30, 31, 32]), (1, 10, []), (1, 10, []), (1, 6, []), (0, 2, [0, 0, 34, 35, 36]), (1, 10, []), (1, 10, []), (1, 6, []), (0, 2, [0, 0, 38, 39, 40]), (1, 10, []), (1, 10, []), (1, 6, []), (0, 2, [0, 0, 42, 43, 44]), (1, 10, []), (1, 10, []), (1, 6, []), (3, 2, [149, 153]), (2, 2, []), (0, 5, [48, 0, 0, 0, 0, 0]), (1, 200, []), (0, 6, [50, 51, 52]), (1, 6, []), (1, 6, []), (5, 6, [53, 54, 55, 56, 57, 58]), (1, 6, []), (1, 6, []), (1, 6, []), (1, 6, []), (1, 6, []), (1, 6, []), (0, 3, [0, 0, 60, 97, 98, 99, 100, 101, 102, 139, 140, 141, 142]), (5, 36, [61, 62, 63, 64, 65, 66, 67, 68, 69, 70, 71, 72, 73, 74, 75, 76, 77, 78, 79, 80, 81, 82, 83, 84, 85, 86, 87, 88, 89, 90, 91, 92, 93, 94, 95, 96]), (1, 6, []), (1, 6, []), (1, 6, []), (1, 6, []), (1, 6, []), (1, 6, []), (1, 6, []), (1, 6, []), (1, 6, []), (1, 6, []), (1, 6, []), (1, 6, []), (1, 6, []), (1, 6, []), (1, 6, []), (1, 6, []), (1, 6, []), (1, 6, []), (1, 6, []), (1, 6, []), (1, 6, []), (1, 6, []), (1, 6, []), (1, 6, []), (1, 6, []), (1, 6, []), (1, 6, []), (1, 6, []), (1, 6, []), (1, 6, []), (1, 6, []), (1, 6, []), (1, 6, []), (1, 6, []), (1, 6, []), (1, 6, []), (1, 36, []), (1, 36, []), (1, 36, []), (1, 36, []), (1, 36, []), (5, 36, [103, 104, 105, 106, 107, 108, 109, 110, 111, 112, 113, 114, 115, 116, 117, 118, 119, 120, 121, 122, 123, 124, 125, 126, 127, 128, 129, 130, 131, 132, 133, 134, 135, 136, 137, 138]), (1, 6, []), (1, 6, []), (1, 6, []), (1, 6, []), (1, 6, []), (1, 6, []), (1, 6, []), (1, 6, []), (1, 6, []), (1, 6, []), (1, 6, []), (1, 6, []), (1, 6, []), (1, 6, []), (1, 6, []), (1, 6, []), (1, 6, []), (1, 6, []), (1, 6, []), (1, 6, []), (1, 6, []), (1, 6, []), (1, 6, []), (1, 6, []), (1, 6, []), (1, 6, []), (1, 6, []), (1, 6, []), (1, 6, []), (1, 6, []), (1, 6, []), (1, 6, []), (1, 6, []), (1, 6, []), (1, 6, []), (1, 6, []), (1, 36, []), (1, 36, []), (1, 36, []), (1, 6, []), (0, 0, [144, 145, 146, 0, 0]), (1, 36, []), (1, 36, []), (1, 6, []), (4, 3, [1, 1, 1]), (1, 6, []), (0, 2, [0, 0, 150, 151, 152]), (1, 10, []), (1, 10, []), (1, 6, []), (0, 2, [0, 0, 154, 155, 156]), (1, 10, []), (1, 10, []), (1, 6, []), (0, 4, [0, 0, 158, 163]), (5, 4, [159, 160, 161, 162]), (1, 6, []), (1, 6, []), (1, 6, []), (1, 6, []), (1, 4, [])]
def TI_19 : List (Nat × Nat × Int32) := [(151, 1, 0), (151, 0, 3), (147, 1, 0), (147, 0, 3), (0, 12, 1), (0, 11, 1), (141, 4, 0), (141, 3, 0), (57, 1, 0), (57, 0, 0), (45, 5, 0), (45, 4, 0), (45, 3, 0), (45, 2, 0), (45, 1, 0), (39, 1, 0), (39, 0, 3), (35, 1, 0), (35, 0, 3), (31, 1, 0), (31, 0, 3), (27, 1, 0), (27, 0, 3), (23, 1, 0), (23, 0, 3), (19, 1, 0), (19, 0, 3), (15, 1, 0), (15, 0, 3), (11, 1, 0), (11, 0, 3), (9, 2, 0), (9, 1, 0), (5, 1, 0), (5, 0, 3), (1, 1, 0), (1, 0, 3)]
def TE_19 : List (Nat × Nat × Int32) := [(155, 1, 0), (155, 0, 0), (151, 1, 0), (151, 0, 3), (147, 1, 0), (147, 0, 3), (0, 12, 1), (0, 11, 1), (141, 4, 0), (141, 3, 0), (57, 1, 0), (57, 0, 0), (45, 5, 0), (45, 4, 0), (45, 3, 0), (45, 2, 0), (45, 1, 0), (39, 1, 0), (39, 0, 3), (35, 1, 0), (35, 0, 3), (31, 1, 0), (31, 0, 3), (27, 1, 0), (27, 0, 3), (23, 1, 0), (23, 0, 3), (19, 1, 0), (19, 0, 3), (15, 1, 0), (15, 0, 3), (11, 1, 0), (11, 0, 3), (9, 2, 0), (9, 1, 0), (5, 1, 0), (5, 0, 3), (1, 1, 0), (1, 0, 3)]
set_option maxRecDepth 100000 in
set_option maxHeartbeats 8000000 in
theorem ci_19 (l : Launch) (x : WX) : Mt l x true yX4_init cX4_init 1 none 1 6 32 [.ref (x.2.2.1 + 155)] LI_19 (tabM TI_19) (fun v lay9 M9 => v = none ∧ lay9 = LE_19 ∧ M9 = tabM TE_19) := by
  refine mt_of (L0 := [some (.ref (x.2.2.1 + 155))]) (by decide +kernel) rfl (Nat.le_of_ble_eq_true rfl) (lvA_of 0 rfl) ?_
  refine e_aload_n aX4_init_0 rfl ?_
  refine e_objI aX4_init_1 mX4_3 (by decide) (Nat.le_of_ble_eq_true rfl) ?_
  refine e_aload_n aX4_init_4 rfl ?_
  refine e_iconst (v := 0) aX4_init_5 (by decide) ?_
  refine e_putT (fs := [0, 0, 1, 1]) aX4_init_6 qX4_9 (by decide +kernel) rfl (by decide +kernel) ?_
  refine e_aload_n aX4_init_9 rfl ?_
  refine e_iconst (v := 0) aX4_init_10 (by decide) ?_
  refine e_putT (fs := [0, 0, 1, 1]) aX4_init_11 qX4_15 (by decide +kernel) rfl (fi_of _) ?_
  refine e_aload_n aX4_init_14 rfl ?_
  refine e_iconst (v := 4) aX4_init_15 (by decide) ?_
  refine e_bipush (v := 6) aX4_init_16 (by decide) ?_
  refine e_budget (ca2 := 1 + (1 + 4)) (sa2 := 4 + (4 + 4 * 6)) rfl rfl ?_
  refine e_mna (n := 156) (N := 4) (K := 6) (fs := [159, 160, 161, 162]) aX4_init_18 caX4_19 (by decide) (by decide) (by decide) (by decide) (by decide) (by decide) (by decide +kernel) (zt_all (by decide +kernel)) (mna_fs (by decide +kernel)) ?_
  refine e_putR (r := 156) (fs := [0, 0, 1, 1]) aX4_init_22 qX4_21 (fun q h => by cases h; rfl) (by decide +kernel) rfl (fun _ => ⟨rfl, rfl⟩) ?_
  refine e_aload_n aX4_init_25 rfl ?_
  refine e_iconst (v := 4) aX4_init_26 (by decide) ?_
  refine e_budget (ca2 := 0 + 1) (sa2 := 0 + 4) rfl rfl ?_
  refine e_newI (n := 161) (N := 4) aX4_init_27 (by decide) (by decide) (by decide) (by decide +kernel) (zt_at (by decide +kernel)) ?_
  refine e_putR (r := 161) (fs := [0, 0, 158, 1]) aX4_init_29 qX4_24 (fun q h => by cases h; rfl) (by decide +kernel) rfl (fun _ => ⟨rfl, rfl⟩) ?_
  exact e_ret0 aX4_init_32 rfl ⟨rfl, by decide +kernel, congrArg tabM (by decide +kernel)⟩
def LI_20 : List LC := [(0, 7, [3, 7, 11, 45, 46, 47, 49, 59, 143, 147, 148, 0, 0]), (0, 2, [0, 0, 4, 5, 6]), (1, 10, []), (1, 10, []), (1, 6, []), (0, 2, [0, 0, 8, 9, 10]), (1, 10, []), (1, 10, []), (1, 6, []), (0, 1, [12, 0, 0]), (3, 8, [13, 17, 21, 25, 29, 33, 37, 41]), (0, 2, [0, 0, 14, 15, 16]), (1, 10, []), (1, 10, []), (1, 6, []), (0, 2, [0, 0, 18, 19, 20]), (1, 10, []), (1, 10, []), (1, 6, []), (0, 2, [0, 0, 22, 23, 24]), (1, 10, []), (1, 10, []), (1, 6, []), (0, 2, [0, 0, 26, 27, 28]), (1, 10, []), (1, 10, []), (1, 6, []), (0, 2, [0, 0, 30, 31, 32]), (1, 10, []), (1, 10, []), (1, 6, []), (0, 2, [0, 0, 34, 35, 36]), (1, 10, []), (1, 10, []), (1, 6, []), (0, 2, [0, 0, 38, 39, 40]), (1, 10, []), (1, 10, []), (1, 6, []), (0, 2, [0, 0, 42, 43, 44]), (1, 10, []), (1, 10, []), (1, 6, []), (3, 2, [149, 153]), (2, 2, []), (0, 5, [48, 0, 0, 0, 0, 0]), (1, 200, []), (0, 6, [50, 51, 52]), (1, 6, []), (1, 6, []), (5, 6, [53, 54, 55, 56, 57, 58]), (1, 6, []), (1, 6, []), (1, 6, []), (1, 6, []), (1, 6, []), (1, 6, []), (0, 3, [0, 0, 60, 97, 98, 99, 100, 101, 102, 139, 140, 141, 142]), (5, 36, [61, 62, 63, 64, 65, 66, 67, 68, 69, 70, 71, 72, 73, 74, 75, 76, 77, 78, 79, 80, 81, 82, 83, 84, 85, 86, 87, 88, 89, 90, 91, 92, 93, 94, 95, 96]), (1, 6, []), (1, 6, []), (1, 6, []), (1, 6, []), (1, 6, []), (1, 6, []), (1, 6, []), (1, 6, []), (1, 6, []), (1, 6, []), (1, 6, []), (1, 6, []), (1, 6, []), (1, 6, []), (1, 6, []), (1, 6, []), (1, 6, []), (1, 6, []), (1, 6, []), (1, 6, []), (1, 6, []), (1, 6, []), (1, 6, []), (1, 6, []), (1, 6, []), (1, 6, []), (1, 6, []), (1, 6, []), (1, 6, []), (1, 6, []), (1, 6, []), (1, 6, []), (1, 6, []), (1, 6, []), (1, 6, []), (1, 6, []), (1, 36, []), (1, 36, []), (1, 36, []), (1, 36, []), (1, 36, []), (5, 36, [103, 104, 105, 106, 107, 108, 109, 110, 111, 112, 113, 114, 115, 116, 117, 118, 119, 120, 121, 122, 123, 124, 125, 126, 127, 128, 129, 130, 131, 132, 133, 134, 135, 136, 137, 138]), (1, 6, []), (1, 6, []), (1, 6, []), (1, 6, []), (1, 6, []), (1, 6, []), (1, 6, []), (1, 6, []), (1, 6, []), (1, 6, []), (1, 6, []), (1, 6, []), (1, 6, []), (1, 6, []), (1, 6, []), (1, 6, []), (1, 6, []), (1, 6, []), (1, 6, []), (1, 6, []), (1, 6, []), (1, 6, []), (1, 6, []), (1, 6, []), (1, 6, []), (1, 6, []), (1, 6, []), (1, 6, []), (1, 6, []), (1, 6, []), (1, 6, []), (1, 6, []), (1, 6, []), (1, 6, []), (1, 6, []), (1, 6, []), (1, 36, []), (1, 36, []), (1, 36, []), (1, 6, []), (0, 0, [144, 145, 146, 0, 0]), (1, 36, []), (1, 36, []), (1, 6, []), (4, 3, [157, 1, 1]), (1, 6, []), (0, 2, [0, 0, 150, 151, 152]), (1, 10, []), (1, 10, []), (1, 6, []), (0, 2, [0, 0, 154, 155, 156]), (1, 10, []), (1, 10, []), (1, 6, []), (0, 4, [0, 0, 158, 163]), (5, 4, [159, 160, 161, 162]), (1, 6, []), (1, 6, []), (1, 6, []), (1, 6, []), (1, 4, []), (0, 4, [0, 0, 1, 1])]
def LE_20 : List LC := [(0, 7, [3, 7, 11, 45, 46, 47, 49, 59, 143, 147, 148, 0, 0]), (0, 2, [0, 0, 4, 5, 6]), (1, 10, []), (1, 10, []), (1, 6, []), (0, 2, [0, 0, 8, 9, 10]), (1, 10, []), (1, 10, []), (1, 6, []), (0, 1, [12, 0, 0]), (3, 8, [13, 17, 21, 25, 29, 33, 37, 41]), (0, 2, [0, 0, 14, 15, 16]), (1, 10, []), (1, 10, []), (1, 6, []), (0, 2, [0, 0, 18, 19, 20]), (1, 10, []), (1, 10, []), (1, 6, []), (0, 2, [0, 0, 22, 23, 24]), (1, 10, []), (1, 10, []), (1, 6, []), (0, 2, [0, 0, 26, 27, 28]), (1, 10, []), (1, 10, []), (1, 6, []), (0, 2, [0, 0, 30, 31, 32]), (1, 10, []), (1, 10, []), (1, 6, []), (0, 2, [0, 0, 34, 35, 36]), (1, 10, []), (1, 10, []), (1, 6, []), (0, 2, [0, 0, 38, 39, 40]), (1, 10, []), (1, 10, []), (1, 6, []), (0, 2, [0, 0, 42, 43, 44]), (1, 10, []), (1, 10, []), (1, 6, []), (3, 2, [149, 153]), (2, 2, []), (0, 5, [48, 0, 0, 0, 0, 0]), (1, 200, []), (0, 6, [50, 51, 52]), (1, 6, []), (1, 6, []), (5, 6, [53, 54, 55, 56, 57, 58]), (1, 6, []), (1, 6, []), (1, 6, []), (1, 6, []), (1, 6, []), (1, 6, []), (0, 3, [0, 0, 60, 97, 98, 99, 100, 101, 102, 139, 140, 141, 142]), (5, 36, [61, 62, 63, 64, 65, 66, 67, 68, 69, 70, 71, 72, 73, 74, 75, 76, 77, 78, 79, 80, 81, 82, 83, 84, 85, 86, 87, 88, 89, 90, 91, 92, 93, 94, 95, 96]), (1, 6, []), (1, 6, []), (1, 6, []), (1, 6, []), (1, 6, []), (1, 6, []), (1, 6, []), (1, 6, []), (1, 6, []), (1, 6, []), (1, 6, []), (1, 6, []), (1, 6, []), (1, 6, []), (1, 6, []), (1, 6, []), (1, 6, []), (1, 6, []), (1, 6, []), (1, 6, []), (1, 6, []), (1, 6, []), (1, 6, []), (1, 6, []), (1, 6, []), (1, 6, []), (1, 6, []), (1, 6, []), (1, 6, []), (1, 6, []), (1, 6, []), (1, 6, []), (1, 6, []), (1, 6, []), (1, 6, []), (1, 6, []), (1, 36, []), (1, 36, []), (1, 36, []), (1, 36, []), (1, 36, []), (5, 36, [103, 104, 105, 106, 107, 108, 109, 110, 111, 112, 113, 114, 115, 116, 117, 118, 119, 120, 121, 122, 123, 124, 125, 126, 127, 128, 129, 130, 131, 132, 133, 134, 135, 136, 137, 138]), (1, 6, []), (1, 6, []), (1, 6, []), (1, 6, []), (1, 6, []), (1, 6, []), (1, 6, []), (1, 6, []), (1, 6, []), (1, 6, []), (1, 6, []), (1, 6, []), (1, 6, []), (1, 6, []), (1, 6, []), (1, 6, []), (1, 6, []), (1, 6, []), (1, 6, []), (1, 6, []), (1, 6, []), (1, 6, []), (1, 6, []), (1, 6, []), (1, 6, []), (1, 6, []), (1, 6, []), (1, 6, []), (1, 6, []), (1, 6, []), (1, 6, []), (1, 6, []), (1, 6, []), (1, 6, []), (1, 6, []), (1, 6, []), (1, 36, []), (1, 36, []), (1, 36, []), (1, 6, []), (0, 0, [144, 145, 146, 0, 0]), (1, 36, []), (1, 36, []), (1, 6, []), (4, 3, [157, 1, 1]), (1, 6, []), (0, 2, [0, 0, 150, 151, 152]), (1, 10, []), (1, 10, []), (1, 6, []), (0, 2, [0, 0, 154, 155, 156]), (1, 10, []), (1, 10, []), (1, 6, []), (0, 4, [0, 0, 158, 163]), (5, 4, [159, 160, 161, 162]), (1, 6, []), (1, 6, []), (1, 6, []), (1, 6, []), (1, 4, []), (0, 4, [0, 0, 165, 170]), (5, 4, [166, 167, 168, 169]), (1, 6, []), (1, 6, []), (1, 6, []), (1, 6, []), (1, 4, [])]
def TI_20 : List (Nat × Nat × Int32) := [(155, 1, 0), (155, 0, 0), (151, 1, 0), (151, 0, 3), (147, 1, 0), (147, 0, 3), (0, 12, 1), (0, 11, 1), (141, 4, 0), (141, 3, 0), (57, 1, 0), (57, 0, 0), (45, 5, 0), (45, 4, 0), (45, 3, 0), (45, 2, 0), (45, 1, 0), (39, 1, 0), (39, 0, 3), (35, 1, 0), (35, 0, 3), (31, 1, 0), (31, 0, 3), (27, 1, 0), (27, 0, 3), (23, 1, 0), (23, 0, 3), (19, 1, 0), (19, 0, 3), (15, 1, 0), (15, 0, 3), (11, 1, 0), (11, 0, 3), (9, 2, 0), (9, 1, 0), (5, 1, 0), (5, 0, 3), (1, 1, 0), (1, 0, 3)]
def TE_20 : List (Nat × Nat × Int32) := [(162, 1, 0), (162, 0, 0), (155, 1, 0), (155, 0, 0), (151, 1, 0), (151, 0, 3), (147, 1, 0), (147, 0, 3), (0, 12, 1), (0, 11, 1), (141, 4, 0), (141, 3, 0), (57, 1, 0), (57, 0, 0), (45, 5, 0), (45, 4, 0), (45, 3, 0), (45, 2, 0), (45, 1, 0), (39, 1, 0), (39, 0, 3), (35, 1, 0), (35, 0, 3), (31, 1, 0), (31, 0, 3), (27, 1, 0), (27, 0, 3), (23, 1, 0), (23, 0, 3), (19, 1, 0), (19, 0, 3), (15, 1, 0), (15, 0, 3), (11, 1, 0), (11, 0, 3), (9, 2, 0), (9, 1, 0), (5, 1, 0), (5, 0, 3), (1, 1, 0), (1, 0, 3)]
set_option maxRecDepth 100000 in
set_option maxHeartbeats 8000000 in
theorem ci_20 (l : Launch) (x : WX) : Mt l x true yX4_init cX4_init 1 none 1 6 32 [.ref (x.2.2.1 + 162)] LI_20 (tabM TI_20) (fun v lay9 M9 => v = none ∧ lay9 = LE_20 ∧ M9 = tabM TE_20) := by
  refine mt_of (L0 := [some (.ref (x.2.2.1 + 162))]) (by decide +kernel) rfl (Nat.le_of_ble_eq_true rfl) (lvA_of 0 rfl) ?_
  refine e_aload_n aX4_init_0 rfl ?_
  refine e_objI aX4_init_1 mX4_3 (by decide) (Nat.le_of_ble_eq_true rfl) ?_
  refine e_aload_n aX4_init_4 rfl ?_
  refine e_iconst (v := 0) aX4_init_5 (by decide) ?_
  refine e_putT (fs := [0, 0, 1, 1]) aX4_init_6 qX4_9 (by decide +kernel) rfl (by decide +kernel) ?_
  refine e_aload_n aX4_init_9 rfl ?_
  refine e_iconst (v := 0) aX4_init_10 (by decide) ?_
  refine e_putT (fs := [0, 0, 1, 1]) aX4_init_11 qX4_15 (by decide +kernel) rfl (fi_of _) ?_
  refine e_aload_n aX4_init_14 rfl ?_
  refine e_iconst (v := 4) aX4_init_15 (by decide) ?_
  refine e_bipush (v := 6) aX4_init_16 (by decide) ?_
  refine e_budget (ca2 := 1 + (1 + 4)) (sa2 := 4 + (4 + 4 * 6)) rfl rfl ?_
  refine e_mna (n := 163) (N := 4) (K := 6) (fs := [166, 167, 168, 169]) aX4_init_18 caX4_19 (by decide) (by decide) (by decide) (by decide) (by decide) (by decide) (by decide +kernel) (zt_all (by decide +kernel)) (mna_fs (by decide +kernel)) ?_
  refine e_putR (r := 163) (fs := [0, 0, 1, 1]) aX4_init_22 qX4_21 (fun q h => by cases h; rfl) (by decide +kernel) rfl (fun _ => ⟨rfl, rfl⟩) ?_
  refine e_aload_n aX4_init_25 rfl ?_
  refine e_iconst (v := 4) aX4_init_26 (by decide) ?_
  refine e_budget (ca2 := 0 + 1) (sa2 := 0 + 4) rfl rfl ?_
  refine e_newI (n := 168) (N := 4) aX4_init_27 (by decide) (by decide) (by decide) (by decide +kernel) (zt_at (by decide +kernel)) ?_
  refine e_putR (r := 168) (fs := [0, 0, 165, 1]) aX4_init_29 qX4_24 (fun q h => by cases h; rfl) (by decide +kernel) rfl (fun _ => ⟨rfl, rfl⟩) ?_
  exact e_ret0 aX4_init_32 rfl ⟨rfl, by decide +kernel, congrArg tabM (by decide +kernel)⟩
def LI_21 : List LC := [(0, 7, [3, 7, 11, 45, 46, 47, 49, 59, 143, 147, 148, 0, 0]), (0, 2, [0, 0, 4, 5, 6]), (1, 10, []), (1, 10, []), (1, 6, []), (0, 2, [0, 0, 8, 9, 10]), (1, 10, []), (1, 10, []), (1, 6, []), (0, 1, [12, 0, 0]), (3, 8, [13, 17, 21, 25, 29, 33, 37, 41]), (0, 2, [0, 0, 14, 15, 16]), (1, 10, []), (1, 10, []), (1, 6, []), (0, 2, [0, 0, 18, 19, 20]), (1, 10, []), (1, 10, []), (1, 6, []), (0, 2, [0, 0, 22, 23, 24]), (1, 10, []), (1, 10, []), (1, 6, []), (0, 2, [0, 0, 26, 27, 28]), (1, 10, []), (1, 10, []), (1, 6, []), (0, 2, [0, 0, 30, 31, 32]), (1, 10, []), (1, 10, []), (1, 6, []), (0, 2, [0, 0, 34, 35, 36]), (1, 10, []), (1, 10, []), (1, 6, []), (0, 2, [0, 0, 38, 39, 40]), (1, 10, []), (1, 10, []), (1, 6, []), (0, 2, [0, 0, 42, 43, 44]), (1, 10, []), (1, 10, []), (1, 6, []), (3, 2, [149, 153]), (2, 2, []), (0, 5, [48, 0, 0, 0, 0, 0]), (1, 200, []), (0, 6, [50, 51, 52]), (1, 6, []), (1, 6, []), (5, 6, [53, 54, 55, 56, 57, 58]), (1, 6, []), (1, 6, []), (1, 6, []), (1, 6, []), (1, 6, []), (1, 6, []), (0, 3, [0, 0, 60, 97, 98, 99, 100, 101, 102, 139, 140, 141, 142]), (5, 36, [61, 62, 63, 64, 65, 66, 67, 68, 69, 70, 71, 72, 73, 74, 75, 76, 77, 78, 79, 80, 81, 82, 83, 84, 85, 86, 87, 88, 89, 90, 91, 92, 93, 94, 95, 96]), (1, 6, []), (1, 6, []), (1, 6, []), (1, 6, []), (1, 6, []), (1, 6, []), (1, 6, []), (1, 6, []), (1, 6, []), (1, 6, []), (1, 6, []), (1, 6, []), (1, 6, []), (1, 6, []), (1, 6, []), (1, 6, []), (1, 6, []), (1, 6, []), (1, 6, []), (1, 6, []), (1, 6, []), (1, 6, []), (1, 6, []), (1, 6, []), (1, 6, []), (1, 6, []), (1, 6, []), (1, 6, []), (1, 6, []), (1, 6, []), (1, 6, []), (1, 6, []), (1, 6, []), (1, 6, []), (1, 6, []), (1, 6, []), (1, 36, []), (1, 36, []), (1, 36, []), (1, 36, []), (1, 36, []), (5, 36, [103, 104, 105, 106, 107, 108, 109, 110, 111, 112, 113, 114, 115, 116, 117, 118, 119, 120, 121, 122, 123, 124, 125, 126, 127, 128, 129, 130, 131, 132, 133, 134, 135, 136, 137, 138]), (1, 6, []), (1, 6, []), (1, 6, []), (1, 6, []), (1, 6, []), (1, 6, []), (1, 6, []), (1, 6, []), (1, 6, []), (1, 6, []), (1, 6, []), (1, 6, []), (1, 6, []), (1, 6, []), (1, 6, []), (1, 6, []), (1, 6, []), (1, 6, []), (1, 6, []), (1, 6, []), (1, 6, []), (1, 6, []), (1, 6, []), (1, 6, []), (1, 6, []), (1, 6, []), (1, 6, []), (1, 6, []), (1, 6, []), (1, 6, []), (1, 6, []), (1, 6, []), (1, 6, []), (1, 6, []), (1, 6, []), (1, 6, []), (1, 36, []), (1, 36, []), (1, 36, []), (1, 6, []), (0, 0, [144, 145, 146, 0, 0]), (1, 36, []), (1, 36, []), (1, 6, []), (4, 3, [157, 164, 1]), (1, 6, []), (0, 2, [0, 0, 150, 151, 152]), (1, 10, []), (1, 10, []), (1, 6, []), (0, 2, [0, 0, 154, 155, 156]), (1, 10, []), (1, 10, []), (1, 6, []), (0, 4, [0, 0, 158, 163]), (5, 4, [159, 160, 161, 162]), (1, 6, []), (1, 6, []), (1, 6, []), (1, 6, []), (1, 4, []), (0, 4, [0, 0, 165, 170]), (5, 4, [166, 167, 168, 169]), (1, 6, []), (1, 6, []), (1, 6, []), (1, 6, []), (1, 4, []), (0, 4, [0, 0, 1, 1])]
def LE_21 : List LC := [(0, 7, [3, 7, 11, 45, 46, 47, 49, 59, 143, 147, 148, 0, 0]), (0, 2, [0, 0, 4, 5, 6]), (1, 10, []), (1, 10, []), (1, 6, []), (0, 2, [0, 0, 8, 9, 10]), (1, 10, []), (1, 10, []), (1, 6, []), (0, 1, [12, 0, 0]), (3, 8, [13, 17, 21, 25, 29, 33, 37, 41]), (0, 2, [0, 0, 14, 15, 16]), (1, 10, []), (1, 10, []), (1, 6, []), (0, 2, [0, 0, 18, 19, 20]), (1, 10, []), (1, 10, []), (1, 6, []), (0, 2, [0, 0, 22, 23, 24]), (1, 10, []), (1, 10, []), (1, 6, []), (0, 2, [0, 0, 26, 27, 28]), (1, 10, []), (1, 10, []), (1, 6, []), (0, 2, [0, 0, 30, 31, 32]), (1, 10, []), (1, 10, []), (1, 6, []), (0, 2, [0, 0, 34, 35, 36]), (1, 10, []), (1, 10, []), (1, 6, []), (0, 2, [0, 0, 38, 39, 40]), (1, 10, []), (1, 10, []), (1, 6, []), (0, 2, [0, 0, 42, 43, 44]), (1, 10, []), (1, 10, []), (1, 6, []), (3, 2, [149, 153]), (2, 2, []), (0, 5, [48, 0, 0, 0, 0, 0]), (1, 200, []), (0, 6, [50, 51, 52]), (1, 6, []), (1, 6, []), (5, 6, [53, 54, 55, 56, 57, 58]), (1, 6, []), (1, 6, []), (1, 6, []), (1, 6, []), (1, 6, []), (1, 6, []), (0, 3, [0, 0, 60, 97, 98, 99, 100, 101, 102, 139, 140, 141, 142]), (5, 36, [61, 62, 63, 64, 65, 66, 67, 68, 69, 70, 71, 72, 73, 74, 75, 76, 77, 78, 79, 80, 81, 82, 83, 84, 85, 86, 87, 88, 89, 90, 91, 92, 93, 94, 95, 96]), (1, 6, []), (1, 6, []), (1, 6, []), (1, 6, []), (1, 6, []), (1, 6, []), (1, 6, []), (1, 6, []), (1, 6, []), (1, 6, []), (1, 6, []), (1, 6, []), (1, 6, []), (1, 6, []), (1, 6, []), (1, 6, []), (1, 6, []), (1, 6, []), (1, 6, []), (1, 6, []), (1, 6, []), (1, 6, []), (1, 6, []), (1, 6, []), (1, 6, []), (1, 6, []), (1, 6, []), (1, 6, []), (1, 6, []), (1, 6, []), (1, 6, []), (1, 6, []), (1, 6, []), (1, 6, []), (1, 6, []), (1, 6, []), (1, 36, []), (1, 36, []), (1, 36, []), (1, 36, []), (1, 36, []), (5, 36, [103, 104, 105, 106, 107, 108, 109, 110, 111, 112, 113, 114, 115, 116, 117, 118, 119, 120, 121, 122, 123, 124, 125, 126, 127, 128, 129, 130, 131, 132, 133, 134, 135, 136, 137, 138]), (1, 6, []), (1, 6, []), (1, 6, []), (1, 6, []), (1, 6, []), (1, 6, []), (1, 6, []), (1, 6, []), (1, 6, []), (1, 6, []), (1, 6, []), (1, 6, []), (1, 6, []), (1, 6, []), (1, 6, []), (1, 6, []), (1, 6, []), (1, 6, []), (1, 6, []), (1, 6, []), (1, 6, []), (1, 6, []), (1, 6, []), (1, 6, []), (1, 6, []), (1, 6, []), (1, 6, []), (1, 6, []), (1, 6, []), (1, 6, []), (1, 6, []), (1, 6, []), (1, 6, []), (1, 6, []), (1, 6, []), (1, 6, []), (1, 36, []), (1, 36, []), (1, 36, []), (1, 6, []), (0, 0, [144, 145, 146, 0, 0]), (1, 36, []), (1, 36, []), (1, 6, []), (4, 3, [157, 164, 1]), (1, 6, []), (0, 2, [0, 0, 150, 151, 152]), (1, 10, []), (1, 10, []), (1, 6, []), (0, 2, [0, 0, 154, 155, 156]), (1, 10, []), (1, 10, []), (1, 6, []), (0, 4, [0, 0, 158, 163]), (5, 4, [159, 160, 161, 162]), (1, 6, []), (1, 6, []), (1, 6, []), (1, 6, []), (1, 4, []), (0, 4, [0, 0, 165, 170]), (5, 4, [166, 167, 168, 169]), (1, 6, []), (1, 6, []), (1, 6, []), (1, 6, []), (1, 4, []), (0, 4, [0, 0, 172, 177]), (5, 4, [173, 174, 175, 176]), (1, 6, []), (1, 6, []), (1, 6, []), (1, 6, []), (1, 4, [])]
def TI_21 : List (Nat × Nat × Int32) := [(162, 1, 0), (162, 0, 0), (155, 1, 0), (155, 0, 0), (151, 1, 0), (151, 0, 3), (147, 1, 0), (147, 0, 3), (0, 12, 1), (0, 11, 1), (141, 4, 0), (141, 3, 0), (57, 1, 0), (57, 0, 0), (45, 5, 0), (45, 4, 0), (45, 3, 0), (45, 2, 0), (45, 1, 0), (39, 1, 0), (39, 0, 3), (35, 1, 0), (35, 0, 3), (31, 1, 0), (31, 0, 3), (27, 1, 0), (27, 0, 3), (23, 1, 0), (23, 0, 3), (19, 1, 0), (19, 0, 3), (15, 1, 0), (15, 0, 3), (11, 1, 0), (11, 0, 3), (9, 2, 0), (9, 1, 0), (5, 1, 0), (5, 0, 3), (1, 1, 0), (1, 0, 3)]
def TE_21 : List (Nat × Nat × Int32) := [(169, 1, 0), (169, 0, 0), (162, 1, 0), (162, 0, 0), (155, 1, 0), (155, 0, 0), (151, 1, 0), (151, 0, 3), (147, 1, 0), (147, 0, 3), (0, 12, 1), (0, 11, 1), (141, 4, 0), (141, 3, 0), (57, 1, 0), (57, 0, 0), (45, 5, 0), (45, 4, 0), (45, 3, 0), (45, 2, 0), (45, 1, 0), (39, 1, 0), (39, 0, 3), (35, 1, 0), (35, 0, 3), (31, 1, 0), (31, 0, 3), (27, 1, 0), (27, 0, 3), (23, 1, 0), (23, 0, 3), (19, 1, 0), (19, 0, 3), (15, 1, 0), (15, 0, 3), (11, 1, 0), (11, 0, 3), (9, 2, 0), (9, 1, 0), (5, 1, 0), (5, 0, 3), (1, 1, 0), (1, 0, 3)]
set_option maxRecDepth 100000 in
set_option maxHeartbeats 8000000 in
theorem ci_21 (l : Launch) (x : WX) : Mt l x true yX4_init cX4_init 1 none 1 6 32 [.ref (x.2.2.1 + 169)] LI_21 (tabM TI_21) (fun v lay9 M9 => v = none ∧ lay9 = LE_21 ∧ M9 = tabM TE_21) := by
  refine mt_of (L0 := [some (.ref (x.2.2.1 + 169))]) (by decide +kernel) rfl (Nat.le_of_ble_eq_true rfl) (lvA_of 0 rfl) ?_
  refine e_aload_n aX4_init_0 rfl ?_
  refine e_objI aX4_init_1 mX4_3 (by decide) (Nat.le_of_ble_eq_true rfl) ?_
  refine e_aload_n aX4_init_4 rfl ?_
  refine e_iconst (v := 0) aX4_init_5 (by decide) ?_
  refine e_putT (fs := [0, 0, 1, 1]) aX4_init_6 qX4_9 (by decide +kernel) rfl (by decide +kernel) ?_
  refine e_aload_n aX4_init_9 rfl ?_
  refine e_iconst (v := 0) aX4_init_10 (by decide) ?_
  refine e_putT (fs := [0, 0, 1, 1]) aX4_init_11 qX4_15 (by decide +kernel) rfl (fi_of _) ?_
  refine e_aload_n aX4_init_14 rfl ?_
  refine e_iconst (v := 4) aX4_init_15 (by decide) ?_
  refine e_bipush (v := 6) aX4_init_16 (by decide) ?_
  refine e_budget (ca2 := 1 + (1 + 4)) (sa2 := 4 + (4 + 4 * 6)) rfl rfl ?_
  refine e_mna (n := 170) (N := 4) (K := 6) (fs := [173, 174, 175, 176]) aX4_init_18 caX4_19 (by decide) (by decide) (by decide) (by decide) (by decide) (by decide) (by decide +kernel) (zt_all (by decide +kernel)) (mna_fs (by decide +kernel)) ?_
  refine e_putR (r := 170) (fs := [0, 0, 1, 1]) aX4_init_22 qX4_21 (fun q h => by cases h; rfl) (by decide +kernel) rfl (fun _ => ⟨rfl, rfl⟩) ?_
  refine e_aload_n aX4_init_25 rfl ?_
  refine e_iconst (v := 4) aX4_init_26 (by decide) ?_
  refine e_budget (ca2 := 0 + 1) (sa2 := 0 + 4) rfl rfl ?_
  refine e_newI (n := 175) (N := 4) aX4_init_27 (by decide) (by decide) (by decide) (by decide +kernel) (zt_at (by decide +kernel)) ?_
  refine e_putR (r := 175) (fs := [0, 0, 172, 1]) aX4_init_29 qX4_24 (fun q h => by cases h; rfl) (by decide +kernel) rfl (fun _ => ⟨rfl, rfl⟩) ?_
  exact e_ret0 aX4_init_32 rfl ⟨rfl, by decide +kernel, congrArg tabM (by decide +kernel)⟩
def LI_1 : List LC := [(0, 7, [1, 1, 1, 1, 1, 1, 1, 1, 1, 1, 1, 0, 0])]
def LE_1 : List LC := [(0, 7, [3, 7, 11, 45, 46, 47, 49, 59, 143, 147, 148, 0, 0]), (0, 2, [0, 0, 4, 5, 6]), (1, 10, []), (1, 10, []), (1, 6, []), (0, 2, [0, 0, 8, 9, 10]), (1, 10, []), (1, 10, []), (1, 6, []), (0, 1, [12, 0, 0]), (3, 8, [13, 17, 21, 25, 29, 33, 37, 41]), (0, 2, [0, 0, 14, 15, 16]), (1, 10, []), (1, 10, []), (1, 6, []), (0, 2, [0, 0, 18, 19, 20]), (1, 10, []), (1, 10, []), (1, 6, []), (0, 2, [0, 0, 22, 23, 24]), (1, 10, []), (1, 10, []), (1, 6, []), (0, 2, [0, 0, 26, 27, 28]), (1, 10, []), (1, 10, []), (1, 6, []), (0, 2, [0, 0, 30, 31, 32]), (1, 10, []), (1, 10, []), (1, 6, []), (0, 2, [0, 0, 34, 35, 36]), (1, 10, []), (1, 10, []), (1, 6, []), (0, 2, [0, 0, 38, 39, 40]), (1, 10, []), (1, 10, []), (1, 6, []), (0, 2, [0, 0, 42, 43, 44]), (1, 10, []), (1, 10, []), (1, 6, []), (3, 2, [149, 153]), (2, 2, []), (0, 5, [48, 0, 0, 0, 0, 0]), (1, 200, []), (0, 6, [50, 51, 52]), (1, 6, []), (1, 6, []), (5, 6, [53, 54, 55, 56, 57, 58]), (1, 6, []), (1, 6, []), (1, 6, []), (1, 6, []), (1, 6, []), (1, 6, []), (0, 3, [0, 0, 60, 97, 98, 99, 100, 101, 102, 139, 140, 141, 142]), (5, 36, [61, 62, 63, 64, 65, 66, 67, 68, 69, 70, 71, 72, 73, 74, 75, 76, 77, 78, 79, 80, 81, 82, 83, 84, 85, 86, 87, 88, 89, 90, 91, 92, 93, 94, 95, 96]), (1, 6, []), (1, 6, []), (1, 6, []), (1, 6, []), (1, 6, []), (1, 6, []), (1, 6, []), (1, 6, []), (1, 6, []), (1, 6, []), (1, 6, []), (1, 6, []), (1, 6, []), (1, 6, []), (1, 6, []), (1, 6, []), (1, 6, []), (1, 6, []), (1, 6, []), (1, 6, []), (1, 6, []), (1, 6, []), (1, 6, []), (1, 6, []), (1, 6, []), (1, 6, []), (1, 6, []), (1, 6, []), (1, 6, []), (1, 6, []), (1, 6, []), (1, 6, []), (1, 6, []), (1, 6, []), (1, 6, []), (1, 6, []), (1, 36, []), (1, 36, []), (1, 36, []), (1, 36, []), (1, 36, []), (5, 36, [103, 104, 105, 106, 107, 108, 109, 110, 111, 112, 113, 114, 115, 116, 117, 118, 119, 120, 121, 122, 123, 124, 125, 126, 127, 128, 129, 130, 131, 132, 133, 134, 135, 136, 137, 138]), (1, 6, []), (1, 6, []), (1, 6, []), (1, 6, []), (1, 6, []), (1, 6, []), (1, 6, []), (1, 6, []), (1, 6, []), (1, 6, []), (1, 6, []), (1, 6, []), (1, 6, []), (1, 6, []), (1, 6, []), (1, 6, []), (1, 6, []), (1, 6, []), (1, 6, []), (1, 6, []), (1, 6, []), (1, 6, []), (1, 6, []), (1, 6, []), (1, 6, []), (1, 6, []), (1, 6, []), (1, 6, []), (1, 6, []), (1, 6, []), (1, 6, []), (1, 6, []), (1, 6, []), (1, 6, []), (1, 6, []), (1, 6, []), (1, 36, []), (1, 36, []), (1, 36, []), (1, 6, []), (0, 0, [144, 145, 146, 0, 0]), (1, 36, []), (1, 36, []), (1, 6, []), (4, 3, [157, 164, 171]), (1, 6, []), (0, 2, [0, 0, 150, 151, 152]), (1, 10, []), (1, 10, []), (1, 6, []), (0, 2, [0, 0, 154, 155, 156]), (1, 10, []), (1, 10, []), (1, 6, []), (0, 4, [0, 0, 158, 163]), (5, 4, [159, 160, 161, 162]), (1, 6, []), (1, 6, []), (1, 6, []), (1, 6, []), (1, 4, []), (0, 4, [0, 0, 165, 170]), (5, 4, [166, 167, 168, 169]), (1, 6, []), (1, 6, []), (1, 6, []), (1, 6, []), (1, 4, []), (0, 4, [0, 0, 172, 177]), (5, 4, [173, 174, 175, 176]), (1, 6, []), (1, 6, []), (1, 6, []), (1, 6, []), (1, 4, [])]
def TI_1 : List (Nat × Nat × Int32) := []
def TE_1 : List (Nat × Nat × Int32) := [(169, 1, 0), (169, 0, 0), (162, 1, 0), (162, 0, 0), (155, 1, 0), (155, 0, 0), (151, 1, 0), (151, 0, 3), (147, 1, 0), (147, 0, 3), (0, 12, 1), (0, 11, 1), (141, 4, 0), (141, 3, 0), (57, 1, 0), (57, 0, 0), (45, 5, 0), (45, 4, 0), (45, 3, 0), (45, 2, 0), (45, 1, 0), (39, 1, 0), (39, 0, 3), (35, 1, 0), (35, 0, 3), (31, 1, 0), (31, 0, 3), (27, 1, 0), (27, 0, 3), (23, 1, 0), (23, 0, 3), (19, 1, 0), (19, 0, 3), (15, 1, 0), (15, 0, 3), (11, 1, 0), (11, 0, 3), (9, 2, 0), (9, 1, 0), (5, 1, 0), (5, 0, 3), (1, 1, 0), (1, 0, 3)]
set_option maxRecDepth 100000 in
set_option maxHeartbeats 8000000 in
theorem ci_1 (l : Launch) (x : WX) : Mt l x true yX7_init cX7_init 2 none 3 175 1661 [.ref (x.2.2.1 + 0)] LI_1 (tabM TI_1) (fun v lay9 M9 => v = none ∧ lay9 = LE_1 ∧ M9 = tabM TE_1) := by
  refine mt_of (L0 := [some (.ref (x.2.2.1 + 0)), none]) (by decide +kernel) rfl (Nat.le_of_ble_eq_true rfl) (lvA_of 1 rfl) ?_
  refine e_aload_n aX7_init_0 rfl ?_
  refine e_objI aX7_init_1 mX7_1 (by decide) (Nat.le_of_ble_eq_true rfl) ?_
  refine e_aload_n aX7_init_4 rfl ?_
  refine e_budget (ca2 := 174 + 1) (sa2 := 1656 + 5) rfl rfl ?_
  refine e_newO (ci := 2) (n := 1) (fs := [0, 0, 1, 1, 1]) aX7_init_5 rfl uw_X2 tyX2_ok clX7_7 (by decide +kernel) (by decide) (by decide +kernel) (zt_at (by decide +kernel)) ?_
  refine e_dupR aX7_init_8 ?_
  refine e_norm (lay2 := LI_2) (T2 := TI_2) (by decide +kernel) (by decide +kernel) ?_
  refine e_budget (ca2 := 171 + 3) (sa2 := 1630 + 26) rfl rfl ?_
  refine e_callIN (rest := [.ref (x.2.2.1 + 1), .ref (x.2.2.1 + 0)]) (As := []) (b := 1) aX7_init_9 co_X2_init mX7_9 (ci_2 l x) rfl ⟨by decide, by decide⟩ (Nat.le_of_ble_eq_true rfl) rfl (fun v lay9 M9 hp => ?_)
  obtain ⟨rfl, rfl, rfl⟩ := hp
  refine e_putR (r := 1) (fs := [1, 1, 1, 1, 1, 1, 1, 1, 1, 1, 1, 0, 0]) aX7_init_12 qX7_10 (fun q h => by cases h; rfl) (by decide +kernel) rfl (fun _ => ⟨rfl, rfl⟩) ?_
  refine e_aload_n aX7_init_15 rfl ?_
  refine e_budget (ca2 := 170 + 1) (sa2 := 1625 + 5) rfl rfl ?_
  refine e_newO (ci := 2) (n := 5) (fs := [0, 0, 1, 1, 1]) aX7_init_16 rfl uw_X2 tyX2_ok clX7_7 (by decide +kernel) (by decide) (by decide +kernel) (zt_at (by decide +kernel)) ?_
  refine e_dupR aX7_init_19 ?_
  refine e_norm (lay2 := LI_3) (T2 := TI_3) (by decide +kernel) (by decide +kernel) ?_
  refine e_budget (ca2 := 167 + 3) (sa2 := 1599 + 26) rfl rfl ?_
  refine e_callIN (rest := [.ref (x.2.2.1 + 5), .ref (x.2.2.1 + 0)]) (As := []) (b := 5) aX7_init_20 co_X2_init mX7_9 (ci_3 l x) rfl ⟨by decide, by decide⟩ (Nat.le_of_ble_eq_true rfl) rfl (fun v lay9 M9 hp => ?_)
  obtain ⟨rfl, rfl, rfl⟩ := hp
  refine e_putR (r := 5) (fs := [3, 1, 1, 1, 1, 1, 1, 1, 1, 1, 1, 0, 0]) aX7_init_23 qX7_16 (fun q h => by cases h; rfl) (by decide +kernel) rfl (fun _ => ⟨rfl, rfl⟩) ?_
  refine e_aload_n aX7_init_26 rfl ?_
  refine e_budget (ca2 := 166 + 1) (sa2 := 1596 + 3) rfl rfl ?_
  refine e_newO (ci := 1) (n := 9) (fs := [1, 0, 0]) aX7_init_27 rfl uw_X1 tyX1_ok clX7_19 (by decide +kernel) (by decide) (by decide +kernel) (zt_at (by decide +kernel)) ?_
  refine e_dupR aX7_init_30 ?_
  refine e_norm (lay2 := LI_4) (T2 := TI_4) (by decide +kernel) (by decide +kernel) ?_
  refine e_budget (ca2 := 133 + 33) (sa2 := 1340 + 256) rfl rfl ?_
  refine e_callI (rest := [.ref (x.2.2.1 + 9), .ref (x.2.2.1 + 0)]) (As := []) (b := 9) aX7_init_31 co_X1_init mX7_21 (ci_4 l x) rfl ⟨by decide, by decide⟩ (Nat.le_of_ble_eq_true rfl) rfl (fun v lay9 M9 hp => ?_)
  obtain ⟨rfl, rfl, rfl⟩ := hp
  refine e_putR (r := 9) (fs := [3, 7, 1, 1, 1, 1, 1, 1, 1, 1, 1, 0, 0]) aX7_init_34 qX7_22 (fun q h => by cases h; rfl) (by decide +kernel) rfl (fun _ => ⟨rfl, rfl⟩) ?_
  refine e_aload_n aX7_init_37 rfl ?_
  refine e_iconst (v := 2) aX7_init_38 (by decide) ?_
  refine e_budget (ca2 := 132 + 1) (sa2 := 1338 + 2) rfl rfl ?_
  refine e_newQ (t := 0) (n := 43) (N := 2) (fs := [1, 1]) aX7_init_39 caX7_7 ⟨by decide, fun _ => rfl⟩ (by decide) (by decide) (by decide) (by decide) (by decide +kernel) ?_
  refine e_putR (r := 43) (fs := [3, 7, 11, 1, 1, 1, 1, 1, 1, 1, 1, 0, 0]) aX7_init_42 qX7_26 (fun q h => by cases h; rfl) (by decide +kernel) rfl (fun _ => ⟨rfl, rfl⟩) ?_
  refine e_aload_n aX7_init_45 rfl ?_
  refine e_iconst (v := 2) aX7_init_46 (by decide) ?_
  refine e_budget (ca2 := 131 + 1) (sa2 := 1336 + 2) rfl rfl ?_
  refine e_newZ (n := 44) (N := 2) aX7_init_47 (by decide) (by decide) (by decide) (by decide +kernel) (zt_at (by decide +kernel)) ?_
  refine e_putR (r := 44) (fs := [3, 7, 11, 45, 1, 1, 1, 1, 1, 1, 1, 0, 0]) aX7_init_49 qX7_30 (fun q h => by cases h; rfl) (by decide +kernel) rfl (fun _ => ⟨rfl, rfl⟩) ?_
  refine e_aload_n aX7_init_52 rfl ?_
  refine e_budget (ca2 := 130 + 1) (sa2 := 1330 + 6) rfl rfl ?_
  refine e_newO (ci := 5) (n := 45) (fs := [1, 0, 0, 0, 0, 0]) aX7_init_53 rfl uw_X5 tyX5_ok clX7_34 (by decide +kernel) (by decide) (by decide +kernel) (zt_at (by decide +kernel)) ?_
  refine e_dupR aX7_init_56 ?_
  refine e_norm (lay2 := LI_13) (T2 := TI_13) (by decide +kernel) (by decide +kernel) ?_
  refine e_budget (ca2 := 129 + 1) (sa2 := 1130 + 200) rfl rfl ?_
  refine e_callIN (rest := [.ref (x.2.2.1 + 45), .ref (x.2.2.1 + 0)]) (As := []) (b := 45) aX7_init_57 co_X5_init mX7_36 (ci_13 l x) rfl ⟨by decide, by decide⟩ (Nat.le_of_ble_eq_true rfl) rfl (fun v lay9 M9 hp => ?_)
  obtain ⟨rfl, rfl, rfl⟩ := hp
  refine e_putR (r := 45) (fs := [3, 7, 11, 45, 46, 1, 1, 1, 1, 1, 1, 0, 0]) aX7_init_60 qX7_37 (fun q h => by cases h; rfl) (by decide +kernel) rfl (fun _ => ⟨rfl, rfl⟩) ?_
  refine e_aload_n aX7_init_63 rfl ?_
  refine e_budget (ca2 := 128 + 1) (sa2 := 1127 + 3) rfl rfl ?_
  refine e_newO (ci := 6) (n := 47) (fs := [1, 1, 1]) aX7_init_64 rfl uw_X6 tyX6_ok clX7_41 (by decide +kernel) (by decide) (by decide +kernel) (zt_at (by decide +kernel)) ?_
  refine e_dupR aX7_init_67 ?_
  refine e_norm (lay2 := LI_14) (T2 := TI_14) (by decide +kernel) (by decide +kernel) ?_
  refine e_budget (ca2 := 119 + 9) (sa2 := 1073 + 54) rfl rfl ?_
  refine e_callIN (rest := [.ref (x.2.2.1 + 47), .ref (x.2.2.1 + 0)]) (As := []) (b := 47) aX7_init_68 co_X6_init mX7_43 (ci_14 l x) rfl ⟨by decide, by decide⟩ (Nat.le_of_ble_eq_true rfl) rfl (fun v lay9 M9 hp => ?_)
  obtain ⟨rfl, rfl, rfl⟩ := hp
  refine e_putR (r := 47) (fs := [3, 7, 11, 45, 46, 47, 1, 1, 1, 1, 1, 0, 0]) aX7_init_71 qX7_44 (fun q h => by cases h; rfl) (by decide +kernel) rfl (fun _ => ⟨rfl, rfl⟩) ?_
  refine e_aload_n aX7_init_74 rfl ?_
  refine e_budget (ca2 := 118 + 1) (sa2 := 1060 + 13) rfl rfl ?_
  refine e_newO (ci := 3) (n := 57) (fs := [0, 0, 1, 1, 1, 1, 1, 1, 1, 1, 1, 1, 1]) aX7_init_75 rfl uw_X3 tyX3_ok clX7_48 (by decide +kernel) (by decide) (by decide +kernel) (zt_at (by decide +kernel)) ?_
  refine e_dupR aX7_init_78 ?_
  refine e_norm (lay2 := LI_15) (T2 := TI_15) (by decide +kernel) (by decide +kernel) ?_
  refine e_budget (ca2 := 35 + 83) (sa2 := 262 + 798) rfl rfl ?_
  refine e_callIN (rest := [.ref (x.2.2.1 + 57), .ref (x.2.2.1 + 0)]) (As := []) (b := 57) aX7_init_79 co_X3_init mX7_50 (ci_15 l x) rfl ⟨by decide, by decide⟩ (Nat.le_of_ble_eq_true rfl) rfl (fun v lay9 M9 hp => ?_)
  obtain ⟨rfl, rfl, rfl⟩ := hp
  refine e_putR (r := 57) (fs := [3, 7, 11, 45, 46, 47, 49, 1, 1, 1, 1, 0, 0]) aX7_init_82 qX7_51 (fun q h => by cases h; rfl) (by decide +kernel) rfl (fun _ => ⟨rfl, rfl⟩) ?_
  refine e_aload_n aX7_init_85 rfl ?_
  refine e_budget (ca2 := 34 + 1) (sa2 := 257 + 5) rfl rfl ?_
  refine e_newO (ci := 0) (n := 141) (fs := [1, 1, 1, 0, 0]) aX7_init_86 rfl uw_X0 tyX0_ok clX7_55 (by decide +kernel) (by decide) (by decide +kernel) (zt_at (by decide +kernel)) ?_
  refine e_dupR aX7_init_89 ?_
  refine e_norm (lay2 := LI_16) (T2 := TI_16) (by decide +kernel) (by decide +kernel) ?_
  refine e_budget (ca2 := 31 + 3) (sa2 := 179 + 78) rfl rfl ?_
  refine e_callIN (rest := [.ref (x.2.2.1 + 141), .ref (x.2.2.1 + 0)]) (As := []) (b := 141) aX7_init_90 co_X0_init mX7_57 (ci_16 l x) rfl ⟨by decide, by decide⟩ (Nat.le_of_ble_eq_true rfl) rfl (fun v lay9 M9 hp => ?_)
  obtain ⟨rfl, rfl, rfl⟩ := hp
  refine e_putR (r := 141) (fs := [3, 7, 11, 45, 46, 47, 49, 59, 1, 1, 1, 0, 0]) aX7_init_93 qX7_58 (fun q h => by cases h; rfl) (by decide +kernel) rfl (fun _ => ⟨rfl, rfl⟩) ?_
  refine e_aload_n aX7_init_96 rfl ?_
  refine e_iconst (v := 3) aX7_init_97 (by decide) ?_
  refine e_budget (ca2 := 30 + 1) (sa2 := 176 + 3) rfl rfl ?_
  refine e_newQ (t := 1) (n := 145) (N := 3) (fs := [1, 1, 1]) aX7_init_98 caX7_62 ⟨by decide, fun _ => rfl⟩ (by decide) (by decide) (by decide) (by decide) (by decide +kernel) ?_
  refine e_putR (r := 145) (fs := [3, 7, 11, 45, 46, 47, 49, 59, 143, 1, 1, 0, 0]) aX7_init_101 qX7_64 (fun q h => by cases h; rfl) (by decide +kernel) rfl (fun _ => ⟨rfl, rfl⟩) ?_
  refine e_aload_n aX7_init_104 rfl ?_
  refine e_bipush (v := 6) aX7_init_105 (by decide) ?_
  refine e_budget (ca2 := 29 + 1) (sa2 := 170 + 6) rfl rfl ?_
  refine e_newI (n := 146) (N := 6) aX7_init_107 (by decide) (by decide) (by decide) (by decide +kernel) (zt_at (by decide +kernel)) ?_
  refine e_putR (r := 146) (fs := [3, 7, 11, 45, 46, 47, 49, 59, 143, 147, 1, 0, 0]) aX7_init_109 qX7_68 (fun q h => by cases h; rfl) (by decide +kernel) rfl (fun _ => ⟨rfl, rfl⟩) ?_
  refine e_aload_n aX7_init_112 rfl ?_
  refine e_iconst (v := 1) aX7_init_113 (by decide) ?_
  refine e_putT (fs := [3, 7, 11, 45, 46, 47, 49, 59, 143, 147, 148, 0, 0]) aX7_init_114 qX7_72 (by decide +kernel) rfl (by decide +kernel) ?_
  refine e_aload_n aX7_init_117 rfl ?_
  refine e_iconst (v := 1) aX7_init_118 (by decide) ?_
  refine e_putT (fs := [3, 7, 11, 45, 46, 47, 49, 59, 143, 147, 148, 0, 0]) aX7_init_119 qX7_76 (by decide +kernel) rfl (by decide +kernel) ?_
  refine e_iconst (v := 0) aX7_init_122 (by decide) ?_
  refine e_istore_n (L2 := [some (.ref (x.2.2.1 + 0)), some (.int 0)]) aX7_init_123 ⟨by decide, rfl⟩ rfl ?_
  refine e_iload_n aX7_init_124 rfl ?_
  refine e_iconst (v := 2) aX7_init_125 (by decide) ?_
  refine e_icmp_ge (tgt := 148) aX7_init_126 (by decide) (fun q => absurd q (by decide)) (fun _ => ?_)
  refine e_aload_n aX7_init_129 rfl ?_
  refine e_getR (r := 43) (ci := 7) (fs := [3, 7, 11, 45, 46, 47, 49, 59, 143, 147, 148, 0, 0]) aX7_init_130 fX7_26 (by decide +kernel) rfl ?_
  refine e_iload_n aX7_init_133 rfl ?_
  refine e_budget (ca2 := 28 + 1) (sa2 := 165 + 5) rfl rfl ?_
  refine e_newO (ci := 2) (n := 147) (fs := [0, 0, 1, 1, 1]) aX7_init_134 rfl uw_X2 tyX2_ok clX7_7 (by decide +kernel) (by decide) (by decide +kernel) (zt_at (by decide +kernel)) ?_
  refine e_dupR aX7_init_137 ?_
  refine e_norm (lay2 := LI_17) (T2 := TI_17) (by decide +kernel) (by decide +kernel) ?_
  refine e_budget (ca2 := 25 + 3) (sa2 := 139 + 26) rfl rfl ?_
  refine e_callIN (rest := [.ref (x.2.2.1 + 147), .int 0, .ref (x.2.2.1 + 43)]) (As := []) (b := 147) aX7_init_138 co_X2_init mX7_9 (ci_17 l x) rfl ⟨by decide, by decide⟩ (Nat.le_of_ble_eq_true rfl) rfl (fun v lay9 M9 hp => ?_)
  obtain ⟨rfl, rfl, rfl⟩ := hp
  refine e_aast (t := 0) (n := 2) (fs := [1, 1]) (fv := [0, 0, 150, 151, 152]) (j := 0) aX7_init_141 (by decide +kernel) (by decide +kernel) (show vwCl[2]? = some (RX2, TX2, 5) from rfl) (fun _ => rfl) (by decide) (by decide) (by decide) ?_
  refine e_iinc (v := 1) (L2 := [some (.ref (x.2.2.1 + 0)), some (.int 1)]) aX7_init_142 rfl (by decide) ⟨by decide, rfl⟩ rfl ?_
  refine e_goto (tgt := 124) aX7_init_145 (by decide) ?_
  refine e_iload_n aX7_init_124 rfl ?_
  refine e_iconst (v := 2) aX7_init_125 (by decide) ?_
  refine e_icmp_ge (tgt := 148) aX7_init_126 (by decide) (fun q => absurd q (by decide)) (fun _ => ?_)
  refine e_aload_n aX7_init_129 rfl ?_
  refine e_getR (r := 43) (ci := 7) (fs := [3, 7, 11, 45, 46, 47, 49, 59, 143, 147, 148, 0, 0]) aX7_init_130 fX7_26 (by decide +kernel) rfl ?_
  refine e_iload_n aX7_init_133 rfl ?_
  refine e_budget (ca2 := 24 + 1) (sa2 := 134 + 5) rfl rfl ?_
  refine e_newO (ci := 2) (n := 151) (fs := [0, 0, 1, 1, 1]) aX7_init_134 rfl uw_X2 tyX2_ok clX7_7 (by decide +kernel) (by decide) (by decide +kernel) (zt_at (by decide +kernel)) ?_
  refine e_dupR aX7_init_137 ?_
  refine e_norm (lay2 := LI_18) (T2 := TI_18) (by decide +kernel) (by decide +kernel) ?_
  refine e_budget (ca2 := 21 + 3) (sa2 := 108 + 26) rfl rfl ?_
  refine e_callIN (rest := [.ref (x.2.2.1 + 151), .int 1, .ref (x.2.2.1 + 43)]) (As := []) (b := 151) aX7_init_138 co_X2_init mX7_9 (ci_18 l x) rfl ⟨by decide, by decide⟩ (Nat.le_of_ble_eq_true rfl) rfl (fun v lay9 M9 hp => ?_)
  obtain ⟨rfl, rfl, rfl⟩ := hp
  refine e_aast (t := 0) (n := 2) (fs := [149, 1]) (fv := [0, 0, 154, 155, 156]) (j := 1) aX7_init_141 (by decide +kernel) (by decide +kernel) (show vwCl[2]? = some (RX2, TX2, 5) from rfl) (fun _ => rfl) (by decide) (by decide) (by decide) ?_
  refine e_iinc (v := 2) (L2 := [some (.ref (x.2.2.1 + 0)), some (.int 2)]) aX7_init_142 rfl (by decide) ⟨by decide, rfl⟩ rfl ?_
  refine e_goto (tgt := 124) aX7_init_145 (by decide) ?_
  refine e_iload_n aX7_init_124 rfl ?_
  refine e_iconst (v := 2) aX7_init_125 (by decide) ?_
  refine e_icmp_ge (tgt := 148) aX7_init_126 (by decide) (fun _ => ?_) (fun q => absurd (by decide) q)
  refine e_iconst (v := 0) aX7_init_148 (by decide) ?_
  refine e_istore_n (L2 := [some (.ref (x.2.2.1 + 0)), some (.int 0)]) aX7_init_149 ⟨by decide, rfl⟩ rfl ?_
  refine e_iload_n aX7_init_150 rfl ?_
  refine e_iconst (v := 3) aX7_init_151 (by decide) ?_
  refine e_icmp_ge (tgt := 174) aX7_init_152 (by decide) (fun q => absurd q (by decide)) (fun _ => ?_)
  refine e_aload_n aX7_init_155 rfl ?_
  refine e_getR (r := 145) (ci := 7) (fs := [3, 7, 11, 45, 46, 47, 49, 59, 143, 147, 148, 0, 0]) aX7_init_156 fX7_64 (by decide +kernel) rfl ?_
  refine e_iload_n aX7_init_159 rfl ?_
  refine e_budget (ca2 := 20 + 1) (sa2 := 104 + 4) rfl rfl ?_
  refine e_newO (ci := 4) (n := 155) (fs := [0, 0, 1, 1]) aX7_init_160 rfl uw_X4 tyX4_ok clX7_62 (by decide +kernel) (by decide) (by decide +kernel) (zt_at (by decide +kernel)) ?_
  refine e_dupR aX7_init_163 ?_
  refine e_norm (lay2 := LI_19) (T2 := TI_19) (by decide +kernel) (by decide +kernel) ?_
  refine e_budget (ca2 := 14 + 6) (sa2 := 72 + 32) rfl rfl ?_
  refine e_callIN (rest := [.ref (x.2.2.1 + 155), .int 0, .ref (x.2.2.1 + 145)]) (As := []) (b := 155) aX7_init_164 co_X4_init mX7_79 (ci_19 l x) rfl ⟨by decide, by decide⟩ (Nat.le_of_ble_eq_true rfl) rfl (fun v lay9 M9 hp => ?_)
  obtain ⟨rfl, rfl, rfl⟩ := hp
  refine e_aast (t := 1) (n := 3) (fs := [1, 1, 1]) (fv := [0, 0, 158, 163]) (j := 0) aX7_init_167 (by decide +kernel) (by decide +kernel) (show vwCl[4]? = some (RX4, TX4, 4) from rfl) (fun _ => rfl) (by decide) (by decide) (by decide) ?_
  refine e_iinc (v := 1) (L2 := [some (.ref (x.2.2.1 + 0)), some (.int 1)]) aX7_init_168 rfl (by decide) ⟨by decide, rfl⟩ rfl ?_
  refine e_goto (tgt := 150) aX7_init_171 (by decide) ?_
  refine e_iload_n aX7_init_150 rfl ?_
  refine e_iconst (v := 3) aX7_init_151 (by decide) ?_
  refine e_icmp_ge (tgt := 174) aX7_init_152 (by decide) (fun q => absurd q (by decide)) (fun _ => ?_)
  refine e_aload_n aX7_init_155 rfl ?_
  refine e_getR (r := 145) (ci := 7) (fs := [3, 7, 11, 45, 46, 47, 49, 59, 143, 147, 148, 0, 0]) aX7_init_156 fX7_64 (by decide +kernel) rfl ?_
  refine e_iload_n aX7_init_159 rfl ?_
  refine e_budget (ca2 := 13 + 1) (sa2 := 68 + 4) rfl rfl ?_
  refine e_newO (ci := 4) (n := 162) (fs := [0, 0, 1, 1]) aX7_init_160 rfl uw_X4 tyX4_ok clX7_62 (by decide +kernel) (by decide) (by decide +kernel) (zt_at (by decide +kernel)) ?_
  refine e_dupR aX7_init_163 ?_
  refine e_norm (lay2 := LI_20) (T2 := TI_20) (by decide +kernel) (by decide +kernel) ?_
  refine e_budget (ca2 := 7 + 6) (sa2 := 36 + 32) rfl rfl ?_
  refine e_callIN (rest := [.ref (x.2.2.1 + 162), .int 1, .ref (x.2.2.1 + 145)]) (As := []) (b := 162) aX7_init_164 co_X4_init mX7_79 (ci_20 l x) rfl ⟨by decide, by decide⟩ (Nat.le_of_ble_eq_true rfl) rfl (fun v lay9 M9 hp => ?_)
  obtain ⟨rfl, rfl, rfl⟩ := hp
  refine e_aast (t := 1) (n := 3) (fs := [157, 1, 1]) (fv := [0, 0, 165, 170]) (j := 1) aX7_init_167 (by decide +kernel) (by decide +kernel) (show vwCl[4]? = some (RX4, TX4, 4) from rfl) (fun _ => rfl) (by decide) (by decide) (by decide) ?_
  refine e_iinc (v := 2) (L2 := [some (.ref (x.2.2.1 + 0)), some (.int 2)]) aX7_init_168 rfl (by decide) ⟨by decide, rfl⟩ rfl ?_
  refine e_goto (tgt := 150) aX7_init_171 (by decide) ?_
  refine e_iload_n aX7_init_150 rfl ?_
  refine e_iconst (v := 3) aX7_init_151 (by decide) ?_
  refine e_icmp_ge (tgt := 174) aX7_init_152 (by decide) (fun q => absurd q (by decide)) (fun _ => ?_)
  refine e_aload_n aX7_init_155 rfl ?_
  refine e_getR (r := 145) (ci := 7) (fs := [3, 7, 11, 45, 46, 47, 49, 59, 143, 147, 148, 0, 0]) aX7_init_156 fX7_64 (by decide +kernel) rfl ?_
  refine e_iload_n aX7_init_159 rfl ?_
  refine e_budget (ca2 := 6 + 1) (sa2 := 32 + 4) rfl rfl ?_
  refine e_newO (ci := 4) (n := 169) (fs := [0, 0, 1, 1]) aX7_init_160 rfl uw_X4 tyX4_ok clX7_62 (by decide +kernel) (by decide) (by decide +kernel) (zt_at (by decide +kernel)) ?_
  refine e_dupR aX7_init_163 ?_
  refine e_norm (lay2 := LI_21) (T2 := TI_21) (by decide +kernel) (by decide +kernel) ?_
  refine e_budget (ca2 := 0 + 6) (sa2 := 0 + 32) rfl rfl ?_
  refine e_callIN (rest := [.ref (x.2.2.1 + 169), .int 2, .ref (x.2.2.1 + 145)]) (As := []) (b := 169) aX7_init_164 co_X4_init mX7_79 (ci_21 l x) rfl ⟨by decide, by decide⟩ (Nat.le_of_ble_eq_true rfl) rfl (fun v lay9 M9 hp => ?_)
  obtain ⟨rfl, rfl, rfl⟩ := hp
  refine e_aast (t := 1) (n := 3) (fs := [157, 164, 1]) (fv := [0, 0, 172, 177]) (j := 2) aX7_init_167 (by decide +kernel) (by decide +kernel) (show vwCl[4]? = some (RX4, TX4, 4) from rfl) (fun _ => rfl) (by decide) (by decide) (by decide) ?_
  refine e_iinc (v := 3) (L2 := [some (.ref (x.2.2.1 + 0)), some (.int 3)]) aX7_init_168 rfl (by decide) ⟨by decide, rfl⟩ rfl ?_
  refine e_goto (tgt := 150) aX7_init_171 (by decide) ?_
  refine e_iload_n aX7_init_150 rfl ?_
  refine e_iconst (v := 3) aX7_init_151 (by decide) ?_
  refine e_icmp_ge (tgt := 174) aX7_init_152 (by decide) (fun _ => ?_) (fun q => absurd (by decide) q)
  exact e_ret0 aX7_init_174 rfl ⟨rfl, by decide +kernel, congrArg tabM (by decide +kernel)⟩
def LI_22 : List LC := [(0, 7, [3, 7, 11, 45, 46, 47, 49, 59, 143, 147, 148, 0, 0]), (0, 2, [0, 0, 4, 5, 6]), (1, 10, []), (1, 10, []), (1, 6, []), (0, 2, [0, 0, 8, 9, 10]), (1, 10, []), (1, 10, []), (1, 6, []), (0, 1, [12, 0, 0]), (3, 8, [13, 17, 21, 25, 29, 33, 37, 41]), (0, 2, [0, 0, 14, 15, 16]), (1, 10, []), (1, 10, []), (1, 6, []), (0, 2, [0, 0, 18, 19, 20]), (1, 10, []), (1, 10, []), (1, 6, []), (0, 2, [0, 0, 22, 23, 24]), (1, 10, []), (1, 10, []), (1, 6, []), (0, 2, [0, 0, 26, 27, 28]), (1, 10, []), (1, 10, []), (1, 6, []), (0, 2, [0, 0, 30, 31, 32]), (1, 10, []), (1, 10, []), (1, 6, []), (0, 2, [0, 0, 34, 35, 36]), (1, 10, []), (1, 10, []), (1, 6, []), (0, 2, [0, 0, 38, 39, 40]), (1, 10, []), (1, 10, []), (1, 6, []), (0, 2, [0, 0, 42, 43, 44]), (1, 10, []), (1, 10, []), (1, 6, []), (3, 2, [149, 153]), (2, 2, []), (0, 5, [48, 0, 0, 0, 0, 0]), (1, 200, []), (0, 6, [50, 51, 52]), (1, 6, []), (1, 6, []), (5, 6, [53, 54, 55, 56, 57, 58]), (1, 6, []), (1, 6, []), (1, 6, []), (1, 6, []), (1, 6, []), (1, 6, []), (0, 3, [0, 0, 60, 97, 98, 99, 100, 101, 102, 139, 140, 141, 142]), (5, 36, [61, 62, 63, 64, 65, 66, 67, 68, 69, 70, 71, 72, 73, 74, 75, 76, 77, 78, 79, 80, 81, 82, 83, 84, 85, 86, 87, 88, 89, 90, 91, 92, 93, 94, 95, 96]), (1, 6, []), (1, 6, []), (1, 6, []), (1, 6, []), (1, 6, []), (1, 6, []), (1, 6, []), (1, 6, []), (1, 6, []), (1, 6, []), (1, 6, []), (1, 6, []), (1, 6, []), (1, 6, []), (1, 6, []), (1, 6, []), (1, 6, []), (1, 6, []), (1, 6, []), (1, 6, []), (1, 6, []), (1, 6, []), (1, 6, []), (1, 6, []), (1, 6, []), (1, 6, []), (1, 6, []), (1, 6, []), (1, 6, []), (1, 6, []), (1, 6, []), (1, 6, []), (1, 6, []), (1, 6, []), (1, 6, []), (1, 6, []), (1, 36, []), (1, 36, []), (1, 36, []), (1, 36, []), (1, 36, []), (5, 36, [103, 104, 105, 106, 107, 108, 109, 110, 111, 112, 113, 114, 115, 116, 117, 118, 119, 120, 121, 122, 123, 124, 125, 126, 127, 128, 129, 130, 131, 132, 133, 134, 135, 136, 137, 138]), (1, 6, []), (1, 6, []), (1, 6, []), (1, 6, []), (1, 6, []), (1, 6, []), (1, 6, []), (1, 6, []), (1, 6, []), (1, 6, []), (1, 6, []), (1, 6, []), (1, 6, []), (1, 6, []), (1, 6, []), (1, 6, []), (1, 6, []), (1, 6, []), (1, 6, []), (1, 6, []), (1, 6, []), (1, 6, []), (1, 6, []), (1, 6, []), (1, 6, []), (1, 6, []), (1, 6, []), (1, 6, []), (1, 6, []), (1, 6, []), (1, 6, []), (1, 6, []), (1, 6, []), (1, 6, []), (1, 6, []), (1, 6, []), (1, 36, []), (1, 36, []), (1, 36, []), (1, 6, []), (0, 0, [144, 145, 146, 0, 0]), (1, 36, []), (1, 36, []), (1, 6, []), (4, 3, [157, 164, 171]), (1, 6, []), (0, 2, [0, 0, 150, 151, 152]), (1, 10, []), (1, 10, []), (1, 6, []), (0, 2, [0, 0, 154, 155, 156]), (1, 10, []), (1, 10, []), (1, 6, []), (0, 4, [0, 0, 158, 163]), (5, 4, [159, 160, 161, 162]), (1, 6, []), (1, 6, []), (1, 6, []), (1, 6, []), (1, 4, []), (0, 4, [0, 0, 165, 170]), (5, 4, [166, 167, 168, 169]), (1, 6, []), (1, 6, []), (1, 6, []), (1, 6, []), (1, 4, []), (0, 4, [0, 0, 172, 177]), (5, 4, [173, 174, 175, 176]), (1, 6, []), (1, 6, []), (1, 6, []), (1, 6, []), (1, 4, []), (0, 8, [0, 1, 0, 1, 1, 0, 1, 1, 1, 1, 1, 1, 0, 0, 1, 0, 0, 0, 0, 1, 1, 0, 0, 1, 1, 1, 1, 1, 1, 1])]
def LE_22 : List LC := [(0, 7, [3, 7, 11, 45, 46, 47, 49, 59, 143, 147, 148, 0, 0]), (0, 2, [0, 0, 4, 5, 6]), (1, 10, []), (1, 10, []), (1, 6, []), (0, 2, [0, 0, 8, 9, 10]), (1, 10, []), (1, 10, []), (1, 6, []), (0, 1, [12, 0, 0]), (3, 8, [13, 17, 21, 25, 29, 33, 37, 41]), (0, 2, [0, 0, 14, 15, 16]), (1, 10, []), (1, 10, []), (1, 6, []), (0, 2, [0, 0, 18, 19, 20]), (1, 10, []), (1, 10, []), (1, 6, []), (0, 2, [0, 0, 22, 23, 24]), (1, 10, []), (1, 10, []), (1, 6, []), (0, 2, [0, 0, 26, 27, 28]), (1, 10, []), (1, 10, []), (1, 6, []), (0, 2, [0, 0, 30, 31, 32]), (1, 10, []), (1, 10, []), (1, 6, []), (0, 2, [0, 0, 34, 35, 36]), (1, 10, []), (1, 10, []), (1, 6, []), (0, 2, [0, 0, 38, 39, 40]), (1, 10, []), (1, 10, []), (1, 6, []), (0, 2, [0, 0, 42, 43, 44]), (1, 10, []), (1, 10, []), (1, 6, []), (3, 2, [149, 153]), (2, 2, []), (0, 5, [48, 0, 0, 0, 0, 0]), (1, 200, []), (0, 6, [50, 51, 52]), (1, 6, []), (1, 6, []), (5, 6, [53, 54, 55, 56, 57, 58]), (1, 6, []), (1, 6, []), (1, 6, []), (1, 6, []), (1, 6, []), (1, 6, []), (0, 3, [0, 0, 60, 97, 98, 99, 100, 101, 102, 139, 140, 141, 142]), (5, 36, [61, 62, 63, 64, 65, 66, 67, 68, 69, 70, 71, 72, 73, 74, 75, 76, 77, 78, 79, 80, 81, 82, 83, 84, 85, 86, 87, 88, 89, 90, 91, 92, 93, 94, 95, 96]), (1, 6, []), (1, 6, []), (1, 6, []), (1, 6, []), (1, 6, []), (1, 6, []), (1, 6, []), (1, 6, []), (1, 6, []), (1, 6, []), (1, 6, []), (1, 6, []), (1, 6, []), (1, 6, []), (1, 6, []), (1, 6, []), (1, 6, []), (1, 6, []), (1, 6, []), (1, 6, []), (1, 6, []), (1, 6, []), (1, 6, []), (1, 6, []), (1, 6, []), (1, 6, []), (1, 6, []), (1, 6, []), (1, 6, []), (1, 6, []), (1, 6, []), (1, 6, []), (1, 6, []), (1, 6, []), (1, 6, []), (1, 6, []), (1, 36, []), (1, 36, []), (1, 36, []), (1, 36, []), (1, 36, []), (5, 36, [103, 104, 105, 106, 107, 108, 109, 110, 111, 112, 113, 114, 115, 116, 117, 118, 119, 120, 121, 122, 123, 124, 125, 126, 127, 128, 129, 130, 131, 132, 133, 134, 135, 136, 137, 138]), (1, 6, []), (1, 6, []), (1, 6, []), (1, 6, []), (1, 6, []), (1, 6, []), (1, 6, []), (1, 6, []), (1, 6, []), (1, 6, []), (1, 6, []), (1, 6, []), (1, 6, []), (1, 6, []), (1, 6, []), (1, 6, []), (1, 6, []), (1, 6, []), (1, 6, []), (1, 6, []), (1, 6, []), (1, 6, []), (1, 6, []), (1, 6, []), (1, 6, []), (1, 6, []), (1, 6, []), (1, 6, []), (1, 6, []), (1, 6, []), (1, 6, []), (1, 6, []), (1, 6, []), (1, 6, []), (1, 6, []), (1, 6, []), (1, 36, []), (1, 36, []), (1, 36, []), (1, 6, []), (0, 0, [144, 145, 146, 0, 0]), (1, 36, []), (1, 36, []), (1, 6, []), (4, 3, [157, 164, 171]), (1, 6, []), (0, 2, [0, 0, 150, 151, 152]), (1, 10, []), (1, 10, []), (1, 6, []), (0, 2, [0, 0, 154, 155, 156]), (1, 10, []), (1, 10, []), (1, 6, []), (0, 4, [0, 0, 158, 163]), (5, 4, [159, 160, 161, 162]), (1, 6, []), (1, 6, []), (1, 6, []), (1, 6, []), (1, 4, []), (0, 4, [0, 0, 165, 170]), (5, 4, [166, 167, 168, 169]), (1, 6, []), (1, 6, []), (1, 6, []), (1, 6, []), (1, 4, []), (0, 4, [0, 0, 172, 177]), (5, 4, [173, 174, 175, 176]), (1, 6, []), (1, 6, []), (1, 6, []), (1, 6, []), (1, 4, []), (0, 8, [0, 179, 0, 180, 181, 0, 182, 183, 184, 185, 186, 187, 0, 0, 188, 0, 0, 0, 0, 189, 190, 0, 0, 191, 192, 193, 194, 195, 196, 197]), (1, 297, []), (2, 2, []), (1, 200, []), (1, 3, []), (1, 12, []), (1, 72, []), (1, 36, []), (1, 216, []), (1, 36, []), (1, 36, []), (1, 10, []), (1, 10, []), (1, 6, []), (1, 18, []), (1, 36, []), (1, 6, []), (1, 6, []), (1, 36, []), (1, 6, [])]
def TI_22 : List (Nat × Nat × Int32) := [(169, 1, 0), (169, 0, 0), (162, 1, 0), (162, 0, 0), (155, 1, 0), (155, 0, 0), (151, 1, 0), (151, 0, 3), (147, 1, 0), (147, 0, 3), (0, 12, 1), (0, 11, 1), (141, 4, 0), (141, 3, 0), (57, 1, 0), (57, 0, 0), (45, 5, 0), (45, 4, 0), (45, 3, 0), (45, 2, 0), (45, 1, 0), (39, 1, 0), (39, 0, 3), (35, 1, 0), (35, 0, 3), (31, 1, 0), (31, 0, 3), (27, 1, 0), (27, 0, 3), (23, 1, 0), (23, 0, 3), (19, 1, 0), (19, 0, 3), (15, 1, 0), (15, 0, 3), (11, 1, 0), (11, 0, 3), (9, 2, 0), (9, 1, 0), (5, 1, 0), (5, 0, 3), (1, 1, 0), (1, 0, 3)]
def TE_22 : List (Nat × Nat × Int32) := [(190, 17, 0), (190, 16, 0), (190, 15, 0), (190, 14, 119), (190, 13, 111), (190, 12, 114), (190, 11, 0), (190, 10, 119), (190, 9, 111), (190, 8, 114), (190, 7, 114), (190, 6, 97), (190, 5, 114), (190, 4, 101), (190, 3, 118), (190, 2, 105), (190, 1, 117), (190, 0, 113), (186, 35, 1), (186, 34, 0), (186, 33, 0), (186, 32, 0), (186, 31, 0), (186, 30, 0), (186, 29, 0), (186, 28, 1), (186, 27, 0), (186, 26, 0), (186, 25, 0), (186, 24, 0), (186, 23, 0), (186, 22, 0), (186, 21, 1), (186, 20, 0), (186, 19, 0), (186, 18, 0), (186, 17, 0), (186, 16, 0), (186, 15, 0), (186, 14, 1), (186, 13, 0), (186, 12, 0), (186, 11, 0), (186, 10, 0), (186, 9, 0), (186, 8, 0), (186, 7, 1), (186, 6, 0), (186, 5, 0), (186, 4, 0), (186, 3, 0), (186, 2, 0), (186, 1, 0), (186, 0, 1), (180, 2, (-1)), (180, 1, (-1)), (180, 0, (-1)), (176, 0, 3), (169, 1, 0), (169, 0, 0), (162, 1, 0), (162, 0, 0), (155, 1, 0), (155, 0, 0), (151, 1, 0), (151, 0, 3), (147, 1, 0), (147, 0, 3), (0, 12, 1), (0, 11, 1), (141, 4, 0), (141, 3, 0), (57, 1, 0), (57, 0, 0), (45, 5, 0), (45, 4, 0), (45, 3, 0), (45, 2, 0), (45, 1, 0), (39, 1, 0), (39, 0, 3), (35, 1, 0), (35, 0, 3), (31, 1, 0), (31, 0, 3), (27, 1, 0), (27, 0, 3), (23, 1, 0), (23, 0, 3), (19, 1, 0), (19, 0, 3), (15, 1, 0), (15, 0, 3), (11, 1, 0), (11, 0, 3), (9, 2, 0), (9, 1, 0), (5, 1, 0), (5, 0, 3), (1, 1, 0), (1, 0, 3)]
set_option maxRecDepth 100000 in
set_option maxHeartbeats 8000000 in
theorem ci_22 (l : Launch) (x : WX) : Mt l x true yX8_init cX8_init 1 none 1 19 1044 [.ref (x.2.2.1 + 176)] LI_22 (tabM TI_22) (fun v lay9 M9 => v = none ∧ lay9 = LE_22 ∧ M9 = tabM TE_22) := by
  refine mt_of (L0 := [some (.ref (x.2.2.1 + 176))]) (by decide +kernel) rfl (Nat.le_of_ble_eq_true rfl) (lvA_of 0 rfl) ?_
  refine e_aload_n aX8_init_0 rfl ?_
  refine e_objI aX8_init_1 mX8_1 (by decide) (Nat.le_of_ble_eq_true rfl) ?_
  refine e_aload_n aX8_init_4 rfl ?_
  refine e_iconst (v := 3) aX8_init_5 (by decide) ?_
  refine e_putT (fs := [0, 1, 0, 1, 1, 0, 1, 1, 1, 1, 1, 1, 0, 0, 1, 0, 0, 0, 0, 1, 1, 0, 0, 1, 1, 1, 1, 1, 1, 1]) aX8_init_6 qX8_7 (by decide +kernel) rfl (fi_of _) ?_
  refine e_aload_n aX8_init_9 rfl ?_
  refine e_sipush (v := 297) aX8_init_10 (by decide) ?_
  refine e_budget (ca2 := 18 + 1) (sa2 := 747 + 297) rfl rfl ?_
  refine e_newI (n := 177) (N := 297) aX8_init_13 (by decide) (by decide) (by decide) (by decide +kernel) (zt_at (by decide +kernel)) ?_
  refine e_putR (r := 177) (fs := [0, 1, 0, 1, 1, 0, 1, 1, 1, 1, 1, 1, 0, 0, 1, 0, 0, 0, 0, 1, 1, 0, 0, 1, 1, 1, 1, 1, 1, 1]) aX8_init_15 qX8_13 (fun q h => by cases h; rfl) (by decide +kernel) rfl (fun _ => ⟨rfl, rfl⟩) ?_
  refine e_aload_n aX8_init_18 rfl ?_
  refine e_iconst (v := 2) aX8_init_19 (by decide) ?_
  refine e_budget (ca2 := 17 + 1) (sa2 := 745 + 2) rfl rfl ?_
  refine e_newZ (n := 178) (N := 2) aX8_init_20 (by decide) (by decide) (by decide) (by decide +kernel) (zt_at (by decide +kernel)) ?_
  refine e_putR (r := 178) (fs := [0, 179, 0, 1, 1, 0, 1, 1, 1, 1, 1, 1, 0, 0, 1, 0, 0, 0, 0, 1, 1, 0, 0, 1, 1, 1, 1, 1, 1, 1]) aX8_init_22 qX8_17 (fun q h => by cases h; rfl) (by decide +kernel) rfl (fun _ => ⟨rfl, rfl⟩) ?_
  refine e_aload_n aX8_init_25 rfl ?_
  refine e_sipush (v := 200) aX8_init_26 (by decide) ?_
  refine e_budget (ca2 := 16 + 1) (sa2 := 545 + 200) rfl rfl ?_
  refine e_newI (n := 179) (N := 200) aX8_init_29 (by decide) (by decide) (by decide) (by decide +kernel) (zt_at (by decide +kernel)) ?_
  refine e_putR (r := 179) (fs := [0, 179, 0, 180, 1, 0, 1, 1, 1, 1, 1, 1, 0, 0, 1, 0, 0, 0, 0, 1, 1, 0, 0, 1, 1, 1, 1, 1, 1, 1]) aX8_init_31 qX8_21 (fun q h => by cases h; rfl) (by decide +kernel) rfl (fun _ => ⟨rfl, rfl⟩) ?_
  refine e_aload_n aX8_init_34 rfl ?_
  refine e_iconst (v := 3) aX8_init_35 (by decide) ?_
  refine e_budget (ca2 := 15 + 1) (sa2 := 542 + 3) rfl rfl ?_
  refine e_newI (n := 180) (N := 3) aX8_init_36 (by decide) (by decide) (by decide) (by decide +kernel) (zt_at (by decide +kernel)) ?_
  refine e_dupR aX8_init_38 ?_
  refine e_iconst (v := 0) aX8_init_39 (by decide) ?_
  refine e_iconst (v := (-1)) aX8_init_40 (by decide) ?_
  refine e_istT (n := 3) (fs := []) (j := 0) aX8_init_41 (by decide +kernel) (by decide) (by decide) ?_
  refine e_dupR aX8_init_42 ?_
  refine e_iconst (v := 1) aX8_init_43 (by decide) ?_
  refine e_iconst (v := (-1)) aX8_init_44 (by decide) ?_
  refine e_istT (n := 3) (fs := []) (j := 1) aX8_init_45 (by decide +kernel) (by decide) (by decide) ?_
  refine e_dupR aX8_init_46 ?_
  refine e_iconst (v := 2) aX8_init_47 (by decide) ?_
  refine e_iconst (v := (-1)) aX8_init_48 (by decide) ?_
  refine e_istT (n := 3) (fs := []) (j := 2) aX8_init_49 (by decide +kernel) (by decide) (by decide) ?_
  refine e_putR (r := 180) (fs := [0, 179, 0, 180, 181, 0, 1, 1, 1, 1, 1, 1, 0, 0, 1, 0, 0, 0, 0, 1, 1, 0, 0, 1, 1, 1, 1, 1, 1, 1]) aX8_init_50 qX8_24 (fun q h => by cases h; rfl) (by decide +kernel) rfl (fun _ => ⟨rfl, rfl⟩) ?_
  refine e_aload_n aX8_init_53 rfl ?_
  refine e_bipush (v := 12) aX8_init_54 (by decide) ?_
  refine e_budget (ca2 := 14 + 1) (sa2 := 530 + 12) rfl rfl ?_
  refine e_newI (n := 181) (N := 12) aX8_init_56 (by decide) (by decide) (by decide) (by decide +kernel) (zt_at (by decide +kernel)) ?_
  refine e_putR (r := 181) (fs := [0, 179, 0, 180, 181, 0, 182, 1, 1, 1, 1, 1, 0, 0, 1, 0, 0, 0, 0, 1, 1, 0, 0, 1, 1, 1, 1, 1, 1, 1]) aX8_init_58 qX8_27 (fun q h => by cases h; rfl) (by decide +kernel) rfl (fun _ => ⟨rfl, rfl⟩) ?_
  refine e_aload_n aX8_init_61 rfl ?_
  refine e_bipush (v := 72) aX8_init_62 (by decide) ?_
  refine e_budget (ca2 := 13 + 1) (sa2 := 458 + 72) rfl rfl ?_
  refine e_newI (n := 182) (N := 72) aX8_init_64 (by decide) (by decide) (by decide) (by decide +kernel) (zt_at (by decide +kernel)) ?_
  refine e_putR (r := 182) (fs := [0, 179, 0, 180, 181, 0, 182, 183, 1, 1, 1, 1, 0, 0, 1, 0, 0, 0, 0, 1, 1, 0, 0, 1, 1, 1, 1, 1, 1, 1]) aX8_init_66 qX8_30 (fun q h => by cases h; rfl) (by decide +kernel) rfl (fun _ => ⟨rfl, rfl⟩) ?_
  refine e_aload_n aX8_init_69 rfl ?_
  refine e_bipush (v := 36) aX8_init_70 (by decide) ?_
  refine e_budget (ca2 := 12 + 1) (sa2 := 422 + 36) rfl rfl ?_
  refine e_newI (n := 183) (N := 36) aX8_init_72 (by decide) (by decide) (by decide) (by decide +kernel) (zt_at (by decide +kernel)) ?_
  refine e_putR (r := 183) (fs := [0, 179, 0, 180, 181, 0, 182, 183, 184, 1, 1, 1, 0, 0, 1, 0, 0, 0, 0, 1, 1, 0, 0, 1, 1, 1, 1, 1, 1, 1]) aX8_init_74 qX8_33 (fun q h => by cases h; rfl) (by decide +kernel) rfl (fun _ => ⟨rfl, rfl⟩) ?_
  refine e_aload_n aX8_init_77 rfl ?_
  refine e_sipush (v := 216) aX8_init_78 (by decide) ?_
  refine e_budget (ca2 := 11 + 1) (sa2 := 206 + 216) rfl rfl ?_
  refine e_newI (n := 184) (N := 216) aX8_init_81 (by decide) (by decide) (by decide) (by decide +kernel) (zt_at (by decide +kernel)) ?_
  refine e_putR (r := 184) (fs := [0, 179, 0, 180, 181, 0, 182, 183, 184, 185, 1, 1, 0, 0, 1, 0, 0, 0, 0, 1, 1, 0, 0, 1, 1, 1, 1, 1, 1, 1]) aX8_init_83 qX8_36 (fun q h => by cases h; rfl) (by decide +kernel) rfl (fun _ => ⟨rfl, rfl⟩) ?_
  refine e_aload_n aX8_init_86 rfl ?_
  refine e_bipush (v := 36) aX8_init_87 (by decide) ?_
  refine e_budget (ca2 := 10 + 1) (sa2 := 170 + 36) rfl rfl ?_
  refine e_newI (n := 185) (N := 36) aX8_init_89 (by decide) (by decide) (by decide) (by decide +kernel) (zt_at (by decide +kernel)) ?_
  refine e_putR (r := 185) (fs := [0, 179, 0, 180, 181, 0, 182, 183, 184, 185, 186, 1, 0, 0, 1, 0, 0, 0, 0, 1, 1, 0, 0, 1, 1, 1, 1, 1, 1, 1]) aX8_init_91 qX8_39 (fun q h => by cases h; rfl) (by decide +kernel) rfl (fun _ => ⟨rfl, rfl⟩) ?_
  refine e_aload_n aX8_init_94 rfl ?_
  refine e_bipush (v := 36) aX8_init_95 (by decide) ?_
  refine e_budget (ca2 := 9 + 1) (sa2 := 134 + 36) rfl rfl ?_
  refine e_newI (n := 186) (N := 36) aX8_init_97 (by decide) (by decide) (by decide) (by decide +kernel) (zt_at (by decide +kernel)) ?_
  refine e_dupR aX8_init_99 ?_
  refine e_iconst (v := 0) aX8_init_100 (by decide) ?_
  refine e_iconst (v := 1) aX8_init_101 (by decide) ?_
  refine e_istT (n := 36) (fs := []) (j := 0) aX8_init_102 (by decide +kernel) (by decide) (by decide) ?_
  refine e_dupR aX8_init_103 ?_
  refine e_iconst (v := 1) aX8_init_104 (by decide) ?_
  refine e_iconst (v := 0) aX8_init_105 (by decide) ?_
  refine e_istT (n := 36) (fs := []) (j := 1) aX8_init_106 (by decide +kernel) (by decide) (by decide) ?_
  refine e_dupR aX8_init_107 ?_
  refine e_iconst (v := 2) aX8_init_108 (by decide) ?_
  refine e_iconst (v := 0) aX8_init_109 (by decide) ?_
  refine e_istT (n := 36) (fs := []) (j := 2) aX8_init_110 (by decide +kernel) (by decide) (by decide) ?_
  refine e_dupR aX8_init_111 ?_
  refine e_iconst (v := 3) aX8_init_112 (by decide) ?_
  refine e_iconst (v := 0) aX8_init_113 (by decide) ?_
  refine e_istT (n := 36) (fs := []) (j := 3) aX8_init_114 (by decide +kernel) (by decide) (by decide) ?_
  refine e_dupR aX8_init_115 ?_
  refine e_iconst (v := 4) aX8_init_116 (by decide) ?_
  refine e_iconst (v := 0) aX8_init_117 (by decide) ?_
  refine e_istT (n := 36) (fs := []) (j := 4) aX8_init_118 (by decide +kernel) (by decide) (by decide) ?_
  refine e_dupR aX8_init_119 ?_
  refine e_iconst (v := 5) aX8_init_120 (by decide) ?_
  refine e_iconst (v := 0) aX8_init_121 (by decide) ?_
  refine e_istT (n := 36) (fs := []) (j := 5) aX8_init_122 (by decide +kernel) (by decide) (by decide) ?_
  refine e_dupR aX8_init_123 ?_
  refine e_bipush (v := 6) aX8_init_124 (by decide) ?_
  refine e_iconst (v := 0) aX8_init_126 (by decide) ?_
  refine e_istT (n := 36) (fs := []) (j := 6) aX8_init_127 (by decide +kernel) (by decide) (by decide) ?_
  refine e_dupR aX8_init_128 ?_
  refine e_bipush (v := 7) aX8_init_129 (by decide) ?_
  refine e_iconst (v := 1) aX8_init_131 (by decide) ?_
  refine e_istT (n := 36) (fs := []) (j := 7) aX8_init_132 (by decide +kernel) (by decide) (by decide) ?_
  refine e_dupR aX8_init_133 ?_
  refine e_bipush (v := 8) aX8_init_134 (by decide) ?_
  refine e_iconst (v := 0) aX8_init_136 (by decide) ?_
  refine e_istT (n := 36) (fs := []) (j := 8) aX8_init_137 (by decide +kernel) (by decide) (by decide) ?_
  refine e_dupR aX8_init_138 ?_
  refine e_bipush (v := 9) aX8_init_139 (by decide) ?_
  refine e_iconst (v := 0) aX8_init_141 (by decide) ?_
  refine e_istT (n := 36) (fs := []) (j := 9) aX8_init_142 (by decide +kernel) (by decide) (by decide) ?_
  refine e_dupR aX8_init_143 ?_
  refine e_bipush (v := 10) aX8_init_144 (by decide) ?_
  refine e_iconst (v := 0) aX8_init_146 (by decide) ?_
  refine e_istT (n := 36) (fs := []) (j := 10) aX8_init_147 (by decide +kernel) (by decide) (by decide) ?_
  refine e_dupR aX8_init_148 ?_
  refine e_bipush (v := 11) aX8_init_149 (by decide) ?_
  refine e_iconst (v := 0) aX8_init_151 (by decide) ?_
  refine e_istT (n := 36) (fs := []) (j := 11) aX8_init_152 (by decide +kernel) (by decide) (by decide) ?_
  refine e_dupR aX8_init_153 ?_
  refine e_bipush (v := 12) aX8_init_154 (by decide) ?_
  refine e_iconst (v := 0) aX8_init_156 (by decide) ?_
  refine e_istT (n := 36) (fs := []) (j := 12) aX8_init_157 (by decide +kernel) (by decide) (by decide) ?_
  refine e_dupR aX8_init_158 ?_
  refine e_bipush (v := 13) aX8_init_159 (by decide) ?_
  refine e_iconst (v := 0) aX8_init_161 (by decide) ?_
  refine e_istT (n := 36) (fs := []) (j := 13) aX8_init_162 (by decide +kernel) (by decide) (by decide) ?_
  refine e_dupR aX8_init_163 ?_
  refine e_bipush (v := 14) aX8_init_164 (by decide) ?_
  refine e_iconst (v := 1) aX8_init_166 (by decide) ?_
  refine e_istT (n := 36) (fs := []) (j := 14) aX8_init_167 (by decide +kernel) (by decide) (by decide) ?_
  refine e_dupR aX8_init_168 ?_
  refine e_bipush (v := 15) aX8_init_169 (by decide) ?_
  refine e_iconst (v := 0) aX8_init_171 (by decide) ?_
  refine e_istT (n := 36) (fs := []) (j := 15) aX8_init_172 (by decide +kernel) (by decide) (by decide) ?_
  refine e_dupR aX8_init_173 ?_
  refine e_bipush (v := 16) aX8_init_174 (by decide) ?_
  refine e_iconst (v := 0) aX8_init_176 (by decide) ?_
  refine e_istT (n := 36) (fs := []) (j := 16) aX8_init_177 (by decide +kernel) (by decide) (by decide) ?_
  refine e_dupR aX8_init_178 ?_
  refine e_bipush (v := 17) aX8_init_179 (by decide) ?_
  refine e_iconst (v := 0) aX8_init_181 (by decide) ?_
  refine e_istT (n := 36) (fs := []) (j := 17) aX8_init_182 (by decide +kernel) (by decide) (by decide) ?_
  refine e_dupR aX8_init_183 ?_
  refine e_bipush (v := 18) aX8_init_184 (by decide) ?_
  refine e_iconst (v := 0) aX8_init_186 (by decide) ?_
  refine e_istT (n := 36) (fs := []) (j := 18) aX8_init_187 (by decide +kernel) (by decide) (by decide) ?_
  refine e_dupR aX8_init_188 ?_
  refine e_bipush (v := 19) aX8_init_189 (by decide) ?_
  refine e_iconst (v := 0) aX8_init_191 (by decide) ?_
  refine e_istT (n := 36) (fs := []) (j := 19) aX8_init_192 (by decide +kernel) (by decide) (by decide) ?_
  refine e_dupR aX8_init_193 ?_
  refine e_bipush (v := 20) aX8_init_194 (by decide) ?_
  refine e_iconst (v := 0) aX8_init_196 (by decide) ?_
  refine e_istT (n := 36) (fs := []) (j := 20) aX8_init_197 (by decide +kernel) (by decide) (by decide) ?_
  refine e_dupR aX8_init_198 ?_
  refine e_bipush (v := 21) aX8_init_199 (by decide) ?_
  refine e_iconst (v := 1) aX8_init_201 (by decide) ?_
  refine e_istT (n := 36) (fs := []) (j := 21) aX8_init_202 (by decide +kernel) (by decide) (by decide) ?_
  refine e_dupR aX8_init_203 ?_
  refine e_bipush (v := 22) aX8_init_204 (by decide) ?_
  refine e_iconst (v := 0) aX8_init_206 (by decide) ?_
  refine e_istT (n := 36) (fs := []) (j := 22) aX8_init_207 (by decide +kernel) (by decide) (by decide) ?_
  refine e_dupR aX8_init_208 ?_
  refine e_bipush (v := 23) aX8_init_209 (by decide) ?_
  refine e_iconst (v := 0) aX8_init_211 (by decide) ?_
  refine e_istT (n := 36) (fs := []) (j := 23) aX8_init_212 (by decide +kernel) (by decide) (by decide) ?_
  refine e_dupR aX8_init_213 ?_
  refine e_bipush (v := 24) aX8_init_214 (by decide) ?_
  refine e_iconst (v := 0) aX8_init_216 (by decide) ?_
  refine e_istT (n := 36) (fs := []) (j := 24) aX8_init_217 (by decide +kernel) (by decide) (by decide) ?_
  refine e_dupR aX8_init_218 ?_
  refine e_bipush (v := 25) aX8_init_219 (by decide) ?_
  refine e_iconst (v := 0) aX8_init_221 (by decide) ?_
  refine e_istT (n := 36) (fs := []) (j := 25) aX8_init_222 (by decide +kernel) (by decide) (by decide) ?_
  refine e_dupR aX8_init_223 ?_
  refine e_bipush (v := 26) aX8_init_224 (by decide) ?_
  refine e_iconst (v := 0) aX8_init_226 (by decide) ?_
  refine e_istT (n := 36) (fs := []) (j := 26) aX8_init_227 (by decide +kernel) (by decide) (by decide) ?_
  refine e_dupR aX8_init_228 ?_
  refine e_bipush (v := 27) aX8_init_229 (by decide) ?_
  refine e_iconst (v := 0) aX8_init_231 (by decide) ?_
  refine e_istT (n := 36) (fs := []) (j := 27) aX8_init_232 (by decide +kernel) (by decide) (by decide) ?_
  refine e_dupR aX8_init_233 ?_
  refine e_bipush (v := 28) aX8_init_234 (by decide) ?_
  refine e_iconst (v := 1) aX8_init_236 (by decide) ?_
  refine e_istT (n := 36) (fs := []) (j := 28) aX8_init_237 (by decide +kernel) (by decide) (by decide) ?_
  refine e_dupR aX8_init_238 ?_
  refine e_bipush (v := 29) aX8_init_239 (by decide) ?_
  refine e_iconst (v := 0) aX8_init_241 (by decide) ?_
  refine e_istT (n := 36) (fs := []) (j := 29) aX8_init_242 (by decide +kernel) (by decide) (by decide) ?_
  refine e_dupR aX8_init_243 ?_
  refine e_bipush (v := 30) aX8_init_244 (by decide) ?_
  refine e_iconst (v := 0) aX8_init_246 (by decide) ?_
  refine e_istT (n := 36) (fs := []) (j := 30) aX8_init_247 (by decide +kernel) (by decide) (by decide) ?_
  refine e_dupR aX8_init_248 ?_
  refine e_bipush (v := 31) aX8_init_249 (by decide) ?_
  refine e_iconst (v := 0) aX8_init_251 (by decide) ?_
  refine e_istT (n := 36) (fs := []) (j := 31) aX8_init_252 (by decide +kernel) (by decide) (by decide) ?_
  refine e_dupR aX8_init_253 ?_
  refine e_bipush (v := 32) aX8_init_254 (by decide) ?_
  refine e_iconst (v := 0) aX8_init_256 (by decide) ?_
  refine e_istT (n := 36) (fs := []) (j := 32) aX8_init_257 (by decide +kernel) (by decide) (by decide) ?_
  refine e_dupR aX8_init_258 ?_
  refine e_bipush (v := 33) aX8_init_259 (by decide) ?_
  refine e_iconst (v := 0) aX8_init_261 (by decide) ?_
  refine e_istT (n := 36) (fs := []) (j := 33) aX8_init_262 (by decide +kernel) (by decide) (by decide) ?_
  refine e_dupR aX8_init_263 ?_
  refine e_bipush (v := 34) aX8_init_264 (by decide) ?_
  refine e_iconst (v := 0) aX8_init_266 (by decide) ?_
  refine e_istT (n := 36) (fs := []) (j := 34) aX8_init_267 (by decide +kernel) (by decide) (by decide) ?_
  refine e_dupR aX8_init_268 ?_
  refine e_bipush (v := 35) aX8_init_269 (by decide) ?_
  refine e_iconst (v := 1) aX8_init_271 (by decide) ?_
  refine e_istT (n := 36) (fs := []) (j := 35) aX8_init_272 (by decide +kernel) (by decide) (by decide) ?_
  refine e_putR (r := 186) (fs := [0, 179, 0, 180, 181, 0, 182, 183, 184, 185, 186, 187, 0, 0, 1, 0, 0, 0, 0, 1, 1, 0, 0, 1, 1, 1, 1, 1, 1, 1]) aX8_init_273 qX8_42 (fun q h => by cases h; rfl) (by decide +kernel) rfl (fun _ => ⟨rfl, rfl⟩) ?_
  refine e_aload_n aX8_init_276 rfl ?_
  refine e_bipush (v := 10) aX8_init_277 (by decide) ?_
  refine e_budget (ca2 := 8 + 1) (sa2 := 124 + 10) rfl rfl ?_
  refine e_newI (n := 187) (N := 10) aX8_init_279 (by decide) (by decide) (by decide) (by decide +kernel) (zt_at (by decide +kernel)) ?_
  refine e_putR (r := 187) (fs := [0, 179, 0, 180, 181, 0, 182, 183, 184, 185, 186, 187, 0, 0, 188, 0, 0, 0, 0, 1, 1, 0, 0, 1, 1, 1, 1, 1, 1, 1]) aX8_init_281 qX8_45 (fun q h => by cases h; rfl) (by decide +kernel) rfl (fun _ => ⟨rfl, rfl⟩) ?_
  refine e_aload_n aX8_init_284 rfl ?_
  refine e_bipush (v := 10) aX8_init_285 (by decide) ?_
  refine e_budget (ca2 := 7 + 1) (sa2 := 114 + 10) rfl rfl ?_
  refine e_newI (n := 188) (N := 10) aX8_init_287 (by decide) (by decide) (by decide) (by decide +kernel) (zt_at (by decide +kernel)) ?_
  refine e_putR (r := 188) (fs := [0, 179, 0, 180, 181, 0, 182, 183, 184, 185, 186, 187, 0, 0, 188, 0, 0, 0, 0, 189, 1, 0, 0, 1, 1, 1, 1, 1, 1, 1]) aX8_init_289 qX8_48 (fun q h => by cases h; rfl) (by decide +kernel) rfl (fun _ => ⟨rfl, rfl⟩) ?_
  refine e_aload_n aX8_init_292 rfl ?_
  refine e_bipush (v := 6) aX8_init_293 (by decide) ?_
  refine e_budget (ca2 := 6 + 1) (sa2 := 108 + 6) rfl rfl ?_
  refine e_newI (n := 189) (N := 6) aX8_init_295 (by decide) (by decide) (by decide) (by decide +kernel) (zt_at (by decide +kernel)) ?_
  refine e_putR (r := 189) (fs := [0, 179, 0, 180, 181, 0, 182, 183, 184, 185, 186, 187, 0, 0, 188, 0, 0, 0, 0, 189, 190, 0, 0, 1, 1, 1, 1, 1, 1, 1]) aX8_init_297 qX8_51 (fun q h => by cases h; rfl) (by decide +kernel) rfl (fun _ => ⟨rfl, rfl⟩) ?_
  refine e_aload_n aX8_init_300 rfl ?_
  refine e_bipush (v := 18) aX8_init_301 (by decide) ?_
  refine e_budget (ca2 := 5 + 1) (sa2 := 90 + 18) rfl rfl ?_
  refine e_newI (n := 190) (N := 18) aX8_init_303 (by decide) (by decide) (by decide) (by decide +kernel) (zt_at (by decide +kernel)) ?_
  refine e_dupR aX8_init_305 ?_
  refine e_iconst (v := 0) aX8_init_306 (by decide) ?_
  refine e_bipush (v := 113) aX8_init_307 (by decide) ?_
  refine e_istT (n := 18) (fs := []) (j := 0) aX8_init_309 (by decide +kernel) (by decide) (by decide) ?_
  refine e_dupR aX8_init_310 ?_
  refine e_iconst (v := 1) aX8_init_311 (by decide) ?_
  refine e_bipush (v := 117) aX8_init_312 (by decide) ?_
  refine e_istT (n := 18) (fs := []) (j := 1) aX8_init_314 (by decide +kernel) (by decide) (by decide) ?_
  refine e_dupR aX8_init_315 ?_
  refine e_iconst (v := 2) aX8_init_316 (by decide) ?_
  refine e_bipush (v := 105) aX8_init_317 (by decide) ?_
  refine e_istT (n := 18) (fs := []) (j := 2) aX8_init_319 (by decide +kernel) (by decide) (by decide) ?_
  refine e_dupR aX8_init_320 ?_
  refine e_iconst (v := 3) aX8_init_321 (by decide) ?_
  refine e_bipush (v := 118) aX8_init_322 (by decide) ?_
  refine e_istT (n := 18) (fs := []) (j := 3) aX8_init_324 (by decide +kernel) (by decide) (by decide) ?_
  refine e_dupR aX8_init_325 ?_
  refine e_iconst (v := 4) aX8_init_326 (by decide) ?_
  refine e_bipush (v := 101) aX8_init_327 (by decide) ?_
  refine e_istT (n := 18) (fs := []) (j := 4) aX8_init_329 (by decide +kernel) (by decide) (by decide) ?_
  refine e_dupR aX8_init_330 ?_
  refine e_iconst (v := 5) aX8_init_331 (by decide) ?_
  refine e_bipush (v := 114) aX8_init_332 (by decide) ?_
  refine e_istT (n := 18) (fs := []) (j := 5) aX8_init_334 (by decide +kernel) (by decide) (by decide) ?_
  refine e_dupR aX8_init_335 ?_
  refine e_bipush (v := 6) aX8_init_336 (by decide) ?_
  refine e_bipush (v := 97) aX8_init_338 (by decide) ?_
  refine e_istT (n := 18) (fs := []) (j := 6) aX8_init_340 (by decide +kernel) (by decide) (by decide) ?_
  refine e_dupR aX8_init_341 ?_
  refine e_bipush (v := 7) aX8_init_342 (by decide) ?_
  refine e_bipush (v := 114) aX8_init_344 (by decide) ?_
  refine e_istT (n := 18) (fs := []) (j := 7) aX8_init_346 (by decide +kernel) (by decide) (by decide) ?_
  refine e_dupR aX8_init_347 ?_
  refine e_bipush (v := 8) aX8_init_348 (by decide) ?_
  refine e_bipush (v := 114) aX8_init_350 (by decide) ?_
  refine e_istT (n := 18) (fs := []) (j := 8) aX8_init_352 (by decide +kernel) (by decide) (by decide) ?_
  refine e_dupR aX8_init_353 ?_
  refine e_bipush (v := 9) aX8_init_354 (by decide) ?_
  refine e_bipush (v := 111) aX8_init_356 (by decide) ?_
  refine e_istT (n := 18) (fs := []) (j := 9) aX8_init_358 (by decide +kernel) (by decide) (by decide) ?_
  refine e_dupR aX8_init_359 ?_
  refine e_bipush (v := 10) aX8_init_360 (by decide) ?_
  refine e_bipush (v := 119) aX8_init_362 (by decide) ?_
  refine e_istT (n := 18) (fs := []) (j := 10) aX8_init_364 (by decide +kernel) (by decide) (by decide) ?_
  refine e_dupR aX8_init_365 ?_
  refine e_bipush (v := 11) aX8_init_366 (by decide) ?_
  refine e_iconst (v := 0) aX8_init_368 (by decide) ?_
  refine e_istT (n := 18) (fs := []) (j := 11) aX8_init_369 (by decide +kernel) (by decide) (by decide) ?_
  refine e_dupR aX8_init_370 ?_
  refine e_bipush (v := 12) aX8_init_371 (by decide) ?_
  refine e_bipush (v := 114) aX8_init_373 (by decide) ?_
  refine e_istT (n := 18) (fs := []) (j := 12) aX8_init_375 (by decide +kernel) (by decide) (by decide) ?_
  refine e_dupR aX8_init_376 ?_
  refine e_bipush (v := 13) aX8_init_377 (by decide) ?_
  refine e_bipush (v := 111) aX8_init_379 (by decide) ?_
  refine e_istT (n := 18) (fs := []) (j := 13) aX8_init_381 (by decide +kernel) (by decide) (by decide) ?_
  refine e_dupR aX8_init_382 ?_
  refine e_bipush (v := 14) aX8_init_383 (by decide) ?_
  refine e_bipush (v := 119) aX8_init_385 (by decide) ?_
  refine e_istT (n := 18) (fs := []) (j := 14) aX8_init_387 (by decide +kernel) (by decide) (by decide) ?_
  refine e_dupR aX8_init_388 ?_
  refine e_bipush (v := 15) aX8_init_389 (by decide) ?_
  refine e_iconst (v := 0) aX8_init_391 (by decide) ?_
  refine e_istT (n := 18) (fs := []) (j := 15) aX8_init_392 (by decide +kernel) (by decide) (by decide) ?_
  refine e_dupR aX8_init_393 ?_
  refine e_bipush (v := 16) aX8_init_394 (by decide) ?_
  refine e_iconst (v := 0) aX8_init_396 (by decide) ?_
  refine e_istT (n := 18) (fs := []) (j := 16) aX8_init_397 (by decide +kernel) (by decide) (by decide) ?_
  refine e_dupR aX8_init_398 ?_
  refine e_bipush (v := 17) aX8_init_399 (by decide) ?_
  refine e_iconst (v := 0) aX8_init_401 (by decide) ?_
  refine e_istT (n := 18) (fs := []) (j := 17) aX8_init_402 (by decide +kernel) (by decide) (by decide) ?_
  refine e_putR (r := 190) (fs := [0, 179, 0, 180, 181, 0, 182, 183, 184, 185, 186, 187, 0, 0, 188, 0, 0, 0, 0, 189, 190, 0, 0, 191, 1, 1, 1, 1, 1, 1]) aX8_init_403 qX8_54 (fun q h => by cases h; rfl) (by decide +kernel) rfl (fun _ => ⟨rfl, rfl⟩) ?_
  refine e_aload_n aX8_init_406 rfl ?_
  refine e_bipush (v := 36) aX8_init_407 (by decide) ?_
  refine e_budget (ca2 := 4 + 1) (sa2 := 54 + 36) rfl rfl ?_
  refine e_newI (n := 191) (N := 36) aX8_init_409 (by decide) (by decide) (by decide) (by decide +kernel) (zt_at (by decide +kernel)) ?_
  refine e_putR (r := 191) (fs := [0, 179, 0, 180, 181, 0, 182, 183, 184, 185, 186, 187, 0, 0, 188, 0, 0, 0, 0, 189, 190, 0, 0, 191, 192, 1, 1, 1, 1, 1]) aX8_init_411 qX8_57 (fun q h => by cases h; rfl) (by decide +kernel) rfl (fun _ => ⟨rfl, rfl⟩) ?_
  refine e_aload_n aX8_init_414 rfl ?_
  refine e_bipush (v := 6) aX8_init_415 (by decide) ?_
  refine e_budget (ca2 := 3 + 1) (sa2 := 48 + 6) rfl rfl ?_
  refine e_newI (n := 192) (N := 6) aX8_init_417 (by decide) (by decide) (by decide) (by decide +kernel) (zt_at (by decide +kernel)) ?_
  refine e_putR (r := 192) (fs := [0, 179, 0, 180, 181, 0, 182, 183, 184, 185, 186, 187, 0, 0, 188, 0, 0, 0, 0, 189, 190, 0, 0, 191, 192, 193, 1, 1, 1, 1]) aX8_init_419 qX8_60 (fun q h => by cases h; rfl) (by decide +kernel) rfl (fun _ => ⟨rfl, rfl⟩) ?_
  refine e_aload_n aX8_init_422 rfl ?_
  refine e_bipush (v := 6) aX8_init_423 (by decide) ?_
  refine e_budget (ca2 := 2 + 1) (sa2 := 42 + 6) rfl rfl ?_
  refine e_newI (n := 193) (N := 6) aX8_init_425 (by decide) (by decide) (by decide) (by decide +kernel) (zt_at (by decide +kernel)) ?_
  refine e_putR (r := 193) (fs := [0, 179, 0, 180, 181, 0, 182, 183, 184, 185, 186, 187, 0, 0, 188, 0, 0, 0, 0, 189, 190, 0, 0, 191, 192, 193, 194, 1, 1, 1]) aX8_init_427 qX8_63 (fun q h => by cases h; rfl) (by decide +kernel) rfl (fun _ => ⟨rfl, rfl⟩) ?_
  refine e_aload_n aX8_init_430 rfl ?_
  refine e_bipush (v := 36) aX8_init_431 (by decide) ?_
  refine e_budget (ca2 := 1 + 1) (sa2 := 6 + 36) rfl rfl ?_
  refine e_newI (n := 194) (N := 36) aX8_init_433 (by decide) (by decide) (by decide) (by decide +kernel) (zt_at (by decide +kernel)) ?_
  refine e_putR (r := 194) (fs := [0, 179, 0, 180, 181, 0, 182, 183, 184, 185, 186, 187, 0, 0, 188, 0, 0, 0, 0, 189, 190, 0, 0, 191, 192, 193, 194, 195, 1, 1]) aX8_init_435 qX8_66 (fun q h => by cases h; rfl) (by decide +kernel) rfl (fun _ => ⟨rfl, rfl⟩) ?_
  refine e_aload_n aX8_init_438 rfl ?_
  refine e_bipush (v := 6) aX8_init_439 (by decide) ?_
  refine e_budget (ca2 := 0 + 1) (sa2 := 0 + 6) rfl rfl ?_
  refine e_newI (n := 195) (N := 6) aX8_init_441 (by decide) (by decide) (by decide) (by decide +kernel) (zt_at (by decide +kernel)) ?_
  refine e_putR (r := 195) (fs := [0, 179, 0, 180, 181, 0, 182, 183, 184, 185, 186, 187, 0, 0, 188, 0, 0, 0, 0, 189, 190, 0, 0, 191, 192, 193, 194, 195, 196, 1]) aX8_init_443 qX8_69 (fun q h => by cases h; rfl) (by decide +kernel) rfl (fun _ => ⟨rfl, rfl⟩) ?_
  exact e_ret0 aX8_init_446 rfl ⟨rfl, by decide +kernel, congrArg tabM (by decide +kernel)⟩
theorem LE_all : LE_22 = LAY := by decide +kernel

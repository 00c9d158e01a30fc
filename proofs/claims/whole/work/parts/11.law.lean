def s_L_law_18 (SL : Nat) (SX : Nat → Int32) (k : Int32 → Mem → Option (Int32 × Mem)) (rec : Int32 → Mem → Option (Int32 × Mem)) (i3 : Int32) (M : Mem) : Option (Int32 × Mem) :=
  if (nI SL) - 4 < i3 then
    k i3 M
  else
    if i3 < 0 ∨ SL ≤ i3.toNatClampNeg then none else
    if (SX i3.toNatClampNeg) &&& 31 = 0 then
      if i3 + 1 < 0 ∨ SL ≤ (i3 + 1).toNatClampNeg then none else
      (f_X7_write (SX (i3 + 1).toNatClampNeg) M).bind fun (q33 : Int32 × Mem) =>
      if i3 + 1 < 0 ∨ SL ≤ (i3 + 1).toNatClampNeg then none else
      (f_X8_write (SX (i3 + 1).toNatClampNeg) q33.2).bind fun (q35 : Int32 × Mem) =>
      if q33.1 = q35.1 then
        rec (i3 + 4) q35.2
      else
        some (0, q35.2)
    else if (SX i3.toNatClampNeg) &&& 31 = 1 then
      (f_X7_erase M).bind fun (q37 : Int32 × Mem) =>
      (f_X8_erase q37.2).bind fun (q38 : Int32 × Mem) =>
      if q37.1 = q38.1 then
        rec (i3 + 4) q38.2
      else
        some (0, q38.2)
    else if (SX i3.toNatClampNeg) &&& 31 = 2 then
      (f_X7_fault M).bind fun (q40 : Int32 × Mem) =>
      (f_X8_fault q40.2).bind fun (q41 : Int32 × Mem) =>
      if q40.1 = q41.1 then
        rec (i3 + 4) q41.2
      else
        some (0, q41.2)
    else if (SX i3.toNatClampNeg) &&& 31 = 3 then
      (f_X7_quiver M).bind fun (q43 : Int32 × Mem) =>
      (f_X8_quiver q43.2).bind fun (q44 : Int32 × Mem) =>
      if q43.1 = q44.1 then
        rec (i3 + 4) q44.2
      else
        some (0, q44.2)
    else if (SX i3.toNatClampNeg) &&& 31 = 4 then
      if i3 + 1 < 0 ∨ SL ≤ (i3 + 1).toNatClampNeg then none else
      if i3 + 2 < 0 ∨ SL ≤ (i3 + 2).toNatClampNeg then none else
      (f_X7_arrow (SX (i3 + 1).toNatClampNeg) (SX (i3 + 2).toNatClampNeg) M).bind fun (r48 : Int32) =>
      if i3 + 1 < 0 ∨ SL ≤ (i3 + 1).toNatClampNeg then none else
      if i3 + 2 < 0 ∨ SL ≤ (i3 + 2).toNatClampNeg then none else
      (f_X8_arrow (SX (i3 + 1).toNatClampNeg) (SX (i3 + 2).toNatClampNeg) M).bind fun (r51 : Int32) =>
      if r48 = r51 then
        rec (i3 + 4) M
      else
        some (0, M)
    else if (SX i3.toNatClampNeg) &&& 31 = 5 then
      if i3 + 1 < 0 ∨ SL ≤ (i3 + 1).toNatClampNeg then none else
      if i3 + 2 < 0 ∨ SL ≤ (i3 + 2).toNatClampNeg then none else
      (f_X7_point (SX (i3 + 1).toNatClampNeg) (SX (i3 + 2).toNatClampNeg) M).bind fun (q55 : Int32 × Mem) =>
      if i3 + 1 < 0 ∨ SL ≤ (i3 + 1).toNatClampNeg then none else
      if i3 + 2 < 0 ∨ SL ≤ (i3 + 2).toNatClampNeg then none else
      (f_X8_point (SX (i3 + 1).toNatClampNeg) (SX (i3 + 2).toNatClampNeg) q55.2).bind fun (r58 : Int32) =>
      if q55.1 = r58 then
        rec (i3 + 4) q55.2
      else
        some (0, q55.2)
    else if (SX i3.toNatClampNeg) &&& 31 = 6 then
      if i3 + 1 < 0 ∨ SL ≤ (i3 + 1).toNatClampNeg then none else
      if i3 + 2 < 0 ∨ SL ≤ (i3 + 2).toNatClampNeg then none else
      (f_X7_paths (SX (i3 + 1).toNatClampNeg) (SX (i3 + 2).toNatClampNeg) M).bind fun (q62 : Int32 × Mem) =>
      if i3 + 1 < 0 ∨ SL ≤ (i3 + 1).toNatClampNeg then none else
      if i3 + 2 < 0 ∨ SL ≤ (i3 + 2).toNatClampNeg then none else
      (f_X8_paths (SX (i3 + 1).toNatClampNeg) (SX (i3 + 2).toNatClampNeg) q62.2).bind fun (q65 : Int32 × Mem) =>
      if q62.1 = q65.1 then
        rec (i3 + 4) q65.2
      else
        some (0, q65.2)
    else if (SX i3.toNatClampNeg) &&& 31 = 7 then
      if i3 + 1 < 0 ∨ SL ≤ (i3 + 1).toNatClampNeg then none else
      if i3 + 2 < 0 ∨ SL ≤ (i3 + 2).toNatClampNeg then none else
      (f_X7_put (SX (i3 + 1).toNatClampNeg) (SX (i3 + 2).toNatClampNeg) M).bind fun (q69 : Int32 × Mem) =>
      if i3 + 1 < 0 ∨ SL ≤ (i3 + 1).toNatClampNeg then none else
      if i3 + 2 < 0 ∨ SL ≤ (i3 + 2).toNatClampNeg then none else
      (f_X8_put (SX (i3 + 1).toNatClampNeg) (SX (i3 + 2).toNatClampNeg) q69.2).bind fun (q72 : Int32 × Mem) =>
      if q69.1 = q72.1 then
        rec (i3 + 4) q72.2
      else
        some (0, q72.2)
    else if (SX i3.toNatClampNeg) &&& 31 = 8 then
      if i3 + 1 < 0 ∨ SL ≤ (i3 + 1).toNatClampNeg then none else
      (f_X7_cut (SX (i3 + 1).toNatClampNeg) M).bind fun (q75 : Int32 × Mem) =>
      if i3 + 1 < 0 ∨ SL ≤ (i3 + 1).toNatClampNeg then none else
      (f_X8_cut (SX (i3 + 1).toNatClampNeg) q75.2).bind fun (q77 : Int32 × Mem) =>
      if q75.1 = q77.1 then
        rec (i3 + 4) q77.2
      else
        some (0, q77.2)
    else if (SX i3.toNatClampNeg) &&& 31 = 9 then
      if i3 + 1 < 0 ∨ SL ≤ (i3 + 1).toNatClampNeg then none else
      (f_X7_turn (SX (i3 + 1).toNatClampNeg) M).bind fun (q80 : Int32 × Mem) =>
      if i3 + 1 < 0 ∨ SL ≤ (i3 + 1).toNatClampNeg then none else
      (f_X8_turn (SX (i3 + 1).toNatClampNeg) q80.2).bind fun (q82 : Int32 × Mem) =>
      if q80.1 = q82.1 then
        rec (i3 + 4) q82.2
      else
        some (0, q82.2)
    else if (SX i3.toNatClampNeg) &&& 31 = 10 then
      if i3 + 1 < 0 ∨ SL ≤ (i3 + 1).toNatClampNeg then none else
      if i3 + 2 < 0 ∨ SL ≤ (i3 + 2).toNatClampNeg then none else
      (f_X7_set (SX (i3 + 1).toNatClampNeg) (SX (i3 + 2).toNatClampNeg) M).bind fun (q86 : Int32 × Mem) =>
      if i3 + 1 < 0 ∨ SL ≤ (i3 + 1).toNatClampNeg then none else
      if i3 + 2 < 0 ∨ SL ≤ (i3 + 2).toNatClampNeg then none else
      (f_X8_set (SX (i3 + 1).toNatClampNeg) (SX (i3 + 2).toNatClampNeg) q86.2).bind fun (q89 : Int32 × Mem) =>
      if q86.1 = q89.1 then
        rec (i3 + 4) q89.2
      else
        some (0, q89.2)
    else if (SX i3.toNatClampNeg) &&& 31 = 11 then
      if i3 + 1 < 0 ∨ SL ≤ (i3 + 1).toNatClampNeg then none else
      (f_X7_shift (SX (i3 + 1).toNatClampNeg) M).bind fun (q92 : Int32 × Mem) =>
      if i3 + 1 < 0 ∨ SL ≤ (i3 + 1).toNatClampNeg then none else
      (f_X8_shift (SX (i3 + 1).toNatClampNeg) q92.2).bind fun (q94 : Int32 × Mem) =>
      if q92.1 = q94.1 then
        rec (i3 + 4) q94.2
      else
        some (0, q94.2)
    else if (SX i3.toNatClampNeg) &&& 31 = 12 then
      if i3 + 1 < 0 ∨ SL ≤ (i3 + 1).toNatClampNeg then none else
      (f_X7_take (SX (i3 + 1).toNatClampNeg) M).bind fun (q97 : Int32 × Mem) =>
      if i3 + 1 < 0 ∨ SL ≤ (i3 + 1).toNatClampNeg then none else
      (f_X8_take (SX (i3 + 1).toNatClampNeg) q97.2).bind fun (q99 : Int32 × Mem) =>
      if q97.1 = q99.1 then
        rec (i3 + 4) q99.2
      else
        some (0, q99.2)
    else if (SX i3.toNatClampNeg) &&& 31 = 13 then
      (f_X7_undo M).bind fun (q101 : Int32 × Mem) =>
      (f_X8_undo q101.2).bind fun (q102 : Int32 × Mem) =>
      if q101.1 = q102.1 then
        rec (i3 + 4) q102.2
      else
        some (0, q102.2)
    else if (SX i3.toNatClampNeg) &&& 31 = 14 then
      if i3 + 1 < 0 ∨ SL ≤ (i3 + 1).toNatClampNeg then none else
      (f_X7_keep (SX (i3 + 1).toNatClampNeg) M).bind fun (q105 : Int32 × Mem) =>
      if i3 + 1 < 0 ∨ SL ≤ (i3 + 1).toNatClampNeg then none else
      (f_X8_keep (SX (i3 + 1).toNatClampNeg) q105.2).bind fun (q107 : Int32 × Mem) =>
      if q105.1 = q107.1 then
        rec (i3 + 4) q107.2
      else
        some (0, q107.2)
    else if (SX i3.toNatClampNeg) &&& 31 = 15 then
      if i3 + 1 < 0 ∨ SL ≤ (i3 + 1).toNatClampNeg then none else
      (f_X7_back (SX (i3 + 1).toNatClampNeg) M).bind fun (q110 : Int32 × Mem) =>
      if i3 + 1 < 0 ∨ SL ≤ (i3 + 1).toNatClampNeg then none else
      (f_X8_back (SX (i3 + 1).toNatClampNeg) q110.2).bind fun (q112 : Int32 × Mem) =>
      if q110.1 = q112.1 then
        rec (i3 + 4) q112.2
      else
        some (0, q112.2)
    else if (SX i3.toNatClampNeg) &&& 31 = 16 then
      if i3 + 1 < 0 ∨ SL ≤ (i3 + 1).toNatClampNeg then none else
      (f_X7_turned (SX (i3 + 1).toNatClampNeg) M).bind fun (r115 : Int32) =>
      if i3 + 1 < 0 ∨ SL ≤ (i3 + 1).toNatClampNeg then none else
      (f_X8_turned (SX (i3 + 1).toNatClampNeg) M).bind fun (r117 : Int32) =>
      if r115 = r117 then
        rec (i3 + 4) M
      else
        some (0, M)
    else if (SX i3.toNatClampNeg) &&& 31 = 17 then
      if i3 + 1 < 0 ∨ SL ≤ (i3 + 1).toNatClampNeg then none else
      if i3 + 2 < 0 ∨ SL ≤ (i3 + 2).toNatClampNeg then none else
      (f_X7_root (SX (i3 + 1).toNatClampNeg) (SX (i3 + 2).toNatClampNeg) M).bind fun (q121 : Int32 × Mem) =>
      if i3 + 1 < 0 ∨ SL ≤ (i3 + 1).toNatClampNeg then none else
      if i3 + 2 < 0 ∨ SL ≤ (i3 + 2).toNatClampNeg then none else
      (f_X8_root (SX (i3 + 1).toNatClampNeg) (SX (i3 + 2).toNatClampNeg) q121.2).bind fun (q124 : Int32 × Mem) =>
      if q121.1 = q124.1 then
        rec (i3 + 4) q124.2
      else
        some (0, q124.2)
    else if (SX i3.toNatClampNeg) &&& 31 = 18 then
      if i3 + 1 < 0 ∨ SL ≤ (i3 + 1).toNatClampNeg then none else
      if i3 + 2 < 0 ∨ SL ≤ (i3 + 2).toNatClampNeg then none else
      (f_X7_place (SX (i3 + 1).toNatClampNeg) (SX (i3 + 2).toNatClampNeg) M).bind fun (q128 : Int32 × Mem) =>
      if i3 + 1 < 0 ∨ SL ≤ (i3 + 1).toNatClampNeg then none else
      if i3 + 2 < 0 ∨ SL ≤ (i3 + 2).toNatClampNeg then none else
      (f_X8_place (SX (i3 + 1).toNatClampNeg) (SX (i3 + 2).toNatClampNeg) q128.2).bind fun (q131 : Int32 × Mem) =>
      if q128.1 = q131.1 then
        rec (i3 + 4) q131.2
      else
        some (0, q131.2)
    else if (SX i3.toNatClampNeg) &&& 31 = 19 then
      if i3 + 1 < 0 ∨ SL ≤ (i3 + 1).toNatClampNeg then none else
      if i3 + 2 < 0 ∨ SL ≤ (i3 + 2).toNatClampNeg then none else
      if i3 + 3 < 0 ∨ SL ≤ (i3 + 3).toNatClampNeg then none else
      (f_X7_between (SX (i3 + 1).toNatClampNeg) (SX (i3 + 2).toNatClampNeg) (SX (i3 + 3).toNatClampNeg) M).bind fun (q136 : Int32 × Mem) =>
      if i3 + 1 < 0 ∨ SL ≤ (i3 + 1).toNatClampNeg then none else
      if i3 + 2 < 0 ∨ SL ≤ (i3 + 2).toNatClampNeg then none else
      if i3 + 3 < 0 ∨ SL ≤ (i3 + 3).toNatClampNeg then none else
      (f_X8_between (SX (i3 + 1).toNatClampNeg) (SX (i3 + 2).toNatClampNeg) (SX (i3 + 3).toNatClampNeg) q136.2).bind fun (q140 : Int32 × Mem) =>
      if q136.1 = q140.1 then
        rec (i3 + 4) q140.2
      else
        some (0, q140.2)
    else if (SX i3.toNatClampNeg) &&& 31 = 20 then
      (f_X7_find M).bind fun (q142 : Int32 × Mem) =>
      (f_X8_find q142.2).bind fun (q143 : Int32 × Mem) =>
      if q142.1 = q143.1 then
        rec (i3 + 4) q143.2
      else
        some (0, q143.2)
    else if (SX i3.toNatClampNeg) &&& 31 = 21 then
      (f_X7_sums M).bind fun (q145 : Int32 × Mem) =>
      (f_X8_sums q145.2).bind fun (q146 : Int32 × Mem) =>
      if q145.1 = q146.1 then
        rec (i3 + 4) q146.2
      else
        some (0, q146.2)
    else if (SX i3.toNatClampNeg) &&& 31 = 22 then
      if i3 + 1 < 0 ∨ SL ≤ (i3 + 1).toNatClampNeg then none else
      (f_X7_shelf (SX (i3 + 1).toNatClampNeg) M).bind fun (q149 : Int32 × Mem) =>
      if i3 + 1 < 0 ∨ SL ≤ (i3 + 1).toNatClampNeg then none else
      (f_X8_shelf (SX (i3 + 1).toNatClampNeg) q149.2).bind fun (q151 : Int32 × Mem) =>
      if q149.1 = q151.1 then
        rec (i3 + 4) q151.2
      else
        some (0, q151.2)
    else if (SX i3.toNatClampNeg) &&& 31 = 23 then
      if i3 + 1 < 0 ∨ SL ≤ (i3 + 1).toNatClampNeg then none else
      (f_X7_lay (SX (i3 + 1).toNatClampNeg) M).bind fun (q154 : Int32 × Mem) =>
      if i3 + 1 < 0 ∨ SL ≤ (i3 + 1).toNatClampNeg then none else
      (f_X8_lay (SX (i3 + 1).toNatClampNeg) q154.2).bind fun (q156 : Int32 × Mem) =>
      if q154.1 = q156.1 then
        rec (i3 + 4) q156.2
      else
        some (0, q156.2)
    else if (SX i3.toNatClampNeg) &&& 31 = 24 then
      if i3 + 1 < 0 ∨ SL ≤ (i3 + 1).toNatClampNeg then none else
      (f_X7_draw (SX (i3 + 1).toNatClampNeg) M).bind fun (q159 : Int32 × Mem) =>
      if i3 + 1 < 0 ∨ SL ≤ (i3 + 1).toNatClampNeg then none else
      (f_X8_draw (SX (i3 + 1).toNatClampNeg) q159.2).bind fun (q161 : Int32 × Mem) =>
      if q159.1 = q161.1 then
        rec (i3 + 4) q161.2
      else
        some (0, q161.2)
    else if (SX i3.toNatClampNeg) &&& 31 = 25 then
      if i3 + 1 < 0 ∨ SL ≤ (i3 + 1).toNatClampNeg then none else
      (f_X7_add (SX (i3 + 1).toNatClampNeg) M).bind fun (q164 : Int32 × Mem) =>
      if i3 + 1 < 0 ∨ SL ≤ (i3 + 1).toNatClampNeg then none else
      (f_X8_add (SX (i3 + 1).toNatClampNeg) q164.2).bind fun (q166 : Int32 × Mem) =>
      if q164.1 = q166.1 then
        rec (i3 + 4) q166.2
      else
        some (0, q166.2)
    else if (SX i3.toNatClampNeg) &&& 31 = 26 then
      if i3 + 1 < 0 ∨ SL ≤ (i3 + 1).toNatClampNeg then none else
      if i3 + 2 < 0 ∨ SL ≤ (i3 + 2).toNatClampNeg then none else
      (f_X7_euler (SX (i3 + 1).toNatClampNeg) (SX (i3 + 2).toNatClampNeg) M).bind fun (r170 : Int32) =>
      if i3 + 1 < 0 ∨ SL ≤ (i3 + 1).toNatClampNeg then none else
      if i3 + 2 < 0 ∨ SL ≤ (i3 + 2).toNatClampNeg then none else
      (f_X8_euler (SX (i3 + 1).toNatClampNeg) (SX (i3 + 2).toNatClampNeg) M).bind fun (r173 : Int32) =>
      if r170 = r173 then
        rec (i3 + 4) M
      else
        some (0, M)
    else if (SX i3.toNatClampNeg) &&& 31 = 27 then
      if i3 + 1 < 0 ∨ SL ≤ (i3 + 1).toNatClampNeg then none else
      (f_X7_drop (SX (i3 + 1).toNatClampNeg) M).bind fun (q176 : Int32 × Mem) =>
      if i3 + 1 < 0 ∨ SL ≤ (i3 + 1).toNatClampNeg then none else
      (f_X8_drop (SX (i3 + 1).toNatClampNeg) q176.2).bind fun (q178 : Int32 × Mem) =>
      if q176.1 = q178.1 then
        rec (i3 + 4) q178.2
      else
        some (0, q178.2)
    else if (SX i3.toNatClampNeg) &&& 31 = 28 then
      if i3 + 1 < 0 ∨ SL ≤ (i3 + 1).toNatClampNeg then none else
      (f_X7_count (SX (i3 + 1).toNatClampNeg) M).bind fun (q181 : Int32 × Mem) =>
      if i3 + 1 < 0 ∨ SL ≤ (i3 + 1).toNatClampNeg then none else
      (f_X8_count (SX (i3 + 1).toNatClampNeg) q181.2).bind fun (q183 : Int32 × Mem) =>
      if q181.1 = q183.1 then
        rec (i3 + 4) q183.2
      else
        some (0, q183.2)
    else 
      rec (i3 + 4) M
def f_L_law_18 (SL : Nat) (SX : Nat → Int32) (k : Int32 → Mem → Option (Int32 × Mem)) : Nat → Int32 → Mem → Option (Int32 × Mem)
  | 0 => fun _ _ => none
  | n + 1 => fun i3 M => s_L_law_18 SL SX k (f_L_law_18 SL SX k n) i3 M
set_option maxRecDepth 100000 in
set_option maxHeartbeats 8000000 in
theorem w_L_law_18 (l : Launch) (x : WX) {SL : Nat} {SX : Nat → Int32} {k : Int32 → Mem → Option (Int32 × Mem)} {r : (Int32 × Mem)} (hSL : x.2.2.2.2.2.2.1 = SL) (hSX : x.2.2.2.2.2.2.2 = SX) (K : ∀ (i3 : Int32) (M : Mem), k i3 M = some r → Ev l x false cL_law RL (some .boolean) 4 10 0 0 (pI r.1 r.2) 877 [some (.ref x.2.2.2.2.2.1), some (.ref (x.2.2.1 + 0)), some (.ref (x.2.2.1 + 176)), some (.int i3)] [] LAY M) : ∀ (n : Nat) (i3 : Int32) (M : Mem), f_L_law_18 SL SX k n i3 M = some r → Ev l x false cL_law RL (some .boolean) 4 10 0 0 (pI r.1 r.2) 18 [some (.ref x.2.2.2.2.2.1), some (.ref (x.2.2.1 + 0)), some (.ref (x.2.2.1 + 176)), some (.int i3)] [] LAY M := by
  intro n
  induction n with
  | zero =>
    intro i3 M h
    exact nomatch (show (none : Option (Int32 × Mem)) = some r from h)
  | succ n ih =>
    intro i3 M h
    have h : s_L_law_18 SL SX k (f_L_law_18 SL SX k n) i3 M = some r := h
    unfold s_L_law_18 at h
    subst hSL
    subst hSX
    refine e_iload_n aL_law_18 rfl ?_
    refine e_aload_n aL_law_19 rfl ?_
    refine e_sln aL_law_20 ?_
    refine e_iconst (v := 4) aL_law_21 (by decide) ?_
    refine e_isub aL_law_22 ?_
    rcases of_ite h with ⟨hc1, h⟩ | ⟨hc1, h⟩
    · refine e_icmp_gt (tgt := 877) aL_law_23 (by decide) (fun _ => ?_) (fun q => absurd hc1 q)
      exact K _ _ h
    · refine e_icmp_gt (tgt := 877) aL_law_23 (by decide) (fun q => absurd q hc1) (fun _ => ?_)
      refine e_aload_n aL_law_26 rfl ?_
      refine e_iload_n aL_law_27 rfl ?_
      obtain ⟨hg2, h⟩ := of_guard h
      refine e_sld aL_law_28 hg2 ?_
      refine e_bipush (v := 31) aL_law_29 (by decide) ?_
      refine e_iand aL_law_31 ?_
      rcases of_ite h with ⟨hc3, h⟩ | ⟨hc3, h⟩
      · refine e_tableIn (off := 132) (tgt := 164) aL_law_32 (by rw [hc3]; decide) (by rw [hc3]; decide) (by rw [hc3]; rfl) (by decide) ?_
        refine e_aload_n aL_law_164 rfl ?_
        refine e_aload_n aL_law_165 rfl ?_
        refine e_iload_n aL_law_166 rfl ?_
        refine e_iconst (v := 1) aL_law_167 (by decide) ?_
        refine e_iadd aL_law_168 ?_
        obtain ⟨hg32, h⟩ := of_guard h
        refine e_sld aL_law_169 hg32 ?_
        obtain ⟨q33, hq33, h⟩ := of_bind h
        refine e_VI [] aL_law_170 co_X7_write mL_13 ly_0 rfl rfl (c_X7_write l x hq33) rfl ⟨by decide, by decide⟩ (Nat.le_of_ble_eq_true rfl) rfl ?_
        refine e_aload_n aL_law_173 rfl ?_
        refine e_aload_n aL_law_174 rfl ?_
        refine e_iload_n aL_law_175 rfl ?_
        refine e_iconst (v := 1) aL_law_176 (by decide) ?_
        refine e_iadd aL_law_177 ?_
        obtain ⟨hg34, h⟩ := of_guard h
        refine e_sld aL_law_178 hg34 ?_
        obtain ⟨q35, hq35, h⟩ := of_bind h
        refine e_VI [.int q33.1] aL_law_179 co_X8_write mL_17 ly_176 rfl rfl (c_X8_write l x hq35) rfl ⟨by decide, by decide⟩ (Nat.le_of_ble_eq_true rfl) rfl ?_
        rcases of_ite h with ⟨hc36, h⟩ | ⟨hc36, h⟩
        · refine e_icmp_eq (tgt := 871) aL_law_182 (by decide) (fun _ => ?_) (fun q => absurd hc36 q)
          refine e_iinc (v := i3 + 4) (L2 := [some (.ref x.2.2.2.2.2.1), some (.ref (x.2.2.1 + 0)), some (.ref (x.2.2.1 + 176)), some (.int (i3 + 4))]) aL_law_871 rfl rfl ⟨by decide, rfl⟩ rfl ?_
          refine e_goto (tgt := 18) aL_law_874 (by decide) ?_
          exact ih _ _ h
        · refine e_icmp_eq (tgt := 871) aL_law_182 (by decide) (fun q => absurd q hc36) (fun _ => ?_)
          refine e_iconst (v := 0) aL_law_185 (by decide) ?_
          exact e_retI aL_law_186 rfl (by decide +kernel) (pI_of h)
      · rcases of_ite h with ⟨hc4, h⟩ | ⟨hc4, h⟩
        · refine e_tableIn (off := 155) (tgt := 187) aL_law_32 (by rw [hc4]; decide) (by rw [hc4]; decide) (by rw [hc4]; rfl) (by decide) ?_
          refine e_aload_n aL_law_187 rfl ?_
          obtain ⟨q37, hq37, h⟩ := of_bind h
          refine e_VI [] aL_law_188 co_X7_erase mL_18 ly_0 rfl rfl (c_X7_erase l x hq37) rfl ⟨by decide, by decide⟩ (Nat.le_of_ble_eq_true rfl) rfl ?_
          refine e_aload_n aL_law_191 rfl ?_
          obtain ⟨q38, hq38, h⟩ := of_bind h
          refine e_VI [.int q37.1] aL_law_192 co_X8_erase mL_22 ly_176 rfl rfl (c_X8_erase l x hq38) rfl ⟨by decide, by decide⟩ (Nat.le_of_ble_eq_true rfl) rfl ?_
          rcases of_ite h with ⟨hc39, h⟩ | ⟨hc39, h⟩
          · refine e_icmp_eq (tgt := 871) aL_law_195 (by decide) (fun _ => ?_) (fun q => absurd hc39 q)
            refine e_iinc (v := i3 + 4) (L2 := [some (.ref x.2.2.2.2.2.1), some (.ref (x.2.2.1 + 0)), some (.ref (x.2.2.1 + 176)), some (.int (i3 + 4))]) aL_law_871 rfl rfl ⟨by decide, rfl⟩ rfl ?_
            refine e_goto (tgt := 18) aL_law_874 (by decide) ?_
            exact ih _ _ h
          · refine e_icmp_eq (tgt := 871) aL_law_195 (by decide) (fun q => absurd q hc39) (fun _ => ?_)
            refine e_iconst (v := 0) aL_law_198 (by decide) ?_
            exact e_retI aL_law_199 rfl (by decide +kernel) (pI_of h)
        · rcases of_ite h with ⟨hc5, h⟩ | ⟨hc5, h⟩
          · refine e_tableIn (off := 168) (tgt := 200) aL_law_32 (by rw [hc5]; decide) (by rw [hc5]; decide) (by rw [hc5]; rfl) (by decide) ?_
            refine e_aload_n aL_law_200 rfl ?_
            obtain ⟨q40, hq40, h⟩ := of_bind h
            refine e_VI [] aL_law_201 co_X7_fault mL_23 ly_0 rfl rfl (c_X7_fault l x hq40) rfl ⟨by decide, by decide⟩ (Nat.le_of_ble_eq_true rfl) rfl ?_
            refine e_aload_n aL_law_204 rfl ?_
            obtain ⟨q41, hq41, h⟩ := of_bind h
            refine e_VI [.int q40.1] aL_law_205 co_X8_fault mL_26 ly_176 rfl rfl (c_X8_fault l x hq41) rfl ⟨by decide, by decide⟩ (Nat.le_of_ble_eq_true rfl) rfl ?_
            rcases of_ite h with ⟨hc42, h⟩ | ⟨hc42, h⟩
            · refine e_icmp_eq (tgt := 871) aL_law_208 (by decide) (fun _ => ?_) (fun q => absurd hc42 q)
              refine e_iinc (v := i3 + 4) (L2 := [some (.ref x.2.2.2.2.2.1), some (.ref (x.2.2.1 + 0)), some (.ref (x.2.2.1 + 176)), some (.int (i3 + 4))]) aL_law_871 rfl rfl ⟨by decide, rfl⟩ rfl ?_
              refine e_goto (tgt := 18) aL_law_874 (by decide) ?_
              exact ih _ _ h
            · refine e_icmp_eq (tgt := 871) aL_law_208 (by decide) (fun q => absurd q hc42) (fun _ => ?_)
              refine e_iconst (v := 0) aL_law_211 (by decide) ?_
              exact e_retI aL_law_212 rfl (by decide +kernel) (pI_of h)
          · rcases of_ite h with ⟨hc6, h⟩ | ⟨hc6, h⟩
            · refine e_tableIn (off := 181) (tgt := 213) aL_law_32 (by rw [hc6]; decide) (by rw [hc6]; decide) (by rw [hc6]; rfl) (by decide) ?_
              refine e_aload_n aL_law_213 rfl ?_
              obtain ⟨q43, hq43, h⟩ := of_bind h
              refine e_VI [] aL_law_214 co_X7_quiver mL_27 ly_0 rfl rfl (c_X7_quiver l x hq43) rfl ⟨by decide, by decide⟩ (Nat.le_of_ble_eq_true rfl) rfl ?_
              refine e_aload_n aL_law_217 rfl ?_
              obtain ⟨q44, hq44, h⟩ := of_bind h
              refine e_VI [.int q43.1] aL_law_218 co_X8_quiver mL_30 ly_176 rfl rfl (c_X8_quiver l x hq44) rfl ⟨by decide, by decide⟩ (Nat.le_of_ble_eq_true rfl) rfl ?_
              rcases of_ite h with ⟨hc45, h⟩ | ⟨hc45, h⟩
              · refine e_icmp_eq (tgt := 871) aL_law_221 (by decide) (fun _ => ?_) (fun q => absurd hc45 q)
                refine e_iinc (v := i3 + 4) (L2 := [some (.ref x.2.2.2.2.2.1), some (.ref (x.2.2.1 + 0)), some (.ref (x.2.2.1 + 176)), some (.int (i3 + 4))]) aL_law_871 rfl rfl ⟨by decide, rfl⟩ rfl ?_
                refine e_goto (tgt := 18) aL_law_874 (by decide) ?_
                exact ih _ _ h
              · refine e_icmp_eq (tgt := 871) aL_law_221 (by decide) (fun q => absurd q hc45) (fun _ => ?_)
                refine e_iconst (v := 0) aL_law_224 (by decide) ?_
                exact e_retI aL_law_225 rfl (by decide +kernel) (pI_of h)
            · rcases of_ite h with ⟨hc7, h⟩ | ⟨hc7, h⟩
              · refine e_tableIn (off := 194) (tgt := 226) aL_law_32 (by rw [hc7]; decide) (by rw [hc7]; decide) (by rw [hc7]; rfl) (by decide) ?_
                refine e_aload_n aL_law_226 rfl ?_
                refine e_aload_n aL_law_227 rfl ?_
                refine e_iload_n aL_law_228 rfl ?_
                refine e_iconst (v := 1) aL_law_229 (by decide) ?_
                refine e_iadd aL_law_230 ?_
                obtain ⟨hg46, h⟩ := of_guard h
                refine e_sld aL_law_231 hg46 ?_
                refine e_aload_n aL_law_232 rfl ?_
                refine e_iload_n aL_law_233 rfl ?_
                refine e_iconst (v := 2) aL_law_234 (by decide) ?_
                refine e_iadd aL_law_235 ?_
                obtain ⟨hg47, h⟩ := of_guard h
                refine e_sld aL_law_236 hg47 ?_
                obtain ⟨r48, hr48, h⟩ := of_bind h
                refine e_VI [] aL_law_237 co_X7_arrow mL_31 ly_0 rfl rfl (c_X7_arrow l x hr48) rfl ⟨by decide, by decide⟩ (Nat.le_of_ble_eq_true rfl) rfl ?_
                refine e_aload_n aL_law_240 rfl ?_
                refine e_aload_n aL_law_241 rfl ?_
                refine e_iload_n aL_law_242 rfl ?_
                refine e_iconst (v := 1) aL_law_243 (by decide) ?_
                refine e_iadd aL_law_244 ?_
                obtain ⟨hg49, h⟩ := of_guard h
                refine e_sld aL_law_245 hg49 ?_
                refine e_aload_n aL_law_246 rfl ?_
                refine e_iload_n aL_law_247 rfl ?_
                refine e_iconst (v := 2) aL_law_248 (by decide) ?_
                refine e_iadd aL_law_249 ?_
                obtain ⟨hg50, h⟩ := of_guard h
                refine e_sld aL_law_250 hg50 ?_
                obtain ⟨r51, hr51, h⟩ := of_bind h
                refine e_VI [.int r48] aL_law_251 co_X8_arrow mL_35 ly_176 rfl rfl (c_X8_arrow l x hr51) rfl ⟨by decide, by decide⟩ (Nat.le_of_ble_eq_true rfl) rfl ?_
                rcases of_ite h with ⟨hc52, h⟩ | ⟨hc52, h⟩
                · refine e_icmp_eq (tgt := 871) aL_law_254 (by decide) (fun _ => ?_) (fun q => absurd hc52 q)
                  refine e_iinc (v := i3 + 4) (L2 := [some (.ref x.2.2.2.2.2.1), some (.ref (x.2.2.1 + 0)), some (.ref (x.2.2.1 + 176)), some (.int (i3 + 4))]) aL_law_871 rfl rfl ⟨by decide, rfl⟩ rfl ?_
                  refine e_goto (tgt := 18) aL_law_874 (by decide) ?_
                  exact ih _ _ h
                · refine e_icmp_eq (tgt := 871) aL_law_254 (by decide) (fun q => absurd q hc52) (fun _ => ?_)
                  refine e_iconst (v := 0) aL_law_257 (by decide) ?_
                  exact e_retI aL_law_258 rfl (by decide +kernel) (pI_of h)
              · rcases of_ite h with ⟨hc8, h⟩ | ⟨hc8, h⟩
                · refine e_tableIn (off := 227) (tgt := 259) aL_law_32 (by rw [hc8]; decide) (by rw [hc8]; decide) (by rw [hc8]; rfl) (by decide) ?_
                  refine e_aload_n aL_law_259 rfl ?_
                  refine e_aload_n aL_law_260 rfl ?_
                  refine e_iload_n aL_law_261 rfl ?_
                  refine e_iconst (v := 1) aL_law_262 (by decide) ?_
                  refine e_iadd aL_law_263 ?_
                  obtain ⟨hg53, h⟩ := of_guard h
                  refine e_sld aL_law_264 hg53 ?_
                  refine e_aload_n aL_law_265 rfl ?_
                  refine e_iload_n aL_law_266 rfl ?_
                  refine e_iconst (v := 2) aL_law_267 (by decide) ?_
                  refine e_iadd aL_law_268 ?_
                  obtain ⟨hg54, h⟩ := of_guard h
                  refine e_sld aL_law_269 hg54 ?_
                  obtain ⟨q55, hq55, h⟩ := of_bind h
                  refine e_VI [] aL_law_270 co_X7_point mL_36 ly_0 rfl rfl (c_X7_point l x hq55) rfl ⟨by decide, by decide⟩ (Nat.le_of_ble_eq_true rfl) rfl ?_
                  refine e_aload_n aL_law_273 rfl ?_
                  refine e_aload_n aL_law_274 rfl ?_
                  refine e_iload_n aL_law_275 rfl ?_
                  refine e_iconst (v := 1) aL_law_276 (by decide) ?_
                  refine e_iadd aL_law_277 ?_
                  obtain ⟨hg56, h⟩ := of_guard h
                  refine e_sld aL_law_278 hg56 ?_
                  refine e_aload_n aL_law_279 rfl ?_
                  refine e_iload_n aL_law_280 rfl ?_
                  refine e_iconst (v := 2) aL_law_281 (by decide) ?_
                  refine e_iadd aL_law_282 ?_
                  obtain ⟨hg57, h⟩ := of_guard h
                  refine e_sld aL_law_283 hg57 ?_
                  obtain ⟨r58, hr58, h⟩ := of_bind h
                  refine e_VI [.int q55.1] aL_law_284 co_X8_point mL_39 ly_176 rfl rfl (c_X8_point l x hr58) rfl ⟨by decide, by decide⟩ (Nat.le_of_ble_eq_true rfl) rfl ?_
                  rcases of_ite h with ⟨hc59, h⟩ | ⟨hc59, h⟩
                  · refine e_icmp_eq (tgt := 871) aL_law_287 (by decide) (fun _ => ?_) (fun q => absurd hc59 q)
                    refine e_iinc (v := i3 + 4) (L2 := [some (.ref x.2.2.2.2.2.1), some (.ref (x.2.2.1 + 0)), some (.ref (x.2.2.1 + 176)), some (.int (i3 + 4))]) aL_law_871 rfl rfl ⟨by decide, rfl⟩ rfl ?_
                    refine e_goto (tgt := 18) aL_law_874 (by decide) ?_
                    exact ih _ _ h
                  · refine e_icmp_eq (tgt := 871) aL_law_287 (by decide) (fun q => absurd q hc59) (fun _ => ?_)
                    refine e_iconst (v := 0) aL_law_290 (by decide) ?_
                    exact e_retI aL_law_291 rfl (by decide +kernel) (pI_of h)
                · rcases of_ite h with ⟨hc9, h⟩ | ⟨hc9, h⟩
                  · refine e_tableIn (off := 260) (tgt := 292) aL_law_32 (by rw [hc9]; decide) (by rw [hc9]; decide) (by rw [hc9]; rfl) (by decide) ?_
                    refine e_aload_n aL_law_292 rfl ?_
                    refine e_aload_n aL_law_293 rfl ?_
                    refine e_iload_n aL_law_294 rfl ?_
                    refine e_iconst (v := 1) aL_law_295 (by decide) ?_
                    refine e_iadd aL_law_296 ?_
                    obtain ⟨hg60, h⟩ := of_guard h
                    refine e_sld aL_law_297 hg60 ?_
                    refine e_aload_n aL_law_298 rfl ?_
                    refine e_iload_n aL_law_299 rfl ?_
                    refine e_iconst (v := 2) aL_law_300 (by decide) ?_
                    refine e_iadd aL_law_301 ?_
                    obtain ⟨hg61, h⟩ := of_guard h
                    refine e_sld aL_law_302 hg61 ?_
                    obtain ⟨q62, hq62, h⟩ := of_bind h
                    refine e_VI [] aL_law_303 co_X7_paths mL_40 ly_0 rfl rfl (c_X7_paths l x hq62) rfl ⟨by decide, by decide⟩ (Nat.le_of_ble_eq_true rfl) rfl ?_
                    refine e_aload_n aL_law_306 rfl ?_
                    refine e_aload_n aL_law_307 rfl ?_
                    refine e_iload_n aL_law_308 rfl ?_
                    refine e_iconst (v := 1) aL_law_309 (by decide) ?_
                    refine e_iadd aL_law_310 ?_
                    obtain ⟨hg63, h⟩ := of_guard h
                    refine e_sld aL_law_311 hg63 ?_
                    refine e_aload_n aL_law_312 rfl ?_
                    refine e_iload_n aL_law_313 rfl ?_
                    refine e_iconst (v := 2) aL_law_314 (by decide) ?_
                    refine e_iadd aL_law_315 ?_
                    obtain ⟨hg64, h⟩ := of_guard h
                    refine e_sld aL_law_316 hg64 ?_
                    obtain ⟨q65, hq65, h⟩ := of_bind h
                    refine e_VI [.int q62.1] aL_law_317 co_X8_paths mL_43 ly_176 rfl rfl (c_X8_paths l x hq65) rfl ⟨by decide, by decide⟩ (Nat.le_of_ble_eq_true rfl) rfl ?_
                    rcases of_ite h with ⟨hc66, h⟩ | ⟨hc66, h⟩
                    · refine e_icmp_eq (tgt := 871) aL_law_320 (by decide) (fun _ => ?_) (fun q => absurd hc66 q)
                      refine e_iinc (v := i3 + 4) (L2 := [some (.ref x.2.2.2.2.2.1), some (.ref (x.2.2.1 + 0)), some (.ref (x.2.2.1 + 176)), some (.int (i3 + 4))]) aL_law_871 rfl rfl ⟨by decide, rfl⟩ rfl ?_
                      refine e_goto (tgt := 18) aL_law_874 (by decide) ?_
                      exact ih _ _ h
                    · refine e_icmp_eq (tgt := 871) aL_law_320 (by decide) (fun q => absurd q hc66) (fun _ => ?_)
                      refine e_iconst (v := 0) aL_law_323 (by decide) ?_
                      exact e_retI aL_law_324 rfl (by decide +kernel) (pI_of h)
                  · rcases of_ite h with ⟨hc10, h⟩ | ⟨hc10, h⟩
                    · refine e_tableIn (off := 293) (tgt := 325) aL_law_32 (by rw [hc10]; decide) (by rw [hc10]; decide) (by rw [hc10]; rfl) (by decide) ?_
                      refine e_aload_n aL_law_325 rfl ?_
                      refine e_aload_n aL_law_326 rfl ?_
                      refine e_iload_n aL_law_327 rfl ?_
                      refine e_iconst (v := 1) aL_law_328 (by decide) ?_
                      refine e_iadd aL_law_329 ?_
                      obtain ⟨hg67, h⟩ := of_guard h
                      refine e_sld aL_law_330 hg67 ?_
                      refine e_aload_n aL_law_331 rfl ?_
                      refine e_iload_n aL_law_332 rfl ?_
                      refine e_iconst (v := 2) aL_law_333 (by decide) ?_
                      refine e_iadd aL_law_334 ?_
                      obtain ⟨hg68, h⟩ := of_guard h
                      refine e_sld aL_law_335 hg68 ?_
                      obtain ⟨q69, hq69, h⟩ := of_bind h
                      refine e_VI [] aL_law_336 co_X7_put mL_44 ly_0 rfl rfl (c_X7_put l x hq69) rfl ⟨by decide, by decide⟩ (Nat.le_of_ble_eq_true rfl) rfl ?_
                      refine e_aload_n aL_law_339 rfl ?_
                      refine e_aload_n aL_law_340 rfl ?_
                      refine e_iload_n aL_law_341 rfl ?_
                      refine e_iconst (v := 1) aL_law_342 (by decide) ?_
                      refine e_iadd aL_law_343 ?_
                      obtain ⟨hg70, h⟩ := of_guard h
                      refine e_sld aL_law_344 hg70 ?_
                      refine e_aload_n aL_law_345 rfl ?_
                      refine e_iload_n aL_law_346 rfl ?_
                      refine e_iconst (v := 2) aL_law_347 (by decide) ?_
                      refine e_iadd aL_law_348 ?_
                      obtain ⟨hg71, h⟩ := of_guard h
                      refine e_sld aL_law_349 hg71 ?_
                      obtain ⟨q72, hq72, h⟩ := of_bind h
                      refine e_VI [.int q69.1] aL_law_350 co_X8_put mL_47 ly_176 rfl rfl (c_X8_put l x hq72) rfl ⟨by decide, by decide⟩ (Nat.le_of_ble_eq_true rfl) rfl ?_
                      rcases of_ite h with ⟨hc73, h⟩ | ⟨hc73, h⟩
                      · refine e_icmp_eq (tgt := 871) aL_law_353 (by decide) (fun _ => ?_) (fun q => absurd hc73 q)
                        refine e_iinc (v := i3 + 4) (L2 := [some (.ref x.2.2.2.2.2.1), some (.ref (x.2.2.1 + 0)), some (.ref (x.2.2.1 + 176)), some (.int (i3 + 4))]) aL_law_871 rfl rfl ⟨by decide, rfl⟩ rfl ?_
                        refine e_goto (tgt := 18) aL_law_874 (by decide) ?_
                        exact ih _ _ h
                      · refine e_icmp_eq (tgt := 871) aL_law_353 (by decide) (fun q => absurd q hc73) (fun _ => ?_)
                        refine e_iconst (v := 0) aL_law_356 (by decide) ?_
                        exact e_retI aL_law_357 rfl (by decide +kernel) (pI_of h)
                    · rcases of_ite h with ⟨hc11, h⟩ | ⟨hc11, h⟩
                      · refine e_tableIn (off := 326) (tgt := 358) aL_law_32 (by rw [hc11]; decide) (by rw [hc11]; decide) (by rw [hc11]; rfl) (by decide) ?_
                        refine e_aload_n aL_law_358 rfl ?_
                        refine e_aload_n aL_law_359 rfl ?_
                        refine e_iload_n aL_law_360 rfl ?_
                        refine e_iconst (v := 1) aL_law_361 (by decide) ?_
                        refine e_iadd aL_law_362 ?_
                        obtain ⟨hg74, h⟩ := of_guard h
                        refine e_sld aL_law_363 hg74 ?_
                        obtain ⟨q75, hq75, h⟩ := of_bind h
                        refine e_VI [] aL_law_364 co_X7_cut mL_48 ly_0 rfl rfl (c_X7_cut l x hq75) rfl ⟨by decide, by decide⟩ (Nat.le_of_ble_eq_true rfl) rfl ?_
                        refine e_aload_n aL_law_367 rfl ?_
                        refine e_aload_n aL_law_368 rfl ?_
                        refine e_iload_n aL_law_369 rfl ?_
                        refine e_iconst (v := 1) aL_law_370 (by decide) ?_
                        refine e_iadd aL_law_371 ?_
                        obtain ⟨hg76, h⟩ := of_guard h
                        refine e_sld aL_law_372 hg76 ?_
                        obtain ⟨q77, hq77, h⟩ := of_bind h
                        refine e_VI [.int q75.1] aL_law_373 co_X8_cut mL_51 ly_176 rfl rfl (c_X8_cut l x hq77) rfl ⟨by decide, by decide⟩ (Nat.le_of_ble_eq_true rfl) rfl ?_
                        rcases of_ite h with ⟨hc78, h⟩ | ⟨hc78, h⟩
                        · refine e_icmp_eq (tgt := 871) aL_law_376 (by decide) (fun _ => ?_) (fun q => absurd hc78 q)
                          refine e_iinc (v := i3 + 4) (L2 := [some (.ref x.2.2.2.2.2.1), some (.ref (x.2.2.1 + 0)), some (.ref (x.2.2.1 + 176)), some (.int (i3 + 4))]) aL_law_871 rfl rfl ⟨by decide, rfl⟩ rfl ?_
                          refine e_goto (tgt := 18) aL_law_874 (by decide) ?_
                          exact ih _ _ h
                        · refine e_icmp_eq (tgt := 871) aL_law_376 (by decide) (fun q => absurd q hc78) (fun _ => ?_)
                          refine e_iconst (v := 0) aL_law_379 (by decide) ?_
                          exact e_retI aL_law_380 rfl (by decide +kernel) (pI_of h)
                      · rcases of_ite h with ⟨hc12, h⟩ | ⟨hc12, h⟩
                        · refine e_tableIn (off := 349) (tgt := 381) aL_law_32 (by rw [hc12]; decide) (by rw [hc12]; decide) (by rw [hc12]; rfl) (by decide) ?_
                          refine e_aload_n aL_law_381 rfl ?_
                          refine e_aload_n aL_law_382 rfl ?_
                          refine e_iload_n aL_law_383 rfl ?_
                          refine e_iconst (v := 1) aL_law_384 (by decide) ?_
                          refine e_iadd aL_law_385 ?_
                          obtain ⟨hg79, h⟩ := of_guard h
                          refine e_sld aL_law_386 hg79 ?_
                          obtain ⟨q80, hq80, h⟩ := of_bind h
                          refine e_VI [] aL_law_387 co_X7_turn mL_52 ly_0 rfl rfl (c_X7_turn l x hq80) rfl ⟨by decide, by decide⟩ (Nat.le_of_ble_eq_true rfl) rfl ?_
                          refine e_aload_n aL_law_390 rfl ?_
                          refine e_aload_n aL_law_391 rfl ?_
                          refine e_iload_n aL_law_392 rfl ?_
                          refine e_iconst (v := 1) aL_law_393 (by decide) ?_
                          refine e_iadd aL_law_394 ?_
                          obtain ⟨hg81, h⟩ := of_guard h
                          refine e_sld aL_law_395 hg81 ?_
                          obtain ⟨q82, hq82, h⟩ := of_bind h
                          refine e_VI [.int q80.1] aL_law_396 co_X8_turn mL_55 ly_176 rfl rfl (c_X8_turn l x hq82) rfl ⟨by decide, by decide⟩ (Nat.le_of_ble_eq_true rfl) rfl ?_
                          rcases of_ite h with ⟨hc83, h⟩ | ⟨hc83, h⟩
                          · refine e_icmp_eq (tgt := 871) aL_law_399 (by decide) (fun _ => ?_) (fun q => absurd hc83 q)
                            refine e_iinc (v := i3 + 4) (L2 := [some (.ref x.2.2.2.2.2.1), some (.ref (x.2.2.1 + 0)), some (.ref (x.2.2.1 + 176)), some (.int (i3 + 4))]) aL_law_871 rfl rfl ⟨by decide, rfl⟩ rfl ?_
                            refine e_goto (tgt := 18) aL_law_874 (by decide) ?_
                            exact ih _ _ h
                          · refine e_icmp_eq (tgt := 871) aL_law_399 (by decide) (fun q => absurd q hc83) (fun _ => ?_)
                            refine e_iconst (v := 0) aL_law_402 (by decide) ?_
                            exact e_retI aL_law_403 rfl (by decide +kernel) (pI_of h)
                        · rcases of_ite h with ⟨hc13, h⟩ | ⟨hc13, h⟩
                          · refine e_tableIn (off := 372) (tgt := 404) aL_law_32 (by rw [hc13]; decide) (by rw [hc13]; decide) (by rw [hc13]; rfl) (by decide) ?_
                            refine e_aload_n aL_law_404 rfl ?_
                            refine e_aload_n aL_law_405 rfl ?_
                            refine e_iload_n aL_law_406 rfl ?_
                            refine e_iconst (v := 1) aL_law_407 (by decide) ?_
                            refine e_iadd aL_law_408 ?_
                            obtain ⟨hg84, h⟩ := of_guard h
                            refine e_sld aL_law_409 hg84 ?_
                            refine e_aload_n aL_law_410 rfl ?_
                            refine e_iload_n aL_law_411 rfl ?_
                            refine e_iconst (v := 2) aL_law_412 (by decide) ?_
                            refine e_iadd aL_law_413 ?_
                            obtain ⟨hg85, h⟩ := of_guard h
                            refine e_sld aL_law_414 hg85 ?_
                            obtain ⟨q86, hq86, h⟩ := of_bind h
                            refine e_VI [] aL_law_415 co_X7_set mL_56 ly_0 rfl rfl (c_X7_set l x hq86) rfl ⟨by decide, by decide⟩ (Nat.le_of_ble_eq_true rfl) rfl ?_
                            refine e_aload_n aL_law_418 rfl ?_
                            refine e_aload_n aL_law_419 rfl ?_
                            refine e_iload_n aL_law_420 rfl ?_
                            refine e_iconst (v := 1) aL_law_421 (by decide) ?_
                            refine e_iadd aL_law_422 ?_
                            obtain ⟨hg87, h⟩ := of_guard h
                            refine e_sld aL_law_423 hg87 ?_
                            refine e_aload_n aL_law_424 rfl ?_
                            refine e_iload_n aL_law_425 rfl ?_
                            refine e_iconst (v := 2) aL_law_426 (by decide) ?_
                            refine e_iadd aL_law_427 ?_
                            obtain ⟨hg88, h⟩ := of_guard h
                            refine e_sld aL_law_428 hg88 ?_
                            obtain ⟨q89, hq89, h⟩ := of_bind h
                            refine e_VI [.int q86.1] aL_law_429 co_X8_set mL_59 ly_176 rfl rfl (c_X8_set l x hq89) rfl ⟨by decide, by decide⟩ (Nat.le_of_ble_eq_true rfl) rfl ?_
                            rcases of_ite h with ⟨hc90, h⟩ | ⟨hc90, h⟩
                            · refine e_icmp_eq (tgt := 871) aL_law_432 (by decide) (fun _ => ?_) (fun q => absurd hc90 q)
                              refine e_iinc (v := i3 + 4) (L2 := [some (.ref x.2.2.2.2.2.1), some (.ref (x.2.2.1 + 0)), some (.ref (x.2.2.1 + 176)), some (.int (i3 + 4))]) aL_law_871 rfl rfl ⟨by decide, rfl⟩ rfl ?_
                              refine e_goto (tgt := 18) aL_law_874 (by decide) ?_
                              exact ih _ _ h
                            · refine e_icmp_eq (tgt := 871) aL_law_432 (by decide) (fun q => absurd q hc90) (fun _ => ?_)
                              refine e_iconst (v := 0) aL_law_435 (by decide) ?_
                              exact e_retI aL_law_436 rfl (by decide +kernel) (pI_of h)
                          · rcases of_ite h with ⟨hc14, h⟩ | ⟨hc14, h⟩
                            · refine e_tableIn (off := 405) (tgt := 437) aL_law_32 (by rw [hc14]; decide) (by rw [hc14]; decide) (by rw [hc14]; rfl) (by decide) ?_
                              refine e_aload_n aL_law_437 rfl ?_
                              refine e_aload_n aL_law_438 rfl ?_
                              refine e_iload_n aL_law_439 rfl ?_
                              refine e_iconst (v := 1) aL_law_440 (by decide) ?_
                              refine e_iadd aL_law_441 ?_
                              obtain ⟨hg91, h⟩ := of_guard h
                              refine e_sld aL_law_442 hg91 ?_
                              obtain ⟨q92, hq92, h⟩ := of_bind h
                              refine e_VI [] aL_law_443 co_X7_shift mL_60 ly_0 rfl rfl (c_X7_shift l x hq92) rfl ⟨by decide, by decide⟩ (Nat.le_of_ble_eq_true rfl) rfl ?_
                              refine e_aload_n aL_law_446 rfl ?_
                              refine e_aload_n aL_law_447 rfl ?_
                              refine e_iload_n aL_law_448 rfl ?_
                              refine e_iconst (v := 1) aL_law_449 (by decide) ?_
                              refine e_iadd aL_law_450 ?_
                              obtain ⟨hg93, h⟩ := of_guard h
                              refine e_sld aL_law_451 hg93 ?_
                              obtain ⟨q94, hq94, h⟩ := of_bind h
                              refine e_VI [.int q92.1] aL_law_452 co_X8_shift mL_63 ly_176 rfl rfl (c_X8_shift l x hq94) rfl ⟨by decide, by decide⟩ (Nat.le_of_ble_eq_true rfl) rfl ?_
                              rcases of_ite h with ⟨hc95, h⟩ | ⟨hc95, h⟩
                              · refine e_icmp_eq (tgt := 871) aL_law_455 (by decide) (fun _ => ?_) (fun q => absurd hc95 q)
                                refine e_iinc (v := i3 + 4) (L2 := [some (.ref x.2.2.2.2.2.1), some (.ref (x.2.2.1 + 0)), some (.ref (x.2.2.1 + 176)), some (.int (i3 + 4))]) aL_law_871 rfl rfl ⟨by decide, rfl⟩ rfl ?_
                                refine e_goto (tgt := 18) aL_law_874 (by decide) ?_
                                exact ih _ _ h
                              · refine e_icmp_eq (tgt := 871) aL_law_455 (by decide) (fun q => absurd q hc95) (fun _ => ?_)
                                refine e_iconst (v := 0) aL_law_458 (by decide) ?_
                                exact e_retI aL_law_459 rfl (by decide +kernel) (pI_of h)
                            · rcases of_ite h with ⟨hc15, h⟩ | ⟨hc15, h⟩
                              · refine e_tableIn (off := 428) (tgt := 460) aL_law_32 (by rw [hc15]; decide) (by rw [hc15]; decide) (by rw [hc15]; rfl) (by decide) ?_
                                refine e_aload_n aL_law_460 rfl ?_
                                refine e_aload_n aL_law_461 rfl ?_
                                refine e_iload_n aL_law_462 rfl ?_
                                refine e_iconst (v := 1) aL_law_463 (by decide) ?_
                                refine e_iadd aL_law_464 ?_
                                obtain ⟨hg96, h⟩ := of_guard h
                                refine e_sld aL_law_465 hg96 ?_
                                obtain ⟨q97, hq97, h⟩ := of_bind h
                                refine e_VI [] aL_law_466 co_X7_take mL_64 ly_0 rfl rfl (c_X7_take l x hq97) rfl ⟨by decide, by decide⟩ (Nat.le_of_ble_eq_true rfl) rfl ?_
                                refine e_aload_n aL_law_469 rfl ?_
                                refine e_aload_n aL_law_470 rfl ?_
                                refine e_iload_n aL_law_471 rfl ?_
                                refine e_iconst (v := 1) aL_law_472 (by decide) ?_
                                refine e_iadd aL_law_473 ?_
                                obtain ⟨hg98, h⟩ := of_guard h
                                refine e_sld aL_law_474 hg98 ?_
                                obtain ⟨q99, hq99, h⟩ := of_bind h
                                refine e_VI [.int q97.1] aL_law_475 co_X8_take mL_67 ly_176 rfl rfl (c_X8_take l x hq99) rfl ⟨by decide, by decide⟩ (Nat.le_of_ble_eq_true rfl) rfl ?_
                                rcases of_ite h with ⟨hc100, h⟩ | ⟨hc100, h⟩
                                · refine e_icmp_eq (tgt := 871) aL_law_478 (by decide) (fun _ => ?_) (fun q => absurd hc100 q)
                                  refine e_iinc (v := i3 + 4) (L2 := [some (.ref x.2.2.2.2.2.1), some (.ref (x.2.2.1 + 0)), some (.ref (x.2.2.1 + 176)), some (.int (i3 + 4))]) aL_law_871 rfl rfl ⟨by decide, rfl⟩ rfl ?_
                                  refine e_goto (tgt := 18) aL_law_874 (by decide) ?_
                                  exact ih _ _ h
                                · refine e_icmp_eq (tgt := 871) aL_law_478 (by decide) (fun q => absurd q hc100) (fun _ => ?_)
                                  refine e_iconst (v := 0) aL_law_481 (by decide) ?_
                                  exact e_retI aL_law_482 rfl (by decide +kernel) (pI_of h)
                              · rcases of_ite h with ⟨hc16, h⟩ | ⟨hc16, h⟩
                                · refine e_tableIn (off := 451) (tgt := 483) aL_law_32 (by rw [hc16]; decide) (by rw [hc16]; decide) (by rw [hc16]; rfl) (by decide) ?_
                                  refine e_aload_n aL_law_483 rfl ?_
                                  obtain ⟨q101, hq101, h⟩ := of_bind h
                                  refine e_VI [] aL_law_484 co_X7_undo mL_68 ly_0 rfl rfl (c_X7_undo l x hq101) rfl ⟨by decide, by decide⟩ (Nat.le_of_ble_eq_true rfl) rfl ?_
                                  refine e_aload_n aL_law_487 rfl ?_
                                  obtain ⟨q102, hq102, h⟩ := of_bind h
                                  refine e_VI [.int q101.1] aL_law_488 co_X8_undo mL_71 ly_176 rfl rfl (c_X8_undo l x hq102) rfl ⟨by decide, by decide⟩ (Nat.le_of_ble_eq_true rfl) rfl ?_
                                  rcases of_ite h with ⟨hc103, h⟩ | ⟨hc103, h⟩
                                  · refine e_icmp_eq (tgt := 871) aL_law_491 (by decide) (fun _ => ?_) (fun q => absurd hc103 q)
                                    refine e_iinc (v := i3 + 4) (L2 := [some (.ref x.2.2.2.2.2.1), some (.ref (x.2.2.1 + 0)), some (.ref (x.2.2.1 + 176)), some (.int (i3 + 4))]) aL_law_871 rfl rfl ⟨by decide, rfl⟩ rfl ?_
                                    refine e_goto (tgt := 18) aL_law_874 (by decide) ?_
                                    exact ih _ _ h
                                  · refine e_icmp_eq (tgt := 871) aL_law_491 (by decide) (fun q => absurd q hc103) (fun _ => ?_)
                                    refine e_iconst (v := 0) aL_law_494 (by decide) ?_
                                    exact e_retI aL_law_495 rfl (by decide +kernel) (pI_of h)
                                · rcases of_ite h with ⟨hc17, h⟩ | ⟨hc17, h⟩
                                  · refine e_tableIn (off := 464) (tgt := 496) aL_law_32 (by rw [hc17]; decide) (by rw [hc17]; decide) (by rw [hc17]; rfl) (by decide) ?_
                                    refine e_aload_n aL_law_496 rfl ?_
                                    refine e_aload_n aL_law_497 rfl ?_
                                    refine e_iload_n aL_law_498 rfl ?_
                                    refine e_iconst (v := 1) aL_law_499 (by decide) ?_
                                    refine e_iadd aL_law_500 ?_
                                    obtain ⟨hg104, h⟩ := of_guard h
                                    refine e_sld aL_law_501 hg104 ?_
                                    obtain ⟨q105, hq105, h⟩ := of_bind h
                                    refine e_VI [] aL_law_502 co_X7_keep mL_72 ly_0 rfl rfl (c_X7_keep l x hq105) rfl ⟨by decide, by decide⟩ (Nat.le_of_ble_eq_true rfl) rfl ?_
                                    refine e_aload_n aL_law_505 rfl ?_
                                    refine e_aload_n aL_law_506 rfl ?_
                                    refine e_iload_n aL_law_507 rfl ?_
                                    refine e_iconst (v := 1) aL_law_508 (by decide) ?_
                                    refine e_iadd aL_law_509 ?_
                                    obtain ⟨hg106, h⟩ := of_guard h
                                    refine e_sld aL_law_510 hg106 ?_
                                    obtain ⟨q107, hq107, h⟩ := of_bind h
                                    refine e_VI [.int q105.1] aL_law_511 co_X8_keep mL_75 ly_176 rfl rfl (c_X8_keep l x hq107) rfl ⟨by decide, by decide⟩ (Nat.le_of_ble_eq_true rfl) rfl ?_
                                    rcases of_ite h with ⟨hc108, h⟩ | ⟨hc108, h⟩
                                    · refine e_icmp_eq (tgt := 871) aL_law_514 (by decide) (fun _ => ?_) (fun q => absurd hc108 q)
                                      refine e_iinc (v := i3 + 4) (L2 := [some (.ref x.2.2.2.2.2.1), some (.ref (x.2.2.1 + 0)), some (.ref (x.2.2.1 + 176)), some (.int (i3 + 4))]) aL_law_871 rfl rfl ⟨by decide, rfl⟩ rfl ?_
                                      refine e_goto (tgt := 18) aL_law_874 (by decide) ?_
                                      exact ih _ _ h
                                    · refine e_icmp_eq (tgt := 871) aL_law_514 (by decide) (fun q => absurd q hc108) (fun _ => ?_)
                                      refine e_iconst (v := 0) aL_law_517 (by decide) ?_
                                      exact e_retI aL_law_518 rfl (by decide +kernel) (pI_of h)
                                  · rcases of_ite h with ⟨hc18, h⟩ | ⟨hc18, h⟩
                                    · refine e_tableIn (off := 487) (tgt := 519) aL_law_32 (by rw [hc18]; decide) (by rw [hc18]; decide) (by rw [hc18]; rfl) (by decide) ?_
                                      refine e_aload_n aL_law_519 rfl ?_
                                      refine e_aload_n aL_law_520 rfl ?_
                                      refine e_iload_n aL_law_521 rfl ?_
                                      refine e_iconst (v := 1) aL_law_522 (by decide) ?_
                                      refine e_iadd aL_law_523 ?_
                                      obtain ⟨hg109, h⟩ := of_guard h
                                      refine e_sld aL_law_524 hg109 ?_
                                      obtain ⟨q110, hq110, h⟩ := of_bind h
                                      refine e_VI [] aL_law_525 co_X7_back mL_76 ly_0 rfl rfl (c_X7_back l x hq110) rfl ⟨by decide, by decide⟩ (Nat.le_of_ble_eq_true rfl) rfl ?_
                                      refine e_aload_n aL_law_528 rfl ?_
                                      refine e_aload_n aL_law_529 rfl ?_
                                      refine e_iload_n aL_law_530 rfl ?_
                                      refine e_iconst (v := 1) aL_law_531 (by decide) ?_
                                      refine e_iadd aL_law_532 ?_
                                      obtain ⟨hg111, h⟩ := of_guard h
                                      refine e_sld aL_law_533 hg111 ?_
                                      obtain ⟨q112, hq112, h⟩ := of_bind h
                                      refine e_VI [.int q110.1] aL_law_534 co_X8_back mL_79 ly_176 rfl rfl (c_X8_back l x hq112) rfl ⟨by decide, by decide⟩ (Nat.le_of_ble_eq_true rfl) rfl ?_
                                      rcases of_ite h with ⟨hc113, h⟩ | ⟨hc113, h⟩
                                      · refine e_icmp_eq (tgt := 871) aL_law_537 (by decide) (fun _ => ?_) (fun q => absurd hc113 q)
                                        refine e_iinc (v := i3 + 4) (L2 := [some (.ref x.2.2.2.2.2.1), some (.ref (x.2.2.1 + 0)), some (.ref (x.2.2.1 + 176)), some (.int (i3 + 4))]) aL_law_871 rfl rfl ⟨by decide, rfl⟩ rfl ?_
                                        refine e_goto (tgt := 18) aL_law_874 (by decide) ?_
                                        exact ih _ _ h
                                      · refine e_icmp_eq (tgt := 871) aL_law_537 (by decide) (fun q => absurd q hc113) (fun _ => ?_)
                                        refine e_iconst (v := 0) aL_law_540 (by decide) ?_
                                        exact e_retI aL_law_541 rfl (by decide +kernel) (pI_of h)
                                    · rcases of_ite h with ⟨hc19, h⟩ | ⟨hc19, h⟩
                                      · refine e_tableIn (off := 510) (tgt := 542) aL_law_32 (by rw [hc19]; decide) (by rw [hc19]; decide) (by rw [hc19]; rfl) (by decide) ?_
                                        refine e_aload_n aL_law_542 rfl ?_
                                        refine e_aload_n aL_law_543 rfl ?_
                                        refine e_iload_n aL_law_544 rfl ?_
                                        refine e_iconst (v := 1) aL_law_545 (by decide) ?_
                                        refine e_iadd aL_law_546 ?_
                                        obtain ⟨hg114, h⟩ := of_guard h
                                        refine e_sld aL_law_547 hg114 ?_
                                        obtain ⟨r115, hr115, h⟩ := of_bind h
                                        refine e_VI [] aL_law_548 co_X7_turned mL_80 ly_0 rfl rfl (c_X7_turned l x hr115) rfl ⟨by decide, by decide⟩ (Nat.le_of_ble_eq_true rfl) rfl ?_
                                        refine e_aload_n aL_law_551 rfl ?_
                                        refine e_aload_n aL_law_552 rfl ?_
                                        refine e_iload_n aL_law_553 rfl ?_
                                        refine e_iconst (v := 1) aL_law_554 (by decide) ?_
                                        refine e_iadd aL_law_555 ?_
                                        obtain ⟨hg116, h⟩ := of_guard h
                                        refine e_sld aL_law_556 hg116 ?_
                                        obtain ⟨r117, hr117, h⟩ := of_bind h
                                        refine e_VI [.int r115] aL_law_557 co_X8_turned mL_83 ly_176 rfl rfl (c_X8_turned l x hr117) rfl ⟨by decide, by decide⟩ (Nat.le_of_ble_eq_true rfl) rfl ?_
                                        rcases of_ite h with ⟨hc118, h⟩ | ⟨hc118, h⟩
                                        · refine e_icmp_eq (tgt := 871) aL_law_560 (by decide) (fun _ => ?_) (fun q => absurd hc118 q)
                                          refine e_iinc (v := i3 + 4) (L2 := [some (.ref x.2.2.2.2.2.1), some (.ref (x.2.2.1 + 0)), some (.ref (x.2.2.1 + 176)), some (.int (i3 + 4))]) aL_law_871 rfl rfl ⟨by decide, rfl⟩ rfl ?_
                                          refine e_goto (tgt := 18) aL_law_874 (by decide) ?_
                                          exact ih _ _ h
                                        · refine e_icmp_eq (tgt := 871) aL_law_560 (by decide) (fun q => absurd q hc118) (fun _ => ?_)
                                          refine e_iconst (v := 0) aL_law_563 (by decide) ?_
                                          exact e_retI aL_law_564 rfl (by decide +kernel) (pI_of h)
                                      · rcases of_ite h with ⟨hc20, h⟩ | ⟨hc20, h⟩
                                        · refine e_tableIn (off := 533) (tgt := 565) aL_law_32 (by rw [hc20]; decide) (by rw [hc20]; decide) (by rw [hc20]; rfl) (by decide) ?_
                                          refine e_aload_n aL_law_565 rfl ?_
                                          refine e_aload_n aL_law_566 rfl ?_
                                          refine e_iload_n aL_law_567 rfl ?_
                                          refine e_iconst (v := 1) aL_law_568 (by decide) ?_
                                          refine e_iadd aL_law_569 ?_
                                          obtain ⟨hg119, h⟩ := of_guard h
                                          refine e_sld aL_law_570 hg119 ?_
                                          refine e_aload_n aL_law_571 rfl ?_
                                          refine e_iload_n aL_law_572 rfl ?_
                                          refine e_iconst (v := 2) aL_law_573 (by decide) ?_
                                          refine e_iadd aL_law_574 ?_
                                          obtain ⟨hg120, h⟩ := of_guard h
                                          refine e_sld aL_law_575 hg120 ?_
                                          obtain ⟨q121, hq121, h⟩ := of_bind h
                                          refine e_VI [] aL_law_576 co_X7_root mL_84 ly_0 rfl rfl (c_X7_root l x hq121) rfl ⟨by decide, by decide⟩ (Nat.le_of_ble_eq_true rfl) rfl ?_
                                          refine e_aload_n aL_law_579 rfl ?_
                                          refine e_aload_n aL_law_580 rfl ?_
                                          refine e_iload_n aL_law_581 rfl ?_
                                          refine e_iconst (v := 1) aL_law_582 (by decide) ?_
                                          refine e_iadd aL_law_583 ?_
                                          obtain ⟨hg122, h⟩ := of_guard h
                                          refine e_sld aL_law_584 hg122 ?_
                                          refine e_aload_n aL_law_585 rfl ?_
                                          refine e_iload_n aL_law_586 rfl ?_
                                          refine e_iconst (v := 2) aL_law_587 (by decide) ?_
                                          refine e_iadd aL_law_588 ?_
                                          obtain ⟨hg123, h⟩ := of_guard h
                                          refine e_sld aL_law_589 hg123 ?_
                                          obtain ⟨q124, hq124, h⟩ := of_bind h
                                          refine e_VI [.int q121.1] aL_law_590 co_X8_root mL_87 ly_176 rfl rfl (c_X8_root l x hq124) rfl ⟨by decide, by decide⟩ (Nat.le_of_ble_eq_true rfl) rfl ?_
                                          rcases of_ite h with ⟨hc125, h⟩ | ⟨hc125, h⟩
                                          · refine e_icmp_eq (tgt := 871) aL_law_593 (by decide) (fun _ => ?_) (fun q => absurd hc125 q)
                                            refine e_iinc (v := i3 + 4) (L2 := [some (.ref x.2.2.2.2.2.1), some (.ref (x.2.2.1 + 0)), some (.ref (x.2.2.1 + 176)), some (.int (i3 + 4))]) aL_law_871 rfl rfl ⟨by decide, rfl⟩ rfl ?_
                                            refine e_goto (tgt := 18) aL_law_874 (by decide) ?_
                                            exact ih _ _ h
                                          · refine e_icmp_eq (tgt := 871) aL_law_593 (by decide) (fun q => absurd q hc125) (fun _ => ?_)
                                            refine e_iconst (v := 0) aL_law_596 (by decide) ?_
                                            exact e_retI aL_law_597 rfl (by decide +kernel) (pI_of h)
                                        · rcases of_ite h with ⟨hc21, h⟩ | ⟨hc21, h⟩
                                          · refine e_tableIn (off := 566) (tgt := 598) aL_law_32 (by rw [hc21]; decide) (by rw [hc21]; decide) (by rw [hc21]; rfl) (by decide) ?_
                                            refine e_aload_n aL_law_598 rfl ?_
                                            refine e_aload_n aL_law_599 rfl ?_
                                            refine e_iload_n aL_law_600 rfl ?_
                                            refine e_iconst (v := 1) aL_law_601 (by decide) ?_
                                            refine e_iadd aL_law_602 ?_
                                            obtain ⟨hg126, h⟩ := of_guard h
                                            refine e_sld aL_law_603 hg126 ?_
                                            refine e_aload_n aL_law_604 rfl ?_
                                            refine e_iload_n aL_law_605 rfl ?_
                                            refine e_iconst (v := 2) aL_law_606 (by decide) ?_
                                            refine e_iadd aL_law_607 ?_
                                            obtain ⟨hg127, h⟩ := of_guard h
                                            refine e_sld aL_law_608 hg127 ?_
                                            obtain ⟨q128, hq128, h⟩ := of_bind h
                                            refine e_VI [] aL_law_609 co_X7_place mL_88 ly_0 rfl rfl (c_X7_place l x hq128) rfl ⟨by decide, by decide⟩ (Nat.le_of_ble_eq_true rfl) rfl ?_
                                            refine e_aload_n aL_law_612 rfl ?_
                                            refine e_aload_n aL_law_613 rfl ?_
                                            refine e_iload_n aL_law_614 rfl ?_
                                            refine e_iconst (v := 1) aL_law_615 (by decide) ?_
                                            refine e_iadd aL_law_616 ?_
                                            obtain ⟨hg129, h⟩ := of_guard h
                                            refine e_sld aL_law_617 hg129 ?_
                                            refine e_aload_n aL_law_618 rfl ?_
                                            refine e_iload_n aL_law_619 rfl ?_
                                            refine e_iconst (v := 2) aL_law_620 (by decide) ?_
                                            refine e_iadd aL_law_621 ?_
                                            obtain ⟨hg130, h⟩ := of_guard h
                                            refine e_sld aL_law_622 hg130 ?_
                                            obtain ⟨q131, hq131, h⟩ := of_bind h
                                            refine e_VI [.int q128.1] aL_law_623 co_X8_place mL_91 ly_176 rfl rfl (c_X8_place l x hq131) rfl ⟨by decide, by decide⟩ (Nat.le_of_ble_eq_true rfl) rfl ?_
                                            rcases of_ite h with ⟨hc132, h⟩ | ⟨hc132, h⟩
                                            · refine e_icmp_eq (tgt := 871) aL_law_626 (by decide) (fun _ => ?_) (fun q => absurd hc132 q)
                                              refine e_iinc (v := i3 + 4) (L2 := [some (.ref x.2.2.2.2.2.1), some (.ref (x.2.2.1 + 0)), some (.ref (x.2.2.1 + 176)), some (.int (i3 + 4))]) aL_law_871 rfl rfl ⟨by decide, rfl⟩ rfl ?_
                                              refine e_goto (tgt := 18) aL_law_874 (by decide) ?_
                                              exact ih _ _ h
                                            · refine e_icmp_eq (tgt := 871) aL_law_626 (by decide) (fun q => absurd q hc132) (fun _ => ?_)
                                              refine e_iconst (v := 0) aL_law_629 (by decide) ?_
                                              exact e_retI aL_law_630 rfl (by decide +kernel) (pI_of h)
                                          · rcases of_ite h with ⟨hc22, h⟩ | ⟨hc22, h⟩
                                            · refine e_tableIn (off := 599) (tgt := 631) aL_law_32 (by rw [hc22]; decide) (by rw [hc22]; decide) (by rw [hc22]; rfl) (by decide) ?_
                                              refine e_aload_n aL_law_631 rfl ?_
                                              refine e_aload_n aL_law_632 rfl ?_
                                              refine e_iload_n aL_law_633 rfl ?_
                                              refine e_iconst (v := 1) aL_law_634 (by decide) ?_
                                              refine e_iadd aL_law_635 ?_
                                              obtain ⟨hg133, h⟩ := of_guard h
                                              refine e_sld aL_law_636 hg133 ?_
                                              refine e_aload_n aL_law_637 rfl ?_
                                              refine e_iload_n aL_law_638 rfl ?_
                                              refine e_iconst (v := 2) aL_law_639 (by decide) ?_
                                              refine e_iadd aL_law_640 ?_
                                              obtain ⟨hg134, h⟩ := of_guard h
                                              refine e_sld aL_law_641 hg134 ?_
                                              refine e_aload_n aL_law_642 rfl ?_
                                              refine e_iload_n aL_law_643 rfl ?_
                                              refine e_iconst (v := 3) aL_law_644 (by decide) ?_
                                              refine e_iadd aL_law_645 ?_
                                              obtain ⟨hg135, h⟩ := of_guard h
                                              refine e_sld aL_law_646 hg135 ?_
                                              obtain ⟨q136, hq136, h⟩ := of_bind h
                                              refine e_VI [] aL_law_647 co_X7_between mL_92 ly_0 rfl rfl (c_X7_between l x hq136) rfl ⟨by decide, by decide⟩ (Nat.le_of_ble_eq_true rfl) rfl ?_
                                              refine e_aload_n aL_law_650 rfl ?_
                                              refine e_aload_n aL_law_651 rfl ?_
                                              refine e_iload_n aL_law_652 rfl ?_
                                              refine e_iconst (v := 1) aL_law_653 (by decide) ?_
                                              refine e_iadd aL_law_654 ?_
                                              obtain ⟨hg137, h⟩ := of_guard h
                                              refine e_sld aL_law_655 hg137 ?_
                                              refine e_aload_n aL_law_656 rfl ?_
                                              refine e_iload_n aL_law_657 rfl ?_
                                              refine e_iconst (v := 2) aL_law_658 (by decide) ?_
                                              refine e_iadd aL_law_659 ?_
                                              obtain ⟨hg138, h⟩ := of_guard h
                                              refine e_sld aL_law_660 hg138 ?_
                                              refine e_aload_n aL_law_661 rfl ?_
                                              refine e_iload_n aL_law_662 rfl ?_
                                              refine e_iconst (v := 3) aL_law_663 (by decide) ?_
                                              refine e_iadd aL_law_664 ?_
                                              obtain ⟨hg139, h⟩ := of_guard h
                                              refine e_sld aL_law_665 hg139 ?_
                                              obtain ⟨q140, hq140, h⟩ := of_bind h
                                              refine e_VI [.int q136.1] aL_law_666 co_X8_between mL_96 ly_176 rfl rfl (c_X8_between l x hq140) rfl ⟨by decide, by decide⟩ (Nat.le_of_ble_eq_true rfl) rfl ?_
                                              rcases of_ite h with ⟨hc141, h⟩ | ⟨hc141, h⟩
                                              · refine e_icmp_eq (tgt := 871) aL_law_669 (by decide) (fun _ => ?_) (fun q => absurd hc141 q)
                                                refine e_iinc (v := i3 + 4) (L2 := [some (.ref x.2.2.2.2.2.1), some (.ref (x.2.2.1 + 0)), some (.ref (x.2.2.1 + 176)), some (.int (i3 + 4))]) aL_law_871 rfl rfl ⟨by decide, rfl⟩ rfl ?_
                                                refine e_goto (tgt := 18) aL_law_874 (by decide) ?_
                                                exact ih _ _ h
                                              · refine e_icmp_eq (tgt := 871) aL_law_669 (by decide) (fun q => absurd q hc141) (fun _ => ?_)
                                                refine e_iconst (v := 0) aL_law_672 (by decide) ?_
                                                exact e_retI aL_law_673 rfl (by decide +kernel) (pI_of h)
                                            · rcases of_ite h with ⟨hc23, h⟩ | ⟨hc23, h⟩
                                              · refine e_tableIn (off := 642) (tgt := 674) aL_law_32 (by rw [hc23]; decide) (by rw [hc23]; decide) (by rw [hc23]; rfl) (by decide) ?_
                                                refine e_aload_n aL_law_674 rfl ?_
                                                obtain ⟨q142, hq142, h⟩ := of_bind h
                                                refine e_VI [] aL_law_675 co_X7_find mL_97 ly_0 rfl rfl (c_X7_find l x hq142) rfl ⟨by decide, by decide⟩ (Nat.le_of_ble_eq_true rfl) rfl ?_
                                                refine e_aload_n aL_law_678 rfl ?_
                                                obtain ⟨q143, hq143, h⟩ := of_bind h
                                                refine e_VI [.int q142.1] aL_law_679 co_X8_find mL_100 ly_176 rfl rfl (c_X8_find l x hq143) rfl ⟨by decide, by decide⟩ (Nat.le_of_ble_eq_true rfl) rfl ?_
                                                rcases of_ite h with ⟨hc144, h⟩ | ⟨hc144, h⟩
                                                · refine e_icmp_eq (tgt := 871) aL_law_682 (by decide) (fun _ => ?_) (fun q => absurd hc144 q)
                                                  refine e_iinc (v := i3 + 4) (L2 := [some (.ref x.2.2.2.2.2.1), some (.ref (x.2.2.1 + 0)), some (.ref (x.2.2.1 + 176)), some (.int (i3 + 4))]) aL_law_871 rfl rfl ⟨by decide, rfl⟩ rfl ?_
                                                  refine e_goto (tgt := 18) aL_law_874 (by decide) ?_
                                                  exact ih _ _ h
                                                · refine e_icmp_eq (tgt := 871) aL_law_682 (by decide) (fun q => absurd q hc144) (fun _ => ?_)
                                                  refine e_iconst (v := 0) aL_law_685 (by decide) ?_
                                                  exact e_retI aL_law_686 rfl (by decide +kernel) (pI_of h)
                                              · rcases of_ite h with ⟨hc24, h⟩ | ⟨hc24, h⟩
                                                · refine e_tableIn (off := 655) (tgt := 687) aL_law_32 (by rw [hc24]; decide) (by rw [hc24]; decide) (by rw [hc24]; rfl) (by decide) ?_
                                                  refine e_aload_n aL_law_687 rfl ?_
                                                  obtain ⟨q145, hq145, h⟩ := of_bind h
                                                  refine e_VI [] aL_law_688 co_X7_sums mL_101 ly_0 rfl rfl (c_X7_sums l x hq145) rfl ⟨by decide, by decide⟩ (Nat.le_of_ble_eq_true rfl) rfl ?_
                                                  refine e_aload_n aL_law_691 rfl ?_
                                                  obtain ⟨q146, hq146, h⟩ := of_bind h
                                                  refine e_VI [.int q145.1] aL_law_692 co_X8_sums mL_104 ly_176 rfl rfl (c_X8_sums l x hq146) rfl ⟨by decide, by decide⟩ (Nat.le_of_ble_eq_true rfl) rfl ?_
                                                  rcases of_ite h with ⟨hc147, h⟩ | ⟨hc147, h⟩
                                                  · refine e_icmp_eq (tgt := 871) aL_law_695 (by decide) (fun _ => ?_) (fun q => absurd hc147 q)
                                                    refine e_iinc (v := i3 + 4) (L2 := [some (.ref x.2.2.2.2.2.1), some (.ref (x.2.2.1 + 0)), some (.ref (x.2.2.1 + 176)), some (.int (i3 + 4))]) aL_law_871 rfl rfl ⟨by decide, rfl⟩ rfl ?_
                                                    refine e_goto (tgt := 18) aL_law_874 (by decide) ?_
                                                    exact ih _ _ h
                                                  · refine e_icmp_eq (tgt := 871) aL_law_695 (by decide) (fun q => absurd q hc147) (fun _ => ?_)
                                                    refine e_iconst (v := 0) aL_law_698 (by decide) ?_
                                                    exact e_retI aL_law_699 rfl (by decide +kernel) (pI_of h)
                                                · rcases of_ite h with ⟨hc25, h⟩ | ⟨hc25, h⟩
                                                  · refine e_tableIn (off := 668) (tgt := 700) aL_law_32 (by rw [hc25]; decide) (by rw [hc25]; decide) (by rw [hc25]; rfl) (by decide) ?_
                                                    refine e_aload_n aL_law_700 rfl ?_
                                                    refine e_aload_n aL_law_701 rfl ?_
                                                    refine e_iload_n aL_law_702 rfl ?_
                                                    refine e_iconst (v := 1) aL_law_703 (by decide) ?_
                                                    refine e_iadd aL_law_704 ?_
                                                    obtain ⟨hg148, h⟩ := of_guard h
                                                    refine e_sld aL_law_705 hg148 ?_
                                                    obtain ⟨q149, hq149, h⟩ := of_bind h
                                                    refine e_VI [] aL_law_706 co_X7_shelf mL_105 ly_0 rfl rfl (c_X7_shelf l x hq149) rfl ⟨by decide, by decide⟩ (Nat.le_of_ble_eq_true rfl) rfl ?_
                                                    refine e_aload_n aL_law_709 rfl ?_
                                                    refine e_aload_n aL_law_710 rfl ?_
                                                    refine e_iload_n aL_law_711 rfl ?_
                                                    refine e_iconst (v := 1) aL_law_712 (by decide) ?_
                                                    refine e_iadd aL_law_713 ?_
                                                    obtain ⟨hg150, h⟩ := of_guard h
                                                    refine e_sld aL_law_714 hg150 ?_
                                                    obtain ⟨q151, hq151, h⟩ := of_bind h
                                                    refine e_VI [.int q149.1] aL_law_715 co_X8_shelf mL_108 ly_176 rfl rfl (c_X8_shelf l x hq151) rfl ⟨by decide, by decide⟩ (Nat.le_of_ble_eq_true rfl) rfl ?_
                                                    rcases of_ite h with ⟨hc152, h⟩ | ⟨hc152, h⟩
                                                    · refine e_icmp_eq (tgt := 871) aL_law_718 (by decide) (fun _ => ?_) (fun q => absurd hc152 q)
                                                      refine e_iinc (v := i3 + 4) (L2 := [some (.ref x.2.2.2.2.2.1), some (.ref (x.2.2.1 + 0)), some (.ref (x.2.2.1 + 176)), some (.int (i3 + 4))]) aL_law_871 rfl rfl ⟨by decide, rfl⟩ rfl ?_
                                                      refine e_goto (tgt := 18) aL_law_874 (by decide) ?_
                                                      exact ih _ _ h
                                                    · refine e_icmp_eq (tgt := 871) aL_law_718 (by decide) (fun q => absurd q hc152) (fun _ => ?_)
                                                      refine e_iconst (v := 0) aL_law_721 (by decide) ?_
                                                      exact e_retI aL_law_722 rfl (by decide +kernel) (pI_of h)
                                                  · rcases of_ite h with ⟨hc26, h⟩ | ⟨hc26, h⟩
                                                    · refine e_tableIn (off := 691) (tgt := 723) aL_law_32 (by rw [hc26]; decide) (by rw [hc26]; decide) (by rw [hc26]; rfl) (by decide) ?_
                                                      refine e_aload_n aL_law_723 rfl ?_
                                                      refine e_aload_n aL_law_724 rfl ?_
                                                      refine e_iload_n aL_law_725 rfl ?_
                                                      refine e_iconst (v := 1) aL_law_726 (by decide) ?_
                                                      refine e_iadd aL_law_727 ?_
                                                      obtain ⟨hg153, h⟩ := of_guard h
                                                      refine e_sld aL_law_728 hg153 ?_
                                                      obtain ⟨q154, hq154, h⟩ := of_bind h
                                                      refine e_VI [] aL_law_729 co_X7_lay mL_109 ly_0 rfl rfl (c_X7_lay l x hq154) rfl ⟨by decide, by decide⟩ (Nat.le_of_ble_eq_true rfl) rfl ?_
                                                      refine e_aload_n aL_law_732 rfl ?_
                                                      refine e_aload_n aL_law_733 rfl ?_
                                                      refine e_iload_n aL_law_734 rfl ?_
                                                      refine e_iconst (v := 1) aL_law_735 (by decide) ?_
                                                      refine e_iadd aL_law_736 ?_
                                                      obtain ⟨hg155, h⟩ := of_guard h
                                                      refine e_sld aL_law_737 hg155 ?_
                                                      obtain ⟨q156, hq156, h⟩ := of_bind h
                                                      refine e_VI [.int q154.1] aL_law_738 co_X8_lay mL_112 ly_176 rfl rfl (c_X8_lay l x hq156) rfl ⟨by decide, by decide⟩ (Nat.le_of_ble_eq_true rfl) rfl ?_
                                                      rcases of_ite h with ⟨hc157, h⟩ | ⟨hc157, h⟩
                                                      · refine e_icmp_eq (tgt := 871) aL_law_741 (by decide) (fun _ => ?_) (fun q => absurd hc157 q)
                                                        refine e_iinc (v := i3 + 4) (L2 := [some (.ref x.2.2.2.2.2.1), some (.ref (x.2.2.1 + 0)), some (.ref (x.2.2.1 + 176)), some (.int (i3 + 4))]) aL_law_871 rfl rfl ⟨by decide, rfl⟩ rfl ?_
                                                        refine e_goto (tgt := 18) aL_law_874 (by decide) ?_
                                                        exact ih _ _ h
                                                      · refine e_icmp_eq (tgt := 871) aL_law_741 (by decide) (fun q => absurd q hc157) (fun _ => ?_)
                                                        refine e_iconst (v := 0) aL_law_744 (by decide) ?_
                                                        exact e_retI aL_law_745 rfl (by decide +kernel) (pI_of h)
                                                    · rcases of_ite h with ⟨hc27, h⟩ | ⟨hc27, h⟩
                                                      · refine e_tableIn (off := 714) (tgt := 746) aL_law_32 (by rw [hc27]; decide) (by rw [hc27]; decide) (by rw [hc27]; rfl) (by decide) ?_
                                                        refine e_aload_n aL_law_746 rfl ?_
                                                        refine e_aload_n aL_law_747 rfl ?_
                                                        refine e_iload_n aL_law_748 rfl ?_
                                                        refine e_iconst (v := 1) aL_law_749 (by decide) ?_
                                                        refine e_iadd aL_law_750 ?_
                                                        obtain ⟨hg158, h⟩ := of_guard h
                                                        refine e_sld aL_law_751 hg158 ?_
                                                        obtain ⟨q159, hq159, h⟩ := of_bind h
                                                        refine e_VI [] aL_law_752 co_X7_draw mL_113 ly_0 rfl rfl (c_X7_draw l x hq159) rfl ⟨by decide, by decide⟩ (Nat.le_of_ble_eq_true rfl) rfl ?_
                                                        refine e_aload_n aL_law_755 rfl ?_
                                                        refine e_aload_n aL_law_756 rfl ?_
                                                        refine e_iload_n aL_law_757 rfl ?_
                                                        refine e_iconst (v := 1) aL_law_758 (by decide) ?_
                                                        refine e_iadd aL_law_759 ?_
                                                        obtain ⟨hg160, h⟩ := of_guard h
                                                        refine e_sld aL_law_760 hg160 ?_
                                                        obtain ⟨q161, hq161, h⟩ := of_bind h
                                                        refine e_VI [.int q159.1] aL_law_761 co_X8_draw mL_116 ly_176 rfl rfl (c_X8_draw l x hq161) rfl ⟨by decide, by decide⟩ (Nat.le_of_ble_eq_true rfl) rfl ?_
                                                        rcases of_ite h with ⟨hc162, h⟩ | ⟨hc162, h⟩
                                                        · refine e_icmp_eq (tgt := 871) aL_law_764 (by decide) (fun _ => ?_) (fun q => absurd hc162 q)
                                                          refine e_iinc (v := i3 + 4) (L2 := [some (.ref x.2.2.2.2.2.1), some (.ref (x.2.2.1 + 0)), some (.ref (x.2.2.1 + 176)), some (.int (i3 + 4))]) aL_law_871 rfl rfl ⟨by decide, rfl⟩ rfl ?_
                                                          refine e_goto (tgt := 18) aL_law_874 (by decide) ?_
                                                          exact ih _ _ h
                                                        · refine e_icmp_eq (tgt := 871) aL_law_764 (by decide) (fun q => absurd q hc162) (fun _ => ?_)
                                                          refine e_iconst (v := 0) aL_law_767 (by decide) ?_
                                                          exact e_retI aL_law_768 rfl (by decide +kernel) (pI_of h)
                                                      · rcases of_ite h with ⟨hc28, h⟩ | ⟨hc28, h⟩
                                                        · refine e_tableIn (off := 737) (tgt := 769) aL_law_32 (by rw [hc28]; decide) (by rw [hc28]; decide) (by rw [hc28]; rfl) (by decide) ?_
                                                          refine e_aload_n aL_law_769 rfl ?_
                                                          refine e_aload_n aL_law_770 rfl ?_
                                                          refine e_iload_n aL_law_771 rfl ?_
                                                          refine e_iconst (v := 1) aL_law_772 (by decide) ?_
                                                          refine e_iadd aL_law_773 ?_
                                                          obtain ⟨hg163, h⟩ := of_guard h
                                                          refine e_sld aL_law_774 hg163 ?_
                                                          obtain ⟨q164, hq164, h⟩ := of_bind h
                                                          refine e_VI [] aL_law_775 co_X7_add mL_117 ly_0 rfl rfl (c_X7_add l x hq164) rfl ⟨by decide, by decide⟩ (Nat.le_of_ble_eq_true rfl) rfl ?_
                                                          refine e_aload_n aL_law_778 rfl ?_
                                                          refine e_aload_n aL_law_779 rfl ?_
                                                          refine e_iload_n aL_law_780 rfl ?_
                                                          refine e_iconst (v := 1) aL_law_781 (by decide) ?_
                                                          refine e_iadd aL_law_782 ?_
                                                          obtain ⟨hg165, h⟩ := of_guard h
                                                          refine e_sld aL_law_783 hg165 ?_
                                                          obtain ⟨q166, hq166, h⟩ := of_bind h
                                                          refine e_VI [.int q164.1] aL_law_784 co_X8_add mL_120 ly_176 rfl rfl (c_X8_add l x hq166) rfl ⟨by decide, by decide⟩ (Nat.le_of_ble_eq_true rfl) rfl ?_
                                                          rcases of_ite h with ⟨hc167, h⟩ | ⟨hc167, h⟩
                                                          · refine e_icmp_eq (tgt := 871) aL_law_787 (by decide) (fun _ => ?_) (fun q => absurd hc167 q)
                                                            refine e_iinc (v := i3 + 4) (L2 := [some (.ref x.2.2.2.2.2.1), some (.ref (x.2.2.1 + 0)), some (.ref (x.2.2.1 + 176)), some (.int (i3 + 4))]) aL_law_871 rfl rfl ⟨by decide, rfl⟩ rfl ?_
                                                            refine e_goto (tgt := 18) aL_law_874 (by decide) ?_
                                                            exact ih _ _ h
                                                          · refine e_icmp_eq (tgt := 871) aL_law_787 (by decide) (fun q => absurd q hc167) (fun _ => ?_)
                                                            refine e_iconst (v := 0) aL_law_790 (by decide) ?_
                                                            exact e_retI aL_law_791 rfl (by decide +kernel) (pI_of h)
                                                        · rcases of_ite h with ⟨hc29, h⟩ | ⟨hc29, h⟩
                                                          · refine e_tableIn (off := 760) (tgt := 792) aL_law_32 (by rw [hc29]; decide) (by rw [hc29]; decide) (by rw [hc29]; rfl) (by decide) ?_
                                                            refine e_aload_n aL_law_792 rfl ?_
                                                            refine e_aload_n aL_law_793 rfl ?_
                                                            refine e_iload_n aL_law_794 rfl ?_
                                                            refine e_iconst (v := 1) aL_law_795 (by decide) ?_
                                                            refine e_iadd aL_law_796 ?_
                                                            obtain ⟨hg168, h⟩ := of_guard h
                                                            refine e_sld aL_law_797 hg168 ?_
                                                            refine e_aload_n aL_law_798 rfl ?_
                                                            refine e_iload_n aL_law_799 rfl ?_
                                                            refine e_iconst (v := 2) aL_law_800 (by decide) ?_
                                                            refine e_iadd aL_law_801 ?_
                                                            obtain ⟨hg169, h⟩ := of_guard h
                                                            refine e_sld aL_law_802 hg169 ?_
                                                            obtain ⟨r170, hr170, h⟩ := of_bind h
                                                            refine e_VI [] aL_law_803 co_X7_euler mL_121 ly_0 rfl rfl (c_X7_euler l x hr170) rfl ⟨by decide, by decide⟩ (Nat.le_of_ble_eq_true rfl) rfl ?_
                                                            refine e_aload_n aL_law_806 rfl ?_
                                                            refine e_aload_n aL_law_807 rfl ?_
                                                            refine e_iload_n aL_law_808 rfl ?_
                                                            refine e_iconst (v := 1) aL_law_809 (by decide) ?_
                                                            refine e_iadd aL_law_810 ?_
                                                            obtain ⟨hg171, h⟩ := of_guard h
                                                            refine e_sld aL_law_811 hg171 ?_
                                                            refine e_aload_n aL_law_812 rfl ?_
                                                            refine e_iload_n aL_law_813 rfl ?_
                                                            refine e_iconst (v := 2) aL_law_814 (by decide) ?_
                                                            refine e_iadd aL_law_815 ?_
                                                            obtain ⟨hg172, h⟩ := of_guard h
                                                            refine e_sld aL_law_816 hg172 ?_
                                                            obtain ⟨r173, hr173, h⟩ := of_bind h
                                                            refine e_VI [.int r170] aL_law_817 co_X8_euler mL_124 ly_176 rfl rfl (c_X8_euler l x hr173) rfl ⟨by decide, by decide⟩ (Nat.le_of_ble_eq_true rfl) rfl ?_
                                                            rcases of_ite h with ⟨hc174, h⟩ | ⟨hc174, h⟩
                                                            · refine e_icmp_eq (tgt := 871) aL_law_820 (by decide) (fun _ => ?_) (fun q => absurd hc174 q)
                                                              refine e_iinc (v := i3 + 4) (L2 := [some (.ref x.2.2.2.2.2.1), some (.ref (x.2.2.1 + 0)), some (.ref (x.2.2.1 + 176)), some (.int (i3 + 4))]) aL_law_871 rfl rfl ⟨by decide, rfl⟩ rfl ?_
                                                              refine e_goto (tgt := 18) aL_law_874 (by decide) ?_
                                                              exact ih _ _ h
                                                            · refine e_icmp_eq (tgt := 871) aL_law_820 (by decide) (fun q => absurd q hc174) (fun _ => ?_)
                                                              refine e_iconst (v := 0) aL_law_823 (by decide) ?_
                                                              exact e_retI aL_law_824 rfl (by decide +kernel) (pI_of h)
                                                          · rcases of_ite h with ⟨hc30, h⟩ | ⟨hc30, h⟩
                                                            · refine e_tableIn (off := 793) (tgt := 825) aL_law_32 (by rw [hc30]; decide) (by rw [hc30]; decide) (by rw [hc30]; rfl) (by decide) ?_
                                                              refine e_aload_n aL_law_825 rfl ?_
                                                              refine e_aload_n aL_law_826 rfl ?_
                                                              refine e_iload_n aL_law_827 rfl ?_
                                                              refine e_iconst (v := 1) aL_law_828 (by decide) ?_
                                                              refine e_iadd aL_law_829 ?_
                                                              obtain ⟨hg175, h⟩ := of_guard h
                                                              refine e_sld aL_law_830 hg175 ?_
                                                              obtain ⟨q176, hq176, h⟩ := of_bind h
                                                              refine e_VI [] aL_law_831 co_X7_drop mL_125 ly_0 rfl rfl (c_X7_drop l x hq176) rfl ⟨by decide, by decide⟩ (Nat.le_of_ble_eq_true rfl) rfl ?_
                                                              refine e_aload_n aL_law_834 rfl ?_
                                                              refine e_aload_n aL_law_835 rfl ?_
                                                              refine e_iload_n aL_law_836 rfl ?_
                                                              refine e_iconst (v := 1) aL_law_837 (by decide) ?_
                                                              refine e_iadd aL_law_838 ?_
                                                              obtain ⟨hg177, h⟩ := of_guard h
                                                              refine e_sld aL_law_839 hg177 ?_
                                                              obtain ⟨q178, hq178, h⟩ := of_bind h
                                                              refine e_VI [.int q176.1] aL_law_840 co_X8_drop mL_128 ly_176 rfl rfl (c_X8_drop l x hq178) rfl ⟨by decide, by decide⟩ (Nat.le_of_ble_eq_true rfl) rfl ?_
                                                              rcases of_ite h with ⟨hc179, h⟩ | ⟨hc179, h⟩
                                                              · refine e_icmp_eq (tgt := 871) aL_law_843 (by decide) (fun _ => ?_) (fun q => absurd hc179 q)
                                                                refine e_iinc (v := i3 + 4) (L2 := [some (.ref x.2.2.2.2.2.1), some (.ref (x.2.2.1 + 0)), some (.ref (x.2.2.1 + 176)), some (.int (i3 + 4))]) aL_law_871 rfl rfl ⟨by decide, rfl⟩ rfl ?_
                                                                refine e_goto (tgt := 18) aL_law_874 (by decide) ?_
                                                                exact ih _ _ h
                                                              · refine e_icmp_eq (tgt := 871) aL_law_843 (by decide) (fun q => absurd q hc179) (fun _ => ?_)
                                                                refine e_iconst (v := 0) aL_law_846 (by decide) ?_
                                                                exact e_retI aL_law_847 rfl (by decide +kernel) (pI_of h)
                                                            · rcases of_ite h with ⟨hc31, h⟩ | ⟨hc31, h⟩
                                                              · refine e_tableIn (off := 816) (tgt := 848) aL_law_32 (by rw [hc31]; decide) (by rw [hc31]; decide) (by rw [hc31]; rfl) (by decide) ?_
                                                                refine e_aload_n aL_law_848 rfl ?_
                                                                refine e_aload_n aL_law_849 rfl ?_
                                                                refine e_iload_n aL_law_850 rfl ?_
                                                                refine e_iconst (v := 1) aL_law_851 (by decide) ?_
                                                                refine e_iadd aL_law_852 ?_
                                                                obtain ⟨hg180, h⟩ := of_guard h
                                                                refine e_sld aL_law_853 hg180 ?_
                                                                obtain ⟨q181, hq181, h⟩ := of_bind h
                                                                refine e_VI [] aL_law_854 co_X7_count mL_129 ly_0 rfl rfl (c_X7_count l x hq181) rfl ⟨by decide, by decide⟩ (Nat.le_of_ble_eq_true rfl) rfl ?_
                                                                refine e_aload_n aL_law_857 rfl ?_
                                                                refine e_aload_n aL_law_858 rfl ?_
                                                                refine e_iload_n aL_law_859 rfl ?_
                                                                refine e_iconst (v := 1) aL_law_860 (by decide) ?_
                                                                refine e_iadd aL_law_861 ?_
                                                                obtain ⟨hg182, h⟩ := of_guard h
                                                                refine e_sld aL_law_862 hg182 ?_
                                                                obtain ⟨q183, hq183, h⟩ := of_bind h
                                                                refine e_VI [.int q181.1] aL_law_863 co_X8_count mL_132 ly_176 rfl rfl (c_X8_count l x hq183) rfl ⟨by decide, by decide⟩ (Nat.le_of_ble_eq_true rfl) rfl ?_
                                                                rcases of_ite h with ⟨hc184, h⟩ | ⟨hc184, h⟩
                                                                · refine e_icmp_eq (tgt := 871) aL_law_866 (by decide) (fun _ => ?_) (fun q => absurd hc184 q)
                                                                  refine e_iinc (v := i3 + 4) (L2 := [some (.ref x.2.2.2.2.2.1), some (.ref (x.2.2.1 + 0)), some (.ref (x.2.2.1 + 176)), some (.int (i3 + 4))]) aL_law_871 rfl rfl ⟨by decide, rfl⟩ rfl ?_
                                                                  refine e_goto (tgt := 18) aL_law_874 (by decide) ?_
                                                                  exact ih _ _ h
                                                                · refine e_icmp_eq (tgt := 871) aL_law_866 (by decide) (fun q => absurd q hc184) (fun _ => ?_)
                                                                  refine e_iconst (v := 0) aL_law_869 (by decide) ?_
                                                                  exact e_retI aL_law_870 rfl (by decide +kernel) (pI_of h)
                                                              · refine e_tableOut (tgt := 871) aL_law_32 (sw_out (n := 28) (by decide) (fun c hc => match c, hc with | 0, _ => hc3 | 1, _ => hc4 | 2, _ => hc5 | 3, _ => hc6 | 4, _ => hc7 | 5, _ => hc8 | 6, _ => hc9 | 7, _ => hc10 | 8, _ => hc11 | 9, _ => hc12 | 10, _ => hc13 | 11, _ => hc14 | 12, _ => hc15 | 13, _ => hc16 | 14, _ => hc17 | 15, _ => hc18 | 16, _ => hc19 | 17, _ => hc20 | 18, _ => hc21 | 19, _ => hc22 | 20, _ => hc23 | 21, _ => hc24 | 22, _ => hc25 | 23, _ => hc26 | 24, _ => hc27 | 25, _ => hc28 | 26, _ => hc29 | 27, _ => hc30 | 28, _ => hc31 | c + 29, hc => absurd hc (by omega))) (by decide) ?_
                                                                refine e_iinc (v := i3 + 4) (L2 := [some (.ref x.2.2.2.2.2.1), some (.ref (x.2.2.1 + 0)), some (.ref (x.2.2.1 + 176)), some (.int (i3 + 4))]) aL_law_871 rfl rfl ⟨by decide, rfl⟩ rfl ?_
                                                                refine e_goto (tgt := 18) aL_law_874 (by decide) ?_
                                                                exact ih _ _ h

section PLN
variable {p : Program} {l : Launch} {e : Env} {R : Room} {s : State} {m : MethodId} {args : Array Value} {below : List Frame} {meth : Method} {c : Code} {H H0 : Heap} {locs : List Loc} {cells slots mc ms : Nat} {Q : State → Prop}
variable {D : va_G} {pc : Nat} {ls : Array Slot} {rest st0 : List Value} {a : Array Value} {A0 : Nat → Prop} {ws pl pl1 wc w1 w2 : va_W}
theorem pw_goiN {r : Int32} (hr : va_Run p l e R s m args below meth c H locs cells slots mc ms (F0 m pc ls st0) rest (pw_i D wc w1 r H.size a) (va_A wc H.size)) (hP : va_P D vwCl (ws ++ pl) H) (hD : va_D A0 (ws ++ pl)) (hS : va_S A0 H0 H locs) (hA : ∀ q, H0.size ≤ q → A0 q) (isC isR is2 : List Nat) (hC : isC.map (fun i => ws[i]?) = wc.map some) (hR : isR.all (fun i => decide (i < ws.length)) = true) (hn : va_nd isR = true) (hdis : isR.all (fun i => decide (i ∉ isC)) = true) (h2n : va_nd is2 = true) (h2 : is2.map (fun i => (isR.filterMap (fun i => ws[i]?) ++ w1)[i]?) = w2.map some)
    (kk : ∀ (H1 : Heap) (locs1 : List Loc), va_P D vwCl (w2 ++ pl) H1 → va_D A0 (w2 ++ pl) → va_S A0 H0 H1 locs1 → W p l e R s m args below meth c H1 locs1 (cells + mc) (slots + ms) Q (F0 m (pc + 3) ls (.int r :: rest))) : W p l e R s m args below meth c H locs cells slots Q (F0 m pc ls st0) := by
  refine va_calli hr hS (fun q _ h => pw_free hD hS hA isC hC q h) (pw_free hD hS hA isC hC) (fun r' u t H1 locs1 ht hvm hw hB hz hk hS1 => ?_)
  subst hw; subst ht
  obtain ⟨b1, b2⟩ := pw_after hP hD hS hA isC isR is2 hC hR hn hdis h2n h2 hk hB.1 hB.2
  exact kk _ _ b1 b2 hS1
theorem pw_goPiN {r : Int32} (hr : va_Run p l e R s m args below meth c H locs cells slots mc ms (F0 m pc ls st0) rest (pw_i D (wc ++ pl) (w1 ++ pl1) r H.size a) (va_A (wc ++ pl) H.size)) (hP : va_P D vwCl (ws ++ pl) H) (hD : va_D A0 (ws ++ pl)) (hS : va_S A0 H0 H locs) (hA : ∀ q, H0.size ≤ q → A0 q) (isC isR is2 : List Nat) (hC : isC.map (fun i => ws[i]?) = wc.map some) (hR : isR.all (fun i => decide (i < ws.length)) = true) (hn : va_nd isR = true) (hdis : isR.all (fun i => decide (i ∉ isC)) = true) (h2n : va_nd is2 = true) (h2 : is2.map (fun i => (isR.filterMap (fun i => ws[i]?) ++ w1)[i]?) = w2.map some)
    (kk : ∀ (H1 : Heap) (locs1 : List Loc), va_P D vwCl (w2 ++ pl1) H1 → va_D A0 (w2 ++ pl1) → va_S A0 H0 H1 locs1 → W p l e R s m args below meth c H1 locs1 (cells + mc) (slots + ms) Q (F0 m (pc + 3) ls (.int r :: rest))) : W p l e R s m args below meth c H locs cells slots Q (F0 m pc ls st0) := by
  refine va_calli hr hS (fun q _ h => pw_freeP hD hS hA isC hC q h) (pw_freeP hD hS hA isC hC) (fun r' u t H1 locs1 ht hvm hw hB hz hk hS1 => ?_)
  subst hw; subst ht
  obtain ⟨b1, b2⟩ := pw_afterP hP hD hS hA isC isR is2 hC hR hn hdis h2n h2 hk hB.1 hB.2
  exact kk _ _ b1 b2 hS1
end PLN
theorem pl_k {L k : Nat} {i : Int32} (hi : i = nI (4 * k)) (hL : L ≤ 2048) (hk : k ≤ 512) (h : ¬ (Int32.ofNat L - 4) < i) : k + 1 ≤ 512 := by
  have h1 : (nI L - nI 4).toInt = (L : Int) - (4 : Nat) := pk_sub_toInt (by omega) (by omega)
  have h2 : ¬ (nI L - nI 4) < nI (4 * k) := by rw [← hi]; exact h
  rw [Int32.lt_iff_toInt_lt, h1, nI_toInt (by omega)] at h2
  omega
theorem pl_i {k : Nat} {i : Int32} (hi : i = nI (4 * k)) : i + 4 = nI (4 * (k + 1)) := by
  rw [hi, Nat.mul_add]
  exact nI_add (4 * k) 4
theorem pw_tbl_25 {x : Int32} (c0 : ¬ x = 0) (c1 : ¬ x = 1) (c2 : ¬ x = 2) (c3 : ¬ x = 3) (c4 : ¬ x = 4) (c5 : ¬ x = 5) (c6 : ¬ x = 6) (c7 : ¬ x = 7) (c8 : ¬ x = 8) (c9 : ¬ x = 9) (c10 : ¬ x = 10) (c11 : ¬ x = 11) (c12 : ¬ x = 12) (c13 : ¬ x = 13) (c14 : ¬ x = 14) (c15 : ¬ x = 15) (c16 : ¬ x = 16) (c17 : ¬ x = 17) (c18 : ¬ x = 18) (c19 : ¬ x = 19) (c20 : ¬ x = 20) (c21 : ¬ x = 21) (c22 : ¬ x = 22) (c23 : ¬ x = 23) (c24 : ¬ x = 24) (c25 : ¬ x = 25) : x.toInt < 0 ∨ 25 < x.toInt := by
  have h0 : x.toInt ≠ 0 := pw_ne c0
  have h1 : x.toInt ≠ 1 := pw_ne c1
  have h2 : x.toInt ≠ 2 := pw_ne c2
  have h3 : x.toInt ≠ 3 := pw_ne c3
  have h4 : x.toInt ≠ 4 := pw_ne c4
  have h5 : x.toInt ≠ 5 := pw_ne c5
  have h6 : x.toInt ≠ 6 := pw_ne c6
  have h7 : x.toInt ≠ 7 := pw_ne c7
  have h8 : x.toInt ≠ 8 := pw_ne c8
  have h9 : x.toInt ≠ 9 := pw_ne c9
  have h10 : x.toInt ≠ 10 := pw_ne c10
  have h11 : x.toInt ≠ 11 := pw_ne c11
  have h12 : x.toInt ≠ 12 := pw_ne c12
  have h13 : x.toInt ≠ 13 := pw_ne c13
  have h14 : x.toInt ≠ 14 := pw_ne c14
  have h15 : x.toInt ≠ 15 := pw_ne c15
  have h16 : x.toInt ≠ 16 := pw_ne c16
  have h17 : x.toInt ≠ 17 := pw_ne c17
  have h18 : x.toInt ≠ 18 := pw_ne c18
  have h19 : x.toInt ≠ 19 := pw_ne c19
  have h20 : x.toInt ≠ 20 := pw_ne c20
  have h21 : x.toInt ≠ 21 := pw_ne c21
  have h22 : x.toInt ≠ 22 := pw_ne c22
  have h23 : x.toInt ≠ 23 := pw_ne c23
  have h24 : x.toInt ≠ 24 := pw_ne c24
  have h25 : x.toInt ≠ 25 := pw_ne c25
  omega
def fL_law_L23 (L : Nat) (xs : Nat → Int32) : Nat → Int32 → (Nat → Int32) → (Nat → Int32) → (Nat → Int32) → Int32 → Int32 → Int32 → Int32 → Int32 → Int32 → Int32 → (Nat → Int32) → (Nat → Int32) → Int32 → (Nat → Int32) → Int32 → (Nat → Int32) → (Nat → Int32) → (Nat → Int32) → Int32 → (Nat → Int32) → (Nat → Int32) → Int32 → (Nat → Int32) → Int32 → (Nat → Int32) → (Nat → Int32) → (Nat → Int32) → (Nat → Int32) → Int32 → Int32 → (Nat → Int32) → Int32 → Int64 → (Nat → Int64) → (Nat → StV) → Option Int32
  | 0, _, _, _, _, _, _, _, _, _, _, _, _, _, _, _, _, _, _, _, _, _, _, _, _, _, _, _, _, _, _, _, _, _, _, _, _ => none
  | n + 1, i, row, ten, pha, len, kep, wfi, wmo, hun, nex, man, cod, unf, tln, cel, cls, str, tlr, tsg, thr, ms, mv, svm, mb, mln, mc, mg, mt, ml, mat, wel, mr, rdm, hsh, f3, rg =>
    if ((Int32.ofNat L) - 4) < i then
    some 1
    else
    if oob i L then none else
    if ((xs i.toNatClampNeg) &&& 31) = 0 then
    if oob (i + 1) L then none else
    (fL_put row ten pha len kep wfi wmo hun nex man f3 rg (xs (i + 1).toNatClampNeg)).bind fun (x3_1, x3_2, x3_3, x3_4, x3_5, x3_6, x3_7) =>
    if oob (i + 1) L then none else
    (fX6_put ms mv svm (xs (i + 1).toNatClampNeg)).bind fun (x5_1, x5_2, x5_3, x5_4, x5_5) =>
    (fX6_thrown x5_2).bind fun x6 =>
    if x6 = x3_1 then
    if x3_1 = 0 then
    if oob 0 1 then none else
    if (lg_cmp (x3_6 (0 : Int32).toNatClampNeg) x5_1.toInt64) = 0 then
    fL_law_L23 L xs n (i + 4) x3_2 ten pha x3_3 kep wfi wmo hun x3_4 x3_5 cod unf tln cel cls str tlr tsg x5_2 x5_3 x5_4 x5_5 mb mln mc mg mt ml mat wel mr rdm hsh x3_6 x3_7
    else
    some 0
    else
    fL_law_L23 L xs n (i + 4) x3_2 ten pha x3_3 kep wfi wmo hun x3_4 x3_5 cod unf tln cel cls str tlr tsg x5_2 x5_3 x5_4 x5_5 mb mln mc mg mt ml mat wel mr rdm hsh x3_6 x3_7
    else
    some 0
    else if ((xs i.toNatClampNeg) &&& 31) = 1 then
    if oob (i + 1) L then none else
    if oob (i + 2) L then none else
    (fL_change row ten pha len kep wfi wmo hun nex man f3 rg (xs (i + 1).toNatClampNeg) (xs (i + 2).toNatClampNeg)).bind fun (x10_1, x10_2, x10_3, x10_4, x10_5, x10_6) =>
    if oob (i + 1) L then none else
    if oob (i + 2) L then none else
    (fX6_change ms mv svm (xs (i + 1).toNatClampNeg) (xs (i + 2).toNatClampNeg)).bind fun (x13_1, x13_2, x13_3, x13_4, x13_5) =>
    (fX6_thrown x13_2).bind fun x14 =>
    if x14 = x10_1 then
    if x10_1 = 0 then
    if oob 0 1 then none else
    if (lg_cmp (x10_5 (0 : Int32).toNatClampNeg) x13_1.toInt64) = 0 then
    fL_law_L23 L xs n (i + 4) x10_2 ten pha len kep wfi wmo hun x10_3 x10_4 cod unf tln cel cls str tlr tsg x13_2 x13_3 x13_4 x13_5 mb mln mc mg mt ml mat wel mr rdm hsh x10_5 x10_6
    else
    some 0
    else
    fL_law_L23 L xs n (i + 4) x10_2 ten pha len kep wfi wmo hun x10_3 x10_4 cod unf tln cel cls str tlr tsg x13_2 x13_3 x13_4 x13_5 mb mln mc mg mt ml mat wel mr rdm hsh x10_5 x10_6
    else
    some 0
    else if ((xs i.toNatClampNeg) &&& 31) = 2 then
    if oob (i + 1) L then none else
    (fL_cut row ten pha len kep wfi wmo hun nex man f3 rg (xs (i + 1).toNatClampNeg)).bind fun (x17_1, x17_2, x17_3, x17_4, x17_5, x17_6) =>
    if oob (i + 1) L then none else
    (fX6_cut ms mv svm (xs (i + 1).toNatClampNeg)).bind fun (x19_1, x19_2, x19_3, x19_4, x19_5) =>
    (fX6_thrown x19_2).bind fun x20 =>
    if x20 = x17_1 then
    if x17_1 = 0 then
    if oob 0 1 then none else
    if (lg_cmp (x17_5 (0 : Int32).toNatClampNeg) x19_1.toInt64) = 0 then
    fL_law_L23 L xs n (i + 4) row ten pha x17_2 kep wfi wmo hun x17_3 x17_4 cod unf tln cel cls str tlr tsg x19_2 x19_3 x19_4 x19_5 mb mln mc mg mt ml mat wel mr rdm hsh x17_5 x17_6
    else
    some 0
    else
    fL_law_L23 L xs n (i + 4) row ten pha x17_2 kep wfi wmo hun x17_3 x17_4 cod unf tln cel cls str tlr tsg x19_2 x19_3 x19_4 x19_5 mb mln mc mg mt ml mat wel mr rdm hsh x17_5 x17_6
    else
    some 0
    else if ((xs i.toNatClampNeg) &&& 31) = 3 then
    if oob (i + 1) L then none else
    if oob (i + 2) L then none else
    if oob (i + 3) L then none else
    (fL_grow row ten pha len kep wfi wmo hun nex man f3 rg (xs (i + 1).toNatClampNeg) (xs (i + 2).toNatClampNeg) (xs (i + 3).toNatClampNeg)).bind fun (x25_1, x25_2, x25_3, x25_4, x25_5, x25_6, x25_7) =>
    if oob (i + 1) L then none else
    if oob (i + 2) L then none else
    if oob (i + 3) L then none else
    (fX6_grow ms mv svm (xs (i + 1).toNatClampNeg) (xs (i + 2).toNatClampNeg) (xs (i + 3).toNatClampNeg)).bind fun (x29_1, x29_2, x29_3, x29_4, x29_5) =>
    (fX6_thrown x29_2).bind fun x30 =>
    if x30 = x25_1 then
    if x25_1 = 0 then
    if oob 0 1 then none else
    if (lg_cmp (x25_6 (0 : Int32).toNatClampNeg) x29_1.toInt64) = 0 then
    fL_law_L23 L xs n (i + 4) x25_2 ten pha x25_3 kep wfi wmo hun x25_4 x25_5 cod unf tln cel cls str tlr tsg x29_2 x29_3 x29_4 x29_5 mb mln mc mg mt ml mat wel mr rdm hsh x25_6 x25_7
    else
    some 0
    else
    fL_law_L23 L xs n (i + 4) x25_2 ten pha x25_3 kep wfi wmo hun x25_4 x25_5 cod unf tln cel cls str tlr tsg x29_2 x29_3 x29_4 x29_5 mb mln mc mg mt ml mat wel mr rdm hsh x25_6 x25_7
    else
    some 0
    else if ((xs i.toNatClampNeg) &&& 31) = 4 then
    if oob (i + 1) L then none else
    if oob (i + 2) L then none else
    (fL_keep row ten pha len kep wfi wmo hun nex man f3 rg (xs (i + 1).toNatClampNeg) (xs (i + 2).toNatClampNeg)).bind fun (x34_1, x34_2, x34_3, x34_4, x34_5, x34_6, x34_7, x34_8) =>
    if oob (i + 1) L then none else
    if oob (i + 2) L then none else
    (fX6_keep ms mv svm (xs (i + 1).toNatClampNeg) (xs (i + 2).toNatClampNeg)).bind fun (x37_1, x37_2, x37_3, x37_4, x37_5) =>
    (fX6_thrown x37_2).bind fun x38 =>
    if x38 = x34_1 then
    if x34_1 = 0 then
    if oob 0 1 then none else
    if (lg_cmp (x34_7 (0 : Int32).toNatClampNeg) x37_1.toInt64) = 0 then
    fL_law_L23 L xs n (i + 4) row x34_2 x34_3 len x34_4 wfi wmo hun x34_5 x34_6 cod unf tln cel cls str tlr tsg x37_2 x37_3 x37_4 x37_5 mb mln mc mg mt ml mat wel mr rdm hsh x34_7 x34_8
    else
    some 0
    else
    fL_law_L23 L xs n (i + 4) row x34_2 x34_3 len x34_4 wfi wmo hun x34_5 x34_6 cod unf tln cel cls str tlr tsg x37_2 x37_3 x37_4 x37_5 mb mln mc mg mt ml mat wel mr rdm hsh x34_7 x34_8
    else
    some 0
    else if ((xs i.toNatClampNeg) &&& 31) = 5 then
    if oob (i + 1) L then none else
    (fL_drop row ten pha len kep wfi wmo hun nex man f3 rg (xs (i + 1).toNatClampNeg)).bind fun (x41_1, x41_2, x41_3, x41_4, x41_5, x41_6, x41_7, x41_8) =>
    if oob (i + 1) L then none else
    (fX6_drop ms mv svm (xs (i + 1).toNatClampNeg)).bind fun (x43_1, x43_2, x43_3, x43_4, x43_5) =>
    (fX6_thrown x43_2).bind fun x44 =>
    if x44 = x41_1 then
    if x41_1 = 0 then
    if oob 0 1 then none else
    if (lg_cmp (x41_7 (0 : Int32).toNatClampNeg) x43_1.toInt64) = 0 then
    fL_law_L23 L xs n (i + 4) row x41_2 x41_3 len x41_4 wfi wmo hun x41_5 x41_6 cod unf tln cel cls str tlr tsg x43_2 x43_3 x43_4 x43_5 mb mln mc mg mt ml mat wel mr rdm hsh x41_7 x41_8
    else
    some 0
    else
    fL_law_L23 L xs n (i + 4) row x41_2 x41_3 len x41_4 wfi wmo hun x41_5 x41_6 cod unf tln cel cls str tlr tsg x43_2 x43_3 x43_4 x43_5 mb mln mc mg mt ml mat wel mr rdm hsh x41_7 x41_8
    else
    some 0
    else if ((xs i.toNatClampNeg) &&& 31) = 6 then
    if oob (i + 1) L then none else
    if oob (i + 2) L then none else
    (fL_find row ten pha len kep wfi wmo hun nex man cel cls f3 rg (xs (i + 1).toNatClampNeg) (xs (i + 2).toNatClampNeg)).bind fun (x48_1, x48_2, x48_3, x48_4, x48_5, x48_6, x48_7, x48_8, x48_9, x48_10) =>
    if oob (i + 1) L then none else
    if oob (i + 2) L then none else
    (fX6_find ms mv svm mc (xs (i + 1).toNatClampNeg) (xs (i + 2).toNatClampNeg)).bind fun (x51_1, x51_2, x51_3, x51_4, x51_5, x51_6) =>
    (fX6_thrown x51_2).bind fun x52 =>
    if x52 = x48_1 then
    if x48_1 = 0 then
    if oob 0 1 then none else
    if (lg_cmp (x48_9 (0 : Int32).toNatClampNeg) x51_1.toInt64) = 0 then
    fL_law_L23 L xs n (i + 4) row x48_2 x48_3 len x48_4 wfi wmo hun x48_5 x48_6 cod unf tln x48_7 x48_8 str tlr tsg x51_2 x51_3 x51_4 x51_5 mb mln x51_6 mg mt ml mat wel mr rdm hsh x48_9 x48_10
    else
    some 0
    else
    fL_law_L23 L xs n (i + 4) row x48_2 x48_3 len x48_4 wfi wmo hun x48_5 x48_6 cod unf tln x48_7 x48_8 str tlr tsg x51_2 x51_3 x51_4 x51_5 mb mln x51_6 mg mt ml mat wel mr rdm hsh x48_9 x48_10
    else
    some 0
    else if ((xs i.toNatClampNeg) &&& 31) = 7 then
    (fX5_mend row ten pha len kep wfi wmo hun nex man cel cls str tlr tsg rg).bind fun (x54_1, x54_2, x54_3, x54_4, x54_5, x54_6, x54_7, x54_8, x54_9, x54_10) =>
    (fX6_mend ms mv svm mc mg mt ml).bind fun (x55_1, x55_2, x55_3, x55_4, x55_5, x55_6, x55_7, x55_8, x55_9) =>
    if x54_1 = x55_1 then
    fL_law_L23 L xs n (i + 4) x54_2 ten pha len kep wfi wmo hun x54_3 x54_4 cod unf tln x54_5 x54_6 x54_7 x54_8 x54_9 x55_2 x55_3 x55_4 x55_5 mb mln x55_6 x55_7 x55_8 x55_9 mat wel mr rdm hsh f3 x54_10
    else
    some 0
    else if ((xs i.toNatClampNeg) &&& 31) = 8 then
    if oob (i + 1) L then none else
    if oob (i + 2) L then none else
    (fL_set row ten pha len kep wfi wmo hun nex man f3 rg (xs (i + 1).toNatClampNeg) (xs (i + 2).toNatClampNeg)).bind fun (x58_1, x58_2, x58_3, x58_4, x58_5, x58_6, x58_7, x58_8) =>
    if oob (i + 1) L then none else
    if oob (i + 2) L then none else
    (fX6_set ms mv svm (xs (i + 1).toNatClampNeg) (xs (i + 2).toNatClampNeg)).bind fun (x61_1, x61_2, x61_3, x61_4, x61_5) =>
    (fX6_thrown x61_2).bind fun x62 =>
    if x62 = x58_1 then
    if x58_1 = 0 then
    if oob 0 1 then none else
    if (lg_cmp (x58_7 (0 : Int32).toNatClampNeg) x61_1.toInt64) = 0 then
    fL_law_L23 L xs n (i + 4) row ten pha len kep x58_2 x58_3 x58_4 x58_5 x58_6 cod unf tln cel cls str tlr tsg x61_2 x61_3 x61_4 x61_5 mb mln mc mg mt ml mat wel mr rdm hsh x58_7 x58_8
    else
    some 0
    else
    fL_law_L23 L xs n (i + 4) row ten pha len kep x58_2 x58_3 x58_4 x58_5 x58_6 cod unf tln cel cls str tlr tsg x61_2 x61_3 x61_4 x61_5 mb mln mc mg mt ml mat wel mr rdm hsh x58_7 x58_8
    else
    some 0
    else if ((xs i.toNatClampNeg) &&& 31) = 9 then
    if oob (i + 1) L then none else
    (fL_append cod tln f3 (xs (i + 1).toNatClampNeg)).bind fun (x65_1, x65_2, x65_3, x65_4) =>
    if oob (i + 1) L then none else
    (fX6_append mb mln (xs (i + 1).toNatClampNeg)).bind fun (x67_1, x67_2, x67_3, x67_4) =>
    (fX6_thrown x67_2).bind fun x68 =>
    if x68 = x65_1 then
    if x65_1 = 0 then
    if oob 0 1 then none else
    if (lg_cmp (x65_4 (0 : Int32).toNatClampNeg) x67_1.toInt64) = 0 then
    fL_law_L23 L xs n (i + 4) row ten pha len kep wfi wmo hun nex man x65_2 unf x65_3 cel cls str tlr tsg x67_2 ms mv svm x67_3 x67_4 mc mg mt ml mat wel mr rdm hsh x65_4 rg
    else
    some 0
    else
    fL_law_L23 L xs n (i + 4) row ten pha len kep wfi wmo hun nex man x65_2 unf x65_3 cel cls str tlr tsg x67_2 ms mv svm x67_3 x67_4 mc mg mt ml mat wel mr rdm hsh x65_4 rg
    else
    some 0
    else if ((xs i.toNatClampNeg) &&& 31) = 10 then
    (fX5_clearBuffer tln).bind fun (x70_1, x70_2) =>
    (fX6_clearBuffer mln).bind fun (x71_1, x71_2, x71_3) =>
    if x70_1 = x71_1 then
    fL_law_L23 L xs n (i + 4) row ten pha len kep wfi wmo hun nex man cod unf x70_2 cel cls str tlr tsg x71_2 ms mv svm mb x71_3 mc mg mt ml mat wel mr rdm hsh f3 rg
    else
    some 0
    else if ((xs i.toNatClampNeg) &&& 31) = 11 then
    (fX5_firstError cod tln).bind fun x72 =>
    (fX6_firstError mb mln mr).bind fun (x73_1, x73_2, x73_3, x73_4, x73_5, x73_6) =>
    if x72 = x73_1 then
    fL_law_L23 L xs n (i + 4) row ten pha len kep wfi wmo hun nex man cod unf tln cel cls str tlr tsg x73_2 ms mv svm mb mln mc mg mt ml x73_3 x73_4 x73_5 x73_6 hsh f3 rg
    else
    some 0
    else if ((xs i.toNatClampNeg) &&& 31) = 12 then
    (fL_putAll row ten pha len kep wfi wmo hun nex man cod unf tln f3 rg).bind fun (x74_1, x74_2, x74_3, x74_4, x74_5, x74_6, x74_7, x74_8, x74_9) =>
    (fX6_putAll ms mv svm mb mln mr).bind fun (x75_1, x75_2, x75_3, x75_4, x75_5, x75_6, x75_7, x75_8, x75_9, x75_10) =>
    (fX6_thrown x75_2).bind fun x76 =>
    if x76 = x74_1 then
    if x74_1 = 0 then
    if oob 0 1 then none else
    if (lg_cmp (x74_8 (0 : Int32).toNatClampNeg) x75_1.toInt64) = 0 then
    fL_law_L23 L xs n (i + 4) x74_2 ten pha x74_3 kep wfi wmo hun x74_4 x74_5 cod x74_6 x74_7 cel cls str tlr tsg x75_2 x75_3 x75_4 x75_5 mb x75_6 mc mg mt ml x75_7 x75_8 x75_9 x75_10 hsh x74_8 x74_9
    else
    some 0
    else
    fL_law_L23 L xs n (i + 4) x74_2 ten pha x74_3 kep wfi wmo hun x74_4 x74_5 cod x74_6 x74_7 cel cls str tlr tsg x75_2 x75_3 x75_4 x75_5 mb x75_6 mc mg mt ml x75_7 x75_8 x75_9 x75_10 hsh x74_8 x74_9
    else
    some 0
    else if ((xs i.toNatClampNeg) &&& 31) = 13 then
    (fL_undo row ten pha len kep wfi wmo hun nex man f3 rg).bind fun (x78_1, x78_2, x78_3, x78_4, x78_5, x78_6, x78_7, x78_8, x78_9, x78_10, x78_11, x78_12) =>
    (fX6_undo ms mv svm).bind fun (x79_1, x79_2, x79_3, x79_4) =>
    (fX6_thrown x79_2).bind fun x80 =>
    if x80 = x78_1 then
    if x78_1 = 0 then
    if oob 0 1 then none else
    if (lg_cmp (x78_12 (0 : Int32).toNatClampNeg) x79_1.toInt64) = 0 then
    fL_law_L23 L xs n (i + 4) x78_2 x78_3 x78_4 x78_5 x78_6 x78_7 x78_8 x78_9 x78_10 x78_11 cod unf tln cel cls str tlr tsg x79_2 x79_3 mv x79_4 mb mln mc mg mt ml mat wel mr rdm hsh x78_12 rg
    else
    some 0
    else
    fL_law_L23 L xs n (i + 4) x78_2 x78_3 x78_4 x78_5 x78_6 x78_7 x78_8 x78_9 x78_10 x78_11 cod unf tln cel cls str tlr tsg x79_2 x79_3 mv x79_4 mb mln mc mg mt ml mat wel mr rdm hsh x78_12 rg
    else
    some 0
    else if ((xs i.toNatClampNeg) &&& 31) = 14 then
    if oob (i + 1) L then none else
    (fL_sign row len f3 (xs (i + 1).toNatClampNeg)).bind fun (x83_1, x83_2) =>
    if oob (i + 1) L then none else
    (fX6_sign ms (xs (i + 1).toNatClampNeg)).bind fun (x85_1, x85_2) =>
    (fX6_thrown x85_2).bind fun x86 =>
    if x86 = x83_1 then
    if x83_1 = 0 then
    if oob 0 1 then none else
    if (lg_cmp (x83_2 (0 : Int32).toNatClampNeg) x85_1.toInt64) = 0 then
    fL_law_L23 L xs n (i + 4) row ten pha len kep wfi wmo hun nex man cod unf tln cel cls str tlr tsg x85_2 ms mv svm mb mln mc mg mt ml mat wel mr rdm hsh x83_2 rg
    else
    some 0
    else
    fL_law_L23 L xs n (i + 4) row ten pha len kep wfi wmo hun nex man cod unf tln cel cls str tlr tsg x85_2 ms mv svm mb mln mc mg mt ml mat wel mr rdm hsh x83_2 rg
    else
    some 0
    else if ((xs i.toNatClampNeg) &&& 31) = 15 then
    if oob (i + 1) L then none else
    if oob (i + 2) L then none else
    (fL_period row ten pha len kep wfi wmo hun cel cls str tlr tsg f3 (xs (i + 1).toNatClampNeg) (xs (i + 2).toNatClampNeg)).bind fun (x90_1, x90_2, x90_3, x90_4, x90_5, x90_6, x90_7) =>
    if oob (i + 1) L then none else
    if oob (i + 2) L then none else
    (fX6_period ms mc mg mt ml (xs (i + 1).toNatClampNeg) (xs (i + 2).toNatClampNeg)).bind fun (x93_1, x93_2, x93_3, x93_4, x93_5, x93_6) =>
    (fX6_thrown x93_2).bind fun x94 =>
    if x94 = x90_1 then
    if x90_1 = 0 then
    if oob 0 1 then none else
    if (lg_cmp (x90_7 (0 : Int32).toNatClampNeg) x93_1.toInt64) = 0 then
    fL_law_L23 L xs n (i + 4) row ten pha len kep wfi wmo hun nex man cod unf tln x90_2 x90_3 x90_4 x90_5 x90_6 x93_2 ms mv svm mb mln x93_3 x93_4 x93_5 x93_6 mat wel mr rdm hsh x90_7 rg
    else
    some 0
    else
    fL_law_L23 L xs n (i + 4) row ten pha len kep wfi wmo hun nex man cod unf tln x90_2 x90_3 x90_4 x90_5 x90_6 x93_2 ms mv svm mb mln x93_3 x93_4 x93_5 x93_6 mat wel mr rdm hsh x90_7 rg
    else
    some 0
    else if ((xs i.toNatClampNeg) &&& 31) = 16 then
    if oob (i + 1) L then none else
    if oob (i + 2) L then none else
    if oob (i + 3) L then none else
    (fL_remainder row ten pha len kep wfi wmo cel cls f3 (xs (i + 1).toNatClampNeg) (xs (i + 2).toNatClampNeg) (xs (i + 3).toNatClampNeg)).bind fun (x99_1, x99_2, x99_3, x99_4) =>
    if oob (i + 1) L then none else
    if oob (i + 2) L then none else
    if oob (i + 3) L then none else
    (fX6_remainder ms mc (xs (i + 1).toNatClampNeg) (xs (i + 2).toNatClampNeg) (xs (i + 3).toNatClampNeg)).bind fun (x103_1, x103_2, x103_3) =>
    (fX6_thrown x103_2).bind fun x104 =>
    if x104 = x99_1 then
    if x99_1 = 0 then
    if oob 0 1 then none else
    if (lg_cmp (x99_4 (0 : Int32).toNatClampNeg) x103_1.toInt64) = 0 then
    fL_law_L23 L xs n (i + 4) row ten pha len kep wfi wmo hun nex man cod unf tln x99_2 x99_3 str tlr tsg x103_2 ms mv svm mb mln x103_3 mg mt ml mat wel mr rdm hsh x99_4 rg
    else
    some 0
    else
    fL_law_L23 L xs n (i + 4) row ten pha len kep wfi wmo hun nex man cod unf tln x99_2 x99_3 str tlr tsg x103_2 ms mv svm mb mln x103_3 mg mt ml mat wel mr rdm hsh x99_4 rg
    else
    some 0
    else if ((xs i.toNatClampNeg) &&& 31) = 17 then
    if oob (i + 1) L then none else
    if oob (i + 2) L then none else
    (fL_told row ten pha len kep wfi wmo hun cel cls str tlr tsg f3 (xs (i + 1).toNatClampNeg) (xs (i + 2).toNatClampNeg)).bind fun (x108_1, x108_2, x108_3, x108_4, x108_5, x108_6, x108_7) =>
    if oob (i + 1) L then none else
    if oob (i + 2) L then none else
    (fX6_told ms mc mg mt ml (xs (i + 1).toNatClampNeg) (xs (i + 2).toNatClampNeg)).bind fun (x111_1, x111_2, x111_3, x111_4, x111_5, x111_6) =>
    (fX6_thrown x111_2).bind fun x112 =>
    if x112 = x108_1 then
    if x108_1 = 0 then
    if oob 0 1 then none else
    if (lg_cmp (x108_7 (0 : Int32).toNatClampNeg) x111_1.toInt64) = 0 then
    fL_law_L23 L xs n (i + 4) row ten pha len kep wfi wmo hun nex man cod unf tln x108_2 x108_3 x108_4 x108_5 x108_6 x111_2 ms mv svm mb mln x111_3 x111_4 x111_5 x111_6 mat wel mr rdm hsh x108_7 rg
    else
    some 0
    else
    fL_law_L23 L xs n (i + 4) row ten pha len kep wfi wmo hun nex man cod unf tln x108_2 x108_3 x108_4 x108_5 x108_6 x111_2 ms mv svm mb mln x111_3 x111_4 x111_5 x111_6 mat wel mr rdm hsh x108_7 rg
    else
    some 0
    else if ((xs i.toNatClampNeg) &&& 31) = 18 then
    if oob (i + 1) L then none else
    (fL_count row ten pha len kep wfi wmo hun man cel cls str tlr tsg f3 (xs (i + 1).toNatClampNeg)).bind fun (x115_1, x115_2, x115_3, x115_4, x115_5, x115_6, x115_7) =>
    if oob (i + 1) L then none else
    (fX6_count ms svm mc mg mt ml (xs (i + 1).toNatClampNeg)).bind fun (x117_1, x117_2, x117_3, x117_4, x117_5, x117_6) =>
    (fX6_thrown x117_2).bind fun x118 =>
    if x118 = x115_1 then
    if x115_1 = 0 then
    if oob 0 1 then none else
    if (lg_cmp (x115_7 (0 : Int32).toNatClampNeg) x117_1.toInt64) = 0 then
    fL_law_L23 L xs n (i + 4) row ten pha len kep wfi wmo hun nex man cod unf tln x115_2 x115_3 x115_4 x115_5 x115_6 x117_2 ms mv svm mb mln x117_3 x117_4 x117_5 x117_6 mat wel mr rdm hsh x115_7 rg
    else
    some 0
    else
    fL_law_L23 L xs n (i + 4) row ten pha len kep wfi wmo hun nex man cod unf tln x115_2 x115_3 x115_4 x115_5 x115_6 x117_2 ms mv svm mb mln x117_3 x117_4 x117_5 x117_6 mat wel mr rdm hsh x115_7 rg
    else
    some 0
    else if ((xs i.toNatClampNeg) &&& 31) = 19 then
    if oob (i + 1) L then none else
    (fL_setting wfi wmo hun f3 (xs (i + 1).toNatClampNeg)).bind fun (x121_1, x121_2) =>
    if oob (i + 1) L then none else
    (fX6_setting ms (xs (i + 1).toNatClampNeg)).bind fun (x123_1, x123_2) =>
    (fX6_thrown x123_2).bind fun x124 =>
    if x124 = x121_1 then
    if x121_1 = 0 then
    if oob 0 1 then none else
    if (lg_cmp (x121_2 (0 : Int32).toNatClampNeg) x123_1.toInt64) = 0 then
    fL_law_L23 L xs n (i + 4) row ten pha len kep wfi wmo hun nex man cod unf tln cel cls str tlr tsg x123_2 ms mv svm mb mln mc mg mt ml mat wel mr rdm hsh x121_2 rg
    else
    some 0
    else
    fL_law_L23 L xs n (i + 4) row ten pha len kep wfi wmo hun nex man cod unf tln cel cls str tlr tsg x123_2 ms mv svm mb mln mc mg mt ml mat wel mr rdm hsh x121_2 rg
    else
    some 0
    else if ((xs i.toNatClampNeg) &&& 31) = 20 then
    if oob (i + 1) L then none else
    if oob (i + 2) L then none else
    (fL_explains row len wfi wmo cel cls f3 (xs (i + 1).toNatClampNeg) (xs (i + 2).toNatClampNeg)).bind fun (x128_1, x128_2, x128_3, x128_4) =>
    if oob (i + 1) L then none else
    if oob (i + 2) L then none else
    (fX6_explains ms mc (xs (i + 1).toNatClampNeg) (xs (i + 2).toNatClampNeg)).bind fun (x131_1, x131_2, x131_3) =>
    (fX6_thrown x131_2).bind fun x132 =>
    if x132 = x128_1 then
    if x128_1 = 0 then
    if oob 0 1 then none else
    if (lg_cmp (x128_4 (0 : Int32).toNatClampNeg) x131_1.toInt64) = 0 then
    fL_law_L23 L xs n (i + 4) row ten pha len kep wfi wmo hun nex man cod unf tln x128_2 x128_3 str tlr tsg x131_2 ms mv svm mb mln x131_3 mg mt ml mat wel mr rdm hsh x128_4 rg
    else
    some 0
    else
    fL_law_L23 L xs n (i + 4) row ten pha len kep wfi wmo hun nex man cod unf tln x128_2 x128_3 str tlr tsg x131_2 ms mv svm mb mln x131_3 mg mt ml mat wel mr rdm hsh x128_4 rg
    else
    some 0
    else if ((xs i.toNatClampNeg) &&& 31) = 21 then
    if oob (i + 1) L then none else
    if oob (i + 2) L then none else
    (fL_best row len wfi wmo cel cls f3 (xs (i + 1).toNatClampNeg) (xs (i + 2).toNatClampNeg)).bind fun (x136_1, x136_2, x136_3, x136_4) =>
    if oob (i + 1) L then none else
    if oob (i + 2) L then none else
    (fX6_best ms mc (xs (i + 1).toNatClampNeg) (xs (i + 2).toNatClampNeg)).bind fun (x139_1, x139_2, x139_3) =>
    (fX6_thrown x139_2).bind fun x140 =>
    if x140 = x136_1 then
    if x136_1 = 0 then
    if oob 0 1 then none else
    if (lg_cmp (x136_4 (0 : Int32).toNatClampNeg) x139_1.toInt64) = 0 then
    fL_law_L23 L xs n (i + 4) row ten pha len kep wfi wmo hun nex man cod unf tln x136_2 x136_3 str tlr tsg x139_2 ms mv svm mb mln x139_3 mg mt ml mat wel mr rdm hsh x136_4 rg
    else
    some 0
    else
    fL_law_L23 L xs n (i + 4) row ten pha len kep wfi wmo hun nex man cod unf tln x136_2 x136_3 str tlr tsg x139_2 ms mv svm mb mln x139_3 mg mt ml mat wel mr rdm hsh x136_4 rg
    else
    some 0
    else if ((xs i.toNatClampNeg) &&& 31) = 22 then
    if oob (i + 1) L then none else
    (fL_bestPhase row len wfi wmo cel cls f3 (xs (i + 1).toNatClampNeg)).bind fun (x143_1, x143_2, x143_3, x143_4) =>
    if oob (i + 1) L then none else
    (fX6_bestPhase ms mc (xs (i + 1).toNatClampNeg)).bind fun (x145_1, x145_2, x145_3) =>
    (fX6_thrown x145_2).bind fun x146 =>
    if x146 = x143_1 then
    if x143_1 = 0 then
    if oob 0 1 then none else
    if (lg_cmp (x143_4 (0 : Int32).toNatClampNeg) x145_1.toInt64) = 0 then
    fL_law_L23 L xs n (i + 4) row ten pha len kep wfi wmo hun nex man cod unf tln x143_2 x143_3 str tlr tsg x145_2 ms mv svm mb mln x145_3 mg mt ml mat wel mr rdm hsh x143_4 rg
    else
    some 0
    else
    fL_law_L23 L xs n (i + 4) row ten pha len kep wfi wmo hun nex man cod unf tln x143_2 x143_3 str tlr tsg x145_2 ms mv svm mb mln x145_3 mg mt ml mat wel mr rdm hsh x143_4 rg
    else
    some 0
    else if ((xs i.toNatClampNeg) &&& 31) = 23 then
    if oob (i + 1) L then none else
    if oob (i + 2) L then none else
    (fL_bestWindow row len cel cls f3 (xs (i + 1).toNatClampNeg) (xs (i + 2).toNatClampNeg)).bind fun (x150_1, x150_2, x150_3, x150_4) =>
    if oob (i + 1) L then none else
    if oob (i + 2) L then none else
    (fX6_bestWindow ms mc (xs (i + 1).toNatClampNeg) (xs (i + 2).toNatClampNeg)).bind fun (x153_1, x153_2, x153_3) =>
    (fX6_thrown x153_2).bind fun x154 =>
    if x154 = x150_1 then
    if x150_1 = 0 then
    if oob 0 1 then none else
    if (lg_cmp (x150_4 (0 : Int32).toNatClampNeg) x153_1.toInt64) = 0 then
    fL_law_L23 L xs n (i + 4) row ten pha len kep wfi wmo hun nex man cod unf tln x150_2 x150_3 str tlr tsg x153_2 ms mv svm mb mln x153_3 mg mt ml mat wel mr rdm hsh x150_4 rg
    else
    some 0
    else
    fL_law_L23 L xs n (i + 4) row ten pha len kep wfi wmo hun nex man cod unf tln x150_2 x150_3 str tlr tsg x153_2 ms mv svm mb mln x153_3 mg mt ml mat wel mr rdm hsh x150_4 rg
    else
    some 0
    else if ((xs i.toNatClampNeg) &&& 31) = 24 then
    (fX5_share row ten pha len kep wfi wmo hun cel cls str tlr tsg).bind fun (x156_1, x156_2, x156_3, x156_4, x156_5, x156_6) =>
    (fX6_share ms mc mg mt ml).bind fun (x157_1, x157_2, x157_3, x157_4, x157_5, x157_6) =>
    if (Op.cmpValue (FP.dcmp x156_1 x157_1) CmpOp.l) = 0 then
    fL_law_L23 L xs n (i + 4) row ten pha len kep wfi wmo hun nex man cod unf tln x156_2 x156_3 x156_4 x156_5 x156_6 x157_2 ms mv svm mb mln x157_3 x157_4 x157_5 x157_6 mat wel mr rdm hsh f3 rg
    else
    if (Op.cmpValue (FP.dcmp x156_1 x156_1) CmpOp.l) = 0 then
    some 0
    else
    if (Op.cmpValue (FP.dcmp x157_1 x157_1) CmpOp.l) = 0 then
    some 0
    else
    fL_law_L23 L xs n (i + 4) row ten pha len kep wfi wmo hun nex man cod unf tln x156_2 x156_3 x156_4 x156_5 x156_6 x157_2 ms mv svm mb mln x157_3 x157_4 x157_5 x157_6 mat wel mr rdm hsh f3 rg
    else if ((xs i.toNatClampNeg) &&& 31) = 25 then
    (fX5_digest row ten pha len kep wfi wmo hun man cod tln cel cls str tlr tsg).bind fun (x158_1, x158_2, x158_3, x158_4, x158_5, x158_6) =>
    (fX6_digest ms svm mb mln mc mg mt ml).bind fun (x159_1, x159_2, x159_3, x159_4, x159_5, x159_6, x159_7) =>
    if (lg_cmp x158_1 x159_1) = 0 then
    fL_law_L23 L xs n (i + 4) row ten pha len kep wfi wmo hun nex man cod unf tln x158_2 x158_3 x158_4 x158_5 x158_6 x159_2 ms mv svm mb mln x159_3 x159_4 x159_5 x159_6 mat wel mr rdm x159_7 f3 rg
    else
    some 0
    else 
    fL_law_L23 L xs n (i + 4) row ten pha len kep wfi wmo hun nex man cod unf tln cel cls str tlr tsg thr ms mv svm mb mln mc mg mt ml mat wel mr rdm hsh f3 rg
set_option maxHeartbeats 40000000 in
set_option maxRecDepth 100000 in
theorem law_loop {p : Program} {l : Launch} {e : Env} {s : State} {m : MethodId} {args : Array Value} {below : List Frame} {meth : Method} {c : Code} {b L : Nat} {xs : Nat → Int32} {Q : State → Prop} (hst : l.stackTraces = false) (hL : L ≤ 2048) (hx : p.tables.exec = Jvm.exec) (hb : c.code = cL_law) (hml : c.maxLocals = 9) (hown : s.vm.findClass RL = some m.cls) (hts : ∀ w ∈ wsL_law, w.before args s = true) (hX : va_X b L xs s s.heap) (hbl : b < s.heap.size)
    {D : va_G} {cI cO cJ : ClassId} {A : Nat → Prop} (hA : ∀ q, s.heap.size ≤ q → A q) (hbA : ¬ A b) (hK : va_K D vwCl (tyL cI cO cJ) s) (hN : pw_N s) (hX9 : px_X A s s.heap) (hT : px_T s) (hC9 : px_C s)
    (hQ : ∀ (H : Heap) (locs : List Loc) (ls : Array Slot) (k n : Nat), va_S A s.heap H locs → k ≤ 601024 → n ≤ 7293034 → W p l e room_1 s m args below meth c H locs k n Q (F0 m 1565 ls [.int 1]))
    {h5 h2 h2_row h2_ten h2_pha h1 h1a h4 h4_cod h4_unf h0 h0_cel h3 h3_str h3_tlr h3_tsg h6 h6_ms h6_mv h6_mb h6_mc h6_mg h6_mt h6_ml h6_mr q3 : Nat} {rh : Nat → Nat → Nat} : ∀ (n : Nat) (i : Int32) (k : Nat) (row : Nat → Int32) (ten : Nat → Int32) (pha : Nat → Int32) (len : Int32) (kep : Int32) (wfi : Int32) (wmo : Int32) (hun : Int32) (nex : Int32) (man : Int32) (cod : Nat → Int32) (unf : Nat → Int32) (tln : Int32) (cel : Nat → Int32) (cls : Int32) (str : Nat → Int32) (tlr : Nat → Int32) (tsg : Nat → Int32) (thr : Int32) (ms : Nat → Int32) (mv : Nat → Int32) (svm : Int32) (mb : Nat → Int32) (mln : Int32) (mc : Nat → Int32) (mg : Nat → Int32) (mt : Nat → Int32) (ml : Nat → Int32) (mat : Int32) (wel : Int32) (mr : Nat → Int32) (rdm : Int32) (hsh : Int64) (f3 : Nat → Int64) (rg : Nat → StV) (H : Heap) (locs : List Loc) (ls : Array Slot), fL_law_L23 L xs n i row ten pha len kep wfi wmo hun nex man cod unf tln cel cls str tlr tsg thr ms mv svm mb mln mc mg mt ml mat wel mr rdm hsh f3 rg = some 1 → i = nI (4 * k) → k ≤ 512 → va_P D vwCl ([(h5, .inr (5, [.ref h2, .ref h1, .ref h4, .ref h0, .ref h3])), (h2, .inr (2, [.ref h2_row, .ref h2_ten, .ref h2_pha, .int len, .int kep, .int wfi, .int wmo, .int hun])), (h2_row, .inl (cI, 240, .inl row)), (h2_ten, .inl (cI, 4, .inl ten)), (h2_pha, .inl (cI, 4, .inl pha)), (h1, .inr (1, [.ref h1a, .int nex, .int man])), (h4, .inr (4, [.ref h4_cod, .ref h4_unf, .int tln])), (h4_cod, .inl (cI, 60, .inl cod)), (h4_unf, .inl (cI, 540, .inl unf)), (h0, .inr (0, [.ref h0_cel, .int cls])), (h0_cel, .inl (cI, 160, .inl cel)), (h3, .inr (3, [.ref h3_str, .ref h3_tlr, .ref h3_tsg])), (h3_str, .inl (cI, 40, .inl str)), (h3_tlr, .inl (cI, 240, .inl tlr)), (h3_tsg, .inl (cI, 240, .inl tsg)), (h6, .inr (6, [.int thr, .ref h6_ms, .ref h6_mv, .int svm, .ref h6_mb, .int mln, .ref h6_mc, .ref h6_mg, .ref h6_mt, .ref h6_ml, .int mat, .int wel, .ref h6_mr, .int rdm, .long hsh])), (h6_ms, .inl (cI, 253, .inl ms)), (h6_mv, .inl (cI, 1518, .inl mv)), (h6_mb, .inl (cI, 60, .inl mb)), (h6_mc, .inl (cI, 160, .inl mc)), (h6_mg, .inl (cI, 160, .inl mg)), (h6_mt, .inl (cI, 240, .inl mt)), (h6_ml, .inl (cI, 240, .inl ml)), (h6_mr, .inl (cI, 600, .inl mr)), (q3, .inl (cJ, 1, .inr (.inl f3)))] ++ ringW cI cO h1a rh rg) H → va_D A ([(h5, .inr (5, [.ref h2, .ref h1, .ref h4, .ref h0, .ref h3])), (h2, .inr (2, [.ref h2_row, .ref h2_ten, .ref h2_pha, .int len, .int kep, .int wfi, .int wmo, .int hun])), (h2_row, .inl (cI, 240, .inl row)), (h2_ten, .inl (cI, 4, .inl ten)), (h2_pha, .inl (cI, 4, .inl pha)), (h1, .inr (1, [.ref h1a, .int nex, .int man])), (h4, .inr (4, [.ref h4_cod, .ref h4_unf, .int tln])), (h4_cod, .inl (cI, 60, .inl cod)), (h4_unf, .inl (cI, 540, .inl unf)), (h0, .inr (0, [.ref h0_cel, .int cls])), (h0_cel, .inl (cI, 160, .inl cel)), (h3, .inr (3, [.ref h3_str, .ref h3_tlr, .ref h3_tsg])), (h3_str, .inl (cI, 40, .inl str)), (h3_tlr, .inl (cI, 240, .inl tlr)), (h3_tsg, .inl (cI, 240, .inl tsg)), (h6, .inr (6, [.int thr, .ref h6_ms, .ref h6_mv, .int svm, .ref h6_mb, .int mln, .ref h6_mc, .ref h6_mg, .ref h6_mt, .ref h6_ml, .int mat, .int wel, .ref h6_mr, .int rdm, .long hsh])), (h6_ms, .inl (cI, 253, .inl ms)), (h6_mv, .inl (cI, 1518, .inl mv)), (h6_mb, .inl (cI, 60, .inl mb)), (h6_mc, .inl (cI, 160, .inl mc)), (h6_mg, .inl (cI, 160, .inl mg)), (h6_mt, .inl (cI, 240, .inl mt)), (h6_ml, .inl (cI, 240, .inl ml)), (h6_mr, .inl (cI, 600, .inl mr)), (q3, .inl (cJ, 1, .inr (.inl f3)))] ++ ringW cI cO h1a rh rg) → va_S A s.heap H locs → lv_has ls 9 [(0, .ref b), (1, .ref h5), (2, .ref h6), (3, .ref q3), (4, .int i)] → W p l e room_1 s m args below meth c H locs (50 + k) (6341 + 6 * k) Q (F0 m 23 ls []) := by
  intro n
  induction n with
  | zero =>
    intro i k row ten pha len kep wfi wmo hun nex man cod unf tln cel cls str tlr tsg thr ms mv svm mb mln mc mg mt ml mat wel mr rdm hsh f3 rg H locs ls h
    rw [fL_law_L23] at h
    cases h
  | succ n ih =>
    intro i k row ten pha len kep wfi wmo hun nex man cod unf tln cel cls str tlr tsg thr ms mv svm mb mln mc mg mt ml mat wel mr rdm hsh f3 rg H locs ls h hi hk hP hD hS hl
    rw [fL_law_L23] at h
    refine lv_iload hx hb dL_law_23 (lv_at hl 4 rfl) ?_
    refine lv_aload_n hx hb dL_law_25 rfl (lv_at hl 0 rfl) ?_
    refine va_slen hx hb hX hbl hbA hS dL_law_26 ?_
    refine lv_iconst (v := 4) hx hb dL_law_27 (by decide) ?_
    refine lv_isub hx hb dL_law_28 ?_
    refine lv_icmp_gt (tgt := 1564) hx hb dL_law_29 (by decide) (fun cq => ?_) (fun cq => ?_)
    · replace h := ifp cq h
      refine lv_iconst (v := 1) hx hb dL_law_1564 (by decide) ?_
      exact hQ H locs _ _ _ hS (by omega) (by omega)
    · replace h := ifn cq h
      have hgo := cq
      refine lv_aload_n hx hb dL_law_32 rfl (lv_at hl 0 rfl) ?_
      refine lv_iload hx hb dL_law_33 (lv_at hl 4 rfl) ?_
      obtain ⟨g1, h⟩ := gdn h
      refine va_sld hx hb hX hbl hbA hS g1 dL_law_35 ?_
      refine lv_bipush (v := 31) hx hb dL_law_36 (by decide) ?_
      refine lv_iand hx hb dL_law_38 ?_
      by_cases c0 : ((xs i.toNatClampNeg) &&& 31) = 0
      · replace h := ifp c0 h
        refine lv_tableIn (x := ((xs i.toNatClampNeg) &&& 31)) hx hb dL_law_39 (by rw [c0]; decide) (by rw [c0]; decide) (off := 117) (tgt := 156) (by rw [c0]; rfl) (by decide) ?_
        refine lv_aload_n hx hb dL_law_156 rfl (lv_at hl 1 rfl) ?_
        refine lv_aload_n hx hb dL_law_157 rfl (lv_at hl 0 rfl) ?_
        refine lv_iload hx hb dL_law_158 (lv_at hl 4 rfl) ?_
        refine lv_iconst (v := 1) hx hb dL_law_160 (by decide) ?_
        refine lv_iadd hx hb dL_law_161 ?_
        obtain ⟨g2, h⟩ := gdn h
        refine va_sld hx hb hX hbl hbA hS g2 dL_law_162 ?_
        refine lv_aload_n hx hb dL_law_163 rfl (lv_at hl 3 rfl) ?_
        obtain ⟨⟨x3_1, x3_2, x3_3, x3_4, x3_5, x3_6, x3_7⟩, hx3, h⟩ := bnd h
        refine pw_goPiN (wc := [(h5, .inr (5, [.ref h2, .ref h1, .ref h4, .ref h0, .ref h3])), (h2, .inr (2, [.ref h2_row, .ref h2_ten, .ref h2_pha, .int len, .int kep, .int wfi, .int wmo, .int hun])), (h2_row, .inl (cI, 240, .inl row)), (h2_ten, .inl (cI, 4, .inl ten)), (h2_pha, .inl (cI, 4, .inl pha)), (h1, .inr (1, [.ref h1a, .int nex, .int man])), (h4, .inr (4, [.ref h4_cod, .ref h4_unf, .int tln])), (h4_cod, .inl (cI, 60, .inl cod)), (h4_unf, .inl (cI, 540, .inl unf)), (h0, .inr (0, [.ref h0_cel, .int cls])), (h0_cel, .inl (cI, 160, .inl cel)), (h3, .inr (3, [.ref h3_str, .ref h3_tlr, .ref h3_tsg])), (h3_str, .inl (cI, 40, .inl str)), (h3_tlr, .inl (cI, 240, .inl tlr)), (h3_tsg, .inl (cI, 240, .inl tsg)), (q3, .inl (cJ, 1, .inr (.inl f3)))]) (w1 := [(h5, .inr (5, [.ref h2, .ref h1, .ref h4, .ref h0, .ref h3])), (h2, .inr (2, [.ref h2_row, .ref h2_ten, .ref h2_pha, .int x3_3, .int kep, .int wfi, .int wmo, .int hun])), (h2_row, .inl (cI, 240, .inl x3_2)), (h2_ten, .inl (cI, 4, .inl ten)), (h2_pha, .inl (cI, 4, .inl pha)), (h1, .inr (1, [.ref h1a, .int x3_4, .int x3_5])), (h4, .inr (4, [.ref h4_cod, .ref h4_unf, .int tln])), (h4_cod, .inl (cI, 60, .inl cod)), (h4_unf, .inl (cI, 540, .inl unf)), (h0, .inr (0, [.ref h0_cel, .int cls])), (h0_cel, .inl (cI, 160, .inl cel)), (h3, .inr (3, [.ref h3_str, .ref h3_tlr, .ref h3_tsg])), (h3_str, .inl (cI, 40, .inl str)), (h3_tlr, .inl (cI, 240, .inl tlr)), (h3_tsg, .inl (cI, 240, .inl tsg)), (q3, .inl (cJ, 1, .inr (.inl x3_6)))]) (w2 := [(h5, .inr (5, [.ref h2, .ref h1, .ref h4, .ref h0, .ref h3])), (h2, .inr (2, [.ref h2_row, .ref h2_ten, .ref h2_pha, .int x3_3, .int kep, .int wfi, .int wmo, .int hun])), (h2_row, .inl (cI, 240, .inl x3_2)), (h2_ten, .inl (cI, 4, .inl ten)), (h2_pha, .inl (cI, 4, .inl pha)), (h1, .inr (1, [.ref h1a, .int x3_4, .int x3_5])), (h4, .inr (4, [.ref h4_cod, .ref h4_unf, .int tln])), (h4_cod, .inl (cI, 60, .inl cod)), (h4_unf, .inl (cI, 540, .inl unf)), (h0, .inr (0, [.ref h0_cel, .int cls])), (h0_cel, .inl (cI, 160, .inl cel)), (h3, .inr (3, [.ref h3_str, .ref h3_tlr, .ref h3_tsg])), (h3_str, .inl (cI, 40, .inl str)), (h3_tlr, .inl (cI, 240, .inl tlr)), (h3_tsg, .inl (cI, 240, .inl tsg)), (h6, .inr (6, [.int thr, .ref h6_ms, .ref h6_mv, .int svm, .ref h6_mb, .int mln, .ref h6_mc, .ref h6_mg, .ref h6_mt, .ref h6_ml, .int mat, .int wel, .ref h6_mr, .int rdm, .long hsh])), (h6_ms, .inl (cI, 253, .inl ms)), (h6_mv, .inl (cI, 1518, .inl mv)), (h6_mb, .inl (cI, 60, .inl mb)), (h6_mc, .inl (cI, 160, .inl mc)), (h6_mg, .inl (cI, 160, .inl mg)), (h6_mt, .inl (cI, 240, .inl mt)), (h6_ml, .inl (cI, 240, .inl ml)), (h6_mr, .inl (cI, 600, .inl mr)), (q3, .inl (cJ, 1, .inr (.inl x3_6)))]) (pl1 := ringW cI cO h1a rh x3_7) (vx_runSW (As := [.ref h5, .int (xs (i + 1).toNatClampNeg), .ref q3]) (rest := []) ⟨hx, hb, hml, hown, hts⟩ (mL_put l D cI cO cJ h5 h2 h2_row h2_ten h2_pha h1 h1a h4 h4_cod h4_unf h0 h0_cel h3 h3_str h3_tlr h3_tsg q3 rh H.size row ten pha len kep wfi wmo hun nex man cod unf tln cel cls str tlr tsg f3 rg (xs (i + 1).toNatClampNeg) _ hst hx3) (vx_cwSW 3 hts gL_law_L_put rfl rfl rfl (by decide +kernel) ⟨Nat.le_of_ble_eq_true rfl, Nat.le_of_ble_eq_true rfl⟩) (pl_preS hK hN ((px_X.kept hX9 hS.2.1).narrow (pw_freeP hD hS hA [0, 1, 2, 3, 4, 5, 6, 7, 8, 9, 10, 11, 12, 13, 14, 24] rfl)) hT hC9 (hP.part [0, 1, 2, 3, 4, 5, 6, 7, 8, 9, 10, 11, 12, 13, 14, 24] rfl) (hD.part [0, 1, 2, 3, 4, 5, 6, 7, 8, 9, 10, 11, 12, 13, 14, 24] (by decide) rfl)) rfl rfl hl.1 rfl (lv_room (Nat.le_of_ble_eq_true rfl)) dL_law_164 ⟨by have := hk; show _ ≤ (601024 : Nat); omega, by have := hk; show _ ≤ (7293034 : Nat); omega⟩) hP hD hS hA [0, 1, 2, 3, 4, 5, 6, 7, 8, 9, 10, 11, 12, 13, 14, 24] [15, 16, 17, 18, 19, 20, 21, 22, 23] [9, 10, 11, 12, 13, 14, 15, 16, 17, 18, 19, 20, 21, 22, 23, 0, 1, 2, 3, 4, 5, 6, 7, 8, 24] rfl rfl (by decide) (by decide) (by decide) rfl (fun H locs hP hD hS => ?_)
        refine lv_istore (lv' := [(5, .int x3_1), (0, .ref b), (1, .ref h5), (2, .ref h6), (3, .ref q3), (4, .int i)]) hx hb dL_law_167 hl (by decide) rfl (fun ls hl => ?_)
        refine lv_aload_n hx hb dL_law_169 rfl (lv_at hl 3 rfl) ?_
        refine lv_aload_n hx hb dL_law_170 rfl (lv_at hl 1 rfl) ?_
        refine lv_iload hx hb dL_law_171 (lv_at hl 5 rfl) ?_
        refine lv_iconst (v := 1) hx hb dL_law_173 (by decide) ?_
        refine lv_iadd hx hb dL_law_174 ?_
        obtain ⟨g4, h⟩ := gdn h
        refine va_sld hx hb hX hbl hbA hS g4 dL_law_175 ?_
        obtain ⟨⟨x5_1, x5_2, x5_3, x5_4, x5_5⟩, hx5, h⟩ := bnd h
        refine pw_goi (wc := [(h6, .inr (6, [.int thr, .ref h6_ms, .ref h6_mv, .int svm, .ref h6_mb, .int mln, .ref h6_mc, .ref h6_mg, .ref h6_mt, .ref h6_ml, .int mat, .int wel, .ref h6_mr, .int rdm, .long hsh])), (h6_ms, .inl (cI, 253, .inl ms)), (h6_mv, .inl (cI, 1518, .inl mv)), (h6_mb, .inl (cI, 60, .inl mb)), (h6_mc, .inl (cI, 160, .inl mc)), (h6_mg, .inl (cI, 160, .inl mg)), (h6_mt, .inl (cI, 240, .inl mt)), (h6_ml, .inl (cI, 240, .inl ml)), (h6_mr, .inl (cI, 600, .inl mr))]) (w1 := [(h6, .inr (6, [.int x5_2, .ref h6_ms, .ref h6_mv, .int x5_5, .ref h6_mb, .int mln, .ref h6_mc, .ref h6_mg, .ref h6_mt, .ref h6_ml, .int mat, .int wel, .ref h6_mr, .int rdm, .long hsh])), (h6_ms, .inl (cI, 253, .inl x5_3)), (h6_mv, .inl (cI, 1518, .inl x5_4)), (h6_mb, .inl (cI, 60, .inl mb)), (h6_mc, .inl (cI, 160, .inl mc)), (h6_mg, .inl (cI, 160, .inl mg)), (h6_mt, .inl (cI, 240, .inl mt)), (h6_ml, .inl (cI, 240, .inl ml)), (h6_mr, .inl (cI, 600, .inl mr))]) (w2 := [(h5, .inr (5, [.ref h2, .ref h1, .ref h4, .ref h0, .ref h3])), (h2, .inr (2, [.ref h2_row, .ref h2_ten, .ref h2_pha, .int x3_3, .int kep, .int wfi, .int wmo, .int hun])), (h2_row, .inl (cI, 240, .inl x3_2)), (h2_ten, .inl (cI, 4, .inl ten)), (h2_pha, .inl (cI, 4, .inl pha)), (h1, .inr (1, [.ref h1a, .int x3_4, .int x3_5])), (h4, .inr (4, [.ref h4_cod, .ref h4_unf, .int tln])), (h4_cod, .inl (cI, 60, .inl cod)), (h4_unf, .inl (cI, 540, .inl unf)), (h0, .inr (0, [.ref h0_cel, .int cls])), (h0_cel, .inl (cI, 160, .inl cel)), (h3, .inr (3, [.ref h3_str, .ref h3_tlr, .ref h3_tsg])), (h3_str, .inl (cI, 40, .inl str)), (h3_tlr, .inl (cI, 240, .inl tlr)), (h3_tsg, .inl (cI, 240, .inl tsg)), (h6, .inr (6, [.int x5_2, .ref h6_ms, .ref h6_mv, .int x5_5, .ref h6_mb, .int mln, .ref h6_mc, .ref h6_mg, .ref h6_mt, .ref h6_ml, .int mat, .int wel, .ref h6_mr, .int rdm, .long hsh])), (h6_ms, .inl (cI, 253, .inl x5_3)), (h6_mv, .inl (cI, 1518, .inl x5_4)), (h6_mb, .inl (cI, 60, .inl mb)), (h6_mc, .inl (cI, 160, .inl mc)), (h6_mg, .inl (cI, 160, .inl mg)), (h6_mt, .inl (cI, 240, .inl mt)), (h6_ml, .inl (cI, 240, .inl ml)), (h6_mr, .inl (cI, 600, .inl mr)), (q3, .inl (cJ, 1, .inr (.inl x3_6)))]) (va_runV (As := [.int (xs (i + 1).toNatClampNeg)]) (rest := []) ⟨hx, hb, hml, hown, hts⟩ (mX6_put l D cI cO cJ h6 h6_ms h6_mv h6_mb h6_mc h6_mg h6_mt h6_ml h6_mr H.size thr ms mv svm mb mln mc mg mt ml mat wel mr rdm hsh (xs (i + 1).toNatClampNeg) _ hx5) (cwV 1 hts gL_law_X6_put rfl rfl rfl (by decide +kernel) ⟨Nat.le_of_ble_eq_true rfl, Nat.le_of_ble_eq_true rfl⟩) (pw_preV hK hN (pw_sub hP [15, 16, 17, 18, 19, 20, 21, 22, 23] rfl) (pw_subD hD [15, 16, 17, 18, 19, 20, 21, 22, 23] (by decide) rfl) (ci := 6) (q0 := 0) rfl rfl) rfl rfl hl.1 rfl (lv_room (Nat.le_of_ble_eq_true rfl)) dL_law_176 ⟨by have := hk; show _ ≤ (601024 : Nat); omega, by have := hk; show _ ≤ (7293034 : Nat); omega⟩) hP hD hS hA [15, 16, 17, 18, 19, 20, 21, 22, 23] [0, 1, 2, 3, 4, 5, 6, 7, 8, 9, 10, 11, 12, 13, 14, 24] [0, 1, 2, 3, 4, 5, 6, 7, 8, 9, 10, 11, 12, 13, 14, 16, 17, 18, 19, 20, 21, 22, 23, 24, 15] rfl rfl (by decide) (by decide) (by decide) rfl (fun H locs hP hD hS => ?_)
        refine lv_istore (lv' := [(6, .int x5_1), (5, .int x3_1), (0, .ref b), (1, .ref h5), (2, .ref h6), (3, .ref q3), (4, .int i)]) hx hb dL_law_179 hl (by decide) rfl (fun ls hl => ?_)
        refine lv_aload_n hx hb dL_law_181 rfl (lv_at hl 4 rfl) ?_
        obtain ⟨x6, hx6, h⟩ := bnd h
        refine pw_goi (wc := [(h6, .inr (6, [.int x5_2, .ref h6_ms, .ref h6_mv, .int x5_5, .ref h6_mb, .int mln, .ref h6_mc, .ref h6_mg, .ref h6_mt, .ref h6_ml, .int mat, .int wel, .ref h6_mr, .int rdm, .long hsh])), (h6_ms, .inl (cI, 253, .inl x5_3)), (h6_mv, .inl (cI, 1518, .inl x5_4)), (h6_mb, .inl (cI, 60, .inl mb)), (h6_mc, .inl (cI, 160, .inl mc)), (h6_mg, .inl (cI, 160, .inl mg)), (h6_mt, .inl (cI, 240, .inl mt)), (h6_ml, .inl (cI, 240, .inl ml)), (h6_mr, .inl (cI, 600, .inl mr))]) (w1 := [(h6, .inr (6, [.int x5_2, .ref h6_ms, .ref h6_mv, .int x5_5, .ref h6_mb, .int mln, .ref h6_mc, .ref h6_mg, .ref h6_mt, .ref h6_ml, .int mat, .int wel, .ref h6_mr, .int rdm, .long hsh])), (h6_ms, .inl (cI, 253, .inl x5_3)), (h6_mv, .inl (cI, 1518, .inl x5_4)), (h6_mb, .inl (cI, 60, .inl mb)), (h6_mc, .inl (cI, 160, .inl mc)), (h6_mg, .inl (cI, 160, .inl mg)), (h6_mt, .inl (cI, 240, .inl mt)), (h6_ml, .inl (cI, 240, .inl ml)), (h6_mr, .inl (cI, 600, .inl mr))]) (w2 := [(h5, .inr (5, [.ref h2, .ref h1, .ref h4, .ref h0, .ref h3])), (h2, .inr (2, [.ref h2_row, .ref h2_ten, .ref h2_pha, .int x3_3, .int kep, .int wfi, .int wmo, .int hun])), (h2_row, .inl (cI, 240, .inl x3_2)), (h2_ten, .inl (cI, 4, .inl ten)), (h2_pha, .inl (cI, 4, .inl pha)), (h1, .inr (1, [.ref h1a, .int x3_4, .int x3_5])), (h4, .inr (4, [.ref h4_cod, .ref h4_unf, .int tln])), (h4_cod, .inl (cI, 60, .inl cod)), (h4_unf, .inl (cI, 540, .inl unf)), (h0, .inr (0, [.ref h0_cel, .int cls])), (h0_cel, .inl (cI, 160, .inl cel)), (h3, .inr (3, [.ref h3_str, .ref h3_tlr, .ref h3_tsg])), (h3_str, .inl (cI, 40, .inl str)), (h3_tlr, .inl (cI, 240, .inl tlr)), (h3_tsg, .inl (cI, 240, .inl tsg)), (h6, .inr (6, [.int x5_2, .ref h6_ms, .ref h6_mv, .int x5_5, .ref h6_mb, .int mln, .ref h6_mc, .ref h6_mg, .ref h6_mt, .ref h6_ml, .int mat, .int wel, .ref h6_mr, .int rdm, .long hsh])), (h6_ms, .inl (cI, 253, .inl x5_3)), (h6_mv, .inl (cI, 1518, .inl x5_4)), (h6_mb, .inl (cI, 60, .inl mb)), (h6_mc, .inl (cI, 160, .inl mc)), (h6_mg, .inl (cI, 160, .inl mg)), (h6_mt, .inl (cI, 240, .inl mt)), (h6_ml, .inl (cI, 240, .inl ml)), (h6_mr, .inl (cI, 600, .inl mr)), (q3, .inl (cJ, 1, .inr (.inl x3_6)))]) (va_runV (As := []) (rest := []) ⟨hx, hb, hml, hown, hts⟩ (mX6_thrown l D cI cO cJ h6 h6_ms h6_mv h6_mb h6_mc h6_mg h6_mt h6_ml h6_mr H.size x5_2 x5_3 x5_4 x5_5 mb mln mc mg mt ml mat wel mr rdm hsh _ hx6) (cwV 0 hts gL_law_X6_thrown rfl rfl rfl (by decide +kernel) ⟨Nat.le_of_ble_eq_true rfl, Nat.le_of_ble_eq_true rfl⟩) (pw_preV hK hN (pw_sub hP [15, 16, 17, 18, 19, 20, 21, 22, 23] rfl) (pw_subD hD [15, 16, 17, 18, 19, 20, 21, 22, 23] (by decide) rfl) (ci := 6) (q0 := 0) rfl rfl) rfl rfl hl.1 rfl (lv_room (Nat.le_of_ble_eq_true rfl)) dL_law_182 ⟨by have := hk; show _ ≤ (601024 : Nat); omega, by have := hk; show _ ≤ (7293034 : Nat); omega⟩) hP hD hS hA [15, 16, 17, 18, 19, 20, 21, 22, 23] [0, 1, 2, 3, 4, 5, 6, 7, 8, 9, 10, 11, 12, 13, 14, 24] [0, 1, 2, 3, 4, 5, 6, 7, 8, 9, 10, 11, 12, 13, 14, 16, 17, 18, 19, 20, 21, 22, 23, 24, 15] rfl rfl (by decide) (by decide) (by decide) rfl (fun H locs hP hD hS => ?_)
        refine lv_iload hx hb dL_law_185 (lv_at hl 1 rfl) ?_
        refine lv_icmp_eq (tgt := 192) hx hb dL_law_187 (by decide) (fun cq => ?_) (fun cq => ?_)
        · replace h := ifp cq h
          refine lv_iload hx hb dL_law_192 (lv_at hl 1 rfl) ?_
          refine lv_if_ne (tgt := 209) hx hb dL_law_194 (by decide) (fun cq => ?_) (fun cq => ?_)
          · replace h := ifn cq h
            refine lv_goto (tgt := 1558) hx hb dL_law_209 (by decide) ?_
            refine lv_iinc (v := (i + 4)) (lv' := [(4, .int (i + 4)), (6, .int x5_1), (5, .int x3_1), (0, .ref b), (1, .ref h5), (2, .ref h6), (3, .ref q3)]) hx hb dL_law_1558 hl (k := 6) rfl rfl (by decide) rfl (fun ls hl => ?_)
            refine lv_goto (tgt := 23) hx hb dL_law_1561 (by decide) ?_
            refine W.widen (k := 50 + (k + 1)) (n := 6341 + 6 * (k + 1)) (by omega) (by omega) ?_
            exact ih _ (k + 1) _ _ _ _ _ _ _ _ _ _ _ _ _ _ _ _ _ _ _ _ _ _ _ _ _ _ _ _ _ _ _ _ _ _ _ _ _ _ h (pl_i hi) (pl_k hi hL hk hgo) hP hD hS (lv_sub hl [3, 4, 5, 6, 0] rfl)
          · replace h := ifp cq h
            refine lv_aload_n hx hb dL_law_197 rfl (lv_at hl 5 rfl) ?_
            refine lv_iconst (v := 0) hx hb dL_law_198 (by decide) ?_
            obtain ⟨g7, h⟩ := gdn h
            refine va_lald hx hb hK hP 24 2 rfl rfl g7 dL_law_199 ?_
            refine lv_iload hx hb dL_law_200 (lv_at hl 0 rfl) ?_
            refine lv_i2l (v := x5_1.toInt64) hx hb dL_law_202 rfl ?_
            refine W.lcmp hx hb dL_law_203 ?_
            refine lv_if_eq (tgt := 209) hx hb dL_law_204 (by decide) (fun cq => ?_) (fun cq => ?_)
            · replace h := ifp cq h
              refine lv_goto (tgt := 1558) hx hb dL_law_209 (by decide) ?_
              refine lv_iinc (v := (i + 4)) (lv' := [(4, .int (i + 4)), (6, .int x5_1), (5, .int x3_1), (0, .ref b), (1, .ref h5), (2, .ref h6), (3, .ref q3)]) hx hb dL_law_1558 hl (k := 6) rfl rfl (by decide) rfl (fun ls hl => ?_)
              refine lv_goto (tgt := 23) hx hb dL_law_1561 (by decide) ?_
              refine W.widen (k := 50 + (k + 1)) (n := 6341 + 6 * (k + 1)) (by omega) (by omega) ?_
              exact ih _ (k + 1) _ _ _ _ _ _ _ _ _ _ _ _ _ _ _ _ _ _ _ _ _ _ _ _ _ _ _ _ _ _ _ _ _ _ _ _ _ _ h (pl_i hi) (pl_k hi hL hk hgo) hP hD hS (lv_sub hl [3, 4, 5, 6, 0] rfl)
            · replace h := ifn cq h
              refine lv_iconst (v := 0) hx hb dL_law_207 (by decide) ?_
              exact absurd (Option.some.inj h) (by decide)
        · replace h := ifn cq h
          refine lv_iconst (v := 0) hx hb dL_law_190 (by decide) ?_
          exact absurd (Option.some.inj h) (by decide)
      replace h := ifn c0 h
      by_cases c1 : ((xs i.toNatClampNeg) &&& 31) = 1
      · replace h := ifp c1 h
        refine lv_tableIn (x := ((xs i.toNatClampNeg) &&& 31)) hx hb dL_law_39 (by rw [c1]; decide) (by rw [c1]; decide) (off := 173) (tgt := 212) (by rw [c1]; rfl) (by decide) ?_
        refine lv_aload_n hx hb dL_law_212 rfl (lv_at hl 1 rfl) ?_
        refine lv_aload_n hx hb dL_law_213 rfl (lv_at hl 0 rfl) ?_
        refine lv_iload hx hb dL_law_214 (lv_at hl 4 rfl) ?_
        refine lv_iconst (v := 1) hx hb dL_law_216 (by decide) ?_
        refine lv_iadd hx hb dL_law_217 ?_
        obtain ⟨g8, h⟩ := gdn h
        refine va_sld hx hb hX hbl hbA hS g8 dL_law_218 ?_
        refine lv_aload_n hx hb dL_law_219 rfl (lv_at hl 0 rfl) ?_
        refine lv_iload hx hb dL_law_220 (lv_at hl 4 rfl) ?_
        refine lv_iconst (v := 2) hx hb dL_law_222 (by decide) ?_
        refine lv_iadd hx hb dL_law_223 ?_
        obtain ⟨g9, h⟩ := gdn h
        refine va_sld hx hb hX hbl hbA hS g9 dL_law_224 ?_
        refine lv_aload_n hx hb dL_law_225 rfl (lv_at hl 3 rfl) ?_
        obtain ⟨⟨x10_1, x10_2, x10_3, x10_4, x10_5, x10_6⟩, hx10, h⟩ := bnd h
        refine pw_goPiN (wc := [(h5, .inr (5, [.ref h2, .ref h1, .ref h4, .ref h0, .ref h3])), (h2, .inr (2, [.ref h2_row, .ref h2_ten, .ref h2_pha, .int len, .int kep, .int wfi, .int wmo, .int hun])), (h2_row, .inl (cI, 240, .inl row)), (h2_ten, .inl (cI, 4, .inl ten)), (h2_pha, .inl (cI, 4, .inl pha)), (h1, .inr (1, [.ref h1a, .int nex, .int man])), (h4, .inr (4, [.ref h4_cod, .ref h4_unf, .int tln])), (h4_cod, .inl (cI, 60, .inl cod)), (h4_unf, .inl (cI, 540, .inl unf)), (h0, .inr (0, [.ref h0_cel, .int cls])), (h0_cel, .inl (cI, 160, .inl cel)), (h3, .inr (3, [.ref h3_str, .ref h3_tlr, .ref h3_tsg])), (h3_str, .inl (cI, 40, .inl str)), (h3_tlr, .inl (cI, 240, .inl tlr)), (h3_tsg, .inl (cI, 240, .inl tsg)), (q3, .inl (cJ, 1, .inr (.inl f3)))]) (w1 := [(h5, .inr (5, [.ref h2, .ref h1, .ref h4, .ref h0, .ref h3])), (h2, .inr (2, [.ref h2_row, .ref h2_ten, .ref h2_pha, .int len, .int kep, .int wfi, .int wmo, .int hun])), (h2_row, .inl (cI, 240, .inl x10_2)), (h2_ten, .inl (cI, 4, .inl ten)), (h2_pha, .inl (cI, 4, .inl pha)), (h1, .inr (1, [.ref h1a, .int x10_3, .int x10_4])), (h4, .inr (4, [.ref h4_cod, .ref h4_unf, .int tln])), (h4_cod, .inl (cI, 60, .inl cod)), (h4_unf, .inl (cI, 540, .inl unf)), (h0, .inr (0, [.ref h0_cel, .int cls])), (h0_cel, .inl (cI, 160, .inl cel)), (h3, .inr (3, [.ref h3_str, .ref h3_tlr, .ref h3_tsg])), (h3_str, .inl (cI, 40, .inl str)), (h3_tlr, .inl (cI, 240, .inl tlr)), (h3_tsg, .inl (cI, 240, .inl tsg)), (q3, .inl (cJ, 1, .inr (.inl x10_5)))]) (w2 := [(h5, .inr (5, [.ref h2, .ref h1, .ref h4, .ref h0, .ref h3])), (h2, .inr (2, [.ref h2_row, .ref h2_ten, .ref h2_pha, .int len, .int kep, .int wfi, .int wmo, .int hun])), (h2_row, .inl (cI, 240, .inl x10_2)), (h2_ten, .inl (cI, 4, .inl ten)), (h2_pha, .inl (cI, 4, .inl pha)), (h1, .inr (1, [.ref h1a, .int x10_3, .int x10_4])), (h4, .inr (4, [.ref h4_cod, .ref h4_unf, .int tln])), (h4_cod, .inl (cI, 60, .inl cod)), (h4_unf, .inl (cI, 540, .inl unf)), (h0, .inr (0, [.ref h0_cel, .int cls])), (h0_cel, .inl (cI, 160, .inl cel)), (h3, .inr (3, [.ref h3_str, .ref h3_tlr, .ref h3_tsg])), (h3_str, .inl (cI, 40, .inl str)), (h3_tlr, .inl (cI, 240, .inl tlr)), (h3_tsg, .inl (cI, 240, .inl tsg)), (h6, .inr (6, [.int thr, .ref h6_ms, .ref h6_mv, .int svm, .ref h6_mb, .int mln, .ref h6_mc, .ref h6_mg, .ref h6_mt, .ref h6_ml, .int mat, .int wel, .ref h6_mr, .int rdm, .long hsh])), (h6_ms, .inl (cI, 253, .inl ms)), (h6_mv, .inl (cI, 1518, .inl mv)), (h6_mb, .inl (cI, 60, .inl mb)), (h6_mc, .inl (cI, 160, .inl mc)), (h6_mg, .inl (cI, 160, .inl mg)), (h6_mt, .inl (cI, 240, .inl mt)), (h6_ml, .inl (cI, 240, .inl ml)), (h6_mr, .inl (cI, 600, .inl mr)), (q3, .inl (cJ, 1, .inr (.inl x10_5)))]) (pl1 := ringW cI cO h1a rh x10_6) (vx_runSW (As := [.ref h5, .int (xs (i + 1).toNatClampNeg), .int (xs (i + 2).toNatClampNeg), .ref q3]) (rest := []) ⟨hx, hb, hml, hown, hts⟩ (mL_change l D cI cO cJ h5 h2 h2_row h2_ten h2_pha h1 h1a h4 h4_cod h4_unf h0 h0_cel h3 h3_str h3_tlr h3_tsg q3 rh H.size row ten pha len kep wfi wmo hun nex man cod unf tln cel cls str tlr tsg f3 rg (xs (i + 1).toNatClampNeg) (xs (i + 2).toNatClampNeg) _ hst hx10) (vx_cwSW 4 hts gL_law_L_change rfl rfl rfl (by decide +kernel) ⟨Nat.le_of_ble_eq_true rfl, Nat.le_of_ble_eq_true rfl⟩) (pl_preS hK hN ((px_X.kept hX9 hS.2.1).narrow (pw_freeP hD hS hA [0, 1, 2, 3, 4, 5, 6, 7, 8, 9, 10, 11, 12, 13, 14, 24] rfl)) hT hC9 (hP.part [0, 1, 2, 3, 4, 5, 6, 7, 8, 9, 10, 11, 12, 13, 14, 24] rfl) (hD.part [0, 1, 2, 3, 4, 5, 6, 7, 8, 9, 10, 11, 12, 13, 14, 24] (by decide) rfl)) rfl rfl hl.1 rfl (lv_room (Nat.le_of_ble_eq_true rfl)) dL_law_226 ⟨by have := hk; show _ ≤ (601024 : Nat); omega, by have := hk; show _ ≤ (7293034 : Nat); omega⟩) hP hD hS hA [0, 1, 2, 3, 4, 5, 6, 7, 8, 9, 10, 11, 12, 13, 14, 24] [15, 16, 17, 18, 19, 20, 21, 22, 23] [9, 10, 11, 12, 13, 14, 15, 16, 17, 18, 19, 20, 21, 22, 23, 0, 1, 2, 3, 4, 5, 6, 7, 8, 24] rfl rfl (by decide) (by decide) (by decide) rfl (fun H locs hP hD hS => ?_)
        refine lv_istore (lv' := [(5, .int x10_1), (0, .ref b), (1, .ref h5), (2, .ref h6), (3, .ref q3), (4, .int i)]) hx hb dL_law_229 hl (by decide) rfl (fun ls hl => ?_)
        refine lv_aload_n hx hb dL_law_231 rfl (lv_at hl 3 rfl) ?_
        refine lv_aload_n hx hb dL_law_232 rfl (lv_at hl 1 rfl) ?_
        refine lv_iload hx hb dL_law_233 (lv_at hl 5 rfl) ?_
        refine lv_iconst (v := 1) hx hb dL_law_235 (by decide) ?_
        refine lv_iadd hx hb dL_law_236 ?_
        obtain ⟨g11, h⟩ := gdn h
        refine va_sld hx hb hX hbl hbA hS g11 dL_law_237 ?_
        refine lv_aload_n hx hb dL_law_238 rfl (lv_at hl 1 rfl) ?_
        refine lv_iload hx hb dL_law_239 (lv_at hl 5 rfl) ?_
        refine lv_iconst (v := 2) hx hb dL_law_241 (by decide) ?_
        refine lv_iadd hx hb dL_law_242 ?_
        obtain ⟨g12, h⟩ := gdn h
        refine va_sld hx hb hX hbl hbA hS g12 dL_law_243 ?_
        obtain ⟨⟨x13_1, x13_2, x13_3, x13_4, x13_5⟩, hx13, h⟩ := bnd h
        refine pw_goi (wc := [(h6, .inr (6, [.int thr, .ref h6_ms, .ref h6_mv, .int svm, .ref h6_mb, .int mln, .ref h6_mc, .ref h6_mg, .ref h6_mt, .ref h6_ml, .int mat, .int wel, .ref h6_mr, .int rdm, .long hsh])), (h6_ms, .inl (cI, 253, .inl ms)), (h6_mv, .inl (cI, 1518, .inl mv)), (h6_mb, .inl (cI, 60, .inl mb)), (h6_mc, .inl (cI, 160, .inl mc)), (h6_mg, .inl (cI, 160, .inl mg)), (h6_mt, .inl (cI, 240, .inl mt)), (h6_ml, .inl (cI, 240, .inl ml)), (h6_mr, .inl (cI, 600, .inl mr))]) (w1 := [(h6, .inr (6, [.int x13_2, .ref h6_ms, .ref h6_mv, .int x13_5, .ref h6_mb, .int mln, .ref h6_mc, .ref h6_mg, .ref h6_mt, .ref h6_ml, .int mat, .int wel, .ref h6_mr, .int rdm, .long hsh])), (h6_ms, .inl (cI, 253, .inl x13_3)), (h6_mv, .inl (cI, 1518, .inl x13_4)), (h6_mb, .inl (cI, 60, .inl mb)), (h6_mc, .inl (cI, 160, .inl mc)), (h6_mg, .inl (cI, 160, .inl mg)), (h6_mt, .inl (cI, 240, .inl mt)), (h6_ml, .inl (cI, 240, .inl ml)), (h6_mr, .inl (cI, 600, .inl mr))]) (w2 := [(h5, .inr (5, [.ref h2, .ref h1, .ref h4, .ref h0, .ref h3])), (h2, .inr (2, [.ref h2_row, .ref h2_ten, .ref h2_pha, .int len, .int kep, .int wfi, .int wmo, .int hun])), (h2_row, .inl (cI, 240, .inl x10_2)), (h2_ten, .inl (cI, 4, .inl ten)), (h2_pha, .inl (cI, 4, .inl pha)), (h1, .inr (1, [.ref h1a, .int x10_3, .int x10_4])), (h4, .inr (4, [.ref h4_cod, .ref h4_unf, .int tln])), (h4_cod, .inl (cI, 60, .inl cod)), (h4_unf, .inl (cI, 540, .inl unf)), (h0, .inr (0, [.ref h0_cel, .int cls])), (h0_cel, .inl (cI, 160, .inl cel)), (h3, .inr (3, [.ref h3_str, .ref h3_tlr, .ref h3_tsg])), (h3_str, .inl (cI, 40, .inl str)), (h3_tlr, .inl (cI, 240, .inl tlr)), (h3_tsg, .inl (cI, 240, .inl tsg)), (h6, .inr (6, [.int x13_2, .ref h6_ms, .ref h6_mv, .int x13_5, .ref h6_mb, .int mln, .ref h6_mc, .ref h6_mg, .ref h6_mt, .ref h6_ml, .int mat, .int wel, .ref h6_mr, .int rdm, .long hsh])), (h6_ms, .inl (cI, 253, .inl x13_3)), (h6_mv, .inl (cI, 1518, .inl x13_4)), (h6_mb, .inl (cI, 60, .inl mb)), (h6_mc, .inl (cI, 160, .inl mc)), (h6_mg, .inl (cI, 160, .inl mg)), (h6_mt, .inl (cI, 240, .inl mt)), (h6_ml, .inl (cI, 240, .inl ml)), (h6_mr, .inl (cI, 600, .inl mr)), (q3, .inl (cJ, 1, .inr (.inl x10_5)))]) (va_runV (As := [.int (xs (i + 1).toNatClampNeg), .int (xs (i + 2).toNatClampNeg)]) (rest := []) ⟨hx, hb, hml, hown, hts⟩ (mX6_change l D cI cO cJ h6 h6_ms h6_mv h6_mb h6_mc h6_mg h6_mt h6_ml h6_mr H.size thr ms mv svm mb mln mc mg mt ml mat wel mr rdm hsh (xs (i + 1).toNatClampNeg) (xs (i + 2).toNatClampNeg) _ hx13) (cwV 2 hts gL_law_X6_change rfl rfl rfl (by decide +kernel) ⟨Nat.le_of_ble_eq_true rfl, Nat.le_of_ble_eq_true rfl⟩) (pw_preV hK hN (pw_sub hP [15, 16, 17, 18, 19, 20, 21, 22, 23] rfl) (pw_subD hD [15, 16, 17, 18, 19, 20, 21, 22, 23] (by decide) rfl) (ci := 6) (q0 := 0) rfl rfl) rfl rfl hl.1 rfl (lv_room (Nat.le_of_ble_eq_true rfl)) dL_law_244 ⟨by have := hk; show _ ≤ (601024 : Nat); omega, by have := hk; show _ ≤ (7293034 : Nat); omega⟩) hP hD hS hA [15, 16, 17, 18, 19, 20, 21, 22, 23] [0, 1, 2, 3, 4, 5, 6, 7, 8, 9, 10, 11, 12, 13, 14, 24] [0, 1, 2, 3, 4, 5, 6, 7, 8, 9, 10, 11, 12, 13, 14, 16, 17, 18, 19, 20, 21, 22, 23, 24, 15] rfl rfl (by decide) (by decide) (by decide) rfl (fun H locs hP hD hS => ?_)
        refine lv_istore (lv' := [(6, .int x13_1), (5, .int x10_1), (0, .ref b), (1, .ref h5), (2, .ref h6), (3, .ref q3), (4, .int i)]) hx hb dL_law_247 hl (by decide) rfl (fun ls hl => ?_)
        refine lv_aload_n hx hb dL_law_249 rfl (lv_at hl 4 rfl) ?_
        obtain ⟨x14, hx14, h⟩ := bnd h
        refine pw_goi (wc := [(h6, .inr (6, [.int x13_2, .ref h6_ms, .ref h6_mv, .int x13_5, .ref h6_mb, .int mln, .ref h6_mc, .ref h6_mg, .ref h6_mt, .ref h6_ml, .int mat, .int wel, .ref h6_mr, .int rdm, .long hsh])), (h6_ms, .inl (cI, 253, .inl x13_3)), (h6_mv, .inl (cI, 1518, .inl x13_4)), (h6_mb, .inl (cI, 60, .inl mb)), (h6_mc, .inl (cI, 160, .inl mc)), (h6_mg, .inl (cI, 160, .inl mg)), (h6_mt, .inl (cI, 240, .inl mt)), (h6_ml, .inl (cI, 240, .inl ml)), (h6_mr, .inl (cI, 600, .inl mr))]) (w1 := [(h6, .inr (6, [.int x13_2, .ref h6_ms, .ref h6_mv, .int x13_5, .ref h6_mb, .int mln, .ref h6_mc, .ref h6_mg, .ref h6_mt, .ref h6_ml, .int mat, .int wel, .ref h6_mr, .int rdm, .long hsh])), (h6_ms, .inl (cI, 253, .inl x13_3)), (h6_mv, .inl (cI, 1518, .inl x13_4)), (h6_mb, .inl (cI, 60, .inl mb)), (h6_mc, .inl (cI, 160, .inl mc)), (h6_mg, .inl (cI, 160, .inl mg)), (h6_mt, .inl (cI, 240, .inl mt)), (h6_ml, .inl (cI, 240, .inl ml)), (h6_mr, .inl (cI, 600, .inl mr))]) (w2 := [(h5, .inr (5, [.ref h2, .ref h1, .ref h4, .ref h0, .ref h3])), (h2, .inr (2, [.ref h2_row, .ref h2_ten, .ref h2_pha, .int len, .int kep, .int wfi, .int wmo, .int hun])), (h2_row, .inl (cI, 240, .inl x10_2)), (h2_ten, .inl (cI, 4, .inl ten)), (h2_pha, .inl (cI, 4, .inl pha)), (h1, .inr (1, [.ref h1a, .int x10_3, .int x10_4])), (h4, .inr (4, [.ref h4_cod, .ref h4_unf, .int tln])), (h4_cod, .inl (cI, 60, .inl cod)), (h4_unf, .inl (cI, 540, .inl unf)), (h0, .inr (0, [.ref h0_cel, .int cls])), (h0_cel, .inl (cI, 160, .inl cel)), (h3, .inr (3, [.ref h3_str, .ref h3_tlr, .ref h3_tsg])), (h3_str, .inl (cI, 40, .inl str)), (h3_tlr, .inl (cI, 240, .inl tlr)), (h3_tsg, .inl (cI, 240, .inl tsg)), (h6, .inr (6, [.int x13_2, .ref h6_ms, .ref h6_mv, .int x13_5, .ref h6_mb, .int mln, .ref h6_mc, .ref h6_mg, .ref h6_mt, .ref h6_ml, .int mat, .int wel, .ref h6_mr, .int rdm, .long hsh])), (h6_ms, .inl (cI, 253, .inl x13_3)), (h6_mv, .inl (cI, 1518, .inl x13_4)), (h6_mb, .inl (cI, 60, .inl mb)), (h6_mc, .inl (cI, 160, .inl mc)), (h6_mg, .inl (cI, 160, .inl mg)), (h6_mt, .inl (cI, 240, .inl mt)), (h6_ml, .inl (cI, 240, .inl ml)), (h6_mr, .inl (cI, 600, .inl mr)), (q3, .inl (cJ, 1, .inr (.inl x10_5)))]) (va_runV (As := []) (rest := []) ⟨hx, hb, hml, hown, hts⟩ (mX6_thrown l D cI cO cJ h6 h6_ms h6_mv h6_mb h6_mc h6_mg h6_mt h6_ml h6_mr H.size x13_2 x13_3 x13_4 x13_5 mb mln mc mg mt ml mat wel mr rdm hsh _ hx14) (cwV 0 hts gL_law_X6_thrown rfl rfl rfl (by decide +kernel) ⟨Nat.le_of_ble_eq_true rfl, Nat.le_of_ble_eq_true rfl⟩) (pw_preV hK hN (pw_sub hP [15, 16, 17, 18, 19, 20, 21, 22, 23] rfl) (pw_subD hD [15, 16, 17, 18, 19, 20, 21, 22, 23] (by decide) rfl) (ci := 6) (q0 := 0) rfl rfl) rfl rfl hl.1 rfl (lv_room (Nat.le_of_ble_eq_true rfl)) dL_law_250 ⟨by have := hk; show _ ≤ (601024 : Nat); omega, by have := hk; show _ ≤ (7293034 : Nat); omega⟩) hP hD hS hA [15, 16, 17, 18, 19, 20, 21, 22, 23] [0, 1, 2, 3, 4, 5, 6, 7, 8, 9, 10, 11, 12, 13, 14, 24] [0, 1, 2, 3, 4, 5, 6, 7, 8, 9, 10, 11, 12, 13, 14, 16, 17, 18, 19, 20, 21, 22, 23, 24, 15] rfl rfl (by decide) (by decide) (by decide) rfl (fun H locs hP hD hS => ?_)
        refine lv_iload hx hb dL_law_253 (lv_at hl 1 rfl) ?_
        refine lv_icmp_eq (tgt := 260) hx hb dL_law_255 (by decide) (fun cq => ?_) (fun cq => ?_)
        · replace h := ifp cq h
          refine lv_iload hx hb dL_law_260 (lv_at hl 1 rfl) ?_
          refine lv_if_ne (tgt := 277) hx hb dL_law_262 (by decide) (fun cq => ?_) (fun cq => ?_)
          · replace h := ifn cq h
            refine lv_goto (tgt := 1558) hx hb dL_law_277 (by decide) ?_
            refine lv_iinc (v := (i + 4)) (lv' := [(4, .int (i + 4)), (6, .int x13_1), (5, .int x10_1), (0, .ref b), (1, .ref h5), (2, .ref h6), (3, .ref q3)]) hx hb dL_law_1558 hl (k := 6) rfl rfl (by decide) rfl (fun ls hl => ?_)
            refine lv_goto (tgt := 23) hx hb dL_law_1561 (by decide) ?_
            refine W.widen (k := 50 + (k + 1)) (n := 6341 + 6 * (k + 1)) (by omega) (by omega) ?_
            exact ih _ (k + 1) _ _ _ _ _ _ _ _ _ _ _ _ _ _ _ _ _ _ _ _ _ _ _ _ _ _ _ _ _ _ _ _ _ _ _ _ _ _ h (pl_i hi) (pl_k hi hL hk hgo) hP hD hS (lv_sub hl [3, 4, 5, 6, 0] rfl)
          · replace h := ifp cq h
            refine lv_aload_n hx hb dL_law_265 rfl (lv_at hl 5 rfl) ?_
            refine lv_iconst (v := 0) hx hb dL_law_266 (by decide) ?_
            obtain ⟨g15, h⟩ := gdn h
            refine va_lald hx hb hK hP 24 2 rfl rfl g15 dL_law_267 ?_
            refine lv_iload hx hb dL_law_268 (lv_at hl 0 rfl) ?_
            refine lv_i2l (v := x13_1.toInt64) hx hb dL_law_270 rfl ?_
            refine W.lcmp hx hb dL_law_271 ?_
            refine lv_if_eq (tgt := 277) hx hb dL_law_272 (by decide) (fun cq => ?_) (fun cq => ?_)
            · replace h := ifp cq h
              refine lv_goto (tgt := 1558) hx hb dL_law_277 (by decide) ?_
              refine lv_iinc (v := (i + 4)) (lv' := [(4, .int (i + 4)), (6, .int x13_1), (5, .int x10_1), (0, .ref b), (1, .ref h5), (2, .ref h6), (3, .ref q3)]) hx hb dL_law_1558 hl (k := 6) rfl rfl (by decide) rfl (fun ls hl => ?_)
              refine lv_goto (tgt := 23) hx hb dL_law_1561 (by decide) ?_
              refine W.widen (k := 50 + (k + 1)) (n := 6341 + 6 * (k + 1)) (by omega) (by omega) ?_
              exact ih _ (k + 1) _ _ _ _ _ _ _ _ _ _ _ _ _ _ _ _ _ _ _ _ _ _ _ _ _ _ _ _ _ _ _ _ _ _ _ _ _ _ h (pl_i hi) (pl_k hi hL hk hgo) hP hD hS (lv_sub hl [3, 4, 5, 6, 0] rfl)
            · replace h := ifn cq h
              refine lv_iconst (v := 0) hx hb dL_law_275 (by decide) ?_
              exact absurd (Option.some.inj h) (by decide)
        · replace h := ifn cq h
          refine lv_iconst (v := 0) hx hb dL_law_258 (by decide) ?_
          exact absurd (Option.some.inj h) (by decide)
      replace h := ifn c1 h
      by_cases c2 : ((xs i.toNatClampNeg) &&& 31) = 2
      · replace h := ifp c2 h
        refine lv_tableIn (x := ((xs i.toNatClampNeg) &&& 31)) hx hb dL_law_39 (by rw [c2]; decide) (by rw [c2]; decide) (off := 241) (tgt := 280) (by rw [c2]; rfl) (by decide) ?_
        refine lv_aload_n hx hb dL_law_280 rfl (lv_at hl 1 rfl) ?_
        refine lv_aload_n hx hb dL_law_281 rfl (lv_at hl 0 rfl) ?_
        refine lv_iload hx hb dL_law_282 (lv_at hl 4 rfl) ?_
        refine lv_iconst (v := 1) hx hb dL_law_284 (by decide) ?_
        refine lv_iadd hx hb dL_law_285 ?_
        obtain ⟨g16, h⟩ := gdn h
        refine va_sld hx hb hX hbl hbA hS g16 dL_law_286 ?_
        refine lv_aload_n hx hb dL_law_287 rfl (lv_at hl 3 rfl) ?_
        obtain ⟨⟨x17_1, x17_2, x17_3, x17_4, x17_5, x17_6⟩, hx17, h⟩ := bnd h
        refine pw_goPiN (wc := [(h5, .inr (5, [.ref h2, .ref h1, .ref h4, .ref h0, .ref h3])), (h2, .inr (2, [.ref h2_row, .ref h2_ten, .ref h2_pha, .int len, .int kep, .int wfi, .int wmo, .int hun])), (h2_row, .inl (cI, 240, .inl row)), (h2_ten, .inl (cI, 4, .inl ten)), (h2_pha, .inl (cI, 4, .inl pha)), (h1, .inr (1, [.ref h1a, .int nex, .int man])), (h4, .inr (4, [.ref h4_cod, .ref h4_unf, .int tln])), (h4_cod, .inl (cI, 60, .inl cod)), (h4_unf, .inl (cI, 540, .inl unf)), (h0, .inr (0, [.ref h0_cel, .int cls])), (h0_cel, .inl (cI, 160, .inl cel)), (h3, .inr (3, [.ref h3_str, .ref h3_tlr, .ref h3_tsg])), (h3_str, .inl (cI, 40, .inl str)), (h3_tlr, .inl (cI, 240, .inl tlr)), (h3_tsg, .inl (cI, 240, .inl tsg)), (q3, .inl (cJ, 1, .inr (.inl f3)))]) (w1 := [(h5, .inr (5, [.ref h2, .ref h1, .ref h4, .ref h0, .ref h3])), (h2, .inr (2, [.ref h2_row, .ref h2_ten, .ref h2_pha, .int x17_2, .int kep, .int wfi, .int wmo, .int hun])), (h2_row, .inl (cI, 240, .inl row)), (h2_ten, .inl (cI, 4, .inl ten)), (h2_pha, .inl (cI, 4, .inl pha)), (h1, .inr (1, [.ref h1a, .int x17_3, .int x17_4])), (h4, .inr (4, [.ref h4_cod, .ref h4_unf, .int tln])), (h4_cod, .inl (cI, 60, .inl cod)), (h4_unf, .inl (cI, 540, .inl unf)), (h0, .inr (0, [.ref h0_cel, .int cls])), (h0_cel, .inl (cI, 160, .inl cel)), (h3, .inr (3, [.ref h3_str, .ref h3_tlr, .ref h3_tsg])), (h3_str, .inl (cI, 40, .inl str)), (h3_tlr, .inl (cI, 240, .inl tlr)), (h3_tsg, .inl (cI, 240, .inl tsg)), (q3, .inl (cJ, 1, .inr (.inl x17_5)))]) (w2 := [(h5, .inr (5, [.ref h2, .ref h1, .ref h4, .ref h0, .ref h3])), (h2, .inr (2, [.ref h2_row, .ref h2_ten, .ref h2_pha, .int x17_2, .int kep, .int wfi, .int wmo, .int hun])), (h2_row, .inl (cI, 240, .inl row)), (h2_ten, .inl (cI, 4, .inl ten)), (h2_pha, .inl (cI, 4, .inl pha)), (h1, .inr (1, [.ref h1a, .int x17_3, .int x17_4])), (h4, .inr (4, [.ref h4_cod, .ref h4_unf, .int tln])), (h4_cod, .inl (cI, 60, .inl cod)), (h4_unf, .inl (cI, 540, .inl unf)), (h0, .inr (0, [.ref h0_cel, .int cls])), (h0_cel, .inl (cI, 160, .inl cel)), (h3, .inr (3, [.ref h3_str, .ref h3_tlr, .ref h3_tsg])), (h3_str, .inl (cI, 40, .inl str)), (h3_tlr, .inl (cI, 240, .inl tlr)), (h3_tsg, .inl (cI, 240, .inl tsg)), (h6, .inr (6, [.int thr, .ref h6_ms, .ref h6_mv, .int svm, .ref h6_mb, .int mln, .ref h6_mc, .ref h6_mg, .ref h6_mt, .ref h6_ml, .int mat, .int wel, .ref h6_mr, .int rdm, .long hsh])), (h6_ms, .inl (cI, 253, .inl ms)), (h6_mv, .inl (cI, 1518, .inl mv)), (h6_mb, .inl (cI, 60, .inl mb)), (h6_mc, .inl (cI, 160, .inl mc)), (h6_mg, .inl (cI, 160, .inl mg)), (h6_mt, .inl (cI, 240, .inl mt)), (h6_ml, .inl (cI, 240, .inl ml)), (h6_mr, .inl (cI, 600, .inl mr)), (q3, .inl (cJ, 1, .inr (.inl x17_5)))]) (pl1 := ringW cI cO h1a rh x17_6) (vx_runSW (As := [.ref h5, .int (xs (i + 1).toNatClampNeg), .ref q3]) (rest := []) ⟨hx, hb, hml, hown, hts⟩ (mL_cut l D cI cO cJ h5 h2 h2_row h2_ten h2_pha h1 h1a h4 h4_cod h4_unf h0 h0_cel h3 h3_str h3_tlr h3_tsg q3 rh H.size row ten pha len kep wfi wmo hun nex man cod unf tln cel cls str tlr tsg f3 rg (xs (i + 1).toNatClampNeg) _ hst hx17) (vx_cwSW 3 hts gL_law_L_cut rfl rfl rfl (by decide +kernel) ⟨Nat.le_of_ble_eq_true rfl, Nat.le_of_ble_eq_true rfl⟩) (pl_preS hK hN ((px_X.kept hX9 hS.2.1).narrow (pw_freeP hD hS hA [0, 1, 2, 3, 4, 5, 6, 7, 8, 9, 10, 11, 12, 13, 14, 24] rfl)) hT hC9 (hP.part [0, 1, 2, 3, 4, 5, 6, 7, 8, 9, 10, 11, 12, 13, 14, 24] rfl) (hD.part [0, 1, 2, 3, 4, 5, 6, 7, 8, 9, 10, 11, 12, 13, 14, 24] (by decide) rfl)) rfl rfl hl.1 rfl (lv_room (Nat.le_of_ble_eq_true rfl)) dL_law_288 ⟨by have := hk; show _ ≤ (601024 : Nat); omega, by have := hk; show _ ≤ (7293034 : Nat); omega⟩) hP hD hS hA [0, 1, 2, 3, 4, 5, 6, 7, 8, 9, 10, 11, 12, 13, 14, 24] [15, 16, 17, 18, 19, 20, 21, 22, 23] [9, 10, 11, 12, 13, 14, 15, 16, 17, 18, 19, 20, 21, 22, 23, 0, 1, 2, 3, 4, 5, 6, 7, 8, 24] rfl rfl (by decide) (by decide) (by decide) rfl (fun H locs hP hD hS => ?_)
        refine lv_istore (lv' := [(5, .int x17_1), (0, .ref b), (1, .ref h5), (2, .ref h6), (3, .ref q3), (4, .int i)]) hx hb dL_law_291 hl (by decide) rfl (fun ls hl => ?_)
        refine lv_aload_n hx hb dL_law_293 rfl (lv_at hl 3 rfl) ?_
        refine lv_aload_n hx hb dL_law_294 rfl (lv_at hl 1 rfl) ?_
        refine lv_iload hx hb dL_law_295 (lv_at hl 5 rfl) ?_
        refine lv_iconst (v := 1) hx hb dL_law_297 (by decide) ?_
        refine lv_iadd hx hb dL_law_298 ?_
        obtain ⟨g18, h⟩ := gdn h
        refine va_sld hx hb hX hbl hbA hS g18 dL_law_299 ?_
        obtain ⟨⟨x19_1, x19_2, x19_3, x19_4, x19_5⟩, hx19, h⟩ := bnd h
        refine pw_goi (wc := [(h6, .inr (6, [.int thr, .ref h6_ms, .ref h6_mv, .int svm, .ref h6_mb, .int mln, .ref h6_mc, .ref h6_mg, .ref h6_mt, .ref h6_ml, .int mat, .int wel, .ref h6_mr, .int rdm, .long hsh])), (h6_ms, .inl (cI, 253, .inl ms)), (h6_mv, .inl (cI, 1518, .inl mv)), (h6_mb, .inl (cI, 60, .inl mb)), (h6_mc, .inl (cI, 160, .inl mc)), (h6_mg, .inl (cI, 160, .inl mg)), (h6_mt, .inl (cI, 240, .inl mt)), (h6_ml, .inl (cI, 240, .inl ml)), (h6_mr, .inl (cI, 600, .inl mr))]) (w1 := [(h6, .inr (6, [.int x19_2, .ref h6_ms, .ref h6_mv, .int x19_5, .ref h6_mb, .int mln, .ref h6_mc, .ref h6_mg, .ref h6_mt, .ref h6_ml, .int mat, .int wel, .ref h6_mr, .int rdm, .long hsh])), (h6_ms, .inl (cI, 253, .inl x19_3)), (h6_mv, .inl (cI, 1518, .inl x19_4)), (h6_mb, .inl (cI, 60, .inl mb)), (h6_mc, .inl (cI, 160, .inl mc)), (h6_mg, .inl (cI, 160, .inl mg)), (h6_mt, .inl (cI, 240, .inl mt)), (h6_ml, .inl (cI, 240, .inl ml)), (h6_mr, .inl (cI, 600, .inl mr))]) (w2 := [(h5, .inr (5, [.ref h2, .ref h1, .ref h4, .ref h0, .ref h3])), (h2, .inr (2, [.ref h2_row, .ref h2_ten, .ref h2_pha, .int x17_2, .int kep, .int wfi, .int wmo, .int hun])), (h2_row, .inl (cI, 240, .inl row)), (h2_ten, .inl (cI, 4, .inl ten)), (h2_pha, .inl (cI, 4, .inl pha)), (h1, .inr (1, [.ref h1a, .int x17_3, .int x17_4])), (h4, .inr (4, [.ref h4_cod, .ref h4_unf, .int tln])), (h4_cod, .inl (cI, 60, .inl cod)), (h4_unf, .inl (cI, 540, .inl unf)), (h0, .inr (0, [.ref h0_cel, .int cls])), (h0_cel, .inl (cI, 160, .inl cel)), (h3, .inr (3, [.ref h3_str, .ref h3_tlr, .ref h3_tsg])), (h3_str, .inl (cI, 40, .inl str)), (h3_tlr, .inl (cI, 240, .inl tlr)), (h3_tsg, .inl (cI, 240, .inl tsg)), (h6, .inr (6, [.int x19_2, .ref h6_ms, .ref h6_mv, .int x19_5, .ref h6_mb, .int mln, .ref h6_mc, .ref h6_mg, .ref h6_mt, .ref h6_ml, .int mat, .int wel, .ref h6_mr, .int rdm, .long hsh])), (h6_ms, .inl (cI, 253, .inl x19_3)), (h6_mv, .inl (cI, 1518, .inl x19_4)), (h6_mb, .inl (cI, 60, .inl mb)), (h6_mc, .inl (cI, 160, .inl mc)), (h6_mg, .inl (cI, 160, .inl mg)), (h6_mt, .inl (cI, 240, .inl mt)), (h6_ml, .inl (cI, 240, .inl ml)), (h6_mr, .inl (cI, 600, .inl mr)), (q3, .inl (cJ, 1, .inr (.inl x17_5)))]) (va_runV (As := [.int (xs (i + 1).toNatClampNeg)]) (rest := []) ⟨hx, hb, hml, hown, hts⟩ (mX6_cut l D cI cO cJ h6 h6_ms h6_mv h6_mb h6_mc h6_mg h6_mt h6_ml h6_mr H.size thr ms mv svm mb mln mc mg mt ml mat wel mr rdm hsh (xs (i + 1).toNatClampNeg) _ hx19) (cwV 1 hts gL_law_X6_cut rfl rfl rfl (by decide +kernel) ⟨Nat.le_of_ble_eq_true rfl, Nat.le_of_ble_eq_true rfl⟩) (pw_preV hK hN (pw_sub hP [15, 16, 17, 18, 19, 20, 21, 22, 23] rfl) (pw_subD hD [15, 16, 17, 18, 19, 20, 21, 22, 23] (by decide) rfl) (ci := 6) (q0 := 0) rfl rfl) rfl rfl hl.1 rfl (lv_room (Nat.le_of_ble_eq_true rfl)) dL_law_300 ⟨by have := hk; show _ ≤ (601024 : Nat); omega, by have := hk; show _ ≤ (7293034 : Nat); omega⟩) hP hD hS hA [15, 16, 17, 18, 19, 20, 21, 22, 23] [0, 1, 2, 3, 4, 5, 6, 7, 8, 9, 10, 11, 12, 13, 14, 24] [0, 1, 2, 3, 4, 5, 6, 7, 8, 9, 10, 11, 12, 13, 14, 16, 17, 18, 19, 20, 21, 22, 23, 24, 15] rfl rfl (by decide) (by decide) (by decide) rfl (fun H locs hP hD hS => ?_)
        refine lv_istore (lv' := [(6, .int x19_1), (5, .int x17_1), (0, .ref b), (1, .ref h5), (2, .ref h6), (3, .ref q3), (4, .int i)]) hx hb dL_law_303 hl (by decide) rfl (fun ls hl => ?_)
        refine lv_aload_n hx hb dL_law_305 rfl (lv_at hl 4 rfl) ?_
        obtain ⟨x20, hx20, h⟩ := bnd h
        refine pw_goi (wc := [(h6, .inr (6, [.int x19_2, .ref h6_ms, .ref h6_mv, .int x19_5, .ref h6_mb, .int mln, .ref h6_mc, .ref h6_mg, .ref h6_mt, .ref h6_ml, .int mat, .int wel, .ref h6_mr, .int rdm, .long hsh])), (h6_ms, .inl (cI, 253, .inl x19_3)), (h6_mv, .inl (cI, 1518, .inl x19_4)), (h6_mb, .inl (cI, 60, .inl mb)), (h6_mc, .inl (cI, 160, .inl mc)), (h6_mg, .inl (cI, 160, .inl mg)), (h6_mt, .inl (cI, 240, .inl mt)), (h6_ml, .inl (cI, 240, .inl ml)), (h6_mr, .inl (cI, 600, .inl mr))]) (w1 := [(h6, .inr (6, [.int x19_2, .ref h6_ms, .ref h6_mv, .int x19_5, .ref h6_mb, .int mln, .ref h6_mc, .ref h6_mg, .ref h6_mt, .ref h6_ml, .int mat, .int wel, .ref h6_mr, .int rdm, .long hsh])), (h6_ms, .inl (cI, 253, .inl x19_3)), (h6_mv, .inl (cI, 1518, .inl x19_4)), (h6_mb, .inl (cI, 60, .inl mb)), (h6_mc, .inl (cI, 160, .inl mc)), (h6_mg, .inl (cI, 160, .inl mg)), (h6_mt, .inl (cI, 240, .inl mt)), (h6_ml, .inl (cI, 240, .inl ml)), (h6_mr, .inl (cI, 600, .inl mr))]) (w2 := [(h5, .inr (5, [.ref h2, .ref h1, .ref h4, .ref h0, .ref h3])), (h2, .inr (2, [.ref h2_row, .ref h2_ten, .ref h2_pha, .int x17_2, .int kep, .int wfi, .int wmo, .int hun])), (h2_row, .inl (cI, 240, .inl row)), (h2_ten, .inl (cI, 4, .inl ten)), (h2_pha, .inl (cI, 4, .inl pha)), (h1, .inr (1, [.ref h1a, .int x17_3, .int x17_4])), (h4, .inr (4, [.ref h4_cod, .ref h4_unf, .int tln])), (h4_cod, .inl (cI, 60, .inl cod)), (h4_unf, .inl (cI, 540, .inl unf)), (h0, .inr (0, [.ref h0_cel, .int cls])), (h0_cel, .inl (cI, 160, .inl cel)), (h3, .inr (3, [.ref h3_str, .ref h3_tlr, .ref h3_tsg])), (h3_str, .inl (cI, 40, .inl str)), (h3_tlr, .inl (cI, 240, .inl tlr)), (h3_tsg, .inl (cI, 240, .inl tsg)), (h6, .inr (6, [.int x19_2, .ref h6_ms, .ref h6_mv, .int x19_5, .ref h6_mb, .int mln, .ref h6_mc, .ref h6_mg, .ref h6_mt, .ref h6_ml, .int mat, .int wel, .ref h6_mr, .int rdm, .long hsh])), (h6_ms, .inl (cI, 253, .inl x19_3)), (h6_mv, .inl (cI, 1518, .inl x19_4)), (h6_mb, .inl (cI, 60, .inl mb)), (h6_mc, .inl (cI, 160, .inl mc)), (h6_mg, .inl (cI, 160, .inl mg)), (h6_mt, .inl (cI, 240, .inl mt)), (h6_ml, .inl (cI, 240, .inl ml)), (h6_mr, .inl (cI, 600, .inl mr)), (q3, .inl (cJ, 1, .inr (.inl x17_5)))]) (va_runV (As := []) (rest := []) ⟨hx, hb, hml, hown, hts⟩ (mX6_thrown l D cI cO cJ h6 h6_ms h6_mv h6_mb h6_mc h6_mg h6_mt h6_ml h6_mr H.size x19_2 x19_3 x19_4 x19_5 mb mln mc mg mt ml mat wel mr rdm hsh _ hx20) (cwV 0 hts gL_law_X6_thrown rfl rfl rfl (by decide +kernel) ⟨Nat.le_of_ble_eq_true rfl, Nat.le_of_ble_eq_true rfl⟩) (pw_preV hK hN (pw_sub hP [15, 16, 17, 18, 19, 20, 21, 22, 23] rfl) (pw_subD hD [15, 16, 17, 18, 19, 20, 21, 22, 23] (by decide) rfl) (ci := 6) (q0 := 0) rfl rfl) rfl rfl hl.1 rfl (lv_room (Nat.le_of_ble_eq_true rfl)) dL_law_306 ⟨by have := hk; show _ ≤ (601024 : Nat); omega, by have := hk; show _ ≤ (7293034 : Nat); omega⟩) hP hD hS hA [15, 16, 17, 18, 19, 20, 21, 22, 23] [0, 1, 2, 3, 4, 5, 6, 7, 8, 9, 10, 11, 12, 13, 14, 24] [0, 1, 2, 3, 4, 5, 6, 7, 8, 9, 10, 11, 12, 13, 14, 16, 17, 18, 19, 20, 21, 22, 23, 24, 15] rfl rfl (by decide) (by decide) (by decide) rfl (fun H locs hP hD hS => ?_)
        refine lv_iload hx hb dL_law_309 (lv_at hl 1 rfl) ?_
        refine lv_icmp_eq (tgt := 316) hx hb dL_law_311 (by decide) (fun cq => ?_) (fun cq => ?_)
        · replace h := ifp cq h
          refine lv_iload hx hb dL_law_316 (lv_at hl 1 rfl) ?_
          refine lv_if_ne (tgt := 333) hx hb dL_law_318 (by decide) (fun cq => ?_) (fun cq => ?_)
          · replace h := ifn cq h
            refine lv_goto (tgt := 1558) hx hb dL_law_333 (by decide) ?_
            refine lv_iinc (v := (i + 4)) (lv' := [(4, .int (i + 4)), (6, .int x19_1), (5, .int x17_1), (0, .ref b), (1, .ref h5), (2, .ref h6), (3, .ref q3)]) hx hb dL_law_1558 hl (k := 6) rfl rfl (by decide) rfl (fun ls hl => ?_)
            refine lv_goto (tgt := 23) hx hb dL_law_1561 (by decide) ?_
            refine W.widen (k := 50 + (k + 1)) (n := 6341 + 6 * (k + 1)) (by omega) (by omega) ?_
            exact ih _ (k + 1) _ _ _ _ _ _ _ _ _ _ _ _ _ _ _ _ _ _ _ _ _ _ _ _ _ _ _ _ _ _ _ _ _ _ _ _ _ _ h (pl_i hi) (pl_k hi hL hk hgo) hP hD hS (lv_sub hl [3, 4, 5, 6, 0] rfl)
          · replace h := ifp cq h
            refine lv_aload_n hx hb dL_law_321 rfl (lv_at hl 5 rfl) ?_
            refine lv_iconst (v := 0) hx hb dL_law_322 (by decide) ?_
            obtain ⟨g21, h⟩ := gdn h
            refine va_lald hx hb hK hP 24 2 rfl rfl g21 dL_law_323 ?_
            refine lv_iload hx hb dL_law_324 (lv_at hl 0 rfl) ?_
            refine lv_i2l (v := x19_1.toInt64) hx hb dL_law_326 rfl ?_
            refine W.lcmp hx hb dL_law_327 ?_
            refine lv_if_eq (tgt := 333) hx hb dL_law_328 (by decide) (fun cq => ?_) (fun cq => ?_)
            · replace h := ifp cq h
              refine lv_goto (tgt := 1558) hx hb dL_law_333 (by decide) ?_
              refine lv_iinc (v := (i + 4)) (lv' := [(4, .int (i + 4)), (6, .int x19_1), (5, .int x17_1), (0, .ref b), (1, .ref h5), (2, .ref h6), (3, .ref q3)]) hx hb dL_law_1558 hl (k := 6) rfl rfl (by decide) rfl (fun ls hl => ?_)
              refine lv_goto (tgt := 23) hx hb dL_law_1561 (by decide) ?_
              refine W.widen (k := 50 + (k + 1)) (n := 6341 + 6 * (k + 1)) (by omega) (by omega) ?_
              exact ih _ (k + 1) _ _ _ _ _ _ _ _ _ _ _ _ _ _ _ _ _ _ _ _ _ _ _ _ _ _ _ _ _ _ _ _ _ _ _ _ _ _ h (pl_i hi) (pl_k hi hL hk hgo) hP hD hS (lv_sub hl [3, 4, 5, 6, 0] rfl)
            · replace h := ifn cq h
              refine lv_iconst (v := 0) hx hb dL_law_331 (by decide) ?_
              exact absurd (Option.some.inj h) (by decide)
        · replace h := ifn cq h
          refine lv_iconst (v := 0) hx hb dL_law_314 (by decide) ?_
          exact absurd (Option.some.inj h) (by decide)
      replace h := ifn c2 h
      by_cases c3 : ((xs i.toNatClampNeg) &&& 31) = 3
      · replace h := ifp c3 h
        refine lv_tableIn (x := ((xs i.toNatClampNeg) &&& 31)) hx hb dL_law_39 (by rw [c3]; decide) (by rw [c3]; decide) (off := 297) (tgt := 336) (by rw [c3]; rfl) (by decide) ?_
        refine lv_aload_n hx hb dL_law_336 rfl (lv_at hl 1 rfl) ?_
        refine lv_aload_n hx hb dL_law_337 rfl (lv_at hl 0 rfl) ?_
        refine lv_iload hx hb dL_law_338 (lv_at hl 4 rfl) ?_
        refine lv_iconst (v := 1) hx hb dL_law_340 (by decide) ?_
        refine lv_iadd hx hb dL_law_341 ?_
        obtain ⟨g22, h⟩ := gdn h
        refine va_sld hx hb hX hbl hbA hS g22 dL_law_342 ?_
        refine lv_aload_n hx hb dL_law_343 rfl (lv_at hl 0 rfl) ?_
        refine lv_iload hx hb dL_law_344 (lv_at hl 4 rfl) ?_
        refine lv_iconst (v := 2) hx hb dL_law_346 (by decide) ?_
        refine lv_iadd hx hb dL_law_347 ?_
        obtain ⟨g23, h⟩ := gdn h
        refine va_sld hx hb hX hbl hbA hS g23 dL_law_348 ?_
        refine lv_aload_n hx hb dL_law_349 rfl (lv_at hl 0 rfl) ?_
        refine lv_iload hx hb dL_law_350 (lv_at hl 4 rfl) ?_
        refine lv_iconst (v := 3) hx hb dL_law_352 (by decide) ?_
        refine lv_iadd hx hb dL_law_353 ?_
        obtain ⟨g24, h⟩ := gdn h
        refine va_sld hx hb hX hbl hbA hS g24 dL_law_354 ?_
        refine lv_aload_n hx hb dL_law_355 rfl (lv_at hl 3 rfl) ?_
        obtain ⟨⟨x25_1, x25_2, x25_3, x25_4, x25_5, x25_6, x25_7⟩, hx25, h⟩ := bnd h
        refine pw_goPiN (wc := [(h5, .inr (5, [.ref h2, .ref h1, .ref h4, .ref h0, .ref h3])), (h2, .inr (2, [.ref h2_row, .ref h2_ten, .ref h2_pha, .int len, .int kep, .int wfi, .int wmo, .int hun])), (h2_row, .inl (cI, 240, .inl row)), (h2_ten, .inl (cI, 4, .inl ten)), (h2_pha, .inl (cI, 4, .inl pha)), (h1, .inr (1, [.ref h1a, .int nex, .int man])), (h4, .inr (4, [.ref h4_cod, .ref h4_unf, .int tln])), (h4_cod, .inl (cI, 60, .inl cod)), (h4_unf, .inl (cI, 540, .inl unf)), (h0, .inr (0, [.ref h0_cel, .int cls])), (h0_cel, .inl (cI, 160, .inl cel)), (h3, .inr (3, [.ref h3_str, .ref h3_tlr, .ref h3_tsg])), (h3_str, .inl (cI, 40, .inl str)), (h3_tlr, .inl (cI, 240, .inl tlr)), (h3_tsg, .inl (cI, 240, .inl tsg)), (q3, .inl (cJ, 1, .inr (.inl f3)))]) (w1 := [(h5, .inr (5, [.ref h2, .ref h1, .ref h4, .ref h0, .ref h3])), (h2, .inr (2, [.ref h2_row, .ref h2_ten, .ref h2_pha, .int x25_3, .int kep, .int wfi, .int wmo, .int hun])), (h2_row, .inl (cI, 240, .inl x25_2)), (h2_ten, .inl (cI, 4, .inl ten)), (h2_pha, .inl (cI, 4, .inl pha)), (h1, .inr (1, [.ref h1a, .int x25_4, .int x25_5])), (h4, .inr (4, [.ref h4_cod, .ref h4_unf, .int tln])), (h4_cod, .inl (cI, 60, .inl cod)), (h4_unf, .inl (cI, 540, .inl unf)), (h0, .inr (0, [.ref h0_cel, .int cls])), (h0_cel, .inl (cI, 160, .inl cel)), (h3, .inr (3, [.ref h3_str, .ref h3_tlr, .ref h3_tsg])), (h3_str, .inl (cI, 40, .inl str)), (h3_tlr, .inl (cI, 240, .inl tlr)), (h3_tsg, .inl (cI, 240, .inl tsg)), (q3, .inl (cJ, 1, .inr (.inl x25_6)))]) (w2 := [(h5, .inr (5, [.ref h2, .ref h1, .ref h4, .ref h0, .ref h3])), (h2, .inr (2, [.ref h2_row, .ref h2_ten, .ref h2_pha, .int x25_3, .int kep, .int wfi, .int wmo, .int hun])), (h2_row, .inl (cI, 240, .inl x25_2)), (h2_ten, .inl (cI, 4, .inl ten)), (h2_pha, .inl (cI, 4, .inl pha)), (h1, .inr (1, [.ref h1a, .int x25_4, .int x25_5])), (h4, .inr (4, [.ref h4_cod, .ref h4_unf, .int tln])), (h4_cod, .inl (cI, 60, .inl cod)), (h4_unf, .inl (cI, 540, .inl unf)), (h0, .inr (0, [.ref h0_cel, .int cls])), (h0_cel, .inl (cI, 160, .inl cel)), (h3, .inr (3, [.ref h3_str, .ref h3_tlr, .ref h3_tsg])), (h3_str, .inl (cI, 40, .inl str)), (h3_tlr, .inl (cI, 240, .inl tlr)), (h3_tsg, .inl (cI, 240, .inl tsg)), (h6, .inr (6, [.int thr, .ref h6_ms, .ref h6_mv, .int svm, .ref h6_mb, .int mln, .ref h6_mc, .ref h6_mg, .ref h6_mt, .ref h6_ml, .int mat, .int wel, .ref h6_mr, .int rdm, .long hsh])), (h6_ms, .inl (cI, 253, .inl ms)), (h6_mv, .inl (cI, 1518, .inl mv)), (h6_mb, .inl (cI, 60, .inl mb)), (h6_mc, .inl (cI, 160, .inl mc)), (h6_mg, .inl (cI, 160, .inl mg)), (h6_mt, .inl (cI, 240, .inl mt)), (h6_ml, .inl (cI, 240, .inl ml)), (h6_mr, .inl (cI, 600, .inl mr)), (q3, .inl (cJ, 1, .inr (.inl x25_6)))]) (pl1 := ringW cI cO h1a rh x25_7) (vx_runSW (As := [.ref h5, .int (xs (i + 1).toNatClampNeg), .int (xs (i + 2).toNatClampNeg), .int (xs (i + 3).toNatClampNeg), .ref q3]) (rest := []) ⟨hx, hb, hml, hown, hts⟩ (mL_grow l D cI cO cJ h5 h2 h2_row h2_ten h2_pha h1 h1a h4 h4_cod h4_unf h0 h0_cel h3 h3_str h3_tlr h3_tsg q3 rh H.size row ten pha len kep wfi wmo hun nex man cod unf tln cel cls str tlr tsg f3 rg (xs (i + 1).toNatClampNeg) (xs (i + 2).toNatClampNeg) (xs (i + 3).toNatClampNeg) _ hst hx25) (vx_cwSW 5 hts gL_law_L_grow rfl rfl rfl (by decide +kernel) ⟨Nat.le_of_ble_eq_true rfl, Nat.le_of_ble_eq_true rfl⟩) (pl_preS hK hN ((px_X.kept hX9 hS.2.1).narrow (pw_freeP hD hS hA [0, 1, 2, 3, 4, 5, 6, 7, 8, 9, 10, 11, 12, 13, 14, 24] rfl)) hT hC9 (hP.part [0, 1, 2, 3, 4, 5, 6, 7, 8, 9, 10, 11, 12, 13, 14, 24] rfl) (hD.part [0, 1, 2, 3, 4, 5, 6, 7, 8, 9, 10, 11, 12, 13, 14, 24] (by decide) rfl)) rfl rfl hl.1 rfl (lv_room (Nat.le_of_ble_eq_true rfl)) dL_law_356 ⟨by have := hk; show _ ≤ (601024 : Nat); omega, by have := hk; show _ ≤ (7293034 : Nat); omega⟩) hP hD hS hA [0, 1, 2, 3, 4, 5, 6, 7, 8, 9, 10, 11, 12, 13, 14, 24] [15, 16, 17, 18, 19, 20, 21, 22, 23] [9, 10, 11, 12, 13, 14, 15, 16, 17, 18, 19, 20, 21, 22, 23, 0, 1, 2, 3, 4, 5, 6, 7, 8, 24] rfl rfl (by decide) (by decide) (by decide) rfl (fun H locs hP hD hS => ?_)
        refine lv_istore (lv' := [(5, .int x25_1), (0, .ref b), (1, .ref h5), (2, .ref h6), (3, .ref q3), (4, .int i)]) hx hb dL_law_359 hl (by decide) rfl (fun ls hl => ?_)
        refine lv_aload_n hx hb dL_law_361 rfl (lv_at hl 3 rfl) ?_
        refine lv_aload_n hx hb dL_law_362 rfl (lv_at hl 1 rfl) ?_
        refine lv_iload hx hb dL_law_363 (lv_at hl 5 rfl) ?_
        refine lv_iconst (v := 1) hx hb dL_law_365 (by decide) ?_
        refine lv_iadd hx hb dL_law_366 ?_
        obtain ⟨g26, h⟩ := gdn h
        refine va_sld hx hb hX hbl hbA hS g26 dL_law_367 ?_
        refine lv_aload_n hx hb dL_law_368 rfl (lv_at hl 1 rfl) ?_
        refine lv_iload hx hb dL_law_369 (lv_at hl 5 rfl) ?_
        refine lv_iconst (v := 2) hx hb dL_law_371 (by decide) ?_
        refine lv_iadd hx hb dL_law_372 ?_
        obtain ⟨g27, h⟩ := gdn h
        refine va_sld hx hb hX hbl hbA hS g27 dL_law_373 ?_
        refine lv_aload_n hx hb dL_law_374 rfl (lv_at hl 1 rfl) ?_
        refine lv_iload hx hb dL_law_375 (lv_at hl 5 rfl) ?_
        refine lv_iconst (v := 3) hx hb dL_law_377 (by decide) ?_
        refine lv_iadd hx hb dL_law_378 ?_
        obtain ⟨g28, h⟩ := gdn h
        refine va_sld hx hb hX hbl hbA hS g28 dL_law_379 ?_
        obtain ⟨⟨x29_1, x29_2, x29_3, x29_4, x29_5⟩, hx29, h⟩ := bnd h
        refine pw_goi (wc := [(h6, .inr (6, [.int thr, .ref h6_ms, .ref h6_mv, .int svm, .ref h6_mb, .int mln, .ref h6_mc, .ref h6_mg, .ref h6_mt, .ref h6_ml, .int mat, .int wel, .ref h6_mr, .int rdm, .long hsh])), (h6_ms, .inl (cI, 253, .inl ms)), (h6_mv, .inl (cI, 1518, .inl mv)), (h6_mb, .inl (cI, 60, .inl mb)), (h6_mc, .inl (cI, 160, .inl mc)), (h6_mg, .inl (cI, 160, .inl mg)), (h6_mt, .inl (cI, 240, .inl mt)), (h6_ml, .inl (cI, 240, .inl ml)), (h6_mr, .inl (cI, 600, .inl mr))]) (w1 := [(h6, .inr (6, [.int x29_2, .ref h6_ms, .ref h6_mv, .int x29_5, .ref h6_mb, .int mln, .ref h6_mc, .ref h6_mg, .ref h6_mt, .ref h6_ml, .int mat, .int wel, .ref h6_mr, .int rdm, .long hsh])), (h6_ms, .inl (cI, 253, .inl x29_3)), (h6_mv, .inl (cI, 1518, .inl x29_4)), (h6_mb, .inl (cI, 60, .inl mb)), (h6_mc, .inl (cI, 160, .inl mc)), (h6_mg, .inl (cI, 160, .inl mg)), (h6_mt, .inl (cI, 240, .inl mt)), (h6_ml, .inl (cI, 240, .inl ml)), (h6_mr, .inl (cI, 600, .inl mr))]) (w2 := [(h5, .inr (5, [.ref h2, .ref h1, .ref h4, .ref h0, .ref h3])), (h2, .inr (2, [.ref h2_row, .ref h2_ten, .ref h2_pha, .int x25_3, .int kep, .int wfi, .int wmo, .int hun])), (h2_row, .inl (cI, 240, .inl x25_2)), (h2_ten, .inl (cI, 4, .inl ten)), (h2_pha, .inl (cI, 4, .inl pha)), (h1, .inr (1, [.ref h1a, .int x25_4, .int x25_5])), (h4, .inr (4, [.ref h4_cod, .ref h4_unf, .int tln])), (h4_cod, .inl (cI, 60, .inl cod)), (h4_unf, .inl (cI, 540, .inl unf)), (h0, .inr (0, [.ref h0_cel, .int cls])), (h0_cel, .inl (cI, 160, .inl cel)), (h3, .inr (3, [.ref h3_str, .ref h3_tlr, .ref h3_tsg])), (h3_str, .inl (cI, 40, .inl str)), (h3_tlr, .inl (cI, 240, .inl tlr)), (h3_tsg, .inl (cI, 240, .inl tsg)), (h6, .inr (6, [.int x29_2, .ref h6_ms, .ref h6_mv, .int x29_5, .ref h6_mb, .int mln, .ref h6_mc, .ref h6_mg, .ref h6_mt, .ref h6_ml, .int mat, .int wel, .ref h6_mr, .int rdm, .long hsh])), (h6_ms, .inl (cI, 253, .inl x29_3)), (h6_mv, .inl (cI, 1518, .inl x29_4)), (h6_mb, .inl (cI, 60, .inl mb)), (h6_mc, .inl (cI, 160, .inl mc)), (h6_mg, .inl (cI, 160, .inl mg)), (h6_mt, .inl (cI, 240, .inl mt)), (h6_ml, .inl (cI, 240, .inl ml)), (h6_mr, .inl (cI, 600, .inl mr)), (q3, .inl (cJ, 1, .inr (.inl x25_6)))]) (va_runV (As := [.int (xs (i + 1).toNatClampNeg), .int (xs (i + 2).toNatClampNeg), .int (xs (i + 3).toNatClampNeg)]) (rest := []) ⟨hx, hb, hml, hown, hts⟩ (mX6_grow l D cI cO cJ h6 h6_ms h6_mv h6_mb h6_mc h6_mg h6_mt h6_ml h6_mr H.size thr ms mv svm mb mln mc mg mt ml mat wel mr rdm hsh (xs (i + 1).toNatClampNeg) (xs (i + 2).toNatClampNeg) (xs (i + 3).toNatClampNeg) _ hx29) (cwV 3 hts gL_law_X6_grow rfl rfl rfl (by decide +kernel) ⟨Nat.le_of_ble_eq_true rfl, Nat.le_of_ble_eq_true rfl⟩) (pw_preV hK hN (pw_sub hP [15, 16, 17, 18, 19, 20, 21, 22, 23] rfl) (pw_subD hD [15, 16, 17, 18, 19, 20, 21, 22, 23] (by decide) rfl) (ci := 6) (q0 := 0) rfl rfl) rfl rfl hl.1 rfl (lv_room (Nat.le_of_ble_eq_true rfl)) dL_law_380 ⟨by have := hk; show _ ≤ (601024 : Nat); omega, by have := hk; show _ ≤ (7293034 : Nat); omega⟩) hP hD hS hA [15, 16, 17, 18, 19, 20, 21, 22, 23] [0, 1, 2, 3, 4, 5, 6, 7, 8, 9, 10, 11, 12, 13, 14, 24] [0, 1, 2, 3, 4, 5, 6, 7, 8, 9, 10, 11, 12, 13, 14, 16, 17, 18, 19, 20, 21, 22, 23, 24, 15] rfl rfl (by decide) (by decide) (by decide) rfl (fun H locs hP hD hS => ?_)
        refine lv_istore (lv' := [(6, .int x29_1), (5, .int x25_1), (0, .ref b), (1, .ref h5), (2, .ref h6), (3, .ref q3), (4, .int i)]) hx hb dL_law_383 hl (by decide) rfl (fun ls hl => ?_)
        refine lv_aload_n hx hb dL_law_385 rfl (lv_at hl 4 rfl) ?_
        obtain ⟨x30, hx30, h⟩ := bnd h
        refine pw_goi (wc := [(h6, .inr (6, [.int x29_2, .ref h6_ms, .ref h6_mv, .int x29_5, .ref h6_mb, .int mln, .ref h6_mc, .ref h6_mg, .ref h6_mt, .ref h6_ml, .int mat, .int wel, .ref h6_mr, .int rdm, .long hsh])), (h6_ms, .inl (cI, 253, .inl x29_3)), (h6_mv, .inl (cI, 1518, .inl x29_4)), (h6_mb, .inl (cI, 60, .inl mb)), (h6_mc, .inl (cI, 160, .inl mc)), (h6_mg, .inl (cI, 160, .inl mg)), (h6_mt, .inl (cI, 240, .inl mt)), (h6_ml, .inl (cI, 240, .inl ml)), (h6_mr, .inl (cI, 600, .inl mr))]) (w1 := [(h6, .inr (6, [.int x29_2, .ref h6_ms, .ref h6_mv, .int x29_5, .ref h6_mb, .int mln, .ref h6_mc, .ref h6_mg, .ref h6_mt, .ref h6_ml, .int mat, .int wel, .ref h6_mr, .int rdm, .long hsh])), (h6_ms, .inl (cI, 253, .inl x29_3)), (h6_mv, .inl (cI, 1518, .inl x29_4)), (h6_mb, .inl (cI, 60, .inl mb)), (h6_mc, .inl (cI, 160, .inl mc)), (h6_mg, .inl (cI, 160, .inl mg)), (h6_mt, .inl (cI, 240, .inl mt)), (h6_ml, .inl (cI, 240, .inl ml)), (h6_mr, .inl (cI, 600, .inl mr))]) (w2 := [(h5, .inr (5, [.ref h2, .ref h1, .ref h4, .ref h0, .ref h3])), (h2, .inr (2, [.ref h2_row, .ref h2_ten, .ref h2_pha, .int x25_3, .int kep, .int wfi, .int wmo, .int hun])), (h2_row, .inl (cI, 240, .inl x25_2)), (h2_ten, .inl (cI, 4, .inl ten)), (h2_pha, .inl (cI, 4, .inl pha)), (h1, .inr (1, [.ref h1a, .int x25_4, .int x25_5])), (h4, .inr (4, [.ref h4_cod, .ref h4_unf, .int tln])), (h4_cod, .inl (cI, 60, .inl cod)), (h4_unf, .inl (cI, 540, .inl unf)), (h0, .inr (0, [.ref h0_cel, .int cls])), (h0_cel, .inl (cI, 160, .inl cel)), (h3, .inr (3, [.ref h3_str, .ref h3_tlr, .ref h3_tsg])), (h3_str, .inl (cI, 40, .inl str)), (h3_tlr, .inl (cI, 240, .inl tlr)), (h3_tsg, .inl (cI, 240, .inl tsg)), (h6, .inr (6, [.int x29_2, .ref h6_ms, .ref h6_mv, .int x29_5, .ref h6_mb, .int mln, .ref h6_mc, .ref h6_mg, .ref h6_mt, .ref h6_ml, .int mat, .int wel, .ref h6_mr, .int rdm, .long hsh])), (h6_ms, .inl (cI, 253, .inl x29_3)), (h6_mv, .inl (cI, 1518, .inl x29_4)), (h6_mb, .inl (cI, 60, .inl mb)), (h6_mc, .inl (cI, 160, .inl mc)), (h6_mg, .inl (cI, 160, .inl mg)), (h6_mt, .inl (cI, 240, .inl mt)), (h6_ml, .inl (cI, 240, .inl ml)), (h6_mr, .inl (cI, 600, .inl mr)), (q3, .inl (cJ, 1, .inr (.inl x25_6)))]) (va_runV (As := []) (rest := []) ⟨hx, hb, hml, hown, hts⟩ (mX6_thrown l D cI cO cJ h6 h6_ms h6_mv h6_mb h6_mc h6_mg h6_mt h6_ml h6_mr H.size x29_2 x29_3 x29_4 x29_5 mb mln mc mg mt ml mat wel mr rdm hsh _ hx30) (cwV 0 hts gL_law_X6_thrown rfl rfl rfl (by decide +kernel) ⟨Nat.le_of_ble_eq_true rfl, Nat.le_of_ble_eq_true rfl⟩) (pw_preV hK hN (pw_sub hP [15, 16, 17, 18, 19, 20, 21, 22, 23] rfl) (pw_subD hD [15, 16, 17, 18, 19, 20, 21, 22, 23] (by decide) rfl) (ci := 6) (q0 := 0) rfl rfl) rfl rfl hl.1 rfl (lv_room (Nat.le_of_ble_eq_true rfl)) dL_law_386 ⟨by have := hk; show _ ≤ (601024 : Nat); omega, by have := hk; show _ ≤ (7293034 : Nat); omega⟩) hP hD hS hA [15, 16, 17, 18, 19, 20, 21, 22, 23] [0, 1, 2, 3, 4, 5, 6, 7, 8, 9, 10, 11, 12, 13, 14, 24] [0, 1, 2, 3, 4, 5, 6, 7, 8, 9, 10, 11, 12, 13, 14, 16, 17, 18, 19, 20, 21, 22, 23, 24, 15] rfl rfl (by decide) (by decide) (by decide) rfl (fun H locs hP hD hS => ?_)
        refine lv_iload hx hb dL_law_389 (lv_at hl 1 rfl) ?_
        refine lv_icmp_eq (tgt := 396) hx hb dL_law_391 (by decide) (fun cq => ?_) (fun cq => ?_)
        · replace h := ifp cq h
          refine lv_iload hx hb dL_law_396 (lv_at hl 1 rfl) ?_
          refine lv_if_ne (tgt := 413) hx hb dL_law_398 (by decide) (fun cq => ?_) (fun cq => ?_)
          · replace h := ifn cq h
            refine lv_goto (tgt := 1558) hx hb dL_law_413 (by decide) ?_
            refine lv_iinc (v := (i + 4)) (lv' := [(4, .int (i + 4)), (6, .int x29_1), (5, .int x25_1), (0, .ref b), (1, .ref h5), (2, .ref h6), (3, .ref q3)]) hx hb dL_law_1558 hl (k := 6) rfl rfl (by decide) rfl (fun ls hl => ?_)
            refine lv_goto (tgt := 23) hx hb dL_law_1561 (by decide) ?_
            refine W.widen (k := 50 + (k + 1)) (n := 6341 + 6 * (k + 1)) (by omega) (by omega) ?_
            exact ih _ (k + 1) _ _ _ _ _ _ _ _ _ _ _ _ _ _ _ _ _ _ _ _ _ _ _ _ _ _ _ _ _ _ _ _ _ _ _ _ _ _ h (pl_i hi) (pl_k hi hL hk hgo) hP hD hS (lv_sub hl [3, 4, 5, 6, 0] rfl)
          · replace h := ifp cq h
            refine lv_aload_n hx hb dL_law_401 rfl (lv_at hl 5 rfl) ?_
            refine lv_iconst (v := 0) hx hb dL_law_402 (by decide) ?_
            obtain ⟨g31, h⟩ := gdn h
            refine va_lald hx hb hK hP 24 2 rfl rfl g31 dL_law_403 ?_
            refine lv_iload hx hb dL_law_404 (lv_at hl 0 rfl) ?_
            refine lv_i2l (v := x29_1.toInt64) hx hb dL_law_406 rfl ?_
            refine W.lcmp hx hb dL_law_407 ?_
            refine lv_if_eq (tgt := 413) hx hb dL_law_408 (by decide) (fun cq => ?_) (fun cq => ?_)
            · replace h := ifp cq h
              refine lv_goto (tgt := 1558) hx hb dL_law_413 (by decide) ?_
              refine lv_iinc (v := (i + 4)) (lv' := [(4, .int (i + 4)), (6, .int x29_1), (5, .int x25_1), (0, .ref b), (1, .ref h5), (2, .ref h6), (3, .ref q3)]) hx hb dL_law_1558 hl (k := 6) rfl rfl (by decide) rfl (fun ls hl => ?_)
              refine lv_goto (tgt := 23) hx hb dL_law_1561 (by decide) ?_
              refine W.widen (k := 50 + (k + 1)) (n := 6341 + 6 * (k + 1)) (by omega) (by omega) ?_
              exact ih _ (k + 1) _ _ _ _ _ _ _ _ _ _ _ _ _ _ _ _ _ _ _ _ _ _ _ _ _ _ _ _ _ _ _ _ _ _ _ _ _ _ h (pl_i hi) (pl_k hi hL hk hgo) hP hD hS (lv_sub hl [3, 4, 5, 6, 0] rfl)
            · replace h := ifn cq h
              refine lv_iconst (v := 0) hx hb dL_law_411 (by decide) ?_
              exact absurd (Option.some.inj h) (by decide)
        · replace h := ifn cq h
          refine lv_iconst (v := 0) hx hb dL_law_394 (by decide) ?_
          exact absurd (Option.some.inj h) (by decide)
      replace h := ifn c3 h
      by_cases c4 : ((xs i.toNatClampNeg) &&& 31) = 4
      · replace h := ifp c4 h
        refine lv_tableIn (x := ((xs i.toNatClampNeg) &&& 31)) hx hb dL_law_39 (by rw [c4]; decide) (by rw [c4]; decide) (off := 377) (tgt := 416) (by rw [c4]; rfl) (by decide) ?_
        refine lv_aload_n hx hb dL_law_416 rfl (lv_at hl 1 rfl) ?_
        refine lv_aload_n hx hb dL_law_417 rfl (lv_at hl 0 rfl) ?_
        refine lv_iload hx hb dL_law_418 (lv_at hl 4 rfl) ?_
        refine lv_iconst (v := 1) hx hb dL_law_420 (by decide) ?_
        refine lv_iadd hx hb dL_law_421 ?_
        obtain ⟨g32, h⟩ := gdn h
        refine va_sld hx hb hX hbl hbA hS g32 dL_law_422 ?_
        refine lv_aload_n hx hb dL_law_423 rfl (lv_at hl 0 rfl) ?_
        refine lv_iload hx hb dL_law_424 (lv_at hl 4 rfl) ?_
        refine lv_iconst (v := 2) hx hb dL_law_426 (by decide) ?_
        refine lv_iadd hx hb dL_law_427 ?_
        obtain ⟨g33, h⟩ := gdn h
        refine va_sld hx hb hX hbl hbA hS g33 dL_law_428 ?_
        refine lv_aload_n hx hb dL_law_429 rfl (lv_at hl 3 rfl) ?_
        obtain ⟨⟨x34_1, x34_2, x34_3, x34_4, x34_5, x34_6, x34_7, x34_8⟩, hx34, h⟩ := bnd h
        refine pw_goPiN (wc := [(h5, .inr (5, [.ref h2, .ref h1, .ref h4, .ref h0, .ref h3])), (h2, .inr (2, [.ref h2_row, .ref h2_ten, .ref h2_pha, .int len, .int kep, .int wfi, .int wmo, .int hun])), (h2_row, .inl (cI, 240, .inl row)), (h2_ten, .inl (cI, 4, .inl ten)), (h2_pha, .inl (cI, 4, .inl pha)), (h1, .inr (1, [.ref h1a, .int nex, .int man])), (h4, .inr (4, [.ref h4_cod, .ref h4_unf, .int tln])), (h4_cod, .inl (cI, 60, .inl cod)), (h4_unf, .inl (cI, 540, .inl unf)), (h0, .inr (0, [.ref h0_cel, .int cls])), (h0_cel, .inl (cI, 160, .inl cel)), (h3, .inr (3, [.ref h3_str, .ref h3_tlr, .ref h3_tsg])), (h3_str, .inl (cI, 40, .inl str)), (h3_tlr, .inl (cI, 240, .inl tlr)), (h3_tsg, .inl (cI, 240, .inl tsg)), (q3, .inl (cJ, 1, .inr (.inl f3)))]) (w1 := [(h5, .inr (5, [.ref h2, .ref h1, .ref h4, .ref h0, .ref h3])), (h2, .inr (2, [.ref h2_row, .ref h2_ten, .ref h2_pha, .int len, .int x34_4, .int wfi, .int wmo, .int hun])), (h2_row, .inl (cI, 240, .inl row)), (h2_ten, .inl (cI, 4, .inl x34_2)), (h2_pha, .inl (cI, 4, .inl x34_3)), (h1, .inr (1, [.ref h1a, .int x34_5, .int x34_6])), (h4, .inr (4, [.ref h4_cod, .ref h4_unf, .int tln])), (h4_cod, .inl (cI, 60, .inl cod)), (h4_unf, .inl (cI, 540, .inl unf)), (h0, .inr (0, [.ref h0_cel, .int cls])), (h0_cel, .inl (cI, 160, .inl cel)), (h3, .inr (3, [.ref h3_str, .ref h3_tlr, .ref h3_tsg])), (h3_str, .inl (cI, 40, .inl str)), (h3_tlr, .inl (cI, 240, .inl tlr)), (h3_tsg, .inl (cI, 240, .inl tsg)), (q3, .inl (cJ, 1, .inr (.inl x34_7)))]) (w2 := [(h5, .inr (5, [.ref h2, .ref h1, .ref h4, .ref h0, .ref h3])), (h2, .inr (2, [.ref h2_row, .ref h2_ten, .ref h2_pha, .int len, .int x34_4, .int wfi, .int wmo, .int hun])), (h2_row, .inl (cI, 240, .inl row)), (h2_ten, .inl (cI, 4, .inl x34_2)), (h2_pha, .inl (cI, 4, .inl x34_3)), (h1, .inr (1, [.ref h1a, .int x34_5, .int x34_6])), (h4, .inr (4, [.ref h4_cod, .ref h4_unf, .int tln])), (h4_cod, .inl (cI, 60, .inl cod)), (h4_unf, .inl (cI, 540, .inl unf)), (h0, .inr (0, [.ref h0_cel, .int cls])), (h0_cel, .inl (cI, 160, .inl cel)), (h3, .inr (3, [.ref h3_str, .ref h3_tlr, .ref h3_tsg])), (h3_str, .inl (cI, 40, .inl str)), (h3_tlr, .inl (cI, 240, .inl tlr)), (h3_tsg, .inl (cI, 240, .inl tsg)), (h6, .inr (6, [.int thr, .ref h6_ms, .ref h6_mv, .int svm, .ref h6_mb, .int mln, .ref h6_mc, .ref h6_mg, .ref h6_mt, .ref h6_ml, .int mat, .int wel, .ref h6_mr, .int rdm, .long hsh])), (h6_ms, .inl (cI, 253, .inl ms)), (h6_mv, .inl (cI, 1518, .inl mv)), (h6_mb, .inl (cI, 60, .inl mb)), (h6_mc, .inl (cI, 160, .inl mc)), (h6_mg, .inl (cI, 160, .inl mg)), (h6_mt, .inl (cI, 240, .inl mt)), (h6_ml, .inl (cI, 240, .inl ml)), (h6_mr, .inl (cI, 600, .inl mr)), (q3, .inl (cJ, 1, .inr (.inl x34_7)))]) (pl1 := ringW cI cO h1a rh x34_8) (vx_runSW (As := [.ref h5, .int (xs (i + 1).toNatClampNeg), .int (xs (i + 2).toNatClampNeg), .ref q3]) (rest := []) ⟨hx, hb, hml, hown, hts⟩ (mL_keep l D cI cO cJ h5 h2 h2_row h2_ten h2_pha h1 h1a h4 h4_cod h4_unf h0 h0_cel h3 h3_str h3_tlr h3_tsg q3 rh H.size row ten pha len kep wfi wmo hun nex man cod unf tln cel cls str tlr tsg f3 rg (xs (i + 1).toNatClampNeg) (xs (i + 2).toNatClampNeg) _ hst hx34) (vx_cwSW 4 hts gL_law_L_keep rfl rfl rfl (by decide +kernel) ⟨Nat.le_of_ble_eq_true rfl, Nat.le_of_ble_eq_true rfl⟩) (pl_preS hK hN ((px_X.kept hX9 hS.2.1).narrow (pw_freeP hD hS hA [0, 1, 2, 3, 4, 5, 6, 7, 8, 9, 10, 11, 12, 13, 14, 24] rfl)) hT hC9 (hP.part [0, 1, 2, 3, 4, 5, 6, 7, 8, 9, 10, 11, 12, 13, 14, 24] rfl) (hD.part [0, 1, 2, 3, 4, 5, 6, 7, 8, 9, 10, 11, 12, 13, 14, 24] (by decide) rfl)) rfl rfl hl.1 rfl (lv_room (Nat.le_of_ble_eq_true rfl)) dL_law_430 ⟨by have := hk; show _ ≤ (601024 : Nat); omega, by have := hk; show _ ≤ (7293034 : Nat); omega⟩) hP hD hS hA [0, 1, 2, 3, 4, 5, 6, 7, 8, 9, 10, 11, 12, 13, 14, 24] [15, 16, 17, 18, 19, 20, 21, 22, 23] [9, 10, 11, 12, 13, 14, 15, 16, 17, 18, 19, 20, 21, 22, 23, 0, 1, 2, 3, 4, 5, 6, 7, 8, 24] rfl rfl (by decide) (by decide) (by decide) rfl (fun H locs hP hD hS => ?_)
        refine lv_istore (lv' := [(5, .int x34_1), (0, .ref b), (1, .ref h5), (2, .ref h6), (3, .ref q3), (4, .int i)]) hx hb dL_law_433 hl (by decide) rfl (fun ls hl => ?_)
        refine lv_aload_n hx hb dL_law_435 rfl (lv_at hl 3 rfl) ?_
        refine lv_aload_n hx hb dL_law_436 rfl (lv_at hl 1 rfl) ?_
        refine lv_iload hx hb dL_law_437 (lv_at hl 5 rfl) ?_
        refine lv_iconst (v := 1) hx hb dL_law_439 (by decide) ?_
        refine lv_iadd hx hb dL_law_440 ?_
        obtain ⟨g35, h⟩ := gdn h
        refine va_sld hx hb hX hbl hbA hS g35 dL_law_441 ?_
        refine lv_aload_n hx hb dL_law_442 rfl (lv_at hl 1 rfl) ?_
        refine lv_iload hx hb dL_law_443 (lv_at hl 5 rfl) ?_
        refine lv_iconst (v := 2) hx hb dL_law_445 (by decide) ?_
        refine lv_iadd hx hb dL_law_446 ?_
        obtain ⟨g36, h⟩ := gdn h
        refine va_sld hx hb hX hbl hbA hS g36 dL_law_447 ?_
        obtain ⟨⟨x37_1, x37_2, x37_3, x37_4, x37_5⟩, hx37, h⟩ := bnd h
        refine pw_goi (wc := [(h6, .inr (6, [.int thr, .ref h6_ms, .ref h6_mv, .int svm, .ref h6_mb, .int mln, .ref h6_mc, .ref h6_mg, .ref h6_mt, .ref h6_ml, .int mat, .int wel, .ref h6_mr, .int rdm, .long hsh])), (h6_ms, .inl (cI, 253, .inl ms)), (h6_mv, .inl (cI, 1518, .inl mv)), (h6_mb, .inl (cI, 60, .inl mb)), (h6_mc, .inl (cI, 160, .inl mc)), (h6_mg, .inl (cI, 160, .inl mg)), (h6_mt, .inl (cI, 240, .inl mt)), (h6_ml, .inl (cI, 240, .inl ml)), (h6_mr, .inl (cI, 600, .inl mr))]) (w1 := [(h6, .inr (6, [.int x37_2, .ref h6_ms, .ref h6_mv, .int x37_5, .ref h6_mb, .int mln, .ref h6_mc, .ref h6_mg, .ref h6_mt, .ref h6_ml, .int mat, .int wel, .ref h6_mr, .int rdm, .long hsh])), (h6_ms, .inl (cI, 253, .inl x37_3)), (h6_mv, .inl (cI, 1518, .inl x37_4)), (h6_mb, .inl (cI, 60, .inl mb)), (h6_mc, .inl (cI, 160, .inl mc)), (h6_mg, .inl (cI, 160, .inl mg)), (h6_mt, .inl (cI, 240, .inl mt)), (h6_ml, .inl (cI, 240, .inl ml)), (h6_mr, .inl (cI, 600, .inl mr))]) (w2 := [(h5, .inr (5, [.ref h2, .ref h1, .ref h4, .ref h0, .ref h3])), (h2, .inr (2, [.ref h2_row, .ref h2_ten, .ref h2_pha, .int len, .int x34_4, .int wfi, .int wmo, .int hun])), (h2_row, .inl (cI, 240, .inl row)), (h2_ten, .inl (cI, 4, .inl x34_2)), (h2_pha, .inl (cI, 4, .inl x34_3)), (h1, .inr (1, [.ref h1a, .int x34_5, .int x34_6])), (h4, .inr (4, [.ref h4_cod, .ref h4_unf, .int tln])), (h4_cod, .inl (cI, 60, .inl cod)), (h4_unf, .inl (cI, 540, .inl unf)), (h0, .inr (0, [.ref h0_cel, .int cls])), (h0_cel, .inl (cI, 160, .inl cel)), (h3, .inr (3, [.ref h3_str, .ref h3_tlr, .ref h3_tsg])), (h3_str, .inl (cI, 40, .inl str)), (h3_tlr, .inl (cI, 240, .inl tlr)), (h3_tsg, .inl (cI, 240, .inl tsg)), (h6, .inr (6, [.int x37_2, .ref h6_ms, .ref h6_mv, .int x37_5, .ref h6_mb, .int mln, .ref h6_mc, .ref h6_mg, .ref h6_mt, .ref h6_ml, .int mat, .int wel, .ref h6_mr, .int rdm, .long hsh])), (h6_ms, .inl (cI, 253, .inl x37_3)), (h6_mv, .inl (cI, 1518, .inl x37_4)), (h6_mb, .inl (cI, 60, .inl mb)), (h6_mc, .inl (cI, 160, .inl mc)), (h6_mg, .inl (cI, 160, .inl mg)), (h6_mt, .inl (cI, 240, .inl mt)), (h6_ml, .inl (cI, 240, .inl ml)), (h6_mr, .inl (cI, 600, .inl mr)), (q3, .inl (cJ, 1, .inr (.inl x34_7)))]) (va_runV (As := [.int (xs (i + 1).toNatClampNeg), .int (xs (i + 2).toNatClampNeg)]) (rest := []) ⟨hx, hb, hml, hown, hts⟩ (mX6_keep l D cI cO cJ h6 h6_ms h6_mv h6_mb h6_mc h6_mg h6_mt h6_ml h6_mr H.size thr ms mv svm mb mln mc mg mt ml mat wel mr rdm hsh (xs (i + 1).toNatClampNeg) (xs (i + 2).toNatClampNeg) _ hx37) (cwV 2 hts gL_law_X6_keep rfl rfl rfl (by decide +kernel) ⟨Nat.le_of_ble_eq_true rfl, Nat.le_of_ble_eq_true rfl⟩) (pw_preV hK hN (pw_sub hP [15, 16, 17, 18, 19, 20, 21, 22, 23] rfl) (pw_subD hD [15, 16, 17, 18, 19, 20, 21, 22, 23] (by decide) rfl) (ci := 6) (q0 := 0) rfl rfl) rfl rfl hl.1 rfl (lv_room (Nat.le_of_ble_eq_true rfl)) dL_law_448 ⟨by have := hk; show _ ≤ (601024 : Nat); omega, by have := hk; show _ ≤ (7293034 : Nat); omega⟩) hP hD hS hA [15, 16, 17, 18, 19, 20, 21, 22, 23] [0, 1, 2, 3, 4, 5, 6, 7, 8, 9, 10, 11, 12, 13, 14, 24] [0, 1, 2, 3, 4, 5, 6, 7, 8, 9, 10, 11, 12, 13, 14, 16, 17, 18, 19, 20, 21, 22, 23, 24, 15] rfl rfl (by decide) (by decide) (by decide) rfl (fun H locs hP hD hS => ?_)
        refine lv_istore (lv' := [(6, .int x37_1), (5, .int x34_1), (0, .ref b), (1, .ref h5), (2, .ref h6), (3, .ref q3), (4, .int i)]) hx hb dL_law_451 hl (by decide) rfl (fun ls hl => ?_)
        refine lv_aload_n hx hb dL_law_453 rfl (lv_at hl 4 rfl) ?_
        obtain ⟨x38, hx38, h⟩ := bnd h
        refine pw_goi (wc := [(h6, .inr (6, [.int x37_2, .ref h6_ms, .ref h6_mv, .int x37_5, .ref h6_mb, .int mln, .ref h6_mc, .ref h6_mg, .ref h6_mt, .ref h6_ml, .int mat, .int wel, .ref h6_mr, .int rdm, .long hsh])), (h6_ms, .inl (cI, 253, .inl x37_3)), (h6_mv, .inl (cI, 1518, .inl x37_4)), (h6_mb, .inl (cI, 60, .inl mb)), (h6_mc, .inl (cI, 160, .inl mc)), (h6_mg, .inl (cI, 160, .inl mg)), (h6_mt, .inl (cI, 240, .inl mt)), (h6_ml, .inl (cI, 240, .inl ml)), (h6_mr, .inl (cI, 600, .inl mr))]) (w1 := [(h6, .inr (6, [.int x37_2, .ref h6_ms, .ref h6_mv, .int x37_5, .ref h6_mb, .int mln, .ref h6_mc, .ref h6_mg, .ref h6_mt, .ref h6_ml, .int mat, .int wel, .ref h6_mr, .int rdm, .long hsh])), (h6_ms, .inl (cI, 253, .inl x37_3)), (h6_mv, .inl (cI, 1518, .inl x37_4)), (h6_mb, .inl (cI, 60, .inl mb)), (h6_mc, .inl (cI, 160, .inl mc)), (h6_mg, .inl (cI, 160, .inl mg)), (h6_mt, .inl (cI, 240, .inl mt)), (h6_ml, .inl (cI, 240, .inl ml)), (h6_mr, .inl (cI, 600, .inl mr))]) (w2 := [(h5, .inr (5, [.ref h2, .ref h1, .ref h4, .ref h0, .ref h3])), (h2, .inr (2, [.ref h2_row, .ref h2_ten, .ref h2_pha, .int len, .int x34_4, .int wfi, .int wmo, .int hun])), (h2_row, .inl (cI, 240, .inl row)), (h2_ten, .inl (cI, 4, .inl x34_2)), (h2_pha, .inl (cI, 4, .inl x34_3)), (h1, .inr (1, [.ref h1a, .int x34_5, .int x34_6])), (h4, .inr (4, [.ref h4_cod, .ref h4_unf, .int tln])), (h4_cod, .inl (cI, 60, .inl cod)), (h4_unf, .inl (cI, 540, .inl unf)), (h0, .inr (0, [.ref h0_cel, .int cls])), (h0_cel, .inl (cI, 160, .inl cel)), (h3, .inr (3, [.ref h3_str, .ref h3_tlr, .ref h3_tsg])), (h3_str, .inl (cI, 40, .inl str)), (h3_tlr, .inl (cI, 240, .inl tlr)), (h3_tsg, .inl (cI, 240, .inl tsg)), (h6, .inr (6, [.int x37_2, .ref h6_ms, .ref h6_mv, .int x37_5, .ref h6_mb, .int mln, .ref h6_mc, .ref h6_mg, .ref h6_mt, .ref h6_ml, .int mat, .int wel, .ref h6_mr, .int rdm, .long hsh])), (h6_ms, .inl (cI, 253, .inl x37_3)), (h6_mv, .inl (cI, 1518, .inl x37_4)), (h6_mb, .inl (cI, 60, .inl mb)), (h6_mc, .inl (cI, 160, .inl mc)), (h6_mg, .inl (cI, 160, .inl mg)), (h6_mt, .inl (cI, 240, .inl mt)), (h6_ml, .inl (cI, 240, .inl ml)), (h6_mr, .inl (cI, 600, .inl mr)), (q3, .inl (cJ, 1, .inr (.inl x34_7)))]) (va_runV (As := []) (rest := []) ⟨hx, hb, hml, hown, hts⟩ (mX6_thrown l D cI cO cJ h6 h6_ms h6_mv h6_mb h6_mc h6_mg h6_mt h6_ml h6_mr H.size x37_2 x37_3 x37_4 x37_5 mb mln mc mg mt ml mat wel mr rdm hsh _ hx38) (cwV 0 hts gL_law_X6_thrown rfl rfl rfl (by decide +kernel) ⟨Nat.le_of_ble_eq_true rfl, Nat.le_of_ble_eq_true rfl⟩) (pw_preV hK hN (pw_sub hP [15, 16, 17, 18, 19, 20, 21, 22, 23] rfl) (pw_subD hD [15, 16, 17, 18, 19, 20, 21, 22, 23] (by decide) rfl) (ci := 6) (q0 := 0) rfl rfl) rfl rfl hl.1 rfl (lv_room (Nat.le_of_ble_eq_true rfl)) dL_law_454 ⟨by have := hk; show _ ≤ (601024 : Nat); omega, by have := hk; show _ ≤ (7293034 : Nat); omega⟩) hP hD hS hA [15, 16, 17, 18, 19, 20, 21, 22, 23] [0, 1, 2, 3, 4, 5, 6, 7, 8, 9, 10, 11, 12, 13, 14, 24] [0, 1, 2, 3, 4, 5, 6, 7, 8, 9, 10, 11, 12, 13, 14, 16, 17, 18, 19, 20, 21, 22, 23, 24, 15] rfl rfl (by decide) (by decide) (by decide) rfl (fun H locs hP hD hS => ?_)
        refine lv_iload hx hb dL_law_457 (lv_at hl 1 rfl) ?_
        refine lv_icmp_eq (tgt := 464) hx hb dL_law_459 (by decide) (fun cq => ?_) (fun cq => ?_)
        · replace h := ifp cq h
          refine lv_iload hx hb dL_law_464 (lv_at hl 1 rfl) ?_
          refine lv_if_ne (tgt := 481) hx hb dL_law_466 (by decide) (fun cq => ?_) (fun cq => ?_)
          · replace h := ifn cq h
            refine lv_goto (tgt := 1558) hx hb dL_law_481 (by decide) ?_
            refine lv_iinc (v := (i + 4)) (lv' := [(4, .int (i + 4)), (6, .int x37_1), (5, .int x34_1), (0, .ref b), (1, .ref h5), (2, .ref h6), (3, .ref q3)]) hx hb dL_law_1558 hl (k := 6) rfl rfl (by decide) rfl (fun ls hl => ?_)
            refine lv_goto (tgt := 23) hx hb dL_law_1561 (by decide) ?_
            refine W.widen (k := 50 + (k + 1)) (n := 6341 + 6 * (k + 1)) (by omega) (by omega) ?_
            exact ih _ (k + 1) _ _ _ _ _ _ _ _ _ _ _ _ _ _ _ _ _ _ _ _ _ _ _ _ _ _ _ _ _ _ _ _ _ _ _ _ _ _ h (pl_i hi) (pl_k hi hL hk hgo) hP hD hS (lv_sub hl [3, 4, 5, 6, 0] rfl)
          · replace h := ifp cq h
            refine lv_aload_n hx hb dL_law_469 rfl (lv_at hl 5 rfl) ?_
            refine lv_iconst (v := 0) hx hb dL_law_470 (by decide) ?_
            obtain ⟨g39, h⟩ := gdn h
            refine va_lald hx hb hK hP 24 2 rfl rfl g39 dL_law_471 ?_
            refine lv_iload hx hb dL_law_472 (lv_at hl 0 rfl) ?_
            refine lv_i2l (v := x37_1.toInt64) hx hb dL_law_474 rfl ?_
            refine W.lcmp hx hb dL_law_475 ?_
            refine lv_if_eq (tgt := 481) hx hb dL_law_476 (by decide) (fun cq => ?_) (fun cq => ?_)
            · replace h := ifp cq h
              refine lv_goto (tgt := 1558) hx hb dL_law_481 (by decide) ?_
              refine lv_iinc (v := (i + 4)) (lv' := [(4, .int (i + 4)), (6, .int x37_1), (5, .int x34_1), (0, .ref b), (1, .ref h5), (2, .ref h6), (3, .ref q3)]) hx hb dL_law_1558 hl (k := 6) rfl rfl (by decide) rfl (fun ls hl => ?_)
              refine lv_goto (tgt := 23) hx hb dL_law_1561 (by decide) ?_
              refine W.widen (k := 50 + (k + 1)) (n := 6341 + 6 * (k + 1)) (by omega) (by omega) ?_
              exact ih _ (k + 1) _ _ _ _ _ _ _ _ _ _ _ _ _ _ _ _ _ _ _ _ _ _ _ _ _ _ _ _ _ _ _ _ _ _ _ _ _ _ h (pl_i hi) (pl_k hi hL hk hgo) hP hD hS (lv_sub hl [3, 4, 5, 6, 0] rfl)
            · replace h := ifn cq h
              refine lv_iconst (v := 0) hx hb dL_law_479 (by decide) ?_
              exact absurd (Option.some.inj h) (by decide)
        · replace h := ifn cq h
          refine lv_iconst (v := 0) hx hb dL_law_462 (by decide) ?_
          exact absurd (Option.some.inj h) (by decide)
      replace h := ifn c4 h
      by_cases c5 : ((xs i.toNatClampNeg) &&& 31) = 5
      · replace h := ifp c5 h
        refine lv_tableIn (x := ((xs i.toNatClampNeg) &&& 31)) hx hb dL_law_39 (by rw [c5]; decide) (by rw [c5]; decide) (off := 445) (tgt := 484) (by rw [c5]; rfl) (by decide) ?_
        refine lv_aload_n hx hb dL_law_484 rfl (lv_at hl 1 rfl) ?_
        refine lv_aload_n hx hb dL_law_485 rfl (lv_at hl 0 rfl) ?_
        refine lv_iload hx hb dL_law_486 (lv_at hl 4 rfl) ?_
        refine lv_iconst (v := 1) hx hb dL_law_488 (by decide) ?_
        refine lv_iadd hx hb dL_law_489 ?_
        obtain ⟨g40, h⟩ := gdn h
        refine va_sld hx hb hX hbl hbA hS g40 dL_law_490 ?_
        refine lv_aload_n hx hb dL_law_491 rfl (lv_at hl 3 rfl) ?_
        obtain ⟨⟨x41_1, x41_2, x41_3, x41_4, x41_5, x41_6, x41_7, x41_8⟩, hx41, h⟩ := bnd h
        refine pw_goPiN (wc := [(h5, .inr (5, [.ref h2, .ref h1, .ref h4, .ref h0, .ref h3])), (h2, .inr (2, [.ref h2_row, .ref h2_ten, .ref h2_pha, .int len, .int kep, .int wfi, .int wmo, .int hun])), (h2_row, .inl (cI, 240, .inl row)), (h2_ten, .inl (cI, 4, .inl ten)), (h2_pha, .inl (cI, 4, .inl pha)), (h1, .inr (1, [.ref h1a, .int nex, .int man])), (h4, .inr (4, [.ref h4_cod, .ref h4_unf, .int tln])), (h4_cod, .inl (cI, 60, .inl cod)), (h4_unf, .inl (cI, 540, .inl unf)), (h0, .inr (0, [.ref h0_cel, .int cls])), (h0_cel, .inl (cI, 160, .inl cel)), (h3, .inr (3, [.ref h3_str, .ref h3_tlr, .ref h3_tsg])), (h3_str, .inl (cI, 40, .inl str)), (h3_tlr, .inl (cI, 240, .inl tlr)), (h3_tsg, .inl (cI, 240, .inl tsg)), (q3, .inl (cJ, 1, .inr (.inl f3)))]) (w1 := [(h5, .inr (5, [.ref h2, .ref h1, .ref h4, .ref h0, .ref h3])), (h2, .inr (2, [.ref h2_row, .ref h2_ten, .ref h2_pha, .int len, .int x41_4, .int wfi, .int wmo, .int hun])), (h2_row, .inl (cI, 240, .inl row)), (h2_ten, .inl (cI, 4, .inl x41_2)), (h2_pha, .inl (cI, 4, .inl x41_3)), (h1, .inr (1, [.ref h1a, .int x41_5, .int x41_6])), (h4, .inr (4, [.ref h4_cod, .ref h4_unf, .int tln])), (h4_cod, .inl (cI, 60, .inl cod)), (h4_unf, .inl (cI, 540, .inl unf)), (h0, .inr (0, [.ref h0_cel, .int cls])), (h0_cel, .inl (cI, 160, .inl cel)), (h3, .inr (3, [.ref h3_str, .ref h3_tlr, .ref h3_tsg])), (h3_str, .inl (cI, 40, .inl str)), (h3_tlr, .inl (cI, 240, .inl tlr)), (h3_tsg, .inl (cI, 240, .inl tsg)), (q3, .inl (cJ, 1, .inr (.inl x41_7)))]) (w2 := [(h5, .inr (5, [.ref h2, .ref h1, .ref h4, .ref h0, .ref h3])), (h2, .inr (2, [.ref h2_row, .ref h2_ten, .ref h2_pha, .int len, .int x41_4, .int wfi, .int wmo, .int hun])), (h2_row, .inl (cI, 240, .inl row)), (h2_ten, .inl (cI, 4, .inl x41_2)), (h2_pha, .inl (cI, 4, .inl x41_3)), (h1, .inr (1, [.ref h1a, .int x41_5, .int x41_6])), (h4, .inr (4, [.ref h4_cod, .ref h4_unf, .int tln])), (h4_cod, .inl (cI, 60, .inl cod)), (h4_unf, .inl (cI, 540, .inl unf)), (h0, .inr (0, [.ref h0_cel, .int cls])), (h0_cel, .inl (cI, 160, .inl cel)), (h3, .inr (3, [.ref h3_str, .ref h3_tlr, .ref h3_tsg])), (h3_str, .inl (cI, 40, .inl str)), (h3_tlr, .inl (cI, 240, .inl tlr)), (h3_tsg, .inl (cI, 240, .inl tsg)), (h6, .inr (6, [.int thr, .ref h6_ms, .ref h6_mv, .int svm, .ref h6_mb, .int mln, .ref h6_mc, .ref h6_mg, .ref h6_mt, .ref h6_ml, .int mat, .int wel, .ref h6_mr, .int rdm, .long hsh])), (h6_ms, .inl (cI, 253, .inl ms)), (h6_mv, .inl (cI, 1518, .inl mv)), (h6_mb, .inl (cI, 60, .inl mb)), (h6_mc, .inl (cI, 160, .inl mc)), (h6_mg, .inl (cI, 160, .inl mg)), (h6_mt, .inl (cI, 240, .inl mt)), (h6_ml, .inl (cI, 240, .inl ml)), (h6_mr, .inl (cI, 600, .inl mr)), (q3, .inl (cJ, 1, .inr (.inl x41_7)))]) (pl1 := ringW cI cO h1a rh x41_8) (vx_runSW (As := [.ref h5, .int (xs (i + 1).toNatClampNeg), .ref q3]) (rest := []) ⟨hx, hb, hml, hown, hts⟩ (mL_drop l D cI cO cJ h5 h2 h2_row h2_ten h2_pha h1 h1a h4 h4_cod h4_unf h0 h0_cel h3 h3_str h3_tlr h3_tsg q3 rh H.size row ten pha len kep wfi wmo hun nex man cod unf tln cel cls str tlr tsg f3 rg (xs (i + 1).toNatClampNeg) _ hst hx41) (vx_cwSW 3 hts gL_law_L_drop rfl rfl rfl (by decide +kernel) ⟨Nat.le_of_ble_eq_true rfl, Nat.le_of_ble_eq_true rfl⟩) (pl_preS hK hN ((px_X.kept hX9 hS.2.1).narrow (pw_freeP hD hS hA [0, 1, 2, 3, 4, 5, 6, 7, 8, 9, 10, 11, 12, 13, 14, 24] rfl)) hT hC9 (hP.part [0, 1, 2, 3, 4, 5, 6, 7, 8, 9, 10, 11, 12, 13, 14, 24] rfl) (hD.part [0, 1, 2, 3, 4, 5, 6, 7, 8, 9, 10, 11, 12, 13, 14, 24] (by decide) rfl)) rfl rfl hl.1 rfl (lv_room (Nat.le_of_ble_eq_true rfl)) dL_law_492 ⟨by have := hk; show _ ≤ (601024 : Nat); omega, by have := hk; show _ ≤ (7293034 : Nat); omega⟩) hP hD hS hA [0, 1, 2, 3, 4, 5, 6, 7, 8, 9, 10, 11, 12, 13, 14, 24] [15, 16, 17, 18, 19, 20, 21, 22, 23] [9, 10, 11, 12, 13, 14, 15, 16, 17, 18, 19, 20, 21, 22, 23, 0, 1, 2, 3, 4, 5, 6, 7, 8, 24] rfl rfl (by decide) (by decide) (by decide) rfl (fun H locs hP hD hS => ?_)
        refine lv_istore (lv' := [(5, .int x41_1), (0, .ref b), (1, .ref h5), (2, .ref h6), (3, .ref q3), (4, .int i)]) hx hb dL_law_495 hl (by decide) rfl (fun ls hl => ?_)
        refine lv_aload_n hx hb dL_law_497 rfl (lv_at hl 3 rfl) ?_
        refine lv_aload_n hx hb dL_law_498 rfl (lv_at hl 1 rfl) ?_
        refine lv_iload hx hb dL_law_499 (lv_at hl 5 rfl) ?_
        refine lv_iconst (v := 1) hx hb dL_law_501 (by decide) ?_
        refine lv_iadd hx hb dL_law_502 ?_
        obtain ⟨g42, h⟩ := gdn h
        refine va_sld hx hb hX hbl hbA hS g42 dL_law_503 ?_
        obtain ⟨⟨x43_1, x43_2, x43_3, x43_4, x43_5⟩, hx43, h⟩ := bnd h
        refine pw_goi (wc := [(h6, .inr (6, [.int thr, .ref h6_ms, .ref h6_mv, .int svm, .ref h6_mb, .int mln, .ref h6_mc, .ref h6_mg, .ref h6_mt, .ref h6_ml, .int mat, .int wel, .ref h6_mr, .int rdm, .long hsh])), (h6_ms, .inl (cI, 253, .inl ms)), (h6_mv, .inl (cI, 1518, .inl mv)), (h6_mb, .inl (cI, 60, .inl mb)), (h6_mc, .inl (cI, 160, .inl mc)), (h6_mg, .inl (cI, 160, .inl mg)), (h6_mt, .inl (cI, 240, .inl mt)), (h6_ml, .inl (cI, 240, .inl ml)), (h6_mr, .inl (cI, 600, .inl mr))]) (w1 := [(h6, .inr (6, [.int x43_2, .ref h6_ms, .ref h6_mv, .int x43_5, .ref h6_mb, .int mln, .ref h6_mc, .ref h6_mg, .ref h6_mt, .ref h6_ml, .int mat, .int wel, .ref h6_mr, .int rdm, .long hsh])), (h6_ms, .inl (cI, 253, .inl x43_3)), (h6_mv, .inl (cI, 1518, .inl x43_4)), (h6_mb, .inl (cI, 60, .inl mb)), (h6_mc, .inl (cI, 160, .inl mc)), (h6_mg, .inl (cI, 160, .inl mg)), (h6_mt, .inl (cI, 240, .inl mt)), (h6_ml, .inl (cI, 240, .inl ml)), (h6_mr, .inl (cI, 600, .inl mr))]) (w2 := [(h5, .inr (5, [.ref h2, .ref h1, .ref h4, .ref h0, .ref h3])), (h2, .inr (2, [.ref h2_row, .ref h2_ten, .ref h2_pha, .int len, .int x41_4, .int wfi, .int wmo, .int hun])), (h2_row, .inl (cI, 240, .inl row)), (h2_ten, .inl (cI, 4, .inl x41_2)), (h2_pha, .inl (cI, 4, .inl x41_3)), (h1, .inr (1, [.ref h1a, .int x41_5, .int x41_6])), (h4, .inr (4, [.ref h4_cod, .ref h4_unf, .int tln])), (h4_cod, .inl (cI, 60, .inl cod)), (h4_unf, .inl (cI, 540, .inl unf)), (h0, .inr (0, [.ref h0_cel, .int cls])), (h0_cel, .inl (cI, 160, .inl cel)), (h3, .inr (3, [.ref h3_str, .ref h3_tlr, .ref h3_tsg])), (h3_str, .inl (cI, 40, .inl str)), (h3_tlr, .inl (cI, 240, .inl tlr)), (h3_tsg, .inl (cI, 240, .inl tsg)), (h6, .inr (6, [.int x43_2, .ref h6_ms, .ref h6_mv, .int x43_5, .ref h6_mb, .int mln, .ref h6_mc, .ref h6_mg, .ref h6_mt, .ref h6_ml, .int mat, .int wel, .ref h6_mr, .int rdm, .long hsh])), (h6_ms, .inl (cI, 253, .inl x43_3)), (h6_mv, .inl (cI, 1518, .inl x43_4)), (h6_mb, .inl (cI, 60, .inl mb)), (h6_mc, .inl (cI, 160, .inl mc)), (h6_mg, .inl (cI, 160, .inl mg)), (h6_mt, .inl (cI, 240, .inl mt)), (h6_ml, .inl (cI, 240, .inl ml)), (h6_mr, .inl (cI, 600, .inl mr)), (q3, .inl (cJ, 1, .inr (.inl x41_7)))]) (va_runV (As := [.int (xs (i + 1).toNatClampNeg)]) (rest := []) ⟨hx, hb, hml, hown, hts⟩ (mX6_drop l D cI cO cJ h6 h6_ms h6_mv h6_mb h6_mc h6_mg h6_mt h6_ml h6_mr H.size thr ms mv svm mb mln mc mg mt ml mat wel mr rdm hsh (xs (i + 1).toNatClampNeg) _ hx43) (cwV 1 hts gL_law_X6_drop rfl rfl rfl (by decide +kernel) ⟨Nat.le_of_ble_eq_true rfl, Nat.le_of_ble_eq_true rfl⟩) (pw_preV hK hN (pw_sub hP [15, 16, 17, 18, 19, 20, 21, 22, 23] rfl) (pw_subD hD [15, 16, 17, 18, 19, 20, 21, 22, 23] (by decide) rfl) (ci := 6) (q0 := 0) rfl rfl) rfl rfl hl.1 rfl (lv_room (Nat.le_of_ble_eq_true rfl)) dL_law_504 ⟨by have := hk; show _ ≤ (601024 : Nat); omega, by have := hk; show _ ≤ (7293034 : Nat); omega⟩) hP hD hS hA [15, 16, 17, 18, 19, 20, 21, 22, 23] [0, 1, 2, 3, 4, 5, 6, 7, 8, 9, 10, 11, 12, 13, 14, 24] [0, 1, 2, 3, 4, 5, 6, 7, 8, 9, 10, 11, 12, 13, 14, 16, 17, 18, 19, 20, 21, 22, 23, 24, 15] rfl rfl (by decide) (by decide) (by decide) rfl (fun H locs hP hD hS => ?_)
        refine lv_istore (lv' := [(6, .int x43_1), (5, .int x41_1), (0, .ref b), (1, .ref h5), (2, .ref h6), (3, .ref q3), (4, .int i)]) hx hb dL_law_507 hl (by decide) rfl (fun ls hl => ?_)
        refine lv_aload_n hx hb dL_law_509 rfl (lv_at hl 4 rfl) ?_
        obtain ⟨x44, hx44, h⟩ := bnd h
        refine pw_goi (wc := [(h6, .inr (6, [.int x43_2, .ref h6_ms, .ref h6_mv, .int x43_5, .ref h6_mb, .int mln, .ref h6_mc, .ref h6_mg, .ref h6_mt, .ref h6_ml, .int mat, .int wel, .ref h6_mr, .int rdm, .long hsh])), (h6_ms, .inl (cI, 253, .inl x43_3)), (h6_mv, .inl (cI, 1518, .inl x43_4)), (h6_mb, .inl (cI, 60, .inl mb)), (h6_mc, .inl (cI, 160, .inl mc)), (h6_mg, .inl (cI, 160, .inl mg)), (h6_mt, .inl (cI, 240, .inl mt)), (h6_ml, .inl (cI, 240, .inl ml)), (h6_mr, .inl (cI, 600, .inl mr))]) (w1 := [(h6, .inr (6, [.int x43_2, .ref h6_ms, .ref h6_mv, .int x43_5, .ref h6_mb, .int mln, .ref h6_mc, .ref h6_mg, .ref h6_mt, .ref h6_ml, .int mat, .int wel, .ref h6_mr, .int rdm, .long hsh])), (h6_ms, .inl (cI, 253, .inl x43_3)), (h6_mv, .inl (cI, 1518, .inl x43_4)), (h6_mb, .inl (cI, 60, .inl mb)), (h6_mc, .inl (cI, 160, .inl mc)), (h6_mg, .inl (cI, 160, .inl mg)), (h6_mt, .inl (cI, 240, .inl mt)), (h6_ml, .inl (cI, 240, .inl ml)), (h6_mr, .inl (cI, 600, .inl mr))]) (w2 := [(h5, .inr (5, [.ref h2, .ref h1, .ref h4, .ref h0, .ref h3])), (h2, .inr (2, [.ref h2_row, .ref h2_ten, .ref h2_pha, .int len, .int x41_4, .int wfi, .int wmo, .int hun])), (h2_row, .inl (cI, 240, .inl row)), (h2_ten, .inl (cI, 4, .inl x41_2)), (h2_pha, .inl (cI, 4, .inl x41_3)), (h1, .inr (1, [.ref h1a, .int x41_5, .int x41_6])), (h4, .inr (4, [.ref h4_cod, .ref h4_unf, .int tln])), (h4_cod, .inl (cI, 60, .inl cod)), (h4_unf, .inl (cI, 540, .inl unf)), (h0, .inr (0, [.ref h0_cel, .int cls])), (h0_cel, .inl (cI, 160, .inl cel)), (h3, .inr (3, [.ref h3_str, .ref h3_tlr, .ref h3_tsg])), (h3_str, .inl (cI, 40, .inl str)), (h3_tlr, .inl (cI, 240, .inl tlr)), (h3_tsg, .inl (cI, 240, .inl tsg)), (h6, .inr (6, [.int x43_2, .ref h6_ms, .ref h6_mv, .int x43_5, .ref h6_mb, .int mln, .ref h6_mc, .ref h6_mg, .ref h6_mt, .ref h6_ml, .int mat, .int wel, .ref h6_mr, .int rdm, .long hsh])), (h6_ms, .inl (cI, 253, .inl x43_3)), (h6_mv, .inl (cI, 1518, .inl x43_4)), (h6_mb, .inl (cI, 60, .inl mb)), (h6_mc, .inl (cI, 160, .inl mc)), (h6_mg, .inl (cI, 160, .inl mg)), (h6_mt, .inl (cI, 240, .inl mt)), (h6_ml, .inl (cI, 240, .inl ml)), (h6_mr, .inl (cI, 600, .inl mr)), (q3, .inl (cJ, 1, .inr (.inl x41_7)))]) (va_runV (As := []) (rest := []) ⟨hx, hb, hml, hown, hts⟩ (mX6_thrown l D cI cO cJ h6 h6_ms h6_mv h6_mb h6_mc h6_mg h6_mt h6_ml h6_mr H.size x43_2 x43_3 x43_4 x43_5 mb mln mc mg mt ml mat wel mr rdm hsh _ hx44) (cwV 0 hts gL_law_X6_thrown rfl rfl rfl (by decide +kernel) ⟨Nat.le_of_ble_eq_true rfl, Nat.le_of_ble_eq_true rfl⟩) (pw_preV hK hN (pw_sub hP [15, 16, 17, 18, 19, 20, 21, 22, 23] rfl) (pw_subD hD [15, 16, 17, 18, 19, 20, 21, 22, 23] (by decide) rfl) (ci := 6) (q0 := 0) rfl rfl) rfl rfl hl.1 rfl (lv_room (Nat.le_of_ble_eq_true rfl)) dL_law_510 ⟨by have := hk; show _ ≤ (601024 : Nat); omega, by have := hk; show _ ≤ (7293034 : Nat); omega⟩) hP hD hS hA [15, 16, 17, 18, 19, 20, 21, 22, 23] [0, 1, 2, 3, 4, 5, 6, 7, 8, 9, 10, 11, 12, 13, 14, 24] [0, 1, 2, 3, 4, 5, 6, 7, 8, 9, 10, 11, 12, 13, 14, 16, 17, 18, 19, 20, 21, 22, 23, 24, 15] rfl rfl (by decide) (by decide) (by decide) rfl (fun H locs hP hD hS => ?_)
        refine lv_iload hx hb dL_law_513 (lv_at hl 1 rfl) ?_
        refine lv_icmp_eq (tgt := 520) hx hb dL_law_515 (by decide) (fun cq => ?_) (fun cq => ?_)
        · replace h := ifp cq h
          refine lv_iload hx hb dL_law_520 (lv_at hl 1 rfl) ?_
          refine lv_if_ne (tgt := 537) hx hb dL_law_522 (by decide) (fun cq => ?_) (fun cq => ?_)
          · replace h := ifn cq h
            refine lv_goto (tgt := 1558) hx hb dL_law_537 (by decide) ?_
            refine lv_iinc (v := (i + 4)) (lv' := [(4, .int (i + 4)), (6, .int x43_1), (5, .int x41_1), (0, .ref b), (1, .ref h5), (2, .ref h6), (3, .ref q3)]) hx hb dL_law_1558 hl (k := 6) rfl rfl (by decide) rfl (fun ls hl => ?_)
            refine lv_goto (tgt := 23) hx hb dL_law_1561 (by decide) ?_
            refine W.widen (k := 50 + (k + 1)) (n := 6341 + 6 * (k + 1)) (by omega) (by omega) ?_
            exact ih _ (k + 1) _ _ _ _ _ _ _ _ _ _ _ _ _ _ _ _ _ _ _ _ _ _ _ _ _ _ _ _ _ _ _ _ _ _ _ _ _ _ h (pl_i hi) (pl_k hi hL hk hgo) hP hD hS (lv_sub hl [3, 4, 5, 6, 0] rfl)
          · replace h := ifp cq h
            refine lv_aload_n hx hb dL_law_525 rfl (lv_at hl 5 rfl) ?_
            refine lv_iconst (v := 0) hx hb dL_law_526 (by decide) ?_
            obtain ⟨g45, h⟩ := gdn h
            refine va_lald hx hb hK hP 24 2 rfl rfl g45 dL_law_527 ?_
            refine lv_iload hx hb dL_law_528 (lv_at hl 0 rfl) ?_
            refine lv_i2l (v := x43_1.toInt64) hx hb dL_law_530 rfl ?_
            refine W.lcmp hx hb dL_law_531 ?_
            refine lv_if_eq (tgt := 537) hx hb dL_law_532 (by decide) (fun cq => ?_) (fun cq => ?_)
            · replace h := ifp cq h
              refine lv_goto (tgt := 1558) hx hb dL_law_537 (by decide) ?_
              refine lv_iinc (v := (i + 4)) (lv' := [(4, .int (i + 4)), (6, .int x43_1), (5, .int x41_1), (0, .ref b), (1, .ref h5), (2, .ref h6), (3, .ref q3)]) hx hb dL_law_1558 hl (k := 6) rfl rfl (by decide) rfl (fun ls hl => ?_)
              refine lv_goto (tgt := 23) hx hb dL_law_1561 (by decide) ?_
              refine W.widen (k := 50 + (k + 1)) (n := 6341 + 6 * (k + 1)) (by omega) (by omega) ?_
              exact ih _ (k + 1) _ _ _ _ _ _ _ _ _ _ _ _ _ _ _ _ _ _ _ _ _ _ _ _ _ _ _ _ _ _ _ _ _ _ _ _ _ _ h (pl_i hi) (pl_k hi hL hk hgo) hP hD hS (lv_sub hl [3, 4, 5, 6, 0] rfl)
            · replace h := ifn cq h
              refine lv_iconst (v := 0) hx hb dL_law_535 (by decide) ?_
              exact absurd (Option.some.inj h) (by decide)
        · replace h := ifn cq h
          refine lv_iconst (v := 0) hx hb dL_law_518 (by decide) ?_
          exact absurd (Option.some.inj h) (by decide)
      replace h := ifn c5 h
      by_cases c6 : ((xs i.toNatClampNeg) &&& 31) = 6
      · replace h := ifp c6 h
        refine lv_tableIn (x := ((xs i.toNatClampNeg) &&& 31)) hx hb dL_law_39 (by rw [c6]; decide) (by rw [c6]; decide) (off := 501) (tgt := 540) (by rw [c6]; rfl) (by decide) ?_
        refine lv_aload_n hx hb dL_law_540 rfl (lv_at hl 1 rfl) ?_
        refine lv_aload_n hx hb dL_law_541 rfl (lv_at hl 0 rfl) ?_
        refine lv_iload hx hb dL_law_542 (lv_at hl 4 rfl) ?_
        refine lv_iconst (v := 1) hx hb dL_law_544 (by decide) ?_
        refine lv_iadd hx hb dL_law_545 ?_
        obtain ⟨g46, h⟩ := gdn h
        refine va_sld hx hb hX hbl hbA hS g46 dL_law_546 ?_
        refine lv_aload_n hx hb dL_law_547 rfl (lv_at hl 0 rfl) ?_
        refine lv_iload hx hb dL_law_548 (lv_at hl 4 rfl) ?_
        refine lv_iconst (v := 2) hx hb dL_law_550 (by decide) ?_
        refine lv_iadd hx hb dL_law_551 ?_
        obtain ⟨g47, h⟩ := gdn h
        refine va_sld hx hb hX hbl hbA hS g47 dL_law_552 ?_
        refine lv_aload_n hx hb dL_law_553 rfl (lv_at hl 3 rfl) ?_
        obtain ⟨⟨x48_1, x48_2, x48_3, x48_4, x48_5, x48_6, x48_7, x48_8, x48_9, x48_10⟩, hx48, h⟩ := bnd h
        refine pw_goPiN (wc := [(h5, .inr (5, [.ref h2, .ref h1, .ref h4, .ref h0, .ref h3])), (h2, .inr (2, [.ref h2_row, .ref h2_ten, .ref h2_pha, .int len, .int kep, .int wfi, .int wmo, .int hun])), (h2_row, .inl (cI, 240, .inl row)), (h2_ten, .inl (cI, 4, .inl ten)), (h2_pha, .inl (cI, 4, .inl pha)), (h1, .inr (1, [.ref h1a, .int nex, .int man])), (h4, .inr (4, [.ref h4_cod, .ref h4_unf, .int tln])), (h4_cod, .inl (cI, 60, .inl cod)), (h4_unf, .inl (cI, 540, .inl unf)), (h0, .inr (0, [.ref h0_cel, .int cls])), (h0_cel, .inl (cI, 160, .inl cel)), (h3, .inr (3, [.ref h3_str, .ref h3_tlr, .ref h3_tsg])), (h3_str, .inl (cI, 40, .inl str)), (h3_tlr, .inl (cI, 240, .inl tlr)), (h3_tsg, .inl (cI, 240, .inl tsg)), (q3, .inl (cJ, 1, .inr (.inl f3)))]) (w1 := [(h5, .inr (5, [.ref h2, .ref h1, .ref h4, .ref h0, .ref h3])), (h2, .inr (2, [.ref h2_row, .ref h2_ten, .ref h2_pha, .int len, .int x48_4, .int wfi, .int wmo, .int hun])), (h2_row, .inl (cI, 240, .inl row)), (h2_ten, .inl (cI, 4, .inl x48_2)), (h2_pha, .inl (cI, 4, .inl x48_3)), (h1, .inr (1, [.ref h1a, .int x48_5, .int x48_6])), (h4, .inr (4, [.ref h4_cod, .ref h4_unf, .int tln])), (h4_cod, .inl (cI, 60, .inl cod)), (h4_unf, .inl (cI, 540, .inl unf)), (h0, .inr (0, [.ref h0_cel, .int x48_8])), (h0_cel, .inl (cI, 160, .inl x48_7)), (h3, .inr (3, [.ref h3_str, .ref h3_tlr, .ref h3_tsg])), (h3_str, .inl (cI, 40, .inl str)), (h3_tlr, .inl (cI, 240, .inl tlr)), (h3_tsg, .inl (cI, 240, .inl tsg)), (q3, .inl (cJ, 1, .inr (.inl x48_9)))]) (w2 := [(h5, .inr (5, [.ref h2, .ref h1, .ref h4, .ref h0, .ref h3])), (h2, .inr (2, [.ref h2_row, .ref h2_ten, .ref h2_pha, .int len, .int x48_4, .int wfi, .int wmo, .int hun])), (h2_row, .inl (cI, 240, .inl row)), (h2_ten, .inl (cI, 4, .inl x48_2)), (h2_pha, .inl (cI, 4, .inl x48_3)), (h1, .inr (1, [.ref h1a, .int x48_5, .int x48_6])), (h4, .inr (4, [.ref h4_cod, .ref h4_unf, .int tln])), (h4_cod, .inl (cI, 60, .inl cod)), (h4_unf, .inl (cI, 540, .inl unf)), (h0, .inr (0, [.ref h0_cel, .int x48_8])), (h0_cel, .inl (cI, 160, .inl x48_7)), (h3, .inr (3, [.ref h3_str, .ref h3_tlr, .ref h3_tsg])), (h3_str, .inl (cI, 40, .inl str)), (h3_tlr, .inl (cI, 240, .inl tlr)), (h3_tsg, .inl (cI, 240, .inl tsg)), (h6, .inr (6, [.int thr, .ref h6_ms, .ref h6_mv, .int svm, .ref h6_mb, .int mln, .ref h6_mc, .ref h6_mg, .ref h6_mt, .ref h6_ml, .int mat, .int wel, .ref h6_mr, .int rdm, .long hsh])), (h6_ms, .inl (cI, 253, .inl ms)), (h6_mv, .inl (cI, 1518, .inl mv)), (h6_mb, .inl (cI, 60, .inl mb)), (h6_mc, .inl (cI, 160, .inl mc)), (h6_mg, .inl (cI, 160, .inl mg)), (h6_mt, .inl (cI, 240, .inl mt)), (h6_ml, .inl (cI, 240, .inl ml)), (h6_mr, .inl (cI, 600, .inl mr)), (q3, .inl (cJ, 1, .inr (.inl x48_9)))]) (pl1 := ringW cI cO h1a rh x48_10) (vx_runSW (As := [.ref h5, .int (xs (i + 1).toNatClampNeg), .int (xs (i + 2).toNatClampNeg), .ref q3]) (rest := []) ⟨hx, hb, hml, hown, hts⟩ (mL_find l D cI cO cJ h5 h2 h2_row h2_ten h2_pha h1 h1a h4 h4_cod h4_unf h0 h0_cel h3 h3_str h3_tlr h3_tsg q3 rh H.size row ten pha len kep wfi wmo hun nex man cod unf tln cel cls str tlr tsg f3 rg (xs (i + 1).toNatClampNeg) (xs (i + 2).toNatClampNeg) _ hst hx48) (vx_cwSW 4 hts gL_law_L_find rfl rfl rfl (by decide +kernel) ⟨Nat.le_of_ble_eq_true rfl, Nat.le_of_ble_eq_true rfl⟩) (pl_preS hK hN ((px_X.kept hX9 hS.2.1).narrow (pw_freeP hD hS hA [0, 1, 2, 3, 4, 5, 6, 7, 8, 9, 10, 11, 12, 13, 14, 24] rfl)) hT hC9 (hP.part [0, 1, 2, 3, 4, 5, 6, 7, 8, 9, 10, 11, 12, 13, 14, 24] rfl) (hD.part [0, 1, 2, 3, 4, 5, 6, 7, 8, 9, 10, 11, 12, 13, 14, 24] (by decide) rfl)) rfl rfl hl.1 rfl (lv_room (Nat.le_of_ble_eq_true rfl)) dL_law_554 ⟨by have := hk; show _ ≤ (601024 : Nat); omega, by have := hk; show _ ≤ (7293034 : Nat); omega⟩) hP hD hS hA [0, 1, 2, 3, 4, 5, 6, 7, 8, 9, 10, 11, 12, 13, 14, 24] [15, 16, 17, 18, 19, 20, 21, 22, 23] [9, 10, 11, 12, 13, 14, 15, 16, 17, 18, 19, 20, 21, 22, 23, 0, 1, 2, 3, 4, 5, 6, 7, 8, 24] rfl rfl (by decide) (by decide) (by decide) rfl (fun H locs hP hD hS => ?_)
        refine lv_istore (lv' := [(5, .int x48_1), (0, .ref b), (1, .ref h5), (2, .ref h6), (3, .ref q3), (4, .int i)]) hx hb dL_law_557 hl (by decide) rfl (fun ls hl => ?_)
        refine lv_aload_n hx hb dL_law_559 rfl (lv_at hl 3 rfl) ?_
        refine lv_aload_n hx hb dL_law_560 rfl (lv_at hl 1 rfl) ?_
        refine lv_iload hx hb dL_law_561 (lv_at hl 5 rfl) ?_
        refine lv_iconst (v := 1) hx hb dL_law_563 (by decide) ?_
        refine lv_iadd hx hb dL_law_564 ?_
        obtain ⟨g49, h⟩ := gdn h
        refine va_sld hx hb hX hbl hbA hS g49 dL_law_565 ?_
        refine lv_aload_n hx hb dL_law_566 rfl (lv_at hl 1 rfl) ?_
        refine lv_iload hx hb dL_law_567 (lv_at hl 5 rfl) ?_
        refine lv_iconst (v := 2) hx hb dL_law_569 (by decide) ?_
        refine lv_iadd hx hb dL_law_570 ?_
        obtain ⟨g50, h⟩ := gdn h
        refine va_sld hx hb hX hbl hbA hS g50 dL_law_571 ?_
        obtain ⟨⟨x51_1, x51_2, x51_3, x51_4, x51_5, x51_6⟩, hx51, h⟩ := bnd h
        refine pw_goi (wc := [(h6, .inr (6, [.int thr, .ref h6_ms, .ref h6_mv, .int svm, .ref h6_mb, .int mln, .ref h6_mc, .ref h6_mg, .ref h6_mt, .ref h6_ml, .int mat, .int wel, .ref h6_mr, .int rdm, .long hsh])), (h6_ms, .inl (cI, 253, .inl ms)), (h6_mv, .inl (cI, 1518, .inl mv)), (h6_mb, .inl (cI, 60, .inl mb)), (h6_mc, .inl (cI, 160, .inl mc)), (h6_mg, .inl (cI, 160, .inl mg)), (h6_mt, .inl (cI, 240, .inl mt)), (h6_ml, .inl (cI, 240, .inl ml)), (h6_mr, .inl (cI, 600, .inl mr))]) (w1 := [(h6, .inr (6, [.int x51_2, .ref h6_ms, .ref h6_mv, .int x51_5, .ref h6_mb, .int mln, .ref h6_mc, .ref h6_mg, .ref h6_mt, .ref h6_ml, .int mat, .int wel, .ref h6_mr, .int rdm, .long hsh])), (h6_ms, .inl (cI, 253, .inl x51_3)), (h6_mv, .inl (cI, 1518, .inl x51_4)), (h6_mb, .inl (cI, 60, .inl mb)), (h6_mc, .inl (cI, 160, .inl x51_6)), (h6_mg, .inl (cI, 160, .inl mg)), (h6_mt, .inl (cI, 240, .inl mt)), (h6_ml, .inl (cI, 240, .inl ml)), (h6_mr, .inl (cI, 600, .inl mr))]) (w2 := [(h5, .inr (5, [.ref h2, .ref h1, .ref h4, .ref h0, .ref h3])), (h2, .inr (2, [.ref h2_row, .ref h2_ten, .ref h2_pha, .int len, .int x48_4, .int wfi, .int wmo, .int hun])), (h2_row, .inl (cI, 240, .inl row)), (h2_ten, .inl (cI, 4, .inl x48_2)), (h2_pha, .inl (cI, 4, .inl x48_3)), (h1, .inr (1, [.ref h1a, .int x48_5, .int x48_6])), (h4, .inr (4, [.ref h4_cod, .ref h4_unf, .int tln])), (h4_cod, .inl (cI, 60, .inl cod)), (h4_unf, .inl (cI, 540, .inl unf)), (h0, .inr (0, [.ref h0_cel, .int x48_8])), (h0_cel, .inl (cI, 160, .inl x48_7)), (h3, .inr (3, [.ref h3_str, .ref h3_tlr, .ref h3_tsg])), (h3_str, .inl (cI, 40, .inl str)), (h3_tlr, .inl (cI, 240, .inl tlr)), (h3_tsg, .inl (cI, 240, .inl tsg)), (h6, .inr (6, [.int x51_2, .ref h6_ms, .ref h6_mv, .int x51_5, .ref h6_mb, .int mln, .ref h6_mc, .ref h6_mg, .ref h6_mt, .ref h6_ml, .int mat, .int wel, .ref h6_mr, .int rdm, .long hsh])), (h6_ms, .inl (cI, 253, .inl x51_3)), (h6_mv, .inl (cI, 1518, .inl x51_4)), (h6_mb, .inl (cI, 60, .inl mb)), (h6_mc, .inl (cI, 160, .inl x51_6)), (h6_mg, .inl (cI, 160, .inl mg)), (h6_mt, .inl (cI, 240, .inl mt)), (h6_ml, .inl (cI, 240, .inl ml)), (h6_mr, .inl (cI, 600, .inl mr)), (q3, .inl (cJ, 1, .inr (.inl x48_9)))]) (va_runV (As := [.int (xs (i + 1).toNatClampNeg), .int (xs (i + 2).toNatClampNeg)]) (rest := []) ⟨hx, hb, hml, hown, hts⟩ (mX6_find l D cI cO cJ h6 h6_ms h6_mv h6_mb h6_mc h6_mg h6_mt h6_ml h6_mr H.size thr ms mv svm mb mln mc mg mt ml mat wel mr rdm hsh (xs (i + 1).toNatClampNeg) (xs (i + 2).toNatClampNeg) _ hx51) (cwV 2 hts gL_law_X6_find rfl rfl rfl (by decide +kernel) ⟨Nat.le_of_ble_eq_true rfl, Nat.le_of_ble_eq_true rfl⟩) (pw_preV hK hN (pw_sub hP [15, 16, 17, 18, 19, 20, 21, 22, 23] rfl) (pw_subD hD [15, 16, 17, 18, 19, 20, 21, 22, 23] (by decide) rfl) (ci := 6) (q0 := 0) rfl rfl) rfl rfl hl.1 rfl (lv_room (Nat.le_of_ble_eq_true rfl)) dL_law_572 ⟨by have := hk; show _ ≤ (601024 : Nat); omega, by have := hk; show _ ≤ (7293034 : Nat); omega⟩) hP hD hS hA [15, 16, 17, 18, 19, 20, 21, 22, 23] [0, 1, 2, 3, 4, 5, 6, 7, 8, 9, 10, 11, 12, 13, 14, 24] [0, 1, 2, 3, 4, 5, 6, 7, 8, 9, 10, 11, 12, 13, 14, 16, 17, 18, 19, 20, 21, 22, 23, 24, 15] rfl rfl (by decide) (by decide) (by decide) rfl (fun H locs hP hD hS => ?_)
        refine lv_istore (lv' := [(6, .int x51_1), (5, .int x48_1), (0, .ref b), (1, .ref h5), (2, .ref h6), (3, .ref q3), (4, .int i)]) hx hb dL_law_575 hl (by decide) rfl (fun ls hl => ?_)
        refine lv_aload_n hx hb dL_law_577 rfl (lv_at hl 4 rfl) ?_
        obtain ⟨x52, hx52, h⟩ := bnd h
        refine pw_goi (wc := [(h6, .inr (6, [.int x51_2, .ref h6_ms, .ref h6_mv, .int x51_5, .ref h6_mb, .int mln, .ref h6_mc, .ref h6_mg, .ref h6_mt, .ref h6_ml, .int mat, .int wel, .ref h6_mr, .int rdm, .long hsh])), (h6_ms, .inl (cI, 253, .inl x51_3)), (h6_mv, .inl (cI, 1518, .inl x51_4)), (h6_mb, .inl (cI, 60, .inl mb)), (h6_mc, .inl (cI, 160, .inl x51_6)), (h6_mg, .inl (cI, 160, .inl mg)), (h6_mt, .inl (cI, 240, .inl mt)), (h6_ml, .inl (cI, 240, .inl ml)), (h6_mr, .inl (cI, 600, .inl mr))]) (w1 := [(h6, .inr (6, [.int x51_2, .ref h6_ms, .ref h6_mv, .int x51_5, .ref h6_mb, .int mln, .ref h6_mc, .ref h6_mg, .ref h6_mt, .ref h6_ml, .int mat, .int wel, .ref h6_mr, .int rdm, .long hsh])), (h6_ms, .inl (cI, 253, .inl x51_3)), (h6_mv, .inl (cI, 1518, .inl x51_4)), (h6_mb, .inl (cI, 60, .inl mb)), (h6_mc, .inl (cI, 160, .inl x51_6)), (h6_mg, .inl (cI, 160, .inl mg)), (h6_mt, .inl (cI, 240, .inl mt)), (h6_ml, .inl (cI, 240, .inl ml)), (h6_mr, .inl (cI, 600, .inl mr))]) (w2 := [(h5, .inr (5, [.ref h2, .ref h1, .ref h4, .ref h0, .ref h3])), (h2, .inr (2, [.ref h2_row, .ref h2_ten, .ref h2_pha, .int len, .int x48_4, .int wfi, .int wmo, .int hun])), (h2_row, .inl (cI, 240, .inl row)), (h2_ten, .inl (cI, 4, .inl x48_2)), (h2_pha, .inl (cI, 4, .inl x48_3)), (h1, .inr (1, [.ref h1a, .int x48_5, .int x48_6])), (h4, .inr (4, [.ref h4_cod, .ref h4_unf, .int tln])), (h4_cod, .inl (cI, 60, .inl cod)), (h4_unf, .inl (cI, 540, .inl unf)), (h0, .inr (0, [.ref h0_cel, .int x48_8])), (h0_cel, .inl (cI, 160, .inl x48_7)), (h3, .inr (3, [.ref h3_str, .ref h3_tlr, .ref h3_tsg])), (h3_str, .inl (cI, 40, .inl str)), (h3_tlr, .inl (cI, 240, .inl tlr)), (h3_tsg, .inl (cI, 240, .inl tsg)), (h6, .inr (6, [.int x51_2, .ref h6_ms, .ref h6_mv, .int x51_5, .ref h6_mb, .int mln, .ref h6_mc, .ref h6_mg, .ref h6_mt, .ref h6_ml, .int mat, .int wel, .ref h6_mr, .int rdm, .long hsh])), (h6_ms, .inl (cI, 253, .inl x51_3)), (h6_mv, .inl (cI, 1518, .inl x51_4)), (h6_mb, .inl (cI, 60, .inl mb)), (h6_mc, .inl (cI, 160, .inl x51_6)), (h6_mg, .inl (cI, 160, .inl mg)), (h6_mt, .inl (cI, 240, .inl mt)), (h6_ml, .inl (cI, 240, .inl ml)), (h6_mr, .inl (cI, 600, .inl mr)), (q3, .inl (cJ, 1, .inr (.inl x48_9)))]) (va_runV (As := []) (rest := []) ⟨hx, hb, hml, hown, hts⟩ (mX6_thrown l D cI cO cJ h6 h6_ms h6_mv h6_mb h6_mc h6_mg h6_mt h6_ml h6_mr H.size x51_2 x51_3 x51_4 x51_5 mb mln x51_6 mg mt ml mat wel mr rdm hsh _ hx52) (cwV 0 hts gL_law_X6_thrown rfl rfl rfl (by decide +kernel) ⟨Nat.le_of_ble_eq_true rfl, Nat.le_of_ble_eq_true rfl⟩) (pw_preV hK hN (pw_sub hP [15, 16, 17, 18, 19, 20, 21, 22, 23] rfl) (pw_subD hD [15, 16, 17, 18, 19, 20, 21, 22, 23] (by decide) rfl) (ci := 6) (q0 := 0) rfl rfl) rfl rfl hl.1 rfl (lv_room (Nat.le_of_ble_eq_true rfl)) dL_law_578 ⟨by have := hk; show _ ≤ (601024 : Nat); omega, by have := hk; show _ ≤ (7293034 : Nat); omega⟩) hP hD hS hA [15, 16, 17, 18, 19, 20, 21, 22, 23] [0, 1, 2, 3, 4, 5, 6, 7, 8, 9, 10, 11, 12, 13, 14, 24] [0, 1, 2, 3, 4, 5, 6, 7, 8, 9, 10, 11, 12, 13, 14, 16, 17, 18, 19, 20, 21, 22, 23, 24, 15] rfl rfl (by decide) (by decide) (by decide) rfl (fun H locs hP hD hS => ?_)
        refine lv_iload hx hb dL_law_581 (lv_at hl 1 rfl) ?_
        refine lv_icmp_eq (tgt := 588) hx hb dL_law_583 (by decide) (fun cq => ?_) (fun cq => ?_)
        · replace h := ifp cq h
          refine lv_iload hx hb dL_law_588 (lv_at hl 1 rfl) ?_
          refine lv_if_ne (tgt := 605) hx hb dL_law_590 (by decide) (fun cq => ?_) (fun cq => ?_)
          · replace h := ifn cq h
            refine lv_goto (tgt := 1558) hx hb dL_law_605 (by decide) ?_
            refine lv_iinc (v := (i + 4)) (lv' := [(4, .int (i + 4)), (6, .int x51_1), (5, .int x48_1), (0, .ref b), (1, .ref h5), (2, .ref h6), (3, .ref q3)]) hx hb dL_law_1558 hl (k := 6) rfl rfl (by decide) rfl (fun ls hl => ?_)
            refine lv_goto (tgt := 23) hx hb dL_law_1561 (by decide) ?_
            refine W.widen (k := 50 + (k + 1)) (n := 6341 + 6 * (k + 1)) (by omega) (by omega) ?_
            exact ih _ (k + 1) _ _ _ _ _ _ _ _ _ _ _ _ _ _ _ _ _ _ _ _ _ _ _ _ _ _ _ _ _ _ _ _ _ _ _ _ _ _ h (pl_i hi) (pl_k hi hL hk hgo) hP hD hS (lv_sub hl [3, 4, 5, 6, 0] rfl)
          · replace h := ifp cq h
            refine lv_aload_n hx hb dL_law_593 rfl (lv_at hl 5 rfl) ?_
            refine lv_iconst (v := 0) hx hb dL_law_594 (by decide) ?_
            obtain ⟨g53, h⟩ := gdn h
            refine va_lald hx hb hK hP 24 2 rfl rfl g53 dL_law_595 ?_
            refine lv_iload hx hb dL_law_596 (lv_at hl 0 rfl) ?_
            refine lv_i2l (v := x51_1.toInt64) hx hb dL_law_598 rfl ?_
            refine W.lcmp hx hb dL_law_599 ?_
            refine lv_if_eq (tgt := 605) hx hb dL_law_600 (by decide) (fun cq => ?_) (fun cq => ?_)
            · replace h := ifp cq h
              refine lv_goto (tgt := 1558) hx hb dL_law_605 (by decide) ?_
              refine lv_iinc (v := (i + 4)) (lv' := [(4, .int (i + 4)), (6, .int x51_1), (5, .int x48_1), (0, .ref b), (1, .ref h5), (2, .ref h6), (3, .ref q3)]) hx hb dL_law_1558 hl (k := 6) rfl rfl (by decide) rfl (fun ls hl => ?_)
              refine lv_goto (tgt := 23) hx hb dL_law_1561 (by decide) ?_
              refine W.widen (k := 50 + (k + 1)) (n := 6341 + 6 * (k + 1)) (by omega) (by omega) ?_
              exact ih _ (k + 1) _ _ _ _ _ _ _ _ _ _ _ _ _ _ _ _ _ _ _ _ _ _ _ _ _ _ _ _ _ _ _ _ _ _ _ _ _ _ h (pl_i hi) (pl_k hi hL hk hgo) hP hD hS (lv_sub hl [3, 4, 5, 6, 0] rfl)
            · replace h := ifn cq h
              refine lv_iconst (v := 0) hx hb dL_law_603 (by decide) ?_
              exact absurd (Option.some.inj h) (by decide)
        · replace h := ifn cq h
          refine lv_iconst (v := 0) hx hb dL_law_586 (by decide) ?_
          exact absurd (Option.some.inj h) (by decide)
      replace h := ifn c6 h
      by_cases c7 : ((xs i.toNatClampNeg) &&& 31) = 7
      · replace h := ifp c7 h
        refine lv_tableIn (x := ((xs i.toNatClampNeg) &&& 31)) hx hb dL_law_39 (by rw [c7]; decide) (by rw [c7]; decide) (off := 569) (tgt := 608) (by rw [c7]; rfl) (by decide) ?_
        refine lv_aload_n hx hb dL_law_608 rfl (lv_at hl 1 rfl) ?_
        obtain ⟨⟨x54_1, x54_2, x54_3, x54_4, x54_5, x54_6, x54_7, x54_8, x54_9, x54_10⟩, hx54, h⟩ := bnd h
        refine pw_goPi (wc := [(h5, .inr (5, [.ref h2, .ref h1, .ref h4, .ref h0, .ref h3])), (h2, .inr (2, [.ref h2_row, .ref h2_ten, .ref h2_pha, .int len, .int kep, .int wfi, .int wmo, .int hun])), (h2_row, .inl (cI, 240, .inl row)), (h2_ten, .inl (cI, 4, .inl ten)), (h2_pha, .inl (cI, 4, .inl pha)), (h1, .inr (1, [.ref h1a, .int nex, .int man])), (h4, .inr (4, [.ref h4_cod, .ref h4_unf, .int tln])), (h4_cod, .inl (cI, 60, .inl cod)), (h4_unf, .inl (cI, 540, .inl unf)), (h0, .inr (0, [.ref h0_cel, .int cls])), (h0_cel, .inl (cI, 160, .inl cel)), (h3, .inr (3, [.ref h3_str, .ref h3_tlr, .ref h3_tsg])), (h3_str, .inl (cI, 40, .inl str)), (h3_tlr, .inl (cI, 240, .inl tlr)), (h3_tsg, .inl (cI, 240, .inl tsg))]) (w1 := [(h5, .inr (5, [.ref h2, .ref h1, .ref h4, .ref h0, .ref h3])), (h2, .inr (2, [.ref h2_row, .ref h2_ten, .ref h2_pha, .int len, .int kep, .int wfi, .int wmo, .int hun])), (h2_row, .inl (cI, 240, .inl x54_2)), (h2_ten, .inl (cI, 4, .inl ten)), (h2_pha, .inl (cI, 4, .inl pha)), (h1, .inr (1, [.ref h1a, .int x54_3, .int x54_4])), (h4, .inr (4, [.ref h4_cod, .ref h4_unf, .int tln])), (h4_cod, .inl (cI, 60, .inl cod)), (h4_unf, .inl (cI, 540, .inl unf)), (h0, .inr (0, [.ref h0_cel, .int x54_6])), (h0_cel, .inl (cI, 160, .inl x54_5)), (h3, .inr (3, [.ref h3_str, .ref h3_tlr, .ref h3_tsg])), (h3_str, .inl (cI, 40, .inl x54_7)), (h3_tlr, .inl (cI, 240, .inl x54_8)), (h3_tsg, .inl (cI, 240, .inl x54_9))]) (w2 := [(h5, .inr (5, [.ref h2, .ref h1, .ref h4, .ref h0, .ref h3])), (h2, .inr (2, [.ref h2_row, .ref h2_ten, .ref h2_pha, .int len, .int kep, .int wfi, .int wmo, .int hun])), (h2_row, .inl (cI, 240, .inl x54_2)), (h2_ten, .inl (cI, 4, .inl ten)), (h2_pha, .inl (cI, 4, .inl pha)), (h1, .inr (1, [.ref h1a, .int x54_3, .int x54_4])), (h4, .inr (4, [.ref h4_cod, .ref h4_unf, .int tln])), (h4_cod, .inl (cI, 60, .inl cod)), (h4_unf, .inl (cI, 540, .inl unf)), (h0, .inr (0, [.ref h0_cel, .int x54_6])), (h0_cel, .inl (cI, 160, .inl x54_5)), (h3, .inr (3, [.ref h3_str, .ref h3_tlr, .ref h3_tsg])), (h3_str, .inl (cI, 40, .inl x54_7)), (h3_tlr, .inl (cI, 240, .inl x54_8)), (h3_tsg, .inl (cI, 240, .inl x54_9)), (h6, .inr (6, [.int thr, .ref h6_ms, .ref h6_mv, .int svm, .ref h6_mb, .int mln, .ref h6_mc, .ref h6_mg, .ref h6_mt, .ref h6_ml, .int mat, .int wel, .ref h6_mr, .int rdm, .long hsh])), (h6_ms, .inl (cI, 253, .inl ms)), (h6_mv, .inl (cI, 1518, .inl mv)), (h6_mb, .inl (cI, 60, .inl mb)), (h6_mc, .inl (cI, 160, .inl mc)), (h6_mg, .inl (cI, 160, .inl mg)), (h6_mt, .inl (cI, 240, .inl mt)), (h6_ml, .inl (cI, 240, .inl ml)), (h6_mr, .inl (cI, 600, .inl mr)), (q3, .inl (cJ, 1, .inr (.inl f3)))]) (pl1 := ringW cI cO h1a rh x54_10) (va_runV (As := []) (rest := []) ⟨hx, hb, hml, hown, hts⟩ (mX5_mend l D cI cO cJ h5 h2 h2_row h2_ten h2_pha h1 h1a h4 h4_cod h4_unf h0 h0_cel h3 h3_str h3_tlr h3_tsg rh H.size row ten pha len kep wfi wmo hun nex man cod unf tln cel cls str tlr tsg rg _ hx54) (cwV 0 hts gL_law_X5_mend rfl rfl rfl (by decide +kernel) ⟨Nat.le_of_ble_eq_true rfl, Nat.le_of_ble_eq_true rfl⟩) (pw_preV hK hN (hP.part [0, 1, 2, 3, 4, 5, 6, 7, 8, 9, 10, 11, 12, 13, 14] rfl) (hD.part [0, 1, 2, 3, 4, 5, 6, 7, 8, 9, 10, 11, 12, 13, 14] (by decide) rfl) (ci := 5) (q0 := 0) rfl rfl) rfl rfl hl.1 rfl (lv_room (Nat.le_of_ble_eq_true rfl)) dL_law_609 ⟨by have := hk; show _ ≤ (601024 : Nat); omega, by have := hk; show _ ≤ (7293034 : Nat); omega⟩) hP hD hS hA [0, 1, 2, 3, 4, 5, 6, 7, 8, 9, 10, 11, 12, 13, 14] [15, 16, 17, 18, 19, 20, 21, 22, 23, 24] [10, 11, 12, 13, 14, 15, 16, 17, 18, 19, 20, 21, 22, 23, 24, 0, 1, 2, 3, 4, 5, 6, 7, 8, 9] rfl rfl (by decide) (by decide) (by decide) rfl (fun H locs hP hD hS => ?_)
        refine lv_aload_n hx hb dL_law_612 rfl (lv_at hl 2 rfl) ?_
        obtain ⟨⟨x55_1, x55_2, x55_3, x55_4, x55_5, x55_6, x55_7, x55_8, x55_9⟩, hx55, h⟩ := bnd h
        refine pw_goi (wc := [(h6, .inr (6, [.int thr, .ref h6_ms, .ref h6_mv, .int svm, .ref h6_mb, .int mln, .ref h6_mc, .ref h6_mg, .ref h6_mt, .ref h6_ml, .int mat, .int wel, .ref h6_mr, .int rdm, .long hsh])), (h6_ms, .inl (cI, 253, .inl ms)), (h6_mv, .inl (cI, 1518, .inl mv)), (h6_mb, .inl (cI, 60, .inl mb)), (h6_mc, .inl (cI, 160, .inl mc)), (h6_mg, .inl (cI, 160, .inl mg)), (h6_mt, .inl (cI, 240, .inl mt)), (h6_ml, .inl (cI, 240, .inl ml)), (h6_mr, .inl (cI, 600, .inl mr))]) (w1 := [(h6, .inr (6, [.int x55_2, .ref h6_ms, .ref h6_mv, .int x55_5, .ref h6_mb, .int mln, .ref h6_mc, .ref h6_mg, .ref h6_mt, .ref h6_ml, .int mat, .int wel, .ref h6_mr, .int rdm, .long hsh])), (h6_ms, .inl (cI, 253, .inl x55_3)), (h6_mv, .inl (cI, 1518, .inl x55_4)), (h6_mb, .inl (cI, 60, .inl mb)), (h6_mc, .inl (cI, 160, .inl x55_6)), (h6_mg, .inl (cI, 160, .inl x55_7)), (h6_mt, .inl (cI, 240, .inl x55_8)), (h6_ml, .inl (cI, 240, .inl x55_9)), (h6_mr, .inl (cI, 600, .inl mr))]) (w2 := [(h5, .inr (5, [.ref h2, .ref h1, .ref h4, .ref h0, .ref h3])), (h2, .inr (2, [.ref h2_row, .ref h2_ten, .ref h2_pha, .int len, .int kep, .int wfi, .int wmo, .int hun])), (h2_row, .inl (cI, 240, .inl x54_2)), (h2_ten, .inl (cI, 4, .inl ten)), (h2_pha, .inl (cI, 4, .inl pha)), (h1, .inr (1, [.ref h1a, .int x54_3, .int x54_4])), (h4, .inr (4, [.ref h4_cod, .ref h4_unf, .int tln])), (h4_cod, .inl (cI, 60, .inl cod)), (h4_unf, .inl (cI, 540, .inl unf)), (h0, .inr (0, [.ref h0_cel, .int x54_6])), (h0_cel, .inl (cI, 160, .inl x54_5)), (h3, .inr (3, [.ref h3_str, .ref h3_tlr, .ref h3_tsg])), (h3_str, .inl (cI, 40, .inl x54_7)), (h3_tlr, .inl (cI, 240, .inl x54_8)), (h3_tsg, .inl (cI, 240, .inl x54_9)), (h6, .inr (6, [.int x55_2, .ref h6_ms, .ref h6_mv, .int x55_5, .ref h6_mb, .int mln, .ref h6_mc, .ref h6_mg, .ref h6_mt, .ref h6_ml, .int mat, .int wel, .ref h6_mr, .int rdm, .long hsh])), (h6_ms, .inl (cI, 253, .inl x55_3)), (h6_mv, .inl (cI, 1518, .inl x55_4)), (h6_mb, .inl (cI, 60, .inl mb)), (h6_mc, .inl (cI, 160, .inl x55_6)), (h6_mg, .inl (cI, 160, .inl x55_7)), (h6_mt, .inl (cI, 240, .inl x55_8)), (h6_ml, .inl (cI, 240, .inl x55_9)), (h6_mr, .inl (cI, 600, .inl mr)), (q3, .inl (cJ, 1, .inr (.inl f3)))]) (va_runV (As := []) (rest := [.int x54_1]) ⟨hx, hb, hml, hown, hts⟩ (mX6_mend l D cI cO cJ h6 h6_ms h6_mv h6_mb h6_mc h6_mg h6_mt h6_ml h6_mr H.size thr ms mv svm mb mln mc mg mt ml mat wel mr rdm hsh _ hx55) (cwV 0 hts gL_law_X6_mend rfl rfl rfl (by decide +kernel) ⟨Nat.le_of_ble_eq_true rfl, Nat.le_of_ble_eq_true rfl⟩) (pw_preV hK hN (pw_sub hP [15, 16, 17, 18, 19, 20, 21, 22, 23] rfl) (pw_subD hD [15, 16, 17, 18, 19, 20, 21, 22, 23] (by decide) rfl) (ci := 6) (q0 := 0) rfl rfl) rfl rfl hl.1 rfl (lv_room (Nat.le_of_ble_eq_true rfl)) dL_law_613 ⟨by have := hk; show _ ≤ (601024 : Nat); omega, by have := hk; show _ ≤ (7293034 : Nat); omega⟩) hP hD hS hA [15, 16, 17, 18, 19, 20, 21, 22, 23] [0, 1, 2, 3, 4, 5, 6, 7, 8, 9, 10, 11, 12, 13, 14, 24] [0, 1, 2, 3, 4, 5, 6, 7, 8, 9, 10, 11, 12, 13, 14, 16, 17, 18, 19, 20, 21, 22, 23, 24, 15] rfl rfl (by decide) (by decide) (by decide) rfl (fun H locs hP hD hS => ?_)
        refine lv_icmp_eq (tgt := 1558) hx hb dL_law_616 (by decide) (fun cq => ?_) (fun cq => ?_)
        · replace h := ifp cq h
          refine lv_iinc (v := (i + 4)) (lv' := [(4, .int (i + 4)), (0, .ref b), (1, .ref h5), (2, .ref h6), (3, .ref q3)]) hx hb dL_law_1558 hl (k := 4) rfl rfl (by decide) rfl (fun ls hl => ?_)
          refine lv_goto (tgt := 23) hx hb dL_law_1561 (by decide) ?_
          refine W.widen (k := 50 + (k + 1)) (n := 6341 + 6 * (k + 1)) (by omega) (by omega) ?_
          exact ih _ (k + 1) _ _ _ _ _ _ _ _ _ _ _ _ _ _ _ _ _ _ _ _ _ _ _ _ _ _ _ _ _ _ _ _ _ _ _ _ _ _ h (pl_i hi) (pl_k hi hL hk hgo) hP hD hS (lv_sub hl [1, 2, 3, 4, 0] rfl)
        · replace h := ifn cq h
          refine lv_iconst (v := 0) hx hb dL_law_619 (by decide) ?_
          exact absurd (Option.some.inj h) (by decide)
      replace h := ifn c7 h
      by_cases c8 : ((xs i.toNatClampNeg) &&& 31) = 8
      · replace h := ifp c8 h
        refine lv_tableIn (x := ((xs i.toNatClampNeg) &&& 31)) hx hb dL_law_39 (by rw [c8]; decide) (by rw [c8]; decide) (off := 582) (tgt := 621) (by rw [c8]; rfl) (by decide) ?_
        refine lv_aload_n hx hb dL_law_621 rfl (lv_at hl 1 rfl) ?_
        refine lv_aload_n hx hb dL_law_622 rfl (lv_at hl 0 rfl) ?_
        refine lv_iload hx hb dL_law_623 (lv_at hl 4 rfl) ?_
        refine lv_iconst (v := 1) hx hb dL_law_625 (by decide) ?_
        refine lv_iadd hx hb dL_law_626 ?_
        obtain ⟨g56, h⟩ := gdn h
        refine va_sld hx hb hX hbl hbA hS g56 dL_law_627 ?_
        refine lv_aload_n hx hb dL_law_628 rfl (lv_at hl 0 rfl) ?_
        refine lv_iload hx hb dL_law_629 (lv_at hl 4 rfl) ?_
        refine lv_iconst (v := 2) hx hb dL_law_631 (by decide) ?_
        refine lv_iadd hx hb dL_law_632 ?_
        obtain ⟨g57, h⟩ := gdn h
        refine va_sld hx hb hX hbl hbA hS g57 dL_law_633 ?_
        refine lv_aload_n hx hb dL_law_634 rfl (lv_at hl 3 rfl) ?_
        obtain ⟨⟨x58_1, x58_2, x58_3, x58_4, x58_5, x58_6, x58_7, x58_8⟩, hx58, h⟩ := bnd h
        refine pw_goPiN (wc := [(h5, .inr (5, [.ref h2, .ref h1, .ref h4, .ref h0, .ref h3])), (h2, .inr (2, [.ref h2_row, .ref h2_ten, .ref h2_pha, .int len, .int kep, .int wfi, .int wmo, .int hun])), (h2_row, .inl (cI, 240, .inl row)), (h2_ten, .inl (cI, 4, .inl ten)), (h2_pha, .inl (cI, 4, .inl pha)), (h1, .inr (1, [.ref h1a, .int nex, .int man])), (h4, .inr (4, [.ref h4_cod, .ref h4_unf, .int tln])), (h4_cod, .inl (cI, 60, .inl cod)), (h4_unf, .inl (cI, 540, .inl unf)), (h0, .inr (0, [.ref h0_cel, .int cls])), (h0_cel, .inl (cI, 160, .inl cel)), (h3, .inr (3, [.ref h3_str, .ref h3_tlr, .ref h3_tsg])), (h3_str, .inl (cI, 40, .inl str)), (h3_tlr, .inl (cI, 240, .inl tlr)), (h3_tsg, .inl (cI, 240, .inl tsg)), (q3, .inl (cJ, 1, .inr (.inl f3)))]) (w1 := [(h5, .inr (5, [.ref h2, .ref h1, .ref h4, .ref h0, .ref h3])), (h2, .inr (2, [.ref h2_row, .ref h2_ten, .ref h2_pha, .int len, .int kep, .int x58_2, .int x58_3, .int x58_4])), (h2_row, .inl (cI, 240, .inl row)), (h2_ten, .inl (cI, 4, .inl ten)), (h2_pha, .inl (cI, 4, .inl pha)), (h1, .inr (1, [.ref h1a, .int x58_5, .int x58_6])), (h4, .inr (4, [.ref h4_cod, .ref h4_unf, .int tln])), (h4_cod, .inl (cI, 60, .inl cod)), (h4_unf, .inl (cI, 540, .inl unf)), (h0, .inr (0, [.ref h0_cel, .int cls])), (h0_cel, .inl (cI, 160, .inl cel)), (h3, .inr (3, [.ref h3_str, .ref h3_tlr, .ref h3_tsg])), (h3_str, .inl (cI, 40, .inl str)), (h3_tlr, .inl (cI, 240, .inl tlr)), (h3_tsg, .inl (cI, 240, .inl tsg)), (q3, .inl (cJ, 1, .inr (.inl x58_7)))]) (w2 := [(h5, .inr (5, [.ref h2, .ref h1, .ref h4, .ref h0, .ref h3])), (h2, .inr (2, [.ref h2_row, .ref h2_ten, .ref h2_pha, .int len, .int kep, .int x58_2, .int x58_3, .int x58_4])), (h2_row, .inl (cI, 240, .inl row)), (h2_ten, .inl (cI, 4, .inl ten)), (h2_pha, .inl (cI, 4, .inl pha)), (h1, .inr (1, [.ref h1a, .int x58_5, .int x58_6])), (h4, .inr (4, [.ref h4_cod, .ref h4_unf, .int tln])), (h4_cod, .inl (cI, 60, .inl cod)), (h4_unf, .inl (cI, 540, .inl unf)), (h0, .inr (0, [.ref h0_cel, .int cls])), (h0_cel, .inl (cI, 160, .inl cel)), (h3, .inr (3, [.ref h3_str, .ref h3_tlr, .ref h3_tsg])), (h3_str, .inl (cI, 40, .inl str)), (h3_tlr, .inl (cI, 240, .inl tlr)), (h3_tsg, .inl (cI, 240, .inl tsg)), (h6, .inr (6, [.int thr, .ref h6_ms, .ref h6_mv, .int svm, .ref h6_mb, .int mln, .ref h6_mc, .ref h6_mg, .ref h6_mt, .ref h6_ml, .int mat, .int wel, .ref h6_mr, .int rdm, .long hsh])), (h6_ms, .inl (cI, 253, .inl ms)), (h6_mv, .inl (cI, 1518, .inl mv)), (h6_mb, .inl (cI, 60, .inl mb)), (h6_mc, .inl (cI, 160, .inl mc)), (h6_mg, .inl (cI, 160, .inl mg)), (h6_mt, .inl (cI, 240, .inl mt)), (h6_ml, .inl (cI, 240, .inl ml)), (h6_mr, .inl (cI, 600, .inl mr)), (q3, .inl (cJ, 1, .inr (.inl x58_7)))]) (pl1 := ringW cI cO h1a rh x58_8) (vx_runSW (As := [.ref h5, .int (xs (i + 1).toNatClampNeg), .int (xs (i + 2).toNatClampNeg), .ref q3]) (rest := []) ⟨hx, hb, hml, hown, hts⟩ (mL_set l D cI cO cJ h5 h2 h2_row h2_ten h2_pha h1 h1a h4 h4_cod h4_unf h0 h0_cel h3 h3_str h3_tlr h3_tsg q3 rh H.size row ten pha len kep wfi wmo hun nex man cod unf tln cel cls str tlr tsg f3 rg (xs (i + 1).toNatClampNeg) (xs (i + 2).toNatClampNeg) _ hst hx58) (vx_cwSW 4 hts gL_law_L_set rfl rfl rfl (by decide +kernel) ⟨Nat.le_of_ble_eq_true rfl, Nat.le_of_ble_eq_true rfl⟩) (pl_preS hK hN ((px_X.kept hX9 hS.2.1).narrow (pw_freeP hD hS hA [0, 1, 2, 3, 4, 5, 6, 7, 8, 9, 10, 11, 12, 13, 14, 24] rfl)) hT hC9 (hP.part [0, 1, 2, 3, 4, 5, 6, 7, 8, 9, 10, 11, 12, 13, 14, 24] rfl) (hD.part [0, 1, 2, 3, 4, 5, 6, 7, 8, 9, 10, 11, 12, 13, 14, 24] (by decide) rfl)) rfl rfl hl.1 rfl (lv_room (Nat.le_of_ble_eq_true rfl)) dL_law_635 ⟨by have := hk; show _ ≤ (601024 : Nat); omega, by have := hk; show _ ≤ (7293034 : Nat); omega⟩) hP hD hS hA [0, 1, 2, 3, 4, 5, 6, 7, 8, 9, 10, 11, 12, 13, 14, 24] [15, 16, 17, 18, 19, 20, 21, 22, 23] [9, 10, 11, 12, 13, 14, 15, 16, 17, 18, 19, 20, 21, 22, 23, 0, 1, 2, 3, 4, 5, 6, 7, 8, 24] rfl rfl (by decide) (by decide) (by decide) rfl (fun H locs hP hD hS => ?_)
        refine lv_istore (lv' := [(5, .int x58_1), (0, .ref b), (1, .ref h5), (2, .ref h6), (3, .ref q3), (4, .int i)]) hx hb dL_law_638 hl (by decide) rfl (fun ls hl => ?_)
        refine lv_aload_n hx hb dL_law_640 rfl (lv_at hl 3 rfl) ?_
        refine lv_aload_n hx hb dL_law_641 rfl (lv_at hl 1 rfl) ?_
        refine lv_iload hx hb dL_law_642 (lv_at hl 5 rfl) ?_
        refine lv_iconst (v := 1) hx hb dL_law_644 (by decide) ?_
        refine lv_iadd hx hb dL_law_645 ?_
        obtain ⟨g59, h⟩ := gdn h
        refine va_sld hx hb hX hbl hbA hS g59 dL_law_646 ?_
        refine lv_aload_n hx hb dL_law_647 rfl (lv_at hl 1 rfl) ?_
        refine lv_iload hx hb dL_law_648 (lv_at hl 5 rfl) ?_
        refine lv_iconst (v := 2) hx hb dL_law_650 (by decide) ?_
        refine lv_iadd hx hb dL_law_651 ?_
        obtain ⟨g60, h⟩ := gdn h
        refine va_sld hx hb hX hbl hbA hS g60 dL_law_652 ?_
        obtain ⟨⟨x61_1, x61_2, x61_3, x61_4, x61_5⟩, hx61, h⟩ := bnd h
        refine pw_goi (wc := [(h6, .inr (6, [.int thr, .ref h6_ms, .ref h6_mv, .int svm, .ref h6_mb, .int mln, .ref h6_mc, .ref h6_mg, .ref h6_mt, .ref h6_ml, .int mat, .int wel, .ref h6_mr, .int rdm, .long hsh])), (h6_ms, .inl (cI, 253, .inl ms)), (h6_mv, .inl (cI, 1518, .inl mv)), (h6_mb, .inl (cI, 60, .inl mb)), (h6_mc, .inl (cI, 160, .inl mc)), (h6_mg, .inl (cI, 160, .inl mg)), (h6_mt, .inl (cI, 240, .inl mt)), (h6_ml, .inl (cI, 240, .inl ml)), (h6_mr, .inl (cI, 600, .inl mr))]) (w1 := [(h6, .inr (6, [.int x61_2, .ref h6_ms, .ref h6_mv, .int x61_5, .ref h6_mb, .int mln, .ref h6_mc, .ref h6_mg, .ref h6_mt, .ref h6_ml, .int mat, .int wel, .ref h6_mr, .int rdm, .long hsh])), (h6_ms, .inl (cI, 253, .inl x61_3)), (h6_mv, .inl (cI, 1518, .inl x61_4)), (h6_mb, .inl (cI, 60, .inl mb)), (h6_mc, .inl (cI, 160, .inl mc)), (h6_mg, .inl (cI, 160, .inl mg)), (h6_mt, .inl (cI, 240, .inl mt)), (h6_ml, .inl (cI, 240, .inl ml)), (h6_mr, .inl (cI, 600, .inl mr))]) (w2 := [(h5, .inr (5, [.ref h2, .ref h1, .ref h4, .ref h0, .ref h3])), (h2, .inr (2, [.ref h2_row, .ref h2_ten, .ref h2_pha, .int len, .int kep, .int x58_2, .int x58_3, .int x58_4])), (h2_row, .inl (cI, 240, .inl row)), (h2_ten, .inl (cI, 4, .inl ten)), (h2_pha, .inl (cI, 4, .inl pha)), (h1, .inr (1, [.ref h1a, .int x58_5, .int x58_6])), (h4, .inr (4, [.ref h4_cod, .ref h4_unf, .int tln])), (h4_cod, .inl (cI, 60, .inl cod)), (h4_unf, .inl (cI, 540, .inl unf)), (h0, .inr (0, [.ref h0_cel, .int cls])), (h0_cel, .inl (cI, 160, .inl cel)), (h3, .inr (3, [.ref h3_str, .ref h3_tlr, .ref h3_tsg])), (h3_str, .inl (cI, 40, .inl str)), (h3_tlr, .inl (cI, 240, .inl tlr)), (h3_tsg, .inl (cI, 240, .inl tsg)), (h6, .inr (6, [.int x61_2, .ref h6_ms, .ref h6_mv, .int x61_5, .ref h6_mb, .int mln, .ref h6_mc, .ref h6_mg, .ref h6_mt, .ref h6_ml, .int mat, .int wel, .ref h6_mr, .int rdm, .long hsh])), (h6_ms, .inl (cI, 253, .inl x61_3)), (h6_mv, .inl (cI, 1518, .inl x61_4)), (h6_mb, .inl (cI, 60, .inl mb)), (h6_mc, .inl (cI, 160, .inl mc)), (h6_mg, .inl (cI, 160, .inl mg)), (h6_mt, .inl (cI, 240, .inl mt)), (h6_ml, .inl (cI, 240, .inl ml)), (h6_mr, .inl (cI, 600, .inl mr)), (q3, .inl (cJ, 1, .inr (.inl x58_7)))]) (va_runV (As := [.int (xs (i + 1).toNatClampNeg), .int (xs (i + 2).toNatClampNeg)]) (rest := []) ⟨hx, hb, hml, hown, hts⟩ (mX6_set l D cI cO cJ h6 h6_ms h6_mv h6_mb h6_mc h6_mg h6_mt h6_ml h6_mr H.size thr ms mv svm mb mln mc mg mt ml mat wel mr rdm hsh (xs (i + 1).toNatClampNeg) (xs (i + 2).toNatClampNeg) _ hx61) (cwV 2 hts gL_law_X6_set rfl rfl rfl (by decide +kernel) ⟨Nat.le_of_ble_eq_true rfl, Nat.le_of_ble_eq_true rfl⟩) (pw_preV hK hN (pw_sub hP [15, 16, 17, 18, 19, 20, 21, 22, 23] rfl) (pw_subD hD [15, 16, 17, 18, 19, 20, 21, 22, 23] (by decide) rfl) (ci := 6) (q0 := 0) rfl rfl) rfl rfl hl.1 rfl (lv_room (Nat.le_of_ble_eq_true rfl)) dL_law_653 ⟨by have := hk; show _ ≤ (601024 : Nat); omega, by have := hk; show _ ≤ (7293034 : Nat); omega⟩) hP hD hS hA [15, 16, 17, 18, 19, 20, 21, 22, 23] [0, 1, 2, 3, 4, 5, 6, 7, 8, 9, 10, 11, 12, 13, 14, 24] [0, 1, 2, 3, 4, 5, 6, 7, 8, 9, 10, 11, 12, 13, 14, 16, 17, 18, 19, 20, 21, 22, 23, 24, 15] rfl rfl (by decide) (by decide) (by decide) rfl (fun H locs hP hD hS => ?_)
        refine lv_istore (lv' := [(6, .int x61_1), (5, .int x58_1), (0, .ref b), (1, .ref h5), (2, .ref h6), (3, .ref q3), (4, .int i)]) hx hb dL_law_656 hl (by decide) rfl (fun ls hl => ?_)
        refine lv_aload_n hx hb dL_law_658 rfl (lv_at hl 4 rfl) ?_
        obtain ⟨x62, hx62, h⟩ := bnd h
        refine pw_goi (wc := [(h6, .inr (6, [.int x61_2, .ref h6_ms, .ref h6_mv, .int x61_5, .ref h6_mb, .int mln, .ref h6_mc, .ref h6_mg, .ref h6_mt, .ref h6_ml, .int mat, .int wel, .ref h6_mr, .int rdm, .long hsh])), (h6_ms, .inl (cI, 253, .inl x61_3)), (h6_mv, .inl (cI, 1518, .inl x61_4)), (h6_mb, .inl (cI, 60, .inl mb)), (h6_mc, .inl (cI, 160, .inl mc)), (h6_mg, .inl (cI, 160, .inl mg)), (h6_mt, .inl (cI, 240, .inl mt)), (h6_ml, .inl (cI, 240, .inl ml)), (h6_mr, .inl (cI, 600, .inl mr))]) (w1 := [(h6, .inr (6, [.int x61_2, .ref h6_ms, .ref h6_mv, .int x61_5, .ref h6_mb, .int mln, .ref h6_mc, .ref h6_mg, .ref h6_mt, .ref h6_ml, .int mat, .int wel, .ref h6_mr, .int rdm, .long hsh])), (h6_ms, .inl (cI, 253, .inl x61_3)), (h6_mv, .inl (cI, 1518, .inl x61_4)), (h6_mb, .inl (cI, 60, .inl mb)), (h6_mc, .inl (cI, 160, .inl mc)), (h6_mg, .inl (cI, 160, .inl mg)), (h6_mt, .inl (cI, 240, .inl mt)), (h6_ml, .inl (cI, 240, .inl ml)), (h6_mr, .inl (cI, 600, .inl mr))]) (w2 := [(h5, .inr (5, [.ref h2, .ref h1, .ref h4, .ref h0, .ref h3])), (h2, .inr (2, [.ref h2_row, .ref h2_ten, .ref h2_pha, .int len, .int kep, .int x58_2, .int x58_3, .int x58_4])), (h2_row, .inl (cI, 240, .inl row)), (h2_ten, .inl (cI, 4, .inl ten)), (h2_pha, .inl (cI, 4, .inl pha)), (h1, .inr (1, [.ref h1a, .int x58_5, .int x58_6])), (h4, .inr (4, [.ref h4_cod, .ref h4_unf, .int tln])), (h4_cod, .inl (cI, 60, .inl cod)), (h4_unf, .inl (cI, 540, .inl unf)), (h0, .inr (0, [.ref h0_cel, .int cls])), (h0_cel, .inl (cI, 160, .inl cel)), (h3, .inr (3, [.ref h3_str, .ref h3_tlr, .ref h3_tsg])), (h3_str, .inl (cI, 40, .inl str)), (h3_tlr, .inl (cI, 240, .inl tlr)), (h3_tsg, .inl (cI, 240, .inl tsg)), (h6, .inr (6, [.int x61_2, .ref h6_ms, .ref h6_mv, .int x61_5, .ref h6_mb, .int mln, .ref h6_mc, .ref h6_mg, .ref h6_mt, .ref h6_ml, .int mat, .int wel, .ref h6_mr, .int rdm, .long hsh])), (h6_ms, .inl (cI, 253, .inl x61_3)), (h6_mv, .inl (cI, 1518, .inl x61_4)), (h6_mb, .inl (cI, 60, .inl mb)), (h6_mc, .inl (cI, 160, .inl mc)), (h6_mg, .inl (cI, 160, .inl mg)), (h6_mt, .inl (cI, 240, .inl mt)), (h6_ml, .inl (cI, 240, .inl ml)), (h6_mr, .inl (cI, 600, .inl mr)), (q3, .inl (cJ, 1, .inr (.inl x58_7)))]) (va_runV (As := []) (rest := []) ⟨hx, hb, hml, hown, hts⟩ (mX6_thrown l D cI cO cJ h6 h6_ms h6_mv h6_mb h6_mc h6_mg h6_mt h6_ml h6_mr H.size x61_2 x61_3 x61_4 x61_5 mb mln mc mg mt ml mat wel mr rdm hsh _ hx62) (cwV 0 hts gL_law_X6_thrown rfl rfl rfl (by decide +kernel) ⟨Nat.le_of_ble_eq_true rfl, Nat.le_of_ble_eq_true rfl⟩) (pw_preV hK hN (pw_sub hP [15, 16, 17, 18, 19, 20, 21, 22, 23] rfl) (pw_subD hD [15, 16, 17, 18, 19, 20, 21, 22, 23] (by decide) rfl) (ci := 6) (q0 := 0) rfl rfl) rfl rfl hl.1 rfl (lv_room (Nat.le_of_ble_eq_true rfl)) dL_law_659 ⟨by have := hk; show _ ≤ (601024 : Nat); omega, by have := hk; show _ ≤ (7293034 : Nat); omega⟩) hP hD hS hA [15, 16, 17, 18, 19, 20, 21, 22, 23] [0, 1, 2, 3, 4, 5, 6, 7, 8, 9, 10, 11, 12, 13, 14, 24] [0, 1, 2, 3, 4, 5, 6, 7, 8, 9, 10, 11, 12, 13, 14, 16, 17, 18, 19, 20, 21, 22, 23, 24, 15] rfl rfl (by decide) (by decide) (by decide) rfl (fun H locs hP hD hS => ?_)
        refine lv_iload hx hb dL_law_662 (lv_at hl 1 rfl) ?_
        refine lv_icmp_eq (tgt := 669) hx hb dL_law_664 (by decide) (fun cq => ?_) (fun cq => ?_)
        · replace h := ifp cq h
          refine lv_iload hx hb dL_law_669 (lv_at hl 1 rfl) ?_
          refine lv_if_ne (tgt := 686) hx hb dL_law_671 (by decide) (fun cq => ?_) (fun cq => ?_)
          · replace h := ifn cq h
            refine lv_goto (tgt := 1558) hx hb dL_law_686 (by decide) ?_
            refine lv_iinc (v := (i + 4)) (lv' := [(4, .int (i + 4)), (6, .int x61_1), (5, .int x58_1), (0, .ref b), (1, .ref h5), (2, .ref h6), (3, .ref q3)]) hx hb dL_law_1558 hl (k := 6) rfl rfl (by decide) rfl (fun ls hl => ?_)
            refine lv_goto (tgt := 23) hx hb dL_law_1561 (by decide) ?_
            refine W.widen (k := 50 + (k + 1)) (n := 6341 + 6 * (k + 1)) (by omega) (by omega) ?_
            exact ih _ (k + 1) _ _ _ _ _ _ _ _ _ _ _ _ _ _ _ _ _ _ _ _ _ _ _ _ _ _ _ _ _ _ _ _ _ _ _ _ _ _ h (pl_i hi) (pl_k hi hL hk hgo) hP hD hS (lv_sub hl [3, 4, 5, 6, 0] rfl)
          · replace h := ifp cq h
            refine lv_aload_n hx hb dL_law_674 rfl (lv_at hl 5 rfl) ?_
            refine lv_iconst (v := 0) hx hb dL_law_675 (by decide) ?_
            obtain ⟨g63, h⟩ := gdn h
            refine va_lald hx hb hK hP 24 2 rfl rfl g63 dL_law_676 ?_
            refine lv_iload hx hb dL_law_677 (lv_at hl 0 rfl) ?_
            refine lv_i2l (v := x61_1.toInt64) hx hb dL_law_679 rfl ?_
            refine W.lcmp hx hb dL_law_680 ?_
            refine lv_if_eq (tgt := 686) hx hb dL_law_681 (by decide) (fun cq => ?_) (fun cq => ?_)
            · replace h := ifp cq h
              refine lv_goto (tgt := 1558) hx hb dL_law_686 (by decide) ?_
              refine lv_iinc (v := (i + 4)) (lv' := [(4, .int (i + 4)), (6, .int x61_1), (5, .int x58_1), (0, .ref b), (1, .ref h5), (2, .ref h6), (3, .ref q3)]) hx hb dL_law_1558 hl (k := 6) rfl rfl (by decide) rfl (fun ls hl => ?_)
              refine lv_goto (tgt := 23) hx hb dL_law_1561 (by decide) ?_
              refine W.widen (k := 50 + (k + 1)) (n := 6341 + 6 * (k + 1)) (by omega) (by omega) ?_
              exact ih _ (k + 1) _ _ _ _ _ _ _ _ _ _ _ _ _ _ _ _ _ _ _ _ _ _ _ _ _ _ _ _ _ _ _ _ _ _ _ _ _ _ h (pl_i hi) (pl_k hi hL hk hgo) hP hD hS (lv_sub hl [3, 4, 5, 6, 0] rfl)
            · replace h := ifn cq h
              refine lv_iconst (v := 0) hx hb dL_law_684 (by decide) ?_
              exact absurd (Option.some.inj h) (by decide)
        · replace h := ifn cq h
          refine lv_iconst (v := 0) hx hb dL_law_667 (by decide) ?_
          exact absurd (Option.some.inj h) (by decide)
      replace h := ifn c8 h
      by_cases c9 : ((xs i.toNatClampNeg) &&& 31) = 9
      · replace h := ifp c9 h
        refine lv_tableIn (x := ((xs i.toNatClampNeg) &&& 31)) hx hb dL_law_39 (by rw [c9]; decide) (by rw [c9]; decide) (off := 650) (tgt := 689) (by rw [c9]; rfl) (by decide) ?_
        refine lv_aload_n hx hb dL_law_689 rfl (lv_at hl 1 rfl) ?_
        refine lv_aload_n hx hb dL_law_690 rfl (lv_at hl 0 rfl) ?_
        refine lv_iload hx hb dL_law_691 (lv_at hl 4 rfl) ?_
        refine lv_iconst (v := 1) hx hb dL_law_693 (by decide) ?_
        refine lv_iadd hx hb dL_law_694 ?_
        obtain ⟨g64, h⟩ := gdn h
        refine va_sld hx hb hX hbl hbA hS g64 dL_law_695 ?_
        refine lv_aload_n hx hb dL_law_696 rfl (lv_at hl 3 rfl) ?_
        obtain ⟨⟨x65_1, x65_2, x65_3, x65_4⟩, hx65, h⟩ := bnd h
        refine pw_goiN (wc := [(h5, .inr (5, [.ref h2, .ref h1, .ref h4, .ref h0, .ref h3])), (h2, .inr (2, [.ref h2_row, .ref h2_ten, .ref h2_pha, .int len, .int kep, .int wfi, .int wmo, .int hun])), (h2_row, .inl (cI, 240, .inl row)), (h2_ten, .inl (cI, 4, .inl ten)), (h2_pha, .inl (cI, 4, .inl pha)), (h1, .inr (1, [.ref h1a, .int nex, .int man])), (h4, .inr (4, [.ref h4_cod, .ref h4_unf, .int tln])), (h4_cod, .inl (cI, 60, .inl cod)), (h4_unf, .inl (cI, 540, .inl unf)), (h0, .inr (0, [.ref h0_cel, .int cls])), (h0_cel, .inl (cI, 160, .inl cel)), (h3, .inr (3, [.ref h3_str, .ref h3_tlr, .ref h3_tsg])), (h3_str, .inl (cI, 40, .inl str)), (h3_tlr, .inl (cI, 240, .inl tlr)), (h3_tsg, .inl (cI, 240, .inl tsg)), (q3, .inl (cJ, 1, .inr (.inl f3)))]) (w1 := [(h5, .inr (5, [.ref h2, .ref h1, .ref h4, .ref h0, .ref h3])), (h2, .inr (2, [.ref h2_row, .ref h2_ten, .ref h2_pha, .int len, .int kep, .int wfi, .int wmo, .int hun])), (h2_row, .inl (cI, 240, .inl row)), (h2_ten, .inl (cI, 4, .inl ten)), (h2_pha, .inl (cI, 4, .inl pha)), (h1, .inr (1, [.ref h1a, .int nex, .int man])), (h4, .inr (4, [.ref h4_cod, .ref h4_unf, .int x65_3])), (h4_cod, .inl (cI, 60, .inl x65_2)), (h4_unf, .inl (cI, 540, .inl unf)), (h0, .inr (0, [.ref h0_cel, .int cls])), (h0_cel, .inl (cI, 160, .inl cel)), (h3, .inr (3, [.ref h3_str, .ref h3_tlr, .ref h3_tsg])), (h3_str, .inl (cI, 40, .inl str)), (h3_tlr, .inl (cI, 240, .inl tlr)), (h3_tsg, .inl (cI, 240, .inl tsg)), (q3, .inl (cJ, 1, .inr (.inl x65_4)))]) (w2 := [(h5, .inr (5, [.ref h2, .ref h1, .ref h4, .ref h0, .ref h3])), (h2, .inr (2, [.ref h2_row, .ref h2_ten, .ref h2_pha, .int len, .int kep, .int wfi, .int wmo, .int hun])), (h2_row, .inl (cI, 240, .inl row)), (h2_ten, .inl (cI, 4, .inl ten)), (h2_pha, .inl (cI, 4, .inl pha)), (h1, .inr (1, [.ref h1a, .int nex, .int man])), (h4, .inr (4, [.ref h4_cod, .ref h4_unf, .int x65_3])), (h4_cod, .inl (cI, 60, .inl x65_2)), (h4_unf, .inl (cI, 540, .inl unf)), (h0, .inr (0, [.ref h0_cel, .int cls])), (h0_cel, .inl (cI, 160, .inl cel)), (h3, .inr (3, [.ref h3_str, .ref h3_tlr, .ref h3_tsg])), (h3_str, .inl (cI, 40, .inl str)), (h3_tlr, .inl (cI, 240, .inl tlr)), (h3_tsg, .inl (cI, 240, .inl tsg)), (h6, .inr (6, [.int thr, .ref h6_ms, .ref h6_mv, .int svm, .ref h6_mb, .int mln, .ref h6_mc, .ref h6_mg, .ref h6_mt, .ref h6_ml, .int mat, .int wel, .ref h6_mr, .int rdm, .long hsh])), (h6_ms, .inl (cI, 253, .inl ms)), (h6_mv, .inl (cI, 1518, .inl mv)), (h6_mb, .inl (cI, 60, .inl mb)), (h6_mc, .inl (cI, 160, .inl mc)), (h6_mg, .inl (cI, 160, .inl mg)), (h6_mt, .inl (cI, 240, .inl mt)), (h6_ml, .inl (cI, 240, .inl ml)), (h6_mr, .inl (cI, 600, .inl mr)), (q3, .inl (cJ, 1, .inr (.inl x65_4)))]) (vx_runSW (As := [.ref h5, .int (xs (i + 1).toNatClampNeg), .ref q3]) (rest := []) ⟨hx, hb, hml, hown, hts⟩ (mL_append l D cI cO cJ h5 h2 h2_row h2_ten h2_pha h1 h1a h4 h4_cod h4_unf h0 h0_cel h3 h3_str h3_tlr h3_tsg q3 H.size row ten pha len kep wfi wmo hun nex man cod unf tln cel cls str tlr tsg f3 (xs (i + 1).toNatClampNeg) _ hst hx65) (vx_cwSW 3 hts gL_law_L_append rfl rfl rfl (by decide +kernel) ⟨Nat.le_of_ble_eq_true rfl, Nat.le_of_ble_eq_true rfl⟩) (pl_preS hK hN ((px_X.kept hX9 hS.2.1).narrow (pw_free hD hS hA [0, 1, 2, 3, 4, 5, 6, 7, 8, 9, 10, 11, 12, 13, 14, 24] rfl)) hT hC9 (pw_sub hP [0, 1, 2, 3, 4, 5, 6, 7, 8, 9, 10, 11, 12, 13, 14, 24] rfl) (pw_subD hD [0, 1, 2, 3, 4, 5, 6, 7, 8, 9, 10, 11, 12, 13, 14, 24] (by decide) rfl)) rfl rfl hl.1 rfl (lv_room (Nat.le_of_ble_eq_true rfl)) dL_law_697 ⟨by have := hk; show _ ≤ (601024 : Nat); omega, by have := hk; show _ ≤ (7293034 : Nat); omega⟩) hP hD hS hA [0, 1, 2, 3, 4, 5, 6, 7, 8, 9, 10, 11, 12, 13, 14, 24] [15, 16, 17, 18, 19, 20, 21, 22, 23] [9, 10, 11, 12, 13, 14, 15, 16, 17, 18, 19, 20, 21, 22, 23, 0, 1, 2, 3, 4, 5, 6, 7, 8, 24] rfl rfl (by decide) (by decide) (by decide) rfl (fun H locs hP hD hS => ?_)
        refine lv_istore (lv' := [(5, .int x65_1), (0, .ref b), (1, .ref h5), (2, .ref h6), (3, .ref q3), (4, .int i)]) hx hb dL_law_700 hl (by decide) rfl (fun ls hl => ?_)
        refine lv_aload_n hx hb dL_law_702 rfl (lv_at hl 3 rfl) ?_
        refine lv_aload_n hx hb dL_law_703 rfl (lv_at hl 1 rfl) ?_
        refine lv_iload hx hb dL_law_704 (lv_at hl 5 rfl) ?_
        refine lv_iconst (v := 1) hx hb dL_law_706 (by decide) ?_
        refine lv_iadd hx hb dL_law_707 ?_
        obtain ⟨g66, h⟩ := gdn h
        refine va_sld hx hb hX hbl hbA hS g66 dL_law_708 ?_
        obtain ⟨⟨x67_1, x67_2, x67_3, x67_4⟩, hx67, h⟩ := bnd h
        refine pw_goi (wc := [(h6, .inr (6, [.int thr, .ref h6_ms, .ref h6_mv, .int svm, .ref h6_mb, .int mln, .ref h6_mc, .ref h6_mg, .ref h6_mt, .ref h6_ml, .int mat, .int wel, .ref h6_mr, .int rdm, .long hsh])), (h6_ms, .inl (cI, 253, .inl ms)), (h6_mv, .inl (cI, 1518, .inl mv)), (h6_mb, .inl (cI, 60, .inl mb)), (h6_mc, .inl (cI, 160, .inl mc)), (h6_mg, .inl (cI, 160, .inl mg)), (h6_mt, .inl (cI, 240, .inl mt)), (h6_ml, .inl (cI, 240, .inl ml)), (h6_mr, .inl (cI, 600, .inl mr))]) (w1 := [(h6, .inr (6, [.int x67_2, .ref h6_ms, .ref h6_mv, .int svm, .ref h6_mb, .int x67_4, .ref h6_mc, .ref h6_mg, .ref h6_mt, .ref h6_ml, .int mat, .int wel, .ref h6_mr, .int rdm, .long hsh])), (h6_ms, .inl (cI, 253, .inl ms)), (h6_mv, .inl (cI, 1518, .inl mv)), (h6_mb, .inl (cI, 60, .inl x67_3)), (h6_mc, .inl (cI, 160, .inl mc)), (h6_mg, .inl (cI, 160, .inl mg)), (h6_mt, .inl (cI, 240, .inl mt)), (h6_ml, .inl (cI, 240, .inl ml)), (h6_mr, .inl (cI, 600, .inl mr))]) (w2 := [(h5, .inr (5, [.ref h2, .ref h1, .ref h4, .ref h0, .ref h3])), (h2, .inr (2, [.ref h2_row, .ref h2_ten, .ref h2_pha, .int len, .int kep, .int wfi, .int wmo, .int hun])), (h2_row, .inl (cI, 240, .inl row)), (h2_ten, .inl (cI, 4, .inl ten)), (h2_pha, .inl (cI, 4, .inl pha)), (h1, .inr (1, [.ref h1a, .int nex, .int man])), (h4, .inr (4, [.ref h4_cod, .ref h4_unf, .int x65_3])), (h4_cod, .inl (cI, 60, .inl x65_2)), (h4_unf, .inl (cI, 540, .inl unf)), (h0, .inr (0, [.ref h0_cel, .int cls])), (h0_cel, .inl (cI, 160, .inl cel)), (h3, .inr (3, [.ref h3_str, .ref h3_tlr, .ref h3_tsg])), (h3_str, .inl (cI, 40, .inl str)), (h3_tlr, .inl (cI, 240, .inl tlr)), (h3_tsg, .inl (cI, 240, .inl tsg)), (h6, .inr (6, [.int x67_2, .ref h6_ms, .ref h6_mv, .int svm, .ref h6_mb, .int x67_4, .ref h6_mc, .ref h6_mg, .ref h6_mt, .ref h6_ml, .int mat, .int wel, .ref h6_mr, .int rdm, .long hsh])), (h6_ms, .inl (cI, 253, .inl ms)), (h6_mv, .inl (cI, 1518, .inl mv)), (h6_mb, .inl (cI, 60, .inl x67_3)), (h6_mc, .inl (cI, 160, .inl mc)), (h6_mg, .inl (cI, 160, .inl mg)), (h6_mt, .inl (cI, 240, .inl mt)), (h6_ml, .inl (cI, 240, .inl ml)), (h6_mr, .inl (cI, 600, .inl mr)), (q3, .inl (cJ, 1, .inr (.inl x65_4)))]) (va_runV (As := [.int (xs (i + 1).toNatClampNeg)]) (rest := []) ⟨hx, hb, hml, hown, hts⟩ (mX6_append l D cI cO cJ h6 h6_ms h6_mv h6_mb h6_mc h6_mg h6_mt h6_ml h6_mr H.size thr ms mv svm mb mln mc mg mt ml mat wel mr rdm hsh (xs (i + 1).toNatClampNeg) _ hx67) (cwV 1 hts gL_law_X6_append rfl rfl rfl (by decide +kernel) ⟨Nat.le_of_ble_eq_true rfl, Nat.le_of_ble_eq_true rfl⟩) (pw_preV hK hN (pw_sub hP [15, 16, 17, 18, 19, 20, 21, 22, 23] rfl) (pw_subD hD [15, 16, 17, 18, 19, 20, 21, 22, 23] (by decide) rfl) (ci := 6) (q0 := 0) rfl rfl) rfl rfl hl.1 rfl (lv_room (Nat.le_of_ble_eq_true rfl)) dL_law_709 ⟨by have := hk; show _ ≤ (601024 : Nat); omega, by have := hk; show _ ≤ (7293034 : Nat); omega⟩) hP hD hS hA [15, 16, 17, 18, 19, 20, 21, 22, 23] [0, 1, 2, 3, 4, 5, 6, 7, 8, 9, 10, 11, 12, 13, 14, 24] [0, 1, 2, 3, 4, 5, 6, 7, 8, 9, 10, 11, 12, 13, 14, 16, 17, 18, 19, 20, 21, 22, 23, 24, 15] rfl rfl (by decide) (by decide) (by decide) rfl (fun H locs hP hD hS => ?_)
        refine lv_istore (lv' := [(6, .int x67_1), (5, .int x65_1), (0, .ref b), (1, .ref h5), (2, .ref h6), (3, .ref q3), (4, .int i)]) hx hb dL_law_712 hl (by decide) rfl (fun ls hl => ?_)
        refine lv_aload_n hx hb dL_law_714 rfl (lv_at hl 4 rfl) ?_
        obtain ⟨x68, hx68, h⟩ := bnd h
        refine pw_goi (wc := [(h6, .inr (6, [.int x67_2, .ref h6_ms, .ref h6_mv, .int svm, .ref h6_mb, .int x67_4, .ref h6_mc, .ref h6_mg, .ref h6_mt, .ref h6_ml, .int mat, .int wel, .ref h6_mr, .int rdm, .long hsh])), (h6_ms, .inl (cI, 253, .inl ms)), (h6_mv, .inl (cI, 1518, .inl mv)), (h6_mb, .inl (cI, 60, .inl x67_3)), (h6_mc, .inl (cI, 160, .inl mc)), (h6_mg, .inl (cI, 160, .inl mg)), (h6_mt, .inl (cI, 240, .inl mt)), (h6_ml, .inl (cI, 240, .inl ml)), (h6_mr, .inl (cI, 600, .inl mr))]) (w1 := [(h6, .inr (6, [.int x67_2, .ref h6_ms, .ref h6_mv, .int svm, .ref h6_mb, .int x67_4, .ref h6_mc, .ref h6_mg, .ref h6_mt, .ref h6_ml, .int mat, .int wel, .ref h6_mr, .int rdm, .long hsh])), (h6_ms, .inl (cI, 253, .inl ms)), (h6_mv, .inl (cI, 1518, .inl mv)), (h6_mb, .inl (cI, 60, .inl x67_3)), (h6_mc, .inl (cI, 160, .inl mc)), (h6_mg, .inl (cI, 160, .inl mg)), (h6_mt, .inl (cI, 240, .inl mt)), (h6_ml, .inl (cI, 240, .inl ml)), (h6_mr, .inl (cI, 600, .inl mr))]) (w2 := [(h5, .inr (5, [.ref h2, .ref h1, .ref h4, .ref h0, .ref h3])), (h2, .inr (2, [.ref h2_row, .ref h2_ten, .ref h2_pha, .int len, .int kep, .int wfi, .int wmo, .int hun])), (h2_row, .inl (cI, 240, .inl row)), (h2_ten, .inl (cI, 4, .inl ten)), (h2_pha, .inl (cI, 4, .inl pha)), (h1, .inr (1, [.ref h1a, .int nex, .int man])), (h4, .inr (4, [.ref h4_cod, .ref h4_unf, .int x65_3])), (h4_cod, .inl (cI, 60, .inl x65_2)), (h4_unf, .inl (cI, 540, .inl unf)), (h0, .inr (0, [.ref h0_cel, .int cls])), (h0_cel, .inl (cI, 160, .inl cel)), (h3, .inr (3, [.ref h3_str, .ref h3_tlr, .ref h3_tsg])), (h3_str, .inl (cI, 40, .inl str)), (h3_tlr, .inl (cI, 240, .inl tlr)), (h3_tsg, .inl (cI, 240, .inl tsg)), (h6, .inr (6, [.int x67_2, .ref h6_ms, .ref h6_mv, .int svm, .ref h6_mb, .int x67_4, .ref h6_mc, .ref h6_mg, .ref h6_mt, .ref h6_ml, .int mat, .int wel, .ref h6_mr, .int rdm, .long hsh])), (h6_ms, .inl (cI, 253, .inl ms)), (h6_mv, .inl (cI, 1518, .inl mv)), (h6_mb, .inl (cI, 60, .inl x67_3)), (h6_mc, .inl (cI, 160, .inl mc)), (h6_mg, .inl (cI, 160, .inl mg)), (h6_mt, .inl (cI, 240, .inl mt)), (h6_ml, .inl (cI, 240, .inl ml)), (h6_mr, .inl (cI, 600, .inl mr)), (q3, .inl (cJ, 1, .inr (.inl x65_4)))]) (va_runV (As := []) (rest := []) ⟨hx, hb, hml, hown, hts⟩ (mX6_thrown l D cI cO cJ h6 h6_ms h6_mv h6_mb h6_mc h6_mg h6_mt h6_ml h6_mr H.size x67_2 ms mv svm x67_3 x67_4 mc mg mt ml mat wel mr rdm hsh _ hx68) (cwV 0 hts gL_law_X6_thrown rfl rfl rfl (by decide +kernel) ⟨Nat.le_of_ble_eq_true rfl, Nat.le_of_ble_eq_true rfl⟩) (pw_preV hK hN (pw_sub hP [15, 16, 17, 18, 19, 20, 21, 22, 23] rfl) (pw_subD hD [15, 16, 17, 18, 19, 20, 21, 22, 23] (by decide) rfl) (ci := 6) (q0 := 0) rfl rfl) rfl rfl hl.1 rfl (lv_room (Nat.le_of_ble_eq_true rfl)) dL_law_715 ⟨by have := hk; show _ ≤ (601024 : Nat); omega, by have := hk; show _ ≤ (7293034 : Nat); omega⟩) hP hD hS hA [15, 16, 17, 18, 19, 20, 21, 22, 23] [0, 1, 2, 3, 4, 5, 6, 7, 8, 9, 10, 11, 12, 13, 14, 24] [0, 1, 2, 3, 4, 5, 6, 7, 8, 9, 10, 11, 12, 13, 14, 16, 17, 18, 19, 20, 21, 22, 23, 24, 15] rfl rfl (by decide) (by decide) (by decide) rfl (fun H locs hP hD hS => ?_)
        refine lv_iload hx hb dL_law_718 (lv_at hl 1 rfl) ?_
        refine lv_icmp_eq (tgt := 725) hx hb dL_law_720 (by decide) (fun cq => ?_) (fun cq => ?_)
        · replace h := ifp cq h
          refine lv_iload hx hb dL_law_725 (lv_at hl 1 rfl) ?_
          refine lv_if_ne (tgt := 742) hx hb dL_law_727 (by decide) (fun cq => ?_) (fun cq => ?_)
          · replace h := ifn cq h
            refine lv_goto (tgt := 1558) hx hb dL_law_742 (by decide) ?_
            refine lv_iinc (v := (i + 4)) (lv' := [(4, .int (i + 4)), (6, .int x67_1), (5, .int x65_1), (0, .ref b), (1, .ref h5), (2, .ref h6), (3, .ref q3)]) hx hb dL_law_1558 hl (k := 6) rfl rfl (by decide) rfl (fun ls hl => ?_)
            refine lv_goto (tgt := 23) hx hb dL_law_1561 (by decide) ?_
            refine W.widen (k := 50 + (k + 1)) (n := 6341 + 6 * (k + 1)) (by omega) (by omega) ?_
            exact ih _ (k + 1) _ _ _ _ _ _ _ _ _ _ _ _ _ _ _ _ _ _ _ _ _ _ _ _ _ _ _ _ _ _ _ _ _ _ _ _ _ _ h (pl_i hi) (pl_k hi hL hk hgo) hP hD hS (lv_sub hl [3, 4, 5, 6, 0] rfl)
          · replace h := ifp cq h
            refine lv_aload_n hx hb dL_law_730 rfl (lv_at hl 5 rfl) ?_
            refine lv_iconst (v := 0) hx hb dL_law_731 (by decide) ?_
            obtain ⟨g69, h⟩ := gdn h
            refine va_lald hx hb hK hP 24 2 rfl rfl g69 dL_law_732 ?_
            refine lv_iload hx hb dL_law_733 (lv_at hl 0 rfl) ?_
            refine lv_i2l (v := x67_1.toInt64) hx hb dL_law_735 rfl ?_
            refine W.lcmp hx hb dL_law_736 ?_
            refine lv_if_eq (tgt := 742) hx hb dL_law_737 (by decide) (fun cq => ?_) (fun cq => ?_)
            · replace h := ifp cq h
              refine lv_goto (tgt := 1558) hx hb dL_law_742 (by decide) ?_
              refine lv_iinc (v := (i + 4)) (lv' := [(4, .int (i + 4)), (6, .int x67_1), (5, .int x65_1), (0, .ref b), (1, .ref h5), (2, .ref h6), (3, .ref q3)]) hx hb dL_law_1558 hl (k := 6) rfl rfl (by decide) rfl (fun ls hl => ?_)
              refine lv_goto (tgt := 23) hx hb dL_law_1561 (by decide) ?_
              refine W.widen (k := 50 + (k + 1)) (n := 6341 + 6 * (k + 1)) (by omega) (by omega) ?_
              exact ih _ (k + 1) _ _ _ _ _ _ _ _ _ _ _ _ _ _ _ _ _ _ _ _ _ _ _ _ _ _ _ _ _ _ _ _ _ _ _ _ _ _ h (pl_i hi) (pl_k hi hL hk hgo) hP hD hS (lv_sub hl [3, 4, 5, 6, 0] rfl)
            · replace h := ifn cq h
              refine lv_iconst (v := 0) hx hb dL_law_740 (by decide) ?_
              exact absurd (Option.some.inj h) (by decide)
        · replace h := ifn cq h
          refine lv_iconst (v := 0) hx hb dL_law_723 (by decide) ?_
          exact absurd (Option.some.inj h) (by decide)
      replace h := ifn c9 h
      by_cases c10 : ((xs i.toNatClampNeg) &&& 31) = 10
      · replace h := ifp c10 h
        refine lv_tableIn (x := ((xs i.toNatClampNeg) &&& 31)) hx hb dL_law_39 (by rw [c10]; decide) (by rw [c10]; decide) (off := 706) (tgt := 745) (by rw [c10]; rfl) (by decide) ?_
        refine lv_aload_n hx hb dL_law_745 rfl (lv_at hl 1 rfl) ?_
        obtain ⟨⟨x70_1, x70_2⟩, hx70, h⟩ := bnd h
        refine pw_goi (wc := [(h5, .inr (5, [.ref h2, .ref h1, .ref h4, .ref h0, .ref h3])), (h2, .inr (2, [.ref h2_row, .ref h2_ten, .ref h2_pha, .int len, .int kep, .int wfi, .int wmo, .int hun])), (h2_row, .inl (cI, 240, .inl row)), (h2_ten, .inl (cI, 4, .inl ten)), (h2_pha, .inl (cI, 4, .inl pha)), (h1, .inr (1, [.ref h1a, .int nex, .int man])), (h4, .inr (4, [.ref h4_cod, .ref h4_unf, .int tln])), (h4_cod, .inl (cI, 60, .inl cod)), (h4_unf, .inl (cI, 540, .inl unf)), (h0, .inr (0, [.ref h0_cel, .int cls])), (h0_cel, .inl (cI, 160, .inl cel)), (h3, .inr (3, [.ref h3_str, .ref h3_tlr, .ref h3_tsg])), (h3_str, .inl (cI, 40, .inl str)), (h3_tlr, .inl (cI, 240, .inl tlr)), (h3_tsg, .inl (cI, 240, .inl tsg))]) (w1 := [(h5, .inr (5, [.ref h2, .ref h1, .ref h4, .ref h0, .ref h3])), (h2, .inr (2, [.ref h2_row, .ref h2_ten, .ref h2_pha, .int len, .int kep, .int wfi, .int wmo, .int hun])), (h2_row, .inl (cI, 240, .inl row)), (h2_ten, .inl (cI, 4, .inl ten)), (h2_pha, .inl (cI, 4, .inl pha)), (h1, .inr (1, [.ref h1a, .int nex, .int man])), (h4, .inr (4, [.ref h4_cod, .ref h4_unf, .int x70_2])), (h4_cod, .inl (cI, 60, .inl cod)), (h4_unf, .inl (cI, 540, .inl unf)), (h0, .inr (0, [.ref h0_cel, .int cls])), (h0_cel, .inl (cI, 160, .inl cel)), (h3, .inr (3, [.ref h3_str, .ref h3_tlr, .ref h3_tsg])), (h3_str, .inl (cI, 40, .inl str)), (h3_tlr, .inl (cI, 240, .inl tlr)), (h3_tsg, .inl (cI, 240, .inl tsg))]) (w2 := [(h5, .inr (5, [.ref h2, .ref h1, .ref h4, .ref h0, .ref h3])), (h2, .inr (2, [.ref h2_row, .ref h2_ten, .ref h2_pha, .int len, .int kep, .int wfi, .int wmo, .int hun])), (h2_row, .inl (cI, 240, .inl row)), (h2_ten, .inl (cI, 4, .inl ten)), (h2_pha, .inl (cI, 4, .inl pha)), (h1, .inr (1, [.ref h1a, .int nex, .int man])), (h4, .inr (4, [.ref h4_cod, .ref h4_unf, .int x70_2])), (h4_cod, .inl (cI, 60, .inl cod)), (h4_unf, .inl (cI, 540, .inl unf)), (h0, .inr (0, [.ref h0_cel, .int cls])), (h0_cel, .inl (cI, 160, .inl cel)), (h3, .inr (3, [.ref h3_str, .ref h3_tlr, .ref h3_tsg])), (h3_str, .inl (cI, 40, .inl str)), (h3_tlr, .inl (cI, 240, .inl tlr)), (h3_tsg, .inl (cI, 240, .inl tsg)), (h6, .inr (6, [.int thr, .ref h6_ms, .ref h6_mv, .int svm, .ref h6_mb, .int mln, .ref h6_mc, .ref h6_mg, .ref h6_mt, .ref h6_ml, .int mat, .int wel, .ref h6_mr, .int rdm, .long hsh])), (h6_ms, .inl (cI, 253, .inl ms)), (h6_mv, .inl (cI, 1518, .inl mv)), (h6_mb, .inl (cI, 60, .inl mb)), (h6_mc, .inl (cI, 160, .inl mc)), (h6_mg, .inl (cI, 160, .inl mg)), (h6_mt, .inl (cI, 240, .inl mt)), (h6_ml, .inl (cI, 240, .inl ml)), (h6_mr, .inl (cI, 600, .inl mr)), (q3, .inl (cJ, 1, .inr (.inl f3)))]) (va_runV (As := []) (rest := []) ⟨hx, hb, hml, hown, hts⟩ (mX5_clearBuffer l D cI cO cJ h5 h2 h2_row h2_ten h2_pha h1 h1a h4 h4_cod h4_unf h0 h0_cel h3 h3_str h3_tlr h3_tsg H.size row ten pha len kep wfi wmo hun nex man cod unf tln cel cls str tlr tsg _ hx70) (cwV 0 hts gL_law_X5_clearBuffer rfl rfl rfl (by decide +kernel) ⟨Nat.le_of_ble_eq_true rfl, Nat.le_of_ble_eq_true rfl⟩) (pw_preV hK hN (pw_sub hP [0, 1, 2, 3, 4, 5, 6, 7, 8, 9, 10, 11, 12, 13, 14] rfl) (pw_subD hD [0, 1, 2, 3, 4, 5, 6, 7, 8, 9, 10, 11, 12, 13, 14] (by decide) rfl) (ci := 5) (q0 := 0) rfl rfl) rfl rfl hl.1 rfl (lv_room (Nat.le_of_ble_eq_true rfl)) dL_law_746 ⟨by have := hk; show _ ≤ (601024 : Nat); omega, by have := hk; show _ ≤ (7293034 : Nat); omega⟩) hP hD hS hA [0, 1, 2, 3, 4, 5, 6, 7, 8, 9, 10, 11, 12, 13, 14] [15, 16, 17, 18, 19, 20, 21, 22, 23, 24] [10, 11, 12, 13, 14, 15, 16, 17, 18, 19, 20, 21, 22, 23, 24, 0, 1, 2, 3, 4, 5, 6, 7, 8, 9] rfl rfl (by decide) (by decide) (by decide) rfl (fun H locs hP hD hS => ?_)
        refine lv_aload_n hx hb dL_law_749 rfl (lv_at hl 2 rfl) ?_
        obtain ⟨⟨x71_1, x71_2, x71_3⟩, hx71, h⟩ := bnd h
        refine pw_goi (wc := [(h6, .inr (6, [.int thr, .ref h6_ms, .ref h6_mv, .int svm, .ref h6_mb, .int mln, .ref h6_mc, .ref h6_mg, .ref h6_mt, .ref h6_ml, .int mat, .int wel, .ref h6_mr, .int rdm, .long hsh])), (h6_ms, .inl (cI, 253, .inl ms)), (h6_mv, .inl (cI, 1518, .inl mv)), (h6_mb, .inl (cI, 60, .inl mb)), (h6_mc, .inl (cI, 160, .inl mc)), (h6_mg, .inl (cI, 160, .inl mg)), (h6_mt, .inl (cI, 240, .inl mt)), (h6_ml, .inl (cI, 240, .inl ml)), (h6_mr, .inl (cI, 600, .inl mr))]) (w1 := [(h6, .inr (6, [.int x71_2, .ref h6_ms, .ref h6_mv, .int svm, .ref h6_mb, .int x71_3, .ref h6_mc, .ref h6_mg, .ref h6_mt, .ref h6_ml, .int mat, .int wel, .ref h6_mr, .int rdm, .long hsh])), (h6_ms, .inl (cI, 253, .inl ms)), (h6_mv, .inl (cI, 1518, .inl mv)), (h6_mb, .inl (cI, 60, .inl mb)), (h6_mc, .inl (cI, 160, .inl mc)), (h6_mg, .inl (cI, 160, .inl mg)), (h6_mt, .inl (cI, 240, .inl mt)), (h6_ml, .inl (cI, 240, .inl ml)), (h6_mr, .inl (cI, 600, .inl mr))]) (w2 := [(h5, .inr (5, [.ref h2, .ref h1, .ref h4, .ref h0, .ref h3])), (h2, .inr (2, [.ref h2_row, .ref h2_ten, .ref h2_pha, .int len, .int kep, .int wfi, .int wmo, .int hun])), (h2_row, .inl (cI, 240, .inl row)), (h2_ten, .inl (cI, 4, .inl ten)), (h2_pha, .inl (cI, 4, .inl pha)), (h1, .inr (1, [.ref h1a, .int nex, .int man])), (h4, .inr (4, [.ref h4_cod, .ref h4_unf, .int x70_2])), (h4_cod, .inl (cI, 60, .inl cod)), (h4_unf, .inl (cI, 540, .inl unf)), (h0, .inr (0, [.ref h0_cel, .int cls])), (h0_cel, .inl (cI, 160, .inl cel)), (h3, .inr (3, [.ref h3_str, .ref h3_tlr, .ref h3_tsg])), (h3_str, .inl (cI, 40, .inl str)), (h3_tlr, .inl (cI, 240, .inl tlr)), (h3_tsg, .inl (cI, 240, .inl tsg)), (h6, .inr (6, [.int x71_2, .ref h6_ms, .ref h6_mv, .int svm, .ref h6_mb, .int x71_3, .ref h6_mc, .ref h6_mg, .ref h6_mt, .ref h6_ml, .int mat, .int wel, .ref h6_mr, .int rdm, .long hsh])), (h6_ms, .inl (cI, 253, .inl ms)), (h6_mv, .inl (cI, 1518, .inl mv)), (h6_mb, .inl (cI, 60, .inl mb)), (h6_mc, .inl (cI, 160, .inl mc)), (h6_mg, .inl (cI, 160, .inl mg)), (h6_mt, .inl (cI, 240, .inl mt)), (h6_ml, .inl (cI, 240, .inl ml)), (h6_mr, .inl (cI, 600, .inl mr)), (q3, .inl (cJ, 1, .inr (.inl f3)))]) (va_runV (As := []) (rest := [.int x70_1]) ⟨hx, hb, hml, hown, hts⟩ (mX6_clearBuffer l D cI cO cJ h6 h6_ms h6_mv h6_mb h6_mc h6_mg h6_mt h6_ml h6_mr H.size thr ms mv svm mb mln mc mg mt ml mat wel mr rdm hsh _ hx71) (cwV 0 hts gL_law_X6_clearBuffer rfl rfl rfl (by decide +kernel) ⟨Nat.le_of_ble_eq_true rfl, Nat.le_of_ble_eq_true rfl⟩) (pw_preV hK hN (pw_sub hP [15, 16, 17, 18, 19, 20, 21, 22, 23] rfl) (pw_subD hD [15, 16, 17, 18, 19, 20, 21, 22, 23] (by decide) rfl) (ci := 6) (q0 := 0) rfl rfl) rfl rfl hl.1 rfl (lv_room (Nat.le_of_ble_eq_true rfl)) dL_law_750 ⟨by have := hk; show _ ≤ (601024 : Nat); omega, by have := hk; show _ ≤ (7293034 : Nat); omega⟩) hP hD hS hA [15, 16, 17, 18, 19, 20, 21, 22, 23] [0, 1, 2, 3, 4, 5, 6, 7, 8, 9, 10, 11, 12, 13, 14, 24] [0, 1, 2, 3, 4, 5, 6, 7, 8, 9, 10, 11, 12, 13, 14, 16, 17, 18, 19, 20, 21, 22, 23, 24, 15] rfl rfl (by decide) (by decide) (by decide) rfl (fun H locs hP hD hS => ?_)
        refine lv_icmp_eq (tgt := 1558) hx hb dL_law_753 (by decide) (fun cq => ?_) (fun cq => ?_)
        · replace h := ifp cq h
          refine lv_iinc (v := (i + 4)) (lv' := [(4, .int (i + 4)), (0, .ref b), (1, .ref h5), (2, .ref h6), (3, .ref q3)]) hx hb dL_law_1558 hl (k := 4) rfl rfl (by decide) rfl (fun ls hl => ?_)
          refine lv_goto (tgt := 23) hx hb dL_law_1561 (by decide) ?_
          refine W.widen (k := 50 + (k + 1)) (n := 6341 + 6 * (k + 1)) (by omega) (by omega) ?_
          exact ih _ (k + 1) _ _ _ _ _ _ _ _ _ _ _ _ _ _ _ _ _ _ _ _ _ _ _ _ _ _ _ _ _ _ _ _ _ _ _ _ _ _ h (pl_i hi) (pl_k hi hL hk hgo) hP hD hS (lv_sub hl [1, 2, 3, 4, 0] rfl)
        · replace h := ifn cq h
          refine lv_iconst (v := 0) hx hb dL_law_756 (by decide) ?_
          exact absurd (Option.some.inj h) (by decide)
      replace h := ifn c10 h
      by_cases c11 : ((xs i.toNatClampNeg) &&& 31) = 11
      · replace h := ifp c11 h
        refine lv_tableIn (x := ((xs i.toNatClampNeg) &&& 31)) hx hb dL_law_39 (by rw [c11]; decide) (by rw [c11]; decide) (off := 719) (tgt := 758) (by rw [c11]; rfl) (by decide) ?_
        refine lv_aload_n hx hb dL_law_758 rfl (lv_at hl 1 rfl) ?_
        obtain ⟨x72, hx72, h⟩ := bnd h
        refine pw_goi (wc := [(h5, .inr (5, [.ref h2, .ref h1, .ref h4, .ref h0, .ref h3])), (h2, .inr (2, [.ref h2_row, .ref h2_ten, .ref h2_pha, .int len, .int kep, .int wfi, .int wmo, .int hun])), (h2_row, .inl (cI, 240, .inl row)), (h2_ten, .inl (cI, 4, .inl ten)), (h2_pha, .inl (cI, 4, .inl pha)), (h1, .inr (1, [.ref h1a, .int nex, .int man])), (h4, .inr (4, [.ref h4_cod, .ref h4_unf, .int tln])), (h4_cod, .inl (cI, 60, .inl cod)), (h4_unf, .inl (cI, 540, .inl unf)), (h0, .inr (0, [.ref h0_cel, .int cls])), (h0_cel, .inl (cI, 160, .inl cel)), (h3, .inr (3, [.ref h3_str, .ref h3_tlr, .ref h3_tsg])), (h3_str, .inl (cI, 40, .inl str)), (h3_tlr, .inl (cI, 240, .inl tlr)), (h3_tsg, .inl (cI, 240, .inl tsg))]) (w1 := [(h5, .inr (5, [.ref h2, .ref h1, .ref h4, .ref h0, .ref h3])), (h2, .inr (2, [.ref h2_row, .ref h2_ten, .ref h2_pha, .int len, .int kep, .int wfi, .int wmo, .int hun])), (h2_row, .inl (cI, 240, .inl row)), (h2_ten, .inl (cI, 4, .inl ten)), (h2_pha, .inl (cI, 4, .inl pha)), (h1, .inr (1, [.ref h1a, .int nex, .int man])), (h4, .inr (4, [.ref h4_cod, .ref h4_unf, .int tln])), (h4_cod, .inl (cI, 60, .inl cod)), (h4_unf, .inl (cI, 540, .inl unf)), (h0, .inr (0, [.ref h0_cel, .int cls])), (h0_cel, .inl (cI, 160, .inl cel)), (h3, .inr (3, [.ref h3_str, .ref h3_tlr, .ref h3_tsg])), (h3_str, .inl (cI, 40, .inl str)), (h3_tlr, .inl (cI, 240, .inl tlr)), (h3_tsg, .inl (cI, 240, .inl tsg))]) (w2 := [(h5, .inr (5, [.ref h2, .ref h1, .ref h4, .ref h0, .ref h3])), (h2, .inr (2, [.ref h2_row, .ref h2_ten, .ref h2_pha, .int len, .int kep, .int wfi, .int wmo, .int hun])), (h2_row, .inl (cI, 240, .inl row)), (h2_ten, .inl (cI, 4, .inl ten)), (h2_pha, .inl (cI, 4, .inl pha)), (h1, .inr (1, [.ref h1a, .int nex, .int man])), (h4, .inr (4, [.ref h4_cod, .ref h4_unf, .int tln])), (h4_cod, .inl (cI, 60, .inl cod)), (h4_unf, .inl (cI, 540, .inl unf)), (h0, .inr (0, [.ref h0_cel, .int cls])), (h0_cel, .inl (cI, 160, .inl cel)), (h3, .inr (3, [.ref h3_str, .ref h3_tlr, .ref h3_tsg])), (h3_str, .inl (cI, 40, .inl str)), (h3_tlr, .inl (cI, 240, .inl tlr)), (h3_tsg, .inl (cI, 240, .inl tsg)), (h6, .inr (6, [.int thr, .ref h6_ms, .ref h6_mv, .int svm, .ref h6_mb, .int mln, .ref h6_mc, .ref h6_mg, .ref h6_mt, .ref h6_ml, .int mat, .int wel, .ref h6_mr, .int rdm, .long hsh])), (h6_ms, .inl (cI, 253, .inl ms)), (h6_mv, .inl (cI, 1518, .inl mv)), (h6_mb, .inl (cI, 60, .inl mb)), (h6_mc, .inl (cI, 160, .inl mc)), (h6_mg, .inl (cI, 160, .inl mg)), (h6_mt, .inl (cI, 240, .inl mt)), (h6_ml, .inl (cI, 240, .inl ml)), (h6_mr, .inl (cI, 600, .inl mr)), (q3, .inl (cJ, 1, .inr (.inl f3)))]) (va_runV (As := []) (rest := []) ⟨hx, hb, hml, hown, hts⟩ (mX5_firstError l D cI cO cJ h5 h2 h2_row h2_ten h2_pha h1 h1a h4 h4_cod h4_unf h0 h0_cel h3 h3_str h3_tlr h3_tsg H.size row ten pha len kep wfi wmo hun nex man cod unf tln cel cls str tlr tsg _ hx72) (cwV 0 hts gL_law_X5_firstError rfl rfl rfl (by decide +kernel) ⟨Nat.le_of_ble_eq_true rfl, Nat.le_of_ble_eq_true rfl⟩) (pw_preV hK hN (pw_sub hP [0, 1, 2, 3, 4, 5, 6, 7, 8, 9, 10, 11, 12, 13, 14] rfl) (pw_subD hD [0, 1, 2, 3, 4, 5, 6, 7, 8, 9, 10, 11, 12, 13, 14] (by decide) rfl) (ci := 5) (q0 := 0) rfl rfl) rfl rfl hl.1 rfl (lv_room (Nat.le_of_ble_eq_true rfl)) dL_law_759 ⟨by have := hk; show _ ≤ (601024 : Nat); omega, by have := hk; show _ ≤ (7293034 : Nat); omega⟩) hP hD hS hA [0, 1, 2, 3, 4, 5, 6, 7, 8, 9, 10, 11, 12, 13, 14] [15, 16, 17, 18, 19, 20, 21, 22, 23, 24] [10, 11, 12, 13, 14, 15, 16, 17, 18, 19, 20, 21, 22, 23, 24, 0, 1, 2, 3, 4, 5, 6, 7, 8, 9] rfl rfl (by decide) (by decide) (by decide) rfl (fun H locs hP hD hS => ?_)
        refine lv_aload_n hx hb dL_law_762 rfl (lv_at hl 2 rfl) ?_
        obtain ⟨⟨x73_1, x73_2, x73_3, x73_4, x73_5, x73_6⟩, hx73, h⟩ := bnd h
        refine pw_goi (wc := [(h6, .inr (6, [.int thr, .ref h6_ms, .ref h6_mv, .int svm, .ref h6_mb, .int mln, .ref h6_mc, .ref h6_mg, .ref h6_mt, .ref h6_ml, .int mat, .int wel, .ref h6_mr, .int rdm, .long hsh])), (h6_ms, .inl (cI, 253, .inl ms)), (h6_mv, .inl (cI, 1518, .inl mv)), (h6_mb, .inl (cI, 60, .inl mb)), (h6_mc, .inl (cI, 160, .inl mc)), (h6_mg, .inl (cI, 160, .inl mg)), (h6_mt, .inl (cI, 240, .inl mt)), (h6_ml, .inl (cI, 240, .inl ml)), (h6_mr, .inl (cI, 600, .inl mr))]) (w1 := [(h6, .inr (6, [.int x73_2, .ref h6_ms, .ref h6_mv, .int svm, .ref h6_mb, .int mln, .ref h6_mc, .ref h6_mg, .ref h6_mt, .ref h6_ml, .int x73_3, .int x73_4, .ref h6_mr, .int x73_6, .long hsh])), (h6_ms, .inl (cI, 253, .inl ms)), (h6_mv, .inl (cI, 1518, .inl mv)), (h6_mb, .inl (cI, 60, .inl mb)), (h6_mc, .inl (cI, 160, .inl mc)), (h6_mg, .inl (cI, 160, .inl mg)), (h6_mt, .inl (cI, 240, .inl mt)), (h6_ml, .inl (cI, 240, .inl ml)), (h6_mr, .inl (cI, 600, .inl x73_5))]) (w2 := [(h5, .inr (5, [.ref h2, .ref h1, .ref h4, .ref h0, .ref h3])), (h2, .inr (2, [.ref h2_row, .ref h2_ten, .ref h2_pha, .int len, .int kep, .int wfi, .int wmo, .int hun])), (h2_row, .inl (cI, 240, .inl row)), (h2_ten, .inl (cI, 4, .inl ten)), (h2_pha, .inl (cI, 4, .inl pha)), (h1, .inr (1, [.ref h1a, .int nex, .int man])), (h4, .inr (4, [.ref h4_cod, .ref h4_unf, .int tln])), (h4_cod, .inl (cI, 60, .inl cod)), (h4_unf, .inl (cI, 540, .inl unf)), (h0, .inr (0, [.ref h0_cel, .int cls])), (h0_cel, .inl (cI, 160, .inl cel)), (h3, .inr (3, [.ref h3_str, .ref h3_tlr, .ref h3_tsg])), (h3_str, .inl (cI, 40, .inl str)), (h3_tlr, .inl (cI, 240, .inl tlr)), (h3_tsg, .inl (cI, 240, .inl tsg)), (h6, .inr (6, [.int x73_2, .ref h6_ms, .ref h6_mv, .int svm, .ref h6_mb, .int mln, .ref h6_mc, .ref h6_mg, .ref h6_mt, .ref h6_ml, .int x73_3, .int x73_4, .ref h6_mr, .int x73_6, .long hsh])), (h6_ms, .inl (cI, 253, .inl ms)), (h6_mv, .inl (cI, 1518, .inl mv)), (h6_mb, .inl (cI, 60, .inl mb)), (h6_mc, .inl (cI, 160, .inl mc)), (h6_mg, .inl (cI, 160, .inl mg)), (h6_mt, .inl (cI, 240, .inl mt)), (h6_ml, .inl (cI, 240, .inl ml)), (h6_mr, .inl (cI, 600, .inl x73_5)), (q3, .inl (cJ, 1, .inr (.inl f3)))]) (va_runV (As := []) (rest := [.int x72]) ⟨hx, hb, hml, hown, hts⟩ (mX6_firstError l D cI cO cJ h6 h6_ms h6_mv h6_mb h6_mc h6_mg h6_mt h6_ml h6_mr H.size thr ms mv svm mb mln mc mg mt ml mat wel mr rdm hsh _ hx73) (cwV 0 hts gL_law_X6_firstError rfl rfl rfl (by decide +kernel) ⟨Nat.le_of_ble_eq_true rfl, Nat.le_of_ble_eq_true rfl⟩) (pw_preV hK hN (pw_sub hP [15, 16, 17, 18, 19, 20, 21, 22, 23] rfl) (pw_subD hD [15, 16, 17, 18, 19, 20, 21, 22, 23] (by decide) rfl) (ci := 6) (q0 := 0) rfl rfl) rfl rfl hl.1 rfl (lv_room (Nat.le_of_ble_eq_true rfl)) dL_law_763 ⟨by have := hk; show _ ≤ (601024 : Nat); omega, by have := hk; show _ ≤ (7293034 : Nat); omega⟩) hP hD hS hA [15, 16, 17, 18, 19, 20, 21, 22, 23] [0, 1, 2, 3, 4, 5, 6, 7, 8, 9, 10, 11, 12, 13, 14, 24] [0, 1, 2, 3, 4, 5, 6, 7, 8, 9, 10, 11, 12, 13, 14, 16, 17, 18, 19, 20, 21, 22, 23, 24, 15] rfl rfl (by decide) (by decide) (by decide) rfl (fun H locs hP hD hS => ?_)
        refine lv_icmp_eq (tgt := 1558) hx hb dL_law_766 (by decide) (fun cq => ?_) (fun cq => ?_)
        · replace h := ifp cq h
          refine lv_iinc (v := (i + 4)) (lv' := [(4, .int (i + 4)), (0, .ref b), (1, .ref h5), (2, .ref h6), (3, .ref q3)]) hx hb dL_law_1558 hl (k := 4) rfl rfl (by decide) rfl (fun ls hl => ?_)
          refine lv_goto (tgt := 23) hx hb dL_law_1561 (by decide) ?_
          refine W.widen (k := 50 + (k + 1)) (n := 6341 + 6 * (k + 1)) (by omega) (by omega) ?_
          exact ih _ (k + 1) _ _ _ _ _ _ _ _ _ _ _ _ _ _ _ _ _ _ _ _ _ _ _ _ _ _ _ _ _ _ _ _ _ _ _ _ _ _ h (pl_i hi) (pl_k hi hL hk hgo) hP hD hS (lv_sub hl [1, 2, 3, 4, 0] rfl)
        · replace h := ifn cq h
          refine lv_iconst (v := 0) hx hb dL_law_769 (by decide) ?_
          exact absurd (Option.some.inj h) (by decide)
      replace h := ifn c11 h
      by_cases c12 : ((xs i.toNatClampNeg) &&& 31) = 12
      · replace h := ifp c12 h
        refine lv_tableIn (x := ((xs i.toNatClampNeg) &&& 31)) hx hb dL_law_39 (by rw [c12]; decide) (by rw [c12]; decide) (off := 732) (tgt := 771) (by rw [c12]; rfl) (by decide) ?_
        refine lv_aload_n hx hb dL_law_771 rfl (lv_at hl 1 rfl) ?_
        refine lv_aload_n hx hb dL_law_772 rfl (lv_at hl 3 rfl) ?_
        obtain ⟨⟨x74_1, x74_2, x74_3, x74_4, x74_5, x74_6, x74_7, x74_8, x74_9⟩, hx74, h⟩ := bnd h
        refine pw_goPiN (wc := [(h5, .inr (5, [.ref h2, .ref h1, .ref h4, .ref h0, .ref h3])), (h2, .inr (2, [.ref h2_row, .ref h2_ten, .ref h2_pha, .int len, .int kep, .int wfi, .int wmo, .int hun])), (h2_row, .inl (cI, 240, .inl row)), (h2_ten, .inl (cI, 4, .inl ten)), (h2_pha, .inl (cI, 4, .inl pha)), (h1, .inr (1, [.ref h1a, .int nex, .int man])), (h4, .inr (4, [.ref h4_cod, .ref h4_unf, .int tln])), (h4_cod, .inl (cI, 60, .inl cod)), (h4_unf, .inl (cI, 540, .inl unf)), (h0, .inr (0, [.ref h0_cel, .int cls])), (h0_cel, .inl (cI, 160, .inl cel)), (h3, .inr (3, [.ref h3_str, .ref h3_tlr, .ref h3_tsg])), (h3_str, .inl (cI, 40, .inl str)), (h3_tlr, .inl (cI, 240, .inl tlr)), (h3_tsg, .inl (cI, 240, .inl tsg)), (q3, .inl (cJ, 1, .inr (.inl f3)))]) (w1 := [(h5, .inr (5, [.ref h2, .ref h1, .ref h4, .ref h0, .ref h3])), (h2, .inr (2, [.ref h2_row, .ref h2_ten, .ref h2_pha, .int x74_3, .int kep, .int wfi, .int wmo, .int hun])), (h2_row, .inl (cI, 240, .inl x74_2)), (h2_ten, .inl (cI, 4, .inl ten)), (h2_pha, .inl (cI, 4, .inl pha)), (h1, .inr (1, [.ref h1a, .int x74_4, .int x74_5])), (h4, .inr (4, [.ref h4_cod, .ref h4_unf, .int x74_7])), (h4_cod, .inl (cI, 60, .inl cod)), (h4_unf, .inl (cI, 540, .inl x74_6)), (h0, .inr (0, [.ref h0_cel, .int cls])), (h0_cel, .inl (cI, 160, .inl cel)), (h3, .inr (3, [.ref h3_str, .ref h3_tlr, .ref h3_tsg])), (h3_str, .inl (cI, 40, .inl str)), (h3_tlr, .inl (cI, 240, .inl tlr)), (h3_tsg, .inl (cI, 240, .inl tsg)), (q3, .inl (cJ, 1, .inr (.inl x74_8)))]) (w2 := [(h5, .inr (5, [.ref h2, .ref h1, .ref h4, .ref h0, .ref h3])), (h2, .inr (2, [.ref h2_row, .ref h2_ten, .ref h2_pha, .int x74_3, .int kep, .int wfi, .int wmo, .int hun])), (h2_row, .inl (cI, 240, .inl x74_2)), (h2_ten, .inl (cI, 4, .inl ten)), (h2_pha, .inl (cI, 4, .inl pha)), (h1, .inr (1, [.ref h1a, .int x74_4, .int x74_5])), (h4, .inr (4, [.ref h4_cod, .ref h4_unf, .int x74_7])), (h4_cod, .inl (cI, 60, .inl cod)), (h4_unf, .inl (cI, 540, .inl x74_6)), (h0, .inr (0, [.ref h0_cel, .int cls])), (h0_cel, .inl (cI, 160, .inl cel)), (h3, .inr (3, [.ref h3_str, .ref h3_tlr, .ref h3_tsg])), (h3_str, .inl (cI, 40, .inl str)), (h3_tlr, .inl (cI, 240, .inl tlr)), (h3_tsg, .inl (cI, 240, .inl tsg)), (h6, .inr (6, [.int thr, .ref h6_ms, .ref h6_mv, .int svm, .ref h6_mb, .int mln, .ref h6_mc, .ref h6_mg, .ref h6_mt, .ref h6_ml, .int mat, .int wel, .ref h6_mr, .int rdm, .long hsh])), (h6_ms, .inl (cI, 253, .inl ms)), (h6_mv, .inl (cI, 1518, .inl mv)), (h6_mb, .inl (cI, 60, .inl mb)), (h6_mc, .inl (cI, 160, .inl mc)), (h6_mg, .inl (cI, 160, .inl mg)), (h6_mt, .inl (cI, 240, .inl mt)), (h6_ml, .inl (cI, 240, .inl ml)), (h6_mr, .inl (cI, 600, .inl mr)), (q3, .inl (cJ, 1, .inr (.inl x74_8)))]) (pl1 := ringW cI cO h1a rh x74_9) (vx_runSW (As := [.ref h5, .ref q3]) (rest := []) ⟨hx, hb, hml, hown, hts⟩ (mL_putAll l D cI cO cJ h5 h2 h2_row h2_ten h2_pha h1 h1a h4 h4_cod h4_unf h0 h0_cel h3 h3_str h3_tlr h3_tsg q3 rh H.size row ten pha len kep wfi wmo hun nex man cod unf tln cel cls str tlr tsg f3 rg _ hst hx74) (vx_cwSW 2 hts gL_law_L_putAll rfl rfl rfl (by decide +kernel) ⟨Nat.le_of_ble_eq_true rfl, Nat.le_of_ble_eq_true rfl⟩) (pl_preS hK hN ((px_X.kept hX9 hS.2.1).narrow (pw_freeP hD hS hA [0, 1, 2, 3, 4, 5, 6, 7, 8, 9, 10, 11, 12, 13, 14, 24] rfl)) hT hC9 (hP.part [0, 1, 2, 3, 4, 5, 6, 7, 8, 9, 10, 11, 12, 13, 14, 24] rfl) (hD.part [0, 1, 2, 3, 4, 5, 6, 7, 8, 9, 10, 11, 12, 13, 14, 24] (by decide) rfl)) rfl rfl hl.1 rfl (lv_room (Nat.le_of_ble_eq_true rfl)) dL_law_773 ⟨by have := hk; show _ ≤ (601024 : Nat); omega, by have := hk; show _ ≤ (7293034 : Nat); omega⟩) hP hD hS hA [0, 1, 2, 3, 4, 5, 6, 7, 8, 9, 10, 11, 12, 13, 14, 24] [15, 16, 17, 18, 19, 20, 21, 22, 23] [9, 10, 11, 12, 13, 14, 15, 16, 17, 18, 19, 20, 21, 22, 23, 0, 1, 2, 3, 4, 5, 6, 7, 8, 24] rfl rfl (by decide) (by decide) (by decide) rfl (fun H locs hP hD hS => ?_)
        refine lv_istore (lv' := [(5, .int x74_1), (0, .ref b), (1, .ref h5), (2, .ref h6), (3, .ref q3), (4, .int i)]) hx hb dL_law_776 hl (by decide) rfl (fun ls hl => ?_)
        refine lv_aload_n hx hb dL_law_778 rfl (lv_at hl 3 rfl) ?_
        obtain ⟨⟨x75_1, x75_2, x75_3, x75_4, x75_5, x75_6, x75_7, x75_8, x75_9, x75_10⟩, hx75, h⟩ := bnd h
        refine pw_goi (wc := [(h6, .inr (6, [.int thr, .ref h6_ms, .ref h6_mv, .int svm, .ref h6_mb, .int mln, .ref h6_mc, .ref h6_mg, .ref h6_mt, .ref h6_ml, .int mat, .int wel, .ref h6_mr, .int rdm, .long hsh])), (h6_ms, .inl (cI, 253, .inl ms)), (h6_mv, .inl (cI, 1518, .inl mv)), (h6_mb, .inl (cI, 60, .inl mb)), (h6_mc, .inl (cI, 160, .inl mc)), (h6_mg, .inl (cI, 160, .inl mg)), (h6_mt, .inl (cI, 240, .inl mt)), (h6_ml, .inl (cI, 240, .inl ml)), (h6_mr, .inl (cI, 600, .inl mr))]) (w1 := [(h6, .inr (6, [.int x75_2, .ref h6_ms, .ref h6_mv, .int x75_5, .ref h6_mb, .int x75_6, .ref h6_mc, .ref h6_mg, .ref h6_mt, .ref h6_ml, .int x75_7, .int x75_8, .ref h6_mr, .int x75_10, .long hsh])), (h6_ms, .inl (cI, 253, .inl x75_3)), (h6_mv, .inl (cI, 1518, .inl x75_4)), (h6_mb, .inl (cI, 60, .inl mb)), (h6_mc, .inl (cI, 160, .inl mc)), (h6_mg, .inl (cI, 160, .inl mg)), (h6_mt, .inl (cI, 240, .inl mt)), (h6_ml, .inl (cI, 240, .inl ml)), (h6_mr, .inl (cI, 600, .inl x75_9))]) (w2 := [(h5, .inr (5, [.ref h2, .ref h1, .ref h4, .ref h0, .ref h3])), (h2, .inr (2, [.ref h2_row, .ref h2_ten, .ref h2_pha, .int x74_3, .int kep, .int wfi, .int wmo, .int hun])), (h2_row, .inl (cI, 240, .inl x74_2)), (h2_ten, .inl (cI, 4, .inl ten)), (h2_pha, .inl (cI, 4, .inl pha)), (h1, .inr (1, [.ref h1a, .int x74_4, .int x74_5])), (h4, .inr (4, [.ref h4_cod, .ref h4_unf, .int x74_7])), (h4_cod, .inl (cI, 60, .inl cod)), (h4_unf, .inl (cI, 540, .inl x74_6)), (h0, .inr (0, [.ref h0_cel, .int cls])), (h0_cel, .inl (cI, 160, .inl cel)), (h3, .inr (3, [.ref h3_str, .ref h3_tlr, .ref h3_tsg])), (h3_str, .inl (cI, 40, .inl str)), (h3_tlr, .inl (cI, 240, .inl tlr)), (h3_tsg, .inl (cI, 240, .inl tsg)), (h6, .inr (6, [.int x75_2, .ref h6_ms, .ref h6_mv, .int x75_5, .ref h6_mb, .int x75_6, .ref h6_mc, .ref h6_mg, .ref h6_mt, .ref h6_ml, .int x75_7, .int x75_8, .ref h6_mr, .int x75_10, .long hsh])), (h6_ms, .inl (cI, 253, .inl x75_3)), (h6_mv, .inl (cI, 1518, .inl x75_4)), (h6_mb, .inl (cI, 60, .inl mb)), (h6_mc, .inl (cI, 160, .inl mc)), (h6_mg, .inl (cI, 160, .inl mg)), (h6_mt, .inl (cI, 240, .inl mt)), (h6_ml, .inl (cI, 240, .inl ml)), (h6_mr, .inl (cI, 600, .inl x75_9)), (q3, .inl (cJ, 1, .inr (.inl x74_8)))]) (va_runV (As := []) (rest := []) ⟨hx, hb, hml, hown, hts⟩ (mX6_putAll l D cI cO cJ h6 h6_ms h6_mv h6_mb h6_mc h6_mg h6_mt h6_ml h6_mr H.size thr ms mv svm mb mln mc mg mt ml mat wel mr rdm hsh _ hx75) (cwV 0 hts gL_law_X6_putAll rfl rfl rfl (by decide +kernel) ⟨Nat.le_of_ble_eq_true rfl, Nat.le_of_ble_eq_true rfl⟩) (pw_preV hK hN (pw_sub hP [15, 16, 17, 18, 19, 20, 21, 22, 23] rfl) (pw_subD hD [15, 16, 17, 18, 19, 20, 21, 22, 23] (by decide) rfl) (ci := 6) (q0 := 0) rfl rfl) rfl rfl hl.1 rfl (lv_room (Nat.le_of_ble_eq_true rfl)) dL_law_779 ⟨by have := hk; show _ ≤ (601024 : Nat); omega, by have := hk; show _ ≤ (7293034 : Nat); omega⟩) hP hD hS hA [15, 16, 17, 18, 19, 20, 21, 22, 23] [0, 1, 2, 3, 4, 5, 6, 7, 8, 9, 10, 11, 12, 13, 14, 24] [0, 1, 2, 3, 4, 5, 6, 7, 8, 9, 10, 11, 12, 13, 14, 16, 17, 18, 19, 20, 21, 22, 23, 24, 15] rfl rfl (by decide) (by decide) (by decide) rfl (fun H locs hP hD hS => ?_)
        refine lv_istore (lv' := [(6, .int x75_1), (5, .int x74_1), (0, .ref b), (1, .ref h5), (2, .ref h6), (3, .ref q3), (4, .int i)]) hx hb dL_law_782 hl (by decide) rfl (fun ls hl => ?_)
        refine lv_aload_n hx hb dL_law_784 rfl (lv_at hl 4 rfl) ?_
        obtain ⟨x76, hx76, h⟩ := bnd h
        refine pw_goi (wc := [(h6, .inr (6, [.int x75_2, .ref h6_ms, .ref h6_mv, .int x75_5, .ref h6_mb, .int x75_6, .ref h6_mc, .ref h6_mg, .ref h6_mt, .ref h6_ml, .int x75_7, .int x75_8, .ref h6_mr, .int x75_10, .long hsh])), (h6_ms, .inl (cI, 253, .inl x75_3)), (h6_mv, .inl (cI, 1518, .inl x75_4)), (h6_mb, .inl (cI, 60, .inl mb)), (h6_mc, .inl (cI, 160, .inl mc)), (h6_mg, .inl (cI, 160, .inl mg)), (h6_mt, .inl (cI, 240, .inl mt)), (h6_ml, .inl (cI, 240, .inl ml)), (h6_mr, .inl (cI, 600, .inl x75_9))]) (w1 := [(h6, .inr (6, [.int x75_2, .ref h6_ms, .ref h6_mv, .int x75_5, .ref h6_mb, .int x75_6, .ref h6_mc, .ref h6_mg, .ref h6_mt, .ref h6_ml, .int x75_7, .int x75_8, .ref h6_mr, .int x75_10, .long hsh])), (h6_ms, .inl (cI, 253, .inl x75_3)), (h6_mv, .inl (cI, 1518, .inl x75_4)), (h6_mb, .inl (cI, 60, .inl mb)), (h6_mc, .inl (cI, 160, .inl mc)), (h6_mg, .inl (cI, 160, .inl mg)), (h6_mt, .inl (cI, 240, .inl mt)), (h6_ml, .inl (cI, 240, .inl ml)), (h6_mr, .inl (cI, 600, .inl x75_9))]) (w2 := [(h5, .inr (5, [.ref h2, .ref h1, .ref h4, .ref h0, .ref h3])), (h2, .inr (2, [.ref h2_row, .ref h2_ten, .ref h2_pha, .int x74_3, .int kep, .int wfi, .int wmo, .int hun])), (h2_row, .inl (cI, 240, .inl x74_2)), (h2_ten, .inl (cI, 4, .inl ten)), (h2_pha, .inl (cI, 4, .inl pha)), (h1, .inr (1, [.ref h1a, .int x74_4, .int x74_5])), (h4, .inr (4, [.ref h4_cod, .ref h4_unf, .int x74_7])), (h4_cod, .inl (cI, 60, .inl cod)), (h4_unf, .inl (cI, 540, .inl x74_6)), (h0, .inr (0, [.ref h0_cel, .int cls])), (h0_cel, .inl (cI, 160, .inl cel)), (h3, .inr (3, [.ref h3_str, .ref h3_tlr, .ref h3_tsg])), (h3_str, .inl (cI, 40, .inl str)), (h3_tlr, .inl (cI, 240, .inl tlr)), (h3_tsg, .inl (cI, 240, .inl tsg)), (h6, .inr (6, [.int x75_2, .ref h6_ms, .ref h6_mv, .int x75_5, .ref h6_mb, .int x75_6, .ref h6_mc, .ref h6_mg, .ref h6_mt, .ref h6_ml, .int x75_7, .int x75_8, .ref h6_mr, .int x75_10, .long hsh])), (h6_ms, .inl (cI, 253, .inl x75_3)), (h6_mv, .inl (cI, 1518, .inl x75_4)), (h6_mb, .inl (cI, 60, .inl mb)), (h6_mc, .inl (cI, 160, .inl mc)), (h6_mg, .inl (cI, 160, .inl mg)), (h6_mt, .inl (cI, 240, .inl mt)), (h6_ml, .inl (cI, 240, .inl ml)), (h6_mr, .inl (cI, 600, .inl x75_9)), (q3, .inl (cJ, 1, .inr (.inl x74_8)))]) (va_runV (As := []) (rest := []) ⟨hx, hb, hml, hown, hts⟩ (mX6_thrown l D cI cO cJ h6 h6_ms h6_mv h6_mb h6_mc h6_mg h6_mt h6_ml h6_mr H.size x75_2 x75_3 x75_4 x75_5 mb x75_6 mc mg mt ml x75_7 x75_8 x75_9 x75_10 hsh _ hx76) (cwV 0 hts gL_law_X6_thrown rfl rfl rfl (by decide +kernel) ⟨Nat.le_of_ble_eq_true rfl, Nat.le_of_ble_eq_true rfl⟩) (pw_preV hK hN (pw_sub hP [15, 16, 17, 18, 19, 20, 21, 22, 23] rfl) (pw_subD hD [15, 16, 17, 18, 19, 20, 21, 22, 23] (by decide) rfl) (ci := 6) (q0 := 0) rfl rfl) rfl rfl hl.1 rfl (lv_room (Nat.le_of_ble_eq_true rfl)) dL_law_785 ⟨by have := hk; show _ ≤ (601024 : Nat); omega, by have := hk; show _ ≤ (7293034 : Nat); omega⟩) hP hD hS hA [15, 16, 17, 18, 19, 20, 21, 22, 23] [0, 1, 2, 3, 4, 5, 6, 7, 8, 9, 10, 11, 12, 13, 14, 24] [0, 1, 2, 3, 4, 5, 6, 7, 8, 9, 10, 11, 12, 13, 14, 16, 17, 18, 19, 20, 21, 22, 23, 24, 15] rfl rfl (by decide) (by decide) (by decide) rfl (fun H locs hP hD hS => ?_)
        refine lv_iload hx hb dL_law_788 (lv_at hl 1 rfl) ?_
        refine lv_icmp_eq (tgt := 795) hx hb dL_law_790 (by decide) (fun cq => ?_) (fun cq => ?_)
        · replace h := ifp cq h
          refine lv_iload hx hb dL_law_795 (lv_at hl 1 rfl) ?_
          refine lv_if_ne (tgt := 812) hx hb dL_law_797 (by decide) (fun cq => ?_) (fun cq => ?_)
          · replace h := ifn cq h
            refine lv_goto (tgt := 1558) hx hb dL_law_812 (by decide) ?_
            refine lv_iinc (v := (i + 4)) (lv' := [(4, .int (i + 4)), (6, .int x75_1), (5, .int x74_1), (0, .ref b), (1, .ref h5), (2, .ref h6), (3, .ref q3)]) hx hb dL_law_1558 hl (k := 6) rfl rfl (by decide) rfl (fun ls hl => ?_)
            refine lv_goto (tgt := 23) hx hb dL_law_1561 (by decide) ?_
            refine W.widen (k := 50 + (k + 1)) (n := 6341 + 6 * (k + 1)) (by omega) (by omega) ?_
            exact ih _ (k + 1) _ _ _ _ _ _ _ _ _ _ _ _ _ _ _ _ _ _ _ _ _ _ _ _ _ _ _ _ _ _ _ _ _ _ _ _ _ _ h (pl_i hi) (pl_k hi hL hk hgo) hP hD hS (lv_sub hl [3, 4, 5, 6, 0] rfl)
          · replace h := ifp cq h
            refine lv_aload_n hx hb dL_law_800 rfl (lv_at hl 5 rfl) ?_
            refine lv_iconst (v := 0) hx hb dL_law_801 (by decide) ?_
            obtain ⟨g77, h⟩ := gdn h
            refine va_lald hx hb hK hP 24 2 rfl rfl g77 dL_law_802 ?_
            refine lv_iload hx hb dL_law_803 (lv_at hl 0 rfl) ?_
            refine lv_i2l (v := x75_1.toInt64) hx hb dL_law_805 rfl ?_
            refine W.lcmp hx hb dL_law_806 ?_
            refine lv_if_eq (tgt := 812) hx hb dL_law_807 (by decide) (fun cq => ?_) (fun cq => ?_)
            · replace h := ifp cq h
              refine lv_goto (tgt := 1558) hx hb dL_law_812 (by decide) ?_
              refine lv_iinc (v := (i + 4)) (lv' := [(4, .int (i + 4)), (6, .int x75_1), (5, .int x74_1), (0, .ref b), (1, .ref h5), (2, .ref h6), (3, .ref q3)]) hx hb dL_law_1558 hl (k := 6) rfl rfl (by decide) rfl (fun ls hl => ?_)
              refine lv_goto (tgt := 23) hx hb dL_law_1561 (by decide) ?_
              refine W.widen (k := 50 + (k + 1)) (n := 6341 + 6 * (k + 1)) (by omega) (by omega) ?_
              exact ih _ (k + 1) _ _ _ _ _ _ _ _ _ _ _ _ _ _ _ _ _ _ _ _ _ _ _ _ _ _ _ _ _ _ _ _ _ _ _ _ _ _ h (pl_i hi) (pl_k hi hL hk hgo) hP hD hS (lv_sub hl [3, 4, 5, 6, 0] rfl)
            · replace h := ifn cq h
              refine lv_iconst (v := 0) hx hb dL_law_810 (by decide) ?_
              exact absurd (Option.some.inj h) (by decide)
        · replace h := ifn cq h
          refine lv_iconst (v := 0) hx hb dL_law_793 (by decide) ?_
          exact absurd (Option.some.inj h) (by decide)
      replace h := ifn c12 h
      by_cases c13 : ((xs i.toNatClampNeg) &&& 31) = 13
      · replace h := ifp c13 h
        refine lv_tableIn (x := ((xs i.toNatClampNeg) &&& 31)) hx hb dL_law_39 (by rw [c13]; decide) (by rw [c13]; decide) (off := 776) (tgt := 815) (by rw [c13]; rfl) (by decide) ?_
        refine lv_aload_n hx hb dL_law_815 rfl (lv_at hl 1 rfl) ?_
        refine lv_aload_n hx hb dL_law_816 rfl (lv_at hl 3 rfl) ?_
        obtain ⟨⟨x78_1, x78_2, x78_3, x78_4, x78_5, x78_6, x78_7, x78_8, x78_9, x78_10, x78_11, x78_12⟩, hx78, h⟩ := bnd h
        refine pw_goPiN (wc := [(h5, .inr (5, [.ref h2, .ref h1, .ref h4, .ref h0, .ref h3])), (h2, .inr (2, [.ref h2_row, .ref h2_ten, .ref h2_pha, .int len, .int kep, .int wfi, .int wmo, .int hun])), (h2_row, .inl (cI, 240, .inl row)), (h2_ten, .inl (cI, 4, .inl ten)), (h2_pha, .inl (cI, 4, .inl pha)), (h1, .inr (1, [.ref h1a, .int nex, .int man])), (h4, .inr (4, [.ref h4_cod, .ref h4_unf, .int tln])), (h4_cod, .inl (cI, 60, .inl cod)), (h4_unf, .inl (cI, 540, .inl unf)), (h0, .inr (0, [.ref h0_cel, .int cls])), (h0_cel, .inl (cI, 160, .inl cel)), (h3, .inr (3, [.ref h3_str, .ref h3_tlr, .ref h3_tsg])), (h3_str, .inl (cI, 40, .inl str)), (h3_tlr, .inl (cI, 240, .inl tlr)), (h3_tsg, .inl (cI, 240, .inl tsg)), (q3, .inl (cJ, 1, .inr (.inl f3)))]) (w1 := [(h5, .inr (5, [.ref h2, .ref h1, .ref h4, .ref h0, .ref h3])), (h2, .inr (2, [.ref h2_row, .ref h2_ten, .ref h2_pha, .int x78_5, .int x78_6, .int x78_7, .int x78_8, .int x78_9])), (h2_row, .inl (cI, 240, .inl x78_2)), (h2_ten, .inl (cI, 4, .inl x78_3)), (h2_pha, .inl (cI, 4, .inl x78_4)), (h1, .inr (1, [.ref h1a, .int x78_10, .int x78_11])), (h4, .inr (4, [.ref h4_cod, .ref h4_unf, .int tln])), (h4_cod, .inl (cI, 60, .inl cod)), (h4_unf, .inl (cI, 540, .inl unf)), (h0, .inr (0, [.ref h0_cel, .int cls])), (h0_cel, .inl (cI, 160, .inl cel)), (h3, .inr (3, [.ref h3_str, .ref h3_tlr, .ref h3_tsg])), (h3_str, .inl (cI, 40, .inl str)), (h3_tlr, .inl (cI, 240, .inl tlr)), (h3_tsg, .inl (cI, 240, .inl tsg)), (q3, .inl (cJ, 1, .inr (.inl x78_12)))]) (w2 := [(h5, .inr (5, [.ref h2, .ref h1, .ref h4, .ref h0, .ref h3])), (h2, .inr (2, [.ref h2_row, .ref h2_ten, .ref h2_pha, .int x78_5, .int x78_6, .int x78_7, .int x78_8, .int x78_9])), (h2_row, .inl (cI, 240, .inl x78_2)), (h2_ten, .inl (cI, 4, .inl x78_3)), (h2_pha, .inl (cI, 4, .inl x78_4)), (h1, .inr (1, [.ref h1a, .int x78_10, .int x78_11])), (h4, .inr (4, [.ref h4_cod, .ref h4_unf, .int tln])), (h4_cod, .inl (cI, 60, .inl cod)), (h4_unf, .inl (cI, 540, .inl unf)), (h0, .inr (0, [.ref h0_cel, .int cls])), (h0_cel, .inl (cI, 160, .inl cel)), (h3, .inr (3, [.ref h3_str, .ref h3_tlr, .ref h3_tsg])), (h3_str, .inl (cI, 40, .inl str)), (h3_tlr, .inl (cI, 240, .inl tlr)), (h3_tsg, .inl (cI, 240, .inl tsg)), (h6, .inr (6, [.int thr, .ref h6_ms, .ref h6_mv, .int svm, .ref h6_mb, .int mln, .ref h6_mc, .ref h6_mg, .ref h6_mt, .ref h6_ml, .int mat, .int wel, .ref h6_mr, .int rdm, .long hsh])), (h6_ms, .inl (cI, 253, .inl ms)), (h6_mv, .inl (cI, 1518, .inl mv)), (h6_mb, .inl (cI, 60, .inl mb)), (h6_mc, .inl (cI, 160, .inl mc)), (h6_mg, .inl (cI, 160, .inl mg)), (h6_mt, .inl (cI, 240, .inl mt)), (h6_ml, .inl (cI, 240, .inl ml)), (h6_mr, .inl (cI, 600, .inl mr)), (q3, .inl (cJ, 1, .inr (.inl x78_12)))]) (pl1 := ringW cI cO h1a rh rg) (vx_runSW (As := [.ref h5, .ref q3]) (rest := []) ⟨hx, hb, hml, hown, hts⟩ (mL_undo l D cI cO cJ h5 h2 h2_row h2_ten h2_pha h1 h1a h4 h4_cod h4_unf h0 h0_cel h3 h3_str h3_tlr h3_tsg q3 rh H.size row ten pha len kep wfi wmo hun nex man cod unf tln cel cls str tlr tsg f3 rg _ hst hx78) (vx_cwSW 2 hts gL_law_L_undo rfl rfl rfl (by decide +kernel) ⟨Nat.le_of_ble_eq_true rfl, Nat.le_of_ble_eq_true rfl⟩) (pl_preS hK hN ((px_X.kept hX9 hS.2.1).narrow (pw_freeP hD hS hA [0, 1, 2, 3, 4, 5, 6, 7, 8, 9, 10, 11, 12, 13, 14, 24] rfl)) hT hC9 (hP.part [0, 1, 2, 3, 4, 5, 6, 7, 8, 9, 10, 11, 12, 13, 14, 24] rfl) (hD.part [0, 1, 2, 3, 4, 5, 6, 7, 8, 9, 10, 11, 12, 13, 14, 24] (by decide) rfl)) rfl rfl hl.1 rfl (lv_room (Nat.le_of_ble_eq_true rfl)) dL_law_817 ⟨by have := hk; show _ ≤ (601024 : Nat); omega, by have := hk; show _ ≤ (7293034 : Nat); omega⟩) hP hD hS hA [0, 1, 2, 3, 4, 5, 6, 7, 8, 9, 10, 11, 12, 13, 14, 24] [15, 16, 17, 18, 19, 20, 21, 22, 23] [9, 10, 11, 12, 13, 14, 15, 16, 17, 18, 19, 20, 21, 22, 23, 0, 1, 2, 3, 4, 5, 6, 7, 8, 24] rfl rfl (by decide) (by decide) (by decide) rfl (fun H locs hP hD hS => ?_)
        refine lv_istore (lv' := [(5, .int x78_1), (0, .ref b), (1, .ref h5), (2, .ref h6), (3, .ref q3), (4, .int i)]) hx hb dL_law_820 hl (by decide) rfl (fun ls hl => ?_)
        refine lv_aload_n hx hb dL_law_822 rfl (lv_at hl 3 rfl) ?_
        obtain ⟨⟨x79_1, x79_2, x79_3, x79_4⟩, hx79, h⟩ := bnd h
        refine pw_goi (wc := [(h6, .inr (6, [.int thr, .ref h6_ms, .ref h6_mv, .int svm, .ref h6_mb, .int mln, .ref h6_mc, .ref h6_mg, .ref h6_mt, .ref h6_ml, .int mat, .int wel, .ref h6_mr, .int rdm, .long hsh])), (h6_ms, .inl (cI, 253, .inl ms)), (h6_mv, .inl (cI, 1518, .inl mv)), (h6_mb, .inl (cI, 60, .inl mb)), (h6_mc, .inl (cI, 160, .inl mc)), (h6_mg, .inl (cI, 160, .inl mg)), (h6_mt, .inl (cI, 240, .inl mt)), (h6_ml, .inl (cI, 240, .inl ml)), (h6_mr, .inl (cI, 600, .inl mr))]) (w1 := [(h6, .inr (6, [.int x79_2, .ref h6_ms, .ref h6_mv, .int x79_4, .ref h6_mb, .int mln, .ref h6_mc, .ref h6_mg, .ref h6_mt, .ref h6_ml, .int mat, .int wel, .ref h6_mr, .int rdm, .long hsh])), (h6_ms, .inl (cI, 253, .inl x79_3)), (h6_mv, .inl (cI, 1518, .inl mv)), (h6_mb, .inl (cI, 60, .inl mb)), (h6_mc, .inl (cI, 160, .inl mc)), (h6_mg, .inl (cI, 160, .inl mg)), (h6_mt, .inl (cI, 240, .inl mt)), (h6_ml, .inl (cI, 240, .inl ml)), (h6_mr, .inl (cI, 600, .inl mr))]) (w2 := [(h5, .inr (5, [.ref h2, .ref h1, .ref h4, .ref h0, .ref h3])), (h2, .inr (2, [.ref h2_row, .ref h2_ten, .ref h2_pha, .int x78_5, .int x78_6, .int x78_7, .int x78_8, .int x78_9])), (h2_row, .inl (cI, 240, .inl x78_2)), (h2_ten, .inl (cI, 4, .inl x78_3)), (h2_pha, .inl (cI, 4, .inl x78_4)), (h1, .inr (1, [.ref h1a, .int x78_10, .int x78_11])), (h4, .inr (4, [.ref h4_cod, .ref h4_unf, .int tln])), (h4_cod, .inl (cI, 60, .inl cod)), (h4_unf, .inl (cI, 540, .inl unf)), (h0, .inr (0, [.ref h0_cel, .int cls])), (h0_cel, .inl (cI, 160, .inl cel)), (h3, .inr (3, [.ref h3_str, .ref h3_tlr, .ref h3_tsg])), (h3_str, .inl (cI, 40, .inl str)), (h3_tlr, .inl (cI, 240, .inl tlr)), (h3_tsg, .inl (cI, 240, .inl tsg)), (h6, .inr (6, [.int x79_2, .ref h6_ms, .ref h6_mv, .int x79_4, .ref h6_mb, .int mln, .ref h6_mc, .ref h6_mg, .ref h6_mt, .ref h6_ml, .int mat, .int wel, .ref h6_mr, .int rdm, .long hsh])), (h6_ms, .inl (cI, 253, .inl x79_3)), (h6_mv, .inl (cI, 1518, .inl mv)), (h6_mb, .inl (cI, 60, .inl mb)), (h6_mc, .inl (cI, 160, .inl mc)), (h6_mg, .inl (cI, 160, .inl mg)), (h6_mt, .inl (cI, 240, .inl mt)), (h6_ml, .inl (cI, 240, .inl ml)), (h6_mr, .inl (cI, 600, .inl mr)), (q3, .inl (cJ, 1, .inr (.inl x78_12)))]) (va_runV (As := []) (rest := []) ⟨hx, hb, hml, hown, hts⟩ (mX6_undo l D cI cO cJ h6 h6_ms h6_mv h6_mb h6_mc h6_mg h6_mt h6_ml h6_mr H.size thr ms mv svm mb mln mc mg mt ml mat wel mr rdm hsh _ hx79) (cwV 0 hts gL_law_X6_undo rfl rfl rfl (by decide +kernel) ⟨Nat.le_of_ble_eq_true rfl, Nat.le_of_ble_eq_true rfl⟩) (pw_preV hK hN (pw_sub hP [15, 16, 17, 18, 19, 20, 21, 22, 23] rfl) (pw_subD hD [15, 16, 17, 18, 19, 20, 21, 22, 23] (by decide) rfl) (ci := 6) (q0 := 0) rfl rfl) rfl rfl hl.1 rfl (lv_room (Nat.le_of_ble_eq_true rfl)) dL_law_823 ⟨by have := hk; show _ ≤ (601024 : Nat); omega, by have := hk; show _ ≤ (7293034 : Nat); omega⟩) hP hD hS hA [15, 16, 17, 18, 19, 20, 21, 22, 23] [0, 1, 2, 3, 4, 5, 6, 7, 8, 9, 10, 11, 12, 13, 14, 24] [0, 1, 2, 3, 4, 5, 6, 7, 8, 9, 10, 11, 12, 13, 14, 16, 17, 18, 19, 20, 21, 22, 23, 24, 15] rfl rfl (by decide) (by decide) (by decide) rfl (fun H locs hP hD hS => ?_)
        refine lv_istore (lv' := [(6, .int x79_1), (5, .int x78_1), (0, .ref b), (1, .ref h5), (2, .ref h6), (3, .ref q3), (4, .int i)]) hx hb dL_law_826 hl (by decide) rfl (fun ls hl => ?_)
        refine lv_aload_n hx hb dL_law_828 rfl (lv_at hl 4 rfl) ?_
        obtain ⟨x80, hx80, h⟩ := bnd h
        refine pw_goi (wc := [(h6, .inr (6, [.int x79_2, .ref h6_ms, .ref h6_mv, .int x79_4, .ref h6_mb, .int mln, .ref h6_mc, .ref h6_mg, .ref h6_mt, .ref h6_ml, .int mat, .int wel, .ref h6_mr, .int rdm, .long hsh])), (h6_ms, .inl (cI, 253, .inl x79_3)), (h6_mv, .inl (cI, 1518, .inl mv)), (h6_mb, .inl (cI, 60, .inl mb)), (h6_mc, .inl (cI, 160, .inl mc)), (h6_mg, .inl (cI, 160, .inl mg)), (h6_mt, .inl (cI, 240, .inl mt)), (h6_ml, .inl (cI, 240, .inl ml)), (h6_mr, .inl (cI, 600, .inl mr))]) (w1 := [(h6, .inr (6, [.int x79_2, .ref h6_ms, .ref h6_mv, .int x79_4, .ref h6_mb, .int mln, .ref h6_mc, .ref h6_mg, .ref h6_mt, .ref h6_ml, .int mat, .int wel, .ref h6_mr, .int rdm, .long hsh])), (h6_ms, .inl (cI, 253, .inl x79_3)), (h6_mv, .inl (cI, 1518, .inl mv)), (h6_mb, .inl (cI, 60, .inl mb)), (h6_mc, .inl (cI, 160, .inl mc)), (h6_mg, .inl (cI, 160, .inl mg)), (h6_mt, .inl (cI, 240, .inl mt)), (h6_ml, .inl (cI, 240, .inl ml)), (h6_mr, .inl (cI, 600, .inl mr))]) (w2 := [(h5, .inr (5, [.ref h2, .ref h1, .ref h4, .ref h0, .ref h3])), (h2, .inr (2, [.ref h2_row, .ref h2_ten, .ref h2_pha, .int x78_5, .int x78_6, .int x78_7, .int x78_8, .int x78_9])), (h2_row, .inl (cI, 240, .inl x78_2)), (h2_ten, .inl (cI, 4, .inl x78_3)), (h2_pha, .inl (cI, 4, .inl x78_4)), (h1, .inr (1, [.ref h1a, .int x78_10, .int x78_11])), (h4, .inr (4, [.ref h4_cod, .ref h4_unf, .int tln])), (h4_cod, .inl (cI, 60, .inl cod)), (h4_unf, .inl (cI, 540, .inl unf)), (h0, .inr (0, [.ref h0_cel, .int cls])), (h0_cel, .inl (cI, 160, .inl cel)), (h3, .inr (3, [.ref h3_str, .ref h3_tlr, .ref h3_tsg])), (h3_str, .inl (cI, 40, .inl str)), (h3_tlr, .inl (cI, 240, .inl tlr)), (h3_tsg, .inl (cI, 240, .inl tsg)), (h6, .inr (6, [.int x79_2, .ref h6_ms, .ref h6_mv, .int x79_4, .ref h6_mb, .int mln, .ref h6_mc, .ref h6_mg, .ref h6_mt, .ref h6_ml, .int mat, .int wel, .ref h6_mr, .int rdm, .long hsh])), (h6_ms, .inl (cI, 253, .inl x79_3)), (h6_mv, .inl (cI, 1518, .inl mv)), (h6_mb, .inl (cI, 60, .inl mb)), (h6_mc, .inl (cI, 160, .inl mc)), (h6_mg, .inl (cI, 160, .inl mg)), (h6_mt, .inl (cI, 240, .inl mt)), (h6_ml, .inl (cI, 240, .inl ml)), (h6_mr, .inl (cI, 600, .inl mr)), (q3, .inl (cJ, 1, .inr (.inl x78_12)))]) (va_runV (As := []) (rest := []) ⟨hx, hb, hml, hown, hts⟩ (mX6_thrown l D cI cO cJ h6 h6_ms h6_mv h6_mb h6_mc h6_mg h6_mt h6_ml h6_mr H.size x79_2 x79_3 mv x79_4 mb mln mc mg mt ml mat wel mr rdm hsh _ hx80) (cwV 0 hts gL_law_X6_thrown rfl rfl rfl (by decide +kernel) ⟨Nat.le_of_ble_eq_true rfl, Nat.le_of_ble_eq_true rfl⟩) (pw_preV hK hN (pw_sub hP [15, 16, 17, 18, 19, 20, 21, 22, 23] rfl) (pw_subD hD [15, 16, 17, 18, 19, 20, 21, 22, 23] (by decide) rfl) (ci := 6) (q0 := 0) rfl rfl) rfl rfl hl.1 rfl (lv_room (Nat.le_of_ble_eq_true rfl)) dL_law_829 ⟨by have := hk; show _ ≤ (601024 : Nat); omega, by have := hk; show _ ≤ (7293034 : Nat); omega⟩) hP hD hS hA [15, 16, 17, 18, 19, 20, 21, 22, 23] [0, 1, 2, 3, 4, 5, 6, 7, 8, 9, 10, 11, 12, 13, 14, 24] [0, 1, 2, 3, 4, 5, 6, 7, 8, 9, 10, 11, 12, 13, 14, 16, 17, 18, 19, 20, 21, 22, 23, 24, 15] rfl rfl (by decide) (by decide) (by decide) rfl (fun H locs hP hD hS => ?_)
        refine lv_iload hx hb dL_law_832 (lv_at hl 1 rfl) ?_
        refine lv_icmp_eq (tgt := 839) hx hb dL_law_834 (by decide) (fun cq => ?_) (fun cq => ?_)
        · replace h := ifp cq h
          refine lv_iload hx hb dL_law_839 (lv_at hl 1 rfl) ?_
          refine lv_if_ne (tgt := 856) hx hb dL_law_841 (by decide) (fun cq => ?_) (fun cq => ?_)
          · replace h := ifn cq h
            refine lv_goto (tgt := 1558) hx hb dL_law_856 (by decide) ?_
            refine lv_iinc (v := (i + 4)) (lv' := [(4, .int (i + 4)), (6, .int x79_1), (5, .int x78_1), (0, .ref b), (1, .ref h5), (2, .ref h6), (3, .ref q3)]) hx hb dL_law_1558 hl (k := 6) rfl rfl (by decide) rfl (fun ls hl => ?_)
            refine lv_goto (tgt := 23) hx hb dL_law_1561 (by decide) ?_
            refine W.widen (k := 50 + (k + 1)) (n := 6341 + 6 * (k + 1)) (by omega) (by omega) ?_
            exact ih _ (k + 1) _ _ _ _ _ _ _ _ _ _ _ _ _ _ _ _ _ _ _ _ _ _ _ _ _ _ _ _ _ _ _ _ _ _ _ _ _ _ h (pl_i hi) (pl_k hi hL hk hgo) hP hD hS (lv_sub hl [3, 4, 5, 6, 0] rfl)
          · replace h := ifp cq h
            refine lv_aload_n hx hb dL_law_844 rfl (lv_at hl 5 rfl) ?_
            refine lv_iconst (v := 0) hx hb dL_law_845 (by decide) ?_
            obtain ⟨g81, h⟩ := gdn h
            refine va_lald hx hb hK hP 24 2 rfl rfl g81 dL_law_846 ?_
            refine lv_iload hx hb dL_law_847 (lv_at hl 0 rfl) ?_
            refine lv_i2l (v := x79_1.toInt64) hx hb dL_law_849 rfl ?_
            refine W.lcmp hx hb dL_law_850 ?_
            refine lv_if_eq (tgt := 856) hx hb dL_law_851 (by decide) (fun cq => ?_) (fun cq => ?_)
            · replace h := ifp cq h
              refine lv_goto (tgt := 1558) hx hb dL_law_856 (by decide) ?_
              refine lv_iinc (v := (i + 4)) (lv' := [(4, .int (i + 4)), (6, .int x79_1), (5, .int x78_1), (0, .ref b), (1, .ref h5), (2, .ref h6), (3, .ref q3)]) hx hb dL_law_1558 hl (k := 6) rfl rfl (by decide) rfl (fun ls hl => ?_)
              refine lv_goto (tgt := 23) hx hb dL_law_1561 (by decide) ?_
              refine W.widen (k := 50 + (k + 1)) (n := 6341 + 6 * (k + 1)) (by omega) (by omega) ?_
              exact ih _ (k + 1) _ _ _ _ _ _ _ _ _ _ _ _ _ _ _ _ _ _ _ _ _ _ _ _ _ _ _ _ _ _ _ _ _ _ _ _ _ _ h (pl_i hi) (pl_k hi hL hk hgo) hP hD hS (lv_sub hl [3, 4, 5, 6, 0] rfl)
            · replace h := ifn cq h
              refine lv_iconst (v := 0) hx hb dL_law_854 (by decide) ?_
              exact absurd (Option.some.inj h) (by decide)
        · replace h := ifn cq h
          refine lv_iconst (v := 0) hx hb dL_law_837 (by decide) ?_
          exact absurd (Option.some.inj h) (by decide)
      replace h := ifn c13 h
      by_cases c14 : ((xs i.toNatClampNeg) &&& 31) = 14
      · replace h := ifp c14 h
        refine lv_tableIn (x := ((xs i.toNatClampNeg) &&& 31)) hx hb dL_law_39 (by rw [c14]; decide) (by rw [c14]; decide) (off := 820) (tgt := 859) (by rw [c14]; rfl) (by decide) ?_
        refine lv_aload_n hx hb dL_law_859 rfl (lv_at hl 1 rfl) ?_
        refine lv_aload_n hx hb dL_law_860 rfl (lv_at hl 0 rfl) ?_
        refine lv_iload hx hb dL_law_861 (lv_at hl 4 rfl) ?_
        refine lv_iconst (v := 1) hx hb dL_law_863 (by decide) ?_
        refine lv_iadd hx hb dL_law_864 ?_
        obtain ⟨g82, h⟩ := gdn h
        refine va_sld hx hb hX hbl hbA hS g82 dL_law_865 ?_
        refine lv_aload_n hx hb dL_law_866 rfl (lv_at hl 3 rfl) ?_
        obtain ⟨⟨x83_1, x83_2⟩, hx83, h⟩ := bnd h
        refine pw_goiN (wc := [(h5, .inr (5, [.ref h2, .ref h1, .ref h4, .ref h0, .ref h3])), (h2, .inr (2, [.ref h2_row, .ref h2_ten, .ref h2_pha, .int len, .int kep, .int wfi, .int wmo, .int hun])), (h2_row, .inl (cI, 240, .inl row)), (h2_ten, .inl (cI, 4, .inl ten)), (h2_pha, .inl (cI, 4, .inl pha)), (h1, .inr (1, [.ref h1a, .int nex, .int man])), (h4, .inr (4, [.ref h4_cod, .ref h4_unf, .int tln])), (h4_cod, .inl (cI, 60, .inl cod)), (h4_unf, .inl (cI, 540, .inl unf)), (h0, .inr (0, [.ref h0_cel, .int cls])), (h0_cel, .inl (cI, 160, .inl cel)), (h3, .inr (3, [.ref h3_str, .ref h3_tlr, .ref h3_tsg])), (h3_str, .inl (cI, 40, .inl str)), (h3_tlr, .inl (cI, 240, .inl tlr)), (h3_tsg, .inl (cI, 240, .inl tsg)), (q3, .inl (cJ, 1, .inr (.inl f3)))]) (w1 := [(h5, .inr (5, [.ref h2, .ref h1, .ref h4, .ref h0, .ref h3])), (h2, .inr (2, [.ref h2_row, .ref h2_ten, .ref h2_pha, .int len, .int kep, .int wfi, .int wmo, .int hun])), (h2_row, .inl (cI, 240, .inl row)), (h2_ten, .inl (cI, 4, .inl ten)), (h2_pha, .inl (cI, 4, .inl pha)), (h1, .inr (1, [.ref h1a, .int nex, .int man])), (h4, .inr (4, [.ref h4_cod, .ref h4_unf, .int tln])), (h4_cod, .inl (cI, 60, .inl cod)), (h4_unf, .inl (cI, 540, .inl unf)), (h0, .inr (0, [.ref h0_cel, .int cls])), (h0_cel, .inl (cI, 160, .inl cel)), (h3, .inr (3, [.ref h3_str, .ref h3_tlr, .ref h3_tsg])), (h3_str, .inl (cI, 40, .inl str)), (h3_tlr, .inl (cI, 240, .inl tlr)), (h3_tsg, .inl (cI, 240, .inl tsg)), (q3, .inl (cJ, 1, .inr (.inl x83_2)))]) (w2 := [(h5, .inr (5, [.ref h2, .ref h1, .ref h4, .ref h0, .ref h3])), (h2, .inr (2, [.ref h2_row, .ref h2_ten, .ref h2_pha, .int len, .int kep, .int wfi, .int wmo, .int hun])), (h2_row, .inl (cI, 240, .inl row)), (h2_ten, .inl (cI, 4, .inl ten)), (h2_pha, .inl (cI, 4, .inl pha)), (h1, .inr (1, [.ref h1a, .int nex, .int man])), (h4, .inr (4, [.ref h4_cod, .ref h4_unf, .int tln])), (h4_cod, .inl (cI, 60, .inl cod)), (h4_unf, .inl (cI, 540, .inl unf)), (h0, .inr (0, [.ref h0_cel, .int cls])), (h0_cel, .inl (cI, 160, .inl cel)), (h3, .inr (3, [.ref h3_str, .ref h3_tlr, .ref h3_tsg])), (h3_str, .inl (cI, 40, .inl str)), (h3_tlr, .inl (cI, 240, .inl tlr)), (h3_tsg, .inl (cI, 240, .inl tsg)), (h6, .inr (6, [.int thr, .ref h6_ms, .ref h6_mv, .int svm, .ref h6_mb, .int mln, .ref h6_mc, .ref h6_mg, .ref h6_mt, .ref h6_ml, .int mat, .int wel, .ref h6_mr, .int rdm, .long hsh])), (h6_ms, .inl (cI, 253, .inl ms)), (h6_mv, .inl (cI, 1518, .inl mv)), (h6_mb, .inl (cI, 60, .inl mb)), (h6_mc, .inl (cI, 160, .inl mc)), (h6_mg, .inl (cI, 160, .inl mg)), (h6_mt, .inl (cI, 240, .inl mt)), (h6_ml, .inl (cI, 240, .inl ml)), (h6_mr, .inl (cI, 600, .inl mr)), (q3, .inl (cJ, 1, .inr (.inl x83_2)))]) (vx_runSW (As := [.ref h5, .int (xs (i + 1).toNatClampNeg), .ref q3]) (rest := []) ⟨hx, hb, hml, hown, hts⟩ (mL_sign l D cI cO cJ h5 h2 h2_row h2_ten h2_pha h1 h1a h4 h4_cod h4_unf h0 h0_cel h3 h3_str h3_tlr h3_tsg q3 H.size row ten pha len kep wfi wmo hun nex man cod unf tln cel cls str tlr tsg f3 (xs (i + 1).toNatClampNeg) _ hst hx83) (vx_cwSW 3 hts gL_law_L_sign rfl rfl rfl (by decide +kernel) ⟨Nat.le_of_ble_eq_true rfl, Nat.le_of_ble_eq_true rfl⟩) (pl_preS hK hN ((px_X.kept hX9 hS.2.1).narrow (pw_free hD hS hA [0, 1, 2, 3, 4, 5, 6, 7, 8, 9, 10, 11, 12, 13, 14, 24] rfl)) hT hC9 (pw_sub hP [0, 1, 2, 3, 4, 5, 6, 7, 8, 9, 10, 11, 12, 13, 14, 24] rfl) (pw_subD hD [0, 1, 2, 3, 4, 5, 6, 7, 8, 9, 10, 11, 12, 13, 14, 24] (by decide) rfl)) rfl rfl hl.1 rfl (lv_room (Nat.le_of_ble_eq_true rfl)) dL_law_867 ⟨by have := hk; show _ ≤ (601024 : Nat); omega, by have := hk; show _ ≤ (7293034 : Nat); omega⟩) hP hD hS hA [0, 1, 2, 3, 4, 5, 6, 7, 8, 9, 10, 11, 12, 13, 14, 24] [15, 16, 17, 18, 19, 20, 21, 22, 23] [9, 10, 11, 12, 13, 14, 15, 16, 17, 18, 19, 20, 21, 22, 23, 0, 1, 2, 3, 4, 5, 6, 7, 8, 24] rfl rfl (by decide) (by decide) (by decide) rfl (fun H locs hP hD hS => ?_)
        refine lv_istore (lv' := [(5, .int x83_1), (0, .ref b), (1, .ref h5), (2, .ref h6), (3, .ref q3), (4, .int i)]) hx hb dL_law_870 hl (by decide) rfl (fun ls hl => ?_)
        refine lv_aload_n hx hb dL_law_872 rfl (lv_at hl 3 rfl) ?_
        refine lv_aload_n hx hb dL_law_873 rfl (lv_at hl 1 rfl) ?_
        refine lv_iload hx hb dL_law_874 (lv_at hl 5 rfl) ?_
        refine lv_iconst (v := 1) hx hb dL_law_876 (by decide) ?_
        refine lv_iadd hx hb dL_law_877 ?_
        obtain ⟨g84, h⟩ := gdn h
        refine va_sld hx hb hX hbl hbA hS g84 dL_law_878 ?_
        obtain ⟨⟨x85_1, x85_2⟩, hx85, h⟩ := bnd h
        refine pw_goi (wc := [(h6, .inr (6, [.int thr, .ref h6_ms, .ref h6_mv, .int svm, .ref h6_mb, .int mln, .ref h6_mc, .ref h6_mg, .ref h6_mt, .ref h6_ml, .int mat, .int wel, .ref h6_mr, .int rdm, .long hsh])), (h6_ms, .inl (cI, 253, .inl ms)), (h6_mv, .inl (cI, 1518, .inl mv)), (h6_mb, .inl (cI, 60, .inl mb)), (h6_mc, .inl (cI, 160, .inl mc)), (h6_mg, .inl (cI, 160, .inl mg)), (h6_mt, .inl (cI, 240, .inl mt)), (h6_ml, .inl (cI, 240, .inl ml)), (h6_mr, .inl (cI, 600, .inl mr))]) (w1 := [(h6, .inr (6, [.int x85_2, .ref h6_ms, .ref h6_mv, .int svm, .ref h6_mb, .int mln, .ref h6_mc, .ref h6_mg, .ref h6_mt, .ref h6_ml, .int mat, .int wel, .ref h6_mr, .int rdm, .long hsh])), (h6_ms, .inl (cI, 253, .inl ms)), (h6_mv, .inl (cI, 1518, .inl mv)), (h6_mb, .inl (cI, 60, .inl mb)), (h6_mc, .inl (cI, 160, .inl mc)), (h6_mg, .inl (cI, 160, .inl mg)), (h6_mt, .inl (cI, 240, .inl mt)), (h6_ml, .inl (cI, 240, .inl ml)), (h6_mr, .inl (cI, 600, .inl mr))]) (w2 := [(h5, .inr (5, [.ref h2, .ref h1, .ref h4, .ref h0, .ref h3])), (h2, .inr (2, [.ref h2_row, .ref h2_ten, .ref h2_pha, .int len, .int kep, .int wfi, .int wmo, .int hun])), (h2_row, .inl (cI, 240, .inl row)), (h2_ten, .inl (cI, 4, .inl ten)), (h2_pha, .inl (cI, 4, .inl pha)), (h1, .inr (1, [.ref h1a, .int nex, .int man])), (h4, .inr (4, [.ref h4_cod, .ref h4_unf, .int tln])), (h4_cod, .inl (cI, 60, .inl cod)), (h4_unf, .inl (cI, 540, .inl unf)), (h0, .inr (0, [.ref h0_cel, .int cls])), (h0_cel, .inl (cI, 160, .inl cel)), (h3, .inr (3, [.ref h3_str, .ref h3_tlr, .ref h3_tsg])), (h3_str, .inl (cI, 40, .inl str)), (h3_tlr, .inl (cI, 240, .inl tlr)), (h3_tsg, .inl (cI, 240, .inl tsg)), (h6, .inr (6, [.int x85_2, .ref h6_ms, .ref h6_mv, .int svm, .ref h6_mb, .int mln, .ref h6_mc, .ref h6_mg, .ref h6_mt, .ref h6_ml, .int mat, .int wel, .ref h6_mr, .int rdm, .long hsh])), (h6_ms, .inl (cI, 253, .inl ms)), (h6_mv, .inl (cI, 1518, .inl mv)), (h6_mb, .inl (cI, 60, .inl mb)), (h6_mc, .inl (cI, 160, .inl mc)), (h6_mg, .inl (cI, 160, .inl mg)), (h6_mt, .inl (cI, 240, .inl mt)), (h6_ml, .inl (cI, 240, .inl ml)), (h6_mr, .inl (cI, 600, .inl mr)), (q3, .inl (cJ, 1, .inr (.inl x83_2)))]) (va_runV (As := [.int (xs (i + 1).toNatClampNeg)]) (rest := []) ⟨hx, hb, hml, hown, hts⟩ (mX6_sign l D cI cO cJ h6 h6_ms h6_mv h6_mb h6_mc h6_mg h6_mt h6_ml h6_mr H.size thr ms mv svm mb mln mc mg mt ml mat wel mr rdm hsh (xs (i + 1).toNatClampNeg) _ hx85) (cwV 1 hts gL_law_X6_sign rfl rfl rfl (by decide +kernel) ⟨Nat.le_of_ble_eq_true rfl, Nat.le_of_ble_eq_true rfl⟩) (pw_preV hK hN (pw_sub hP [15, 16, 17, 18, 19, 20, 21, 22, 23] rfl) (pw_subD hD [15, 16, 17, 18, 19, 20, 21, 22, 23] (by decide) rfl) (ci := 6) (q0 := 0) rfl rfl) rfl rfl hl.1 rfl (lv_room (Nat.le_of_ble_eq_true rfl)) dL_law_879 ⟨by have := hk; show _ ≤ (601024 : Nat); omega, by have := hk; show _ ≤ (7293034 : Nat); omega⟩) hP hD hS hA [15, 16, 17, 18, 19, 20, 21, 22, 23] [0, 1, 2, 3, 4, 5, 6, 7, 8, 9, 10, 11, 12, 13, 14, 24] [0, 1, 2, 3, 4, 5, 6, 7, 8, 9, 10, 11, 12, 13, 14, 16, 17, 18, 19, 20, 21, 22, 23, 24, 15] rfl rfl (by decide) (by decide) (by decide) rfl (fun H locs hP hD hS => ?_)
        refine lv_istore (lv' := [(6, .int x85_1), (5, .int x83_1), (0, .ref b), (1, .ref h5), (2, .ref h6), (3, .ref q3), (4, .int i)]) hx hb dL_law_882 hl (by decide) rfl (fun ls hl => ?_)
        refine lv_aload_n hx hb dL_law_884 rfl (lv_at hl 4 rfl) ?_
        obtain ⟨x86, hx86, h⟩ := bnd h
        refine pw_goi (wc := [(h6, .inr (6, [.int x85_2, .ref h6_ms, .ref h6_mv, .int svm, .ref h6_mb, .int mln, .ref h6_mc, .ref h6_mg, .ref h6_mt, .ref h6_ml, .int mat, .int wel, .ref h6_mr, .int rdm, .long hsh])), (h6_ms, .inl (cI, 253, .inl ms)), (h6_mv, .inl (cI, 1518, .inl mv)), (h6_mb, .inl (cI, 60, .inl mb)), (h6_mc, .inl (cI, 160, .inl mc)), (h6_mg, .inl (cI, 160, .inl mg)), (h6_mt, .inl (cI, 240, .inl mt)), (h6_ml, .inl (cI, 240, .inl ml)), (h6_mr, .inl (cI, 600, .inl mr))]) (w1 := [(h6, .inr (6, [.int x85_2, .ref h6_ms, .ref h6_mv, .int svm, .ref h6_mb, .int mln, .ref h6_mc, .ref h6_mg, .ref h6_mt, .ref h6_ml, .int mat, .int wel, .ref h6_mr, .int rdm, .long hsh])), (h6_ms, .inl (cI, 253, .inl ms)), (h6_mv, .inl (cI, 1518, .inl mv)), (h6_mb, .inl (cI, 60, .inl mb)), (h6_mc, .inl (cI, 160, .inl mc)), (h6_mg, .inl (cI, 160, .inl mg)), (h6_mt, .inl (cI, 240, .inl mt)), (h6_ml, .inl (cI, 240, .inl ml)), (h6_mr, .inl (cI, 600, .inl mr))]) (w2 := [(h5, .inr (5, [.ref h2, .ref h1, .ref h4, .ref h0, .ref h3])), (h2, .inr (2, [.ref h2_row, .ref h2_ten, .ref h2_pha, .int len, .int kep, .int wfi, .int wmo, .int hun])), (h2_row, .inl (cI, 240, .inl row)), (h2_ten, .inl (cI, 4, .inl ten)), (h2_pha, .inl (cI, 4, .inl pha)), (h1, .inr (1, [.ref h1a, .int nex, .int man])), (h4, .inr (4, [.ref h4_cod, .ref h4_unf, .int tln])), (h4_cod, .inl (cI, 60, .inl cod)), (h4_unf, .inl (cI, 540, .inl unf)), (h0, .inr (0, [.ref h0_cel, .int cls])), (h0_cel, .inl (cI, 160, .inl cel)), (h3, .inr (3, [.ref h3_str, .ref h3_tlr, .ref h3_tsg])), (h3_str, .inl (cI, 40, .inl str)), (h3_tlr, .inl (cI, 240, .inl tlr)), (h3_tsg, .inl (cI, 240, .inl tsg)), (h6, .inr (6, [.int x85_2, .ref h6_ms, .ref h6_mv, .int svm, .ref h6_mb, .int mln, .ref h6_mc, .ref h6_mg, .ref h6_mt, .ref h6_ml, .int mat, .int wel, .ref h6_mr, .int rdm, .long hsh])), (h6_ms, .inl (cI, 253, .inl ms)), (h6_mv, .inl (cI, 1518, .inl mv)), (h6_mb, .inl (cI, 60, .inl mb)), (h6_mc, .inl (cI, 160, .inl mc)), (h6_mg, .inl (cI, 160, .inl mg)), (h6_mt, .inl (cI, 240, .inl mt)), (h6_ml, .inl (cI, 240, .inl ml)), (h6_mr, .inl (cI, 600, .inl mr)), (q3, .inl (cJ, 1, .inr (.inl x83_2)))]) (va_runV (As := []) (rest := []) ⟨hx, hb, hml, hown, hts⟩ (mX6_thrown l D cI cO cJ h6 h6_ms h6_mv h6_mb h6_mc h6_mg h6_mt h6_ml h6_mr H.size x85_2 ms mv svm mb mln mc mg mt ml mat wel mr rdm hsh _ hx86) (cwV 0 hts gL_law_X6_thrown rfl rfl rfl (by decide +kernel) ⟨Nat.le_of_ble_eq_true rfl, Nat.le_of_ble_eq_true rfl⟩) (pw_preV hK hN (pw_sub hP [15, 16, 17, 18, 19, 20, 21, 22, 23] rfl) (pw_subD hD [15, 16, 17, 18, 19, 20, 21, 22, 23] (by decide) rfl) (ci := 6) (q0 := 0) rfl rfl) rfl rfl hl.1 rfl (lv_room (Nat.le_of_ble_eq_true rfl)) dL_law_885 ⟨by have := hk; show _ ≤ (601024 : Nat); omega, by have := hk; show _ ≤ (7293034 : Nat); omega⟩) hP hD hS hA [15, 16, 17, 18, 19, 20, 21, 22, 23] [0, 1, 2, 3, 4, 5, 6, 7, 8, 9, 10, 11, 12, 13, 14, 24] [0, 1, 2, 3, 4, 5, 6, 7, 8, 9, 10, 11, 12, 13, 14, 16, 17, 18, 19, 20, 21, 22, 23, 24, 15] rfl rfl (by decide) (by decide) (by decide) rfl (fun H locs hP hD hS => ?_)
        refine lv_iload hx hb dL_law_888 (lv_at hl 1 rfl) ?_
        refine lv_icmp_eq (tgt := 895) hx hb dL_law_890 (by decide) (fun cq => ?_) (fun cq => ?_)
        · replace h := ifp cq h
          refine lv_iload hx hb dL_law_895 (lv_at hl 1 rfl) ?_
          refine lv_if_ne (tgt := 912) hx hb dL_law_897 (by decide) (fun cq => ?_) (fun cq => ?_)
          · replace h := ifn cq h
            refine lv_goto (tgt := 1558) hx hb dL_law_912 (by decide) ?_
            refine lv_iinc (v := (i + 4)) (lv' := [(4, .int (i + 4)), (6, .int x85_1), (5, .int x83_1), (0, .ref b), (1, .ref h5), (2, .ref h6), (3, .ref q3)]) hx hb dL_law_1558 hl (k := 6) rfl rfl (by decide) rfl (fun ls hl => ?_)
            refine lv_goto (tgt := 23) hx hb dL_law_1561 (by decide) ?_
            refine W.widen (k := 50 + (k + 1)) (n := 6341 + 6 * (k + 1)) (by omega) (by omega) ?_
            exact ih _ (k + 1) _ _ _ _ _ _ _ _ _ _ _ _ _ _ _ _ _ _ _ _ _ _ _ _ _ _ _ _ _ _ _ _ _ _ _ _ _ _ h (pl_i hi) (pl_k hi hL hk hgo) hP hD hS (lv_sub hl [3, 4, 5, 6, 0] rfl)
          · replace h := ifp cq h
            refine lv_aload_n hx hb dL_law_900 rfl (lv_at hl 5 rfl) ?_
            refine lv_iconst (v := 0) hx hb dL_law_901 (by decide) ?_
            obtain ⟨g87, h⟩ := gdn h
            refine va_lald hx hb hK hP 24 2 rfl rfl g87 dL_law_902 ?_
            refine lv_iload hx hb dL_law_903 (lv_at hl 0 rfl) ?_
            refine lv_i2l (v := x85_1.toInt64) hx hb dL_law_905 rfl ?_
            refine W.lcmp hx hb dL_law_906 ?_
            refine lv_if_eq (tgt := 912) hx hb dL_law_907 (by decide) (fun cq => ?_) (fun cq => ?_)
            · replace h := ifp cq h
              refine lv_goto (tgt := 1558) hx hb dL_law_912 (by decide) ?_
              refine lv_iinc (v := (i + 4)) (lv' := [(4, .int (i + 4)), (6, .int x85_1), (5, .int x83_1), (0, .ref b), (1, .ref h5), (2, .ref h6), (3, .ref q3)]) hx hb dL_law_1558 hl (k := 6) rfl rfl (by decide) rfl (fun ls hl => ?_)
              refine lv_goto (tgt := 23) hx hb dL_law_1561 (by decide) ?_
              refine W.widen (k := 50 + (k + 1)) (n := 6341 + 6 * (k + 1)) (by omega) (by omega) ?_
              exact ih _ (k + 1) _ _ _ _ _ _ _ _ _ _ _ _ _ _ _ _ _ _ _ _ _ _ _ _ _ _ _ _ _ _ _ _ _ _ _ _ _ _ h (pl_i hi) (pl_k hi hL hk hgo) hP hD hS (lv_sub hl [3, 4, 5, 6, 0] rfl)
            · replace h := ifn cq h
              refine lv_iconst (v := 0) hx hb dL_law_910 (by decide) ?_
              exact absurd (Option.some.inj h) (by decide)
        · replace h := ifn cq h
          refine lv_iconst (v := 0) hx hb dL_law_893 (by decide) ?_
          exact absurd (Option.some.inj h) (by decide)
      replace h := ifn c14 h
      by_cases c15 : ((xs i.toNatClampNeg) &&& 31) = 15
      · replace h := ifp c15 h
        refine lv_tableIn (x := ((xs i.toNatClampNeg) &&& 31)) hx hb dL_law_39 (by rw [c15]; decide) (by rw [c15]; decide) (off := 876) (tgt := 915) (by rw [c15]; rfl) (by decide) ?_
        refine lv_aload_n hx hb dL_law_915 rfl (lv_at hl 1 rfl) ?_
        refine lv_aload_n hx hb dL_law_916 rfl (lv_at hl 0 rfl) ?_
        refine lv_iload hx hb dL_law_917 (lv_at hl 4 rfl) ?_
        refine lv_iconst (v := 1) hx hb dL_law_919 (by decide) ?_
        refine lv_iadd hx hb dL_law_920 ?_
        obtain ⟨g88, h⟩ := gdn h
        refine va_sld hx hb hX hbl hbA hS g88 dL_law_921 ?_
        refine lv_aload_n hx hb dL_law_922 rfl (lv_at hl 0 rfl) ?_
        refine lv_iload hx hb dL_law_923 (lv_at hl 4 rfl) ?_
        refine lv_iconst (v := 2) hx hb dL_law_925 (by decide) ?_
        refine lv_iadd hx hb dL_law_926 ?_
        obtain ⟨g89, h⟩ := gdn h
        refine va_sld hx hb hX hbl hbA hS g89 dL_law_927 ?_
        refine lv_aload_n hx hb dL_law_928 rfl (lv_at hl 3 rfl) ?_
        obtain ⟨⟨x90_1, x90_2, x90_3, x90_4, x90_5, x90_6, x90_7⟩, hx90, h⟩ := bnd h
        refine pw_goiN (wc := [(h5, .inr (5, [.ref h2, .ref h1, .ref h4, .ref h0, .ref h3])), (h2, .inr (2, [.ref h2_row, .ref h2_ten, .ref h2_pha, .int len, .int kep, .int wfi, .int wmo, .int hun])), (h2_row, .inl (cI, 240, .inl row)), (h2_ten, .inl (cI, 4, .inl ten)), (h2_pha, .inl (cI, 4, .inl pha)), (h1, .inr (1, [.ref h1a, .int nex, .int man])), (h4, .inr (4, [.ref h4_cod, .ref h4_unf, .int tln])), (h4_cod, .inl (cI, 60, .inl cod)), (h4_unf, .inl (cI, 540, .inl unf)), (h0, .inr (0, [.ref h0_cel, .int cls])), (h0_cel, .inl (cI, 160, .inl cel)), (h3, .inr (3, [.ref h3_str, .ref h3_tlr, .ref h3_tsg])), (h3_str, .inl (cI, 40, .inl str)), (h3_tlr, .inl (cI, 240, .inl tlr)), (h3_tsg, .inl (cI, 240, .inl tsg)), (q3, .inl (cJ, 1, .inr (.inl f3)))]) (w1 := [(h5, .inr (5, [.ref h2, .ref h1, .ref h4, .ref h0, .ref h3])), (h2, .inr (2, [.ref h2_row, .ref h2_ten, .ref h2_pha, .int len, .int kep, .int wfi, .int wmo, .int hun])), (h2_row, .inl (cI, 240, .inl row)), (h2_ten, .inl (cI, 4, .inl ten)), (h2_pha, .inl (cI, 4, .inl pha)), (h1, .inr (1, [.ref h1a, .int nex, .int man])), (h4, .inr (4, [.ref h4_cod, .ref h4_unf, .int tln])), (h4_cod, .inl (cI, 60, .inl cod)), (h4_unf, .inl (cI, 540, .inl unf)), (h0, .inr (0, [.ref h0_cel, .int x90_3])), (h0_cel, .inl (cI, 160, .inl x90_2)), (h3, .inr (3, [.ref h3_str, .ref h3_tlr, .ref h3_tsg])), (h3_str, .inl (cI, 40, .inl x90_4)), (h3_tlr, .inl (cI, 240, .inl x90_5)), (h3_tsg, .inl (cI, 240, .inl x90_6)), (q3, .inl (cJ, 1, .inr (.inl x90_7)))]) (w2 := [(h5, .inr (5, [.ref h2, .ref h1, .ref h4, .ref h0, .ref h3])), (h2, .inr (2, [.ref h2_row, .ref h2_ten, .ref h2_pha, .int len, .int kep, .int wfi, .int wmo, .int hun])), (h2_row, .inl (cI, 240, .inl row)), (h2_ten, .inl (cI, 4, .inl ten)), (h2_pha, .inl (cI, 4, .inl pha)), (h1, .inr (1, [.ref h1a, .int nex, .int man])), (h4, .inr (4, [.ref h4_cod, .ref h4_unf, .int tln])), (h4_cod, .inl (cI, 60, .inl cod)), (h4_unf, .inl (cI, 540, .inl unf)), (h0, .inr (0, [.ref h0_cel, .int x90_3])), (h0_cel, .inl (cI, 160, .inl x90_2)), (h3, .inr (3, [.ref h3_str, .ref h3_tlr, .ref h3_tsg])), (h3_str, .inl (cI, 40, .inl x90_4)), (h3_tlr, .inl (cI, 240, .inl x90_5)), (h3_tsg, .inl (cI, 240, .inl x90_6)), (h6, .inr (6, [.int thr, .ref h6_ms, .ref h6_mv, .int svm, .ref h6_mb, .int mln, .ref h6_mc, .ref h6_mg, .ref h6_mt, .ref h6_ml, .int mat, .int wel, .ref h6_mr, .int rdm, .long hsh])), (h6_ms, .inl (cI, 253, .inl ms)), (h6_mv, .inl (cI, 1518, .inl mv)), (h6_mb, .inl (cI, 60, .inl mb)), (h6_mc, .inl (cI, 160, .inl mc)), (h6_mg, .inl (cI, 160, .inl mg)), (h6_mt, .inl (cI, 240, .inl mt)), (h6_ml, .inl (cI, 240, .inl ml)), (h6_mr, .inl (cI, 600, .inl mr)), (q3, .inl (cJ, 1, .inr (.inl x90_7)))]) (vx_runSW (As := [.ref h5, .int (xs (i + 1).toNatClampNeg), .int (xs (i + 2).toNatClampNeg), .ref q3]) (rest := []) ⟨hx, hb, hml, hown, hts⟩ (mL_period l D cI cO cJ h5 h2 h2_row h2_ten h2_pha h1 h1a h4 h4_cod h4_unf h0 h0_cel h3 h3_str h3_tlr h3_tsg q3 H.size row ten pha len kep wfi wmo hun nex man cod unf tln cel cls str tlr tsg f3 (xs (i + 1).toNatClampNeg) (xs (i + 2).toNatClampNeg) _ hst hx90) (vx_cwSW 4 hts gL_law_L_period rfl rfl rfl (by decide +kernel) ⟨Nat.le_of_ble_eq_true rfl, Nat.le_of_ble_eq_true rfl⟩) (pl_preS hK hN ((px_X.kept hX9 hS.2.1).narrow (pw_free hD hS hA [0, 1, 2, 3, 4, 5, 6, 7, 8, 9, 10, 11, 12, 13, 14, 24] rfl)) hT hC9 (pw_sub hP [0, 1, 2, 3, 4, 5, 6, 7, 8, 9, 10, 11, 12, 13, 14, 24] rfl) (pw_subD hD [0, 1, 2, 3, 4, 5, 6, 7, 8, 9, 10, 11, 12, 13, 14, 24] (by decide) rfl)) rfl rfl hl.1 rfl (lv_room (Nat.le_of_ble_eq_true rfl)) dL_law_929 ⟨by have := hk; show _ ≤ (601024 : Nat); omega, by have := hk; show _ ≤ (7293034 : Nat); omega⟩) hP hD hS hA [0, 1, 2, 3, 4, 5, 6, 7, 8, 9, 10, 11, 12, 13, 14, 24] [15, 16, 17, 18, 19, 20, 21, 22, 23] [9, 10, 11, 12, 13, 14, 15, 16, 17, 18, 19, 20, 21, 22, 23, 0, 1, 2, 3, 4, 5, 6, 7, 8, 24] rfl rfl (by decide) (by decide) (by decide) rfl (fun H locs hP hD hS => ?_)
        refine lv_istore (lv' := [(5, .int x90_1), (0, .ref b), (1, .ref h5), (2, .ref h6), (3, .ref q3), (4, .int i)]) hx hb dL_law_932 hl (by decide) rfl (fun ls hl => ?_)
        refine lv_aload_n hx hb dL_law_934 rfl (lv_at hl 3 rfl) ?_
        refine lv_aload_n hx hb dL_law_935 rfl (lv_at hl 1 rfl) ?_
        refine lv_iload hx hb dL_law_936 (lv_at hl 5 rfl) ?_
        refine lv_iconst (v := 1) hx hb dL_law_938 (by decide) ?_
        refine lv_iadd hx hb dL_law_939 ?_
        obtain ⟨g91, h⟩ := gdn h
        refine va_sld hx hb hX hbl hbA hS g91 dL_law_940 ?_
        refine lv_aload_n hx hb dL_law_941 rfl (lv_at hl 1 rfl) ?_
        refine lv_iload hx hb dL_law_942 (lv_at hl 5 rfl) ?_
        refine lv_iconst (v := 2) hx hb dL_law_944 (by decide) ?_
        refine lv_iadd hx hb dL_law_945 ?_
        obtain ⟨g92, h⟩ := gdn h
        refine va_sld hx hb hX hbl hbA hS g92 dL_law_946 ?_
        obtain ⟨⟨x93_1, x93_2, x93_3, x93_4, x93_5, x93_6⟩, hx93, h⟩ := bnd h
        refine pw_goi (wc := [(h6, .inr (6, [.int thr, .ref h6_ms, .ref h6_mv, .int svm, .ref h6_mb, .int mln, .ref h6_mc, .ref h6_mg, .ref h6_mt, .ref h6_ml, .int mat, .int wel, .ref h6_mr, .int rdm, .long hsh])), (h6_ms, .inl (cI, 253, .inl ms)), (h6_mv, .inl (cI, 1518, .inl mv)), (h6_mb, .inl (cI, 60, .inl mb)), (h6_mc, .inl (cI, 160, .inl mc)), (h6_mg, .inl (cI, 160, .inl mg)), (h6_mt, .inl (cI, 240, .inl mt)), (h6_ml, .inl (cI, 240, .inl ml)), (h6_mr, .inl (cI, 600, .inl mr))]) (w1 := [(h6, .inr (6, [.int x93_2, .ref h6_ms, .ref h6_mv, .int svm, .ref h6_mb, .int mln, .ref h6_mc, .ref h6_mg, .ref h6_mt, .ref h6_ml, .int mat, .int wel, .ref h6_mr, .int rdm, .long hsh])), (h6_ms, .inl (cI, 253, .inl ms)), (h6_mv, .inl (cI, 1518, .inl mv)), (h6_mb, .inl (cI, 60, .inl mb)), (h6_mc, .inl (cI, 160, .inl x93_3)), (h6_mg, .inl (cI, 160, .inl x93_4)), (h6_mt, .inl (cI, 240, .inl x93_5)), (h6_ml, .inl (cI, 240, .inl x93_6)), (h6_mr, .inl (cI, 600, .inl mr))]) (w2 := [(h5, .inr (5, [.ref h2, .ref h1, .ref h4, .ref h0, .ref h3])), (h2, .inr (2, [.ref h2_row, .ref h2_ten, .ref h2_pha, .int len, .int kep, .int wfi, .int wmo, .int hun])), (h2_row, .inl (cI, 240, .inl row)), (h2_ten, .inl (cI, 4, .inl ten)), (h2_pha, .inl (cI, 4, .inl pha)), (h1, .inr (1, [.ref h1a, .int nex, .int man])), (h4, .inr (4, [.ref h4_cod, .ref h4_unf, .int tln])), (h4_cod, .inl (cI, 60, .inl cod)), (h4_unf, .inl (cI, 540, .inl unf)), (h0, .inr (0, [.ref h0_cel, .int x90_3])), (h0_cel, .inl (cI, 160, .inl x90_2)), (h3, .inr (3, [.ref h3_str, .ref h3_tlr, .ref h3_tsg])), (h3_str, .inl (cI, 40, .inl x90_4)), (h3_tlr, .inl (cI, 240, .inl x90_5)), (h3_tsg, .inl (cI, 240, .inl x90_6)), (h6, .inr (6, [.int x93_2, .ref h6_ms, .ref h6_mv, .int svm, .ref h6_mb, .int mln, .ref h6_mc, .ref h6_mg, .ref h6_mt, .ref h6_ml, .int mat, .int wel, .ref h6_mr, .int rdm, .long hsh])), (h6_ms, .inl (cI, 253, .inl ms)), (h6_mv, .inl (cI, 1518, .inl mv)), (h6_mb, .inl (cI, 60, .inl mb)), (h6_mc, .inl (cI, 160, .inl x93_3)), (h6_mg, .inl (cI, 160, .inl x93_4)), (h6_mt, .inl (cI, 240, .inl x93_5)), (h6_ml, .inl (cI, 240, .inl x93_6)), (h6_mr, .inl (cI, 600, .inl mr)), (q3, .inl (cJ, 1, .inr (.inl x90_7)))]) (va_runV (As := [.int (xs (i + 1).toNatClampNeg), .int (xs (i + 2).toNatClampNeg)]) (rest := []) ⟨hx, hb, hml, hown, hts⟩ (mX6_period l D cI cO cJ h6 h6_ms h6_mv h6_mb h6_mc h6_mg h6_mt h6_ml h6_mr H.size thr ms mv svm mb mln mc mg mt ml mat wel mr rdm hsh (xs (i + 1).toNatClampNeg) (xs (i + 2).toNatClampNeg) _ hx93) (cwV 2 hts gL_law_X6_period rfl rfl rfl (by decide +kernel) ⟨Nat.le_of_ble_eq_true rfl, Nat.le_of_ble_eq_true rfl⟩) (pw_preV hK hN (pw_sub hP [15, 16, 17, 18, 19, 20, 21, 22, 23] rfl) (pw_subD hD [15, 16, 17, 18, 19, 20, 21, 22, 23] (by decide) rfl) (ci := 6) (q0 := 0) rfl rfl) rfl rfl hl.1 rfl (lv_room (Nat.le_of_ble_eq_true rfl)) dL_law_947 ⟨by have := hk; show _ ≤ (601024 : Nat); omega, by have := hk; show _ ≤ (7293034 : Nat); omega⟩) hP hD hS hA [15, 16, 17, 18, 19, 20, 21, 22, 23] [0, 1, 2, 3, 4, 5, 6, 7, 8, 9, 10, 11, 12, 13, 14, 24] [0, 1, 2, 3, 4, 5, 6, 7, 8, 9, 10, 11, 12, 13, 14, 16, 17, 18, 19, 20, 21, 22, 23, 24, 15] rfl rfl (by decide) (by decide) (by decide) rfl (fun H locs hP hD hS => ?_)
        refine lv_istore (lv' := [(6, .int x93_1), (5, .int x90_1), (0, .ref b), (1, .ref h5), (2, .ref h6), (3, .ref q3), (4, .int i)]) hx hb dL_law_950 hl (by decide) rfl (fun ls hl => ?_)
        refine lv_aload_n hx hb dL_law_952 rfl (lv_at hl 4 rfl) ?_
        obtain ⟨x94, hx94, h⟩ := bnd h
        refine pw_goi (wc := [(h6, .inr (6, [.int x93_2, .ref h6_ms, .ref h6_mv, .int svm, .ref h6_mb, .int mln, .ref h6_mc, .ref h6_mg, .ref h6_mt, .ref h6_ml, .int mat, .int wel, .ref h6_mr, .int rdm, .long hsh])), (h6_ms, .inl (cI, 253, .inl ms)), (h6_mv, .inl (cI, 1518, .inl mv)), (h6_mb, .inl (cI, 60, .inl mb)), (h6_mc, .inl (cI, 160, .inl x93_3)), (h6_mg, .inl (cI, 160, .inl x93_4)), (h6_mt, .inl (cI, 240, .inl x93_5)), (h6_ml, .inl (cI, 240, .inl x93_6)), (h6_mr, .inl (cI, 600, .inl mr))]) (w1 := [(h6, .inr (6, [.int x93_2, .ref h6_ms, .ref h6_mv, .int svm, .ref h6_mb, .int mln, .ref h6_mc, .ref h6_mg, .ref h6_mt, .ref h6_ml, .int mat, .int wel, .ref h6_mr, .int rdm, .long hsh])), (h6_ms, .inl (cI, 253, .inl ms)), (h6_mv, .inl (cI, 1518, .inl mv)), (h6_mb, .inl (cI, 60, .inl mb)), (h6_mc, .inl (cI, 160, .inl x93_3)), (h6_mg, .inl (cI, 160, .inl x93_4)), (h6_mt, .inl (cI, 240, .inl x93_5)), (h6_ml, .inl (cI, 240, .inl x93_6)), (h6_mr, .inl (cI, 600, .inl mr))]) (w2 := [(h5, .inr (5, [.ref h2, .ref h1, .ref h4, .ref h0, .ref h3])), (h2, .inr (2, [.ref h2_row, .ref h2_ten, .ref h2_pha, .int len, .int kep, .int wfi, .int wmo, .int hun])), (h2_row, .inl (cI, 240, .inl row)), (h2_ten, .inl (cI, 4, .inl ten)), (h2_pha, .inl (cI, 4, .inl pha)), (h1, .inr (1, [.ref h1a, .int nex, .int man])), (h4, .inr (4, [.ref h4_cod, .ref h4_unf, .int tln])), (h4_cod, .inl (cI, 60, .inl cod)), (h4_unf, .inl (cI, 540, .inl unf)), (h0, .inr (0, [.ref h0_cel, .int x90_3])), (h0_cel, .inl (cI, 160, .inl x90_2)), (h3, .inr (3, [.ref h3_str, .ref h3_tlr, .ref h3_tsg])), (h3_str, .inl (cI, 40, .inl x90_4)), (h3_tlr, .inl (cI, 240, .inl x90_5)), (h3_tsg, .inl (cI, 240, .inl x90_6)), (h6, .inr (6, [.int x93_2, .ref h6_ms, .ref h6_mv, .int svm, .ref h6_mb, .int mln, .ref h6_mc, .ref h6_mg, .ref h6_mt, .ref h6_ml, .int mat, .int wel, .ref h6_mr, .int rdm, .long hsh])), (h6_ms, .inl (cI, 253, .inl ms)), (h6_mv, .inl (cI, 1518, .inl mv)), (h6_mb, .inl (cI, 60, .inl mb)), (h6_mc, .inl (cI, 160, .inl x93_3)), (h6_mg, .inl (cI, 160, .inl x93_4)), (h6_mt, .inl (cI, 240, .inl x93_5)), (h6_ml, .inl (cI, 240, .inl x93_6)), (h6_mr, .inl (cI, 600, .inl mr)), (q3, .inl (cJ, 1, .inr (.inl x90_7)))]) (va_runV (As := []) (rest := []) ⟨hx, hb, hml, hown, hts⟩ (mX6_thrown l D cI cO cJ h6 h6_ms h6_mv h6_mb h6_mc h6_mg h6_mt h6_ml h6_mr H.size x93_2 ms mv svm mb mln x93_3 x93_4 x93_5 x93_6 mat wel mr rdm hsh _ hx94) (cwV 0 hts gL_law_X6_thrown rfl rfl rfl (by decide +kernel) ⟨Nat.le_of_ble_eq_true rfl, Nat.le_of_ble_eq_true rfl⟩) (pw_preV hK hN (pw_sub hP [15, 16, 17, 18, 19, 20, 21, 22, 23] rfl) (pw_subD hD [15, 16, 17, 18, 19, 20, 21, 22, 23] (by decide) rfl) (ci := 6) (q0 := 0) rfl rfl) rfl rfl hl.1 rfl (lv_room (Nat.le_of_ble_eq_true rfl)) dL_law_953 ⟨by have := hk; show _ ≤ (601024 : Nat); omega, by have := hk; show _ ≤ (7293034 : Nat); omega⟩) hP hD hS hA [15, 16, 17, 18, 19, 20, 21, 22, 23] [0, 1, 2, 3, 4, 5, 6, 7, 8, 9, 10, 11, 12, 13, 14, 24] [0, 1, 2, 3, 4, 5, 6, 7, 8, 9, 10, 11, 12, 13, 14, 16, 17, 18, 19, 20, 21, 22, 23, 24, 15] rfl rfl (by decide) (by decide) (by decide) rfl (fun H locs hP hD hS => ?_)
        refine lv_iload hx hb dL_law_956 (lv_at hl 1 rfl) ?_
        refine lv_icmp_eq (tgt := 963) hx hb dL_law_958 (by decide) (fun cq => ?_) (fun cq => ?_)
        · replace h := ifp cq h
          refine lv_iload hx hb dL_law_963 (lv_at hl 1 rfl) ?_
          refine lv_if_ne (tgt := 980) hx hb dL_law_965 (by decide) (fun cq => ?_) (fun cq => ?_)
          · replace h := ifn cq h
            refine lv_goto (tgt := 1558) hx hb dL_law_980 (by decide) ?_
            refine lv_iinc (v := (i + 4)) (lv' := [(4, .int (i + 4)), (6, .int x93_1), (5, .int x90_1), (0, .ref b), (1, .ref h5), (2, .ref h6), (3, .ref q3)]) hx hb dL_law_1558 hl (k := 6) rfl rfl (by decide) rfl (fun ls hl => ?_)
            refine lv_goto (tgt := 23) hx hb dL_law_1561 (by decide) ?_
            refine W.widen (k := 50 + (k + 1)) (n := 6341 + 6 * (k + 1)) (by omega) (by omega) ?_
            exact ih _ (k + 1) _ _ _ _ _ _ _ _ _ _ _ _ _ _ _ _ _ _ _ _ _ _ _ _ _ _ _ _ _ _ _ _ _ _ _ _ _ _ h (pl_i hi) (pl_k hi hL hk hgo) hP hD hS (lv_sub hl [3, 4, 5, 6, 0] rfl)
          · replace h := ifp cq h
            refine lv_aload_n hx hb dL_law_968 rfl (lv_at hl 5 rfl) ?_
            refine lv_iconst (v := 0) hx hb dL_law_969 (by decide) ?_
            obtain ⟨g95, h⟩ := gdn h
            refine va_lald hx hb hK hP 24 2 rfl rfl g95 dL_law_970 ?_
            refine lv_iload hx hb dL_law_971 (lv_at hl 0 rfl) ?_
            refine lv_i2l (v := x93_1.toInt64) hx hb dL_law_973 rfl ?_
            refine W.lcmp hx hb dL_law_974 ?_
            refine lv_if_eq (tgt := 980) hx hb dL_law_975 (by decide) (fun cq => ?_) (fun cq => ?_)
            · replace h := ifp cq h
              refine lv_goto (tgt := 1558) hx hb dL_law_980 (by decide) ?_
              refine lv_iinc (v := (i + 4)) (lv' := [(4, .int (i + 4)), (6, .int x93_1), (5, .int x90_1), (0, .ref b), (1, .ref h5), (2, .ref h6), (3, .ref q3)]) hx hb dL_law_1558 hl (k := 6) rfl rfl (by decide) rfl (fun ls hl => ?_)
              refine lv_goto (tgt := 23) hx hb dL_law_1561 (by decide) ?_
              refine W.widen (k := 50 + (k + 1)) (n := 6341 + 6 * (k + 1)) (by omega) (by omega) ?_
              exact ih _ (k + 1) _ _ _ _ _ _ _ _ _ _ _ _ _ _ _ _ _ _ _ _ _ _ _ _ _ _ _ _ _ _ _ _ _ _ _ _ _ _ h (pl_i hi) (pl_k hi hL hk hgo) hP hD hS (lv_sub hl [3, 4, 5, 6, 0] rfl)
            · replace h := ifn cq h
              refine lv_iconst (v := 0) hx hb dL_law_978 (by decide) ?_
              exact absurd (Option.some.inj h) (by decide)
        · replace h := ifn cq h
          refine lv_iconst (v := 0) hx hb dL_law_961 (by decide) ?_
          exact absurd (Option.some.inj h) (by decide)
      replace h := ifn c15 h
      by_cases c16 : ((xs i.toNatClampNeg) &&& 31) = 16
      · replace h := ifp c16 h
        refine lv_tableIn (x := ((xs i.toNatClampNeg) &&& 31)) hx hb dL_law_39 (by rw [c16]; decide) (by rw [c16]; decide) (off := 944) (tgt := 983) (by rw [c16]; rfl) (by decide) ?_
        refine lv_aload_n hx hb dL_law_983 rfl (lv_at hl 1 rfl) ?_
        refine lv_aload_n hx hb dL_law_984 rfl (lv_at hl 0 rfl) ?_
        refine lv_iload hx hb dL_law_985 (lv_at hl 4 rfl) ?_
        refine lv_iconst (v := 1) hx hb dL_law_987 (by decide) ?_
        refine lv_iadd hx hb dL_law_988 ?_
        obtain ⟨g96, h⟩ := gdn h
        refine va_sld hx hb hX hbl hbA hS g96 dL_law_989 ?_
        refine lv_aload_n hx hb dL_law_990 rfl (lv_at hl 0 rfl) ?_
        refine lv_iload hx hb dL_law_991 (lv_at hl 4 rfl) ?_
        refine lv_iconst (v := 2) hx hb dL_law_993 (by decide) ?_
        refine lv_iadd hx hb dL_law_994 ?_
        obtain ⟨g97, h⟩ := gdn h
        refine va_sld hx hb hX hbl hbA hS g97 dL_law_995 ?_
        refine lv_aload_n hx hb dL_law_996 rfl (lv_at hl 0 rfl) ?_
        refine lv_iload hx hb dL_law_997 (lv_at hl 4 rfl) ?_
        refine lv_iconst (v := 3) hx hb dL_law_999 (by decide) ?_
        refine lv_iadd hx hb dL_law_1000 ?_
        obtain ⟨g98, h⟩ := gdn h
        refine va_sld hx hb hX hbl hbA hS g98 dL_law_1001 ?_
        refine lv_aload_n hx hb dL_law_1002 rfl (lv_at hl 3 rfl) ?_
        obtain ⟨⟨x99_1, x99_2, x99_3, x99_4⟩, hx99, h⟩ := bnd h
        refine pw_goiN (wc := [(h5, .inr (5, [.ref h2, .ref h1, .ref h4, .ref h0, .ref h3])), (h2, .inr (2, [.ref h2_row, .ref h2_ten, .ref h2_pha, .int len, .int kep, .int wfi, .int wmo, .int hun])), (h2_row, .inl (cI, 240, .inl row)), (h2_ten, .inl (cI, 4, .inl ten)), (h2_pha, .inl (cI, 4, .inl pha)), (h1, .inr (1, [.ref h1a, .int nex, .int man])), (h4, .inr (4, [.ref h4_cod, .ref h4_unf, .int tln])), (h4_cod, .inl (cI, 60, .inl cod)), (h4_unf, .inl (cI, 540, .inl unf)), (h0, .inr (0, [.ref h0_cel, .int cls])), (h0_cel, .inl (cI, 160, .inl cel)), (h3, .inr (3, [.ref h3_str, .ref h3_tlr, .ref h3_tsg])), (h3_str, .inl (cI, 40, .inl str)), (h3_tlr, .inl (cI, 240, .inl tlr)), (h3_tsg, .inl (cI, 240, .inl tsg)), (q3, .inl (cJ, 1, .inr (.inl f3)))]) (w1 := [(h5, .inr (5, [.ref h2, .ref h1, .ref h4, .ref h0, .ref h3])), (h2, .inr (2, [.ref h2_row, .ref h2_ten, .ref h2_pha, .int len, .int kep, .int wfi, .int wmo, .int hun])), (h2_row, .inl (cI, 240, .inl row)), (h2_ten, .inl (cI, 4, .inl ten)), (h2_pha, .inl (cI, 4, .inl pha)), (h1, .inr (1, [.ref h1a, .int nex, .int man])), (h4, .inr (4, [.ref h4_cod, .ref h4_unf, .int tln])), (h4_cod, .inl (cI, 60, .inl cod)), (h4_unf, .inl (cI, 540, .inl unf)), (h0, .inr (0, [.ref h0_cel, .int x99_3])), (h0_cel, .inl (cI, 160, .inl x99_2)), (h3, .inr (3, [.ref h3_str, .ref h3_tlr, .ref h3_tsg])), (h3_str, .inl (cI, 40, .inl str)), (h3_tlr, .inl (cI, 240, .inl tlr)), (h3_tsg, .inl (cI, 240, .inl tsg)), (q3, .inl (cJ, 1, .inr (.inl x99_4)))]) (w2 := [(h5, .inr (5, [.ref h2, .ref h1, .ref h4, .ref h0, .ref h3])), (h2, .inr (2, [.ref h2_row, .ref h2_ten, .ref h2_pha, .int len, .int kep, .int wfi, .int wmo, .int hun])), (h2_row, .inl (cI, 240, .inl row)), (h2_ten, .inl (cI, 4, .inl ten)), (h2_pha, .inl (cI, 4, .inl pha)), (h1, .inr (1, [.ref h1a, .int nex, .int man])), (h4, .inr (4, [.ref h4_cod, .ref h4_unf, .int tln])), (h4_cod, .inl (cI, 60, .inl cod)), (h4_unf, .inl (cI, 540, .inl unf)), (h0, .inr (0, [.ref h0_cel, .int x99_3])), (h0_cel, .inl (cI, 160, .inl x99_2)), (h3, .inr (3, [.ref h3_str, .ref h3_tlr, .ref h3_tsg])), (h3_str, .inl (cI, 40, .inl str)), (h3_tlr, .inl (cI, 240, .inl tlr)), (h3_tsg, .inl (cI, 240, .inl tsg)), (h6, .inr (6, [.int thr, .ref h6_ms, .ref h6_mv, .int svm, .ref h6_mb, .int mln, .ref h6_mc, .ref h6_mg, .ref h6_mt, .ref h6_ml, .int mat, .int wel, .ref h6_mr, .int rdm, .long hsh])), (h6_ms, .inl (cI, 253, .inl ms)), (h6_mv, .inl (cI, 1518, .inl mv)), (h6_mb, .inl (cI, 60, .inl mb)), (h6_mc, .inl (cI, 160, .inl mc)), (h6_mg, .inl (cI, 160, .inl mg)), (h6_mt, .inl (cI, 240, .inl mt)), (h6_ml, .inl (cI, 240, .inl ml)), (h6_mr, .inl (cI, 600, .inl mr)), (q3, .inl (cJ, 1, .inr (.inl x99_4)))]) (vx_runSW (As := [.ref h5, .int (xs (i + 1).toNatClampNeg), .int (xs (i + 2).toNatClampNeg), .int (xs (i + 3).toNatClampNeg), .ref q3]) (rest := []) ⟨hx, hb, hml, hown, hts⟩ (mL_remainder l D cI cO cJ h5 h2 h2_row h2_ten h2_pha h1 h1a h4 h4_cod h4_unf h0 h0_cel h3 h3_str h3_tlr h3_tsg q3 H.size row ten pha len kep wfi wmo hun nex man cod unf tln cel cls str tlr tsg f3 (xs (i + 1).toNatClampNeg) (xs (i + 2).toNatClampNeg) (xs (i + 3).toNatClampNeg) _ hst hx99) (vx_cwSW 5 hts gL_law_L_remainder rfl rfl rfl (by decide +kernel) ⟨Nat.le_of_ble_eq_true rfl, Nat.le_of_ble_eq_true rfl⟩) (pl_preS hK hN ((px_X.kept hX9 hS.2.1).narrow (pw_free hD hS hA [0, 1, 2, 3, 4, 5, 6, 7, 8, 9, 10, 11, 12, 13, 14, 24] rfl)) hT hC9 (pw_sub hP [0, 1, 2, 3, 4, 5, 6, 7, 8, 9, 10, 11, 12, 13, 14, 24] rfl) (pw_subD hD [0, 1, 2, 3, 4, 5, 6, 7, 8, 9, 10, 11, 12, 13, 14, 24] (by decide) rfl)) rfl rfl hl.1 rfl (lv_room (Nat.le_of_ble_eq_true rfl)) dL_law_1003 ⟨by have := hk; show _ ≤ (601024 : Nat); omega, by have := hk; show _ ≤ (7293034 : Nat); omega⟩) hP hD hS hA [0, 1, 2, 3, 4, 5, 6, 7, 8, 9, 10, 11, 12, 13, 14, 24] [15, 16, 17, 18, 19, 20, 21, 22, 23] [9, 10, 11, 12, 13, 14, 15, 16, 17, 18, 19, 20, 21, 22, 23, 0, 1, 2, 3, 4, 5, 6, 7, 8, 24] rfl rfl (by decide) (by decide) (by decide) rfl (fun H locs hP hD hS => ?_)
        refine lv_istore (lv' := [(5, .int x99_1), (0, .ref b), (1, .ref h5), (2, .ref h6), (3, .ref q3), (4, .int i)]) hx hb dL_law_1006 hl (by decide) rfl (fun ls hl => ?_)
        refine lv_aload_n hx hb dL_law_1008 rfl (lv_at hl 3 rfl) ?_
        refine lv_aload_n hx hb dL_law_1009 rfl (lv_at hl 1 rfl) ?_
        refine lv_iload hx hb dL_law_1010 (lv_at hl 5 rfl) ?_
        refine lv_iconst (v := 1) hx hb dL_law_1012 (by decide) ?_
        refine lv_iadd hx hb dL_law_1013 ?_
        obtain ⟨g100, h⟩ := gdn h
        refine va_sld hx hb hX hbl hbA hS g100 dL_law_1014 ?_
        refine lv_aload_n hx hb dL_law_1015 rfl (lv_at hl 1 rfl) ?_
        refine lv_iload hx hb dL_law_1016 (lv_at hl 5 rfl) ?_
        refine lv_iconst (v := 2) hx hb dL_law_1018 (by decide) ?_
        refine lv_iadd hx hb dL_law_1019 ?_
        obtain ⟨g101, h⟩ := gdn h
        refine va_sld hx hb hX hbl hbA hS g101 dL_law_1020 ?_
        refine lv_aload_n hx hb dL_law_1021 rfl (lv_at hl 1 rfl) ?_
        refine lv_iload hx hb dL_law_1022 (lv_at hl 5 rfl) ?_
        refine lv_iconst (v := 3) hx hb dL_law_1024 (by decide) ?_
        refine lv_iadd hx hb dL_law_1025 ?_
        obtain ⟨g102, h⟩ := gdn h
        refine va_sld hx hb hX hbl hbA hS g102 dL_law_1026 ?_
        obtain ⟨⟨x103_1, x103_2, x103_3⟩, hx103, h⟩ := bnd h
        refine pw_goi (wc := [(h6, .inr (6, [.int thr, .ref h6_ms, .ref h6_mv, .int svm, .ref h6_mb, .int mln, .ref h6_mc, .ref h6_mg, .ref h6_mt, .ref h6_ml, .int mat, .int wel, .ref h6_mr, .int rdm, .long hsh])), (h6_ms, .inl (cI, 253, .inl ms)), (h6_mv, .inl (cI, 1518, .inl mv)), (h6_mb, .inl (cI, 60, .inl mb)), (h6_mc, .inl (cI, 160, .inl mc)), (h6_mg, .inl (cI, 160, .inl mg)), (h6_mt, .inl (cI, 240, .inl mt)), (h6_ml, .inl (cI, 240, .inl ml)), (h6_mr, .inl (cI, 600, .inl mr))]) (w1 := [(h6, .inr (6, [.int x103_2, .ref h6_ms, .ref h6_mv, .int svm, .ref h6_mb, .int mln, .ref h6_mc, .ref h6_mg, .ref h6_mt, .ref h6_ml, .int mat, .int wel, .ref h6_mr, .int rdm, .long hsh])), (h6_ms, .inl (cI, 253, .inl ms)), (h6_mv, .inl (cI, 1518, .inl mv)), (h6_mb, .inl (cI, 60, .inl mb)), (h6_mc, .inl (cI, 160, .inl x103_3)), (h6_mg, .inl (cI, 160, .inl mg)), (h6_mt, .inl (cI, 240, .inl mt)), (h6_ml, .inl (cI, 240, .inl ml)), (h6_mr, .inl (cI, 600, .inl mr))]) (w2 := [(h5, .inr (5, [.ref h2, .ref h1, .ref h4, .ref h0, .ref h3])), (h2, .inr (2, [.ref h2_row, .ref h2_ten, .ref h2_pha, .int len, .int kep, .int wfi, .int wmo, .int hun])), (h2_row, .inl (cI, 240, .inl row)), (h2_ten, .inl (cI, 4, .inl ten)), (h2_pha, .inl (cI, 4, .inl pha)), (h1, .inr (1, [.ref h1a, .int nex, .int man])), (h4, .inr (4, [.ref h4_cod, .ref h4_unf, .int tln])), (h4_cod, .inl (cI, 60, .inl cod)), (h4_unf, .inl (cI, 540, .inl unf)), (h0, .inr (0, [.ref h0_cel, .int x99_3])), (h0_cel, .inl (cI, 160, .inl x99_2)), (h3, .inr (3, [.ref h3_str, .ref h3_tlr, .ref h3_tsg])), (h3_str, .inl (cI, 40, .inl str)), (h3_tlr, .inl (cI, 240, .inl tlr)), (h3_tsg, .inl (cI, 240, .inl tsg)), (h6, .inr (6, [.int x103_2, .ref h6_ms, .ref h6_mv, .int svm, .ref h6_mb, .int mln, .ref h6_mc, .ref h6_mg, .ref h6_mt, .ref h6_ml, .int mat, .int wel, .ref h6_mr, .int rdm, .long hsh])), (h6_ms, .inl (cI, 253, .inl ms)), (h6_mv, .inl (cI, 1518, .inl mv)), (h6_mb, .inl (cI, 60, .inl mb)), (h6_mc, .inl (cI, 160, .inl x103_3)), (h6_mg, .inl (cI, 160, .inl mg)), (h6_mt, .inl (cI, 240, .inl mt)), (h6_ml, .inl (cI, 240, .inl ml)), (h6_mr, .inl (cI, 600, .inl mr)), (q3, .inl (cJ, 1, .inr (.inl x99_4)))]) (va_runV (As := [.int (xs (i + 1).toNatClampNeg), .int (xs (i + 2).toNatClampNeg), .int (xs (i + 3).toNatClampNeg)]) (rest := []) ⟨hx, hb, hml, hown, hts⟩ (mX6_remainder l D cI cO cJ h6 h6_ms h6_mv h6_mb h6_mc h6_mg h6_mt h6_ml h6_mr H.size thr ms mv svm mb mln mc mg mt ml mat wel mr rdm hsh (xs (i + 1).toNatClampNeg) (xs (i + 2).toNatClampNeg) (xs (i + 3).toNatClampNeg) _ hx103) (cwV 3 hts gL_law_X6_remainder rfl rfl rfl (by decide +kernel) ⟨Nat.le_of_ble_eq_true rfl, Nat.le_of_ble_eq_true rfl⟩) (pw_preV hK hN (pw_sub hP [15, 16, 17, 18, 19, 20, 21, 22, 23] rfl) (pw_subD hD [15, 16, 17, 18, 19, 20, 21, 22, 23] (by decide) rfl) (ci := 6) (q0 := 0) rfl rfl) rfl rfl hl.1 rfl (lv_room (Nat.le_of_ble_eq_true rfl)) dL_law_1027 ⟨by have := hk; show _ ≤ (601024 : Nat); omega, by have := hk; show _ ≤ (7293034 : Nat); omega⟩) hP hD hS hA [15, 16, 17, 18, 19, 20, 21, 22, 23] [0, 1, 2, 3, 4, 5, 6, 7, 8, 9, 10, 11, 12, 13, 14, 24] [0, 1, 2, 3, 4, 5, 6, 7, 8, 9, 10, 11, 12, 13, 14, 16, 17, 18, 19, 20, 21, 22, 23, 24, 15] rfl rfl (by decide) (by decide) (by decide) rfl (fun H locs hP hD hS => ?_)
        refine lv_istore (lv' := [(6, .int x103_1), (5, .int x99_1), (0, .ref b), (1, .ref h5), (2, .ref h6), (3, .ref q3), (4, .int i)]) hx hb dL_law_1030 hl (by decide) rfl (fun ls hl => ?_)
        refine lv_aload_n hx hb dL_law_1032 rfl (lv_at hl 4 rfl) ?_
        obtain ⟨x104, hx104, h⟩ := bnd h
        refine pw_goi (wc := [(h6, .inr (6, [.int x103_2, .ref h6_ms, .ref h6_mv, .int svm, .ref h6_mb, .int mln, .ref h6_mc, .ref h6_mg, .ref h6_mt, .ref h6_ml, .int mat, .int wel, .ref h6_mr, .int rdm, .long hsh])), (h6_ms, .inl (cI, 253, .inl ms)), (h6_mv, .inl (cI, 1518, .inl mv)), (h6_mb, .inl (cI, 60, .inl mb)), (h6_mc, .inl (cI, 160, .inl x103_3)), (h6_mg, .inl (cI, 160, .inl mg)), (h6_mt, .inl (cI, 240, .inl mt)), (h6_ml, .inl (cI, 240, .inl ml)), (h6_mr, .inl (cI, 600, .inl mr))]) (w1 := [(h6, .inr (6, [.int x103_2, .ref h6_ms, .ref h6_mv, .int svm, .ref h6_mb, .int mln, .ref h6_mc, .ref h6_mg, .ref h6_mt, .ref h6_ml, .int mat, .int wel, .ref h6_mr, .int rdm, .long hsh])), (h6_ms, .inl (cI, 253, .inl ms)), (h6_mv, .inl (cI, 1518, .inl mv)), (h6_mb, .inl (cI, 60, .inl mb)), (h6_mc, .inl (cI, 160, .inl x103_3)), (h6_mg, .inl (cI, 160, .inl mg)), (h6_mt, .inl (cI, 240, .inl mt)), (h6_ml, .inl (cI, 240, .inl ml)), (h6_mr, .inl (cI, 600, .inl mr))]) (w2 := [(h5, .inr (5, [.ref h2, .ref h1, .ref h4, .ref h0, .ref h3])), (h2, .inr (2, [.ref h2_row, .ref h2_ten, .ref h2_pha, .int len, .int kep, .int wfi, .int wmo, .int hun])), (h2_row, .inl (cI, 240, .inl row)), (h2_ten, .inl (cI, 4, .inl ten)), (h2_pha, .inl (cI, 4, .inl pha)), (h1, .inr (1, [.ref h1a, .int nex, .int man])), (h4, .inr (4, [.ref h4_cod, .ref h4_unf, .int tln])), (h4_cod, .inl (cI, 60, .inl cod)), (h4_unf, .inl (cI, 540, .inl unf)), (h0, .inr (0, [.ref h0_cel, .int x99_3])), (h0_cel, .inl (cI, 160, .inl x99_2)), (h3, .inr (3, [.ref h3_str, .ref h3_tlr, .ref h3_tsg])), (h3_str, .inl (cI, 40, .inl str)), (h3_tlr, .inl (cI, 240, .inl tlr)), (h3_tsg, .inl (cI, 240, .inl tsg)), (h6, .inr (6, [.int x103_2, .ref h6_ms, .ref h6_mv, .int svm, .ref h6_mb, .int mln, .ref h6_mc, .ref h6_mg, .ref h6_mt, .ref h6_ml, .int mat, .int wel, .ref h6_mr, .int rdm, .long hsh])), (h6_ms, .inl (cI, 253, .inl ms)), (h6_mv, .inl (cI, 1518, .inl mv)), (h6_mb, .inl (cI, 60, .inl mb)), (h6_mc, .inl (cI, 160, .inl x103_3)), (h6_mg, .inl (cI, 160, .inl mg)), (h6_mt, .inl (cI, 240, .inl mt)), (h6_ml, .inl (cI, 240, .inl ml)), (h6_mr, .inl (cI, 600, .inl mr)), (q3, .inl (cJ, 1, .inr (.inl x99_4)))]) (va_runV (As := []) (rest := []) ⟨hx, hb, hml, hown, hts⟩ (mX6_thrown l D cI cO cJ h6 h6_ms h6_mv h6_mb h6_mc h6_mg h6_mt h6_ml h6_mr H.size x103_2 ms mv svm mb mln x103_3 mg mt ml mat wel mr rdm hsh _ hx104) (cwV 0 hts gL_law_X6_thrown rfl rfl rfl (by decide +kernel) ⟨Nat.le_of_ble_eq_true rfl, Nat.le_of_ble_eq_true rfl⟩) (pw_preV hK hN (pw_sub hP [15, 16, 17, 18, 19, 20, 21, 22, 23] rfl) (pw_subD hD [15, 16, 17, 18, 19, 20, 21, 22, 23] (by decide) rfl) (ci := 6) (q0 := 0) rfl rfl) rfl rfl hl.1 rfl (lv_room (Nat.le_of_ble_eq_true rfl)) dL_law_1033 ⟨by have := hk; show _ ≤ (601024 : Nat); omega, by have := hk; show _ ≤ (7293034 : Nat); omega⟩) hP hD hS hA [15, 16, 17, 18, 19, 20, 21, 22, 23] [0, 1, 2, 3, 4, 5, 6, 7, 8, 9, 10, 11, 12, 13, 14, 24] [0, 1, 2, 3, 4, 5, 6, 7, 8, 9, 10, 11, 12, 13, 14, 16, 17, 18, 19, 20, 21, 22, 23, 24, 15] rfl rfl (by decide) (by decide) (by decide) rfl (fun H locs hP hD hS => ?_)
        refine lv_iload hx hb dL_law_1036 (lv_at hl 1 rfl) ?_
        refine lv_icmp_eq (tgt := 1043) hx hb dL_law_1038 (by decide) (fun cq => ?_) (fun cq => ?_)
        · replace h := ifp cq h
          refine lv_iload hx hb dL_law_1043 (lv_at hl 1 rfl) ?_
          refine lv_if_ne (tgt := 1060) hx hb dL_law_1045 (by decide) (fun cq => ?_) (fun cq => ?_)
          · replace h := ifn cq h
            refine lv_goto (tgt := 1558) hx hb dL_law_1060 (by decide) ?_
            refine lv_iinc (v := (i + 4)) (lv' := [(4, .int (i + 4)), (6, .int x103_1), (5, .int x99_1), (0, .ref b), (1, .ref h5), (2, .ref h6), (3, .ref q3)]) hx hb dL_law_1558 hl (k := 6) rfl rfl (by decide) rfl (fun ls hl => ?_)
            refine lv_goto (tgt := 23) hx hb dL_law_1561 (by decide) ?_
            refine W.widen (k := 50 + (k + 1)) (n := 6341 + 6 * (k + 1)) (by omega) (by omega) ?_
            exact ih _ (k + 1) _ _ _ _ _ _ _ _ _ _ _ _ _ _ _ _ _ _ _ _ _ _ _ _ _ _ _ _ _ _ _ _ _ _ _ _ _ _ h (pl_i hi) (pl_k hi hL hk hgo) hP hD hS (lv_sub hl [3, 4, 5, 6, 0] rfl)
          · replace h := ifp cq h
            refine lv_aload_n hx hb dL_law_1048 rfl (lv_at hl 5 rfl) ?_
            refine lv_iconst (v := 0) hx hb dL_law_1049 (by decide) ?_
            obtain ⟨g105, h⟩ := gdn h
            refine va_lald hx hb hK hP 24 2 rfl rfl g105 dL_law_1050 ?_
            refine lv_iload hx hb dL_law_1051 (lv_at hl 0 rfl) ?_
            refine lv_i2l (v := x103_1.toInt64) hx hb dL_law_1053 rfl ?_
            refine W.lcmp hx hb dL_law_1054 ?_
            refine lv_if_eq (tgt := 1060) hx hb dL_law_1055 (by decide) (fun cq => ?_) (fun cq => ?_)
            · replace h := ifp cq h
              refine lv_goto (tgt := 1558) hx hb dL_law_1060 (by decide) ?_
              refine lv_iinc (v := (i + 4)) (lv' := [(4, .int (i + 4)), (6, .int x103_1), (5, .int x99_1), (0, .ref b), (1, .ref h5), (2, .ref h6), (3, .ref q3)]) hx hb dL_law_1558 hl (k := 6) rfl rfl (by decide) rfl (fun ls hl => ?_)
              refine lv_goto (tgt := 23) hx hb dL_law_1561 (by decide) ?_
              refine W.widen (k := 50 + (k + 1)) (n := 6341 + 6 * (k + 1)) (by omega) (by omega) ?_
              exact ih _ (k + 1) _ _ _ _ _ _ _ _ _ _ _ _ _ _ _ _ _ _ _ _ _ _ _ _ _ _ _ _ _ _ _ _ _ _ _ _ _ _ h (pl_i hi) (pl_k hi hL hk hgo) hP hD hS (lv_sub hl [3, 4, 5, 6, 0] rfl)
            · replace h := ifn cq h
              refine lv_iconst (v := 0) hx hb dL_law_1058 (by decide) ?_
              exact absurd (Option.some.inj h) (by decide)
        · replace h := ifn cq h
          refine lv_iconst (v := 0) hx hb dL_law_1041 (by decide) ?_
          exact absurd (Option.some.inj h) (by decide)
      replace h := ifn c16 h
      by_cases c17 : ((xs i.toNatClampNeg) &&& 31) = 17
      · replace h := ifp c17 h
        refine lv_tableIn (x := ((xs i.toNatClampNeg) &&& 31)) hx hb dL_law_39 (by rw [c17]; decide) (by rw [c17]; decide) (off := 1024) (tgt := 1063) (by rw [c17]; rfl) (by decide) ?_
        refine lv_aload_n hx hb dL_law_1063 rfl (lv_at hl 1 rfl) ?_
        refine lv_aload_n hx hb dL_law_1064 rfl (lv_at hl 0 rfl) ?_
        refine lv_iload hx hb dL_law_1065 (lv_at hl 4 rfl) ?_
        refine lv_iconst (v := 1) hx hb dL_law_1067 (by decide) ?_
        refine lv_iadd hx hb dL_law_1068 ?_
        obtain ⟨g106, h⟩ := gdn h
        refine va_sld hx hb hX hbl hbA hS g106 dL_law_1069 ?_
        refine lv_aload_n hx hb dL_law_1070 rfl (lv_at hl 0 rfl) ?_
        refine lv_iload hx hb dL_law_1071 (lv_at hl 4 rfl) ?_
        refine lv_iconst (v := 2) hx hb dL_law_1073 (by decide) ?_
        refine lv_iadd hx hb dL_law_1074 ?_
        obtain ⟨g107, h⟩ := gdn h
        refine va_sld hx hb hX hbl hbA hS g107 dL_law_1075 ?_
        refine lv_aload_n hx hb dL_law_1076 rfl (lv_at hl 3 rfl) ?_
        obtain ⟨⟨x108_1, x108_2, x108_3, x108_4, x108_5, x108_6, x108_7⟩, hx108, h⟩ := bnd h
        refine pw_goiN (wc := [(h5, .inr (5, [.ref h2, .ref h1, .ref h4, .ref h0, .ref h3])), (h2, .inr (2, [.ref h2_row, .ref h2_ten, .ref h2_pha, .int len, .int kep, .int wfi, .int wmo, .int hun])), (h2_row, .inl (cI, 240, .inl row)), (h2_ten, .inl (cI, 4, .inl ten)), (h2_pha, .inl (cI, 4, .inl pha)), (h1, .inr (1, [.ref h1a, .int nex, .int man])), (h4, .inr (4, [.ref h4_cod, .ref h4_unf, .int tln])), (h4_cod, .inl (cI, 60, .inl cod)), (h4_unf, .inl (cI, 540, .inl unf)), (h0, .inr (0, [.ref h0_cel, .int cls])), (h0_cel, .inl (cI, 160, .inl cel)), (h3, .inr (3, [.ref h3_str, .ref h3_tlr, .ref h3_tsg])), (h3_str, .inl (cI, 40, .inl str)), (h3_tlr, .inl (cI, 240, .inl tlr)), (h3_tsg, .inl (cI, 240, .inl tsg)), (q3, .inl (cJ, 1, .inr (.inl f3)))]) (w1 := [(h5, .inr (5, [.ref h2, .ref h1, .ref h4, .ref h0, .ref h3])), (h2, .inr (2, [.ref h2_row, .ref h2_ten, .ref h2_pha, .int len, .int kep, .int wfi, .int wmo, .int hun])), (h2_row, .inl (cI, 240, .inl row)), (h2_ten, .inl (cI, 4, .inl ten)), (h2_pha, .inl (cI, 4, .inl pha)), (h1, .inr (1, [.ref h1a, .int nex, .int man])), (h4, .inr (4, [.ref h4_cod, .ref h4_unf, .int tln])), (h4_cod, .inl (cI, 60, .inl cod)), (h4_unf, .inl (cI, 540, .inl unf)), (h0, .inr (0, [.ref h0_cel, .int x108_3])), (h0_cel, .inl (cI, 160, .inl x108_2)), (h3, .inr (3, [.ref h3_str, .ref h3_tlr, .ref h3_tsg])), (h3_str, .inl (cI, 40, .inl x108_4)), (h3_tlr, .inl (cI, 240, .inl x108_5)), (h3_tsg, .inl (cI, 240, .inl x108_6)), (q3, .inl (cJ, 1, .inr (.inl x108_7)))]) (w2 := [(h5, .inr (5, [.ref h2, .ref h1, .ref h4, .ref h0, .ref h3])), (h2, .inr (2, [.ref h2_row, .ref h2_ten, .ref h2_pha, .int len, .int kep, .int wfi, .int wmo, .int hun])), (h2_row, .inl (cI, 240, .inl row)), (h2_ten, .inl (cI, 4, .inl ten)), (h2_pha, .inl (cI, 4, .inl pha)), (h1, .inr (1, [.ref h1a, .int nex, .int man])), (h4, .inr (4, [.ref h4_cod, .ref h4_unf, .int tln])), (h4_cod, .inl (cI, 60, .inl cod)), (h4_unf, .inl (cI, 540, .inl unf)), (h0, .inr (0, [.ref h0_cel, .int x108_3])), (h0_cel, .inl (cI, 160, .inl x108_2)), (h3, .inr (3, [.ref h3_str, .ref h3_tlr, .ref h3_tsg])), (h3_str, .inl (cI, 40, .inl x108_4)), (h3_tlr, .inl (cI, 240, .inl x108_5)), (h3_tsg, .inl (cI, 240, .inl x108_6)), (h6, .inr (6, [.int thr, .ref h6_ms, .ref h6_mv, .int svm, .ref h6_mb, .int mln, .ref h6_mc, .ref h6_mg, .ref h6_mt, .ref h6_ml, .int mat, .int wel, .ref h6_mr, .int rdm, .long hsh])), (h6_ms, .inl (cI, 253, .inl ms)), (h6_mv, .inl (cI, 1518, .inl mv)), (h6_mb, .inl (cI, 60, .inl mb)), (h6_mc, .inl (cI, 160, .inl mc)), (h6_mg, .inl (cI, 160, .inl mg)), (h6_mt, .inl (cI, 240, .inl mt)), (h6_ml, .inl (cI, 240, .inl ml)), (h6_mr, .inl (cI, 600, .inl mr)), (q3, .inl (cJ, 1, .inr (.inl x108_7)))]) (vx_runSW (As := [.ref h5, .int (xs (i + 1).toNatClampNeg), .int (xs (i + 2).toNatClampNeg), .ref q3]) (rest := []) ⟨hx, hb, hml, hown, hts⟩ (mL_told l D cI cO cJ h5 h2 h2_row h2_ten h2_pha h1 h1a h4 h4_cod h4_unf h0 h0_cel h3 h3_str h3_tlr h3_tsg q3 H.size row ten pha len kep wfi wmo hun nex man cod unf tln cel cls str tlr tsg f3 (xs (i + 1).toNatClampNeg) (xs (i + 2).toNatClampNeg) _ hst hx108) (vx_cwSW 4 hts gL_law_L_told rfl rfl rfl (by decide +kernel) ⟨Nat.le_of_ble_eq_true rfl, Nat.le_of_ble_eq_true rfl⟩) (pl_preS hK hN ((px_X.kept hX9 hS.2.1).narrow (pw_free hD hS hA [0, 1, 2, 3, 4, 5, 6, 7, 8, 9, 10, 11, 12, 13, 14, 24] rfl)) hT hC9 (pw_sub hP [0, 1, 2, 3, 4, 5, 6, 7, 8, 9, 10, 11, 12, 13, 14, 24] rfl) (pw_subD hD [0, 1, 2, 3, 4, 5, 6, 7, 8, 9, 10, 11, 12, 13, 14, 24] (by decide) rfl)) rfl rfl hl.1 rfl (lv_room (Nat.le_of_ble_eq_true rfl)) dL_law_1077 ⟨by have := hk; show _ ≤ (601024 : Nat); omega, by have := hk; show _ ≤ (7293034 : Nat); omega⟩) hP hD hS hA [0, 1, 2, 3, 4, 5, 6, 7, 8, 9, 10, 11, 12, 13, 14, 24] [15, 16, 17, 18, 19, 20, 21, 22, 23] [9, 10, 11, 12, 13, 14, 15, 16, 17, 18, 19, 20, 21, 22, 23, 0, 1, 2, 3, 4, 5, 6, 7, 8, 24] rfl rfl (by decide) (by decide) (by decide) rfl (fun H locs hP hD hS => ?_)
        refine lv_istore (lv' := [(5, .int x108_1), (0, .ref b), (1, .ref h5), (2, .ref h6), (3, .ref q3), (4, .int i)]) hx hb dL_law_1080 hl (by decide) rfl (fun ls hl => ?_)
        refine lv_aload_n hx hb dL_law_1082 rfl (lv_at hl 3 rfl) ?_
        refine lv_aload_n hx hb dL_law_1083 rfl (lv_at hl 1 rfl) ?_
        refine lv_iload hx hb dL_law_1084 (lv_at hl 5 rfl) ?_
        refine lv_iconst (v := 1) hx hb dL_law_1086 (by decide) ?_
        refine lv_iadd hx hb dL_law_1087 ?_
        obtain ⟨g109, h⟩ := gdn h
        refine va_sld hx hb hX hbl hbA hS g109 dL_law_1088 ?_
        refine lv_aload_n hx hb dL_law_1089 rfl (lv_at hl 1 rfl) ?_
        refine lv_iload hx hb dL_law_1090 (lv_at hl 5 rfl) ?_
        refine lv_iconst (v := 2) hx hb dL_law_1092 (by decide) ?_
        refine lv_iadd hx hb dL_law_1093 ?_
        obtain ⟨g110, h⟩ := gdn h
        refine va_sld hx hb hX hbl hbA hS g110 dL_law_1094 ?_
        obtain ⟨⟨x111_1, x111_2, x111_3, x111_4, x111_5, x111_6⟩, hx111, h⟩ := bnd h
        refine pw_goi (wc := [(h6, .inr (6, [.int thr, .ref h6_ms, .ref h6_mv, .int svm, .ref h6_mb, .int mln, .ref h6_mc, .ref h6_mg, .ref h6_mt, .ref h6_ml, .int mat, .int wel, .ref h6_mr, .int rdm, .long hsh])), (h6_ms, .inl (cI, 253, .inl ms)), (h6_mv, .inl (cI, 1518, .inl mv)), (h6_mb, .inl (cI, 60, .inl mb)), (h6_mc, .inl (cI, 160, .inl mc)), (h6_mg, .inl (cI, 160, .inl mg)), (h6_mt, .inl (cI, 240, .inl mt)), (h6_ml, .inl (cI, 240, .inl ml)), (h6_mr, .inl (cI, 600, .inl mr))]) (w1 := [(h6, .inr (6, [.int x111_2, .ref h6_ms, .ref h6_mv, .int svm, .ref h6_mb, .int mln, .ref h6_mc, .ref h6_mg, .ref h6_mt, .ref h6_ml, .int mat, .int wel, .ref h6_mr, .int rdm, .long hsh])), (h6_ms, .inl (cI, 253, .inl ms)), (h6_mv, .inl (cI, 1518, .inl mv)), (h6_mb, .inl (cI, 60, .inl mb)), (h6_mc, .inl (cI, 160, .inl x111_3)), (h6_mg, .inl (cI, 160, .inl x111_4)), (h6_mt, .inl (cI, 240, .inl x111_5)), (h6_ml, .inl (cI, 240, .inl x111_6)), (h6_mr, .inl (cI, 600, .inl mr))]) (w2 := [(h5, .inr (5, [.ref h2, .ref h1, .ref h4, .ref h0, .ref h3])), (h2, .inr (2, [.ref h2_row, .ref h2_ten, .ref h2_pha, .int len, .int kep, .int wfi, .int wmo, .int hun])), (h2_row, .inl (cI, 240, .inl row)), (h2_ten, .inl (cI, 4, .inl ten)), (h2_pha, .inl (cI, 4, .inl pha)), (h1, .inr (1, [.ref h1a, .int nex, .int man])), (h4, .inr (4, [.ref h4_cod, .ref h4_unf, .int tln])), (h4_cod, .inl (cI, 60, .inl cod)), (h4_unf, .inl (cI, 540, .inl unf)), (h0, .inr (0, [.ref h0_cel, .int x108_3])), (h0_cel, .inl (cI, 160, .inl x108_2)), (h3, .inr (3, [.ref h3_str, .ref h3_tlr, .ref h3_tsg])), (h3_str, .inl (cI, 40, .inl x108_4)), (h3_tlr, .inl (cI, 240, .inl x108_5)), (h3_tsg, .inl (cI, 240, .inl x108_6)), (h6, .inr (6, [.int x111_2, .ref h6_ms, .ref h6_mv, .int svm, .ref h6_mb, .int mln, .ref h6_mc, .ref h6_mg, .ref h6_mt, .ref h6_ml, .int mat, .int wel, .ref h6_mr, .int rdm, .long hsh])), (h6_ms, .inl (cI, 253, .inl ms)), (h6_mv, .inl (cI, 1518, .inl mv)), (h6_mb, .inl (cI, 60, .inl mb)), (h6_mc, .inl (cI, 160, .inl x111_3)), (h6_mg, .inl (cI, 160, .inl x111_4)), (h6_mt, .inl (cI, 240, .inl x111_5)), (h6_ml, .inl (cI, 240, .inl x111_6)), (h6_mr, .inl (cI, 600, .inl mr)), (q3, .inl (cJ, 1, .inr (.inl x108_7)))]) (va_runV (As := [.int (xs (i + 1).toNatClampNeg), .int (xs (i + 2).toNatClampNeg)]) (rest := []) ⟨hx, hb, hml, hown, hts⟩ (mX6_told l D cI cO cJ h6 h6_ms h6_mv h6_mb h6_mc h6_mg h6_mt h6_ml h6_mr H.size thr ms mv svm mb mln mc mg mt ml mat wel mr rdm hsh (xs (i + 1).toNatClampNeg) (xs (i + 2).toNatClampNeg) _ hx111) (cwV 2 hts gL_law_X6_told rfl rfl rfl (by decide +kernel) ⟨Nat.le_of_ble_eq_true rfl, Nat.le_of_ble_eq_true rfl⟩) (pw_preV hK hN (pw_sub hP [15, 16, 17, 18, 19, 20, 21, 22, 23] rfl) (pw_subD hD [15, 16, 17, 18, 19, 20, 21, 22, 23] (by decide) rfl) (ci := 6) (q0 := 0) rfl rfl) rfl rfl hl.1 rfl (lv_room (Nat.le_of_ble_eq_true rfl)) dL_law_1095 ⟨by have := hk; show _ ≤ (601024 : Nat); omega, by have := hk; show _ ≤ (7293034 : Nat); omega⟩) hP hD hS hA [15, 16, 17, 18, 19, 20, 21, 22, 23] [0, 1, 2, 3, 4, 5, 6, 7, 8, 9, 10, 11, 12, 13, 14, 24] [0, 1, 2, 3, 4, 5, 6, 7, 8, 9, 10, 11, 12, 13, 14, 16, 17, 18, 19, 20, 21, 22, 23, 24, 15] rfl rfl (by decide) (by decide) (by decide) rfl (fun H locs hP hD hS => ?_)
        refine lv_istore (lv' := [(6, .int x111_1), (5, .int x108_1), (0, .ref b), (1, .ref h5), (2, .ref h6), (3, .ref q3), (4, .int i)]) hx hb dL_law_1098 hl (by decide) rfl (fun ls hl => ?_)
        refine lv_aload_n hx hb dL_law_1100 rfl (lv_at hl 4 rfl) ?_
        obtain ⟨x112, hx112, h⟩ := bnd h
        refine pw_goi (wc := [(h6, .inr (6, [.int x111_2, .ref h6_ms, .ref h6_mv, .int svm, .ref h6_mb, .int mln, .ref h6_mc, .ref h6_mg, .ref h6_mt, .ref h6_ml, .int mat, .int wel, .ref h6_mr, .int rdm, .long hsh])), (h6_ms, .inl (cI, 253, .inl ms)), (h6_mv, .inl (cI, 1518, .inl mv)), (h6_mb, .inl (cI, 60, .inl mb)), (h6_mc, .inl (cI, 160, .inl x111_3)), (h6_mg, .inl (cI, 160, .inl x111_4)), (h6_mt, .inl (cI, 240, .inl x111_5)), (h6_ml, .inl (cI, 240, .inl x111_6)), (h6_mr, .inl (cI, 600, .inl mr))]) (w1 := [(h6, .inr (6, [.int x111_2, .ref h6_ms, .ref h6_mv, .int svm, .ref h6_mb, .int mln, .ref h6_mc, .ref h6_mg, .ref h6_mt, .ref h6_ml, .int mat, .int wel, .ref h6_mr, .int rdm, .long hsh])), (h6_ms, .inl (cI, 253, .inl ms)), (h6_mv, .inl (cI, 1518, .inl mv)), (h6_mb, .inl (cI, 60, .inl mb)), (h6_mc, .inl (cI, 160, .inl x111_3)), (h6_mg, .inl (cI, 160, .inl x111_4)), (h6_mt, .inl (cI, 240, .inl x111_5)), (h6_ml, .inl (cI, 240, .inl x111_6)), (h6_mr, .inl (cI, 600, .inl mr))]) (w2 := [(h5, .inr (5, [.ref h2, .ref h1, .ref h4, .ref h0, .ref h3])), (h2, .inr (2, [.ref h2_row, .ref h2_ten, .ref h2_pha, .int len, .int kep, .int wfi, .int wmo, .int hun])), (h2_row, .inl (cI, 240, .inl row)), (h2_ten, .inl (cI, 4, .inl ten)), (h2_pha, .inl (cI, 4, .inl pha)), (h1, .inr (1, [.ref h1a, .int nex, .int man])), (h4, .inr (4, [.ref h4_cod, .ref h4_unf, .int tln])), (h4_cod, .inl (cI, 60, .inl cod)), (h4_unf, .inl (cI, 540, .inl unf)), (h0, .inr (0, [.ref h0_cel, .int x108_3])), (h0_cel, .inl (cI, 160, .inl x108_2)), (h3, .inr (3, [.ref h3_str, .ref h3_tlr, .ref h3_tsg])), (h3_str, .inl (cI, 40, .inl x108_4)), (h3_tlr, .inl (cI, 240, .inl x108_5)), (h3_tsg, .inl (cI, 240, .inl x108_6)), (h6, .inr (6, [.int x111_2, .ref h6_ms, .ref h6_mv, .int svm, .ref h6_mb, .int mln, .ref h6_mc, .ref h6_mg, .ref h6_mt, .ref h6_ml, .int mat, .int wel, .ref h6_mr, .int rdm, .long hsh])), (h6_ms, .inl (cI, 253, .inl ms)), (h6_mv, .inl (cI, 1518, .inl mv)), (h6_mb, .inl (cI, 60, .inl mb)), (h6_mc, .inl (cI, 160, .inl x111_3)), (h6_mg, .inl (cI, 160, .inl x111_4)), (h6_mt, .inl (cI, 240, .inl x111_5)), (h6_ml, .inl (cI, 240, .inl x111_6)), (h6_mr, .inl (cI, 600, .inl mr)), (q3, .inl (cJ, 1, .inr (.inl x108_7)))]) (va_runV (As := []) (rest := []) ⟨hx, hb, hml, hown, hts⟩ (mX6_thrown l D cI cO cJ h6 h6_ms h6_mv h6_mb h6_mc h6_mg h6_mt h6_ml h6_mr H.size x111_2 ms mv svm mb mln x111_3 x111_4 x111_5 x111_6 mat wel mr rdm hsh _ hx112) (cwV 0 hts gL_law_X6_thrown rfl rfl rfl (by decide +kernel) ⟨Nat.le_of_ble_eq_true rfl, Nat.le_of_ble_eq_true rfl⟩) (pw_preV hK hN (pw_sub hP [15, 16, 17, 18, 19, 20, 21, 22, 23] rfl) (pw_subD hD [15, 16, 17, 18, 19, 20, 21, 22, 23] (by decide) rfl) (ci := 6) (q0 := 0) rfl rfl) rfl rfl hl.1 rfl (lv_room (Nat.le_of_ble_eq_true rfl)) dL_law_1101 ⟨by have := hk; show _ ≤ (601024 : Nat); omega, by have := hk; show _ ≤ (7293034 : Nat); omega⟩) hP hD hS hA [15, 16, 17, 18, 19, 20, 21, 22, 23] [0, 1, 2, 3, 4, 5, 6, 7, 8, 9, 10, 11, 12, 13, 14, 24] [0, 1, 2, 3, 4, 5, 6, 7, 8, 9, 10, 11, 12, 13, 14, 16, 17, 18, 19, 20, 21, 22, 23, 24, 15] rfl rfl (by decide) (by decide) (by decide) rfl (fun H locs hP hD hS => ?_)
        refine lv_iload hx hb dL_law_1104 (lv_at hl 1 rfl) ?_
        refine lv_icmp_eq (tgt := 1111) hx hb dL_law_1106 (by decide) (fun cq => ?_) (fun cq => ?_)
        · replace h := ifp cq h
          refine lv_iload hx hb dL_law_1111 (lv_at hl 1 rfl) ?_
          refine lv_if_ne (tgt := 1128) hx hb dL_law_1113 (by decide) (fun cq => ?_) (fun cq => ?_)
          · replace h := ifn cq h
            refine lv_goto (tgt := 1558) hx hb dL_law_1128 (by decide) ?_
            refine lv_iinc (v := (i + 4)) (lv' := [(4, .int (i + 4)), (6, .int x111_1), (5, .int x108_1), (0, .ref b), (1, .ref h5), (2, .ref h6), (3, .ref q3)]) hx hb dL_law_1558 hl (k := 6) rfl rfl (by decide) rfl (fun ls hl => ?_)
            refine lv_goto (tgt := 23) hx hb dL_law_1561 (by decide) ?_
            refine W.widen (k := 50 + (k + 1)) (n := 6341 + 6 * (k + 1)) (by omega) (by omega) ?_
            exact ih _ (k + 1) _ _ _ _ _ _ _ _ _ _ _ _ _ _ _ _ _ _ _ _ _ _ _ _ _ _ _ _ _ _ _ _ _ _ _ _ _ _ h (pl_i hi) (pl_k hi hL hk hgo) hP hD hS (lv_sub hl [3, 4, 5, 6, 0] rfl)
          · replace h := ifp cq h
            refine lv_aload_n hx hb dL_law_1116 rfl (lv_at hl 5 rfl) ?_
            refine lv_iconst (v := 0) hx hb dL_law_1117 (by decide) ?_
            obtain ⟨g113, h⟩ := gdn h
            refine va_lald hx hb hK hP 24 2 rfl rfl g113 dL_law_1118 ?_
            refine lv_iload hx hb dL_law_1119 (lv_at hl 0 rfl) ?_
            refine lv_i2l (v := x111_1.toInt64) hx hb dL_law_1121 rfl ?_
            refine W.lcmp hx hb dL_law_1122 ?_
            refine lv_if_eq (tgt := 1128) hx hb dL_law_1123 (by decide) (fun cq => ?_) (fun cq => ?_)
            · replace h := ifp cq h
              refine lv_goto (tgt := 1558) hx hb dL_law_1128 (by decide) ?_
              refine lv_iinc (v := (i + 4)) (lv' := [(4, .int (i + 4)), (6, .int x111_1), (5, .int x108_1), (0, .ref b), (1, .ref h5), (2, .ref h6), (3, .ref q3)]) hx hb dL_law_1558 hl (k := 6) rfl rfl (by decide) rfl (fun ls hl => ?_)
              refine lv_goto (tgt := 23) hx hb dL_law_1561 (by decide) ?_
              refine W.widen (k := 50 + (k + 1)) (n := 6341 + 6 * (k + 1)) (by omega) (by omega) ?_
              exact ih _ (k + 1) _ _ _ _ _ _ _ _ _ _ _ _ _ _ _ _ _ _ _ _ _ _ _ _ _ _ _ _ _ _ _ _ _ _ _ _ _ _ h (pl_i hi) (pl_k hi hL hk hgo) hP hD hS (lv_sub hl [3, 4, 5, 6, 0] rfl)
            · replace h := ifn cq h
              refine lv_iconst (v := 0) hx hb dL_law_1126 (by decide) ?_
              exact absurd (Option.some.inj h) (by decide)
        · replace h := ifn cq h
          refine lv_iconst (v := 0) hx hb dL_law_1109 (by decide) ?_
          exact absurd (Option.some.inj h) (by decide)
      replace h := ifn c17 h
      by_cases c18 : ((xs i.toNatClampNeg) &&& 31) = 18
      · replace h := ifp c18 h
        refine lv_tableIn (x := ((xs i.toNatClampNeg) &&& 31)) hx hb dL_law_39 (by rw [c18]; decide) (by rw [c18]; decide) (off := 1092) (tgt := 1131) (by rw [c18]; rfl) (by decide) ?_
        refine lv_aload_n hx hb dL_law_1131 rfl (lv_at hl 1 rfl) ?_
        refine lv_aload_n hx hb dL_law_1132 rfl (lv_at hl 0 rfl) ?_
        refine lv_iload hx hb dL_law_1133 (lv_at hl 4 rfl) ?_
        refine lv_iconst (v := 1) hx hb dL_law_1135 (by decide) ?_
        refine lv_iadd hx hb dL_law_1136 ?_
        obtain ⟨g114, h⟩ := gdn h
        refine va_sld hx hb hX hbl hbA hS g114 dL_law_1137 ?_
        refine lv_aload_n hx hb dL_law_1138 rfl (lv_at hl 3 rfl) ?_
        obtain ⟨⟨x115_1, x115_2, x115_3, x115_4, x115_5, x115_6, x115_7⟩, hx115, h⟩ := bnd h
        refine pw_goiN (wc := [(h5, .inr (5, [.ref h2, .ref h1, .ref h4, .ref h0, .ref h3])), (h2, .inr (2, [.ref h2_row, .ref h2_ten, .ref h2_pha, .int len, .int kep, .int wfi, .int wmo, .int hun])), (h2_row, .inl (cI, 240, .inl row)), (h2_ten, .inl (cI, 4, .inl ten)), (h2_pha, .inl (cI, 4, .inl pha)), (h1, .inr (1, [.ref h1a, .int nex, .int man])), (h4, .inr (4, [.ref h4_cod, .ref h4_unf, .int tln])), (h4_cod, .inl (cI, 60, .inl cod)), (h4_unf, .inl (cI, 540, .inl unf)), (h0, .inr (0, [.ref h0_cel, .int cls])), (h0_cel, .inl (cI, 160, .inl cel)), (h3, .inr (3, [.ref h3_str, .ref h3_tlr, .ref h3_tsg])), (h3_str, .inl (cI, 40, .inl str)), (h3_tlr, .inl (cI, 240, .inl tlr)), (h3_tsg, .inl (cI, 240, .inl tsg)), (q3, .inl (cJ, 1, .inr (.inl f3)))]) (w1 := [(h5, .inr (5, [.ref h2, .ref h1, .ref h4, .ref h0, .ref h3])), (h2, .inr (2, [.ref h2_row, .ref h2_ten, .ref h2_pha, .int len, .int kep, .int wfi, .int wmo, .int hun])), (h2_row, .inl (cI, 240, .inl row)), (h2_ten, .inl (cI, 4, .inl ten)), (h2_pha, .inl (cI, 4, .inl pha)), (h1, .inr (1, [.ref h1a, .int nex, .int man])), (h4, .inr (4, [.ref h4_cod, .ref h4_unf, .int tln])), (h4_cod, .inl (cI, 60, .inl cod)), (h4_unf, .inl (cI, 540, .inl unf)), (h0, .inr (0, [.ref h0_cel, .int x115_3])), (h0_cel, .inl (cI, 160, .inl x115_2)), (h3, .inr (3, [.ref h3_str, .ref h3_tlr, .ref h3_tsg])), (h3_str, .inl (cI, 40, .inl x115_4)), (h3_tlr, .inl (cI, 240, .inl x115_5)), (h3_tsg, .inl (cI, 240, .inl x115_6)), (q3, .inl (cJ, 1, .inr (.inl x115_7)))]) (w2 := [(h5, .inr (5, [.ref h2, .ref h1, .ref h4, .ref h0, .ref h3])), (h2, .inr (2, [.ref h2_row, .ref h2_ten, .ref h2_pha, .int len, .int kep, .int wfi, .int wmo, .int hun])), (h2_row, .inl (cI, 240, .inl row)), (h2_ten, .inl (cI, 4, .inl ten)), (h2_pha, .inl (cI, 4, .inl pha)), (h1, .inr (1, [.ref h1a, .int nex, .int man])), (h4, .inr (4, [.ref h4_cod, .ref h4_unf, .int tln])), (h4_cod, .inl (cI, 60, .inl cod)), (h4_unf, .inl (cI, 540, .inl unf)), (h0, .inr (0, [.ref h0_cel, .int x115_3])), (h0_cel, .inl (cI, 160, .inl x115_2)), (h3, .inr (3, [.ref h3_str, .ref h3_tlr, .ref h3_tsg])), (h3_str, .inl (cI, 40, .inl x115_4)), (h3_tlr, .inl (cI, 240, .inl x115_5)), (h3_tsg, .inl (cI, 240, .inl x115_6)), (h6, .inr (6, [.int thr, .ref h6_ms, .ref h6_mv, .int svm, .ref h6_mb, .int mln, .ref h6_mc, .ref h6_mg, .ref h6_mt, .ref h6_ml, .int mat, .int wel, .ref h6_mr, .int rdm, .long hsh])), (h6_ms, .inl (cI, 253, .inl ms)), (h6_mv, .inl (cI, 1518, .inl mv)), (h6_mb, .inl (cI, 60, .inl mb)), (h6_mc, .inl (cI, 160, .inl mc)), (h6_mg, .inl (cI, 160, .inl mg)), (h6_mt, .inl (cI, 240, .inl mt)), (h6_ml, .inl (cI, 240, .inl ml)), (h6_mr, .inl (cI, 600, .inl mr)), (q3, .inl (cJ, 1, .inr (.inl x115_7)))]) (vx_runSW (As := [.ref h5, .int (xs (i + 1).toNatClampNeg), .ref q3]) (rest := []) ⟨hx, hb, hml, hown, hts⟩ (mL_count l D cI cO cJ h5 h2 h2_row h2_ten h2_pha h1 h1a h4 h4_cod h4_unf h0 h0_cel h3 h3_str h3_tlr h3_tsg q3 H.size row ten pha len kep wfi wmo hun nex man cod unf tln cel cls str tlr tsg f3 (xs (i + 1).toNatClampNeg) _ hst hx115) (vx_cwSW 3 hts gL_law_L_count rfl rfl rfl (by decide +kernel) ⟨Nat.le_of_ble_eq_true rfl, Nat.le_of_ble_eq_true rfl⟩) (pl_preS hK hN ((px_X.kept hX9 hS.2.1).narrow (pw_free hD hS hA [0, 1, 2, 3, 4, 5, 6, 7, 8, 9, 10, 11, 12, 13, 14, 24] rfl)) hT hC9 (pw_sub hP [0, 1, 2, 3, 4, 5, 6, 7, 8, 9, 10, 11, 12, 13, 14, 24] rfl) (pw_subD hD [0, 1, 2, 3, 4, 5, 6, 7, 8, 9, 10, 11, 12, 13, 14, 24] (by decide) rfl)) rfl rfl hl.1 rfl (lv_room (Nat.le_of_ble_eq_true rfl)) dL_law_1139 ⟨by have := hk; show _ ≤ (601024 : Nat); omega, by have := hk; show _ ≤ (7293034 : Nat); omega⟩) hP hD hS hA [0, 1, 2, 3, 4, 5, 6, 7, 8, 9, 10, 11, 12, 13, 14, 24] [15, 16, 17, 18, 19, 20, 21, 22, 23] [9, 10, 11, 12, 13, 14, 15, 16, 17, 18, 19, 20, 21, 22, 23, 0, 1, 2, 3, 4, 5, 6, 7, 8, 24] rfl rfl (by decide) (by decide) (by decide) rfl (fun H locs hP hD hS => ?_)
        refine lv_istore (lv' := [(5, .int x115_1), (0, .ref b), (1, .ref h5), (2, .ref h6), (3, .ref q3), (4, .int i)]) hx hb dL_law_1142 hl (by decide) rfl (fun ls hl => ?_)
        refine lv_aload_n hx hb dL_law_1144 rfl (lv_at hl 3 rfl) ?_
        refine lv_aload_n hx hb dL_law_1145 rfl (lv_at hl 1 rfl) ?_
        refine lv_iload hx hb dL_law_1146 (lv_at hl 5 rfl) ?_
        refine lv_iconst (v := 1) hx hb dL_law_1148 (by decide) ?_
        refine lv_iadd hx hb dL_law_1149 ?_
        obtain ⟨g116, h⟩ := gdn h
        refine va_sld hx hb hX hbl hbA hS g116 dL_law_1150 ?_
        obtain ⟨⟨x117_1, x117_2, x117_3, x117_4, x117_5, x117_6⟩, hx117, h⟩ := bnd h
        refine pw_goi (wc := [(h6, .inr (6, [.int thr, .ref h6_ms, .ref h6_mv, .int svm, .ref h6_mb, .int mln, .ref h6_mc, .ref h6_mg, .ref h6_mt, .ref h6_ml, .int mat, .int wel, .ref h6_mr, .int rdm, .long hsh])), (h6_ms, .inl (cI, 253, .inl ms)), (h6_mv, .inl (cI, 1518, .inl mv)), (h6_mb, .inl (cI, 60, .inl mb)), (h6_mc, .inl (cI, 160, .inl mc)), (h6_mg, .inl (cI, 160, .inl mg)), (h6_mt, .inl (cI, 240, .inl mt)), (h6_ml, .inl (cI, 240, .inl ml)), (h6_mr, .inl (cI, 600, .inl mr))]) (w1 := [(h6, .inr (6, [.int x117_2, .ref h6_ms, .ref h6_mv, .int svm, .ref h6_mb, .int mln, .ref h6_mc, .ref h6_mg, .ref h6_mt, .ref h6_ml, .int mat, .int wel, .ref h6_mr, .int rdm, .long hsh])), (h6_ms, .inl (cI, 253, .inl ms)), (h6_mv, .inl (cI, 1518, .inl mv)), (h6_mb, .inl (cI, 60, .inl mb)), (h6_mc, .inl (cI, 160, .inl x117_3)), (h6_mg, .inl (cI, 160, .inl x117_4)), (h6_mt, .inl (cI, 240, .inl x117_5)), (h6_ml, .inl (cI, 240, .inl x117_6)), (h6_mr, .inl (cI, 600, .inl mr))]) (w2 := [(h5, .inr (5, [.ref h2, .ref h1, .ref h4, .ref h0, .ref h3])), (h2, .inr (2, [.ref h2_row, .ref h2_ten, .ref h2_pha, .int len, .int kep, .int wfi, .int wmo, .int hun])), (h2_row, .inl (cI, 240, .inl row)), (h2_ten, .inl (cI, 4, .inl ten)), (h2_pha, .inl (cI, 4, .inl pha)), (h1, .inr (1, [.ref h1a, .int nex, .int man])), (h4, .inr (4, [.ref h4_cod, .ref h4_unf, .int tln])), (h4_cod, .inl (cI, 60, .inl cod)), (h4_unf, .inl (cI, 540, .inl unf)), (h0, .inr (0, [.ref h0_cel, .int x115_3])), (h0_cel, .inl (cI, 160, .inl x115_2)), (h3, .inr (3, [.ref h3_str, .ref h3_tlr, .ref h3_tsg])), (h3_str, .inl (cI, 40, .inl x115_4)), (h3_tlr, .inl (cI, 240, .inl x115_5)), (h3_tsg, .inl (cI, 240, .inl x115_6)), (h6, .inr (6, [.int x117_2, .ref h6_ms, .ref h6_mv, .int svm, .ref h6_mb, .int mln, .ref h6_mc, .ref h6_mg, .ref h6_mt, .ref h6_ml, .int mat, .int wel, .ref h6_mr, .int rdm, .long hsh])), (h6_ms, .inl (cI, 253, .inl ms)), (h6_mv, .inl (cI, 1518, .inl mv)), (h6_mb, .inl (cI, 60, .inl mb)), (h6_mc, .inl (cI, 160, .inl x117_3)), (h6_mg, .inl (cI, 160, .inl x117_4)), (h6_mt, .inl (cI, 240, .inl x117_5)), (h6_ml, .inl (cI, 240, .inl x117_6)), (h6_mr, .inl (cI, 600, .inl mr)), (q3, .inl (cJ, 1, .inr (.inl x115_7)))]) (va_runV (As := [.int (xs (i + 1).toNatClampNeg)]) (rest := []) ⟨hx, hb, hml, hown, hts⟩ (mX6_count l D cI cO cJ h6 h6_ms h6_mv h6_mb h6_mc h6_mg h6_mt h6_ml h6_mr H.size thr ms mv svm mb mln mc mg mt ml mat wel mr rdm hsh (xs (i + 1).toNatClampNeg) _ hx117) (cwV 1 hts gL_law_X6_count rfl rfl rfl (by decide +kernel) ⟨Nat.le_of_ble_eq_true rfl, Nat.le_of_ble_eq_true rfl⟩) (pw_preV hK hN (pw_sub hP [15, 16, 17, 18, 19, 20, 21, 22, 23] rfl) (pw_subD hD [15, 16, 17, 18, 19, 20, 21, 22, 23] (by decide) rfl) (ci := 6) (q0 := 0) rfl rfl) rfl rfl hl.1 rfl (lv_room (Nat.le_of_ble_eq_true rfl)) dL_law_1151 ⟨by have := hk; show _ ≤ (601024 : Nat); omega, by have := hk; show _ ≤ (7293034 : Nat); omega⟩) hP hD hS hA [15, 16, 17, 18, 19, 20, 21, 22, 23] [0, 1, 2, 3, 4, 5, 6, 7, 8, 9, 10, 11, 12, 13, 14, 24] [0, 1, 2, 3, 4, 5, 6, 7, 8, 9, 10, 11, 12, 13, 14, 16, 17, 18, 19, 20, 21, 22, 23, 24, 15] rfl rfl (by decide) (by decide) (by decide) rfl (fun H locs hP hD hS => ?_)
        refine lv_istore (lv' := [(6, .int x117_1), (5, .int x115_1), (0, .ref b), (1, .ref h5), (2, .ref h6), (3, .ref q3), (4, .int i)]) hx hb dL_law_1154 hl (by decide) rfl (fun ls hl => ?_)
        refine lv_aload_n hx hb dL_law_1156 rfl (lv_at hl 4 rfl) ?_
        obtain ⟨x118, hx118, h⟩ := bnd h
        refine pw_goi (wc := [(h6, .inr (6, [.int x117_2, .ref h6_ms, .ref h6_mv, .int svm, .ref h6_mb, .int mln, .ref h6_mc, .ref h6_mg, .ref h6_mt, .ref h6_ml, .int mat, .int wel, .ref h6_mr, .int rdm, .long hsh])), (h6_ms, .inl (cI, 253, .inl ms)), (h6_mv, .inl (cI, 1518, .inl mv)), (h6_mb, .inl (cI, 60, .inl mb)), (h6_mc, .inl (cI, 160, .inl x117_3)), (h6_mg, .inl (cI, 160, .inl x117_4)), (h6_mt, .inl (cI, 240, .inl x117_5)), (h6_ml, .inl (cI, 240, .inl x117_6)), (h6_mr, .inl (cI, 600, .inl mr))]) (w1 := [(h6, .inr (6, [.int x117_2, .ref h6_ms, .ref h6_mv, .int svm, .ref h6_mb, .int mln, .ref h6_mc, .ref h6_mg, .ref h6_mt, .ref h6_ml, .int mat, .int wel, .ref h6_mr, .int rdm, .long hsh])), (h6_ms, .inl (cI, 253, .inl ms)), (h6_mv, .inl (cI, 1518, .inl mv)), (h6_mb, .inl (cI, 60, .inl mb)), (h6_mc, .inl (cI, 160, .inl x117_3)), (h6_mg, .inl (cI, 160, .inl x117_4)), (h6_mt, .inl (cI, 240, .inl x117_5)), (h6_ml, .inl (cI, 240, .inl x117_6)), (h6_mr, .inl (cI, 600, .inl mr))]) (w2 := [(h5, .inr (5, [.ref h2, .ref h1, .ref h4, .ref h0, .ref h3])), (h2, .inr (2, [.ref h2_row, .ref h2_ten, .ref h2_pha, .int len, .int kep, .int wfi, .int wmo, .int hun])), (h2_row, .inl (cI, 240, .inl row)), (h2_ten, .inl (cI, 4, .inl ten)), (h2_pha, .inl (cI, 4, .inl pha)), (h1, .inr (1, [.ref h1a, .int nex, .int man])), (h4, .inr (4, [.ref h4_cod, .ref h4_unf, .int tln])), (h4_cod, .inl (cI, 60, .inl cod)), (h4_unf, .inl (cI, 540, .inl unf)), (h0, .inr (0, [.ref h0_cel, .int x115_3])), (h0_cel, .inl (cI, 160, .inl x115_2)), (h3, .inr (3, [.ref h3_str, .ref h3_tlr, .ref h3_tsg])), (h3_str, .inl (cI, 40, .inl x115_4)), (h3_tlr, .inl (cI, 240, .inl x115_5)), (h3_tsg, .inl (cI, 240, .inl x115_6)), (h6, .inr (6, [.int x117_2, .ref h6_ms, .ref h6_mv, .int svm, .ref h6_mb, .int mln, .ref h6_mc, .ref h6_mg, .ref h6_mt, .ref h6_ml, .int mat, .int wel, .ref h6_mr, .int rdm, .long hsh])), (h6_ms, .inl (cI, 253, .inl ms)), (h6_mv, .inl (cI, 1518, .inl mv)), (h6_mb, .inl (cI, 60, .inl mb)), (h6_mc, .inl (cI, 160, .inl x117_3)), (h6_mg, .inl (cI, 160, .inl x117_4)), (h6_mt, .inl (cI, 240, .inl x117_5)), (h6_ml, .inl (cI, 240, .inl x117_6)), (h6_mr, .inl (cI, 600, .inl mr)), (q3, .inl (cJ, 1, .inr (.inl x115_7)))]) (va_runV (As := []) (rest := []) ⟨hx, hb, hml, hown, hts⟩ (mX6_thrown l D cI cO cJ h6 h6_ms h6_mv h6_mb h6_mc h6_mg h6_mt h6_ml h6_mr H.size x117_2 ms mv svm mb mln x117_3 x117_4 x117_5 x117_6 mat wel mr rdm hsh _ hx118) (cwV 0 hts gL_law_X6_thrown rfl rfl rfl (by decide +kernel) ⟨Nat.le_of_ble_eq_true rfl, Nat.le_of_ble_eq_true rfl⟩) (pw_preV hK hN (pw_sub hP [15, 16, 17, 18, 19, 20, 21, 22, 23] rfl) (pw_subD hD [15, 16, 17, 18, 19, 20, 21, 22, 23] (by decide) rfl) (ci := 6) (q0 := 0) rfl rfl) rfl rfl hl.1 rfl (lv_room (Nat.le_of_ble_eq_true rfl)) dL_law_1157 ⟨by have := hk; show _ ≤ (601024 : Nat); omega, by have := hk; show _ ≤ (7293034 : Nat); omega⟩) hP hD hS hA [15, 16, 17, 18, 19, 20, 21, 22, 23] [0, 1, 2, 3, 4, 5, 6, 7, 8, 9, 10, 11, 12, 13, 14, 24] [0, 1, 2, 3, 4, 5, 6, 7, 8, 9, 10, 11, 12, 13, 14, 16, 17, 18, 19, 20, 21, 22, 23, 24, 15] rfl rfl (by decide) (by decide) (by decide) rfl (fun H locs hP hD hS => ?_)
        refine lv_iload hx hb dL_law_1160 (lv_at hl 1 rfl) ?_
        refine lv_icmp_eq (tgt := 1167) hx hb dL_law_1162 (by decide) (fun cq => ?_) (fun cq => ?_)
        · replace h := ifp cq h
          refine lv_iload hx hb dL_law_1167 (lv_at hl 1 rfl) ?_
          refine lv_if_ne (tgt := 1184) hx hb dL_law_1169 (by decide) (fun cq => ?_) (fun cq => ?_)
          · replace h := ifn cq h
            refine lv_goto (tgt := 1558) hx hb dL_law_1184 (by decide) ?_
            refine lv_iinc (v := (i + 4)) (lv' := [(4, .int (i + 4)), (6, .int x117_1), (5, .int x115_1), (0, .ref b), (1, .ref h5), (2, .ref h6), (3, .ref q3)]) hx hb dL_law_1558 hl (k := 6) rfl rfl (by decide) rfl (fun ls hl => ?_)
            refine lv_goto (tgt := 23) hx hb dL_law_1561 (by decide) ?_
            refine W.widen (k := 50 + (k + 1)) (n := 6341 + 6 * (k + 1)) (by omega) (by omega) ?_
            exact ih _ (k + 1) _ _ _ _ _ _ _ _ _ _ _ _ _ _ _ _ _ _ _ _ _ _ _ _ _ _ _ _ _ _ _ _ _ _ _ _ _ _ h (pl_i hi) (pl_k hi hL hk hgo) hP hD hS (lv_sub hl [3, 4, 5, 6, 0] rfl)
          · replace h := ifp cq h
            refine lv_aload_n hx hb dL_law_1172 rfl (lv_at hl 5 rfl) ?_
            refine lv_iconst (v := 0) hx hb dL_law_1173 (by decide) ?_
            obtain ⟨g119, h⟩ := gdn h
            refine va_lald hx hb hK hP 24 2 rfl rfl g119 dL_law_1174 ?_
            refine lv_iload hx hb dL_law_1175 (lv_at hl 0 rfl) ?_
            refine lv_i2l (v := x117_1.toInt64) hx hb dL_law_1177 rfl ?_
            refine W.lcmp hx hb dL_law_1178 ?_
            refine lv_if_eq (tgt := 1184) hx hb dL_law_1179 (by decide) (fun cq => ?_) (fun cq => ?_)
            · replace h := ifp cq h
              refine lv_goto (tgt := 1558) hx hb dL_law_1184 (by decide) ?_
              refine lv_iinc (v := (i + 4)) (lv' := [(4, .int (i + 4)), (6, .int x117_1), (5, .int x115_1), (0, .ref b), (1, .ref h5), (2, .ref h6), (3, .ref q3)]) hx hb dL_law_1558 hl (k := 6) rfl rfl (by decide) rfl (fun ls hl => ?_)
              refine lv_goto (tgt := 23) hx hb dL_law_1561 (by decide) ?_
              refine W.widen (k := 50 + (k + 1)) (n := 6341 + 6 * (k + 1)) (by omega) (by omega) ?_
              exact ih _ (k + 1) _ _ _ _ _ _ _ _ _ _ _ _ _ _ _ _ _ _ _ _ _ _ _ _ _ _ _ _ _ _ _ _ _ _ _ _ _ _ h (pl_i hi) (pl_k hi hL hk hgo) hP hD hS (lv_sub hl [3, 4, 5, 6, 0] rfl)
            · replace h := ifn cq h
              refine lv_iconst (v := 0) hx hb dL_law_1182 (by decide) ?_
              exact absurd (Option.some.inj h) (by decide)
        · replace h := ifn cq h
          refine lv_iconst (v := 0) hx hb dL_law_1165 (by decide) ?_
          exact absurd (Option.some.inj h) (by decide)
      replace h := ifn c18 h
      by_cases c19 : ((xs i.toNatClampNeg) &&& 31) = 19
      · replace h := ifp c19 h
        refine lv_tableIn (x := ((xs i.toNatClampNeg) &&& 31)) hx hb dL_law_39 (by rw [c19]; decide) (by rw [c19]; decide) (off := 1148) (tgt := 1187) (by rw [c19]; rfl) (by decide) ?_
        refine lv_aload_n hx hb dL_law_1187 rfl (lv_at hl 1 rfl) ?_
        refine lv_aload_n hx hb dL_law_1188 rfl (lv_at hl 0 rfl) ?_
        refine lv_iload hx hb dL_law_1189 (lv_at hl 4 rfl) ?_
        refine lv_iconst (v := 1) hx hb dL_law_1191 (by decide) ?_
        refine lv_iadd hx hb dL_law_1192 ?_
        obtain ⟨g120, h⟩ := gdn h
        refine va_sld hx hb hX hbl hbA hS g120 dL_law_1193 ?_
        refine lv_aload_n hx hb dL_law_1194 rfl (lv_at hl 3 rfl) ?_
        obtain ⟨⟨x121_1, x121_2⟩, hx121, h⟩ := bnd h
        refine pw_goiN (wc := [(h5, .inr (5, [.ref h2, .ref h1, .ref h4, .ref h0, .ref h3])), (h2, .inr (2, [.ref h2_row, .ref h2_ten, .ref h2_pha, .int len, .int kep, .int wfi, .int wmo, .int hun])), (h2_row, .inl (cI, 240, .inl row)), (h2_ten, .inl (cI, 4, .inl ten)), (h2_pha, .inl (cI, 4, .inl pha)), (h1, .inr (1, [.ref h1a, .int nex, .int man])), (h4, .inr (4, [.ref h4_cod, .ref h4_unf, .int tln])), (h4_cod, .inl (cI, 60, .inl cod)), (h4_unf, .inl (cI, 540, .inl unf)), (h0, .inr (0, [.ref h0_cel, .int cls])), (h0_cel, .inl (cI, 160, .inl cel)), (h3, .inr (3, [.ref h3_str, .ref h3_tlr, .ref h3_tsg])), (h3_str, .inl (cI, 40, .inl str)), (h3_tlr, .inl (cI, 240, .inl tlr)), (h3_tsg, .inl (cI, 240, .inl tsg)), (q3, .inl (cJ, 1, .inr (.inl f3)))]) (w1 := [(h5, .inr (5, [.ref h2, .ref h1, .ref h4, .ref h0, .ref h3])), (h2, .inr (2, [.ref h2_row, .ref h2_ten, .ref h2_pha, .int len, .int kep, .int wfi, .int wmo, .int hun])), (h2_row, .inl (cI, 240, .inl row)), (h2_ten, .inl (cI, 4, .inl ten)), (h2_pha, .inl (cI, 4, .inl pha)), (h1, .inr (1, [.ref h1a, .int nex, .int man])), (h4, .inr (4, [.ref h4_cod, .ref h4_unf, .int tln])), (h4_cod, .inl (cI, 60, .inl cod)), (h4_unf, .inl (cI, 540, .inl unf)), (h0, .inr (0, [.ref h0_cel, .int cls])), (h0_cel, .inl (cI, 160, .inl cel)), (h3, .inr (3, [.ref h3_str, .ref h3_tlr, .ref h3_tsg])), (h3_str, .inl (cI, 40, .inl str)), (h3_tlr, .inl (cI, 240, .inl tlr)), (h3_tsg, .inl (cI, 240, .inl tsg)), (q3, .inl (cJ, 1, .inr (.inl x121_2)))]) (w2 := [(h5, .inr (5, [.ref h2, .ref h1, .ref h4, .ref h0, .ref h3])), (h2, .inr (2, [.ref h2_row, .ref h2_ten, .ref h2_pha, .int len, .int kep, .int wfi, .int wmo, .int hun])), (h2_row, .inl (cI, 240, .inl row)), (h2_ten, .inl (cI, 4, .inl ten)), (h2_pha, .inl (cI, 4, .inl pha)), (h1, .inr (1, [.ref h1a, .int nex, .int man])), (h4, .inr (4, [.ref h4_cod, .ref h4_unf, .int tln])), (h4_cod, .inl (cI, 60, .inl cod)), (h4_unf, .inl (cI, 540, .inl unf)), (h0, .inr (0, [.ref h0_cel, .int cls])), (h0_cel, .inl (cI, 160, .inl cel)), (h3, .inr (3, [.ref h3_str, .ref h3_tlr, .ref h3_tsg])), (h3_str, .inl (cI, 40, .inl str)), (h3_tlr, .inl (cI, 240, .inl tlr)), (h3_tsg, .inl (cI, 240, .inl tsg)), (h6, .inr (6, [.int thr, .ref h6_ms, .ref h6_mv, .int svm, .ref h6_mb, .int mln, .ref h6_mc, .ref h6_mg, .ref h6_mt, .ref h6_ml, .int mat, .int wel, .ref h6_mr, .int rdm, .long hsh])), (h6_ms, .inl (cI, 253, .inl ms)), (h6_mv, .inl (cI, 1518, .inl mv)), (h6_mb, .inl (cI, 60, .inl mb)), (h6_mc, .inl (cI, 160, .inl mc)), (h6_mg, .inl (cI, 160, .inl mg)), (h6_mt, .inl (cI, 240, .inl mt)), (h6_ml, .inl (cI, 240, .inl ml)), (h6_mr, .inl (cI, 600, .inl mr)), (q3, .inl (cJ, 1, .inr (.inl x121_2)))]) (vx_runSW (As := [.ref h5, .int (xs (i + 1).toNatClampNeg), .ref q3]) (rest := []) ⟨hx, hb, hml, hown, hts⟩ (mL_setting l D cI cO cJ h5 h2 h2_row h2_ten h2_pha h1 h1a h4 h4_cod h4_unf h0 h0_cel h3 h3_str h3_tlr h3_tsg q3 H.size row ten pha len kep wfi wmo hun nex man cod unf tln cel cls str tlr tsg f3 (xs (i + 1).toNatClampNeg) _ hst hx121) (vx_cwSW 3 hts gL_law_L_setting rfl rfl rfl (by decide +kernel) ⟨Nat.le_of_ble_eq_true rfl, Nat.le_of_ble_eq_true rfl⟩) (pl_preS hK hN ((px_X.kept hX9 hS.2.1).narrow (pw_free hD hS hA [0, 1, 2, 3, 4, 5, 6, 7, 8, 9, 10, 11, 12, 13, 14, 24] rfl)) hT hC9 (pw_sub hP [0, 1, 2, 3, 4, 5, 6, 7, 8, 9, 10, 11, 12, 13, 14, 24] rfl) (pw_subD hD [0, 1, 2, 3, 4, 5, 6, 7, 8, 9, 10, 11, 12, 13, 14, 24] (by decide) rfl)) rfl rfl hl.1 rfl (lv_room (Nat.le_of_ble_eq_true rfl)) dL_law_1195 ⟨by have := hk; show _ ≤ (601024 : Nat); omega, by have := hk; show _ ≤ (7293034 : Nat); omega⟩) hP hD hS hA [0, 1, 2, 3, 4, 5, 6, 7, 8, 9, 10, 11, 12, 13, 14, 24] [15, 16, 17, 18, 19, 20, 21, 22, 23] [9, 10, 11, 12, 13, 14, 15, 16, 17, 18, 19, 20, 21, 22, 23, 0, 1, 2, 3, 4, 5, 6, 7, 8, 24] rfl rfl (by decide) (by decide) (by decide) rfl (fun H locs hP hD hS => ?_)
        refine lv_istore (lv' := [(5, .int x121_1), (0, .ref b), (1, .ref h5), (2, .ref h6), (3, .ref q3), (4, .int i)]) hx hb dL_law_1198 hl (by decide) rfl (fun ls hl => ?_)
        refine lv_aload_n hx hb dL_law_1200 rfl (lv_at hl 3 rfl) ?_
        refine lv_aload_n hx hb dL_law_1201 rfl (lv_at hl 1 rfl) ?_
        refine lv_iload hx hb dL_law_1202 (lv_at hl 5 rfl) ?_
        refine lv_iconst (v := 1) hx hb dL_law_1204 (by decide) ?_
        refine lv_iadd hx hb dL_law_1205 ?_
        obtain ⟨g122, h⟩ := gdn h
        refine va_sld hx hb hX hbl hbA hS g122 dL_law_1206 ?_
        obtain ⟨⟨x123_1, x123_2⟩, hx123, h⟩ := bnd h
        refine pw_goi (wc := [(h6, .inr (6, [.int thr, .ref h6_ms, .ref h6_mv, .int svm, .ref h6_mb, .int mln, .ref h6_mc, .ref h6_mg, .ref h6_mt, .ref h6_ml, .int mat, .int wel, .ref h6_mr, .int rdm, .long hsh])), (h6_ms, .inl (cI, 253, .inl ms)), (h6_mv, .inl (cI, 1518, .inl mv)), (h6_mb, .inl (cI, 60, .inl mb)), (h6_mc, .inl (cI, 160, .inl mc)), (h6_mg, .inl (cI, 160, .inl mg)), (h6_mt, .inl (cI, 240, .inl mt)), (h6_ml, .inl (cI, 240, .inl ml)), (h6_mr, .inl (cI, 600, .inl mr))]) (w1 := [(h6, .inr (6, [.int x123_2, .ref h6_ms, .ref h6_mv, .int svm, .ref h6_mb, .int mln, .ref h6_mc, .ref h6_mg, .ref h6_mt, .ref h6_ml, .int mat, .int wel, .ref h6_mr, .int rdm, .long hsh])), (h6_ms, .inl (cI, 253, .inl ms)), (h6_mv, .inl (cI, 1518, .inl mv)), (h6_mb, .inl (cI, 60, .inl mb)), (h6_mc, .inl (cI, 160, .inl mc)), (h6_mg, .inl (cI, 160, .inl mg)), (h6_mt, .inl (cI, 240, .inl mt)), (h6_ml, .inl (cI, 240, .inl ml)), (h6_mr, .inl (cI, 600, .inl mr))]) (w2 := [(h5, .inr (5, [.ref h2, .ref h1, .ref h4, .ref h0, .ref h3])), (h2, .inr (2, [.ref h2_row, .ref h2_ten, .ref h2_pha, .int len, .int kep, .int wfi, .int wmo, .int hun])), (h2_row, .inl (cI, 240, .inl row)), (h2_ten, .inl (cI, 4, .inl ten)), (h2_pha, .inl (cI, 4, .inl pha)), (h1, .inr (1, [.ref h1a, .int nex, .int man])), (h4, .inr (4, [.ref h4_cod, .ref h4_unf, .int tln])), (h4_cod, .inl (cI, 60, .inl cod)), (h4_unf, .inl (cI, 540, .inl unf)), (h0, .inr (0, [.ref h0_cel, .int cls])), (h0_cel, .inl (cI, 160, .inl cel)), (h3, .inr (3, [.ref h3_str, .ref h3_tlr, .ref h3_tsg])), (h3_str, .inl (cI, 40, .inl str)), (h3_tlr, .inl (cI, 240, .inl tlr)), (h3_tsg, .inl (cI, 240, .inl tsg)), (h6, .inr (6, [.int x123_2, .ref h6_ms, .ref h6_mv, .int svm, .ref h6_mb, .int mln, .ref h6_mc, .ref h6_mg, .ref h6_mt, .ref h6_ml, .int mat, .int wel, .ref h6_mr, .int rdm, .long hsh])), (h6_ms, .inl (cI, 253, .inl ms)), (h6_mv, .inl (cI, 1518, .inl mv)), (h6_mb, .inl (cI, 60, .inl mb)), (h6_mc, .inl (cI, 160, .inl mc)), (h6_mg, .inl (cI, 160, .inl mg)), (h6_mt, .inl (cI, 240, .inl mt)), (h6_ml, .inl (cI, 240, .inl ml)), (h6_mr, .inl (cI, 600, .inl mr)), (q3, .inl (cJ, 1, .inr (.inl x121_2)))]) (va_runV (As := [.int (xs (i + 1).toNatClampNeg)]) (rest := []) ⟨hx, hb, hml, hown, hts⟩ (mX6_setting l D cI cO cJ h6 h6_ms h6_mv h6_mb h6_mc h6_mg h6_mt h6_ml h6_mr H.size thr ms mv svm mb mln mc mg mt ml mat wel mr rdm hsh (xs (i + 1).toNatClampNeg) _ hx123) (cwV 1 hts gL_law_X6_setting rfl rfl rfl (by decide +kernel) ⟨Nat.le_of_ble_eq_true rfl, Nat.le_of_ble_eq_true rfl⟩) (pw_preV hK hN (pw_sub hP [15, 16, 17, 18, 19, 20, 21, 22, 23] rfl) (pw_subD hD [15, 16, 17, 18, 19, 20, 21, 22, 23] (by decide) rfl) (ci := 6) (q0 := 0) rfl rfl) rfl rfl hl.1 rfl (lv_room (Nat.le_of_ble_eq_true rfl)) dL_law_1207 ⟨by have := hk; show _ ≤ (601024 : Nat); omega, by have := hk; show _ ≤ (7293034 : Nat); omega⟩) hP hD hS hA [15, 16, 17, 18, 19, 20, 21, 22, 23] [0, 1, 2, 3, 4, 5, 6, 7, 8, 9, 10, 11, 12, 13, 14, 24] [0, 1, 2, 3, 4, 5, 6, 7, 8, 9, 10, 11, 12, 13, 14, 16, 17, 18, 19, 20, 21, 22, 23, 24, 15] rfl rfl (by decide) (by decide) (by decide) rfl (fun H locs hP hD hS => ?_)
        refine lv_istore (lv' := [(6, .int x123_1), (5, .int x121_1), (0, .ref b), (1, .ref h5), (2, .ref h6), (3, .ref q3), (4, .int i)]) hx hb dL_law_1210 hl (by decide) rfl (fun ls hl => ?_)
        refine lv_aload_n hx hb dL_law_1212 rfl (lv_at hl 4 rfl) ?_
        obtain ⟨x124, hx124, h⟩ := bnd h
        refine pw_goi (wc := [(h6, .inr (6, [.int x123_2, .ref h6_ms, .ref h6_mv, .int svm, .ref h6_mb, .int mln, .ref h6_mc, .ref h6_mg, .ref h6_mt, .ref h6_ml, .int mat, .int wel, .ref h6_mr, .int rdm, .long hsh])), (h6_ms, .inl (cI, 253, .inl ms)), (h6_mv, .inl (cI, 1518, .inl mv)), (h6_mb, .inl (cI, 60, .inl mb)), (h6_mc, .inl (cI, 160, .inl mc)), (h6_mg, .inl (cI, 160, .inl mg)), (h6_mt, .inl (cI, 240, .inl mt)), (h6_ml, .inl (cI, 240, .inl ml)), (h6_mr, .inl (cI, 600, .inl mr))]) (w1 := [(h6, .inr (6, [.int x123_2, .ref h6_ms, .ref h6_mv, .int svm, .ref h6_mb, .int mln, .ref h6_mc, .ref h6_mg, .ref h6_mt, .ref h6_ml, .int mat, .int wel, .ref h6_mr, .int rdm, .long hsh])), (h6_ms, .inl (cI, 253, .inl ms)), (h6_mv, .inl (cI, 1518, .inl mv)), (h6_mb, .inl (cI, 60, .inl mb)), (h6_mc, .inl (cI, 160, .inl mc)), (h6_mg, .inl (cI, 160, .inl mg)), (h6_mt, .inl (cI, 240, .inl mt)), (h6_ml, .inl (cI, 240, .inl ml)), (h6_mr, .inl (cI, 600, .inl mr))]) (w2 := [(h5, .inr (5, [.ref h2, .ref h1, .ref h4, .ref h0, .ref h3])), (h2, .inr (2, [.ref h2_row, .ref h2_ten, .ref h2_pha, .int len, .int kep, .int wfi, .int wmo, .int hun])), (h2_row, .inl (cI, 240, .inl row)), (h2_ten, .inl (cI, 4, .inl ten)), (h2_pha, .inl (cI, 4, .inl pha)), (h1, .inr (1, [.ref h1a, .int nex, .int man])), (h4, .inr (4, [.ref h4_cod, .ref h4_unf, .int tln])), (h4_cod, .inl (cI, 60, .inl cod)), (h4_unf, .inl (cI, 540, .inl unf)), (h0, .inr (0, [.ref h0_cel, .int cls])), (h0_cel, .inl (cI, 160, .inl cel)), (h3, .inr (3, [.ref h3_str, .ref h3_tlr, .ref h3_tsg])), (h3_str, .inl (cI, 40, .inl str)), (h3_tlr, .inl (cI, 240, .inl tlr)), (h3_tsg, .inl (cI, 240, .inl tsg)), (h6, .inr (6, [.int x123_2, .ref h6_ms, .ref h6_mv, .int svm, .ref h6_mb, .int mln, .ref h6_mc, .ref h6_mg, .ref h6_mt, .ref h6_ml, .int mat, .int wel, .ref h6_mr, .int rdm, .long hsh])), (h6_ms, .inl (cI, 253, .inl ms)), (h6_mv, .inl (cI, 1518, .inl mv)), (h6_mb, .inl (cI, 60, .inl mb)), (h6_mc, .inl (cI, 160, .inl mc)), (h6_mg, .inl (cI, 160, .inl mg)), (h6_mt, .inl (cI, 240, .inl mt)), (h6_ml, .inl (cI, 240, .inl ml)), (h6_mr, .inl (cI, 600, .inl mr)), (q3, .inl (cJ, 1, .inr (.inl x121_2)))]) (va_runV (As := []) (rest := []) ⟨hx, hb, hml, hown, hts⟩ (mX6_thrown l D cI cO cJ h6 h6_ms h6_mv h6_mb h6_mc h6_mg h6_mt h6_ml h6_mr H.size x123_2 ms mv svm mb mln mc mg mt ml mat wel mr rdm hsh _ hx124) (cwV 0 hts gL_law_X6_thrown rfl rfl rfl (by decide +kernel) ⟨Nat.le_of_ble_eq_true rfl, Nat.le_of_ble_eq_true rfl⟩) (pw_preV hK hN (pw_sub hP [15, 16, 17, 18, 19, 20, 21, 22, 23] rfl) (pw_subD hD [15, 16, 17, 18, 19, 20, 21, 22, 23] (by decide) rfl) (ci := 6) (q0 := 0) rfl rfl) rfl rfl hl.1 rfl (lv_room (Nat.le_of_ble_eq_true rfl)) dL_law_1213 ⟨by have := hk; show _ ≤ (601024 : Nat); omega, by have := hk; show _ ≤ (7293034 : Nat); omega⟩) hP hD hS hA [15, 16, 17, 18, 19, 20, 21, 22, 23] [0, 1, 2, 3, 4, 5, 6, 7, 8, 9, 10, 11, 12, 13, 14, 24] [0, 1, 2, 3, 4, 5, 6, 7, 8, 9, 10, 11, 12, 13, 14, 16, 17, 18, 19, 20, 21, 22, 23, 24, 15] rfl rfl (by decide) (by decide) (by decide) rfl (fun H locs hP hD hS => ?_)
        refine lv_iload hx hb dL_law_1216 (lv_at hl 1 rfl) ?_
        refine lv_icmp_eq (tgt := 1223) hx hb dL_law_1218 (by decide) (fun cq => ?_) (fun cq => ?_)
        · replace h := ifp cq h
          refine lv_iload hx hb dL_law_1223 (lv_at hl 1 rfl) ?_
          refine lv_if_ne (tgt := 1240) hx hb dL_law_1225 (by decide) (fun cq => ?_) (fun cq => ?_)
          · replace h := ifn cq h
            refine lv_goto (tgt := 1558) hx hb dL_law_1240 (by decide) ?_
            refine lv_iinc (v := (i + 4)) (lv' := [(4, .int (i + 4)), (6, .int x123_1), (5, .int x121_1), (0, .ref b), (1, .ref h5), (2, .ref h6), (3, .ref q3)]) hx hb dL_law_1558 hl (k := 6) rfl rfl (by decide) rfl (fun ls hl => ?_)
            refine lv_goto (tgt := 23) hx hb dL_law_1561 (by decide) ?_
            refine W.widen (k := 50 + (k + 1)) (n := 6341 + 6 * (k + 1)) (by omega) (by omega) ?_
            exact ih _ (k + 1) _ _ _ _ _ _ _ _ _ _ _ _ _ _ _ _ _ _ _ _ _ _ _ _ _ _ _ _ _ _ _ _ _ _ _ _ _ _ h (pl_i hi) (pl_k hi hL hk hgo) hP hD hS (lv_sub hl [3, 4, 5, 6, 0] rfl)
          · replace h := ifp cq h
            refine lv_aload_n hx hb dL_law_1228 rfl (lv_at hl 5 rfl) ?_
            refine lv_iconst (v := 0) hx hb dL_law_1229 (by decide) ?_
            obtain ⟨g125, h⟩ := gdn h
            refine va_lald hx hb hK hP 24 2 rfl rfl g125 dL_law_1230 ?_
            refine lv_iload hx hb dL_law_1231 (lv_at hl 0 rfl) ?_
            refine lv_i2l (v := x123_1.toInt64) hx hb dL_law_1233 rfl ?_
            refine W.lcmp hx hb dL_law_1234 ?_
            refine lv_if_eq (tgt := 1240) hx hb dL_law_1235 (by decide) (fun cq => ?_) (fun cq => ?_)
            · replace h := ifp cq h
              refine lv_goto (tgt := 1558) hx hb dL_law_1240 (by decide) ?_
              refine lv_iinc (v := (i + 4)) (lv' := [(4, .int (i + 4)), (6, .int x123_1), (5, .int x121_1), (0, .ref b), (1, .ref h5), (2, .ref h6), (3, .ref q3)]) hx hb dL_law_1558 hl (k := 6) rfl rfl (by decide) rfl (fun ls hl => ?_)
              refine lv_goto (tgt := 23) hx hb dL_law_1561 (by decide) ?_
              refine W.widen (k := 50 + (k + 1)) (n := 6341 + 6 * (k + 1)) (by omega) (by omega) ?_
              exact ih _ (k + 1) _ _ _ _ _ _ _ _ _ _ _ _ _ _ _ _ _ _ _ _ _ _ _ _ _ _ _ _ _ _ _ _ _ _ _ _ _ _ h (pl_i hi) (pl_k hi hL hk hgo) hP hD hS (lv_sub hl [3, 4, 5, 6, 0] rfl)
            · replace h := ifn cq h
              refine lv_iconst (v := 0) hx hb dL_law_1238 (by decide) ?_
              exact absurd (Option.some.inj h) (by decide)
        · replace h := ifn cq h
          refine lv_iconst (v := 0) hx hb dL_law_1221 (by decide) ?_
          exact absurd (Option.some.inj h) (by decide)
      replace h := ifn c19 h
      by_cases c20 : ((xs i.toNatClampNeg) &&& 31) = 20
      · replace h := ifp c20 h
        refine lv_tableIn (x := ((xs i.toNatClampNeg) &&& 31)) hx hb dL_law_39 (by rw [c20]; decide) (by rw [c20]; decide) (off := 1204) (tgt := 1243) (by rw [c20]; rfl) (by decide) ?_
        refine lv_aload_n hx hb dL_law_1243 rfl (lv_at hl 1 rfl) ?_
        refine lv_aload_n hx hb dL_law_1244 rfl (lv_at hl 0 rfl) ?_
        refine lv_iload hx hb dL_law_1245 (lv_at hl 4 rfl) ?_
        refine lv_iconst (v := 1) hx hb dL_law_1247 (by decide) ?_
        refine lv_iadd hx hb dL_law_1248 ?_
        obtain ⟨g126, h⟩ := gdn h
        refine va_sld hx hb hX hbl hbA hS g126 dL_law_1249 ?_
        refine lv_aload_n hx hb dL_law_1250 rfl (lv_at hl 0 rfl) ?_
        refine lv_iload hx hb dL_law_1251 (lv_at hl 4 rfl) ?_
        refine lv_iconst (v := 2) hx hb dL_law_1253 (by decide) ?_
        refine lv_iadd hx hb dL_law_1254 ?_
        obtain ⟨g127, h⟩ := gdn h
        refine va_sld hx hb hX hbl hbA hS g127 dL_law_1255 ?_
        refine lv_aload_n hx hb dL_law_1256 rfl (lv_at hl 3 rfl) ?_
        obtain ⟨⟨x128_1, x128_2, x128_3, x128_4⟩, hx128, h⟩ := bnd h
        refine pw_goiN (wc := [(h5, .inr (5, [.ref h2, .ref h1, .ref h4, .ref h0, .ref h3])), (h2, .inr (2, [.ref h2_row, .ref h2_ten, .ref h2_pha, .int len, .int kep, .int wfi, .int wmo, .int hun])), (h2_row, .inl (cI, 240, .inl row)), (h2_ten, .inl (cI, 4, .inl ten)), (h2_pha, .inl (cI, 4, .inl pha)), (h1, .inr (1, [.ref h1a, .int nex, .int man])), (h4, .inr (4, [.ref h4_cod, .ref h4_unf, .int tln])), (h4_cod, .inl (cI, 60, .inl cod)), (h4_unf, .inl (cI, 540, .inl unf)), (h0, .inr (0, [.ref h0_cel, .int cls])), (h0_cel, .inl (cI, 160, .inl cel)), (h3, .inr (3, [.ref h3_str, .ref h3_tlr, .ref h3_tsg])), (h3_str, .inl (cI, 40, .inl str)), (h3_tlr, .inl (cI, 240, .inl tlr)), (h3_tsg, .inl (cI, 240, .inl tsg)), (q3, .inl (cJ, 1, .inr (.inl f3)))]) (w1 := [(h5, .inr (5, [.ref h2, .ref h1, .ref h4, .ref h0, .ref h3])), (h2, .inr (2, [.ref h2_row, .ref h2_ten, .ref h2_pha, .int len, .int kep, .int wfi, .int wmo, .int hun])), (h2_row, .inl (cI, 240, .inl row)), (h2_ten, .inl (cI, 4, .inl ten)), (h2_pha, .inl (cI, 4, .inl pha)), (h1, .inr (1, [.ref h1a, .int nex, .int man])), (h4, .inr (4, [.ref h4_cod, .ref h4_unf, .int tln])), (h4_cod, .inl (cI, 60, .inl cod)), (h4_unf, .inl (cI, 540, .inl unf)), (h0, .inr (0, [.ref h0_cel, .int x128_3])), (h0_cel, .inl (cI, 160, .inl x128_2)), (h3, .inr (3, [.ref h3_str, .ref h3_tlr, .ref h3_tsg])), (h3_str, .inl (cI, 40, .inl str)), (h3_tlr, .inl (cI, 240, .inl tlr)), (h3_tsg, .inl (cI, 240, .inl tsg)), (q3, .inl (cJ, 1, .inr (.inl x128_4)))]) (w2 := [(h5, .inr (5, [.ref h2, .ref h1, .ref h4, .ref h0, .ref h3])), (h2, .inr (2, [.ref h2_row, .ref h2_ten, .ref h2_pha, .int len, .int kep, .int wfi, .int wmo, .int hun])), (h2_row, .inl (cI, 240, .inl row)), (h2_ten, .inl (cI, 4, .inl ten)), (h2_pha, .inl (cI, 4, .inl pha)), (h1, .inr (1, [.ref h1a, .int nex, .int man])), (h4, .inr (4, [.ref h4_cod, .ref h4_unf, .int tln])), (h4_cod, .inl (cI, 60, .inl cod)), (h4_unf, .inl (cI, 540, .inl unf)), (h0, .inr (0, [.ref h0_cel, .int x128_3])), (h0_cel, .inl (cI, 160, .inl x128_2)), (h3, .inr (3, [.ref h3_str, .ref h3_tlr, .ref h3_tsg])), (h3_str, .inl (cI, 40, .inl str)), (h3_tlr, .inl (cI, 240, .inl tlr)), (h3_tsg, .inl (cI, 240, .inl tsg)), (h6, .inr (6, [.int thr, .ref h6_ms, .ref h6_mv, .int svm, .ref h6_mb, .int mln, .ref h6_mc, .ref h6_mg, .ref h6_mt, .ref h6_ml, .int mat, .int wel, .ref h6_mr, .int rdm, .long hsh])), (h6_ms, .inl (cI, 253, .inl ms)), (h6_mv, .inl (cI, 1518, .inl mv)), (h6_mb, .inl (cI, 60, .inl mb)), (h6_mc, .inl (cI, 160, .inl mc)), (h6_mg, .inl (cI, 160, .inl mg)), (h6_mt, .inl (cI, 240, .inl mt)), (h6_ml, .inl (cI, 240, .inl ml)), (h6_mr, .inl (cI, 600, .inl mr)), (q3, .inl (cJ, 1, .inr (.inl x128_4)))]) (vx_runSW (As := [.ref h5, .int (xs (i + 1).toNatClampNeg), .int (xs (i + 2).toNatClampNeg), .ref q3]) (rest := []) ⟨hx, hb, hml, hown, hts⟩ (mL_explains l D cI cO cJ h5 h2 h2_row h2_ten h2_pha h1 h1a h4 h4_cod h4_unf h0 h0_cel h3 h3_str h3_tlr h3_tsg q3 H.size row ten pha len kep wfi wmo hun nex man cod unf tln cel cls str tlr tsg f3 (xs (i + 1).toNatClampNeg) (xs (i + 2).toNatClampNeg) _ hst hx128) (vx_cwSW 4 hts gL_law_L_explains rfl rfl rfl (by decide +kernel) ⟨Nat.le_of_ble_eq_true rfl, Nat.le_of_ble_eq_true rfl⟩) (pl_preS hK hN ((px_X.kept hX9 hS.2.1).narrow (pw_free hD hS hA [0, 1, 2, 3, 4, 5, 6, 7, 8, 9, 10, 11, 12, 13, 14, 24] rfl)) hT hC9 (pw_sub hP [0, 1, 2, 3, 4, 5, 6, 7, 8, 9, 10, 11, 12, 13, 14, 24] rfl) (pw_subD hD [0, 1, 2, 3, 4, 5, 6, 7, 8, 9, 10, 11, 12, 13, 14, 24] (by decide) rfl)) rfl rfl hl.1 rfl (lv_room (Nat.le_of_ble_eq_true rfl)) dL_law_1257 ⟨by have := hk; show _ ≤ (601024 : Nat); omega, by have := hk; show _ ≤ (7293034 : Nat); omega⟩) hP hD hS hA [0, 1, 2, 3, 4, 5, 6, 7, 8, 9, 10, 11, 12, 13, 14, 24] [15, 16, 17, 18, 19, 20, 21, 22, 23] [9, 10, 11, 12, 13, 14, 15, 16, 17, 18, 19, 20, 21, 22, 23, 0, 1, 2, 3, 4, 5, 6, 7, 8, 24] rfl rfl (by decide) (by decide) (by decide) rfl (fun H locs hP hD hS => ?_)
        refine lv_istore (lv' := [(5, .int x128_1), (0, .ref b), (1, .ref h5), (2, .ref h6), (3, .ref q3), (4, .int i)]) hx hb dL_law_1260 hl (by decide) rfl (fun ls hl => ?_)
        refine lv_aload_n hx hb dL_law_1262 rfl (lv_at hl 3 rfl) ?_
        refine lv_aload_n hx hb dL_law_1263 rfl (lv_at hl 1 rfl) ?_
        refine lv_iload hx hb dL_law_1264 (lv_at hl 5 rfl) ?_
        refine lv_iconst (v := 1) hx hb dL_law_1266 (by decide) ?_
        refine lv_iadd hx hb dL_law_1267 ?_
        obtain ⟨g129, h⟩ := gdn h
        refine va_sld hx hb hX hbl hbA hS g129 dL_law_1268 ?_
        refine lv_aload_n hx hb dL_law_1269 rfl (lv_at hl 1 rfl) ?_
        refine lv_iload hx hb dL_law_1270 (lv_at hl 5 rfl) ?_
        refine lv_iconst (v := 2) hx hb dL_law_1272 (by decide) ?_
        refine lv_iadd hx hb dL_law_1273 ?_
        obtain ⟨g130, h⟩ := gdn h
        refine va_sld hx hb hX hbl hbA hS g130 dL_law_1274 ?_
        obtain ⟨⟨x131_1, x131_2, x131_3⟩, hx131, h⟩ := bnd h
        refine pw_goi (wc := [(h6, .inr (6, [.int thr, .ref h6_ms, .ref h6_mv, .int svm, .ref h6_mb, .int mln, .ref h6_mc, .ref h6_mg, .ref h6_mt, .ref h6_ml, .int mat, .int wel, .ref h6_mr, .int rdm, .long hsh])), (h6_ms, .inl (cI, 253, .inl ms)), (h6_mv, .inl (cI, 1518, .inl mv)), (h6_mb, .inl (cI, 60, .inl mb)), (h6_mc, .inl (cI, 160, .inl mc)), (h6_mg, .inl (cI, 160, .inl mg)), (h6_mt, .inl (cI, 240, .inl mt)), (h6_ml, .inl (cI, 240, .inl ml)), (h6_mr, .inl (cI, 600, .inl mr))]) (w1 := [(h6, .inr (6, [.int x131_2, .ref h6_ms, .ref h6_mv, .int svm, .ref h6_mb, .int mln, .ref h6_mc, .ref h6_mg, .ref h6_mt, .ref h6_ml, .int mat, .int wel, .ref h6_mr, .int rdm, .long hsh])), (h6_ms, .inl (cI, 253, .inl ms)), (h6_mv, .inl (cI, 1518, .inl mv)), (h6_mb, .inl (cI, 60, .inl mb)), (h6_mc, .inl (cI, 160, .inl x131_3)), (h6_mg, .inl (cI, 160, .inl mg)), (h6_mt, .inl (cI, 240, .inl mt)), (h6_ml, .inl (cI, 240, .inl ml)), (h6_mr, .inl (cI, 600, .inl mr))]) (w2 := [(h5, .inr (5, [.ref h2, .ref h1, .ref h4, .ref h0, .ref h3])), (h2, .inr (2, [.ref h2_row, .ref h2_ten, .ref h2_pha, .int len, .int kep, .int wfi, .int wmo, .int hun])), (h2_row, .inl (cI, 240, .inl row)), (h2_ten, .inl (cI, 4, .inl ten)), (h2_pha, .inl (cI, 4, .inl pha)), (h1, .inr (1, [.ref h1a, .int nex, .int man])), (h4, .inr (4, [.ref h4_cod, .ref h4_unf, .int tln])), (h4_cod, .inl (cI, 60, .inl cod)), (h4_unf, .inl (cI, 540, .inl unf)), (h0, .inr (0, [.ref h0_cel, .int x128_3])), (h0_cel, .inl (cI, 160, .inl x128_2)), (h3, .inr (3, [.ref h3_str, .ref h3_tlr, .ref h3_tsg])), (h3_str, .inl (cI, 40, .inl str)), (h3_tlr, .inl (cI, 240, .inl tlr)), (h3_tsg, .inl (cI, 240, .inl tsg)), (h6, .inr (6, [.int x131_2, .ref h6_ms, .ref h6_mv, .int svm, .ref h6_mb, .int mln, .ref h6_mc, .ref h6_mg, .ref h6_mt, .ref h6_ml, .int mat, .int wel, .ref h6_mr, .int rdm, .long hsh])), (h6_ms, .inl (cI, 253, .inl ms)), (h6_mv, .inl (cI, 1518, .inl mv)), (h6_mb, .inl (cI, 60, .inl mb)), (h6_mc, .inl (cI, 160, .inl x131_3)), (h6_mg, .inl (cI, 160, .inl mg)), (h6_mt, .inl (cI, 240, .inl mt)), (h6_ml, .inl (cI, 240, .inl ml)), (h6_mr, .inl (cI, 600, .inl mr)), (q3, .inl (cJ, 1, .inr (.inl x128_4)))]) (va_runV (As := [.int (xs (i + 1).toNatClampNeg), .int (xs (i + 2).toNatClampNeg)]) (rest := []) ⟨hx, hb, hml, hown, hts⟩ (mX6_explains l D cI cO cJ h6 h6_ms h6_mv h6_mb h6_mc h6_mg h6_mt h6_ml h6_mr H.size thr ms mv svm mb mln mc mg mt ml mat wel mr rdm hsh (xs (i + 1).toNatClampNeg) (xs (i + 2).toNatClampNeg) _ hx131) (cwV 2 hts gL_law_X6_explains rfl rfl rfl (by decide +kernel) ⟨Nat.le_of_ble_eq_true rfl, Nat.le_of_ble_eq_true rfl⟩) (pw_preV hK hN (pw_sub hP [15, 16, 17, 18, 19, 20, 21, 22, 23] rfl) (pw_subD hD [15, 16, 17, 18, 19, 20, 21, 22, 23] (by decide) rfl) (ci := 6) (q0 := 0) rfl rfl) rfl rfl hl.1 rfl (lv_room (Nat.le_of_ble_eq_true rfl)) dL_law_1275 ⟨by have := hk; show _ ≤ (601024 : Nat); omega, by have := hk; show _ ≤ (7293034 : Nat); omega⟩) hP hD hS hA [15, 16, 17, 18, 19, 20, 21, 22, 23] [0, 1, 2, 3, 4, 5, 6, 7, 8, 9, 10, 11, 12, 13, 14, 24] [0, 1, 2, 3, 4, 5, 6, 7, 8, 9, 10, 11, 12, 13, 14, 16, 17, 18, 19, 20, 21, 22, 23, 24, 15] rfl rfl (by decide) (by decide) (by decide) rfl (fun H locs hP hD hS => ?_)
        refine lv_istore (lv' := [(6, .int x131_1), (5, .int x128_1), (0, .ref b), (1, .ref h5), (2, .ref h6), (3, .ref q3), (4, .int i)]) hx hb dL_law_1278 hl (by decide) rfl (fun ls hl => ?_)
        refine lv_aload_n hx hb dL_law_1280 rfl (lv_at hl 4 rfl) ?_
        obtain ⟨x132, hx132, h⟩ := bnd h
        refine pw_goi (wc := [(h6, .inr (6, [.int x131_2, .ref h6_ms, .ref h6_mv, .int svm, .ref h6_mb, .int mln, .ref h6_mc, .ref h6_mg, .ref h6_mt, .ref h6_ml, .int mat, .int wel, .ref h6_mr, .int rdm, .long hsh])), (h6_ms, .inl (cI, 253, .inl ms)), (h6_mv, .inl (cI, 1518, .inl mv)), (h6_mb, .inl (cI, 60, .inl mb)), (h6_mc, .inl (cI, 160, .inl x131_3)), (h6_mg, .inl (cI, 160, .inl mg)), (h6_mt, .inl (cI, 240, .inl mt)), (h6_ml, .inl (cI, 240, .inl ml)), (h6_mr, .inl (cI, 600, .inl mr))]) (w1 := [(h6, .inr (6, [.int x131_2, .ref h6_ms, .ref h6_mv, .int svm, .ref h6_mb, .int mln, .ref h6_mc, .ref h6_mg, .ref h6_mt, .ref h6_ml, .int mat, .int wel, .ref h6_mr, .int rdm, .long hsh])), (h6_ms, .inl (cI, 253, .inl ms)), (h6_mv, .inl (cI, 1518, .inl mv)), (h6_mb, .inl (cI, 60, .inl mb)), (h6_mc, .inl (cI, 160, .inl x131_3)), (h6_mg, .inl (cI, 160, .inl mg)), (h6_mt, .inl (cI, 240, .inl mt)), (h6_ml, .inl (cI, 240, .inl ml)), (h6_mr, .inl (cI, 600, .inl mr))]) (w2 := [(h5, .inr (5, [.ref h2, .ref h1, .ref h4, .ref h0, .ref h3])), (h2, .inr (2, [.ref h2_row, .ref h2_ten, .ref h2_pha, .int len, .int kep, .int wfi, .int wmo, .int hun])), (h2_row, .inl (cI, 240, .inl row)), (h2_ten, .inl (cI, 4, .inl ten)), (h2_pha, .inl (cI, 4, .inl pha)), (h1, .inr (1, [.ref h1a, .int nex, .int man])), (h4, .inr (4, [.ref h4_cod, .ref h4_unf, .int tln])), (h4_cod, .inl (cI, 60, .inl cod)), (h4_unf, .inl (cI, 540, .inl unf)), (h0, .inr (0, [.ref h0_cel, .int x128_3])), (h0_cel, .inl (cI, 160, .inl x128_2)), (h3, .inr (3, [.ref h3_str, .ref h3_tlr, .ref h3_tsg])), (h3_str, .inl (cI, 40, .inl str)), (h3_tlr, .inl (cI, 240, .inl tlr)), (h3_tsg, .inl (cI, 240, .inl tsg)), (h6, .inr (6, [.int x131_2, .ref h6_ms, .ref h6_mv, .int svm, .ref h6_mb, .int mln, .ref h6_mc, .ref h6_mg, .ref h6_mt, .ref h6_ml, .int mat, .int wel, .ref h6_mr, .int rdm, .long hsh])), (h6_ms, .inl (cI, 253, .inl ms)), (h6_mv, .inl (cI, 1518, .inl mv)), (h6_mb, .inl (cI, 60, .inl mb)), (h6_mc, .inl (cI, 160, .inl x131_3)), (h6_mg, .inl (cI, 160, .inl mg)), (h6_mt, .inl (cI, 240, .inl mt)), (h6_ml, .inl (cI, 240, .inl ml)), (h6_mr, .inl (cI, 600, .inl mr)), (q3, .inl (cJ, 1, .inr (.inl x128_4)))]) (va_runV (As := []) (rest := []) ⟨hx, hb, hml, hown, hts⟩ (mX6_thrown l D cI cO cJ h6 h6_ms h6_mv h6_mb h6_mc h6_mg h6_mt h6_ml h6_mr H.size x131_2 ms mv svm mb mln x131_3 mg mt ml mat wel mr rdm hsh _ hx132) (cwV 0 hts gL_law_X6_thrown rfl rfl rfl (by decide +kernel) ⟨Nat.le_of_ble_eq_true rfl, Nat.le_of_ble_eq_true rfl⟩) (pw_preV hK hN (pw_sub hP [15, 16, 17, 18, 19, 20, 21, 22, 23] rfl) (pw_subD hD [15, 16, 17, 18, 19, 20, 21, 22, 23] (by decide) rfl) (ci := 6) (q0 := 0) rfl rfl) rfl rfl hl.1 rfl (lv_room (Nat.le_of_ble_eq_true rfl)) dL_law_1281 ⟨by have := hk; show _ ≤ (601024 : Nat); omega, by have := hk; show _ ≤ (7293034 : Nat); omega⟩) hP hD hS hA [15, 16, 17, 18, 19, 20, 21, 22, 23] [0, 1, 2, 3, 4, 5, 6, 7, 8, 9, 10, 11, 12, 13, 14, 24] [0, 1, 2, 3, 4, 5, 6, 7, 8, 9, 10, 11, 12, 13, 14, 16, 17, 18, 19, 20, 21, 22, 23, 24, 15] rfl rfl (by decide) (by decide) (by decide) rfl (fun H locs hP hD hS => ?_)
        refine lv_iload hx hb dL_law_1284 (lv_at hl 1 rfl) ?_
        refine lv_icmp_eq (tgt := 1291) hx hb dL_law_1286 (by decide) (fun cq => ?_) (fun cq => ?_)
        · replace h := ifp cq h
          refine lv_iload hx hb dL_law_1291 (lv_at hl 1 rfl) ?_
          refine lv_if_ne (tgt := 1308) hx hb dL_law_1293 (by decide) (fun cq => ?_) (fun cq => ?_)
          · replace h := ifn cq h
            refine lv_goto (tgt := 1558) hx hb dL_law_1308 (by decide) ?_
            refine lv_iinc (v := (i + 4)) (lv' := [(4, .int (i + 4)), (6, .int x131_1), (5, .int x128_1), (0, .ref b), (1, .ref h5), (2, .ref h6), (3, .ref q3)]) hx hb dL_law_1558 hl (k := 6) rfl rfl (by decide) rfl (fun ls hl => ?_)
            refine lv_goto (tgt := 23) hx hb dL_law_1561 (by decide) ?_
            refine W.widen (k := 50 + (k + 1)) (n := 6341 + 6 * (k + 1)) (by omega) (by omega) ?_
            exact ih _ (k + 1) _ _ _ _ _ _ _ _ _ _ _ _ _ _ _ _ _ _ _ _ _ _ _ _ _ _ _ _ _ _ _ _ _ _ _ _ _ _ h (pl_i hi) (pl_k hi hL hk hgo) hP hD hS (lv_sub hl [3, 4, 5, 6, 0] rfl)
          · replace h := ifp cq h
            refine lv_aload_n hx hb dL_law_1296 rfl (lv_at hl 5 rfl) ?_
            refine lv_iconst (v := 0) hx hb dL_law_1297 (by decide) ?_
            obtain ⟨g133, h⟩ := gdn h
            refine va_lald hx hb hK hP 24 2 rfl rfl g133 dL_law_1298 ?_
            refine lv_iload hx hb dL_law_1299 (lv_at hl 0 rfl) ?_
            refine lv_i2l (v := x131_1.toInt64) hx hb dL_law_1301 rfl ?_
            refine W.lcmp hx hb dL_law_1302 ?_
            refine lv_if_eq (tgt := 1308) hx hb dL_law_1303 (by decide) (fun cq => ?_) (fun cq => ?_)
            · replace h := ifp cq h
              refine lv_goto (tgt := 1558) hx hb dL_law_1308 (by decide) ?_
              refine lv_iinc (v := (i + 4)) (lv' := [(4, .int (i + 4)), (6, .int x131_1), (5, .int x128_1), (0, .ref b), (1, .ref h5), (2, .ref h6), (3, .ref q3)]) hx hb dL_law_1558 hl (k := 6) rfl rfl (by decide) rfl (fun ls hl => ?_)
              refine lv_goto (tgt := 23) hx hb dL_law_1561 (by decide) ?_
              refine W.widen (k := 50 + (k + 1)) (n := 6341 + 6 * (k + 1)) (by omega) (by omega) ?_
              exact ih _ (k + 1) _ _ _ _ _ _ _ _ _ _ _ _ _ _ _ _ _ _ _ _ _ _ _ _ _ _ _ _ _ _ _ _ _ _ _ _ _ _ h (pl_i hi) (pl_k hi hL hk hgo) hP hD hS (lv_sub hl [3, 4, 5, 6, 0] rfl)
            · replace h := ifn cq h
              refine lv_iconst (v := 0) hx hb dL_law_1306 (by decide) ?_
              exact absurd (Option.some.inj h) (by decide)
        · replace h := ifn cq h
          refine lv_iconst (v := 0) hx hb dL_law_1289 (by decide) ?_
          exact absurd (Option.some.inj h) (by decide)
      replace h := ifn c20 h
      by_cases c21 : ((xs i.toNatClampNeg) &&& 31) = 21
      · replace h := ifp c21 h
        refine lv_tableIn (x := ((xs i.toNatClampNeg) &&& 31)) hx hb dL_law_39 (by rw [c21]; decide) (by rw [c21]; decide) (off := 1272) (tgt := 1311) (by rw [c21]; rfl) (by decide) ?_
        refine lv_aload_n hx hb dL_law_1311 rfl (lv_at hl 1 rfl) ?_
        refine lv_aload_n hx hb dL_law_1312 rfl (lv_at hl 0 rfl) ?_
        refine lv_iload hx hb dL_law_1313 (lv_at hl 4 rfl) ?_
        refine lv_iconst (v := 1) hx hb dL_law_1315 (by decide) ?_
        refine lv_iadd hx hb dL_law_1316 ?_
        obtain ⟨g134, h⟩ := gdn h
        refine va_sld hx hb hX hbl hbA hS g134 dL_law_1317 ?_
        refine lv_aload_n hx hb dL_law_1318 rfl (lv_at hl 0 rfl) ?_
        refine lv_iload hx hb dL_law_1319 (lv_at hl 4 rfl) ?_
        refine lv_iconst (v := 2) hx hb dL_law_1321 (by decide) ?_
        refine lv_iadd hx hb dL_law_1322 ?_
        obtain ⟨g135, h⟩ := gdn h
        refine va_sld hx hb hX hbl hbA hS g135 dL_law_1323 ?_
        refine lv_aload_n hx hb dL_law_1324 rfl (lv_at hl 3 rfl) ?_
        obtain ⟨⟨x136_1, x136_2, x136_3, x136_4⟩, hx136, h⟩ := bnd h
        refine pw_goiN (wc := [(h5, .inr (5, [.ref h2, .ref h1, .ref h4, .ref h0, .ref h3])), (h2, .inr (2, [.ref h2_row, .ref h2_ten, .ref h2_pha, .int len, .int kep, .int wfi, .int wmo, .int hun])), (h2_row, .inl (cI, 240, .inl row)), (h2_ten, .inl (cI, 4, .inl ten)), (h2_pha, .inl (cI, 4, .inl pha)), (h1, .inr (1, [.ref h1a, .int nex, .int man])), (h4, .inr (4, [.ref h4_cod, .ref h4_unf, .int tln])), (h4_cod, .inl (cI, 60, .inl cod)), (h4_unf, .inl (cI, 540, .inl unf)), (h0, .inr (0, [.ref h0_cel, .int cls])), (h0_cel, .inl (cI, 160, .inl cel)), (h3, .inr (3, [.ref h3_str, .ref h3_tlr, .ref h3_tsg])), (h3_str, .inl (cI, 40, .inl str)), (h3_tlr, .inl (cI, 240, .inl tlr)), (h3_tsg, .inl (cI, 240, .inl tsg)), (q3, .inl (cJ, 1, .inr (.inl f3)))]) (w1 := [(h5, .inr (5, [.ref h2, .ref h1, .ref h4, .ref h0, .ref h3])), (h2, .inr (2, [.ref h2_row, .ref h2_ten, .ref h2_pha, .int len, .int kep, .int wfi, .int wmo, .int hun])), (h2_row, .inl (cI, 240, .inl row)), (h2_ten, .inl (cI, 4, .inl ten)), (h2_pha, .inl (cI, 4, .inl pha)), (h1, .inr (1, [.ref h1a, .int nex, .int man])), (h4, .inr (4, [.ref h4_cod, .ref h4_unf, .int tln])), (h4_cod, .inl (cI, 60, .inl cod)), (h4_unf, .inl (cI, 540, .inl unf)), (h0, .inr (0, [.ref h0_cel, .int x136_3])), (h0_cel, .inl (cI, 160, .inl x136_2)), (h3, .inr (3, [.ref h3_str, .ref h3_tlr, .ref h3_tsg])), (h3_str, .inl (cI, 40, .inl str)), (h3_tlr, .inl (cI, 240, .inl tlr)), (h3_tsg, .inl (cI, 240, .inl tsg)), (q3, .inl (cJ, 1, .inr (.inl x136_4)))]) (w2 := [(h5, .inr (5, [.ref h2, .ref h1, .ref h4, .ref h0, .ref h3])), (h2, .inr (2, [.ref h2_row, .ref h2_ten, .ref h2_pha, .int len, .int kep, .int wfi, .int wmo, .int hun])), (h2_row, .inl (cI, 240, .inl row)), (h2_ten, .inl (cI, 4, .inl ten)), (h2_pha, .inl (cI, 4, .inl pha)), (h1, .inr (1, [.ref h1a, .int nex, .int man])), (h4, .inr (4, [.ref h4_cod, .ref h4_unf, .int tln])), (h4_cod, .inl (cI, 60, .inl cod)), (h4_unf, .inl (cI, 540, .inl unf)), (h0, .inr (0, [.ref h0_cel, .int x136_3])), (h0_cel, .inl (cI, 160, .inl x136_2)), (h3, .inr (3, [.ref h3_str, .ref h3_tlr, .ref h3_tsg])), (h3_str, .inl (cI, 40, .inl str)), (h3_tlr, .inl (cI, 240, .inl tlr)), (h3_tsg, .inl (cI, 240, .inl tsg)), (h6, .inr (6, [.int thr, .ref h6_ms, .ref h6_mv, .int svm, .ref h6_mb, .int mln, .ref h6_mc, .ref h6_mg, .ref h6_mt, .ref h6_ml, .int mat, .int wel, .ref h6_mr, .int rdm, .long hsh])), (h6_ms, .inl (cI, 253, .inl ms)), (h6_mv, .inl (cI, 1518, .inl mv)), (h6_mb, .inl (cI, 60, .inl mb)), (h6_mc, .inl (cI, 160, .inl mc)), (h6_mg, .inl (cI, 160, .inl mg)), (h6_mt, .inl (cI, 240, .inl mt)), (h6_ml, .inl (cI, 240, .inl ml)), (h6_mr, .inl (cI, 600, .inl mr)), (q3, .inl (cJ, 1, .inr (.inl x136_4)))]) (vx_runSW (As := [.ref h5, .int (xs (i + 1).toNatClampNeg), .int (xs (i + 2).toNatClampNeg), .ref q3]) (rest := []) ⟨hx, hb, hml, hown, hts⟩ (mL_best l D cI cO cJ h5 h2 h2_row h2_ten h2_pha h1 h1a h4 h4_cod h4_unf h0 h0_cel h3 h3_str h3_tlr h3_tsg q3 H.size row ten pha len kep wfi wmo hun nex man cod unf tln cel cls str tlr tsg f3 (xs (i + 1).toNatClampNeg) (xs (i + 2).toNatClampNeg) _ hst hx136) (vx_cwSW 4 hts gL_law_L_best rfl rfl rfl (by decide +kernel) ⟨Nat.le_of_ble_eq_true rfl, Nat.le_of_ble_eq_true rfl⟩) (pl_preS hK hN ((px_X.kept hX9 hS.2.1).narrow (pw_free hD hS hA [0, 1, 2, 3, 4, 5, 6, 7, 8, 9, 10, 11, 12, 13, 14, 24] rfl)) hT hC9 (pw_sub hP [0, 1, 2, 3, 4, 5, 6, 7, 8, 9, 10, 11, 12, 13, 14, 24] rfl) (pw_subD hD [0, 1, 2, 3, 4, 5, 6, 7, 8, 9, 10, 11, 12, 13, 14, 24] (by decide) rfl)) rfl rfl hl.1 rfl (lv_room (Nat.le_of_ble_eq_true rfl)) dL_law_1325 ⟨by have := hk; show _ ≤ (601024 : Nat); omega, by have := hk; show _ ≤ (7293034 : Nat); omega⟩) hP hD hS hA [0, 1, 2, 3, 4, 5, 6, 7, 8, 9, 10, 11, 12, 13, 14, 24] [15, 16, 17, 18, 19, 20, 21, 22, 23] [9, 10, 11, 12, 13, 14, 15, 16, 17, 18, 19, 20, 21, 22, 23, 0, 1, 2, 3, 4, 5, 6, 7, 8, 24] rfl rfl (by decide) (by decide) (by decide) rfl (fun H locs hP hD hS => ?_)
        refine lv_istore (lv' := [(5, .int x136_1), (0, .ref b), (1, .ref h5), (2, .ref h6), (3, .ref q3), (4, .int i)]) hx hb dL_law_1328 hl (by decide) rfl (fun ls hl => ?_)
        refine lv_aload_n hx hb dL_law_1330 rfl (lv_at hl 3 rfl) ?_
        refine lv_aload_n hx hb dL_law_1331 rfl (lv_at hl 1 rfl) ?_
        refine lv_iload hx hb dL_law_1332 (lv_at hl 5 rfl) ?_
        refine lv_iconst (v := 1) hx hb dL_law_1334 (by decide) ?_
        refine lv_iadd hx hb dL_law_1335 ?_
        obtain ⟨g137, h⟩ := gdn h
        refine va_sld hx hb hX hbl hbA hS g137 dL_law_1336 ?_
        refine lv_aload_n hx hb dL_law_1337 rfl (lv_at hl 1 rfl) ?_
        refine lv_iload hx hb dL_law_1338 (lv_at hl 5 rfl) ?_
        refine lv_iconst (v := 2) hx hb dL_law_1340 (by decide) ?_
        refine lv_iadd hx hb dL_law_1341 ?_
        obtain ⟨g138, h⟩ := gdn h
        refine va_sld hx hb hX hbl hbA hS g138 dL_law_1342 ?_
        obtain ⟨⟨x139_1, x139_2, x139_3⟩, hx139, h⟩ := bnd h
        refine pw_goi (wc := [(h6, .inr (6, [.int thr, .ref h6_ms, .ref h6_mv, .int svm, .ref h6_mb, .int mln, .ref h6_mc, .ref h6_mg, .ref h6_mt, .ref h6_ml, .int mat, .int wel, .ref h6_mr, .int rdm, .long hsh])), (h6_ms, .inl (cI, 253, .inl ms)), (h6_mv, .inl (cI, 1518, .inl mv)), (h6_mb, .inl (cI, 60, .inl mb)), (h6_mc, .inl (cI, 160, .inl mc)), (h6_mg, .inl (cI, 160, .inl mg)), (h6_mt, .inl (cI, 240, .inl mt)), (h6_ml, .inl (cI, 240, .inl ml)), (h6_mr, .inl (cI, 600, .inl mr))]) (w1 := [(h6, .inr (6, [.int x139_2, .ref h6_ms, .ref h6_mv, .int svm, .ref h6_mb, .int mln, .ref h6_mc, .ref h6_mg, .ref h6_mt, .ref h6_ml, .int mat, .int wel, .ref h6_mr, .int rdm, .long hsh])), (h6_ms, .inl (cI, 253, .inl ms)), (h6_mv, .inl (cI, 1518, .inl mv)), (h6_mb, .inl (cI, 60, .inl mb)), (h6_mc, .inl (cI, 160, .inl x139_3)), (h6_mg, .inl (cI, 160, .inl mg)), (h6_mt, .inl (cI, 240, .inl mt)), (h6_ml, .inl (cI, 240, .inl ml)), (h6_mr, .inl (cI, 600, .inl mr))]) (w2 := [(h5, .inr (5, [.ref h2, .ref h1, .ref h4, .ref h0, .ref h3])), (h2, .inr (2, [.ref h2_row, .ref h2_ten, .ref h2_pha, .int len, .int kep, .int wfi, .int wmo, .int hun])), (h2_row, .inl (cI, 240, .inl row)), (h2_ten, .inl (cI, 4, .inl ten)), (h2_pha, .inl (cI, 4, .inl pha)), (h1, .inr (1, [.ref h1a, .int nex, .int man])), (h4, .inr (4, [.ref h4_cod, .ref h4_unf, .int tln])), (h4_cod, .inl (cI, 60, .inl cod)), (h4_unf, .inl (cI, 540, .inl unf)), (h0, .inr (0, [.ref h0_cel, .int x136_3])), (h0_cel, .inl (cI, 160, .inl x136_2)), (h3, .inr (3, [.ref h3_str, .ref h3_tlr, .ref h3_tsg])), (h3_str, .inl (cI, 40, .inl str)), (h3_tlr, .inl (cI, 240, .inl tlr)), (h3_tsg, .inl (cI, 240, .inl tsg)), (h6, .inr (6, [.int x139_2, .ref h6_ms, .ref h6_mv, .int svm, .ref h6_mb, .int mln, .ref h6_mc, .ref h6_mg, .ref h6_mt, .ref h6_ml, .int mat, .int wel, .ref h6_mr, .int rdm, .long hsh])), (h6_ms, .inl (cI, 253, .inl ms)), (h6_mv, .inl (cI, 1518, .inl mv)), (h6_mb, .inl (cI, 60, .inl mb)), (h6_mc, .inl (cI, 160, .inl x139_3)), (h6_mg, .inl (cI, 160, .inl mg)), (h6_mt, .inl (cI, 240, .inl mt)), (h6_ml, .inl (cI, 240, .inl ml)), (h6_mr, .inl (cI, 600, .inl mr)), (q3, .inl (cJ, 1, .inr (.inl x136_4)))]) (va_runV (As := [.int (xs (i + 1).toNatClampNeg), .int (xs (i + 2).toNatClampNeg)]) (rest := []) ⟨hx, hb, hml, hown, hts⟩ (mX6_best l D cI cO cJ h6 h6_ms h6_mv h6_mb h6_mc h6_mg h6_mt h6_ml h6_mr H.size thr ms mv svm mb mln mc mg mt ml mat wel mr rdm hsh (xs (i + 1).toNatClampNeg) (xs (i + 2).toNatClampNeg) _ hx139) (cwV 2 hts gL_law_X6_best rfl rfl rfl (by decide +kernel) ⟨Nat.le_of_ble_eq_true rfl, Nat.le_of_ble_eq_true rfl⟩) (pw_preV hK hN (pw_sub hP [15, 16, 17, 18, 19, 20, 21, 22, 23] rfl) (pw_subD hD [15, 16, 17, 18, 19, 20, 21, 22, 23] (by decide) rfl) (ci := 6) (q0 := 0) rfl rfl) rfl rfl hl.1 rfl (lv_room (Nat.le_of_ble_eq_true rfl)) dL_law_1343 ⟨by have := hk; show _ ≤ (601024 : Nat); omega, by have := hk; show _ ≤ (7293034 : Nat); omega⟩) hP hD hS hA [15, 16, 17, 18, 19, 20, 21, 22, 23] [0, 1, 2, 3, 4, 5, 6, 7, 8, 9, 10, 11, 12, 13, 14, 24] [0, 1, 2, 3, 4, 5, 6, 7, 8, 9, 10, 11, 12, 13, 14, 16, 17, 18, 19, 20, 21, 22, 23, 24, 15] rfl rfl (by decide) (by decide) (by decide) rfl (fun H locs hP hD hS => ?_)
        refine lv_istore (lv' := [(6, .int x139_1), (5, .int x136_1), (0, .ref b), (1, .ref h5), (2, .ref h6), (3, .ref q3), (4, .int i)]) hx hb dL_law_1346 hl (by decide) rfl (fun ls hl => ?_)
        refine lv_aload_n hx hb dL_law_1348 rfl (lv_at hl 4 rfl) ?_
        obtain ⟨x140, hx140, h⟩ := bnd h
        refine pw_goi (wc := [(h6, .inr (6, [.int x139_2, .ref h6_ms, .ref h6_mv, .int svm, .ref h6_mb, .int mln, .ref h6_mc, .ref h6_mg, .ref h6_mt, .ref h6_ml, .int mat, .int wel, .ref h6_mr, .int rdm, .long hsh])), (h6_ms, .inl (cI, 253, .inl ms)), (h6_mv, .inl (cI, 1518, .inl mv)), (h6_mb, .inl (cI, 60, .inl mb)), (h6_mc, .inl (cI, 160, .inl x139_3)), (h6_mg, .inl (cI, 160, .inl mg)), (h6_mt, .inl (cI, 240, .inl mt)), (h6_ml, .inl (cI, 240, .inl ml)), (h6_mr, .inl (cI, 600, .inl mr))]) (w1 := [(h6, .inr (6, [.int x139_2, .ref h6_ms, .ref h6_mv, .int svm, .ref h6_mb, .int mln, .ref h6_mc, .ref h6_mg, .ref h6_mt, .ref h6_ml, .int mat, .int wel, .ref h6_mr, .int rdm, .long hsh])), (h6_ms, .inl (cI, 253, .inl ms)), (h6_mv, .inl (cI, 1518, .inl mv)), (h6_mb, .inl (cI, 60, .inl mb)), (h6_mc, .inl (cI, 160, .inl x139_3)), (h6_mg, .inl (cI, 160, .inl mg)), (h6_mt, .inl (cI, 240, .inl mt)), (h6_ml, .inl (cI, 240, .inl ml)), (h6_mr, .inl (cI, 600, .inl mr))]) (w2 := [(h5, .inr (5, [.ref h2, .ref h1, .ref h4, .ref h0, .ref h3])), (h2, .inr (2, [.ref h2_row, .ref h2_ten, .ref h2_pha, .int len, .int kep, .int wfi, .int wmo, .int hun])), (h2_row, .inl (cI, 240, .inl row)), (h2_ten, .inl (cI, 4, .inl ten)), (h2_pha, .inl (cI, 4, .inl pha)), (h1, .inr (1, [.ref h1a, .int nex, .int man])), (h4, .inr (4, [.ref h4_cod, .ref h4_unf, .int tln])), (h4_cod, .inl (cI, 60, .inl cod)), (h4_unf, .inl (cI, 540, .inl unf)), (h0, .inr (0, [.ref h0_cel, .int x136_3])), (h0_cel, .inl (cI, 160, .inl x136_2)), (h3, .inr (3, [.ref h3_str, .ref h3_tlr, .ref h3_tsg])), (h3_str, .inl (cI, 40, .inl str)), (h3_tlr, .inl (cI, 240, .inl tlr)), (h3_tsg, .inl (cI, 240, .inl tsg)), (h6, .inr (6, [.int x139_2, .ref h6_ms, .ref h6_mv, .int svm, .ref h6_mb, .int mln, .ref h6_mc, .ref h6_mg, .ref h6_mt, .ref h6_ml, .int mat, .int wel, .ref h6_mr, .int rdm, .long hsh])), (h6_ms, .inl (cI, 253, .inl ms)), (h6_mv, .inl (cI, 1518, .inl mv)), (h6_mb, .inl (cI, 60, .inl mb)), (h6_mc, .inl (cI, 160, .inl x139_3)), (h6_mg, .inl (cI, 160, .inl mg)), (h6_mt, .inl (cI, 240, .inl mt)), (h6_ml, .inl (cI, 240, .inl ml)), (h6_mr, .inl (cI, 600, .inl mr)), (q3, .inl (cJ, 1, .inr (.inl x136_4)))]) (va_runV (As := []) (rest := []) ⟨hx, hb, hml, hown, hts⟩ (mX6_thrown l D cI cO cJ h6 h6_ms h6_mv h6_mb h6_mc h6_mg h6_mt h6_ml h6_mr H.size x139_2 ms mv svm mb mln x139_3 mg mt ml mat wel mr rdm hsh _ hx140) (cwV 0 hts gL_law_X6_thrown rfl rfl rfl (by decide +kernel) ⟨Nat.le_of_ble_eq_true rfl, Nat.le_of_ble_eq_true rfl⟩) (pw_preV hK hN (pw_sub hP [15, 16, 17, 18, 19, 20, 21, 22, 23] rfl) (pw_subD hD [15, 16, 17, 18, 19, 20, 21, 22, 23] (by decide) rfl) (ci := 6) (q0 := 0) rfl rfl) rfl rfl hl.1 rfl (lv_room (Nat.le_of_ble_eq_true rfl)) dL_law_1349 ⟨by have := hk; show _ ≤ (601024 : Nat); omega, by have := hk; show _ ≤ (7293034 : Nat); omega⟩) hP hD hS hA [15, 16, 17, 18, 19, 20, 21, 22, 23] [0, 1, 2, 3, 4, 5, 6, 7, 8, 9, 10, 11, 12, 13, 14, 24] [0, 1, 2, 3, 4, 5, 6, 7, 8, 9, 10, 11, 12, 13, 14, 16, 17, 18, 19, 20, 21, 22, 23, 24, 15] rfl rfl (by decide) (by decide) (by decide) rfl (fun H locs hP hD hS => ?_)
        refine lv_iload hx hb dL_law_1352 (lv_at hl 1 rfl) ?_
        refine lv_icmp_eq (tgt := 1359) hx hb dL_law_1354 (by decide) (fun cq => ?_) (fun cq => ?_)
        · replace h := ifp cq h
          refine lv_iload hx hb dL_law_1359 (lv_at hl 1 rfl) ?_
          refine lv_if_ne (tgt := 1376) hx hb dL_law_1361 (by decide) (fun cq => ?_) (fun cq => ?_)
          · replace h := ifn cq h
            refine lv_goto (tgt := 1558) hx hb dL_law_1376 (by decide) ?_
            refine lv_iinc (v := (i + 4)) (lv' := [(4, .int (i + 4)), (6, .int x139_1), (5, .int x136_1), (0, .ref b), (1, .ref h5), (2, .ref h6), (3, .ref q3)]) hx hb dL_law_1558 hl (k := 6) rfl rfl (by decide) rfl (fun ls hl => ?_)
            refine lv_goto (tgt := 23) hx hb dL_law_1561 (by decide) ?_
            refine W.widen (k := 50 + (k + 1)) (n := 6341 + 6 * (k + 1)) (by omega) (by omega) ?_
            exact ih _ (k + 1) _ _ _ _ _ _ _ _ _ _ _ _ _ _ _ _ _ _ _ _ _ _ _ _ _ _ _ _ _ _ _ _ _ _ _ _ _ _ h (pl_i hi) (pl_k hi hL hk hgo) hP hD hS (lv_sub hl [3, 4, 5, 6, 0] rfl)
          · replace h := ifp cq h
            refine lv_aload_n hx hb dL_law_1364 rfl (lv_at hl 5 rfl) ?_
            refine lv_iconst (v := 0) hx hb dL_law_1365 (by decide) ?_
            obtain ⟨g141, h⟩ := gdn h
            refine va_lald hx hb hK hP 24 2 rfl rfl g141 dL_law_1366 ?_
            refine lv_iload hx hb dL_law_1367 (lv_at hl 0 rfl) ?_
            refine lv_i2l (v := x139_1.toInt64) hx hb dL_law_1369 rfl ?_
            refine W.lcmp hx hb dL_law_1370 ?_
            refine lv_if_eq (tgt := 1376) hx hb dL_law_1371 (by decide) (fun cq => ?_) (fun cq => ?_)
            · replace h := ifp cq h
              refine lv_goto (tgt := 1558) hx hb dL_law_1376 (by decide) ?_
              refine lv_iinc (v := (i + 4)) (lv' := [(4, .int (i + 4)), (6, .int x139_1), (5, .int x136_1), (0, .ref b), (1, .ref h5), (2, .ref h6), (3, .ref q3)]) hx hb dL_law_1558 hl (k := 6) rfl rfl (by decide) rfl (fun ls hl => ?_)
              refine lv_goto (tgt := 23) hx hb dL_law_1561 (by decide) ?_
              refine W.widen (k := 50 + (k + 1)) (n := 6341 + 6 * (k + 1)) (by omega) (by omega) ?_
              exact ih _ (k + 1) _ _ _ _ _ _ _ _ _ _ _ _ _ _ _ _ _ _ _ _ _ _ _ _ _ _ _ _ _ _ _ _ _ _ _ _ _ _ h (pl_i hi) (pl_k hi hL hk hgo) hP hD hS (lv_sub hl [3, 4, 5, 6, 0] rfl)
            · replace h := ifn cq h
              refine lv_iconst (v := 0) hx hb dL_law_1374 (by decide) ?_
              exact absurd (Option.some.inj h) (by decide)
        · replace h := ifn cq h
          refine lv_iconst (v := 0) hx hb dL_law_1357 (by decide) ?_
          exact absurd (Option.some.inj h) (by decide)
      replace h := ifn c21 h
      by_cases c22 : ((xs i.toNatClampNeg) &&& 31) = 22
      · replace h := ifp c22 h
        refine lv_tableIn (x := ((xs i.toNatClampNeg) &&& 31)) hx hb dL_law_39 (by rw [c22]; decide) (by rw [c22]; decide) (off := 1340) (tgt := 1379) (by rw [c22]; rfl) (by decide) ?_
        refine lv_aload_n hx hb dL_law_1379 rfl (lv_at hl 1 rfl) ?_
        refine lv_aload_n hx hb dL_law_1380 rfl (lv_at hl 0 rfl) ?_
        refine lv_iload hx hb dL_law_1381 (lv_at hl 4 rfl) ?_
        refine lv_iconst (v := 1) hx hb dL_law_1383 (by decide) ?_
        refine lv_iadd hx hb dL_law_1384 ?_
        obtain ⟨g142, h⟩ := gdn h
        refine va_sld hx hb hX hbl hbA hS g142 dL_law_1385 ?_
        refine lv_aload_n hx hb dL_law_1386 rfl (lv_at hl 3 rfl) ?_
        obtain ⟨⟨x143_1, x143_2, x143_3, x143_4⟩, hx143, h⟩ := bnd h
        refine pw_goiN (wc := [(h5, .inr (5, [.ref h2, .ref h1, .ref h4, .ref h0, .ref h3])), (h2, .inr (2, [.ref h2_row, .ref h2_ten, .ref h2_pha, .int len, .int kep, .int wfi, .int wmo, .int hun])), (h2_row, .inl (cI, 240, .inl row)), (h2_ten, .inl (cI, 4, .inl ten)), (h2_pha, .inl (cI, 4, .inl pha)), (h1, .inr (1, [.ref h1a, .int nex, .int man])), (h4, .inr (4, [.ref h4_cod, .ref h4_unf, .int tln])), (h4_cod, .inl (cI, 60, .inl cod)), (h4_unf, .inl (cI, 540, .inl unf)), (h0, .inr (0, [.ref h0_cel, .int cls])), (h0_cel, .inl (cI, 160, .inl cel)), (h3, .inr (3, [.ref h3_str, .ref h3_tlr, .ref h3_tsg])), (h3_str, .inl (cI, 40, .inl str)), (h3_tlr, .inl (cI, 240, .inl tlr)), (h3_tsg, .inl (cI, 240, .inl tsg)), (q3, .inl (cJ, 1, .inr (.inl f3)))]) (w1 := [(h5, .inr (5, [.ref h2, .ref h1, .ref h4, .ref h0, .ref h3])), (h2, .inr (2, [.ref h2_row, .ref h2_ten, .ref h2_pha, .int len, .int kep, .int wfi, .int wmo, .int hun])), (h2_row, .inl (cI, 240, .inl row)), (h2_ten, .inl (cI, 4, .inl ten)), (h2_pha, .inl (cI, 4, .inl pha)), (h1, .inr (1, [.ref h1a, .int nex, .int man])), (h4, .inr (4, [.ref h4_cod, .ref h4_unf, .int tln])), (h4_cod, .inl (cI, 60, .inl cod)), (h4_unf, .inl (cI, 540, .inl unf)), (h0, .inr (0, [.ref h0_cel, .int x143_3])), (h0_cel, .inl (cI, 160, .inl x143_2)), (h3, .inr (3, [.ref h3_str, .ref h3_tlr, .ref h3_tsg])), (h3_str, .inl (cI, 40, .inl str)), (h3_tlr, .inl (cI, 240, .inl tlr)), (h3_tsg, .inl (cI, 240, .inl tsg)), (q3, .inl (cJ, 1, .inr (.inl x143_4)))]) (w2 := [(h5, .inr (5, [.ref h2, .ref h1, .ref h4, .ref h0, .ref h3])), (h2, .inr (2, [.ref h2_row, .ref h2_ten, .ref h2_pha, .int len, .int kep, .int wfi, .int wmo, .int hun])), (h2_row, .inl (cI, 240, .inl row)), (h2_ten, .inl (cI, 4, .inl ten)), (h2_pha, .inl (cI, 4, .inl pha)), (h1, .inr (1, [.ref h1a, .int nex, .int man])), (h4, .inr (4, [.ref h4_cod, .ref h4_unf, .int tln])), (h4_cod, .inl (cI, 60, .inl cod)), (h4_unf, .inl (cI, 540, .inl unf)), (h0, .inr (0, [.ref h0_cel, .int x143_3])), (h0_cel, .inl (cI, 160, .inl x143_2)), (h3, .inr (3, [.ref h3_str, .ref h3_tlr, .ref h3_tsg])), (h3_str, .inl (cI, 40, .inl str)), (h3_tlr, .inl (cI, 240, .inl tlr)), (h3_tsg, .inl (cI, 240, .inl tsg)), (h6, .inr (6, [.int thr, .ref h6_ms, .ref h6_mv, .int svm, .ref h6_mb, .int mln, .ref h6_mc, .ref h6_mg, .ref h6_mt, .ref h6_ml, .int mat, .int wel, .ref h6_mr, .int rdm, .long hsh])), (h6_ms, .inl (cI, 253, .inl ms)), (h6_mv, .inl (cI, 1518, .inl mv)), (h6_mb, .inl (cI, 60, .inl mb)), (h6_mc, .inl (cI, 160, .inl mc)), (h6_mg, .inl (cI, 160, .inl mg)), (h6_mt, .inl (cI, 240, .inl mt)), (h6_ml, .inl (cI, 240, .inl ml)), (h6_mr, .inl (cI, 600, .inl mr)), (q3, .inl (cJ, 1, .inr (.inl x143_4)))]) (vx_runSW (As := [.ref h5, .int (xs (i + 1).toNatClampNeg), .ref q3]) (rest := []) ⟨hx, hb, hml, hown, hts⟩ (mL_bestPhase l D cI cO cJ h5 h2 h2_row h2_ten h2_pha h1 h1a h4 h4_cod h4_unf h0 h0_cel h3 h3_str h3_tlr h3_tsg q3 H.size row ten pha len kep wfi wmo hun nex man cod unf tln cel cls str tlr tsg f3 (xs (i + 1).toNatClampNeg) _ hst hx143) (vx_cwSW 3 hts gL_law_L_bestPhase rfl rfl rfl (by decide +kernel) ⟨Nat.le_of_ble_eq_true rfl, Nat.le_of_ble_eq_true rfl⟩) (pl_preS hK hN ((px_X.kept hX9 hS.2.1).narrow (pw_free hD hS hA [0, 1, 2, 3, 4, 5, 6, 7, 8, 9, 10, 11, 12, 13, 14, 24] rfl)) hT hC9 (pw_sub hP [0, 1, 2, 3, 4, 5, 6, 7, 8, 9, 10, 11, 12, 13, 14, 24] rfl) (pw_subD hD [0, 1, 2, 3, 4, 5, 6, 7, 8, 9, 10, 11, 12, 13, 14, 24] (by decide) rfl)) rfl rfl hl.1 rfl (lv_room (Nat.le_of_ble_eq_true rfl)) dL_law_1387 ⟨by have := hk; show _ ≤ (601024 : Nat); omega, by have := hk; show _ ≤ (7293034 : Nat); omega⟩) hP hD hS hA [0, 1, 2, 3, 4, 5, 6, 7, 8, 9, 10, 11, 12, 13, 14, 24] [15, 16, 17, 18, 19, 20, 21, 22, 23] [9, 10, 11, 12, 13, 14, 15, 16, 17, 18, 19, 20, 21, 22, 23, 0, 1, 2, 3, 4, 5, 6, 7, 8, 24] rfl rfl (by decide) (by decide) (by decide) rfl (fun H locs hP hD hS => ?_)
        refine lv_istore (lv' := [(5, .int x143_1), (0, .ref b), (1, .ref h5), (2, .ref h6), (3, .ref q3), (4, .int i)]) hx hb dL_law_1390 hl (by decide) rfl (fun ls hl => ?_)
        refine lv_aload_n hx hb dL_law_1392 rfl (lv_at hl 3 rfl) ?_
        refine lv_aload_n hx hb dL_law_1393 rfl (lv_at hl 1 rfl) ?_
        refine lv_iload hx hb dL_law_1394 (lv_at hl 5 rfl) ?_
        refine lv_iconst (v := 1) hx hb dL_law_1396 (by decide) ?_
        refine lv_iadd hx hb dL_law_1397 ?_
        obtain ⟨g144, h⟩ := gdn h
        refine va_sld hx hb hX hbl hbA hS g144 dL_law_1398 ?_
        obtain ⟨⟨x145_1, x145_2, x145_3⟩, hx145, h⟩ := bnd h
        refine pw_goi (wc := [(h6, .inr (6, [.int thr, .ref h6_ms, .ref h6_mv, .int svm, .ref h6_mb, .int mln, .ref h6_mc, .ref h6_mg, .ref h6_mt, .ref h6_ml, .int mat, .int wel, .ref h6_mr, .int rdm, .long hsh])), (h6_ms, .inl (cI, 253, .inl ms)), (h6_mv, .inl (cI, 1518, .inl mv)), (h6_mb, .inl (cI, 60, .inl mb)), (h6_mc, .inl (cI, 160, .inl mc)), (h6_mg, .inl (cI, 160, .inl mg)), (h6_mt, .inl (cI, 240, .inl mt)), (h6_ml, .inl (cI, 240, .inl ml)), (h6_mr, .inl (cI, 600, .inl mr))]) (w1 := [(h6, .inr (6, [.int x145_2, .ref h6_ms, .ref h6_mv, .int svm, .ref h6_mb, .int mln, .ref h6_mc, .ref h6_mg, .ref h6_mt, .ref h6_ml, .int mat, .int wel, .ref h6_mr, .int rdm, .long hsh])), (h6_ms, .inl (cI, 253, .inl ms)), (h6_mv, .inl (cI, 1518, .inl mv)), (h6_mb, .inl (cI, 60, .inl mb)), (h6_mc, .inl (cI, 160, .inl x145_3)), (h6_mg, .inl (cI, 160, .inl mg)), (h6_mt, .inl (cI, 240, .inl mt)), (h6_ml, .inl (cI, 240, .inl ml)), (h6_mr, .inl (cI, 600, .inl mr))]) (w2 := [(h5, .inr (5, [.ref h2, .ref h1, .ref h4, .ref h0, .ref h3])), (h2, .inr (2, [.ref h2_row, .ref h2_ten, .ref h2_pha, .int len, .int kep, .int wfi, .int wmo, .int hun])), (h2_row, .inl (cI, 240, .inl row)), (h2_ten, .inl (cI, 4, .inl ten)), (h2_pha, .inl (cI, 4, .inl pha)), (h1, .inr (1, [.ref h1a, .int nex, .int man])), (h4, .inr (4, [.ref h4_cod, .ref h4_unf, .int tln])), (h4_cod, .inl (cI, 60, .inl cod)), (h4_unf, .inl (cI, 540, .inl unf)), (h0, .inr (0, [.ref h0_cel, .int x143_3])), (h0_cel, .inl (cI, 160, .inl x143_2)), (h3, .inr (3, [.ref h3_str, .ref h3_tlr, .ref h3_tsg])), (h3_str, .inl (cI, 40, .inl str)), (h3_tlr, .inl (cI, 240, .inl tlr)), (h3_tsg, .inl (cI, 240, .inl tsg)), (h6, .inr (6, [.int x145_2, .ref h6_ms, .ref h6_mv, .int svm, .ref h6_mb, .int mln, .ref h6_mc, .ref h6_mg, .ref h6_mt, .ref h6_ml, .int mat, .int wel, .ref h6_mr, .int rdm, .long hsh])), (h6_ms, .inl (cI, 253, .inl ms)), (h6_mv, .inl (cI, 1518, .inl mv)), (h6_mb, .inl (cI, 60, .inl mb)), (h6_mc, .inl (cI, 160, .inl x145_3)), (h6_mg, .inl (cI, 160, .inl mg)), (h6_mt, .inl (cI, 240, .inl mt)), (h6_ml, .inl (cI, 240, .inl ml)), (h6_mr, .inl (cI, 600, .inl mr)), (q3, .inl (cJ, 1, .inr (.inl x143_4)))]) (va_runV (As := [.int (xs (i + 1).toNatClampNeg)]) (rest := []) ⟨hx, hb, hml, hown, hts⟩ (mX6_bestPhase l D cI cO cJ h6 h6_ms h6_mv h6_mb h6_mc h6_mg h6_mt h6_ml h6_mr H.size thr ms mv svm mb mln mc mg mt ml mat wel mr rdm hsh (xs (i + 1).toNatClampNeg) _ hx145) (cwV 1 hts gL_law_X6_bestPhase rfl rfl rfl (by decide +kernel) ⟨Nat.le_of_ble_eq_true rfl, Nat.le_of_ble_eq_true rfl⟩) (pw_preV hK hN (pw_sub hP [15, 16, 17, 18, 19, 20, 21, 22, 23] rfl) (pw_subD hD [15, 16, 17, 18, 19, 20, 21, 22, 23] (by decide) rfl) (ci := 6) (q0 := 0) rfl rfl) rfl rfl hl.1 rfl (lv_room (Nat.le_of_ble_eq_true rfl)) dL_law_1399 ⟨by have := hk; show _ ≤ (601024 : Nat); omega, by have := hk; show _ ≤ (7293034 : Nat); omega⟩) hP hD hS hA [15, 16, 17, 18, 19, 20, 21, 22, 23] [0, 1, 2, 3, 4, 5, 6, 7, 8, 9, 10, 11, 12, 13, 14, 24] [0, 1, 2, 3, 4, 5, 6, 7, 8, 9, 10, 11, 12, 13, 14, 16, 17, 18, 19, 20, 21, 22, 23, 24, 15] rfl rfl (by decide) (by decide) (by decide) rfl (fun H locs hP hD hS => ?_)
        refine lv_istore (lv' := [(6, .int x145_1), (5, .int x143_1), (0, .ref b), (1, .ref h5), (2, .ref h6), (3, .ref q3), (4, .int i)]) hx hb dL_law_1402 hl (by decide) rfl (fun ls hl => ?_)
        refine lv_aload_n hx hb dL_law_1404 rfl (lv_at hl 4 rfl) ?_
        obtain ⟨x146, hx146, h⟩ := bnd h
        refine pw_goi (wc := [(h6, .inr (6, [.int x145_2, .ref h6_ms, .ref h6_mv, .int svm, .ref h6_mb, .int mln, .ref h6_mc, .ref h6_mg, .ref h6_mt, .ref h6_ml, .int mat, .int wel, .ref h6_mr, .int rdm, .long hsh])), (h6_ms, .inl (cI, 253, .inl ms)), (h6_mv, .inl (cI, 1518, .inl mv)), (h6_mb, .inl (cI, 60, .inl mb)), (h6_mc, .inl (cI, 160, .inl x145_3)), (h6_mg, .inl (cI, 160, .inl mg)), (h6_mt, .inl (cI, 240, .inl mt)), (h6_ml, .inl (cI, 240, .inl ml)), (h6_mr, .inl (cI, 600, .inl mr))]) (w1 := [(h6, .inr (6, [.int x145_2, .ref h6_ms, .ref h6_mv, .int svm, .ref h6_mb, .int mln, .ref h6_mc, .ref h6_mg, .ref h6_mt, .ref h6_ml, .int mat, .int wel, .ref h6_mr, .int rdm, .long hsh])), (h6_ms, .inl (cI, 253, .inl ms)), (h6_mv, .inl (cI, 1518, .inl mv)), (h6_mb, .inl (cI, 60, .inl mb)), (h6_mc, .inl (cI, 160, .inl x145_3)), (h6_mg, .inl (cI, 160, .inl mg)), (h6_mt, .inl (cI, 240, .inl mt)), (h6_ml, .inl (cI, 240, .inl ml)), (h6_mr, .inl (cI, 600, .inl mr))]) (w2 := [(h5, .inr (5, [.ref h2, .ref h1, .ref h4, .ref h0, .ref h3])), (h2, .inr (2, [.ref h2_row, .ref h2_ten, .ref h2_pha, .int len, .int kep, .int wfi, .int wmo, .int hun])), (h2_row, .inl (cI, 240, .inl row)), (h2_ten, .inl (cI, 4, .inl ten)), (h2_pha, .inl (cI, 4, .inl pha)), (h1, .inr (1, [.ref h1a, .int nex, .int man])), (h4, .inr (4, [.ref h4_cod, .ref h4_unf, .int tln])), (h4_cod, .inl (cI, 60, .inl cod)), (h4_unf, .inl (cI, 540, .inl unf)), (h0, .inr (0, [.ref h0_cel, .int x143_3])), (h0_cel, .inl (cI, 160, .inl x143_2)), (h3, .inr (3, [.ref h3_str, .ref h3_tlr, .ref h3_tsg])), (h3_str, .inl (cI, 40, .inl str)), (h3_tlr, .inl (cI, 240, .inl tlr)), (h3_tsg, .inl (cI, 240, .inl tsg)), (h6, .inr (6, [.int x145_2, .ref h6_ms, .ref h6_mv, .int svm, .ref h6_mb, .int mln, .ref h6_mc, .ref h6_mg, .ref h6_mt, .ref h6_ml, .int mat, .int wel, .ref h6_mr, .int rdm, .long hsh])), (h6_ms, .inl (cI, 253, .inl ms)), (h6_mv, .inl (cI, 1518, .inl mv)), (h6_mb, .inl (cI, 60, .inl mb)), (h6_mc, .inl (cI, 160, .inl x145_3)), (h6_mg, .inl (cI, 160, .inl mg)), (h6_mt, .inl (cI, 240, .inl mt)), (h6_ml, .inl (cI, 240, .inl ml)), (h6_mr, .inl (cI, 600, .inl mr)), (q3, .inl (cJ, 1, .inr (.inl x143_4)))]) (va_runV (As := []) (rest := []) ⟨hx, hb, hml, hown, hts⟩ (mX6_thrown l D cI cO cJ h6 h6_ms h6_mv h6_mb h6_mc h6_mg h6_mt h6_ml h6_mr H.size x145_2 ms mv svm mb mln x145_3 mg mt ml mat wel mr rdm hsh _ hx146) (cwV 0 hts gL_law_X6_thrown rfl rfl rfl (by decide +kernel) ⟨Nat.le_of_ble_eq_true rfl, Nat.le_of_ble_eq_true rfl⟩) (pw_preV hK hN (pw_sub hP [15, 16, 17, 18, 19, 20, 21, 22, 23] rfl) (pw_subD hD [15, 16, 17, 18, 19, 20, 21, 22, 23] (by decide) rfl) (ci := 6) (q0 := 0) rfl rfl) rfl rfl hl.1 rfl (lv_room (Nat.le_of_ble_eq_true rfl)) dL_law_1405 ⟨by have := hk; show _ ≤ (601024 : Nat); omega, by have := hk; show _ ≤ (7293034 : Nat); omega⟩) hP hD hS hA [15, 16, 17, 18, 19, 20, 21, 22, 23] [0, 1, 2, 3, 4, 5, 6, 7, 8, 9, 10, 11, 12, 13, 14, 24] [0, 1, 2, 3, 4, 5, 6, 7, 8, 9, 10, 11, 12, 13, 14, 16, 17, 18, 19, 20, 21, 22, 23, 24, 15] rfl rfl (by decide) (by decide) (by decide) rfl (fun H locs hP hD hS => ?_)
        refine lv_iload hx hb dL_law_1408 (lv_at hl 1 rfl) ?_
        refine lv_icmp_eq (tgt := 1415) hx hb dL_law_1410 (by decide) (fun cq => ?_) (fun cq => ?_)
        · replace h := ifp cq h
          refine lv_iload hx hb dL_law_1415 (lv_at hl 1 rfl) ?_
          refine lv_if_ne (tgt := 1432) hx hb dL_law_1417 (by decide) (fun cq => ?_) (fun cq => ?_)
          · replace h := ifn cq h
            refine lv_goto (tgt := 1558) hx hb dL_law_1432 (by decide) ?_
            refine lv_iinc (v := (i + 4)) (lv' := [(4, .int (i + 4)), (6, .int x145_1), (5, .int x143_1), (0, .ref b), (1, .ref h5), (2, .ref h6), (3, .ref q3)]) hx hb dL_law_1558 hl (k := 6) rfl rfl (by decide) rfl (fun ls hl => ?_)
            refine lv_goto (tgt := 23) hx hb dL_law_1561 (by decide) ?_
            refine W.widen (k := 50 + (k + 1)) (n := 6341 + 6 * (k + 1)) (by omega) (by omega) ?_
            exact ih _ (k + 1) _ _ _ _ _ _ _ _ _ _ _ _ _ _ _ _ _ _ _ _ _ _ _ _ _ _ _ _ _ _ _ _ _ _ _ _ _ _ h (pl_i hi) (pl_k hi hL hk hgo) hP hD hS (lv_sub hl [3, 4, 5, 6, 0] rfl)
          · replace h := ifp cq h
            refine lv_aload_n hx hb dL_law_1420 rfl (lv_at hl 5 rfl) ?_
            refine lv_iconst (v := 0) hx hb dL_law_1421 (by decide) ?_
            obtain ⟨g147, h⟩ := gdn h
            refine va_lald hx hb hK hP 24 2 rfl rfl g147 dL_law_1422 ?_
            refine lv_iload hx hb dL_law_1423 (lv_at hl 0 rfl) ?_
            refine lv_i2l (v := x145_1.toInt64) hx hb dL_law_1425 rfl ?_
            refine W.lcmp hx hb dL_law_1426 ?_
            refine lv_if_eq (tgt := 1432) hx hb dL_law_1427 (by decide) (fun cq => ?_) (fun cq => ?_)
            · replace h := ifp cq h
              refine lv_goto (tgt := 1558) hx hb dL_law_1432 (by decide) ?_
              refine lv_iinc (v := (i + 4)) (lv' := [(4, .int (i + 4)), (6, .int x145_1), (5, .int x143_1), (0, .ref b), (1, .ref h5), (2, .ref h6), (3, .ref q3)]) hx hb dL_law_1558 hl (k := 6) rfl rfl (by decide) rfl (fun ls hl => ?_)
              refine lv_goto (tgt := 23) hx hb dL_law_1561 (by decide) ?_
              refine W.widen (k := 50 + (k + 1)) (n := 6341 + 6 * (k + 1)) (by omega) (by omega) ?_
              exact ih _ (k + 1) _ _ _ _ _ _ _ _ _ _ _ _ _ _ _ _ _ _ _ _ _ _ _ _ _ _ _ _ _ _ _ _ _ _ _ _ _ _ h (pl_i hi) (pl_k hi hL hk hgo) hP hD hS (lv_sub hl [3, 4, 5, 6, 0] rfl)
            · replace h := ifn cq h
              refine lv_iconst (v := 0) hx hb dL_law_1430 (by decide) ?_
              exact absurd (Option.some.inj h) (by decide)
        · replace h := ifn cq h
          refine lv_iconst (v := 0) hx hb dL_law_1413 (by decide) ?_
          exact absurd (Option.some.inj h) (by decide)
      replace h := ifn c22 h
      by_cases c23 : ((xs i.toNatClampNeg) &&& 31) = 23
      · replace h := ifp c23 h
        refine lv_tableIn (x := ((xs i.toNatClampNeg) &&& 31)) hx hb dL_law_39 (by rw [c23]; decide) (by rw [c23]; decide) (off := 1396) (tgt := 1435) (by rw [c23]; rfl) (by decide) ?_
        refine lv_aload_n hx hb dL_law_1435 rfl (lv_at hl 1 rfl) ?_
        refine lv_aload_n hx hb dL_law_1436 rfl (lv_at hl 0 rfl) ?_
        refine lv_iload hx hb dL_law_1437 (lv_at hl 4 rfl) ?_
        refine lv_iconst (v := 1) hx hb dL_law_1439 (by decide) ?_
        refine lv_iadd hx hb dL_law_1440 ?_
        obtain ⟨g148, h⟩ := gdn h
        refine va_sld hx hb hX hbl hbA hS g148 dL_law_1441 ?_
        refine lv_aload_n hx hb dL_law_1442 rfl (lv_at hl 0 rfl) ?_
        refine lv_iload hx hb dL_law_1443 (lv_at hl 4 rfl) ?_
        refine lv_iconst (v := 2) hx hb dL_law_1445 (by decide) ?_
        refine lv_iadd hx hb dL_law_1446 ?_
        obtain ⟨g149, h⟩ := gdn h
        refine va_sld hx hb hX hbl hbA hS g149 dL_law_1447 ?_
        refine lv_aload_n hx hb dL_law_1448 rfl (lv_at hl 3 rfl) ?_
        obtain ⟨⟨x150_1, x150_2, x150_3, x150_4⟩, hx150, h⟩ := bnd h
        refine pw_goiN (wc := [(h5, .inr (5, [.ref h2, .ref h1, .ref h4, .ref h0, .ref h3])), (h2, .inr (2, [.ref h2_row, .ref h2_ten, .ref h2_pha, .int len, .int kep, .int wfi, .int wmo, .int hun])), (h2_row, .inl (cI, 240, .inl row)), (h2_ten, .inl (cI, 4, .inl ten)), (h2_pha, .inl (cI, 4, .inl pha)), (h1, .inr (1, [.ref h1a, .int nex, .int man])), (h4, .inr (4, [.ref h4_cod, .ref h4_unf, .int tln])), (h4_cod, .inl (cI, 60, .inl cod)), (h4_unf, .inl (cI, 540, .inl unf)), (h0, .inr (0, [.ref h0_cel, .int cls])), (h0_cel, .inl (cI, 160, .inl cel)), (h3, .inr (3, [.ref h3_str, .ref h3_tlr, .ref h3_tsg])), (h3_str, .inl (cI, 40, .inl str)), (h3_tlr, .inl (cI, 240, .inl tlr)), (h3_tsg, .inl (cI, 240, .inl tsg)), (q3, .inl (cJ, 1, .inr (.inl f3)))]) (w1 := [(h5, .inr (5, [.ref h2, .ref h1, .ref h4, .ref h0, .ref h3])), (h2, .inr (2, [.ref h2_row, .ref h2_ten, .ref h2_pha, .int len, .int kep, .int wfi, .int wmo, .int hun])), (h2_row, .inl (cI, 240, .inl row)), (h2_ten, .inl (cI, 4, .inl ten)), (h2_pha, .inl (cI, 4, .inl pha)), (h1, .inr (1, [.ref h1a, .int nex, .int man])), (h4, .inr (4, [.ref h4_cod, .ref h4_unf, .int tln])), (h4_cod, .inl (cI, 60, .inl cod)), (h4_unf, .inl (cI, 540, .inl unf)), (h0, .inr (0, [.ref h0_cel, .int x150_3])), (h0_cel, .inl (cI, 160, .inl x150_2)), (h3, .inr (3, [.ref h3_str, .ref h3_tlr, .ref h3_tsg])), (h3_str, .inl (cI, 40, .inl str)), (h3_tlr, .inl (cI, 240, .inl tlr)), (h3_tsg, .inl (cI, 240, .inl tsg)), (q3, .inl (cJ, 1, .inr (.inl x150_4)))]) (w2 := [(h5, .inr (5, [.ref h2, .ref h1, .ref h4, .ref h0, .ref h3])), (h2, .inr (2, [.ref h2_row, .ref h2_ten, .ref h2_pha, .int len, .int kep, .int wfi, .int wmo, .int hun])), (h2_row, .inl (cI, 240, .inl row)), (h2_ten, .inl (cI, 4, .inl ten)), (h2_pha, .inl (cI, 4, .inl pha)), (h1, .inr (1, [.ref h1a, .int nex, .int man])), (h4, .inr (4, [.ref h4_cod, .ref h4_unf, .int tln])), (h4_cod, .inl (cI, 60, .inl cod)), (h4_unf, .inl (cI, 540, .inl unf)), (h0, .inr (0, [.ref h0_cel, .int x150_3])), (h0_cel, .inl (cI, 160, .inl x150_2)), (h3, .inr (3, [.ref h3_str, .ref h3_tlr, .ref h3_tsg])), (h3_str, .inl (cI, 40, .inl str)), (h3_tlr, .inl (cI, 240, .inl tlr)), (h3_tsg, .inl (cI, 240, .inl tsg)), (h6, .inr (6, [.int thr, .ref h6_ms, .ref h6_mv, .int svm, .ref h6_mb, .int mln, .ref h6_mc, .ref h6_mg, .ref h6_mt, .ref h6_ml, .int mat, .int wel, .ref h6_mr, .int rdm, .long hsh])), (h6_ms, .inl (cI, 253, .inl ms)), (h6_mv, .inl (cI, 1518, .inl mv)), (h6_mb, .inl (cI, 60, .inl mb)), (h6_mc, .inl (cI, 160, .inl mc)), (h6_mg, .inl (cI, 160, .inl mg)), (h6_mt, .inl (cI, 240, .inl mt)), (h6_ml, .inl (cI, 240, .inl ml)), (h6_mr, .inl (cI, 600, .inl mr)), (q3, .inl (cJ, 1, .inr (.inl x150_4)))]) (vx_runSW (As := [.ref h5, .int (xs (i + 1).toNatClampNeg), .int (xs (i + 2).toNatClampNeg), .ref q3]) (rest := []) ⟨hx, hb, hml, hown, hts⟩ (mL_bestWindow l D cI cO cJ h5 h2 h2_row h2_ten h2_pha h1 h1a h4 h4_cod h4_unf h0 h0_cel h3 h3_str h3_tlr h3_tsg q3 H.size row ten pha len kep wfi wmo hun nex man cod unf tln cel cls str tlr tsg f3 (xs (i + 1).toNatClampNeg) (xs (i + 2).toNatClampNeg) _ hst hx150) (vx_cwSW 4 hts gL_law_L_bestWindow rfl rfl rfl (by decide +kernel) ⟨Nat.le_of_ble_eq_true rfl, Nat.le_of_ble_eq_true rfl⟩) (pl_preS hK hN ((px_X.kept hX9 hS.2.1).narrow (pw_free hD hS hA [0, 1, 2, 3, 4, 5, 6, 7, 8, 9, 10, 11, 12, 13, 14, 24] rfl)) hT hC9 (pw_sub hP [0, 1, 2, 3, 4, 5, 6, 7, 8, 9, 10, 11, 12, 13, 14, 24] rfl) (pw_subD hD [0, 1, 2, 3, 4, 5, 6, 7, 8, 9, 10, 11, 12, 13, 14, 24] (by decide) rfl)) rfl rfl hl.1 rfl (lv_room (Nat.le_of_ble_eq_true rfl)) dL_law_1449 ⟨by have := hk; show _ ≤ (601024 : Nat); omega, by have := hk; show _ ≤ (7293034 : Nat); omega⟩) hP hD hS hA [0, 1, 2, 3, 4, 5, 6, 7, 8, 9, 10, 11, 12, 13, 14, 24] [15, 16, 17, 18, 19, 20, 21, 22, 23] [9, 10, 11, 12, 13, 14, 15, 16, 17, 18, 19, 20, 21, 22, 23, 0, 1, 2, 3, 4, 5, 6, 7, 8, 24] rfl rfl (by decide) (by decide) (by decide) rfl (fun H locs hP hD hS => ?_)
        refine lv_istore (lv' := [(5, .int x150_1), (0, .ref b), (1, .ref h5), (2, .ref h6), (3, .ref q3), (4, .int i)]) hx hb dL_law_1452 hl (by decide) rfl (fun ls hl => ?_)
        refine lv_aload_n hx hb dL_law_1454 rfl (lv_at hl 3 rfl) ?_
        refine lv_aload_n hx hb dL_law_1455 rfl (lv_at hl 1 rfl) ?_
        refine lv_iload hx hb dL_law_1456 (lv_at hl 5 rfl) ?_
        refine lv_iconst (v := 1) hx hb dL_law_1458 (by decide) ?_
        refine lv_iadd hx hb dL_law_1459 ?_
        obtain ⟨g151, h⟩ := gdn h
        refine va_sld hx hb hX hbl hbA hS g151 dL_law_1460 ?_
        refine lv_aload_n hx hb dL_law_1461 rfl (lv_at hl 1 rfl) ?_
        refine lv_iload hx hb dL_law_1462 (lv_at hl 5 rfl) ?_
        refine lv_iconst (v := 2) hx hb dL_law_1464 (by decide) ?_
        refine lv_iadd hx hb dL_law_1465 ?_
        obtain ⟨g152, h⟩ := gdn h
        refine va_sld hx hb hX hbl hbA hS g152 dL_law_1466 ?_
        obtain ⟨⟨x153_1, x153_2, x153_3⟩, hx153, h⟩ := bnd h
        refine pw_goi (wc := [(h6, .inr (6, [.int thr, .ref h6_ms, .ref h6_mv, .int svm, .ref h6_mb, .int mln, .ref h6_mc, .ref h6_mg, .ref h6_mt, .ref h6_ml, .int mat, .int wel, .ref h6_mr, .int rdm, .long hsh])), (h6_ms, .inl (cI, 253, .inl ms)), (h6_mv, .inl (cI, 1518, .inl mv)), (h6_mb, .inl (cI, 60, .inl mb)), (h6_mc, .inl (cI, 160, .inl mc)), (h6_mg, .inl (cI, 160, .inl mg)), (h6_mt, .inl (cI, 240, .inl mt)), (h6_ml, .inl (cI, 240, .inl ml)), (h6_mr, .inl (cI, 600, .inl mr))]) (w1 := [(h6, .inr (6, [.int x153_2, .ref h6_ms, .ref h6_mv, .int svm, .ref h6_mb, .int mln, .ref h6_mc, .ref h6_mg, .ref h6_mt, .ref h6_ml, .int mat, .int wel, .ref h6_mr, .int rdm, .long hsh])), (h6_ms, .inl (cI, 253, .inl ms)), (h6_mv, .inl (cI, 1518, .inl mv)), (h6_mb, .inl (cI, 60, .inl mb)), (h6_mc, .inl (cI, 160, .inl x153_3)), (h6_mg, .inl (cI, 160, .inl mg)), (h6_mt, .inl (cI, 240, .inl mt)), (h6_ml, .inl (cI, 240, .inl ml)), (h6_mr, .inl (cI, 600, .inl mr))]) (w2 := [(h5, .inr (5, [.ref h2, .ref h1, .ref h4, .ref h0, .ref h3])), (h2, .inr (2, [.ref h2_row, .ref h2_ten, .ref h2_pha, .int len, .int kep, .int wfi, .int wmo, .int hun])), (h2_row, .inl (cI, 240, .inl row)), (h2_ten, .inl (cI, 4, .inl ten)), (h2_pha, .inl (cI, 4, .inl pha)), (h1, .inr (1, [.ref h1a, .int nex, .int man])), (h4, .inr (4, [.ref h4_cod, .ref h4_unf, .int tln])), (h4_cod, .inl (cI, 60, .inl cod)), (h4_unf, .inl (cI, 540, .inl unf)), (h0, .inr (0, [.ref h0_cel, .int x150_3])), (h0_cel, .inl (cI, 160, .inl x150_2)), (h3, .inr (3, [.ref h3_str, .ref h3_tlr, .ref h3_tsg])), (h3_str, .inl (cI, 40, .inl str)), (h3_tlr, .inl (cI, 240, .inl tlr)), (h3_tsg, .inl (cI, 240, .inl tsg)), (h6, .inr (6, [.int x153_2, .ref h6_ms, .ref h6_mv, .int svm, .ref h6_mb, .int mln, .ref h6_mc, .ref h6_mg, .ref h6_mt, .ref h6_ml, .int mat, .int wel, .ref h6_mr, .int rdm, .long hsh])), (h6_ms, .inl (cI, 253, .inl ms)), (h6_mv, .inl (cI, 1518, .inl mv)), (h6_mb, .inl (cI, 60, .inl mb)), (h6_mc, .inl (cI, 160, .inl x153_3)), (h6_mg, .inl (cI, 160, .inl mg)), (h6_mt, .inl (cI, 240, .inl mt)), (h6_ml, .inl (cI, 240, .inl ml)), (h6_mr, .inl (cI, 600, .inl mr)), (q3, .inl (cJ, 1, .inr (.inl x150_4)))]) (va_runV (As := [.int (xs (i + 1).toNatClampNeg), .int (xs (i + 2).toNatClampNeg)]) (rest := []) ⟨hx, hb, hml, hown, hts⟩ (mX6_bestWindow l D cI cO cJ h6 h6_ms h6_mv h6_mb h6_mc h6_mg h6_mt h6_ml h6_mr H.size thr ms mv svm mb mln mc mg mt ml mat wel mr rdm hsh (xs (i + 1).toNatClampNeg) (xs (i + 2).toNatClampNeg) _ hx153) (cwV 2 hts gL_law_X6_bestWindow rfl rfl rfl (by decide +kernel) ⟨Nat.le_of_ble_eq_true rfl, Nat.le_of_ble_eq_true rfl⟩) (pw_preV hK hN (pw_sub hP [15, 16, 17, 18, 19, 20, 21, 22, 23] rfl) (pw_subD hD [15, 16, 17, 18, 19, 20, 21, 22, 23] (by decide) rfl) (ci := 6) (q0 := 0) rfl rfl) rfl rfl hl.1 rfl (lv_room (Nat.le_of_ble_eq_true rfl)) dL_law_1467 ⟨by have := hk; show _ ≤ (601024 : Nat); omega, by have := hk; show _ ≤ (7293034 : Nat); omega⟩) hP hD hS hA [15, 16, 17, 18, 19, 20, 21, 22, 23] [0, 1, 2, 3, 4, 5, 6, 7, 8, 9, 10, 11, 12, 13, 14, 24] [0, 1, 2, 3, 4, 5, 6, 7, 8, 9, 10, 11, 12, 13, 14, 16, 17, 18, 19, 20, 21, 22, 23, 24, 15] rfl rfl (by decide) (by decide) (by decide) rfl (fun H locs hP hD hS => ?_)
        refine lv_istore (lv' := [(6, .int x153_1), (5, .int x150_1), (0, .ref b), (1, .ref h5), (2, .ref h6), (3, .ref q3), (4, .int i)]) hx hb dL_law_1470 hl (by decide) rfl (fun ls hl => ?_)
        refine lv_aload_n hx hb dL_law_1472 rfl (lv_at hl 4 rfl) ?_
        obtain ⟨x154, hx154, h⟩ := bnd h
        refine pw_goi (wc := [(h6, .inr (6, [.int x153_2, .ref h6_ms, .ref h6_mv, .int svm, .ref h6_mb, .int mln, .ref h6_mc, .ref h6_mg, .ref h6_mt, .ref h6_ml, .int mat, .int wel, .ref h6_mr, .int rdm, .long hsh])), (h6_ms, .inl (cI, 253, .inl ms)), (h6_mv, .inl (cI, 1518, .inl mv)), (h6_mb, .inl (cI, 60, .inl mb)), (h6_mc, .inl (cI, 160, .inl x153_3)), (h6_mg, .inl (cI, 160, .inl mg)), (h6_mt, .inl (cI, 240, .inl mt)), (h6_ml, .inl (cI, 240, .inl ml)), (h6_mr, .inl (cI, 600, .inl mr))]) (w1 := [(h6, .inr (6, [.int x153_2, .ref h6_ms, .ref h6_mv, .int svm, .ref h6_mb, .int mln, .ref h6_mc, .ref h6_mg, .ref h6_mt, .ref h6_ml, .int mat, .int wel, .ref h6_mr, .int rdm, .long hsh])), (h6_ms, .inl (cI, 253, .inl ms)), (h6_mv, .inl (cI, 1518, .inl mv)), (h6_mb, .inl (cI, 60, .inl mb)), (h6_mc, .inl (cI, 160, .inl x153_3)), (h6_mg, .inl (cI, 160, .inl mg)), (h6_mt, .inl (cI, 240, .inl mt)), (h6_ml, .inl (cI, 240, .inl ml)), (h6_mr, .inl (cI, 600, .inl mr))]) (w2 := [(h5, .inr (5, [.ref h2, .ref h1, .ref h4, .ref h0, .ref h3])), (h2, .inr (2, [.ref h2_row, .ref h2_ten, .ref h2_pha, .int len, .int kep, .int wfi, .int wmo, .int hun])), (h2_row, .inl (cI, 240, .inl row)), (h2_ten, .inl (cI, 4, .inl ten)), (h2_pha, .inl (cI, 4, .inl pha)), (h1, .inr (1, [.ref h1a, .int nex, .int man])), (h4, .inr (4, [.ref h4_cod, .ref h4_unf, .int tln])), (h4_cod, .inl (cI, 60, .inl cod)), (h4_unf, .inl (cI, 540, .inl unf)), (h0, .inr (0, [.ref h0_cel, .int x150_3])), (h0_cel, .inl (cI, 160, .inl x150_2)), (h3, .inr (3, [.ref h3_str, .ref h3_tlr, .ref h3_tsg])), (h3_str, .inl (cI, 40, .inl str)), (h3_tlr, .inl (cI, 240, .inl tlr)), (h3_tsg, .inl (cI, 240, .inl tsg)), (h6, .inr (6, [.int x153_2, .ref h6_ms, .ref h6_mv, .int svm, .ref h6_mb, .int mln, .ref h6_mc, .ref h6_mg, .ref h6_mt, .ref h6_ml, .int mat, .int wel, .ref h6_mr, .int rdm, .long hsh])), (h6_ms, .inl (cI, 253, .inl ms)), (h6_mv, .inl (cI, 1518, .inl mv)), (h6_mb, .inl (cI, 60, .inl mb)), (h6_mc, .inl (cI, 160, .inl x153_3)), (h6_mg, .inl (cI, 160, .inl mg)), (h6_mt, .inl (cI, 240, .inl mt)), (h6_ml, .inl (cI, 240, .inl ml)), (h6_mr, .inl (cI, 600, .inl mr)), (q3, .inl (cJ, 1, .inr (.inl x150_4)))]) (va_runV (As := []) (rest := []) ⟨hx, hb, hml, hown, hts⟩ (mX6_thrown l D cI cO cJ h6 h6_ms h6_mv h6_mb h6_mc h6_mg h6_mt h6_ml h6_mr H.size x153_2 ms mv svm mb mln x153_3 mg mt ml mat wel mr rdm hsh _ hx154) (cwV 0 hts gL_law_X6_thrown rfl rfl rfl (by decide +kernel) ⟨Nat.le_of_ble_eq_true rfl, Nat.le_of_ble_eq_true rfl⟩) (pw_preV hK hN (pw_sub hP [15, 16, 17, 18, 19, 20, 21, 22, 23] rfl) (pw_subD hD [15, 16, 17, 18, 19, 20, 21, 22, 23] (by decide) rfl) (ci := 6) (q0 := 0) rfl rfl) rfl rfl hl.1 rfl (lv_room (Nat.le_of_ble_eq_true rfl)) dL_law_1473 ⟨by have := hk; show _ ≤ (601024 : Nat); omega, by have := hk; show _ ≤ (7293034 : Nat); omega⟩) hP hD hS hA [15, 16, 17, 18, 19, 20, 21, 22, 23] [0, 1, 2, 3, 4, 5, 6, 7, 8, 9, 10, 11, 12, 13, 14, 24] [0, 1, 2, 3, 4, 5, 6, 7, 8, 9, 10, 11, 12, 13, 14, 16, 17, 18, 19, 20, 21, 22, 23, 24, 15] rfl rfl (by decide) (by decide) (by decide) rfl (fun H locs hP hD hS => ?_)
        refine lv_iload hx hb dL_law_1476 (lv_at hl 1 rfl) ?_
        refine lv_icmp_eq (tgt := 1483) hx hb dL_law_1478 (by decide) (fun cq => ?_) (fun cq => ?_)
        · replace h := ifp cq h
          refine lv_iload hx hb dL_law_1483 (lv_at hl 1 rfl) ?_
          refine lv_if_ne (tgt := 1500) hx hb dL_law_1485 (by decide) (fun cq => ?_) (fun cq => ?_)
          · replace h := ifn cq h
            refine lv_goto (tgt := 1558) hx hb dL_law_1500 (by decide) ?_
            refine lv_iinc (v := (i + 4)) (lv' := [(4, .int (i + 4)), (6, .int x153_1), (5, .int x150_1), (0, .ref b), (1, .ref h5), (2, .ref h6), (3, .ref q3)]) hx hb dL_law_1558 hl (k := 6) rfl rfl (by decide) rfl (fun ls hl => ?_)
            refine lv_goto (tgt := 23) hx hb dL_law_1561 (by decide) ?_
            refine W.widen (k := 50 + (k + 1)) (n := 6341 + 6 * (k + 1)) (by omega) (by omega) ?_
            exact ih _ (k + 1) _ _ _ _ _ _ _ _ _ _ _ _ _ _ _ _ _ _ _ _ _ _ _ _ _ _ _ _ _ _ _ _ _ _ _ _ _ _ h (pl_i hi) (pl_k hi hL hk hgo) hP hD hS (lv_sub hl [3, 4, 5, 6, 0] rfl)
          · replace h := ifp cq h
            refine lv_aload_n hx hb dL_law_1488 rfl (lv_at hl 5 rfl) ?_
            refine lv_iconst (v := 0) hx hb dL_law_1489 (by decide) ?_
            obtain ⟨g155, h⟩ := gdn h
            refine va_lald hx hb hK hP 24 2 rfl rfl g155 dL_law_1490 ?_
            refine lv_iload hx hb dL_law_1491 (lv_at hl 0 rfl) ?_
            refine lv_i2l (v := x153_1.toInt64) hx hb dL_law_1493 rfl ?_
            refine W.lcmp hx hb dL_law_1494 ?_
            refine lv_if_eq (tgt := 1500) hx hb dL_law_1495 (by decide) (fun cq => ?_) (fun cq => ?_)
            · replace h := ifp cq h
              refine lv_goto (tgt := 1558) hx hb dL_law_1500 (by decide) ?_
              refine lv_iinc (v := (i + 4)) (lv' := [(4, .int (i + 4)), (6, .int x153_1), (5, .int x150_1), (0, .ref b), (1, .ref h5), (2, .ref h6), (3, .ref q3)]) hx hb dL_law_1558 hl (k := 6) rfl rfl (by decide) rfl (fun ls hl => ?_)
              refine lv_goto (tgt := 23) hx hb dL_law_1561 (by decide) ?_
              refine W.widen (k := 50 + (k + 1)) (n := 6341 + 6 * (k + 1)) (by omega) (by omega) ?_
              exact ih _ (k + 1) _ _ _ _ _ _ _ _ _ _ _ _ _ _ _ _ _ _ _ _ _ _ _ _ _ _ _ _ _ _ _ _ _ _ _ _ _ _ h (pl_i hi) (pl_k hi hL hk hgo) hP hD hS (lv_sub hl [3, 4, 5, 6, 0] rfl)
            · replace h := ifn cq h
              refine lv_iconst (v := 0) hx hb dL_law_1498 (by decide) ?_
              exact absurd (Option.some.inj h) (by decide)
        · replace h := ifn cq h
          refine lv_iconst (v := 0) hx hb dL_law_1481 (by decide) ?_
          exact absurd (Option.some.inj h) (by decide)
      replace h := ifn c23 h
      by_cases c24 : ((xs i.toNatClampNeg) &&& 31) = 24
      · replace h := ifp c24 h
        refine lv_tableIn (x := ((xs i.toNatClampNeg) &&& 31)) hx hb dL_law_39 (by rw [c24]; decide) (by rw [c24]; decide) (off := 1464) (tgt := 1503) (by rw [c24]; rfl) (by decide) ?_
        refine lv_aload_n hx hb dL_law_1503 rfl (lv_at hl 1 rfl) ?_
        obtain ⟨⟨x156_1, x156_2, x156_3, x156_4, x156_5, x156_6⟩, hx156, h⟩ := bnd h
        refine pw_god (wc := [(h5, .inr (5, [.ref h2, .ref h1, .ref h4, .ref h0, .ref h3])), (h2, .inr (2, [.ref h2_row, .ref h2_ten, .ref h2_pha, .int len, .int kep, .int wfi, .int wmo, .int hun])), (h2_row, .inl (cI, 240, .inl row)), (h2_ten, .inl (cI, 4, .inl ten)), (h2_pha, .inl (cI, 4, .inl pha)), (h1, .inr (1, [.ref h1a, .int nex, .int man])), (h4, .inr (4, [.ref h4_cod, .ref h4_unf, .int tln])), (h4_cod, .inl (cI, 60, .inl cod)), (h4_unf, .inl (cI, 540, .inl unf)), (h0, .inr (0, [.ref h0_cel, .int cls])), (h0_cel, .inl (cI, 160, .inl cel)), (h3, .inr (3, [.ref h3_str, .ref h3_tlr, .ref h3_tsg])), (h3_str, .inl (cI, 40, .inl str)), (h3_tlr, .inl (cI, 240, .inl tlr)), (h3_tsg, .inl (cI, 240, .inl tsg))]) (w1 := [(h5, .inr (5, [.ref h2, .ref h1, .ref h4, .ref h0, .ref h3])), (h2, .inr (2, [.ref h2_row, .ref h2_ten, .ref h2_pha, .int len, .int kep, .int wfi, .int wmo, .int hun])), (h2_row, .inl (cI, 240, .inl row)), (h2_ten, .inl (cI, 4, .inl ten)), (h2_pha, .inl (cI, 4, .inl pha)), (h1, .inr (1, [.ref h1a, .int nex, .int man])), (h4, .inr (4, [.ref h4_cod, .ref h4_unf, .int tln])), (h4_cod, .inl (cI, 60, .inl cod)), (h4_unf, .inl (cI, 540, .inl unf)), (h0, .inr (0, [.ref h0_cel, .int x156_3])), (h0_cel, .inl (cI, 160, .inl x156_2)), (h3, .inr (3, [.ref h3_str, .ref h3_tlr, .ref h3_tsg])), (h3_str, .inl (cI, 40, .inl x156_4)), (h3_tlr, .inl (cI, 240, .inl x156_5)), (h3_tsg, .inl (cI, 240, .inl x156_6))]) (w2 := [(h5, .inr (5, [.ref h2, .ref h1, .ref h4, .ref h0, .ref h3])), (h2, .inr (2, [.ref h2_row, .ref h2_ten, .ref h2_pha, .int len, .int kep, .int wfi, .int wmo, .int hun])), (h2_row, .inl (cI, 240, .inl row)), (h2_ten, .inl (cI, 4, .inl ten)), (h2_pha, .inl (cI, 4, .inl pha)), (h1, .inr (1, [.ref h1a, .int nex, .int man])), (h4, .inr (4, [.ref h4_cod, .ref h4_unf, .int tln])), (h4_cod, .inl (cI, 60, .inl cod)), (h4_unf, .inl (cI, 540, .inl unf)), (h0, .inr (0, [.ref h0_cel, .int x156_3])), (h0_cel, .inl (cI, 160, .inl x156_2)), (h3, .inr (3, [.ref h3_str, .ref h3_tlr, .ref h3_tsg])), (h3_str, .inl (cI, 40, .inl x156_4)), (h3_tlr, .inl (cI, 240, .inl x156_5)), (h3_tsg, .inl (cI, 240, .inl x156_6)), (h6, .inr (6, [.int thr, .ref h6_ms, .ref h6_mv, .int svm, .ref h6_mb, .int mln, .ref h6_mc, .ref h6_mg, .ref h6_mt, .ref h6_ml, .int mat, .int wel, .ref h6_mr, .int rdm, .long hsh])), (h6_ms, .inl (cI, 253, .inl ms)), (h6_mv, .inl (cI, 1518, .inl mv)), (h6_mb, .inl (cI, 60, .inl mb)), (h6_mc, .inl (cI, 160, .inl mc)), (h6_mg, .inl (cI, 160, .inl mg)), (h6_mt, .inl (cI, 240, .inl mt)), (h6_ml, .inl (cI, 240, .inl ml)), (h6_mr, .inl (cI, 600, .inl mr)), (q3, .inl (cJ, 1, .inr (.inl f3)))]) (va_runV (As := []) (rest := []) ⟨hx, hb, hml, hown, hts⟩ (mX5_share l D cI cO cJ h5 h2 h2_row h2_ten h2_pha h1 h1a h4 h4_cod h4_unf h0 h0_cel h3 h3_str h3_tlr h3_tsg H.size row ten pha len kep wfi wmo hun nex man cod unf tln cel cls str tlr tsg _ hx156) (cwV 0 hts gL_law_X5_share rfl rfl rfl (by decide +kernel) ⟨Nat.le_of_ble_eq_true rfl, Nat.le_of_ble_eq_true rfl⟩) (pw_preV hK hN (pw_sub hP [0, 1, 2, 3, 4, 5, 6, 7, 8, 9, 10, 11, 12, 13, 14] rfl) (pw_subD hD [0, 1, 2, 3, 4, 5, 6, 7, 8, 9, 10, 11, 12, 13, 14] (by decide) rfl) (ci := 5) (q0 := 0) rfl rfl) rfl rfl hl.1 rfl (lv_room (Nat.le_of_ble_eq_true rfl)) dL_law_1504 ⟨by have := hk; show _ ≤ (601024 : Nat); omega, by have := hk; show _ ≤ (7293034 : Nat); omega⟩) hP hD hS hA [0, 1, 2, 3, 4, 5, 6, 7, 8, 9, 10, 11, 12, 13, 14] [15, 16, 17, 18, 19, 20, 21, 22, 23, 24] [10, 11, 12, 13, 14, 15, 16, 17, 18, 19, 20, 21, 22, 23, 24, 0, 1, 2, 3, 4, 5, 6, 7, 8, 9] rfl rfl (by decide) (by decide) (by decide) rfl (fun H locs hP hD hS => ?_)
        refine lv_dstore (lv' := [(5, .double x156_1), (0, .ref b), (1, .ref h5), (2, .ref h6), (3, .ref q3), (4, .int i)]) hx hb dL_law_1507 hl (by decide) rfl (fun ls hl => ?_)
        refine lv_aload_n hx hb dL_law_1509 rfl (lv_at hl 3 rfl) ?_
        obtain ⟨⟨x157_1, x157_2, x157_3, x157_4, x157_5, x157_6⟩, hx157, h⟩ := bnd h
        refine pw_god (wc := [(h6, .inr (6, [.int thr, .ref h6_ms, .ref h6_mv, .int svm, .ref h6_mb, .int mln, .ref h6_mc, .ref h6_mg, .ref h6_mt, .ref h6_ml, .int mat, .int wel, .ref h6_mr, .int rdm, .long hsh])), (h6_ms, .inl (cI, 253, .inl ms)), (h6_mv, .inl (cI, 1518, .inl mv)), (h6_mb, .inl (cI, 60, .inl mb)), (h6_mc, .inl (cI, 160, .inl mc)), (h6_mg, .inl (cI, 160, .inl mg)), (h6_mt, .inl (cI, 240, .inl mt)), (h6_ml, .inl (cI, 240, .inl ml)), (h6_mr, .inl (cI, 600, .inl mr))]) (w1 := [(h6, .inr (6, [.int x157_2, .ref h6_ms, .ref h6_mv, .int svm, .ref h6_mb, .int mln, .ref h6_mc, .ref h6_mg, .ref h6_mt, .ref h6_ml, .int mat, .int wel, .ref h6_mr, .int rdm, .long hsh])), (h6_ms, .inl (cI, 253, .inl ms)), (h6_mv, .inl (cI, 1518, .inl mv)), (h6_mb, .inl (cI, 60, .inl mb)), (h6_mc, .inl (cI, 160, .inl x157_3)), (h6_mg, .inl (cI, 160, .inl x157_4)), (h6_mt, .inl (cI, 240, .inl x157_5)), (h6_ml, .inl (cI, 240, .inl x157_6)), (h6_mr, .inl (cI, 600, .inl mr))]) (w2 := [(h5, .inr (5, [.ref h2, .ref h1, .ref h4, .ref h0, .ref h3])), (h2, .inr (2, [.ref h2_row, .ref h2_ten, .ref h2_pha, .int len, .int kep, .int wfi, .int wmo, .int hun])), (h2_row, .inl (cI, 240, .inl row)), (h2_ten, .inl (cI, 4, .inl ten)), (h2_pha, .inl (cI, 4, .inl pha)), (h1, .inr (1, [.ref h1a, .int nex, .int man])), (h4, .inr (4, [.ref h4_cod, .ref h4_unf, .int tln])), (h4_cod, .inl (cI, 60, .inl cod)), (h4_unf, .inl (cI, 540, .inl unf)), (h0, .inr (0, [.ref h0_cel, .int x156_3])), (h0_cel, .inl (cI, 160, .inl x156_2)), (h3, .inr (3, [.ref h3_str, .ref h3_tlr, .ref h3_tsg])), (h3_str, .inl (cI, 40, .inl x156_4)), (h3_tlr, .inl (cI, 240, .inl x156_5)), (h3_tsg, .inl (cI, 240, .inl x156_6)), (h6, .inr (6, [.int x157_2, .ref h6_ms, .ref h6_mv, .int svm, .ref h6_mb, .int mln, .ref h6_mc, .ref h6_mg, .ref h6_mt, .ref h6_ml, .int mat, .int wel, .ref h6_mr, .int rdm, .long hsh])), (h6_ms, .inl (cI, 253, .inl ms)), (h6_mv, .inl (cI, 1518, .inl mv)), (h6_mb, .inl (cI, 60, .inl mb)), (h6_mc, .inl (cI, 160, .inl x157_3)), (h6_mg, .inl (cI, 160, .inl x157_4)), (h6_mt, .inl (cI, 240, .inl x157_5)), (h6_ml, .inl (cI, 240, .inl x157_6)), (h6_mr, .inl (cI, 600, .inl mr)), (q3, .inl (cJ, 1, .inr (.inl f3)))]) (va_runV (As := []) (rest := []) ⟨hx, hb, hml, hown, hts⟩ (mX6_share l D cI cO cJ h6 h6_ms h6_mv h6_mb h6_mc h6_mg h6_mt h6_ml h6_mr H.size thr ms mv svm mb mln mc mg mt ml mat wel mr rdm hsh _ hx157) (cwV 0 hts gL_law_X6_share rfl rfl rfl (by decide +kernel) ⟨Nat.le_of_ble_eq_true rfl, Nat.le_of_ble_eq_true rfl⟩) (pw_preV hK hN (pw_sub hP [15, 16, 17, 18, 19, 20, 21, 22, 23] rfl) (pw_subD hD [15, 16, 17, 18, 19, 20, 21, 22, 23] (by decide) rfl) (ci := 6) (q0 := 0) rfl rfl) rfl rfl hl.1 rfl (lv_room (Nat.le_of_ble_eq_true rfl)) dL_law_1510 ⟨by have := hk; show _ ≤ (601024 : Nat); omega, by have := hk; show _ ≤ (7293034 : Nat); omega⟩) hP hD hS hA [15, 16, 17, 18, 19, 20, 21, 22, 23] [0, 1, 2, 3, 4, 5, 6, 7, 8, 9, 10, 11, 12, 13, 14, 24] [0, 1, 2, 3, 4, 5, 6, 7, 8, 9, 10, 11, 12, 13, 14, 16, 17, 18, 19, 20, 21, 22, 23, 24, 15] rfl rfl (by decide) (by decide) (by decide) rfl (fun H locs hP hD hS => ?_)
        refine lv_dstore (lv' := [(7, .double x157_1), (5, .double x156_1), (0, .ref b), (1, .ref h5), (2, .ref h6), (3, .ref q3), (4, .int i)]) hx hb dL_law_1513 hl (by decide) rfl (fun ls hl => ?_)
        refine lv_dload hx hb dL_law_1515 (lv_at hl 1 rfl) ?_
        refine lv_dload hx hb dL_law_1517 (lv_at hl 0 rfl) ?_
        refine lv_dcmp hx hb dL_law_1519 ?_
        refine lv_if_eq (tgt := 1541) hx hb dL_law_1520 (by decide) (fun cq => ?_) (fun cq => ?_)
        · replace h := ifp cq h
          refine lv_goto (tgt := 1558) hx hb dL_law_1541 (by decide) ?_
          refine lv_iinc (v := (i + 4)) (lv' := [(4, .int (i + 4)), (7, .double x157_1), (5, .double x156_1), (0, .ref b), (1, .ref h5), (2, .ref h6), (3, .ref q3)]) hx hb dL_law_1558 hl (k := 6) rfl rfl (by decide) rfl (fun ls hl => ?_)
          refine lv_goto (tgt := 23) hx hb dL_law_1561 (by decide) ?_
          refine W.widen (k := 50 + (k + 1)) (n := 6341 + 6 * (k + 1)) (by omega) (by omega) ?_
          exact ih _ (k + 1) _ _ _ _ _ _ _ _ _ _ _ _ _ _ _ _ _ _ _ _ _ _ _ _ _ _ _ _ _ _ _ _ _ _ _ _ _ _ h (pl_i hi) (pl_k hi hL hk hgo) hP hD hS (lv_sub hl [3, 4, 5, 6, 0] rfl)
        · replace h := ifn cq h
          refine lv_dload hx hb dL_law_1523 (lv_at hl 1 rfl) ?_
          refine lv_dload hx hb dL_law_1525 (lv_at hl 1 rfl) ?_
          refine lv_dcmp hx hb dL_law_1527 ?_
          refine lv_if_eq (tgt := 1539) hx hb dL_law_1528 (by decide) (fun cq => ?_) (fun cq => ?_)
          · replace h := ifp cq h
            refine lv_iconst (v := 0) hx hb dL_law_1539 (by decide) ?_
            exact absurd (Option.some.inj h) (by decide)
          · replace h := ifn cq h
            refine lv_dload hx hb dL_law_1531 (lv_at hl 0 rfl) ?_
            refine lv_dload hx hb dL_law_1533 (lv_at hl 0 rfl) ?_
            refine lv_dcmp hx hb dL_law_1535 ?_
            refine lv_if_ne (tgt := 1541) hx hb dL_law_1536 (by decide) (fun cq => ?_) (fun cq => ?_)
            · replace h := ifn cq h
              refine lv_goto (tgt := 1558) hx hb dL_law_1541 (by decide) ?_
              refine lv_iinc (v := (i + 4)) (lv' := [(4, .int (i + 4)), (7, .double x157_1), (5, .double x156_1), (0, .ref b), (1, .ref h5), (2, .ref h6), (3, .ref q3)]) hx hb dL_law_1558 hl (k := 6) rfl rfl (by decide) rfl (fun ls hl => ?_)
              refine lv_goto (tgt := 23) hx hb dL_law_1561 (by decide) ?_
              refine W.widen (k := 50 + (k + 1)) (n := 6341 + 6 * (k + 1)) (by omega) (by omega) ?_
              exact ih _ (k + 1) _ _ _ _ _ _ _ _ _ _ _ _ _ _ _ _ _ _ _ _ _ _ _ _ _ _ _ _ _ _ _ _ _ _ _ _ _ _ h (pl_i hi) (pl_k hi hL hk hgo) hP hD hS (lv_sub hl [3, 4, 5, 6, 0] rfl)
            · replace h := ifp cq h
              refine lv_iconst (v := 0) hx hb dL_law_1539 (by decide) ?_
              exact absurd (Option.some.inj h) (by decide)
      replace h := ifn c24 h
      by_cases c25 : ((xs i.toNatClampNeg) &&& 31) = 25
      · replace h := ifp c25 h
        refine lv_tableIn (x := ((xs i.toNatClampNeg) &&& 31)) hx hb dL_law_39 (by rw [c25]; decide) (by rw [c25]; decide) (off := 1505) (tgt := 1544) (by rw [c25]; rfl) (by decide) ?_
        refine lv_aload_n hx hb dL_law_1544 rfl (lv_at hl 1 rfl) ?_
        obtain ⟨⟨x158_1, x158_2, x158_3, x158_4, x158_5, x158_6⟩, hx158, h⟩ := bnd h
        refine pw_gol (wc := [(h5, .inr (5, [.ref h2, .ref h1, .ref h4, .ref h0, .ref h3])), (h2, .inr (2, [.ref h2_row, .ref h2_ten, .ref h2_pha, .int len, .int kep, .int wfi, .int wmo, .int hun])), (h2_row, .inl (cI, 240, .inl row)), (h2_ten, .inl (cI, 4, .inl ten)), (h2_pha, .inl (cI, 4, .inl pha)), (h1, .inr (1, [.ref h1a, .int nex, .int man])), (h4, .inr (4, [.ref h4_cod, .ref h4_unf, .int tln])), (h4_cod, .inl (cI, 60, .inl cod)), (h4_unf, .inl (cI, 540, .inl unf)), (h0, .inr (0, [.ref h0_cel, .int cls])), (h0_cel, .inl (cI, 160, .inl cel)), (h3, .inr (3, [.ref h3_str, .ref h3_tlr, .ref h3_tsg])), (h3_str, .inl (cI, 40, .inl str)), (h3_tlr, .inl (cI, 240, .inl tlr)), (h3_tsg, .inl (cI, 240, .inl tsg))]) (w1 := [(h5, .inr (5, [.ref h2, .ref h1, .ref h4, .ref h0, .ref h3])), (h2, .inr (2, [.ref h2_row, .ref h2_ten, .ref h2_pha, .int len, .int kep, .int wfi, .int wmo, .int hun])), (h2_row, .inl (cI, 240, .inl row)), (h2_ten, .inl (cI, 4, .inl ten)), (h2_pha, .inl (cI, 4, .inl pha)), (h1, .inr (1, [.ref h1a, .int nex, .int man])), (h4, .inr (4, [.ref h4_cod, .ref h4_unf, .int tln])), (h4_cod, .inl (cI, 60, .inl cod)), (h4_unf, .inl (cI, 540, .inl unf)), (h0, .inr (0, [.ref h0_cel, .int x158_3])), (h0_cel, .inl (cI, 160, .inl x158_2)), (h3, .inr (3, [.ref h3_str, .ref h3_tlr, .ref h3_tsg])), (h3_str, .inl (cI, 40, .inl x158_4)), (h3_tlr, .inl (cI, 240, .inl x158_5)), (h3_tsg, .inl (cI, 240, .inl x158_6))]) (w2 := [(h5, .inr (5, [.ref h2, .ref h1, .ref h4, .ref h0, .ref h3])), (h2, .inr (2, [.ref h2_row, .ref h2_ten, .ref h2_pha, .int len, .int kep, .int wfi, .int wmo, .int hun])), (h2_row, .inl (cI, 240, .inl row)), (h2_ten, .inl (cI, 4, .inl ten)), (h2_pha, .inl (cI, 4, .inl pha)), (h1, .inr (1, [.ref h1a, .int nex, .int man])), (h4, .inr (4, [.ref h4_cod, .ref h4_unf, .int tln])), (h4_cod, .inl (cI, 60, .inl cod)), (h4_unf, .inl (cI, 540, .inl unf)), (h0, .inr (0, [.ref h0_cel, .int x158_3])), (h0_cel, .inl (cI, 160, .inl x158_2)), (h3, .inr (3, [.ref h3_str, .ref h3_tlr, .ref h3_tsg])), (h3_str, .inl (cI, 40, .inl x158_4)), (h3_tlr, .inl (cI, 240, .inl x158_5)), (h3_tsg, .inl (cI, 240, .inl x158_6)), (h6, .inr (6, [.int thr, .ref h6_ms, .ref h6_mv, .int svm, .ref h6_mb, .int mln, .ref h6_mc, .ref h6_mg, .ref h6_mt, .ref h6_ml, .int mat, .int wel, .ref h6_mr, .int rdm, .long hsh])), (h6_ms, .inl (cI, 253, .inl ms)), (h6_mv, .inl (cI, 1518, .inl mv)), (h6_mb, .inl (cI, 60, .inl mb)), (h6_mc, .inl (cI, 160, .inl mc)), (h6_mg, .inl (cI, 160, .inl mg)), (h6_mt, .inl (cI, 240, .inl mt)), (h6_ml, .inl (cI, 240, .inl ml)), (h6_mr, .inl (cI, 600, .inl mr)), (q3, .inl (cJ, 1, .inr (.inl f3)))]) (va_runV (As := []) (rest := []) ⟨hx, hb, hml, hown, hts⟩ (mX5_digest l D cI cO cJ h5 h2 h2_row h2_ten h2_pha h1 h1a h4 h4_cod h4_unf h0 h0_cel h3 h3_str h3_tlr h3_tsg H.size row ten pha len kep wfi wmo hun nex man cod unf tln cel cls str tlr tsg _ hx158) (cwV 0 hts gL_law_X5_digest rfl rfl rfl (by decide +kernel) ⟨Nat.le_of_ble_eq_true rfl, Nat.le_of_ble_eq_true rfl⟩) (pw_preV hK hN (pw_sub hP [0, 1, 2, 3, 4, 5, 6, 7, 8, 9, 10, 11, 12, 13, 14] rfl) (pw_subD hD [0, 1, 2, 3, 4, 5, 6, 7, 8, 9, 10, 11, 12, 13, 14] (by decide) rfl) (ci := 5) (q0 := 0) rfl rfl) rfl rfl hl.1 rfl (lv_room (Nat.le_of_ble_eq_true rfl)) dL_law_1545 ⟨by have := hk; show _ ≤ (601024 : Nat); omega, by have := hk; show _ ≤ (7293034 : Nat); omega⟩) hP hD hS hA [0, 1, 2, 3, 4, 5, 6, 7, 8, 9, 10, 11, 12, 13, 14] [15, 16, 17, 18, 19, 20, 21, 22, 23, 24] [10, 11, 12, 13, 14, 15, 16, 17, 18, 19, 20, 21, 22, 23, 24, 0, 1, 2, 3, 4, 5, 6, 7, 8, 9] rfl rfl (by decide) (by decide) (by decide) rfl (fun H locs hP hD hS => ?_)
        refine lv_aload_n hx hb dL_law_1548 rfl (lv_at hl 2 rfl) ?_
        obtain ⟨⟨x159_1, x159_2, x159_3, x159_4, x159_5, x159_6, x159_7⟩, hx159, h⟩ := bnd h
        refine pw_gol (wc := [(h6, .inr (6, [.int thr, .ref h6_ms, .ref h6_mv, .int svm, .ref h6_mb, .int mln, .ref h6_mc, .ref h6_mg, .ref h6_mt, .ref h6_ml, .int mat, .int wel, .ref h6_mr, .int rdm, .long hsh])), (h6_ms, .inl (cI, 253, .inl ms)), (h6_mv, .inl (cI, 1518, .inl mv)), (h6_mb, .inl (cI, 60, .inl mb)), (h6_mc, .inl (cI, 160, .inl mc)), (h6_mg, .inl (cI, 160, .inl mg)), (h6_mt, .inl (cI, 240, .inl mt)), (h6_ml, .inl (cI, 240, .inl ml)), (h6_mr, .inl (cI, 600, .inl mr))]) (w1 := [(h6, .inr (6, [.int x159_2, .ref h6_ms, .ref h6_mv, .int svm, .ref h6_mb, .int mln, .ref h6_mc, .ref h6_mg, .ref h6_mt, .ref h6_ml, .int mat, .int wel, .ref h6_mr, .int rdm, .long x159_7])), (h6_ms, .inl (cI, 253, .inl ms)), (h6_mv, .inl (cI, 1518, .inl mv)), (h6_mb, .inl (cI, 60, .inl mb)), (h6_mc, .inl (cI, 160, .inl x159_3)), (h6_mg, .inl (cI, 160, .inl x159_4)), (h6_mt, .inl (cI, 240, .inl x159_5)), (h6_ml, .inl (cI, 240, .inl x159_6)), (h6_mr, .inl (cI, 600, .inl mr))]) (w2 := [(h5, .inr (5, [.ref h2, .ref h1, .ref h4, .ref h0, .ref h3])), (h2, .inr (2, [.ref h2_row, .ref h2_ten, .ref h2_pha, .int len, .int kep, .int wfi, .int wmo, .int hun])), (h2_row, .inl (cI, 240, .inl row)), (h2_ten, .inl (cI, 4, .inl ten)), (h2_pha, .inl (cI, 4, .inl pha)), (h1, .inr (1, [.ref h1a, .int nex, .int man])), (h4, .inr (4, [.ref h4_cod, .ref h4_unf, .int tln])), (h4_cod, .inl (cI, 60, .inl cod)), (h4_unf, .inl (cI, 540, .inl unf)), (h0, .inr (0, [.ref h0_cel, .int x158_3])), (h0_cel, .inl (cI, 160, .inl x158_2)), (h3, .inr (3, [.ref h3_str, .ref h3_tlr, .ref h3_tsg])), (h3_str, .inl (cI, 40, .inl x158_4)), (h3_tlr, .inl (cI, 240, .inl x158_5)), (h3_tsg, .inl (cI, 240, .inl x158_6)), (h6, .inr (6, [.int x159_2, .ref h6_ms, .ref h6_mv, .int svm, .ref h6_mb, .int mln, .ref h6_mc, .ref h6_mg, .ref h6_mt, .ref h6_ml, .int mat, .int wel, .ref h6_mr, .int rdm, .long x159_7])), (h6_ms, .inl (cI, 253, .inl ms)), (h6_mv, .inl (cI, 1518, .inl mv)), (h6_mb, .inl (cI, 60, .inl mb)), (h6_mc, .inl (cI, 160, .inl x159_3)), (h6_mg, .inl (cI, 160, .inl x159_4)), (h6_mt, .inl (cI, 240, .inl x159_5)), (h6_ml, .inl (cI, 240, .inl x159_6)), (h6_mr, .inl (cI, 600, .inl mr)), (q3, .inl (cJ, 1, .inr (.inl f3)))]) (va_runV (As := []) (rest := [.long x158_1]) ⟨hx, hb, hml, hown, hts⟩ (mX6_digest l D cI cO cJ h6 h6_ms h6_mv h6_mb h6_mc h6_mg h6_mt h6_ml h6_mr H.size thr ms mv svm mb mln mc mg mt ml mat wel mr rdm hsh _ hx159) (cwV 0 hts gL_law_X6_digest rfl rfl rfl (by decide +kernel) ⟨Nat.le_of_ble_eq_true rfl, Nat.le_of_ble_eq_true rfl⟩) (pw_preV hK hN (pw_sub hP [15, 16, 17, 18, 19, 20, 21, 22, 23] rfl) (pw_subD hD [15, 16, 17, 18, 19, 20, 21, 22, 23] (by decide) rfl) (ci := 6) (q0 := 0) rfl rfl) rfl rfl hl.1 rfl (lv_room (Nat.le_of_ble_eq_true rfl)) dL_law_1549 ⟨by have := hk; show _ ≤ (601024 : Nat); omega, by have := hk; show _ ≤ (7293034 : Nat); omega⟩) hP hD hS hA [15, 16, 17, 18, 19, 20, 21, 22, 23] [0, 1, 2, 3, 4, 5, 6, 7, 8, 9, 10, 11, 12, 13, 14, 24] [0, 1, 2, 3, 4, 5, 6, 7, 8, 9, 10, 11, 12, 13, 14, 16, 17, 18, 19, 20, 21, 22, 23, 24, 15] rfl rfl (by decide) (by decide) (by decide) rfl (fun H locs hP hD hS => ?_)
        refine W.lcmp hx hb dL_law_1552 ?_
        refine lv_if_eq (tgt := 1558) hx hb dL_law_1553 (by decide) (fun cq => ?_) (fun cq => ?_)
        · replace h := ifp cq h
          refine lv_iinc (v := (i + 4)) (lv' := [(4, .int (i + 4)), (0, .ref b), (1, .ref h5), (2, .ref h6), (3, .ref q3)]) hx hb dL_law_1558 hl (k := 4) rfl rfl (by decide) rfl (fun ls hl => ?_)
          refine lv_goto (tgt := 23) hx hb dL_law_1561 (by decide) ?_
          refine W.widen (k := 50 + (k + 1)) (n := 6341 + 6 * (k + 1)) (by omega) (by omega) ?_
          exact ih _ (k + 1) _ _ _ _ _ _ _ _ _ _ _ _ _ _ _ _ _ _ _ _ _ _ _ _ _ _ _ _ _ _ _ _ _ _ _ _ _ _ h (pl_i hi) (pl_k hi hL hk hgo) hP hD hS (lv_sub hl [1, 2, 3, 4, 0] rfl)
        · replace h := ifn cq h
          refine lv_iconst (v := 0) hx hb dL_law_1556 (by decide) ?_
          exact absurd (Option.some.inj h) (by decide)
      replace h := ifn c25 h
      refine lv_tableOut (tgt := 1558) hx hb dL_law_39 (pw_tbl_25 c0 c1 c2 c3 c4 c5 c6 c7 c8 c9 c10 c11 c12 c13 c14 c15 c16 c17 c18 c19 c20 c21 c22 c23 c24 c25) (by decide) ?_
      refine lv_iinc (v := (i + 4)) (lv' := [(4, .int (i + 4)), (0, .ref b), (1, .ref h5), (2, .ref h6), (3, .ref q3)]) hx hb dL_law_1558 hl (k := 4) rfl rfl (by decide) rfl (fun ls hl => ?_)
      refine lv_goto (tgt := 23) hx hb dL_law_1561 (by decide) ?_
      refine W.widen (k := 50 + (k + 1)) (n := 6341 + 6 * (k + 1)) (by omega) (by omega) ?_
      exact ih _ (k + 1) _ _ _ _ _ _ _ _ _ _ _ _ _ _ _ _ _ _ _ _ _ _ _ _ _ _ _ _ _ _ _ _ _ _ _ _ _ _ h (pl_i hi) (pl_k hi hL hk hgo) hP hD hS (lv_sub hl [1, 2, 3, 4, 0] rfl)

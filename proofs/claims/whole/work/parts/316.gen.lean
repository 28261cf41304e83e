def fX6_mend_L17 (x2_3 : Nat → Int32) : Nat → Int32 → Int32 → (Nat → Int32) → Option (Int32 × (Nat → Int32))
  | 0, _, _, _ => none
  | n + 1, v1_17, v2_17, ms_17 =>
    if oob 0 253 then none else
    if (ms_17 (0 : Int32).toNatClampNeg) ≤ v2_17 then
    some (v1_17, ms_17)
    else
    if oob v2_17 240 then none else
    if (x2_3 v2_17.toNatClampNeg) = (-1) then
    fX6_mend_L17 x2_3 n v1_17 (v2_17 + 1) ms_17
    else
    (fX6_isExplained ms_17 x2_3 v2_17).bind fun x5 =>
    if x5 = 0 then
    if oob v2_17 240 then none else
    if oob (13 + v2_17) 253 then none else
    fX6_mend_L17 x2_3 n (v1_17 + 1) (v2_17 + 1) (upd ms_17 ((13 + v2_17)).toNatClampNeg (x2_3 v2_17.toNatClampNeg))
    else
    fX6_mend_L17 x2_3 n v1_17 (v2_17 + 1) ms_17
def fX6_mend (ms : Nat → Int32) (mv : Nat → Int32) (svm : Int32) (mc : Nat → Int32) (mg : Nat → Int32) (mt : Nat → Int32) (ml : Nat → Int32) : Option (Int32 × Int32 × (Nat → Int32) × (Nat → Int32) × Int32 × (Nat → Int32) × (Nat → Int32) × (Nat → Int32) × (Nat → Int32)) :=
  (fX6_saves ms mv svm).bind fun (x1_1, x1_2) =>
  (fX6_laysTold ms mc mg mt ml).bind fun (x2_1, x2_2, x2_3, x2_4) =>
  (fX6_mend_L17 x2_3 FU 0 0 ms).bind fun (x8_1, x8_2) =>
  some (x8_1, 0, x8_2, x1_1, x1_2, x2_1, x2_2, x2_3, x2_4)
abbrev rmX6_mend : Room := { frames := 4, cells := 0, slots := 0, locals := 92 }
set_option maxHeartbeats 4000000 in
set_option maxRecDepth 100000 in
theorem mX6_mend (l : Launch) (D : va_G) (cI cO cJ : ClassId) (h6 h6_ms h6_mv h6_mb h6_mc h6_mg h6_mt h6_ml h6_mr : Nat) (sz : Nat) (thr : Int32) (ms : Nat → Int32) (mv : Nat → Int32) (svm : Int32) (mb : Nat → Int32) (mln : Int32) (mc : Nat → Int32) (mg : Nat → Int32) (mt : Nat → Int32) (ml : Nat → Int32) (mat : Int32) (wel : Int32) (mr : Nat → Int32) (rdm : Int32) (hsh : Int64) (z : Int32 × Int32 × (Nat → Int32) × (Nat → Int32) × Int32 × (Nat → Int32) × (Nat → Int32) × (Nat → Int32) × (Nat → Int32)) (h : fX6_mend ms mv svm mc mg mt ml = some z) : Met l yX6_mend wsX6_mend rmX6_mend (pw_pre D (tyL cI cO cJ) [.ref h6] [(h6, .inr (6, [.int thr, .ref h6_ms, .ref h6_mv, .int svm, .ref h6_mb, .int mln, .ref h6_mc, .ref h6_mg, .ref h6_mt, .ref h6_ml, .int mat, .int wel, .ref h6_mr, .int rdm, .long hsh])), (h6_ms, .inl (cI, 253, .inl ms)), (h6_mv, .inl (cI, 1518, .inl mv)), (h6_mb, .inl (cI, 60, .inl mb)), (h6_mc, .inl (cI, 160, .inl mc)), (h6_mg, .inl (cI, 160, .inl mg)), (h6_mt, .inl (cI, 240, .inl mt)), (h6_ml, .inl (cI, 240, .inl ml)), (h6_mr, .inl (cI, 600, .inl mr))] sz) (pw_i D [(h6, .inr (6, [.int thr, .ref h6_ms, .ref h6_mv, .int svm, .ref h6_mb, .int mln, .ref h6_mc, .ref h6_mg, .ref h6_mt, .ref h6_ml, .int mat, .int wel, .ref h6_mr, .int rdm, .long hsh])), (h6_ms, .inl (cI, 253, .inl ms)), (h6_mv, .inl (cI, 1518, .inl mv)), (h6_mb, .inl (cI, 60, .inl mb)), (h6_mc, .inl (cI, 160, .inl mc)), (h6_mg, .inl (cI, 160, .inl mg)), (h6_mt, .inl (cI, 240, .inl mt)), (h6_ml, .inl (cI, 240, .inl ml)), (h6_mr, .inl (cI, 600, .inl mr))] [(h6, .inr (6, [.int z.2.1, .ref h6_ms, .ref h6_mv, .int z.2.2.2.2.1, .ref h6_mb, .int mln, .ref h6_mc, .ref h6_mg, .ref h6_mt, .ref h6_ml, .int mat, .int wel, .ref h6_mr, .int rdm, .long hsh])), (h6_ms, .inl (cI, 253, .inl z.2.2.1)), (h6_mv, .inl (cI, 1518, .inl z.2.2.2.1)), (h6_mb, .inl (cI, 60, .inl mb)), (h6_mc, .inl (cI, 160, .inl z.2.2.2.2.2.1)), (h6_mg, .inl (cI, 160, .inl z.2.2.2.2.2.2.1)), (h6_mt, .inl (cI, 240, .inl z.2.2.2.2.2.2.2.1)), (h6_ml, .inl (cI, 240, .inl z.2.2.2.2.2.2.2.2)), (h6_mr, .inl (cI, 600, .inl mr))] z.1 sz) 0 0 (va_A [(h6, .inr (6, [.int thr, .ref h6_ms, .ref h6_mv, .int svm, .ref h6_mb, .int mln, .ref h6_mc, .ref h6_mg, .ref h6_mt, .ref h6_ml, .int mat, .int wel, .ref h6_mr, .int rdm, .long hsh])), (h6_ms, .inl (cI, 253, .inl ms)), (h6_mv, .inl (cI, 1518, .inl mv)), (h6_mb, .inl (cI, 60, .inl mb)), (h6_mc, .inl (cI, 160, .inl mc)), (h6_mg, .inl (cI, 160, .inl mg)), (h6_mt, .inl (cI, 240, .inl mt)), (h6_ml, .inl (cI, 240, .inl ml)), (h6_mr, .inl (cI, 600, .inl mr))] sz) := by
  refine pw_of (Qc := fun sz => pw_i D [(h6, .inr (6, [.int thr, .ref h6_ms, .ref h6_mv, .int svm, .ref h6_mb, .int mln, .ref h6_mc, .ref h6_mg, .ref h6_mt, .ref h6_ml, .int mat, .int wel, .ref h6_mr, .int rdm, .long hsh])), (h6_ms, .inl (cI, 253, .inl ms)), (h6_mv, .inl (cI, 1518, .inl mv)), (h6_mb, .inl (cI, 60, .inl mb)), (h6_mc, .inl (cI, 160, .inl mc)), (h6_mg, .inl (cI, 160, .inl mg)), (h6_mt, .inl (cI, 240, .inl mt)), (h6_ml, .inl (cI, 240, .inl ml)), (h6_mr, .inl (cI, 600, .inl mr))] [(h6, .inr (6, [.int z.2.1, .ref h6_ms, .ref h6_mv, .int z.2.2.2.2.1, .ref h6_mb, .int mln, .ref h6_mc, .ref h6_mg, .ref h6_mt, .ref h6_ml, .int mat, .int wel, .ref h6_mr, .int rdm, .long hsh])), (h6_ms, .inl (cI, 253, .inl z.2.2.1)), (h6_mv, .inl (cI, 1518, .inl z.2.2.2.1)), (h6_mb, .inl (cI, 60, .inl mb)), (h6_mc, .inl (cI, 160, .inl z.2.2.2.2.2.1)), (h6_mg, .inl (cI, 160, .inl z.2.2.2.2.2.2.1)), (h6_mt, .inl (cI, 240, .inl z.2.2.2.2.2.2.2.1)), (h6_ml, .inl (cI, 240, .inl z.2.2.2.2.2.2.2.2)), (h6_mr, .inl (cI, 600, .inl mr))] z.1 sz) (cc := cX6_mend) (maxL := 3) (ret := (some .int)) (by decide) rfl (Nat.le_of_ble_eq_true rfl) ?_
  intro p e s m args below meth c A Q H ls hx hb hml hr hts hown hlocks hAe hQ hK hN hA hP hD hS hl
  have hown : s.vm.findClass RX6 = some m.cls := hown
  have hl : lv_has ls 3 [(0, .ref h6)] := hl
  have hP : va_P D vwCl ([(h6, .inr (6, [.int thr, .ref h6_ms, .ref h6_mv, .int svm, .ref h6_mb, .int mln, .ref h6_mc, .ref h6_mg, .ref h6_mt, .ref h6_ml, .int mat, .int wel, .ref h6_mr, .int rdm, .long hsh])), (h6_ms, .inl (cI, 253, .inl ms)), (h6_mv, .inl (cI, 1518, .inl mv)), (h6_mb, .inl (cI, 60, .inl mb)), (h6_mc, .inl (cI, 160, .inl mc)), (h6_mg, .inl (cI, 160, .inl mg)), (h6_mt, .inl (cI, 240, .inl mt)), (h6_ml, .inl (cI, 240, .inl ml)), (h6_mr, .inl (cI, 600, .inl mr))] ++ []) H := hP
  have hD : va_D A ([(h6, .inr (6, [.int thr, .ref h6_ms, .ref h6_mv, .int svm, .ref h6_mb, .int mln, .ref h6_mc, .ref h6_mg, .ref h6_mt, .ref h6_ml, .int mat, .int wel, .ref h6_mr, .int rdm, .long hsh])), (h6_ms, .inl (cI, 253, .inl ms)), (h6_mv, .inl (cI, 1518, .inl mv)), (h6_mb, .inl (cI, 60, .inl mb)), (h6_mc, .inl (cI, 160, .inl mc)), (h6_mg, .inl (cI, 160, .inl mg)), (h6_mt, .inl (cI, 240, .inl mt)), (h6_ml, .inl (cI, 240, .inl ml)), (h6_mr, .inl (cI, 600, .inl mr))] ++ []) := hD
  have iX6 : ∀ w ∈ u_ws RX6 TX6 15, w ∈ wsX6_mend := fun _ h => List.mem_cons_of_mem _ (List.mem_append_right _ h)
  unfold fX6_mend at h
  refine lv_aload_n hx hb dX6_mend_0 rfl (lv_at hl 0 rfl) ?_
  refine lv_iconst (v := 0) hx hb dX6_mend_1 (by decide) ?_
  refine va_put (D := D) (ci := 6) (v := .int 0) (ty := .int) (C := RX6) (T := TX6) (N := 15) hx hb hts iX6 tyX6 tyX6_ok nmX6 hown hK hP hD hS 0 rfl rfl 0 (by decide) (hts (.fieldLink RX6 34 "HiddenPeriodsModel" "thrown" "I") (by decide +kernel)) (fun _ h9 => h9) rfl (by decide +kernel) rfl rfl (Nat.le_of_ble_eq_true rfl) dX6_mend_2 (fun H locs hP hD hS => ?_)
  have hP : va_P D vwCl ([(h6, .inr (6, [.int 0, .ref h6_ms, .ref h6_mv, .int svm, .ref h6_mb, .int mln, .ref h6_mc, .ref h6_mg, .ref h6_mt, .ref h6_ml, .int mat, .int wel, .ref h6_mr, .int rdm, .long hsh])), (h6_ms, .inl (cI, 253, .inl ms)), (h6_mv, .inl (cI, 1518, .inl mv)), (h6_mb, .inl (cI, 60, .inl mb)), (h6_mc, .inl (cI, 160, .inl mc)), (h6_mg, .inl (cI, 160, .inl mg)), (h6_mt, .inl (cI, 240, .inl mt)), (h6_ml, .inl (cI, 240, .inl ml)), (h6_mr, .inl (cI, 600, .inl mr))] ++ []) H := hP
  have hD : va_D A ([(h6, .inr (6, [.int 0, .ref h6_ms, .ref h6_mv, .int svm, .ref h6_mb, .int mln, .ref h6_mc, .ref h6_mg, .ref h6_mt, .ref h6_ml, .int mat, .int wel, .ref h6_mr, .int rdm, .long hsh])), (h6_ms, .inl (cI, 253, .inl ms)), (h6_mv, .inl (cI, 1518, .inl mv)), (h6_mb, .inl (cI, 60, .inl mb)), (h6_mc, .inl (cI, 160, .inl mc)), (h6_mg, .inl (cI, 160, .inl mg)), (h6_mt, .inl (cI, 240, .inl mt)), (h6_ml, .inl (cI, 240, .inl ml)), (h6_mr, .inl (cI, 600, .inl mr))] ++ []) := hD
  refine lv_aload_n hx hb dX6_mend_5 rfl (lv_at hl 0 rfl) ?_
  obtain ⟨⟨x1_1, x1_2⟩, hx1, h⟩ := bnd h
  refine pw_gov (wc := [(h6, .inr (6, [.int 0, .ref h6_ms, .ref h6_mv, .int svm, .ref h6_mb, .int mln, .ref h6_mc, .ref h6_mg, .ref h6_mt, .ref h6_ml, .int mat, .int wel, .ref h6_mr, .int rdm, .long hsh])), (h6_ms, .inl (cI, 253, .inl ms)), (h6_mv, .inl (cI, 1518, .inl mv)), (h6_mb, .inl (cI, 60, .inl mb)), (h6_mc, .inl (cI, 160, .inl mc)), (h6_mg, .inl (cI, 160, .inl mg)), (h6_mt, .inl (cI, 240, .inl mt)), (h6_ml, .inl (cI, 240, .inl ml)), (h6_mr, .inl (cI, 600, .inl mr))]) (w1 := [(h6, .inr (6, [.int 0, .ref h6_ms, .ref h6_mv, .int x1_2, .ref h6_mb, .int mln, .ref h6_mc, .ref h6_mg, .ref h6_mt, .ref h6_ml, .int mat, .int wel, .ref h6_mr, .int rdm, .long hsh])), (h6_ms, .inl (cI, 253, .inl ms)), (h6_mv, .inl (cI, 1518, .inl x1_1)), (h6_mb, .inl (cI, 60, .inl mb)), (h6_mc, .inl (cI, 160, .inl mc)), (h6_mg, .inl (cI, 160, .inl mg)), (h6_mt, .inl (cI, 240, .inl mt)), (h6_ml, .inl (cI, 240, .inl ml)), (h6_mr, .inl (cI, 600, .inl mr))]) (w2 := [(h6, .inr (6, [.int 0, .ref h6_ms, .ref h6_mv, .int x1_2, .ref h6_mb, .int mln, .ref h6_mc, .ref h6_mg, .ref h6_mt, .ref h6_ml, .int mat, .int wel, .ref h6_mr, .int rdm, .long hsh])), (h6_ms, .inl (cI, 253, .inl ms)), (h6_mv, .inl (cI, 1518, .inl x1_1)), (h6_mb, .inl (cI, 60, .inl mb)), (h6_mc, .inl (cI, 160, .inl mc)), (h6_mg, .inl (cI, 160, .inl mg)), (h6_mt, .inl (cI, 240, .inl mt)), (h6_ml, .inl (cI, 240, .inl ml)), (h6_mr, .inl (cI, 600, .inl mr))]) (va_runV (As := []) (rest := []) ⟨hx, hb, hml, hown, hts⟩ (mX6_saves l D cI cO cJ h6 h6_ms h6_mv h6_mb h6_mc h6_mg h6_mt h6_ml h6_mr H.size 0 ms mv svm mb mln mc mg mt ml mat wel mr rdm hsh _ hx1) (cwV 0 hts gX6_mend_X6_saves rfl rfl rfl (by decide +kernel) ⟨Nat.le_of_ble_eq_true rfl, Nat.le_of_ble_eq_true rfl⟩) (pw_preV hK hN (pw_sub hP [0, 1, 2, 3, 4, 5, 6, 7, 8] rfl) (pw_subD hD [0, 1, 2, 3, 4, 5, 6, 7, 8] (by decide) rfl) (ci := 6) (q0 := 0) rfl rfl) rfl rfl hl.1 rfl (lv_room (Nat.le_of_ble_eq_true rfl)) dX6_mend_6 ⟨Nat.zero_le _, Nat.zero_le _⟩) hP hD hS hA [0, 1, 2, 3, 4, 5, 6, 7, 8] [] [0, 1, 2, 3, 4, 5, 6, 7, 8] rfl rfl (by decide) (by decide) (by decide) rfl (fun H locs hP hD hS => ?_)
  refine lv_aload_n hx hb dX6_mend_9 rfl (lv_at hl 0 rfl) ?_
  obtain ⟨⟨x2_1, x2_2, x2_3, x2_4⟩, hx2, h⟩ := bnd h
  refine pw_gov (wc := [(h6, .inr (6, [.int 0, .ref h6_ms, .ref h6_mv, .int x1_2, .ref h6_mb, .int mln, .ref h6_mc, .ref h6_mg, .ref h6_mt, .ref h6_ml, .int mat, .int wel, .ref h6_mr, .int rdm, .long hsh])), (h6_ms, .inl (cI, 253, .inl ms)), (h6_mv, .inl (cI, 1518, .inl x1_1)), (h6_mb, .inl (cI, 60, .inl mb)), (h6_mc, .inl (cI, 160, .inl mc)), (h6_mg, .inl (cI, 160, .inl mg)), (h6_mt, .inl (cI, 240, .inl mt)), (h6_ml, .inl (cI, 240, .inl ml)), (h6_mr, .inl (cI, 600, .inl mr))]) (w1 := [(h6, .inr (6, [.int 0, .ref h6_ms, .ref h6_mv, .int x1_2, .ref h6_mb, .int mln, .ref h6_mc, .ref h6_mg, .ref h6_mt, .ref h6_ml, .int mat, .int wel, .ref h6_mr, .int rdm, .long hsh])), (h6_ms, .inl (cI, 253, .inl ms)), (h6_mv, .inl (cI, 1518, .inl x1_1)), (h6_mb, .inl (cI, 60, .inl mb)), (h6_mc, .inl (cI, 160, .inl x2_1)), (h6_mg, .inl (cI, 160, .inl x2_2)), (h6_mt, .inl (cI, 240, .inl x2_3)), (h6_ml, .inl (cI, 240, .inl x2_4)), (h6_mr, .inl (cI, 600, .inl mr))]) (w2 := [(h6, .inr (6, [.int 0, .ref h6_ms, .ref h6_mv, .int x1_2, .ref h6_mb, .int mln, .ref h6_mc, .ref h6_mg, .ref h6_mt, .ref h6_ml, .int mat, .int wel, .ref h6_mr, .int rdm, .long hsh])), (h6_ms, .inl (cI, 253, .inl ms)), (h6_mv, .inl (cI, 1518, .inl x1_1)), (h6_mb, .inl (cI, 60, .inl mb)), (h6_mc, .inl (cI, 160, .inl x2_1)), (h6_mg, .inl (cI, 160, .inl x2_2)), (h6_mt, .inl (cI, 240, .inl x2_3)), (h6_ml, .inl (cI, 240, .inl x2_4)), (h6_mr, .inl (cI, 600, .inl mr))]) (va_runV (As := []) (rest := []) ⟨hx, hb, hml, hown, hts⟩ (mX6_laysTold l D cI cO cJ h6 h6_ms h6_mv h6_mb h6_mc h6_mg h6_mt h6_ml h6_mr H.size 0 ms x1_1 x1_2 mb mln mc mg mt ml mat wel mr rdm hsh _ hx2) (cwV 0 hts gX6_mend_X6_laysTold rfl rfl rfl (by decide +kernel) ⟨Nat.le_of_ble_eq_true rfl, Nat.le_of_ble_eq_true rfl⟩) (pw_preV hK hN (pw_sub hP [0, 1, 2, 3, 4, 5, 6, 7, 8] rfl) (pw_subD hD [0, 1, 2, 3, 4, 5, 6, 7, 8] (by decide) rfl) (ci := 6) (q0 := 0) rfl rfl) rfl rfl hl.1 rfl (lv_room (Nat.le_of_ble_eq_true rfl)) dX6_mend_10 ⟨Nat.zero_le _, Nat.zero_le _⟩) hP hD hS hA [0, 1, 2, 3, 4, 5, 6, 7, 8] [] [0, 1, 2, 3, 4, 5, 6, 7, 8] rfl rfl (by decide) (by decide) (by decide) rfl (fun H locs hP hD hS => ?_)
  refine lv_iconst (v := 0) hx hb dX6_mend_13 (by decide) ?_
  refine lv_istore_n (lv' := [(1, .int 0), (0, .ref h6)]) hx hb dX6_mend_14 rfl hl (by decide) rfl (fun ls hl => ?_)
  refine lv_iconst (v := 0) hx hb dX6_mend_15 (by decide) ?_
  refine lv_istore_n (lv' := [(2, .int 0), (1, .int 0), (0, .ref h6)]) hx hb dX6_mend_16 rfl hl (by decide) rfl (fun ls hl => ?_)
  have L17 : ∀ (n : Nat) (v1_17 : Int32) (v2_17 : Int32) (ms_17 : Nat → Int32) (o17_1 : Int32) (o17_2 : Nat → Int32) (H : Heap) (locs : List Loc) (ls : Array Slot), fX6_mend_L17 x2_3 n v1_17 v2_17 ms_17 = some (o17_1, o17_2) → va_P D vwCl ([(h6, .inr (6, [.int 0, .ref h6_ms, .ref h6_mv, .int x1_2, .ref h6_mb, .int mln, .ref h6_mc, .ref h6_mg, .ref h6_mt, .ref h6_ml, .int mat, .int wel, .ref h6_mr, .int rdm, .long hsh])), (h6_ms, .inl (cI, 253, .inl ms_17)), (h6_mv, .inl (cI, 1518, .inl x1_1)), (h6_mb, .inl (cI, 60, .inl mb)), (h6_mc, .inl (cI, 160, .inl x2_1)), (h6_mg, .inl (cI, 160, .inl x2_2)), (h6_mt, .inl (cI, 240, .inl x2_3)), (h6_ml, .inl (cI, 240, .inl x2_4)), (h6_mr, .inl (cI, 600, .inl mr))] ++ []) H → va_D A ([(h6, .inr (6, [.int 0, .ref h6_ms, .ref h6_mv, .int x1_2, .ref h6_mb, .int mln, .ref h6_mc, .ref h6_mg, .ref h6_mt, .ref h6_ml, .int mat, .int wel, .ref h6_mr, .int rdm, .long hsh])), (h6_ms, .inl (cI, 253, .inl ms_17)), (h6_mv, .inl (cI, 1518, .inl x1_1)), (h6_mb, .inl (cI, 60, .inl mb)), (h6_mc, .inl (cI, 160, .inl x2_1)), (h6_mg, .inl (cI, 160, .inl x2_2)), (h6_mt, .inl (cI, 240, .inl x2_3)), (h6_ml, .inl (cI, 240, .inl x2_4)), (h6_mr, .inl (cI, 600, .inl mr))] ++ []) → va_S A s.heap H locs → lv_has ls 3 [(0, .ref h6), (1, .int v1_17), (2, .int v2_17)] → (∀ (H : Heap) (locs : List Loc) (ls : Array Slot), va_P D vwCl ([(h6, .inr (6, [.int 0, .ref h6_ms, .ref h6_mv, .int x1_2, .ref h6_mb, .int mln, .ref h6_mc, .ref h6_mg, .ref h6_mt, .ref h6_ml, .int mat, .int wel, .ref h6_mr, .int rdm, .long hsh])), (h6_ms, .inl (cI, 253, .inl o17_2)), (h6_mv, .inl (cI, 1518, .inl x1_1)), (h6_mb, .inl (cI, 60, .inl mb)), (h6_mc, .inl (cI, 160, .inl x2_1)), (h6_mg, .inl (cI, 160, .inl x2_2)), (h6_mt, .inl (cI, 240, .inl x2_3)), (h6_ml, .inl (cI, 240, .inl x2_4)), (h6_mr, .inl (cI, 600, .inl mr))] ++ []) H → va_D A ([(h6, .inr (6, [.int 0, .ref h6_ms, .ref h6_mv, .int x1_2, .ref h6_mb, .int mln, .ref h6_mc, .ref h6_mg, .ref h6_mt, .ref h6_ml, .int mat, .int wel, .ref h6_mr, .int rdm, .long hsh])), (h6_ms, .inl (cI, 253, .inl o17_2)), (h6_mv, .inl (cI, 1518, .inl x1_1)), (h6_mb, .inl (cI, 60, .inl mb)), (h6_mc, .inl (cI, 160, .inl x2_1)), (h6_mg, .inl (cI, 160, .inl x2_2)), (h6_mt, .inl (cI, 240, .inl x2_3)), (h6_ml, .inl (cI, 240, .inl x2_4)), (h6_mr, .inl (cI, 600, .inl mr))] ++ []) → va_S A s.heap H locs → lv_has ls 3 [(1, .int o17_1)] → W p l e rmX6_mend s m args below meth c H locs 0 0 Q (F0 m 69 ls [])) → W p l e rmX6_mend s m args below meth c H locs 0 0 Q (F0 m 17 ls []) := by
    intro n
    induction n with
    | zero =>
      intro v1_17 v2_17 ms_17 o17_1 o17_2 H locs ls h
      rw [fX6_mend_L17] at h
      cases h
    | succ n ih =>
      intro v1_17 v2_17 ms_17 o17_1 o17_2 H locs ls h hP hD hS hl K
      rw [fX6_mend_L17] at h
      refine lv_iload_n hx hb dX6_mend_17 rfl (lv_at hl 2 rfl) ?_
      refine lv_aload_n hx hb dX6_mend_18 rfl (lv_at hl 0 rfl) ?_
      refine va_get (D := D) (ci := 6) (v := .ref h6_ms) (C := RX6) (T := TX6) (N := 15) hx hb hts iX6 hown hK hP 0 rfl rfl 1 (by decide) (hts (.fieldLink RX6 7 "HiddenPeriodsModel" "s" "[I") (by decide +kernel)) (fun _ h9 => h9) rfl dX6_mend_19 ?_
      refine lv_iconst (v := 0) hx hb dX6_mend_22 (by decide) ?_
      obtain ⟨g3, h⟩ := gdn h
      refine va_iald hx hb hK hP 1 0 rfl rfl g3 dX6_mend_23 ?_
      refine lv_icmp_ge (tgt := 69) hx hb dX6_mend_24 (by decide) (fun cq => ?_) (fun cq => ?_)
      · replace h := ifp cq h
        cases h
        exact K _ _ _ hP hD hS (lv_sub hl [1] rfl)
      · replace h := ifn cq h
        refine lv_aload_n hx hb dX6_mend_27 rfl (lv_at hl 0 rfl) ?_
        refine va_get (D := D) (ci := 6) (v := .ref h6_mt) (C := RX6) (T := TX6) (N := 15) hx hb hts iX6 hown hK hP 0 rfl rfl 8 (by decide) (hts (.fieldLink RX6 25 "HiddenPeriodsModel" "toldSigns" "[I") (by decide +kernel)) (fun _ h9 => h9) rfl dX6_mend_28 ?_
        refine lv_iload_n hx hb dX6_mend_31 rfl (lv_at hl 2 rfl) ?_
        obtain ⟨g4, h⟩ := gdn h
        refine va_iald hx hb hK hP 6 0 rfl rfl g4 dX6_mend_32 ?_
        refine lv_iconst (v := (-1)) hx hb dX6_mend_33 (by decide) ?_
        refine lv_icmp_eq (tgt := 63) hx hb dX6_mend_34 (by decide) (fun cq => ?_) (fun cq => ?_)
        · replace h := ifp cq h
          refine lv_iinc (v := (v2_17 + 1)) (lv' := [(2, .int (v2_17 + 1)), (0, .ref h6), (1, .int v1_17)]) hx hb dX6_mend_63 hl (k := 2) rfl rfl (by decide) rfl (fun ls hl => ?_)
          refine lv_goto (tgt := 17) hx hb dX6_mend_66 (by decide) ?_
          exact ih _ _ _ _ _ _ _ _ h hP hD hS (lv_sub hl [1, 2, 0] rfl) K
        · replace h := ifn cq h
          refine lv_aload_n hx hb dX6_mend_37 rfl (lv_at hl 0 rfl) ?_
          refine lv_iload_n hx hb dX6_mend_38 rfl (lv_at hl 2 rfl) ?_
          obtain ⟨x5, hx5, h⟩ := bnd h
          refine pw_goi (wc := [(h6, .inr (6, [.int 0, .ref h6_ms, .ref h6_mv, .int x1_2, .ref h6_mb, .int mln, .ref h6_mc, .ref h6_mg, .ref h6_mt, .ref h6_ml, .int mat, .int wel, .ref h6_mr, .int rdm, .long hsh])), (h6_ms, .inl (cI, 253, .inl ms_17)), (h6_mv, .inl (cI, 1518, .inl x1_1)), (h6_mb, .inl (cI, 60, .inl mb)), (h6_mc, .inl (cI, 160, .inl x2_1)), (h6_mg, .inl (cI, 160, .inl x2_2)), (h6_mt, .inl (cI, 240, .inl x2_3)), (h6_ml, .inl (cI, 240, .inl x2_4)), (h6_mr, .inl (cI, 600, .inl mr))]) (w1 := [(h6, .inr (6, [.int 0, .ref h6_ms, .ref h6_mv, .int x1_2, .ref h6_mb, .int mln, .ref h6_mc, .ref h6_mg, .ref h6_mt, .ref h6_ml, .int mat, .int wel, .ref h6_mr, .int rdm, .long hsh])), (h6_ms, .inl (cI, 253, .inl ms_17)), (h6_mv, .inl (cI, 1518, .inl x1_1)), (h6_mb, .inl (cI, 60, .inl mb)), (h6_mc, .inl (cI, 160, .inl x2_1)), (h6_mg, .inl (cI, 160, .inl x2_2)), (h6_mt, .inl (cI, 240, .inl x2_3)), (h6_ml, .inl (cI, 240, .inl x2_4)), (h6_mr, .inl (cI, 600, .inl mr))]) (w2 := [(h6, .inr (6, [.int 0, .ref h6_ms, .ref h6_mv, .int x1_2, .ref h6_mb, .int mln, .ref h6_mc, .ref h6_mg, .ref h6_mt, .ref h6_ml, .int mat, .int wel, .ref h6_mr, .int rdm, .long hsh])), (h6_ms, .inl (cI, 253, .inl ms_17)), (h6_mv, .inl (cI, 1518, .inl x1_1)), (h6_mb, .inl (cI, 60, .inl mb)), (h6_mc, .inl (cI, 160, .inl x2_1)), (h6_mg, .inl (cI, 160, .inl x2_2)), (h6_mt, .inl (cI, 240, .inl x2_3)), (h6_ml, .inl (cI, 240, .inl x2_4)), (h6_mr, .inl (cI, 600, .inl mr))]) (va_runV (As := [.int v2_17]) (rest := []) ⟨hx, hb, hml, hown, hts⟩ (mX6_isExplained l D cI cO cJ h6 h6_ms h6_mv h6_mb h6_mc h6_mg h6_mt h6_ml h6_mr H.size 0 ms_17 x1_1 x1_2 mb mln x2_1 x2_2 x2_3 x2_4 mat wel mr rdm hsh v2_17 _ hx5) (cwV 1 hts gX6_mend_X6_isExplained rfl rfl rfl (by decide +kernel) ⟨Nat.le_of_ble_eq_true rfl, Nat.le_of_ble_eq_true rfl⟩) (pw_preV hK hN (pw_sub hP [0, 1, 2, 3, 4, 5, 6, 7, 8] rfl) (pw_subD hD [0, 1, 2, 3, 4, 5, 6, 7, 8] (by decide) rfl) (ci := 6) (q0 := 0) rfl rfl) rfl rfl hl.1 rfl (lv_room (Nat.le_of_ble_eq_true rfl)) dX6_mend_39 ⟨Nat.zero_le _, Nat.zero_le _⟩) hP hD hS hA [0, 1, 2, 3, 4, 5, 6, 7, 8] [] [0, 1, 2, 3, 4, 5, 6, 7, 8] rfl rfl (by decide) (by decide) (by decide) rfl (fun H locs hP hD hS => ?_)
          refine lv_if_ne (tgt := 63) hx hb dX6_mend_42 (by decide) (fun cq => ?_) (fun cq => ?_)
          · replace h := ifn cq h
            refine lv_iinc (v := (v2_17 + 1)) (lv' := [(2, .int (v2_17 + 1)), (0, .ref h6), (1, .int v1_17)]) hx hb dX6_mend_63 hl (k := 2) rfl rfl (by decide) rfl (fun ls hl => ?_)
            refine lv_goto (tgt := 17) hx hb dX6_mend_66 (by decide) ?_
            exact ih _ _ _ _ _ _ _ _ h hP hD hS (lv_sub hl [1, 2, 0] rfl) K
          · replace h := ifp cq h
            refine lv_aload_n hx hb dX6_mend_45 rfl (lv_at hl 0 rfl) ?_
            refine va_get (D := D) (ci := 6) (v := .ref h6_ms) (C := RX6) (T := TX6) (N := 15) hx hb hts iX6 hown hK hP 0 rfl rfl 1 (by decide) (hts (.fieldLink RX6 7 "HiddenPeriodsModel" "s" "[I") (by decide +kernel)) (fun _ h9 => h9) rfl dX6_mend_46 ?_
            refine lv_bipush (v := 13) hx hb dX6_mend_49 (by decide) ?_
            refine lv_iload_n hx hb dX6_mend_51 rfl (lv_at hl 2 rfl) ?_
            refine lv_iadd hx hb dX6_mend_52 ?_
            refine lv_aload_n hx hb dX6_mend_53 rfl (lv_at hl 0 rfl) ?_
            refine va_get (D := D) (ci := 6) (v := .ref h6_mt) (C := RX6) (T := TX6) (N := 15) hx hb hts iX6 hown hK hP 0 rfl rfl 8 (by decide) (hts (.fieldLink RX6 25 "HiddenPeriodsModel" "toldSigns" "[I") (by decide +kernel)) (fun _ h9 => h9) rfl dX6_mend_54 ?_
            refine lv_iload_n hx hb dX6_mend_57 rfl (lv_at hl 2 rfl) ?_
            obtain ⟨g6, h⟩ := gdn h
            refine va_iald hx hb hK hP 6 0 rfl rfl g6 dX6_mend_58 ?_
            obtain ⟨g7, h⟩ := gdn h
            refine va_iast hx hb hK hP hD hS 1 0 rfl rfl g7 dX6_mend_59 (fun H locs hP hD hS => ?_)
            have hP : va_P D vwCl ([(h6, .inr (6, [.int 0, .ref h6_ms, .ref h6_mv, .int x1_2, .ref h6_mb, .int mln, .ref h6_mc, .ref h6_mg, .ref h6_mt, .ref h6_ml, .int mat, .int wel, .ref h6_mr, .int rdm, .long hsh])), (h6_ms, .inl (cI, 253, .inl (upd ms_17 ((13 + v2_17)).toNatClampNeg (x2_3 v2_17.toNatClampNeg)))), (h6_mv, .inl (cI, 1518, .inl x1_1)), (h6_mb, .inl (cI, 60, .inl mb)), (h6_mc, .inl (cI, 160, .inl x2_1)), (h6_mg, .inl (cI, 160, .inl x2_2)), (h6_mt, .inl (cI, 240, .inl x2_3)), (h6_ml, .inl (cI, 240, .inl x2_4)), (h6_mr, .inl (cI, 600, .inl mr))] ++ []) H := hP
            have hD : va_D A ([(h6, .inr (6, [.int 0, .ref h6_ms, .ref h6_mv, .int x1_2, .ref h6_mb, .int mln, .ref h6_mc, .ref h6_mg, .ref h6_mt, .ref h6_ml, .int mat, .int wel, .ref h6_mr, .int rdm, .long hsh])), (h6_ms, .inl (cI, 253, .inl (upd ms_17 ((13 + v2_17)).toNatClampNeg (x2_3 v2_17.toNatClampNeg)))), (h6_mv, .inl (cI, 1518, .inl x1_1)), (h6_mb, .inl (cI, 60, .inl mb)), (h6_mc, .inl (cI, 160, .inl x2_1)), (h6_mg, .inl (cI, 160, .inl x2_2)), (h6_mt, .inl (cI, 240, .inl x2_3)), (h6_ml, .inl (cI, 240, .inl x2_4)), (h6_mr, .inl (cI, 600, .inl mr))] ++ []) := hD
            refine lv_iinc (v := (v1_17 + 1)) (lv' := [(1, .int (v1_17 + 1)), (0, .ref h6), (2, .int v2_17)]) hx hb dX6_mend_60 hl (k := 1) rfl rfl (by decide) rfl (fun ls hl => ?_)
            refine lv_iinc (v := (v2_17 + 1)) (lv' := [(2, .int (v2_17 + 1)), (1, .int (v1_17 + 1)), (0, .ref h6)]) hx hb dX6_mend_63 hl (k := 2) rfl rfl (by decide) rfl (fun ls hl => ?_)
            refine lv_goto (tgt := 17) hx hb dX6_mend_66 (by decide) ?_
            exact ih _ _ _ _ _ _ _ _ h hP hD hS (lv_sub hl [2, 1, 0] rfl) K
  obtain ⟨⟨x8_1, x8_2⟩, hx8, h⟩ := bnd h
  refine L17 FU _ _ _ _ _ _ _ _ hx8 hP hD hS (lv_sub hl [2, 1, 0] rfl) (fun H locs ls hP hD hS hl => ?_)
  refine lv_iload_n hx hb dX6_mend_69 rfl (lv_at hl 0 rfl) ?_
  cases h
  exact pw_iret hx hb hr hlocks hAe hQ hP hD hS dX6_mend_70
def fX6_set (ms : Nat → Int32) (mv : Nat → Int32) (svm : Int32) (a1 : Int32) (a2 : Int32) : Option (Int32 × Int32 × (Nat → Int32) × (Nat → Int32) × Int32) :=
  (fX6_in a1 0 2).bind fun x1 =>
  if x1 = 0 then
  (fX6_fails 1).bind fun (x10_1, x10_2) =>
  some (x10_1, x10_2, ms, mv, svm)
  else
  (if a1 = 0 then
  (fX6_in a2 0 239).bind fun x9 =>
  some x9
  else
  if a1 = 1 then
  (fX6_in a2 0 240).bind fun x8 =>
  some x8
  else
  (fX6_in a2 1 100).bind fun x7 =>
  some x7 : Option Int32).bind fun x2 =>
  if x2 = 0 then
  (fX6_fails 2).bind fun (x6_1, x6_2) =>
  some (x6_1, x6_2, ms, mv, svm)
  else
  (fX6_saves ms mv svm).bind fun (x3_1, x3_2) =>
  if oob (1 + a1) 253 then none else
  if oob (1 + a1) 253 then none else
  some ((ms ((1 + a1)).toNatClampNeg), 0, (upd ms ((1 + a1)).toNatClampNeg a2), x3_1, x3_2)
abbrev rmX6_set : Room := { frames := 1, cells := 0, slots := 0, locals := 22 }
set_option maxHeartbeats 4000000 in
set_option maxRecDepth 100000 in
theorem mX6_set (l : Launch) (D : va_G) (cI cO cJ : ClassId) (h6 h6_ms h6_mv h6_mb h6_mc h6_mg h6_mt h6_ml h6_mr : Nat) (sz : Nat) (thr : Int32) (ms : Nat → Int32) (mv : Nat → Int32) (svm : Int32) (mb : Nat → Int32) (mln : Int32) (mc : Nat → Int32) (mg : Nat → Int32) (mt : Nat → Int32) (ml : Nat → Int32) (mat : Int32) (wel : Int32) (mr : Nat → Int32) (rdm : Int32) (hsh : Int64) (a1 : Int32) (a2 : Int32) (z : Int32 × Int32 × (Nat → Int32) × (Nat → Int32) × Int32) (h : fX6_set ms mv svm a1 a2 = some z) : Met l yX6_set wsX6_set rmX6_set (pw_pre D (tyL cI cO cJ) [.ref h6, .int a1, .int a2] [(h6, .inr (6, [.int thr, .ref h6_ms, .ref h6_mv, .int svm, .ref h6_mb, .int mln, .ref h6_mc, .ref h6_mg, .ref h6_mt, .ref h6_ml, .int mat, .int wel, .ref h6_mr, .int rdm, .long hsh])), (h6_ms, .inl (cI, 253, .inl ms)), (h6_mv, .inl (cI, 1518, .inl mv)), (h6_mb, .inl (cI, 60, .inl mb)), (h6_mc, .inl (cI, 160, .inl mc)), (h6_mg, .inl (cI, 160, .inl mg)), (h6_mt, .inl (cI, 240, .inl mt)), (h6_ml, .inl (cI, 240, .inl ml)), (h6_mr, .inl (cI, 600, .inl mr))] sz) (pw_i D [(h6, .inr (6, [.int thr, .ref h6_ms, .ref h6_mv, .int svm, .ref h6_mb, .int mln, .ref h6_mc, .ref h6_mg, .ref h6_mt, .ref h6_ml, .int mat, .int wel, .ref h6_mr, .int rdm, .long hsh])), (h6_ms, .inl (cI, 253, .inl ms)), (h6_mv, .inl (cI, 1518, .inl mv)), (h6_mb, .inl (cI, 60, .inl mb)), (h6_mc, .inl (cI, 160, .inl mc)), (h6_mg, .inl (cI, 160, .inl mg)), (h6_mt, .inl (cI, 240, .inl mt)), (h6_ml, .inl (cI, 240, .inl ml)), (h6_mr, .inl (cI, 600, .inl mr))] [(h6, .inr (6, [.int z.2.1, .ref h6_ms, .ref h6_mv, .int z.2.2.2.2, .ref h6_mb, .int mln, .ref h6_mc, .ref h6_mg, .ref h6_mt, .ref h6_ml, .int mat, .int wel, .ref h6_mr, .int rdm, .long hsh])), (h6_ms, .inl (cI, 253, .inl z.2.2.1)), (h6_mv, .inl (cI, 1518, .inl z.2.2.2.1)), (h6_mb, .inl (cI, 60, .inl mb)), (h6_mc, .inl (cI, 160, .inl mc)), (h6_mg, .inl (cI, 160, .inl mg)), (h6_mt, .inl (cI, 240, .inl mt)), (h6_ml, .inl (cI, 240, .inl ml)), (h6_mr, .inl (cI, 600, .inl mr))] z.1 sz) 0 0 (va_A [(h6, .inr (6, [.int thr, .ref h6_ms, .ref h6_mv, .int svm, .ref h6_mb, .int mln, .ref h6_mc, .ref h6_mg, .ref h6_mt, .ref h6_ml, .int mat, .int wel, .ref h6_mr, .int rdm, .long hsh])), (h6_ms, .inl (cI, 253, .inl ms)), (h6_mv, .inl (cI, 1518, .inl mv)), (h6_mb, .inl (cI, 60, .inl mb)), (h6_mc, .inl (cI, 160, .inl mc)), (h6_mg, .inl (cI, 160, .inl mg)), (h6_mt, .inl (cI, 240, .inl mt)), (h6_ml, .inl (cI, 240, .inl ml)), (h6_mr, .inl (cI, 600, .inl mr))] sz) := by
  refine pw_of (Qc := fun sz => pw_i D [(h6, .inr (6, [.int thr, .ref h6_ms, .ref h6_mv, .int svm, .ref h6_mb, .int mln, .ref h6_mc, .ref h6_mg, .ref h6_mt, .ref h6_ml, .int mat, .int wel, .ref h6_mr, .int rdm, .long hsh])), (h6_ms, .inl (cI, 253, .inl ms)), (h6_mv, .inl (cI, 1518, .inl mv)), (h6_mb, .inl (cI, 60, .inl mb)), (h6_mc, .inl (cI, 160, .inl mc)), (h6_mg, .inl (cI, 160, .inl mg)), (h6_mt, .inl (cI, 240, .inl mt)), (h6_ml, .inl (cI, 240, .inl ml)), (h6_mr, .inl (cI, 600, .inl mr))] [(h6, .inr (6, [.int z.2.1, .ref h6_ms, .ref h6_mv, .int z.2.2.2.2, .ref h6_mb, .int mln, .ref h6_mc, .ref h6_mg, .ref h6_mt, .ref h6_ml, .int mat, .int wel, .ref h6_mr, .int rdm, .long hsh])), (h6_ms, .inl (cI, 253, .inl z.2.2.1)), (h6_mv, .inl (cI, 1518, .inl z.2.2.2.1)), (h6_mb, .inl (cI, 60, .inl mb)), (h6_mc, .inl (cI, 160, .inl mc)), (h6_mg, .inl (cI, 160, .inl mg)), (h6_mt, .inl (cI, 240, .inl mt)), (h6_ml, .inl (cI, 240, .inl ml)), (h6_mr, .inl (cI, 600, .inl mr))] z.1 sz) (cc := cX6_set) (maxL := 5) (ret := (some .int)) (by decide) rfl (Nat.le_of_ble_eq_true rfl) ?_
  intro p e s m args below meth c A Q H ls hx hb hml hr hts hown hlocks hAe hQ hK hN hA hP hD hS hl
  have hown : s.vm.findClass RX6 = some m.cls := hown
  have hl : lv_has ls 5 [(0, .ref h6), (1, .int a1), (2, .int a2)] := hl
  have hP : va_P D vwCl ([(h6, .inr (6, [.int thr, .ref h6_ms, .ref h6_mv, .int svm, .ref h6_mb, .int mln, .ref h6_mc, .ref h6_mg, .ref h6_mt, .ref h6_ml, .int mat, .int wel, .ref h6_mr, .int rdm, .long hsh])), (h6_ms, .inl (cI, 253, .inl ms)), (h6_mv, .inl (cI, 1518, .inl mv)), (h6_mb, .inl (cI, 60, .inl mb)), (h6_mc, .inl (cI, 160, .inl mc)), (h6_mg, .inl (cI, 160, .inl mg)), (h6_mt, .inl (cI, 240, .inl mt)), (h6_ml, .inl (cI, 240, .inl ml)), (h6_mr, .inl (cI, 600, .inl mr))] ++ []) H := hP
  have hD : va_D A ([(h6, .inr (6, [.int thr, .ref h6_ms, .ref h6_mv, .int svm, .ref h6_mb, .int mln, .ref h6_mc, .ref h6_mg, .ref h6_mt, .ref h6_ml, .int mat, .int wel, .ref h6_mr, .int rdm, .long hsh])), (h6_ms, .inl (cI, 253, .inl ms)), (h6_mv, .inl (cI, 1518, .inl mv)), (h6_mb, .inl (cI, 60, .inl mb)), (h6_mc, .inl (cI, 160, .inl mc)), (h6_mg, .inl (cI, 160, .inl mg)), (h6_mt, .inl (cI, 240, .inl mt)), (h6_ml, .inl (cI, 240, .inl ml)), (h6_mr, .inl (cI, 600, .inl mr))] ++ []) := hD
  have iX6 : ∀ w ∈ u_ws RX6 TX6 15, w ∈ wsX6_set := fun _ h => List.mem_cons_of_mem _ (List.mem_append_right _ h)
  unfold fX6_set at h
  refine lv_aload_n hx hb dX6_set_0 rfl (lv_at hl 0 rfl) ?_
  refine lv_iconst (v := 0) hx hb dX6_set_1 (by decide) ?_
  refine va_put (D := D) (ci := 6) (v := .int 0) (ty := .int) (C := RX6) (T := TX6) (N := 15) hx hb hts iX6 tyX6 tyX6_ok nmX6 hown hK hP hD hS 0 rfl rfl 0 (by decide) (hts (.fieldLink RX6 34 "HiddenPeriodsModel" "thrown" "I") (by decide +kernel)) (fun _ h9 => h9) rfl (by decide +kernel) rfl rfl (Nat.le_of_ble_eq_true rfl) dX6_set_2 (fun H locs hP hD hS => ?_)
  have hP : va_P D vwCl ([(h6, .inr (6, [.int 0, .ref h6_ms, .ref h6_mv, .int svm, .ref h6_mb, .int mln, .ref h6_mc, .ref h6_mg, .ref h6_mt, .ref h6_ml, .int mat, .int wel, .ref h6_mr, .int rdm, .long hsh])), (h6_ms, .inl (cI, 253, .inl ms)), (h6_mv, .inl (cI, 1518, .inl mv)), (h6_mb, .inl (cI, 60, .inl mb)), (h6_mc, .inl (cI, 160, .inl mc)), (h6_mg, .inl (cI, 160, .inl mg)), (h6_mt, .inl (cI, 240, .inl mt)), (h6_ml, .inl (cI, 240, .inl ml)), (h6_mr, .inl (cI, 600, .inl mr))] ++ []) H := hP
  have hD : va_D A ([(h6, .inr (6, [.int 0, .ref h6_ms, .ref h6_mv, .int svm, .ref h6_mb, .int mln, .ref h6_mc, .ref h6_mg, .ref h6_mt, .ref h6_ml, .int mat, .int wel, .ref h6_mr, .int rdm, .long hsh])), (h6_ms, .inl (cI, 253, .inl ms)), (h6_mv, .inl (cI, 1518, .inl mv)), (h6_mb, .inl (cI, 60, .inl mb)), (h6_mc, .inl (cI, 160, .inl mc)), (h6_mg, .inl (cI, 160, .inl mg)), (h6_mt, .inl (cI, 240, .inl mt)), (h6_ml, .inl (cI, 240, .inl ml)), (h6_mr, .inl (cI, 600, .inl mr))] ++ []) := hD
  refine lv_iload_n hx hb dX6_set_5 rfl (lv_at hl 1 rfl) ?_
  refine lv_iconst (v := 0) hx hb dX6_set_6 (by decide) ?_
  refine lv_iconst (v := 2) hx hb dX6_set_7 (by decide) ?_
  obtain ⟨x1, hx1, h⟩ := bnd h
  refine pw_go0 (va_runS (As := [.int a1, .int 0, .int 2]) (rest := []) ⟨hx, hb, hml, hown, hts⟩ (mX6_in l D cI cO cJ H.size a1 0 2 _ hx1) (va_cwS 3 hts gX6_set_X6_in rfl rfl rfl (by decide +kernel) ⟨Nat.le_of_ble_eq_true rfl, Nat.le_of_ble_eq_true rfl⟩) (pw_preS hK hN pw_nilP (pw_nilD (A := A))) rfl rfl hl.1 rfl (lv_room (Nat.le_of_ble_eq_true rfl)) dX6_set_8 ⟨Nat.zero_le _, Nat.zero_le _⟩) hP hS hA (fun H locs hP hS => ?_)
  refine lv_if_ne (tgt := 20) hx hb dX6_set_11 (by decide) (fun cq => ?_) (fun cq => ?_)
  · replace h := ifn cq h
    refine lv_iload_n hx hb dX6_set_20 rfl (lv_at hl 1 rfl) ?_
    obtain ⟨x2, hx2, h⟩ := bnd h
    have Jx2 : ∀ (H : Heap) (locs : List Loc) (ls : Array Slot), va_P D vwCl ([(h6, .inr (6, [.int 0, .ref h6_ms, .ref h6_mv, .int svm, .ref h6_mb, .int mln, .ref h6_mc, .ref h6_mg, .ref h6_mt, .ref h6_ml, .int mat, .int wel, .ref h6_mr, .int rdm, .long hsh])), (h6_ms, .inl (cI, 253, .inl ms)), (h6_mv, .inl (cI, 1518, .inl mv)), (h6_mb, .inl (cI, 60, .inl mb)), (h6_mc, .inl (cI, 160, .inl mc)), (h6_mg, .inl (cI, 160, .inl mg)), (h6_mt, .inl (cI, 240, .inl mt)), (h6_ml, .inl (cI, 240, .inl ml)), (h6_mr, .inl (cI, 600, .inl mr))] ++ []) H → va_D A ([(h6, .inr (6, [.int 0, .ref h6_ms, .ref h6_mv, .int svm, .ref h6_mb, .int mln, .ref h6_mc, .ref h6_mg, .ref h6_mt, .ref h6_ml, .int mat, .int wel, .ref h6_mr, .int rdm, .long hsh])), (h6_ms, .inl (cI, 253, .inl ms)), (h6_mv, .inl (cI, 1518, .inl mv)), (h6_mb, .inl (cI, 60, .inl mb)), (h6_mc, .inl (cI, 160, .inl mc)), (h6_mg, .inl (cI, 160, .inl mg)), (h6_mt, .inl (cI, 240, .inl mt)), (h6_ml, .inl (cI, 240, .inl ml)), (h6_mr, .inl (cI, 600, .inl mr))] ++ []) → va_S A s.heap H locs → lv_has ls 5 [(0, .ref h6), (1, .int a1), (2, .int a2)] → W p l e rmX6_set s m args below meth c H locs 0 0 Q (F0 m 58 ls [.int x2]) := by
      intro H locs ls hP hD hS hl
      refine lv_istore_n (lv' := [(3, .int x2), (0, .ref h6), (1, .int a1), (2, .int a2)]) hx hb dX6_set_58 rfl hl (by decide) rfl (fun ls hl => ?_)
      refine lv_iload_n hx hb dX6_set_59 rfl (lv_at hl 0 rfl) ?_
      refine lv_if_ne (tgt := 69) hx hb dX6_set_60 (by decide) (fun cq => ?_) (fun cq => ?_)
      · replace h := ifn cq h
        refine lv_aload_n hx hb dX6_set_69 rfl (lv_at hl 1 rfl) ?_
        obtain ⟨⟨x3_1, x3_2⟩, hx3, h⟩ := bnd h
        refine pw_gov (wc := [(h6, .inr (6, [.int 0, .ref h6_ms, .ref h6_mv, .int svm, .ref h6_mb, .int mln, .ref h6_mc, .ref h6_mg, .ref h6_mt, .ref h6_ml, .int mat, .int wel, .ref h6_mr, .int rdm, .long hsh])), (h6_ms, .inl (cI, 253, .inl ms)), (h6_mv, .inl (cI, 1518, .inl mv)), (h6_mb, .inl (cI, 60, .inl mb)), (h6_mc, .inl (cI, 160, .inl mc)), (h6_mg, .inl (cI, 160, .inl mg)), (h6_mt, .inl (cI, 240, .inl mt)), (h6_ml, .inl (cI, 240, .inl ml)), (h6_mr, .inl (cI, 600, .inl mr))]) (w1 := [(h6, .inr (6, [.int 0, .ref h6_ms, .ref h6_mv, .int x3_2, .ref h6_mb, .int mln, .ref h6_mc, .ref h6_mg, .ref h6_mt, .ref h6_ml, .int mat, .int wel, .ref h6_mr, .int rdm, .long hsh])), (h6_ms, .inl (cI, 253, .inl ms)), (h6_mv, .inl (cI, 1518, .inl x3_1)), (h6_mb, .inl (cI, 60, .inl mb)), (h6_mc, .inl (cI, 160, .inl mc)), (h6_mg, .inl (cI, 160, .inl mg)), (h6_mt, .inl (cI, 240, .inl mt)), (h6_ml, .inl (cI, 240, .inl ml)), (h6_mr, .inl (cI, 600, .inl mr))]) (w2 := [(h6, .inr (6, [.int 0, .ref h6_ms, .ref h6_mv, .int x3_2, .ref h6_mb, .int mln, .ref h6_mc, .ref h6_mg, .ref h6_mt, .ref h6_ml, .int mat, .int wel, .ref h6_mr, .int rdm, .long hsh])), (h6_ms, .inl (cI, 253, .inl ms)), (h6_mv, .inl (cI, 1518, .inl x3_1)), (h6_mb, .inl (cI, 60, .inl mb)), (h6_mc, .inl (cI, 160, .inl mc)), (h6_mg, .inl (cI, 160, .inl mg)), (h6_mt, .inl (cI, 240, .inl mt)), (h6_ml, .inl (cI, 240, .inl ml)), (h6_mr, .inl (cI, 600, .inl mr))]) (va_runV (As := []) (rest := []) ⟨hx, hb, hml, hown, hts⟩ (mX6_saves l D cI cO cJ h6 h6_ms h6_mv h6_mb h6_mc h6_mg h6_mt h6_ml h6_mr H.size 0 ms mv svm mb mln mc mg mt ml mat wel mr rdm hsh _ hx3) (cwV 0 hts gX6_set_X6_saves rfl rfl rfl (by decide +kernel) ⟨Nat.le_of_ble_eq_true rfl, Nat.le_of_ble_eq_true rfl⟩) (pw_preV hK hN (pw_sub hP [0, 1, 2, 3, 4, 5, 6, 7, 8] rfl) (pw_subD hD [0, 1, 2, 3, 4, 5, 6, 7, 8] (by decide) rfl) (ci := 6) (q0 := 0) rfl rfl) rfl rfl hl.1 rfl (lv_room (Nat.le_of_ble_eq_true rfl)) dX6_set_70 ⟨Nat.zero_le _, Nat.zero_le _⟩) hP hD hS hA [0, 1, 2, 3, 4, 5, 6, 7, 8] [] [0, 1, 2, 3, 4, 5, 6, 7, 8] rfl rfl (by decide) (by decide) (by decide) rfl (fun H locs hP hD hS => ?_)
        refine lv_aload_n hx hb dX6_set_73 rfl (lv_at hl 1 rfl) ?_
        refine va_get (D := D) (ci := 6) (v := .ref h6_ms) (C := RX6) (T := TX6) (N := 15) hx hb hts iX6 hown hK hP 0 rfl rfl 1 (by decide) (hts (.fieldLink RX6 7 "HiddenPeriodsModel" "s" "[I") (by decide +kernel)) (fun _ h9 => h9) rfl dX6_set_74 ?_
        refine lv_iconst (v := 1) hx hb dX6_set_77 (by decide) ?_
        refine lv_iload_n hx hb dX6_set_78 rfl (lv_at hl 2 rfl) ?_
        refine lv_iadd hx hb dX6_set_79 ?_
        obtain ⟨g4, h⟩ := gdn h
        refine va_iald hx hb hK hP 1 0 rfl rfl g4 dX6_set_80 ?_
        refine lv_istore (lv' := [(4, .int (ms ((1 + a1)).toNatClampNeg)), (3, .int x2), (0, .ref h6), (1, .int a1), (2, .int a2)]) hx hb dX6_set_81 hl (by decide) rfl (fun ls hl => ?_)
        refine lv_aload_n hx hb dX6_set_83 rfl (lv_at hl 2 rfl) ?_
        refine va_get (D := D) (ci := 6) (v := .ref h6_ms) (C := RX6) (T := TX6) (N := 15) hx hb hts iX6 hown hK hP 0 rfl rfl 1 (by decide) (hts (.fieldLink RX6 7 "HiddenPeriodsModel" "s" "[I") (by decide +kernel)) (fun _ h9 => h9) rfl dX6_set_84 ?_
        refine lv_iconst (v := 1) hx hb dX6_set_87 (by decide) ?_
        refine lv_iload_n hx hb dX6_set_88 rfl (lv_at hl 3 rfl) ?_
        refine lv_iadd hx hb dX6_set_89 ?_
        refine lv_iload_n hx hb dX6_set_90 rfl (lv_at hl 4 rfl) ?_
        obtain ⟨g5, h⟩ := gdn h
        refine va_iast hx hb hK hP hD hS 1 0 rfl rfl g5 dX6_set_91 (fun H locs hP hD hS => ?_)
        have hP : va_P D vwCl ([(h6, .inr (6, [.int 0, .ref h6_ms, .ref h6_mv, .int x3_2, .ref h6_mb, .int mln, .ref h6_mc, .ref h6_mg, .ref h6_mt, .ref h6_ml, .int mat, .int wel, .ref h6_mr, .int rdm, .long hsh])), (h6_ms, .inl (cI, 253, .inl (upd ms ((1 + a1)).toNatClampNeg a2))), (h6_mv, .inl (cI, 1518, .inl x3_1)), (h6_mb, .inl (cI, 60, .inl mb)), (h6_mc, .inl (cI, 160, .inl mc)), (h6_mg, .inl (cI, 160, .inl mg)), (h6_mt, .inl (cI, 240, .inl mt)), (h6_ml, .inl (cI, 240, .inl ml)), (h6_mr, .inl (cI, 600, .inl mr))] ++ []) H := hP
        have hD : va_D A ([(h6, .inr (6, [.int 0, .ref h6_ms, .ref h6_mv, .int x3_2, .ref h6_mb, .int mln, .ref h6_mc, .ref h6_mg, .ref h6_mt, .ref h6_ml, .int mat, .int wel, .ref h6_mr, .int rdm, .long hsh])), (h6_ms, .inl (cI, 253, .inl (upd ms ((1 + a1)).toNatClampNeg a2))), (h6_mv, .inl (cI, 1518, .inl x3_1)), (h6_mb, .inl (cI, 60, .inl mb)), (h6_mc, .inl (cI, 160, .inl mc)), (h6_mg, .inl (cI, 160, .inl mg)), (h6_mt, .inl (cI, 240, .inl mt)), (h6_ml, .inl (cI, 240, .inl ml)), (h6_mr, .inl (cI, 600, .inl mr))] ++ []) := hD
        refine lv_iload hx hb dX6_set_92 (lv_at hl 0 rfl) ?_
        cases h
        exact pw_iret hx hb hr hlocks hAe hQ hP hD hS dX6_set_94
      · replace h := ifp cq h
        refine lv_aload_n hx hb dX6_set_63 rfl (lv_at hl 1 rfl) ?_
        refine lv_iconst (v := 2) hx hb dX6_set_64 (by decide) ?_
        obtain ⟨⟨x6_1, x6_2⟩, hx6, h⟩ := bnd h
        refine pw_goi (wc := [(h6, .inr (6, [.int 0, .ref h6_ms, .ref h6_mv, .int svm, .ref h6_mb, .int mln, .ref h6_mc, .ref h6_mg, .ref h6_mt, .ref h6_ml, .int mat, .int wel, .ref h6_mr, .int rdm, .long hsh])), (h6_ms, .inl (cI, 253, .inl ms)), (h6_mv, .inl (cI, 1518, .inl mv)), (h6_mb, .inl (cI, 60, .inl mb)), (h6_mc, .inl (cI, 160, .inl mc)), (h6_mg, .inl (cI, 160, .inl mg)), (h6_mt, .inl (cI, 240, .inl mt)), (h6_ml, .inl (cI, 240, .inl ml)), (h6_mr, .inl (cI, 600, .inl mr))]) (w1 := [(h6, .inr (6, [.int x6_2, .ref h6_ms, .ref h6_mv, .int svm, .ref h6_mb, .int mln, .ref h6_mc, .ref h6_mg, .ref h6_mt, .ref h6_ml, .int mat, .int wel, .ref h6_mr, .int rdm, .long hsh])), (h6_ms, .inl (cI, 253, .inl ms)), (h6_mv, .inl (cI, 1518, .inl mv)), (h6_mb, .inl (cI, 60, .inl mb)), (h6_mc, .inl (cI, 160, .inl mc)), (h6_mg, .inl (cI, 160, .inl mg)), (h6_mt, .inl (cI, 240, .inl mt)), (h6_ml, .inl (cI, 240, .inl ml)), (h6_mr, .inl (cI, 600, .inl mr))]) (w2 := [(h6, .inr (6, [.int x6_2, .ref h6_ms, .ref h6_mv, .int svm, .ref h6_mb, .int mln, .ref h6_mc, .ref h6_mg, .ref h6_mt, .ref h6_ml, .int mat, .int wel, .ref h6_mr, .int rdm, .long hsh])), (h6_ms, .inl (cI, 253, .inl ms)), (h6_mv, .inl (cI, 1518, .inl mv)), (h6_mb, .inl (cI, 60, .inl mb)), (h6_mc, .inl (cI, 160, .inl mc)), (h6_mg, .inl (cI, 160, .inl mg)), (h6_mt, .inl (cI, 240, .inl mt)), (h6_ml, .inl (cI, 240, .inl ml)), (h6_mr, .inl (cI, 600, .inl mr))]) (va_runV (As := [.int 2]) (rest := []) ⟨hx, hb, hml, hown, hts⟩ (mX6_fails l D cI cO cJ h6 h6_ms h6_mv h6_mb h6_mc h6_mg h6_mt h6_ml h6_mr H.size 0 ms mv svm mb mln mc mg mt ml mat wel mr rdm hsh 2 _ hx6) (cwV 1 hts gX6_set_X6_fails rfl rfl rfl (by decide +kernel) ⟨Nat.le_of_ble_eq_true rfl, Nat.le_of_ble_eq_true rfl⟩) (pw_preV hK hN (pw_sub hP [0, 1, 2, 3, 4, 5, 6, 7, 8] rfl) (pw_subD hD [0, 1, 2, 3, 4, 5, 6, 7, 8] (by decide) rfl) (ci := 6) (q0 := 0) rfl rfl) rfl rfl hl.1 rfl (lv_room (Nat.le_of_ble_eq_true rfl)) dX6_set_65 ⟨Nat.zero_le _, Nat.zero_le _⟩) hP hD hS hA [0, 1, 2, 3, 4, 5, 6, 7, 8] [] [0, 1, 2, 3, 4, 5, 6, 7, 8] rfl rfl (by decide) (by decide) (by decide) rfl (fun H locs hP hD hS => ?_)
        cases h
        exact pw_iret hx hb hr hlocks hAe hQ hP hD hS dX6_set_68
    replace h := hx2
    refine lv_if_ne (tgt := 35) hx hb dX6_set_21 (by decide) (fun cq => ?_) (fun cq => ?_)
    · replace h := ifn cq h
      refine lv_iload_n hx hb dX6_set_35 rfl (lv_at hl 1 rfl) ?_
      refine lv_iconst (v := 1) hx hb dX6_set_36 (by decide) ?_
      refine lv_icmp_ne (tgt := 51) hx hb dX6_set_37 (by decide) (fun cq => ?_) (fun cq => ?_)
      · replace h := ifn cq h
        refine lv_iload_n hx hb dX6_set_51 rfl (lv_at hl 2 rfl) ?_
        refine lv_iconst (v := 1) hx hb dX6_set_52 (by decide) ?_
        refine lv_bipush (v := 100) hx hb dX6_set_53 (by decide) ?_
        obtain ⟨x7, hx7, h⟩ := bnd h
        refine pw_go0 (va_runS (As := [.int a2, .int 1, .int 100]) (rest := []) ⟨hx, hb, hml, hown, hts⟩ (mX6_in l D cI cO cJ H.size a2 1 100 _ hx7) (va_cwS 3 hts gX6_set_X6_in rfl rfl rfl (by decide +kernel) ⟨Nat.le_of_ble_eq_true rfl, Nat.le_of_ble_eq_true rfl⟩) (pw_preS hK hN pw_nilP (pw_nilD (A := A))) rfl rfl hl.1 rfl (lv_room (Nat.le_of_ble_eq_true rfl)) dX6_set_55 ⟨Nat.zero_le _, Nat.zero_le _⟩) hP hS hA (fun H locs hP hS => ?_)
        cases h
        exact Jx2 _ _ _ hP hD hS (lv_sub hl [0, 1, 2] rfl)
      · replace h := ifp cq h
        refine lv_iload_n hx hb dX6_set_40 rfl (lv_at hl 2 rfl) ?_
        refine lv_iconst (v := 0) hx hb dX6_set_41 (by decide) ?_
        refine lv_sipush (v := 240) hx hb dX6_set_42 (by decide) ?_
        obtain ⟨x8, hx8, h⟩ := bnd h
        refine pw_go0 (va_runS (As := [.int a2, .int 0, .int 240]) (rest := []) ⟨hx, hb, hml, hown, hts⟩ (mX6_in l D cI cO cJ H.size a2 0 240 _ hx8) (va_cwS 3 hts gX6_set_X6_in rfl rfl rfl (by decide +kernel) ⟨Nat.le_of_ble_eq_true rfl, Nat.le_of_ble_eq_true rfl⟩) (pw_preS hK hN pw_nilP (pw_nilD (A := A))) rfl rfl hl.1 rfl (lv_room (Nat.le_of_ble_eq_true rfl)) dX6_set_45 ⟨Nat.zero_le _, Nat.zero_le _⟩) hP hS hA (fun H locs hP hS => ?_)
        refine lv_goto (tgt := 58) hx hb dX6_set_48 (by decide) ?_
        cases h
        exact Jx2 _ _ _ hP hD hS (lv_sub hl [0, 1, 2] rfl)
    · replace h := ifp cq h
      refine lv_iload_n hx hb dX6_set_24 rfl (lv_at hl 2 rfl) ?_
      refine lv_iconst (v := 0) hx hb dX6_set_25 (by decide) ?_
      refine lv_sipush (v := 239) hx hb dX6_set_26 (by decide) ?_
      obtain ⟨x9, hx9, h⟩ := bnd h
      refine pw_go0 (va_runS (As := [.int a2, .int 0, .int 239]) (rest := []) ⟨hx, hb, hml, hown, hts⟩ (mX6_in l D cI cO cJ H.size a2 0 239 _ hx9) (va_cwS 3 hts gX6_set_X6_in rfl rfl rfl (by decide +kernel) ⟨Nat.le_of_ble_eq_true rfl, Nat.le_of_ble_eq_true rfl⟩) (pw_preS hK hN pw_nilP (pw_nilD (A := A))) rfl rfl hl.1 rfl (lv_room (Nat.le_of_ble_eq_true rfl)) dX6_set_29 ⟨Nat.zero_le _, Nat.zero_le _⟩) hP hS hA (fun H locs hP hS => ?_)
      refine lv_goto (tgt := 58) hx hb dX6_set_32 (by decide) ?_
      cases h
      exact Jx2 _ _ _ hP hD hS (lv_sub hl [0, 1, 2] rfl)
  · replace h := ifp cq h
    refine lv_aload_n hx hb dX6_set_14 rfl (lv_at hl 0 rfl) ?_
    refine lv_iconst (v := 1) hx hb dX6_set_15 (by decide) ?_
    obtain ⟨⟨x10_1, x10_2⟩, hx10, h⟩ := bnd h
    refine pw_goi (wc := [(h6, .inr (6, [.int 0, .ref h6_ms, .ref h6_mv, .int svm, .ref h6_mb, .int mln, .ref h6_mc, .ref h6_mg, .ref h6_mt, .ref h6_ml, .int mat, .int wel, .ref h6_mr, .int rdm, .long hsh])), (h6_ms, .inl (cI, 253, .inl ms)), (h6_mv, .inl (cI, 1518, .inl mv)), (h6_mb, .inl (cI, 60, .inl mb)), (h6_mc, .inl (cI, 160, .inl mc)), (h6_mg, .inl (cI, 160, .inl mg)), (h6_mt, .inl (cI, 240, .inl mt)), (h6_ml, .inl (cI, 240, .inl ml)), (h6_mr, .inl (cI, 600, .inl mr))]) (w1 := [(h6, .inr (6, [.int x10_2, .ref h6_ms, .ref h6_mv, .int svm, .ref h6_mb, .int mln, .ref h6_mc, .ref h6_mg, .ref h6_mt, .ref h6_ml, .int mat, .int wel, .ref h6_mr, .int rdm, .long hsh])), (h6_ms, .inl (cI, 253, .inl ms)), (h6_mv, .inl (cI, 1518, .inl mv)), (h6_mb, .inl (cI, 60, .inl mb)), (h6_mc, .inl (cI, 160, .inl mc)), (h6_mg, .inl (cI, 160, .inl mg)), (h6_mt, .inl (cI, 240, .inl mt)), (h6_ml, .inl (cI, 240, .inl ml)), (h6_mr, .inl (cI, 600, .inl mr))]) (w2 := [(h6, .inr (6, [.int x10_2, .ref h6_ms, .ref h6_mv, .int svm, .ref h6_mb, .int mln, .ref h6_mc, .ref h6_mg, .ref h6_mt, .ref h6_ml, .int mat, .int wel, .ref h6_mr, .int rdm, .long hsh])), (h6_ms, .inl (cI, 253, .inl ms)), (h6_mv, .inl (cI, 1518, .inl mv)), (h6_mb, .inl (cI, 60, .inl mb)), (h6_mc, .inl (cI, 160, .inl mc)), (h6_mg, .inl (cI, 160, .inl mg)), (h6_mt, .inl (cI, 240, .inl mt)), (h6_ml, .inl (cI, 240, .inl ml)), (h6_mr, .inl (cI, 600, .inl mr))]) (va_runV (As := [.int 1]) (rest := []) ⟨hx, hb, hml, hown, hts⟩ (mX6_fails l D cI cO cJ h6 h6_ms h6_mv h6_mb h6_mc h6_mg h6_mt h6_ml h6_mr H.size 0 ms mv svm mb mln mc mg mt ml mat wel mr rdm hsh 1 _ hx10) (cwV 1 hts gX6_set_X6_fails rfl rfl rfl (by decide +kernel) ⟨Nat.le_of_ble_eq_true rfl, Nat.le_of_ble_eq_true rfl⟩) (pw_preV hK hN (pw_sub hP [0, 1, 2, 3, 4, 5, 6, 7, 8] rfl) (pw_subD hD [0, 1, 2, 3, 4, 5, 6, 7, 8] (by decide) rfl) (ci := 6) (q0 := 0) rfl rfl) rfl rfl hl.1 rfl (lv_room (Nat.le_of_ble_eq_true rfl)) dX6_set_16 ⟨Nat.zero_le _, Nat.zero_le _⟩) hP hD hS hA [0, 1, 2, 3, 4, 5, 6, 7, 8] [] [0, 1, 2, 3, 4, 5, 6, 7, 8] rfl rfl (by decide) (by decide) (by decide) rfl (fun H locs hP hD hS => ?_)
    cases h
    exact pw_iret hx hb hr hlocks hAe hQ hP hD hS dX6_set_19
def fX6_append (mb : Nat → Int32) (mln : Int32) (a1 : Int32) : Option (Int32 × Int32 × (Nat → Int32) × Int32) :=
  (fX6_in a1 33 126).bind fun x1 =>
  if x1 = 0 then
  (fX6_fails 1).bind fun (x4_1, x4_2) =>
  some (x4_1, x4_2, mb, mln)
  else
  if mln = 60 then
  (fX6_fails 2).bind fun (x3_1, x3_2) =>
  some (x3_1, x3_2, mb, mln)
  else
  if oob mln 60 then none else
  some ((mln + 1), 0, (upd mb mln.toNatClampNeg a1), (mln + 1))
abbrev rmX6_append : Room := { frames := 1, cells := 0, slots := 0, locals := 22 }
set_option maxHeartbeats 4000000 in
set_option maxRecDepth 100000 in
theorem mX6_append (l : Launch) (D : va_G) (cI cO cJ : ClassId) (h6 h6_ms h6_mv h6_mb h6_mc h6_mg h6_mt h6_ml h6_mr : Nat) (sz : Nat) (thr : Int32) (ms : Nat → Int32) (mv : Nat → Int32) (svm : Int32) (mb : Nat → Int32) (mln : Int32) (mc : Nat → Int32) (mg : Nat → Int32) (mt : Nat → Int32) (ml : Nat → Int32) (mat : Int32) (wel : Int32) (mr : Nat → Int32) (rdm : Int32) (hsh : Int64) (a1 : Int32) (z : Int32 × Int32 × (Nat → Int32) × Int32) (h : fX6_append mb mln a1 = some z) : Met l yX6_append wsX6_append rmX6_append (pw_pre D (tyL cI cO cJ) [.ref h6, .int a1] [(h6, .inr (6, [.int thr, .ref h6_ms, .ref h6_mv, .int svm, .ref h6_mb, .int mln, .ref h6_mc, .ref h6_mg, .ref h6_mt, .ref h6_ml, .int mat, .int wel, .ref h6_mr, .int rdm, .long hsh])), (h6_ms, .inl (cI, 253, .inl ms)), (h6_mv, .inl (cI, 1518, .inl mv)), (h6_mb, .inl (cI, 60, .inl mb)), (h6_mc, .inl (cI, 160, .inl mc)), (h6_mg, .inl (cI, 160, .inl mg)), (h6_mt, .inl (cI, 240, .inl mt)), (h6_ml, .inl (cI, 240, .inl ml)), (h6_mr, .inl (cI, 600, .inl mr))] sz) (pw_i D [(h6, .inr (6, [.int thr, .ref h6_ms, .ref h6_mv, .int svm, .ref h6_mb, .int mln, .ref h6_mc, .ref h6_mg, .ref h6_mt, .ref h6_ml, .int mat, .int wel, .ref h6_mr, .int rdm, .long hsh])), (h6_ms, .inl (cI, 253, .inl ms)), (h6_mv, .inl (cI, 1518, .inl mv)), (h6_mb, .inl (cI, 60, .inl mb)), (h6_mc, .inl (cI, 160, .inl mc)), (h6_mg, .inl (cI, 160, .inl mg)), (h6_mt, .inl (cI, 240, .inl mt)), (h6_ml, .inl (cI, 240, .inl ml)), (h6_mr, .inl (cI, 600, .inl mr))] [(h6, .inr (6, [.int z.2.1, .ref h6_ms, .ref h6_mv, .int svm, .ref h6_mb, .int z.2.2.2, .ref h6_mc, .ref h6_mg, .ref h6_mt, .ref h6_ml, .int mat, .int wel, .ref h6_mr, .int rdm, .long hsh])), (h6_ms, .inl (cI, 253, .inl ms)), (h6_mv, .inl (cI, 1518, .inl mv)), (h6_mb, .inl (cI, 60, .inl z.2.2.1)), (h6_mc, .inl (cI, 160, .inl mc)), (h6_mg, .inl (cI, 160, .inl mg)), (h6_mt, .inl (cI, 240, .inl mt)), (h6_ml, .inl (cI, 240, .inl ml)), (h6_mr, .inl (cI, 600, .inl mr))] z.1 sz) 0 0 (va_A [(h6, .inr (6, [.int thr, .ref h6_ms, .ref h6_mv, .int svm, .ref h6_mb, .int mln, .ref h6_mc, .ref h6_mg, .ref h6_mt, .ref h6_ml, .int mat, .int wel, .ref h6_mr, .int rdm, .long hsh])), (h6_ms, .inl (cI, 253, .inl ms)), (h6_mv, .inl (cI, 1518, .inl mv)), (h6_mb, .inl (cI, 60, .inl mb)), (h6_mc, .inl (cI, 160, .inl mc)), (h6_mg, .inl (cI, 160, .inl mg)), (h6_mt, .inl (cI, 240, .inl mt)), (h6_ml, .inl (cI, 240, .inl ml)), (h6_mr, .inl (cI, 600, .inl mr))] sz) := by
  refine pw_of (Qc := fun sz => pw_i D [(h6, .inr (6, [.int thr, .ref h6_ms, .ref h6_mv, .int svm, .ref h6_mb, .int mln, .ref h6_mc, .ref h6_mg, .ref h6_mt, .ref h6_ml, .int mat, .int wel, .ref h6_mr, .int rdm, .long hsh])), (h6_ms, .inl (cI, 253, .inl ms)), (h6_mv, .inl (cI, 1518, .inl mv)), (h6_mb, .inl (cI, 60, .inl mb)), (h6_mc, .inl (cI, 160, .inl mc)), (h6_mg, .inl (cI, 160, .inl mg)), (h6_mt, .inl (cI, 240, .inl mt)), (h6_ml, .inl (cI, 240, .inl ml)), (h6_mr, .inl (cI, 600, .inl mr))] [(h6, .inr (6, [.int z.2.1, .ref h6_ms, .ref h6_mv, .int svm, .ref h6_mb, .int z.2.2.2, .ref h6_mc, .ref h6_mg, .ref h6_mt, .ref h6_ml, .int mat, .int wel, .ref h6_mr, .int rdm, .long hsh])), (h6_ms, .inl (cI, 253, .inl ms)), (h6_mv, .inl (cI, 1518, .inl mv)), (h6_mb, .inl (cI, 60, .inl z.2.2.1)), (h6_mc, .inl (cI, 160, .inl mc)), (h6_mg, .inl (cI, 160, .inl mg)), (h6_mt, .inl (cI, 240, .inl mt)), (h6_ml, .inl (cI, 240, .inl ml)), (h6_mr, .inl (cI, 600, .inl mr))] z.1 sz) (cc := cX6_append) (maxL := 2) (ret := (some .int)) (by decide) rfl (Nat.le_of_ble_eq_true rfl) ?_
  intro p e s m args below meth c A Q H ls hx hb hml hr hts hown hlocks hAe hQ hK hN hA hP hD hS hl
  have hown : s.vm.findClass RX6 = some m.cls := hown
  have hl : lv_has ls 2 [(0, .ref h6), (1, .int a1)] := hl
  have hP : va_P D vwCl ([(h6, .inr (6, [.int thr, .ref h6_ms, .ref h6_mv, .int svm, .ref h6_mb, .int mln, .ref h6_mc, .ref h6_mg, .ref h6_mt, .ref h6_ml, .int mat, .int wel, .ref h6_mr, .int rdm, .long hsh])), (h6_ms, .inl (cI, 253, .inl ms)), (h6_mv, .inl (cI, 1518, .inl mv)), (h6_mb, .inl (cI, 60, .inl mb)), (h6_mc, .inl (cI, 160, .inl mc)), (h6_mg, .inl (cI, 160, .inl mg)), (h6_mt, .inl (cI, 240, .inl mt)), (h6_ml, .inl (cI, 240, .inl ml)), (h6_mr, .inl (cI, 600, .inl mr))] ++ []) H := hP
  have hD : va_D A ([(h6, .inr (6, [.int thr, .ref h6_ms, .ref h6_mv, .int svm, .ref h6_mb, .int mln, .ref h6_mc, .ref h6_mg, .ref h6_mt, .ref h6_ml, .int mat, .int wel, .ref h6_mr, .int rdm, .long hsh])), (h6_ms, .inl (cI, 253, .inl ms)), (h6_mv, .inl (cI, 1518, .inl mv)), (h6_mb, .inl (cI, 60, .inl mb)), (h6_mc, .inl (cI, 160, .inl mc)), (h6_mg, .inl (cI, 160, .inl mg)), (h6_mt, .inl (cI, 240, .inl mt)), (h6_ml, .inl (cI, 240, .inl ml)), (h6_mr, .inl (cI, 600, .inl mr))] ++ []) := hD
  have iX6 : ∀ w ∈ u_ws RX6 TX6 15, w ∈ wsX6_append := fun _ h => List.mem_cons_of_mem _ (List.mem_append_right _ h)
  unfold fX6_append at h
  refine lv_aload_n hx hb dX6_append_0 rfl (lv_at hl 0 rfl) ?_
  refine lv_iconst (v := 0) hx hb dX6_append_1 (by decide) ?_
  refine va_put (D := D) (ci := 6) (v := .int 0) (ty := .int) (C := RX6) (T := TX6) (N := 15) hx hb hts iX6 tyX6 tyX6_ok nmX6 hown hK hP hD hS 0 rfl rfl 0 (by decide) (hts (.fieldLink RX6 34 "HiddenPeriodsModel" "thrown" "I") (by decide +kernel)) (fun _ h9 => h9) rfl (by decide +kernel) rfl rfl (Nat.le_of_ble_eq_true rfl) dX6_append_2 (fun H locs hP hD hS => ?_)
  have hP : va_P D vwCl ([(h6, .inr (6, [.int 0, .ref h6_ms, .ref h6_mv, .int svm, .ref h6_mb, .int mln, .ref h6_mc, .ref h6_mg, .ref h6_mt, .ref h6_ml, .int mat, .int wel, .ref h6_mr, .int rdm, .long hsh])), (h6_ms, .inl (cI, 253, .inl ms)), (h6_mv, .inl (cI, 1518, .inl mv)), (h6_mb, .inl (cI, 60, .inl mb)), (h6_mc, .inl (cI, 160, .inl mc)), (h6_mg, .inl (cI, 160, .inl mg)), (h6_mt, .inl (cI, 240, .inl mt)), (h6_ml, .inl (cI, 240, .inl ml)), (h6_mr, .inl (cI, 600, .inl mr))] ++ []) H := hP
  have hD : va_D A ([(h6, .inr (6, [.int 0, .ref h6_ms, .ref h6_mv, .int svm, .ref h6_mb, .int mln, .ref h6_mc, .ref h6_mg, .ref h6_mt, .ref h6_ml, .int mat, .int wel, .ref h6_mr, .int rdm, .long hsh])), (h6_ms, .inl (cI, 253, .inl ms)), (h6_mv, .inl (cI, 1518, .inl mv)), (h6_mb, .inl (cI, 60, .inl mb)), (h6_mc, .inl (cI, 160, .inl mc)), (h6_mg, .inl (cI, 160, .inl mg)), (h6_mt, .inl (cI, 240, .inl mt)), (h6_ml, .inl (cI, 240, .inl ml)), (h6_mr, .inl (cI, 600, .inl mr))] ++ []) := hD
  refine lv_iload_n hx hb dX6_append_5 rfl (lv_at hl 1 rfl) ?_
  refine lv_bipush (v := 33) hx hb dX6_append_6 (by decide) ?_
  refine lv_bipush (v := 126) hx hb dX6_append_8 (by decide) ?_
  obtain ⟨x1, hx1, h⟩ := bnd h
  refine pw_go0 (va_runS (As := [.int a1, .int 33, .int 126]) (rest := []) ⟨hx, hb, hml, hown, hts⟩ (mX6_in l D cI cO cJ H.size a1 33 126 _ hx1) (va_cwS 3 hts gX6_append_X6_in rfl rfl rfl (by decide +kernel) ⟨Nat.le_of_ble_eq_true rfl, Nat.le_of_ble_eq_true rfl⟩) (pw_preS hK hN pw_nilP (pw_nilD (A := A))) rfl rfl hl.1 rfl (lv_room (Nat.le_of_ble_eq_true rfl)) dX6_append_10 ⟨Nat.zero_le _, Nat.zero_le _⟩) hP hS hA (fun H locs hP hS => ?_)
  refine lv_if_ne (tgt := 22) hx hb dX6_append_13 (by decide) (fun cq => ?_) (fun cq => ?_)
  · replace h := ifn cq h
    refine lv_aload_n hx hb dX6_append_22 rfl (lv_at hl 0 rfl) ?_
    refine va_get (D := D) (ci := 6) (v := .int mln) (C := RX6) (T := TX6) (N := 15) hx hb hts iX6 hown hK hP 0 rfl rfl 5 (by decide) (hts (.fieldLink RX6 117 "HiddenPeriodsModel" "length" "I") (by decide +kernel)) (fun _ h9 => h9) rfl dX6_append_23 ?_
    refine lv_bipush (v := 60) hx hb dX6_append_26 (by decide) ?_
    refine lv_icmp_ne (tgt := 37) hx hb dX6_append_28 (by decide) (fun cq => ?_) (fun cq => ?_)
    · replace h := ifn cq h
      refine lv_aload_n hx hb dX6_append_37 rfl (lv_at hl 0 rfl) ?_
      refine va_get (D := D) (ci := 6) (v := .ref h6_mb) (C := RX6) (T := TX6) (N := 15) hx hb hts iX6 hown hK hP 0 rfl rfl 4 (by decide) (hts (.fieldLink RX6 16 "HiddenPeriodsModel" "buffer" "[I") (by decide +kernel)) (fun _ h9 => h9) rfl dX6_append_38 ?_
      refine lv_aload_n hx hb dX6_append_41 rfl (lv_at hl 0 rfl) ?_
      refine va_get (D := D) (ci := 6) (v := .int mln) (C := RX6) (T := TX6) (N := 15) hx hb hts iX6 hown hK hP 0 rfl rfl 5 (by decide) (hts (.fieldLink RX6 117 "HiddenPeriodsModel" "length" "I") (by decide +kernel)) (fun _ h9 => h9) rfl dX6_append_42 ?_
      refine lv_iload_n hx hb dX6_append_45 rfl (lv_at hl 1 rfl) ?_
      obtain ⟨g2, h⟩ := gdn h
      refine va_iast hx hb hK hP hD hS 3 0 rfl rfl g2 dX6_append_46 (fun H locs hP hD hS => ?_)
      have hP : va_P D vwCl ([(h6, .inr (6, [.int 0, .ref h6_ms, .ref h6_mv, .int svm, .ref h6_mb, .int mln, .ref h6_mc, .ref h6_mg, .ref h6_mt, .ref h6_ml, .int mat, .int wel, .ref h6_mr, .int rdm, .long hsh])), (h6_ms, .inl (cI, 253, .inl ms)), (h6_mv, .inl (cI, 1518, .inl mv)), (h6_mb, .inl (cI, 60, .inl (upd mb mln.toNatClampNeg a1))), (h6_mc, .inl (cI, 160, .inl mc)), (h6_mg, .inl (cI, 160, .inl mg)), (h6_mt, .inl (cI, 240, .inl mt)), (h6_ml, .inl (cI, 240, .inl ml)), (h6_mr, .inl (cI, 600, .inl mr))] ++ []) H := hP
      have hD : va_D A ([(h6, .inr (6, [.int 0, .ref h6_ms, .ref h6_mv, .int svm, .ref h6_mb, .int mln, .ref h6_mc, .ref h6_mg, .ref h6_mt, .ref h6_ml, .int mat, .int wel, .ref h6_mr, .int rdm, .long hsh])), (h6_ms, .inl (cI, 253, .inl ms)), (h6_mv, .inl (cI, 1518, .inl mv)), (h6_mb, .inl (cI, 60, .inl (upd mb mln.toNatClampNeg a1))), (h6_mc, .inl (cI, 160, .inl mc)), (h6_mg, .inl (cI, 160, .inl mg)), (h6_mt, .inl (cI, 240, .inl mt)), (h6_ml, .inl (cI, 240, .inl ml)), (h6_mr, .inl (cI, 600, .inl mr))] ++ []) := hD
      refine lv_aload_n hx hb dX6_append_47 rfl (lv_at hl 0 rfl) ?_
      refine lv_dup hx hb dX6_append_48 rfl ?_
      refine va_get (D := D) (ci := 6) (v := .int mln) (C := RX6) (T := TX6) (N := 15) hx hb hts iX6 hown hK hP 0 rfl rfl 5 (by decide) (hts (.fieldLink RX6 117 "HiddenPeriodsModel" "length" "I") (by decide +kernel)) (fun _ h9 => h9) rfl dX6_append_49 ?_
      refine lv_iconst (v := 1) hx hb dX6_append_52 (by decide) ?_
      refine lv_iadd hx hb dX6_append_53 ?_
      refine va_put (D := D) (ci := 6) (v := .int (mln + 1)) (ty := .int) (C := RX6) (T := TX6) (N := 15) hx hb hts iX6 tyX6 tyX6_ok nmX6 hown hK hP hD hS 0 rfl rfl 5 (by decide) (hts (.fieldLink RX6 117 "HiddenPeriodsModel" "length" "I") (by decide +kernel)) (fun _ h9 => h9) rfl (by decide +kernel) rfl rfl (Nat.le_of_ble_eq_true rfl) dX6_append_54 (fun H locs hP hD hS => ?_)
      have hP : va_P D vwCl ([(h6, .inr (6, [.int 0, .ref h6_ms, .ref h6_mv, .int svm, .ref h6_mb, .int (mln + 1), .ref h6_mc, .ref h6_mg, .ref h6_mt, .ref h6_ml, .int mat, .int wel, .ref h6_mr, .int rdm, .long hsh])), (h6_ms, .inl (cI, 253, .inl ms)), (h6_mv, .inl (cI, 1518, .inl mv)), (h6_mb, .inl (cI, 60, .inl (upd mb mln.toNatClampNeg a1))), (h6_mc, .inl (cI, 160, .inl mc)), (h6_mg, .inl (cI, 160, .inl mg)), (h6_mt, .inl (cI, 240, .inl mt)), (h6_ml, .inl (cI, 240, .inl ml)), (h6_mr, .inl (cI, 600, .inl mr))] ++ []) H := hP
      have hD : va_D A ([(h6, .inr (6, [.int 0, .ref h6_ms, .ref h6_mv, .int svm, .ref h6_mb, .int (mln + 1), .ref h6_mc, .ref h6_mg, .ref h6_mt, .ref h6_ml, .int mat, .int wel, .ref h6_mr, .int rdm, .long hsh])), (h6_ms, .inl (cI, 253, .inl ms)), (h6_mv, .inl (cI, 1518, .inl mv)), (h6_mb, .inl (cI, 60, .inl (upd mb mln.toNatClampNeg a1))), (h6_mc, .inl (cI, 160, .inl mc)), (h6_mg, .inl (cI, 160, .inl mg)), (h6_mt, .inl (cI, 240, .inl mt)), (h6_ml, .inl (cI, 240, .inl ml)), (h6_mr, .inl (cI, 600, .inl mr))] ++ []) := hD
      refine lv_aload_n hx hb dX6_append_57 rfl (lv_at hl 0 rfl) ?_
      refine va_get (D := D) (ci := 6) (v := .int (mln + 1)) (C := RX6) (T := TX6) (N := 15) hx hb hts iX6 hown hK hP 0 rfl rfl 5 (by decide) (hts (.fieldLink RX6 117 "HiddenPeriodsModel" "length" "I") (by decide +kernel)) (fun _ h9 => h9) rfl dX6_append_58 ?_
      cases h
      exact pw_iret hx hb hr hlocks hAe hQ hP hD hS dX6_append_61
    · replace h := ifp cq h
      refine lv_aload_n hx hb dX6_append_31 rfl (lv_at hl 0 rfl) ?_
      refine lv_iconst (v := 2) hx hb dX6_append_32 (by decide) ?_
      obtain ⟨⟨x3_1, x3_2⟩, hx3, h⟩ := bnd h
      refine pw_goi (wc := [(h6, .inr (6, [.int 0, .ref h6_ms, .ref h6_mv, .int svm, .ref h6_mb, .int mln, .ref h6_mc, .ref h6_mg, .ref h6_mt, .ref h6_ml, .int mat, .int wel, .ref h6_mr, .int rdm, .long hsh])), (h6_ms, .inl (cI, 253, .inl ms)), (h6_mv, .inl (cI, 1518, .inl mv)), (h6_mb, .inl (cI, 60, .inl mb)), (h6_mc, .inl (cI, 160, .inl mc)), (h6_mg, .inl (cI, 160, .inl mg)), (h6_mt, .inl (cI, 240, .inl mt)), (h6_ml, .inl (cI, 240, .inl ml)), (h6_mr, .inl (cI, 600, .inl mr))]) (w1 := [(h6, .inr (6, [.int x3_2, .ref h6_ms, .ref h6_mv, .int svm, .ref h6_mb, .int mln, .ref h6_mc, .ref h6_mg, .ref h6_mt, .ref h6_ml, .int mat, .int wel, .ref h6_mr, .int rdm, .long hsh])), (h6_ms, .inl (cI, 253, .inl ms)), (h6_mv, .inl (cI, 1518, .inl mv)), (h6_mb, .inl (cI, 60, .inl mb)), (h6_mc, .inl (cI, 160, .inl mc)), (h6_mg, .inl (cI, 160, .inl mg)), (h6_mt, .inl (cI, 240, .inl mt)), (h6_ml, .inl (cI, 240, .inl ml)), (h6_mr, .inl (cI, 600, .inl mr))]) (w2 := [(h6, .inr (6, [.int x3_2, .ref h6_ms, .ref h6_mv, .int svm, .ref h6_mb, .int mln, .ref h6_mc, .ref h6_mg, .ref h6_mt, .ref h6_ml, .int mat, .int wel, .ref h6_mr, .int rdm, .long hsh])), (h6_ms, .inl (cI, 253, .inl ms)), (h6_mv, .inl (cI, 1518, .inl mv)), (h6_mb, .inl (cI, 60, .inl mb)), (h6_mc, .inl (cI, 160, .inl mc)), (h6_mg, .inl (cI, 160, .inl mg)), (h6_mt, .inl (cI, 240, .inl mt)), (h6_ml, .inl (cI, 240, .inl ml)), (h6_mr, .inl (cI, 600, .inl mr))]) (va_runV (As := [.int 2]) (rest := []) ⟨hx, hb, hml, hown, hts⟩ (mX6_fails l D cI cO cJ h6 h6_ms h6_mv h6_mb h6_mc h6_mg h6_mt h6_ml h6_mr H.size 0 ms mv svm mb mln mc mg mt ml mat wel mr rdm hsh 2 _ hx3) (cwV 1 hts gX6_append_X6_fails rfl rfl rfl (by decide +kernel) ⟨Nat.le_of_ble_eq_true rfl, Nat.le_of_ble_eq_true rfl⟩) (pw_preV hK hN (pw_sub hP [0, 1, 2, 3, 4, 5, 6, 7, 8] rfl) (pw_subD hD [0, 1, 2, 3, 4, 5, 6, 7, 8] (by decide) rfl) (ci := 6) (q0 := 0) rfl rfl) rfl rfl hl.1 rfl (lv_room (Nat.le_of_ble_eq_true rfl)) dX6_append_33 ⟨Nat.zero_le _, Nat.zero_le _⟩) hP hD hS hA [0, 1, 2, 3, 4, 5, 6, 7, 8] [] [0, 1, 2, 3, 4, 5, 6, 7, 8] rfl rfl (by decide) (by decide) (by decide) rfl (fun H locs hP hD hS => ?_)
      cases h
      exact pw_iret hx hb hr hlocks hAe hQ hP hD hS dX6_append_36
  · replace h := ifp cq h
    refine lv_aload_n hx hb dX6_append_16 rfl (lv_at hl 0 rfl) ?_
    refine lv_iconst (v := 1) hx hb dX6_append_17 (by decide) ?_
    obtain ⟨⟨x4_1, x4_2⟩, hx4, h⟩ := bnd h
    refine pw_goi (wc := [(h6, .inr (6, [.int 0, .ref h6_ms, .ref h6_mv, .int svm, .ref h6_mb, .int mln, .ref h6_mc, .ref h6_mg, .ref h6_mt, .ref h6_ml, .int mat, .int wel, .ref h6_mr, .int rdm, .long hsh])), (h6_ms, .inl (cI, 253, .inl ms)), (h6_mv, .inl (cI, 1518, .inl mv)), (h6_mb, .inl (cI, 60, .inl mb)), (h6_mc, .inl (cI, 160, .inl mc)), (h6_mg, .inl (cI, 160, .inl mg)), (h6_mt, .inl (cI, 240, .inl mt)), (h6_ml, .inl (cI, 240, .inl ml)), (h6_mr, .inl (cI, 600, .inl mr))]) (w1 := [(h6, .inr (6, [.int x4_2, .ref h6_ms, .ref h6_mv, .int svm, .ref h6_mb, .int mln, .ref h6_mc, .ref h6_mg, .ref h6_mt, .ref h6_ml, .int mat, .int wel, .ref h6_mr, .int rdm, .long hsh])), (h6_ms, .inl (cI, 253, .inl ms)), (h6_mv, .inl (cI, 1518, .inl mv)), (h6_mb, .inl (cI, 60, .inl mb)), (h6_mc, .inl (cI, 160, .inl mc)), (h6_mg, .inl (cI, 160, .inl mg)), (h6_mt, .inl (cI, 240, .inl mt)), (h6_ml, .inl (cI, 240, .inl ml)), (h6_mr, .inl (cI, 600, .inl mr))]) (w2 := [(h6, .inr (6, [.int x4_2, .ref h6_ms, .ref h6_mv, .int svm, .ref h6_mb, .int mln, .ref h6_mc, .ref h6_mg, .ref h6_mt, .ref h6_ml, .int mat, .int wel, .ref h6_mr, .int rdm, .long hsh])), (h6_ms, .inl (cI, 253, .inl ms)), (h6_mv, .inl (cI, 1518, .inl mv)), (h6_mb, .inl (cI, 60, .inl mb)), (h6_mc, .inl (cI, 160, .inl mc)), (h6_mg, .inl (cI, 160, .inl mg)), (h6_mt, .inl (cI, 240, .inl mt)), (h6_ml, .inl (cI, 240, .inl ml)), (h6_mr, .inl (cI, 600, .inl mr))]) (va_runV (As := [.int 1]) (rest := []) ⟨hx, hb, hml, hown, hts⟩ (mX6_fails l D cI cO cJ h6 h6_ms h6_mv h6_mb h6_mc h6_mg h6_mt h6_ml h6_mr H.size 0 ms mv svm mb mln mc mg mt ml mat wel mr rdm hsh 1 _ hx4) (cwV 1 hts gX6_append_X6_fails rfl rfl rfl (by decide +kernel) ⟨Nat.le_of_ble_eq_true rfl, Nat.le_of_ble_eq_true rfl⟩) (pw_preV hK hN (pw_sub hP [0, 1, 2, 3, 4, 5, 6, 7, 8] rfl) (pw_subD hD [0, 1, 2, 3, 4, 5, 6, 7, 8] (by decide) rfl) (ci := 6) (q0 := 0) rfl rfl) rfl rfl hl.1 rfl (lv_room (Nat.le_of_ble_eq_true rfl)) dX6_append_18 ⟨Nat.zero_le _, Nat.zero_le _⟩) hP hD hS hA [0, 1, 2, 3, 4, 5, 6, 7, 8] [] [0, 1, 2, 3, 4, 5, 6, 7, 8] rfl rfl (by decide) (by decide) (by decide) rfl (fun H locs hP hD hS => ?_)
    cases h
    exact pw_iret hx hb hr hlocks hAe hQ hP hD hS dX6_append_21
def fX6_clearBuffer (mln : Int32) : Option (Int32 × Int32 × Int32) :=
  some (mln, 0, 0)
abbrev rmX6_clearBuffer : Room := { frames := 0, cells := 0, slots := 0, locals := 0 }
set_option maxHeartbeats 4000000 in
set_option maxRecDepth 100000 in
theorem mX6_clearBuffer (l : Launch) (D : va_G) (cI cO cJ : ClassId) (h6 h6_ms h6_mv h6_mb h6_mc h6_mg h6_mt h6_ml h6_mr : Nat) (sz : Nat) (thr : Int32) (ms : Nat → Int32) (mv : Nat → Int32) (svm : Int32) (mb : Nat → Int32) (mln : Int32) (mc : Nat → Int32) (mg : Nat → Int32) (mt : Nat → Int32) (ml : Nat → Int32) (mat : Int32) (wel : Int32) (mr : Nat → Int32) (rdm : Int32) (hsh : Int64) (z : Int32 × Int32 × Int32) (h : fX6_clearBuffer mln = some z) : Met l yX6_clearBuffer wsX6_clearBuffer rmX6_clearBuffer (pw_pre D (tyL cI cO cJ) [.ref h6] [(h6, .inr (6, [.int thr, .ref h6_ms, .ref h6_mv, .int svm, .ref h6_mb, .int mln, .ref h6_mc, .ref h6_mg, .ref h6_mt, .ref h6_ml, .int mat, .int wel, .ref h6_mr, .int rdm, .long hsh])), (h6_ms, .inl (cI, 253, .inl ms)), (h6_mv, .inl (cI, 1518, .inl mv)), (h6_mb, .inl (cI, 60, .inl mb)), (h6_mc, .inl (cI, 160, .inl mc)), (h6_mg, .inl (cI, 160, .inl mg)), (h6_mt, .inl (cI, 240, .inl mt)), (h6_ml, .inl (cI, 240, .inl ml)), (h6_mr, .inl (cI, 600, .inl mr))] sz) (pw_i D [(h6, .inr (6, [.int thr, .ref h6_ms, .ref h6_mv, .int svm, .ref h6_mb, .int mln, .ref h6_mc, .ref h6_mg, .ref h6_mt, .ref h6_ml, .int mat, .int wel, .ref h6_mr, .int rdm, .long hsh])), (h6_ms, .inl (cI, 253, .inl ms)), (h6_mv, .inl (cI, 1518, .inl mv)), (h6_mb, .inl (cI, 60, .inl mb)), (h6_mc, .inl (cI, 160, .inl mc)), (h6_mg, .inl (cI, 160, .inl mg)), (h6_mt, .inl (cI, 240, .inl mt)), (h6_ml, .inl (cI, 240, .inl ml)), (h6_mr, .inl (cI, 600, .inl mr))] [(h6, .inr (6, [.int z.2.1, .ref h6_ms, .ref h6_mv, .int svm, .ref h6_mb, .int z.2.2, .ref h6_mc, .ref h6_mg, .ref h6_mt, .ref h6_ml, .int mat, .int wel, .ref h6_mr, .int rdm, .long hsh])), (h6_ms, .inl (cI, 253, .inl ms)), (h6_mv, .inl (cI, 1518, .inl mv)), (h6_mb, .inl (cI, 60, .inl mb)), (h6_mc, .inl (cI, 160, .inl mc)), (h6_mg, .inl (cI, 160, .inl mg)), (h6_mt, .inl (cI, 240, .inl mt)), (h6_ml, .inl (cI, 240, .inl ml)), (h6_mr, .inl (cI, 600, .inl mr))] z.1 sz) 0 0 (va_A [(h6, .inr (6, [.int thr, .ref h6_ms, .ref h6_mv, .int svm, .ref h6_mb, .int mln, .ref h6_mc, .ref h6_mg, .ref h6_mt, .ref h6_ml, .int mat, .int wel, .ref h6_mr, .int rdm, .long hsh])), (h6_ms, .inl (cI, 253, .inl ms)), (h6_mv, .inl (cI, 1518, .inl mv)), (h6_mb, .inl (cI, 60, .inl mb)), (h6_mc, .inl (cI, 160, .inl mc)), (h6_mg, .inl (cI, 160, .inl mg)), (h6_mt, .inl (cI, 240, .inl mt)), (h6_ml, .inl (cI, 240, .inl ml)), (h6_mr, .inl (cI, 600, .inl mr))] sz) := by
  refine pw_of (Qc := fun sz => pw_i D [(h6, .inr (6, [.int thr, .ref h6_ms, .ref h6_mv, .int svm, .ref h6_mb, .int mln, .ref h6_mc, .ref h6_mg, .ref h6_mt, .ref h6_ml, .int mat, .int wel, .ref h6_mr, .int rdm, .long hsh])), (h6_ms, .inl (cI, 253, .inl ms)), (h6_mv, .inl (cI, 1518, .inl mv)), (h6_mb, .inl (cI, 60, .inl mb)), (h6_mc, .inl (cI, 160, .inl mc)), (h6_mg, .inl (cI, 160, .inl mg)), (h6_mt, .inl (cI, 240, .inl mt)), (h6_ml, .inl (cI, 240, .inl ml)), (h6_mr, .inl (cI, 600, .inl mr))] [(h6, .inr (6, [.int z.2.1, .ref h6_ms, .ref h6_mv, .int svm, .ref h6_mb, .int z.2.2, .ref h6_mc, .ref h6_mg, .ref h6_mt, .ref h6_ml, .int mat, .int wel, .ref h6_mr, .int rdm, .long hsh])), (h6_ms, .inl (cI, 253, .inl ms)), (h6_mv, .inl (cI, 1518, .inl mv)), (h6_mb, .inl (cI, 60, .inl mb)), (h6_mc, .inl (cI, 160, .inl mc)), (h6_mg, .inl (cI, 160, .inl mg)), (h6_mt, .inl (cI, 240, .inl mt)), (h6_ml, .inl (cI, 240, .inl ml)), (h6_mr, .inl (cI, 600, .inl mr))] z.1 sz) (cc := cX6_clearBuffer) (maxL := 2) (ret := (some .int)) (by decide) rfl (Nat.le_of_ble_eq_true rfl) ?_
  intro p e s m args below meth c A Q H ls hx hb hml hr hts hown hlocks hAe hQ hK hN hA hP hD hS hl
  have hown : s.vm.findClass RX6 = some m.cls := hown
  have hl : lv_has ls 2 [(0, .ref h6)] := hl
  have hP : va_P D vwCl ([(h6, .inr (6, [.int thr, .ref h6_ms, .ref h6_mv, .int svm, .ref h6_mb, .int mln, .ref h6_mc, .ref h6_mg, .ref h6_mt, .ref h6_ml, .int mat, .int wel, .ref h6_mr, .int rdm, .long hsh])), (h6_ms, .inl (cI, 253, .inl ms)), (h6_mv, .inl (cI, 1518, .inl mv)), (h6_mb, .inl (cI, 60, .inl mb)), (h6_mc, .inl (cI, 160, .inl mc)), (h6_mg, .inl (cI, 160, .inl mg)), (h6_mt, .inl (cI, 240, .inl mt)), (h6_ml, .inl (cI, 240, .inl ml)), (h6_mr, .inl (cI, 600, .inl mr))] ++ []) H := hP
  have hD : va_D A ([(h6, .inr (6, [.int thr, .ref h6_ms, .ref h6_mv, .int svm, .ref h6_mb, .int mln, .ref h6_mc, .ref h6_mg, .ref h6_mt, .ref h6_ml, .int mat, .int wel, .ref h6_mr, .int rdm, .long hsh])), (h6_ms, .inl (cI, 253, .inl ms)), (h6_mv, .inl (cI, 1518, .inl mv)), (h6_mb, .inl (cI, 60, .inl mb)), (h6_mc, .inl (cI, 160, .inl mc)), (h6_mg, .inl (cI, 160, .inl mg)), (h6_mt, .inl (cI, 240, .inl mt)), (h6_ml, .inl (cI, 240, .inl ml)), (h6_mr, .inl (cI, 600, .inl mr))] ++ []) := hD
  have iX6 : ∀ w ∈ u_ws RX6 TX6 15, w ∈ wsX6_clearBuffer := fun _ h => List.mem_cons_of_mem _ (List.mem_append_right _ h)
  unfold fX6_clearBuffer at h
  refine lv_aload_n hx hb dX6_clearBuffer_0 rfl (lv_at hl 0 rfl) ?_
  refine lv_iconst (v := 0) hx hb dX6_clearBuffer_1 (by decide) ?_
  refine va_put (D := D) (ci := 6) (v := .int 0) (ty := .int) (C := RX6) (T := TX6) (N := 15) hx hb hts iX6 tyX6 tyX6_ok nmX6 hown hK hP hD hS 0 rfl rfl 0 (by decide) (hts (.fieldLink RX6 34 "HiddenPeriodsModel" "thrown" "I") (by decide +kernel)) (fun _ h9 => h9) rfl (by decide +kernel) rfl rfl (Nat.le_of_ble_eq_true rfl) dX6_clearBuffer_2 (fun H locs hP hD hS => ?_)
  have hP : va_P D vwCl ([(h6, .inr (6, [.int 0, .ref h6_ms, .ref h6_mv, .int svm, .ref h6_mb, .int mln, .ref h6_mc, .ref h6_mg, .ref h6_mt, .ref h6_ml, .int mat, .int wel, .ref h6_mr, .int rdm, .long hsh])), (h6_ms, .inl (cI, 253, .inl ms)), (h6_mv, .inl (cI, 1518, .inl mv)), (h6_mb, .inl (cI, 60, .inl mb)), (h6_mc, .inl (cI, 160, .inl mc)), (h6_mg, .inl (cI, 160, .inl mg)), (h6_mt, .inl (cI, 240, .inl mt)), (h6_ml, .inl (cI, 240, .inl ml)), (h6_mr, .inl (cI, 600, .inl mr))] ++ []) H := hP
  have hD : va_D A ([(h6, .inr (6, [.int 0, .ref h6_ms, .ref h6_mv, .int svm, .ref h6_mb, .int mln, .ref h6_mc, .ref h6_mg, .ref h6_mt, .ref h6_ml, .int mat, .int wel, .ref h6_mr, .int rdm, .long hsh])), (h6_ms, .inl (cI, 253, .inl ms)), (h6_mv, .inl (cI, 1518, .inl mv)), (h6_mb, .inl (cI, 60, .inl mb)), (h6_mc, .inl (cI, 160, .inl mc)), (h6_mg, .inl (cI, 160, .inl mg)), (h6_mt, .inl (cI, 240, .inl mt)), (h6_ml, .inl (cI, 240, .inl ml)), (h6_mr, .inl (cI, 600, .inl mr))] ++ []) := hD
  refine lv_aload_n hx hb dX6_clearBuffer_5 rfl (lv_at hl 0 rfl) ?_
  refine va_get (D := D) (ci := 6) (v := .int mln) (C := RX6) (T := TX6) (N := 15) hx hb hts iX6 hown hK hP 0 rfl rfl 5 (by decide) (hts (.fieldLink RX6 117 "HiddenPeriodsModel" "length" "I") (by decide +kernel)) (fun _ h9 => h9) rfl dX6_clearBuffer_6 ?_
  refine lv_istore_n (lv' := [(1, .int mln), (0, .ref h6)]) hx hb dX6_clearBuffer_9 rfl hl (by decide) rfl (fun ls hl => ?_)
  refine lv_aload_n hx hb dX6_clearBuffer_10 rfl (lv_at hl 1 rfl) ?_
  refine lv_iconst (v := 0) hx hb dX6_clearBuffer_11 (by decide) ?_
  refine va_put (D := D) (ci := 6) (v := .int 0) (ty := .int) (C := RX6) (T := TX6) (N := 15) hx hb hts iX6 tyX6 tyX6_ok nmX6 hown hK hP hD hS 0 rfl rfl 5 (by decide) (hts (.fieldLink RX6 117 "HiddenPeriodsModel" "length" "I") (by decide +kernel)) (fun _ h9 => h9) rfl (by decide +kernel) rfl rfl (Nat.le_of_ble_eq_true rfl) dX6_clearBuffer_12 (fun H locs hP hD hS => ?_)
  have hP : va_P D vwCl ([(h6, .inr (6, [.int 0, .ref h6_ms, .ref h6_mv, .int svm, .ref h6_mb, .int 0, .ref h6_mc, .ref h6_mg, .ref h6_mt, .ref h6_ml, .int mat, .int wel, .ref h6_mr, .int rdm, .long hsh])), (h6_ms, .inl (cI, 253, .inl ms)), (h6_mv, .inl (cI, 1518, .inl mv)), (h6_mb, .inl (cI, 60, .inl mb)), (h6_mc, .inl (cI, 160, .inl mc)), (h6_mg, .inl (cI, 160, .inl mg)), (h6_mt, .inl (cI, 240, .inl mt)), (h6_ml, .inl (cI, 240, .inl ml)), (h6_mr, .inl (cI, 600, .inl mr))] ++ []) H := hP
  have hD : va_D A ([(h6, .inr (6, [.int 0, .ref h6_ms, .ref h6_mv, .int svm, .ref h6_mb, .int 0, .ref h6_mc, .ref h6_mg, .ref h6_mt, .ref h6_ml, .int mat, .int wel, .ref h6_mr, .int rdm, .long hsh])), (h6_ms, .inl (cI, 253, .inl ms)), (h6_mv, .inl (cI, 1518, .inl mv)), (h6_mb, .inl (cI, 60, .inl mb)), (h6_mc, .inl (cI, 160, .inl mc)), (h6_mg, .inl (cI, 160, .inl mg)), (h6_mt, .inl (cI, 240, .inl mt)), (h6_ml, .inl (cI, 240, .inl ml)), (h6_mr, .inl (cI, 600, .inl mr))] ++ []) := hD
  refine lv_iload_n hx hb dX6_clearBuffer_15 rfl (lv_at hl 0 rfl) ?_
  cases h
  exact pw_iret hx hb hr hlocks hAe hQ hP hD hS dX6_clearBuffer_16
def fX6_letter (mb : Nat → Int32) (mln : Int32) (mat : Int32) : Option Int32 :=
  if mln ≤ mat then
  some 0
  else
  if oob mat 60 then none else
  some (mb mat.toNatClampNeg)
abbrev rmX6_letter : Room := { frames := 0, cells := 0, slots := 0, locals := 0 }
set_option maxHeartbeats 4000000 in
set_option maxRecDepth 100000 in
theorem mX6_letter (l : Launch) (D : va_G) (cI cO cJ : ClassId) (h6 h6_ms h6_mv h6_mb h6_mc h6_mg h6_mt h6_ml h6_mr : Nat) (sz : Nat) (thr : Int32) (ms : Nat → Int32) (mv : Nat → Int32) (svm : Int32) (mb : Nat → Int32) (mln : Int32) (mc : Nat → Int32) (mg : Nat → Int32) (mt : Nat → Int32) (ml : Nat → Int32) (mat : Int32) (wel : Int32) (mr : Nat → Int32) (rdm : Int32) (hsh : Int64) (z : Int32) (h : fX6_letter mb mln mat = some z) : Met l yX6_letter wsX6_letter rmX6_letter (pw_pre D (tyL cI cO cJ) [.ref h6] [(h6, .inr (6, [.int thr, .ref h6_ms, .ref h6_mv, .int svm, .ref h6_mb, .int mln, .ref h6_mc, .ref h6_mg, .ref h6_mt, .ref h6_ml, .int mat, .int wel, .ref h6_mr, .int rdm, .long hsh])), (h6_ms, .inl (cI, 253, .inl ms)), (h6_mv, .inl (cI, 1518, .inl mv)), (h6_mb, .inl (cI, 60, .inl mb)), (h6_mc, .inl (cI, 160, .inl mc)), (h6_mg, .inl (cI, 160, .inl mg)), (h6_mt, .inl (cI, 240, .inl mt)), (h6_ml, .inl (cI, 240, .inl ml)), (h6_mr, .inl (cI, 600, .inl mr))] sz) (pw_i D [(h6, .inr (6, [.int thr, .ref h6_ms, .ref h6_mv, .int svm, .ref h6_mb, .int mln, .ref h6_mc, .ref h6_mg, .ref h6_mt, .ref h6_ml, .int mat, .int wel, .ref h6_mr, .int rdm, .long hsh])), (h6_ms, .inl (cI, 253, .inl ms)), (h6_mv, .inl (cI, 1518, .inl mv)), (h6_mb, .inl (cI, 60, .inl mb)), (h6_mc, .inl (cI, 160, .inl mc)), (h6_mg, .inl (cI, 160, .inl mg)), (h6_mt, .inl (cI, 240, .inl mt)), (h6_ml, .inl (cI, 240, .inl ml)), (h6_mr, .inl (cI, 600, .inl mr))] [(h6, .inr (6, [.int thr, .ref h6_ms, .ref h6_mv, .int svm, .ref h6_mb, .int mln, .ref h6_mc, .ref h6_mg, .ref h6_mt, .ref h6_ml, .int mat, .int wel, .ref h6_mr, .int rdm, .long hsh])), (h6_ms, .inl (cI, 253, .inl ms)), (h6_mv, .inl (cI, 1518, .inl mv)), (h6_mb, .inl (cI, 60, .inl mb)), (h6_mc, .inl (cI, 160, .inl mc)), (h6_mg, .inl (cI, 160, .inl mg)), (h6_mt, .inl (cI, 240, .inl mt)), (h6_ml, .inl (cI, 240, .inl ml)), (h6_mr, .inl (cI, 600, .inl mr))] z sz) 0 0 (va_A [(h6, .inr (6, [.int thr, .ref h6_ms, .ref h6_mv, .int svm, .ref h6_mb, .int mln, .ref h6_mc, .ref h6_mg, .ref h6_mt, .ref h6_ml, .int mat, .int wel, .ref h6_mr, .int rdm, .long hsh])), (h6_ms, .inl (cI, 253, .inl ms)), (h6_mv, .inl (cI, 1518, .inl mv)), (h6_mb, .inl (cI, 60, .inl mb)), (h6_mc, .inl (cI, 160, .inl mc)), (h6_mg, .inl (cI, 160, .inl mg)), (h6_mt, .inl (cI, 240, .inl mt)), (h6_ml, .inl (cI, 240, .inl ml)), (h6_mr, .inl (cI, 600, .inl mr))] sz) := by
  refine pw_of (Qc := fun sz => pw_i D [(h6, .inr (6, [.int thr, .ref h6_ms, .ref h6_mv, .int svm, .ref h6_mb, .int mln, .ref h6_mc, .ref h6_mg, .ref h6_mt, .ref h6_ml, .int mat, .int wel, .ref h6_mr, .int rdm, .long hsh])), (h6_ms, .inl (cI, 253, .inl ms)), (h6_mv, .inl (cI, 1518, .inl mv)), (h6_mb, .inl (cI, 60, .inl mb)), (h6_mc, .inl (cI, 160, .inl mc)), (h6_mg, .inl (cI, 160, .inl mg)), (h6_mt, .inl (cI, 240, .inl mt)), (h6_ml, .inl (cI, 240, .inl ml)), (h6_mr, .inl (cI, 600, .inl mr))] [(h6, .inr (6, [.int thr, .ref h6_ms, .ref h6_mv, .int svm, .ref h6_mb, .int mln, .ref h6_mc, .ref h6_mg, .ref h6_mt, .ref h6_ml, .int mat, .int wel, .ref h6_mr, .int rdm, .long hsh])), (h6_ms, .inl (cI, 253, .inl ms)), (h6_mv, .inl (cI, 1518, .inl mv)), (h6_mb, .inl (cI, 60, .inl mb)), (h6_mc, .inl (cI, 160, .inl mc)), (h6_mg, .inl (cI, 160, .inl mg)), (h6_mt, .inl (cI, 240, .inl mt)), (h6_ml, .inl (cI, 240, .inl ml)), (h6_mr, .inl (cI, 600, .inl mr))] z sz) (cc := cX6_letter) (maxL := 1) (ret := (some .int)) (by decide) rfl (Nat.le_of_ble_eq_true rfl) ?_
  intro p e s m args below meth c A Q H ls hx hb hml hr hts hown hlocks hAe hQ hK hN hA hP hD hS hl
  have hown : s.vm.findClass RX6 = some m.cls := hown
  have hl : lv_has ls 1 [(0, .ref h6)] := hl
  have hP : va_P D vwCl ([(h6, .inr (6, [.int thr, .ref h6_ms, .ref h6_mv, .int svm, .ref h6_mb, .int mln, .ref h6_mc, .ref h6_mg, .ref h6_mt, .ref h6_ml, .int mat, .int wel, .ref h6_mr, .int rdm, .long hsh])), (h6_ms, .inl (cI, 253, .inl ms)), (h6_mv, .inl (cI, 1518, .inl mv)), (h6_mb, .inl (cI, 60, .inl mb)), (h6_mc, .inl (cI, 160, .inl mc)), (h6_mg, .inl (cI, 160, .inl mg)), (h6_mt, .inl (cI, 240, .inl mt)), (h6_ml, .inl (cI, 240, .inl ml)), (h6_mr, .inl (cI, 600, .inl mr))] ++ []) H := hP
  have hD : va_D A ([(h6, .inr (6, [.int thr, .ref h6_ms, .ref h6_mv, .int svm, .ref h6_mb, .int mln, .ref h6_mc, .ref h6_mg, .ref h6_mt, .ref h6_ml, .int mat, .int wel, .ref h6_mr, .int rdm, .long hsh])), (h6_ms, .inl (cI, 253, .inl ms)), (h6_mv, .inl (cI, 1518, .inl mv)), (h6_mb, .inl (cI, 60, .inl mb)), (h6_mc, .inl (cI, 160, .inl mc)), (h6_mg, .inl (cI, 160, .inl mg)), (h6_mt, .inl (cI, 240, .inl mt)), (h6_ml, .inl (cI, 240, .inl ml)), (h6_mr, .inl (cI, 600, .inl mr))] ++ []) := hD
  have iX6 : ∀ w ∈ u_ws RX6 TX6 15, w ∈ wsX6_letter := fun _ h => List.mem_cons_of_mem _ (List.mem_append_right _ h)
  unfold fX6_letter at h
  refine lv_aload_n hx hb dX6_letter_0 rfl (lv_at hl 0 rfl) ?_
  refine va_get (D := D) (ci := 6) (v := .int mat) (C := RX6) (T := TX6) (N := 15) hx hb hts iX6 hown hK hP 0 rfl rfl 10 (by decide) (hts (.fieldLink RX6 120 "HiddenPeriodsModel" "at" "I") (by decide +kernel)) (fun _ h9 => h9) rfl dX6_letter_1 ?_
  refine lv_aload_n hx hb dX6_letter_4 rfl (lv_at hl 0 rfl) ?_
  refine va_get (D := D) (ci := 6) (v := .int mln) (C := RX6) (T := TX6) (N := 15) hx hb hts iX6 hown hK hP 0 rfl rfl 5 (by decide) (hts (.fieldLink RX6 117 "HiddenPeriodsModel" "length" "I") (by decide +kernel)) (fun _ h9 => h9) rfl dX6_letter_5 ?_
  refine lv_icmp_ge (tgt := 23) hx hb dX6_letter_8 (by decide) (fun cq => ?_) (fun cq => ?_)
  · replace h := ifp cq h
    refine lv_iconst (v := 0) hx hb dX6_letter_23 (by decide) ?_
    cases h
    exact pw_iret hx hb hr hlocks hAe hQ hP hD hS dX6_letter_24
  · replace h := ifn cq h
    refine lv_aload_n hx hb dX6_letter_11 rfl (lv_at hl 0 rfl) ?_
    refine va_get (D := D) (ci := 6) (v := .ref h6_mb) (C := RX6) (T := TX6) (N := 15) hx hb hts iX6 hown hK hP 0 rfl rfl 4 (by decide) (hts (.fieldLink RX6 16 "HiddenPeriodsModel" "buffer" "[I") (by decide +kernel)) (fun _ h9 => h9) rfl dX6_letter_12 ?_
    refine lv_aload_n hx hb dX6_letter_15 rfl (lv_at hl 0 rfl) ?_
    refine va_get (D := D) (ci := 6) (v := .int mat) (C := RX6) (T := TX6) (N := 15) hx hb hts iX6 hown hK hP 0 rfl rfl 10 (by decide) (hts (.fieldLink RX6 120 "HiddenPeriodsModel" "at" "I") (by decide +kernel)) (fun _ h9 => h9) rfl dX6_letter_16 ?_
    obtain ⟨g1, h⟩ := gdn h
    refine va_iald hx hb hK hP 3 0 rfl rfl g1 dX6_letter_19 ?_
    refine lv_goto (tgt := 24) hx hb dX6_letter_20 (by decide) ?_
    cases h
    exact pw_iret hx hb hr hlocks hAe hQ hP hD hS dX6_letter_24
def fX6_readsLetter (mb : Nat → Int32) (mln : Int32) (mat : Int32) (wel : Int32) (mr : Nat → Int32) (rdm : Int32) : Option (Int32 × Int32 × (Nat → Int32) × Int32) :=
  (if wel = 0 then
  some 0
  else
  (fX6_letter mb mln mat).bind fun x5 =>
  (fX6_in x5 97 100).bind fun x6 =>
  if x6 = 0 then
  some 0
  else
  some 1 : Option Int32).bind fun x1 =>
  if ¬ (x1 = 0 ∨ x1 = 1) then none else
  if x1 = 0 then
  some (mat, x1, mr, rdm)
  else
  (fX6_letter mb mln mat).bind fun x3 =>
  if oob rdm 600 then none else
  some ((mat + 1), x1, (upd mr rdm.toNatClampNeg (x3 - 97)), (rdm + 1))
abbrev rmX6_readsLetter : Room := { frames := 1, cells := 0, slots := 0, locals := 22 }
set_option maxHeartbeats 4000000 in
set_option maxRecDepth 100000 in
theorem mX6_readsLetter (l : Launch) (D : va_G) (cI cO cJ : ClassId) (h6 h6_ms h6_mv h6_mb h6_mc h6_mg h6_mt h6_ml h6_mr : Nat) (sz : Nat) (thr : Int32) (ms : Nat → Int32) (mv : Nat → Int32) (svm : Int32) (mb : Nat → Int32) (mln : Int32) (mc : Nat → Int32) (mg : Nat → Int32) (mt : Nat → Int32) (ml : Nat → Int32) (mat : Int32) (wel : Int32) (mr : Nat → Int32) (rdm : Int32) (hsh : Int64) (z : Int32 × Int32 × (Nat → Int32) × Int32) (h : fX6_readsLetter mb mln mat wel mr rdm = some z) : Met l yX6_readsLetter wsX6_readsLetter rmX6_readsLetter (pw_pre D (tyL cI cO cJ) [.ref h6] [(h6, .inr (6, [.int thr, .ref h6_ms, .ref h6_mv, .int svm, .ref h6_mb, .int mln, .ref h6_mc, .ref h6_mg, .ref h6_mt, .ref h6_ml, .int mat, .int wel, .ref h6_mr, .int rdm, .long hsh])), (h6_ms, .inl (cI, 253, .inl ms)), (h6_mv, .inl (cI, 1518, .inl mv)), (h6_mb, .inl (cI, 60, .inl mb)), (h6_mc, .inl (cI, 160, .inl mc)), (h6_mg, .inl (cI, 160, .inl mg)), (h6_mt, .inl (cI, 240, .inl mt)), (h6_ml, .inl (cI, 240, .inl ml)), (h6_mr, .inl (cI, 600, .inl mr))] sz) (pw_v D [(h6, .inr (6, [.int thr, .ref h6_ms, .ref h6_mv, .int svm, .ref h6_mb, .int mln, .ref h6_mc, .ref h6_mg, .ref h6_mt, .ref h6_ml, .int mat, .int wel, .ref h6_mr, .int rdm, .long hsh])), (h6_ms, .inl (cI, 253, .inl ms)), (h6_mv, .inl (cI, 1518, .inl mv)), (h6_mb, .inl (cI, 60, .inl mb)), (h6_mc, .inl (cI, 160, .inl mc)), (h6_mg, .inl (cI, 160, .inl mg)), (h6_mt, .inl (cI, 240, .inl mt)), (h6_ml, .inl (cI, 240, .inl ml)), (h6_mr, .inl (cI, 600, .inl mr))] [(h6, .inr (6, [.int thr, .ref h6_ms, .ref h6_mv, .int svm, .ref h6_mb, .int mln, .ref h6_mc, .ref h6_mg, .ref h6_mt, .ref h6_ml, .int z.1, .int z.2.1, .ref h6_mr, .int z.2.2.2, .long hsh])), (h6_ms, .inl (cI, 253, .inl ms)), (h6_mv, .inl (cI, 1518, .inl mv)), (h6_mb, .inl (cI, 60, .inl mb)), (h6_mc, .inl (cI, 160, .inl mc)), (h6_mg, .inl (cI, 160, .inl mg)), (h6_mt, .inl (cI, 240, .inl mt)), (h6_ml, .inl (cI, 240, .inl ml)), (h6_mr, .inl (cI, 600, .inl z.2.2.1))] sz) 0 0 (va_A [(h6, .inr (6, [.int thr, .ref h6_ms, .ref h6_mv, .int svm, .ref h6_mb, .int mln, .ref h6_mc, .ref h6_mg, .ref h6_mt, .ref h6_ml, .int mat, .int wel, .ref h6_mr, .int rdm, .long hsh])), (h6_ms, .inl (cI, 253, .inl ms)), (h6_mv, .inl (cI, 1518, .inl mv)), (h6_mb, .inl (cI, 60, .inl mb)), (h6_mc, .inl (cI, 160, .inl mc)), (h6_mg, .inl (cI, 160, .inl mg)), (h6_mt, .inl (cI, 240, .inl mt)), (h6_ml, .inl (cI, 240, .inl ml)), (h6_mr, .inl (cI, 600, .inl mr))] sz) := by
  refine pw_of (Qc := fun sz => pw_v D [(h6, .inr (6, [.int thr, .ref h6_ms, .ref h6_mv, .int svm, .ref h6_mb, .int mln, .ref h6_mc, .ref h6_mg, .ref h6_mt, .ref h6_ml, .int mat, .int wel, .ref h6_mr, .int rdm, .long hsh])), (h6_ms, .inl (cI, 253, .inl ms)), (h6_mv, .inl (cI, 1518, .inl mv)), (h6_mb, .inl (cI, 60, .inl mb)), (h6_mc, .inl (cI, 160, .inl mc)), (h6_mg, .inl (cI, 160, .inl mg)), (h6_mt, .inl (cI, 240, .inl mt)), (h6_ml, .inl (cI, 240, .inl ml)), (h6_mr, .inl (cI, 600, .inl mr))] [(h6, .inr (6, [.int thr, .ref h6_ms, .ref h6_mv, .int svm, .ref h6_mb, .int mln, .ref h6_mc, .ref h6_mg, .ref h6_mt, .ref h6_ml, .int z.1, .int z.2.1, .ref h6_mr, .int z.2.2.2, .long hsh])), (h6_ms, .inl (cI, 253, .inl ms)), (h6_mv, .inl (cI, 1518, .inl mv)), (h6_mb, .inl (cI, 60, .inl mb)), (h6_mc, .inl (cI, 160, .inl mc)), (h6_mg, .inl (cI, 160, .inl mg)), (h6_mt, .inl (cI, 240, .inl mt)), (h6_ml, .inl (cI, 240, .inl ml)), (h6_mr, .inl (cI, 600, .inl z.2.2.1))] sz) (cc := cX6_readsLetter) (maxL := 1) (ret := none) (by decide) rfl (Nat.le_of_ble_eq_true rfl) ?_
  intro p e s m args below meth c A Q H ls hx hb hml hr hts hown hlocks hAe hQ hK hN hA hP hD hS hl
  have hown : s.vm.findClass RX6 = some m.cls := hown
  have hl : lv_has ls 1 [(0, .ref h6)] := hl
  have hP : va_P D vwCl ([(h6, .inr (6, [.int thr, .ref h6_ms, .ref h6_mv, .int svm, .ref h6_mb, .int mln, .ref h6_mc, .ref h6_mg, .ref h6_mt, .ref h6_ml, .int mat, .int wel, .ref h6_mr, .int rdm, .long hsh])), (h6_ms, .inl (cI, 253, .inl ms)), (h6_mv, .inl (cI, 1518, .inl mv)), (h6_mb, .inl (cI, 60, .inl mb)), (h6_mc, .inl (cI, 160, .inl mc)), (h6_mg, .inl (cI, 160, .inl mg)), (h6_mt, .inl (cI, 240, .inl mt)), (h6_ml, .inl (cI, 240, .inl ml)), (h6_mr, .inl (cI, 600, .inl mr))] ++ []) H := hP
  have hD : va_D A ([(h6, .inr (6, [.int thr, .ref h6_ms, .ref h6_mv, .int svm, .ref h6_mb, .int mln, .ref h6_mc, .ref h6_mg, .ref h6_mt, .ref h6_ml, .int mat, .int wel, .ref h6_mr, .int rdm, .long hsh])), (h6_ms, .inl (cI, 253, .inl ms)), (h6_mv, .inl (cI, 1518, .inl mv)), (h6_mb, .inl (cI, 60, .inl mb)), (h6_mc, .inl (cI, 160, .inl mc)), (h6_mg, .inl (cI, 160, .inl mg)), (h6_mt, .inl (cI, 240, .inl mt)), (h6_ml, .inl (cI, 240, .inl ml)), (h6_mr, .inl (cI, 600, .inl mr))] ++ []) := hD
  have iX6 : ∀ w ∈ u_ws RX6 TX6 15, w ∈ wsX6_readsLetter := fun _ h => List.mem_cons_of_mem _ (List.mem_append_right _ h)
  unfold fX6_readsLetter at h
  refine lv_aload_n hx hb dX6_readsLetter_0 rfl (lv_at hl 0 rfl) ?_
  refine lv_aload_n hx hb dX6_readsLetter_1 rfl (lv_at hl 0 rfl) ?_
  refine va_get (D := D) (ci := 6) (v := .int wel) (C := RX6) (T := TX6) (N := 15) hx hb hts iX6 hown hK hP 0 rfl rfl 11 (by decide) (hts (.fieldLink RX6 123 "HiddenPeriodsModel" "isWell" "Z") (by decide +kernel)) (fun _ h9 => h9) rfl dX6_readsLetter_2 ?_
  obtain ⟨x1, hx1, h⟩ := bnd h
  have Jx1 : ∀ (H : Heap) (locs : List Loc) (ls : Array Slot), va_P D vwCl ([(h6, .inr (6, [.int thr, .ref h6_ms, .ref h6_mv, .int svm, .ref h6_mb, .int mln, .ref h6_mc, .ref h6_mg, .ref h6_mt, .ref h6_ml, .int mat, .int wel, .ref h6_mr, .int rdm, .long hsh])), (h6_ms, .inl (cI, 253, .inl ms)), (h6_mv, .inl (cI, 1518, .inl mv)), (h6_mb, .inl (cI, 60, .inl mb)), (h6_mc, .inl (cI, 160, .inl mc)), (h6_mg, .inl (cI, 160, .inl mg)), (h6_mt, .inl (cI, 240, .inl mt)), (h6_ml, .inl (cI, 240, .inl ml)), (h6_mr, .inl (cI, 600, .inl mr))] ++ []) H → va_D A ([(h6, .inr (6, [.int thr, .ref h6_ms, .ref h6_mv, .int svm, .ref h6_mb, .int mln, .ref h6_mc, .ref h6_mg, .ref h6_mt, .ref h6_ml, .int mat, .int wel, .ref h6_mr, .int rdm, .long hsh])), (h6_ms, .inl (cI, 253, .inl ms)), (h6_mv, .inl (cI, 1518, .inl mv)), (h6_mb, .inl (cI, 60, .inl mb)), (h6_mc, .inl (cI, 160, .inl mc)), (h6_mg, .inl (cI, 160, .inl mg)), (h6_mt, .inl (cI, 240, .inl mt)), (h6_ml, .inl (cI, 240, .inl ml)), (h6_mr, .inl (cI, 600, .inl mr))] ++ []) → va_S A s.heap H locs → lv_has ls 1 [(0, .ref h6)] → W p l e rmX6_readsLetter s m args below meth c H locs 0 0 Q (F0 m 27 ls [.int x1, .ref h6]) := by
    intro H locs ls hP hD hS hl
    obtain ⟨g2, h⟩ := gdn h
    refine va_put (D := D) (ci := 6) (v := .int x1) (ty := .boolean) (C := RX6) (T := TX6) (N := 15) hx hb hts iX6 tyX6 tyX6_ok nmX6 hown hK hP hD hS 0 rfl rfl 11 (by decide) (hts (.fieldLink RX6 123 "HiddenPeriodsModel" "isWell" "Z") (by decide +kernel)) (fun _ h9 => h9) rfl (by decide +kernel) (pw_bnar (Decidable.not_not.mp g2)) (pw_bfit (Decidable.not_not.mp g2)) (Nat.le_of_ble_eq_true rfl) dX6_readsLetter_27 (fun H locs hP hD hS => ?_)
    have hP : va_P D vwCl ([(h6, .inr (6, [.int thr, .ref h6_ms, .ref h6_mv, .int svm, .ref h6_mb, .int mln, .ref h6_mc, .ref h6_mg, .ref h6_mt, .ref h6_ml, .int mat, .int x1, .ref h6_mr, .int rdm, .long hsh])), (h6_ms, .inl (cI, 253, .inl ms)), (h6_mv, .inl (cI, 1518, .inl mv)), (h6_mb, .inl (cI, 60, .inl mb)), (h6_mc, .inl (cI, 160, .inl mc)), (h6_mg, .inl (cI, 160, .inl mg)), (h6_mt, .inl (cI, 240, .inl mt)), (h6_ml, .inl (cI, 240, .inl ml)), (h6_mr, .inl (cI, 600, .inl mr))] ++ []) H := hP
    have hD : va_D A ([(h6, .inr (6, [.int thr, .ref h6_ms, .ref h6_mv, .int svm, .ref h6_mb, .int mln, .ref h6_mc, .ref h6_mg, .ref h6_mt, .ref h6_ml, .int mat, .int x1, .ref h6_mr, .int rdm, .long hsh])), (h6_ms, .inl (cI, 253, .inl ms)), (h6_mv, .inl (cI, 1518, .inl mv)), (h6_mb, .inl (cI, 60, .inl mb)), (h6_mc, .inl (cI, 160, .inl mc)), (h6_mg, .inl (cI, 160, .inl mg)), (h6_mt, .inl (cI, 240, .inl mt)), (h6_ml, .inl (cI, 240, .inl ml)), (h6_mr, .inl (cI, 600, .inl mr))] ++ []) := hD
    refine lv_aload_n hx hb dX6_readsLetter_30 rfl (lv_at hl 0 rfl) ?_
    refine va_get (D := D) (ci := 6) (v := .int x1) (C := RX6) (T := TX6) (N := 15) hx hb hts iX6 hown hK hP 0 rfl rfl 11 (by decide) (hts (.fieldLink RX6 123 "HiddenPeriodsModel" "isWell" "Z") (by decide +kernel)) (fun _ h9 => h9) rfl dX6_readsLetter_31 ?_
    refine lv_if_eq (tgt := 73) hx hb dX6_readsLetter_34 (by decide) (fun cq => ?_) (fun cq => ?_)
    · replace h := ifp cq h
      cases h
      exact pw_vret hx hb hr hlocks hAe hQ hP hD hS dX6_readsLetter_73
    · replace h := ifn cq h
      refine lv_aload_n hx hb dX6_readsLetter_37 rfl (lv_at hl 0 rfl) ?_
      refine va_get (D := D) (ci := 6) (v := .ref h6_mr) (C := RX6) (T := TX6) (N := 15) hx hb hts iX6 hown hK hP 0 rfl rfl 12 (by decide) (hts (.fieldLink RX6 31 "HiddenPeriodsModel" "read" "[I") (by decide +kernel)) (fun _ h9 => h9) rfl dX6_readsLetter_38 ?_
      refine lv_aload_n hx hb dX6_readsLetter_41 rfl (lv_at hl 0 rfl) ?_
      refine va_get (D := D) (ci := 6) (v := .int rdm) (C := RX6) (T := TX6) (N := 15) hx hb hts iX6 hown hK hP 0 rfl rfl 13 (by decide) (hts (.fieldLink RX6 130 "HiddenPeriodsModel" "readMany" "I") (by decide +kernel)) (fun _ h9 => h9) rfl dX6_readsLetter_42 ?_
      refine lv_aload_n hx hb dX6_readsLetter_45 rfl (lv_at hl 0 rfl) ?_
      obtain ⟨x3, hx3, h⟩ := bnd h
      refine pw_goi (wc := [(h6, .inr (6, [.int thr, .ref h6_ms, .ref h6_mv, .int svm, .ref h6_mb, .int mln, .ref h6_mc, .ref h6_mg, .ref h6_mt, .ref h6_ml, .int mat, .int x1, .ref h6_mr, .int rdm, .long hsh])), (h6_ms, .inl (cI, 253, .inl ms)), (h6_mv, .inl (cI, 1518, .inl mv)), (h6_mb, .inl (cI, 60, .inl mb)), (h6_mc, .inl (cI, 160, .inl mc)), (h6_mg, .inl (cI, 160, .inl mg)), (h6_mt, .inl (cI, 240, .inl mt)), (h6_ml, .inl (cI, 240, .inl ml)), (h6_mr, .inl (cI, 600, .inl mr))]) (w1 := [(h6, .inr (6, [.int thr, .ref h6_ms, .ref h6_mv, .int svm, .ref h6_mb, .int mln, .ref h6_mc, .ref h6_mg, .ref h6_mt, .ref h6_ml, .int mat, .int x1, .ref h6_mr, .int rdm, .long hsh])), (h6_ms, .inl (cI, 253, .inl ms)), (h6_mv, .inl (cI, 1518, .inl mv)), (h6_mb, .inl (cI, 60, .inl mb)), (h6_mc, .inl (cI, 160, .inl mc)), (h6_mg, .inl (cI, 160, .inl mg)), (h6_mt, .inl (cI, 240, .inl mt)), (h6_ml, .inl (cI, 240, .inl ml)), (h6_mr, .inl (cI, 600, .inl mr))]) (w2 := [(h6, .inr (6, [.int thr, .ref h6_ms, .ref h6_mv, .int svm, .ref h6_mb, .int mln, .ref h6_mc, .ref h6_mg, .ref h6_mt, .ref h6_ml, .int mat, .int x1, .ref h6_mr, .int rdm, .long hsh])), (h6_ms, .inl (cI, 253, .inl ms)), (h6_mv, .inl (cI, 1518, .inl mv)), (h6_mb, .inl (cI, 60, .inl mb)), (h6_mc, .inl (cI, 160, .inl mc)), (h6_mg, .inl (cI, 160, .inl mg)), (h6_mt, .inl (cI, 240, .inl mt)), (h6_ml, .inl (cI, 240, .inl ml)), (h6_mr, .inl (cI, 600, .inl mr))]) (va_runV (As := []) (rest := [.int rdm, .ref h6_mr]) ⟨hx, hb, hml, hown, hts⟩ (mX6_letter l D cI cO cJ h6 h6_ms h6_mv h6_mb h6_mc h6_mg h6_mt h6_ml h6_mr H.size thr ms mv svm mb mln mc mg mt ml mat x1 mr rdm hsh _ hx3) (cwV 0 hts gX6_readsLetter_X6_letter rfl rfl rfl (by decide +kernel) ⟨Nat.le_of_ble_eq_true rfl, Nat.le_of_ble_eq_true rfl⟩) (pw_preV hK hN (pw_sub hP [0, 1, 2, 3, 4, 5, 6, 7, 8] rfl) (pw_subD hD [0, 1, 2, 3, 4, 5, 6, 7, 8] (by decide) rfl) (ci := 6) (q0 := 0) rfl rfl) rfl rfl hl.1 rfl (lv_room (Nat.le_of_ble_eq_true rfl)) dX6_readsLetter_46 ⟨Nat.zero_le _, Nat.zero_le _⟩) hP hD hS hA [0, 1, 2, 3, 4, 5, 6, 7, 8] [] [0, 1, 2, 3, 4, 5, 6, 7, 8] rfl rfl (by decide) (by decide) (by decide) rfl (fun H locs hP hD hS => ?_)
      refine lv_bipush (v := 97) hx hb dX6_readsLetter_49 (by decide) ?_
      refine lv_isub hx hb dX6_readsLetter_51 ?_
      obtain ⟨g4, h⟩ := gdn h
      refine va_iast hx hb hK hP hD hS 8 0 rfl rfl g4 dX6_readsLetter_52 (fun H locs hP hD hS => ?_)
      have hP : va_P D vwCl ([(h6, .inr (6, [.int thr, .ref h6_ms, .ref h6_mv, .int svm, .ref h6_mb, .int mln, .ref h6_mc, .ref h6_mg, .ref h6_mt, .ref h6_ml, .int mat, .int x1, .ref h6_mr, .int rdm, .long hsh])), (h6_ms, .inl (cI, 253, .inl ms)), (h6_mv, .inl (cI, 1518, .inl mv)), (h6_mb, .inl (cI, 60, .inl mb)), (h6_mc, .inl (cI, 160, .inl mc)), (h6_mg, .inl (cI, 160, .inl mg)), (h6_mt, .inl (cI, 240, .inl mt)), (h6_ml, .inl (cI, 240, .inl ml)), (h6_mr, .inl (cI, 600, .inl (upd mr rdm.toNatClampNeg (x3 - 97))))] ++ []) H := hP
      have hD : va_D A ([(h6, .inr (6, [.int thr, .ref h6_ms, .ref h6_mv, .int svm, .ref h6_mb, .int mln, .ref h6_mc, .ref h6_mg, .ref h6_mt, .ref h6_ml, .int mat, .int x1, .ref h6_mr, .int rdm, .long hsh])), (h6_ms, .inl (cI, 253, .inl ms)), (h6_mv, .inl (cI, 1518, .inl mv)), (h6_mb, .inl (cI, 60, .inl mb)), (h6_mc, .inl (cI, 160, .inl mc)), (h6_mg, .inl (cI, 160, .inl mg)), (h6_mt, .inl (cI, 240, .inl mt)), (h6_ml, .inl (cI, 240, .inl ml)), (h6_mr, .inl (cI, 600, .inl (upd mr rdm.toNatClampNeg (x3 - 97))))] ++ []) := hD
      refine lv_aload_n hx hb dX6_readsLetter_53 rfl (lv_at hl 0 rfl) ?_
      refine lv_dup hx hb dX6_readsLetter_54 rfl ?_
      refine va_get (D := D) (ci := 6) (v := .int rdm) (C := RX6) (T := TX6) (N := 15) hx hb hts iX6 hown hK hP 0 rfl rfl 13 (by decide) (hts (.fieldLink RX6 130 "HiddenPeriodsModel" "readMany" "I") (by decide +kernel)) (fun _ h9 => h9) rfl dX6_readsLetter_55 ?_
      refine lv_iconst (v := 1) hx hb dX6_readsLetter_58 (by decide) ?_
      refine lv_iadd hx hb dX6_readsLetter_59 ?_
      refine va_put (D := D) (ci := 6) (v := .int (rdm + 1)) (ty := .int) (C := RX6) (T := TX6) (N := 15) hx hb hts iX6 tyX6 tyX6_ok nmX6 hown hK hP hD hS 0 rfl rfl 13 (by decide) (hts (.fieldLink RX6 130 "HiddenPeriodsModel" "readMany" "I") (by decide +kernel)) (fun _ h9 => h9) rfl (by decide +kernel) rfl rfl (Nat.le_of_ble_eq_true rfl) dX6_readsLetter_60 (fun H locs hP hD hS => ?_)
      have hP : va_P D vwCl ([(h6, .inr (6, [.int thr, .ref h6_ms, .ref h6_mv, .int svm, .ref h6_mb, .int mln, .ref h6_mc, .ref h6_mg, .ref h6_mt, .ref h6_ml, .int mat, .int x1, .ref h6_mr, .int (rdm + 1), .long hsh])), (h6_ms, .inl (cI, 253, .inl ms)), (h6_mv, .inl (cI, 1518, .inl mv)), (h6_mb, .inl (cI, 60, .inl mb)), (h6_mc, .inl (cI, 160, .inl mc)), (h6_mg, .inl (cI, 160, .inl mg)), (h6_mt, .inl (cI, 240, .inl mt)), (h6_ml, .inl (cI, 240, .inl ml)), (h6_mr, .inl (cI, 600, .inl (upd mr rdm.toNatClampNeg (x3 - 97))))] ++ []) H := hP
      have hD : va_D A ([(h6, .inr (6, [.int thr, .ref h6_ms, .ref h6_mv, .int svm, .ref h6_mb, .int mln, .ref h6_mc, .ref h6_mg, .ref h6_mt, .ref h6_ml, .int mat, .int x1, .ref h6_mr, .int (rdm + 1), .long hsh])), (h6_ms, .inl (cI, 253, .inl ms)), (h6_mv, .inl (cI, 1518, .inl mv)), (h6_mb, .inl (cI, 60, .inl mb)), (h6_mc, .inl (cI, 160, .inl mc)), (h6_mg, .inl (cI, 160, .inl mg)), (h6_mt, .inl (cI, 240, .inl mt)), (h6_ml, .inl (cI, 240, .inl ml)), (h6_mr, .inl (cI, 600, .inl (upd mr rdm.toNatClampNeg (x3 - 97))))] ++ []) := hD
      refine lv_aload_n hx hb dX6_readsLetter_63 rfl (lv_at hl 0 rfl) ?_
      refine lv_dup hx hb dX6_readsLetter_64 rfl ?_
      refine va_get (D := D) (ci := 6) (v := .int mat) (C := RX6) (T := TX6) (N := 15) hx hb hts iX6 hown hK hP 0 rfl rfl 10 (by decide) (hts (.fieldLink RX6 120 "HiddenPeriodsModel" "at" "I") (by decide +kernel)) (fun _ h9 => h9) rfl dX6_readsLetter_65 ?_
      refine lv_iconst (v := 1) hx hb dX6_readsLetter_68 (by decide) ?_
      refine lv_iadd hx hb dX6_readsLetter_69 ?_
      refine va_put (D := D) (ci := 6) (v := .int (mat + 1)) (ty := .int) (C := RX6) (T := TX6) (N := 15) hx hb hts iX6 tyX6 tyX6_ok nmX6 hown hK hP hD hS 0 rfl rfl 10 (by decide) (hts (.fieldLink RX6 120 "HiddenPeriodsModel" "at" "I") (by decide +kernel)) (fun _ h9 => h9) rfl (by decide +kernel) rfl rfl (Nat.le_of_ble_eq_true rfl) dX6_readsLetter_70 (fun H locs hP hD hS => ?_)
      have hP : va_P D vwCl ([(h6, .inr (6, [.int thr, .ref h6_ms, .ref h6_mv, .int svm, .ref h6_mb, .int mln, .ref h6_mc, .ref h6_mg, .ref h6_mt, .ref h6_ml, .int (mat + 1), .int x1, .ref h6_mr, .int (rdm + 1), .long hsh])), (h6_ms, .inl (cI, 253, .inl ms)), (h6_mv, .inl (cI, 1518, .inl mv)), (h6_mb, .inl (cI, 60, .inl mb)), (h6_mc, .inl (cI, 160, .inl mc)), (h6_mg, .inl (cI, 160, .inl mg)), (h6_mt, .inl (cI, 240, .inl mt)), (h6_ml, .inl (cI, 240, .inl ml)), (h6_mr, .inl (cI, 600, .inl (upd mr rdm.toNatClampNeg (x3 - 97))))] ++ []) H := hP
      have hD : va_D A ([(h6, .inr (6, [.int thr, .ref h6_ms, .ref h6_mv, .int svm, .ref h6_mb, .int mln, .ref h6_mc, .ref h6_mg, .ref h6_mt, .ref h6_ml, .int (mat + 1), .int x1, .ref h6_mr, .int (rdm + 1), .long hsh])), (h6_ms, .inl (cI, 253, .inl ms)), (h6_mv, .inl (cI, 1518, .inl mv)), (h6_mb, .inl (cI, 60, .inl mb)), (h6_mc, .inl (cI, 160, .inl mc)), (h6_mg, .inl (cI, 160, .inl mg)), (h6_mt, .inl (cI, 240, .inl mt)), (h6_ml, .inl (cI, 240, .inl ml)), (h6_mr, .inl (cI, 600, .inl (upd mr rdm.toNatClampNeg (x3 - 97))))] ++ []) := hD
      cases h
      exact pw_vret hx hb hr hlocks hAe hQ hP hD hS dX6_readsLetter_73
  replace h := hx1
  refine lv_if_eq (tgt := 26) hx hb dX6_readsLetter_5 (by decide) (fun cq => ?_) (fun cq => ?_)
  · replace h := ifp cq h
    refine lv_iconst (v := 0) hx hb dX6_readsLetter_26 (by decide) ?_
    cases h
    exact Jx1 _ _ _ hP hD hS (lv_sub hl [0] rfl)
  · replace h := ifn cq h
    refine lv_aload_n hx hb dX6_readsLetter_8 rfl (lv_at hl 0 rfl) ?_
    obtain ⟨x5, hx5, h⟩ := bnd h
    refine pw_goi (wc := [(h6, .inr (6, [.int thr, .ref h6_ms, .ref h6_mv, .int svm, .ref h6_mb, .int mln, .ref h6_mc, .ref h6_mg, .ref h6_mt, .ref h6_ml, .int mat, .int wel, .ref h6_mr, .int rdm, .long hsh])), (h6_ms, .inl (cI, 253, .inl ms)), (h6_mv, .inl (cI, 1518, .inl mv)), (h6_mb, .inl (cI, 60, .inl mb)), (h6_mc, .inl (cI, 160, .inl mc)), (h6_mg, .inl (cI, 160, .inl mg)), (h6_mt, .inl (cI, 240, .inl mt)), (h6_ml, .inl (cI, 240, .inl ml)), (h6_mr, .inl (cI, 600, .inl mr))]) (w1 := [(h6, .inr (6, [.int thr, .ref h6_ms, .ref h6_mv, .int svm, .ref h6_mb, .int mln, .ref h6_mc, .ref h6_mg, .ref h6_mt, .ref h6_ml, .int mat, .int wel, .ref h6_mr, .int rdm, .long hsh])), (h6_ms, .inl (cI, 253, .inl ms)), (h6_mv, .inl (cI, 1518, .inl mv)), (h6_mb, .inl (cI, 60, .inl mb)), (h6_mc, .inl (cI, 160, .inl mc)), (h6_mg, .inl (cI, 160, .inl mg)), (h6_mt, .inl (cI, 240, .inl mt)), (h6_ml, .inl (cI, 240, .inl ml)), (h6_mr, .inl (cI, 600, .inl mr))]) (w2 := [(h6, .inr (6, [.int thr, .ref h6_ms, .ref h6_mv, .int svm, .ref h6_mb, .int mln, .ref h6_mc, .ref h6_mg, .ref h6_mt, .ref h6_ml, .int mat, .int wel, .ref h6_mr, .int rdm, .long hsh])), (h6_ms, .inl (cI, 253, .inl ms)), (h6_mv, .inl (cI, 1518, .inl mv)), (h6_mb, .inl (cI, 60, .inl mb)), (h6_mc, .inl (cI, 160, .inl mc)), (h6_mg, .inl (cI, 160, .inl mg)), (h6_mt, .inl (cI, 240, .inl mt)), (h6_ml, .inl (cI, 240, .inl ml)), (h6_mr, .inl (cI, 600, .inl mr))]) (va_runV (As := []) (rest := [.ref h6]) ⟨hx, hb, hml, hown, hts⟩ (mX6_letter l D cI cO cJ h6 h6_ms h6_mv h6_mb h6_mc h6_mg h6_mt h6_ml h6_mr H.size thr ms mv svm mb mln mc mg mt ml mat wel mr rdm hsh _ hx5) (cwV 0 hts gX6_readsLetter_X6_letter rfl rfl rfl (by decide +kernel) ⟨Nat.le_of_ble_eq_true rfl, Nat.le_of_ble_eq_true rfl⟩) (pw_preV hK hN (pw_sub hP [0, 1, 2, 3, 4, 5, 6, 7, 8] rfl) (pw_subD hD [0, 1, 2, 3, 4, 5, 6, 7, 8] (by decide) rfl) (ci := 6) (q0 := 0) rfl rfl) rfl rfl hl.1 rfl (lv_room (Nat.le_of_ble_eq_true rfl)) dX6_readsLetter_9 ⟨Nat.zero_le _, Nat.zero_le _⟩) hP hD hS hA [0, 1, 2, 3, 4, 5, 6, 7, 8] [] [0, 1, 2, 3, 4, 5, 6, 7, 8] rfl rfl (by decide) (by decide) (by decide) rfl (fun H locs hP hD hS => ?_)
    refine lv_bipush (v := 97) hx hb dX6_readsLetter_12 (by decide) ?_
    refine lv_bipush (v := 100) hx hb dX6_readsLetter_14 (by decide) ?_
    obtain ⟨x6, hx6, h⟩ := bnd h
    refine pw_go0 (va_runS (As := [.int x5, .int 97, .int 100]) (rest := [.ref h6]) ⟨hx, hb, hml, hown, hts⟩ (mX6_in l D cI cO cJ H.size x5 97 100 _ hx6) (va_cwS 3 hts gX6_readsLetter_X6_in rfl rfl rfl (by decide +kernel) ⟨Nat.le_of_ble_eq_true rfl, Nat.le_of_ble_eq_true rfl⟩) (pw_preS hK hN pw_nilP (pw_nilD (A := A))) rfl rfl hl.1 rfl (lv_room (Nat.le_of_ble_eq_true rfl)) dX6_readsLetter_16 ⟨Nat.zero_le _, Nat.zero_le _⟩) hP hS hA (fun H locs hP hS => ?_)
    refine lv_if_eq (tgt := 26) hx hb dX6_readsLetter_19 (by decide) (fun cq => ?_) (fun cq => ?_)
    · replace h := ifp cq h
      refine lv_iconst (v := 0) hx hb dX6_readsLetter_26 (by decide) ?_
      cases h
      exact Jx1 _ _ _ hP hD hS (lv_sub hl [0] rfl)
    · replace h := ifn cq h
      refine lv_iconst (v := 1) hx hb dX6_readsLetter_22 (by decide) ?_
      refine lv_goto (tgt := 27) hx hb dX6_readsLetter_23 (by decide) ?_
      cases h
      exact Jx1 _ _ _ hP hD hS (lv_sub hl [0] rfl)
def fX6_readsGroup_L19 (mb : Nat → Int32) (mln : Int32) : Nat → Int32 → Int32 → (Nat → Int32) → Int32 → Option (Int32 × Int32 × (Nat → Int32) × Int32)
  | 0, _, _, _, _ => none
  | n + 1, mat_19, wel_19, mr_19, rdm_19 =>
    if wel_19 = 0 then
    some (mat_19, wel_19, mr_19, rdm_19)
    else
    (fX6_letter mb mln mat_19).bind fun x2 =>
    if x2 = 41 then
    some (mat_19, wel_19, mr_19, rdm_19)
    else
    (fX6_readsLetter mb mln mat_19 wel_19 mr_19 rdm_19).bind fun (x3_1, x3_2, x3_3, x3_4) =>
    fX6_readsGroup_L19 mb mln n x3_1 x3_2 x3_3 x3_4
def fX6_readsGroup_L128 (rdm : Int32) (x7 : Int32) (y10 : Int32) (y11 : Int32) : Nat → Int32 → (Nat → Int32) → Int32 → Option ((Nat → Int32) × Int32)
  | 0, _, _, _ => none
  | n + 1, v4_128, mr_128, rdm_128 =>
    if (y11 * (y10 - 1)) ≤ v4_128 then
    some (mr_128, rdm_128)
    else
    if x7 = 0 then
    some (mr_128, rdm_128)
    else
    if oob (rdm + v4_128) 600 then none else
    if oob rdm_128 600 then none else
    fX6_readsGroup_L128 rdm x7 y10 y11 n (v4_128 + 1) (upd mr_128 rdm_128.toNatClampNeg (mr_128 ((rdm + v4_128)).toNatClampNeg)) (rdm_128 + 1)
def fX6_readsGroup (mb : Nat → Int32) (mln : Int32) (mat : Int32) (wel : Int32) (mr : Nat → Int32) (rdm : Int32) : Option (Int32 × Int32 × (Nat → Int32) × Int32) :=
  (fX6_readsLetter mb mln (mat + 1) wel mr rdm).bind fun (x1_1, x1_2, x1_3, x1_4) =>
  (fX6_readsGroup_L19 mb mln FU x1_1 x1_2 x1_3 x1_4).bind fun (x4_1, x4_2, x4_3, x4_4) =>
  (if x4_2 = 0 then
  some 0
  else
  some 1 : Option Int32).bind fun x5 =>
  (fX6_letter mb mln (x4_1 + x5)).bind fun x6 =>
  (if x4_2 = 0 then
  some 0
  else
  (fX6_in (x6 - 48) 2 9).bind fun x16 =>
  if x16 = 0 then
  some 0
  else
  some 1 : Option Int32).bind fun x7 =>
  if ¬ (x7 = 0 ∨ x7 = 1) then none else
  (if x7 = 0 then
  some 0
  else
  some 1 : Option Int32).bind fun x9 =>
  (fX6_readsGroup_L128 rdm x7 (x6 - 48) (x4_4 - rdm) FU 0 x4_3 x4_4).bind fun (x15_1, x15_2) =>
  some (((x4_1 + x5) + x9), x7, x15_1, x15_2)
abbrev rmX6_readsGroup : Room := { frames := 2, cells := 0, slots := 0, locals := 42 }
set_option maxHeartbeats 4000000 in
set_option maxRecDepth 100000 in
theorem mX6_readsGroup (l : Launch) (D : va_G) (cI cO cJ : ClassId) (h6 h6_ms h6_mv h6_mb h6_mc h6_mg h6_mt h6_ml h6_mr : Nat) (sz : Nat) (thr : Int32) (ms : Nat → Int32) (mv : Nat → Int32) (svm : Int32) (mb : Nat → Int32) (mln : Int32) (mc : Nat → Int32) (mg : Nat → Int32) (mt : Nat → Int32) (ml : Nat → Int32) (mat : Int32) (wel : Int32) (mr : Nat → Int32) (rdm : Int32) (hsh : Int64) (z : Int32 × Int32 × (Nat → Int32) × Int32) (h : fX6_readsGroup mb mln mat wel mr rdm = some z) : Met l yX6_readsGroup wsX6_readsGroup rmX6_readsGroup (pw_pre D (tyL cI cO cJ) [.ref h6] [(h6, .inr (6, [.int thr, .ref h6_ms, .ref h6_mv, .int svm, .ref h6_mb, .int mln, .ref h6_mc, .ref h6_mg, .ref h6_mt, .ref h6_ml, .int mat, .int wel, .ref h6_mr, .int rdm, .long hsh])), (h6_ms, .inl (cI, 253, .inl ms)), (h6_mv, .inl (cI, 1518, .inl mv)), (h6_mb, .inl (cI, 60, .inl mb)), (h6_mc, .inl (cI, 160, .inl mc)), (h6_mg, .inl (cI, 160, .inl mg)), (h6_mt, .inl (cI, 240, .inl mt)), (h6_ml, .inl (cI, 240, .inl ml)), (h6_mr, .inl (cI, 600, .inl mr))] sz) (pw_v D [(h6, .inr (6, [.int thr, .ref h6_ms, .ref h6_mv, .int svm, .ref h6_mb, .int mln, .ref h6_mc, .ref h6_mg, .ref h6_mt, .ref h6_ml, .int mat, .int wel, .ref h6_mr, .int rdm, .long hsh])), (h6_ms, .inl (cI, 253, .inl ms)), (h6_mv, .inl (cI, 1518, .inl mv)), (h6_mb, .inl (cI, 60, .inl mb)), (h6_mc, .inl (cI, 160, .inl mc)), (h6_mg, .inl (cI, 160, .inl mg)), (h6_mt, .inl (cI, 240, .inl mt)), (h6_ml, .inl (cI, 240, .inl ml)), (h6_mr, .inl (cI, 600, .inl mr))] [(h6, .inr (6, [.int thr, .ref h6_ms, .ref h6_mv, .int svm, .ref h6_mb, .int mln, .ref h6_mc, .ref h6_mg, .ref h6_mt, .ref h6_ml, .int z.1, .int z.2.1, .ref h6_mr, .int z.2.2.2, .long hsh])), (h6_ms, .inl (cI, 253, .inl ms)), (h6_mv, .inl (cI, 1518, .inl mv)), (h6_mb, .inl (cI, 60, .inl mb)), (h6_mc, .inl (cI, 160, .inl mc)), (h6_mg, .inl (cI, 160, .inl mg)), (h6_mt, .inl (cI, 240, .inl mt)), (h6_ml, .inl (cI, 240, .inl ml)), (h6_mr, .inl (cI, 600, .inl z.2.2.1))] sz) 0 0 (va_A [(h6, .inr (6, [.int thr, .ref h6_ms, .ref h6_mv, .int svm, .ref h6_mb, .int mln, .ref h6_mc, .ref h6_mg, .ref h6_mt, .ref h6_ml, .int mat, .int wel, .ref h6_mr, .int rdm, .long hsh])), (h6_ms, .inl (cI, 253, .inl ms)), (h6_mv, .inl (cI, 1518, .inl mv)), (h6_mb, .inl (cI, 60, .inl mb)), (h6_mc, .inl (cI, 160, .inl mc)), (h6_mg, .inl (cI, 160, .inl mg)), (h6_mt, .inl (cI, 240, .inl mt)), (h6_ml, .inl (cI, 240, .inl ml)), (h6_mr, .inl (cI, 600, .inl mr))] sz) := by
  refine pw_of (Qc := fun sz => pw_v D [(h6, .inr (6, [.int thr, .ref h6_ms, .ref h6_mv, .int svm, .ref h6_mb, .int mln, .ref h6_mc, .ref h6_mg, .ref h6_mt, .ref h6_ml, .int mat, .int wel, .ref h6_mr, .int rdm, .long hsh])), (h6_ms, .inl (cI, 253, .inl ms)), (h6_mv, .inl (cI, 1518, .inl mv)), (h6_mb, .inl (cI, 60, .inl mb)), (h6_mc, .inl (cI, 160, .inl mc)), (h6_mg, .inl (cI, 160, .inl mg)), (h6_mt, .inl (cI, 240, .inl mt)), (h6_ml, .inl (cI, 240, .inl ml)), (h6_mr, .inl (cI, 600, .inl mr))] [(h6, .inr (6, [.int thr, .ref h6_ms, .ref h6_mv, .int svm, .ref h6_mb, .int mln, .ref h6_mc, .ref h6_mg, .ref h6_mt, .ref h6_ml, .int z.1, .int z.2.1, .ref h6_mr, .int z.2.2.2, .long hsh])), (h6_ms, .inl (cI, 253, .inl ms)), (h6_mv, .inl (cI, 1518, .inl mv)), (h6_mb, .inl (cI, 60, .inl mb)), (h6_mc, .inl (cI, 160, .inl mc)), (h6_mg, .inl (cI, 160, .inl mg)), (h6_mt, .inl (cI, 240, .inl mt)), (h6_ml, .inl (cI, 240, .inl ml)), (h6_mr, .inl (cI, 600, .inl z.2.2.1))] sz) (cc := cX6_readsGroup) (maxL := 5) (ret := none) (by decide) rfl (Nat.le_of_ble_eq_true rfl) ?_
  intro p e s m args below meth c A Q H ls hx hb hml hr hts hown hlocks hAe hQ hK hN hA hP hD hS hl
  have hown : s.vm.findClass RX6 = some m.cls := hown
  have hl : lv_has ls 5 [(0, .ref h6)] := hl
  have hP : va_P D vwCl ([(h6, .inr (6, [.int thr, .ref h6_ms, .ref h6_mv, .int svm, .ref h6_mb, .int mln, .ref h6_mc, .ref h6_mg, .ref h6_mt, .ref h6_ml, .int mat, .int wel, .ref h6_mr, .int rdm, .long hsh])), (h6_ms, .inl (cI, 253, .inl ms)), (h6_mv, .inl (cI, 1518, .inl mv)), (h6_mb, .inl (cI, 60, .inl mb)), (h6_mc, .inl (cI, 160, .inl mc)), (h6_mg, .inl (cI, 160, .inl mg)), (h6_mt, .inl (cI, 240, .inl mt)), (h6_ml, .inl (cI, 240, .inl ml)), (h6_mr, .inl (cI, 600, .inl mr))] ++ []) H := hP
  have hD : va_D A ([(h6, .inr (6, [.int thr, .ref h6_ms, .ref h6_mv, .int svm, .ref h6_mb, .int mln, .ref h6_mc, .ref h6_mg, .ref h6_mt, .ref h6_ml, .int mat, .int wel, .ref h6_mr, .int rdm, .long hsh])), (h6_ms, .inl (cI, 253, .inl ms)), (h6_mv, .inl (cI, 1518, .inl mv)), (h6_mb, .inl (cI, 60, .inl mb)), (h6_mc, .inl (cI, 160, .inl mc)), (h6_mg, .inl (cI, 160, .inl mg)), (h6_mt, .inl (cI, 240, .inl mt)), (h6_ml, .inl (cI, 240, .inl ml)), (h6_mr, .inl (cI, 600, .inl mr))] ++ []) := hD
  have iX6 : ∀ w ∈ u_ws RX6 TX6 15, w ∈ wsX6_readsGroup := fun _ h => List.mem_cons_of_mem _ (List.mem_append_right _ h)
  unfold fX6_readsGroup at h
  refine lv_aload_n hx hb dX6_readsGroup_0 rfl (lv_at hl 0 rfl) ?_
  refine va_get (D := D) (ci := 6) (v := .int rdm) (C := RX6) (T := TX6) (N := 15) hx hb hts iX6 hown hK hP 0 rfl rfl 13 (by decide) (hts (.fieldLink RX6 130 "HiddenPeriodsModel" "readMany" "I") (by decide +kernel)) (fun _ h9 => h9) rfl dX6_readsGroup_1 ?_
  refine lv_istore_n (lv' := [(1, .int rdm), (0, .ref h6)]) hx hb dX6_readsGroup_4 rfl hl (by decide) rfl (fun ls hl => ?_)
  refine lv_aload_n hx hb dX6_readsGroup_5 rfl (lv_at hl 1 rfl) ?_
  refine lv_dup hx hb dX6_readsGroup_6 rfl ?_
  refine va_get (D := D) (ci := 6) (v := .int mat) (C := RX6) (T := TX6) (N := 15) hx hb hts iX6 hown hK hP 0 rfl rfl 10 (by decide) (hts (.fieldLink RX6 120 "HiddenPeriodsModel" "at" "I") (by decide +kernel)) (fun _ h9 => h9) rfl dX6_readsGroup_7 ?_
  refine lv_iconst (v := 1) hx hb dX6_readsGroup_10 (by decide) ?_
  refine lv_iadd hx hb dX6_readsGroup_11 ?_
  refine va_put (D := D) (ci := 6) (v := .int (mat + 1)) (ty := .int) (C := RX6) (T := TX6) (N := 15) hx hb hts iX6 tyX6 tyX6_ok nmX6 hown hK hP hD hS 0 rfl rfl 10 (by decide) (hts (.fieldLink RX6 120 "HiddenPeriodsModel" "at" "I") (by decide +kernel)) (fun _ h9 => h9) rfl (by decide +kernel) rfl rfl (Nat.le_of_ble_eq_true rfl) dX6_readsGroup_12 (fun H locs hP hD hS => ?_)
  have hP : va_P D vwCl ([(h6, .inr (6, [.int thr, .ref h6_ms, .ref h6_mv, .int svm, .ref h6_mb, .int mln, .ref h6_mc, .ref h6_mg, .ref h6_mt, .ref h6_ml, .int (mat + 1), .int wel, .ref h6_mr, .int rdm, .long hsh])), (h6_ms, .inl (cI, 253, .inl ms)), (h6_mv, .inl (cI, 1518, .inl mv)), (h6_mb, .inl (cI, 60, .inl mb)), (h6_mc, .inl (cI, 160, .inl mc)), (h6_mg, .inl (cI, 160, .inl mg)), (h6_mt, .inl (cI, 240, .inl mt)), (h6_ml, .inl (cI, 240, .inl ml)), (h6_mr, .inl (cI, 600, .inl mr))] ++ []) H := hP
  have hD : va_D A ([(h6, .inr (6, [.int thr, .ref h6_ms, .ref h6_mv, .int svm, .ref h6_mb, .int mln, .ref h6_mc, .ref h6_mg, .ref h6_mt, .ref h6_ml, .int (mat + 1), .int wel, .ref h6_mr, .int rdm, .long hsh])), (h6_ms, .inl (cI, 253, .inl ms)), (h6_mv, .inl (cI, 1518, .inl mv)), (h6_mb, .inl (cI, 60, .inl mb)), (h6_mc, .inl (cI, 160, .inl mc)), (h6_mg, .inl (cI, 160, .inl mg)), (h6_mt, .inl (cI, 240, .inl mt)), (h6_ml, .inl (cI, 240, .inl ml)), (h6_mr, .inl (cI, 600, .inl mr))] ++ []) := hD
  refine lv_aload_n hx hb dX6_readsGroup_15 rfl (lv_at hl 1 rfl) ?_
  obtain ⟨⟨x1_1, x1_2, x1_3, x1_4⟩, hx1, h⟩ := bnd h
  refine pw_gov (wc := [(h6, .inr (6, [.int thr, .ref h6_ms, .ref h6_mv, .int svm, .ref h6_mb, .int mln, .ref h6_mc, .ref h6_mg, .ref h6_mt, .ref h6_ml, .int (mat + 1), .int wel, .ref h6_mr, .int rdm, .long hsh])), (h6_ms, .inl (cI, 253, .inl ms)), (h6_mv, .inl (cI, 1518, .inl mv)), (h6_mb, .inl (cI, 60, .inl mb)), (h6_mc, .inl (cI, 160, .inl mc)), (h6_mg, .inl (cI, 160, .inl mg)), (h6_mt, .inl (cI, 240, .inl mt)), (h6_ml, .inl (cI, 240, .inl ml)), (h6_mr, .inl (cI, 600, .inl mr))]) (w1 := [(h6, .inr (6, [.int thr, .ref h6_ms, .ref h6_mv, .int svm, .ref h6_mb, .int mln, .ref h6_mc, .ref h6_mg, .ref h6_mt, .ref h6_ml, .int x1_1, .int x1_2, .ref h6_mr, .int x1_4, .long hsh])), (h6_ms, .inl (cI, 253, .inl ms)), (h6_mv, .inl (cI, 1518, .inl mv)), (h6_mb, .inl (cI, 60, .inl mb)), (h6_mc, .inl (cI, 160, .inl mc)), (h6_mg, .inl (cI, 160, .inl mg)), (h6_mt, .inl (cI, 240, .inl mt)), (h6_ml, .inl (cI, 240, .inl ml)), (h6_mr, .inl (cI, 600, .inl x1_3))]) (w2 := [(h6, .inr (6, [.int thr, .ref h6_ms, .ref h6_mv, .int svm, .ref h6_mb, .int mln, .ref h6_mc, .ref h6_mg, .ref h6_mt, .ref h6_ml, .int x1_1, .int x1_2, .ref h6_mr, .int x1_4, .long hsh])), (h6_ms, .inl (cI, 253, .inl ms)), (h6_mv, .inl (cI, 1518, .inl mv)), (h6_mb, .inl (cI, 60, .inl mb)), (h6_mc, .inl (cI, 160, .inl mc)), (h6_mg, .inl (cI, 160, .inl mg)), (h6_mt, .inl (cI, 240, .inl mt)), (h6_ml, .inl (cI, 240, .inl ml)), (h6_mr, .inl (cI, 600, .inl x1_3))]) (va_runV (As := []) (rest := []) ⟨hx, hb, hml, hown, hts⟩ (mX6_readsLetter l D cI cO cJ h6 h6_ms h6_mv h6_mb h6_mc h6_mg h6_mt h6_ml h6_mr H.size thr ms mv svm mb mln mc mg mt ml (mat + 1) wel mr rdm hsh _ hx1) (cwV 0 hts gX6_readsGroup_X6_readsLetter rfl rfl rfl (by decide +kernel) ⟨Nat.le_of_ble_eq_true rfl, Nat.le_of_ble_eq_true rfl⟩) (pw_preV hK hN (pw_sub hP [0, 1, 2, 3, 4, 5, 6, 7, 8] rfl) (pw_subD hD [0, 1, 2, 3, 4, 5, 6, 7, 8] (by decide) rfl) (ci := 6) (q0 := 0) rfl rfl) rfl rfl hl.1 rfl (lv_room (Nat.le_of_ble_eq_true rfl)) dX6_readsGroup_16 ⟨Nat.zero_le _, Nat.zero_le _⟩) hP hD hS hA [0, 1, 2, 3, 4, 5, 6, 7, 8] [] [0, 1, 2, 3, 4, 5, 6, 7, 8] rfl rfl (by decide) (by decide) (by decide) rfl (fun H locs hP hD hS => ?_)
  have L19 : ∀ (n : Nat) (mat_19 : Int32) (wel_19 : Int32) (mr_19 : Nat → Int32) (rdm_19 : Int32) (o19_1 : Int32) (o19_2 : Int32) (o19_3 : Nat → Int32) (o19_4 : Int32) (H : Heap) (locs : List Loc) (ls : Array Slot), fX6_readsGroup_L19 mb mln n mat_19 wel_19 mr_19 rdm_19 = some (o19_1, o19_2, o19_3, o19_4) → va_P D vwCl ([(h6, .inr (6, [.int thr, .ref h6_ms, .ref h6_mv, .int svm, .ref h6_mb, .int mln, .ref h6_mc, .ref h6_mg, .ref h6_mt, .ref h6_ml, .int mat_19, .int wel_19, .ref h6_mr, .int rdm_19, .long hsh])), (h6_ms, .inl (cI, 253, .inl ms)), (h6_mv, .inl (cI, 1518, .inl mv)), (h6_mb, .inl (cI, 60, .inl mb)), (h6_mc, .inl (cI, 160, .inl mc)), (h6_mg, .inl (cI, 160, .inl mg)), (h6_mt, .inl (cI, 240, .inl mt)), (h6_ml, .inl (cI, 240, .inl ml)), (h6_mr, .inl (cI, 600, .inl mr_19))] ++ []) H → va_D A ([(h6, .inr (6, [.int thr, .ref h6_ms, .ref h6_mv, .int svm, .ref h6_mb, .int mln, .ref h6_mc, .ref h6_mg, .ref h6_mt, .ref h6_ml, .int mat_19, .int wel_19, .ref h6_mr, .int rdm_19, .long hsh])), (h6_ms, .inl (cI, 253, .inl ms)), (h6_mv, .inl (cI, 1518, .inl mv)), (h6_mb, .inl (cI, 60, .inl mb)), (h6_mc, .inl (cI, 160, .inl mc)), (h6_mg, .inl (cI, 160, .inl mg)), (h6_mt, .inl (cI, 240, .inl mt)), (h6_ml, .inl (cI, 240, .inl ml)), (h6_mr, .inl (cI, 600, .inl mr_19))] ++ []) → va_S A s.heap H locs → lv_has ls 5 [(0, .ref h6), (1, .int rdm)] → (∀ (H : Heap) (locs : List Loc) (ls : Array Slot), va_P D vwCl ([(h6, .inr (6, [.int thr, .ref h6_ms, .ref h6_mv, .int svm, .ref h6_mb, .int mln, .ref h6_mc, .ref h6_mg, .ref h6_mt, .ref h6_ml, .int o19_1, .int o19_2, .ref h6_mr, .int o19_4, .long hsh])), (h6_ms, .inl (cI, 253, .inl ms)), (h6_mv, .inl (cI, 1518, .inl mv)), (h6_mb, .inl (cI, 60, .inl mb)), (h6_mc, .inl (cI, 160, .inl mc)), (h6_mg, .inl (cI, 160, .inl mg)), (h6_mt, .inl (cI, 240, .inl mt)), (h6_ml, .inl (cI, 240, .inl ml)), (h6_mr, .inl (cI, 600, .inl o19_3))] ++ []) H → va_D A ([(h6, .inr (6, [.int thr, .ref h6_ms, .ref h6_mv, .int svm, .ref h6_mb, .int mln, .ref h6_mc, .ref h6_mg, .ref h6_mt, .ref h6_ml, .int o19_1, .int o19_2, .ref h6_mr, .int o19_4, .long hsh])), (h6_ms, .inl (cI, 253, .inl ms)), (h6_mv, .inl (cI, 1518, .inl mv)), (h6_mb, .inl (cI, 60, .inl mb)), (h6_mc, .inl (cI, 160, .inl mc)), (h6_mg, .inl (cI, 160, .inl mg)), (h6_mt, .inl (cI, 240, .inl mt)), (h6_ml, .inl (cI, 240, .inl ml)), (h6_mr, .inl (cI, 600, .inl o19_3))] ++ []) → va_S A s.heap H locs → lv_has ls 5 [(0, .ref h6), (1, .int rdm)] → W p l e rmX6_readsGroup s m args below meth c H locs 0 0 Q (F0 m 42 ls [])) → W p l e rmX6_readsGroup s m args below meth c H locs 0 0 Q (F0 m 19 ls []) := by
    intro n
    induction n with
    | zero =>
      intro mat_19 wel_19 mr_19 rdm_19 o19_1 o19_2 o19_3 o19_4 H locs ls h
      rw [fX6_readsGroup_L19] at h
      cases h
    | succ n ih =>
      intro mat_19 wel_19 mr_19 rdm_19 o19_1 o19_2 o19_3 o19_4 H locs ls h hP hD hS hl K
      rw [fX6_readsGroup_L19] at h
      refine lv_aload_n hx hb dX6_readsGroup_19 rfl (lv_at hl 0 rfl) ?_
      refine va_get (D := D) (ci := 6) (v := .int wel_19) (C := RX6) (T := TX6) (N := 15) hx hb hts iX6 hown hK hP 0 rfl rfl 11 (by decide) (hts (.fieldLink RX6 123 "HiddenPeriodsModel" "isWell" "Z") (by decide +kernel)) (fun _ h9 => h9) rfl dX6_readsGroup_20 ?_
      refine lv_if_eq (tgt := 42) hx hb dX6_readsGroup_23 (by decide) (fun cq => ?_) (fun cq => ?_)
      · replace h := ifp cq h
        cases h
        exact K _ _ _ hP hD hS (lv_sub hl [0, 1] rfl)
      · replace h := ifn cq h
        refine lv_aload_n hx hb dX6_readsGroup_26 rfl (lv_at hl 0 rfl) ?_
        obtain ⟨x2, hx2, h⟩ := bnd h
        refine pw_goi (wc := [(h6, .inr (6, [.int thr, .ref h6_ms, .ref h6_mv, .int svm, .ref h6_mb, .int mln, .ref h6_mc, .ref h6_mg, .ref h6_mt, .ref h6_ml, .int mat_19, .int wel_19, .ref h6_mr, .int rdm_19, .long hsh])), (h6_ms, .inl (cI, 253, .inl ms)), (h6_mv, .inl (cI, 1518, .inl mv)), (h6_mb, .inl (cI, 60, .inl mb)), (h6_mc, .inl (cI, 160, .inl mc)), (h6_mg, .inl (cI, 160, .inl mg)), (h6_mt, .inl (cI, 240, .inl mt)), (h6_ml, .inl (cI, 240, .inl ml)), (h6_mr, .inl (cI, 600, .inl mr_19))]) (w1 := [(h6, .inr (6, [.int thr, .ref h6_ms, .ref h6_mv, .int svm, .ref h6_mb, .int mln, .ref h6_mc, .ref h6_mg, .ref h6_mt, .ref h6_ml, .int mat_19, .int wel_19, .ref h6_mr, .int rdm_19, .long hsh])), (h6_ms, .inl (cI, 253, .inl ms)), (h6_mv, .inl (cI, 1518, .inl mv)), (h6_mb, .inl (cI, 60, .inl mb)), (h6_mc, .inl (cI, 160, .inl mc)), (h6_mg, .inl (cI, 160, .inl mg)), (h6_mt, .inl (cI, 240, .inl mt)), (h6_ml, .inl (cI, 240, .inl ml)), (h6_mr, .inl (cI, 600, .inl mr_19))]) (w2 := [(h6, .inr (6, [.int thr, .ref h6_ms, .ref h6_mv, .int svm, .ref h6_mb, .int mln, .ref h6_mc, .ref h6_mg, .ref h6_mt, .ref h6_ml, .int mat_19, .int wel_19, .ref h6_mr, .int rdm_19, .long hsh])), (h6_ms, .inl (cI, 253, .inl ms)), (h6_mv, .inl (cI, 1518, .inl mv)), (h6_mb, .inl (cI, 60, .inl mb)), (h6_mc, .inl (cI, 160, .inl mc)), (h6_mg, .inl (cI, 160, .inl mg)), (h6_mt, .inl (cI, 240, .inl mt)), (h6_ml, .inl (cI, 240, .inl ml)), (h6_mr, .inl (cI, 600, .inl mr_19))]) (va_runV (As := []) (rest := []) ⟨hx, hb, hml, hown, hts⟩ (mX6_letter l D cI cO cJ h6 h6_ms h6_mv h6_mb h6_mc h6_mg h6_mt h6_ml h6_mr H.size thr ms mv svm mb mln mc mg mt ml mat_19 wel_19 mr_19 rdm_19 hsh _ hx2) (cwV 0 hts gX6_readsGroup_X6_letter rfl rfl rfl (by decide +kernel) ⟨Nat.le_of_ble_eq_true rfl, Nat.le_of_ble_eq_true rfl⟩) (pw_preV hK hN (pw_sub hP [0, 1, 2, 3, 4, 5, 6, 7, 8] rfl) (pw_subD hD [0, 1, 2, 3, 4, 5, 6, 7, 8] (by decide) rfl) (ci := 6) (q0 := 0) rfl rfl) rfl rfl hl.1 rfl (lv_room (Nat.le_of_ble_eq_true rfl)) dX6_readsGroup_27 ⟨Nat.zero_le _, Nat.zero_le _⟩) hP hD hS hA [0, 1, 2, 3, 4, 5, 6, 7, 8] [] [0, 1, 2, 3, 4, 5, 6, 7, 8] rfl rfl (by decide) (by decide) (by decide) rfl (fun H locs hP hD hS => ?_)
        refine lv_bipush (v := 41) hx hb dX6_readsGroup_30 (by decide) ?_
        refine lv_icmp_eq (tgt := 42) hx hb dX6_readsGroup_32 (by decide) (fun cq => ?_) (fun cq => ?_)
        · replace h := ifp cq h
          cases h
          exact K _ _ _ hP hD hS (lv_sub hl [0, 1] rfl)
        · replace h := ifn cq h
          refine lv_aload_n hx hb dX6_readsGroup_35 rfl (lv_at hl 0 rfl) ?_
          obtain ⟨⟨x3_1, x3_2, x3_3, x3_4⟩, hx3, h⟩ := bnd h
          refine pw_gov (wc := [(h6, .inr (6, [.int thr, .ref h6_ms, .ref h6_mv, .int svm, .ref h6_mb, .int mln, .ref h6_mc, .ref h6_mg, .ref h6_mt, .ref h6_ml, .int mat_19, .int wel_19, .ref h6_mr, .int rdm_19, .long hsh])), (h6_ms, .inl (cI, 253, .inl ms)), (h6_mv, .inl (cI, 1518, .inl mv)), (h6_mb, .inl (cI, 60, .inl mb)), (h6_mc, .inl (cI, 160, .inl mc)), (h6_mg, .inl (cI, 160, .inl mg)), (h6_mt, .inl (cI, 240, .inl mt)), (h6_ml, .inl (cI, 240, .inl ml)), (h6_mr, .inl (cI, 600, .inl mr_19))]) (w1 := [(h6, .inr (6, [.int thr, .ref h6_ms, .ref h6_mv, .int svm, .ref h6_mb, .int mln, .ref h6_mc, .ref h6_mg, .ref h6_mt, .ref h6_ml, .int x3_1, .int x3_2, .ref h6_mr, .int x3_4, .long hsh])), (h6_ms, .inl (cI, 253, .inl ms)), (h6_mv, .inl (cI, 1518, .inl mv)), (h6_mb, .inl (cI, 60, .inl mb)), (h6_mc, .inl (cI, 160, .inl mc)), (h6_mg, .inl (cI, 160, .inl mg)), (h6_mt, .inl (cI, 240, .inl mt)), (h6_ml, .inl (cI, 240, .inl ml)), (h6_mr, .inl (cI, 600, .inl x3_3))]) (w2 := [(h6, .inr (6, [.int thr, .ref h6_ms, .ref h6_mv, .int svm, .ref h6_mb, .int mln, .ref h6_mc, .ref h6_mg, .ref h6_mt, .ref h6_ml, .int x3_1, .int x3_2, .ref h6_mr, .int x3_4, .long hsh])), (h6_ms, .inl (cI, 253, .inl ms)), (h6_mv, .inl (cI, 1518, .inl mv)), (h6_mb, .inl (cI, 60, .inl mb)), (h6_mc, .inl (cI, 160, .inl mc)), (h6_mg, .inl (cI, 160, .inl mg)), (h6_mt, .inl (cI, 240, .inl mt)), (h6_ml, .inl (cI, 240, .inl ml)), (h6_mr, .inl (cI, 600, .inl x3_3))]) (va_runV (As := []) (rest := []) ⟨hx, hb, hml, hown, hts⟩ (mX6_readsLetter l D cI cO cJ h6 h6_ms h6_mv h6_mb h6_mc h6_mg h6_mt h6_ml h6_mr H.size thr ms mv svm mb mln mc mg mt ml mat_19 wel_19 mr_19 rdm_19 hsh _ hx3) (cwV 0 hts gX6_readsGroup_X6_readsLetter rfl rfl rfl (by decide +kernel) ⟨Nat.le_of_ble_eq_true rfl, Nat.le_of_ble_eq_true rfl⟩) (pw_preV hK hN (pw_sub hP [0, 1, 2, 3, 4, 5, 6, 7, 8] rfl) (pw_subD hD [0, 1, 2, 3, 4, 5, 6, 7, 8] (by decide) rfl) (ci := 6) (q0 := 0) rfl rfl) rfl rfl hl.1 rfl (lv_room (Nat.le_of_ble_eq_true rfl)) dX6_readsGroup_36 ⟨Nat.zero_le _, Nat.zero_le _⟩) hP hD hS hA [0, 1, 2, 3, 4, 5, 6, 7, 8] [] [0, 1, 2, 3, 4, 5, 6, 7, 8] rfl rfl (by decide) (by decide) (by decide) rfl (fun H locs hP hD hS => ?_)
          refine lv_goto (tgt := 19) hx hb dX6_readsGroup_39 (by decide) ?_
          exact ih _ _ _ _ _ _ _ _ _ _ _ h hP hD hS (lv_sub hl [0, 1] rfl) K
  obtain ⟨⟨x4_1, x4_2, x4_3, x4_4⟩, hx4, h⟩ := bnd h
  refine L19 FU _ _ _ _ _ _ _ _ _ _ _ hx4 hP hD hS (lv_sub hl [1, 0] rfl) (fun H locs ls hP hD hS hl => ?_)
  refine lv_aload_n hx hb dX6_readsGroup_42 rfl (lv_at hl 0 rfl) ?_
  refine lv_dup hx hb dX6_readsGroup_43 rfl ?_
  refine va_get (D := D) (ci := 6) (v := .int x4_1) (C := RX6) (T := TX6) (N := 15) hx hb hts iX6 hown hK hP 0 rfl rfl 10 (by decide) (hts (.fieldLink RX6 120 "HiddenPeriodsModel" "at" "I") (by decide +kernel)) (fun _ h9 => h9) rfl dX6_readsGroup_44 ?_
  refine lv_aload_n hx hb dX6_readsGroup_47 rfl (lv_at hl 0 rfl) ?_
  refine va_get (D := D) (ci := 6) (v := .int x4_2) (C := RX6) (T := TX6) (N := 15) hx hb hts iX6 hown hK hP 0 rfl rfl 11 (by decide) (hts (.fieldLink RX6 123 "HiddenPeriodsModel" "isWell" "Z") (by decide +kernel)) (fun _ h9 => h9) rfl dX6_readsGroup_48 ?_
  obtain ⟨x5, hx5, h⟩ := bnd h
  have Jx5 : ∀ (H : Heap) (locs : List Loc) (ls : Array Slot), va_P D vwCl ([(h6, .inr (6, [.int thr, .ref h6_ms, .ref h6_mv, .int svm, .ref h6_mb, .int mln, .ref h6_mc, .ref h6_mg, .ref h6_mt, .ref h6_ml, .int x4_1, .int x4_2, .ref h6_mr, .int x4_4, .long hsh])), (h6_ms, .inl (cI, 253, .inl ms)), (h6_mv, .inl (cI, 1518, .inl mv)), (h6_mb, .inl (cI, 60, .inl mb)), (h6_mc, .inl (cI, 160, .inl mc)), (h6_mg, .inl (cI, 160, .inl mg)), (h6_mt, .inl (cI, 240, .inl mt)), (h6_ml, .inl (cI, 240, .inl ml)), (h6_mr, .inl (cI, 600, .inl x4_3))] ++ []) H → va_D A ([(h6, .inr (6, [.int thr, .ref h6_ms, .ref h6_mv, .int svm, .ref h6_mb, .int mln, .ref h6_mc, .ref h6_mg, .ref h6_mt, .ref h6_ml, .int x4_1, .int x4_2, .ref h6_mr, .int x4_4, .long hsh])), (h6_ms, .inl (cI, 253, .inl ms)), (h6_mv, .inl (cI, 1518, .inl mv)), (h6_mb, .inl (cI, 60, .inl mb)), (h6_mc, .inl (cI, 160, .inl mc)), (h6_mg, .inl (cI, 160, .inl mg)), (h6_mt, .inl (cI, 240, .inl mt)), (h6_ml, .inl (cI, 240, .inl ml)), (h6_mr, .inl (cI, 600, .inl x4_3))] ++ []) → va_S A s.heap H locs → lv_has ls 5 [(0, .ref h6), (1, .int rdm)] → W p l e rmX6_readsGroup s m args below meth c H locs 0 0 Q (F0 m 59 ls [.int x5, .int x4_1, .ref h6]) := by
    intro H locs ls hP hD hS hl
    refine lv_iadd hx hb dX6_readsGroup_59 ?_
    refine va_put (D := D) (ci := 6) (v := .int (x4_1 + x5)) (ty := .int) (C := RX6) (T := TX6) (N := 15) hx hb hts iX6 tyX6 tyX6_ok nmX6 hown hK hP hD hS 0 rfl rfl 10 (by decide) (hts (.fieldLink RX6 120 "HiddenPeriodsModel" "at" "I") (by decide +kernel)) (fun _ h9 => h9) rfl (by decide +kernel) rfl rfl (Nat.le_of_ble_eq_true rfl) dX6_readsGroup_60 (fun H locs hP hD hS => ?_)
    have hP : va_P D vwCl ([(h6, .inr (6, [.int thr, .ref h6_ms, .ref h6_mv, .int svm, .ref h6_mb, .int mln, .ref h6_mc, .ref h6_mg, .ref h6_mt, .ref h6_ml, .int (x4_1 + x5), .int x4_2, .ref h6_mr, .int x4_4, .long hsh])), (h6_ms, .inl (cI, 253, .inl ms)), (h6_mv, .inl (cI, 1518, .inl mv)), (h6_mb, .inl (cI, 60, .inl mb)), (h6_mc, .inl (cI, 160, .inl mc)), (h6_mg, .inl (cI, 160, .inl mg)), (h6_mt, .inl (cI, 240, .inl mt)), (h6_ml, .inl (cI, 240, .inl ml)), (h6_mr, .inl (cI, 600, .inl x4_3))] ++ []) H := hP
    have hD : va_D A ([(h6, .inr (6, [.int thr, .ref h6_ms, .ref h6_mv, .int svm, .ref h6_mb, .int mln, .ref h6_mc, .ref h6_mg, .ref h6_mt, .ref h6_ml, .int (x4_1 + x5), .int x4_2, .ref h6_mr, .int x4_4, .long hsh])), (h6_ms, .inl (cI, 253, .inl ms)), (h6_mv, .inl (cI, 1518, .inl mv)), (h6_mb, .inl (cI, 60, .inl mb)), (h6_mc, .inl (cI, 160, .inl mc)), (h6_mg, .inl (cI, 160, .inl mg)), (h6_mt, .inl (cI, 240, .inl mt)), (h6_ml, .inl (cI, 240, .inl ml)), (h6_mr, .inl (cI, 600, .inl x4_3))] ++ []) := hD
    refine lv_aload_n hx hb dX6_readsGroup_63 rfl (lv_at hl 0 rfl) ?_
    obtain ⟨x6, hx6, h⟩ := bnd h
    refine pw_goi (wc := [(h6, .inr (6, [.int thr, .ref h6_ms, .ref h6_mv, .int svm, .ref h6_mb, .int mln, .ref h6_mc, .ref h6_mg, .ref h6_mt, .ref h6_ml, .int (x4_1 + x5), .int x4_2, .ref h6_mr, .int x4_4, .long hsh])), (h6_ms, .inl (cI, 253, .inl ms)), (h6_mv, .inl (cI, 1518, .inl mv)), (h6_mb, .inl (cI, 60, .inl mb)), (h6_mc, .inl (cI, 160, .inl mc)), (h6_mg, .inl (cI, 160, .inl mg)), (h6_mt, .inl (cI, 240, .inl mt)), (h6_ml, .inl (cI, 240, .inl ml)), (h6_mr, .inl (cI, 600, .inl x4_3))]) (w1 := [(h6, .inr (6, [.int thr, .ref h6_ms, .ref h6_mv, .int svm, .ref h6_mb, .int mln, .ref h6_mc, .ref h6_mg, .ref h6_mt, .ref h6_ml, .int (x4_1 + x5), .int x4_2, .ref h6_mr, .int x4_4, .long hsh])), (h6_ms, .inl (cI, 253, .inl ms)), (h6_mv, .inl (cI, 1518, .inl mv)), (h6_mb, .inl (cI, 60, .inl mb)), (h6_mc, .inl (cI, 160, .inl mc)), (h6_mg, .inl (cI, 160, .inl mg)), (h6_mt, .inl (cI, 240, .inl mt)), (h6_ml, .inl (cI, 240, .inl ml)), (h6_mr, .inl (cI, 600, .inl x4_3))]) (w2 := [(h6, .inr (6, [.int thr, .ref h6_ms, .ref h6_mv, .int svm, .ref h6_mb, .int mln, .ref h6_mc, .ref h6_mg, .ref h6_mt, .ref h6_ml, .int (x4_1 + x5), .int x4_2, .ref h6_mr, .int x4_4, .long hsh])), (h6_ms, .inl (cI, 253, .inl ms)), (h6_mv, .inl (cI, 1518, .inl mv)), (h6_mb, .inl (cI, 60, .inl mb)), (h6_mc, .inl (cI, 160, .inl mc)), (h6_mg, .inl (cI, 160, .inl mg)), (h6_mt, .inl (cI, 240, .inl mt)), (h6_ml, .inl (cI, 240, .inl ml)), (h6_mr, .inl (cI, 600, .inl x4_3))]) (va_runV (As := []) (rest := []) ⟨hx, hb, hml, hown, hts⟩ (mX6_letter l D cI cO cJ h6 h6_ms h6_mv h6_mb h6_mc h6_mg h6_mt h6_ml h6_mr H.size thr ms mv svm mb mln mc mg mt ml (x4_1 + x5) x4_2 x4_3 x4_4 hsh _ hx6) (cwV 0 hts gX6_readsGroup_X6_letter rfl rfl rfl (by decide +kernel) ⟨Nat.le_of_ble_eq_true rfl, Nat.le_of_ble_eq_true rfl⟩) (pw_preV hK hN (pw_sub hP [0, 1, 2, 3, 4, 5, 6, 7, 8] rfl) (pw_subD hD [0, 1, 2, 3, 4, 5, 6, 7, 8] (by decide) rfl) (ci := 6) (q0 := 0) rfl rfl) rfl rfl hl.1 rfl (lv_room (Nat.le_of_ble_eq_true rfl)) dX6_readsGroup_64 ⟨Nat.zero_le _, Nat.zero_le _⟩) hP hD hS hA [0, 1, 2, 3, 4, 5, 6, 7, 8] [] [0, 1, 2, 3, 4, 5, 6, 7, 8] rfl rfl (by decide) (by decide) (by decide) rfl (fun H locs hP hD hS => ?_)
    refine lv_bipush (v := 48) hx hb dX6_readsGroup_67 (by decide) ?_
    refine lv_isub hx hb dX6_readsGroup_69 ?_
    refine lv_istore_n (lv' := [(2, .int (x6 - 48)), (0, .ref h6), (1, .int rdm)]) hx hb dX6_readsGroup_70 rfl hl (by decide) rfl (fun ls hl => ?_)
    refine lv_aload_n hx hb dX6_readsGroup_71 rfl (lv_at hl 1 rfl) ?_
    refine lv_aload_n hx hb dX6_readsGroup_72 rfl (lv_at hl 1 rfl) ?_
    refine va_get (D := D) (ci := 6) (v := .int x4_2) (C := RX6) (T := TX6) (N := 15) hx hb hts iX6 hown hK hP 0 rfl rfl 11 (by decide) (hts (.fieldLink RX6 123 "HiddenPeriodsModel" "isWell" "Z") (by decide +kernel)) (fun _ h9 => h9) rfl dX6_readsGroup_73 ?_
    obtain ⟨x7, hx7, h⟩ := bnd h
    have Jx7 : ∀ (H : Heap) (locs : List Loc) (ls : Array Slot), va_P D vwCl ([(h6, .inr (6, [.int thr, .ref h6_ms, .ref h6_mv, .int svm, .ref h6_mb, .int mln, .ref h6_mc, .ref h6_mg, .ref h6_mt, .ref h6_ml, .int (x4_1 + x5), .int x4_2, .ref h6_mr, .int x4_4, .long hsh])), (h6_ms, .inl (cI, 253, .inl ms)), (h6_mv, .inl (cI, 1518, .inl mv)), (h6_mb, .inl (cI, 60, .inl mb)), (h6_mc, .inl (cI, 160, .inl mc)), (h6_mg, .inl (cI, 160, .inl mg)), (h6_mt, .inl (cI, 240, .inl mt)), (h6_ml, .inl (cI, 240, .inl ml)), (h6_mr, .inl (cI, 600, .inl x4_3))] ++ []) H → va_D A ([(h6, .inr (6, [.int thr, .ref h6_ms, .ref h6_mv, .int svm, .ref h6_mb, .int mln, .ref h6_mc, .ref h6_mg, .ref h6_mt, .ref h6_ml, .int (x4_1 + x5), .int x4_2, .ref h6_mr, .int x4_4, .long hsh])), (h6_ms, .inl (cI, 253, .inl ms)), (h6_mv, .inl (cI, 1518, .inl mv)), (h6_mb, .inl (cI, 60, .inl mb)), (h6_mc, .inl (cI, 160, .inl mc)), (h6_mg, .inl (cI, 160, .inl mg)), (h6_mt, .inl (cI, 240, .inl mt)), (h6_ml, .inl (cI, 240, .inl ml)), (h6_mr, .inl (cI, 600, .inl x4_3))] ++ []) → va_S A s.heap H locs → lv_has ls 5 [(0, .ref h6), (1, .int rdm), (2, .int (x6 - 48))] → W p l e rmX6_readsGroup s m args below meth c H locs 0 0 Q (F0 m 94 ls [.int x7, .ref h6]) := by
      intro H locs ls hP hD hS hl
      obtain ⟨g8, h⟩ := gdn h
      refine va_put (D := D) (ci := 6) (v := .int x7) (ty := .boolean) (C := RX6) (T := TX6) (N := 15) hx hb hts iX6 tyX6 tyX6_ok nmX6 hown hK hP hD hS 0 rfl rfl 11 (by decide) (hts (.fieldLink RX6 123 "HiddenPeriodsModel" "isWell" "Z") (by decide +kernel)) (fun _ h9 => h9) rfl (by decide +kernel) (pw_bnar (Decidable.not_not.mp g8)) (pw_bfit (Decidable.not_not.mp g8)) (Nat.le_of_ble_eq_true rfl) dX6_readsGroup_94 (fun H locs hP hD hS => ?_)
      have hP : va_P D vwCl ([(h6, .inr (6, [.int thr, .ref h6_ms, .ref h6_mv, .int svm, .ref h6_mb, .int mln, .ref h6_mc, .ref h6_mg, .ref h6_mt, .ref h6_ml, .int (x4_1 + x5), .int x7, .ref h6_mr, .int x4_4, .long hsh])), (h6_ms, .inl (cI, 253, .inl ms)), (h6_mv, .inl (cI, 1518, .inl mv)), (h6_mb, .inl (cI, 60, .inl mb)), (h6_mc, .inl (cI, 160, .inl mc)), (h6_mg, .inl (cI, 160, .inl mg)), (h6_mt, .inl (cI, 240, .inl mt)), (h6_ml, .inl (cI, 240, .inl ml)), (h6_mr, .inl (cI, 600, .inl x4_3))] ++ []) H := hP
      have hD : va_D A ([(h6, .inr (6, [.int thr, .ref h6_ms, .ref h6_mv, .int svm, .ref h6_mb, .int mln, .ref h6_mc, .ref h6_mg, .ref h6_mt, .ref h6_ml, .int (x4_1 + x5), .int x7, .ref h6_mr, .int x4_4, .long hsh])), (h6_ms, .inl (cI, 253, .inl ms)), (h6_mv, .inl (cI, 1518, .inl mv)), (h6_mb, .inl (cI, 60, .inl mb)), (h6_mc, .inl (cI, 160, .inl mc)), (h6_mg, .inl (cI, 160, .inl mg)), (h6_mt, .inl (cI, 240, .inl mt)), (h6_ml, .inl (cI, 240, .inl ml)), (h6_mr, .inl (cI, 600, .inl x4_3))] ++ []) := hD
      refine lv_aload_n hx hb dX6_readsGroup_97 rfl (lv_at hl 0 rfl) ?_
      refine lv_dup hx hb dX6_readsGroup_98 rfl ?_
      refine va_get (D := D) (ci := 6) (v := .int (x4_1 + x5)) (C := RX6) (T := TX6) (N := 15) hx hb hts iX6 hown hK hP 0 rfl rfl 10 (by decide) (hts (.fieldLink RX6 120 "HiddenPeriodsModel" "at" "I") (by decide +kernel)) (fun _ h9 => h9) rfl dX6_readsGroup_99 ?_
      refine lv_aload_n hx hb dX6_readsGroup_102 rfl (lv_at hl 0 rfl) ?_
      refine va_get (D := D) (ci := 6) (v := .int x7) (C := RX6) (T := TX6) (N := 15) hx hb hts iX6 hown hK hP 0 rfl rfl 11 (by decide) (hts (.fieldLink RX6 123 "HiddenPeriodsModel" "isWell" "Z") (by decide +kernel)) (fun _ h9 => h9) rfl dX6_readsGroup_103 ?_
      obtain ⟨x9, hx9, h⟩ := bnd h
      have Jx9 : ∀ (H : Heap) (locs : List Loc) (ls : Array Slot), va_P D vwCl ([(h6, .inr (6, [.int thr, .ref h6_ms, .ref h6_mv, .int svm, .ref h6_mb, .int mln, .ref h6_mc, .ref h6_mg, .ref h6_mt, .ref h6_ml, .int (x4_1 + x5), .int x7, .ref h6_mr, .int x4_4, .long hsh])), (h6_ms, .inl (cI, 253, .inl ms)), (h6_mv, .inl (cI, 1518, .inl mv)), (h6_mb, .inl (cI, 60, .inl mb)), (h6_mc, .inl (cI, 160, .inl mc)), (h6_mg, .inl (cI, 160, .inl mg)), (h6_mt, .inl (cI, 240, .inl mt)), (h6_ml, .inl (cI, 240, .inl ml)), (h6_mr, .inl (cI, 600, .inl x4_3))] ++ []) H → va_D A ([(h6, .inr (6, [.int thr, .ref h6_ms, .ref h6_mv, .int svm, .ref h6_mb, .int mln, .ref h6_mc, .ref h6_mg, .ref h6_mt, .ref h6_ml, .int (x4_1 + x5), .int x7, .ref h6_mr, .int x4_4, .long hsh])), (h6_ms, .inl (cI, 253, .inl ms)), (h6_mv, .inl (cI, 1518, .inl mv)), (h6_mb, .inl (cI, 60, .inl mb)), (h6_mc, .inl (cI, 160, .inl mc)), (h6_mg, .inl (cI, 160, .inl mg)), (h6_mt, .inl (cI, 240, .inl mt)), (h6_ml, .inl (cI, 240, .inl ml)), (h6_mr, .inl (cI, 600, .inl x4_3))] ++ []) → va_S A s.heap H locs → lv_has ls 5 [(0, .ref h6), (1, .int rdm), (2, .int (x6 - 48))] → W p l e rmX6_readsGroup s m args below meth c H locs 0 0 Q (F0 m 114 ls [.int x9, .int (x4_1 + x5), .ref h6]) := by
        intro H locs ls hP hD hS hl
        refine lv_iadd hx hb dX6_readsGroup_114 ?_
        refine va_put (D := D) (ci := 6) (v := .int ((x4_1 + x5) + x9)) (ty := .int) (C := RX6) (T := TX6) (N := 15) hx hb hts iX6 tyX6 tyX6_ok nmX6 hown hK hP hD hS 0 rfl rfl 10 (by decide) (hts (.fieldLink RX6 120 "HiddenPeriodsModel" "at" "I") (by decide +kernel)) (fun _ h9 => h9) rfl (by decide +kernel) rfl rfl (Nat.le_of_ble_eq_true rfl) dX6_readsGroup_115 (fun H locs hP hD hS => ?_)
        have hP : va_P D vwCl ([(h6, .inr (6, [.int thr, .ref h6_ms, .ref h6_mv, .int svm, .ref h6_mb, .int mln, .ref h6_mc, .ref h6_mg, .ref h6_mt, .ref h6_ml, .int ((x4_1 + x5) + x9), .int x7, .ref h6_mr, .int x4_4, .long hsh])), (h6_ms, .inl (cI, 253, .inl ms)), (h6_mv, .inl (cI, 1518, .inl mv)), (h6_mb, .inl (cI, 60, .inl mb)), (h6_mc, .inl (cI, 160, .inl mc)), (h6_mg, .inl (cI, 160, .inl mg)), (h6_mt, .inl (cI, 240, .inl mt)), (h6_ml, .inl (cI, 240, .inl ml)), (h6_mr, .inl (cI, 600, .inl x4_3))] ++ []) H := hP
        have hD : va_D A ([(h6, .inr (6, [.int thr, .ref h6_ms, .ref h6_mv, .int svm, .ref h6_mb, .int mln, .ref h6_mc, .ref h6_mg, .ref h6_mt, .ref h6_ml, .int ((x4_1 + x5) + x9), .int x7, .ref h6_mr, .int x4_4, .long hsh])), (h6_ms, .inl (cI, 253, .inl ms)), (h6_mv, .inl (cI, 1518, .inl mv)), (h6_mb, .inl (cI, 60, .inl mb)), (h6_mc, .inl (cI, 160, .inl mc)), (h6_mg, .inl (cI, 160, .inl mg)), (h6_mt, .inl (cI, 240, .inl mt)), (h6_ml, .inl (cI, 240, .inl ml)), (h6_mr, .inl (cI, 600, .inl x4_3))] ++ []) := hD
        refine lv_aload_n hx hb dX6_readsGroup_118 rfl (lv_at hl 0 rfl) ?_
        refine va_get (D := D) (ci := 6) (v := .int x4_4) (C := RX6) (T := TX6) (N := 15) hx hb hts iX6 hown hK hP 0 rfl rfl 13 (by decide) (hts (.fieldLink RX6 130 "HiddenPeriodsModel" "readMany" "I") (by decide +kernel)) (fun _ h9 => h9) rfl dX6_readsGroup_119 ?_
        refine lv_iload_n hx hb dX6_readsGroup_122 rfl (lv_at hl 1 rfl) ?_
        refine lv_isub hx hb dX6_readsGroup_123 ?_
        refine lv_istore_n (lv' := [(3, .int (x4_4 - rdm)), (0, .ref h6), (1, .int rdm), (2, .int (x6 - 48))]) hx hb dX6_readsGroup_124 rfl hl (by decide) rfl (fun ls hl => ?_)
        refine lv_iconst (v := 0) hx hb dX6_readsGroup_125 (by decide) ?_
        refine lv_istore (lv' := [(4, .int 0), (3, .int (x4_4 - rdm)), (0, .ref h6), (1, .int rdm), (2, .int (x6 - 48))]) hx hb dX6_readsGroup_126 hl (by decide) rfl (fun ls hl => ?_)
        generalize hgy10 : (x6 - 48) = y10 at h hP hD hl ⊢
        generalize hgy11 : (x4_4 - rdm) = y11 at h hP hD hl ⊢
        generalize hgy12 : ((x4_1 + x5) + x9) = y12 at h hP hD hl ⊢
        have L128 : ∀ (n : Nat) (v4_128 : Int32) (mr_128 : Nat → Int32) (rdm_128 : Int32) (o128_1 : Nat → Int32) (o128_2 : Int32) (H : Heap) (locs : List Loc) (ls : Array Slot), fX6_readsGroup_L128 rdm x7 y10 y11 n v4_128 mr_128 rdm_128 = some (o128_1, o128_2) → va_P D vwCl ([(h6, .inr (6, [.int thr, .ref h6_ms, .ref h6_mv, .int svm, .ref h6_mb, .int mln, .ref h6_mc, .ref h6_mg, .ref h6_mt, .ref h6_ml, .int y12, .int x7, .ref h6_mr, .int rdm_128, .long hsh])), (h6_ms, .inl (cI, 253, .inl ms)), (h6_mv, .inl (cI, 1518, .inl mv)), (h6_mb, .inl (cI, 60, .inl mb)), (h6_mc, .inl (cI, 160, .inl mc)), (h6_mg, .inl (cI, 160, .inl mg)), (h6_mt, .inl (cI, 240, .inl mt)), (h6_ml, .inl (cI, 240, .inl ml)), (h6_mr, .inl (cI, 600, .inl mr_128))] ++ []) H → va_D A ([(h6, .inr (6, [.int thr, .ref h6_ms, .ref h6_mv, .int svm, .ref h6_mb, .int mln, .ref h6_mc, .ref h6_mg, .ref h6_mt, .ref h6_ml, .int y12, .int x7, .ref h6_mr, .int rdm_128, .long hsh])), (h6_ms, .inl (cI, 253, .inl ms)), (h6_mv, .inl (cI, 1518, .inl mv)), (h6_mb, .inl (cI, 60, .inl mb)), (h6_mc, .inl (cI, 160, .inl mc)), (h6_mg, .inl (cI, 160, .inl mg)), (h6_mt, .inl (cI, 240, .inl mt)), (h6_ml, .inl (cI, 240, .inl ml)), (h6_mr, .inl (cI, 600, .inl mr_128))] ++ []) → va_S A s.heap H locs → lv_has ls 5 [(0, .ref h6), (1, .int rdm), (2, .int y10), (3, .int y11), (4, .int v4_128)] → (∀ (H : Heap) (locs : List Loc) (ls : Array Slot), va_P D vwCl ([(h6, .inr (6, [.int thr, .ref h6_ms, .ref h6_mv, .int svm, .ref h6_mb, .int mln, .ref h6_mc, .ref h6_mg, .ref h6_mt, .ref h6_ml, .int y12, .int x7, .ref h6_mr, .int o128_2, .long hsh])), (h6_ms, .inl (cI, 253, .inl ms)), (h6_mv, .inl (cI, 1518, .inl mv)), (h6_mb, .inl (cI, 60, .inl mb)), (h6_mc, .inl (cI, 160, .inl mc)), (h6_mg, .inl (cI, 160, .inl mg)), (h6_mt, .inl (cI, 240, .inl mt)), (h6_ml, .inl (cI, 240, .inl ml)), (h6_mr, .inl (cI, 600, .inl o128_1))] ++ []) H → va_D A ([(h6, .inr (6, [.int thr, .ref h6_ms, .ref h6_mv, .int svm, .ref h6_mb, .int mln, .ref h6_mc, .ref h6_mg, .ref h6_mt, .ref h6_ml, .int y12, .int x7, .ref h6_mr, .int o128_2, .long hsh])), (h6_ms, .inl (cI, 253, .inl ms)), (h6_mv, .inl (cI, 1518, .inl mv)), (h6_mb, .inl (cI, 60, .inl mb)), (h6_mc, .inl (cI, 160, .inl mc)), (h6_mg, .inl (cI, 160, .inl mg)), (h6_mt, .inl (cI, 240, .inl mt)), (h6_ml, .inl (cI, 240, .inl ml)), (h6_mr, .inl (cI, 600, .inl o128_1))] ++ []) → va_S A s.heap H locs → lv_has ls 5 [] → W p l e rmX6_readsGroup s m args below meth c H locs 0 0 Q (F0 m 179 ls [])) → W p l e rmX6_readsGroup s m args below meth c H locs 0 0 Q (F0 m 128 ls []) := by
          intro n
          induction n with
          | zero =>
            intro v4_128 mr_128 rdm_128 o128_1 o128_2 H locs ls h
            rw [fX6_readsGroup_L128] at h
            cases h
          | succ n ih =>
            intro v4_128 mr_128 rdm_128 o128_1 o128_2 H locs ls h hP hD hS hl K
            rw [fX6_readsGroup_L128] at h
            refine lv_iload hx hb dX6_readsGroup_128 (lv_at hl 4 rfl) ?_
            refine lv_iload_n hx hb dX6_readsGroup_130 rfl (lv_at hl 3 rfl) ?_
            refine lv_iload_n hx hb dX6_readsGroup_131 rfl (lv_at hl 2 rfl) ?_
            refine lv_iconst (v := 1) hx hb dX6_readsGroup_132 (by decide) ?_
            refine lv_isub hx hb dX6_readsGroup_133 ?_
            refine lv_imul hx hb dX6_readsGroup_134 ?_
            refine lv_icmp_ge (tgt := 179) hx hb dX6_readsGroup_135 (by decide) (fun cq => ?_) (fun cq => ?_)
            · replace h := ifp cq h
              cases h
              exact K _ _ _ hP hD hS (lv_sub hl [] rfl)
            · replace h := ifn cq h
              refine lv_aload_n hx hb dX6_readsGroup_138 rfl (lv_at hl 0 rfl) ?_
              refine va_get (D := D) (ci := 6) (v := .int x7) (C := RX6) (T := TX6) (N := 15) hx hb hts iX6 hown hK hP 0 rfl rfl 11 (by decide) (hts (.fieldLink RX6 123 "HiddenPeriodsModel" "isWell" "Z") (by decide +kernel)) (fun _ h9 => h9) rfl dX6_readsGroup_139 ?_
              refine lv_if_eq (tgt := 179) hx hb dX6_readsGroup_142 (by decide) (fun cq => ?_) (fun cq => ?_)
              · replace h := ifp cq h
                cases h
                exact K _ _ _ hP hD hS (lv_sub hl [] rfl)
              · replace h := ifn cq h
                refine lv_aload_n hx hb dX6_readsGroup_145 rfl (lv_at hl 0 rfl) ?_
                refine va_get (D := D) (ci := 6) (v := .ref h6_mr) (C := RX6) (T := TX6) (N := 15) hx hb hts iX6 hown hK hP 0 rfl rfl 12 (by decide) (hts (.fieldLink RX6 31 "HiddenPeriodsModel" "read" "[I") (by decide +kernel)) (fun _ h9 => h9) rfl dX6_readsGroup_146 ?_
                refine lv_aload_n hx hb dX6_readsGroup_149 rfl (lv_at hl 0 rfl) ?_
                refine va_get (D := D) (ci := 6) (v := .int rdm_128) (C := RX6) (T := TX6) (N := 15) hx hb hts iX6 hown hK hP 0 rfl rfl 13 (by decide) (hts (.fieldLink RX6 130 "HiddenPeriodsModel" "readMany" "I") (by decide +kernel)) (fun _ h9 => h9) rfl dX6_readsGroup_150 ?_
                refine lv_aload_n hx hb dX6_readsGroup_153 rfl (lv_at hl 0 rfl) ?_
                refine va_get (D := D) (ci := 6) (v := .ref h6_mr) (C := RX6) (T := TX6) (N := 15) hx hb hts iX6 hown hK hP 0 rfl rfl 12 (by decide) (hts (.fieldLink RX6 31 "HiddenPeriodsModel" "read" "[I") (by decide +kernel)) (fun _ h9 => h9) rfl dX6_readsGroup_154 ?_
                refine lv_iload_n hx hb dX6_readsGroup_157 rfl (lv_at hl 1 rfl) ?_
                refine lv_iload hx hb dX6_readsGroup_158 (lv_at hl 4 rfl) ?_
                refine lv_iadd hx hb dX6_readsGroup_160 ?_
                obtain ⟨g13, h⟩ := gdn h
                refine va_iald hx hb hK hP 8 0 rfl rfl g13 dX6_readsGroup_161 ?_
                obtain ⟨g14, h⟩ := gdn h
                refine va_iast hx hb hK hP hD hS 8 0 rfl rfl g14 dX6_readsGroup_162 (fun H locs hP hD hS => ?_)
                have hP : va_P D vwCl ([(h6, .inr (6, [.int thr, .ref h6_ms, .ref h6_mv, .int svm, .ref h6_mb, .int mln, .ref h6_mc, .ref h6_mg, .ref h6_mt, .ref h6_ml, .int y12, .int x7, .ref h6_mr, .int rdm_128, .long hsh])), (h6_ms, .inl (cI, 253, .inl ms)), (h6_mv, .inl (cI, 1518, .inl mv)), (h6_mb, .inl (cI, 60, .inl mb)), (h6_mc, .inl (cI, 160, .inl mc)), (h6_mg, .inl (cI, 160, .inl mg)), (h6_mt, .inl (cI, 240, .inl mt)), (h6_ml, .inl (cI, 240, .inl ml)), (h6_mr, .inl (cI, 600, .inl (upd mr_128 rdm_128.toNatClampNeg (mr_128 ((rdm + v4_128)).toNatClampNeg))))] ++ []) H := hP
                have hD : va_D A ([(h6, .inr (6, [.int thr, .ref h6_ms, .ref h6_mv, .int svm, .ref h6_mb, .int mln, .ref h6_mc, .ref h6_mg, .ref h6_mt, .ref h6_ml, .int y12, .int x7, .ref h6_mr, .int rdm_128, .long hsh])), (h6_ms, .inl (cI, 253, .inl ms)), (h6_mv, .inl (cI, 1518, .inl mv)), (h6_mb, .inl (cI, 60, .inl mb)), (h6_mc, .inl (cI, 160, .inl mc)), (h6_mg, .inl (cI, 160, .inl mg)), (h6_mt, .inl (cI, 240, .inl mt)), (h6_ml, .inl (cI, 240, .inl ml)), (h6_mr, .inl (cI, 600, .inl (upd mr_128 rdm_128.toNatClampNeg (mr_128 ((rdm + v4_128)).toNatClampNeg))))] ++ []) := hD
                refine lv_aload_n hx hb dX6_readsGroup_163 rfl (lv_at hl 0 rfl) ?_
                refine lv_dup hx hb dX6_readsGroup_164 rfl ?_
                refine va_get (D := D) (ci := 6) (v := .int rdm_128) (C := RX6) (T := TX6) (N := 15) hx hb hts iX6 hown hK hP 0 rfl rfl 13 (by decide) (hts (.fieldLink RX6 130 "HiddenPeriodsModel" "readMany" "I") (by decide +kernel)) (fun _ h9 => h9) rfl dX6_readsGroup_165 ?_
                refine lv_iconst (v := 1) hx hb dX6_readsGroup_168 (by decide) ?_
                refine lv_iadd hx hb dX6_readsGroup_169 ?_
                refine va_put (D := D) (ci := 6) (v := .int (rdm_128 + 1)) (ty := .int) (C := RX6) (T := TX6) (N := 15) hx hb hts iX6 tyX6 tyX6_ok nmX6 hown hK hP hD hS 0 rfl rfl 13 (by decide) (hts (.fieldLink RX6 130 "HiddenPeriodsModel" "readMany" "I") (by decide +kernel)) (fun _ h9 => h9) rfl (by decide +kernel) rfl rfl (Nat.le_of_ble_eq_true rfl) dX6_readsGroup_170 (fun H locs hP hD hS => ?_)
                have hP : va_P D vwCl ([(h6, .inr (6, [.int thr, .ref h6_ms, .ref h6_mv, .int svm, .ref h6_mb, .int mln, .ref h6_mc, .ref h6_mg, .ref h6_mt, .ref h6_ml, .int y12, .int x7, .ref h6_mr, .int (rdm_128 + 1), .long hsh])), (h6_ms, .inl (cI, 253, .inl ms)), (h6_mv, .inl (cI, 1518, .inl mv)), (h6_mb, .inl (cI, 60, .inl mb)), (h6_mc, .inl (cI, 160, .inl mc)), (h6_mg, .inl (cI, 160, .inl mg)), (h6_mt, .inl (cI, 240, .inl mt)), (h6_ml, .inl (cI, 240, .inl ml)), (h6_mr, .inl (cI, 600, .inl (upd mr_128 rdm_128.toNatClampNeg (mr_128 ((rdm + v4_128)).toNatClampNeg))))] ++ []) H := hP
                have hD : va_D A ([(h6, .inr (6, [.int thr, .ref h6_ms, .ref h6_mv, .int svm, .ref h6_mb, .int mln, .ref h6_mc, .ref h6_mg, .ref h6_mt, .ref h6_ml, .int y12, .int x7, .ref h6_mr, .int (rdm_128 + 1), .long hsh])), (h6_ms, .inl (cI, 253, .inl ms)), (h6_mv, .inl (cI, 1518, .inl mv)), (h6_mb, .inl (cI, 60, .inl mb)), (h6_mc, .inl (cI, 160, .inl mc)), (h6_mg, .inl (cI, 160, .inl mg)), (h6_mt, .inl (cI, 240, .inl mt)), (h6_ml, .inl (cI, 240, .inl ml)), (h6_mr, .inl (cI, 600, .inl (upd mr_128 rdm_128.toNatClampNeg (mr_128 ((rdm + v4_128)).toNatClampNeg))))] ++ []) := hD
                refine lv_iinc (v := (v4_128 + 1)) (lv' := [(4, .int (v4_128 + 1)), (0, .ref h6), (1, .int rdm), (2, .int y10), (3, .int y11)]) hx hb dX6_readsGroup_173 hl (k := 4) rfl rfl (by decide) rfl (fun ls hl => ?_)
                refine lv_goto (tgt := 128) hx hb dX6_readsGroup_176 (by decide) ?_
                exact ih _ _ _ _ _ _ _ _ h hP hD hS (lv_sub hl [1, 2, 3, 4, 0] rfl) K
        obtain ⟨⟨x15_1, x15_2⟩, hx15, h⟩ := bnd h
        refine L128 FU _ _ _ _ _ _ _ _ hx15 hP hD hS (lv_sub hl [2, 3, 4, 1, 0] rfl) (fun H locs ls hP hD hS hl => ?_)
        cases h
        exact pw_vret hx hb hr hlocks hAe hQ hP hD hS dX6_readsGroup_179
      replace h := hx9
      refine lv_if_eq (tgt := 113) hx hb dX6_readsGroup_106 (by decide) (fun cq => ?_) (fun cq => ?_)
      · replace h := ifp cq h
        refine lv_iconst (v := 0) hx hb dX6_readsGroup_113 (by decide) ?_
        cases h
        exact Jx9 _ _ _ hP hD hS (lv_sub hl [0, 1, 2] rfl)
      · replace h := ifn cq h
        refine lv_iconst (v := 1) hx hb dX6_readsGroup_109 (by decide) ?_
        refine lv_goto (tgt := 114) hx hb dX6_readsGroup_110 (by decide) ?_
        cases h
        exact Jx9 _ _ _ hP hD hS (lv_sub hl [0, 1, 2] rfl)
    replace h := hx7
    refine lv_if_eq (tgt := 93) hx hb dX6_readsGroup_76 (by decide) (fun cq => ?_) (fun cq => ?_)
    · replace h := ifp cq h
      refine lv_iconst (v := 0) hx hb dX6_readsGroup_93 (by decide) ?_
      cases h
      exact Jx7 _ _ _ hP hD hS (lv_sub hl [1, 2, 0] rfl)
    · replace h := ifn cq h
      refine lv_iload_n hx hb dX6_readsGroup_79 rfl (lv_at hl 0 rfl) ?_
      refine lv_iconst (v := 2) hx hb dX6_readsGroup_80 (by decide) ?_
      refine lv_bipush (v := 9) hx hb dX6_readsGroup_81 (by decide) ?_
      obtain ⟨x16, hx16, h⟩ := bnd h
      refine pw_go0 (va_runS (As := [.int (x6 - 48), .int 2, .int 9]) (rest := [.ref h6]) ⟨hx, hb, hml, hown, hts⟩ (mX6_in l D cI cO cJ H.size (x6 - 48) 2 9 _ hx16) (va_cwS 3 hts gX6_readsGroup_X6_in rfl rfl rfl (by decide +kernel) ⟨Nat.le_of_ble_eq_true rfl, Nat.le_of_ble_eq_true rfl⟩) (pw_preS hK hN pw_nilP (pw_nilD (A := A))) rfl rfl hl.1 rfl (lv_room (Nat.le_of_ble_eq_true rfl)) dX6_readsGroup_83 ⟨Nat.zero_le _, Nat.zero_le _⟩) hP hS hA (fun H locs hP hS => ?_)
      refine lv_if_eq (tgt := 93) hx hb dX6_readsGroup_86 (by decide) (fun cq => ?_) (fun cq => ?_)
      · replace h := ifp cq h
        refine lv_iconst (v := 0) hx hb dX6_readsGroup_93 (by decide) ?_
        cases h
        exact Jx7 _ _ _ hP hD hS (lv_sub hl [1, 2, 0] rfl)
      · replace h := ifn cq h
        refine lv_iconst (v := 1) hx hb dX6_readsGroup_89 (by decide) ?_
        refine lv_goto (tgt := 94) hx hb dX6_readsGroup_90 (by decide) ?_
        cases h
        exact Jx7 _ _ _ hP hD hS (lv_sub hl [1, 2, 0] rfl)
  replace h := hx5
  refine lv_if_eq (tgt := 58) hx hb dX6_readsGroup_51 (by decide) (fun cq => ?_) (fun cq => ?_)
  · replace h := ifp cq h
    refine lv_iconst (v := 0) hx hb dX6_readsGroup_58 (by decide) ?_
    cases h
    exact Jx5 _ _ _ hP hD hS (lv_sub hl [0, 1] rfl)
  · replace h := ifn cq h
    refine lv_iconst (v := 1) hx hb dX6_readsGroup_54 (by decide) ?_
    refine lv_goto (tgt := 59) hx hb dX6_readsGroup_55 (by decide) ?_
    cases h
    exact Jx5 _ _ _ hP hD hS (lv_sub hl [0, 1] rfl)
def fX6_readsAll_L26 (mb : Nat → Int32) (mln : Int32) : Nat → Int32 → Int32 → (Nat → Int32) → Int32 → Option (Int32 × Int32 × (Nat → Int32) × Int32)
  | 0, _, _, _, _ => none
  | n + 1, mat_26, wel_26, mr_26, rdm_26 =>
    if wel_26 = 0 then
    some (mat_26, wel_26, mr_26, rdm_26)
    else
    if mln ≤ mat_26 then
    some (mat_26, wel_26, mr_26, rdm_26)
    else
    (fX6_letter mb mln mat_26).bind fun x3 =>
    if x3 = 40 then
    (fX6_readsGroup mb mln mat_26 wel_26 mr_26 rdm_26).bind fun (x5_1, x5_2, x5_3, x5_4) =>
    fX6_readsAll_L26 mb mln n x5_1 x5_2 x5_3 x5_4
    else
    (fX6_readsLetter mb mln mat_26 wel_26 mr_26 rdm_26).bind fun (x4_1, x4_2, x4_3, x4_4) =>
    fX6_readsAll_L26 mb mln n x4_1 x4_2 x4_3 x4_4
def fX6_readsAll (mb : Nat → Int32) (mln : Int32) (mr : Nat → Int32) : Option (Int32 × Int32 × (Nat → Int32) × Int32) :=
  (if mln ≤ 0 then
  some 0
  else
  some 1 : Option Int32).bind fun x1 =>
  if ¬ (x1 = 0 ∨ x1 = 1) then none else
  (fX6_readsAll_L26 mb mln FU 0 x1 mr 0).bind fun (x6_1, x6_2, x6_3, x6_4) =>
  some (x6_1, x6_2, x6_3, x6_4)
abbrev rmX6_readsAll : Room := { frames := 3, cells := 0, slots := 0, locals := 66 }
set_option maxHeartbeats 4000000 in
set_option maxRecDepth 100000 in
theorem mX6_readsAll (l : Launch) (D : va_G) (cI cO cJ : ClassId) (h6 h6_ms h6_mv h6_mb h6_mc h6_mg h6_mt h6_ml h6_mr : Nat) (sz : Nat) (thr : Int32) (ms : Nat → Int32) (mv : Nat → Int32) (svm : Int32) (mb : Nat → Int32) (mln : Int32) (mc : Nat → Int32) (mg : Nat → Int32) (mt : Nat → Int32) (ml : Nat → Int32) (mat : Int32) (wel : Int32) (mr : Nat → Int32) (rdm : Int32) (hsh : Int64) (z : Int32 × Int32 × (Nat → Int32) × Int32) (h : fX6_readsAll mb mln mr = some z) : Met l yX6_readsAll wsX6_readsAll rmX6_readsAll (pw_pre D (tyL cI cO cJ) [.ref h6] [(h6, .inr (6, [.int thr, .ref h6_ms, .ref h6_mv, .int svm, .ref h6_mb, .int mln, .ref h6_mc, .ref h6_mg, .ref h6_mt, .ref h6_ml, .int mat, .int wel, .ref h6_mr, .int rdm, .long hsh])), (h6_ms, .inl (cI, 253, .inl ms)), (h6_mv, .inl (cI, 1518, .inl mv)), (h6_mb, .inl (cI, 60, .inl mb)), (h6_mc, .inl (cI, 160, .inl mc)), (h6_mg, .inl (cI, 160, .inl mg)), (h6_mt, .inl (cI, 240, .inl mt)), (h6_ml, .inl (cI, 240, .inl ml)), (h6_mr, .inl (cI, 600, .inl mr))] sz) (pw_v D [(h6, .inr (6, [.int thr, .ref h6_ms, .ref h6_mv, .int svm, .ref h6_mb, .int mln, .ref h6_mc, .ref h6_mg, .ref h6_mt, .ref h6_ml, .int mat, .int wel, .ref h6_mr, .int rdm, .long hsh])), (h6_ms, .inl (cI, 253, .inl ms)), (h6_mv, .inl (cI, 1518, .inl mv)), (h6_mb, .inl (cI, 60, .inl mb)), (h6_mc, .inl (cI, 160, .inl mc)), (h6_mg, .inl (cI, 160, .inl mg)), (h6_mt, .inl (cI, 240, .inl mt)), (h6_ml, .inl (cI, 240, .inl ml)), (h6_mr, .inl (cI, 600, .inl mr))] [(h6, .inr (6, [.int thr, .ref h6_ms, .ref h6_mv, .int svm, .ref h6_mb, .int mln, .ref h6_mc, .ref h6_mg, .ref h6_mt, .ref h6_ml, .int z.1, .int z.2.1, .ref h6_mr, .int z.2.2.2, .long hsh])), (h6_ms, .inl (cI, 253, .inl ms)), (h6_mv, .inl (cI, 1518, .inl mv)), (h6_mb, .inl (cI, 60, .inl mb)), (h6_mc, .inl (cI, 160, .inl mc)), (h6_mg, .inl (cI, 160, .inl mg)), (h6_mt, .inl (cI, 240, .inl mt)), (h6_ml, .inl (cI, 240, .inl ml)), (h6_mr, .inl (cI, 600, .inl z.2.2.1))] sz) 0 0 (va_A [(h6, .inr (6, [.int thr, .ref h6_ms, .ref h6_mv, .int svm, .ref h6_mb, .int mln, .ref h6_mc, .ref h6_mg, .ref h6_mt, .ref h6_ml, .int mat, .int wel, .ref h6_mr, .int rdm, .long hsh])), (h6_ms, .inl (cI, 253, .inl ms)), (h6_mv, .inl (cI, 1518, .inl mv)), (h6_mb, .inl (cI, 60, .inl mb)), (h6_mc, .inl (cI, 160, .inl mc)), (h6_mg, .inl (cI, 160, .inl mg)), (h6_mt, .inl (cI, 240, .inl mt)), (h6_ml, .inl (cI, 240, .inl ml)), (h6_mr, .inl (cI, 600, .inl mr))] sz) := by
  refine pw_of (Qc := fun sz => pw_v D [(h6, .inr (6, [.int thr, .ref h6_ms, .ref h6_mv, .int svm, .ref h6_mb, .int mln, .ref h6_mc, .ref h6_mg, .ref h6_mt, .ref h6_ml, .int mat, .int wel, .ref h6_mr, .int rdm, .long hsh])), (h6_ms, .inl (cI, 253, .inl ms)), (h6_mv, .inl (cI, 1518, .inl mv)), (h6_mb, .inl (cI, 60, .inl mb)), (h6_mc, .inl (cI, 160, .inl mc)), (h6_mg, .inl (cI, 160, .inl mg)), (h6_mt, .inl (cI, 240, .inl mt)), (h6_ml, .inl (cI, 240, .inl ml)), (h6_mr, .inl (cI, 600, .inl mr))] [(h6, .inr (6, [.int thr, .ref h6_ms, .ref h6_mv, .int svm, .ref h6_mb, .int mln, .ref h6_mc, .ref h6_mg, .ref h6_mt, .ref h6_ml, .int z.1, .int z.2.1, .ref h6_mr, .int z.2.2.2, .long hsh])), (h6_ms, .inl (cI, 253, .inl ms)), (h6_mv, .inl (cI, 1518, .inl mv)), (h6_mb, .inl (cI, 60, .inl mb)), (h6_mc, .inl (cI, 160, .inl mc)), (h6_mg, .inl (cI, 160, .inl mg)), (h6_mt, .inl (cI, 240, .inl mt)), (h6_ml, .inl (cI, 240, .inl ml)), (h6_mr, .inl (cI, 600, .inl z.2.2.1))] sz) (cc := cX6_readsAll) (maxL := 1) (ret := none) (by decide) rfl (Nat.le_of_ble_eq_true rfl) ?_
  intro p e s m args below meth c A Q H ls hx hb hml hr hts hown hlocks hAe hQ hK hN hA hP hD hS hl
  have hown : s.vm.findClass RX6 = some m.cls := hown
  have hl : lv_has ls 1 [(0, .ref h6)] := hl
  have hP : va_P D vwCl ([(h6, .inr (6, [.int thr, .ref h6_ms, .ref h6_mv, .int svm, .ref h6_mb, .int mln, .ref h6_mc, .ref h6_mg, .ref h6_mt, .ref h6_ml, .int mat, .int wel, .ref h6_mr, .int rdm, .long hsh])), (h6_ms, .inl (cI, 253, .inl ms)), (h6_mv, .inl (cI, 1518, .inl mv)), (h6_mb, .inl (cI, 60, .inl mb)), (h6_mc, .inl (cI, 160, .inl mc)), (h6_mg, .inl (cI, 160, .inl mg)), (h6_mt, .inl (cI, 240, .inl mt)), (h6_ml, .inl (cI, 240, .inl ml)), (h6_mr, .inl (cI, 600, .inl mr))] ++ []) H := hP
  have hD : va_D A ([(h6, .inr (6, [.int thr, .ref h6_ms, .ref h6_mv, .int svm, .ref h6_mb, .int mln, .ref h6_mc, .ref h6_mg, .ref h6_mt, .ref h6_ml, .int mat, .int wel, .ref h6_mr, .int rdm, .long hsh])), (h6_ms, .inl (cI, 253, .inl ms)), (h6_mv, .inl (cI, 1518, .inl mv)), (h6_mb, .inl (cI, 60, .inl mb)), (h6_mc, .inl (cI, 160, .inl mc)), (h6_mg, .inl (cI, 160, .inl mg)), (h6_mt, .inl (cI, 240, .inl mt)), (h6_ml, .inl (cI, 240, .inl ml)), (h6_mr, .inl (cI, 600, .inl mr))] ++ []) := hD
  have iX6 : ∀ w ∈ u_ws RX6 TX6 15, w ∈ wsX6_readsAll := fun _ h => List.mem_cons_of_mem _ (List.mem_append_right _ h)
  unfold fX6_readsAll at h
  refine lv_aload_n hx hb dX6_readsAll_0 rfl (lv_at hl 0 rfl) ?_
  refine lv_iconst (v := 0) hx hb dX6_readsAll_1 (by decide) ?_
  refine va_put (D := D) (ci := 6) (v := .int 0) (ty := .int) (C := RX6) (T := TX6) (N := 15) hx hb hts iX6 tyX6 tyX6_ok nmX6 hown hK hP hD hS 0 rfl rfl 10 (by decide) (hts (.fieldLink RX6 120 "HiddenPeriodsModel" "at" "I") (by decide +kernel)) (fun _ h9 => h9) rfl (by decide +kernel) rfl rfl (Nat.le_of_ble_eq_true rfl) dX6_readsAll_2 (fun H locs hP hD hS => ?_)
  have hP : va_P D vwCl ([(h6, .inr (6, [.int thr, .ref h6_ms, .ref h6_mv, .int svm, .ref h6_mb, .int mln, .ref h6_mc, .ref h6_mg, .ref h6_mt, .ref h6_ml, .int 0, .int wel, .ref h6_mr, .int rdm, .long hsh])), (h6_ms, .inl (cI, 253, .inl ms)), (h6_mv, .inl (cI, 1518, .inl mv)), (h6_mb, .inl (cI, 60, .inl mb)), (h6_mc, .inl (cI, 160, .inl mc)), (h6_mg, .inl (cI, 160, .inl mg)), (h6_mt, .inl (cI, 240, .inl mt)), (h6_ml, .inl (cI, 240, .inl ml)), (h6_mr, .inl (cI, 600, .inl mr))] ++ []) H := hP
  have hD : va_D A ([(h6, .inr (6, [.int thr, .ref h6_ms, .ref h6_mv, .int svm, .ref h6_mb, .int mln, .ref h6_mc, .ref h6_mg, .ref h6_mt, .ref h6_ml, .int 0, .int wel, .ref h6_mr, .int rdm, .long hsh])), (h6_ms, .inl (cI, 253, .inl ms)), (h6_mv, .inl (cI, 1518, .inl mv)), (h6_mb, .inl (cI, 60, .inl mb)), (h6_mc, .inl (cI, 160, .inl mc)), (h6_mg, .inl (cI, 160, .inl mg)), (h6_mt, .inl (cI, 240, .inl mt)), (h6_ml, .inl (cI, 240, .inl ml)), (h6_mr, .inl (cI, 600, .inl mr))] ++ []) := hD
  refine lv_aload_n hx hb dX6_readsAll_5 rfl (lv_at hl 0 rfl) ?_
  refine lv_aload_n hx hb dX6_readsAll_6 rfl (lv_at hl 0 rfl) ?_
  refine va_get (D := D) (ci := 6) (v := .int mln) (C := RX6) (T := TX6) (N := 15) hx hb hts iX6 hown hK hP 0 rfl rfl 5 (by decide) (hts (.fieldLink RX6 117 "HiddenPeriodsModel" "length" "I") (by decide +kernel)) (fun _ h9 => h9) rfl dX6_readsAll_7 ?_
  obtain ⟨x1, hx1, h⟩ := bnd h
  have Jx1 : ∀ (H : Heap) (locs : List Loc) (ls : Array Slot), va_P D vwCl ([(h6, .inr (6, [.int thr, .ref h6_ms, .ref h6_mv, .int svm, .ref h6_mb, .int mln, .ref h6_mc, .ref h6_mg, .ref h6_mt, .ref h6_ml, .int 0, .int wel, .ref h6_mr, .int rdm, .long hsh])), (h6_ms, .inl (cI, 253, .inl ms)), (h6_mv, .inl (cI, 1518, .inl mv)), (h6_mb, .inl (cI, 60, .inl mb)), (h6_mc, .inl (cI, 160, .inl mc)), (h6_mg, .inl (cI, 160, .inl mg)), (h6_mt, .inl (cI, 240, .inl mt)), (h6_ml, .inl (cI, 240, .inl ml)), (h6_mr, .inl (cI, 600, .inl mr))] ++ []) H → va_D A ([(h6, .inr (6, [.int thr, .ref h6_ms, .ref h6_mv, .int svm, .ref h6_mb, .int mln, .ref h6_mc, .ref h6_mg, .ref h6_mt, .ref h6_ml, .int 0, .int wel, .ref h6_mr, .int rdm, .long hsh])), (h6_ms, .inl (cI, 253, .inl ms)), (h6_mv, .inl (cI, 1518, .inl mv)), (h6_mb, .inl (cI, 60, .inl mb)), (h6_mc, .inl (cI, 160, .inl mc)), (h6_mg, .inl (cI, 160, .inl mg)), (h6_mt, .inl (cI, 240, .inl mt)), (h6_ml, .inl (cI, 240, .inl ml)), (h6_mr, .inl (cI, 600, .inl mr))] ++ []) → va_S A s.heap H locs → lv_has ls 1 [(0, .ref h6)] → W p l e rmX6_readsAll s m args below meth c H locs 0 0 Q (F0 m 18 ls [.int x1, .ref h6]) := by
    intro H locs ls hP hD hS hl
    obtain ⟨g2, h⟩ := gdn h
    refine va_put (D := D) (ci := 6) (v := .int x1) (ty := .boolean) (C := RX6) (T := TX6) (N := 15) hx hb hts iX6 tyX6 tyX6_ok nmX6 hown hK hP hD hS 0 rfl rfl 11 (by decide) (hts (.fieldLink RX6 123 "HiddenPeriodsModel" "isWell" "Z") (by decide +kernel)) (fun _ h9 => h9) rfl (by decide +kernel) (pw_bnar (Decidable.not_not.mp g2)) (pw_bfit (Decidable.not_not.mp g2)) (Nat.le_of_ble_eq_true rfl) dX6_readsAll_18 (fun H locs hP hD hS => ?_)
    have hP : va_P D vwCl ([(h6, .inr (6, [.int thr, .ref h6_ms, .ref h6_mv, .int svm, .ref h6_mb, .int mln, .ref h6_mc, .ref h6_mg, .ref h6_mt, .ref h6_ml, .int 0, .int x1, .ref h6_mr, .int rdm, .long hsh])), (h6_ms, .inl (cI, 253, .inl ms)), (h6_mv, .inl (cI, 1518, .inl mv)), (h6_mb, .inl (cI, 60, .inl mb)), (h6_mc, .inl (cI, 160, .inl mc)), (h6_mg, .inl (cI, 160, .inl mg)), (h6_mt, .inl (cI, 240, .inl mt)), (h6_ml, .inl (cI, 240, .inl ml)), (h6_mr, .inl (cI, 600, .inl mr))] ++ []) H := hP
    have hD : va_D A ([(h6, .inr (6, [.int thr, .ref h6_ms, .ref h6_mv, .int svm, .ref h6_mb, .int mln, .ref h6_mc, .ref h6_mg, .ref h6_mt, .ref h6_ml, .int 0, .int x1, .ref h6_mr, .int rdm, .long hsh])), (h6_ms, .inl (cI, 253, .inl ms)), (h6_mv, .inl (cI, 1518, .inl mv)), (h6_mb, .inl (cI, 60, .inl mb)), (h6_mc, .inl (cI, 160, .inl mc)), (h6_mg, .inl (cI, 160, .inl mg)), (h6_mt, .inl (cI, 240, .inl mt)), (h6_ml, .inl (cI, 240, .inl ml)), (h6_mr, .inl (cI, 600, .inl mr))] ++ []) := hD
    refine lv_aload_n hx hb dX6_readsAll_21 rfl (lv_at hl 0 rfl) ?_
    refine lv_iconst (v := 0) hx hb dX6_readsAll_22 (by decide) ?_
    refine va_put (D := D) (ci := 6) (v := .int 0) (ty := .int) (C := RX6) (T := TX6) (N := 15) hx hb hts iX6 tyX6 tyX6_ok nmX6 hown hK hP hD hS 0 rfl rfl 13 (by decide) (hts (.fieldLink RX6 130 "HiddenPeriodsModel" "readMany" "I") (by decide +kernel)) (fun _ h9 => h9) rfl (by decide +kernel) rfl rfl (Nat.le_of_ble_eq_true rfl) dX6_readsAll_23 (fun H locs hP hD hS => ?_)
    have hP : va_P D vwCl ([(h6, .inr (6, [.int thr, .ref h6_ms, .ref h6_mv, .int svm, .ref h6_mb, .int mln, .ref h6_mc, .ref h6_mg, .ref h6_mt, .ref h6_ml, .int 0, .int x1, .ref h6_mr, .int 0, .long hsh])), (h6_ms, .inl (cI, 253, .inl ms)), (h6_mv, .inl (cI, 1518, .inl mv)), (h6_mb, .inl (cI, 60, .inl mb)), (h6_mc, .inl (cI, 160, .inl mc)), (h6_mg, .inl (cI, 160, .inl mg)), (h6_mt, .inl (cI, 240, .inl mt)), (h6_ml, .inl (cI, 240, .inl ml)), (h6_mr, .inl (cI, 600, .inl mr))] ++ []) H := hP
    have hD : va_D A ([(h6, .inr (6, [.int thr, .ref h6_ms, .ref h6_mv, .int svm, .ref h6_mb, .int mln, .ref h6_mc, .ref h6_mg, .ref h6_mt, .ref h6_ml, .int 0, .int x1, .ref h6_mr, .int 0, .long hsh])), (h6_ms, .inl (cI, 253, .inl ms)), (h6_mv, .inl (cI, 1518, .inl mv)), (h6_mb, .inl (cI, 60, .inl mb)), (h6_mc, .inl (cI, 160, .inl mc)), (h6_mg, .inl (cI, 160, .inl mg)), (h6_mt, .inl (cI, 240, .inl mt)), (h6_ml, .inl (cI, 240, .inl ml)), (h6_mr, .inl (cI, 600, .inl mr))] ++ []) := hD
    have L26 : ∀ (n : Nat) (mat_26 : Int32) (wel_26 : Int32) (mr_26 : Nat → Int32) (rdm_26 : Int32) (o26_1 : Int32) (o26_2 : Int32) (o26_3 : Nat → Int32) (o26_4 : Int32) (H : Heap) (locs : List Loc) (ls : Array Slot), fX6_readsAll_L26 mb mln n mat_26 wel_26 mr_26 rdm_26 = some (o26_1, o26_2, o26_3, o26_4) → va_P D vwCl ([(h6, .inr (6, [.int thr, .ref h6_ms, .ref h6_mv, .int svm, .ref h6_mb, .int mln, .ref h6_mc, .ref h6_mg, .ref h6_mt, .ref h6_ml, .int mat_26, .int wel_26, .ref h6_mr, .int rdm_26, .long hsh])), (h6_ms, .inl (cI, 253, .inl ms)), (h6_mv, .inl (cI, 1518, .inl mv)), (h6_mb, .inl (cI, 60, .inl mb)), (h6_mc, .inl (cI, 160, .inl mc)), (h6_mg, .inl (cI, 160, .inl mg)), (h6_mt, .inl (cI, 240, .inl mt)), (h6_ml, .inl (cI, 240, .inl ml)), (h6_mr, .inl (cI, 600, .inl mr_26))] ++ []) H → va_D A ([(h6, .inr (6, [.int thr, .ref h6_ms, .ref h6_mv, .int svm, .ref h6_mb, .int mln, .ref h6_mc, .ref h6_mg, .ref h6_mt, .ref h6_ml, .int mat_26, .int wel_26, .ref h6_mr, .int rdm_26, .long hsh])), (h6_ms, .inl (cI, 253, .inl ms)), (h6_mv, .inl (cI, 1518, .inl mv)), (h6_mb, .inl (cI, 60, .inl mb)), (h6_mc, .inl (cI, 160, .inl mc)), (h6_mg, .inl (cI, 160, .inl mg)), (h6_mt, .inl (cI, 240, .inl mt)), (h6_ml, .inl (cI, 240, .inl ml)), (h6_mr, .inl (cI, 600, .inl mr_26))] ++ []) → va_S A s.heap H locs → lv_has ls 1 [(0, .ref h6)] → (∀ (H : Heap) (locs : List Loc) (ls : Array Slot), va_P D vwCl ([(h6, .inr (6, [.int thr, .ref h6_ms, .ref h6_mv, .int svm, .ref h6_mb, .int mln, .ref h6_mc, .ref h6_mg, .ref h6_mt, .ref h6_ml, .int o26_1, .int o26_2, .ref h6_mr, .int o26_4, .long hsh])), (h6_ms, .inl (cI, 253, .inl ms)), (h6_mv, .inl (cI, 1518, .inl mv)), (h6_mb, .inl (cI, 60, .inl mb)), (h6_mc, .inl (cI, 160, .inl mc)), (h6_mg, .inl (cI, 160, .inl mg)), (h6_mt, .inl (cI, 240, .inl mt)), (h6_ml, .inl (cI, 240, .inl ml)), (h6_mr, .inl (cI, 600, .inl o26_3))] ++ []) H → va_D A ([(h6, .inr (6, [.int thr, .ref h6_ms, .ref h6_mv, .int svm, .ref h6_mb, .int mln, .ref h6_mc, .ref h6_mg, .ref h6_mt, .ref h6_ml, .int o26_1, .int o26_2, .ref h6_mr, .int o26_4, .long hsh])), (h6_ms, .inl (cI, 253, .inl ms)), (h6_mv, .inl (cI, 1518, .inl mv)), (h6_mb, .inl (cI, 60, .inl mb)), (h6_mc, .inl (cI, 160, .inl mc)), (h6_mg, .inl (cI, 160, .inl mg)), (h6_mt, .inl (cI, 240, .inl mt)), (h6_ml, .inl (cI, 240, .inl ml)), (h6_mr, .inl (cI, 600, .inl o26_3))] ++ []) → va_S A s.heap H locs → lv_has ls 1 [] → W p l e rmX6_readsAll s m args below meth c H locs 0 0 Q (F0 m 67 ls [])) → W p l e rmX6_readsAll s m args below meth c H locs 0 0 Q (F0 m 26 ls []) := by
      intro n
      induction n with
      | zero =>
        intro mat_26 wel_26 mr_26 rdm_26 o26_1 o26_2 o26_3 o26_4 H locs ls h
        rw [fX6_readsAll_L26] at h
        cases h
      | succ n ih =>
        intro mat_26 wel_26 mr_26 rdm_26 o26_1 o26_2 o26_3 o26_4 H locs ls h hP hD hS hl K
        rw [fX6_readsAll_L26] at h
        refine lv_aload_n hx hb dX6_readsAll_26 rfl (lv_at hl 0 rfl) ?_
        refine va_get (D := D) (ci := 6) (v := .int wel_26) (C := RX6) (T := TX6) (N := 15) hx hb hts iX6 hown hK hP 0 rfl rfl 11 (by decide) (hts (.fieldLink RX6 123 "HiddenPeriodsModel" "isWell" "Z") (by decide +kernel)) (fun _ h9 => h9) rfl dX6_readsAll_27 ?_
        refine lv_if_eq (tgt := 67) hx hb dX6_readsAll_30 (by decide) (fun cq => ?_) (fun cq => ?_)
        · replace h := ifp cq h
          cases h
          exact K _ _ _ hP hD hS (lv_sub hl [] rfl)
        · replace h := ifn cq h
          refine lv_aload_n hx hb dX6_readsAll_33 rfl (lv_at hl 0 rfl) ?_
          refine va_get (D := D) (ci := 6) (v := .int mat_26) (C := RX6) (T := TX6) (N := 15) hx hb hts iX6 hown hK hP 0 rfl rfl 10 (by decide) (hts (.fieldLink RX6 120 "HiddenPeriodsModel" "at" "I") (by decide +kernel)) (fun _ h9 => h9) rfl dX6_readsAll_34 ?_
          refine lv_aload_n hx hb dX6_readsAll_37 rfl (lv_at hl 0 rfl) ?_
          refine va_get (D := D) (ci := 6) (v := .int mln) (C := RX6) (T := TX6) (N := 15) hx hb hts iX6 hown hK hP 0 rfl rfl 5 (by decide) (hts (.fieldLink RX6 117 "HiddenPeriodsModel" "length" "I") (by decide +kernel)) (fun _ h9 => h9) rfl dX6_readsAll_38 ?_
          refine lv_icmp_ge (tgt := 67) hx hb dX6_readsAll_41 (by decide) (fun cq => ?_) (fun cq => ?_)
          · replace h := ifp cq h
            cases h
            exact K _ _ _ hP hD hS (lv_sub hl [] rfl)
          · replace h := ifn cq h
            refine lv_aload_n hx hb dX6_readsAll_44 rfl (lv_at hl 0 rfl) ?_
            obtain ⟨x3, hx3, h⟩ := bnd h
            refine pw_goi (wc := [(h6, .inr (6, [.int thr, .ref h6_ms, .ref h6_mv, .int svm, .ref h6_mb, .int mln, .ref h6_mc, .ref h6_mg, .ref h6_mt, .ref h6_ml, .int mat_26, .int wel_26, .ref h6_mr, .int rdm_26, .long hsh])), (h6_ms, .inl (cI, 253, .inl ms)), (h6_mv, .inl (cI, 1518, .inl mv)), (h6_mb, .inl (cI, 60, .inl mb)), (h6_mc, .inl (cI, 160, .inl mc)), (h6_mg, .inl (cI, 160, .inl mg)), (h6_mt, .inl (cI, 240, .inl mt)), (h6_ml, .inl (cI, 240, .inl ml)), (h6_mr, .inl (cI, 600, .inl mr_26))]) (w1 := [(h6, .inr (6, [.int thr, .ref h6_ms, .ref h6_mv, .int svm, .ref h6_mb, .int mln, .ref h6_mc, .ref h6_mg, .ref h6_mt, .ref h6_ml, .int mat_26, .int wel_26, .ref h6_mr, .int rdm_26, .long hsh])), (h6_ms, .inl (cI, 253, .inl ms)), (h6_mv, .inl (cI, 1518, .inl mv)), (h6_mb, .inl (cI, 60, .inl mb)), (h6_mc, .inl (cI, 160, .inl mc)), (h6_mg, .inl (cI, 160, .inl mg)), (h6_mt, .inl (cI, 240, .inl mt)), (h6_ml, .inl (cI, 240, .inl ml)), (h6_mr, .inl (cI, 600, .inl mr_26))]) (w2 := [(h6, .inr (6, [.int thr, .ref h6_ms, .ref h6_mv, .int svm, .ref h6_mb, .int mln, .ref h6_mc, .ref h6_mg, .ref h6_mt, .ref h6_ml, .int mat_26, .int wel_26, .ref h6_mr, .int rdm_26, .long hsh])), (h6_ms, .inl (cI, 253, .inl ms)), (h6_mv, .inl (cI, 1518, .inl mv)), (h6_mb, .inl (cI, 60, .inl mb)), (h6_mc, .inl (cI, 160, .inl mc)), (h6_mg, .inl (cI, 160, .inl mg)), (h6_mt, .inl (cI, 240, .inl mt)), (h6_ml, .inl (cI, 240, .inl ml)), (h6_mr, .inl (cI, 600, .inl mr_26))]) (va_runV (As := []) (rest := []) ⟨hx, hb, hml, hown, hts⟩ (mX6_letter l D cI cO cJ h6 h6_ms h6_mv h6_mb h6_mc h6_mg h6_mt h6_ml h6_mr H.size thr ms mv svm mb mln mc mg mt ml mat_26 wel_26 mr_26 rdm_26 hsh _ hx3) (cwV 0 hts gX6_readsAll_X6_letter rfl rfl rfl (by decide +kernel) ⟨Nat.le_of_ble_eq_true rfl, Nat.le_of_ble_eq_true rfl⟩) (pw_preV hK hN (pw_sub hP [0, 1, 2, 3, 4, 5, 6, 7, 8] rfl) (pw_subD hD [0, 1, 2, 3, 4, 5, 6, 7, 8] (by decide) rfl) (ci := 6) (q0 := 0) rfl rfl) rfl rfl hl.1 rfl (lv_room (Nat.le_of_ble_eq_true rfl)) dX6_readsAll_45 ⟨Nat.zero_le _, Nat.zero_le _⟩) hP hD hS hA [0, 1, 2, 3, 4, 5, 6, 7, 8] [] [0, 1, 2, 3, 4, 5, 6, 7, 8] rfl rfl (by decide) (by decide) (by decide) rfl (fun H locs hP hD hS => ?_)
            refine lv_bipush (v := 40) hx hb dX6_readsAll_48 (by decide) ?_
            refine lv_icmp_ne (tgt := 60) hx hb dX6_readsAll_50 (by decide) (fun cq => ?_) (fun cq => ?_)
            · replace h := ifn cq h
              refine lv_aload_n hx hb dX6_readsAll_60 rfl (lv_at hl 0 rfl) ?_
              obtain ⟨⟨x4_1, x4_2, x4_3, x4_4⟩, hx4, h⟩ := bnd h
              refine pw_gov (wc := [(h6, .inr (6, [.int thr, .ref h6_ms, .ref h6_mv, .int svm, .ref h6_mb, .int mln, .ref h6_mc, .ref h6_mg, .ref h6_mt, .ref h6_ml, .int mat_26, .int wel_26, .ref h6_mr, .int rdm_26, .long hsh])), (h6_ms, .inl (cI, 253, .inl ms)), (h6_mv, .inl (cI, 1518, .inl mv)), (h6_mb, .inl (cI, 60, .inl mb)), (h6_mc, .inl (cI, 160, .inl mc)), (h6_mg, .inl (cI, 160, .inl mg)), (h6_mt, .inl (cI, 240, .inl mt)), (h6_ml, .inl (cI, 240, .inl ml)), (h6_mr, .inl (cI, 600, .inl mr_26))]) (w1 := [(h6, .inr (6, [.int thr, .ref h6_ms, .ref h6_mv, .int svm, .ref h6_mb, .int mln, .ref h6_mc, .ref h6_mg, .ref h6_mt, .ref h6_ml, .int x4_1, .int x4_2, .ref h6_mr, .int x4_4, .long hsh])), (h6_ms, .inl (cI, 253, .inl ms)), (h6_mv, .inl (cI, 1518, .inl mv)), (h6_mb, .inl (cI, 60, .inl mb)), (h6_mc, .inl (cI, 160, .inl mc)), (h6_mg, .inl (cI, 160, .inl mg)), (h6_mt, .inl (cI, 240, .inl mt)), (h6_ml, .inl (cI, 240, .inl ml)), (h6_mr, .inl (cI, 600, .inl x4_3))]) (w2 := [(h6, .inr (6, [.int thr, .ref h6_ms, .ref h6_mv, .int svm, .ref h6_mb, .int mln, .ref h6_mc, .ref h6_mg, .ref h6_mt, .ref h6_ml, .int x4_1, .int x4_2, .ref h6_mr, .int x4_4, .long hsh])), (h6_ms, .inl (cI, 253, .inl ms)), (h6_mv, .inl (cI, 1518, .inl mv)), (h6_mb, .inl (cI, 60, .inl mb)), (h6_mc, .inl (cI, 160, .inl mc)), (h6_mg, .inl (cI, 160, .inl mg)), (h6_mt, .inl (cI, 240, .inl mt)), (h6_ml, .inl (cI, 240, .inl ml)), (h6_mr, .inl (cI, 600, .inl x4_3))]) (va_runV (As := []) (rest := []) ⟨hx, hb, hml, hown, hts⟩ (mX6_readsLetter l D cI cO cJ h6 h6_ms h6_mv h6_mb h6_mc h6_mg h6_mt h6_ml h6_mr H.size thr ms mv svm mb mln mc mg mt ml mat_26 wel_26 mr_26 rdm_26 hsh _ hx4) (cwV 0 hts gX6_readsAll_X6_readsLetter rfl rfl rfl (by decide +kernel) ⟨Nat.le_of_ble_eq_true rfl, Nat.le_of_ble_eq_true rfl⟩) (pw_preV hK hN (pw_sub hP [0, 1, 2, 3, 4, 5, 6, 7, 8] rfl) (pw_subD hD [0, 1, 2, 3, 4, 5, 6, 7, 8] (by decide) rfl) (ci := 6) (q0 := 0) rfl rfl) rfl rfl hl.1 rfl (lv_room (Nat.le_of_ble_eq_true rfl)) dX6_readsAll_61 ⟨Nat.zero_le _, Nat.zero_le _⟩) hP hD hS hA [0, 1, 2, 3, 4, 5, 6, 7, 8] [] [0, 1, 2, 3, 4, 5, 6, 7, 8] rfl rfl (by decide) (by decide) (by decide) rfl (fun H locs hP hD hS => ?_)
              refine lv_goto (tgt := 26) hx hb dX6_readsAll_64 (by decide) ?_
              exact ih _ _ _ _ _ _ _ _ _ _ _ h hP hD hS (lv_sub hl [0] rfl) K
            · replace h := ifp cq h
              refine lv_aload_n hx hb dX6_readsAll_53 rfl (lv_at hl 0 rfl) ?_
              obtain ⟨⟨x5_1, x5_2, x5_3, x5_4⟩, hx5, h⟩ := bnd h
              refine pw_gov (wc := [(h6, .inr (6, [.int thr, .ref h6_ms, .ref h6_mv, .int svm, .ref h6_mb, .int mln, .ref h6_mc, .ref h6_mg, .ref h6_mt, .ref h6_ml, .int mat_26, .int wel_26, .ref h6_mr, .int rdm_26, .long hsh])), (h6_ms, .inl (cI, 253, .inl ms)), (h6_mv, .inl (cI, 1518, .inl mv)), (h6_mb, .inl (cI, 60, .inl mb)), (h6_mc, .inl (cI, 160, .inl mc)), (h6_mg, .inl (cI, 160, .inl mg)), (h6_mt, .inl (cI, 240, .inl mt)), (h6_ml, .inl (cI, 240, .inl ml)), (h6_mr, .inl (cI, 600, .inl mr_26))]) (w1 := [(h6, .inr (6, [.int thr, .ref h6_ms, .ref h6_mv, .int svm, .ref h6_mb, .int mln, .ref h6_mc, .ref h6_mg, .ref h6_mt, .ref h6_ml, .int x5_1, .int x5_2, .ref h6_mr, .int x5_4, .long hsh])), (h6_ms, .inl (cI, 253, .inl ms)), (h6_mv, .inl (cI, 1518, .inl mv)), (h6_mb, .inl (cI, 60, .inl mb)), (h6_mc, .inl (cI, 160, .inl mc)), (h6_mg, .inl (cI, 160, .inl mg)), (h6_mt, .inl (cI, 240, .inl mt)), (h6_ml, .inl (cI, 240, .inl ml)), (h6_mr, .inl (cI, 600, .inl x5_3))]) (w2 := [(h6, .inr (6, [.int thr, .ref h6_ms, .ref h6_mv, .int svm, .ref h6_mb, .int mln, .ref h6_mc, .ref h6_mg, .ref h6_mt, .ref h6_ml, .int x5_1, .int x5_2, .ref h6_mr, .int x5_4, .long hsh])), (h6_ms, .inl (cI, 253, .inl ms)), (h6_mv, .inl (cI, 1518, .inl mv)), (h6_mb, .inl (cI, 60, .inl mb)), (h6_mc, .inl (cI, 160, .inl mc)), (h6_mg, .inl (cI, 160, .inl mg)), (h6_mt, .inl (cI, 240, .inl mt)), (h6_ml, .inl (cI, 240, .inl ml)), (h6_mr, .inl (cI, 600, .inl x5_3))]) (va_runV (As := []) (rest := []) ⟨hx, hb, hml, hown, hts⟩ (mX6_readsGroup l D cI cO cJ h6 h6_ms h6_mv h6_mb h6_mc h6_mg h6_mt h6_ml h6_mr H.size thr ms mv svm mb mln mc mg mt ml mat_26 wel_26 mr_26 rdm_26 hsh _ hx5) (cwV 0 hts gX6_readsAll_X6_readsGroup rfl rfl rfl (by decide +kernel) ⟨Nat.le_of_ble_eq_true rfl, Nat.le_of_ble_eq_true rfl⟩) (pw_preV hK hN (pw_sub hP [0, 1, 2, 3, 4, 5, 6, 7, 8] rfl) (pw_subD hD [0, 1, 2, 3, 4, 5, 6, 7, 8] (by decide) rfl) (ci := 6) (q0 := 0) rfl rfl) rfl rfl hl.1 rfl (lv_room (Nat.le_of_ble_eq_true rfl)) dX6_readsAll_54 ⟨Nat.zero_le _, Nat.zero_le _⟩) hP hD hS hA [0, 1, 2, 3, 4, 5, 6, 7, 8] [] [0, 1, 2, 3, 4, 5, 6, 7, 8] rfl rfl (by decide) (by decide) (by decide) rfl (fun H locs hP hD hS => ?_)
              refine lv_goto (tgt := 26) hx hb dX6_readsAll_57 (by decide) ?_
              exact ih _ _ _ _ _ _ _ _ _ _ _ h hP hD hS (lv_sub hl [0] rfl) K
    obtain ⟨⟨x6_1, x6_2, x6_3, x6_4⟩, hx6, h⟩ := bnd h
    refine L26 FU _ _ _ _ _ _ _ _ _ _ _ hx6 hP hD hS (lv_sub hl [0] rfl) (fun H locs ls hP hD hS hl => ?_)
    cases h
    exact pw_vret hx hb hr hlocks hAe hQ hP hD hS dX6_readsAll_67
  replace h := hx1
  refine lv_if_le (tgt := 17) hx hb dX6_readsAll_10 (by decide) (fun cq => ?_) (fun cq => ?_)
  · replace h := ifp cq h
    refine lv_iconst (v := 0) hx hb dX6_readsAll_17 (by decide) ?_
    cases h
    exact Jx1 _ _ _ hP hD hS (lv_sub hl [0] rfl)
  · replace h := ifn cq h
    refine lv_iconst (v := 1) hx hb dX6_readsAll_13 (by decide) ?_
    refine lv_goto (tgt := 18) hx hb dX6_readsAll_14 (by decide) ?_
    cases h
    exact Jx1 _ _ _ hP hD hS (lv_sub hl [0] rfl)

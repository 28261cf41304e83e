def fX6_phaseOf (ms : Nat → Int32) (a1 : Int32) : Option Int32 :=
  if oob ((5 + (2 * a1)) + 1) 253 then none else
  some (ms (((5 + (2 * a1)) + 1)).toNatClampNeg)
abbrev rmX6_phaseOf : Room := { frames := 0, cells := 0, slots := 0, locals := 0 }
set_option maxHeartbeats 4000000 in
set_option maxRecDepth 100000 in
theorem mX6_phaseOf (l : Launch) (D : va_G) (cI cO cJ : ClassId) (h6 h6_ms h6_mv h6_mb h6_mc h6_mg h6_mt h6_ml h6_mr : Nat) (sz : Nat) (thr : Int32) (ms : Nat → Int32) (mv : Nat → Int32) (svm : Int32) (mb : Nat → Int32) (mln : Int32) (mc : Nat → Int32) (mg : Nat → Int32) (mt : Nat → Int32) (ml : Nat → Int32) (mat : Int32) (wel : Int32) (mr : Nat → Int32) (rdm : Int32) (hsh : Int64) (a1 : Int32) (z : Int32) (h : fX6_phaseOf ms a1 = some z) : Met l yX6_phaseOf wsX6_phaseOf rmX6_phaseOf (pw_pre D (tyL cI cO cJ) [.ref h6, .int a1] [(h6, .inr (6, [.int thr, .ref h6_ms, .ref h6_mv, .int svm, .ref h6_mb, .int mln, .ref h6_mc, .ref h6_mg, .ref h6_mt, .ref h6_ml, .int mat, .int wel, .ref h6_mr, .int rdm, .long hsh])), (h6_ms, .inl (cI, 253, .inl ms)), (h6_mv, .inl (cI, 1518, .inl mv)), (h6_mb, .inl (cI, 60, .inl mb)), (h6_mc, .inl (cI, 160, .inl mc)), (h6_mg, .inl (cI, 160, .inl mg)), (h6_mt, .inl (cI, 240, .inl mt)), (h6_ml, .inl (cI, 240, .inl ml)), (h6_mr, .inl (cI, 600, .inl mr))] sz) (pw_i D [(h6, .inr (6, [.int thr, .ref h6_ms, .ref h6_mv, .int svm, .ref h6_mb, .int mln, .ref h6_mc, .ref h6_mg, .ref h6_mt, .ref h6_ml, .int mat, .int wel, .ref h6_mr, .int rdm, .long hsh])), (h6_ms, .inl (cI, 253, .inl ms)), (h6_mv, .inl (cI, 1518, .inl mv)), (h6_mb, .inl (cI, 60, .inl mb)), (h6_mc, .inl (cI, 160, .inl mc)), (h6_mg, .inl (cI, 160, .inl mg)), (h6_mt, .inl (cI, 240, .inl mt)), (h6_ml, .inl (cI, 240, .inl ml)), (h6_mr, .inl (cI, 600, .inl mr))] [(h6, .inr (6, [.int thr, .ref h6_ms, .ref h6_mv, .int svm, .ref h6_mb, .int mln, .ref h6_mc, .ref h6_mg, .ref h6_mt, .ref h6_ml, .int mat, .int wel, .ref h6_mr, .int rdm, .long hsh])), (h6_ms, .inl (cI, 253, .inl ms)), (h6_mv, .inl (cI, 1518, .inl mv)), (h6_mb, .inl (cI, 60, .inl mb)), (h6_mc, .inl (cI, 160, .inl mc)), (h6_mg, .inl (cI, 160, .inl mg)), (h6_mt, .inl (cI, 240, .inl mt)), (h6_ml, .inl (cI, 240, .inl ml)), (h6_mr, .inl (cI, 600, .inl mr))] z sz) 0 0 (va_A [(h6, .inr (6, [.int thr, .ref h6_ms, .ref h6_mv, .int svm, .ref h6_mb, .int mln, .ref h6_mc, .ref h6_mg, .ref h6_mt, .ref h6_ml, .int mat, .int wel, .ref h6_mr, .int rdm, .long hsh])), (h6_ms, .inl (cI, 253, .inl ms)), (h6_mv, .inl (cI, 1518, .inl mv)), (h6_mb, .inl (cI, 60, .inl mb)), (h6_mc, .inl (cI, 160, .inl mc)), (h6_mg, .inl (cI, 160, .inl mg)), (h6_mt, .inl (cI, 240, .inl mt)), (h6_ml, .inl (cI, 240, .inl ml)), (h6_mr, .inl (cI, 600, .inl mr))] sz) := by
  refine pw_of (Qc := fun sz => pw_i D [(h6, .inr (6, [.int thr, .ref h6_ms, .ref h6_mv, .int svm, .ref h6_mb, .int mln, .ref h6_mc, .ref h6_mg, .ref h6_mt, .ref h6_ml, .int mat, .int wel, .ref h6_mr, .int rdm, .long hsh])), (h6_ms, .inl (cI, 253, .inl ms)), (h6_mv, .inl (cI, 1518, .inl mv)), (h6_mb, .inl (cI, 60, .inl mb)), (h6_mc, .inl (cI, 160, .inl mc)), (h6_mg, .inl (cI, 160, .inl mg)), (h6_mt, .inl (cI, 240, .inl mt)), (h6_ml, .inl (cI, 240, .inl ml)), (h6_mr, .inl (cI, 600, .inl mr))] [(h6, .inr (6, [.int thr, .ref h6_ms, .ref h6_mv, .int svm, .ref h6_mb, .int mln, .ref h6_mc, .ref h6_mg, .ref h6_mt, .ref h6_ml, .int mat, .int wel, .ref h6_mr, .int rdm, .long hsh])), (h6_ms, .inl (cI, 253, .inl ms)), (h6_mv, .inl (cI, 1518, .inl mv)), (h6_mb, .inl (cI, 60, .inl mb)), (h6_mc, .inl (cI, 160, .inl mc)), (h6_mg, .inl (cI, 160, .inl mg)), (h6_mt, .inl (cI, 240, .inl mt)), (h6_ml, .inl (cI, 240, .inl ml)), (h6_mr, .inl (cI, 600, .inl mr))] z sz) (cc := cX6_phaseOf) (maxL := 2) (ret := (some .int)) (by decide) rfl (Nat.le_of_ble_eq_true rfl) ?_
  intro p e s m args below meth c A Q H ls hx hb hml hr hts hown hlocks hAe hQ hK hN hA hP hD hS hl
  have hown : s.vm.findClass RX6 = some m.cls := hown
  have hl : lv_has ls 2 [(0, .ref h6), (1, .int a1)] := hl
  have hP : va_P D vwCl ([(h6, .inr (6, [.int thr, .ref h6_ms, .ref h6_mv, .int svm, .ref h6_mb, .int mln, .ref h6_mc, .ref h6_mg, .ref h6_mt, .ref h6_ml, .int mat, .int wel, .ref h6_mr, .int rdm, .long hsh])), (h6_ms, .inl (cI, 253, .inl ms)), (h6_mv, .inl (cI, 1518, .inl mv)), (h6_mb, .inl (cI, 60, .inl mb)), (h6_mc, .inl (cI, 160, .inl mc)), (h6_mg, .inl (cI, 160, .inl mg)), (h6_mt, .inl (cI, 240, .inl mt)), (h6_ml, .inl (cI, 240, .inl ml)), (h6_mr, .inl (cI, 600, .inl mr))] ++ []) H := hP
  have hD : va_D A ([(h6, .inr (6, [.int thr, .ref h6_ms, .ref h6_mv, .int svm, .ref h6_mb, .int mln, .ref h6_mc, .ref h6_mg, .ref h6_mt, .ref h6_ml, .int mat, .int wel, .ref h6_mr, .int rdm, .long hsh])), (h6_ms, .inl (cI, 253, .inl ms)), (h6_mv, .inl (cI, 1518, .inl mv)), (h6_mb, .inl (cI, 60, .inl mb)), (h6_mc, .inl (cI, 160, .inl mc)), (h6_mg, .inl (cI, 160, .inl mg)), (h6_mt, .inl (cI, 240, .inl mt)), (h6_ml, .inl (cI, 240, .inl ml)), (h6_mr, .inl (cI, 600, .inl mr))] ++ []) := hD
  have iX6 : ∀ w ∈ u_ws RX6 TX6 15, w ∈ wsX6_phaseOf := fun _ h => List.mem_cons_of_mem _ (List.mem_append_right _ h)
  unfold fX6_phaseOf at h
  refine lv_aload_n hx hb dX6_phaseOf_0 rfl (lv_at hl 0 rfl) ?_
  refine va_get (D := D) (ci := 6) (v := .ref h6_ms) (C := RX6) (T := TX6) (N := 15) hx hb hts iX6 hown hK hP 0 rfl rfl 1 (by decide) (hts (.fieldLink RX6 7 "HiddenPeriodsModel" "s" "[I") (by decide +kernel)) (fun _ h9 => h9) rfl dX6_phaseOf_1 ?_
  refine lv_iconst (v := 5) hx hb dX6_phaseOf_4 (by decide) ?_
  refine lv_iconst (v := 2) hx hb dX6_phaseOf_5 (by decide) ?_
  refine lv_iload_n hx hb dX6_phaseOf_6 rfl (lv_at hl 1 rfl) ?_
  refine lv_imul hx hb dX6_phaseOf_7 ?_
  refine lv_iadd hx hb dX6_phaseOf_8 ?_
  refine lv_iconst (v := 1) hx hb dX6_phaseOf_9 (by decide) ?_
  refine lv_iadd hx hb dX6_phaseOf_10 ?_
  obtain ⟨g1, h⟩ := gdn h
  refine va_iald hx hb hK hP 1 0 rfl rfl g1 dX6_phaseOf_11 ?_
  cases h
  exact pw_iret hx hb hr hlocks hAe hQ hP hD hS dX6_phaseOf_12
def fX6_laysPeriod (ms : Nat → Int32) (mc : Nat → Int32) (a1 : Int32) : Option (Nat → Int32) :=
  (fX6_tenthsOf ms a1).bind fun x1 =>
  (fX6_phaseOf ms a1).bind fun x2 =>
  (fX6_firstPlace ms).bind fun x3 =>
  (fX6_lastPlace ms).bind fun x4 =>
  (fX6_lays ms mc x1 x2 x3 x4).bind fun x5 =>
  some x5
abbrev rmX6_laysPeriod : Room := { frames := 2, cells := 0, slots := 0, locals := 47 }
set_option maxHeartbeats 4000000 in
set_option maxRecDepth 100000 in
theorem mX6_laysPeriod (l : Launch) (D : va_G) (cI cO cJ : ClassId) (h6 h6_ms h6_mv h6_mb h6_mc h6_mg h6_mt h6_ml h6_mr : Nat) (sz : Nat) (thr : Int32) (ms : Nat → Int32) (mv : Nat → Int32) (svm : Int32) (mb : Nat → Int32) (mln : Int32) (mc : Nat → Int32) (mg : Nat → Int32) (mt : Nat → Int32) (ml : Nat → Int32) (mat : Int32) (wel : Int32) (mr : Nat → Int32) (rdm : Int32) (hsh : Int64) (a1 : Int32) (z : Nat → Int32) (h : fX6_laysPeriod ms mc a1 = some z) : Met l yX6_laysPeriod wsX6_laysPeriod rmX6_laysPeriod (pw_pre D (tyL cI cO cJ) [.ref h6, .int a1] [(h6, .inr (6, [.int thr, .ref h6_ms, .ref h6_mv, .int svm, .ref h6_mb, .int mln, .ref h6_mc, .ref h6_mg, .ref h6_mt, .ref h6_ml, .int mat, .int wel, .ref h6_mr, .int rdm, .long hsh])), (h6_ms, .inl (cI, 253, .inl ms)), (h6_mv, .inl (cI, 1518, .inl mv)), (h6_mb, .inl (cI, 60, .inl mb)), (h6_mc, .inl (cI, 160, .inl mc)), (h6_mg, .inl (cI, 160, .inl mg)), (h6_mt, .inl (cI, 240, .inl mt)), (h6_ml, .inl (cI, 240, .inl ml)), (h6_mr, .inl (cI, 600, .inl mr))] sz) (pw_v D [(h6, .inr (6, [.int thr, .ref h6_ms, .ref h6_mv, .int svm, .ref h6_mb, .int mln, .ref h6_mc, .ref h6_mg, .ref h6_mt, .ref h6_ml, .int mat, .int wel, .ref h6_mr, .int rdm, .long hsh])), (h6_ms, .inl (cI, 253, .inl ms)), (h6_mv, .inl (cI, 1518, .inl mv)), (h6_mb, .inl (cI, 60, .inl mb)), (h6_mc, .inl (cI, 160, .inl mc)), (h6_mg, .inl (cI, 160, .inl mg)), (h6_mt, .inl (cI, 240, .inl mt)), (h6_ml, .inl (cI, 240, .inl ml)), (h6_mr, .inl (cI, 600, .inl mr))] [(h6, .inr (6, [.int thr, .ref h6_ms, .ref h6_mv, .int svm, .ref h6_mb, .int mln, .ref h6_mc, .ref h6_mg, .ref h6_mt, .ref h6_ml, .int mat, .int wel, .ref h6_mr, .int rdm, .long hsh])), (h6_ms, .inl (cI, 253, .inl ms)), (h6_mv, .inl (cI, 1518, .inl mv)), (h6_mb, .inl (cI, 60, .inl mb)), (h6_mc, .inl (cI, 160, .inl z)), (h6_mg, .inl (cI, 160, .inl mg)), (h6_mt, .inl (cI, 240, .inl mt)), (h6_ml, .inl (cI, 240, .inl ml)), (h6_mr, .inl (cI, 600, .inl mr))] sz) 0 0 (va_A [(h6, .inr (6, [.int thr, .ref h6_ms, .ref h6_mv, .int svm, .ref h6_mb, .int mln, .ref h6_mc, .ref h6_mg, .ref h6_mt, .ref h6_ml, .int mat, .int wel, .ref h6_mr, .int rdm, .long hsh])), (h6_ms, .inl (cI, 253, .inl ms)), (h6_mv, .inl (cI, 1518, .inl mv)), (h6_mb, .inl (cI, 60, .inl mb)), (h6_mc, .inl (cI, 160, .inl mc)), (h6_mg, .inl (cI, 160, .inl mg)), (h6_mt, .inl (cI, 240, .inl mt)), (h6_ml, .inl (cI, 240, .inl ml)), (h6_mr, .inl (cI, 600, .inl mr))] sz) := by
  refine pw_of (Qc := fun sz => pw_v D [(h6, .inr (6, [.int thr, .ref h6_ms, .ref h6_mv, .int svm, .ref h6_mb, .int mln, .ref h6_mc, .ref h6_mg, .ref h6_mt, .ref h6_ml, .int mat, .int wel, .ref h6_mr, .int rdm, .long hsh])), (h6_ms, .inl (cI, 253, .inl ms)), (h6_mv, .inl (cI, 1518, .inl mv)), (h6_mb, .inl (cI, 60, .inl mb)), (h6_mc, .inl (cI, 160, .inl mc)), (h6_mg, .inl (cI, 160, .inl mg)), (h6_mt, .inl (cI, 240, .inl mt)), (h6_ml, .inl (cI, 240, .inl ml)), (h6_mr, .inl (cI, 600, .inl mr))] [(h6, .inr (6, [.int thr, .ref h6_ms, .ref h6_mv, .int svm, .ref h6_mb, .int mln, .ref h6_mc, .ref h6_mg, .ref h6_mt, .ref h6_ml, .int mat, .int wel, .ref h6_mr, .int rdm, .long hsh])), (h6_ms, .inl (cI, 253, .inl ms)), (h6_mv, .inl (cI, 1518, .inl mv)), (h6_mb, .inl (cI, 60, .inl mb)), (h6_mc, .inl (cI, 160, .inl z)), (h6_mg, .inl (cI, 160, .inl mg)), (h6_mt, .inl (cI, 240, .inl mt)), (h6_ml, .inl (cI, 240, .inl ml)), (h6_mr, .inl (cI, 600, .inl mr))] sz) (cc := cX6_laysPeriod) (maxL := 2) (ret := none) (by decide) rfl (Nat.le_of_ble_eq_true rfl) ?_
  intro p e s m args below meth c A Q H ls hx hb hml hr hts hown hlocks hAe hQ hK hN hA hP hD hS hl
  have hown : s.vm.findClass RX6 = some m.cls := hown
  have hl : lv_has ls 2 [(0, .ref h6), (1, .int a1)] := hl
  have hP : va_P D vwCl ([(h6, .inr (6, [.int thr, .ref h6_ms, .ref h6_mv, .int svm, .ref h6_mb, .int mln, .ref h6_mc, .ref h6_mg, .ref h6_mt, .ref h6_ml, .int mat, .int wel, .ref h6_mr, .int rdm, .long hsh])), (h6_ms, .inl (cI, 253, .inl ms)), (h6_mv, .inl (cI, 1518, .inl mv)), (h6_mb, .inl (cI, 60, .inl mb)), (h6_mc, .inl (cI, 160, .inl mc)), (h6_mg, .inl (cI, 160, .inl mg)), (h6_mt, .inl (cI, 240, .inl mt)), (h6_ml, .inl (cI, 240, .inl ml)), (h6_mr, .inl (cI, 600, .inl mr))] ++ []) H := hP
  have hD : va_D A ([(h6, .inr (6, [.int thr, .ref h6_ms, .ref h6_mv, .int svm, .ref h6_mb, .int mln, .ref h6_mc, .ref h6_mg, .ref h6_mt, .ref h6_ml, .int mat, .int wel, .ref h6_mr, .int rdm, .long hsh])), (h6_ms, .inl (cI, 253, .inl ms)), (h6_mv, .inl (cI, 1518, .inl mv)), (h6_mb, .inl (cI, 60, .inl mb)), (h6_mc, .inl (cI, 160, .inl mc)), (h6_mg, .inl (cI, 160, .inl mg)), (h6_mt, .inl (cI, 240, .inl mt)), (h6_ml, .inl (cI, 240, .inl ml)), (h6_mr, .inl (cI, 600, .inl mr))] ++ []) := hD
  unfold fX6_laysPeriod at h
  refine lv_aload_n hx hb dX6_laysPeriod_0 rfl (lv_at hl 0 rfl) ?_
  refine lv_aload_n hx hb dX6_laysPeriod_1 rfl (lv_at hl 0 rfl) ?_
  refine lv_iload_n hx hb dX6_laysPeriod_2 rfl (lv_at hl 1 rfl) ?_
  obtain ⟨x1, hx1, h⟩ := bnd h
  refine pw_goi (wc := [(h6, .inr (6, [.int thr, .ref h6_ms, .ref h6_mv, .int svm, .ref h6_mb, .int mln, .ref h6_mc, .ref h6_mg, .ref h6_mt, .ref h6_ml, .int mat, .int wel, .ref h6_mr, .int rdm, .long hsh])), (h6_ms, .inl (cI, 253, .inl ms)), (h6_mv, .inl (cI, 1518, .inl mv)), (h6_mb, .inl (cI, 60, .inl mb)), (h6_mc, .inl (cI, 160, .inl mc)), (h6_mg, .inl (cI, 160, .inl mg)), (h6_mt, .inl (cI, 240, .inl mt)), (h6_ml, .inl (cI, 240, .inl ml)), (h6_mr, .inl (cI, 600, .inl mr))]) (w1 := [(h6, .inr (6, [.int thr, .ref h6_ms, .ref h6_mv, .int svm, .ref h6_mb, .int mln, .ref h6_mc, .ref h6_mg, .ref h6_mt, .ref h6_ml, .int mat, .int wel, .ref h6_mr, .int rdm, .long hsh])), (h6_ms, .inl (cI, 253, .inl ms)), (h6_mv, .inl (cI, 1518, .inl mv)), (h6_mb, .inl (cI, 60, .inl mb)), (h6_mc, .inl (cI, 160, .inl mc)), (h6_mg, .inl (cI, 160, .inl mg)), (h6_mt, .inl (cI, 240, .inl mt)), (h6_ml, .inl (cI, 240, .inl ml)), (h6_mr, .inl (cI, 600, .inl mr))]) (w2 := [(h6, .inr (6, [.int thr, .ref h6_ms, .ref h6_mv, .int svm, .ref h6_mb, .int mln, .ref h6_mc, .ref h6_mg, .ref h6_mt, .ref h6_ml, .int mat, .int wel, .ref h6_mr, .int rdm, .long hsh])), (h6_ms, .inl (cI, 253, .inl ms)), (h6_mv, .inl (cI, 1518, .inl mv)), (h6_mb, .inl (cI, 60, .inl mb)), (h6_mc, .inl (cI, 160, .inl mc)), (h6_mg, .inl (cI, 160, .inl mg)), (h6_mt, .inl (cI, 240, .inl mt)), (h6_ml, .inl (cI, 240, .inl ml)), (h6_mr, .inl (cI, 600, .inl mr))]) (va_runV (As := [.int a1]) (rest := [.ref h6]) ⟨hx, hb, hml, hown, hts⟩ (mX6_tenthsOf l D cI cO cJ h6 h6_ms h6_mv h6_mb h6_mc h6_mg h6_mt h6_ml h6_mr H.size thr ms mv svm mb mln mc mg mt ml mat wel mr rdm hsh a1 _ hx1) (cwV 1 hts gX6_laysPeriod_X6_tenthsOf rfl rfl rfl (by decide +kernel) ⟨Nat.le_of_ble_eq_true rfl, Nat.le_of_ble_eq_true rfl⟩) (pw_preV hK hN (pw_sub hP [0, 1, 2, 3, 4, 5, 6, 7, 8] rfl) (pw_subD hD [0, 1, 2, 3, 4, 5, 6, 7, 8] (by decide) rfl) (ci := 6) (q0 := 0) rfl rfl) rfl rfl hl.1 rfl (lv_room (Nat.le_of_ble_eq_true rfl)) dX6_laysPeriod_3 ⟨Nat.zero_le _, Nat.zero_le _⟩) hP hD hS hA [0, 1, 2, 3, 4, 5, 6, 7, 8] [] [0, 1, 2, 3, 4, 5, 6, 7, 8] rfl rfl (by decide) (by decide) (by decide) rfl (fun H locs hP hD hS => ?_)
  refine lv_aload_n hx hb dX6_laysPeriod_6 rfl (lv_at hl 0 rfl) ?_
  refine lv_iload_n hx hb dX6_laysPeriod_7 rfl (lv_at hl 1 rfl) ?_
  obtain ⟨x2, hx2, h⟩ := bnd h
  refine pw_goi (wc := [(h6, .inr (6, [.int thr, .ref h6_ms, .ref h6_mv, .int svm, .ref h6_mb, .int mln, .ref h6_mc, .ref h6_mg, .ref h6_mt, .ref h6_ml, .int mat, .int wel, .ref h6_mr, .int rdm, .long hsh])), (h6_ms, .inl (cI, 253, .inl ms)), (h6_mv, .inl (cI, 1518, .inl mv)), (h6_mb, .inl (cI, 60, .inl mb)), (h6_mc, .inl (cI, 160, .inl mc)), (h6_mg, .inl (cI, 160, .inl mg)), (h6_mt, .inl (cI, 240, .inl mt)), (h6_ml, .inl (cI, 240, .inl ml)), (h6_mr, .inl (cI, 600, .inl mr))]) (w1 := [(h6, .inr (6, [.int thr, .ref h6_ms, .ref h6_mv, .int svm, .ref h6_mb, .int mln, .ref h6_mc, .ref h6_mg, .ref h6_mt, .ref h6_ml, .int mat, .int wel, .ref h6_mr, .int rdm, .long hsh])), (h6_ms, .inl (cI, 253, .inl ms)), (h6_mv, .inl (cI, 1518, .inl mv)), (h6_mb, .inl (cI, 60, .inl mb)), (h6_mc, .inl (cI, 160, .inl mc)), (h6_mg, .inl (cI, 160, .inl mg)), (h6_mt, .inl (cI, 240, .inl mt)), (h6_ml, .inl (cI, 240, .inl ml)), (h6_mr, .inl (cI, 600, .inl mr))]) (w2 := [(h6, .inr (6, [.int thr, .ref h6_ms, .ref h6_mv, .int svm, .ref h6_mb, .int mln, .ref h6_mc, .ref h6_mg, .ref h6_mt, .ref h6_ml, .int mat, .int wel, .ref h6_mr, .int rdm, .long hsh])), (h6_ms, .inl (cI, 253, .inl ms)), (h6_mv, .inl (cI, 1518, .inl mv)), (h6_mb, .inl (cI, 60, .inl mb)), (h6_mc, .inl (cI, 160, .inl mc)), (h6_mg, .inl (cI, 160, .inl mg)), (h6_mt, .inl (cI, 240, .inl mt)), (h6_ml, .inl (cI, 240, .inl ml)), (h6_mr, .inl (cI, 600, .inl mr))]) (va_runV (As := [.int a1]) (rest := [.int x1, .ref h6]) ⟨hx, hb, hml, hown, hts⟩ (mX6_phaseOf l D cI cO cJ h6 h6_ms h6_mv h6_mb h6_mc h6_mg h6_mt h6_ml h6_mr H.size thr ms mv svm mb mln mc mg mt ml mat wel mr rdm hsh a1 _ hx2) (cwV 1 hts gX6_laysPeriod_X6_phaseOf rfl rfl rfl (by decide +kernel) ⟨Nat.le_of_ble_eq_true rfl, Nat.le_of_ble_eq_true rfl⟩) (pw_preV hK hN (pw_sub hP [0, 1, 2, 3, 4, 5, 6, 7, 8] rfl) (pw_subD hD [0, 1, 2, 3, 4, 5, 6, 7, 8] (by decide) rfl) (ci := 6) (q0 := 0) rfl rfl) rfl rfl hl.1 rfl (lv_room (Nat.le_of_ble_eq_true rfl)) dX6_laysPeriod_8 ⟨Nat.zero_le _, Nat.zero_le _⟩) hP hD hS hA [0, 1, 2, 3, 4, 5, 6, 7, 8] [] [0, 1, 2, 3, 4, 5, 6, 7, 8] rfl rfl (by decide) (by decide) (by decide) rfl (fun H locs hP hD hS => ?_)
  refine lv_aload_n hx hb dX6_laysPeriod_11 rfl (lv_at hl 0 rfl) ?_
  obtain ⟨x3, hx3, h⟩ := bnd h
  refine pw_goi (wc := [(h6, .inr (6, [.int thr, .ref h6_ms, .ref h6_mv, .int svm, .ref h6_mb, .int mln, .ref h6_mc, .ref h6_mg, .ref h6_mt, .ref h6_ml, .int mat, .int wel, .ref h6_mr, .int rdm, .long hsh])), (h6_ms, .inl (cI, 253, .inl ms)), (h6_mv, .inl (cI, 1518, .inl mv)), (h6_mb, .inl (cI, 60, .inl mb)), (h6_mc, .inl (cI, 160, .inl mc)), (h6_mg, .inl (cI, 160, .inl mg)), (h6_mt, .inl (cI, 240, .inl mt)), (h6_ml, .inl (cI, 240, .inl ml)), (h6_mr, .inl (cI, 600, .inl mr))]) (w1 := [(h6, .inr (6, [.int thr, .ref h6_ms, .ref h6_mv, .int svm, .ref h6_mb, .int mln, .ref h6_mc, .ref h6_mg, .ref h6_mt, .ref h6_ml, .int mat, .int wel, .ref h6_mr, .int rdm, .long hsh])), (h6_ms, .inl (cI, 253, .inl ms)), (h6_mv, .inl (cI, 1518, .inl mv)), (h6_mb, .inl (cI, 60, .inl mb)), (h6_mc, .inl (cI, 160, .inl mc)), (h6_mg, .inl (cI, 160, .inl mg)), (h6_mt, .inl (cI, 240, .inl mt)), (h6_ml, .inl (cI, 240, .inl ml)), (h6_mr, .inl (cI, 600, .inl mr))]) (w2 := [(h6, .inr (6, [.int thr, .ref h6_ms, .ref h6_mv, .int svm, .ref h6_mb, .int mln, .ref h6_mc, .ref h6_mg, .ref h6_mt, .ref h6_ml, .int mat, .int wel, .ref h6_mr, .int rdm, .long hsh])), (h6_ms, .inl (cI, 253, .inl ms)), (h6_mv, .inl (cI, 1518, .inl mv)), (h6_mb, .inl (cI, 60, .inl mb)), (h6_mc, .inl (cI, 160, .inl mc)), (h6_mg, .inl (cI, 160, .inl mg)), (h6_mt, .inl (cI, 240, .inl mt)), (h6_ml, .inl (cI, 240, .inl ml)), (h6_mr, .inl (cI, 600, .inl mr))]) (va_runV (As := []) (rest := [.int x2, .int x1, .ref h6]) ⟨hx, hb, hml, hown, hts⟩ (mX6_firstPlace l D cI cO cJ h6 h6_ms h6_mv h6_mb h6_mc h6_mg h6_mt h6_ml h6_mr H.size thr ms mv svm mb mln mc mg mt ml mat wel mr rdm hsh _ hx3) (cwV 0 hts gX6_laysPeriod_X6_firstPlace rfl rfl rfl (by decide +kernel) ⟨Nat.le_of_ble_eq_true rfl, Nat.le_of_ble_eq_true rfl⟩) (pw_preV hK hN (pw_sub hP [0, 1, 2, 3, 4, 5, 6, 7, 8] rfl) (pw_subD hD [0, 1, 2, 3, 4, 5, 6, 7, 8] (by decide) rfl) (ci := 6) (q0 := 0) rfl rfl) rfl rfl hl.1 rfl (lv_room (Nat.le_of_ble_eq_true rfl)) dX6_laysPeriod_12 ⟨Nat.zero_le _, Nat.zero_le _⟩) hP hD hS hA [0, 1, 2, 3, 4, 5, 6, 7, 8] [] [0, 1, 2, 3, 4, 5, 6, 7, 8] rfl rfl (by decide) (by decide) (by decide) rfl (fun H locs hP hD hS => ?_)
  refine lv_aload_n hx hb dX6_laysPeriod_15 rfl (lv_at hl 0 rfl) ?_
  obtain ⟨x4, hx4, h⟩ := bnd h
  refine pw_goi (wc := [(h6, .inr (6, [.int thr, .ref h6_ms, .ref h6_mv, .int svm, .ref h6_mb, .int mln, .ref h6_mc, .ref h6_mg, .ref h6_mt, .ref h6_ml, .int mat, .int wel, .ref h6_mr, .int rdm, .long hsh])), (h6_ms, .inl (cI, 253, .inl ms)), (h6_mv, .inl (cI, 1518, .inl mv)), (h6_mb, .inl (cI, 60, .inl mb)), (h6_mc, .inl (cI, 160, .inl mc)), (h6_mg, .inl (cI, 160, .inl mg)), (h6_mt, .inl (cI, 240, .inl mt)), (h6_ml, .inl (cI, 240, .inl ml)), (h6_mr, .inl (cI, 600, .inl mr))]) (w1 := [(h6, .inr (6, [.int thr, .ref h6_ms, .ref h6_mv, .int svm, .ref h6_mb, .int mln, .ref h6_mc, .ref h6_mg, .ref h6_mt, .ref h6_ml, .int mat, .int wel, .ref h6_mr, .int rdm, .long hsh])), (h6_ms, .inl (cI, 253, .inl ms)), (h6_mv, .inl (cI, 1518, .inl mv)), (h6_mb, .inl (cI, 60, .inl mb)), (h6_mc, .inl (cI, 160, .inl mc)), (h6_mg, .inl (cI, 160, .inl mg)), (h6_mt, .inl (cI, 240, .inl mt)), (h6_ml, .inl (cI, 240, .inl ml)), (h6_mr, .inl (cI, 600, .inl mr))]) (w2 := [(h6, .inr (6, [.int thr, .ref h6_ms, .ref h6_mv, .int svm, .ref h6_mb, .int mln, .ref h6_mc, .ref h6_mg, .ref h6_mt, .ref h6_ml, .int mat, .int wel, .ref h6_mr, .int rdm, .long hsh])), (h6_ms, .inl (cI, 253, .inl ms)), (h6_mv, .inl (cI, 1518, .inl mv)), (h6_mb, .inl (cI, 60, .inl mb)), (h6_mc, .inl (cI, 160, .inl mc)), (h6_mg, .inl (cI, 160, .inl mg)), (h6_mt, .inl (cI, 240, .inl mt)), (h6_ml, .inl (cI, 240, .inl ml)), (h6_mr, .inl (cI, 600, .inl mr))]) (va_runV (As := []) (rest := [.int x3, .int x2, .int x1, .ref h6]) ⟨hx, hb, hml, hown, hts⟩ (mX6_lastPlace l D cI cO cJ h6 h6_ms h6_mv h6_mb h6_mc h6_mg h6_mt h6_ml h6_mr H.size thr ms mv svm mb mln mc mg mt ml mat wel mr rdm hsh _ hx4) (cwV 0 hts gX6_laysPeriod_X6_lastPlace rfl rfl rfl (by decide +kernel) ⟨Nat.le_of_ble_eq_true rfl, Nat.le_of_ble_eq_true rfl⟩) (pw_preV hK hN (pw_sub hP [0, 1, 2, 3, 4, 5, 6, 7, 8] rfl) (pw_subD hD [0, 1, 2, 3, 4, 5, 6, 7, 8] (by decide) rfl) (ci := 6) (q0 := 0) rfl rfl) rfl rfl hl.1 rfl (lv_room (Nat.le_of_ble_eq_true rfl)) dX6_laysPeriod_16 ⟨Nat.zero_le _, Nat.zero_le _⟩) hP hD hS hA [0, 1, 2, 3, 4, 5, 6, 7, 8] [] [0, 1, 2, 3, 4, 5, 6, 7, 8] rfl rfl (by decide) (by decide) (by decide) rfl (fun H locs hP hD hS => ?_)
  obtain ⟨x5, hx5, h⟩ := bnd h
  refine pw_gov (wc := [(h6, .inr (6, [.int thr, .ref h6_ms, .ref h6_mv, .int svm, .ref h6_mb, .int mln, .ref h6_mc, .ref h6_mg, .ref h6_mt, .ref h6_ml, .int mat, .int wel, .ref h6_mr, .int rdm, .long hsh])), (h6_ms, .inl (cI, 253, .inl ms)), (h6_mv, .inl (cI, 1518, .inl mv)), (h6_mb, .inl (cI, 60, .inl mb)), (h6_mc, .inl (cI, 160, .inl mc)), (h6_mg, .inl (cI, 160, .inl mg)), (h6_mt, .inl (cI, 240, .inl mt)), (h6_ml, .inl (cI, 240, .inl ml)), (h6_mr, .inl (cI, 600, .inl mr))]) (w1 := [(h6, .inr (6, [.int thr, .ref h6_ms, .ref h6_mv, .int svm, .ref h6_mb, .int mln, .ref h6_mc, .ref h6_mg, .ref h6_mt, .ref h6_ml, .int mat, .int wel, .ref h6_mr, .int rdm, .long hsh])), (h6_ms, .inl (cI, 253, .inl ms)), (h6_mv, .inl (cI, 1518, .inl mv)), (h6_mb, .inl (cI, 60, .inl mb)), (h6_mc, .inl (cI, 160, .inl x5)), (h6_mg, .inl (cI, 160, .inl mg)), (h6_mt, .inl (cI, 240, .inl mt)), (h6_ml, .inl (cI, 240, .inl ml)), (h6_mr, .inl (cI, 600, .inl mr))]) (w2 := [(h6, .inr (6, [.int thr, .ref h6_ms, .ref h6_mv, .int svm, .ref h6_mb, .int mln, .ref h6_mc, .ref h6_mg, .ref h6_mt, .ref h6_ml, .int mat, .int wel, .ref h6_mr, .int rdm, .long hsh])), (h6_ms, .inl (cI, 253, .inl ms)), (h6_mv, .inl (cI, 1518, .inl mv)), (h6_mb, .inl (cI, 60, .inl mb)), (h6_mc, .inl (cI, 160, .inl x5)), (h6_mg, .inl (cI, 160, .inl mg)), (h6_mt, .inl (cI, 240, .inl mt)), (h6_ml, .inl (cI, 240, .inl ml)), (h6_mr, .inl (cI, 600, .inl mr))]) (va_runV (As := [.int x1, .int x2, .int x3, .int x4]) (rest := []) ⟨hx, hb, hml, hown, hts⟩ (mX6_lays l D cI cO cJ h6 h6_ms h6_mv h6_mb h6_mc h6_mg h6_mt h6_ml h6_mr H.size thr ms mv svm mb mln mc mg mt ml mat wel mr rdm hsh x1 x2 x3 x4 _ hx5) (cwV 4 hts gX6_laysPeriod_X6_lays rfl rfl rfl (by decide +kernel) ⟨Nat.le_of_ble_eq_true rfl, Nat.le_of_ble_eq_true rfl⟩) (pw_preV hK hN (pw_sub hP [0, 1, 2, 3, 4, 5, 6, 7, 8] rfl) (pw_subD hD [0, 1, 2, 3, 4, 5, 6, 7, 8] (by decide) rfl) (ci := 6) (q0 := 0) rfl rfl) rfl rfl hl.1 rfl (lv_room (Nat.le_of_ble_eq_true rfl)) dX6_laysPeriod_19 ⟨Nat.zero_le _, Nat.zero_le _⟩) hP hD hS hA [0, 1, 2, 3, 4, 5, 6, 7, 8] [] [0, 1, 2, 3, 4, 5, 6, 7, 8] rfl rfl (by decide) (by decide) (by decide) rfl (fun H locs hP hD hS => ?_)
  cases h
  exact pw_vret hx hb hr hlocks hAe hQ hP hD hS dX6_laysPeriod_22
def fX6_laysTold_L19 (ms : Nat → Int32) (v1_2 : Int32) (x2 : Nat → Int32) : Nat → Int32 → (Nat → Int32) → Option (Nat → Int32)
  | 0, _, _ => none
  | n + 1, v2_19, mg_19 =>
    (fX6_tenthsOf ms v1_2).bind fun x3 =>
    (fX6_classesOf x3).bind fun x4 =>
    if x4 ≤ v2_19 then
    some mg_19
    else
    (fX6_isStrong ms x2 v2_19).bind fun x5 =>
    if x5 = 0 then
    if oob ((40 * v1_2) + v2_19) 160 then none else
    fX6_laysTold_L19 ms v1_2 x2 n (v2_19 + 1) (upd mg_19 (((40 * v1_2) + v2_19)).toNatClampNeg (-1))
    else
    (fX6_signOf x2 v2_19).bind fun x7 =>
    if oob ((40 * v1_2) + v2_19) 160 then none else
    fX6_laysTold_L19 ms v1_2 x2 n (v2_19 + 1) (upd mg_19 (((40 * v1_2) + v2_19)).toNatClampNeg x7)
def fX6_laysTold_L2 (ms : Nat → Int32) : Nat → Int32 → (Nat → Int32) → (Nat → Int32) → Option ((Nat → Int32) × (Nat → Int32))
  | 0, _, _, _ => none
  | n + 1, v1_2, mc_2, mg_2 =>
    if oob 4 253 then none else
    if (ms (4 : Int32).toNatClampNeg) ≤ v1_2 then
    some (mc_2, mg_2)
    else
    (fX6_laysPeriod ms mc_2 v1_2).bind fun x2 =>
    (fX6_laysTold_L19 ms v1_2 x2 FU 0 mg_2).bind fun x9 =>
    fX6_laysTold_L2 ms n (v1_2 + 1) x2 x9
def fX6_laysTold_L114 (ms : Nat → Int32) (x10_2 : Nat → Int32) (v1_73 : Int32) (x16 : Int32) : Nat → Int32 → (Nat → Int32) → (Nat → Int32) → Option ((Nat → Int32) × (Nat → Int32))
  | 0, _, _, _ => none
  | n + 1, v3_114, mt_114, ml_114 =>
    if oob 4 253 then none else
    if (ms (4 : Int32).toNatClampNeg) ≤ v3_114 then
    some (mt_114, ml_114)
    else
    if x16 = 0 then
    some (mt_114, ml_114)
    else
    if oob v1_73 240 then none else
    if (ml_114 v1_73.toNatClampNeg) = (-1) then
    (fX6_tenthsOf ms v3_114).bind fun x19 =>
    (fX6_phaseOf ms v3_114).bind fun x20 =>
    (fX6_classOf v1_73 x19 x20).bind fun x21 =>
    if oob ((40 * v3_114) + x21) 160 then none else
    if oob v1_73 240 then none else
    if (x10_2 (((40 * v3_114) + x21)).toNatClampNeg) = (-1) then
    if oob v1_73 240 then none else
    fX6_laysTold_L114 ms x10_2 v1_73 x16 n (v3_114 + 1) (upd mt_114 v1_73.toNatClampNeg (x10_2 (((40 * v3_114) + x21)).toNatClampNeg)) (upd ml_114 v1_73.toNatClampNeg (-1))
    else
    if oob v1_73 240 then none else
    fX6_laysTold_L114 ms x10_2 v1_73 x16 n (v3_114 + 1) (upd mt_114 v1_73.toNatClampNeg (x10_2 (((40 * v3_114) + x21)).toNatClampNeg)) (upd ml_114 v1_73.toNatClampNeg v3_114)
    else
    some (mt_114, ml_114)
def fX6_laysTold_L73 (ms : Nat → Int32) (x10_2 : Nat → Int32) : Nat → Int32 → (Nat → Int32) → (Nat → Int32) → Option ((Nat → Int32) × (Nat → Int32))
  | 0, _, _, _ => none
  | n + 1, v1_73, mt_73, ml_73 =>
    if oob 0 253 then none else
    if (ms (0 : Int32).toNatClampNeg) ≤ v1_73 then
    some (mt_73, ml_73)
    else
    if oob v1_73 240 then none else
    if oob v1_73 240 then none else
    (fX6_firstPlace ms).bind fun x14 =>
    (fX6_lastPlace ms).bind fun x15 =>
    (fX6_in v1_73 x14 (x15 - 1)).bind fun x16 =>
    (fX6_laysTold_L114 ms x10_2 v1_73 x16 FU 0 (upd mt_73 v1_73.toNatClampNeg (-1)) (upd ml_73 v1_73.toNatClampNeg (-1))).bind fun (x26_1, x26_2) =>
    fX6_laysTold_L73 ms x10_2 n (v1_73 + 1) x26_1 x26_2
def fX6_laysTold (ms : Nat → Int32) (mc : Nat → Int32) (mg : Nat → Int32) (mt : Nat → Int32) (ml : Nat → Int32) : Option ((Nat → Int32) × (Nat → Int32) × (Nat → Int32) × (Nat → Int32)) :=
  (fX6_laysTold_L2 ms FU 0 mc mg).bind fun (x10_1, x10_2) =>
  (fX6_laysTold_L73 ms x10_2 FU 0 mt ml).bind fun (x27_1, x27_2) =>
  some (x10_1, x10_2, x27_1, x27_2)
abbrev rmX6_laysTold : Room := { frames := 3, cells := 0, slots := 0, locals := 68 }
set_option maxHeartbeats 4000000 in
set_option maxRecDepth 100000 in
theorem mX6_laysTold (l : Launch) (D : va_G) (cI cO cJ : ClassId) (h6 h6_ms h6_mv h6_mb h6_mc h6_mg h6_mt h6_ml h6_mr : Nat) (sz : Nat) (thr : Int32) (ms : Nat → Int32) (mv : Nat → Int32) (svm : Int32) (mb : Nat → Int32) (mln : Int32) (mc : Nat → Int32) (mg : Nat → Int32) (mt : Nat → Int32) (ml : Nat → Int32) (mat : Int32) (wel : Int32) (mr : Nat → Int32) (rdm : Int32) (hsh : Int64) (z : (Nat → Int32) × (Nat → Int32) × (Nat → Int32) × (Nat → Int32)) (h : fX6_laysTold ms mc mg mt ml = some z) : Met l yX6_laysTold wsX6_laysTold rmX6_laysTold (pw_pre D (tyL cI cO cJ) [.ref h6] [(h6, .inr (6, [.int thr, .ref h6_ms, .ref h6_mv, .int svm, .ref h6_mb, .int mln, .ref h6_mc, .ref h6_mg, .ref h6_mt, .ref h6_ml, .int mat, .int wel, .ref h6_mr, .int rdm, .long hsh])), (h6_ms, .inl (cI, 253, .inl ms)), (h6_mv, .inl (cI, 1518, .inl mv)), (h6_mb, .inl (cI, 60, .inl mb)), (h6_mc, .inl (cI, 160, .inl mc)), (h6_mg, .inl (cI, 160, .inl mg)), (h6_mt, .inl (cI, 240, .inl mt)), (h6_ml, .inl (cI, 240, .inl ml)), (h6_mr, .inl (cI, 600, .inl mr))] sz) (pw_v D [(h6, .inr (6, [.int thr, .ref h6_ms, .ref h6_mv, .int svm, .ref h6_mb, .int mln, .ref h6_mc, .ref h6_mg, .ref h6_mt, .ref h6_ml, .int mat, .int wel, .ref h6_mr, .int rdm, .long hsh])), (h6_ms, .inl (cI, 253, .inl ms)), (h6_mv, .inl (cI, 1518, .inl mv)), (h6_mb, .inl (cI, 60, .inl mb)), (h6_mc, .inl (cI, 160, .inl mc)), (h6_mg, .inl (cI, 160, .inl mg)), (h6_mt, .inl (cI, 240, .inl mt)), (h6_ml, .inl (cI, 240, .inl ml)), (h6_mr, .inl (cI, 600, .inl mr))] [(h6, .inr (6, [.int thr, .ref h6_ms, .ref h6_mv, .int svm, .ref h6_mb, .int mln, .ref h6_mc, .ref h6_mg, .ref h6_mt, .ref h6_ml, .int mat, .int wel, .ref h6_mr, .int rdm, .long hsh])), (h6_ms, .inl (cI, 253, .inl ms)), (h6_mv, .inl (cI, 1518, .inl mv)), (h6_mb, .inl (cI, 60, .inl mb)), (h6_mc, .inl (cI, 160, .inl z.1)), (h6_mg, .inl (cI, 160, .inl z.2.1)), (h6_mt, .inl (cI, 240, .inl z.2.2.1)), (h6_ml, .inl (cI, 240, .inl z.2.2.2)), (h6_mr, .inl (cI, 600, .inl mr))] sz) 0 0 (va_A [(h6, .inr (6, [.int thr, .ref h6_ms, .ref h6_mv, .int svm, .ref h6_mb, .int mln, .ref h6_mc, .ref h6_mg, .ref h6_mt, .ref h6_ml, .int mat, .int wel, .ref h6_mr, .int rdm, .long hsh])), (h6_ms, .inl (cI, 253, .inl ms)), (h6_mv, .inl (cI, 1518, .inl mv)), (h6_mb, .inl (cI, 60, .inl mb)), (h6_mc, .inl (cI, 160, .inl mc)), (h6_mg, .inl (cI, 160, .inl mg)), (h6_mt, .inl (cI, 240, .inl mt)), (h6_ml, .inl (cI, 240, .inl ml)), (h6_mr, .inl (cI, 600, .inl mr))] sz) := by
  refine pw_of (Qc := fun sz => pw_v D [(h6, .inr (6, [.int thr, .ref h6_ms, .ref h6_mv, .int svm, .ref h6_mb, .int mln, .ref h6_mc, .ref h6_mg, .ref h6_mt, .ref h6_ml, .int mat, .int wel, .ref h6_mr, .int rdm, .long hsh])), (h6_ms, .inl (cI, 253, .inl ms)), (h6_mv, .inl (cI, 1518, .inl mv)), (h6_mb, .inl (cI, 60, .inl mb)), (h6_mc, .inl (cI, 160, .inl mc)), (h6_mg, .inl (cI, 160, .inl mg)), (h6_mt, .inl (cI, 240, .inl mt)), (h6_ml, .inl (cI, 240, .inl ml)), (h6_mr, .inl (cI, 600, .inl mr))] [(h6, .inr (6, [.int thr, .ref h6_ms, .ref h6_mv, .int svm, .ref h6_mb, .int mln, .ref h6_mc, .ref h6_mg, .ref h6_mt, .ref h6_ml, .int mat, .int wel, .ref h6_mr, .int rdm, .long hsh])), (h6_ms, .inl (cI, 253, .inl ms)), (h6_mv, .inl (cI, 1518, .inl mv)), (h6_mb, .inl (cI, 60, .inl mb)), (h6_mc, .inl (cI, 160, .inl z.1)), (h6_mg, .inl (cI, 160, .inl z.2.1)), (h6_mt, .inl (cI, 240, .inl z.2.2.1)), (h6_ml, .inl (cI, 240, .inl z.2.2.2)), (h6_mr, .inl (cI, 600, .inl mr))] sz) (cc := cX6_laysTold) (maxL := 5) (ret := none) (by decide) rfl (Nat.le_of_ble_eq_true rfl) ?_
  intro p e s m args below meth c A Q H ls hx hb hml hr hts hown hlocks hAe hQ hK hN hA hP hD hS hl
  have hown : s.vm.findClass RX6 = some m.cls := hown
  have hl : lv_has ls 5 [(0, .ref h6)] := hl
  have hP : va_P D vwCl ([(h6, .inr (6, [.int thr, .ref h6_ms, .ref h6_mv, .int svm, .ref h6_mb, .int mln, .ref h6_mc, .ref h6_mg, .ref h6_mt, .ref h6_ml, .int mat, .int wel, .ref h6_mr, .int rdm, .long hsh])), (h6_ms, .inl (cI, 253, .inl ms)), (h6_mv, .inl (cI, 1518, .inl mv)), (h6_mb, .inl (cI, 60, .inl mb)), (h6_mc, .inl (cI, 160, .inl mc)), (h6_mg, .inl (cI, 160, .inl mg)), (h6_mt, .inl (cI, 240, .inl mt)), (h6_ml, .inl (cI, 240, .inl ml)), (h6_mr, .inl (cI, 600, .inl mr))] ++ []) H := hP
  have hD : va_D A ([(h6, .inr (6, [.int thr, .ref h6_ms, .ref h6_mv, .int svm, .ref h6_mb, .int mln, .ref h6_mc, .ref h6_mg, .ref h6_mt, .ref h6_ml, .int mat, .int wel, .ref h6_mr, .int rdm, .long hsh])), (h6_ms, .inl (cI, 253, .inl ms)), (h6_mv, .inl (cI, 1518, .inl mv)), (h6_mb, .inl (cI, 60, .inl mb)), (h6_mc, .inl (cI, 160, .inl mc)), (h6_mg, .inl (cI, 160, .inl mg)), (h6_mt, .inl (cI, 240, .inl mt)), (h6_ml, .inl (cI, 240, .inl ml)), (h6_mr, .inl (cI, 600, .inl mr))] ++ []) := hD
  have iX6 : ∀ w ∈ u_ws RX6 TX6 15, w ∈ wsX6_laysTold := fun _ h => List.mem_cons_of_mem _ (List.mem_append_right _ h)
  unfold fX6_laysTold at h
  refine lv_iconst (v := 0) hx hb dX6_laysTold_0 (by decide) ?_
  refine lv_istore_n (lv' := [(1, .int 0), (0, .ref h6)]) hx hb dX6_laysTold_1 rfl hl (by decide) rfl (fun ls hl => ?_)
  have L2 : ∀ (n : Nat) (v1_2 : Int32) (mc_2 : Nat → Int32) (mg_2 : Nat → Int32) (o2_1 : Nat → Int32) (o2_2 : Nat → Int32) (H : Heap) (locs : List Loc) (ls : Array Slot), fX6_laysTold_L2 ms n v1_2 mc_2 mg_2 = some (o2_1, o2_2) → va_P D vwCl ([(h6, .inr (6, [.int thr, .ref h6_ms, .ref h6_mv, .int svm, .ref h6_mb, .int mln, .ref h6_mc, .ref h6_mg, .ref h6_mt, .ref h6_ml, .int mat, .int wel, .ref h6_mr, .int rdm, .long hsh])), (h6_ms, .inl (cI, 253, .inl ms)), (h6_mv, .inl (cI, 1518, .inl mv)), (h6_mb, .inl (cI, 60, .inl mb)), (h6_mc, .inl (cI, 160, .inl mc_2)), (h6_mg, .inl (cI, 160, .inl mg_2)), (h6_mt, .inl (cI, 240, .inl mt)), (h6_ml, .inl (cI, 240, .inl ml)), (h6_mr, .inl (cI, 600, .inl mr))] ++ []) H → va_D A ([(h6, .inr (6, [.int thr, .ref h6_ms, .ref h6_mv, .int svm, .ref h6_mb, .int mln, .ref h6_mc, .ref h6_mg, .ref h6_mt, .ref h6_ml, .int mat, .int wel, .ref h6_mr, .int rdm, .long hsh])), (h6_ms, .inl (cI, 253, .inl ms)), (h6_mv, .inl (cI, 1518, .inl mv)), (h6_mb, .inl (cI, 60, .inl mb)), (h6_mc, .inl (cI, 160, .inl mc_2)), (h6_mg, .inl (cI, 160, .inl mg_2)), (h6_mt, .inl (cI, 240, .inl mt)), (h6_ml, .inl (cI, 240, .inl ml)), (h6_mr, .inl (cI, 600, .inl mr))] ++ []) → va_S A s.heap H locs → lv_has ls 5 [(0, .ref h6), (1, .int v1_2)] → (∀ (H : Heap) (locs : List Loc) (ls : Array Slot), va_P D vwCl ([(h6, .inr (6, [.int thr, .ref h6_ms, .ref h6_mv, .int svm, .ref h6_mb, .int mln, .ref h6_mc, .ref h6_mg, .ref h6_mt, .ref h6_ml, .int mat, .int wel, .ref h6_mr, .int rdm, .long hsh])), (h6_ms, .inl (cI, 253, .inl ms)), (h6_mv, .inl (cI, 1518, .inl mv)), (h6_mb, .inl (cI, 60, .inl mb)), (h6_mc, .inl (cI, 160, .inl o2_1)), (h6_mg, .inl (cI, 160, .inl o2_2)), (h6_mt, .inl (cI, 240, .inl mt)), (h6_ml, .inl (cI, 240, .inl ml)), (h6_mr, .inl (cI, 600, .inl mr))] ++ []) H → va_D A ([(h6, .inr (6, [.int thr, .ref h6_ms, .ref h6_mv, .int svm, .ref h6_mb, .int mln, .ref h6_mc, .ref h6_mg, .ref h6_mt, .ref h6_ml, .int mat, .int wel, .ref h6_mr, .int rdm, .long hsh])), (h6_ms, .inl (cI, 253, .inl ms)), (h6_mv, .inl (cI, 1518, .inl mv)), (h6_mb, .inl (cI, 60, .inl mb)), (h6_mc, .inl (cI, 160, .inl o2_1)), (h6_mg, .inl (cI, 160, .inl o2_2)), (h6_mt, .inl (cI, 240, .inl mt)), (h6_ml, .inl (cI, 240, .inl ml)), (h6_mr, .inl (cI, 600, .inl mr))] ++ []) → va_S A s.heap H locs → lv_has ls 5 [(0, .ref h6)] → W p l e rmX6_laysTold s m args below meth c H locs 0 0 Q (F0 m 71 ls [])) → W p l e rmX6_laysTold s m args below meth c H locs 0 0 Q (F0 m 2 ls []) := by
    intro n
    induction n with
    | zero =>
      intro v1_2 mc_2 mg_2 o2_1 o2_2 H locs ls h
      rw [fX6_laysTold_L2] at h
      cases h
    | succ n ih =>
      intro v1_2 mc_2 mg_2 o2_1 o2_2 H locs ls h hP hD hS hl K
      rw [fX6_laysTold_L2] at h
      refine lv_iload_n hx hb dX6_laysTold_2 rfl (lv_at hl 1 rfl) ?_
      refine lv_aload_n hx hb dX6_laysTold_3 rfl (lv_at hl 0 rfl) ?_
      refine va_get (D := D) (ci := 6) (v := .ref h6_ms) (C := RX6) (T := TX6) (N := 15) hx hb hts iX6 hown hK hP 0 rfl rfl 1 (by decide) (hts (.fieldLink RX6 7 "HiddenPeriodsModel" "s" "[I") (by decide +kernel)) (fun _ h9 => h9) rfl dX6_laysTold_4 ?_
      refine lv_iconst (v := 4) hx hb dX6_laysTold_7 (by decide) ?_
      obtain ⟨g1, h⟩ := gdn h
      refine va_iald hx hb hK hP 1 0 rfl rfl g1 dX6_laysTold_8 ?_
      refine lv_icmp_ge (tgt := 71) hx hb dX6_laysTold_9 (by decide) (fun cq => ?_) (fun cq => ?_)
      · replace h := ifp cq h
        cases h
        exact K _ _ _ hP hD hS (lv_sub hl [0] rfl)
      · replace h := ifn cq h
        refine lv_aload_n hx hb dX6_laysTold_12 rfl (lv_at hl 0 rfl) ?_
        refine lv_iload_n hx hb dX6_laysTold_13 rfl (lv_at hl 1 rfl) ?_
        obtain ⟨x2, hx2, h⟩ := bnd h
        refine pw_gov (wc := [(h6, .inr (6, [.int thr, .ref h6_ms, .ref h6_mv, .int svm, .ref h6_mb, .int mln, .ref h6_mc, .ref h6_mg, .ref h6_mt, .ref h6_ml, .int mat, .int wel, .ref h6_mr, .int rdm, .long hsh])), (h6_ms, .inl (cI, 253, .inl ms)), (h6_mv, .inl (cI, 1518, .inl mv)), (h6_mb, .inl (cI, 60, .inl mb)), (h6_mc, .inl (cI, 160, .inl mc_2)), (h6_mg, .inl (cI, 160, .inl mg_2)), (h6_mt, .inl (cI, 240, .inl mt)), (h6_ml, .inl (cI, 240, .inl ml)), (h6_mr, .inl (cI, 600, .inl mr))]) (w1 := [(h6, .inr (6, [.int thr, .ref h6_ms, .ref h6_mv, .int svm, .ref h6_mb, .int mln, .ref h6_mc, .ref h6_mg, .ref h6_mt, .ref h6_ml, .int mat, .int wel, .ref h6_mr, .int rdm, .long hsh])), (h6_ms, .inl (cI, 253, .inl ms)), (h6_mv, .inl (cI, 1518, .inl mv)), (h6_mb, .inl (cI, 60, .inl mb)), (h6_mc, .inl (cI, 160, .inl x2)), (h6_mg, .inl (cI, 160, .inl mg_2)), (h6_mt, .inl (cI, 240, .inl mt)), (h6_ml, .inl (cI, 240, .inl ml)), (h6_mr, .inl (cI, 600, .inl mr))]) (w2 := [(h6, .inr (6, [.int thr, .ref h6_ms, .ref h6_mv, .int svm, .ref h6_mb, .int mln, .ref h6_mc, .ref h6_mg, .ref h6_mt, .ref h6_ml, .int mat, .int wel, .ref h6_mr, .int rdm, .long hsh])), (h6_ms, .inl (cI, 253, .inl ms)), (h6_mv, .inl (cI, 1518, .inl mv)), (h6_mb, .inl (cI, 60, .inl mb)), (h6_mc, .inl (cI, 160, .inl x2)), (h6_mg, .inl (cI, 160, .inl mg_2)), (h6_mt, .inl (cI, 240, .inl mt)), (h6_ml, .inl (cI, 240, .inl ml)), (h6_mr, .inl (cI, 600, .inl mr))]) (va_runV (As := [.int v1_2]) (rest := []) ⟨hx, hb, hml, hown, hts⟩ (mX6_laysPeriod l D cI cO cJ h6 h6_ms h6_mv h6_mb h6_mc h6_mg h6_mt h6_ml h6_mr H.size thr ms mv svm mb mln mc_2 mg_2 mt ml mat wel mr rdm hsh v1_2 _ hx2) (cwV 1 hts gX6_laysTold_X6_laysPeriod rfl rfl rfl (by decide +kernel) ⟨Nat.le_of_ble_eq_true rfl, Nat.le_of_ble_eq_true rfl⟩) (pw_preV hK hN (pw_sub hP [0, 1, 2, 3, 4, 5, 6, 7, 8] rfl) (pw_subD hD [0, 1, 2, 3, 4, 5, 6, 7, 8] (by decide) rfl) (ci := 6) (q0 := 0) rfl rfl) rfl rfl hl.1 rfl (lv_room (Nat.le_of_ble_eq_true rfl)) dX6_laysTold_14 ⟨Nat.zero_le _, Nat.zero_le _⟩) hP hD hS hA [0, 1, 2, 3, 4, 5, 6, 7, 8] [] [0, 1, 2, 3, 4, 5, 6, 7, 8] rfl rfl (by decide) (by decide) (by decide) rfl (fun H locs hP hD hS => ?_)
        refine lv_iconst (v := 0) hx hb dX6_laysTold_17 (by decide) ?_
        refine lv_istore_n (lv' := [(2, .int 0), (0, .ref h6), (1, .int v1_2)]) hx hb dX6_laysTold_18 rfl hl (by decide) rfl (fun ls hl => ?_)
        have L19 : ∀ (n : Nat) (v2_19 : Int32) (mg_19 : Nat → Int32) (o19_1 : Nat → Int32) (H : Heap) (locs : List Loc) (ls : Array Slot), fX6_laysTold_L19 ms v1_2 x2 n v2_19 mg_19 = some o19_1 → va_P D vwCl ([(h6, .inr (6, [.int thr, .ref h6_ms, .ref h6_mv, .int svm, .ref h6_mb, .int mln, .ref h6_mc, .ref h6_mg, .ref h6_mt, .ref h6_ml, .int mat, .int wel, .ref h6_mr, .int rdm, .long hsh])), (h6_ms, .inl (cI, 253, .inl ms)), (h6_mv, .inl (cI, 1518, .inl mv)), (h6_mb, .inl (cI, 60, .inl mb)), (h6_mc, .inl (cI, 160, .inl x2)), (h6_mg, .inl (cI, 160, .inl mg_19)), (h6_mt, .inl (cI, 240, .inl mt)), (h6_ml, .inl (cI, 240, .inl ml)), (h6_mr, .inl (cI, 600, .inl mr))] ++ []) H → va_D A ([(h6, .inr (6, [.int thr, .ref h6_ms, .ref h6_mv, .int svm, .ref h6_mb, .int mln, .ref h6_mc, .ref h6_mg, .ref h6_mt, .ref h6_ml, .int mat, .int wel, .ref h6_mr, .int rdm, .long hsh])), (h6_ms, .inl (cI, 253, .inl ms)), (h6_mv, .inl (cI, 1518, .inl mv)), (h6_mb, .inl (cI, 60, .inl mb)), (h6_mc, .inl (cI, 160, .inl x2)), (h6_mg, .inl (cI, 160, .inl mg_19)), (h6_mt, .inl (cI, 240, .inl mt)), (h6_ml, .inl (cI, 240, .inl ml)), (h6_mr, .inl (cI, 600, .inl mr))] ++ []) → va_S A s.heap H locs → lv_has ls 5 [(0, .ref h6), (1, .int v1_2), (2, .int v2_19)] → (∀ (H : Heap) (locs : List Loc) (ls : Array Slot), va_P D vwCl ([(h6, .inr (6, [.int thr, .ref h6_ms, .ref h6_mv, .int svm, .ref h6_mb, .int mln, .ref h6_mc, .ref h6_mg, .ref h6_mt, .ref h6_ml, .int mat, .int wel, .ref h6_mr, .int rdm, .long hsh])), (h6_ms, .inl (cI, 253, .inl ms)), (h6_mv, .inl (cI, 1518, .inl mv)), (h6_mb, .inl (cI, 60, .inl mb)), (h6_mc, .inl (cI, 160, .inl x2)), (h6_mg, .inl (cI, 160, .inl o19_1)), (h6_mt, .inl (cI, 240, .inl mt)), (h6_ml, .inl (cI, 240, .inl ml)), (h6_mr, .inl (cI, 600, .inl mr))] ++ []) H → va_D A ([(h6, .inr (6, [.int thr, .ref h6_ms, .ref h6_mv, .int svm, .ref h6_mb, .int mln, .ref h6_mc, .ref h6_mg, .ref h6_mt, .ref h6_ml, .int mat, .int wel, .ref h6_mr, .int rdm, .long hsh])), (h6_ms, .inl (cI, 253, .inl ms)), (h6_mv, .inl (cI, 1518, .inl mv)), (h6_mb, .inl (cI, 60, .inl mb)), (h6_mc, .inl (cI, 160, .inl x2)), (h6_mg, .inl (cI, 160, .inl o19_1)), (h6_mt, .inl (cI, 240, .inl mt)), (h6_ml, .inl (cI, 240, .inl ml)), (h6_mr, .inl (cI, 600, .inl mr))] ++ []) → va_S A s.heap H locs → lv_has ls 5 [(0, .ref h6), (1, .int v1_2)] → W p l e rmX6_laysTold s m args below meth c H locs 0 0 Q (F0 m 65 ls [])) → W p l e rmX6_laysTold s m args below meth c H locs 0 0 Q (F0 m 19 ls []) := by
          intro n
          induction n with
          | zero =>
            intro v2_19 mg_19 o19_1 H locs ls h
            rw [fX6_laysTold_L19] at h
            cases h
          | succ n ih =>
            intro v2_19 mg_19 o19_1 H locs ls h hP hD hS hl K
            rw [fX6_laysTold_L19] at h
            refine lv_iload_n hx hb dX6_laysTold_19 rfl (lv_at hl 2 rfl) ?_
            refine lv_aload_n hx hb dX6_laysTold_20 rfl (lv_at hl 0 rfl) ?_
            refine lv_iload_n hx hb dX6_laysTold_21 rfl (lv_at hl 1 rfl) ?_
            obtain ⟨x3, hx3, h⟩ := bnd h
            refine pw_goi (wc := [(h6, .inr (6, [.int thr, .ref h6_ms, .ref h6_mv, .int svm, .ref h6_mb, .int mln, .ref h6_mc, .ref h6_mg, .ref h6_mt, .ref h6_ml, .int mat, .int wel, .ref h6_mr, .int rdm, .long hsh])), (h6_ms, .inl (cI, 253, .inl ms)), (h6_mv, .inl (cI, 1518, .inl mv)), (h6_mb, .inl (cI, 60, .inl mb)), (h6_mc, .inl (cI, 160, .inl x2)), (h6_mg, .inl (cI, 160, .inl mg_19)), (h6_mt, .inl (cI, 240, .inl mt)), (h6_ml, .inl (cI, 240, .inl ml)), (h6_mr, .inl (cI, 600, .inl mr))]) (w1 := [(h6, .inr (6, [.int thr, .ref h6_ms, .ref h6_mv, .int svm, .ref h6_mb, .int mln, .ref h6_mc, .ref h6_mg, .ref h6_mt, .ref h6_ml, .int mat, .int wel, .ref h6_mr, .int rdm, .long hsh])), (h6_ms, .inl (cI, 253, .inl ms)), (h6_mv, .inl (cI, 1518, .inl mv)), (h6_mb, .inl (cI, 60, .inl mb)), (h6_mc, .inl (cI, 160, .inl x2)), (h6_mg, .inl (cI, 160, .inl mg_19)), (h6_mt, .inl (cI, 240, .inl mt)), (h6_ml, .inl (cI, 240, .inl ml)), (h6_mr, .inl (cI, 600, .inl mr))]) (w2 := [(h6, .inr (6, [.int thr, .ref h6_ms, .ref h6_mv, .int svm, .ref h6_mb, .int mln, .ref h6_mc, .ref h6_mg, .ref h6_mt, .ref h6_ml, .int mat, .int wel, .ref h6_mr, .int rdm, .long hsh])), (h6_ms, .inl (cI, 253, .inl ms)), (h6_mv, .inl (cI, 1518, .inl mv)), (h6_mb, .inl (cI, 60, .inl mb)), (h6_mc, .inl (cI, 160, .inl x2)), (h6_mg, .inl (cI, 160, .inl mg_19)), (h6_mt, .inl (cI, 240, .inl mt)), (h6_ml, .inl (cI, 240, .inl ml)), (h6_mr, .inl (cI, 600, .inl mr))]) (va_runV (As := [.int v1_2]) (rest := [.int v2_19]) ⟨hx, hb, hml, hown, hts⟩ (mX6_tenthsOf l D cI cO cJ h6 h6_ms h6_mv h6_mb h6_mc h6_mg h6_mt h6_ml h6_mr H.size thr ms mv svm mb mln x2 mg_19 mt ml mat wel mr rdm hsh v1_2 _ hx3) (cwV 1 hts gX6_laysTold_X6_tenthsOf rfl rfl rfl (by decide +kernel) ⟨Nat.le_of_ble_eq_true rfl, Nat.le_of_ble_eq_true rfl⟩) (pw_preV hK hN (pw_sub hP [0, 1, 2, 3, 4, 5, 6, 7, 8] rfl) (pw_subD hD [0, 1, 2, 3, 4, 5, 6, 7, 8] (by decide) rfl) (ci := 6) (q0 := 0) rfl rfl) rfl rfl hl.1 rfl (lv_room (Nat.le_of_ble_eq_true rfl)) dX6_laysTold_22 ⟨Nat.zero_le _, Nat.zero_le _⟩) hP hD hS hA [0, 1, 2, 3, 4, 5, 6, 7, 8] [] [0, 1, 2, 3, 4, 5, 6, 7, 8] rfl rfl (by decide) (by decide) (by decide) rfl (fun H locs hP hD hS => ?_)
            obtain ⟨x4, hx4, h⟩ := bnd h
            refine pw_go0 (va_runS (As := [.int x3]) (rest := [.int v2_19]) ⟨hx, hb, hml, hown, hts⟩ (mX6_classesOf l D cI cO cJ H.size x3 _ hx4) (va_cwS 1 hts gX6_laysTold_X6_classesOf rfl rfl rfl (by decide +kernel) ⟨Nat.le_of_ble_eq_true rfl, Nat.le_of_ble_eq_true rfl⟩) (pw_preS hK hN pw_nilP (pw_nilD (A := A))) rfl rfl hl.1 rfl (lv_room (Nat.le_of_ble_eq_true rfl)) dX6_laysTold_25 ⟨Nat.zero_le _, Nat.zero_le _⟩) hP hS hA (fun H locs hP hS => ?_)
            refine lv_icmp_ge (tgt := 65) hx hb dX6_laysTold_28 (by decide) (fun cq => ?_) (fun cq => ?_)
            · replace h := ifp cq h
              cases h
              exact K _ _ _ hP hD hS (lv_sub hl [0, 1] rfl)
            · replace h := ifn cq h
              refine lv_aload_n hx hb dX6_laysTold_31 rfl (lv_at hl 0 rfl) ?_
              refine va_get (D := D) (ci := 6) (v := .ref h6_mg) (C := RX6) (T := TX6) (N := 15) hx hb hts iX6 hown hK hP 0 rfl rfl 7 (by decide) (hts (.fieldLink RX6 22 "HiddenPeriodsModel" "strongSigns" "[I") (by decide +kernel)) (fun _ h9 => h9) rfl dX6_laysTold_32 ?_
              refine lv_bipush (v := 40) hx hb dX6_laysTold_35 (by decide) ?_
              refine lv_iload_n hx hb dX6_laysTold_37 rfl (lv_at hl 1 rfl) ?_
              refine lv_imul hx hb dX6_laysTold_38 ?_
              refine lv_iload_n hx hb dX6_laysTold_39 rfl (lv_at hl 2 rfl) ?_
              refine lv_iadd hx hb dX6_laysTold_40 ?_
              refine lv_aload_n hx hb dX6_laysTold_41 rfl (lv_at hl 0 rfl) ?_
              refine lv_iload_n hx hb dX6_laysTold_42 rfl (lv_at hl 2 rfl) ?_
              obtain ⟨x5, hx5, h⟩ := bnd h
              refine pw_goi (wc := [(h6, .inr (6, [.int thr, .ref h6_ms, .ref h6_mv, .int svm, .ref h6_mb, .int mln, .ref h6_mc, .ref h6_mg, .ref h6_mt, .ref h6_ml, .int mat, .int wel, .ref h6_mr, .int rdm, .long hsh])), (h6_ms, .inl (cI, 253, .inl ms)), (h6_mv, .inl (cI, 1518, .inl mv)), (h6_mb, .inl (cI, 60, .inl mb)), (h6_mc, .inl (cI, 160, .inl x2)), (h6_mg, .inl (cI, 160, .inl mg_19)), (h6_mt, .inl (cI, 240, .inl mt)), (h6_ml, .inl (cI, 240, .inl ml)), (h6_mr, .inl (cI, 600, .inl mr))]) (w1 := [(h6, .inr (6, [.int thr, .ref h6_ms, .ref h6_mv, .int svm, .ref h6_mb, .int mln, .ref h6_mc, .ref h6_mg, .ref h6_mt, .ref h6_ml, .int mat, .int wel, .ref h6_mr, .int rdm, .long hsh])), (h6_ms, .inl (cI, 253, .inl ms)), (h6_mv, .inl (cI, 1518, .inl mv)), (h6_mb, .inl (cI, 60, .inl mb)), (h6_mc, .inl (cI, 160, .inl x2)), (h6_mg, .inl (cI, 160, .inl mg_19)), (h6_mt, .inl (cI, 240, .inl mt)), (h6_ml, .inl (cI, 240, .inl ml)), (h6_mr, .inl (cI, 600, .inl mr))]) (w2 := [(h6, .inr (6, [.int thr, .ref h6_ms, .ref h6_mv, .int svm, .ref h6_mb, .int mln, .ref h6_mc, .ref h6_mg, .ref h6_mt, .ref h6_ml, .int mat, .int wel, .ref h6_mr, .int rdm, .long hsh])), (h6_ms, .inl (cI, 253, .inl ms)), (h6_mv, .inl (cI, 1518, .inl mv)), (h6_mb, .inl (cI, 60, .inl mb)), (h6_mc, .inl (cI, 160, .inl x2)), (h6_mg, .inl (cI, 160, .inl mg_19)), (h6_mt, .inl (cI, 240, .inl mt)), (h6_ml, .inl (cI, 240, .inl ml)), (h6_mr, .inl (cI, 600, .inl mr))]) (va_runV (As := [.int v2_19]) (rest := [.int ((40 * v1_2) + v2_19), .ref h6_mg]) ⟨hx, hb, hml, hown, hts⟩ (mX6_isStrong l D cI cO cJ h6 h6_ms h6_mv h6_mb h6_mc h6_mg h6_mt h6_ml h6_mr H.size thr ms mv svm mb mln x2 mg_19 mt ml mat wel mr rdm hsh v2_19 _ hx5) (cwV 1 hts gX6_laysTold_X6_isStrong rfl rfl rfl (by decide +kernel) ⟨Nat.le_of_ble_eq_true rfl, Nat.le_of_ble_eq_true rfl⟩) (pw_preV hK hN (pw_sub hP [0, 1, 2, 3, 4, 5, 6, 7, 8] rfl) (pw_subD hD [0, 1, 2, 3, 4, 5, 6, 7, 8] (by decide) rfl) (ci := 6) (q0 := 0) rfl rfl) rfl rfl hl.1 rfl (lv_room (Nat.le_of_ble_eq_true rfl)) dX6_laysTold_43 ⟨Nat.zero_le _, Nat.zero_le _⟩) hP hD hS hA [0, 1, 2, 3, 4, 5, 6, 7, 8] [] [0, 1, 2, 3, 4, 5, 6, 7, 8] rfl rfl (by decide) (by decide) (by decide) rfl (fun H locs hP hD hS => ?_)
              refine lv_if_eq (tgt := 57) hx hb dX6_laysTold_46 (by decide) (fun cq => ?_) (fun cq => ?_)
              · replace h := ifp cq h
                refine lv_iconst (v := (-1)) hx hb dX6_laysTold_57 (by decide) ?_
                obtain ⟨g6, h⟩ := gdn h
                refine va_iast hx hb hK hP hD hS 5 0 rfl rfl g6 dX6_laysTold_58 (fun H locs hP hD hS => ?_)
                have hP : va_P D vwCl ([(h6, .inr (6, [.int thr, .ref h6_ms, .ref h6_mv, .int svm, .ref h6_mb, .int mln, .ref h6_mc, .ref h6_mg, .ref h6_mt, .ref h6_ml, .int mat, .int wel, .ref h6_mr, .int rdm, .long hsh])), (h6_ms, .inl (cI, 253, .inl ms)), (h6_mv, .inl (cI, 1518, .inl mv)), (h6_mb, .inl (cI, 60, .inl mb)), (h6_mc, .inl (cI, 160, .inl x2)), (h6_mg, .inl (cI, 160, .inl (upd mg_19 (((40 * v1_2) + v2_19)).toNatClampNeg (-1)))), (h6_mt, .inl (cI, 240, .inl mt)), (h6_ml, .inl (cI, 240, .inl ml)), (h6_mr, .inl (cI, 600, .inl mr))] ++ []) H := hP
                have hD : va_D A ([(h6, .inr (6, [.int thr, .ref h6_ms, .ref h6_mv, .int svm, .ref h6_mb, .int mln, .ref h6_mc, .ref h6_mg, .ref h6_mt, .ref h6_ml, .int mat, .int wel, .ref h6_mr, .int rdm, .long hsh])), (h6_ms, .inl (cI, 253, .inl ms)), (h6_mv, .inl (cI, 1518, .inl mv)), (h6_mb, .inl (cI, 60, .inl mb)), (h6_mc, .inl (cI, 160, .inl x2)), (h6_mg, .inl (cI, 160, .inl (upd mg_19 (((40 * v1_2) + v2_19)).toNatClampNeg (-1)))), (h6_mt, .inl (cI, 240, .inl mt)), (h6_ml, .inl (cI, 240, .inl ml)), (h6_mr, .inl (cI, 600, .inl mr))] ++ []) := hD
                refine lv_iinc (v := (v2_19 + 1)) (lv' := [(2, .int (v2_19 + 1)), (0, .ref h6), (1, .int v1_2)]) hx hb dX6_laysTold_59 hl (k := 2) rfl rfl (by decide) rfl (fun ls hl => ?_)
                refine lv_goto (tgt := 19) hx hb dX6_laysTold_62 (by decide) ?_
                exact ih _ _ _ _ _ _ h hP hD hS (lv_sub hl [1, 2, 0] rfl) K
              · replace h := ifn cq h
                refine lv_aload_n hx hb dX6_laysTold_49 rfl (lv_at hl 0 rfl) ?_
                refine lv_iload_n hx hb dX6_laysTold_50 rfl (lv_at hl 2 rfl) ?_
                obtain ⟨x7, hx7, h⟩ := bnd h
                refine pw_goi (wc := [(h6, .inr (6, [.int thr, .ref h6_ms, .ref h6_mv, .int svm, .ref h6_mb, .int mln, .ref h6_mc, .ref h6_mg, .ref h6_mt, .ref h6_ml, .int mat, .int wel, .ref h6_mr, .int rdm, .long hsh])), (h6_ms, .inl (cI, 253, .inl ms)), (h6_mv, .inl (cI, 1518, .inl mv)), (h6_mb, .inl (cI, 60, .inl mb)), (h6_mc, .inl (cI, 160, .inl x2)), (h6_mg, .inl (cI, 160, .inl mg_19)), (h6_mt, .inl (cI, 240, .inl mt)), (h6_ml, .inl (cI, 240, .inl ml)), (h6_mr, .inl (cI, 600, .inl mr))]) (w1 := [(h6, .inr (6, [.int thr, .ref h6_ms, .ref h6_mv, .int svm, .ref h6_mb, .int mln, .ref h6_mc, .ref h6_mg, .ref h6_mt, .ref h6_ml, .int mat, .int wel, .ref h6_mr, .int rdm, .long hsh])), (h6_ms, .inl (cI, 253, .inl ms)), (h6_mv, .inl (cI, 1518, .inl mv)), (h6_mb, .inl (cI, 60, .inl mb)), (h6_mc, .inl (cI, 160, .inl x2)), (h6_mg, .inl (cI, 160, .inl mg_19)), (h6_mt, .inl (cI, 240, .inl mt)), (h6_ml, .inl (cI, 240, .inl ml)), (h6_mr, .inl (cI, 600, .inl mr))]) (w2 := [(h6, .inr (6, [.int thr, .ref h6_ms, .ref h6_mv, .int svm, .ref h6_mb, .int mln, .ref h6_mc, .ref h6_mg, .ref h6_mt, .ref h6_ml, .int mat, .int wel, .ref h6_mr, .int rdm, .long hsh])), (h6_ms, .inl (cI, 253, .inl ms)), (h6_mv, .inl (cI, 1518, .inl mv)), (h6_mb, .inl (cI, 60, .inl mb)), (h6_mc, .inl (cI, 160, .inl x2)), (h6_mg, .inl (cI, 160, .inl mg_19)), (h6_mt, .inl (cI, 240, .inl mt)), (h6_ml, .inl (cI, 240, .inl ml)), (h6_mr, .inl (cI, 600, .inl mr))]) (va_runV (As := [.int v2_19]) (rest := [.int ((40 * v1_2) + v2_19), .ref h6_mg]) ⟨hx, hb, hml, hown, hts⟩ (mX6_signOf l D cI cO cJ h6 h6_ms h6_mv h6_mb h6_mc h6_mg h6_mt h6_ml h6_mr H.size thr ms mv svm mb mln x2 mg_19 mt ml mat wel mr rdm hsh v2_19 _ hx7) (cwV 1 hts gX6_laysTold_X6_signOf rfl rfl rfl (by decide +kernel) ⟨Nat.le_of_ble_eq_true rfl, Nat.le_of_ble_eq_true rfl⟩) (pw_preV hK hN (pw_sub hP [0, 1, 2, 3, 4, 5, 6, 7, 8] rfl) (pw_subD hD [0, 1, 2, 3, 4, 5, 6, 7, 8] (by decide) rfl) (ci := 6) (q0 := 0) rfl rfl) rfl rfl hl.1 rfl (lv_room (Nat.le_of_ble_eq_true rfl)) dX6_laysTold_51 ⟨Nat.zero_le _, Nat.zero_le _⟩) hP hD hS hA [0, 1, 2, 3, 4, 5, 6, 7, 8] [] [0, 1, 2, 3, 4, 5, 6, 7, 8] rfl rfl (by decide) (by decide) (by decide) rfl (fun H locs hP hD hS => ?_)
                refine lv_goto (tgt := 58) hx hb dX6_laysTold_54 (by decide) ?_
                obtain ⟨g8, h⟩ := gdn h
                refine va_iast hx hb hK hP hD hS 5 0 rfl rfl g8 dX6_laysTold_58 (fun H locs hP hD hS => ?_)
                have hP : va_P D vwCl ([(h6, .inr (6, [.int thr, .ref h6_ms, .ref h6_mv, .int svm, .ref h6_mb, .int mln, .ref h6_mc, .ref h6_mg, .ref h6_mt, .ref h6_ml, .int mat, .int wel, .ref h6_mr, .int rdm, .long hsh])), (h6_ms, .inl (cI, 253, .inl ms)), (h6_mv, .inl (cI, 1518, .inl mv)), (h6_mb, .inl (cI, 60, .inl mb)), (h6_mc, .inl (cI, 160, .inl x2)), (h6_mg, .inl (cI, 160, .inl (upd mg_19 (((40 * v1_2) + v2_19)).toNatClampNeg x7))), (h6_mt, .inl (cI, 240, .inl mt)), (h6_ml, .inl (cI, 240, .inl ml)), (h6_mr, .inl (cI, 600, .inl mr))] ++ []) H := hP
                have hD : va_D A ([(h6, .inr (6, [.int thr, .ref h6_ms, .ref h6_mv, .int svm, .ref h6_mb, .int mln, .ref h6_mc, .ref h6_mg, .ref h6_mt, .ref h6_ml, .int mat, .int wel, .ref h6_mr, .int rdm, .long hsh])), (h6_ms, .inl (cI, 253, .inl ms)), (h6_mv, .inl (cI, 1518, .inl mv)), (h6_mb, .inl (cI, 60, .inl mb)), (h6_mc, .inl (cI, 160, .inl x2)), (h6_mg, .inl (cI, 160, .inl (upd mg_19 (((40 * v1_2) + v2_19)).toNatClampNeg x7))), (h6_mt, .inl (cI, 240, .inl mt)), (h6_ml, .inl (cI, 240, .inl ml)), (h6_mr, .inl (cI, 600, .inl mr))] ++ []) := hD
                refine lv_iinc (v := (v2_19 + 1)) (lv' := [(2, .int (v2_19 + 1)), (0, .ref h6), (1, .int v1_2)]) hx hb dX6_laysTold_59 hl (k := 2) rfl rfl (by decide) rfl (fun ls hl => ?_)
                refine lv_goto (tgt := 19) hx hb dX6_laysTold_62 (by decide) ?_
                exact ih _ _ _ _ _ _ h hP hD hS (lv_sub hl [1, 2, 0] rfl) K
        obtain ⟨x9, hx9, h⟩ := bnd h
        refine L19 FU _ _ _ _ _ _ hx9 hP hD hS (lv_sub hl [1, 2, 0] rfl) (fun H locs ls hP hD hS hl => ?_)
        refine lv_iinc (v := (v1_2 + 1)) (lv' := [(1, .int (v1_2 + 1)), (0, .ref h6)]) hx hb dX6_laysTold_65 hl (k := 1) rfl rfl (by decide) rfl (fun ls hl => ?_)
        refine lv_goto (tgt := 2) hx hb dX6_laysTold_68 (by decide) ?_
        exact ih _ _ _ _ _ _ _ _ h hP hD hS (lv_sub hl [1, 0] rfl) K
  obtain ⟨⟨x10_1, x10_2⟩, hx10, h⟩ := bnd h
  refine L2 FU _ _ _ _ _ _ _ _ hx10 hP hD hS (lv_sub hl [1, 0] rfl) (fun H locs ls hP hD hS hl => ?_)
  refine lv_iconst (v := 0) hx hb dX6_laysTold_71 (by decide) ?_
  refine lv_istore_n (lv' := [(1, .int 0), (0, .ref h6)]) hx hb dX6_laysTold_72 rfl hl (by decide) rfl (fun ls hl => ?_)
  have L73 : ∀ (n : Nat) (v1_73 : Int32) (mt_73 : Nat → Int32) (ml_73 : Nat → Int32) (o73_1 : Nat → Int32) (o73_2 : Nat → Int32) (H : Heap) (locs : List Loc) (ls : Array Slot), fX6_laysTold_L73 ms x10_2 n v1_73 mt_73 ml_73 = some (o73_1, o73_2) → va_P D vwCl ([(h6, .inr (6, [.int thr, .ref h6_ms, .ref h6_mv, .int svm, .ref h6_mb, .int mln, .ref h6_mc, .ref h6_mg, .ref h6_mt, .ref h6_ml, .int mat, .int wel, .ref h6_mr, .int rdm, .long hsh])), (h6_ms, .inl (cI, 253, .inl ms)), (h6_mv, .inl (cI, 1518, .inl mv)), (h6_mb, .inl (cI, 60, .inl mb)), (h6_mc, .inl (cI, 160, .inl x10_1)), (h6_mg, .inl (cI, 160, .inl x10_2)), (h6_mt, .inl (cI, 240, .inl mt_73)), (h6_ml, .inl (cI, 240, .inl ml_73)), (h6_mr, .inl (cI, 600, .inl mr))] ++ []) H → va_D A ([(h6, .inr (6, [.int thr, .ref h6_ms, .ref h6_mv, .int svm, .ref h6_mb, .int mln, .ref h6_mc, .ref h6_mg, .ref h6_mt, .ref h6_ml, .int mat, .int wel, .ref h6_mr, .int rdm, .long hsh])), (h6_ms, .inl (cI, 253, .inl ms)), (h6_mv, .inl (cI, 1518, .inl mv)), (h6_mb, .inl (cI, 60, .inl mb)), (h6_mc, .inl (cI, 160, .inl x10_1)), (h6_mg, .inl (cI, 160, .inl x10_2)), (h6_mt, .inl (cI, 240, .inl mt_73)), (h6_ml, .inl (cI, 240, .inl ml_73)), (h6_mr, .inl (cI, 600, .inl mr))] ++ []) → va_S A s.heap H locs → lv_has ls 5 [(0, .ref h6), (1, .int v1_73)] → (∀ (H : Heap) (locs : List Loc) (ls : Array Slot), va_P D vwCl ([(h6, .inr (6, [.int thr, .ref h6_ms, .ref h6_mv, .int svm, .ref h6_mb, .int mln, .ref h6_mc, .ref h6_mg, .ref h6_mt, .ref h6_ml, .int mat, .int wel, .ref h6_mr, .int rdm, .long hsh])), (h6_ms, .inl (cI, 253, .inl ms)), (h6_mv, .inl (cI, 1518, .inl mv)), (h6_mb, .inl (cI, 60, .inl mb)), (h6_mc, .inl (cI, 160, .inl x10_1)), (h6_mg, .inl (cI, 160, .inl x10_2)), (h6_mt, .inl (cI, 240, .inl o73_1)), (h6_ml, .inl (cI, 240, .inl o73_2)), (h6_mr, .inl (cI, 600, .inl mr))] ++ []) H → va_D A ([(h6, .inr (6, [.int thr, .ref h6_ms, .ref h6_mv, .int svm, .ref h6_mb, .int mln, .ref h6_mc, .ref h6_mg, .ref h6_mt, .ref h6_ml, .int mat, .int wel, .ref h6_mr, .int rdm, .long hsh])), (h6_ms, .inl (cI, 253, .inl ms)), (h6_mv, .inl (cI, 1518, .inl mv)), (h6_mb, .inl (cI, 60, .inl mb)), (h6_mc, .inl (cI, 160, .inl x10_1)), (h6_mg, .inl (cI, 160, .inl x10_2)), (h6_mt, .inl (cI, 240, .inl o73_1)), (h6_ml, .inl (cI, 240, .inl o73_2)), (h6_mr, .inl (cI, 600, .inl mr))] ++ []) → va_S A s.heap H locs → lv_has ls 5 [] → W p l e rmX6_laysTold s m args below meth c H locs 0 0 Q (F0 m 201 ls [])) → W p l e rmX6_laysTold s m args below meth c H locs 0 0 Q (F0 m 73 ls []) := by
    intro n
    induction n with
    | zero =>
      intro v1_73 mt_73 ml_73 o73_1 o73_2 H locs ls h
      rw [fX6_laysTold_L73] at h
      cases h
    | succ n ih =>
      intro v1_73 mt_73 ml_73 o73_1 o73_2 H locs ls h hP hD hS hl K
      rw [fX6_laysTold_L73] at h
      refine lv_iload_n hx hb dX6_laysTold_73 rfl (lv_at hl 1 rfl) ?_
      refine lv_aload_n hx hb dX6_laysTold_74 rfl (lv_at hl 0 rfl) ?_
      refine va_get (D := D) (ci := 6) (v := .ref h6_ms) (C := RX6) (T := TX6) (N := 15) hx hb hts iX6 hown hK hP 0 rfl rfl 1 (by decide) (hts (.fieldLink RX6 7 "HiddenPeriodsModel" "s" "[I") (by decide +kernel)) (fun _ h9 => h9) rfl dX6_laysTold_75 ?_
      refine lv_iconst (v := 0) hx hb dX6_laysTold_78 (by decide) ?_
      obtain ⟨g11, h⟩ := gdn h
      refine va_iald hx hb hK hP 1 0 rfl rfl g11 dX6_laysTold_79 ?_
      refine lv_icmp_ge (tgt := 201) hx hb dX6_laysTold_80 (by decide) (fun cq => ?_) (fun cq => ?_)
      · replace h := ifp cq h
        cases h
        exact K _ _ _ hP hD hS (lv_sub hl [] rfl)
      · replace h := ifn cq h
        refine lv_aload_n hx hb dX6_laysTold_83 rfl (lv_at hl 0 rfl) ?_
        refine va_get (D := D) (ci := 6) (v := .ref h6_mt) (C := RX6) (T := TX6) (N := 15) hx hb hts iX6 hown hK hP 0 rfl rfl 8 (by decide) (hts (.fieldLink RX6 25 "HiddenPeriodsModel" "toldSigns" "[I") (by decide +kernel)) (fun _ h9 => h9) rfl dX6_laysTold_84 ?_
        refine lv_iload_n hx hb dX6_laysTold_87 rfl (lv_at hl 1 rfl) ?_
        refine lv_iconst (v := (-1)) hx hb dX6_laysTold_88 (by decide) ?_
        obtain ⟨g12, h⟩ := gdn h
        refine va_iast hx hb hK hP hD hS 6 0 rfl rfl g12 dX6_laysTold_89 (fun H locs hP hD hS => ?_)
        have hP : va_P D vwCl ([(h6, .inr (6, [.int thr, .ref h6_ms, .ref h6_mv, .int svm, .ref h6_mb, .int mln, .ref h6_mc, .ref h6_mg, .ref h6_mt, .ref h6_ml, .int mat, .int wel, .ref h6_mr, .int rdm, .long hsh])), (h6_ms, .inl (cI, 253, .inl ms)), (h6_mv, .inl (cI, 1518, .inl mv)), (h6_mb, .inl (cI, 60, .inl mb)), (h6_mc, .inl (cI, 160, .inl x10_1)), (h6_mg, .inl (cI, 160, .inl x10_2)), (h6_mt, .inl (cI, 240, .inl (upd mt_73 v1_73.toNatClampNeg (-1)))), (h6_ml, .inl (cI, 240, .inl ml_73)), (h6_mr, .inl (cI, 600, .inl mr))] ++ []) H := hP
        have hD : va_D A ([(h6, .inr (6, [.int thr, .ref h6_ms, .ref h6_mv, .int svm, .ref h6_mb, .int mln, .ref h6_mc, .ref h6_mg, .ref h6_mt, .ref h6_ml, .int mat, .int wel, .ref h6_mr, .int rdm, .long hsh])), (h6_ms, .inl (cI, 253, .inl ms)), (h6_mv, .inl (cI, 1518, .inl mv)), (h6_mb, .inl (cI, 60, .inl mb)), (h6_mc, .inl (cI, 160, .inl x10_1)), (h6_mg, .inl (cI, 160, .inl x10_2)), (h6_mt, .inl (cI, 240, .inl (upd mt_73 v1_73.toNatClampNeg (-1)))), (h6_ml, .inl (cI, 240, .inl ml_73)), (h6_mr, .inl (cI, 600, .inl mr))] ++ []) := hD
        refine lv_aload_n hx hb dX6_laysTold_90 rfl (lv_at hl 0 rfl) ?_
        refine va_get (D := D) (ci := 6) (v := .ref h6_ml) (C := RX6) (T := TX6) (N := 15) hx hb hts iX6 hown hK hP 0 rfl rfl 9 (by decide) (hts (.fieldLink RX6 28 "HiddenPeriodsModel" "tellers" "[I") (by decide +kernel)) (fun _ h9 => h9) rfl dX6_laysTold_91 ?_
        refine lv_iload_n hx hb dX6_laysTold_94 rfl (lv_at hl 1 rfl) ?_
        refine lv_iconst (v := (-1)) hx hb dX6_laysTold_95 (by decide) ?_
        obtain ⟨g13, h⟩ := gdn h
        refine va_iast hx hb hK hP hD hS 7 0 rfl rfl g13 dX6_laysTold_96 (fun H locs hP hD hS => ?_)
        have hP : va_P D vwCl ([(h6, .inr (6, [.int thr, .ref h6_ms, .ref h6_mv, .int svm, .ref h6_mb, .int mln, .ref h6_mc, .ref h6_mg, .ref h6_mt, .ref h6_ml, .int mat, .int wel, .ref h6_mr, .int rdm, .long hsh])), (h6_ms, .inl (cI, 253, .inl ms)), (h6_mv, .inl (cI, 1518, .inl mv)), (h6_mb, .inl (cI, 60, .inl mb)), (h6_mc, .inl (cI, 160, .inl x10_1)), (h6_mg, .inl (cI, 160, .inl x10_2)), (h6_mt, .inl (cI, 240, .inl (upd mt_73 v1_73.toNatClampNeg (-1)))), (h6_ml, .inl (cI, 240, .inl (upd ml_73 v1_73.toNatClampNeg (-1)))), (h6_mr, .inl (cI, 600, .inl mr))] ++ []) H := hP
        have hD : va_D A ([(h6, .inr (6, [.int thr, .ref h6_ms, .ref h6_mv, .int svm, .ref h6_mb, .int mln, .ref h6_mc, .ref h6_mg, .ref h6_mt, .ref h6_ml, .int mat, .int wel, .ref h6_mr, .int rdm, .long hsh])), (h6_ms, .inl (cI, 253, .inl ms)), (h6_mv, .inl (cI, 1518, .inl mv)), (h6_mb, .inl (cI, 60, .inl mb)), (h6_mc, .inl (cI, 160, .inl x10_1)), (h6_mg, .inl (cI, 160, .inl x10_2)), (h6_mt, .inl (cI, 240, .inl (upd mt_73 v1_73.toNatClampNeg (-1)))), (h6_ml, .inl (cI, 240, .inl (upd ml_73 v1_73.toNatClampNeg (-1)))), (h6_mr, .inl (cI, 600, .inl mr))] ++ []) := hD
        refine lv_iload_n hx hb dX6_laysTold_97 rfl (lv_at hl 1 rfl) ?_
        refine lv_aload_n hx hb dX6_laysTold_98 rfl (lv_at hl 0 rfl) ?_
        obtain ⟨x14, hx14, h⟩ := bnd h
        refine pw_goi (wc := [(h6, .inr (6, [.int thr, .ref h6_ms, .ref h6_mv, .int svm, .ref h6_mb, .int mln, .ref h6_mc, .ref h6_mg, .ref h6_mt, .ref h6_ml, .int mat, .int wel, .ref h6_mr, .int rdm, .long hsh])), (h6_ms, .inl (cI, 253, .inl ms)), (h6_mv, .inl (cI, 1518, .inl mv)), (h6_mb, .inl (cI, 60, .inl mb)), (h6_mc, .inl (cI, 160, .inl x10_1)), (h6_mg, .inl (cI, 160, .inl x10_2)), (h6_mt, .inl (cI, 240, .inl (upd mt_73 v1_73.toNatClampNeg (-1)))), (h6_ml, .inl (cI, 240, .inl (upd ml_73 v1_73.toNatClampNeg (-1)))), (h6_mr, .inl (cI, 600, .inl mr))]) (w1 := [(h6, .inr (6, [.int thr, .ref h6_ms, .ref h6_mv, .int svm, .ref h6_mb, .int mln, .ref h6_mc, .ref h6_mg, .ref h6_mt, .ref h6_ml, .int mat, .int wel, .ref h6_mr, .int rdm, .long hsh])), (h6_ms, .inl (cI, 253, .inl ms)), (h6_mv, .inl (cI, 1518, .inl mv)), (h6_mb, .inl (cI, 60, .inl mb)), (h6_mc, .inl (cI, 160, .inl x10_1)), (h6_mg, .inl (cI, 160, .inl x10_2)), (h6_mt, .inl (cI, 240, .inl (upd mt_73 v1_73.toNatClampNeg (-1)))), (h6_ml, .inl (cI, 240, .inl (upd ml_73 v1_73.toNatClampNeg (-1)))), (h6_mr, .inl (cI, 600, .inl mr))]) (w2 := [(h6, .inr (6, [.int thr, .ref h6_ms, .ref h6_mv, .int svm, .ref h6_mb, .int mln, .ref h6_mc, .ref h6_mg, .ref h6_mt, .ref h6_ml, .int mat, .int wel, .ref h6_mr, .int rdm, .long hsh])), (h6_ms, .inl (cI, 253, .inl ms)), (h6_mv, .inl (cI, 1518, .inl mv)), (h6_mb, .inl (cI, 60, .inl mb)), (h6_mc, .inl (cI, 160, .inl x10_1)), (h6_mg, .inl (cI, 160, .inl x10_2)), (h6_mt, .inl (cI, 240, .inl (upd mt_73 v1_73.toNatClampNeg (-1)))), (h6_ml, .inl (cI, 240, .inl (upd ml_73 v1_73.toNatClampNeg (-1)))), (h6_mr, .inl (cI, 600, .inl mr))]) (va_runV (As := []) (rest := [.int v1_73]) ⟨hx, hb, hml, hown, hts⟩ (mX6_firstPlace l D cI cO cJ h6 h6_ms h6_mv h6_mb h6_mc h6_mg h6_mt h6_ml h6_mr H.size thr ms mv svm mb mln x10_1 x10_2 (upd mt_73 v1_73.toNatClampNeg (-1)) (upd ml_73 v1_73.toNatClampNeg (-1)) mat wel mr rdm hsh _ hx14) (cwV 0 hts gX6_laysTold_X6_firstPlace rfl rfl rfl (by decide +kernel) ⟨Nat.le_of_ble_eq_true rfl, Nat.le_of_ble_eq_true rfl⟩) (pw_preV hK hN (pw_sub hP [0, 1, 2, 3, 4, 5, 6, 7, 8] rfl) (pw_subD hD [0, 1, 2, 3, 4, 5, 6, 7, 8] (by decide) rfl) (ci := 6) (q0 := 0) rfl rfl) rfl rfl hl.1 rfl (lv_room (Nat.le_of_ble_eq_true rfl)) dX6_laysTold_99 ⟨Nat.zero_le _, Nat.zero_le _⟩) hP hD hS hA [0, 1, 2, 3, 4, 5, 6, 7, 8] [] [0, 1, 2, 3, 4, 5, 6, 7, 8] rfl rfl (by decide) (by decide) (by decide) rfl (fun H locs hP hD hS => ?_)
        refine lv_aload_n hx hb dX6_laysTold_102 rfl (lv_at hl 0 rfl) ?_
        obtain ⟨x15, hx15, h⟩ := bnd h
        refine pw_goi (wc := [(h6, .inr (6, [.int thr, .ref h6_ms, .ref h6_mv, .int svm, .ref h6_mb, .int mln, .ref h6_mc, .ref h6_mg, .ref h6_mt, .ref h6_ml, .int mat, .int wel, .ref h6_mr, .int rdm, .long hsh])), (h6_ms, .inl (cI, 253, .inl ms)), (h6_mv, .inl (cI, 1518, .inl mv)), (h6_mb, .inl (cI, 60, .inl mb)), (h6_mc, .inl (cI, 160, .inl x10_1)), (h6_mg, .inl (cI, 160, .inl x10_2)), (h6_mt, .inl (cI, 240, .inl (upd mt_73 v1_73.toNatClampNeg (-1)))), (h6_ml, .inl (cI, 240, .inl (upd ml_73 v1_73.toNatClampNeg (-1)))), (h6_mr, .inl (cI, 600, .inl mr))]) (w1 := [(h6, .inr (6, [.int thr, .ref h6_ms, .ref h6_mv, .int svm, .ref h6_mb, .int mln, .ref h6_mc, .ref h6_mg, .ref h6_mt, .ref h6_ml, .int mat, .int wel, .ref h6_mr, .int rdm, .long hsh])), (h6_ms, .inl (cI, 253, .inl ms)), (h6_mv, .inl (cI, 1518, .inl mv)), (h6_mb, .inl (cI, 60, .inl mb)), (h6_mc, .inl (cI, 160, .inl x10_1)), (h6_mg, .inl (cI, 160, .inl x10_2)), (h6_mt, .inl (cI, 240, .inl (upd mt_73 v1_73.toNatClampNeg (-1)))), (h6_ml, .inl (cI, 240, .inl (upd ml_73 v1_73.toNatClampNeg (-1)))), (h6_mr, .inl (cI, 600, .inl mr))]) (w2 := [(h6, .inr (6, [.int thr, .ref h6_ms, .ref h6_mv, .int svm, .ref h6_mb, .int mln, .ref h6_mc, .ref h6_mg, .ref h6_mt, .ref h6_ml, .int mat, .int wel, .ref h6_mr, .int rdm, .long hsh])), (h6_ms, .inl (cI, 253, .inl ms)), (h6_mv, .inl (cI, 1518, .inl mv)), (h6_mb, .inl (cI, 60, .inl mb)), (h6_mc, .inl (cI, 160, .inl x10_1)), (h6_mg, .inl (cI, 160, .inl x10_2)), (h6_mt, .inl (cI, 240, .inl (upd mt_73 v1_73.toNatClampNeg (-1)))), (h6_ml, .inl (cI, 240, .inl (upd ml_73 v1_73.toNatClampNeg (-1)))), (h6_mr, .inl (cI, 600, .inl mr))]) (va_runV (As := []) (rest := [.int x14, .int v1_73]) ⟨hx, hb, hml, hown, hts⟩ (mX6_lastPlace l D cI cO cJ h6 h6_ms h6_mv h6_mb h6_mc h6_mg h6_mt h6_ml h6_mr H.size thr ms mv svm mb mln x10_1 x10_2 (upd mt_73 v1_73.toNatClampNeg (-1)) (upd ml_73 v1_73.toNatClampNeg (-1)) mat wel mr rdm hsh _ hx15) (cwV 0 hts gX6_laysTold_X6_lastPlace rfl rfl rfl (by decide +kernel) ⟨Nat.le_of_ble_eq_true rfl, Nat.le_of_ble_eq_true rfl⟩) (pw_preV hK hN (pw_sub hP [0, 1, 2, 3, 4, 5, 6, 7, 8] rfl) (pw_subD hD [0, 1, 2, 3, 4, 5, 6, 7, 8] (by decide) rfl) (ci := 6) (q0 := 0) rfl rfl) rfl rfl hl.1 rfl (lv_room (Nat.le_of_ble_eq_true rfl)) dX6_laysTold_103 ⟨Nat.zero_le _, Nat.zero_le _⟩) hP hD hS hA [0, 1, 2, 3, 4, 5, 6, 7, 8] [] [0, 1, 2, 3, 4, 5, 6, 7, 8] rfl rfl (by decide) (by decide) (by decide) rfl (fun H locs hP hD hS => ?_)
        refine lv_iconst (v := 1) hx hb dX6_laysTold_106 (by decide) ?_
        refine lv_isub hx hb dX6_laysTold_107 ?_
        obtain ⟨x16, hx16, h⟩ := bnd h
        refine pw_go0 (va_runS (As := [.int v1_73, .int x14, .int (x15 - 1)]) (rest := []) ⟨hx, hb, hml, hown, hts⟩ (mX6_in l D cI cO cJ H.size v1_73 x14 (x15 - 1) _ hx16) (va_cwS 3 hts gX6_laysTold_X6_in rfl rfl rfl (by decide +kernel) ⟨Nat.le_of_ble_eq_true rfl, Nat.le_of_ble_eq_true rfl⟩) (pw_preS hK hN pw_nilP (pw_nilD (A := A))) rfl rfl hl.1 rfl (lv_room (Nat.le_of_ble_eq_true rfl)) dX6_laysTold_108 ⟨Nat.zero_le _, Nat.zero_le _⟩) hP hS hA (fun H locs hP hS => ?_)
        refine lv_istore_n (lv' := [(2, .int x16), (0, .ref h6), (1, .int v1_73)]) hx hb dX6_laysTold_111 rfl hl (by decide) rfl (fun ls hl => ?_)
        refine lv_iconst (v := 0) hx hb dX6_laysTold_112 (by decide) ?_
        refine lv_istore_n (lv' := [(3, .int 0), (2, .int x16), (0, .ref h6), (1, .int v1_73)]) hx hb dX6_laysTold_113 rfl hl (by decide) rfl (fun ls hl => ?_)
        have L114 : ∀ (n : Nat) (v3_114 : Int32) (mt_114 : Nat → Int32) (ml_114 : Nat → Int32) (o114_1 : Nat → Int32) (o114_2 : Nat → Int32) (H : Heap) (locs : List Loc) (ls : Array Slot), fX6_laysTold_L114 ms x10_2 v1_73 x16 n v3_114 mt_114 ml_114 = some (o114_1, o114_2) → va_P D vwCl ([(h6, .inr (6, [.int thr, .ref h6_ms, .ref h6_mv, .int svm, .ref h6_mb, .int mln, .ref h6_mc, .ref h6_mg, .ref h6_mt, .ref h6_ml, .int mat, .int wel, .ref h6_mr, .int rdm, .long hsh])), (h6_ms, .inl (cI, 253, .inl ms)), (h6_mv, .inl (cI, 1518, .inl mv)), (h6_mb, .inl (cI, 60, .inl mb)), (h6_mc, .inl (cI, 160, .inl x10_1)), (h6_mg, .inl (cI, 160, .inl x10_2)), (h6_mt, .inl (cI, 240, .inl mt_114)), (h6_ml, .inl (cI, 240, .inl ml_114)), (h6_mr, .inl (cI, 600, .inl mr))] ++ []) H → va_D A ([(h6, .inr (6, [.int thr, .ref h6_ms, .ref h6_mv, .int svm, .ref h6_mb, .int mln, .ref h6_mc, .ref h6_mg, .ref h6_mt, .ref h6_ml, .int mat, .int wel, .ref h6_mr, .int rdm, .long hsh])), (h6_ms, .inl (cI, 253, .inl ms)), (h6_mv, .inl (cI, 1518, .inl mv)), (h6_mb, .inl (cI, 60, .inl mb)), (h6_mc, .inl (cI, 160, .inl x10_1)), (h6_mg, .inl (cI, 160, .inl x10_2)), (h6_mt, .inl (cI, 240, .inl mt_114)), (h6_ml, .inl (cI, 240, .inl ml_114)), (h6_mr, .inl (cI, 600, .inl mr))] ++ []) → va_S A s.heap H locs → lv_has ls 5 [(0, .ref h6), (1, .int v1_73), (2, .int x16), (3, .int v3_114)] → (∀ (H : Heap) (locs : List Loc) (ls : Array Slot), va_P D vwCl ([(h6, .inr (6, [.int thr, .ref h6_ms, .ref h6_mv, .int svm, .ref h6_mb, .int mln, .ref h6_mc, .ref h6_mg, .ref h6_mt, .ref h6_ml, .int mat, .int wel, .ref h6_mr, .int rdm, .long hsh])), (h6_ms, .inl (cI, 253, .inl ms)), (h6_mv, .inl (cI, 1518, .inl mv)), (h6_mb, .inl (cI, 60, .inl mb)), (h6_mc, .inl (cI, 160, .inl x10_1)), (h6_mg, .inl (cI, 160, .inl x10_2)), (h6_mt, .inl (cI, 240, .inl o114_1)), (h6_ml, .inl (cI, 240, .inl o114_2)), (h6_mr, .inl (cI, 600, .inl mr))] ++ []) H → va_D A ([(h6, .inr (6, [.int thr, .ref h6_ms, .ref h6_mv, .int svm, .ref h6_mb, .int mln, .ref h6_mc, .ref h6_mg, .ref h6_mt, .ref h6_ml, .int mat, .int wel, .ref h6_mr, .int rdm, .long hsh])), (h6_ms, .inl (cI, 253, .inl ms)), (h6_mv, .inl (cI, 1518, .inl mv)), (h6_mb, .inl (cI, 60, .inl mb)), (h6_mc, .inl (cI, 160, .inl x10_1)), (h6_mg, .inl (cI, 160, .inl x10_2)), (h6_mt, .inl (cI, 240, .inl o114_1)), (h6_ml, .inl (cI, 240, .inl o114_2)), (h6_mr, .inl (cI, 600, .inl mr))] ++ []) → va_S A s.heap H locs → lv_has ls 5 [(0, .ref h6), (1, .int v1_73)] → W p l e rmX6_laysTold s m args below meth c H locs 0 0 Q (F0 m 195 ls [])) → W p l e rmX6_laysTold s m args below meth c H locs 0 0 Q (F0 m 114 ls []) := by
          intro n
          induction n with
          | zero =>
            intro v3_114 mt_114 ml_114 o114_1 o114_2 H locs ls h
            rw [fX6_laysTold_L114] at h
            cases h
          | succ n ih =>
            intro v3_114 mt_114 ml_114 o114_1 o114_2 H locs ls h hP hD hS hl K
            rw [fX6_laysTold_L114] at h
            refine lv_iload_n hx hb dX6_laysTold_114 rfl (lv_at hl 3 rfl) ?_
            refine lv_aload_n hx hb dX6_laysTold_115 rfl (lv_at hl 0 rfl) ?_
            refine va_get (D := D) (ci := 6) (v := .ref h6_ms) (C := RX6) (T := TX6) (N := 15) hx hb hts iX6 hown hK hP 0 rfl rfl 1 (by decide) (hts (.fieldLink RX6 7 "HiddenPeriodsModel" "s" "[I") (by decide +kernel)) (fun _ h9 => h9) rfl dX6_laysTold_116 ?_
            refine lv_iconst (v := 4) hx hb dX6_laysTold_119 (by decide) ?_
            obtain ⟨g17, h⟩ := gdn h
            refine va_iald hx hb hK hP 1 0 rfl rfl g17 dX6_laysTold_120 ?_
            refine lv_icmp_ge (tgt := 195) hx hb dX6_laysTold_121 (by decide) (fun cq => ?_) (fun cq => ?_)
            · replace h := ifp cq h
              cases h
              exact K _ _ _ hP hD hS (lv_sub hl [0, 1] rfl)
            · replace h := ifn cq h
              refine lv_iload_n hx hb dX6_laysTold_124 rfl (lv_at hl 2 rfl) ?_
              refine lv_if_eq (tgt := 195) hx hb dX6_laysTold_125 (by decide) (fun cq => ?_) (fun cq => ?_)
              · replace h := ifp cq h
                cases h
                exact K _ _ _ hP hD hS (lv_sub hl [0, 1] rfl)
              · replace h := ifn cq h
                refine lv_aload_n hx hb dX6_laysTold_128 rfl (lv_at hl 0 rfl) ?_
                refine va_get (D := D) (ci := 6) (v := .ref h6_ml) (C := RX6) (T := TX6) (N := 15) hx hb hts iX6 hown hK hP 0 rfl rfl 9 (by decide) (hts (.fieldLink RX6 28 "HiddenPeriodsModel" "tellers" "[I") (by decide +kernel)) (fun _ h9 => h9) rfl dX6_laysTold_129 ?_
                refine lv_iload_n hx hb dX6_laysTold_132 rfl (lv_at hl 1 rfl) ?_
                obtain ⟨g18, h⟩ := gdn h
                refine va_iald hx hb hK hP 7 0 rfl rfl g18 dX6_laysTold_133 ?_
                refine lv_iconst (v := (-1)) hx hb dX6_laysTold_134 (by decide) ?_
                refine lv_icmp_ne (tgt := 195) hx hb dX6_laysTold_135 (by decide) (fun cq => ?_) (fun cq => ?_)
                · replace h := ifn cq h
                  cases h
                  exact K _ _ _ hP hD hS (lv_sub hl [0, 1] rfl)
                · replace h := ifp cq h
                  refine lv_aload_n hx hb dX6_laysTold_138 rfl (lv_at hl 0 rfl) ?_
                  refine va_get (D := D) (ci := 6) (v := .ref h6_mg) (C := RX6) (T := TX6) (N := 15) hx hb hts iX6 hown hK hP 0 rfl rfl 7 (by decide) (hts (.fieldLink RX6 22 "HiddenPeriodsModel" "strongSigns" "[I") (by decide +kernel)) (fun _ h9 => h9) rfl dX6_laysTold_139 ?_
                  refine lv_bipush (v := 40) hx hb dX6_laysTold_142 (by decide) ?_
                  refine lv_iload_n hx hb dX6_laysTold_144 rfl (lv_at hl 3 rfl) ?_
                  refine lv_imul hx hb dX6_laysTold_145 ?_
                  refine lv_iload_n hx hb dX6_laysTold_146 rfl (lv_at hl 1 rfl) ?_
                  refine lv_aload_n hx hb dX6_laysTold_147 rfl (lv_at hl 0 rfl) ?_
                  refine lv_iload_n hx hb dX6_laysTold_148 rfl (lv_at hl 3 rfl) ?_
                  obtain ⟨x19, hx19, h⟩ := bnd h
                  refine pw_goi (wc := [(h6, .inr (6, [.int thr, .ref h6_ms, .ref h6_mv, .int svm, .ref h6_mb, .int mln, .ref h6_mc, .ref h6_mg, .ref h6_mt, .ref h6_ml, .int mat, .int wel, .ref h6_mr, .int rdm, .long hsh])), (h6_ms, .inl (cI, 253, .inl ms)), (h6_mv, .inl (cI, 1518, .inl mv)), (h6_mb, .inl (cI, 60, .inl mb)), (h6_mc, .inl (cI, 160, .inl x10_1)), (h6_mg, .inl (cI, 160, .inl x10_2)), (h6_mt, .inl (cI, 240, .inl mt_114)), (h6_ml, .inl (cI, 240, .inl ml_114)), (h6_mr, .inl (cI, 600, .inl mr))]) (w1 := [(h6, .inr (6, [.int thr, .ref h6_ms, .ref h6_mv, .int svm, .ref h6_mb, .int mln, .ref h6_mc, .ref h6_mg, .ref h6_mt, .ref h6_ml, .int mat, .int wel, .ref h6_mr, .int rdm, .long hsh])), (h6_ms, .inl (cI, 253, .inl ms)), (h6_mv, .inl (cI, 1518, .inl mv)), (h6_mb, .inl (cI, 60, .inl mb)), (h6_mc, .inl (cI, 160, .inl x10_1)), (h6_mg, .inl (cI, 160, .inl x10_2)), (h6_mt, .inl (cI, 240, .inl mt_114)), (h6_ml, .inl (cI, 240, .inl ml_114)), (h6_mr, .inl (cI, 600, .inl mr))]) (w2 := [(h6, .inr (6, [.int thr, .ref h6_ms, .ref h6_mv, .int svm, .ref h6_mb, .int mln, .ref h6_mc, .ref h6_mg, .ref h6_mt, .ref h6_ml, .int mat, .int wel, .ref h6_mr, .int rdm, .long hsh])), (h6_ms, .inl (cI, 253, .inl ms)), (h6_mv, .inl (cI, 1518, .inl mv)), (h6_mb, .inl (cI, 60, .inl mb)), (h6_mc, .inl (cI, 160, .inl x10_1)), (h6_mg, .inl (cI, 160, .inl x10_2)), (h6_mt, .inl (cI, 240, .inl mt_114)), (h6_ml, .inl (cI, 240, .inl ml_114)), (h6_mr, .inl (cI, 600, .inl mr))]) (va_runV (As := [.int v3_114]) (rest := [.int v1_73, .int (40 * v3_114), .ref h6_mg]) ⟨hx, hb, hml, hown, hts⟩ (mX6_tenthsOf l D cI cO cJ h6 h6_ms h6_mv h6_mb h6_mc h6_mg h6_mt h6_ml h6_mr H.size thr ms mv svm mb mln x10_1 x10_2 mt_114 ml_114 mat wel mr rdm hsh v3_114 _ hx19) (cwV 1 hts gX6_laysTold_X6_tenthsOf rfl rfl rfl (by decide +kernel) ⟨Nat.le_of_ble_eq_true rfl, Nat.le_of_ble_eq_true rfl⟩) (pw_preV hK hN (pw_sub hP [0, 1, 2, 3, 4, 5, 6, 7, 8] rfl) (pw_subD hD [0, 1, 2, 3, 4, 5, 6, 7, 8] (by decide) rfl) (ci := 6) (q0 := 0) rfl rfl) rfl rfl hl.1 rfl (lv_room (Nat.le_of_ble_eq_true rfl)) dX6_laysTold_149 ⟨Nat.zero_le _, Nat.zero_le _⟩) hP hD hS hA [0, 1, 2, 3, 4, 5, 6, 7, 8] [] [0, 1, 2, 3, 4, 5, 6, 7, 8] rfl rfl (by decide) (by decide) (by decide) rfl (fun H locs hP hD hS => ?_)
                  refine lv_aload_n hx hb dX6_laysTold_152 rfl (lv_at hl 0 rfl) ?_
                  refine lv_iload_n hx hb dX6_laysTold_153 rfl (lv_at hl 3 rfl) ?_
                  obtain ⟨x20, hx20, h⟩ := bnd h
                  refine pw_goi (wc := [(h6, .inr (6, [.int thr, .ref h6_ms, .ref h6_mv, .int svm, .ref h6_mb, .int mln, .ref h6_mc, .ref h6_mg, .ref h6_mt, .ref h6_ml, .int mat, .int wel, .ref h6_mr, .int rdm, .long hsh])), (h6_ms, .inl (cI, 253, .inl ms)), (h6_mv, .inl (cI, 1518, .inl mv)), (h6_mb, .inl (cI, 60, .inl mb)), (h6_mc, .inl (cI, 160, .inl x10_1)), (h6_mg, .inl (cI, 160, .inl x10_2)), (h6_mt, .inl (cI, 240, .inl mt_114)), (h6_ml, .inl (cI, 240, .inl ml_114)), (h6_mr, .inl (cI, 600, .inl mr))]) (w1 := [(h6, .inr (6, [.int thr, .ref h6_ms, .ref h6_mv, .int svm, .ref h6_mb, .int mln, .ref h6_mc, .ref h6_mg, .ref h6_mt, .ref h6_ml, .int mat, .int wel, .ref h6_mr, .int rdm, .long hsh])), (h6_ms, .inl (cI, 253, .inl ms)), (h6_mv, .inl (cI, 1518, .inl mv)), (h6_mb, .inl (cI, 60, .inl mb)), (h6_mc, .inl (cI, 160, .inl x10_1)), (h6_mg, .inl (cI, 160, .inl x10_2)), (h6_mt, .inl (cI, 240, .inl mt_114)), (h6_ml, .inl (cI, 240, .inl ml_114)), (h6_mr, .inl (cI, 600, .inl mr))]) (w2 := [(h6, .inr (6, [.int thr, .ref h6_ms, .ref h6_mv, .int svm, .ref h6_mb, .int mln, .ref h6_mc, .ref h6_mg, .ref h6_mt, .ref h6_ml, .int mat, .int wel, .ref h6_mr, .int rdm, .long hsh])), (h6_ms, .inl (cI, 253, .inl ms)), (h6_mv, .inl (cI, 1518, .inl mv)), (h6_mb, .inl (cI, 60, .inl mb)), (h6_mc, .inl (cI, 160, .inl x10_1)), (h6_mg, .inl (cI, 160, .inl x10_2)), (h6_mt, .inl (cI, 240, .inl mt_114)), (h6_ml, .inl (cI, 240, .inl ml_114)), (h6_mr, .inl (cI, 600, .inl mr))]) (va_runV (As := [.int v3_114]) (rest := [.int x19, .int v1_73, .int (40 * v3_114), .ref h6_mg]) ⟨hx, hb, hml, hown, hts⟩ (mX6_phaseOf l D cI cO cJ h6 h6_ms h6_mv h6_mb h6_mc h6_mg h6_mt h6_ml h6_mr H.size thr ms mv svm mb mln x10_1 x10_2 mt_114 ml_114 mat wel mr rdm hsh v3_114 _ hx20) (cwV 1 hts gX6_laysTold_X6_phaseOf rfl rfl rfl (by decide +kernel) ⟨Nat.le_of_ble_eq_true rfl, Nat.le_of_ble_eq_true rfl⟩) (pw_preV hK hN (pw_sub hP [0, 1, 2, 3, 4, 5, 6, 7, 8] rfl) (pw_subD hD [0, 1, 2, 3, 4, 5, 6, 7, 8] (by decide) rfl) (ci := 6) (q0 := 0) rfl rfl) rfl rfl hl.1 rfl (lv_room (Nat.le_of_ble_eq_true rfl)) dX6_laysTold_154 ⟨Nat.zero_le _, Nat.zero_le _⟩) hP hD hS hA [0, 1, 2, 3, 4, 5, 6, 7, 8] [] [0, 1, 2, 3, 4, 5, 6, 7, 8] rfl rfl (by decide) (by decide) (by decide) rfl (fun H locs hP hD hS => ?_)
                  obtain ⟨x21, hx21, h⟩ := bnd h
                  refine pw_go0 (va_runS (As := [.int v1_73, .int x19, .int x20]) (rest := [.int (40 * v3_114), .ref h6_mg]) ⟨hx, hb, hml, hown, hts⟩ (mX6_classOf l D cI cO cJ H.size v1_73 x19 x20 _ hx21) (va_cwS 3 hts gX6_laysTold_X6_classOf rfl rfl rfl (by decide +kernel) ⟨Nat.le_of_ble_eq_true rfl, Nat.le_of_ble_eq_true rfl⟩) (pw_preS hK hN pw_nilP (pw_nilD (A := A))) rfl rfl hl.1 rfl (lv_room (Nat.le_of_ble_eq_true rfl)) dX6_laysTold_157 ⟨Nat.zero_le _, Nat.zero_le _⟩) hP hS hA (fun H locs hP hS => ?_)
                  refine lv_iadd hx hb dX6_laysTold_160 ?_
                  obtain ⟨g22, h⟩ := gdn h
                  refine va_iald hx hb hK hP 5 0 rfl rfl g22 dX6_laysTold_161 ?_
                  refine lv_istore (lv' := [(4, .int (x10_2 (((40 * v3_114) + x21)).toNatClampNeg)), (0, .ref h6), (1, .int v1_73), (2, .int x16), (3, .int v3_114)]) hx hb dX6_laysTold_162 hl (by decide) rfl (fun ls hl => ?_)
                  refine lv_aload_n hx hb dX6_laysTold_164 rfl (lv_at hl 1 rfl) ?_
                  refine va_get (D := D) (ci := 6) (v := .ref h6_mt) (C := RX6) (T := TX6) (N := 15) hx hb hts iX6 hown hK hP 0 rfl rfl 8 (by decide) (hts (.fieldLink RX6 25 "HiddenPeriodsModel" "toldSigns" "[I") (by decide +kernel)) (fun _ h9 => h9) rfl dX6_laysTold_165 ?_
                  refine lv_iload_n hx hb dX6_laysTold_168 rfl (lv_at hl 2 rfl) ?_
                  refine lv_iload hx hb dX6_laysTold_169 (lv_at hl 0 rfl) ?_
                  obtain ⟨g23, h⟩ := gdn h
                  refine va_iast hx hb hK hP hD hS 6 0 rfl rfl g23 dX6_laysTold_171 (fun H locs hP hD hS => ?_)
                  have hP : va_P D vwCl ([(h6, .inr (6, [.int thr, .ref h6_ms, .ref h6_mv, .int svm, .ref h6_mb, .int mln, .ref h6_mc, .ref h6_mg, .ref h6_mt, .ref h6_ml, .int mat, .int wel, .ref h6_mr, .int rdm, .long hsh])), (h6_ms, .inl (cI, 253, .inl ms)), (h6_mv, .inl (cI, 1518, .inl mv)), (h6_mb, .inl (cI, 60, .inl mb)), (h6_mc, .inl (cI, 160, .inl x10_1)), (h6_mg, .inl (cI, 160, .inl x10_2)), (h6_mt, .inl (cI, 240, .inl (upd mt_114 v1_73.toNatClampNeg (x10_2 (((40 * v3_114) + x21)).toNatClampNeg)))), (h6_ml, .inl (cI, 240, .inl ml_114)), (h6_mr, .inl (cI, 600, .inl mr))] ++ []) H := hP
                  have hD : va_D A ([(h6, .inr (6, [.int thr, .ref h6_ms, .ref h6_mv, .int svm, .ref h6_mb, .int mln, .ref h6_mc, .ref h6_mg, .ref h6_mt, .ref h6_ml, .int mat, .int wel, .ref h6_mr, .int rdm, .long hsh])), (h6_ms, .inl (cI, 253, .inl ms)), (h6_mv, .inl (cI, 1518, .inl mv)), (h6_mb, .inl (cI, 60, .inl mb)), (h6_mc, .inl (cI, 160, .inl x10_1)), (h6_mg, .inl (cI, 160, .inl x10_2)), (h6_mt, .inl (cI, 240, .inl (upd mt_114 v1_73.toNatClampNeg (x10_2 (((40 * v3_114) + x21)).toNatClampNeg)))), (h6_ml, .inl (cI, 240, .inl ml_114)), (h6_mr, .inl (cI, 600, .inl mr))] ++ []) := hD
                  refine lv_aload_n hx hb dX6_laysTold_172 rfl (lv_at hl 1 rfl) ?_
                  refine va_get (D := D) (ci := 6) (v := .ref h6_ml) (C := RX6) (T := TX6) (N := 15) hx hb hts iX6 hown hK hP 0 rfl rfl 9 (by decide) (hts (.fieldLink RX6 28 "HiddenPeriodsModel" "tellers" "[I") (by decide +kernel)) (fun _ h9 => h9) rfl dX6_laysTold_173 ?_
                  refine lv_iload_n hx hb dX6_laysTold_176 rfl (lv_at hl 2 rfl) ?_
                  refine lv_iload hx hb dX6_laysTold_177 (lv_at hl 0 rfl) ?_
                  refine lv_iconst (v := (-1)) hx hb dX6_laysTold_179 (by decide) ?_
                  refine lv_icmp_ne (tgt := 187) hx hb dX6_laysTold_180 (by decide) (fun cq => ?_) (fun cq => ?_)
                  · replace h := ifn cq h
                    refine lv_iload_n hx hb dX6_laysTold_187 rfl (lv_at hl 4 rfl) ?_
                    obtain ⟨g24, h⟩ := gdn h
                    refine va_iast hx hb hK hP hD hS 7 0 rfl rfl g24 dX6_laysTold_188 (fun H locs hP hD hS => ?_)
                    have hP : va_P D vwCl ([(h6, .inr (6, [.int thr, .ref h6_ms, .ref h6_mv, .int svm, .ref h6_mb, .int mln, .ref h6_mc, .ref h6_mg, .ref h6_mt, .ref h6_ml, .int mat, .int wel, .ref h6_mr, .int rdm, .long hsh])), (h6_ms, .inl (cI, 253, .inl ms)), (h6_mv, .inl (cI, 1518, .inl mv)), (h6_mb, .inl (cI, 60, .inl mb)), (h6_mc, .inl (cI, 160, .inl x10_1)), (h6_mg, .inl (cI, 160, .inl x10_2)), (h6_mt, .inl (cI, 240, .inl (upd mt_114 v1_73.toNatClampNeg (x10_2 (((40 * v3_114) + x21)).toNatClampNeg)))), (h6_ml, .inl (cI, 240, .inl (upd ml_114 v1_73.toNatClampNeg v3_114))), (h6_mr, .inl (cI, 600, .inl mr))] ++ []) H := hP
                    have hD : va_D A ([(h6, .inr (6, [.int thr, .ref h6_ms, .ref h6_mv, .int svm, .ref h6_mb, .int mln, .ref h6_mc, .ref h6_mg, .ref h6_mt, .ref h6_ml, .int mat, .int wel, .ref h6_mr, .int rdm, .long hsh])), (h6_ms, .inl (cI, 253, .inl ms)), (h6_mv, .inl (cI, 1518, .inl mv)), (h6_mb, .inl (cI, 60, .inl mb)), (h6_mc, .inl (cI, 160, .inl x10_1)), (h6_mg, .inl (cI, 160, .inl x10_2)), (h6_mt, .inl (cI, 240, .inl (upd mt_114 v1_73.toNatClampNeg (x10_2 (((40 * v3_114) + x21)).toNatClampNeg)))), (h6_ml, .inl (cI, 240, .inl (upd ml_114 v1_73.toNatClampNeg v3_114))), (h6_mr, .inl (cI, 600, .inl mr))] ++ []) := hD
                    refine lv_iinc (v := (v3_114 + 1)) (lv' := [(3, .int (v3_114 + 1)), (4, .int (x10_2 (((40 * v3_114) + x21)).toNatClampNeg)), (0, .ref h6), (1, .int v1_73), (2, .int x16)]) hx hb dX6_laysTold_189 hl (k := 4) rfl rfl (by decide) rfl (fun ls hl => ?_)
                    refine lv_goto (tgt := 114) hx hb dX6_laysTold_192 (by decide) ?_
                    exact ih _ _ _ _ _ _ _ _ h hP hD hS (lv_sub hl [2, 3, 4, 0] rfl) K
                  · replace h := ifp cq h
                    refine lv_iconst (v := (-1)) hx hb dX6_laysTold_183 (by decide) ?_
                    refine lv_goto (tgt := 188) hx hb dX6_laysTold_184 (by decide) ?_
                    obtain ⟨g25, h⟩ := gdn h
                    refine va_iast hx hb hK hP hD hS 7 0 rfl rfl g25 dX6_laysTold_188 (fun H locs hP hD hS => ?_)
                    have hP : va_P D vwCl ([(h6, .inr (6, [.int thr, .ref h6_ms, .ref h6_mv, .int svm, .ref h6_mb, .int mln, .ref h6_mc, .ref h6_mg, .ref h6_mt, .ref h6_ml, .int mat, .int wel, .ref h6_mr, .int rdm, .long hsh])), (h6_ms, .inl (cI, 253, .inl ms)), (h6_mv, .inl (cI, 1518, .inl mv)), (h6_mb, .inl (cI, 60, .inl mb)), (h6_mc, .inl (cI, 160, .inl x10_1)), (h6_mg, .inl (cI, 160, .inl x10_2)), (h6_mt, .inl (cI, 240, .inl (upd mt_114 v1_73.toNatClampNeg (x10_2 (((40 * v3_114) + x21)).toNatClampNeg)))), (h6_ml, .inl (cI, 240, .inl (upd ml_114 v1_73.toNatClampNeg (-1)))), (h6_mr, .inl (cI, 600, .inl mr))] ++ []) H := hP
                    have hD : va_D A ([(h6, .inr (6, [.int thr, .ref h6_ms, .ref h6_mv, .int svm, .ref h6_mb, .int mln, .ref h6_mc, .ref h6_mg, .ref h6_mt, .ref h6_ml, .int mat, .int wel, .ref h6_mr, .int rdm, .long hsh])), (h6_ms, .inl (cI, 253, .inl ms)), (h6_mv, .inl (cI, 1518, .inl mv)), (h6_mb, .inl (cI, 60, .inl mb)), (h6_mc, .inl (cI, 160, .inl x10_1)), (h6_mg, .inl (cI, 160, .inl x10_2)), (h6_mt, .inl (cI, 240, .inl (upd mt_114 v1_73.toNatClampNeg (x10_2 (((40 * v3_114) + x21)).toNatClampNeg)))), (h6_ml, .inl (cI, 240, .inl (upd ml_114 v1_73.toNatClampNeg (-1)))), (h6_mr, .inl (cI, 600, .inl mr))] ++ []) := hD
                    refine lv_iinc (v := (v3_114 + 1)) (lv' := [(3, .int (v3_114 + 1)), (4, .int (x10_2 (((40 * v3_114) + x21)).toNatClampNeg)), (0, .ref h6), (1, .int v1_73), (2, .int x16)]) hx hb dX6_laysTold_189 hl (k := 4) rfl rfl (by decide) rfl (fun ls hl => ?_)
                    refine lv_goto (tgt := 114) hx hb dX6_laysTold_192 (by decide) ?_
                    exact ih _ _ _ _ _ _ _ _ h hP hD hS (lv_sub hl [2, 3, 4, 0] rfl) K
        obtain ⟨⟨x26_1, x26_2⟩, hx26, h⟩ := bnd h
        refine L114 FU _ _ _ _ _ _ _ _ hx26 hP hD hS (lv_sub hl [2, 3, 1, 0] rfl) (fun H locs ls hP hD hS hl => ?_)
        refine lv_iinc (v := (v1_73 + 1)) (lv' := [(1, .int (v1_73 + 1)), (0, .ref h6)]) hx hb dX6_laysTold_195 hl (k := 1) rfl rfl (by decide) rfl (fun ls hl => ?_)
        refine lv_goto (tgt := 73) hx hb dX6_laysTold_198 (by decide) ?_
        exact ih _ _ _ _ _ _ _ _ h hP hD hS (lv_sub hl [1, 0] rfl) K
  obtain ⟨⟨x27_1, x27_2⟩, hx27, h⟩ := bnd h
  refine L73 FU _ _ _ _ _ _ _ _ hx27 hP hD hS (lv_sub hl [1, 0] rfl) (fun H locs ls hP hD hS hl => ?_)
  cases h
  exact pw_vret hx hb hr hlocks hAe hQ hP hD hS dX6_laysTold_201
def fX6_isExplained (ms : Nat → Int32) (mt : Nat → Int32) (a1 : Int32) : Option Int32 :=
  if oob a1 240 then none else
  if oob (13 + a1) 253 then none else
  if (mt a1.toNatClampNeg) = (ms ((13 + a1)).toNatClampNeg) then
  some 1
  else
  some 0
abbrev rmX6_isExplained : Room := { frames := 0, cells := 0, slots := 0, locals := 0 }
set_option maxHeartbeats 4000000 in
set_option maxRecDepth 100000 in
theorem mX6_isExplained (l : Launch) (D : va_G) (cI cO cJ : ClassId) (h6 h6_ms h6_mv h6_mb h6_mc h6_mg h6_mt h6_ml h6_mr : Nat) (sz : Nat) (thr : Int32) (ms : Nat → Int32) (mv : Nat → Int32) (svm : Int32) (mb : Nat → Int32) (mln : Int32) (mc : Nat → Int32) (mg : Nat → Int32) (mt : Nat → Int32) (ml : Nat → Int32) (mat : Int32) (wel : Int32) (mr : Nat → Int32) (rdm : Int32) (hsh : Int64) (a1 : Int32) (z : Int32) (h : fX6_isExplained ms mt a1 = some z) : Met l yX6_isExplained wsX6_isExplained rmX6_isExplained (pw_pre D (tyL cI cO cJ) [.ref h6, .int a1] [(h6, .inr (6, [.int thr, .ref h6_ms, .ref h6_mv, .int svm, .ref h6_mb, .int mln, .ref h6_mc, .ref h6_mg, .ref h6_mt, .ref h6_ml, .int mat, .int wel, .ref h6_mr, .int rdm, .long hsh])), (h6_ms, .inl (cI, 253, .inl ms)), (h6_mv, .inl (cI, 1518, .inl mv)), (h6_mb, .inl (cI, 60, .inl mb)), (h6_mc, .inl (cI, 160, .inl mc)), (h6_mg, .inl (cI, 160, .inl mg)), (h6_mt, .inl (cI, 240, .inl mt)), (h6_ml, .inl (cI, 240, .inl ml)), (h6_mr, .inl (cI, 600, .inl mr))] sz) (pw_i D [(h6, .inr (6, [.int thr, .ref h6_ms, .ref h6_mv, .int svm, .ref h6_mb, .int mln, .ref h6_mc, .ref h6_mg, .ref h6_mt, .ref h6_ml, .int mat, .int wel, .ref h6_mr, .int rdm, .long hsh])), (h6_ms, .inl (cI, 253, .inl ms)), (h6_mv, .inl (cI, 1518, .inl mv)), (h6_mb, .inl (cI, 60, .inl mb)), (h6_mc, .inl (cI, 160, .inl mc)), (h6_mg, .inl (cI, 160, .inl mg)), (h6_mt, .inl (cI, 240, .inl mt)), (h6_ml, .inl (cI, 240, .inl ml)), (h6_mr, .inl (cI, 600, .inl mr))] [(h6, .inr (6, [.int thr, .ref h6_ms, .ref h6_mv, .int svm, .ref h6_mb, .int mln, .ref h6_mc, .ref h6_mg, .ref h6_mt, .ref h6_ml, .int mat, .int wel, .ref h6_mr, .int rdm, .long hsh])), (h6_ms, .inl (cI, 253, .inl ms)), (h6_mv, .inl (cI, 1518, .inl mv)), (h6_mb, .inl (cI, 60, .inl mb)), (h6_mc, .inl (cI, 160, .inl mc)), (h6_mg, .inl (cI, 160, .inl mg)), (h6_mt, .inl (cI, 240, .inl mt)), (h6_ml, .inl (cI, 240, .inl ml)), (h6_mr, .inl (cI, 600, .inl mr))] z sz) 0 0 (va_A [(h6, .inr (6, [.int thr, .ref h6_ms, .ref h6_mv, .int svm, .ref h6_mb, .int mln, .ref h6_mc, .ref h6_mg, .ref h6_mt, .ref h6_ml, .int mat, .int wel, .ref h6_mr, .int rdm, .long hsh])), (h6_ms, .inl (cI, 253, .inl ms)), (h6_mv, .inl (cI, 1518, .inl mv)), (h6_mb, .inl (cI, 60, .inl mb)), (h6_mc, .inl (cI, 160, .inl mc)), (h6_mg, .inl (cI, 160, .inl mg)), (h6_mt, .inl (cI, 240, .inl mt)), (h6_ml, .inl (cI, 240, .inl ml)), (h6_mr, .inl (cI, 600, .inl mr))] sz) := by
  refine pw_of (Qc := fun sz => pw_i D [(h6, .inr (6, [.int thr, .ref h6_ms, .ref h6_mv, .int svm, .ref h6_mb, .int mln, .ref h6_mc, .ref h6_mg, .ref h6_mt, .ref h6_ml, .int mat, .int wel, .ref h6_mr, .int rdm, .long hsh])), (h6_ms, .inl (cI, 253, .inl ms)), (h6_mv, .inl (cI, 1518, .inl mv)), (h6_mb, .inl (cI, 60, .inl mb)), (h6_mc, .inl (cI, 160, .inl mc)), (h6_mg, .inl (cI, 160, .inl mg)), (h6_mt, .inl (cI, 240, .inl mt)), (h6_ml, .inl (cI, 240, .inl ml)), (h6_mr, .inl (cI, 600, .inl mr))] [(h6, .inr (6, [.int thr, .ref h6_ms, .ref h6_mv, .int svm, .ref h6_mb, .int mln, .ref h6_mc, .ref h6_mg, .ref h6_mt, .ref h6_ml, .int mat, .int wel, .ref h6_mr, .int rdm, .long hsh])), (h6_ms, .inl (cI, 253, .inl ms)), (h6_mv, .inl (cI, 1518, .inl mv)), (h6_mb, .inl (cI, 60, .inl mb)), (h6_mc, .inl (cI, 160, .inl mc)), (h6_mg, .inl (cI, 160, .inl mg)), (h6_mt, .inl (cI, 240, .inl mt)), (h6_ml, .inl (cI, 240, .inl ml)), (h6_mr, .inl (cI, 600, .inl mr))] z sz) (cc := cX6_isExplained) (maxL := 2) (ret := (some .boolean)) (by decide) rfl (Nat.le_of_ble_eq_true rfl) ?_
  intro p e s m args below meth c A Q H ls hx hb hml hr hts hown hlocks hAe hQ hK hN hA hP hD hS hl
  have hown : s.vm.findClass RX6 = some m.cls := hown
  have hl : lv_has ls 2 [(0, .ref h6), (1, .int a1)] := hl
  have hP : va_P D vwCl ([(h6, .inr (6, [.int thr, .ref h6_ms, .ref h6_mv, .int svm, .ref h6_mb, .int mln, .ref h6_mc, .ref h6_mg, .ref h6_mt, .ref h6_ml, .int mat, .int wel, .ref h6_mr, .int rdm, .long hsh])), (h6_ms, .inl (cI, 253, .inl ms)), (h6_mv, .inl (cI, 1518, .inl mv)), (h6_mb, .inl (cI, 60, .inl mb)), (h6_mc, .inl (cI, 160, .inl mc)), (h6_mg, .inl (cI, 160, .inl mg)), (h6_mt, .inl (cI, 240, .inl mt)), (h6_ml, .inl (cI, 240, .inl ml)), (h6_mr, .inl (cI, 600, .inl mr))] ++ []) H := hP
  have hD : va_D A ([(h6, .inr (6, [.int thr, .ref h6_ms, .ref h6_mv, .int svm, .ref h6_mb, .int mln, .ref h6_mc, .ref h6_mg, .ref h6_mt, .ref h6_ml, .int mat, .int wel, .ref h6_mr, .int rdm, .long hsh])), (h6_ms, .inl (cI, 253, .inl ms)), (h6_mv, .inl (cI, 1518, .inl mv)), (h6_mb, .inl (cI, 60, .inl mb)), (h6_mc, .inl (cI, 160, .inl mc)), (h6_mg, .inl (cI, 160, .inl mg)), (h6_mt, .inl (cI, 240, .inl mt)), (h6_ml, .inl (cI, 240, .inl ml)), (h6_mr, .inl (cI, 600, .inl mr))] ++ []) := hD
  have iX6 : ∀ w ∈ u_ws RX6 TX6 15, w ∈ wsX6_isExplained := fun _ h => List.mem_cons_of_mem _ (List.mem_append_right _ h)
  unfold fX6_isExplained at h
  refine lv_aload_n hx hb dX6_isExplained_0 rfl (lv_at hl 0 rfl) ?_
  refine va_get (D := D) (ci := 6) (v := .ref h6_mt) (C := RX6) (T := TX6) (N := 15) hx hb hts iX6 hown hK hP 0 rfl rfl 8 (by decide) (hts (.fieldLink RX6 25 "HiddenPeriodsModel" "toldSigns" "[I") (by decide +kernel)) (fun _ h9 => h9) rfl dX6_isExplained_1 ?_
  refine lv_iload_n hx hb dX6_isExplained_4 rfl (lv_at hl 1 rfl) ?_
  obtain ⟨g1, h⟩ := gdn h
  refine va_iald hx hb hK hP 6 0 rfl rfl g1 dX6_isExplained_5 ?_
  refine lv_aload_n hx hb dX6_isExplained_6 rfl (lv_at hl 0 rfl) ?_
  refine va_get (D := D) (ci := 6) (v := .ref h6_ms) (C := RX6) (T := TX6) (N := 15) hx hb hts iX6 hown hK hP 0 rfl rfl 1 (by decide) (hts (.fieldLink RX6 7 "HiddenPeriodsModel" "s" "[I") (by decide +kernel)) (fun _ h9 => h9) rfl dX6_isExplained_7 ?_
  refine lv_bipush (v := 13) hx hb dX6_isExplained_10 (by decide) ?_
  refine lv_iload_n hx hb dX6_isExplained_12 rfl (lv_at hl 1 rfl) ?_
  refine lv_iadd hx hb dX6_isExplained_13 ?_
  obtain ⟨g2, h⟩ := gdn h
  refine va_iald hx hb hK hP 1 0 rfl rfl g2 dX6_isExplained_14 ?_
  refine lv_icmp_ne (tgt := 22) hx hb dX6_isExplained_15 (by decide) (fun cq => ?_) (fun cq => ?_)
  · replace h := ifn cq h
    refine lv_iconst (v := 0) hx hb dX6_isExplained_22 (by decide) ?_
    cases h
    exact pw_zret hx hb hr hlocks hAe (by decide) hQ hP hD hS dX6_isExplained_23
  · replace h := ifp cq h
    refine lv_iconst (v := 1) hx hb dX6_isExplained_18 (by decide) ?_
    refine lv_goto (tgt := 23) hx hb dX6_isExplained_19 (by decide) ?_
    cases h
    exact pw_zret hx hb hr hlocks hAe (by decide) hQ hP hD hS dX6_isExplained_23
def fX6_isPeriod (a1 : Int32) (a2 : Int32) : Option Int32 :=
  (fX6_in a1 10 400).bind fun x1 =>
  if x1 = 0 then
  some 0
  else
  (fX6_in a2 0 (a1 - 1)).bind fun x2 =>
  if x2 = 0 then
  some 0
  else
  some 1
abbrev rmX6_isPeriod : Room := { frames := 1, cells := 0, slots := 0, locals := 22 }
set_option maxHeartbeats 4000000 in
set_option maxRecDepth 100000 in
theorem mX6_isPeriod (l : Launch) (D : va_G) (cI cO cJ : ClassId) (sz : Nat) (a1 : Int32) (a2 : Int32) (z : Int32) (h : fX6_isPeriod a1 a2 = some z) : Met l yX6_isPeriod wsX6_isPeriod rmX6_isPeriod (pw_pre D (tyL cI cO cJ) [.int a1, .int a2] [] sz) (pw_i D [] [] z sz) 0 0 (va_A [] sz) := by
  refine pw_of (Qc := fun sz => pw_i D [] [] z sz) (cc := cX6_isPeriod) (maxL := 2) (ret := (some .boolean)) (by decide) rfl (Nat.le_of_ble_eq_true rfl) ?_
  intro p e s m args below meth c A Q H ls hx hb hml hr hts hown hlocks hAe hQ hK hN hA hP hD hS hl
  have hown : s.vm.findClass RX6 = some m.cls := hown
  have hl : lv_has ls 2 [(0, .int a1), (1, .int a2)] := hl
  unfold fX6_isPeriod at h
  refine lv_iload_n hx hb dX6_isPeriod_0 rfl (lv_at hl 0 rfl) ?_
  refine lv_bipush (v := 10) hx hb dX6_isPeriod_1 (by decide) ?_
  refine lv_sipush (v := 400) hx hb dX6_isPeriod_3 (by decide) ?_
  obtain ⟨x1, hx1, h⟩ := bnd h
  refine pw_go0 (va_runS (As := [.int a1, .int 10, .int 400]) (rest := []) ⟨hx, hb, hml, hown, hts⟩ (mX6_in l D cI cO cJ H.size a1 10 400 _ hx1) (va_cwS 3 hts gX6_isPeriod_X6_in rfl rfl rfl (by decide +kernel) ⟨Nat.le_of_ble_eq_true rfl, Nat.le_of_ble_eq_true rfl⟩) (pw_preS hK hN pw_nilP (pw_nilD (A := A))) rfl rfl hl.1 rfl (lv_room (Nat.le_of_ble_eq_true rfl)) dX6_isPeriod_6 ⟨Nat.zero_le _, Nat.zero_le _⟩) hP hS hA (fun H locs hP hS => ?_)
  refine lv_if_eq (tgt := 27) hx hb dX6_isPeriod_9 (by decide) (fun cq => ?_) (fun cq => ?_)
  · replace h := ifp cq h
    refine lv_iconst (v := 0) hx hb dX6_isPeriod_27 (by decide) ?_
    cases h
    exact pw_zret hx hb hr hlocks hAe (by decide) hQ hP hD hS dX6_isPeriod_28
  · replace h := ifn cq h
    refine lv_iload_n hx hb dX6_isPeriod_12 rfl (lv_at hl 1 rfl) ?_
    refine lv_iconst (v := 0) hx hb dX6_isPeriod_13 (by decide) ?_
    refine lv_iload_n hx hb dX6_isPeriod_14 rfl (lv_at hl 0 rfl) ?_
    refine lv_iconst (v := 1) hx hb dX6_isPeriod_15 (by decide) ?_
    refine lv_isub hx hb dX6_isPeriod_16 ?_
    obtain ⟨x2, hx2, h⟩ := bnd h
    refine pw_go0 (va_runS (As := [.int a2, .int 0, .int (a1 - 1)]) (rest := []) ⟨hx, hb, hml, hown, hts⟩ (mX6_in l D cI cO cJ H.size a2 0 (a1 - 1) _ hx2) (va_cwS 3 hts gX6_isPeriod_X6_in rfl rfl rfl (by decide +kernel) ⟨Nat.le_of_ble_eq_true rfl, Nat.le_of_ble_eq_true rfl⟩) (pw_preS hK hN pw_nilP (pw_nilD (A := A))) rfl rfl hl.1 rfl (lv_room (Nat.le_of_ble_eq_true rfl)) dX6_isPeriod_17 ⟨Nat.zero_le _, Nat.zero_le _⟩) hP hS hA (fun H locs hP hS => ?_)
    refine lv_if_eq (tgt := 27) hx hb dX6_isPeriod_20 (by decide) (fun cq => ?_) (fun cq => ?_)
    · replace h := ifp cq h
      refine lv_iconst (v := 0) hx hb dX6_isPeriod_27 (by decide) ?_
      cases h
      exact pw_zret hx hb hr hlocks hAe (by decide) hQ hP hD hS dX6_isPeriod_28
    · replace h := ifn cq h
      refine lv_iconst (v := 1) hx hb dX6_isPeriod_23 (by decide) ?_
      refine lv_goto (tgt := 28) hx hb dX6_isPeriod_24 (by decide) ?_
      cases h
      exact pw_zret hx hb hr hlocks hAe (by decide) hQ hP hD hS dX6_isPeriod_28
def fX6_isKept_L5 (ms : Nat → Int32) (a1 : Int32) (a2 : Int32) : Nat → Int32 → Int32 → Option Int32
  | 0, _, _ => none
  | n + 1, v3_5, v4_5 =>
    if oob 4 253 then none else
    if (ms (4 : Int32).toNatClampNeg) ≤ v4_5 then
    some v3_5
    else
    if v3_5 = 0 then
    (fX6_tenthsOf ms v4_5).bind fun x2 =>
    if x2 = a1 then
    (fX6_phaseOf ms v4_5).bind fun x3 =>
    if x3 = a2 then
    fX6_isKept_L5 ms a1 a2 n 1 (v4_5 + 1)
    else
    fX6_isKept_L5 ms a1 a2 n 0 (v4_5 + 1)
    else
    fX6_isKept_L5 ms a1 a2 n 0 (v4_5 + 1)
    else
    fX6_isKept_L5 ms a1 a2 n 1 (v4_5 + 1)
def fX6_isKept (ms : Nat → Int32) (a1 : Int32) (a2 : Int32) : Option Int32 :=
  (fX6_isKept_L5 ms a1 a2 FU 0 0).bind fun x4 =>
  if ¬ (x4 = 0 ∨ x4 = 1) then none else
  some x4
abbrev rmX6_isKept : Room := { frames := 1, cells := 0, slots := 0, locals := 21 }
set_option maxHeartbeats 4000000 in
set_option maxRecDepth 100000 in
theorem mX6_isKept (l : Launch) (D : va_G) (cI cO cJ : ClassId) (h6 h6_ms h6_mv h6_mb h6_mc h6_mg h6_mt h6_ml h6_mr : Nat) (sz : Nat) (thr : Int32) (ms : Nat → Int32) (mv : Nat → Int32) (svm : Int32) (mb : Nat → Int32) (mln : Int32) (mc : Nat → Int32) (mg : Nat → Int32) (mt : Nat → Int32) (ml : Nat → Int32) (mat : Int32) (wel : Int32) (mr : Nat → Int32) (rdm : Int32) (hsh : Int64) (a1 : Int32) (a2 : Int32) (z : Int32) (h : fX6_isKept ms a1 a2 = some z) : Met l yX6_isKept wsX6_isKept rmX6_isKept (pw_pre D (tyL cI cO cJ) [.ref h6, .int a1, .int a2] [(h6, .inr (6, [.int thr, .ref h6_ms, .ref h6_mv, .int svm, .ref h6_mb, .int mln, .ref h6_mc, .ref h6_mg, .ref h6_mt, .ref h6_ml, .int mat, .int wel, .ref h6_mr, .int rdm, .long hsh])), (h6_ms, .inl (cI, 253, .inl ms)), (h6_mv, .inl (cI, 1518, .inl mv)), (h6_mb, .inl (cI, 60, .inl mb)), (h6_mc, .inl (cI, 160, .inl mc)), (h6_mg, .inl (cI, 160, .inl mg)), (h6_mt, .inl (cI, 240, .inl mt)), (h6_ml, .inl (cI, 240, .inl ml)), (h6_mr, .inl (cI, 600, .inl mr))] sz) (pw_i D [(h6, .inr (6, [.int thr, .ref h6_ms, .ref h6_mv, .int svm, .ref h6_mb, .int mln, .ref h6_mc, .ref h6_mg, .ref h6_mt, .ref h6_ml, .int mat, .int wel, .ref h6_mr, .int rdm, .long hsh])), (h6_ms, .inl (cI, 253, .inl ms)), (h6_mv, .inl (cI, 1518, .inl mv)), (h6_mb, .inl (cI, 60, .inl mb)), (h6_mc, .inl (cI, 160, .inl mc)), (h6_mg, .inl (cI, 160, .inl mg)), (h6_mt, .inl (cI, 240, .inl mt)), (h6_ml, .inl (cI, 240, .inl ml)), (h6_mr, .inl (cI, 600, .inl mr))] [(h6, .inr (6, [.int thr, .ref h6_ms, .ref h6_mv, .int svm, .ref h6_mb, .int mln, .ref h6_mc, .ref h6_mg, .ref h6_mt, .ref h6_ml, .int mat, .int wel, .ref h6_mr, .int rdm, .long hsh])), (h6_ms, .inl (cI, 253, .inl ms)), (h6_mv, .inl (cI, 1518, .inl mv)), (h6_mb, .inl (cI, 60, .inl mb)), (h6_mc, .inl (cI, 160, .inl mc)), (h6_mg, .inl (cI, 160, .inl mg)), (h6_mt, .inl (cI, 240, .inl mt)), (h6_ml, .inl (cI, 240, .inl ml)), (h6_mr, .inl (cI, 600, .inl mr))] z sz) 0 0 (va_A [(h6, .inr (6, [.int thr, .ref h6_ms, .ref h6_mv, .int svm, .ref h6_mb, .int mln, .ref h6_mc, .ref h6_mg, .ref h6_mt, .ref h6_ml, .int mat, .int wel, .ref h6_mr, .int rdm, .long hsh])), (h6_ms, .inl (cI, 253, .inl ms)), (h6_mv, .inl (cI, 1518, .inl mv)), (h6_mb, .inl (cI, 60, .inl mb)), (h6_mc, .inl (cI, 160, .inl mc)), (h6_mg, .inl (cI, 160, .inl mg)), (h6_mt, .inl (cI, 240, .inl mt)), (h6_ml, .inl (cI, 240, .inl ml)), (h6_mr, .inl (cI, 600, .inl mr))] sz) := by
  refine pw_of (Qc := fun sz => pw_i D [(h6, .inr (6, [.int thr, .ref h6_ms, .ref h6_mv, .int svm, .ref h6_mb, .int mln, .ref h6_mc, .ref h6_mg, .ref h6_mt, .ref h6_ml, .int mat, .int wel, .ref h6_mr, .int rdm, .long hsh])), (h6_ms, .inl (cI, 253, .inl ms)), (h6_mv, .inl (cI, 1518, .inl mv)), (h6_mb, .inl (cI, 60, .inl mb)), (h6_mc, .inl (cI, 160, .inl mc)), (h6_mg, .inl (cI, 160, .inl mg)), (h6_mt, .inl (cI, 240, .inl mt)), (h6_ml, .inl (cI, 240, .inl ml)), (h6_mr, .inl (cI, 600, .inl mr))] [(h6, .inr (6, [.int thr, .ref h6_ms, .ref h6_mv, .int svm, .ref h6_mb, .int mln, .ref h6_mc, .ref h6_mg, .ref h6_mt, .ref h6_ml, .int mat, .int wel, .ref h6_mr, .int rdm, .long hsh])), (h6_ms, .inl (cI, 253, .inl ms)), (h6_mv, .inl (cI, 1518, .inl mv)), (h6_mb, .inl (cI, 60, .inl mb)), (h6_mc, .inl (cI, 160, .inl mc)), (h6_mg, .inl (cI, 160, .inl mg)), (h6_mt, .inl (cI, 240, .inl mt)), (h6_ml, .inl (cI, 240, .inl ml)), (h6_mr, .inl (cI, 600, .inl mr))] z sz) (cc := cX6_isKept) (maxL := 5) (ret := (some .boolean)) (by decide) rfl (Nat.le_of_ble_eq_true rfl) ?_
  intro p e s m args below meth c A Q H ls hx hb hml hr hts hown hlocks hAe hQ hK hN hA hP hD hS hl
  have hown : s.vm.findClass RX6 = some m.cls := hown
  have hl : lv_has ls 5 [(0, .ref h6), (1, .int a1), (2, .int a2)] := hl
  have hP : va_P D vwCl ([(h6, .inr (6, [.int thr, .ref h6_ms, .ref h6_mv, .int svm, .ref h6_mb, .int mln, .ref h6_mc, .ref h6_mg, .ref h6_mt, .ref h6_ml, .int mat, .int wel, .ref h6_mr, .int rdm, .long hsh])), (h6_ms, .inl (cI, 253, .inl ms)), (h6_mv, .inl (cI, 1518, .inl mv)), (h6_mb, .inl (cI, 60, .inl mb)), (h6_mc, .inl (cI, 160, .inl mc)), (h6_mg, .inl (cI, 160, .inl mg)), (h6_mt, .inl (cI, 240, .inl mt)), (h6_ml, .inl (cI, 240, .inl ml)), (h6_mr, .inl (cI, 600, .inl mr))] ++ []) H := hP
  have hD : va_D A ([(h6, .inr (6, [.int thr, .ref h6_ms, .ref h6_mv, .int svm, .ref h6_mb, .int mln, .ref h6_mc, .ref h6_mg, .ref h6_mt, .ref h6_ml, .int mat, .int wel, .ref h6_mr, .int rdm, .long hsh])), (h6_ms, .inl (cI, 253, .inl ms)), (h6_mv, .inl (cI, 1518, .inl mv)), (h6_mb, .inl (cI, 60, .inl mb)), (h6_mc, .inl (cI, 160, .inl mc)), (h6_mg, .inl (cI, 160, .inl mg)), (h6_mt, .inl (cI, 240, .inl mt)), (h6_ml, .inl (cI, 240, .inl ml)), (h6_mr, .inl (cI, 600, .inl mr))] ++ []) := hD
  have iX6 : ∀ w ∈ u_ws RX6 TX6 15, w ∈ wsX6_isKept := fun _ h => List.mem_cons_of_mem _ (List.mem_append_right _ h)
  unfold fX6_isKept at h
  refine lv_iconst (v := 0) hx hb dX6_isKept_0 (by decide) ?_
  refine lv_istore_n (lv' := [(3, .int 0), (0, .ref h6), (1, .int a1), (2, .int a2)]) hx hb dX6_isKept_1 rfl hl (by decide) rfl (fun ls hl => ?_)
  refine lv_iconst (v := 0) hx hb dX6_isKept_2 (by decide) ?_
  refine lv_istore (lv' := [(4, .int 0), (3, .int 0), (0, .ref h6), (1, .int a1), (2, .int a2)]) hx hb dX6_isKept_3 hl (by decide) rfl (fun ls hl => ?_)
  have L5 : ∀ (n : Nat) (v3_5 : Int32) (v4_5 : Int32) (o5_1 : Int32) (H : Heap) (locs : List Loc) (ls : Array Slot), fX6_isKept_L5 ms a1 a2 n v3_5 v4_5 = some o5_1 → va_P D vwCl ([(h6, .inr (6, [.int thr, .ref h6_ms, .ref h6_mv, .int svm, .ref h6_mb, .int mln, .ref h6_mc, .ref h6_mg, .ref h6_mt, .ref h6_ml, .int mat, .int wel, .ref h6_mr, .int rdm, .long hsh])), (h6_ms, .inl (cI, 253, .inl ms)), (h6_mv, .inl (cI, 1518, .inl mv)), (h6_mb, .inl (cI, 60, .inl mb)), (h6_mc, .inl (cI, 160, .inl mc)), (h6_mg, .inl (cI, 160, .inl mg)), (h6_mt, .inl (cI, 240, .inl mt)), (h6_ml, .inl (cI, 240, .inl ml)), (h6_mr, .inl (cI, 600, .inl mr))] ++ []) H → va_D A ([(h6, .inr (6, [.int thr, .ref h6_ms, .ref h6_mv, .int svm, .ref h6_mb, .int mln, .ref h6_mc, .ref h6_mg, .ref h6_mt, .ref h6_ml, .int mat, .int wel, .ref h6_mr, .int rdm, .long hsh])), (h6_ms, .inl (cI, 253, .inl ms)), (h6_mv, .inl (cI, 1518, .inl mv)), (h6_mb, .inl (cI, 60, .inl mb)), (h6_mc, .inl (cI, 160, .inl mc)), (h6_mg, .inl (cI, 160, .inl mg)), (h6_mt, .inl (cI, 240, .inl mt)), (h6_ml, .inl (cI, 240, .inl ml)), (h6_mr, .inl (cI, 600, .inl mr))] ++ []) → va_S A s.heap H locs → lv_has ls 5 [(0, .ref h6), (1, .int a1), (2, .int a2), (3, .int v3_5), (4, .int v4_5)] → (∀ (H : Heap) (locs : List Loc) (ls : Array Slot), va_P D vwCl ([(h6, .inr (6, [.int thr, .ref h6_ms, .ref h6_mv, .int svm, .ref h6_mb, .int mln, .ref h6_mc, .ref h6_mg, .ref h6_mt, .ref h6_ml, .int mat, .int wel, .ref h6_mr, .int rdm, .long hsh])), (h6_ms, .inl (cI, 253, .inl ms)), (h6_mv, .inl (cI, 1518, .inl mv)), (h6_mb, .inl (cI, 60, .inl mb)), (h6_mc, .inl (cI, 160, .inl mc)), (h6_mg, .inl (cI, 160, .inl mg)), (h6_mt, .inl (cI, 240, .inl mt)), (h6_ml, .inl (cI, 240, .inl ml)), (h6_mr, .inl (cI, 600, .inl mr))] ++ []) H → va_D A ([(h6, .inr (6, [.int thr, .ref h6_ms, .ref h6_mv, .int svm, .ref h6_mb, .int mln, .ref h6_mc, .ref h6_mg, .ref h6_mt, .ref h6_ml, .int mat, .int wel, .ref h6_mr, .int rdm, .long hsh])), (h6_ms, .inl (cI, 253, .inl ms)), (h6_mv, .inl (cI, 1518, .inl mv)), (h6_mb, .inl (cI, 60, .inl mb)), (h6_mc, .inl (cI, 160, .inl mc)), (h6_mg, .inl (cI, 160, .inl mg)), (h6_mt, .inl (cI, 240, .inl mt)), (h6_ml, .inl (cI, 240, .inl ml)), (h6_mr, .inl (cI, 600, .inl mr))] ++ []) → va_S A s.heap H locs → lv_has ls 5 [(3, .int o5_1)] → W p l e rmX6_isKept s m args below meth c H locs 0 0 Q (F0 m 52 ls [])) → W p l e rmX6_isKept s m args below meth c H locs 0 0 Q (F0 m 5 ls []) := by
    intro n
    induction n with
    | zero =>
      intro v3_5 v4_5 o5_1 H locs ls h
      rw [fX6_isKept_L5] at h
      cases h
    | succ n ih =>
      intro v3_5 v4_5 o5_1 H locs ls h hP hD hS hl K
      rw [fX6_isKept_L5] at h
      refine lv_iload hx hb dX6_isKept_5 (lv_at hl 4 rfl) ?_
      refine lv_aload_n hx hb dX6_isKept_7 rfl (lv_at hl 0 rfl) ?_
      refine va_get (D := D) (ci := 6) (v := .ref h6_ms) (C := RX6) (T := TX6) (N := 15) hx hb hts iX6 hown hK hP 0 rfl rfl 1 (by decide) (hts (.fieldLink RX6 7 "HiddenPeriodsModel" "s" "[I") (by decide +kernel)) (fun _ h9 => h9) rfl dX6_isKept_8 ?_
      refine lv_iconst (v := 4) hx hb dX6_isKept_11 (by decide) ?_
      obtain ⟨g1, h⟩ := gdn h
      refine va_iald hx hb hK hP 1 0 rfl rfl g1 dX6_isKept_12 ?_
      refine lv_icmp_ge (tgt := 52) hx hb dX6_isKept_13 (by decide) (fun cq => ?_) (fun cq => ?_)
      · replace h := ifp cq h
        cases h
        exact K _ _ _ hP hD hS (lv_sub hl [3] rfl)
      · replace h := ifn cq h
        refine lv_iload_n hx hb dX6_isKept_16 rfl (lv_at hl 3 rfl) ?_
        refine lv_if_ne (tgt := 40) hx hb dX6_isKept_17 (by decide) (fun cq => ?_) (fun cq => ?_)
        · replace h := ifn cq h
          refine lv_iconst (v := 1) hx hb dX6_isKept_40 (by decide) ?_
          refine lv_goto (tgt := 45) hx hb dX6_isKept_41 (by decide) ?_
          refine lv_istore_n (lv' := [(3, .int 1), (0, .ref h6), (1, .int a1), (2, .int a2), (4, .int v4_5)]) hx hb dX6_isKept_45 rfl hl (by decide) rfl (fun ls hl => ?_)
          refine lv_iinc (v := (v4_5 + 1)) (lv' := [(4, .int (v4_5 + 1)), (3, .int 1), (0, .ref h6), (1, .int a1), (2, .int a2)]) hx hb dX6_isKept_46 hl (k := 4) rfl rfl (by decide) rfl (fun ls hl => ?_)
          refine lv_goto (tgt := 5) hx hb dX6_isKept_49 (by decide) ?_
          exact ih _ _ _ _ _ _ h hP hD hS (lv_sub hl [2, 3, 4, 1, 0] rfl) K
        · replace h := ifp cq h
          refine lv_aload_n hx hb dX6_isKept_20 rfl (lv_at hl 0 rfl) ?_
          refine lv_iload hx hb dX6_isKept_21 (lv_at hl 4 rfl) ?_
          obtain ⟨x2, hx2, h⟩ := bnd h
          refine pw_goi (wc := [(h6, .inr (6, [.int thr, .ref h6_ms, .ref h6_mv, .int svm, .ref h6_mb, .int mln, .ref h6_mc, .ref h6_mg, .ref h6_mt, .ref h6_ml, .int mat, .int wel, .ref h6_mr, .int rdm, .long hsh])), (h6_ms, .inl (cI, 253, .inl ms)), (h6_mv, .inl (cI, 1518, .inl mv)), (h6_mb, .inl (cI, 60, .inl mb)), (h6_mc, .inl (cI, 160, .inl mc)), (h6_mg, .inl (cI, 160, .inl mg)), (h6_mt, .inl (cI, 240, .inl mt)), (h6_ml, .inl (cI, 240, .inl ml)), (h6_mr, .inl (cI, 600, .inl mr))]) (w1 := [(h6, .inr (6, [.int thr, .ref h6_ms, .ref h6_mv, .int svm, .ref h6_mb, .int mln, .ref h6_mc, .ref h6_mg, .ref h6_mt, .ref h6_ml, .int mat, .int wel, .ref h6_mr, .int rdm, .long hsh])), (h6_ms, .inl (cI, 253, .inl ms)), (h6_mv, .inl (cI, 1518, .inl mv)), (h6_mb, .inl (cI, 60, .inl mb)), (h6_mc, .inl (cI, 160, .inl mc)), (h6_mg, .inl (cI, 160, .inl mg)), (h6_mt, .inl (cI, 240, .inl mt)), (h6_ml, .inl (cI, 240, .inl ml)), (h6_mr, .inl (cI, 600, .inl mr))]) (w2 := [(h6, .inr (6, [.int thr, .ref h6_ms, .ref h6_mv, .int svm, .ref h6_mb, .int mln, .ref h6_mc, .ref h6_mg, .ref h6_mt, .ref h6_ml, .int mat, .int wel, .ref h6_mr, .int rdm, .long hsh])), (h6_ms, .inl (cI, 253, .inl ms)), (h6_mv, .inl (cI, 1518, .inl mv)), (h6_mb, .inl (cI, 60, .inl mb)), (h6_mc, .inl (cI, 160, .inl mc)), (h6_mg, .inl (cI, 160, .inl mg)), (h6_mt, .inl (cI, 240, .inl mt)), (h6_ml, .inl (cI, 240, .inl ml)), (h6_mr, .inl (cI, 600, .inl mr))]) (va_runV (As := [.int v4_5]) (rest := []) ⟨hx, hb, hml, hown, hts⟩ (mX6_tenthsOf l D cI cO cJ h6 h6_ms h6_mv h6_mb h6_mc h6_mg h6_mt h6_ml h6_mr H.size thr ms mv svm mb mln mc mg mt ml mat wel mr rdm hsh v4_5 _ hx2) (cwV 1 hts gX6_isKept_X6_tenthsOf rfl rfl rfl (by decide +kernel) ⟨Nat.le_of_ble_eq_true rfl, Nat.le_of_ble_eq_true rfl⟩) (pw_preV hK hN (pw_sub hP [0, 1, 2, 3, 4, 5, 6, 7, 8] rfl) (pw_subD hD [0, 1, 2, 3, 4, 5, 6, 7, 8] (by decide) rfl) (ci := 6) (q0 := 0) rfl rfl) rfl rfl hl.1 rfl (lv_room (Nat.le_of_ble_eq_true rfl)) dX6_isKept_23 ⟨Nat.zero_le _, Nat.zero_le _⟩) hP hD hS hA [0, 1, 2, 3, 4, 5, 6, 7, 8] [] [0, 1, 2, 3, 4, 5, 6, 7, 8] rfl rfl (by decide) (by decide) (by decide) rfl (fun H locs hP hD hS => ?_)
          refine lv_iload_n hx hb dX6_isKept_26 rfl (lv_at hl 1 rfl) ?_
          refine lv_icmp_ne (tgt := 44) hx hb dX6_isKept_27 (by decide) (fun cq => ?_) (fun cq => ?_)
          · replace h := ifn cq h
            refine lv_iconst (v := 0) hx hb dX6_isKept_44 (by decide) ?_
            refine lv_istore_n (lv' := [(3, .int 0), (0, .ref h6), (1, .int a1), (2, .int a2), (4, .int v4_5)]) hx hb dX6_isKept_45 rfl hl (by decide) rfl (fun ls hl => ?_)
            refine lv_iinc (v := (v4_5 + 1)) (lv' := [(4, .int (v4_5 + 1)), (3, .int 0), (0, .ref h6), (1, .int a1), (2, .int a2)]) hx hb dX6_isKept_46 hl (k := 4) rfl rfl (by decide) rfl (fun ls hl => ?_)
            refine lv_goto (tgt := 5) hx hb dX6_isKept_49 (by decide) ?_
            exact ih _ _ _ _ _ _ h hP hD hS (lv_sub hl [2, 3, 4, 1, 0] rfl) K
          · replace h := ifp cq h
            refine lv_aload_n hx hb dX6_isKept_30 rfl (lv_at hl 0 rfl) ?_
            refine lv_iload hx hb dX6_isKept_31 (lv_at hl 4 rfl) ?_
            obtain ⟨x3, hx3, h⟩ := bnd h
            refine pw_goi (wc := [(h6, .inr (6, [.int thr, .ref h6_ms, .ref h6_mv, .int svm, .ref h6_mb, .int mln, .ref h6_mc, .ref h6_mg, .ref h6_mt, .ref h6_ml, .int mat, .int wel, .ref h6_mr, .int rdm, .long hsh])), (h6_ms, .inl (cI, 253, .inl ms)), (h6_mv, .inl (cI, 1518, .inl mv)), (h6_mb, .inl (cI, 60, .inl mb)), (h6_mc, .inl (cI, 160, .inl mc)), (h6_mg, .inl (cI, 160, .inl mg)), (h6_mt, .inl (cI, 240, .inl mt)), (h6_ml, .inl (cI, 240, .inl ml)), (h6_mr, .inl (cI, 600, .inl mr))]) (w1 := [(h6, .inr (6, [.int thr, .ref h6_ms, .ref h6_mv, .int svm, .ref h6_mb, .int mln, .ref h6_mc, .ref h6_mg, .ref h6_mt, .ref h6_ml, .int mat, .int wel, .ref h6_mr, .int rdm, .long hsh])), (h6_ms, .inl (cI, 253, .inl ms)), (h6_mv, .inl (cI, 1518, .inl mv)), (h6_mb, .inl (cI, 60, .inl mb)), (h6_mc, .inl (cI, 160, .inl mc)), (h6_mg, .inl (cI, 160, .inl mg)), (h6_mt, .inl (cI, 240, .inl mt)), (h6_ml, .inl (cI, 240, .inl ml)), (h6_mr, .inl (cI, 600, .inl mr))]) (w2 := [(h6, .inr (6, [.int thr, .ref h6_ms, .ref h6_mv, .int svm, .ref h6_mb, .int mln, .ref h6_mc, .ref h6_mg, .ref h6_mt, .ref h6_ml, .int mat, .int wel, .ref h6_mr, .int rdm, .long hsh])), (h6_ms, .inl (cI, 253, .inl ms)), (h6_mv, .inl (cI, 1518, .inl mv)), (h6_mb, .inl (cI, 60, .inl mb)), (h6_mc, .inl (cI, 160, .inl mc)), (h6_mg, .inl (cI, 160, .inl mg)), (h6_mt, .inl (cI, 240, .inl mt)), (h6_ml, .inl (cI, 240, .inl ml)), (h6_mr, .inl (cI, 600, .inl mr))]) (va_runV (As := [.int v4_5]) (rest := []) ⟨hx, hb, hml, hown, hts⟩ (mX6_phaseOf l D cI cO cJ h6 h6_ms h6_mv h6_mb h6_mc h6_mg h6_mt h6_ml h6_mr H.size thr ms mv svm mb mln mc mg mt ml mat wel mr rdm hsh v4_5 _ hx3) (cwV 1 hts gX6_isKept_X6_phaseOf rfl rfl rfl (by decide +kernel) ⟨Nat.le_of_ble_eq_true rfl, Nat.le_of_ble_eq_true rfl⟩) (pw_preV hK hN (pw_sub hP [0, 1, 2, 3, 4, 5, 6, 7, 8] rfl) (pw_subD hD [0, 1, 2, 3, 4, 5, 6, 7, 8] (by decide) rfl) (ci := 6) (q0 := 0) rfl rfl) rfl rfl hl.1 rfl (lv_room (Nat.le_of_ble_eq_true rfl)) dX6_isKept_33 ⟨Nat.zero_le _, Nat.zero_le _⟩) hP hD hS hA [0, 1, 2, 3, 4, 5, 6, 7, 8] [] [0, 1, 2, 3, 4, 5, 6, 7, 8] rfl rfl (by decide) (by decide) (by decide) rfl (fun H locs hP hD hS => ?_)
            refine lv_iload_n hx hb dX6_isKept_36 rfl (lv_at hl 2 rfl) ?_
            refine lv_icmp_ne (tgt := 44) hx hb dX6_isKept_37 (by decide) (fun cq => ?_) (fun cq => ?_)
            · replace h := ifn cq h
              refine lv_iconst (v := 0) hx hb dX6_isKept_44 (by decide) ?_
              refine lv_istore_n (lv' := [(3, .int 0), (0, .ref h6), (1, .int a1), (2, .int a2), (4, .int v4_5)]) hx hb dX6_isKept_45 rfl hl (by decide) rfl (fun ls hl => ?_)
              refine lv_iinc (v := (v4_5 + 1)) (lv' := [(4, .int (v4_5 + 1)), (3, .int 0), (0, .ref h6), (1, .int a1), (2, .int a2)]) hx hb dX6_isKept_46 hl (k := 4) rfl rfl (by decide) rfl (fun ls hl => ?_)
              refine lv_goto (tgt := 5) hx hb dX6_isKept_49 (by decide) ?_
              exact ih _ _ _ _ _ _ h hP hD hS (lv_sub hl [2, 3, 4, 1, 0] rfl) K
            · replace h := ifp cq h
              refine lv_iconst (v := 1) hx hb dX6_isKept_40 (by decide) ?_
              refine lv_goto (tgt := 45) hx hb dX6_isKept_41 (by decide) ?_
              refine lv_istore_n (lv' := [(3, .int 1), (0, .ref h6), (1, .int a1), (2, .int a2), (4, .int v4_5)]) hx hb dX6_isKept_45 rfl hl (by decide) rfl (fun ls hl => ?_)
              refine lv_iinc (v := (v4_5 + 1)) (lv' := [(4, .int (v4_5 + 1)), (3, .int 1), (0, .ref h6), (1, .int a1), (2, .int a2)]) hx hb dX6_isKept_46 hl (k := 4) rfl rfl (by decide) rfl (fun ls hl => ?_)
              refine lv_goto (tgt := 5) hx hb dX6_isKept_49 (by decide) ?_
              exact ih _ _ _ _ _ _ h hP hD hS (lv_sub hl [2, 3, 4, 1, 0] rfl) K
  obtain ⟨x4, hx4, h⟩ := bnd h
  refine L5 FU _ _ _ _ _ _ hx4 hP hD hS (lv_sub hl [2, 3, 4, 1, 0] rfl) (fun H locs ls hP hD hS hl => ?_)
  refine lv_iload_n hx hb dX6_isKept_52 rfl (lv_at hl 0 rfl) ?_
  obtain ⟨g5, h⟩ := gdn h
  cases h
  exact pw_zret hx hb hr hlocks hAe (Decidable.not_not.mp g5) hQ hP hD hS dX6_isKept_53
def fX6_put (ms : Nat → Int32) (mv : Nat → Int32) (svm : Int32) (a1 : Int32) : Option (Int32 × Int32 × (Nat → Int32) × (Nat → Int32) × Int32) :=
  (fX6_in a1 0 3).bind fun x1 =>
  if x1 = 0 then
  (fX6_fails 1).bind fun (x10_1, x10_2) =>
  some (x10_1, x10_2, ms, mv, svm)
  else
  if oob 0 253 then none else
  if (ms (0 : Int32).toNatClampNeg) = 240 then
  (fX6_fails 2).bind fun (x9_1, x9_2) =>
  some (x9_1, x9_2, ms, mv, svm)
  else
  (fX6_saves ms mv svm).bind fun (x3_1, x3_2) =>
  if oob 0 253 then none else
  if oob (13 + (ms (0 : Int32).toNatClampNeg)) 253 then none else
  if oob 0 253 then none else
  if oob 0 253 then none else
  if oob 0 253 then none else
  some (((upd (upd ms ((13 + (ms (0 : Int32).toNatClampNeg))).toNatClampNeg a1) (0 : Int32).toNatClampNeg (((upd ms ((13 + (ms (0 : Int32).toNatClampNeg))).toNatClampNeg a1) (0 : Int32).toNatClampNeg) + 1)) (0 : Int32).toNatClampNeg), 0, (upd (upd ms ((13 + (ms (0 : Int32).toNatClampNeg))).toNatClampNeg a1) (0 : Int32).toNatClampNeg (((upd ms ((13 + (ms (0 : Int32).toNatClampNeg))).toNatClampNeg a1) (0 : Int32).toNatClampNeg) + 1)), x3_1, x3_2)
abbrev rmX6_put : Room := { frames := 1, cells := 0, slots := 0, locals := 22 }
set_option maxHeartbeats 4000000 in
set_option maxRecDepth 100000 in
theorem mX6_put (l : Launch) (D : va_G) (cI cO cJ : ClassId) (h6 h6_ms h6_mv h6_mb h6_mc h6_mg h6_mt h6_ml h6_mr : Nat) (sz : Nat) (thr : Int32) (ms : Nat → Int32) (mv : Nat → Int32) (svm : Int32) (mb : Nat → Int32) (mln : Int32) (mc : Nat → Int32) (mg : Nat → Int32) (mt : Nat → Int32) (ml : Nat → Int32) (mat : Int32) (wel : Int32) (mr : Nat → Int32) (rdm : Int32) (hsh : Int64) (a1 : Int32) (z : Int32 × Int32 × (Nat → Int32) × (Nat → Int32) × Int32) (h : fX6_put ms mv svm a1 = some z) : Met l yX6_put wsX6_put rmX6_put (pw_pre D (tyL cI cO cJ) [.ref h6, .int a1] [(h6, .inr (6, [.int thr, .ref h6_ms, .ref h6_mv, .int svm, .ref h6_mb, .int mln, .ref h6_mc, .ref h6_mg, .ref h6_mt, .ref h6_ml, .int mat, .int wel, .ref h6_mr, .int rdm, .long hsh])), (h6_ms, .inl (cI, 253, .inl ms)), (h6_mv, .inl (cI, 1518, .inl mv)), (h6_mb, .inl (cI, 60, .inl mb)), (h6_mc, .inl (cI, 160, .inl mc)), (h6_mg, .inl (cI, 160, .inl mg)), (h6_mt, .inl (cI, 240, .inl mt)), (h6_ml, .inl (cI, 240, .inl ml)), (h6_mr, .inl (cI, 600, .inl mr))] sz) (pw_i D [(h6, .inr (6, [.int thr, .ref h6_ms, .ref h6_mv, .int svm, .ref h6_mb, .int mln, .ref h6_mc, .ref h6_mg, .ref h6_mt, .ref h6_ml, .int mat, .int wel, .ref h6_mr, .int rdm, .long hsh])), (h6_ms, .inl (cI, 253, .inl ms)), (h6_mv, .inl (cI, 1518, .inl mv)), (h6_mb, .inl (cI, 60, .inl mb)), (h6_mc, .inl (cI, 160, .inl mc)), (h6_mg, .inl (cI, 160, .inl mg)), (h6_mt, .inl (cI, 240, .inl mt)), (h6_ml, .inl (cI, 240, .inl ml)), (h6_mr, .inl (cI, 600, .inl mr))] [(h6, .inr (6, [.int z.2.1, .ref h6_ms, .ref h6_mv, .int z.2.2.2.2, .ref h6_mb, .int mln, .ref h6_mc, .ref h6_mg, .ref h6_mt, .ref h6_ml, .int mat, .int wel, .ref h6_mr, .int rdm, .long hsh])), (h6_ms, .inl (cI, 253, .inl z.2.2.1)), (h6_mv, .inl (cI, 1518, .inl z.2.2.2.1)), (h6_mb, .inl (cI, 60, .inl mb)), (h6_mc, .inl (cI, 160, .inl mc)), (h6_mg, .inl (cI, 160, .inl mg)), (h6_mt, .inl (cI, 240, .inl mt)), (h6_ml, .inl (cI, 240, .inl ml)), (h6_mr, .inl (cI, 600, .inl mr))] z.1 sz) 0 0 (va_A [(h6, .inr (6, [.int thr, .ref h6_ms, .ref h6_mv, .int svm, .ref h6_mb, .int mln, .ref h6_mc, .ref h6_mg, .ref h6_mt, .ref h6_ml, .int mat, .int wel, .ref h6_mr, .int rdm, .long hsh])), (h6_ms, .inl (cI, 253, .inl ms)), (h6_mv, .inl (cI, 1518, .inl mv)), (h6_mb, .inl (cI, 60, .inl mb)), (h6_mc, .inl (cI, 160, .inl mc)), (h6_mg, .inl (cI, 160, .inl mg)), (h6_mt, .inl (cI, 240, .inl mt)), (h6_ml, .inl (cI, 240, .inl ml)), (h6_mr, .inl (cI, 600, .inl mr))] sz) := by
  refine pw_of (Qc := fun sz => pw_i D [(h6, .inr (6, [.int thr, .ref h6_ms, .ref h6_mv, .int svm, .ref h6_mb, .int mln, .ref h6_mc, .ref h6_mg, .ref h6_mt, .ref h6_ml, .int mat, .int wel, .ref h6_mr, .int rdm, .long hsh])), (h6_ms, .inl (cI, 253, .inl ms)), (h6_mv, .inl (cI, 1518, .inl mv)), (h6_mb, .inl (cI, 60, .inl mb)), (h6_mc, .inl (cI, 160, .inl mc)), (h6_mg, .inl (cI, 160, .inl mg)), (h6_mt, .inl (cI, 240, .inl mt)), (h6_ml, .inl (cI, 240, .inl ml)), (h6_mr, .inl (cI, 600, .inl mr))] [(h6, .inr (6, [.int z.2.1, .ref h6_ms, .ref h6_mv, .int z.2.2.2.2, .ref h6_mb, .int mln, .ref h6_mc, .ref h6_mg, .ref h6_mt, .ref h6_ml, .int mat, .int wel, .ref h6_mr, .int rdm, .long hsh])), (h6_ms, .inl (cI, 253, .inl z.2.2.1)), (h6_mv, .inl (cI, 1518, .inl z.2.2.2.1)), (h6_mb, .inl (cI, 60, .inl mb)), (h6_mc, .inl (cI, 160, .inl mc)), (h6_mg, .inl (cI, 160, .inl mg)), (h6_mt, .inl (cI, 240, .inl mt)), (h6_ml, .inl (cI, 240, .inl ml)), (h6_mr, .inl (cI, 600, .inl mr))] z.1 sz) (cc := cX6_put) (maxL := 2) (ret := (some .int)) (by decide) rfl (Nat.le_of_ble_eq_true rfl) ?_
  intro p e s m args below meth c A Q H ls hx hb hml hr hts hown hlocks hAe hQ hK hN hA hP hD hS hl
  have hown : s.vm.findClass RX6 = some m.cls := hown
  have hl : lv_has ls 2 [(0, .ref h6), (1, .int a1)] := hl
  have hP : va_P D vwCl ([(h6, .inr (6, [.int thr, .ref h6_ms, .ref h6_mv, .int svm, .ref h6_mb, .int mln, .ref h6_mc, .ref h6_mg, .ref h6_mt, .ref h6_ml, .int mat, .int wel, .ref h6_mr, .int rdm, .long hsh])), (h6_ms, .inl (cI, 253, .inl ms)), (h6_mv, .inl (cI, 1518, .inl mv)), (h6_mb, .inl (cI, 60, .inl mb)), (h6_mc, .inl (cI, 160, .inl mc)), (h6_mg, .inl (cI, 160, .inl mg)), (h6_mt, .inl (cI, 240, .inl mt)), (h6_ml, .inl (cI, 240, .inl ml)), (h6_mr, .inl (cI, 600, .inl mr))] ++ []) H := hP
  have hD : va_D A ([(h6, .inr (6, [.int thr, .ref h6_ms, .ref h6_mv, .int svm, .ref h6_mb, .int mln, .ref h6_mc, .ref h6_mg, .ref h6_mt, .ref h6_ml, .int mat, .int wel, .ref h6_mr, .int rdm, .long hsh])), (h6_ms, .inl (cI, 253, .inl ms)), (h6_mv, .inl (cI, 1518, .inl mv)), (h6_mb, .inl (cI, 60, .inl mb)), (h6_mc, .inl (cI, 160, .inl mc)), (h6_mg, .inl (cI, 160, .inl mg)), (h6_mt, .inl (cI, 240, .inl mt)), (h6_ml, .inl (cI, 240, .inl ml)), (h6_mr, .inl (cI, 600, .inl mr))] ++ []) := hD
  have iX6 : ∀ w ∈ u_ws RX6 TX6 15, w ∈ wsX6_put := fun _ h => List.mem_cons_of_mem _ (List.mem_append_right _ h)
  unfold fX6_put at h
  refine lv_aload_n hx hb dX6_put_0 rfl (lv_at hl 0 rfl) ?_
  refine lv_iconst (v := 0) hx hb dX6_put_1 (by decide) ?_
  refine va_put (D := D) (ci := 6) (v := .int 0) (ty := .int) (C := RX6) (T := TX6) (N := 15) hx hb hts iX6 tyX6 tyX6_ok nmX6 hown hK hP hD hS 0 rfl rfl 0 (by decide) (hts (.fieldLink RX6 34 "HiddenPeriodsModel" "thrown" "I") (by decide +kernel)) (fun _ h9 => h9) rfl (by decide +kernel) rfl rfl (Nat.le_of_ble_eq_true rfl) dX6_put_2 (fun H locs hP hD hS => ?_)
  have hP : va_P D vwCl ([(h6, .inr (6, [.int 0, .ref h6_ms, .ref h6_mv, .int svm, .ref h6_mb, .int mln, .ref h6_mc, .ref h6_mg, .ref h6_mt, .ref h6_ml, .int mat, .int wel, .ref h6_mr, .int rdm, .long hsh])), (h6_ms, .inl (cI, 253, .inl ms)), (h6_mv, .inl (cI, 1518, .inl mv)), (h6_mb, .inl (cI, 60, .inl mb)), (h6_mc, .inl (cI, 160, .inl mc)), (h6_mg, .inl (cI, 160, .inl mg)), (h6_mt, .inl (cI, 240, .inl mt)), (h6_ml, .inl (cI, 240, .inl ml)), (h6_mr, .inl (cI, 600, .inl mr))] ++ []) H := hP
  have hD : va_D A ([(h6, .inr (6, [.int 0, .ref h6_ms, .ref h6_mv, .int svm, .ref h6_mb, .int mln, .ref h6_mc, .ref h6_mg, .ref h6_mt, .ref h6_ml, .int mat, .int wel, .ref h6_mr, .int rdm, .long hsh])), (h6_ms, .inl (cI, 253, .inl ms)), (h6_mv, .inl (cI, 1518, .inl mv)), (h6_mb, .inl (cI, 60, .inl mb)), (h6_mc, .inl (cI, 160, .inl mc)), (h6_mg, .inl (cI, 160, .inl mg)), (h6_mt, .inl (cI, 240, .inl mt)), (h6_ml, .inl (cI, 240, .inl ml)), (h6_mr, .inl (cI, 600, .inl mr))] ++ []) := hD
  refine lv_iload_n hx hb dX6_put_5 rfl (lv_at hl 1 rfl) ?_
  refine lv_iconst (v := 0) hx hb dX6_put_6 (by decide) ?_
  refine lv_iconst (v := 3) hx hb dX6_put_7 (by decide) ?_
  obtain ⟨x1, hx1, h⟩ := bnd h
  refine pw_go0 (va_runS (As := [.int a1, .int 0, .int 3]) (rest := []) ⟨hx, hb, hml, hown, hts⟩ (mX6_in l D cI cO cJ H.size a1 0 3 _ hx1) (va_cwS 3 hts gX6_put_X6_in rfl rfl rfl (by decide +kernel) ⟨Nat.le_of_ble_eq_true rfl, Nat.le_of_ble_eq_true rfl⟩) (pw_preS hK hN pw_nilP (pw_nilD (A := A))) rfl rfl hl.1 rfl (lv_room (Nat.le_of_ble_eq_true rfl)) dX6_put_8 ⟨Nat.zero_le _, Nat.zero_le _⟩) hP hS hA (fun H locs hP hS => ?_)
  refine lv_if_ne (tgt := 20) hx hb dX6_put_11 (by decide) (fun cq => ?_) (fun cq => ?_)
  · replace h := ifn cq h
    refine lv_aload_n hx hb dX6_put_20 rfl (lv_at hl 0 rfl) ?_
    refine va_get (D := D) (ci := 6) (v := .ref h6_ms) (C := RX6) (T := TX6) (N := 15) hx hb hts iX6 hown hK hP 0 rfl rfl 1 (by decide) (hts (.fieldLink RX6 7 "HiddenPeriodsModel" "s" "[I") (by decide +kernel)) (fun _ h9 => h9) rfl dX6_put_21 ?_
    refine lv_iconst (v := 0) hx hb dX6_put_24 (by decide) ?_
    obtain ⟨g2, h⟩ := gdn h
    refine va_iald hx hb hK hP 1 0 rfl rfl g2 dX6_put_25 ?_
    refine lv_sipush (v := 240) hx hb dX6_put_26 (by decide) ?_
    refine lv_icmp_ne (tgt := 38) hx hb dX6_put_29 (by decide) (fun cq => ?_) (fun cq => ?_)
    · replace h := ifn cq h
      refine lv_aload_n hx hb dX6_put_38 rfl (lv_at hl 0 rfl) ?_
      obtain ⟨⟨x3_1, x3_2⟩, hx3, h⟩ := bnd h
      refine pw_gov (wc := [(h6, .inr (6, [.int 0, .ref h6_ms, .ref h6_mv, .int svm, .ref h6_mb, .int mln, .ref h6_mc, .ref h6_mg, .ref h6_mt, .ref h6_ml, .int mat, .int wel, .ref h6_mr, .int rdm, .long hsh])), (h6_ms, .inl (cI, 253, .inl ms)), (h6_mv, .inl (cI, 1518, .inl mv)), (h6_mb, .inl (cI, 60, .inl mb)), (h6_mc, .inl (cI, 160, .inl mc)), (h6_mg, .inl (cI, 160, .inl mg)), (h6_mt, .inl (cI, 240, .inl mt)), (h6_ml, .inl (cI, 240, .inl ml)), (h6_mr, .inl (cI, 600, .inl mr))]) (w1 := [(h6, .inr (6, [.int 0, .ref h6_ms, .ref h6_mv, .int x3_2, .ref h6_mb, .int mln, .ref h6_mc, .ref h6_mg, .ref h6_mt, .ref h6_ml, .int mat, .int wel, .ref h6_mr, .int rdm, .long hsh])), (h6_ms, .inl (cI, 253, .inl ms)), (h6_mv, .inl (cI, 1518, .inl x3_1)), (h6_mb, .inl (cI, 60, .inl mb)), (h6_mc, .inl (cI, 160, .inl mc)), (h6_mg, .inl (cI, 160, .inl mg)), (h6_mt, .inl (cI, 240, .inl mt)), (h6_ml, .inl (cI, 240, .inl ml)), (h6_mr, .inl (cI, 600, .inl mr))]) (w2 := [(h6, .inr (6, [.int 0, .ref h6_ms, .ref h6_mv, .int x3_2, .ref h6_mb, .int mln, .ref h6_mc, .ref h6_mg, .ref h6_mt, .ref h6_ml, .int mat, .int wel, .ref h6_mr, .int rdm, .long hsh])), (h6_ms, .inl (cI, 253, .inl ms)), (h6_mv, .inl (cI, 1518, .inl x3_1)), (h6_mb, .inl (cI, 60, .inl mb)), (h6_mc, .inl (cI, 160, .inl mc)), (h6_mg, .inl (cI, 160, .inl mg)), (h6_mt, .inl (cI, 240, .inl mt)), (h6_ml, .inl (cI, 240, .inl ml)), (h6_mr, .inl (cI, 600, .inl mr))]) (va_runV (As := []) (rest := []) ⟨hx, hb, hml, hown, hts⟩ (mX6_saves l D cI cO cJ h6 h6_ms h6_mv h6_mb h6_mc h6_mg h6_mt h6_ml h6_mr H.size 0 ms mv svm mb mln mc mg mt ml mat wel mr rdm hsh _ hx3) (cwV 0 hts gX6_put_X6_saves rfl rfl rfl (by decide +kernel) ⟨Nat.le_of_ble_eq_true rfl, Nat.le_of_ble_eq_true rfl⟩) (pw_preV hK hN (pw_sub hP [0, 1, 2, 3, 4, 5, 6, 7, 8] rfl) (pw_subD hD [0, 1, 2, 3, 4, 5, 6, 7, 8] (by decide) rfl) (ci := 6) (q0 := 0) rfl rfl) rfl rfl hl.1 rfl (lv_room (Nat.le_of_ble_eq_true rfl)) dX6_put_39 ⟨Nat.zero_le _, Nat.zero_le _⟩) hP hD hS hA [0, 1, 2, 3, 4, 5, 6, 7, 8] [] [0, 1, 2, 3, 4, 5, 6, 7, 8] rfl rfl (by decide) (by decide) (by decide) rfl (fun H locs hP hD hS => ?_)
      refine lv_aload_n hx hb dX6_put_42 rfl (lv_at hl 0 rfl) ?_
      refine va_get (D := D) (ci := 6) (v := .ref h6_ms) (C := RX6) (T := TX6) (N := 15) hx hb hts iX6 hown hK hP 0 rfl rfl 1 (by decide) (hts (.fieldLink RX6 7 "HiddenPeriodsModel" "s" "[I") (by decide +kernel)) (fun _ h9 => h9) rfl dX6_put_43 ?_
      refine lv_bipush (v := 13) hx hb dX6_put_46 (by decide) ?_
      refine lv_aload_n hx hb dX6_put_48 rfl (lv_at hl 0 rfl) ?_
      refine va_get (D := D) (ci := 6) (v := .ref h6_ms) (C := RX6) (T := TX6) (N := 15) hx hb hts iX6 hown hK hP 0 rfl rfl 1 (by decide) (hts (.fieldLink RX6 7 "HiddenPeriodsModel" "s" "[I") (by decide +kernel)) (fun _ h9 => h9) rfl dX6_put_49 ?_
      refine lv_iconst (v := 0) hx hb dX6_put_52 (by decide) ?_
      obtain ⟨g4, h⟩ := gdn h
      refine va_iald hx hb hK hP 1 0 rfl rfl g4 dX6_put_53 ?_
      refine lv_iadd hx hb dX6_put_54 ?_
      refine lv_iload_n hx hb dX6_put_55 rfl (lv_at hl 1 rfl) ?_
      obtain ⟨g5, h⟩ := gdn h
      refine va_iast hx hb hK hP hD hS 1 0 rfl rfl g5 dX6_put_56 (fun H locs hP hD hS => ?_)
      have hP : va_P D vwCl ([(h6, .inr (6, [.int 0, .ref h6_ms, .ref h6_mv, .int x3_2, .ref h6_mb, .int mln, .ref h6_mc, .ref h6_mg, .ref h6_mt, .ref h6_ml, .int mat, .int wel, .ref h6_mr, .int rdm, .long hsh])), (h6_ms, .inl (cI, 253, .inl (upd ms ((13 + (ms (0 : Int32).toNatClampNeg))).toNatClampNeg a1))), (h6_mv, .inl (cI, 1518, .inl x3_1)), (h6_mb, .inl (cI, 60, .inl mb)), (h6_mc, .inl (cI, 160, .inl mc)), (h6_mg, .inl (cI, 160, .inl mg)), (h6_mt, .inl (cI, 240, .inl mt)), (h6_ml, .inl (cI, 240, .inl ml)), (h6_mr, .inl (cI, 600, .inl mr))] ++ []) H := hP
      have hD : va_D A ([(h6, .inr (6, [.int 0, .ref h6_ms, .ref h6_mv, .int x3_2, .ref h6_mb, .int mln, .ref h6_mc, .ref h6_mg, .ref h6_mt, .ref h6_ml, .int mat, .int wel, .ref h6_mr, .int rdm, .long hsh])), (h6_ms, .inl (cI, 253, .inl (upd ms ((13 + (ms (0 : Int32).toNatClampNeg))).toNatClampNeg a1))), (h6_mv, .inl (cI, 1518, .inl x3_1)), (h6_mb, .inl (cI, 60, .inl mb)), (h6_mc, .inl (cI, 160, .inl mc)), (h6_mg, .inl (cI, 160, .inl mg)), (h6_mt, .inl (cI, 240, .inl mt)), (h6_ml, .inl (cI, 240, .inl ml)), (h6_mr, .inl (cI, 600, .inl mr))] ++ []) := hD
      refine lv_aload_n hx hb dX6_put_57 rfl (lv_at hl 0 rfl) ?_
      refine va_get (D := D) (ci := 6) (v := .ref h6_ms) (C := RX6) (T := TX6) (N := 15) hx hb hts iX6 hown hK hP 0 rfl rfl 1 (by decide) (hts (.fieldLink RX6 7 "HiddenPeriodsModel" "s" "[I") (by decide +kernel)) (fun _ h9 => h9) rfl dX6_put_58 ?_
      refine lv_iconst (v := 0) hx hb dX6_put_61 (by decide) ?_
      refine lv_dup2_11 hx hb dX6_put_62 rfl rfl ?_
      obtain ⟨g6, h⟩ := gdn h
      refine va_iald hx hb hK hP 1 0 rfl rfl g6 dX6_put_63 ?_
      refine lv_iconst (v := 1) hx hb dX6_put_64 (by decide) ?_
      refine lv_iadd hx hb dX6_put_65 ?_
      obtain ⟨g7, h⟩ := gdn h
      refine va_iast hx hb hK hP hD hS 1 0 rfl rfl g7 dX6_put_66 (fun H locs hP hD hS => ?_)
      have hP : va_P D vwCl ([(h6, .inr (6, [.int 0, .ref h6_ms, .ref h6_mv, .int x3_2, .ref h6_mb, .int mln, .ref h6_mc, .ref h6_mg, .ref h6_mt, .ref h6_ml, .int mat, .int wel, .ref h6_mr, .int rdm, .long hsh])), (h6_ms, .inl (cI, 253, .inl (upd (upd ms ((13 + (ms (0 : Int32).toNatClampNeg))).toNatClampNeg a1) (0 : Int32).toNatClampNeg (((upd ms ((13 + (ms (0 : Int32).toNatClampNeg))).toNatClampNeg a1) (0 : Int32).toNatClampNeg) + 1)))), (h6_mv, .inl (cI, 1518, .inl x3_1)), (h6_mb, .inl (cI, 60, .inl mb)), (h6_mc, .inl (cI, 160, .inl mc)), (h6_mg, .inl (cI, 160, .inl mg)), (h6_mt, .inl (cI, 240, .inl mt)), (h6_ml, .inl (cI, 240, .inl ml)), (h6_mr, .inl (cI, 600, .inl mr))] ++ []) H := hP
      have hD : va_D A ([(h6, .inr (6, [.int 0, .ref h6_ms, .ref h6_mv, .int x3_2, .ref h6_mb, .int mln, .ref h6_mc, .ref h6_mg, .ref h6_mt, .ref h6_ml, .int mat, .int wel, .ref h6_mr, .int rdm, .long hsh])), (h6_ms, .inl (cI, 253, .inl (upd (upd ms ((13 + (ms (0 : Int32).toNatClampNeg))).toNatClampNeg a1) (0 : Int32).toNatClampNeg (((upd ms ((13 + (ms (0 : Int32).toNatClampNeg))).toNatClampNeg a1) (0 : Int32).toNatClampNeg) + 1)))), (h6_mv, .inl (cI, 1518, .inl x3_1)), (h6_mb, .inl (cI, 60, .inl mb)), (h6_mc, .inl (cI, 160, .inl mc)), (h6_mg, .inl (cI, 160, .inl mg)), (h6_mt, .inl (cI, 240, .inl mt)), (h6_ml, .inl (cI, 240, .inl ml)), (h6_mr, .inl (cI, 600, .inl mr))] ++ []) := hD
      refine lv_aload_n hx hb dX6_put_67 rfl (lv_at hl 0 rfl) ?_
      refine va_get (D := D) (ci := 6) (v := .ref h6_ms) (C := RX6) (T := TX6) (N := 15) hx hb hts iX6 hown hK hP 0 rfl rfl 1 (by decide) (hts (.fieldLink RX6 7 "HiddenPeriodsModel" "s" "[I") (by decide +kernel)) (fun _ h9 => h9) rfl dX6_put_68 ?_
      refine lv_iconst (v := 0) hx hb dX6_put_71 (by decide) ?_
      obtain ⟨g8, h⟩ := gdn h
      refine va_iald hx hb hK hP 1 0 rfl rfl g8 dX6_put_72 ?_
      cases h
      exact pw_iret hx hb hr hlocks hAe hQ hP hD hS dX6_put_73
    · replace h := ifp cq h
      refine lv_aload_n hx hb dX6_put_32 rfl (lv_at hl 0 rfl) ?_
      refine lv_iconst (v := 2) hx hb dX6_put_33 (by decide) ?_
      obtain ⟨⟨x9_1, x9_2⟩, hx9, h⟩ := bnd h
      refine pw_goi (wc := [(h6, .inr (6, [.int 0, .ref h6_ms, .ref h6_mv, .int svm, .ref h6_mb, .int mln, .ref h6_mc, .ref h6_mg, .ref h6_mt, .ref h6_ml, .int mat, .int wel, .ref h6_mr, .int rdm, .long hsh])), (h6_ms, .inl (cI, 253, .inl ms)), (h6_mv, .inl (cI, 1518, .inl mv)), (h6_mb, .inl (cI, 60, .inl mb)), (h6_mc, .inl (cI, 160, .inl mc)), (h6_mg, .inl (cI, 160, .inl mg)), (h6_mt, .inl (cI, 240, .inl mt)), (h6_ml, .inl (cI, 240, .inl ml)), (h6_mr, .inl (cI, 600, .inl mr))]) (w1 := [(h6, .inr (6, [.int x9_2, .ref h6_ms, .ref h6_mv, .int svm, .ref h6_mb, .int mln, .ref h6_mc, .ref h6_mg, .ref h6_mt, .ref h6_ml, .int mat, .int wel, .ref h6_mr, .int rdm, .long hsh])), (h6_ms, .inl (cI, 253, .inl ms)), (h6_mv, .inl (cI, 1518, .inl mv)), (h6_mb, .inl (cI, 60, .inl mb)), (h6_mc, .inl (cI, 160, .inl mc)), (h6_mg, .inl (cI, 160, .inl mg)), (h6_mt, .inl (cI, 240, .inl mt)), (h6_ml, .inl (cI, 240, .inl ml)), (h6_mr, .inl (cI, 600, .inl mr))]) (w2 := [(h6, .inr (6, [.int x9_2, .ref h6_ms, .ref h6_mv, .int svm, .ref h6_mb, .int mln, .ref h6_mc, .ref h6_mg, .ref h6_mt, .ref h6_ml, .int mat, .int wel, .ref h6_mr, .int rdm, .long hsh])), (h6_ms, .inl (cI, 253, .inl ms)), (h6_mv, .inl (cI, 1518, .inl mv)), (h6_mb, .inl (cI, 60, .inl mb)), (h6_mc, .inl (cI, 160, .inl mc)), (h6_mg, .inl (cI, 160, .inl mg)), (h6_mt, .inl (cI, 240, .inl mt)), (h6_ml, .inl (cI, 240, .inl ml)), (h6_mr, .inl (cI, 600, .inl mr))]) (va_runV (As := [.int 2]) (rest := []) ⟨hx, hb, hml, hown, hts⟩ (mX6_fails l D cI cO cJ h6 h6_ms h6_mv h6_mb h6_mc h6_mg h6_mt h6_ml h6_mr H.size 0 ms mv svm mb mln mc mg mt ml mat wel mr rdm hsh 2 _ hx9) (cwV 1 hts gX6_put_X6_fails rfl rfl rfl (by decide +kernel) ⟨Nat.le_of_ble_eq_true rfl, Nat.le_of_ble_eq_true rfl⟩) (pw_preV hK hN (pw_sub hP [0, 1, 2, 3, 4, 5, 6, 7, 8] rfl) (pw_subD hD [0, 1, 2, 3, 4, 5, 6, 7, 8] (by decide) rfl) (ci := 6) (q0 := 0) rfl rfl) rfl rfl hl.1 rfl (lv_room (Nat.le_of_ble_eq_true rfl)) dX6_put_34 ⟨Nat.zero_le _, Nat.zero_le _⟩) hP hD hS hA [0, 1, 2, 3, 4, 5, 6, 7, 8] [] [0, 1, 2, 3, 4, 5, 6, 7, 8] rfl rfl (by decide) (by decide) (by decide) rfl (fun H locs hP hD hS => ?_)
      cases h
      exact pw_iret hx hb hr hlocks hAe hQ hP hD hS dX6_put_37
  · replace h := ifp cq h
    refine lv_aload_n hx hb dX6_put_14 rfl (lv_at hl 0 rfl) ?_
    refine lv_iconst (v := 1) hx hb dX6_put_15 (by decide) ?_
    obtain ⟨⟨x10_1, x10_2⟩, hx10, h⟩ := bnd h
    refine pw_goi (wc := [(h6, .inr (6, [.int 0, .ref h6_ms, .ref h6_mv, .int svm, .ref h6_mb, .int mln, .ref h6_mc, .ref h6_mg, .ref h6_mt, .ref h6_ml, .int mat, .int wel, .ref h6_mr, .int rdm, .long hsh])), (h6_ms, .inl (cI, 253, .inl ms)), (h6_mv, .inl (cI, 1518, .inl mv)), (h6_mb, .inl (cI, 60, .inl mb)), (h6_mc, .inl (cI, 160, .inl mc)), (h6_mg, .inl (cI, 160, .inl mg)), (h6_mt, .inl (cI, 240, .inl mt)), (h6_ml, .inl (cI, 240, .inl ml)), (h6_mr, .inl (cI, 600, .inl mr))]) (w1 := [(h6, .inr (6, [.int x10_2, .ref h6_ms, .ref h6_mv, .int svm, .ref h6_mb, .int mln, .ref h6_mc, .ref h6_mg, .ref h6_mt, .ref h6_ml, .int mat, .int wel, .ref h6_mr, .int rdm, .long hsh])), (h6_ms, .inl (cI, 253, .inl ms)), (h6_mv, .inl (cI, 1518, .inl mv)), (h6_mb, .inl (cI, 60, .inl mb)), (h6_mc, .inl (cI, 160, .inl mc)), (h6_mg, .inl (cI, 160, .inl mg)), (h6_mt, .inl (cI, 240, .inl mt)), (h6_ml, .inl (cI, 240, .inl ml)), (h6_mr, .inl (cI, 600, .inl mr))]) (w2 := [(h6, .inr (6, [.int x10_2, .ref h6_ms, .ref h6_mv, .int svm, .ref h6_mb, .int mln, .ref h6_mc, .ref h6_mg, .ref h6_mt, .ref h6_ml, .int mat, .int wel, .ref h6_mr, .int rdm, .long hsh])), (h6_ms, .inl (cI, 253, .inl ms)), (h6_mv, .inl (cI, 1518, .inl mv)), (h6_mb, .inl (cI, 60, .inl mb)), (h6_mc, .inl (cI, 160, .inl mc)), (h6_mg, .inl (cI, 160, .inl mg)), (h6_mt, .inl (cI, 240, .inl mt)), (h6_ml, .inl (cI, 240, .inl ml)), (h6_mr, .inl (cI, 600, .inl mr))]) (va_runV (As := [.int 1]) (rest := []) ⟨hx, hb, hml, hown, hts⟩ (mX6_fails l D cI cO cJ h6 h6_ms h6_mv h6_mb h6_mc h6_mg h6_mt h6_ml h6_mr H.size 0 ms mv svm mb mln mc mg mt ml mat wel mr rdm hsh 1 _ hx10) (cwV 1 hts gX6_put_X6_fails rfl rfl rfl (by decide +kernel) ⟨Nat.le_of_ble_eq_true rfl, Nat.le_of_ble_eq_true rfl⟩) (pw_preV hK hN (pw_sub hP [0, 1, 2, 3, 4, 5, 6, 7, 8] rfl) (pw_subD hD [0, 1, 2, 3, 4, 5, 6, 7, 8] (by decide) rfl) (ci := 6) (q0 := 0) rfl rfl) rfl rfl hl.1 rfl (lv_room (Nat.le_of_ble_eq_true rfl)) dX6_put_16 ⟨Nat.zero_le _, Nat.zero_le _⟩) hP hD hS hA [0, 1, 2, 3, 4, 5, 6, 7, 8] [] [0, 1, 2, 3, 4, 5, 6, 7, 8] rfl rfl (by decide) (by decide) (by decide) rfl (fun H locs hP hD hS => ?_)
    cases h
    exact pw_iret hx hb hr hlocks hAe hQ hP hD hS dX6_put_19
def fX6_change (ms : Nat → Int32) (mv : Nat → Int32) (svm : Int32) (a1 : Int32) (a2 : Int32) : Option (Int32 × Int32 × (Nat → Int32) × (Nat → Int32) × Int32) :=
  if oob 0 253 then none else
  (fX6_in a1 0 ((ms (0 : Int32).toNatClampNeg) - 1)).bind fun x2 =>
  if x2 = 0 then
  (fX6_fails 1).bind fun (x8_1, x8_2) =>
  some (x8_1, x8_2, ms, mv, svm)
  else
  (fX6_in a2 0 3).bind fun x3 =>
  if x3 = 0 then
  (fX6_fails 2).bind fun (x7_1, x7_2) =>
  some (x7_1, x7_2, ms, mv, svm)
  else
  (fX6_saves ms mv svm).bind fun (x4_1, x4_2) =>
  if oob (13 + a1) 253 then none else
  if oob (13 + a1) 253 then none else
  some ((ms ((13 + a1)).toNatClampNeg), 0, (upd ms ((13 + a1)).toNatClampNeg a2), x4_1, x4_2)
abbrev rmX6_change : Room := { frames := 1, cells := 0, slots := 0, locals := 22 }
set_option maxHeartbeats 4000000 in
set_option maxRecDepth 100000 in
theorem mX6_change (l : Launch) (D : va_G) (cI cO cJ : ClassId) (h6 h6_ms h6_mv h6_mb h6_mc h6_mg h6_mt h6_ml h6_mr : Nat) (sz : Nat) (thr : Int32) (ms : Nat → Int32) (mv : Nat → Int32) (svm : Int32) (mb : Nat → Int32) (mln : Int32) (mc : Nat → Int32) (mg : Nat → Int32) (mt : Nat → Int32) (ml : Nat → Int32) (mat : Int32) (wel : Int32) (mr : Nat → Int32) (rdm : Int32) (hsh : Int64) (a1 : Int32) (a2 : Int32) (z : Int32 × Int32 × (Nat → Int32) × (Nat → Int32) × Int32) (h : fX6_change ms mv svm a1 a2 = some z) : Met l yX6_change wsX6_change rmX6_change (pw_pre D (tyL cI cO cJ) [.ref h6, .int a1, .int a2] [(h6, .inr (6, [.int thr, .ref h6_ms, .ref h6_mv, .int svm, .ref h6_mb, .int mln, .ref h6_mc, .ref h6_mg, .ref h6_mt, .ref h6_ml, .int mat, .int wel, .ref h6_mr, .int rdm, .long hsh])), (h6_ms, .inl (cI, 253, .inl ms)), (h6_mv, .inl (cI, 1518, .inl mv)), (h6_mb, .inl (cI, 60, .inl mb)), (h6_mc, .inl (cI, 160, .inl mc)), (h6_mg, .inl (cI, 160, .inl mg)), (h6_mt, .inl (cI, 240, .inl mt)), (h6_ml, .inl (cI, 240, .inl ml)), (h6_mr, .inl (cI, 600, .inl mr))] sz) (pw_i D [(h6, .inr (6, [.int thr, .ref h6_ms, .ref h6_mv, .int svm, .ref h6_mb, .int mln, .ref h6_mc, .ref h6_mg, .ref h6_mt, .ref h6_ml, .int mat, .int wel, .ref h6_mr, .int rdm, .long hsh])), (h6_ms, .inl (cI, 253, .inl ms)), (h6_mv, .inl (cI, 1518, .inl mv)), (h6_mb, .inl (cI, 60, .inl mb)), (h6_mc, .inl (cI, 160, .inl mc)), (h6_mg, .inl (cI, 160, .inl mg)), (h6_mt, .inl (cI, 240, .inl mt)), (h6_ml, .inl (cI, 240, .inl ml)), (h6_mr, .inl (cI, 600, .inl mr))] [(h6, .inr (6, [.int z.2.1, .ref h6_ms, .ref h6_mv, .int z.2.2.2.2, .ref h6_mb, .int mln, .ref h6_mc, .ref h6_mg, .ref h6_mt, .ref h6_ml, .int mat, .int wel, .ref h6_mr, .int rdm, .long hsh])), (h6_ms, .inl (cI, 253, .inl z.2.2.1)), (h6_mv, .inl (cI, 1518, .inl z.2.2.2.1)), (h6_mb, .inl (cI, 60, .inl mb)), (h6_mc, .inl (cI, 160, .inl mc)), (h6_mg, .inl (cI, 160, .inl mg)), (h6_mt, .inl (cI, 240, .inl mt)), (h6_ml, .inl (cI, 240, .inl ml)), (h6_mr, .inl (cI, 600, .inl mr))] z.1 sz) 0 0 (va_A [(h6, .inr (6, [.int thr, .ref h6_ms, .ref h6_mv, .int svm, .ref h6_mb, .int mln, .ref h6_mc, .ref h6_mg, .ref h6_mt, .ref h6_ml, .int mat, .int wel, .ref h6_mr, .int rdm, .long hsh])), (h6_ms, .inl (cI, 253, .inl ms)), (h6_mv, .inl (cI, 1518, .inl mv)), (h6_mb, .inl (cI, 60, .inl mb)), (h6_mc, .inl (cI, 160, .inl mc)), (h6_mg, .inl (cI, 160, .inl mg)), (h6_mt, .inl (cI, 240, .inl mt)), (h6_ml, .inl (cI, 240, .inl ml)), (h6_mr, .inl (cI, 600, .inl mr))] sz) := by
  refine pw_of (Qc := fun sz => pw_i D [(h6, .inr (6, [.int thr, .ref h6_ms, .ref h6_mv, .int svm, .ref h6_mb, .int mln, .ref h6_mc, .ref h6_mg, .ref h6_mt, .ref h6_ml, .int mat, .int wel, .ref h6_mr, .int rdm, .long hsh])), (h6_ms, .inl (cI, 253, .inl ms)), (h6_mv, .inl (cI, 1518, .inl mv)), (h6_mb, .inl (cI, 60, .inl mb)), (h6_mc, .inl (cI, 160, .inl mc)), (h6_mg, .inl (cI, 160, .inl mg)), (h6_mt, .inl (cI, 240, .inl mt)), (h6_ml, .inl (cI, 240, .inl ml)), (h6_mr, .inl (cI, 600, .inl mr))] [(h6, .inr (6, [.int z.2.1, .ref h6_ms, .ref h6_mv, .int z.2.2.2.2, .ref h6_mb, .int mln, .ref h6_mc, .ref h6_mg, .ref h6_mt, .ref h6_ml, .int mat, .int wel, .ref h6_mr, .int rdm, .long hsh])), (h6_ms, .inl (cI, 253, .inl z.2.2.1)), (h6_mv, .inl (cI, 1518, .inl z.2.2.2.1)), (h6_mb, .inl (cI, 60, .inl mb)), (h6_mc, .inl (cI, 160, .inl mc)), (h6_mg, .inl (cI, 160, .inl mg)), (h6_mt, .inl (cI, 240, .inl mt)), (h6_ml, .inl (cI, 240, .inl ml)), (h6_mr, .inl (cI, 600, .inl mr))] z.1 sz) (cc := cX6_change) (maxL := 4) (ret := (some .int)) (by decide) rfl (Nat.le_of_ble_eq_true rfl) ?_
  intro p e s m args below meth c A Q H ls hx hb hml hr hts hown hlocks hAe hQ hK hN hA hP hD hS hl
  have hown : s.vm.findClass RX6 = some m.cls := hown
  have hl : lv_has ls 4 [(0, .ref h6), (1, .int a1), (2, .int a2)] := hl
  have hP : va_P D vwCl ([(h6, .inr (6, [.int thr, .ref h6_ms, .ref h6_mv, .int svm, .ref h6_mb, .int mln, .ref h6_mc, .ref h6_mg, .ref h6_mt, .ref h6_ml, .int mat, .int wel, .ref h6_mr, .int rdm, .long hsh])), (h6_ms, .inl (cI, 253, .inl ms)), (h6_mv, .inl (cI, 1518, .inl mv)), (h6_mb, .inl (cI, 60, .inl mb)), (h6_mc, .inl (cI, 160, .inl mc)), (h6_mg, .inl (cI, 160, .inl mg)), (h6_mt, .inl (cI, 240, .inl mt)), (h6_ml, .inl (cI, 240, .inl ml)), (h6_mr, .inl (cI, 600, .inl mr))] ++ []) H := hP
  have hD : va_D A ([(h6, .inr (6, [.int thr, .ref h6_ms, .ref h6_mv, .int svm, .ref h6_mb, .int mln, .ref h6_mc, .ref h6_mg, .ref h6_mt, .ref h6_ml, .int mat, .int wel, .ref h6_mr, .int rdm, .long hsh])), (h6_ms, .inl (cI, 253, .inl ms)), (h6_mv, .inl (cI, 1518, .inl mv)), (h6_mb, .inl (cI, 60, .inl mb)), (h6_mc, .inl (cI, 160, .inl mc)), (h6_mg, .inl (cI, 160, .inl mg)), (h6_mt, .inl (cI, 240, .inl mt)), (h6_ml, .inl (cI, 240, .inl ml)), (h6_mr, .inl (cI, 600, .inl mr))] ++ []) := hD
  have iX6 : ∀ w ∈ u_ws RX6 TX6 15, w ∈ wsX6_change := fun _ h => List.mem_cons_of_mem _ (List.mem_append_right _ h)
  unfold fX6_change at h
  refine lv_aload_n hx hb dX6_change_0 rfl (lv_at hl 0 rfl) ?_
  refine lv_iconst (v := 0) hx hb dX6_change_1 (by decide) ?_
  refine va_put (D := D) (ci := 6) (v := .int 0) (ty := .int) (C := RX6) (T := TX6) (N := 15) hx hb hts iX6 tyX6 tyX6_ok nmX6 hown hK hP hD hS 0 rfl rfl 0 (by decide) (hts (.fieldLink RX6 34 "HiddenPeriodsModel" "thrown" "I") (by decide +kernel)) (fun _ h9 => h9) rfl (by decide +kernel) rfl rfl (Nat.le_of_ble_eq_true rfl) dX6_change_2 (fun H locs hP hD hS => ?_)
  have hP : va_P D vwCl ([(h6, .inr (6, [.int 0, .ref h6_ms, .ref h6_mv, .int svm, .ref h6_mb, .int mln, .ref h6_mc, .ref h6_mg, .ref h6_mt, .ref h6_ml, .int mat, .int wel, .ref h6_mr, .int rdm, .long hsh])), (h6_ms, .inl (cI, 253, .inl ms)), (h6_mv, .inl (cI, 1518, .inl mv)), (h6_mb, .inl (cI, 60, .inl mb)), (h6_mc, .inl (cI, 160, .inl mc)), (h6_mg, .inl (cI, 160, .inl mg)), (h6_mt, .inl (cI, 240, .inl mt)), (h6_ml, .inl (cI, 240, .inl ml)), (h6_mr, .inl (cI, 600, .inl mr))] ++ []) H := hP
  have hD : va_D A ([(h6, .inr (6, [.int 0, .ref h6_ms, .ref h6_mv, .int svm, .ref h6_mb, .int mln, .ref h6_mc, .ref h6_mg, .ref h6_mt, .ref h6_ml, .int mat, .int wel, .ref h6_mr, .int rdm, .long hsh])), (h6_ms, .inl (cI, 253, .inl ms)), (h6_mv, .inl (cI, 1518, .inl mv)), (h6_mb, .inl (cI, 60, .inl mb)), (h6_mc, .inl (cI, 160, .inl mc)), (h6_mg, .inl (cI, 160, .inl mg)), (h6_mt, .inl (cI, 240, .inl mt)), (h6_ml, .inl (cI, 240, .inl ml)), (h6_mr, .inl (cI, 600, .inl mr))] ++ []) := hD
  refine lv_iload_n hx hb dX6_change_5 rfl (lv_at hl 1 rfl) ?_
  refine lv_iconst (v := 0) hx hb dX6_change_6 (by decide) ?_
  refine lv_aload_n hx hb dX6_change_7 rfl (lv_at hl 0 rfl) ?_
  refine va_get (D := D) (ci := 6) (v := .ref h6_ms) (C := RX6) (T := TX6) (N := 15) hx hb hts iX6 hown hK hP 0 rfl rfl 1 (by decide) (hts (.fieldLink RX6 7 "HiddenPeriodsModel" "s" "[I") (by decide +kernel)) (fun _ h9 => h9) rfl dX6_change_8 ?_
  refine lv_iconst (v := 0) hx hb dX6_change_11 (by decide) ?_
  obtain ⟨g1, h⟩ := gdn h
  refine va_iald hx hb hK hP 1 0 rfl rfl g1 dX6_change_12 ?_
  refine lv_iconst (v := 1) hx hb dX6_change_13 (by decide) ?_
  refine lv_isub hx hb dX6_change_14 ?_
  obtain ⟨x2, hx2, h⟩ := bnd h
  refine pw_go0 (va_runS (As := [.int a1, .int 0, .int ((ms (0 : Int32).toNatClampNeg) - 1)]) (rest := []) ⟨hx, hb, hml, hown, hts⟩ (mX6_in l D cI cO cJ H.size a1 0 ((ms (0 : Int32).toNatClampNeg) - 1) _ hx2) (va_cwS 3 hts gX6_change_X6_in rfl rfl rfl (by decide +kernel) ⟨Nat.le_of_ble_eq_true rfl, Nat.le_of_ble_eq_true rfl⟩) (pw_preS hK hN pw_nilP (pw_nilD (A := A))) rfl rfl hl.1 rfl (lv_room (Nat.le_of_ble_eq_true rfl)) dX6_change_15 ⟨Nat.zero_le _, Nat.zero_le _⟩) hP hS hA (fun H locs hP hS => ?_)
  refine lv_if_ne (tgt := 27) hx hb dX6_change_18 (by decide) (fun cq => ?_) (fun cq => ?_)
  · replace h := ifn cq h
    refine lv_iload_n hx hb dX6_change_27 rfl (lv_at hl 2 rfl) ?_
    refine lv_iconst (v := 0) hx hb dX6_change_28 (by decide) ?_
    refine lv_iconst (v := 3) hx hb dX6_change_29 (by decide) ?_
    obtain ⟨x3, hx3, h⟩ := bnd h
    refine pw_go0 (va_runS (As := [.int a2, .int 0, .int 3]) (rest := []) ⟨hx, hb, hml, hown, hts⟩ (mX6_in l D cI cO cJ H.size a2 0 3 _ hx3) (va_cwS 3 hts gX6_change_X6_in rfl rfl rfl (by decide +kernel) ⟨Nat.le_of_ble_eq_true rfl, Nat.le_of_ble_eq_true rfl⟩) (pw_preS hK hN pw_nilP (pw_nilD (A := A))) rfl rfl hl.1 rfl (lv_room (Nat.le_of_ble_eq_true rfl)) dX6_change_30 ⟨Nat.zero_le _, Nat.zero_le _⟩) hP hS hA (fun H locs hP hS => ?_)
    refine lv_if_ne (tgt := 42) hx hb dX6_change_33 (by decide) (fun cq => ?_) (fun cq => ?_)
    · replace h := ifn cq h
      refine lv_aload_n hx hb dX6_change_42 rfl (lv_at hl 0 rfl) ?_
      obtain ⟨⟨x4_1, x4_2⟩, hx4, h⟩ := bnd h
      refine pw_gov (wc := [(h6, .inr (6, [.int 0, .ref h6_ms, .ref h6_mv, .int svm, .ref h6_mb, .int mln, .ref h6_mc, .ref h6_mg, .ref h6_mt, .ref h6_ml, .int mat, .int wel, .ref h6_mr, .int rdm, .long hsh])), (h6_ms, .inl (cI, 253, .inl ms)), (h6_mv, .inl (cI, 1518, .inl mv)), (h6_mb, .inl (cI, 60, .inl mb)), (h6_mc, .inl (cI, 160, .inl mc)), (h6_mg, .inl (cI, 160, .inl mg)), (h6_mt, .inl (cI, 240, .inl mt)), (h6_ml, .inl (cI, 240, .inl ml)), (h6_mr, .inl (cI, 600, .inl mr))]) (w1 := [(h6, .inr (6, [.int 0, .ref h6_ms, .ref h6_mv, .int x4_2, .ref h6_mb, .int mln, .ref h6_mc, .ref h6_mg, .ref h6_mt, .ref h6_ml, .int mat, .int wel, .ref h6_mr, .int rdm, .long hsh])), (h6_ms, .inl (cI, 253, .inl ms)), (h6_mv, .inl (cI, 1518, .inl x4_1)), (h6_mb, .inl (cI, 60, .inl mb)), (h6_mc, .inl (cI, 160, .inl mc)), (h6_mg, .inl (cI, 160, .inl mg)), (h6_mt, .inl (cI, 240, .inl mt)), (h6_ml, .inl (cI, 240, .inl ml)), (h6_mr, .inl (cI, 600, .inl mr))]) (w2 := [(h6, .inr (6, [.int 0, .ref h6_ms, .ref h6_mv, .int x4_2, .ref h6_mb, .int mln, .ref h6_mc, .ref h6_mg, .ref h6_mt, .ref h6_ml, .int mat, .int wel, .ref h6_mr, .int rdm, .long hsh])), (h6_ms, .inl (cI, 253, .inl ms)), (h6_mv, .inl (cI, 1518, .inl x4_1)), (h6_mb, .inl (cI, 60, .inl mb)), (h6_mc, .inl (cI, 160, .inl mc)), (h6_mg, .inl (cI, 160, .inl mg)), (h6_mt, .inl (cI, 240, .inl mt)), (h6_ml, .inl (cI, 240, .inl ml)), (h6_mr, .inl (cI, 600, .inl mr))]) (va_runV (As := []) (rest := []) ⟨hx, hb, hml, hown, hts⟩ (mX6_saves l D cI cO cJ h6 h6_ms h6_mv h6_mb h6_mc h6_mg h6_mt h6_ml h6_mr H.size 0 ms mv svm mb mln mc mg mt ml mat wel mr rdm hsh _ hx4) (cwV 0 hts gX6_change_X6_saves rfl rfl rfl (by decide +kernel) ⟨Nat.le_of_ble_eq_true rfl, Nat.le_of_ble_eq_true rfl⟩) (pw_preV hK hN (pw_sub hP [0, 1, 2, 3, 4, 5, 6, 7, 8] rfl) (pw_subD hD [0, 1, 2, 3, 4, 5, 6, 7, 8] (by decide) rfl) (ci := 6) (q0 := 0) rfl rfl) rfl rfl hl.1 rfl (lv_room (Nat.le_of_ble_eq_true rfl)) dX6_change_43 ⟨Nat.zero_le _, Nat.zero_le _⟩) hP hD hS hA [0, 1, 2, 3, 4, 5, 6, 7, 8] [] [0, 1, 2, 3, 4, 5, 6, 7, 8] rfl rfl (by decide) (by decide) (by decide) rfl (fun H locs hP hD hS => ?_)
      refine lv_aload_n hx hb dX6_change_46 rfl (lv_at hl 0 rfl) ?_
      refine va_get (D := D) (ci := 6) (v := .ref h6_ms) (C := RX6) (T := TX6) (N := 15) hx hb hts iX6 hown hK hP 0 rfl rfl 1 (by decide) (hts (.fieldLink RX6 7 "HiddenPeriodsModel" "s" "[I") (by decide +kernel)) (fun _ h9 => h9) rfl dX6_change_47 ?_
      refine lv_bipush (v := 13) hx hb dX6_change_50 (by decide) ?_
      refine lv_iload_n hx hb dX6_change_52 rfl (lv_at hl 1 rfl) ?_
      refine lv_iadd hx hb dX6_change_53 ?_
      obtain ⟨g5, h⟩ := gdn h
      refine va_iald hx hb hK hP 1 0 rfl rfl g5 dX6_change_54 ?_
      refine lv_istore_n (lv' := [(3, .int (ms ((13 + a1)).toNatClampNeg)), (0, .ref h6), (1, .int a1), (2, .int a2)]) hx hb dX6_change_55 rfl hl (by decide) rfl (fun ls hl => ?_)
      refine lv_aload_n hx hb dX6_change_56 rfl (lv_at hl 1 rfl) ?_
      refine va_get (D := D) (ci := 6) (v := .ref h6_ms) (C := RX6) (T := TX6) (N := 15) hx hb hts iX6 hown hK hP 0 rfl rfl 1 (by decide) (hts (.fieldLink RX6 7 "HiddenPeriodsModel" "s" "[I") (by decide +kernel)) (fun _ h9 => h9) rfl dX6_change_57 ?_
      refine lv_bipush (v := 13) hx hb dX6_change_60 (by decide) ?_
      refine lv_iload_n hx hb dX6_change_62 rfl (lv_at hl 2 rfl) ?_
      refine lv_iadd hx hb dX6_change_63 ?_
      refine lv_iload_n hx hb dX6_change_64 rfl (lv_at hl 3 rfl) ?_
      obtain ⟨g6, h⟩ := gdn h
      refine va_iast hx hb hK hP hD hS 1 0 rfl rfl g6 dX6_change_65 (fun H locs hP hD hS => ?_)
      have hP : va_P D vwCl ([(h6, .inr (6, [.int 0, .ref h6_ms, .ref h6_mv, .int x4_2, .ref h6_mb, .int mln, .ref h6_mc, .ref h6_mg, .ref h6_mt, .ref h6_ml, .int mat, .int wel, .ref h6_mr, .int rdm, .long hsh])), (h6_ms, .inl (cI, 253, .inl (upd ms ((13 + a1)).toNatClampNeg a2))), (h6_mv, .inl (cI, 1518, .inl x4_1)), (h6_mb, .inl (cI, 60, .inl mb)), (h6_mc, .inl (cI, 160, .inl mc)), (h6_mg, .inl (cI, 160, .inl mg)), (h6_mt, .inl (cI, 240, .inl mt)), (h6_ml, .inl (cI, 240, .inl ml)), (h6_mr, .inl (cI, 600, .inl mr))] ++ []) H := hP
      have hD : va_D A ([(h6, .inr (6, [.int 0, .ref h6_ms, .ref h6_mv, .int x4_2, .ref h6_mb, .int mln, .ref h6_mc, .ref h6_mg, .ref h6_mt, .ref h6_ml, .int mat, .int wel, .ref h6_mr, .int rdm, .long hsh])), (h6_ms, .inl (cI, 253, .inl (upd ms ((13 + a1)).toNatClampNeg a2))), (h6_mv, .inl (cI, 1518, .inl x4_1)), (h6_mb, .inl (cI, 60, .inl mb)), (h6_mc, .inl (cI, 160, .inl mc)), (h6_mg, .inl (cI, 160, .inl mg)), (h6_mt, .inl (cI, 240, .inl mt)), (h6_ml, .inl (cI, 240, .inl ml)), (h6_mr, .inl (cI, 600, .inl mr))] ++ []) := hD
      refine lv_iload_n hx hb dX6_change_66 rfl (lv_at hl 0 rfl) ?_
      cases h
      exact pw_iret hx hb hr hlocks hAe hQ hP hD hS dX6_change_67
    · replace h := ifp cq h
      refine lv_aload_n hx hb dX6_change_36 rfl (lv_at hl 0 rfl) ?_
      refine lv_iconst (v := 2) hx hb dX6_change_37 (by decide) ?_
      obtain ⟨⟨x7_1, x7_2⟩, hx7, h⟩ := bnd h
      refine pw_goi (wc := [(h6, .inr (6, [.int 0, .ref h6_ms, .ref h6_mv, .int svm, .ref h6_mb, .int mln, .ref h6_mc, .ref h6_mg, .ref h6_mt, .ref h6_ml, .int mat, .int wel, .ref h6_mr, .int rdm, .long hsh])), (h6_ms, .inl (cI, 253, .inl ms)), (h6_mv, .inl (cI, 1518, .inl mv)), (h6_mb, .inl (cI, 60, .inl mb)), (h6_mc, .inl (cI, 160, .inl mc)), (h6_mg, .inl (cI, 160, .inl mg)), (h6_mt, .inl (cI, 240, .inl mt)), (h6_ml, .inl (cI, 240, .inl ml)), (h6_mr, .inl (cI, 600, .inl mr))]) (w1 := [(h6, .inr (6, [.int x7_2, .ref h6_ms, .ref h6_mv, .int svm, .ref h6_mb, .int mln, .ref h6_mc, .ref h6_mg, .ref h6_mt, .ref h6_ml, .int mat, .int wel, .ref h6_mr, .int rdm, .long hsh])), (h6_ms, .inl (cI, 253, .inl ms)), (h6_mv, .inl (cI, 1518, .inl mv)), (h6_mb, .inl (cI, 60, .inl mb)), (h6_mc, .inl (cI, 160, .inl mc)), (h6_mg, .inl (cI, 160, .inl mg)), (h6_mt, .inl (cI, 240, .inl mt)), (h6_ml, .inl (cI, 240, .inl ml)), (h6_mr, .inl (cI, 600, .inl mr))]) (w2 := [(h6, .inr (6, [.int x7_2, .ref h6_ms, .ref h6_mv, .int svm, .ref h6_mb, .int mln, .ref h6_mc, .ref h6_mg, .ref h6_mt, .ref h6_ml, .int mat, .int wel, .ref h6_mr, .int rdm, .long hsh])), (h6_ms, .inl (cI, 253, .inl ms)), (h6_mv, .inl (cI, 1518, .inl mv)), (h6_mb, .inl (cI, 60, .inl mb)), (h6_mc, .inl (cI, 160, .inl mc)), (h6_mg, .inl (cI, 160, .inl mg)), (h6_mt, .inl (cI, 240, .inl mt)), (h6_ml, .inl (cI, 240, .inl ml)), (h6_mr, .inl (cI, 600, .inl mr))]) (va_runV (As := [.int 2]) (rest := []) ⟨hx, hb, hml, hown, hts⟩ (mX6_fails l D cI cO cJ h6 h6_ms h6_mv h6_mb h6_mc h6_mg h6_mt h6_ml h6_mr H.size 0 ms mv svm mb mln mc mg mt ml mat wel mr rdm hsh 2 _ hx7) (cwV 1 hts gX6_change_X6_fails rfl rfl rfl (by decide +kernel) ⟨Nat.le_of_ble_eq_true rfl, Nat.le_of_ble_eq_true rfl⟩) (pw_preV hK hN (pw_sub hP [0, 1, 2, 3, 4, 5, 6, 7, 8] rfl) (pw_subD hD [0, 1, 2, 3, 4, 5, 6, 7, 8] (by decide) rfl) (ci := 6) (q0 := 0) rfl rfl) rfl rfl hl.1 rfl (lv_room (Nat.le_of_ble_eq_true rfl)) dX6_change_38 ⟨Nat.zero_le _, Nat.zero_le _⟩) hP hD hS hA [0, 1, 2, 3, 4, 5, 6, 7, 8] [] [0, 1, 2, 3, 4, 5, 6, 7, 8] rfl rfl (by decide) (by decide) (by decide) rfl (fun H locs hP hD hS => ?_)
      cases h
      exact pw_iret hx hb hr hlocks hAe hQ hP hD hS dX6_change_41
  · replace h := ifp cq h
    refine lv_aload_n hx hb dX6_change_21 rfl (lv_at hl 0 rfl) ?_
    refine lv_iconst (v := 1) hx hb dX6_change_22 (by decide) ?_
    obtain ⟨⟨x8_1, x8_2⟩, hx8, h⟩ := bnd h
    refine pw_goi (wc := [(h6, .inr (6, [.int 0, .ref h6_ms, .ref h6_mv, .int svm, .ref h6_mb, .int mln, .ref h6_mc, .ref h6_mg, .ref h6_mt, .ref h6_ml, .int mat, .int wel, .ref h6_mr, .int rdm, .long hsh])), (h6_ms, .inl (cI, 253, .inl ms)), (h6_mv, .inl (cI, 1518, .inl mv)), (h6_mb, .inl (cI, 60, .inl mb)), (h6_mc, .inl (cI, 160, .inl mc)), (h6_mg, .inl (cI, 160, .inl mg)), (h6_mt, .inl (cI, 240, .inl mt)), (h6_ml, .inl (cI, 240, .inl ml)), (h6_mr, .inl (cI, 600, .inl mr))]) (w1 := [(h6, .inr (6, [.int x8_2, .ref h6_ms, .ref h6_mv, .int svm, .ref h6_mb, .int mln, .ref h6_mc, .ref h6_mg, .ref h6_mt, .ref h6_ml, .int mat, .int wel, .ref h6_mr, .int rdm, .long hsh])), (h6_ms, .inl (cI, 253, .inl ms)), (h6_mv, .inl (cI, 1518, .inl mv)), (h6_mb, .inl (cI, 60, .inl mb)), (h6_mc, .inl (cI, 160, .inl mc)), (h6_mg, .inl (cI, 160, .inl mg)), (h6_mt, .inl (cI, 240, .inl mt)), (h6_ml, .inl (cI, 240, .inl ml)), (h6_mr, .inl (cI, 600, .inl mr))]) (w2 := [(h6, .inr (6, [.int x8_2, .ref h6_ms, .ref h6_mv, .int svm, .ref h6_mb, .int mln, .ref h6_mc, .ref h6_mg, .ref h6_mt, .ref h6_ml, .int mat, .int wel, .ref h6_mr, .int rdm, .long hsh])), (h6_ms, .inl (cI, 253, .inl ms)), (h6_mv, .inl (cI, 1518, .inl mv)), (h6_mb, .inl (cI, 60, .inl mb)), (h6_mc, .inl (cI, 160, .inl mc)), (h6_mg, .inl (cI, 160, .inl mg)), (h6_mt, .inl (cI, 240, .inl mt)), (h6_ml, .inl (cI, 240, .inl ml)), (h6_mr, .inl (cI, 600, .inl mr))]) (va_runV (As := [.int 1]) (rest := []) ⟨hx, hb, hml, hown, hts⟩ (mX6_fails l D cI cO cJ h6 h6_ms h6_mv h6_mb h6_mc h6_mg h6_mt h6_ml h6_mr H.size 0 ms mv svm mb mln mc mg mt ml mat wel mr rdm hsh 1 _ hx8) (cwV 1 hts gX6_change_X6_fails rfl rfl rfl (by decide +kernel) ⟨Nat.le_of_ble_eq_true rfl, Nat.le_of_ble_eq_true rfl⟩) (pw_preV hK hN (pw_sub hP [0, 1, 2, 3, 4, 5, 6, 7, 8] rfl) (pw_subD hD [0, 1, 2, 3, 4, 5, 6, 7, 8] (by decide) rfl) (ci := 6) (q0 := 0) rfl rfl) rfl rfl hl.1 rfl (lv_room (Nat.le_of_ble_eq_true rfl)) dX6_change_23 ⟨Nat.zero_le _, Nat.zero_le _⟩) hP hD hS hA [0, 1, 2, 3, 4, 5, 6, 7, 8] [] [0, 1, 2, 3, 4, 5, 6, 7, 8] rfl rfl (by decide) (by decide) (by decide) rfl (fun H locs hP hD hS => ?_)
    cases h
    exact pw_iret hx hb hr hlocks hAe hQ hP hD hS dX6_change_26

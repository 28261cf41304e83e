def fX6_cut_L51 : Nat → Int32 → (Nat → Int32) → Option (Nat → Int32)
  | 0, _, _ => none
  | n + 1, v3_51, ms_51 =>
    if oob 0 253 then none else
    if (ms_51 (0 : Int32).toNatClampNeg) ≤ v3_51 then
    some ms_51
    else
    if oob (13 + v3_51) 253 then none else
    fX6_cut_L51 n (v3_51 + 1) (upd ms_51 ((13 + v3_51)).toNatClampNeg 0)
def fX6_cut (ms : Nat → Int32) (mv : Nat → Int32) (svm : Int32) (a1 : Int32) : Option (Int32 × Int32 × (Nat → Int32) × (Nat → Int32) × Int32) :=
  (fX6_in a1 1 240).bind fun x1 =>
  if x1 = 0 then
  (fX6_fails 1).bind fun (x10_1, x10_2) =>
  some (x10_1, x10_2, ms, mv, svm)
  else
  (fX6_saves ms mv svm).bind fun (x2_1, x2_2) =>
  if oob 0 253 then none else
  (if (ms (0 : Int32).toNatClampNeg) ≤ a1 then
  some 0
  else
  if oob 0 253 then none else
  some ((ms (0 : Int32).toNatClampNeg) - a1) : Option Int32).bind fun x4 =>
  (fX6_cut_L51 FU x4 ms).bind fun x7 =>
  if oob 0 253 then none else
  some (x4, 0, (upd x7 (0 : Int32).toNatClampNeg x4), x2_1, x2_2)
abbrev rmX6_cut : Room := { frames := 1, cells := 0, slots := 0, locals := 22 }
set_option maxHeartbeats 4000000 in
set_option maxRecDepth 100000 in
theorem mX6_cut (l : Launch) (D : va_G) (cI cO cJ : ClassId) (h6 h6_ms h6_mv h6_mb h6_mc h6_mg h6_mt h6_ml h6_mr : Nat) (sz : Nat) (thr : Int32) (ms : Nat → Int32) (mv : Nat → Int32) (svm : Int32) (mb : Nat → Int32) (mln : Int32) (mc : Nat → Int32) (mg : Nat → Int32) (mt : Nat → Int32) (ml : Nat → Int32) (mat : Int32) (wel : Int32) (mr : Nat → Int32) (rdm : Int32) (hsh : Int64) (a1 : Int32) (z : Int32 × Int32 × (Nat → Int32) × (Nat → Int32) × Int32) (h : fX6_cut ms mv svm a1 = some z) : Met l yX6_cut wsX6_cut rmX6_cut (pw_pre D (tyL cI cO cJ) [.ref h6, .int a1] [(h6, .inr (6, [.int thr, .ref h6_ms, .ref h6_mv, .int svm, .ref h6_mb, .int mln, .ref h6_mc, .ref h6_mg, .ref h6_mt, .ref h6_ml, .int mat, .int wel, .ref h6_mr, .int rdm, .long hsh])), (h6_ms, .inl (cI, 253, .inl ms)), (h6_mv, .inl (cI, 1518, .inl mv)), (h6_mb, .inl (cI, 60, .inl mb)), (h6_mc, .inl (cI, 160, .inl mc)), (h6_mg, .inl (cI, 160, .inl mg)), (h6_mt, .inl (cI, 240, .inl mt)), (h6_ml, .inl (cI, 240, .inl ml)), (h6_mr, .inl (cI, 600, .inl mr))] sz) (pw_i D [(h6, .inr (6, [.int thr, .ref h6_ms, .ref h6_mv, .int svm, .ref h6_mb, .int mln, .ref h6_mc, .ref h6_mg, .ref h6_mt, .ref h6_ml, .int mat, .int wel, .ref h6_mr, .int rdm, .long hsh])), (h6_ms, .inl (cI, 253, .inl ms)), (h6_mv, .inl (cI, 1518, .inl mv)), (h6_mb, .inl (cI, 60, .inl mb)), (h6_mc, .inl (cI, 160, .inl mc)), (h6_mg, .inl (cI, 160, .inl mg)), (h6_mt, .inl (cI, 240, .inl mt)), (h6_ml, .inl (cI, 240, .inl ml)), (h6_mr, .inl (cI, 600, .inl mr))] [(h6, .inr (6, [.int z.2.1, .ref h6_ms, .ref h6_mv, .int z.2.2.2.2, .ref h6_mb, .int mln, .ref h6_mc, .ref h6_mg, .ref h6_mt, .ref h6_ml, .int mat, .int wel, .ref h6_mr, .int rdm, .long hsh])), (h6_ms, .inl (cI, 253, .inl z.2.2.1)), (h6_mv, .inl (cI, 1518, .inl z.2.2.2.1)), (h6_mb, .inl (cI, 60, .inl mb)), (h6_mc, .inl (cI, 160, .inl mc)), (h6_mg, .inl (cI, 160, .inl mg)), (h6_mt, .inl (cI, 240, .inl mt)), (h6_ml, .inl (cI, 240, .inl ml)), (h6_mr, .inl (cI, 600, .inl mr))] z.1 sz) 0 0 (va_A [(h6, .inr (6, [.int thr, .ref h6_ms, .ref h6_mv, .int svm, .ref h6_mb, .int mln, .ref h6_mc, .ref h6_mg, .ref h6_mt, .ref h6_ml, .int mat, .int wel, .ref h6_mr, .int rdm, .long hsh])), (h6_ms, .inl (cI, 253, .inl ms)), (h6_mv, .inl (cI, 1518, .inl mv)), (h6_mb, .inl (cI, 60, .inl mb)), (h6_mc, .inl (cI, 160, .inl mc)), (h6_mg, .inl (cI, 160, .inl mg)), (h6_mt, .inl (cI, 240, .inl mt)), (h6_ml, .inl (cI, 240, .inl ml)), (h6_mr, .inl (cI, 600, .inl mr))] sz) := by
  refine pw_of (Qc := fun sz => pw_i D [(h6, .inr (6, [.int thr, .ref h6_ms, .ref h6_mv, .int svm, .ref h6_mb, .int mln, .ref h6_mc, .ref h6_mg, .ref h6_mt, .ref h6_ml, .int mat, .int wel, .ref h6_mr, .int rdm, .long hsh])), (h6_ms, .inl (cI, 253, .inl ms)), (h6_mv, .inl (cI, 1518, .inl mv)), (h6_mb, .inl (cI, 60, .inl mb)), (h6_mc, .inl (cI, 160, .inl mc)), (h6_mg, .inl (cI, 160, .inl mg)), (h6_mt, .inl (cI, 240, .inl mt)), (h6_ml, .inl (cI, 240, .inl ml)), (h6_mr, .inl (cI, 600, .inl mr))] [(h6, .inr (6, [.int z.2.1, .ref h6_ms, .ref h6_mv, .int z.2.2.2.2, .ref h6_mb, .int mln, .ref h6_mc, .ref h6_mg, .ref h6_mt, .ref h6_ml, .int mat, .int wel, .ref h6_mr, .int rdm, .long hsh])), (h6_ms, .inl (cI, 253, .inl z.2.2.1)), (h6_mv, .inl (cI, 1518, .inl z.2.2.2.1)), (h6_mb, .inl (cI, 60, .inl mb)), (h6_mc, .inl (cI, 160, .inl mc)), (h6_mg, .inl (cI, 160, .inl mg)), (h6_mt, .inl (cI, 240, .inl mt)), (h6_ml, .inl (cI, 240, .inl ml)), (h6_mr, .inl (cI, 600, .inl mr))] z.1 sz) (cc := cX6_cut) (maxL := 4) (ret := (some .int)) (by decide) rfl (Nat.le_of_ble_eq_true rfl) ?_
  intro p e s m args below meth c A Q H ls hx hb hml hr hts hown hlocks hAe hQ hK hN hA hP hD hS hl
  have hown : s.vm.findClass RX6 = some m.cls := hown
  have hl : lv_has ls 4 [(0, .ref h6), (1, .int a1)] := hl
  have hP : va_P D vwCl ([(h6, .inr (6, [.int thr, .ref h6_ms, .ref h6_mv, .int svm, .ref h6_mb, .int mln, .ref h6_mc, .ref h6_mg, .ref h6_mt, .ref h6_ml, .int mat, .int wel, .ref h6_mr, .int rdm, .long hsh])), (h6_ms, .inl (cI, 253, .inl ms)), (h6_mv, .inl (cI, 1518, .inl mv)), (h6_mb, .inl (cI, 60, .inl mb)), (h6_mc, .inl (cI, 160, .inl mc)), (h6_mg, .inl (cI, 160, .inl mg)), (h6_mt, .inl (cI, 240, .inl mt)), (h6_ml, .inl (cI, 240, .inl ml)), (h6_mr, .inl (cI, 600, .inl mr))] ++ []) H := hP
  have hD : va_D A ([(h6, .inr (6, [.int thr, .ref h6_ms, .ref h6_mv, .int svm, .ref h6_mb, .int mln, .ref h6_mc, .ref h6_mg, .ref h6_mt, .ref h6_ml, .int mat, .int wel, .ref h6_mr, .int rdm, .long hsh])), (h6_ms, .inl (cI, 253, .inl ms)), (h6_mv, .inl (cI, 1518, .inl mv)), (h6_mb, .inl (cI, 60, .inl mb)), (h6_mc, .inl (cI, 160, .inl mc)), (h6_mg, .inl (cI, 160, .inl mg)), (h6_mt, .inl (cI, 240, .inl mt)), (h6_ml, .inl (cI, 240, .inl ml)), (h6_mr, .inl (cI, 600, .inl mr))] ++ []) := hD
  have iX6 : ∀ w ∈ u_ws RX6 TX6 15, w ∈ wsX6_cut := fun _ h => List.mem_cons_of_mem _ (List.mem_append_right _ h)
  unfold fX6_cut at h
  refine lv_aload_n hx hb dX6_cut_0 rfl (lv_at hl 0 rfl) ?_
  refine lv_iconst (v := 0) hx hb dX6_cut_1 (by decide) ?_
  refine va_put (D := D) (ci := 6) (v := .int 0) (ty := .int) (C := RX6) (T := TX6) (N := 15) hx hb hts iX6 tyX6 tyX6_ok nmX6 hown hK hP hD hS 0 rfl rfl 0 (by decide) (hts (.fieldLink RX6 34 "HiddenPeriodsModel" "thrown" "I") (by decide +kernel)) (fun _ h9 => h9) rfl (by decide +kernel) rfl rfl (Nat.le_of_ble_eq_true rfl) dX6_cut_2 (fun H locs hP hD hS => ?_)
  have hP : va_P D vwCl ([(h6, .inr (6, [.int 0, .ref h6_ms, .ref h6_mv, .int svm, .ref h6_mb, .int mln, .ref h6_mc, .ref h6_mg, .ref h6_mt, .ref h6_ml, .int mat, .int wel, .ref h6_mr, .int rdm, .long hsh])), (h6_ms, .inl (cI, 253, .inl ms)), (h6_mv, .inl (cI, 1518, .inl mv)), (h6_mb, .inl (cI, 60, .inl mb)), (h6_mc, .inl (cI, 160, .inl mc)), (h6_mg, .inl (cI, 160, .inl mg)), (h6_mt, .inl (cI, 240, .inl mt)), (h6_ml, .inl (cI, 240, .inl ml)), (h6_mr, .inl (cI, 600, .inl mr))] ++ []) H := hP
  have hD : va_D A ([(h6, .inr (6, [.int 0, .ref h6_ms, .ref h6_mv, .int svm, .ref h6_mb, .int mln, .ref h6_mc, .ref h6_mg, .ref h6_mt, .ref h6_ml, .int mat, .int wel, .ref h6_mr, .int rdm, .long hsh])), (h6_ms, .inl (cI, 253, .inl ms)), (h6_mv, .inl (cI, 1518, .inl mv)), (h6_mb, .inl (cI, 60, .inl mb)), (h6_mc, .inl (cI, 160, .inl mc)), (h6_mg, .inl (cI, 160, .inl mg)), (h6_mt, .inl (cI, 240, .inl mt)), (h6_ml, .inl (cI, 240, .inl ml)), (h6_mr, .inl (cI, 600, .inl mr))] ++ []) := hD
  refine lv_iload_n hx hb dX6_cut_5 rfl (lv_at hl 1 rfl) ?_
  refine lv_iconst (v := 1) hx hb dX6_cut_6 (by decide) ?_
  refine lv_sipush (v := 240) hx hb dX6_cut_7 (by decide) ?_
  obtain ⟨x1, hx1, h⟩ := bnd h
  refine pw_go0 (va_runS (As := [.int a1, .int 1, .int 240]) (rest := []) ⟨hx, hb, hml, hown, hts⟩ (mX6_in l D cI cO cJ H.size a1 1 240 _ hx1) (va_cwS 3 hts gX6_cut_X6_in rfl rfl rfl (by decide +kernel) ⟨Nat.le_of_ble_eq_true rfl, Nat.le_of_ble_eq_true rfl⟩) (pw_preS hK hN pw_nilP (pw_nilD (A := A))) rfl rfl hl.1 rfl (lv_room (Nat.le_of_ble_eq_true rfl)) dX6_cut_10 ⟨Nat.zero_le _, Nat.zero_le _⟩) hP hS hA (fun H locs hP hS => ?_)
  refine lv_if_ne (tgt := 22) hx hb dX6_cut_13 (by decide) (fun cq => ?_) (fun cq => ?_)
  · replace h := ifn cq h
    refine lv_aload_n hx hb dX6_cut_22 rfl (lv_at hl 0 rfl) ?_
    obtain ⟨⟨x2_1, x2_2⟩, hx2, h⟩ := bnd h
    refine pw_gov (wc := [(h6, .inr (6, [.int 0, .ref h6_ms, .ref h6_mv, .int svm, .ref h6_mb, .int mln, .ref h6_mc, .ref h6_mg, .ref h6_mt, .ref h6_ml, .int mat, .int wel, .ref h6_mr, .int rdm, .long hsh])), (h6_ms, .inl (cI, 253, .inl ms)), (h6_mv, .inl (cI, 1518, .inl mv)), (h6_mb, .inl (cI, 60, .inl mb)), (h6_mc, .inl (cI, 160, .inl mc)), (h6_mg, .inl (cI, 160, .inl mg)), (h6_mt, .inl (cI, 240, .inl mt)), (h6_ml, .inl (cI, 240, .inl ml)), (h6_mr, .inl (cI, 600, .inl mr))]) (w1 := [(h6, .inr (6, [.int 0, .ref h6_ms, .ref h6_mv, .int x2_2, .ref h6_mb, .int mln, .ref h6_mc, .ref h6_mg, .ref h6_mt, .ref h6_ml, .int mat, .int wel, .ref h6_mr, .int rdm, .long hsh])), (h6_ms, .inl (cI, 253, .inl ms)), (h6_mv, .inl (cI, 1518, .inl x2_1)), (h6_mb, .inl (cI, 60, .inl mb)), (h6_mc, .inl (cI, 160, .inl mc)), (h6_mg, .inl (cI, 160, .inl mg)), (h6_mt, .inl (cI, 240, .inl mt)), (h6_ml, .inl (cI, 240, .inl ml)), (h6_mr, .inl (cI, 600, .inl mr))]) (w2 := [(h6, .inr (6, [.int 0, .ref h6_ms, .ref h6_mv, .int x2_2, .ref h6_mb, .int mln, .ref h6_mc, .ref h6_mg, .ref h6_mt, .ref h6_ml, .int mat, .int wel, .ref h6_mr, .int rdm, .long hsh])), (h6_ms, .inl (cI, 253, .inl ms)), (h6_mv, .inl (cI, 1518, .inl x2_1)), (h6_mb, .inl (cI, 60, .inl mb)), (h6_mc, .inl (cI, 160, .inl mc)), (h6_mg, .inl (cI, 160, .inl mg)), (h6_mt, .inl (cI, 240, .inl mt)), (h6_ml, .inl (cI, 240, .inl ml)), (h6_mr, .inl (cI, 600, .inl mr))]) (va_runV (As := []) (rest := []) ⟨hx, hb, hml, hown, hts⟩ (mX6_saves l D cI cO cJ h6 h6_ms h6_mv h6_mb h6_mc h6_mg h6_mt h6_ml h6_mr H.size 0 ms mv svm mb mln mc mg mt ml mat wel mr rdm hsh _ hx2) (cwV 0 hts gX6_cut_X6_saves rfl rfl rfl (by decide +kernel) ⟨Nat.le_of_ble_eq_true rfl, Nat.le_of_ble_eq_true rfl⟩) (pw_preV hK hN (pw_sub hP [0, 1, 2, 3, 4, 5, 6, 7, 8] rfl) (pw_subD hD [0, 1, 2, 3, 4, 5, 6, 7, 8] (by decide) rfl) (ci := 6) (q0 := 0) rfl rfl) rfl rfl hl.1 rfl (lv_room (Nat.le_of_ble_eq_true rfl)) dX6_cut_23 ⟨Nat.zero_le _, Nat.zero_le _⟩) hP hD hS hA [0, 1, 2, 3, 4, 5, 6, 7, 8] [] [0, 1, 2, 3, 4, 5, 6, 7, 8] rfl rfl (by decide) (by decide) (by decide) rfl (fun H locs hP hD hS => ?_)
    refine lv_iload_n hx hb dX6_cut_26 rfl (lv_at hl 1 rfl) ?_
    refine lv_aload_n hx hb dX6_cut_27 rfl (lv_at hl 0 rfl) ?_
    refine va_get (D := D) (ci := 6) (v := .ref h6_ms) (C := RX6) (T := TX6) (N := 15) hx hb hts iX6 hown hK hP 0 rfl rfl 1 (by decide) (hts (.fieldLink RX6 7 "HiddenPeriodsModel" "s" "[I") (by decide +kernel)) (fun _ h9 => h9) rfl dX6_cut_28 ?_
    refine lv_iconst (v := 0) hx hb dX6_cut_31 (by decide) ?_
    obtain ⟨g3, h⟩ := gdn h
    refine va_iald hx hb hK hP 1 0 rfl rfl g3 dX6_cut_32 ?_
    obtain ⟨x4, hx4, h⟩ := bnd h
    have Jx4 : ∀ (H : Heap) (locs : List Loc) (ls : Array Slot), va_P D vwCl ([(h6, .inr (6, [.int 0, .ref h6_ms, .ref h6_mv, .int x2_2, .ref h6_mb, .int mln, .ref h6_mc, .ref h6_mg, .ref h6_mt, .ref h6_ml, .int mat, .int wel, .ref h6_mr, .int rdm, .long hsh])), (h6_ms, .inl (cI, 253, .inl ms)), (h6_mv, .inl (cI, 1518, .inl x2_1)), (h6_mb, .inl (cI, 60, .inl mb)), (h6_mc, .inl (cI, 160, .inl mc)), (h6_mg, .inl (cI, 160, .inl mg)), (h6_mt, .inl (cI, 240, .inl mt)), (h6_ml, .inl (cI, 240, .inl ml)), (h6_mr, .inl (cI, 600, .inl mr))] ++ []) H → va_D A ([(h6, .inr (6, [.int 0, .ref h6_ms, .ref h6_mv, .int x2_2, .ref h6_mb, .int mln, .ref h6_mc, .ref h6_mg, .ref h6_mt, .ref h6_ml, .int mat, .int wel, .ref h6_mr, .int rdm, .long hsh])), (h6_ms, .inl (cI, 253, .inl ms)), (h6_mv, .inl (cI, 1518, .inl x2_1)), (h6_mb, .inl (cI, 60, .inl mb)), (h6_mc, .inl (cI, 160, .inl mc)), (h6_mg, .inl (cI, 160, .inl mg)), (h6_mt, .inl (cI, 240, .inl mt)), (h6_ml, .inl (cI, 240, .inl ml)), (h6_mr, .inl (cI, 600, .inl mr))] ++ []) → va_S A s.heap H locs → lv_has ls 4 [(0, .ref h6)] → W p l e rmX6_cut s m args below meth c H locs 0 0 Q (F0 m 48 ls [.int x4]) := by
      intro H locs ls hP hD hS hl
      refine lv_istore_n (lv' := [(2, .int x4), (0, .ref h6)]) hx hb dX6_cut_48 rfl hl (by decide) rfl (fun ls hl => ?_)
      refine lv_iload_n hx hb dX6_cut_49 rfl (lv_at hl 0 rfl) ?_
      refine lv_istore_n (lv' := [(3, .int x4), (2, .int x4), (0, .ref h6)]) hx hb dX6_cut_50 rfl hl (by decide) rfl (fun ls hl => ?_)
      have L51 : ∀ (n : Nat) (v3_51 : Int32) (ms_51 : Nat → Int32) (o51_1 : Nat → Int32) (H : Heap) (locs : List Loc) (ls : Array Slot), fX6_cut_L51 n v3_51 ms_51 = some o51_1 → va_P D vwCl ([(h6, .inr (6, [.int 0, .ref h6_ms, .ref h6_mv, .int x2_2, .ref h6_mb, .int mln, .ref h6_mc, .ref h6_mg, .ref h6_mt, .ref h6_ml, .int mat, .int wel, .ref h6_mr, .int rdm, .long hsh])), (h6_ms, .inl (cI, 253, .inl ms_51)), (h6_mv, .inl (cI, 1518, .inl x2_1)), (h6_mb, .inl (cI, 60, .inl mb)), (h6_mc, .inl (cI, 160, .inl mc)), (h6_mg, .inl (cI, 160, .inl mg)), (h6_mt, .inl (cI, 240, .inl mt)), (h6_ml, .inl (cI, 240, .inl ml)), (h6_mr, .inl (cI, 600, .inl mr))] ++ []) H → va_D A ([(h6, .inr (6, [.int 0, .ref h6_ms, .ref h6_mv, .int x2_2, .ref h6_mb, .int mln, .ref h6_mc, .ref h6_mg, .ref h6_mt, .ref h6_ml, .int mat, .int wel, .ref h6_mr, .int rdm, .long hsh])), (h6_ms, .inl (cI, 253, .inl ms_51)), (h6_mv, .inl (cI, 1518, .inl x2_1)), (h6_mb, .inl (cI, 60, .inl mb)), (h6_mc, .inl (cI, 160, .inl mc)), (h6_mg, .inl (cI, 160, .inl mg)), (h6_mt, .inl (cI, 240, .inl mt)), (h6_ml, .inl (cI, 240, .inl ml)), (h6_mr, .inl (cI, 600, .inl mr))] ++ []) → va_S A s.heap H locs → lv_has ls 4 [(0, .ref h6), (2, .int x4), (3, .int v3_51)] → (∀ (H : Heap) (locs : List Loc) (ls : Array Slot), va_P D vwCl ([(h6, .inr (6, [.int 0, .ref h6_ms, .ref h6_mv, .int x2_2, .ref h6_mb, .int mln, .ref h6_mc, .ref h6_mg, .ref h6_mt, .ref h6_ml, .int mat, .int wel, .ref h6_mr, .int rdm, .long hsh])), (h6_ms, .inl (cI, 253, .inl o51_1)), (h6_mv, .inl (cI, 1518, .inl x2_1)), (h6_mb, .inl (cI, 60, .inl mb)), (h6_mc, .inl (cI, 160, .inl mc)), (h6_mg, .inl (cI, 160, .inl mg)), (h6_mt, .inl (cI, 240, .inl mt)), (h6_ml, .inl (cI, 240, .inl ml)), (h6_mr, .inl (cI, 600, .inl mr))] ++ []) H → va_D A ([(h6, .inr (6, [.int 0, .ref h6_ms, .ref h6_mv, .int x2_2, .ref h6_mb, .int mln, .ref h6_mc, .ref h6_mg, .ref h6_mt, .ref h6_ml, .int mat, .int wel, .ref h6_mr, .int rdm, .long hsh])), (h6_ms, .inl (cI, 253, .inl o51_1)), (h6_mv, .inl (cI, 1518, .inl x2_1)), (h6_mb, .inl (cI, 60, .inl mb)), (h6_mc, .inl (cI, 160, .inl mc)), (h6_mg, .inl (cI, 160, .inl mg)), (h6_mt, .inl (cI, 240, .inl mt)), (h6_ml, .inl (cI, 240, .inl ml)), (h6_mr, .inl (cI, 600, .inl mr))] ++ []) → va_S A s.heap H locs → lv_has ls 4 [(0, .ref h6), (2, .int x4)] → W p l e rmX6_cut s m args below meth c H locs 0 0 Q (F0 m 77 ls [])) → W p l e rmX6_cut s m args below meth c H locs 0 0 Q (F0 m 51 ls []) := by
        intro n
        induction n with
        | zero =>
          intro v3_51 ms_51 o51_1 H locs ls h
          rw [fX6_cut_L51] at h
          cases h
        | succ n ih =>
          intro v3_51 ms_51 o51_1 H locs ls h hP hD hS hl K
          rw [fX6_cut_L51] at h
          refine lv_iload_n hx hb dX6_cut_51 rfl (lv_at hl 2 rfl) ?_
          refine lv_aload_n hx hb dX6_cut_52 rfl (lv_at hl 0 rfl) ?_
          refine va_get (D := D) (ci := 6) (v := .ref h6_ms) (C := RX6) (T := TX6) (N := 15) hx hb hts iX6 hown hK hP 0 rfl rfl 1 (by decide) (hts (.fieldLink RX6 7 "HiddenPeriodsModel" "s" "[I") (by decide +kernel)) (fun _ h9 => h9) rfl dX6_cut_53 ?_
          refine lv_iconst (v := 0) hx hb dX6_cut_56 (by decide) ?_
          obtain ⟨g5, h⟩ := gdn h
          refine va_iald hx hb hK hP 1 0 rfl rfl g5 dX6_cut_57 ?_
          refine lv_icmp_ge (tgt := 77) hx hb dX6_cut_58 (by decide) (fun cq => ?_) (fun cq => ?_)
          · replace h := ifp cq h
            cases h
            exact K _ _ _ hP hD hS (lv_sub hl [0, 1] rfl)
          · replace h := ifn cq h
            refine lv_aload_n hx hb dX6_cut_61 rfl (lv_at hl 0 rfl) ?_
            refine va_get (D := D) (ci := 6) (v := .ref h6_ms) (C := RX6) (T := TX6) (N := 15) hx hb hts iX6 hown hK hP 0 rfl rfl 1 (by decide) (hts (.fieldLink RX6 7 "HiddenPeriodsModel" "s" "[I") (by decide +kernel)) (fun _ h9 => h9) rfl dX6_cut_62 ?_
            refine lv_bipush (v := 13) hx hb dX6_cut_65 (by decide) ?_
            refine lv_iload_n hx hb dX6_cut_67 rfl (lv_at hl 2 rfl) ?_
            refine lv_iadd hx hb dX6_cut_68 ?_
            refine lv_iconst (v := 0) hx hb dX6_cut_69 (by decide) ?_
            obtain ⟨g6, h⟩ := gdn h
            refine va_iast hx hb hK hP hD hS 1 0 rfl rfl g6 dX6_cut_70 (fun H locs hP hD hS => ?_)
            have hP : va_P D vwCl ([(h6, .inr (6, [.int 0, .ref h6_ms, .ref h6_mv, .int x2_2, .ref h6_mb, .int mln, .ref h6_mc, .ref h6_mg, .ref h6_mt, .ref h6_ml, .int mat, .int wel, .ref h6_mr, .int rdm, .long hsh])), (h6_ms, .inl (cI, 253, .inl (upd ms_51 ((13 + v3_51)).toNatClampNeg 0))), (h6_mv, .inl (cI, 1518, .inl x2_1)), (h6_mb, .inl (cI, 60, .inl mb)), (h6_mc, .inl (cI, 160, .inl mc)), (h6_mg, .inl (cI, 160, .inl mg)), (h6_mt, .inl (cI, 240, .inl mt)), (h6_ml, .inl (cI, 240, .inl ml)), (h6_mr, .inl (cI, 600, .inl mr))] ++ []) H := hP
            have hD : va_D A ([(h6, .inr (6, [.int 0, .ref h6_ms, .ref h6_mv, .int x2_2, .ref h6_mb, .int mln, .ref h6_mc, .ref h6_mg, .ref h6_mt, .ref h6_ml, .int mat, .int wel, .ref h6_mr, .int rdm, .long hsh])), (h6_ms, .inl (cI, 253, .inl (upd ms_51 ((13 + v3_51)).toNatClampNeg 0))), (h6_mv, .inl (cI, 1518, .inl x2_1)), (h6_mb, .inl (cI, 60, .inl mb)), (h6_mc, .inl (cI, 160, .inl mc)), (h6_mg, .inl (cI, 160, .inl mg)), (h6_mt, .inl (cI, 240, .inl mt)), (h6_ml, .inl (cI, 240, .inl ml)), (h6_mr, .inl (cI, 600, .inl mr))] ++ []) := hD
            refine lv_iinc (v := (v3_51 + 1)) (lv' := [(3, .int (v3_51 + 1)), (0, .ref h6), (2, .int x4)]) hx hb dX6_cut_71 hl (k := 2) rfl rfl (by decide) rfl (fun ls hl => ?_)
            refine lv_goto (tgt := 51) hx hb dX6_cut_74 (by decide) ?_
            exact ih _ _ _ _ _ _ h hP hD hS (lv_sub hl [1, 2, 0] rfl) K
      obtain ⟨x7, hx7, h⟩ := bnd h
      refine L51 FU _ _ _ _ _ _ hx7 hP hD hS (lv_sub hl [2, 1, 0] rfl) (fun H locs ls hP hD hS hl => ?_)
      refine lv_aload_n hx hb dX6_cut_77 rfl (lv_at hl 0 rfl) ?_
      refine va_get (D := D) (ci := 6) (v := .ref h6_ms) (C := RX6) (T := TX6) (N := 15) hx hb hts iX6 hown hK hP 0 rfl rfl 1 (by decide) (hts (.fieldLink RX6 7 "HiddenPeriodsModel" "s" "[I") (by decide +kernel)) (fun _ h9 => h9) rfl dX6_cut_78 ?_
      refine lv_iconst (v := 0) hx hb dX6_cut_81 (by decide) ?_
      refine lv_iload_n hx hb dX6_cut_82 rfl (lv_at hl 1 rfl) ?_
      obtain ⟨g8, h⟩ := gdn h
      refine va_iast hx hb hK hP hD hS 1 0 rfl rfl g8 dX6_cut_83 (fun H locs hP hD hS => ?_)
      have hP : va_P D vwCl ([(h6, .inr (6, [.int 0, .ref h6_ms, .ref h6_mv, .int x2_2, .ref h6_mb, .int mln, .ref h6_mc, .ref h6_mg, .ref h6_mt, .ref h6_ml, .int mat, .int wel, .ref h6_mr, .int rdm, .long hsh])), (h6_ms, .inl (cI, 253, .inl (upd x7 (0 : Int32).toNatClampNeg x4))), (h6_mv, .inl (cI, 1518, .inl x2_1)), (h6_mb, .inl (cI, 60, .inl mb)), (h6_mc, .inl (cI, 160, .inl mc)), (h6_mg, .inl (cI, 160, .inl mg)), (h6_mt, .inl (cI, 240, .inl mt)), (h6_ml, .inl (cI, 240, .inl ml)), (h6_mr, .inl (cI, 600, .inl mr))] ++ []) H := hP
      have hD : va_D A ([(h6, .inr (6, [.int 0, .ref h6_ms, .ref h6_mv, .int x2_2, .ref h6_mb, .int mln, .ref h6_mc, .ref h6_mg, .ref h6_mt, .ref h6_ml, .int mat, .int wel, .ref h6_mr, .int rdm, .long hsh])), (h6_ms, .inl (cI, 253, .inl (upd x7 (0 : Int32).toNatClampNeg x4))), (h6_mv, .inl (cI, 1518, .inl x2_1)), (h6_mb, .inl (cI, 60, .inl mb)), (h6_mc, .inl (cI, 160, .inl mc)), (h6_mg, .inl (cI, 160, .inl mg)), (h6_mt, .inl (cI, 240, .inl mt)), (h6_ml, .inl (cI, 240, .inl ml)), (h6_mr, .inl (cI, 600, .inl mr))] ++ []) := hD
      refine lv_iload_n hx hb dX6_cut_84 rfl (lv_at hl 1 rfl) ?_
      cases h
      exact pw_iret hx hb hr hlocks hAe hQ hP hD hS dX6_cut_85
    replace h := hx4
    refine lv_icmp_ge (tgt := 47) hx hb dX6_cut_33 (by decide) (fun cq => ?_) (fun cq => ?_)
    · replace h := ifp cq h
      refine lv_iconst (v := 0) hx hb dX6_cut_47 (by decide) ?_
      cases h
      exact Jx4 _ _ _ hP hD hS (lv_sub hl [0] rfl)
    · replace h := ifn cq h
      refine lv_aload_n hx hb dX6_cut_36 rfl (lv_at hl 0 rfl) ?_
      refine va_get (D := D) (ci := 6) (v := .ref h6_ms) (C := RX6) (T := TX6) (N := 15) hx hb hts iX6 hown hK hP 0 rfl rfl 1 (by decide) (hts (.fieldLink RX6 7 "HiddenPeriodsModel" "s" "[I") (by decide +kernel)) (fun _ h9 => h9) rfl dX6_cut_37 ?_
      refine lv_iconst (v := 0) hx hb dX6_cut_40 (by decide) ?_
      obtain ⟨g9, h⟩ := gdn h
      refine va_iald hx hb hK hP 1 0 rfl rfl g9 dX6_cut_41 ?_
      refine lv_iload_n hx hb dX6_cut_42 rfl (lv_at hl 1 rfl) ?_
      refine lv_isub hx hb dX6_cut_43 ?_
      refine lv_goto (tgt := 48) hx hb dX6_cut_44 (by decide) ?_
      cases h
      exact Jx4 _ _ _ hP hD hS (lv_sub hl [0] rfl)
  · replace h := ifp cq h
    refine lv_aload_n hx hb dX6_cut_16 rfl (lv_at hl 0 rfl) ?_
    refine lv_iconst (v := 1) hx hb dX6_cut_17 (by decide) ?_
    obtain ⟨⟨x10_1, x10_2⟩, hx10, h⟩ := bnd h
    refine pw_goi (wc := [(h6, .inr (6, [.int 0, .ref h6_ms, .ref h6_mv, .int svm, .ref h6_mb, .int mln, .ref h6_mc, .ref h6_mg, .ref h6_mt, .ref h6_ml, .int mat, .int wel, .ref h6_mr, .int rdm, .long hsh])), (h6_ms, .inl (cI, 253, .inl ms)), (h6_mv, .inl (cI, 1518, .inl mv)), (h6_mb, .inl (cI, 60, .inl mb)), (h6_mc, .inl (cI, 160, .inl mc)), (h6_mg, .inl (cI, 160, .inl mg)), (h6_mt, .inl (cI, 240, .inl mt)), (h6_ml, .inl (cI, 240, .inl ml)), (h6_mr, .inl (cI, 600, .inl mr))]) (w1 := [(h6, .inr (6, [.int x10_2, .ref h6_ms, .ref h6_mv, .int svm, .ref h6_mb, .int mln, .ref h6_mc, .ref h6_mg, .ref h6_mt, .ref h6_ml, .int mat, .int wel, .ref h6_mr, .int rdm, .long hsh])), (h6_ms, .inl (cI, 253, .inl ms)), (h6_mv, .inl (cI, 1518, .inl mv)), (h6_mb, .inl (cI, 60, .inl mb)), (h6_mc, .inl (cI, 160, .inl mc)), (h6_mg, .inl (cI, 160, .inl mg)), (h6_mt, .inl (cI, 240, .inl mt)), (h6_ml, .inl (cI, 240, .inl ml)), (h6_mr, .inl (cI, 600, .inl mr))]) (w2 := [(h6, .inr (6, [.int x10_2, .ref h6_ms, .ref h6_mv, .int svm, .ref h6_mb, .int mln, .ref h6_mc, .ref h6_mg, .ref h6_mt, .ref h6_ml, .int mat, .int wel, .ref h6_mr, .int rdm, .long hsh])), (h6_ms, .inl (cI, 253, .inl ms)), (h6_mv, .inl (cI, 1518, .inl mv)), (h6_mb, .inl (cI, 60, .inl mb)), (h6_mc, .inl (cI, 160, .inl mc)), (h6_mg, .inl (cI, 160, .inl mg)), (h6_mt, .inl (cI, 240, .inl mt)), (h6_ml, .inl (cI, 240, .inl ml)), (h6_mr, .inl (cI, 600, .inl mr))]) (va_runV (As := [.int 1]) (rest := []) ⟨hx, hb, hml, hown, hts⟩ (mX6_fails l D cI cO cJ h6 h6_ms h6_mv h6_mb h6_mc h6_mg h6_mt h6_ml h6_mr H.size 0 ms mv svm mb mln mc mg mt ml mat wel mr rdm hsh 1 _ hx10) (cwV 1 hts gX6_cut_X6_fails rfl rfl rfl (by decide +kernel) ⟨Nat.le_of_ble_eq_true rfl, Nat.le_of_ble_eq_true rfl⟩) (pw_preV hK hN (pw_sub hP [0, 1, 2, 3, 4, 5, 6, 7, 8] rfl) (pw_subD hD [0, 1, 2, 3, 4, 5, 6, 7, 8] (by decide) rfl) (ci := 6) (q0 := 0) rfl rfl) rfl rfl hl.1 rfl (lv_room (Nat.le_of_ble_eq_true rfl)) dX6_cut_18 ⟨Nat.zero_le _, Nat.zero_le _⟩) hP hD hS hA [0, 1, 2, 3, 4, 5, 6, 7, 8] [] [0, 1, 2, 3, 4, 5, 6, 7, 8] rfl rfl (by decide) (by decide) (by decide) rfl (fun H locs hP hD hS => ?_)
    cases h
    exact pw_iret hx hb hr hlocks hAe hQ hP hD hS dX6_cut_21
def fX6_grow_L72 (a1 : Int32) (a2 : Int32) (a3 : Int32) : Nat → Int32 → (Nat → Int32) → Option (Nat → Int32)
  | 0, _, _ => none
  | n + 1, v4_72, ms_72 =>
    if a2 ≤ v4_72 then
    some ms_72
    else
    if oob 0 253 then none else
    (if a3 ≤ 0 then
    some 0
    else
    if a3 = 0 then none else
    if ((ms_72 (0 : Int32).toNatClampNeg) - (ms_72 (0 : Int32).toNatClampNeg) / a3 * a3) = 0 then
    some 1
    else
    some 0 : Option Int32).bind fun x9 =>
    (fX6_classOf (ms_72 (0 : Int32).toNatClampNeg) a1 0).bind fun x10 =>
    if oob (13 + (ms_72 (0 : Int32).toNatClampNeg)) 253 then none else
    if oob 0 253 then none else
    if oob 0 253 then none else
    fX6_grow_L72 a1 a2 a3 n (v4_72 + 1) (upd (upd ms_72 ((13 + (ms_72 (0 : Int32).toNatClampNeg))).toNatClampNeg ((x10 + x9) - (x10 + x9) / 4 * 4)) (0 : Int32).toNatClampNeg (((upd ms_72 ((13 + (ms_72 (0 : Int32).toNatClampNeg))).toNatClampNeg ((x10 + x9) - (x10 + x9) / 4 * 4)) (0 : Int32).toNatClampNeg) + 1))
def fX6_grow (ms : Nat → Int32) (mv : Nat → Int32) (svm : Int32) (a1 : Int32) (a2 : Int32) (a3 : Int32) : Option (Int32 × Int32 × (Nat → Int32) × (Nat → Int32) × Int32) :=
  (fX6_in a1 10 400).bind fun x1 =>
  if x1 = 0 then
  (fX6_fails 1).bind fun (x2_1, x2_2) =>
  some (x2_1, x2_2, ms, mv, svm)
  else
  (fX6_in a2 1 240).bind fun x3 =>
  if x3 = 0 then
  (fX6_fails 1).bind fun (x4_1, x4_2) =>
  some (x4_1, x4_2, ms, mv, svm)
  else
  (fX6_in a3 0 240).bind fun x5 =>
  if x5 = 0 then
  (fX6_fails 1).bind fun (x18_1, x18_2) =>
  some (x18_1, x18_2, ms, mv, svm)
  else
  if oob 0 253 then none else
  if ((ms (0 : Int32).toNatClampNeg) + a2) ≤ 240 then
  (fX6_saves ms mv svm).bind fun (x7_1, x7_2) =>
  (fX6_grow_L72 a1 a2 a3 FU 0 ms).bind fun x15 =>
  if oob 0 253 then none else
  some ((x15 (0 : Int32).toNatClampNeg), 0, x15, x7_1, x7_2)
  else
  (fX6_fails 2).bind fun (x17_1, x17_2) =>
  some (x17_1, x17_2, ms, mv, svm)
abbrev rmX6_grow : Room := { frames := 1, cells := 0, slots := 0, locals := 22 }
set_option maxHeartbeats 4000000 in
set_option maxRecDepth 100000 in
theorem mX6_grow (l : Launch) (D : va_G) (cI cO cJ : ClassId) (h6 h6_ms h6_mv h6_mb h6_mc h6_mg h6_mt h6_ml h6_mr : Nat) (sz : Nat) (thr : Int32) (ms : Nat → Int32) (mv : Nat → Int32) (svm : Int32) (mb : Nat → Int32) (mln : Int32) (mc : Nat → Int32) (mg : Nat → Int32) (mt : Nat → Int32) (ml : Nat → Int32) (mat : Int32) (wel : Int32) (mr : Nat → Int32) (rdm : Int32) (hsh : Int64) (a1 : Int32) (a2 : Int32) (a3 : Int32) (z : Int32 × Int32 × (Nat → Int32) × (Nat → Int32) × Int32) (h : fX6_grow ms mv svm a1 a2 a3 = some z) : Met l yX6_grow wsX6_grow rmX6_grow (pw_pre D (tyL cI cO cJ) [.ref h6, .int a1, .int a2, .int a3] [(h6, .inr (6, [.int thr, .ref h6_ms, .ref h6_mv, .int svm, .ref h6_mb, .int mln, .ref h6_mc, .ref h6_mg, .ref h6_mt, .ref h6_ml, .int mat, .int wel, .ref h6_mr, .int rdm, .long hsh])), (h6_ms, .inl (cI, 253, .inl ms)), (h6_mv, .inl (cI, 1518, .inl mv)), (h6_mb, .inl (cI, 60, .inl mb)), (h6_mc, .inl (cI, 160, .inl mc)), (h6_mg, .inl (cI, 160, .inl mg)), (h6_mt, .inl (cI, 240, .inl mt)), (h6_ml, .inl (cI, 240, .inl ml)), (h6_mr, .inl (cI, 600, .inl mr))] sz) (pw_i D [(h6, .inr (6, [.int thr, .ref h6_ms, .ref h6_mv, .int svm, .ref h6_mb, .int mln, .ref h6_mc, .ref h6_mg, .ref h6_mt, .ref h6_ml, .int mat, .int wel, .ref h6_mr, .int rdm, .long hsh])), (h6_ms, .inl (cI, 253, .inl ms)), (h6_mv, .inl (cI, 1518, .inl mv)), (h6_mb, .inl (cI, 60, .inl mb)), (h6_mc, .inl (cI, 160, .inl mc)), (h6_mg, .inl (cI, 160, .inl mg)), (h6_mt, .inl (cI, 240, .inl mt)), (h6_ml, .inl (cI, 240, .inl ml)), (h6_mr, .inl (cI, 600, .inl mr))] [(h6, .inr (6, [.int z.2.1, .ref h6_ms, .ref h6_mv, .int z.2.2.2.2, .ref h6_mb, .int mln, .ref h6_mc, .ref h6_mg, .ref h6_mt, .ref h6_ml, .int mat, .int wel, .ref h6_mr, .int rdm, .long hsh])), (h6_ms, .inl (cI, 253, .inl z.2.2.1)), (h6_mv, .inl (cI, 1518, .inl z.2.2.2.1)), (h6_mb, .inl (cI, 60, .inl mb)), (h6_mc, .inl (cI, 160, .inl mc)), (h6_mg, .inl (cI, 160, .inl mg)), (h6_mt, .inl (cI, 240, .inl mt)), (h6_ml, .inl (cI, 240, .inl ml)), (h6_mr, .inl (cI, 600, .inl mr))] z.1 sz) 0 0 (va_A [(h6, .inr (6, [.int thr, .ref h6_ms, .ref h6_mv, .int svm, .ref h6_mb, .int mln, .ref h6_mc, .ref h6_mg, .ref h6_mt, .ref h6_ml, .int mat, .int wel, .ref h6_mr, .int rdm, .long hsh])), (h6_ms, .inl (cI, 253, .inl ms)), (h6_mv, .inl (cI, 1518, .inl mv)), (h6_mb, .inl (cI, 60, .inl mb)), (h6_mc, .inl (cI, 160, .inl mc)), (h6_mg, .inl (cI, 160, .inl mg)), (h6_mt, .inl (cI, 240, .inl mt)), (h6_ml, .inl (cI, 240, .inl ml)), (h6_mr, .inl (cI, 600, .inl mr))] sz) := by
  refine pw_of (Qc := fun sz => pw_i D [(h6, .inr (6, [.int thr, .ref h6_ms, .ref h6_mv, .int svm, .ref h6_mb, .int mln, .ref h6_mc, .ref h6_mg, .ref h6_mt, .ref h6_ml, .int mat, .int wel, .ref h6_mr, .int rdm, .long hsh])), (h6_ms, .inl (cI, 253, .inl ms)), (h6_mv, .inl (cI, 1518, .inl mv)), (h6_mb, .inl (cI, 60, .inl mb)), (h6_mc, .inl (cI, 160, .inl mc)), (h6_mg, .inl (cI, 160, .inl mg)), (h6_mt, .inl (cI, 240, .inl mt)), (h6_ml, .inl (cI, 240, .inl ml)), (h6_mr, .inl (cI, 600, .inl mr))] [(h6, .inr (6, [.int z.2.1, .ref h6_ms, .ref h6_mv, .int z.2.2.2.2, .ref h6_mb, .int mln, .ref h6_mc, .ref h6_mg, .ref h6_mt, .ref h6_ml, .int mat, .int wel, .ref h6_mr, .int rdm, .long hsh])), (h6_ms, .inl (cI, 253, .inl z.2.2.1)), (h6_mv, .inl (cI, 1518, .inl z.2.2.2.1)), (h6_mb, .inl (cI, 60, .inl mb)), (h6_mc, .inl (cI, 160, .inl mc)), (h6_mg, .inl (cI, 160, .inl mg)), (h6_mt, .inl (cI, 240, .inl mt)), (h6_ml, .inl (cI, 240, .inl ml)), (h6_mr, .inl (cI, 600, .inl mr))] z.1 sz) (cc := cX6_grow) (maxL := 7) (ret := (some .int)) (by decide) rfl (Nat.le_of_ble_eq_true rfl) ?_
  intro p e s m args below meth c A Q H ls hx hb hml hr hts hown hlocks hAe hQ hK hN hA hP hD hS hl
  have hown : s.vm.findClass RX6 = some m.cls := hown
  have hl : lv_has ls 7 [(0, .ref h6), (1, .int a1), (2, .int a2), (3, .int a3)] := hl
  have hP : va_P D vwCl ([(h6, .inr (6, [.int thr, .ref h6_ms, .ref h6_mv, .int svm, .ref h6_mb, .int mln, .ref h6_mc, .ref h6_mg, .ref h6_mt, .ref h6_ml, .int mat, .int wel, .ref h6_mr, .int rdm, .long hsh])), (h6_ms, .inl (cI, 253, .inl ms)), (h6_mv, .inl (cI, 1518, .inl mv)), (h6_mb, .inl (cI, 60, .inl mb)), (h6_mc, .inl (cI, 160, .inl mc)), (h6_mg, .inl (cI, 160, .inl mg)), (h6_mt, .inl (cI, 240, .inl mt)), (h6_ml, .inl (cI, 240, .inl ml)), (h6_mr, .inl (cI, 600, .inl mr))] ++ []) H := hP
  have hD : va_D A ([(h6, .inr (6, [.int thr, .ref h6_ms, .ref h6_mv, .int svm, .ref h6_mb, .int mln, .ref h6_mc, .ref h6_mg, .ref h6_mt, .ref h6_ml, .int mat, .int wel, .ref h6_mr, .int rdm, .long hsh])), (h6_ms, .inl (cI, 253, .inl ms)), (h6_mv, .inl (cI, 1518, .inl mv)), (h6_mb, .inl (cI, 60, .inl mb)), (h6_mc, .inl (cI, 160, .inl mc)), (h6_mg, .inl (cI, 160, .inl mg)), (h6_mt, .inl (cI, 240, .inl mt)), (h6_ml, .inl (cI, 240, .inl ml)), (h6_mr, .inl (cI, 600, .inl mr))] ++ []) := hD
  have iX6 : ∀ w ∈ u_ws RX6 TX6 15, w ∈ wsX6_grow := fun _ h => List.mem_cons_of_mem _ (List.mem_append_right _ h)
  unfold fX6_grow at h
  refine lv_aload_n hx hb dX6_grow_0 rfl (lv_at hl 0 rfl) ?_
  refine lv_iconst (v := 0) hx hb dX6_grow_1 (by decide) ?_
  refine va_put (D := D) (ci := 6) (v := .int 0) (ty := .int) (C := RX6) (T := TX6) (N := 15) hx hb hts iX6 tyX6 tyX6_ok nmX6 hown hK hP hD hS 0 rfl rfl 0 (by decide) (hts (.fieldLink RX6 34 "HiddenPeriodsModel" "thrown" "I") (by decide +kernel)) (fun _ h9 => h9) rfl (by decide +kernel) rfl rfl (Nat.le_of_ble_eq_true rfl) dX6_grow_2 (fun H locs hP hD hS => ?_)
  have hP : va_P D vwCl ([(h6, .inr (6, [.int 0, .ref h6_ms, .ref h6_mv, .int svm, .ref h6_mb, .int mln, .ref h6_mc, .ref h6_mg, .ref h6_mt, .ref h6_ml, .int mat, .int wel, .ref h6_mr, .int rdm, .long hsh])), (h6_ms, .inl (cI, 253, .inl ms)), (h6_mv, .inl (cI, 1518, .inl mv)), (h6_mb, .inl (cI, 60, .inl mb)), (h6_mc, .inl (cI, 160, .inl mc)), (h6_mg, .inl (cI, 160, .inl mg)), (h6_mt, .inl (cI, 240, .inl mt)), (h6_ml, .inl (cI, 240, .inl ml)), (h6_mr, .inl (cI, 600, .inl mr))] ++ []) H := hP
  have hD : va_D A ([(h6, .inr (6, [.int 0, .ref h6_ms, .ref h6_mv, .int svm, .ref h6_mb, .int mln, .ref h6_mc, .ref h6_mg, .ref h6_mt, .ref h6_ml, .int mat, .int wel, .ref h6_mr, .int rdm, .long hsh])), (h6_ms, .inl (cI, 253, .inl ms)), (h6_mv, .inl (cI, 1518, .inl mv)), (h6_mb, .inl (cI, 60, .inl mb)), (h6_mc, .inl (cI, 160, .inl mc)), (h6_mg, .inl (cI, 160, .inl mg)), (h6_mt, .inl (cI, 240, .inl mt)), (h6_ml, .inl (cI, 240, .inl ml)), (h6_mr, .inl (cI, 600, .inl mr))] ++ []) := hD
  refine lv_iload_n hx hb dX6_grow_5 rfl (lv_at hl 1 rfl) ?_
  refine lv_bipush (v := 10) hx hb dX6_grow_6 (by decide) ?_
  refine lv_sipush (v := 400) hx hb dX6_grow_8 (by decide) ?_
  obtain ⟨x1, hx1, h⟩ := bnd h
  refine pw_go0 (va_runS (As := [.int a1, .int 10, .int 400]) (rest := []) ⟨hx, hb, hml, hown, hts⟩ (mX6_in l D cI cO cJ H.size a1 10 400 _ hx1) (va_cwS 3 hts gX6_grow_X6_in rfl rfl rfl (by decide +kernel) ⟨Nat.le_of_ble_eq_true rfl, Nat.le_of_ble_eq_true rfl⟩) (pw_preS hK hN pw_nilP (pw_nilD (A := A))) rfl rfl hl.1 rfl (lv_room (Nat.le_of_ble_eq_true rfl)) dX6_grow_11 ⟨Nat.zero_le _, Nat.zero_le _⟩) hP hS hA (fun H locs hP hS => ?_)
  refine lv_if_eq (tgt := 39) hx hb dX6_grow_14 (by decide) (fun cq => ?_) (fun cq => ?_)
  · replace h := ifp cq h
    refine lv_aload_n hx hb dX6_grow_39 rfl (lv_at hl 0 rfl) ?_
    refine lv_iconst (v := 1) hx hb dX6_grow_40 (by decide) ?_
    obtain ⟨⟨x2_1, x2_2⟩, hx2, h⟩ := bnd h
    refine pw_goi (wc := [(h6, .inr (6, [.int 0, .ref h6_ms, .ref h6_mv, .int svm, .ref h6_mb, .int mln, .ref h6_mc, .ref h6_mg, .ref h6_mt, .ref h6_ml, .int mat, .int wel, .ref h6_mr, .int rdm, .long hsh])), (h6_ms, .inl (cI, 253, .inl ms)), (h6_mv, .inl (cI, 1518, .inl mv)), (h6_mb, .inl (cI, 60, .inl mb)), (h6_mc, .inl (cI, 160, .inl mc)), (h6_mg, .inl (cI, 160, .inl mg)), (h6_mt, .inl (cI, 240, .inl mt)), (h6_ml, .inl (cI, 240, .inl ml)), (h6_mr, .inl (cI, 600, .inl mr))]) (w1 := [(h6, .inr (6, [.int x2_2, .ref h6_ms, .ref h6_mv, .int svm, .ref h6_mb, .int mln, .ref h6_mc, .ref h6_mg, .ref h6_mt, .ref h6_ml, .int mat, .int wel, .ref h6_mr, .int rdm, .long hsh])), (h6_ms, .inl (cI, 253, .inl ms)), (h6_mv, .inl (cI, 1518, .inl mv)), (h6_mb, .inl (cI, 60, .inl mb)), (h6_mc, .inl (cI, 160, .inl mc)), (h6_mg, .inl (cI, 160, .inl mg)), (h6_mt, .inl (cI, 240, .inl mt)), (h6_ml, .inl (cI, 240, .inl ml)), (h6_mr, .inl (cI, 600, .inl mr))]) (w2 := [(h6, .inr (6, [.int x2_2, .ref h6_ms, .ref h6_mv, .int svm, .ref h6_mb, .int mln, .ref h6_mc, .ref h6_mg, .ref h6_mt, .ref h6_ml, .int mat, .int wel, .ref h6_mr, .int rdm, .long hsh])), (h6_ms, .inl (cI, 253, .inl ms)), (h6_mv, .inl (cI, 1518, .inl mv)), (h6_mb, .inl (cI, 60, .inl mb)), (h6_mc, .inl (cI, 160, .inl mc)), (h6_mg, .inl (cI, 160, .inl mg)), (h6_mt, .inl (cI, 240, .inl mt)), (h6_ml, .inl (cI, 240, .inl ml)), (h6_mr, .inl (cI, 600, .inl mr))]) (va_runV (As := [.int 1]) (rest := []) ⟨hx, hb, hml, hown, hts⟩ (mX6_fails l D cI cO cJ h6 h6_ms h6_mv h6_mb h6_mc h6_mg h6_mt h6_ml h6_mr H.size 0 ms mv svm mb mln mc mg mt ml mat wel mr rdm hsh 1 _ hx2) (cwV 1 hts gX6_grow_X6_fails rfl rfl rfl (by decide +kernel) ⟨Nat.le_of_ble_eq_true rfl, Nat.le_of_ble_eq_true rfl⟩) (pw_preV hK hN (pw_sub hP [0, 1, 2, 3, 4, 5, 6, 7, 8] rfl) (pw_subD hD [0, 1, 2, 3, 4, 5, 6, 7, 8] (by decide) rfl) (ci := 6) (q0 := 0) rfl rfl) rfl rfl hl.1 rfl (lv_room (Nat.le_of_ble_eq_true rfl)) dX6_grow_41 ⟨Nat.zero_le _, Nat.zero_le _⟩) hP hD hS hA [0, 1, 2, 3, 4, 5, 6, 7, 8] [] [0, 1, 2, 3, 4, 5, 6, 7, 8] rfl rfl (by decide) (by decide) (by decide) rfl (fun H locs hP hD hS => ?_)
    cases h
    exact pw_iret hx hb hr hlocks hAe hQ hP hD hS dX6_grow_44
  · replace h := ifn cq h
    refine lv_iload_n hx hb dX6_grow_17 rfl (lv_at hl 2 rfl) ?_
    refine lv_iconst (v := 1) hx hb dX6_grow_18 (by decide) ?_
    refine lv_sipush (v := 240) hx hb dX6_grow_19 (by decide) ?_
    obtain ⟨x3, hx3, h⟩ := bnd h
    refine pw_go0 (va_runS (As := [.int a2, .int 1, .int 240]) (rest := []) ⟨hx, hb, hml, hown, hts⟩ (mX6_in l D cI cO cJ H.size a2 1 240 _ hx3) (va_cwS 3 hts gX6_grow_X6_in rfl rfl rfl (by decide +kernel) ⟨Nat.le_of_ble_eq_true rfl, Nat.le_of_ble_eq_true rfl⟩) (pw_preS hK hN pw_nilP (pw_nilD (A := A))) rfl rfl hl.1 rfl (lv_room (Nat.le_of_ble_eq_true rfl)) dX6_grow_22 ⟨Nat.zero_le _, Nat.zero_le _⟩) hP hS hA (fun H locs hP hS => ?_)
    refine lv_if_eq (tgt := 39) hx hb dX6_grow_25 (by decide) (fun cq => ?_) (fun cq => ?_)
    · replace h := ifp cq h
      refine lv_aload_n hx hb dX6_grow_39 rfl (lv_at hl 0 rfl) ?_
      refine lv_iconst (v := 1) hx hb dX6_grow_40 (by decide) ?_
      obtain ⟨⟨x4_1, x4_2⟩, hx4, h⟩ := bnd h
      refine pw_goi (wc := [(h6, .inr (6, [.int 0, .ref h6_ms, .ref h6_mv, .int svm, .ref h6_mb, .int mln, .ref h6_mc, .ref h6_mg, .ref h6_mt, .ref h6_ml, .int mat, .int wel, .ref h6_mr, .int rdm, .long hsh])), (h6_ms, .inl (cI, 253, .inl ms)), (h6_mv, .inl (cI, 1518, .inl mv)), (h6_mb, .inl (cI, 60, .inl mb)), (h6_mc, .inl (cI, 160, .inl mc)), (h6_mg, .inl (cI, 160, .inl mg)), (h6_mt, .inl (cI, 240, .inl mt)), (h6_ml, .inl (cI, 240, .inl ml)), (h6_mr, .inl (cI, 600, .inl mr))]) (w1 := [(h6, .inr (6, [.int x4_2, .ref h6_ms, .ref h6_mv, .int svm, .ref h6_mb, .int mln, .ref h6_mc, .ref h6_mg, .ref h6_mt, .ref h6_ml, .int mat, .int wel, .ref h6_mr, .int rdm, .long hsh])), (h6_ms, .inl (cI, 253, .inl ms)), (h6_mv, .inl (cI, 1518, .inl mv)), (h6_mb, .inl (cI, 60, .inl mb)), (h6_mc, .inl (cI, 160, .inl mc)), (h6_mg, .inl (cI, 160, .inl mg)), (h6_mt, .inl (cI, 240, .inl mt)), (h6_ml, .inl (cI, 240, .inl ml)), (h6_mr, .inl (cI, 600, .inl mr))]) (w2 := [(h6, .inr (6, [.int x4_2, .ref h6_ms, .ref h6_mv, .int svm, .ref h6_mb, .int mln, .ref h6_mc, .ref h6_mg, .ref h6_mt, .ref h6_ml, .int mat, .int wel, .ref h6_mr, .int rdm, .long hsh])), (h6_ms, .inl (cI, 253, .inl ms)), (h6_mv, .inl (cI, 1518, .inl mv)), (h6_mb, .inl (cI, 60, .inl mb)), (h6_mc, .inl (cI, 160, .inl mc)), (h6_mg, .inl (cI, 160, .inl mg)), (h6_mt, .inl (cI, 240, .inl mt)), (h6_ml, .inl (cI, 240, .inl ml)), (h6_mr, .inl (cI, 600, .inl mr))]) (va_runV (As := [.int 1]) (rest := []) ⟨hx, hb, hml, hown, hts⟩ (mX6_fails l D cI cO cJ h6 h6_ms h6_mv h6_mb h6_mc h6_mg h6_mt h6_ml h6_mr H.size 0 ms mv svm mb mln mc mg mt ml mat wel mr rdm hsh 1 _ hx4) (cwV 1 hts gX6_grow_X6_fails rfl rfl rfl (by decide +kernel) ⟨Nat.le_of_ble_eq_true rfl, Nat.le_of_ble_eq_true rfl⟩) (pw_preV hK hN (pw_sub hP [0, 1, 2, 3, 4, 5, 6, 7, 8] rfl) (pw_subD hD [0, 1, 2, 3, 4, 5, 6, 7, 8] (by decide) rfl) (ci := 6) (q0 := 0) rfl rfl) rfl rfl hl.1 rfl (lv_room (Nat.le_of_ble_eq_true rfl)) dX6_grow_41 ⟨Nat.zero_le _, Nat.zero_le _⟩) hP hD hS hA [0, 1, 2, 3, 4, 5, 6, 7, 8] [] [0, 1, 2, 3, 4, 5, 6, 7, 8] rfl rfl (by decide) (by decide) (by decide) rfl (fun H locs hP hD hS => ?_)
      cases h
      exact pw_iret hx hb hr hlocks hAe hQ hP hD hS dX6_grow_44
    · replace h := ifn cq h
      refine lv_iload_n hx hb dX6_grow_28 rfl (lv_at hl 3 rfl) ?_
      refine lv_iconst (v := 0) hx hb dX6_grow_29 (by decide) ?_
      refine lv_sipush (v := 240) hx hb dX6_grow_30 (by decide) ?_
      obtain ⟨x5, hx5, h⟩ := bnd h
      refine pw_go0 (va_runS (As := [.int a3, .int 0, .int 240]) (rest := []) ⟨hx, hb, hml, hown, hts⟩ (mX6_in l D cI cO cJ H.size a3 0 240 _ hx5) (va_cwS 3 hts gX6_grow_X6_in rfl rfl rfl (by decide +kernel) ⟨Nat.le_of_ble_eq_true rfl, Nat.le_of_ble_eq_true rfl⟩) (pw_preS hK hN pw_nilP (pw_nilD (A := A))) rfl rfl hl.1 rfl (lv_room (Nat.le_of_ble_eq_true rfl)) dX6_grow_33 ⟨Nat.zero_le _, Nat.zero_le _⟩) hP hS hA (fun H locs hP hS => ?_)
      refine lv_if_ne (tgt := 45) hx hb dX6_grow_36 (by decide) (fun cq => ?_) (fun cq => ?_)
      · replace h := ifn cq h
        refine lv_aload_n hx hb dX6_grow_45 rfl (lv_at hl 0 rfl) ?_
        refine va_get (D := D) (ci := 6) (v := .ref h6_ms) (C := RX6) (T := TX6) (N := 15) hx hb hts iX6 hown hK hP 0 rfl rfl 1 (by decide) (hts (.fieldLink RX6 7 "HiddenPeriodsModel" "s" "[I") (by decide +kernel)) (fun _ h9 => h9) rfl dX6_grow_46 ?_
        refine lv_iconst (v := 0) hx hb dX6_grow_49 (by decide) ?_
        obtain ⟨g6, h⟩ := gdn h
        refine va_iald hx hb hK hP 1 0 rfl rfl g6 dX6_grow_50 ?_
        refine lv_iload_n hx hb dX6_grow_51 rfl (lv_at hl 2 rfl) ?_
        refine lv_iadd hx hb dX6_grow_52 ?_
        refine lv_sipush (v := 240) hx hb dX6_grow_53 (by decide) ?_
        refine lv_icmp_le (tgt := 65) hx hb dX6_grow_56 (by decide) (fun cq => ?_) (fun cq => ?_)
        · replace h := ifp cq h
          refine lv_aload_n hx hb dX6_grow_65 rfl (lv_at hl 0 rfl) ?_
          obtain ⟨⟨x7_1, x7_2⟩, hx7, h⟩ := bnd h
          refine pw_gov (wc := [(h6, .inr (6, [.int 0, .ref h6_ms, .ref h6_mv, .int svm, .ref h6_mb, .int mln, .ref h6_mc, .ref h6_mg, .ref h6_mt, .ref h6_ml, .int mat, .int wel, .ref h6_mr, .int rdm, .long hsh])), (h6_ms, .inl (cI, 253, .inl ms)), (h6_mv, .inl (cI, 1518, .inl mv)), (h6_mb, .inl (cI, 60, .inl mb)), (h6_mc, .inl (cI, 160, .inl mc)), (h6_mg, .inl (cI, 160, .inl mg)), (h6_mt, .inl (cI, 240, .inl mt)), (h6_ml, .inl (cI, 240, .inl ml)), (h6_mr, .inl (cI, 600, .inl mr))]) (w1 := [(h6, .inr (6, [.int 0, .ref h6_ms, .ref h6_mv, .int x7_2, .ref h6_mb, .int mln, .ref h6_mc, .ref h6_mg, .ref h6_mt, .ref h6_ml, .int mat, .int wel, .ref h6_mr, .int rdm, .long hsh])), (h6_ms, .inl (cI, 253, .inl ms)), (h6_mv, .inl (cI, 1518, .inl x7_1)), (h6_mb, .inl (cI, 60, .inl mb)), (h6_mc, .inl (cI, 160, .inl mc)), (h6_mg, .inl (cI, 160, .inl mg)), (h6_mt, .inl (cI, 240, .inl mt)), (h6_ml, .inl (cI, 240, .inl ml)), (h6_mr, .inl (cI, 600, .inl mr))]) (w2 := [(h6, .inr (6, [.int 0, .ref h6_ms, .ref h6_mv, .int x7_2, .ref h6_mb, .int mln, .ref h6_mc, .ref h6_mg, .ref h6_mt, .ref h6_ml, .int mat, .int wel, .ref h6_mr, .int rdm, .long hsh])), (h6_ms, .inl (cI, 253, .inl ms)), (h6_mv, .inl (cI, 1518, .inl x7_1)), (h6_mb, .inl (cI, 60, .inl mb)), (h6_mc, .inl (cI, 160, .inl mc)), (h6_mg, .inl (cI, 160, .inl mg)), (h6_mt, .inl (cI, 240, .inl mt)), (h6_ml, .inl (cI, 240, .inl ml)), (h6_mr, .inl (cI, 600, .inl mr))]) (va_runV (As := []) (rest := []) ⟨hx, hb, hml, hown, hts⟩ (mX6_saves l D cI cO cJ h6 h6_ms h6_mv h6_mb h6_mc h6_mg h6_mt h6_ml h6_mr H.size 0 ms mv svm mb mln mc mg mt ml mat wel mr rdm hsh _ hx7) (cwV 0 hts gX6_grow_X6_saves rfl rfl rfl (by decide +kernel) ⟨Nat.le_of_ble_eq_true rfl, Nat.le_of_ble_eq_true rfl⟩) (pw_preV hK hN (pw_sub hP [0, 1, 2, 3, 4, 5, 6, 7, 8] rfl) (pw_subD hD [0, 1, 2, 3, 4, 5, 6, 7, 8] (by decide) rfl) (ci := 6) (q0 := 0) rfl rfl) rfl rfl hl.1 rfl (lv_room (Nat.le_of_ble_eq_true rfl)) dX6_grow_66 ⟨Nat.zero_le _, Nat.zero_le _⟩) hP hD hS hA [0, 1, 2, 3, 4, 5, 6, 7, 8] [] [0, 1, 2, 3, 4, 5, 6, 7, 8] rfl rfl (by decide) (by decide) (by decide) rfl (fun H locs hP hD hS => ?_)
          refine lv_iconst (v := 0) hx hb dX6_grow_69 (by decide) ?_
          refine lv_istore (lv' := [(4, .int 0), (0, .ref h6), (1, .int a1), (2, .int a2), (3, .int a3)]) hx hb dX6_grow_70 hl (by decide) rfl (fun ls hl => ?_)
          have L72 : ∀ (n : Nat) (v4_72 : Int32) (ms_72 : Nat → Int32) (o72_1 : Nat → Int32) (H : Heap) (locs : List Loc) (ls : Array Slot), fX6_grow_L72 a1 a2 a3 n v4_72 ms_72 = some o72_1 → va_P D vwCl ([(h6, .inr (6, [.int 0, .ref h6_ms, .ref h6_mv, .int x7_2, .ref h6_mb, .int mln, .ref h6_mc, .ref h6_mg, .ref h6_mt, .ref h6_ml, .int mat, .int wel, .ref h6_mr, .int rdm, .long hsh])), (h6_ms, .inl (cI, 253, .inl ms_72)), (h6_mv, .inl (cI, 1518, .inl x7_1)), (h6_mb, .inl (cI, 60, .inl mb)), (h6_mc, .inl (cI, 160, .inl mc)), (h6_mg, .inl (cI, 160, .inl mg)), (h6_mt, .inl (cI, 240, .inl mt)), (h6_ml, .inl (cI, 240, .inl ml)), (h6_mr, .inl (cI, 600, .inl mr))] ++ []) H → va_D A ([(h6, .inr (6, [.int 0, .ref h6_ms, .ref h6_mv, .int x7_2, .ref h6_mb, .int mln, .ref h6_mc, .ref h6_mg, .ref h6_mt, .ref h6_ml, .int mat, .int wel, .ref h6_mr, .int rdm, .long hsh])), (h6_ms, .inl (cI, 253, .inl ms_72)), (h6_mv, .inl (cI, 1518, .inl x7_1)), (h6_mb, .inl (cI, 60, .inl mb)), (h6_mc, .inl (cI, 160, .inl mc)), (h6_mg, .inl (cI, 160, .inl mg)), (h6_mt, .inl (cI, 240, .inl mt)), (h6_ml, .inl (cI, 240, .inl ml)), (h6_mr, .inl (cI, 600, .inl mr))] ++ []) → va_S A s.heap H locs → lv_has ls 7 [(0, .ref h6), (1, .int a1), (2, .int a2), (3, .int a3), (4, .int v4_72)] → (∀ (H : Heap) (locs : List Loc) (ls : Array Slot), va_P D vwCl ([(h6, .inr (6, [.int 0, .ref h6_ms, .ref h6_mv, .int x7_2, .ref h6_mb, .int mln, .ref h6_mc, .ref h6_mg, .ref h6_mt, .ref h6_ml, .int mat, .int wel, .ref h6_mr, .int rdm, .long hsh])), (h6_ms, .inl (cI, 253, .inl o72_1)), (h6_mv, .inl (cI, 1518, .inl x7_1)), (h6_mb, .inl (cI, 60, .inl mb)), (h6_mc, .inl (cI, 160, .inl mc)), (h6_mg, .inl (cI, 160, .inl mg)), (h6_mt, .inl (cI, 240, .inl mt)), (h6_ml, .inl (cI, 240, .inl ml)), (h6_mr, .inl (cI, 600, .inl mr))] ++ []) H → va_D A ([(h6, .inr (6, [.int 0, .ref h6_ms, .ref h6_mv, .int x7_2, .ref h6_mb, .int mln, .ref h6_mc, .ref h6_mg, .ref h6_mt, .ref h6_ml, .int mat, .int wel, .ref h6_mr, .int rdm, .long hsh])), (h6_ms, .inl (cI, 253, .inl o72_1)), (h6_mv, .inl (cI, 1518, .inl x7_1)), (h6_mb, .inl (cI, 60, .inl mb)), (h6_mc, .inl (cI, 160, .inl mc)), (h6_mg, .inl (cI, 160, .inl mg)), (h6_mt, .inl (cI, 240, .inl mt)), (h6_ml, .inl (cI, 240, .inl ml)), (h6_mr, .inl (cI, 600, .inl mr))] ++ []) → va_S A s.heap H locs → lv_has ls 7 [(0, .ref h6)] → W p l e rmX6_grow s m args below meth c H locs 0 0 Q (F0 m 142 ls [])) → W p l e rmX6_grow s m args below meth c H locs 0 0 Q (F0 m 72 ls []) := by
            intro n
            induction n with
            | zero =>
              intro v4_72 ms_72 o72_1 H locs ls h
              rw [fX6_grow_L72] at h
              cases h
            | succ n ih =>
              intro v4_72 ms_72 o72_1 H locs ls h hP hD hS hl K
              rw [fX6_grow_L72] at h
              refine lv_iload hx hb dX6_grow_72 (lv_at hl 4 rfl) ?_
              refine lv_iload_n hx hb dX6_grow_74 rfl (lv_at hl 2 rfl) ?_
              refine lv_icmp_ge (tgt := 142) hx hb dX6_grow_75 (by decide) (fun cq => ?_) (fun cq => ?_)
              · replace h := ifp cq h
                cases h
                exact K _ _ _ hP hD hS (lv_sub hl [0] rfl)
              · replace h := ifn cq h
                refine lv_aload_n hx hb dX6_grow_78 rfl (lv_at hl 0 rfl) ?_
                refine va_get (D := D) (ci := 6) (v := .ref h6_ms) (C := RX6) (T := TX6) (N := 15) hx hb hts iX6 hown hK hP 0 rfl rfl 1 (by decide) (hts (.fieldLink RX6 7 "HiddenPeriodsModel" "s" "[I") (by decide +kernel)) (fun _ h9 => h9) rfl dX6_grow_79 ?_
                refine lv_iconst (v := 0) hx hb dX6_grow_82 (by decide) ?_
                obtain ⟨g8, h⟩ := gdn h
                refine va_iald hx hb hK hP 1 0 rfl rfl g8 dX6_grow_83 ?_
                refine lv_istore (lv' := [(5, .int (ms_72 (0 : Int32).toNatClampNeg)), (0, .ref h6), (1, .int a1), (2, .int a2), (3, .int a3), (4, .int v4_72)]) hx hb dX6_grow_84 hl (by decide) rfl (fun ls hl => ?_)
                refine lv_iload_n hx hb dX6_grow_86 rfl (lv_at hl 4 rfl) ?_
                obtain ⟨x9, hx9, h⟩ := bnd h
                have Jx9 : ∀ (H : Heap) (locs : List Loc) (ls : Array Slot), va_P D vwCl ([(h6, .inr (6, [.int 0, .ref h6_ms, .ref h6_mv, .int x7_2, .ref h6_mb, .int mln, .ref h6_mc, .ref h6_mg, .ref h6_mt, .ref h6_ml, .int mat, .int wel, .ref h6_mr, .int rdm, .long hsh])), (h6_ms, .inl (cI, 253, .inl ms_72)), (h6_mv, .inl (cI, 1518, .inl x7_1)), (h6_mb, .inl (cI, 60, .inl mb)), (h6_mc, .inl (cI, 160, .inl mc)), (h6_mg, .inl (cI, 160, .inl mg)), (h6_mt, .inl (cI, 240, .inl mt)), (h6_ml, .inl (cI, 240, .inl ml)), (h6_mr, .inl (cI, 600, .inl mr))] ++ []) H → va_D A ([(h6, .inr (6, [.int 0, .ref h6_ms, .ref h6_mv, .int x7_2, .ref h6_mb, .int mln, .ref h6_mc, .ref h6_mg, .ref h6_mt, .ref h6_ml, .int mat, .int wel, .ref h6_mr, .int rdm, .long hsh])), (h6_ms, .inl (cI, 253, .inl ms_72)), (h6_mv, .inl (cI, 1518, .inl x7_1)), (h6_mb, .inl (cI, 60, .inl mb)), (h6_mc, .inl (cI, 160, .inl mc)), (h6_mg, .inl (cI, 160, .inl mg)), (h6_mt, .inl (cI, 240, .inl mt)), (h6_ml, .inl (cI, 240, .inl ml)), (h6_mr, .inl (cI, 600, .inl mr))] ++ []) → va_S A s.heap H locs → lv_has ls 7 [(0, .ref h6), (1, .int a1), (2, .int a2), (3, .int a3), (4, .int v4_72), (5, .int (ms_72 (0 : Int32).toNatClampNeg))] → W p l e rmX6_grow s m args below meth c H locs 0 0 Q (F0 m 102 ls [.int x9]) := by
                  intro H locs ls hP hD hS hl
                  refine lv_istore (lv' := [(6, .int x9), (0, .ref h6), (1, .int a1), (2, .int a2), (3, .int a3), (4, .int v4_72), (5, .int (ms_72 (0 : Int32).toNatClampNeg))]) hx hb dX6_grow_102 hl (by decide) rfl (fun ls hl => ?_)
                  refine lv_aload_n hx hb dX6_grow_104 rfl (lv_at hl 1 rfl) ?_
                  refine va_get (D := D) (ci := 6) (v := .ref h6_ms) (C := RX6) (T := TX6) (N := 15) hx hb hts iX6 hown hK hP 0 rfl rfl 1 (by decide) (hts (.fieldLink RX6 7 "HiddenPeriodsModel" "s" "[I") (by decide +kernel)) (fun _ h9 => h9) rfl dX6_grow_105 ?_
                  refine lv_bipush (v := 13) hx hb dX6_grow_108 (by decide) ?_
                  refine lv_iload hx hb dX6_grow_110 (lv_at hl 6 rfl) ?_
                  refine lv_iadd hx hb dX6_grow_112 ?_
                  refine lv_iload hx hb dX6_grow_113 (lv_at hl 6 rfl) ?_
                  refine lv_iload_n hx hb dX6_grow_115 rfl (lv_at hl 2 rfl) ?_
                  refine lv_iconst (v := 0) hx hb dX6_grow_116 (by decide) ?_
                  obtain ⟨x10, hx10, h⟩ := bnd h
                  refine pw_go0 (va_runS (As := [.int (ms_72 (0 : Int32).toNatClampNeg), .int a1, .int 0]) (rest := [.int (13 + (ms_72 (0 : Int32).toNatClampNeg)), .ref h6_ms]) ⟨hx, hb, hml, hown, hts⟩ (mX6_classOf l D cI cO cJ H.size (ms_72 (0 : Int32).toNatClampNeg) a1 0 _ hx10) (va_cwS 3 hts gX6_grow_X6_classOf rfl rfl rfl (by decide +kernel) ⟨Nat.le_of_ble_eq_true rfl, Nat.le_of_ble_eq_true rfl⟩) (pw_preS hK hN pw_nilP (pw_nilD (A := A))) rfl rfl hl.1 rfl (lv_room (Nat.le_of_ble_eq_true rfl)) dX6_grow_117 ⟨Nat.zero_le _, Nat.zero_le _⟩) hP hS hA (fun H locs hP hS => ?_)
                  refine lv_iload hx hb dX6_grow_120 (lv_at hl 0 rfl) ?_
                  refine lv_iadd hx hb dX6_grow_122 ?_
                  refine lv_iconst (v := 4) hx hb dX6_grow_123 (by decide) ?_
                  refine lv_irem hx hb dX6_grow_124 (by decide) ?_
                  obtain ⟨g11, h⟩ := gdn h
                  refine va_iast hx hb hK hP hD hS 1 0 rfl rfl g11 dX6_grow_125 (fun H locs hP hD hS => ?_)
                  have hP : va_P D vwCl ([(h6, .inr (6, [.int 0, .ref h6_ms, .ref h6_mv, .int x7_2, .ref h6_mb, .int mln, .ref h6_mc, .ref h6_mg, .ref h6_mt, .ref h6_ml, .int mat, .int wel, .ref h6_mr, .int rdm, .long hsh])), (h6_ms, .inl (cI, 253, .inl (upd ms_72 ((13 + (ms_72 (0 : Int32).toNatClampNeg))).toNatClampNeg ((x10 + x9) - (x10 + x9) / 4 * 4)))), (h6_mv, .inl (cI, 1518, .inl x7_1)), (h6_mb, .inl (cI, 60, .inl mb)), (h6_mc, .inl (cI, 160, .inl mc)), (h6_mg, .inl (cI, 160, .inl mg)), (h6_mt, .inl (cI, 240, .inl mt)), (h6_ml, .inl (cI, 240, .inl ml)), (h6_mr, .inl (cI, 600, .inl mr))] ++ []) H := hP
                  have hD : va_D A ([(h6, .inr (6, [.int 0, .ref h6_ms, .ref h6_mv, .int x7_2, .ref h6_mb, .int mln, .ref h6_mc, .ref h6_mg, .ref h6_mt, .ref h6_ml, .int mat, .int wel, .ref h6_mr, .int rdm, .long hsh])), (h6_ms, .inl (cI, 253, .inl (upd ms_72 ((13 + (ms_72 (0 : Int32).toNatClampNeg))).toNatClampNeg ((x10 + x9) - (x10 + x9) / 4 * 4)))), (h6_mv, .inl (cI, 1518, .inl x7_1)), (h6_mb, .inl (cI, 60, .inl mb)), (h6_mc, .inl (cI, 160, .inl mc)), (h6_mg, .inl (cI, 160, .inl mg)), (h6_mt, .inl (cI, 240, .inl mt)), (h6_ml, .inl (cI, 240, .inl ml)), (h6_mr, .inl (cI, 600, .inl mr))] ++ []) := hD
                  refine lv_aload_n hx hb dX6_grow_126 rfl (lv_at hl 1 rfl) ?_
                  refine va_get (D := D) (ci := 6) (v := .ref h6_ms) (C := RX6) (T := TX6) (N := 15) hx hb hts iX6 hown hK hP 0 rfl rfl 1 (by decide) (hts (.fieldLink RX6 7 "HiddenPeriodsModel" "s" "[I") (by decide +kernel)) (fun _ h9 => h9) rfl dX6_grow_127 ?_
                  refine lv_iconst (v := 0) hx hb dX6_grow_130 (by decide) ?_
                  refine lv_dup2_11 hx hb dX6_grow_131 rfl rfl ?_
                  obtain ⟨g12, h⟩ := gdn h
                  refine va_iald hx hb hK hP 1 0 rfl rfl g12 dX6_grow_132 ?_
                  refine lv_iconst (v := 1) hx hb dX6_grow_133 (by decide) ?_
                  refine lv_iadd hx hb dX6_grow_134 ?_
                  obtain ⟨g13, h⟩ := gdn h
                  refine va_iast hx hb hK hP hD hS 1 0 rfl rfl g13 dX6_grow_135 (fun H locs hP hD hS => ?_)
                  have hP : va_P D vwCl ([(h6, .inr (6, [.int 0, .ref h6_ms, .ref h6_mv, .int x7_2, .ref h6_mb, .int mln, .ref h6_mc, .ref h6_mg, .ref h6_mt, .ref h6_ml, .int mat, .int wel, .ref h6_mr, .int rdm, .long hsh])), (h6_ms, .inl (cI, 253, .inl (upd (upd ms_72 ((13 + (ms_72 (0 : Int32).toNatClampNeg))).toNatClampNeg ((x10 + x9) - (x10 + x9) / 4 * 4)) (0 : Int32).toNatClampNeg (((upd ms_72 ((13 + (ms_72 (0 : Int32).toNatClampNeg))).toNatClampNeg ((x10 + x9) - (x10 + x9) / 4 * 4)) (0 : Int32).toNatClampNeg) + 1)))), (h6_mv, .inl (cI, 1518, .inl x7_1)), (h6_mb, .inl (cI, 60, .inl mb)), (h6_mc, .inl (cI, 160, .inl mc)), (h6_mg, .inl (cI, 160, .inl mg)), (h6_mt, .inl (cI, 240, .inl mt)), (h6_ml, .inl (cI, 240, .inl ml)), (h6_mr, .inl (cI, 600, .inl mr))] ++ []) H := hP
                  have hD : va_D A ([(h6, .inr (6, [.int 0, .ref h6_ms, .ref h6_mv, .int x7_2, .ref h6_mb, .int mln, .ref h6_mc, .ref h6_mg, .ref h6_mt, .ref h6_ml, .int mat, .int wel, .ref h6_mr, .int rdm, .long hsh])), (h6_ms, .inl (cI, 253, .inl (upd (upd ms_72 ((13 + (ms_72 (0 : Int32).toNatClampNeg))).toNatClampNeg ((x10 + x9) - (x10 + x9) / 4 * 4)) (0 : Int32).toNatClampNeg (((upd ms_72 ((13 + (ms_72 (0 : Int32).toNatClampNeg))).toNatClampNeg ((x10 + x9) - (x10 + x9) / 4 * 4)) (0 : Int32).toNatClampNeg) + 1)))), (h6_mv, .inl (cI, 1518, .inl x7_1)), (h6_mb, .inl (cI, 60, .inl mb)), (h6_mc, .inl (cI, 160, .inl mc)), (h6_mg, .inl (cI, 160, .inl mg)), (h6_mt, .inl (cI, 240, .inl mt)), (h6_ml, .inl (cI, 240, .inl ml)), (h6_mr, .inl (cI, 600, .inl mr))] ++ []) := hD
                  refine lv_iinc (v := (v4_72 + 1)) (lv' := [(4, .int (v4_72 + 1)), (6, .int x9), (0, .ref h6), (1, .int a1), (2, .int a2), (3, .int a3), (5, .int (ms_72 (0 : Int32).toNatClampNeg))]) hx hb dX6_grow_136 hl (k := 5) rfl rfl (by decide) rfl (fun ls hl => ?_)
                  refine lv_goto (tgt := 72) hx hb dX6_grow_139 (by decide) ?_
                  exact ih _ _ _ _ _ _ h hP hD hS (lv_sub hl [2, 3, 4, 5, 0] rfl) K
                replace h := hx9
                refine lv_if_le (tgt := 101) hx hb dX6_grow_87 (by decide) (fun cq => ?_) (fun cq => ?_)
                · replace h := ifp cq h
                  refine lv_iconst (v := 0) hx hb dX6_grow_101 (by decide) ?_
                  cases h
                  exact Jx9 _ _ _ hP hD hS (lv_sub hl [1, 2, 3, 4, 5, 0] rfl)
                · replace h := ifn cq h
                  refine lv_iload hx hb dX6_grow_90 (lv_at hl 0 rfl) ?_
                  refine lv_iload_n hx hb dX6_grow_92 rfl (lv_at hl 4 rfl) ?_
                  obtain ⟨g14, h⟩ := gdn h
                  refine lv_irem hx hb dX6_grow_93 g14 ?_
                  refine lv_if_ne (tgt := 101) hx hb dX6_grow_94 (by decide) (fun cq => ?_) (fun cq => ?_)
                  · replace h := ifn cq h
                    refine lv_iconst (v := 0) hx hb dX6_grow_101 (by decide) ?_
                    cases h
                    exact Jx9 _ _ _ hP hD hS (lv_sub hl [1, 2, 3, 4, 5, 0] rfl)
                  · replace h := ifp cq h
                    refine lv_iconst (v := 1) hx hb dX6_grow_97 (by decide) ?_
                    refine lv_goto (tgt := 102) hx hb dX6_grow_98 (by decide) ?_
                    cases h
                    exact Jx9 _ _ _ hP hD hS (lv_sub hl [1, 2, 3, 4, 5, 0] rfl)
          obtain ⟨x15, hx15, h⟩ := bnd h
          refine L72 FU _ _ _ _ _ _ hx15 hP hD hS (lv_sub hl [1, 2, 3, 4, 0] rfl) (fun H locs ls hP hD hS hl => ?_)
          refine lv_aload_n hx hb dX6_grow_142 rfl (lv_at hl 0 rfl) ?_
          refine va_get (D := D) (ci := 6) (v := .ref h6_ms) (C := RX6) (T := TX6) (N := 15) hx hb hts iX6 hown hK hP 0 rfl rfl 1 (by decide) (hts (.fieldLink RX6 7 "HiddenPeriodsModel" "s" "[I") (by decide +kernel)) (fun _ h9 => h9) rfl dX6_grow_143 ?_
          refine lv_iconst (v := 0) hx hb dX6_grow_146 (by decide) ?_
          obtain ⟨g16, h⟩ := gdn h
          refine va_iald hx hb hK hP 1 0 rfl rfl g16 dX6_grow_147 ?_
          cases h
          exact pw_iret hx hb hr hlocks hAe hQ hP hD hS dX6_grow_148
        · replace h := ifn cq h
          refine lv_aload_n hx hb dX6_grow_59 rfl (lv_at hl 0 rfl) ?_
          refine lv_iconst (v := 2) hx hb dX6_grow_60 (by decide) ?_
          obtain ⟨⟨x17_1, x17_2⟩, hx17, h⟩ := bnd h
          refine pw_goi (wc := [(h6, .inr (6, [.int 0, .ref h6_ms, .ref h6_mv, .int svm, .ref h6_mb, .int mln, .ref h6_mc, .ref h6_mg, .ref h6_mt, .ref h6_ml, .int mat, .int wel, .ref h6_mr, .int rdm, .long hsh])), (h6_ms, .inl (cI, 253, .inl ms)), (h6_mv, .inl (cI, 1518, .inl mv)), (h6_mb, .inl (cI, 60, .inl mb)), (h6_mc, .inl (cI, 160, .inl mc)), (h6_mg, .inl (cI, 160, .inl mg)), (h6_mt, .inl (cI, 240, .inl mt)), (h6_ml, .inl (cI, 240, .inl ml)), (h6_mr, .inl (cI, 600, .inl mr))]) (w1 := [(h6, .inr (6, [.int x17_2, .ref h6_ms, .ref h6_mv, .int svm, .ref h6_mb, .int mln, .ref h6_mc, .ref h6_mg, .ref h6_mt, .ref h6_ml, .int mat, .int wel, .ref h6_mr, .int rdm, .long hsh])), (h6_ms, .inl (cI, 253, .inl ms)), (h6_mv, .inl (cI, 1518, .inl mv)), (h6_mb, .inl (cI, 60, .inl mb)), (h6_mc, .inl (cI, 160, .inl mc)), (h6_mg, .inl (cI, 160, .inl mg)), (h6_mt, .inl (cI, 240, .inl mt)), (h6_ml, .inl (cI, 240, .inl ml)), (h6_mr, .inl (cI, 600, .inl mr))]) (w2 := [(h6, .inr (6, [.int x17_2, .ref h6_ms, .ref h6_mv, .int svm, .ref h6_mb, .int mln, .ref h6_mc, .ref h6_mg, .ref h6_mt, .ref h6_ml, .int mat, .int wel, .ref h6_mr, .int rdm, .long hsh])), (h6_ms, .inl (cI, 253, .inl ms)), (h6_mv, .inl (cI, 1518, .inl mv)), (h6_mb, .inl (cI, 60, .inl mb)), (h6_mc, .inl (cI, 160, .inl mc)), (h6_mg, .inl (cI, 160, .inl mg)), (h6_mt, .inl (cI, 240, .inl mt)), (h6_ml, .inl (cI, 240, .inl ml)), (h6_mr, .inl (cI, 600, .inl mr))]) (va_runV (As := [.int 2]) (rest := []) ⟨hx, hb, hml, hown, hts⟩ (mX6_fails l D cI cO cJ h6 h6_ms h6_mv h6_mb h6_mc h6_mg h6_mt h6_ml h6_mr H.size 0 ms mv svm mb mln mc mg mt ml mat wel mr rdm hsh 2 _ hx17) (cwV 1 hts gX6_grow_X6_fails rfl rfl rfl (by decide +kernel) ⟨Nat.le_of_ble_eq_true rfl, Nat.le_of_ble_eq_true rfl⟩) (pw_preV hK hN (pw_sub hP [0, 1, 2, 3, 4, 5, 6, 7, 8] rfl) (pw_subD hD [0, 1, 2, 3, 4, 5, 6, 7, 8] (by decide) rfl) (ci := 6) (q0 := 0) rfl rfl) rfl rfl hl.1 rfl (lv_room (Nat.le_of_ble_eq_true rfl)) dX6_grow_61 ⟨Nat.zero_le _, Nat.zero_le _⟩) hP hD hS hA [0, 1, 2, 3, 4, 5, 6, 7, 8] [] [0, 1, 2, 3, 4, 5, 6, 7, 8] rfl rfl (by decide) (by decide) (by decide) rfl (fun H locs hP hD hS => ?_)
          cases h
          exact pw_iret hx hb hr hlocks hAe hQ hP hD hS dX6_grow_64
      · replace h := ifp cq h
        refine lv_aload_n hx hb dX6_grow_39 rfl (lv_at hl 0 rfl) ?_
        refine lv_iconst (v := 1) hx hb dX6_grow_40 (by decide) ?_
        obtain ⟨⟨x18_1, x18_2⟩, hx18, h⟩ := bnd h
        refine pw_goi (wc := [(h6, .inr (6, [.int 0, .ref h6_ms, .ref h6_mv, .int svm, .ref h6_mb, .int mln, .ref h6_mc, .ref h6_mg, .ref h6_mt, .ref h6_ml, .int mat, .int wel, .ref h6_mr, .int rdm, .long hsh])), (h6_ms, .inl (cI, 253, .inl ms)), (h6_mv, .inl (cI, 1518, .inl mv)), (h6_mb, .inl (cI, 60, .inl mb)), (h6_mc, .inl (cI, 160, .inl mc)), (h6_mg, .inl (cI, 160, .inl mg)), (h6_mt, .inl (cI, 240, .inl mt)), (h6_ml, .inl (cI, 240, .inl ml)), (h6_mr, .inl (cI, 600, .inl mr))]) (w1 := [(h6, .inr (6, [.int x18_2, .ref h6_ms, .ref h6_mv, .int svm, .ref h6_mb, .int mln, .ref h6_mc, .ref h6_mg, .ref h6_mt, .ref h6_ml, .int mat, .int wel, .ref h6_mr, .int rdm, .long hsh])), (h6_ms, .inl (cI, 253, .inl ms)), (h6_mv, .inl (cI, 1518, .inl mv)), (h6_mb, .inl (cI, 60, .inl mb)), (h6_mc, .inl (cI, 160, .inl mc)), (h6_mg, .inl (cI, 160, .inl mg)), (h6_mt, .inl (cI, 240, .inl mt)), (h6_ml, .inl (cI, 240, .inl ml)), (h6_mr, .inl (cI, 600, .inl mr))]) (w2 := [(h6, .inr (6, [.int x18_2, .ref h6_ms, .ref h6_mv, .int svm, .ref h6_mb, .int mln, .ref h6_mc, .ref h6_mg, .ref h6_mt, .ref h6_ml, .int mat, .int wel, .ref h6_mr, .int rdm, .long hsh])), (h6_ms, .inl (cI, 253, .inl ms)), (h6_mv, .inl (cI, 1518, .inl mv)), (h6_mb, .inl (cI, 60, .inl mb)), (h6_mc, .inl (cI, 160, .inl mc)), (h6_mg, .inl (cI, 160, .inl mg)), (h6_mt, .inl (cI, 240, .inl mt)), (h6_ml, .inl (cI, 240, .inl ml)), (h6_mr, .inl (cI, 600, .inl mr))]) (va_runV (As := [.int 1]) (rest := []) ⟨hx, hb, hml, hown, hts⟩ (mX6_fails l D cI cO cJ h6 h6_ms h6_mv h6_mb h6_mc h6_mg h6_mt h6_ml h6_mr H.size 0 ms mv svm mb mln mc mg mt ml mat wel mr rdm hsh 1 _ hx18) (cwV 1 hts gX6_grow_X6_fails rfl rfl rfl (by decide +kernel) ⟨Nat.le_of_ble_eq_true rfl, Nat.le_of_ble_eq_true rfl⟩) (pw_preV hK hN (pw_sub hP [0, 1, 2, 3, 4, 5, 6, 7, 8] rfl) (pw_subD hD [0, 1, 2, 3, 4, 5, 6, 7, 8] (by decide) rfl) (ci := 6) (q0 := 0) rfl rfl) rfl rfl hl.1 rfl (lv_room (Nat.le_of_ble_eq_true rfl)) dX6_grow_41 ⟨Nat.zero_le _, Nat.zero_le _⟩) hP hD hS hA [0, 1, 2, 3, 4, 5, 6, 7, 8] [] [0, 1, 2, 3, 4, 5, 6, 7, 8] rfl rfl (by decide) (by decide) (by decide) rfl (fun H locs hP hD hS => ?_)
        cases h
        exact pw_iret hx hb hr hlocks hAe hQ hP hD hS dX6_grow_44
def fX6_keeps (ms : Nat → Int32) (a1 : Int32) (a2 : Int32) : Option (Int32 × (Nat → Int32)) :=
  if oob 4 253 then none else
  if oob (5 + (2 * (ms (4 : Int32).toNatClampNeg))) 253 then none else
  if oob 4 253 then none else
  if oob ((5 + (2 * ((upd ms ((5 + (2 * (ms (4 : Int32).toNatClampNeg)))).toNatClampNeg a1) (4 : Int32).toNatClampNeg))) + 1) 253 then none else
  if oob 4 253 then none else
  if oob 4 253 then none else
  if oob 4 253 then none else
  some ((((upd (upd (upd ms ((5 + (2 * (ms (4 : Int32).toNatClampNeg)))).toNatClampNeg a1) (((5 + (2 * ((upd ms ((5 + (2 * (ms (4 : Int32).toNatClampNeg)))).toNatClampNeg a1) (4 : Int32).toNatClampNeg))) + 1)).toNatClampNeg a2) (4 : Int32).toNatClampNeg (((upd (upd ms ((5 + (2 * (ms (4 : Int32).toNatClampNeg)))).toNatClampNeg a1) (((5 + (2 * ((upd ms ((5 + (2 * (ms (4 : Int32).toNatClampNeg)))).toNatClampNeg a1) (4 : Int32).toNatClampNeg))) + 1)).toNatClampNeg a2) (4 : Int32).toNatClampNeg) + 1)) (4 : Int32).toNatClampNeg) - 1), (upd (upd (upd ms ((5 + (2 * (ms (4 : Int32).toNatClampNeg)))).toNatClampNeg a1) (((5 + (2 * ((upd ms ((5 + (2 * (ms (4 : Int32).toNatClampNeg)))).toNatClampNeg a1) (4 : Int32).toNatClampNeg))) + 1)).toNatClampNeg a2) (4 : Int32).toNatClampNeg (((upd (upd ms ((5 + (2 * (ms (4 : Int32).toNatClampNeg)))).toNatClampNeg a1) (((5 + (2 * ((upd ms ((5 + (2 * (ms (4 : Int32).toNatClampNeg)))).toNatClampNeg a1) (4 : Int32).toNatClampNeg))) + 1)).toNatClampNeg a2) (4 : Int32).toNatClampNeg) + 1)))
abbrev rmX6_keeps : Room := { frames := 0, cells := 0, slots := 0, locals := 0 }
set_option maxHeartbeats 4000000 in
set_option maxRecDepth 100000 in
theorem mX6_keeps (l : Launch) (D : va_G) (cI cO cJ : ClassId) (h6 h6_ms h6_mv h6_mb h6_mc h6_mg h6_mt h6_ml h6_mr : Nat) (sz : Nat) (thr : Int32) (ms : Nat → Int32) (mv : Nat → Int32) (svm : Int32) (mb : Nat → Int32) (mln : Int32) (mc : Nat → Int32) (mg : Nat → Int32) (mt : Nat → Int32) (ml : Nat → Int32) (mat : Int32) (wel : Int32) (mr : Nat → Int32) (rdm : Int32) (hsh : Int64) (a1 : Int32) (a2 : Int32) (z : Int32 × (Nat → Int32)) (h : fX6_keeps ms a1 a2 = some z) : Met l yX6_keeps wsX6_keeps rmX6_keeps (pw_pre D (tyL cI cO cJ) [.ref h6, .int a1, .int a2] [(h6, .inr (6, [.int thr, .ref h6_ms, .ref h6_mv, .int svm, .ref h6_mb, .int mln, .ref h6_mc, .ref h6_mg, .ref h6_mt, .ref h6_ml, .int mat, .int wel, .ref h6_mr, .int rdm, .long hsh])), (h6_ms, .inl (cI, 253, .inl ms)), (h6_mv, .inl (cI, 1518, .inl mv)), (h6_mb, .inl (cI, 60, .inl mb)), (h6_mc, .inl (cI, 160, .inl mc)), (h6_mg, .inl (cI, 160, .inl mg)), (h6_mt, .inl (cI, 240, .inl mt)), (h6_ml, .inl (cI, 240, .inl ml)), (h6_mr, .inl (cI, 600, .inl mr))] sz) (pw_i D [(h6, .inr (6, [.int thr, .ref h6_ms, .ref h6_mv, .int svm, .ref h6_mb, .int mln, .ref h6_mc, .ref h6_mg, .ref h6_mt, .ref h6_ml, .int mat, .int wel, .ref h6_mr, .int rdm, .long hsh])), (h6_ms, .inl (cI, 253, .inl ms)), (h6_mv, .inl (cI, 1518, .inl mv)), (h6_mb, .inl (cI, 60, .inl mb)), (h6_mc, .inl (cI, 160, .inl mc)), (h6_mg, .inl (cI, 160, .inl mg)), (h6_mt, .inl (cI, 240, .inl mt)), (h6_ml, .inl (cI, 240, .inl ml)), (h6_mr, .inl (cI, 600, .inl mr))] [(h6, .inr (6, [.int thr, .ref h6_ms, .ref h6_mv, .int svm, .ref h6_mb, .int mln, .ref h6_mc, .ref h6_mg, .ref h6_mt, .ref h6_ml, .int mat, .int wel, .ref h6_mr, .int rdm, .long hsh])), (h6_ms, .inl (cI, 253, .inl z.2)), (h6_mv, .inl (cI, 1518, .inl mv)), (h6_mb, .inl (cI, 60, .inl mb)), (h6_mc, .inl (cI, 160, .inl mc)), (h6_mg, .inl (cI, 160, .inl mg)), (h6_mt, .inl (cI, 240, .inl mt)), (h6_ml, .inl (cI, 240, .inl ml)), (h6_mr, .inl (cI, 600, .inl mr))] z.1 sz) 0 0 (va_A [(h6, .inr (6, [.int thr, .ref h6_ms, .ref h6_mv, .int svm, .ref h6_mb, .int mln, .ref h6_mc, .ref h6_mg, .ref h6_mt, .ref h6_ml, .int mat, .int wel, .ref h6_mr, .int rdm, .long hsh])), (h6_ms, .inl (cI, 253, .inl ms)), (h6_mv, .inl (cI, 1518, .inl mv)), (h6_mb, .inl (cI, 60, .inl mb)), (h6_mc, .inl (cI, 160, .inl mc)), (h6_mg, .inl (cI, 160, .inl mg)), (h6_mt, .inl (cI, 240, .inl mt)), (h6_ml, .inl (cI, 240, .inl ml)), (h6_mr, .inl (cI, 600, .inl mr))] sz) := by
  refine pw_of (Qc := fun sz => pw_i D [(h6, .inr (6, [.int thr, .ref h6_ms, .ref h6_mv, .int svm, .ref h6_mb, .int mln, .ref h6_mc, .ref h6_mg, .ref h6_mt, .ref h6_ml, .int mat, .int wel, .ref h6_mr, .int rdm, .long hsh])), (h6_ms, .inl (cI, 253, .inl ms)), (h6_mv, .inl (cI, 1518, .inl mv)), (h6_mb, .inl (cI, 60, .inl mb)), (h6_mc, .inl (cI, 160, .inl mc)), (h6_mg, .inl (cI, 160, .inl mg)), (h6_mt, .inl (cI, 240, .inl mt)), (h6_ml, .inl (cI, 240, .inl ml)), (h6_mr, .inl (cI, 600, .inl mr))] [(h6, .inr (6, [.int thr, .ref h6_ms, .ref h6_mv, .int svm, .ref h6_mb, .int mln, .ref h6_mc, .ref h6_mg, .ref h6_mt, .ref h6_ml, .int mat, .int wel, .ref h6_mr, .int rdm, .long hsh])), (h6_ms, .inl (cI, 253, .inl z.2)), (h6_mv, .inl (cI, 1518, .inl mv)), (h6_mb, .inl (cI, 60, .inl mb)), (h6_mc, .inl (cI, 160, .inl mc)), (h6_mg, .inl (cI, 160, .inl mg)), (h6_mt, .inl (cI, 240, .inl mt)), (h6_ml, .inl (cI, 240, .inl ml)), (h6_mr, .inl (cI, 600, .inl mr))] z.1 sz) (cc := cX6_keeps) (maxL := 3) (ret := (some .int)) (by decide) rfl (Nat.le_of_ble_eq_true rfl) ?_
  intro p e s m args below meth c A Q H ls hx hb hml hr hts hown hlocks hAe hQ hK hN hA hP hD hS hl
  have hown : s.vm.findClass RX6 = some m.cls := hown
  have hl : lv_has ls 3 [(0, .ref h6), (1, .int a1), (2, .int a2)] := hl
  have hP : va_P D vwCl ([(h6, .inr (6, [.int thr, .ref h6_ms, .ref h6_mv, .int svm, .ref h6_mb, .int mln, .ref h6_mc, .ref h6_mg, .ref h6_mt, .ref h6_ml, .int mat, .int wel, .ref h6_mr, .int rdm, .long hsh])), (h6_ms, .inl (cI, 253, .inl ms)), (h6_mv, .inl (cI, 1518, .inl mv)), (h6_mb, .inl (cI, 60, .inl mb)), (h6_mc, .inl (cI, 160, .inl mc)), (h6_mg, .inl (cI, 160, .inl mg)), (h6_mt, .inl (cI, 240, .inl mt)), (h6_ml, .inl (cI, 240, .inl ml)), (h6_mr, .inl (cI, 600, .inl mr))] ++ []) H := hP
  have hD : va_D A ([(h6, .inr (6, [.int thr, .ref h6_ms, .ref h6_mv, .int svm, .ref h6_mb, .int mln, .ref h6_mc, .ref h6_mg, .ref h6_mt, .ref h6_ml, .int mat, .int wel, .ref h6_mr, .int rdm, .long hsh])), (h6_ms, .inl (cI, 253, .inl ms)), (h6_mv, .inl (cI, 1518, .inl mv)), (h6_mb, .inl (cI, 60, .inl mb)), (h6_mc, .inl (cI, 160, .inl mc)), (h6_mg, .inl (cI, 160, .inl mg)), (h6_mt, .inl (cI, 240, .inl mt)), (h6_ml, .inl (cI, 240, .inl ml)), (h6_mr, .inl (cI, 600, .inl mr))] ++ []) := hD
  have iX6 : ∀ w ∈ u_ws RX6 TX6 15, w ∈ wsX6_keeps := fun _ h => List.mem_cons_of_mem _ (List.mem_append_right _ h)
  unfold fX6_keeps at h
  refine lv_aload_n hx hb dX6_keeps_0 rfl (lv_at hl 0 rfl) ?_
  refine va_get (D := D) (ci := 6) (v := .ref h6_ms) (C := RX6) (T := TX6) (N := 15) hx hb hts iX6 hown hK hP 0 rfl rfl 1 (by decide) (hts (.fieldLink RX6 7 "HiddenPeriodsModel" "s" "[I") (by decide +kernel)) (fun _ h9 => h9) rfl dX6_keeps_1 ?_
  refine lv_iconst (v := 5) hx hb dX6_keeps_4 (by decide) ?_
  refine lv_iconst (v := 2) hx hb dX6_keeps_5 (by decide) ?_
  refine lv_aload_n hx hb dX6_keeps_6 rfl (lv_at hl 0 rfl) ?_
  refine va_get (D := D) (ci := 6) (v := .ref h6_ms) (C := RX6) (T := TX6) (N := 15) hx hb hts iX6 hown hK hP 0 rfl rfl 1 (by decide) (hts (.fieldLink RX6 7 "HiddenPeriodsModel" "s" "[I") (by decide +kernel)) (fun _ h9 => h9) rfl dX6_keeps_7 ?_
  refine lv_iconst (v := 4) hx hb dX6_keeps_10 (by decide) ?_
  obtain ⟨g1, h⟩ := gdn h
  refine va_iald hx hb hK hP 1 0 rfl rfl g1 dX6_keeps_11 ?_
  refine lv_imul hx hb dX6_keeps_12 ?_
  refine lv_iadd hx hb dX6_keeps_13 ?_
  refine lv_iload_n hx hb dX6_keeps_14 rfl (lv_at hl 1 rfl) ?_
  obtain ⟨g2, h⟩ := gdn h
  refine va_iast hx hb hK hP hD hS 1 0 rfl rfl g2 dX6_keeps_15 (fun H locs hP hD hS => ?_)
  have hP : va_P D vwCl ([(h6, .inr (6, [.int thr, .ref h6_ms, .ref h6_mv, .int svm, .ref h6_mb, .int mln, .ref h6_mc, .ref h6_mg, .ref h6_mt, .ref h6_ml, .int mat, .int wel, .ref h6_mr, .int rdm, .long hsh])), (h6_ms, .inl (cI, 253, .inl (upd ms ((5 + (2 * (ms (4 : Int32).toNatClampNeg)))).toNatClampNeg a1))), (h6_mv, .inl (cI, 1518, .inl mv)), (h6_mb, .inl (cI, 60, .inl mb)), (h6_mc, .inl (cI, 160, .inl mc)), (h6_mg, .inl (cI, 160, .inl mg)), (h6_mt, .inl (cI, 240, .inl mt)), (h6_ml, .inl (cI, 240, .inl ml)), (h6_mr, .inl (cI, 600, .inl mr))] ++ []) H := hP
  have hD : va_D A ([(h6, .inr (6, [.int thr, .ref h6_ms, .ref h6_mv, .int svm, .ref h6_mb, .int mln, .ref h6_mc, .ref h6_mg, .ref h6_mt, .ref h6_ml, .int mat, .int wel, .ref h6_mr, .int rdm, .long hsh])), (h6_ms, .inl (cI, 253, .inl (upd ms ((5 + (2 * (ms (4 : Int32).toNatClampNeg)))).toNatClampNeg a1))), (h6_mv, .inl (cI, 1518, .inl mv)), (h6_mb, .inl (cI, 60, .inl mb)), (h6_mc, .inl (cI, 160, .inl mc)), (h6_mg, .inl (cI, 160, .inl mg)), (h6_mt, .inl (cI, 240, .inl mt)), (h6_ml, .inl (cI, 240, .inl ml)), (h6_mr, .inl (cI, 600, .inl mr))] ++ []) := hD
  refine lv_aload_n hx hb dX6_keeps_16 rfl (lv_at hl 0 rfl) ?_
  refine va_get (D := D) (ci := 6) (v := .ref h6_ms) (C := RX6) (T := TX6) (N := 15) hx hb hts iX6 hown hK hP 0 rfl rfl 1 (by decide) (hts (.fieldLink RX6 7 "HiddenPeriodsModel" "s" "[I") (by decide +kernel)) (fun _ h9 => h9) rfl dX6_keeps_17 ?_
  refine lv_iconst (v := 5) hx hb dX6_keeps_20 (by decide) ?_
  refine lv_iconst (v := 2) hx hb dX6_keeps_21 (by decide) ?_
  refine lv_aload_n hx hb dX6_keeps_22 rfl (lv_at hl 0 rfl) ?_
  refine va_get (D := D) (ci := 6) (v := .ref h6_ms) (C := RX6) (T := TX6) (N := 15) hx hb hts iX6 hown hK hP 0 rfl rfl 1 (by decide) (hts (.fieldLink RX6 7 "HiddenPeriodsModel" "s" "[I") (by decide +kernel)) (fun _ h9 => h9) rfl dX6_keeps_23 ?_
  refine lv_iconst (v := 4) hx hb dX6_keeps_26 (by decide) ?_
  obtain ⟨g3, h⟩ := gdn h
  refine va_iald hx hb hK hP 1 0 rfl rfl g3 dX6_keeps_27 ?_
  refine lv_imul hx hb dX6_keeps_28 ?_
  refine lv_iadd hx hb dX6_keeps_29 ?_
  refine lv_iconst (v := 1) hx hb dX6_keeps_30 (by decide) ?_
  refine lv_iadd hx hb dX6_keeps_31 ?_
  refine lv_iload_n hx hb dX6_keeps_32 rfl (lv_at hl 2 rfl) ?_
  obtain ⟨g4, h⟩ := gdn h
  refine va_iast hx hb hK hP hD hS 1 0 rfl rfl g4 dX6_keeps_33 (fun H locs hP hD hS => ?_)
  have hP : va_P D vwCl ([(h6, .inr (6, [.int thr, .ref h6_ms, .ref h6_mv, .int svm, .ref h6_mb, .int mln, .ref h6_mc, .ref h6_mg, .ref h6_mt, .ref h6_ml, .int mat, .int wel, .ref h6_mr, .int rdm, .long hsh])), (h6_ms, .inl (cI, 253, .inl (upd (upd ms ((5 + (2 * (ms (4 : Int32).toNatClampNeg)))).toNatClampNeg a1) (((5 + (2 * ((upd ms ((5 + (2 * (ms (4 : Int32).toNatClampNeg)))).toNatClampNeg a1) (4 : Int32).toNatClampNeg))) + 1)).toNatClampNeg a2))), (h6_mv, .inl (cI, 1518, .inl mv)), (h6_mb, .inl (cI, 60, .inl mb)), (h6_mc, .inl (cI, 160, .inl mc)), (h6_mg, .inl (cI, 160, .inl mg)), (h6_mt, .inl (cI, 240, .inl mt)), (h6_ml, .inl (cI, 240, .inl ml)), (h6_mr, .inl (cI, 600, .inl mr))] ++ []) H := hP
  have hD : va_D A ([(h6, .inr (6, [.int thr, .ref h6_ms, .ref h6_mv, .int svm, .ref h6_mb, .int mln, .ref h6_mc, .ref h6_mg, .ref h6_mt, .ref h6_ml, .int mat, .int wel, .ref h6_mr, .int rdm, .long hsh])), (h6_ms, .inl (cI, 253, .inl (upd (upd ms ((5 + (2 * (ms (4 : Int32).toNatClampNeg)))).toNatClampNeg a1) (((5 + (2 * ((upd ms ((5 + (2 * (ms (4 : Int32).toNatClampNeg)))).toNatClampNeg a1) (4 : Int32).toNatClampNeg))) + 1)).toNatClampNeg a2))), (h6_mv, .inl (cI, 1518, .inl mv)), (h6_mb, .inl (cI, 60, .inl mb)), (h6_mc, .inl (cI, 160, .inl mc)), (h6_mg, .inl (cI, 160, .inl mg)), (h6_mt, .inl (cI, 240, .inl mt)), (h6_ml, .inl (cI, 240, .inl ml)), (h6_mr, .inl (cI, 600, .inl mr))] ++ []) := hD
  refine lv_aload_n hx hb dX6_keeps_34 rfl (lv_at hl 0 rfl) ?_
  refine va_get (D := D) (ci := 6) (v := .ref h6_ms) (C := RX6) (T := TX6) (N := 15) hx hb hts iX6 hown hK hP 0 rfl rfl 1 (by decide) (hts (.fieldLink RX6 7 "HiddenPeriodsModel" "s" "[I") (by decide +kernel)) (fun _ h9 => h9) rfl dX6_keeps_35 ?_
  refine lv_iconst (v := 4) hx hb dX6_keeps_38 (by decide) ?_
  refine lv_dup2_11 hx hb dX6_keeps_39 rfl rfl ?_
  obtain ⟨g5, h⟩ := gdn h
  refine va_iald hx hb hK hP 1 0 rfl rfl g5 dX6_keeps_40 ?_
  refine lv_iconst (v := 1) hx hb dX6_keeps_41 (by decide) ?_
  refine lv_iadd hx hb dX6_keeps_42 ?_
  obtain ⟨g6, h⟩ := gdn h
  refine va_iast hx hb hK hP hD hS 1 0 rfl rfl g6 dX6_keeps_43 (fun H locs hP hD hS => ?_)
  have hP : va_P D vwCl ([(h6, .inr (6, [.int thr, .ref h6_ms, .ref h6_mv, .int svm, .ref h6_mb, .int mln, .ref h6_mc, .ref h6_mg, .ref h6_mt, .ref h6_ml, .int mat, .int wel, .ref h6_mr, .int rdm, .long hsh])), (h6_ms, .inl (cI, 253, .inl (upd (upd (upd ms ((5 + (2 * (ms (4 : Int32).toNatClampNeg)))).toNatClampNeg a1) (((5 + (2 * ((upd ms ((5 + (2 * (ms (4 : Int32).toNatClampNeg)))).toNatClampNeg a1) (4 : Int32).toNatClampNeg))) + 1)).toNatClampNeg a2) (4 : Int32).toNatClampNeg (((upd (upd ms ((5 + (2 * (ms (4 : Int32).toNatClampNeg)))).toNatClampNeg a1) (((5 + (2 * ((upd ms ((5 + (2 * (ms (4 : Int32).toNatClampNeg)))).toNatClampNeg a1) (4 : Int32).toNatClampNeg))) + 1)).toNatClampNeg a2) (4 : Int32).toNatClampNeg) + 1)))), (h6_mv, .inl (cI, 1518, .inl mv)), (h6_mb, .inl (cI, 60, .inl mb)), (h6_mc, .inl (cI, 160, .inl mc)), (h6_mg, .inl (cI, 160, .inl mg)), (h6_mt, .inl (cI, 240, .inl mt)), (h6_ml, .inl (cI, 240, .inl ml)), (h6_mr, .inl (cI, 600, .inl mr))] ++ []) H := hP
  have hD : va_D A ([(h6, .inr (6, [.int thr, .ref h6_ms, .ref h6_mv, .int svm, .ref h6_mb, .int mln, .ref h6_mc, .ref h6_mg, .ref h6_mt, .ref h6_ml, .int mat, .int wel, .ref h6_mr, .int rdm, .long hsh])), (h6_ms, .inl (cI, 253, .inl (upd (upd (upd ms ((5 + (2 * (ms (4 : Int32).toNatClampNeg)))).toNatClampNeg a1) (((5 + (2 * ((upd ms ((5 + (2 * (ms (4 : Int32).toNatClampNeg)))).toNatClampNeg a1) (4 : Int32).toNatClampNeg))) + 1)).toNatClampNeg a2) (4 : Int32).toNatClampNeg (((upd (upd ms ((5 + (2 * (ms (4 : Int32).toNatClampNeg)))).toNatClampNeg a1) (((5 + (2 * ((upd ms ((5 + (2 * (ms (4 : Int32).toNatClampNeg)))).toNatClampNeg a1) (4 : Int32).toNatClampNeg))) + 1)).toNatClampNeg a2) (4 : Int32).toNatClampNeg) + 1)))), (h6_mv, .inl (cI, 1518, .inl mv)), (h6_mb, .inl (cI, 60, .inl mb)), (h6_mc, .inl (cI, 160, .inl mc)), (h6_mg, .inl (cI, 160, .inl mg)), (h6_mt, .inl (cI, 240, .inl mt)), (h6_ml, .inl (cI, 240, .inl ml)), (h6_mr, .inl (cI, 600, .inl mr))] ++ []) := hD
  refine lv_aload_n hx hb dX6_keeps_44 rfl (lv_at hl 0 rfl) ?_
  refine va_get (D := D) (ci := 6) (v := .ref h6_ms) (C := RX6) (T := TX6) (N := 15) hx hb hts iX6 hown hK hP 0 rfl rfl 1 (by decide) (hts (.fieldLink RX6 7 "HiddenPeriodsModel" "s" "[I") (by decide +kernel)) (fun _ h9 => h9) rfl dX6_keeps_45 ?_
  refine lv_iconst (v := 4) hx hb dX6_keeps_48 (by decide) ?_
  obtain ⟨g7, h⟩ := gdn h
  refine va_iald hx hb hK hP 1 0 rfl rfl g7 dX6_keeps_49 ?_
  refine lv_iconst (v := 1) hx hb dX6_keeps_50 (by decide) ?_
  refine lv_isub hx hb dX6_keeps_51 ?_
  cases h
  exact pw_iret hx hb hr hlocks hAe hQ hP hD hS dX6_keeps_52
def fX6_keep (ms : Nat → Int32) (mv : Nat → Int32) (svm : Int32) (a1 : Int32) (a2 : Int32) : Option (Int32 × Int32 × (Nat → Int32) × (Nat → Int32) × Int32) :=
  (fX6_isPeriod a1 a2).bind fun x1 =>
  if x1 = 0 then
  (fX6_fails 1).bind fun (x8_1, x8_2) =>
  some (x8_1, x8_2, ms, mv, svm)
  else
  if oob 4 253 then none else
  if (ms (4 : Int32).toNatClampNeg) = 4 then
  (fX6_fails 2).bind fun (x3_1, x3_2) =>
  some (x3_1, x3_2, ms, mv, svm)
  else
  (fX6_isKept ms a1 a2).bind fun x4 =>
  if x4 = 0 then
  (fX6_saves ms mv svm).bind fun (x5_1, x5_2) =>
  (fX6_keeps ms a1 a2).bind fun (x6_1, x6_2) =>
  some (x6_1, 0, x6_2, x5_1, x5_2)
  else
  (fX6_fails 2).bind fun (x7_1, x7_2) =>
  some (x7_1, x7_2, ms, mv, svm)
abbrev rmX6_keep : Room := { frames := 2, cells := 0, slots := 0, locals := 45 }
set_option maxHeartbeats 4000000 in
set_option maxRecDepth 100000 in
theorem mX6_keep (l : Launch) (D : va_G) (cI cO cJ : ClassId) (h6 h6_ms h6_mv h6_mb h6_mc h6_mg h6_mt h6_ml h6_mr : Nat) (sz : Nat) (thr : Int32) (ms : Nat → Int32) (mv : Nat → Int32) (svm : Int32) (mb : Nat → Int32) (mln : Int32) (mc : Nat → Int32) (mg : Nat → Int32) (mt : Nat → Int32) (ml : Nat → Int32) (mat : Int32) (wel : Int32) (mr : Nat → Int32) (rdm : Int32) (hsh : Int64) (a1 : Int32) (a2 : Int32) (z : Int32 × Int32 × (Nat → Int32) × (Nat → Int32) × Int32) (h : fX6_keep ms mv svm a1 a2 = some z) : Met l yX6_keep wsX6_keep rmX6_keep (pw_pre D (tyL cI cO cJ) [.ref h6, .int a1, .int a2] [(h6, .inr (6, [.int thr, .ref h6_ms, .ref h6_mv, .int svm, .ref h6_mb, .int mln, .ref h6_mc, .ref h6_mg, .ref h6_mt, .ref h6_ml, .int mat, .int wel, .ref h6_mr, .int rdm, .long hsh])), (h6_ms, .inl (cI, 253, .inl ms)), (h6_mv, .inl (cI, 1518, .inl mv)), (h6_mb, .inl (cI, 60, .inl mb)), (h6_mc, .inl (cI, 160, .inl mc)), (h6_mg, .inl (cI, 160, .inl mg)), (h6_mt, .inl (cI, 240, .inl mt)), (h6_ml, .inl (cI, 240, .inl ml)), (h6_mr, .inl (cI, 600, .inl mr))] sz) (pw_i D [(h6, .inr (6, [.int thr, .ref h6_ms, .ref h6_mv, .int svm, .ref h6_mb, .int mln, .ref h6_mc, .ref h6_mg, .ref h6_mt, .ref h6_ml, .int mat, .int wel, .ref h6_mr, .int rdm, .long hsh])), (h6_ms, .inl (cI, 253, .inl ms)), (h6_mv, .inl (cI, 1518, .inl mv)), (h6_mb, .inl (cI, 60, .inl mb)), (h6_mc, .inl (cI, 160, .inl mc)), (h6_mg, .inl (cI, 160, .inl mg)), (h6_mt, .inl (cI, 240, .inl mt)), (h6_ml, .inl (cI, 240, .inl ml)), (h6_mr, .inl (cI, 600, .inl mr))] [(h6, .inr (6, [.int z.2.1, .ref h6_ms, .ref h6_mv, .int z.2.2.2.2, .ref h6_mb, .int mln, .ref h6_mc, .ref h6_mg, .ref h6_mt, .ref h6_ml, .int mat, .int wel, .ref h6_mr, .int rdm, .long hsh])), (h6_ms, .inl (cI, 253, .inl z.2.2.1)), (h6_mv, .inl (cI, 1518, .inl z.2.2.2.1)), (h6_mb, .inl (cI, 60, .inl mb)), (h6_mc, .inl (cI, 160, .inl mc)), (h6_mg, .inl (cI, 160, .inl mg)), (h6_mt, .inl (cI, 240, .inl mt)), (h6_ml, .inl (cI, 240, .inl ml)), (h6_mr, .inl (cI, 600, .inl mr))] z.1 sz) 0 0 (va_A [(h6, .inr (6, [.int thr, .ref h6_ms, .ref h6_mv, .int svm, .ref h6_mb, .int mln, .ref h6_mc, .ref h6_mg, .ref h6_mt, .ref h6_ml, .int mat, .int wel, .ref h6_mr, .int rdm, .long hsh])), (h6_ms, .inl (cI, 253, .inl ms)), (h6_mv, .inl (cI, 1518, .inl mv)), (h6_mb, .inl (cI, 60, .inl mb)), (h6_mc, .inl (cI, 160, .inl mc)), (h6_mg, .inl (cI, 160, .inl mg)), (h6_mt, .inl (cI, 240, .inl mt)), (h6_ml, .inl (cI, 240, .inl ml)), (h6_mr, .inl (cI, 600, .inl mr))] sz) := by
  refine pw_of (Qc := fun sz => pw_i D [(h6, .inr (6, [.int thr, .ref h6_ms, .ref h6_mv, .int svm, .ref h6_mb, .int mln, .ref h6_mc, .ref h6_mg, .ref h6_mt, .ref h6_ml, .int mat, .int wel, .ref h6_mr, .int rdm, .long hsh])), (h6_ms, .inl (cI, 253, .inl ms)), (h6_mv, .inl (cI, 1518, .inl mv)), (h6_mb, .inl (cI, 60, .inl mb)), (h6_mc, .inl (cI, 160, .inl mc)), (h6_mg, .inl (cI, 160, .inl mg)), (h6_mt, .inl (cI, 240, .inl mt)), (h6_ml, .inl (cI, 240, .inl ml)), (h6_mr, .inl (cI, 600, .inl mr))] [(h6, .inr (6, [.int z.2.1, .ref h6_ms, .ref h6_mv, .int z.2.2.2.2, .ref h6_mb, .int mln, .ref h6_mc, .ref h6_mg, .ref h6_mt, .ref h6_ml, .int mat, .int wel, .ref h6_mr, .int rdm, .long hsh])), (h6_ms, .inl (cI, 253, .inl z.2.2.1)), (h6_mv, .inl (cI, 1518, .inl z.2.2.2.1)), (h6_mb, .inl (cI, 60, .inl mb)), (h6_mc, .inl (cI, 160, .inl mc)), (h6_mg, .inl (cI, 160, .inl mg)), (h6_mt, .inl (cI, 240, .inl mt)), (h6_ml, .inl (cI, 240, .inl ml)), (h6_mr, .inl (cI, 600, .inl mr))] z.1 sz) (cc := cX6_keep) (maxL := 3) (ret := (some .int)) (by decide) rfl (Nat.le_of_ble_eq_true rfl) ?_
  intro p e s m args below meth c A Q H ls hx hb hml hr hts hown hlocks hAe hQ hK hN hA hP hD hS hl
  have hown : s.vm.findClass RX6 = some m.cls := hown
  have hl : lv_has ls 3 [(0, .ref h6), (1, .int a1), (2, .int a2)] := hl
  have hP : va_P D vwCl ([(h6, .inr (6, [.int thr, .ref h6_ms, .ref h6_mv, .int svm, .ref h6_mb, .int mln, .ref h6_mc, .ref h6_mg, .ref h6_mt, .ref h6_ml, .int mat, .int wel, .ref h6_mr, .int rdm, .long hsh])), (h6_ms, .inl (cI, 253, .inl ms)), (h6_mv, .inl (cI, 1518, .inl mv)), (h6_mb, .inl (cI, 60, .inl mb)), (h6_mc, .inl (cI, 160, .inl mc)), (h6_mg, .inl (cI, 160, .inl mg)), (h6_mt, .inl (cI, 240, .inl mt)), (h6_ml, .inl (cI, 240, .inl ml)), (h6_mr, .inl (cI, 600, .inl mr))] ++ []) H := hP
  have hD : va_D A ([(h6, .inr (6, [.int thr, .ref h6_ms, .ref h6_mv, .int svm, .ref h6_mb, .int mln, .ref h6_mc, .ref h6_mg, .ref h6_mt, .ref h6_ml, .int mat, .int wel, .ref h6_mr, .int rdm, .long hsh])), (h6_ms, .inl (cI, 253, .inl ms)), (h6_mv, .inl (cI, 1518, .inl mv)), (h6_mb, .inl (cI, 60, .inl mb)), (h6_mc, .inl (cI, 160, .inl mc)), (h6_mg, .inl (cI, 160, .inl mg)), (h6_mt, .inl (cI, 240, .inl mt)), (h6_ml, .inl (cI, 240, .inl ml)), (h6_mr, .inl (cI, 600, .inl mr))] ++ []) := hD
  have iX6 : ∀ w ∈ u_ws RX6 TX6 15, w ∈ wsX6_keep := fun _ h => List.mem_cons_of_mem _ (List.mem_append_right _ h)
  unfold fX6_keep at h
  refine lv_aload_n hx hb dX6_keep_0 rfl (lv_at hl 0 rfl) ?_
  refine lv_iconst (v := 0) hx hb dX6_keep_1 (by decide) ?_
  refine va_put (D := D) (ci := 6) (v := .int 0) (ty := .int) (C := RX6) (T := TX6) (N := 15) hx hb hts iX6 tyX6 tyX6_ok nmX6 hown hK hP hD hS 0 rfl rfl 0 (by decide) (hts (.fieldLink RX6 34 "HiddenPeriodsModel" "thrown" "I") (by decide +kernel)) (fun _ h9 => h9) rfl (by decide +kernel) rfl rfl (Nat.le_of_ble_eq_true rfl) dX6_keep_2 (fun H locs hP hD hS => ?_)
  have hP : va_P D vwCl ([(h6, .inr (6, [.int 0, .ref h6_ms, .ref h6_mv, .int svm, .ref h6_mb, .int mln, .ref h6_mc, .ref h6_mg, .ref h6_mt, .ref h6_ml, .int mat, .int wel, .ref h6_mr, .int rdm, .long hsh])), (h6_ms, .inl (cI, 253, .inl ms)), (h6_mv, .inl (cI, 1518, .inl mv)), (h6_mb, .inl (cI, 60, .inl mb)), (h6_mc, .inl (cI, 160, .inl mc)), (h6_mg, .inl (cI, 160, .inl mg)), (h6_mt, .inl (cI, 240, .inl mt)), (h6_ml, .inl (cI, 240, .inl ml)), (h6_mr, .inl (cI, 600, .inl mr))] ++ []) H := hP
  have hD : va_D A ([(h6, .inr (6, [.int 0, .ref h6_ms, .ref h6_mv, .int svm, .ref h6_mb, .int mln, .ref h6_mc, .ref h6_mg, .ref h6_mt, .ref h6_ml, .int mat, .int wel, .ref h6_mr, .int rdm, .long hsh])), (h6_ms, .inl (cI, 253, .inl ms)), (h6_mv, .inl (cI, 1518, .inl mv)), (h6_mb, .inl (cI, 60, .inl mb)), (h6_mc, .inl (cI, 160, .inl mc)), (h6_mg, .inl (cI, 160, .inl mg)), (h6_mt, .inl (cI, 240, .inl mt)), (h6_ml, .inl (cI, 240, .inl ml)), (h6_mr, .inl (cI, 600, .inl mr))] ++ []) := hD
  refine lv_iload_n hx hb dX6_keep_5 rfl (lv_at hl 1 rfl) ?_
  refine lv_iload_n hx hb dX6_keep_6 rfl (lv_at hl 2 rfl) ?_
  obtain ⟨x1, hx1, h⟩ := bnd h
  refine pw_go0 (va_runS (As := [.int a1, .int a2]) (rest := []) ⟨hx, hb, hml, hown, hts⟩ (mX6_isPeriod l D cI cO cJ H.size a1 a2 _ hx1) (va_cwS 2 hts gX6_keep_X6_isPeriod rfl rfl rfl (by decide +kernel) ⟨Nat.le_of_ble_eq_true rfl, Nat.le_of_ble_eq_true rfl⟩) (pw_preS hK hN pw_nilP (pw_nilD (A := A))) rfl rfl hl.1 rfl (lv_room (Nat.le_of_ble_eq_true rfl)) dX6_keep_7 ⟨Nat.zero_le _, Nat.zero_le _⟩) hP hS hA (fun H locs hP hS => ?_)
  refine lv_if_ne (tgt := 19) hx hb dX6_keep_10 (by decide) (fun cq => ?_) (fun cq => ?_)
  · replace h := ifn cq h
    refine lv_aload_n hx hb dX6_keep_19 rfl (lv_at hl 0 rfl) ?_
    refine va_get (D := D) (ci := 6) (v := .ref h6_ms) (C := RX6) (T := TX6) (N := 15) hx hb hts iX6 hown hK hP 0 rfl rfl 1 (by decide) (hts (.fieldLink RX6 7 "HiddenPeriodsModel" "s" "[I") (by decide +kernel)) (fun _ h9 => h9) rfl dX6_keep_20 ?_
    refine lv_iconst (v := 4) hx hb dX6_keep_23 (by decide) ?_
    obtain ⟨g2, h⟩ := gdn h
    refine va_iald hx hb hK hP 1 0 rfl rfl g2 dX6_keep_24 ?_
    refine lv_iconst (v := 4) hx hb dX6_keep_25 (by decide) ?_
    refine lv_icmp_eq (tgt := 38) hx hb dX6_keep_26 (by decide) (fun cq => ?_) (fun cq => ?_)
    · replace h := ifp cq h
      refine lv_aload_n hx hb dX6_keep_38 rfl (lv_at hl 0 rfl) ?_
      refine lv_iconst (v := 2) hx hb dX6_keep_39 (by decide) ?_
      obtain ⟨⟨x3_1, x3_2⟩, hx3, h⟩ := bnd h
      refine pw_goi (wc := [(h6, .inr (6, [.int 0, .ref h6_ms, .ref h6_mv, .int svm, .ref h6_mb, .int mln, .ref h6_mc, .ref h6_mg, .ref h6_mt, .ref h6_ml, .int mat, .int wel, .ref h6_mr, .int rdm, .long hsh])), (h6_ms, .inl (cI, 253, .inl ms)), (h6_mv, .inl (cI, 1518, .inl mv)), (h6_mb, .inl (cI, 60, .inl mb)), (h6_mc, .inl (cI, 160, .inl mc)), (h6_mg, .inl (cI, 160, .inl mg)), (h6_mt, .inl (cI, 240, .inl mt)), (h6_ml, .inl (cI, 240, .inl ml)), (h6_mr, .inl (cI, 600, .inl mr))]) (w1 := [(h6, .inr (6, [.int x3_2, .ref h6_ms, .ref h6_mv, .int svm, .ref h6_mb, .int mln, .ref h6_mc, .ref h6_mg, .ref h6_mt, .ref h6_ml, .int mat, .int wel, .ref h6_mr, .int rdm, .long hsh])), (h6_ms, .inl (cI, 253, .inl ms)), (h6_mv, .inl (cI, 1518, .inl mv)), (h6_mb, .inl (cI, 60, .inl mb)), (h6_mc, .inl (cI, 160, .inl mc)), (h6_mg, .inl (cI, 160, .inl mg)), (h6_mt, .inl (cI, 240, .inl mt)), (h6_ml, .inl (cI, 240, .inl ml)), (h6_mr, .inl (cI, 600, .inl mr))]) (w2 := [(h6, .inr (6, [.int x3_2, .ref h6_ms, .ref h6_mv, .int svm, .ref h6_mb, .int mln, .ref h6_mc, .ref h6_mg, .ref h6_mt, .ref h6_ml, .int mat, .int wel, .ref h6_mr, .int rdm, .long hsh])), (h6_ms, .inl (cI, 253, .inl ms)), (h6_mv, .inl (cI, 1518, .inl mv)), (h6_mb, .inl (cI, 60, .inl mb)), (h6_mc, .inl (cI, 160, .inl mc)), (h6_mg, .inl (cI, 160, .inl mg)), (h6_mt, .inl (cI, 240, .inl mt)), (h6_ml, .inl (cI, 240, .inl ml)), (h6_mr, .inl (cI, 600, .inl mr))]) (va_runV (As := [.int 2]) (rest := []) ⟨hx, hb, hml, hown, hts⟩ (mX6_fails l D cI cO cJ h6 h6_ms h6_mv h6_mb h6_mc h6_mg h6_mt h6_ml h6_mr H.size 0 ms mv svm mb mln mc mg mt ml mat wel mr rdm hsh 2 _ hx3) (cwV 1 hts gX6_keep_X6_fails rfl rfl rfl (by decide +kernel) ⟨Nat.le_of_ble_eq_true rfl, Nat.le_of_ble_eq_true rfl⟩) (pw_preV hK hN (pw_sub hP [0, 1, 2, 3, 4, 5, 6, 7, 8] rfl) (pw_subD hD [0, 1, 2, 3, 4, 5, 6, 7, 8] (by decide) rfl) (ci := 6) (q0 := 0) rfl rfl) rfl rfl hl.1 rfl (lv_room (Nat.le_of_ble_eq_true rfl)) dX6_keep_40 ⟨Nat.zero_le _, Nat.zero_le _⟩) hP hD hS hA [0, 1, 2, 3, 4, 5, 6, 7, 8] [] [0, 1, 2, 3, 4, 5, 6, 7, 8] rfl rfl (by decide) (by decide) (by decide) rfl (fun H locs hP hD hS => ?_)
      cases h
      exact pw_iret hx hb hr hlocks hAe hQ hP hD hS dX6_keep_43
    · replace h := ifn cq h
      refine lv_aload_n hx hb dX6_keep_29 rfl (lv_at hl 0 rfl) ?_
      refine lv_iload_n hx hb dX6_keep_30 rfl (lv_at hl 1 rfl) ?_
      refine lv_iload_n hx hb dX6_keep_31 rfl (lv_at hl 2 rfl) ?_
      obtain ⟨x4, hx4, h⟩ := bnd h
      refine pw_goi (wc := [(h6, .inr (6, [.int 0, .ref h6_ms, .ref h6_mv, .int svm, .ref h6_mb, .int mln, .ref h6_mc, .ref h6_mg, .ref h6_mt, .ref h6_ml, .int mat, .int wel, .ref h6_mr, .int rdm, .long hsh])), (h6_ms, .inl (cI, 253, .inl ms)), (h6_mv, .inl (cI, 1518, .inl mv)), (h6_mb, .inl (cI, 60, .inl mb)), (h6_mc, .inl (cI, 160, .inl mc)), (h6_mg, .inl (cI, 160, .inl mg)), (h6_mt, .inl (cI, 240, .inl mt)), (h6_ml, .inl (cI, 240, .inl ml)), (h6_mr, .inl (cI, 600, .inl mr))]) (w1 := [(h6, .inr (6, [.int 0, .ref h6_ms, .ref h6_mv, .int svm, .ref h6_mb, .int mln, .ref h6_mc, .ref h6_mg, .ref h6_mt, .ref h6_ml, .int mat, .int wel, .ref h6_mr, .int rdm, .long hsh])), (h6_ms, .inl (cI, 253, .inl ms)), (h6_mv, .inl (cI, 1518, .inl mv)), (h6_mb, .inl (cI, 60, .inl mb)), (h6_mc, .inl (cI, 160, .inl mc)), (h6_mg, .inl (cI, 160, .inl mg)), (h6_mt, .inl (cI, 240, .inl mt)), (h6_ml, .inl (cI, 240, .inl ml)), (h6_mr, .inl (cI, 600, .inl mr))]) (w2 := [(h6, .inr (6, [.int 0, .ref h6_ms, .ref h6_mv, .int svm, .ref h6_mb, .int mln, .ref h6_mc, .ref h6_mg, .ref h6_mt, .ref h6_ml, .int mat, .int wel, .ref h6_mr, .int rdm, .long hsh])), (h6_ms, .inl (cI, 253, .inl ms)), (h6_mv, .inl (cI, 1518, .inl mv)), (h6_mb, .inl (cI, 60, .inl mb)), (h6_mc, .inl (cI, 160, .inl mc)), (h6_mg, .inl (cI, 160, .inl mg)), (h6_mt, .inl (cI, 240, .inl mt)), (h6_ml, .inl (cI, 240, .inl ml)), (h6_mr, .inl (cI, 600, .inl mr))]) (va_runV (As := [.int a1, .int a2]) (rest := []) ⟨hx, hb, hml, hown, hts⟩ (mX6_isKept l D cI cO cJ h6 h6_ms h6_mv h6_mb h6_mc h6_mg h6_mt h6_ml h6_mr H.size 0 ms mv svm mb mln mc mg mt ml mat wel mr rdm hsh a1 a2 _ hx4) (cwV 2 hts gX6_keep_X6_isKept rfl rfl rfl (by decide +kernel) ⟨Nat.le_of_ble_eq_true rfl, Nat.le_of_ble_eq_true rfl⟩) (pw_preV hK hN (pw_sub hP [0, 1, 2, 3, 4, 5, 6, 7, 8] rfl) (pw_subD hD [0, 1, 2, 3, 4, 5, 6, 7, 8] (by decide) rfl) (ci := 6) (q0 := 0) rfl rfl) rfl rfl hl.1 rfl (lv_room (Nat.le_of_ble_eq_true rfl)) dX6_keep_32 ⟨Nat.zero_le _, Nat.zero_le _⟩) hP hD hS hA [0, 1, 2, 3, 4, 5, 6, 7, 8] [] [0, 1, 2, 3, 4, 5, 6, 7, 8] rfl rfl (by decide) (by decide) (by decide) rfl (fun H locs hP hD hS => ?_)
      refine lv_if_eq (tgt := 44) hx hb dX6_keep_35 (by decide) (fun cq => ?_) (fun cq => ?_)
      · replace h := ifp cq h
        refine lv_aload_n hx hb dX6_keep_44 rfl (lv_at hl 0 rfl) ?_
        obtain ⟨⟨x5_1, x5_2⟩, hx5, h⟩ := bnd h
        refine pw_gov (wc := [(h6, .inr (6, [.int 0, .ref h6_ms, .ref h6_mv, .int svm, .ref h6_mb, .int mln, .ref h6_mc, .ref h6_mg, .ref h6_mt, .ref h6_ml, .int mat, .int wel, .ref h6_mr, .int rdm, .long hsh])), (h6_ms, .inl (cI, 253, .inl ms)), (h6_mv, .inl (cI, 1518, .inl mv)), (h6_mb, .inl (cI, 60, .inl mb)), (h6_mc, .inl (cI, 160, .inl mc)), (h6_mg, .inl (cI, 160, .inl mg)), (h6_mt, .inl (cI, 240, .inl mt)), (h6_ml, .inl (cI, 240, .inl ml)), (h6_mr, .inl (cI, 600, .inl mr))]) (w1 := [(h6, .inr (6, [.int 0, .ref h6_ms, .ref h6_mv, .int x5_2, .ref h6_mb, .int mln, .ref h6_mc, .ref h6_mg, .ref h6_mt, .ref h6_ml, .int mat, .int wel, .ref h6_mr, .int rdm, .long hsh])), (h6_ms, .inl (cI, 253, .inl ms)), (h6_mv, .inl (cI, 1518, .inl x5_1)), (h6_mb, .inl (cI, 60, .inl mb)), (h6_mc, .inl (cI, 160, .inl mc)), (h6_mg, .inl (cI, 160, .inl mg)), (h6_mt, .inl (cI, 240, .inl mt)), (h6_ml, .inl (cI, 240, .inl ml)), (h6_mr, .inl (cI, 600, .inl mr))]) (w2 := [(h6, .inr (6, [.int 0, .ref h6_ms, .ref h6_mv, .int x5_2, .ref h6_mb, .int mln, .ref h6_mc, .ref h6_mg, .ref h6_mt, .ref h6_ml, .int mat, .int wel, .ref h6_mr, .int rdm, .long hsh])), (h6_ms, .inl (cI, 253, .inl ms)), (h6_mv, .inl (cI, 1518, .inl x5_1)), (h6_mb, .inl (cI, 60, .inl mb)), (h6_mc, .inl (cI, 160, .inl mc)), (h6_mg, .inl (cI, 160, .inl mg)), (h6_mt, .inl (cI, 240, .inl mt)), (h6_ml, .inl (cI, 240, .inl ml)), (h6_mr, .inl (cI, 600, .inl mr))]) (va_runV (As := []) (rest := []) ⟨hx, hb, hml, hown, hts⟩ (mX6_saves l D cI cO cJ h6 h6_ms h6_mv h6_mb h6_mc h6_mg h6_mt h6_ml h6_mr H.size 0 ms mv svm mb mln mc mg mt ml mat wel mr rdm hsh _ hx5) (cwV 0 hts gX6_keep_X6_saves rfl rfl rfl (by decide +kernel) ⟨Nat.le_of_ble_eq_true rfl, Nat.le_of_ble_eq_true rfl⟩) (pw_preV hK hN (pw_sub hP [0, 1, 2, 3, 4, 5, 6, 7, 8] rfl) (pw_subD hD [0, 1, 2, 3, 4, 5, 6, 7, 8] (by decide) rfl) (ci := 6) (q0 := 0) rfl rfl) rfl rfl hl.1 rfl (lv_room (Nat.le_of_ble_eq_true rfl)) dX6_keep_45 ⟨Nat.zero_le _, Nat.zero_le _⟩) hP hD hS hA [0, 1, 2, 3, 4, 5, 6, 7, 8] [] [0, 1, 2, 3, 4, 5, 6, 7, 8] rfl rfl (by decide) (by decide) (by decide) rfl (fun H locs hP hD hS => ?_)
        refine lv_aload_n hx hb dX6_keep_48 rfl (lv_at hl 0 rfl) ?_
        refine lv_iload_n hx hb dX6_keep_49 rfl (lv_at hl 1 rfl) ?_
        refine lv_iload_n hx hb dX6_keep_50 rfl (lv_at hl 2 rfl) ?_
        obtain ⟨⟨x6_1, x6_2⟩, hx6, h⟩ := bnd h
        refine pw_goi (wc := [(h6, .inr (6, [.int 0, .ref h6_ms, .ref h6_mv, .int x5_2, .ref h6_mb, .int mln, .ref h6_mc, .ref h6_mg, .ref h6_mt, .ref h6_ml, .int mat, .int wel, .ref h6_mr, .int rdm, .long hsh])), (h6_ms, .inl (cI, 253, .inl ms)), (h6_mv, .inl (cI, 1518, .inl x5_1)), (h6_mb, .inl (cI, 60, .inl mb)), (h6_mc, .inl (cI, 160, .inl mc)), (h6_mg, .inl (cI, 160, .inl mg)), (h6_mt, .inl (cI, 240, .inl mt)), (h6_ml, .inl (cI, 240, .inl ml)), (h6_mr, .inl (cI, 600, .inl mr))]) (w1 := [(h6, .inr (6, [.int 0, .ref h6_ms, .ref h6_mv, .int x5_2, .ref h6_mb, .int mln, .ref h6_mc, .ref h6_mg, .ref h6_mt, .ref h6_ml, .int mat, .int wel, .ref h6_mr, .int rdm, .long hsh])), (h6_ms, .inl (cI, 253, .inl x6_2)), (h6_mv, .inl (cI, 1518, .inl x5_1)), (h6_mb, .inl (cI, 60, .inl mb)), (h6_mc, .inl (cI, 160, .inl mc)), (h6_mg, .inl (cI, 160, .inl mg)), (h6_mt, .inl (cI, 240, .inl mt)), (h6_ml, .inl (cI, 240, .inl ml)), (h6_mr, .inl (cI, 600, .inl mr))]) (w2 := [(h6, .inr (6, [.int 0, .ref h6_ms, .ref h6_mv, .int x5_2, .ref h6_mb, .int mln, .ref h6_mc, .ref h6_mg, .ref h6_mt, .ref h6_ml, .int mat, .int wel, .ref h6_mr, .int rdm, .long hsh])), (h6_ms, .inl (cI, 253, .inl x6_2)), (h6_mv, .inl (cI, 1518, .inl x5_1)), (h6_mb, .inl (cI, 60, .inl mb)), (h6_mc, .inl (cI, 160, .inl mc)), (h6_mg, .inl (cI, 160, .inl mg)), (h6_mt, .inl (cI, 240, .inl mt)), (h6_ml, .inl (cI, 240, .inl ml)), (h6_mr, .inl (cI, 600, .inl mr))]) (va_runV (As := [.int a1, .int a2]) (rest := []) ⟨hx, hb, hml, hown, hts⟩ (mX6_keeps l D cI cO cJ h6 h6_ms h6_mv h6_mb h6_mc h6_mg h6_mt h6_ml h6_mr H.size 0 ms x5_1 x5_2 mb mln mc mg mt ml mat wel mr rdm hsh a1 a2 _ hx6) (cwV 2 hts gX6_keep_X6_keeps rfl rfl rfl (by decide +kernel) ⟨Nat.le_of_ble_eq_true rfl, Nat.le_of_ble_eq_true rfl⟩) (pw_preV hK hN (pw_sub hP [0, 1, 2, 3, 4, 5, 6, 7, 8] rfl) (pw_subD hD [0, 1, 2, 3, 4, 5, 6, 7, 8] (by decide) rfl) (ci := 6) (q0 := 0) rfl rfl) rfl rfl hl.1 rfl (lv_room (Nat.le_of_ble_eq_true rfl)) dX6_keep_51 ⟨Nat.zero_le _, Nat.zero_le _⟩) hP hD hS hA [0, 1, 2, 3, 4, 5, 6, 7, 8] [] [0, 1, 2, 3, 4, 5, 6, 7, 8] rfl rfl (by decide) (by decide) (by decide) rfl (fun H locs hP hD hS => ?_)
        cases h
        exact pw_iret hx hb hr hlocks hAe hQ hP hD hS dX6_keep_54
      · replace h := ifn cq h
        refine lv_aload_n hx hb dX6_keep_38 rfl (lv_at hl 0 rfl) ?_
        refine lv_iconst (v := 2) hx hb dX6_keep_39 (by decide) ?_
        obtain ⟨⟨x7_1, x7_2⟩, hx7, h⟩ := bnd h
        refine pw_goi (wc := [(h6, .inr (6, [.int 0, .ref h6_ms, .ref h6_mv, .int svm, .ref h6_mb, .int mln, .ref h6_mc, .ref h6_mg, .ref h6_mt, .ref h6_ml, .int mat, .int wel, .ref h6_mr, .int rdm, .long hsh])), (h6_ms, .inl (cI, 253, .inl ms)), (h6_mv, .inl (cI, 1518, .inl mv)), (h6_mb, .inl (cI, 60, .inl mb)), (h6_mc, .inl (cI, 160, .inl mc)), (h6_mg, .inl (cI, 160, .inl mg)), (h6_mt, .inl (cI, 240, .inl mt)), (h6_ml, .inl (cI, 240, .inl ml)), (h6_mr, .inl (cI, 600, .inl mr))]) (w1 := [(h6, .inr (6, [.int x7_2, .ref h6_ms, .ref h6_mv, .int svm, .ref h6_mb, .int mln, .ref h6_mc, .ref h6_mg, .ref h6_mt, .ref h6_ml, .int mat, .int wel, .ref h6_mr, .int rdm, .long hsh])), (h6_ms, .inl (cI, 253, .inl ms)), (h6_mv, .inl (cI, 1518, .inl mv)), (h6_mb, .inl (cI, 60, .inl mb)), (h6_mc, .inl (cI, 160, .inl mc)), (h6_mg, .inl (cI, 160, .inl mg)), (h6_mt, .inl (cI, 240, .inl mt)), (h6_ml, .inl (cI, 240, .inl ml)), (h6_mr, .inl (cI, 600, .inl mr))]) (w2 := [(h6, .inr (6, [.int x7_2, .ref h6_ms, .ref h6_mv, .int svm, .ref h6_mb, .int mln, .ref h6_mc, .ref h6_mg, .ref h6_mt, .ref h6_ml, .int mat, .int wel, .ref h6_mr, .int rdm, .long hsh])), (h6_ms, .inl (cI, 253, .inl ms)), (h6_mv, .inl (cI, 1518, .inl mv)), (h6_mb, .inl (cI, 60, .inl mb)), (h6_mc, .inl (cI, 160, .inl mc)), (h6_mg, .inl (cI, 160, .inl mg)), (h6_mt, .inl (cI, 240, .inl mt)), (h6_ml, .inl (cI, 240, .inl ml)), (h6_mr, .inl (cI, 600, .inl mr))]) (va_runV (As := [.int 2]) (rest := []) ⟨hx, hb, hml, hown, hts⟩ (mX6_fails l D cI cO cJ h6 h6_ms h6_mv h6_mb h6_mc h6_mg h6_mt h6_ml h6_mr H.size 0 ms mv svm mb mln mc mg mt ml mat wel mr rdm hsh 2 _ hx7) (cwV 1 hts gX6_keep_X6_fails rfl rfl rfl (by decide +kernel) ⟨Nat.le_of_ble_eq_true rfl, Nat.le_of_ble_eq_true rfl⟩) (pw_preV hK hN (pw_sub hP [0, 1, 2, 3, 4, 5, 6, 7, 8] rfl) (pw_subD hD [0, 1, 2, 3, 4, 5, 6, 7, 8] (by decide) rfl) (ci := 6) (q0 := 0) rfl rfl) rfl rfl hl.1 rfl (lv_room (Nat.le_of_ble_eq_true rfl)) dX6_keep_40 ⟨Nat.zero_le _, Nat.zero_le _⟩) hP hD hS hA [0, 1, 2, 3, 4, 5, 6, 7, 8] [] [0, 1, 2, 3, 4, 5, 6, 7, 8] rfl rfl (by decide) (by decide) (by decide) rfl (fun H locs hP hD hS => ?_)
        cases h
        exact pw_iret hx hb hr hlocks hAe hQ hP hD hS dX6_keep_43
  · replace h := ifp cq h
    refine lv_aload_n hx hb dX6_keep_13 rfl (lv_at hl 0 rfl) ?_
    refine lv_iconst (v := 1) hx hb dX6_keep_14 (by decide) ?_
    obtain ⟨⟨x8_1, x8_2⟩, hx8, h⟩ := bnd h
    refine pw_goi (wc := [(h6, .inr (6, [.int 0, .ref h6_ms, .ref h6_mv, .int svm, .ref h6_mb, .int mln, .ref h6_mc, .ref h6_mg, .ref h6_mt, .ref h6_ml, .int mat, .int wel, .ref h6_mr, .int rdm, .long hsh])), (h6_ms, .inl (cI, 253, .inl ms)), (h6_mv, .inl (cI, 1518, .inl mv)), (h6_mb, .inl (cI, 60, .inl mb)), (h6_mc, .inl (cI, 160, .inl mc)), (h6_mg, .inl (cI, 160, .inl mg)), (h6_mt, .inl (cI, 240, .inl mt)), (h6_ml, .inl (cI, 240, .inl ml)), (h6_mr, .inl (cI, 600, .inl mr))]) (w1 := [(h6, .inr (6, [.int x8_2, .ref h6_ms, .ref h6_mv, .int svm, .ref h6_mb, .int mln, .ref h6_mc, .ref h6_mg, .ref h6_mt, .ref h6_ml, .int mat, .int wel, .ref h6_mr, .int rdm, .long hsh])), (h6_ms, .inl (cI, 253, .inl ms)), (h6_mv, .inl (cI, 1518, .inl mv)), (h6_mb, .inl (cI, 60, .inl mb)), (h6_mc, .inl (cI, 160, .inl mc)), (h6_mg, .inl (cI, 160, .inl mg)), (h6_mt, .inl (cI, 240, .inl mt)), (h6_ml, .inl (cI, 240, .inl ml)), (h6_mr, .inl (cI, 600, .inl mr))]) (w2 := [(h6, .inr (6, [.int x8_2, .ref h6_ms, .ref h6_mv, .int svm, .ref h6_mb, .int mln, .ref h6_mc, .ref h6_mg, .ref h6_mt, .ref h6_ml, .int mat, .int wel, .ref h6_mr, .int rdm, .long hsh])), (h6_ms, .inl (cI, 253, .inl ms)), (h6_mv, .inl (cI, 1518, .inl mv)), (h6_mb, .inl (cI, 60, .inl mb)), (h6_mc, .inl (cI, 160, .inl mc)), (h6_mg, .inl (cI, 160, .inl mg)), (h6_mt, .inl (cI, 240, .inl mt)), (h6_ml, .inl (cI, 240, .inl ml)), (h6_mr, .inl (cI, 600, .inl mr))]) (va_runV (As := [.int 1]) (rest := []) ⟨hx, hb, hml, hown, hts⟩ (mX6_fails l D cI cO cJ h6 h6_ms h6_mv h6_mb h6_mc h6_mg h6_mt h6_ml h6_mr H.size 0 ms mv svm mb mln mc mg mt ml mat wel mr rdm hsh 1 _ hx8) (cwV 1 hts gX6_keep_X6_fails rfl rfl rfl (by decide +kernel) ⟨Nat.le_of_ble_eq_true rfl, Nat.le_of_ble_eq_true rfl⟩) (pw_preV hK hN (pw_sub hP [0, 1, 2, 3, 4, 5, 6, 7, 8] rfl) (pw_subD hD [0, 1, 2, 3, 4, 5, 6, 7, 8] (by decide) rfl) (ci := 6) (q0 := 0) rfl rfl) rfl rfl hl.1 rfl (lv_room (Nat.le_of_ble_eq_true rfl)) dX6_keep_15 ⟨Nat.zero_le _, Nat.zero_le _⟩) hP hD hS hA [0, 1, 2, 3, 4, 5, 6, 7, 8] [] [0, 1, 2, 3, 4, 5, 6, 7, 8] rfl rfl (by decide) (by decide) (by decide) rfl (fun H locs hP hD hS => ?_)
    cases h
    exact pw_iret hx hb hr hlocks hAe hQ hP hD hS dX6_keep_18
def fX6_drop_L45 : Nat → Int32 → (Nat → Int32) → Option (Nat → Int32)
  | 0, _, _ => none
  | n + 1, v2_45, ms_45 =>
    if oob 4 253 then none else
    if (2 * (ms_45 (4 : Int32).toNatClampNeg)) ≤ v2_45 then
    some ms_45
    else
    if oob ((5 + v2_45) + 2) 253 then none else
    if oob (5 + v2_45) 253 then none else
    fX6_drop_L45 n (v2_45 + 1) (upd ms_45 ((5 + v2_45)).toNatClampNeg (ms_45 (((5 + v2_45) + 2)).toNatClampNeg))
def fX6_drop (ms : Nat → Int32) (mv : Nat → Int32) (svm : Int32) (a1 : Int32) : Option (Int32 × Int32 × (Nat → Int32) × (Nat → Int32) × Int32) :=
  if oob 4 253 then none else
  (fX6_in a1 0 ((ms (4 : Int32).toNatClampNeg) - 1)).bind fun x2 =>
  if x2 = 0 then
  (fX6_fails 1).bind fun (x15_1, x15_2) =>
  some (x15_1, x15_2, ms, mv, svm)
  else
  (fX6_saves ms mv svm).bind fun (x3_1, x3_2) =>
  if oob 4 253 then none else
  if oob 4 253 then none else
  (fX6_drop_L45 FU (2 * a1) (upd ms (4 : Int32).toNatClampNeg ((ms (4 : Int32).toNatClampNeg) - 1))).bind fun x9 =>
  if oob 4 253 then none else
  if oob (5 + (2 * (x9 (4 : Int32).toNatClampNeg))) 253 then none else
  if oob 4 253 then none else
  if oob ((5 + (2 * ((upd x9 ((5 + (2 * (x9 (4 : Int32).toNatClampNeg)))).toNatClampNeg 0) (4 : Int32).toNatClampNeg))) + 1) 253 then none else
  if oob 4 253 then none else
  some (((upd (upd x9 ((5 + (2 * (x9 (4 : Int32).toNatClampNeg)))).toNatClampNeg 0) (((5 + (2 * ((upd x9 ((5 + (2 * (x9 (4 : Int32).toNatClampNeg)))).toNatClampNeg 0) (4 : Int32).toNatClampNeg))) + 1)).toNatClampNeg 0) (4 : Int32).toNatClampNeg), 0, (upd (upd x9 ((5 + (2 * (x9 (4 : Int32).toNatClampNeg)))).toNatClampNeg 0) (((5 + (2 * ((upd x9 ((5 + (2 * (x9 (4 : Int32).toNatClampNeg)))).toNatClampNeg 0) (4 : Int32).toNatClampNeg))) + 1)).toNatClampNeg 0), x3_1, x3_2)
abbrev rmX6_drop : Room := { frames := 1, cells := 0, slots := 0, locals := 22 }
set_option maxHeartbeats 4000000 in
set_option maxRecDepth 100000 in
theorem mX6_drop (l : Launch) (D : va_G) (cI cO cJ : ClassId) (h6 h6_ms h6_mv h6_mb h6_mc h6_mg h6_mt h6_ml h6_mr : Nat) (sz : Nat) (thr : Int32) (ms : Nat → Int32) (mv : Nat → Int32) (svm : Int32) (mb : Nat → Int32) (mln : Int32) (mc : Nat → Int32) (mg : Nat → Int32) (mt : Nat → Int32) (ml : Nat → Int32) (mat : Int32) (wel : Int32) (mr : Nat → Int32) (rdm : Int32) (hsh : Int64) (a1 : Int32) (z : Int32 × Int32 × (Nat → Int32) × (Nat → Int32) × Int32) (h : fX6_drop ms mv svm a1 = some z) : Met l yX6_drop wsX6_drop rmX6_drop (pw_pre D (tyL cI cO cJ) [.ref h6, .int a1] [(h6, .inr (6, [.int thr, .ref h6_ms, .ref h6_mv, .int svm, .ref h6_mb, .int mln, .ref h6_mc, .ref h6_mg, .ref h6_mt, .ref h6_ml, .int mat, .int wel, .ref h6_mr, .int rdm, .long hsh])), (h6_ms, .inl (cI, 253, .inl ms)), (h6_mv, .inl (cI, 1518, .inl mv)), (h6_mb, .inl (cI, 60, .inl mb)), (h6_mc, .inl (cI, 160, .inl mc)), (h6_mg, .inl (cI, 160, .inl mg)), (h6_mt, .inl (cI, 240, .inl mt)), (h6_ml, .inl (cI, 240, .inl ml)), (h6_mr, .inl (cI, 600, .inl mr))] sz) (pw_i D [(h6, .inr (6, [.int thr, .ref h6_ms, .ref h6_mv, .int svm, .ref h6_mb, .int mln, .ref h6_mc, .ref h6_mg, .ref h6_mt, .ref h6_ml, .int mat, .int wel, .ref h6_mr, .int rdm, .long hsh])), (h6_ms, .inl (cI, 253, .inl ms)), (h6_mv, .inl (cI, 1518, .inl mv)), (h6_mb, .inl (cI, 60, .inl mb)), (h6_mc, .inl (cI, 160, .inl mc)), (h6_mg, .inl (cI, 160, .inl mg)), (h6_mt, .inl (cI, 240, .inl mt)), (h6_ml, .inl (cI, 240, .inl ml)), (h6_mr, .inl (cI, 600, .inl mr))] [(h6, .inr (6, [.int z.2.1, .ref h6_ms, .ref h6_mv, .int z.2.2.2.2, .ref h6_mb, .int mln, .ref h6_mc, .ref h6_mg, .ref h6_mt, .ref h6_ml, .int mat, .int wel, .ref h6_mr, .int rdm, .long hsh])), (h6_ms, .inl (cI, 253, .inl z.2.2.1)), (h6_mv, .inl (cI, 1518, .inl z.2.2.2.1)), (h6_mb, .inl (cI, 60, .inl mb)), (h6_mc, .inl (cI, 160, .inl mc)), (h6_mg, .inl (cI, 160, .inl mg)), (h6_mt, .inl (cI, 240, .inl mt)), (h6_ml, .inl (cI, 240, .inl ml)), (h6_mr, .inl (cI, 600, .inl mr))] z.1 sz) 0 0 (va_A [(h6, .inr (6, [.int thr, .ref h6_ms, .ref h6_mv, .int svm, .ref h6_mb, .int mln, .ref h6_mc, .ref h6_mg, .ref h6_mt, .ref h6_ml, .int mat, .int wel, .ref h6_mr, .int rdm, .long hsh])), (h6_ms, .inl (cI, 253, .inl ms)), (h6_mv, .inl (cI, 1518, .inl mv)), (h6_mb, .inl (cI, 60, .inl mb)), (h6_mc, .inl (cI, 160, .inl mc)), (h6_mg, .inl (cI, 160, .inl mg)), (h6_mt, .inl (cI, 240, .inl mt)), (h6_ml, .inl (cI, 240, .inl ml)), (h6_mr, .inl (cI, 600, .inl mr))] sz) := by
  refine pw_of (Qc := fun sz => pw_i D [(h6, .inr (6, [.int thr, .ref h6_ms, .ref h6_mv, .int svm, .ref h6_mb, .int mln, .ref h6_mc, .ref h6_mg, .ref h6_mt, .ref h6_ml, .int mat, .int wel, .ref h6_mr, .int rdm, .long hsh])), (h6_ms, .inl (cI, 253, .inl ms)), (h6_mv, .inl (cI, 1518, .inl mv)), (h6_mb, .inl (cI, 60, .inl mb)), (h6_mc, .inl (cI, 160, .inl mc)), (h6_mg, .inl (cI, 160, .inl mg)), (h6_mt, .inl (cI, 240, .inl mt)), (h6_ml, .inl (cI, 240, .inl ml)), (h6_mr, .inl (cI, 600, .inl mr))] [(h6, .inr (6, [.int z.2.1, .ref h6_ms, .ref h6_mv, .int z.2.2.2.2, .ref h6_mb, .int mln, .ref h6_mc, .ref h6_mg, .ref h6_mt, .ref h6_ml, .int mat, .int wel, .ref h6_mr, .int rdm, .long hsh])), (h6_ms, .inl (cI, 253, .inl z.2.2.1)), (h6_mv, .inl (cI, 1518, .inl z.2.2.2.1)), (h6_mb, .inl (cI, 60, .inl mb)), (h6_mc, .inl (cI, 160, .inl mc)), (h6_mg, .inl (cI, 160, .inl mg)), (h6_mt, .inl (cI, 240, .inl mt)), (h6_ml, .inl (cI, 240, .inl ml)), (h6_mr, .inl (cI, 600, .inl mr))] z.1 sz) (cc := cX6_drop) (maxL := 3) (ret := (some .int)) (by decide) rfl (Nat.le_of_ble_eq_true rfl) ?_
  intro p e s m args below meth c A Q H ls hx hb hml hr hts hown hlocks hAe hQ hK hN hA hP hD hS hl
  have hown : s.vm.findClass RX6 = some m.cls := hown
  have hl : lv_has ls 3 [(0, .ref h6), (1, .int a1)] := hl
  have hP : va_P D vwCl ([(h6, .inr (6, [.int thr, .ref h6_ms, .ref h6_mv, .int svm, .ref h6_mb, .int mln, .ref h6_mc, .ref h6_mg, .ref h6_mt, .ref h6_ml, .int mat, .int wel, .ref h6_mr, .int rdm, .long hsh])), (h6_ms, .inl (cI, 253, .inl ms)), (h6_mv, .inl (cI, 1518, .inl mv)), (h6_mb, .inl (cI, 60, .inl mb)), (h6_mc, .inl (cI, 160, .inl mc)), (h6_mg, .inl (cI, 160, .inl mg)), (h6_mt, .inl (cI, 240, .inl mt)), (h6_ml, .inl (cI, 240, .inl ml)), (h6_mr, .inl (cI, 600, .inl mr))] ++ []) H := hP
  have hD : va_D A ([(h6, .inr (6, [.int thr, .ref h6_ms, .ref h6_mv, .int svm, .ref h6_mb, .int mln, .ref h6_mc, .ref h6_mg, .ref h6_mt, .ref h6_ml, .int mat, .int wel, .ref h6_mr, .int rdm, .long hsh])), (h6_ms, .inl (cI, 253, .inl ms)), (h6_mv, .inl (cI, 1518, .inl mv)), (h6_mb, .inl (cI, 60, .inl mb)), (h6_mc, .inl (cI, 160, .inl mc)), (h6_mg, .inl (cI, 160, .inl mg)), (h6_mt, .inl (cI, 240, .inl mt)), (h6_ml, .inl (cI, 240, .inl ml)), (h6_mr, .inl (cI, 600, .inl mr))] ++ []) := hD
  have iX6 : ∀ w ∈ u_ws RX6 TX6 15, w ∈ wsX6_drop := fun _ h => List.mem_cons_of_mem _ (List.mem_append_right _ h)
  unfold fX6_drop at h
  refine lv_aload_n hx hb dX6_drop_0 rfl (lv_at hl 0 rfl) ?_
  refine lv_iconst (v := 0) hx hb dX6_drop_1 (by decide) ?_
  refine va_put (D := D) (ci := 6) (v := .int 0) (ty := .int) (C := RX6) (T := TX6) (N := 15) hx hb hts iX6 tyX6 tyX6_ok nmX6 hown hK hP hD hS 0 rfl rfl 0 (by decide) (hts (.fieldLink RX6 34 "HiddenPeriodsModel" "thrown" "I") (by decide +kernel)) (fun _ h9 => h9) rfl (by decide +kernel) rfl rfl (Nat.le_of_ble_eq_true rfl) dX6_drop_2 (fun H locs hP hD hS => ?_)
  have hP : va_P D vwCl ([(h6, .inr (6, [.int 0, .ref h6_ms, .ref h6_mv, .int svm, .ref h6_mb, .int mln, .ref h6_mc, .ref h6_mg, .ref h6_mt, .ref h6_ml, .int mat, .int wel, .ref h6_mr, .int rdm, .long hsh])), (h6_ms, .inl (cI, 253, .inl ms)), (h6_mv, .inl (cI, 1518, .inl mv)), (h6_mb, .inl (cI, 60, .inl mb)), (h6_mc, .inl (cI, 160, .inl mc)), (h6_mg, .inl (cI, 160, .inl mg)), (h6_mt, .inl (cI, 240, .inl mt)), (h6_ml, .inl (cI, 240, .inl ml)), (h6_mr, .inl (cI, 600, .inl mr))] ++ []) H := hP
  have hD : va_D A ([(h6, .inr (6, [.int 0, .ref h6_ms, .ref h6_mv, .int svm, .ref h6_mb, .int mln, .ref h6_mc, .ref h6_mg, .ref h6_mt, .ref h6_ml, .int mat, .int wel, .ref h6_mr, .int rdm, .long hsh])), (h6_ms, .inl (cI, 253, .inl ms)), (h6_mv, .inl (cI, 1518, .inl mv)), (h6_mb, .inl (cI, 60, .inl mb)), (h6_mc, .inl (cI, 160, .inl mc)), (h6_mg, .inl (cI, 160, .inl mg)), (h6_mt, .inl (cI, 240, .inl mt)), (h6_ml, .inl (cI, 240, .inl ml)), (h6_mr, .inl (cI, 600, .inl mr))] ++ []) := hD
  refine lv_iload_n hx hb dX6_drop_5 rfl (lv_at hl 1 rfl) ?_
  refine lv_iconst (v := 0) hx hb dX6_drop_6 (by decide) ?_
  refine lv_aload_n hx hb dX6_drop_7 rfl (lv_at hl 0 rfl) ?_
  refine va_get (D := D) (ci := 6) (v := .ref h6_ms) (C := RX6) (T := TX6) (N := 15) hx hb hts iX6 hown hK hP 0 rfl rfl 1 (by decide) (hts (.fieldLink RX6 7 "HiddenPeriodsModel" "s" "[I") (by decide +kernel)) (fun _ h9 => h9) rfl dX6_drop_8 ?_
  refine lv_iconst (v := 4) hx hb dX6_drop_11 (by decide) ?_
  obtain ⟨g1, h⟩ := gdn h
  refine va_iald hx hb hK hP 1 0 rfl rfl g1 dX6_drop_12 ?_
  refine lv_iconst (v := 1) hx hb dX6_drop_13 (by decide) ?_
  refine lv_isub hx hb dX6_drop_14 ?_
  obtain ⟨x2, hx2, h⟩ := bnd h
  refine pw_go0 (va_runS (As := [.int a1, .int 0, .int ((ms (4 : Int32).toNatClampNeg) - 1)]) (rest := []) ⟨hx, hb, hml, hown, hts⟩ (mX6_in l D cI cO cJ H.size a1 0 ((ms (4 : Int32).toNatClampNeg) - 1) _ hx2) (va_cwS 3 hts gX6_drop_X6_in rfl rfl rfl (by decide +kernel) ⟨Nat.le_of_ble_eq_true rfl, Nat.le_of_ble_eq_true rfl⟩) (pw_preS hK hN pw_nilP (pw_nilD (A := A))) rfl rfl hl.1 rfl (lv_room (Nat.le_of_ble_eq_true rfl)) dX6_drop_15 ⟨Nat.zero_le _, Nat.zero_le _⟩) hP hS hA (fun H locs hP hS => ?_)
  refine lv_if_ne (tgt := 27) hx hb dX6_drop_18 (by decide) (fun cq => ?_) (fun cq => ?_)
  · replace h := ifn cq h
    refine lv_aload_n hx hb dX6_drop_27 rfl (lv_at hl 0 rfl) ?_
    obtain ⟨⟨x3_1, x3_2⟩, hx3, h⟩ := bnd h
    refine pw_gov (wc := [(h6, .inr (6, [.int 0, .ref h6_ms, .ref h6_mv, .int svm, .ref h6_mb, .int mln, .ref h6_mc, .ref h6_mg, .ref h6_mt, .ref h6_ml, .int mat, .int wel, .ref h6_mr, .int rdm, .long hsh])), (h6_ms, .inl (cI, 253, .inl ms)), (h6_mv, .inl (cI, 1518, .inl mv)), (h6_mb, .inl (cI, 60, .inl mb)), (h6_mc, .inl (cI, 160, .inl mc)), (h6_mg, .inl (cI, 160, .inl mg)), (h6_mt, .inl (cI, 240, .inl mt)), (h6_ml, .inl (cI, 240, .inl ml)), (h6_mr, .inl (cI, 600, .inl mr))]) (w1 := [(h6, .inr (6, [.int 0, .ref h6_ms, .ref h6_mv, .int x3_2, .ref h6_mb, .int mln, .ref h6_mc, .ref h6_mg, .ref h6_mt, .ref h6_ml, .int mat, .int wel, .ref h6_mr, .int rdm, .long hsh])), (h6_ms, .inl (cI, 253, .inl ms)), (h6_mv, .inl (cI, 1518, .inl x3_1)), (h6_mb, .inl (cI, 60, .inl mb)), (h6_mc, .inl (cI, 160, .inl mc)), (h6_mg, .inl (cI, 160, .inl mg)), (h6_mt, .inl (cI, 240, .inl mt)), (h6_ml, .inl (cI, 240, .inl ml)), (h6_mr, .inl (cI, 600, .inl mr))]) (w2 := [(h6, .inr (6, [.int 0, .ref h6_ms, .ref h6_mv, .int x3_2, .ref h6_mb, .int mln, .ref h6_mc, .ref h6_mg, .ref h6_mt, .ref h6_ml, .int mat, .int wel, .ref h6_mr, .int rdm, .long hsh])), (h6_ms, .inl (cI, 253, .inl ms)), (h6_mv, .inl (cI, 1518, .inl x3_1)), (h6_mb, .inl (cI, 60, .inl mb)), (h6_mc, .inl (cI, 160, .inl mc)), (h6_mg, .inl (cI, 160, .inl mg)), (h6_mt, .inl (cI, 240, .inl mt)), (h6_ml, .inl (cI, 240, .inl ml)), (h6_mr, .inl (cI, 600, .inl mr))]) (va_runV (As := []) (rest := []) ⟨hx, hb, hml, hown, hts⟩ (mX6_saves l D cI cO cJ h6 h6_ms h6_mv h6_mb h6_mc h6_mg h6_mt h6_ml h6_mr H.size 0 ms mv svm mb mln mc mg mt ml mat wel mr rdm hsh _ hx3) (cwV 0 hts gX6_drop_X6_saves rfl rfl rfl (by decide +kernel) ⟨Nat.le_of_ble_eq_true rfl, Nat.le_of_ble_eq_true rfl⟩) (pw_preV hK hN (pw_sub hP [0, 1, 2, 3, 4, 5, 6, 7, 8] rfl) (pw_subD hD [0, 1, 2, 3, 4, 5, 6, 7, 8] (by decide) rfl) (ci := 6) (q0 := 0) rfl rfl) rfl rfl hl.1 rfl (lv_room (Nat.le_of_ble_eq_true rfl)) dX6_drop_28 ⟨Nat.zero_le _, Nat.zero_le _⟩) hP hD hS hA [0, 1, 2, 3, 4, 5, 6, 7, 8] [] [0, 1, 2, 3, 4, 5, 6, 7, 8] rfl rfl (by decide) (by decide) (by decide) rfl (fun H locs hP hD hS => ?_)
    refine lv_aload_n hx hb dX6_drop_31 rfl (lv_at hl 0 rfl) ?_
    refine va_get (D := D) (ci := 6) (v := .ref h6_ms) (C := RX6) (T := TX6) (N := 15) hx hb hts iX6 hown hK hP 0 rfl rfl 1 (by decide) (hts (.fieldLink RX6 7 "HiddenPeriodsModel" "s" "[I") (by decide +kernel)) (fun _ h9 => h9) rfl dX6_drop_32 ?_
    refine lv_iconst (v := 4) hx hb dX6_drop_35 (by decide) ?_
    refine lv_dup2_11 hx hb dX6_drop_36 rfl rfl ?_
    obtain ⟨g4, h⟩ := gdn h
    refine va_iald hx hb hK hP 1 0 rfl rfl g4 dX6_drop_37 ?_
    refine lv_iconst (v := 1) hx hb dX6_drop_38 (by decide) ?_
    refine lv_isub hx hb dX6_drop_39 ?_
    obtain ⟨g5, h⟩ := gdn h
    refine va_iast hx hb hK hP hD hS 1 0 rfl rfl g5 dX6_drop_40 (fun H locs hP hD hS => ?_)
    have hP : va_P D vwCl ([(h6, .inr (6, [.int 0, .ref h6_ms, .ref h6_mv, .int x3_2, .ref h6_mb, .int mln, .ref h6_mc, .ref h6_mg, .ref h6_mt, .ref h6_ml, .int mat, .int wel, .ref h6_mr, .int rdm, .long hsh])), (h6_ms, .inl (cI, 253, .inl (upd ms (4 : Int32).toNatClampNeg ((ms (4 : Int32).toNatClampNeg) - 1)))), (h6_mv, .inl (cI, 1518, .inl x3_1)), (h6_mb, .inl (cI, 60, .inl mb)), (h6_mc, .inl (cI, 160, .inl mc)), (h6_mg, .inl (cI, 160, .inl mg)), (h6_mt, .inl (cI, 240, .inl mt)), (h6_ml, .inl (cI, 240, .inl ml)), (h6_mr, .inl (cI, 600, .inl mr))] ++ []) H := hP
    have hD : va_D A ([(h6, .inr (6, [.int 0, .ref h6_ms, .ref h6_mv, .int x3_2, .ref h6_mb, .int mln, .ref h6_mc, .ref h6_mg, .ref h6_mt, .ref h6_ml, .int mat, .int wel, .ref h6_mr, .int rdm, .long hsh])), (h6_ms, .inl (cI, 253, .inl (upd ms (4 : Int32).toNatClampNeg ((ms (4 : Int32).toNatClampNeg) - 1)))), (h6_mv, .inl (cI, 1518, .inl x3_1)), (h6_mb, .inl (cI, 60, .inl mb)), (h6_mc, .inl (cI, 160, .inl mc)), (h6_mg, .inl (cI, 160, .inl mg)), (h6_mt, .inl (cI, 240, .inl mt)), (h6_ml, .inl (cI, 240, .inl ml)), (h6_mr, .inl (cI, 600, .inl mr))] ++ []) := hD
    refine lv_iconst (v := 2) hx hb dX6_drop_41 (by decide) ?_
    refine lv_iload_n hx hb dX6_drop_42 rfl (lv_at hl 1 rfl) ?_
    refine lv_imul hx hb dX6_drop_43 ?_
    refine lv_istore_n (lv' := [(2, .int (2 * a1)), (0, .ref h6), (1, .int a1)]) hx hb dX6_drop_44 rfl hl (by decide) rfl (fun ls hl => ?_)
    have L45 : ∀ (n : Nat) (v2_45 : Int32) (ms_45 : Nat → Int32) (o45_1 : Nat → Int32) (H : Heap) (locs : List Loc) (ls : Array Slot), fX6_drop_L45 n v2_45 ms_45 = some o45_1 → va_P D vwCl ([(h6, .inr (6, [.int 0, .ref h6_ms, .ref h6_mv, .int x3_2, .ref h6_mb, .int mln, .ref h6_mc, .ref h6_mg, .ref h6_mt, .ref h6_ml, .int mat, .int wel, .ref h6_mr, .int rdm, .long hsh])), (h6_ms, .inl (cI, 253, .inl ms_45)), (h6_mv, .inl (cI, 1518, .inl x3_1)), (h6_mb, .inl (cI, 60, .inl mb)), (h6_mc, .inl (cI, 160, .inl mc)), (h6_mg, .inl (cI, 160, .inl mg)), (h6_mt, .inl (cI, 240, .inl mt)), (h6_ml, .inl (cI, 240, .inl ml)), (h6_mr, .inl (cI, 600, .inl mr))] ++ []) H → va_D A ([(h6, .inr (6, [.int 0, .ref h6_ms, .ref h6_mv, .int x3_2, .ref h6_mb, .int mln, .ref h6_mc, .ref h6_mg, .ref h6_mt, .ref h6_ml, .int mat, .int wel, .ref h6_mr, .int rdm, .long hsh])), (h6_ms, .inl (cI, 253, .inl ms_45)), (h6_mv, .inl (cI, 1518, .inl x3_1)), (h6_mb, .inl (cI, 60, .inl mb)), (h6_mc, .inl (cI, 160, .inl mc)), (h6_mg, .inl (cI, 160, .inl mg)), (h6_mt, .inl (cI, 240, .inl mt)), (h6_ml, .inl (cI, 240, .inl ml)), (h6_mr, .inl (cI, 600, .inl mr))] ++ []) → va_S A s.heap H locs → lv_has ls 3 [(0, .ref h6), (2, .int v2_45)] → (∀ (H : Heap) (locs : List Loc) (ls : Array Slot), va_P D vwCl ([(h6, .inr (6, [.int 0, .ref h6_ms, .ref h6_mv, .int x3_2, .ref h6_mb, .int mln, .ref h6_mc, .ref h6_mg, .ref h6_mt, .ref h6_ml, .int mat, .int wel, .ref h6_mr, .int rdm, .long hsh])), (h6_ms, .inl (cI, 253, .inl o45_1)), (h6_mv, .inl (cI, 1518, .inl x3_1)), (h6_mb, .inl (cI, 60, .inl mb)), (h6_mc, .inl (cI, 160, .inl mc)), (h6_mg, .inl (cI, 160, .inl mg)), (h6_mt, .inl (cI, 240, .inl mt)), (h6_ml, .inl (cI, 240, .inl ml)), (h6_mr, .inl (cI, 600, .inl mr))] ++ []) H → va_D A ([(h6, .inr (6, [.int 0, .ref h6_ms, .ref h6_mv, .int x3_2, .ref h6_mb, .int mln, .ref h6_mc, .ref h6_mg, .ref h6_mt, .ref h6_ml, .int mat, .int wel, .ref h6_mr, .int rdm, .long hsh])), (h6_ms, .inl (cI, 253, .inl o45_1)), (h6_mv, .inl (cI, 1518, .inl x3_1)), (h6_mb, .inl (cI, 60, .inl mb)), (h6_mc, .inl (cI, 160, .inl mc)), (h6_mg, .inl (cI, 160, .inl mg)), (h6_mt, .inl (cI, 240, .inl mt)), (h6_ml, .inl (cI, 240, .inl ml)), (h6_mr, .inl (cI, 600, .inl mr))] ++ []) → va_S A s.heap H locs → lv_has ls 3 [(0, .ref h6)] → W p l e rmX6_drop s m args below meth c H locs 0 0 Q (F0 m 81 ls [])) → W p l e rmX6_drop s m args below meth c H locs 0 0 Q (F0 m 45 ls []) := by
      intro n
      induction n with
      | zero =>
        intro v2_45 ms_45 o45_1 H locs ls h
        rw [fX6_drop_L45] at h
        cases h
      | succ n ih =>
        intro v2_45 ms_45 o45_1 H locs ls h hP hD hS hl K
        rw [fX6_drop_L45] at h
        refine lv_iload_n hx hb dX6_drop_45 rfl (lv_at hl 1 rfl) ?_
        refine lv_iconst (v := 2) hx hb dX6_drop_46 (by decide) ?_
        refine lv_aload_n hx hb dX6_drop_47 rfl (lv_at hl 0 rfl) ?_
        refine va_get (D := D) (ci := 6) (v := .ref h6_ms) (C := RX6) (T := TX6) (N := 15) hx hb hts iX6 hown hK hP 0 rfl rfl 1 (by decide) (hts (.fieldLink RX6 7 "HiddenPeriodsModel" "s" "[I") (by decide +kernel)) (fun _ h9 => h9) rfl dX6_drop_48 ?_
        refine lv_iconst (v := 4) hx hb dX6_drop_51 (by decide) ?_
        obtain ⟨g6, h⟩ := gdn h
        refine va_iald hx hb hK hP 1 0 rfl rfl g6 dX6_drop_52 ?_
        refine lv_imul hx hb dX6_drop_53 ?_
        refine lv_icmp_ge (tgt := 81) hx hb dX6_drop_54 (by decide) (fun cq => ?_) (fun cq => ?_)
        · replace h := ifp cq h
          cases h
          exact K _ _ _ hP hD hS (lv_sub hl [0] rfl)
        · replace h := ifn cq h
          refine lv_aload_n hx hb dX6_drop_57 rfl (lv_at hl 0 rfl) ?_
          refine va_get (D := D) (ci := 6) (v := .ref h6_ms) (C := RX6) (T := TX6) (N := 15) hx hb hts iX6 hown hK hP 0 rfl rfl 1 (by decide) (hts (.fieldLink RX6 7 "HiddenPeriodsModel" "s" "[I") (by decide +kernel)) (fun _ h9 => h9) rfl dX6_drop_58 ?_
          refine lv_iconst (v := 5) hx hb dX6_drop_61 (by decide) ?_
          refine lv_iload_n hx hb dX6_drop_62 rfl (lv_at hl 1 rfl) ?_
          refine lv_iadd hx hb dX6_drop_63 ?_
          refine lv_aload_n hx hb dX6_drop_64 rfl (lv_at hl 0 rfl) ?_
          refine va_get (D := D) (ci := 6) (v := .ref h6_ms) (C := RX6) (T := TX6) (N := 15) hx hb hts iX6 hown hK hP 0 rfl rfl 1 (by decide) (hts (.fieldLink RX6 7 "HiddenPeriodsModel" "s" "[I") (by decide +kernel)) (fun _ h9 => h9) rfl dX6_drop_65 ?_
          refine lv_iconst (v := 5) hx hb dX6_drop_68 (by decide) ?_
          refine lv_iload_n hx hb dX6_drop_69 rfl (lv_at hl 1 rfl) ?_
          refine lv_iadd hx hb dX6_drop_70 ?_
          refine lv_iconst (v := 2) hx hb dX6_drop_71 (by decide) ?_
          refine lv_iadd hx hb dX6_drop_72 ?_
          obtain ⟨g7, h⟩ := gdn h
          refine va_iald hx hb hK hP 1 0 rfl rfl g7 dX6_drop_73 ?_
          obtain ⟨g8, h⟩ := gdn h
          refine va_iast hx hb hK hP hD hS 1 0 rfl rfl g8 dX6_drop_74 (fun H locs hP hD hS => ?_)
          have hP : va_P D vwCl ([(h6, .inr (6, [.int 0, .ref h6_ms, .ref h6_mv, .int x3_2, .ref h6_mb, .int mln, .ref h6_mc, .ref h6_mg, .ref h6_mt, .ref h6_ml, .int mat, .int wel, .ref h6_mr, .int rdm, .long hsh])), (h6_ms, .inl (cI, 253, .inl (upd ms_45 ((5 + v2_45)).toNatClampNeg (ms_45 (((5 + v2_45) + 2)).toNatClampNeg)))), (h6_mv, .inl (cI, 1518, .inl x3_1)), (h6_mb, .inl (cI, 60, .inl mb)), (h6_mc, .inl (cI, 160, .inl mc)), (h6_mg, .inl (cI, 160, .inl mg)), (h6_mt, .inl (cI, 240, .inl mt)), (h6_ml, .inl (cI, 240, .inl ml)), (h6_mr, .inl (cI, 600, .inl mr))] ++ []) H := hP
          have hD : va_D A ([(h6, .inr (6, [.int 0, .ref h6_ms, .ref h6_mv, .int x3_2, .ref h6_mb, .int mln, .ref h6_mc, .ref h6_mg, .ref h6_mt, .ref h6_ml, .int mat, .int wel, .ref h6_mr, .int rdm, .long hsh])), (h6_ms, .inl (cI, 253, .inl (upd ms_45 ((5 + v2_45)).toNatClampNeg (ms_45 (((5 + v2_45) + 2)).toNatClampNeg)))), (h6_mv, .inl (cI, 1518, .inl x3_1)), (h6_mb, .inl (cI, 60, .inl mb)), (h6_mc, .inl (cI, 160, .inl mc)), (h6_mg, .inl (cI, 160, .inl mg)), (h6_mt, .inl (cI, 240, .inl mt)), (h6_ml, .inl (cI, 240, .inl ml)), (h6_mr, .inl (cI, 600, .inl mr))] ++ []) := hD
          refine lv_iinc (v := (v2_45 + 1)) (lv' := [(2, .int (v2_45 + 1)), (0, .ref h6)]) hx hb dX6_drop_75 hl (k := 1) rfl rfl (by decide) rfl (fun ls hl => ?_)
          refine lv_goto (tgt := 45) hx hb dX6_drop_78 (by decide) ?_
          exact ih _ _ _ _ _ _ h hP hD hS (lv_sub hl [1, 0] rfl) K
    obtain ⟨x9, hx9, h⟩ := bnd h
    refine L45 FU _ _ _ _ _ _ hx9 hP hD hS (lv_sub hl [1, 0] rfl) (fun H locs ls hP hD hS hl => ?_)
    refine lv_aload_n hx hb dX6_drop_81 rfl (lv_at hl 0 rfl) ?_
    refine va_get (D := D) (ci := 6) (v := .ref h6_ms) (C := RX6) (T := TX6) (N := 15) hx hb hts iX6 hown hK hP 0 rfl rfl 1 (by decide) (hts (.fieldLink RX6 7 "HiddenPeriodsModel" "s" "[I") (by decide +kernel)) (fun _ h9 => h9) rfl dX6_drop_82 ?_
    refine lv_iconst (v := 5) hx hb dX6_drop_85 (by decide) ?_
    refine lv_iconst (v := 2) hx hb dX6_drop_86 (by decide) ?_
    refine lv_aload_n hx hb dX6_drop_87 rfl (lv_at hl 0 rfl) ?_
    refine va_get (D := D) (ci := 6) (v := .ref h6_ms) (C := RX6) (T := TX6) (N := 15) hx hb hts iX6 hown hK hP 0 rfl rfl 1 (by decide) (hts (.fieldLink RX6 7 "HiddenPeriodsModel" "s" "[I") (by decide +kernel)) (fun _ h9 => h9) rfl dX6_drop_88 ?_
    refine lv_iconst (v := 4) hx hb dX6_drop_91 (by decide) ?_
    obtain ⟨g10, h⟩ := gdn h
    refine va_iald hx hb hK hP 1 0 rfl rfl g10 dX6_drop_92 ?_
    refine lv_imul hx hb dX6_drop_93 ?_
    refine lv_iadd hx hb dX6_drop_94 ?_
    refine lv_iconst (v := 0) hx hb dX6_drop_95 (by decide) ?_
    obtain ⟨g11, h⟩ := gdn h
    refine va_iast hx hb hK hP hD hS 1 0 rfl rfl g11 dX6_drop_96 (fun H locs hP hD hS => ?_)
    have hP : va_P D vwCl ([(h6, .inr (6, [.int 0, .ref h6_ms, .ref h6_mv, .int x3_2, .ref h6_mb, .int mln, .ref h6_mc, .ref h6_mg, .ref h6_mt, .ref h6_ml, .int mat, .int wel, .ref h6_mr, .int rdm, .long hsh])), (h6_ms, .inl (cI, 253, .inl (upd x9 ((5 + (2 * (x9 (4 : Int32).toNatClampNeg)))).toNatClampNeg 0))), (h6_mv, .inl (cI, 1518, .inl x3_1)), (h6_mb, .inl (cI, 60, .inl mb)), (h6_mc, .inl (cI, 160, .inl mc)), (h6_mg, .inl (cI, 160, .inl mg)), (h6_mt, .inl (cI, 240, .inl mt)), (h6_ml, .inl (cI, 240, .inl ml)), (h6_mr, .inl (cI, 600, .inl mr))] ++ []) H := hP
    have hD : va_D A ([(h6, .inr (6, [.int 0, .ref h6_ms, .ref h6_mv, .int x3_2, .ref h6_mb, .int mln, .ref h6_mc, .ref h6_mg, .ref h6_mt, .ref h6_ml, .int mat, .int wel, .ref h6_mr, .int rdm, .long hsh])), (h6_ms, .inl (cI, 253, .inl (upd x9 ((5 + (2 * (x9 (4 : Int32).toNatClampNeg)))).toNatClampNeg 0))), (h6_mv, .inl (cI, 1518, .inl x3_1)), (h6_mb, .inl (cI, 60, .inl mb)), (h6_mc, .inl (cI, 160, .inl mc)), (h6_mg, .inl (cI, 160, .inl mg)), (h6_mt, .inl (cI, 240, .inl mt)), (h6_ml, .inl (cI, 240, .inl ml)), (h6_mr, .inl (cI, 600, .inl mr))] ++ []) := hD
    refine lv_aload_n hx hb dX6_drop_97 rfl (lv_at hl 0 rfl) ?_
    refine va_get (D := D) (ci := 6) (v := .ref h6_ms) (C := RX6) (T := TX6) (N := 15) hx hb hts iX6 hown hK hP 0 rfl rfl 1 (by decide) (hts (.fieldLink RX6 7 "HiddenPeriodsModel" "s" "[I") (by decide +kernel)) (fun _ h9 => h9) rfl dX6_drop_98 ?_
    refine lv_iconst (v := 5) hx hb dX6_drop_101 (by decide) ?_
    refine lv_iconst (v := 2) hx hb dX6_drop_102 (by decide) ?_
    refine lv_aload_n hx hb dX6_drop_103 rfl (lv_at hl 0 rfl) ?_
    refine va_get (D := D) (ci := 6) (v := .ref h6_ms) (C := RX6) (T := TX6) (N := 15) hx hb hts iX6 hown hK hP 0 rfl rfl 1 (by decide) (hts (.fieldLink RX6 7 "HiddenPeriodsModel" "s" "[I") (by decide +kernel)) (fun _ h9 => h9) rfl dX6_drop_104 ?_
    refine lv_iconst (v := 4) hx hb dX6_drop_107 (by decide) ?_
    obtain ⟨g12, h⟩ := gdn h
    refine va_iald hx hb hK hP 1 0 rfl rfl g12 dX6_drop_108 ?_
    refine lv_imul hx hb dX6_drop_109 ?_
    refine lv_iadd hx hb dX6_drop_110 ?_
    refine lv_iconst (v := 1) hx hb dX6_drop_111 (by decide) ?_
    refine lv_iadd hx hb dX6_drop_112 ?_
    refine lv_iconst (v := 0) hx hb dX6_drop_113 (by decide) ?_
    obtain ⟨g13, h⟩ := gdn h
    refine va_iast hx hb hK hP hD hS 1 0 rfl rfl g13 dX6_drop_114 (fun H locs hP hD hS => ?_)
    have hP : va_P D vwCl ([(h6, .inr (6, [.int 0, .ref h6_ms, .ref h6_mv, .int x3_2, .ref h6_mb, .int mln, .ref h6_mc, .ref h6_mg, .ref h6_mt, .ref h6_ml, .int mat, .int wel, .ref h6_mr, .int rdm, .long hsh])), (h6_ms, .inl (cI, 253, .inl (upd (upd x9 ((5 + (2 * (x9 (4 : Int32).toNatClampNeg)))).toNatClampNeg 0) (((5 + (2 * ((upd x9 ((5 + (2 * (x9 (4 : Int32).toNatClampNeg)))).toNatClampNeg 0) (4 : Int32).toNatClampNeg))) + 1)).toNatClampNeg 0))), (h6_mv, .inl (cI, 1518, .inl x3_1)), (h6_mb, .inl (cI, 60, .inl mb)), (h6_mc, .inl (cI, 160, .inl mc)), (h6_mg, .inl (cI, 160, .inl mg)), (h6_mt, .inl (cI, 240, .inl mt)), (h6_ml, .inl (cI, 240, .inl ml)), (h6_mr, .inl (cI, 600, .inl mr))] ++ []) H := hP
    have hD : va_D A ([(h6, .inr (6, [.int 0, .ref h6_ms, .ref h6_mv, .int x3_2, .ref h6_mb, .int mln, .ref h6_mc, .ref h6_mg, .ref h6_mt, .ref h6_ml, .int mat, .int wel, .ref h6_mr, .int rdm, .long hsh])), (h6_ms, .inl (cI, 253, .inl (upd (upd x9 ((5 + (2 * (x9 (4 : Int32).toNatClampNeg)))).toNatClampNeg 0) (((5 + (2 * ((upd x9 ((5 + (2 * (x9 (4 : Int32).toNatClampNeg)))).toNatClampNeg 0) (4 : Int32).toNatClampNeg))) + 1)).toNatClampNeg 0))), (h6_mv, .inl (cI, 1518, .inl x3_1)), (h6_mb, .inl (cI, 60, .inl mb)), (h6_mc, .inl (cI, 160, .inl mc)), (h6_mg, .inl (cI, 160, .inl mg)), (h6_mt, .inl (cI, 240, .inl mt)), (h6_ml, .inl (cI, 240, .inl ml)), (h6_mr, .inl (cI, 600, .inl mr))] ++ []) := hD
    refine lv_aload_n hx hb dX6_drop_115 rfl (lv_at hl 0 rfl) ?_
    refine va_get (D := D) (ci := 6) (v := .ref h6_ms) (C := RX6) (T := TX6) (N := 15) hx hb hts iX6 hown hK hP 0 rfl rfl 1 (by decide) (hts (.fieldLink RX6 7 "HiddenPeriodsModel" "s" "[I") (by decide +kernel)) (fun _ h9 => h9) rfl dX6_drop_116 ?_
    refine lv_iconst (v := 4) hx hb dX6_drop_119 (by decide) ?_
    obtain ⟨g14, h⟩ := gdn h
    refine va_iald hx hb hK hP 1 0 rfl rfl g14 dX6_drop_120 ?_
    cases h
    exact pw_iret hx hb hr hlocks hAe hQ hP hD hS dX6_drop_121
  · replace h := ifp cq h
    refine lv_aload_n hx hb dX6_drop_21 rfl (lv_at hl 0 rfl) ?_
    refine lv_iconst (v := 1) hx hb dX6_drop_22 (by decide) ?_
    obtain ⟨⟨x15_1, x15_2⟩, hx15, h⟩ := bnd h
    refine pw_goi (wc := [(h6, .inr (6, [.int 0, .ref h6_ms, .ref h6_mv, .int svm, .ref h6_mb, .int mln, .ref h6_mc, .ref h6_mg, .ref h6_mt, .ref h6_ml, .int mat, .int wel, .ref h6_mr, .int rdm, .long hsh])), (h6_ms, .inl (cI, 253, .inl ms)), (h6_mv, .inl (cI, 1518, .inl mv)), (h6_mb, .inl (cI, 60, .inl mb)), (h6_mc, .inl (cI, 160, .inl mc)), (h6_mg, .inl (cI, 160, .inl mg)), (h6_mt, .inl (cI, 240, .inl mt)), (h6_ml, .inl (cI, 240, .inl ml)), (h6_mr, .inl (cI, 600, .inl mr))]) (w1 := [(h6, .inr (6, [.int x15_2, .ref h6_ms, .ref h6_mv, .int svm, .ref h6_mb, .int mln, .ref h6_mc, .ref h6_mg, .ref h6_mt, .ref h6_ml, .int mat, .int wel, .ref h6_mr, .int rdm, .long hsh])), (h6_ms, .inl (cI, 253, .inl ms)), (h6_mv, .inl (cI, 1518, .inl mv)), (h6_mb, .inl (cI, 60, .inl mb)), (h6_mc, .inl (cI, 160, .inl mc)), (h6_mg, .inl (cI, 160, .inl mg)), (h6_mt, .inl (cI, 240, .inl mt)), (h6_ml, .inl (cI, 240, .inl ml)), (h6_mr, .inl (cI, 600, .inl mr))]) (w2 := [(h6, .inr (6, [.int x15_2, .ref h6_ms, .ref h6_mv, .int svm, .ref h6_mb, .int mln, .ref h6_mc, .ref h6_mg, .ref h6_mt, .ref h6_ml, .int mat, .int wel, .ref h6_mr, .int rdm, .long hsh])), (h6_ms, .inl (cI, 253, .inl ms)), (h6_mv, .inl (cI, 1518, .inl mv)), (h6_mb, .inl (cI, 60, .inl mb)), (h6_mc, .inl (cI, 160, .inl mc)), (h6_mg, .inl (cI, 160, .inl mg)), (h6_mt, .inl (cI, 240, .inl mt)), (h6_ml, .inl (cI, 240, .inl ml)), (h6_mr, .inl (cI, 600, .inl mr))]) (va_runV (As := [.int 1]) (rest := []) ⟨hx, hb, hml, hown, hts⟩ (mX6_fails l D cI cO cJ h6 h6_ms h6_mv h6_mb h6_mc h6_mg h6_mt h6_ml h6_mr H.size 0 ms mv svm mb mln mc mg mt ml mat wel mr rdm hsh 1 _ hx15) (cwV 1 hts gX6_drop_X6_fails rfl rfl rfl (by decide +kernel) ⟨Nat.le_of_ble_eq_true rfl, Nat.le_of_ble_eq_true rfl⟩) (pw_preV hK hN (pw_sub hP [0, 1, 2, 3, 4, 5, 6, 7, 8] rfl) (pw_subD hD [0, 1, 2, 3, 4, 5, 6, 7, 8] (by decide) rfl) (ci := 6) (q0 := 0) rfl rfl) rfl rfl hl.1 rfl (lv_room (Nat.le_of_ble_eq_true rfl)) dX6_drop_23 ⟨Nat.zero_le _, Nat.zero_le _⟩) hP hD hS hA [0, 1, 2, 3, 4, 5, 6, 7, 8] [] [0, 1, 2, 3, 4, 5, 6, 7, 8] rfl rfl (by decide) (by decide) (by decide) rfl (fun H locs hP hD hS => ?_)
    cases h
    exact pw_iret hx hb hr hlocks hAe hQ hP hD hS dX6_drop_26
def fX6_bestOf_L22 (ms : Nat → Int32) (a2 : Int32) : Nat → Int32 → Int32 → Int32 → (Nat → Int32) → Option (Int32 × (Nat → Int32))
  | 0, _, _, _, _ => none
  | n + 1, v3_22, v4_22, v5_22, mc_22 =>
    if a2 < v5_22 then
    some (v3_22, mc_22)
    else
    (fX6_explainedNow ms mc_22 v5_22 0).bind fun (x3_1, x3_2) =>
    (fX6_classesOf v5_22).bind fun x4 =>
    (if ((4 * x3_1) - x4) ≤ v4_22 then
    some v3_22
    else
    some v5_22 : Option Int32).bind fun x5 =>
    if ((4 * x3_1) - x4) ≤ v4_22 then
    fX6_bestOf_L22 ms a2 n x5 v4_22 (v5_22 + 1) x3_2
    else
    fX6_bestOf_L22 ms a2 n x5 ((4 * x3_1) - x4) (v5_22 + 1) x3_2
def fX6_bestOf (ms : Nat → Int32) (mc : Nat → Int32) (a1 : Int32) (a2 : Int32) : Option (Int32 × (Nat → Int32)) :=
  (fX6_explainedNow ms mc a1 0).bind fun (x1_1, x1_2) =>
  (fX6_classesOf a1).bind fun x2 =>
  (fX6_bestOf_L22 ms a2 FU a1 ((4 * x1_1) - x2) (a1 + 1) x1_2).bind fun (x6_1, x6_2) =>
  some (x6_1, x6_2)
abbrev rmX6_bestOf : Room := { frames := 4, cells := 0, slots := 0, locals := 95 }
set_option maxHeartbeats 4000000 in
set_option maxRecDepth 100000 in
theorem mX6_bestOf (l : Launch) (D : va_G) (cI cO cJ : ClassId) (h6 h6_ms h6_mv h6_mb h6_mc h6_mg h6_mt h6_ml h6_mr : Nat) (sz : Nat) (thr : Int32) (ms : Nat → Int32) (mv : Nat → Int32) (svm : Int32) (mb : Nat → Int32) (mln : Int32) (mc : Nat → Int32) (mg : Nat → Int32) (mt : Nat → Int32) (ml : Nat → Int32) (mat : Int32) (wel : Int32) (mr : Nat → Int32) (rdm : Int32) (hsh : Int64) (a1 : Int32) (a2 : Int32) (z : Int32 × (Nat → Int32)) (h : fX6_bestOf ms mc a1 a2 = some z) : Met l yX6_bestOf wsX6_bestOf rmX6_bestOf (pw_pre D (tyL cI cO cJ) [.ref h6, .int a1, .int a2] [(h6, .inr (6, [.int thr, .ref h6_ms, .ref h6_mv, .int svm, .ref h6_mb, .int mln, .ref h6_mc, .ref h6_mg, .ref h6_mt, .ref h6_ml, .int mat, .int wel, .ref h6_mr, .int rdm, .long hsh])), (h6_ms, .inl (cI, 253, .inl ms)), (h6_mv, .inl (cI, 1518, .inl mv)), (h6_mb, .inl (cI, 60, .inl mb)), (h6_mc, .inl (cI, 160, .inl mc)), (h6_mg, .inl (cI, 160, .inl mg)), (h6_mt, .inl (cI, 240, .inl mt)), (h6_ml, .inl (cI, 240, .inl ml)), (h6_mr, .inl (cI, 600, .inl mr))] sz) (pw_i D [(h6, .inr (6, [.int thr, .ref h6_ms, .ref h6_mv, .int svm, .ref h6_mb, .int mln, .ref h6_mc, .ref h6_mg, .ref h6_mt, .ref h6_ml, .int mat, .int wel, .ref h6_mr, .int rdm, .long hsh])), (h6_ms, .inl (cI, 253, .inl ms)), (h6_mv, .inl (cI, 1518, .inl mv)), (h6_mb, .inl (cI, 60, .inl mb)), (h6_mc, .inl (cI, 160, .inl mc)), (h6_mg, .inl (cI, 160, .inl mg)), (h6_mt, .inl (cI, 240, .inl mt)), (h6_ml, .inl (cI, 240, .inl ml)), (h6_mr, .inl (cI, 600, .inl mr))] [(h6, .inr (6, [.int thr, .ref h6_ms, .ref h6_mv, .int svm, .ref h6_mb, .int mln, .ref h6_mc, .ref h6_mg, .ref h6_mt, .ref h6_ml, .int mat, .int wel, .ref h6_mr, .int rdm, .long hsh])), (h6_ms, .inl (cI, 253, .inl ms)), (h6_mv, .inl (cI, 1518, .inl mv)), (h6_mb, .inl (cI, 60, .inl mb)), (h6_mc, .inl (cI, 160, .inl z.2)), (h6_mg, .inl (cI, 160, .inl mg)), (h6_mt, .inl (cI, 240, .inl mt)), (h6_ml, .inl (cI, 240, .inl ml)), (h6_mr, .inl (cI, 600, .inl mr))] z.1 sz) 0 0 (va_A [(h6, .inr (6, [.int thr, .ref h6_ms, .ref h6_mv, .int svm, .ref h6_mb, .int mln, .ref h6_mc, .ref h6_mg, .ref h6_mt, .ref h6_ml, .int mat, .int wel, .ref h6_mr, .int rdm, .long hsh])), (h6_ms, .inl (cI, 253, .inl ms)), (h6_mv, .inl (cI, 1518, .inl mv)), (h6_mb, .inl (cI, 60, .inl mb)), (h6_mc, .inl (cI, 160, .inl mc)), (h6_mg, .inl (cI, 160, .inl mg)), (h6_mt, .inl (cI, 240, .inl mt)), (h6_ml, .inl (cI, 240, .inl ml)), (h6_mr, .inl (cI, 600, .inl mr))] sz) := by
  refine pw_of (Qc := fun sz => pw_i D [(h6, .inr (6, [.int thr, .ref h6_ms, .ref h6_mv, .int svm, .ref h6_mb, .int mln, .ref h6_mc, .ref h6_mg, .ref h6_mt, .ref h6_ml, .int mat, .int wel, .ref h6_mr, .int rdm, .long hsh])), (h6_ms, .inl (cI, 253, .inl ms)), (h6_mv, .inl (cI, 1518, .inl mv)), (h6_mb, .inl (cI, 60, .inl mb)), (h6_mc, .inl (cI, 160, .inl mc)), (h6_mg, .inl (cI, 160, .inl mg)), (h6_mt, .inl (cI, 240, .inl mt)), (h6_ml, .inl (cI, 240, .inl ml)), (h6_mr, .inl (cI, 600, .inl mr))] [(h6, .inr (6, [.int thr, .ref h6_ms, .ref h6_mv, .int svm, .ref h6_mb, .int mln, .ref h6_mc, .ref h6_mg, .ref h6_mt, .ref h6_ml, .int mat, .int wel, .ref h6_mr, .int rdm, .long hsh])), (h6_ms, .inl (cI, 253, .inl ms)), (h6_mv, .inl (cI, 1518, .inl mv)), (h6_mb, .inl (cI, 60, .inl mb)), (h6_mc, .inl (cI, 160, .inl z.2)), (h6_mg, .inl (cI, 160, .inl mg)), (h6_mt, .inl (cI, 240, .inl mt)), (h6_ml, .inl (cI, 240, .inl ml)), (h6_mr, .inl (cI, 600, .inl mr))] z.1 sz) (cc := cX6_bestOf) (maxL := 7) (ret := (some .int)) (by decide) rfl (Nat.le_of_ble_eq_true rfl) ?_
  intro p e s m args below meth c A Q H ls hx hb hml hr hts hown hlocks hAe hQ hK hN hA hP hD hS hl
  have hown : s.vm.findClass RX6 = some m.cls := hown
  have hl : lv_has ls 7 [(0, .ref h6), (1, .int a1), (2, .int a2)] := hl
  have hP : va_P D vwCl ([(h6, .inr (6, [.int thr, .ref h6_ms, .ref h6_mv, .int svm, .ref h6_mb, .int mln, .ref h6_mc, .ref h6_mg, .ref h6_mt, .ref h6_ml, .int mat, .int wel, .ref h6_mr, .int rdm, .long hsh])), (h6_ms, .inl (cI, 253, .inl ms)), (h6_mv, .inl (cI, 1518, .inl mv)), (h6_mb, .inl (cI, 60, .inl mb)), (h6_mc, .inl (cI, 160, .inl mc)), (h6_mg, .inl (cI, 160, .inl mg)), (h6_mt, .inl (cI, 240, .inl mt)), (h6_ml, .inl (cI, 240, .inl ml)), (h6_mr, .inl (cI, 600, .inl mr))] ++ []) H := hP
  have hD : va_D A ([(h6, .inr (6, [.int thr, .ref h6_ms, .ref h6_mv, .int svm, .ref h6_mb, .int mln, .ref h6_mc, .ref h6_mg, .ref h6_mt, .ref h6_ml, .int mat, .int wel, .ref h6_mr, .int rdm, .long hsh])), (h6_ms, .inl (cI, 253, .inl ms)), (h6_mv, .inl (cI, 1518, .inl mv)), (h6_mb, .inl (cI, 60, .inl mb)), (h6_mc, .inl (cI, 160, .inl mc)), (h6_mg, .inl (cI, 160, .inl mg)), (h6_mt, .inl (cI, 240, .inl mt)), (h6_ml, .inl (cI, 240, .inl ml)), (h6_mr, .inl (cI, 600, .inl mr))] ++ []) := hD
  unfold fX6_bestOf at h
  refine lv_iload_n hx hb dX6_bestOf_0 rfl (lv_at hl 1 rfl) ?_
  refine lv_istore_n (lv' := [(3, .int a1), (0, .ref h6), (1, .int a1), (2, .int a2)]) hx hb dX6_bestOf_1 rfl hl (by decide) rfl (fun ls hl => ?_)
  refine lv_iconst (v := 4) hx hb dX6_bestOf_2 (by decide) ?_
  refine lv_aload_n hx hb dX6_bestOf_3 rfl (lv_at hl 1 rfl) ?_
  refine lv_iload_n hx hb dX6_bestOf_4 rfl (lv_at hl 2 rfl) ?_
  refine lv_iconst (v := 0) hx hb dX6_bestOf_5 (by decide) ?_
  obtain ⟨⟨x1_1, x1_2⟩, hx1, h⟩ := bnd h
  refine pw_goi (wc := [(h6, .inr (6, [.int thr, .ref h6_ms, .ref h6_mv, .int svm, .ref h6_mb, .int mln, .ref h6_mc, .ref h6_mg, .ref h6_mt, .ref h6_ml, .int mat, .int wel, .ref h6_mr, .int rdm, .long hsh])), (h6_ms, .inl (cI, 253, .inl ms)), (h6_mv, .inl (cI, 1518, .inl mv)), (h6_mb, .inl (cI, 60, .inl mb)), (h6_mc, .inl (cI, 160, .inl mc)), (h6_mg, .inl (cI, 160, .inl mg)), (h6_mt, .inl (cI, 240, .inl mt)), (h6_ml, .inl (cI, 240, .inl ml)), (h6_mr, .inl (cI, 600, .inl mr))]) (w1 := [(h6, .inr (6, [.int thr, .ref h6_ms, .ref h6_mv, .int svm, .ref h6_mb, .int mln, .ref h6_mc, .ref h6_mg, .ref h6_mt, .ref h6_ml, .int mat, .int wel, .ref h6_mr, .int rdm, .long hsh])), (h6_ms, .inl (cI, 253, .inl ms)), (h6_mv, .inl (cI, 1518, .inl mv)), (h6_mb, .inl (cI, 60, .inl mb)), (h6_mc, .inl (cI, 160, .inl x1_2)), (h6_mg, .inl (cI, 160, .inl mg)), (h6_mt, .inl (cI, 240, .inl mt)), (h6_ml, .inl (cI, 240, .inl ml)), (h6_mr, .inl (cI, 600, .inl mr))]) (w2 := [(h6, .inr (6, [.int thr, .ref h6_ms, .ref h6_mv, .int svm, .ref h6_mb, .int mln, .ref h6_mc, .ref h6_mg, .ref h6_mt, .ref h6_ml, .int mat, .int wel, .ref h6_mr, .int rdm, .long hsh])), (h6_ms, .inl (cI, 253, .inl ms)), (h6_mv, .inl (cI, 1518, .inl mv)), (h6_mb, .inl (cI, 60, .inl mb)), (h6_mc, .inl (cI, 160, .inl x1_2)), (h6_mg, .inl (cI, 160, .inl mg)), (h6_mt, .inl (cI, 240, .inl mt)), (h6_ml, .inl (cI, 240, .inl ml)), (h6_mr, .inl (cI, 600, .inl mr))]) (va_runV (As := [.int a1, .int 0]) (rest := [.int 4]) ⟨hx, hb, hml, hown, hts⟩ (mX6_explainedNow l D cI cO cJ h6 h6_ms h6_mv h6_mb h6_mc h6_mg h6_mt h6_ml h6_mr H.size thr ms mv svm mb mln mc mg mt ml mat wel mr rdm hsh a1 0 _ hx1) (cwV 2 hts gX6_bestOf_X6_explainedNow rfl rfl rfl (by decide +kernel) ⟨Nat.le_of_ble_eq_true rfl, Nat.le_of_ble_eq_true rfl⟩) (pw_preV hK hN (pw_sub hP [0, 1, 2, 3, 4, 5, 6, 7, 8] rfl) (pw_subD hD [0, 1, 2, 3, 4, 5, 6, 7, 8] (by decide) rfl) (ci := 6) (q0 := 0) rfl rfl) rfl rfl hl.1 rfl (lv_room (Nat.le_of_ble_eq_true rfl)) dX6_bestOf_6 ⟨Nat.zero_le _, Nat.zero_le _⟩) hP hD hS hA [0, 1, 2, 3, 4, 5, 6, 7, 8] [] [0, 1, 2, 3, 4, 5, 6, 7, 8] rfl rfl (by decide) (by decide) (by decide) rfl (fun H locs hP hD hS => ?_)
  refine lv_imul hx hb dX6_bestOf_9 ?_
  refine lv_iload_n hx hb dX6_bestOf_10 rfl (lv_at hl 2 rfl) ?_
  obtain ⟨x2, hx2, h⟩ := bnd h
  refine pw_go0 (va_runS (As := [.int a1]) (rest := [.int (4 * x1_1)]) ⟨hx, hb, hml, hown, hts⟩ (mX6_classesOf l D cI cO cJ H.size a1 _ hx2) (va_cwS 1 hts gX6_bestOf_X6_classesOf rfl rfl rfl (by decide +kernel) ⟨Nat.le_of_ble_eq_true rfl, Nat.le_of_ble_eq_true rfl⟩) (pw_preS hK hN pw_nilP (pw_nilD (A := A))) rfl rfl hl.1 rfl (lv_room (Nat.le_of_ble_eq_true rfl)) dX6_bestOf_11 ⟨Nat.zero_le _, Nat.zero_le _⟩) hP hS hA (fun H locs hP hS => ?_)
  refine lv_isub hx hb dX6_bestOf_14 ?_
  refine lv_istore (lv' := [(4, .int ((4 * x1_1) - x2)), (3, .int a1), (0, .ref h6), (1, .int a1), (2, .int a2)]) hx hb dX6_bestOf_15 hl (by decide) rfl (fun ls hl => ?_)
  refine lv_iload_n hx hb dX6_bestOf_17 rfl (lv_at hl 3 rfl) ?_
  refine lv_iconst (v := 1) hx hb dX6_bestOf_18 (by decide) ?_
  refine lv_iadd hx hb dX6_bestOf_19 ?_
  refine lv_istore (lv' := [(5, .int (a1 + 1)), (4, .int ((4 * x1_1) - x2)), (3, .int a1), (0, .ref h6), (1, .int a1), (2, .int a2)]) hx hb dX6_bestOf_20 hl (by decide) rfl (fun ls hl => ?_)
  have L22 : ∀ (n : Nat) (v3_22 : Int32) (v4_22 : Int32) (v5_22 : Int32) (mc_22 : Nat → Int32) (o22_1 : Int32) (o22_2 : Nat → Int32) (H : Heap) (locs : List Loc) (ls : Array Slot), fX6_bestOf_L22 ms a2 n v3_22 v4_22 v5_22 mc_22 = some (o22_1, o22_2) → va_P D vwCl ([(h6, .inr (6, [.int thr, .ref h6_ms, .ref h6_mv, .int svm, .ref h6_mb, .int mln, .ref h6_mc, .ref h6_mg, .ref h6_mt, .ref h6_ml, .int mat, .int wel, .ref h6_mr, .int rdm, .long hsh])), (h6_ms, .inl (cI, 253, .inl ms)), (h6_mv, .inl (cI, 1518, .inl mv)), (h6_mb, .inl (cI, 60, .inl mb)), (h6_mc, .inl (cI, 160, .inl mc_22)), (h6_mg, .inl (cI, 160, .inl mg)), (h6_mt, .inl (cI, 240, .inl mt)), (h6_ml, .inl (cI, 240, .inl ml)), (h6_mr, .inl (cI, 600, .inl mr))] ++ []) H → va_D A ([(h6, .inr (6, [.int thr, .ref h6_ms, .ref h6_mv, .int svm, .ref h6_mb, .int mln, .ref h6_mc, .ref h6_mg, .ref h6_mt, .ref h6_ml, .int mat, .int wel, .ref h6_mr, .int rdm, .long hsh])), (h6_ms, .inl (cI, 253, .inl ms)), (h6_mv, .inl (cI, 1518, .inl mv)), (h6_mb, .inl (cI, 60, .inl mb)), (h6_mc, .inl (cI, 160, .inl mc_22)), (h6_mg, .inl (cI, 160, .inl mg)), (h6_mt, .inl (cI, 240, .inl mt)), (h6_ml, .inl (cI, 240, .inl ml)), (h6_mr, .inl (cI, 600, .inl mr))] ++ []) → va_S A s.heap H locs → lv_has ls 7 [(0, .ref h6), (2, .int a2), (3, .int v3_22), (4, .int v4_22), (5, .int v5_22)] → (∀ (H : Heap) (locs : List Loc) (ls : Array Slot), va_P D vwCl ([(h6, .inr (6, [.int thr, .ref h6_ms, .ref h6_mv, .int svm, .ref h6_mb, .int mln, .ref h6_mc, .ref h6_mg, .ref h6_mt, .ref h6_ml, .int mat, .int wel, .ref h6_mr, .int rdm, .long hsh])), (h6_ms, .inl (cI, 253, .inl ms)), (h6_mv, .inl (cI, 1518, .inl mv)), (h6_mb, .inl (cI, 60, .inl mb)), (h6_mc, .inl (cI, 160, .inl o22_2)), (h6_mg, .inl (cI, 160, .inl mg)), (h6_mt, .inl (cI, 240, .inl mt)), (h6_ml, .inl (cI, 240, .inl ml)), (h6_mr, .inl (cI, 600, .inl mr))] ++ []) H → va_D A ([(h6, .inr (6, [.int thr, .ref h6_ms, .ref h6_mv, .int svm, .ref h6_mb, .int mln, .ref h6_mc, .ref h6_mg, .ref h6_mt, .ref h6_ml, .int mat, .int wel, .ref h6_mr, .int rdm, .long hsh])), (h6_ms, .inl (cI, 253, .inl ms)), (h6_mv, .inl (cI, 1518, .inl mv)), (h6_mb, .inl (cI, 60, .inl mb)), (h6_mc, .inl (cI, 160, .inl o22_2)), (h6_mg, .inl (cI, 160, .inl mg)), (h6_mt, .inl (cI, 240, .inl mt)), (h6_ml, .inl (cI, 240, .inl ml)), (h6_mr, .inl (cI, 600, .inl mr))] ++ []) → va_S A s.heap H locs → lv_has ls 7 [(3, .int o22_1)] → W p l e rmX6_bestOf s m args below meth c H locs 0 0 Q (F0 m 81 ls [])) → W p l e rmX6_bestOf s m args below meth c H locs 0 0 Q (F0 m 22 ls []) := by
    intro n
    induction n with
    | zero =>
      intro v3_22 v4_22 v5_22 mc_22 o22_1 o22_2 H locs ls h
      rw [fX6_bestOf_L22] at h
      cases h
    | succ n ih =>
      intro v3_22 v4_22 v5_22 mc_22 o22_1 o22_2 H locs ls h hP hD hS hl K
      rw [fX6_bestOf_L22] at h
      refine lv_iload hx hb dX6_bestOf_22 (lv_at hl 4 rfl) ?_
      refine lv_iload_n hx hb dX6_bestOf_24 rfl (lv_at hl 1 rfl) ?_
      refine lv_icmp_gt (tgt := 81) hx hb dX6_bestOf_25 (by decide) (fun cq => ?_) (fun cq => ?_)
      · replace h := ifp cq h
        cases h
        exact K _ _ _ hP hD hS (lv_sub hl [2] rfl)
      · replace h := ifn cq h
        refine lv_iconst (v := 4) hx hb dX6_bestOf_28 (by decide) ?_
        refine lv_aload_n hx hb dX6_bestOf_29 rfl (lv_at hl 0 rfl) ?_
        refine lv_iload hx hb dX6_bestOf_30 (lv_at hl 4 rfl) ?_
        refine lv_iconst (v := 0) hx hb dX6_bestOf_32 (by decide) ?_
        obtain ⟨⟨x3_1, x3_2⟩, hx3, h⟩ := bnd h
        refine pw_goi (wc := [(h6, .inr (6, [.int thr, .ref h6_ms, .ref h6_mv, .int svm, .ref h6_mb, .int mln, .ref h6_mc, .ref h6_mg, .ref h6_mt, .ref h6_ml, .int mat, .int wel, .ref h6_mr, .int rdm, .long hsh])), (h6_ms, .inl (cI, 253, .inl ms)), (h6_mv, .inl (cI, 1518, .inl mv)), (h6_mb, .inl (cI, 60, .inl mb)), (h6_mc, .inl (cI, 160, .inl mc_22)), (h6_mg, .inl (cI, 160, .inl mg)), (h6_mt, .inl (cI, 240, .inl mt)), (h6_ml, .inl (cI, 240, .inl ml)), (h6_mr, .inl (cI, 600, .inl mr))]) (w1 := [(h6, .inr (6, [.int thr, .ref h6_ms, .ref h6_mv, .int svm, .ref h6_mb, .int mln, .ref h6_mc, .ref h6_mg, .ref h6_mt, .ref h6_ml, .int mat, .int wel, .ref h6_mr, .int rdm, .long hsh])), (h6_ms, .inl (cI, 253, .inl ms)), (h6_mv, .inl (cI, 1518, .inl mv)), (h6_mb, .inl (cI, 60, .inl mb)), (h6_mc, .inl (cI, 160, .inl x3_2)), (h6_mg, .inl (cI, 160, .inl mg)), (h6_mt, .inl (cI, 240, .inl mt)), (h6_ml, .inl (cI, 240, .inl ml)), (h6_mr, .inl (cI, 600, .inl mr))]) (w2 := [(h6, .inr (6, [.int thr, .ref h6_ms, .ref h6_mv, .int svm, .ref h6_mb, .int mln, .ref h6_mc, .ref h6_mg, .ref h6_mt, .ref h6_ml, .int mat, .int wel, .ref h6_mr, .int rdm, .long hsh])), (h6_ms, .inl (cI, 253, .inl ms)), (h6_mv, .inl (cI, 1518, .inl mv)), (h6_mb, .inl (cI, 60, .inl mb)), (h6_mc, .inl (cI, 160, .inl x3_2)), (h6_mg, .inl (cI, 160, .inl mg)), (h6_mt, .inl (cI, 240, .inl mt)), (h6_ml, .inl (cI, 240, .inl ml)), (h6_mr, .inl (cI, 600, .inl mr))]) (va_runV (As := [.int v5_22, .int 0]) (rest := [.int 4]) ⟨hx, hb, hml, hown, hts⟩ (mX6_explainedNow l D cI cO cJ h6 h6_ms h6_mv h6_mb h6_mc h6_mg h6_mt h6_ml h6_mr H.size thr ms mv svm mb mln mc_22 mg mt ml mat wel mr rdm hsh v5_22 0 _ hx3) (cwV 2 hts gX6_bestOf_X6_explainedNow rfl rfl rfl (by decide +kernel) ⟨Nat.le_of_ble_eq_true rfl, Nat.le_of_ble_eq_true rfl⟩) (pw_preV hK hN (pw_sub hP [0, 1, 2, 3, 4, 5, 6, 7, 8] rfl) (pw_subD hD [0, 1, 2, 3, 4, 5, 6, 7, 8] (by decide) rfl) (ci := 6) (q0 := 0) rfl rfl) rfl rfl hl.1 rfl (lv_room (Nat.le_of_ble_eq_true rfl)) dX6_bestOf_33 ⟨Nat.zero_le _, Nat.zero_le _⟩) hP hD hS hA [0, 1, 2, 3, 4, 5, 6, 7, 8] [] [0, 1, 2, 3, 4, 5, 6, 7, 8] rfl rfl (by decide) (by decide) (by decide) rfl (fun H locs hP hD hS => ?_)
        refine lv_imul hx hb dX6_bestOf_36 ?_
        refine lv_iload hx hb dX6_bestOf_37 (lv_at hl 4 rfl) ?_
        obtain ⟨x4, hx4, h⟩ := bnd h
        refine pw_go0 (va_runS (As := [.int v5_22]) (rest := [.int (4 * x3_1)]) ⟨hx, hb, hml, hown, hts⟩ (mX6_classesOf l D cI cO cJ H.size v5_22 _ hx4) (va_cwS 1 hts gX6_bestOf_X6_classesOf rfl rfl rfl (by decide +kernel) ⟨Nat.le_of_ble_eq_true rfl, Nat.le_of_ble_eq_true rfl⟩) (pw_preS hK hN pw_nilP (pw_nilD (A := A))) rfl rfl hl.1 rfl (lv_room (Nat.le_of_ble_eq_true rfl)) dX6_bestOf_39 ⟨Nat.zero_le _, Nat.zero_le _⟩) hP hS hA (fun H locs hP hS => ?_)
        refine lv_isub hx hb dX6_bestOf_42 ?_
        refine lv_istore (lv' := [(6, .int ((4 * x3_1) - x4)), (0, .ref h6), (2, .int a2), (3, .int v3_22), (4, .int v4_22), (5, .int v5_22)]) hx hb dX6_bestOf_43 hl (by decide) rfl (fun ls hl => ?_)
        refine lv_iload hx hb dX6_bestOf_45 (lv_at hl 0 rfl) ?_
        refine lv_iload hx hb dX6_bestOf_47 (lv_at hl 4 rfl) ?_
        obtain ⟨x5, hx5, h⟩ := bnd h
        have Jx5 : ∀ (H : Heap) (locs : List Loc) (ls : Array Slot), va_P D vwCl ([(h6, .inr (6, [.int thr, .ref h6_ms, .ref h6_mv, .int svm, .ref h6_mb, .int mln, .ref h6_mc, .ref h6_mg, .ref h6_mt, .ref h6_ml, .int mat, .int wel, .ref h6_mr, .int rdm, .long hsh])), (h6_ms, .inl (cI, 253, .inl ms)), (h6_mv, .inl (cI, 1518, .inl mv)), (h6_mb, .inl (cI, 60, .inl mb)), (h6_mc, .inl (cI, 160, .inl x3_2)), (h6_mg, .inl (cI, 160, .inl mg)), (h6_mt, .inl (cI, 240, .inl mt)), (h6_ml, .inl (cI, 240, .inl ml)), (h6_mr, .inl (cI, 600, .inl mr))] ++ []) H → va_D A ([(h6, .inr (6, [.int thr, .ref h6_ms, .ref h6_mv, .int svm, .ref h6_mb, .int mln, .ref h6_mc, .ref h6_mg, .ref h6_mt, .ref h6_ml, .int mat, .int wel, .ref h6_mr, .int rdm, .long hsh])), (h6_ms, .inl (cI, 253, .inl ms)), (h6_mv, .inl (cI, 1518, .inl mv)), (h6_mb, .inl (cI, 60, .inl mb)), (h6_mc, .inl (cI, 160, .inl x3_2)), (h6_mg, .inl (cI, 160, .inl mg)), (h6_mt, .inl (cI, 240, .inl mt)), (h6_ml, .inl (cI, 240, .inl ml)), (h6_mr, .inl (cI, 600, .inl mr))] ++ []) → va_S A s.heap H locs → lv_has ls 7 [(0, .ref h6), (2, .int a2), (4, .int v4_22), (5, .int v5_22), (6, .int ((4 * x3_1) - x4))] → W p l e rmX6_bestOf s m args below meth c H locs 0 0 Q (F0 m 58 ls [.int x5]) := by
          intro H locs ls hP hD hS hl
          refine lv_istore_n (lv' := [(3, .int x5), (0, .ref h6), (2, .int a2), (4, .int v4_22), (5, .int v5_22), (6, .int ((4 * x3_1) - x4))]) hx hb dX6_bestOf_58 rfl hl (by decide) rfl (fun ls hl => ?_)
          refine lv_iload hx hb dX6_bestOf_59 (lv_at hl 5 rfl) ?_
          refine lv_iload hx hb dX6_bestOf_61 (lv_at hl 3 rfl) ?_
          refine lv_icmp_le (tgt := 71) hx hb dX6_bestOf_63 (by decide) (fun cq => ?_) (fun cq => ?_)
          · replace h := ifp cq h
            refine lv_iload hx hb dX6_bestOf_71 (lv_at hl 3 rfl) ?_
            refine lv_istore (lv' := [(4, .int v4_22), (3, .int x5), (0, .ref h6), (2, .int a2), (5, .int v5_22), (6, .int ((4 * x3_1) - x4))]) hx hb dX6_bestOf_73 hl (by decide) rfl (fun ls hl => ?_)
            refine lv_iinc (v := (v5_22 + 1)) (lv' := [(5, .int (v5_22 + 1)), (4, .int v4_22), (3, .int x5), (0, .ref h6), (2, .int a2), (6, .int ((4 * x3_1) - x4))]) hx hb dX6_bestOf_75 hl (k := 4) rfl rfl (by decide) rfl (fun ls hl => ?_)
            refine lv_goto (tgt := 22) hx hb dX6_bestOf_78 (by decide) ?_
            exact ih _ _ _ _ _ _ _ _ _ h hP hD hS (lv_sub hl [3, 4, 2, 1, 0] rfl) K
          · replace h := ifn cq h
            refine lv_iload hx hb dX6_bestOf_66 (lv_at hl 5 rfl) ?_
            refine lv_goto (tgt := 73) hx hb dX6_bestOf_68 (by decide) ?_
            refine lv_istore (lv' := [(4, .int ((4 * x3_1) - x4)), (3, .int x5), (0, .ref h6), (2, .int a2), (5, .int v5_22), (6, .int ((4 * x3_1) - x4))]) hx hb dX6_bestOf_73 hl (by decide) rfl (fun ls hl => ?_)
            refine lv_iinc (v := (v5_22 + 1)) (lv' := [(5, .int (v5_22 + 1)), (4, .int ((4 * x3_1) - x4)), (3, .int x5), (0, .ref h6), (2, .int a2), (6, .int ((4 * x3_1) - x4))]) hx hb dX6_bestOf_75 hl (k := 4) rfl rfl (by decide) rfl (fun ls hl => ?_)
            refine lv_goto (tgt := 22) hx hb dX6_bestOf_78 (by decide) ?_
            exact ih _ _ _ _ _ _ _ _ _ h hP hD hS (lv_sub hl [3, 4, 2, 1, 0] rfl) K
        replace h := hx5
        refine lv_icmp_le (tgt := 57) hx hb dX6_bestOf_49 (by decide) (fun cq => ?_) (fun cq => ?_)
        · replace h := ifp cq h
          refine lv_iload_n hx hb dX6_bestOf_57 rfl (lv_at hl 3 rfl) ?_
          cases h
          exact Jx5 _ _ _ hP hD hS (lv_sub hl [1, 2, 4, 5, 0] rfl)
        · replace h := ifn cq h
          refine lv_iload hx hb dX6_bestOf_52 (lv_at hl 5 rfl) ?_
          refine lv_goto (tgt := 58) hx hb dX6_bestOf_54 (by decide) ?_
          cases h
          exact Jx5 _ _ _ hP hD hS (lv_sub hl [1, 2, 4, 5, 0] rfl)
  obtain ⟨⟨x6_1, x6_2⟩, hx6, h⟩ := bnd h
  refine L22 FU _ _ _ _ _ _ _ _ _ hx6 hP hD hS (lv_sub hl [3, 5, 2, 1, 0] rfl) (fun H locs ls hP hD hS hl => ?_)
  refine lv_iload_n hx hb dX6_bestOf_81 rfl (lv_at hl 0 rfl) ?_
  cases h
  exact pw_iret hx hb hr hlocks hAe hQ hP hD hS dX6_bestOf_82
def fX6_find (ms : Nat → Int32) (mv : Nat → Int32) (svm : Int32) (mc : Nat → Int32) (a1 : Int32) (a2 : Int32) : Option (Int32 × Int32 × (Nat → Int32) × (Nat → Int32) × Int32 × (Nat → Int32)) :=
  (fX6_in a1 10 400).bind fun x1 =>
  if x1 = 0 then
  (fX6_fails 1).bind fun (x2_1, x2_2) =>
  some (x2_1, x2_2, ms, mv, svm, mc)
  else
  (fX6_in a2 a1 400).bind fun x3 =>
  if x3 = 0 then
  (fX6_fails 1).bind fun (x11_1, x11_2) =>
  some (x11_1, x11_2, ms, mv, svm, mc)
  else
  (fX6_bestOf ms mc a1 a2).bind fun (x4_1, x4_2) =>
  if oob 4 253 then none else
  if (ms (4 : Int32).toNatClampNeg) = 4 then
  (fX6_fails 2).bind fun (x6_1, x6_2) =>
  some (x6_1, x6_2, ms, mv, svm, x4_2)
  else
  (fX6_isKept ms x4_1 0).bind fun x7 =>
  if x7 = 0 then
  (fX6_saves ms mv svm).bind fun (x8_1, x8_2) =>
  (fX6_keeps ms x4_1 0).bind fun (x9_1, x9_2) =>
  some (x4_1, 0, x9_2, x8_1, x8_2, x4_2)
  else
  (fX6_fails 2).bind fun (x10_1, x10_2) =>
  some (x10_1, x10_2, ms, mv, svm, x4_2)
abbrev rmX6_find : Room := { frames := 5, cells := 0, slots := 0, locals := 121 }
set_option maxHeartbeats 4000000 in
set_option maxRecDepth 100000 in
theorem mX6_find (l : Launch) (D : va_G) (cI cO cJ : ClassId) (h6 h6_ms h6_mv h6_mb h6_mc h6_mg h6_mt h6_ml h6_mr : Nat) (sz : Nat) (thr : Int32) (ms : Nat → Int32) (mv : Nat → Int32) (svm : Int32) (mb : Nat → Int32) (mln : Int32) (mc : Nat → Int32) (mg : Nat → Int32) (mt : Nat → Int32) (ml : Nat → Int32) (mat : Int32) (wel : Int32) (mr : Nat → Int32) (rdm : Int32) (hsh : Int64) (a1 : Int32) (a2 : Int32) (z : Int32 × Int32 × (Nat → Int32) × (Nat → Int32) × Int32 × (Nat → Int32)) (h : fX6_find ms mv svm mc a1 a2 = some z) : Met l yX6_find wsX6_find rmX6_find (pw_pre D (tyL cI cO cJ) [.ref h6, .int a1, .int a2] [(h6, .inr (6, [.int thr, .ref h6_ms, .ref h6_mv, .int svm, .ref h6_mb, .int mln, .ref h6_mc, .ref h6_mg, .ref h6_mt, .ref h6_ml, .int mat, .int wel, .ref h6_mr, .int rdm, .long hsh])), (h6_ms, .inl (cI, 253, .inl ms)), (h6_mv, .inl (cI, 1518, .inl mv)), (h6_mb, .inl (cI, 60, .inl mb)), (h6_mc, .inl (cI, 160, .inl mc)), (h6_mg, .inl (cI, 160, .inl mg)), (h6_mt, .inl (cI, 240, .inl mt)), (h6_ml, .inl (cI, 240, .inl ml)), (h6_mr, .inl (cI, 600, .inl mr))] sz) (pw_i D [(h6, .inr (6, [.int thr, .ref h6_ms, .ref h6_mv, .int svm, .ref h6_mb, .int mln, .ref h6_mc, .ref h6_mg, .ref h6_mt, .ref h6_ml, .int mat, .int wel, .ref h6_mr, .int rdm, .long hsh])), (h6_ms, .inl (cI, 253, .inl ms)), (h6_mv, .inl (cI, 1518, .inl mv)), (h6_mb, .inl (cI, 60, .inl mb)), (h6_mc, .inl (cI, 160, .inl mc)), (h6_mg, .inl (cI, 160, .inl mg)), (h6_mt, .inl (cI, 240, .inl mt)), (h6_ml, .inl (cI, 240, .inl ml)), (h6_mr, .inl (cI, 600, .inl mr))] [(h6, .inr (6, [.int z.2.1, .ref h6_ms, .ref h6_mv, .int z.2.2.2.2.1, .ref h6_mb, .int mln, .ref h6_mc, .ref h6_mg, .ref h6_mt, .ref h6_ml, .int mat, .int wel, .ref h6_mr, .int rdm, .long hsh])), (h6_ms, .inl (cI, 253, .inl z.2.2.1)), (h6_mv, .inl (cI, 1518, .inl z.2.2.2.1)), (h6_mb, .inl (cI, 60, .inl mb)), (h6_mc, .inl (cI, 160, .inl z.2.2.2.2.2)), (h6_mg, .inl (cI, 160, .inl mg)), (h6_mt, .inl (cI, 240, .inl mt)), (h6_ml, .inl (cI, 240, .inl ml)), (h6_mr, .inl (cI, 600, .inl mr))] z.1 sz) 0 0 (va_A [(h6, .inr (6, [.int thr, .ref h6_ms, .ref h6_mv, .int svm, .ref h6_mb, .int mln, .ref h6_mc, .ref h6_mg, .ref h6_mt, .ref h6_ml, .int mat, .int wel, .ref h6_mr, .int rdm, .long hsh])), (h6_ms, .inl (cI, 253, .inl ms)), (h6_mv, .inl (cI, 1518, .inl mv)), (h6_mb, .inl (cI, 60, .inl mb)), (h6_mc, .inl (cI, 160, .inl mc)), (h6_mg, .inl (cI, 160, .inl mg)), (h6_mt, .inl (cI, 240, .inl mt)), (h6_ml, .inl (cI, 240, .inl ml)), (h6_mr, .inl (cI, 600, .inl mr))] sz) := by
  refine pw_of (Qc := fun sz => pw_i D [(h6, .inr (6, [.int thr, .ref h6_ms, .ref h6_mv, .int svm, .ref h6_mb, .int mln, .ref h6_mc, .ref h6_mg, .ref h6_mt, .ref h6_ml, .int mat, .int wel, .ref h6_mr, .int rdm, .long hsh])), (h6_ms, .inl (cI, 253, .inl ms)), (h6_mv, .inl (cI, 1518, .inl mv)), (h6_mb, .inl (cI, 60, .inl mb)), (h6_mc, .inl (cI, 160, .inl mc)), (h6_mg, .inl (cI, 160, .inl mg)), (h6_mt, .inl (cI, 240, .inl mt)), (h6_ml, .inl (cI, 240, .inl ml)), (h6_mr, .inl (cI, 600, .inl mr))] [(h6, .inr (6, [.int z.2.1, .ref h6_ms, .ref h6_mv, .int z.2.2.2.2.1, .ref h6_mb, .int mln, .ref h6_mc, .ref h6_mg, .ref h6_mt, .ref h6_ml, .int mat, .int wel, .ref h6_mr, .int rdm, .long hsh])), (h6_ms, .inl (cI, 253, .inl z.2.2.1)), (h6_mv, .inl (cI, 1518, .inl z.2.2.2.1)), (h6_mb, .inl (cI, 60, .inl mb)), (h6_mc, .inl (cI, 160, .inl z.2.2.2.2.2)), (h6_mg, .inl (cI, 160, .inl mg)), (h6_mt, .inl (cI, 240, .inl mt)), (h6_ml, .inl (cI, 240, .inl ml)), (h6_mr, .inl (cI, 600, .inl mr))] z.1 sz) (cc := cX6_find) (maxL := 4) (ret := (some .int)) (by decide) rfl (Nat.le_of_ble_eq_true rfl) ?_
  intro p e s m args below meth c A Q H ls hx hb hml hr hts hown hlocks hAe hQ hK hN hA hP hD hS hl
  have hown : s.vm.findClass RX6 = some m.cls := hown
  have hl : lv_has ls 4 [(0, .ref h6), (1, .int a1), (2, .int a2)] := hl
  have hP : va_P D vwCl ([(h6, .inr (6, [.int thr, .ref h6_ms, .ref h6_mv, .int svm, .ref h6_mb, .int mln, .ref h6_mc, .ref h6_mg, .ref h6_mt, .ref h6_ml, .int mat, .int wel, .ref h6_mr, .int rdm, .long hsh])), (h6_ms, .inl (cI, 253, .inl ms)), (h6_mv, .inl (cI, 1518, .inl mv)), (h6_mb, .inl (cI, 60, .inl mb)), (h6_mc, .inl (cI, 160, .inl mc)), (h6_mg, .inl (cI, 160, .inl mg)), (h6_mt, .inl (cI, 240, .inl mt)), (h6_ml, .inl (cI, 240, .inl ml)), (h6_mr, .inl (cI, 600, .inl mr))] ++ []) H := hP
  have hD : va_D A ([(h6, .inr (6, [.int thr, .ref h6_ms, .ref h6_mv, .int svm, .ref h6_mb, .int mln, .ref h6_mc, .ref h6_mg, .ref h6_mt, .ref h6_ml, .int mat, .int wel, .ref h6_mr, .int rdm, .long hsh])), (h6_ms, .inl (cI, 253, .inl ms)), (h6_mv, .inl (cI, 1518, .inl mv)), (h6_mb, .inl (cI, 60, .inl mb)), (h6_mc, .inl (cI, 160, .inl mc)), (h6_mg, .inl (cI, 160, .inl mg)), (h6_mt, .inl (cI, 240, .inl mt)), (h6_ml, .inl (cI, 240, .inl ml)), (h6_mr, .inl (cI, 600, .inl mr))] ++ []) := hD
  have iX6 : ∀ w ∈ u_ws RX6 TX6 15, w ∈ wsX6_find := fun _ h => List.mem_cons_of_mem _ (List.mem_append_right _ h)
  unfold fX6_find at h
  refine lv_aload_n hx hb dX6_find_0 rfl (lv_at hl 0 rfl) ?_
  refine lv_iconst (v := 0) hx hb dX6_find_1 (by decide) ?_
  refine va_put (D := D) (ci := 6) (v := .int 0) (ty := .int) (C := RX6) (T := TX6) (N := 15) hx hb hts iX6 tyX6 tyX6_ok nmX6 hown hK hP hD hS 0 rfl rfl 0 (by decide) (hts (.fieldLink RX6 34 "HiddenPeriodsModel" "thrown" "I") (by decide +kernel)) (fun _ h9 => h9) rfl (by decide +kernel) rfl rfl (Nat.le_of_ble_eq_true rfl) dX6_find_2 (fun H locs hP hD hS => ?_)
  have hP : va_P D vwCl ([(h6, .inr (6, [.int 0, .ref h6_ms, .ref h6_mv, .int svm, .ref h6_mb, .int mln, .ref h6_mc, .ref h6_mg, .ref h6_mt, .ref h6_ml, .int mat, .int wel, .ref h6_mr, .int rdm, .long hsh])), (h6_ms, .inl (cI, 253, .inl ms)), (h6_mv, .inl (cI, 1518, .inl mv)), (h6_mb, .inl (cI, 60, .inl mb)), (h6_mc, .inl (cI, 160, .inl mc)), (h6_mg, .inl (cI, 160, .inl mg)), (h6_mt, .inl (cI, 240, .inl mt)), (h6_ml, .inl (cI, 240, .inl ml)), (h6_mr, .inl (cI, 600, .inl mr))] ++ []) H := hP
  have hD : va_D A ([(h6, .inr (6, [.int 0, .ref h6_ms, .ref h6_mv, .int svm, .ref h6_mb, .int mln, .ref h6_mc, .ref h6_mg, .ref h6_mt, .ref h6_ml, .int mat, .int wel, .ref h6_mr, .int rdm, .long hsh])), (h6_ms, .inl (cI, 253, .inl ms)), (h6_mv, .inl (cI, 1518, .inl mv)), (h6_mb, .inl (cI, 60, .inl mb)), (h6_mc, .inl (cI, 160, .inl mc)), (h6_mg, .inl (cI, 160, .inl mg)), (h6_mt, .inl (cI, 240, .inl mt)), (h6_ml, .inl (cI, 240, .inl ml)), (h6_mr, .inl (cI, 600, .inl mr))] ++ []) := hD
  refine lv_iload_n hx hb dX6_find_5 rfl (lv_at hl 1 rfl) ?_
  refine lv_bipush (v := 10) hx hb dX6_find_6 (by decide) ?_
  refine lv_sipush (v := 400) hx hb dX6_find_8 (by decide) ?_
  obtain ⟨x1, hx1, h⟩ := bnd h
  refine pw_go0 (va_runS (As := [.int a1, .int 10, .int 400]) (rest := []) ⟨hx, hb, hml, hown, hts⟩ (mX6_in l D cI cO cJ H.size a1 10 400 _ hx1) (va_cwS 3 hts gX6_find_X6_in rfl rfl rfl (by decide +kernel) ⟨Nat.le_of_ble_eq_true rfl, Nat.le_of_ble_eq_true rfl⟩) (pw_preS hK hN pw_nilP (pw_nilD (A := A))) rfl rfl hl.1 rfl (lv_room (Nat.le_of_ble_eq_true rfl)) dX6_find_11 ⟨Nat.zero_le _, Nat.zero_le _⟩) hP hS hA (fun H locs hP hS => ?_)
  refine lv_if_eq (tgt := 28) hx hb dX6_find_14 (by decide) (fun cq => ?_) (fun cq => ?_)
  · replace h := ifp cq h
    refine lv_aload_n hx hb dX6_find_28 rfl (lv_at hl 0 rfl) ?_
    refine lv_iconst (v := 1) hx hb dX6_find_29 (by decide) ?_
    obtain ⟨⟨x2_1, x2_2⟩, hx2, h⟩ := bnd h
    refine pw_goi (wc := [(h6, .inr (6, [.int 0, .ref h6_ms, .ref h6_mv, .int svm, .ref h6_mb, .int mln, .ref h6_mc, .ref h6_mg, .ref h6_mt, .ref h6_ml, .int mat, .int wel, .ref h6_mr, .int rdm, .long hsh])), (h6_ms, .inl (cI, 253, .inl ms)), (h6_mv, .inl (cI, 1518, .inl mv)), (h6_mb, .inl (cI, 60, .inl mb)), (h6_mc, .inl (cI, 160, .inl mc)), (h6_mg, .inl (cI, 160, .inl mg)), (h6_mt, .inl (cI, 240, .inl mt)), (h6_ml, .inl (cI, 240, .inl ml)), (h6_mr, .inl (cI, 600, .inl mr))]) (w1 := [(h6, .inr (6, [.int x2_2, .ref h6_ms, .ref h6_mv, .int svm, .ref h6_mb, .int mln, .ref h6_mc, .ref h6_mg, .ref h6_mt, .ref h6_ml, .int mat, .int wel, .ref h6_mr, .int rdm, .long hsh])), (h6_ms, .inl (cI, 253, .inl ms)), (h6_mv, .inl (cI, 1518, .inl mv)), (h6_mb, .inl (cI, 60, .inl mb)), (h6_mc, .inl (cI, 160, .inl mc)), (h6_mg, .inl (cI, 160, .inl mg)), (h6_mt, .inl (cI, 240, .inl mt)), (h6_ml, .inl (cI, 240, .inl ml)), (h6_mr, .inl (cI, 600, .inl mr))]) (w2 := [(h6, .inr (6, [.int x2_2, .ref h6_ms, .ref h6_mv, .int svm, .ref h6_mb, .int mln, .ref h6_mc, .ref h6_mg, .ref h6_mt, .ref h6_ml, .int mat, .int wel, .ref h6_mr, .int rdm, .long hsh])), (h6_ms, .inl (cI, 253, .inl ms)), (h6_mv, .inl (cI, 1518, .inl mv)), (h6_mb, .inl (cI, 60, .inl mb)), (h6_mc, .inl (cI, 160, .inl mc)), (h6_mg, .inl (cI, 160, .inl mg)), (h6_mt, .inl (cI, 240, .inl mt)), (h6_ml, .inl (cI, 240, .inl ml)), (h6_mr, .inl (cI, 600, .inl mr))]) (va_runV (As := [.int 1]) (rest := []) ⟨hx, hb, hml, hown, hts⟩ (mX6_fails l D cI cO cJ h6 h6_ms h6_mv h6_mb h6_mc h6_mg h6_mt h6_ml h6_mr H.size 0 ms mv svm mb mln mc mg mt ml mat wel mr rdm hsh 1 _ hx2) (cwV 1 hts gX6_find_X6_fails rfl rfl rfl (by decide +kernel) ⟨Nat.le_of_ble_eq_true rfl, Nat.le_of_ble_eq_true rfl⟩) (pw_preV hK hN (pw_sub hP [0, 1, 2, 3, 4, 5, 6, 7, 8] rfl) (pw_subD hD [0, 1, 2, 3, 4, 5, 6, 7, 8] (by decide) rfl) (ci := 6) (q0 := 0) rfl rfl) rfl rfl hl.1 rfl (lv_room (Nat.le_of_ble_eq_true rfl)) dX6_find_30 ⟨Nat.zero_le _, Nat.zero_le _⟩) hP hD hS hA [0, 1, 2, 3, 4, 5, 6, 7, 8] [] [0, 1, 2, 3, 4, 5, 6, 7, 8] rfl rfl (by decide) (by decide) (by decide) rfl (fun H locs hP hD hS => ?_)
    cases h
    exact pw_iret hx hb hr hlocks hAe hQ hP hD hS dX6_find_33
  · replace h := ifn cq h
    refine lv_iload_n hx hb dX6_find_17 rfl (lv_at hl 2 rfl) ?_
    refine lv_iload_n hx hb dX6_find_18 rfl (lv_at hl 1 rfl) ?_
    refine lv_sipush (v := 400) hx hb dX6_find_19 (by decide) ?_
    obtain ⟨x3, hx3, h⟩ := bnd h
    refine pw_go0 (va_runS (As := [.int a2, .int a1, .int 400]) (rest := []) ⟨hx, hb, hml, hown, hts⟩ (mX6_in l D cI cO cJ H.size a2 a1 400 _ hx3) (va_cwS 3 hts gX6_find_X6_in rfl rfl rfl (by decide +kernel) ⟨Nat.le_of_ble_eq_true rfl, Nat.le_of_ble_eq_true rfl⟩) (pw_preS hK hN pw_nilP (pw_nilD (A := A))) rfl rfl hl.1 rfl (lv_room (Nat.le_of_ble_eq_true rfl)) dX6_find_22 ⟨Nat.zero_le _, Nat.zero_le _⟩) hP hS hA (fun H locs hP hS => ?_)
    refine lv_if_ne (tgt := 34) hx hb dX6_find_25 (by decide) (fun cq => ?_) (fun cq => ?_)
    · replace h := ifn cq h
      refine lv_aload_n hx hb dX6_find_34 rfl (lv_at hl 0 rfl) ?_
      refine lv_iload_n hx hb dX6_find_35 rfl (lv_at hl 1 rfl) ?_
      refine lv_iload_n hx hb dX6_find_36 rfl (lv_at hl 2 rfl) ?_
      obtain ⟨⟨x4_1, x4_2⟩, hx4, h⟩ := bnd h
      refine pw_goi (wc := [(h6, .inr (6, [.int 0, .ref h6_ms, .ref h6_mv, .int svm, .ref h6_mb, .int mln, .ref h6_mc, .ref h6_mg, .ref h6_mt, .ref h6_ml, .int mat, .int wel, .ref h6_mr, .int rdm, .long hsh])), (h6_ms, .inl (cI, 253, .inl ms)), (h6_mv, .inl (cI, 1518, .inl mv)), (h6_mb, .inl (cI, 60, .inl mb)), (h6_mc, .inl (cI, 160, .inl mc)), (h6_mg, .inl (cI, 160, .inl mg)), (h6_mt, .inl (cI, 240, .inl mt)), (h6_ml, .inl (cI, 240, .inl ml)), (h6_mr, .inl (cI, 600, .inl mr))]) (w1 := [(h6, .inr (6, [.int 0, .ref h6_ms, .ref h6_mv, .int svm, .ref h6_mb, .int mln, .ref h6_mc, .ref h6_mg, .ref h6_mt, .ref h6_ml, .int mat, .int wel, .ref h6_mr, .int rdm, .long hsh])), (h6_ms, .inl (cI, 253, .inl ms)), (h6_mv, .inl (cI, 1518, .inl mv)), (h6_mb, .inl (cI, 60, .inl mb)), (h6_mc, .inl (cI, 160, .inl x4_2)), (h6_mg, .inl (cI, 160, .inl mg)), (h6_mt, .inl (cI, 240, .inl mt)), (h6_ml, .inl (cI, 240, .inl ml)), (h6_mr, .inl (cI, 600, .inl mr))]) (w2 := [(h6, .inr (6, [.int 0, .ref h6_ms, .ref h6_mv, .int svm, .ref h6_mb, .int mln, .ref h6_mc, .ref h6_mg, .ref h6_mt, .ref h6_ml, .int mat, .int wel, .ref h6_mr, .int rdm, .long hsh])), (h6_ms, .inl (cI, 253, .inl ms)), (h6_mv, .inl (cI, 1518, .inl mv)), (h6_mb, .inl (cI, 60, .inl mb)), (h6_mc, .inl (cI, 160, .inl x4_2)), (h6_mg, .inl (cI, 160, .inl mg)), (h6_mt, .inl (cI, 240, .inl mt)), (h6_ml, .inl (cI, 240, .inl ml)), (h6_mr, .inl (cI, 600, .inl mr))]) (va_runV (As := [.int a1, .int a2]) (rest := []) ⟨hx, hb, hml, hown, hts⟩ (mX6_bestOf l D cI cO cJ h6 h6_ms h6_mv h6_mb h6_mc h6_mg h6_mt h6_ml h6_mr H.size 0 ms mv svm mb mln mc mg mt ml mat wel mr rdm hsh a1 a2 _ hx4) (cwV 2 hts gX6_find_X6_bestOf rfl rfl rfl (by decide +kernel) ⟨Nat.le_of_ble_eq_true rfl, Nat.le_of_ble_eq_true rfl⟩) (pw_preV hK hN (pw_sub hP [0, 1, 2, 3, 4, 5, 6, 7, 8] rfl) (pw_subD hD [0, 1, 2, 3, 4, 5, 6, 7, 8] (by decide) rfl) (ci := 6) (q0 := 0) rfl rfl) rfl rfl hl.1 rfl (lv_room (Nat.le_of_ble_eq_true rfl)) dX6_find_37 ⟨Nat.zero_le _, Nat.zero_le _⟩) hP hD hS hA [0, 1, 2, 3, 4, 5, 6, 7, 8] [] [0, 1, 2, 3, 4, 5, 6, 7, 8] rfl rfl (by decide) (by decide) (by decide) rfl (fun H locs hP hD hS => ?_)
      refine lv_istore_n (lv' := [(3, .int x4_1), (0, .ref h6), (1, .int a1), (2, .int a2)]) hx hb dX6_find_40 rfl hl (by decide) rfl (fun ls hl => ?_)
      refine lv_aload_n hx hb dX6_find_41 rfl (lv_at hl 1 rfl) ?_
      refine va_get (D := D) (ci := 6) (v := .ref h6_ms) (C := RX6) (T := TX6) (N := 15) hx hb hts iX6 hown hK hP 0 rfl rfl 1 (by decide) (hts (.fieldLink RX6 7 "HiddenPeriodsModel" "s" "[I") (by decide +kernel)) (fun _ h9 => h9) rfl dX6_find_42 ?_
      refine lv_iconst (v := 4) hx hb dX6_find_45 (by decide) ?_
      obtain ⟨g5, h⟩ := gdn h
      refine va_iald hx hb hK hP 1 0 rfl rfl g5 dX6_find_46 ?_
      refine lv_iconst (v := 4) hx hb dX6_find_47 (by decide) ?_
      refine lv_icmp_eq (tgt := 60) hx hb dX6_find_48 (by decide) (fun cq => ?_) (fun cq => ?_)
      · replace h := ifp cq h
        refine lv_aload_n hx hb dX6_find_60 rfl (lv_at hl 1 rfl) ?_
        refine lv_iconst (v := 2) hx hb dX6_find_61 (by decide) ?_
        obtain ⟨⟨x6_1, x6_2⟩, hx6, h⟩ := bnd h
        refine pw_goi (wc := [(h6, .inr (6, [.int 0, .ref h6_ms, .ref h6_mv, .int svm, .ref h6_mb, .int mln, .ref h6_mc, .ref h6_mg, .ref h6_mt, .ref h6_ml, .int mat, .int wel, .ref h6_mr, .int rdm, .long hsh])), (h6_ms, .inl (cI, 253, .inl ms)), (h6_mv, .inl (cI, 1518, .inl mv)), (h6_mb, .inl (cI, 60, .inl mb)), (h6_mc, .inl (cI, 160, .inl x4_2)), (h6_mg, .inl (cI, 160, .inl mg)), (h6_mt, .inl (cI, 240, .inl mt)), (h6_ml, .inl (cI, 240, .inl ml)), (h6_mr, .inl (cI, 600, .inl mr))]) (w1 := [(h6, .inr (6, [.int x6_2, .ref h6_ms, .ref h6_mv, .int svm, .ref h6_mb, .int mln, .ref h6_mc, .ref h6_mg, .ref h6_mt, .ref h6_ml, .int mat, .int wel, .ref h6_mr, .int rdm, .long hsh])), (h6_ms, .inl (cI, 253, .inl ms)), (h6_mv, .inl (cI, 1518, .inl mv)), (h6_mb, .inl (cI, 60, .inl mb)), (h6_mc, .inl (cI, 160, .inl x4_2)), (h6_mg, .inl (cI, 160, .inl mg)), (h6_mt, .inl (cI, 240, .inl mt)), (h6_ml, .inl (cI, 240, .inl ml)), (h6_mr, .inl (cI, 600, .inl mr))]) (w2 := [(h6, .inr (6, [.int x6_2, .ref h6_ms, .ref h6_mv, .int svm, .ref h6_mb, .int mln, .ref h6_mc, .ref h6_mg, .ref h6_mt, .ref h6_ml, .int mat, .int wel, .ref h6_mr, .int rdm, .long hsh])), (h6_ms, .inl (cI, 253, .inl ms)), (h6_mv, .inl (cI, 1518, .inl mv)), (h6_mb, .inl (cI, 60, .inl mb)), (h6_mc, .inl (cI, 160, .inl x4_2)), (h6_mg, .inl (cI, 160, .inl mg)), (h6_mt, .inl (cI, 240, .inl mt)), (h6_ml, .inl (cI, 240, .inl ml)), (h6_mr, .inl (cI, 600, .inl mr))]) (va_runV (As := [.int 2]) (rest := []) ⟨hx, hb, hml, hown, hts⟩ (mX6_fails l D cI cO cJ h6 h6_ms h6_mv h6_mb h6_mc h6_mg h6_mt h6_ml h6_mr H.size 0 ms mv svm mb mln x4_2 mg mt ml mat wel mr rdm hsh 2 _ hx6) (cwV 1 hts gX6_find_X6_fails rfl rfl rfl (by decide +kernel) ⟨Nat.le_of_ble_eq_true rfl, Nat.le_of_ble_eq_true rfl⟩) (pw_preV hK hN (pw_sub hP [0, 1, 2, 3, 4, 5, 6, 7, 8] rfl) (pw_subD hD [0, 1, 2, 3, 4, 5, 6, 7, 8] (by decide) rfl) (ci := 6) (q0 := 0) rfl rfl) rfl rfl hl.1 rfl (lv_room (Nat.le_of_ble_eq_true rfl)) dX6_find_62 ⟨Nat.zero_le _, Nat.zero_le _⟩) hP hD hS hA [0, 1, 2, 3, 4, 5, 6, 7, 8] [] [0, 1, 2, 3, 4, 5, 6, 7, 8] rfl rfl (by decide) (by decide) (by decide) rfl (fun H locs hP hD hS => ?_)
        cases h
        exact pw_iret hx hb hr hlocks hAe hQ hP hD hS dX6_find_65
      · replace h := ifn cq h
        refine lv_aload_n hx hb dX6_find_51 rfl (lv_at hl 1 rfl) ?_
        refine lv_iload_n hx hb dX6_find_52 rfl (lv_at hl 0 rfl) ?_
        refine lv_iconst (v := 0) hx hb dX6_find_53 (by decide) ?_
        obtain ⟨x7, hx7, h⟩ := bnd h
        refine pw_goi (wc := [(h6, .inr (6, [.int 0, .ref h6_ms, .ref h6_mv, .int svm, .ref h6_mb, .int mln, .ref h6_mc, .ref h6_mg, .ref h6_mt, .ref h6_ml, .int mat, .int wel, .ref h6_mr, .int rdm, .long hsh])), (h6_ms, .inl (cI, 253, .inl ms)), (h6_mv, .inl (cI, 1518, .inl mv)), (h6_mb, .inl (cI, 60, .inl mb)), (h6_mc, .inl (cI, 160, .inl x4_2)), (h6_mg, .inl (cI, 160, .inl mg)), (h6_mt, .inl (cI, 240, .inl mt)), (h6_ml, .inl (cI, 240, .inl ml)), (h6_mr, .inl (cI, 600, .inl mr))]) (w1 := [(h6, .inr (6, [.int 0, .ref h6_ms, .ref h6_mv, .int svm, .ref h6_mb, .int mln, .ref h6_mc, .ref h6_mg, .ref h6_mt, .ref h6_ml, .int mat, .int wel, .ref h6_mr, .int rdm, .long hsh])), (h6_ms, .inl (cI, 253, .inl ms)), (h6_mv, .inl (cI, 1518, .inl mv)), (h6_mb, .inl (cI, 60, .inl mb)), (h6_mc, .inl (cI, 160, .inl x4_2)), (h6_mg, .inl (cI, 160, .inl mg)), (h6_mt, .inl (cI, 240, .inl mt)), (h6_ml, .inl (cI, 240, .inl ml)), (h6_mr, .inl (cI, 600, .inl mr))]) (w2 := [(h6, .inr (6, [.int 0, .ref h6_ms, .ref h6_mv, .int svm, .ref h6_mb, .int mln, .ref h6_mc, .ref h6_mg, .ref h6_mt, .ref h6_ml, .int mat, .int wel, .ref h6_mr, .int rdm, .long hsh])), (h6_ms, .inl (cI, 253, .inl ms)), (h6_mv, .inl (cI, 1518, .inl mv)), (h6_mb, .inl (cI, 60, .inl mb)), (h6_mc, .inl (cI, 160, .inl x4_2)), (h6_mg, .inl (cI, 160, .inl mg)), (h6_mt, .inl (cI, 240, .inl mt)), (h6_ml, .inl (cI, 240, .inl ml)), (h6_mr, .inl (cI, 600, .inl mr))]) (va_runV (As := [.int x4_1, .int 0]) (rest := []) ⟨hx, hb, hml, hown, hts⟩ (mX6_isKept l D cI cO cJ h6 h6_ms h6_mv h6_mb h6_mc h6_mg h6_mt h6_ml h6_mr H.size 0 ms mv svm mb mln x4_2 mg mt ml mat wel mr rdm hsh x4_1 0 _ hx7) (cwV 2 hts gX6_find_X6_isKept rfl rfl rfl (by decide +kernel) ⟨Nat.le_of_ble_eq_true rfl, Nat.le_of_ble_eq_true rfl⟩) (pw_preV hK hN (pw_sub hP [0, 1, 2, 3, 4, 5, 6, 7, 8] rfl) (pw_subD hD [0, 1, 2, 3, 4, 5, 6, 7, 8] (by decide) rfl) (ci := 6) (q0 := 0) rfl rfl) rfl rfl hl.1 rfl (lv_room (Nat.le_of_ble_eq_true rfl)) dX6_find_54 ⟨Nat.zero_le _, Nat.zero_le _⟩) hP hD hS hA [0, 1, 2, 3, 4, 5, 6, 7, 8] [] [0, 1, 2, 3, 4, 5, 6, 7, 8] rfl rfl (by decide) (by decide) (by decide) rfl (fun H locs hP hD hS => ?_)
        refine lv_if_eq (tgt := 66) hx hb dX6_find_57 (by decide) (fun cq => ?_) (fun cq => ?_)
        · replace h := ifp cq h
          refine lv_aload_n hx hb dX6_find_66 rfl (lv_at hl 1 rfl) ?_
          obtain ⟨⟨x8_1, x8_2⟩, hx8, h⟩ := bnd h
          refine pw_gov (wc := [(h6, .inr (6, [.int 0, .ref h6_ms, .ref h6_mv, .int svm, .ref h6_mb, .int mln, .ref h6_mc, .ref h6_mg, .ref h6_mt, .ref h6_ml, .int mat, .int wel, .ref h6_mr, .int rdm, .long hsh])), (h6_ms, .inl (cI, 253, .inl ms)), (h6_mv, .inl (cI, 1518, .inl mv)), (h6_mb, .inl (cI, 60, .inl mb)), (h6_mc, .inl (cI, 160, .inl x4_2)), (h6_mg, .inl (cI, 160, .inl mg)), (h6_mt, .inl (cI, 240, .inl mt)), (h6_ml, .inl (cI, 240, .inl ml)), (h6_mr, .inl (cI, 600, .inl mr))]) (w1 := [(h6, .inr (6, [.int 0, .ref h6_ms, .ref h6_mv, .int x8_2, .ref h6_mb, .int mln, .ref h6_mc, .ref h6_mg, .ref h6_mt, .ref h6_ml, .int mat, .int wel, .ref h6_mr, .int rdm, .long hsh])), (h6_ms, .inl (cI, 253, .inl ms)), (h6_mv, .inl (cI, 1518, .inl x8_1)), (h6_mb, .inl (cI, 60, .inl mb)), (h6_mc, .inl (cI, 160, .inl x4_2)), (h6_mg, .inl (cI, 160, .inl mg)), (h6_mt, .inl (cI, 240, .inl mt)), (h6_ml, .inl (cI, 240, .inl ml)), (h6_mr, .inl (cI, 600, .inl mr))]) (w2 := [(h6, .inr (6, [.int 0, .ref h6_ms, .ref h6_mv, .int x8_2, .ref h6_mb, .int mln, .ref h6_mc, .ref h6_mg, .ref h6_mt, .ref h6_ml, .int mat, .int wel, .ref h6_mr, .int rdm, .long hsh])), (h6_ms, .inl (cI, 253, .inl ms)), (h6_mv, .inl (cI, 1518, .inl x8_1)), (h6_mb, .inl (cI, 60, .inl mb)), (h6_mc, .inl (cI, 160, .inl x4_2)), (h6_mg, .inl (cI, 160, .inl mg)), (h6_mt, .inl (cI, 240, .inl mt)), (h6_ml, .inl (cI, 240, .inl ml)), (h6_mr, .inl (cI, 600, .inl mr))]) (va_runV (As := []) (rest := []) ⟨hx, hb, hml, hown, hts⟩ (mX6_saves l D cI cO cJ h6 h6_ms h6_mv h6_mb h6_mc h6_mg h6_mt h6_ml h6_mr H.size 0 ms mv svm mb mln x4_2 mg mt ml mat wel mr rdm hsh _ hx8) (cwV 0 hts gX6_find_X6_saves rfl rfl rfl (by decide +kernel) ⟨Nat.le_of_ble_eq_true rfl, Nat.le_of_ble_eq_true rfl⟩) (pw_preV hK hN (pw_sub hP [0, 1, 2, 3, 4, 5, 6, 7, 8] rfl) (pw_subD hD [0, 1, 2, 3, 4, 5, 6, 7, 8] (by decide) rfl) (ci := 6) (q0 := 0) rfl rfl) rfl rfl hl.1 rfl (lv_room (Nat.le_of_ble_eq_true rfl)) dX6_find_67 ⟨Nat.zero_le _, Nat.zero_le _⟩) hP hD hS hA [0, 1, 2, 3, 4, 5, 6, 7, 8] [] [0, 1, 2, 3, 4, 5, 6, 7, 8] rfl rfl (by decide) (by decide) (by decide) rfl (fun H locs hP hD hS => ?_)
          refine lv_aload_n hx hb dX6_find_70 rfl (lv_at hl 1 rfl) ?_
          refine lv_iload_n hx hb dX6_find_71 rfl (lv_at hl 0 rfl) ?_
          refine lv_iconst (v := 0) hx hb dX6_find_72 (by decide) ?_
          obtain ⟨⟨x9_1, x9_2⟩, hx9, h⟩ := bnd h
          refine pw_goi (wc := [(h6, .inr (6, [.int 0, .ref h6_ms, .ref h6_mv, .int x8_2, .ref h6_mb, .int mln, .ref h6_mc, .ref h6_mg, .ref h6_mt, .ref h6_ml, .int mat, .int wel, .ref h6_mr, .int rdm, .long hsh])), (h6_ms, .inl (cI, 253, .inl ms)), (h6_mv, .inl (cI, 1518, .inl x8_1)), (h6_mb, .inl (cI, 60, .inl mb)), (h6_mc, .inl (cI, 160, .inl x4_2)), (h6_mg, .inl (cI, 160, .inl mg)), (h6_mt, .inl (cI, 240, .inl mt)), (h6_ml, .inl (cI, 240, .inl ml)), (h6_mr, .inl (cI, 600, .inl mr))]) (w1 := [(h6, .inr (6, [.int 0, .ref h6_ms, .ref h6_mv, .int x8_2, .ref h6_mb, .int mln, .ref h6_mc, .ref h6_mg, .ref h6_mt, .ref h6_ml, .int mat, .int wel, .ref h6_mr, .int rdm, .long hsh])), (h6_ms, .inl (cI, 253, .inl x9_2)), (h6_mv, .inl (cI, 1518, .inl x8_1)), (h6_mb, .inl (cI, 60, .inl mb)), (h6_mc, .inl (cI, 160, .inl x4_2)), (h6_mg, .inl (cI, 160, .inl mg)), (h6_mt, .inl (cI, 240, .inl mt)), (h6_ml, .inl (cI, 240, .inl ml)), (h6_mr, .inl (cI, 600, .inl mr))]) (w2 := [(h6, .inr (6, [.int 0, .ref h6_ms, .ref h6_mv, .int x8_2, .ref h6_mb, .int mln, .ref h6_mc, .ref h6_mg, .ref h6_mt, .ref h6_ml, .int mat, .int wel, .ref h6_mr, .int rdm, .long hsh])), (h6_ms, .inl (cI, 253, .inl x9_2)), (h6_mv, .inl (cI, 1518, .inl x8_1)), (h6_mb, .inl (cI, 60, .inl mb)), (h6_mc, .inl (cI, 160, .inl x4_2)), (h6_mg, .inl (cI, 160, .inl mg)), (h6_mt, .inl (cI, 240, .inl mt)), (h6_ml, .inl (cI, 240, .inl ml)), (h6_mr, .inl (cI, 600, .inl mr))]) (va_runV (As := [.int x4_1, .int 0]) (rest := []) ⟨hx, hb, hml, hown, hts⟩ (mX6_keeps l D cI cO cJ h6 h6_ms h6_mv h6_mb h6_mc h6_mg h6_mt h6_ml h6_mr H.size 0 ms x8_1 x8_2 mb mln x4_2 mg mt ml mat wel mr rdm hsh x4_1 0 _ hx9) (cwV 2 hts gX6_find_X6_keeps rfl rfl rfl (by decide +kernel) ⟨Nat.le_of_ble_eq_true rfl, Nat.le_of_ble_eq_true rfl⟩) (pw_preV hK hN (pw_sub hP [0, 1, 2, 3, 4, 5, 6, 7, 8] rfl) (pw_subD hD [0, 1, 2, 3, 4, 5, 6, 7, 8] (by decide) rfl) (ci := 6) (q0 := 0) rfl rfl) rfl rfl hl.1 rfl (lv_room (Nat.le_of_ble_eq_true rfl)) dX6_find_73 ⟨Nat.zero_le _, Nat.zero_le _⟩) hP hD hS hA [0, 1, 2, 3, 4, 5, 6, 7, 8] [] [0, 1, 2, 3, 4, 5, 6, 7, 8] rfl rfl (by decide) (by decide) (by decide) rfl (fun H locs hP hD hS => ?_)
          refine lv_pop hx hb dX6_find_76 rfl ?_
          refine lv_iload_n hx hb dX6_find_77 rfl (lv_at hl 0 rfl) ?_
          cases h
          exact pw_iret hx hb hr hlocks hAe hQ hP hD hS dX6_find_78
        · replace h := ifn cq h
          refine lv_aload_n hx hb dX6_find_60 rfl (lv_at hl 1 rfl) ?_
          refine lv_iconst (v := 2) hx hb dX6_find_61 (by decide) ?_
          obtain ⟨⟨x10_1, x10_2⟩, hx10, h⟩ := bnd h
          refine pw_goi (wc := [(h6, .inr (6, [.int 0, .ref h6_ms, .ref h6_mv, .int svm, .ref h6_mb, .int mln, .ref h6_mc, .ref h6_mg, .ref h6_mt, .ref h6_ml, .int mat, .int wel, .ref h6_mr, .int rdm, .long hsh])), (h6_ms, .inl (cI, 253, .inl ms)), (h6_mv, .inl (cI, 1518, .inl mv)), (h6_mb, .inl (cI, 60, .inl mb)), (h6_mc, .inl (cI, 160, .inl x4_2)), (h6_mg, .inl (cI, 160, .inl mg)), (h6_mt, .inl (cI, 240, .inl mt)), (h6_ml, .inl (cI, 240, .inl ml)), (h6_mr, .inl (cI, 600, .inl mr))]) (w1 := [(h6, .inr (6, [.int x10_2, .ref h6_ms, .ref h6_mv, .int svm, .ref h6_mb, .int mln, .ref h6_mc, .ref h6_mg, .ref h6_mt, .ref h6_ml, .int mat, .int wel, .ref h6_mr, .int rdm, .long hsh])), (h6_ms, .inl (cI, 253, .inl ms)), (h6_mv, .inl (cI, 1518, .inl mv)), (h6_mb, .inl (cI, 60, .inl mb)), (h6_mc, .inl (cI, 160, .inl x4_2)), (h6_mg, .inl (cI, 160, .inl mg)), (h6_mt, .inl (cI, 240, .inl mt)), (h6_ml, .inl (cI, 240, .inl ml)), (h6_mr, .inl (cI, 600, .inl mr))]) (w2 := [(h6, .inr (6, [.int x10_2, .ref h6_ms, .ref h6_mv, .int svm, .ref h6_mb, .int mln, .ref h6_mc, .ref h6_mg, .ref h6_mt, .ref h6_ml, .int mat, .int wel, .ref h6_mr, .int rdm, .long hsh])), (h6_ms, .inl (cI, 253, .inl ms)), (h6_mv, .inl (cI, 1518, .inl mv)), (h6_mb, .inl (cI, 60, .inl mb)), (h6_mc, .inl (cI, 160, .inl x4_2)), (h6_mg, .inl (cI, 160, .inl mg)), (h6_mt, .inl (cI, 240, .inl mt)), (h6_ml, .inl (cI, 240, .inl ml)), (h6_mr, .inl (cI, 600, .inl mr))]) (va_runV (As := [.int 2]) (rest := []) ⟨hx, hb, hml, hown, hts⟩ (mX6_fails l D cI cO cJ h6 h6_ms h6_mv h6_mb h6_mc h6_mg h6_mt h6_ml h6_mr H.size 0 ms mv svm mb mln x4_2 mg mt ml mat wel mr rdm hsh 2 _ hx10) (cwV 1 hts gX6_find_X6_fails rfl rfl rfl (by decide +kernel) ⟨Nat.le_of_ble_eq_true rfl, Nat.le_of_ble_eq_true rfl⟩) (pw_preV hK hN (pw_sub hP [0, 1, 2, 3, 4, 5, 6, 7, 8] rfl) (pw_subD hD [0, 1, 2, 3, 4, 5, 6, 7, 8] (by decide) rfl) (ci := 6) (q0 := 0) rfl rfl) rfl rfl hl.1 rfl (lv_room (Nat.le_of_ble_eq_true rfl)) dX6_find_62 ⟨Nat.zero_le _, Nat.zero_le _⟩) hP hD hS hA [0, 1, 2, 3, 4, 5, 6, 7, 8] [] [0, 1, 2, 3, 4, 5, 6, 7, 8] rfl rfl (by decide) (by decide) (by decide) rfl (fun H locs hP hD hS => ?_)
          cases h
          exact pw_iret hx hb hr hlocks hAe hQ hP hD hS dX6_find_65
    · replace h := ifp cq h
      refine lv_aload_n hx hb dX6_find_28 rfl (lv_at hl 0 rfl) ?_
      refine lv_iconst (v := 1) hx hb dX6_find_29 (by decide) ?_
      obtain ⟨⟨x11_1, x11_2⟩, hx11, h⟩ := bnd h
      refine pw_goi (wc := [(h6, .inr (6, [.int 0, .ref h6_ms, .ref h6_mv, .int svm, .ref h6_mb, .int mln, .ref h6_mc, .ref h6_mg, .ref h6_mt, .ref h6_ml, .int mat, .int wel, .ref h6_mr, .int rdm, .long hsh])), (h6_ms, .inl (cI, 253, .inl ms)), (h6_mv, .inl (cI, 1518, .inl mv)), (h6_mb, .inl (cI, 60, .inl mb)), (h6_mc, .inl (cI, 160, .inl mc)), (h6_mg, .inl (cI, 160, .inl mg)), (h6_mt, .inl (cI, 240, .inl mt)), (h6_ml, .inl (cI, 240, .inl ml)), (h6_mr, .inl (cI, 600, .inl mr))]) (w1 := [(h6, .inr (6, [.int x11_2, .ref h6_ms, .ref h6_mv, .int svm, .ref h6_mb, .int mln, .ref h6_mc, .ref h6_mg, .ref h6_mt, .ref h6_ml, .int mat, .int wel, .ref h6_mr, .int rdm, .long hsh])), (h6_ms, .inl (cI, 253, .inl ms)), (h6_mv, .inl (cI, 1518, .inl mv)), (h6_mb, .inl (cI, 60, .inl mb)), (h6_mc, .inl (cI, 160, .inl mc)), (h6_mg, .inl (cI, 160, .inl mg)), (h6_mt, .inl (cI, 240, .inl mt)), (h6_ml, .inl (cI, 240, .inl ml)), (h6_mr, .inl (cI, 600, .inl mr))]) (w2 := [(h6, .inr (6, [.int x11_2, .ref h6_ms, .ref h6_mv, .int svm, .ref h6_mb, .int mln, .ref h6_mc, .ref h6_mg, .ref h6_mt, .ref h6_ml, .int mat, .int wel, .ref h6_mr, .int rdm, .long hsh])), (h6_ms, .inl (cI, 253, .inl ms)), (h6_mv, .inl (cI, 1518, .inl mv)), (h6_mb, .inl (cI, 60, .inl mb)), (h6_mc, .inl (cI, 160, .inl mc)), (h6_mg, .inl (cI, 160, .inl mg)), (h6_mt, .inl (cI, 240, .inl mt)), (h6_ml, .inl (cI, 240, .inl ml)), (h6_mr, .inl (cI, 600, .inl mr))]) (va_runV (As := [.int 1]) (rest := []) ⟨hx, hb, hml, hown, hts⟩ (mX6_fails l D cI cO cJ h6 h6_ms h6_mv h6_mb h6_mc h6_mg h6_mt h6_ml h6_mr H.size 0 ms mv svm mb mln mc mg mt ml mat wel mr rdm hsh 1 _ hx11) (cwV 1 hts gX6_find_X6_fails rfl rfl rfl (by decide +kernel) ⟨Nat.le_of_ble_eq_true rfl, Nat.le_of_ble_eq_true rfl⟩) (pw_preV hK hN (pw_sub hP [0, 1, 2, 3, 4, 5, 6, 7, 8] rfl) (pw_subD hD [0, 1, 2, 3, 4, 5, 6, 7, 8] (by decide) rfl) (ci := 6) (q0 := 0) rfl rfl) rfl rfl hl.1 rfl (lv_room (Nat.le_of_ble_eq_true rfl)) dX6_find_30 ⟨Nat.zero_le _, Nat.zero_le _⟩) hP hD hS hA [0, 1, 2, 3, 4, 5, 6, 7, 8] [] [0, 1, 2, 3, 4, 5, 6, 7, 8] rfl rfl (by decide) (by decide) (by decide) rfl (fun H locs hP hD hS => ?_)
      cases h
      exact pw_iret hx hb hr hlocks hAe hQ hP hD hS dX6_find_33

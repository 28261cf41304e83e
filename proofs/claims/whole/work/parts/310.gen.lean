def fX6_fails (a1 : Int32) : Option (Int32 × Int32) :=
  some (0, a1)
abbrev rmX6_fails : Room := { frames := 0, cells := 0, slots := 0, locals := 0 }
set_option maxHeartbeats 4000000 in
set_option maxRecDepth 100000 in
theorem mX6_fails (l : Launch) (D : va_G) (cI cO cJ : ClassId) (h6 h6_ms h6_mv h6_mb h6_mc h6_mg h6_mt h6_ml h6_mr : Nat) (sz : Nat) (thr : Int32) (ms : Nat → Int32) (mv : Nat → Int32) (svm : Int32) (mb : Nat → Int32) (mln : Int32) (mc : Nat → Int32) (mg : Nat → Int32) (mt : Nat → Int32) (ml : Nat → Int32) (mat : Int32) (wel : Int32) (mr : Nat → Int32) (rdm : Int32) (hsh : Int64) (a1 : Int32) (z : Int32 × Int32) (h : fX6_fails a1 = some z) : Met l yX6_fails wsX6_fails rmX6_fails (pw_pre D (tyL cI cO cJ) [.ref h6, .int a1] [(h6, .inr (6, [.int thr, .ref h6_ms, .ref h6_mv, .int svm, .ref h6_mb, .int mln, .ref h6_mc, .ref h6_mg, .ref h6_mt, .ref h6_ml, .int mat, .int wel, .ref h6_mr, .int rdm, .long hsh])), (h6_ms, .inl (cI, 253, .inl ms)), (h6_mv, .inl (cI, 1518, .inl mv)), (h6_mb, .inl (cI, 60, .inl mb)), (h6_mc, .inl (cI, 160, .inl mc)), (h6_mg, .inl (cI, 160, .inl mg)), (h6_mt, .inl (cI, 240, .inl mt)), (h6_ml, .inl (cI, 240, .inl ml)), (h6_mr, .inl (cI, 600, .inl mr))] sz) (pw_i D [(h6, .inr (6, [.int thr, .ref h6_ms, .ref h6_mv, .int svm, .ref h6_mb, .int mln, .ref h6_mc, .ref h6_mg, .ref h6_mt, .ref h6_ml, .int mat, .int wel, .ref h6_mr, .int rdm, .long hsh])), (h6_ms, .inl (cI, 253, .inl ms)), (h6_mv, .inl (cI, 1518, .inl mv)), (h6_mb, .inl (cI, 60, .inl mb)), (h6_mc, .inl (cI, 160, .inl mc)), (h6_mg, .inl (cI, 160, .inl mg)), (h6_mt, .inl (cI, 240, .inl mt)), (h6_ml, .inl (cI, 240, .inl ml)), (h6_mr, .inl (cI, 600, .inl mr))] [(h6, .inr (6, [.int z.2, .ref h6_ms, .ref h6_mv, .int svm, .ref h6_mb, .int mln, .ref h6_mc, .ref h6_mg, .ref h6_mt, .ref h6_ml, .int mat, .int wel, .ref h6_mr, .int rdm, .long hsh])), (h6_ms, .inl (cI, 253, .inl ms)), (h6_mv, .inl (cI, 1518, .inl mv)), (h6_mb, .inl (cI, 60, .inl mb)), (h6_mc, .inl (cI, 160, .inl mc)), (h6_mg, .inl (cI, 160, .inl mg)), (h6_mt, .inl (cI, 240, .inl mt)), (h6_ml, .inl (cI, 240, .inl ml)), (h6_mr, .inl (cI, 600, .inl mr))] z.1 sz) 0 0 (va_A [(h6, .inr (6, [.int thr, .ref h6_ms, .ref h6_mv, .int svm, .ref h6_mb, .int mln, .ref h6_mc, .ref h6_mg, .ref h6_mt, .ref h6_ml, .int mat, .int wel, .ref h6_mr, .int rdm, .long hsh])), (h6_ms, .inl (cI, 253, .inl ms)), (h6_mv, .inl (cI, 1518, .inl mv)), (h6_mb, .inl (cI, 60, .inl mb)), (h6_mc, .inl (cI, 160, .inl mc)), (h6_mg, .inl (cI, 160, .inl mg)), (h6_mt, .inl (cI, 240, .inl mt)), (h6_ml, .inl (cI, 240, .inl ml)), (h6_mr, .inl (cI, 600, .inl mr))] sz) := by
  refine pw_of (Qc := fun sz => pw_i D [(h6, .inr (6, [.int thr, .ref h6_ms, .ref h6_mv, .int svm, .ref h6_mb, .int mln, .ref h6_mc, .ref h6_mg, .ref h6_mt, .ref h6_ml, .int mat, .int wel, .ref h6_mr, .int rdm, .long hsh])), (h6_ms, .inl (cI, 253, .inl ms)), (h6_mv, .inl (cI, 1518, .inl mv)), (h6_mb, .inl (cI, 60, .inl mb)), (h6_mc, .inl (cI, 160, .inl mc)), (h6_mg, .inl (cI, 160, .inl mg)), (h6_mt, .inl (cI, 240, .inl mt)), (h6_ml, .inl (cI, 240, .inl ml)), (h6_mr, .inl (cI, 600, .inl mr))] [(h6, .inr (6, [.int z.2, .ref h6_ms, .ref h6_mv, .int svm, .ref h6_mb, .int mln, .ref h6_mc, .ref h6_mg, .ref h6_mt, .ref h6_ml, .int mat, .int wel, .ref h6_mr, .int rdm, .long hsh])), (h6_ms, .inl (cI, 253, .inl ms)), (h6_mv, .inl (cI, 1518, .inl mv)), (h6_mb, .inl (cI, 60, .inl mb)), (h6_mc, .inl (cI, 160, .inl mc)), (h6_mg, .inl (cI, 160, .inl mg)), (h6_mt, .inl (cI, 240, .inl mt)), (h6_ml, .inl (cI, 240, .inl ml)), (h6_mr, .inl (cI, 600, .inl mr))] z.1 sz) (cc := cX6_fails) (maxL := 2) (ret := (some .int)) (by decide) rfl (Nat.le_of_ble_eq_true rfl) ?_
  intro p e s m args below meth c A Q H ls hx hb hml hr hts hown hlocks hAe hQ hK hN hA hP hD hS hl
  have hown : s.vm.findClass RX6 = some m.cls := hown
  have hl : lv_has ls 2 [(0, .ref h6), (1, .int a1)] := hl
  have hP : va_P D vwCl ([(h6, .inr (6, [.int thr, .ref h6_ms, .ref h6_mv, .int svm, .ref h6_mb, .int mln, .ref h6_mc, .ref h6_mg, .ref h6_mt, .ref h6_ml, .int mat, .int wel, .ref h6_mr, .int rdm, .long hsh])), (h6_ms, .inl (cI, 253, .inl ms)), (h6_mv, .inl (cI, 1518, .inl mv)), (h6_mb, .inl (cI, 60, .inl mb)), (h6_mc, .inl (cI, 160, .inl mc)), (h6_mg, .inl (cI, 160, .inl mg)), (h6_mt, .inl (cI, 240, .inl mt)), (h6_ml, .inl (cI, 240, .inl ml)), (h6_mr, .inl (cI, 600, .inl mr))] ++ []) H := hP
  have hD : va_D A ([(h6, .inr (6, [.int thr, .ref h6_ms, .ref h6_mv, .int svm, .ref h6_mb, .int mln, .ref h6_mc, .ref h6_mg, .ref h6_mt, .ref h6_ml, .int mat, .int wel, .ref h6_mr, .int rdm, .long hsh])), (h6_ms, .inl (cI, 253, .inl ms)), (h6_mv, .inl (cI, 1518, .inl mv)), (h6_mb, .inl (cI, 60, .inl mb)), (h6_mc, .inl (cI, 160, .inl mc)), (h6_mg, .inl (cI, 160, .inl mg)), (h6_mt, .inl (cI, 240, .inl mt)), (h6_ml, .inl (cI, 240, .inl ml)), (h6_mr, .inl (cI, 600, .inl mr))] ++ []) := hD
  have iX6 : ∀ w ∈ u_ws RX6 TX6 15, w ∈ wsX6_fails := fun _ h => List.mem_cons_of_mem _ (List.mem_append_right _ h)
  unfold fX6_fails at h
  refine lv_aload_n hx hb dX6_fails_0 rfl (lv_at hl 0 rfl) ?_
  refine lv_iload_n hx hb dX6_fails_1 rfl (lv_at hl 1 rfl) ?_
  refine va_put (D := D) (ci := 6) (v := .int a1) (ty := .int) (C := RX6) (T := TX6) (N := 15) hx hb hts iX6 tyX6 tyX6_ok nmX6 hown hK hP hD hS 0 rfl rfl 0 (by decide) (hts (.fieldLink RX6 34 "HiddenPeriodsModel" "thrown" "I") (by decide +kernel)) (fun _ h9 => h9) rfl (by decide +kernel) rfl rfl (Nat.le_of_ble_eq_true rfl) dX6_fails_2 (fun H locs hP hD hS => ?_)
  have hP : va_P D vwCl ([(h6, .inr (6, [.int a1, .ref h6_ms, .ref h6_mv, .int svm, .ref h6_mb, .int mln, .ref h6_mc, .ref h6_mg, .ref h6_mt, .ref h6_ml, .int mat, .int wel, .ref h6_mr, .int rdm, .long hsh])), (h6_ms, .inl (cI, 253, .inl ms)), (h6_mv, .inl (cI, 1518, .inl mv)), (h6_mb, .inl (cI, 60, .inl mb)), (h6_mc, .inl (cI, 160, .inl mc)), (h6_mg, .inl (cI, 160, .inl mg)), (h6_mt, .inl (cI, 240, .inl mt)), (h6_ml, .inl (cI, 240, .inl ml)), (h6_mr, .inl (cI, 600, .inl mr))] ++ []) H := hP
  have hD : va_D A ([(h6, .inr (6, [.int a1, .ref h6_ms, .ref h6_mv, .int svm, .ref h6_mb, .int mln, .ref h6_mc, .ref h6_mg, .ref h6_mt, .ref h6_ml, .int mat, .int wel, .ref h6_mr, .int rdm, .long hsh])), (h6_ms, .inl (cI, 253, .inl ms)), (h6_mv, .inl (cI, 1518, .inl mv)), (h6_mb, .inl (cI, 60, .inl mb)), (h6_mc, .inl (cI, 160, .inl mc)), (h6_mg, .inl (cI, 160, .inl mg)), (h6_mt, .inl (cI, 240, .inl mt)), (h6_ml, .inl (cI, 240, .inl ml)), (h6_mr, .inl (cI, 600, .inl mr))] ++ []) := hD
  refine lv_iconst (v := 0) hx hb dX6_fails_5 (by decide) ?_
  cases h
  exact pw_iret hx hb hr hlocks hAe hQ hP hD hS dX6_fails_6
def fX6_saves_L52 (ms : Nat → Int32) (x1_2 : Int32) : Nat → Int32 → (Nat → Int32) → Option (Nat → Int32)
  | 0, _, _ => none
  | n + 1, v1_52, mv_52 =>
    if 253 ≤ v1_52 then
    some mv_52
    else
    if oob v1_52 253 then none else
    if oob ((253 * x1_2) + v1_52) 1518 then none else
    fX6_saves_L52 ms x1_2 n (v1_52 + 1) (upd mv_52 (((253 * x1_2) + v1_52)).toNatClampNeg (ms v1_52.toNatClampNeg))
def fX6_saves_L11 : Nat → Int32 → (Nat → Int32) → Option (Nat → Int32)
  | 0, _, _ => none
  | n + 1, v1_11, mv_11 =>
    if 1265 ≤ v1_11 then
    some mv_11
    else
    if oob (v1_11 + 253) 1518 then none else
    if oob v1_11 1518 then none else
    fX6_saves_L11 n (v1_11 + 1) (upd mv_11 v1_11.toNatClampNeg (mv_11 ((v1_11 + 253)).toNatClampNeg))
def fX6_saves (ms : Nat → Int32) (mv : Nat → Int32) (svm : Int32) : Option ((Nat → Int32) × Int32) :=
  (if svm = 6 then
  (fX6_saves_L11 FU 0 mv).bind fun x7 =>
  some (x7, (svm - 1))
  else
  some (mv, svm) : Option ((Nat → Int32) × Int32)).bind fun (x1_1, x1_2) =>
  (fX6_saves_L52 ms x1_2 FU 0 x1_1).bind fun x4 =>
  some (x4, (x1_2 + 1))
abbrev rmX6_saves : Room := { frames := 0, cells := 0, slots := 0, locals := 0 }
set_option maxHeartbeats 4000000 in
set_option maxRecDepth 100000 in
theorem mX6_saves (l : Launch) (D : va_G) (cI cO cJ : ClassId) (h6 h6_ms h6_mv h6_mb h6_mc h6_mg h6_mt h6_ml h6_mr : Nat) (sz : Nat) (thr : Int32) (ms : Nat → Int32) (mv : Nat → Int32) (svm : Int32) (mb : Nat → Int32) (mln : Int32) (mc : Nat → Int32) (mg : Nat → Int32) (mt : Nat → Int32) (ml : Nat → Int32) (mat : Int32) (wel : Int32) (mr : Nat → Int32) (rdm : Int32) (hsh : Int64) (z : (Nat → Int32) × Int32) (h : fX6_saves ms mv svm = some z) : Met l yX6_saves wsX6_saves rmX6_saves (pw_pre D (tyL cI cO cJ) [.ref h6] [(h6, .inr (6, [.int thr, .ref h6_ms, .ref h6_mv, .int svm, .ref h6_mb, .int mln, .ref h6_mc, .ref h6_mg, .ref h6_mt, .ref h6_ml, .int mat, .int wel, .ref h6_mr, .int rdm, .long hsh])), (h6_ms, .inl (cI, 253, .inl ms)), (h6_mv, .inl (cI, 1518, .inl mv)), (h6_mb, .inl (cI, 60, .inl mb)), (h6_mc, .inl (cI, 160, .inl mc)), (h6_mg, .inl (cI, 160, .inl mg)), (h6_mt, .inl (cI, 240, .inl mt)), (h6_ml, .inl (cI, 240, .inl ml)), (h6_mr, .inl (cI, 600, .inl mr))] sz) (pw_v D [(h6, .inr (6, [.int thr, .ref h6_ms, .ref h6_mv, .int svm, .ref h6_mb, .int mln, .ref h6_mc, .ref h6_mg, .ref h6_mt, .ref h6_ml, .int mat, .int wel, .ref h6_mr, .int rdm, .long hsh])), (h6_ms, .inl (cI, 253, .inl ms)), (h6_mv, .inl (cI, 1518, .inl mv)), (h6_mb, .inl (cI, 60, .inl mb)), (h6_mc, .inl (cI, 160, .inl mc)), (h6_mg, .inl (cI, 160, .inl mg)), (h6_mt, .inl (cI, 240, .inl mt)), (h6_ml, .inl (cI, 240, .inl ml)), (h6_mr, .inl (cI, 600, .inl mr))] [(h6, .inr (6, [.int thr, .ref h6_ms, .ref h6_mv, .int z.2, .ref h6_mb, .int mln, .ref h6_mc, .ref h6_mg, .ref h6_mt, .ref h6_ml, .int mat, .int wel, .ref h6_mr, .int rdm, .long hsh])), (h6_ms, .inl (cI, 253, .inl ms)), (h6_mv, .inl (cI, 1518, .inl z.1)), (h6_mb, .inl (cI, 60, .inl mb)), (h6_mc, .inl (cI, 160, .inl mc)), (h6_mg, .inl (cI, 160, .inl mg)), (h6_mt, .inl (cI, 240, .inl mt)), (h6_ml, .inl (cI, 240, .inl ml)), (h6_mr, .inl (cI, 600, .inl mr))] sz) 0 0 (va_A [(h6, .inr (6, [.int thr, .ref h6_ms, .ref h6_mv, .int svm, .ref h6_mb, .int mln, .ref h6_mc, .ref h6_mg, .ref h6_mt, .ref h6_ml, .int mat, .int wel, .ref h6_mr, .int rdm, .long hsh])), (h6_ms, .inl (cI, 253, .inl ms)), (h6_mv, .inl (cI, 1518, .inl mv)), (h6_mb, .inl (cI, 60, .inl mb)), (h6_mc, .inl (cI, 160, .inl mc)), (h6_mg, .inl (cI, 160, .inl mg)), (h6_mt, .inl (cI, 240, .inl mt)), (h6_ml, .inl (cI, 240, .inl ml)), (h6_mr, .inl (cI, 600, .inl mr))] sz) := by
  refine pw_of (Qc := fun sz => pw_v D [(h6, .inr (6, [.int thr, .ref h6_ms, .ref h6_mv, .int svm, .ref h6_mb, .int mln, .ref h6_mc, .ref h6_mg, .ref h6_mt, .ref h6_ml, .int mat, .int wel, .ref h6_mr, .int rdm, .long hsh])), (h6_ms, .inl (cI, 253, .inl ms)), (h6_mv, .inl (cI, 1518, .inl mv)), (h6_mb, .inl (cI, 60, .inl mb)), (h6_mc, .inl (cI, 160, .inl mc)), (h6_mg, .inl (cI, 160, .inl mg)), (h6_mt, .inl (cI, 240, .inl mt)), (h6_ml, .inl (cI, 240, .inl ml)), (h6_mr, .inl (cI, 600, .inl mr))] [(h6, .inr (6, [.int thr, .ref h6_ms, .ref h6_mv, .int z.2, .ref h6_mb, .int mln, .ref h6_mc, .ref h6_mg, .ref h6_mt, .ref h6_ml, .int mat, .int wel, .ref h6_mr, .int rdm, .long hsh])), (h6_ms, .inl (cI, 253, .inl ms)), (h6_mv, .inl (cI, 1518, .inl z.1)), (h6_mb, .inl (cI, 60, .inl mb)), (h6_mc, .inl (cI, 160, .inl mc)), (h6_mg, .inl (cI, 160, .inl mg)), (h6_mt, .inl (cI, 240, .inl mt)), (h6_ml, .inl (cI, 240, .inl ml)), (h6_mr, .inl (cI, 600, .inl mr))] sz) (cc := cX6_saves) (maxL := 2) (ret := none) (by decide) rfl (Nat.le_of_ble_eq_true rfl) ?_
  intro p e s m args below meth c A Q H ls hx hb hml hr hts hown hlocks hAe hQ hK hN hA hP hD hS hl
  have hown : s.vm.findClass RX6 = some m.cls := hown
  have hl : lv_has ls 2 [(0, .ref h6)] := hl
  have hP : va_P D vwCl ([(h6, .inr (6, [.int thr, .ref h6_ms, .ref h6_mv, .int svm, .ref h6_mb, .int mln, .ref h6_mc, .ref h6_mg, .ref h6_mt, .ref h6_ml, .int mat, .int wel, .ref h6_mr, .int rdm, .long hsh])), (h6_ms, .inl (cI, 253, .inl ms)), (h6_mv, .inl (cI, 1518, .inl mv)), (h6_mb, .inl (cI, 60, .inl mb)), (h6_mc, .inl (cI, 160, .inl mc)), (h6_mg, .inl (cI, 160, .inl mg)), (h6_mt, .inl (cI, 240, .inl mt)), (h6_ml, .inl (cI, 240, .inl ml)), (h6_mr, .inl (cI, 600, .inl mr))] ++ []) H := hP
  have hD : va_D A ([(h6, .inr (6, [.int thr, .ref h6_ms, .ref h6_mv, .int svm, .ref h6_mb, .int mln, .ref h6_mc, .ref h6_mg, .ref h6_mt, .ref h6_ml, .int mat, .int wel, .ref h6_mr, .int rdm, .long hsh])), (h6_ms, .inl (cI, 253, .inl ms)), (h6_mv, .inl (cI, 1518, .inl mv)), (h6_mb, .inl (cI, 60, .inl mb)), (h6_mc, .inl (cI, 160, .inl mc)), (h6_mg, .inl (cI, 160, .inl mg)), (h6_mt, .inl (cI, 240, .inl mt)), (h6_ml, .inl (cI, 240, .inl ml)), (h6_mr, .inl (cI, 600, .inl mr))] ++ []) := hD
  have iX6 : ∀ w ∈ u_ws RX6 TX6 15, w ∈ wsX6_saves := fun _ h => List.mem_cons_of_mem _ (List.mem_append_right _ h)
  unfold fX6_saves at h
  refine lv_aload_n hx hb dX6_saves_0 rfl (lv_at hl 0 rfl) ?_
  refine va_get (D := D) (ci := 6) (v := .int svm) (C := RX6) (T := TX6) (N := 15) hx hb hts iX6 hown hK hP 0 rfl rfl 3 (by decide) (hts (.fieldLink RX6 38 "HiddenPeriodsModel" "savedMany" "I") (by decide +kernel)) (fun _ h9 => h9) rfl dX6_saves_1 ?_
  refine lv_bipush (v := 6) hx hb dX6_saves_4 (by decide) ?_
  obtain ⟨⟨x1_1, x1_2⟩, hx1, h⟩ := bnd h
  have Jx1 : ∀ (H : Heap) (locs : List Loc) (ls : Array Slot), va_P D vwCl ([(h6, .inr (6, [.int thr, .ref h6_ms, .ref h6_mv, .int x1_2, .ref h6_mb, .int mln, .ref h6_mc, .ref h6_mg, .ref h6_mt, .ref h6_ml, .int mat, .int wel, .ref h6_mr, .int rdm, .long hsh])), (h6_ms, .inl (cI, 253, .inl ms)), (h6_mv, .inl (cI, 1518, .inl x1_1)), (h6_mb, .inl (cI, 60, .inl mb)), (h6_mc, .inl (cI, 160, .inl mc)), (h6_mg, .inl (cI, 160, .inl mg)), (h6_mt, .inl (cI, 240, .inl mt)), (h6_ml, .inl (cI, 240, .inl ml)), (h6_mr, .inl (cI, 600, .inl mr))] ++ []) H → va_D A ([(h6, .inr (6, [.int thr, .ref h6_ms, .ref h6_mv, .int x1_2, .ref h6_mb, .int mln, .ref h6_mc, .ref h6_mg, .ref h6_mt, .ref h6_ml, .int mat, .int wel, .ref h6_mr, .int rdm, .long hsh])), (h6_ms, .inl (cI, 253, .inl ms)), (h6_mv, .inl (cI, 1518, .inl x1_1)), (h6_mb, .inl (cI, 60, .inl mb)), (h6_mc, .inl (cI, 160, .inl mc)), (h6_mg, .inl (cI, 160, .inl mg)), (h6_mt, .inl (cI, 240, .inl mt)), (h6_ml, .inl (cI, 240, .inl ml)), (h6_mr, .inl (cI, 600, .inl mr))] ++ []) → va_S A s.heap H locs → lv_has ls 2 [(0, .ref h6)] → W p l e rmX6_saves s m args below meth c H locs 0 0 Q (F0 m 50 ls []) := by
    intro H locs ls hP hD hS hl
    refine lv_iconst (v := 0) hx hb dX6_saves_50 (by decide) ?_
    refine lv_istore_n (lv' := [(1, .int 0), (0, .ref h6)]) hx hb dX6_saves_51 rfl hl (by decide) rfl (fun ls hl => ?_)
    have L52 : ∀ (n : Nat) (v1_52 : Int32) (mv_52 : Nat → Int32) (o52_1 : Nat → Int32) (H : Heap) (locs : List Loc) (ls : Array Slot), fX6_saves_L52 ms x1_2 n v1_52 mv_52 = some o52_1 → va_P D vwCl ([(h6, .inr (6, [.int thr, .ref h6_ms, .ref h6_mv, .int x1_2, .ref h6_mb, .int mln, .ref h6_mc, .ref h6_mg, .ref h6_mt, .ref h6_ml, .int mat, .int wel, .ref h6_mr, .int rdm, .long hsh])), (h6_ms, .inl (cI, 253, .inl ms)), (h6_mv, .inl (cI, 1518, .inl mv_52)), (h6_mb, .inl (cI, 60, .inl mb)), (h6_mc, .inl (cI, 160, .inl mc)), (h6_mg, .inl (cI, 160, .inl mg)), (h6_mt, .inl (cI, 240, .inl mt)), (h6_ml, .inl (cI, 240, .inl ml)), (h6_mr, .inl (cI, 600, .inl mr))] ++ []) H → va_D A ([(h6, .inr (6, [.int thr, .ref h6_ms, .ref h6_mv, .int x1_2, .ref h6_mb, .int mln, .ref h6_mc, .ref h6_mg, .ref h6_mt, .ref h6_ml, .int mat, .int wel, .ref h6_mr, .int rdm, .long hsh])), (h6_ms, .inl (cI, 253, .inl ms)), (h6_mv, .inl (cI, 1518, .inl mv_52)), (h6_mb, .inl (cI, 60, .inl mb)), (h6_mc, .inl (cI, 160, .inl mc)), (h6_mg, .inl (cI, 160, .inl mg)), (h6_mt, .inl (cI, 240, .inl mt)), (h6_ml, .inl (cI, 240, .inl ml)), (h6_mr, .inl (cI, 600, .inl mr))] ++ []) → va_S A s.heap H locs → lv_has ls 2 [(0, .ref h6), (1, .int v1_52)] → (∀ (H : Heap) (locs : List Loc) (ls : Array Slot), va_P D vwCl ([(h6, .inr (6, [.int thr, .ref h6_ms, .ref h6_mv, .int x1_2, .ref h6_mb, .int mln, .ref h6_mc, .ref h6_mg, .ref h6_mt, .ref h6_ml, .int mat, .int wel, .ref h6_mr, .int rdm, .long hsh])), (h6_ms, .inl (cI, 253, .inl ms)), (h6_mv, .inl (cI, 1518, .inl o52_1)), (h6_mb, .inl (cI, 60, .inl mb)), (h6_mc, .inl (cI, 160, .inl mc)), (h6_mg, .inl (cI, 160, .inl mg)), (h6_mt, .inl (cI, 240, .inl mt)), (h6_ml, .inl (cI, 240, .inl ml)), (h6_mr, .inl (cI, 600, .inl mr))] ++ []) H → va_D A ([(h6, .inr (6, [.int thr, .ref h6_ms, .ref h6_mv, .int x1_2, .ref h6_mb, .int mln, .ref h6_mc, .ref h6_mg, .ref h6_mt, .ref h6_ml, .int mat, .int wel, .ref h6_mr, .int rdm, .long hsh])), (h6_ms, .inl (cI, 253, .inl ms)), (h6_mv, .inl (cI, 1518, .inl o52_1)), (h6_mb, .inl (cI, 60, .inl mb)), (h6_mc, .inl (cI, 160, .inl mc)), (h6_mg, .inl (cI, 160, .inl mg)), (h6_mt, .inl (cI, 240, .inl mt)), (h6_ml, .inl (cI, 240, .inl ml)), (h6_mr, .inl (cI, 600, .inl mr))] ++ []) → va_S A s.heap H locs → lv_has ls 2 [(0, .ref h6)] → W p l e rmX6_saves s m args below meth c H locs 0 0 Q (F0 m 86 ls [])) → W p l e rmX6_saves s m args below meth c H locs 0 0 Q (F0 m 52 ls []) := by
      intro n
      induction n with
      | zero =>
        intro v1_52 mv_52 o52_1 H locs ls h
        rw [fX6_saves_L52] at h
        cases h
      | succ n ih =>
        intro v1_52 mv_52 o52_1 H locs ls h hP hD hS hl K
        rw [fX6_saves_L52] at h
        refine lv_iload_n hx hb dX6_saves_52 rfl (lv_at hl 1 rfl) ?_
        refine lv_sipush (v := 253) hx hb dX6_saves_53 (by decide) ?_
        refine lv_icmp_ge (tgt := 86) hx hb dX6_saves_56 (by decide) (fun cq => ?_) (fun cq => ?_)
        · replace h := ifp cq h
          cases h
          exact K _ _ _ hP hD hS (lv_sub hl [0] rfl)
        · replace h := ifn cq h
          refine lv_aload_n hx hb dX6_saves_59 rfl (lv_at hl 0 rfl) ?_
          refine va_get (D := D) (ci := 6) (v := .ref h6_mv) (C := RX6) (T := TX6) (N := 15) hx hb hts iX6 hown hK hP 0 rfl rfl 2 (by decide) (hts (.fieldLink RX6 13 "HiddenPeriodsModel" "saved" "[I") (by decide +kernel)) (fun _ h9 => h9) rfl dX6_saves_60 ?_
          refine lv_sipush (v := 253) hx hb dX6_saves_63 (by decide) ?_
          refine lv_aload_n hx hb dX6_saves_66 rfl (lv_at hl 0 rfl) ?_
          refine va_get (D := D) (ci := 6) (v := .int x1_2) (C := RX6) (T := TX6) (N := 15) hx hb hts iX6 hown hK hP 0 rfl rfl 3 (by decide) (hts (.fieldLink RX6 38 "HiddenPeriodsModel" "savedMany" "I") (by decide +kernel)) (fun _ h9 => h9) rfl dX6_saves_67 ?_
          refine lv_imul hx hb dX6_saves_70 ?_
          refine lv_iload_n hx hb dX6_saves_71 rfl (lv_at hl 1 rfl) ?_
          refine lv_iadd hx hb dX6_saves_72 ?_
          refine lv_aload_n hx hb dX6_saves_73 rfl (lv_at hl 0 rfl) ?_
          refine va_get (D := D) (ci := 6) (v := .ref h6_ms) (C := RX6) (T := TX6) (N := 15) hx hb hts iX6 hown hK hP 0 rfl rfl 1 (by decide) (hts (.fieldLink RX6 7 "HiddenPeriodsModel" "s" "[I") (by decide +kernel)) (fun _ h9 => h9) rfl dX6_saves_74 ?_
          refine lv_iload_n hx hb dX6_saves_77 rfl (lv_at hl 1 rfl) ?_
          obtain ⟨g2, h⟩ := gdn h
          refine va_iald hx hb hK hP 1 0 rfl rfl g2 dX6_saves_78 ?_
          obtain ⟨g3, h⟩ := gdn h
          refine va_iast hx hb hK hP hD hS 2 0 rfl rfl g3 dX6_saves_79 (fun H locs hP hD hS => ?_)
          have hP : va_P D vwCl ([(h6, .inr (6, [.int thr, .ref h6_ms, .ref h6_mv, .int x1_2, .ref h6_mb, .int mln, .ref h6_mc, .ref h6_mg, .ref h6_mt, .ref h6_ml, .int mat, .int wel, .ref h6_mr, .int rdm, .long hsh])), (h6_ms, .inl (cI, 253, .inl ms)), (h6_mv, .inl (cI, 1518, .inl (upd mv_52 (((253 * x1_2) + v1_52)).toNatClampNeg (ms v1_52.toNatClampNeg)))), (h6_mb, .inl (cI, 60, .inl mb)), (h6_mc, .inl (cI, 160, .inl mc)), (h6_mg, .inl (cI, 160, .inl mg)), (h6_mt, .inl (cI, 240, .inl mt)), (h6_ml, .inl (cI, 240, .inl ml)), (h6_mr, .inl (cI, 600, .inl mr))] ++ []) H := hP
          have hD : va_D A ([(h6, .inr (6, [.int thr, .ref h6_ms, .ref h6_mv, .int x1_2, .ref h6_mb, .int mln, .ref h6_mc, .ref h6_mg, .ref h6_mt, .ref h6_ml, .int mat, .int wel, .ref h6_mr, .int rdm, .long hsh])), (h6_ms, .inl (cI, 253, .inl ms)), (h6_mv, .inl (cI, 1518, .inl (upd mv_52 (((253 * x1_2) + v1_52)).toNatClampNeg (ms v1_52.toNatClampNeg)))), (h6_mb, .inl (cI, 60, .inl mb)), (h6_mc, .inl (cI, 160, .inl mc)), (h6_mg, .inl (cI, 160, .inl mg)), (h6_mt, .inl (cI, 240, .inl mt)), (h6_ml, .inl (cI, 240, .inl ml)), (h6_mr, .inl (cI, 600, .inl mr))] ++ []) := hD
          refine lv_iinc (v := (v1_52 + 1)) (lv' := [(1, .int (v1_52 + 1)), (0, .ref h6)]) hx hb dX6_saves_80 hl (k := 1) rfl rfl (by decide) rfl (fun ls hl => ?_)
          refine lv_goto (tgt := 52) hx hb dX6_saves_83 (by decide) ?_
          exact ih _ _ _ _ _ _ h hP hD hS (lv_sub hl [1, 0] rfl) K
    obtain ⟨x4, hx4, h⟩ := bnd h
    refine L52 FU _ _ _ _ _ _ hx4 hP hD hS (lv_sub hl [1, 0] rfl) (fun H locs ls hP hD hS hl => ?_)
    refine lv_aload_n hx hb dX6_saves_86 rfl (lv_at hl 0 rfl) ?_
    refine lv_dup hx hb dX6_saves_87 rfl ?_
    refine va_get (D := D) (ci := 6) (v := .int x1_2) (C := RX6) (T := TX6) (N := 15) hx hb hts iX6 hown hK hP 0 rfl rfl 3 (by decide) (hts (.fieldLink RX6 38 "HiddenPeriodsModel" "savedMany" "I") (by decide +kernel)) (fun _ h9 => h9) rfl dX6_saves_88 ?_
    refine lv_iconst (v := 1) hx hb dX6_saves_91 (by decide) ?_
    refine lv_iadd hx hb dX6_saves_92 ?_
    refine va_put (D := D) (ci := 6) (v := .int (x1_2 + 1)) (ty := .int) (C := RX6) (T := TX6) (N := 15) hx hb hts iX6 tyX6 tyX6_ok nmX6 hown hK hP hD hS 0 rfl rfl 3 (by decide) (hts (.fieldLink RX6 38 "HiddenPeriodsModel" "savedMany" "I") (by decide +kernel)) (fun _ h9 => h9) rfl (by decide +kernel) rfl rfl (Nat.le_of_ble_eq_true rfl) dX6_saves_93 (fun H locs hP hD hS => ?_)
    have hP : va_P D vwCl ([(h6, .inr (6, [.int thr, .ref h6_ms, .ref h6_mv, .int (x1_2 + 1), .ref h6_mb, .int mln, .ref h6_mc, .ref h6_mg, .ref h6_mt, .ref h6_ml, .int mat, .int wel, .ref h6_mr, .int rdm, .long hsh])), (h6_ms, .inl (cI, 253, .inl ms)), (h6_mv, .inl (cI, 1518, .inl x4)), (h6_mb, .inl (cI, 60, .inl mb)), (h6_mc, .inl (cI, 160, .inl mc)), (h6_mg, .inl (cI, 160, .inl mg)), (h6_mt, .inl (cI, 240, .inl mt)), (h6_ml, .inl (cI, 240, .inl ml)), (h6_mr, .inl (cI, 600, .inl mr))] ++ []) H := hP
    have hD : va_D A ([(h6, .inr (6, [.int thr, .ref h6_ms, .ref h6_mv, .int (x1_2 + 1), .ref h6_mb, .int mln, .ref h6_mc, .ref h6_mg, .ref h6_mt, .ref h6_ml, .int mat, .int wel, .ref h6_mr, .int rdm, .long hsh])), (h6_ms, .inl (cI, 253, .inl ms)), (h6_mv, .inl (cI, 1518, .inl x4)), (h6_mb, .inl (cI, 60, .inl mb)), (h6_mc, .inl (cI, 160, .inl mc)), (h6_mg, .inl (cI, 160, .inl mg)), (h6_mt, .inl (cI, 240, .inl mt)), (h6_ml, .inl (cI, 240, .inl ml)), (h6_mr, .inl (cI, 600, .inl mr))] ++ []) := hD
    cases h
    exact pw_vret hx hb hr hlocks hAe hQ hP hD hS dX6_saves_96
  replace h := hx1
  refine lv_icmp_ne (tgt := 50) hx hb dX6_saves_6 (by decide) (fun cq => ?_) (fun cq => ?_)
  · replace h := ifn cq h
    cases h
    exact Jx1 _ _ _ hP hD hS (lv_sub hl [0] rfl)
  · replace h := ifp cq h
    refine lv_iconst (v := 0) hx hb dX6_saves_9 (by decide) ?_
    refine lv_istore_n (lv' := [(1, .int 0), (0, .ref h6)]) hx hb dX6_saves_10 rfl hl (by decide) rfl (fun ls hl => ?_)
    have L11 : ∀ (n : Nat) (v1_11 : Int32) (mv_11 : Nat → Int32) (o11_1 : Nat → Int32) (H : Heap) (locs : List Loc) (ls : Array Slot), fX6_saves_L11 n v1_11 mv_11 = some o11_1 → va_P D vwCl ([(h6, .inr (6, [.int thr, .ref h6_ms, .ref h6_mv, .int svm, .ref h6_mb, .int mln, .ref h6_mc, .ref h6_mg, .ref h6_mt, .ref h6_ml, .int mat, .int wel, .ref h6_mr, .int rdm, .long hsh])), (h6_ms, .inl (cI, 253, .inl ms)), (h6_mv, .inl (cI, 1518, .inl mv_11)), (h6_mb, .inl (cI, 60, .inl mb)), (h6_mc, .inl (cI, 160, .inl mc)), (h6_mg, .inl (cI, 160, .inl mg)), (h6_mt, .inl (cI, 240, .inl mt)), (h6_ml, .inl (cI, 240, .inl ml)), (h6_mr, .inl (cI, 600, .inl mr))] ++ []) H → va_D A ([(h6, .inr (6, [.int thr, .ref h6_ms, .ref h6_mv, .int svm, .ref h6_mb, .int mln, .ref h6_mc, .ref h6_mg, .ref h6_mt, .ref h6_ml, .int mat, .int wel, .ref h6_mr, .int rdm, .long hsh])), (h6_ms, .inl (cI, 253, .inl ms)), (h6_mv, .inl (cI, 1518, .inl mv_11)), (h6_mb, .inl (cI, 60, .inl mb)), (h6_mc, .inl (cI, 160, .inl mc)), (h6_mg, .inl (cI, 160, .inl mg)), (h6_mt, .inl (cI, 240, .inl mt)), (h6_ml, .inl (cI, 240, .inl ml)), (h6_mr, .inl (cI, 600, .inl mr))] ++ []) → va_S A s.heap H locs → lv_has ls 2 [(0, .ref h6), (1, .int v1_11)] → (∀ (H : Heap) (locs : List Loc) (ls : Array Slot), va_P D vwCl ([(h6, .inr (6, [.int thr, .ref h6_ms, .ref h6_mv, .int svm, .ref h6_mb, .int mln, .ref h6_mc, .ref h6_mg, .ref h6_mt, .ref h6_ml, .int mat, .int wel, .ref h6_mr, .int rdm, .long hsh])), (h6_ms, .inl (cI, 253, .inl ms)), (h6_mv, .inl (cI, 1518, .inl o11_1)), (h6_mb, .inl (cI, 60, .inl mb)), (h6_mc, .inl (cI, 160, .inl mc)), (h6_mg, .inl (cI, 160, .inl mg)), (h6_mt, .inl (cI, 240, .inl mt)), (h6_ml, .inl (cI, 240, .inl ml)), (h6_mr, .inl (cI, 600, .inl mr))] ++ []) H → va_D A ([(h6, .inr (6, [.int thr, .ref h6_ms, .ref h6_mv, .int svm, .ref h6_mb, .int mln, .ref h6_mc, .ref h6_mg, .ref h6_mt, .ref h6_ml, .int mat, .int wel, .ref h6_mr, .int rdm, .long hsh])), (h6_ms, .inl (cI, 253, .inl ms)), (h6_mv, .inl (cI, 1518, .inl o11_1)), (h6_mb, .inl (cI, 60, .inl mb)), (h6_mc, .inl (cI, 160, .inl mc)), (h6_mg, .inl (cI, 160, .inl mg)), (h6_mt, .inl (cI, 240, .inl mt)), (h6_ml, .inl (cI, 240, .inl ml)), (h6_mr, .inl (cI, 600, .inl mr))] ++ []) → va_S A s.heap H locs → lv_has ls 2 [(0, .ref h6)] → W p l e rmX6_saves s m args below meth c H locs 0 0 Q (F0 m 40 ls [])) → W p l e rmX6_saves s m args below meth c H locs 0 0 Q (F0 m 11 ls []) := by
      intro n
      induction n with
      | zero =>
        intro v1_11 mv_11 o11_1 H locs ls h
        rw [fX6_saves_L11] at h
        cases h
      | succ n ih =>
        intro v1_11 mv_11 o11_1 H locs ls h hP hD hS hl K
        rw [fX6_saves_L11] at h
        refine lv_iload_n hx hb dX6_saves_11 rfl (lv_at hl 1 rfl) ?_
        refine lv_sipush (v := 1265) hx hb dX6_saves_12 (by decide) ?_
        refine lv_icmp_ge (tgt := 40) hx hb dX6_saves_15 (by decide) (fun cq => ?_) (fun cq => ?_)
        · replace h := ifp cq h
          cases h
          exact K _ _ _ hP hD hS (lv_sub hl [0] rfl)
        · replace h := ifn cq h
          refine lv_aload_n hx hb dX6_saves_18 rfl (lv_at hl 0 rfl) ?_
          refine va_get (D := D) (ci := 6) (v := .ref h6_mv) (C := RX6) (T := TX6) (N := 15) hx hb hts iX6 hown hK hP 0 rfl rfl 2 (by decide) (hts (.fieldLink RX6 13 "HiddenPeriodsModel" "saved" "[I") (by decide +kernel)) (fun _ h9 => h9) rfl dX6_saves_19 ?_
          refine lv_iload_n hx hb dX6_saves_22 rfl (lv_at hl 1 rfl) ?_
          refine lv_aload_n hx hb dX6_saves_23 rfl (lv_at hl 0 rfl) ?_
          refine va_get (D := D) (ci := 6) (v := .ref h6_mv) (C := RX6) (T := TX6) (N := 15) hx hb hts iX6 hown hK hP 0 rfl rfl 2 (by decide) (hts (.fieldLink RX6 13 "HiddenPeriodsModel" "saved" "[I") (by decide +kernel)) (fun _ h9 => h9) rfl dX6_saves_24 ?_
          refine lv_iload_n hx hb dX6_saves_27 rfl (lv_at hl 1 rfl) ?_
          refine lv_sipush (v := 253) hx hb dX6_saves_28 (by decide) ?_
          refine lv_iadd hx hb dX6_saves_31 ?_
          obtain ⟨g5, h⟩ := gdn h
          refine va_iald hx hb hK hP 2 0 rfl rfl g5 dX6_saves_32 ?_
          obtain ⟨g6, h⟩ := gdn h
          refine va_iast hx hb hK hP hD hS 2 0 rfl rfl g6 dX6_saves_33 (fun H locs hP hD hS => ?_)
          have hP : va_P D vwCl ([(h6, .inr (6, [.int thr, .ref h6_ms, .ref h6_mv, .int svm, .ref h6_mb, .int mln, .ref h6_mc, .ref h6_mg, .ref h6_mt, .ref h6_ml, .int mat, .int wel, .ref h6_mr, .int rdm, .long hsh])), (h6_ms, .inl (cI, 253, .inl ms)), (h6_mv, .inl (cI, 1518, .inl (upd mv_11 v1_11.toNatClampNeg (mv_11 ((v1_11 + 253)).toNatClampNeg)))), (h6_mb, .inl (cI, 60, .inl mb)), (h6_mc, .inl (cI, 160, .inl mc)), (h6_mg, .inl (cI, 160, .inl mg)), (h6_mt, .inl (cI, 240, .inl mt)), (h6_ml, .inl (cI, 240, .inl ml)), (h6_mr, .inl (cI, 600, .inl mr))] ++ []) H := hP
          have hD : va_D A ([(h6, .inr (6, [.int thr, .ref h6_ms, .ref h6_mv, .int svm, .ref h6_mb, .int mln, .ref h6_mc, .ref h6_mg, .ref h6_mt, .ref h6_ml, .int mat, .int wel, .ref h6_mr, .int rdm, .long hsh])), (h6_ms, .inl (cI, 253, .inl ms)), (h6_mv, .inl (cI, 1518, .inl (upd mv_11 v1_11.toNatClampNeg (mv_11 ((v1_11 + 253)).toNatClampNeg)))), (h6_mb, .inl (cI, 60, .inl mb)), (h6_mc, .inl (cI, 160, .inl mc)), (h6_mg, .inl (cI, 160, .inl mg)), (h6_mt, .inl (cI, 240, .inl mt)), (h6_ml, .inl (cI, 240, .inl ml)), (h6_mr, .inl (cI, 600, .inl mr))] ++ []) := hD
          refine lv_iinc (v := (v1_11 + 1)) (lv' := [(1, .int (v1_11 + 1)), (0, .ref h6)]) hx hb dX6_saves_34 hl (k := 1) rfl rfl (by decide) rfl (fun ls hl => ?_)
          refine lv_goto (tgt := 11) hx hb dX6_saves_37 (by decide) ?_
          exact ih _ _ _ _ _ _ h hP hD hS (lv_sub hl [1, 0] rfl) K
    obtain ⟨x7, hx7, h⟩ := bnd h
    refine L11 FU _ _ _ _ _ _ hx7 hP hD hS (lv_sub hl [1, 0] rfl) (fun H locs ls hP hD hS hl => ?_)
    refine lv_aload_n hx hb dX6_saves_40 rfl (lv_at hl 0 rfl) ?_
    refine lv_dup hx hb dX6_saves_41 rfl ?_
    refine va_get (D := D) (ci := 6) (v := .int svm) (C := RX6) (T := TX6) (N := 15) hx hb hts iX6 hown hK hP 0 rfl rfl 3 (by decide) (hts (.fieldLink RX6 38 "HiddenPeriodsModel" "savedMany" "I") (by decide +kernel)) (fun _ h9 => h9) rfl dX6_saves_42 ?_
    refine lv_iconst (v := 1) hx hb dX6_saves_45 (by decide) ?_
    refine lv_isub hx hb dX6_saves_46 ?_
    refine va_put (D := D) (ci := 6) (v := .int (svm - 1)) (ty := .int) (C := RX6) (T := TX6) (N := 15) hx hb hts iX6 tyX6 tyX6_ok nmX6 hown hK hP hD hS 0 rfl rfl 3 (by decide) (hts (.fieldLink RX6 38 "HiddenPeriodsModel" "savedMany" "I") (by decide +kernel)) (fun _ h9 => h9) rfl (by decide +kernel) rfl rfl (Nat.le_of_ble_eq_true rfl) dX6_saves_47 (fun H locs hP hD hS => ?_)
    have hP : va_P D vwCl ([(h6, .inr (6, [.int thr, .ref h6_ms, .ref h6_mv, .int (svm - 1), .ref h6_mb, .int mln, .ref h6_mc, .ref h6_mg, .ref h6_mt, .ref h6_ml, .int mat, .int wel, .ref h6_mr, .int rdm, .long hsh])), (h6_ms, .inl (cI, 253, .inl ms)), (h6_mv, .inl (cI, 1518, .inl x7)), (h6_mb, .inl (cI, 60, .inl mb)), (h6_mc, .inl (cI, 160, .inl mc)), (h6_mg, .inl (cI, 160, .inl mg)), (h6_mt, .inl (cI, 240, .inl mt)), (h6_ml, .inl (cI, 240, .inl ml)), (h6_mr, .inl (cI, 600, .inl mr))] ++ []) H := hP
    have hD : va_D A ([(h6, .inr (6, [.int thr, .ref h6_ms, .ref h6_mv, .int (svm - 1), .ref h6_mb, .int mln, .ref h6_mc, .ref h6_mg, .ref h6_mt, .ref h6_ml, .int mat, .int wel, .ref h6_mr, .int rdm, .long hsh])), (h6_ms, .inl (cI, 253, .inl ms)), (h6_mv, .inl (cI, 1518, .inl x7)), (h6_mb, .inl (cI, 60, .inl mb)), (h6_mc, .inl (cI, 160, .inl mc)), (h6_mg, .inl (cI, 160, .inl mg)), (h6_mt, .inl (cI, 240, .inl mt)), (h6_ml, .inl (cI, 240, .inl ml)), (h6_mr, .inl (cI, 600, .inl mr))] ++ []) := hD
    cases h
    exact Jx1 _ _ _ hP hD hS (lv_sub hl [0] rfl)
def fX6_firstPlace (ms : Nat → Int32) : Option Int32 :=
  if oob 2 253 then none else
  if (ms (2 : Int32).toNatClampNeg) = 0 then
  some 0
  else
  if oob 1 253 then none else
  some (ms (1 : Int32).toNatClampNeg)
abbrev rmX6_firstPlace : Room := { frames := 0, cells := 0, slots := 0, locals := 0 }
set_option maxHeartbeats 4000000 in
set_option maxRecDepth 100000 in
theorem mX6_firstPlace (l : Launch) (D : va_G) (cI cO cJ : ClassId) (h6 h6_ms h6_mv h6_mb h6_mc h6_mg h6_mt h6_ml h6_mr : Nat) (sz : Nat) (thr : Int32) (ms : Nat → Int32) (mv : Nat → Int32) (svm : Int32) (mb : Nat → Int32) (mln : Int32) (mc : Nat → Int32) (mg : Nat → Int32) (mt : Nat → Int32) (ml : Nat → Int32) (mat : Int32) (wel : Int32) (mr : Nat → Int32) (rdm : Int32) (hsh : Int64) (z : Int32) (h : fX6_firstPlace ms = some z) : Met l yX6_firstPlace wsX6_firstPlace rmX6_firstPlace (pw_pre D (tyL cI cO cJ) [.ref h6] [(h6, .inr (6, [.int thr, .ref h6_ms, .ref h6_mv, .int svm, .ref h6_mb, .int mln, .ref h6_mc, .ref h6_mg, .ref h6_mt, .ref h6_ml, .int mat, .int wel, .ref h6_mr, .int rdm, .long hsh])), (h6_ms, .inl (cI, 253, .inl ms)), (h6_mv, .inl (cI, 1518, .inl mv)), (h6_mb, .inl (cI, 60, .inl mb)), (h6_mc, .inl (cI, 160, .inl mc)), (h6_mg, .inl (cI, 160, .inl mg)), (h6_mt, .inl (cI, 240, .inl mt)), (h6_ml, .inl (cI, 240, .inl ml)), (h6_mr, .inl (cI, 600, .inl mr))] sz) (pw_i D [(h6, .inr (6, [.int thr, .ref h6_ms, .ref h6_mv, .int svm, .ref h6_mb, .int mln, .ref h6_mc, .ref h6_mg, .ref h6_mt, .ref h6_ml, .int mat, .int wel, .ref h6_mr, .int rdm, .long hsh])), (h6_ms, .inl (cI, 253, .inl ms)), (h6_mv, .inl (cI, 1518, .inl mv)), (h6_mb, .inl (cI, 60, .inl mb)), (h6_mc, .inl (cI, 160, .inl mc)), (h6_mg, .inl (cI, 160, .inl mg)), (h6_mt, .inl (cI, 240, .inl mt)), (h6_ml, .inl (cI, 240, .inl ml)), (h6_mr, .inl (cI, 600, .inl mr))] [(h6, .inr (6, [.int thr, .ref h6_ms, .ref h6_mv, .int svm, .ref h6_mb, .int mln, .ref h6_mc, .ref h6_mg, .ref h6_mt, .ref h6_ml, .int mat, .int wel, .ref h6_mr, .int rdm, .long hsh])), (h6_ms, .inl (cI, 253, .inl ms)), (h6_mv, .inl (cI, 1518, .inl mv)), (h6_mb, .inl (cI, 60, .inl mb)), (h6_mc, .inl (cI, 160, .inl mc)), (h6_mg, .inl (cI, 160, .inl mg)), (h6_mt, .inl (cI, 240, .inl mt)), (h6_ml, .inl (cI, 240, .inl ml)), (h6_mr, .inl (cI, 600, .inl mr))] z sz) 0 0 (va_A [(h6, .inr (6, [.int thr, .ref h6_ms, .ref h6_mv, .int svm, .ref h6_mb, .int mln, .ref h6_mc, .ref h6_mg, .ref h6_mt, .ref h6_ml, .int mat, .int wel, .ref h6_mr, .int rdm, .long hsh])), (h6_ms, .inl (cI, 253, .inl ms)), (h6_mv, .inl (cI, 1518, .inl mv)), (h6_mb, .inl (cI, 60, .inl mb)), (h6_mc, .inl (cI, 160, .inl mc)), (h6_mg, .inl (cI, 160, .inl mg)), (h6_mt, .inl (cI, 240, .inl mt)), (h6_ml, .inl (cI, 240, .inl ml)), (h6_mr, .inl (cI, 600, .inl mr))] sz) := by
  refine pw_of (Qc := fun sz => pw_i D [(h6, .inr (6, [.int thr, .ref h6_ms, .ref h6_mv, .int svm, .ref h6_mb, .int mln, .ref h6_mc, .ref h6_mg, .ref h6_mt, .ref h6_ml, .int mat, .int wel, .ref h6_mr, .int rdm, .long hsh])), (h6_ms, .inl (cI, 253, .inl ms)), (h6_mv, .inl (cI, 1518, .inl mv)), (h6_mb, .inl (cI, 60, .inl mb)), (h6_mc, .inl (cI, 160, .inl mc)), (h6_mg, .inl (cI, 160, .inl mg)), (h6_mt, .inl (cI, 240, .inl mt)), (h6_ml, .inl (cI, 240, .inl ml)), (h6_mr, .inl (cI, 600, .inl mr))] [(h6, .inr (6, [.int thr, .ref h6_ms, .ref h6_mv, .int svm, .ref h6_mb, .int mln, .ref h6_mc, .ref h6_mg, .ref h6_mt, .ref h6_ml, .int mat, .int wel, .ref h6_mr, .int rdm, .long hsh])), (h6_ms, .inl (cI, 253, .inl ms)), (h6_mv, .inl (cI, 1518, .inl mv)), (h6_mb, .inl (cI, 60, .inl mb)), (h6_mc, .inl (cI, 160, .inl mc)), (h6_mg, .inl (cI, 160, .inl mg)), (h6_mt, .inl (cI, 240, .inl mt)), (h6_ml, .inl (cI, 240, .inl ml)), (h6_mr, .inl (cI, 600, .inl mr))] z sz) (cc := cX6_firstPlace) (maxL := 1) (ret := (some .int)) (by decide) rfl (Nat.le_of_ble_eq_true rfl) ?_
  intro p e s m args below meth c A Q H ls hx hb hml hr hts hown hlocks hAe hQ hK hN hA hP hD hS hl
  have hown : s.vm.findClass RX6 = some m.cls := hown
  have hl : lv_has ls 1 [(0, .ref h6)] := hl
  have hP : va_P D vwCl ([(h6, .inr (6, [.int thr, .ref h6_ms, .ref h6_mv, .int svm, .ref h6_mb, .int mln, .ref h6_mc, .ref h6_mg, .ref h6_mt, .ref h6_ml, .int mat, .int wel, .ref h6_mr, .int rdm, .long hsh])), (h6_ms, .inl (cI, 253, .inl ms)), (h6_mv, .inl (cI, 1518, .inl mv)), (h6_mb, .inl (cI, 60, .inl mb)), (h6_mc, .inl (cI, 160, .inl mc)), (h6_mg, .inl (cI, 160, .inl mg)), (h6_mt, .inl (cI, 240, .inl mt)), (h6_ml, .inl (cI, 240, .inl ml)), (h6_mr, .inl (cI, 600, .inl mr))] ++ []) H := hP
  have hD : va_D A ([(h6, .inr (6, [.int thr, .ref h6_ms, .ref h6_mv, .int svm, .ref h6_mb, .int mln, .ref h6_mc, .ref h6_mg, .ref h6_mt, .ref h6_ml, .int mat, .int wel, .ref h6_mr, .int rdm, .long hsh])), (h6_ms, .inl (cI, 253, .inl ms)), (h6_mv, .inl (cI, 1518, .inl mv)), (h6_mb, .inl (cI, 60, .inl mb)), (h6_mc, .inl (cI, 160, .inl mc)), (h6_mg, .inl (cI, 160, .inl mg)), (h6_mt, .inl (cI, 240, .inl mt)), (h6_ml, .inl (cI, 240, .inl ml)), (h6_mr, .inl (cI, 600, .inl mr))] ++ []) := hD
  have iX6 : ∀ w ∈ u_ws RX6 TX6 15, w ∈ wsX6_firstPlace := fun _ h => List.mem_cons_of_mem _ (List.mem_append_right _ h)
  unfold fX6_firstPlace at h
  refine lv_aload_n hx hb dX6_firstPlace_0 rfl (lv_at hl 0 rfl) ?_
  refine va_get (D := D) (ci := 6) (v := .ref h6_ms) (C := RX6) (T := TX6) (N := 15) hx hb hts iX6 hown hK hP 0 rfl rfl 1 (by decide) (hts (.fieldLink RX6 7 "HiddenPeriodsModel" "s" "[I") (by decide +kernel)) (fun _ h9 => h9) rfl dX6_firstPlace_1 ?_
  refine lv_iconst (v := 2) hx hb dX6_firstPlace_4 (by decide) ?_
  obtain ⟨g1, h⟩ := gdn h
  refine va_iald hx hb hK hP 1 0 rfl rfl g1 dX6_firstPlace_5 ?_
  refine lv_if_ne (tgt := 13) hx hb dX6_firstPlace_6 (by decide) (fun cq => ?_) (fun cq => ?_)
  · replace h := ifn cq h
    refine lv_aload_n hx hb dX6_firstPlace_13 rfl (lv_at hl 0 rfl) ?_
    refine va_get (D := D) (ci := 6) (v := .ref h6_ms) (C := RX6) (T := TX6) (N := 15) hx hb hts iX6 hown hK hP 0 rfl rfl 1 (by decide) (hts (.fieldLink RX6 7 "HiddenPeriodsModel" "s" "[I") (by decide +kernel)) (fun _ h9 => h9) rfl dX6_firstPlace_14 ?_
    refine lv_iconst (v := 1) hx hb dX6_firstPlace_17 (by decide) ?_
    obtain ⟨g2, h⟩ := gdn h
    refine va_iald hx hb hK hP 1 0 rfl rfl g2 dX6_firstPlace_18 ?_
    cases h
    exact pw_iret hx hb hr hlocks hAe hQ hP hD hS dX6_firstPlace_19
  · replace h := ifp cq h
    refine lv_iconst (v := 0) hx hb dX6_firstPlace_9 (by decide) ?_
    refine lv_goto (tgt := 19) hx hb dX6_firstPlace_10 (by decide) ?_
    cases h
    exact pw_iret hx hb hr hlocks hAe hQ hP hD hS dX6_firstPlace_19
def fX6_lastPlace (ms : Nat → Int32) : Option Int32 :=
  if oob 2 253 then none else
  (if (ms (2 : Int32).toNatClampNeg) = 0 then
  if oob 0 253 then none else
  some (ms (0 : Int32).toNatClampNeg)
  else
  if oob 1 253 then none else
  if oob 2 253 then none else
  some ((ms (1 : Int32).toNatClampNeg) + (ms (2 : Int32).toNatClampNeg)) : Option Int32).bind fun x2 =>
  if oob 0 253 then none else
  (if (ms (0 : Int32).toNatClampNeg) ≤ x2 then
  if oob 0 253 then none else
  some (ms (0 : Int32).toNatClampNeg)
  else
  some x2 : Option Int32).bind fun x4 =>
  (fX6_firstPlace ms).bind fun x5 =>
  if x5 ≤ x4 then
  some x4
  else
  (fX6_firstPlace ms).bind fun x6 =>
  some x6
abbrev rmX6_lastPlace : Room := { frames := 1, cells := 0, slots := 0, locals := 20 }
set_option maxHeartbeats 4000000 in
set_option maxRecDepth 100000 in
theorem mX6_lastPlace (l : Launch) (D : va_G) (cI cO cJ : ClassId) (h6 h6_ms h6_mv h6_mb h6_mc h6_mg h6_mt h6_ml h6_mr : Nat) (sz : Nat) (thr : Int32) (ms : Nat → Int32) (mv : Nat → Int32) (svm : Int32) (mb : Nat → Int32) (mln : Int32) (mc : Nat → Int32) (mg : Nat → Int32) (mt : Nat → Int32) (ml : Nat → Int32) (mat : Int32) (wel : Int32) (mr : Nat → Int32) (rdm : Int32) (hsh : Int64) (z : Int32) (h : fX6_lastPlace ms = some z) : Met l yX6_lastPlace wsX6_lastPlace rmX6_lastPlace (pw_pre D (tyL cI cO cJ) [.ref h6] [(h6, .inr (6, [.int thr, .ref h6_ms, .ref h6_mv, .int svm, .ref h6_mb, .int mln, .ref h6_mc, .ref h6_mg, .ref h6_mt, .ref h6_ml, .int mat, .int wel, .ref h6_mr, .int rdm, .long hsh])), (h6_ms, .inl (cI, 253, .inl ms)), (h6_mv, .inl (cI, 1518, .inl mv)), (h6_mb, .inl (cI, 60, .inl mb)), (h6_mc, .inl (cI, 160, .inl mc)), (h6_mg, .inl (cI, 160, .inl mg)), (h6_mt, .inl (cI, 240, .inl mt)), (h6_ml, .inl (cI, 240, .inl ml)), (h6_mr, .inl (cI, 600, .inl mr))] sz) (pw_i D [(h6, .inr (6, [.int thr, .ref h6_ms, .ref h6_mv, .int svm, .ref h6_mb, .int mln, .ref h6_mc, .ref h6_mg, .ref h6_mt, .ref h6_ml, .int mat, .int wel, .ref h6_mr, .int rdm, .long hsh])), (h6_ms, .inl (cI, 253, .inl ms)), (h6_mv, .inl (cI, 1518, .inl mv)), (h6_mb, .inl (cI, 60, .inl mb)), (h6_mc, .inl (cI, 160, .inl mc)), (h6_mg, .inl (cI, 160, .inl mg)), (h6_mt, .inl (cI, 240, .inl mt)), (h6_ml, .inl (cI, 240, .inl ml)), (h6_mr, .inl (cI, 600, .inl mr))] [(h6, .inr (6, [.int thr, .ref h6_ms, .ref h6_mv, .int svm, .ref h6_mb, .int mln, .ref h6_mc, .ref h6_mg, .ref h6_mt, .ref h6_ml, .int mat, .int wel, .ref h6_mr, .int rdm, .long hsh])), (h6_ms, .inl (cI, 253, .inl ms)), (h6_mv, .inl (cI, 1518, .inl mv)), (h6_mb, .inl (cI, 60, .inl mb)), (h6_mc, .inl (cI, 160, .inl mc)), (h6_mg, .inl (cI, 160, .inl mg)), (h6_mt, .inl (cI, 240, .inl mt)), (h6_ml, .inl (cI, 240, .inl ml)), (h6_mr, .inl (cI, 600, .inl mr))] z sz) 0 0 (va_A [(h6, .inr (6, [.int thr, .ref h6_ms, .ref h6_mv, .int svm, .ref h6_mb, .int mln, .ref h6_mc, .ref h6_mg, .ref h6_mt, .ref h6_ml, .int mat, .int wel, .ref h6_mr, .int rdm, .long hsh])), (h6_ms, .inl (cI, 253, .inl ms)), (h6_mv, .inl (cI, 1518, .inl mv)), (h6_mb, .inl (cI, 60, .inl mb)), (h6_mc, .inl (cI, 160, .inl mc)), (h6_mg, .inl (cI, 160, .inl mg)), (h6_mt, .inl (cI, 240, .inl mt)), (h6_ml, .inl (cI, 240, .inl ml)), (h6_mr, .inl (cI, 600, .inl mr))] sz) := by
  refine pw_of (Qc := fun sz => pw_i D [(h6, .inr (6, [.int thr, .ref h6_ms, .ref h6_mv, .int svm, .ref h6_mb, .int mln, .ref h6_mc, .ref h6_mg, .ref h6_mt, .ref h6_ml, .int mat, .int wel, .ref h6_mr, .int rdm, .long hsh])), (h6_ms, .inl (cI, 253, .inl ms)), (h6_mv, .inl (cI, 1518, .inl mv)), (h6_mb, .inl (cI, 60, .inl mb)), (h6_mc, .inl (cI, 160, .inl mc)), (h6_mg, .inl (cI, 160, .inl mg)), (h6_mt, .inl (cI, 240, .inl mt)), (h6_ml, .inl (cI, 240, .inl ml)), (h6_mr, .inl (cI, 600, .inl mr))] [(h6, .inr (6, [.int thr, .ref h6_ms, .ref h6_mv, .int svm, .ref h6_mb, .int mln, .ref h6_mc, .ref h6_mg, .ref h6_mt, .ref h6_ml, .int mat, .int wel, .ref h6_mr, .int rdm, .long hsh])), (h6_ms, .inl (cI, 253, .inl ms)), (h6_mv, .inl (cI, 1518, .inl mv)), (h6_mb, .inl (cI, 60, .inl mb)), (h6_mc, .inl (cI, 160, .inl mc)), (h6_mg, .inl (cI, 160, .inl mg)), (h6_mt, .inl (cI, 240, .inl mt)), (h6_ml, .inl (cI, 240, .inl ml)), (h6_mr, .inl (cI, 600, .inl mr))] z sz) (cc := cX6_lastPlace) (maxL := 2) (ret := (some .int)) (by decide) rfl (Nat.le_of_ble_eq_true rfl) ?_
  intro p e s m args below meth c A Q H ls hx hb hml hr hts hown hlocks hAe hQ hK hN hA hP hD hS hl
  have hown : s.vm.findClass RX6 = some m.cls := hown
  have hl : lv_has ls 2 [(0, .ref h6)] := hl
  have hP : va_P D vwCl ([(h6, .inr (6, [.int thr, .ref h6_ms, .ref h6_mv, .int svm, .ref h6_mb, .int mln, .ref h6_mc, .ref h6_mg, .ref h6_mt, .ref h6_ml, .int mat, .int wel, .ref h6_mr, .int rdm, .long hsh])), (h6_ms, .inl (cI, 253, .inl ms)), (h6_mv, .inl (cI, 1518, .inl mv)), (h6_mb, .inl (cI, 60, .inl mb)), (h6_mc, .inl (cI, 160, .inl mc)), (h6_mg, .inl (cI, 160, .inl mg)), (h6_mt, .inl (cI, 240, .inl mt)), (h6_ml, .inl (cI, 240, .inl ml)), (h6_mr, .inl (cI, 600, .inl mr))] ++ []) H := hP
  have hD : va_D A ([(h6, .inr (6, [.int thr, .ref h6_ms, .ref h6_mv, .int svm, .ref h6_mb, .int mln, .ref h6_mc, .ref h6_mg, .ref h6_mt, .ref h6_ml, .int mat, .int wel, .ref h6_mr, .int rdm, .long hsh])), (h6_ms, .inl (cI, 253, .inl ms)), (h6_mv, .inl (cI, 1518, .inl mv)), (h6_mb, .inl (cI, 60, .inl mb)), (h6_mc, .inl (cI, 160, .inl mc)), (h6_mg, .inl (cI, 160, .inl mg)), (h6_mt, .inl (cI, 240, .inl mt)), (h6_ml, .inl (cI, 240, .inl ml)), (h6_mr, .inl (cI, 600, .inl mr))] ++ []) := hD
  have iX6 : ∀ w ∈ u_ws RX6 TX6 15, w ∈ wsX6_lastPlace := fun _ h => List.mem_cons_of_mem _ (List.mem_append_right _ h)
  unfold fX6_lastPlace at h
  refine lv_aload_n hx hb dX6_lastPlace_0 rfl (lv_at hl 0 rfl) ?_
  refine va_get (D := D) (ci := 6) (v := .ref h6_ms) (C := RX6) (T := TX6) (N := 15) hx hb hts iX6 hown hK hP 0 rfl rfl 1 (by decide) (hts (.fieldLink RX6 7 "HiddenPeriodsModel" "s" "[I") (by decide +kernel)) (fun _ h9 => h9) rfl dX6_lastPlace_1 ?_
  refine lv_iconst (v := 2) hx hb dX6_lastPlace_4 (by decide) ?_
  obtain ⟨g1, h⟩ := gdn h
  refine va_iald hx hb hK hP 1 0 rfl rfl g1 dX6_lastPlace_5 ?_
  obtain ⟨x2, hx2, h⟩ := bnd h
  have Jx2 : ∀ (H : Heap) (locs : List Loc) (ls : Array Slot), va_P D vwCl ([(h6, .inr (6, [.int thr, .ref h6_ms, .ref h6_mv, .int svm, .ref h6_mb, .int mln, .ref h6_mc, .ref h6_mg, .ref h6_mt, .ref h6_ml, .int mat, .int wel, .ref h6_mr, .int rdm, .long hsh])), (h6_ms, .inl (cI, 253, .inl ms)), (h6_mv, .inl (cI, 1518, .inl mv)), (h6_mb, .inl (cI, 60, .inl mb)), (h6_mc, .inl (cI, 160, .inl mc)), (h6_mg, .inl (cI, 160, .inl mg)), (h6_mt, .inl (cI, 240, .inl mt)), (h6_ml, .inl (cI, 240, .inl ml)), (h6_mr, .inl (cI, 600, .inl mr))] ++ []) H → va_D A ([(h6, .inr (6, [.int thr, .ref h6_ms, .ref h6_mv, .int svm, .ref h6_mb, .int mln, .ref h6_mc, .ref h6_mg, .ref h6_mt, .ref h6_ml, .int mat, .int wel, .ref h6_mr, .int rdm, .long hsh])), (h6_ms, .inl (cI, 253, .inl ms)), (h6_mv, .inl (cI, 1518, .inl mv)), (h6_mb, .inl (cI, 60, .inl mb)), (h6_mc, .inl (cI, 160, .inl mc)), (h6_mg, .inl (cI, 160, .inl mg)), (h6_mt, .inl (cI, 240, .inl mt)), (h6_ml, .inl (cI, 240, .inl ml)), (h6_mr, .inl (cI, 600, .inl mr))] ++ []) → va_S A s.heap H locs → lv_has ls 2 [(0, .ref h6)] → W p l e rmX6_lastPlace s m args below meth c H locs 0 0 Q (F0 m 31 ls [.int x2]) := by
    intro H locs ls hP hD hS hl
    refine lv_istore_n (lv' := [(1, .int x2), (0, .ref h6)]) hx hb dX6_lastPlace_31 rfl hl (by decide) rfl (fun ls hl => ?_)
    refine lv_iload_n hx hb dX6_lastPlace_32 rfl (lv_at hl 0 rfl) ?_
    refine lv_aload_n hx hb dX6_lastPlace_33 rfl (lv_at hl 1 rfl) ?_
    refine va_get (D := D) (ci := 6) (v := .ref h6_ms) (C := RX6) (T := TX6) (N := 15) hx hb hts iX6 hown hK hP 0 rfl rfl 1 (by decide) (hts (.fieldLink RX6 7 "HiddenPeriodsModel" "s" "[I") (by decide +kernel)) (fun _ h9 => h9) rfl dX6_lastPlace_34 ?_
    refine lv_iconst (v := 0) hx hb dX6_lastPlace_37 (by decide) ?_
    obtain ⟨g3, h⟩ := gdn h
    refine va_iald hx hb hK hP 1 0 rfl rfl g3 dX6_lastPlace_38 ?_
    obtain ⟨x4, hx4, h⟩ := bnd h
    have Jx4 : ∀ (H : Heap) (locs : List Loc) (ls : Array Slot), va_P D vwCl ([(h6, .inr (6, [.int thr, .ref h6_ms, .ref h6_mv, .int svm, .ref h6_mb, .int mln, .ref h6_mc, .ref h6_mg, .ref h6_mt, .ref h6_ml, .int mat, .int wel, .ref h6_mr, .int rdm, .long hsh])), (h6_ms, .inl (cI, 253, .inl ms)), (h6_mv, .inl (cI, 1518, .inl mv)), (h6_mb, .inl (cI, 60, .inl mb)), (h6_mc, .inl (cI, 160, .inl mc)), (h6_mg, .inl (cI, 160, .inl mg)), (h6_mt, .inl (cI, 240, .inl mt)), (h6_ml, .inl (cI, 240, .inl ml)), (h6_mr, .inl (cI, 600, .inl mr))] ++ []) H → va_D A ([(h6, .inr (6, [.int thr, .ref h6_ms, .ref h6_mv, .int svm, .ref h6_mb, .int mln, .ref h6_mc, .ref h6_mg, .ref h6_mt, .ref h6_ml, .int mat, .int wel, .ref h6_mr, .int rdm, .long hsh])), (h6_ms, .inl (cI, 253, .inl ms)), (h6_mv, .inl (cI, 1518, .inl mv)), (h6_mb, .inl (cI, 60, .inl mb)), (h6_mc, .inl (cI, 160, .inl mc)), (h6_mg, .inl (cI, 160, .inl mg)), (h6_mt, .inl (cI, 240, .inl mt)), (h6_ml, .inl (cI, 240, .inl ml)), (h6_mr, .inl (cI, 600, .inl mr))] ++ []) → va_S A s.heap H locs → lv_has ls 2 [(0, .ref h6)] → W p l e rmX6_lastPlace s m args below meth c H locs 0 0 Q (F0 m 52 ls [.int x4]) := by
      intro H locs ls hP hD hS hl
      refine lv_istore_n (lv' := [(1, .int x4), (0, .ref h6)]) hx hb dX6_lastPlace_52 rfl hl (by decide) rfl (fun ls hl => ?_)
      refine lv_iload_n hx hb dX6_lastPlace_53 rfl (lv_at hl 0 rfl) ?_
      refine lv_aload_n hx hb dX6_lastPlace_54 rfl (lv_at hl 1 rfl) ?_
      obtain ⟨x5, hx5, h⟩ := bnd h
      refine pw_goi (wc := [(h6, .inr (6, [.int thr, .ref h6_ms, .ref h6_mv, .int svm, .ref h6_mb, .int mln, .ref h6_mc, .ref h6_mg, .ref h6_mt, .ref h6_ml, .int mat, .int wel, .ref h6_mr, .int rdm, .long hsh])), (h6_ms, .inl (cI, 253, .inl ms)), (h6_mv, .inl (cI, 1518, .inl mv)), (h6_mb, .inl (cI, 60, .inl mb)), (h6_mc, .inl (cI, 160, .inl mc)), (h6_mg, .inl (cI, 160, .inl mg)), (h6_mt, .inl (cI, 240, .inl mt)), (h6_ml, .inl (cI, 240, .inl ml)), (h6_mr, .inl (cI, 600, .inl mr))]) (w1 := [(h6, .inr (6, [.int thr, .ref h6_ms, .ref h6_mv, .int svm, .ref h6_mb, .int mln, .ref h6_mc, .ref h6_mg, .ref h6_mt, .ref h6_ml, .int mat, .int wel, .ref h6_mr, .int rdm, .long hsh])), (h6_ms, .inl (cI, 253, .inl ms)), (h6_mv, .inl (cI, 1518, .inl mv)), (h6_mb, .inl (cI, 60, .inl mb)), (h6_mc, .inl (cI, 160, .inl mc)), (h6_mg, .inl (cI, 160, .inl mg)), (h6_mt, .inl (cI, 240, .inl mt)), (h6_ml, .inl (cI, 240, .inl ml)), (h6_mr, .inl (cI, 600, .inl mr))]) (w2 := [(h6, .inr (6, [.int thr, .ref h6_ms, .ref h6_mv, .int svm, .ref h6_mb, .int mln, .ref h6_mc, .ref h6_mg, .ref h6_mt, .ref h6_ml, .int mat, .int wel, .ref h6_mr, .int rdm, .long hsh])), (h6_ms, .inl (cI, 253, .inl ms)), (h6_mv, .inl (cI, 1518, .inl mv)), (h6_mb, .inl (cI, 60, .inl mb)), (h6_mc, .inl (cI, 160, .inl mc)), (h6_mg, .inl (cI, 160, .inl mg)), (h6_mt, .inl (cI, 240, .inl mt)), (h6_ml, .inl (cI, 240, .inl ml)), (h6_mr, .inl (cI, 600, .inl mr))]) (va_runV (As := []) (rest := [.int x4]) ⟨hx, hb, hml, hown, hts⟩ (mX6_firstPlace l D cI cO cJ h6 h6_ms h6_mv h6_mb h6_mc h6_mg h6_mt h6_ml h6_mr H.size thr ms mv svm mb mln mc mg mt ml mat wel mr rdm hsh _ hx5) (cwV 0 hts gX6_lastPlace_X6_firstPlace rfl rfl rfl (by decide +kernel) ⟨Nat.le_of_ble_eq_true rfl, Nat.le_of_ble_eq_true rfl⟩) (pw_preV hK hN (pw_sub hP [0, 1, 2, 3, 4, 5, 6, 7, 8] rfl) (pw_subD hD [0, 1, 2, 3, 4, 5, 6, 7, 8] (by decide) rfl) (ci := 6) (q0 := 0) rfl rfl) rfl rfl hl.1 rfl (lv_room (Nat.le_of_ble_eq_true rfl)) dX6_lastPlace_55 ⟨Nat.zero_le _, Nat.zero_le _⟩) hP hD hS hA [0, 1, 2, 3, 4, 5, 6, 7, 8] [] [0, 1, 2, 3, 4, 5, 6, 7, 8] rfl rfl (by decide) (by decide) (by decide) rfl (fun H locs hP hD hS => ?_)
      refine lv_icmp_ge (tgt := 68) hx hb dX6_lastPlace_58 (by decide) (fun cq => ?_) (fun cq => ?_)
      · replace h := ifp cq h
        refine lv_iload_n hx hb dX6_lastPlace_68 rfl (lv_at hl 0 rfl) ?_
        cases h
        exact pw_iret hx hb hr hlocks hAe hQ hP hD hS dX6_lastPlace_69
      · replace h := ifn cq h
        refine lv_aload_n hx hb dX6_lastPlace_61 rfl (lv_at hl 1 rfl) ?_
        obtain ⟨x6, hx6, h⟩ := bnd h
        refine pw_goi (wc := [(h6, .inr (6, [.int thr, .ref h6_ms, .ref h6_mv, .int svm, .ref h6_mb, .int mln, .ref h6_mc, .ref h6_mg, .ref h6_mt, .ref h6_ml, .int mat, .int wel, .ref h6_mr, .int rdm, .long hsh])), (h6_ms, .inl (cI, 253, .inl ms)), (h6_mv, .inl (cI, 1518, .inl mv)), (h6_mb, .inl (cI, 60, .inl mb)), (h6_mc, .inl (cI, 160, .inl mc)), (h6_mg, .inl (cI, 160, .inl mg)), (h6_mt, .inl (cI, 240, .inl mt)), (h6_ml, .inl (cI, 240, .inl ml)), (h6_mr, .inl (cI, 600, .inl mr))]) (w1 := [(h6, .inr (6, [.int thr, .ref h6_ms, .ref h6_mv, .int svm, .ref h6_mb, .int mln, .ref h6_mc, .ref h6_mg, .ref h6_mt, .ref h6_ml, .int mat, .int wel, .ref h6_mr, .int rdm, .long hsh])), (h6_ms, .inl (cI, 253, .inl ms)), (h6_mv, .inl (cI, 1518, .inl mv)), (h6_mb, .inl (cI, 60, .inl mb)), (h6_mc, .inl (cI, 160, .inl mc)), (h6_mg, .inl (cI, 160, .inl mg)), (h6_mt, .inl (cI, 240, .inl mt)), (h6_ml, .inl (cI, 240, .inl ml)), (h6_mr, .inl (cI, 600, .inl mr))]) (w2 := [(h6, .inr (6, [.int thr, .ref h6_ms, .ref h6_mv, .int svm, .ref h6_mb, .int mln, .ref h6_mc, .ref h6_mg, .ref h6_mt, .ref h6_ml, .int mat, .int wel, .ref h6_mr, .int rdm, .long hsh])), (h6_ms, .inl (cI, 253, .inl ms)), (h6_mv, .inl (cI, 1518, .inl mv)), (h6_mb, .inl (cI, 60, .inl mb)), (h6_mc, .inl (cI, 160, .inl mc)), (h6_mg, .inl (cI, 160, .inl mg)), (h6_mt, .inl (cI, 240, .inl mt)), (h6_ml, .inl (cI, 240, .inl ml)), (h6_mr, .inl (cI, 600, .inl mr))]) (va_runV (As := []) (rest := []) ⟨hx, hb, hml, hown, hts⟩ (mX6_firstPlace l D cI cO cJ h6 h6_ms h6_mv h6_mb h6_mc h6_mg h6_mt h6_ml h6_mr H.size thr ms mv svm mb mln mc mg mt ml mat wel mr rdm hsh _ hx6) (cwV 0 hts gX6_lastPlace_X6_firstPlace rfl rfl rfl (by decide +kernel) ⟨Nat.le_of_ble_eq_true rfl, Nat.le_of_ble_eq_true rfl⟩) (pw_preV hK hN (pw_sub hP [0, 1, 2, 3, 4, 5, 6, 7, 8] rfl) (pw_subD hD [0, 1, 2, 3, 4, 5, 6, 7, 8] (by decide) rfl) (ci := 6) (q0 := 0) rfl rfl) rfl rfl hl.1 rfl (lv_room (Nat.le_of_ble_eq_true rfl)) dX6_lastPlace_62 ⟨Nat.zero_le _, Nat.zero_le _⟩) hP hD hS hA [0, 1, 2, 3, 4, 5, 6, 7, 8] [] [0, 1, 2, 3, 4, 5, 6, 7, 8] rfl rfl (by decide) (by decide) (by decide) rfl (fun H locs hP hD hS => ?_)
        refine lv_goto (tgt := 69) hx hb dX6_lastPlace_65 (by decide) ?_
        cases h
        exact pw_iret hx hb hr hlocks hAe hQ hP hD hS dX6_lastPlace_69
    replace h := hx4
    refine lv_icmp_ge (tgt := 46) hx hb dX6_lastPlace_39 (by decide) (fun cq => ?_) (fun cq => ?_)
    · replace h := ifp cq h
      refine lv_aload_n hx hb dX6_lastPlace_46 rfl (lv_at hl 1 rfl) ?_
      refine va_get (D := D) (ci := 6) (v := .ref h6_ms) (C := RX6) (T := TX6) (N := 15) hx hb hts iX6 hown hK hP 0 rfl rfl 1 (by decide) (hts (.fieldLink RX6 7 "HiddenPeriodsModel" "s" "[I") (by decide +kernel)) (fun _ h9 => h9) rfl dX6_lastPlace_47 ?_
      refine lv_iconst (v := 0) hx hb dX6_lastPlace_50 (by decide) ?_
      obtain ⟨g7, h⟩ := gdn h
      refine va_iald hx hb hK hP 1 0 rfl rfl g7 dX6_lastPlace_51 ?_
      cases h
      exact Jx4 _ _ _ hP hD hS (lv_sub hl [1] rfl)
    · replace h := ifn cq h
      refine lv_iload_n hx hb dX6_lastPlace_42 rfl (lv_at hl 0 rfl) ?_
      refine lv_goto (tgt := 52) hx hb dX6_lastPlace_43 (by decide) ?_
      cases h
      exact Jx4 _ _ _ hP hD hS (lv_sub hl [1] rfl)
  replace h := hx2
  refine lv_if_ne (tgt := 18) hx hb dX6_lastPlace_6 (by decide) (fun cq => ?_) (fun cq => ?_)
  · replace h := ifn cq h
    refine lv_aload_n hx hb dX6_lastPlace_18 rfl (lv_at hl 0 rfl) ?_
    refine va_get (D := D) (ci := 6) (v := .ref h6_ms) (C := RX6) (T := TX6) (N := 15) hx hb hts iX6 hown hK hP 0 rfl rfl 1 (by decide) (hts (.fieldLink RX6 7 "HiddenPeriodsModel" "s" "[I") (by decide +kernel)) (fun _ h9 => h9) rfl dX6_lastPlace_19 ?_
    refine lv_iconst (v := 1) hx hb dX6_lastPlace_22 (by decide) ?_
    obtain ⟨g8, h⟩ := gdn h
    refine va_iald hx hb hK hP 1 0 rfl rfl g8 dX6_lastPlace_23 ?_
    refine lv_aload_n hx hb dX6_lastPlace_24 rfl (lv_at hl 0 rfl) ?_
    refine va_get (D := D) (ci := 6) (v := .ref h6_ms) (C := RX6) (T := TX6) (N := 15) hx hb hts iX6 hown hK hP 0 rfl rfl 1 (by decide) (hts (.fieldLink RX6 7 "HiddenPeriodsModel" "s" "[I") (by decide +kernel)) (fun _ h9 => h9) rfl dX6_lastPlace_25 ?_
    refine lv_iconst (v := 2) hx hb dX6_lastPlace_28 (by decide) ?_
    obtain ⟨g9, h⟩ := gdn h
    refine va_iald hx hb hK hP 1 0 rfl rfl g9 dX6_lastPlace_29 ?_
    refine lv_iadd hx hb dX6_lastPlace_30 ?_
    cases h
    exact Jx2 _ _ _ hP hD hS (lv_sub hl [0] rfl)
  · replace h := ifp cq h
    refine lv_aload_n hx hb dX6_lastPlace_9 rfl (lv_at hl 0 rfl) ?_
    refine va_get (D := D) (ci := 6) (v := .ref h6_ms) (C := RX6) (T := TX6) (N := 15) hx hb hts iX6 hown hK hP 0 rfl rfl 1 (by decide) (hts (.fieldLink RX6 7 "HiddenPeriodsModel" "s" "[I") (by decide +kernel)) (fun _ h9 => h9) rfl dX6_lastPlace_10 ?_
    refine lv_iconst (v := 0) hx hb dX6_lastPlace_13 (by decide) ?_
    obtain ⟨g10, h⟩ := gdn h
    refine va_iald hx hb hK hP 1 0 rfl rfl g10 dX6_lastPlace_14 ?_
    refine lv_goto (tgt := 31) hx hb dX6_lastPlace_15 (by decide) ?_
    cases h
    exact Jx2 _ _ _ hP hD hS (lv_sub hl [0] rfl)
def fX6_classOf (a1 : Int32) (a2 : Int32) (a3 : Int32) : Option Int32 :=
  if a2 = 0 then none else
  some ((((10 * a1) + a3) - ((10 * a1) + a3) / a2 * a2) / 10)
abbrev rmX6_classOf : Room := { frames := 0, cells := 0, slots := 0, locals := 0 }
set_option maxHeartbeats 4000000 in
set_option maxRecDepth 100000 in
theorem mX6_classOf (l : Launch) (D : va_G) (cI cO cJ : ClassId) (sz : Nat) (a1 : Int32) (a2 : Int32) (a3 : Int32) (z : Int32) (h : fX6_classOf a1 a2 a3 = some z) : Met l yX6_classOf wsX6_classOf rmX6_classOf (pw_pre D (tyL cI cO cJ) [.int a1, .int a2, .int a3] [] sz) (pw_i D [] [] z sz) 0 0 (va_A [] sz) := by
  refine pw_of (Qc := fun sz => pw_i D [] [] z sz) (cc := cX6_classOf) (maxL := 3) (ret := (some .int)) (by decide) rfl (Nat.le_of_ble_eq_true rfl) ?_
  intro p e s m args below meth c A Q H ls hx hb hml hr hts hown hlocks hAe hQ hK hN hA hP hD hS hl
  have hown : s.vm.findClass RX6 = some m.cls := hown
  have hl : lv_has ls 3 [(0, .int a1), (1, .int a2), (2, .int a3)] := hl
  unfold fX6_classOf at h
  refine lv_bipush (v := 10) hx hb dX6_classOf_0 (by decide) ?_
  refine lv_iload_n hx hb dX6_classOf_2 rfl (lv_at hl 0 rfl) ?_
  refine lv_imul hx hb dX6_classOf_3 ?_
  refine lv_iload_n hx hb dX6_classOf_4 rfl (lv_at hl 2 rfl) ?_
  refine lv_iadd hx hb dX6_classOf_5 ?_
  refine lv_iload_n hx hb dX6_classOf_6 rfl (lv_at hl 1 rfl) ?_
  obtain ⟨g1, h⟩ := gdn h
  refine lv_irem hx hb dX6_classOf_7 g1 ?_
  refine lv_bipush (v := 10) hx hb dX6_classOf_8 (by decide) ?_
  refine lv_idiv hx hb dX6_classOf_10 (by decide) ?_
  cases h
  exact pw_iret hx hb hr hlocks hAe hQ hP hD hS dX6_classOf_11
def fX6_classesOf (a1 : Int32) : Option Int32 :=
  some ((a1 + 9) / 10)
abbrev rmX6_classesOf : Room := { frames := 0, cells := 0, slots := 0, locals := 0 }
set_option maxHeartbeats 4000000 in
set_option maxRecDepth 100000 in
theorem mX6_classesOf (l : Launch) (D : va_G) (cI cO cJ : ClassId) (sz : Nat) (a1 : Int32) (z : Int32) (h : fX6_classesOf a1 = some z) : Met l yX6_classesOf wsX6_classesOf rmX6_classesOf (pw_pre D (tyL cI cO cJ) [.int a1] [] sz) (pw_i D [] [] z sz) 0 0 (va_A [] sz) := by
  refine pw_of (Qc := fun sz => pw_i D [] [] z sz) (cc := cX6_classesOf) (maxL := 1) (ret := (some .int)) (by decide) rfl (Nat.le_of_ble_eq_true rfl) ?_
  intro p e s m args below meth c A Q H ls hx hb hml hr hts hown hlocks hAe hQ hK hN hA hP hD hS hl
  have hown : s.vm.findClass RX6 = some m.cls := hown
  have hl : lv_has ls 1 [(0, .int a1)] := hl
  unfold fX6_classesOf at h
  refine lv_iload_n hx hb dX6_classesOf_0 rfl (lv_at hl 0 rfl) ?_
  refine lv_bipush (v := 9) hx hb dX6_classesOf_1 (by decide) ?_
  refine lv_iadd hx hb dX6_classesOf_3 ?_
  refine lv_bipush (v := 10) hx hb dX6_classesOf_4 (by decide) ?_
  refine lv_idiv hx hb dX6_classesOf_6 (by decide) ?_
  cases h
  exact pw_iret hx hb hr hlocks hAe hQ hP hD hS dX6_classesOf_7
def fX6_lays_L3 (a1 : Int32) : Nat → Int32 → (Nat → Int32) → Option (Nat → Int32)
  | 0, _, _ => none
  | n + 1, v5_3, mc_3 =>
    (fX6_classesOf a1).bind fun x1 =>
    if (4 * x1) ≤ v5_3 then
    some mc_3
    else
    if oob v5_3 160 then none else
    fX6_lays_L3 a1 n (v5_3 + 1) (upd mc_3 v5_3.toNatClampNeg 0)
def fX6_lays_L31 (ms : Nat → Int32) (a1 : Int32) (a2 : Int32) (a4 : Int32) : Nat → Int32 → (Nat → Int32) → Option (Nat → Int32)
  | 0, _, _ => none
  | n + 1, v5_31, mc_31 =>
    if a4 ≤ v5_31 then
    some mc_31
    else
    (fX6_classOf v5_31 a1 a2).bind fun x4 =>
    if oob (13 + v5_31) 253 then none else
    if oob ((4 * x4) + (ms ((13 + v5_31)).toNatClampNeg)) 160 then none else
    if oob ((4 * x4) + (ms ((13 + v5_31)).toNatClampNeg)) 160 then none else
    fX6_lays_L31 ms a1 a2 a4 n (v5_31 + 1) (upd mc_31 (((4 * x4) + (ms ((13 + v5_31)).toNatClampNeg))).toNatClampNeg ((mc_31 (((4 * x4) + (ms ((13 + v5_31)).toNatClampNeg))).toNatClampNeg) + 1))
def fX6_lays (ms : Nat → Int32) (mc : Nat → Int32) (a1 : Int32) (a2 : Int32) (a3 : Int32) (a4 : Int32) : Option (Nat → Int32) :=
  (fX6_lays_L3 a1 FU 0 mc).bind fun x3 =>
  (fX6_lays_L31 ms a1 a2 a4 FU a3 x3).bind fun x8 =>
  some x8
abbrev rmX6_lays : Room := { frames := 1, cells := 0, slots := 0, locals := 22 }
set_option maxHeartbeats 4000000 in
set_option maxRecDepth 100000 in
theorem mX6_lays (l : Launch) (D : va_G) (cI cO cJ : ClassId) (h6 h6_ms h6_mv h6_mb h6_mc h6_mg h6_mt h6_ml h6_mr : Nat) (sz : Nat) (thr : Int32) (ms : Nat → Int32) (mv : Nat → Int32) (svm : Int32) (mb : Nat → Int32) (mln : Int32) (mc : Nat → Int32) (mg : Nat → Int32) (mt : Nat → Int32) (ml : Nat → Int32) (mat : Int32) (wel : Int32) (mr : Nat → Int32) (rdm : Int32) (hsh : Int64) (a1 : Int32) (a2 : Int32) (a3 : Int32) (a4 : Int32) (z : Nat → Int32) (h : fX6_lays ms mc a1 a2 a3 a4 = some z) : Met l yX6_lays wsX6_lays rmX6_lays (pw_pre D (tyL cI cO cJ) [.ref h6, .int a1, .int a2, .int a3, .int a4] [(h6, .inr (6, [.int thr, .ref h6_ms, .ref h6_mv, .int svm, .ref h6_mb, .int mln, .ref h6_mc, .ref h6_mg, .ref h6_mt, .ref h6_ml, .int mat, .int wel, .ref h6_mr, .int rdm, .long hsh])), (h6_ms, .inl (cI, 253, .inl ms)), (h6_mv, .inl (cI, 1518, .inl mv)), (h6_mb, .inl (cI, 60, .inl mb)), (h6_mc, .inl (cI, 160, .inl mc)), (h6_mg, .inl (cI, 160, .inl mg)), (h6_mt, .inl (cI, 240, .inl mt)), (h6_ml, .inl (cI, 240, .inl ml)), (h6_mr, .inl (cI, 600, .inl mr))] sz) (pw_v D [(h6, .inr (6, [.int thr, .ref h6_ms, .ref h6_mv, .int svm, .ref h6_mb, .int mln, .ref h6_mc, .ref h6_mg, .ref h6_mt, .ref h6_ml, .int mat, .int wel, .ref h6_mr, .int rdm, .long hsh])), (h6_ms, .inl (cI, 253, .inl ms)), (h6_mv, .inl (cI, 1518, .inl mv)), (h6_mb, .inl (cI, 60, .inl mb)), (h6_mc, .inl (cI, 160, .inl mc)), (h6_mg, .inl (cI, 160, .inl mg)), (h6_mt, .inl (cI, 240, .inl mt)), (h6_ml, .inl (cI, 240, .inl ml)), (h6_mr, .inl (cI, 600, .inl mr))] [(h6, .inr (6, [.int thr, .ref h6_ms, .ref h6_mv, .int svm, .ref h6_mb, .int mln, .ref h6_mc, .ref h6_mg, .ref h6_mt, .ref h6_ml, .int mat, .int wel, .ref h6_mr, .int rdm, .long hsh])), (h6_ms, .inl (cI, 253, .inl ms)), (h6_mv, .inl (cI, 1518, .inl mv)), (h6_mb, .inl (cI, 60, .inl mb)), (h6_mc, .inl (cI, 160, .inl z)), (h6_mg, .inl (cI, 160, .inl mg)), (h6_mt, .inl (cI, 240, .inl mt)), (h6_ml, .inl (cI, 240, .inl ml)), (h6_mr, .inl (cI, 600, .inl mr))] sz) 0 0 (va_A [(h6, .inr (6, [.int thr, .ref h6_ms, .ref h6_mv, .int svm, .ref h6_mb, .int mln, .ref h6_mc, .ref h6_mg, .ref h6_mt, .ref h6_ml, .int mat, .int wel, .ref h6_mr, .int rdm, .long hsh])), (h6_ms, .inl (cI, 253, .inl ms)), (h6_mv, .inl (cI, 1518, .inl mv)), (h6_mb, .inl (cI, 60, .inl mb)), (h6_mc, .inl (cI, 160, .inl mc)), (h6_mg, .inl (cI, 160, .inl mg)), (h6_mt, .inl (cI, 240, .inl mt)), (h6_ml, .inl (cI, 240, .inl ml)), (h6_mr, .inl (cI, 600, .inl mr))] sz) := by
  refine pw_of (Qc := fun sz => pw_v D [(h6, .inr (6, [.int thr, .ref h6_ms, .ref h6_mv, .int svm, .ref h6_mb, .int mln, .ref h6_mc, .ref h6_mg, .ref h6_mt, .ref h6_ml, .int mat, .int wel, .ref h6_mr, .int rdm, .long hsh])), (h6_ms, .inl (cI, 253, .inl ms)), (h6_mv, .inl (cI, 1518, .inl mv)), (h6_mb, .inl (cI, 60, .inl mb)), (h6_mc, .inl (cI, 160, .inl mc)), (h6_mg, .inl (cI, 160, .inl mg)), (h6_mt, .inl (cI, 240, .inl mt)), (h6_ml, .inl (cI, 240, .inl ml)), (h6_mr, .inl (cI, 600, .inl mr))] [(h6, .inr (6, [.int thr, .ref h6_ms, .ref h6_mv, .int svm, .ref h6_mb, .int mln, .ref h6_mc, .ref h6_mg, .ref h6_mt, .ref h6_ml, .int mat, .int wel, .ref h6_mr, .int rdm, .long hsh])), (h6_ms, .inl (cI, 253, .inl ms)), (h6_mv, .inl (cI, 1518, .inl mv)), (h6_mb, .inl (cI, 60, .inl mb)), (h6_mc, .inl (cI, 160, .inl z)), (h6_mg, .inl (cI, 160, .inl mg)), (h6_mt, .inl (cI, 240, .inl mt)), (h6_ml, .inl (cI, 240, .inl ml)), (h6_mr, .inl (cI, 600, .inl mr))] sz) (cc := cX6_lays) (maxL := 6) (ret := none) (by decide) rfl (Nat.le_of_ble_eq_true rfl) ?_
  intro p e s m args below meth c A Q H ls hx hb hml hr hts hown hlocks hAe hQ hK hN hA hP hD hS hl
  have hown : s.vm.findClass RX6 = some m.cls := hown
  have hl : lv_has ls 6 [(0, .ref h6), (1, .int a1), (2, .int a2), (3, .int a3), (4, .int a4)] := hl
  have hP : va_P D vwCl ([(h6, .inr (6, [.int thr, .ref h6_ms, .ref h6_mv, .int svm, .ref h6_mb, .int mln, .ref h6_mc, .ref h6_mg, .ref h6_mt, .ref h6_ml, .int mat, .int wel, .ref h6_mr, .int rdm, .long hsh])), (h6_ms, .inl (cI, 253, .inl ms)), (h6_mv, .inl (cI, 1518, .inl mv)), (h6_mb, .inl (cI, 60, .inl mb)), (h6_mc, .inl (cI, 160, .inl mc)), (h6_mg, .inl (cI, 160, .inl mg)), (h6_mt, .inl (cI, 240, .inl mt)), (h6_ml, .inl (cI, 240, .inl ml)), (h6_mr, .inl (cI, 600, .inl mr))] ++ []) H := hP
  have hD : va_D A ([(h6, .inr (6, [.int thr, .ref h6_ms, .ref h6_mv, .int svm, .ref h6_mb, .int mln, .ref h6_mc, .ref h6_mg, .ref h6_mt, .ref h6_ml, .int mat, .int wel, .ref h6_mr, .int rdm, .long hsh])), (h6_ms, .inl (cI, 253, .inl ms)), (h6_mv, .inl (cI, 1518, .inl mv)), (h6_mb, .inl (cI, 60, .inl mb)), (h6_mc, .inl (cI, 160, .inl mc)), (h6_mg, .inl (cI, 160, .inl mg)), (h6_mt, .inl (cI, 240, .inl mt)), (h6_ml, .inl (cI, 240, .inl ml)), (h6_mr, .inl (cI, 600, .inl mr))] ++ []) := hD
  have iX6 : ∀ w ∈ u_ws RX6 TX6 15, w ∈ wsX6_lays := fun _ h => List.mem_cons_of_mem _ (List.mem_append_right _ h)
  unfold fX6_lays at h
  refine lv_iconst (v := 0) hx hb dX6_lays_0 (by decide) ?_
  refine lv_istore (lv' := [(5, .int 0), (0, .ref h6), (1, .int a1), (2, .int a2), (3, .int a3), (4, .int a4)]) hx hb dX6_lays_1 hl (by decide) rfl (fun ls hl => ?_)
  have L3 : ∀ (n : Nat) (v5_3 : Int32) (mc_3 : Nat → Int32) (o3_1 : Nat → Int32) (H : Heap) (locs : List Loc) (ls : Array Slot), fX6_lays_L3 a1 n v5_3 mc_3 = some o3_1 → va_P D vwCl ([(h6, .inr (6, [.int thr, .ref h6_ms, .ref h6_mv, .int svm, .ref h6_mb, .int mln, .ref h6_mc, .ref h6_mg, .ref h6_mt, .ref h6_ml, .int mat, .int wel, .ref h6_mr, .int rdm, .long hsh])), (h6_ms, .inl (cI, 253, .inl ms)), (h6_mv, .inl (cI, 1518, .inl mv)), (h6_mb, .inl (cI, 60, .inl mb)), (h6_mc, .inl (cI, 160, .inl mc_3)), (h6_mg, .inl (cI, 160, .inl mg)), (h6_mt, .inl (cI, 240, .inl mt)), (h6_ml, .inl (cI, 240, .inl ml)), (h6_mr, .inl (cI, 600, .inl mr))] ++ []) H → va_D A ([(h6, .inr (6, [.int thr, .ref h6_ms, .ref h6_mv, .int svm, .ref h6_mb, .int mln, .ref h6_mc, .ref h6_mg, .ref h6_mt, .ref h6_ml, .int mat, .int wel, .ref h6_mr, .int rdm, .long hsh])), (h6_ms, .inl (cI, 253, .inl ms)), (h6_mv, .inl (cI, 1518, .inl mv)), (h6_mb, .inl (cI, 60, .inl mb)), (h6_mc, .inl (cI, 160, .inl mc_3)), (h6_mg, .inl (cI, 160, .inl mg)), (h6_mt, .inl (cI, 240, .inl mt)), (h6_ml, .inl (cI, 240, .inl ml)), (h6_mr, .inl (cI, 600, .inl mr))] ++ []) → va_S A s.heap H locs → lv_has ls 6 [(0, .ref h6), (1, .int a1), (2, .int a2), (3, .int a3), (4, .int a4), (5, .int v5_3)] → (∀ (H : Heap) (locs : List Loc) (ls : Array Slot), va_P D vwCl ([(h6, .inr (6, [.int thr, .ref h6_ms, .ref h6_mv, .int svm, .ref h6_mb, .int mln, .ref h6_mc, .ref h6_mg, .ref h6_mt, .ref h6_ml, .int mat, .int wel, .ref h6_mr, .int rdm, .long hsh])), (h6_ms, .inl (cI, 253, .inl ms)), (h6_mv, .inl (cI, 1518, .inl mv)), (h6_mb, .inl (cI, 60, .inl mb)), (h6_mc, .inl (cI, 160, .inl o3_1)), (h6_mg, .inl (cI, 160, .inl mg)), (h6_mt, .inl (cI, 240, .inl mt)), (h6_ml, .inl (cI, 240, .inl ml)), (h6_mr, .inl (cI, 600, .inl mr))] ++ []) H → va_D A ([(h6, .inr (6, [.int thr, .ref h6_ms, .ref h6_mv, .int svm, .ref h6_mb, .int mln, .ref h6_mc, .ref h6_mg, .ref h6_mt, .ref h6_ml, .int mat, .int wel, .ref h6_mr, .int rdm, .long hsh])), (h6_ms, .inl (cI, 253, .inl ms)), (h6_mv, .inl (cI, 1518, .inl mv)), (h6_mb, .inl (cI, 60, .inl mb)), (h6_mc, .inl (cI, 160, .inl o3_1)), (h6_mg, .inl (cI, 160, .inl mg)), (h6_mt, .inl (cI, 240, .inl mt)), (h6_ml, .inl (cI, 240, .inl ml)), (h6_mr, .inl (cI, 600, .inl mr))] ++ []) → va_S A s.heap H locs → lv_has ls 6 [(0, .ref h6), (1, .int a1), (2, .int a2), (3, .int a3), (4, .int a4)] → W p l e rmX6_lays s m args below meth c H locs 0 0 Q (F0 m 28 ls [])) → W p l e rmX6_lays s m args below meth c H locs 0 0 Q (F0 m 3 ls []) := by
    intro n
    induction n with
    | zero =>
      intro v5_3 mc_3 o3_1 H locs ls h
      rw [fX6_lays_L3] at h
      cases h
    | succ n ih =>
      intro v5_3 mc_3 o3_1 H locs ls h hP hD hS hl K
      rw [fX6_lays_L3] at h
      refine lv_iload hx hb dX6_lays_3 (lv_at hl 5 rfl) ?_
      refine lv_iconst (v := 4) hx hb dX6_lays_5 (by decide) ?_
      refine lv_iload_n hx hb dX6_lays_6 rfl (lv_at hl 1 rfl) ?_
      obtain ⟨x1, hx1, h⟩ := bnd h
      refine pw_go0 (va_runS (As := [.int a1]) (rest := [.int 4, .int v5_3]) ⟨hx, hb, hml, hown, hts⟩ (mX6_classesOf l D cI cO cJ H.size a1 _ hx1) (va_cwS 1 hts gX6_lays_X6_classesOf rfl rfl rfl (by decide +kernel) ⟨Nat.le_of_ble_eq_true rfl, Nat.le_of_ble_eq_true rfl⟩) (pw_preS hK hN pw_nilP (pw_nilD (A := A))) rfl rfl hl.1 rfl (lv_room (Nat.le_of_ble_eq_true rfl)) dX6_lays_7 ⟨Nat.zero_le _, Nat.zero_le _⟩) hP hS hA (fun H locs hP hS => ?_)
      refine lv_imul hx hb dX6_lays_10 ?_
      refine lv_icmp_ge (tgt := 28) hx hb dX6_lays_11 (by decide) (fun cq => ?_) (fun cq => ?_)
      · replace h := ifp cq h
        cases h
        exact K _ _ _ hP hD hS (lv_sub hl [0, 1, 2, 3, 4] rfl)
      · replace h := ifn cq h
        refine lv_aload_n hx hb dX6_lays_14 rfl (lv_at hl 0 rfl) ?_
        refine va_get (D := D) (ci := 6) (v := .ref h6_mc) (C := RX6) (T := TX6) (N := 15) hx hb hts iX6 hown hK hP 0 rfl rfl 6 (by decide) (hts (.fieldLink RX6 19 "HiddenPeriodsModel" "counts" "[I") (by decide +kernel)) (fun _ h9 => h9) rfl dX6_lays_15 ?_
        refine lv_iload hx hb dX6_lays_18 (lv_at hl 5 rfl) ?_
        refine lv_iconst (v := 0) hx hb dX6_lays_20 (by decide) ?_
        obtain ⟨g2, h⟩ := gdn h
        refine va_iast hx hb hK hP hD hS 4 0 rfl rfl g2 dX6_lays_21 (fun H locs hP hD hS => ?_)
        have hP : va_P D vwCl ([(h6, .inr (6, [.int thr, .ref h6_ms, .ref h6_mv, .int svm, .ref h6_mb, .int mln, .ref h6_mc, .ref h6_mg, .ref h6_mt, .ref h6_ml, .int mat, .int wel, .ref h6_mr, .int rdm, .long hsh])), (h6_ms, .inl (cI, 253, .inl ms)), (h6_mv, .inl (cI, 1518, .inl mv)), (h6_mb, .inl (cI, 60, .inl mb)), (h6_mc, .inl (cI, 160, .inl (upd mc_3 v5_3.toNatClampNeg 0))), (h6_mg, .inl (cI, 160, .inl mg)), (h6_mt, .inl (cI, 240, .inl mt)), (h6_ml, .inl (cI, 240, .inl ml)), (h6_mr, .inl (cI, 600, .inl mr))] ++ []) H := hP
        have hD : va_D A ([(h6, .inr (6, [.int thr, .ref h6_ms, .ref h6_mv, .int svm, .ref h6_mb, .int mln, .ref h6_mc, .ref h6_mg, .ref h6_mt, .ref h6_ml, .int mat, .int wel, .ref h6_mr, .int rdm, .long hsh])), (h6_ms, .inl (cI, 253, .inl ms)), (h6_mv, .inl (cI, 1518, .inl mv)), (h6_mb, .inl (cI, 60, .inl mb)), (h6_mc, .inl (cI, 160, .inl (upd mc_3 v5_3.toNatClampNeg 0))), (h6_mg, .inl (cI, 160, .inl mg)), (h6_mt, .inl (cI, 240, .inl mt)), (h6_ml, .inl (cI, 240, .inl ml)), (h6_mr, .inl (cI, 600, .inl mr))] ++ []) := hD
        refine lv_iinc (v := (v5_3 + 1)) (lv' := [(5, .int (v5_3 + 1)), (0, .ref h6), (1, .int a1), (2, .int a2), (3, .int a3), (4, .int a4)]) hx hb dX6_lays_22 hl (k := 5) rfl rfl (by decide) rfl (fun ls hl => ?_)
        refine lv_goto (tgt := 3) hx hb dX6_lays_25 (by decide) ?_
        exact ih _ _ _ _ _ _ h hP hD hS (lv_sub hl [1, 2, 3, 4, 5, 0] rfl) K
  obtain ⟨x3, hx3, h⟩ := bnd h
  refine L3 FU _ _ _ _ _ _ hx3 hP hD hS (lv_sub hl [1, 2, 3, 4, 5, 0] rfl) (fun H locs ls hP hD hS hl => ?_)
  refine lv_iload_n hx hb dX6_lays_28 rfl (lv_at hl 3 rfl) ?_
  refine lv_istore (lv' := [(5, .int a3), (0, .ref h6), (1, .int a1), (2, .int a2), (3, .int a3), (4, .int a4)]) hx hb dX6_lays_29 hl (by decide) rfl (fun ls hl => ?_)
  have L31 : ∀ (n : Nat) (v5_31 : Int32) (mc_31 : Nat → Int32) (o31_1 : Nat → Int32) (H : Heap) (locs : List Loc) (ls : Array Slot), fX6_lays_L31 ms a1 a2 a4 n v5_31 mc_31 = some o31_1 → va_P D vwCl ([(h6, .inr (6, [.int thr, .ref h6_ms, .ref h6_mv, .int svm, .ref h6_mb, .int mln, .ref h6_mc, .ref h6_mg, .ref h6_mt, .ref h6_ml, .int mat, .int wel, .ref h6_mr, .int rdm, .long hsh])), (h6_ms, .inl (cI, 253, .inl ms)), (h6_mv, .inl (cI, 1518, .inl mv)), (h6_mb, .inl (cI, 60, .inl mb)), (h6_mc, .inl (cI, 160, .inl mc_31)), (h6_mg, .inl (cI, 160, .inl mg)), (h6_mt, .inl (cI, 240, .inl mt)), (h6_ml, .inl (cI, 240, .inl ml)), (h6_mr, .inl (cI, 600, .inl mr))] ++ []) H → va_D A ([(h6, .inr (6, [.int thr, .ref h6_ms, .ref h6_mv, .int svm, .ref h6_mb, .int mln, .ref h6_mc, .ref h6_mg, .ref h6_mt, .ref h6_ml, .int mat, .int wel, .ref h6_mr, .int rdm, .long hsh])), (h6_ms, .inl (cI, 253, .inl ms)), (h6_mv, .inl (cI, 1518, .inl mv)), (h6_mb, .inl (cI, 60, .inl mb)), (h6_mc, .inl (cI, 160, .inl mc_31)), (h6_mg, .inl (cI, 160, .inl mg)), (h6_mt, .inl (cI, 240, .inl mt)), (h6_ml, .inl (cI, 240, .inl ml)), (h6_mr, .inl (cI, 600, .inl mr))] ++ []) → va_S A s.heap H locs → lv_has ls 6 [(0, .ref h6), (1, .int a1), (2, .int a2), (4, .int a4), (5, .int v5_31)] → (∀ (H : Heap) (locs : List Loc) (ls : Array Slot), va_P D vwCl ([(h6, .inr (6, [.int thr, .ref h6_ms, .ref h6_mv, .int svm, .ref h6_mb, .int mln, .ref h6_mc, .ref h6_mg, .ref h6_mt, .ref h6_ml, .int mat, .int wel, .ref h6_mr, .int rdm, .long hsh])), (h6_ms, .inl (cI, 253, .inl ms)), (h6_mv, .inl (cI, 1518, .inl mv)), (h6_mb, .inl (cI, 60, .inl mb)), (h6_mc, .inl (cI, 160, .inl o31_1)), (h6_mg, .inl (cI, 160, .inl mg)), (h6_mt, .inl (cI, 240, .inl mt)), (h6_ml, .inl (cI, 240, .inl ml)), (h6_mr, .inl (cI, 600, .inl mr))] ++ []) H → va_D A ([(h6, .inr (6, [.int thr, .ref h6_ms, .ref h6_mv, .int svm, .ref h6_mb, .int mln, .ref h6_mc, .ref h6_mg, .ref h6_mt, .ref h6_ml, .int mat, .int wel, .ref h6_mr, .int rdm, .long hsh])), (h6_ms, .inl (cI, 253, .inl ms)), (h6_mv, .inl (cI, 1518, .inl mv)), (h6_mb, .inl (cI, 60, .inl mb)), (h6_mc, .inl (cI, 160, .inl o31_1)), (h6_mg, .inl (cI, 160, .inl mg)), (h6_mt, .inl (cI, 240, .inl mt)), (h6_ml, .inl (cI, 240, .inl ml)), (h6_mr, .inl (cI, 600, .inl mr))] ++ []) → va_S A s.heap H locs → lv_has ls 6 [] → W p l e rmX6_lays s m args below meth c H locs 0 0 Q (F0 m 73 ls [])) → W p l e rmX6_lays s m args below meth c H locs 0 0 Q (F0 m 31 ls []) := by
    intro n
    induction n with
    | zero =>
      intro v5_31 mc_31 o31_1 H locs ls h
      rw [fX6_lays_L31] at h
      cases h
    | succ n ih =>
      intro v5_31 mc_31 o31_1 H locs ls h hP hD hS hl K
      rw [fX6_lays_L31] at h
      refine lv_iload hx hb dX6_lays_31 (lv_at hl 4 rfl) ?_
      refine lv_iload hx hb dX6_lays_33 (lv_at hl 3 rfl) ?_
      refine lv_icmp_ge (tgt := 73) hx hb dX6_lays_35 (by decide) (fun cq => ?_) (fun cq => ?_)
      · replace h := ifp cq h
        cases h
        exact K _ _ _ hP hD hS (lv_sub hl [] rfl)
      · replace h := ifn cq h
        refine lv_aload_n hx hb dX6_lays_38 rfl (lv_at hl 0 rfl) ?_
        refine va_get (D := D) (ci := 6) (v := .ref h6_mc) (C := RX6) (T := TX6) (N := 15) hx hb hts iX6 hown hK hP 0 rfl rfl 6 (by decide) (hts (.fieldLink RX6 19 "HiddenPeriodsModel" "counts" "[I") (by decide +kernel)) (fun _ h9 => h9) rfl dX6_lays_39 ?_
        refine lv_iconst (v := 4) hx hb dX6_lays_42 (by decide) ?_
        refine lv_iload hx hb dX6_lays_43 (lv_at hl 4 rfl) ?_
        refine lv_iload_n hx hb dX6_lays_45 rfl (lv_at hl 1 rfl) ?_
        refine lv_iload_n hx hb dX6_lays_46 rfl (lv_at hl 2 rfl) ?_
        obtain ⟨x4, hx4, h⟩ := bnd h
        refine pw_go0 (va_runS (As := [.int v5_31, .int a1, .int a2]) (rest := [.int 4, .ref h6_mc]) ⟨hx, hb, hml, hown, hts⟩ (mX6_classOf l D cI cO cJ H.size v5_31 a1 a2 _ hx4) (va_cwS 3 hts gX6_lays_X6_classOf rfl rfl rfl (by decide +kernel) ⟨Nat.le_of_ble_eq_true rfl, Nat.le_of_ble_eq_true rfl⟩) (pw_preS hK hN pw_nilP (pw_nilD (A := A))) rfl rfl hl.1 rfl (lv_room (Nat.le_of_ble_eq_true rfl)) dX6_lays_47 ⟨Nat.zero_le _, Nat.zero_le _⟩) hP hS hA (fun H locs hP hS => ?_)
        refine lv_imul hx hb dX6_lays_50 ?_
        refine lv_aload_n hx hb dX6_lays_51 rfl (lv_at hl 0 rfl) ?_
        refine va_get (D := D) (ci := 6) (v := .ref h6_ms) (C := RX6) (T := TX6) (N := 15) hx hb hts iX6 hown hK hP 0 rfl rfl 1 (by decide) (hts (.fieldLink RX6 7 "HiddenPeriodsModel" "s" "[I") (by decide +kernel)) (fun _ h9 => h9) rfl dX6_lays_52 ?_
        refine lv_bipush (v := 13) hx hb dX6_lays_55 (by decide) ?_
        refine lv_iload hx hb dX6_lays_57 (lv_at hl 4 rfl) ?_
        refine lv_iadd hx hb dX6_lays_59 ?_
        obtain ⟨g5, h⟩ := gdn h
        refine va_iald hx hb hK hP 1 0 rfl rfl g5 dX6_lays_60 ?_
        refine lv_iadd hx hb dX6_lays_61 ?_
        refine lv_dup2_11 hx hb dX6_lays_62 rfl rfl ?_
        obtain ⟨g6, h⟩ := gdn h
        refine va_iald hx hb hK hP 4 0 rfl rfl g6 dX6_lays_63 ?_
        refine lv_iconst (v := 1) hx hb dX6_lays_64 (by decide) ?_
        refine lv_iadd hx hb dX6_lays_65 ?_
        obtain ⟨g7, h⟩ := gdn h
        refine va_iast hx hb hK hP hD hS 4 0 rfl rfl g7 dX6_lays_66 (fun H locs hP hD hS => ?_)
        have hP : va_P D vwCl ([(h6, .inr (6, [.int thr, .ref h6_ms, .ref h6_mv, .int svm, .ref h6_mb, .int mln, .ref h6_mc, .ref h6_mg, .ref h6_mt, .ref h6_ml, .int mat, .int wel, .ref h6_mr, .int rdm, .long hsh])), (h6_ms, .inl (cI, 253, .inl ms)), (h6_mv, .inl (cI, 1518, .inl mv)), (h6_mb, .inl (cI, 60, .inl mb)), (h6_mc, .inl (cI, 160, .inl (upd mc_31 (((4 * x4) + (ms ((13 + v5_31)).toNatClampNeg))).toNatClampNeg ((mc_31 (((4 * x4) + (ms ((13 + v5_31)).toNatClampNeg))).toNatClampNeg) + 1)))), (h6_mg, .inl (cI, 160, .inl mg)), (h6_mt, .inl (cI, 240, .inl mt)), (h6_ml, .inl (cI, 240, .inl ml)), (h6_mr, .inl (cI, 600, .inl mr))] ++ []) H := hP
        have hD : va_D A ([(h6, .inr (6, [.int thr, .ref h6_ms, .ref h6_mv, .int svm, .ref h6_mb, .int mln, .ref h6_mc, .ref h6_mg, .ref h6_mt, .ref h6_ml, .int mat, .int wel, .ref h6_mr, .int rdm, .long hsh])), (h6_ms, .inl (cI, 253, .inl ms)), (h6_mv, .inl (cI, 1518, .inl mv)), (h6_mb, .inl (cI, 60, .inl mb)), (h6_mc, .inl (cI, 160, .inl (upd mc_31 (((4 * x4) + (ms ((13 + v5_31)).toNatClampNeg))).toNatClampNeg ((mc_31 (((4 * x4) + (ms ((13 + v5_31)).toNatClampNeg))).toNatClampNeg) + 1)))), (h6_mg, .inl (cI, 160, .inl mg)), (h6_mt, .inl (cI, 240, .inl mt)), (h6_ml, .inl (cI, 240, .inl ml)), (h6_mr, .inl (cI, 600, .inl mr))] ++ []) := hD
        refine lv_iinc (v := (v5_31 + 1)) (lv' := [(5, .int (v5_31 + 1)), (0, .ref h6), (1, .int a1), (2, .int a2), (4, .int a4)]) hx hb dX6_lays_67 hl (k := 4) rfl rfl (by decide) rfl (fun ls hl => ?_)
        refine lv_goto (tgt := 31) hx hb dX6_lays_70 (by decide) ?_
        exact ih _ _ _ _ _ _ h hP hD hS (lv_sub hl [1, 2, 3, 4, 0] rfl) K
  obtain ⟨x8, hx8, h⟩ := bnd h
  refine L31 FU _ _ _ _ _ _ hx8 hP hD hS (lv_sub hl [1, 2, 3, 5, 0] rfl) (fun H locs ls hP hD hS hl => ?_)
  cases h
  exact pw_vret hx hb hr hlocks hAe hQ hP hD hS dX6_lays_73
def fX6_signOf_L4 (mc : Nat → Int32) (a1 : Int32) : Nat → Int32 → Int32 → Option Int32
  | 0, _, _ => none
  | n + 1, v2_4, v3_4 =>
    if 4 ≤ v3_4 then
    some v2_4
    else
    if oob ((4 * a1) + v3_4) 160 then none else
    if (mc (((4 * a1) + v3_4)).toNatClampNeg) ≤ 0 then
    fX6_signOf_L4 mc a1 n v2_4 (v3_4 + 1)
    else
    if v2_4 = (-1) then
    fX6_signOf_L4 mc a1 n v3_4 (v3_4 + 1)
    else
    if oob ((4 * a1) + v2_4) 160 then none else
    if (mc (((4 * a1) + v3_4)).toNatClampNeg) ≤ (mc (((4 * a1) + v2_4)).toNatClampNeg) then
    fX6_signOf_L4 mc a1 n v2_4 (v3_4 + 1)
    else
    fX6_signOf_L4 mc a1 n v3_4 (v3_4 + 1)
def fX6_signOf (mc : Nat → Int32) (a1 : Int32) : Option Int32 :=
  (fX6_signOf_L4 mc a1 FU (-1) 0).bind fun x3 =>
  some x3
abbrev rmX6_signOf : Room := { frames := 0, cells := 0, slots := 0, locals := 0 }
set_option maxHeartbeats 4000000 in
set_option maxRecDepth 100000 in
theorem mX6_signOf (l : Launch) (D : va_G) (cI cO cJ : ClassId) (h6 h6_ms h6_mv h6_mb h6_mc h6_mg h6_mt h6_ml h6_mr : Nat) (sz : Nat) (thr : Int32) (ms : Nat → Int32) (mv : Nat → Int32) (svm : Int32) (mb : Nat → Int32) (mln : Int32) (mc : Nat → Int32) (mg : Nat → Int32) (mt : Nat → Int32) (ml : Nat → Int32) (mat : Int32) (wel : Int32) (mr : Nat → Int32) (rdm : Int32) (hsh : Int64) (a1 : Int32) (z : Int32) (h : fX6_signOf mc a1 = some z) : Met l yX6_signOf wsX6_signOf rmX6_signOf (pw_pre D (tyL cI cO cJ) [.ref h6, .int a1] [(h6, .inr (6, [.int thr, .ref h6_ms, .ref h6_mv, .int svm, .ref h6_mb, .int mln, .ref h6_mc, .ref h6_mg, .ref h6_mt, .ref h6_ml, .int mat, .int wel, .ref h6_mr, .int rdm, .long hsh])), (h6_ms, .inl (cI, 253, .inl ms)), (h6_mv, .inl (cI, 1518, .inl mv)), (h6_mb, .inl (cI, 60, .inl mb)), (h6_mc, .inl (cI, 160, .inl mc)), (h6_mg, .inl (cI, 160, .inl mg)), (h6_mt, .inl (cI, 240, .inl mt)), (h6_ml, .inl (cI, 240, .inl ml)), (h6_mr, .inl (cI, 600, .inl mr))] sz) (pw_i D [(h6, .inr (6, [.int thr, .ref h6_ms, .ref h6_mv, .int svm, .ref h6_mb, .int mln, .ref h6_mc, .ref h6_mg, .ref h6_mt, .ref h6_ml, .int mat, .int wel, .ref h6_mr, .int rdm, .long hsh])), (h6_ms, .inl (cI, 253, .inl ms)), (h6_mv, .inl (cI, 1518, .inl mv)), (h6_mb, .inl (cI, 60, .inl mb)), (h6_mc, .inl (cI, 160, .inl mc)), (h6_mg, .inl (cI, 160, .inl mg)), (h6_mt, .inl (cI, 240, .inl mt)), (h6_ml, .inl (cI, 240, .inl ml)), (h6_mr, .inl (cI, 600, .inl mr))] [(h6, .inr (6, [.int thr, .ref h6_ms, .ref h6_mv, .int svm, .ref h6_mb, .int mln, .ref h6_mc, .ref h6_mg, .ref h6_mt, .ref h6_ml, .int mat, .int wel, .ref h6_mr, .int rdm, .long hsh])), (h6_ms, .inl (cI, 253, .inl ms)), (h6_mv, .inl (cI, 1518, .inl mv)), (h6_mb, .inl (cI, 60, .inl mb)), (h6_mc, .inl (cI, 160, .inl mc)), (h6_mg, .inl (cI, 160, .inl mg)), (h6_mt, .inl (cI, 240, .inl mt)), (h6_ml, .inl (cI, 240, .inl ml)), (h6_mr, .inl (cI, 600, .inl mr))] z sz) 0 0 (va_A [(h6, .inr (6, [.int thr, .ref h6_ms, .ref h6_mv, .int svm, .ref h6_mb, .int mln, .ref h6_mc, .ref h6_mg, .ref h6_mt, .ref h6_ml, .int mat, .int wel, .ref h6_mr, .int rdm, .long hsh])), (h6_ms, .inl (cI, 253, .inl ms)), (h6_mv, .inl (cI, 1518, .inl mv)), (h6_mb, .inl (cI, 60, .inl mb)), (h6_mc, .inl (cI, 160, .inl mc)), (h6_mg, .inl (cI, 160, .inl mg)), (h6_mt, .inl (cI, 240, .inl mt)), (h6_ml, .inl (cI, 240, .inl ml)), (h6_mr, .inl (cI, 600, .inl mr))] sz) := by
  refine pw_of (Qc := fun sz => pw_i D [(h6, .inr (6, [.int thr, .ref h6_ms, .ref h6_mv, .int svm, .ref h6_mb, .int mln, .ref h6_mc, .ref h6_mg, .ref h6_mt, .ref h6_ml, .int mat, .int wel, .ref h6_mr, .int rdm, .long hsh])), (h6_ms, .inl (cI, 253, .inl ms)), (h6_mv, .inl (cI, 1518, .inl mv)), (h6_mb, .inl (cI, 60, .inl mb)), (h6_mc, .inl (cI, 160, .inl mc)), (h6_mg, .inl (cI, 160, .inl mg)), (h6_mt, .inl (cI, 240, .inl mt)), (h6_ml, .inl (cI, 240, .inl ml)), (h6_mr, .inl (cI, 600, .inl mr))] [(h6, .inr (6, [.int thr, .ref h6_ms, .ref h6_mv, .int svm, .ref h6_mb, .int mln, .ref h6_mc, .ref h6_mg, .ref h6_mt, .ref h6_ml, .int mat, .int wel, .ref h6_mr, .int rdm, .long hsh])), (h6_ms, .inl (cI, 253, .inl ms)), (h6_mv, .inl (cI, 1518, .inl mv)), (h6_mb, .inl (cI, 60, .inl mb)), (h6_mc, .inl (cI, 160, .inl mc)), (h6_mg, .inl (cI, 160, .inl mg)), (h6_mt, .inl (cI, 240, .inl mt)), (h6_ml, .inl (cI, 240, .inl ml)), (h6_mr, .inl (cI, 600, .inl mr))] z sz) (cc := cX6_signOf) (maxL := 5) (ret := (some .int)) (by decide) rfl (Nat.le_of_ble_eq_true rfl) ?_
  intro p e s m args below meth c A Q H ls hx hb hml hr hts hown hlocks hAe hQ hK hN hA hP hD hS hl
  have hown : s.vm.findClass RX6 = some m.cls := hown
  have hl : lv_has ls 5 [(0, .ref h6), (1, .int a1)] := hl
  have hP : va_P D vwCl ([(h6, .inr (6, [.int thr, .ref h6_ms, .ref h6_mv, .int svm, .ref h6_mb, .int mln, .ref h6_mc, .ref h6_mg, .ref h6_mt, .ref h6_ml, .int mat, .int wel, .ref h6_mr, .int rdm, .long hsh])), (h6_ms, .inl (cI, 253, .inl ms)), (h6_mv, .inl (cI, 1518, .inl mv)), (h6_mb, .inl (cI, 60, .inl mb)), (h6_mc, .inl (cI, 160, .inl mc)), (h6_mg, .inl (cI, 160, .inl mg)), (h6_mt, .inl (cI, 240, .inl mt)), (h6_ml, .inl (cI, 240, .inl ml)), (h6_mr, .inl (cI, 600, .inl mr))] ++ []) H := hP
  have hD : va_D A ([(h6, .inr (6, [.int thr, .ref h6_ms, .ref h6_mv, .int svm, .ref h6_mb, .int mln, .ref h6_mc, .ref h6_mg, .ref h6_mt, .ref h6_ml, .int mat, .int wel, .ref h6_mr, .int rdm, .long hsh])), (h6_ms, .inl (cI, 253, .inl ms)), (h6_mv, .inl (cI, 1518, .inl mv)), (h6_mb, .inl (cI, 60, .inl mb)), (h6_mc, .inl (cI, 160, .inl mc)), (h6_mg, .inl (cI, 160, .inl mg)), (h6_mt, .inl (cI, 240, .inl mt)), (h6_ml, .inl (cI, 240, .inl ml)), (h6_mr, .inl (cI, 600, .inl mr))] ++ []) := hD
  have iX6 : ∀ w ∈ u_ws RX6 TX6 15, w ∈ wsX6_signOf := fun _ h => List.mem_cons_of_mem _ (List.mem_append_right _ h)
  unfold fX6_signOf at h
  refine lv_iconst (v := (-1)) hx hb dX6_signOf_0 (by decide) ?_
  refine lv_istore_n (lv' := [(2, .int (-1)), (0, .ref h6), (1, .int a1)]) hx hb dX6_signOf_1 rfl hl (by decide) rfl (fun ls hl => ?_)
  refine lv_iconst (v := 0) hx hb dX6_signOf_2 (by decide) ?_
  refine lv_istore_n (lv' := [(3, .int 0), (2, .int (-1)), (0, .ref h6), (1, .int a1)]) hx hb dX6_signOf_3 rfl hl (by decide) rfl (fun ls hl => ?_)
  have L4 : ∀ (n : Nat) (v2_4 : Int32) (v3_4 : Int32) (o4_1 : Int32) (H : Heap) (locs : List Loc) (ls : Array Slot), fX6_signOf_L4 mc a1 n v2_4 v3_4 = some o4_1 → va_P D vwCl ([(h6, .inr (6, [.int thr, .ref h6_ms, .ref h6_mv, .int svm, .ref h6_mb, .int mln, .ref h6_mc, .ref h6_mg, .ref h6_mt, .ref h6_ml, .int mat, .int wel, .ref h6_mr, .int rdm, .long hsh])), (h6_ms, .inl (cI, 253, .inl ms)), (h6_mv, .inl (cI, 1518, .inl mv)), (h6_mb, .inl (cI, 60, .inl mb)), (h6_mc, .inl (cI, 160, .inl mc)), (h6_mg, .inl (cI, 160, .inl mg)), (h6_mt, .inl (cI, 240, .inl mt)), (h6_ml, .inl (cI, 240, .inl ml)), (h6_mr, .inl (cI, 600, .inl mr))] ++ []) H → va_D A ([(h6, .inr (6, [.int thr, .ref h6_ms, .ref h6_mv, .int svm, .ref h6_mb, .int mln, .ref h6_mc, .ref h6_mg, .ref h6_mt, .ref h6_ml, .int mat, .int wel, .ref h6_mr, .int rdm, .long hsh])), (h6_ms, .inl (cI, 253, .inl ms)), (h6_mv, .inl (cI, 1518, .inl mv)), (h6_mb, .inl (cI, 60, .inl mb)), (h6_mc, .inl (cI, 160, .inl mc)), (h6_mg, .inl (cI, 160, .inl mg)), (h6_mt, .inl (cI, 240, .inl mt)), (h6_ml, .inl (cI, 240, .inl ml)), (h6_mr, .inl (cI, 600, .inl mr))] ++ []) → va_S A s.heap H locs → lv_has ls 5 [(0, .ref h6), (1, .int a1), (2, .int v2_4), (3, .int v3_4)] → (∀ (H : Heap) (locs : List Loc) (ls : Array Slot), va_P D vwCl ([(h6, .inr (6, [.int thr, .ref h6_ms, .ref h6_mv, .int svm, .ref h6_mb, .int mln, .ref h6_mc, .ref h6_mg, .ref h6_mt, .ref h6_ml, .int mat, .int wel, .ref h6_mr, .int rdm, .long hsh])), (h6_ms, .inl (cI, 253, .inl ms)), (h6_mv, .inl (cI, 1518, .inl mv)), (h6_mb, .inl (cI, 60, .inl mb)), (h6_mc, .inl (cI, 160, .inl mc)), (h6_mg, .inl (cI, 160, .inl mg)), (h6_mt, .inl (cI, 240, .inl mt)), (h6_ml, .inl (cI, 240, .inl ml)), (h6_mr, .inl (cI, 600, .inl mr))] ++ []) H → va_D A ([(h6, .inr (6, [.int thr, .ref h6_ms, .ref h6_mv, .int svm, .ref h6_mb, .int mln, .ref h6_mc, .ref h6_mg, .ref h6_mt, .ref h6_ml, .int mat, .int wel, .ref h6_mr, .int rdm, .long hsh])), (h6_ms, .inl (cI, 253, .inl ms)), (h6_mv, .inl (cI, 1518, .inl mv)), (h6_mb, .inl (cI, 60, .inl mb)), (h6_mc, .inl (cI, 160, .inl mc)), (h6_mg, .inl (cI, 160, .inl mg)), (h6_mt, .inl (cI, 240, .inl mt)), (h6_ml, .inl (cI, 240, .inl ml)), (h6_mr, .inl (cI, 600, .inl mr))] ++ []) → va_S A s.heap H locs → lv_has ls 5 [(2, .int o4_1)] → W p l e rmX6_signOf s m args below meth c H locs 0 0 Q (F0 m 58 ls [])) → W p l e rmX6_signOf s m args below meth c H locs 0 0 Q (F0 m 4 ls []) := by
    intro n
    induction n with
    | zero =>
      intro v2_4 v3_4 o4_1 H locs ls h
      rw [fX6_signOf_L4] at h
      cases h
    | succ n ih =>
      intro v2_4 v3_4 o4_1 H locs ls h hP hD hS hl K
      rw [fX6_signOf_L4] at h
      refine lv_iload_n hx hb dX6_signOf_4 rfl (lv_at hl 3 rfl) ?_
      refine lv_iconst (v := 4) hx hb dX6_signOf_5 (by decide) ?_
      refine lv_icmp_ge (tgt := 58) hx hb dX6_signOf_6 (by decide) (fun cq => ?_) (fun cq => ?_)
      · replace h := ifp cq h
        cases h
        exact K _ _ _ hP hD hS (lv_sub hl [2] rfl)
      · replace h := ifn cq h
        refine lv_aload_n hx hb dX6_signOf_9 rfl (lv_at hl 0 rfl) ?_
        refine va_get (D := D) (ci := 6) (v := .ref h6_mc) (C := RX6) (T := TX6) (N := 15) hx hb hts iX6 hown hK hP 0 rfl rfl 6 (by decide) (hts (.fieldLink RX6 19 "HiddenPeriodsModel" "counts" "[I") (by decide +kernel)) (fun _ h9 => h9) rfl dX6_signOf_10 ?_
        refine lv_iconst (v := 4) hx hb dX6_signOf_13 (by decide) ?_
        refine lv_iload_n hx hb dX6_signOf_14 rfl (lv_at hl 1 rfl) ?_
        refine lv_imul hx hb dX6_signOf_15 ?_
        refine lv_iload_n hx hb dX6_signOf_16 rfl (lv_at hl 3 rfl) ?_
        refine lv_iadd hx hb dX6_signOf_17 ?_
        obtain ⟨g1, h⟩ := gdn h
        refine va_iald hx hb hK hP 4 0 rfl rfl g1 dX6_signOf_18 ?_
        refine lv_istore (lv' := [(4, .int (mc (((4 * a1) + v3_4)).toNatClampNeg)), (0, .ref h6), (1, .int a1), (2, .int v2_4), (3, .int v3_4)]) hx hb dX6_signOf_19 hl (by decide) rfl (fun ls hl => ?_)
        refine lv_iload hx hb dX6_signOf_21 (lv_at hl 0 rfl) ?_
        refine lv_if_le (tgt := 50) hx hb dX6_signOf_23 (by decide) (fun cq => ?_) (fun cq => ?_)
        · replace h := ifp cq h
          refine lv_iload_n hx hb dX6_signOf_50 rfl (lv_at hl 3 rfl) ?_
          refine lv_istore_n (lv' := [(2, .int v2_4), (4, .int (mc (((4 * a1) + v3_4)).toNatClampNeg)), (0, .ref h6), (1, .int a1), (3, .int v3_4)]) hx hb dX6_signOf_51 rfl hl (by decide) rfl (fun ls hl => ?_)
          refine lv_iinc (v := (v3_4 + 1)) (lv' := [(3, .int (v3_4 + 1)), (2, .int v2_4), (4, .int (mc (((4 * a1) + v3_4)).toNatClampNeg)), (0, .ref h6), (1, .int a1)]) hx hb dX6_signOf_52 hl (k := 4) rfl rfl (by decide) rfl (fun ls hl => ?_)
          refine lv_goto (tgt := 4) hx hb dX6_signOf_55 (by decide) ?_
          exact ih _ _ _ _ _ _ h hP hD hS (lv_sub hl [3, 4, 1, 0] rfl) K
        · replace h := ifn cq h
          refine lv_iload_n hx hb dX6_signOf_26 rfl (lv_at hl 3 rfl) ?_
          refine lv_iconst (v := (-1)) hx hb dX6_signOf_27 (by decide) ?_
          refine lv_icmp_eq (tgt := 46) hx hb dX6_signOf_28 (by decide) (fun cq => ?_) (fun cq => ?_)
          · replace h := ifp cq h
            refine lv_iload_n hx hb dX6_signOf_46 rfl (lv_at hl 4 rfl) ?_
            refine lv_goto (tgt := 51) hx hb dX6_signOf_47 (by decide) ?_
            refine lv_istore_n (lv' := [(2, .int v3_4), (4, .int (mc (((4 * a1) + v3_4)).toNatClampNeg)), (0, .ref h6), (1, .int a1), (3, .int v3_4)]) hx hb dX6_signOf_51 rfl hl (by decide) rfl (fun ls hl => ?_)
            refine lv_iinc (v := (v3_4 + 1)) (lv' := [(3, .int (v3_4 + 1)), (2, .int v3_4), (4, .int (mc (((4 * a1) + v3_4)).toNatClampNeg)), (0, .ref h6), (1, .int a1)]) hx hb dX6_signOf_52 hl (k := 4) rfl rfl (by decide) rfl (fun ls hl => ?_)
            refine lv_goto (tgt := 4) hx hb dX6_signOf_55 (by decide) ?_
            exact ih _ _ _ _ _ _ h hP hD hS (lv_sub hl [3, 4, 1, 0] rfl) K
          · replace h := ifn cq h
            refine lv_iload hx hb dX6_signOf_31 (lv_at hl 0 rfl) ?_
            refine lv_aload_n hx hb dX6_signOf_33 rfl (lv_at hl 1 rfl) ?_
            refine va_get (D := D) (ci := 6) (v := .ref h6_mc) (C := RX6) (T := TX6) (N := 15) hx hb hts iX6 hown hK hP 0 rfl rfl 6 (by decide) (hts (.fieldLink RX6 19 "HiddenPeriodsModel" "counts" "[I") (by decide +kernel)) (fun _ h9 => h9) rfl dX6_signOf_34 ?_
            refine lv_iconst (v := 4) hx hb dX6_signOf_37 (by decide) ?_
            refine lv_iload_n hx hb dX6_signOf_38 rfl (lv_at hl 2 rfl) ?_
            refine lv_imul hx hb dX6_signOf_39 ?_
            refine lv_iload_n hx hb dX6_signOf_40 rfl (lv_at hl 3 rfl) ?_
            refine lv_iadd hx hb dX6_signOf_41 ?_
            obtain ⟨g2, h⟩ := gdn h
            refine va_iald hx hb hK hP 4 0 rfl rfl g2 dX6_signOf_42 ?_
            refine lv_icmp_le (tgt := 50) hx hb dX6_signOf_43 (by decide) (fun cq => ?_) (fun cq => ?_)
            · replace h := ifp cq h
              refine lv_iload_n hx hb dX6_signOf_50 rfl (lv_at hl 3 rfl) ?_
              refine lv_istore_n (lv' := [(2, .int v2_4), (4, .int (mc (((4 * a1) + v3_4)).toNatClampNeg)), (0, .ref h6), (1, .int a1), (3, .int v3_4)]) hx hb dX6_signOf_51 rfl hl (by decide) rfl (fun ls hl => ?_)
              refine lv_iinc (v := (v3_4 + 1)) (lv' := [(3, .int (v3_4 + 1)), (2, .int v2_4), (4, .int (mc (((4 * a1) + v3_4)).toNatClampNeg)), (0, .ref h6), (1, .int a1)]) hx hb dX6_signOf_52 hl (k := 4) rfl rfl (by decide) rfl (fun ls hl => ?_)
              refine lv_goto (tgt := 4) hx hb dX6_signOf_55 (by decide) ?_
              exact ih _ _ _ _ _ _ h hP hD hS (lv_sub hl [3, 4, 1, 0] rfl) K
            · replace h := ifn cq h
              refine lv_iload_n hx hb dX6_signOf_46 rfl (lv_at hl 4 rfl) ?_
              refine lv_goto (tgt := 51) hx hb dX6_signOf_47 (by decide) ?_
              refine lv_istore_n (lv' := [(2, .int v3_4), (4, .int (mc (((4 * a1) + v3_4)).toNatClampNeg)), (0, .ref h6), (1, .int a1), (3, .int v3_4)]) hx hb dX6_signOf_51 rfl hl (by decide) rfl (fun ls hl => ?_)
              refine lv_iinc (v := (v3_4 + 1)) (lv' := [(3, .int (v3_4 + 1)), (2, .int v3_4), (4, .int (mc (((4 * a1) + v3_4)).toNatClampNeg)), (0, .ref h6), (1, .int a1)]) hx hb dX6_signOf_52 hl (k := 4) rfl rfl (by decide) rfl (fun ls hl => ?_)
              refine lv_goto (tgt := 4) hx hb dX6_signOf_55 (by decide) ?_
              exact ih _ _ _ _ _ _ h hP hD hS (lv_sub hl [3, 4, 1, 0] rfl) K
  obtain ⟨x3, hx3, h⟩ := bnd h
  refine L4 FU _ _ _ _ _ _ hx3 hP hD hS (lv_sub hl [2, 3, 1, 0] rfl) (fun H locs ls hP hD hS hl => ?_)
  refine lv_iload_n hx hb dX6_signOf_58 rfl (lv_at hl 0 rfl) ?_
  cases h
  exact pw_iret hx hb hr hlocks hAe hQ hP hD hS dX6_signOf_59
def fX6_placesOf_L4 (mc : Nat → Int32) (a1 : Int32) : Nat → Int32 → Int32 → Option Int32
  | 0, _, _ => none
  | n + 1, v2_4, v3_4 =>
    if 4 ≤ v3_4 then
    some v2_4
    else
    if oob ((4 * a1) + v3_4) 160 then none else
    fX6_placesOf_L4 mc a1 n (v2_4 + (mc (((4 * a1) + v3_4)).toNatClampNeg)) (v3_4 + 1)
def fX6_placesOf (mc : Nat → Int32) (a1 : Int32) : Option Int32 :=
  (fX6_placesOf_L4 mc a1 FU 0 0).bind fun x2 =>
  some x2
abbrev rmX6_placesOf : Room := { frames := 0, cells := 0, slots := 0, locals := 0 }
set_option maxHeartbeats 4000000 in
set_option maxRecDepth 100000 in
theorem mX6_placesOf (l : Launch) (D : va_G) (cI cO cJ : ClassId) (h6 h6_ms h6_mv h6_mb h6_mc h6_mg h6_mt h6_ml h6_mr : Nat) (sz : Nat) (thr : Int32) (ms : Nat → Int32) (mv : Nat → Int32) (svm : Int32) (mb : Nat → Int32) (mln : Int32) (mc : Nat → Int32) (mg : Nat → Int32) (mt : Nat → Int32) (ml : Nat → Int32) (mat : Int32) (wel : Int32) (mr : Nat → Int32) (rdm : Int32) (hsh : Int64) (a1 : Int32) (z : Int32) (h : fX6_placesOf mc a1 = some z) : Met l yX6_placesOf wsX6_placesOf rmX6_placesOf (pw_pre D (tyL cI cO cJ) [.ref h6, .int a1] [(h6, .inr (6, [.int thr, .ref h6_ms, .ref h6_mv, .int svm, .ref h6_mb, .int mln, .ref h6_mc, .ref h6_mg, .ref h6_mt, .ref h6_ml, .int mat, .int wel, .ref h6_mr, .int rdm, .long hsh])), (h6_ms, .inl (cI, 253, .inl ms)), (h6_mv, .inl (cI, 1518, .inl mv)), (h6_mb, .inl (cI, 60, .inl mb)), (h6_mc, .inl (cI, 160, .inl mc)), (h6_mg, .inl (cI, 160, .inl mg)), (h6_mt, .inl (cI, 240, .inl mt)), (h6_ml, .inl (cI, 240, .inl ml)), (h6_mr, .inl (cI, 600, .inl mr))] sz) (pw_i D [(h6, .inr (6, [.int thr, .ref h6_ms, .ref h6_mv, .int svm, .ref h6_mb, .int mln, .ref h6_mc, .ref h6_mg, .ref h6_mt, .ref h6_ml, .int mat, .int wel, .ref h6_mr, .int rdm, .long hsh])), (h6_ms, .inl (cI, 253, .inl ms)), (h6_mv, .inl (cI, 1518, .inl mv)), (h6_mb, .inl (cI, 60, .inl mb)), (h6_mc, .inl (cI, 160, .inl mc)), (h6_mg, .inl (cI, 160, .inl mg)), (h6_mt, .inl (cI, 240, .inl mt)), (h6_ml, .inl (cI, 240, .inl ml)), (h6_mr, .inl (cI, 600, .inl mr))] [(h6, .inr (6, [.int thr, .ref h6_ms, .ref h6_mv, .int svm, .ref h6_mb, .int mln, .ref h6_mc, .ref h6_mg, .ref h6_mt, .ref h6_ml, .int mat, .int wel, .ref h6_mr, .int rdm, .long hsh])), (h6_ms, .inl (cI, 253, .inl ms)), (h6_mv, .inl (cI, 1518, .inl mv)), (h6_mb, .inl (cI, 60, .inl mb)), (h6_mc, .inl (cI, 160, .inl mc)), (h6_mg, .inl (cI, 160, .inl mg)), (h6_mt, .inl (cI, 240, .inl mt)), (h6_ml, .inl (cI, 240, .inl ml)), (h6_mr, .inl (cI, 600, .inl mr))] z sz) 0 0 (va_A [(h6, .inr (6, [.int thr, .ref h6_ms, .ref h6_mv, .int svm, .ref h6_mb, .int mln, .ref h6_mc, .ref h6_mg, .ref h6_mt, .ref h6_ml, .int mat, .int wel, .ref h6_mr, .int rdm, .long hsh])), (h6_ms, .inl (cI, 253, .inl ms)), (h6_mv, .inl (cI, 1518, .inl mv)), (h6_mb, .inl (cI, 60, .inl mb)), (h6_mc, .inl (cI, 160, .inl mc)), (h6_mg, .inl (cI, 160, .inl mg)), (h6_mt, .inl (cI, 240, .inl mt)), (h6_ml, .inl (cI, 240, .inl ml)), (h6_mr, .inl (cI, 600, .inl mr))] sz) := by
  refine pw_of (Qc := fun sz => pw_i D [(h6, .inr (6, [.int thr, .ref h6_ms, .ref h6_mv, .int svm, .ref h6_mb, .int mln, .ref h6_mc, .ref h6_mg, .ref h6_mt, .ref h6_ml, .int mat, .int wel, .ref h6_mr, .int rdm, .long hsh])), (h6_ms, .inl (cI, 253, .inl ms)), (h6_mv, .inl (cI, 1518, .inl mv)), (h6_mb, .inl (cI, 60, .inl mb)), (h6_mc, .inl (cI, 160, .inl mc)), (h6_mg, .inl (cI, 160, .inl mg)), (h6_mt, .inl (cI, 240, .inl mt)), (h6_ml, .inl (cI, 240, .inl ml)), (h6_mr, .inl (cI, 600, .inl mr))] [(h6, .inr (6, [.int thr, .ref h6_ms, .ref h6_mv, .int svm, .ref h6_mb, .int mln, .ref h6_mc, .ref h6_mg, .ref h6_mt, .ref h6_ml, .int mat, .int wel, .ref h6_mr, .int rdm, .long hsh])), (h6_ms, .inl (cI, 253, .inl ms)), (h6_mv, .inl (cI, 1518, .inl mv)), (h6_mb, .inl (cI, 60, .inl mb)), (h6_mc, .inl (cI, 160, .inl mc)), (h6_mg, .inl (cI, 160, .inl mg)), (h6_mt, .inl (cI, 240, .inl mt)), (h6_ml, .inl (cI, 240, .inl ml)), (h6_mr, .inl (cI, 600, .inl mr))] z sz) (cc := cX6_placesOf) (maxL := 4) (ret := (some .int)) (by decide) rfl (Nat.le_of_ble_eq_true rfl) ?_
  intro p e s m args below meth c A Q H ls hx hb hml hr hts hown hlocks hAe hQ hK hN hA hP hD hS hl
  have hown : s.vm.findClass RX6 = some m.cls := hown
  have hl : lv_has ls 4 [(0, .ref h6), (1, .int a1)] := hl
  have hP : va_P D vwCl ([(h6, .inr (6, [.int thr, .ref h6_ms, .ref h6_mv, .int svm, .ref h6_mb, .int mln, .ref h6_mc, .ref h6_mg, .ref h6_mt, .ref h6_ml, .int mat, .int wel, .ref h6_mr, .int rdm, .long hsh])), (h6_ms, .inl (cI, 253, .inl ms)), (h6_mv, .inl (cI, 1518, .inl mv)), (h6_mb, .inl (cI, 60, .inl mb)), (h6_mc, .inl (cI, 160, .inl mc)), (h6_mg, .inl (cI, 160, .inl mg)), (h6_mt, .inl (cI, 240, .inl mt)), (h6_ml, .inl (cI, 240, .inl ml)), (h6_mr, .inl (cI, 600, .inl mr))] ++ []) H := hP
  have hD : va_D A ([(h6, .inr (6, [.int thr, .ref h6_ms, .ref h6_mv, .int svm, .ref h6_mb, .int mln, .ref h6_mc, .ref h6_mg, .ref h6_mt, .ref h6_ml, .int mat, .int wel, .ref h6_mr, .int rdm, .long hsh])), (h6_ms, .inl (cI, 253, .inl ms)), (h6_mv, .inl (cI, 1518, .inl mv)), (h6_mb, .inl (cI, 60, .inl mb)), (h6_mc, .inl (cI, 160, .inl mc)), (h6_mg, .inl (cI, 160, .inl mg)), (h6_mt, .inl (cI, 240, .inl mt)), (h6_ml, .inl (cI, 240, .inl ml)), (h6_mr, .inl (cI, 600, .inl mr))] ++ []) := hD
  have iX6 : ∀ w ∈ u_ws RX6 TX6 15, w ∈ wsX6_placesOf := fun _ h => List.mem_cons_of_mem _ (List.mem_append_right _ h)
  unfold fX6_placesOf at h
  refine lv_iconst (v := 0) hx hb dX6_placesOf_0 (by decide) ?_
  refine lv_istore_n (lv' := [(2, .int 0), (0, .ref h6), (1, .int a1)]) hx hb dX6_placesOf_1 rfl hl (by decide) rfl (fun ls hl => ?_)
  refine lv_iconst (v := 0) hx hb dX6_placesOf_2 (by decide) ?_
  refine lv_istore_n (lv' := [(3, .int 0), (2, .int 0), (0, .ref h6), (1, .int a1)]) hx hb dX6_placesOf_3 rfl hl (by decide) rfl (fun ls hl => ?_)
  have L4 : ∀ (n : Nat) (v2_4 : Int32) (v3_4 : Int32) (o4_1 : Int32) (H : Heap) (locs : List Loc) (ls : Array Slot), fX6_placesOf_L4 mc a1 n v2_4 v3_4 = some o4_1 → va_P D vwCl ([(h6, .inr (6, [.int thr, .ref h6_ms, .ref h6_mv, .int svm, .ref h6_mb, .int mln, .ref h6_mc, .ref h6_mg, .ref h6_mt, .ref h6_ml, .int mat, .int wel, .ref h6_mr, .int rdm, .long hsh])), (h6_ms, .inl (cI, 253, .inl ms)), (h6_mv, .inl (cI, 1518, .inl mv)), (h6_mb, .inl (cI, 60, .inl mb)), (h6_mc, .inl (cI, 160, .inl mc)), (h6_mg, .inl (cI, 160, .inl mg)), (h6_mt, .inl (cI, 240, .inl mt)), (h6_ml, .inl (cI, 240, .inl ml)), (h6_mr, .inl (cI, 600, .inl mr))] ++ []) H → va_D A ([(h6, .inr (6, [.int thr, .ref h6_ms, .ref h6_mv, .int svm, .ref h6_mb, .int mln, .ref h6_mc, .ref h6_mg, .ref h6_mt, .ref h6_ml, .int mat, .int wel, .ref h6_mr, .int rdm, .long hsh])), (h6_ms, .inl (cI, 253, .inl ms)), (h6_mv, .inl (cI, 1518, .inl mv)), (h6_mb, .inl (cI, 60, .inl mb)), (h6_mc, .inl (cI, 160, .inl mc)), (h6_mg, .inl (cI, 160, .inl mg)), (h6_mt, .inl (cI, 240, .inl mt)), (h6_ml, .inl (cI, 240, .inl ml)), (h6_mr, .inl (cI, 600, .inl mr))] ++ []) → va_S A s.heap H locs → lv_has ls 4 [(0, .ref h6), (1, .int a1), (2, .int v2_4), (3, .int v3_4)] → (∀ (H : Heap) (locs : List Loc) (ls : Array Slot), va_P D vwCl ([(h6, .inr (6, [.int thr, .ref h6_ms, .ref h6_mv, .int svm, .ref h6_mb, .int mln, .ref h6_mc, .ref h6_mg, .ref h6_mt, .ref h6_ml, .int mat, .int wel, .ref h6_mr, .int rdm, .long hsh])), (h6_ms, .inl (cI, 253, .inl ms)), (h6_mv, .inl (cI, 1518, .inl mv)), (h6_mb, .inl (cI, 60, .inl mb)), (h6_mc, .inl (cI, 160, .inl mc)), (h6_mg, .inl (cI, 160, .inl mg)), (h6_mt, .inl (cI, 240, .inl mt)), (h6_ml, .inl (cI, 240, .inl ml)), (h6_mr, .inl (cI, 600, .inl mr))] ++ []) H → va_D A ([(h6, .inr (6, [.int thr, .ref h6_ms, .ref h6_mv, .int svm, .ref h6_mb, .int mln, .ref h6_mc, .ref h6_mg, .ref h6_mt, .ref h6_ml, .int mat, .int wel, .ref h6_mr, .int rdm, .long hsh])), (h6_ms, .inl (cI, 253, .inl ms)), (h6_mv, .inl (cI, 1518, .inl mv)), (h6_mb, .inl (cI, 60, .inl mb)), (h6_mc, .inl (cI, 160, .inl mc)), (h6_mg, .inl (cI, 160, .inl mg)), (h6_mt, .inl (cI, 240, .inl mt)), (h6_ml, .inl (cI, 240, .inl ml)), (h6_mr, .inl (cI, 600, .inl mr))] ++ []) → va_S A s.heap H locs → lv_has ls 4 [(2, .int o4_1)] → W p l e rmX6_placesOf s m args below meth c H locs 0 0 Q (F0 m 28 ls [])) → W p l e rmX6_placesOf s m args below meth c H locs 0 0 Q (F0 m 4 ls []) := by
    intro n
    induction n with
    | zero =>
      intro v2_4 v3_4 o4_1 H locs ls h
      rw [fX6_placesOf_L4] at h
      cases h
    | succ n ih =>
      intro v2_4 v3_4 o4_1 H locs ls h hP hD hS hl K
      rw [fX6_placesOf_L4] at h
      refine lv_iload_n hx hb dX6_placesOf_4 rfl (lv_at hl 3 rfl) ?_
      refine lv_iconst (v := 4) hx hb dX6_placesOf_5 (by decide) ?_
      refine lv_icmp_ge (tgt := 28) hx hb dX6_placesOf_6 (by decide) (fun cq => ?_) (fun cq => ?_)
      · replace h := ifp cq h
        cases h
        exact K _ _ _ hP hD hS (lv_sub hl [2] rfl)
      · replace h := ifn cq h
        refine lv_iload_n hx hb dX6_placesOf_9 rfl (lv_at hl 2 rfl) ?_
        refine lv_aload_n hx hb dX6_placesOf_10 rfl (lv_at hl 0 rfl) ?_
        refine va_get (D := D) (ci := 6) (v := .ref h6_mc) (C := RX6) (T := TX6) (N := 15) hx hb hts iX6 hown hK hP 0 rfl rfl 6 (by decide) (hts (.fieldLink RX6 19 "HiddenPeriodsModel" "counts" "[I") (by decide +kernel)) (fun _ h9 => h9) rfl dX6_placesOf_11 ?_
        refine lv_iconst (v := 4) hx hb dX6_placesOf_14 (by decide) ?_
        refine lv_iload_n hx hb dX6_placesOf_15 rfl (lv_at hl 1 rfl) ?_
        refine lv_imul hx hb dX6_placesOf_16 ?_
        refine lv_iload_n hx hb dX6_placesOf_17 rfl (lv_at hl 3 rfl) ?_
        refine lv_iadd hx hb dX6_placesOf_18 ?_
        obtain ⟨g1, h⟩ := gdn h
        refine va_iald hx hb hK hP 4 0 rfl rfl g1 dX6_placesOf_19 ?_
        refine lv_iadd hx hb dX6_placesOf_20 ?_
        refine lv_istore_n (lv' := [(2, .int (v2_4 + (mc (((4 * a1) + v3_4)).toNatClampNeg))), (0, .ref h6), (1, .int a1), (3, .int v3_4)]) hx hb dX6_placesOf_21 rfl hl (by decide) rfl (fun ls hl => ?_)
        refine lv_iinc (v := (v3_4 + 1)) (lv' := [(3, .int (v3_4 + 1)), (2, .int (v2_4 + (mc (((4 * a1) + v3_4)).toNatClampNeg))), (0, .ref h6), (1, .int a1)]) hx hb dX6_placesOf_22 hl (k := 3) rfl rfl (by decide) rfl (fun ls hl => ?_)
        refine lv_goto (tgt := 4) hx hb dX6_placesOf_25 (by decide) ?_
        exact ih _ _ _ _ _ _ h hP hD hS (lv_sub hl [2, 3, 1, 0] rfl) K
  obtain ⟨x2, hx2, h⟩ := bnd h
  refine L4 FU _ _ _ _ _ _ hx2 hP hD hS (lv_sub hl [2, 3, 1, 0] rfl) (fun H locs ls hP hD hS hl => ?_)
  refine lv_iload_n hx hb dX6_placesOf_28 rfl (lv_at hl 0 rfl) ?_
  cases h
  exact pw_iret hx hb hr hlocks hAe hQ hP hD hS dX6_placesOf_29
def fX6_isStrong (ms : Nat → Int32) (mc : Nat → Int32) (a1 : Int32) : Option Int32 :=
  (fX6_signOf mc a1).bind fun x1 =>
  if x1 = (-1) then
  some 0
  else
  if oob ((4 * a1) + x1) 160 then none else
  if oob 3 253 then none else
  (fX6_placesOf mc a1).bind fun x4 =>
  if (100 * (mc (((4 * a1) + x1)).toNatClampNeg)) < ((ms (3 : Int32).toNatClampNeg) * x4) then
  some 0
  else
  some 1
abbrev rmX6_isStrong : Room := { frames := 1, cells := 0, slots := 0, locals := 24 }
set_option maxHeartbeats 4000000 in
set_option maxRecDepth 100000 in
theorem mX6_isStrong (l : Launch) (D : va_G) (cI cO cJ : ClassId) (h6 h6_ms h6_mv h6_mb h6_mc h6_mg h6_mt h6_ml h6_mr : Nat) (sz : Nat) (thr : Int32) (ms : Nat → Int32) (mv : Nat → Int32) (svm : Int32) (mb : Nat → Int32) (mln : Int32) (mc : Nat → Int32) (mg : Nat → Int32) (mt : Nat → Int32) (ml : Nat → Int32) (mat : Int32) (wel : Int32) (mr : Nat → Int32) (rdm : Int32) (hsh : Int64) (a1 : Int32) (z : Int32) (h : fX6_isStrong ms mc a1 = some z) : Met l yX6_isStrong wsX6_isStrong rmX6_isStrong (pw_pre D (tyL cI cO cJ) [.ref h6, .int a1] [(h6, .inr (6, [.int thr, .ref h6_ms, .ref h6_mv, .int svm, .ref h6_mb, .int mln, .ref h6_mc, .ref h6_mg, .ref h6_mt, .ref h6_ml, .int mat, .int wel, .ref h6_mr, .int rdm, .long hsh])), (h6_ms, .inl (cI, 253, .inl ms)), (h6_mv, .inl (cI, 1518, .inl mv)), (h6_mb, .inl (cI, 60, .inl mb)), (h6_mc, .inl (cI, 160, .inl mc)), (h6_mg, .inl (cI, 160, .inl mg)), (h6_mt, .inl (cI, 240, .inl mt)), (h6_ml, .inl (cI, 240, .inl ml)), (h6_mr, .inl (cI, 600, .inl mr))] sz) (pw_i D [(h6, .inr (6, [.int thr, .ref h6_ms, .ref h6_mv, .int svm, .ref h6_mb, .int mln, .ref h6_mc, .ref h6_mg, .ref h6_mt, .ref h6_ml, .int mat, .int wel, .ref h6_mr, .int rdm, .long hsh])), (h6_ms, .inl (cI, 253, .inl ms)), (h6_mv, .inl (cI, 1518, .inl mv)), (h6_mb, .inl (cI, 60, .inl mb)), (h6_mc, .inl (cI, 160, .inl mc)), (h6_mg, .inl (cI, 160, .inl mg)), (h6_mt, .inl (cI, 240, .inl mt)), (h6_ml, .inl (cI, 240, .inl ml)), (h6_mr, .inl (cI, 600, .inl mr))] [(h6, .inr (6, [.int thr, .ref h6_ms, .ref h6_mv, .int svm, .ref h6_mb, .int mln, .ref h6_mc, .ref h6_mg, .ref h6_mt, .ref h6_ml, .int mat, .int wel, .ref h6_mr, .int rdm, .long hsh])), (h6_ms, .inl (cI, 253, .inl ms)), (h6_mv, .inl (cI, 1518, .inl mv)), (h6_mb, .inl (cI, 60, .inl mb)), (h6_mc, .inl (cI, 160, .inl mc)), (h6_mg, .inl (cI, 160, .inl mg)), (h6_mt, .inl (cI, 240, .inl mt)), (h6_ml, .inl (cI, 240, .inl ml)), (h6_mr, .inl (cI, 600, .inl mr))] z sz) 0 0 (va_A [(h6, .inr (6, [.int thr, .ref h6_ms, .ref h6_mv, .int svm, .ref h6_mb, .int mln, .ref h6_mc, .ref h6_mg, .ref h6_mt, .ref h6_ml, .int mat, .int wel, .ref h6_mr, .int rdm, .long hsh])), (h6_ms, .inl (cI, 253, .inl ms)), (h6_mv, .inl (cI, 1518, .inl mv)), (h6_mb, .inl (cI, 60, .inl mb)), (h6_mc, .inl (cI, 160, .inl mc)), (h6_mg, .inl (cI, 160, .inl mg)), (h6_mt, .inl (cI, 240, .inl mt)), (h6_ml, .inl (cI, 240, .inl ml)), (h6_mr, .inl (cI, 600, .inl mr))] sz) := by
  refine pw_of (Qc := fun sz => pw_i D [(h6, .inr (6, [.int thr, .ref h6_ms, .ref h6_mv, .int svm, .ref h6_mb, .int mln, .ref h6_mc, .ref h6_mg, .ref h6_mt, .ref h6_ml, .int mat, .int wel, .ref h6_mr, .int rdm, .long hsh])), (h6_ms, .inl (cI, 253, .inl ms)), (h6_mv, .inl (cI, 1518, .inl mv)), (h6_mb, .inl (cI, 60, .inl mb)), (h6_mc, .inl (cI, 160, .inl mc)), (h6_mg, .inl (cI, 160, .inl mg)), (h6_mt, .inl (cI, 240, .inl mt)), (h6_ml, .inl (cI, 240, .inl ml)), (h6_mr, .inl (cI, 600, .inl mr))] [(h6, .inr (6, [.int thr, .ref h6_ms, .ref h6_mv, .int svm, .ref h6_mb, .int mln, .ref h6_mc, .ref h6_mg, .ref h6_mt, .ref h6_ml, .int mat, .int wel, .ref h6_mr, .int rdm, .long hsh])), (h6_ms, .inl (cI, 253, .inl ms)), (h6_mv, .inl (cI, 1518, .inl mv)), (h6_mb, .inl (cI, 60, .inl mb)), (h6_mc, .inl (cI, 160, .inl mc)), (h6_mg, .inl (cI, 160, .inl mg)), (h6_mt, .inl (cI, 240, .inl mt)), (h6_ml, .inl (cI, 240, .inl ml)), (h6_mr, .inl (cI, 600, .inl mr))] z sz) (cc := cX6_isStrong) (maxL := 3) (ret := (some .boolean)) (by decide) rfl (Nat.le_of_ble_eq_true rfl) ?_
  intro p e s m args below meth c A Q H ls hx hb hml hr hts hown hlocks hAe hQ hK hN hA hP hD hS hl
  have hown : s.vm.findClass RX6 = some m.cls := hown
  have hl : lv_has ls 3 [(0, .ref h6), (1, .int a1)] := hl
  have hP : va_P D vwCl ([(h6, .inr (6, [.int thr, .ref h6_ms, .ref h6_mv, .int svm, .ref h6_mb, .int mln, .ref h6_mc, .ref h6_mg, .ref h6_mt, .ref h6_ml, .int mat, .int wel, .ref h6_mr, .int rdm, .long hsh])), (h6_ms, .inl (cI, 253, .inl ms)), (h6_mv, .inl (cI, 1518, .inl mv)), (h6_mb, .inl (cI, 60, .inl mb)), (h6_mc, .inl (cI, 160, .inl mc)), (h6_mg, .inl (cI, 160, .inl mg)), (h6_mt, .inl (cI, 240, .inl mt)), (h6_ml, .inl (cI, 240, .inl ml)), (h6_mr, .inl (cI, 600, .inl mr))] ++ []) H := hP
  have hD : va_D A ([(h6, .inr (6, [.int thr, .ref h6_ms, .ref h6_mv, .int svm, .ref h6_mb, .int mln, .ref h6_mc, .ref h6_mg, .ref h6_mt, .ref h6_ml, .int mat, .int wel, .ref h6_mr, .int rdm, .long hsh])), (h6_ms, .inl (cI, 253, .inl ms)), (h6_mv, .inl (cI, 1518, .inl mv)), (h6_mb, .inl (cI, 60, .inl mb)), (h6_mc, .inl (cI, 160, .inl mc)), (h6_mg, .inl (cI, 160, .inl mg)), (h6_mt, .inl (cI, 240, .inl mt)), (h6_ml, .inl (cI, 240, .inl ml)), (h6_mr, .inl (cI, 600, .inl mr))] ++ []) := hD
  have iX6 : ∀ w ∈ u_ws RX6 TX6 15, w ∈ wsX6_isStrong := fun _ h => List.mem_cons_of_mem _ (List.mem_append_right _ h)
  unfold fX6_isStrong at h
  refine lv_aload_n hx hb dX6_isStrong_0 rfl (lv_at hl 0 rfl) ?_
  refine lv_iload_n hx hb dX6_isStrong_1 rfl (lv_at hl 1 rfl) ?_
  obtain ⟨x1, hx1, h⟩ := bnd h
  refine pw_goi (wc := [(h6, .inr (6, [.int thr, .ref h6_ms, .ref h6_mv, .int svm, .ref h6_mb, .int mln, .ref h6_mc, .ref h6_mg, .ref h6_mt, .ref h6_ml, .int mat, .int wel, .ref h6_mr, .int rdm, .long hsh])), (h6_ms, .inl (cI, 253, .inl ms)), (h6_mv, .inl (cI, 1518, .inl mv)), (h6_mb, .inl (cI, 60, .inl mb)), (h6_mc, .inl (cI, 160, .inl mc)), (h6_mg, .inl (cI, 160, .inl mg)), (h6_mt, .inl (cI, 240, .inl mt)), (h6_ml, .inl (cI, 240, .inl ml)), (h6_mr, .inl (cI, 600, .inl mr))]) (w1 := [(h6, .inr (6, [.int thr, .ref h6_ms, .ref h6_mv, .int svm, .ref h6_mb, .int mln, .ref h6_mc, .ref h6_mg, .ref h6_mt, .ref h6_ml, .int mat, .int wel, .ref h6_mr, .int rdm, .long hsh])), (h6_ms, .inl (cI, 253, .inl ms)), (h6_mv, .inl (cI, 1518, .inl mv)), (h6_mb, .inl (cI, 60, .inl mb)), (h6_mc, .inl (cI, 160, .inl mc)), (h6_mg, .inl (cI, 160, .inl mg)), (h6_mt, .inl (cI, 240, .inl mt)), (h6_ml, .inl (cI, 240, .inl ml)), (h6_mr, .inl (cI, 600, .inl mr))]) (w2 := [(h6, .inr (6, [.int thr, .ref h6_ms, .ref h6_mv, .int svm, .ref h6_mb, .int mln, .ref h6_mc, .ref h6_mg, .ref h6_mt, .ref h6_ml, .int mat, .int wel, .ref h6_mr, .int rdm, .long hsh])), (h6_ms, .inl (cI, 253, .inl ms)), (h6_mv, .inl (cI, 1518, .inl mv)), (h6_mb, .inl (cI, 60, .inl mb)), (h6_mc, .inl (cI, 160, .inl mc)), (h6_mg, .inl (cI, 160, .inl mg)), (h6_mt, .inl (cI, 240, .inl mt)), (h6_ml, .inl (cI, 240, .inl ml)), (h6_mr, .inl (cI, 600, .inl mr))]) (va_runV (As := [.int a1]) (rest := []) ⟨hx, hb, hml, hown, hts⟩ (mX6_signOf l D cI cO cJ h6 h6_ms h6_mv h6_mb h6_mc h6_mg h6_mt h6_ml h6_mr H.size thr ms mv svm mb mln mc mg mt ml mat wel mr rdm hsh a1 _ hx1) (cwV 1 hts gX6_isStrong_X6_signOf rfl rfl rfl (by decide +kernel) ⟨Nat.le_of_ble_eq_true rfl, Nat.le_of_ble_eq_true rfl⟩) (pw_preV hK hN (pw_sub hP [0, 1, 2, 3, 4, 5, 6, 7, 8] rfl) (pw_subD hD [0, 1, 2, 3, 4, 5, 6, 7, 8] (by decide) rfl) (ci := 6) (q0 := 0) rfl rfl) rfl rfl hl.1 rfl (lv_room (Nat.le_of_ble_eq_true rfl)) dX6_isStrong_2 ⟨Nat.zero_le _, Nat.zero_le _⟩) hP hD hS hA [0, 1, 2, 3, 4, 5, 6, 7, 8] [] [0, 1, 2, 3, 4, 5, 6, 7, 8] rfl rfl (by decide) (by decide) (by decide) rfl (fun H locs hP hD hS => ?_)
  refine lv_istore_n (lv' := [(2, .int x1), (0, .ref h6), (1, .int a1)]) hx hb dX6_isStrong_5 rfl hl (by decide) rfl (fun ls hl => ?_)
  refine lv_iload_n hx hb dX6_isStrong_6 rfl (lv_at hl 0 rfl) ?_
  refine lv_iconst (v := (-1)) hx hb dX6_isStrong_7 (by decide) ?_
  refine lv_icmp_eq (tgt := 43) hx hb dX6_isStrong_8 (by decide) (fun cq => ?_) (fun cq => ?_)
  · replace h := ifp cq h
    refine lv_iconst (v := 0) hx hb dX6_isStrong_43 (by decide) ?_
    cases h
    exact pw_zret hx hb hr hlocks hAe (by decide) hQ hP hD hS dX6_isStrong_44
  · replace h := ifn cq h
    refine lv_bipush (v := 100) hx hb dX6_isStrong_11 (by decide) ?_
    refine lv_aload_n hx hb dX6_isStrong_13 rfl (lv_at hl 1 rfl) ?_
    refine va_get (D := D) (ci := 6) (v := .ref h6_mc) (C := RX6) (T := TX6) (N := 15) hx hb hts iX6 hown hK hP 0 rfl rfl 6 (by decide) (hts (.fieldLink RX6 19 "HiddenPeriodsModel" "counts" "[I") (by decide +kernel)) (fun _ h9 => h9) rfl dX6_isStrong_14 ?_
    refine lv_iconst (v := 4) hx hb dX6_isStrong_17 (by decide) ?_
    refine lv_iload_n hx hb dX6_isStrong_18 rfl (lv_at hl 2 rfl) ?_
    refine lv_imul hx hb dX6_isStrong_19 ?_
    refine lv_iload_n hx hb dX6_isStrong_20 rfl (lv_at hl 0 rfl) ?_
    refine lv_iadd hx hb dX6_isStrong_21 ?_
    obtain ⟨g2, h⟩ := gdn h
    refine va_iald hx hb hK hP 4 0 rfl rfl g2 dX6_isStrong_22 ?_
    refine lv_imul hx hb dX6_isStrong_23 ?_
    refine lv_aload_n hx hb dX6_isStrong_24 rfl (lv_at hl 1 rfl) ?_
    refine va_get (D := D) (ci := 6) (v := .ref h6_ms) (C := RX6) (T := TX6) (N := 15) hx hb hts iX6 hown hK hP 0 rfl rfl 1 (by decide) (hts (.fieldLink RX6 7 "HiddenPeriodsModel" "s" "[I") (by decide +kernel)) (fun _ h9 => h9) rfl dX6_isStrong_25 ?_
    refine lv_iconst (v := 3) hx hb dX6_isStrong_28 (by decide) ?_
    obtain ⟨g3, h⟩ := gdn h
    refine va_iald hx hb hK hP 1 0 rfl rfl g3 dX6_isStrong_29 ?_
    refine lv_aload_n hx hb dX6_isStrong_30 rfl (lv_at hl 1 rfl) ?_
    refine lv_iload_n hx hb dX6_isStrong_31 rfl (lv_at hl 2 rfl) ?_
    obtain ⟨x4, hx4, h⟩ := bnd h
    refine pw_goi (wc := [(h6, .inr (6, [.int thr, .ref h6_ms, .ref h6_mv, .int svm, .ref h6_mb, .int mln, .ref h6_mc, .ref h6_mg, .ref h6_mt, .ref h6_ml, .int mat, .int wel, .ref h6_mr, .int rdm, .long hsh])), (h6_ms, .inl (cI, 253, .inl ms)), (h6_mv, .inl (cI, 1518, .inl mv)), (h6_mb, .inl (cI, 60, .inl mb)), (h6_mc, .inl (cI, 160, .inl mc)), (h6_mg, .inl (cI, 160, .inl mg)), (h6_mt, .inl (cI, 240, .inl mt)), (h6_ml, .inl (cI, 240, .inl ml)), (h6_mr, .inl (cI, 600, .inl mr))]) (w1 := [(h6, .inr (6, [.int thr, .ref h6_ms, .ref h6_mv, .int svm, .ref h6_mb, .int mln, .ref h6_mc, .ref h6_mg, .ref h6_mt, .ref h6_ml, .int mat, .int wel, .ref h6_mr, .int rdm, .long hsh])), (h6_ms, .inl (cI, 253, .inl ms)), (h6_mv, .inl (cI, 1518, .inl mv)), (h6_mb, .inl (cI, 60, .inl mb)), (h6_mc, .inl (cI, 160, .inl mc)), (h6_mg, .inl (cI, 160, .inl mg)), (h6_mt, .inl (cI, 240, .inl mt)), (h6_ml, .inl (cI, 240, .inl ml)), (h6_mr, .inl (cI, 600, .inl mr))]) (w2 := [(h6, .inr (6, [.int thr, .ref h6_ms, .ref h6_mv, .int svm, .ref h6_mb, .int mln, .ref h6_mc, .ref h6_mg, .ref h6_mt, .ref h6_ml, .int mat, .int wel, .ref h6_mr, .int rdm, .long hsh])), (h6_ms, .inl (cI, 253, .inl ms)), (h6_mv, .inl (cI, 1518, .inl mv)), (h6_mb, .inl (cI, 60, .inl mb)), (h6_mc, .inl (cI, 160, .inl mc)), (h6_mg, .inl (cI, 160, .inl mg)), (h6_mt, .inl (cI, 240, .inl mt)), (h6_ml, .inl (cI, 240, .inl ml)), (h6_mr, .inl (cI, 600, .inl mr))]) (va_runV (As := [.int a1]) (rest := [.int (ms (3 : Int32).toNatClampNeg), .int (100 * (mc (((4 * a1) + x1)).toNatClampNeg))]) ⟨hx, hb, hml, hown, hts⟩ (mX6_placesOf l D cI cO cJ h6 h6_ms h6_mv h6_mb h6_mc h6_mg h6_mt h6_ml h6_mr H.size thr ms mv svm mb mln mc mg mt ml mat wel mr rdm hsh a1 _ hx4) (cwV 1 hts gX6_isStrong_X6_placesOf rfl rfl rfl (by decide +kernel) ⟨Nat.le_of_ble_eq_true rfl, Nat.le_of_ble_eq_true rfl⟩) (pw_preV hK hN (pw_sub hP [0, 1, 2, 3, 4, 5, 6, 7, 8] rfl) (pw_subD hD [0, 1, 2, 3, 4, 5, 6, 7, 8] (by decide) rfl) (ci := 6) (q0 := 0) rfl rfl) rfl rfl hl.1 rfl (lv_room (Nat.le_of_ble_eq_true rfl)) dX6_isStrong_32 ⟨Nat.zero_le _, Nat.zero_le _⟩) hP hD hS hA [0, 1, 2, 3, 4, 5, 6, 7, 8] [] [0, 1, 2, 3, 4, 5, 6, 7, 8] rfl rfl (by decide) (by decide) (by decide) rfl (fun H locs hP hD hS => ?_)
    refine lv_imul hx hb dX6_isStrong_35 ?_
    refine lv_icmp_lt (tgt := 43) hx hb dX6_isStrong_36 (by decide) (fun cq => ?_) (fun cq => ?_)
    · replace h := ifp cq h
      refine lv_iconst (v := 0) hx hb dX6_isStrong_43 (by decide) ?_
      cases h
      exact pw_zret hx hb hr hlocks hAe (by decide) hQ hP hD hS dX6_isStrong_44
    · replace h := ifn cq h
      refine lv_iconst (v := 1) hx hb dX6_isStrong_39 (by decide) ?_
      refine lv_goto (tgt := 44) hx hb dX6_isStrong_40 (by decide) ?_
      cases h
      exact pw_zret hx hb hr hlocks hAe (by decide) hQ hP hD hS dX6_isStrong_44
def fX6_explained_L15 (a1 : Int32) (x1 : Nat → Int32) : Nat → Int32 → Int32 → Option Int32
  | 0, _, _ => none
  | n + 1, v5_15, v6_15 =>
    (fX6_classesOf a1).bind fun x2 =>
    if x2 ≤ v6_15 then
    some v5_15
    else
    (fX6_signOf x1 v6_15).bind fun x3 =>
    if x3 = (-1) then
    fX6_explained_L15 a1 x1 n (v5_15 + 0) (v6_15 + 1)
    else
    (fX6_signOf x1 v6_15).bind fun x4 =>
    if oob ((4 * v6_15) + x4) 160 then none else
    fX6_explained_L15 a1 x1 n (v5_15 + (x1 (((4 * v6_15) + x4)).toNatClampNeg)) (v6_15 + 1)
def fX6_explained (ms : Nat → Int32) (mc : Nat → Int32) (a1 : Int32) (a2 : Int32) (a3 : Int32) (a4 : Int32) : Option (Int32 × (Nat → Int32)) :=
  (fX6_lays ms mc a1 a2 a3 a4).bind fun x1 =>
  (fX6_explained_L15 a1 x1 FU 0 0).bind fun x6 =>
  some (x6, x1)
abbrev rmX6_explained : Room := { frames := 2, cells := 0, slots := 0, locals := 47 }
set_option maxHeartbeats 4000000 in
set_option maxRecDepth 100000 in
theorem mX6_explained (l : Launch) (D : va_G) (cI cO cJ : ClassId) (h6 h6_ms h6_mv h6_mb h6_mc h6_mg h6_mt h6_ml h6_mr : Nat) (sz : Nat) (thr : Int32) (ms : Nat → Int32) (mv : Nat → Int32) (svm : Int32) (mb : Nat → Int32) (mln : Int32) (mc : Nat → Int32) (mg : Nat → Int32) (mt : Nat → Int32) (ml : Nat → Int32) (mat : Int32) (wel : Int32) (mr : Nat → Int32) (rdm : Int32) (hsh : Int64) (a1 : Int32) (a2 : Int32) (a3 : Int32) (a4 : Int32) (z : Int32 × (Nat → Int32)) (h : fX6_explained ms mc a1 a2 a3 a4 = some z) : Met l yX6_explained wsX6_explained rmX6_explained (pw_pre D (tyL cI cO cJ) [.ref h6, .int a1, .int a2, .int a3, .int a4] [(h6, .inr (6, [.int thr, .ref h6_ms, .ref h6_mv, .int svm, .ref h6_mb, .int mln, .ref h6_mc, .ref h6_mg, .ref h6_mt, .ref h6_ml, .int mat, .int wel, .ref h6_mr, .int rdm, .long hsh])), (h6_ms, .inl (cI, 253, .inl ms)), (h6_mv, .inl (cI, 1518, .inl mv)), (h6_mb, .inl (cI, 60, .inl mb)), (h6_mc, .inl (cI, 160, .inl mc)), (h6_mg, .inl (cI, 160, .inl mg)), (h6_mt, .inl (cI, 240, .inl mt)), (h6_ml, .inl (cI, 240, .inl ml)), (h6_mr, .inl (cI, 600, .inl mr))] sz) (pw_i D [(h6, .inr (6, [.int thr, .ref h6_ms, .ref h6_mv, .int svm, .ref h6_mb, .int mln, .ref h6_mc, .ref h6_mg, .ref h6_mt, .ref h6_ml, .int mat, .int wel, .ref h6_mr, .int rdm, .long hsh])), (h6_ms, .inl (cI, 253, .inl ms)), (h6_mv, .inl (cI, 1518, .inl mv)), (h6_mb, .inl (cI, 60, .inl mb)), (h6_mc, .inl (cI, 160, .inl mc)), (h6_mg, .inl (cI, 160, .inl mg)), (h6_mt, .inl (cI, 240, .inl mt)), (h6_ml, .inl (cI, 240, .inl ml)), (h6_mr, .inl (cI, 600, .inl mr))] [(h6, .inr (6, [.int thr, .ref h6_ms, .ref h6_mv, .int svm, .ref h6_mb, .int mln, .ref h6_mc, .ref h6_mg, .ref h6_mt, .ref h6_ml, .int mat, .int wel, .ref h6_mr, .int rdm, .long hsh])), (h6_ms, .inl (cI, 253, .inl ms)), (h6_mv, .inl (cI, 1518, .inl mv)), (h6_mb, .inl (cI, 60, .inl mb)), (h6_mc, .inl (cI, 160, .inl z.2)), (h6_mg, .inl (cI, 160, .inl mg)), (h6_mt, .inl (cI, 240, .inl mt)), (h6_ml, .inl (cI, 240, .inl ml)), (h6_mr, .inl (cI, 600, .inl mr))] z.1 sz) 0 0 (va_A [(h6, .inr (6, [.int thr, .ref h6_ms, .ref h6_mv, .int svm, .ref h6_mb, .int mln, .ref h6_mc, .ref h6_mg, .ref h6_mt, .ref h6_ml, .int mat, .int wel, .ref h6_mr, .int rdm, .long hsh])), (h6_ms, .inl (cI, 253, .inl ms)), (h6_mv, .inl (cI, 1518, .inl mv)), (h6_mb, .inl (cI, 60, .inl mb)), (h6_mc, .inl (cI, 160, .inl mc)), (h6_mg, .inl (cI, 160, .inl mg)), (h6_mt, .inl (cI, 240, .inl mt)), (h6_ml, .inl (cI, 240, .inl ml)), (h6_mr, .inl (cI, 600, .inl mr))] sz) := by
  refine pw_of (Qc := fun sz => pw_i D [(h6, .inr (6, [.int thr, .ref h6_ms, .ref h6_mv, .int svm, .ref h6_mb, .int mln, .ref h6_mc, .ref h6_mg, .ref h6_mt, .ref h6_ml, .int mat, .int wel, .ref h6_mr, .int rdm, .long hsh])), (h6_ms, .inl (cI, 253, .inl ms)), (h6_mv, .inl (cI, 1518, .inl mv)), (h6_mb, .inl (cI, 60, .inl mb)), (h6_mc, .inl (cI, 160, .inl mc)), (h6_mg, .inl (cI, 160, .inl mg)), (h6_mt, .inl (cI, 240, .inl mt)), (h6_ml, .inl (cI, 240, .inl ml)), (h6_mr, .inl (cI, 600, .inl mr))] [(h6, .inr (6, [.int thr, .ref h6_ms, .ref h6_mv, .int svm, .ref h6_mb, .int mln, .ref h6_mc, .ref h6_mg, .ref h6_mt, .ref h6_ml, .int mat, .int wel, .ref h6_mr, .int rdm, .long hsh])), (h6_ms, .inl (cI, 253, .inl ms)), (h6_mv, .inl (cI, 1518, .inl mv)), (h6_mb, .inl (cI, 60, .inl mb)), (h6_mc, .inl (cI, 160, .inl z.2)), (h6_mg, .inl (cI, 160, .inl mg)), (h6_mt, .inl (cI, 240, .inl mt)), (h6_ml, .inl (cI, 240, .inl ml)), (h6_mr, .inl (cI, 600, .inl mr))] z.1 sz) (cc := cX6_explained) (maxL := 7) (ret := (some .int)) (by decide) rfl (Nat.le_of_ble_eq_true rfl) ?_
  intro p e s m args below meth c A Q H ls hx hb hml hr hts hown hlocks hAe hQ hK hN hA hP hD hS hl
  have hown : s.vm.findClass RX6 = some m.cls := hown
  have hl : lv_has ls 7 [(0, .ref h6), (1, .int a1), (2, .int a2), (3, .int a3), (4, .int a4)] := hl
  have hP : va_P D vwCl ([(h6, .inr (6, [.int thr, .ref h6_ms, .ref h6_mv, .int svm, .ref h6_mb, .int mln, .ref h6_mc, .ref h6_mg, .ref h6_mt, .ref h6_ml, .int mat, .int wel, .ref h6_mr, .int rdm, .long hsh])), (h6_ms, .inl (cI, 253, .inl ms)), (h6_mv, .inl (cI, 1518, .inl mv)), (h6_mb, .inl (cI, 60, .inl mb)), (h6_mc, .inl (cI, 160, .inl mc)), (h6_mg, .inl (cI, 160, .inl mg)), (h6_mt, .inl (cI, 240, .inl mt)), (h6_ml, .inl (cI, 240, .inl ml)), (h6_mr, .inl (cI, 600, .inl mr))] ++ []) H := hP
  have hD : va_D A ([(h6, .inr (6, [.int thr, .ref h6_ms, .ref h6_mv, .int svm, .ref h6_mb, .int mln, .ref h6_mc, .ref h6_mg, .ref h6_mt, .ref h6_ml, .int mat, .int wel, .ref h6_mr, .int rdm, .long hsh])), (h6_ms, .inl (cI, 253, .inl ms)), (h6_mv, .inl (cI, 1518, .inl mv)), (h6_mb, .inl (cI, 60, .inl mb)), (h6_mc, .inl (cI, 160, .inl mc)), (h6_mg, .inl (cI, 160, .inl mg)), (h6_mt, .inl (cI, 240, .inl mt)), (h6_ml, .inl (cI, 240, .inl ml)), (h6_mr, .inl (cI, 600, .inl mr))] ++ []) := hD
  have iX6 : ∀ w ∈ u_ws RX6 TX6 15, w ∈ wsX6_explained := fun _ h => List.mem_cons_of_mem _ (List.mem_append_right _ h)
  unfold fX6_explained at h
  refine lv_aload_n hx hb dX6_explained_0 rfl (lv_at hl 0 rfl) ?_
  refine lv_iload_n hx hb dX6_explained_1 rfl (lv_at hl 1 rfl) ?_
  refine lv_iload_n hx hb dX6_explained_2 rfl (lv_at hl 2 rfl) ?_
  refine lv_iload_n hx hb dX6_explained_3 rfl (lv_at hl 3 rfl) ?_
  refine lv_iload hx hb dX6_explained_4 (lv_at hl 4 rfl) ?_
  obtain ⟨x1, hx1, h⟩ := bnd h
  refine pw_gov (wc := [(h6, .inr (6, [.int thr, .ref h6_ms, .ref h6_mv, .int svm, .ref h6_mb, .int mln, .ref h6_mc, .ref h6_mg, .ref h6_mt, .ref h6_ml, .int mat, .int wel, .ref h6_mr, .int rdm, .long hsh])), (h6_ms, .inl (cI, 253, .inl ms)), (h6_mv, .inl (cI, 1518, .inl mv)), (h6_mb, .inl (cI, 60, .inl mb)), (h6_mc, .inl (cI, 160, .inl mc)), (h6_mg, .inl (cI, 160, .inl mg)), (h6_mt, .inl (cI, 240, .inl mt)), (h6_ml, .inl (cI, 240, .inl ml)), (h6_mr, .inl (cI, 600, .inl mr))]) (w1 := [(h6, .inr (6, [.int thr, .ref h6_ms, .ref h6_mv, .int svm, .ref h6_mb, .int mln, .ref h6_mc, .ref h6_mg, .ref h6_mt, .ref h6_ml, .int mat, .int wel, .ref h6_mr, .int rdm, .long hsh])), (h6_ms, .inl (cI, 253, .inl ms)), (h6_mv, .inl (cI, 1518, .inl mv)), (h6_mb, .inl (cI, 60, .inl mb)), (h6_mc, .inl (cI, 160, .inl x1)), (h6_mg, .inl (cI, 160, .inl mg)), (h6_mt, .inl (cI, 240, .inl mt)), (h6_ml, .inl (cI, 240, .inl ml)), (h6_mr, .inl (cI, 600, .inl mr))]) (w2 := [(h6, .inr (6, [.int thr, .ref h6_ms, .ref h6_mv, .int svm, .ref h6_mb, .int mln, .ref h6_mc, .ref h6_mg, .ref h6_mt, .ref h6_ml, .int mat, .int wel, .ref h6_mr, .int rdm, .long hsh])), (h6_ms, .inl (cI, 253, .inl ms)), (h6_mv, .inl (cI, 1518, .inl mv)), (h6_mb, .inl (cI, 60, .inl mb)), (h6_mc, .inl (cI, 160, .inl x1)), (h6_mg, .inl (cI, 160, .inl mg)), (h6_mt, .inl (cI, 240, .inl mt)), (h6_ml, .inl (cI, 240, .inl ml)), (h6_mr, .inl (cI, 600, .inl mr))]) (va_runV (As := [.int a1, .int a2, .int a3, .int a4]) (rest := []) ⟨hx, hb, hml, hown, hts⟩ (mX6_lays l D cI cO cJ h6 h6_ms h6_mv h6_mb h6_mc h6_mg h6_mt h6_ml h6_mr H.size thr ms mv svm mb mln mc mg mt ml mat wel mr rdm hsh a1 a2 a3 a4 _ hx1) (cwV 4 hts gX6_explained_X6_lays rfl rfl rfl (by decide +kernel) ⟨Nat.le_of_ble_eq_true rfl, Nat.le_of_ble_eq_true rfl⟩) (pw_preV hK hN (pw_sub hP [0, 1, 2, 3, 4, 5, 6, 7, 8] rfl) (pw_subD hD [0, 1, 2, 3, 4, 5, 6, 7, 8] (by decide) rfl) (ci := 6) (q0 := 0) rfl rfl) rfl rfl hl.1 rfl (lv_room (Nat.le_of_ble_eq_true rfl)) dX6_explained_6 ⟨Nat.zero_le _, Nat.zero_le _⟩) hP hD hS hA [0, 1, 2, 3, 4, 5, 6, 7, 8] [] [0, 1, 2, 3, 4, 5, 6, 7, 8] rfl rfl (by decide) (by decide) (by decide) rfl (fun H locs hP hD hS => ?_)
  refine lv_iconst (v := 0) hx hb dX6_explained_9 (by decide) ?_
  refine lv_istore (lv' := [(5, .int 0), (0, .ref h6), (1, .int a1), (2, .int a2), (3, .int a3), (4, .int a4)]) hx hb dX6_explained_10 hl (by decide) rfl (fun ls hl => ?_)
  refine lv_iconst (v := 0) hx hb dX6_explained_12 (by decide) ?_
  refine lv_istore (lv' := [(6, .int 0), (5, .int 0), (0, .ref h6), (1, .int a1), (2, .int a2), (3, .int a3), (4, .int a4)]) hx hb dX6_explained_13 hl (by decide) rfl (fun ls hl => ?_)
  have L15 : ∀ (n : Nat) (v5_15 : Int32) (v6_15 : Int32) (o15_1 : Int32) (H : Heap) (locs : List Loc) (ls : Array Slot), fX6_explained_L15 a1 x1 n v5_15 v6_15 = some o15_1 → va_P D vwCl ([(h6, .inr (6, [.int thr, .ref h6_ms, .ref h6_mv, .int svm, .ref h6_mb, .int mln, .ref h6_mc, .ref h6_mg, .ref h6_mt, .ref h6_ml, .int mat, .int wel, .ref h6_mr, .int rdm, .long hsh])), (h6_ms, .inl (cI, 253, .inl ms)), (h6_mv, .inl (cI, 1518, .inl mv)), (h6_mb, .inl (cI, 60, .inl mb)), (h6_mc, .inl (cI, 160, .inl x1)), (h6_mg, .inl (cI, 160, .inl mg)), (h6_mt, .inl (cI, 240, .inl mt)), (h6_ml, .inl (cI, 240, .inl ml)), (h6_mr, .inl (cI, 600, .inl mr))] ++ []) H → va_D A ([(h6, .inr (6, [.int thr, .ref h6_ms, .ref h6_mv, .int svm, .ref h6_mb, .int mln, .ref h6_mc, .ref h6_mg, .ref h6_mt, .ref h6_ml, .int mat, .int wel, .ref h6_mr, .int rdm, .long hsh])), (h6_ms, .inl (cI, 253, .inl ms)), (h6_mv, .inl (cI, 1518, .inl mv)), (h6_mb, .inl (cI, 60, .inl mb)), (h6_mc, .inl (cI, 160, .inl x1)), (h6_mg, .inl (cI, 160, .inl mg)), (h6_mt, .inl (cI, 240, .inl mt)), (h6_ml, .inl (cI, 240, .inl ml)), (h6_mr, .inl (cI, 600, .inl mr))] ++ []) → va_S A s.heap H locs → lv_has ls 7 [(0, .ref h6), (1, .int a1), (5, .int v5_15), (6, .int v6_15)] → (∀ (H : Heap) (locs : List Loc) (ls : Array Slot), va_P D vwCl ([(h6, .inr (6, [.int thr, .ref h6_ms, .ref h6_mv, .int svm, .ref h6_mb, .int mln, .ref h6_mc, .ref h6_mg, .ref h6_mt, .ref h6_ml, .int mat, .int wel, .ref h6_mr, .int rdm, .long hsh])), (h6_ms, .inl (cI, 253, .inl ms)), (h6_mv, .inl (cI, 1518, .inl mv)), (h6_mb, .inl (cI, 60, .inl mb)), (h6_mc, .inl (cI, 160, .inl x1)), (h6_mg, .inl (cI, 160, .inl mg)), (h6_mt, .inl (cI, 240, .inl mt)), (h6_ml, .inl (cI, 240, .inl ml)), (h6_mr, .inl (cI, 600, .inl mr))] ++ []) H → va_D A ([(h6, .inr (6, [.int thr, .ref h6_ms, .ref h6_mv, .int svm, .ref h6_mb, .int mln, .ref h6_mc, .ref h6_mg, .ref h6_mt, .ref h6_ml, .int mat, .int wel, .ref h6_mr, .int rdm, .long hsh])), (h6_ms, .inl (cI, 253, .inl ms)), (h6_mv, .inl (cI, 1518, .inl mv)), (h6_mb, .inl (cI, 60, .inl mb)), (h6_mc, .inl (cI, 160, .inl x1)), (h6_mg, .inl (cI, 160, .inl mg)), (h6_mt, .inl (cI, 240, .inl mt)), (h6_ml, .inl (cI, 240, .inl ml)), (h6_mr, .inl (cI, 600, .inl mr))] ++ []) → va_S A s.heap H locs → lv_has ls 7 [(5, .int o15_1)] → W p l e rmX6_explained s m args below meth c H locs 0 0 Q (F0 m 65 ls [])) → W p l e rmX6_explained s m args below meth c H locs 0 0 Q (F0 m 15 ls []) := by
    intro n
    induction n with
    | zero =>
      intro v5_15 v6_15 o15_1 H locs ls h
      rw [fX6_explained_L15] at h
      cases h
    | succ n ih =>
      intro v5_15 v6_15 o15_1 H locs ls h hP hD hS hl K
      rw [fX6_explained_L15] at h
      refine lv_iload hx hb dX6_explained_15 (lv_at hl 3 rfl) ?_
      refine lv_iload_n hx hb dX6_explained_17 rfl (lv_at hl 1 rfl) ?_
      obtain ⟨x2, hx2, h⟩ := bnd h
      refine pw_go0 (va_runS (As := [.int a1]) (rest := [.int v6_15]) ⟨hx, hb, hml, hown, hts⟩ (mX6_classesOf l D cI cO cJ H.size a1 _ hx2) (va_cwS 1 hts gX6_explained_X6_classesOf rfl rfl rfl (by decide +kernel) ⟨Nat.le_of_ble_eq_true rfl, Nat.le_of_ble_eq_true rfl⟩) (pw_preS hK hN pw_nilP (pw_nilD (A := A))) rfl rfl hl.1 rfl (lv_room (Nat.le_of_ble_eq_true rfl)) dX6_explained_18 ⟨Nat.zero_le _, Nat.zero_le _⟩) hP hS hA (fun H locs hP hS => ?_)
      refine lv_icmp_ge (tgt := 65) hx hb dX6_explained_21 (by decide) (fun cq => ?_) (fun cq => ?_)
      · replace h := ifp cq h
        cases h
        exact K _ _ _ hP hD hS (lv_sub hl [2] rfl)
      · replace h := ifn cq h
        refine lv_iload hx hb dX6_explained_24 (lv_at hl 2 rfl) ?_
        refine lv_aload_n hx hb dX6_explained_26 rfl (lv_at hl 0 rfl) ?_
        refine lv_iload hx hb dX6_explained_27 (lv_at hl 3 rfl) ?_
        obtain ⟨x3, hx3, h⟩ := bnd h
        refine pw_goi (wc := [(h6, .inr (6, [.int thr, .ref h6_ms, .ref h6_mv, .int svm, .ref h6_mb, .int mln, .ref h6_mc, .ref h6_mg, .ref h6_mt, .ref h6_ml, .int mat, .int wel, .ref h6_mr, .int rdm, .long hsh])), (h6_ms, .inl (cI, 253, .inl ms)), (h6_mv, .inl (cI, 1518, .inl mv)), (h6_mb, .inl (cI, 60, .inl mb)), (h6_mc, .inl (cI, 160, .inl x1)), (h6_mg, .inl (cI, 160, .inl mg)), (h6_mt, .inl (cI, 240, .inl mt)), (h6_ml, .inl (cI, 240, .inl ml)), (h6_mr, .inl (cI, 600, .inl mr))]) (w1 := [(h6, .inr (6, [.int thr, .ref h6_ms, .ref h6_mv, .int svm, .ref h6_mb, .int mln, .ref h6_mc, .ref h6_mg, .ref h6_mt, .ref h6_ml, .int mat, .int wel, .ref h6_mr, .int rdm, .long hsh])), (h6_ms, .inl (cI, 253, .inl ms)), (h6_mv, .inl (cI, 1518, .inl mv)), (h6_mb, .inl (cI, 60, .inl mb)), (h6_mc, .inl (cI, 160, .inl x1)), (h6_mg, .inl (cI, 160, .inl mg)), (h6_mt, .inl (cI, 240, .inl mt)), (h6_ml, .inl (cI, 240, .inl ml)), (h6_mr, .inl (cI, 600, .inl mr))]) (w2 := [(h6, .inr (6, [.int thr, .ref h6_ms, .ref h6_mv, .int svm, .ref h6_mb, .int mln, .ref h6_mc, .ref h6_mg, .ref h6_mt, .ref h6_ml, .int mat, .int wel, .ref h6_mr, .int rdm, .long hsh])), (h6_ms, .inl (cI, 253, .inl ms)), (h6_mv, .inl (cI, 1518, .inl mv)), (h6_mb, .inl (cI, 60, .inl mb)), (h6_mc, .inl (cI, 160, .inl x1)), (h6_mg, .inl (cI, 160, .inl mg)), (h6_mt, .inl (cI, 240, .inl mt)), (h6_ml, .inl (cI, 240, .inl ml)), (h6_mr, .inl (cI, 600, .inl mr))]) (va_runV (As := [.int v6_15]) (rest := [.int v5_15]) ⟨hx, hb, hml, hown, hts⟩ (mX6_signOf l D cI cO cJ h6 h6_ms h6_mv h6_mb h6_mc h6_mg h6_mt h6_ml h6_mr H.size thr ms mv svm mb mln x1 mg mt ml mat wel mr rdm hsh v6_15 _ hx3) (cwV 1 hts gX6_explained_X6_signOf rfl rfl rfl (by decide +kernel) ⟨Nat.le_of_ble_eq_true rfl, Nat.le_of_ble_eq_true rfl⟩) (pw_preV hK hN (pw_sub hP [0, 1, 2, 3, 4, 5, 6, 7, 8] rfl) (pw_subD hD [0, 1, 2, 3, 4, 5, 6, 7, 8] (by decide) rfl) (ci := 6) (q0 := 0) rfl rfl) rfl rfl hl.1 rfl (lv_room (Nat.le_of_ble_eq_true rfl)) dX6_explained_29 ⟨Nat.zero_le _, Nat.zero_le _⟩) hP hD hS hA [0, 1, 2, 3, 4, 5, 6, 7, 8] [] [0, 1, 2, 3, 4, 5, 6, 7, 8] rfl rfl (by decide) (by decide) (by decide) rfl (fun H locs hP hD hS => ?_)
        refine lv_iconst (v := (-1)) hx hb dX6_explained_32 (by decide) ?_
        refine lv_icmp_ne (tgt := 40) hx hb dX6_explained_33 (by decide) (fun cq => ?_) (fun cq => ?_)
        · replace h := ifn cq h
          refine lv_aload_n hx hb dX6_explained_40 rfl (lv_at hl 0 rfl) ?_
          refine va_get (D := D) (ci := 6) (v := .ref h6_mc) (C := RX6) (T := TX6) (N := 15) hx hb hts iX6 hown hK hP 0 rfl rfl 6 (by decide) (hts (.fieldLink RX6 19 "HiddenPeriodsModel" "counts" "[I") (by decide +kernel)) (fun _ h9 => h9) rfl dX6_explained_41 ?_
          refine lv_iconst (v := 4) hx hb dX6_explained_44 (by decide) ?_
          refine lv_iload hx hb dX6_explained_45 (lv_at hl 3 rfl) ?_
          refine lv_imul hx hb dX6_explained_47 ?_
          refine lv_aload_n hx hb dX6_explained_48 rfl (lv_at hl 0 rfl) ?_
          refine lv_iload hx hb dX6_explained_49 (lv_at hl 3 rfl) ?_
          obtain ⟨x4, hx4, h⟩ := bnd h
          refine pw_goi (wc := [(h6, .inr (6, [.int thr, .ref h6_ms, .ref h6_mv, .int svm, .ref h6_mb, .int mln, .ref h6_mc, .ref h6_mg, .ref h6_mt, .ref h6_ml, .int mat, .int wel, .ref h6_mr, .int rdm, .long hsh])), (h6_ms, .inl (cI, 253, .inl ms)), (h6_mv, .inl (cI, 1518, .inl mv)), (h6_mb, .inl (cI, 60, .inl mb)), (h6_mc, .inl (cI, 160, .inl x1)), (h6_mg, .inl (cI, 160, .inl mg)), (h6_mt, .inl (cI, 240, .inl mt)), (h6_ml, .inl (cI, 240, .inl ml)), (h6_mr, .inl (cI, 600, .inl mr))]) (w1 := [(h6, .inr (6, [.int thr, .ref h6_ms, .ref h6_mv, .int svm, .ref h6_mb, .int mln, .ref h6_mc, .ref h6_mg, .ref h6_mt, .ref h6_ml, .int mat, .int wel, .ref h6_mr, .int rdm, .long hsh])), (h6_ms, .inl (cI, 253, .inl ms)), (h6_mv, .inl (cI, 1518, .inl mv)), (h6_mb, .inl (cI, 60, .inl mb)), (h6_mc, .inl (cI, 160, .inl x1)), (h6_mg, .inl (cI, 160, .inl mg)), (h6_mt, .inl (cI, 240, .inl mt)), (h6_ml, .inl (cI, 240, .inl ml)), (h6_mr, .inl (cI, 600, .inl mr))]) (w2 := [(h6, .inr (6, [.int thr, .ref h6_ms, .ref h6_mv, .int svm, .ref h6_mb, .int mln, .ref h6_mc, .ref h6_mg, .ref h6_mt, .ref h6_ml, .int mat, .int wel, .ref h6_mr, .int rdm, .long hsh])), (h6_ms, .inl (cI, 253, .inl ms)), (h6_mv, .inl (cI, 1518, .inl mv)), (h6_mb, .inl (cI, 60, .inl mb)), (h6_mc, .inl (cI, 160, .inl x1)), (h6_mg, .inl (cI, 160, .inl mg)), (h6_mt, .inl (cI, 240, .inl mt)), (h6_ml, .inl (cI, 240, .inl ml)), (h6_mr, .inl (cI, 600, .inl mr))]) (va_runV (As := [.int v6_15]) (rest := [.int (4 * v6_15), .ref h6_mc, .int v5_15]) ⟨hx, hb, hml, hown, hts⟩ (mX6_signOf l D cI cO cJ h6 h6_ms h6_mv h6_mb h6_mc h6_mg h6_mt h6_ml h6_mr H.size thr ms mv svm mb mln x1 mg mt ml mat wel mr rdm hsh v6_15 _ hx4) (cwV 1 hts gX6_explained_X6_signOf rfl rfl rfl (by decide +kernel) ⟨Nat.le_of_ble_eq_true rfl, Nat.le_of_ble_eq_true rfl⟩) (pw_preV hK hN (pw_sub hP [0, 1, 2, 3, 4, 5, 6, 7, 8] rfl) (pw_subD hD [0, 1, 2, 3, 4, 5, 6, 7, 8] (by decide) rfl) (ci := 6) (q0 := 0) rfl rfl) rfl rfl hl.1 rfl (lv_room (Nat.le_of_ble_eq_true rfl)) dX6_explained_51 ⟨Nat.zero_le _, Nat.zero_le _⟩) hP hD hS hA [0, 1, 2, 3, 4, 5, 6, 7, 8] [] [0, 1, 2, 3, 4, 5, 6, 7, 8] rfl rfl (by decide) (by decide) (by decide) rfl (fun H locs hP hD hS => ?_)
          refine lv_iadd hx hb dX6_explained_54 ?_
          obtain ⟨g5, h⟩ := gdn h
          refine va_iald hx hb hK hP 4 0 rfl rfl g5 dX6_explained_55 ?_
          refine lv_iadd hx hb dX6_explained_56 ?_
          refine lv_istore (lv' := [(5, .int (v5_15 + (x1 (((4 * v6_15) + x4)).toNatClampNeg))), (0, .ref h6), (1, .int a1), (6, .int v6_15)]) hx hb dX6_explained_57 hl (by decide) rfl (fun ls hl => ?_)
          refine lv_iinc (v := (v6_15 + 1)) (lv' := [(6, .int (v6_15 + 1)), (5, .int (v5_15 + (x1 (((4 * v6_15) + x4)).toNatClampNeg))), (0, .ref h6), (1, .int a1)]) hx hb dX6_explained_59 hl (k := 3) rfl rfl (by decide) rfl (fun ls hl => ?_)
          refine lv_goto (tgt := 15) hx hb dX6_explained_62 (by decide) ?_
          exact ih _ _ _ _ _ _ h hP hD hS (lv_sub hl [2, 3, 1, 0] rfl) K
        · replace h := ifp cq h
          refine lv_iconst (v := 0) hx hb dX6_explained_36 (by decide) ?_
          refine lv_goto (tgt := 56) hx hb dX6_explained_37 (by decide) ?_
          refine lv_iadd hx hb dX6_explained_56 ?_
          refine lv_istore (lv' := [(5, .int (v5_15 + 0)), (0, .ref h6), (1, .int a1), (6, .int v6_15)]) hx hb dX6_explained_57 hl (by decide) rfl (fun ls hl => ?_)
          refine lv_iinc (v := (v6_15 + 1)) (lv' := [(6, .int (v6_15 + 1)), (5, .int (v5_15 + 0)), (0, .ref h6), (1, .int a1)]) hx hb dX6_explained_59 hl (k := 3) rfl rfl (by decide) rfl (fun ls hl => ?_)
          refine lv_goto (tgt := 15) hx hb dX6_explained_62 (by decide) ?_
          exact ih _ _ _ _ _ _ h hP hD hS (lv_sub hl [2, 3, 1, 0] rfl) K
  obtain ⟨x6, hx6, h⟩ := bnd h
  refine L15 FU _ _ _ _ _ _ hx6 hP hD hS (lv_sub hl [2, 3, 1, 0] rfl) (fun H locs ls hP hD hS hl => ?_)
  refine lv_iload hx hb dX6_explained_65 (lv_at hl 0 rfl) ?_
  cases h
  exact pw_iret hx hb hr hlocks hAe hQ hP hD hS dX6_explained_67
def fX6_explainedNow (ms : Nat → Int32) (mc : Nat → Int32) (a1 : Int32) (a2 : Int32) : Option (Int32 × (Nat → Int32)) :=
  (fX6_firstPlace ms).bind fun x1 =>
  (fX6_lastPlace ms).bind fun x2 =>
  (fX6_explained ms mc a1 a2 x1 x2).bind fun (x3_1, x3_2) =>
  some (x3_1, x3_2)
abbrev rmX6_explainedNow : Room := { frames := 3, cells := 0, slots := 0, locals := 73 }
set_option maxHeartbeats 4000000 in
set_option maxRecDepth 100000 in
theorem mX6_explainedNow (l : Launch) (D : va_G) (cI cO cJ : ClassId) (h6 h6_ms h6_mv h6_mb h6_mc h6_mg h6_mt h6_ml h6_mr : Nat) (sz : Nat) (thr : Int32) (ms : Nat → Int32) (mv : Nat → Int32) (svm : Int32) (mb : Nat → Int32) (mln : Int32) (mc : Nat → Int32) (mg : Nat → Int32) (mt : Nat → Int32) (ml : Nat → Int32) (mat : Int32) (wel : Int32) (mr : Nat → Int32) (rdm : Int32) (hsh : Int64) (a1 : Int32) (a2 : Int32) (z : Int32 × (Nat → Int32)) (h : fX6_explainedNow ms mc a1 a2 = some z) : Met l yX6_explainedNow wsX6_explainedNow rmX6_explainedNow (pw_pre D (tyL cI cO cJ) [.ref h6, .int a1, .int a2] [(h6, .inr (6, [.int thr, .ref h6_ms, .ref h6_mv, .int svm, .ref h6_mb, .int mln, .ref h6_mc, .ref h6_mg, .ref h6_mt, .ref h6_ml, .int mat, .int wel, .ref h6_mr, .int rdm, .long hsh])), (h6_ms, .inl (cI, 253, .inl ms)), (h6_mv, .inl (cI, 1518, .inl mv)), (h6_mb, .inl (cI, 60, .inl mb)), (h6_mc, .inl (cI, 160, .inl mc)), (h6_mg, .inl (cI, 160, .inl mg)), (h6_mt, .inl (cI, 240, .inl mt)), (h6_ml, .inl (cI, 240, .inl ml)), (h6_mr, .inl (cI, 600, .inl mr))] sz) (pw_i D [(h6, .inr (6, [.int thr, .ref h6_ms, .ref h6_mv, .int svm, .ref h6_mb, .int mln, .ref h6_mc, .ref h6_mg, .ref h6_mt, .ref h6_ml, .int mat, .int wel, .ref h6_mr, .int rdm, .long hsh])), (h6_ms, .inl (cI, 253, .inl ms)), (h6_mv, .inl (cI, 1518, .inl mv)), (h6_mb, .inl (cI, 60, .inl mb)), (h6_mc, .inl (cI, 160, .inl mc)), (h6_mg, .inl (cI, 160, .inl mg)), (h6_mt, .inl (cI, 240, .inl mt)), (h6_ml, .inl (cI, 240, .inl ml)), (h6_mr, .inl (cI, 600, .inl mr))] [(h6, .inr (6, [.int thr, .ref h6_ms, .ref h6_mv, .int svm, .ref h6_mb, .int mln, .ref h6_mc, .ref h6_mg, .ref h6_mt, .ref h6_ml, .int mat, .int wel, .ref h6_mr, .int rdm, .long hsh])), (h6_ms, .inl (cI, 253, .inl ms)), (h6_mv, .inl (cI, 1518, .inl mv)), (h6_mb, .inl (cI, 60, .inl mb)), (h6_mc, .inl (cI, 160, .inl z.2)), (h6_mg, .inl (cI, 160, .inl mg)), (h6_mt, .inl (cI, 240, .inl mt)), (h6_ml, .inl (cI, 240, .inl ml)), (h6_mr, .inl (cI, 600, .inl mr))] z.1 sz) 0 0 (va_A [(h6, .inr (6, [.int thr, .ref h6_ms, .ref h6_mv, .int svm, .ref h6_mb, .int mln, .ref h6_mc, .ref h6_mg, .ref h6_mt, .ref h6_ml, .int mat, .int wel, .ref h6_mr, .int rdm, .long hsh])), (h6_ms, .inl (cI, 253, .inl ms)), (h6_mv, .inl (cI, 1518, .inl mv)), (h6_mb, .inl (cI, 60, .inl mb)), (h6_mc, .inl (cI, 160, .inl mc)), (h6_mg, .inl (cI, 160, .inl mg)), (h6_mt, .inl (cI, 240, .inl mt)), (h6_ml, .inl (cI, 240, .inl ml)), (h6_mr, .inl (cI, 600, .inl mr))] sz) := by
  refine pw_of (Qc := fun sz => pw_i D [(h6, .inr (6, [.int thr, .ref h6_ms, .ref h6_mv, .int svm, .ref h6_mb, .int mln, .ref h6_mc, .ref h6_mg, .ref h6_mt, .ref h6_ml, .int mat, .int wel, .ref h6_mr, .int rdm, .long hsh])), (h6_ms, .inl (cI, 253, .inl ms)), (h6_mv, .inl (cI, 1518, .inl mv)), (h6_mb, .inl (cI, 60, .inl mb)), (h6_mc, .inl (cI, 160, .inl mc)), (h6_mg, .inl (cI, 160, .inl mg)), (h6_mt, .inl (cI, 240, .inl mt)), (h6_ml, .inl (cI, 240, .inl ml)), (h6_mr, .inl (cI, 600, .inl mr))] [(h6, .inr (6, [.int thr, .ref h6_ms, .ref h6_mv, .int svm, .ref h6_mb, .int mln, .ref h6_mc, .ref h6_mg, .ref h6_mt, .ref h6_ml, .int mat, .int wel, .ref h6_mr, .int rdm, .long hsh])), (h6_ms, .inl (cI, 253, .inl ms)), (h6_mv, .inl (cI, 1518, .inl mv)), (h6_mb, .inl (cI, 60, .inl mb)), (h6_mc, .inl (cI, 160, .inl z.2)), (h6_mg, .inl (cI, 160, .inl mg)), (h6_mt, .inl (cI, 240, .inl mt)), (h6_ml, .inl (cI, 240, .inl ml)), (h6_mr, .inl (cI, 600, .inl mr))] z.1 sz) (cc := cX6_explainedNow) (maxL := 3) (ret := (some .int)) (by decide) rfl (Nat.le_of_ble_eq_true rfl) ?_
  intro p e s m args below meth c A Q H ls hx hb hml hr hts hown hlocks hAe hQ hK hN hA hP hD hS hl
  have hown : s.vm.findClass RX6 = some m.cls := hown
  have hl : lv_has ls 3 [(0, .ref h6), (1, .int a1), (2, .int a2)] := hl
  have hP : va_P D vwCl ([(h6, .inr (6, [.int thr, .ref h6_ms, .ref h6_mv, .int svm, .ref h6_mb, .int mln, .ref h6_mc, .ref h6_mg, .ref h6_mt, .ref h6_ml, .int mat, .int wel, .ref h6_mr, .int rdm, .long hsh])), (h6_ms, .inl (cI, 253, .inl ms)), (h6_mv, .inl (cI, 1518, .inl mv)), (h6_mb, .inl (cI, 60, .inl mb)), (h6_mc, .inl (cI, 160, .inl mc)), (h6_mg, .inl (cI, 160, .inl mg)), (h6_mt, .inl (cI, 240, .inl mt)), (h6_ml, .inl (cI, 240, .inl ml)), (h6_mr, .inl (cI, 600, .inl mr))] ++ []) H := hP
  have hD : va_D A ([(h6, .inr (6, [.int thr, .ref h6_ms, .ref h6_mv, .int svm, .ref h6_mb, .int mln, .ref h6_mc, .ref h6_mg, .ref h6_mt, .ref h6_ml, .int mat, .int wel, .ref h6_mr, .int rdm, .long hsh])), (h6_ms, .inl (cI, 253, .inl ms)), (h6_mv, .inl (cI, 1518, .inl mv)), (h6_mb, .inl (cI, 60, .inl mb)), (h6_mc, .inl (cI, 160, .inl mc)), (h6_mg, .inl (cI, 160, .inl mg)), (h6_mt, .inl (cI, 240, .inl mt)), (h6_ml, .inl (cI, 240, .inl ml)), (h6_mr, .inl (cI, 600, .inl mr))] ++ []) := hD
  unfold fX6_explainedNow at h
  refine lv_aload_n hx hb dX6_explainedNow_0 rfl (lv_at hl 0 rfl) ?_
  refine lv_iload_n hx hb dX6_explainedNow_1 rfl (lv_at hl 1 rfl) ?_
  refine lv_iload_n hx hb dX6_explainedNow_2 rfl (lv_at hl 2 rfl) ?_
  refine lv_aload_n hx hb dX6_explainedNow_3 rfl (lv_at hl 0 rfl) ?_
  obtain ⟨x1, hx1, h⟩ := bnd h
  refine pw_goi (wc := [(h6, .inr (6, [.int thr, .ref h6_ms, .ref h6_mv, .int svm, .ref h6_mb, .int mln, .ref h6_mc, .ref h6_mg, .ref h6_mt, .ref h6_ml, .int mat, .int wel, .ref h6_mr, .int rdm, .long hsh])), (h6_ms, .inl (cI, 253, .inl ms)), (h6_mv, .inl (cI, 1518, .inl mv)), (h6_mb, .inl (cI, 60, .inl mb)), (h6_mc, .inl (cI, 160, .inl mc)), (h6_mg, .inl (cI, 160, .inl mg)), (h6_mt, .inl (cI, 240, .inl mt)), (h6_ml, .inl (cI, 240, .inl ml)), (h6_mr, .inl (cI, 600, .inl mr))]) (w1 := [(h6, .inr (6, [.int thr, .ref h6_ms, .ref h6_mv, .int svm, .ref h6_mb, .int mln, .ref h6_mc, .ref h6_mg, .ref h6_mt, .ref h6_ml, .int mat, .int wel, .ref h6_mr, .int rdm, .long hsh])), (h6_ms, .inl (cI, 253, .inl ms)), (h6_mv, .inl (cI, 1518, .inl mv)), (h6_mb, .inl (cI, 60, .inl mb)), (h6_mc, .inl (cI, 160, .inl mc)), (h6_mg, .inl (cI, 160, .inl mg)), (h6_mt, .inl (cI, 240, .inl mt)), (h6_ml, .inl (cI, 240, .inl ml)), (h6_mr, .inl (cI, 600, .inl mr))]) (w2 := [(h6, .inr (6, [.int thr, .ref h6_ms, .ref h6_mv, .int svm, .ref h6_mb, .int mln, .ref h6_mc, .ref h6_mg, .ref h6_mt, .ref h6_ml, .int mat, .int wel, .ref h6_mr, .int rdm, .long hsh])), (h6_ms, .inl (cI, 253, .inl ms)), (h6_mv, .inl (cI, 1518, .inl mv)), (h6_mb, .inl (cI, 60, .inl mb)), (h6_mc, .inl (cI, 160, .inl mc)), (h6_mg, .inl (cI, 160, .inl mg)), (h6_mt, .inl (cI, 240, .inl mt)), (h6_ml, .inl (cI, 240, .inl ml)), (h6_mr, .inl (cI, 600, .inl mr))]) (va_runV (As := []) (rest := [.int a2, .int a1, .ref h6]) ⟨hx, hb, hml, hown, hts⟩ (mX6_firstPlace l D cI cO cJ h6 h6_ms h6_mv h6_mb h6_mc h6_mg h6_mt h6_ml h6_mr H.size thr ms mv svm mb mln mc mg mt ml mat wel mr rdm hsh _ hx1) (cwV 0 hts gX6_explainedNow_X6_firstPlace rfl rfl rfl (by decide +kernel) ⟨Nat.le_of_ble_eq_true rfl, Nat.le_of_ble_eq_true rfl⟩) (pw_preV hK hN (pw_sub hP [0, 1, 2, 3, 4, 5, 6, 7, 8] rfl) (pw_subD hD [0, 1, 2, 3, 4, 5, 6, 7, 8] (by decide) rfl) (ci := 6) (q0 := 0) rfl rfl) rfl rfl hl.1 rfl (lv_room (Nat.le_of_ble_eq_true rfl)) dX6_explainedNow_4 ⟨Nat.zero_le _, Nat.zero_le _⟩) hP hD hS hA [0, 1, 2, 3, 4, 5, 6, 7, 8] [] [0, 1, 2, 3, 4, 5, 6, 7, 8] rfl rfl (by decide) (by decide) (by decide) rfl (fun H locs hP hD hS => ?_)
  refine lv_aload_n hx hb dX6_explainedNow_7 rfl (lv_at hl 0 rfl) ?_
  obtain ⟨x2, hx2, h⟩ := bnd h
  refine pw_goi (wc := [(h6, .inr (6, [.int thr, .ref h6_ms, .ref h6_mv, .int svm, .ref h6_mb, .int mln, .ref h6_mc, .ref h6_mg, .ref h6_mt, .ref h6_ml, .int mat, .int wel, .ref h6_mr, .int rdm, .long hsh])), (h6_ms, .inl (cI, 253, .inl ms)), (h6_mv, .inl (cI, 1518, .inl mv)), (h6_mb, .inl (cI, 60, .inl mb)), (h6_mc, .inl (cI, 160, .inl mc)), (h6_mg, .inl (cI, 160, .inl mg)), (h6_mt, .inl (cI, 240, .inl mt)), (h6_ml, .inl (cI, 240, .inl ml)), (h6_mr, .inl (cI, 600, .inl mr))]) (w1 := [(h6, .inr (6, [.int thr, .ref h6_ms, .ref h6_mv, .int svm, .ref h6_mb, .int mln, .ref h6_mc, .ref h6_mg, .ref h6_mt, .ref h6_ml, .int mat, .int wel, .ref h6_mr, .int rdm, .long hsh])), (h6_ms, .inl (cI, 253, .inl ms)), (h6_mv, .inl (cI, 1518, .inl mv)), (h6_mb, .inl (cI, 60, .inl mb)), (h6_mc, .inl (cI, 160, .inl mc)), (h6_mg, .inl (cI, 160, .inl mg)), (h6_mt, .inl (cI, 240, .inl mt)), (h6_ml, .inl (cI, 240, .inl ml)), (h6_mr, .inl (cI, 600, .inl mr))]) (w2 := [(h6, .inr (6, [.int thr, .ref h6_ms, .ref h6_mv, .int svm, .ref h6_mb, .int mln, .ref h6_mc, .ref h6_mg, .ref h6_mt, .ref h6_ml, .int mat, .int wel, .ref h6_mr, .int rdm, .long hsh])), (h6_ms, .inl (cI, 253, .inl ms)), (h6_mv, .inl (cI, 1518, .inl mv)), (h6_mb, .inl (cI, 60, .inl mb)), (h6_mc, .inl (cI, 160, .inl mc)), (h6_mg, .inl (cI, 160, .inl mg)), (h6_mt, .inl (cI, 240, .inl mt)), (h6_ml, .inl (cI, 240, .inl ml)), (h6_mr, .inl (cI, 600, .inl mr))]) (va_runV (As := []) (rest := [.int x1, .int a2, .int a1, .ref h6]) ⟨hx, hb, hml, hown, hts⟩ (mX6_lastPlace l D cI cO cJ h6 h6_ms h6_mv h6_mb h6_mc h6_mg h6_mt h6_ml h6_mr H.size thr ms mv svm mb mln mc mg mt ml mat wel mr rdm hsh _ hx2) (cwV 0 hts gX6_explainedNow_X6_lastPlace rfl rfl rfl (by decide +kernel) ⟨Nat.le_of_ble_eq_true rfl, Nat.le_of_ble_eq_true rfl⟩) (pw_preV hK hN (pw_sub hP [0, 1, 2, 3, 4, 5, 6, 7, 8] rfl) (pw_subD hD [0, 1, 2, 3, 4, 5, 6, 7, 8] (by decide) rfl) (ci := 6) (q0 := 0) rfl rfl) rfl rfl hl.1 rfl (lv_room (Nat.le_of_ble_eq_true rfl)) dX6_explainedNow_8 ⟨Nat.zero_le _, Nat.zero_le _⟩) hP hD hS hA [0, 1, 2, 3, 4, 5, 6, 7, 8] [] [0, 1, 2, 3, 4, 5, 6, 7, 8] rfl rfl (by decide) (by decide) (by decide) rfl (fun H locs hP hD hS => ?_)
  obtain ⟨⟨x3_1, x3_2⟩, hx3, h⟩ := bnd h
  refine pw_goi (wc := [(h6, .inr (6, [.int thr, .ref h6_ms, .ref h6_mv, .int svm, .ref h6_mb, .int mln, .ref h6_mc, .ref h6_mg, .ref h6_mt, .ref h6_ml, .int mat, .int wel, .ref h6_mr, .int rdm, .long hsh])), (h6_ms, .inl (cI, 253, .inl ms)), (h6_mv, .inl (cI, 1518, .inl mv)), (h6_mb, .inl (cI, 60, .inl mb)), (h6_mc, .inl (cI, 160, .inl mc)), (h6_mg, .inl (cI, 160, .inl mg)), (h6_mt, .inl (cI, 240, .inl mt)), (h6_ml, .inl (cI, 240, .inl ml)), (h6_mr, .inl (cI, 600, .inl mr))]) (w1 := [(h6, .inr (6, [.int thr, .ref h6_ms, .ref h6_mv, .int svm, .ref h6_mb, .int mln, .ref h6_mc, .ref h6_mg, .ref h6_mt, .ref h6_ml, .int mat, .int wel, .ref h6_mr, .int rdm, .long hsh])), (h6_ms, .inl (cI, 253, .inl ms)), (h6_mv, .inl (cI, 1518, .inl mv)), (h6_mb, .inl (cI, 60, .inl mb)), (h6_mc, .inl (cI, 160, .inl x3_2)), (h6_mg, .inl (cI, 160, .inl mg)), (h6_mt, .inl (cI, 240, .inl mt)), (h6_ml, .inl (cI, 240, .inl ml)), (h6_mr, .inl (cI, 600, .inl mr))]) (w2 := [(h6, .inr (6, [.int thr, .ref h6_ms, .ref h6_mv, .int svm, .ref h6_mb, .int mln, .ref h6_mc, .ref h6_mg, .ref h6_mt, .ref h6_ml, .int mat, .int wel, .ref h6_mr, .int rdm, .long hsh])), (h6_ms, .inl (cI, 253, .inl ms)), (h6_mv, .inl (cI, 1518, .inl mv)), (h6_mb, .inl (cI, 60, .inl mb)), (h6_mc, .inl (cI, 160, .inl x3_2)), (h6_mg, .inl (cI, 160, .inl mg)), (h6_mt, .inl (cI, 240, .inl mt)), (h6_ml, .inl (cI, 240, .inl ml)), (h6_mr, .inl (cI, 600, .inl mr))]) (va_runV (As := [.int a1, .int a2, .int x1, .int x2]) (rest := []) ⟨hx, hb, hml, hown, hts⟩ (mX6_explained l D cI cO cJ h6 h6_ms h6_mv h6_mb h6_mc h6_mg h6_mt h6_ml h6_mr H.size thr ms mv svm mb mln mc mg mt ml mat wel mr rdm hsh a1 a2 x1 x2 _ hx3) (cwV 4 hts gX6_explainedNow_X6_explained rfl rfl rfl (by decide +kernel) ⟨Nat.le_of_ble_eq_true rfl, Nat.le_of_ble_eq_true rfl⟩) (pw_preV hK hN (pw_sub hP [0, 1, 2, 3, 4, 5, 6, 7, 8] rfl) (pw_subD hD [0, 1, 2, 3, 4, 5, 6, 7, 8] (by decide) rfl) (ci := 6) (q0 := 0) rfl rfl) rfl rfl hl.1 rfl (lv_room (Nat.le_of_ble_eq_true rfl)) dX6_explainedNow_11 ⟨Nat.zero_le _, Nat.zero_le _⟩) hP hD hS hA [0, 1, 2, 3, 4, 5, 6, 7, 8] [] [0, 1, 2, 3, 4, 5, 6, 7, 8] rfl rfl (by decide) (by decide) (by decide) rfl (fun H locs hP hD hS => ?_)
  cases h
  exact pw_iret hx hb hr hlocks hAe hQ hP hD hS dX6_explainedNow_14
def fX6_tenthsOf (ms : Nat → Int32) (a1 : Int32) : Option Int32 :=
  if oob (5 + (2 * a1)) 253 then none else
  some (ms ((5 + (2 * a1))).toNatClampNeg)
abbrev rmX6_tenthsOf : Room := { frames := 0, cells := 0, slots := 0, locals := 0 }
set_option maxHeartbeats 4000000 in
set_option maxRecDepth 100000 in
theorem mX6_tenthsOf (l : Launch) (D : va_G) (cI cO cJ : ClassId) (h6 h6_ms h6_mv h6_mb h6_mc h6_mg h6_mt h6_ml h6_mr : Nat) (sz : Nat) (thr : Int32) (ms : Nat → Int32) (mv : Nat → Int32) (svm : Int32) (mb : Nat → Int32) (mln : Int32) (mc : Nat → Int32) (mg : Nat → Int32) (mt : Nat → Int32) (ml : Nat → Int32) (mat : Int32) (wel : Int32) (mr : Nat → Int32) (rdm : Int32) (hsh : Int64) (a1 : Int32) (z : Int32) (h : fX6_tenthsOf ms a1 = some z) : Met l yX6_tenthsOf wsX6_tenthsOf rmX6_tenthsOf (pw_pre D (tyL cI cO cJ) [.ref h6, .int a1] [(h6, .inr (6, [.int thr, .ref h6_ms, .ref h6_mv, .int svm, .ref h6_mb, .int mln, .ref h6_mc, .ref h6_mg, .ref h6_mt, .ref h6_ml, .int mat, .int wel, .ref h6_mr, .int rdm, .long hsh])), (h6_ms, .inl (cI, 253, .inl ms)), (h6_mv, .inl (cI, 1518, .inl mv)), (h6_mb, .inl (cI, 60, .inl mb)), (h6_mc, .inl (cI, 160, .inl mc)), (h6_mg, .inl (cI, 160, .inl mg)), (h6_mt, .inl (cI, 240, .inl mt)), (h6_ml, .inl (cI, 240, .inl ml)), (h6_mr, .inl (cI, 600, .inl mr))] sz) (pw_i D [(h6, .inr (6, [.int thr, .ref h6_ms, .ref h6_mv, .int svm, .ref h6_mb, .int mln, .ref h6_mc, .ref h6_mg, .ref h6_mt, .ref h6_ml, .int mat, .int wel, .ref h6_mr, .int rdm, .long hsh])), (h6_ms, .inl (cI, 253, .inl ms)), (h6_mv, .inl (cI, 1518, .inl mv)), (h6_mb, .inl (cI, 60, .inl mb)), (h6_mc, .inl (cI, 160, .inl mc)), (h6_mg, .inl (cI, 160, .inl mg)), (h6_mt, .inl (cI, 240, .inl mt)), (h6_ml, .inl (cI, 240, .inl ml)), (h6_mr, .inl (cI, 600, .inl mr))] [(h6, .inr (6, [.int thr, .ref h6_ms, .ref h6_mv, .int svm, .ref h6_mb, .int mln, .ref h6_mc, .ref h6_mg, .ref h6_mt, .ref h6_ml, .int mat, .int wel, .ref h6_mr, .int rdm, .long hsh])), (h6_ms, .inl (cI, 253, .inl ms)), (h6_mv, .inl (cI, 1518, .inl mv)), (h6_mb, .inl (cI, 60, .inl mb)), (h6_mc, .inl (cI, 160, .inl mc)), (h6_mg, .inl (cI, 160, .inl mg)), (h6_mt, .inl (cI, 240, .inl mt)), (h6_ml, .inl (cI, 240, .inl ml)), (h6_mr, .inl (cI, 600, .inl mr))] z sz) 0 0 (va_A [(h6, .inr (6, [.int thr, .ref h6_ms, .ref h6_mv, .int svm, .ref h6_mb, .int mln, .ref h6_mc, .ref h6_mg, .ref h6_mt, .ref h6_ml, .int mat, .int wel, .ref h6_mr, .int rdm, .long hsh])), (h6_ms, .inl (cI, 253, .inl ms)), (h6_mv, .inl (cI, 1518, .inl mv)), (h6_mb, .inl (cI, 60, .inl mb)), (h6_mc, .inl (cI, 160, .inl mc)), (h6_mg, .inl (cI, 160, .inl mg)), (h6_mt, .inl (cI, 240, .inl mt)), (h6_ml, .inl (cI, 240, .inl ml)), (h6_mr, .inl (cI, 600, .inl mr))] sz) := by
  refine pw_of (Qc := fun sz => pw_i D [(h6, .inr (6, [.int thr, .ref h6_ms, .ref h6_mv, .int svm, .ref h6_mb, .int mln, .ref h6_mc, .ref h6_mg, .ref h6_mt, .ref h6_ml, .int mat, .int wel, .ref h6_mr, .int rdm, .long hsh])), (h6_ms, .inl (cI, 253, .inl ms)), (h6_mv, .inl (cI, 1518, .inl mv)), (h6_mb, .inl (cI, 60, .inl mb)), (h6_mc, .inl (cI, 160, .inl mc)), (h6_mg, .inl (cI, 160, .inl mg)), (h6_mt, .inl (cI, 240, .inl mt)), (h6_ml, .inl (cI, 240, .inl ml)), (h6_mr, .inl (cI, 600, .inl mr))] [(h6, .inr (6, [.int thr, .ref h6_ms, .ref h6_mv, .int svm, .ref h6_mb, .int mln, .ref h6_mc, .ref h6_mg, .ref h6_mt, .ref h6_ml, .int mat, .int wel, .ref h6_mr, .int rdm, .long hsh])), (h6_ms, .inl (cI, 253, .inl ms)), (h6_mv, .inl (cI, 1518, .inl mv)), (h6_mb, .inl (cI, 60, .inl mb)), (h6_mc, .inl (cI, 160, .inl mc)), (h6_mg, .inl (cI, 160, .inl mg)), (h6_mt, .inl (cI, 240, .inl mt)), (h6_ml, .inl (cI, 240, .inl ml)), (h6_mr, .inl (cI, 600, .inl mr))] z sz) (cc := cX6_tenthsOf) (maxL := 2) (ret := (some .int)) (by decide) rfl (Nat.le_of_ble_eq_true rfl) ?_
  intro p e s m args below meth c A Q H ls hx hb hml hr hts hown hlocks hAe hQ hK hN hA hP hD hS hl
  have hown : s.vm.findClass RX6 = some m.cls := hown
  have hl : lv_has ls 2 [(0, .ref h6), (1, .int a1)] := hl
  have hP : va_P D vwCl ([(h6, .inr (6, [.int thr, .ref h6_ms, .ref h6_mv, .int svm, .ref h6_mb, .int mln, .ref h6_mc, .ref h6_mg, .ref h6_mt, .ref h6_ml, .int mat, .int wel, .ref h6_mr, .int rdm, .long hsh])), (h6_ms, .inl (cI, 253, .inl ms)), (h6_mv, .inl (cI, 1518, .inl mv)), (h6_mb, .inl (cI, 60, .inl mb)), (h6_mc, .inl (cI, 160, .inl mc)), (h6_mg, .inl (cI, 160, .inl mg)), (h6_mt, .inl (cI, 240, .inl mt)), (h6_ml, .inl (cI, 240, .inl ml)), (h6_mr, .inl (cI, 600, .inl mr))] ++ []) H := hP
  have hD : va_D A ([(h6, .inr (6, [.int thr, .ref h6_ms, .ref h6_mv, .int svm, .ref h6_mb, .int mln, .ref h6_mc, .ref h6_mg, .ref h6_mt, .ref h6_ml, .int mat, .int wel, .ref h6_mr, .int rdm, .long hsh])), (h6_ms, .inl (cI, 253, .inl ms)), (h6_mv, .inl (cI, 1518, .inl mv)), (h6_mb, .inl (cI, 60, .inl mb)), (h6_mc, .inl (cI, 160, .inl mc)), (h6_mg, .inl (cI, 160, .inl mg)), (h6_mt, .inl (cI, 240, .inl mt)), (h6_ml, .inl (cI, 240, .inl ml)), (h6_mr, .inl (cI, 600, .inl mr))] ++ []) := hD
  have iX6 : ∀ w ∈ u_ws RX6 TX6 15, w ∈ wsX6_tenthsOf := fun _ h => List.mem_cons_of_mem _ (List.mem_append_right _ h)
  unfold fX6_tenthsOf at h
  refine lv_aload_n hx hb dX6_tenthsOf_0 rfl (lv_at hl 0 rfl) ?_
  refine va_get (D := D) (ci := 6) (v := .ref h6_ms) (C := RX6) (T := TX6) (N := 15) hx hb hts iX6 hown hK hP 0 rfl rfl 1 (by decide) (hts (.fieldLink RX6 7 "HiddenPeriodsModel" "s" "[I") (by decide +kernel)) (fun _ h9 => h9) rfl dX6_tenthsOf_1 ?_
  refine lv_iconst (v := 5) hx hb dX6_tenthsOf_4 (by decide) ?_
  refine lv_iconst (v := 2) hx hb dX6_tenthsOf_5 (by decide) ?_
  refine lv_iload_n hx hb dX6_tenthsOf_6 rfl (lv_at hl 1 rfl) ?_
  refine lv_imul hx hb dX6_tenthsOf_7 ?_
  refine lv_iadd hx hb dX6_tenthsOf_8 ?_
  obtain ⟨g1, h⟩ := gdn h
  refine va_iald hx hb hK hP 1 0 rfl rfl g1 dX6_tenthsOf_9 ?_
  cases h
  exact pw_iret hx hb hr hlocks hAe hQ hP hD hS dX6_tenthsOf_10

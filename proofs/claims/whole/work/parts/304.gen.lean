def fX3_signAt (tsg : Nat → Int32) (a1 : Int32) : Option Int32 :=
  (fX5_cellAt tsg 240 a1).bind fun x1 =>
  some x1
abbrev rmX3_signAt : Room := { frames := 1, cells := 0, slots := 0, locals := 21 }
set_option maxHeartbeats 4000000 in
set_option maxRecDepth 100000 in
theorem mX3_signAt (l : Launch) (D : va_G) (cI cO cJ : ClassId) (h3 h3_str h3_tlr h3_tsg : Nat) (sz : Nat) (str : Nat → Int32) (tlr : Nat → Int32) (tsg : Nat → Int32) (a1 : Int32) (z : Int32) (h : fX3_signAt tsg a1 = some z) : Met l yX3_signAt wsX3_signAt rmX3_signAt (pw_pre D (tyL cI cO cJ) [.ref h3, .int a1] [(h3, .inr (3, [.ref h3_str, .ref h3_tlr, .ref h3_tsg])), (h3_str, .inl (cI, 40, .inl str)), (h3_tlr, .inl (cI, 240, .inl tlr)), (h3_tsg, .inl (cI, 240, .inl tsg))] sz) (pw_i D [(h3, .inr (3, [.ref h3_str, .ref h3_tlr, .ref h3_tsg])), (h3_str, .inl (cI, 40, .inl str)), (h3_tlr, .inl (cI, 240, .inl tlr)), (h3_tsg, .inl (cI, 240, .inl tsg))] [(h3, .inr (3, [.ref h3_str, .ref h3_tlr, .ref h3_tsg])), (h3_str, .inl (cI, 40, .inl str)), (h3_tlr, .inl (cI, 240, .inl tlr)), (h3_tsg, .inl (cI, 240, .inl tsg))] z sz) 0 0 (va_A [(h3, .inr (3, [.ref h3_str, .ref h3_tlr, .ref h3_tsg])), (h3_str, .inl (cI, 40, .inl str)), (h3_tlr, .inl (cI, 240, .inl tlr)), (h3_tsg, .inl (cI, 240, .inl tsg))] sz) := by
  refine pw_of (Qc := fun sz => pw_i D [(h3, .inr (3, [.ref h3_str, .ref h3_tlr, .ref h3_tsg])), (h3_str, .inl (cI, 40, .inl str)), (h3_tlr, .inl (cI, 240, .inl tlr)), (h3_tsg, .inl (cI, 240, .inl tsg))] [(h3, .inr (3, [.ref h3_str, .ref h3_tlr, .ref h3_tsg])), (h3_str, .inl (cI, 40, .inl str)), (h3_tlr, .inl (cI, 240, .inl tlr)), (h3_tsg, .inl (cI, 240, .inl tsg))] z sz) (cc := cX3_signAt) (maxL := 2) (ret := (some .int)) (by decide) rfl (Nat.le_of_ble_eq_true rfl) ?_
  intro p e s m args below meth c A Q H ls hx hb hml hr hts hown hlocks hAe hQ hK hN hA hP hD hS hl
  have hown : s.vm.findClass RX3 = some m.cls := hown
  have hl : lv_has ls 2 [(0, .ref h3), (1, .int a1)] := hl
  have hP : va_P D vwCl ([(h3, .inr (3, [.ref h3_str, .ref h3_tlr, .ref h3_tsg])), (h3_str, .inl (cI, 40, .inl str)), (h3_tlr, .inl (cI, 240, .inl tlr)), (h3_tsg, .inl (cI, 240, .inl tsg))] ++ []) H := hP
  have hD : va_D A ([(h3, .inr (3, [.ref h3_str, .ref h3_tlr, .ref h3_tsg])), (h3_str, .inl (cI, 40, .inl str)), (h3_tlr, .inl (cI, 240, .inl tlr)), (h3_tsg, .inl (cI, 240, .inl tsg))] ++ []) := hD
  have iX3 : ∀ w ∈ u_ws RX3 TX3 3, w ∈ wsX3_signAt := fun _ h => List.mem_cons_of_mem _ (List.mem_append_right _ h)
  unfold fX3_signAt at h
  refine lv_aload_n hx hb dX3_signAt_0 rfl (lv_at hl 0 rfl) ?_
  refine va_get (D := D) (ci := 3) (v := .ref h3_tsg) (C := RX3) (T := TX3) (N := 3) hx hb hts iX3 hown hK hP 0 rfl rfl 2 (by decide) (hts (.fieldLink RX3 18 "HiddenPeriods$Telling" "signs" "[I") (by decide +kernel)) (fun _ h9 => h9) rfl dX3_signAt_1 ?_
  refine lv_iload_n hx hb dX3_signAt_4 rfl (lv_at hl 1 rfl) ?_
  obtain ⟨x1, hx1, h⟩ := bnd h
  refine pw_goi (wc := [(h3_tsg, .inl (cI, 240, .inl tsg))]) (w1 := [(h3_tsg, .inl (cI, 240, .inl tsg))]) (w2 := [(h3, .inr (3, [.ref h3_str, .ref h3_tlr, .ref h3_tsg])), (h3_str, .inl (cI, 40, .inl str)), (h3_tlr, .inl (cI, 240, .inl tlr)), (h3_tsg, .inl (cI, 240, .inl tsg))]) (va_runSN (As := [.ref h3_tsg, .int a1]) (rest := []) ⟨hx, hb, hml, hown, hts⟩ (mX5_cellAt l D cI cO cJ h3_tsg H.size tsg 240 a1 _ hx1) ⟨va_cnB 2 hts gX3_signAt_X5_cellAt_n78 rfl rfl rfl (hN (.methodLinkNest RX3 78 yX5_cellAt "HiddenPeriods") (by decide +kernel)) (hts (.initialized RX5) (by decide +kernel)) (by decide +kernel) ⟨Nat.le_of_ble_eq_true rfl, Nat.le_of_ble_eq_true rfl⟩, (hts (.static yX5_cellAt) (by decide +kernel)), trivial⟩ (pw_preS hK hN (pw_sub hP [3] rfl) (pw_subD hD [3] (by decide) rfl)) rfl rfl hl.1 rfl (lv_room (Nat.le_of_ble_eq_true rfl)) dX3_signAt_5 ⟨Nat.zero_le _, Nat.zero_le _⟩) hP hD hS hA [3] [0, 1, 2] [0, 1, 2, 3] rfl rfl (by decide) (by decide) (by decide) rfl (fun H locs hP hD hS => ?_)
  cases h
  exact pw_iret hx hb hr hlocks hAe hQ hP hD hS dX3_signAt_8
def fX3_isExplained (tsg : Nat → Int32) (row : Nat → Int32) (len : Int32) (a2 : Int32) : Option Int32 :=
  (fX3_signAt tsg a2).bind fun x1 =>
  if x1 = (-1) then
  some 0
  else
  (fX2_signAt row len a2).bind fun x2 =>
  if x1 = x2 then
  some 1
  else
  some 0
abbrev rmX3_isExplained : Room := { frames := 2, cells := 0, slots := 0, locals := 42 }
set_option maxHeartbeats 4000000 in
set_option maxRecDepth 100000 in
theorem mX3_isExplained (l : Launch) (D : va_G) (cI cO cJ : ClassId) (h3 h3_str h3_tlr h3_tsg h2 h2_row h2_ten h2_pha : Nat) (sz : Nat) (str : Nat → Int32) (tlr : Nat → Int32) (tsg : Nat → Int32) (row : Nat → Int32) (ten : Nat → Int32) (pha : Nat → Int32) (len : Int32) (kep : Int32) (wfi : Int32) (wmo : Int32) (hun : Int32) (a2 : Int32) (z : Int32) (h : fX3_isExplained tsg row len a2 = some z) : Met l yX3_isExplained wsX3_isExplained rmX3_isExplained (pw_pre D (tyL cI cO cJ) [.ref h3, .ref h2, .int a2] [(h3, .inr (3, [.ref h3_str, .ref h3_tlr, .ref h3_tsg])), (h3_str, .inl (cI, 40, .inl str)), (h3_tlr, .inl (cI, 240, .inl tlr)), (h3_tsg, .inl (cI, 240, .inl tsg)), (h2, .inr (2, [.ref h2_row, .ref h2_ten, .ref h2_pha, .int len, .int kep, .int wfi, .int wmo, .int hun])), (h2_row, .inl (cI, 240, .inl row)), (h2_ten, .inl (cI, 4, .inl ten)), (h2_pha, .inl (cI, 4, .inl pha))] sz) (pw_i D [(h3, .inr (3, [.ref h3_str, .ref h3_tlr, .ref h3_tsg])), (h3_str, .inl (cI, 40, .inl str)), (h3_tlr, .inl (cI, 240, .inl tlr)), (h3_tsg, .inl (cI, 240, .inl tsg)), (h2, .inr (2, [.ref h2_row, .ref h2_ten, .ref h2_pha, .int len, .int kep, .int wfi, .int wmo, .int hun])), (h2_row, .inl (cI, 240, .inl row)), (h2_ten, .inl (cI, 4, .inl ten)), (h2_pha, .inl (cI, 4, .inl pha))] [(h3, .inr (3, [.ref h3_str, .ref h3_tlr, .ref h3_tsg])), (h3_str, .inl (cI, 40, .inl str)), (h3_tlr, .inl (cI, 240, .inl tlr)), (h3_tsg, .inl (cI, 240, .inl tsg)), (h2, .inr (2, [.ref h2_row, .ref h2_ten, .ref h2_pha, .int len, .int kep, .int wfi, .int wmo, .int hun])), (h2_row, .inl (cI, 240, .inl row)), (h2_ten, .inl (cI, 4, .inl ten)), (h2_pha, .inl (cI, 4, .inl pha))] z sz) 0 0 (va_A [(h3, .inr (3, [.ref h3_str, .ref h3_tlr, .ref h3_tsg])), (h3_str, .inl (cI, 40, .inl str)), (h3_tlr, .inl (cI, 240, .inl tlr)), (h3_tsg, .inl (cI, 240, .inl tsg)), (h2, .inr (2, [.ref h2_row, .ref h2_ten, .ref h2_pha, .int len, .int kep, .int wfi, .int wmo, .int hun])), (h2_row, .inl (cI, 240, .inl row)), (h2_ten, .inl (cI, 4, .inl ten)), (h2_pha, .inl (cI, 4, .inl pha))] sz) := by
  refine pw_of (Qc := fun sz => pw_i D [(h3, .inr (3, [.ref h3_str, .ref h3_tlr, .ref h3_tsg])), (h3_str, .inl (cI, 40, .inl str)), (h3_tlr, .inl (cI, 240, .inl tlr)), (h3_tsg, .inl (cI, 240, .inl tsg)), (h2, .inr (2, [.ref h2_row, .ref h2_ten, .ref h2_pha, .int len, .int kep, .int wfi, .int wmo, .int hun])), (h2_row, .inl (cI, 240, .inl row)), (h2_ten, .inl (cI, 4, .inl ten)), (h2_pha, .inl (cI, 4, .inl pha))] [(h3, .inr (3, [.ref h3_str, .ref h3_tlr, .ref h3_tsg])), (h3_str, .inl (cI, 40, .inl str)), (h3_tlr, .inl (cI, 240, .inl tlr)), (h3_tsg, .inl (cI, 240, .inl tsg)), (h2, .inr (2, [.ref h2_row, .ref h2_ten, .ref h2_pha, .int len, .int kep, .int wfi, .int wmo, .int hun])), (h2_row, .inl (cI, 240, .inl row)), (h2_ten, .inl (cI, 4, .inl ten)), (h2_pha, .inl (cI, 4, .inl pha))] z sz) (cc := cX3_isExplained) (maxL := 4) (ret := (some .boolean)) (by decide) rfl (Nat.le_of_ble_eq_true rfl) ?_
  intro p e s m args below meth c A Q H ls hx hb hml hr hts hown hlocks hAe hQ hK hN hA hP hD hS hl
  have hown : s.vm.findClass RX3 = some m.cls := hown
  have hl : lv_has ls 4 [(0, .ref h3), (1, .ref h2), (2, .int a2)] := hl
  have hP : va_P D vwCl ([(h3, .inr (3, [.ref h3_str, .ref h3_tlr, .ref h3_tsg])), (h3_str, .inl (cI, 40, .inl str)), (h3_tlr, .inl (cI, 240, .inl tlr)), (h3_tsg, .inl (cI, 240, .inl tsg)), (h2, .inr (2, [.ref h2_row, .ref h2_ten, .ref h2_pha, .int len, .int kep, .int wfi, .int wmo, .int hun])), (h2_row, .inl (cI, 240, .inl row)), (h2_ten, .inl (cI, 4, .inl ten)), (h2_pha, .inl (cI, 4, .inl pha))] ++ []) H := hP
  have hD : va_D A ([(h3, .inr (3, [.ref h3_str, .ref h3_tlr, .ref h3_tsg])), (h3_str, .inl (cI, 40, .inl str)), (h3_tlr, .inl (cI, 240, .inl tlr)), (h3_tsg, .inl (cI, 240, .inl tsg)), (h2, .inr (2, [.ref h2_row, .ref h2_ten, .ref h2_pha, .int len, .int kep, .int wfi, .int wmo, .int hun])), (h2_row, .inl (cI, 240, .inl row)), (h2_ten, .inl (cI, 4, .inl ten)), (h2_pha, .inl (cI, 4, .inl pha))] ++ []) := hD
  unfold fX3_isExplained at h
  refine lv_aload_n hx hb dX3_isExplained_0 rfl (lv_at hl 0 rfl) ?_
  refine lv_iload_n hx hb dX3_isExplained_1 rfl (lv_at hl 2 rfl) ?_
  obtain ⟨x1, hx1, h⟩ := bnd h
  refine pw_goi (wc := [(h3, .inr (3, [.ref h3_str, .ref h3_tlr, .ref h3_tsg])), (h3_str, .inl (cI, 40, .inl str)), (h3_tlr, .inl (cI, 240, .inl tlr)), (h3_tsg, .inl (cI, 240, .inl tsg))]) (w1 := [(h3, .inr (3, [.ref h3_str, .ref h3_tlr, .ref h3_tsg])), (h3_str, .inl (cI, 40, .inl str)), (h3_tlr, .inl (cI, 240, .inl tlr)), (h3_tsg, .inl (cI, 240, .inl tsg))]) (w2 := [(h3, .inr (3, [.ref h3_str, .ref h3_tlr, .ref h3_tsg])), (h3_str, .inl (cI, 40, .inl str)), (h3_tlr, .inl (cI, 240, .inl tlr)), (h3_tsg, .inl (cI, 240, .inl tsg)), (h2, .inr (2, [.ref h2_row, .ref h2_ten, .ref h2_pha, .int len, .int kep, .int wfi, .int wmo, .int hun])), (h2_row, .inl (cI, 240, .inl row)), (h2_ten, .inl (cI, 4, .inl ten)), (h2_pha, .inl (cI, 4, .inl pha))]) (va_runV (As := [.int a2]) (rest := []) ⟨hx, hb, hml, hown, hts⟩ (mX3_signAt l D cI cO cJ h3 h3_str h3_tlr h3_tsg H.size str tlr tsg a2 _ hx1) (cwV 1 hts gX3_isExplained_X3_signAt rfl rfl rfl (by decide +kernel) ⟨Nat.le_of_ble_eq_true rfl, Nat.le_of_ble_eq_true rfl⟩) (pw_preV hK hN (pw_sub hP [0, 1, 2, 3] rfl) (pw_subD hD [0, 1, 2, 3] (by decide) rfl) (ci := 3) (q0 := 0) rfl rfl) rfl rfl hl.1 rfl (lv_room (Nat.le_of_ble_eq_true rfl)) dX3_isExplained_2 ⟨Nat.zero_le _, Nat.zero_le _⟩) hP hD hS hA [0, 1, 2, 3] [4, 5, 6, 7] [4, 5, 6, 7, 0, 1, 2, 3] rfl rfl (by decide) (by decide) (by decide) rfl (fun H locs hP hD hS => ?_)
  refine lv_istore_n (lv' := [(3, .int x1), (0, .ref h3), (1, .ref h2), (2, .int a2)]) hx hb dX3_isExplained_5 rfl hl (by decide) rfl (fun ls hl => ?_)
  refine lv_iload_n hx hb dX3_isExplained_6 rfl (lv_at hl 0 rfl) ?_
  refine lv_iconst (v := (-1)) hx hb dX3_isExplained_7 (by decide) ?_
  refine lv_icmp_eq (tgt := 24) hx hb dX3_isExplained_8 (by decide) (fun cq => ?_) (fun cq => ?_)
  · replace h := ifp cq h
    refine lv_iconst (v := 0) hx hb dX3_isExplained_24 (by decide) ?_
    cases h
    exact pw_zret hx hb hr hlocks hAe (by decide) hQ hP hD hS dX3_isExplained_25
  · replace h := ifn cq h
    refine lv_iload_n hx hb dX3_isExplained_11 rfl (lv_at hl 0 rfl) ?_
    refine lv_aload_n hx hb dX3_isExplained_12 rfl (lv_at hl 2 rfl) ?_
    refine lv_iload_n hx hb dX3_isExplained_13 rfl (lv_at hl 3 rfl) ?_
    obtain ⟨x2, hx2, h⟩ := bnd h
    refine pw_goi (wc := [(h2, .inr (2, [.ref h2_row, .ref h2_ten, .ref h2_pha, .int len, .int kep, .int wfi, .int wmo, .int hun])), (h2_row, .inl (cI, 240, .inl row)), (h2_ten, .inl (cI, 4, .inl ten)), (h2_pha, .inl (cI, 4, .inl pha))]) (w1 := [(h2, .inr (2, [.ref h2_row, .ref h2_ten, .ref h2_pha, .int len, .int kep, .int wfi, .int wmo, .int hun])), (h2_row, .inl (cI, 240, .inl row)), (h2_ten, .inl (cI, 4, .inl ten)), (h2_pha, .inl (cI, 4, .inl pha))]) (w2 := [(h3, .inr (3, [.ref h3_str, .ref h3_tlr, .ref h3_tsg])), (h3_str, .inl (cI, 40, .inl str)), (h3_tlr, .inl (cI, 240, .inl tlr)), (h3_tsg, .inl (cI, 240, .inl tsg)), (h2, .inr (2, [.ref h2_row, .ref h2_ten, .ref h2_pha, .int len, .int kep, .int wfi, .int wmo, .int hun])), (h2_row, .inl (cI, 240, .inl row)), (h2_ten, .inl (cI, 4, .inl ten)), (h2_pha, .inl (cI, 4, .inl pha))]) (va_runV (As := [.int a2]) (rest := [.int x1]) ⟨hx, hb, hml, hown, hts⟩ (mX2_signAt l D cI cO cJ h2 h2_row h2_ten h2_pha H.size row ten pha len kep wfi wmo hun a2 _ hx2) (cwV 1 hts gX3_isExplained_X2_signAt rfl rfl rfl (by decide +kernel) ⟨Nat.le_of_ble_eq_true rfl, Nat.le_of_ble_eq_true rfl⟩) (pw_preV hK hN (pw_sub hP [4, 5, 6, 7] rfl) (pw_subD hD [4, 5, 6, 7] (by decide) rfl) (ci := 2) (q0 := 0) rfl rfl) rfl rfl hl.1 rfl (lv_room (Nat.le_of_ble_eq_true rfl)) dX3_isExplained_14 ⟨Nat.zero_le _, Nat.zero_le _⟩) hP hD hS hA [4, 5, 6, 7] [0, 1, 2, 3] [0, 1, 2, 3, 4, 5, 6, 7] rfl rfl (by decide) (by decide) (by decide) rfl (fun H locs hP hD hS => ?_)
    refine lv_icmp_ne (tgt := 24) hx hb dX3_isExplained_17 (by decide) (fun cq => ?_) (fun cq => ?_)
    · replace h := ifn cq h
      refine lv_iconst (v := 0) hx hb dX3_isExplained_24 (by decide) ?_
      cases h
      exact pw_zret hx hb hr hlocks hAe (by decide) hQ hP hD hS dX3_isExplained_25
    · replace h := ifp cq h
      refine lv_iconst (v := 1) hx hb dX3_isExplained_20 (by decide) ?_
      refine lv_goto (tgt := 25) hx hb dX3_isExplained_21 (by decide) ?_
      cases h
      exact pw_zret hx hb hr hlocks hAe (by decide) hQ hP hD hS dX3_isExplained_25
def fX3_explained_L13 (tsg : Nat → Int32) (row : Nat → Int32) (len : Int32) (x1 : Int32) : Nat → Int32 → Int32 → Option Int32
  | 0, _, _ => none
  | n + 1, v3_13, v4_13 =>
    if x1 ≤ v4_13 then
    some v3_13
    else
    (fX3_isExplained tsg row len v4_13).bind fun x3 =>
    if x3 = 0 then
    fX3_explained_L13 tsg row len x1 n v3_13 (v4_13 + 1)
    else
    fX3_explained_L13 tsg row len x1 n (v3_13 + 1) (v4_13 + 1)
def fX3_explained (tsg : Nat → Int32) (row : Nat → Int32) (len : Int32) (wfi : Int32) (wmo : Int32) : Option Int32 :=
  (fX2_windowEnd len wfi wmo).bind fun x1 =>
  (fX2_windowStart wfi wmo).bind fun x2 =>
  (fX3_explained_L13 tsg row len x1 FU 0 x2).bind fun x4 =>
  some x4
abbrev rmX3_explained : Room := { frames := 3, cells := 0, slots := 0, locals := 65 }
set_option maxHeartbeats 4000000 in
set_option maxRecDepth 100000 in
theorem mX3_explained (l : Launch) (D : va_G) (cI cO cJ : ClassId) (h3 h3_str h3_tlr h3_tsg h2 h2_row h2_ten h2_pha : Nat) (sz : Nat) (str : Nat → Int32) (tlr : Nat → Int32) (tsg : Nat → Int32) (row : Nat → Int32) (ten : Nat → Int32) (pha : Nat → Int32) (len : Int32) (kep : Int32) (wfi : Int32) (wmo : Int32) (hun : Int32) (z : Int32) (h : fX3_explained tsg row len wfi wmo = some z) : Met l yX3_explained wsX3_explained rmX3_explained (pw_pre D (tyL cI cO cJ) [.ref h3, .ref h2] [(h3, .inr (3, [.ref h3_str, .ref h3_tlr, .ref h3_tsg])), (h3_str, .inl (cI, 40, .inl str)), (h3_tlr, .inl (cI, 240, .inl tlr)), (h3_tsg, .inl (cI, 240, .inl tsg)), (h2, .inr (2, [.ref h2_row, .ref h2_ten, .ref h2_pha, .int len, .int kep, .int wfi, .int wmo, .int hun])), (h2_row, .inl (cI, 240, .inl row)), (h2_ten, .inl (cI, 4, .inl ten)), (h2_pha, .inl (cI, 4, .inl pha))] sz) (pw_i D [(h3, .inr (3, [.ref h3_str, .ref h3_tlr, .ref h3_tsg])), (h3_str, .inl (cI, 40, .inl str)), (h3_tlr, .inl (cI, 240, .inl tlr)), (h3_tsg, .inl (cI, 240, .inl tsg)), (h2, .inr (2, [.ref h2_row, .ref h2_ten, .ref h2_pha, .int len, .int kep, .int wfi, .int wmo, .int hun])), (h2_row, .inl (cI, 240, .inl row)), (h2_ten, .inl (cI, 4, .inl ten)), (h2_pha, .inl (cI, 4, .inl pha))] [(h3, .inr (3, [.ref h3_str, .ref h3_tlr, .ref h3_tsg])), (h3_str, .inl (cI, 40, .inl str)), (h3_tlr, .inl (cI, 240, .inl tlr)), (h3_tsg, .inl (cI, 240, .inl tsg)), (h2, .inr (2, [.ref h2_row, .ref h2_ten, .ref h2_pha, .int len, .int kep, .int wfi, .int wmo, .int hun])), (h2_row, .inl (cI, 240, .inl row)), (h2_ten, .inl (cI, 4, .inl ten)), (h2_pha, .inl (cI, 4, .inl pha))] z sz) 0 0 (va_A [(h3, .inr (3, [.ref h3_str, .ref h3_tlr, .ref h3_tsg])), (h3_str, .inl (cI, 40, .inl str)), (h3_tlr, .inl (cI, 240, .inl tlr)), (h3_tsg, .inl (cI, 240, .inl tsg)), (h2, .inr (2, [.ref h2_row, .ref h2_ten, .ref h2_pha, .int len, .int kep, .int wfi, .int wmo, .int hun])), (h2_row, .inl (cI, 240, .inl row)), (h2_ten, .inl (cI, 4, .inl ten)), (h2_pha, .inl (cI, 4, .inl pha))] sz) := by
  refine pw_of (Qc := fun sz => pw_i D [(h3, .inr (3, [.ref h3_str, .ref h3_tlr, .ref h3_tsg])), (h3_str, .inl (cI, 40, .inl str)), (h3_tlr, .inl (cI, 240, .inl tlr)), (h3_tsg, .inl (cI, 240, .inl tsg)), (h2, .inr (2, [.ref h2_row, .ref h2_ten, .ref h2_pha, .int len, .int kep, .int wfi, .int wmo, .int hun])), (h2_row, .inl (cI, 240, .inl row)), (h2_ten, .inl (cI, 4, .inl ten)), (h2_pha, .inl (cI, 4, .inl pha))] [(h3, .inr (3, [.ref h3_str, .ref h3_tlr, .ref h3_tsg])), (h3_str, .inl (cI, 40, .inl str)), (h3_tlr, .inl (cI, 240, .inl tlr)), (h3_tsg, .inl (cI, 240, .inl tsg)), (h2, .inr (2, [.ref h2_row, .ref h2_ten, .ref h2_pha, .int len, .int kep, .int wfi, .int wmo, .int hun])), (h2_row, .inl (cI, 240, .inl row)), (h2_ten, .inl (cI, 4, .inl ten)), (h2_pha, .inl (cI, 4, .inl pha))] z sz) (cc := cX3_explained) (maxL := 5) (ret := (some .int)) (by decide) rfl (Nat.le_of_ble_eq_true rfl) ?_
  intro p e s m args below meth c A Q H ls hx hb hml hr hts hown hlocks hAe hQ hK hN hA hP hD hS hl
  have hown : s.vm.findClass RX3 = some m.cls := hown
  have hl : lv_has ls 5 [(0, .ref h3), (1, .ref h2)] := hl
  have hP : va_P D vwCl ([(h3, .inr (3, [.ref h3_str, .ref h3_tlr, .ref h3_tsg])), (h3_str, .inl (cI, 40, .inl str)), (h3_tlr, .inl (cI, 240, .inl tlr)), (h3_tsg, .inl (cI, 240, .inl tsg)), (h2, .inr (2, [.ref h2_row, .ref h2_ten, .ref h2_pha, .int len, .int kep, .int wfi, .int wmo, .int hun])), (h2_row, .inl (cI, 240, .inl row)), (h2_ten, .inl (cI, 4, .inl ten)), (h2_pha, .inl (cI, 4, .inl pha))] ++ []) H := hP
  have hD : va_D A ([(h3, .inr (3, [.ref h3_str, .ref h3_tlr, .ref h3_tsg])), (h3_str, .inl (cI, 40, .inl str)), (h3_tlr, .inl (cI, 240, .inl tlr)), (h3_tsg, .inl (cI, 240, .inl tsg)), (h2, .inr (2, [.ref h2_row, .ref h2_ten, .ref h2_pha, .int len, .int kep, .int wfi, .int wmo, .int hun])), (h2_row, .inl (cI, 240, .inl row)), (h2_ten, .inl (cI, 4, .inl ten)), (h2_pha, .inl (cI, 4, .inl pha))] ++ []) := hD
  unfold fX3_explained at h
  refine lv_aload_n hx hb dX3_explained_0 rfl (lv_at hl 1 rfl) ?_
  obtain ⟨x1, hx1, h⟩ := bnd h
  refine pw_goi (wc := [(h2, .inr (2, [.ref h2_row, .ref h2_ten, .ref h2_pha, .int len, .int kep, .int wfi, .int wmo, .int hun])), (h2_row, .inl (cI, 240, .inl row)), (h2_ten, .inl (cI, 4, .inl ten)), (h2_pha, .inl (cI, 4, .inl pha))]) (w1 := [(h2, .inr (2, [.ref h2_row, .ref h2_ten, .ref h2_pha, .int len, .int kep, .int wfi, .int wmo, .int hun])), (h2_row, .inl (cI, 240, .inl row)), (h2_ten, .inl (cI, 4, .inl ten)), (h2_pha, .inl (cI, 4, .inl pha))]) (w2 := [(h3, .inr (3, [.ref h3_str, .ref h3_tlr, .ref h3_tsg])), (h3_str, .inl (cI, 40, .inl str)), (h3_tlr, .inl (cI, 240, .inl tlr)), (h3_tsg, .inl (cI, 240, .inl tsg)), (h2, .inr (2, [.ref h2_row, .ref h2_ten, .ref h2_pha, .int len, .int kep, .int wfi, .int wmo, .int hun])), (h2_row, .inl (cI, 240, .inl row)), (h2_ten, .inl (cI, 4, .inl ten)), (h2_pha, .inl (cI, 4, .inl pha))]) (va_runV (As := []) (rest := []) ⟨hx, hb, hml, hown, hts⟩ (mX2_windowEnd l D cI cO cJ h2 h2_row h2_ten h2_pha H.size row ten pha len kep wfi wmo hun _ hx1) (cwV 0 hts gX3_explained_X2_windowEnd rfl rfl rfl (by decide +kernel) ⟨Nat.le_of_ble_eq_true rfl, Nat.le_of_ble_eq_true rfl⟩) (pw_preV hK hN (pw_sub hP [4, 5, 6, 7] rfl) (pw_subD hD [4, 5, 6, 7] (by decide) rfl) (ci := 2) (q0 := 0) rfl rfl) rfl rfl hl.1 rfl (lv_room (Nat.le_of_ble_eq_true rfl)) dX3_explained_1 ⟨Nat.zero_le _, Nat.zero_le _⟩) hP hD hS hA [4, 5, 6, 7] [0, 1, 2, 3] [0, 1, 2, 3, 4, 5, 6, 7] rfl rfl (by decide) (by decide) (by decide) rfl (fun H locs hP hD hS => ?_)
  refine lv_istore_n (lv' := [(2, .int x1), (0, .ref h3), (1, .ref h2)]) hx hb dX3_explained_4 rfl hl (by decide) rfl (fun ls hl => ?_)
  refine lv_iconst (v := 0) hx hb dX3_explained_5 (by decide) ?_
  refine lv_istore_n (lv' := [(3, .int 0), (2, .int x1), (0, .ref h3), (1, .ref h2)]) hx hb dX3_explained_6 rfl hl (by decide) rfl (fun ls hl => ?_)
  refine lv_aload_n hx hb dX3_explained_7 rfl (lv_at hl 3 rfl) ?_
  obtain ⟨x2, hx2, h⟩ := bnd h
  refine pw_goi (wc := [(h2, .inr (2, [.ref h2_row, .ref h2_ten, .ref h2_pha, .int len, .int kep, .int wfi, .int wmo, .int hun])), (h2_row, .inl (cI, 240, .inl row)), (h2_ten, .inl (cI, 4, .inl ten)), (h2_pha, .inl (cI, 4, .inl pha))]) (w1 := [(h2, .inr (2, [.ref h2_row, .ref h2_ten, .ref h2_pha, .int len, .int kep, .int wfi, .int wmo, .int hun])), (h2_row, .inl (cI, 240, .inl row)), (h2_ten, .inl (cI, 4, .inl ten)), (h2_pha, .inl (cI, 4, .inl pha))]) (w2 := [(h3, .inr (3, [.ref h3_str, .ref h3_tlr, .ref h3_tsg])), (h3_str, .inl (cI, 40, .inl str)), (h3_tlr, .inl (cI, 240, .inl tlr)), (h3_tsg, .inl (cI, 240, .inl tsg)), (h2, .inr (2, [.ref h2_row, .ref h2_ten, .ref h2_pha, .int len, .int kep, .int wfi, .int wmo, .int hun])), (h2_row, .inl (cI, 240, .inl row)), (h2_ten, .inl (cI, 4, .inl ten)), (h2_pha, .inl (cI, 4, .inl pha))]) (va_runV (As := []) (rest := []) ⟨hx, hb, hml, hown, hts⟩ (mX2_windowStart l D cI cO cJ h2 h2_row h2_ten h2_pha H.size row ten pha len kep wfi wmo hun _ hx2) (cwV 0 hts gX3_explained_X2_windowStart rfl rfl rfl (by decide +kernel) ⟨Nat.le_of_ble_eq_true rfl, Nat.le_of_ble_eq_true rfl⟩) (pw_preV hK hN (pw_sub hP [4, 5, 6, 7] rfl) (pw_subD hD [4, 5, 6, 7] (by decide) rfl) (ci := 2) (q0 := 0) rfl rfl) rfl rfl hl.1 rfl (lv_room (Nat.le_of_ble_eq_true rfl)) dX3_explained_8 ⟨Nat.zero_le _, Nat.zero_le _⟩) hP hD hS hA [4, 5, 6, 7] [0, 1, 2, 3] [0, 1, 2, 3, 4, 5, 6, 7] rfl rfl (by decide) (by decide) (by decide) rfl (fun H locs hP hD hS => ?_)
  refine lv_istore (lv' := [(4, .int x2), (3, .int 0), (2, .int x1), (0, .ref h3), (1, .ref h2)]) hx hb dX3_explained_11 hl (by decide) rfl (fun ls hl => ?_)
  have L13 : ∀ (n : Nat) (v3_13 : Int32) (v4_13 : Int32) (o13_1 : Int32) (H : Heap) (locs : List Loc) (ls : Array Slot), fX3_explained_L13 tsg row len x1 n v3_13 v4_13 = some o13_1 → va_P D vwCl ([(h3, .inr (3, [.ref h3_str, .ref h3_tlr, .ref h3_tsg])), (h3_str, .inl (cI, 40, .inl str)), (h3_tlr, .inl (cI, 240, .inl tlr)), (h3_tsg, .inl (cI, 240, .inl tsg)), (h2, .inr (2, [.ref h2_row, .ref h2_ten, .ref h2_pha, .int len, .int kep, .int wfi, .int wmo, .int hun])), (h2_row, .inl (cI, 240, .inl row)), (h2_ten, .inl (cI, 4, .inl ten)), (h2_pha, .inl (cI, 4, .inl pha))] ++ []) H → va_D A ([(h3, .inr (3, [.ref h3_str, .ref h3_tlr, .ref h3_tsg])), (h3_str, .inl (cI, 40, .inl str)), (h3_tlr, .inl (cI, 240, .inl tlr)), (h3_tsg, .inl (cI, 240, .inl tsg)), (h2, .inr (2, [.ref h2_row, .ref h2_ten, .ref h2_pha, .int len, .int kep, .int wfi, .int wmo, .int hun])), (h2_row, .inl (cI, 240, .inl row)), (h2_ten, .inl (cI, 4, .inl ten)), (h2_pha, .inl (cI, 4, .inl pha))] ++ []) → va_S A s.heap H locs → lv_has ls 5 [(0, .ref h3), (1, .ref h2), (2, .int x1), (3, .int v3_13), (4, .int v4_13)] → (∀ (H : Heap) (locs : List Loc) (ls : Array Slot), va_P D vwCl ([(h3, .inr (3, [.ref h3_str, .ref h3_tlr, .ref h3_tsg])), (h3_str, .inl (cI, 40, .inl str)), (h3_tlr, .inl (cI, 240, .inl tlr)), (h3_tsg, .inl (cI, 240, .inl tsg)), (h2, .inr (2, [.ref h2_row, .ref h2_ten, .ref h2_pha, .int len, .int kep, .int wfi, .int wmo, .int hun])), (h2_row, .inl (cI, 240, .inl row)), (h2_ten, .inl (cI, 4, .inl ten)), (h2_pha, .inl (cI, 4, .inl pha))] ++ []) H → va_D A ([(h3, .inr (3, [.ref h3_str, .ref h3_tlr, .ref h3_tsg])), (h3_str, .inl (cI, 40, .inl str)), (h3_tlr, .inl (cI, 240, .inl tlr)), (h3_tsg, .inl (cI, 240, .inl tsg)), (h2, .inr (2, [.ref h2_row, .ref h2_ten, .ref h2_pha, .int len, .int kep, .int wfi, .int wmo, .int hun])), (h2_row, .inl (cI, 240, .inl row)), (h2_ten, .inl (cI, 4, .inl ten)), (h2_pha, .inl (cI, 4, .inl pha))] ++ []) → va_S A s.heap H locs → lv_has ls 5 [(3, .int o13_1)] → W p l e rmX3_explained s m args below meth c H locs 0 0 Q (F0 m 38 ls [])) → W p l e rmX3_explained s m args below meth c H locs 0 0 Q (F0 m 13 ls []) := by
    intro n
    induction n with
    | zero =>
      intro v3_13 v4_13 o13_1 H locs ls h
      rw [fX3_explained_L13] at h
      cases h
    | succ n ih =>
      intro v3_13 v4_13 o13_1 H locs ls h hP hD hS hl K
      rw [fX3_explained_L13] at h
      refine lv_iload hx hb dX3_explained_13 (lv_at hl 4 rfl) ?_
      refine lv_iload_n hx hb dX3_explained_15 rfl (lv_at hl 2 rfl) ?_
      refine lv_icmp_ge (tgt := 38) hx hb dX3_explained_16 (by decide) (fun cq => ?_) (fun cq => ?_)
      · replace h := ifp cq h
        cases h
        exact K _ _ _ hP hD hS (lv_sub hl [3] rfl)
      · replace h := ifn cq h
        refine lv_aload_n hx hb dX3_explained_19 rfl (lv_at hl 0 rfl) ?_
        refine lv_aload_n hx hb dX3_explained_20 rfl (lv_at hl 1 rfl) ?_
        refine lv_iload hx hb dX3_explained_21 (lv_at hl 4 rfl) ?_
        obtain ⟨x3, hx3, h⟩ := bnd h
        refine pw_goi (wc := [(h3, .inr (3, [.ref h3_str, .ref h3_tlr, .ref h3_tsg])), (h3_str, .inl (cI, 40, .inl str)), (h3_tlr, .inl (cI, 240, .inl tlr)), (h3_tsg, .inl (cI, 240, .inl tsg)), (h2, .inr (2, [.ref h2_row, .ref h2_ten, .ref h2_pha, .int len, .int kep, .int wfi, .int wmo, .int hun])), (h2_row, .inl (cI, 240, .inl row)), (h2_ten, .inl (cI, 4, .inl ten)), (h2_pha, .inl (cI, 4, .inl pha))]) (w1 := [(h3, .inr (3, [.ref h3_str, .ref h3_tlr, .ref h3_tsg])), (h3_str, .inl (cI, 40, .inl str)), (h3_tlr, .inl (cI, 240, .inl tlr)), (h3_tsg, .inl (cI, 240, .inl tsg)), (h2, .inr (2, [.ref h2_row, .ref h2_ten, .ref h2_pha, .int len, .int kep, .int wfi, .int wmo, .int hun])), (h2_row, .inl (cI, 240, .inl row)), (h2_ten, .inl (cI, 4, .inl ten)), (h2_pha, .inl (cI, 4, .inl pha))]) (w2 := [(h3, .inr (3, [.ref h3_str, .ref h3_tlr, .ref h3_tsg])), (h3_str, .inl (cI, 40, .inl str)), (h3_tlr, .inl (cI, 240, .inl tlr)), (h3_tsg, .inl (cI, 240, .inl tsg)), (h2, .inr (2, [.ref h2_row, .ref h2_ten, .ref h2_pha, .int len, .int kep, .int wfi, .int wmo, .int hun])), (h2_row, .inl (cI, 240, .inl row)), (h2_ten, .inl (cI, 4, .inl ten)), (h2_pha, .inl (cI, 4, .inl pha))]) (va_runV (As := [.ref h2, .int v4_13]) (rest := []) ⟨hx, hb, hml, hown, hts⟩ (mX3_isExplained l D cI cO cJ h3 h3_str h3_tlr h3_tsg h2 h2_row h2_ten h2_pha H.size str tlr tsg row ten pha len kep wfi wmo hun v4_13 _ hx3) (cwV 2 hts gX3_explained_X3_isExplained rfl rfl rfl (by decide +kernel) ⟨Nat.le_of_ble_eq_true rfl, Nat.le_of_ble_eq_true rfl⟩) (pw_preV hK hN (pw_sub hP [0, 1, 2, 3, 4, 5, 6, 7] rfl) (pw_subD hD [0, 1, 2, 3, 4, 5, 6, 7] (by decide) rfl) (ci := 3) (q0 := 0) rfl rfl) rfl rfl hl.1 rfl (lv_room (Nat.le_of_ble_eq_true rfl)) dX3_explained_23 ⟨Nat.zero_le _, Nat.zero_le _⟩) hP hD hS hA [0, 1, 2, 3, 4, 5, 6, 7] [] [0, 1, 2, 3, 4, 5, 6, 7] rfl rfl (by decide) (by decide) (by decide) rfl (fun H locs hP hD hS => ?_)
        refine lv_if_eq (tgt := 32) hx hb dX3_explained_26 (by decide) (fun cq => ?_) (fun cq => ?_)
        · replace h := ifp cq h
          refine lv_iinc (v := (v4_13 + 1)) (lv' := [(4, .int (v4_13 + 1)), (0, .ref h3), (1, .ref h2), (2, .int x1), (3, .int v3_13)]) hx hb dX3_explained_32 hl (k := 4) rfl rfl (by decide) rfl (fun ls hl => ?_)
          refine lv_goto (tgt := 13) hx hb dX3_explained_35 (by decide) ?_
          exact ih _ _ _ _ _ _ h hP hD hS (lv_sub hl [1, 2, 3, 4, 0] rfl) K
        · replace h := ifn cq h
          refine lv_iinc (v := (v3_13 + 1)) (lv' := [(3, .int (v3_13 + 1)), (0, .ref h3), (1, .ref h2), (2, .int x1), (4, .int v4_13)]) hx hb dX3_explained_29 hl (k := 3) rfl rfl (by decide) rfl (fun ls hl => ?_)
          refine lv_iinc (v := (v4_13 + 1)) (lv' := [(4, .int (v4_13 + 1)), (3, .int (v3_13 + 1)), (0, .ref h3), (1, .ref h2), (2, .int x1)]) hx hb dX3_explained_32 hl (k := 4) rfl rfl (by decide) rfl (fun ls hl => ?_)
          refine lv_goto (tgt := 13) hx hb dX3_explained_35 (by decide) ?_
          exact ih _ _ _ _ _ _ h hP hD hS (lv_sub hl [2, 3, 4, 1, 0] rfl) K
  obtain ⟨x4, hx4, h⟩ := bnd h
  refine L13 FU _ _ _ _ _ _ hx4 hP hD hS (lv_sub hl [3, 4, 2, 1, 0] rfl) (fun H locs ls hP hD hS hl => ?_)
  refine lv_iload_n hx hb dX3_explained_38 rfl (lv_at hl 0 rfl) ?_
  cases h
  exact pw_iret hx hb hr hlocks hAe hQ hP hD hS dX3_explained_39
def fX3_placesToldBy_L14 (tlr : Nat → Int32) (a2 : Int32) (x1 : Int32) : Nat → Int32 → Int32 → Option Int32
  | 0, _, _ => none
  | n + 1, v4_14, v5_14 =>
    if x1 ≤ v5_14 then
    some v4_14
    else
    (fX3_tellerAt tlr v5_14).bind fun x3 =>
    if x3 = a2 then
    fX3_placesToldBy_L14 tlr a2 x1 n (v4_14 + 1) (v5_14 + 1)
    else
    fX3_placesToldBy_L14 tlr a2 x1 n v4_14 (v5_14 + 1)
def fX3_placesToldBy (tlr : Nat → Int32) (len : Int32) (wfi : Int32) (wmo : Int32) (a2 : Int32) : Option Int32 :=
  (fX2_windowEnd len wfi wmo).bind fun x1 =>
  (fX2_windowStart wfi wmo).bind fun x2 =>
  (fX3_placesToldBy_L14 tlr a2 x1 FU 0 x2).bind fun x4 =>
  some x4
abbrev rmX3_placesToldBy : Room := { frames := 3, cells := 0, slots := 0, locals := 61 }
set_option maxHeartbeats 4000000 in
set_option maxRecDepth 100000 in
theorem mX3_placesToldBy (l : Launch) (D : va_G) (cI cO cJ : ClassId) (h3 h3_str h3_tlr h3_tsg h2 h2_row h2_ten h2_pha : Nat) (sz : Nat) (str : Nat → Int32) (tlr : Nat → Int32) (tsg : Nat → Int32) (row : Nat → Int32) (ten : Nat → Int32) (pha : Nat → Int32) (len : Int32) (kep : Int32) (wfi : Int32) (wmo : Int32) (hun : Int32) (a2 : Int32) (z : Int32) (h : fX3_placesToldBy tlr len wfi wmo a2 = some z) : Met l yX3_placesToldBy wsX3_placesToldBy rmX3_placesToldBy (pw_pre D (tyL cI cO cJ) [.ref h3, .ref h2, .int a2] [(h3, .inr (3, [.ref h3_str, .ref h3_tlr, .ref h3_tsg])), (h3_str, .inl (cI, 40, .inl str)), (h3_tlr, .inl (cI, 240, .inl tlr)), (h3_tsg, .inl (cI, 240, .inl tsg)), (h2, .inr (2, [.ref h2_row, .ref h2_ten, .ref h2_pha, .int len, .int kep, .int wfi, .int wmo, .int hun])), (h2_row, .inl (cI, 240, .inl row)), (h2_ten, .inl (cI, 4, .inl ten)), (h2_pha, .inl (cI, 4, .inl pha))] sz) (pw_i D [(h3, .inr (3, [.ref h3_str, .ref h3_tlr, .ref h3_tsg])), (h3_str, .inl (cI, 40, .inl str)), (h3_tlr, .inl (cI, 240, .inl tlr)), (h3_tsg, .inl (cI, 240, .inl tsg)), (h2, .inr (2, [.ref h2_row, .ref h2_ten, .ref h2_pha, .int len, .int kep, .int wfi, .int wmo, .int hun])), (h2_row, .inl (cI, 240, .inl row)), (h2_ten, .inl (cI, 4, .inl ten)), (h2_pha, .inl (cI, 4, .inl pha))] [(h3, .inr (3, [.ref h3_str, .ref h3_tlr, .ref h3_tsg])), (h3_str, .inl (cI, 40, .inl str)), (h3_tlr, .inl (cI, 240, .inl tlr)), (h3_tsg, .inl (cI, 240, .inl tsg)), (h2, .inr (2, [.ref h2_row, .ref h2_ten, .ref h2_pha, .int len, .int kep, .int wfi, .int wmo, .int hun])), (h2_row, .inl (cI, 240, .inl row)), (h2_ten, .inl (cI, 4, .inl ten)), (h2_pha, .inl (cI, 4, .inl pha))] z sz) 0 0 (va_A [(h3, .inr (3, [.ref h3_str, .ref h3_tlr, .ref h3_tsg])), (h3_str, .inl (cI, 40, .inl str)), (h3_tlr, .inl (cI, 240, .inl tlr)), (h3_tsg, .inl (cI, 240, .inl tsg)), (h2, .inr (2, [.ref h2_row, .ref h2_ten, .ref h2_pha, .int len, .int kep, .int wfi, .int wmo, .int hun])), (h2_row, .inl (cI, 240, .inl row)), (h2_ten, .inl (cI, 4, .inl ten)), (h2_pha, .inl (cI, 4, .inl pha))] sz) := by
  refine pw_of (Qc := fun sz => pw_i D [(h3, .inr (3, [.ref h3_str, .ref h3_tlr, .ref h3_tsg])), (h3_str, .inl (cI, 40, .inl str)), (h3_tlr, .inl (cI, 240, .inl tlr)), (h3_tsg, .inl (cI, 240, .inl tsg)), (h2, .inr (2, [.ref h2_row, .ref h2_ten, .ref h2_pha, .int len, .int kep, .int wfi, .int wmo, .int hun])), (h2_row, .inl (cI, 240, .inl row)), (h2_ten, .inl (cI, 4, .inl ten)), (h2_pha, .inl (cI, 4, .inl pha))] [(h3, .inr (3, [.ref h3_str, .ref h3_tlr, .ref h3_tsg])), (h3_str, .inl (cI, 40, .inl str)), (h3_tlr, .inl (cI, 240, .inl tlr)), (h3_tsg, .inl (cI, 240, .inl tsg)), (h2, .inr (2, [.ref h2_row, .ref h2_ten, .ref h2_pha, .int len, .int kep, .int wfi, .int wmo, .int hun])), (h2_row, .inl (cI, 240, .inl row)), (h2_ten, .inl (cI, 4, .inl ten)), (h2_pha, .inl (cI, 4, .inl pha))] z sz) (cc := cX3_placesToldBy) (maxL := 6) (ret := (some .int)) (by decide) rfl (Nat.le_of_ble_eq_true rfl) ?_
  intro p e s m args below meth c A Q H ls hx hb hml hr hts hown hlocks hAe hQ hK hN hA hP hD hS hl
  have hown : s.vm.findClass RX3 = some m.cls := hown
  have hl : lv_has ls 6 [(0, .ref h3), (1, .ref h2), (2, .int a2)] := hl
  have hP : va_P D vwCl ([(h3, .inr (3, [.ref h3_str, .ref h3_tlr, .ref h3_tsg])), (h3_str, .inl (cI, 40, .inl str)), (h3_tlr, .inl (cI, 240, .inl tlr)), (h3_tsg, .inl (cI, 240, .inl tsg)), (h2, .inr (2, [.ref h2_row, .ref h2_ten, .ref h2_pha, .int len, .int kep, .int wfi, .int wmo, .int hun])), (h2_row, .inl (cI, 240, .inl row)), (h2_ten, .inl (cI, 4, .inl ten)), (h2_pha, .inl (cI, 4, .inl pha))] ++ []) H := hP
  have hD : va_D A ([(h3, .inr (3, [.ref h3_str, .ref h3_tlr, .ref h3_tsg])), (h3_str, .inl (cI, 40, .inl str)), (h3_tlr, .inl (cI, 240, .inl tlr)), (h3_tsg, .inl (cI, 240, .inl tsg)), (h2, .inr (2, [.ref h2_row, .ref h2_ten, .ref h2_pha, .int len, .int kep, .int wfi, .int wmo, .int hun])), (h2_row, .inl (cI, 240, .inl row)), (h2_ten, .inl (cI, 4, .inl ten)), (h2_pha, .inl (cI, 4, .inl pha))] ++ []) := hD
  unfold fX3_placesToldBy at h
  refine lv_aload_n hx hb dX3_placesToldBy_0 rfl (lv_at hl 1 rfl) ?_
  obtain ⟨x1, hx1, h⟩ := bnd h
  refine pw_goi (wc := [(h2, .inr (2, [.ref h2_row, .ref h2_ten, .ref h2_pha, .int len, .int kep, .int wfi, .int wmo, .int hun])), (h2_row, .inl (cI, 240, .inl row)), (h2_ten, .inl (cI, 4, .inl ten)), (h2_pha, .inl (cI, 4, .inl pha))]) (w1 := [(h2, .inr (2, [.ref h2_row, .ref h2_ten, .ref h2_pha, .int len, .int kep, .int wfi, .int wmo, .int hun])), (h2_row, .inl (cI, 240, .inl row)), (h2_ten, .inl (cI, 4, .inl ten)), (h2_pha, .inl (cI, 4, .inl pha))]) (w2 := [(h3, .inr (3, [.ref h3_str, .ref h3_tlr, .ref h3_tsg])), (h3_str, .inl (cI, 40, .inl str)), (h3_tlr, .inl (cI, 240, .inl tlr)), (h3_tsg, .inl (cI, 240, .inl tsg)), (h2, .inr (2, [.ref h2_row, .ref h2_ten, .ref h2_pha, .int len, .int kep, .int wfi, .int wmo, .int hun])), (h2_row, .inl (cI, 240, .inl row)), (h2_ten, .inl (cI, 4, .inl ten)), (h2_pha, .inl (cI, 4, .inl pha))]) (va_runV (As := []) (rest := []) ⟨hx, hb, hml, hown, hts⟩ (mX2_windowEnd l D cI cO cJ h2 h2_row h2_ten h2_pha H.size row ten pha len kep wfi wmo hun _ hx1) (cwV 0 hts gX3_placesToldBy_X2_windowEnd rfl rfl rfl (by decide +kernel) ⟨Nat.le_of_ble_eq_true rfl, Nat.le_of_ble_eq_true rfl⟩) (pw_preV hK hN (pw_sub hP [4, 5, 6, 7] rfl) (pw_subD hD [4, 5, 6, 7] (by decide) rfl) (ci := 2) (q0 := 0) rfl rfl) rfl rfl hl.1 rfl (lv_room (Nat.le_of_ble_eq_true rfl)) dX3_placesToldBy_1 ⟨Nat.zero_le _, Nat.zero_le _⟩) hP hD hS hA [4, 5, 6, 7] [0, 1, 2, 3] [0, 1, 2, 3, 4, 5, 6, 7] rfl rfl (by decide) (by decide) (by decide) rfl (fun H locs hP hD hS => ?_)
  refine lv_istore_n (lv' := [(3, .int x1), (0, .ref h3), (1, .ref h2), (2, .int a2)]) hx hb dX3_placesToldBy_4 rfl hl (by decide) rfl (fun ls hl => ?_)
  refine lv_iconst (v := 0) hx hb dX3_placesToldBy_5 (by decide) ?_
  refine lv_istore (lv' := [(4, .int 0), (3, .int x1), (0, .ref h3), (1, .ref h2), (2, .int a2)]) hx hb dX3_placesToldBy_6 hl (by decide) rfl (fun ls hl => ?_)
  refine lv_aload_n hx hb dX3_placesToldBy_8 rfl (lv_at hl 3 rfl) ?_
  obtain ⟨x2, hx2, h⟩ := bnd h
  refine pw_goi (wc := [(h2, .inr (2, [.ref h2_row, .ref h2_ten, .ref h2_pha, .int len, .int kep, .int wfi, .int wmo, .int hun])), (h2_row, .inl (cI, 240, .inl row)), (h2_ten, .inl (cI, 4, .inl ten)), (h2_pha, .inl (cI, 4, .inl pha))]) (w1 := [(h2, .inr (2, [.ref h2_row, .ref h2_ten, .ref h2_pha, .int len, .int kep, .int wfi, .int wmo, .int hun])), (h2_row, .inl (cI, 240, .inl row)), (h2_ten, .inl (cI, 4, .inl ten)), (h2_pha, .inl (cI, 4, .inl pha))]) (w2 := [(h3, .inr (3, [.ref h3_str, .ref h3_tlr, .ref h3_tsg])), (h3_str, .inl (cI, 40, .inl str)), (h3_tlr, .inl (cI, 240, .inl tlr)), (h3_tsg, .inl (cI, 240, .inl tsg)), (h2, .inr (2, [.ref h2_row, .ref h2_ten, .ref h2_pha, .int len, .int kep, .int wfi, .int wmo, .int hun])), (h2_row, .inl (cI, 240, .inl row)), (h2_ten, .inl (cI, 4, .inl ten)), (h2_pha, .inl (cI, 4, .inl pha))]) (va_runV (As := []) (rest := []) ⟨hx, hb, hml, hown, hts⟩ (mX2_windowStart l D cI cO cJ h2 h2_row h2_ten h2_pha H.size row ten pha len kep wfi wmo hun _ hx2) (cwV 0 hts gX3_placesToldBy_X2_windowStart rfl rfl rfl (by decide +kernel) ⟨Nat.le_of_ble_eq_true rfl, Nat.le_of_ble_eq_true rfl⟩) (pw_preV hK hN (pw_sub hP [4, 5, 6, 7] rfl) (pw_subD hD [4, 5, 6, 7] (by decide) rfl) (ci := 2) (q0 := 0) rfl rfl) rfl rfl hl.1 rfl (lv_room (Nat.le_of_ble_eq_true rfl)) dX3_placesToldBy_9 ⟨Nat.zero_le _, Nat.zero_le _⟩) hP hD hS hA [4, 5, 6, 7] [0, 1, 2, 3] [0, 1, 2, 3, 4, 5, 6, 7] rfl rfl (by decide) (by decide) (by decide) rfl (fun H locs hP hD hS => ?_)
  refine lv_istore (lv' := [(5, .int x2), (4, .int 0), (3, .int x1), (0, .ref h3), (1, .ref h2), (2, .int a2)]) hx hb dX3_placesToldBy_12 hl (by decide) rfl (fun ls hl => ?_)
  have L14 : ∀ (n : Nat) (v4_14 : Int32) (v5_14 : Int32) (o14_1 : Int32) (H : Heap) (locs : List Loc) (ls : Array Slot), fX3_placesToldBy_L14 tlr a2 x1 n v4_14 v5_14 = some o14_1 → va_P D vwCl ([(h3, .inr (3, [.ref h3_str, .ref h3_tlr, .ref h3_tsg])), (h3_str, .inl (cI, 40, .inl str)), (h3_tlr, .inl (cI, 240, .inl tlr)), (h3_tsg, .inl (cI, 240, .inl tsg)), (h2, .inr (2, [.ref h2_row, .ref h2_ten, .ref h2_pha, .int len, .int kep, .int wfi, .int wmo, .int hun])), (h2_row, .inl (cI, 240, .inl row)), (h2_ten, .inl (cI, 4, .inl ten)), (h2_pha, .inl (cI, 4, .inl pha))] ++ []) H → va_D A ([(h3, .inr (3, [.ref h3_str, .ref h3_tlr, .ref h3_tsg])), (h3_str, .inl (cI, 40, .inl str)), (h3_tlr, .inl (cI, 240, .inl tlr)), (h3_tsg, .inl (cI, 240, .inl tsg)), (h2, .inr (2, [.ref h2_row, .ref h2_ten, .ref h2_pha, .int len, .int kep, .int wfi, .int wmo, .int hun])), (h2_row, .inl (cI, 240, .inl row)), (h2_ten, .inl (cI, 4, .inl ten)), (h2_pha, .inl (cI, 4, .inl pha))] ++ []) → va_S A s.heap H locs → lv_has ls 6 [(0, .ref h3), (2, .int a2), (3, .int x1), (4, .int v4_14), (5, .int v5_14)] → (∀ (H : Heap) (locs : List Loc) (ls : Array Slot), va_P D vwCl ([(h3, .inr (3, [.ref h3_str, .ref h3_tlr, .ref h3_tsg])), (h3_str, .inl (cI, 40, .inl str)), (h3_tlr, .inl (cI, 240, .inl tlr)), (h3_tsg, .inl (cI, 240, .inl tsg)), (h2, .inr (2, [.ref h2_row, .ref h2_ten, .ref h2_pha, .int len, .int kep, .int wfi, .int wmo, .int hun])), (h2_row, .inl (cI, 240, .inl row)), (h2_ten, .inl (cI, 4, .inl ten)), (h2_pha, .inl (cI, 4, .inl pha))] ++ []) H → va_D A ([(h3, .inr (3, [.ref h3_str, .ref h3_tlr, .ref h3_tsg])), (h3_str, .inl (cI, 40, .inl str)), (h3_tlr, .inl (cI, 240, .inl tlr)), (h3_tsg, .inl (cI, 240, .inl tsg)), (h2, .inr (2, [.ref h2_row, .ref h2_ten, .ref h2_pha, .int len, .int kep, .int wfi, .int wmo, .int hun])), (h2_row, .inl (cI, 240, .inl row)), (h2_ten, .inl (cI, 4, .inl ten)), (h2_pha, .inl (cI, 4, .inl pha))] ++ []) → va_S A s.heap H locs → lv_has ls 6 [(4, .int o14_1)] → W p l e rmX3_placesToldBy s m args below meth c H locs 0 0 Q (F0 m 39 ls [])) → W p l e rmX3_placesToldBy s m args below meth c H locs 0 0 Q (F0 m 14 ls []) := by
    intro n
    induction n with
    | zero =>
      intro v4_14 v5_14 o14_1 H locs ls h
      rw [fX3_placesToldBy_L14] at h
      cases h
    | succ n ih =>
      intro v4_14 v5_14 o14_1 H locs ls h hP hD hS hl K
      rw [fX3_placesToldBy_L14] at h
      refine lv_iload hx hb dX3_placesToldBy_14 (lv_at hl 4 rfl) ?_
      refine lv_iload_n hx hb dX3_placesToldBy_16 rfl (lv_at hl 2 rfl) ?_
      refine lv_icmp_ge (tgt := 39) hx hb dX3_placesToldBy_17 (by decide) (fun cq => ?_) (fun cq => ?_)
      · replace h := ifp cq h
        cases h
        exact K _ _ _ hP hD hS (lv_sub hl [3] rfl)
      · replace h := ifn cq h
        refine lv_aload_n hx hb dX3_placesToldBy_20 rfl (lv_at hl 0 rfl) ?_
        refine lv_iload hx hb dX3_placesToldBy_21 (lv_at hl 4 rfl) ?_
        obtain ⟨x3, hx3, h⟩ := bnd h
        refine pw_goi (wc := [(h3, .inr (3, [.ref h3_str, .ref h3_tlr, .ref h3_tsg])), (h3_str, .inl (cI, 40, .inl str)), (h3_tlr, .inl (cI, 240, .inl tlr)), (h3_tsg, .inl (cI, 240, .inl tsg))]) (w1 := [(h3, .inr (3, [.ref h3_str, .ref h3_tlr, .ref h3_tsg])), (h3_str, .inl (cI, 40, .inl str)), (h3_tlr, .inl (cI, 240, .inl tlr)), (h3_tsg, .inl (cI, 240, .inl tsg))]) (w2 := [(h3, .inr (3, [.ref h3_str, .ref h3_tlr, .ref h3_tsg])), (h3_str, .inl (cI, 40, .inl str)), (h3_tlr, .inl (cI, 240, .inl tlr)), (h3_tsg, .inl (cI, 240, .inl tsg)), (h2, .inr (2, [.ref h2_row, .ref h2_ten, .ref h2_pha, .int len, .int kep, .int wfi, .int wmo, .int hun])), (h2_row, .inl (cI, 240, .inl row)), (h2_ten, .inl (cI, 4, .inl ten)), (h2_pha, .inl (cI, 4, .inl pha))]) (va_runV (As := [.int v5_14]) (rest := []) ⟨hx, hb, hml, hown, hts⟩ (mX3_tellerAt l D cI cO cJ h3 h3_str h3_tlr h3_tsg H.size str tlr tsg v5_14 _ hx3) (cwV 1 hts gX3_placesToldBy_X3_tellerAt rfl rfl rfl (by decide +kernel) ⟨Nat.le_of_ble_eq_true rfl, Nat.le_of_ble_eq_true rfl⟩) (pw_preV hK hN (pw_sub hP [0, 1, 2, 3] rfl) (pw_subD hD [0, 1, 2, 3] (by decide) rfl) (ci := 3) (q0 := 0) rfl rfl) rfl rfl hl.1 rfl (lv_room (Nat.le_of_ble_eq_true rfl)) dX3_placesToldBy_23 ⟨Nat.zero_le _, Nat.zero_le _⟩) hP hD hS hA [0, 1, 2, 3] [4, 5, 6, 7] [4, 5, 6, 7, 0, 1, 2, 3] rfl rfl (by decide) (by decide) (by decide) rfl (fun H locs hP hD hS => ?_)
        refine lv_iload_n hx hb dX3_placesToldBy_26 rfl (lv_at hl 1 rfl) ?_
        refine lv_icmp_ne (tgt := 33) hx hb dX3_placesToldBy_27 (by decide) (fun cq => ?_) (fun cq => ?_)
        · replace h := ifn cq h
          refine lv_iinc (v := (v5_14 + 1)) (lv' := [(5, .int (v5_14 + 1)), (0, .ref h3), (2, .int a2), (3, .int x1), (4, .int v4_14)]) hx hb dX3_placesToldBy_33 hl (k := 4) rfl rfl (by decide) rfl (fun ls hl => ?_)
          refine lv_goto (tgt := 14) hx hb dX3_placesToldBy_36 (by decide) ?_
          exact ih _ _ _ _ _ _ h hP hD hS (lv_sub hl [1, 2, 3, 4, 0] rfl) K
        · replace h := ifp cq h
          refine lv_iinc (v := (v4_14 + 1)) (lv' := [(4, .int (v4_14 + 1)), (0, .ref h3), (2, .int a2), (3, .int x1), (5, .int v5_14)]) hx hb dX3_placesToldBy_30 hl (k := 3) rfl rfl (by decide) rfl (fun ls hl => ?_)
          refine lv_iinc (v := (v5_14 + 1)) (lv' := [(5, .int (v5_14 + 1)), (4, .int (v4_14 + 1)), (0, .ref h3), (2, .int a2), (3, .int x1)]) hx hb dX3_placesToldBy_33 hl (k := 4) rfl rfl (by decide) rfl (fun ls hl => ?_)
          refine lv_goto (tgt := 14) hx hb dX3_placesToldBy_36 (by decide) ?_
          exact ih _ _ _ _ _ _ h hP hD hS (lv_sub hl [2, 3, 4, 1, 0] rfl) K
  obtain ⟨x4, hx4, h⟩ := bnd h
  refine L14 FU _ _ _ _ _ _ hx4 hP hD hS (lv_sub hl [3, 5, 2, 1, 0] rfl) (fun H locs ls hP hD hS hl => ?_)
  refine lv_iload hx hb dX3_placesToldBy_39 (lv_at hl 0 rfl) ?_
  cases h
  exact pw_iret hx hb hr hlocks hAe hQ hP hD hS dX3_placesToldBy_41
def fX3_longestStretch_L16 (tsg : Nat → Int32) (row : Nat → Int32) (len : Int32) (x1 : Int32) : Nat → Int32 → Int32 → Int32 → Option Int32
  | 0, _, _, _ => none
  | n + 1, v3_16, v4_16, v5_16 =>
    if x1 ≤ v5_16 then
    some v3_16
    else
    (fX3_isExplained tsg row len v5_16).bind fun x3 =>
    (if x3 = 0 then
    some 0
    else
    some (v4_16 + 1) : Option Int32).bind fun x4 =>
    fX3_longestStretch_L16 tsg row len x1 n (if v3_16 < x4 then x4 else v3_16) x4 (v5_16 + 1)
def fX3_longestStretch (tsg : Nat → Int32) (row : Nat → Int32) (len : Int32) (wfi : Int32) (wmo : Int32) : Option Int32 :=
  (fX2_windowEnd len wfi wmo).bind fun x1 =>
  (fX2_windowStart wfi wmo).bind fun x2 =>
  (fX3_longestStretch_L16 tsg row len x1 FU 0 0 x2).bind fun x5 =>
  some x5
abbrev rmX3_longestStretch : Room := { frames := 3, cells := 0, slots := 0, locals := 65 }
set_option maxHeartbeats 4000000 in
set_option maxRecDepth 100000 in
theorem mX3_longestStretch (l : Launch) (D : va_G) (cI cO cJ : ClassId) (h3 h3_str h3_tlr h3_tsg h2 h2_row h2_ten h2_pha : Nat) (sz : Nat) (str : Nat → Int32) (tlr : Nat → Int32) (tsg : Nat → Int32) (row : Nat → Int32) (ten : Nat → Int32) (pha : Nat → Int32) (len : Int32) (kep : Int32) (wfi : Int32) (wmo : Int32) (hun : Int32) (z : Int32) (h : fX3_longestStretch tsg row len wfi wmo = some z) : Met l yX3_longestStretch wsX3_longestStretch rmX3_longestStretch (pw_pre D (tyL cI cO cJ) [.ref h3, .ref h2] [(h3, .inr (3, [.ref h3_str, .ref h3_tlr, .ref h3_tsg])), (h3_str, .inl (cI, 40, .inl str)), (h3_tlr, .inl (cI, 240, .inl tlr)), (h3_tsg, .inl (cI, 240, .inl tsg)), (h2, .inr (2, [.ref h2_row, .ref h2_ten, .ref h2_pha, .int len, .int kep, .int wfi, .int wmo, .int hun])), (h2_row, .inl (cI, 240, .inl row)), (h2_ten, .inl (cI, 4, .inl ten)), (h2_pha, .inl (cI, 4, .inl pha))] sz) (pw_i D [(h3, .inr (3, [.ref h3_str, .ref h3_tlr, .ref h3_tsg])), (h3_str, .inl (cI, 40, .inl str)), (h3_tlr, .inl (cI, 240, .inl tlr)), (h3_tsg, .inl (cI, 240, .inl tsg)), (h2, .inr (2, [.ref h2_row, .ref h2_ten, .ref h2_pha, .int len, .int kep, .int wfi, .int wmo, .int hun])), (h2_row, .inl (cI, 240, .inl row)), (h2_ten, .inl (cI, 4, .inl ten)), (h2_pha, .inl (cI, 4, .inl pha))] [(h3, .inr (3, [.ref h3_str, .ref h3_tlr, .ref h3_tsg])), (h3_str, .inl (cI, 40, .inl str)), (h3_tlr, .inl (cI, 240, .inl tlr)), (h3_tsg, .inl (cI, 240, .inl tsg)), (h2, .inr (2, [.ref h2_row, .ref h2_ten, .ref h2_pha, .int len, .int kep, .int wfi, .int wmo, .int hun])), (h2_row, .inl (cI, 240, .inl row)), (h2_ten, .inl (cI, 4, .inl ten)), (h2_pha, .inl (cI, 4, .inl pha))] z sz) 0 0 (va_A [(h3, .inr (3, [.ref h3_str, .ref h3_tlr, .ref h3_tsg])), (h3_str, .inl (cI, 40, .inl str)), (h3_tlr, .inl (cI, 240, .inl tlr)), (h3_tsg, .inl (cI, 240, .inl tsg)), (h2, .inr (2, [.ref h2_row, .ref h2_ten, .ref h2_pha, .int len, .int kep, .int wfi, .int wmo, .int hun])), (h2_row, .inl (cI, 240, .inl row)), (h2_ten, .inl (cI, 4, .inl ten)), (h2_pha, .inl (cI, 4, .inl pha))] sz) := by
  refine pw_of (Qc := fun sz => pw_i D [(h3, .inr (3, [.ref h3_str, .ref h3_tlr, .ref h3_tsg])), (h3_str, .inl (cI, 40, .inl str)), (h3_tlr, .inl (cI, 240, .inl tlr)), (h3_tsg, .inl (cI, 240, .inl tsg)), (h2, .inr (2, [.ref h2_row, .ref h2_ten, .ref h2_pha, .int len, .int kep, .int wfi, .int wmo, .int hun])), (h2_row, .inl (cI, 240, .inl row)), (h2_ten, .inl (cI, 4, .inl ten)), (h2_pha, .inl (cI, 4, .inl pha))] [(h3, .inr (3, [.ref h3_str, .ref h3_tlr, .ref h3_tsg])), (h3_str, .inl (cI, 40, .inl str)), (h3_tlr, .inl (cI, 240, .inl tlr)), (h3_tsg, .inl (cI, 240, .inl tsg)), (h2, .inr (2, [.ref h2_row, .ref h2_ten, .ref h2_pha, .int len, .int kep, .int wfi, .int wmo, .int hun])), (h2_row, .inl (cI, 240, .inl row)), (h2_ten, .inl (cI, 4, .inl ten)), (h2_pha, .inl (cI, 4, .inl pha))] z sz) (cc := cX3_longestStretch) (maxL := 6) (ret := (some .int)) (by decide) rfl (Nat.le_of_ble_eq_true rfl) ?_
  intro p e s m args below meth c A Q H ls hx hb hml hr hts hown hlocks hAe hQ hK hN hA hP hD hS hl
  have hown : s.vm.findClass RX3 = some m.cls := hown
  have hl : lv_has ls 6 [(0, .ref h3), (1, .ref h2)] := hl
  have hP : va_P D vwCl ([(h3, .inr (3, [.ref h3_str, .ref h3_tlr, .ref h3_tsg])), (h3_str, .inl (cI, 40, .inl str)), (h3_tlr, .inl (cI, 240, .inl tlr)), (h3_tsg, .inl (cI, 240, .inl tsg)), (h2, .inr (2, [.ref h2_row, .ref h2_ten, .ref h2_pha, .int len, .int kep, .int wfi, .int wmo, .int hun])), (h2_row, .inl (cI, 240, .inl row)), (h2_ten, .inl (cI, 4, .inl ten)), (h2_pha, .inl (cI, 4, .inl pha))] ++ []) H := hP
  have hD : va_D A ([(h3, .inr (3, [.ref h3_str, .ref h3_tlr, .ref h3_tsg])), (h3_str, .inl (cI, 40, .inl str)), (h3_tlr, .inl (cI, 240, .inl tlr)), (h3_tsg, .inl (cI, 240, .inl tsg)), (h2, .inr (2, [.ref h2_row, .ref h2_ten, .ref h2_pha, .int len, .int kep, .int wfi, .int wmo, .int hun])), (h2_row, .inl (cI, 240, .inl row)), (h2_ten, .inl (cI, 4, .inl ten)), (h2_pha, .inl (cI, 4, .inl pha))] ++ []) := hD
  unfold fX3_longestStretch at h
  refine lv_aload_n hx hb dX3_longestStretch_0 rfl (lv_at hl 1 rfl) ?_
  obtain ⟨x1, hx1, h⟩ := bnd h
  refine pw_goi (wc := [(h2, .inr (2, [.ref h2_row, .ref h2_ten, .ref h2_pha, .int len, .int kep, .int wfi, .int wmo, .int hun])), (h2_row, .inl (cI, 240, .inl row)), (h2_ten, .inl (cI, 4, .inl ten)), (h2_pha, .inl (cI, 4, .inl pha))]) (w1 := [(h2, .inr (2, [.ref h2_row, .ref h2_ten, .ref h2_pha, .int len, .int kep, .int wfi, .int wmo, .int hun])), (h2_row, .inl (cI, 240, .inl row)), (h2_ten, .inl (cI, 4, .inl ten)), (h2_pha, .inl (cI, 4, .inl pha))]) (w2 := [(h3, .inr (3, [.ref h3_str, .ref h3_tlr, .ref h3_tsg])), (h3_str, .inl (cI, 40, .inl str)), (h3_tlr, .inl (cI, 240, .inl tlr)), (h3_tsg, .inl (cI, 240, .inl tsg)), (h2, .inr (2, [.ref h2_row, .ref h2_ten, .ref h2_pha, .int len, .int kep, .int wfi, .int wmo, .int hun])), (h2_row, .inl (cI, 240, .inl row)), (h2_ten, .inl (cI, 4, .inl ten)), (h2_pha, .inl (cI, 4, .inl pha))]) (va_runV (As := []) (rest := []) ⟨hx, hb, hml, hown, hts⟩ (mX2_windowEnd l D cI cO cJ h2 h2_row h2_ten h2_pha H.size row ten pha len kep wfi wmo hun _ hx1) (cwV 0 hts gX3_longestStretch_X2_windowEnd rfl rfl rfl (by decide +kernel) ⟨Nat.le_of_ble_eq_true rfl, Nat.le_of_ble_eq_true rfl⟩) (pw_preV hK hN (pw_sub hP [4, 5, 6, 7] rfl) (pw_subD hD [4, 5, 6, 7] (by decide) rfl) (ci := 2) (q0 := 0) rfl rfl) rfl rfl hl.1 rfl (lv_room (Nat.le_of_ble_eq_true rfl)) dX3_longestStretch_1 ⟨Nat.zero_le _, Nat.zero_le _⟩) hP hD hS hA [4, 5, 6, 7] [0, 1, 2, 3] [0, 1, 2, 3, 4, 5, 6, 7] rfl rfl (by decide) (by decide) (by decide) rfl (fun H locs hP hD hS => ?_)
  refine lv_istore_n (lv' := [(2, .int x1), (0, .ref h3), (1, .ref h2)]) hx hb dX3_longestStretch_4 rfl hl (by decide) rfl (fun ls hl => ?_)
  refine lv_iconst (v := 0) hx hb dX3_longestStretch_5 (by decide) ?_
  refine lv_istore_n (lv' := [(3, .int 0), (2, .int x1), (0, .ref h3), (1, .ref h2)]) hx hb dX3_longestStretch_6 rfl hl (by decide) rfl (fun ls hl => ?_)
  refine lv_iconst (v := 0) hx hb dX3_longestStretch_7 (by decide) ?_
  refine lv_istore (lv' := [(4, .int 0), (3, .int 0), (2, .int x1), (0, .ref h3), (1, .ref h2)]) hx hb dX3_longestStretch_8 hl (by decide) rfl (fun ls hl => ?_)
  refine lv_aload_n hx hb dX3_longestStretch_10 rfl (lv_at hl 4 rfl) ?_
  obtain ⟨x2, hx2, h⟩ := bnd h
  refine pw_goi (wc := [(h2, .inr (2, [.ref h2_row, .ref h2_ten, .ref h2_pha, .int len, .int kep, .int wfi, .int wmo, .int hun])), (h2_row, .inl (cI, 240, .inl row)), (h2_ten, .inl (cI, 4, .inl ten)), (h2_pha, .inl (cI, 4, .inl pha))]) (w1 := [(h2, .inr (2, [.ref h2_row, .ref h2_ten, .ref h2_pha, .int len, .int kep, .int wfi, .int wmo, .int hun])), (h2_row, .inl (cI, 240, .inl row)), (h2_ten, .inl (cI, 4, .inl ten)), (h2_pha, .inl (cI, 4, .inl pha))]) (w2 := [(h3, .inr (3, [.ref h3_str, .ref h3_tlr, .ref h3_tsg])), (h3_str, .inl (cI, 40, .inl str)), (h3_tlr, .inl (cI, 240, .inl tlr)), (h3_tsg, .inl (cI, 240, .inl tsg)), (h2, .inr (2, [.ref h2_row, .ref h2_ten, .ref h2_pha, .int len, .int kep, .int wfi, .int wmo, .int hun])), (h2_row, .inl (cI, 240, .inl row)), (h2_ten, .inl (cI, 4, .inl ten)), (h2_pha, .inl (cI, 4, .inl pha))]) (va_runV (As := []) (rest := []) ⟨hx, hb, hml, hown, hts⟩ (mX2_windowStart l D cI cO cJ h2 h2_row h2_ten h2_pha H.size row ten pha len kep wfi wmo hun _ hx2) (cwV 0 hts gX3_longestStretch_X2_windowStart rfl rfl rfl (by decide +kernel) ⟨Nat.le_of_ble_eq_true rfl, Nat.le_of_ble_eq_true rfl⟩) (pw_preV hK hN (pw_sub hP [4, 5, 6, 7] rfl) (pw_subD hD [4, 5, 6, 7] (by decide) rfl) (ci := 2) (q0 := 0) rfl rfl) rfl rfl hl.1 rfl (lv_room (Nat.le_of_ble_eq_true rfl)) dX3_longestStretch_11 ⟨Nat.zero_le _, Nat.zero_le _⟩) hP hD hS hA [4, 5, 6, 7] [0, 1, 2, 3] [0, 1, 2, 3, 4, 5, 6, 7] rfl rfl (by decide) (by decide) (by decide) rfl (fun H locs hP hD hS => ?_)
  refine lv_istore (lv' := [(5, .int x2), (4, .int 0), (3, .int 0), (2, .int x1), (0, .ref h3), (1, .ref h2)]) hx hb dX3_longestStretch_14 hl (by decide) rfl (fun ls hl => ?_)
  have L16 : ∀ (n : Nat) (v3_16 : Int32) (v4_16 : Int32) (v5_16 : Int32) (o16_1 : Int32) (H : Heap) (locs : List Loc) (ls : Array Slot), fX3_longestStretch_L16 tsg row len x1 n v3_16 v4_16 v5_16 = some o16_1 → va_P D vwCl ([(h3, .inr (3, [.ref h3_str, .ref h3_tlr, .ref h3_tsg])), (h3_str, .inl (cI, 40, .inl str)), (h3_tlr, .inl (cI, 240, .inl tlr)), (h3_tsg, .inl (cI, 240, .inl tsg)), (h2, .inr (2, [.ref h2_row, .ref h2_ten, .ref h2_pha, .int len, .int kep, .int wfi, .int wmo, .int hun])), (h2_row, .inl (cI, 240, .inl row)), (h2_ten, .inl (cI, 4, .inl ten)), (h2_pha, .inl (cI, 4, .inl pha))] ++ []) H → va_D A ([(h3, .inr (3, [.ref h3_str, .ref h3_tlr, .ref h3_tsg])), (h3_str, .inl (cI, 40, .inl str)), (h3_tlr, .inl (cI, 240, .inl tlr)), (h3_tsg, .inl (cI, 240, .inl tsg)), (h2, .inr (2, [.ref h2_row, .ref h2_ten, .ref h2_pha, .int len, .int kep, .int wfi, .int wmo, .int hun])), (h2_row, .inl (cI, 240, .inl row)), (h2_ten, .inl (cI, 4, .inl ten)), (h2_pha, .inl (cI, 4, .inl pha))] ++ []) → va_S A s.heap H locs → lv_has ls 6 [(0, .ref h3), (1, .ref h2), (2, .int x1), (3, .int v3_16), (4, .int v4_16), (5, .int v5_16)] → (∀ (H : Heap) (locs : List Loc) (ls : Array Slot), va_P D vwCl ([(h3, .inr (3, [.ref h3_str, .ref h3_tlr, .ref h3_tsg])), (h3_str, .inl (cI, 40, .inl str)), (h3_tlr, .inl (cI, 240, .inl tlr)), (h3_tsg, .inl (cI, 240, .inl tsg)), (h2, .inr (2, [.ref h2_row, .ref h2_ten, .ref h2_pha, .int len, .int kep, .int wfi, .int wmo, .int hun])), (h2_row, .inl (cI, 240, .inl row)), (h2_ten, .inl (cI, 4, .inl ten)), (h2_pha, .inl (cI, 4, .inl pha))] ++ []) H → va_D A ([(h3, .inr (3, [.ref h3_str, .ref h3_tlr, .ref h3_tsg])), (h3_str, .inl (cI, 40, .inl str)), (h3_tlr, .inl (cI, 240, .inl tlr)), (h3_tsg, .inl (cI, 240, .inl tsg)), (h2, .inr (2, [.ref h2_row, .ref h2_ten, .ref h2_pha, .int len, .int kep, .int wfi, .int wmo, .int hun])), (h2_row, .inl (cI, 240, .inl row)), (h2_ten, .inl (cI, 4, .inl ten)), (h2_pha, .inl (cI, 4, .inl pha))] ++ []) → va_S A s.heap H locs → lv_has ls 6 [(3, .int o16_1)] → W p l e rmX3_longestStretch s m args below meth c H locs 0 0 Q (F0 m 55 ls [])) → W p l e rmX3_longestStretch s m args below meth c H locs 0 0 Q (F0 m 16 ls []) := by
    intro n
    induction n with
    | zero =>
      intro v3_16 v4_16 v5_16 o16_1 H locs ls h
      rw [fX3_longestStretch_L16] at h
      cases h
    | succ n ih =>
      intro v3_16 v4_16 v5_16 o16_1 H locs ls h hP hD hS hl K
      rw [fX3_longestStretch_L16] at h
      refine lv_iload hx hb dX3_longestStretch_16 (lv_at hl 5 rfl) ?_
      refine lv_iload_n hx hb dX3_longestStretch_18 rfl (lv_at hl 2 rfl) ?_
      refine lv_icmp_ge (tgt := 55) hx hb dX3_longestStretch_19 (by decide) (fun cq => ?_) (fun cq => ?_)
      · replace h := ifp cq h
        cases h
        exact K _ _ _ hP hD hS (lv_sub hl [3] rfl)
      · replace h := ifn cq h
        refine lv_aload_n hx hb dX3_longestStretch_22 rfl (lv_at hl 0 rfl) ?_
        refine lv_aload_n hx hb dX3_longestStretch_23 rfl (lv_at hl 1 rfl) ?_
        refine lv_iload hx hb dX3_longestStretch_24 (lv_at hl 5 rfl) ?_
        obtain ⟨x3, hx3, h⟩ := bnd h
        refine pw_goi (wc := [(h3, .inr (3, [.ref h3_str, .ref h3_tlr, .ref h3_tsg])), (h3_str, .inl (cI, 40, .inl str)), (h3_tlr, .inl (cI, 240, .inl tlr)), (h3_tsg, .inl (cI, 240, .inl tsg)), (h2, .inr (2, [.ref h2_row, .ref h2_ten, .ref h2_pha, .int len, .int kep, .int wfi, .int wmo, .int hun])), (h2_row, .inl (cI, 240, .inl row)), (h2_ten, .inl (cI, 4, .inl ten)), (h2_pha, .inl (cI, 4, .inl pha))]) (w1 := [(h3, .inr (3, [.ref h3_str, .ref h3_tlr, .ref h3_tsg])), (h3_str, .inl (cI, 40, .inl str)), (h3_tlr, .inl (cI, 240, .inl tlr)), (h3_tsg, .inl (cI, 240, .inl tsg)), (h2, .inr (2, [.ref h2_row, .ref h2_ten, .ref h2_pha, .int len, .int kep, .int wfi, .int wmo, .int hun])), (h2_row, .inl (cI, 240, .inl row)), (h2_ten, .inl (cI, 4, .inl ten)), (h2_pha, .inl (cI, 4, .inl pha))]) (w2 := [(h3, .inr (3, [.ref h3_str, .ref h3_tlr, .ref h3_tsg])), (h3_str, .inl (cI, 40, .inl str)), (h3_tlr, .inl (cI, 240, .inl tlr)), (h3_tsg, .inl (cI, 240, .inl tsg)), (h2, .inr (2, [.ref h2_row, .ref h2_ten, .ref h2_pha, .int len, .int kep, .int wfi, .int wmo, .int hun])), (h2_row, .inl (cI, 240, .inl row)), (h2_ten, .inl (cI, 4, .inl ten)), (h2_pha, .inl (cI, 4, .inl pha))]) (va_runV (As := [.ref h2, .int v5_16]) (rest := []) ⟨hx, hb, hml, hown, hts⟩ (mX3_isExplained l D cI cO cJ h3 h3_str h3_tlr h3_tsg h2 h2_row h2_ten h2_pha H.size str tlr tsg row ten pha len kep wfi wmo hun v5_16 _ hx3) (cwV 2 hts gX3_longestStretch_X3_isExplained rfl rfl rfl (by decide +kernel) ⟨Nat.le_of_ble_eq_true rfl, Nat.le_of_ble_eq_true rfl⟩) (pw_preV hK hN (pw_sub hP [0, 1, 2, 3, 4, 5, 6, 7] rfl) (pw_subD hD [0, 1, 2, 3, 4, 5, 6, 7] (by decide) rfl) (ci := 3) (q0 := 0) rfl rfl) rfl rfl hl.1 rfl (lv_room (Nat.le_of_ble_eq_true rfl)) dX3_longestStretch_26 ⟨Nat.zero_le _, Nat.zero_le _⟩) hP hD hS hA [0, 1, 2, 3, 4, 5, 6, 7] [] [0, 1, 2, 3, 4, 5, 6, 7] rfl rfl (by decide) (by decide) (by decide) rfl (fun H locs hP hD hS => ?_)
        obtain ⟨x4, hx4, h⟩ := bnd h
        have Jx4 : ∀ (H : Heap) (locs : List Loc) (ls : Array Slot), va_P D vwCl ([(h3, .inr (3, [.ref h3_str, .ref h3_tlr, .ref h3_tsg])), (h3_str, .inl (cI, 40, .inl str)), (h3_tlr, .inl (cI, 240, .inl tlr)), (h3_tsg, .inl (cI, 240, .inl tsg)), (h2, .inr (2, [.ref h2_row, .ref h2_ten, .ref h2_pha, .int len, .int kep, .int wfi, .int wmo, .int hun])), (h2_row, .inl (cI, 240, .inl row)), (h2_ten, .inl (cI, 4, .inl ten)), (h2_pha, .inl (cI, 4, .inl pha))] ++ []) H → va_D A ([(h3, .inr (3, [.ref h3_str, .ref h3_tlr, .ref h3_tsg])), (h3_str, .inl (cI, 40, .inl str)), (h3_tlr, .inl (cI, 240, .inl tlr)), (h3_tsg, .inl (cI, 240, .inl tsg)), (h2, .inr (2, [.ref h2_row, .ref h2_ten, .ref h2_pha, .int len, .int kep, .int wfi, .int wmo, .int hun])), (h2_row, .inl (cI, 240, .inl row)), (h2_ten, .inl (cI, 4, .inl ten)), (h2_pha, .inl (cI, 4, .inl pha))] ++ []) → va_S A s.heap H locs → lv_has ls 6 [(0, .ref h3), (1, .ref h2), (2, .int x1), (3, .int v3_16), (5, .int v5_16)] → W p l e rmX3_longestStretch s m args below meth c H locs 0 0 Q (F0 m 40 ls [.int x4]) := by
          intro H locs ls hP hD hS hl
          refine lv_istore (lv' := [(4, .int x4), (0, .ref h3), (1, .ref h2), (2, .int x1), (3, .int v3_16), (5, .int v5_16)]) hx hb dX3_longestStretch_40 hl (by decide) rfl (fun ls hl => ?_)
          refine lv_iload_n hx hb dX3_longestStretch_42 rfl (lv_at hl 4 rfl) ?_
          refine lv_iload hx hb dX3_longestStretch_43 (lv_at hl 0 rfl) ?_
          refine va_mmax hx hb (hml.trans hl.1.symm) hown (hts (.methodLink RX3 93 Lib.Math.max.name) (by decide +kernel)) (hts (.static Lib.Math.max.name) (by decide +kernel)) (hts (.initialized "java/lang/Math") (by decide +kernel)) (hts (.code Lib.Math.max.name Lib.Math.max.code 2 (some .int)) (by decide +kernel)) (Nat.le_of_ble_eq_true rfl) (Nat.le_of_ble_eq_true rfl) (Nat.zero_le _) (Nat.zero_le _) dX3_longestStretch_45 ?_
          refine lv_istore_n (lv' := [(3, .int (if v3_16 < x4 then x4 else v3_16)), (4, .int x4), (0, .ref h3), (1, .ref h2), (2, .int x1), (5, .int v5_16)]) hx hb dX3_longestStretch_48 rfl hl (by decide) rfl (fun ls hl => ?_)
          refine lv_iinc (v := (v5_16 + 1)) (lv' := [(5, .int (v5_16 + 1)), (3, .int (if v3_16 < x4 then x4 else v3_16)), (4, .int x4), (0, .ref h3), (1, .ref h2), (2, .int x1)]) hx hb dX3_longestStretch_49 hl (k := 5) rfl rfl (by decide) rfl (fun ls hl => ?_)
          refine lv_goto (tgt := 16) hx hb dX3_longestStretch_52 (by decide) ?_
          exact ih _ _ _ _ _ _ _ h hP hD hS (lv_sub hl [3, 4, 5, 1, 2, 0] rfl) K
        replace h := hx4
        refine lv_if_eq (tgt := 39) hx hb dX3_longestStretch_29 (by decide) (fun cq => ?_) (fun cq => ?_)
        · replace h := ifp cq h
          refine lv_iconst (v := 0) hx hb dX3_longestStretch_39 (by decide) ?_
          cases h
          exact Jx4 _ _ _ hP hD hS (lv_sub hl [0, 1, 2, 3, 5] rfl)
        · replace h := ifn cq h
          refine lv_iload hx hb dX3_longestStretch_32 (lv_at hl 4 rfl) ?_
          refine lv_iconst (v := 1) hx hb dX3_longestStretch_34 (by decide) ?_
          refine lv_iadd hx hb dX3_longestStretch_35 ?_
          refine lv_goto (tgt := 40) hx hb dX3_longestStretch_36 (by decide) ?_
          cases h
          exact Jx4 _ _ _ hP hD hS (lv_sub hl [0, 1, 2, 3, 5] rfl)
  obtain ⟨x5, hx5, h⟩ := bnd h
  refine L16 FU _ _ _ _ _ _ _ hx5 hP hD hS (lv_sub hl [4, 5, 3, 2, 1, 0] rfl) (fun H locs ls hP hD hS hl => ?_)
  refine lv_iload_n hx hb dX3_longestStretch_55 rfl (lv_at hl 0 rfl) ?_
  cases h
  exact pw_iret hx hb hr hlocks hAe hQ hP hD hS dX3_longestStretch_56
def fX4_add (cod : Nat → Int32) (tln : Int32) (a1 : Int32) : Option ((Nat → Int32) × Int32) :=
  (fX5_lay cod 60 tln a1).bind fun x1 =>
  some (x1, (tln + 1))
abbrev rmX4_add : Room := { frames := 1, cells := 0, slots := 0, locals := 22 }
set_option maxHeartbeats 4000000 in
set_option maxRecDepth 100000 in
theorem mX4_add (l : Launch) (D : va_G) (cI cO cJ : ClassId) (h4 h4_cod h4_unf : Nat) (sz : Nat) (cod : Nat → Int32) (unf : Nat → Int32) (tln : Int32) (a1 : Int32) (z : (Nat → Int32) × Int32) (h : fX4_add cod tln a1 = some z) : Met l yX4_add wsX4_add rmX4_add (pw_pre D (tyL cI cO cJ) [.ref h4, .int a1] [(h4, .inr (4, [.ref h4_cod, .ref h4_unf, .int tln])), (h4_cod, .inl (cI, 60, .inl cod)), (h4_unf, .inl (cI, 540, .inl unf))] sz) (pw_v D [(h4, .inr (4, [.ref h4_cod, .ref h4_unf, .int tln])), (h4_cod, .inl (cI, 60, .inl cod)), (h4_unf, .inl (cI, 540, .inl unf))] [(h4, .inr (4, [.ref h4_cod, .ref h4_unf, .int z.2])), (h4_cod, .inl (cI, 60, .inl z.1)), (h4_unf, .inl (cI, 540, .inl unf))] sz) 0 0 (va_A [(h4, .inr (4, [.ref h4_cod, .ref h4_unf, .int tln])), (h4_cod, .inl (cI, 60, .inl cod)), (h4_unf, .inl (cI, 540, .inl unf))] sz) := by
  refine pw_of (Qc := fun sz => pw_v D [(h4, .inr (4, [.ref h4_cod, .ref h4_unf, .int tln])), (h4_cod, .inl (cI, 60, .inl cod)), (h4_unf, .inl (cI, 540, .inl unf))] [(h4, .inr (4, [.ref h4_cod, .ref h4_unf, .int z.2])), (h4_cod, .inl (cI, 60, .inl z.1)), (h4_unf, .inl (cI, 540, .inl unf))] sz) (cc := cX4_add) (maxL := 2) (ret := none) (by decide) rfl (Nat.le_of_ble_eq_true rfl) ?_
  intro p e s m args below meth c A Q H ls hx hb hml hr hts hown hlocks hAe hQ hK hN hA hP hD hS hl
  have hown : s.vm.findClass RX4 = some m.cls := hown
  have hl : lv_has ls 2 [(0, .ref h4), (1, .int a1)] := hl
  have hP : va_P D vwCl ([(h4, .inr (4, [.ref h4_cod, .ref h4_unf, .int tln])), (h4_cod, .inl (cI, 60, .inl cod)), (h4_unf, .inl (cI, 540, .inl unf))] ++ []) H := hP
  have hD : va_D A ([(h4, .inr (4, [.ref h4_cod, .ref h4_unf, .int tln])), (h4_cod, .inl (cI, 60, .inl cod)), (h4_unf, .inl (cI, 540, .inl unf))] ++ []) := hD
  have iX4 : ∀ w ∈ u_ws RX4 TX4 3, w ∈ wsX4_add := fun _ h => List.mem_cons_of_mem _ (List.mem_append_right _ h)
  unfold fX4_add at h
  refine lv_aload_n hx hb dX4_add_0 rfl (lv_at hl 0 rfl) ?_
  refine va_get (D := D) (ci := 4) (v := .ref h4_cod) (C := RX4) (T := TX4) (N := 3) hx hb hts iX4 hown hK hP 0 rfl rfl 0 (by decide) (hts (.fieldLink RX4 9 "HiddenPeriods$Text" "codes" "[I") (by decide +kernel)) (fun _ h9 => h9) rfl dX4_add_1 ?_
  refine lv_aload_n hx hb dX4_add_4 rfl (lv_at hl 0 rfl) ?_
  refine va_get (D := D) (ci := 4) (v := .int tln) (C := RX4) (T := TX4) (N := 3) hx hb hts iX4 hown hK hP 0 rfl rfl 2 (by decide) (hts (.fieldLink RX4 18 "HiddenPeriods$Text" "length" "I") (by decide +kernel)) (fun _ h9 => h9) rfl dX4_add_5 ?_
  refine lv_iload_n hx hb dX4_add_8 rfl (lv_at hl 1 rfl) ?_
  obtain ⟨x1, hx1, h⟩ := bnd h
  refine pw_gov (wc := [(h4_cod, .inl (cI, 60, .inl cod))]) (w1 := [(h4_cod, .inl (cI, 60, .inl x1))]) (w2 := [(h4, .inr (4, [.ref h4_cod, .ref h4_unf, .int tln])), (h4_cod, .inl (cI, 60, .inl x1)), (h4_unf, .inl (cI, 540, .inl unf))]) (va_runSN (As := [.ref h4_cod, .int tln, .int a1]) (rest := []) ⟨hx, hb, hml, hown, hts⟩ (mX5_lay l D cI cO cJ h4_cod H.size cod 60 tln a1 _ hx1) ⟨va_cnB 3 hts gX4_add_X5_lay_n22 rfl rfl rfl (hN (.methodLinkNest RX4 22 yX5_lay "HiddenPeriods") (by decide +kernel)) (hts (.initialized RX5) (by decide +kernel)) (by decide +kernel) ⟨Nat.le_of_ble_eq_true rfl, Nat.le_of_ble_eq_true rfl⟩, (hts (.static yX5_lay) (by decide +kernel)), trivial⟩ (pw_preS hK hN (pw_sub hP [1] rfl) (pw_subD hD [1] (by decide) rfl)) rfl rfl hl.1 rfl (lv_room (Nat.le_of_ble_eq_true rfl)) dX4_add_9 ⟨Nat.zero_le _, Nat.zero_le _⟩) hP hD hS hA [1] [0, 2] [0, 2, 1] rfl rfl (by decide) (by decide) (by decide) rfl (fun H locs hP hD hS => ?_)
  refine lv_aload_n hx hb dX4_add_12 rfl (lv_at hl 0 rfl) ?_
  refine lv_dup hx hb dX4_add_13 rfl ?_
  refine va_get (D := D) (ci := 4) (v := .int tln) (C := RX4) (T := TX4) (N := 3) hx hb hts iX4 hown hK hP 0 rfl rfl 2 (by decide) (hts (.fieldLink RX4 18 "HiddenPeriods$Text" "length" "I") (by decide +kernel)) (fun _ h9 => h9) rfl dX4_add_14 ?_
  refine lv_iconst (v := 1) hx hb dX4_add_17 (by decide) ?_
  refine lv_iadd hx hb dX4_add_18 ?_
  refine va_put (D := D) (ci := 4) (v := .int (tln + 1)) (ty := .int) (C := RX4) (T := TX4) (N := 3) hx hb hts iX4 tyX4 tyX4_ok nmX4 hown hK hP hD hS 0 rfl rfl 2 (by decide) (hts (.fieldLink RX4 18 "HiddenPeriods$Text" "length" "I") (by decide +kernel)) (fun _ h9 => h9) rfl (by decide +kernel) rfl rfl (Nat.le_of_ble_eq_true rfl) dX4_add_19 (fun H locs hP hD hS => ?_)
  have hP : va_P D vwCl ([(h4, .inr (4, [.ref h4_cod, .ref h4_unf, .int (tln + 1)])), (h4_cod, .inl (cI, 60, .inl x1)), (h4_unf, .inl (cI, 540, .inl unf))] ++ []) H := hP
  have hD : va_D A ([(h4, .inr (4, [.ref h4_cod, .ref h4_unf, .int (tln + 1)])), (h4_cod, .inl (cI, 60, .inl x1)), (h4_unf, .inl (cI, 540, .inl unf))] ++ []) := hD
  cases h
  exact pw_vret hx hb hr hlocks hAe hQ hP hD hS dX4_add_22
def fX4_codeAt (cod : Nat → Int32) (a1 : Int32) : Option Int32 :=
  (fX5_cellAt cod 60 a1).bind fun x1 =>
  some x1
abbrev rmX4_codeAt : Room := { frames := 1, cells := 0, slots := 0, locals := 21 }
set_option maxHeartbeats 4000000 in
set_option maxRecDepth 100000 in
theorem mX4_codeAt (l : Launch) (D : va_G) (cI cO cJ : ClassId) (h4 h4_cod h4_unf : Nat) (sz : Nat) (cod : Nat → Int32) (unf : Nat → Int32) (tln : Int32) (a1 : Int32) (z : Int32) (h : fX4_codeAt cod a1 = some z) : Met l yX4_codeAt wsX4_codeAt rmX4_codeAt (pw_pre D (tyL cI cO cJ) [.ref h4, .int a1] [(h4, .inr (4, [.ref h4_cod, .ref h4_unf, .int tln])), (h4_cod, .inl (cI, 60, .inl cod)), (h4_unf, .inl (cI, 540, .inl unf))] sz) (pw_i D [(h4, .inr (4, [.ref h4_cod, .ref h4_unf, .int tln])), (h4_cod, .inl (cI, 60, .inl cod)), (h4_unf, .inl (cI, 540, .inl unf))] [(h4, .inr (4, [.ref h4_cod, .ref h4_unf, .int tln])), (h4_cod, .inl (cI, 60, .inl cod)), (h4_unf, .inl (cI, 540, .inl unf))] z sz) 0 0 (va_A [(h4, .inr (4, [.ref h4_cod, .ref h4_unf, .int tln])), (h4_cod, .inl (cI, 60, .inl cod)), (h4_unf, .inl (cI, 540, .inl unf))] sz) := by
  refine pw_of (Qc := fun sz => pw_i D [(h4, .inr (4, [.ref h4_cod, .ref h4_unf, .int tln])), (h4_cod, .inl (cI, 60, .inl cod)), (h4_unf, .inl (cI, 540, .inl unf))] [(h4, .inr (4, [.ref h4_cod, .ref h4_unf, .int tln])), (h4_cod, .inl (cI, 60, .inl cod)), (h4_unf, .inl (cI, 540, .inl unf))] z sz) (cc := cX4_codeAt) (maxL := 2) (ret := (some .int)) (by decide) rfl (Nat.le_of_ble_eq_true rfl) ?_
  intro p e s m args below meth c A Q H ls hx hb hml hr hts hown hlocks hAe hQ hK hN hA hP hD hS hl
  have hown : s.vm.findClass RX4 = some m.cls := hown
  have hl : lv_has ls 2 [(0, .ref h4), (1, .int a1)] := hl
  have hP : va_P D vwCl ([(h4, .inr (4, [.ref h4_cod, .ref h4_unf, .int tln])), (h4_cod, .inl (cI, 60, .inl cod)), (h4_unf, .inl (cI, 540, .inl unf))] ++ []) H := hP
  have hD : va_D A ([(h4, .inr (4, [.ref h4_cod, .ref h4_unf, .int tln])), (h4_cod, .inl (cI, 60, .inl cod)), (h4_unf, .inl (cI, 540, .inl unf))] ++ []) := hD
  have iX4 : ∀ w ∈ u_ws RX4 TX4 3, w ∈ wsX4_codeAt := fun _ h => List.mem_cons_of_mem _ (List.mem_append_right _ h)
  unfold fX4_codeAt at h
  refine lv_aload_n hx hb dX4_codeAt_0 rfl (lv_at hl 0 rfl) ?_
  refine va_get (D := D) (ci := 4) (v := .ref h4_cod) (C := RX4) (T := TX4) (N := 3) hx hb hts iX4 hown hK hP 0 rfl rfl 0 (by decide) (hts (.fieldLink RX4 9 "HiddenPeriods$Text" "codes" "[I") (by decide +kernel)) (fun _ h9 => h9) rfl dX4_codeAt_1 ?_
  refine lv_iload_n hx hb dX4_codeAt_4 rfl (lv_at hl 1 rfl) ?_
  obtain ⟨x1, hx1, h⟩ := bnd h
  refine pw_goi (wc := [(h4_cod, .inl (cI, 60, .inl cod))]) (w1 := [(h4_cod, .inl (cI, 60, .inl cod))]) (w2 := [(h4, .inr (4, [.ref h4_cod, .ref h4_unf, .int tln])), (h4_cod, .inl (cI, 60, .inl cod)), (h4_unf, .inl (cI, 540, .inl unf))]) (va_runSN (As := [.ref h4_cod, .int a1]) (rest := []) ⟨hx, hb, hml, hown, hts⟩ (mX5_cellAt l D cI cO cJ h4_cod H.size cod 60 a1 _ hx1) ⟨va_cnB 2 hts gX4_codeAt_X5_cellAt_n26 rfl rfl rfl (hN (.methodLinkNest RX4 26 yX5_cellAt "HiddenPeriods") (by decide +kernel)) (hts (.initialized RX5) (by decide +kernel)) (by decide +kernel) ⟨Nat.le_of_ble_eq_true rfl, Nat.le_of_ble_eq_true rfl⟩, (hts (.static yX5_cellAt) (by decide +kernel)), trivial⟩ (pw_preS hK hN (pw_sub hP [1] rfl) (pw_subD hD [1] (by decide) rfl)) rfl rfl hl.1 rfl (lv_room (Nat.le_of_ble_eq_true rfl)) dX4_codeAt_5 ⟨Nat.zero_le _, Nat.zero_le _⟩) hP hD hS hA [1] [0, 2] [0, 2, 1] rfl rfl (by decide) (by decide) (by decide) rfl (fun H locs hP hD hS => ?_)
  cases h
  exact pw_iret hx hb hr hlocks hAe hQ hP hD hS dX4_codeAt_8
def fX4_unfoldedAt (unf : Nat → Int32) (a1 : Int32) : Option Int32 :=
  (fX5_cellAt unf 540 a1).bind fun x1 =>
  some x1
abbrev rmX4_unfoldedAt : Room := { frames := 1, cells := 0, slots := 0, locals := 21 }
set_option maxHeartbeats 4000000 in
set_option maxRecDepth 100000 in
theorem mX4_unfoldedAt (l : Launch) (D : va_G) (cI cO cJ : ClassId) (h4 h4_cod h4_unf : Nat) (sz : Nat) (cod : Nat → Int32) (unf : Nat → Int32) (tln : Int32) (a1 : Int32) (z : Int32) (h : fX4_unfoldedAt unf a1 = some z) : Met l yX4_unfoldedAt wsX4_unfoldedAt rmX4_unfoldedAt (pw_pre D (tyL cI cO cJ) [.ref h4, .int a1] [(h4, .inr (4, [.ref h4_cod, .ref h4_unf, .int tln])), (h4_cod, .inl (cI, 60, .inl cod)), (h4_unf, .inl (cI, 540, .inl unf))] sz) (pw_i D [(h4, .inr (4, [.ref h4_cod, .ref h4_unf, .int tln])), (h4_cod, .inl (cI, 60, .inl cod)), (h4_unf, .inl (cI, 540, .inl unf))] [(h4, .inr (4, [.ref h4_cod, .ref h4_unf, .int tln])), (h4_cod, .inl (cI, 60, .inl cod)), (h4_unf, .inl (cI, 540, .inl unf))] z sz) 0 0 (va_A [(h4, .inr (4, [.ref h4_cod, .ref h4_unf, .int tln])), (h4_cod, .inl (cI, 60, .inl cod)), (h4_unf, .inl (cI, 540, .inl unf))] sz) := by
  refine pw_of (Qc := fun sz => pw_i D [(h4, .inr (4, [.ref h4_cod, .ref h4_unf, .int tln])), (h4_cod, .inl (cI, 60, .inl cod)), (h4_unf, .inl (cI, 540, .inl unf))] [(h4, .inr (4, [.ref h4_cod, .ref h4_unf, .int tln])), (h4_cod, .inl (cI, 60, .inl cod)), (h4_unf, .inl (cI, 540, .inl unf))] z sz) (cc := cX4_unfoldedAt) (maxL := 2) (ret := (some .int)) (by decide) rfl (Nat.le_of_ble_eq_true rfl) ?_
  intro p e s m args below meth c A Q H ls hx hb hml hr hts hown hlocks hAe hQ hK hN hA hP hD hS hl
  have hown : s.vm.findClass RX4 = some m.cls := hown
  have hl : lv_has ls 2 [(0, .ref h4), (1, .int a1)] := hl
  have hP : va_P D vwCl ([(h4, .inr (4, [.ref h4_cod, .ref h4_unf, .int tln])), (h4_cod, .inl (cI, 60, .inl cod)), (h4_unf, .inl (cI, 540, .inl unf))] ++ []) H := hP
  have hD : va_D A ([(h4, .inr (4, [.ref h4_cod, .ref h4_unf, .int tln])), (h4_cod, .inl (cI, 60, .inl cod)), (h4_unf, .inl (cI, 540, .inl unf))] ++ []) := hD
  have iX4 : ∀ w ∈ u_ws RX4 TX4 3, w ∈ wsX4_unfoldedAt := fun _ h => List.mem_cons_of_mem _ (List.mem_append_right _ h)
  unfold fX4_unfoldedAt at h
  refine lv_aload_n hx hb dX4_unfoldedAt_0 rfl (lv_at hl 0 rfl) ?_
  refine va_get (D := D) (ci := 4) (v := .ref h4_unf) (C := RX4) (T := TX4) (N := 3) hx hb hts iX4 hown hK hP 0 rfl rfl 1 (by decide) (hts (.fieldLink RX4 15 "HiddenPeriods$Text" "unfolded" "[I") (by decide +kernel)) (fun _ h9 => h9) rfl dX4_unfoldedAt_1 ?_
  refine lv_iload_n hx hb dX4_unfoldedAt_4 rfl (lv_at hl 1 rfl) ?_
  obtain ⟨x1, hx1, h⟩ := bnd h
  refine pw_goi (wc := [(h4_unf, .inl (cI, 540, .inl unf))]) (w1 := [(h4_unf, .inl (cI, 540, .inl unf))]) (w2 := [(h4, .inr (4, [.ref h4_cod, .ref h4_unf, .int tln])), (h4_cod, .inl (cI, 60, .inl cod)), (h4_unf, .inl (cI, 540, .inl unf))]) (va_runSN (As := [.ref h4_unf, .int a1]) (rest := []) ⟨hx, hb, hml, hown, hts⟩ (mX5_cellAt l D cI cO cJ h4_unf H.size unf 540 a1 _ hx1) ⟨va_cnB 2 hts gX4_unfoldedAt_X5_cellAt_n26 rfl rfl rfl (hN (.methodLinkNest RX4 26 yX5_cellAt "HiddenPeriods") (by decide +kernel)) (hts (.initialized RX5) (by decide +kernel)) (by decide +kernel) ⟨Nat.le_of_ble_eq_true rfl, Nat.le_of_ble_eq_true rfl⟩, (hts (.static yX5_cellAt) (by decide +kernel)), trivial⟩ (pw_preS hK hN (pw_sub hP [2] rfl) (pw_subD hD [2] (by decide) rfl)) rfl rfl hl.1 rfl (lv_room (Nat.le_of_ble_eq_true rfl)) dX4_unfoldedAt_5 ⟨Nat.zero_le _, Nat.zero_le _⟩) hP hD hS hA [2] [0, 1] [0, 1, 2] rfl rfl (by decide) (by decide) (by decide) rfl (fun H locs hP hD hS => ?_)
  cases h
  exact pw_iret hx hb hr hlocks hAe hQ hP hD hS dX4_unfoldedAt_8
def fX4_isLetter (a1 : Int32) : Option Int32 :=
  if a1 < 97 then
  some 0
  else
  if 100 < a1 then
  some 0
  else
  some 1
abbrev rmX4_isLetter : Room := { frames := 0, cells := 0, slots := 0, locals := 0 }
set_option maxHeartbeats 4000000 in
set_option maxRecDepth 100000 in
theorem mX4_isLetter (l : Launch) (D : va_G) (cI cO cJ : ClassId) (sz : Nat) (a1 : Int32) (z : Int32) (h : fX4_isLetter a1 = some z) : Met l yX4_isLetter wsX4_isLetter rmX4_isLetter (pw_pre D (tyL cI cO cJ) [.int a1] [] sz) (pw_i D [] [] z sz) 0 0 (va_A [] sz) := by
  refine pw_of (Qc := fun sz => pw_i D [] [] z sz) (cc := cX4_isLetter) (maxL := 1) (ret := (some .boolean)) (by decide) rfl (Nat.le_of_ble_eq_true rfl) ?_
  intro p e s m args below meth c A Q H ls hx hb hml hr hts hown hlocks hAe hQ hK hN hA hP hD hS hl
  have hown : s.vm.findClass RX4 = some m.cls := hown
  have hl : lv_has ls 1 [(0, .int a1)] := hl
  unfold fX4_isLetter at h
  refine lv_iload_n hx hb dX4_isLetter_0 rfl (lv_at hl 0 rfl) ?_
  refine lv_bipush (v := 97) hx hb dX4_isLetter_1 (by decide) ?_
  refine lv_icmp_lt (tgt := 16) hx hb dX4_isLetter_3 (by decide) (fun cq => ?_) (fun cq => ?_)
  · replace h := ifp cq h
    refine lv_iconst (v := 0) hx hb dX4_isLetter_16 (by decide) ?_
    cases h
    exact pw_zret hx hb hr hlocks hAe (by decide) hQ hP hD hS dX4_isLetter_17
  · replace h := ifn cq h
    refine lv_iload_n hx hb dX4_isLetter_6 rfl (lv_at hl 0 rfl) ?_
    refine lv_bipush (v := 100) hx hb dX4_isLetter_7 (by decide) ?_
    refine lv_icmp_gt (tgt := 16) hx hb dX4_isLetter_9 (by decide) (fun cq => ?_) (fun cq => ?_)
    · replace h := ifp cq h
      refine lv_iconst (v := 0) hx hb dX4_isLetter_16 (by decide) ?_
      cases h
      exact pw_zret hx hb hr hlocks hAe (by decide) hQ hP hD hS dX4_isLetter_17
    · replace h := ifn cq h
      refine lv_iconst (v := 1) hx hb dX4_isLetter_12 (by decide) ?_
      refine lv_goto (tgt := 17) hx hb dX4_isLetter_13 (by decide) ?_
      cases h
      exact pw_zret hx hb hr hlocks hAe (by decide) hQ hP hD hS dX4_isLetter_17
def fX4_isTimes (a1 : Int32) : Option Int32 :=
  if a1 < 50 then
  some 0
  else
  if 57 < a1 then
  some 0
  else
  some 1
abbrev rmX4_isTimes : Room := { frames := 0, cells := 0, slots := 0, locals := 0 }
set_option maxHeartbeats 4000000 in
set_option maxRecDepth 100000 in
theorem mX4_isTimes (l : Launch) (D : va_G) (cI cO cJ : ClassId) (sz : Nat) (a1 : Int32) (z : Int32) (h : fX4_isTimes a1 = some z) : Met l yX4_isTimes wsX4_isTimes rmX4_isTimes (pw_pre D (tyL cI cO cJ) [.int a1] [] sz) (pw_i D [] [] z sz) 0 0 (va_A [] sz) := by
  refine pw_of (Qc := fun sz => pw_i D [] [] z sz) (cc := cX4_isTimes) (maxL := 1) (ret := (some .boolean)) (by decide) rfl (Nat.le_of_ble_eq_true rfl) ?_
  intro p e s m args below meth c A Q H ls hx hb hml hr hts hown hlocks hAe hQ hK hN hA hP hD hS hl
  have hown : s.vm.findClass RX4 = some m.cls := hown
  have hl : lv_has ls 1 [(0, .int a1)] := hl
  unfold fX4_isTimes at h
  refine lv_iload_n hx hb dX4_isTimes_0 rfl (lv_at hl 0 rfl) ?_
  refine lv_bipush (v := 50) hx hb dX4_isTimes_1 (by decide) ?_
  refine lv_icmp_lt (tgt := 16) hx hb dX4_isTimes_3 (by decide) (fun cq => ?_) (fun cq => ?_)
  · replace h := ifp cq h
    refine lv_iconst (v := 0) hx hb dX4_isTimes_16 (by decide) ?_
    cases h
    exact pw_zret hx hb hr hlocks hAe (by decide) hQ hP hD hS dX4_isTimes_17
  · replace h := ifn cq h
    refine lv_iload_n hx hb dX4_isTimes_6 rfl (lv_at hl 0 rfl) ?_
    refine lv_bipush (v := 57) hx hb dX4_isTimes_7 (by decide) ?_
    refine lv_icmp_gt (tgt := 16) hx hb dX4_isTimes_9 (by decide) (fun cq => ?_) (fun cq => ?_)
    · replace h := ifp cq h
      refine lv_iconst (v := 0) hx hb dX4_isTimes_16 (by decide) ?_
      cases h
      exact pw_zret hx hb hr hlocks hAe (by decide) hQ hP hD hS dX4_isTimes_17
    · replace h := ifn cq h
      refine lv_iconst (v := 1) hx hb dX4_isTimes_12 (by decide) ?_
      refine lv_goto (tgt := 17) hx hb dX4_isTimes_13 (by decide) ?_
      cases h
      exact pw_zret hx hb hr hlocks hAe (by decide) hQ hP hD hS dX4_isTimes_17
def fX4_stageAfter (a1 : Int32) (a2 : Int32) : Option Int32 :=
  if a1 = 0 then
  (fX4_isLetter a2).bind fun x4 =>
  if x4 = 0 then
  if a2 = 40 then
  some 1
  else
  some 4
  else
  some 0
  else
  if a1 = 1 then
  (fX4_isLetter a2).bind fun x3 =>
  if x3 = 0 then
  some 4
  else
  some 2
  else
  if a1 = 2 then
  (fX4_isLetter a2).bind fun x2 =>
  if x2 = 0 then
  if a2 = 41 then
  some 3
  else
  some 4
  else
  some 2
  else
  if a1 = 3 then
  (fX4_isTimes a2).bind fun x1 =>
  if x1 = 0 then
  some 4
  else
  some 0
  else
  some 4
abbrev rmX4_stageAfter : Room := { frames := 1, cells := 0, slots := 0, locals := 20 }
set_option maxHeartbeats 4000000 in
set_option maxRecDepth 100000 in
theorem mX4_stageAfter (l : Launch) (D : va_G) (cI cO cJ : ClassId) (sz : Nat) (a1 : Int32) (a2 : Int32) (z : Int32) (h : fX4_stageAfter a1 a2 = some z) : Met l yX4_stageAfter wsX4_stageAfter rmX4_stageAfter (pw_pre D (tyL cI cO cJ) [.int a1, .int a2] [] sz) (pw_i D [] [] z sz) 0 0 (va_A [] sz) := by
  refine pw_of (Qc := fun sz => pw_i D [] [] z sz) (cc := cX4_stageAfter) (maxL := 2) (ret := (some .int)) (by decide) rfl (Nat.le_of_ble_eq_true rfl) ?_
  intro p e s m args below meth c A Q H ls hx hb hml hr hts hown hlocks hAe hQ hK hN hA hP hD hS hl
  have hown : s.vm.findClass RX4 = some m.cls := hown
  have hl : lv_has ls 2 [(0, .int a1), (1, .int a2)] := hl
  unfold fX4_stageAfter at h
  refine lv_iload_n hx hb dX4_stageAfter_0 rfl (lv_at hl 0 rfl) ?_
  refine lv_if_ne (tgt := 27) hx hb dX4_stageAfter_1 (by decide) (fun cq => ?_) (fun cq => ?_)
  · replace h := ifn cq h
    refine lv_iload_n hx hb dX4_stageAfter_27 rfl (lv_at hl 0 rfl) ?_
    refine lv_iconst (v := 1) hx hb dX4_stageAfter_28 (by decide) ?_
    refine lv_icmp_ne (tgt := 45) hx hb dX4_stageAfter_29 (by decide) (fun cq => ?_) (fun cq => ?_)
    · replace h := ifn cq h
      refine lv_iload_n hx hb dX4_stageAfter_45 rfl (lv_at hl 0 rfl) ?_
      refine lv_iconst (v := 2) hx hb dX4_stageAfter_46 (by decide) ?_
      refine lv_icmp_ne (tgt := 73) hx hb dX4_stageAfter_47 (by decide) (fun cq => ?_) (fun cq => ?_)
      · replace h := ifn cq h
        refine lv_iload_n hx hb dX4_stageAfter_73 rfl (lv_at hl 0 rfl) ?_
        refine lv_iconst (v := 3) hx hb dX4_stageAfter_74 (by decide) ?_
        refine lv_icmp_ne (tgt := 89) hx hb dX4_stageAfter_75 (by decide) (fun cq => ?_) (fun cq => ?_)
        · replace h := ifn cq h
          refine lv_iconst (v := 4) hx hb dX4_stageAfter_89 (by decide) ?_
          cases h
          exact pw_iret hx hb hr hlocks hAe hQ hP hD hS dX4_stageAfter_90
        · replace h := ifp cq h
          refine lv_iload_n hx hb dX4_stageAfter_78 rfl (lv_at hl 1 rfl) ?_
          obtain ⟨x1, hx1, h⟩ := bnd h
          refine pw_go0 (va_runS (As := [.int a2]) (rest := []) ⟨hx, hb, hml, hown, hts⟩ (mX4_isTimes l D cI cO cJ H.size a2 _ hx1) (va_cwS 1 hts gX4_stageAfter_X4_isTimes rfl rfl rfl (by decide +kernel) ⟨Nat.le_of_ble_eq_true rfl, Nat.le_of_ble_eq_true rfl⟩) (pw_preS hK hN pw_nilP (pw_nilD (A := A))) rfl rfl hl.1 rfl (lv_room (Nat.le_of_ble_eq_true rfl)) dX4_stageAfter_79 ⟨Nat.zero_le _, Nat.zero_le _⟩) hP hS hA (fun H locs hP hS => ?_)
          refine lv_if_eq (tgt := 89) hx hb dX4_stageAfter_82 (by decide) (fun cq => ?_) (fun cq => ?_)
          · replace h := ifp cq h
            refine lv_iconst (v := 4) hx hb dX4_stageAfter_89 (by decide) ?_
            cases h
            exact pw_iret hx hb hr hlocks hAe hQ hP hD hS dX4_stageAfter_90
          · replace h := ifn cq h
            refine lv_iconst (v := 0) hx hb dX4_stageAfter_85 (by decide) ?_
            refine lv_goto (tgt := 90) hx hb dX4_stageAfter_86 (by decide) ?_
            cases h
            exact pw_iret hx hb hr hlocks hAe hQ hP hD hS dX4_stageAfter_90
      · replace h := ifp cq h
        refine lv_iload_n hx hb dX4_stageAfter_50 rfl (lv_at hl 1 rfl) ?_
        obtain ⟨x2, hx2, h⟩ := bnd h
        refine pw_go0 (va_runS (As := [.int a2]) (rest := []) ⟨hx, hb, hml, hown, hts⟩ (mX4_isLetter l D cI cO cJ H.size a2 _ hx2) (va_cwS 1 hts gX4_stageAfter_X4_isLetter rfl rfl rfl (by decide +kernel) ⟨Nat.le_of_ble_eq_true rfl, Nat.le_of_ble_eq_true rfl⟩) (pw_preS hK hN pw_nilP (pw_nilD (A := A))) rfl rfl hl.1 rfl (lv_room (Nat.le_of_ble_eq_true rfl)) dX4_stageAfter_51 ⟨Nat.zero_le _, Nat.zero_le _⟩) hP hS hA (fun H locs hP hS => ?_)
        refine lv_if_eq (tgt := 61) hx hb dX4_stageAfter_54 (by decide) (fun cq => ?_) (fun cq => ?_)
        · replace h := ifp cq h
          refine lv_iload_n hx hb dX4_stageAfter_61 rfl (lv_at hl 1 rfl) ?_
          refine lv_bipush (v := 41) hx hb dX4_stageAfter_62 (by decide) ?_
          refine lv_icmp_ne (tgt := 71) hx hb dX4_stageAfter_64 (by decide) (fun cq => ?_) (fun cq => ?_)
          · replace h := ifn cq h
            refine lv_iconst (v := 4) hx hb dX4_stageAfter_71 (by decide) ?_
            cases h
            exact pw_iret hx hb hr hlocks hAe hQ hP hD hS dX4_stageAfter_72
          · replace h := ifp cq h
            refine lv_iconst (v := 3) hx hb dX4_stageAfter_67 (by decide) ?_
            refine lv_goto (tgt := 72) hx hb dX4_stageAfter_68 (by decide) ?_
            cases h
            exact pw_iret hx hb hr hlocks hAe hQ hP hD hS dX4_stageAfter_72
        · replace h := ifn cq h
          refine lv_iconst (v := 2) hx hb dX4_stageAfter_57 (by decide) ?_
          refine lv_goto (tgt := 72) hx hb dX4_stageAfter_58 (by decide) ?_
          cases h
          exact pw_iret hx hb hr hlocks hAe hQ hP hD hS dX4_stageAfter_72
    · replace h := ifp cq h
      refine lv_iload_n hx hb dX4_stageAfter_32 rfl (lv_at hl 1 rfl) ?_
      obtain ⟨x3, hx3, h⟩ := bnd h
      refine pw_go0 (va_runS (As := [.int a2]) (rest := []) ⟨hx, hb, hml, hown, hts⟩ (mX4_isLetter l D cI cO cJ H.size a2 _ hx3) (va_cwS 1 hts gX4_stageAfter_X4_isLetter rfl rfl rfl (by decide +kernel) ⟨Nat.le_of_ble_eq_true rfl, Nat.le_of_ble_eq_true rfl⟩) (pw_preS hK hN pw_nilP (pw_nilD (A := A))) rfl rfl hl.1 rfl (lv_room (Nat.le_of_ble_eq_true rfl)) dX4_stageAfter_33 ⟨Nat.zero_le _, Nat.zero_le _⟩) hP hS hA (fun H locs hP hS => ?_)
      refine lv_if_eq (tgt := 43) hx hb dX4_stageAfter_36 (by decide) (fun cq => ?_) (fun cq => ?_)
      · replace h := ifp cq h
        refine lv_iconst (v := 4) hx hb dX4_stageAfter_43 (by decide) ?_
        cases h
        exact pw_iret hx hb hr hlocks hAe hQ hP hD hS dX4_stageAfter_44
      · replace h := ifn cq h
        refine lv_iconst (v := 2) hx hb dX4_stageAfter_39 (by decide) ?_
        refine lv_goto (tgt := 44) hx hb dX4_stageAfter_40 (by decide) ?_
        cases h
        exact pw_iret hx hb hr hlocks hAe hQ hP hD hS dX4_stageAfter_44
  · replace h := ifp cq h
    refine lv_iload_n hx hb dX4_stageAfter_4 rfl (lv_at hl 1 rfl) ?_
    obtain ⟨x4, hx4, h⟩ := bnd h
    refine pw_go0 (va_runS (As := [.int a2]) (rest := []) ⟨hx, hb, hml, hown, hts⟩ (mX4_isLetter l D cI cO cJ H.size a2 _ hx4) (va_cwS 1 hts gX4_stageAfter_X4_isLetter rfl rfl rfl (by decide +kernel) ⟨Nat.le_of_ble_eq_true rfl, Nat.le_of_ble_eq_true rfl⟩) (pw_preS hK hN pw_nilP (pw_nilD (A := A))) rfl rfl hl.1 rfl (lv_room (Nat.le_of_ble_eq_true rfl)) dX4_stageAfter_5 ⟨Nat.zero_le _, Nat.zero_le _⟩) hP hS hA (fun H locs hP hS => ?_)
    refine lv_if_eq (tgt := 15) hx hb dX4_stageAfter_8 (by decide) (fun cq => ?_) (fun cq => ?_)
    · replace h := ifp cq h
      refine lv_iload_n hx hb dX4_stageAfter_15 rfl (lv_at hl 1 rfl) ?_
      refine lv_bipush (v := 40) hx hb dX4_stageAfter_16 (by decide) ?_
      refine lv_icmp_ne (tgt := 25) hx hb dX4_stageAfter_18 (by decide) (fun cq => ?_) (fun cq => ?_)
      · replace h := ifn cq h
        refine lv_iconst (v := 4) hx hb dX4_stageAfter_25 (by decide) ?_
        cases h
        exact pw_iret hx hb hr hlocks hAe hQ hP hD hS dX4_stageAfter_26
      · replace h := ifp cq h
        refine lv_iconst (v := 1) hx hb dX4_stageAfter_21 (by decide) ?_
        refine lv_goto (tgt := 26) hx hb dX4_stageAfter_22 (by decide) ?_
        cases h
        exact pw_iret hx hb hr hlocks hAe hQ hP hD hS dX4_stageAfter_26
    · replace h := ifn cq h
      refine lv_iconst (v := 0) hx hb dX4_stageAfter_11 (by decide) ?_
      refine lv_goto (tgt := 26) hx hb dX4_stageAfter_12 (by decide) ?_
      cases h
      exact pw_iret hx hb hr hlocks hAe hQ hP hD hS dX4_stageAfter_26
def fX4_errorIndex_L4 (cod : Nat → Int32) (tln : Int32) : Nat → Int32 → Int32 → Option Int32
  | 0, _, _ => none
  | n + 1, v1_4, v2_4 =>
    if tln ≤ v2_4 then
    some tln
    else
    (fX4_codeAt cod v2_4).bind fun x1 =>
    (fX4_stageAfter v1_4 x1).bind fun x2 =>
    if x2 = 4 then
    some v2_4
    else
    fX4_errorIndex_L4 cod tln n x2 (v2_4 + 1)
def fX4_errorIndex (cod : Nat → Int32) (tln : Int32) : Option Int32 :=
  fX4_errorIndex_L4 cod tln FU 0 0
abbrev rmX4_errorIndex : Room := { frames := 2, cells := 0, slots := 0, locals := 42 }
set_option maxHeartbeats 4000000 in
set_option maxRecDepth 100000 in
theorem mX4_errorIndex (l : Launch) (D : va_G) (cI cO cJ : ClassId) (h4 h4_cod h4_unf : Nat) (sz : Nat) (cod : Nat → Int32) (unf : Nat → Int32) (tln : Int32) (z : Int32) (h : fX4_errorIndex cod tln = some z) : Met l yX4_errorIndex wsX4_errorIndex rmX4_errorIndex (pw_pre D (tyL cI cO cJ) [.ref h4] [(h4, .inr (4, [.ref h4_cod, .ref h4_unf, .int tln])), (h4_cod, .inl (cI, 60, .inl cod)), (h4_unf, .inl (cI, 540, .inl unf))] sz) (pw_i D [(h4, .inr (4, [.ref h4_cod, .ref h4_unf, .int tln])), (h4_cod, .inl (cI, 60, .inl cod)), (h4_unf, .inl (cI, 540, .inl unf))] [(h4, .inr (4, [.ref h4_cod, .ref h4_unf, .int tln])), (h4_cod, .inl (cI, 60, .inl cod)), (h4_unf, .inl (cI, 540, .inl unf))] z sz) 0 0 (va_A [(h4, .inr (4, [.ref h4_cod, .ref h4_unf, .int tln])), (h4_cod, .inl (cI, 60, .inl cod)), (h4_unf, .inl (cI, 540, .inl unf))] sz) := by
  refine pw_of (Qc := fun sz => pw_i D [(h4, .inr (4, [.ref h4_cod, .ref h4_unf, .int tln])), (h4_cod, .inl (cI, 60, .inl cod)), (h4_unf, .inl (cI, 540, .inl unf))] [(h4, .inr (4, [.ref h4_cod, .ref h4_unf, .int tln])), (h4_cod, .inl (cI, 60, .inl cod)), (h4_unf, .inl (cI, 540, .inl unf))] z sz) (cc := cX4_errorIndex) (maxL := 3) (ret := (some .int)) (by decide) rfl (Nat.le_of_ble_eq_true rfl) ?_
  intro p e s m args below meth c A Q H ls hx hb hml hr hts hown hlocks hAe hQ hK hN hA hP hD hS hl
  have hown : s.vm.findClass RX4 = some m.cls := hown
  have hl : lv_has ls 3 [(0, .ref h4)] := hl
  have hP : va_P D vwCl ([(h4, .inr (4, [.ref h4_cod, .ref h4_unf, .int tln])), (h4_cod, .inl (cI, 60, .inl cod)), (h4_unf, .inl (cI, 540, .inl unf))] ++ []) H := hP
  have hD : va_D A ([(h4, .inr (4, [.ref h4_cod, .ref h4_unf, .int tln])), (h4_cod, .inl (cI, 60, .inl cod)), (h4_unf, .inl (cI, 540, .inl unf))] ++ []) := hD
  have iX4 : ∀ w ∈ u_ws RX4 TX4 3, w ∈ wsX4_errorIndex := fun _ h => List.mem_cons_of_mem _ (List.mem_append_right _ h)
  unfold fX4_errorIndex at h
  refine lv_iconst (v := 0) hx hb dX4_errorIndex_0 (by decide) ?_
  refine lv_istore_n (lv' := [(1, .int 0), (0, .ref h4)]) hx hb dX4_errorIndex_1 rfl hl (by decide) rfl (fun ls hl => ?_)
  refine lv_iconst (v := 0) hx hb dX4_errorIndex_2 (by decide) ?_
  refine lv_istore_n (lv' := [(2, .int 0), (1, .int 0), (0, .ref h4)]) hx hb dX4_errorIndex_3 rfl hl (by decide) rfl (fun ls hl => ?_)
  have L4 : ∀ (n : Nat) (v1_4 : Int32) (v2_4 : Int32) (H : Heap) (locs : List Loc) (ls : Array Slot), fX4_errorIndex_L4 cod tln n v1_4 v2_4 = some z → va_P D vwCl ([(h4, .inr (4, [.ref h4_cod, .ref h4_unf, .int tln])), (h4_cod, .inl (cI, 60, .inl cod)), (h4_unf, .inl (cI, 540, .inl unf))] ++ []) H → va_D A ([(h4, .inr (4, [.ref h4_cod, .ref h4_unf, .int tln])), (h4_cod, .inl (cI, 60, .inl cod)), (h4_unf, .inl (cI, 540, .inl unf))] ++ []) → va_S A s.heap H locs → lv_has ls 3 [(0, .ref h4), (1, .int v1_4), (2, .int v2_4)] → W p l e rmX4_errorIndex s m args below meth c H locs 0 0 Q (F0 m 4 ls []) := by
    intro n
    induction n with
    | zero =>
      intro v1_4 v2_4 H locs ls h
      rw [fX4_errorIndex_L4] at h
      cases h
    | succ n ih =>
      intro v1_4 v2_4 H locs ls h hP hD hS hl
      rw [fX4_errorIndex_L4] at h
      refine lv_iload_n hx hb dX4_errorIndex_4 rfl (lv_at hl 2 rfl) ?_
      refine lv_aload_n hx hb dX4_errorIndex_5 rfl (lv_at hl 0 rfl) ?_
      refine va_get (D := D) (ci := 4) (v := .int tln) (C := RX4) (T := TX4) (N := 3) hx hb hts iX4 hown hK hP 0 rfl rfl 2 (by decide) (hts (.fieldLink RX4 18 "HiddenPeriods$Text" "length" "I") (by decide +kernel)) (fun _ h9 => h9) rfl dX4_errorIndex_6 ?_
      refine lv_icmp_ge (tgt := 35) hx hb dX4_errorIndex_9 (by decide) (fun cq => ?_) (fun cq => ?_)
      · replace h := ifp cq h
        refine lv_aload_n hx hb dX4_errorIndex_35 rfl (lv_at hl 0 rfl) ?_
        refine va_get (D := D) (ci := 4) (v := .int tln) (C := RX4) (T := TX4) (N := 3) hx hb hts iX4 hown hK hP 0 rfl rfl 2 (by decide) (hts (.fieldLink RX4 18 "HiddenPeriods$Text" "length" "I") (by decide +kernel)) (fun _ h9 => h9) rfl dX4_errorIndex_36 ?_
        cases h
        exact pw_iret hx hb hr hlocks hAe hQ hP hD hS dX4_errorIndex_39
      · replace h := ifn cq h
        refine lv_iload_n hx hb dX4_errorIndex_12 rfl (lv_at hl 1 rfl) ?_
        refine lv_aload_n hx hb dX4_errorIndex_13 rfl (lv_at hl 0 rfl) ?_
        refine lv_iload_n hx hb dX4_errorIndex_14 rfl (lv_at hl 2 rfl) ?_
        obtain ⟨x1, hx1, h⟩ := bnd h
        refine pw_goi (wc := [(h4, .inr (4, [.ref h4_cod, .ref h4_unf, .int tln])), (h4_cod, .inl (cI, 60, .inl cod)), (h4_unf, .inl (cI, 540, .inl unf))]) (w1 := [(h4, .inr (4, [.ref h4_cod, .ref h4_unf, .int tln])), (h4_cod, .inl (cI, 60, .inl cod)), (h4_unf, .inl (cI, 540, .inl unf))]) (w2 := [(h4, .inr (4, [.ref h4_cod, .ref h4_unf, .int tln])), (h4_cod, .inl (cI, 60, .inl cod)), (h4_unf, .inl (cI, 540, .inl unf))]) (va_runV (As := [.int v2_4]) (rest := [.int v1_4]) ⟨hx, hb, hml, hown, hts⟩ (mX4_codeAt l D cI cO cJ h4 h4_cod h4_unf H.size cod unf tln v2_4 _ hx1) (cwV 1 hts gX4_errorIndex_X4_codeAt rfl rfl rfl (by decide +kernel) ⟨Nat.le_of_ble_eq_true rfl, Nat.le_of_ble_eq_true rfl⟩) (pw_preV hK hN (pw_sub hP [0, 1, 2] rfl) (pw_subD hD [0, 1, 2] (by decide) rfl) (ci := 4) (q0 := 0) rfl rfl) rfl rfl hl.1 rfl (lv_room (Nat.le_of_ble_eq_true rfl)) dX4_errorIndex_15 ⟨Nat.zero_le _, Nat.zero_le _⟩) hP hD hS hA [0, 1, 2] [] [0, 1, 2] rfl rfl (by decide) (by decide) (by decide) rfl (fun H locs hP hD hS => ?_)
        obtain ⟨x2, hx2, h⟩ := bnd h
        refine pw_go0 (va_runS (As := [.int v1_4, .int x1]) (rest := []) ⟨hx, hb, hml, hown, hts⟩ (mX4_stageAfter l D cI cO cJ H.size v1_4 x1 _ hx2) (va_cwS 2 hts gX4_errorIndex_X4_stageAfter rfl rfl rfl (by decide +kernel) ⟨Nat.le_of_ble_eq_true rfl, Nat.le_of_ble_eq_true rfl⟩) (pw_preS hK hN pw_nilP (pw_nilD (A := A))) rfl rfl hl.1 rfl (lv_room (Nat.le_of_ble_eq_true rfl)) dX4_errorIndex_18 ⟨Nat.zero_le _, Nat.zero_le _⟩) hP hS hA (fun H locs hP hS => ?_)
        refine lv_istore_n (lv' := [(1, .int x2), (0, .ref h4), (2, .int v2_4)]) hx hb dX4_errorIndex_21 rfl hl (by decide) rfl (fun ls hl => ?_)
        refine lv_iload_n hx hb dX4_errorIndex_22 rfl (lv_at hl 0 rfl) ?_
        refine lv_iconst (v := 4) hx hb dX4_errorIndex_23 (by decide) ?_
        refine lv_icmp_ne (tgt := 29) hx hb dX4_errorIndex_24 (by decide) (fun cq => ?_) (fun cq => ?_)
        · replace h := ifn cq h
          refine lv_iinc (v := (v2_4 + 1)) (lv' := [(2, .int (v2_4 + 1)), (1, .int x2), (0, .ref h4)]) hx hb dX4_errorIndex_29 hl (k := 2) rfl rfl (by decide) rfl (fun ls hl => ?_)
          refine lv_goto (tgt := 4) hx hb dX4_errorIndex_32 (by decide) ?_
          exact ih _ _ _ _ _ h hP hD hS (lv_sub hl [2, 1, 0] rfl)
        · replace h := ifp cq h
          refine lv_iload_n hx hb dX4_errorIndex_27 rfl (lv_at hl 2 rfl) ?_
          cases h
          exact pw_iret hx hb hr hlocks hAe hQ hP hD hS dX4_errorIndex_28
  exact L4 FU _ _ _ _ _ h hP hD hS (lv_sub hl [2, 1, 0] rfl)
def fX4_isComplete_L4 (cod : Nat → Int32) (tln : Int32) : Nat → Int32 → Int32 → Option Int32
  | 0, _, _ => none
  | n + 1, v1_4, v2_4 =>
    if tln ≤ v2_4 then
    some v1_4
    else
    (fX4_codeAt cod v2_4).bind fun x1 =>
    (fX4_stageAfter v1_4 x1).bind fun x2 =>
    fX4_isComplete_L4 cod tln n x2 (v2_4 + 1)
def fX4_isComplete (cod : Nat → Int32) (tln : Int32) : Option Int32 :=
  (fX4_isComplete_L4 cod tln FU 0 0).bind fun x3 =>
  if tln ≤ 0 then
  some 0
  else
  if x3 = 0 then
  some 1
  else
  some 0
abbrev rmX4_isComplete : Room := { frames := 2, cells := 0, slots := 0, locals := 42 }
set_option maxHeartbeats 4000000 in
set_option maxRecDepth 100000 in
theorem mX4_isComplete (l : Launch) (D : va_G) (cI cO cJ : ClassId) (h4 h4_cod h4_unf : Nat) (sz : Nat) (cod : Nat → Int32) (unf : Nat → Int32) (tln : Int32) (z : Int32) (h : fX4_isComplete cod tln = some z) : Met l yX4_isComplete wsX4_isComplete rmX4_isComplete (pw_pre D (tyL cI cO cJ) [.ref h4] [(h4, .inr (4, [.ref h4_cod, .ref h4_unf, .int tln])), (h4_cod, .inl (cI, 60, .inl cod)), (h4_unf, .inl (cI, 540, .inl unf))] sz) (pw_i D [(h4, .inr (4, [.ref h4_cod, .ref h4_unf, .int tln])), (h4_cod, .inl (cI, 60, .inl cod)), (h4_unf, .inl (cI, 540, .inl unf))] [(h4, .inr (4, [.ref h4_cod, .ref h4_unf, .int tln])), (h4_cod, .inl (cI, 60, .inl cod)), (h4_unf, .inl (cI, 540, .inl unf))] z sz) 0 0 (va_A [(h4, .inr (4, [.ref h4_cod, .ref h4_unf, .int tln])), (h4_cod, .inl (cI, 60, .inl cod)), (h4_unf, .inl (cI, 540, .inl unf))] sz) := by
  refine pw_of (Qc := fun sz => pw_i D [(h4, .inr (4, [.ref h4_cod, .ref h4_unf, .int tln])), (h4_cod, .inl (cI, 60, .inl cod)), (h4_unf, .inl (cI, 540, .inl unf))] [(h4, .inr (4, [.ref h4_cod, .ref h4_unf, .int tln])), (h4_cod, .inl (cI, 60, .inl cod)), (h4_unf, .inl (cI, 540, .inl unf))] z sz) (cc := cX4_isComplete) (maxL := 3) (ret := (some .boolean)) (by decide) rfl (Nat.le_of_ble_eq_true rfl) ?_
  intro p e s m args below meth c A Q H ls hx hb hml hr hts hown hlocks hAe hQ hK hN hA hP hD hS hl
  have hown : s.vm.findClass RX4 = some m.cls := hown
  have hl : lv_has ls 3 [(0, .ref h4)] := hl
  have hP : va_P D vwCl ([(h4, .inr (4, [.ref h4_cod, .ref h4_unf, .int tln])), (h4_cod, .inl (cI, 60, .inl cod)), (h4_unf, .inl (cI, 540, .inl unf))] ++ []) H := hP
  have hD : va_D A ([(h4, .inr (4, [.ref h4_cod, .ref h4_unf, .int tln])), (h4_cod, .inl (cI, 60, .inl cod)), (h4_unf, .inl (cI, 540, .inl unf))] ++ []) := hD
  have iX4 : ∀ w ∈ u_ws RX4 TX4 3, w ∈ wsX4_isComplete := fun _ h => List.mem_cons_of_mem _ (List.mem_append_right _ h)
  unfold fX4_isComplete at h
  refine lv_iconst (v := 0) hx hb dX4_isComplete_0 (by decide) ?_
  refine lv_istore_n (lv' := [(1, .int 0), (0, .ref h4)]) hx hb dX4_isComplete_1 rfl hl (by decide) rfl (fun ls hl => ?_)
  refine lv_iconst (v := 0) hx hb dX4_isComplete_2 (by decide) ?_
  refine lv_istore_n (lv' := [(2, .int 0), (1, .int 0), (0, .ref h4)]) hx hb dX4_isComplete_3 rfl hl (by decide) rfl (fun ls hl => ?_)
  have L4 : ∀ (n : Nat) (v1_4 : Int32) (v2_4 : Int32) (o4_1 : Int32) (H : Heap) (locs : List Loc) (ls : Array Slot), fX4_isComplete_L4 cod tln n v1_4 v2_4 = some o4_1 → va_P D vwCl ([(h4, .inr (4, [.ref h4_cod, .ref h4_unf, .int tln])), (h4_cod, .inl (cI, 60, .inl cod)), (h4_unf, .inl (cI, 540, .inl unf))] ++ []) H → va_D A ([(h4, .inr (4, [.ref h4_cod, .ref h4_unf, .int tln])), (h4_cod, .inl (cI, 60, .inl cod)), (h4_unf, .inl (cI, 540, .inl unf))] ++ []) → va_S A s.heap H locs → lv_has ls 3 [(0, .ref h4), (1, .int v1_4), (2, .int v2_4)] → (∀ (H : Heap) (locs : List Loc) (ls : Array Slot), va_P D vwCl ([(h4, .inr (4, [.ref h4_cod, .ref h4_unf, .int tln])), (h4_cod, .inl (cI, 60, .inl cod)), (h4_unf, .inl (cI, 540, .inl unf))] ++ []) H → va_D A ([(h4, .inr (4, [.ref h4_cod, .ref h4_unf, .int tln])), (h4_cod, .inl (cI, 60, .inl cod)), (h4_unf, .inl (cI, 540, .inl unf))] ++ []) → va_S A s.heap H locs → lv_has ls 3 [(0, .ref h4), (1, .int o4_1)] → W p l e rmX4_isComplete s m args below meth c H locs 0 0 Q (F0 m 28 ls [])) → W p l e rmX4_isComplete s m args below meth c H locs 0 0 Q (F0 m 4 ls []) := by
    intro n
    induction n with
    | zero =>
      intro v1_4 v2_4 o4_1 H locs ls h
      rw [fX4_isComplete_L4] at h
      cases h
    | succ n ih =>
      intro v1_4 v2_4 o4_1 H locs ls h hP hD hS hl K
      rw [fX4_isComplete_L4] at h
      refine lv_iload_n hx hb dX4_isComplete_4 rfl (lv_at hl 2 rfl) ?_
      refine lv_aload_n hx hb dX4_isComplete_5 rfl (lv_at hl 0 rfl) ?_
      refine va_get (D := D) (ci := 4) (v := .int tln) (C := RX4) (T := TX4) (N := 3) hx hb hts iX4 hown hK hP 0 rfl rfl 2 (by decide) (hts (.fieldLink RX4 18 "HiddenPeriods$Text" "length" "I") (by decide +kernel)) (fun _ h9 => h9) rfl dX4_isComplete_6 ?_
      refine lv_icmp_ge (tgt := 28) hx hb dX4_isComplete_9 (by decide) (fun cq => ?_) (fun cq => ?_)
      · replace h := ifp cq h
        cases h
        exact K _ _ _ hP hD hS (lv_sub hl [0, 1] rfl)
      · replace h := ifn cq h
        refine lv_iload_n hx hb dX4_isComplete_12 rfl (lv_at hl 1 rfl) ?_
        refine lv_aload_n hx hb dX4_isComplete_13 rfl (lv_at hl 0 rfl) ?_
        refine lv_iload_n hx hb dX4_isComplete_14 rfl (lv_at hl 2 rfl) ?_
        obtain ⟨x1, hx1, h⟩ := bnd h
        refine pw_goi (wc := [(h4, .inr (4, [.ref h4_cod, .ref h4_unf, .int tln])), (h4_cod, .inl (cI, 60, .inl cod)), (h4_unf, .inl (cI, 540, .inl unf))]) (w1 := [(h4, .inr (4, [.ref h4_cod, .ref h4_unf, .int tln])), (h4_cod, .inl (cI, 60, .inl cod)), (h4_unf, .inl (cI, 540, .inl unf))]) (w2 := [(h4, .inr (4, [.ref h4_cod, .ref h4_unf, .int tln])), (h4_cod, .inl (cI, 60, .inl cod)), (h4_unf, .inl (cI, 540, .inl unf))]) (va_runV (As := [.int v2_4]) (rest := [.int v1_4]) ⟨hx, hb, hml, hown, hts⟩ (mX4_codeAt l D cI cO cJ h4 h4_cod h4_unf H.size cod unf tln v2_4 _ hx1) (cwV 1 hts gX4_isComplete_X4_codeAt rfl rfl rfl (by decide +kernel) ⟨Nat.le_of_ble_eq_true rfl, Nat.le_of_ble_eq_true rfl⟩) (pw_preV hK hN (pw_sub hP [0, 1, 2] rfl) (pw_subD hD [0, 1, 2] (by decide) rfl) (ci := 4) (q0 := 0) rfl rfl) rfl rfl hl.1 rfl (lv_room (Nat.le_of_ble_eq_true rfl)) dX4_isComplete_15 ⟨Nat.zero_le _, Nat.zero_le _⟩) hP hD hS hA [0, 1, 2] [] [0, 1, 2] rfl rfl (by decide) (by decide) (by decide) rfl (fun H locs hP hD hS => ?_)
        obtain ⟨x2, hx2, h⟩ := bnd h
        refine pw_go0 (va_runS (As := [.int v1_4, .int x1]) (rest := []) ⟨hx, hb, hml, hown, hts⟩ (mX4_stageAfter l D cI cO cJ H.size v1_4 x1 _ hx2) (va_cwS 2 hts gX4_isComplete_X4_stageAfter rfl rfl rfl (by decide +kernel) ⟨Nat.le_of_ble_eq_true rfl, Nat.le_of_ble_eq_true rfl⟩) (pw_preS hK hN pw_nilP (pw_nilD (A := A))) rfl rfl hl.1 rfl (lv_room (Nat.le_of_ble_eq_true rfl)) dX4_isComplete_18 ⟨Nat.zero_le _, Nat.zero_le _⟩) hP hS hA (fun H locs hP hS => ?_)
        refine lv_istore_n (lv' := [(1, .int x2), (0, .ref h4), (2, .int v2_4)]) hx hb dX4_isComplete_21 rfl hl (by decide) rfl (fun ls hl => ?_)
        refine lv_iinc (v := (v2_4 + 1)) (lv' := [(2, .int (v2_4 + 1)), (1, .int x2), (0, .ref h4)]) hx hb dX4_isComplete_22 hl (k := 2) rfl rfl (by decide) rfl (fun ls hl => ?_)
        refine lv_goto (tgt := 4) hx hb dX4_isComplete_25 (by decide) ?_
        exact ih _ _ _ _ _ _ h hP hD hS (lv_sub hl [2, 1, 0] rfl) K
  obtain ⟨x3, hx3, h⟩ := bnd h
  refine L4 FU _ _ _ _ _ _ hx3 hP hD hS (lv_sub hl [2, 1, 0] rfl) (fun H locs ls hP hD hS hl => ?_)
  refine lv_aload_n hx hb dX4_isComplete_28 rfl (lv_at hl 0 rfl) ?_
  refine va_get (D := D) (ci := 4) (v := .int tln) (C := RX4) (T := TX4) (N := 3) hx hb hts iX4 hown hK hP 0 rfl rfl 2 (by decide) (hts (.fieldLink RX4 18 "HiddenPeriods$Text" "length" "I") (by decide +kernel)) (fun _ h9 => h9) rfl dX4_isComplete_29 ?_
  refine lv_if_le (tgt := 43) hx hb dX4_isComplete_32 (by decide) (fun cq => ?_) (fun cq => ?_)
  · replace h := ifp cq h
    refine lv_iconst (v := 0) hx hb dX4_isComplete_43 (by decide) ?_
    cases h
    exact pw_zret hx hb hr hlocks hAe (by decide) hQ hP hD hS dX4_isComplete_44
  · replace h := ifn cq h
    refine lv_iload_n hx hb dX4_isComplete_35 rfl (lv_at hl 1 rfl) ?_
    refine lv_if_ne (tgt := 43) hx hb dX4_isComplete_36 (by decide) (fun cq => ?_) (fun cq => ?_)
    · replace h := ifn cq h
      refine lv_iconst (v := 0) hx hb dX4_isComplete_43 (by decide) ?_
      cases h
      exact pw_zret hx hb hr hlocks hAe (by decide) hQ hP hD hS dX4_isComplete_44
    · replace h := ifp cq h
      refine lv_iconst (v := 1) hx hb dX4_isComplete_39 (by decide) ?_
      refine lv_goto (tgt := 44) hx hb dX4_isComplete_40 (by decide) ?_
      cases h
      exact pw_zret hx hb hr hlocks hAe (by decide) hQ hP hD hS dX4_isComplete_44
def fX4_repeat_L16 (y1 : Int32) (y2 : Int32) : Nat → Int32 → (Nat → Int32) → Option (Nat → Int32)
  | 0, _, _ => none
  | n + 1, v6_16, unf_16 =>
    if y2 ≤ v6_16 then
    some unf_16
    else
    (fX4_unfoldedAt unf_16 (v6_16 - y1)).bind fun x3 =>
    (fX5_lay unf_16 540 v6_16 x3).bind fun x4 =>
    fX4_repeat_L16 y1 y2 n (v6_16 + 1) x4
def fX4_repeat (unf : Nat → Int32) (a1 : Int32) (a2 : Int32) (a3 : Int32) : Option (Int32 × (Nat → Int32)) :=
  (fX4_repeat_L16 (a2 - a1) (a1 + ((a2 - a1) * a3)) FU a2 unf).bind fun x5 =>
  some ((a1 + ((a2 - a1) * a3)), x5)
abbrev rmX4_repeat : Room := { frames := 2, cells := 0, slots := 0, locals := 42 }
set_option maxHeartbeats 4000000 in
set_option maxRecDepth 100000 in
theorem mX4_repeat (l : Launch) (D : va_G) (cI cO cJ : ClassId) (h4 h4_cod h4_unf : Nat) (sz : Nat) (cod : Nat → Int32) (unf : Nat → Int32) (tln : Int32) (a1 : Int32) (a2 : Int32) (a3 : Int32) (z : Int32 × (Nat → Int32)) (h : fX4_repeat unf a1 a2 a3 = some z) : Met l yX4_repeat wsX4_repeat rmX4_repeat (pw_pre D (tyL cI cO cJ) [.ref h4, .int a1, .int a2, .int a3] [(h4, .inr (4, [.ref h4_cod, .ref h4_unf, .int tln])), (h4_cod, .inl (cI, 60, .inl cod)), (h4_unf, .inl (cI, 540, .inl unf))] sz) (pw_i D [(h4, .inr (4, [.ref h4_cod, .ref h4_unf, .int tln])), (h4_cod, .inl (cI, 60, .inl cod)), (h4_unf, .inl (cI, 540, .inl unf))] [(h4, .inr (4, [.ref h4_cod, .ref h4_unf, .int tln])), (h4_cod, .inl (cI, 60, .inl cod)), (h4_unf, .inl (cI, 540, .inl z.2))] z.1 sz) 0 0 (va_A [(h4, .inr (4, [.ref h4_cod, .ref h4_unf, .int tln])), (h4_cod, .inl (cI, 60, .inl cod)), (h4_unf, .inl (cI, 540, .inl unf))] sz) := by
  refine pw_of (Qc := fun sz => pw_i D [(h4, .inr (4, [.ref h4_cod, .ref h4_unf, .int tln])), (h4_cod, .inl (cI, 60, .inl cod)), (h4_unf, .inl (cI, 540, .inl unf))] [(h4, .inr (4, [.ref h4_cod, .ref h4_unf, .int tln])), (h4_cod, .inl (cI, 60, .inl cod)), (h4_unf, .inl (cI, 540, .inl z.2))] z.1 sz) (cc := cX4_repeat) (maxL := 7) (ret := (some .int)) (by decide) rfl (Nat.le_of_ble_eq_true rfl) ?_
  intro p e s m args below meth c A Q H ls hx hb hml hr hts hown hlocks hAe hQ hK hN hA hP hD hS hl
  have hown : s.vm.findClass RX4 = some m.cls := hown
  have hl : lv_has ls 7 [(0, .ref h4), (1, .int a1), (2, .int a2), (3, .int a3)] := hl
  have hP : va_P D vwCl ([(h4, .inr (4, [.ref h4_cod, .ref h4_unf, .int tln])), (h4_cod, .inl (cI, 60, .inl cod)), (h4_unf, .inl (cI, 540, .inl unf))] ++ []) H := hP
  have hD : va_D A ([(h4, .inr (4, [.ref h4_cod, .ref h4_unf, .int tln])), (h4_cod, .inl (cI, 60, .inl cod)), (h4_unf, .inl (cI, 540, .inl unf))] ++ []) := hD
  have iX4 : ∀ w ∈ u_ws RX4 TX4 3, w ∈ wsX4_repeat := fun _ h => List.mem_cons_of_mem _ (List.mem_append_right _ h)
  unfold fX4_repeat at h
  refine lv_iload_n hx hb dX4_repeat_0 rfl (lv_at hl 2 rfl) ?_
  refine lv_iload_n hx hb dX4_repeat_1 rfl (lv_at hl 1 rfl) ?_
  refine lv_isub hx hb dX4_repeat_2 ?_
  refine lv_istore (lv' := [(4, .int (a2 - a1)), (0, .ref h4), (1, .int a1), (2, .int a2), (3, .int a3)]) hx hb dX4_repeat_3 hl (by decide) rfl (fun ls hl => ?_)
  refine lv_iload_n hx hb dX4_repeat_5 rfl (lv_at hl 2 rfl) ?_
  refine lv_iload hx hb dX4_repeat_6 (lv_at hl 0 rfl) ?_
  refine lv_iload_n hx hb dX4_repeat_8 rfl (lv_at hl 4 rfl) ?_
  refine lv_imul hx hb dX4_repeat_9 ?_
  refine lv_iadd hx hb dX4_repeat_10 ?_
  refine lv_istore (lv' := [(5, .int (a1 + ((a2 - a1) * a3))), (4, .int (a2 - a1)), (0, .ref h4), (1, .int a1), (2, .int a2), (3, .int a3)]) hx hb dX4_repeat_11 hl (by decide) rfl (fun ls hl => ?_)
  refine lv_iload_n hx hb dX4_repeat_13 rfl (lv_at hl 4 rfl) ?_
  refine lv_istore (lv' := [(6, .int a2), (5, .int (a1 + ((a2 - a1) * a3))), (4, .int (a2 - a1)), (0, .ref h4), (1, .int a1), (2, .int a2), (3, .int a3)]) hx hb dX4_repeat_14 hl (by decide) rfl (fun ls hl => ?_)
  generalize hgy1 : (a2 - a1) = y1 at h hP hD hl ⊢
  generalize hgy2 : (a1 + (y1 * a3)) = y2 at h hP hD hl ⊢
  have L16 : ∀ (n : Nat) (v6_16 : Int32) (unf_16 : Nat → Int32) (o16_1 : Nat → Int32) (H : Heap) (locs : List Loc) (ls : Array Slot), fX4_repeat_L16 y1 y2 n v6_16 unf_16 = some o16_1 → va_P D vwCl ([(h4, .inr (4, [.ref h4_cod, .ref h4_unf, .int tln])), (h4_cod, .inl (cI, 60, .inl cod)), (h4_unf, .inl (cI, 540, .inl unf_16))] ++ []) H → va_D A ([(h4, .inr (4, [.ref h4_cod, .ref h4_unf, .int tln])), (h4_cod, .inl (cI, 60, .inl cod)), (h4_unf, .inl (cI, 540, .inl unf_16))] ++ []) → va_S A s.heap H locs → lv_has ls 7 [(0, .ref h4), (4, .int y1), (5, .int y2), (6, .int v6_16)] → (∀ (H : Heap) (locs : List Loc) (ls : Array Slot), va_P D vwCl ([(h4, .inr (4, [.ref h4_cod, .ref h4_unf, .int tln])), (h4_cod, .inl (cI, 60, .inl cod)), (h4_unf, .inl (cI, 540, .inl o16_1))] ++ []) H → va_D A ([(h4, .inr (4, [.ref h4_cod, .ref h4_unf, .int tln])), (h4_cod, .inl (cI, 60, .inl cod)), (h4_unf, .inl (cI, 540, .inl o16_1))] ++ []) → va_S A s.heap H locs → lv_has ls 7 [(5, .int y2)] → W p l e rmX4_repeat s m args below meth c H locs 0 0 Q (F0 m 47 ls [])) → W p l e rmX4_repeat s m args below meth c H locs 0 0 Q (F0 m 16 ls []) := by
    intro n
    induction n with
    | zero =>
      intro v6_16 unf_16 o16_1 H locs ls h
      rw [fX4_repeat_L16] at h
      cases h
    | succ n ih =>
      intro v6_16 unf_16 o16_1 H locs ls h hP hD hS hl K
      rw [fX4_repeat_L16] at h
      refine lv_iload hx hb dX4_repeat_16 (lv_at hl 3 rfl) ?_
      refine lv_iload hx hb dX4_repeat_18 (lv_at hl 2 rfl) ?_
      refine lv_icmp_ge (tgt := 47) hx hb dX4_repeat_20 (by decide) (fun cq => ?_) (fun cq => ?_)
      · replace h := ifp cq h
        cases h
        exact K _ _ _ hP hD hS (lv_sub hl [2] rfl)
      · replace h := ifn cq h
        refine lv_aload_n hx hb dX4_repeat_23 rfl (lv_at hl 0 rfl) ?_
        refine va_get (D := D) (ci := 4) (v := .ref h4_unf) (C := RX4) (T := TX4) (N := 3) hx hb hts iX4 hown hK hP 0 rfl rfl 1 (by decide) (hts (.fieldLink RX4 15 "HiddenPeriods$Text" "unfolded" "[I") (by decide +kernel)) (fun _ h9 => h9) rfl dX4_repeat_24 ?_
        refine lv_iload hx hb dX4_repeat_27 (lv_at hl 3 rfl) ?_
        refine lv_aload_n hx hb dX4_repeat_29 rfl (lv_at hl 0 rfl) ?_
        refine lv_iload hx hb dX4_repeat_30 (lv_at hl 3 rfl) ?_
        refine lv_iload hx hb dX4_repeat_32 (lv_at hl 1 rfl) ?_
        refine lv_isub hx hb dX4_repeat_34 ?_
        obtain ⟨x3, hx3, h⟩ := bnd h
        refine pw_goi (wc := [(h4, .inr (4, [.ref h4_cod, .ref h4_unf, .int tln])), (h4_cod, .inl (cI, 60, .inl cod)), (h4_unf, .inl (cI, 540, .inl unf_16))]) (w1 := [(h4, .inr (4, [.ref h4_cod, .ref h4_unf, .int tln])), (h4_cod, .inl (cI, 60, .inl cod)), (h4_unf, .inl (cI, 540, .inl unf_16))]) (w2 := [(h4, .inr (4, [.ref h4_cod, .ref h4_unf, .int tln])), (h4_cod, .inl (cI, 60, .inl cod)), (h4_unf, .inl (cI, 540, .inl unf_16))]) (va_runV (As := [.int (v6_16 - y1)]) (rest := [.int v6_16, .ref h4_unf]) ⟨hx, hb, hml, hown, hts⟩ (mX4_unfoldedAt l D cI cO cJ h4 h4_cod h4_unf H.size cod unf_16 tln (v6_16 - y1) _ hx3) (cwV 1 hts gX4_repeat_X4_unfoldedAt rfl rfl rfl (by decide +kernel) ⟨Nat.le_of_ble_eq_true rfl, Nat.le_of_ble_eq_true rfl⟩) (pw_preV hK hN (pw_sub hP [0, 1, 2] rfl) (pw_subD hD [0, 1, 2] (by decide) rfl) (ci := 4) (q0 := 0) rfl rfl) rfl rfl hl.1 rfl (lv_room (Nat.le_of_ble_eq_true rfl)) dX4_repeat_35 ⟨Nat.zero_le _, Nat.zero_le _⟩) hP hD hS hA [0, 1, 2] [] [0, 1, 2] rfl rfl (by decide) (by decide) (by decide) rfl (fun H locs hP hD hS => ?_)
        obtain ⟨x4, hx4, h⟩ := bnd h
        refine pw_gov (wc := [(h4_unf, .inl (cI, 540, .inl unf_16))]) (w1 := [(h4_unf, .inl (cI, 540, .inl x4))]) (w2 := [(h4, .inr (4, [.ref h4_cod, .ref h4_unf, .int tln])), (h4_cod, .inl (cI, 60, .inl cod)), (h4_unf, .inl (cI, 540, .inl x4))]) (va_runSN (As := [.ref h4_unf, .int v6_16, .int x3]) (rest := []) ⟨hx, hb, hml, hown, hts⟩ (mX5_lay l D cI cO cJ h4_unf H.size unf_16 540 v6_16 x3 _ hx4) ⟨va_cnB 3 hts gX4_repeat_X5_lay_n22 rfl rfl rfl (hN (.methodLinkNest RX4 22 yX5_lay "HiddenPeriods") (by decide +kernel)) (hts (.initialized RX5) (by decide +kernel)) (by decide +kernel) ⟨Nat.le_of_ble_eq_true rfl, Nat.le_of_ble_eq_true rfl⟩, (hts (.static yX5_lay) (by decide +kernel)), trivial⟩ (pw_preS hK hN (pw_sub hP [2] rfl) (pw_subD hD [2] (by decide) rfl)) rfl rfl hl.1 rfl (lv_room (Nat.le_of_ble_eq_true rfl)) dX4_repeat_38 ⟨Nat.zero_le _, Nat.zero_le _⟩) hP hD hS hA [2] [0, 1] [0, 1, 2] rfl rfl (by decide) (by decide) (by decide) rfl (fun H locs hP hD hS => ?_)
        refine lv_iinc (v := (v6_16 + 1)) (lv' := [(6, .int (v6_16 + 1)), (0, .ref h4), (4, .int y1), (5, .int y2)]) hx hb dX4_repeat_41 hl (k := 3) rfl rfl (by decide) rfl (fun ls hl => ?_)
        refine lv_goto (tgt := 16) hx hb dX4_repeat_44 (by decide) ?_
        exact ih _ _ _ _ _ _ h hP hD hS (lv_sub hl [1, 2, 3, 0] rfl) K
  obtain ⟨x5, hx5, h⟩ := bnd h
  refine L16 FU _ _ _ _ _ _ hx5 hP hD hS (lv_sub hl [3, 2, 1, 0] rfl) (fun H locs ls hP hD hS hl => ?_)
  refine lv_iload hx hb dX4_repeat_47 (lv_at hl 0 rfl) ?_
  cases h
  exact pw_iret hx hb hr hlocks hAe hQ hP hD hS dX4_repeat_49
def fX4_unfold_L6 (cod : Nat → Int32) (tln : Int32) : Nat → Int32 → Int32 → Int32 → (Nat → Int32) → Option (Int32 × (Nat → Int32))
  | 0, _, _, _, _ => none
  | n + 1, v1_6, v2_6, v3_6, unf_6 =>
    if tln ≤ v3_6 then
    some (v1_6, unf_6)
    else
    (fX4_codeAt cod v3_6).bind fun x1 =>
    (fX4_isLetter x1).bind fun x2 =>
    if x2 = 0 then
    if x1 = 40 then
    fX4_unfold_L6 cod tln n v1_6 v1_6 (v3_6 + 1) unf_6
    else
    (fX4_isTimes x1).bind fun x3 =>
    if x3 = 0 then
    fX4_unfold_L6 cod tln n v1_6 v2_6 (v3_6 + 1) unf_6
    else
    (fX4_repeat unf_6 v2_6 v1_6 (x1 - 48)).bind fun (x4_1, x4_2) =>
    fX4_unfold_L6 cod tln n x4_1 v2_6 (v3_6 + 1) x4_2
    else
    (fX5_lay unf_6 540 v1_6 (x1 - 97)).bind fun x5 =>
    fX4_unfold_L6 cod tln n (v1_6 + 1) v2_6 (v3_6 + 1) x5
def fX4_unfold (cod : Nat → Int32) (unf : Nat → Int32) (tln : Int32) : Option (Int32 × (Nat → Int32)) :=
  (fX4_unfold_L6 cod tln FU 0 0 0 unf).bind fun (x6_1, x6_2) =>
  some (x6_1, x6_2)
abbrev rmX4_unfold : Room := { frames := 3, cells := 0, slots := 0, locals := 68 }
set_option maxHeartbeats 4000000 in
set_option maxRecDepth 100000 in
theorem mX4_unfold (l : Launch) (D : va_G) (cI cO cJ : ClassId) (h4 h4_cod h4_unf : Nat) (sz : Nat) (cod : Nat → Int32) (unf : Nat → Int32) (tln : Int32) (z : Int32 × (Nat → Int32)) (h : fX4_unfold cod unf tln = some z) : Met l yX4_unfold wsX4_unfold rmX4_unfold (pw_pre D (tyL cI cO cJ) [.ref h4] [(h4, .inr (4, [.ref h4_cod, .ref h4_unf, .int tln])), (h4_cod, .inl (cI, 60, .inl cod)), (h4_unf, .inl (cI, 540, .inl unf))] sz) (pw_i D [(h4, .inr (4, [.ref h4_cod, .ref h4_unf, .int tln])), (h4_cod, .inl (cI, 60, .inl cod)), (h4_unf, .inl (cI, 540, .inl unf))] [(h4, .inr (4, [.ref h4_cod, .ref h4_unf, .int tln])), (h4_cod, .inl (cI, 60, .inl cod)), (h4_unf, .inl (cI, 540, .inl z.2))] z.1 sz) 0 0 (va_A [(h4, .inr (4, [.ref h4_cod, .ref h4_unf, .int tln])), (h4_cod, .inl (cI, 60, .inl cod)), (h4_unf, .inl (cI, 540, .inl unf))] sz) := by
  refine pw_of (Qc := fun sz => pw_i D [(h4, .inr (4, [.ref h4_cod, .ref h4_unf, .int tln])), (h4_cod, .inl (cI, 60, .inl cod)), (h4_unf, .inl (cI, 540, .inl unf))] [(h4, .inr (4, [.ref h4_cod, .ref h4_unf, .int tln])), (h4_cod, .inl (cI, 60, .inl cod)), (h4_unf, .inl (cI, 540, .inl z.2))] z.1 sz) (cc := cX4_unfold) (maxL := 5) (ret := (some .int)) (by decide) rfl (Nat.le_of_ble_eq_true rfl) ?_
  intro p e s m args below meth c A Q H ls hx hb hml hr hts hown hlocks hAe hQ hK hN hA hP hD hS hl
  have hown : s.vm.findClass RX4 = some m.cls := hown
  have hl : lv_has ls 5 [(0, .ref h4)] := hl
  have hP : va_P D vwCl ([(h4, .inr (4, [.ref h4_cod, .ref h4_unf, .int tln])), (h4_cod, .inl (cI, 60, .inl cod)), (h4_unf, .inl (cI, 540, .inl unf))] ++ []) H := hP
  have hD : va_D A ([(h4, .inr (4, [.ref h4_cod, .ref h4_unf, .int tln])), (h4_cod, .inl (cI, 60, .inl cod)), (h4_unf, .inl (cI, 540, .inl unf))] ++ []) := hD
  have iX4 : ∀ w ∈ u_ws RX4 TX4 3, w ∈ wsX4_unfold := fun _ h => List.mem_cons_of_mem _ (List.mem_append_right _ h)
  unfold fX4_unfold at h
  refine lv_iconst (v := 0) hx hb dX4_unfold_0 (by decide) ?_
  refine lv_istore_n (lv' := [(1, .int 0), (0, .ref h4)]) hx hb dX4_unfold_1 rfl hl (by decide) rfl (fun ls hl => ?_)
  refine lv_iconst (v := 0) hx hb dX4_unfold_2 (by decide) ?_
  refine lv_istore_n (lv' := [(2, .int 0), (1, .int 0), (0, .ref h4)]) hx hb dX4_unfold_3 rfl hl (by decide) rfl (fun ls hl => ?_)
  refine lv_iconst (v := 0) hx hb dX4_unfold_4 (by decide) ?_
  refine lv_istore_n (lv' := [(3, .int 0), (2, .int 0), (1, .int 0), (0, .ref h4)]) hx hb dX4_unfold_5 rfl hl (by decide) rfl (fun ls hl => ?_)
  have L6 : ∀ (n : Nat) (v1_6 : Int32) (v2_6 : Int32) (v3_6 : Int32) (unf_6 : Nat → Int32) (o6_1 : Int32) (o6_2 : Nat → Int32) (H : Heap) (locs : List Loc) (ls : Array Slot), fX4_unfold_L6 cod tln n v1_6 v2_6 v3_6 unf_6 = some (o6_1, o6_2) → va_P D vwCl ([(h4, .inr (4, [.ref h4_cod, .ref h4_unf, .int tln])), (h4_cod, .inl (cI, 60, .inl cod)), (h4_unf, .inl (cI, 540, .inl unf_6))] ++ []) H → va_D A ([(h4, .inr (4, [.ref h4_cod, .ref h4_unf, .int tln])), (h4_cod, .inl (cI, 60, .inl cod)), (h4_unf, .inl (cI, 540, .inl unf_6))] ++ []) → va_S A s.heap H locs → lv_has ls 5 [(0, .ref h4), (1, .int v1_6), (2, .int v2_6), (3, .int v3_6)] → (∀ (H : Heap) (locs : List Loc) (ls : Array Slot), va_P D vwCl ([(h4, .inr (4, [.ref h4_cod, .ref h4_unf, .int tln])), (h4_cod, .inl (cI, 60, .inl cod)), (h4_unf, .inl (cI, 540, .inl o6_2))] ++ []) H → va_D A ([(h4, .inr (4, [.ref h4_cod, .ref h4_unf, .int tln])), (h4_cod, .inl (cI, 60, .inl cod)), (h4_unf, .inl (cI, 540, .inl o6_2))] ++ []) → va_S A s.heap H locs → lv_has ls 5 [(1, .int o6_1)] → W p l e rmX4_unfold s m args below meth c H locs 0 0 Q (F0 m 86 ls [])) → W p l e rmX4_unfold s m args below meth c H locs 0 0 Q (F0 m 6 ls []) := by
    intro n
    induction n with
    | zero =>
      intro v1_6 v2_6 v3_6 unf_6 o6_1 o6_2 H locs ls h
      rw [fX4_unfold_L6] at h
      cases h
    | succ n ih =>
      intro v1_6 v2_6 v3_6 unf_6 o6_1 o6_2 H locs ls h hP hD hS hl K
      rw [fX4_unfold_L6] at h
      refine lv_iload_n hx hb dX4_unfold_6 rfl (lv_at hl 3 rfl) ?_
      refine lv_aload_n hx hb dX4_unfold_7 rfl (lv_at hl 0 rfl) ?_
      refine va_get (D := D) (ci := 4) (v := .int tln) (C := RX4) (T := TX4) (N := 3) hx hb hts iX4 hown hK hP 0 rfl rfl 2 (by decide) (hts (.fieldLink RX4 18 "HiddenPeriods$Text" "length" "I") (by decide +kernel)) (fun _ h9 => h9) rfl dX4_unfold_8 ?_
      refine lv_icmp_ge (tgt := 86) hx hb dX4_unfold_11 (by decide) (fun cq => ?_) (fun cq => ?_)
      · replace h := ifp cq h
        cases h
        exact K _ _ _ hP hD hS (lv_sub hl [1] rfl)
      · replace h := ifn cq h
        refine lv_aload_n hx hb dX4_unfold_14 rfl (lv_at hl 0 rfl) ?_
        refine lv_iload_n hx hb dX4_unfold_15 rfl (lv_at hl 3 rfl) ?_
        obtain ⟨x1, hx1, h⟩ := bnd h
        refine pw_goi (wc := [(h4, .inr (4, [.ref h4_cod, .ref h4_unf, .int tln])), (h4_cod, .inl (cI, 60, .inl cod)), (h4_unf, .inl (cI, 540, .inl unf_6))]) (w1 := [(h4, .inr (4, [.ref h4_cod, .ref h4_unf, .int tln])), (h4_cod, .inl (cI, 60, .inl cod)), (h4_unf, .inl (cI, 540, .inl unf_6))]) (w2 := [(h4, .inr (4, [.ref h4_cod, .ref h4_unf, .int tln])), (h4_cod, .inl (cI, 60, .inl cod)), (h4_unf, .inl (cI, 540, .inl unf_6))]) (va_runV (As := [.int v3_6]) (rest := []) ⟨hx, hb, hml, hown, hts⟩ (mX4_codeAt l D cI cO cJ h4 h4_cod h4_unf H.size cod unf_6 tln v3_6 _ hx1) (cwV 1 hts gX4_unfold_X4_codeAt rfl rfl rfl (by decide +kernel) ⟨Nat.le_of_ble_eq_true rfl, Nat.le_of_ble_eq_true rfl⟩) (pw_preV hK hN (pw_sub hP [0, 1, 2] rfl) (pw_subD hD [0, 1, 2] (by decide) rfl) (ci := 4) (q0 := 0) rfl rfl) rfl rfl hl.1 rfl (lv_room (Nat.le_of_ble_eq_true rfl)) dX4_unfold_16 ⟨Nat.zero_le _, Nat.zero_le _⟩) hP hD hS hA [0, 1, 2] [] [0, 1, 2] rfl rfl (by decide) (by decide) (by decide) rfl (fun H locs hP hD hS => ?_)
        refine lv_istore (lv' := [(4, .int x1), (0, .ref h4), (1, .int v1_6), (2, .int v2_6), (3, .int v3_6)]) hx hb dX4_unfold_19 hl (by decide) rfl (fun ls hl => ?_)
        refine lv_iload hx hb dX4_unfold_21 (lv_at hl 0 rfl) ?_
        obtain ⟨x2, hx2, h⟩ := bnd h
        refine pw_go0 (va_runS (As := [.int x1]) (rest := []) ⟨hx, hb, hml, hown, hts⟩ (mX4_isLetter l D cI cO cJ H.size x1 _ hx2) (va_cwS 1 hts gX4_unfold_X4_isLetter rfl rfl rfl (by decide +kernel) ⟨Nat.le_of_ble_eq_true rfl, Nat.le_of_ble_eq_true rfl⟩) (pw_preS hK hN pw_nilP (pw_nilD (A := A))) rfl rfl hl.1 rfl (lv_room (Nat.le_of_ble_eq_true rfl)) dX4_unfold_23 ⟨Nat.zero_le _, Nat.zero_le _⟩) hP hS hA (fun H locs hP hS => ?_)
        refine lv_if_eq (tgt := 48) hx hb dX4_unfold_26 (by decide) (fun cq => ?_) (fun cq => ?_)
        · replace h := ifp cq h
          refine lv_iload hx hb dX4_unfold_48 (lv_at hl 0 rfl) ?_
          refine lv_bipush (v := 40) hx hb dX4_unfold_50 (by decide) ?_
          refine lv_icmp_ne (tgt := 60) hx hb dX4_unfold_52 (by decide) (fun cq => ?_) (fun cq => ?_)
          · replace h := ifn cq h
            refine lv_iload hx hb dX4_unfold_60 (lv_at hl 0 rfl) ?_
            obtain ⟨x3, hx3, h⟩ := bnd h
            refine pw_go0 (va_runS (As := [.int x1]) (rest := []) ⟨hx, hb, hml, hown, hts⟩ (mX4_isTimes l D cI cO cJ H.size x1 _ hx3) (va_cwS 1 hts gX4_unfold_X4_isTimes rfl rfl rfl (by decide +kernel) ⟨Nat.le_of_ble_eq_true rfl, Nat.le_of_ble_eq_true rfl⟩) (pw_preS hK hN pw_nilP (pw_nilD (A := A))) rfl rfl hl.1 rfl (lv_room (Nat.le_of_ble_eq_true rfl)) dX4_unfold_62 ⟨Nat.zero_le _, Nat.zero_le _⟩) hP hS hA (fun H locs hP hS => ?_)
            refine lv_if_eq (tgt := 80) hx hb dX4_unfold_65 (by decide) (fun cq => ?_) (fun cq => ?_)
            · replace h := ifp cq h
              refine lv_iinc (v := (v3_6 + 1)) (lv' := [(3, .int (v3_6 + 1)), (4, .int x1), (0, .ref h4), (1, .int v1_6), (2, .int v2_6)]) hx hb dX4_unfold_80 hl (k := 4) rfl rfl (by decide) rfl (fun ls hl => ?_)
              refine lv_goto (tgt := 6) hx hb dX4_unfold_83 (by decide) ?_
              exact ih _ _ _ _ _ _ _ _ _ h hP hD hS (lv_sub hl [2, 3, 4, 0] rfl) K
            · replace h := ifn cq h
              refine lv_aload_n hx hb dX4_unfold_68 rfl (lv_at hl 1 rfl) ?_
              refine lv_iload_n hx hb dX4_unfold_69 rfl (lv_at hl 3 rfl) ?_
              refine lv_iload_n hx hb dX4_unfold_70 rfl (lv_at hl 2 rfl) ?_
              refine lv_iload hx hb dX4_unfold_71 (lv_at hl 0 rfl) ?_
              refine lv_bipush (v := 48) hx hb dX4_unfold_73 (by decide) ?_
              refine lv_isub hx hb dX4_unfold_75 ?_
              obtain ⟨⟨x4_1, x4_2⟩, hx4, h⟩ := bnd h
              refine pw_goi (wc := [(h4, .inr (4, [.ref h4_cod, .ref h4_unf, .int tln])), (h4_cod, .inl (cI, 60, .inl cod)), (h4_unf, .inl (cI, 540, .inl unf_6))]) (w1 := [(h4, .inr (4, [.ref h4_cod, .ref h4_unf, .int tln])), (h4_cod, .inl (cI, 60, .inl cod)), (h4_unf, .inl (cI, 540, .inl x4_2))]) (w2 := [(h4, .inr (4, [.ref h4_cod, .ref h4_unf, .int tln])), (h4_cod, .inl (cI, 60, .inl cod)), (h4_unf, .inl (cI, 540, .inl x4_2))]) (va_runV (As := [.int v2_6, .int v1_6, .int (x1 - 48)]) (rest := []) ⟨hx, hb, hml, hown, hts⟩ (mX4_repeat l D cI cO cJ h4 h4_cod h4_unf H.size cod unf_6 tln v2_6 v1_6 (x1 - 48) _ hx4) (cwV 3 hts gX4_unfold_X4_repeat rfl rfl rfl (by decide +kernel) ⟨Nat.le_of_ble_eq_true rfl, Nat.le_of_ble_eq_true rfl⟩) (pw_preV hK hN (pw_sub hP [0, 1, 2] rfl) (pw_subD hD [0, 1, 2] (by decide) rfl) (ci := 4) (q0 := 0) rfl rfl) rfl rfl hl.1 rfl (lv_room (Nat.le_of_ble_eq_true rfl)) dX4_unfold_76 ⟨Nat.zero_le _, Nat.zero_le _⟩) hP hD hS hA [0, 1, 2] [] [0, 1, 2] rfl rfl (by decide) (by decide) (by decide) rfl (fun H locs hP hD hS => ?_)
              refine lv_istore_n (lv' := [(1, .int x4_1), (4, .int x1), (0, .ref h4), (2, .int v2_6), (3, .int v3_6)]) hx hb dX4_unfold_79 rfl hl (by decide) rfl (fun ls hl => ?_)
              refine lv_iinc (v := (v3_6 + 1)) (lv' := [(3, .int (v3_6 + 1)), (1, .int x4_1), (4, .int x1), (0, .ref h4), (2, .int v2_6)]) hx hb dX4_unfold_80 hl (k := 4) rfl rfl (by decide) rfl (fun ls hl => ?_)
              refine lv_goto (tgt := 6) hx hb dX4_unfold_83 (by decide) ?_
              exact ih _ _ _ _ _ _ _ _ _ h hP hD hS (lv_sub hl [3, 1, 4, 0] rfl) K
          · replace h := ifp cq h
            refine lv_iload_n hx hb dX4_unfold_55 rfl (lv_at hl 2 rfl) ?_
            refine lv_istore_n (lv' := [(2, .int v1_6), (4, .int x1), (0, .ref h4), (1, .int v1_6), (3, .int v3_6)]) hx hb dX4_unfold_56 rfl hl (by decide) rfl (fun ls hl => ?_)
            refine lv_goto (tgt := 80) hx hb dX4_unfold_57 (by decide) ?_
            refine lv_iinc (v := (v3_6 + 1)) (lv' := [(3, .int (v3_6 + 1)), (2, .int v1_6), (4, .int x1), (0, .ref h4), (1, .int v1_6)]) hx hb dX4_unfold_80 hl (k := 4) rfl rfl (by decide) rfl (fun ls hl => ?_)
            refine lv_goto (tgt := 6) hx hb dX4_unfold_83 (by decide) ?_
            exact ih _ _ _ _ _ _ _ _ _ h hP hD hS (lv_sub hl [3, 4, 1, 0] rfl) K
        · replace h := ifn cq h
          refine lv_aload_n hx hb dX4_unfold_29 rfl (lv_at hl 1 rfl) ?_
          refine va_get (D := D) (ci := 4) (v := .ref h4_unf) (C := RX4) (T := TX4) (N := 3) hx hb hts iX4 hown hK hP 0 rfl rfl 1 (by decide) (hts (.fieldLink RX4 15 "HiddenPeriods$Text" "unfolded" "[I") (by decide +kernel)) (fun _ h9 => h9) rfl dX4_unfold_30 ?_
          refine lv_iload_n hx hb dX4_unfold_33 rfl (lv_at hl 2 rfl) ?_
          refine lv_iload hx hb dX4_unfold_34 (lv_at hl 0 rfl) ?_
          refine lv_bipush (v := 97) hx hb dX4_unfold_36 (by decide) ?_
          refine lv_isub hx hb dX4_unfold_38 ?_
          obtain ⟨x5, hx5, h⟩ := bnd h
          refine pw_gov (wc := [(h4_unf, .inl (cI, 540, .inl unf_6))]) (w1 := [(h4_unf, .inl (cI, 540, .inl x5))]) (w2 := [(h4, .inr (4, [.ref h4_cod, .ref h4_unf, .int tln])), (h4_cod, .inl (cI, 60, .inl cod)), (h4_unf, .inl (cI, 540, .inl x5))]) (va_runSN (As := [.ref h4_unf, .int v1_6, .int (x1 - 97)]) (rest := []) ⟨hx, hb, hml, hown, hts⟩ (mX5_lay l D cI cO cJ h4_unf H.size unf_6 540 v1_6 (x1 - 97) _ hx5) ⟨va_cnB 3 hts gX4_unfold_X5_lay_n22 rfl rfl rfl (hN (.methodLinkNest RX4 22 yX5_lay "HiddenPeriods") (by decide +kernel)) (hts (.initialized RX5) (by decide +kernel)) (by decide +kernel) ⟨Nat.le_of_ble_eq_true rfl, Nat.le_of_ble_eq_true rfl⟩, (hts (.static yX5_lay) (by decide +kernel)), trivial⟩ (pw_preS hK hN (pw_sub hP [2] rfl) (pw_subD hD [2] (by decide) rfl)) rfl rfl hl.1 rfl (lv_room (Nat.le_of_ble_eq_true rfl)) dX4_unfold_39 ⟨Nat.zero_le _, Nat.zero_le _⟩) hP hD hS hA [2] [0, 1] [0, 1, 2] rfl rfl (by decide) (by decide) (by decide) rfl (fun H locs hP hD hS => ?_)
          refine lv_iinc (v := (v1_6 + 1)) (lv' := [(1, .int (v1_6 + 1)), (4, .int x1), (0, .ref h4), (2, .int v2_6), (3, .int v3_6)]) hx hb dX4_unfold_42 hl (k := 2) rfl rfl (by decide) rfl (fun ls hl => ?_)
          refine lv_goto (tgt := 80) hx hb dX4_unfold_45 (by decide) ?_
          refine lv_iinc (v := (v3_6 + 1)) (lv' := [(3, .int (v3_6 + 1)), (1, .int (v1_6 + 1)), (4, .int x1), (0, .ref h4), (2, .int v2_6)]) hx hb dX4_unfold_80 hl (k := 4) rfl rfl (by decide) rfl (fun ls hl => ?_)
          refine lv_goto (tgt := 6) hx hb dX4_unfold_83 (by decide) ?_
          exact ih _ _ _ _ _ _ _ _ _ h hP hD hS (lv_sub hl [3, 1, 4, 0] rfl) K
  obtain ⟨⟨x6_1, x6_2⟩, hx6, h⟩ := bnd h
  refine L6 FU _ _ _ _ _ _ _ _ _ hx6 hP hD hS (lv_sub hl [3, 2, 1, 0] rfl) (fun H locs ls hP hD hS hl => ?_)
  refine lv_iload_n hx hb dX4_unfold_86 rfl (lv_at hl 0 rfl) ?_
  cases h
  exact pw_iret hx hb hr hlocks hAe hQ hP hD hS dX4_unfold_87
def fX5_isWithin (a1 : Int32) (a2 : Int32) (a3 : Int32) : Option Int32 :=
  if a1 < a2 then
  some 0
  else
  if a3 < a1 then
  some 0
  else
  some 1
abbrev rmX5_isWithin : Room := { frames := 0, cells := 0, slots := 0, locals := 0 }
set_option maxHeartbeats 4000000 in
set_option maxRecDepth 100000 in
theorem mX5_isWithin (l : Launch) (D : va_G) (cI cO cJ : ClassId) (sz : Nat) (a1 : Int32) (a2 : Int32) (a3 : Int32) (z : Int32) (h : fX5_isWithin a1 a2 a3 = some z) : Met l yX5_isWithin wsX5_isWithin rmX5_isWithin (pw_pre D (tyL cI cO cJ) [.int a1, .int a2, .int a3] [] sz) (pw_i D [] [] z sz) 0 0 (va_A [] sz) := by
  refine pw_of (Qc := fun sz => pw_i D [] [] z sz) (cc := cX5_isWithin) (maxL := 3) (ret := (some .boolean)) (by decide) rfl (Nat.le_of_ble_eq_true rfl) ?_
  intro p e s m args below meth c A Q H ls hx hb hml hr hts hown hlocks hAe hQ hK hN hA hP hD hS hl
  have hown : s.vm.findClass RX5 = some m.cls := hown
  have hl : lv_has ls 3 [(0, .int a1), (1, .int a2), (2, .int a3)] := hl
  unfold fX5_isWithin at h
  refine lv_iload_n hx hb dX5_isWithin_0 rfl (lv_at hl 0 rfl) ?_
  refine lv_iload_n hx hb dX5_isWithin_1 rfl (lv_at hl 1 rfl) ?_
  refine lv_icmp_lt (tgt := 14) hx hb dX5_isWithin_2 (by decide) (fun cq => ?_) (fun cq => ?_)
  · replace h := ifp cq h
    refine lv_iconst (v := 0) hx hb dX5_isWithin_14 (by decide) ?_
    cases h
    exact pw_zret hx hb hr hlocks hAe (by decide) hQ hP hD hS dX5_isWithin_15
  · replace h := ifn cq h
    refine lv_iload_n hx hb dX5_isWithin_5 rfl (lv_at hl 0 rfl) ?_
    refine lv_iload_n hx hb dX5_isWithin_6 rfl (lv_at hl 2 rfl) ?_
    refine lv_icmp_gt (tgt := 14) hx hb dX5_isWithin_7 (by decide) (fun cq => ?_) (fun cq => ?_)
    · replace h := ifp cq h
      refine lv_iconst (v := 0) hx hb dX5_isWithin_14 (by decide) ?_
      cases h
      exact pw_zret hx hb hr hlocks hAe (by decide) hQ hP hD hS dX5_isWithin_15
    · replace h := ifn cq h
      refine lv_iconst (v := 1) hx hb dX5_isWithin_10 (by decide) ?_
      refine lv_goto (tgt := 15) hx hb dX5_isWithin_11 (by decide) ?_
      cases h
      exact pw_zret hx hb hr hlocks hAe (by decide) hQ hP hD hS dX5_isWithin_15
def fX5_isSign (a1 : Int32) : Option Int32 :=
  (fX5_isWithin a1 0 3).bind fun x1 =>
  if ¬ (x1 = 0 ∨ x1 = 1) then none else
  some x1
abbrev rmX5_isSign : Room := { frames := 1, cells := 0, slots := 0, locals := 22 }
set_option maxHeartbeats 4000000 in
set_option maxRecDepth 100000 in
theorem mX5_isSign (l : Launch) (D : va_G) (cI cO cJ : ClassId) (sz : Nat) (a1 : Int32) (z : Int32) (h : fX5_isSign a1 = some z) : Met l yX5_isSign wsX5_isSign rmX5_isSign (pw_pre D (tyL cI cO cJ) [.int a1] [] sz) (pw_i D [] [] z sz) 0 0 (va_A [] sz) := by
  refine pw_of (Qc := fun sz => pw_i D [] [] z sz) (cc := cX5_isSign) (maxL := 1) (ret := (some .boolean)) (by decide) rfl (Nat.le_of_ble_eq_true rfl) ?_
  intro p e s m args below meth c A Q H ls hx hb hml hr hts hown hlocks hAe hQ hK hN hA hP hD hS hl
  have hown : s.vm.findClass RX5 = some m.cls := hown
  have hl : lv_has ls 1 [(0, .int a1)] := hl
  unfold fX5_isSign at h
  refine lv_iload_n hx hb dX5_isSign_0 rfl (lv_at hl 0 rfl) ?_
  refine lv_iconst (v := 0) hx hb dX5_isSign_1 (by decide) ?_
  refine lv_iconst (v := 3) hx hb dX5_isSign_2 (by decide) ?_
  obtain ⟨x1, hx1, h⟩ := bnd h
  refine pw_go0 (va_runS (As := [.int a1, .int 0, .int 3]) (rest := []) ⟨hx, hb, hml, hown, hts⟩ (mX5_isWithin l D cI cO cJ H.size a1 0 3 _ hx1) (va_cwS 3 hts gX5_isSign_X5_isWithin rfl rfl rfl (by decide +kernel) ⟨Nat.le_of_ble_eq_true rfl, Nat.le_of_ble_eq_true rfl⟩) (pw_preS hK hN pw_nilP (pw_nilD (A := A))) rfl rfl hl.1 rfl (lv_room (Nat.le_of_ble_eq_true rfl)) dX5_isSign_3 ⟨Nat.zero_le _, Nat.zero_le _⟩) hP hS hA (fun H locs hP hS => ?_)
  obtain ⟨g2, h⟩ := gdn h
  cases h
  exact pw_zret hx hb hr hlocks hAe (Decidable.not_not.mp g2) hQ hP hD hS dX5_isSign_6
def fX5_isTenths (a1 : Int32) : Option Int32 :=
  (fX5_isWithin a1 10 400).bind fun x1 =>
  if ¬ (x1 = 0 ∨ x1 = 1) then none else
  some x1
abbrev rmX5_isTenths : Room := { frames := 1, cells := 0, slots := 0, locals := 22 }
set_option maxHeartbeats 4000000 in
set_option maxRecDepth 100000 in
theorem mX5_isTenths (l : Launch) (D : va_G) (cI cO cJ : ClassId) (sz : Nat) (a1 : Int32) (z : Int32) (h : fX5_isTenths a1 = some z) : Met l yX5_isTenths wsX5_isTenths rmX5_isTenths (pw_pre D (tyL cI cO cJ) [.int a1] [] sz) (pw_i D [] [] z sz) 0 0 (va_A [] sz) := by
  refine pw_of (Qc := fun sz => pw_i D [] [] z sz) (cc := cX5_isTenths) (maxL := 1) (ret := (some .boolean)) (by decide) rfl (Nat.le_of_ble_eq_true rfl) ?_
  intro p e s m args below meth c A Q H ls hx hb hml hr hts hown hlocks hAe hQ hK hN hA hP hD hS hl
  have hown : s.vm.findClass RX5 = some m.cls := hown
  have hl : lv_has ls 1 [(0, .int a1)] := hl
  unfold fX5_isTenths at h
  refine lv_iload_n hx hb dX5_isTenths_0 rfl (lv_at hl 0 rfl) ?_
  refine lv_bipush (v := 10) hx hb dX5_isTenths_1 (by decide) ?_
  refine lv_sipush (v := 400) hx hb dX5_isTenths_3 (by decide) ?_
  obtain ⟨x1, hx1, h⟩ := bnd h
  refine pw_go0 (va_runS (As := [.int a1, .int 10, .int 400]) (rest := []) ⟨hx, hb, hml, hown, hts⟩ (mX5_isWithin l D cI cO cJ H.size a1 10 400 _ hx1) (va_cwS 3 hts gX5_isTenths_X5_isWithin rfl rfl rfl (by decide +kernel) ⟨Nat.le_of_ble_eq_true rfl, Nat.le_of_ble_eq_true rfl⟩) (pw_preS hK hN pw_nilP (pw_nilD (A := A))) rfl rfl hl.1 rfl (lv_room (Nat.le_of_ble_eq_true rfl)) dX5_isTenths_6 ⟨Nat.zero_le _, Nat.zero_le _⟩) hP hS hA (fun H locs hP hS => ?_)
  obtain ⟨g2, h⟩ := gdn h
  cases h
  exact pw_zret hx hb hr hlocks hAe (Decidable.not_not.mp g2) hQ hP hD hS dX5_isTenths_9
def fX5_grownSign (a1 : Int32) (a2 : Int32) (a3 : Int32) : Option Int32 :=
  (fX5_classOf a1 a2 0).bind fun x1 =>
  if a3 ≤ 0 then
  some (x1 - x1 / 4 * 4)
  else
  if a3 = 0 then none else
  if (a1 - a1 / a3 * a3) = 0 then
  some (((x1 - x1 / 4 * 4) + 1) - ((x1 - x1 / 4 * 4) + 1) / 4 * 4)
  else
  some (x1 - x1 / 4 * 4)
abbrev rmX5_grownSign : Room := { frames := 1, cells := 0, slots := 0, locals := 22 }
set_option maxHeartbeats 4000000 in
set_option maxRecDepth 100000 in
theorem mX5_grownSign (l : Launch) (D : va_G) (cI cO cJ : ClassId) (sz : Nat) (a1 : Int32) (a2 : Int32) (a3 : Int32) (z : Int32) (h : fX5_grownSign a1 a2 a3 = some z) : Met l yX5_grownSign wsX5_grownSign rmX5_grownSign (pw_pre D (tyL cI cO cJ) [.int a1, .int a2, .int a3] [] sz) (pw_i D [] [] z sz) 0 0 (va_A [] sz) := by
  refine pw_of (Qc := fun sz => pw_i D [] [] z sz) (cc := cX5_grownSign) (maxL := 4) (ret := (some .int)) (by decide) rfl (Nat.le_of_ble_eq_true rfl) ?_
  intro p e s m args below meth c A Q H ls hx hb hml hr hts hown hlocks hAe hQ hK hN hA hP hD hS hl
  have hown : s.vm.findClass RX5 = some m.cls := hown
  have hl : lv_has ls 4 [(0, .int a1), (1, .int a2), (2, .int a3)] := hl
  unfold fX5_grownSign at h
  refine lv_iload_n hx hb dX5_grownSign_0 rfl (lv_at hl 0 rfl) ?_
  refine lv_iload_n hx hb dX5_grownSign_1 rfl (lv_at hl 1 rfl) ?_
  refine lv_iconst (v := 0) hx hb dX5_grownSign_2 (by decide) ?_
  obtain ⟨x1, hx1, h⟩ := bnd h
  refine pw_go0 (va_runS (As := [.int a1, .int a2, .int 0]) (rest := []) ⟨hx, hb, hml, hown, hts⟩ (mX5_classOf l D cI cO cJ H.size a1 a2 0 _ hx1) (va_cwS 3 hts gX5_grownSign_X5_classOf rfl rfl rfl (by decide +kernel) ⟨Nat.le_of_ble_eq_true rfl, Nat.le_of_ble_eq_true rfl⟩) (pw_preS hK hN pw_nilP (pw_nilD (A := A))) rfl rfl hl.1 rfl (lv_room (Nat.le_of_ble_eq_true rfl)) dX5_grownSign_3 ⟨Nat.zero_le _, Nat.zero_le _⟩) hP hS hA (fun H locs hP hS => ?_)
  refine lv_iconst (v := 4) hx hb dX5_grownSign_6 (by decide) ?_
  refine lv_irem hx hb dX5_grownSign_7 (by decide) ?_
  refine lv_istore_n (lv' := [(3, .int (x1 - x1 / 4 * 4)), (0, .int a1), (1, .int a2), (2, .int a3)]) hx hb dX5_grownSign_8 rfl hl (by decide) rfl (fun ls hl => ?_)
  refine lv_iload_n hx hb dX5_grownSign_9 rfl (lv_at hl 3 rfl) ?_
  refine lv_if_le (tgt := 25) hx hb dX5_grownSign_10 (by decide) (fun cq => ?_) (fun cq => ?_)
  · replace h := ifp cq h
    refine lv_iload_n hx hb dX5_grownSign_25 rfl (lv_at hl 0 rfl) ?_
    cases h
    exact pw_iret hx hb hr hlocks hAe hQ hP hD hS dX5_grownSign_26
  · replace h := ifn cq h
    refine lv_iload_n hx hb dX5_grownSign_13 rfl (lv_at hl 1 rfl) ?_
    refine lv_iload_n hx hb dX5_grownSign_14 rfl (lv_at hl 3 rfl) ?_
    obtain ⟨g2, h⟩ := gdn h
    refine lv_irem hx hb dX5_grownSign_15 g2 ?_
    refine lv_if_ne (tgt := 25) hx hb dX5_grownSign_16 (by decide) (fun cq => ?_) (fun cq => ?_)
    · replace h := ifn cq h
      refine lv_iload_n hx hb dX5_grownSign_25 rfl (lv_at hl 0 rfl) ?_
      cases h
      exact pw_iret hx hb hr hlocks hAe hQ hP hD hS dX5_grownSign_26
    · replace h := ifp cq h
      refine lv_iload_n hx hb dX5_grownSign_19 rfl (lv_at hl 0 rfl) ?_
      refine lv_iconst (v := 1) hx hb dX5_grownSign_20 (by decide) ?_
      refine lv_iadd hx hb dX5_grownSign_21 ?_
      refine lv_iconst (v := 4) hx hb dX5_grownSign_22 (by decide) ?_
      refine lv_irem hx hb dX5_grownSign_23 (by decide) ?_
      cases h
      exact pw_iret hx hb hr hlocks hAe hQ hP hD hS dX5_grownSign_24
def fX5_isPeriod (a1 : Int32) (a2 : Int32) : Option Int32 :=
  (fX5_isTenths a1).bind fun x1 =>
  if x1 = 0 then
  some 0
  else
  (fX5_isWithin a2 0 (a1 - 1)).bind fun x2 =>
  if x2 = 0 then
  some 0
  else
  some 1
abbrev rmX5_isPeriod : Room := { frames := 2, cells := 0, slots := 0, locals := 42 }
set_option maxHeartbeats 4000000 in
set_option maxRecDepth 100000 in
theorem mX5_isPeriod (l : Launch) (D : va_G) (cI cO cJ : ClassId) (sz : Nat) (a1 : Int32) (a2 : Int32) (z : Int32) (h : fX5_isPeriod a1 a2 = some z) : Met l yX5_isPeriod wsX5_isPeriod rmX5_isPeriod (pw_pre D (tyL cI cO cJ) [.int a1, .int a2] [] sz) (pw_i D [] [] z sz) 0 0 (va_A [] sz) := by
  refine pw_of (Qc := fun sz => pw_i D [] [] z sz) (cc := cX5_isPeriod) (maxL := 2) (ret := (some .boolean)) (by decide) rfl (Nat.le_of_ble_eq_true rfl) ?_
  intro p e s m args below meth c A Q H ls hx hb hml hr hts hown hlocks hAe hQ hK hN hA hP hD hS hl
  have hown : s.vm.findClass RX5 = some m.cls := hown
  have hl : lv_has ls 2 [(0, .int a1), (1, .int a2)] := hl
  unfold fX5_isPeriod at h
  refine lv_iload_n hx hb dX5_isPeriod_0 rfl (lv_at hl 0 rfl) ?_
  obtain ⟨x1, hx1, h⟩ := bnd h
  refine pw_go0 (va_runS (As := [.int a1]) (rest := []) ⟨hx, hb, hml, hown, hts⟩ (mX5_isTenths l D cI cO cJ H.size a1 _ hx1) (va_cwS 1 hts gX5_isPeriod_X5_isTenths rfl rfl rfl (by decide +kernel) ⟨Nat.le_of_ble_eq_true rfl, Nat.le_of_ble_eq_true rfl⟩) (pw_preS hK hN pw_nilP (pw_nilD (A := A))) rfl rfl hl.1 rfl (lv_room (Nat.le_of_ble_eq_true rfl)) dX5_isPeriod_1 ⟨Nat.zero_le _, Nat.zero_le _⟩) hP hS hA (fun H locs hP hS => ?_)
  refine lv_if_eq (tgt := 22) hx hb dX5_isPeriod_4 (by decide) (fun cq => ?_) (fun cq => ?_)
  · replace h := ifp cq h
    refine lv_iconst (v := 0) hx hb dX5_isPeriod_22 (by decide) ?_
    cases h
    exact pw_zret hx hb hr hlocks hAe (by decide) hQ hP hD hS dX5_isPeriod_23
  · replace h := ifn cq h
    refine lv_iload_n hx hb dX5_isPeriod_7 rfl (lv_at hl 1 rfl) ?_
    refine lv_iconst (v := 0) hx hb dX5_isPeriod_8 (by decide) ?_
    refine lv_iload_n hx hb dX5_isPeriod_9 rfl (lv_at hl 0 rfl) ?_
    refine lv_iconst (v := 1) hx hb dX5_isPeriod_10 (by decide) ?_
    refine lv_isub hx hb dX5_isPeriod_11 ?_
    obtain ⟨x2, hx2, h⟩ := bnd h
    refine pw_go0 (va_runS (As := [.int a2, .int 0, .int (a1 - 1)]) (rest := []) ⟨hx, hb, hml, hown, hts⟩ (mX5_isWithin l D cI cO cJ H.size a2 0 (a1 - 1) _ hx2) (va_cwS 3 hts gX5_isPeriod_X5_isWithin rfl rfl rfl (by decide +kernel) ⟨Nat.le_of_ble_eq_true rfl, Nat.le_of_ble_eq_true rfl⟩) (pw_preS hK hN pw_nilP (pw_nilD (A := A))) rfl rfl hl.1 rfl (lv_room (Nat.le_of_ble_eq_true rfl)) dX5_isPeriod_12 ⟨Nat.zero_le _, Nat.zero_le _⟩) hP hS hA (fun H locs hP hS => ?_)
    refine lv_if_eq (tgt := 22) hx hb dX5_isPeriod_15 (by decide) (fun cq => ?_) (fun cq => ?_)
    · replace h := ifp cq h
      refine lv_iconst (v := 0) hx hb dX5_isPeriod_22 (by decide) ?_
      cases h
      exact pw_zret hx hb hr hlocks hAe (by decide) hQ hP hD hS dX5_isPeriod_23
    · replace h := ifn cq h
      refine lv_iconst (v := 1) hx hb dX5_isPeriod_18 (by decide) ?_
      refine lv_goto (tgt := 23) hx hb dX5_isPeriod_19 (by decide) ?_
      cases h
      exact pw_zret hx hb hr hlocks hAe (by decide) hQ hP hD hS dX5_isPeriod_23
def fX5_canKeep (ten : Nat → Int32) (pha : Nat → Int32) (kep : Int32) (a1 : Int32) (a2 : Int32) : Option Int32 :=
  if 4 ≤ kep then
  some 0
  else
  (fX2_hasPeriod ten pha kep a1 a2).bind fun x1 =>
  if x1 = 0 then
  some 1
  else
  some 0
abbrev rmX5_canKeep : Room := { frames := 3, cells := 0, slots := 0, locals := 65 }
set_option maxHeartbeats 4000000 in
set_option maxRecDepth 100000 in
theorem mX5_canKeep (l : Launch) (D : va_G) (cI cO cJ : ClassId) (h5 h2 h2_row h2_ten h2_pha h1 h1a h4 h4_cod h4_unf h0 h0_cel h3 h3_str h3_tlr h3_tsg : Nat) (sz : Nat) (row : Nat → Int32) (ten : Nat → Int32) (pha : Nat → Int32) (len : Int32) (kep : Int32) (wfi : Int32) (wmo : Int32) (hun : Int32) (nex : Int32) (man : Int32) (cod : Nat → Int32) (unf : Nat → Int32) (tln : Int32) (cel : Nat → Int32) (cls : Int32) (str : Nat → Int32) (tlr : Nat → Int32) (tsg : Nat → Int32) (a1 : Int32) (a2 : Int32) (z : Int32) (h : fX5_canKeep ten pha kep a1 a2 = some z) : Met l yX5_canKeep wsX5_canKeep rmX5_canKeep (pw_pre D (tyL cI cO cJ) [.ref h5, .int a1, .int a2] [(h5, .inr (5, [.ref h2, .ref h1, .ref h4, .ref h0, .ref h3])), (h2, .inr (2, [.ref h2_row, .ref h2_ten, .ref h2_pha, .int len, .int kep, .int wfi, .int wmo, .int hun])), (h2_row, .inl (cI, 240, .inl row)), (h2_ten, .inl (cI, 4, .inl ten)), (h2_pha, .inl (cI, 4, .inl pha)), (h1, .inr (1, [.ref h1a, .int nex, .int man])), (h4, .inr (4, [.ref h4_cod, .ref h4_unf, .int tln])), (h4_cod, .inl (cI, 60, .inl cod)), (h4_unf, .inl (cI, 540, .inl unf)), (h0, .inr (0, [.ref h0_cel, .int cls])), (h0_cel, .inl (cI, 160, .inl cel)), (h3, .inr (3, [.ref h3_str, .ref h3_tlr, .ref h3_tsg])), (h3_str, .inl (cI, 40, .inl str)), (h3_tlr, .inl (cI, 240, .inl tlr)), (h3_tsg, .inl (cI, 240, .inl tsg))] sz) (pw_i D [(h5, .inr (5, [.ref h2, .ref h1, .ref h4, .ref h0, .ref h3])), (h2, .inr (2, [.ref h2_row, .ref h2_ten, .ref h2_pha, .int len, .int kep, .int wfi, .int wmo, .int hun])), (h2_row, .inl (cI, 240, .inl row)), (h2_ten, .inl (cI, 4, .inl ten)), (h2_pha, .inl (cI, 4, .inl pha)), (h1, .inr (1, [.ref h1a, .int nex, .int man])), (h4, .inr (4, [.ref h4_cod, .ref h4_unf, .int tln])), (h4_cod, .inl (cI, 60, .inl cod)), (h4_unf, .inl (cI, 540, .inl unf)), (h0, .inr (0, [.ref h0_cel, .int cls])), (h0_cel, .inl (cI, 160, .inl cel)), (h3, .inr (3, [.ref h3_str, .ref h3_tlr, .ref h3_tsg])), (h3_str, .inl (cI, 40, .inl str)), (h3_tlr, .inl (cI, 240, .inl tlr)), (h3_tsg, .inl (cI, 240, .inl tsg))] [(h5, .inr (5, [.ref h2, .ref h1, .ref h4, .ref h0, .ref h3])), (h2, .inr (2, [.ref h2_row, .ref h2_ten, .ref h2_pha, .int len, .int kep, .int wfi, .int wmo, .int hun])), (h2_row, .inl (cI, 240, .inl row)), (h2_ten, .inl (cI, 4, .inl ten)), (h2_pha, .inl (cI, 4, .inl pha)), (h1, .inr (1, [.ref h1a, .int nex, .int man])), (h4, .inr (4, [.ref h4_cod, .ref h4_unf, .int tln])), (h4_cod, .inl (cI, 60, .inl cod)), (h4_unf, .inl (cI, 540, .inl unf)), (h0, .inr (0, [.ref h0_cel, .int cls])), (h0_cel, .inl (cI, 160, .inl cel)), (h3, .inr (3, [.ref h3_str, .ref h3_tlr, .ref h3_tsg])), (h3_str, .inl (cI, 40, .inl str)), (h3_tlr, .inl (cI, 240, .inl tlr)), (h3_tsg, .inl (cI, 240, .inl tsg))] z sz) 0 0 (va_A [(h5, .inr (5, [.ref h2, .ref h1, .ref h4, .ref h0, .ref h3])), (h2, .inr (2, [.ref h2_row, .ref h2_ten, .ref h2_pha, .int len, .int kep, .int wfi, .int wmo, .int hun])), (h2_row, .inl (cI, 240, .inl row)), (h2_ten, .inl (cI, 4, .inl ten)), (h2_pha, .inl (cI, 4, .inl pha)), (h1, .inr (1, [.ref h1a, .int nex, .int man])), (h4, .inr (4, [.ref h4_cod, .ref h4_unf, .int tln])), (h4_cod, .inl (cI, 60, .inl cod)), (h4_unf, .inl (cI, 540, .inl unf)), (h0, .inr (0, [.ref h0_cel, .int cls])), (h0_cel, .inl (cI, 160, .inl cel)), (h3, .inr (3, [.ref h3_str, .ref h3_tlr, .ref h3_tsg])), (h3_str, .inl (cI, 40, .inl str)), (h3_tlr, .inl (cI, 240, .inl tlr)), (h3_tsg, .inl (cI, 240, .inl tsg))] sz) := by
  refine pw_of (Qc := fun sz => pw_i D [(h5, .inr (5, [.ref h2, .ref h1, .ref h4, .ref h0, .ref h3])), (h2, .inr (2, [.ref h2_row, .ref h2_ten, .ref h2_pha, .int len, .int kep, .int wfi, .int wmo, .int hun])), (h2_row, .inl (cI, 240, .inl row)), (h2_ten, .inl (cI, 4, .inl ten)), (h2_pha, .inl (cI, 4, .inl pha)), (h1, .inr (1, [.ref h1a, .int nex, .int man])), (h4, .inr (4, [.ref h4_cod, .ref h4_unf, .int tln])), (h4_cod, .inl (cI, 60, .inl cod)), (h4_unf, .inl (cI, 540, .inl unf)), (h0, .inr (0, [.ref h0_cel, .int cls])), (h0_cel, .inl (cI, 160, .inl cel)), (h3, .inr (3, [.ref h3_str, .ref h3_tlr, .ref h3_tsg])), (h3_str, .inl (cI, 40, .inl str)), (h3_tlr, .inl (cI, 240, .inl tlr)), (h3_tsg, .inl (cI, 240, .inl tsg))] [(h5, .inr (5, [.ref h2, .ref h1, .ref h4, .ref h0, .ref h3])), (h2, .inr (2, [.ref h2_row, .ref h2_ten, .ref h2_pha, .int len, .int kep, .int wfi, .int wmo, .int hun])), (h2_row, .inl (cI, 240, .inl row)), (h2_ten, .inl (cI, 4, .inl ten)), (h2_pha, .inl (cI, 4, .inl pha)), (h1, .inr (1, [.ref h1a, .int nex, .int man])), (h4, .inr (4, [.ref h4_cod, .ref h4_unf, .int tln])), (h4_cod, .inl (cI, 60, .inl cod)), (h4_unf, .inl (cI, 540, .inl unf)), (h0, .inr (0, [.ref h0_cel, .int cls])), (h0_cel, .inl (cI, 160, .inl cel)), (h3, .inr (3, [.ref h3_str, .ref h3_tlr, .ref h3_tsg])), (h3_str, .inl (cI, 40, .inl str)), (h3_tlr, .inl (cI, 240, .inl tlr)), (h3_tsg, .inl (cI, 240, .inl tsg))] z sz) (cc := cX5_canKeep) (maxL := 3) (ret := (some .boolean)) (by decide) rfl (Nat.le_of_ble_eq_true rfl) ?_
  intro p e s m args below meth c A Q H ls hx hb hml hr hts hown hlocks hAe hQ hK hN hA hP hD hS hl
  have hown : s.vm.findClass RX5 = some m.cls := hown
  have hl : lv_has ls 3 [(0, .ref h5), (1, .int a1), (2, .int a2)] := hl
  have hP : va_P D vwCl ([(h5, .inr (5, [.ref h2, .ref h1, .ref h4, .ref h0, .ref h3])), (h2, .inr (2, [.ref h2_row, .ref h2_ten, .ref h2_pha, .int len, .int kep, .int wfi, .int wmo, .int hun])), (h2_row, .inl (cI, 240, .inl row)), (h2_ten, .inl (cI, 4, .inl ten)), (h2_pha, .inl (cI, 4, .inl pha)), (h1, .inr (1, [.ref h1a, .int nex, .int man])), (h4, .inr (4, [.ref h4_cod, .ref h4_unf, .int tln])), (h4_cod, .inl (cI, 60, .inl cod)), (h4_unf, .inl (cI, 540, .inl unf)), (h0, .inr (0, [.ref h0_cel, .int cls])), (h0_cel, .inl (cI, 160, .inl cel)), (h3, .inr (3, [.ref h3_str, .ref h3_tlr, .ref h3_tsg])), (h3_str, .inl (cI, 40, .inl str)), (h3_tlr, .inl (cI, 240, .inl tlr)), (h3_tsg, .inl (cI, 240, .inl tsg))] ++ []) H := hP
  have hD : va_D A ([(h5, .inr (5, [.ref h2, .ref h1, .ref h4, .ref h0, .ref h3])), (h2, .inr (2, [.ref h2_row, .ref h2_ten, .ref h2_pha, .int len, .int kep, .int wfi, .int wmo, .int hun])), (h2_row, .inl (cI, 240, .inl row)), (h2_ten, .inl (cI, 4, .inl ten)), (h2_pha, .inl (cI, 4, .inl pha)), (h1, .inr (1, [.ref h1a, .int nex, .int man])), (h4, .inr (4, [.ref h4_cod, .ref h4_unf, .int tln])), (h4_cod, .inl (cI, 60, .inl cod)), (h4_unf, .inl (cI, 540, .inl unf)), (h0, .inr (0, [.ref h0_cel, .int cls])), (h0_cel, .inl (cI, 160, .inl cel)), (h3, .inr (3, [.ref h3_str, .ref h3_tlr, .ref h3_tsg])), (h3_str, .inl (cI, 40, .inl str)), (h3_tlr, .inl (cI, 240, .inl tlr)), (h3_tsg, .inl (cI, 240, .inl tsg))] ++ []) := hD
  have iX2 : ∀ w ∈ u_ws RX2 TX2 8, w ∈ wsX5_canKeep := fun _ h => List.mem_cons_of_mem _ (List.mem_append_right _ h)
  have iX5 : ∀ w ∈ u_ws RX5 TX5 5, w ∈ wsX5_canKeep := fun _ h => List.mem_cons_of_mem _ (List.mem_append_left _ (List.mem_append_right _ h))
  unfold fX5_canKeep at h
  refine lv_aload_n hx hb dX5_canKeep_0 rfl (lv_at hl 0 rfl) ?_
  refine va_get (D := D) (ci := 5) (v := .ref h2) (C := RX5) (T := TX5) (N := 5) hx hb hts iX5 hown hK hP 0 rfl rfl 0 (by decide) (hts (.fieldLink RX5 10 "HiddenPeriods" "state" "LHiddenPeriods$State;") (by decide +kernel)) (fun _ h9 => h9) rfl dX5_canKeep_1 ?_
  refine va_getN (D := D) (ci := 2) (v := .int kep) (C := RX2) (T := TX2) (N := 8) hx hb hts iX2 hown hK hP 1 rfl rfl 4 (by decide) (va_Nw.use rfl (hN (.fieldLinkNest RX5 125 "HiddenPeriods$State" "kept" "I" "HiddenPeriods") (by decide +kernel))) (fun _ h9 => h9) rfl dX5_canKeep_4 ?_
  refine lv_iconst (v := 4) hx hb dX5_canKeep_7 (by decide) ?_
  refine lv_icmp_ge (tgt := 27) hx hb dX5_canKeep_8 (by decide) (fun cq => ?_) (fun cq => ?_)
  · replace h := ifp cq h
    refine lv_iconst (v := 0) hx hb dX5_canKeep_27 (by decide) ?_
    cases h
    exact pw_zret hx hb hr hlocks hAe (by decide) hQ hP hD hS dX5_canKeep_28
  · replace h := ifn cq h
    refine lv_aload_n hx hb dX5_canKeep_11 rfl (lv_at hl 0 rfl) ?_
    refine va_get (D := D) (ci := 5) (v := .ref h2) (C := RX5) (T := TX5) (N := 5) hx hb hts iX5 hown hK hP 0 rfl rfl 0 (by decide) (hts (.fieldLink RX5 10 "HiddenPeriods" "state" "LHiddenPeriods$State;") (by decide +kernel)) (fun _ h9 => h9) rfl dX5_canKeep_12 ?_
    refine lv_iload_n hx hb dX5_canKeep_15 rfl (lv_at hl 1 rfl) ?_
    refine lv_iload_n hx hb dX5_canKeep_16 rfl (lv_at hl 2 rfl) ?_
    obtain ⟨x1, hx1, h⟩ := bnd h
    refine pw_goi (wc := [(h2, .inr (2, [.ref h2_row, .ref h2_ten, .ref h2_pha, .int len, .int kep, .int wfi, .int wmo, .int hun])), (h2_row, .inl (cI, 240, .inl row)), (h2_ten, .inl (cI, 4, .inl ten)), (h2_pha, .inl (cI, 4, .inl pha))]) (w1 := [(h2, .inr (2, [.ref h2_row, .ref h2_ten, .ref h2_pha, .int len, .int kep, .int wfi, .int wmo, .int hun])), (h2_row, .inl (cI, 240, .inl row)), (h2_ten, .inl (cI, 4, .inl ten)), (h2_pha, .inl (cI, 4, .inl pha))]) (w2 := [(h5, .inr (5, [.ref h2, .ref h1, .ref h4, .ref h0, .ref h3])), (h2, .inr (2, [.ref h2_row, .ref h2_ten, .ref h2_pha, .int len, .int kep, .int wfi, .int wmo, .int hun])), (h2_row, .inl (cI, 240, .inl row)), (h2_ten, .inl (cI, 4, .inl ten)), (h2_pha, .inl (cI, 4, .inl pha)), (h1, .inr (1, [.ref h1a, .int nex, .int man])), (h4, .inr (4, [.ref h4_cod, .ref h4_unf, .int tln])), (h4_cod, .inl (cI, 60, .inl cod)), (h4_unf, .inl (cI, 540, .inl unf)), (h0, .inr (0, [.ref h0_cel, .int cls])), (h0_cel, .inl (cI, 160, .inl cel)), (h3, .inr (3, [.ref h3_str, .ref h3_tlr, .ref h3_tsg])), (h3_str, .inl (cI, 40, .inl str)), (h3_tlr, .inl (cI, 240, .inl tlr)), (h3_tsg, .inl (cI, 240, .inl tsg))]) (va_runV (As := [.int a1, .int a2]) (rest := []) ⟨hx, hb, hml, hown, hts⟩ (mX2_hasPeriod l D cI cO cJ h2 h2_row h2_ten h2_pha H.size row ten pha len kep wfi wmo hun a1 a2 _ hx1) (cwV 2 hts gX5_canKeep_X2_hasPeriod rfl rfl rfl (by decide +kernel) ⟨Nat.le_of_ble_eq_true rfl, Nat.le_of_ble_eq_true rfl⟩) (pw_preV hK hN (pw_sub hP [1, 2, 3, 4] rfl) (pw_subD hD [1, 2, 3, 4] (by decide) rfl) (ci := 2) (q0 := 0) rfl rfl) rfl rfl hl.1 rfl (lv_room (Nat.le_of_ble_eq_true rfl)) dX5_canKeep_17 ⟨Nat.zero_le _, Nat.zero_le _⟩) hP hD hS hA [1, 2, 3, 4] [0, 5, 6, 7, 8, 9, 10, 11, 12, 13, 14] [0, 11, 12, 13, 14, 1, 2, 3, 4, 5, 6, 7, 8, 9, 10] rfl rfl (by decide) (by decide) (by decide) rfl (fun H locs hP hD hS => ?_)
    refine lv_if_ne (tgt := 27) hx hb dX5_canKeep_20 (by decide) (fun cq => ?_) (fun cq => ?_)
    · replace h := ifn cq h
      refine lv_iconst (v := 0) hx hb dX5_canKeep_27 (by decide) ?_
      cases h
      exact pw_zret hx hb hr hlocks hAe (by decide) hQ hP hD hS dX5_canKeep_28
    · replace h := ifp cq h
      refine lv_iconst (v := 1) hx hb dX5_canKeep_23 (by decide) ?_
      refine lv_goto (tgt := 28) hx hb dX5_canKeep_24 (by decide) ?_
      cases h
      exact pw_zret hx hb hr hlocks hAe (by decide) hQ hP hD hS dX5_canKeep_28
def fX5_isTenthsRange (a1 : Int32) (a2 : Int32) : Option Int32 :=
  (fX5_isTenths a1).bind fun x1 =>
  if x1 = 0 then
  some 0
  else
  (fX5_isWithin a2 a1 400).bind fun x2 =>
  if x2 = 0 then
  some 0
  else
  some 1
abbrev rmX5_isTenthsRange : Room := { frames := 2, cells := 0, slots := 0, locals := 42 }
set_option maxHeartbeats 4000000 in
set_option maxRecDepth 100000 in
theorem mX5_isTenthsRange (l : Launch) (D : va_G) (cI cO cJ : ClassId) (sz : Nat) (a1 : Int32) (a2 : Int32) (z : Int32) (h : fX5_isTenthsRange a1 a2 = some z) : Met l yX5_isTenthsRange wsX5_isTenthsRange rmX5_isTenthsRange (pw_pre D (tyL cI cO cJ) [.int a1, .int a2] [] sz) (pw_i D [] [] z sz) 0 0 (va_A [] sz) := by
  refine pw_of (Qc := fun sz => pw_i D [] [] z sz) (cc := cX5_isTenthsRange) (maxL := 2) (ret := (some .boolean)) (by decide) rfl (Nat.le_of_ble_eq_true rfl) ?_
  intro p e s m args below meth c A Q H ls hx hb hml hr hts hown hlocks hAe hQ hK hN hA hP hD hS hl
  have hown : s.vm.findClass RX5 = some m.cls := hown
  have hl : lv_has ls 2 [(0, .int a1), (1, .int a2)] := hl
  unfold fX5_isTenthsRange at h
  refine lv_iload_n hx hb dX5_isTenthsRange_0 rfl (lv_at hl 0 rfl) ?_
  obtain ⟨x1, hx1, h⟩ := bnd h
  refine pw_go0 (va_runS (As := [.int a1]) (rest := []) ⟨hx, hb, hml, hown, hts⟩ (mX5_isTenths l D cI cO cJ H.size a1 _ hx1) (va_cwS 1 hts gX5_isTenthsRange_X5_isTenths rfl rfl rfl (by decide +kernel) ⟨Nat.le_of_ble_eq_true rfl, Nat.le_of_ble_eq_true rfl⟩) (pw_preS hK hN pw_nilP (pw_nilD (A := A))) rfl rfl hl.1 rfl (lv_room (Nat.le_of_ble_eq_true rfl)) dX5_isTenthsRange_1 ⟨Nat.zero_le _, Nat.zero_le _⟩) hP hS hA (fun H locs hP hS => ?_)
  refine lv_if_eq (tgt := 22) hx hb dX5_isTenthsRange_4 (by decide) (fun cq => ?_) (fun cq => ?_)
  · replace h := ifp cq h
    refine lv_iconst (v := 0) hx hb dX5_isTenthsRange_22 (by decide) ?_
    cases h
    exact pw_zret hx hb hr hlocks hAe (by decide) hQ hP hD hS dX5_isTenthsRange_23
  · replace h := ifn cq h
    refine lv_iload_n hx hb dX5_isTenthsRange_7 rfl (lv_at hl 1 rfl) ?_
    refine lv_iload_n hx hb dX5_isTenthsRange_8 rfl (lv_at hl 0 rfl) ?_
    refine lv_sipush (v := 400) hx hb dX5_isTenthsRange_9 (by decide) ?_
    obtain ⟨x2, hx2, h⟩ := bnd h
    refine pw_go0 (va_runS (As := [.int a2, .int a1, .int 400]) (rest := []) ⟨hx, hb, hml, hown, hts⟩ (mX5_isWithin l D cI cO cJ H.size a2 a1 400 _ hx2) (va_cwS 3 hts gX5_isTenthsRange_X5_isWithin rfl rfl rfl (by decide +kernel) ⟨Nat.le_of_ble_eq_true rfl, Nat.le_of_ble_eq_true rfl⟩) (pw_preS hK hN pw_nilP (pw_nilD (A := A))) rfl rfl hl.1 rfl (lv_room (Nat.le_of_ble_eq_true rfl)) dX5_isTenthsRange_12 ⟨Nat.zero_le _, Nat.zero_le _⟩) hP hS hA (fun H locs hP hS => ?_)
    refine lv_if_eq (tgt := 22) hx hb dX5_isTenthsRange_15 (by decide) (fun cq => ?_) (fun cq => ?_)
    · replace h := ifp cq h
      refine lv_iconst (v := 0) hx hb dX5_isTenthsRange_22 (by decide) ?_
      cases h
      exact pw_zret hx hb hr hlocks hAe (by decide) hQ hP hD hS dX5_isTenthsRange_23
    · replace h := ifn cq h
      refine lv_iconst (v := 1) hx hb dX5_isTenthsRange_18 (by decide) ?_
      refine lv_goto (tgt := 23) hx hb dX5_isTenthsRange_19 (by decide) ?_
      cases h
      exact pw_zret hx hb hr hlocks hAe (by decide) hQ hP hD hS dX5_isTenthsRange_23

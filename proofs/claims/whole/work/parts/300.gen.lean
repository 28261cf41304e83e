def fX5_cellAt (f1 : Nat → Int32) (n1 : Nat) (a2 : Int32) : Option Int32 :=
  if a2 < 0 then
  some (-1)
  else
  if (nI n1) ≤ a2 then
  some (-1)
  else
  if oob a2 n1 then none else
  some (f1 a2.toNatClampNeg)
abbrev rmX5_cellAt : Room := { frames := 0, cells := 0, slots := 0, locals := 0 }
set_option maxHeartbeats 4000000 in
set_option maxRecDepth 100000 in
theorem mX5_cellAt (l : Launch) (D : va_G) (cI cO cJ : ClassId) (q1 : Nat) (sz : Nat) (f1 : Nat → Int32) (n1 : Nat) (a2 : Int32) (z : Int32) (h : fX5_cellAt f1 n1 a2 = some z) : Met l yX5_cellAt wsX5_cellAt rmX5_cellAt (pw_pre D (tyL cI cO cJ) [.ref q1, .int a2] [(q1, .inl (cI, n1, .inl f1))] sz) (pw_i D [(q1, .inl (cI, n1, .inl f1))] [(q1, .inl (cI, n1, .inl f1))] z sz) 0 0 (va_A [(q1, .inl (cI, n1, .inl f1))] sz) := by
  refine pw_of (Qc := fun sz => pw_i D [(q1, .inl (cI, n1, .inl f1))] [(q1, .inl (cI, n1, .inl f1))] z sz) (cc := cX5_cellAt) (maxL := 2) (ret := (some .int)) (by decide) rfl (Nat.le_of_ble_eq_true rfl) ?_
  intro p e s m args below meth c A Q H ls hx hb hml hr hts hown hlocks hAe hQ hK hN hA hP hD hS hl
  have hown : s.vm.findClass RX5 = some m.cls := hown
  have hl : lv_has ls 2 [(0, .ref q1), (1, .int a2)] := hl
  have hP : va_P D vwCl ([(q1, .inl (cI, n1, .inl f1))] ++ []) H := hP
  have hD : va_D A ([(q1, .inl (cI, n1, .inl f1))] ++ []) := hD
  unfold fX5_cellAt at h
  refine lv_iload_n hx hb dX5_cellAt_0 rfl (lv_at hl 1 rfl) ?_
  refine lv_if_lt (tgt := 16) hx hb dX5_cellAt_1 (by decide) (fun cq => ?_) (fun cq => ?_)
  · replace h := ifp cq h
    refine lv_iconst (v := (-1)) hx hb dX5_cellAt_16 (by decide) ?_
    cases h
    exact pw_iret hx hb hr hlocks hAe hQ hP hD hS dX5_cellAt_17
  · replace h := ifn cq h
    refine lv_iload_n hx hb dX5_cellAt_4 rfl (lv_at hl 1 rfl) ?_
    refine lv_aload_n hx hb dX5_cellAt_5 rfl (lv_at hl 0 rfl) ?_
    refine va_alen (v := (nI n1)) hx hb hK hP 0 0 rfl rfl rfl dX5_cellAt_6 ?_
    refine lv_icmp_ge (tgt := 16) hx hb dX5_cellAt_7 (by decide) (fun cq => ?_) (fun cq => ?_)
    · replace h := ifp cq h
      refine lv_iconst (v := (-1)) hx hb dX5_cellAt_16 (by decide) ?_
      cases h
      exact pw_iret hx hb hr hlocks hAe hQ hP hD hS dX5_cellAt_17
    · replace h := ifn cq h
      refine lv_aload_n hx hb dX5_cellAt_10 rfl (lv_at hl 0 rfl) ?_
      refine lv_iload_n hx hb dX5_cellAt_11 rfl (lv_at hl 1 rfl) ?_
      obtain ⟨g1, h⟩ := gdn h
      refine va_iald hx hb hK hP 0 0 rfl rfl g1 dX5_cellAt_12 ?_
      refine lv_goto (tgt := 17) hx hb dX5_cellAt_13 (by decide) ?_
      cases h
      exact pw_iret hx hb hr hlocks hAe hQ hP hD hS dX5_cellAt_17
def fX2_tenthsAt (ten : Nat → Int32) (a1 : Int32) : Option Int32 :=
  (fX5_cellAt ten 4 a1).bind fun x1 =>
  some x1
abbrev rmX2_tenthsAt : Room := { frames := 1, cells := 0, slots := 0, locals := 21 }
set_option maxHeartbeats 4000000 in
set_option maxRecDepth 100000 in
theorem mX2_tenthsAt (l : Launch) (D : va_G) (cI cO cJ : ClassId) (h2 h2_row h2_ten h2_pha : Nat) (sz : Nat) (row : Nat → Int32) (ten : Nat → Int32) (pha : Nat → Int32) (len : Int32) (kep : Int32) (wfi : Int32) (wmo : Int32) (hun : Int32) (a1 : Int32) (z : Int32) (h : fX2_tenthsAt ten a1 = some z) : Met l yX2_tenthsAt wsX2_tenthsAt rmX2_tenthsAt (pw_pre D (tyL cI cO cJ) [.ref h2, .int a1] [(h2, .inr (2, [.ref h2_row, .ref h2_ten, .ref h2_pha, .int len, .int kep, .int wfi, .int wmo, .int hun])), (h2_row, .inl (cI, 240, .inl row)), (h2_ten, .inl (cI, 4, .inl ten)), (h2_pha, .inl (cI, 4, .inl pha))] sz) (pw_i D [(h2, .inr (2, [.ref h2_row, .ref h2_ten, .ref h2_pha, .int len, .int kep, .int wfi, .int wmo, .int hun])), (h2_row, .inl (cI, 240, .inl row)), (h2_ten, .inl (cI, 4, .inl ten)), (h2_pha, .inl (cI, 4, .inl pha))] [(h2, .inr (2, [.ref h2_row, .ref h2_ten, .ref h2_pha, .int len, .int kep, .int wfi, .int wmo, .int hun])), (h2_row, .inl (cI, 240, .inl row)), (h2_ten, .inl (cI, 4, .inl ten)), (h2_pha, .inl (cI, 4, .inl pha))] z sz) 0 0 (va_A [(h2, .inr (2, [.ref h2_row, .ref h2_ten, .ref h2_pha, .int len, .int kep, .int wfi, .int wmo, .int hun])), (h2_row, .inl (cI, 240, .inl row)), (h2_ten, .inl (cI, 4, .inl ten)), (h2_pha, .inl (cI, 4, .inl pha))] sz) := by
  refine pw_of (Qc := fun sz => pw_i D [(h2, .inr (2, [.ref h2_row, .ref h2_ten, .ref h2_pha, .int len, .int kep, .int wfi, .int wmo, .int hun])), (h2_row, .inl (cI, 240, .inl row)), (h2_ten, .inl (cI, 4, .inl ten)), (h2_pha, .inl (cI, 4, .inl pha))] [(h2, .inr (2, [.ref h2_row, .ref h2_ten, .ref h2_pha, .int len, .int kep, .int wfi, .int wmo, .int hun])), (h2_row, .inl (cI, 240, .inl row)), (h2_ten, .inl (cI, 4, .inl ten)), (h2_pha, .inl (cI, 4, .inl pha))] z sz) (cc := cX2_tenthsAt) (maxL := 2) (ret := (some .int)) (by decide) rfl (Nat.le_of_ble_eq_true rfl) ?_
  intro p e s m args below meth c A Q H ls hx hb hml hr hts hown hlocks hAe hQ hK hN hA hP hD hS hl
  have hown : s.vm.findClass RX2 = some m.cls := hown
  have hl : lv_has ls 2 [(0, .ref h2), (1, .int a1)] := hl
  have hP : va_P D vwCl ([(h2, .inr (2, [.ref h2_row, .ref h2_ten, .ref h2_pha, .int len, .int kep, .int wfi, .int wmo, .int hun])), (h2_row, .inl (cI, 240, .inl row)), (h2_ten, .inl (cI, 4, .inl ten)), (h2_pha, .inl (cI, 4, .inl pha))] ++ []) H := hP
  have hD : va_D A ([(h2, .inr (2, [.ref h2_row, .ref h2_ten, .ref h2_pha, .int len, .int kep, .int wfi, .int wmo, .int hun])), (h2_row, .inl (cI, 240, .inl row)), (h2_ten, .inl (cI, 4, .inl ten)), (h2_pha, .inl (cI, 4, .inl pha))] ++ []) := hD
  have iX2 : ∀ w ∈ u_ws RX2 TX2 8, w ∈ wsX2_tenthsAt := fun _ h => List.mem_cons_of_mem _ (List.mem_append_right _ h)
  unfold fX2_tenthsAt at h
  refine lv_aload_n hx hb dX2_tenthsAt_0 rfl (lv_at hl 0 rfl) ?_
  refine va_get (D := D) (ci := 2) (v := .ref h2_ten) (C := RX2) (T := TX2) (N := 8) hx hb hts iX2 hown hK hP 0 rfl rfl 1 (by decide) (hts (.fieldLink RX2 15 "HiddenPeriods$State" "tenths" "[I") (by decide +kernel)) (fun _ h9 => h9) rfl dX2_tenthsAt_1 ?_
  refine lv_iload_n hx hb dX2_tenthsAt_4 rfl (lv_at hl 1 rfl) ?_
  obtain ⟨x1, hx1, h⟩ := bnd h
  refine pw_goi (wc := [(h2_ten, .inl (cI, 4, .inl ten))]) (w1 := [(h2_ten, .inl (cI, 4, .inl ten))]) (w2 := [(h2, .inr (2, [.ref h2_row, .ref h2_ten, .ref h2_pha, .int len, .int kep, .int wfi, .int wmo, .int hun])), (h2_row, .inl (cI, 240, .inl row)), (h2_ten, .inl (cI, 4, .inl ten)), (h2_pha, .inl (cI, 4, .inl pha))]) (va_runSN (As := [.ref h2_ten, .int a1]) (rest := []) ⟨hx, hb, hml, hown, hts⟩ (mX5_cellAt l D cI cO cJ h2_ten H.size ten 4 a1 _ hx1) ⟨va_cnB 2 hts gX2_tenthsAt_X5_cellAt_n45 rfl rfl rfl (hN (.methodLinkNest RX2 45 yX5_cellAt "HiddenPeriods") (by decide +kernel)) (hts (.initialized RX5) (by decide +kernel)) (by decide +kernel) ⟨Nat.le_of_ble_eq_true rfl, Nat.le_of_ble_eq_true rfl⟩, (hts (.static yX5_cellAt) (by decide +kernel)), trivial⟩ (pw_preS hK hN (pw_sub hP [2] rfl) (pw_subD hD [2] (by decide) rfl)) rfl rfl hl.1 rfl (lv_room (Nat.le_of_ble_eq_true rfl)) dX2_tenthsAt_5 ⟨Nat.zero_le _, Nat.zero_le _⟩) hP hD hS hA [2] [0, 1, 3] [0, 1, 3, 2] rfl rfl (by decide) (by decide) (by decide) rfl (fun H locs hP hD hS => ?_)
  cases h
  exact pw_iret hx hb hr hlocks hAe hQ hP hD hS dX2_tenthsAt_8
def fX2_phaseAt (pha : Nat → Int32) (a1 : Int32) : Option Int32 :=
  (fX5_cellAt pha 4 a1).bind fun x1 =>
  some x1
abbrev rmX2_phaseAt : Room := { frames := 1, cells := 0, slots := 0, locals := 21 }
set_option maxHeartbeats 4000000 in
set_option maxRecDepth 100000 in
theorem mX2_phaseAt (l : Launch) (D : va_G) (cI cO cJ : ClassId) (h2 h2_row h2_ten h2_pha : Nat) (sz : Nat) (row : Nat → Int32) (ten : Nat → Int32) (pha : Nat → Int32) (len : Int32) (kep : Int32) (wfi : Int32) (wmo : Int32) (hun : Int32) (a1 : Int32) (z : Int32) (h : fX2_phaseAt pha a1 = some z) : Met l yX2_phaseAt wsX2_phaseAt rmX2_phaseAt (pw_pre D (tyL cI cO cJ) [.ref h2, .int a1] [(h2, .inr (2, [.ref h2_row, .ref h2_ten, .ref h2_pha, .int len, .int kep, .int wfi, .int wmo, .int hun])), (h2_row, .inl (cI, 240, .inl row)), (h2_ten, .inl (cI, 4, .inl ten)), (h2_pha, .inl (cI, 4, .inl pha))] sz) (pw_i D [(h2, .inr (2, [.ref h2_row, .ref h2_ten, .ref h2_pha, .int len, .int kep, .int wfi, .int wmo, .int hun])), (h2_row, .inl (cI, 240, .inl row)), (h2_ten, .inl (cI, 4, .inl ten)), (h2_pha, .inl (cI, 4, .inl pha))] [(h2, .inr (2, [.ref h2_row, .ref h2_ten, .ref h2_pha, .int len, .int kep, .int wfi, .int wmo, .int hun])), (h2_row, .inl (cI, 240, .inl row)), (h2_ten, .inl (cI, 4, .inl ten)), (h2_pha, .inl (cI, 4, .inl pha))] z sz) 0 0 (va_A [(h2, .inr (2, [.ref h2_row, .ref h2_ten, .ref h2_pha, .int len, .int kep, .int wfi, .int wmo, .int hun])), (h2_row, .inl (cI, 240, .inl row)), (h2_ten, .inl (cI, 4, .inl ten)), (h2_pha, .inl (cI, 4, .inl pha))] sz) := by
  refine pw_of (Qc := fun sz => pw_i D [(h2, .inr (2, [.ref h2_row, .ref h2_ten, .ref h2_pha, .int len, .int kep, .int wfi, .int wmo, .int hun])), (h2_row, .inl (cI, 240, .inl row)), (h2_ten, .inl (cI, 4, .inl ten)), (h2_pha, .inl (cI, 4, .inl pha))] [(h2, .inr (2, [.ref h2_row, .ref h2_ten, .ref h2_pha, .int len, .int kep, .int wfi, .int wmo, .int hun])), (h2_row, .inl (cI, 240, .inl row)), (h2_ten, .inl (cI, 4, .inl ten)), (h2_pha, .inl (cI, 4, .inl pha))] z sz) (cc := cX2_phaseAt) (maxL := 2) (ret := (some .int)) (by decide) rfl (Nat.le_of_ble_eq_true rfl) ?_
  intro p e s m args below meth c A Q H ls hx hb hml hr hts hown hlocks hAe hQ hK hN hA hP hD hS hl
  have hown : s.vm.findClass RX2 = some m.cls := hown
  have hl : lv_has ls 2 [(0, .ref h2), (1, .int a1)] := hl
  have hP : va_P D vwCl ([(h2, .inr (2, [.ref h2_row, .ref h2_ten, .ref h2_pha, .int len, .int kep, .int wfi, .int wmo, .int hun])), (h2_row, .inl (cI, 240, .inl row)), (h2_ten, .inl (cI, 4, .inl ten)), (h2_pha, .inl (cI, 4, .inl pha))] ++ []) H := hP
  have hD : va_D A ([(h2, .inr (2, [.ref h2_row, .ref h2_ten, .ref h2_pha, .int len, .int kep, .int wfi, .int wmo, .int hun])), (h2_row, .inl (cI, 240, .inl row)), (h2_ten, .inl (cI, 4, .inl ten)), (h2_pha, .inl (cI, 4, .inl pha))] ++ []) := hD
  have iX2 : ∀ w ∈ u_ws RX2 TX2 8, w ∈ wsX2_phaseAt := fun _ h => List.mem_cons_of_mem _ (List.mem_append_right _ h)
  unfold fX2_phaseAt at h
  refine lv_aload_n hx hb dX2_phaseAt_0 rfl (lv_at hl 0 rfl) ?_
  refine va_get (D := D) (ci := 2) (v := .ref h2_pha) (C := RX2) (T := TX2) (N := 8) hx hb hts iX2 hown hK hP 0 rfl rfl 2 (by decide) (hts (.fieldLink RX2 18 "HiddenPeriods$State" "phases" "[I") (by decide +kernel)) (fun _ h9 => h9) rfl dX2_phaseAt_1 ?_
  refine lv_iload_n hx hb dX2_phaseAt_4 rfl (lv_at hl 1 rfl) ?_
  obtain ⟨x1, hx1, h⟩ := bnd h
  refine pw_goi (wc := [(h2_pha, .inl (cI, 4, .inl pha))]) (w1 := [(h2_pha, .inl (cI, 4, .inl pha))]) (w2 := [(h2, .inr (2, [.ref h2_row, .ref h2_ten, .ref h2_pha, .int len, .int kep, .int wfi, .int wmo, .int hun])), (h2_row, .inl (cI, 240, .inl row)), (h2_ten, .inl (cI, 4, .inl ten)), (h2_pha, .inl (cI, 4, .inl pha))]) (va_runSN (As := [.ref h2_pha, .int a1]) (rest := []) ⟨hx, hb, hml, hown, hts⟩ (mX5_cellAt l D cI cO cJ h2_pha H.size pha 4 a1 _ hx1) ⟨va_cnB 2 hts gX2_phaseAt_X5_cellAt_n45 rfl rfl rfl (hN (.methodLinkNest RX2 45 yX5_cellAt "HiddenPeriods") (by decide +kernel)) (hts (.initialized RX5) (by decide +kernel)) (by decide +kernel) ⟨Nat.le_of_ble_eq_true rfl, Nat.le_of_ble_eq_true rfl⟩, (hts (.static yX5_cellAt) (by decide +kernel)), trivial⟩ (pw_preS hK hN (pw_sub hP [3] rfl) (pw_subD hD [3] (by decide) rfl)) rfl rfl hl.1 rfl (lv_room (Nat.le_of_ble_eq_true rfl)) dX2_phaseAt_5 ⟨Nat.zero_le _, Nat.zero_le _⟩) hP hD hS hA [3] [0, 1, 2] [0, 1, 2, 3] rfl rfl (by decide) (by decide) (by decide) rfl (fun H locs hP hD hS => ?_)
  cases h
  exact pw_iret hx hb hr hlocks hAe hQ hP hD hS dX2_phaseAt_8
def fX2_windowStart (wfi : Int32) (wmo : Int32) : Option Int32 :=
  if wmo ≤ 0 then
  some 0
  else
  some wfi
abbrev rmX2_windowStart : Room := { frames := 0, cells := 0, slots := 0, locals := 0 }
set_option maxHeartbeats 4000000 in
set_option maxRecDepth 100000 in
theorem mX2_windowStart (l : Launch) (D : va_G) (cI cO cJ : ClassId) (h2 h2_row h2_ten h2_pha : Nat) (sz : Nat) (row : Nat → Int32) (ten : Nat → Int32) (pha : Nat → Int32) (len : Int32) (kep : Int32) (wfi : Int32) (wmo : Int32) (hun : Int32) (z : Int32) (h : fX2_windowStart wfi wmo = some z) : Met l yX2_windowStart wsX2_windowStart rmX2_windowStart (pw_pre D (tyL cI cO cJ) [.ref h2] [(h2, .inr (2, [.ref h2_row, .ref h2_ten, .ref h2_pha, .int len, .int kep, .int wfi, .int wmo, .int hun])), (h2_row, .inl (cI, 240, .inl row)), (h2_ten, .inl (cI, 4, .inl ten)), (h2_pha, .inl (cI, 4, .inl pha))] sz) (pw_i D [(h2, .inr (2, [.ref h2_row, .ref h2_ten, .ref h2_pha, .int len, .int kep, .int wfi, .int wmo, .int hun])), (h2_row, .inl (cI, 240, .inl row)), (h2_ten, .inl (cI, 4, .inl ten)), (h2_pha, .inl (cI, 4, .inl pha))] [(h2, .inr (2, [.ref h2_row, .ref h2_ten, .ref h2_pha, .int len, .int kep, .int wfi, .int wmo, .int hun])), (h2_row, .inl (cI, 240, .inl row)), (h2_ten, .inl (cI, 4, .inl ten)), (h2_pha, .inl (cI, 4, .inl pha))] z sz) 0 0 (va_A [(h2, .inr (2, [.ref h2_row, .ref h2_ten, .ref h2_pha, .int len, .int kep, .int wfi, .int wmo, .int hun])), (h2_row, .inl (cI, 240, .inl row)), (h2_ten, .inl (cI, 4, .inl ten)), (h2_pha, .inl (cI, 4, .inl pha))] sz) := by
  refine pw_of (Qc := fun sz => pw_i D [(h2, .inr (2, [.ref h2_row, .ref h2_ten, .ref h2_pha, .int len, .int kep, .int wfi, .int wmo, .int hun])), (h2_row, .inl (cI, 240, .inl row)), (h2_ten, .inl (cI, 4, .inl ten)), (h2_pha, .inl (cI, 4, .inl pha))] [(h2, .inr (2, [.ref h2_row, .ref h2_ten, .ref h2_pha, .int len, .int kep, .int wfi, .int wmo, .int hun])), (h2_row, .inl (cI, 240, .inl row)), (h2_ten, .inl (cI, 4, .inl ten)), (h2_pha, .inl (cI, 4, .inl pha))] z sz) (cc := cX2_windowStart) (maxL := 1) (ret := (some .int)) (by decide) rfl (Nat.le_of_ble_eq_true rfl) ?_
  intro p e s m args below meth c A Q H ls hx hb hml hr hts hown hlocks hAe hQ hK hN hA hP hD hS hl
  have hown : s.vm.findClass RX2 = some m.cls := hown
  have hl : lv_has ls 1 [(0, .ref h2)] := hl
  have hP : va_P D vwCl ([(h2, .inr (2, [.ref h2_row, .ref h2_ten, .ref h2_pha, .int len, .int kep, .int wfi, .int wmo, .int hun])), (h2_row, .inl (cI, 240, .inl row)), (h2_ten, .inl (cI, 4, .inl ten)), (h2_pha, .inl (cI, 4, .inl pha))] ++ []) H := hP
  have hD : va_D A ([(h2, .inr (2, [.ref h2_row, .ref h2_ten, .ref h2_pha, .int len, .int kep, .int wfi, .int wmo, .int hun])), (h2_row, .inl (cI, 240, .inl row)), (h2_ten, .inl (cI, 4, .inl ten)), (h2_pha, .inl (cI, 4, .inl pha))] ++ []) := hD
  have iX2 : ∀ w ∈ u_ws RX2 TX2 8, w ∈ wsX2_windowStart := fun _ h => List.mem_cons_of_mem _ (List.mem_append_right _ h)
  unfold fX2_windowStart at h
  refine lv_aload_n hx hb dX2_windowStart_0 rfl (lv_at hl 0 rfl) ?_
  refine va_get (D := D) (ci := 2) (v := .int wmo) (C := RX2) (T := TX2) (N := 8) hx hb hts iX2 hown hK hP 0 rfl rfl 6 (by decide) (hts (.fieldLink RX2 38 "HiddenPeriods$State" "mostPlaces" "I") (by decide +kernel)) (fun _ h9 => h9) rfl dX2_windowStart_1 ?_
  refine lv_if_le (tgt := 14) hx hb dX2_windowStart_4 (by decide) (fun cq => ?_) (fun cq => ?_)
  · replace h := ifp cq h
    refine lv_iconst (v := 0) hx hb dX2_windowStart_14 (by decide) ?_
    cases h
    exact pw_iret hx hb hr hlocks hAe hQ hP hD hS dX2_windowStart_15
  · replace h := ifn cq h
    refine lv_aload_n hx hb dX2_windowStart_7 rfl (lv_at hl 0 rfl) ?_
    refine va_get (D := D) (ci := 2) (v := .int wfi) (C := RX2) (T := TX2) (N := 8) hx hb hts iX2 hown hK hP 0 rfl rfl 5 (by decide) (hts (.fieldLink RX2 35 "HiddenPeriods$State" "firstPlace" "I") (by decide +kernel)) (fun _ h9 => h9) rfl dX2_windowStart_8 ?_
    refine lv_goto (tgt := 15) hx hb dX2_windowStart_11 (by decide) ?_
    cases h
    exact pw_iret hx hb hr hlocks hAe hQ hP hD hS dX2_windowStart_15
def fX2_windowPlaces (len : Int32) (wfi : Int32) (wmo : Int32) : Option Int32 :=
  if wmo = 0 then
  some len
  else
  some (if 0 < (if (len - wfi) < wmo then (len - wfi) else wmo) then (if (len - wfi) < wmo then (len - wfi) else wmo) else 0)
abbrev rmX2_windowPlaces : Room := { frames := 1, cells := 0, slots := 0, locals := 21 }
set_option maxHeartbeats 4000000 in
set_option maxRecDepth 100000 in
theorem mX2_windowPlaces (l : Launch) (D : va_G) (cI cO cJ : ClassId) (h2 h2_row h2_ten h2_pha : Nat) (sz : Nat) (row : Nat → Int32) (ten : Nat → Int32) (pha : Nat → Int32) (len : Int32) (kep : Int32) (wfi : Int32) (wmo : Int32) (hun : Int32) (z : Int32) (h : fX2_windowPlaces len wfi wmo = some z) : Met l yX2_windowPlaces wsX2_windowPlaces rmX2_windowPlaces (pw_pre D (tyL cI cO cJ) [.ref h2] [(h2, .inr (2, [.ref h2_row, .ref h2_ten, .ref h2_pha, .int len, .int kep, .int wfi, .int wmo, .int hun])), (h2_row, .inl (cI, 240, .inl row)), (h2_ten, .inl (cI, 4, .inl ten)), (h2_pha, .inl (cI, 4, .inl pha))] sz) (pw_i D [(h2, .inr (2, [.ref h2_row, .ref h2_ten, .ref h2_pha, .int len, .int kep, .int wfi, .int wmo, .int hun])), (h2_row, .inl (cI, 240, .inl row)), (h2_ten, .inl (cI, 4, .inl ten)), (h2_pha, .inl (cI, 4, .inl pha))] [(h2, .inr (2, [.ref h2_row, .ref h2_ten, .ref h2_pha, .int len, .int kep, .int wfi, .int wmo, .int hun])), (h2_row, .inl (cI, 240, .inl row)), (h2_ten, .inl (cI, 4, .inl ten)), (h2_pha, .inl (cI, 4, .inl pha))] z sz) 0 0 (va_A [(h2, .inr (2, [.ref h2_row, .ref h2_ten, .ref h2_pha, .int len, .int kep, .int wfi, .int wmo, .int hun])), (h2_row, .inl (cI, 240, .inl row)), (h2_ten, .inl (cI, 4, .inl ten)), (h2_pha, .inl (cI, 4, .inl pha))] sz) := by
  refine pw_of (Qc := fun sz => pw_i D [(h2, .inr (2, [.ref h2_row, .ref h2_ten, .ref h2_pha, .int len, .int kep, .int wfi, .int wmo, .int hun])), (h2_row, .inl (cI, 240, .inl row)), (h2_ten, .inl (cI, 4, .inl ten)), (h2_pha, .inl (cI, 4, .inl pha))] [(h2, .inr (2, [.ref h2_row, .ref h2_ten, .ref h2_pha, .int len, .int kep, .int wfi, .int wmo, .int hun])), (h2_row, .inl (cI, 240, .inl row)), (h2_ten, .inl (cI, 4, .inl ten)), (h2_pha, .inl (cI, 4, .inl pha))] z sz) (cc := cX2_windowPlaces) (maxL := 1) (ret := (some .int)) (by decide) rfl (Nat.le_of_ble_eq_true rfl) ?_
  intro p e s m args below meth c A Q H ls hx hb hml hr hts hown hlocks hAe hQ hK hN hA hP hD hS hl
  have hown : s.vm.findClass RX2 = some m.cls := hown
  have hl : lv_has ls 1 [(0, .ref h2)] := hl
  have hP : va_P D vwCl ([(h2, .inr (2, [.ref h2_row, .ref h2_ten, .ref h2_pha, .int len, .int kep, .int wfi, .int wmo, .int hun])), (h2_row, .inl (cI, 240, .inl row)), (h2_ten, .inl (cI, 4, .inl ten)), (h2_pha, .inl (cI, 4, .inl pha))] ++ []) H := hP
  have hD : va_D A ([(h2, .inr (2, [.ref h2_row, .ref h2_ten, .ref h2_pha, .int len, .int kep, .int wfi, .int wmo, .int hun])), (h2_row, .inl (cI, 240, .inl row)), (h2_ten, .inl (cI, 4, .inl ten)), (h2_pha, .inl (cI, 4, .inl pha))] ++ []) := hD
  have iX2 : ∀ w ∈ u_ws RX2 TX2 8, w ∈ wsX2_windowPlaces := fun _ h => List.mem_cons_of_mem _ (List.mem_append_right _ h)
  unfold fX2_windowPlaces at h
  refine lv_aload_n hx hb dX2_windowPlaces_0 rfl (lv_at hl 0 rfl) ?_
  refine va_get (D := D) (ci := 2) (v := .int wmo) (C := RX2) (T := TX2) (N := 8) hx hb hts iX2 hown hK hP 0 rfl rfl 6 (by decide) (hts (.fieldLink RX2 38 "HiddenPeriods$State" "mostPlaces" "I") (by decide +kernel)) (fun _ h9 => h9) rfl dX2_windowPlaces_1 ?_
  refine lv_if_ne (tgt := 12) hx hb dX2_windowPlaces_4 (by decide) (fun cq => ?_) (fun cq => ?_)
  · replace h := ifn cq h
    refine lv_iconst (v := 0) hx hb dX2_windowPlaces_12 (by decide) ?_
    refine lv_aload_n hx hb dX2_windowPlaces_13 rfl (lv_at hl 0 rfl) ?_
    refine va_get (D := D) (ci := 2) (v := .int wmo) (C := RX2) (T := TX2) (N := 8) hx hb hts iX2 hown hK hP 0 rfl rfl 6 (by decide) (hts (.fieldLink RX2 38 "HiddenPeriods$State" "mostPlaces" "I") (by decide +kernel)) (fun _ h9 => h9) rfl dX2_windowPlaces_14 ?_
    refine lv_aload_n hx hb dX2_windowPlaces_17 rfl (lv_at hl 0 rfl) ?_
    refine va_get (D := D) (ci := 2) (v := .int len) (C := RX2) (T := TX2) (N := 8) hx hb hts iX2 hown hK hP 0 rfl rfl 3 (by decide) (hts (.fieldLink RX2 29 "HiddenPeriods$State" "length" "I") (by decide +kernel)) (fun _ h9 => h9) rfl dX2_windowPlaces_18 ?_
    refine lv_aload_n hx hb dX2_windowPlaces_21 rfl (lv_at hl 0 rfl) ?_
    refine va_get (D := D) (ci := 2) (v := .int wfi) (C := RX2) (T := TX2) (N := 8) hx hb hts iX2 hown hK hP 0 rfl rfl 5 (by decide) (hts (.fieldLink RX2 35 "HiddenPeriods$State" "firstPlace" "I") (by decide +kernel)) (fun _ h9 => h9) rfl dX2_windowPlaces_22 ?_
    refine lv_isub hx hb dX2_windowPlaces_25 ?_
    refine va_mmin hx hb (hml.trans hl.1.symm) hown (hts (.methodLink RX2 56 Lib.Math.min.name) (by decide +kernel)) (hts (.static Lib.Math.min.name) (by decide +kernel)) (hts (.initialized "java/lang/Math") (by decide +kernel)) (hts (.code Lib.Math.min.name Lib.Math.min.code 2 (some .int)) (by decide +kernel)) (Nat.le_of_ble_eq_true rfl) (Nat.le_of_ble_eq_true rfl) (Nat.zero_le _) (Nat.zero_le _) dX2_windowPlaces_26 ?_
    refine va_mmax hx hb (hml.trans hl.1.symm) hown (hts (.methodLink RX2 62 Lib.Math.max.name) (by decide +kernel)) (hts (.static Lib.Math.max.name) (by decide +kernel)) (hts (.initialized "java/lang/Math") (by decide +kernel)) (hts (.code Lib.Math.max.name Lib.Math.max.code 2 (some .int)) (by decide +kernel)) (Nat.le_of_ble_eq_true rfl) (Nat.le_of_ble_eq_true rfl) (Nat.zero_le _) (Nat.zero_le _) dX2_windowPlaces_29 ?_
    cases h
    exact pw_iret hx hb hr hlocks hAe hQ hP hD hS dX2_windowPlaces_32
  · replace h := ifp cq h
    refine lv_aload_n hx hb dX2_windowPlaces_7 rfl (lv_at hl 0 rfl) ?_
    refine va_get (D := D) (ci := 2) (v := .int len) (C := RX2) (T := TX2) (N := 8) hx hb hts iX2 hown hK hP 0 rfl rfl 3 (by decide) (hts (.fieldLink RX2 29 "HiddenPeriods$State" "length" "I") (by decide +kernel)) (fun _ h9 => h9) rfl dX2_windowPlaces_8 ?_
    cases h
    exact pw_iret hx hb hr hlocks hAe hQ hP hD hS dX2_windowPlaces_11
def fJ7_fill_53178_L5 (n1 : Nat) (a2 : Int32) (y1 : Int32) : Nat → Int32 → (Nat → Int32) → Option (Nat → Int32)
  | 0, _, _ => none
  | n + 1, v2_5, f1_5 =>
    if y1 ≤ v2_5 then
    some f1_5
    else
    if oob v2_5 n1 then none else
    fJ7_fill_53178_L5 n1 a2 y1 n (v2_5 + 1) (upd f1_5 v2_5.toNatClampNeg a2)
def fJ7_fill_53178 (f1 : Nat → Int32) (n1 : Nat) (a2 : Int32) : Option (Nat → Int32) :=
  (fJ7_fill_53178_L5 n1 a2 (nI n1) FU 0 f1).bind fun x3 =>
  some x3
abbrev rmJ7_fill_53178 : Room := { frames := 0, cells := 0, slots := 0, locals := 0 }
set_option maxHeartbeats 4000000 in
set_option maxRecDepth 100000 in
theorem mJ7_fill_53178 (l : Launch) (D : va_G) (cI cO cJ : ClassId) (q1 : Nat) (sz : Nat) (f1 : Nat → Int32) (n1 : Nat) (a2 : Int32) (z : Nat → Int32) (h : fJ7_fill_53178 f1 n1 a2 = some z) : Met l yJ7_fill_53178 wsJ7_fill_53178 rmJ7_fill_53178 (pw_pre D (tyL cI cO cJ) [.ref q1, .int a2] [(q1, .inl (cI, n1, .inl f1))] sz) (pw_v D [(q1, .inl (cI, n1, .inl f1))] [(q1, .inl (cI, n1, .inl z))] sz) 0 0 (va_A [(q1, .inl (cI, n1, .inl f1))] sz) := by
  refine pw_of (Qc := fun sz => pw_v D [(q1, .inl (cI, n1, .inl f1))] [(q1, .inl (cI, n1, .inl z))] sz) (cc := cJ7_fill_53178) (maxL := 4) (ret := none) (by decide) rfl (Nat.le_of_ble_eq_true rfl) ?_
  intro p e s m args below meth c A Q H ls hx hb hml hr hts hown hlocks hAe hQ hK hN hA hP hD hS hl
  have hown : s.vm.findClass RJ7 = some m.cls := hown
  have hl : lv_has ls 4 [(0, .ref q1), (1, .int a2)] := hl
  have hP : va_P D vwCl ([(q1, .inl (cI, n1, .inl f1))] ++ []) H := hP
  have hD : va_D A ([(q1, .inl (cI, n1, .inl f1))] ++ []) := hD
  unfold fJ7_fill_53178 at h
  refine lv_iconst (v := 0) hx hb dJ7_fill_53178_0 (by decide) ?_
  refine lv_istore_n (lv' := [(2, .int 0), (0, .ref q1), (1, .int a2)]) hx hb dJ7_fill_53178_1 rfl hl (by decide) rfl (fun ls hl => ?_)
  refine lv_aload_n hx hb dJ7_fill_53178_2 rfl (lv_at hl 1 rfl) ?_
  refine va_alen (v := (nI n1)) hx hb hK hP 0 0 rfl rfl rfl dJ7_fill_53178_3 ?_
  refine lv_istore_n (lv' := [(3, .int (nI n1)), (2, .int 0), (0, .ref q1), (1, .int a2)]) hx hb dJ7_fill_53178_4 rfl hl (by decide) rfl (fun ls hl => ?_)
  generalize hgy1 : (nI n1) = y1 at h hP hD hl ⊢
  have L5 : ∀ (n : Nat) (v2_5 : Int32) (f1_5 : Nat → Int32) (o5_1 : Nat → Int32) (H : Heap) (locs : List Loc) (ls : Array Slot), fJ7_fill_53178_L5 n1 a2 y1 n v2_5 f1_5 = some o5_1 → va_P D vwCl ([(q1, .inl (cI, n1, .inl f1_5))] ++ []) H → va_D A ([(q1, .inl (cI, n1, .inl f1_5))] ++ []) → va_S A s.heap H locs → lv_has ls 4 [(0, .ref q1), (1, .int a2), (2, .int v2_5), (3, .int y1)] → (∀ (H : Heap) (locs : List Loc) (ls : Array Slot), va_P D vwCl ([(q1, .inl (cI, n1, .inl o5_1))] ++ []) H → va_D A ([(q1, .inl (cI, n1, .inl o5_1))] ++ []) → va_S A s.heap H locs → lv_has ls 4 [] → W p l e rmJ7_fill_53178 s m args below meth c H locs 0 0 Q (F0 m 20 ls [])) → W p l e rmJ7_fill_53178 s m args below meth c H locs 0 0 Q (F0 m 5 ls []) := by
    intro n
    induction n with
    | zero =>
      intro v2_5 f1_5 o5_1 H locs ls h
      rw [fJ7_fill_53178_L5] at h
      cases h
    | succ n ih =>
      intro v2_5 f1_5 o5_1 H locs ls h hP hD hS hl K
      rw [fJ7_fill_53178_L5] at h
      refine lv_iload_n hx hb dJ7_fill_53178_5 rfl (lv_at hl 2 rfl) ?_
      refine lv_iload_n hx hb dJ7_fill_53178_6 rfl (lv_at hl 3 rfl) ?_
      refine lv_icmp_ge (tgt := 20) hx hb dJ7_fill_53178_7 (by decide) (fun cq => ?_) (fun cq => ?_)
      · replace h := ifp cq h
        cases h
        exact K _ _ _ hP hD hS (lv_sub hl [] rfl)
      · replace h := ifn cq h
        refine lv_aload_n hx hb dJ7_fill_53178_10 rfl (lv_at hl 0 rfl) ?_
        refine lv_iload_n hx hb dJ7_fill_53178_11 rfl (lv_at hl 2 rfl) ?_
        refine lv_iload_n hx hb dJ7_fill_53178_12 rfl (lv_at hl 1 rfl) ?_
        obtain ⟨g2, h⟩ := gdn h
        refine va_iast hx hb hK hP hD hS 0 0 rfl rfl g2 dJ7_fill_53178_13 (fun H locs hP hD hS => ?_)
        have hP : va_P D vwCl ([(q1, .inl (cI, n1, .inl (upd f1_5 v2_5.toNatClampNeg a2)))] ++ []) H := hP
        have hD : va_D A ([(q1, .inl (cI, n1, .inl (upd f1_5 v2_5.toNatClampNeg a2)))] ++ []) := hD
        refine lv_iinc (v := (v2_5 + 1)) (lv' := [(2, .int (v2_5 + 1)), (0, .ref q1), (1, .int a2), (3, .int y1)]) hx hb dJ7_fill_53178_14 hl (k := 2) rfl rfl (by decide) rfl (fun ls hl => ?_)
        refine lv_goto (tgt := 5) hx hb dJ7_fill_53178_17 (by decide) ?_
        exact ih _ _ _ _ _ _ h hP hD hS (lv_sub hl [1, 2, 0, 3] rfl) K
  obtain ⟨x3, hx3, h⟩ := bnd h
  refine L5 FU _ _ _ _ _ _ hx3 hP hD hS (lv_sub hl [2, 3, 1, 0] rfl) (fun H locs ls hP hD hS hl => ?_)
  cases h
  exact pw_vret hx hb hr hlocks hAe hQ hP hD hS dJ7_fill_53178_20
def fX5_classesOf (a1 : Int32) : Option Int32 :=
  some (((a1 + 10) - 1) / 10)
abbrev rmX5_classesOf : Room := { frames := 0, cells := 0, slots := 0, locals := 0 }
set_option maxHeartbeats 4000000 in
set_option maxRecDepth 100000 in
theorem mX5_classesOf (l : Launch) (D : va_G) (cI cO cJ : ClassId) (sz : Nat) (a1 : Int32) (z : Int32) (h : fX5_classesOf a1 = some z) : Met l yX5_classesOf wsX5_classesOf rmX5_classesOf (pw_pre D (tyL cI cO cJ) [.int a1] [] sz) (pw_i D [] [] z sz) 0 0 (va_A [] sz) := by
  refine pw_of (Qc := fun sz => pw_i D [] [] z sz) (cc := cX5_classesOf) (maxL := 1) (ret := (some .int)) (by decide) rfl (Nat.le_of_ble_eq_true rfl) ?_
  intro p e s m args below meth c A Q H ls hx hb hml hr hts hown hlocks hAe hQ hK hN hA hP hD hS hl
  have hown : s.vm.findClass RX5 = some m.cls := hown
  have hl : lv_has ls 1 [(0, .int a1)] := hl
  unfold fX5_classesOf at h
  refine lv_iload_n hx hb dX5_classesOf_0 rfl (lv_at hl 0 rfl) ?_
  refine lv_bipush (v := 10) hx hb dX5_classesOf_1 (by decide) ?_
  refine lv_iadd hx hb dX5_classesOf_3 ?_
  refine lv_iconst (v := 1) hx hb dX5_classesOf_4 (by decide) ?_
  refine lv_isub hx hb dX5_classesOf_5 ?_
  refine lv_bipush (v := 10) hx hb dX5_classesOf_6 (by decide) ?_
  refine lv_idiv hx hb dX5_classesOf_8 (by decide) ?_
  cases h
  exact pw_iret hx hb hr hlocks hAe hQ hP hD hS dX5_classesOf_9
def fX5_classOf (a1 : Int32) (a2 : Int32) (a3 : Int32) : Option Int32 :=
  if 10 ≤ a2 then
  if a2 = 0 then none else
  some ((((10 * a1) + a3) - ((10 * a1) + a3) / a2 * a2) / 10)
  else
  some (-1)
abbrev rmX5_classOf : Room := { frames := 0, cells := 0, slots := 0, locals := 0 }
set_option maxHeartbeats 4000000 in
set_option maxRecDepth 100000 in
theorem mX5_classOf (l : Launch) (D : va_G) (cI cO cJ : ClassId) (sz : Nat) (a1 : Int32) (a2 : Int32) (a3 : Int32) (z : Int32) (h : fX5_classOf a1 a2 a3 = some z) : Met l yX5_classOf wsX5_classOf rmX5_classOf (pw_pre D (tyL cI cO cJ) [.int a1, .int a2, .int a3] [] sz) (pw_i D [] [] z sz) 0 0 (va_A [] sz) := by
  refine pw_of (Qc := fun sz => pw_i D [] [] z sz) (cc := cX5_classOf) (maxL := 3) (ret := (some .int)) (by decide) rfl (Nat.le_of_ble_eq_true rfl) ?_
  intro p e s m args below meth c A Q H ls hx hb hml hr hts hown hlocks hAe hQ hK hN hA hP hD hS hl
  have hown : s.vm.findClass RX5 = some m.cls := hown
  have hl : lv_has ls 3 [(0, .int a1), (1, .int a2), (2, .int a3)] := hl
  unfold fX5_classOf at h
  refine lv_iload_n hx hb dX5_classOf_0 rfl (lv_at hl 1 rfl) ?_
  refine lv_bipush (v := 10) hx hb dX5_classOf_1 (by decide) ?_
  refine lv_icmp_ge (tgt := 8) hx hb dX5_classOf_3 (by decide) (fun cq => ?_) (fun cq => ?_)
  · replace h := ifp cq h
    refine lv_bipush (v := 10) hx hb dX5_classOf_8 (by decide) ?_
    refine lv_iload_n hx hb dX5_classOf_10 rfl (lv_at hl 0 rfl) ?_
    refine lv_imul hx hb dX5_classOf_11 ?_
    refine lv_iload_n hx hb dX5_classOf_12 rfl (lv_at hl 2 rfl) ?_
    refine lv_iadd hx hb dX5_classOf_13 ?_
    refine lv_iload_n hx hb dX5_classOf_14 rfl (lv_at hl 1 rfl) ?_
    obtain ⟨g1, h⟩ := gdn h
    refine lv_irem hx hb dX5_classOf_15 g1 ?_
    refine lv_bipush (v := 10) hx hb dX5_classOf_16 (by decide) ?_
    refine lv_idiv hx hb dX5_classOf_18 (by decide) ?_
    cases h
    exact pw_iret hx hb hr hlocks hAe hQ hP hD hS dX5_classOf_19
  · replace h := ifn cq h
    refine lv_iconst (v := (-1)) hx hb dX5_classOf_6 (by decide) ?_
    cases h
    exact pw_iret hx hb hr hlocks hAe hQ hP hD hS dX5_classOf_7
def fX2_signAt (row : Nat → Int32) (len : Int32) (a1 : Int32) : Option Int32 :=
  if a1 < 0 then
  some (-1)
  else
  if len ≤ a1 then
  some (-1)
  else
  if 240 ≤ a1 then
  some (-1)
  else
  if oob a1 240 then none else
  some (row a1.toNatClampNeg)
abbrev rmX2_signAt : Room := { frames := 0, cells := 0, slots := 0, locals := 0 }
set_option maxHeartbeats 4000000 in
set_option maxRecDepth 100000 in
theorem mX2_signAt (l : Launch) (D : va_G) (cI cO cJ : ClassId) (h2 h2_row h2_ten h2_pha : Nat) (sz : Nat) (row : Nat → Int32) (ten : Nat → Int32) (pha : Nat → Int32) (len : Int32) (kep : Int32) (wfi : Int32) (wmo : Int32) (hun : Int32) (a1 : Int32) (z : Int32) (h : fX2_signAt row len a1 = some z) : Met l yX2_signAt wsX2_signAt rmX2_signAt (pw_pre D (tyL cI cO cJ) [.ref h2, .int a1] [(h2, .inr (2, [.ref h2_row, .ref h2_ten, .ref h2_pha, .int len, .int kep, .int wfi, .int wmo, .int hun])), (h2_row, .inl (cI, 240, .inl row)), (h2_ten, .inl (cI, 4, .inl ten)), (h2_pha, .inl (cI, 4, .inl pha))] sz) (pw_i D [(h2, .inr (2, [.ref h2_row, .ref h2_ten, .ref h2_pha, .int len, .int kep, .int wfi, .int wmo, .int hun])), (h2_row, .inl (cI, 240, .inl row)), (h2_ten, .inl (cI, 4, .inl ten)), (h2_pha, .inl (cI, 4, .inl pha))] [(h2, .inr (2, [.ref h2_row, .ref h2_ten, .ref h2_pha, .int len, .int kep, .int wfi, .int wmo, .int hun])), (h2_row, .inl (cI, 240, .inl row)), (h2_ten, .inl (cI, 4, .inl ten)), (h2_pha, .inl (cI, 4, .inl pha))] z sz) 0 0 (va_A [(h2, .inr (2, [.ref h2_row, .ref h2_ten, .ref h2_pha, .int len, .int kep, .int wfi, .int wmo, .int hun])), (h2_row, .inl (cI, 240, .inl row)), (h2_ten, .inl (cI, 4, .inl ten)), (h2_pha, .inl (cI, 4, .inl pha))] sz) := by
  refine pw_of (Qc := fun sz => pw_i D [(h2, .inr (2, [.ref h2_row, .ref h2_ten, .ref h2_pha, .int len, .int kep, .int wfi, .int wmo, .int hun])), (h2_row, .inl (cI, 240, .inl row)), (h2_ten, .inl (cI, 4, .inl ten)), (h2_pha, .inl (cI, 4, .inl pha))] [(h2, .inr (2, [.ref h2_row, .ref h2_ten, .ref h2_pha, .int len, .int kep, .int wfi, .int wmo, .int hun])), (h2_row, .inl (cI, 240, .inl row)), (h2_ten, .inl (cI, 4, .inl ten)), (h2_pha, .inl (cI, 4, .inl pha))] z sz) (cc := cX2_signAt) (maxL := 2) (ret := (some .int)) (by decide) rfl (Nat.le_of_ble_eq_true rfl) ?_
  intro p e s m args below meth c A Q H ls hx hb hml hr hts hown hlocks hAe hQ hK hN hA hP hD hS hl
  have hown : s.vm.findClass RX2 = some m.cls := hown
  have hl : lv_has ls 2 [(0, .ref h2), (1, .int a1)] := hl
  have hP : va_P D vwCl ([(h2, .inr (2, [.ref h2_row, .ref h2_ten, .ref h2_pha, .int len, .int kep, .int wfi, .int wmo, .int hun])), (h2_row, .inl (cI, 240, .inl row)), (h2_ten, .inl (cI, 4, .inl ten)), (h2_pha, .inl (cI, 4, .inl pha))] ++ []) H := hP
  have hD : va_D A ([(h2, .inr (2, [.ref h2_row, .ref h2_ten, .ref h2_pha, .int len, .int kep, .int wfi, .int wmo, .int hun])), (h2_row, .inl (cI, 240, .inl row)), (h2_ten, .inl (cI, 4, .inl ten)), (h2_pha, .inl (cI, 4, .inl pha))] ++ []) := hD
  have iX2 : ∀ w ∈ u_ws RX2 TX2 8, w ∈ wsX2_signAt := fun _ h => List.mem_cons_of_mem _ (List.mem_append_right _ h)
  unfold fX2_signAt at h
  refine lv_iload_n hx hb dX2_signAt_0 rfl (lv_at hl 1 rfl) ?_
  refine lv_if_lt (tgt := 30) hx hb dX2_signAt_1 (by decide) (fun cq => ?_) (fun cq => ?_)
  · replace h := ifp cq h
    refine lv_iconst (v := (-1)) hx hb dX2_signAt_30 (by decide) ?_
    cases h
    exact pw_iret hx hb hr hlocks hAe hQ hP hD hS dX2_signAt_31
  · replace h := ifn cq h
    refine lv_iload_n hx hb dX2_signAt_4 rfl (lv_at hl 1 rfl) ?_
    refine lv_aload_n hx hb dX2_signAt_5 rfl (lv_at hl 0 rfl) ?_
    refine va_get (D := D) (ci := 2) (v := .int len) (C := RX2) (T := TX2) (N := 8) hx hb hts iX2 hown hK hP 0 rfl rfl 3 (by decide) (hts (.fieldLink RX2 29 "HiddenPeriods$State" "length" "I") (by decide +kernel)) (fun _ h9 => h9) rfl dX2_signAt_6 ?_
    refine lv_icmp_ge (tgt := 30) hx hb dX2_signAt_9 (by decide) (fun cq => ?_) (fun cq => ?_)
    · replace h := ifp cq h
      refine lv_iconst (v := (-1)) hx hb dX2_signAt_30 (by decide) ?_
      cases h
      exact pw_iret hx hb hr hlocks hAe hQ hP hD hS dX2_signAt_31
    · replace h := ifn cq h
      refine lv_iload_n hx hb dX2_signAt_12 rfl (lv_at hl 1 rfl) ?_
      refine lv_aload_n hx hb dX2_signAt_13 rfl (lv_at hl 0 rfl) ?_
      refine va_get (D := D) (ci := 2) (v := .ref h2_row) (C := RX2) (T := TX2) (N := 8) hx hb hts iX2 hown hK hP 0 rfl rfl 0 (by decide) (hts (.fieldLink RX2 9 "HiddenPeriods$State" "row" "[I") (by decide +kernel)) (fun _ h9 => h9) rfl dX2_signAt_14 ?_
      refine va_alen (v := 240) hx hb hK hP 1 0 rfl rfl rfl dX2_signAt_17 ?_
      refine lv_icmp_ge (tgt := 30) hx hb dX2_signAt_18 (by decide) (fun cq => ?_) (fun cq => ?_)
      · replace h := ifp cq h
        refine lv_iconst (v := (-1)) hx hb dX2_signAt_30 (by decide) ?_
        cases h
        exact pw_iret hx hb hr hlocks hAe hQ hP hD hS dX2_signAt_31
      · replace h := ifn cq h
        refine lv_aload_n hx hb dX2_signAt_21 rfl (lv_at hl 0 rfl) ?_
        refine va_get (D := D) (ci := 2) (v := .ref h2_row) (C := RX2) (T := TX2) (N := 8) hx hb hts iX2 hown hK hP 0 rfl rfl 0 (by decide) (hts (.fieldLink RX2 9 "HiddenPeriods$State" "row" "[I") (by decide +kernel)) (fun _ h9 => h9) rfl dX2_signAt_22 ?_
        refine lv_iload_n hx hb dX2_signAt_25 rfl (lv_at hl 1 rfl) ?_
        obtain ⟨g1, h⟩ := gdn h
        refine va_iald hx hb hK hP 1 0 rfl rfl g1 dX2_signAt_26 ?_
        refine lv_goto (tgt := 31) hx hb dX2_signAt_27 (by decide) ?_
        cases h
        exact pw_iret hx hb hr hlocks hAe hQ hP hD hS dX2_signAt_31
def fX0_takeStretch_L27 (row : Nat → Int32) (len : Int32) (a2 : Int32) (a3 : Int32) (y3 : Int32) : Nat → Int32 → (Nat → Int32) → Option (Nat → Int32)
  | 0, _, _ => none
  | n + 1, v7_27, cel_27 =>
    if y3 ≤ v7_27 then
    some cel_27
    else
    (fX5_classOf v7_27 a2 a3).bind fun x4 =>
    (fX2_signAt row len v7_27).bind fun x5 =>
    if ((x4 * 4) + x5) < 0 then
    fX0_takeStretch_L27 row len a2 a3 y3 n (v7_27 + 1) cel_27
    else
    if 160 ≤ ((x4 * 4) + x5) then
    fX0_takeStretch_L27 row len a2 a3 y3 n (v7_27 + 1) cel_27
    else
    if oob ((x4 * 4) + x5) 160 then none else
    if oob ((x4 * 4) + x5) 160 then none else
    fX0_takeStretch_L27 row len a2 a3 y3 n (v7_27 + 1) (upd cel_27 (((x4 * 4) + x5)).toNatClampNeg ((cel_27 (((x4 * 4) + x5)).toNatClampNeg) + 1))
def fX0_takeStretch (cel : Nat → Int32) (row : Nat → Int32) (len : Int32) (a2 : Int32) (a3 : Int32) (a4 : Int32) (a5 : Int32) : Option ((Nat → Int32) × Int32) :=
  (fJ7_fill_53178 cel 160 0).bind fun x1 =>
  (fX5_classesOf a2).bind fun x2 =>
  (fX0_takeStretch_L27 row len a2 a3 (a4 + a5) FU a4 x1).bind fun x8 =>
  some (x8, x2)
abbrev rmX0_takeStretch : Room := { frames := 1, cells := 0, slots := 0, locals := 23 }
set_option maxHeartbeats 4000000 in
set_option maxRecDepth 100000 in
theorem mX0_takeStretch (l : Launch) (D : va_G) (cI cO cJ : ClassId) (h0 h0_cel h2 h2_row h2_ten h2_pha : Nat) (sz : Nat) (cel : Nat → Int32) (cls : Int32) (row : Nat → Int32) (ten : Nat → Int32) (pha : Nat → Int32) (len : Int32) (kep : Int32) (wfi : Int32) (wmo : Int32) (hun : Int32) (a2 : Int32) (a3 : Int32) (a4 : Int32) (a5 : Int32) (z : (Nat → Int32) × Int32) (h : fX0_takeStretch cel row len a2 a3 a4 a5 = some z) : Met l yX0_takeStretch wsX0_takeStretch rmX0_takeStretch (pw_pre D (tyL cI cO cJ) [.ref h0, .ref h2, .int a2, .int a3, .int a4, .int a5] [(h0, .inr (0, [.ref h0_cel, .int cls])), (h0_cel, .inl (cI, 160, .inl cel)), (h2, .inr (2, [.ref h2_row, .ref h2_ten, .ref h2_pha, .int len, .int kep, .int wfi, .int wmo, .int hun])), (h2_row, .inl (cI, 240, .inl row)), (h2_ten, .inl (cI, 4, .inl ten)), (h2_pha, .inl (cI, 4, .inl pha))] sz) (pw_v D [(h0, .inr (0, [.ref h0_cel, .int cls])), (h0_cel, .inl (cI, 160, .inl cel)), (h2, .inr (2, [.ref h2_row, .ref h2_ten, .ref h2_pha, .int len, .int kep, .int wfi, .int wmo, .int hun])), (h2_row, .inl (cI, 240, .inl row)), (h2_ten, .inl (cI, 4, .inl ten)), (h2_pha, .inl (cI, 4, .inl pha))] [(h0, .inr (0, [.ref h0_cel, .int z.2])), (h0_cel, .inl (cI, 160, .inl z.1)), (h2, .inr (2, [.ref h2_row, .ref h2_ten, .ref h2_pha, .int len, .int kep, .int wfi, .int wmo, .int hun])), (h2_row, .inl (cI, 240, .inl row)), (h2_ten, .inl (cI, 4, .inl ten)), (h2_pha, .inl (cI, 4, .inl pha))] sz) 0 0 (va_A [(h0, .inr (0, [.ref h0_cel, .int cls])), (h0_cel, .inl (cI, 160, .inl cel)), (h2, .inr (2, [.ref h2_row, .ref h2_ten, .ref h2_pha, .int len, .int kep, .int wfi, .int wmo, .int hun])), (h2_row, .inl (cI, 240, .inl row)), (h2_ten, .inl (cI, 4, .inl ten)), (h2_pha, .inl (cI, 4, .inl pha))] sz) := by
  refine pw_of (Qc := fun sz => pw_v D [(h0, .inr (0, [.ref h0_cel, .int cls])), (h0_cel, .inl (cI, 160, .inl cel)), (h2, .inr (2, [.ref h2_row, .ref h2_ten, .ref h2_pha, .int len, .int kep, .int wfi, .int wmo, .int hun])), (h2_row, .inl (cI, 240, .inl row)), (h2_ten, .inl (cI, 4, .inl ten)), (h2_pha, .inl (cI, 4, .inl pha))] [(h0, .inr (0, [.ref h0_cel, .int z.2])), (h0_cel, .inl (cI, 160, .inl z.1)), (h2, .inr (2, [.ref h2_row, .ref h2_ten, .ref h2_pha, .int len, .int kep, .int wfi, .int wmo, .int hun])), (h2_row, .inl (cI, 240, .inl row)), (h2_ten, .inl (cI, 4, .inl ten)), (h2_pha, .inl (cI, 4, .inl pha))] sz) (cc := cX0_takeStretch) (maxL := 9) (ret := none) (by decide) rfl (Nat.le_of_ble_eq_true rfl) ?_
  intro p e s m args below meth c A Q H ls hx hb hml hr hts hown hlocks hAe hQ hK hN hA hP hD hS hl
  have hown : s.vm.findClass RX0 = some m.cls := hown
  have hl : lv_has ls 9 [(0, .ref h0), (1, .ref h2), (2, .int a2), (3, .int a3), (4, .int a4), (5, .int a5)] := hl
  have hP : va_P D vwCl ([(h0, .inr (0, [.ref h0_cel, .int cls])), (h0_cel, .inl (cI, 160, .inl cel)), (h2, .inr (2, [.ref h2_row, .ref h2_ten, .ref h2_pha, .int len, .int kep, .int wfi, .int wmo, .int hun])), (h2_row, .inl (cI, 240, .inl row)), (h2_ten, .inl (cI, 4, .inl ten)), (h2_pha, .inl (cI, 4, .inl pha))] ++ []) H := hP
  have hD : va_D A ([(h0, .inr (0, [.ref h0_cel, .int cls])), (h0_cel, .inl (cI, 160, .inl cel)), (h2, .inr (2, [.ref h2_row, .ref h2_ten, .ref h2_pha, .int len, .int kep, .int wfi, .int wmo, .int hun])), (h2_row, .inl (cI, 240, .inl row)), (h2_ten, .inl (cI, 4, .inl ten)), (h2_pha, .inl (cI, 4, .inl pha))] ++ []) := hD
  have iX0 : ∀ w ∈ u_ws RX0 TX0 2, w ∈ wsX0_takeStretch := fun _ h => List.mem_cons_of_mem _ (List.mem_append_left _ (List.mem_append_right _ h))
  unfold fX0_takeStretch at h
  refine lv_aload_n hx hb dX0_takeStretch_0 rfl (lv_at hl 0 rfl) ?_
  refine va_get (D := D) (ci := 0) (v := .ref h0_cel) (C := RX0) (T := TX0) (N := 2) hx hb hts iX0 hown hK hP 0 rfl rfl 0 (by decide) (hts (.fieldLink RX0 9 "HiddenPeriods$Counts" "cells" "[I") (by decide +kernel)) (fun _ h9 => h9) rfl dX0_takeStretch_1 ?_
  refine lv_iconst (v := 0) hx hb dX0_takeStretch_4 (by decide) ?_
  obtain ⟨x1, hx1, h⟩ := bnd h
  refine pw_gov (wc := [(h0_cel, .inl (cI, 160, .inl cel))]) (w1 := [(h0_cel, .inl (cI, 160, .inl x1))]) (w2 := [(h0, .inr (0, [.ref h0_cel, .int cls])), (h0_cel, .inl (cI, 160, .inl x1)), (h2, .inr (2, [.ref h2_row, .ref h2_ten, .ref h2_pha, .int len, .int kep, .int wfi, .int wmo, .int hun])), (h2_row, .inl (cI, 240, .inl row)), (h2_ten, .inl (cI, 4, .inl ten)), (h2_pha, .inl (cI, 4, .inl pha))]) (va_runS (As := [.ref h0_cel, .int 0]) (rest := []) ⟨hx, hb, hml, hown, hts⟩ (mJ7_fill_53178 l D cI cO cJ h0_cel H.size cel 160 0 _ hx1) (va_cwS 2 hts gX0_takeStretch_J7_fill_53178 rfl rfl rfl (by decide +kernel) ⟨Nat.le_of_ble_eq_true rfl, Nat.le_of_ble_eq_true rfl⟩) (pw_preS hK hN (pw_sub hP [1] rfl) (pw_subD hD [1] (by decide) rfl)) rfl rfl hl.1 rfl (lv_room (Nat.le_of_ble_eq_true rfl)) dX0_takeStretch_5 ⟨Nat.zero_le _, Nat.zero_le _⟩) hP hD hS hA [1] [0, 2, 3, 4, 5] [0, 5, 1, 2, 3, 4] rfl rfl (by decide) (by decide) (by decide) rfl (fun H locs hP hD hS => ?_)
  refine lv_aload_n hx hb dX0_takeStretch_8 rfl (lv_at hl 0 rfl) ?_
  refine lv_iload_n hx hb dX0_takeStretch_9 rfl (lv_at hl 2 rfl) ?_
  obtain ⟨x2, hx2, h⟩ := bnd h
  refine pw_go0 (va_runSN (As := [.int a2]) (rest := [.ref h0]) ⟨hx, hb, hml, hown, hts⟩ (mX5_classesOf l D cI cO cJ H.size a2 _ hx2) ⟨va_cnB 1 hts gX0_takeStretch_X5_classesOf_n45 rfl rfl rfl (hN (.methodLinkNest RX0 45 yX5_classesOf "HiddenPeriods") (by decide +kernel)) (hts (.initialized RX5) (by decide +kernel)) (by decide +kernel) ⟨Nat.le_of_ble_eq_true rfl, Nat.le_of_ble_eq_true rfl⟩, (hts (.static yX5_classesOf) (by decide +kernel)), trivial⟩ (pw_preS hK hN pw_nilP (pw_nilD (A := A))) rfl rfl hl.1 rfl (lv_room (Nat.le_of_ble_eq_true rfl)) dX0_takeStretch_10 ⟨Nat.zero_le _, Nat.zero_le _⟩) hP hS hA (fun H locs hP hS => ?_)
  refine va_put (D := D) (ci := 0) (v := .int x2) (ty := .int) (C := RX0) (T := TX0) (N := 2) hx hb hts iX0 tyX0 tyX0_ok nmX0 hown hK hP hD hS 0 rfl rfl 1 (by decide) (hts (.fieldLink RX0 48 "HiddenPeriods$Counts" "classes" "I") (by decide +kernel)) (fun _ h9 => h9) rfl (by decide +kernel) rfl rfl (Nat.le_of_ble_eq_true rfl) dX0_takeStretch_13 (fun H locs hP hD hS => ?_)
  have hP : va_P D vwCl ([(h0, .inr (0, [.ref h0_cel, .int x2])), (h0_cel, .inl (cI, 160, .inl x1)), (h2, .inr (2, [.ref h2_row, .ref h2_ten, .ref h2_pha, .int len, .int kep, .int wfi, .int wmo, .int hun])), (h2_row, .inl (cI, 240, .inl row)), (h2_ten, .inl (cI, 4, .inl ten)), (h2_pha, .inl (cI, 4, .inl pha))] ++ []) H := hP
  have hD : va_D A ([(h0, .inr (0, [.ref h0_cel, .int x2])), (h0_cel, .inl (cI, 160, .inl x1)), (h2, .inr (2, [.ref h2_row, .ref h2_ten, .ref h2_pha, .int len, .int kep, .int wfi, .int wmo, .int hun])), (h2_row, .inl (cI, 240, .inl row)), (h2_ten, .inl (cI, 4, .inl ten)), (h2_pha, .inl (cI, 4, .inl pha))] ++ []) := hD
  refine lv_iload hx hb dX0_takeStretch_16 (lv_at hl 4 rfl) ?_
  refine lv_iload hx hb dX0_takeStretch_18 (lv_at hl 5 rfl) ?_
  refine lv_iadd hx hb dX0_takeStretch_20 ?_
  refine lv_istore (lv' := [(6, .int (a4 + a5)), (0, .ref h0), (1, .ref h2), (2, .int a2), (3, .int a3), (4, .int a4), (5, .int a5)]) hx hb dX0_takeStretch_21 hl (by decide) rfl (fun ls hl => ?_)
  refine lv_iload hx hb dX0_takeStretch_23 (lv_at hl 5 rfl) ?_
  refine lv_istore (lv' := [(7, .int a4), (6, .int (a4 + a5)), (0, .ref h0), (1, .ref h2), (2, .int a2), (3, .int a3), (4, .int a4), (5, .int a5)]) hx hb dX0_takeStretch_25 hl (by decide) rfl (fun ls hl => ?_)
  generalize hgy3 : (a4 + a5) = y3 at h hP hD hl ⊢
  have L27 : ∀ (n : Nat) (v7_27 : Int32) (cel_27 : Nat → Int32) (o27_1 : Nat → Int32) (H : Heap) (locs : List Loc) (ls : Array Slot), fX0_takeStretch_L27 row len a2 a3 y3 n v7_27 cel_27 = some o27_1 → va_P D vwCl ([(h0, .inr (0, [.ref h0_cel, .int x2])), (h0_cel, .inl (cI, 160, .inl cel_27)), (h2, .inr (2, [.ref h2_row, .ref h2_ten, .ref h2_pha, .int len, .int kep, .int wfi, .int wmo, .int hun])), (h2_row, .inl (cI, 240, .inl row)), (h2_ten, .inl (cI, 4, .inl ten)), (h2_pha, .inl (cI, 4, .inl pha))] ++ []) H → va_D A ([(h0, .inr (0, [.ref h0_cel, .int x2])), (h0_cel, .inl (cI, 160, .inl cel_27)), (h2, .inr (2, [.ref h2_row, .ref h2_ten, .ref h2_pha, .int len, .int kep, .int wfi, .int wmo, .int hun])), (h2_row, .inl (cI, 240, .inl row)), (h2_ten, .inl (cI, 4, .inl ten)), (h2_pha, .inl (cI, 4, .inl pha))] ++ []) → va_S A s.heap H locs → lv_has ls 9 [(0, .ref h0), (1, .ref h2), (2, .int a2), (3, .int a3), (6, .int y3), (7, .int v7_27)] → (∀ (H : Heap) (locs : List Loc) (ls : Array Slot), va_P D vwCl ([(h0, .inr (0, [.ref h0_cel, .int x2])), (h0_cel, .inl (cI, 160, .inl o27_1)), (h2, .inr (2, [.ref h2_row, .ref h2_ten, .ref h2_pha, .int len, .int kep, .int wfi, .int wmo, .int hun])), (h2_row, .inl (cI, 240, .inl row)), (h2_ten, .inl (cI, 4, .inl ten)), (h2_pha, .inl (cI, 4, .inl pha))] ++ []) H → va_D A ([(h0, .inr (0, [.ref h0_cel, .int x2])), (h0_cel, .inl (cI, 160, .inl o27_1)), (h2, .inr (2, [.ref h2_row, .ref h2_ten, .ref h2_pha, .int len, .int kep, .int wfi, .int wmo, .int hun])), (h2_row, .inl (cI, 240, .inl row)), (h2_ten, .inl (cI, 4, .inl ten)), (h2_pha, .inl (cI, 4, .inl pha))] ++ []) → va_S A s.heap H locs → lv_has ls 9 [] → W p l e rmX0_takeStretch s m args below meth c H locs 0 0 Q (F0 m 84 ls [])) → W p l e rmX0_takeStretch s m args below meth c H locs 0 0 Q (F0 m 27 ls []) := by
    intro n
    induction n with
    | zero =>
      intro v7_27 cel_27 o27_1 H locs ls h
      rw [fX0_takeStretch_L27] at h
      cases h
    | succ n ih =>
      intro v7_27 cel_27 o27_1 H locs ls h hP hD hS hl K
      rw [fX0_takeStretch_L27] at h
      refine lv_iload hx hb dX0_takeStretch_27 (lv_at hl 5 rfl) ?_
      refine lv_iload hx hb dX0_takeStretch_29 (lv_at hl 4 rfl) ?_
      refine lv_icmp_ge (tgt := 84) hx hb dX0_takeStretch_31 (by decide) (fun cq => ?_) (fun cq => ?_)
      · replace h := ifp cq h
        cases h
        exact K _ _ _ hP hD hS (lv_sub hl [] rfl)
      · replace h := ifn cq h
        refine lv_iload hx hb dX0_takeStretch_34 (lv_at hl 5 rfl) ?_
        refine lv_iload_n hx hb dX0_takeStretch_36 rfl (lv_at hl 2 rfl) ?_
        refine lv_iload_n hx hb dX0_takeStretch_37 rfl (lv_at hl 3 rfl) ?_
        obtain ⟨x4, hx4, h⟩ := bnd h
        refine pw_go0 (va_runSN (As := [.int v7_27, .int a2, .int a3]) (rest := []) ⟨hx, hb, hml, hown, hts⟩ (mX5_classOf l D cI cO cJ H.size v7_27 a2 a3 _ hx4) ⟨va_cnB 3 hts gX0_takeStretch_X5_classOf_n52 rfl rfl rfl (hN (.methodLinkNest RX0 52 yX5_classOf "HiddenPeriods") (by decide +kernel)) (hts (.initialized RX5) (by decide +kernel)) (by decide +kernel) ⟨Nat.le_of_ble_eq_true rfl, Nat.le_of_ble_eq_true rfl⟩, (hts (.static yX5_classOf) (by decide +kernel)), trivial⟩ (pw_preS hK hN pw_nilP (pw_nilD (A := A))) rfl rfl hl.1 rfl (lv_room (Nat.le_of_ble_eq_true rfl)) dX0_takeStretch_38 ⟨Nat.zero_le _, Nat.zero_le _⟩) hP hS hA (fun H locs hP hS => ?_)
        refine lv_iconst (v := 4) hx hb dX0_takeStretch_41 (by decide) ?_
        refine lv_imul hx hb dX0_takeStretch_42 ?_
        refine lv_aload_n hx hb dX0_takeStretch_43 rfl (lv_at hl 1 rfl) ?_
        refine lv_iload hx hb dX0_takeStretch_44 (lv_at hl 5 rfl) ?_
        obtain ⟨x5, hx5, h⟩ := bnd h
        refine pw_goi (wc := [(h2, .inr (2, [.ref h2_row, .ref h2_ten, .ref h2_pha, .int len, .int kep, .int wfi, .int wmo, .int hun])), (h2_row, .inl (cI, 240, .inl row)), (h2_ten, .inl (cI, 4, .inl ten)), (h2_pha, .inl (cI, 4, .inl pha))]) (w1 := [(h2, .inr (2, [.ref h2_row, .ref h2_ten, .ref h2_pha, .int len, .int kep, .int wfi, .int wmo, .int hun])), (h2_row, .inl (cI, 240, .inl row)), (h2_ten, .inl (cI, 4, .inl ten)), (h2_pha, .inl (cI, 4, .inl pha))]) (w2 := [(h0, .inr (0, [.ref h0_cel, .int x2])), (h0_cel, .inl (cI, 160, .inl cel_27)), (h2, .inr (2, [.ref h2_row, .ref h2_ten, .ref h2_pha, .int len, .int kep, .int wfi, .int wmo, .int hun])), (h2_row, .inl (cI, 240, .inl row)), (h2_ten, .inl (cI, 4, .inl ten)), (h2_pha, .inl (cI, 4, .inl pha))]) (va_runV (As := [.int v7_27]) (rest := [.int (x4 * 4)]) ⟨hx, hb, hml, hown, hts⟩ (mX2_signAt l D cI cO cJ h2 h2_row h2_ten h2_pha H.size row ten pha len kep wfi wmo hun v7_27 _ hx5) (cwV 1 hts gX0_takeStretch_X2_signAt rfl rfl rfl (by decide +kernel) ⟨Nat.le_of_ble_eq_true rfl, Nat.le_of_ble_eq_true rfl⟩) (pw_preV hK hN (pw_sub hP [2, 3, 4, 5] rfl) (pw_subD hD [2, 3, 4, 5] (by decide) rfl) (ci := 2) (q0 := 0) rfl rfl) rfl rfl hl.1 rfl (lv_room (Nat.le_of_ble_eq_true rfl)) dX0_takeStretch_46 ⟨Nat.zero_le _, Nat.zero_le _⟩) hP hD hS hA [2, 3, 4, 5] [0, 1] [0, 1, 2, 3, 4, 5] rfl rfl (by decide) (by decide) (by decide) rfl (fun H locs hP hD hS => ?_)
        refine lv_iadd hx hb dX0_takeStretch_49 ?_
        refine lv_istore (lv' := [(8, .int ((x4 * 4) + x5)), (0, .ref h0), (1, .ref h2), (2, .int a2), (3, .int a3), (6, .int y3), (7, .int v7_27)]) hx hb dX0_takeStretch_50 hl (by decide) rfl (fun ls hl => ?_)
        refine lv_iload hx hb dX0_takeStretch_52 (lv_at hl 0 rfl) ?_
        refine lv_if_lt (tgt := 78) hx hb dX0_takeStretch_54 (by decide) (fun cq => ?_) (fun cq => ?_)
        · replace h := ifp cq h
          refine lv_iinc (v := (v7_27 + 1)) (lv' := [(7, .int (v7_27 + 1)), (8, .int ((x4 * 4) + x5)), (0, .ref h0), (1, .ref h2), (2, .int a2), (3, .int a3), (6, .int y3)]) hx hb dX0_takeStretch_78 hl (k := 6) rfl rfl (by decide) rfl (fun ls hl => ?_)
          refine lv_goto (tgt := 27) hx hb dX0_takeStretch_81 (by decide) ?_
          exact ih _ _ _ _ _ _ h hP hD hS (lv_sub hl [2, 3, 4, 5, 6, 0] rfl) K
        · replace h := ifn cq h
          refine lv_iload hx hb dX0_takeStretch_57 (lv_at hl 0 rfl) ?_
          refine lv_aload_n hx hb dX0_takeStretch_59 rfl (lv_at hl 1 rfl) ?_
          refine va_get (D := D) (ci := 0) (v := .ref h0_cel) (C := RX0) (T := TX0) (N := 2) hx hb hts iX0 hown hK hP 0 rfl rfl 0 (by decide) (hts (.fieldLink RX0 9 "HiddenPeriods$Counts" "cells" "[I") (by decide +kernel)) (fun _ h9 => h9) rfl dX0_takeStretch_60 ?_
          refine va_alen (v := 160) hx hb hK hP 1 0 rfl rfl rfl dX0_takeStretch_63 ?_
          refine lv_icmp_ge (tgt := 78) hx hb dX0_takeStretch_64 (by decide) (fun cq => ?_) (fun cq => ?_)
          · replace h := ifp cq h
            refine lv_iinc (v := (v7_27 + 1)) (lv' := [(7, .int (v7_27 + 1)), (8, .int ((x4 * 4) + x5)), (0, .ref h0), (1, .ref h2), (2, .int a2), (3, .int a3), (6, .int y3)]) hx hb dX0_takeStretch_78 hl (k := 6) rfl rfl (by decide) rfl (fun ls hl => ?_)
            refine lv_goto (tgt := 27) hx hb dX0_takeStretch_81 (by decide) ?_
            exact ih _ _ _ _ _ _ h hP hD hS (lv_sub hl [2, 3, 4, 5, 6, 0] rfl) K
          · replace h := ifn cq h
            refine lv_aload_n hx hb dX0_takeStretch_67 rfl (lv_at hl 1 rfl) ?_
            refine va_get (D := D) (ci := 0) (v := .ref h0_cel) (C := RX0) (T := TX0) (N := 2) hx hb hts iX0 hown hK hP 0 rfl rfl 0 (by decide) (hts (.fieldLink RX0 9 "HiddenPeriods$Counts" "cells" "[I") (by decide +kernel)) (fun _ h9 => h9) rfl dX0_takeStretch_68 ?_
            refine lv_iload hx hb dX0_takeStretch_71 (lv_at hl 0 rfl) ?_
            refine lv_dup2_11 hx hb dX0_takeStretch_73 rfl rfl ?_
            obtain ⟨g6, h⟩ := gdn h
            refine va_iald hx hb hK hP 1 0 rfl rfl g6 dX0_takeStretch_74 ?_
            refine lv_iconst (v := 1) hx hb dX0_takeStretch_75 (by decide) ?_
            refine lv_iadd hx hb dX0_takeStretch_76 ?_
            obtain ⟨g7, h⟩ := gdn h
            refine va_iast hx hb hK hP hD hS 1 0 rfl rfl g7 dX0_takeStretch_77 (fun H locs hP hD hS => ?_)
            have hP : va_P D vwCl ([(h0, .inr (0, [.ref h0_cel, .int x2])), (h0_cel, .inl (cI, 160, .inl (upd cel_27 (((x4 * 4) + x5)).toNatClampNeg ((cel_27 (((x4 * 4) + x5)).toNatClampNeg) + 1)))), (h2, .inr (2, [.ref h2_row, .ref h2_ten, .ref h2_pha, .int len, .int kep, .int wfi, .int wmo, .int hun])), (h2_row, .inl (cI, 240, .inl row)), (h2_ten, .inl (cI, 4, .inl ten)), (h2_pha, .inl (cI, 4, .inl pha))] ++ []) H := hP
            have hD : va_D A ([(h0, .inr (0, [.ref h0_cel, .int x2])), (h0_cel, .inl (cI, 160, .inl (upd cel_27 (((x4 * 4) + x5)).toNatClampNeg ((cel_27 (((x4 * 4) + x5)).toNatClampNeg) + 1)))), (h2, .inr (2, [.ref h2_row, .ref h2_ten, .ref h2_pha, .int len, .int kep, .int wfi, .int wmo, .int hun])), (h2_row, .inl (cI, 240, .inl row)), (h2_ten, .inl (cI, 4, .inl ten)), (h2_pha, .inl (cI, 4, .inl pha))] ++ []) := hD
            refine lv_iinc (v := (v7_27 + 1)) (lv' := [(7, .int (v7_27 + 1)), (8, .int ((x4 * 4) + x5)), (0, .ref h0), (1, .ref h2), (2, .int a2), (3, .int a3), (6, .int y3)]) hx hb dX0_takeStretch_78 hl (k := 6) rfl rfl (by decide) rfl (fun ls hl => ?_)
            refine lv_goto (tgt := 27) hx hb dX0_takeStretch_81 (by decide) ?_
            exact ih _ _ _ _ _ _ h hP hD hS (lv_sub hl [2, 3, 4, 5, 6, 0] rfl) K
  obtain ⟨x8, hx8, h⟩ := bnd h
  refine L27 FU _ _ _ _ _ _ hx8 hP hD hS (lv_sub hl [2, 3, 4, 5, 1, 0] rfl) (fun H locs ls hP hD hS hl => ?_)
  cases h
  exact pw_vret hx hb hr hlocks hAe hQ hP hD hS dX0_takeStretch_84
def fX0_takeWindow (cel : Nat → Int32) (row : Nat → Int32) (len : Int32) (wfi : Int32) (wmo : Int32) (a2 : Int32) (a3 : Int32) : Option ((Nat → Int32) × Int32) :=
  (fX2_windowStart wfi wmo).bind fun x1 =>
  (fX2_windowPlaces len wfi wmo).bind fun x2 =>
  (fX0_takeStretch cel row len a2 a3 x1 x2).bind fun (x3_1, x3_2) =>
  some (x3_1, x3_2)
abbrev rmX0_takeWindow : Room := { frames := 2, cells := 0, slots := 0, locals := 51 }
set_option maxHeartbeats 4000000 in
set_option maxRecDepth 100000 in
theorem mX0_takeWindow (l : Launch) (D : va_G) (cI cO cJ : ClassId) (h0 h0_cel h2 h2_row h2_ten h2_pha : Nat) (sz : Nat) (cel : Nat → Int32) (cls : Int32) (row : Nat → Int32) (ten : Nat → Int32) (pha : Nat → Int32) (len : Int32) (kep : Int32) (wfi : Int32) (wmo : Int32) (hun : Int32) (a2 : Int32) (a3 : Int32) (z : (Nat → Int32) × Int32) (h : fX0_takeWindow cel row len wfi wmo a2 a3 = some z) : Met l yX0_takeWindow wsX0_takeWindow rmX0_takeWindow (pw_pre D (tyL cI cO cJ) [.ref h0, .ref h2, .int a2, .int a3] [(h0, .inr (0, [.ref h0_cel, .int cls])), (h0_cel, .inl (cI, 160, .inl cel)), (h2, .inr (2, [.ref h2_row, .ref h2_ten, .ref h2_pha, .int len, .int kep, .int wfi, .int wmo, .int hun])), (h2_row, .inl (cI, 240, .inl row)), (h2_ten, .inl (cI, 4, .inl ten)), (h2_pha, .inl (cI, 4, .inl pha))] sz) (pw_v D [(h0, .inr (0, [.ref h0_cel, .int cls])), (h0_cel, .inl (cI, 160, .inl cel)), (h2, .inr (2, [.ref h2_row, .ref h2_ten, .ref h2_pha, .int len, .int kep, .int wfi, .int wmo, .int hun])), (h2_row, .inl (cI, 240, .inl row)), (h2_ten, .inl (cI, 4, .inl ten)), (h2_pha, .inl (cI, 4, .inl pha))] [(h0, .inr (0, [.ref h0_cel, .int z.2])), (h0_cel, .inl (cI, 160, .inl z.1)), (h2, .inr (2, [.ref h2_row, .ref h2_ten, .ref h2_pha, .int len, .int kep, .int wfi, .int wmo, .int hun])), (h2_row, .inl (cI, 240, .inl row)), (h2_ten, .inl (cI, 4, .inl ten)), (h2_pha, .inl (cI, 4, .inl pha))] sz) 0 0 (va_A [(h0, .inr (0, [.ref h0_cel, .int cls])), (h0_cel, .inl (cI, 160, .inl cel)), (h2, .inr (2, [.ref h2_row, .ref h2_ten, .ref h2_pha, .int len, .int kep, .int wfi, .int wmo, .int hun])), (h2_row, .inl (cI, 240, .inl row)), (h2_ten, .inl (cI, 4, .inl ten)), (h2_pha, .inl (cI, 4, .inl pha))] sz) := by
  refine pw_of (Qc := fun sz => pw_v D [(h0, .inr (0, [.ref h0_cel, .int cls])), (h0_cel, .inl (cI, 160, .inl cel)), (h2, .inr (2, [.ref h2_row, .ref h2_ten, .ref h2_pha, .int len, .int kep, .int wfi, .int wmo, .int hun])), (h2_row, .inl (cI, 240, .inl row)), (h2_ten, .inl (cI, 4, .inl ten)), (h2_pha, .inl (cI, 4, .inl pha))] [(h0, .inr (0, [.ref h0_cel, .int z.2])), (h0_cel, .inl (cI, 160, .inl z.1)), (h2, .inr (2, [.ref h2_row, .ref h2_ten, .ref h2_pha, .int len, .int kep, .int wfi, .int wmo, .int hun])), (h2_row, .inl (cI, 240, .inl row)), (h2_ten, .inl (cI, 4, .inl ten)), (h2_pha, .inl (cI, 4, .inl pha))] sz) (cc := cX0_takeWindow) (maxL := 4) (ret := none) (by decide) rfl (Nat.le_of_ble_eq_true rfl) ?_
  intro p e s m args below meth c A Q H ls hx hb hml hr hts hown hlocks hAe hQ hK hN hA hP hD hS hl
  have hown : s.vm.findClass RX0 = some m.cls := hown
  have hl : lv_has ls 4 [(0, .ref h0), (1, .ref h2), (2, .int a2), (3, .int a3)] := hl
  have hP : va_P D vwCl ([(h0, .inr (0, [.ref h0_cel, .int cls])), (h0_cel, .inl (cI, 160, .inl cel)), (h2, .inr (2, [.ref h2_row, .ref h2_ten, .ref h2_pha, .int len, .int kep, .int wfi, .int wmo, .int hun])), (h2_row, .inl (cI, 240, .inl row)), (h2_ten, .inl (cI, 4, .inl ten)), (h2_pha, .inl (cI, 4, .inl pha))] ++ []) H := hP
  have hD : va_D A ([(h0, .inr (0, [.ref h0_cel, .int cls])), (h0_cel, .inl (cI, 160, .inl cel)), (h2, .inr (2, [.ref h2_row, .ref h2_ten, .ref h2_pha, .int len, .int kep, .int wfi, .int wmo, .int hun])), (h2_row, .inl (cI, 240, .inl row)), (h2_ten, .inl (cI, 4, .inl ten)), (h2_pha, .inl (cI, 4, .inl pha))] ++ []) := hD
  unfold fX0_takeWindow at h
  refine lv_aload_n hx hb dX0_takeWindow_0 rfl (lv_at hl 0 rfl) ?_
  refine lv_aload_n hx hb dX0_takeWindow_1 rfl (lv_at hl 1 rfl) ?_
  refine lv_iload_n hx hb dX0_takeWindow_2 rfl (lv_at hl 2 rfl) ?_
  refine lv_iload_n hx hb dX0_takeWindow_3 rfl (lv_at hl 3 rfl) ?_
  refine lv_aload_n hx hb dX0_takeWindow_4 rfl (lv_at hl 1 rfl) ?_
  obtain ⟨x1, hx1, h⟩ := bnd h
  refine pw_goi (wc := [(h2, .inr (2, [.ref h2_row, .ref h2_ten, .ref h2_pha, .int len, .int kep, .int wfi, .int wmo, .int hun])), (h2_row, .inl (cI, 240, .inl row)), (h2_ten, .inl (cI, 4, .inl ten)), (h2_pha, .inl (cI, 4, .inl pha))]) (w1 := [(h2, .inr (2, [.ref h2_row, .ref h2_ten, .ref h2_pha, .int len, .int kep, .int wfi, .int wmo, .int hun])), (h2_row, .inl (cI, 240, .inl row)), (h2_ten, .inl (cI, 4, .inl ten)), (h2_pha, .inl (cI, 4, .inl pha))]) (w2 := [(h0, .inr (0, [.ref h0_cel, .int cls])), (h0_cel, .inl (cI, 160, .inl cel)), (h2, .inr (2, [.ref h2_row, .ref h2_ten, .ref h2_pha, .int len, .int kep, .int wfi, .int wmo, .int hun])), (h2_row, .inl (cI, 240, .inl row)), (h2_ten, .inl (cI, 4, .inl ten)), (h2_pha, .inl (cI, 4, .inl pha))]) (va_runV (As := []) (rest := [.int a3, .int a2, .ref h2, .ref h0]) ⟨hx, hb, hml, hown, hts⟩ (mX2_windowStart l D cI cO cJ h2 h2_row h2_ten h2_pha H.size row ten pha len kep wfi wmo hun _ hx1) (cwV 0 hts gX0_takeWindow_X2_windowStart rfl rfl rfl (by decide +kernel) ⟨Nat.le_of_ble_eq_true rfl, Nat.le_of_ble_eq_true rfl⟩) (pw_preV hK hN (pw_sub hP [2, 3, 4, 5] rfl) (pw_subD hD [2, 3, 4, 5] (by decide) rfl) (ci := 2) (q0 := 0) rfl rfl) rfl rfl hl.1 rfl (lv_room (Nat.le_of_ble_eq_true rfl)) dX0_takeWindow_5 ⟨Nat.zero_le _, Nat.zero_le _⟩) hP hD hS hA [2, 3, 4, 5] [0, 1] [0, 1, 2, 3, 4, 5] rfl rfl (by decide) (by decide) (by decide) rfl (fun H locs hP hD hS => ?_)
  refine lv_aload_n hx hb dX0_takeWindow_8 rfl (lv_at hl 1 rfl) ?_
  obtain ⟨x2, hx2, h⟩ := bnd h
  refine pw_goi (wc := [(h2, .inr (2, [.ref h2_row, .ref h2_ten, .ref h2_pha, .int len, .int kep, .int wfi, .int wmo, .int hun])), (h2_row, .inl (cI, 240, .inl row)), (h2_ten, .inl (cI, 4, .inl ten)), (h2_pha, .inl (cI, 4, .inl pha))]) (w1 := [(h2, .inr (2, [.ref h2_row, .ref h2_ten, .ref h2_pha, .int len, .int kep, .int wfi, .int wmo, .int hun])), (h2_row, .inl (cI, 240, .inl row)), (h2_ten, .inl (cI, 4, .inl ten)), (h2_pha, .inl (cI, 4, .inl pha))]) (w2 := [(h0, .inr (0, [.ref h0_cel, .int cls])), (h0_cel, .inl (cI, 160, .inl cel)), (h2, .inr (2, [.ref h2_row, .ref h2_ten, .ref h2_pha, .int len, .int kep, .int wfi, .int wmo, .int hun])), (h2_row, .inl (cI, 240, .inl row)), (h2_ten, .inl (cI, 4, .inl ten)), (h2_pha, .inl (cI, 4, .inl pha))]) (va_runV (As := []) (rest := [.int x1, .int a3, .int a2, .ref h2, .ref h0]) ⟨hx, hb, hml, hown, hts⟩ (mX2_windowPlaces l D cI cO cJ h2 h2_row h2_ten h2_pha H.size row ten pha len kep wfi wmo hun _ hx2) (cwV 0 hts gX0_takeWindow_X2_windowPlaces rfl rfl rfl (by decide +kernel) ⟨Nat.le_of_ble_eq_true rfl, Nat.le_of_ble_eq_true rfl⟩) (pw_preV hK hN (pw_sub hP [2, 3, 4, 5] rfl) (pw_subD hD [2, 3, 4, 5] (by decide) rfl) (ci := 2) (q0 := 0) rfl rfl) rfl rfl hl.1 rfl (lv_room (Nat.le_of_ble_eq_true rfl)) dX0_takeWindow_9 ⟨Nat.zero_le _, Nat.zero_le _⟩) hP hD hS hA [2, 3, 4, 5] [0, 1] [0, 1, 2, 3, 4, 5] rfl rfl (by decide) (by decide) (by decide) rfl (fun H locs hP hD hS => ?_)
  obtain ⟨⟨x3_1, x3_2⟩, hx3, h⟩ := bnd h
  refine pw_gov (wc := [(h0, .inr (0, [.ref h0_cel, .int cls])), (h0_cel, .inl (cI, 160, .inl cel)), (h2, .inr (2, [.ref h2_row, .ref h2_ten, .ref h2_pha, .int len, .int kep, .int wfi, .int wmo, .int hun])), (h2_row, .inl (cI, 240, .inl row)), (h2_ten, .inl (cI, 4, .inl ten)), (h2_pha, .inl (cI, 4, .inl pha))]) (w1 := [(h0, .inr (0, [.ref h0_cel, .int x3_2])), (h0_cel, .inl (cI, 160, .inl x3_1)), (h2, .inr (2, [.ref h2_row, .ref h2_ten, .ref h2_pha, .int len, .int kep, .int wfi, .int wmo, .int hun])), (h2_row, .inl (cI, 240, .inl row)), (h2_ten, .inl (cI, 4, .inl ten)), (h2_pha, .inl (cI, 4, .inl pha))]) (w2 := [(h0, .inr (0, [.ref h0_cel, .int x3_2])), (h0_cel, .inl (cI, 160, .inl x3_1)), (h2, .inr (2, [.ref h2_row, .ref h2_ten, .ref h2_pha, .int len, .int kep, .int wfi, .int wmo, .int hun])), (h2_row, .inl (cI, 240, .inl row)), (h2_ten, .inl (cI, 4, .inl ten)), (h2_pha, .inl (cI, 4, .inl pha))]) (va_runV (As := [.ref h2, .int a2, .int a3, .int x1, .int x2]) (rest := []) ⟨hx, hb, hml, hown, hts⟩ (mX0_takeStretch l D cI cO cJ h0 h0_cel h2 h2_row h2_ten h2_pha H.size cel cls row ten pha len kep wfi wmo hun a2 a3 x1 x2 _ hx3) (cwV 5 hts gX0_takeWindow_X0_takeStretch rfl rfl rfl (by decide +kernel) ⟨Nat.le_of_ble_eq_true rfl, Nat.le_of_ble_eq_true rfl⟩) (pw_preV hK hN (pw_sub hP [0, 1, 2, 3, 4, 5] rfl) (pw_subD hD [0, 1, 2, 3, 4, 5] (by decide) rfl) (ci := 0) (q0 := 0) rfl rfl) rfl rfl hl.1 rfl (lv_room (Nat.le_of_ble_eq_true rfl)) dX0_takeWindow_12 ⟨Nat.zero_le _, Nat.zero_le _⟩) hP hD hS hA [0, 1, 2, 3, 4, 5] [] [0, 1, 2, 3, 4, 5] rfl rfl (by decide) (by decide) (by decide) rfl (fun H locs hP hD hS => ?_)
  cases h
  exact pw_vret hx hb hr hlocks hAe hQ hP hD hS dX0_takeWindow_15
def fX0_takeKept (cel : Nat → Int32) (row : Nat → Int32) (ten : Nat → Int32) (pha : Nat → Int32) (len : Int32) (wfi : Int32) (wmo : Int32) (a2 : Int32) : Option ((Nat → Int32) × Int32) :=
  (fX2_tenthsAt ten a2).bind fun x1 =>
  (fX2_phaseAt pha a2).bind fun x2 =>
  (fX0_takeWindow cel row len wfi wmo x1 x2).bind fun (x3_1, x3_2) =>
  some (x3_1, x3_2)
abbrev rmX0_takeKept : Room := { frames := 3, cells := 0, slots := 0, locals := 74 }
set_option maxHeartbeats 4000000 in
set_option maxRecDepth 100000 in
theorem mX0_takeKept (l : Launch) (D : va_G) (cI cO cJ : ClassId) (h0 h0_cel h2 h2_row h2_ten h2_pha : Nat) (sz : Nat) (cel : Nat → Int32) (cls : Int32) (row : Nat → Int32) (ten : Nat → Int32) (pha : Nat → Int32) (len : Int32) (kep : Int32) (wfi : Int32) (wmo : Int32) (hun : Int32) (a2 : Int32) (z : (Nat → Int32) × Int32) (h : fX0_takeKept cel row ten pha len wfi wmo a2 = some z) : Met l yX0_takeKept wsX0_takeKept rmX0_takeKept (pw_pre D (tyL cI cO cJ) [.ref h0, .ref h2, .int a2] [(h0, .inr (0, [.ref h0_cel, .int cls])), (h0_cel, .inl (cI, 160, .inl cel)), (h2, .inr (2, [.ref h2_row, .ref h2_ten, .ref h2_pha, .int len, .int kep, .int wfi, .int wmo, .int hun])), (h2_row, .inl (cI, 240, .inl row)), (h2_ten, .inl (cI, 4, .inl ten)), (h2_pha, .inl (cI, 4, .inl pha))] sz) (pw_v D [(h0, .inr (0, [.ref h0_cel, .int cls])), (h0_cel, .inl (cI, 160, .inl cel)), (h2, .inr (2, [.ref h2_row, .ref h2_ten, .ref h2_pha, .int len, .int kep, .int wfi, .int wmo, .int hun])), (h2_row, .inl (cI, 240, .inl row)), (h2_ten, .inl (cI, 4, .inl ten)), (h2_pha, .inl (cI, 4, .inl pha))] [(h0, .inr (0, [.ref h0_cel, .int z.2])), (h0_cel, .inl (cI, 160, .inl z.1)), (h2, .inr (2, [.ref h2_row, .ref h2_ten, .ref h2_pha, .int len, .int kep, .int wfi, .int wmo, .int hun])), (h2_row, .inl (cI, 240, .inl row)), (h2_ten, .inl (cI, 4, .inl ten)), (h2_pha, .inl (cI, 4, .inl pha))] sz) 0 0 (va_A [(h0, .inr (0, [.ref h0_cel, .int cls])), (h0_cel, .inl (cI, 160, .inl cel)), (h2, .inr (2, [.ref h2_row, .ref h2_ten, .ref h2_pha, .int len, .int kep, .int wfi, .int wmo, .int hun])), (h2_row, .inl (cI, 240, .inl row)), (h2_ten, .inl (cI, 4, .inl ten)), (h2_pha, .inl (cI, 4, .inl pha))] sz) := by
  refine pw_of (Qc := fun sz => pw_v D [(h0, .inr (0, [.ref h0_cel, .int cls])), (h0_cel, .inl (cI, 160, .inl cel)), (h2, .inr (2, [.ref h2_row, .ref h2_ten, .ref h2_pha, .int len, .int kep, .int wfi, .int wmo, .int hun])), (h2_row, .inl (cI, 240, .inl row)), (h2_ten, .inl (cI, 4, .inl ten)), (h2_pha, .inl (cI, 4, .inl pha))] [(h0, .inr (0, [.ref h0_cel, .int z.2])), (h0_cel, .inl (cI, 160, .inl z.1)), (h2, .inr (2, [.ref h2_row, .ref h2_ten, .ref h2_pha, .int len, .int kep, .int wfi, .int wmo, .int hun])), (h2_row, .inl (cI, 240, .inl row)), (h2_ten, .inl (cI, 4, .inl ten)), (h2_pha, .inl (cI, 4, .inl pha))] sz) (cc := cX0_takeKept) (maxL := 3) (ret := none) (by decide) rfl (Nat.le_of_ble_eq_true rfl) ?_
  intro p e s m args below meth c A Q H ls hx hb hml hr hts hown hlocks hAe hQ hK hN hA hP hD hS hl
  have hown : s.vm.findClass RX0 = some m.cls := hown
  have hl : lv_has ls 3 [(0, .ref h0), (1, .ref h2), (2, .int a2)] := hl
  have hP : va_P D vwCl ([(h0, .inr (0, [.ref h0_cel, .int cls])), (h0_cel, .inl (cI, 160, .inl cel)), (h2, .inr (2, [.ref h2_row, .ref h2_ten, .ref h2_pha, .int len, .int kep, .int wfi, .int wmo, .int hun])), (h2_row, .inl (cI, 240, .inl row)), (h2_ten, .inl (cI, 4, .inl ten)), (h2_pha, .inl (cI, 4, .inl pha))] ++ []) H := hP
  have hD : va_D A ([(h0, .inr (0, [.ref h0_cel, .int cls])), (h0_cel, .inl (cI, 160, .inl cel)), (h2, .inr (2, [.ref h2_row, .ref h2_ten, .ref h2_pha, .int len, .int kep, .int wfi, .int wmo, .int hun])), (h2_row, .inl (cI, 240, .inl row)), (h2_ten, .inl (cI, 4, .inl ten)), (h2_pha, .inl (cI, 4, .inl pha))] ++ []) := hD
  unfold fX0_takeKept at h
  refine lv_aload_n hx hb dX0_takeKept_0 rfl (lv_at hl 0 rfl) ?_
  refine lv_aload_n hx hb dX0_takeKept_1 rfl (lv_at hl 1 rfl) ?_
  refine lv_aload_n hx hb dX0_takeKept_2 rfl (lv_at hl 1 rfl) ?_
  refine lv_iload_n hx hb dX0_takeKept_3 rfl (lv_at hl 2 rfl) ?_
  obtain ⟨x1, hx1, h⟩ := bnd h
  refine pw_goi (wc := [(h2, .inr (2, [.ref h2_row, .ref h2_ten, .ref h2_pha, .int len, .int kep, .int wfi, .int wmo, .int hun])), (h2_row, .inl (cI, 240, .inl row)), (h2_ten, .inl (cI, 4, .inl ten)), (h2_pha, .inl (cI, 4, .inl pha))]) (w1 := [(h2, .inr (2, [.ref h2_row, .ref h2_ten, .ref h2_pha, .int len, .int kep, .int wfi, .int wmo, .int hun])), (h2_row, .inl (cI, 240, .inl row)), (h2_ten, .inl (cI, 4, .inl ten)), (h2_pha, .inl (cI, 4, .inl pha))]) (w2 := [(h0, .inr (0, [.ref h0_cel, .int cls])), (h0_cel, .inl (cI, 160, .inl cel)), (h2, .inr (2, [.ref h2_row, .ref h2_ten, .ref h2_pha, .int len, .int kep, .int wfi, .int wmo, .int hun])), (h2_row, .inl (cI, 240, .inl row)), (h2_ten, .inl (cI, 4, .inl ten)), (h2_pha, .inl (cI, 4, .inl pha))]) (va_runV (As := [.int a2]) (rest := [.ref h2, .ref h0]) ⟨hx, hb, hml, hown, hts⟩ (mX2_tenthsAt l D cI cO cJ h2 h2_row h2_ten h2_pha H.size row ten pha len kep wfi wmo hun a2 _ hx1) (cwV 1 hts gX0_takeKept_X2_tenthsAt rfl rfl rfl (by decide +kernel) ⟨Nat.le_of_ble_eq_true rfl, Nat.le_of_ble_eq_true rfl⟩) (pw_preV hK hN (pw_sub hP [2, 3, 4, 5] rfl) (pw_subD hD [2, 3, 4, 5] (by decide) rfl) (ci := 2) (q0 := 0) rfl rfl) rfl rfl hl.1 rfl (lv_room (Nat.le_of_ble_eq_true rfl)) dX0_takeKept_4 ⟨Nat.zero_le _, Nat.zero_le _⟩) hP hD hS hA [2, 3, 4, 5] [0, 1] [0, 1, 2, 3, 4, 5] rfl rfl (by decide) (by decide) (by decide) rfl (fun H locs hP hD hS => ?_)
  refine lv_aload_n hx hb dX0_takeKept_7 rfl (lv_at hl 1 rfl) ?_
  refine lv_iload_n hx hb dX0_takeKept_8 rfl (lv_at hl 2 rfl) ?_
  obtain ⟨x2, hx2, h⟩ := bnd h
  refine pw_goi (wc := [(h2, .inr (2, [.ref h2_row, .ref h2_ten, .ref h2_pha, .int len, .int kep, .int wfi, .int wmo, .int hun])), (h2_row, .inl (cI, 240, .inl row)), (h2_ten, .inl (cI, 4, .inl ten)), (h2_pha, .inl (cI, 4, .inl pha))]) (w1 := [(h2, .inr (2, [.ref h2_row, .ref h2_ten, .ref h2_pha, .int len, .int kep, .int wfi, .int wmo, .int hun])), (h2_row, .inl (cI, 240, .inl row)), (h2_ten, .inl (cI, 4, .inl ten)), (h2_pha, .inl (cI, 4, .inl pha))]) (w2 := [(h0, .inr (0, [.ref h0_cel, .int cls])), (h0_cel, .inl (cI, 160, .inl cel)), (h2, .inr (2, [.ref h2_row, .ref h2_ten, .ref h2_pha, .int len, .int kep, .int wfi, .int wmo, .int hun])), (h2_row, .inl (cI, 240, .inl row)), (h2_ten, .inl (cI, 4, .inl ten)), (h2_pha, .inl (cI, 4, .inl pha))]) (va_runV (As := [.int a2]) (rest := [.int x1, .ref h2, .ref h0]) ⟨hx, hb, hml, hown, hts⟩ (mX2_phaseAt l D cI cO cJ h2 h2_row h2_ten h2_pha H.size row ten pha len kep wfi wmo hun a2 _ hx2) (cwV 1 hts gX0_takeKept_X2_phaseAt rfl rfl rfl (by decide +kernel) ⟨Nat.le_of_ble_eq_true rfl, Nat.le_of_ble_eq_true rfl⟩) (pw_preV hK hN (pw_sub hP [2, 3, 4, 5] rfl) (pw_subD hD [2, 3, 4, 5] (by decide) rfl) (ci := 2) (q0 := 0) rfl rfl) rfl rfl hl.1 rfl (lv_room (Nat.le_of_ble_eq_true rfl)) dX0_takeKept_9 ⟨Nat.zero_le _, Nat.zero_le _⟩) hP hD hS hA [2, 3, 4, 5] [0, 1] [0, 1, 2, 3, 4, 5] rfl rfl (by decide) (by decide) (by decide) rfl (fun H locs hP hD hS => ?_)
  obtain ⟨⟨x3_1, x3_2⟩, hx3, h⟩ := bnd h
  refine pw_gov (wc := [(h0, .inr (0, [.ref h0_cel, .int cls])), (h0_cel, .inl (cI, 160, .inl cel)), (h2, .inr (2, [.ref h2_row, .ref h2_ten, .ref h2_pha, .int len, .int kep, .int wfi, .int wmo, .int hun])), (h2_row, .inl (cI, 240, .inl row)), (h2_ten, .inl (cI, 4, .inl ten)), (h2_pha, .inl (cI, 4, .inl pha))]) (w1 := [(h0, .inr (0, [.ref h0_cel, .int x3_2])), (h0_cel, .inl (cI, 160, .inl x3_1)), (h2, .inr (2, [.ref h2_row, .ref h2_ten, .ref h2_pha, .int len, .int kep, .int wfi, .int wmo, .int hun])), (h2_row, .inl (cI, 240, .inl row)), (h2_ten, .inl (cI, 4, .inl ten)), (h2_pha, .inl (cI, 4, .inl pha))]) (w2 := [(h0, .inr (0, [.ref h0_cel, .int x3_2])), (h0_cel, .inl (cI, 160, .inl x3_1)), (h2, .inr (2, [.ref h2_row, .ref h2_ten, .ref h2_pha, .int len, .int kep, .int wfi, .int wmo, .int hun])), (h2_row, .inl (cI, 240, .inl row)), (h2_ten, .inl (cI, 4, .inl ten)), (h2_pha, .inl (cI, 4, .inl pha))]) (va_runV (As := [.ref h2, .int x1, .int x2]) (rest := []) ⟨hx, hb, hml, hown, hts⟩ (mX0_takeWindow l D cI cO cJ h0 h0_cel h2 h2_row h2_ten h2_pha H.size cel cls row ten pha len kep wfi wmo hun x1 x2 _ hx3) (cwV 3 hts gX0_takeKept_X0_takeWindow rfl rfl rfl (by decide +kernel) ⟨Nat.le_of_ble_eq_true rfl, Nat.le_of_ble_eq_true rfl⟩) (pw_preV hK hN (pw_sub hP [0, 1, 2, 3, 4, 5] rfl) (pw_subD hD [0, 1, 2, 3, 4, 5] (by decide) rfl) (ci := 0) (q0 := 0) rfl rfl) rfl rfl hl.1 rfl (lv_room (Nat.le_of_ble_eq_true rfl)) dX0_takeKept_12 ⟨Nat.zero_le _, Nat.zero_le _⟩) hP hD hS hA [0, 1, 2, 3, 4, 5] [] [0, 1, 2, 3, 4, 5] rfl rfl (by decide) (by decide) (by decide) rfl (fun H locs hP hD hS => ?_)
  cases h
  exact pw_vret hx hb hr hlocks hAe hQ hP hD hS dX0_takeKept_15
def fX0_countOf (cel : Nat → Int32) (a1 : Int32) (a2 : Int32) : Option Int32 :=
  if ((a1 * 4) + a2) < 0 then
  some (-1)
  else
  if 160 ≤ ((a1 * 4) + a2) then
  some (-1)
  else
  if oob ((a1 * 4) + a2) 160 then none else
  some (cel (((a1 * 4) + a2)).toNatClampNeg)
abbrev rmX0_countOf : Room := { frames := 0, cells := 0, slots := 0, locals := 0 }
set_option maxHeartbeats 4000000 in
set_option maxRecDepth 100000 in
theorem mX0_countOf (l : Launch) (D : va_G) (cI cO cJ : ClassId) (h0 h0_cel : Nat) (sz : Nat) (cel : Nat → Int32) (cls : Int32) (a1 : Int32) (a2 : Int32) (z : Int32) (h : fX0_countOf cel a1 a2 = some z) : Met l yX0_countOf wsX0_countOf rmX0_countOf (pw_pre D (tyL cI cO cJ) [.ref h0, .int a1, .int a2] [(h0, .inr (0, [.ref h0_cel, .int cls])), (h0_cel, .inl (cI, 160, .inl cel))] sz) (pw_i D [(h0, .inr (0, [.ref h0_cel, .int cls])), (h0_cel, .inl (cI, 160, .inl cel))] [(h0, .inr (0, [.ref h0_cel, .int cls])), (h0_cel, .inl (cI, 160, .inl cel))] z sz) 0 0 (va_A [(h0, .inr (0, [.ref h0_cel, .int cls])), (h0_cel, .inl (cI, 160, .inl cel))] sz) := by
  refine pw_of (Qc := fun sz => pw_i D [(h0, .inr (0, [.ref h0_cel, .int cls])), (h0_cel, .inl (cI, 160, .inl cel))] [(h0, .inr (0, [.ref h0_cel, .int cls])), (h0_cel, .inl (cI, 160, .inl cel))] z sz) (cc := cX0_countOf) (maxL := 4) (ret := (some .int)) (by decide) rfl (Nat.le_of_ble_eq_true rfl) ?_
  intro p e s m args below meth c A Q H ls hx hb hml hr hts hown hlocks hAe hQ hK hN hA hP hD hS hl
  have hown : s.vm.findClass RX0 = some m.cls := hown
  have hl : lv_has ls 4 [(0, .ref h0), (1, .int a1), (2, .int a2)] := hl
  have hP : va_P D vwCl ([(h0, .inr (0, [.ref h0_cel, .int cls])), (h0_cel, .inl (cI, 160, .inl cel))] ++ []) H := hP
  have hD : va_D A ([(h0, .inr (0, [.ref h0_cel, .int cls])), (h0_cel, .inl (cI, 160, .inl cel))] ++ []) := hD
  have iX0 : ∀ w ∈ u_ws RX0 TX0 2, w ∈ wsX0_countOf := fun _ h => List.mem_cons_of_mem _ (List.mem_append_right _ h)
  unfold fX0_countOf at h
  refine lv_iload_n hx hb dX0_countOf_0 rfl (lv_at hl 1 rfl) ?_
  refine lv_iconst (v := 4) hx hb dX0_countOf_1 (by decide) ?_
  refine lv_imul hx hb dX0_countOf_2 ?_
  refine lv_iload_n hx hb dX0_countOf_3 rfl (lv_at hl 2 rfl) ?_
  refine lv_iadd hx hb dX0_countOf_4 ?_
  refine lv_istore_n (lv' := [(3, .int ((a1 * 4) + a2)), (0, .ref h0), (1, .int a1), (2, .int a2)]) hx hb dX0_countOf_5 rfl hl (by decide) rfl (fun ls hl => ?_)
  refine lv_iload_n hx hb dX0_countOf_6 rfl (lv_at hl 0 rfl) ?_
  refine lv_if_lt (tgt := 28) hx hb dX0_countOf_7 (by decide) (fun cq => ?_) (fun cq => ?_)
  · replace h := ifp cq h
    refine lv_iconst (v := (-1)) hx hb dX0_countOf_28 (by decide) ?_
    cases h
    exact pw_iret hx hb hr hlocks hAe hQ hP hD hS dX0_countOf_29
  · replace h := ifn cq h
    refine lv_iload_n hx hb dX0_countOf_10 rfl (lv_at hl 0 rfl) ?_
    refine lv_aload_n hx hb dX0_countOf_11 rfl (lv_at hl 1 rfl) ?_
    refine va_get (D := D) (ci := 0) (v := .ref h0_cel) (C := RX0) (T := TX0) (N := 2) hx hb hts iX0 hown hK hP 0 rfl rfl 0 (by decide) (hts (.fieldLink RX0 9 "HiddenPeriods$Counts" "cells" "[I") (by decide +kernel)) (fun _ h9 => h9) rfl dX0_countOf_12 ?_
    refine va_alen (v := 160) hx hb hK hP 1 0 rfl rfl rfl dX0_countOf_15 ?_
    refine lv_icmp_ge (tgt := 28) hx hb dX0_countOf_16 (by decide) (fun cq => ?_) (fun cq => ?_)
    · replace h := ifp cq h
      refine lv_iconst (v := (-1)) hx hb dX0_countOf_28 (by decide) ?_
      cases h
      exact pw_iret hx hb hr hlocks hAe hQ hP hD hS dX0_countOf_29
    · replace h := ifn cq h
      refine lv_aload_n hx hb dX0_countOf_19 rfl (lv_at hl 1 rfl) ?_
      refine va_get (D := D) (ci := 0) (v := .ref h0_cel) (C := RX0) (T := TX0) (N := 2) hx hb hts iX0 hown hK hP 0 rfl rfl 0 (by decide) (hts (.fieldLink RX0 9 "HiddenPeriods$Counts" "cells" "[I") (by decide +kernel)) (fun _ h9 => h9) rfl dX0_countOf_20 ?_
      refine lv_iload_n hx hb dX0_countOf_23 rfl (lv_at hl 0 rfl) ?_
      obtain ⟨g1, h⟩ := gdn h
      refine va_iald hx hb hK hP 1 0 rfl rfl g1 dX0_countOf_24 ?_
      refine lv_goto (tgt := 29) hx hb dX0_countOf_25 (by decide) ?_
      cases h
      exact pw_iret hx hb hr hlocks hAe hQ hP hD hS dX0_countOf_29
def fX0_signOf_L7 (cel : Nat → Int32) (a1 : Int32) : Nat → Int32 → Int32 → Int32 → Option Int32
  | 0, _, _, _ => none
  | n + 1, v2_7, v3_7, v4_7 =>
    if 4 ≤ v4_7 then
    some v2_7
    else
    (fX0_countOf cel a1 v4_7).bind fun x1 =>
    if x1 ≤ v3_7 then
    fX0_signOf_L7 cel a1 n v2_7 v3_7 (v4_7 + 1)
    else
    fX0_signOf_L7 cel a1 n v4_7 x1 (v4_7 + 1)
def fX0_signOf (cel : Nat → Int32) (a1 : Int32) : Option Int32 :=
  (fX0_signOf_L7 cel a1 FU (-1) 0 0).bind fun x2 =>
  some x2
abbrev rmX0_signOf : Room := { frames := 1, cells := 0, slots := 0, locals := 23 }
set_option maxHeartbeats 4000000 in
set_option maxRecDepth 100000 in
theorem mX0_signOf (l : Launch) (D : va_G) (cI cO cJ : ClassId) (h0 h0_cel : Nat) (sz : Nat) (cel : Nat → Int32) (cls : Int32) (a1 : Int32) (z : Int32) (h : fX0_signOf cel a1 = some z) : Met l yX0_signOf wsX0_signOf rmX0_signOf (pw_pre D (tyL cI cO cJ) [.ref h0, .int a1] [(h0, .inr (0, [.ref h0_cel, .int cls])), (h0_cel, .inl (cI, 160, .inl cel))] sz) (pw_i D [(h0, .inr (0, [.ref h0_cel, .int cls])), (h0_cel, .inl (cI, 160, .inl cel))] [(h0, .inr (0, [.ref h0_cel, .int cls])), (h0_cel, .inl (cI, 160, .inl cel))] z sz) 0 0 (va_A [(h0, .inr (0, [.ref h0_cel, .int cls])), (h0_cel, .inl (cI, 160, .inl cel))] sz) := by
  refine pw_of (Qc := fun sz => pw_i D [(h0, .inr (0, [.ref h0_cel, .int cls])), (h0_cel, .inl (cI, 160, .inl cel))] [(h0, .inr (0, [.ref h0_cel, .int cls])), (h0_cel, .inl (cI, 160, .inl cel))] z sz) (cc := cX0_signOf) (maxL := 6) (ret := (some .int)) (by decide) rfl (Nat.le_of_ble_eq_true rfl) ?_
  intro p e s m args below meth c A Q H ls hx hb hml hr hts hown hlocks hAe hQ hK hN hA hP hD hS hl
  have hown : s.vm.findClass RX0 = some m.cls := hown
  have hl : lv_has ls 6 [(0, .ref h0), (1, .int a1)] := hl
  have hP : va_P D vwCl ([(h0, .inr (0, [.ref h0_cel, .int cls])), (h0_cel, .inl (cI, 160, .inl cel))] ++ []) H := hP
  have hD : va_D A ([(h0, .inr (0, [.ref h0_cel, .int cls])), (h0_cel, .inl (cI, 160, .inl cel))] ++ []) := hD
  unfold fX0_signOf at h
  refine lv_iconst (v := (-1)) hx hb dX0_signOf_0 (by decide) ?_
  refine lv_istore_n (lv' := [(2, .int (-1)), (0, .ref h0), (1, .int a1)]) hx hb dX0_signOf_1 rfl hl (by decide) rfl (fun ls hl => ?_)
  refine lv_iconst (v := 0) hx hb dX0_signOf_2 (by decide) ?_
  refine lv_istore_n (lv' := [(3, .int 0), (2, .int (-1)), (0, .ref h0), (1, .int a1)]) hx hb dX0_signOf_3 rfl hl (by decide) rfl (fun ls hl => ?_)
  refine lv_iconst (v := 0) hx hb dX0_signOf_4 (by decide) ?_
  refine lv_istore (lv' := [(4, .int 0), (3, .int 0), (2, .int (-1)), (0, .ref h0), (1, .int a1)]) hx hb dX0_signOf_5 hl (by decide) rfl (fun ls hl => ?_)
  have L7 : ∀ (n : Nat) (v2_7 : Int32) (v3_7 : Int32) (v4_7 : Int32) (o7_1 : Int32) (H : Heap) (locs : List Loc) (ls : Array Slot), fX0_signOf_L7 cel a1 n v2_7 v3_7 v4_7 = some o7_1 → va_P D vwCl ([(h0, .inr (0, [.ref h0_cel, .int cls])), (h0_cel, .inl (cI, 160, .inl cel))] ++ []) H → va_D A ([(h0, .inr (0, [.ref h0_cel, .int cls])), (h0_cel, .inl (cI, 160, .inl cel))] ++ []) → va_S A s.heap H locs → lv_has ls 6 [(0, .ref h0), (1, .int a1), (2, .int v2_7), (3, .int v3_7), (4, .int v4_7)] → (∀ (H : Heap) (locs : List Loc) (ls : Array Slot), va_P D vwCl ([(h0, .inr (0, [.ref h0_cel, .int cls])), (h0_cel, .inl (cI, 160, .inl cel))] ++ []) H → va_D A ([(h0, .inr (0, [.ref h0_cel, .int cls])), (h0_cel, .inl (cI, 160, .inl cel))] ++ []) → va_S A s.heap H locs → lv_has ls 6 [(2, .int o7_1)] → W p l e rmX0_signOf s m args below meth c H locs 0 0 Q (F0 m 40 ls [])) → W p l e rmX0_signOf s m args below meth c H locs 0 0 Q (F0 m 7 ls []) := by
    intro n
    induction n with
    | zero =>
      intro v2_7 v3_7 v4_7 o7_1 H locs ls h
      rw [fX0_signOf_L7] at h
      cases h
    | succ n ih =>
      intro v2_7 v3_7 v4_7 o7_1 H locs ls h hP hD hS hl K
      rw [fX0_signOf_L7] at h
      refine lv_iload hx hb dX0_signOf_7 (lv_at hl 4 rfl) ?_
      refine lv_iconst (v := 4) hx hb dX0_signOf_9 (by decide) ?_
      refine lv_icmp_ge (tgt := 40) hx hb dX0_signOf_10 (by decide) (fun cq => ?_) (fun cq => ?_)
      · replace h := ifp cq h
        cases h
        exact K _ _ _ hP hD hS (lv_sub hl [2] rfl)
      · replace h := ifn cq h
        refine lv_aload_n hx hb dX0_signOf_13 rfl (lv_at hl 0 rfl) ?_
        refine lv_iload_n hx hb dX0_signOf_14 rfl (lv_at hl 1 rfl) ?_
        refine lv_iload hx hb dX0_signOf_15 (lv_at hl 4 rfl) ?_
        obtain ⟨x1, hx1, h⟩ := bnd h
        refine pw_goi (wc := [(h0, .inr (0, [.ref h0_cel, .int cls])), (h0_cel, .inl (cI, 160, .inl cel))]) (w1 := [(h0, .inr (0, [.ref h0_cel, .int cls])), (h0_cel, .inl (cI, 160, .inl cel))]) (w2 := [(h0, .inr (0, [.ref h0_cel, .int cls])), (h0_cel, .inl (cI, 160, .inl cel))]) (va_runV (As := [.int a1, .int v4_7]) (rest := []) ⟨hx, hb, hml, hown, hts⟩ (mX0_countOf l D cI cO cJ h0 h0_cel H.size cel cls a1 v4_7 _ hx1) (cwV 2 hts gX0_signOf_X0_countOf rfl rfl rfl (by decide +kernel) ⟨Nat.le_of_ble_eq_true rfl, Nat.le_of_ble_eq_true rfl⟩) (pw_preV hK hN (pw_sub hP [0, 1] rfl) (pw_subD hD [0, 1] (by decide) rfl) (ci := 0) (q0 := 0) rfl rfl) rfl rfl hl.1 rfl (lv_room (Nat.le_of_ble_eq_true rfl)) dX0_signOf_17 ⟨Nat.zero_le _, Nat.zero_le _⟩) hP hD hS hA [0, 1] [] [0, 1] rfl rfl (by decide) (by decide) (by decide) rfl (fun H locs hP hD hS => ?_)
        refine lv_istore (lv' := [(5, .int x1), (0, .ref h0), (1, .int a1), (2, .int v2_7), (3, .int v3_7), (4, .int v4_7)]) hx hb dX0_signOf_20 hl (by decide) rfl (fun ls hl => ?_)
        refine lv_iload hx hb dX0_signOf_22 (lv_at hl 0 rfl) ?_
        refine lv_iload_n hx hb dX0_signOf_24 rfl (lv_at hl 4 rfl) ?_
        refine lv_icmp_le (tgt := 34) hx hb dX0_signOf_25 (by decide) (fun cq => ?_) (fun cq => ?_)
        · replace h := ifp cq h
          refine lv_iinc (v := (v4_7 + 1)) (lv' := [(4, .int (v4_7 + 1)), (5, .int x1), (0, .ref h0), (1, .int a1), (2, .int v2_7), (3, .int v3_7)]) hx hb dX0_signOf_34 hl (k := 5) rfl rfl (by decide) rfl (fun ls hl => ?_)
          refine lv_goto (tgt := 7) hx hb dX0_signOf_37 (by decide) ?_
          exact ih _ _ _ _ _ _ _ h hP hD hS (lv_sub hl [2, 3, 4, 5, 0] rfl) K
        · replace h := ifn cq h
          refine lv_iload hx hb dX0_signOf_28 (lv_at hl 5 rfl) ?_
          refine lv_istore_n (lv' := [(2, .int v4_7), (5, .int x1), (0, .ref h0), (1, .int a1), (3, .int v3_7), (4, .int v4_7)]) hx hb dX0_signOf_30 rfl hl (by decide) rfl (fun ls hl => ?_)
          refine lv_iload hx hb dX0_signOf_31 (lv_at hl 1 rfl) ?_
          refine lv_istore_n (lv' := [(3, .int x1), (2, .int v4_7), (5, .int x1), (0, .ref h0), (1, .int a1), (4, .int v4_7)]) hx hb dX0_signOf_33 rfl hl (by decide) rfl (fun ls hl => ?_)
          refine lv_iinc (v := (v4_7 + 1)) (lv' := [(4, .int (v4_7 + 1)), (3, .int x1), (2, .int v4_7), (5, .int x1), (0, .ref h0), (1, .int a1)]) hx hb dX0_signOf_34 hl (k := 5) rfl rfl (by decide) rfl (fun ls hl => ?_)
          refine lv_goto (tgt := 7) hx hb dX0_signOf_37 (by decide) ?_
          exact ih _ _ _ _ _ _ _ h hP hD hS (lv_sub hl [4, 5, 2, 1, 0] rfl) K
  obtain ⟨x2, hx2, h⟩ := bnd h
  refine L7 FU _ _ _ _ _ _ _ hx2 hP hD hS (lv_sub hl [3, 4, 2, 1, 0] rfl) (fun H locs ls hP hD hS hl => ?_)
  refine lv_iload_n hx hb dX0_signOf_40 rfl (lv_at hl 0 rfl) ?_
  cases h
  exact pw_iret hx hb hr hlocks hAe hQ hP hD hS dX0_signOf_41
def fX0_lookedAt (cel : Nat → Int32) (a1 : Int32) (a2 : Int32) : Option Int32 :=
  if 4 ≤ a2 then
  (fX0_signOf cel a1).bind fun x1 =>
  some x1
  else
  (fX0_countOf cel a1 a2).bind fun x2 =>
  some x2
abbrev rmX0_lookedAt : Room := { frames := 2, cells := 0, slots := 0, locals := 48 }
set_option maxHeartbeats 4000000 in
set_option maxRecDepth 100000 in
theorem mX0_lookedAt (l : Launch) (D : va_G) (cI cO cJ : ClassId) (h0 h0_cel : Nat) (sz : Nat) (cel : Nat → Int32) (cls : Int32) (a1 : Int32) (a2 : Int32) (z : Int32) (h : fX0_lookedAt cel a1 a2 = some z) : Met l yX0_lookedAt wsX0_lookedAt rmX0_lookedAt (pw_pre D (tyL cI cO cJ) [.ref h0, .int a1, .int a2] [(h0, .inr (0, [.ref h0_cel, .int cls])), (h0_cel, .inl (cI, 160, .inl cel))] sz) (pw_i D [(h0, .inr (0, [.ref h0_cel, .int cls])), (h0_cel, .inl (cI, 160, .inl cel))] [(h0, .inr (0, [.ref h0_cel, .int cls])), (h0_cel, .inl (cI, 160, .inl cel))] z sz) 0 0 (va_A [(h0, .inr (0, [.ref h0_cel, .int cls])), (h0_cel, .inl (cI, 160, .inl cel))] sz) := by
  refine pw_of (Qc := fun sz => pw_i D [(h0, .inr (0, [.ref h0_cel, .int cls])), (h0_cel, .inl (cI, 160, .inl cel))] [(h0, .inr (0, [.ref h0_cel, .int cls])), (h0_cel, .inl (cI, 160, .inl cel))] z sz) (cc := cX0_lookedAt) (maxL := 3) (ret := (some .int)) (by decide) rfl (Nat.le_of_ble_eq_true rfl) ?_
  intro p e s m args below meth c A Q H ls hx hb hml hr hts hown hlocks hAe hQ hK hN hA hP hD hS hl
  have hown : s.vm.findClass RX0 = some m.cls := hown
  have hl : lv_has ls 3 [(0, .ref h0), (1, .int a1), (2, .int a2)] := hl
  have hP : va_P D vwCl ([(h0, .inr (0, [.ref h0_cel, .int cls])), (h0_cel, .inl (cI, 160, .inl cel))] ++ []) H := hP
  have hD : va_D A ([(h0, .inr (0, [.ref h0_cel, .int cls])), (h0_cel, .inl (cI, 160, .inl cel))] ++ []) := hD
  unfold fX0_lookedAt at h
  refine lv_iload_n hx hb dX0_lookedAt_0 rfl (lv_at hl 2 rfl) ?_
  refine lv_iconst (v := 4) hx hb dX0_lookedAt_1 (by decide) ?_
  refine lv_icmp_ge (tgt := 14) hx hb dX0_lookedAt_2 (by decide) (fun cq => ?_) (fun cq => ?_)
  · replace h := ifp cq h
    refine lv_aload_n hx hb dX0_lookedAt_14 rfl (lv_at hl 0 rfl) ?_
    refine lv_iload_n hx hb dX0_lookedAt_15 rfl (lv_at hl 1 rfl) ?_
    obtain ⟨x1, hx1, h⟩ := bnd h
    refine pw_goi (wc := [(h0, .inr (0, [.ref h0_cel, .int cls])), (h0_cel, .inl (cI, 160, .inl cel))]) (w1 := [(h0, .inr (0, [.ref h0_cel, .int cls])), (h0_cel, .inl (cI, 160, .inl cel))]) (w2 := [(h0, .inr (0, [.ref h0_cel, .int cls])), (h0_cel, .inl (cI, 160, .inl cel))]) (va_runV (As := [.int a1]) (rest := []) ⟨hx, hb, hml, hown, hts⟩ (mX0_signOf l D cI cO cJ h0 h0_cel H.size cel cls a1 _ hx1) (cwV 1 hts gX0_lookedAt_X0_signOf rfl rfl rfl (by decide +kernel) ⟨Nat.le_of_ble_eq_true rfl, Nat.le_of_ble_eq_true rfl⟩) (pw_preV hK hN (pw_sub hP [0, 1] rfl) (pw_subD hD [0, 1] (by decide) rfl) (ci := 0) (q0 := 0) rfl rfl) rfl rfl hl.1 rfl (lv_room (Nat.le_of_ble_eq_true rfl)) dX0_lookedAt_16 ⟨Nat.zero_le _, Nat.zero_le _⟩) hP hD hS hA [0, 1] [] [0, 1] rfl rfl (by decide) (by decide) (by decide) rfl (fun H locs hP hD hS => ?_)
    cases h
    exact pw_iret hx hb hr hlocks hAe hQ hP hD hS dX0_lookedAt_19
  · replace h := ifn cq h
    refine lv_aload_n hx hb dX0_lookedAt_5 rfl (lv_at hl 0 rfl) ?_
    refine lv_iload_n hx hb dX0_lookedAt_6 rfl (lv_at hl 1 rfl) ?_
    refine lv_iload_n hx hb dX0_lookedAt_7 rfl (lv_at hl 2 rfl) ?_
    obtain ⟨x2, hx2, h⟩ := bnd h
    refine pw_goi (wc := [(h0, .inr (0, [.ref h0_cel, .int cls])), (h0_cel, .inl (cI, 160, .inl cel))]) (w1 := [(h0, .inr (0, [.ref h0_cel, .int cls])), (h0_cel, .inl (cI, 160, .inl cel))]) (w2 := [(h0, .inr (0, [.ref h0_cel, .int cls])), (h0_cel, .inl (cI, 160, .inl cel))]) (va_runV (As := [.int a1, .int a2]) (rest := []) ⟨hx, hb, hml, hown, hts⟩ (mX0_countOf l D cI cO cJ h0 h0_cel H.size cel cls a1 a2 _ hx2) (cwV 2 hts gX0_lookedAt_X0_countOf rfl rfl rfl (by decide +kernel) ⟨Nat.le_of_ble_eq_true rfl, Nat.le_of_ble_eq_true rfl⟩) (pw_preV hK hN (pw_sub hP [0, 1] rfl) (pw_subD hD [0, 1] (by decide) rfl) (ci := 0) (q0 := 0) rfl rfl) rfl rfl hl.1 rfl (lv_room (Nat.le_of_ble_eq_true rfl)) dX0_lookedAt_8 ⟨Nat.zero_le _, Nat.zero_le _⟩) hP hD hS hA [0, 1] [] [0, 1] rfl rfl (by decide) (by decide) (by decide) rfl (fun H locs hP hD hS => ?_)
    refine lv_goto (tgt := 19) hx hb dX0_lookedAt_11 (by decide) ?_
    cases h
    exact pw_iret hx hb hr hlocks hAe hQ hP hD hS dX0_lookedAt_19
def fX0_greatestOf_L4 (cel : Nat → Int32) (a1 : Int32) : Nat → Int32 → Int32 → Option Int32
  | 0, _, _ => none
  | n + 1, v2_4, v3_4 =>
    if 4 ≤ v3_4 then
    some v2_4
    else
    (fX0_countOf cel a1 v3_4).bind fun x1 =>
    if x1 ≤ v2_4 then
    fX0_greatestOf_L4 cel a1 n v2_4 (v3_4 + 1)
    else
    fX0_greatestOf_L4 cel a1 n x1 (v3_4 + 1)
def fX0_greatestOf (cel : Nat → Int32) (a1 : Int32) : Option Int32 :=
  (fX0_greatestOf_L4 cel a1 FU 0 0).bind fun x2 =>
  some x2
abbrev rmX0_greatestOf : Room := { frames := 1, cells := 0, slots := 0, locals := 23 }
set_option maxHeartbeats 4000000 in
set_option maxRecDepth 100000 in
theorem mX0_greatestOf (l : Launch) (D : va_G) (cI cO cJ : ClassId) (h0 h0_cel : Nat) (sz : Nat) (cel : Nat → Int32) (cls : Int32) (a1 : Int32) (z : Int32) (h : fX0_greatestOf cel a1 = some z) : Met l yX0_greatestOf wsX0_greatestOf rmX0_greatestOf (pw_pre D (tyL cI cO cJ) [.ref h0, .int a1] [(h0, .inr (0, [.ref h0_cel, .int cls])), (h0_cel, .inl (cI, 160, .inl cel))] sz) (pw_i D [(h0, .inr (0, [.ref h0_cel, .int cls])), (h0_cel, .inl (cI, 160, .inl cel))] [(h0, .inr (0, [.ref h0_cel, .int cls])), (h0_cel, .inl (cI, 160, .inl cel))] z sz) 0 0 (va_A [(h0, .inr (0, [.ref h0_cel, .int cls])), (h0_cel, .inl (cI, 160, .inl cel))] sz) := by
  refine pw_of (Qc := fun sz => pw_i D [(h0, .inr (0, [.ref h0_cel, .int cls])), (h0_cel, .inl (cI, 160, .inl cel))] [(h0, .inr (0, [.ref h0_cel, .int cls])), (h0_cel, .inl (cI, 160, .inl cel))] z sz) (cc := cX0_greatestOf) (maxL := 5) (ret := (some .int)) (by decide) rfl (Nat.le_of_ble_eq_true rfl) ?_
  intro p e s m args below meth c A Q H ls hx hb hml hr hts hown hlocks hAe hQ hK hN hA hP hD hS hl
  have hown : s.vm.findClass RX0 = some m.cls := hown
  have hl : lv_has ls 5 [(0, .ref h0), (1, .int a1)] := hl
  have hP : va_P D vwCl ([(h0, .inr (0, [.ref h0_cel, .int cls])), (h0_cel, .inl (cI, 160, .inl cel))] ++ []) H := hP
  have hD : va_D A ([(h0, .inr (0, [.ref h0_cel, .int cls])), (h0_cel, .inl (cI, 160, .inl cel))] ++ []) := hD
  unfold fX0_greatestOf at h
  refine lv_iconst (v := 0) hx hb dX0_greatestOf_0 (by decide) ?_
  refine lv_istore_n (lv' := [(2, .int 0), (0, .ref h0), (1, .int a1)]) hx hb dX0_greatestOf_1 rfl hl (by decide) rfl (fun ls hl => ?_)
  refine lv_iconst (v := 0) hx hb dX0_greatestOf_2 (by decide) ?_
  refine lv_istore_n (lv' := [(3, .int 0), (2, .int 0), (0, .ref h0), (1, .int a1)]) hx hb dX0_greatestOf_3 rfl hl (by decide) rfl (fun ls hl => ?_)
  have L4 : ∀ (n : Nat) (v2_4 : Int32) (v3_4 : Int32) (o4_1 : Int32) (H : Heap) (locs : List Loc) (ls : Array Slot), fX0_greatestOf_L4 cel a1 n v2_4 v3_4 = some o4_1 → va_P D vwCl ([(h0, .inr (0, [.ref h0_cel, .int cls])), (h0_cel, .inl (cI, 160, .inl cel))] ++ []) H → va_D A ([(h0, .inr (0, [.ref h0_cel, .int cls])), (h0_cel, .inl (cI, 160, .inl cel))] ++ []) → va_S A s.heap H locs → lv_has ls 5 [(0, .ref h0), (1, .int a1), (2, .int v2_4), (3, .int v3_4)] → (∀ (H : Heap) (locs : List Loc) (ls : Array Slot), va_P D vwCl ([(h0, .inr (0, [.ref h0_cel, .int cls])), (h0_cel, .inl (cI, 160, .inl cel))] ++ []) H → va_D A ([(h0, .inr (0, [.ref h0_cel, .int cls])), (h0_cel, .inl (cI, 160, .inl cel))] ++ []) → va_S A s.heap H locs → lv_has ls 5 [(2, .int o4_1)] → W p l e rmX0_greatestOf s m args below meth c H locs 0 0 Q (F0 m 32 ls [])) → W p l e rmX0_greatestOf s m args below meth c H locs 0 0 Q (F0 m 4 ls []) := by
    intro n
    induction n with
    | zero =>
      intro v2_4 v3_4 o4_1 H locs ls h
      rw [fX0_greatestOf_L4] at h
      cases h
    | succ n ih =>
      intro v2_4 v3_4 o4_1 H locs ls h hP hD hS hl K
      rw [fX0_greatestOf_L4] at h
      refine lv_iload_n hx hb dX0_greatestOf_4 rfl (lv_at hl 3 rfl) ?_
      refine lv_iconst (v := 4) hx hb dX0_greatestOf_5 (by decide) ?_
      refine lv_icmp_ge (tgt := 32) hx hb dX0_greatestOf_6 (by decide) (fun cq => ?_) (fun cq => ?_)
      · replace h := ifp cq h
        cases h
        exact K _ _ _ hP hD hS (lv_sub hl [2] rfl)
      · replace h := ifn cq h
        refine lv_aload_n hx hb dX0_greatestOf_9 rfl (lv_at hl 0 rfl) ?_
        refine lv_iload_n hx hb dX0_greatestOf_10 rfl (lv_at hl 1 rfl) ?_
        refine lv_iload_n hx hb dX0_greatestOf_11 rfl (lv_at hl 3 rfl) ?_
        obtain ⟨x1, hx1, h⟩ := bnd h
        refine pw_goi (wc := [(h0, .inr (0, [.ref h0_cel, .int cls])), (h0_cel, .inl (cI, 160, .inl cel))]) (w1 := [(h0, .inr (0, [.ref h0_cel, .int cls])), (h0_cel, .inl (cI, 160, .inl cel))]) (w2 := [(h0, .inr (0, [.ref h0_cel, .int cls])), (h0_cel, .inl (cI, 160, .inl cel))]) (va_runV (As := [.int a1, .int v3_4]) (rest := []) ⟨hx, hb, hml, hown, hts⟩ (mX0_countOf l D cI cO cJ h0 h0_cel H.size cel cls a1 v3_4 _ hx1) (cwV 2 hts gX0_greatestOf_X0_countOf rfl rfl rfl (by decide +kernel) ⟨Nat.le_of_ble_eq_true rfl, Nat.le_of_ble_eq_true rfl⟩) (pw_preV hK hN (pw_sub hP [0, 1] rfl) (pw_subD hD [0, 1] (by decide) rfl) (ci := 0) (q0 := 0) rfl rfl) rfl rfl hl.1 rfl (lv_room (Nat.le_of_ble_eq_true rfl)) dX0_greatestOf_12 ⟨Nat.zero_le _, Nat.zero_le _⟩) hP hD hS hA [0, 1] [] [0, 1] rfl rfl (by decide) (by decide) (by decide) rfl (fun H locs hP hD hS => ?_)
        refine lv_istore (lv' := [(4, .int x1), (0, .ref h0), (1, .int a1), (2, .int v2_4), (3, .int v3_4)]) hx hb dX0_greatestOf_15 hl (by decide) rfl (fun ls hl => ?_)
        refine lv_iload hx hb dX0_greatestOf_17 (lv_at hl 0 rfl) ?_
        refine lv_iload_n hx hb dX0_greatestOf_19 rfl (lv_at hl 3 rfl) ?_
        refine lv_icmp_le (tgt := 26) hx hb dX0_greatestOf_20 (by decide) (fun cq => ?_) (fun cq => ?_)
        · replace h := ifp cq h
          refine lv_iinc (v := (v3_4 + 1)) (lv' := [(3, .int (v3_4 + 1)), (4, .int x1), (0, .ref h0), (1, .int a1), (2, .int v2_4)]) hx hb dX0_greatestOf_26 hl (k := 4) rfl rfl (by decide) rfl (fun ls hl => ?_)
          refine lv_goto (tgt := 4) hx hb dX0_greatestOf_29 (by decide) ?_
          exact ih _ _ _ _ _ _ h hP hD hS (lv_sub hl [2, 3, 4, 0] rfl) K
        · replace h := ifn cq h
          refine lv_iload hx hb dX0_greatestOf_23 (lv_at hl 0 rfl) ?_
          refine lv_istore_n (lv' := [(2, .int x1), (4, .int x1), (0, .ref h0), (1, .int a1), (3, .int v3_4)]) hx hb dX0_greatestOf_25 rfl hl (by decide) rfl (fun ls hl => ?_)
          refine lv_iinc (v := (v3_4 + 1)) (lv' := [(3, .int (v3_4 + 1)), (2, .int x1), (4, .int x1), (0, .ref h0), (1, .int a1)]) hx hb dX0_greatestOf_26 hl (k := 4) rfl rfl (by decide) rfl (fun ls hl => ?_)
          refine lv_goto (tgt := 4) hx hb dX0_greatestOf_29 (by decide) ?_
          exact ih _ _ _ _ _ _ h hP hD hS (lv_sub hl [3, 4, 1, 0] rfl) K
  obtain ⟨x2, hx2, h⟩ := bnd h
  refine L4 FU _ _ _ _ _ _ hx2 hP hD hS (lv_sub hl [2, 3, 1, 0] rfl) (fun H locs ls hP hD hS hl => ?_)
  refine lv_iload_n hx hb dX0_greatestOf_32 rfl (lv_at hl 0 rfl) ?_
  cases h
  exact pw_iret hx hb hr hlocks hAe hQ hP hD hS dX0_greatestOf_33
def fX0_explained_L4 (cel : Nat → Int32) (cls : Int32) : Nat → Int32 → Int32 → Option Int32
  | 0, _, _ => none
  | n + 1, v1_4, v2_4 =>
    if cls ≤ v2_4 then
    some v1_4
    else
    (fX0_greatestOf cel v2_4).bind fun x1 =>
    fX0_explained_L4 cel cls n (v1_4 + x1) (v2_4 + 1)
def fX0_explained (cel : Nat → Int32) (cls : Int32) : Option Int32 :=
  (fX0_explained_L4 cel cls FU 0 0).bind fun x2 =>
  some x2
abbrev rmX0_explained : Room := { frames := 2, cells := 0, slots := 0, locals := 47 }
set_option maxHeartbeats 4000000 in
set_option maxRecDepth 100000 in
theorem mX0_explained (l : Launch) (D : va_G) (cI cO cJ : ClassId) (h0 h0_cel : Nat) (sz : Nat) (cel : Nat → Int32) (cls : Int32) (z : Int32) (h : fX0_explained cel cls = some z) : Met l yX0_explained wsX0_explained rmX0_explained (pw_pre D (tyL cI cO cJ) [.ref h0] [(h0, .inr (0, [.ref h0_cel, .int cls])), (h0_cel, .inl (cI, 160, .inl cel))] sz) (pw_i D [(h0, .inr (0, [.ref h0_cel, .int cls])), (h0_cel, .inl (cI, 160, .inl cel))] [(h0, .inr (0, [.ref h0_cel, .int cls])), (h0_cel, .inl (cI, 160, .inl cel))] z sz) 0 0 (va_A [(h0, .inr (0, [.ref h0_cel, .int cls])), (h0_cel, .inl (cI, 160, .inl cel))] sz) := by
  refine pw_of (Qc := fun sz => pw_i D [(h0, .inr (0, [.ref h0_cel, .int cls])), (h0_cel, .inl (cI, 160, .inl cel))] [(h0, .inr (0, [.ref h0_cel, .int cls])), (h0_cel, .inl (cI, 160, .inl cel))] z sz) (cc := cX0_explained) (maxL := 3) (ret := (some .int)) (by decide) rfl (Nat.le_of_ble_eq_true rfl) ?_
  intro p e s m args below meth c A Q H ls hx hb hml hr hts hown hlocks hAe hQ hK hN hA hP hD hS hl
  have hown : s.vm.findClass RX0 = some m.cls := hown
  have hl : lv_has ls 3 [(0, .ref h0)] := hl
  have hP : va_P D vwCl ([(h0, .inr (0, [.ref h0_cel, .int cls])), (h0_cel, .inl (cI, 160, .inl cel))] ++ []) H := hP
  have hD : va_D A ([(h0, .inr (0, [.ref h0_cel, .int cls])), (h0_cel, .inl (cI, 160, .inl cel))] ++ []) := hD
  have iX0 : ∀ w ∈ u_ws RX0 TX0 2, w ∈ wsX0_explained := fun _ h => List.mem_cons_of_mem _ (List.mem_append_right _ h)
  unfold fX0_explained at h
  refine lv_iconst (v := 0) hx hb dX0_explained_0 (by decide) ?_
  refine lv_istore_n (lv' := [(1, .int 0), (0, .ref h0)]) hx hb dX0_explained_1 rfl hl (by decide) rfl (fun ls hl => ?_)
  refine lv_iconst (v := 0) hx hb dX0_explained_2 (by decide) ?_
  refine lv_istore_n (lv' := [(2, .int 0), (1, .int 0), (0, .ref h0)]) hx hb dX0_explained_3 rfl hl (by decide) rfl (fun ls hl => ?_)
  have L4 : ∀ (n : Nat) (v1_4 : Int32) (v2_4 : Int32) (o4_1 : Int32) (H : Heap) (locs : List Loc) (ls : Array Slot), fX0_explained_L4 cel cls n v1_4 v2_4 = some o4_1 → va_P D vwCl ([(h0, .inr (0, [.ref h0_cel, .int cls])), (h0_cel, .inl (cI, 160, .inl cel))] ++ []) H → va_D A ([(h0, .inr (0, [.ref h0_cel, .int cls])), (h0_cel, .inl (cI, 160, .inl cel))] ++ []) → va_S A s.heap H locs → lv_has ls 3 [(0, .ref h0), (1, .int v1_4), (2, .int v2_4)] → (∀ (H : Heap) (locs : List Loc) (ls : Array Slot), va_P D vwCl ([(h0, .inr (0, [.ref h0_cel, .int cls])), (h0_cel, .inl (cI, 160, .inl cel))] ++ []) H → va_D A ([(h0, .inr (0, [.ref h0_cel, .int cls])), (h0_cel, .inl (cI, 160, .inl cel))] ++ []) → va_S A s.heap H locs → lv_has ls 3 [(1, .int o4_1)] → W p l e rmX0_explained s m args below meth c H locs 0 0 Q (F0 m 26 ls [])) → W p l e rmX0_explained s m args below meth c H locs 0 0 Q (F0 m 4 ls []) := by
    intro n
    induction n with
    | zero =>
      intro v1_4 v2_4 o4_1 H locs ls h
      rw [fX0_explained_L4] at h
      cases h
    | succ n ih =>
      intro v1_4 v2_4 o4_1 H locs ls h hP hD hS hl K
      rw [fX0_explained_L4] at h
      refine lv_iload_n hx hb dX0_explained_4 rfl (lv_at hl 2 rfl) ?_
      refine lv_aload_n hx hb dX0_explained_5 rfl (lv_at hl 0 rfl) ?_
      refine va_get (D := D) (ci := 0) (v := .int cls) (C := RX0) (T := TX0) (N := 2) hx hb hts iX0 hown hK hP 0 rfl rfl 1 (by decide) (hts (.fieldLink RX0 48 "HiddenPeriods$Counts" "classes" "I") (by decide +kernel)) (fun _ h9 => h9) rfl dX0_explained_6 ?_
      refine lv_icmp_ge (tgt := 26) hx hb dX0_explained_9 (by decide) (fun cq => ?_) (fun cq => ?_)
      · replace h := ifp cq h
        cases h
        exact K _ _ _ hP hD hS (lv_sub hl [1] rfl)
      · replace h := ifn cq h
        refine lv_iload_n hx hb dX0_explained_12 rfl (lv_at hl 1 rfl) ?_
        refine lv_aload_n hx hb dX0_explained_13 rfl (lv_at hl 0 rfl) ?_
        refine lv_iload_n hx hb dX0_explained_14 rfl (lv_at hl 2 rfl) ?_
        obtain ⟨x1, hx1, h⟩ := bnd h
        refine pw_goi (wc := [(h0, .inr (0, [.ref h0_cel, .int cls])), (h0_cel, .inl (cI, 160, .inl cel))]) (w1 := [(h0, .inr (0, [.ref h0_cel, .int cls])), (h0_cel, .inl (cI, 160, .inl cel))]) (w2 := [(h0, .inr (0, [.ref h0_cel, .int cls])), (h0_cel, .inl (cI, 160, .inl cel))]) (va_runV (As := [.int v2_4]) (rest := [.int v1_4]) ⟨hx, hb, hml, hown, hts⟩ (mX0_greatestOf l D cI cO cJ h0 h0_cel H.size cel cls v2_4 _ hx1) (cwV 1 hts gX0_explained_X0_greatestOf rfl rfl rfl (by decide +kernel) ⟨Nat.le_of_ble_eq_true rfl, Nat.le_of_ble_eq_true rfl⟩) (pw_preV hK hN (pw_sub hP [0, 1] rfl) (pw_subD hD [0, 1] (by decide) rfl) (ci := 0) (q0 := 0) rfl rfl) rfl rfl hl.1 rfl (lv_room (Nat.le_of_ble_eq_true rfl)) dX0_explained_15 ⟨Nat.zero_le _, Nat.zero_le _⟩) hP hD hS hA [0, 1] [] [0, 1] rfl rfl (by decide) (by decide) (by decide) rfl (fun H locs hP hD hS => ?_)
        refine lv_iadd hx hb dX0_explained_18 ?_
        refine lv_istore_n (lv' := [(1, .int (v1_4 + x1)), (0, .ref h0), (2, .int v2_4)]) hx hb dX0_explained_19 rfl hl (by decide) rfl (fun ls hl => ?_)
        refine lv_iinc (v := (v2_4 + 1)) (lv' := [(2, .int (v2_4 + 1)), (1, .int (v1_4 + x1)), (0, .ref h0)]) hx hb dX0_explained_20 hl (k := 2) rfl rfl (by decide) rfl (fun ls hl => ?_)
        refine lv_goto (tgt := 4) hx hb dX0_explained_23 (by decide) ?_
        exact ih _ _ _ _ _ _ h hP hD hS (lv_sub hl [2, 1, 0] rfl) K
  obtain ⟨x2, hx2, h⟩ := bnd h
  refine L4 FU _ _ _ _ _ _ hx2 hP hD hS (lv_sub hl [2, 1, 0] rfl) (fun H locs ls hP hD hS hl => ?_)
  refine lv_iload_n hx hb dX0_explained_26 rfl (lv_at hl 0 rfl) ?_
  cases h
  exact pw_iret hx hb hr hlocks hAe hQ hP hD hS dX0_explained_27
def fX0_placesOf_L4 (cel : Nat → Int32) (a1 : Int32) : Nat → Int32 → Int32 → Option Int32
  | 0, _, _ => none
  | n + 1, v2_4, v3_4 =>
    if 4 ≤ v3_4 then
    some v2_4
    else
    (fX0_countOf cel a1 v3_4).bind fun x1 =>
    fX0_placesOf_L4 cel a1 n (v2_4 + x1) (v3_4 + 1)
def fX0_placesOf (cel : Nat → Int32) (a1 : Int32) : Option Int32 :=
  (fX0_placesOf_L4 cel a1 FU 0 0).bind fun x2 =>
  some x2
abbrev rmX0_placesOf : Room := { frames := 1, cells := 0, slots := 0, locals := 23 }
set_option maxHeartbeats 4000000 in
set_option maxRecDepth 100000 in
theorem mX0_placesOf (l : Launch) (D : va_G) (cI cO cJ : ClassId) (h0 h0_cel : Nat) (sz : Nat) (cel : Nat → Int32) (cls : Int32) (a1 : Int32) (z : Int32) (h : fX0_placesOf cel a1 = some z) : Met l yX0_placesOf wsX0_placesOf rmX0_placesOf (pw_pre D (tyL cI cO cJ) [.ref h0, .int a1] [(h0, .inr (0, [.ref h0_cel, .int cls])), (h0_cel, .inl (cI, 160, .inl cel))] sz) (pw_i D [(h0, .inr (0, [.ref h0_cel, .int cls])), (h0_cel, .inl (cI, 160, .inl cel))] [(h0, .inr (0, [.ref h0_cel, .int cls])), (h0_cel, .inl (cI, 160, .inl cel))] z sz) 0 0 (va_A [(h0, .inr (0, [.ref h0_cel, .int cls])), (h0_cel, .inl (cI, 160, .inl cel))] sz) := by
  refine pw_of (Qc := fun sz => pw_i D [(h0, .inr (0, [.ref h0_cel, .int cls])), (h0_cel, .inl (cI, 160, .inl cel))] [(h0, .inr (0, [.ref h0_cel, .int cls])), (h0_cel, .inl (cI, 160, .inl cel))] z sz) (cc := cX0_placesOf) (maxL := 4) (ret := (some .int)) (by decide) rfl (Nat.le_of_ble_eq_true rfl) ?_
  intro p e s m args below meth c A Q H ls hx hb hml hr hts hown hlocks hAe hQ hK hN hA hP hD hS hl
  have hown : s.vm.findClass RX0 = some m.cls := hown
  have hl : lv_has ls 4 [(0, .ref h0), (1, .int a1)] := hl
  have hP : va_P D vwCl ([(h0, .inr (0, [.ref h0_cel, .int cls])), (h0_cel, .inl (cI, 160, .inl cel))] ++ []) H := hP
  have hD : va_D A ([(h0, .inr (0, [.ref h0_cel, .int cls])), (h0_cel, .inl (cI, 160, .inl cel))] ++ []) := hD
  unfold fX0_placesOf at h
  refine lv_iconst (v := 0) hx hb dX0_placesOf_0 (by decide) ?_
  refine lv_istore_n (lv' := [(2, .int 0), (0, .ref h0), (1, .int a1)]) hx hb dX0_placesOf_1 rfl hl (by decide) rfl (fun ls hl => ?_)
  refine lv_iconst (v := 0) hx hb dX0_placesOf_2 (by decide) ?_
  refine lv_istore_n (lv' := [(3, .int 0), (2, .int 0), (0, .ref h0), (1, .int a1)]) hx hb dX0_placesOf_3 rfl hl (by decide) rfl (fun ls hl => ?_)
  have L4 : ∀ (n : Nat) (v2_4 : Int32) (v3_4 : Int32) (o4_1 : Int32) (H : Heap) (locs : List Loc) (ls : Array Slot), fX0_placesOf_L4 cel a1 n v2_4 v3_4 = some o4_1 → va_P D vwCl ([(h0, .inr (0, [.ref h0_cel, .int cls])), (h0_cel, .inl (cI, 160, .inl cel))] ++ []) H → va_D A ([(h0, .inr (0, [.ref h0_cel, .int cls])), (h0_cel, .inl (cI, 160, .inl cel))] ++ []) → va_S A s.heap H locs → lv_has ls 4 [(0, .ref h0), (1, .int a1), (2, .int v2_4), (3, .int v3_4)] → (∀ (H : Heap) (locs : List Loc) (ls : Array Slot), va_P D vwCl ([(h0, .inr (0, [.ref h0_cel, .int cls])), (h0_cel, .inl (cI, 160, .inl cel))] ++ []) H → va_D A ([(h0, .inr (0, [.ref h0_cel, .int cls])), (h0_cel, .inl (cI, 160, .inl cel))] ++ []) → va_S A s.heap H locs → lv_has ls 4 [(2, .int o4_1)] → W p l e rmX0_placesOf s m args below meth c H locs 0 0 Q (F0 m 24 ls [])) → W p l e rmX0_placesOf s m args below meth c H locs 0 0 Q (F0 m 4 ls []) := by
    intro n
    induction n with
    | zero =>
      intro v2_4 v3_4 o4_1 H locs ls h
      rw [fX0_placesOf_L4] at h
      cases h
    | succ n ih =>
      intro v2_4 v3_4 o4_1 H locs ls h hP hD hS hl K
      rw [fX0_placesOf_L4] at h
      refine lv_iload_n hx hb dX0_placesOf_4 rfl (lv_at hl 3 rfl) ?_
      refine lv_iconst (v := 4) hx hb dX0_placesOf_5 (by decide) ?_
      refine lv_icmp_ge (tgt := 24) hx hb dX0_placesOf_6 (by decide) (fun cq => ?_) (fun cq => ?_)
      · replace h := ifp cq h
        cases h
        exact K _ _ _ hP hD hS (lv_sub hl [2] rfl)
      · replace h := ifn cq h
        refine lv_iload_n hx hb dX0_placesOf_9 rfl (lv_at hl 2 rfl) ?_
        refine lv_aload_n hx hb dX0_placesOf_10 rfl (lv_at hl 0 rfl) ?_
        refine lv_iload_n hx hb dX0_placesOf_11 rfl (lv_at hl 1 rfl) ?_
        refine lv_iload_n hx hb dX0_placesOf_12 rfl (lv_at hl 3 rfl) ?_
        obtain ⟨x1, hx1, h⟩ := bnd h
        refine pw_goi (wc := [(h0, .inr (0, [.ref h0_cel, .int cls])), (h0_cel, .inl (cI, 160, .inl cel))]) (w1 := [(h0, .inr (0, [.ref h0_cel, .int cls])), (h0_cel, .inl (cI, 160, .inl cel))]) (w2 := [(h0, .inr (0, [.ref h0_cel, .int cls])), (h0_cel, .inl (cI, 160, .inl cel))]) (va_runV (As := [.int a1, .int v3_4]) (rest := [.int v2_4]) ⟨hx, hb, hml, hown, hts⟩ (mX0_countOf l D cI cO cJ h0 h0_cel H.size cel cls a1 v3_4 _ hx1) (cwV 2 hts gX0_placesOf_X0_countOf rfl rfl rfl (by decide +kernel) ⟨Nat.le_of_ble_eq_true rfl, Nat.le_of_ble_eq_true rfl⟩) (pw_preV hK hN (pw_sub hP [0, 1] rfl) (pw_subD hD [0, 1] (by decide) rfl) (ci := 0) (q0 := 0) rfl rfl) rfl rfl hl.1 rfl (lv_room (Nat.le_of_ble_eq_true rfl)) dX0_placesOf_13 ⟨Nat.zero_le _, Nat.zero_le _⟩) hP hD hS hA [0, 1] [] [0, 1] rfl rfl (by decide) (by decide) (by decide) rfl (fun H locs hP hD hS => ?_)
        refine lv_iadd hx hb dX0_placesOf_16 ?_
        refine lv_istore_n (lv' := [(2, .int (v2_4 + x1)), (0, .ref h0), (1, .int a1), (3, .int v3_4)]) hx hb dX0_placesOf_17 rfl hl (by decide) rfl (fun ls hl => ?_)
        refine lv_iinc (v := (v3_4 + 1)) (lv' := [(3, .int (v3_4 + 1)), (2, .int (v2_4 + x1)), (0, .ref h0), (1, .int a1)]) hx hb dX0_placesOf_18 hl (k := 3) rfl rfl (by decide) rfl (fun ls hl => ?_)
        refine lv_goto (tgt := 4) hx hb dX0_placesOf_21 (by decide) ?_
        exact ih _ _ _ _ _ _ h hP hD hS (lv_sub hl [2, 3, 1, 0] rfl) K
  obtain ⟨x2, hx2, h⟩ := bnd h
  refine L4 FU _ _ _ _ _ _ hx2 hP hD hS (lv_sub hl [2, 3, 1, 0] rfl) (fun H locs ls hP hD hS hl => ?_)
  refine lv_iload_n hx hb dX0_placesOf_24 rfl (lv_at hl 0 rfl) ?_
  cases h
  exact pw_iret hx hb hr hlocks hAe hQ hP hD hS dX0_placesOf_25
def fX0_strongSignOf (cel : Nat → Int32) (a1 : Int32) (a2 : Int32) : Option Int32 :=
  (fX0_greatestOf cel a1).bind fun x1 =>
  (fX0_placesOf cel a1).bind fun x2 =>
  (if (100 * x1) < (a2 * x2) then
  some 0
  else
  some 1 : Option Int32).bind fun x3 =>
  if x3 = 0 then
  some (-1)
  else
  (fX0_signOf cel a1).bind fun x4 =>
  some x4
abbrev rmX0_strongSignOf : Room := { frames := 2, cells := 0, slots := 0, locals := 48 }
set_option maxHeartbeats 4000000 in
set_option maxRecDepth 100000 in
theorem mX0_strongSignOf (l : Launch) (D : va_G) (cI cO cJ : ClassId) (h0 h0_cel : Nat) (sz : Nat) (cel : Nat → Int32) (cls : Int32) (a1 : Int32) (a2 : Int32) (z : Int32) (h : fX0_strongSignOf cel a1 a2 = some z) : Met l yX0_strongSignOf wsX0_strongSignOf rmX0_strongSignOf (pw_pre D (tyL cI cO cJ) [.ref h0, .int a1, .int a2] [(h0, .inr (0, [.ref h0_cel, .int cls])), (h0_cel, .inl (cI, 160, .inl cel))] sz) (pw_i D [(h0, .inr (0, [.ref h0_cel, .int cls])), (h0_cel, .inl (cI, 160, .inl cel))] [(h0, .inr (0, [.ref h0_cel, .int cls])), (h0_cel, .inl (cI, 160, .inl cel))] z sz) 0 0 (va_A [(h0, .inr (0, [.ref h0_cel, .int cls])), (h0_cel, .inl (cI, 160, .inl cel))] sz) := by
  refine pw_of (Qc := fun sz => pw_i D [(h0, .inr (0, [.ref h0_cel, .int cls])), (h0_cel, .inl (cI, 160, .inl cel))] [(h0, .inr (0, [.ref h0_cel, .int cls])), (h0_cel, .inl (cI, 160, .inl cel))] z sz) (cc := cX0_strongSignOf) (maxL := 4) (ret := (some .int)) (by decide) rfl (Nat.le_of_ble_eq_true rfl) ?_
  intro p e s m args below meth c A Q H ls hx hb hml hr hts hown hlocks hAe hQ hK hN hA hP hD hS hl
  have hown : s.vm.findClass RX0 = some m.cls := hown
  have hl : lv_has ls 4 [(0, .ref h0), (1, .int a1), (2, .int a2)] := hl
  have hP : va_P D vwCl ([(h0, .inr (0, [.ref h0_cel, .int cls])), (h0_cel, .inl (cI, 160, .inl cel))] ++ []) H := hP
  have hD : va_D A ([(h0, .inr (0, [.ref h0_cel, .int cls])), (h0_cel, .inl (cI, 160, .inl cel))] ++ []) := hD
  unfold fX0_strongSignOf at h
  refine lv_bipush (v := 100) hx hb dX0_strongSignOf_0 (by decide) ?_
  refine lv_aload_n hx hb dX0_strongSignOf_2 rfl (lv_at hl 0 rfl) ?_
  refine lv_iload_n hx hb dX0_strongSignOf_3 rfl (lv_at hl 1 rfl) ?_
  obtain ⟨x1, hx1, h⟩ := bnd h
  refine pw_goi (wc := [(h0, .inr (0, [.ref h0_cel, .int cls])), (h0_cel, .inl (cI, 160, .inl cel))]) (w1 := [(h0, .inr (0, [.ref h0_cel, .int cls])), (h0_cel, .inl (cI, 160, .inl cel))]) (w2 := [(h0, .inr (0, [.ref h0_cel, .int cls])), (h0_cel, .inl (cI, 160, .inl cel))]) (va_runV (As := [.int a1]) (rest := [.int 100]) ⟨hx, hb, hml, hown, hts⟩ (mX0_greatestOf l D cI cO cJ h0 h0_cel H.size cel cls a1 _ hx1) (cwV 1 hts gX0_strongSignOf_X0_greatestOf rfl rfl rfl (by decide +kernel) ⟨Nat.le_of_ble_eq_true rfl, Nat.le_of_ble_eq_true rfl⟩) (pw_preV hK hN (pw_sub hP [0, 1] rfl) (pw_subD hD [0, 1] (by decide) rfl) (ci := 0) (q0 := 0) rfl rfl) rfl rfl hl.1 rfl (lv_room (Nat.le_of_ble_eq_true rfl)) dX0_strongSignOf_4 ⟨Nat.zero_le _, Nat.zero_le _⟩) hP hD hS hA [0, 1] [] [0, 1] rfl rfl (by decide) (by decide) (by decide) rfl (fun H locs hP hD hS => ?_)
  refine lv_imul hx hb dX0_strongSignOf_7 ?_
  refine lv_iload_n hx hb dX0_strongSignOf_8 rfl (lv_at hl 2 rfl) ?_
  refine lv_aload_n hx hb dX0_strongSignOf_9 rfl (lv_at hl 0 rfl) ?_
  refine lv_iload_n hx hb dX0_strongSignOf_10 rfl (lv_at hl 1 rfl) ?_
  obtain ⟨x2, hx2, h⟩ := bnd h
  refine pw_goi (wc := [(h0, .inr (0, [.ref h0_cel, .int cls])), (h0_cel, .inl (cI, 160, .inl cel))]) (w1 := [(h0, .inr (0, [.ref h0_cel, .int cls])), (h0_cel, .inl (cI, 160, .inl cel))]) (w2 := [(h0, .inr (0, [.ref h0_cel, .int cls])), (h0_cel, .inl (cI, 160, .inl cel))]) (va_runV (As := [.int a1]) (rest := [.int a2, .int (100 * x1)]) ⟨hx, hb, hml, hown, hts⟩ (mX0_placesOf l D cI cO cJ h0 h0_cel H.size cel cls a1 _ hx2) (cwV 1 hts gX0_strongSignOf_X0_placesOf rfl rfl rfl (by decide +kernel) ⟨Nat.le_of_ble_eq_true rfl, Nat.le_of_ble_eq_true rfl⟩) (pw_preV hK hN (pw_sub hP [0, 1] rfl) (pw_subD hD [0, 1] (by decide) rfl) (ci := 0) (q0 := 0) rfl rfl) rfl rfl hl.1 rfl (lv_room (Nat.le_of_ble_eq_true rfl)) dX0_strongSignOf_11 ⟨Nat.zero_le _, Nat.zero_le _⟩) hP hD hS hA [0, 1] [] [0, 1] rfl rfl (by decide) (by decide) (by decide) rfl (fun H locs hP hD hS => ?_)
  refine lv_imul hx hb dX0_strongSignOf_14 ?_
  obtain ⟨x3, hx3, h⟩ := bnd h
  have Jx3 : ∀ (H : Heap) (locs : List Loc) (ls : Array Slot), va_P D vwCl ([(h0, .inr (0, [.ref h0_cel, .int cls])), (h0_cel, .inl (cI, 160, .inl cel))] ++ []) H → va_D A ([(h0, .inr (0, [.ref h0_cel, .int cls])), (h0_cel, .inl (cI, 160, .inl cel))] ++ []) → va_S A s.heap H locs → lv_has ls 4 [(0, .ref h0), (1, .int a1)] → W p l e rmX0_strongSignOf s m args below meth c H locs 0 0 Q (F0 m 23 ls [.int x3]) := by
    intro H locs ls hP hD hS hl
    refine lv_istore_n (lv' := [(3, .int x3), (0, .ref h0), (1, .int a1)]) hx hb dX0_strongSignOf_23 rfl hl (by decide) rfl (fun ls hl => ?_)
    refine lv_iload_n hx hb dX0_strongSignOf_24 rfl (lv_at hl 0 rfl) ?_
    refine lv_if_eq (tgt := 36) hx hb dX0_strongSignOf_25 (by decide) (fun cq => ?_) (fun cq => ?_)
    · replace h := ifp cq h
      refine lv_iconst (v := (-1)) hx hb dX0_strongSignOf_36 (by decide) ?_
      cases h
      exact pw_iret hx hb hr hlocks hAe hQ hP hD hS dX0_strongSignOf_37
    · replace h := ifn cq h
      refine lv_aload_n hx hb dX0_strongSignOf_28 rfl (lv_at hl 1 rfl) ?_
      refine lv_iload_n hx hb dX0_strongSignOf_29 rfl (lv_at hl 2 rfl) ?_
      obtain ⟨x4, hx4, h⟩ := bnd h
      refine pw_goi (wc := [(h0, .inr (0, [.ref h0_cel, .int cls])), (h0_cel, .inl (cI, 160, .inl cel))]) (w1 := [(h0, .inr (0, [.ref h0_cel, .int cls])), (h0_cel, .inl (cI, 160, .inl cel))]) (w2 := [(h0, .inr (0, [.ref h0_cel, .int cls])), (h0_cel, .inl (cI, 160, .inl cel))]) (va_runV (As := [.int a1]) (rest := []) ⟨hx, hb, hml, hown, hts⟩ (mX0_signOf l D cI cO cJ h0 h0_cel H.size cel cls a1 _ hx4) (cwV 1 hts gX0_strongSignOf_X0_signOf rfl rfl rfl (by decide +kernel) ⟨Nat.le_of_ble_eq_true rfl, Nat.le_of_ble_eq_true rfl⟩) (pw_preV hK hN (pw_sub hP [0, 1] rfl) (pw_subD hD [0, 1] (by decide) rfl) (ci := 0) (q0 := 0) rfl rfl) rfl rfl hl.1 rfl (lv_room (Nat.le_of_ble_eq_true rfl)) dX0_strongSignOf_30 ⟨Nat.zero_le _, Nat.zero_le _⟩) hP hD hS hA [0, 1] [] [0, 1] rfl rfl (by decide) (by decide) (by decide) rfl (fun H locs hP hD hS => ?_)
      refine lv_goto (tgt := 37) hx hb dX0_strongSignOf_33 (by decide) ?_
      cases h
      exact pw_iret hx hb hr hlocks hAe hQ hP hD hS dX0_strongSignOf_37
  replace h := hx3
  refine lv_icmp_lt (tgt := 22) hx hb dX0_strongSignOf_15 (by decide) (fun cq => ?_) (fun cq => ?_)
  · replace h := ifp cq h
    refine lv_iconst (v := 0) hx hb dX0_strongSignOf_22 (by decide) ?_
    cases h
    exact Jx3 _ _ _ hP hD hS (lv_sub hl [0, 1] rfl)
  · replace h := ifn cq h
    refine lv_iconst (v := 1) hx hb dX0_strongSignOf_18 (by decide) ?_
    refine lv_goto (tgt := 23) hx hb dX0_strongSignOf_19 (by decide) ?_
    cases h
    exact Jx3 _ _ _ hP hD hS (lv_sub hl [0, 1] rfl)
def fX0_strongClasses_L4 (cel : Nat → Int32) (cls : Int32) (a1 : Int32) : Nat → Int32 → Int32 → Option Int32
  | 0, _, _ => none
  | n + 1, v2_4, v3_4 =>
    if cls ≤ v3_4 then
    some v2_4
    else
    (fX0_strongSignOf cel v3_4 a1).bind fun x1 =>
    if x1 = (-1) then
    fX0_strongClasses_L4 cel cls a1 n v2_4 (v3_4 + 1)
    else
    fX0_strongClasses_L4 cel cls a1 n (v2_4 + 1) (v3_4 + 1)
def fX0_strongClasses (cel : Nat → Int32) (cls : Int32) (a1 : Int32) : Option Int32 :=
  (fX0_strongClasses_L4 cel cls a1 FU 0 0).bind fun x2 =>
  some x2
abbrev rmX0_strongClasses : Room := { frames := 3, cells := 0, slots := 0, locals := 71 }
set_option maxHeartbeats 4000000 in
set_option maxRecDepth 100000 in
theorem mX0_strongClasses (l : Launch) (D : va_G) (cI cO cJ : ClassId) (h0 h0_cel : Nat) (sz : Nat) (cel : Nat → Int32) (cls : Int32) (a1 : Int32) (z : Int32) (h : fX0_strongClasses cel cls a1 = some z) : Met l yX0_strongClasses wsX0_strongClasses rmX0_strongClasses (pw_pre D (tyL cI cO cJ) [.ref h0, .int a1] [(h0, .inr (0, [.ref h0_cel, .int cls])), (h0_cel, .inl (cI, 160, .inl cel))] sz) (pw_i D [(h0, .inr (0, [.ref h0_cel, .int cls])), (h0_cel, .inl (cI, 160, .inl cel))] [(h0, .inr (0, [.ref h0_cel, .int cls])), (h0_cel, .inl (cI, 160, .inl cel))] z sz) 0 0 (va_A [(h0, .inr (0, [.ref h0_cel, .int cls])), (h0_cel, .inl (cI, 160, .inl cel))] sz) := by
  refine pw_of (Qc := fun sz => pw_i D [(h0, .inr (0, [.ref h0_cel, .int cls])), (h0_cel, .inl (cI, 160, .inl cel))] [(h0, .inr (0, [.ref h0_cel, .int cls])), (h0_cel, .inl (cI, 160, .inl cel))] z sz) (cc := cX0_strongClasses) (maxL := 4) (ret := (some .int)) (by decide) rfl (Nat.le_of_ble_eq_true rfl) ?_
  intro p e s m args below meth c A Q H ls hx hb hml hr hts hown hlocks hAe hQ hK hN hA hP hD hS hl
  have hown : s.vm.findClass RX0 = some m.cls := hown
  have hl : lv_has ls 4 [(0, .ref h0), (1, .int a1)] := hl
  have hP : va_P D vwCl ([(h0, .inr (0, [.ref h0_cel, .int cls])), (h0_cel, .inl (cI, 160, .inl cel))] ++ []) H := hP
  have hD : va_D A ([(h0, .inr (0, [.ref h0_cel, .int cls])), (h0_cel, .inl (cI, 160, .inl cel))] ++ []) := hD
  have iX0 : ∀ w ∈ u_ws RX0 TX0 2, w ∈ wsX0_strongClasses := fun _ h => List.mem_cons_of_mem _ (List.mem_append_right _ h)
  unfold fX0_strongClasses at h
  refine lv_iconst (v := 0) hx hb dX0_strongClasses_0 (by decide) ?_
  refine lv_istore_n (lv' := [(2, .int 0), (0, .ref h0), (1, .int a1)]) hx hb dX0_strongClasses_1 rfl hl (by decide) rfl (fun ls hl => ?_)
  refine lv_iconst (v := 0) hx hb dX0_strongClasses_2 (by decide) ?_
  refine lv_istore_n (lv' := [(3, .int 0), (2, .int 0), (0, .ref h0), (1, .int a1)]) hx hb dX0_strongClasses_3 rfl hl (by decide) rfl (fun ls hl => ?_)
  have L4 : ∀ (n : Nat) (v2_4 : Int32) (v3_4 : Int32) (o4_1 : Int32) (H : Heap) (locs : List Loc) (ls : Array Slot), fX0_strongClasses_L4 cel cls a1 n v2_4 v3_4 = some o4_1 → va_P D vwCl ([(h0, .inr (0, [.ref h0_cel, .int cls])), (h0_cel, .inl (cI, 160, .inl cel))] ++ []) H → va_D A ([(h0, .inr (0, [.ref h0_cel, .int cls])), (h0_cel, .inl (cI, 160, .inl cel))] ++ []) → va_S A s.heap H locs → lv_has ls 4 [(0, .ref h0), (1, .int a1), (2, .int v2_4), (3, .int v3_4)] → (∀ (H : Heap) (locs : List Loc) (ls : Array Slot), va_P D vwCl ([(h0, .inr (0, [.ref h0_cel, .int cls])), (h0_cel, .inl (cI, 160, .inl cel))] ++ []) H → va_D A ([(h0, .inr (0, [.ref h0_cel, .int cls])), (h0_cel, .inl (cI, 160, .inl cel))] ++ []) → va_S A s.heap H locs → lv_has ls 4 [(2, .int o4_1)] → W p l e rmX0_strongClasses s m args below meth c H locs 0 0 Q (F0 m 31 ls [])) → W p l e rmX0_strongClasses s m args below meth c H locs 0 0 Q (F0 m 4 ls []) := by
    intro n
    induction n with
    | zero =>
      intro v2_4 v3_4 o4_1 H locs ls h
      rw [fX0_strongClasses_L4] at h
      cases h
    | succ n ih =>
      intro v2_4 v3_4 o4_1 H locs ls h hP hD hS hl K
      rw [fX0_strongClasses_L4] at h
      refine lv_iload_n hx hb dX0_strongClasses_4 rfl (lv_at hl 3 rfl) ?_
      refine lv_aload_n hx hb dX0_strongClasses_5 rfl (lv_at hl 0 rfl) ?_
      refine va_get (D := D) (ci := 0) (v := .int cls) (C := RX0) (T := TX0) (N := 2) hx hb hts iX0 hown hK hP 0 rfl rfl 1 (by decide) (hts (.fieldLink RX0 48 "HiddenPeriods$Counts" "classes" "I") (by decide +kernel)) (fun _ h9 => h9) rfl dX0_strongClasses_6 ?_
      refine lv_icmp_ge (tgt := 31) hx hb dX0_strongClasses_9 (by decide) (fun cq => ?_) (fun cq => ?_)
      · replace h := ifp cq h
        cases h
        exact K _ _ _ hP hD hS (lv_sub hl [2] rfl)
      · replace h := ifn cq h
        refine lv_aload_n hx hb dX0_strongClasses_12 rfl (lv_at hl 0 rfl) ?_
        refine lv_iload_n hx hb dX0_strongClasses_13 rfl (lv_at hl 3 rfl) ?_
        refine lv_iload_n hx hb dX0_strongClasses_14 rfl (lv_at hl 1 rfl) ?_
        obtain ⟨x1, hx1, h⟩ := bnd h
        refine pw_goi (wc := [(h0, .inr (0, [.ref h0_cel, .int cls])), (h0_cel, .inl (cI, 160, .inl cel))]) (w1 := [(h0, .inr (0, [.ref h0_cel, .int cls])), (h0_cel, .inl (cI, 160, .inl cel))]) (w2 := [(h0, .inr (0, [.ref h0_cel, .int cls])), (h0_cel, .inl (cI, 160, .inl cel))]) (va_runV (As := [.int v3_4, .int a1]) (rest := []) ⟨hx, hb, hml, hown, hts⟩ (mX0_strongSignOf l D cI cO cJ h0 h0_cel H.size cel cls v3_4 a1 _ hx1) (cwV 2 hts gX0_strongClasses_X0_strongSignOf rfl rfl rfl (by decide +kernel) ⟨Nat.le_of_ble_eq_true rfl, Nat.le_of_ble_eq_true rfl⟩) (pw_preV hK hN (pw_sub hP [0, 1] rfl) (pw_subD hD [0, 1] (by decide) rfl) (ci := 0) (q0 := 0) rfl rfl) rfl rfl hl.1 rfl (lv_room (Nat.le_of_ble_eq_true rfl)) dX0_strongClasses_15 ⟨Nat.zero_le _, Nat.zero_le _⟩) hP hD hS hA [0, 1] [] [0, 1] rfl rfl (by decide) (by decide) (by decide) rfl (fun H locs hP hD hS => ?_)
        refine lv_iconst (v := (-1)) hx hb dX0_strongClasses_18 (by decide) ?_
        refine lv_icmp_eq (tgt := 25) hx hb dX0_strongClasses_19 (by decide) (fun cq => ?_) (fun cq => ?_)
        · replace h := ifp cq h
          refine lv_iinc (v := (v3_4 + 1)) (lv' := [(3, .int (v3_4 + 1)), (0, .ref h0), (1, .int a1), (2, .int v2_4)]) hx hb dX0_strongClasses_25 hl (k := 3) rfl rfl (by decide) rfl (fun ls hl => ?_)
          refine lv_goto (tgt := 4) hx hb dX0_strongClasses_28 (by decide) ?_
          exact ih _ _ _ _ _ _ h hP hD hS (lv_sub hl [1, 2, 3, 0] rfl) K
        · replace h := ifn cq h
          refine lv_iinc (v := (v2_4 + 1)) (lv' := [(2, .int (v2_4 + 1)), (0, .ref h0), (1, .int a1), (3, .int v3_4)]) hx hb dX0_strongClasses_22 hl (k := 2) rfl rfl (by decide) rfl (fun ls hl => ?_)
          refine lv_iinc (v := (v3_4 + 1)) (lv' := [(3, .int (v3_4 + 1)), (2, .int (v2_4 + 1)), (0, .ref h0), (1, .int a1)]) hx hb dX0_strongClasses_25 hl (k := 3) rfl rfl (by decide) rfl (fun ls hl => ?_)
          refine lv_goto (tgt := 4) hx hb dX0_strongClasses_28 (by decide) ?_
          exact ih _ _ _ _ _ _ h hP hD hS (lv_sub hl [2, 3, 1, 0] rfl) K
  obtain ⟨x2, hx2, h⟩ := bnd h
  refine L4 FU _ _ _ _ _ _ hx2 hP hD hS (lv_sub hl [2, 3, 1, 0] rfl) (fun H locs ls hP hD hS hl => ?_)
  refine lv_iload_n hx hb dX0_strongClasses_31 rfl (lv_at hl 0 rfl) ?_
  cases h
  exact pw_iret hx hb hr hlocks hAe hQ hP hD hS dX0_strongClasses_32
def fX5_copyCells (f1 : Nat → Int32) (f2 : Nat → Int32) (n1 : Nat) (n2 : Nat) : Option (Nat → Int32) :=
  if ¬ (¬ (if (nI n2) < (nI n1) then (nI n2) else (nI n1)) < 0 ∧ (0 : Int32).toNatClampNeg + (if (nI n2) < (nI n1) then (nI n2) else (nI n1)).toNatClampNeg ≤ n1 ∧ (0 : Int32).toNatClampNeg + (if (nI n2) < (nI n1) then (nI n2) else (nI n1)).toNatClampNeg ≤ n2) then none else
  some (va_cpy f1 f2 (0 : Int32).toNatClampNeg (0 : Int32).toNatClampNeg (if (nI n2) < (nI n1) then (nI n2) else (nI n1)).toNatClampNeg)
abbrev rmX5_copyCells : Room := { frames := 1, cells := 0, slots := 0, locals := 40 }
set_option maxHeartbeats 4000000 in
set_option maxRecDepth 100000 in
theorem mX5_copyCells (l : Launch) (D : va_G) (cI cO cJ : ClassId) (q1 q2 : Nat) (sz : Nat) (f1 : Nat → Int32) (f2 : Nat → Int32) (n1 : Nat) (n2 : Nat) (z : Nat → Int32) (h : fX5_copyCells f1 f2 n1 n2 = some z) : Met l yX5_copyCells wsX5_copyCells rmX5_copyCells (pw_pre D (tyL cI cO cJ) [.ref q1, .ref q2] [(q1, .inl (cI, n1, .inl f1)), (q2, .inl (cI, n2, .inl f2))] sz) (pw_v D [(q1, .inl (cI, n1, .inl f1)), (q2, .inl (cI, n2, .inl f2))] [(q1, .inl (cI, n1, .inl f1)), (q2, .inl (cI, n2, .inl z))] sz) 0 0 (va_A [(q1, .inl (cI, n1, .inl f1)), (q2, .inl (cI, n2, .inl f2))] sz) := by
  refine pw_of (Qc := fun sz => pw_v D [(q1, .inl (cI, n1, .inl f1)), (q2, .inl (cI, n2, .inl f2))] [(q1, .inl (cI, n1, .inl f1)), (q2, .inl (cI, n2, .inl z))] sz) (cc := cX5_copyCells) (maxL := 2) (ret := none) (by decide) rfl (Nat.le_of_ble_eq_true rfl) ?_
  intro p e s m args below meth c A Q H ls hx hb hml hr hts hown hlocks hAe hQ hK hN hA hP hD hS hl
  have hown : s.vm.findClass RX5 = some m.cls := hown
  have hl : lv_has ls 2 [(0, .ref q1), (1, .ref q2)] := hl
  have hP : va_P D vwCl ([(q1, .inl (cI, n1, .inl f1)), (q2, .inl (cI, n2, .inl f2))] ++ []) H := hP
  have hD : va_D A ([(q1, .inl (cI, n1, .inl f1)), (q2, .inl (cI, n2, .inl f2))] ++ []) := hD
  unfold fX5_copyCells at h
  refine lv_aload_n hx hb dX5_copyCells_0 rfl (lv_at hl 0 rfl) ?_
  refine lv_iconst (v := 0) hx hb dX5_copyCells_1 (by decide) ?_
  refine lv_aload_n hx hb dX5_copyCells_2 rfl (lv_at hl 1 rfl) ?_
  refine lv_iconst (v := 0) hx hb dX5_copyCells_3 (by decide) ?_
  refine lv_aload_n hx hb dX5_copyCells_4 rfl (lv_at hl 0 rfl) ?_
  refine va_alen (v := (nI n1)) hx hb hK hP 0 0 rfl rfl rfl dX5_copyCells_5 ?_
  refine lv_aload_n hx hb dX5_copyCells_6 rfl (lv_at hl 1 rfl) ?_
  refine va_alen (v := (nI n2)) hx hb hK hP 1 0 rfl rfl rfl dX5_copyCells_7 ?_
  refine va_mmin hx hb (hml.trans hl.1.symm) hown (hts (.methodLink RX5 346 Lib.Math.min.name) (by decide +kernel)) (hts (.static Lib.Math.min.name) (by decide +kernel)) (hts (.initialized "java/lang/Math") (by decide +kernel)) (hts (.code Lib.Math.min.name Lib.Math.min.code 2 (some .int)) (by decide +kernel)) (Nat.le_of_ble_eq_true rfl) (Nat.le_of_ble_eq_true rfl) (Nat.zero_le _) (Nat.zero_le _) dX5_copyCells_8 ?_
  obtain ⟨g1, h⟩ := gdn h
  replace g1 := Decidable.not_not.mp g1
  refine va_copyi hx hb (hml.trans hl.1.symm) hown (hts (.methodLink RX5 349 arraycopyName) (by decide +kernel)) (hts (.native arraycopyName) (by decide +kernel)) (hts (.static arraycopyName) (by decide +kernel)) (hts (.initialized "java/lang/System") (by decide +kernel)) hK hP hD hS 0 1 0 0 rfl rfl rfl rfl rfl (by decide) (by decide) g1.1 g1.2.1 g1.2.2 (fun _ _ => rfl) (Nat.le_of_ble_eq_true rfl) (Nat.le_of_ble_eq_true rfl) dX5_copyCells_11 (fun H locs hP hD hS => ?_)
  have hP : va_P D vwCl ([(q1, .inl (cI, n1, .inl f1)), (q2, .inl (cI, n2, .inl (va_cpy f1 f2 (0 : Int32).toNatClampNeg (0 : Int32).toNatClampNeg (if (nI n2) < (nI n1) then (nI n2) else (nI n1)).toNatClampNeg)))] ++ []) H := hP
  have hD : va_D A ([(q1, .inl (cI, n1, .inl f1)), (q2, .inl (cI, n2, .inl (va_cpy f1 f2 (0 : Int32).toNatClampNeg (0 : Int32).toNatClampNeg (if (nI n2) < (nI n1) then (nI n2) else (nI n1)).toNatClampNeg)))] ++ []) := hD
  cases h
  exact pw_vret hx hb hr hlocks hAe hQ hP hD hS dX5_copyCells_14
def fX2_become (row : Nat → Int32) (ten : Nat → Int32) (pha : Nat → Int32) (orow : Nat → Int32) (oten : Nat → Int32) (opha : Nat → Int32) (olen : Int32) (okep : Int32) (owfi : Int32) (owmo : Int32) (ohun : Int32) : Option ((Nat → Int32) × (Nat → Int32) × (Nat → Int32) × Int32 × Int32 × Int32 × Int32 × Int32) :=
  (fX5_copyCells orow row 240 240).bind fun x1 =>
  (fX5_copyCells oten ten 4 4).bind fun x2 =>
  (fX5_copyCells opha pha 4 4).bind fun x3 =>
  some (x1, x2, x3, olen, okep, owfi, owmo, ohun)
abbrev rmX2_become : Room := { frames := 2, cells := 0, slots := 0, locals := 61 }
set_option maxHeartbeats 4000000 in
set_option maxRecDepth 100000 in
theorem mX2_become (l : Launch) (D : va_G) (cI cO cJ : ClassId) (h2 h2_row h2_ten h2_pha oh2 oh2_row oh2_ten oh2_pha : Nat) (sz : Nat) (row : Nat → Int32) (ten : Nat → Int32) (pha : Nat → Int32) (len : Int32) (kep : Int32) (wfi : Int32) (wmo : Int32) (hun : Int32) (orow : Nat → Int32) (oten : Nat → Int32) (opha : Nat → Int32) (olen : Int32) (okep : Int32) (owfi : Int32) (owmo : Int32) (ohun : Int32) (z : (Nat → Int32) × (Nat → Int32) × (Nat → Int32) × Int32 × Int32 × Int32 × Int32 × Int32) (h : fX2_become row ten pha orow oten opha olen okep owfi owmo ohun = some z) : Met l yX2_become wsX2_become rmX2_become (pw_pre D (tyL cI cO cJ) [.ref h2, .ref oh2] [(h2, .inr (2, [.ref h2_row, .ref h2_ten, .ref h2_pha, .int len, .int kep, .int wfi, .int wmo, .int hun])), (h2_row, .inl (cI, 240, .inl row)), (h2_ten, .inl (cI, 4, .inl ten)), (h2_pha, .inl (cI, 4, .inl pha)), (oh2, .inr (2, [.ref oh2_row, .ref oh2_ten, .ref oh2_pha, .int olen, .int okep, .int owfi, .int owmo, .int ohun])), (oh2_row, .inl (cI, 240, .inl orow)), (oh2_ten, .inl (cI, 4, .inl oten)), (oh2_pha, .inl (cI, 4, .inl opha))] sz) (pw_v D [(h2, .inr (2, [.ref h2_row, .ref h2_ten, .ref h2_pha, .int len, .int kep, .int wfi, .int wmo, .int hun])), (h2_row, .inl (cI, 240, .inl row)), (h2_ten, .inl (cI, 4, .inl ten)), (h2_pha, .inl (cI, 4, .inl pha)), (oh2, .inr (2, [.ref oh2_row, .ref oh2_ten, .ref oh2_pha, .int olen, .int okep, .int owfi, .int owmo, .int ohun])), (oh2_row, .inl (cI, 240, .inl orow)), (oh2_ten, .inl (cI, 4, .inl oten)), (oh2_pha, .inl (cI, 4, .inl opha))] [(h2, .inr (2, [.ref h2_row, .ref h2_ten, .ref h2_pha, .int z.2.2.2.1, .int z.2.2.2.2.1, .int z.2.2.2.2.2.1, .int z.2.2.2.2.2.2.1, .int z.2.2.2.2.2.2.2])), (h2_row, .inl (cI, 240, .inl z.1)), (h2_ten, .inl (cI, 4, .inl z.2.1)), (h2_pha, .inl (cI, 4, .inl z.2.2.1)), (oh2, .inr (2, [.ref oh2_row, .ref oh2_ten, .ref oh2_pha, .int olen, .int okep, .int owfi, .int owmo, .int ohun])), (oh2_row, .inl (cI, 240, .inl orow)), (oh2_ten, .inl (cI, 4, .inl oten)), (oh2_pha, .inl (cI, 4, .inl opha))] sz) 0 0 (va_A [(h2, .inr (2, [.ref h2_row, .ref h2_ten, .ref h2_pha, .int len, .int kep, .int wfi, .int wmo, .int hun])), (h2_row, .inl (cI, 240, .inl row)), (h2_ten, .inl (cI, 4, .inl ten)), (h2_pha, .inl (cI, 4, .inl pha)), (oh2, .inr (2, [.ref oh2_row, .ref oh2_ten, .ref oh2_pha, .int olen, .int okep, .int owfi, .int owmo, .int ohun])), (oh2_row, .inl (cI, 240, .inl orow)), (oh2_ten, .inl (cI, 4, .inl oten)), (oh2_pha, .inl (cI, 4, .inl opha))] sz) := by
  refine pw_of (Qc := fun sz => pw_v D [(h2, .inr (2, [.ref h2_row, .ref h2_ten, .ref h2_pha, .int len, .int kep, .int wfi, .int wmo, .int hun])), (h2_row, .inl (cI, 240, .inl row)), (h2_ten, .inl (cI, 4, .inl ten)), (h2_pha, .inl (cI, 4, .inl pha)), (oh2, .inr (2, [.ref oh2_row, .ref oh2_ten, .ref oh2_pha, .int olen, .int okep, .int owfi, .int owmo, .int ohun])), (oh2_row, .inl (cI, 240, .inl orow)), (oh2_ten, .inl (cI, 4, .inl oten)), (oh2_pha, .inl (cI, 4, .inl opha))] [(h2, .inr (2, [.ref h2_row, .ref h2_ten, .ref h2_pha, .int z.2.2.2.1, .int z.2.2.2.2.1, .int z.2.2.2.2.2.1, .int z.2.2.2.2.2.2.1, .int z.2.2.2.2.2.2.2])), (h2_row, .inl (cI, 240, .inl z.1)), (h2_ten, .inl (cI, 4, .inl z.2.1)), (h2_pha, .inl (cI, 4, .inl z.2.2.1)), (oh2, .inr (2, [.ref oh2_row, .ref oh2_ten, .ref oh2_pha, .int olen, .int okep, .int owfi, .int owmo, .int ohun])), (oh2_row, .inl (cI, 240, .inl orow)), (oh2_ten, .inl (cI, 4, .inl oten)), (oh2_pha, .inl (cI, 4, .inl opha))] sz) (cc := cX2_become) (maxL := 2) (ret := none) (by decide) rfl (Nat.le_of_ble_eq_true rfl) ?_
  intro p e s m args below meth c A Q H ls hx hb hml hr hts hown hlocks hAe hQ hK hN hA hP hD hS hl
  have hown : s.vm.findClass RX2 = some m.cls := hown
  have hl : lv_has ls 2 [(0, .ref h2), (1, .ref oh2)] := hl
  have hP : va_P D vwCl ([(h2, .inr (2, [.ref h2_row, .ref h2_ten, .ref h2_pha, .int len, .int kep, .int wfi, .int wmo, .int hun])), (h2_row, .inl (cI, 240, .inl row)), (h2_ten, .inl (cI, 4, .inl ten)), (h2_pha, .inl (cI, 4, .inl pha)), (oh2, .inr (2, [.ref oh2_row, .ref oh2_ten, .ref oh2_pha, .int olen, .int okep, .int owfi, .int owmo, .int ohun])), (oh2_row, .inl (cI, 240, .inl orow)), (oh2_ten, .inl (cI, 4, .inl oten)), (oh2_pha, .inl (cI, 4, .inl opha))] ++ []) H := hP
  have hD : va_D A ([(h2, .inr (2, [.ref h2_row, .ref h2_ten, .ref h2_pha, .int len, .int kep, .int wfi, .int wmo, .int hun])), (h2_row, .inl (cI, 240, .inl row)), (h2_ten, .inl (cI, 4, .inl ten)), (h2_pha, .inl (cI, 4, .inl pha)), (oh2, .inr (2, [.ref oh2_row, .ref oh2_ten, .ref oh2_pha, .int olen, .int okep, .int owfi, .int owmo, .int ohun])), (oh2_row, .inl (cI, 240, .inl orow)), (oh2_ten, .inl (cI, 4, .inl oten)), (oh2_pha, .inl (cI, 4, .inl opha))] ++ []) := hD
  have iX2 : ∀ w ∈ u_ws RX2 TX2 8, w ∈ wsX2_become := fun _ h => List.mem_cons_of_mem _ (List.mem_append_right _ h)
  unfold fX2_become at h
  refine lv_aload_n hx hb dX2_become_0 rfl (lv_at hl 1 rfl) ?_
  refine va_get (D := D) (ci := 2) (v := .ref oh2_row) (C := RX2) (T := TX2) (N := 8) hx hb hts iX2 hown hK hP 4 rfl rfl 0 (by decide) (hts (.fieldLink RX2 9 "HiddenPeriods$State" "row" "[I") (by decide +kernel)) (fun _ h9 => h9) rfl dX2_become_1 ?_
  refine lv_aload_n hx hb dX2_become_4 rfl (lv_at hl 0 rfl) ?_
  refine va_get (D := D) (ci := 2) (v := .ref h2_row) (C := RX2) (T := TX2) (N := 8) hx hb hts iX2 hown hK hP 0 rfl rfl 0 (by decide) (hts (.fieldLink RX2 9 "HiddenPeriods$State" "row" "[I") (by decide +kernel)) (fun _ h9 => h9) rfl dX2_become_5 ?_
  obtain ⟨x1, hx1, h⟩ := bnd h
  refine pw_gov (wc := [(oh2_row, .inl (cI, 240, .inl orow)), (h2_row, .inl (cI, 240, .inl row))]) (w1 := [(oh2_row, .inl (cI, 240, .inl orow)), (h2_row, .inl (cI, 240, .inl x1))]) (w2 := [(h2, .inr (2, [.ref h2_row, .ref h2_ten, .ref h2_pha, .int len, .int kep, .int wfi, .int wmo, .int hun])), (h2_row, .inl (cI, 240, .inl x1)), (h2_ten, .inl (cI, 4, .inl ten)), (h2_pha, .inl (cI, 4, .inl pha)), (oh2, .inr (2, [.ref oh2_row, .ref oh2_ten, .ref oh2_pha, .int olen, .int okep, .int owfi, .int owmo, .int ohun])), (oh2_row, .inl (cI, 240, .inl orow)), (oh2_ten, .inl (cI, 4, .inl oten)), (oh2_pha, .inl (cI, 4, .inl opha))]) (va_runSN (As := [.ref oh2_row, .ref h2_row]) (rest := []) ⟨hx, hb, hml, hown, hts⟩ (mX5_copyCells l D cI cO cJ oh2_row h2_row H.size orow row 240 240 _ hx1) ⟨va_cnB 2 hts gX2_become_X5_copyCells_n25 rfl rfl rfl (hN (.methodLinkNest RX2 25 yX5_copyCells "HiddenPeriods") (by decide +kernel)) (hts (.initialized RX5) (by decide +kernel)) (by decide +kernel) ⟨Nat.le_of_ble_eq_true rfl, Nat.le_of_ble_eq_true rfl⟩, (hts (.static yX5_copyCells) (by decide +kernel)), trivial⟩ (pw_preS hK hN (pw_sub hP [5, 1] rfl) (pw_subD hD [5, 1] (by decide) rfl)) rfl rfl hl.1 rfl (lv_room (Nat.le_of_ble_eq_true rfl)) dX2_become_8 ⟨Nat.zero_le _, Nat.zero_le _⟩) hP hD hS hA [5, 1] [0, 2, 3, 4, 6, 7] [0, 7, 1, 2, 3, 6, 4, 5] rfl rfl (by decide) (by decide) (by decide) rfl (fun H locs hP hD hS => ?_)
  refine lv_aload_n hx hb dX2_become_11 rfl (lv_at hl 1 rfl) ?_
  refine va_get (D := D) (ci := 2) (v := .ref oh2_ten) (C := RX2) (T := TX2) (N := 8) hx hb hts iX2 hown hK hP 4 rfl rfl 1 (by decide) (hts (.fieldLink RX2 15 "HiddenPeriods$State" "tenths" "[I") (by decide +kernel)) (fun _ h9 => h9) rfl dX2_become_12 ?_
  refine lv_aload_n hx hb dX2_become_15 rfl (lv_at hl 0 rfl) ?_
  refine va_get (D := D) (ci := 2) (v := .ref h2_ten) (C := RX2) (T := TX2) (N := 8) hx hb hts iX2 hown hK hP 0 rfl rfl 1 (by decide) (hts (.fieldLink RX2 15 "HiddenPeriods$State" "tenths" "[I") (by decide +kernel)) (fun _ h9 => h9) rfl dX2_become_16 ?_
  obtain ⟨x2, hx2, h⟩ := bnd h
  refine pw_gov (wc := [(oh2_ten, .inl (cI, 4, .inl oten)), (h2_ten, .inl (cI, 4, .inl ten))]) (w1 := [(oh2_ten, .inl (cI, 4, .inl oten)), (h2_ten, .inl (cI, 4, .inl x2))]) (w2 := [(h2, .inr (2, [.ref h2_row, .ref h2_ten, .ref h2_pha, .int len, .int kep, .int wfi, .int wmo, .int hun])), (h2_row, .inl (cI, 240, .inl x1)), (h2_ten, .inl (cI, 4, .inl x2)), (h2_pha, .inl (cI, 4, .inl pha)), (oh2, .inr (2, [.ref oh2_row, .ref oh2_ten, .ref oh2_pha, .int olen, .int okep, .int owfi, .int owmo, .int ohun])), (oh2_row, .inl (cI, 240, .inl orow)), (oh2_ten, .inl (cI, 4, .inl oten)), (oh2_pha, .inl (cI, 4, .inl opha))]) (va_runSN (As := [.ref oh2_ten, .ref h2_ten]) (rest := []) ⟨hx, hb, hml, hown, hts⟩ (mX5_copyCells l D cI cO cJ oh2_ten h2_ten H.size oten ten 4 4 _ hx2) ⟨va_cnB 2 hts gX2_become_X5_copyCells_n25 rfl rfl rfl (hN (.methodLinkNest RX2 25 yX5_copyCells "HiddenPeriods") (by decide +kernel)) (hts (.initialized RX5) (by decide +kernel)) (by decide +kernel) ⟨Nat.le_of_ble_eq_true rfl, Nat.le_of_ble_eq_true rfl⟩, (hts (.static yX5_copyCells) (by decide +kernel)), trivial⟩ (pw_preS hK hN (pw_sub hP [6, 2] rfl) (pw_subD hD [6, 2] (by decide) rfl)) rfl rfl hl.1 rfl (lv_room (Nat.le_of_ble_eq_true rfl)) dX2_become_19 ⟨Nat.zero_le _, Nat.zero_le _⟩) hP hD hS hA [6, 2] [0, 1, 3, 4, 5, 7] [0, 1, 7, 2, 3, 4, 6, 5] rfl rfl (by decide) (by decide) (by decide) rfl (fun H locs hP hD hS => ?_)
  refine lv_aload_n hx hb dX2_become_22 rfl (lv_at hl 1 rfl) ?_
  refine va_get (D := D) (ci := 2) (v := .ref oh2_pha) (C := RX2) (T := TX2) (N := 8) hx hb hts iX2 hown hK hP 4 rfl rfl 2 (by decide) (hts (.fieldLink RX2 18 "HiddenPeriods$State" "phases" "[I") (by decide +kernel)) (fun _ h9 => h9) rfl dX2_become_23 ?_
  refine lv_aload_n hx hb dX2_become_26 rfl (lv_at hl 0 rfl) ?_
  refine va_get (D := D) (ci := 2) (v := .ref h2_pha) (C := RX2) (T := TX2) (N := 8) hx hb hts iX2 hown hK hP 0 rfl rfl 2 (by decide) (hts (.fieldLink RX2 18 "HiddenPeriods$State" "phases" "[I") (by decide +kernel)) (fun _ h9 => h9) rfl dX2_become_27 ?_
  obtain ⟨x3, hx3, h⟩ := bnd h
  refine pw_gov (wc := [(oh2_pha, .inl (cI, 4, .inl opha)), (h2_pha, .inl (cI, 4, .inl pha))]) (w1 := [(oh2_pha, .inl (cI, 4, .inl opha)), (h2_pha, .inl (cI, 4, .inl x3))]) (w2 := [(h2, .inr (2, [.ref h2_row, .ref h2_ten, .ref h2_pha, .int len, .int kep, .int wfi, .int wmo, .int hun])), (h2_row, .inl (cI, 240, .inl x1)), (h2_ten, .inl (cI, 4, .inl x2)), (h2_pha, .inl (cI, 4, .inl x3)), (oh2, .inr (2, [.ref oh2_row, .ref oh2_ten, .ref oh2_pha, .int olen, .int okep, .int owfi, .int owmo, .int ohun])), (oh2_row, .inl (cI, 240, .inl orow)), (oh2_ten, .inl (cI, 4, .inl oten)), (oh2_pha, .inl (cI, 4, .inl opha))]) (va_runSN (As := [.ref oh2_pha, .ref h2_pha]) (rest := []) ⟨hx, hb, hml, hown, hts⟩ (mX5_copyCells l D cI cO cJ oh2_pha h2_pha H.size opha pha 4 4 _ hx3) ⟨va_cnB 2 hts gX2_become_X5_copyCells_n25 rfl rfl rfl (hN (.methodLinkNest RX2 25 yX5_copyCells "HiddenPeriods") (by decide +kernel)) (hts (.initialized RX5) (by decide +kernel)) (by decide +kernel) ⟨Nat.le_of_ble_eq_true rfl, Nat.le_of_ble_eq_true rfl⟩, (hts (.static yX5_copyCells) (by decide +kernel)), trivial⟩ (pw_preS hK hN (pw_sub hP [7, 3] rfl) (pw_subD hD [7, 3] (by decide) rfl)) rfl rfl hl.1 rfl (lv_room (Nat.le_of_ble_eq_true rfl)) dX2_become_30 ⟨Nat.zero_le _, Nat.zero_le _⟩) hP hD hS hA [7, 3] [0, 1, 2, 4, 5, 6] [0, 1, 2, 7, 3, 4, 5, 6] rfl rfl (by decide) (by decide) (by decide) rfl (fun H locs hP hD hS => ?_)
  refine lv_aload_n hx hb dX2_become_33 rfl (lv_at hl 0 rfl) ?_
  refine lv_aload_n hx hb dX2_become_34 rfl (lv_at hl 1 rfl) ?_
  refine va_get (D := D) (ci := 2) (v := .int olen) (C := RX2) (T := TX2) (N := 8) hx hb hts iX2 hown hK hP 4 rfl rfl 3 (by decide) (hts (.fieldLink RX2 29 "HiddenPeriods$State" "length" "I") (by decide +kernel)) (fun _ h9 => h9) rfl dX2_become_35 ?_
  refine va_put (D := D) (ci := 2) (v := .int olen) (ty := .int) (C := RX2) (T := TX2) (N := 8) hx hb hts iX2 tyX2 tyX2_ok nmX2 hown hK hP hD hS 0 rfl rfl 3 (by decide) (hts (.fieldLink RX2 29 "HiddenPeriods$State" "length" "I") (by decide +kernel)) (fun _ h9 => h9) rfl (by decide +kernel) rfl rfl (Nat.le_of_ble_eq_true rfl) dX2_become_38 (fun H locs hP hD hS => ?_)
  have hP : va_P D vwCl ([(h2, .inr (2, [.ref h2_row, .ref h2_ten, .ref h2_pha, .int olen, .int kep, .int wfi, .int wmo, .int hun])), (h2_row, .inl (cI, 240, .inl x1)), (h2_ten, .inl (cI, 4, .inl x2)), (h2_pha, .inl (cI, 4, .inl x3)), (oh2, .inr (2, [.ref oh2_row, .ref oh2_ten, .ref oh2_pha, .int olen, .int okep, .int owfi, .int owmo, .int ohun])), (oh2_row, .inl (cI, 240, .inl orow)), (oh2_ten, .inl (cI, 4, .inl oten)), (oh2_pha, .inl (cI, 4, .inl opha))] ++ []) H := hP
  have hD : va_D A ([(h2, .inr (2, [.ref h2_row, .ref h2_ten, .ref h2_pha, .int olen, .int kep, .int wfi, .int wmo, .int hun])), (h2_row, .inl (cI, 240, .inl x1)), (h2_ten, .inl (cI, 4, .inl x2)), (h2_pha, .inl (cI, 4, .inl x3)), (oh2, .inr (2, [.ref oh2_row, .ref oh2_ten, .ref oh2_pha, .int olen, .int okep, .int owfi, .int owmo, .int ohun])), (oh2_row, .inl (cI, 240, .inl orow)), (oh2_ten, .inl (cI, 4, .inl oten)), (oh2_pha, .inl (cI, 4, .inl opha))] ++ []) := hD
  refine lv_aload_n hx hb dX2_become_41 rfl (lv_at hl 0 rfl) ?_
  refine lv_aload_n hx hb dX2_become_42 rfl (lv_at hl 1 rfl) ?_
  refine va_get (D := D) (ci := 2) (v := .int okep) (C := RX2) (T := TX2) (N := 8) hx hb hts iX2 hown hK hP 4 rfl rfl 4 (by decide) (hts (.fieldLink RX2 32 "HiddenPeriods$State" "kept" "I") (by decide +kernel)) (fun _ h9 => h9) rfl dX2_become_43 ?_
  refine va_put (D := D) (ci := 2) (v := .int okep) (ty := .int) (C := RX2) (T := TX2) (N := 8) hx hb hts iX2 tyX2 tyX2_ok nmX2 hown hK hP hD hS 0 rfl rfl 4 (by decide) (hts (.fieldLink RX2 32 "HiddenPeriods$State" "kept" "I") (by decide +kernel)) (fun _ h9 => h9) rfl (by decide +kernel) rfl rfl (Nat.le_of_ble_eq_true rfl) dX2_become_46 (fun H locs hP hD hS => ?_)
  have hP : va_P D vwCl ([(h2, .inr (2, [.ref h2_row, .ref h2_ten, .ref h2_pha, .int olen, .int okep, .int wfi, .int wmo, .int hun])), (h2_row, .inl (cI, 240, .inl x1)), (h2_ten, .inl (cI, 4, .inl x2)), (h2_pha, .inl (cI, 4, .inl x3)), (oh2, .inr (2, [.ref oh2_row, .ref oh2_ten, .ref oh2_pha, .int olen, .int okep, .int owfi, .int owmo, .int ohun])), (oh2_row, .inl (cI, 240, .inl orow)), (oh2_ten, .inl (cI, 4, .inl oten)), (oh2_pha, .inl (cI, 4, .inl opha))] ++ []) H := hP
  have hD : va_D A ([(h2, .inr (2, [.ref h2_row, .ref h2_ten, .ref h2_pha, .int olen, .int okep, .int wfi, .int wmo, .int hun])), (h2_row, .inl (cI, 240, .inl x1)), (h2_ten, .inl (cI, 4, .inl x2)), (h2_pha, .inl (cI, 4, .inl x3)), (oh2, .inr (2, [.ref oh2_row, .ref oh2_ten, .ref oh2_pha, .int olen, .int okep, .int owfi, .int owmo, .int ohun])), (oh2_row, .inl (cI, 240, .inl orow)), (oh2_ten, .inl (cI, 4, .inl oten)), (oh2_pha, .inl (cI, 4, .inl opha))] ++ []) := hD
  refine lv_aload_n hx hb dX2_become_49 rfl (lv_at hl 0 rfl) ?_
  refine lv_aload_n hx hb dX2_become_50 rfl (lv_at hl 1 rfl) ?_
  refine va_get (D := D) (ci := 2) (v := .int owfi) (C := RX2) (T := TX2) (N := 8) hx hb hts iX2 hown hK hP 4 rfl rfl 5 (by decide) (hts (.fieldLink RX2 35 "HiddenPeriods$State" "firstPlace" "I") (by decide +kernel)) (fun _ h9 => h9) rfl dX2_become_51 ?_
  refine va_put (D := D) (ci := 2) (v := .int owfi) (ty := .int) (C := RX2) (T := TX2) (N := 8) hx hb hts iX2 tyX2 tyX2_ok nmX2 hown hK hP hD hS 0 rfl rfl 5 (by decide) (hts (.fieldLink RX2 35 "HiddenPeriods$State" "firstPlace" "I") (by decide +kernel)) (fun _ h9 => h9) rfl (by decide +kernel) rfl rfl (Nat.le_of_ble_eq_true rfl) dX2_become_54 (fun H locs hP hD hS => ?_)
  have hP : va_P D vwCl ([(h2, .inr (2, [.ref h2_row, .ref h2_ten, .ref h2_pha, .int olen, .int okep, .int owfi, .int wmo, .int hun])), (h2_row, .inl (cI, 240, .inl x1)), (h2_ten, .inl (cI, 4, .inl x2)), (h2_pha, .inl (cI, 4, .inl x3)), (oh2, .inr (2, [.ref oh2_row, .ref oh2_ten, .ref oh2_pha, .int olen, .int okep, .int owfi, .int owmo, .int ohun])), (oh2_row, .inl (cI, 240, .inl orow)), (oh2_ten, .inl (cI, 4, .inl oten)), (oh2_pha, .inl (cI, 4, .inl opha))] ++ []) H := hP
  have hD : va_D A ([(h2, .inr (2, [.ref h2_row, .ref h2_ten, .ref h2_pha, .int olen, .int okep, .int owfi, .int wmo, .int hun])), (h2_row, .inl (cI, 240, .inl x1)), (h2_ten, .inl (cI, 4, .inl x2)), (h2_pha, .inl (cI, 4, .inl x3)), (oh2, .inr (2, [.ref oh2_row, .ref oh2_ten, .ref oh2_pha, .int olen, .int okep, .int owfi, .int owmo, .int ohun])), (oh2_row, .inl (cI, 240, .inl orow)), (oh2_ten, .inl (cI, 4, .inl oten)), (oh2_pha, .inl (cI, 4, .inl opha))] ++ []) := hD
  refine lv_aload_n hx hb dX2_become_57 rfl (lv_at hl 0 rfl) ?_
  refine lv_aload_n hx hb dX2_become_58 rfl (lv_at hl 1 rfl) ?_
  refine va_get (D := D) (ci := 2) (v := .int owmo) (C := RX2) (T := TX2) (N := 8) hx hb hts iX2 hown hK hP 4 rfl rfl 6 (by decide) (hts (.fieldLink RX2 38 "HiddenPeriods$State" "mostPlaces" "I") (by decide +kernel)) (fun _ h9 => h9) rfl dX2_become_59 ?_
  refine va_put (D := D) (ci := 2) (v := .int owmo) (ty := .int) (C := RX2) (T := TX2) (N := 8) hx hb hts iX2 tyX2 tyX2_ok nmX2 hown hK hP hD hS 0 rfl rfl 6 (by decide) (hts (.fieldLink RX2 38 "HiddenPeriods$State" "mostPlaces" "I") (by decide +kernel)) (fun _ h9 => h9) rfl (by decide +kernel) rfl rfl (Nat.le_of_ble_eq_true rfl) dX2_become_62 (fun H locs hP hD hS => ?_)
  have hP : va_P D vwCl ([(h2, .inr (2, [.ref h2_row, .ref h2_ten, .ref h2_pha, .int olen, .int okep, .int owfi, .int owmo, .int hun])), (h2_row, .inl (cI, 240, .inl x1)), (h2_ten, .inl (cI, 4, .inl x2)), (h2_pha, .inl (cI, 4, .inl x3)), (oh2, .inr (2, [.ref oh2_row, .ref oh2_ten, .ref oh2_pha, .int olen, .int okep, .int owfi, .int owmo, .int ohun])), (oh2_row, .inl (cI, 240, .inl orow)), (oh2_ten, .inl (cI, 4, .inl oten)), (oh2_pha, .inl (cI, 4, .inl opha))] ++ []) H := hP
  have hD : va_D A ([(h2, .inr (2, [.ref h2_row, .ref h2_ten, .ref h2_pha, .int olen, .int okep, .int owfi, .int owmo, .int hun])), (h2_row, .inl (cI, 240, .inl x1)), (h2_ten, .inl (cI, 4, .inl x2)), (h2_pha, .inl (cI, 4, .inl x3)), (oh2, .inr (2, [.ref oh2_row, .ref oh2_ten, .ref oh2_pha, .int olen, .int okep, .int owfi, .int owmo, .int ohun])), (oh2_row, .inl (cI, 240, .inl orow)), (oh2_ten, .inl (cI, 4, .inl oten)), (oh2_pha, .inl (cI, 4, .inl opha))] ++ []) := hD
  refine lv_aload_n hx hb dX2_become_65 rfl (lv_at hl 0 rfl) ?_
  refine lv_aload_n hx hb dX2_become_66 rfl (lv_at hl 1 rfl) ?_
  refine va_get (D := D) (ci := 2) (v := .int ohun) (C := RX2) (T := TX2) (N := 8) hx hb hts iX2 hown hK hP 4 rfl rfl 7 (by decide) (hts (.fieldLink RX2 21 "HiddenPeriods$State" "hundredths" "I") (by decide +kernel)) (fun _ h9 => h9) rfl dX2_become_67 ?_
  refine va_put (D := D) (ci := 2) (v := .int ohun) (ty := .int) (C := RX2) (T := TX2) (N := 8) hx hb hts iX2 tyX2 tyX2_ok nmX2 hown hK hP hD hS 0 rfl rfl 7 (by decide) (hts (.fieldLink RX2 21 "HiddenPeriods$State" "hundredths" "I") (by decide +kernel)) (fun _ h9 => h9) rfl (by decide +kernel) rfl rfl (Nat.le_of_ble_eq_true rfl) dX2_become_70 (fun H locs hP hD hS => ?_)
  have hP : va_P D vwCl ([(h2, .inr (2, [.ref h2_row, .ref h2_ten, .ref h2_pha, .int olen, .int okep, .int owfi, .int owmo, .int ohun])), (h2_row, .inl (cI, 240, .inl x1)), (h2_ten, .inl (cI, 4, .inl x2)), (h2_pha, .inl (cI, 4, .inl x3)), (oh2, .inr (2, [.ref oh2_row, .ref oh2_ten, .ref oh2_pha, .int olen, .int okep, .int owfi, .int owmo, .int ohun])), (oh2_row, .inl (cI, 240, .inl orow)), (oh2_ten, .inl (cI, 4, .inl oten)), (oh2_pha, .inl (cI, 4, .inl opha))] ++ []) H := hP
  have hD : va_D A ([(h2, .inr (2, [.ref h2_row, .ref h2_ten, .ref h2_pha, .int olen, .int okep, .int owfi, .int owmo, .int ohun])), (h2_row, .inl (cI, 240, .inl x1)), (h2_ten, .inl (cI, 4, .inl x2)), (h2_pha, .inl (cI, 4, .inl x3)), (oh2, .inr (2, [.ref oh2_row, .ref oh2_ten, .ref oh2_pha, .int olen, .int okep, .int owfi, .int owmo, .int ohun])), (oh2_row, .inl (cI, 240, .inl orow)), (oh2_ten, .inl (cI, 4, .inl oten)), (oh2_pha, .inl (cI, 4, .inl opha))] ++ []) := hD
  cases h
  exact pw_vret hx hb hr hlocks hAe hQ hP hD hS dX2_become_73
def fX2_hasPlace (len : Int32) (a1 : Int32) : Option Int32 :=
  if a1 < 0 then
  some 0
  else
  if len ≤ a1 then
  some 0
  else
  some 1
abbrev rmX2_hasPlace : Room := { frames := 0, cells := 0, slots := 0, locals := 0 }
set_option maxHeartbeats 4000000 in
set_option maxRecDepth 100000 in
theorem mX2_hasPlace (l : Launch) (D : va_G) (cI cO cJ : ClassId) (h2 h2_row h2_ten h2_pha : Nat) (sz : Nat) (row : Nat → Int32) (ten : Nat → Int32) (pha : Nat → Int32) (len : Int32) (kep : Int32) (wfi : Int32) (wmo : Int32) (hun : Int32) (a1 : Int32) (z : Int32) (h : fX2_hasPlace len a1 = some z) : Met l yX2_hasPlace wsX2_hasPlace rmX2_hasPlace (pw_pre D (tyL cI cO cJ) [.ref h2, .int a1] [(h2, .inr (2, [.ref h2_row, .ref h2_ten, .ref h2_pha, .int len, .int kep, .int wfi, .int wmo, .int hun])), (h2_row, .inl (cI, 240, .inl row)), (h2_ten, .inl (cI, 4, .inl ten)), (h2_pha, .inl (cI, 4, .inl pha))] sz) (pw_i D [(h2, .inr (2, [.ref h2_row, .ref h2_ten, .ref h2_pha, .int len, .int kep, .int wfi, .int wmo, .int hun])), (h2_row, .inl (cI, 240, .inl row)), (h2_ten, .inl (cI, 4, .inl ten)), (h2_pha, .inl (cI, 4, .inl pha))] [(h2, .inr (2, [.ref h2_row, .ref h2_ten, .ref h2_pha, .int len, .int kep, .int wfi, .int wmo, .int hun])), (h2_row, .inl (cI, 240, .inl row)), (h2_ten, .inl (cI, 4, .inl ten)), (h2_pha, .inl (cI, 4, .inl pha))] z sz) 0 0 (va_A [(h2, .inr (2, [.ref h2_row, .ref h2_ten, .ref h2_pha, .int len, .int kep, .int wfi, .int wmo, .int hun])), (h2_row, .inl (cI, 240, .inl row)), (h2_ten, .inl (cI, 4, .inl ten)), (h2_pha, .inl (cI, 4, .inl pha))] sz) := by
  refine pw_of (Qc := fun sz => pw_i D [(h2, .inr (2, [.ref h2_row, .ref h2_ten, .ref h2_pha, .int len, .int kep, .int wfi, .int wmo, .int hun])), (h2_row, .inl (cI, 240, .inl row)), (h2_ten, .inl (cI, 4, .inl ten)), (h2_pha, .inl (cI, 4, .inl pha))] [(h2, .inr (2, [.ref h2_row, .ref h2_ten, .ref h2_pha, .int len, .int kep, .int wfi, .int wmo, .int hun])), (h2_row, .inl (cI, 240, .inl row)), (h2_ten, .inl (cI, 4, .inl ten)), (h2_pha, .inl (cI, 4, .inl pha))] z sz) (cc := cX2_hasPlace) (maxL := 2) (ret := (some .boolean)) (by decide) rfl (Nat.le_of_ble_eq_true rfl) ?_
  intro p e s m args below meth c A Q H ls hx hb hml hr hts hown hlocks hAe hQ hK hN hA hP hD hS hl
  have hown : s.vm.findClass RX2 = some m.cls := hown
  have hl : lv_has ls 2 [(0, .ref h2), (1, .int a1)] := hl
  have hP : va_P D vwCl ([(h2, .inr (2, [.ref h2_row, .ref h2_ten, .ref h2_pha, .int len, .int kep, .int wfi, .int wmo, .int hun])), (h2_row, .inl (cI, 240, .inl row)), (h2_ten, .inl (cI, 4, .inl ten)), (h2_pha, .inl (cI, 4, .inl pha))] ++ []) H := hP
  have hD : va_D A ([(h2, .inr (2, [.ref h2_row, .ref h2_ten, .ref h2_pha, .int len, .int kep, .int wfi, .int wmo, .int hun])), (h2_row, .inl (cI, 240, .inl row)), (h2_ten, .inl (cI, 4, .inl ten)), (h2_pha, .inl (cI, 4, .inl pha))] ++ []) := hD
  have iX2 : ∀ w ∈ u_ws RX2 TX2 8, w ∈ wsX2_hasPlace := fun _ h => List.mem_cons_of_mem _ (List.mem_append_right _ h)
  unfold fX2_hasPlace at h
  refine lv_iload_n hx hb dX2_hasPlace_0 rfl (lv_at hl 1 rfl) ?_
  refine lv_if_lt (tgt := 16) hx hb dX2_hasPlace_1 (by decide) (fun cq => ?_) (fun cq => ?_)
  · replace h := ifp cq h
    refine lv_iconst (v := 0) hx hb dX2_hasPlace_16 (by decide) ?_
    cases h
    exact pw_zret hx hb hr hlocks hAe (by decide) hQ hP hD hS dX2_hasPlace_17
  · replace h := ifn cq h
    refine lv_iload_n hx hb dX2_hasPlace_4 rfl (lv_at hl 1 rfl) ?_
    refine lv_aload_n hx hb dX2_hasPlace_5 rfl (lv_at hl 0 rfl) ?_
    refine va_get (D := D) (ci := 2) (v := .int len) (C := RX2) (T := TX2) (N := 8) hx hb hts iX2 hown hK hP 0 rfl rfl 3 (by decide) (hts (.fieldLink RX2 29 "HiddenPeriods$State" "length" "I") (by decide +kernel)) (fun _ h9 => h9) rfl dX2_hasPlace_6 ?_
    refine lv_icmp_ge (tgt := 16) hx hb dX2_hasPlace_9 (by decide) (fun cq => ?_) (fun cq => ?_)
    · replace h := ifp cq h
      refine lv_iconst (v := 0) hx hb dX2_hasPlace_16 (by decide) ?_
      cases h
      exact pw_zret hx hb hr hlocks hAe (by decide) hQ hP hD hS dX2_hasPlace_17
    · replace h := ifn cq h
      refine lv_iconst (v := 1) hx hb dX2_hasPlace_12 (by decide) ?_
      refine lv_goto (tgt := 17) hx hb dX2_hasPlace_13 (by decide) ?_
      cases h
      exact pw_zret hx hb hr hlocks hAe (by decide) hQ hP hD hS dX2_hasPlace_17
def fX5_lay (f1 : Nat → Int32) (n1 : Nat) (a2 : Int32) (a3 : Int32) : Option (Nat → Int32) :=
  if a2 < 0 then
  some f1
  else
  if (nI n1) ≤ a2 then
  some f1
  else
  if oob a2 n1 then none else
  some (upd f1 a2.toNatClampNeg a3)
abbrev rmX5_lay : Room := { frames := 0, cells := 0, slots := 0, locals := 0 }
set_option maxHeartbeats 4000000 in
set_option maxRecDepth 100000 in
theorem mX5_lay (l : Launch) (D : va_G) (cI cO cJ : ClassId) (q1 : Nat) (sz : Nat) (f1 : Nat → Int32) (n1 : Nat) (a2 : Int32) (a3 : Int32) (z : Nat → Int32) (h : fX5_lay f1 n1 a2 a3 = some z) : Met l yX5_lay wsX5_lay rmX5_lay (pw_pre D (tyL cI cO cJ) [.ref q1, .int a2, .int a3] [(q1, .inl (cI, n1, .inl f1))] sz) (pw_v D [(q1, .inl (cI, n1, .inl f1))] [(q1, .inl (cI, n1, .inl z))] sz) 0 0 (va_A [(q1, .inl (cI, n1, .inl f1))] sz) := by
  refine pw_of (Qc := fun sz => pw_v D [(q1, .inl (cI, n1, .inl f1))] [(q1, .inl (cI, n1, .inl z))] sz) (cc := cX5_lay) (maxL := 3) (ret := none) (by decide) rfl (Nat.le_of_ble_eq_true rfl) ?_
  intro p e s m args below meth c A Q H ls hx hb hml hr hts hown hlocks hAe hQ hK hN hA hP hD hS hl
  have hown : s.vm.findClass RX5 = some m.cls := hown
  have hl : lv_has ls 3 [(0, .ref q1), (1, .int a2), (2, .int a3)] := hl
  have hP : va_P D vwCl ([(q1, .inl (cI, n1, .inl f1))] ++ []) H := hP
  have hD : va_D A ([(q1, .inl (cI, n1, .inl f1))] ++ []) := hD
  unfold fX5_lay at h
  refine lv_iload_n hx hb dX5_lay_0 rfl (lv_at hl 1 rfl) ?_
  refine lv_if_lt (tgt := 14) hx hb dX5_lay_1 (by decide) (fun cq => ?_) (fun cq => ?_)
  · replace h := ifp cq h
    cases h
    exact pw_vret hx hb hr hlocks hAe hQ hP hD hS dX5_lay_14
  · replace h := ifn cq h
    refine lv_iload_n hx hb dX5_lay_4 rfl (lv_at hl 1 rfl) ?_
    refine lv_aload_n hx hb dX5_lay_5 rfl (lv_at hl 0 rfl) ?_
    refine va_alen (v := (nI n1)) hx hb hK hP 0 0 rfl rfl rfl dX5_lay_6 ?_
    refine lv_icmp_ge (tgt := 14) hx hb dX5_lay_7 (by decide) (fun cq => ?_) (fun cq => ?_)
    · replace h := ifp cq h
      cases h
      exact pw_vret hx hb hr hlocks hAe hQ hP hD hS dX5_lay_14
    · replace h := ifn cq h
      refine lv_aload_n hx hb dX5_lay_10 rfl (lv_at hl 0 rfl) ?_
      refine lv_iload_n hx hb dX5_lay_11 rfl (lv_at hl 1 rfl) ?_
      refine lv_iload_n hx hb dX5_lay_12 rfl (lv_at hl 2 rfl) ?_
      obtain ⟨g1, h⟩ := gdn h
      refine va_iast hx hb hK hP hD hS 0 0 rfl rfl g1 dX5_lay_13 (fun H locs hP hD hS => ?_)
      have hP : va_P D vwCl ([(q1, .inl (cI, n1, .inl (upd f1 a2.toNatClampNeg a3)))] ++ []) H := hP
      have hD : va_D A ([(q1, .inl (cI, n1, .inl (upd f1 a2.toNatClampNeg a3)))] ++ []) := hD
      cases h
      exact pw_vret hx hb hr hlocks hAe hQ hP hD hS dX5_lay_14

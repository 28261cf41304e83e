def fX2_changeSign (row : Nat → Int32) (a1 : Int32) (a2 : Int32) : Option (Nat → Int32) :=
  (fX5_lay row 240 a1 a2).bind fun x1 =>
  some x1
abbrev rmX2_changeSign : Room := { frames := 1, cells := 0, slots := 0, locals := 22 }
set_option maxHeartbeats 4000000 in
set_option maxRecDepth 100000 in
theorem mX2_changeSign (l : Launch) (D : va_G) (cI cO cJ : ClassId) (h2 h2_row h2_ten h2_pha : Nat) (sz : Nat) (row : Nat → Int32) (ten : Nat → Int32) (pha : Nat → Int32) (len : Int32) (kep : Int32) (wfi : Int32) (wmo : Int32) (hun : Int32) (a1 : Int32) (a2 : Int32) (z : Nat → Int32) (h : fX2_changeSign row a1 a2 = some z) : Met l yX2_changeSign wsX2_changeSign rmX2_changeSign (pw_pre D (tyL cI cO cJ) [.ref h2, .int a1, .int a2] [(h2, .inr (2, [.ref h2_row, .ref h2_ten, .ref h2_pha, .int len, .int kep, .int wfi, .int wmo, .int hun])), (h2_row, .inl (cI, 240, .inl row)), (h2_ten, .inl (cI, 4, .inl ten)), (h2_pha, .inl (cI, 4, .inl pha))] sz) (pw_v D [(h2, .inr (2, [.ref h2_row, .ref h2_ten, .ref h2_pha, .int len, .int kep, .int wfi, .int wmo, .int hun])), (h2_row, .inl (cI, 240, .inl row)), (h2_ten, .inl (cI, 4, .inl ten)), (h2_pha, .inl (cI, 4, .inl pha))] [(h2, .inr (2, [.ref h2_row, .ref h2_ten, .ref h2_pha, .int len, .int kep, .int wfi, .int wmo, .int hun])), (h2_row, .inl (cI, 240, .inl z)), (h2_ten, .inl (cI, 4, .inl ten)), (h2_pha, .inl (cI, 4, .inl pha))] sz) 0 0 (va_A [(h2, .inr (2, [.ref h2_row, .ref h2_ten, .ref h2_pha, .int len, .int kep, .int wfi, .int wmo, .int hun])), (h2_row, .inl (cI, 240, .inl row)), (h2_ten, .inl (cI, 4, .inl ten)), (h2_pha, .inl (cI, 4, .inl pha))] sz) := by
  refine pw_of (Qc := fun sz => pw_v D [(h2, .inr (2, [.ref h2_row, .ref h2_ten, .ref h2_pha, .int len, .int kep, .int wfi, .int wmo, .int hun])), (h2_row, .inl (cI, 240, .inl row)), (h2_ten, .inl (cI, 4, .inl ten)), (h2_pha, .inl (cI, 4, .inl pha))] [(h2, .inr (2, [.ref h2_row, .ref h2_ten, .ref h2_pha, .int len, .int kep, .int wfi, .int wmo, .int hun])), (h2_row, .inl (cI, 240, .inl z)), (h2_ten, .inl (cI, 4, .inl ten)), (h2_pha, .inl (cI, 4, .inl pha))] sz) (cc := cX2_changeSign) (maxL := 3) (ret := none) (by decide) rfl (Nat.le_of_ble_eq_true rfl) ?_
  intro p e s m args below meth c A Q H ls hx hb hml hr hts hown hlocks hAe hQ hK hN hA hP hD hS hl
  have hown : s.vm.findClass RX2 = some m.cls := hown
  have hl : lv_has ls 3 [(0, .ref h2), (1, .int a1), (2, .int a2)] := hl
  have hP : va_P D vwCl ([(h2, .inr (2, [.ref h2_row, .ref h2_ten, .ref h2_pha, .int len, .int kep, .int wfi, .int wmo, .int hun])), (h2_row, .inl (cI, 240, .inl row)), (h2_ten, .inl (cI, 4, .inl ten)), (h2_pha, .inl (cI, 4, .inl pha))] ++ []) H := hP
  have hD : va_D A ([(h2, .inr (2, [.ref h2_row, .ref h2_ten, .ref h2_pha, .int len, .int kep, .int wfi, .int wmo, .int hun])), (h2_row, .inl (cI, 240, .inl row)), (h2_ten, .inl (cI, 4, .inl ten)), (h2_pha, .inl (cI, 4, .inl pha))] ++ []) := hD
  have iX2 : ∀ w ∈ u_ws RX2 TX2 8, w ∈ wsX2_changeSign := fun _ h => List.mem_cons_of_mem _ (List.mem_append_right _ h)
  unfold fX2_changeSign at h
  refine lv_aload_n hx hb dX2_changeSign_0 rfl (lv_at hl 0 rfl) ?_
  refine va_get (D := D) (ci := 2) (v := .ref h2_row) (C := RX2) (T := TX2) (N := 8) hx hb hts iX2 hown hK hP 0 rfl rfl 0 (by decide) (hts (.fieldLink RX2 9 "HiddenPeriods$State" "row" "[I") (by decide +kernel)) (fun _ h9 => h9) rfl dX2_changeSign_1 ?_
  refine lv_iload_n hx hb dX2_changeSign_4 rfl (lv_at hl 1 rfl) ?_
  refine lv_iload_n hx hb dX2_changeSign_5 rfl (lv_at hl 2 rfl) ?_
  obtain ⟨x1, hx1, h⟩ := bnd h
  refine pw_gov (wc := [(h2_row, .inl (cI, 240, .inl row))]) (w1 := [(h2_row, .inl (cI, 240, .inl x1))]) (w2 := [(h2, .inr (2, [.ref h2_row, .ref h2_ten, .ref h2_pha, .int len, .int kep, .int wfi, .int wmo, .int hun])), (h2_row, .inl (cI, 240, .inl x1)), (h2_ten, .inl (cI, 4, .inl ten)), (h2_pha, .inl (cI, 4, .inl pha))]) (va_runSN (As := [.ref h2_row, .int a1, .int a2]) (rest := []) ⟨hx, hb, hml, hown, hts⟩ (mX5_lay l D cI cO cJ h2_row H.size row 240 a1 a2 _ hx1) ⟨va_cnB 3 hts gX2_changeSign_X5_lay_n41 rfl rfl rfl (hN (.methodLinkNest RX2 41 yX5_lay "HiddenPeriods") (by decide +kernel)) (hts (.initialized RX5) (by decide +kernel)) (by decide +kernel) ⟨Nat.le_of_ble_eq_true rfl, Nat.le_of_ble_eq_true rfl⟩, (hts (.static yX5_lay) (by decide +kernel)), trivial⟩ (pw_preS hK hN (pw_sub hP [1] rfl) (pw_subD hD [1] (by decide) rfl)) rfl rfl hl.1 rfl (lv_room (Nat.le_of_ble_eq_true rfl)) dX2_changeSign_6 ⟨Nat.zero_le _, Nat.zero_le _⟩) hP hD hS hA [1] [0, 2, 3] [0, 3, 1, 2] rfl rfl (by decide) (by decide) (by decide) rfl (fun H locs hP hD hS => ?_)
  cases h
  exact pw_vret hx hb hr hlocks hAe hQ hP hD hS dX2_changeSign_9
def fX2_addSign (row : Nat → Int32) (len : Int32) (a1 : Int32) : Option ((Nat → Int32) × Int32) :=
  (fX5_lay row 240 len a1).bind fun x1 =>
  some (x1, (len + 1))
abbrev rmX2_addSign : Room := { frames := 1, cells := 0, slots := 0, locals := 22 }
set_option maxHeartbeats 4000000 in
set_option maxRecDepth 100000 in
theorem mX2_addSign (l : Launch) (D : va_G) (cI cO cJ : ClassId) (h2 h2_row h2_ten h2_pha : Nat) (sz : Nat) (row : Nat → Int32) (ten : Nat → Int32) (pha : Nat → Int32) (len : Int32) (kep : Int32) (wfi : Int32) (wmo : Int32) (hun : Int32) (a1 : Int32) (z : (Nat → Int32) × Int32) (h : fX2_addSign row len a1 = some z) : Met l yX2_addSign wsX2_addSign rmX2_addSign (pw_pre D (tyL cI cO cJ) [.ref h2, .int a1] [(h2, .inr (2, [.ref h2_row, .ref h2_ten, .ref h2_pha, .int len, .int kep, .int wfi, .int wmo, .int hun])), (h2_row, .inl (cI, 240, .inl row)), (h2_ten, .inl (cI, 4, .inl ten)), (h2_pha, .inl (cI, 4, .inl pha))] sz) (pw_v D [(h2, .inr (2, [.ref h2_row, .ref h2_ten, .ref h2_pha, .int len, .int kep, .int wfi, .int wmo, .int hun])), (h2_row, .inl (cI, 240, .inl row)), (h2_ten, .inl (cI, 4, .inl ten)), (h2_pha, .inl (cI, 4, .inl pha))] [(h2, .inr (2, [.ref h2_row, .ref h2_ten, .ref h2_pha, .int z.2, .int kep, .int wfi, .int wmo, .int hun])), (h2_row, .inl (cI, 240, .inl z.1)), (h2_ten, .inl (cI, 4, .inl ten)), (h2_pha, .inl (cI, 4, .inl pha))] sz) 0 0 (va_A [(h2, .inr (2, [.ref h2_row, .ref h2_ten, .ref h2_pha, .int len, .int kep, .int wfi, .int wmo, .int hun])), (h2_row, .inl (cI, 240, .inl row)), (h2_ten, .inl (cI, 4, .inl ten)), (h2_pha, .inl (cI, 4, .inl pha))] sz) := by
  refine pw_of (Qc := fun sz => pw_v D [(h2, .inr (2, [.ref h2_row, .ref h2_ten, .ref h2_pha, .int len, .int kep, .int wfi, .int wmo, .int hun])), (h2_row, .inl (cI, 240, .inl row)), (h2_ten, .inl (cI, 4, .inl ten)), (h2_pha, .inl (cI, 4, .inl pha))] [(h2, .inr (2, [.ref h2_row, .ref h2_ten, .ref h2_pha, .int z.2, .int kep, .int wfi, .int wmo, .int hun])), (h2_row, .inl (cI, 240, .inl z.1)), (h2_ten, .inl (cI, 4, .inl ten)), (h2_pha, .inl (cI, 4, .inl pha))] sz) (cc := cX2_addSign) (maxL := 2) (ret := none) (by decide) rfl (Nat.le_of_ble_eq_true rfl) ?_
  intro p e s m args below meth c A Q H ls hx hb hml hr hts hown hlocks hAe hQ hK hN hA hP hD hS hl
  have hown : s.vm.findClass RX2 = some m.cls := hown
  have hl : lv_has ls 2 [(0, .ref h2), (1, .int a1)] := hl
  have hP : va_P D vwCl ([(h2, .inr (2, [.ref h2_row, .ref h2_ten, .ref h2_pha, .int len, .int kep, .int wfi, .int wmo, .int hun])), (h2_row, .inl (cI, 240, .inl row)), (h2_ten, .inl (cI, 4, .inl ten)), (h2_pha, .inl (cI, 4, .inl pha))] ++ []) H := hP
  have hD : va_D A ([(h2, .inr (2, [.ref h2_row, .ref h2_ten, .ref h2_pha, .int len, .int kep, .int wfi, .int wmo, .int hun])), (h2_row, .inl (cI, 240, .inl row)), (h2_ten, .inl (cI, 4, .inl ten)), (h2_pha, .inl (cI, 4, .inl pha))] ++ []) := hD
  have iX2 : ∀ w ∈ u_ws RX2 TX2 8, w ∈ wsX2_addSign := fun _ h => List.mem_cons_of_mem _ (List.mem_append_right _ h)
  unfold fX2_addSign at h
  refine lv_aload_n hx hb dX2_addSign_0 rfl (lv_at hl 0 rfl) ?_
  refine va_get (D := D) (ci := 2) (v := .ref h2_row) (C := RX2) (T := TX2) (N := 8) hx hb hts iX2 hown hK hP 0 rfl rfl 0 (by decide) (hts (.fieldLink RX2 9 "HiddenPeriods$State" "row" "[I") (by decide +kernel)) (fun _ h9 => h9) rfl dX2_addSign_1 ?_
  refine lv_aload_n hx hb dX2_addSign_4 rfl (lv_at hl 0 rfl) ?_
  refine va_get (D := D) (ci := 2) (v := .int len) (C := RX2) (T := TX2) (N := 8) hx hb hts iX2 hown hK hP 0 rfl rfl 3 (by decide) (hts (.fieldLink RX2 29 "HiddenPeriods$State" "length" "I") (by decide +kernel)) (fun _ h9 => h9) rfl dX2_addSign_5 ?_
  refine lv_iload_n hx hb dX2_addSign_8 rfl (lv_at hl 1 rfl) ?_
  obtain ⟨x1, hx1, h⟩ := bnd h
  refine pw_gov (wc := [(h2_row, .inl (cI, 240, .inl row))]) (w1 := [(h2_row, .inl (cI, 240, .inl x1))]) (w2 := [(h2, .inr (2, [.ref h2_row, .ref h2_ten, .ref h2_pha, .int len, .int kep, .int wfi, .int wmo, .int hun])), (h2_row, .inl (cI, 240, .inl x1)), (h2_ten, .inl (cI, 4, .inl ten)), (h2_pha, .inl (cI, 4, .inl pha))]) (va_runSN (As := [.ref h2_row, .int len, .int a1]) (rest := []) ⟨hx, hb, hml, hown, hts⟩ (mX5_lay l D cI cO cJ h2_row H.size row 240 len a1 _ hx1) ⟨va_cnB 3 hts gX2_addSign_X5_lay_n41 rfl rfl rfl (hN (.methodLinkNest RX2 41 yX5_lay "HiddenPeriods") (by decide +kernel)) (hts (.initialized RX5) (by decide +kernel)) (by decide +kernel) ⟨Nat.le_of_ble_eq_true rfl, Nat.le_of_ble_eq_true rfl⟩, (hts (.static yX5_lay) (by decide +kernel)), trivial⟩ (pw_preS hK hN (pw_sub hP [1] rfl) (pw_subD hD [1] (by decide) rfl)) rfl rfl hl.1 rfl (lv_room (Nat.le_of_ble_eq_true rfl)) dX2_addSign_9 ⟨Nat.zero_le _, Nat.zero_le _⟩) hP hD hS hA [1] [0, 2, 3] [0, 3, 1, 2] rfl rfl (by decide) (by decide) (by decide) rfl (fun H locs hP hD hS => ?_)
  refine lv_aload_n hx hb dX2_addSign_12 rfl (lv_at hl 0 rfl) ?_
  refine lv_dup hx hb dX2_addSign_13 rfl ?_
  refine va_get (D := D) (ci := 2) (v := .int len) (C := RX2) (T := TX2) (N := 8) hx hb hts iX2 hown hK hP 0 rfl rfl 3 (by decide) (hts (.fieldLink RX2 29 "HiddenPeriods$State" "length" "I") (by decide +kernel)) (fun _ h9 => h9) rfl dX2_addSign_14 ?_
  refine lv_iconst (v := 1) hx hb dX2_addSign_17 (by decide) ?_
  refine lv_iadd hx hb dX2_addSign_18 ?_
  refine va_put (D := D) (ci := 2) (v := .int (len + 1)) (ty := .int) (C := RX2) (T := TX2) (N := 8) hx hb hts iX2 tyX2 tyX2_ok nmX2 hown hK hP hD hS 0 rfl rfl 3 (by decide) (hts (.fieldLink RX2 29 "HiddenPeriods$State" "length" "I") (by decide +kernel)) (fun _ h9 => h9) rfl (by decide +kernel) rfl rfl (Nat.le_of_ble_eq_true rfl) dX2_addSign_19 (fun H locs hP hD hS => ?_)
  have hP : va_P D vwCl ([(h2, .inr (2, [.ref h2_row, .ref h2_ten, .ref h2_pha, .int (len + 1), .int kep, .int wfi, .int wmo, .int hun])), (h2_row, .inl (cI, 240, .inl x1)), (h2_ten, .inl (cI, 4, .inl ten)), (h2_pha, .inl (cI, 4, .inl pha))] ++ []) H := hP
  have hD : va_D A ([(h2, .inr (2, [.ref h2_row, .ref h2_ten, .ref h2_pha, .int (len + 1), .int kep, .int wfi, .int wmo, .int hun])), (h2_row, .inl (cI, 240, .inl x1)), (h2_ten, .inl (cI, 4, .inl ten)), (h2_pha, .inl (cI, 4, .inl pha))] ++ []) := hD
  cases h
  exact pw_vret hx hb hr hlocks hAe hQ hP hD hS dX2_addSign_22
def fX2_hasNumber (kep : Int32) (a1 : Int32) : Option Int32 :=
  if a1 < 0 then
  some 0
  else
  if kep ≤ a1 then
  some 0
  else
  some 1
abbrev rmX2_hasNumber : Room := { frames := 0, cells := 0, slots := 0, locals := 0 }
set_option maxHeartbeats 4000000 in
set_option maxRecDepth 100000 in
theorem mX2_hasNumber (l : Launch) (D : va_G) (cI cO cJ : ClassId) (h2 h2_row h2_ten h2_pha : Nat) (sz : Nat) (row : Nat → Int32) (ten : Nat → Int32) (pha : Nat → Int32) (len : Int32) (kep : Int32) (wfi : Int32) (wmo : Int32) (hun : Int32) (a1 : Int32) (z : Int32) (h : fX2_hasNumber kep a1 = some z) : Met l yX2_hasNumber wsX2_hasNumber rmX2_hasNumber (pw_pre D (tyL cI cO cJ) [.ref h2, .int a1] [(h2, .inr (2, [.ref h2_row, .ref h2_ten, .ref h2_pha, .int len, .int kep, .int wfi, .int wmo, .int hun])), (h2_row, .inl (cI, 240, .inl row)), (h2_ten, .inl (cI, 4, .inl ten)), (h2_pha, .inl (cI, 4, .inl pha))] sz) (pw_i D [(h2, .inr (2, [.ref h2_row, .ref h2_ten, .ref h2_pha, .int len, .int kep, .int wfi, .int wmo, .int hun])), (h2_row, .inl (cI, 240, .inl row)), (h2_ten, .inl (cI, 4, .inl ten)), (h2_pha, .inl (cI, 4, .inl pha))] [(h2, .inr (2, [.ref h2_row, .ref h2_ten, .ref h2_pha, .int len, .int kep, .int wfi, .int wmo, .int hun])), (h2_row, .inl (cI, 240, .inl row)), (h2_ten, .inl (cI, 4, .inl ten)), (h2_pha, .inl (cI, 4, .inl pha))] z sz) 0 0 (va_A [(h2, .inr (2, [.ref h2_row, .ref h2_ten, .ref h2_pha, .int len, .int kep, .int wfi, .int wmo, .int hun])), (h2_row, .inl (cI, 240, .inl row)), (h2_ten, .inl (cI, 4, .inl ten)), (h2_pha, .inl (cI, 4, .inl pha))] sz) := by
  refine pw_of (Qc := fun sz => pw_i D [(h2, .inr (2, [.ref h2_row, .ref h2_ten, .ref h2_pha, .int len, .int kep, .int wfi, .int wmo, .int hun])), (h2_row, .inl (cI, 240, .inl row)), (h2_ten, .inl (cI, 4, .inl ten)), (h2_pha, .inl (cI, 4, .inl pha))] [(h2, .inr (2, [.ref h2_row, .ref h2_ten, .ref h2_pha, .int len, .int kep, .int wfi, .int wmo, .int hun])), (h2_row, .inl (cI, 240, .inl row)), (h2_ten, .inl (cI, 4, .inl ten)), (h2_pha, .inl (cI, 4, .inl pha))] z sz) (cc := cX2_hasNumber) (maxL := 2) (ret := (some .boolean)) (by decide) rfl (Nat.le_of_ble_eq_true rfl) ?_
  intro p e s m args below meth c A Q H ls hx hb hml hr hts hown hlocks hAe hQ hK hN hA hP hD hS hl
  have hown : s.vm.findClass RX2 = some m.cls := hown
  have hl : lv_has ls 2 [(0, .ref h2), (1, .int a1)] := hl
  have hP : va_P D vwCl ([(h2, .inr (2, [.ref h2_row, .ref h2_ten, .ref h2_pha, .int len, .int kep, .int wfi, .int wmo, .int hun])), (h2_row, .inl (cI, 240, .inl row)), (h2_ten, .inl (cI, 4, .inl ten)), (h2_pha, .inl (cI, 4, .inl pha))] ++ []) H := hP
  have hD : va_D A ([(h2, .inr (2, [.ref h2_row, .ref h2_ten, .ref h2_pha, .int len, .int kep, .int wfi, .int wmo, .int hun])), (h2_row, .inl (cI, 240, .inl row)), (h2_ten, .inl (cI, 4, .inl ten)), (h2_pha, .inl (cI, 4, .inl pha))] ++ []) := hD
  have iX2 : ∀ w ∈ u_ws RX2 TX2 8, w ∈ wsX2_hasNumber := fun _ h => List.mem_cons_of_mem _ (List.mem_append_right _ h)
  unfold fX2_hasNumber at h
  refine lv_iload_n hx hb dX2_hasNumber_0 rfl (lv_at hl 1 rfl) ?_
  refine lv_if_lt (tgt := 16) hx hb dX2_hasNumber_1 (by decide) (fun cq => ?_) (fun cq => ?_)
  · replace h := ifp cq h
    refine lv_iconst (v := 0) hx hb dX2_hasNumber_16 (by decide) ?_
    cases h
    exact pw_zret hx hb hr hlocks hAe (by decide) hQ hP hD hS dX2_hasNumber_17
  · replace h := ifn cq h
    refine lv_iload_n hx hb dX2_hasNumber_4 rfl (lv_at hl 1 rfl) ?_
    refine lv_aload_n hx hb dX2_hasNumber_5 rfl (lv_at hl 0 rfl) ?_
    refine va_get (D := D) (ci := 2) (v := .int kep) (C := RX2) (T := TX2) (N := 8) hx hb hts iX2 hown hK hP 0 rfl rfl 4 (by decide) (hts (.fieldLink RX2 32 "HiddenPeriods$State" "kept" "I") (by decide +kernel)) (fun _ h9 => h9) rfl dX2_hasNumber_6 ?_
    refine lv_icmp_ge (tgt := 16) hx hb dX2_hasNumber_9 (by decide) (fun cq => ?_) (fun cq => ?_)
    · replace h := ifp cq h
      refine lv_iconst (v := 0) hx hb dX2_hasNumber_16 (by decide) ?_
      cases h
      exact pw_zret hx hb hr hlocks hAe (by decide) hQ hP hD hS dX2_hasNumber_17
    · replace h := ifn cq h
      refine lv_iconst (v := 1) hx hb dX2_hasNumber_12 (by decide) ?_
      refine lv_goto (tgt := 17) hx hb dX2_hasNumber_13 (by decide) ?_
      cases h
      exact pw_zret hx hb hr hlocks hAe (by decide) hQ hP hD hS dX2_hasNumber_17
def fX2_hasPeriod_L2 (ten : Nat → Int32) (pha : Nat → Int32) (kep : Int32) (a1 : Int32) (a2 : Int32) : Nat → Int32 → Option Int32
  | 0, _ => none
  | n + 1, v3_2 =>
    if kep ≤ v3_2 then
    some 0
    else
    (fX2_tenthsAt ten v3_2).bind fun x1 =>
    if x1 = a1 then
    (fX2_phaseAt pha v3_2).bind fun x2 =>
    if x2 = a2 then
    some 1
    else
    fX2_hasPeriod_L2 ten pha kep a1 a2 n (v3_2 + 1)
    else
    fX2_hasPeriod_L2 ten pha kep a1 a2 n (v3_2 + 1)
def fX2_hasPeriod (ten : Nat → Int32) (pha : Nat → Int32) (kep : Int32) (a1 : Int32) (a2 : Int32) : Option Int32 :=
  fX2_hasPeriod_L2 ten pha kep a1 a2 FU 0
abbrev rmX2_hasPeriod : Room := { frames := 2, cells := 0, slots := 0, locals := 42 }
set_option maxHeartbeats 4000000 in
set_option maxRecDepth 100000 in
theorem mX2_hasPeriod (l : Launch) (D : va_G) (cI cO cJ : ClassId) (h2 h2_row h2_ten h2_pha : Nat) (sz : Nat) (row : Nat → Int32) (ten : Nat → Int32) (pha : Nat → Int32) (len : Int32) (kep : Int32) (wfi : Int32) (wmo : Int32) (hun : Int32) (a1 : Int32) (a2 : Int32) (z : Int32) (h : fX2_hasPeriod ten pha kep a1 a2 = some z) : Met l yX2_hasPeriod wsX2_hasPeriod rmX2_hasPeriod (pw_pre D (tyL cI cO cJ) [.ref h2, .int a1, .int a2] [(h2, .inr (2, [.ref h2_row, .ref h2_ten, .ref h2_pha, .int len, .int kep, .int wfi, .int wmo, .int hun])), (h2_row, .inl (cI, 240, .inl row)), (h2_ten, .inl (cI, 4, .inl ten)), (h2_pha, .inl (cI, 4, .inl pha))] sz) (pw_i D [(h2, .inr (2, [.ref h2_row, .ref h2_ten, .ref h2_pha, .int len, .int kep, .int wfi, .int wmo, .int hun])), (h2_row, .inl (cI, 240, .inl row)), (h2_ten, .inl (cI, 4, .inl ten)), (h2_pha, .inl (cI, 4, .inl pha))] [(h2, .inr (2, [.ref h2_row, .ref h2_ten, .ref h2_pha, .int len, .int kep, .int wfi, .int wmo, .int hun])), (h2_row, .inl (cI, 240, .inl row)), (h2_ten, .inl (cI, 4, .inl ten)), (h2_pha, .inl (cI, 4, .inl pha))] z sz) 0 0 (va_A [(h2, .inr (2, [.ref h2_row, .ref h2_ten, .ref h2_pha, .int len, .int kep, .int wfi, .int wmo, .int hun])), (h2_row, .inl (cI, 240, .inl row)), (h2_ten, .inl (cI, 4, .inl ten)), (h2_pha, .inl (cI, 4, .inl pha))] sz) := by
  refine pw_of (Qc := fun sz => pw_i D [(h2, .inr (2, [.ref h2_row, .ref h2_ten, .ref h2_pha, .int len, .int kep, .int wfi, .int wmo, .int hun])), (h2_row, .inl (cI, 240, .inl row)), (h2_ten, .inl (cI, 4, .inl ten)), (h2_pha, .inl (cI, 4, .inl pha))] [(h2, .inr (2, [.ref h2_row, .ref h2_ten, .ref h2_pha, .int len, .int kep, .int wfi, .int wmo, .int hun])), (h2_row, .inl (cI, 240, .inl row)), (h2_ten, .inl (cI, 4, .inl ten)), (h2_pha, .inl (cI, 4, .inl pha))] z sz) (cc := cX2_hasPeriod) (maxL := 4) (ret := (some .boolean)) (by decide) rfl (Nat.le_of_ble_eq_true rfl) ?_
  intro p e s m args below meth c A Q H ls hx hb hml hr hts hown hlocks hAe hQ hK hN hA hP hD hS hl
  have hown : s.vm.findClass RX2 = some m.cls := hown
  have hl : lv_has ls 4 [(0, .ref h2), (1, .int a1), (2, .int a2)] := hl
  have hP : va_P D vwCl ([(h2, .inr (2, [.ref h2_row, .ref h2_ten, .ref h2_pha, .int len, .int kep, .int wfi, .int wmo, .int hun])), (h2_row, .inl (cI, 240, .inl row)), (h2_ten, .inl (cI, 4, .inl ten)), (h2_pha, .inl (cI, 4, .inl pha))] ++ []) H := hP
  have hD : va_D A ([(h2, .inr (2, [.ref h2_row, .ref h2_ten, .ref h2_pha, .int len, .int kep, .int wfi, .int wmo, .int hun])), (h2_row, .inl (cI, 240, .inl row)), (h2_ten, .inl (cI, 4, .inl ten)), (h2_pha, .inl (cI, 4, .inl pha))] ++ []) := hD
  have iX2 : ∀ w ∈ u_ws RX2 TX2 8, w ∈ wsX2_hasPeriod := fun _ h => List.mem_cons_of_mem _ (List.mem_append_right _ h)
  unfold fX2_hasPeriod at h
  refine lv_iconst (v := 0) hx hb dX2_hasPeriod_0 (by decide) ?_
  refine lv_istore_n (lv' := [(3, .int 0), (0, .ref h2), (1, .int a1), (2, .int a2)]) hx hb dX2_hasPeriod_1 rfl hl (by decide) rfl (fun ls hl => ?_)
  have L2 : ∀ (n : Nat) (v3_2 : Int32) (H : Heap) (locs : List Loc) (ls : Array Slot), fX2_hasPeriod_L2 ten pha kep a1 a2 n v3_2 = some z → va_P D vwCl ([(h2, .inr (2, [.ref h2_row, .ref h2_ten, .ref h2_pha, .int len, .int kep, .int wfi, .int wmo, .int hun])), (h2_row, .inl (cI, 240, .inl row)), (h2_ten, .inl (cI, 4, .inl ten)), (h2_pha, .inl (cI, 4, .inl pha))] ++ []) H → va_D A ([(h2, .inr (2, [.ref h2_row, .ref h2_ten, .ref h2_pha, .int len, .int kep, .int wfi, .int wmo, .int hun])), (h2_row, .inl (cI, 240, .inl row)), (h2_ten, .inl (cI, 4, .inl ten)), (h2_pha, .inl (cI, 4, .inl pha))] ++ []) → va_S A s.heap H locs → lv_has ls 4 [(0, .ref h2), (1, .int a1), (2, .int a2), (3, .int v3_2)] → W p l e rmX2_hasPeriod s m args below meth c H locs 0 0 Q (F0 m 2 ls []) := by
    intro n
    induction n with
    | zero =>
      intro v3_2 H locs ls h
      rw [fX2_hasPeriod_L2] at h
      cases h
    | succ n ih =>
      intro v3_2 H locs ls h hP hD hS hl
      rw [fX2_hasPeriod_L2] at h
      refine lv_iload_n hx hb dX2_hasPeriod_2 rfl (lv_at hl 3 rfl) ?_
      refine lv_aload_n hx hb dX2_hasPeriod_3 rfl (lv_at hl 0 rfl) ?_
      refine va_get (D := D) (ci := 2) (v := .int kep) (C := RX2) (T := TX2) (N := 8) hx hb hts iX2 hown hK hP 0 rfl rfl 4 (by decide) (hts (.fieldLink RX2 32 "HiddenPeriods$State" "kept" "I") (by decide +kernel)) (fun _ h9 => h9) rfl dX2_hasPeriod_4 ?_
      refine lv_icmp_ge (tgt := 36) hx hb dX2_hasPeriod_7 (by decide) (fun cq => ?_) (fun cq => ?_)
      · replace h := ifp cq h
        refine lv_iconst (v := 0) hx hb dX2_hasPeriod_36 (by decide) ?_
        cases h
        exact pw_zret hx hb hr hlocks hAe (by decide) hQ hP hD hS dX2_hasPeriod_37
      · replace h := ifn cq h
        refine lv_aload_n hx hb dX2_hasPeriod_10 rfl (lv_at hl 0 rfl) ?_
        refine lv_iload_n hx hb dX2_hasPeriod_11 rfl (lv_at hl 3 rfl) ?_
        obtain ⟨x1, hx1, h⟩ := bnd h
        refine pw_goi (wc := [(h2, .inr (2, [.ref h2_row, .ref h2_ten, .ref h2_pha, .int len, .int kep, .int wfi, .int wmo, .int hun])), (h2_row, .inl (cI, 240, .inl row)), (h2_ten, .inl (cI, 4, .inl ten)), (h2_pha, .inl (cI, 4, .inl pha))]) (w1 := [(h2, .inr (2, [.ref h2_row, .ref h2_ten, .ref h2_pha, .int len, .int kep, .int wfi, .int wmo, .int hun])), (h2_row, .inl (cI, 240, .inl row)), (h2_ten, .inl (cI, 4, .inl ten)), (h2_pha, .inl (cI, 4, .inl pha))]) (w2 := [(h2, .inr (2, [.ref h2_row, .ref h2_ten, .ref h2_pha, .int len, .int kep, .int wfi, .int wmo, .int hun])), (h2_row, .inl (cI, 240, .inl row)), (h2_ten, .inl (cI, 4, .inl ten)), (h2_pha, .inl (cI, 4, .inl pha))]) (va_runV (As := [.int v3_2]) (rest := []) ⟨hx, hb, hml, hown, hts⟩ (mX2_tenthsAt l D cI cO cJ h2 h2_row h2_ten h2_pha H.size row ten pha len kep wfi wmo hun v3_2 _ hx1) (cwV 1 hts gX2_hasPeriod_X2_tenthsAt rfl rfl rfl (by decide +kernel) ⟨Nat.le_of_ble_eq_true rfl, Nat.le_of_ble_eq_true rfl⟩) (pw_preV hK hN (pw_sub hP [0, 1, 2, 3] rfl) (pw_subD hD [0, 1, 2, 3] (by decide) rfl) (ci := 2) (q0 := 0) rfl rfl) rfl rfl hl.1 rfl (lv_room (Nat.le_of_ble_eq_true rfl)) dX2_hasPeriod_12 ⟨Nat.zero_le _, Nat.zero_le _⟩) hP hD hS hA [0, 1, 2, 3] [] [0, 1, 2, 3] rfl rfl (by decide) (by decide) (by decide) rfl (fun H locs hP hD hS => ?_)
        refine lv_iload_n hx hb dX2_hasPeriod_15 rfl (lv_at hl 1 rfl) ?_
        refine lv_icmp_ne (tgt := 30) hx hb dX2_hasPeriod_16 (by decide) (fun cq => ?_) (fun cq => ?_)
        · replace h := ifn cq h
          refine lv_iinc (v := (v3_2 + 1)) (lv' := [(3, .int (v3_2 + 1)), (0, .ref h2), (1, .int a1), (2, .int a2)]) hx hb dX2_hasPeriod_30 hl (k := 3) rfl rfl (by decide) rfl (fun ls hl => ?_)
          refine lv_goto (tgt := 2) hx hb dX2_hasPeriod_33 (by decide) ?_
          exact ih _ _ _ _ h hP hD hS (lv_sub hl [1, 2, 3, 0] rfl)
        · replace h := ifp cq h
          refine lv_aload_n hx hb dX2_hasPeriod_19 rfl (lv_at hl 0 rfl) ?_
          refine lv_iload_n hx hb dX2_hasPeriod_20 rfl (lv_at hl 3 rfl) ?_
          obtain ⟨x2, hx2, h⟩ := bnd h
          refine pw_goi (wc := [(h2, .inr (2, [.ref h2_row, .ref h2_ten, .ref h2_pha, .int len, .int kep, .int wfi, .int wmo, .int hun])), (h2_row, .inl (cI, 240, .inl row)), (h2_ten, .inl (cI, 4, .inl ten)), (h2_pha, .inl (cI, 4, .inl pha))]) (w1 := [(h2, .inr (2, [.ref h2_row, .ref h2_ten, .ref h2_pha, .int len, .int kep, .int wfi, .int wmo, .int hun])), (h2_row, .inl (cI, 240, .inl row)), (h2_ten, .inl (cI, 4, .inl ten)), (h2_pha, .inl (cI, 4, .inl pha))]) (w2 := [(h2, .inr (2, [.ref h2_row, .ref h2_ten, .ref h2_pha, .int len, .int kep, .int wfi, .int wmo, .int hun])), (h2_row, .inl (cI, 240, .inl row)), (h2_ten, .inl (cI, 4, .inl ten)), (h2_pha, .inl (cI, 4, .inl pha))]) (va_runV (As := [.int v3_2]) (rest := []) ⟨hx, hb, hml, hown, hts⟩ (mX2_phaseAt l D cI cO cJ h2 h2_row h2_ten h2_pha H.size row ten pha len kep wfi wmo hun v3_2 _ hx2) (cwV 1 hts gX2_hasPeriod_X2_phaseAt rfl rfl rfl (by decide +kernel) ⟨Nat.le_of_ble_eq_true rfl, Nat.le_of_ble_eq_true rfl⟩) (pw_preV hK hN (pw_sub hP [0, 1, 2, 3] rfl) (pw_subD hD [0, 1, 2, 3] (by decide) rfl) (ci := 2) (q0 := 0) rfl rfl) rfl rfl hl.1 rfl (lv_room (Nat.le_of_ble_eq_true rfl)) dX2_hasPeriod_21 ⟨Nat.zero_le _, Nat.zero_le _⟩) hP hD hS hA [0, 1, 2, 3] [] [0, 1, 2, 3] rfl rfl (by decide) (by decide) (by decide) rfl (fun H locs hP hD hS => ?_)
          refine lv_iload_n hx hb dX2_hasPeriod_24 rfl (lv_at hl 2 rfl) ?_
          refine lv_icmp_ne (tgt := 30) hx hb dX2_hasPeriod_25 (by decide) (fun cq => ?_) (fun cq => ?_)
          · replace h := ifn cq h
            refine lv_iinc (v := (v3_2 + 1)) (lv' := [(3, .int (v3_2 + 1)), (0, .ref h2), (1, .int a1), (2, .int a2)]) hx hb dX2_hasPeriod_30 hl (k := 3) rfl rfl (by decide) rfl (fun ls hl => ?_)
            refine lv_goto (tgt := 2) hx hb dX2_hasPeriod_33 (by decide) ?_
            exact ih _ _ _ _ h hP hD hS (lv_sub hl [1, 2, 3, 0] rfl)
          · replace h := ifp cq h
            refine lv_iconst (v := 1) hx hb dX2_hasPeriod_28 (by decide) ?_
            cases h
            exact pw_zret hx hb hr hlocks hAe (by decide) hQ hP hD hS dX2_hasPeriod_29
  exact L2 FU _ _ _ _ h hP hD hS (lv_sub hl [1, 2, 3, 0] rfl)
def fX2_addPeriod (ten : Nat → Int32) (pha : Nat → Int32) (kep : Int32) (a1 : Int32) (a2 : Int32) : Option ((Nat → Int32) × (Nat → Int32) × Int32) :=
  (fX5_lay ten 4 kep a1).bind fun x1 =>
  (fX5_lay pha 4 kep a2).bind fun x2 =>
  some (x1, x2, (kep + 1))
abbrev rmX2_addPeriod : Room := { frames := 1, cells := 0, slots := 0, locals := 22 }
set_option maxHeartbeats 4000000 in
set_option maxRecDepth 100000 in
theorem mX2_addPeriod (l : Launch) (D : va_G) (cI cO cJ : ClassId) (h2 h2_row h2_ten h2_pha : Nat) (sz : Nat) (row : Nat → Int32) (ten : Nat → Int32) (pha : Nat → Int32) (len : Int32) (kep : Int32) (wfi : Int32) (wmo : Int32) (hun : Int32) (a1 : Int32) (a2 : Int32) (z : (Nat → Int32) × (Nat → Int32) × Int32) (h : fX2_addPeriod ten pha kep a1 a2 = some z) : Met l yX2_addPeriod wsX2_addPeriod rmX2_addPeriod (pw_pre D (tyL cI cO cJ) [.ref h2, .int a1, .int a2] [(h2, .inr (2, [.ref h2_row, .ref h2_ten, .ref h2_pha, .int len, .int kep, .int wfi, .int wmo, .int hun])), (h2_row, .inl (cI, 240, .inl row)), (h2_ten, .inl (cI, 4, .inl ten)), (h2_pha, .inl (cI, 4, .inl pha))] sz) (pw_v D [(h2, .inr (2, [.ref h2_row, .ref h2_ten, .ref h2_pha, .int len, .int kep, .int wfi, .int wmo, .int hun])), (h2_row, .inl (cI, 240, .inl row)), (h2_ten, .inl (cI, 4, .inl ten)), (h2_pha, .inl (cI, 4, .inl pha))] [(h2, .inr (2, [.ref h2_row, .ref h2_ten, .ref h2_pha, .int len, .int z.2.2, .int wfi, .int wmo, .int hun])), (h2_row, .inl (cI, 240, .inl row)), (h2_ten, .inl (cI, 4, .inl z.1)), (h2_pha, .inl (cI, 4, .inl z.2.1))] sz) 0 0 (va_A [(h2, .inr (2, [.ref h2_row, .ref h2_ten, .ref h2_pha, .int len, .int kep, .int wfi, .int wmo, .int hun])), (h2_row, .inl (cI, 240, .inl row)), (h2_ten, .inl (cI, 4, .inl ten)), (h2_pha, .inl (cI, 4, .inl pha))] sz) := by
  refine pw_of (Qc := fun sz => pw_v D [(h2, .inr (2, [.ref h2_row, .ref h2_ten, .ref h2_pha, .int len, .int kep, .int wfi, .int wmo, .int hun])), (h2_row, .inl (cI, 240, .inl row)), (h2_ten, .inl (cI, 4, .inl ten)), (h2_pha, .inl (cI, 4, .inl pha))] [(h2, .inr (2, [.ref h2_row, .ref h2_ten, .ref h2_pha, .int len, .int z.2.2, .int wfi, .int wmo, .int hun])), (h2_row, .inl (cI, 240, .inl row)), (h2_ten, .inl (cI, 4, .inl z.1)), (h2_pha, .inl (cI, 4, .inl z.2.1))] sz) (cc := cX2_addPeriod) (maxL := 3) (ret := none) (by decide) rfl (Nat.le_of_ble_eq_true rfl) ?_
  intro p e s m args below meth c A Q H ls hx hb hml hr hts hown hlocks hAe hQ hK hN hA hP hD hS hl
  have hown : s.vm.findClass RX2 = some m.cls := hown
  have hl : lv_has ls 3 [(0, .ref h2), (1, .int a1), (2, .int a2)] := hl
  have hP : va_P D vwCl ([(h2, .inr (2, [.ref h2_row, .ref h2_ten, .ref h2_pha, .int len, .int kep, .int wfi, .int wmo, .int hun])), (h2_row, .inl (cI, 240, .inl row)), (h2_ten, .inl (cI, 4, .inl ten)), (h2_pha, .inl (cI, 4, .inl pha))] ++ []) H := hP
  have hD : va_D A ([(h2, .inr (2, [.ref h2_row, .ref h2_ten, .ref h2_pha, .int len, .int kep, .int wfi, .int wmo, .int hun])), (h2_row, .inl (cI, 240, .inl row)), (h2_ten, .inl (cI, 4, .inl ten)), (h2_pha, .inl (cI, 4, .inl pha))] ++ []) := hD
  have iX2 : ∀ w ∈ u_ws RX2 TX2 8, w ∈ wsX2_addPeriod := fun _ h => List.mem_cons_of_mem _ (List.mem_append_right _ h)
  unfold fX2_addPeriod at h
  refine lv_aload_n hx hb dX2_addPeriod_0 rfl (lv_at hl 0 rfl) ?_
  refine va_get (D := D) (ci := 2) (v := .ref h2_ten) (C := RX2) (T := TX2) (N := 8) hx hb hts iX2 hown hK hP 0 rfl rfl 1 (by decide) (hts (.fieldLink RX2 15 "HiddenPeriods$State" "tenths" "[I") (by decide +kernel)) (fun _ h9 => h9) rfl dX2_addPeriod_1 ?_
  refine lv_aload_n hx hb dX2_addPeriod_4 rfl (lv_at hl 0 rfl) ?_
  refine va_get (D := D) (ci := 2) (v := .int kep) (C := RX2) (T := TX2) (N := 8) hx hb hts iX2 hown hK hP 0 rfl rfl 4 (by decide) (hts (.fieldLink RX2 32 "HiddenPeriods$State" "kept" "I") (by decide +kernel)) (fun _ h9 => h9) rfl dX2_addPeriod_5 ?_
  refine lv_iload_n hx hb dX2_addPeriod_8 rfl (lv_at hl 1 rfl) ?_
  obtain ⟨x1, hx1, h⟩ := bnd h
  refine pw_gov (wc := [(h2_ten, .inl (cI, 4, .inl ten))]) (w1 := [(h2_ten, .inl (cI, 4, .inl x1))]) (w2 := [(h2, .inr (2, [.ref h2_row, .ref h2_ten, .ref h2_pha, .int len, .int kep, .int wfi, .int wmo, .int hun])), (h2_row, .inl (cI, 240, .inl row)), (h2_ten, .inl (cI, 4, .inl x1)), (h2_pha, .inl (cI, 4, .inl pha))]) (va_runSN (As := [.ref h2_ten, .int kep, .int a1]) (rest := []) ⟨hx, hb, hml, hown, hts⟩ (mX5_lay l D cI cO cJ h2_ten H.size ten 4 kep a1 _ hx1) ⟨va_cnB 3 hts gX2_addPeriod_X5_lay_n41 rfl rfl rfl (hN (.methodLinkNest RX2 41 yX5_lay "HiddenPeriods") (by decide +kernel)) (hts (.initialized RX5) (by decide +kernel)) (by decide +kernel) ⟨Nat.le_of_ble_eq_true rfl, Nat.le_of_ble_eq_true rfl⟩, (hts (.static yX5_lay) (by decide +kernel)), trivial⟩ (pw_preS hK hN (pw_sub hP [2] rfl) (pw_subD hD [2] (by decide) rfl)) rfl rfl hl.1 rfl (lv_room (Nat.le_of_ble_eq_true rfl)) dX2_addPeriod_9 ⟨Nat.zero_le _, Nat.zero_le _⟩) hP hD hS hA [2] [0, 1, 3] [0, 1, 3, 2] rfl rfl (by decide) (by decide) (by decide) rfl (fun H locs hP hD hS => ?_)
  refine lv_aload_n hx hb dX2_addPeriod_12 rfl (lv_at hl 0 rfl) ?_
  refine va_get (D := D) (ci := 2) (v := .ref h2_pha) (C := RX2) (T := TX2) (N := 8) hx hb hts iX2 hown hK hP 0 rfl rfl 2 (by decide) (hts (.fieldLink RX2 18 "HiddenPeriods$State" "phases" "[I") (by decide +kernel)) (fun _ h9 => h9) rfl dX2_addPeriod_13 ?_
  refine lv_aload_n hx hb dX2_addPeriod_16 rfl (lv_at hl 0 rfl) ?_
  refine va_get (D := D) (ci := 2) (v := .int kep) (C := RX2) (T := TX2) (N := 8) hx hb hts iX2 hown hK hP 0 rfl rfl 4 (by decide) (hts (.fieldLink RX2 32 "HiddenPeriods$State" "kept" "I") (by decide +kernel)) (fun _ h9 => h9) rfl dX2_addPeriod_17 ?_
  refine lv_iload_n hx hb dX2_addPeriod_20 rfl (lv_at hl 2 rfl) ?_
  obtain ⟨x2, hx2, h⟩ := bnd h
  refine pw_gov (wc := [(h2_pha, .inl (cI, 4, .inl pha))]) (w1 := [(h2_pha, .inl (cI, 4, .inl x2))]) (w2 := [(h2, .inr (2, [.ref h2_row, .ref h2_ten, .ref h2_pha, .int len, .int kep, .int wfi, .int wmo, .int hun])), (h2_row, .inl (cI, 240, .inl row)), (h2_ten, .inl (cI, 4, .inl x1)), (h2_pha, .inl (cI, 4, .inl x2))]) (va_runSN (As := [.ref h2_pha, .int kep, .int a2]) (rest := []) ⟨hx, hb, hml, hown, hts⟩ (mX5_lay l D cI cO cJ h2_pha H.size pha 4 kep a2 _ hx2) ⟨va_cnB 3 hts gX2_addPeriod_X5_lay_n41 rfl rfl rfl (hN (.methodLinkNest RX2 41 yX5_lay "HiddenPeriods") (by decide +kernel)) (hts (.initialized RX5) (by decide +kernel)) (by decide +kernel) ⟨Nat.le_of_ble_eq_true rfl, Nat.le_of_ble_eq_true rfl⟩, (hts (.static yX5_lay) (by decide +kernel)), trivial⟩ (pw_preS hK hN (pw_sub hP [3] rfl) (pw_subD hD [3] (by decide) rfl)) rfl rfl hl.1 rfl (lv_room (Nat.le_of_ble_eq_true rfl)) dX2_addPeriod_21 ⟨Nat.zero_le _, Nat.zero_le _⟩) hP hD hS hA [3] [0, 1, 2] [0, 1, 2, 3] rfl rfl (by decide) (by decide) (by decide) rfl (fun H locs hP hD hS => ?_)
  refine lv_aload_n hx hb dX2_addPeriod_24 rfl (lv_at hl 0 rfl) ?_
  refine lv_dup hx hb dX2_addPeriod_25 rfl ?_
  refine va_get (D := D) (ci := 2) (v := .int kep) (C := RX2) (T := TX2) (N := 8) hx hb hts iX2 hown hK hP 0 rfl rfl 4 (by decide) (hts (.fieldLink RX2 32 "HiddenPeriods$State" "kept" "I") (by decide +kernel)) (fun _ h9 => h9) rfl dX2_addPeriod_26 ?_
  refine lv_iconst (v := 1) hx hb dX2_addPeriod_29 (by decide) ?_
  refine lv_iadd hx hb dX2_addPeriod_30 ?_
  refine va_put (D := D) (ci := 2) (v := .int (kep + 1)) (ty := .int) (C := RX2) (T := TX2) (N := 8) hx hb hts iX2 tyX2 tyX2_ok nmX2 hown hK hP hD hS 0 rfl rfl 4 (by decide) (hts (.fieldLink RX2 32 "HiddenPeriods$State" "kept" "I") (by decide +kernel)) (fun _ h9 => h9) rfl (by decide +kernel) rfl rfl (Nat.le_of_ble_eq_true rfl) dX2_addPeriod_31 (fun H locs hP hD hS => ?_)
  have hP : va_P D vwCl ([(h2, .inr (2, [.ref h2_row, .ref h2_ten, .ref h2_pha, .int len, .int (kep + 1), .int wfi, .int wmo, .int hun])), (h2_row, .inl (cI, 240, .inl row)), (h2_ten, .inl (cI, 4, .inl x1)), (h2_pha, .inl (cI, 4, .inl x2))] ++ []) H := hP
  have hD : va_D A ([(h2, .inr (2, [.ref h2_row, .ref h2_ten, .ref h2_pha, .int len, .int (kep + 1), .int wfi, .int wmo, .int hun])), (h2_row, .inl (cI, 240, .inl row)), (h2_ten, .inl (cI, 4, .inl x1)), (h2_pha, .inl (cI, 4, .inl x2))] ++ []) := hD
  cases h
  exact pw_vret hx hb hr hlocks hAe hQ hP hD hS dX2_addPeriod_34
def fX2_removePeriod_L12 (y1 : Int32) : Nat → Int32 → (Nat → Int32) → (Nat → Int32) → Option ((Nat → Int32) × (Nat → Int32))
  | 0, _, _, _ => none
  | n + 1, v2_12, ten_12, pha_12 =>
    if y1 ≤ v2_12 then
    some (ten_12, pha_12)
    else
    (fX2_tenthsAt ten_12 (v2_12 + 1)).bind fun x2 =>
    (fX5_lay ten_12 4 v2_12 x2).bind fun x3 =>
    (fX2_phaseAt pha_12 (v2_12 + 1)).bind fun x4 =>
    (fX5_lay pha_12 4 v2_12 x4).bind fun x5 =>
    fX2_removePeriod_L12 y1 n (v2_12 + 1) x3 x5
def fX2_removePeriod (ten : Nat → Int32) (pha : Nat → Int32) (kep : Int32) (a1 : Int32) : Option ((Nat → Int32) × (Nat → Int32) × Int32) :=
  (fX2_removePeriod_L12 (kep - 1) FU a1 ten pha).bind fun (x6_1, x6_2) =>
  some (x6_1, x6_2, (kep - 1))
abbrev rmX2_removePeriod : Room := { frames := 2, cells := 0, slots := 0, locals := 42 }
set_option maxHeartbeats 4000000 in
set_option maxRecDepth 100000 in
theorem mX2_removePeriod (l : Launch) (D : va_G) (cI cO cJ : ClassId) (h2 h2_row h2_ten h2_pha : Nat) (sz : Nat) (row : Nat → Int32) (ten : Nat → Int32) (pha : Nat → Int32) (len : Int32) (kep : Int32) (wfi : Int32) (wmo : Int32) (hun : Int32) (a1 : Int32) (z : (Nat → Int32) × (Nat → Int32) × Int32) (h : fX2_removePeriod ten pha kep a1 = some z) : Met l yX2_removePeriod wsX2_removePeriod rmX2_removePeriod (pw_pre D (tyL cI cO cJ) [.ref h2, .int a1] [(h2, .inr (2, [.ref h2_row, .ref h2_ten, .ref h2_pha, .int len, .int kep, .int wfi, .int wmo, .int hun])), (h2_row, .inl (cI, 240, .inl row)), (h2_ten, .inl (cI, 4, .inl ten)), (h2_pha, .inl (cI, 4, .inl pha))] sz) (pw_v D [(h2, .inr (2, [.ref h2_row, .ref h2_ten, .ref h2_pha, .int len, .int kep, .int wfi, .int wmo, .int hun])), (h2_row, .inl (cI, 240, .inl row)), (h2_ten, .inl (cI, 4, .inl ten)), (h2_pha, .inl (cI, 4, .inl pha))] [(h2, .inr (2, [.ref h2_row, .ref h2_ten, .ref h2_pha, .int len, .int z.2.2, .int wfi, .int wmo, .int hun])), (h2_row, .inl (cI, 240, .inl row)), (h2_ten, .inl (cI, 4, .inl z.1)), (h2_pha, .inl (cI, 4, .inl z.2.1))] sz) 0 0 (va_A [(h2, .inr (2, [.ref h2_row, .ref h2_ten, .ref h2_pha, .int len, .int kep, .int wfi, .int wmo, .int hun])), (h2_row, .inl (cI, 240, .inl row)), (h2_ten, .inl (cI, 4, .inl ten)), (h2_pha, .inl (cI, 4, .inl pha))] sz) := by
  refine pw_of (Qc := fun sz => pw_v D [(h2, .inr (2, [.ref h2_row, .ref h2_ten, .ref h2_pha, .int len, .int kep, .int wfi, .int wmo, .int hun])), (h2_row, .inl (cI, 240, .inl row)), (h2_ten, .inl (cI, 4, .inl ten)), (h2_pha, .inl (cI, 4, .inl pha))] [(h2, .inr (2, [.ref h2_row, .ref h2_ten, .ref h2_pha, .int len, .int z.2.2, .int wfi, .int wmo, .int hun])), (h2_row, .inl (cI, 240, .inl row)), (h2_ten, .inl (cI, 4, .inl z.1)), (h2_pha, .inl (cI, 4, .inl z.2.1))] sz) (cc := cX2_removePeriod) (maxL := 3) (ret := none) (by decide) rfl (Nat.le_of_ble_eq_true rfl) ?_
  intro p e s m args below meth c A Q H ls hx hb hml hr hts hown hlocks hAe hQ hK hN hA hP hD hS hl
  have hown : s.vm.findClass RX2 = some m.cls := hown
  have hl : lv_has ls 3 [(0, .ref h2), (1, .int a1)] := hl
  have hP : va_P D vwCl ([(h2, .inr (2, [.ref h2_row, .ref h2_ten, .ref h2_pha, .int len, .int kep, .int wfi, .int wmo, .int hun])), (h2_row, .inl (cI, 240, .inl row)), (h2_ten, .inl (cI, 4, .inl ten)), (h2_pha, .inl (cI, 4, .inl pha))] ++ []) H := hP
  have hD : va_D A ([(h2, .inr (2, [.ref h2_row, .ref h2_ten, .ref h2_pha, .int len, .int kep, .int wfi, .int wmo, .int hun])), (h2_row, .inl (cI, 240, .inl row)), (h2_ten, .inl (cI, 4, .inl ten)), (h2_pha, .inl (cI, 4, .inl pha))] ++ []) := hD
  have iX2 : ∀ w ∈ u_ws RX2 TX2 8, w ∈ wsX2_removePeriod := fun _ h => List.mem_cons_of_mem _ (List.mem_append_right _ h)
  unfold fX2_removePeriod at h
  refine lv_aload_n hx hb dX2_removePeriod_0 rfl (lv_at hl 0 rfl) ?_
  refine lv_dup hx hb dX2_removePeriod_1 rfl ?_
  refine va_get (D := D) (ci := 2) (v := .int kep) (C := RX2) (T := TX2) (N := 8) hx hb hts iX2 hown hK hP 0 rfl rfl 4 (by decide) (hts (.fieldLink RX2 32 "HiddenPeriods$State" "kept" "I") (by decide +kernel)) (fun _ h9 => h9) rfl dX2_removePeriod_2 ?_
  refine lv_iconst (v := 1) hx hb dX2_removePeriod_5 (by decide) ?_
  refine lv_isub hx hb dX2_removePeriod_6 ?_
  refine va_put (D := D) (ci := 2) (v := .int (kep - 1)) (ty := .int) (C := RX2) (T := TX2) (N := 8) hx hb hts iX2 tyX2 tyX2_ok nmX2 hown hK hP hD hS 0 rfl rfl 4 (by decide) (hts (.fieldLink RX2 32 "HiddenPeriods$State" "kept" "I") (by decide +kernel)) (fun _ h9 => h9) rfl (by decide +kernel) rfl rfl (Nat.le_of_ble_eq_true rfl) dX2_removePeriod_7 (fun H locs hP hD hS => ?_)
  have hP : va_P D vwCl ([(h2, .inr (2, [.ref h2_row, .ref h2_ten, .ref h2_pha, .int len, .int (kep - 1), .int wfi, .int wmo, .int hun])), (h2_row, .inl (cI, 240, .inl row)), (h2_ten, .inl (cI, 4, .inl ten)), (h2_pha, .inl (cI, 4, .inl pha))] ++ []) H := hP
  have hD : va_D A ([(h2, .inr (2, [.ref h2_row, .ref h2_ten, .ref h2_pha, .int len, .int (kep - 1), .int wfi, .int wmo, .int hun])), (h2_row, .inl (cI, 240, .inl row)), (h2_ten, .inl (cI, 4, .inl ten)), (h2_pha, .inl (cI, 4, .inl pha))] ++ []) := hD
  refine lv_iload_n hx hb dX2_removePeriod_10 rfl (lv_at hl 1 rfl) ?_
  refine lv_istore_n (lv' := [(2, .int a1), (0, .ref h2), (1, .int a1)]) hx hb dX2_removePeriod_11 rfl hl (by decide) rfl (fun ls hl => ?_)
  generalize hgy1 : (kep - 1) = y1 at h hP hD hl ⊢
  have L12 : ∀ (n : Nat) (v2_12 : Int32) (ten_12 : Nat → Int32) (pha_12 : Nat → Int32) (o12_1 : Nat → Int32) (o12_2 : Nat → Int32) (H : Heap) (locs : List Loc) (ls : Array Slot), fX2_removePeriod_L12 y1 n v2_12 ten_12 pha_12 = some (o12_1, o12_2) → va_P D vwCl ([(h2, .inr (2, [.ref h2_row, .ref h2_ten, .ref h2_pha, .int len, .int y1, .int wfi, .int wmo, .int hun])), (h2_row, .inl (cI, 240, .inl row)), (h2_ten, .inl (cI, 4, .inl ten_12)), (h2_pha, .inl (cI, 4, .inl pha_12))] ++ []) H → va_D A ([(h2, .inr (2, [.ref h2_row, .ref h2_ten, .ref h2_pha, .int len, .int y1, .int wfi, .int wmo, .int hun])), (h2_row, .inl (cI, 240, .inl row)), (h2_ten, .inl (cI, 4, .inl ten_12)), (h2_pha, .inl (cI, 4, .inl pha_12))] ++ []) → va_S A s.heap H locs → lv_has ls 3 [(0, .ref h2), (2, .int v2_12)] → (∀ (H : Heap) (locs : List Loc) (ls : Array Slot), va_P D vwCl ([(h2, .inr (2, [.ref h2_row, .ref h2_ten, .ref h2_pha, .int len, .int y1, .int wfi, .int wmo, .int hun])), (h2_row, .inl (cI, 240, .inl row)), (h2_ten, .inl (cI, 4, .inl o12_1)), (h2_pha, .inl (cI, 4, .inl o12_2))] ++ []) H → va_D A ([(h2, .inr (2, [.ref h2_row, .ref h2_ten, .ref h2_pha, .int len, .int y1, .int wfi, .int wmo, .int hun])), (h2_row, .inl (cI, 240, .inl row)), (h2_ten, .inl (cI, 4, .inl o12_1)), (h2_pha, .inl (cI, 4, .inl o12_2))] ++ []) → va_S A s.heap H locs → lv_has ls 3 [] → W p l e rmX2_removePeriod s m args below meth c H locs 0 0 Q (F0 m 56 ls [])) → W p l e rmX2_removePeriod s m args below meth c H locs 0 0 Q (F0 m 12 ls []) := by
    intro n
    induction n with
    | zero =>
      intro v2_12 ten_12 pha_12 o12_1 o12_2 H locs ls h
      rw [fX2_removePeriod_L12] at h
      cases h
    | succ n ih =>
      intro v2_12 ten_12 pha_12 o12_1 o12_2 H locs ls h hP hD hS hl K
      rw [fX2_removePeriod_L12] at h
      refine lv_iload_n hx hb dX2_removePeriod_12 rfl (lv_at hl 1 rfl) ?_
      refine lv_aload_n hx hb dX2_removePeriod_13 rfl (lv_at hl 0 rfl) ?_
      refine va_get (D := D) (ci := 2) (v := .int y1) (C := RX2) (T := TX2) (N := 8) hx hb hts iX2 hown hK hP 0 rfl rfl 4 (by decide) (hts (.fieldLink RX2 32 "HiddenPeriods$State" "kept" "I") (by decide +kernel)) (fun _ h9 => h9) rfl dX2_removePeriod_14 ?_
      refine lv_icmp_ge (tgt := 56) hx hb dX2_removePeriod_17 (by decide) (fun cq => ?_) (fun cq => ?_)
      · replace h := ifp cq h
        cases h
        exact K _ _ _ hP hD hS (lv_sub hl [] rfl)
      · replace h := ifn cq h
        refine lv_aload_n hx hb dX2_removePeriod_20 rfl (lv_at hl 0 rfl) ?_
        refine va_get (D := D) (ci := 2) (v := .ref h2_ten) (C := RX2) (T := TX2) (N := 8) hx hb hts iX2 hown hK hP 0 rfl rfl 1 (by decide) (hts (.fieldLink RX2 15 "HiddenPeriods$State" "tenths" "[I") (by decide +kernel)) (fun _ h9 => h9) rfl dX2_removePeriod_21 ?_
        refine lv_iload_n hx hb dX2_removePeriod_24 rfl (lv_at hl 1 rfl) ?_
        refine lv_aload_n hx hb dX2_removePeriod_25 rfl (lv_at hl 0 rfl) ?_
        refine lv_iload_n hx hb dX2_removePeriod_26 rfl (lv_at hl 1 rfl) ?_
        refine lv_iconst (v := 1) hx hb dX2_removePeriod_27 (by decide) ?_
        refine lv_iadd hx hb dX2_removePeriod_28 ?_
        obtain ⟨x2, hx2, h⟩ := bnd h
        refine pw_goi (wc := [(h2, .inr (2, [.ref h2_row, .ref h2_ten, .ref h2_pha, .int len, .int y1, .int wfi, .int wmo, .int hun])), (h2_row, .inl (cI, 240, .inl row)), (h2_ten, .inl (cI, 4, .inl ten_12)), (h2_pha, .inl (cI, 4, .inl pha_12))]) (w1 := [(h2, .inr (2, [.ref h2_row, .ref h2_ten, .ref h2_pha, .int len, .int y1, .int wfi, .int wmo, .int hun])), (h2_row, .inl (cI, 240, .inl row)), (h2_ten, .inl (cI, 4, .inl ten_12)), (h2_pha, .inl (cI, 4, .inl pha_12))]) (w2 := [(h2, .inr (2, [.ref h2_row, .ref h2_ten, .ref h2_pha, .int len, .int y1, .int wfi, .int wmo, .int hun])), (h2_row, .inl (cI, 240, .inl row)), (h2_ten, .inl (cI, 4, .inl ten_12)), (h2_pha, .inl (cI, 4, .inl pha_12))]) (va_runV (As := [.int (v2_12 + 1)]) (rest := [.int v2_12, .ref h2_ten]) ⟨hx, hb, hml, hown, hts⟩ (mX2_tenthsAt l D cI cO cJ h2 h2_row h2_ten h2_pha H.size row ten_12 pha_12 len y1 wfi wmo hun (v2_12 + 1) _ hx2) (cwV 1 hts gX2_removePeriod_X2_tenthsAt rfl rfl rfl (by decide +kernel) ⟨Nat.le_of_ble_eq_true rfl, Nat.le_of_ble_eq_true rfl⟩) (pw_preV hK hN (pw_sub hP [0, 1, 2, 3] rfl) (pw_subD hD [0, 1, 2, 3] (by decide) rfl) (ci := 2) (q0 := 0) rfl rfl) rfl rfl hl.1 rfl (lv_room (Nat.le_of_ble_eq_true rfl)) dX2_removePeriod_29 ⟨Nat.zero_le _, Nat.zero_le _⟩) hP hD hS hA [0, 1, 2, 3] [] [0, 1, 2, 3] rfl rfl (by decide) (by decide) (by decide) rfl (fun H locs hP hD hS => ?_)
        obtain ⟨x3, hx3, h⟩ := bnd h
        refine pw_gov (wc := [(h2_ten, .inl (cI, 4, .inl ten_12))]) (w1 := [(h2_ten, .inl (cI, 4, .inl x3))]) (w2 := [(h2, .inr (2, [.ref h2_row, .ref h2_ten, .ref h2_pha, .int len, .int y1, .int wfi, .int wmo, .int hun])), (h2_row, .inl (cI, 240, .inl row)), (h2_ten, .inl (cI, 4, .inl x3)), (h2_pha, .inl (cI, 4, .inl pha_12))]) (va_runSN (As := [.ref h2_ten, .int v2_12, .int x2]) (rest := []) ⟨hx, hb, hml, hown, hts⟩ (mX5_lay l D cI cO cJ h2_ten H.size ten_12 4 v2_12 x2 _ hx3) ⟨va_cnB 3 hts gX2_removePeriod_X5_lay_n41 rfl rfl rfl (hN (.methodLinkNest RX2 41 yX5_lay "HiddenPeriods") (by decide +kernel)) (hts (.initialized RX5) (by decide +kernel)) (by decide +kernel) ⟨Nat.le_of_ble_eq_true rfl, Nat.le_of_ble_eq_true rfl⟩, (hts (.static yX5_lay) (by decide +kernel)), trivial⟩ (pw_preS hK hN (pw_sub hP [2] rfl) (pw_subD hD [2] (by decide) rfl)) rfl rfl hl.1 rfl (lv_room (Nat.le_of_ble_eq_true rfl)) dX2_removePeriod_32 ⟨Nat.zero_le _, Nat.zero_le _⟩) hP hD hS hA [2] [0, 1, 3] [0, 1, 3, 2] rfl rfl (by decide) (by decide) (by decide) rfl (fun H locs hP hD hS => ?_)
        refine lv_aload_n hx hb dX2_removePeriod_35 rfl (lv_at hl 0 rfl) ?_
        refine va_get (D := D) (ci := 2) (v := .ref h2_pha) (C := RX2) (T := TX2) (N := 8) hx hb hts iX2 hown hK hP 0 rfl rfl 2 (by decide) (hts (.fieldLink RX2 18 "HiddenPeriods$State" "phases" "[I") (by decide +kernel)) (fun _ h9 => h9) rfl dX2_removePeriod_36 ?_
        refine lv_iload_n hx hb dX2_removePeriod_39 rfl (lv_at hl 1 rfl) ?_
        refine lv_aload_n hx hb dX2_removePeriod_40 rfl (lv_at hl 0 rfl) ?_
        refine lv_iload_n hx hb dX2_removePeriod_41 rfl (lv_at hl 1 rfl) ?_
        refine lv_iconst (v := 1) hx hb dX2_removePeriod_42 (by decide) ?_
        refine lv_iadd hx hb dX2_removePeriod_43 ?_
        obtain ⟨x4, hx4, h⟩ := bnd h
        refine pw_goi (wc := [(h2, .inr (2, [.ref h2_row, .ref h2_ten, .ref h2_pha, .int len, .int y1, .int wfi, .int wmo, .int hun])), (h2_row, .inl (cI, 240, .inl row)), (h2_ten, .inl (cI, 4, .inl x3)), (h2_pha, .inl (cI, 4, .inl pha_12))]) (w1 := [(h2, .inr (2, [.ref h2_row, .ref h2_ten, .ref h2_pha, .int len, .int y1, .int wfi, .int wmo, .int hun])), (h2_row, .inl (cI, 240, .inl row)), (h2_ten, .inl (cI, 4, .inl x3)), (h2_pha, .inl (cI, 4, .inl pha_12))]) (w2 := [(h2, .inr (2, [.ref h2_row, .ref h2_ten, .ref h2_pha, .int len, .int y1, .int wfi, .int wmo, .int hun])), (h2_row, .inl (cI, 240, .inl row)), (h2_ten, .inl (cI, 4, .inl x3)), (h2_pha, .inl (cI, 4, .inl pha_12))]) (va_runV (As := [.int (v2_12 + 1)]) (rest := [.int v2_12, .ref h2_pha]) ⟨hx, hb, hml, hown, hts⟩ (mX2_phaseAt l D cI cO cJ h2 h2_row h2_ten h2_pha H.size row x3 pha_12 len y1 wfi wmo hun (v2_12 + 1) _ hx4) (cwV 1 hts gX2_removePeriod_X2_phaseAt rfl rfl rfl (by decide +kernel) ⟨Nat.le_of_ble_eq_true rfl, Nat.le_of_ble_eq_true rfl⟩) (pw_preV hK hN (pw_sub hP [0, 1, 2, 3] rfl) (pw_subD hD [0, 1, 2, 3] (by decide) rfl) (ci := 2) (q0 := 0) rfl rfl) rfl rfl hl.1 rfl (lv_room (Nat.le_of_ble_eq_true rfl)) dX2_removePeriod_44 ⟨Nat.zero_le _, Nat.zero_le _⟩) hP hD hS hA [0, 1, 2, 3] [] [0, 1, 2, 3] rfl rfl (by decide) (by decide) (by decide) rfl (fun H locs hP hD hS => ?_)
        obtain ⟨x5, hx5, h⟩ := bnd h
        refine pw_gov (wc := [(h2_pha, .inl (cI, 4, .inl pha_12))]) (w1 := [(h2_pha, .inl (cI, 4, .inl x5))]) (w2 := [(h2, .inr (2, [.ref h2_row, .ref h2_ten, .ref h2_pha, .int len, .int y1, .int wfi, .int wmo, .int hun])), (h2_row, .inl (cI, 240, .inl row)), (h2_ten, .inl (cI, 4, .inl x3)), (h2_pha, .inl (cI, 4, .inl x5))]) (va_runSN (As := [.ref h2_pha, .int v2_12, .int x4]) (rest := []) ⟨hx, hb, hml, hown, hts⟩ (mX5_lay l D cI cO cJ h2_pha H.size pha_12 4 v2_12 x4 _ hx5) ⟨va_cnB 3 hts gX2_removePeriod_X5_lay_n41 rfl rfl rfl (hN (.methodLinkNest RX2 41 yX5_lay "HiddenPeriods") (by decide +kernel)) (hts (.initialized RX5) (by decide +kernel)) (by decide +kernel) ⟨Nat.le_of_ble_eq_true rfl, Nat.le_of_ble_eq_true rfl⟩, (hts (.static yX5_lay) (by decide +kernel)), trivial⟩ (pw_preS hK hN (pw_sub hP [3] rfl) (pw_subD hD [3] (by decide) rfl)) rfl rfl hl.1 rfl (lv_room (Nat.le_of_ble_eq_true rfl)) dX2_removePeriod_47 ⟨Nat.zero_le _, Nat.zero_le _⟩) hP hD hS hA [3] [0, 1, 2] [0, 1, 2, 3] rfl rfl (by decide) (by decide) (by decide) rfl (fun H locs hP hD hS => ?_)
        refine lv_iinc (v := (v2_12 + 1)) (lv' := [(2, .int (v2_12 + 1)), (0, .ref h2)]) hx hb dX2_removePeriod_50 hl (k := 1) rfl rfl (by decide) rfl (fun ls hl => ?_)
        refine lv_goto (tgt := 12) hx hb dX2_removePeriod_53 (by decide) ?_
        exact ih _ _ _ _ _ _ _ _ h hP hD hS (lv_sub hl [1, 0] rfl) K
  obtain ⟨⟨x6_1, x6_2⟩, hx6, h⟩ := bnd h
  refine L12 FU _ _ _ _ _ _ _ _ hx6 hP hD hS (lv_sub hl [1, 0] rfl) (fun H locs ls hP hD hS hl => ?_)
  cases h
  exact pw_vret hx hb hr hlocks hAe hQ hP hD hS dX2_removePeriod_56
def fX2_settingAt (wfi : Int32) (wmo : Int32) (hun : Int32) (a1 : Int32) : Option Int32 :=
  if a1 = 0 then
  some wfi
  else
  if a1 = 1 then
  some wmo
  else
  some hun
abbrev rmX2_settingAt : Room := { frames := 0, cells := 0, slots := 0, locals := 0 }
set_option maxHeartbeats 4000000 in
set_option maxRecDepth 100000 in
theorem mX2_settingAt (l : Launch) (D : va_G) (cI cO cJ : ClassId) (h2 h2_row h2_ten h2_pha : Nat) (sz : Nat) (row : Nat → Int32) (ten : Nat → Int32) (pha : Nat → Int32) (len : Int32) (kep : Int32) (wfi : Int32) (wmo : Int32) (hun : Int32) (a1 : Int32) (z : Int32) (h : fX2_settingAt wfi wmo hun a1 = some z) : Met l yX2_settingAt wsX2_settingAt rmX2_settingAt (pw_pre D (tyL cI cO cJ) [.ref h2, .int a1] [(h2, .inr (2, [.ref h2_row, .ref h2_ten, .ref h2_pha, .int len, .int kep, .int wfi, .int wmo, .int hun])), (h2_row, .inl (cI, 240, .inl row)), (h2_ten, .inl (cI, 4, .inl ten)), (h2_pha, .inl (cI, 4, .inl pha))] sz) (pw_i D [(h2, .inr (2, [.ref h2_row, .ref h2_ten, .ref h2_pha, .int len, .int kep, .int wfi, .int wmo, .int hun])), (h2_row, .inl (cI, 240, .inl row)), (h2_ten, .inl (cI, 4, .inl ten)), (h2_pha, .inl (cI, 4, .inl pha))] [(h2, .inr (2, [.ref h2_row, .ref h2_ten, .ref h2_pha, .int len, .int kep, .int wfi, .int wmo, .int hun])), (h2_row, .inl (cI, 240, .inl row)), (h2_ten, .inl (cI, 4, .inl ten)), (h2_pha, .inl (cI, 4, .inl pha))] z sz) 0 0 (va_A [(h2, .inr (2, [.ref h2_row, .ref h2_ten, .ref h2_pha, .int len, .int kep, .int wfi, .int wmo, .int hun])), (h2_row, .inl (cI, 240, .inl row)), (h2_ten, .inl (cI, 4, .inl ten)), (h2_pha, .inl (cI, 4, .inl pha))] sz) := by
  refine pw_of (Qc := fun sz => pw_i D [(h2, .inr (2, [.ref h2_row, .ref h2_ten, .ref h2_pha, .int len, .int kep, .int wfi, .int wmo, .int hun])), (h2_row, .inl (cI, 240, .inl row)), (h2_ten, .inl (cI, 4, .inl ten)), (h2_pha, .inl (cI, 4, .inl pha))] [(h2, .inr (2, [.ref h2_row, .ref h2_ten, .ref h2_pha, .int len, .int kep, .int wfi, .int wmo, .int hun])), (h2_row, .inl (cI, 240, .inl row)), (h2_ten, .inl (cI, 4, .inl ten)), (h2_pha, .inl (cI, 4, .inl pha))] z sz) (cc := cX2_settingAt) (maxL := 2) (ret := (some .int)) (by decide) rfl (Nat.le_of_ble_eq_true rfl) ?_
  intro p e s m args below meth c A Q H ls hx hb hml hr hts hown hlocks hAe hQ hK hN hA hP hD hS hl
  have hown : s.vm.findClass RX2 = some m.cls := hown
  have hl : lv_has ls 2 [(0, .ref h2), (1, .int a1)] := hl
  have hP : va_P D vwCl ([(h2, .inr (2, [.ref h2_row, .ref h2_ten, .ref h2_pha, .int len, .int kep, .int wfi, .int wmo, .int hun])), (h2_row, .inl (cI, 240, .inl row)), (h2_ten, .inl (cI, 4, .inl ten)), (h2_pha, .inl (cI, 4, .inl pha))] ++ []) H := hP
  have hD : va_D A ([(h2, .inr (2, [.ref h2_row, .ref h2_ten, .ref h2_pha, .int len, .int kep, .int wfi, .int wmo, .int hun])), (h2_row, .inl (cI, 240, .inl row)), (h2_ten, .inl (cI, 4, .inl ten)), (h2_pha, .inl (cI, 4, .inl pha))] ++ []) := hD
  have iX2 : ∀ w ∈ u_ws RX2 TX2 8, w ∈ wsX2_settingAt := fun _ h => List.mem_cons_of_mem _ (List.mem_append_right _ h)
  unfold fX2_settingAt at h
  refine lv_iload_n hx hb dX2_settingAt_0 rfl (lv_at hl 1 rfl) ?_
  refine lv_if_ne (tgt := 9) hx hb dX2_settingAt_1 (by decide) (fun cq => ?_) (fun cq => ?_)
  · replace h := ifn cq h
    refine lv_iload_n hx hb dX2_settingAt_9 rfl (lv_at hl 1 rfl) ?_
    refine lv_iconst (v := 1) hx hb dX2_settingAt_10 (by decide) ?_
    refine lv_icmp_ne (tgt := 21) hx hb dX2_settingAt_11 (by decide) (fun cq => ?_) (fun cq => ?_)
    · replace h := ifn cq h
      refine lv_aload_n hx hb dX2_settingAt_21 rfl (lv_at hl 0 rfl) ?_
      refine va_get (D := D) (ci := 2) (v := .int hun) (C := RX2) (T := TX2) (N := 8) hx hb hts iX2 hown hK hP 0 rfl rfl 7 (by decide) (hts (.fieldLink RX2 21 "HiddenPeriods$State" "hundredths" "I") (by decide +kernel)) (fun _ h9 => h9) rfl dX2_settingAt_22 ?_
      cases h
      exact pw_iret hx hb hr hlocks hAe hQ hP hD hS dX2_settingAt_25
    · replace h := ifp cq h
      refine lv_aload_n hx hb dX2_settingAt_14 rfl (lv_at hl 0 rfl) ?_
      refine va_get (D := D) (ci := 2) (v := .int wmo) (C := RX2) (T := TX2) (N := 8) hx hb hts iX2 hown hK hP 0 rfl rfl 6 (by decide) (hts (.fieldLink RX2 38 "HiddenPeriods$State" "mostPlaces" "I") (by decide +kernel)) (fun _ h9 => h9) rfl dX2_settingAt_15 ?_
      refine lv_goto (tgt := 25) hx hb dX2_settingAt_18 (by decide) ?_
      cases h
      exact pw_iret hx hb hr hlocks hAe hQ hP hD hS dX2_settingAt_25
  · replace h := ifp cq h
    refine lv_aload_n hx hb dX2_settingAt_4 rfl (lv_at hl 0 rfl) ?_
    refine va_get (D := D) (ci := 2) (v := .int wfi) (C := RX2) (T := TX2) (N := 8) hx hb hts iX2 hown hK hP 0 rfl rfl 5 (by decide) (hts (.fieldLink RX2 35 "HiddenPeriods$State" "firstPlace" "I") (by decide +kernel)) (fun _ h9 => h9) rfl dX2_settingAt_5 ?_
    cases h
    exact pw_iret hx hb hr hlocks hAe hQ hP hD hS dX2_settingAt_8
def fX2_changeSetting (wfi : Int32) (wmo : Int32) (hun : Int32) (a1 : Int32) (a2 : Int32) : Option (Int32 × Int32 × Int32) :=
  if a1 = 0 then
  some (a2, wmo, hun)
  else
  if a1 = 1 then
  some (wfi, a2, hun)
  else
  some (wfi, wmo, a2)
abbrev rmX2_changeSetting : Room := { frames := 0, cells := 0, slots := 0, locals := 0 }
set_option maxHeartbeats 4000000 in
set_option maxRecDepth 100000 in
theorem mX2_changeSetting (l : Launch) (D : va_G) (cI cO cJ : ClassId) (h2 h2_row h2_ten h2_pha : Nat) (sz : Nat) (row : Nat → Int32) (ten : Nat → Int32) (pha : Nat → Int32) (len : Int32) (kep : Int32) (wfi : Int32) (wmo : Int32) (hun : Int32) (a1 : Int32) (a2 : Int32) (z : Int32 × Int32 × Int32) (h : fX2_changeSetting wfi wmo hun a1 a2 = some z) : Met l yX2_changeSetting wsX2_changeSetting rmX2_changeSetting (pw_pre D (tyL cI cO cJ) [.ref h2, .int a1, .int a2] [(h2, .inr (2, [.ref h2_row, .ref h2_ten, .ref h2_pha, .int len, .int kep, .int wfi, .int wmo, .int hun])), (h2_row, .inl (cI, 240, .inl row)), (h2_ten, .inl (cI, 4, .inl ten)), (h2_pha, .inl (cI, 4, .inl pha))] sz) (pw_v D [(h2, .inr (2, [.ref h2_row, .ref h2_ten, .ref h2_pha, .int len, .int kep, .int wfi, .int wmo, .int hun])), (h2_row, .inl (cI, 240, .inl row)), (h2_ten, .inl (cI, 4, .inl ten)), (h2_pha, .inl (cI, 4, .inl pha))] [(h2, .inr (2, [.ref h2_row, .ref h2_ten, .ref h2_pha, .int len, .int kep, .int z.1, .int z.2.1, .int z.2.2])), (h2_row, .inl (cI, 240, .inl row)), (h2_ten, .inl (cI, 4, .inl ten)), (h2_pha, .inl (cI, 4, .inl pha))] sz) 0 0 (va_A [(h2, .inr (2, [.ref h2_row, .ref h2_ten, .ref h2_pha, .int len, .int kep, .int wfi, .int wmo, .int hun])), (h2_row, .inl (cI, 240, .inl row)), (h2_ten, .inl (cI, 4, .inl ten)), (h2_pha, .inl (cI, 4, .inl pha))] sz) := by
  refine pw_of (Qc := fun sz => pw_v D [(h2, .inr (2, [.ref h2_row, .ref h2_ten, .ref h2_pha, .int len, .int kep, .int wfi, .int wmo, .int hun])), (h2_row, .inl (cI, 240, .inl row)), (h2_ten, .inl (cI, 4, .inl ten)), (h2_pha, .inl (cI, 4, .inl pha))] [(h2, .inr (2, [.ref h2_row, .ref h2_ten, .ref h2_pha, .int len, .int kep, .int z.1, .int z.2.1, .int z.2.2])), (h2_row, .inl (cI, 240, .inl row)), (h2_ten, .inl (cI, 4, .inl ten)), (h2_pha, .inl (cI, 4, .inl pha))] sz) (cc := cX2_changeSetting) (maxL := 3) (ret := none) (by decide) rfl (Nat.le_of_ble_eq_true rfl) ?_
  intro p e s m args below meth c A Q H ls hx hb hml hr hts hown hlocks hAe hQ hK hN hA hP hD hS hl
  have hown : s.vm.findClass RX2 = some m.cls := hown
  have hl : lv_has ls 3 [(0, .ref h2), (1, .int a1), (2, .int a2)] := hl
  have hP : va_P D vwCl ([(h2, .inr (2, [.ref h2_row, .ref h2_ten, .ref h2_pha, .int len, .int kep, .int wfi, .int wmo, .int hun])), (h2_row, .inl (cI, 240, .inl row)), (h2_ten, .inl (cI, 4, .inl ten)), (h2_pha, .inl (cI, 4, .inl pha))] ++ []) H := hP
  have hD : va_D A ([(h2, .inr (2, [.ref h2_row, .ref h2_ten, .ref h2_pha, .int len, .int kep, .int wfi, .int wmo, .int hun])), (h2_row, .inl (cI, 240, .inl row)), (h2_ten, .inl (cI, 4, .inl ten)), (h2_pha, .inl (cI, 4, .inl pha))] ++ []) := hD
  have iX2 : ∀ w ∈ u_ws RX2 TX2 8, w ∈ wsX2_changeSetting := fun _ h => List.mem_cons_of_mem _ (List.mem_append_right _ h)
  unfold fX2_changeSetting at h
  refine lv_iload_n hx hb dX2_changeSetting_0 rfl (lv_at hl 1 rfl) ?_
  refine lv_if_ne (tgt := 12) hx hb dX2_changeSetting_1 (by decide) (fun cq => ?_) (fun cq => ?_)
  · replace h := ifn cq h
    refine lv_iload_n hx hb dX2_changeSetting_12 rfl (lv_at hl 1 rfl) ?_
    refine lv_iconst (v := 1) hx hb dX2_changeSetting_13 (by decide) ?_
    refine lv_icmp_ne (tgt := 25) hx hb dX2_changeSetting_14 (by decide) (fun cq => ?_) (fun cq => ?_)
    · replace h := ifn cq h
      refine lv_aload_n hx hb dX2_changeSetting_25 rfl (lv_at hl 0 rfl) ?_
      refine lv_iload_n hx hb dX2_changeSetting_26 rfl (lv_at hl 2 rfl) ?_
      refine va_put (D := D) (ci := 2) (v := .int a2) (ty := .int) (C := RX2) (T := TX2) (N := 8) hx hb hts iX2 tyX2 tyX2_ok nmX2 hown hK hP hD hS 0 rfl rfl 7 (by decide) (hts (.fieldLink RX2 21 "HiddenPeriods$State" "hundredths" "I") (by decide +kernel)) (fun _ h9 => h9) rfl (by decide +kernel) rfl rfl (Nat.le_of_ble_eq_true rfl) dX2_changeSetting_27 (fun H locs hP hD hS => ?_)
      have hP : va_P D vwCl ([(h2, .inr (2, [.ref h2_row, .ref h2_ten, .ref h2_pha, .int len, .int kep, .int wfi, .int wmo, .int a2])), (h2_row, .inl (cI, 240, .inl row)), (h2_ten, .inl (cI, 4, .inl ten)), (h2_pha, .inl (cI, 4, .inl pha))] ++ []) H := hP
      have hD : va_D A ([(h2, .inr (2, [.ref h2_row, .ref h2_ten, .ref h2_pha, .int len, .int kep, .int wfi, .int wmo, .int a2])), (h2_row, .inl (cI, 240, .inl row)), (h2_ten, .inl (cI, 4, .inl ten)), (h2_pha, .inl (cI, 4, .inl pha))] ++ []) := hD
      cases h
      exact pw_vret hx hb hr hlocks hAe hQ hP hD hS dX2_changeSetting_30
    · replace h := ifp cq h
      refine lv_aload_n hx hb dX2_changeSetting_17 rfl (lv_at hl 0 rfl) ?_
      refine lv_iload_n hx hb dX2_changeSetting_18 rfl (lv_at hl 2 rfl) ?_
      refine va_put (D := D) (ci := 2) (v := .int a2) (ty := .int) (C := RX2) (T := TX2) (N := 8) hx hb hts iX2 tyX2 tyX2_ok nmX2 hown hK hP hD hS 0 rfl rfl 6 (by decide) (hts (.fieldLink RX2 38 "HiddenPeriods$State" "mostPlaces" "I") (by decide +kernel)) (fun _ h9 => h9) rfl (by decide +kernel) rfl rfl (Nat.le_of_ble_eq_true rfl) dX2_changeSetting_19 (fun H locs hP hD hS => ?_)
      have hP : va_P D vwCl ([(h2, .inr (2, [.ref h2_row, .ref h2_ten, .ref h2_pha, .int len, .int kep, .int wfi, .int a2, .int hun])), (h2_row, .inl (cI, 240, .inl row)), (h2_ten, .inl (cI, 4, .inl ten)), (h2_pha, .inl (cI, 4, .inl pha))] ++ []) H := hP
      have hD : va_D A ([(h2, .inr (2, [.ref h2_row, .ref h2_ten, .ref h2_pha, .int len, .int kep, .int wfi, .int a2, .int hun])), (h2_row, .inl (cI, 240, .inl row)), (h2_ten, .inl (cI, 4, .inl ten)), (h2_pha, .inl (cI, 4, .inl pha))] ++ []) := hD
      refine lv_goto (tgt := 30) hx hb dX2_changeSetting_22 (by decide) ?_
      cases h
      exact pw_vret hx hb hr hlocks hAe hQ hP hD hS dX2_changeSetting_30
  · replace h := ifp cq h
    refine lv_aload_n hx hb dX2_changeSetting_4 rfl (lv_at hl 0 rfl) ?_
    refine lv_iload_n hx hb dX2_changeSetting_5 rfl (lv_at hl 2 rfl) ?_
    refine va_put (D := D) (ci := 2) (v := .int a2) (ty := .int) (C := RX2) (T := TX2) (N := 8) hx hb hts iX2 tyX2 tyX2_ok nmX2 hown hK hP hD hS 0 rfl rfl 5 (by decide) (hts (.fieldLink RX2 35 "HiddenPeriods$State" "firstPlace" "I") (by decide +kernel)) (fun _ h9 => h9) rfl (by decide +kernel) rfl rfl (Nat.le_of_ble_eq_true rfl) dX2_changeSetting_6 (fun H locs hP hD hS => ?_)
    have hP : va_P D vwCl ([(h2, .inr (2, [.ref h2_row, .ref h2_ten, .ref h2_pha, .int len, .int kep, .int a2, .int wmo, .int hun])), (h2_row, .inl (cI, 240, .inl row)), (h2_ten, .inl (cI, 4, .inl ten)), (h2_pha, .inl (cI, 4, .inl pha))] ++ []) H := hP
    have hD : va_D A ([(h2, .inr (2, [.ref h2_row, .ref h2_ten, .ref h2_pha, .int len, .int kep, .int a2, .int wmo, .int hun])), (h2_row, .inl (cI, 240, .inl row)), (h2_ten, .inl (cI, 4, .inl ten)), (h2_pha, .inl (cI, 4, .inl pha))] ++ []) := hD
    refine lv_goto (tgt := 30) hx hb dX2_changeSetting_9 (by decide) ?_
    cases h
    exact pw_vret hx hb hr hlocks hAe hQ hP hD hS dX2_changeSetting_30
def fX2_windowEnd (len : Int32) (wfi : Int32) (wmo : Int32) : Option Int32 :=
  (fX2_windowStart wfi wmo).bind fun x1 =>
  (fX2_windowPlaces len wfi wmo).bind fun x2 =>
  some (x1 + x2)
abbrev rmX2_windowEnd : Room := { frames := 2, cells := 0, slots := 0, locals := 41 }
set_option maxHeartbeats 4000000 in
set_option maxRecDepth 100000 in
theorem mX2_windowEnd (l : Launch) (D : va_G) (cI cO cJ : ClassId) (h2 h2_row h2_ten h2_pha : Nat) (sz : Nat) (row : Nat → Int32) (ten : Nat → Int32) (pha : Nat → Int32) (len : Int32) (kep : Int32) (wfi : Int32) (wmo : Int32) (hun : Int32) (z : Int32) (h : fX2_windowEnd len wfi wmo = some z) : Met l yX2_windowEnd wsX2_windowEnd rmX2_windowEnd (pw_pre D (tyL cI cO cJ) [.ref h2] [(h2, .inr (2, [.ref h2_row, .ref h2_ten, .ref h2_pha, .int len, .int kep, .int wfi, .int wmo, .int hun])), (h2_row, .inl (cI, 240, .inl row)), (h2_ten, .inl (cI, 4, .inl ten)), (h2_pha, .inl (cI, 4, .inl pha))] sz) (pw_i D [(h2, .inr (2, [.ref h2_row, .ref h2_ten, .ref h2_pha, .int len, .int kep, .int wfi, .int wmo, .int hun])), (h2_row, .inl (cI, 240, .inl row)), (h2_ten, .inl (cI, 4, .inl ten)), (h2_pha, .inl (cI, 4, .inl pha))] [(h2, .inr (2, [.ref h2_row, .ref h2_ten, .ref h2_pha, .int len, .int kep, .int wfi, .int wmo, .int hun])), (h2_row, .inl (cI, 240, .inl row)), (h2_ten, .inl (cI, 4, .inl ten)), (h2_pha, .inl (cI, 4, .inl pha))] z sz) 0 0 (va_A [(h2, .inr (2, [.ref h2_row, .ref h2_ten, .ref h2_pha, .int len, .int kep, .int wfi, .int wmo, .int hun])), (h2_row, .inl (cI, 240, .inl row)), (h2_ten, .inl (cI, 4, .inl ten)), (h2_pha, .inl (cI, 4, .inl pha))] sz) := by
  refine pw_of (Qc := fun sz => pw_i D [(h2, .inr (2, [.ref h2_row, .ref h2_ten, .ref h2_pha, .int len, .int kep, .int wfi, .int wmo, .int hun])), (h2_row, .inl (cI, 240, .inl row)), (h2_ten, .inl (cI, 4, .inl ten)), (h2_pha, .inl (cI, 4, .inl pha))] [(h2, .inr (2, [.ref h2_row, .ref h2_ten, .ref h2_pha, .int len, .int kep, .int wfi, .int wmo, .int hun])), (h2_row, .inl (cI, 240, .inl row)), (h2_ten, .inl (cI, 4, .inl ten)), (h2_pha, .inl (cI, 4, .inl pha))] z sz) (cc := cX2_windowEnd) (maxL := 1) (ret := (some .int)) (by decide) rfl (Nat.le_of_ble_eq_true rfl) ?_
  intro p e s m args below meth c A Q H ls hx hb hml hr hts hown hlocks hAe hQ hK hN hA hP hD hS hl
  have hown : s.vm.findClass RX2 = some m.cls := hown
  have hl : lv_has ls 1 [(0, .ref h2)] := hl
  have hP : va_P D vwCl ([(h2, .inr (2, [.ref h2_row, .ref h2_ten, .ref h2_pha, .int len, .int kep, .int wfi, .int wmo, .int hun])), (h2_row, .inl (cI, 240, .inl row)), (h2_ten, .inl (cI, 4, .inl ten)), (h2_pha, .inl (cI, 4, .inl pha))] ++ []) H := hP
  have hD : va_D A ([(h2, .inr (2, [.ref h2_row, .ref h2_ten, .ref h2_pha, .int len, .int kep, .int wfi, .int wmo, .int hun])), (h2_row, .inl (cI, 240, .inl row)), (h2_ten, .inl (cI, 4, .inl ten)), (h2_pha, .inl (cI, 4, .inl pha))] ++ []) := hD
  unfold fX2_windowEnd at h
  refine lv_aload_n hx hb dX2_windowEnd_0 rfl (lv_at hl 0 rfl) ?_
  obtain ⟨x1, hx1, h⟩ := bnd h
  refine pw_goi (wc := [(h2, .inr (2, [.ref h2_row, .ref h2_ten, .ref h2_pha, .int len, .int kep, .int wfi, .int wmo, .int hun])), (h2_row, .inl (cI, 240, .inl row)), (h2_ten, .inl (cI, 4, .inl ten)), (h2_pha, .inl (cI, 4, .inl pha))]) (w1 := [(h2, .inr (2, [.ref h2_row, .ref h2_ten, .ref h2_pha, .int len, .int kep, .int wfi, .int wmo, .int hun])), (h2_row, .inl (cI, 240, .inl row)), (h2_ten, .inl (cI, 4, .inl ten)), (h2_pha, .inl (cI, 4, .inl pha))]) (w2 := [(h2, .inr (2, [.ref h2_row, .ref h2_ten, .ref h2_pha, .int len, .int kep, .int wfi, .int wmo, .int hun])), (h2_row, .inl (cI, 240, .inl row)), (h2_ten, .inl (cI, 4, .inl ten)), (h2_pha, .inl (cI, 4, .inl pha))]) (va_runV (As := []) (rest := []) ⟨hx, hb, hml, hown, hts⟩ (mX2_windowStart l D cI cO cJ h2 h2_row h2_ten h2_pha H.size row ten pha len kep wfi wmo hun _ hx1) (cwV 0 hts gX2_windowEnd_X2_windowStart rfl rfl rfl (by decide +kernel) ⟨Nat.le_of_ble_eq_true rfl, Nat.le_of_ble_eq_true rfl⟩) (pw_preV hK hN (pw_sub hP [0, 1, 2, 3] rfl) (pw_subD hD [0, 1, 2, 3] (by decide) rfl) (ci := 2) (q0 := 0) rfl rfl) rfl rfl hl.1 rfl (lv_room (Nat.le_of_ble_eq_true rfl)) dX2_windowEnd_1 ⟨Nat.zero_le _, Nat.zero_le _⟩) hP hD hS hA [0, 1, 2, 3] [] [0, 1, 2, 3] rfl rfl (by decide) (by decide) (by decide) rfl (fun H locs hP hD hS => ?_)
  refine lv_aload_n hx hb dX2_windowEnd_4 rfl (lv_at hl 0 rfl) ?_
  obtain ⟨x2, hx2, h⟩ := bnd h
  refine pw_goi (wc := [(h2, .inr (2, [.ref h2_row, .ref h2_ten, .ref h2_pha, .int len, .int kep, .int wfi, .int wmo, .int hun])), (h2_row, .inl (cI, 240, .inl row)), (h2_ten, .inl (cI, 4, .inl ten)), (h2_pha, .inl (cI, 4, .inl pha))]) (w1 := [(h2, .inr (2, [.ref h2_row, .ref h2_ten, .ref h2_pha, .int len, .int kep, .int wfi, .int wmo, .int hun])), (h2_row, .inl (cI, 240, .inl row)), (h2_ten, .inl (cI, 4, .inl ten)), (h2_pha, .inl (cI, 4, .inl pha))]) (w2 := [(h2, .inr (2, [.ref h2_row, .ref h2_ten, .ref h2_pha, .int len, .int kep, .int wfi, .int wmo, .int hun])), (h2_row, .inl (cI, 240, .inl row)), (h2_ten, .inl (cI, 4, .inl ten)), (h2_pha, .inl (cI, 4, .inl pha))]) (va_runV (As := []) (rest := [.int x1]) ⟨hx, hb, hml, hown, hts⟩ (mX2_windowPlaces l D cI cO cJ h2 h2_row h2_ten h2_pha H.size row ten pha len kep wfi wmo hun _ hx2) (cwV 0 hts gX2_windowEnd_X2_windowPlaces rfl rfl rfl (by decide +kernel) ⟨Nat.le_of_ble_eq_true rfl, Nat.le_of_ble_eq_true rfl⟩) (pw_preV hK hN (pw_sub hP [0, 1, 2, 3] rfl) (pw_subD hD [0, 1, 2, 3] (by decide) rfl) (ci := 2) (q0 := 0) rfl rfl) rfl rfl hl.1 rfl (lv_room (Nat.le_of_ble_eq_true rfl)) dX2_windowEnd_5 ⟨Nat.zero_le _, Nat.zero_le _⟩) hP hD hS hA [0, 1, 2, 3] [] [0, 1, 2, 3] rfl rfl (by decide) (by decide) (by decide) rfl (fun H locs hP hD hS => ?_)
  refine lv_iadd hx hb dX2_windowEnd_8 ?_
  cases h
  exact pw_iret hx hb hr hlocks hAe hQ hP hD hS dX2_windowEnd_9
def fX2_timesInWindow_L13 (row : Nat → Int32) (len : Int32) (a1 : Int32) (x1 : Int32) : Nat → Int32 → Int32 → Option Int32
  | 0, _, _ => none
  | n + 1, v3_13, v4_13 =>
    if x1 ≤ v4_13 then
    some v3_13
    else
    (fX2_signAt row len v4_13).bind fun x3 =>
    if x3 = a1 then
    fX2_timesInWindow_L13 row len a1 x1 n (v3_13 + 1) (v4_13 + 1)
    else
    fX2_timesInWindow_L13 row len a1 x1 n v3_13 (v4_13 + 1)
def fX2_timesInWindow (row : Nat → Int32) (len : Int32) (wfi : Int32) (wmo : Int32) (a1 : Int32) : Option Int32 :=
  (fX2_windowEnd len wfi wmo).bind fun x1 =>
  (fX2_windowStart wfi wmo).bind fun x2 =>
  (fX2_timesInWindow_L13 row len a1 x1 FU 0 x2).bind fun x4 =>
  some x4
abbrev rmX2_timesInWindow : Room := { frames := 3, cells := 0, slots := 0, locals := 61 }
set_option maxHeartbeats 4000000 in
set_option maxRecDepth 100000 in
theorem mX2_timesInWindow (l : Launch) (D : va_G) (cI cO cJ : ClassId) (h2 h2_row h2_ten h2_pha : Nat) (sz : Nat) (row : Nat → Int32) (ten : Nat → Int32) (pha : Nat → Int32) (len : Int32) (kep : Int32) (wfi : Int32) (wmo : Int32) (hun : Int32) (a1 : Int32) (z : Int32) (h : fX2_timesInWindow row len wfi wmo a1 = some z) : Met l yX2_timesInWindow wsX2_timesInWindow rmX2_timesInWindow (pw_pre D (tyL cI cO cJ) [.ref h2, .int a1] [(h2, .inr (2, [.ref h2_row, .ref h2_ten, .ref h2_pha, .int len, .int kep, .int wfi, .int wmo, .int hun])), (h2_row, .inl (cI, 240, .inl row)), (h2_ten, .inl (cI, 4, .inl ten)), (h2_pha, .inl (cI, 4, .inl pha))] sz) (pw_i D [(h2, .inr (2, [.ref h2_row, .ref h2_ten, .ref h2_pha, .int len, .int kep, .int wfi, .int wmo, .int hun])), (h2_row, .inl (cI, 240, .inl row)), (h2_ten, .inl (cI, 4, .inl ten)), (h2_pha, .inl (cI, 4, .inl pha))] [(h2, .inr (2, [.ref h2_row, .ref h2_ten, .ref h2_pha, .int len, .int kep, .int wfi, .int wmo, .int hun])), (h2_row, .inl (cI, 240, .inl row)), (h2_ten, .inl (cI, 4, .inl ten)), (h2_pha, .inl (cI, 4, .inl pha))] z sz) 0 0 (va_A [(h2, .inr (2, [.ref h2_row, .ref h2_ten, .ref h2_pha, .int len, .int kep, .int wfi, .int wmo, .int hun])), (h2_row, .inl (cI, 240, .inl row)), (h2_ten, .inl (cI, 4, .inl ten)), (h2_pha, .inl (cI, 4, .inl pha))] sz) := by
  refine pw_of (Qc := fun sz => pw_i D [(h2, .inr (2, [.ref h2_row, .ref h2_ten, .ref h2_pha, .int len, .int kep, .int wfi, .int wmo, .int hun])), (h2_row, .inl (cI, 240, .inl row)), (h2_ten, .inl (cI, 4, .inl ten)), (h2_pha, .inl (cI, 4, .inl pha))] [(h2, .inr (2, [.ref h2_row, .ref h2_ten, .ref h2_pha, .int len, .int kep, .int wfi, .int wmo, .int hun])), (h2_row, .inl (cI, 240, .inl row)), (h2_ten, .inl (cI, 4, .inl ten)), (h2_pha, .inl (cI, 4, .inl pha))] z sz) (cc := cX2_timesInWindow) (maxL := 5) (ret := (some .int)) (by decide) rfl (Nat.le_of_ble_eq_true rfl) ?_
  intro p e s m args below meth c A Q H ls hx hb hml hr hts hown hlocks hAe hQ hK hN hA hP hD hS hl
  have hown : s.vm.findClass RX2 = some m.cls := hown
  have hl : lv_has ls 5 [(0, .ref h2), (1, .int a1)] := hl
  have hP : va_P D vwCl ([(h2, .inr (2, [.ref h2_row, .ref h2_ten, .ref h2_pha, .int len, .int kep, .int wfi, .int wmo, .int hun])), (h2_row, .inl (cI, 240, .inl row)), (h2_ten, .inl (cI, 4, .inl ten)), (h2_pha, .inl (cI, 4, .inl pha))] ++ []) H := hP
  have hD : va_D A ([(h2, .inr (2, [.ref h2_row, .ref h2_ten, .ref h2_pha, .int len, .int kep, .int wfi, .int wmo, .int hun])), (h2_row, .inl (cI, 240, .inl row)), (h2_ten, .inl (cI, 4, .inl ten)), (h2_pha, .inl (cI, 4, .inl pha))] ++ []) := hD
  unfold fX2_timesInWindow at h
  refine lv_aload_n hx hb dX2_timesInWindow_0 rfl (lv_at hl 0 rfl) ?_
  obtain ⟨x1, hx1, h⟩ := bnd h
  refine pw_goi (wc := [(h2, .inr (2, [.ref h2_row, .ref h2_ten, .ref h2_pha, .int len, .int kep, .int wfi, .int wmo, .int hun])), (h2_row, .inl (cI, 240, .inl row)), (h2_ten, .inl (cI, 4, .inl ten)), (h2_pha, .inl (cI, 4, .inl pha))]) (w1 := [(h2, .inr (2, [.ref h2_row, .ref h2_ten, .ref h2_pha, .int len, .int kep, .int wfi, .int wmo, .int hun])), (h2_row, .inl (cI, 240, .inl row)), (h2_ten, .inl (cI, 4, .inl ten)), (h2_pha, .inl (cI, 4, .inl pha))]) (w2 := [(h2, .inr (2, [.ref h2_row, .ref h2_ten, .ref h2_pha, .int len, .int kep, .int wfi, .int wmo, .int hun])), (h2_row, .inl (cI, 240, .inl row)), (h2_ten, .inl (cI, 4, .inl ten)), (h2_pha, .inl (cI, 4, .inl pha))]) (va_runV (As := []) (rest := []) ⟨hx, hb, hml, hown, hts⟩ (mX2_windowEnd l D cI cO cJ h2 h2_row h2_ten h2_pha H.size row ten pha len kep wfi wmo hun _ hx1) (cwV 0 hts gX2_timesInWindow_X2_windowEnd rfl rfl rfl (by decide +kernel) ⟨Nat.le_of_ble_eq_true rfl, Nat.le_of_ble_eq_true rfl⟩) (pw_preV hK hN (pw_sub hP [0, 1, 2, 3] rfl) (pw_subD hD [0, 1, 2, 3] (by decide) rfl) (ci := 2) (q0 := 0) rfl rfl) rfl rfl hl.1 rfl (lv_room (Nat.le_of_ble_eq_true rfl)) dX2_timesInWindow_1 ⟨Nat.zero_le _, Nat.zero_le _⟩) hP hD hS hA [0, 1, 2, 3] [] [0, 1, 2, 3] rfl rfl (by decide) (by decide) (by decide) rfl (fun H locs hP hD hS => ?_)
  refine lv_istore_n (lv' := [(2, .int x1), (0, .ref h2), (1, .int a1)]) hx hb dX2_timesInWindow_4 rfl hl (by decide) rfl (fun ls hl => ?_)
  refine lv_iconst (v := 0) hx hb dX2_timesInWindow_5 (by decide) ?_
  refine lv_istore_n (lv' := [(3, .int 0), (2, .int x1), (0, .ref h2), (1, .int a1)]) hx hb dX2_timesInWindow_6 rfl hl (by decide) rfl (fun ls hl => ?_)
  refine lv_aload_n hx hb dX2_timesInWindow_7 rfl (lv_at hl 2 rfl) ?_
  obtain ⟨x2, hx2, h⟩ := bnd h
  refine pw_goi (wc := [(h2, .inr (2, [.ref h2_row, .ref h2_ten, .ref h2_pha, .int len, .int kep, .int wfi, .int wmo, .int hun])), (h2_row, .inl (cI, 240, .inl row)), (h2_ten, .inl (cI, 4, .inl ten)), (h2_pha, .inl (cI, 4, .inl pha))]) (w1 := [(h2, .inr (2, [.ref h2_row, .ref h2_ten, .ref h2_pha, .int len, .int kep, .int wfi, .int wmo, .int hun])), (h2_row, .inl (cI, 240, .inl row)), (h2_ten, .inl (cI, 4, .inl ten)), (h2_pha, .inl (cI, 4, .inl pha))]) (w2 := [(h2, .inr (2, [.ref h2_row, .ref h2_ten, .ref h2_pha, .int len, .int kep, .int wfi, .int wmo, .int hun])), (h2_row, .inl (cI, 240, .inl row)), (h2_ten, .inl (cI, 4, .inl ten)), (h2_pha, .inl (cI, 4, .inl pha))]) (va_runV (As := []) (rest := []) ⟨hx, hb, hml, hown, hts⟩ (mX2_windowStart l D cI cO cJ h2 h2_row h2_ten h2_pha H.size row ten pha len kep wfi wmo hun _ hx2) (cwV 0 hts gX2_timesInWindow_X2_windowStart rfl rfl rfl (by decide +kernel) ⟨Nat.le_of_ble_eq_true rfl, Nat.le_of_ble_eq_true rfl⟩) (pw_preV hK hN (pw_sub hP [0, 1, 2, 3] rfl) (pw_subD hD [0, 1, 2, 3] (by decide) rfl) (ci := 2) (q0 := 0) rfl rfl) rfl rfl hl.1 rfl (lv_room (Nat.le_of_ble_eq_true rfl)) dX2_timesInWindow_8 ⟨Nat.zero_le _, Nat.zero_le _⟩) hP hD hS hA [0, 1, 2, 3] [] [0, 1, 2, 3] rfl rfl (by decide) (by decide) (by decide) rfl (fun H locs hP hD hS => ?_)
  refine lv_istore (lv' := [(4, .int x2), (3, .int 0), (2, .int x1), (0, .ref h2), (1, .int a1)]) hx hb dX2_timesInWindow_11 hl (by decide) rfl (fun ls hl => ?_)
  have L13 : ∀ (n : Nat) (v3_13 : Int32) (v4_13 : Int32) (o13_1 : Int32) (H : Heap) (locs : List Loc) (ls : Array Slot), fX2_timesInWindow_L13 row len a1 x1 n v3_13 v4_13 = some o13_1 → va_P D vwCl ([(h2, .inr (2, [.ref h2_row, .ref h2_ten, .ref h2_pha, .int len, .int kep, .int wfi, .int wmo, .int hun])), (h2_row, .inl (cI, 240, .inl row)), (h2_ten, .inl (cI, 4, .inl ten)), (h2_pha, .inl (cI, 4, .inl pha))] ++ []) H → va_D A ([(h2, .inr (2, [.ref h2_row, .ref h2_ten, .ref h2_pha, .int len, .int kep, .int wfi, .int wmo, .int hun])), (h2_row, .inl (cI, 240, .inl row)), (h2_ten, .inl (cI, 4, .inl ten)), (h2_pha, .inl (cI, 4, .inl pha))] ++ []) → va_S A s.heap H locs → lv_has ls 5 [(0, .ref h2), (1, .int a1), (2, .int x1), (3, .int v3_13), (4, .int v4_13)] → (∀ (H : Heap) (locs : List Loc) (ls : Array Slot), va_P D vwCl ([(h2, .inr (2, [.ref h2_row, .ref h2_ten, .ref h2_pha, .int len, .int kep, .int wfi, .int wmo, .int hun])), (h2_row, .inl (cI, 240, .inl row)), (h2_ten, .inl (cI, 4, .inl ten)), (h2_pha, .inl (cI, 4, .inl pha))] ++ []) H → va_D A ([(h2, .inr (2, [.ref h2_row, .ref h2_ten, .ref h2_pha, .int len, .int kep, .int wfi, .int wmo, .int hun])), (h2_row, .inl (cI, 240, .inl row)), (h2_ten, .inl (cI, 4, .inl ten)), (h2_pha, .inl (cI, 4, .inl pha))] ++ []) → va_S A s.heap H locs → lv_has ls 5 [(3, .int o13_1)] → W p l e rmX2_timesInWindow s m args below meth c H locs 0 0 Q (F0 m 38 ls [])) → W p l e rmX2_timesInWindow s m args below meth c H locs 0 0 Q (F0 m 13 ls []) := by
    intro n
    induction n with
    | zero =>
      intro v3_13 v4_13 o13_1 H locs ls h
      rw [fX2_timesInWindow_L13] at h
      cases h
    | succ n ih =>
      intro v3_13 v4_13 o13_1 H locs ls h hP hD hS hl K
      rw [fX2_timesInWindow_L13] at h
      refine lv_iload hx hb dX2_timesInWindow_13 (lv_at hl 4 rfl) ?_
      refine lv_iload_n hx hb dX2_timesInWindow_15 rfl (lv_at hl 2 rfl) ?_
      refine lv_icmp_ge (tgt := 38) hx hb dX2_timesInWindow_16 (by decide) (fun cq => ?_) (fun cq => ?_)
      · replace h := ifp cq h
        cases h
        exact K _ _ _ hP hD hS (lv_sub hl [3] rfl)
      · replace h := ifn cq h
        refine lv_aload_n hx hb dX2_timesInWindow_19 rfl (lv_at hl 0 rfl) ?_
        refine lv_iload hx hb dX2_timesInWindow_20 (lv_at hl 4 rfl) ?_
        obtain ⟨x3, hx3, h⟩ := bnd h
        refine pw_goi (wc := [(h2, .inr (2, [.ref h2_row, .ref h2_ten, .ref h2_pha, .int len, .int kep, .int wfi, .int wmo, .int hun])), (h2_row, .inl (cI, 240, .inl row)), (h2_ten, .inl (cI, 4, .inl ten)), (h2_pha, .inl (cI, 4, .inl pha))]) (w1 := [(h2, .inr (2, [.ref h2_row, .ref h2_ten, .ref h2_pha, .int len, .int kep, .int wfi, .int wmo, .int hun])), (h2_row, .inl (cI, 240, .inl row)), (h2_ten, .inl (cI, 4, .inl ten)), (h2_pha, .inl (cI, 4, .inl pha))]) (w2 := [(h2, .inr (2, [.ref h2_row, .ref h2_ten, .ref h2_pha, .int len, .int kep, .int wfi, .int wmo, .int hun])), (h2_row, .inl (cI, 240, .inl row)), (h2_ten, .inl (cI, 4, .inl ten)), (h2_pha, .inl (cI, 4, .inl pha))]) (va_runV (As := [.int v4_13]) (rest := []) ⟨hx, hb, hml, hown, hts⟩ (mX2_signAt l D cI cO cJ h2 h2_row h2_ten h2_pha H.size row ten pha len kep wfi wmo hun v4_13 _ hx3) (cwV 1 hts gX2_timesInWindow_X2_signAt rfl rfl rfl (by decide +kernel) ⟨Nat.le_of_ble_eq_true rfl, Nat.le_of_ble_eq_true rfl⟩) (pw_preV hK hN (pw_sub hP [0, 1, 2, 3] rfl) (pw_subD hD [0, 1, 2, 3] (by decide) rfl) (ci := 2) (q0 := 0) rfl rfl) rfl rfl hl.1 rfl (lv_room (Nat.le_of_ble_eq_true rfl)) dX2_timesInWindow_22 ⟨Nat.zero_le _, Nat.zero_le _⟩) hP hD hS hA [0, 1, 2, 3] [] [0, 1, 2, 3] rfl rfl (by decide) (by decide) (by decide) rfl (fun H locs hP hD hS => ?_)
        refine lv_iload_n hx hb dX2_timesInWindow_25 rfl (lv_at hl 1 rfl) ?_
        refine lv_icmp_ne (tgt := 32) hx hb dX2_timesInWindow_26 (by decide) (fun cq => ?_) (fun cq => ?_)
        · replace h := ifn cq h
          refine lv_iinc (v := (v4_13 + 1)) (lv' := [(4, .int (v4_13 + 1)), (0, .ref h2), (1, .int a1), (2, .int x1), (3, .int v3_13)]) hx hb dX2_timesInWindow_32 hl (k := 4) rfl rfl (by decide) rfl (fun ls hl => ?_)
          refine lv_goto (tgt := 13) hx hb dX2_timesInWindow_35 (by decide) ?_
          exact ih _ _ _ _ _ _ h hP hD hS (lv_sub hl [1, 2, 3, 4, 0] rfl) K
        · replace h := ifp cq h
          refine lv_iinc (v := (v3_13 + 1)) (lv' := [(3, .int (v3_13 + 1)), (0, .ref h2), (1, .int a1), (2, .int x1), (4, .int v4_13)]) hx hb dX2_timesInWindow_29 hl (k := 3) rfl rfl (by decide) rfl (fun ls hl => ?_)
          refine lv_iinc (v := (v4_13 + 1)) (lv' := [(4, .int (v4_13 + 1)), (3, .int (v3_13 + 1)), (0, .ref h2), (1, .int a1), (2, .int x1)]) hx hb dX2_timesInWindow_32 hl (k := 4) rfl rfl (by decide) rfl (fun ls hl => ?_)
          refine lv_goto (tgt := 13) hx hb dX2_timesInWindow_35 (by decide) ?_
          exact ih _ _ _ _ _ _ h hP hD hS (lv_sub hl [2, 3, 4, 1, 0] rfl) K
  obtain ⟨x4, hx4, h⟩ := bnd h
  refine L13 FU _ _ _ _ _ _ hx4 hP hD hS (lv_sub hl [3, 4, 2, 1, 0] rfl) (fun H locs ls hP hD hS hl => ?_)
  refine lv_iload_n hx hb dX2_timesInWindow_38 rfl (lv_at hl 0 rfl) ?_
  cases h
  exact pw_iret hx hb hr hlocks hAe hQ hP hD hS dX2_timesInWindow_39
def fX2_commonSign_L6 (row : Nat → Int32) (len : Int32) (wfi : Int32) (wmo : Int32) : Nat → Int32 → Int32 → Int32 → Option Int32
  | 0, _, _, _ => none
  | n + 1, v1_6, v2_6, v3_6 =>
    if 4 ≤ v3_6 then
    some v1_6
    else
    (fX2_timesInWindow row len wfi wmo v3_6).bind fun x1 =>
    if x1 ≤ v2_6 then
    fX2_commonSign_L6 row len wfi wmo n v1_6 v2_6 (v3_6 + 1)
    else
    fX2_commonSign_L6 row len wfi wmo n v3_6 x1 (v3_6 + 1)
def fX2_commonSign (row : Nat → Int32) (len : Int32) (wfi : Int32) (wmo : Int32) : Option Int32 :=
  (fX2_commonSign_L6 row len wfi wmo FU (-1) 0 0).bind fun x2 =>
  some x2
abbrev rmX2_commonSign : Room := { frames := 4, cells := 0, slots := 0, locals := 85 }
set_option maxHeartbeats 4000000 in
set_option maxRecDepth 100000 in
theorem mX2_commonSign (l : Launch) (D : va_G) (cI cO cJ : ClassId) (h2 h2_row h2_ten h2_pha : Nat) (sz : Nat) (row : Nat → Int32) (ten : Nat → Int32) (pha : Nat → Int32) (len : Int32) (kep : Int32) (wfi : Int32) (wmo : Int32) (hun : Int32) (z : Int32) (h : fX2_commonSign row len wfi wmo = some z) : Met l yX2_commonSign wsX2_commonSign rmX2_commonSign (pw_pre D (tyL cI cO cJ) [.ref h2] [(h2, .inr (2, [.ref h2_row, .ref h2_ten, .ref h2_pha, .int len, .int kep, .int wfi, .int wmo, .int hun])), (h2_row, .inl (cI, 240, .inl row)), (h2_ten, .inl (cI, 4, .inl ten)), (h2_pha, .inl (cI, 4, .inl pha))] sz) (pw_i D [(h2, .inr (2, [.ref h2_row, .ref h2_ten, .ref h2_pha, .int len, .int kep, .int wfi, .int wmo, .int hun])), (h2_row, .inl (cI, 240, .inl row)), (h2_ten, .inl (cI, 4, .inl ten)), (h2_pha, .inl (cI, 4, .inl pha))] [(h2, .inr (2, [.ref h2_row, .ref h2_ten, .ref h2_pha, .int len, .int kep, .int wfi, .int wmo, .int hun])), (h2_row, .inl (cI, 240, .inl row)), (h2_ten, .inl (cI, 4, .inl ten)), (h2_pha, .inl (cI, 4, .inl pha))] z sz) 0 0 (va_A [(h2, .inr (2, [.ref h2_row, .ref h2_ten, .ref h2_pha, .int len, .int kep, .int wfi, .int wmo, .int hun])), (h2_row, .inl (cI, 240, .inl row)), (h2_ten, .inl (cI, 4, .inl ten)), (h2_pha, .inl (cI, 4, .inl pha))] sz) := by
  refine pw_of (Qc := fun sz => pw_i D [(h2, .inr (2, [.ref h2_row, .ref h2_ten, .ref h2_pha, .int len, .int kep, .int wfi, .int wmo, .int hun])), (h2_row, .inl (cI, 240, .inl row)), (h2_ten, .inl (cI, 4, .inl ten)), (h2_pha, .inl (cI, 4, .inl pha))] [(h2, .inr (2, [.ref h2_row, .ref h2_ten, .ref h2_pha, .int len, .int kep, .int wfi, .int wmo, .int hun])), (h2_row, .inl (cI, 240, .inl row)), (h2_ten, .inl (cI, 4, .inl ten)), (h2_pha, .inl (cI, 4, .inl pha))] z sz) (cc := cX2_commonSign) (maxL := 5) (ret := (some .int)) (by decide) rfl (Nat.le_of_ble_eq_true rfl) ?_
  intro p e s m args below meth c A Q H ls hx hb hml hr hts hown hlocks hAe hQ hK hN hA hP hD hS hl
  have hown : s.vm.findClass RX2 = some m.cls := hown
  have hl : lv_has ls 5 [(0, .ref h2)] := hl
  have hP : va_P D vwCl ([(h2, .inr (2, [.ref h2_row, .ref h2_ten, .ref h2_pha, .int len, .int kep, .int wfi, .int wmo, .int hun])), (h2_row, .inl (cI, 240, .inl row)), (h2_ten, .inl (cI, 4, .inl ten)), (h2_pha, .inl (cI, 4, .inl pha))] ++ []) H := hP
  have hD : va_D A ([(h2, .inr (2, [.ref h2_row, .ref h2_ten, .ref h2_pha, .int len, .int kep, .int wfi, .int wmo, .int hun])), (h2_row, .inl (cI, 240, .inl row)), (h2_ten, .inl (cI, 4, .inl ten)), (h2_pha, .inl (cI, 4, .inl pha))] ++ []) := hD
  unfold fX2_commonSign at h
  refine lv_iconst (v := (-1)) hx hb dX2_commonSign_0 (by decide) ?_
  refine lv_istore_n (lv' := [(1, .int (-1)), (0, .ref h2)]) hx hb dX2_commonSign_1 rfl hl (by decide) rfl (fun ls hl => ?_)
  refine lv_iconst (v := 0) hx hb dX2_commonSign_2 (by decide) ?_
  refine lv_istore_n (lv' := [(2, .int 0), (1, .int (-1)), (0, .ref h2)]) hx hb dX2_commonSign_3 rfl hl (by decide) rfl (fun ls hl => ?_)
  refine lv_iconst (v := 0) hx hb dX2_commonSign_4 (by decide) ?_
  refine lv_istore_n (lv' := [(3, .int 0), (2, .int 0), (1, .int (-1)), (0, .ref h2)]) hx hb dX2_commonSign_5 rfl hl (by decide) rfl (fun ls hl => ?_)
  have L6 : ∀ (n : Nat) (v1_6 : Int32) (v2_6 : Int32) (v3_6 : Int32) (o6_1 : Int32) (H : Heap) (locs : List Loc) (ls : Array Slot), fX2_commonSign_L6 row len wfi wmo n v1_6 v2_6 v3_6 = some o6_1 → va_P D vwCl ([(h2, .inr (2, [.ref h2_row, .ref h2_ten, .ref h2_pha, .int len, .int kep, .int wfi, .int wmo, .int hun])), (h2_row, .inl (cI, 240, .inl row)), (h2_ten, .inl (cI, 4, .inl ten)), (h2_pha, .inl (cI, 4, .inl pha))] ++ []) H → va_D A ([(h2, .inr (2, [.ref h2_row, .ref h2_ten, .ref h2_pha, .int len, .int kep, .int wfi, .int wmo, .int hun])), (h2_row, .inl (cI, 240, .inl row)), (h2_ten, .inl (cI, 4, .inl ten)), (h2_pha, .inl (cI, 4, .inl pha))] ++ []) → va_S A s.heap H locs → lv_has ls 5 [(0, .ref h2), (1, .int v1_6), (2, .int v2_6), (3, .int v3_6)] → (∀ (H : Heap) (locs : List Loc) (ls : Array Slot), va_P D vwCl ([(h2, .inr (2, [.ref h2_row, .ref h2_ten, .ref h2_pha, .int len, .int kep, .int wfi, .int wmo, .int hun])), (h2_row, .inl (cI, 240, .inl row)), (h2_ten, .inl (cI, 4, .inl ten)), (h2_pha, .inl (cI, 4, .inl pha))] ++ []) H → va_D A ([(h2, .inr (2, [.ref h2_row, .ref h2_ten, .ref h2_pha, .int len, .int kep, .int wfi, .int wmo, .int hun])), (h2_row, .inl (cI, 240, .inl row)), (h2_ten, .inl (cI, 4, .inl ten)), (h2_pha, .inl (cI, 4, .inl pha))] ++ []) → va_S A s.heap H locs → lv_has ls 5 [(1, .int o6_1)] → W p l e rmX2_commonSign s m args below meth c H locs 0 0 Q (F0 m 35 ls [])) → W p l e rmX2_commonSign s m args below meth c H locs 0 0 Q (F0 m 6 ls []) := by
    intro n
    induction n with
    | zero =>
      intro v1_6 v2_6 v3_6 o6_1 H locs ls h
      rw [fX2_commonSign_L6] at h
      cases h
    | succ n ih =>
      intro v1_6 v2_6 v3_6 o6_1 H locs ls h hP hD hS hl K
      rw [fX2_commonSign_L6] at h
      refine lv_iload_n hx hb dX2_commonSign_6 rfl (lv_at hl 3 rfl) ?_
      refine lv_iconst (v := 4) hx hb dX2_commonSign_7 (by decide) ?_
      refine lv_icmp_ge (tgt := 35) hx hb dX2_commonSign_8 (by decide) (fun cq => ?_) (fun cq => ?_)
      · replace h := ifp cq h
        cases h
        exact K _ _ _ hP hD hS (lv_sub hl [1] rfl)
      · replace h := ifn cq h
        refine lv_aload_n hx hb dX2_commonSign_11 rfl (lv_at hl 0 rfl) ?_
        refine lv_iload_n hx hb dX2_commonSign_12 rfl (lv_at hl 3 rfl) ?_
        obtain ⟨x1, hx1, h⟩ := bnd h
        refine pw_goi (wc := [(h2, .inr (2, [.ref h2_row, .ref h2_ten, .ref h2_pha, .int len, .int kep, .int wfi, .int wmo, .int hun])), (h2_row, .inl (cI, 240, .inl row)), (h2_ten, .inl (cI, 4, .inl ten)), (h2_pha, .inl (cI, 4, .inl pha))]) (w1 := [(h2, .inr (2, [.ref h2_row, .ref h2_ten, .ref h2_pha, .int len, .int kep, .int wfi, .int wmo, .int hun])), (h2_row, .inl (cI, 240, .inl row)), (h2_ten, .inl (cI, 4, .inl ten)), (h2_pha, .inl (cI, 4, .inl pha))]) (w2 := [(h2, .inr (2, [.ref h2_row, .ref h2_ten, .ref h2_pha, .int len, .int kep, .int wfi, .int wmo, .int hun])), (h2_row, .inl (cI, 240, .inl row)), (h2_ten, .inl (cI, 4, .inl ten)), (h2_pha, .inl (cI, 4, .inl pha))]) (va_runV (As := [.int v3_6]) (rest := []) ⟨hx, hb, hml, hown, hts⟩ (mX2_timesInWindow l D cI cO cJ h2 h2_row h2_ten h2_pha H.size row ten pha len kep wfi wmo hun v3_6 _ hx1) (cwV 1 hts gX2_commonSign_X2_timesInWindow rfl rfl rfl (by decide +kernel) ⟨Nat.le_of_ble_eq_true rfl, Nat.le_of_ble_eq_true rfl⟩) (pw_preV hK hN (pw_sub hP [0, 1, 2, 3] rfl) (pw_subD hD [0, 1, 2, 3] (by decide) rfl) (ci := 2) (q0 := 0) rfl rfl) rfl rfl hl.1 rfl (lv_room (Nat.le_of_ble_eq_true rfl)) dX2_commonSign_13 ⟨Nat.zero_le _, Nat.zero_le _⟩) hP hD hS hA [0, 1, 2, 3] [] [0, 1, 2, 3] rfl rfl (by decide) (by decide) (by decide) rfl (fun H locs hP hD hS => ?_)
        refine lv_istore (lv' := [(4, .int x1), (0, .ref h2), (1, .int v1_6), (2, .int v2_6), (3, .int v3_6)]) hx hb dX2_commonSign_16 hl (by decide) rfl (fun ls hl => ?_)
        refine lv_iload hx hb dX2_commonSign_18 (lv_at hl 0 rfl) ?_
        refine lv_iload_n hx hb dX2_commonSign_20 rfl (lv_at hl 3 rfl) ?_
        refine lv_icmp_le (tgt := 29) hx hb dX2_commonSign_21 (by decide) (fun cq => ?_) (fun cq => ?_)
        · replace h := ifp cq h
          refine lv_iinc (v := (v3_6 + 1)) (lv' := [(3, .int (v3_6 + 1)), (4, .int x1), (0, .ref h2), (1, .int v1_6), (2, .int v2_6)]) hx hb dX2_commonSign_29 hl (k := 4) rfl rfl (by decide) rfl (fun ls hl => ?_)
          refine lv_goto (tgt := 6) hx hb dX2_commonSign_32 (by decide) ?_
          exact ih _ _ _ _ _ _ _ h hP hD hS (lv_sub hl [2, 3, 4, 0] rfl) K
        · replace h := ifn cq h
          refine lv_iload_n hx hb dX2_commonSign_24 rfl (lv_at hl 4 rfl) ?_
          refine lv_istore_n (lv' := [(1, .int v3_6), (4, .int x1), (0, .ref h2), (2, .int v2_6), (3, .int v3_6)]) hx hb dX2_commonSign_25 rfl hl (by decide) rfl (fun ls hl => ?_)
          refine lv_iload hx hb dX2_commonSign_26 (lv_at hl 1 rfl) ?_
          refine lv_istore_n (lv' := [(2, .int x1), (1, .int v3_6), (4, .int x1), (0, .ref h2), (3, .int v3_6)]) hx hb dX2_commonSign_28 rfl hl (by decide) rfl (fun ls hl => ?_)
          refine lv_iinc (v := (v3_6 + 1)) (lv' := [(3, .int (v3_6 + 1)), (2, .int x1), (1, .int v3_6), (4, .int x1), (0, .ref h2)]) hx hb dX2_commonSign_29 hl (k := 4) rfl rfl (by decide) rfl (fun ls hl => ?_)
          refine lv_goto (tgt := 6) hx hb dX2_commonSign_32 (by decide) ?_
          exact ih _ _ _ _ _ _ _ h hP hD hS (lv_sub hl [4, 2, 1, 0] rfl) K
  obtain ⟨x2, hx2, h⟩ := bnd h
  refine L6 FU _ _ _ _ _ _ _ hx2 hP hD hS (lv_sub hl [3, 2, 1, 0] rfl) (fun H locs ls hP hD hS hl => ?_)
  refine lv_iload_n hx hb dX2_commonSign_35 rfl (lv_at hl 0 rfl) ?_
  cases h
  exact pw_iret hx hb hr hlocks hAe hQ hP hD hS dX2_commonSign_36
def fX3_readStrongSigns_L9 (hun : Int32) (x1_1 : Nat → Int32) (x1_2 : Int32) : Nat → Int32 → (Nat → Int32) → Option (Nat → Int32)
  | 0, _, _ => none
  | n + 1, v4_9, str_9 =>
    if x1_2 ≤ v4_9 then
    some str_9
    else
    (fX0_strongSignOf x1_1 v4_9 hun).bind fun x2 =>
    (fX5_lay str_9 40 v4_9 x2).bind fun x3 =>
    fX3_readStrongSigns_L9 hun x1_1 x1_2 n (v4_9 + 1) x3
def fX3_readStrongSigns (str : Nat → Int32) (row : Nat → Int32) (ten : Nat → Int32) (pha : Nat → Int32) (len : Int32) (wfi : Int32) (wmo : Int32) (hun : Int32) (cel : Nat → Int32) (a3 : Int32) : Option ((Nat → Int32) × (Nat → Int32) × Int32) :=
  (fX0_takeKept cel row ten pha len wfi wmo a3).bind fun (x1_1, x1_2) =>
  (fX3_readStrongSigns_L9 hun x1_1 x1_2 FU 0 str).bind fun x4 =>
  some (x4, x1_1, x1_2)
abbrev rmX3_readStrongSigns : Room := { frames := 4, cells := 0, slots := 0, locals := 96 }
set_option maxHeartbeats 4000000 in
set_option maxRecDepth 100000 in
theorem mX3_readStrongSigns (l : Launch) (D : va_G) (cI cO cJ : ClassId) (h3 h3_str h3_tlr h3_tsg h2 h2_row h2_ten h2_pha h0 h0_cel : Nat) (sz : Nat) (str : Nat → Int32) (tlr : Nat → Int32) (tsg : Nat → Int32) (row : Nat → Int32) (ten : Nat → Int32) (pha : Nat → Int32) (len : Int32) (kep : Int32) (wfi : Int32) (wmo : Int32) (hun : Int32) (cel : Nat → Int32) (cls : Int32) (a3 : Int32) (z : (Nat → Int32) × (Nat → Int32) × Int32) (h : fX3_readStrongSigns str row ten pha len wfi wmo hun cel a3 = some z) : Met l yX3_readStrongSigns wsX3_readStrongSigns rmX3_readStrongSigns (pw_pre D (tyL cI cO cJ) [.ref h3, .ref h2, .ref h0, .int a3] [(h3, .inr (3, [.ref h3_str, .ref h3_tlr, .ref h3_tsg])), (h3_str, .inl (cI, 40, .inl str)), (h3_tlr, .inl (cI, 240, .inl tlr)), (h3_tsg, .inl (cI, 240, .inl tsg)), (h2, .inr (2, [.ref h2_row, .ref h2_ten, .ref h2_pha, .int len, .int kep, .int wfi, .int wmo, .int hun])), (h2_row, .inl (cI, 240, .inl row)), (h2_ten, .inl (cI, 4, .inl ten)), (h2_pha, .inl (cI, 4, .inl pha)), (h0, .inr (0, [.ref h0_cel, .int cls])), (h0_cel, .inl (cI, 160, .inl cel))] sz) (pw_v D [(h3, .inr (3, [.ref h3_str, .ref h3_tlr, .ref h3_tsg])), (h3_str, .inl (cI, 40, .inl str)), (h3_tlr, .inl (cI, 240, .inl tlr)), (h3_tsg, .inl (cI, 240, .inl tsg)), (h2, .inr (2, [.ref h2_row, .ref h2_ten, .ref h2_pha, .int len, .int kep, .int wfi, .int wmo, .int hun])), (h2_row, .inl (cI, 240, .inl row)), (h2_ten, .inl (cI, 4, .inl ten)), (h2_pha, .inl (cI, 4, .inl pha)), (h0, .inr (0, [.ref h0_cel, .int cls])), (h0_cel, .inl (cI, 160, .inl cel))] [(h3, .inr (3, [.ref h3_str, .ref h3_tlr, .ref h3_tsg])), (h3_str, .inl (cI, 40, .inl z.1)), (h3_tlr, .inl (cI, 240, .inl tlr)), (h3_tsg, .inl (cI, 240, .inl tsg)), (h2, .inr (2, [.ref h2_row, .ref h2_ten, .ref h2_pha, .int len, .int kep, .int wfi, .int wmo, .int hun])), (h2_row, .inl (cI, 240, .inl row)), (h2_ten, .inl (cI, 4, .inl ten)), (h2_pha, .inl (cI, 4, .inl pha)), (h0, .inr (0, [.ref h0_cel, .int z.2.2])), (h0_cel, .inl (cI, 160, .inl z.2.1))] sz) 0 0 (va_A [(h3, .inr (3, [.ref h3_str, .ref h3_tlr, .ref h3_tsg])), (h3_str, .inl (cI, 40, .inl str)), (h3_tlr, .inl (cI, 240, .inl tlr)), (h3_tsg, .inl (cI, 240, .inl tsg)), (h2, .inr (2, [.ref h2_row, .ref h2_ten, .ref h2_pha, .int len, .int kep, .int wfi, .int wmo, .int hun])), (h2_row, .inl (cI, 240, .inl row)), (h2_ten, .inl (cI, 4, .inl ten)), (h2_pha, .inl (cI, 4, .inl pha)), (h0, .inr (0, [.ref h0_cel, .int cls])), (h0_cel, .inl (cI, 160, .inl cel))] sz) := by
  refine pw_of (Qc := fun sz => pw_v D [(h3, .inr (3, [.ref h3_str, .ref h3_tlr, .ref h3_tsg])), (h3_str, .inl (cI, 40, .inl str)), (h3_tlr, .inl (cI, 240, .inl tlr)), (h3_tsg, .inl (cI, 240, .inl tsg)), (h2, .inr (2, [.ref h2_row, .ref h2_ten, .ref h2_pha, .int len, .int kep, .int wfi, .int wmo, .int hun])), (h2_row, .inl (cI, 240, .inl row)), (h2_ten, .inl (cI, 4, .inl ten)), (h2_pha, .inl (cI, 4, .inl pha)), (h0, .inr (0, [.ref h0_cel, .int cls])), (h0_cel, .inl (cI, 160, .inl cel))] [(h3, .inr (3, [.ref h3_str, .ref h3_tlr, .ref h3_tsg])), (h3_str, .inl (cI, 40, .inl z.1)), (h3_tlr, .inl (cI, 240, .inl tlr)), (h3_tsg, .inl (cI, 240, .inl tsg)), (h2, .inr (2, [.ref h2_row, .ref h2_ten, .ref h2_pha, .int len, .int kep, .int wfi, .int wmo, .int hun])), (h2_row, .inl (cI, 240, .inl row)), (h2_ten, .inl (cI, 4, .inl ten)), (h2_pha, .inl (cI, 4, .inl pha)), (h0, .inr (0, [.ref h0_cel, .int z.2.2])), (h0_cel, .inl (cI, 160, .inl z.2.1))] sz) (cc := cX3_readStrongSigns) (maxL := 5) (ret := none) (by decide) rfl (Nat.le_of_ble_eq_true rfl) ?_
  intro p e s m args below meth c A Q H ls hx hb hml hr hts hown hlocks hAe hQ hK hN hA hP hD hS hl
  have hown : s.vm.findClass RX3 = some m.cls := hown
  have hl : lv_has ls 5 [(0, .ref h3), (1, .ref h2), (2, .ref h0), (3, .int a3)] := hl
  have hP : va_P D vwCl ([(h3, .inr (3, [.ref h3_str, .ref h3_tlr, .ref h3_tsg])), (h3_str, .inl (cI, 40, .inl str)), (h3_tlr, .inl (cI, 240, .inl tlr)), (h3_tsg, .inl (cI, 240, .inl tsg)), (h2, .inr (2, [.ref h2_row, .ref h2_ten, .ref h2_pha, .int len, .int kep, .int wfi, .int wmo, .int hun])), (h2_row, .inl (cI, 240, .inl row)), (h2_ten, .inl (cI, 4, .inl ten)), (h2_pha, .inl (cI, 4, .inl pha)), (h0, .inr (0, [.ref h0_cel, .int cls])), (h0_cel, .inl (cI, 160, .inl cel))] ++ []) H := hP
  have hD : va_D A ([(h3, .inr (3, [.ref h3_str, .ref h3_tlr, .ref h3_tsg])), (h3_str, .inl (cI, 40, .inl str)), (h3_tlr, .inl (cI, 240, .inl tlr)), (h3_tsg, .inl (cI, 240, .inl tsg)), (h2, .inr (2, [.ref h2_row, .ref h2_ten, .ref h2_pha, .int len, .int kep, .int wfi, .int wmo, .int hun])), (h2_row, .inl (cI, 240, .inl row)), (h2_ten, .inl (cI, 4, .inl ten)), (h2_pha, .inl (cI, 4, .inl pha)), (h0, .inr (0, [.ref h0_cel, .int cls])), (h0_cel, .inl (cI, 160, .inl cel))] ++ []) := hD
  have iX0 : ∀ w ∈ u_ws RX0 TX0 2, w ∈ wsX3_readStrongSigns := fun _ h => List.mem_cons_of_mem _ (List.mem_append_left _ (List.mem_append_left _ (List.mem_append_right _ h)))
  have iX2 : ∀ w ∈ u_ws RX2 TX2 8, w ∈ wsX3_readStrongSigns := fun _ h => List.mem_cons_of_mem _ (List.mem_append_right _ h)
  have iX3 : ∀ w ∈ u_ws RX3 TX3 3, w ∈ wsX3_readStrongSigns := fun _ h => List.mem_cons_of_mem _ (List.mem_append_left _ (List.mem_append_right _ h))
  unfold fX3_readStrongSigns at h
  refine lv_aload_n hx hb dX3_readStrongSigns_0 rfl (lv_at hl 2 rfl) ?_
  refine lv_aload_n hx hb dX3_readStrongSigns_1 rfl (lv_at hl 1 rfl) ?_
  refine lv_iload_n hx hb dX3_readStrongSigns_2 rfl (lv_at hl 3 rfl) ?_
  obtain ⟨⟨x1_1, x1_2⟩, hx1, h⟩ := bnd h
  refine pw_gov (wc := [(h0, .inr (0, [.ref h0_cel, .int cls])), (h0_cel, .inl (cI, 160, .inl cel)), (h2, .inr (2, [.ref h2_row, .ref h2_ten, .ref h2_pha, .int len, .int kep, .int wfi, .int wmo, .int hun])), (h2_row, .inl (cI, 240, .inl row)), (h2_ten, .inl (cI, 4, .inl ten)), (h2_pha, .inl (cI, 4, .inl pha))]) (w1 := [(h0, .inr (0, [.ref h0_cel, .int x1_2])), (h0_cel, .inl (cI, 160, .inl x1_1)), (h2, .inr (2, [.ref h2_row, .ref h2_ten, .ref h2_pha, .int len, .int kep, .int wfi, .int wmo, .int hun])), (h2_row, .inl (cI, 240, .inl row)), (h2_ten, .inl (cI, 4, .inl ten)), (h2_pha, .inl (cI, 4, .inl pha))]) (w2 := [(h3, .inr (3, [.ref h3_str, .ref h3_tlr, .ref h3_tsg])), (h3_str, .inl (cI, 40, .inl str)), (h3_tlr, .inl (cI, 240, .inl tlr)), (h3_tsg, .inl (cI, 240, .inl tsg)), (h2, .inr (2, [.ref h2_row, .ref h2_ten, .ref h2_pha, .int len, .int kep, .int wfi, .int wmo, .int hun])), (h2_row, .inl (cI, 240, .inl row)), (h2_ten, .inl (cI, 4, .inl ten)), (h2_pha, .inl (cI, 4, .inl pha)), (h0, .inr (0, [.ref h0_cel, .int x1_2])), (h0_cel, .inl (cI, 160, .inl x1_1))]) (va_runV (As := [.ref h2, .int a3]) (rest := []) ⟨hx, hb, hml, hown, hts⟩ (mX0_takeKept l D cI cO cJ h0 h0_cel h2 h2_row h2_ten h2_pha H.size cel cls row ten pha len kep wfi wmo hun a3 _ hx1) (cwV 2 hts gX3_readStrongSigns_X0_takeKept rfl rfl rfl (by decide +kernel) ⟨Nat.le_of_ble_eq_true rfl, Nat.le_of_ble_eq_true rfl⟩) (pw_preV hK hN (pw_sub hP [8, 9, 4, 5, 6, 7] rfl) (pw_subD hD [8, 9, 4, 5, 6, 7] (by decide) rfl) (ci := 0) (q0 := 0) rfl rfl) rfl rfl hl.1 rfl (lv_room (Nat.le_of_ble_eq_true rfl)) dX3_readStrongSigns_3 ⟨Nat.zero_le _, Nat.zero_le _⟩) hP hD hS hA [8, 9, 4, 5, 6, 7] [0, 1, 2, 3] [0, 1, 2, 3, 6, 7, 8, 9, 4, 5] rfl rfl (by decide) (by decide) (by decide) rfl (fun H locs hP hD hS => ?_)
  refine lv_iconst (v := 0) hx hb dX3_readStrongSigns_6 (by decide) ?_
  refine lv_istore (lv' := [(4, .int 0), (0, .ref h3), (1, .ref h2), (2, .ref h0), (3, .int a3)]) hx hb dX3_readStrongSigns_7 hl (by decide) rfl (fun ls hl => ?_)
  have L9 : ∀ (n : Nat) (v4_9 : Int32) (str_9 : Nat → Int32) (o9_1 : Nat → Int32) (H : Heap) (locs : List Loc) (ls : Array Slot), fX3_readStrongSigns_L9 hun x1_1 x1_2 n v4_9 str_9 = some o9_1 → va_P D vwCl ([(h3, .inr (3, [.ref h3_str, .ref h3_tlr, .ref h3_tsg])), (h3_str, .inl (cI, 40, .inl str_9)), (h3_tlr, .inl (cI, 240, .inl tlr)), (h3_tsg, .inl (cI, 240, .inl tsg)), (h2, .inr (2, [.ref h2_row, .ref h2_ten, .ref h2_pha, .int len, .int kep, .int wfi, .int wmo, .int hun])), (h2_row, .inl (cI, 240, .inl row)), (h2_ten, .inl (cI, 4, .inl ten)), (h2_pha, .inl (cI, 4, .inl pha)), (h0, .inr (0, [.ref h0_cel, .int x1_2])), (h0_cel, .inl (cI, 160, .inl x1_1))] ++ []) H → va_D A ([(h3, .inr (3, [.ref h3_str, .ref h3_tlr, .ref h3_tsg])), (h3_str, .inl (cI, 40, .inl str_9)), (h3_tlr, .inl (cI, 240, .inl tlr)), (h3_tsg, .inl (cI, 240, .inl tsg)), (h2, .inr (2, [.ref h2_row, .ref h2_ten, .ref h2_pha, .int len, .int kep, .int wfi, .int wmo, .int hun])), (h2_row, .inl (cI, 240, .inl row)), (h2_ten, .inl (cI, 4, .inl ten)), (h2_pha, .inl (cI, 4, .inl pha)), (h0, .inr (0, [.ref h0_cel, .int x1_2])), (h0_cel, .inl (cI, 160, .inl x1_1))] ++ []) → va_S A s.heap H locs → lv_has ls 5 [(0, .ref h3), (1, .ref h2), (2, .ref h0), (4, .int v4_9)] → (∀ (H : Heap) (locs : List Loc) (ls : Array Slot), va_P D vwCl ([(h3, .inr (3, [.ref h3_str, .ref h3_tlr, .ref h3_tsg])), (h3_str, .inl (cI, 40, .inl o9_1)), (h3_tlr, .inl (cI, 240, .inl tlr)), (h3_tsg, .inl (cI, 240, .inl tsg)), (h2, .inr (2, [.ref h2_row, .ref h2_ten, .ref h2_pha, .int len, .int kep, .int wfi, .int wmo, .int hun])), (h2_row, .inl (cI, 240, .inl row)), (h2_ten, .inl (cI, 4, .inl ten)), (h2_pha, .inl (cI, 4, .inl pha)), (h0, .inr (0, [.ref h0_cel, .int x1_2])), (h0_cel, .inl (cI, 160, .inl x1_1))] ++ []) H → va_D A ([(h3, .inr (3, [.ref h3_str, .ref h3_tlr, .ref h3_tsg])), (h3_str, .inl (cI, 40, .inl o9_1)), (h3_tlr, .inl (cI, 240, .inl tlr)), (h3_tsg, .inl (cI, 240, .inl tsg)), (h2, .inr (2, [.ref h2_row, .ref h2_ten, .ref h2_pha, .int len, .int kep, .int wfi, .int wmo, .int hun])), (h2_row, .inl (cI, 240, .inl row)), (h2_ten, .inl (cI, 4, .inl ten)), (h2_pha, .inl (cI, 4, .inl pha)), (h0, .inr (0, [.ref h0_cel, .int x1_2])), (h0_cel, .inl (cI, 160, .inl x1_1))] ++ []) → va_S A s.heap H locs → lv_has ls 5 [] → W p l e rmX3_readStrongSigns s m args below meth c H locs 0 0 Q (F0 m 43 ls [])) → W p l e rmX3_readStrongSigns s m args below meth c H locs 0 0 Q (F0 m 9 ls []) := by
    intro n
    induction n with
    | zero =>
      intro v4_9 str_9 o9_1 H locs ls h
      rw [fX3_readStrongSigns_L9] at h
      cases h
    | succ n ih =>
      intro v4_9 str_9 o9_1 H locs ls h hP hD hS hl K
      rw [fX3_readStrongSigns_L9] at h
      refine lv_iload hx hb dX3_readStrongSigns_9 (lv_at hl 3 rfl) ?_
      refine lv_aload_n hx hb dX3_readStrongSigns_11 rfl (lv_at hl 2 rfl) ?_
      refine va_getN (D := D) (ci := 0) (v := .int x1_2) (C := RX0) (T := TX0) (N := 2) hx hb hts iX0 hown hK hP 8 rfl rfl 1 (by decide) (va_Nw.use rfl (hN (.fieldLinkNest RX3 46 "HiddenPeriods$Counts" "classes" "I" "HiddenPeriods") (by decide +kernel))) (fun _ h9 => h9) rfl dX3_readStrongSigns_12 ?_
      refine lv_icmp_ge (tgt := 43) hx hb dX3_readStrongSigns_15 (by decide) (fun cq => ?_) (fun cq => ?_)
      · replace h := ifp cq h
        cases h
        exact K _ _ _ hP hD hS (lv_sub hl [] rfl)
      · replace h := ifn cq h
        refine lv_aload_n hx hb dX3_readStrongSigns_18 rfl (lv_at hl 0 rfl) ?_
        refine va_get (D := D) (ci := 3) (v := .ref h3_str) (C := RX3) (T := TX3) (N := 3) hx hb hts iX3 hown hK hP 0 rfl rfl 0 (by decide) (hts (.fieldLink RX3 9 "HiddenPeriods$Telling" "strongSigns" "[I") (by decide +kernel)) (fun _ h9 => h9) rfl dX3_readStrongSigns_19 ?_
        refine lv_iload hx hb dX3_readStrongSigns_22 (lv_at hl 3 rfl) ?_
        refine lv_aload_n hx hb dX3_readStrongSigns_24 rfl (lv_at hl 2 rfl) ?_
        refine lv_iload hx hb dX3_readStrongSigns_25 (lv_at hl 3 rfl) ?_
        refine lv_aload_n hx hb dX3_readStrongSigns_27 rfl (lv_at hl 1 rfl) ?_
        refine va_getN (D := D) (ci := 2) (v := .int hun) (C := RX2) (T := TX2) (N := 8) hx hb hts iX2 hown hK hP 4 rfl rfl 7 (by decide) (va_Nw.use rfl (hN (.fieldLinkNest RX3 49 "HiddenPeriods$State" "hundredths" "I" "HiddenPeriods") (by decide +kernel))) (fun _ h9 => h9) rfl dX3_readStrongSigns_28 ?_
        obtain ⟨x2, hx2, h⟩ := bnd h
        refine pw_goi (wc := [(h0, .inr (0, [.ref h0_cel, .int x1_2])), (h0_cel, .inl (cI, 160, .inl x1_1))]) (w1 := [(h0, .inr (0, [.ref h0_cel, .int x1_2])), (h0_cel, .inl (cI, 160, .inl x1_1))]) (w2 := [(h3, .inr (3, [.ref h3_str, .ref h3_tlr, .ref h3_tsg])), (h3_str, .inl (cI, 40, .inl str_9)), (h3_tlr, .inl (cI, 240, .inl tlr)), (h3_tsg, .inl (cI, 240, .inl tsg)), (h2, .inr (2, [.ref h2_row, .ref h2_ten, .ref h2_pha, .int len, .int kep, .int wfi, .int wmo, .int hun])), (h2_row, .inl (cI, 240, .inl row)), (h2_ten, .inl (cI, 4, .inl ten)), (h2_pha, .inl (cI, 4, .inl pha)), (h0, .inr (0, [.ref h0_cel, .int x1_2])), (h0_cel, .inl (cI, 160, .inl x1_1))]) (va_runV (As := [.int v4_9, .int hun]) (rest := [.int v4_9, .ref h3_str]) ⟨hx, hb, hml, hown, hts⟩ (mX0_strongSignOf l D cI cO cJ h0 h0_cel H.size x1_1 x1_2 v4_9 hun _ hx2) (cwV 2 hts gX3_readStrongSigns_X0_strongSignOf rfl rfl rfl (by decide +kernel) ⟨Nat.le_of_ble_eq_true rfl, Nat.le_of_ble_eq_true rfl⟩) (pw_preV hK hN (pw_sub hP [8, 9] rfl) (pw_subD hD [8, 9] (by decide) rfl) (ci := 0) (q0 := 0) rfl rfl) rfl rfl hl.1 rfl (lv_room (Nat.le_of_ble_eq_true rfl)) dX3_readStrongSigns_31 ⟨Nat.zero_le _, Nat.zero_le _⟩) hP hD hS hA [8, 9] [0, 1, 2, 3, 4, 5, 6, 7] [0, 1, 2, 3, 4, 5, 6, 7, 8, 9] rfl rfl (by decide) (by decide) (by decide) rfl (fun H locs hP hD hS => ?_)
        obtain ⟨x3, hx3, h⟩ := bnd h
        refine pw_gov (wc := [(h3_str, .inl (cI, 40, .inl str_9))]) (w1 := [(h3_str, .inl (cI, 40, .inl x3))]) (w2 := [(h3, .inr (3, [.ref h3_str, .ref h3_tlr, .ref h3_tsg])), (h3_str, .inl (cI, 40, .inl x3)), (h3_tlr, .inl (cI, 240, .inl tlr)), (h3_tsg, .inl (cI, 240, .inl tsg)), (h2, .inr (2, [.ref h2_row, .ref h2_ten, .ref h2_pha, .int len, .int kep, .int wfi, .int wmo, .int hun])), (h2_row, .inl (cI, 240, .inl row)), (h2_ten, .inl (cI, 4, .inl ten)), (h2_pha, .inl (cI, 4, .inl pha)), (h0, .inr (0, [.ref h0_cel, .int x1_2])), (h0_cel, .inl (cI, 160, .inl x1_1))]) (va_runSN (As := [.ref h3_str, .int v4_9, .int x2]) (rest := []) ⟨hx, hb, hml, hown, hts⟩ (mX5_lay l D cI cO cJ h3_str H.size str_9 40 v4_9 x2 _ hx3) ⟨va_cnB 3 hts gX3_readStrongSigns_X5_lay_n56 rfl rfl rfl (hN (.methodLinkNest RX3 56 yX5_lay "HiddenPeriods") (by decide +kernel)) (hts (.initialized RX5) (by decide +kernel)) (by decide +kernel) ⟨Nat.le_of_ble_eq_true rfl, Nat.le_of_ble_eq_true rfl⟩, (hts (.static yX5_lay) (by decide +kernel)), trivial⟩ (pw_preS hK hN (pw_sub hP [1] rfl) (pw_subD hD [1] (by decide) rfl)) rfl rfl hl.1 rfl (lv_room (Nat.le_of_ble_eq_true rfl)) dX3_readStrongSigns_34 ⟨Nat.zero_le _, Nat.zero_le _⟩) hP hD hS hA [1] [0, 2, 3, 4, 5, 6, 7, 8, 9] [0, 9, 1, 2, 3, 4, 5, 6, 7, 8] rfl rfl (by decide) (by decide) (by decide) rfl (fun H locs hP hD hS => ?_)
        refine lv_iinc (v := (v4_9 + 1)) (lv' := [(4, .int (v4_9 + 1)), (0, .ref h3), (1, .ref h2), (2, .ref h0)]) hx hb dX3_readStrongSigns_37 hl (k := 3) rfl rfl (by decide) rfl (fun ls hl => ?_)
        refine lv_goto (tgt := 9) hx hb dX3_readStrongSigns_40 (by decide) ?_
        exact ih _ _ _ _ _ _ h hP hD hS (lv_sub hl [1, 2, 3, 0] rfl) K
  obtain ⟨x4, hx4, h⟩ := bnd h
  refine L9 FU _ _ _ _ _ _ hx4 hP hD hS (lv_sub hl [1, 2, 3, 0] rfl) (fun H locs ls hP hD hS hl => ?_)
  cases h
  exact pw_vret hx hb hr hlocks hAe hQ hP hD hS dX3_readStrongSigns_43
def fX3_tellerAt (tlr : Nat → Int32) (a1 : Int32) : Option Int32 :=
  (fX5_cellAt tlr 240 a1).bind fun x1 =>
  some x1
abbrev rmX3_tellerAt : Room := { frames := 1, cells := 0, slots := 0, locals := 21 }
set_option maxHeartbeats 4000000 in
set_option maxRecDepth 100000 in
theorem mX3_tellerAt (l : Launch) (D : va_G) (cI cO cJ : ClassId) (h3 h3_str h3_tlr h3_tsg : Nat) (sz : Nat) (str : Nat → Int32) (tlr : Nat → Int32) (tsg : Nat → Int32) (a1 : Int32) (z : Int32) (h : fX3_tellerAt tlr a1 = some z) : Met l yX3_tellerAt wsX3_tellerAt rmX3_tellerAt (pw_pre D (tyL cI cO cJ) [.ref h3, .int a1] [(h3, .inr (3, [.ref h3_str, .ref h3_tlr, .ref h3_tsg])), (h3_str, .inl (cI, 40, .inl str)), (h3_tlr, .inl (cI, 240, .inl tlr)), (h3_tsg, .inl (cI, 240, .inl tsg))] sz) (pw_i D [(h3, .inr (3, [.ref h3_str, .ref h3_tlr, .ref h3_tsg])), (h3_str, .inl (cI, 40, .inl str)), (h3_tlr, .inl (cI, 240, .inl tlr)), (h3_tsg, .inl (cI, 240, .inl tsg))] [(h3, .inr (3, [.ref h3_str, .ref h3_tlr, .ref h3_tsg])), (h3_str, .inl (cI, 40, .inl str)), (h3_tlr, .inl (cI, 240, .inl tlr)), (h3_tsg, .inl (cI, 240, .inl tsg))] z sz) 0 0 (va_A [(h3, .inr (3, [.ref h3_str, .ref h3_tlr, .ref h3_tsg])), (h3_str, .inl (cI, 40, .inl str)), (h3_tlr, .inl (cI, 240, .inl tlr)), (h3_tsg, .inl (cI, 240, .inl tsg))] sz) := by
  refine pw_of (Qc := fun sz => pw_i D [(h3, .inr (3, [.ref h3_str, .ref h3_tlr, .ref h3_tsg])), (h3_str, .inl (cI, 40, .inl str)), (h3_tlr, .inl (cI, 240, .inl tlr)), (h3_tsg, .inl (cI, 240, .inl tsg))] [(h3, .inr (3, [.ref h3_str, .ref h3_tlr, .ref h3_tsg])), (h3_str, .inl (cI, 40, .inl str)), (h3_tlr, .inl (cI, 240, .inl tlr)), (h3_tsg, .inl (cI, 240, .inl tsg))] z sz) (cc := cX3_tellerAt) (maxL := 2) (ret := (some .int)) (by decide) rfl (Nat.le_of_ble_eq_true rfl) ?_
  intro p e s m args below meth c A Q H ls hx hb hml hr hts hown hlocks hAe hQ hK hN hA hP hD hS hl
  have hown : s.vm.findClass RX3 = some m.cls := hown
  have hl : lv_has ls 2 [(0, .ref h3), (1, .int a1)] := hl
  have hP : va_P D vwCl ([(h3, .inr (3, [.ref h3_str, .ref h3_tlr, .ref h3_tsg])), (h3_str, .inl (cI, 40, .inl str)), (h3_tlr, .inl (cI, 240, .inl tlr)), (h3_tsg, .inl (cI, 240, .inl tsg))] ++ []) H := hP
  have hD : va_D A ([(h3, .inr (3, [.ref h3_str, .ref h3_tlr, .ref h3_tsg])), (h3_str, .inl (cI, 40, .inl str)), (h3_tlr, .inl (cI, 240, .inl tlr)), (h3_tsg, .inl (cI, 240, .inl tsg))] ++ []) := hD
  have iX3 : ∀ w ∈ u_ws RX3 TX3 3, w ∈ wsX3_tellerAt := fun _ h => List.mem_cons_of_mem _ (List.mem_append_right _ h)
  unfold fX3_tellerAt at h
  refine lv_aload_n hx hb dX3_tellerAt_0 rfl (lv_at hl 0 rfl) ?_
  refine va_get (D := D) (ci := 3) (v := .ref h3_tlr) (C := RX3) (T := TX3) (N := 3) hx hb hts iX3 hown hK hP 0 rfl rfl 1 (by decide) (hts (.fieldLink RX3 15 "HiddenPeriods$Telling" "tellers" "[I") (by decide +kernel)) (fun _ h9 => h9) rfl dX3_tellerAt_1 ?_
  refine lv_iload_n hx hb dX3_tellerAt_4 rfl (lv_at hl 1 rfl) ?_
  obtain ⟨x1, hx1, h⟩ := bnd h
  refine pw_goi (wc := [(h3_tlr, .inl (cI, 240, .inl tlr))]) (w1 := [(h3_tlr, .inl (cI, 240, .inl tlr))]) (w2 := [(h3, .inr (3, [.ref h3_str, .ref h3_tlr, .ref h3_tsg])), (h3_str, .inl (cI, 40, .inl str)), (h3_tlr, .inl (cI, 240, .inl tlr)), (h3_tsg, .inl (cI, 240, .inl tsg))]) (va_runSN (As := [.ref h3_tlr, .int a1]) (rest := []) ⟨hx, hb, hml, hown, hts⟩ (mX5_cellAt l D cI cO cJ h3_tlr H.size tlr 240 a1 _ hx1) ⟨va_cnB 2 hts gX3_tellerAt_X5_cellAt_n78 rfl rfl rfl (hN (.methodLinkNest RX3 78 yX5_cellAt "HiddenPeriods") (by decide +kernel)) (hts (.initialized RX5) (by decide +kernel)) (by decide +kernel) ⟨Nat.le_of_ble_eq_true rfl, Nat.le_of_ble_eq_true rfl⟩, (hts (.static yX5_cellAt) (by decide +kernel)), trivial⟩ (pw_preS hK hN (pw_sub hP [2] rfl) (pw_subD hD [2] (by decide) rfl)) rfl rfl hl.1 rfl (lv_room (Nat.le_of_ble_eq_true rfl)) dX3_tellerAt_5 ⟨Nat.zero_le _, Nat.zero_le _⟩) hP hD hS hA [2] [0, 1, 3] [0, 1, 3, 2] rfl rfl (by decide) (by decide) (by decide) rfl (fun H locs hP hD hS => ?_)
  cases h
  exact pw_iret hx hb hr hlocks hAe hQ hP hD hS dX3_tellerAt_8
def fX3_tellBy_L25 (str : Nat → Int32) (a2 : Int32) (x1 : Int32) (x2 : Int32) (x3 : Int32) : Nat → Int32 → (Nat → Int32) → (Nat → Int32) → Option ((Nat → Int32) × (Nat → Int32))
  | 0, _, _, _ => none
  | n + 1, v6_25, tlr_25, tsg_25 =>
    if x3 ≤ v6_25 then
    some (tlr_25, tsg_25)
    else
    (fX5_classOf v6_25 x1 x2).bind fun x5 =>
    (fX5_cellAt str 40 x5).bind fun x6 =>
    if x6 = (-1) then
    fX3_tellBy_L25 str a2 x1 x2 x3 n (v6_25 + 1) tlr_25 tsg_25
    else
    (fX3_tellerAt tlr_25 v6_25).bind fun x7 =>
    if x7 = (-1) then
    (fX5_lay tlr_25 240 v6_25 a2).bind fun x8 =>
    (fX5_lay tsg_25 240 v6_25 x6).bind fun x9 =>
    fX3_tellBy_L25 str a2 x1 x2 x3 n (v6_25 + 1) x8 x9
    else
    fX3_tellBy_L25 str a2 x1 x2 x3 n (v6_25 + 1) tlr_25 tsg_25
def fX3_tellBy (str : Nat → Int32) (tlr : Nat → Int32) (tsg : Nat → Int32) (ten : Nat → Int32) (pha : Nat → Int32) (len : Int32) (wfi : Int32) (wmo : Int32) (a2 : Int32) : Option ((Nat → Int32) × (Nat → Int32)) :=
  (fX2_tenthsAt ten a2).bind fun x1 =>
  (fX2_phaseAt pha a2).bind fun x2 =>
  (fX2_windowEnd len wfi wmo).bind fun x3 =>
  (fX2_windowStart wfi wmo).bind fun x4 =>
  (fX3_tellBy_L25 str a2 x1 x2 x3 FU x4 tlr tsg).bind fun (x10_1, x10_2) =>
  some (x10_1, x10_2)
abbrev rmX3_tellBy : Room := { frames := 3, cells := 0, slots := 0, locals := 61 }
set_option maxHeartbeats 4000000 in
set_option maxRecDepth 100000 in
theorem mX3_tellBy (l : Launch) (D : va_G) (cI cO cJ : ClassId) (h3 h3_str h3_tlr h3_tsg h2 h2_row h2_ten h2_pha : Nat) (sz : Nat) (str : Nat → Int32) (tlr : Nat → Int32) (tsg : Nat → Int32) (row : Nat → Int32) (ten : Nat → Int32) (pha : Nat → Int32) (len : Int32) (kep : Int32) (wfi : Int32) (wmo : Int32) (hun : Int32) (a2 : Int32) (z : (Nat → Int32) × (Nat → Int32)) (h : fX3_tellBy str tlr tsg ten pha len wfi wmo a2 = some z) : Met l yX3_tellBy wsX3_tellBy rmX3_tellBy (pw_pre D (tyL cI cO cJ) [.ref h3, .ref h2, .int a2] [(h3, .inr (3, [.ref h3_str, .ref h3_tlr, .ref h3_tsg])), (h3_str, .inl (cI, 40, .inl str)), (h3_tlr, .inl (cI, 240, .inl tlr)), (h3_tsg, .inl (cI, 240, .inl tsg)), (h2, .inr (2, [.ref h2_row, .ref h2_ten, .ref h2_pha, .int len, .int kep, .int wfi, .int wmo, .int hun])), (h2_row, .inl (cI, 240, .inl row)), (h2_ten, .inl (cI, 4, .inl ten)), (h2_pha, .inl (cI, 4, .inl pha))] sz) (pw_v D [(h3, .inr (3, [.ref h3_str, .ref h3_tlr, .ref h3_tsg])), (h3_str, .inl (cI, 40, .inl str)), (h3_tlr, .inl (cI, 240, .inl tlr)), (h3_tsg, .inl (cI, 240, .inl tsg)), (h2, .inr (2, [.ref h2_row, .ref h2_ten, .ref h2_pha, .int len, .int kep, .int wfi, .int wmo, .int hun])), (h2_row, .inl (cI, 240, .inl row)), (h2_ten, .inl (cI, 4, .inl ten)), (h2_pha, .inl (cI, 4, .inl pha))] [(h3, .inr (3, [.ref h3_str, .ref h3_tlr, .ref h3_tsg])), (h3_str, .inl (cI, 40, .inl str)), (h3_tlr, .inl (cI, 240, .inl z.1)), (h3_tsg, .inl (cI, 240, .inl z.2)), (h2, .inr (2, [.ref h2_row, .ref h2_ten, .ref h2_pha, .int len, .int kep, .int wfi, .int wmo, .int hun])), (h2_row, .inl (cI, 240, .inl row)), (h2_ten, .inl (cI, 4, .inl ten)), (h2_pha, .inl (cI, 4, .inl pha))] sz) 0 0 (va_A [(h3, .inr (3, [.ref h3_str, .ref h3_tlr, .ref h3_tsg])), (h3_str, .inl (cI, 40, .inl str)), (h3_tlr, .inl (cI, 240, .inl tlr)), (h3_tsg, .inl (cI, 240, .inl tsg)), (h2, .inr (2, [.ref h2_row, .ref h2_ten, .ref h2_pha, .int len, .int kep, .int wfi, .int wmo, .int hun])), (h2_row, .inl (cI, 240, .inl row)), (h2_ten, .inl (cI, 4, .inl ten)), (h2_pha, .inl (cI, 4, .inl pha))] sz) := by
  refine pw_of (Qc := fun sz => pw_v D [(h3, .inr (3, [.ref h3_str, .ref h3_tlr, .ref h3_tsg])), (h3_str, .inl (cI, 40, .inl str)), (h3_tlr, .inl (cI, 240, .inl tlr)), (h3_tsg, .inl (cI, 240, .inl tsg)), (h2, .inr (2, [.ref h2_row, .ref h2_ten, .ref h2_pha, .int len, .int kep, .int wfi, .int wmo, .int hun])), (h2_row, .inl (cI, 240, .inl row)), (h2_ten, .inl (cI, 4, .inl ten)), (h2_pha, .inl (cI, 4, .inl pha))] [(h3, .inr (3, [.ref h3_str, .ref h3_tlr, .ref h3_tsg])), (h3_str, .inl (cI, 40, .inl str)), (h3_tlr, .inl (cI, 240, .inl z.1)), (h3_tsg, .inl (cI, 240, .inl z.2)), (h2, .inr (2, [.ref h2_row, .ref h2_ten, .ref h2_pha, .int len, .int kep, .int wfi, .int wmo, .int hun])), (h2_row, .inl (cI, 240, .inl row)), (h2_ten, .inl (cI, 4, .inl ten)), (h2_pha, .inl (cI, 4, .inl pha))] sz) (cc := cX3_tellBy) (maxL := 8) (ret := none) (by decide) rfl (Nat.le_of_ble_eq_true rfl) ?_
  intro p e s m args below meth c A Q H ls hx hb hml hr hts hown hlocks hAe hQ hK hN hA hP hD hS hl
  have hown : s.vm.findClass RX3 = some m.cls := hown
  have hl : lv_has ls 8 [(0, .ref h3), (1, .ref h2), (2, .int a2)] := hl
  have hP : va_P D vwCl ([(h3, .inr (3, [.ref h3_str, .ref h3_tlr, .ref h3_tsg])), (h3_str, .inl (cI, 40, .inl str)), (h3_tlr, .inl (cI, 240, .inl tlr)), (h3_tsg, .inl (cI, 240, .inl tsg)), (h2, .inr (2, [.ref h2_row, .ref h2_ten, .ref h2_pha, .int len, .int kep, .int wfi, .int wmo, .int hun])), (h2_row, .inl (cI, 240, .inl row)), (h2_ten, .inl (cI, 4, .inl ten)), (h2_pha, .inl (cI, 4, .inl pha))] ++ []) H := hP
  have hD : va_D A ([(h3, .inr (3, [.ref h3_str, .ref h3_tlr, .ref h3_tsg])), (h3_str, .inl (cI, 40, .inl str)), (h3_tlr, .inl (cI, 240, .inl tlr)), (h3_tsg, .inl (cI, 240, .inl tsg)), (h2, .inr (2, [.ref h2_row, .ref h2_ten, .ref h2_pha, .int len, .int kep, .int wfi, .int wmo, .int hun])), (h2_row, .inl (cI, 240, .inl row)), (h2_ten, .inl (cI, 4, .inl ten)), (h2_pha, .inl (cI, 4, .inl pha))] ++ []) := hD
  have iX3 : ∀ w ∈ u_ws RX3 TX3 3, w ∈ wsX3_tellBy := fun _ h => List.mem_cons_of_mem _ (List.mem_append_left _ (List.mem_append_right _ h))
  unfold fX3_tellBy at h
  refine lv_aload_n hx hb dX3_tellBy_0 rfl (lv_at hl 1 rfl) ?_
  refine lv_iload_n hx hb dX3_tellBy_1 rfl (lv_at hl 2 rfl) ?_
  obtain ⟨x1, hx1, h⟩ := bnd h
  refine pw_goi (wc := [(h2, .inr (2, [.ref h2_row, .ref h2_ten, .ref h2_pha, .int len, .int kep, .int wfi, .int wmo, .int hun])), (h2_row, .inl (cI, 240, .inl row)), (h2_ten, .inl (cI, 4, .inl ten)), (h2_pha, .inl (cI, 4, .inl pha))]) (w1 := [(h2, .inr (2, [.ref h2_row, .ref h2_ten, .ref h2_pha, .int len, .int kep, .int wfi, .int wmo, .int hun])), (h2_row, .inl (cI, 240, .inl row)), (h2_ten, .inl (cI, 4, .inl ten)), (h2_pha, .inl (cI, 4, .inl pha))]) (w2 := [(h3, .inr (3, [.ref h3_str, .ref h3_tlr, .ref h3_tsg])), (h3_str, .inl (cI, 40, .inl str)), (h3_tlr, .inl (cI, 240, .inl tlr)), (h3_tsg, .inl (cI, 240, .inl tsg)), (h2, .inr (2, [.ref h2_row, .ref h2_ten, .ref h2_pha, .int len, .int kep, .int wfi, .int wmo, .int hun])), (h2_row, .inl (cI, 240, .inl row)), (h2_ten, .inl (cI, 4, .inl ten)), (h2_pha, .inl (cI, 4, .inl pha))]) (va_runV (As := [.int a2]) (rest := []) ⟨hx, hb, hml, hown, hts⟩ (mX2_tenthsAt l D cI cO cJ h2 h2_row h2_ten h2_pha H.size row ten pha len kep wfi wmo hun a2 _ hx1) (cwV 1 hts gX3_tellBy_X2_tenthsAt rfl rfl rfl (by decide +kernel) ⟨Nat.le_of_ble_eq_true rfl, Nat.le_of_ble_eq_true rfl⟩) (pw_preV hK hN (pw_sub hP [4, 5, 6, 7] rfl) (pw_subD hD [4, 5, 6, 7] (by decide) rfl) (ci := 2) (q0 := 0) rfl rfl) rfl rfl hl.1 rfl (lv_room (Nat.le_of_ble_eq_true rfl)) dX3_tellBy_2 ⟨Nat.zero_le _, Nat.zero_le _⟩) hP hD hS hA [4, 5, 6, 7] [0, 1, 2, 3] [0, 1, 2, 3, 4, 5, 6, 7] rfl rfl (by decide) (by decide) (by decide) rfl (fun H locs hP hD hS => ?_)
  refine lv_istore_n (lv' := [(3, .int x1), (0, .ref h3), (1, .ref h2), (2, .int a2)]) hx hb dX3_tellBy_5 rfl hl (by decide) rfl (fun ls hl => ?_)
  refine lv_aload_n hx hb dX3_tellBy_6 rfl (lv_at hl 2 rfl) ?_
  refine lv_iload_n hx hb dX3_tellBy_7 rfl (lv_at hl 3 rfl) ?_
  obtain ⟨x2, hx2, h⟩ := bnd h
  refine pw_goi (wc := [(h2, .inr (2, [.ref h2_row, .ref h2_ten, .ref h2_pha, .int len, .int kep, .int wfi, .int wmo, .int hun])), (h2_row, .inl (cI, 240, .inl row)), (h2_ten, .inl (cI, 4, .inl ten)), (h2_pha, .inl (cI, 4, .inl pha))]) (w1 := [(h2, .inr (2, [.ref h2_row, .ref h2_ten, .ref h2_pha, .int len, .int kep, .int wfi, .int wmo, .int hun])), (h2_row, .inl (cI, 240, .inl row)), (h2_ten, .inl (cI, 4, .inl ten)), (h2_pha, .inl (cI, 4, .inl pha))]) (w2 := [(h3, .inr (3, [.ref h3_str, .ref h3_tlr, .ref h3_tsg])), (h3_str, .inl (cI, 40, .inl str)), (h3_tlr, .inl (cI, 240, .inl tlr)), (h3_tsg, .inl (cI, 240, .inl tsg)), (h2, .inr (2, [.ref h2_row, .ref h2_ten, .ref h2_pha, .int len, .int kep, .int wfi, .int wmo, .int hun])), (h2_row, .inl (cI, 240, .inl row)), (h2_ten, .inl (cI, 4, .inl ten)), (h2_pha, .inl (cI, 4, .inl pha))]) (va_runV (As := [.int a2]) (rest := []) ⟨hx, hb, hml, hown, hts⟩ (mX2_phaseAt l D cI cO cJ h2 h2_row h2_ten h2_pha H.size row ten pha len kep wfi wmo hun a2 _ hx2) (cwV 1 hts gX3_tellBy_X2_phaseAt rfl rfl rfl (by decide +kernel) ⟨Nat.le_of_ble_eq_true rfl, Nat.le_of_ble_eq_true rfl⟩) (pw_preV hK hN (pw_sub hP [4, 5, 6, 7] rfl) (pw_subD hD [4, 5, 6, 7] (by decide) rfl) (ci := 2) (q0 := 0) rfl rfl) rfl rfl hl.1 rfl (lv_room (Nat.le_of_ble_eq_true rfl)) dX3_tellBy_8 ⟨Nat.zero_le _, Nat.zero_le _⟩) hP hD hS hA [4, 5, 6, 7] [0, 1, 2, 3] [0, 1, 2, 3, 4, 5, 6, 7] rfl rfl (by decide) (by decide) (by decide) rfl (fun H locs hP hD hS => ?_)
  refine lv_istore (lv' := [(4, .int x2), (3, .int x1), (0, .ref h3), (1, .ref h2), (2, .int a2)]) hx hb dX3_tellBy_11 hl (by decide) rfl (fun ls hl => ?_)
  refine lv_aload_n hx hb dX3_tellBy_13 rfl (lv_at hl 3 rfl) ?_
  obtain ⟨x3, hx3, h⟩ := bnd h
  refine pw_goi (wc := [(h2, .inr (2, [.ref h2_row, .ref h2_ten, .ref h2_pha, .int len, .int kep, .int wfi, .int wmo, .int hun])), (h2_row, .inl (cI, 240, .inl row)), (h2_ten, .inl (cI, 4, .inl ten)), (h2_pha, .inl (cI, 4, .inl pha))]) (w1 := [(h2, .inr (2, [.ref h2_row, .ref h2_ten, .ref h2_pha, .int len, .int kep, .int wfi, .int wmo, .int hun])), (h2_row, .inl (cI, 240, .inl row)), (h2_ten, .inl (cI, 4, .inl ten)), (h2_pha, .inl (cI, 4, .inl pha))]) (w2 := [(h3, .inr (3, [.ref h3_str, .ref h3_tlr, .ref h3_tsg])), (h3_str, .inl (cI, 40, .inl str)), (h3_tlr, .inl (cI, 240, .inl tlr)), (h3_tsg, .inl (cI, 240, .inl tsg)), (h2, .inr (2, [.ref h2_row, .ref h2_ten, .ref h2_pha, .int len, .int kep, .int wfi, .int wmo, .int hun])), (h2_row, .inl (cI, 240, .inl row)), (h2_ten, .inl (cI, 4, .inl ten)), (h2_pha, .inl (cI, 4, .inl pha))]) (va_runV (As := []) (rest := []) ⟨hx, hb, hml, hown, hts⟩ (mX2_windowEnd l D cI cO cJ h2 h2_row h2_ten h2_pha H.size row ten pha len kep wfi wmo hun _ hx3) (cwV 0 hts gX3_tellBy_X2_windowEnd rfl rfl rfl (by decide +kernel) ⟨Nat.le_of_ble_eq_true rfl, Nat.le_of_ble_eq_true rfl⟩) (pw_preV hK hN (pw_sub hP [4, 5, 6, 7] rfl) (pw_subD hD [4, 5, 6, 7] (by decide) rfl) (ci := 2) (q0 := 0) rfl rfl) rfl rfl hl.1 rfl (lv_room (Nat.le_of_ble_eq_true rfl)) dX3_tellBy_14 ⟨Nat.zero_le _, Nat.zero_le _⟩) hP hD hS hA [4, 5, 6, 7] [0, 1, 2, 3] [0, 1, 2, 3, 4, 5, 6, 7] rfl rfl (by decide) (by decide) (by decide) rfl (fun H locs hP hD hS => ?_)
  refine lv_istore (lv' := [(5, .int x3), (4, .int x2), (3, .int x1), (0, .ref h3), (1, .ref h2), (2, .int a2)]) hx hb dX3_tellBy_17 hl (by decide) rfl (fun ls hl => ?_)
  refine lv_aload_n hx hb dX3_tellBy_19 rfl (lv_at hl 4 rfl) ?_
  obtain ⟨x4, hx4, h⟩ := bnd h
  refine pw_goi (wc := [(h2, .inr (2, [.ref h2_row, .ref h2_ten, .ref h2_pha, .int len, .int kep, .int wfi, .int wmo, .int hun])), (h2_row, .inl (cI, 240, .inl row)), (h2_ten, .inl (cI, 4, .inl ten)), (h2_pha, .inl (cI, 4, .inl pha))]) (w1 := [(h2, .inr (2, [.ref h2_row, .ref h2_ten, .ref h2_pha, .int len, .int kep, .int wfi, .int wmo, .int hun])), (h2_row, .inl (cI, 240, .inl row)), (h2_ten, .inl (cI, 4, .inl ten)), (h2_pha, .inl (cI, 4, .inl pha))]) (w2 := [(h3, .inr (3, [.ref h3_str, .ref h3_tlr, .ref h3_tsg])), (h3_str, .inl (cI, 40, .inl str)), (h3_tlr, .inl (cI, 240, .inl tlr)), (h3_tsg, .inl (cI, 240, .inl tsg)), (h2, .inr (2, [.ref h2_row, .ref h2_ten, .ref h2_pha, .int len, .int kep, .int wfi, .int wmo, .int hun])), (h2_row, .inl (cI, 240, .inl row)), (h2_ten, .inl (cI, 4, .inl ten)), (h2_pha, .inl (cI, 4, .inl pha))]) (va_runV (As := []) (rest := []) ⟨hx, hb, hml, hown, hts⟩ (mX2_windowStart l D cI cO cJ h2 h2_row h2_ten h2_pha H.size row ten pha len kep wfi wmo hun _ hx4) (cwV 0 hts gX3_tellBy_X2_windowStart rfl rfl rfl (by decide +kernel) ⟨Nat.le_of_ble_eq_true rfl, Nat.le_of_ble_eq_true rfl⟩) (pw_preV hK hN (pw_sub hP [4, 5, 6, 7] rfl) (pw_subD hD [4, 5, 6, 7] (by decide) rfl) (ci := 2) (q0 := 0) rfl rfl) rfl rfl hl.1 rfl (lv_room (Nat.le_of_ble_eq_true rfl)) dX3_tellBy_20 ⟨Nat.zero_le _, Nat.zero_le _⟩) hP hD hS hA [4, 5, 6, 7] [0, 1, 2, 3] [0, 1, 2, 3, 4, 5, 6, 7] rfl rfl (by decide) (by decide) (by decide) rfl (fun H locs hP hD hS => ?_)
  refine lv_istore (lv' := [(6, .int x4), (5, .int x3), (4, .int x2), (3, .int x1), (0, .ref h3), (1, .ref h2), (2, .int a2)]) hx hb dX3_tellBy_23 hl (by decide) rfl (fun ls hl => ?_)
  have L25 : ∀ (n : Nat) (v6_25 : Int32) (tlr_25 : Nat → Int32) (tsg_25 : Nat → Int32) (o25_1 : Nat → Int32) (o25_2 : Nat → Int32) (H : Heap) (locs : List Loc) (ls : Array Slot), fX3_tellBy_L25 str a2 x1 x2 x3 n v6_25 tlr_25 tsg_25 = some (o25_1, o25_2) → va_P D vwCl ([(h3, .inr (3, [.ref h3_str, .ref h3_tlr, .ref h3_tsg])), (h3_str, .inl (cI, 40, .inl str)), (h3_tlr, .inl (cI, 240, .inl tlr_25)), (h3_tsg, .inl (cI, 240, .inl tsg_25)), (h2, .inr (2, [.ref h2_row, .ref h2_ten, .ref h2_pha, .int len, .int kep, .int wfi, .int wmo, .int hun])), (h2_row, .inl (cI, 240, .inl row)), (h2_ten, .inl (cI, 4, .inl ten)), (h2_pha, .inl (cI, 4, .inl pha))] ++ []) H → va_D A ([(h3, .inr (3, [.ref h3_str, .ref h3_tlr, .ref h3_tsg])), (h3_str, .inl (cI, 40, .inl str)), (h3_tlr, .inl (cI, 240, .inl tlr_25)), (h3_tsg, .inl (cI, 240, .inl tsg_25)), (h2, .inr (2, [.ref h2_row, .ref h2_ten, .ref h2_pha, .int len, .int kep, .int wfi, .int wmo, .int hun])), (h2_row, .inl (cI, 240, .inl row)), (h2_ten, .inl (cI, 4, .inl ten)), (h2_pha, .inl (cI, 4, .inl pha))] ++ []) → va_S A s.heap H locs → lv_has ls 8 [(0, .ref h3), (2, .int a2), (3, .int x1), (4, .int x2), (5, .int x3), (6, .int v6_25)] → (∀ (H : Heap) (locs : List Loc) (ls : Array Slot), va_P D vwCl ([(h3, .inr (3, [.ref h3_str, .ref h3_tlr, .ref h3_tsg])), (h3_str, .inl (cI, 40, .inl str)), (h3_tlr, .inl (cI, 240, .inl o25_1)), (h3_tsg, .inl (cI, 240, .inl o25_2)), (h2, .inr (2, [.ref h2_row, .ref h2_ten, .ref h2_pha, .int len, .int kep, .int wfi, .int wmo, .int hun])), (h2_row, .inl (cI, 240, .inl row)), (h2_ten, .inl (cI, 4, .inl ten)), (h2_pha, .inl (cI, 4, .inl pha))] ++ []) H → va_D A ([(h3, .inr (3, [.ref h3_str, .ref h3_tlr, .ref h3_tsg])), (h3_str, .inl (cI, 40, .inl str)), (h3_tlr, .inl (cI, 240, .inl o25_1)), (h3_tsg, .inl (cI, 240, .inl o25_2)), (h2, .inr (2, [.ref h2_row, .ref h2_ten, .ref h2_pha, .int len, .int kep, .int wfi, .int wmo, .int hun])), (h2_row, .inl (cI, 240, .inl row)), (h2_ten, .inl (cI, 4, .inl ten)), (h2_pha, .inl (cI, 4, .inl pha))] ++ []) → va_S A s.heap H locs → lv_has ls 8 [] → W p l e rmX3_tellBy s m args below meth c H locs 0 0 Q (F0 m 92 ls [])) → W p l e rmX3_tellBy s m args below meth c H locs 0 0 Q (F0 m 25 ls []) := by
    intro n
    induction n with
    | zero =>
      intro v6_25 tlr_25 tsg_25 o25_1 o25_2 H locs ls h
      rw [fX3_tellBy_L25] at h
      cases h
    | succ n ih =>
      intro v6_25 tlr_25 tsg_25 o25_1 o25_2 H locs ls h hP hD hS hl K
      rw [fX3_tellBy_L25] at h
      refine lv_iload hx hb dX3_tellBy_25 (lv_at hl 5 rfl) ?_
      refine lv_iload hx hb dX3_tellBy_27 (lv_at hl 4 rfl) ?_
      refine lv_icmp_ge (tgt := 92) hx hb dX3_tellBy_29 (by decide) (fun cq => ?_) (fun cq => ?_)
      · replace h := ifp cq h
        cases h
        exact K _ _ _ hP hD hS (lv_sub hl [] rfl)
      · replace h := ifn cq h
        refine lv_aload_n hx hb dX3_tellBy_32 rfl (lv_at hl 0 rfl) ?_
        refine va_get (D := D) (ci := 3) (v := .ref h3_str) (C := RX3) (T := TX3) (N := 3) hx hb hts iX3 hown hK hP 0 rfl rfl 0 (by decide) (hts (.fieldLink RX3 9 "HiddenPeriods$Telling" "strongSigns" "[I") (by decide +kernel)) (fun _ h9 => h9) rfl dX3_tellBy_33 ?_
        refine lv_iload hx hb dX3_tellBy_36 (lv_at hl 5 rfl) ?_
        refine lv_iload_n hx hb dX3_tellBy_38 rfl (lv_at hl 2 rfl) ?_
        refine lv_iload hx hb dX3_tellBy_39 (lv_at hl 3 rfl) ?_
        obtain ⟨x5, hx5, h⟩ := bnd h
        refine pw_go0 (va_runSN (As := [.int v6_25, .int x1, .int x2]) (rest := [.ref h3_str]) ⟨hx, hb, hml, hown, hts⟩ (mX5_classOf l D cI cO cJ H.size v6_25 x1 x2 _ hx5) ⟨va_cnB 3 hts gX3_tellBy_X5_classOf_n74 rfl rfl rfl (hN (.methodLinkNest RX3 74 yX5_classOf "HiddenPeriods") (by decide +kernel)) (hts (.initialized RX5) (by decide +kernel)) (by decide +kernel) ⟨Nat.le_of_ble_eq_true rfl, Nat.le_of_ble_eq_true rfl⟩, (hts (.static yX5_classOf) (by decide +kernel)), trivial⟩ (pw_preS hK hN pw_nilP (pw_nilD (A := A))) rfl rfl hl.1 rfl (lv_room (Nat.le_of_ble_eq_true rfl)) dX3_tellBy_41 ⟨Nat.zero_le _, Nat.zero_le _⟩) hP hS hA (fun H locs hP hS => ?_)
        obtain ⟨x6, hx6, h⟩ := bnd h
        refine pw_goi (wc := [(h3_str, .inl (cI, 40, .inl str))]) (w1 := [(h3_str, .inl (cI, 40, .inl str))]) (w2 := [(h3, .inr (3, [.ref h3_str, .ref h3_tlr, .ref h3_tsg])), (h3_str, .inl (cI, 40, .inl str)), (h3_tlr, .inl (cI, 240, .inl tlr_25)), (h3_tsg, .inl (cI, 240, .inl tsg_25)), (h2, .inr (2, [.ref h2_row, .ref h2_ten, .ref h2_pha, .int len, .int kep, .int wfi, .int wmo, .int hun])), (h2_row, .inl (cI, 240, .inl row)), (h2_ten, .inl (cI, 4, .inl ten)), (h2_pha, .inl (cI, 4, .inl pha))]) (va_runSN (As := [.ref h3_str, .int x5]) (rest := []) ⟨hx, hb, hml, hown, hts⟩ (mX5_cellAt l D cI cO cJ h3_str H.size str 40 x5 _ hx6) ⟨va_cnB 2 hts gX3_tellBy_X5_cellAt_n78 rfl rfl rfl (hN (.methodLinkNest RX3 78 yX5_cellAt "HiddenPeriods") (by decide +kernel)) (hts (.initialized RX5) (by decide +kernel)) (by decide +kernel) ⟨Nat.le_of_ble_eq_true rfl, Nat.le_of_ble_eq_true rfl⟩, (hts (.static yX5_cellAt) (by decide +kernel)), trivial⟩ (pw_preS hK hN (pw_sub hP [1] rfl) (pw_subD hD [1] (by decide) rfl)) rfl rfl hl.1 rfl (lv_room (Nat.le_of_ble_eq_true rfl)) dX3_tellBy_44 ⟨Nat.zero_le _, Nat.zero_le _⟩) hP hD hS hA [1] [0, 2, 3, 4, 5, 6, 7] [0, 7, 1, 2, 3, 4, 5, 6] rfl rfl (by decide) (by decide) (by decide) rfl (fun H locs hP hD hS => ?_)
        refine lv_istore (lv' := [(7, .int x6), (0, .ref h3), (2, .int a2), (3, .int x1), (4, .int x2), (5, .int x3), (6, .int v6_25)]) hx hb dX3_tellBy_47 hl (by decide) rfl (fun ls hl => ?_)
        refine lv_iload hx hb dX3_tellBy_49 (lv_at hl 0 rfl) ?_
        refine lv_iconst (v := (-1)) hx hb dX3_tellBy_51 (by decide) ?_
        refine lv_icmp_eq (tgt := 86) hx hb dX3_tellBy_52 (by decide) (fun cq => ?_) (fun cq => ?_)
        · replace h := ifp cq h
          refine lv_iinc (v := (v6_25 + 1)) (lv' := [(6, .int (v6_25 + 1)), (7, .int x6), (0, .ref h3), (2, .int a2), (3, .int x1), (4, .int x2), (5, .int x3)]) hx hb dX3_tellBy_86 hl (k := 6) rfl rfl (by decide) rfl (fun ls hl => ?_)
          refine lv_goto (tgt := 25) hx hb dX3_tellBy_89 (by decide) ?_
          exact ih _ _ _ _ _ _ _ _ h hP hD hS (lv_sub hl [2, 3, 4, 5, 6, 0] rfl) K
        · replace h := ifn cq h
          refine lv_aload_n hx hb dX3_tellBy_55 rfl (lv_at hl 1 rfl) ?_
          refine lv_iload hx hb dX3_tellBy_56 (lv_at hl 6 rfl) ?_
          obtain ⟨x7, hx7, h⟩ := bnd h
          refine pw_goi (wc := [(h3, .inr (3, [.ref h3_str, .ref h3_tlr, .ref h3_tsg])), (h3_str, .inl (cI, 40, .inl str)), (h3_tlr, .inl (cI, 240, .inl tlr_25)), (h3_tsg, .inl (cI, 240, .inl tsg_25))]) (w1 := [(h3, .inr (3, [.ref h3_str, .ref h3_tlr, .ref h3_tsg])), (h3_str, .inl (cI, 40, .inl str)), (h3_tlr, .inl (cI, 240, .inl tlr_25)), (h3_tsg, .inl (cI, 240, .inl tsg_25))]) (w2 := [(h3, .inr (3, [.ref h3_str, .ref h3_tlr, .ref h3_tsg])), (h3_str, .inl (cI, 40, .inl str)), (h3_tlr, .inl (cI, 240, .inl tlr_25)), (h3_tsg, .inl (cI, 240, .inl tsg_25)), (h2, .inr (2, [.ref h2_row, .ref h2_ten, .ref h2_pha, .int len, .int kep, .int wfi, .int wmo, .int hun])), (h2_row, .inl (cI, 240, .inl row)), (h2_ten, .inl (cI, 4, .inl ten)), (h2_pha, .inl (cI, 4, .inl pha))]) (va_runV (As := [.int v6_25]) (rest := []) ⟨hx, hb, hml, hown, hts⟩ (mX3_tellerAt l D cI cO cJ h3 h3_str h3_tlr h3_tsg H.size str tlr_25 tsg_25 v6_25 _ hx7) (cwV 1 hts gX3_tellBy_X3_tellerAt rfl rfl rfl (by decide +kernel) ⟨Nat.le_of_ble_eq_true rfl, Nat.le_of_ble_eq_true rfl⟩) (pw_preV hK hN (pw_sub hP [0, 1, 2, 3] rfl) (pw_subD hD [0, 1, 2, 3] (by decide) rfl) (ci := 3) (q0 := 0) rfl rfl) rfl rfl hl.1 rfl (lv_room (Nat.le_of_ble_eq_true rfl)) dX3_tellBy_58 ⟨Nat.zero_le _, Nat.zero_le _⟩) hP hD hS hA [0, 1, 2, 3] [4, 5, 6, 7] [4, 5, 6, 7, 0, 1, 2, 3] rfl rfl (by decide) (by decide) (by decide) rfl (fun H locs hP hD hS => ?_)
          refine lv_iconst (v := (-1)) hx hb dX3_tellBy_61 (by decide) ?_
          refine lv_icmp_ne (tgt := 86) hx hb dX3_tellBy_62 (by decide) (fun cq => ?_) (fun cq => ?_)
          · replace h := ifn cq h
            refine lv_iinc (v := (v6_25 + 1)) (lv' := [(6, .int (v6_25 + 1)), (7, .int x6), (0, .ref h3), (2, .int a2), (3, .int x1), (4, .int x2), (5, .int x3)]) hx hb dX3_tellBy_86 hl (k := 6) rfl rfl (by decide) rfl (fun ls hl => ?_)
            refine lv_goto (tgt := 25) hx hb dX3_tellBy_89 (by decide) ?_
            exact ih _ _ _ _ _ _ _ _ h hP hD hS (lv_sub hl [2, 3, 4, 5, 6, 0] rfl) K
          · replace h := ifp cq h
            refine lv_aload_n hx hb dX3_tellBy_65 rfl (lv_at hl 1 rfl) ?_
            refine va_get (D := D) (ci := 3) (v := .ref h3_tlr) (C := RX3) (T := TX3) (N := 3) hx hb hts iX3 hown hK hP 0 rfl rfl 1 (by decide) (hts (.fieldLink RX3 15 "HiddenPeriods$Telling" "tellers" "[I") (by decide +kernel)) (fun _ h9 => h9) rfl dX3_tellBy_66 ?_
            refine lv_iload hx hb dX3_tellBy_69 (lv_at hl 6 rfl) ?_
            refine lv_iload_n hx hb dX3_tellBy_71 rfl (lv_at hl 2 rfl) ?_
            obtain ⟨x8, hx8, h⟩ := bnd h
            refine pw_gov (wc := [(h3_tlr, .inl (cI, 240, .inl tlr_25))]) (w1 := [(h3_tlr, .inl (cI, 240, .inl x8))]) (w2 := [(h3, .inr (3, [.ref h3_str, .ref h3_tlr, .ref h3_tsg])), (h3_str, .inl (cI, 40, .inl str)), (h3_tlr, .inl (cI, 240, .inl x8)), (h3_tsg, .inl (cI, 240, .inl tsg_25)), (h2, .inr (2, [.ref h2_row, .ref h2_ten, .ref h2_pha, .int len, .int kep, .int wfi, .int wmo, .int hun])), (h2_row, .inl (cI, 240, .inl row)), (h2_ten, .inl (cI, 4, .inl ten)), (h2_pha, .inl (cI, 4, .inl pha))]) (va_runSN (As := [.ref h3_tlr, .int v6_25, .int a2]) (rest := []) ⟨hx, hb, hml, hown, hts⟩ (mX5_lay l D cI cO cJ h3_tlr H.size tlr_25 240 v6_25 a2 _ hx8) ⟨va_cnB 3 hts gX3_tellBy_X5_lay_n56 rfl rfl rfl (hN (.methodLinkNest RX3 56 yX5_lay "HiddenPeriods") (by decide +kernel)) (hts (.initialized RX5) (by decide +kernel)) (by decide +kernel) ⟨Nat.le_of_ble_eq_true rfl, Nat.le_of_ble_eq_true rfl⟩, (hts (.static yX5_lay) (by decide +kernel)), trivial⟩ (pw_preS hK hN (pw_sub hP [2] rfl) (pw_subD hD [2] (by decide) rfl)) rfl rfl hl.1 rfl (lv_room (Nat.le_of_ble_eq_true rfl)) dX3_tellBy_72 ⟨Nat.zero_le _, Nat.zero_le _⟩) hP hD hS hA [2] [0, 1, 3, 4, 5, 6, 7] [0, 1, 7, 2, 3, 4, 5, 6] rfl rfl (by decide) (by decide) (by decide) rfl (fun H locs hP hD hS => ?_)
            refine lv_aload_n hx hb dX3_tellBy_75 rfl (lv_at hl 1 rfl) ?_
            refine va_get (D := D) (ci := 3) (v := .ref h3_tsg) (C := RX3) (T := TX3) (N := 3) hx hb hts iX3 hown hK hP 0 rfl rfl 2 (by decide) (hts (.fieldLink RX3 18 "HiddenPeriods$Telling" "signs" "[I") (by decide +kernel)) (fun _ h9 => h9) rfl dX3_tellBy_76 ?_
            refine lv_iload hx hb dX3_tellBy_79 (lv_at hl 6 rfl) ?_
            refine lv_iload hx hb dX3_tellBy_81 (lv_at hl 0 rfl) ?_
            obtain ⟨x9, hx9, h⟩ := bnd h
            refine pw_gov (wc := [(h3_tsg, .inl (cI, 240, .inl tsg_25))]) (w1 := [(h3_tsg, .inl (cI, 240, .inl x9))]) (w2 := [(h3, .inr (3, [.ref h3_str, .ref h3_tlr, .ref h3_tsg])), (h3_str, .inl (cI, 40, .inl str)), (h3_tlr, .inl (cI, 240, .inl x8)), (h3_tsg, .inl (cI, 240, .inl x9)), (h2, .inr (2, [.ref h2_row, .ref h2_ten, .ref h2_pha, .int len, .int kep, .int wfi, .int wmo, .int hun])), (h2_row, .inl (cI, 240, .inl row)), (h2_ten, .inl (cI, 4, .inl ten)), (h2_pha, .inl (cI, 4, .inl pha))]) (va_runSN (As := [.ref h3_tsg, .int v6_25, .int x6]) (rest := []) ⟨hx, hb, hml, hown, hts⟩ (mX5_lay l D cI cO cJ h3_tsg H.size tsg_25 240 v6_25 x6 _ hx9) ⟨va_cnB 3 hts gX3_tellBy_X5_lay_n56 rfl rfl rfl (hN (.methodLinkNest RX3 56 yX5_lay "HiddenPeriods") (by decide +kernel)) (hts (.initialized RX5) (by decide +kernel)) (by decide +kernel) ⟨Nat.le_of_ble_eq_true rfl, Nat.le_of_ble_eq_true rfl⟩, (hts (.static yX5_lay) (by decide +kernel)), trivial⟩ (pw_preS hK hN (pw_sub hP [3] rfl) (pw_subD hD [3] (by decide) rfl)) rfl rfl hl.1 rfl (lv_room (Nat.le_of_ble_eq_true rfl)) dX3_tellBy_83 ⟨Nat.zero_le _, Nat.zero_le _⟩) hP hD hS hA [3] [0, 1, 2, 4, 5, 6, 7] [0, 1, 2, 7, 3, 4, 5, 6] rfl rfl (by decide) (by decide) (by decide) rfl (fun H locs hP hD hS => ?_)
            refine lv_iinc (v := (v6_25 + 1)) (lv' := [(6, .int (v6_25 + 1)), (7, .int x6), (0, .ref h3), (2, .int a2), (3, .int x1), (4, .int x2), (5, .int x3)]) hx hb dX3_tellBy_86 hl (k := 6) rfl rfl (by decide) rfl (fun ls hl => ?_)
            refine lv_goto (tgt := 25) hx hb dX3_tellBy_89 (by decide) ?_
            exact ih _ _ _ _ _ _ _ _ h hP hD hS (lv_sub hl [2, 3, 4, 5, 6, 0] rfl) K
  obtain ⟨⟨x10_1, x10_2⟩, hx10, h⟩ := bnd h
  refine L25 FU _ _ _ _ _ _ _ _ hx10 hP hD hS (lv_sub hl [4, 6, 3, 2, 1, 0] rfl) (fun H locs ls hP hD hS hl => ?_)
  cases h
  exact pw_vret hx hb hr hlocks hAe hQ hP hD hS dX3_tellBy_92
def fX3_read_L18 (row : Nat → Int32) (ten : Nat → Int32) (pha : Nat → Int32) (len : Int32) (kep : Int32) (wfi : Int32) (wmo : Int32) (hun : Int32) : Nat → Int32 → (Nat → Int32) → (Nat → Int32) → (Nat → Int32) → (Nat → Int32) → Int32 → Option ((Nat → Int32) × (Nat → Int32) × (Nat → Int32) × (Nat → Int32) × Int32)
  | 0, _, _, _, _, _, _ => none
  | n + 1, v3_18, str_18, tlr_18, tsg_18, cel_18, cls_18 =>
    if kep ≤ v3_18 then
    some (str_18, tlr_18, tsg_18, cel_18, cls_18)
    else
    (fX3_readStrongSigns str_18 row ten pha len wfi wmo hun cel_18 v3_18).bind fun (x3_1, x3_2, x3_3) =>
    (fX3_tellBy x3_1 tlr_18 tsg_18 ten pha len wfi wmo v3_18).bind fun (x4_1, x4_2) =>
    fX3_read_L18 row ten pha len kep wfi wmo hun n (v3_18 + 1) x3_1 x4_1 x4_2 x3_2 x3_3
def fX3_read (str : Nat → Int32) (tlr : Nat → Int32) (tsg : Nat → Int32) (row : Nat → Int32) (ten : Nat → Int32) (pha : Nat → Int32) (len : Int32) (kep : Int32) (wfi : Int32) (wmo : Int32) (hun : Int32) (cel : Nat → Int32) (cls : Int32) : Option ((Nat → Int32) × (Nat → Int32) × (Nat → Int32) × (Nat → Int32) × Int32) :=
  (fJ7_fill_53178 tlr 240 (-1)).bind fun x1 =>
  (fJ7_fill_53178 tsg 240 (-1)).bind fun x2 =>
  (fX3_read_L18 row ten pha len kep wfi wmo hun FU 0 str x1 x2 cel cls).bind fun (x5_1, x5_2, x5_3, x5_4, x5_5) =>
  some (x5_1, x5_2, x5_3, x5_4, x5_5)
abbrev rmX3_read : Room := { frames := 5, cells := 0, slots := 0, locals := 120 }
set_option maxHeartbeats 4000000 in
set_option maxRecDepth 100000 in
theorem mX3_read (l : Launch) (D : va_G) (cI cO cJ : ClassId) (h3 h3_str h3_tlr h3_tsg h2 h2_row h2_ten h2_pha h0 h0_cel : Nat) (sz : Nat) (str : Nat → Int32) (tlr : Nat → Int32) (tsg : Nat → Int32) (row : Nat → Int32) (ten : Nat → Int32) (pha : Nat → Int32) (len : Int32) (kep : Int32) (wfi : Int32) (wmo : Int32) (hun : Int32) (cel : Nat → Int32) (cls : Int32) (z : (Nat → Int32) × (Nat → Int32) × (Nat → Int32) × (Nat → Int32) × Int32) (h : fX3_read str tlr tsg row ten pha len kep wfi wmo hun cel cls = some z) : Met l yX3_read wsX3_read rmX3_read (pw_pre D (tyL cI cO cJ) [.ref h3, .ref h2, .ref h0] [(h3, .inr (3, [.ref h3_str, .ref h3_tlr, .ref h3_tsg])), (h3_str, .inl (cI, 40, .inl str)), (h3_tlr, .inl (cI, 240, .inl tlr)), (h3_tsg, .inl (cI, 240, .inl tsg)), (h2, .inr (2, [.ref h2_row, .ref h2_ten, .ref h2_pha, .int len, .int kep, .int wfi, .int wmo, .int hun])), (h2_row, .inl (cI, 240, .inl row)), (h2_ten, .inl (cI, 4, .inl ten)), (h2_pha, .inl (cI, 4, .inl pha)), (h0, .inr (0, [.ref h0_cel, .int cls])), (h0_cel, .inl (cI, 160, .inl cel))] sz) (pw_v D [(h3, .inr (3, [.ref h3_str, .ref h3_tlr, .ref h3_tsg])), (h3_str, .inl (cI, 40, .inl str)), (h3_tlr, .inl (cI, 240, .inl tlr)), (h3_tsg, .inl (cI, 240, .inl tsg)), (h2, .inr (2, [.ref h2_row, .ref h2_ten, .ref h2_pha, .int len, .int kep, .int wfi, .int wmo, .int hun])), (h2_row, .inl (cI, 240, .inl row)), (h2_ten, .inl (cI, 4, .inl ten)), (h2_pha, .inl (cI, 4, .inl pha)), (h0, .inr (0, [.ref h0_cel, .int cls])), (h0_cel, .inl (cI, 160, .inl cel))] [(h3, .inr (3, [.ref h3_str, .ref h3_tlr, .ref h3_tsg])), (h3_str, .inl (cI, 40, .inl z.1)), (h3_tlr, .inl (cI, 240, .inl z.2.1)), (h3_tsg, .inl (cI, 240, .inl z.2.2.1)), (h2, .inr (2, [.ref h2_row, .ref h2_ten, .ref h2_pha, .int len, .int kep, .int wfi, .int wmo, .int hun])), (h2_row, .inl (cI, 240, .inl row)), (h2_ten, .inl (cI, 4, .inl ten)), (h2_pha, .inl (cI, 4, .inl pha)), (h0, .inr (0, [.ref h0_cel, .int z.2.2.2.2])), (h0_cel, .inl (cI, 160, .inl z.2.2.2.1))] sz) 0 0 (va_A [(h3, .inr (3, [.ref h3_str, .ref h3_tlr, .ref h3_tsg])), (h3_str, .inl (cI, 40, .inl str)), (h3_tlr, .inl (cI, 240, .inl tlr)), (h3_tsg, .inl (cI, 240, .inl tsg)), (h2, .inr (2, [.ref h2_row, .ref h2_ten, .ref h2_pha, .int len, .int kep, .int wfi, .int wmo, .int hun])), (h2_row, .inl (cI, 240, .inl row)), (h2_ten, .inl (cI, 4, .inl ten)), (h2_pha, .inl (cI, 4, .inl pha)), (h0, .inr (0, [.ref h0_cel, .int cls])), (h0_cel, .inl (cI, 160, .inl cel))] sz) := by
  refine pw_of (Qc := fun sz => pw_v D [(h3, .inr (3, [.ref h3_str, .ref h3_tlr, .ref h3_tsg])), (h3_str, .inl (cI, 40, .inl str)), (h3_tlr, .inl (cI, 240, .inl tlr)), (h3_tsg, .inl (cI, 240, .inl tsg)), (h2, .inr (2, [.ref h2_row, .ref h2_ten, .ref h2_pha, .int len, .int kep, .int wfi, .int wmo, .int hun])), (h2_row, .inl (cI, 240, .inl row)), (h2_ten, .inl (cI, 4, .inl ten)), (h2_pha, .inl (cI, 4, .inl pha)), (h0, .inr (0, [.ref h0_cel, .int cls])), (h0_cel, .inl (cI, 160, .inl cel))] [(h3, .inr (3, [.ref h3_str, .ref h3_tlr, .ref h3_tsg])), (h3_str, .inl (cI, 40, .inl z.1)), (h3_tlr, .inl (cI, 240, .inl z.2.1)), (h3_tsg, .inl (cI, 240, .inl z.2.2.1)), (h2, .inr (2, [.ref h2_row, .ref h2_ten, .ref h2_pha, .int len, .int kep, .int wfi, .int wmo, .int hun])), (h2_row, .inl (cI, 240, .inl row)), (h2_ten, .inl (cI, 4, .inl ten)), (h2_pha, .inl (cI, 4, .inl pha)), (h0, .inr (0, [.ref h0_cel, .int z.2.2.2.2])), (h0_cel, .inl (cI, 160, .inl z.2.2.2.1))] sz) (cc := cX3_read) (maxL := 4) (ret := none) (by decide) rfl (Nat.le_of_ble_eq_true rfl) ?_
  intro p e s m args below meth c A Q H ls hx hb hml hr hts hown hlocks hAe hQ hK hN hA hP hD hS hl
  have hown : s.vm.findClass RX3 = some m.cls := hown
  have hl : lv_has ls 4 [(0, .ref h3), (1, .ref h2), (2, .ref h0)] := hl
  have hP : va_P D vwCl ([(h3, .inr (3, [.ref h3_str, .ref h3_tlr, .ref h3_tsg])), (h3_str, .inl (cI, 40, .inl str)), (h3_tlr, .inl (cI, 240, .inl tlr)), (h3_tsg, .inl (cI, 240, .inl tsg)), (h2, .inr (2, [.ref h2_row, .ref h2_ten, .ref h2_pha, .int len, .int kep, .int wfi, .int wmo, .int hun])), (h2_row, .inl (cI, 240, .inl row)), (h2_ten, .inl (cI, 4, .inl ten)), (h2_pha, .inl (cI, 4, .inl pha)), (h0, .inr (0, [.ref h0_cel, .int cls])), (h0_cel, .inl (cI, 160, .inl cel))] ++ []) H := hP
  have hD : va_D A ([(h3, .inr (3, [.ref h3_str, .ref h3_tlr, .ref h3_tsg])), (h3_str, .inl (cI, 40, .inl str)), (h3_tlr, .inl (cI, 240, .inl tlr)), (h3_tsg, .inl (cI, 240, .inl tsg)), (h2, .inr (2, [.ref h2_row, .ref h2_ten, .ref h2_pha, .int len, .int kep, .int wfi, .int wmo, .int hun])), (h2_row, .inl (cI, 240, .inl row)), (h2_ten, .inl (cI, 4, .inl ten)), (h2_pha, .inl (cI, 4, .inl pha)), (h0, .inr (0, [.ref h0_cel, .int cls])), (h0_cel, .inl (cI, 160, .inl cel))] ++ []) := hD
  have iX2 : ∀ w ∈ u_ws RX2 TX2 8, w ∈ wsX3_read := fun _ h => List.mem_cons_of_mem _ (List.mem_append_left _ (List.mem_append_right _ h))
  have iX3 : ∀ w ∈ u_ws RX3 TX3 3, w ∈ wsX3_read := fun _ h => List.mem_cons_of_mem _ (List.mem_append_left _ (List.mem_append_left _ (List.mem_append_right _ h)))
  unfold fX3_read at h
  refine lv_aload_n hx hb dX3_read_0 rfl (lv_at hl 0 rfl) ?_
  refine va_get (D := D) (ci := 3) (v := .ref h3_tlr) (C := RX3) (T := TX3) (N := 3) hx hb hts iX3 hown hK hP 0 rfl rfl 1 (by decide) (hts (.fieldLink RX3 15 "HiddenPeriods$Telling" "tellers" "[I") (by decide +kernel)) (fun _ h9 => h9) rfl dX3_read_1 ?_
  refine lv_iconst (v := (-1)) hx hb dX3_read_4 (by decide) ?_
  obtain ⟨x1, hx1, h⟩ := bnd h
  refine pw_gov (wc := [(h3_tlr, .inl (cI, 240, .inl tlr))]) (w1 := [(h3_tlr, .inl (cI, 240, .inl x1))]) (w2 := [(h3, .inr (3, [.ref h3_str, .ref h3_tlr, .ref h3_tsg])), (h3_str, .inl (cI, 40, .inl str)), (h3_tlr, .inl (cI, 240, .inl x1)), (h3_tsg, .inl (cI, 240, .inl tsg)), (h2, .inr (2, [.ref h2_row, .ref h2_ten, .ref h2_pha, .int len, .int kep, .int wfi, .int wmo, .int hun])), (h2_row, .inl (cI, 240, .inl row)), (h2_ten, .inl (cI, 4, .inl ten)), (h2_pha, .inl (cI, 4, .inl pha)), (h0, .inr (0, [.ref h0_cel, .int cls])), (h0_cel, .inl (cI, 160, .inl cel))]) (va_runS (As := [.ref h3_tlr, .int (-1)]) (rest := []) ⟨hx, hb, hml, hown, hts⟩ (mJ7_fill_53178 l D cI cO cJ h3_tlr H.size tlr 240 (-1) _ hx1) (va_cwS 2 hts gX3_read_J7_fill_53178 rfl rfl rfl (by decide +kernel) ⟨Nat.le_of_ble_eq_true rfl, Nat.le_of_ble_eq_true rfl⟩) (pw_preS hK hN (pw_sub hP [2] rfl) (pw_subD hD [2] (by decide) rfl)) rfl rfl hl.1 rfl (lv_room (Nat.le_of_ble_eq_true rfl)) dX3_read_5 ⟨Nat.zero_le _, Nat.zero_le _⟩) hP hD hS hA [2] [0, 1, 3, 4, 5, 6, 7, 8, 9] [0, 1, 9, 2, 3, 4, 5, 6, 7, 8] rfl rfl (by decide) (by decide) (by decide) rfl (fun H locs hP hD hS => ?_)
  refine lv_aload_n hx hb dX3_read_8 rfl (lv_at hl 0 rfl) ?_
  refine va_get (D := D) (ci := 3) (v := .ref h3_tsg) (C := RX3) (T := TX3) (N := 3) hx hb hts iX3 hown hK hP 0 rfl rfl 2 (by decide) (hts (.fieldLink RX3 18 "HiddenPeriods$Telling" "signs" "[I") (by decide +kernel)) (fun _ h9 => h9) rfl dX3_read_9 ?_
  refine lv_iconst (v := (-1)) hx hb dX3_read_12 (by decide) ?_
  obtain ⟨x2, hx2, h⟩ := bnd h
  refine pw_gov (wc := [(h3_tsg, .inl (cI, 240, .inl tsg))]) (w1 := [(h3_tsg, .inl (cI, 240, .inl x2))]) (w2 := [(h3, .inr (3, [.ref h3_str, .ref h3_tlr, .ref h3_tsg])), (h3_str, .inl (cI, 40, .inl str)), (h3_tlr, .inl (cI, 240, .inl x1)), (h3_tsg, .inl (cI, 240, .inl x2)), (h2, .inr (2, [.ref h2_row, .ref h2_ten, .ref h2_pha, .int len, .int kep, .int wfi, .int wmo, .int hun])), (h2_row, .inl (cI, 240, .inl row)), (h2_ten, .inl (cI, 4, .inl ten)), (h2_pha, .inl (cI, 4, .inl pha)), (h0, .inr (0, [.ref h0_cel, .int cls])), (h0_cel, .inl (cI, 160, .inl cel))]) (va_runS (As := [.ref h3_tsg, .int (-1)]) (rest := []) ⟨hx, hb, hml, hown, hts⟩ (mJ7_fill_53178 l D cI cO cJ h3_tsg H.size tsg 240 (-1) _ hx2) (va_cwS 2 hts gX3_read_J7_fill_53178 rfl rfl rfl (by decide +kernel) ⟨Nat.le_of_ble_eq_true rfl, Nat.le_of_ble_eq_true rfl⟩) (pw_preS hK hN (pw_sub hP [3] rfl) (pw_subD hD [3] (by decide) rfl)) rfl rfl hl.1 rfl (lv_room (Nat.le_of_ble_eq_true rfl)) dX3_read_13 ⟨Nat.zero_le _, Nat.zero_le _⟩) hP hD hS hA [3] [0, 1, 2, 4, 5, 6, 7, 8, 9] [0, 1, 2, 9, 3, 4, 5, 6, 7, 8] rfl rfl (by decide) (by decide) (by decide) rfl (fun H locs hP hD hS => ?_)
  refine lv_iconst (v := 0) hx hb dX3_read_16 (by decide) ?_
  refine lv_istore_n (lv' := [(3, .int 0), (0, .ref h3), (1, .ref h2), (2, .ref h0)]) hx hb dX3_read_17 rfl hl (by decide) rfl (fun ls hl => ?_)
  have L18 : ∀ (n : Nat) (v3_18 : Int32) (str_18 : Nat → Int32) (tlr_18 : Nat → Int32) (tsg_18 : Nat → Int32) (cel_18 : Nat → Int32) (cls_18 : Int32) (o18_1 : Nat → Int32) (o18_2 : Nat → Int32) (o18_3 : Nat → Int32) (o18_4 : Nat → Int32) (o18_5 : Int32) (H : Heap) (locs : List Loc) (ls : Array Slot), fX3_read_L18 row ten pha len kep wfi wmo hun n v3_18 str_18 tlr_18 tsg_18 cel_18 cls_18 = some (o18_1, o18_2, o18_3, o18_4, o18_5) → va_P D vwCl ([(h3, .inr (3, [.ref h3_str, .ref h3_tlr, .ref h3_tsg])), (h3_str, .inl (cI, 40, .inl str_18)), (h3_tlr, .inl (cI, 240, .inl tlr_18)), (h3_tsg, .inl (cI, 240, .inl tsg_18)), (h2, .inr (2, [.ref h2_row, .ref h2_ten, .ref h2_pha, .int len, .int kep, .int wfi, .int wmo, .int hun])), (h2_row, .inl (cI, 240, .inl row)), (h2_ten, .inl (cI, 4, .inl ten)), (h2_pha, .inl (cI, 4, .inl pha)), (h0, .inr (0, [.ref h0_cel, .int cls_18])), (h0_cel, .inl (cI, 160, .inl cel_18))] ++ []) H → va_D A ([(h3, .inr (3, [.ref h3_str, .ref h3_tlr, .ref h3_tsg])), (h3_str, .inl (cI, 40, .inl str_18)), (h3_tlr, .inl (cI, 240, .inl tlr_18)), (h3_tsg, .inl (cI, 240, .inl tsg_18)), (h2, .inr (2, [.ref h2_row, .ref h2_ten, .ref h2_pha, .int len, .int kep, .int wfi, .int wmo, .int hun])), (h2_row, .inl (cI, 240, .inl row)), (h2_ten, .inl (cI, 4, .inl ten)), (h2_pha, .inl (cI, 4, .inl pha)), (h0, .inr (0, [.ref h0_cel, .int cls_18])), (h0_cel, .inl (cI, 160, .inl cel_18))] ++ []) → va_S A s.heap H locs → lv_has ls 4 [(0, .ref h3), (1, .ref h2), (2, .ref h0), (3, .int v3_18)] → (∀ (H : Heap) (locs : List Loc) (ls : Array Slot), va_P D vwCl ([(h3, .inr (3, [.ref h3_str, .ref h3_tlr, .ref h3_tsg])), (h3_str, .inl (cI, 40, .inl o18_1)), (h3_tlr, .inl (cI, 240, .inl o18_2)), (h3_tsg, .inl (cI, 240, .inl o18_3)), (h2, .inr (2, [.ref h2_row, .ref h2_ten, .ref h2_pha, .int len, .int kep, .int wfi, .int wmo, .int hun])), (h2_row, .inl (cI, 240, .inl row)), (h2_ten, .inl (cI, 4, .inl ten)), (h2_pha, .inl (cI, 4, .inl pha)), (h0, .inr (0, [.ref h0_cel, .int o18_5])), (h0_cel, .inl (cI, 160, .inl o18_4))] ++ []) H → va_D A ([(h3, .inr (3, [.ref h3_str, .ref h3_tlr, .ref h3_tsg])), (h3_str, .inl (cI, 40, .inl o18_1)), (h3_tlr, .inl (cI, 240, .inl o18_2)), (h3_tsg, .inl (cI, 240, .inl o18_3)), (h2, .inr (2, [.ref h2_row, .ref h2_ten, .ref h2_pha, .int len, .int kep, .int wfi, .int wmo, .int hun])), (h2_row, .inl (cI, 240, .inl row)), (h2_ten, .inl (cI, 4, .inl ten)), (h2_pha, .inl (cI, 4, .inl pha)), (h0, .inr (0, [.ref h0_cel, .int o18_5])), (h0_cel, .inl (cI, 160, .inl o18_4))] ++ []) → va_S A s.heap H locs → lv_has ls 4 [] → W p l e rmX3_read s m args below meth c H locs 0 0 Q (F0 m 45 ls [])) → W p l e rmX3_read s m args below meth c H locs 0 0 Q (F0 m 18 ls []) := by
    intro n
    induction n with
    | zero =>
      intro v3_18 str_18 tlr_18 tsg_18 cel_18 cls_18 o18_1 o18_2 o18_3 o18_4 o18_5 H locs ls h
      rw [fX3_read_L18] at h
      cases h
    | succ n ih =>
      intro v3_18 str_18 tlr_18 tsg_18 cel_18 cls_18 o18_1 o18_2 o18_3 o18_4 o18_5 H locs ls h hP hD hS hl K
      rw [fX3_read_L18] at h
      refine lv_iload_n hx hb dX3_read_18 rfl (lv_at hl 3 rfl) ?_
      refine lv_aload_n hx hb dX3_read_19 rfl (lv_at hl 1 rfl) ?_
      refine va_getN (D := D) (ci := 2) (v := .int kep) (C := RX2) (T := TX2) (N := 8) hx hb hts iX2 hown hK hP 4 rfl rfl 4 (by decide) (va_Nw.use rfl (hN (.fieldLinkNest RX3 27 "HiddenPeriods$State" "kept" "I" "HiddenPeriods") (by decide +kernel))) (fun _ h9 => h9) rfl dX3_read_20 ?_
      refine lv_icmp_ge (tgt := 45) hx hb dX3_read_23 (by decide) (fun cq => ?_) (fun cq => ?_)
      · replace h := ifp cq h
        cases h
        exact K _ _ _ hP hD hS (lv_sub hl [] rfl)
      · replace h := ifn cq h
        refine lv_aload_n hx hb dX3_read_26 rfl (lv_at hl 0 rfl) ?_
        refine lv_aload_n hx hb dX3_read_27 rfl (lv_at hl 1 rfl) ?_
        refine lv_aload_n hx hb dX3_read_28 rfl (lv_at hl 2 rfl) ?_
        refine lv_iload_n hx hb dX3_read_29 rfl (lv_at hl 3 rfl) ?_
        obtain ⟨⟨x3_1, x3_2, x3_3⟩, hx3, h⟩ := bnd h
        refine pw_gov (wc := [(h3, .inr (3, [.ref h3_str, .ref h3_tlr, .ref h3_tsg])), (h3_str, .inl (cI, 40, .inl str_18)), (h3_tlr, .inl (cI, 240, .inl tlr_18)), (h3_tsg, .inl (cI, 240, .inl tsg_18)), (h2, .inr (2, [.ref h2_row, .ref h2_ten, .ref h2_pha, .int len, .int kep, .int wfi, .int wmo, .int hun])), (h2_row, .inl (cI, 240, .inl row)), (h2_ten, .inl (cI, 4, .inl ten)), (h2_pha, .inl (cI, 4, .inl pha)), (h0, .inr (0, [.ref h0_cel, .int cls_18])), (h0_cel, .inl (cI, 160, .inl cel_18))]) (w1 := [(h3, .inr (3, [.ref h3_str, .ref h3_tlr, .ref h3_tsg])), (h3_str, .inl (cI, 40, .inl x3_1)), (h3_tlr, .inl (cI, 240, .inl tlr_18)), (h3_tsg, .inl (cI, 240, .inl tsg_18)), (h2, .inr (2, [.ref h2_row, .ref h2_ten, .ref h2_pha, .int len, .int kep, .int wfi, .int wmo, .int hun])), (h2_row, .inl (cI, 240, .inl row)), (h2_ten, .inl (cI, 4, .inl ten)), (h2_pha, .inl (cI, 4, .inl pha)), (h0, .inr (0, [.ref h0_cel, .int x3_3])), (h0_cel, .inl (cI, 160, .inl x3_2))]) (w2 := [(h3, .inr (3, [.ref h3_str, .ref h3_tlr, .ref h3_tsg])), (h3_str, .inl (cI, 40, .inl x3_1)), (h3_tlr, .inl (cI, 240, .inl tlr_18)), (h3_tsg, .inl (cI, 240, .inl tsg_18)), (h2, .inr (2, [.ref h2_row, .ref h2_ten, .ref h2_pha, .int len, .int kep, .int wfi, .int wmo, .int hun])), (h2_row, .inl (cI, 240, .inl row)), (h2_ten, .inl (cI, 4, .inl ten)), (h2_pha, .inl (cI, 4, .inl pha)), (h0, .inr (0, [.ref h0_cel, .int x3_3])), (h0_cel, .inl (cI, 160, .inl x3_2))]) (va_runV (As := [.ref h2, .ref h0, .int v3_18]) (rest := []) ⟨hx, hb, hml, hown, hts⟩ (mX3_readStrongSigns l D cI cO cJ h3 h3_str h3_tlr h3_tsg h2 h2_row h2_ten h2_pha h0 h0_cel H.size str_18 tlr_18 tsg_18 row ten pha len kep wfi wmo hun cel_18 cls_18 v3_18 _ hx3) (cwV 3 hts gX3_read_X3_readStrongSigns rfl rfl rfl (by decide +kernel) ⟨Nat.le_of_ble_eq_true rfl, Nat.le_of_ble_eq_true rfl⟩) (pw_preV hK hN (pw_sub hP [0, 1, 2, 3, 4, 5, 6, 7, 8, 9] rfl) (pw_subD hD [0, 1, 2, 3, 4, 5, 6, 7, 8, 9] (by decide) rfl) (ci := 3) (q0 := 0) rfl rfl) rfl rfl hl.1 rfl (lv_room (Nat.le_of_ble_eq_true rfl)) dX3_read_30 ⟨Nat.zero_le _, Nat.zero_le _⟩) hP hD hS hA [0, 1, 2, 3, 4, 5, 6, 7, 8, 9] [] [0, 1, 2, 3, 4, 5, 6, 7, 8, 9] rfl rfl (by decide) (by decide) (by decide) rfl (fun H locs hP hD hS => ?_)
        refine lv_aload_n hx hb dX3_read_33 rfl (lv_at hl 0 rfl) ?_
        refine lv_aload_n hx hb dX3_read_34 rfl (lv_at hl 1 rfl) ?_
        refine lv_iload_n hx hb dX3_read_35 rfl (lv_at hl 3 rfl) ?_
        obtain ⟨⟨x4_1, x4_2⟩, hx4, h⟩ := bnd h
        refine pw_gov (wc := [(h3, .inr (3, [.ref h3_str, .ref h3_tlr, .ref h3_tsg])), (h3_str, .inl (cI, 40, .inl x3_1)), (h3_tlr, .inl (cI, 240, .inl tlr_18)), (h3_tsg, .inl (cI, 240, .inl tsg_18)), (h2, .inr (2, [.ref h2_row, .ref h2_ten, .ref h2_pha, .int len, .int kep, .int wfi, .int wmo, .int hun])), (h2_row, .inl (cI, 240, .inl row)), (h2_ten, .inl (cI, 4, .inl ten)), (h2_pha, .inl (cI, 4, .inl pha))]) (w1 := [(h3, .inr (3, [.ref h3_str, .ref h3_tlr, .ref h3_tsg])), (h3_str, .inl (cI, 40, .inl x3_1)), (h3_tlr, .inl (cI, 240, .inl x4_1)), (h3_tsg, .inl (cI, 240, .inl x4_2)), (h2, .inr (2, [.ref h2_row, .ref h2_ten, .ref h2_pha, .int len, .int kep, .int wfi, .int wmo, .int hun])), (h2_row, .inl (cI, 240, .inl row)), (h2_ten, .inl (cI, 4, .inl ten)), (h2_pha, .inl (cI, 4, .inl pha))]) (w2 := [(h3, .inr (3, [.ref h3_str, .ref h3_tlr, .ref h3_tsg])), (h3_str, .inl (cI, 40, .inl x3_1)), (h3_tlr, .inl (cI, 240, .inl x4_1)), (h3_tsg, .inl (cI, 240, .inl x4_2)), (h2, .inr (2, [.ref h2_row, .ref h2_ten, .ref h2_pha, .int len, .int kep, .int wfi, .int wmo, .int hun])), (h2_row, .inl (cI, 240, .inl row)), (h2_ten, .inl (cI, 4, .inl ten)), (h2_pha, .inl (cI, 4, .inl pha)), (h0, .inr (0, [.ref h0_cel, .int x3_3])), (h0_cel, .inl (cI, 160, .inl x3_2))]) (va_runV (As := [.ref h2, .int v3_18]) (rest := []) ⟨hx, hb, hml, hown, hts⟩ (mX3_tellBy l D cI cO cJ h3 h3_str h3_tlr h3_tsg h2 h2_row h2_ten h2_pha H.size x3_1 tlr_18 tsg_18 row ten pha len kep wfi wmo hun v3_18 _ hx4) (cwV 2 hts gX3_read_X3_tellBy rfl rfl rfl (by decide +kernel) ⟨Nat.le_of_ble_eq_true rfl, Nat.le_of_ble_eq_true rfl⟩) (pw_preV hK hN (pw_sub hP [0, 1, 2, 3, 4, 5, 6, 7] rfl) (pw_subD hD [0, 1, 2, 3, 4, 5, 6, 7] (by decide) rfl) (ci := 3) (q0 := 0) rfl rfl) rfl rfl hl.1 rfl (lv_room (Nat.le_of_ble_eq_true rfl)) dX3_read_36 ⟨Nat.zero_le _, Nat.zero_le _⟩) hP hD hS hA [0, 1, 2, 3, 4, 5, 6, 7] [8, 9] [2, 3, 4, 5, 6, 7, 8, 9, 0, 1] rfl rfl (by decide) (by decide) (by decide) rfl (fun H locs hP hD hS => ?_)
        refine lv_iinc (v := (v3_18 + 1)) (lv' := [(3, .int (v3_18 + 1)), (0, .ref h3), (1, .ref h2), (2, .ref h0)]) hx hb dX3_read_39 hl (k := 3) rfl rfl (by decide) rfl (fun ls hl => ?_)
        refine lv_goto (tgt := 18) hx hb dX3_read_42 (by decide) ?_
        exact ih _ _ _ _ _ _ _ _ _ _ _ _ _ _ h hP hD hS (lv_sub hl [1, 2, 3, 0] rfl) K
  obtain ⟨⟨x5_1, x5_2, x5_3, x5_4, x5_5⟩, hx5, h⟩ := bnd h
  refine L18 FU _ _ _ _ _ _ _ _ _ _ _ _ _ _ hx5 hP hD hS (lv_sub hl [1, 2, 3, 0] rfl) (fun H locs ls hP hD hS hl => ?_)
  cases h
  exact pw_vret hx hb hr hlocks hAe hQ hP hD hS dX3_read_45

def fX2_hasPlace (len : Int32) (a1 : Int32) : Option Int32 :=
  if a1 < 0 then
  some 0
  else
  if len ≤ a1 then
  some 0
  else
  some 1
abbrev rmX2_hasPlace : Room := { frames := 0, cells := 0, slots := 0, locals := 0 }
set_option maxHeartbeats 4000000 in
set_option maxRecDepth 100000 in
theorem mX2_hasPlace (l : Launch) (D : va_G) (cI cO cJ : ClassId) (h2 h2_row h2_ten h2_pha h2_set : Nat) (sz : Nat) (row : Nat → Int32) (ten : Nat → Int32) (pha : Nat → Int32) (set : Nat → Int32) (len : Int32) (kep : Int32) (a1 : Int32) (z : Int32) (h : fX2_hasPlace len a1 = some z) : Met l yX2_hasPlace wsX2_hasPlace rmX2_hasPlace (pw_pre D (tyL cI cO cJ) [.ref h2, .int a1] [(h2, .inr (2, [.ref h2_row, .ref h2_ten, .ref h2_pha, .ref h2_set, .int len, .int kep])), (h2_row, .inl (cI, 240, .inl row)), (h2_ten, .inl (cI, 4, .inl ten)), (h2_pha, .inl (cI, 4, .inl pha)), (h2_set, .inl (cI, 3, .inl set))] sz) (pw_i D [(h2, .inr (2, [.ref h2_row, .ref h2_ten, .ref h2_pha, .ref h2_set, .int len, .int kep])), (h2_row, .inl (cI, 240, .inl row)), (h2_ten, .inl (cI, 4, .inl ten)), (h2_pha, .inl (cI, 4, .inl pha)), (h2_set, .inl (cI, 3, .inl set))] [(h2, .inr (2, [.ref h2_row, .ref h2_ten, .ref h2_pha, .ref h2_set, .int len, .int kep])), (h2_row, .inl (cI, 240, .inl row)), (h2_ten, .inl (cI, 4, .inl ten)), (h2_pha, .inl (cI, 4, .inl pha)), (h2_set, .inl (cI, 3, .inl set))] z sz) 0 0 (va_A [(h2, .inr (2, [.ref h2_row, .ref h2_ten, .ref h2_pha, .ref h2_set, .int len, .int kep])), (h2_row, .inl (cI, 240, .inl row)), (h2_ten, .inl (cI, 4, .inl ten)), (h2_pha, .inl (cI, 4, .inl pha)), (h2_set, .inl (cI, 3, .inl set))] sz) := by
  refine pw_of (Qc := fun sz => pw_i D [(h2, .inr (2, [.ref h2_row, .ref h2_ten, .ref h2_pha, .ref h2_set, .int len, .int kep])), (h2_row, .inl (cI, 240, .inl row)), (h2_ten, .inl (cI, 4, .inl ten)), (h2_pha, .inl (cI, 4, .inl pha)), (h2_set, .inl (cI, 3, .inl set))] [(h2, .inr (2, [.ref h2_row, .ref h2_ten, .ref h2_pha, .ref h2_set, .int len, .int kep])), (h2_row, .inl (cI, 240, .inl row)), (h2_ten, .inl (cI, 4, .inl ten)), (h2_pha, .inl (cI, 4, .inl pha)), (h2_set, .inl (cI, 3, .inl set))] z sz) (cc := cX2_hasPlace) (maxL := 2) (ret := (some .boolean)) (by decide) rfl (Nat.le_of_ble_eq_true rfl) ?_
  intro p e s m args below meth c A Q H ls hx hb hml hr hts hown hlocks hAe hQ hK hN hA hP hD hS hl
  have hown : s.vm.findClass RX2 = some m.cls := hown
  have hl : lv_has ls 2 [(0, .ref h2), (1, .int a1)] := hl
  have hP : va_P D vwCl ([(h2, .inr (2, [.ref h2_row, .ref h2_ten, .ref h2_pha, .ref h2_set, .int len, .int kep])), (h2_row, .inl (cI, 240, .inl row)), (h2_ten, .inl (cI, 4, .inl ten)), (h2_pha, .inl (cI, 4, .inl pha)), (h2_set, .inl (cI, 3, .inl set))] ++ []) H := hP
  have hD : va_D A ([(h2, .inr (2, [.ref h2_row, .ref h2_ten, .ref h2_pha, .ref h2_set, .int len, .int kep])), (h2_row, .inl (cI, 240, .inl row)), (h2_ten, .inl (cI, 4, .inl ten)), (h2_pha, .inl (cI, 4, .inl pha)), (h2_set, .inl (cI, 3, .inl set))] ++ []) := hD
  have iX2 : ∀ w ∈ u_ws RX2 TX2 6, w ∈ wsX2_hasPlace := fun _ h => List.mem_cons_of_mem _ (List.mem_append_right _ h)
  unfold fX2_hasPlace at h
  refine lv_iload_n hx hb dX2_hasPlace_0 rfl (lv_at hl 1 rfl) ?_
  refine lv_if_lt (tgt := 16) hx hb dX2_hasPlace_1 (by decide) (fun cq => ?_) (fun cq => ?_)
  · replace h := ifp cq h
    refine lv_iconst (v := 0) hx hb dX2_hasPlace_16 (by decide) ?_
    cases h
    exact pw_zret hx hb hr hlocks hAe (by decide) hQ hP hD hS dX2_hasPlace_17
  · replace h := ifn cq h
    refine lv_iload_n hx hb dX2_hasPlace_4 rfl (lv_at hl 1 rfl) ?_
    refine lv_aload_n hx hb dX2_hasPlace_5 rfl (lv_at hl 0 rfl) ?_
    refine va_get (D := D) (ci := 2) (v := .int len) (C := RX2) (T := TX2) (N := 6) hx hb hts iX2 hown hK hP 0 rfl rfl 4 (by decide) (hts (.fieldLink RX2 32 "HiddenPeriods$State" "length" "I") (by decide +kernel)) (fun _ h9 => h9) rfl dX2_hasPlace_6 ?_
    refine lv_icmp_ge (tgt := 16) hx hb dX2_hasPlace_9 (by decide) (fun cq => ?_) (fun cq => ?_)
    · replace h := ifp cq h
      refine lv_iconst (v := 0) hx hb dX2_hasPlace_16 (by decide) ?_
      cases h
      exact pw_zret hx hb hr hlocks hAe (by decide) hQ hP hD hS dX2_hasPlace_17
    · replace h := ifn cq h
      refine lv_iconst (v := 1) hx hb dX2_hasPlace_12 (by decide) ?_
      refine lv_goto (tgt := 17) hx hb dX2_hasPlace_13 (by decide) ?_
      cases h
      exact pw_zret hx hb hr hlocks hAe (by decide) hQ hP hD hS dX2_hasPlace_17
def fX2_changeSign (row : Nat → Int32) (a1 : Int32) (a2 : Int32) : Option (Nat → Int32) :=
  (fX5_lay row 240 a1 a2).bind fun x1 =>
  some x1
abbrev rmX2_changeSign : Room := { frames := 1, cells := 0, slots := 0, locals := 22 }
set_option maxHeartbeats 4000000 in
set_option maxRecDepth 100000 in
theorem mX2_changeSign (l : Launch) (D : va_G) (cI cO cJ : ClassId) (h2 h2_row h2_ten h2_pha h2_set : Nat) (sz : Nat) (row : Nat → Int32) (ten : Nat → Int32) (pha : Nat → Int32) (set : Nat → Int32) (len : Int32) (kep : Int32) (a1 : Int32) (a2 : Int32) (z : Nat → Int32) (h : fX2_changeSign row a1 a2 = some z) : Met l yX2_changeSign wsX2_changeSign rmX2_changeSign (pw_pre D (tyL cI cO cJ) [.ref h2, .int a1, .int a2] [(h2, .inr (2, [.ref h2_row, .ref h2_ten, .ref h2_pha, .ref h2_set, .int len, .int kep])), (h2_row, .inl (cI, 240, .inl row)), (h2_ten, .inl (cI, 4, .inl ten)), (h2_pha, .inl (cI, 4, .inl pha)), (h2_set, .inl (cI, 3, .inl set))] sz) (pw_v D [(h2, .inr (2, [.ref h2_row, .ref h2_ten, .ref h2_pha, .ref h2_set, .int len, .int kep])), (h2_row, .inl (cI, 240, .inl row)), (h2_ten, .inl (cI, 4, .inl ten)), (h2_pha, .inl (cI, 4, .inl pha)), (h2_set, .inl (cI, 3, .inl set))] [(h2, .inr (2, [.ref h2_row, .ref h2_ten, .ref h2_pha, .ref h2_set, .int len, .int kep])), (h2_row, .inl (cI, 240, .inl z)), (h2_ten, .inl (cI, 4, .inl ten)), (h2_pha, .inl (cI, 4, .inl pha)), (h2_set, .inl (cI, 3, .inl set))] sz) 0 0 (va_A [(h2, .inr (2, [.ref h2_row, .ref h2_ten, .ref h2_pha, .ref h2_set, .int len, .int kep])), (h2_row, .inl (cI, 240, .inl row)), (h2_ten, .inl (cI, 4, .inl ten)), (h2_pha, .inl (cI, 4, .inl pha)), (h2_set, .inl (cI, 3, .inl set))] sz) := by
  refine pw_of (Qc := fun sz => pw_v D [(h2, .inr (2, [.ref h2_row, .ref h2_ten, .ref h2_pha, .ref h2_set, .int len, .int kep])), (h2_row, .inl (cI, 240, .inl row)), (h2_ten, .inl (cI, 4, .inl ten)), (h2_pha, .inl (cI, 4, .inl pha)), (h2_set, .inl (cI, 3, .inl set))] [(h2, .inr (2, [.ref h2_row, .ref h2_ten, .ref h2_pha, .ref h2_set, .int len, .int kep])), (h2_row, .inl (cI, 240, .inl z)), (h2_ten, .inl (cI, 4, .inl ten)), (h2_pha, .inl (cI, 4, .inl pha)), (h2_set, .inl (cI, 3, .inl set))] sz) (cc := cX2_changeSign) (maxL := 3) (ret := none) (by decide) rfl (Nat.le_of_ble_eq_true rfl) ?_
  intro p e s m args below meth c A Q H ls hx hb hml hr hts hown hlocks hAe hQ hK hN hA hP hD hS hl
  have hown : s.vm.findClass RX2 = some m.cls := hown
  have hl : lv_has ls 3 [(0, .ref h2), (1, .int a1), (2, .int a2)] := hl
  have hP : va_P D vwCl ([(h2, .inr (2, [.ref h2_row, .ref h2_ten, .ref h2_pha, .ref h2_set, .int len, .int kep])), (h2_row, .inl (cI, 240, .inl row)), (h2_ten, .inl (cI, 4, .inl ten)), (h2_pha, .inl (cI, 4, .inl pha)), (h2_set, .inl (cI, 3, .inl set))] ++ []) H := hP
  have hD : va_D A ([(h2, .inr (2, [.ref h2_row, .ref h2_ten, .ref h2_pha, .ref h2_set, .int len, .int kep])), (h2_row, .inl (cI, 240, .inl row)), (h2_ten, .inl (cI, 4, .inl ten)), (h2_pha, .inl (cI, 4, .inl pha)), (h2_set, .inl (cI, 3, .inl set))] ++ []) := hD
  have iX2 : ∀ w ∈ u_ws RX2 TX2 6, w ∈ wsX2_changeSign := fun _ h => List.mem_cons_of_mem _ (List.mem_append_right _ h)
  unfold fX2_changeSign at h
  refine lv_aload_n hx hb dX2_changeSign_0 rfl (lv_at hl 0 rfl) ?_
  refine va_get (D := D) (ci := 2) (v := .ref h2_row) (C := RX2) (T := TX2) (N := 6) hx hb hts iX2 hown hK hP 0 rfl rfl 0 (by decide) (hts (.fieldLink RX2 9 "HiddenPeriods$State" "row" "[I") (by decide +kernel)) (fun _ h9 => h9) rfl dX2_changeSign_1 ?_
  refine lv_iload_n hx hb dX2_changeSign_4 rfl (lv_at hl 1 rfl) ?_
  refine lv_iload_n hx hb dX2_changeSign_5 rfl (lv_at hl 2 rfl) ?_
  obtain ⟨x1, hx1, h⟩ := bnd h
  refine pw_gov (wc := [(h2_row, .inl (cI, 240, .inl row))]) (w1 := [(h2_row, .inl (cI, 240, .inl x1))]) (w2 := [(h2, .inr (2, [.ref h2_row, .ref h2_ten, .ref h2_pha, .ref h2_set, .int len, .int kep])), (h2_row, .inl (cI, 240, .inl x1)), (h2_ten, .inl (cI, 4, .inl ten)), (h2_pha, .inl (cI, 4, .inl pha)), (h2_set, .inl (cI, 3, .inl set))]) (va_runSN (As := [.ref h2_row, .int a1, .int a2]) (rest := []) ⟨hx, hb, hml, hown, hts⟩ (mX5_lay l D cI cO cJ h2_row H.size row 240 a1 a2 _ hx1) ⟨va_cnB 3 hts gX2_changeSign_X5_lay_n24 rfl rfl rfl (hN (.methodLinkNest RX2 24 yX5_lay "HiddenPeriods") (by decide +kernel)) (hts (.initialized RX5) (by decide +kernel)) (by decide +kernel) ⟨Nat.le_of_ble_eq_true rfl, Nat.le_of_ble_eq_true rfl⟩, (hts (.static yX5_lay) (by decide +kernel)), trivial⟩ (pw_preS hK hN (pw_sub hP [1] rfl) (pw_subD hD [1] (by decide) rfl)) rfl rfl hl.1 rfl (lv_room (Nat.le_of_ble_eq_true rfl)) dX2_changeSign_6 ⟨Nat.zero_le _, Nat.zero_le _⟩) hP hD hS hA [1] [0, 2, 3, 4] [0, 4, 1, 2, 3] rfl rfl (by decide) (by decide) (by decide) rfl (fun H locs hP hD hS => ?_)
  cases h
  exact pw_vret hx hb hr hlocks hAe hQ hP hD hS dX2_changeSign_9
def fX2_addSign (row : Nat → Int32) (len : Int32) (a1 : Int32) : Option ((Nat → Int32) × Int32) :=
  (fX5_lay row 240 len a1).bind fun x1 =>
  some (x1, (len + 1))
abbrev rmX2_addSign : Room := { frames := 1, cells := 0, slots := 0, locals := 22 }
set_option maxHeartbeats 4000000 in
set_option maxRecDepth 100000 in
theorem mX2_addSign (l : Launch) (D : va_G) (cI cO cJ : ClassId) (h2 h2_row h2_ten h2_pha h2_set : Nat) (sz : Nat) (row : Nat → Int32) (ten : Nat → Int32) (pha : Nat → Int32) (set : Nat → Int32) (len : Int32) (kep : Int32) (a1 : Int32) (z : (Nat → Int32) × Int32) (h : fX2_addSign row len a1 = some z) : Met l yX2_addSign wsX2_addSign rmX2_addSign (pw_pre D (tyL cI cO cJ) [.ref h2, .int a1] [(h2, .inr (2, [.ref h2_row, .ref h2_ten, .ref h2_pha, .ref h2_set, .int len, .int kep])), (h2_row, .inl (cI, 240, .inl row)), (h2_ten, .inl (cI, 4, .inl ten)), (h2_pha, .inl (cI, 4, .inl pha)), (h2_set, .inl (cI, 3, .inl set))] sz) (pw_v D [(h2, .inr (2, [.ref h2_row, .ref h2_ten, .ref h2_pha, .ref h2_set, .int len, .int kep])), (h2_row, .inl (cI, 240, .inl row)), (h2_ten, .inl (cI, 4, .inl ten)), (h2_pha, .inl (cI, 4, .inl pha)), (h2_set, .inl (cI, 3, .inl set))] [(h2, .inr (2, [.ref h2_row, .ref h2_ten, .ref h2_pha, .ref h2_set, .int z.2, .int kep])), (h2_row, .inl (cI, 240, .inl z.1)), (h2_ten, .inl (cI, 4, .inl ten)), (h2_pha, .inl (cI, 4, .inl pha)), (h2_set, .inl (cI, 3, .inl set))] sz) 0 0 (va_A [(h2, .inr (2, [.ref h2_row, .ref h2_ten, .ref h2_pha, .ref h2_set, .int len, .int kep])), (h2_row, .inl (cI, 240, .inl row)), (h2_ten, .inl (cI, 4, .inl ten)), (h2_pha, .inl (cI, 4, .inl pha)), (h2_set, .inl (cI, 3, .inl set))] sz) := by
  refine pw_of (Qc := fun sz => pw_v D [(h2, .inr (2, [.ref h2_row, .ref h2_ten, .ref h2_pha, .ref h2_set, .int len, .int kep])), (h2_row, .inl (cI, 240, .inl row)), (h2_ten, .inl (cI, 4, .inl ten)), (h2_pha, .inl (cI, 4, .inl pha)), (h2_set, .inl (cI, 3, .inl set))] [(h2, .inr (2, [.ref h2_row, .ref h2_ten, .ref h2_pha, .ref h2_set, .int z.2, .int kep])), (h2_row, .inl (cI, 240, .inl z.1)), (h2_ten, .inl (cI, 4, .inl ten)), (h2_pha, .inl (cI, 4, .inl pha)), (h2_set, .inl (cI, 3, .inl set))] sz) (cc := cX2_addSign) (maxL := 2) (ret := none) (by decide) rfl (Nat.le_of_ble_eq_true rfl) ?_
  intro p e s m args below meth c A Q H ls hx hb hml hr hts hown hlocks hAe hQ hK hN hA hP hD hS hl
  have hown : s.vm.findClass RX2 = some m.cls := hown
  have hl : lv_has ls 2 [(0, .ref h2), (1, .int a1)] := hl
  have hP : va_P D vwCl ([(h2, .inr (2, [.ref h2_row, .ref h2_ten, .ref h2_pha, .ref h2_set, .int len, .int kep])), (h2_row, .inl (cI, 240, .inl row)), (h2_ten, .inl (cI, 4, .inl ten)), (h2_pha, .inl (cI, 4, .inl pha)), (h2_set, .inl (cI, 3, .inl set))] ++ []) H := hP
  have hD : va_D A ([(h2, .inr (2, [.ref h2_row, .ref h2_ten, .ref h2_pha, .ref h2_set, .int len, .int kep])), (h2_row, .inl (cI, 240, .inl row)), (h2_ten, .inl (cI, 4, .inl ten)), (h2_pha, .inl (cI, 4, .inl pha)), (h2_set, .inl (cI, 3, .inl set))] ++ []) := hD
  have iX2 : ∀ w ∈ u_ws RX2 TX2 6, w ∈ wsX2_addSign := fun _ h => List.mem_cons_of_mem _ (List.mem_append_right _ h)
  unfold fX2_addSign at h
  refine lv_aload_n hx hb dX2_addSign_0 rfl (lv_at hl 0 rfl) ?_
  refine va_get (D := D) (ci := 2) (v := .ref h2_row) (C := RX2) (T := TX2) (N := 6) hx hb hts iX2 hown hK hP 0 rfl rfl 0 (by decide) (hts (.fieldLink RX2 9 "HiddenPeriods$State" "row" "[I") (by decide +kernel)) (fun _ h9 => h9) rfl dX2_addSign_1 ?_
  refine lv_aload_n hx hb dX2_addSign_4 rfl (lv_at hl 0 rfl) ?_
  refine va_get (D := D) (ci := 2) (v := .int len) (C := RX2) (T := TX2) (N := 6) hx hb hts iX2 hown hK hP 0 rfl rfl 4 (by decide) (hts (.fieldLink RX2 32 "HiddenPeriods$State" "length" "I") (by decide +kernel)) (fun _ h9 => h9) rfl dX2_addSign_5 ?_
  refine lv_iload_n hx hb dX2_addSign_8 rfl (lv_at hl 1 rfl) ?_
  obtain ⟨x1, hx1, h⟩ := bnd h
  refine pw_gov (wc := [(h2_row, .inl (cI, 240, .inl row))]) (w1 := [(h2_row, .inl (cI, 240, .inl x1))]) (w2 := [(h2, .inr (2, [.ref h2_row, .ref h2_ten, .ref h2_pha, .ref h2_set, .int len, .int kep])), (h2_row, .inl (cI, 240, .inl x1)), (h2_ten, .inl (cI, 4, .inl ten)), (h2_pha, .inl (cI, 4, .inl pha)), (h2_set, .inl (cI, 3, .inl set))]) (va_runSN (As := [.ref h2_row, .int len, .int a1]) (rest := []) ⟨hx, hb, hml, hown, hts⟩ (mX5_lay l D cI cO cJ h2_row H.size row 240 len a1 _ hx1) ⟨va_cnB 3 hts gX2_addSign_X5_lay_n24 rfl rfl rfl (hN (.methodLinkNest RX2 24 yX5_lay "HiddenPeriods") (by decide +kernel)) (hts (.initialized RX5) (by decide +kernel)) (by decide +kernel) ⟨Nat.le_of_ble_eq_true rfl, Nat.le_of_ble_eq_true rfl⟩, (hts (.static yX5_lay) (by decide +kernel)), trivial⟩ (pw_preS hK hN (pw_sub hP [1] rfl) (pw_subD hD [1] (by decide) rfl)) rfl rfl hl.1 rfl (lv_room (Nat.le_of_ble_eq_true rfl)) dX2_addSign_9 ⟨Nat.zero_le _, Nat.zero_le _⟩) hP hD hS hA [1] [0, 2, 3, 4] [0, 4, 1, 2, 3] rfl rfl (by decide) (by decide) (by decide) rfl (fun H locs hP hD hS => ?_)
  refine lv_aload_n hx hb dX2_addSign_12 rfl (lv_at hl 0 rfl) ?_
  refine lv_dup hx hb dX2_addSign_13 rfl ?_
  refine va_get (D := D) (ci := 2) (v := .int len) (C := RX2) (T := TX2) (N := 6) hx hb hts iX2 hown hK hP 0 rfl rfl 4 (by decide) (hts (.fieldLink RX2 32 "HiddenPeriods$State" "length" "I") (by decide +kernel)) (fun _ h9 => h9) rfl dX2_addSign_14 ?_
  refine lv_iconst (v := 1) hx hb dX2_addSign_17 (by decide) ?_
  refine lv_iadd hx hb dX2_addSign_18 ?_
  refine va_put (D := D) (ci := 2) (v := .int (len + 1)) (ty := .int) (C := RX2) (T := TX2) (N := 6) hx hb hts iX2 tyX2 tyX2_ok nmX2 hown hK hP hD hS 0 rfl rfl 4 (by decide) (hts (.fieldLink RX2 32 "HiddenPeriods$State" "length" "I") (by decide +kernel)) (fun _ h9 => h9) rfl (by decide +kernel) rfl rfl (Nat.le_of_ble_eq_true rfl) dX2_addSign_19 (fun H locs hP hD hS => ?_)
  have hP : va_P D vwCl ([(h2, .inr (2, [.ref h2_row, .ref h2_ten, .ref h2_pha, .ref h2_set, .int (len + 1), .int kep])), (h2_row, .inl (cI, 240, .inl x1)), (h2_ten, .inl (cI, 4, .inl ten)), (h2_pha, .inl (cI, 4, .inl pha)), (h2_set, .inl (cI, 3, .inl set))] ++ []) H := hP
  have hD : va_D A ([(h2, .inr (2, [.ref h2_row, .ref h2_ten, .ref h2_pha, .ref h2_set, .int (len + 1), .int kep])), (h2_row, .inl (cI, 240, .inl x1)), (h2_ten, .inl (cI, 4, .inl ten)), (h2_pha, .inl (cI, 4, .inl pha)), (h2_set, .inl (cI, 3, .inl set))] ++ []) := hD
  cases h
  exact pw_vret hx hb hr hlocks hAe hQ hP hD hS dX2_addSign_22
def fX2_hasNumber (kep : Int32) (a1 : Int32) : Option Int32 :=
  if a1 < 0 then
  some 0
  else
  if kep ≤ a1 then
  some 0
  else
  some 1
abbrev rmX2_hasNumber : Room := { frames := 0, cells := 0, slots := 0, locals := 0 }
set_option maxHeartbeats 4000000 in
set_option maxRecDepth 100000 in
theorem mX2_hasNumber (l : Launch) (D : va_G) (cI cO cJ : ClassId) (h2 h2_row h2_ten h2_pha h2_set : Nat) (sz : Nat) (row : Nat → Int32) (ten : Nat → Int32) (pha : Nat → Int32) (set : Nat → Int32) (len : Int32) (kep : Int32) (a1 : Int32) (z : Int32) (h : fX2_hasNumber kep a1 = some z) : Met l yX2_hasNumber wsX2_hasNumber rmX2_hasNumber (pw_pre D (tyL cI cO cJ) [.ref h2, .int a1] [(h2, .inr (2, [.ref h2_row, .ref h2_ten, .ref h2_pha, .ref h2_set, .int len, .int kep])), (h2_row, .inl (cI, 240, .inl row)), (h2_ten, .inl (cI, 4, .inl ten)), (h2_pha, .inl (cI, 4, .inl pha)), (h2_set, .inl (cI, 3, .inl set))] sz) (pw_i D [(h2, .inr (2, [.ref h2_row, .ref h2_ten, .ref h2_pha, .ref h2_set, .int len, .int kep])), (h2_row, .inl (cI, 240, .inl row)), (h2_ten, .inl (cI, 4, .inl ten)), (h2_pha, .inl (cI, 4, .inl pha)), (h2_set, .inl (cI, 3, .inl set))] [(h2, .inr (2, [.ref h2_row, .ref h2_ten, .ref h2_pha, .ref h2_set, .int len, .int kep])), (h2_row, .inl (cI, 240, .inl row)), (h2_ten, .inl (cI, 4, .inl ten)), (h2_pha, .inl (cI, 4, .inl pha)), (h2_set, .inl (cI, 3, .inl set))] z sz) 0 0 (va_A [(h2, .inr (2, [.ref h2_row, .ref h2_ten, .ref h2_pha, .ref h2_set, .int len, .int kep])), (h2_row, .inl (cI, 240, .inl row)), (h2_ten, .inl (cI, 4, .inl ten)), (h2_pha, .inl (cI, 4, .inl pha)), (h2_set, .inl (cI, 3, .inl set))] sz) := by
  refine pw_of (Qc := fun sz => pw_i D [(h2, .inr (2, [.ref h2_row, .ref h2_ten, .ref h2_pha, .ref h2_set, .int len, .int kep])), (h2_row, .inl (cI, 240, .inl row)), (h2_ten, .inl (cI, 4, .inl ten)), (h2_pha, .inl (cI, 4, .inl pha)), (h2_set, .inl (cI, 3, .inl set))] [(h2, .inr (2, [.ref h2_row, .ref h2_ten, .ref h2_pha, .ref h2_set, .int len, .int kep])), (h2_row, .inl (cI, 240, .inl row)), (h2_ten, .inl (cI, 4, .inl ten)), (h2_pha, .inl (cI, 4, .inl pha)), (h2_set, .inl (cI, 3, .inl set))] z sz) (cc := cX2_hasNumber) (maxL := 2) (ret := (some .boolean)) (by decide) rfl (Nat.le_of_ble_eq_true rfl) ?_
  intro p e s m args below meth c A Q H ls hx hb hml hr hts hown hlocks hAe hQ hK hN hA hP hD hS hl
  have hown : s.vm.findClass RX2 = some m.cls := hown
  have hl : lv_has ls 2 [(0, .ref h2), (1, .int a1)] := hl
  have hP : va_P D vwCl ([(h2, .inr (2, [.ref h2_row, .ref h2_ten, .ref h2_pha, .ref h2_set, .int len, .int kep])), (h2_row, .inl (cI, 240, .inl row)), (h2_ten, .inl (cI, 4, .inl ten)), (h2_pha, .inl (cI, 4, .inl pha)), (h2_set, .inl (cI, 3, .inl set))] ++ []) H := hP
  have hD : va_D A ([(h2, .inr (2, [.ref h2_row, .ref h2_ten, .ref h2_pha, .ref h2_set, .int len, .int kep])), (h2_row, .inl (cI, 240, .inl row)), (h2_ten, .inl (cI, 4, .inl ten)), (h2_pha, .inl (cI, 4, .inl pha)), (h2_set, .inl (cI, 3, .inl set))] ++ []) := hD
  have iX2 : ∀ w ∈ u_ws RX2 TX2 6, w ∈ wsX2_hasNumber := fun _ h => List.mem_cons_of_mem _ (List.mem_append_right _ h)
  unfold fX2_hasNumber at h
  refine lv_iload_n hx hb dX2_hasNumber_0 rfl (lv_at hl 1 rfl) ?_
  refine lv_if_lt (tgt := 16) hx hb dX2_hasNumber_1 (by decide) (fun cq => ?_) (fun cq => ?_)
  · replace h := ifp cq h
    refine lv_iconst (v := 0) hx hb dX2_hasNumber_16 (by decide) ?_
    cases h
    exact pw_zret hx hb hr hlocks hAe (by decide) hQ hP hD hS dX2_hasNumber_17
  · replace h := ifn cq h
    refine lv_iload_n hx hb dX2_hasNumber_4 rfl (lv_at hl 1 rfl) ?_
    refine lv_aload_n hx hb dX2_hasNumber_5 rfl (lv_at hl 0 rfl) ?_
    refine va_get (D := D) (ci := 2) (v := .int kep) (C := RX2) (T := TX2) (N := 6) hx hb hts iX2 hown hK hP 0 rfl rfl 5 (by decide) (hts (.fieldLink RX2 36 "HiddenPeriods$State" "kept" "I") (by decide +kernel)) (fun _ h9 => h9) rfl dX2_hasNumber_6 ?_
    refine lv_icmp_ge (tgt := 16) hx hb dX2_hasNumber_9 (by decide) (fun cq => ?_) (fun cq => ?_)
    · replace h := ifp cq h
      refine lv_iconst (v := 0) hx hb dX2_hasNumber_16 (by decide) ?_
      cases h
      exact pw_zret hx hb hr hlocks hAe (by decide) hQ hP hD hS dX2_hasNumber_17
    · replace h := ifn cq h
      refine lv_iconst (v := 1) hx hb dX2_hasNumber_12 (by decide) ?_
      refine lv_goto (tgt := 17) hx hb dX2_hasNumber_13 (by decide) ?_
      cases h
      exact pw_zret hx hb hr hlocks hAe (by decide) hQ hP hD hS dX2_hasNumber_17
def fX2_hasPeriod_L2 (ten : Nat → Int32) (pha : Nat → Int32) (kep : Int32) (a1 : Int32) (a2 : Int32) : Nat → Int32 → Option Int32
  | 0, _ => none
  | n + 1, v3_2 =>
    if kep ≤ v3_2 then
    some 0
    else
    (fX2_tenthsAt ten v3_2).bind fun x1 =>
    if x1 = a1 then
    (fX2_phaseAt pha v3_2).bind fun x2 =>
    if x2 = a2 then
    some 1
    else
    fX2_hasPeriod_L2 ten pha kep a1 a2 n (v3_2 + 1)
    else
    fX2_hasPeriod_L2 ten pha kep a1 a2 n (v3_2 + 1)
def fX2_hasPeriod (ten : Nat → Int32) (pha : Nat → Int32) (kep : Int32) (a1 : Int32) (a2 : Int32) : Option Int32 :=
  fX2_hasPeriod_L2 ten pha kep a1 a2 FU 0
abbrev rmX2_hasPeriod : Room := { frames := 2, cells := 0, slots := 0, locals := 42 }
set_option maxHeartbeats 4000000 in
set_option maxRecDepth 100000 in
theorem mX2_hasPeriod (l : Launch) (D : va_G) (cI cO cJ : ClassId) (h2 h2_row h2_ten h2_pha h2_set : Nat) (sz : Nat) (row : Nat → Int32) (ten : Nat → Int32) (pha : Nat → Int32) (set : Nat → Int32) (len : Int32) (kep : Int32) (a1 : Int32) (a2 : Int32) (z : Int32) (h : fX2_hasPeriod ten pha kep a1 a2 = some z) : Met l yX2_hasPeriod wsX2_hasPeriod rmX2_hasPeriod (pw_pre D (tyL cI cO cJ) [.ref h2, .int a1, .int a2] [(h2, .inr (2, [.ref h2_row, .ref h2_ten, .ref h2_pha, .ref h2_set, .int len, .int kep])), (h2_row, .inl (cI, 240, .inl row)), (h2_ten, .inl (cI, 4, .inl ten)), (h2_pha, .inl (cI, 4, .inl pha)), (h2_set, .inl (cI, 3, .inl set))] sz) (pw_i D [(h2, .inr (2, [.ref h2_row, .ref h2_ten, .ref h2_pha, .ref h2_set, .int len, .int kep])), (h2_row, .inl (cI, 240, .inl row)), (h2_ten, .inl (cI, 4, .inl ten)), (h2_pha, .inl (cI, 4, .inl pha)), (h2_set, .inl (cI, 3, .inl set))] [(h2, .inr (2, [.ref h2_row, .ref h2_ten, .ref h2_pha, .ref h2_set, .int len, .int kep])), (h2_row, .inl (cI, 240, .inl row)), (h2_ten, .inl (cI, 4, .inl ten)), (h2_pha, .inl (cI, 4, .inl pha)), (h2_set, .inl (cI, 3, .inl set))] z sz) 0 0 (va_A [(h2, .inr (2, [.ref h2_row, .ref h2_ten, .ref h2_pha, .ref h2_set, .int len, .int kep])), (h2_row, .inl (cI, 240, .inl row)), (h2_ten, .inl (cI, 4, .inl ten)), (h2_pha, .inl (cI, 4, .inl pha)), (h2_set, .inl (cI, 3, .inl set))] sz) := by
  refine pw_of (Qc := fun sz => pw_i D [(h2, .inr (2, [.ref h2_row, .ref h2_ten, .ref h2_pha, .ref h2_set, .int len, .int kep])), (h2_row, .inl (cI, 240, .inl row)), (h2_ten, .inl (cI, 4, .inl ten)), (h2_pha, .inl (cI, 4, .inl pha)), (h2_set, .inl (cI, 3, .inl set))] [(h2, .inr (2, [.ref h2_row, .ref h2_ten, .ref h2_pha, .ref h2_set, .int len, .int kep])), (h2_row, .inl (cI, 240, .inl row)), (h2_ten, .inl (cI, 4, .inl ten)), (h2_pha, .inl (cI, 4, .inl pha)), (h2_set, .inl (cI, 3, .inl set))] z sz) (cc := cX2_hasPeriod) (maxL := 4) (ret := (some .boolean)) (by decide) rfl (Nat.le_of_ble_eq_true rfl) ?_
  intro p e s m args below meth c A Q H ls hx hb hml hr hts hown hlocks hAe hQ hK hN hA hP hD hS hl
  have hown : s.vm.findClass RX2 = some m.cls := hown
  have hl : lv_has ls 4 [(0, .ref h2), (1, .int a1), (2, .int a2)] := hl
  have hP : va_P D vwCl ([(h2, .inr (2, [.ref h2_row, .ref h2_ten, .ref h2_pha, .ref h2_set, .int len, .int kep])), (h2_row, .inl (cI, 240, .inl row)), (h2_ten, .inl (cI, 4, .inl ten)), (h2_pha, .inl (cI, 4, .inl pha)), (h2_set, .inl (cI, 3, .inl set))] ++ []) H := hP
  have hD : va_D A ([(h2, .inr (2, [.ref h2_row, .ref h2_ten, .ref h2_pha, .ref h2_set, .int len, .int kep])), (h2_row, .inl (cI, 240, .inl row)), (h2_ten, .inl (cI, 4, .inl ten)), (h2_pha, .inl (cI, 4, .inl pha)), (h2_set, .inl (cI, 3, .inl set))] ++ []) := hD
  have iX2 : ∀ w ∈ u_ws RX2 TX2 6, w ∈ wsX2_hasPeriod := fun _ h => List.mem_cons_of_mem _ (List.mem_append_right _ h)
  unfold fX2_hasPeriod at h
  refine lv_iconst (v := 0) hx hb dX2_hasPeriod_0 (by decide) ?_
  refine lv_istore_n (lv' := [(3, .int 0), (0, .ref h2), (1, .int a1), (2, .int a2)]) hx hb dX2_hasPeriod_1 rfl hl (by decide) rfl (fun ls hl => ?_)
  have L2 : ∀ (n : Nat) (v3_2 : Int32) (H : Heap) (locs : List Loc) (ls : Array Slot), fX2_hasPeriod_L2 ten pha kep a1 a2 n v3_2 = some z → va_P D vwCl ([(h2, .inr (2, [.ref h2_row, .ref h2_ten, .ref h2_pha, .ref h2_set, .int len, .int kep])), (h2_row, .inl (cI, 240, .inl row)), (h2_ten, .inl (cI, 4, .inl ten)), (h2_pha, .inl (cI, 4, .inl pha)), (h2_set, .inl (cI, 3, .inl set))] ++ []) H → va_D A ([(h2, .inr (2, [.ref h2_row, .ref h2_ten, .ref h2_pha, .ref h2_set, .int len, .int kep])), (h2_row, .inl (cI, 240, .inl row)), (h2_ten, .inl (cI, 4, .inl ten)), (h2_pha, .inl (cI, 4, .inl pha)), (h2_set, .inl (cI, 3, .inl set))] ++ []) → va_S A s.heap H locs → lv_has ls 4 [(0, .ref h2), (1, .int a1), (2, .int a2), (3, .int v3_2)] → W p l e rmX2_hasPeriod s m args below meth c H locs 0 0 Q (F0 m 2 ls []) := by
    intro n
    induction n with
    | zero =>
      intro v3_2 H locs ls h
      rw [fX2_hasPeriod_L2] at h
      cases h
    | succ n ih =>
      intro v3_2 H locs ls h hP hD hS hl
      rw [fX2_hasPeriod_L2] at h
      refine lv_iload_n hx hb dX2_hasPeriod_2 rfl (lv_at hl 3 rfl) ?_
      refine lv_aload_n hx hb dX2_hasPeriod_3 rfl (lv_at hl 0 rfl) ?_
      refine va_get (D := D) (ci := 2) (v := .int kep) (C := RX2) (T := TX2) (N := 6) hx hb hts iX2 hown hK hP 0 rfl rfl 5 (by decide) (hts (.fieldLink RX2 36 "HiddenPeriods$State" "kept" "I") (by decide +kernel)) (fun _ h9 => h9) rfl dX2_hasPeriod_4 ?_
      refine lv_icmp_ge (tgt := 36) hx hb dX2_hasPeriod_7 (by decide) (fun cq => ?_) (fun cq => ?_)
      · replace h := ifp cq h
        refine lv_iconst (v := 0) hx hb dX2_hasPeriod_36 (by decide) ?_
        cases h
        exact pw_zret hx hb hr hlocks hAe (by decide) hQ hP hD hS dX2_hasPeriod_37
      · replace h := ifn cq h
        refine lv_aload_n hx hb dX2_hasPeriod_10 rfl (lv_at hl 0 rfl) ?_
        refine lv_iload_n hx hb dX2_hasPeriod_11 rfl (lv_at hl 3 rfl) ?_
        obtain ⟨x1, hx1, h⟩ := bnd h
        refine pw_goi (wc := [(h2, .inr (2, [.ref h2_row, .ref h2_ten, .ref h2_pha, .ref h2_set, .int len, .int kep])), (h2_row, .inl (cI, 240, .inl row)), (h2_ten, .inl (cI, 4, .inl ten)), (h2_pha, .inl (cI, 4, .inl pha)), (h2_set, .inl (cI, 3, .inl set))]) (w1 := [(h2, .inr (2, [.ref h2_row, .ref h2_ten, .ref h2_pha, .ref h2_set, .int len, .int kep])), (h2_row, .inl (cI, 240, .inl row)), (h2_ten, .inl (cI, 4, .inl ten)), (h2_pha, .inl (cI, 4, .inl pha)), (h2_set, .inl (cI, 3, .inl set))]) (w2 := [(h2, .inr (2, [.ref h2_row, .ref h2_ten, .ref h2_pha, .ref h2_set, .int len, .int kep])), (h2_row, .inl (cI, 240, .inl row)), (h2_ten, .inl (cI, 4, .inl ten)), (h2_pha, .inl (cI, 4, .inl pha)), (h2_set, .inl (cI, 3, .inl set))]) (va_runV (As := [.int v3_2]) (rest := []) ⟨hx, hb, hml, hown, hts⟩ (mX2_tenthsAt l D cI cO cJ h2 h2_row h2_ten h2_pha h2_set H.size row ten pha set len kep v3_2 _ hx1) (cwV 1 hts gX2_hasPeriod_X2_tenthsAt rfl rfl rfl (by decide +kernel) ⟨Nat.le_of_ble_eq_true rfl, Nat.le_of_ble_eq_true rfl⟩) (pw_preV hK hN (pw_sub hP [0, 1, 2, 3, 4] rfl) (pw_subD hD [0, 1, 2, 3, 4] (by decide) rfl) (ci := 2) (q0 := 0) rfl rfl) rfl rfl hl.1 rfl (lv_room (Nat.le_of_ble_eq_true rfl)) dX2_hasPeriod_12 ⟨Nat.zero_le _, Nat.zero_le _⟩) hP hD hS hA [0, 1, 2, 3, 4] [] [0, 1, 2, 3, 4] rfl rfl (by decide) (by decide) (by decide) rfl (fun H locs hP hD hS => ?_)
        refine lv_iload_n hx hb dX2_hasPeriod_15 rfl (lv_at hl 1 rfl) ?_
        refine lv_icmp_ne (tgt := 30) hx hb dX2_hasPeriod_16 (by decide) (fun cq => ?_) (fun cq => ?_)
        · replace h := ifn cq h
          refine lv_iinc (v := (v3_2 + 1)) (lv' := [(3, .int (v3_2 + 1)), (0, .ref h2), (1, .int a1), (2, .int a2)]) hx hb dX2_hasPeriod_30 hl (k := 3) rfl rfl (by decide) rfl (fun ls hl => ?_)
          refine lv_goto (tgt := 2) hx hb dX2_hasPeriod_33 (by decide) ?_
          exact ih _ _ _ _ h hP hD hS (lv_sub hl [1, 2, 3, 0] rfl)
        · replace h := ifp cq h
          refine lv_aload_n hx hb dX2_hasPeriod_19 rfl (lv_at hl 0 rfl) ?_
          refine lv_iload_n hx hb dX2_hasPeriod_20 rfl (lv_at hl 3 rfl) ?_
          obtain ⟨x2, hx2, h⟩ := bnd h
          refine pw_goi (wc := [(h2, .inr (2, [.ref h2_row, .ref h2_ten, .ref h2_pha, .ref h2_set, .int len, .int kep])), (h2_row, .inl (cI, 240, .inl row)), (h2_ten, .inl (cI, 4, .inl ten)), (h2_pha, .inl (cI, 4, .inl pha)), (h2_set, .inl (cI, 3, .inl set))]) (w1 := [(h2, .inr (2, [.ref h2_row, .ref h2_ten, .ref h2_pha, .ref h2_set, .int len, .int kep])), (h2_row, .inl (cI, 240, .inl row)), (h2_ten, .inl (cI, 4, .inl ten)), (h2_pha, .inl (cI, 4, .inl pha)), (h2_set, .inl (cI, 3, .inl set))]) (w2 := [(h2, .inr (2, [.ref h2_row, .ref h2_ten, .ref h2_pha, .ref h2_set, .int len, .int kep])), (h2_row, .inl (cI, 240, .inl row)), (h2_ten, .inl (cI, 4, .inl ten)), (h2_pha, .inl (cI, 4, .inl pha)), (h2_set, .inl (cI, 3, .inl set))]) (va_runV (As := [.int v3_2]) (rest := []) ⟨hx, hb, hml, hown, hts⟩ (mX2_phaseAt l D cI cO cJ h2 h2_row h2_ten h2_pha h2_set H.size row ten pha set len kep v3_2 _ hx2) (cwV 1 hts gX2_hasPeriod_X2_phaseAt rfl rfl rfl (by decide +kernel) ⟨Nat.le_of_ble_eq_true rfl, Nat.le_of_ble_eq_true rfl⟩) (pw_preV hK hN (pw_sub hP [0, 1, 2, 3, 4] rfl) (pw_subD hD [0, 1, 2, 3, 4] (by decide) rfl) (ci := 2) (q0 := 0) rfl rfl) rfl rfl hl.1 rfl (lv_room (Nat.le_of_ble_eq_true rfl)) dX2_hasPeriod_21 ⟨Nat.zero_le _, Nat.zero_le _⟩) hP hD hS hA [0, 1, 2, 3, 4] [] [0, 1, 2, 3, 4] rfl rfl (by decide) (by decide) (by decide) rfl (fun H locs hP hD hS => ?_)
          refine lv_iload_n hx hb dX2_hasPeriod_24 rfl (lv_at hl 2 rfl) ?_
          refine lv_icmp_ne (tgt := 30) hx hb dX2_hasPeriod_25 (by decide) (fun cq => ?_) (fun cq => ?_)
          · replace h := ifn cq h
            refine lv_iinc (v := (v3_2 + 1)) (lv' := [(3, .int (v3_2 + 1)), (0, .ref h2), (1, .int a1), (2, .int a2)]) hx hb dX2_hasPeriod_30 hl (k := 3) rfl rfl (by decide) rfl (fun ls hl => ?_)
            refine lv_goto (tgt := 2) hx hb dX2_hasPeriod_33 (by decide) ?_
            exact ih _ _ _ _ h hP hD hS (lv_sub hl [1, 2, 3, 0] rfl)
          · replace h := ifp cq h
            refine lv_iconst (v := 1) hx hb dX2_hasPeriod_28 (by decide) ?_
            cases h
            exact pw_zret hx hb hr hlocks hAe (by decide) hQ hP hD hS dX2_hasPeriod_29
  exact L2 FU _ _ _ _ h hP hD hS (lv_sub hl [1, 2, 3, 0] rfl)
def fX2_addPeriod (ten : Nat → Int32) (pha : Nat → Int32) (kep : Int32) (a1 : Int32) (a2 : Int32) : Option ((Nat → Int32) × (Nat → Int32) × Int32) :=
  (fX5_lay ten 4 kep a1).bind fun x1 =>
  (fX5_lay pha 4 kep a2).bind fun x2 =>
  some (x1, x2, (kep + 1))
abbrev rmX2_addPeriod : Room := { frames := 1, cells := 0, slots := 0, locals := 22 }
set_option maxHeartbeats 4000000 in
set_option maxRecDepth 100000 in
theorem mX2_addPeriod (l : Launch) (D : va_G) (cI cO cJ : ClassId) (h2 h2_row h2_ten h2_pha h2_set : Nat) (sz : Nat) (row : Nat → Int32) (ten : Nat → Int32) (pha : Nat → Int32) (set : Nat → Int32) (len : Int32) (kep : Int32) (a1 : Int32) (a2 : Int32) (z : (Nat → Int32) × (Nat → Int32) × Int32) (h : fX2_addPeriod ten pha kep a1 a2 = some z) : Met l yX2_addPeriod wsX2_addPeriod rmX2_addPeriod (pw_pre D (tyL cI cO cJ) [.ref h2, .int a1, .int a2] [(h2, .inr (2, [.ref h2_row, .ref h2_ten, .ref h2_pha, .ref h2_set, .int len, .int kep])), (h2_row, .inl (cI, 240, .inl row)), (h2_ten, .inl (cI, 4, .inl ten)), (h2_pha, .inl (cI, 4, .inl pha)), (h2_set, .inl (cI, 3, .inl set))] sz) (pw_v D [(h2, .inr (2, [.ref h2_row, .ref h2_ten, .ref h2_pha, .ref h2_set, .int len, .int kep])), (h2_row, .inl (cI, 240, .inl row)), (h2_ten, .inl (cI, 4, .inl ten)), (h2_pha, .inl (cI, 4, .inl pha)), (h2_set, .inl (cI, 3, .inl set))] [(h2, .inr (2, [.ref h2_row, .ref h2_ten, .ref h2_pha, .ref h2_set, .int len, .int z.2.2])), (h2_row, .inl (cI, 240, .inl row)), (h2_ten, .inl (cI, 4, .inl z.1)), (h2_pha, .inl (cI, 4, .inl z.2.1)), (h2_set, .inl (cI, 3, .inl set))] sz) 0 0 (va_A [(h2, .inr (2, [.ref h2_row, .ref h2_ten, .ref h2_pha, .ref h2_set, .int len, .int kep])), (h2_row, .inl (cI, 240, .inl row)), (h2_ten, .inl (cI, 4, .inl ten)), (h2_pha, .inl (cI, 4, .inl pha)), (h2_set, .inl (cI, 3, .inl set))] sz) := by
  refine pw_of (Qc := fun sz => pw_v D [(h2, .inr (2, [.ref h2_row, .ref h2_ten, .ref h2_pha, .ref h2_set, .int len, .int kep])), (h2_row, .inl (cI, 240, .inl row)), (h2_ten, .inl (cI, 4, .inl ten)), (h2_pha, .inl (cI, 4, .inl pha)), (h2_set, .inl (cI, 3, .inl set))] [(h2, .inr (2, [.ref h2_row, .ref h2_ten, .ref h2_pha, .ref h2_set, .int len, .int z.2.2])), (h2_row, .inl (cI, 240, .inl row)), (h2_ten, .inl (cI, 4, .inl z.1)), (h2_pha, .inl (cI, 4, .inl z.2.1)), (h2_set, .inl (cI, 3, .inl set))] sz) (cc := cX2_addPeriod) (maxL := 3) (ret := none) (by decide) rfl (Nat.le_of_ble_eq_true rfl) ?_
  intro p e s m args below meth c A Q H ls hx hb hml hr hts hown hlocks hAe hQ hK hN hA hP hD hS hl
  have hown : s.vm.findClass RX2 = some m.cls := hown
  have hl : lv_has ls 3 [(0, .ref h2), (1, .int a1), (2, .int a2)] := hl
  have hP : va_P D vwCl ([(h2, .inr (2, [.ref h2_row, .ref h2_ten, .ref h2_pha, .ref h2_set, .int len, .int kep])), (h2_row, .inl (cI, 240, .inl row)), (h2_ten, .inl (cI, 4, .inl ten)), (h2_pha, .inl (cI, 4, .inl pha)), (h2_set, .inl (cI, 3, .inl set))] ++ []) H := hP
  have hD : va_D A ([(h2, .inr (2, [.ref h2_row, .ref h2_ten, .ref h2_pha, .ref h2_set, .int len, .int kep])), (h2_row, .inl (cI, 240, .inl row)), (h2_ten, .inl (cI, 4, .inl ten)), (h2_pha, .inl (cI, 4, .inl pha)), (h2_set, .inl (cI, 3, .inl set))] ++ []) := hD
  have iX2 : ∀ w ∈ u_ws RX2 TX2 6, w ∈ wsX2_addPeriod := fun _ h => List.mem_cons_of_mem _ (List.mem_append_right _ h)
  unfold fX2_addPeriod at h
  refine lv_aload_n hx hb dX2_addPeriod_0 rfl (lv_at hl 0 rfl) ?_
  refine va_get (D := D) (ci := 2) (v := .ref h2_ten) (C := RX2) (T := TX2) (N := 6) hx hb hts iX2 hown hK hP 0 rfl rfl 1 (by decide) (hts (.fieldLink RX2 15 "HiddenPeriods$State" "tenths" "[I") (by decide +kernel)) (fun _ h9 => h9) rfl dX2_addPeriod_1 ?_
  refine lv_aload_n hx hb dX2_addPeriod_4 rfl (lv_at hl 0 rfl) ?_
  refine va_get (D := D) (ci := 2) (v := .int kep) (C := RX2) (T := TX2) (N := 6) hx hb hts iX2 hown hK hP 0 rfl rfl 5 (by decide) (hts (.fieldLink RX2 36 "HiddenPeriods$State" "kept" "I") (by decide +kernel)) (fun _ h9 => h9) rfl dX2_addPeriod_5 ?_
  refine lv_iload_n hx hb dX2_addPeriod_8 rfl (lv_at hl 1 rfl) ?_
  obtain ⟨x1, hx1, h⟩ := bnd h
  refine pw_gov (wc := [(h2_ten, .inl (cI, 4, .inl ten))]) (w1 := [(h2_ten, .inl (cI, 4, .inl x1))]) (w2 := [(h2, .inr (2, [.ref h2_row, .ref h2_ten, .ref h2_pha, .ref h2_set, .int len, .int kep])), (h2_row, .inl (cI, 240, .inl row)), (h2_ten, .inl (cI, 4, .inl x1)), (h2_pha, .inl (cI, 4, .inl pha)), (h2_set, .inl (cI, 3, .inl set))]) (va_runSN (As := [.ref h2_ten, .int kep, .int a1]) (rest := []) ⟨hx, hb, hml, hown, hts⟩ (mX5_lay l D cI cO cJ h2_ten H.size ten 4 kep a1 _ hx1) ⟨va_cnB 3 hts gX2_addPeriod_X5_lay_n24 rfl rfl rfl (hN (.methodLinkNest RX2 24 yX5_lay "HiddenPeriods") (by decide +kernel)) (hts (.initialized RX5) (by decide +kernel)) (by decide +kernel) ⟨Nat.le_of_ble_eq_true rfl, Nat.le_of_ble_eq_true rfl⟩, (hts (.static yX5_lay) (by decide +kernel)), trivial⟩ (pw_preS hK hN (pw_sub hP [2] rfl) (pw_subD hD [2] (by decide) rfl)) rfl rfl hl.1 rfl (lv_room (Nat.le_of_ble_eq_true rfl)) dX2_addPeriod_9 ⟨Nat.zero_le _, Nat.zero_le _⟩) hP hD hS hA [2] [0, 1, 3, 4] [0, 1, 4, 2, 3] rfl rfl (by decide) (by decide) (by decide) rfl (fun H locs hP hD hS => ?_)
  refine lv_aload_n hx hb dX2_addPeriod_12 rfl (lv_at hl 0 rfl) ?_
  refine va_get (D := D) (ci := 2) (v := .ref h2_pha) (C := RX2) (T := TX2) (N := 6) hx hb hts iX2 hown hK hP 0 rfl rfl 2 (by decide) (hts (.fieldLink RX2 18 "HiddenPeriods$State" "phases" "[I") (by decide +kernel)) (fun _ h9 => h9) rfl dX2_addPeriod_13 ?_
  refine lv_aload_n hx hb dX2_addPeriod_16 rfl (lv_at hl 0 rfl) ?_
  refine va_get (D := D) (ci := 2) (v := .int kep) (C := RX2) (T := TX2) (N := 6) hx hb hts iX2 hown hK hP 0 rfl rfl 5 (by decide) (hts (.fieldLink RX2 36 "HiddenPeriods$State" "kept" "I") (by decide +kernel)) (fun _ h9 => h9) rfl dX2_addPeriod_17 ?_
  refine lv_iload_n hx hb dX2_addPeriod_20 rfl (lv_at hl 2 rfl) ?_
  obtain ⟨x2, hx2, h⟩ := bnd h
  refine pw_gov (wc := [(h2_pha, .inl (cI, 4, .inl pha))]) (w1 := [(h2_pha, .inl (cI, 4, .inl x2))]) (w2 := [(h2, .inr (2, [.ref h2_row, .ref h2_ten, .ref h2_pha, .ref h2_set, .int len, .int kep])), (h2_row, .inl (cI, 240, .inl row)), (h2_ten, .inl (cI, 4, .inl x1)), (h2_pha, .inl (cI, 4, .inl x2)), (h2_set, .inl (cI, 3, .inl set))]) (va_runSN (As := [.ref h2_pha, .int kep, .int a2]) (rest := []) ⟨hx, hb, hml, hown, hts⟩ (mX5_lay l D cI cO cJ h2_pha H.size pha 4 kep a2 _ hx2) ⟨va_cnB 3 hts gX2_addPeriod_X5_lay_n24 rfl rfl rfl (hN (.methodLinkNest RX2 24 yX5_lay "HiddenPeriods") (by decide +kernel)) (hts (.initialized RX5) (by decide +kernel)) (by decide +kernel) ⟨Nat.le_of_ble_eq_true rfl, Nat.le_of_ble_eq_true rfl⟩, (hts (.static yX5_lay) (by decide +kernel)), trivial⟩ (pw_preS hK hN (pw_sub hP [3] rfl) (pw_subD hD [3] (by decide) rfl)) rfl rfl hl.1 rfl (lv_room (Nat.le_of_ble_eq_true rfl)) dX2_addPeriod_21 ⟨Nat.zero_le _, Nat.zero_le _⟩) hP hD hS hA [3] [0, 1, 2, 4] [0, 1, 2, 4, 3] rfl rfl (by decide) (by decide) (by decide) rfl (fun H locs hP hD hS => ?_)
  refine lv_aload_n hx hb dX2_addPeriod_24 rfl (lv_at hl 0 rfl) ?_
  refine lv_dup hx hb dX2_addPeriod_25 rfl ?_
  refine va_get (D := D) (ci := 2) (v := .int kep) (C := RX2) (T := TX2) (N := 6) hx hb hts iX2 hown hK hP 0 rfl rfl 5 (by decide) (hts (.fieldLink RX2 36 "HiddenPeriods$State" "kept" "I") (by decide +kernel)) (fun _ h9 => h9) rfl dX2_addPeriod_26 ?_
  refine lv_iconst (v := 1) hx hb dX2_addPeriod_29 (by decide) ?_
  refine lv_iadd hx hb dX2_addPeriod_30 ?_
  refine va_put (D := D) (ci := 2) (v := .int (kep + 1)) (ty := .int) (C := RX2) (T := TX2) (N := 6) hx hb hts iX2 tyX2 tyX2_ok nmX2 hown hK hP hD hS 0 rfl rfl 5 (by decide) (hts (.fieldLink RX2 36 "HiddenPeriods$State" "kept" "I") (by decide +kernel)) (fun _ h9 => h9) rfl (by decide +kernel) rfl rfl (Nat.le_of_ble_eq_true rfl) dX2_addPeriod_31 (fun H locs hP hD hS => ?_)
  have hP : va_P D vwCl ([(h2, .inr (2, [.ref h2_row, .ref h2_ten, .ref h2_pha, .ref h2_set, .int len, .int (kep + 1)])), (h2_row, .inl (cI, 240, .inl row)), (h2_ten, .inl (cI, 4, .inl x1)), (h2_pha, .inl (cI, 4, .inl x2)), (h2_set, .inl (cI, 3, .inl set))] ++ []) H := hP
  have hD : va_D A ([(h2, .inr (2, [.ref h2_row, .ref h2_ten, .ref h2_pha, .ref h2_set, .int len, .int (kep + 1)])), (h2_row, .inl (cI, 240, .inl row)), (h2_ten, .inl (cI, 4, .inl x1)), (h2_pha, .inl (cI, 4, .inl x2)), (h2_set, .inl (cI, 3, .inl set))] ++ []) := hD
  cases h
  exact pw_vret hx hb hr hlocks hAe hQ hP hD hS dX2_addPeriod_34
def fX2_removePeriod_L12 (y1 : Int32) : Nat → Int32 → (Nat → Int32) → (Nat → Int32) → Option ((Nat → Int32) × (Nat → Int32))
  | 0, _, _, _ => none
  | n + 1, v2_12, ten_12, pha_12 =>
    if y1 ≤ v2_12 then
    some (ten_12, pha_12)
    else
    (fX2_tenthsAt ten_12 (v2_12 + 1)).bind fun x2 =>
    (fX5_lay ten_12 4 v2_12 x2).bind fun x3 =>
    (fX2_phaseAt pha_12 (v2_12 + 1)).bind fun x4 =>
    (fX5_lay pha_12 4 v2_12 x4).bind fun x5 =>
    fX2_removePeriod_L12 y1 n (v2_12 + 1) x3 x5
def fX2_removePeriod (ten : Nat → Int32) (pha : Nat → Int32) (kep : Int32) (a1 : Int32) : Option ((Nat → Int32) × (Nat → Int32) × Int32) :=
  (fX2_removePeriod_L12 (kep - 1) FU a1 ten pha).bind fun (x6_1, x6_2) =>
  some (x6_1, x6_2, (kep - 1))
abbrev rmX2_removePeriod : Room := { frames := 2, cells := 0, slots := 0, locals := 42 }
set_option maxHeartbeats 4000000 in
set_option maxRecDepth 100000 in
theorem mX2_removePeriod (l : Launch) (D : va_G) (cI cO cJ : ClassId) (h2 h2_row h2_ten h2_pha h2_set : Nat) (sz : Nat) (row : Nat → Int32) (ten : Nat → Int32) (pha : Nat → Int32) (set : Nat → Int32) (len : Int32) (kep : Int32) (a1 : Int32) (z : (Nat → Int32) × (Nat → Int32) × Int32) (h : fX2_removePeriod ten pha kep a1 = some z) : Met l yX2_removePeriod wsX2_removePeriod rmX2_removePeriod (pw_pre D (tyL cI cO cJ) [.ref h2, .int a1] [(h2, .inr (2, [.ref h2_row, .ref h2_ten, .ref h2_pha, .ref h2_set, .int len, .int kep])), (h2_row, .inl (cI, 240, .inl row)), (h2_ten, .inl (cI, 4, .inl ten)), (h2_pha, .inl (cI, 4, .inl pha)), (h2_set, .inl (cI, 3, .inl set))] sz) (pw_v D [(h2, .inr (2, [.ref h2_row, .ref h2_ten, .ref h2_pha, .ref h2_set, .int len, .int kep])), (h2_row, .inl (cI, 240, .inl row)), (h2_ten, .inl (cI, 4, .inl ten)), (h2_pha, .inl (cI, 4, .inl pha)), (h2_set, .inl (cI, 3, .inl set))] [(h2, .inr (2, [.ref h2_row, .ref h2_ten, .ref h2_pha, .ref h2_set, .int len, .int z.2.2])), (h2_row, .inl (cI, 240, .inl row)), (h2_ten, .inl (cI, 4, .inl z.1)), (h2_pha, .inl (cI, 4, .inl z.2.1)), (h2_set, .inl (cI, 3, .inl set))] sz) 0 0 (va_A [(h2, .inr (2, [.ref h2_row, .ref h2_ten, .ref h2_pha, .ref h2_set, .int len, .int kep])), (h2_row, .inl (cI, 240, .inl row)), (h2_ten, .inl (cI, 4, .inl ten)), (h2_pha, .inl (cI, 4, .inl pha)), (h2_set, .inl (cI, 3, .inl set))] sz) := by
  refine pw_of (Qc := fun sz => pw_v D [(h2, .inr (2, [.ref h2_row, .ref h2_ten, .ref h2_pha, .ref h2_set, .int len, .int kep])), (h2_row, .inl (cI, 240, .inl row)), (h2_ten, .inl (cI, 4, .inl ten)), (h2_pha, .inl (cI, 4, .inl pha)), (h2_set, .inl (cI, 3, .inl set))] [(h2, .inr (2, [.ref h2_row, .ref h2_ten, .ref h2_pha, .ref h2_set, .int len, .int z.2.2])), (h2_row, .inl (cI, 240, .inl row)), (h2_ten, .inl (cI, 4, .inl z.1)), (h2_pha, .inl (cI, 4, .inl z.2.1)), (h2_set, .inl (cI, 3, .inl set))] sz) (cc := cX2_removePeriod) (maxL := 3) (ret := none) (by decide) rfl (Nat.le_of_ble_eq_true rfl) ?_
  intro p e s m args below meth c A Q H ls hx hb hml hr hts hown hlocks hAe hQ hK hN hA hP hD hS hl
  have hown : s.vm.findClass RX2 = some m.cls := hown
  have hl : lv_has ls 3 [(0, .ref h2), (1, .int a1)] := hl
  have hP : va_P D vwCl ([(h2, .inr (2, [.ref h2_row, .ref h2_ten, .ref h2_pha, .ref h2_set, .int len, .int kep])), (h2_row, .inl (cI, 240, .inl row)), (h2_ten, .inl (cI, 4, .inl ten)), (h2_pha, .inl (cI, 4, .inl pha)), (h2_set, .inl (cI, 3, .inl set))] ++ []) H := hP
  have hD : va_D A ([(h2, .inr (2, [.ref h2_row, .ref h2_ten, .ref h2_pha, .ref h2_set, .int len, .int kep])), (h2_row, .inl (cI, 240, .inl row)), (h2_ten, .inl (cI, 4, .inl ten)), (h2_pha, .inl (cI, 4, .inl pha)), (h2_set, .inl (cI, 3, .inl set))] ++ []) := hD
  have iX2 : ∀ w ∈ u_ws RX2 TX2 6, w ∈ wsX2_removePeriod := fun _ h => List.mem_cons_of_mem _ (List.mem_append_right _ h)
  unfold fX2_removePeriod at h
  refine lv_aload_n hx hb dX2_removePeriod_0 rfl (lv_at hl 0 rfl) ?_
  refine lv_dup hx hb dX2_removePeriod_1 rfl ?_
  refine va_get (D := D) (ci := 2) (v := .int kep) (C := RX2) (T := TX2) (N := 6) hx hb hts iX2 hown hK hP 0 rfl rfl 5 (by decide) (hts (.fieldLink RX2 36 "HiddenPeriods$State" "kept" "I") (by decide +kernel)) (fun _ h9 => h9) rfl dX2_removePeriod_2 ?_
  refine lv_iconst (v := 1) hx hb dX2_removePeriod_5 (by decide) ?_
  refine lv_isub hx hb dX2_removePeriod_6 ?_
  refine va_put (D := D) (ci := 2) (v := .int (kep - 1)) (ty := .int) (C := RX2) (T := TX2) (N := 6) hx hb hts iX2 tyX2 tyX2_ok nmX2 hown hK hP hD hS 0 rfl rfl 5 (by decide) (hts (.fieldLink RX2 36 "HiddenPeriods$State" "kept" "I") (by decide +kernel)) (fun _ h9 => h9) rfl (by decide +kernel) rfl rfl (Nat.le_of_ble_eq_true rfl) dX2_removePeriod_7 (fun H locs hP hD hS => ?_)
  have hP : va_P D vwCl ([(h2, .inr (2, [.ref h2_row, .ref h2_ten, .ref h2_pha, .ref h2_set, .int len, .int (kep - 1)])), (h2_row, .inl (cI, 240, .inl row)), (h2_ten, .inl (cI, 4, .inl ten)), (h2_pha, .inl (cI, 4, .inl pha)), (h2_set, .inl (cI, 3, .inl set))] ++ []) H := hP
  have hD : va_D A ([(h2, .inr (2, [.ref h2_row, .ref h2_ten, .ref h2_pha, .ref h2_set, .int len, .int (kep - 1)])), (h2_row, .inl (cI, 240, .inl row)), (h2_ten, .inl (cI, 4, .inl ten)), (h2_pha, .inl (cI, 4, .inl pha)), (h2_set, .inl (cI, 3, .inl set))] ++ []) := hD
  refine lv_iload_n hx hb dX2_removePeriod_10 rfl (lv_at hl 1 rfl) ?_
  refine lv_istore_n (lv' := [(2, .int a1), (0, .ref h2), (1, .int a1)]) hx hb dX2_removePeriod_11 rfl hl (by decide) rfl (fun ls hl => ?_)
  generalize hgy1 : (kep - 1) = y1 at h hP hD hl ⊢
  have L12 : ∀ (n : Nat) (v2_12 : Int32) (ten_12 : Nat → Int32) (pha_12 : Nat → Int32) (o12_1 : Nat → Int32) (o12_2 : Nat → Int32) (H : Heap) (locs : List Loc) (ls : Array Slot), fX2_removePeriod_L12 y1 n v2_12 ten_12 pha_12 = some (o12_1, o12_2) → va_P D vwCl ([(h2, .inr (2, [.ref h2_row, .ref h2_ten, .ref h2_pha, .ref h2_set, .int len, .int y1])), (h2_row, .inl (cI, 240, .inl row)), (h2_ten, .inl (cI, 4, .inl ten_12)), (h2_pha, .inl (cI, 4, .inl pha_12)), (h2_set, .inl (cI, 3, .inl set))] ++ []) H → va_D A ([(h2, .inr (2, [.ref h2_row, .ref h2_ten, .ref h2_pha, .ref h2_set, .int len, .int y1])), (h2_row, .inl (cI, 240, .inl row)), (h2_ten, .inl (cI, 4, .inl ten_12)), (h2_pha, .inl (cI, 4, .inl pha_12)), (h2_set, .inl (cI, 3, .inl set))] ++ []) → va_S A s.heap H locs → lv_has ls 3 [(0, .ref h2), (2, .int v2_12)] → (∀ (H : Heap) (locs : List Loc) (ls : Array Slot), va_P D vwCl ([(h2, .inr (2, [.ref h2_row, .ref h2_ten, .ref h2_pha, .ref h2_set, .int len, .int y1])), (h2_row, .inl (cI, 240, .inl row)), (h2_ten, .inl (cI, 4, .inl o12_1)), (h2_pha, .inl (cI, 4, .inl o12_2)), (h2_set, .inl (cI, 3, .inl set))] ++ []) H → va_D A ([(h2, .inr (2, [.ref h2_row, .ref h2_ten, .ref h2_pha, .ref h2_set, .int len, .int y1])), (h2_row, .inl (cI, 240, .inl row)), (h2_ten, .inl (cI, 4, .inl o12_1)), (h2_pha, .inl (cI, 4, .inl o12_2)), (h2_set, .inl (cI, 3, .inl set))] ++ []) → va_S A s.heap H locs → lv_has ls 3 [] → W p l e rmX2_removePeriod s m args below meth c H locs 0 0 Q (F0 m 56 ls [])) → W p l e rmX2_removePeriod s m args below meth c H locs 0 0 Q (F0 m 12 ls []) := by
    intro n
    induction n with
    | zero =>
      intro v2_12 ten_12 pha_12 o12_1 o12_2 H locs ls h
      rw [fX2_removePeriod_L12] at h
      cases h
    | succ n ih =>
      intro v2_12 ten_12 pha_12 o12_1 o12_2 H locs ls h hP hD hS hl K
      rw [fX2_removePeriod_L12] at h
      refine lv_iload_n hx hb dX2_removePeriod_12 rfl (lv_at hl 1 rfl) ?_
      refine lv_aload_n hx hb dX2_removePeriod_13 rfl (lv_at hl 0 rfl) ?_
      refine va_get (D := D) (ci := 2) (v := .int y1) (C := RX2) (T := TX2) (N := 6) hx hb hts iX2 hown hK hP 0 rfl rfl 5 (by decide) (hts (.fieldLink RX2 36 "HiddenPeriods$State" "kept" "I") (by decide +kernel)) (fun _ h9 => h9) rfl dX2_removePeriod_14 ?_
      refine lv_icmp_ge (tgt := 56) hx hb dX2_removePeriod_17 (by decide) (fun cq => ?_) (fun cq => ?_)
      · replace h := ifp cq h
        cases h
        exact K _ _ _ hP hD hS (lv_sub hl [] rfl)
      · replace h := ifn cq h
        refine lv_aload_n hx hb dX2_removePeriod_20 rfl (lv_at hl 0 rfl) ?_
        refine va_get (D := D) (ci := 2) (v := .ref h2_ten) (C := RX2) (T := TX2) (N := 6) hx hb hts iX2 hown hK hP 0 rfl rfl 1 (by decide) (hts (.fieldLink RX2 15 "HiddenPeriods$State" "tenths" "[I") (by decide +kernel)) (fun _ h9 => h9) rfl dX2_removePeriod_21 ?_
        refine lv_iload_n hx hb dX2_removePeriod_24 rfl (lv_at hl 1 rfl) ?_
        refine lv_aload_n hx hb dX2_removePeriod_25 rfl (lv_at hl 0 rfl) ?_
        refine lv_iload_n hx hb dX2_removePeriod_26 rfl (lv_at hl 1 rfl) ?_
        refine lv_iconst (v := 1) hx hb dX2_removePeriod_27 (by decide) ?_
        refine lv_iadd hx hb dX2_removePeriod_28 ?_
        obtain ⟨x2, hx2, h⟩ := bnd h
        refine pw_goi (wc := [(h2, .inr (2, [.ref h2_row, .ref h2_ten, .ref h2_pha, .ref h2_set, .int len, .int y1])), (h2_row, .inl (cI, 240, .inl row)), (h2_ten, .inl (cI, 4, .inl ten_12)), (h2_pha, .inl (cI, 4, .inl pha_12)), (h2_set, .inl (cI, 3, .inl set))]) (w1 := [(h2, .inr (2, [.ref h2_row, .ref h2_ten, .ref h2_pha, .ref h2_set, .int len, .int y1])), (h2_row, .inl (cI, 240, .inl row)), (h2_ten, .inl (cI, 4, .inl ten_12)), (h2_pha, .inl (cI, 4, .inl pha_12)), (h2_set, .inl (cI, 3, .inl set))]) (w2 := [(h2, .inr (2, [.ref h2_row, .ref h2_ten, .ref h2_pha, .ref h2_set, .int len, .int y1])), (h2_row, .inl (cI, 240, .inl row)), (h2_ten, .inl (cI, 4, .inl ten_12)), (h2_pha, .inl (cI, 4, .inl pha_12)), (h2_set, .inl (cI, 3, .inl set))]) (va_runV (As := [.int (v2_12 + 1)]) (rest := [.int v2_12, .ref h2_ten]) ⟨hx, hb, hml, hown, hts⟩ (mX2_tenthsAt l D cI cO cJ h2 h2_row h2_ten h2_pha h2_set H.size row ten_12 pha_12 set len y1 (v2_12 + 1) _ hx2) (cwV 1 hts gX2_removePeriod_X2_tenthsAt rfl rfl rfl (by decide +kernel) ⟨Nat.le_of_ble_eq_true rfl, Nat.le_of_ble_eq_true rfl⟩) (pw_preV hK hN (pw_sub hP [0, 1, 2, 3, 4] rfl) (pw_subD hD [0, 1, 2, 3, 4] (by decide) rfl) (ci := 2) (q0 := 0) rfl rfl) rfl rfl hl.1 rfl (lv_room (Nat.le_of_ble_eq_true rfl)) dX2_removePeriod_29 ⟨Nat.zero_le _, Nat.zero_le _⟩) hP hD hS hA [0, 1, 2, 3, 4] [] [0, 1, 2, 3, 4] rfl rfl (by decide) (by decide) (by decide) rfl (fun H locs hP hD hS => ?_)
        obtain ⟨x3, hx3, h⟩ := bnd h
        refine pw_gov (wc := [(h2_ten, .inl (cI, 4, .inl ten_12))]) (w1 := [(h2_ten, .inl (cI, 4, .inl x3))]) (w2 := [(h2, .inr (2, [.ref h2_row, .ref h2_ten, .ref h2_pha, .ref h2_set, .int len, .int y1])), (h2_row, .inl (cI, 240, .inl row)), (h2_ten, .inl (cI, 4, .inl x3)), (h2_pha, .inl (cI, 4, .inl pha_12)), (h2_set, .inl (cI, 3, .inl set))]) (va_runSN (As := [.ref h2_ten, .int v2_12, .int x2]) (rest := []) ⟨hx, hb, hml, hown, hts⟩ (mX5_lay l D cI cO cJ h2_ten H.size ten_12 4 v2_12 x2 _ hx3) ⟨va_cnB 3 hts gX2_removePeriod_X5_lay_n24 rfl rfl rfl (hN (.methodLinkNest RX2 24 yX5_lay "HiddenPeriods") (by decide +kernel)) (hts (.initialized RX5) (by decide +kernel)) (by decide +kernel) ⟨Nat.le_of_ble_eq_true rfl, Nat.le_of_ble_eq_true rfl⟩, (hts (.static yX5_lay) (by decide +kernel)), trivial⟩ (pw_preS hK hN (pw_sub hP [2] rfl) (pw_subD hD [2] (by decide) rfl)) rfl rfl hl.1 rfl (lv_room (Nat.le_of_ble_eq_true rfl)) dX2_removePeriod_32 ⟨Nat.zero_le _, Nat.zero_le _⟩) hP hD hS hA [2] [0, 1, 3, 4] [0, 1, 4, 2, 3] rfl rfl (by decide) (by decide) (by decide) rfl (fun H locs hP hD hS => ?_)
        refine lv_aload_n hx hb dX2_removePeriod_35 rfl (lv_at hl 0 rfl) ?_
        refine va_get (D := D) (ci := 2) (v := .ref h2_pha) (C := RX2) (T := TX2) (N := 6) hx hb hts iX2 hown hK hP 0 rfl rfl 2 (by decide) (hts (.fieldLink RX2 18 "HiddenPeriods$State" "phases" "[I") (by decide +kernel)) (fun _ h9 => h9) rfl dX2_removePeriod_36 ?_
        refine lv_iload_n hx hb dX2_removePeriod_39 rfl (lv_at hl 1 rfl) ?_
        refine lv_aload_n hx hb dX2_removePeriod_40 rfl (lv_at hl 0 rfl) ?_
        refine lv_iload_n hx hb dX2_removePeriod_41 rfl (lv_at hl 1 rfl) ?_
        refine lv_iconst (v := 1) hx hb dX2_removePeriod_42 (by decide) ?_
        refine lv_iadd hx hb dX2_removePeriod_43 ?_
        obtain ⟨x4, hx4, h⟩ := bnd h
        refine pw_goi (wc := [(h2, .inr (2, [.ref h2_row, .ref h2_ten, .ref h2_pha, .ref h2_set, .int len, .int y1])), (h2_row, .inl (cI, 240, .inl row)), (h2_ten, .inl (cI, 4, .inl x3)), (h2_pha, .inl (cI, 4, .inl pha_12)), (h2_set, .inl (cI, 3, .inl set))]) (w1 := [(h2, .inr (2, [.ref h2_row, .ref h2_ten, .ref h2_pha, .ref h2_set, .int len, .int y1])), (h2_row, .inl (cI, 240, .inl row)), (h2_ten, .inl (cI, 4, .inl x3)), (h2_pha, .inl (cI, 4, .inl pha_12)), (h2_set, .inl (cI, 3, .inl set))]) (w2 := [(h2, .inr (2, [.ref h2_row, .ref h2_ten, .ref h2_pha, .ref h2_set, .int len, .int y1])), (h2_row, .inl (cI, 240, .inl row)), (h2_ten, .inl (cI, 4, .inl x3)), (h2_pha, .inl (cI, 4, .inl pha_12)), (h2_set, .inl (cI, 3, .inl set))]) (va_runV (As := [.int (v2_12 + 1)]) (rest := [.int v2_12, .ref h2_pha]) ⟨hx, hb, hml, hown, hts⟩ (mX2_phaseAt l D cI cO cJ h2 h2_row h2_ten h2_pha h2_set H.size row x3 pha_12 set len y1 (v2_12 + 1) _ hx4) (cwV 1 hts gX2_removePeriod_X2_phaseAt rfl rfl rfl (by decide +kernel) ⟨Nat.le_of_ble_eq_true rfl, Nat.le_of_ble_eq_true rfl⟩) (pw_preV hK hN (pw_sub hP [0, 1, 2, 3, 4] rfl) (pw_subD hD [0, 1, 2, 3, 4] (by decide) rfl) (ci := 2) (q0 := 0) rfl rfl) rfl rfl hl.1 rfl (lv_room (Nat.le_of_ble_eq_true rfl)) dX2_removePeriod_44 ⟨Nat.zero_le _, Nat.zero_le _⟩) hP hD hS hA [0, 1, 2, 3, 4] [] [0, 1, 2, 3, 4] rfl rfl (by decide) (by decide) (by decide) rfl (fun H locs hP hD hS => ?_)
        obtain ⟨x5, hx5, h⟩ := bnd h
        refine pw_gov (wc := [(h2_pha, .inl (cI, 4, .inl pha_12))]) (w1 := [(h2_pha, .inl (cI, 4, .inl x5))]) (w2 := [(h2, .inr (2, [.ref h2_row, .ref h2_ten, .ref h2_pha, .ref h2_set, .int len, .int y1])), (h2_row, .inl (cI, 240, .inl row)), (h2_ten, .inl (cI, 4, .inl x3)), (h2_pha, .inl (cI, 4, .inl x5)), (h2_set, .inl (cI, 3, .inl set))]) (va_runSN (As := [.ref h2_pha, .int v2_12, .int x4]) (rest := []) ⟨hx, hb, hml, hown, hts⟩ (mX5_lay l D cI cO cJ h2_pha H.size pha_12 4 v2_12 x4 _ hx5) ⟨va_cnB 3 hts gX2_removePeriod_X5_lay_n24 rfl rfl rfl (hN (.methodLinkNest RX2 24 yX5_lay "HiddenPeriods") (by decide +kernel)) (hts (.initialized RX5) (by decide +kernel)) (by decide +kernel) ⟨Nat.le_of_ble_eq_true rfl, Nat.le_of_ble_eq_true rfl⟩, (hts (.static yX5_lay) (by decide +kernel)), trivial⟩ (pw_preS hK hN (pw_sub hP [3] rfl) (pw_subD hD [3] (by decide) rfl)) rfl rfl hl.1 rfl (lv_room (Nat.le_of_ble_eq_true rfl)) dX2_removePeriod_47 ⟨Nat.zero_le _, Nat.zero_le _⟩) hP hD hS hA [3] [0, 1, 2, 4] [0, 1, 2, 4, 3] rfl rfl (by decide) (by decide) (by decide) rfl (fun H locs hP hD hS => ?_)
        refine lv_iinc (v := (v2_12 + 1)) (lv' := [(2, .int (v2_12 + 1)), (0, .ref h2)]) hx hb dX2_removePeriod_50 hl (k := 1) rfl rfl (by decide) rfl (fun ls hl => ?_)
        refine lv_goto (tgt := 12) hx hb dX2_removePeriod_53 (by decide) ?_
        exact ih _ _ _ _ _ _ _ _ h hP hD hS (lv_sub hl [1, 0] rfl) K
  obtain ⟨⟨x6_1, x6_2⟩, hx6, h⟩ := bnd h
  refine L12 FU _ _ _ _ _ _ _ _ hx6 hP hD hS (lv_sub hl [1, 0] rfl) (fun H locs ls hP hD hS hl => ?_)
  cases h
  exact pw_vret hx hb hr hlocks hAe hQ hP hD hS dX2_removePeriod_56
def fX2_changeSetting (set : Nat → Int32) (a1 : Int32) (a2 : Int32) : Option (Nat → Int32) :=
  (fX5_lay set 3 a1 a2).bind fun x1 =>
  some x1
abbrev rmX2_changeSetting : Room := { frames := 1, cells := 0, slots := 0, locals := 22 }
set_option maxHeartbeats 4000000 in
set_option maxRecDepth 100000 in
theorem mX2_changeSetting (l : Launch) (D : va_G) (cI cO cJ : ClassId) (h2 h2_row h2_ten h2_pha h2_set : Nat) (sz : Nat) (row : Nat → Int32) (ten : Nat → Int32) (pha : Nat → Int32) (set : Nat → Int32) (len : Int32) (kep : Int32) (a1 : Int32) (a2 : Int32) (z : Nat → Int32) (h : fX2_changeSetting set a1 a2 = some z) : Met l yX2_changeSetting wsX2_changeSetting rmX2_changeSetting (pw_pre D (tyL cI cO cJ) [.ref h2, .int a1, .int a2] [(h2, .inr (2, [.ref h2_row, .ref h2_ten, .ref h2_pha, .ref h2_set, .int len, .int kep])), (h2_row, .inl (cI, 240, .inl row)), (h2_ten, .inl (cI, 4, .inl ten)), (h2_pha, .inl (cI, 4, .inl pha)), (h2_set, .inl (cI, 3, .inl set))] sz) (pw_v D [(h2, .inr (2, [.ref h2_row, .ref h2_ten, .ref h2_pha, .ref h2_set, .int len, .int kep])), (h2_row, .inl (cI, 240, .inl row)), (h2_ten, .inl (cI, 4, .inl ten)), (h2_pha, .inl (cI, 4, .inl pha)), (h2_set, .inl (cI, 3, .inl set))] [(h2, .inr (2, [.ref h2_row, .ref h2_ten, .ref h2_pha, .ref h2_set, .int len, .int kep])), (h2_row, .inl (cI, 240, .inl row)), (h2_ten, .inl (cI, 4, .inl ten)), (h2_pha, .inl (cI, 4, .inl pha)), (h2_set, .inl (cI, 3, .inl z))] sz) 0 0 (va_A [(h2, .inr (2, [.ref h2_row, .ref h2_ten, .ref h2_pha, .ref h2_set, .int len, .int kep])), (h2_row, .inl (cI, 240, .inl row)), (h2_ten, .inl (cI, 4, .inl ten)), (h2_pha, .inl (cI, 4, .inl pha)), (h2_set, .inl (cI, 3, .inl set))] sz) := by
  refine pw_of (Qc := fun sz => pw_v D [(h2, .inr (2, [.ref h2_row, .ref h2_ten, .ref h2_pha, .ref h2_set, .int len, .int kep])), (h2_row, .inl (cI, 240, .inl row)), (h2_ten, .inl (cI, 4, .inl ten)), (h2_pha, .inl (cI, 4, .inl pha)), (h2_set, .inl (cI, 3, .inl set))] [(h2, .inr (2, [.ref h2_row, .ref h2_ten, .ref h2_pha, .ref h2_set, .int len, .int kep])), (h2_row, .inl (cI, 240, .inl row)), (h2_ten, .inl (cI, 4, .inl ten)), (h2_pha, .inl (cI, 4, .inl pha)), (h2_set, .inl (cI, 3, .inl z))] sz) (cc := cX2_changeSetting) (maxL := 3) (ret := none) (by decide) rfl (Nat.le_of_ble_eq_true rfl) ?_
  intro p e s m args below meth c A Q H ls hx hb hml hr hts hown hlocks hAe hQ hK hN hA hP hD hS hl
  have hown : s.vm.findClass RX2 = some m.cls := hown
  have hl : lv_has ls 3 [(0, .ref h2), (1, .int a1), (2, .int a2)] := hl
  have hP : va_P D vwCl ([(h2, .inr (2, [.ref h2_row, .ref h2_ten, .ref h2_pha, .ref h2_set, .int len, .int kep])), (h2_row, .inl (cI, 240, .inl row)), (h2_ten, .inl (cI, 4, .inl ten)), (h2_pha, .inl (cI, 4, .inl pha)), (h2_set, .inl (cI, 3, .inl set))] ++ []) H := hP
  have hD : va_D A ([(h2, .inr (2, [.ref h2_row, .ref h2_ten, .ref h2_pha, .ref h2_set, .int len, .int kep])), (h2_row, .inl (cI, 240, .inl row)), (h2_ten, .inl (cI, 4, .inl ten)), (h2_pha, .inl (cI, 4, .inl pha)), (h2_set, .inl (cI, 3, .inl set))] ++ []) := hD
  have iX2 : ∀ w ∈ u_ws RX2 TX2 6, w ∈ wsX2_changeSetting := fun _ h => List.mem_cons_of_mem _ (List.mem_append_right _ h)
  unfold fX2_changeSetting at h
  refine lv_aload_n hx hb dX2_changeSetting_0 rfl (lv_at hl 0 rfl) ?_
  refine va_get (D := D) (ci := 2) (v := .ref h2_set) (C := RX2) (T := TX2) (N := 6) hx hb hts iX2 hown hK hP 0 rfl rfl 3 (by decide) (hts (.fieldLink RX2 21 "HiddenPeriods$State" "settings" "[I") (by decide +kernel)) (fun _ h9 => h9) rfl dX2_changeSetting_1 ?_
  refine lv_iload_n hx hb dX2_changeSetting_4 rfl (lv_at hl 1 rfl) ?_
  refine lv_iload_n hx hb dX2_changeSetting_5 rfl (lv_at hl 2 rfl) ?_
  obtain ⟨x1, hx1, h⟩ := bnd h
  refine pw_gov (wc := [(h2_set, .inl (cI, 3, .inl set))]) (w1 := [(h2_set, .inl (cI, 3, .inl x1))]) (w2 := [(h2, .inr (2, [.ref h2_row, .ref h2_ten, .ref h2_pha, .ref h2_set, .int len, .int kep])), (h2_row, .inl (cI, 240, .inl row)), (h2_ten, .inl (cI, 4, .inl ten)), (h2_pha, .inl (cI, 4, .inl pha)), (h2_set, .inl (cI, 3, .inl x1))]) (va_runSN (As := [.ref h2_set, .int a1, .int a2]) (rest := []) ⟨hx, hb, hml, hown, hts⟩ (mX5_lay l D cI cO cJ h2_set H.size set 3 a1 a2 _ hx1) ⟨va_cnB 3 hts gX2_changeSetting_X5_lay_n24 rfl rfl rfl (hN (.methodLinkNest RX2 24 yX5_lay "HiddenPeriods") (by decide +kernel)) (hts (.initialized RX5) (by decide +kernel)) (by decide +kernel) ⟨Nat.le_of_ble_eq_true rfl, Nat.le_of_ble_eq_true rfl⟩, (hts (.static yX5_lay) (by decide +kernel)), trivial⟩ (pw_preS hK hN (pw_sub hP [4] rfl) (pw_subD hD [4] (by decide) rfl)) rfl rfl hl.1 rfl (lv_room (Nat.le_of_ble_eq_true rfl)) dX2_changeSetting_6 ⟨Nat.zero_le _, Nat.zero_le _⟩) hP hD hS hA [4] [0, 1, 2, 3] [0, 1, 2, 3, 4] rfl rfl (by decide) (by decide) (by decide) rfl (fun H locs hP hD hS => ?_)
  cases h
  exact pw_vret hx hb hr hlocks hAe hQ hP hD hS dX2_changeSetting_9
def fX2_isInWindow (set : Nat → Int32) (len : Int32) (a1 : Int32) : Option Int32 :=
  (fX2_windowStart set).bind fun x1 =>
  if a1 < x1 then
  some 0
  else
  (fX2_windowStart set).bind fun x2 =>
  (fX2_windowPlaces set len).bind fun x3 =>
  if (x2 + x3) ≤ a1 then
  some 0
  else
  some 1
abbrev rmX2_isInWindow : Room := { frames := 3, cells := 0, slots := 0, locals := 63 }
set_option maxHeartbeats 4000000 in
set_option maxRecDepth 100000 in
theorem mX2_isInWindow (l : Launch) (D : va_G) (cI cO cJ : ClassId) (h2 h2_row h2_ten h2_pha h2_set : Nat) (sz : Nat) (row : Nat → Int32) (ten : Nat → Int32) (pha : Nat → Int32) (set : Nat → Int32) (len : Int32) (kep : Int32) (a1 : Int32) (z : Int32) (h : fX2_isInWindow set len a1 = some z) : Met l yX2_isInWindow wsX2_isInWindow rmX2_isInWindow (pw_pre D (tyL cI cO cJ) [.ref h2, .int a1] [(h2, .inr (2, [.ref h2_row, .ref h2_ten, .ref h2_pha, .ref h2_set, .int len, .int kep])), (h2_row, .inl (cI, 240, .inl row)), (h2_ten, .inl (cI, 4, .inl ten)), (h2_pha, .inl (cI, 4, .inl pha)), (h2_set, .inl (cI, 3, .inl set))] sz) (pw_i D [(h2, .inr (2, [.ref h2_row, .ref h2_ten, .ref h2_pha, .ref h2_set, .int len, .int kep])), (h2_row, .inl (cI, 240, .inl row)), (h2_ten, .inl (cI, 4, .inl ten)), (h2_pha, .inl (cI, 4, .inl pha)), (h2_set, .inl (cI, 3, .inl set))] [(h2, .inr (2, [.ref h2_row, .ref h2_ten, .ref h2_pha, .ref h2_set, .int len, .int kep])), (h2_row, .inl (cI, 240, .inl row)), (h2_ten, .inl (cI, 4, .inl ten)), (h2_pha, .inl (cI, 4, .inl pha)), (h2_set, .inl (cI, 3, .inl set))] z sz) 0 0 (va_A [(h2, .inr (2, [.ref h2_row, .ref h2_ten, .ref h2_pha, .ref h2_set, .int len, .int kep])), (h2_row, .inl (cI, 240, .inl row)), (h2_ten, .inl (cI, 4, .inl ten)), (h2_pha, .inl (cI, 4, .inl pha)), (h2_set, .inl (cI, 3, .inl set))] sz) := by
  refine pw_of (Qc := fun sz => pw_i D [(h2, .inr (2, [.ref h2_row, .ref h2_ten, .ref h2_pha, .ref h2_set, .int len, .int kep])), (h2_row, .inl (cI, 240, .inl row)), (h2_ten, .inl (cI, 4, .inl ten)), (h2_pha, .inl (cI, 4, .inl pha)), (h2_set, .inl (cI, 3, .inl set))] [(h2, .inr (2, [.ref h2_row, .ref h2_ten, .ref h2_pha, .ref h2_set, .int len, .int kep])), (h2_row, .inl (cI, 240, .inl row)), (h2_ten, .inl (cI, 4, .inl ten)), (h2_pha, .inl (cI, 4, .inl pha)), (h2_set, .inl (cI, 3, .inl set))] z sz) (cc := cX2_isInWindow) (maxL := 2) (ret := (some .boolean)) (by decide) rfl (Nat.le_of_ble_eq_true rfl) ?_
  intro p e s m args below meth c A Q H ls hx hb hml hr hts hown hlocks hAe hQ hK hN hA hP hD hS hl
  have hown : s.vm.findClass RX2 = some m.cls := hown
  have hl : lv_has ls 2 [(0, .ref h2), (1, .int a1)] := hl
  have hP : va_P D vwCl ([(h2, .inr (2, [.ref h2_row, .ref h2_ten, .ref h2_pha, .ref h2_set, .int len, .int kep])), (h2_row, .inl (cI, 240, .inl row)), (h2_ten, .inl (cI, 4, .inl ten)), (h2_pha, .inl (cI, 4, .inl pha)), (h2_set, .inl (cI, 3, .inl set))] ++ []) H := hP
  have hD : va_D A ([(h2, .inr (2, [.ref h2_row, .ref h2_ten, .ref h2_pha, .ref h2_set, .int len, .int kep])), (h2_row, .inl (cI, 240, .inl row)), (h2_ten, .inl (cI, 4, .inl ten)), (h2_pha, .inl (cI, 4, .inl pha)), (h2_set, .inl (cI, 3, .inl set))] ++ []) := hD
  unfold fX2_isInWindow at h
  refine lv_iload_n hx hb dX2_isInWindow_0 rfl (lv_at hl 1 rfl) ?_
  refine lv_aload_n hx hb dX2_isInWindow_1 rfl (lv_at hl 0 rfl) ?_
  obtain ⟨x1, hx1, h⟩ := bnd h
  refine pw_goi (wc := [(h2, .inr (2, [.ref h2_row, .ref h2_ten, .ref h2_pha, .ref h2_set, .int len, .int kep])), (h2_row, .inl (cI, 240, .inl row)), (h2_ten, .inl (cI, 4, .inl ten)), (h2_pha, .inl (cI, 4, .inl pha)), (h2_set, .inl (cI, 3, .inl set))]) (w1 := [(h2, .inr (2, [.ref h2_row, .ref h2_ten, .ref h2_pha, .ref h2_set, .int len, .int kep])), (h2_row, .inl (cI, 240, .inl row)), (h2_ten, .inl (cI, 4, .inl ten)), (h2_pha, .inl (cI, 4, .inl pha)), (h2_set, .inl (cI, 3, .inl set))]) (w2 := [(h2, .inr (2, [.ref h2_row, .ref h2_ten, .ref h2_pha, .ref h2_set, .int len, .int kep])), (h2_row, .inl (cI, 240, .inl row)), (h2_ten, .inl (cI, 4, .inl ten)), (h2_pha, .inl (cI, 4, .inl pha)), (h2_set, .inl (cI, 3, .inl set))]) (va_runV (As := []) (rest := [.int a1]) ⟨hx, hb, hml, hown, hts⟩ (mX2_windowStart l D cI cO cJ h2 h2_row h2_ten h2_pha h2_set H.size row ten pha set len kep _ hx1) (cwV 0 hts gX2_isInWindow_X2_windowStart rfl rfl rfl (by decide +kernel) ⟨Nat.le_of_ble_eq_true rfl, Nat.le_of_ble_eq_true rfl⟩) (pw_preV hK hN (pw_sub hP [0, 1, 2, 3, 4] rfl) (pw_subD hD [0, 1, 2, 3, 4] (by decide) rfl) (ci := 2) (q0 := 0) rfl rfl) rfl rfl hl.1 rfl (lv_room (Nat.le_of_ble_eq_true rfl)) dX2_isInWindow_2 ⟨Nat.zero_le _, Nat.zero_le _⟩) hP hD hS hA [0, 1, 2, 3, 4] [] [0, 1, 2, 3, 4] rfl rfl (by decide) (by decide) (by decide) rfl (fun H locs hP hD hS => ?_)
  refine lv_icmp_lt (tgt := 25) hx hb dX2_isInWindow_5 (by decide) (fun cq => ?_) (fun cq => ?_)
  · replace h := ifp cq h
    refine lv_iconst (v := 0) hx hb dX2_isInWindow_25 (by decide) ?_
    cases h
    exact pw_zret hx hb hr hlocks hAe (by decide) hQ hP hD hS dX2_isInWindow_26
  · replace h := ifn cq h
    refine lv_iload_n hx hb dX2_isInWindow_8 rfl (lv_at hl 1 rfl) ?_
    refine lv_aload_n hx hb dX2_isInWindow_9 rfl (lv_at hl 0 rfl) ?_
    obtain ⟨x2, hx2, h⟩ := bnd h
    refine pw_goi (wc := [(h2, .inr (2, [.ref h2_row, .ref h2_ten, .ref h2_pha, .ref h2_set, .int len, .int kep])), (h2_row, .inl (cI, 240, .inl row)), (h2_ten, .inl (cI, 4, .inl ten)), (h2_pha, .inl (cI, 4, .inl pha)), (h2_set, .inl (cI, 3, .inl set))]) (w1 := [(h2, .inr (2, [.ref h2_row, .ref h2_ten, .ref h2_pha, .ref h2_set, .int len, .int kep])), (h2_row, .inl (cI, 240, .inl row)), (h2_ten, .inl (cI, 4, .inl ten)), (h2_pha, .inl (cI, 4, .inl pha)), (h2_set, .inl (cI, 3, .inl set))]) (w2 := [(h2, .inr (2, [.ref h2_row, .ref h2_ten, .ref h2_pha, .ref h2_set, .int len, .int kep])), (h2_row, .inl (cI, 240, .inl row)), (h2_ten, .inl (cI, 4, .inl ten)), (h2_pha, .inl (cI, 4, .inl pha)), (h2_set, .inl (cI, 3, .inl set))]) (va_runV (As := []) (rest := [.int a1]) ⟨hx, hb, hml, hown, hts⟩ (mX2_windowStart l D cI cO cJ h2 h2_row h2_ten h2_pha h2_set H.size row ten pha set len kep _ hx2) (cwV 0 hts gX2_isInWindow_X2_windowStart rfl rfl rfl (by decide +kernel) ⟨Nat.le_of_ble_eq_true rfl, Nat.le_of_ble_eq_true rfl⟩) (pw_preV hK hN (pw_sub hP [0, 1, 2, 3, 4] rfl) (pw_subD hD [0, 1, 2, 3, 4] (by decide) rfl) (ci := 2) (q0 := 0) rfl rfl) rfl rfl hl.1 rfl (lv_room (Nat.le_of_ble_eq_true rfl)) dX2_isInWindow_10 ⟨Nat.zero_le _, Nat.zero_le _⟩) hP hD hS hA [0, 1, 2, 3, 4] [] [0, 1, 2, 3, 4] rfl rfl (by decide) (by decide) (by decide) rfl (fun H locs hP hD hS => ?_)
    refine lv_aload_n hx hb dX2_isInWindow_13 rfl (lv_at hl 0 rfl) ?_
    obtain ⟨x3, hx3, h⟩ := bnd h
    refine pw_goi (wc := [(h2, .inr (2, [.ref h2_row, .ref h2_ten, .ref h2_pha, .ref h2_set, .int len, .int kep])), (h2_row, .inl (cI, 240, .inl row)), (h2_ten, .inl (cI, 4, .inl ten)), (h2_pha, .inl (cI, 4, .inl pha)), (h2_set, .inl (cI, 3, .inl set))]) (w1 := [(h2, .inr (2, [.ref h2_row, .ref h2_ten, .ref h2_pha, .ref h2_set, .int len, .int kep])), (h2_row, .inl (cI, 240, .inl row)), (h2_ten, .inl (cI, 4, .inl ten)), (h2_pha, .inl (cI, 4, .inl pha)), (h2_set, .inl (cI, 3, .inl set))]) (w2 := [(h2, .inr (2, [.ref h2_row, .ref h2_ten, .ref h2_pha, .ref h2_set, .int len, .int kep])), (h2_row, .inl (cI, 240, .inl row)), (h2_ten, .inl (cI, 4, .inl ten)), (h2_pha, .inl (cI, 4, .inl pha)), (h2_set, .inl (cI, 3, .inl set))]) (va_runV (As := []) (rest := [.int x2, .int a1]) ⟨hx, hb, hml, hown, hts⟩ (mX2_windowPlaces l D cI cO cJ h2 h2_row h2_ten h2_pha h2_set H.size row ten pha set len kep _ hx3) (cwV 0 hts gX2_isInWindow_X2_windowPlaces rfl rfl rfl (by decide +kernel) ⟨Nat.le_of_ble_eq_true rfl, Nat.le_of_ble_eq_true rfl⟩) (pw_preV hK hN (pw_sub hP [0, 1, 2, 3, 4] rfl) (pw_subD hD [0, 1, 2, 3, 4] (by decide) rfl) (ci := 2) (q0 := 0) rfl rfl) rfl rfl hl.1 rfl (lv_room (Nat.le_of_ble_eq_true rfl)) dX2_isInWindow_14 ⟨Nat.zero_le _, Nat.zero_le _⟩) hP hD hS hA [0, 1, 2, 3, 4] [] [0, 1, 2, 3, 4] rfl rfl (by decide) (by decide) (by decide) rfl (fun H locs hP hD hS => ?_)
    refine lv_iadd hx hb dX2_isInWindow_17 ?_
    refine lv_icmp_ge (tgt := 25) hx hb dX2_isInWindow_18 (by decide) (fun cq => ?_) (fun cq => ?_)
    · replace h := ifp cq h
      refine lv_iconst (v := 0) hx hb dX2_isInWindow_25 (by decide) ?_
      cases h
      exact pw_zret hx hb hr hlocks hAe (by decide) hQ hP hD hS dX2_isInWindow_26
    · replace h := ifn cq h
      refine lv_iconst (v := 1) hx hb dX2_isInWindow_21 (by decide) ?_
      refine lv_goto (tgt := 26) hx hb dX2_isInWindow_22 (by decide) ?_
      cases h
      exact pw_zret hx hb hr hlocks hAe (by decide) hQ hP hD hS dX2_isInWindow_26
def fX2_timesInWindow_L18 (row : Nat → Int32) (len : Int32) (a1 : Int32) (y3 : Int32) : Nat → Int32 → Int32 → Option Int32
  | 0, _, _ => none
  | n + 1, v4_18, v5_18 =>
    if y3 ≤ v5_18 then
    some v4_18
    else
    (fX2_signAt row len v5_18).bind fun x4 =>
    if x4 = a1 then
    fX2_timesInWindow_L18 row len a1 y3 n (v4_18 + 1) (v5_18 + 1)
    else
    fX2_timesInWindow_L18 row len a1 y3 n v4_18 (v5_18 + 1)
def fX2_timesInWindow (row : Nat → Int32) (set : Nat → Int32) (len : Int32) (a1 : Int32) : Option Int32 :=
  (fX2_windowStart set).bind fun x1 =>
  (fX2_windowPlaces set len).bind fun x2 =>
  (fX2_timesInWindow_L18 row len a1 (x1 + x2) FU 0 x1).bind fun x5 =>
  some x5
abbrev rmX2_timesInWindow : Room := { frames := 3, cells := 0, slots := 0, locals := 63 }
set_option maxHeartbeats 4000000 in
set_option maxRecDepth 100000 in
theorem mX2_timesInWindow (l : Launch) (D : va_G) (cI cO cJ : ClassId) (h2 h2_row h2_ten h2_pha h2_set : Nat) (sz : Nat) (row : Nat → Int32) (ten : Nat → Int32) (pha : Nat → Int32) (set : Nat → Int32) (len : Int32) (kep : Int32) (a1 : Int32) (z : Int32) (h : fX2_timesInWindow row set len a1 = some z) : Met l yX2_timesInWindow wsX2_timesInWindow rmX2_timesInWindow (pw_pre D (tyL cI cO cJ) [.ref h2, .int a1] [(h2, .inr (2, [.ref h2_row, .ref h2_ten, .ref h2_pha, .ref h2_set, .int len, .int kep])), (h2_row, .inl (cI, 240, .inl row)), (h2_ten, .inl (cI, 4, .inl ten)), (h2_pha, .inl (cI, 4, .inl pha)), (h2_set, .inl (cI, 3, .inl set))] sz) (pw_i D [(h2, .inr (2, [.ref h2_row, .ref h2_ten, .ref h2_pha, .ref h2_set, .int len, .int kep])), (h2_row, .inl (cI, 240, .inl row)), (h2_ten, .inl (cI, 4, .inl ten)), (h2_pha, .inl (cI, 4, .inl pha)), (h2_set, .inl (cI, 3, .inl set))] [(h2, .inr (2, [.ref h2_row, .ref h2_ten, .ref h2_pha, .ref h2_set, .int len, .int kep])), (h2_row, .inl (cI, 240, .inl row)), (h2_ten, .inl (cI, 4, .inl ten)), (h2_pha, .inl (cI, 4, .inl pha)), (h2_set, .inl (cI, 3, .inl set))] z sz) 0 0 (va_A [(h2, .inr (2, [.ref h2_row, .ref h2_ten, .ref h2_pha, .ref h2_set, .int len, .int kep])), (h2_row, .inl (cI, 240, .inl row)), (h2_ten, .inl (cI, 4, .inl ten)), (h2_pha, .inl (cI, 4, .inl pha)), (h2_set, .inl (cI, 3, .inl set))] sz) := by
  refine pw_of (Qc := fun sz => pw_i D [(h2, .inr (2, [.ref h2_row, .ref h2_ten, .ref h2_pha, .ref h2_set, .int len, .int kep])), (h2_row, .inl (cI, 240, .inl row)), (h2_ten, .inl (cI, 4, .inl ten)), (h2_pha, .inl (cI, 4, .inl pha)), (h2_set, .inl (cI, 3, .inl set))] [(h2, .inr (2, [.ref h2_row, .ref h2_ten, .ref h2_pha, .ref h2_set, .int len, .int kep])), (h2_row, .inl (cI, 240, .inl row)), (h2_ten, .inl (cI, 4, .inl ten)), (h2_pha, .inl (cI, 4, .inl pha)), (h2_set, .inl (cI, 3, .inl set))] z sz) (cc := cX2_timesInWindow) (maxL := 6) (ret := (some .int)) (by decide) rfl (Nat.le_of_ble_eq_true rfl) ?_
  intro p e s m args below meth c A Q H ls hx hb hml hr hts hown hlocks hAe hQ hK hN hA hP hD hS hl
  have hown : s.vm.findClass RX2 = some m.cls := hown
  have hl : lv_has ls 6 [(0, .ref h2), (1, .int a1)] := hl
  have hP : va_P D vwCl ([(h2, .inr (2, [.ref h2_row, .ref h2_ten, .ref h2_pha, .ref h2_set, .int len, .int kep])), (h2_row, .inl (cI, 240, .inl row)), (h2_ten, .inl (cI, 4, .inl ten)), (h2_pha, .inl (cI, 4, .inl pha)), (h2_set, .inl (cI, 3, .inl set))] ++ []) H := hP
  have hD : va_D A ([(h2, .inr (2, [.ref h2_row, .ref h2_ten, .ref h2_pha, .ref h2_set, .int len, .int kep])), (h2_row, .inl (cI, 240, .inl row)), (h2_ten, .inl (cI, 4, .inl ten)), (h2_pha, .inl (cI, 4, .inl pha)), (h2_set, .inl (cI, 3, .inl set))] ++ []) := hD
  unfold fX2_timesInWindow at h
  refine lv_aload_n hx hb dX2_timesInWindow_0 rfl (lv_at hl 0 rfl) ?_
  obtain ⟨x1, hx1, h⟩ := bnd h
  refine pw_goi (wc := [(h2, .inr (2, [.ref h2_row, .ref h2_ten, .ref h2_pha, .ref h2_set, .int len, .int kep])), (h2_row, .inl (cI, 240, .inl row)), (h2_ten, .inl (cI, 4, .inl ten)), (h2_pha, .inl (cI, 4, .inl pha)), (h2_set, .inl (cI, 3, .inl set))]) (w1 := [(h2, .inr (2, [.ref h2_row, .ref h2_ten, .ref h2_pha, .ref h2_set, .int len, .int kep])), (h2_row, .inl (cI, 240, .inl row)), (h2_ten, .inl (cI, 4, .inl ten)), (h2_pha, .inl (cI, 4, .inl pha)), (h2_set, .inl (cI, 3, .inl set))]) (w2 := [(h2, .inr (2, [.ref h2_row, .ref h2_ten, .ref h2_pha, .ref h2_set, .int len, .int kep])), (h2_row, .inl (cI, 240, .inl row)), (h2_ten, .inl (cI, 4, .inl ten)), (h2_pha, .inl (cI, 4, .inl pha)), (h2_set, .inl (cI, 3, .inl set))]) (va_runV (As := []) (rest := []) ⟨hx, hb, hml, hown, hts⟩ (mX2_windowStart l D cI cO cJ h2 h2_row h2_ten h2_pha h2_set H.size row ten pha set len kep _ hx1) (cwV 0 hts gX2_timesInWindow_X2_windowStart rfl rfl rfl (by decide +kernel) ⟨Nat.le_of_ble_eq_true rfl, Nat.le_of_ble_eq_true rfl⟩) (pw_preV hK hN (pw_sub hP [0, 1, 2, 3, 4] rfl) (pw_subD hD [0, 1, 2, 3, 4] (by decide) rfl) (ci := 2) (q0 := 0) rfl rfl) rfl rfl hl.1 rfl (lv_room (Nat.le_of_ble_eq_true rfl)) dX2_timesInWindow_1 ⟨Nat.zero_le _, Nat.zero_le _⟩) hP hD hS hA [0, 1, 2, 3, 4] [] [0, 1, 2, 3, 4] rfl rfl (by decide) (by decide) (by decide) rfl (fun H locs hP hD hS => ?_)
  refine lv_istore_n (lv' := [(2, .int x1), (0, .ref h2), (1, .int a1)]) hx hb dX2_timesInWindow_4 rfl hl (by decide) rfl (fun ls hl => ?_)
  refine lv_iload_n hx hb dX2_timesInWindow_5 rfl (lv_at hl 0 rfl) ?_
  refine lv_aload_n hx hb dX2_timesInWindow_6 rfl (lv_at hl 1 rfl) ?_
  obtain ⟨x2, hx2, h⟩ := bnd h
  refine pw_goi (wc := [(h2, .inr (2, [.ref h2_row, .ref h2_ten, .ref h2_pha, .ref h2_set, .int len, .int kep])), (h2_row, .inl (cI, 240, .inl row)), (h2_ten, .inl (cI, 4, .inl ten)), (h2_pha, .inl (cI, 4, .inl pha)), (h2_set, .inl (cI, 3, .inl set))]) (w1 := [(h2, .inr (2, [.ref h2_row, .ref h2_ten, .ref h2_pha, .ref h2_set, .int len, .int kep])), (h2_row, .inl (cI, 240, .inl row)), (h2_ten, .inl (cI, 4, .inl ten)), (h2_pha, .inl (cI, 4, .inl pha)), (h2_set, .inl (cI, 3, .inl set))]) (w2 := [(h2, .inr (2, [.ref h2_row, .ref h2_ten, .ref h2_pha, .ref h2_set, .int len, .int kep])), (h2_row, .inl (cI, 240, .inl row)), (h2_ten, .inl (cI, 4, .inl ten)), (h2_pha, .inl (cI, 4, .inl pha)), (h2_set, .inl (cI, 3, .inl set))]) (va_runV (As := []) (rest := [.int x1]) ⟨hx, hb, hml, hown, hts⟩ (mX2_windowPlaces l D cI cO cJ h2 h2_row h2_ten h2_pha h2_set H.size row ten pha set len kep _ hx2) (cwV 0 hts gX2_timesInWindow_X2_windowPlaces rfl rfl rfl (by decide +kernel) ⟨Nat.le_of_ble_eq_true rfl, Nat.le_of_ble_eq_true rfl⟩) (pw_preV hK hN (pw_sub hP [0, 1, 2, 3, 4] rfl) (pw_subD hD [0, 1, 2, 3, 4] (by decide) rfl) (ci := 2) (q0 := 0) rfl rfl) rfl rfl hl.1 rfl (lv_room (Nat.le_of_ble_eq_true rfl)) dX2_timesInWindow_7 ⟨Nat.zero_le _, Nat.zero_le _⟩) hP hD hS hA [0, 1, 2, 3, 4] [] [0, 1, 2, 3, 4] rfl rfl (by decide) (by decide) (by decide) rfl (fun H locs hP hD hS => ?_)
  refine lv_iadd hx hb dX2_timesInWindow_10 ?_
  refine lv_istore_n (lv' := [(3, .int (x1 + x2)), (2, .int x1), (0, .ref h2), (1, .int a1)]) hx hb dX2_timesInWindow_11 rfl hl (by decide) rfl (fun ls hl => ?_)
  refine lv_iconst (v := 0) hx hb dX2_timesInWindow_12 (by decide) ?_
  refine lv_istore (lv' := [(4, .int 0), (3, .int (x1 + x2)), (2, .int x1), (0, .ref h2), (1, .int a1)]) hx hb dX2_timesInWindow_13 hl (by decide) rfl (fun ls hl => ?_)
  refine lv_iload_n hx hb dX2_timesInWindow_15 rfl (lv_at hl 2 rfl) ?_
  refine lv_istore (lv' := [(5, .int x1), (4, .int 0), (3, .int (x1 + x2)), (2, .int x1), (0, .ref h2), (1, .int a1)]) hx hb dX2_timesInWindow_16 hl (by decide) rfl (fun ls hl => ?_)
  generalize hgy3 : (x1 + x2) = y3 at h hP hD hl ⊢
  have L18 : ∀ (n : Nat) (v4_18 : Int32) (v5_18 : Int32) (o18_1 : Int32) (H : Heap) (locs : List Loc) (ls : Array Slot), fX2_timesInWindow_L18 row len a1 y3 n v4_18 v5_18 = some o18_1 → va_P D vwCl ([(h2, .inr (2, [.ref h2_row, .ref h2_ten, .ref h2_pha, .ref h2_set, .int len, .int kep])), (h2_row, .inl (cI, 240, .inl row)), (h2_ten, .inl (cI, 4, .inl ten)), (h2_pha, .inl (cI, 4, .inl pha)), (h2_set, .inl (cI, 3, .inl set))] ++ []) H → va_D A ([(h2, .inr (2, [.ref h2_row, .ref h2_ten, .ref h2_pha, .ref h2_set, .int len, .int kep])), (h2_row, .inl (cI, 240, .inl row)), (h2_ten, .inl (cI, 4, .inl ten)), (h2_pha, .inl (cI, 4, .inl pha)), (h2_set, .inl (cI, 3, .inl set))] ++ []) → va_S A s.heap H locs → lv_has ls 6 [(0, .ref h2), (1, .int a1), (3, .int y3), (4, .int v4_18), (5, .int v5_18)] → (∀ (H : Heap) (locs : List Loc) (ls : Array Slot), va_P D vwCl ([(h2, .inr (2, [.ref h2_row, .ref h2_ten, .ref h2_pha, .ref h2_set, .int len, .int kep])), (h2_row, .inl (cI, 240, .inl row)), (h2_ten, .inl (cI, 4, .inl ten)), (h2_pha, .inl (cI, 4, .inl pha)), (h2_set, .inl (cI, 3, .inl set))] ++ []) H → va_D A ([(h2, .inr (2, [.ref h2_row, .ref h2_ten, .ref h2_pha, .ref h2_set, .int len, .int kep])), (h2_row, .inl (cI, 240, .inl row)), (h2_ten, .inl (cI, 4, .inl ten)), (h2_pha, .inl (cI, 4, .inl pha)), (h2_set, .inl (cI, 3, .inl set))] ++ []) → va_S A s.heap H locs → lv_has ls 6 [(4, .int o18_1)] → W p l e rmX2_timesInWindow s m args below meth c H locs 0 0 Q (F0 m 43 ls [])) → W p l e rmX2_timesInWindow s m args below meth c H locs 0 0 Q (F0 m 18 ls []) := by
    intro n
    induction n with
    | zero =>
      intro v4_18 v5_18 o18_1 H locs ls h
      rw [fX2_timesInWindow_L18] at h
      cases h
    | succ n ih =>
      intro v4_18 v5_18 o18_1 H locs ls h hP hD hS hl K
      rw [fX2_timesInWindow_L18] at h
      refine lv_iload hx hb dX2_timesInWindow_18 (lv_at hl 4 rfl) ?_
      refine lv_iload_n hx hb dX2_timesInWindow_20 rfl (lv_at hl 2 rfl) ?_
      refine lv_icmp_ge (tgt := 43) hx hb dX2_timesInWindow_21 (by decide) (fun cq => ?_) (fun cq => ?_)
      · replace h := ifp cq h
        cases h
        exact K _ _ _ hP hD hS (lv_sub hl [3] rfl)
      · replace h := ifn cq h
        refine lv_aload_n hx hb dX2_timesInWindow_24 rfl (lv_at hl 0 rfl) ?_
        refine lv_iload hx hb dX2_timesInWindow_25 (lv_at hl 4 rfl) ?_
        obtain ⟨x4, hx4, h⟩ := bnd h
        refine pw_goi (wc := [(h2, .inr (2, [.ref h2_row, .ref h2_ten, .ref h2_pha, .ref h2_set, .int len, .int kep])), (h2_row, .inl (cI, 240, .inl row)), (h2_ten, .inl (cI, 4, .inl ten)), (h2_pha, .inl (cI, 4, .inl pha)), (h2_set, .inl (cI, 3, .inl set))]) (w1 := [(h2, .inr (2, [.ref h2_row, .ref h2_ten, .ref h2_pha, .ref h2_set, .int len, .int kep])), (h2_row, .inl (cI, 240, .inl row)), (h2_ten, .inl (cI, 4, .inl ten)), (h2_pha, .inl (cI, 4, .inl pha)), (h2_set, .inl (cI, 3, .inl set))]) (w2 := [(h2, .inr (2, [.ref h2_row, .ref h2_ten, .ref h2_pha, .ref h2_set, .int len, .int kep])), (h2_row, .inl (cI, 240, .inl row)), (h2_ten, .inl (cI, 4, .inl ten)), (h2_pha, .inl (cI, 4, .inl pha)), (h2_set, .inl (cI, 3, .inl set))]) (va_runV (As := [.int v5_18]) (rest := []) ⟨hx, hb, hml, hown, hts⟩ (mX2_signAt l D cI cO cJ h2 h2_row h2_ten h2_pha h2_set H.size row ten pha set len kep v5_18 _ hx4) (cwV 1 hts gX2_timesInWindow_X2_signAt rfl rfl rfl (by decide +kernel) ⟨Nat.le_of_ble_eq_true rfl, Nat.le_of_ble_eq_true rfl⟩) (pw_preV hK hN (pw_sub hP [0, 1, 2, 3, 4] rfl) (pw_subD hD [0, 1, 2, 3, 4] (by decide) rfl) (ci := 2) (q0 := 0) rfl rfl) rfl rfl hl.1 rfl (lv_room (Nat.le_of_ble_eq_true rfl)) dX2_timesInWindow_27 ⟨Nat.zero_le _, Nat.zero_le _⟩) hP hD hS hA [0, 1, 2, 3, 4] [] [0, 1, 2, 3, 4] rfl rfl (by decide) (by decide) (by decide) rfl (fun H locs hP hD hS => ?_)
        refine lv_iload_n hx hb dX2_timesInWindow_30 rfl (lv_at hl 1 rfl) ?_
        refine lv_icmp_ne (tgt := 37) hx hb dX2_timesInWindow_31 (by decide) (fun cq => ?_) (fun cq => ?_)
        · replace h := ifn cq h
          refine lv_iinc (v := (v5_18 + 1)) (lv' := [(5, .int (v5_18 + 1)), (0, .ref h2), (1, .int a1), (3, .int y3), (4, .int v4_18)]) hx hb dX2_timesInWindow_37 hl (k := 4) rfl rfl (by decide) rfl (fun ls hl => ?_)
          refine lv_goto (tgt := 18) hx hb dX2_timesInWindow_40 (by decide) ?_
          exact ih _ _ _ _ _ _ h hP hD hS (lv_sub hl [1, 2, 3, 4, 0] rfl) K
        · replace h := ifp cq h
          refine lv_iinc (v := (v4_18 + 1)) (lv' := [(4, .int (v4_18 + 1)), (0, .ref h2), (1, .int a1), (3, .int y3), (5, .int v5_18)]) hx hb dX2_timesInWindow_34 hl (k := 3) rfl rfl (by decide) rfl (fun ls hl => ?_)
          refine lv_iinc (v := (v5_18 + 1)) (lv' := [(5, .int (v5_18 + 1)), (4, .int (v4_18 + 1)), (0, .ref h2), (1, .int a1), (3, .int y3)]) hx hb dX2_timesInWindow_37 hl (k := 4) rfl rfl (by decide) rfl (fun ls hl => ?_)
          refine lv_goto (tgt := 18) hx hb dX2_timesInWindow_40 (by decide) ?_
          exact ih _ _ _ _ _ _ h hP hD hS (lv_sub hl [2, 3, 4, 1, 0] rfl) K
  obtain ⟨x5, hx5, h⟩ := bnd h
  refine L18 FU _ _ _ _ _ _ hx5 hP hD hS (lv_sub hl [4, 5, 2, 1, 0] rfl) (fun H locs ls hP hD hS hl => ?_)
  refine lv_iload hx hb dX2_timesInWindow_43 (lv_at hl 0 rfl) ?_
  cases h
  exact pw_iret hx hb hr hlocks hAe hQ hP hD hS dX2_timesInWindow_45
def fX2_commonSign_L6 (row : Nat → Int32) (set : Nat → Int32) (len : Int32) : Nat → Int32 → Int32 → Int32 → Option Int32
  | 0, _, _, _ => none
  | n + 1, v1_6, v2_6, v3_6 =>
    if 4 ≤ v3_6 then
    some v1_6
    else
    (fX2_timesInWindow row set len v3_6).bind fun x1 =>
    if x1 ≤ v2_6 then
    fX2_commonSign_L6 row set len n v1_6 v2_6 (v3_6 + 1)
    else
    fX2_commonSign_L6 row set len n v3_6 x1 (v3_6 + 1)
def fX2_commonSign (row : Nat → Int32) (set : Nat → Int32) (len : Int32) : Option Int32 :=
  (fX2_commonSign_L6 row set len FU (-1) 0 0).bind fun x2 =>
  some x2
abbrev rmX2_commonSign : Room := { frames := 4, cells := 0, slots := 0, locals := 88 }
set_option maxHeartbeats 4000000 in
set_option maxRecDepth 100000 in
theorem mX2_commonSign (l : Launch) (D : va_G) (cI cO cJ : ClassId) (h2 h2_row h2_ten h2_pha h2_set : Nat) (sz : Nat) (row : Nat → Int32) (ten : Nat → Int32) (pha : Nat → Int32) (set : Nat → Int32) (len : Int32) (kep : Int32) (z : Int32) (h : fX2_commonSign row set len = some z) : Met l yX2_commonSign wsX2_commonSign rmX2_commonSign (pw_pre D (tyL cI cO cJ) [.ref h2] [(h2, .inr (2, [.ref h2_row, .ref h2_ten, .ref h2_pha, .ref h2_set, .int len, .int kep])), (h2_row, .inl (cI, 240, .inl row)), (h2_ten, .inl (cI, 4, .inl ten)), (h2_pha, .inl (cI, 4, .inl pha)), (h2_set, .inl (cI, 3, .inl set))] sz) (pw_i D [(h2, .inr (2, [.ref h2_row, .ref h2_ten, .ref h2_pha, .ref h2_set, .int len, .int kep])), (h2_row, .inl (cI, 240, .inl row)), (h2_ten, .inl (cI, 4, .inl ten)), (h2_pha, .inl (cI, 4, .inl pha)), (h2_set, .inl (cI, 3, .inl set))] [(h2, .inr (2, [.ref h2_row, .ref h2_ten, .ref h2_pha, .ref h2_set, .int len, .int kep])), (h2_row, .inl (cI, 240, .inl row)), (h2_ten, .inl (cI, 4, .inl ten)), (h2_pha, .inl (cI, 4, .inl pha)), (h2_set, .inl (cI, 3, .inl set))] z sz) 0 0 (va_A [(h2, .inr (2, [.ref h2_row, .ref h2_ten, .ref h2_pha, .ref h2_set, .int len, .int kep])), (h2_row, .inl (cI, 240, .inl row)), (h2_ten, .inl (cI, 4, .inl ten)), (h2_pha, .inl (cI, 4, .inl pha)), (h2_set, .inl (cI, 3, .inl set))] sz) := by
  refine pw_of (Qc := fun sz => pw_i D [(h2, .inr (2, [.ref h2_row, .ref h2_ten, .ref h2_pha, .ref h2_set, .int len, .int kep])), (h2_row, .inl (cI, 240, .inl row)), (h2_ten, .inl (cI, 4, .inl ten)), (h2_pha, .inl (cI, 4, .inl pha)), (h2_set, .inl (cI, 3, .inl set))] [(h2, .inr (2, [.ref h2_row, .ref h2_ten, .ref h2_pha, .ref h2_set, .int len, .int kep])), (h2_row, .inl (cI, 240, .inl row)), (h2_ten, .inl (cI, 4, .inl ten)), (h2_pha, .inl (cI, 4, .inl pha)), (h2_set, .inl (cI, 3, .inl set))] z sz) (cc := cX2_commonSign) (maxL := 5) (ret := (some .int)) (by decide) rfl (Nat.le_of_ble_eq_true rfl) ?_
  intro p e s m args below meth c A Q H ls hx hb hml hr hts hown hlocks hAe hQ hK hN hA hP hD hS hl
  have hown : s.vm.findClass RX2 = some m.cls := hown
  have hl : lv_has ls 5 [(0, .ref h2)] := hl
  have hP : va_P D vwCl ([(h2, .inr (2, [.ref h2_row, .ref h2_ten, .ref h2_pha, .ref h2_set, .int len, .int kep])), (h2_row, .inl (cI, 240, .inl row)), (h2_ten, .inl (cI, 4, .inl ten)), (h2_pha, .inl (cI, 4, .inl pha)), (h2_set, .inl (cI, 3, .inl set))] ++ []) H := hP
  have hD : va_D A ([(h2, .inr (2, [.ref h2_row, .ref h2_ten, .ref h2_pha, .ref h2_set, .int len, .int kep])), (h2_row, .inl (cI, 240, .inl row)), (h2_ten, .inl (cI, 4, .inl ten)), (h2_pha, .inl (cI, 4, .inl pha)), (h2_set, .inl (cI, 3, .inl set))] ++ []) := hD
  unfold fX2_commonSign at h
  refine lv_iconst (v := (-1)) hx hb dX2_commonSign_0 (by decide) ?_
  refine lv_istore_n (lv' := [(1, .int (-1)), (0, .ref h2)]) hx hb dX2_commonSign_1 rfl hl (by decide) rfl (fun ls hl => ?_)
  refine lv_iconst (v := 0) hx hb dX2_commonSign_2 (by decide) ?_
  refine lv_istore_n (lv' := [(2, .int 0), (1, .int (-1)), (0, .ref h2)]) hx hb dX2_commonSign_3 rfl hl (by decide) rfl (fun ls hl => ?_)
  refine lv_iconst (v := 0) hx hb dX2_commonSign_4 (by decide) ?_
  refine lv_istore_n (lv' := [(3, .int 0), (2, .int 0), (1, .int (-1)), (0, .ref h2)]) hx hb dX2_commonSign_5 rfl hl (by decide) rfl (fun ls hl => ?_)
  have L6 : ∀ (n : Nat) (v1_6 : Int32) (v2_6 : Int32) (v3_6 : Int32) (o6_1 : Int32) (H : Heap) (locs : List Loc) (ls : Array Slot), fX2_commonSign_L6 row set len n v1_6 v2_6 v3_6 = some o6_1 → va_P D vwCl ([(h2, .inr (2, [.ref h2_row, .ref h2_ten, .ref h2_pha, .ref h2_set, .int len, .int kep])), (h2_row, .inl (cI, 240, .inl row)), (h2_ten, .inl (cI, 4, .inl ten)), (h2_pha, .inl (cI, 4, .inl pha)), (h2_set, .inl (cI, 3, .inl set))] ++ []) H → va_D A ([(h2, .inr (2, [.ref h2_row, .ref h2_ten, .ref h2_pha, .ref h2_set, .int len, .int kep])), (h2_row, .inl (cI, 240, .inl row)), (h2_ten, .inl (cI, 4, .inl ten)), (h2_pha, .inl (cI, 4, .inl pha)), (h2_set, .inl (cI, 3, .inl set))] ++ []) → va_S A s.heap H locs → lv_has ls 5 [(0, .ref h2), (1, .int v1_6), (2, .int v2_6), (3, .int v3_6)] → (∀ (H : Heap) (locs : List Loc) (ls : Array Slot), va_P D vwCl ([(h2, .inr (2, [.ref h2_row, .ref h2_ten, .ref h2_pha, .ref h2_set, .int len, .int kep])), (h2_row, .inl (cI, 240, .inl row)), (h2_ten, .inl (cI, 4, .inl ten)), (h2_pha, .inl (cI, 4, .inl pha)), (h2_set, .inl (cI, 3, .inl set))] ++ []) H → va_D A ([(h2, .inr (2, [.ref h2_row, .ref h2_ten, .ref h2_pha, .ref h2_set, .int len, .int kep])), (h2_row, .inl (cI, 240, .inl row)), (h2_ten, .inl (cI, 4, .inl ten)), (h2_pha, .inl (cI, 4, .inl pha)), (h2_set, .inl (cI, 3, .inl set))] ++ []) → va_S A s.heap H locs → lv_has ls 5 [(1, .int o6_1)] → W p l e rmX2_commonSign s m args below meth c H locs 0 0 Q (F0 m 35 ls [])) → W p l e rmX2_commonSign s m args below meth c H locs 0 0 Q (F0 m 6 ls []) := by
    intro n
    induction n with
    | zero =>
      intro v1_6 v2_6 v3_6 o6_1 H locs ls h
      rw [fX2_commonSign_L6] at h
      cases h
    | succ n ih =>
      intro v1_6 v2_6 v3_6 o6_1 H locs ls h hP hD hS hl K
      rw [fX2_commonSign_L6] at h
      refine lv_iload_n hx hb dX2_commonSign_6 rfl (lv_at hl 3 rfl) ?_
      refine lv_iconst (v := 4) hx hb dX2_commonSign_7 (by decide) ?_
      refine lv_icmp_ge (tgt := 35) hx hb dX2_commonSign_8 (by decide) (fun cq => ?_) (fun cq => ?_)
      · replace h := ifp cq h
        cases h
        exact K _ _ _ hP hD hS (lv_sub hl [1] rfl)
      · replace h := ifn cq h
        refine lv_aload_n hx hb dX2_commonSign_11 rfl (lv_at hl 0 rfl) ?_
        refine lv_iload_n hx hb dX2_commonSign_12 rfl (lv_at hl 3 rfl) ?_
        obtain ⟨x1, hx1, h⟩ := bnd h
        refine pw_goi (wc := [(h2, .inr (2, [.ref h2_row, .ref h2_ten, .ref h2_pha, .ref h2_set, .int len, .int kep])), (h2_row, .inl (cI, 240, .inl row)), (h2_ten, .inl (cI, 4, .inl ten)), (h2_pha, .inl (cI, 4, .inl pha)), (h2_set, .inl (cI, 3, .inl set))]) (w1 := [(h2, .inr (2, [.ref h2_row, .ref h2_ten, .ref h2_pha, .ref h2_set, .int len, .int kep])), (h2_row, .inl (cI, 240, .inl row)), (h2_ten, .inl (cI, 4, .inl ten)), (h2_pha, .inl (cI, 4, .inl pha)), (h2_set, .inl (cI, 3, .inl set))]) (w2 := [(h2, .inr (2, [.ref h2_row, .ref h2_ten, .ref h2_pha, .ref h2_set, .int len, .int kep])), (h2_row, .inl (cI, 240, .inl row)), (h2_ten, .inl (cI, 4, .inl ten)), (h2_pha, .inl (cI, 4, .inl pha)), (h2_set, .inl (cI, 3, .inl set))]) (va_runV (As := [.int v3_6]) (rest := []) ⟨hx, hb, hml, hown, hts⟩ (mX2_timesInWindow l D cI cO cJ h2 h2_row h2_ten h2_pha h2_set H.size row ten pha set len kep v3_6 _ hx1) (cwV 1 hts gX2_commonSign_X2_timesInWindow rfl rfl rfl (by decide +kernel) ⟨Nat.le_of_ble_eq_true rfl, Nat.le_of_ble_eq_true rfl⟩) (pw_preV hK hN (pw_sub hP [0, 1, 2, 3, 4] rfl) (pw_subD hD [0, 1, 2, 3, 4] (by decide) rfl) (ci := 2) (q0 := 0) rfl rfl) rfl rfl hl.1 rfl (lv_room (Nat.le_of_ble_eq_true rfl)) dX2_commonSign_13 ⟨Nat.zero_le _, Nat.zero_le _⟩) hP hD hS hA [0, 1, 2, 3, 4] [] [0, 1, 2, 3, 4] rfl rfl (by decide) (by decide) (by decide) rfl (fun H locs hP hD hS => ?_)
        refine lv_istore (lv' := [(4, .int x1), (0, .ref h2), (1, .int v1_6), (2, .int v2_6), (3, .int v3_6)]) hx hb dX2_commonSign_16 hl (by decide) rfl (fun ls hl => ?_)
        refine lv_iload hx hb dX2_commonSign_18 (lv_at hl 0 rfl) ?_
        refine lv_iload_n hx hb dX2_commonSign_20 rfl (lv_at hl 3 rfl) ?_
        refine lv_icmp_le (tgt := 29) hx hb dX2_commonSign_21 (by decide) (fun cq => ?_) (fun cq => ?_)
        · replace h := ifp cq h
          refine lv_iinc (v := (v3_6 + 1)) (lv' := [(3, .int (v3_6 + 1)), (4, .int x1), (0, .ref h2), (1, .int v1_6), (2, .int v2_6)]) hx hb dX2_commonSign_29 hl (k := 4) rfl rfl (by decide) rfl (fun ls hl => ?_)
          refine lv_goto (tgt := 6) hx hb dX2_commonSign_32 (by decide) ?_
          exact ih _ _ _ _ _ _ _ h hP hD hS (lv_sub hl [2, 3, 4, 0] rfl) K
        · replace h := ifn cq h
          refine lv_iload_n hx hb dX2_commonSign_24 rfl (lv_at hl 4 rfl) ?_
          refine lv_istore_n (lv' := [(1, .int v3_6), (4, .int x1), (0, .ref h2), (2, .int v2_6), (3, .int v3_6)]) hx hb dX2_commonSign_25 rfl hl (by decide) rfl (fun ls hl => ?_)
          refine lv_iload hx hb dX2_commonSign_26 (lv_at hl 1 rfl) ?_
          refine lv_istore_n (lv' := [(2, .int x1), (1, .int v3_6), (4, .int x1), (0, .ref h2), (3, .int v3_6)]) hx hb dX2_commonSign_28 rfl hl (by decide) rfl (fun ls hl => ?_)
          refine lv_iinc (v := (v3_6 + 1)) (lv' := [(3, .int (v3_6 + 1)), (2, .int x1), (1, .int v3_6), (4, .int x1), (0, .ref h2)]) hx hb dX2_commonSign_29 hl (k := 4) rfl rfl (by decide) rfl (fun ls hl => ?_)
          refine lv_goto (tgt := 6) hx hb dX2_commonSign_32 (by decide) ?_
          exact ih _ _ _ _ _ _ _ h hP hD hS (lv_sub hl [4, 2, 1, 0] rfl) K
  obtain ⟨x2, hx2, h⟩ := bnd h
  refine L6 FU _ _ _ _ _ _ _ hx2 hP hD hS (lv_sub hl [3, 2, 1, 0] rfl) (fun H locs ls hP hD hS hl => ?_)
  refine lv_iload_n hx hb dX2_commonSign_35 rfl (lv_at hl 0 rfl) ?_
  cases h
  exact pw_iret hx hb hr hlocks hAe hQ hP hD hS dX2_commonSign_36
def fX3_read_L28 (x1 : Int32) (v4_9 : Int32) (x2_1 : Nat → Int32) (x2_2 : Int32) : Nat → Int32 → (Nat → Int32) → Option (Nat → Int32)
  | 0, _, _ => none
  | n + 1, v5_28, str_28 =>
    if x2_2 ≤ v5_28 then
    some str_28
    else
    (fX0_strongSignOf x2_1 v5_28 x1).bind fun x3 =>
    (fX5_lay str_28 160 ((v4_9 * 40) + v5_28) x3).bind fun x4 =>
    fX3_read_L28 x1 v4_9 x2_1 x2_2 n (v5_28 + 1) x4
def fX3_read_L9 (row : Nat → Int32) (ten : Nat → Int32) (pha : Nat → Int32) (set : Nat → Int32) (len : Int32) (kep : Int32) (x1 : Int32) : Nat → Int32 → (Nat → Int32) → (Nat → Int32) → Int32 → Option ((Nat → Int32) × (Nat → Int32) × Int32)
  | 0, _, _, _, _ => none
  | n + 1, v4_9, str_9, cel_9, cls_9 =>
    if kep ≤ v4_9 then
    some (str_9, cel_9, cls_9)
    else
    (fX0_takeKept cel_9 row ten pha set len v4_9).bind fun (x2_1, x2_2) =>
    (fX3_read_L28 x1 v4_9 x2_1 x2_2 FU 0 str_9).bind fun x5 =>
    fX3_read_L9 row ten pha set len kep x1 n (v4_9 + 1) x5 x2_1 x2_2
def fX3_read (str : Nat → Int32) (row : Nat → Int32) (ten : Nat → Int32) (pha : Nat → Int32) (set : Nat → Int32) (len : Int32) (kep : Int32) (cel : Nat → Int32) (cls : Int32) : Option ((Nat → Int32) × (Nat → Int32) × Int32) :=
  (fX2_settingAt set 2).bind fun x1 =>
  (fX3_read_L9 row ten pha set len kep x1 FU 0 str cel cls).bind fun (x6_1, x6_2, x6_3) =>
  some (x6_1, x6_2, x6_3)
abbrev rmX3_read : Room := { frames := 5, cells := 0, slots := 0, locals := 108 }
set_option maxHeartbeats 4000000 in
set_option maxRecDepth 100000 in
theorem mX3_read (l : Launch) (D : va_G) (cI cO cJ : ClassId) (h3 h3_str h2 h2_row h2_ten h2_pha h2_set h0 h0_cel : Nat) (sz : Nat) (str : Nat → Int32) (row : Nat → Int32) (ten : Nat → Int32) (pha : Nat → Int32) (set : Nat → Int32) (len : Int32) (kep : Int32) (cel : Nat → Int32) (cls : Int32) (z : (Nat → Int32) × (Nat → Int32) × Int32) (h : fX3_read str row ten pha set len kep cel cls = some z) : Met l yX3_read wsX3_read rmX3_read (pw_pre D (tyL cI cO cJ) [.ref h3, .ref h2, .ref h0] [(h3, .inr (3, [.ref h3_str])), (h3_str, .inl (cI, 160, .inl str)), (h2, .inr (2, [.ref h2_row, .ref h2_ten, .ref h2_pha, .ref h2_set, .int len, .int kep])), (h2_row, .inl (cI, 240, .inl row)), (h2_ten, .inl (cI, 4, .inl ten)), (h2_pha, .inl (cI, 4, .inl pha)), (h2_set, .inl (cI, 3, .inl set)), (h0, .inr (0, [.ref h0_cel, .int cls])), (h0_cel, .inl (cI, 160, .inl cel))] sz) (pw_v D [(h3, .inr (3, [.ref h3_str])), (h3_str, .inl (cI, 160, .inl str)), (h2, .inr (2, [.ref h2_row, .ref h2_ten, .ref h2_pha, .ref h2_set, .int len, .int kep])), (h2_row, .inl (cI, 240, .inl row)), (h2_ten, .inl (cI, 4, .inl ten)), (h2_pha, .inl (cI, 4, .inl pha)), (h2_set, .inl (cI, 3, .inl set)), (h0, .inr (0, [.ref h0_cel, .int cls])), (h0_cel, .inl (cI, 160, .inl cel))] [(h3, .inr (3, [.ref h3_str])), (h3_str, .inl (cI, 160, .inl z.1)), (h2, .inr (2, [.ref h2_row, .ref h2_ten, .ref h2_pha, .ref h2_set, .int len, .int kep])), (h2_row, .inl (cI, 240, .inl row)), (h2_ten, .inl (cI, 4, .inl ten)), (h2_pha, .inl (cI, 4, .inl pha)), (h2_set, .inl (cI, 3, .inl set)), (h0, .inr (0, [.ref h0_cel, .int z.2.2])), (h0_cel, .inl (cI, 160, .inl z.2.1))] sz) 0 0 (va_A [(h3, .inr (3, [.ref h3_str])), (h3_str, .inl (cI, 160, .inl str)), (h2, .inr (2, [.ref h2_row, .ref h2_ten, .ref h2_pha, .ref h2_set, .int len, .int kep])), (h2_row, .inl (cI, 240, .inl row)), (h2_ten, .inl (cI, 4, .inl ten)), (h2_pha, .inl (cI, 4, .inl pha)), (h2_set, .inl (cI, 3, .inl set)), (h0, .inr (0, [.ref h0_cel, .int cls])), (h0_cel, .inl (cI, 160, .inl cel))] sz) := by
  refine pw_of (Qc := fun sz => pw_v D [(h3, .inr (3, [.ref h3_str])), (h3_str, .inl (cI, 160, .inl str)), (h2, .inr (2, [.ref h2_row, .ref h2_ten, .ref h2_pha, .ref h2_set, .int len, .int kep])), (h2_row, .inl (cI, 240, .inl row)), (h2_ten, .inl (cI, 4, .inl ten)), (h2_pha, .inl (cI, 4, .inl pha)), (h2_set, .inl (cI, 3, .inl set)), (h0, .inr (0, [.ref h0_cel, .int cls])), (h0_cel, .inl (cI, 160, .inl cel))] [(h3, .inr (3, [.ref h3_str])), (h3_str, .inl (cI, 160, .inl z.1)), (h2, .inr (2, [.ref h2_row, .ref h2_ten, .ref h2_pha, .ref h2_set, .int len, .int kep])), (h2_row, .inl (cI, 240, .inl row)), (h2_ten, .inl (cI, 4, .inl ten)), (h2_pha, .inl (cI, 4, .inl pha)), (h2_set, .inl (cI, 3, .inl set)), (h0, .inr (0, [.ref h0_cel, .int z.2.2])), (h0_cel, .inl (cI, 160, .inl z.2.1))] sz) (cc := cX3_read) (maxL := 6) (ret := none) (by decide) rfl (Nat.le_of_ble_eq_true rfl) ?_
  intro p e s m args below meth c A Q H ls hx hb hml hr hts hown hlocks hAe hQ hK hN hA hP hD hS hl
  have hown : s.vm.findClass RX3 = some m.cls := hown
  have hl : lv_has ls 6 [(0, .ref h3), (1, .ref h2), (2, .ref h0)] := hl
  have hP : va_P D vwCl ([(h3, .inr (3, [.ref h3_str])), (h3_str, .inl (cI, 160, .inl str)), (h2, .inr (2, [.ref h2_row, .ref h2_ten, .ref h2_pha, .ref h2_set, .int len, .int kep])), (h2_row, .inl (cI, 240, .inl row)), (h2_ten, .inl (cI, 4, .inl ten)), (h2_pha, .inl (cI, 4, .inl pha)), (h2_set, .inl (cI, 3, .inl set)), (h0, .inr (0, [.ref h0_cel, .int cls])), (h0_cel, .inl (cI, 160, .inl cel))] ++ []) H := hP
  have hD : va_D A ([(h3, .inr (3, [.ref h3_str])), (h3_str, .inl (cI, 160, .inl str)), (h2, .inr (2, [.ref h2_row, .ref h2_ten, .ref h2_pha, .ref h2_set, .int len, .int kep])), (h2_row, .inl (cI, 240, .inl row)), (h2_ten, .inl (cI, 4, .inl ten)), (h2_pha, .inl (cI, 4, .inl pha)), (h2_set, .inl (cI, 3, .inl set)), (h0, .inr (0, [.ref h0_cel, .int cls])), (h0_cel, .inl (cI, 160, .inl cel))] ++ []) := hD
  have iX0 : ∀ w ∈ u_ws RX0 TX0 2, w ∈ wsX3_read := fun _ h => List.mem_cons_of_mem _ (List.mem_append_left _ (List.mem_append_right _ h))
  have iX2 : ∀ w ∈ u_ws RX2 TX2 6, w ∈ wsX3_read := fun _ h => List.mem_cons_of_mem _ (List.mem_append_left _ (List.mem_append_left _ (List.mem_append_right _ h)))
  have iX3 : ∀ w ∈ u_ws RX3 TX3 1, w ∈ wsX3_read := fun _ h => List.mem_cons_of_mem _ (List.mem_append_right _ h)
  unfold fX3_read at h
  refine lv_aload_n hx hb dX3_read_0 rfl (lv_at hl 1 rfl) ?_
  refine lv_iconst (v := 2) hx hb dX3_read_1 (by decide) ?_
  obtain ⟨x1, hx1, h⟩ := bnd h
  refine pw_goi (wc := [(h2, .inr (2, [.ref h2_row, .ref h2_ten, .ref h2_pha, .ref h2_set, .int len, .int kep])), (h2_row, .inl (cI, 240, .inl row)), (h2_ten, .inl (cI, 4, .inl ten)), (h2_pha, .inl (cI, 4, .inl pha)), (h2_set, .inl (cI, 3, .inl set))]) (w1 := [(h2, .inr (2, [.ref h2_row, .ref h2_ten, .ref h2_pha, .ref h2_set, .int len, .int kep])), (h2_row, .inl (cI, 240, .inl row)), (h2_ten, .inl (cI, 4, .inl ten)), (h2_pha, .inl (cI, 4, .inl pha)), (h2_set, .inl (cI, 3, .inl set))]) (w2 := [(h3, .inr (3, [.ref h3_str])), (h3_str, .inl (cI, 160, .inl str)), (h2, .inr (2, [.ref h2_row, .ref h2_ten, .ref h2_pha, .ref h2_set, .int len, .int kep])), (h2_row, .inl (cI, 240, .inl row)), (h2_ten, .inl (cI, 4, .inl ten)), (h2_pha, .inl (cI, 4, .inl pha)), (h2_set, .inl (cI, 3, .inl set)), (h0, .inr (0, [.ref h0_cel, .int cls])), (h0_cel, .inl (cI, 160, .inl cel))]) (va_runV (As := [.int 2]) (rest := []) ⟨hx, hb, hml, hown, hts⟩ (mX2_settingAt l D cI cO cJ h2 h2_row h2_ten h2_pha h2_set H.size row ten pha set len kep 2 _ hx1) (cwV 1 hts gX3_read_X2_settingAt rfl rfl rfl (by decide +kernel) ⟨Nat.le_of_ble_eq_true rfl, Nat.le_of_ble_eq_true rfl⟩) (pw_preV hK hN (pw_sub hP [2, 3, 4, 5, 6] rfl) (pw_subD hD [2, 3, 4, 5, 6] (by decide) rfl) (ci := 2) (q0 := 0) rfl rfl) rfl rfl hl.1 rfl (lv_room (Nat.le_of_ble_eq_true rfl)) dX3_read_2 ⟨Nat.zero_le _, Nat.zero_le _⟩) hP hD hS hA [2, 3, 4, 5, 6] [0, 1, 7, 8] [0, 1, 4, 5, 6, 7, 8, 2, 3] rfl rfl (by decide) (by decide) (by decide) rfl (fun H locs hP hD hS => ?_)
  refine lv_istore_n (lv' := [(3, .int x1), (0, .ref h3), (1, .ref h2), (2, .ref h0)]) hx hb dX3_read_5 rfl hl (by decide) rfl (fun ls hl => ?_)
  refine lv_iconst (v := 0) hx hb dX3_read_6 (by decide) ?_
  refine lv_istore (lv' := [(4, .int 0), (3, .int x1), (0, .ref h3), (1, .ref h2), (2, .ref h0)]) hx hb dX3_read_7 hl (by decide) rfl (fun ls hl => ?_)
  have L9 : ∀ (n : Nat) (v4_9 : Int32) (str_9 : Nat → Int32) (cel_9 : Nat → Int32) (cls_9 : Int32) (o9_1 : Nat → Int32) (o9_2 : Nat → Int32) (o9_3 : Int32) (H : Heap) (locs : List Loc) (ls : Array Slot), fX3_read_L9 row ten pha set len kep x1 n v4_9 str_9 cel_9 cls_9 = some (o9_1, o9_2, o9_3) → va_P D vwCl ([(h3, .inr (3, [.ref h3_str])), (h3_str, .inl (cI, 160, .inl str_9)), (h2, .inr (2, [.ref h2_row, .ref h2_ten, .ref h2_pha, .ref h2_set, .int len, .int kep])), (h2_row, .inl (cI, 240, .inl row)), (h2_ten, .inl (cI, 4, .inl ten)), (h2_pha, .inl (cI, 4, .inl pha)), (h2_set, .inl (cI, 3, .inl set)), (h0, .inr (0, [.ref h0_cel, .int cls_9])), (h0_cel, .inl (cI, 160, .inl cel_9))] ++ []) H → va_D A ([(h3, .inr (3, [.ref h3_str])), (h3_str, .inl (cI, 160, .inl str_9)), (h2, .inr (2, [.ref h2_row, .ref h2_ten, .ref h2_pha, .ref h2_set, .int len, .int kep])), (h2_row, .inl (cI, 240, .inl row)), (h2_ten, .inl (cI, 4, .inl ten)), (h2_pha, .inl (cI, 4, .inl pha)), (h2_set, .inl (cI, 3, .inl set)), (h0, .inr (0, [.ref h0_cel, .int cls_9])), (h0_cel, .inl (cI, 160, .inl cel_9))] ++ []) → va_S A s.heap H locs → lv_has ls 6 [(0, .ref h3), (1, .ref h2), (2, .ref h0), (3, .int x1), (4, .int v4_9)] → (∀ (H : Heap) (locs : List Loc) (ls : Array Slot), va_P D vwCl ([(h3, .inr (3, [.ref h3_str])), (h3_str, .inl (cI, 160, .inl o9_1)), (h2, .inr (2, [.ref h2_row, .ref h2_ten, .ref h2_pha, .ref h2_set, .int len, .int kep])), (h2_row, .inl (cI, 240, .inl row)), (h2_ten, .inl (cI, 4, .inl ten)), (h2_pha, .inl (cI, 4, .inl pha)), (h2_set, .inl (cI, 3, .inl set)), (h0, .inr (0, [.ref h0_cel, .int o9_3])), (h0_cel, .inl (cI, 160, .inl o9_2))] ++ []) H → va_D A ([(h3, .inr (3, [.ref h3_str])), (h3_str, .inl (cI, 160, .inl o9_1)), (h2, .inr (2, [.ref h2_row, .ref h2_ten, .ref h2_pha, .ref h2_set, .int len, .int kep])), (h2_row, .inl (cI, 240, .inl row)), (h2_ten, .inl (cI, 4, .inl ten)), (h2_pha, .inl (cI, 4, .inl pha)), (h2_set, .inl (cI, 3, .inl set)), (h0, .inr (0, [.ref h0_cel, .int o9_3])), (h0_cel, .inl (cI, 160, .inl o9_2))] ++ []) → va_S A s.heap H locs → lv_has ls 6 [] → W p l e rmX3_read s m args below meth c H locs 0 0 Q (F0 m 71 ls [])) → W p l e rmX3_read s m args below meth c H locs 0 0 Q (F0 m 9 ls []) := by
    intro n
    induction n with
    | zero =>
      intro v4_9 str_9 cel_9 cls_9 o9_1 o9_2 o9_3 H locs ls h
      rw [fX3_read_L9] at h
      cases h
    | succ n ih =>
      intro v4_9 str_9 cel_9 cls_9 o9_1 o9_2 o9_3 H locs ls h hP hD hS hl K
      rw [fX3_read_L9] at h
      refine lv_iload hx hb dX3_read_9 (lv_at hl 4 rfl) ?_
      refine lv_aload_n hx hb dX3_read_11 rfl (lv_at hl 1 rfl) ?_
      refine va_getN (D := D) (ci := 2) (v := .int kep) (C := RX2) (T := TX2) (N := 6) hx hb hts iX2 hown hK hP 2 rfl rfl 5 (by decide) (va_Nw.use rfl (hN (.fieldLinkNest RX3 21 "HiddenPeriods$State" "kept" "I" "HiddenPeriods") (by decide +kernel))) (fun _ h9 => h9) rfl dX3_read_12 ?_
      refine lv_icmp_ge (tgt := 71) hx hb dX3_read_15 (by decide) (fun cq => ?_) (fun cq => ?_)
      · replace h := ifp cq h
        cases h
        exact K _ _ _ hP hD hS (lv_sub hl [] rfl)
      · replace h := ifn cq h
        refine lv_aload_n hx hb dX3_read_18 rfl (lv_at hl 2 rfl) ?_
        refine lv_aload_n hx hb dX3_read_19 rfl (lv_at hl 1 rfl) ?_
        refine lv_iload hx hb dX3_read_20 (lv_at hl 4 rfl) ?_
        obtain ⟨⟨x2_1, x2_2⟩, hx2, h⟩ := bnd h
        refine pw_gov (wc := [(h0, .inr (0, [.ref h0_cel, .int cls_9])), (h0_cel, .inl (cI, 160, .inl cel_9)), (h2, .inr (2, [.ref h2_row, .ref h2_ten, .ref h2_pha, .ref h2_set, .int len, .int kep])), (h2_row, .inl (cI, 240, .inl row)), (h2_ten, .inl (cI, 4, .inl ten)), (h2_pha, .inl (cI, 4, .inl pha)), (h2_set, .inl (cI, 3, .inl set))]) (w1 := [(h0, .inr (0, [.ref h0_cel, .int x2_2])), (h0_cel, .inl (cI, 160, .inl x2_1)), (h2, .inr (2, [.ref h2_row, .ref h2_ten, .ref h2_pha, .ref h2_set, .int len, .int kep])), (h2_row, .inl (cI, 240, .inl row)), (h2_ten, .inl (cI, 4, .inl ten)), (h2_pha, .inl (cI, 4, .inl pha)), (h2_set, .inl (cI, 3, .inl set))]) (w2 := [(h3, .inr (3, [.ref h3_str])), (h3_str, .inl (cI, 160, .inl str_9)), (h2, .inr (2, [.ref h2_row, .ref h2_ten, .ref h2_pha, .ref h2_set, .int len, .int kep])), (h2_row, .inl (cI, 240, .inl row)), (h2_ten, .inl (cI, 4, .inl ten)), (h2_pha, .inl (cI, 4, .inl pha)), (h2_set, .inl (cI, 3, .inl set)), (h0, .inr (0, [.ref h0_cel, .int x2_2])), (h0_cel, .inl (cI, 160, .inl x2_1))]) (va_runV (As := [.ref h2, .int v4_9]) (rest := []) ⟨hx, hb, hml, hown, hts⟩ (mX0_takeKept l D cI cO cJ h0 h0_cel h2 h2_row h2_ten h2_pha h2_set H.size cel_9 cls_9 row ten pha set len kep v4_9 _ hx2) (cwV 2 hts gX3_read_X0_takeKept rfl rfl rfl (by decide +kernel) ⟨Nat.le_of_ble_eq_true rfl, Nat.le_of_ble_eq_true rfl⟩) (pw_preV hK hN (pw_sub hP [7, 8, 2, 3, 4, 5, 6] rfl) (pw_subD hD [7, 8, 2, 3, 4, 5, 6] (by decide) rfl) (ci := 0) (q0 := 0) rfl rfl) rfl rfl hl.1 rfl (lv_room (Nat.le_of_ble_eq_true rfl)) dX3_read_22 ⟨Nat.zero_le _, Nat.zero_le _⟩) hP hD hS hA [7, 8, 2, 3, 4, 5, 6] [0, 1] [0, 1, 4, 5, 6, 7, 8, 2, 3] rfl rfl (by decide) (by decide) (by decide) rfl (fun H locs hP hD hS => ?_)
        refine lv_iconst (v := 0) hx hb dX3_read_25 (by decide) ?_
        refine lv_istore (lv' := [(5, .int 0), (0, .ref h3), (1, .ref h2), (2, .ref h0), (3, .int x1), (4, .int v4_9)]) hx hb dX3_read_26 hl (by decide) rfl (fun ls hl => ?_)
        have L28 : ∀ (n : Nat) (v5_28 : Int32) (str_28 : Nat → Int32) (o28_1 : Nat → Int32) (H : Heap) (locs : List Loc) (ls : Array Slot), fX3_read_L28 x1 v4_9 x2_1 x2_2 n v5_28 str_28 = some o28_1 → va_P D vwCl ([(h3, .inr (3, [.ref h3_str])), (h3_str, .inl (cI, 160, .inl str_28)), (h2, .inr (2, [.ref h2_row, .ref h2_ten, .ref h2_pha, .ref h2_set, .int len, .int kep])), (h2_row, .inl (cI, 240, .inl row)), (h2_ten, .inl (cI, 4, .inl ten)), (h2_pha, .inl (cI, 4, .inl pha)), (h2_set, .inl (cI, 3, .inl set)), (h0, .inr (0, [.ref h0_cel, .int x2_2])), (h0_cel, .inl (cI, 160, .inl x2_1))] ++ []) H → va_D A ([(h3, .inr (3, [.ref h3_str])), (h3_str, .inl (cI, 160, .inl str_28)), (h2, .inr (2, [.ref h2_row, .ref h2_ten, .ref h2_pha, .ref h2_set, .int len, .int kep])), (h2_row, .inl (cI, 240, .inl row)), (h2_ten, .inl (cI, 4, .inl ten)), (h2_pha, .inl (cI, 4, .inl pha)), (h2_set, .inl (cI, 3, .inl set)), (h0, .inr (0, [.ref h0_cel, .int x2_2])), (h0_cel, .inl (cI, 160, .inl x2_1))] ++ []) → va_S A s.heap H locs → lv_has ls 6 [(0, .ref h3), (1, .ref h2), (2, .ref h0), (3, .int x1), (4, .int v4_9), (5, .int v5_28)] → (∀ (H : Heap) (locs : List Loc) (ls : Array Slot), va_P D vwCl ([(h3, .inr (3, [.ref h3_str])), (h3_str, .inl (cI, 160, .inl o28_1)), (h2, .inr (2, [.ref h2_row, .ref h2_ten, .ref h2_pha, .ref h2_set, .int len, .int kep])), (h2_row, .inl (cI, 240, .inl row)), (h2_ten, .inl (cI, 4, .inl ten)), (h2_pha, .inl (cI, 4, .inl pha)), (h2_set, .inl (cI, 3, .inl set)), (h0, .inr (0, [.ref h0_cel, .int x2_2])), (h0_cel, .inl (cI, 160, .inl x2_1))] ++ []) H → va_D A ([(h3, .inr (3, [.ref h3_str])), (h3_str, .inl (cI, 160, .inl o28_1)), (h2, .inr (2, [.ref h2_row, .ref h2_ten, .ref h2_pha, .ref h2_set, .int len, .int kep])), (h2_row, .inl (cI, 240, .inl row)), (h2_ten, .inl (cI, 4, .inl ten)), (h2_pha, .inl (cI, 4, .inl pha)), (h2_set, .inl (cI, 3, .inl set)), (h0, .inr (0, [.ref h0_cel, .int x2_2])), (h0_cel, .inl (cI, 160, .inl x2_1))] ++ []) → va_S A s.heap H locs → lv_has ls 6 [(0, .ref h3), (1, .ref h2), (2, .ref h0), (3, .int x1), (4, .int v4_9)] → W p l e rmX3_read s m args below meth c H locs 0 0 Q (F0 m 65 ls [])) → W p l e rmX3_read s m args below meth c H locs 0 0 Q (F0 m 28 ls []) := by
          intro n
          induction n with
          | zero =>
            intro v5_28 str_28 o28_1 H locs ls h
            rw [fX3_read_L28] at h
            cases h
          | succ n ih =>
            intro v5_28 str_28 o28_1 H locs ls h hP hD hS hl K
            rw [fX3_read_L28] at h
            refine lv_iload hx hb dX3_read_28 (lv_at hl 5 rfl) ?_
            refine lv_aload_n hx hb dX3_read_30 rfl (lv_at hl 2 rfl) ?_
            refine va_getN (D := D) (ci := 0) (v := .int x2_2) (C := RX0) (T := TX0) (N := 2) hx hb hts iX0 hown hK hP 7 rfl rfl 1 (by decide) (va_Nw.use rfl (hN (.fieldLinkNest RX3 31 "HiddenPeriods$Counts" "classes" "I" "HiddenPeriods") (by decide +kernel))) (fun _ h9 => h9) rfl dX3_read_31 ?_
            refine lv_icmp_ge (tgt := 65) hx hb dX3_read_34 (by decide) (fun cq => ?_) (fun cq => ?_)
            · replace h := ifp cq h
              cases h
              exact K _ _ _ hP hD hS (lv_sub hl [0, 1, 2, 3, 4] rfl)
            · replace h := ifn cq h
              refine lv_aload_n hx hb dX3_read_37 rfl (lv_at hl 0 rfl) ?_
              refine va_get (D := D) (ci := 3) (v := .ref h3_str) (C := RX3) (T := TX3) (N := 1) hx hb hts iX3 hown hK hP 0 rfl rfl 0 (by decide) (hts (.fieldLink RX3 9 "HiddenPeriods$Telling" "strongSigns" "[I") (by decide +kernel)) (fun _ h9 => h9) rfl dX3_read_38 ?_
              refine lv_iload hx hb dX3_read_41 (lv_at hl 4 rfl) ?_
              refine lv_bipush (v := 40) hx hb dX3_read_43 (by decide) ?_
              refine lv_imul hx hb dX3_read_45 ?_
              refine lv_iload hx hb dX3_read_46 (lv_at hl 5 rfl) ?_
              refine lv_iadd hx hb dX3_read_48 ?_
              refine lv_aload_n hx hb dX3_read_49 rfl (lv_at hl 2 rfl) ?_
              refine lv_iload hx hb dX3_read_50 (lv_at hl 5 rfl) ?_
              refine lv_iload_n hx hb dX3_read_52 rfl (lv_at hl 3 rfl) ?_
              obtain ⟨x3, hx3, h⟩ := bnd h
              refine pw_goi (wc := [(h0, .inr (0, [.ref h0_cel, .int x2_2])), (h0_cel, .inl (cI, 160, .inl x2_1))]) (w1 := [(h0, .inr (0, [.ref h0_cel, .int x2_2])), (h0_cel, .inl (cI, 160, .inl x2_1))]) (w2 := [(h3, .inr (3, [.ref h3_str])), (h3_str, .inl (cI, 160, .inl str_28)), (h2, .inr (2, [.ref h2_row, .ref h2_ten, .ref h2_pha, .ref h2_set, .int len, .int kep])), (h2_row, .inl (cI, 240, .inl row)), (h2_ten, .inl (cI, 4, .inl ten)), (h2_pha, .inl (cI, 4, .inl pha)), (h2_set, .inl (cI, 3, .inl set)), (h0, .inr (0, [.ref h0_cel, .int x2_2])), (h0_cel, .inl (cI, 160, .inl x2_1))]) (va_runV (As := [.int v5_28, .int x1]) (rest := [.int ((v4_9 * 40) + v5_28), .ref h3_str]) ⟨hx, hb, hml, hown, hts⟩ (mX0_strongSignOf l D cI cO cJ h0 h0_cel H.size x2_1 x2_2 v5_28 x1 _ hx3) (cwV 2 hts gX3_read_X0_strongSignOf rfl rfl rfl (by decide +kernel) ⟨Nat.le_of_ble_eq_true rfl, Nat.le_of_ble_eq_true rfl⟩) (pw_preV hK hN (pw_sub hP [7, 8] rfl) (pw_subD hD [7, 8] (by decide) rfl) (ci := 0) (q0 := 0) rfl rfl) rfl rfl hl.1 rfl (lv_room (Nat.le_of_ble_eq_true rfl)) dX3_read_53 ⟨Nat.zero_le _, Nat.zero_le _⟩) hP hD hS hA [7, 8] [0, 1, 2, 3, 4, 5, 6] [0, 1, 2, 3, 4, 5, 6, 7, 8] rfl rfl (by decide) (by decide) (by decide) rfl (fun H locs hP hD hS => ?_)
              obtain ⟨x4, hx4, h⟩ := bnd h
              refine pw_gov (wc := [(h3_str, .inl (cI, 160, .inl str_28))]) (w1 := [(h3_str, .inl (cI, 160, .inl x4))]) (w2 := [(h3, .inr (3, [.ref h3_str])), (h3_str, .inl (cI, 160, .inl x4)), (h2, .inr (2, [.ref h2_row, .ref h2_ten, .ref h2_pha, .ref h2_set, .int len, .int kep])), (h2_row, .inl (cI, 240, .inl row)), (h2_ten, .inl (cI, 4, .inl ten)), (h2_pha, .inl (cI, 4, .inl pha)), (h2_set, .inl (cI, 3, .inl set)), (h0, .inr (0, [.ref h0_cel, .int x2_2])), (h0_cel, .inl (cI, 160, .inl x2_1))]) (va_runSN (As := [.ref h3_str, .int ((v4_9 * 40) + v5_28), .int x3]) (rest := []) ⟨hx, hb, hml, hown, hts⟩ (mX5_lay l D cI cO cJ h3_str H.size str_28 160 ((v4_9 * 40) + v5_28) x3 _ hx4) ⟨va_cnB 3 hts gX3_read_X5_lay_n38 rfl rfl rfl (hN (.methodLinkNest RX3 38 yX5_lay "HiddenPeriods") (by decide +kernel)) (hts (.initialized RX5) (by decide +kernel)) (by decide +kernel) ⟨Nat.le_of_ble_eq_true rfl, Nat.le_of_ble_eq_true rfl⟩, (hts (.static yX5_lay) (by decide +kernel)), trivial⟩ (pw_preS hK hN (pw_sub hP [1] rfl) (pw_subD hD [1] (by decide) rfl)) rfl rfl hl.1 rfl (lv_room (Nat.le_of_ble_eq_true rfl)) dX3_read_56 ⟨Nat.zero_le _, Nat.zero_le _⟩) hP hD hS hA [1] [0, 2, 3, 4, 5, 6, 7, 8] [0, 8, 1, 2, 3, 4, 5, 6, 7] rfl rfl (by decide) (by decide) (by decide) rfl (fun H locs hP hD hS => ?_)
              refine lv_iinc (v := (v5_28 + 1)) (lv' := [(5, .int (v5_28 + 1)), (0, .ref h3), (1, .ref h2), (2, .ref h0), (3, .int x1), (4, .int v4_9)]) hx hb dX3_read_59 hl (k := 5) rfl rfl (by decide) rfl (fun ls hl => ?_)
              refine lv_goto (tgt := 28) hx hb dX3_read_62 (by decide) ?_
              exact ih _ _ _ _ _ _ h hP hD hS (lv_sub hl [1, 2, 3, 4, 5, 0] rfl) K
        obtain ⟨x5, hx5, h⟩ := bnd h
        refine L28 FU _ _ _ _ _ _ hx5 hP hD hS (lv_sub hl [1, 2, 3, 4, 5, 0] rfl) (fun H locs ls hP hD hS hl => ?_)
        refine lv_iinc (v := (v4_9 + 1)) (lv' := [(4, .int (v4_9 + 1)), (0, .ref h3), (1, .ref h2), (2, .ref h0), (3, .int x1)]) hx hb dX3_read_65 hl (k := 4) rfl rfl (by decide) rfl (fun ls hl => ?_)
        refine lv_goto (tgt := 9) hx hb dX3_read_68 (by decide) ?_
        exact ih _ _ _ _ _ _ _ _ _ _ h hP hD hS (lv_sub hl [1, 2, 3, 4, 0] rfl) K
  obtain ⟨⟨x6_1, x6_2, x6_3⟩, hx6, h⟩ := bnd h
  refine L9 FU _ _ _ _ _ _ _ _ _ _ hx6 hP hD hS (lv_sub hl [2, 3, 4, 1, 0] rfl) (fun H locs ls hP hD hS hl => ?_)
  cases h
  exact pw_vret hx hb hr hlocks hAe hQ hP hD hS dX3_read_71
def fX3_strongSignBy (str : Nat → Int32) (ten : Nat → Int32) (pha : Nat → Int32) (a2 : Int32) (a3 : Int32) : Option Int32 :=
  (fX2_tenthsAt ten a2).bind fun x1 =>
  (fX2_phaseAt pha a2).bind fun x2 =>
  (fX5_classOf a3 x1 x2).bind fun x3 =>
  (fX5_cellAt str 160 ((a2 * 40) + x3)).bind fun x4 =>
  some x4
abbrev rmX3_strongSignBy : Room := { frames := 2, cells := 0, slots := 0, locals := 42 }
set_option maxHeartbeats 4000000 in
set_option maxRecDepth 100000 in
theorem mX3_strongSignBy (l : Launch) (D : va_G) (cI cO cJ : ClassId) (h3 h3_str h2 h2_row h2_ten h2_pha h2_set : Nat) (sz : Nat) (str : Nat → Int32) (row : Nat → Int32) (ten : Nat → Int32) (pha : Nat → Int32) (set : Nat → Int32) (len : Int32) (kep : Int32) (a2 : Int32) (a3 : Int32) (z : Int32) (h : fX3_strongSignBy str ten pha a2 a3 = some z) : Met l yX3_strongSignBy wsX3_strongSignBy rmX3_strongSignBy (pw_pre D (tyL cI cO cJ) [.ref h3, .ref h2, .int a2, .int a3] [(h3, .inr (3, [.ref h3_str])), (h3_str, .inl (cI, 160, .inl str)), (h2, .inr (2, [.ref h2_row, .ref h2_ten, .ref h2_pha, .ref h2_set, .int len, .int kep])), (h2_row, .inl (cI, 240, .inl row)), (h2_ten, .inl (cI, 4, .inl ten)), (h2_pha, .inl (cI, 4, .inl pha)), (h2_set, .inl (cI, 3, .inl set))] sz) (pw_i D [(h3, .inr (3, [.ref h3_str])), (h3_str, .inl (cI, 160, .inl str)), (h2, .inr (2, [.ref h2_row, .ref h2_ten, .ref h2_pha, .ref h2_set, .int len, .int kep])), (h2_row, .inl (cI, 240, .inl row)), (h2_ten, .inl (cI, 4, .inl ten)), (h2_pha, .inl (cI, 4, .inl pha)), (h2_set, .inl (cI, 3, .inl set))] [(h3, .inr (3, [.ref h3_str])), (h3_str, .inl (cI, 160, .inl str)), (h2, .inr (2, [.ref h2_row, .ref h2_ten, .ref h2_pha, .ref h2_set, .int len, .int kep])), (h2_row, .inl (cI, 240, .inl row)), (h2_ten, .inl (cI, 4, .inl ten)), (h2_pha, .inl (cI, 4, .inl pha)), (h2_set, .inl (cI, 3, .inl set))] z sz) 0 0 (va_A [(h3, .inr (3, [.ref h3_str])), (h3_str, .inl (cI, 160, .inl str)), (h2, .inr (2, [.ref h2_row, .ref h2_ten, .ref h2_pha, .ref h2_set, .int len, .int kep])), (h2_row, .inl (cI, 240, .inl row)), (h2_ten, .inl (cI, 4, .inl ten)), (h2_pha, .inl (cI, 4, .inl pha)), (h2_set, .inl (cI, 3, .inl set))] sz) := by
  refine pw_of (Qc := fun sz => pw_i D [(h3, .inr (3, [.ref h3_str])), (h3_str, .inl (cI, 160, .inl str)), (h2, .inr (2, [.ref h2_row, .ref h2_ten, .ref h2_pha, .ref h2_set, .int len, .int kep])), (h2_row, .inl (cI, 240, .inl row)), (h2_ten, .inl (cI, 4, .inl ten)), (h2_pha, .inl (cI, 4, .inl pha)), (h2_set, .inl (cI, 3, .inl set))] [(h3, .inr (3, [.ref h3_str])), (h3_str, .inl (cI, 160, .inl str)), (h2, .inr (2, [.ref h2_row, .ref h2_ten, .ref h2_pha, .ref h2_set, .int len, .int kep])), (h2_row, .inl (cI, 240, .inl row)), (h2_ten, .inl (cI, 4, .inl ten)), (h2_pha, .inl (cI, 4, .inl pha)), (h2_set, .inl (cI, 3, .inl set))] z sz) (cc := cX3_strongSignBy) (maxL := 5) (ret := (some .int)) (by decide) rfl (Nat.le_of_ble_eq_true rfl) ?_
  intro p e s m args below meth c A Q H ls hx hb hml hr hts hown hlocks hAe hQ hK hN hA hP hD hS hl
  have hown : s.vm.findClass RX3 = some m.cls := hown
  have hl : lv_has ls 5 [(0, .ref h3), (1, .ref h2), (2, .int a2), (3, .int a3)] := hl
  have hP : va_P D vwCl ([(h3, .inr (3, [.ref h3_str])), (h3_str, .inl (cI, 160, .inl str)), (h2, .inr (2, [.ref h2_row, .ref h2_ten, .ref h2_pha, .ref h2_set, .int len, .int kep])), (h2_row, .inl (cI, 240, .inl row)), (h2_ten, .inl (cI, 4, .inl ten)), (h2_pha, .inl (cI, 4, .inl pha)), (h2_set, .inl (cI, 3, .inl set))] ++ []) H := hP
  have hD : va_D A ([(h3, .inr (3, [.ref h3_str])), (h3_str, .inl (cI, 160, .inl str)), (h2, .inr (2, [.ref h2_row, .ref h2_ten, .ref h2_pha, .ref h2_set, .int len, .int kep])), (h2_row, .inl (cI, 240, .inl row)), (h2_ten, .inl (cI, 4, .inl ten)), (h2_pha, .inl (cI, 4, .inl pha)), (h2_set, .inl (cI, 3, .inl set))] ++ []) := hD
  have iX3 : ∀ w ∈ u_ws RX3 TX3 1, w ∈ wsX3_strongSignBy := fun _ h => List.mem_cons_of_mem _ (List.mem_append_left _ (List.mem_append_right _ h))
  unfold fX3_strongSignBy at h
  refine lv_iload_n hx hb dX3_strongSignBy_0 rfl (lv_at hl 3 rfl) ?_
  refine lv_aload_n hx hb dX3_strongSignBy_1 rfl (lv_at hl 1 rfl) ?_
  refine lv_iload_n hx hb dX3_strongSignBy_2 rfl (lv_at hl 2 rfl) ?_
  obtain ⟨x1, hx1, h⟩ := bnd h
  refine pw_goi (wc := [(h2, .inr (2, [.ref h2_row, .ref h2_ten, .ref h2_pha, .ref h2_set, .int len, .int kep])), (h2_row, .inl (cI, 240, .inl row)), (h2_ten, .inl (cI, 4, .inl ten)), (h2_pha, .inl (cI, 4, .inl pha)), (h2_set, .inl (cI, 3, .inl set))]) (w1 := [(h2, .inr (2, [.ref h2_row, .ref h2_ten, .ref h2_pha, .ref h2_set, .int len, .int kep])), (h2_row, .inl (cI, 240, .inl row)), (h2_ten, .inl (cI, 4, .inl ten)), (h2_pha, .inl (cI, 4, .inl pha)), (h2_set, .inl (cI, 3, .inl set))]) (w2 := [(h3, .inr (3, [.ref h3_str])), (h3_str, .inl (cI, 160, .inl str)), (h2, .inr (2, [.ref h2_row, .ref h2_ten, .ref h2_pha, .ref h2_set, .int len, .int kep])), (h2_row, .inl (cI, 240, .inl row)), (h2_ten, .inl (cI, 4, .inl ten)), (h2_pha, .inl (cI, 4, .inl pha)), (h2_set, .inl (cI, 3, .inl set))]) (va_runV (As := [.int a2]) (rest := [.int a3]) ⟨hx, hb, hml, hown, hts⟩ (mX2_tenthsAt l D cI cO cJ h2 h2_row h2_ten h2_pha h2_set H.size row ten pha set len kep a2 _ hx1) (cwV 1 hts gX3_strongSignBy_X2_tenthsAt rfl rfl rfl (by decide +kernel) ⟨Nat.le_of_ble_eq_true rfl, Nat.le_of_ble_eq_true rfl⟩) (pw_preV hK hN (pw_sub hP [2, 3, 4, 5, 6] rfl) (pw_subD hD [2, 3, 4, 5, 6] (by decide) rfl) (ci := 2) (q0 := 0) rfl rfl) rfl rfl hl.1 rfl (lv_room (Nat.le_of_ble_eq_true rfl)) dX3_strongSignBy_3 ⟨Nat.zero_le _, Nat.zero_le _⟩) hP hD hS hA [2, 3, 4, 5, 6] [0, 1] [0, 1, 2, 3, 4, 5, 6] rfl rfl (by decide) (by decide) (by decide) rfl (fun H locs hP hD hS => ?_)
  refine lv_aload_n hx hb dX3_strongSignBy_6 rfl (lv_at hl 1 rfl) ?_
  refine lv_iload_n hx hb dX3_strongSignBy_7 rfl (lv_at hl 2 rfl) ?_
  obtain ⟨x2, hx2, h⟩ := bnd h
  refine pw_goi (wc := [(h2, .inr (2, [.ref h2_row, .ref h2_ten, .ref h2_pha, .ref h2_set, .int len, .int kep])), (h2_row, .inl (cI, 240, .inl row)), (h2_ten, .inl (cI, 4, .inl ten)), (h2_pha, .inl (cI, 4, .inl pha)), (h2_set, .inl (cI, 3, .inl set))]) (w1 := [(h2, .inr (2, [.ref h2_row, .ref h2_ten, .ref h2_pha, .ref h2_set, .int len, .int kep])), (h2_row, .inl (cI, 240, .inl row)), (h2_ten, .inl (cI, 4, .inl ten)), (h2_pha, .inl (cI, 4, .inl pha)), (h2_set, .inl (cI, 3, .inl set))]) (w2 := [(h3, .inr (3, [.ref h3_str])), (h3_str, .inl (cI, 160, .inl str)), (h2, .inr (2, [.ref h2_row, .ref h2_ten, .ref h2_pha, .ref h2_set, .int len, .int kep])), (h2_row, .inl (cI, 240, .inl row)), (h2_ten, .inl (cI, 4, .inl ten)), (h2_pha, .inl (cI, 4, .inl pha)), (h2_set, .inl (cI, 3, .inl set))]) (va_runV (As := [.int a2]) (rest := [.int x1, .int a3]) ⟨hx, hb, hml, hown, hts⟩ (mX2_phaseAt l D cI cO cJ h2 h2_row h2_ten h2_pha h2_set H.size row ten pha set len kep a2 _ hx2) (cwV 1 hts gX3_strongSignBy_X2_phaseAt rfl rfl rfl (by decide +kernel) ⟨Nat.le_of_ble_eq_true rfl, Nat.le_of_ble_eq_true rfl⟩) (pw_preV hK hN (pw_sub hP [2, 3, 4, 5, 6] rfl) (pw_subD hD [2, 3, 4, 5, 6] (by decide) rfl) (ci := 2) (q0 := 0) rfl rfl) rfl rfl hl.1 rfl (lv_room (Nat.le_of_ble_eq_true rfl)) dX3_strongSignBy_8 ⟨Nat.zero_le _, Nat.zero_le _⟩) hP hD hS hA [2, 3, 4, 5, 6] [0, 1] [0, 1, 2, 3, 4, 5, 6] rfl rfl (by decide) (by decide) (by decide) rfl (fun H locs hP hD hS => ?_)
  obtain ⟨x3, hx3, h⟩ := bnd h
  refine pw_go0 (va_runSN (As := [.int a3, .int x1, .int x2]) (rest := []) ⟨hx, hb, hml, hown, hts⟩ (mX5_classOf l D cI cO cJ H.size a3 x1 x2 _ hx3) ⟨va_cnB 3 hts gX3_strongSignBy_X5_classOf_n82 rfl rfl rfl (hN (.methodLinkNest RX3 82 yX5_classOf "HiddenPeriods") (by decide +kernel)) (hts (.initialized RX5) (by decide +kernel)) (by decide +kernel) ⟨Nat.le_of_ble_eq_true rfl, Nat.le_of_ble_eq_true rfl⟩, (hts (.static yX5_classOf) (by decide +kernel)), trivial⟩ (pw_preS hK hN pw_nilP (pw_nilD (A := A))) rfl rfl hl.1 rfl (lv_room (Nat.le_of_ble_eq_true rfl)) dX3_strongSignBy_11 ⟨Nat.zero_le _, Nat.zero_le _⟩) hP hS hA (fun H locs hP hS => ?_)
  refine lv_istore (lv' := [(4, .int x3), (0, .ref h3), (1, .ref h2), (2, .int a2), (3, .int a3)]) hx hb dX3_strongSignBy_14 hl (by decide) rfl (fun ls hl => ?_)
  refine lv_aload_n hx hb dX3_strongSignBy_16 rfl (lv_at hl 1 rfl) ?_
  refine va_get (D := D) (ci := 3) (v := .ref h3_str) (C := RX3) (T := TX3) (N := 1) hx hb hts iX3 hown hK hP 0 rfl rfl 0 (by decide) (hts (.fieldLink RX3 9 "HiddenPeriods$Telling" "strongSigns" "[I") (by decide +kernel)) (fun _ h9 => h9) rfl dX3_strongSignBy_17 ?_
  refine lv_iload_n hx hb dX3_strongSignBy_20 rfl (lv_at hl 3 rfl) ?_
  refine lv_bipush (v := 40) hx hb dX3_strongSignBy_21 (by decide) ?_
  refine lv_imul hx hb dX3_strongSignBy_23 ?_
  refine lv_iload hx hb dX3_strongSignBy_24 (lv_at hl 0 rfl) ?_
  refine lv_iadd hx hb dX3_strongSignBy_26 ?_
  obtain ⟨x4, hx4, h⟩ := bnd h
  refine pw_goi (wc := [(h3_str, .inl (cI, 160, .inl str))]) (w1 := [(h3_str, .inl (cI, 160, .inl str))]) (w2 := [(h3, .inr (3, [.ref h3_str])), (h3_str, .inl (cI, 160, .inl str)), (h2, .inr (2, [.ref h2_row, .ref h2_ten, .ref h2_pha, .ref h2_set, .int len, .int kep])), (h2_row, .inl (cI, 240, .inl row)), (h2_ten, .inl (cI, 4, .inl ten)), (h2_pha, .inl (cI, 4, .inl pha)), (h2_set, .inl (cI, 3, .inl set))]) (va_runSN (As := [.ref h3_str, .int ((a2 * 40) + x3)]) (rest := []) ⟨hx, hb, hml, hown, hts⟩ (mX5_cellAt l D cI cO cJ h3_str H.size str 160 ((a2 * 40) + x3) _ hx4) ⟨va_cnB 2 hts gX3_strongSignBy_X5_cellAt_n86 rfl rfl rfl (hN (.methodLinkNest RX3 86 yX5_cellAt "HiddenPeriods") (by decide +kernel)) (hts (.initialized RX5) (by decide +kernel)) (by decide +kernel) ⟨Nat.le_of_ble_eq_true rfl, Nat.le_of_ble_eq_true rfl⟩, (hts (.static yX5_cellAt) (by decide +kernel)), trivial⟩ (pw_preS hK hN (pw_sub hP [1] rfl) (pw_subD hD [1] (by decide) rfl)) rfl rfl hl.1 rfl (lv_room (Nat.le_of_ble_eq_true rfl)) dX3_strongSignBy_27 ⟨Nat.zero_le _, Nat.zero_le _⟩) hP hD hS hA [1] [0, 2, 3, 4, 5, 6] [0, 6, 1, 2, 3, 4, 5] rfl rfl (by decide) (by decide) (by decide) rfl (fun H locs hP hD hS => ?_)
  cases h
  exact pw_iret hx hb hr hlocks hAe hQ hP hD hS dX3_strongSignBy_30
def fX3_tellerOf_L12 (str : Nat → Int32) (ten : Nat → Int32) (pha : Nat → Int32) (kep : Int32) (a2 : Int32) : Nat → Int32 → Option Int32
  | 0, _ => none
  | n + 1, v3_12 =>
    if kep ≤ v3_12 then
    some (-1)
    else
    (fX3_strongSignBy str ten pha v3_12 a2).bind fun x2 =>
    if x2 = (-1) then
    fX3_tellerOf_L12 str ten pha kep a2 n (v3_12 + 1)
    else
    some v3_12
def fX3_tellerOf (str : Nat → Int32) (ten : Nat → Int32) (pha : Nat → Int32) (set : Nat → Int32) (len : Int32) (kep : Int32) (a2 : Int32) : Option Int32 :=
  (fX2_isInWindow set len a2).bind fun x1 =>
  if x1 = 0 then
  some (-1)
  else
  fX3_tellerOf_L12 str ten pha kep a2 FU 0
abbrev rmX3_tellerOf : Room := { frames := 4, cells := 0, slots := 0, locals := 84 }
set_option maxHeartbeats 4000000 in
set_option maxRecDepth 100000 in
theorem mX3_tellerOf (l : Launch) (D : va_G) (cI cO cJ : ClassId) (h3 h3_str h2 h2_row h2_ten h2_pha h2_set : Nat) (sz : Nat) (str : Nat → Int32) (row : Nat → Int32) (ten : Nat → Int32) (pha : Nat → Int32) (set : Nat → Int32) (len : Int32) (kep : Int32) (a2 : Int32) (z : Int32) (h : fX3_tellerOf str ten pha set len kep a2 = some z) : Met l yX3_tellerOf wsX3_tellerOf rmX3_tellerOf (pw_pre D (tyL cI cO cJ) [.ref h3, .ref h2, .int a2] [(h3, .inr (3, [.ref h3_str])), (h3_str, .inl (cI, 160, .inl str)), (h2, .inr (2, [.ref h2_row, .ref h2_ten, .ref h2_pha, .ref h2_set, .int len, .int kep])), (h2_row, .inl (cI, 240, .inl row)), (h2_ten, .inl (cI, 4, .inl ten)), (h2_pha, .inl (cI, 4, .inl pha)), (h2_set, .inl (cI, 3, .inl set))] sz) (pw_i D [(h3, .inr (3, [.ref h3_str])), (h3_str, .inl (cI, 160, .inl str)), (h2, .inr (2, [.ref h2_row, .ref h2_ten, .ref h2_pha, .ref h2_set, .int len, .int kep])), (h2_row, .inl (cI, 240, .inl row)), (h2_ten, .inl (cI, 4, .inl ten)), (h2_pha, .inl (cI, 4, .inl pha)), (h2_set, .inl (cI, 3, .inl set))] [(h3, .inr (3, [.ref h3_str])), (h3_str, .inl (cI, 160, .inl str)), (h2, .inr (2, [.ref h2_row, .ref h2_ten, .ref h2_pha, .ref h2_set, .int len, .int kep])), (h2_row, .inl (cI, 240, .inl row)), (h2_ten, .inl (cI, 4, .inl ten)), (h2_pha, .inl (cI, 4, .inl pha)), (h2_set, .inl (cI, 3, .inl set))] z sz) 0 0 (va_A [(h3, .inr (3, [.ref h3_str])), (h3_str, .inl (cI, 160, .inl str)), (h2, .inr (2, [.ref h2_row, .ref h2_ten, .ref h2_pha, .ref h2_set, .int len, .int kep])), (h2_row, .inl (cI, 240, .inl row)), (h2_ten, .inl (cI, 4, .inl ten)), (h2_pha, .inl (cI, 4, .inl pha)), (h2_set, .inl (cI, 3, .inl set))] sz) := by
  refine pw_of (Qc := fun sz => pw_i D [(h3, .inr (3, [.ref h3_str])), (h3_str, .inl (cI, 160, .inl str)), (h2, .inr (2, [.ref h2_row, .ref h2_ten, .ref h2_pha, .ref h2_set, .int len, .int kep])), (h2_row, .inl (cI, 240, .inl row)), (h2_ten, .inl (cI, 4, .inl ten)), (h2_pha, .inl (cI, 4, .inl pha)), (h2_set, .inl (cI, 3, .inl set))] [(h3, .inr (3, [.ref h3_str])), (h3_str, .inl (cI, 160, .inl str)), (h2, .inr (2, [.ref h2_row, .ref h2_ten, .ref h2_pha, .ref h2_set, .int len, .int kep])), (h2_row, .inl (cI, 240, .inl row)), (h2_ten, .inl (cI, 4, .inl ten)), (h2_pha, .inl (cI, 4, .inl pha)), (h2_set, .inl (cI, 3, .inl set))] z sz) (cc := cX3_tellerOf) (maxL := 4) (ret := (some .int)) (by decide) rfl (Nat.le_of_ble_eq_true rfl) ?_
  intro p e s m args below meth c A Q H ls hx hb hml hr hts hown hlocks hAe hQ hK hN hA hP hD hS hl
  have hown : s.vm.findClass RX3 = some m.cls := hown
  have hl : lv_has ls 4 [(0, .ref h3), (1, .ref h2), (2, .int a2)] := hl
  have hP : va_P D vwCl ([(h3, .inr (3, [.ref h3_str])), (h3_str, .inl (cI, 160, .inl str)), (h2, .inr (2, [.ref h2_row, .ref h2_ten, .ref h2_pha, .ref h2_set, .int len, .int kep])), (h2_row, .inl (cI, 240, .inl row)), (h2_ten, .inl (cI, 4, .inl ten)), (h2_pha, .inl (cI, 4, .inl pha)), (h2_set, .inl (cI, 3, .inl set))] ++ []) H := hP
  have hD : va_D A ([(h3, .inr (3, [.ref h3_str])), (h3_str, .inl (cI, 160, .inl str)), (h2, .inr (2, [.ref h2_row, .ref h2_ten, .ref h2_pha, .ref h2_set, .int len, .int kep])), (h2_row, .inl (cI, 240, .inl row)), (h2_ten, .inl (cI, 4, .inl ten)), (h2_pha, .inl (cI, 4, .inl pha)), (h2_set, .inl (cI, 3, .inl set))] ++ []) := hD
  have iX2 : ∀ w ∈ u_ws RX2 TX2 6, w ∈ wsX3_tellerOf := fun _ h => List.mem_cons_of_mem _ (List.mem_append_left _ (List.mem_append_right _ h))
  unfold fX3_tellerOf at h
  refine lv_aload_n hx hb dX3_tellerOf_0 rfl (lv_at hl 1 rfl) ?_
  refine lv_iload_n hx hb dX3_tellerOf_1 rfl (lv_at hl 2 rfl) ?_
  obtain ⟨x1, hx1, h⟩ := bnd h
  refine pw_goi (wc := [(h2, .inr (2, [.ref h2_row, .ref h2_ten, .ref h2_pha, .ref h2_set, .int len, .int kep])), (h2_row, .inl (cI, 240, .inl row)), (h2_ten, .inl (cI, 4, .inl ten)), (h2_pha, .inl (cI, 4, .inl pha)), (h2_set, .inl (cI, 3, .inl set))]) (w1 := [(h2, .inr (2, [.ref h2_row, .ref h2_ten, .ref h2_pha, .ref h2_set, .int len, .int kep])), (h2_row, .inl (cI, 240, .inl row)), (h2_ten, .inl (cI, 4, .inl ten)), (h2_pha, .inl (cI, 4, .inl pha)), (h2_set, .inl (cI, 3, .inl set))]) (w2 := [(h3, .inr (3, [.ref h3_str])), (h3_str, .inl (cI, 160, .inl str)), (h2, .inr (2, [.ref h2_row, .ref h2_ten, .ref h2_pha, .ref h2_set, .int len, .int kep])), (h2_row, .inl (cI, 240, .inl row)), (h2_ten, .inl (cI, 4, .inl ten)), (h2_pha, .inl (cI, 4, .inl pha)), (h2_set, .inl (cI, 3, .inl set))]) (va_runV (As := [.int a2]) (rest := []) ⟨hx, hb, hml, hown, hts⟩ (mX2_isInWindow l D cI cO cJ h2 h2_row h2_ten h2_pha h2_set H.size row ten pha set len kep a2 _ hx1) (cwV 1 hts gX3_tellerOf_X2_isInWindow rfl rfl rfl (by decide +kernel) ⟨Nat.le_of_ble_eq_true rfl, Nat.le_of_ble_eq_true rfl⟩) (pw_preV hK hN (pw_sub hP [2, 3, 4, 5, 6] rfl) (pw_subD hD [2, 3, 4, 5, 6] (by decide) rfl) (ci := 2) (q0 := 0) rfl rfl) rfl rfl hl.1 rfl (lv_room (Nat.le_of_ble_eq_true rfl)) dX3_tellerOf_2 ⟨Nat.zero_le _, Nat.zero_le _⟩) hP hD hS hA [2, 3, 4, 5, 6] [0, 1] [0, 1, 2, 3, 4, 5, 6] rfl rfl (by decide) (by decide) (by decide) rfl (fun H locs hP hD hS => ?_)
  refine lv_if_ne (tgt := 10) hx hb dX3_tellerOf_5 (by decide) (fun cq => ?_) (fun cq => ?_)
  · replace h := ifn cq h
    refine lv_iconst (v := 0) hx hb dX3_tellerOf_10 (by decide) ?_
    refine lv_istore_n (lv' := [(3, .int 0), (0, .ref h3), (1, .ref h2), (2, .int a2)]) hx hb dX3_tellerOf_11 rfl hl (by decide) rfl (fun ls hl => ?_)
    have L12 : ∀ (n : Nat) (v3_12 : Int32) (H : Heap) (locs : List Loc) (ls : Array Slot), fX3_tellerOf_L12 str ten pha kep a2 n v3_12 = some z → va_P D vwCl ([(h3, .inr (3, [.ref h3_str])), (h3_str, .inl (cI, 160, .inl str)), (h2, .inr (2, [.ref h2_row, .ref h2_ten, .ref h2_pha, .ref h2_set, .int len, .int kep])), (h2_row, .inl (cI, 240, .inl row)), (h2_ten, .inl (cI, 4, .inl ten)), (h2_pha, .inl (cI, 4, .inl pha)), (h2_set, .inl (cI, 3, .inl set))] ++ []) H → va_D A ([(h3, .inr (3, [.ref h3_str])), (h3_str, .inl (cI, 160, .inl str)), (h2, .inr (2, [.ref h2_row, .ref h2_ten, .ref h2_pha, .ref h2_set, .int len, .int kep])), (h2_row, .inl (cI, 240, .inl row)), (h2_ten, .inl (cI, 4, .inl ten)), (h2_pha, .inl (cI, 4, .inl pha)), (h2_set, .inl (cI, 3, .inl set))] ++ []) → va_S A s.heap H locs → lv_has ls 4 [(0, .ref h3), (1, .ref h2), (2, .int a2), (3, .int v3_12)] → W p l e rmX3_tellerOf s m args below meth c H locs 0 0 Q (F0 m 12 ls []) := by
      intro n
      induction n with
      | zero =>
        intro v3_12 H locs ls h
        rw [fX3_tellerOf_L12] at h
        cases h
      | succ n ih =>
        intro v3_12 H locs ls h hP hD hS hl
        rw [fX3_tellerOf_L12] at h
        refine lv_iload_n hx hb dX3_tellerOf_12 rfl (lv_at hl 3 rfl) ?_
        refine lv_aload_n hx hb dX3_tellerOf_13 rfl (lv_at hl 1 rfl) ?_
        refine va_getN (D := D) (ci := 2) (v := .int kep) (C := RX2) (T := TX2) (N := 6) hx hb hts iX2 hown hK hP 2 rfl rfl 5 (by decide) (va_Nw.use rfl (hN (.fieldLinkNest RX3 21 "HiddenPeriods$State" "kept" "I" "HiddenPeriods") (by decide +kernel))) (fun _ h9 => h9) rfl dX3_tellerOf_14 ?_
        refine lv_icmp_ge (tgt := 39) hx hb dX3_tellerOf_17 (by decide) (fun cq => ?_) (fun cq => ?_)
        · replace h := ifp cq h
          refine lv_iconst (v := (-1)) hx hb dX3_tellerOf_39 (by decide) ?_
          cases h
          exact pw_iret hx hb hr hlocks hAe hQ hP hD hS dX3_tellerOf_40
        · replace h := ifn cq h
          refine lv_aload_n hx hb dX3_tellerOf_20 rfl (lv_at hl 0 rfl) ?_
          refine lv_aload_n hx hb dX3_tellerOf_21 rfl (lv_at hl 1 rfl) ?_
          refine lv_iload_n hx hb dX3_tellerOf_22 rfl (lv_at hl 3 rfl) ?_
          refine lv_iload_n hx hb dX3_tellerOf_23 rfl (lv_at hl 2 rfl) ?_
          obtain ⟨x2, hx2, h⟩ := bnd h
          refine pw_goi (wc := [(h3, .inr (3, [.ref h3_str])), (h3_str, .inl (cI, 160, .inl str)), (h2, .inr (2, [.ref h2_row, .ref h2_ten, .ref h2_pha, .ref h2_set, .int len, .int kep])), (h2_row, .inl (cI, 240, .inl row)), (h2_ten, .inl (cI, 4, .inl ten)), (h2_pha, .inl (cI, 4, .inl pha)), (h2_set, .inl (cI, 3, .inl set))]) (w1 := [(h3, .inr (3, [.ref h3_str])), (h3_str, .inl (cI, 160, .inl str)), (h2, .inr (2, [.ref h2_row, .ref h2_ten, .ref h2_pha, .ref h2_set, .int len, .int kep])), (h2_row, .inl (cI, 240, .inl row)), (h2_ten, .inl (cI, 4, .inl ten)), (h2_pha, .inl (cI, 4, .inl pha)), (h2_set, .inl (cI, 3, .inl set))]) (w2 := [(h3, .inr (3, [.ref h3_str])), (h3_str, .inl (cI, 160, .inl str)), (h2, .inr (2, [.ref h2_row, .ref h2_ten, .ref h2_pha, .ref h2_set, .int len, .int kep])), (h2_row, .inl (cI, 240, .inl row)), (h2_ten, .inl (cI, 4, .inl ten)), (h2_pha, .inl (cI, 4, .inl pha)), (h2_set, .inl (cI, 3, .inl set))]) (va_runV (As := [.ref h2, .int v3_12, .int a2]) (rest := []) ⟨hx, hb, hml, hown, hts⟩ (mX3_strongSignBy l D cI cO cJ h3 h3_str h2 h2_row h2_ten h2_pha h2_set H.size str row ten pha set len kep v3_12 a2 _ hx2) (cwV 3 hts gX3_tellerOf_X3_strongSignBy rfl rfl rfl (by decide +kernel) ⟨Nat.le_of_ble_eq_true rfl, Nat.le_of_ble_eq_true rfl⟩) (pw_preV hK hN (pw_sub hP [0, 1, 2, 3, 4, 5, 6] rfl) (pw_subD hD [0, 1, 2, 3, 4, 5, 6] (by decide) rfl) (ci := 3) (q0 := 0) rfl rfl) rfl rfl hl.1 rfl (lv_room (Nat.le_of_ble_eq_true rfl)) dX3_tellerOf_24 ⟨Nat.zero_le _, Nat.zero_le _⟩) hP hD hS hA [0, 1, 2, 3, 4, 5, 6] [] [0, 1, 2, 3, 4, 5, 6] rfl rfl (by decide) (by decide) (by decide) rfl (fun H locs hP hD hS => ?_)
          refine lv_iconst (v := (-1)) hx hb dX3_tellerOf_27 (by decide) ?_
          refine lv_icmp_eq (tgt := 33) hx hb dX3_tellerOf_28 (by decide) (fun cq => ?_) (fun cq => ?_)
          · replace h := ifp cq h
            refine lv_iinc (v := (v3_12 + 1)) (lv' := [(3, .int (v3_12 + 1)), (0, .ref h3), (1, .ref h2), (2, .int a2)]) hx hb dX3_tellerOf_33 hl (k := 3) rfl rfl (by decide) rfl (fun ls hl => ?_)
            refine lv_goto (tgt := 12) hx hb dX3_tellerOf_36 (by decide) ?_
            exact ih _ _ _ _ h hP hD hS (lv_sub hl [1, 2, 3, 0] rfl)
          · replace h := ifn cq h
            refine lv_iload_n hx hb dX3_tellerOf_31 rfl (lv_at hl 3 rfl) ?_
            cases h
            exact pw_iret hx hb hr hlocks hAe hQ hP hD hS dX3_tellerOf_32
    exact L12 FU _ _ _ _ h hP hD hS (lv_sub hl [1, 2, 3, 0] rfl)
  · replace h := ifp cq h
    refine lv_iconst (v := (-1)) hx hb dX3_tellerOf_8 (by decide) ?_
    cases h
    exact pw_iret hx hb hr hlocks hAe hQ hP hD hS dX3_tellerOf_9
def fX3_signFor (str : Nat → Int32) (ten : Nat → Int32) (pha : Nat → Int32) (set : Nat → Int32) (len : Int32) (kep : Int32) (a2 : Int32) : Option Int32 :=
  (fX3_tellerOf str ten pha set len kep a2).bind fun x1 =>
  if x1 = (-1) then
  some (-1)
  else
  (fX3_strongSignBy str ten pha x1 a2).bind fun x2 =>
  some x2
abbrev rmX3_signFor : Room := { frames := 5, cells := 0, slots := 0, locals := 107 }
set_option maxHeartbeats 4000000 in
set_option maxRecDepth 100000 in
theorem mX3_signFor (l : Launch) (D : va_G) (cI cO cJ : ClassId) (h3 h3_str h2 h2_row h2_ten h2_pha h2_set : Nat) (sz : Nat) (str : Nat → Int32) (row : Nat → Int32) (ten : Nat → Int32) (pha : Nat → Int32) (set : Nat → Int32) (len : Int32) (kep : Int32) (a2 : Int32) (z : Int32) (h : fX3_signFor str ten pha set len kep a2 = some z) : Met l yX3_signFor wsX3_signFor rmX3_signFor (pw_pre D (tyL cI cO cJ) [.ref h3, .ref h2, .int a2] [(h3, .inr (3, [.ref h3_str])), (h3_str, .inl (cI, 160, .inl str)), (h2, .inr (2, [.ref h2_row, .ref h2_ten, .ref h2_pha, .ref h2_set, .int len, .int kep])), (h2_row, .inl (cI, 240, .inl row)), (h2_ten, .inl (cI, 4, .inl ten)), (h2_pha, .inl (cI, 4, .inl pha)), (h2_set, .inl (cI, 3, .inl set))] sz) (pw_i D [(h3, .inr (3, [.ref h3_str])), (h3_str, .inl (cI, 160, .inl str)), (h2, .inr (2, [.ref h2_row, .ref h2_ten, .ref h2_pha, .ref h2_set, .int len, .int kep])), (h2_row, .inl (cI, 240, .inl row)), (h2_ten, .inl (cI, 4, .inl ten)), (h2_pha, .inl (cI, 4, .inl pha)), (h2_set, .inl (cI, 3, .inl set))] [(h3, .inr (3, [.ref h3_str])), (h3_str, .inl (cI, 160, .inl str)), (h2, .inr (2, [.ref h2_row, .ref h2_ten, .ref h2_pha, .ref h2_set, .int len, .int kep])), (h2_row, .inl (cI, 240, .inl row)), (h2_ten, .inl (cI, 4, .inl ten)), (h2_pha, .inl (cI, 4, .inl pha)), (h2_set, .inl (cI, 3, .inl set))] z sz) 0 0 (va_A [(h3, .inr (3, [.ref h3_str])), (h3_str, .inl (cI, 160, .inl str)), (h2, .inr (2, [.ref h2_row, .ref h2_ten, .ref h2_pha, .ref h2_set, .int len, .int kep])), (h2_row, .inl (cI, 240, .inl row)), (h2_ten, .inl (cI, 4, .inl ten)), (h2_pha, .inl (cI, 4, .inl pha)), (h2_set, .inl (cI, 3, .inl set))] sz) := by
  refine pw_of (Qc := fun sz => pw_i D [(h3, .inr (3, [.ref h3_str])), (h3_str, .inl (cI, 160, .inl str)), (h2, .inr (2, [.ref h2_row, .ref h2_ten, .ref h2_pha, .ref h2_set, .int len, .int kep])), (h2_row, .inl (cI, 240, .inl row)), (h2_ten, .inl (cI, 4, .inl ten)), (h2_pha, .inl (cI, 4, .inl pha)), (h2_set, .inl (cI, 3, .inl set))] [(h3, .inr (3, [.ref h3_str])), (h3_str, .inl (cI, 160, .inl str)), (h2, .inr (2, [.ref h2_row, .ref h2_ten, .ref h2_pha, .ref h2_set, .int len, .int kep])), (h2_row, .inl (cI, 240, .inl row)), (h2_ten, .inl (cI, 4, .inl ten)), (h2_pha, .inl (cI, 4, .inl pha)), (h2_set, .inl (cI, 3, .inl set))] z sz) (cc := cX3_signFor) (maxL := 4) (ret := (some .int)) (by decide) rfl (Nat.le_of_ble_eq_true rfl) ?_
  intro p e s m args below meth c A Q H ls hx hb hml hr hts hown hlocks hAe hQ hK hN hA hP hD hS hl
  have hown : s.vm.findClass RX3 = some m.cls := hown
  have hl : lv_has ls 4 [(0, .ref h3), (1, .ref h2), (2, .int a2)] := hl
  have hP : va_P D vwCl ([(h3, .inr (3, [.ref h3_str])), (h3_str, .inl (cI, 160, .inl str)), (h2, .inr (2, [.ref h2_row, .ref h2_ten, .ref h2_pha, .ref h2_set, .int len, .int kep])), (h2_row, .inl (cI, 240, .inl row)), (h2_ten, .inl (cI, 4, .inl ten)), (h2_pha, .inl (cI, 4, .inl pha)), (h2_set, .inl (cI, 3, .inl set))] ++ []) H := hP
  have hD : va_D A ([(h3, .inr (3, [.ref h3_str])), (h3_str, .inl (cI, 160, .inl str)), (h2, .inr (2, [.ref h2_row, .ref h2_ten, .ref h2_pha, .ref h2_set, .int len, .int kep])), (h2_row, .inl (cI, 240, .inl row)), (h2_ten, .inl (cI, 4, .inl ten)), (h2_pha, .inl (cI, 4, .inl pha)), (h2_set, .inl (cI, 3, .inl set))] ++ []) := hD
  unfold fX3_signFor at h
  refine lv_aload_n hx hb dX3_signFor_0 rfl (lv_at hl 0 rfl) ?_
  refine lv_aload_n hx hb dX3_signFor_1 rfl (lv_at hl 1 rfl) ?_
  refine lv_iload_n hx hb dX3_signFor_2 rfl (lv_at hl 2 rfl) ?_
  obtain ⟨x1, hx1, h⟩ := bnd h
  refine pw_goi (wc := [(h3, .inr (3, [.ref h3_str])), (h3_str, .inl (cI, 160, .inl str)), (h2, .inr (2, [.ref h2_row, .ref h2_ten, .ref h2_pha, .ref h2_set, .int len, .int kep])), (h2_row, .inl (cI, 240, .inl row)), (h2_ten, .inl (cI, 4, .inl ten)), (h2_pha, .inl (cI, 4, .inl pha)), (h2_set, .inl (cI, 3, .inl set))]) (w1 := [(h3, .inr (3, [.ref h3_str])), (h3_str, .inl (cI, 160, .inl str)), (h2, .inr (2, [.ref h2_row, .ref h2_ten, .ref h2_pha, .ref h2_set, .int len, .int kep])), (h2_row, .inl (cI, 240, .inl row)), (h2_ten, .inl (cI, 4, .inl ten)), (h2_pha, .inl (cI, 4, .inl pha)), (h2_set, .inl (cI, 3, .inl set))]) (w2 := [(h3, .inr (3, [.ref h3_str])), (h3_str, .inl (cI, 160, .inl str)), (h2, .inr (2, [.ref h2_row, .ref h2_ten, .ref h2_pha, .ref h2_set, .int len, .int kep])), (h2_row, .inl (cI, 240, .inl row)), (h2_ten, .inl (cI, 4, .inl ten)), (h2_pha, .inl (cI, 4, .inl pha)), (h2_set, .inl (cI, 3, .inl set))]) (va_runV (As := [.ref h2, .int a2]) (rest := []) ⟨hx, hb, hml, hown, hts⟩ (mX3_tellerOf l D cI cO cJ h3 h3_str h2 h2_row h2_ten h2_pha h2_set H.size str row ten pha set len kep a2 _ hx1) (cwV 2 hts gX3_signFor_X3_tellerOf rfl rfl rfl (by decide +kernel) ⟨Nat.le_of_ble_eq_true rfl, Nat.le_of_ble_eq_true rfl⟩) (pw_preV hK hN (pw_sub hP [0, 1, 2, 3, 4, 5, 6] rfl) (pw_subD hD [0, 1, 2, 3, 4, 5, 6] (by decide) rfl) (ci := 3) (q0 := 0) rfl rfl) rfl rfl hl.1 rfl (lv_room (Nat.le_of_ble_eq_true rfl)) dX3_signFor_3 ⟨Nat.zero_le _, Nat.zero_le _⟩) hP hD hS hA [0, 1, 2, 3, 4, 5, 6] [] [0, 1, 2, 3, 4, 5, 6] rfl rfl (by decide) (by decide) (by decide) rfl (fun H locs hP hD hS => ?_)
  refine lv_istore_n (lv' := [(3, .int x1), (0, .ref h3), (1, .ref h2), (2, .int a2)]) hx hb dX3_signFor_6 rfl hl (by decide) rfl (fun ls hl => ?_)
  refine lv_iload_n hx hb dX3_signFor_7 rfl (lv_at hl 0 rfl) ?_
  refine lv_iconst (v := (-1)) hx hb dX3_signFor_8 (by decide) ?_
  refine lv_icmp_ne (tgt := 16) hx hb dX3_signFor_9 (by decide) (fun cq => ?_) (fun cq => ?_)
  · replace h := ifn cq h
    refine lv_aload_n hx hb dX3_signFor_16 rfl (lv_at hl 1 rfl) ?_
    refine lv_aload_n hx hb dX3_signFor_17 rfl (lv_at hl 2 rfl) ?_
    refine lv_iload_n hx hb dX3_signFor_18 rfl (lv_at hl 0 rfl) ?_
    refine lv_iload_n hx hb dX3_signFor_19 rfl (lv_at hl 3 rfl) ?_
    obtain ⟨x2, hx2, h⟩ := bnd h
    refine pw_goi (wc := [(h3, .inr (3, [.ref h3_str])), (h3_str, .inl (cI, 160, .inl str)), (h2, .inr (2, [.ref h2_row, .ref h2_ten, .ref h2_pha, .ref h2_set, .int len, .int kep])), (h2_row, .inl (cI, 240, .inl row)), (h2_ten, .inl (cI, 4, .inl ten)), (h2_pha, .inl (cI, 4, .inl pha)), (h2_set, .inl (cI, 3, .inl set))]) (w1 := [(h3, .inr (3, [.ref h3_str])), (h3_str, .inl (cI, 160, .inl str)), (h2, .inr (2, [.ref h2_row, .ref h2_ten, .ref h2_pha, .ref h2_set, .int len, .int kep])), (h2_row, .inl (cI, 240, .inl row)), (h2_ten, .inl (cI, 4, .inl ten)), (h2_pha, .inl (cI, 4, .inl pha)), (h2_set, .inl (cI, 3, .inl set))]) (w2 := [(h3, .inr (3, [.ref h3_str])), (h3_str, .inl (cI, 160, .inl str)), (h2, .inr (2, [.ref h2_row, .ref h2_ten, .ref h2_pha, .ref h2_set, .int len, .int kep])), (h2_row, .inl (cI, 240, .inl row)), (h2_ten, .inl (cI, 4, .inl ten)), (h2_pha, .inl (cI, 4, .inl pha)), (h2_set, .inl (cI, 3, .inl set))]) (va_runV (As := [.ref h2, .int x1, .int a2]) (rest := []) ⟨hx, hb, hml, hown, hts⟩ (mX3_strongSignBy l D cI cO cJ h3 h3_str h2 h2_row h2_ten h2_pha h2_set H.size str row ten pha set len kep x1 a2 _ hx2) (cwV 3 hts gX3_signFor_X3_strongSignBy rfl rfl rfl (by decide +kernel) ⟨Nat.le_of_ble_eq_true rfl, Nat.le_of_ble_eq_true rfl⟩) (pw_preV hK hN (pw_sub hP [0, 1, 2, 3, 4, 5, 6] rfl) (pw_subD hD [0, 1, 2, 3, 4, 5, 6] (by decide) rfl) (ci := 3) (q0 := 0) rfl rfl) rfl rfl hl.1 rfl (lv_room (Nat.le_of_ble_eq_true rfl)) dX3_signFor_20 ⟨Nat.zero_le _, Nat.zero_le _⟩) hP hD hS hA [0, 1, 2, 3, 4, 5, 6] [] [0, 1, 2, 3, 4, 5, 6] rfl rfl (by decide) (by decide) (by decide) rfl (fun H locs hP hD hS => ?_)
    cases h
    exact pw_iret hx hb hr hlocks hAe hQ hP hD hS dX3_signFor_23
  · replace h := ifp cq h
    refine lv_iconst (v := (-1)) hx hb dX3_signFor_12 (by decide) ?_
    refine lv_goto (tgt := 23) hx hb dX3_signFor_13 (by decide) ?_
    cases h
    exact pw_iret hx hb hr hlocks hAe hQ hP hD hS dX3_signFor_23
def fX3_isExplained (str : Nat → Int32) (row : Nat → Int32) (ten : Nat → Int32) (pha : Nat → Int32) (set : Nat → Int32) (len : Int32) (kep : Int32) (a2 : Int32) : Option Int32 :=
  (fX3_signFor str ten pha set len kep a2).bind fun x1 =>
  if x1 = (-1) then
  some 0
  else
  (fX2_signAt row len a2).bind fun x2 =>
  if x1 = x2 then
  some 1
  else
  some 0
abbrev rmX3_isExplained : Room := { frames := 6, cells := 0, slots := 0, locals := 130 }
set_option maxHeartbeats 4000000 in
set_option maxRecDepth 100000 in
theorem mX3_isExplained (l : Launch) (D : va_G) (cI cO cJ : ClassId) (h3 h3_str h2 h2_row h2_ten h2_pha h2_set : Nat) (sz : Nat) (str : Nat → Int32) (row : Nat → Int32) (ten : Nat → Int32) (pha : Nat → Int32) (set : Nat → Int32) (len : Int32) (kep : Int32) (a2 : Int32) (z : Int32) (h : fX3_isExplained str row ten pha set len kep a2 = some z) : Met l yX3_isExplained wsX3_isExplained rmX3_isExplained (pw_pre D (tyL cI cO cJ) [.ref h3, .ref h2, .int a2] [(h3, .inr (3, [.ref h3_str])), (h3_str, .inl (cI, 160, .inl str)), (h2, .inr (2, [.ref h2_row, .ref h2_ten, .ref h2_pha, .ref h2_set, .int len, .int kep])), (h2_row, .inl (cI, 240, .inl row)), (h2_ten, .inl (cI, 4, .inl ten)), (h2_pha, .inl (cI, 4, .inl pha)), (h2_set, .inl (cI, 3, .inl set))] sz) (pw_i D [(h3, .inr (3, [.ref h3_str])), (h3_str, .inl (cI, 160, .inl str)), (h2, .inr (2, [.ref h2_row, .ref h2_ten, .ref h2_pha, .ref h2_set, .int len, .int kep])), (h2_row, .inl (cI, 240, .inl row)), (h2_ten, .inl (cI, 4, .inl ten)), (h2_pha, .inl (cI, 4, .inl pha)), (h2_set, .inl (cI, 3, .inl set))] [(h3, .inr (3, [.ref h3_str])), (h3_str, .inl (cI, 160, .inl str)), (h2, .inr (2, [.ref h2_row, .ref h2_ten, .ref h2_pha, .ref h2_set, .int len, .int kep])), (h2_row, .inl (cI, 240, .inl row)), (h2_ten, .inl (cI, 4, .inl ten)), (h2_pha, .inl (cI, 4, .inl pha)), (h2_set, .inl (cI, 3, .inl set))] z sz) 0 0 (va_A [(h3, .inr (3, [.ref h3_str])), (h3_str, .inl (cI, 160, .inl str)), (h2, .inr (2, [.ref h2_row, .ref h2_ten, .ref h2_pha, .ref h2_set, .int len, .int kep])), (h2_row, .inl (cI, 240, .inl row)), (h2_ten, .inl (cI, 4, .inl ten)), (h2_pha, .inl (cI, 4, .inl pha)), (h2_set, .inl (cI, 3, .inl set))] sz) := by
  refine pw_of (Qc := fun sz => pw_i D [(h3, .inr (3, [.ref h3_str])), (h3_str, .inl (cI, 160, .inl str)), (h2, .inr (2, [.ref h2_row, .ref h2_ten, .ref h2_pha, .ref h2_set, .int len, .int kep])), (h2_row, .inl (cI, 240, .inl row)), (h2_ten, .inl (cI, 4, .inl ten)), (h2_pha, .inl (cI, 4, .inl pha)), (h2_set, .inl (cI, 3, .inl set))] [(h3, .inr (3, [.ref h3_str])), (h3_str, .inl (cI, 160, .inl str)), (h2, .inr (2, [.ref h2_row, .ref h2_ten, .ref h2_pha, .ref h2_set, .int len, .int kep])), (h2_row, .inl (cI, 240, .inl row)), (h2_ten, .inl (cI, 4, .inl ten)), (h2_pha, .inl (cI, 4, .inl pha)), (h2_set, .inl (cI, 3, .inl set))] z sz) (cc := cX3_isExplained) (maxL := 4) (ret := (some .boolean)) (by decide) rfl (Nat.le_of_ble_eq_true rfl) ?_
  intro p e s m args below meth c A Q H ls hx hb hml hr hts hown hlocks hAe hQ hK hN hA hP hD hS hl
  have hown : s.vm.findClass RX3 = some m.cls := hown
  have hl : lv_has ls 4 [(0, .ref h3), (1, .ref h2), (2, .int a2)] := hl
  have hP : va_P D vwCl ([(h3, .inr (3, [.ref h3_str])), (h3_str, .inl (cI, 160, .inl str)), (h2, .inr (2, [.ref h2_row, .ref h2_ten, .ref h2_pha, .ref h2_set, .int len, .int kep])), (h2_row, .inl (cI, 240, .inl row)), (h2_ten, .inl (cI, 4, .inl ten)), (h2_pha, .inl (cI, 4, .inl pha)), (h2_set, .inl (cI, 3, .inl set))] ++ []) H := hP
  have hD : va_D A ([(h3, .inr (3, [.ref h3_str])), (h3_str, .inl (cI, 160, .inl str)), (h2, .inr (2, [.ref h2_row, .ref h2_ten, .ref h2_pha, .ref h2_set, .int len, .int kep])), (h2_row, .inl (cI, 240, .inl row)), (h2_ten, .inl (cI, 4, .inl ten)), (h2_pha, .inl (cI, 4, .inl pha)), (h2_set, .inl (cI, 3, .inl set))] ++ []) := hD
  unfold fX3_isExplained at h
  refine lv_aload_n hx hb dX3_isExplained_0 rfl (lv_at hl 0 rfl) ?_
  refine lv_aload_n hx hb dX3_isExplained_1 rfl (lv_at hl 1 rfl) ?_
  refine lv_iload_n hx hb dX3_isExplained_2 rfl (lv_at hl 2 rfl) ?_
  obtain ⟨x1, hx1, h⟩ := bnd h
  refine pw_goi (wc := [(h3, .inr (3, [.ref h3_str])), (h3_str, .inl (cI, 160, .inl str)), (h2, .inr (2, [.ref h2_row, .ref h2_ten, .ref h2_pha, .ref h2_set, .int len, .int kep])), (h2_row, .inl (cI, 240, .inl row)), (h2_ten, .inl (cI, 4, .inl ten)), (h2_pha, .inl (cI, 4, .inl pha)), (h2_set, .inl (cI, 3, .inl set))]) (w1 := [(h3, .inr (3, [.ref h3_str])), (h3_str, .inl (cI, 160, .inl str)), (h2, .inr (2, [.ref h2_row, .ref h2_ten, .ref h2_pha, .ref h2_set, .int len, .int kep])), (h2_row, .inl (cI, 240, .inl row)), (h2_ten, .inl (cI, 4, .inl ten)), (h2_pha, .inl (cI, 4, .inl pha)), (h2_set, .inl (cI, 3, .inl set))]) (w2 := [(h3, .inr (3, [.ref h3_str])), (h3_str, .inl (cI, 160, .inl str)), (h2, .inr (2, [.ref h2_row, .ref h2_ten, .ref h2_pha, .ref h2_set, .int len, .int kep])), (h2_row, .inl (cI, 240, .inl row)), (h2_ten, .inl (cI, 4, .inl ten)), (h2_pha, .inl (cI, 4, .inl pha)), (h2_set, .inl (cI, 3, .inl set))]) (va_runV (As := [.ref h2, .int a2]) (rest := []) ⟨hx, hb, hml, hown, hts⟩ (mX3_signFor l D cI cO cJ h3 h3_str h2 h2_row h2_ten h2_pha h2_set H.size str row ten pha set len kep a2 _ hx1) (cwV 2 hts gX3_isExplained_X3_signFor rfl rfl rfl (by decide +kernel) ⟨Nat.le_of_ble_eq_true rfl, Nat.le_of_ble_eq_true rfl⟩) (pw_preV hK hN (pw_sub hP [0, 1, 2, 3, 4, 5, 6] rfl) (pw_subD hD [0, 1, 2, 3, 4, 5, 6] (by decide) rfl) (ci := 3) (q0 := 0) rfl rfl) rfl rfl hl.1 rfl (lv_room (Nat.le_of_ble_eq_true rfl)) dX3_isExplained_3 ⟨Nat.zero_le _, Nat.zero_le _⟩) hP hD hS hA [0, 1, 2, 3, 4, 5, 6] [] [0, 1, 2, 3, 4, 5, 6] rfl rfl (by decide) (by decide) (by decide) rfl (fun H locs hP hD hS => ?_)
  refine lv_istore_n (lv' := [(3, .int x1), (0, .ref h3), (1, .ref h2), (2, .int a2)]) hx hb dX3_isExplained_6 rfl hl (by decide) rfl (fun ls hl => ?_)
  refine lv_iload_n hx hb dX3_isExplained_7 rfl (lv_at hl 0 rfl) ?_
  refine lv_iconst (v := (-1)) hx hb dX3_isExplained_8 (by decide) ?_
  refine lv_icmp_eq (tgt := 25) hx hb dX3_isExplained_9 (by decide) (fun cq => ?_) (fun cq => ?_)
  · replace h := ifp cq h
    refine lv_iconst (v := 0) hx hb dX3_isExplained_25 (by decide) ?_
    cases h
    exact pw_zret hx hb hr hlocks hAe (by decide) hQ hP hD hS dX3_isExplained_26
  · replace h := ifn cq h
    refine lv_iload_n hx hb dX3_isExplained_12 rfl (lv_at hl 0 rfl) ?_
    refine lv_aload_n hx hb dX3_isExplained_13 rfl (lv_at hl 2 rfl) ?_
    refine lv_iload_n hx hb dX3_isExplained_14 rfl (lv_at hl 3 rfl) ?_
    obtain ⟨x2, hx2, h⟩ := bnd h
    refine pw_goi (wc := [(h2, .inr (2, [.ref h2_row, .ref h2_ten, .ref h2_pha, .ref h2_set, .int len, .int kep])), (h2_row, .inl (cI, 240, .inl row)), (h2_ten, .inl (cI, 4, .inl ten)), (h2_pha, .inl (cI, 4, .inl pha)), (h2_set, .inl (cI, 3, .inl set))]) (w1 := [(h2, .inr (2, [.ref h2_row, .ref h2_ten, .ref h2_pha, .ref h2_set, .int len, .int kep])), (h2_row, .inl (cI, 240, .inl row)), (h2_ten, .inl (cI, 4, .inl ten)), (h2_pha, .inl (cI, 4, .inl pha)), (h2_set, .inl (cI, 3, .inl set))]) (w2 := [(h3, .inr (3, [.ref h3_str])), (h3_str, .inl (cI, 160, .inl str)), (h2, .inr (2, [.ref h2_row, .ref h2_ten, .ref h2_pha, .ref h2_set, .int len, .int kep])), (h2_row, .inl (cI, 240, .inl row)), (h2_ten, .inl (cI, 4, .inl ten)), (h2_pha, .inl (cI, 4, .inl pha)), (h2_set, .inl (cI, 3, .inl set))]) (va_runV (As := [.int a2]) (rest := [.int x1]) ⟨hx, hb, hml, hown, hts⟩ (mX2_signAt l D cI cO cJ h2 h2_row h2_ten h2_pha h2_set H.size row ten pha set len kep a2 _ hx2) (cwV 1 hts gX3_isExplained_X2_signAt rfl rfl rfl (by decide +kernel) ⟨Nat.le_of_ble_eq_true rfl, Nat.le_of_ble_eq_true rfl⟩) (pw_preV hK hN (pw_sub hP [2, 3, 4, 5, 6] rfl) (pw_subD hD [2, 3, 4, 5, 6] (by decide) rfl) (ci := 2) (q0 := 0) rfl rfl) rfl rfl hl.1 rfl (lv_room (Nat.le_of_ble_eq_true rfl)) dX3_isExplained_15 ⟨Nat.zero_le _, Nat.zero_le _⟩) hP hD hS hA [2, 3, 4, 5, 6] [0, 1] [0, 1, 2, 3, 4, 5, 6] rfl rfl (by decide) (by decide) (by decide) rfl (fun H locs hP hD hS => ?_)
    refine lv_icmp_ne (tgt := 25) hx hb dX3_isExplained_18 (by decide) (fun cq => ?_) (fun cq => ?_)
    · replace h := ifn cq h
      refine lv_iconst (v := 0) hx hb dX3_isExplained_25 (by decide) ?_
      cases h
      exact pw_zret hx hb hr hlocks hAe (by decide) hQ hP hD hS dX3_isExplained_26
    · replace h := ifp cq h
      refine lv_iconst (v := 1) hx hb dX3_isExplained_21 (by decide) ?_
      refine lv_goto (tgt := 26) hx hb dX3_isExplained_22 (by decide) ?_
      cases h
      exact pw_zret hx hb hr hlocks hAe (by decide) hQ hP hD hS dX3_isExplained_26
def fX3_explained_L18 (str : Nat → Int32) (row : Nat → Int32) (ten : Nat → Int32) (pha : Nat → Int32) (set : Nat → Int32) (len : Int32) (kep : Int32) (y3 : Int32) : Nat → Int32 → Int32 → Option Int32
  | 0, _, _ => none
  | n + 1, v4_18, v5_18 =>
    if y3 ≤ v5_18 then
    some v4_18
    else
    (fX3_isExplained str row ten pha set len kep v5_18).bind fun x4 =>
    if x4 = 0 then
    fX3_explained_L18 str row ten pha set len kep y3 n v4_18 (v5_18 + 1)
    else
    fX3_explained_L18 str row ten pha set len kep y3 n (v4_18 + 1) (v5_18 + 1)
def fX3_explained (str : Nat → Int32) (row : Nat → Int32) (ten : Nat → Int32) (pha : Nat → Int32) (set : Nat → Int32) (len : Int32) (kep : Int32) : Option Int32 :=
  (fX2_windowStart set).bind fun x1 =>
  (fX2_windowPlaces set len).bind fun x2 =>
  (fX3_explained_L18 str row ten pha set len kep (x1 + x2) FU 0 x1).bind fun x5 =>
  some x5
abbrev rmX3_explained : Room := { frames := 7, cells := 0, slots := 0, locals := 153 }
set_option maxHeartbeats 4000000 in
set_option maxRecDepth 100000 in
theorem mX3_explained (l : Launch) (D : va_G) (cI cO cJ : ClassId) (h3 h3_str h2 h2_row h2_ten h2_pha h2_set : Nat) (sz : Nat) (str : Nat → Int32) (row : Nat → Int32) (ten : Nat → Int32) (pha : Nat → Int32) (set : Nat → Int32) (len : Int32) (kep : Int32) (z : Int32) (h : fX3_explained str row ten pha set len kep = some z) : Met l yX3_explained wsX3_explained rmX3_explained (pw_pre D (tyL cI cO cJ) [.ref h3, .ref h2] [(h3, .inr (3, [.ref h3_str])), (h3_str, .inl (cI, 160, .inl str)), (h2, .inr (2, [.ref h2_row, .ref h2_ten, .ref h2_pha, .ref h2_set, .int len, .int kep])), (h2_row, .inl (cI, 240, .inl row)), (h2_ten, .inl (cI, 4, .inl ten)), (h2_pha, .inl (cI, 4, .inl pha)), (h2_set, .inl (cI, 3, .inl set))] sz) (pw_i D [(h3, .inr (3, [.ref h3_str])), (h3_str, .inl (cI, 160, .inl str)), (h2, .inr (2, [.ref h2_row, .ref h2_ten, .ref h2_pha, .ref h2_set, .int len, .int kep])), (h2_row, .inl (cI, 240, .inl row)), (h2_ten, .inl (cI, 4, .inl ten)), (h2_pha, .inl (cI, 4, .inl pha)), (h2_set, .inl (cI, 3, .inl set))] [(h3, .inr (3, [.ref h3_str])), (h3_str, .inl (cI, 160, .inl str)), (h2, .inr (2, [.ref h2_row, .ref h2_ten, .ref h2_pha, .ref h2_set, .int len, .int kep])), (h2_row, .inl (cI, 240, .inl row)), (h2_ten, .inl (cI, 4, .inl ten)), (h2_pha, .inl (cI, 4, .inl pha)), (h2_set, .inl (cI, 3, .inl set))] z sz) 0 0 (va_A [(h3, .inr (3, [.ref h3_str])), (h3_str, .inl (cI, 160, .inl str)), (h2, .inr (2, [.ref h2_row, .ref h2_ten, .ref h2_pha, .ref h2_set, .int len, .int kep])), (h2_row, .inl (cI, 240, .inl row)), (h2_ten, .inl (cI, 4, .inl ten)), (h2_pha, .inl (cI, 4, .inl pha)), (h2_set, .inl (cI, 3, .inl set))] sz) := by
  refine pw_of (Qc := fun sz => pw_i D [(h3, .inr (3, [.ref h3_str])), (h3_str, .inl (cI, 160, .inl str)), (h2, .inr (2, [.ref h2_row, .ref h2_ten, .ref h2_pha, .ref h2_set, .int len, .int kep])), (h2_row, .inl (cI, 240, .inl row)), (h2_ten, .inl (cI, 4, .inl ten)), (h2_pha, .inl (cI, 4, .inl pha)), (h2_set, .inl (cI, 3, .inl set))] [(h3, .inr (3, [.ref h3_str])), (h3_str, .inl (cI, 160, .inl str)), (h2, .inr (2, [.ref h2_row, .ref h2_ten, .ref h2_pha, .ref h2_set, .int len, .int kep])), (h2_row, .inl (cI, 240, .inl row)), (h2_ten, .inl (cI, 4, .inl ten)), (h2_pha, .inl (cI, 4, .inl pha)), (h2_set, .inl (cI, 3, .inl set))] z sz) (cc := cX3_explained) (maxL := 6) (ret := (some .int)) (by decide) rfl (Nat.le_of_ble_eq_true rfl) ?_
  intro p e s m args below meth c A Q H ls hx hb hml hr hts hown hlocks hAe hQ hK hN hA hP hD hS hl
  have hown : s.vm.findClass RX3 = some m.cls := hown
  have hl : lv_has ls 6 [(0, .ref h3), (1, .ref h2)] := hl
  have hP : va_P D vwCl ([(h3, .inr (3, [.ref h3_str])), (h3_str, .inl (cI, 160, .inl str)), (h2, .inr (2, [.ref h2_row, .ref h2_ten, .ref h2_pha, .ref h2_set, .int len, .int kep])), (h2_row, .inl (cI, 240, .inl row)), (h2_ten, .inl (cI, 4, .inl ten)), (h2_pha, .inl (cI, 4, .inl pha)), (h2_set, .inl (cI, 3, .inl set))] ++ []) H := hP
  have hD : va_D A ([(h3, .inr (3, [.ref h3_str])), (h3_str, .inl (cI, 160, .inl str)), (h2, .inr (2, [.ref h2_row, .ref h2_ten, .ref h2_pha, .ref h2_set, .int len, .int kep])), (h2_row, .inl (cI, 240, .inl row)), (h2_ten, .inl (cI, 4, .inl ten)), (h2_pha, .inl (cI, 4, .inl pha)), (h2_set, .inl (cI, 3, .inl set))] ++ []) := hD
  unfold fX3_explained at h
  refine lv_aload_n hx hb dX3_explained_0 rfl (lv_at hl 1 rfl) ?_
  obtain ⟨x1, hx1, h⟩ := bnd h
  refine pw_goi (wc := [(h2, .inr (2, [.ref h2_row, .ref h2_ten, .ref h2_pha, .ref h2_set, .int len, .int kep])), (h2_row, .inl (cI, 240, .inl row)), (h2_ten, .inl (cI, 4, .inl ten)), (h2_pha, .inl (cI, 4, .inl pha)), (h2_set, .inl (cI, 3, .inl set))]) (w1 := [(h2, .inr (2, [.ref h2_row, .ref h2_ten, .ref h2_pha, .ref h2_set, .int len, .int kep])), (h2_row, .inl (cI, 240, .inl row)), (h2_ten, .inl (cI, 4, .inl ten)), (h2_pha, .inl (cI, 4, .inl pha)), (h2_set, .inl (cI, 3, .inl set))]) (w2 := [(h3, .inr (3, [.ref h3_str])), (h3_str, .inl (cI, 160, .inl str)), (h2, .inr (2, [.ref h2_row, .ref h2_ten, .ref h2_pha, .ref h2_set, .int len, .int kep])), (h2_row, .inl (cI, 240, .inl row)), (h2_ten, .inl (cI, 4, .inl ten)), (h2_pha, .inl (cI, 4, .inl pha)), (h2_set, .inl (cI, 3, .inl set))]) (va_runV (As := []) (rest := []) ⟨hx, hb, hml, hown, hts⟩ (mX2_windowStart l D cI cO cJ h2 h2_row h2_ten h2_pha h2_set H.size row ten pha set len kep _ hx1) (cwV 0 hts gX3_explained_X2_windowStart rfl rfl rfl (by decide +kernel) ⟨Nat.le_of_ble_eq_true rfl, Nat.le_of_ble_eq_true rfl⟩) (pw_preV hK hN (pw_sub hP [2, 3, 4, 5, 6] rfl) (pw_subD hD [2, 3, 4, 5, 6] (by decide) rfl) (ci := 2) (q0 := 0) rfl rfl) rfl rfl hl.1 rfl (lv_room (Nat.le_of_ble_eq_true rfl)) dX3_explained_1 ⟨Nat.zero_le _, Nat.zero_le _⟩) hP hD hS hA [2, 3, 4, 5, 6] [0, 1] [0, 1, 2, 3, 4, 5, 6] rfl rfl (by decide) (by decide) (by decide) rfl (fun H locs hP hD hS => ?_)
  refine lv_istore_n (lv' := [(2, .int x1), (0, .ref h3), (1, .ref h2)]) hx hb dX3_explained_4 rfl hl (by decide) rfl (fun ls hl => ?_)
  refine lv_iload_n hx hb dX3_explained_5 rfl (lv_at hl 0 rfl) ?_
  refine lv_aload_n hx hb dX3_explained_6 rfl (lv_at hl 2 rfl) ?_
  obtain ⟨x2, hx2, h⟩ := bnd h
  refine pw_goi (wc := [(h2, .inr (2, [.ref h2_row, .ref h2_ten, .ref h2_pha, .ref h2_set, .int len, .int kep])), (h2_row, .inl (cI, 240, .inl row)), (h2_ten, .inl (cI, 4, .inl ten)), (h2_pha, .inl (cI, 4, .inl pha)), (h2_set, .inl (cI, 3, .inl set))]) (w1 := [(h2, .inr (2, [.ref h2_row, .ref h2_ten, .ref h2_pha, .ref h2_set, .int len, .int kep])), (h2_row, .inl (cI, 240, .inl row)), (h2_ten, .inl (cI, 4, .inl ten)), (h2_pha, .inl (cI, 4, .inl pha)), (h2_set, .inl (cI, 3, .inl set))]) (w2 := [(h3, .inr (3, [.ref h3_str])), (h3_str, .inl (cI, 160, .inl str)), (h2, .inr (2, [.ref h2_row, .ref h2_ten, .ref h2_pha, .ref h2_set, .int len, .int kep])), (h2_row, .inl (cI, 240, .inl row)), (h2_ten, .inl (cI, 4, .inl ten)), (h2_pha, .inl (cI, 4, .inl pha)), (h2_set, .inl (cI, 3, .inl set))]) (va_runV (As := []) (rest := [.int x1]) ⟨hx, hb, hml, hown, hts⟩ (mX2_windowPlaces l D cI cO cJ h2 h2_row h2_ten h2_pha h2_set H.size row ten pha set len kep _ hx2) (cwV 0 hts gX3_explained_X2_windowPlaces rfl rfl rfl (by decide +kernel) ⟨Nat.le_of_ble_eq_true rfl, Nat.le_of_ble_eq_true rfl⟩) (pw_preV hK hN (pw_sub hP [2, 3, 4, 5, 6] rfl) (pw_subD hD [2, 3, 4, 5, 6] (by decide) rfl) (ci := 2) (q0 := 0) rfl rfl) rfl rfl hl.1 rfl (lv_room (Nat.le_of_ble_eq_true rfl)) dX3_explained_7 ⟨Nat.zero_le _, Nat.zero_le _⟩) hP hD hS hA [2, 3, 4, 5, 6] [0, 1] [0, 1, 2, 3, 4, 5, 6] rfl rfl (by decide) (by decide) (by decide) rfl (fun H locs hP hD hS => ?_)
  refine lv_iadd hx hb dX3_explained_10 ?_
  refine lv_istore_n (lv' := [(3, .int (x1 + x2)), (2, .int x1), (0, .ref h3), (1, .ref h2)]) hx hb dX3_explained_11 rfl hl (by decide) rfl (fun ls hl => ?_)
  refine lv_iconst (v := 0) hx hb dX3_explained_12 (by decide) ?_
  refine lv_istore (lv' := [(4, .int 0), (3, .int (x1 + x2)), (2, .int x1), (0, .ref h3), (1, .ref h2)]) hx hb dX3_explained_13 hl (by decide) rfl (fun ls hl => ?_)
  refine lv_iload_n hx hb dX3_explained_15 rfl (lv_at hl 2 rfl) ?_
  refine lv_istore (lv' := [(5, .int x1), (4, .int 0), (3, .int (x1 + x2)), (2, .int x1), (0, .ref h3), (1, .ref h2)]) hx hb dX3_explained_16 hl (by decide) rfl (fun ls hl => ?_)
  generalize hgy3 : (x1 + x2) = y3 at h hP hD hl ⊢
  have L18 : ∀ (n : Nat) (v4_18 : Int32) (v5_18 : Int32) (o18_1 : Int32) (H : Heap) (locs : List Loc) (ls : Array Slot), fX3_explained_L18 str row ten pha set len kep y3 n v4_18 v5_18 = some o18_1 → va_P D vwCl ([(h3, .inr (3, [.ref h3_str])), (h3_str, .inl (cI, 160, .inl str)), (h2, .inr (2, [.ref h2_row, .ref h2_ten, .ref h2_pha, .ref h2_set, .int len, .int kep])), (h2_row, .inl (cI, 240, .inl row)), (h2_ten, .inl (cI, 4, .inl ten)), (h2_pha, .inl (cI, 4, .inl pha)), (h2_set, .inl (cI, 3, .inl set))] ++ []) H → va_D A ([(h3, .inr (3, [.ref h3_str])), (h3_str, .inl (cI, 160, .inl str)), (h2, .inr (2, [.ref h2_row, .ref h2_ten, .ref h2_pha, .ref h2_set, .int len, .int kep])), (h2_row, .inl (cI, 240, .inl row)), (h2_ten, .inl (cI, 4, .inl ten)), (h2_pha, .inl (cI, 4, .inl pha)), (h2_set, .inl (cI, 3, .inl set))] ++ []) → va_S A s.heap H locs → lv_has ls 6 [(0, .ref h3), (1, .ref h2), (3, .int y3), (4, .int v4_18), (5, .int v5_18)] → (∀ (H : Heap) (locs : List Loc) (ls : Array Slot), va_P D vwCl ([(h3, .inr (3, [.ref h3_str])), (h3_str, .inl (cI, 160, .inl str)), (h2, .inr (2, [.ref h2_row, .ref h2_ten, .ref h2_pha, .ref h2_set, .int len, .int kep])), (h2_row, .inl (cI, 240, .inl row)), (h2_ten, .inl (cI, 4, .inl ten)), (h2_pha, .inl (cI, 4, .inl pha)), (h2_set, .inl (cI, 3, .inl set))] ++ []) H → va_D A ([(h3, .inr (3, [.ref h3_str])), (h3_str, .inl (cI, 160, .inl str)), (h2, .inr (2, [.ref h2_row, .ref h2_ten, .ref h2_pha, .ref h2_set, .int len, .int kep])), (h2_row, .inl (cI, 240, .inl row)), (h2_ten, .inl (cI, 4, .inl ten)), (h2_pha, .inl (cI, 4, .inl pha)), (h2_set, .inl (cI, 3, .inl set))] ++ []) → va_S A s.heap H locs → lv_has ls 6 [(4, .int o18_1)] → W p l e rmX3_explained s m args below meth c H locs 0 0 Q (F0 m 43 ls [])) → W p l e rmX3_explained s m args below meth c H locs 0 0 Q (F0 m 18 ls []) := by
    intro n
    induction n with
    | zero =>
      intro v4_18 v5_18 o18_1 H locs ls h
      rw [fX3_explained_L18] at h
      cases h
    | succ n ih =>
      intro v4_18 v5_18 o18_1 H locs ls h hP hD hS hl K
      rw [fX3_explained_L18] at h
      refine lv_iload hx hb dX3_explained_18 (lv_at hl 4 rfl) ?_
      refine lv_iload_n hx hb dX3_explained_20 rfl (lv_at hl 2 rfl) ?_
      refine lv_icmp_ge (tgt := 43) hx hb dX3_explained_21 (by decide) (fun cq => ?_) (fun cq => ?_)
      · replace h := ifp cq h
        cases h
        exact K _ _ _ hP hD hS (lv_sub hl [3] rfl)
      · replace h := ifn cq h
        refine lv_aload_n hx hb dX3_explained_24 rfl (lv_at hl 0 rfl) ?_
        refine lv_aload_n hx hb dX3_explained_25 rfl (lv_at hl 1 rfl) ?_
        refine lv_iload hx hb dX3_explained_26 (lv_at hl 4 rfl) ?_
        obtain ⟨x4, hx4, h⟩ := bnd h
        refine pw_goi (wc := [(h3, .inr (3, [.ref h3_str])), (h3_str, .inl (cI, 160, .inl str)), (h2, .inr (2, [.ref h2_row, .ref h2_ten, .ref h2_pha, .ref h2_set, .int len, .int kep])), (h2_row, .inl (cI, 240, .inl row)), (h2_ten, .inl (cI, 4, .inl ten)), (h2_pha, .inl (cI, 4, .inl pha)), (h2_set, .inl (cI, 3, .inl set))]) (w1 := [(h3, .inr (3, [.ref h3_str])), (h3_str, .inl (cI, 160, .inl str)), (h2, .inr (2, [.ref h2_row, .ref h2_ten, .ref h2_pha, .ref h2_set, .int len, .int kep])), (h2_row, .inl (cI, 240, .inl row)), (h2_ten, .inl (cI, 4, .inl ten)), (h2_pha, .inl (cI, 4, .inl pha)), (h2_set, .inl (cI, 3, .inl set))]) (w2 := [(h3, .inr (3, [.ref h3_str])), (h3_str, .inl (cI, 160, .inl str)), (h2, .inr (2, [.ref h2_row, .ref h2_ten, .ref h2_pha, .ref h2_set, .int len, .int kep])), (h2_row, .inl (cI, 240, .inl row)), (h2_ten, .inl (cI, 4, .inl ten)), (h2_pha, .inl (cI, 4, .inl pha)), (h2_set, .inl (cI, 3, .inl set))]) (va_runV (As := [.ref h2, .int v5_18]) (rest := []) ⟨hx, hb, hml, hown, hts⟩ (mX3_isExplained l D cI cO cJ h3 h3_str h2 h2_row h2_ten h2_pha h2_set H.size str row ten pha set len kep v5_18 _ hx4) (cwV 2 hts gX3_explained_X3_isExplained rfl rfl rfl (by decide +kernel) ⟨Nat.le_of_ble_eq_true rfl, Nat.le_of_ble_eq_true rfl⟩) (pw_preV hK hN (pw_sub hP [0, 1, 2, 3, 4, 5, 6] rfl) (pw_subD hD [0, 1, 2, 3, 4, 5, 6] (by decide) rfl) (ci := 3) (q0 := 0) rfl rfl) rfl rfl hl.1 rfl (lv_room (Nat.le_of_ble_eq_true rfl)) dX3_explained_28 ⟨Nat.zero_le _, Nat.zero_le _⟩) hP hD hS hA [0, 1, 2, 3, 4, 5, 6] [] [0, 1, 2, 3, 4, 5, 6] rfl rfl (by decide) (by decide) (by decide) rfl (fun H locs hP hD hS => ?_)
        refine lv_if_eq (tgt := 37) hx hb dX3_explained_31 (by decide) (fun cq => ?_) (fun cq => ?_)
        · replace h := ifp cq h
          refine lv_iinc (v := (v5_18 + 1)) (lv' := [(5, .int (v5_18 + 1)), (0, .ref h3), (1, .ref h2), (3, .int y3), (4, .int v4_18)]) hx hb dX3_explained_37 hl (k := 4) rfl rfl (by decide) rfl (fun ls hl => ?_)
          refine lv_goto (tgt := 18) hx hb dX3_explained_40 (by decide) ?_
          exact ih _ _ _ _ _ _ h hP hD hS (lv_sub hl [1, 2, 3, 4, 0] rfl) K
        · replace h := ifn cq h
          refine lv_iinc (v := (v4_18 + 1)) (lv' := [(4, .int (v4_18 + 1)), (0, .ref h3), (1, .ref h2), (3, .int y3), (5, .int v5_18)]) hx hb dX3_explained_34 hl (k := 3) rfl rfl (by decide) rfl (fun ls hl => ?_)
          refine lv_iinc (v := (v5_18 + 1)) (lv' := [(5, .int (v5_18 + 1)), (4, .int (v4_18 + 1)), (0, .ref h3), (1, .ref h2), (3, .int y3)]) hx hb dX3_explained_37 hl (k := 4) rfl rfl (by decide) rfl (fun ls hl => ?_)
          refine lv_goto (tgt := 18) hx hb dX3_explained_40 (by decide) ?_
          exact ih _ _ _ _ _ _ h hP hD hS (lv_sub hl [2, 3, 4, 1, 0] rfl) K
  obtain ⟨x5, hx5, h⟩ := bnd h
  refine L18 FU _ _ _ _ _ _ hx5 hP hD hS (lv_sub hl [4, 5, 2, 1, 0] rfl) (fun H locs ls hP hD hS hl => ?_)
  refine lv_iload hx hb dX3_explained_43 (lv_at hl 0 rfl) ?_
  cases h
  exact pw_iret hx hb hr hlocks hAe hQ hP hD hS dX3_explained_45

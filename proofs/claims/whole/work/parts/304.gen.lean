def fX3_placesToldBy_L19 (str : Nat → Int32) (ten : Nat → Int32) (pha : Nat → Int32) (set : Nat → Int32) (len : Int32) (kep : Int32) (a2 : Int32) (y3 : Int32) : Nat → Int32 → Int32 → Option Int32
  | 0, _, _ => none
  | n + 1, v5_19, v6_19 =>
    if y3 ≤ v6_19 then
    some v5_19
    else
    (fX3_tellerOf str ten pha set len kep v6_19).bind fun x4 =>
    if x4 = a2 then
    fX3_placesToldBy_L19 str ten pha set len kep a2 y3 n (v5_19 + 1) (v6_19 + 1)
    else
    fX3_placesToldBy_L19 str ten pha set len kep a2 y3 n v5_19 (v6_19 + 1)
def fX3_placesToldBy (str : Nat → Int32) (ten : Nat → Int32) (pha : Nat → Int32) (set : Nat → Int32) (len : Int32) (kep : Int32) (a2 : Int32) : Option Int32 :=
  (fX2_windowStart set).bind fun x1 =>
  (fX2_windowPlaces set len).bind fun x2 =>
  (fX3_placesToldBy_L19 str ten pha set len kep a2 (x1 + x2) FU 0 x1).bind fun x5 =>
  some x5
abbrev rmX3_placesToldBy : Room := { frames := 5, cells := 0, slots := 0, locals := 107 }
set_option maxHeartbeats 4000000 in
set_option maxRecDepth 100000 in
theorem mX3_placesToldBy (l : Launch) (D : va_G) (cI cO cJ : ClassId) (h3 h3_str h2 h2_row h2_ten h2_pha h2_set : Nat) (sz : Nat) (str : Nat → Int32) (row : Nat → Int32) (ten : Nat → Int32) (pha : Nat → Int32) (set : Nat → Int32) (len : Int32) (kep : Int32) (a2 : Int32) (z : Int32) (h : fX3_placesToldBy str ten pha set len kep a2 = some z) : Met l yX3_placesToldBy wsX3_placesToldBy rmX3_placesToldBy (pw_pre D (tyL cI cO cJ) [.ref h3, .ref h2, .int a2] [(h3, .inr (3, [.ref h3_str])), (h3_str, .inl (cI, 160, .inl str)), (h2, .inr (2, [.ref h2_row, .ref h2_ten, .ref h2_pha, .ref h2_set, .int len, .int kep])), (h2_row, .inl (cI, 240, .inl row)), (h2_ten, .inl (cI, 4, .inl ten)), (h2_pha, .inl (cI, 4, .inl pha)), (h2_set, .inl (cI, 3, .inl set))] sz) (pw_i D [(h3, .inr (3, [.ref h3_str])), (h3_str, .inl (cI, 160, .inl str)), (h2, .inr (2, [.ref h2_row, .ref h2_ten, .ref h2_pha, .ref h2_set, .int len, .int kep])), (h2_row, .inl (cI, 240, .inl row)), (h2_ten, .inl (cI, 4, .inl ten)), (h2_pha, .inl (cI, 4, .inl pha)), (h2_set, .inl (cI, 3, .inl set))] [(h3, .inr (3, [.ref h3_str])), (h3_str, .inl (cI, 160, .inl str)), (h2, .inr (2, [.ref h2_row, .ref h2_ten, .ref h2_pha, .ref h2_set, .int len, .int kep])), (h2_row, .inl (cI, 240, .inl row)), (h2_ten, .inl (cI, 4, .inl ten)), (h2_pha, .inl (cI, 4, .inl pha)), (h2_set, .inl (cI, 3, .inl set))] z sz) 0 0 (va_A [(h3, .inr (3, [.ref h3_str])), (h3_str, .inl (cI, 160, .inl str)), (h2, .inr (2, [.ref h2_row, .ref h2_ten, .ref h2_pha, .ref h2_set, .int len, .int kep])), (h2_row, .inl (cI, 240, .inl row)), (h2_ten, .inl (cI, 4, .inl ten)), (h2_pha, .inl (cI, 4, .inl pha)), (h2_set, .inl (cI, 3, .inl set))] sz) := by
  refine pw_of (Qc := fun sz => pw_i D [(h3, .inr (3, [.ref h3_str])), (h3_str, .inl (cI, 160, .inl str)), (h2, .inr (2, [.ref h2_row, .ref h2_ten, .ref h2_pha, .ref h2_set, .int len, .int kep])), (h2_row, .inl (cI, 240, .inl row)), (h2_ten, .inl (cI, 4, .inl ten)), (h2_pha, .inl (cI, 4, .inl pha)), (h2_set, .inl (cI, 3, .inl set))] [(h3, .inr (3, [.ref h3_str])), (h3_str, .inl (cI, 160, .inl str)), (h2, .inr (2, [.ref h2_row, .ref h2_ten, .ref h2_pha, .ref h2_set, .int len, .int kep])), (h2_row, .inl (cI, 240, .inl row)), (h2_ten, .inl (cI, 4, .inl ten)), (h2_pha, .inl (cI, 4, .inl pha)), (h2_set, .inl (cI, 3, .inl set))] z sz) (cc := cX3_placesToldBy) (maxL := 7) (ret := (some .int)) (by decide) rfl (Nat.le_of_ble_eq_true rfl) ?_
  intro p e s m args below meth c A Q H ls hx hb hml hr hts hown hlocks hAe hQ hK hN hA hP hD hS hl
  have hown : s.vm.findClass RX3 = some m.cls := hown
  have hl : lv_has ls 7 [(0, .ref h3), (1, .ref h2), (2, .int a2)] := hl
  have hP : va_P D vwCl ([(h3, .inr (3, [.ref h3_str])), (h3_str, .inl (cI, 160, .inl str)), (h2, .inr (2, [.ref h2_row, .ref h2_ten, .ref h2_pha, .ref h2_set, .int len, .int kep])), (h2_row, .inl (cI, 240, .inl row)), (h2_ten, .inl (cI, 4, .inl ten)), (h2_pha, .inl (cI, 4, .inl pha)), (h2_set, .inl (cI, 3, .inl set))] ++ []) H := hP
  have hD : va_D A ([(h3, .inr (3, [.ref h3_str])), (h3_str, .inl (cI, 160, .inl str)), (h2, .inr (2, [.ref h2_row, .ref h2_ten, .ref h2_pha, .ref h2_set, .int len, .int kep])), (h2_row, .inl (cI, 240, .inl row)), (h2_ten, .inl (cI, 4, .inl ten)), (h2_pha, .inl (cI, 4, .inl pha)), (h2_set, .inl (cI, 3, .inl set))] ++ []) := hD
  unfold fX3_placesToldBy at h
  refine lv_aload_n hx hb dX3_placesToldBy_0 rfl (lv_at hl 1 rfl) ?_
  obtain ⟨x1, hx1, h⟩ := bnd h
  refine pw_goi (wc := [(h2, .inr (2, [.ref h2_row, .ref h2_ten, .ref h2_pha, .ref h2_set, .int len, .int kep])), (h2_row, .inl (cI, 240, .inl row)), (h2_ten, .inl (cI, 4, .inl ten)), (h2_pha, .inl (cI, 4, .inl pha)), (h2_set, .inl (cI, 3, .inl set))]) (w1 := [(h2, .inr (2, [.ref h2_row, .ref h2_ten, .ref h2_pha, .ref h2_set, .int len, .int kep])), (h2_row, .inl (cI, 240, .inl row)), (h2_ten, .inl (cI, 4, .inl ten)), (h2_pha, .inl (cI, 4, .inl pha)), (h2_set, .inl (cI, 3, .inl set))]) (w2 := [(h3, .inr (3, [.ref h3_str])), (h3_str, .inl (cI, 160, .inl str)), (h2, .inr (2, [.ref h2_row, .ref h2_ten, .ref h2_pha, .ref h2_set, .int len, .int kep])), (h2_row, .inl (cI, 240, .inl row)), (h2_ten, .inl (cI, 4, .inl ten)), (h2_pha, .inl (cI, 4, .inl pha)), (h2_set, .inl (cI, 3, .inl set))]) (va_runV (As := []) (rest := []) ⟨hx, hb, hml, hown, hts⟩ (mX2_windowStart l D cI cO cJ h2 h2_row h2_ten h2_pha h2_set H.size row ten pha set len kep _ hx1) (cwV 0 hts gX3_placesToldBy_X2_windowStart rfl rfl rfl (by decide +kernel) ⟨Nat.le_of_ble_eq_true rfl, Nat.le_of_ble_eq_true rfl⟩) (pw_preV hK hN (pw_sub hP [2, 3, 4, 5, 6] rfl) (pw_subD hD [2, 3, 4, 5, 6] (by decide) rfl) (ci := 2) (q0 := 0) rfl rfl) rfl rfl hl.1 rfl (lv_room (Nat.le_of_ble_eq_true rfl)) dX3_placesToldBy_1 ⟨Nat.zero_le _, Nat.zero_le _⟩) hP hD hS hA [2, 3, 4, 5, 6] [0, 1] [0, 1, 2, 3, 4, 5, 6] rfl rfl (by decide) (by decide) (by decide) rfl (fun H locs hP hD hS => ?_)
  refine lv_istore_n (lv' := [(3, .int x1), (0, .ref h3), (1, .ref h2), (2, .int a2)]) hx hb dX3_placesToldBy_4 rfl hl (by decide) rfl (fun ls hl => ?_)
  refine lv_iload_n hx hb dX3_placesToldBy_5 rfl (lv_at hl 0 rfl) ?_
  refine lv_aload_n hx hb dX3_placesToldBy_6 rfl (lv_at hl 2 rfl) ?_
  obtain ⟨x2, hx2, h⟩ := bnd h
  refine pw_goi (wc := [(h2, .inr (2, [.ref h2_row, .ref h2_ten, .ref h2_pha, .ref h2_set, .int len, .int kep])), (h2_row, .inl (cI, 240, .inl row)), (h2_ten, .inl (cI, 4, .inl ten)), (h2_pha, .inl (cI, 4, .inl pha)), (h2_set, .inl (cI, 3, .inl set))]) (w1 := [(h2, .inr (2, [.ref h2_row, .ref h2_ten, .ref h2_pha, .ref h2_set, .int len, .int kep])), (h2_row, .inl (cI, 240, .inl row)), (h2_ten, .inl (cI, 4, .inl ten)), (h2_pha, .inl (cI, 4, .inl pha)), (h2_set, .inl (cI, 3, .inl set))]) (w2 := [(h3, .inr (3, [.ref h3_str])), (h3_str, .inl (cI, 160, .inl str)), (h2, .inr (2, [.ref h2_row, .ref h2_ten, .ref h2_pha, .ref h2_set, .int len, .int kep])), (h2_row, .inl (cI, 240, .inl row)), (h2_ten, .inl (cI, 4, .inl ten)), (h2_pha, .inl (cI, 4, .inl pha)), (h2_set, .inl (cI, 3, .inl set))]) (va_runV (As := []) (rest := [.int x1]) ⟨hx, hb, hml, hown, hts⟩ (mX2_windowPlaces l D cI cO cJ h2 h2_row h2_ten h2_pha h2_set H.size row ten pha set len kep _ hx2) (cwV 0 hts gX3_placesToldBy_X2_windowPlaces rfl rfl rfl (by decide +kernel) ⟨Nat.le_of_ble_eq_true rfl, Nat.le_of_ble_eq_true rfl⟩) (pw_preV hK hN (pw_sub hP [2, 3, 4, 5, 6] rfl) (pw_subD hD [2, 3, 4, 5, 6] (by decide) rfl) (ci := 2) (q0 := 0) rfl rfl) rfl rfl hl.1 rfl (lv_room (Nat.le_of_ble_eq_true rfl)) dX3_placesToldBy_7 ⟨Nat.zero_le _, Nat.zero_le _⟩) hP hD hS hA [2, 3, 4, 5, 6] [0, 1] [0, 1, 2, 3, 4, 5, 6] rfl rfl (by decide) (by decide) (by decide) rfl (fun H locs hP hD hS => ?_)
  refine lv_iadd hx hb dX3_placesToldBy_10 ?_
  refine lv_istore (lv' := [(4, .int (x1 + x2)), (3, .int x1), (0, .ref h3), (1, .ref h2), (2, .int a2)]) hx hb dX3_placesToldBy_11 hl (by decide) rfl (fun ls hl => ?_)
  refine lv_iconst (v := 0) hx hb dX3_placesToldBy_13 (by decide) ?_
  refine lv_istore (lv' := [(5, .int 0), (4, .int (x1 + x2)), (3, .int x1), (0, .ref h3), (1, .ref h2), (2, .int a2)]) hx hb dX3_placesToldBy_14 hl (by decide) rfl (fun ls hl => ?_)
  refine lv_iload_n hx hb dX3_placesToldBy_16 rfl (lv_at hl 2 rfl) ?_
  refine lv_istore (lv' := [(6, .int x1), (5, .int 0), (4, .int (x1 + x2)), (3, .int x1), (0, .ref h3), (1, .ref h2), (2, .int a2)]) hx hb dX3_placesToldBy_17 hl (by decide) rfl (fun ls hl => ?_)
  generalize hgy3 : (x1 + x2) = y3 at h hP hD hl ⊢
  have L19 : ∀ (n : Nat) (v5_19 : Int32) (v6_19 : Int32) (o19_1 : Int32) (H : Heap) (locs : List Loc) (ls : Array Slot), fX3_placesToldBy_L19 str ten pha set len kep a2 y3 n v5_19 v6_19 = some o19_1 → va_P D vwCl ([(h3, .inr (3, [.ref h3_str])), (h3_str, .inl (cI, 160, .inl str)), (h2, .inr (2, [.ref h2_row, .ref h2_ten, .ref h2_pha, .ref h2_set, .int len, .int kep])), (h2_row, .inl (cI, 240, .inl row)), (h2_ten, .inl (cI, 4, .inl ten)), (h2_pha, .inl (cI, 4, .inl pha)), (h2_set, .inl (cI, 3, .inl set))] ++ []) H → va_D A ([(h3, .inr (3, [.ref h3_str])), (h3_str, .inl (cI, 160, .inl str)), (h2, .inr (2, [.ref h2_row, .ref h2_ten, .ref h2_pha, .ref h2_set, .int len, .int kep])), (h2_row, .inl (cI, 240, .inl row)), (h2_ten, .inl (cI, 4, .inl ten)), (h2_pha, .inl (cI, 4, .inl pha)), (h2_set, .inl (cI, 3, .inl set))] ++ []) → va_S A s.heap H locs → lv_has ls 7 [(0, .ref h3), (1, .ref h2), (2, .int a2), (4, .int y3), (5, .int v5_19), (6, .int v6_19)] → (∀ (H : Heap) (locs : List Loc) (ls : Array Slot), va_P D vwCl ([(h3, .inr (3, [.ref h3_str])), (h3_str, .inl (cI, 160, .inl str)), (h2, .inr (2, [.ref h2_row, .ref h2_ten, .ref h2_pha, .ref h2_set, .int len, .int kep])), (h2_row, .inl (cI, 240, .inl row)), (h2_ten, .inl (cI, 4, .inl ten)), (h2_pha, .inl (cI, 4, .inl pha)), (h2_set, .inl (cI, 3, .inl set))] ++ []) H → va_D A ([(h3, .inr (3, [.ref h3_str])), (h3_str, .inl (cI, 160, .inl str)), (h2, .inr (2, [.ref h2_row, .ref h2_ten, .ref h2_pha, .ref h2_set, .int len, .int kep])), (h2_row, .inl (cI, 240, .inl row)), (h2_ten, .inl (cI, 4, .inl ten)), (h2_pha, .inl (cI, 4, .inl pha)), (h2_set, .inl (cI, 3, .inl set))] ++ []) → va_S A s.heap H locs → lv_has ls 7 [(5, .int o19_1)] → W p l e rmX3_placesToldBy s m args below meth c H locs 0 0 Q (F0 m 46 ls [])) → W p l e rmX3_placesToldBy s m args below meth c H locs 0 0 Q (F0 m 19 ls []) := by
    intro n
    induction n with
    | zero =>
      intro v5_19 v6_19 o19_1 H locs ls h
      rw [fX3_placesToldBy_L19] at h
      cases h
    | succ n ih =>
      intro v5_19 v6_19 o19_1 H locs ls h hP hD hS hl K
      rw [fX3_placesToldBy_L19] at h
      refine lv_iload hx hb dX3_placesToldBy_19 (lv_at hl 5 rfl) ?_
      refine lv_iload hx hb dX3_placesToldBy_21 (lv_at hl 3 rfl) ?_
      refine lv_icmp_ge (tgt := 46) hx hb dX3_placesToldBy_23 (by decide) (fun cq => ?_) (fun cq => ?_)
      · replace h := ifp cq h
        cases h
        exact K _ _ _ hP hD hS (lv_sub hl [4] rfl)
      · replace h := ifn cq h
        refine lv_aload_n hx hb dX3_placesToldBy_26 rfl (lv_at hl 0 rfl) ?_
        refine lv_aload_n hx hb dX3_placesToldBy_27 rfl (lv_at hl 1 rfl) ?_
        refine lv_iload hx hb dX3_placesToldBy_28 (lv_at hl 5 rfl) ?_
        obtain ⟨x4, hx4, h⟩ := bnd h
        refine pw_goi (wc := [(h3, .inr (3, [.ref h3_str])), (h3_str, .inl (cI, 160, .inl str)), (h2, .inr (2, [.ref h2_row, .ref h2_ten, .ref h2_pha, .ref h2_set, .int len, .int kep])), (h2_row, .inl (cI, 240, .inl row)), (h2_ten, .inl (cI, 4, .inl ten)), (h2_pha, .inl (cI, 4, .inl pha)), (h2_set, .inl (cI, 3, .inl set))]) (w1 := [(h3, .inr (3, [.ref h3_str])), (h3_str, .inl (cI, 160, .inl str)), (h2, .inr (2, [.ref h2_row, .ref h2_ten, .ref h2_pha, .ref h2_set, .int len, .int kep])), (h2_row, .inl (cI, 240, .inl row)), (h2_ten, .inl (cI, 4, .inl ten)), (h2_pha, .inl (cI, 4, .inl pha)), (h2_set, .inl (cI, 3, .inl set))]) (w2 := [(h3, .inr (3, [.ref h3_str])), (h3_str, .inl (cI, 160, .inl str)), (h2, .inr (2, [.ref h2_row, .ref h2_ten, .ref h2_pha, .ref h2_set, .int len, .int kep])), (h2_row, .inl (cI, 240, .inl row)), (h2_ten, .inl (cI, 4, .inl ten)), (h2_pha, .inl (cI, 4, .inl pha)), (h2_set, .inl (cI, 3, .inl set))]) (va_runV (As := [.ref h2, .int v6_19]) (rest := []) ⟨hx, hb, hml, hown, hts⟩ (mX3_tellerOf l D cI cO cJ h3 h3_str h2 h2_row h2_ten h2_pha h2_set H.size str row ten pha set len kep v6_19 _ hx4) (cwV 2 hts gX3_placesToldBy_X3_tellerOf rfl rfl rfl (by decide +kernel) ⟨Nat.le_of_ble_eq_true rfl, Nat.le_of_ble_eq_true rfl⟩) (pw_preV hK hN (pw_sub hP [0, 1, 2, 3, 4, 5, 6] rfl) (pw_subD hD [0, 1, 2, 3, 4, 5, 6] (by decide) rfl) (ci := 3) (q0 := 0) rfl rfl) rfl rfl hl.1 rfl (lv_room (Nat.le_of_ble_eq_true rfl)) dX3_placesToldBy_30 ⟨Nat.zero_le _, Nat.zero_le _⟩) hP hD hS hA [0, 1, 2, 3, 4, 5, 6] [] [0, 1, 2, 3, 4, 5, 6] rfl rfl (by decide) (by decide) (by decide) rfl (fun H locs hP hD hS => ?_)
        refine lv_iload_n hx hb dX3_placesToldBy_33 rfl (lv_at hl 2 rfl) ?_
        refine lv_icmp_ne (tgt := 40) hx hb dX3_placesToldBy_34 (by decide) (fun cq => ?_) (fun cq => ?_)
        · replace h := ifn cq h
          refine lv_iinc (v := (v6_19 + 1)) (lv' := [(6, .int (v6_19 + 1)), (0, .ref h3), (1, .ref h2), (2, .int a2), (4, .int y3), (5, .int v5_19)]) hx hb dX3_placesToldBy_40 hl (k := 5) rfl rfl (by decide) rfl (fun ls hl => ?_)
          refine lv_goto (tgt := 19) hx hb dX3_placesToldBy_43 (by decide) ?_
          exact ih _ _ _ _ _ _ h hP hD hS (lv_sub hl [1, 2, 3, 4, 5, 0] rfl) K
        · replace h := ifp cq h
          refine lv_iinc (v := (v5_19 + 1)) (lv' := [(5, .int (v5_19 + 1)), (0, .ref h3), (1, .ref h2), (2, .int a2), (4, .int y3), (6, .int v6_19)]) hx hb dX3_placesToldBy_37 hl (k := 4) rfl rfl (by decide) rfl (fun ls hl => ?_)
          refine lv_iinc (v := (v6_19 + 1)) (lv' := [(6, .int (v6_19 + 1)), (5, .int (v5_19 + 1)), (0, .ref h3), (1, .ref h2), (2, .int a2), (4, .int y3)]) hx hb dX3_placesToldBy_40 hl (k := 5) rfl rfl (by decide) rfl (fun ls hl => ?_)
          refine lv_goto (tgt := 19) hx hb dX3_placesToldBy_43 (by decide) ?_
          exact ih _ _ _ _ _ _ h hP hD hS (lv_sub hl [2, 3, 4, 5, 1, 0] rfl) K
  obtain ⟨x5, hx5, h⟩ := bnd h
  refine L19 FU _ _ _ _ _ _ hx5 hP hD hS (lv_sub hl [4, 5, 6, 2, 1, 0] rfl) (fun H locs ls hP hD hS hl => ?_)
  refine lv_iload hx hb dX3_placesToldBy_46 (lv_at hl 0 rfl) ?_
  cases h
  exact pw_iret hx hb hr hlocks hAe hQ hP hD hS dX3_placesToldBy_48
def fX3_longestStretch_L21 (str : Nat → Int32) (row : Nat → Int32) (ten : Nat → Int32) (pha : Nat → Int32) (set : Nat → Int32) (len : Int32) (kep : Int32) (y3 : Int32) : Nat → Int32 → Int32 → Int32 → Option Int32
  | 0, _, _, _ => none
  | n + 1, v4_21, v5_21, v6_21 =>
    if y3 ≤ v6_21 then
    some v4_21
    else
    (fX3_isExplained str row ten pha set len kep v6_21).bind fun x4 =>
    (if x4 = 0 then
    some 0
    else
    some (v5_21 + 1) : Option Int32).bind fun x5 =>
    fX3_longestStretch_L21 str row ten pha set len kep y3 n (if v4_21 < x5 then x5 else v4_21) x5 (v6_21 + 1)
def fX3_longestStretch (str : Nat → Int32) (row : Nat → Int32) (ten : Nat → Int32) (pha : Nat → Int32) (set : Nat → Int32) (len : Int32) (kep : Int32) : Option Int32 :=
  (fX2_windowStart set).bind fun x1 =>
  (fX2_windowPlaces set len).bind fun x2 =>
  (fX3_longestStretch_L21 str row ten pha set len kep (x1 + x2) FU 0 0 x1).bind fun x6 =>
  some x6
abbrev rmX3_longestStretch : Room := { frames := 7, cells := 0, slots := 0, locals := 153 }
set_option maxHeartbeats 4000000 in
set_option maxRecDepth 100000 in
theorem mX3_longestStretch (l : Launch) (D : va_G) (cI cO cJ : ClassId) (h3 h3_str h2 h2_row h2_ten h2_pha h2_set : Nat) (sz : Nat) (str : Nat → Int32) (row : Nat → Int32) (ten : Nat → Int32) (pha : Nat → Int32) (set : Nat → Int32) (len : Int32) (kep : Int32) (z : Int32) (h : fX3_longestStretch str row ten pha set len kep = some z) : Met l yX3_longestStretch wsX3_longestStretch rmX3_longestStretch (pw_pre D (tyL cI cO cJ) [.ref h3, .ref h2] [(h3, .inr (3, [.ref h3_str])), (h3_str, .inl (cI, 160, .inl str)), (h2, .inr (2, [.ref h2_row, .ref h2_ten, .ref h2_pha, .ref h2_set, .int len, .int kep])), (h2_row, .inl (cI, 240, .inl row)), (h2_ten, .inl (cI, 4, .inl ten)), (h2_pha, .inl (cI, 4, .inl pha)), (h2_set, .inl (cI, 3, .inl set))] sz) (pw_i D [(h3, .inr (3, [.ref h3_str])), (h3_str, .inl (cI, 160, .inl str)), (h2, .inr (2, [.ref h2_row, .ref h2_ten, .ref h2_pha, .ref h2_set, .int len, .int kep])), (h2_row, .inl (cI, 240, .inl row)), (h2_ten, .inl (cI, 4, .inl ten)), (h2_pha, .inl (cI, 4, .inl pha)), (h2_set, .inl (cI, 3, .inl set))] [(h3, .inr (3, [.ref h3_str])), (h3_str, .inl (cI, 160, .inl str)), (h2, .inr (2, [.ref h2_row, .ref h2_ten, .ref h2_pha, .ref h2_set, .int len, .int kep])), (h2_row, .inl (cI, 240, .inl row)), (h2_ten, .inl (cI, 4, .inl ten)), (h2_pha, .inl (cI, 4, .inl pha)), (h2_set, .inl (cI, 3, .inl set))] z sz) 0 0 (va_A [(h3, .inr (3, [.ref h3_str])), (h3_str, .inl (cI, 160, .inl str)), (h2, .inr (2, [.ref h2_row, .ref h2_ten, .ref h2_pha, .ref h2_set, .int len, .int kep])), (h2_row, .inl (cI, 240, .inl row)), (h2_ten, .inl (cI, 4, .inl ten)), (h2_pha, .inl (cI, 4, .inl pha)), (h2_set, .inl (cI, 3, .inl set))] sz) := by
  refine pw_of (Qc := fun sz => pw_i D [(h3, .inr (3, [.ref h3_str])), (h3_str, .inl (cI, 160, .inl str)), (h2, .inr (2, [.ref h2_row, .ref h2_ten, .ref h2_pha, .ref h2_set, .int len, .int kep])), (h2_row, .inl (cI, 240, .inl row)), (h2_ten, .inl (cI, 4, .inl ten)), (h2_pha, .inl (cI, 4, .inl pha)), (h2_set, .inl (cI, 3, .inl set))] [(h3, .inr (3, [.ref h3_str])), (h3_str, .inl (cI, 160, .inl str)), (h2, .inr (2, [.ref h2_row, .ref h2_ten, .ref h2_pha, .ref h2_set, .int len, .int kep])), (h2_row, .inl (cI, 240, .inl row)), (h2_ten, .inl (cI, 4, .inl ten)), (h2_pha, .inl (cI, 4, .inl pha)), (h2_set, .inl (cI, 3, .inl set))] z sz) (cc := cX3_longestStretch) (maxL := 7) (ret := (some .int)) (by decide) rfl (Nat.le_of_ble_eq_true rfl) ?_
  intro p e s m args below meth c A Q H ls hx hb hml hr hts hown hlocks hAe hQ hK hN hA hP hD hS hl
  have hown : s.vm.findClass RX3 = some m.cls := hown
  have hl : lv_has ls 7 [(0, .ref h3), (1, .ref h2)] := hl
  have hP : va_P D vwCl ([(h3, .inr (3, [.ref h3_str])), (h3_str, .inl (cI, 160, .inl str)), (h2, .inr (2, [.ref h2_row, .ref h2_ten, .ref h2_pha, .ref h2_set, .int len, .int kep])), (h2_row, .inl (cI, 240, .inl row)), (h2_ten, .inl (cI, 4, .inl ten)), (h2_pha, .inl (cI, 4, .inl pha)), (h2_set, .inl (cI, 3, .inl set))] ++ []) H := hP
  have hD : va_D A ([(h3, .inr (3, [.ref h3_str])), (h3_str, .inl (cI, 160, .inl str)), (h2, .inr (2, [.ref h2_row, .ref h2_ten, .ref h2_pha, .ref h2_set, .int len, .int kep])), (h2_row, .inl (cI, 240, .inl row)), (h2_ten, .inl (cI, 4, .inl ten)), (h2_pha, .inl (cI, 4, .inl pha)), (h2_set, .inl (cI, 3, .inl set))] ++ []) := hD
  unfold fX3_longestStretch at h
  refine lv_aload_n hx hb dX3_longestStretch_0 rfl (lv_at hl 1 rfl) ?_
  obtain ⟨x1, hx1, h⟩ := bnd h
  refine pw_goi (wc := [(h2, .inr (2, [.ref h2_row, .ref h2_ten, .ref h2_pha, .ref h2_set, .int len, .int kep])), (h2_row, .inl (cI, 240, .inl row)), (h2_ten, .inl (cI, 4, .inl ten)), (h2_pha, .inl (cI, 4, .inl pha)), (h2_set, .inl (cI, 3, .inl set))]) (w1 := [(h2, .inr (2, [.ref h2_row, .ref h2_ten, .ref h2_pha, .ref h2_set, .int len, .int kep])), (h2_row, .inl (cI, 240, .inl row)), (h2_ten, .inl (cI, 4, .inl ten)), (h2_pha, .inl (cI, 4, .inl pha)), (h2_set, .inl (cI, 3, .inl set))]) (w2 := [(h3, .inr (3, [.ref h3_str])), (h3_str, .inl (cI, 160, .inl str)), (h2, .inr (2, [.ref h2_row, .ref h2_ten, .ref h2_pha, .ref h2_set, .int len, .int kep])), (h2_row, .inl (cI, 240, .inl row)), (h2_ten, .inl (cI, 4, .inl ten)), (h2_pha, .inl (cI, 4, .inl pha)), (h2_set, .inl (cI, 3, .inl set))]) (va_runV (As := []) (rest := []) ⟨hx, hb, hml, hown, hts⟩ (mX2_windowStart l D cI cO cJ h2 h2_row h2_ten h2_pha h2_set H.size row ten pha set len kep _ hx1) (cwV 0 hts gX3_longestStretch_X2_windowStart rfl rfl rfl (by decide +kernel) ⟨Nat.le_of_ble_eq_true rfl, Nat.le_of_ble_eq_true rfl⟩) (pw_preV hK hN (pw_sub hP [2, 3, 4, 5, 6] rfl) (pw_subD hD [2, 3, 4, 5, 6] (by decide) rfl) (ci := 2) (q0 := 0) rfl rfl) rfl rfl hl.1 rfl (lv_room (Nat.le_of_ble_eq_true rfl)) dX3_longestStretch_1 ⟨Nat.zero_le _, Nat.zero_le _⟩) hP hD hS hA [2, 3, 4, 5, 6] [0, 1] [0, 1, 2, 3, 4, 5, 6] rfl rfl (by decide) (by decide) (by decide) rfl (fun H locs hP hD hS => ?_)
  refine lv_istore_n (lv' := [(2, .int x1), (0, .ref h3), (1, .ref h2)]) hx hb dX3_longestStretch_4 rfl hl (by decide) rfl (fun ls hl => ?_)
  refine lv_iload_n hx hb dX3_longestStretch_5 rfl (lv_at hl 0 rfl) ?_
  refine lv_aload_n hx hb dX3_longestStretch_6 rfl (lv_at hl 2 rfl) ?_
  obtain ⟨x2, hx2, h⟩ := bnd h
  refine pw_goi (wc := [(h2, .inr (2, [.ref h2_row, .ref h2_ten, .ref h2_pha, .ref h2_set, .int len, .int kep])), (h2_row, .inl (cI, 240, .inl row)), (h2_ten, .inl (cI, 4, .inl ten)), (h2_pha, .inl (cI, 4, .inl pha)), (h2_set, .inl (cI, 3, .inl set))]) (w1 := [(h2, .inr (2, [.ref h2_row, .ref h2_ten, .ref h2_pha, .ref h2_set, .int len, .int kep])), (h2_row, .inl (cI, 240, .inl row)), (h2_ten, .inl (cI, 4, .inl ten)), (h2_pha, .inl (cI, 4, .inl pha)), (h2_set, .inl (cI, 3, .inl set))]) (w2 := [(h3, .inr (3, [.ref h3_str])), (h3_str, .inl (cI, 160, .inl str)), (h2, .inr (2, [.ref h2_row, .ref h2_ten, .ref h2_pha, .ref h2_set, .int len, .int kep])), (h2_row, .inl (cI, 240, .inl row)), (h2_ten, .inl (cI, 4, .inl ten)), (h2_pha, .inl (cI, 4, .inl pha)), (h2_set, .inl (cI, 3, .inl set))]) (va_runV (As := []) (rest := [.int x1]) ⟨hx, hb, hml, hown, hts⟩ (mX2_windowPlaces l D cI cO cJ h2 h2_row h2_ten h2_pha h2_set H.size row ten pha set len kep _ hx2) (cwV 0 hts gX3_longestStretch_X2_windowPlaces rfl rfl rfl (by decide +kernel) ⟨Nat.le_of_ble_eq_true rfl, Nat.le_of_ble_eq_true rfl⟩) (pw_preV hK hN (pw_sub hP [2, 3, 4, 5, 6] rfl) (pw_subD hD [2, 3, 4, 5, 6] (by decide) rfl) (ci := 2) (q0 := 0) rfl rfl) rfl rfl hl.1 rfl (lv_room (Nat.le_of_ble_eq_true rfl)) dX3_longestStretch_7 ⟨Nat.zero_le _, Nat.zero_le _⟩) hP hD hS hA [2, 3, 4, 5, 6] [0, 1] [0, 1, 2, 3, 4, 5, 6] rfl rfl (by decide) (by decide) (by decide) rfl (fun H locs hP hD hS => ?_)
  refine lv_iadd hx hb dX3_longestStretch_10 ?_
  refine lv_istore_n (lv' := [(3, .int (x1 + x2)), (2, .int x1), (0, .ref h3), (1, .ref h2)]) hx hb dX3_longestStretch_11 rfl hl (by decide) rfl (fun ls hl => ?_)
  refine lv_iconst (v := 0) hx hb dX3_longestStretch_12 (by decide) ?_
  refine lv_istore (lv' := [(4, .int 0), (3, .int (x1 + x2)), (2, .int x1), (0, .ref h3), (1, .ref h2)]) hx hb dX3_longestStretch_13 hl (by decide) rfl (fun ls hl => ?_)
  refine lv_iconst (v := 0) hx hb dX3_longestStretch_15 (by decide) ?_
  refine lv_istore (lv' := [(5, .int 0), (4, .int 0), (3, .int (x1 + x2)), (2, .int x1), (0, .ref h3), (1, .ref h2)]) hx hb dX3_longestStretch_16 hl (by decide) rfl (fun ls hl => ?_)
  refine lv_iload_n hx hb dX3_longestStretch_18 rfl (lv_at hl 3 rfl) ?_
  refine lv_istore (lv' := [(6, .int x1), (5, .int 0), (4, .int 0), (3, .int (x1 + x2)), (2, .int x1), (0, .ref h3), (1, .ref h2)]) hx hb dX3_longestStretch_19 hl (by decide) rfl (fun ls hl => ?_)
  generalize hgy3 : (x1 + x2) = y3 at h hP hD hl ⊢
  have L21 : ∀ (n : Nat) (v4_21 : Int32) (v5_21 : Int32) (v6_21 : Int32) (o21_1 : Int32) (H : Heap) (locs : List Loc) (ls : Array Slot), fX3_longestStretch_L21 str row ten pha set len kep y3 n v4_21 v5_21 v6_21 = some o21_1 → va_P D vwCl ([(h3, .inr (3, [.ref h3_str])), (h3_str, .inl (cI, 160, .inl str)), (h2, .inr (2, [.ref h2_row, .ref h2_ten, .ref h2_pha, .ref h2_set, .int len, .int kep])), (h2_row, .inl (cI, 240, .inl row)), (h2_ten, .inl (cI, 4, .inl ten)), (h2_pha, .inl (cI, 4, .inl pha)), (h2_set, .inl (cI, 3, .inl set))] ++ []) H → va_D A ([(h3, .inr (3, [.ref h3_str])), (h3_str, .inl (cI, 160, .inl str)), (h2, .inr (2, [.ref h2_row, .ref h2_ten, .ref h2_pha, .ref h2_set, .int len, .int kep])), (h2_row, .inl (cI, 240, .inl row)), (h2_ten, .inl (cI, 4, .inl ten)), (h2_pha, .inl (cI, 4, .inl pha)), (h2_set, .inl (cI, 3, .inl set))] ++ []) → va_S A s.heap H locs → lv_has ls 7 [(0, .ref h3), (1, .ref h2), (3, .int y3), (4, .int v4_21), (5, .int v5_21), (6, .int v6_21)] → (∀ (H : Heap) (locs : List Loc) (ls : Array Slot), va_P D vwCl ([(h3, .inr (3, [.ref h3_str])), (h3_str, .inl (cI, 160, .inl str)), (h2, .inr (2, [.ref h2_row, .ref h2_ten, .ref h2_pha, .ref h2_set, .int len, .int kep])), (h2_row, .inl (cI, 240, .inl row)), (h2_ten, .inl (cI, 4, .inl ten)), (h2_pha, .inl (cI, 4, .inl pha)), (h2_set, .inl (cI, 3, .inl set))] ++ []) H → va_D A ([(h3, .inr (3, [.ref h3_str])), (h3_str, .inl (cI, 160, .inl str)), (h2, .inr (2, [.ref h2_row, .ref h2_ten, .ref h2_pha, .ref h2_set, .int len, .int kep])), (h2_row, .inl (cI, 240, .inl row)), (h2_ten, .inl (cI, 4, .inl ten)), (h2_pha, .inl (cI, 4, .inl pha)), (h2_set, .inl (cI, 3, .inl set))] ++ []) → va_S A s.heap H locs → lv_has ls 7 [(4, .int o21_1)] → W p l e rmX3_longestStretch s m args below meth c H locs 0 0 Q (F0 m 62 ls [])) → W p l e rmX3_longestStretch s m args below meth c H locs 0 0 Q (F0 m 21 ls []) := by
    intro n
    induction n with
    | zero =>
      intro v4_21 v5_21 v6_21 o21_1 H locs ls h
      rw [fX3_longestStretch_L21] at h
      cases h
    | succ n ih =>
      intro v4_21 v5_21 v6_21 o21_1 H locs ls h hP hD hS hl K
      rw [fX3_longestStretch_L21] at h
      refine lv_iload hx hb dX3_longestStretch_21 (lv_at hl 5 rfl) ?_
      refine lv_iload_n hx hb dX3_longestStretch_23 rfl (lv_at hl 2 rfl) ?_
      refine lv_icmp_ge (tgt := 62) hx hb dX3_longestStretch_24 (by decide) (fun cq => ?_) (fun cq => ?_)
      · replace h := ifp cq h
        cases h
        exact K _ _ _ hP hD hS (lv_sub hl [3] rfl)
      · replace h := ifn cq h
        refine lv_aload_n hx hb dX3_longestStretch_27 rfl (lv_at hl 0 rfl) ?_
        refine lv_aload_n hx hb dX3_longestStretch_28 rfl (lv_at hl 1 rfl) ?_
        refine lv_iload hx hb dX3_longestStretch_29 (lv_at hl 5 rfl) ?_
        obtain ⟨x4, hx4, h⟩ := bnd h
        refine pw_goi (wc := [(h3, .inr (3, [.ref h3_str])), (h3_str, .inl (cI, 160, .inl str)), (h2, .inr (2, [.ref h2_row, .ref h2_ten, .ref h2_pha, .ref h2_set, .int len, .int kep])), (h2_row, .inl (cI, 240, .inl row)), (h2_ten, .inl (cI, 4, .inl ten)), (h2_pha, .inl (cI, 4, .inl pha)), (h2_set, .inl (cI, 3, .inl set))]) (w1 := [(h3, .inr (3, [.ref h3_str])), (h3_str, .inl (cI, 160, .inl str)), (h2, .inr (2, [.ref h2_row, .ref h2_ten, .ref h2_pha, .ref h2_set, .int len, .int kep])), (h2_row, .inl (cI, 240, .inl row)), (h2_ten, .inl (cI, 4, .inl ten)), (h2_pha, .inl (cI, 4, .inl pha)), (h2_set, .inl (cI, 3, .inl set))]) (w2 := [(h3, .inr (3, [.ref h3_str])), (h3_str, .inl (cI, 160, .inl str)), (h2, .inr (2, [.ref h2_row, .ref h2_ten, .ref h2_pha, .ref h2_set, .int len, .int kep])), (h2_row, .inl (cI, 240, .inl row)), (h2_ten, .inl (cI, 4, .inl ten)), (h2_pha, .inl (cI, 4, .inl pha)), (h2_set, .inl (cI, 3, .inl set))]) (va_runV (As := [.ref h2, .int v6_21]) (rest := []) ⟨hx, hb, hml, hown, hts⟩ (mX3_isExplained l D cI cO cJ h3 h3_str h2 h2_row h2_ten h2_pha h2_set H.size str row ten pha set len kep v6_21 _ hx4) (cwV 2 hts gX3_longestStretch_X3_isExplained rfl rfl rfl (by decide +kernel) ⟨Nat.le_of_ble_eq_true rfl, Nat.le_of_ble_eq_true rfl⟩) (pw_preV hK hN (pw_sub hP [0, 1, 2, 3, 4, 5, 6] rfl) (pw_subD hD [0, 1, 2, 3, 4, 5, 6] (by decide) rfl) (ci := 3) (q0 := 0) rfl rfl) rfl rfl hl.1 rfl (lv_room (Nat.le_of_ble_eq_true rfl)) dX3_longestStretch_31 ⟨Nat.zero_le _, Nat.zero_le _⟩) hP hD hS hA [0, 1, 2, 3, 4, 5, 6] [] [0, 1, 2, 3, 4, 5, 6] rfl rfl (by decide) (by decide) (by decide) rfl (fun H locs hP hD hS => ?_)
        obtain ⟨x5, hx5, h⟩ := bnd h
        have Jx5 : ∀ (H : Heap) (locs : List Loc) (ls : Array Slot), va_P D vwCl ([(h3, .inr (3, [.ref h3_str])), (h3_str, .inl (cI, 160, .inl str)), (h2, .inr (2, [.ref h2_row, .ref h2_ten, .ref h2_pha, .ref h2_set, .int len, .int kep])), (h2_row, .inl (cI, 240, .inl row)), (h2_ten, .inl (cI, 4, .inl ten)), (h2_pha, .inl (cI, 4, .inl pha)), (h2_set, .inl (cI, 3, .inl set))] ++ []) H → va_D A ([(h3, .inr (3, [.ref h3_str])), (h3_str, .inl (cI, 160, .inl str)), (h2, .inr (2, [.ref h2_row, .ref h2_ten, .ref h2_pha, .ref h2_set, .int len, .int kep])), (h2_row, .inl (cI, 240, .inl row)), (h2_ten, .inl (cI, 4, .inl ten)), (h2_pha, .inl (cI, 4, .inl pha)), (h2_set, .inl (cI, 3, .inl set))] ++ []) → va_S A s.heap H locs → lv_has ls 7 [(0, .ref h3), (1, .ref h2), (3, .int y3), (4, .int v4_21), (6, .int v6_21)] → W p l e rmX3_longestStretch s m args below meth c H locs 0 0 Q (F0 m 45 ls [.int x5]) := by
          intro H locs ls hP hD hS hl
          refine lv_istore (lv' := [(5, .int x5), (0, .ref h3), (1, .ref h2), (3, .int y3), (4, .int v4_21), (6, .int v6_21)]) hx hb dX3_longestStretch_45 hl (by decide) rfl (fun ls hl => ?_)
          refine lv_iload hx hb dX3_longestStretch_47 (lv_at hl 4 rfl) ?_
          refine lv_iload hx hb dX3_longestStretch_49 (lv_at hl 0 rfl) ?_
          refine va_mmax hx hb (hml.trans hl.1.symm) hown (hts (.methodLink RX3 71 Lib.Math.max.name) (by decide +kernel)) (hts (.static Lib.Math.max.name) (by decide +kernel)) (hts (.initialized "java/lang/Math") (by decide +kernel)) (hts (.code Lib.Math.max.name Lib.Math.max.code 2 (some .int)) (by decide +kernel)) (Nat.le_of_ble_eq_true rfl) (Nat.le_of_ble_eq_true rfl) (Nat.zero_le _) (Nat.zero_le _) dX3_longestStretch_51 ?_
          refine lv_istore (lv' := [(4, .int (if v4_21 < x5 then x5 else v4_21)), (5, .int x5), (0, .ref h3), (1, .ref h2), (3, .int y3), (6, .int v6_21)]) hx hb dX3_longestStretch_54 hl (by decide) rfl (fun ls hl => ?_)
          refine lv_iinc (v := (v6_21 + 1)) (lv' := [(6, .int (v6_21 + 1)), (4, .int (if v4_21 < x5 then x5 else v4_21)), (5, .int x5), (0, .ref h3), (1, .ref h2), (3, .int y3)]) hx hb dX3_longestStretch_56 hl (k := 5) rfl rfl (by decide) rfl (fun ls hl => ?_)
          refine lv_goto (tgt := 21) hx hb dX3_longestStretch_59 (by decide) ?_
          exact ih _ _ _ _ _ _ _ h hP hD hS (lv_sub hl [3, 4, 5, 1, 2, 0] rfl) K
        replace h := hx5
        refine lv_if_eq (tgt := 44) hx hb dX3_longestStretch_34 (by decide) (fun cq => ?_) (fun cq => ?_)
        · replace h := ifp cq h
          refine lv_iconst (v := 0) hx hb dX3_longestStretch_44 (by decide) ?_
          cases h
          exact Jx5 _ _ _ hP hD hS (lv_sub hl [0, 1, 2, 3, 5] rfl)
        · replace h := ifn cq h
          refine lv_iload hx hb dX3_longestStretch_37 (lv_at hl 4 rfl) ?_
          refine lv_iconst (v := 1) hx hb dX3_longestStretch_39 (by decide) ?_
          refine lv_iadd hx hb dX3_longestStretch_40 ?_
          refine lv_goto (tgt := 45) hx hb dX3_longestStretch_41 (by decide) ?_
          cases h
          exact Jx5 _ _ _ hP hD hS (lv_sub hl [0, 1, 2, 3, 5] rfl)
  obtain ⟨x6, hx6, h⟩ := bnd h
  refine L21 FU _ _ _ _ _ _ _ hx6 hP hD hS (lv_sub hl [5, 6, 3, 2, 1, 0] rfl) (fun H locs ls hP hD hS hl => ?_)
  refine lv_iload hx hb dX3_longestStretch_62 (lv_at hl 0 rfl) ?_
  cases h
  exact pw_iret hx hb hr hlocks hAe hQ hP hD hS dX3_longestStretch_64
def fX4_add (cod : Nat → Int32) (tln : Int32) (a1 : Int32) : Option ((Nat → Int32) × Int32) :=
  (fX5_lay cod 60 tln a1).bind fun x1 =>
  some (x1, (tln + 1))
abbrev rmX4_add : Room := { frames := 1, cells := 0, slots := 0, locals := 22 }
set_option maxHeartbeats 4000000 in
set_option maxRecDepth 100000 in
theorem mX4_add (l : Launch) (D : va_G) (cI cO cJ : ClassId) (h4 h4_cod h4_unf : Nat) (sz : Nat) (cod : Nat → Int32) (unf : Nat → Int32) (tln : Int32) (a1 : Int32) (z : (Nat → Int32) × Int32) (h : fX4_add cod tln a1 = some z) : Met l yX4_add wsX4_add rmX4_add (pw_pre D (tyL cI cO cJ) [.ref h4, .int a1] [(h4, .inr (4, [.ref h4_cod, .ref h4_unf, .int tln])), (h4_cod, .inl (cI, 60, .inl cod)), (h4_unf, .inl (cI, 540, .inl unf))] sz) (pw_v D [(h4, .inr (4, [.ref h4_cod, .ref h4_unf, .int tln])), (h4_cod, .inl (cI, 60, .inl cod)), (h4_unf, .inl (cI, 540, .inl unf))] [(h4, .inr (4, [.ref h4_cod, .ref h4_unf, .int z.2])), (h4_cod, .inl (cI, 60, .inl z.1)), (h4_unf, .inl (cI, 540, .inl unf))] sz) 0 0 (va_A [(h4, .inr (4, [.ref h4_cod, .ref h4_unf, .int tln])), (h4_cod, .inl (cI, 60, .inl cod)), (h4_unf, .inl (cI, 540, .inl unf))] sz) := by
  refine pw_of (Qc := fun sz => pw_v D [(h4, .inr (4, [.ref h4_cod, .ref h4_unf, .int tln])), (h4_cod, .inl (cI, 60, .inl cod)), (h4_unf, .inl (cI, 540, .inl unf))] [(h4, .inr (4, [.ref h4_cod, .ref h4_unf, .int z.2])), (h4_cod, .inl (cI, 60, .inl z.1)), (h4_unf, .inl (cI, 540, .inl unf))] sz) (cc := cX4_add) (maxL := 2) (ret := none) (by decide) rfl (Nat.le_of_ble_eq_true rfl) ?_
  intro p e s m args below meth c A Q H ls hx hb hml hr hts hown hlocks hAe hQ hK hN hA hP hD hS hl
  have hown : s.vm.findClass RX4 = some m.cls := hown
  have hl : lv_has ls 2 [(0, .ref h4), (1, .int a1)] := hl
  have hP : va_P D vwCl ([(h4, .inr (4, [.ref h4_cod, .ref h4_unf, .int tln])), (h4_cod, .inl (cI, 60, .inl cod)), (h4_unf, .inl (cI, 540, .inl unf))] ++ []) H := hP
  have hD : va_D A ([(h4, .inr (4, [.ref h4_cod, .ref h4_unf, .int tln])), (h4_cod, .inl (cI, 60, .inl cod)), (h4_unf, .inl (cI, 540, .inl unf))] ++ []) := hD
  have iX4 : ∀ w ∈ u_ws RX4 TX4 3, w ∈ wsX4_add := fun _ h => List.mem_cons_of_mem _ (List.mem_append_right _ h)
  unfold fX4_add at h
  refine lv_aload_n hx hb dX4_add_0 rfl (lv_at hl 0 rfl) ?_
  refine va_get (D := D) (ci := 4) (v := .ref h4_cod) (C := RX4) (T := TX4) (N := 3) hx hb hts iX4 hown hK hP 0 rfl rfl 0 (by decide) (hts (.fieldLink RX4 9 "HiddenPeriods$Text" "codes" "[I") (by decide +kernel)) (fun _ h9 => h9) rfl dX4_add_1 ?_
  refine lv_aload_n hx hb dX4_add_4 rfl (lv_at hl 0 rfl) ?_
  refine va_get (D := D) (ci := 4) (v := .int tln) (C := RX4) (T := TX4) (N := 3) hx hb hts iX4 hown hK hP 0 rfl rfl 2 (by decide) (hts (.fieldLink RX4 18 "HiddenPeriods$Text" "length" "I") (by decide +kernel)) (fun _ h9 => h9) rfl dX4_add_5 ?_
  refine lv_iload_n hx hb dX4_add_8 rfl (lv_at hl 1 rfl) ?_
  obtain ⟨x1, hx1, h⟩ := bnd h
  refine pw_gov (wc := [(h4_cod, .inl (cI, 60, .inl cod))]) (w1 := [(h4_cod, .inl (cI, 60, .inl x1))]) (w2 := [(h4, .inr (4, [.ref h4_cod, .ref h4_unf, .int tln])), (h4_cod, .inl (cI, 60, .inl x1)), (h4_unf, .inl (cI, 540, .inl unf))]) (va_runSN (As := [.ref h4_cod, .int tln, .int a1]) (rest := []) ⟨hx, hb, hml, hown, hts⟩ (mX5_lay l D cI cO cJ h4_cod H.size cod 60 tln a1 _ hx1) ⟨va_cnB 3 hts gX4_add_X5_lay_n22 rfl rfl rfl (hN (.methodLinkNest RX4 22 yX5_lay "HiddenPeriods") (by decide +kernel)) (hts (.initialized RX5) (by decide +kernel)) (by decide +kernel) ⟨Nat.le_of_ble_eq_true rfl, Nat.le_of_ble_eq_true rfl⟩, (hts (.static yX5_lay) (by decide +kernel)), trivial⟩ (pw_preS hK hN (pw_sub hP [1] rfl) (pw_subD hD [1] (by decide) rfl)) rfl rfl hl.1 rfl (lv_room (Nat.le_of_ble_eq_true rfl)) dX4_add_9 ⟨Nat.zero_le _, Nat.zero_le _⟩) hP hD hS hA [1] [0, 2] [0, 2, 1] rfl rfl (by decide) (by decide) (by decide) rfl (fun H locs hP hD hS => ?_)
  refine lv_aload_n hx hb dX4_add_12 rfl (lv_at hl 0 rfl) ?_
  refine lv_dup hx hb dX4_add_13 rfl ?_
  refine va_get (D := D) (ci := 4) (v := .int tln) (C := RX4) (T := TX4) (N := 3) hx hb hts iX4 hown hK hP 0 rfl rfl 2 (by decide) (hts (.fieldLink RX4 18 "HiddenPeriods$Text" "length" "I") (by decide +kernel)) (fun _ h9 => h9) rfl dX4_add_14 ?_
  refine lv_iconst (v := 1) hx hb dX4_add_17 (by decide) ?_
  refine lv_iadd hx hb dX4_add_18 ?_
  refine va_put (D := D) (ci := 4) (v := .int (tln + 1)) (ty := .int) (C := RX4) (T := TX4) (N := 3) hx hb hts iX4 tyX4 tyX4_ok nmX4 hown hK hP hD hS 0 rfl rfl 2 (by decide) (hts (.fieldLink RX4 18 "HiddenPeriods$Text" "length" "I") (by decide +kernel)) (fun _ h9 => h9) rfl (by decide +kernel) rfl rfl (Nat.le_of_ble_eq_true rfl) dX4_add_19 (fun H locs hP hD hS => ?_)
  have hP : va_P D vwCl ([(h4, .inr (4, [.ref h4_cod, .ref h4_unf, .int (tln + 1)])), (h4_cod, .inl (cI, 60, .inl x1)), (h4_unf, .inl (cI, 540, .inl unf))] ++ []) H := hP
  have hD : va_D A ([(h4, .inr (4, [.ref h4_cod, .ref h4_unf, .int (tln + 1)])), (h4_cod, .inl (cI, 60, .inl x1)), (h4_unf, .inl (cI, 540, .inl unf))] ++ []) := hD
  cases h
  exact pw_vret hx hb hr hlocks hAe hQ hP hD hS dX4_add_22
def fX4_codeAt (cod : Nat → Int32) (a1 : Int32) : Option Int32 :=
  (fX5_cellAt cod 60 a1).bind fun x1 =>
  some x1
abbrev rmX4_codeAt : Room := { frames := 1, cells := 0, slots := 0, locals := 21 }
set_option maxHeartbeats 4000000 in
set_option maxRecDepth 100000 in
theorem mX4_codeAt (l : Launch) (D : va_G) (cI cO cJ : ClassId) (h4 h4_cod h4_unf : Nat) (sz : Nat) (cod : Nat → Int32) (unf : Nat → Int32) (tln : Int32) (a1 : Int32) (z : Int32) (h : fX4_codeAt cod a1 = some z) : Met l yX4_codeAt wsX4_codeAt rmX4_codeAt (pw_pre D (tyL cI cO cJ) [.ref h4, .int a1] [(h4, .inr (4, [.ref h4_cod, .ref h4_unf, .int tln])), (h4_cod, .inl (cI, 60, .inl cod)), (h4_unf, .inl (cI, 540, .inl unf))] sz) (pw_i D [(h4, .inr (4, [.ref h4_cod, .ref h4_unf, .int tln])), (h4_cod, .inl (cI, 60, .inl cod)), (h4_unf, .inl (cI, 540, .inl unf))] [(h4, .inr (4, [.ref h4_cod, .ref h4_unf, .int tln])), (h4_cod, .inl (cI, 60, .inl cod)), (h4_unf, .inl (cI, 540, .inl unf))] z sz) 0 0 (va_A [(h4, .inr (4, [.ref h4_cod, .ref h4_unf, .int tln])), (h4_cod, .inl (cI, 60, .inl cod)), (h4_unf, .inl (cI, 540, .inl unf))] sz) := by
  refine pw_of (Qc := fun sz => pw_i D [(h4, .inr (4, [.ref h4_cod, .ref h4_unf, .int tln])), (h4_cod, .inl (cI, 60, .inl cod)), (h4_unf, .inl (cI, 540, .inl unf))] [(h4, .inr (4, [.ref h4_cod, .ref h4_unf, .int tln])), (h4_cod, .inl (cI, 60, .inl cod)), (h4_unf, .inl (cI, 540, .inl unf))] z sz) (cc := cX4_codeAt) (maxL := 2) (ret := (some .int)) (by decide) rfl (Nat.le_of_ble_eq_true rfl) ?_
  intro p e s m args below meth c A Q H ls hx hb hml hr hts hown hlocks hAe hQ hK hN hA hP hD hS hl
  have hown : s.vm.findClass RX4 = some m.cls := hown
  have hl : lv_has ls 2 [(0, .ref h4), (1, .int a1)] := hl
  have hP : va_P D vwCl ([(h4, .inr (4, [.ref h4_cod, .ref h4_unf, .int tln])), (h4_cod, .inl (cI, 60, .inl cod)), (h4_unf, .inl (cI, 540, .inl unf))] ++ []) H := hP
  have hD : va_D A ([(h4, .inr (4, [.ref h4_cod, .ref h4_unf, .int tln])), (h4_cod, .inl (cI, 60, .inl cod)), (h4_unf, .inl (cI, 540, .inl unf))] ++ []) := hD
  have iX4 : ∀ w ∈ u_ws RX4 TX4 3, w ∈ wsX4_codeAt := fun _ h => List.mem_cons_of_mem _ (List.mem_append_right _ h)
  unfold fX4_codeAt at h
  refine lv_aload_n hx hb dX4_codeAt_0 rfl (lv_at hl 0 rfl) ?_
  refine va_get (D := D) (ci := 4) (v := .ref h4_cod) (C := RX4) (T := TX4) (N := 3) hx hb hts iX4 hown hK hP 0 rfl rfl 0 (by decide) (hts (.fieldLink RX4 9 "HiddenPeriods$Text" "codes" "[I") (by decide +kernel)) (fun _ h9 => h9) rfl dX4_codeAt_1 ?_
  refine lv_iload_n hx hb dX4_codeAt_4 rfl (lv_at hl 1 rfl) ?_
  obtain ⟨x1, hx1, h⟩ := bnd h
  refine pw_goi (wc := [(h4_cod, .inl (cI, 60, .inl cod))]) (w1 := [(h4_cod, .inl (cI, 60, .inl cod))]) (w2 := [(h4, .inr (4, [.ref h4_cod, .ref h4_unf, .int tln])), (h4_cod, .inl (cI, 60, .inl cod)), (h4_unf, .inl (cI, 540, .inl unf))]) (va_runSN (As := [.ref h4_cod, .int a1]) (rest := []) ⟨hx, hb, hml, hown, hts⟩ (mX5_cellAt l D cI cO cJ h4_cod H.size cod 60 a1 _ hx1) ⟨va_cnB 2 hts gX4_codeAt_X5_cellAt_n26 rfl rfl rfl (hN (.methodLinkNest RX4 26 yX5_cellAt "HiddenPeriods") (by decide +kernel)) (hts (.initialized RX5) (by decide +kernel)) (by decide +kernel) ⟨Nat.le_of_ble_eq_true rfl, Nat.le_of_ble_eq_true rfl⟩, (hts (.static yX5_cellAt) (by decide +kernel)), trivial⟩ (pw_preS hK hN (pw_sub hP [1] rfl) (pw_subD hD [1] (by decide) rfl)) rfl rfl hl.1 rfl (lv_room (Nat.le_of_ble_eq_true rfl)) dX4_codeAt_5 ⟨Nat.zero_le _, Nat.zero_le _⟩) hP hD hS hA [1] [0, 2] [0, 2, 1] rfl rfl (by decide) (by decide) (by decide) rfl (fun H locs hP hD hS => ?_)
  cases h
  exact pw_iret hx hb hr hlocks hAe hQ hP hD hS dX4_codeAt_8
def fX4_unfoldedAt (unf : Nat → Int32) (a1 : Int32) : Option Int32 :=
  (fX5_cellAt unf 540 a1).bind fun x1 =>
  some x1
abbrev rmX4_unfoldedAt : Room := { frames := 1, cells := 0, slots := 0, locals := 21 }
set_option maxHeartbeats 4000000 in
set_option maxRecDepth 100000 in
theorem mX4_unfoldedAt (l : Launch) (D : va_G) (cI cO cJ : ClassId) (h4 h4_cod h4_unf : Nat) (sz : Nat) (cod : Nat → Int32) (unf : Nat → Int32) (tln : Int32) (a1 : Int32) (z : Int32) (h : fX4_unfoldedAt unf a1 = some z) : Met l yX4_unfoldedAt wsX4_unfoldedAt rmX4_unfoldedAt (pw_pre D (tyL cI cO cJ) [.ref h4, .int a1] [(h4, .inr (4, [.ref h4_cod, .ref h4_unf, .int tln])), (h4_cod, .inl (cI, 60, .inl cod)), (h4_unf, .inl (cI, 540, .inl unf))] sz) (pw_i D [(h4, .inr (4, [.ref h4_cod, .ref h4_unf, .int tln])), (h4_cod, .inl (cI, 60, .inl cod)), (h4_unf, .inl (cI, 540, .inl unf))] [(h4, .inr (4, [.ref h4_cod, .ref h4_unf, .int tln])), (h4_cod, .inl (cI, 60, .inl cod)), (h4_unf, .inl (cI, 540, .inl unf))] z sz) 0 0 (va_A [(h4, .inr (4, [.ref h4_cod, .ref h4_unf, .int tln])), (h4_cod, .inl (cI, 60, .inl cod)), (h4_unf, .inl (cI, 540, .inl unf))] sz) := by
  refine pw_of (Qc := fun sz => pw_i D [(h4, .inr (4, [.ref h4_cod, .ref h4_unf, .int tln])), (h4_cod, .inl (cI, 60, .inl cod)), (h4_unf, .inl (cI, 540, .inl unf))] [(h4, .inr (4, [.ref h4_cod, .ref h4_unf, .int tln])), (h4_cod, .inl (cI, 60, .inl cod)), (h4_unf, .inl (cI, 540, .inl unf))] z sz) (cc := cX4_unfoldedAt) (maxL := 2) (ret := (some .int)) (by decide) rfl (Nat.le_of_ble_eq_true rfl) ?_
  intro p e s m args below meth c A Q H ls hx hb hml hr hts hown hlocks hAe hQ hK hN hA hP hD hS hl
  have hown : s.vm.findClass RX4 = some m.cls := hown
  have hl : lv_has ls 2 [(0, .ref h4), (1, .int a1)] := hl
  have hP : va_P D vwCl ([(h4, .inr (4, [.ref h4_cod, .ref h4_unf, .int tln])), (h4_cod, .inl (cI, 60, .inl cod)), (h4_unf, .inl (cI, 540, .inl unf))] ++ []) H := hP
  have hD : va_D A ([(h4, .inr (4, [.ref h4_cod, .ref h4_unf, .int tln])), (h4_cod, .inl (cI, 60, .inl cod)), (h4_unf, .inl (cI, 540, .inl unf))] ++ []) := hD
  have iX4 : ∀ w ∈ u_ws RX4 TX4 3, w ∈ wsX4_unfoldedAt := fun _ h => List.mem_cons_of_mem _ (List.mem_append_right _ h)
  unfold fX4_unfoldedAt at h
  refine lv_aload_n hx hb dX4_unfoldedAt_0 rfl (lv_at hl 0 rfl) ?_
  refine va_get (D := D) (ci := 4) (v := .ref h4_unf) (C := RX4) (T := TX4) (N := 3) hx hb hts iX4 hown hK hP 0 rfl rfl 1 (by decide) (hts (.fieldLink RX4 15 "HiddenPeriods$Text" "unfolded" "[I") (by decide +kernel)) (fun _ h9 => h9) rfl dX4_unfoldedAt_1 ?_
  refine lv_iload_n hx hb dX4_unfoldedAt_4 rfl (lv_at hl 1 rfl) ?_
  obtain ⟨x1, hx1, h⟩ := bnd h
  refine pw_goi (wc := [(h4_unf, .inl (cI, 540, .inl unf))]) (w1 := [(h4_unf, .inl (cI, 540, .inl unf))]) (w2 := [(h4, .inr (4, [.ref h4_cod, .ref h4_unf, .int tln])), (h4_cod, .inl (cI, 60, .inl cod)), (h4_unf, .inl (cI, 540, .inl unf))]) (va_runSN (As := [.ref h4_unf, .int a1]) (rest := []) ⟨hx, hb, hml, hown, hts⟩ (mX5_cellAt l D cI cO cJ h4_unf H.size unf 540 a1 _ hx1) ⟨va_cnB 2 hts gX4_unfoldedAt_X5_cellAt_n26 rfl rfl rfl (hN (.methodLinkNest RX4 26 yX5_cellAt "HiddenPeriods") (by decide +kernel)) (hts (.initialized RX5) (by decide +kernel)) (by decide +kernel) ⟨Nat.le_of_ble_eq_true rfl, Nat.le_of_ble_eq_true rfl⟩, (hts (.static yX5_cellAt) (by decide +kernel)), trivial⟩ (pw_preS hK hN (pw_sub hP [2] rfl) (pw_subD hD [2] (by decide) rfl)) rfl rfl hl.1 rfl (lv_room (Nat.le_of_ble_eq_true rfl)) dX4_unfoldedAt_5 ⟨Nat.zero_le _, Nat.zero_le _⟩) hP hD hS hA [2] [0, 1] [0, 1, 2] rfl rfl (by decide) (by decide) (by decide) rfl (fun H locs hP hD hS => ?_)
  cases h
  exact pw_iret hx hb hr hlocks hAe hQ hP hD hS dX4_unfoldedAt_8
def fX4_isLetter (a1 : Int32) : Option Int32 :=
  if a1 < 97 then
  some 0
  else
  if 100 < a1 then
  some 0
  else
  some 1
abbrev rmX4_isLetter : Room := { frames := 0, cells := 0, slots := 0, locals := 0 }
set_option maxHeartbeats 4000000 in
set_option maxRecDepth 100000 in
theorem mX4_isLetter (l : Launch) (D : va_G) (cI cO cJ : ClassId) (sz : Nat) (a1 : Int32) (z : Int32) (h : fX4_isLetter a1 = some z) : Met l yX4_isLetter wsX4_isLetter rmX4_isLetter (pw_pre D (tyL cI cO cJ) [.int a1] [] sz) (pw_i D [] [] z sz) 0 0 (va_A [] sz) := by
  refine pw_of (Qc := fun sz => pw_i D [] [] z sz) (cc := cX4_isLetter) (maxL := 1) (ret := (some .boolean)) (by decide) rfl (Nat.le_of_ble_eq_true rfl) ?_
  intro p e s m args below meth c A Q H ls hx hb hml hr hts hown hlocks hAe hQ hK hN hA hP hD hS hl
  have hown : s.vm.findClass RX4 = some m.cls := hown
  have hl : lv_has ls 1 [(0, .int a1)] := hl
  unfold fX4_isLetter at h
  refine lv_iload_n hx hb dX4_isLetter_0 rfl (lv_at hl 0 rfl) ?_
  refine lv_bipush (v := 97) hx hb dX4_isLetter_1 (by decide) ?_
  refine lv_icmp_lt (tgt := 16) hx hb dX4_isLetter_3 (by decide) (fun cq => ?_) (fun cq => ?_)
  · replace h := ifp cq h
    refine lv_iconst (v := 0) hx hb dX4_isLetter_16 (by decide) ?_
    cases h
    exact pw_zret hx hb hr hlocks hAe (by decide) hQ hP hD hS dX4_isLetter_17
  · replace h := ifn cq h
    refine lv_iload_n hx hb dX4_isLetter_6 rfl (lv_at hl 0 rfl) ?_
    refine lv_bipush (v := 100) hx hb dX4_isLetter_7 (by decide) ?_
    refine lv_icmp_gt (tgt := 16) hx hb dX4_isLetter_9 (by decide) (fun cq => ?_) (fun cq => ?_)
    · replace h := ifp cq h
      refine lv_iconst (v := 0) hx hb dX4_isLetter_16 (by decide) ?_
      cases h
      exact pw_zret hx hb hr hlocks hAe (by decide) hQ hP hD hS dX4_isLetter_17
    · replace h := ifn cq h
      refine lv_iconst (v := 1) hx hb dX4_isLetter_12 (by decide) ?_
      refine lv_goto (tgt := 17) hx hb dX4_isLetter_13 (by decide) ?_
      cases h
      exact pw_zret hx hb hr hlocks hAe (by decide) hQ hP hD hS dX4_isLetter_17
def fX4_isTimes (a1 : Int32) : Option Int32 :=
  if a1 < 50 then
  some 0
  else
  if 57 < a1 then
  some 0
  else
  some 1
abbrev rmX4_isTimes : Room := { frames := 0, cells := 0, slots := 0, locals := 0 }
set_option maxHeartbeats 4000000 in
set_option maxRecDepth 100000 in
theorem mX4_isTimes (l : Launch) (D : va_G) (cI cO cJ : ClassId) (sz : Nat) (a1 : Int32) (z : Int32) (h : fX4_isTimes a1 = some z) : Met l yX4_isTimes wsX4_isTimes rmX4_isTimes (pw_pre D (tyL cI cO cJ) [.int a1] [] sz) (pw_i D [] [] z sz) 0 0 (va_A [] sz) := by
  refine pw_of (Qc := fun sz => pw_i D [] [] z sz) (cc := cX4_isTimes) (maxL := 1) (ret := (some .boolean)) (by decide) rfl (Nat.le_of_ble_eq_true rfl) ?_
  intro p e s m args below meth c A Q H ls hx hb hml hr hts hown hlocks hAe hQ hK hN hA hP hD hS hl
  have hown : s.vm.findClass RX4 = some m.cls := hown
  have hl : lv_has ls 1 [(0, .int a1)] := hl
  unfold fX4_isTimes at h
  refine lv_iload_n hx hb dX4_isTimes_0 rfl (lv_at hl 0 rfl) ?_
  refine lv_bipush (v := 50) hx hb dX4_isTimes_1 (by decide) ?_
  refine lv_icmp_lt (tgt := 16) hx hb dX4_isTimes_3 (by decide) (fun cq => ?_) (fun cq => ?_)
  · replace h := ifp cq h
    refine lv_iconst (v := 0) hx hb dX4_isTimes_16 (by decide) ?_
    cases h
    exact pw_zret hx hb hr hlocks hAe (by decide) hQ hP hD hS dX4_isTimes_17
  · replace h := ifn cq h
    refine lv_iload_n hx hb dX4_isTimes_6 rfl (lv_at hl 0 rfl) ?_
    refine lv_bipush (v := 57) hx hb dX4_isTimes_7 (by decide) ?_
    refine lv_icmp_gt (tgt := 16) hx hb dX4_isTimes_9 (by decide) (fun cq => ?_) (fun cq => ?_)
    · replace h := ifp cq h
      refine lv_iconst (v := 0) hx hb dX4_isTimes_16 (by decide) ?_
      cases h
      exact pw_zret hx hb hr hlocks hAe (by decide) hQ hP hD hS dX4_isTimes_17
    · replace h := ifn cq h
      refine lv_iconst (v := 1) hx hb dX4_isTimes_12 (by decide) ?_
      refine lv_goto (tgt := 17) hx hb dX4_isTimes_13 (by decide) ?_
      cases h
      exact pw_zret hx hb hr hlocks hAe (by decide) hQ hP hD hS dX4_isTimes_17
def fX4_stageAfter (a1 : Int32) (a2 : Int32) : Option Int32 :=
  if a1 = 0 then
  (fX4_isLetter a2).bind fun x4 =>
  if x4 = 0 then
  if a2 = 40 then
  some 1
  else
  some 4
  else
  some 0
  else
  if a1 = 1 then
  (fX4_isLetter a2).bind fun x3 =>
  if x3 = 0 then
  some 4
  else
  some 2
  else
  if a1 = 2 then
  (fX4_isLetter a2).bind fun x2 =>
  if x2 = 0 then
  if a2 = 41 then
  some 3
  else
  some 4
  else
  some 2
  else
  if a1 = 3 then
  (fX4_isTimes a2).bind fun x1 =>
  if x1 = 0 then
  some 4
  else
  some 0
  else
  some 4
abbrev rmX4_stageAfter : Room := { frames := 1, cells := 0, slots := 0, locals := 20 }
set_option maxHeartbeats 4000000 in
set_option maxRecDepth 100000 in
theorem mX4_stageAfter (l : Launch) (D : va_G) (cI cO cJ : ClassId) (sz : Nat) (a1 : Int32) (a2 : Int32) (z : Int32) (h : fX4_stageAfter a1 a2 = some z) : Met l yX4_stageAfter wsX4_stageAfter rmX4_stageAfter (pw_pre D (tyL cI cO cJ) [.int a1, .int a2] [] sz) (pw_i D [] [] z sz) 0 0 (va_A [] sz) := by
  refine pw_of (Qc := fun sz => pw_i D [] [] z sz) (cc := cX4_stageAfter) (maxL := 2) (ret := (some .int)) (by decide) rfl (Nat.le_of_ble_eq_true rfl) ?_
  intro p e s m args below meth c A Q H ls hx hb hml hr hts hown hlocks hAe hQ hK hN hA hP hD hS hl
  have hown : s.vm.findClass RX4 = some m.cls := hown
  have hl : lv_has ls 2 [(0, .int a1), (1, .int a2)] := hl
  unfold fX4_stageAfter at h
  refine lv_iload_n hx hb dX4_stageAfter_0 rfl (lv_at hl 0 rfl) ?_
  refine lv_if_ne (tgt := 27) hx hb dX4_stageAfter_1 (by decide) (fun cq => ?_) (fun cq => ?_)
  · replace h := ifn cq h
    refine lv_iload_n hx hb dX4_stageAfter_27 rfl (lv_at hl 0 rfl) ?_
    refine lv_iconst (v := 1) hx hb dX4_stageAfter_28 (by decide) ?_
    refine lv_icmp_ne (tgt := 45) hx hb dX4_stageAfter_29 (by decide) (fun cq => ?_) (fun cq => ?_)
    · replace h := ifn cq h
      refine lv_iload_n hx hb dX4_stageAfter_45 rfl (lv_at hl 0 rfl) ?_
      refine lv_iconst (v := 2) hx hb dX4_stageAfter_46 (by decide) ?_
      refine lv_icmp_ne (tgt := 73) hx hb dX4_stageAfter_47 (by decide) (fun cq => ?_) (fun cq => ?_)
      · replace h := ifn cq h
        refine lv_iload_n hx hb dX4_stageAfter_73 rfl (lv_at hl 0 rfl) ?_
        refine lv_iconst (v := 3) hx hb dX4_stageAfter_74 (by decide) ?_
        refine lv_icmp_ne (tgt := 89) hx hb dX4_stageAfter_75 (by decide) (fun cq => ?_) (fun cq => ?_)
        · replace h := ifn cq h
          refine lv_iconst (v := 4) hx hb dX4_stageAfter_89 (by decide) ?_
          cases h
          exact pw_iret hx hb hr hlocks hAe hQ hP hD hS dX4_stageAfter_90
        · replace h := ifp cq h
          refine lv_iload_n hx hb dX4_stageAfter_78 rfl (lv_at hl 1 rfl) ?_
          obtain ⟨x1, hx1, h⟩ := bnd h
          refine pw_go0 (va_runS (As := [.int a2]) (rest := []) ⟨hx, hb, hml, hown, hts⟩ (mX4_isTimes l D cI cO cJ H.size a2 _ hx1) (va_cwS 1 hts gX4_stageAfter_X4_isTimes rfl rfl rfl (by decide +kernel) ⟨Nat.le_of_ble_eq_true rfl, Nat.le_of_ble_eq_true rfl⟩) (pw_preS hK hN pw_nilP (pw_nilD (A := A))) rfl rfl hl.1 rfl (lv_room (Nat.le_of_ble_eq_true rfl)) dX4_stageAfter_79 ⟨Nat.zero_le _, Nat.zero_le _⟩) hP hS hA (fun H locs hP hS => ?_)
          refine lv_if_eq (tgt := 89) hx hb dX4_stageAfter_82 (by decide) (fun cq => ?_) (fun cq => ?_)
          · replace h := ifp cq h
            refine lv_iconst (v := 4) hx hb dX4_stageAfter_89 (by decide) ?_
            cases h
            exact pw_iret hx hb hr hlocks hAe hQ hP hD hS dX4_stageAfter_90
          · replace h := ifn cq h
            refine lv_iconst (v := 0) hx hb dX4_stageAfter_85 (by decide) ?_
            refine lv_goto (tgt := 90) hx hb dX4_stageAfter_86 (by decide) ?_
            cases h
            exact pw_iret hx hb hr hlocks hAe hQ hP hD hS dX4_stageAfter_90
      · replace h := ifp cq h
        refine lv_iload_n hx hb dX4_stageAfter_50 rfl (lv_at hl 1 rfl) ?_
        obtain ⟨x2, hx2, h⟩ := bnd h
        refine pw_go0 (va_runS (As := [.int a2]) (rest := []) ⟨hx, hb, hml, hown, hts⟩ (mX4_isLetter l D cI cO cJ H.size a2 _ hx2) (va_cwS 1 hts gX4_stageAfter_X4_isLetter rfl rfl rfl (by decide +kernel) ⟨Nat.le_of_ble_eq_true rfl, Nat.le_of_ble_eq_true rfl⟩) (pw_preS hK hN pw_nilP (pw_nilD (A := A))) rfl rfl hl.1 rfl (lv_room (Nat.le_of_ble_eq_true rfl)) dX4_stageAfter_51 ⟨Nat.zero_le _, Nat.zero_le _⟩) hP hS hA (fun H locs hP hS => ?_)
        refine lv_if_eq (tgt := 61) hx hb dX4_stageAfter_54 (by decide) (fun cq => ?_) (fun cq => ?_)
        · replace h := ifp cq h
          refine lv_iload_n hx hb dX4_stageAfter_61 rfl (lv_at hl 1 rfl) ?_
          refine lv_bipush (v := 41) hx hb dX4_stageAfter_62 (by decide) ?_
          refine lv_icmp_ne (tgt := 71) hx hb dX4_stageAfter_64 (by decide) (fun cq => ?_) (fun cq => ?_)
          · replace h := ifn cq h
            refine lv_iconst (v := 4) hx hb dX4_stageAfter_71 (by decide) ?_
            cases h
            exact pw_iret hx hb hr hlocks hAe hQ hP hD hS dX4_stageAfter_72
          · replace h := ifp cq h
            refine lv_iconst (v := 3) hx hb dX4_stageAfter_67 (by decide) ?_
            refine lv_goto (tgt := 72) hx hb dX4_stageAfter_68 (by decide) ?_
            cases h
            exact pw_iret hx hb hr hlocks hAe hQ hP hD hS dX4_stageAfter_72
        · replace h := ifn cq h
          refine lv_iconst (v := 2) hx hb dX4_stageAfter_57 (by decide) ?_
          refine lv_goto (tgt := 72) hx hb dX4_stageAfter_58 (by decide) ?_
          cases h
          exact pw_iret hx hb hr hlocks hAe hQ hP hD hS dX4_stageAfter_72
    · replace h := ifp cq h
      refine lv_iload_n hx hb dX4_stageAfter_32 rfl (lv_at hl 1 rfl) ?_
      obtain ⟨x3, hx3, h⟩ := bnd h
      refine pw_go0 (va_runS (As := [.int a2]) (rest := []) ⟨hx, hb, hml, hown, hts⟩ (mX4_isLetter l D cI cO cJ H.size a2 _ hx3) (va_cwS 1 hts gX4_stageAfter_X4_isLetter rfl rfl rfl (by decide +kernel) ⟨Nat.le_of_ble_eq_true rfl, Nat.le_of_ble_eq_true rfl⟩) (pw_preS hK hN pw_nilP (pw_nilD (A := A))) rfl rfl hl.1 rfl (lv_room (Nat.le_of_ble_eq_true rfl)) dX4_stageAfter_33 ⟨Nat.zero_le _, Nat.zero_le _⟩) hP hS hA (fun H locs hP hS => ?_)
      refine lv_if_eq (tgt := 43) hx hb dX4_stageAfter_36 (by decide) (fun cq => ?_) (fun cq => ?_)
      · replace h := ifp cq h
        refine lv_iconst (v := 4) hx hb dX4_stageAfter_43 (by decide) ?_
        cases h
        exact pw_iret hx hb hr hlocks hAe hQ hP hD hS dX4_stageAfter_44
      · replace h := ifn cq h
        refine lv_iconst (v := 2) hx hb dX4_stageAfter_39 (by decide) ?_
        refine lv_goto (tgt := 44) hx hb dX4_stageAfter_40 (by decide) ?_
        cases h
        exact pw_iret hx hb hr hlocks hAe hQ hP hD hS dX4_stageAfter_44
  · replace h := ifp cq h
    refine lv_iload_n hx hb dX4_stageAfter_4 rfl (lv_at hl 1 rfl) ?_
    obtain ⟨x4, hx4, h⟩ := bnd h
    refine pw_go0 (va_runS (As := [.int a2]) (rest := []) ⟨hx, hb, hml, hown, hts⟩ (mX4_isLetter l D cI cO cJ H.size a2 _ hx4) (va_cwS 1 hts gX4_stageAfter_X4_isLetter rfl rfl rfl (by decide +kernel) ⟨Nat.le_of_ble_eq_true rfl, Nat.le_of_ble_eq_true rfl⟩) (pw_preS hK hN pw_nilP (pw_nilD (A := A))) rfl rfl hl.1 rfl (lv_room (Nat.le_of_ble_eq_true rfl)) dX4_stageAfter_5 ⟨Nat.zero_le _, Nat.zero_le _⟩) hP hS hA (fun H locs hP hS => ?_)
    refine lv_if_eq (tgt := 15) hx hb dX4_stageAfter_8 (by decide) (fun cq => ?_) (fun cq => ?_)
    · replace h := ifp cq h
      refine lv_iload_n hx hb dX4_stageAfter_15 rfl (lv_at hl 1 rfl) ?_
      refine lv_bipush (v := 40) hx hb dX4_stageAfter_16 (by decide) ?_
      refine lv_icmp_ne (tgt := 25) hx hb dX4_stageAfter_18 (by decide) (fun cq => ?_) (fun cq => ?_)
      · replace h := ifn cq h
        refine lv_iconst (v := 4) hx hb dX4_stageAfter_25 (by decide) ?_
        cases h
        exact pw_iret hx hb hr hlocks hAe hQ hP hD hS dX4_stageAfter_26
      · replace h := ifp cq h
        refine lv_iconst (v := 1) hx hb dX4_stageAfter_21 (by decide) ?_
        refine lv_goto (tgt := 26) hx hb dX4_stageAfter_22 (by decide) ?_
        cases h
        exact pw_iret hx hb hr hlocks hAe hQ hP hD hS dX4_stageAfter_26
    · replace h := ifn cq h
      refine lv_iconst (v := 0) hx hb dX4_stageAfter_11 (by decide) ?_
      refine lv_goto (tgt := 26) hx hb dX4_stageAfter_12 (by decide) ?_
      cases h
      exact pw_iret hx hb hr hlocks hAe hQ hP hD hS dX4_stageAfter_26
def fX4_errorIndex_L4 (cod : Nat → Int32) (tln : Int32) : Nat → Int32 → Int32 → Option Int32
  | 0, _, _ => none
  | n + 1, v1_4, v2_4 =>
    if tln ≤ v2_4 then
    some tln
    else
    (fX4_codeAt cod v2_4).bind fun x1 =>
    (fX4_stageAfter v1_4 x1).bind fun x2 =>
    if x2 = 4 then
    some v2_4
    else
    fX4_errorIndex_L4 cod tln n x2 (v2_4 + 1)
def fX4_errorIndex (cod : Nat → Int32) (tln : Int32) : Option Int32 :=
  fX4_errorIndex_L4 cod tln FU 0 0
abbrev rmX4_errorIndex : Room := { frames := 2, cells := 0, slots := 0, locals := 42 }
set_option maxHeartbeats 4000000 in
set_option maxRecDepth 100000 in
theorem mX4_errorIndex (l : Launch) (D : va_G) (cI cO cJ : ClassId) (h4 h4_cod h4_unf : Nat) (sz : Nat) (cod : Nat → Int32) (unf : Nat → Int32) (tln : Int32) (z : Int32) (h : fX4_errorIndex cod tln = some z) : Met l yX4_errorIndex wsX4_errorIndex rmX4_errorIndex (pw_pre D (tyL cI cO cJ) [.ref h4] [(h4, .inr (4, [.ref h4_cod, .ref h4_unf, .int tln])), (h4_cod, .inl (cI, 60, .inl cod)), (h4_unf, .inl (cI, 540, .inl unf))] sz) (pw_i D [(h4, .inr (4, [.ref h4_cod, .ref h4_unf, .int tln])), (h4_cod, .inl (cI, 60, .inl cod)), (h4_unf, .inl (cI, 540, .inl unf))] [(h4, .inr (4, [.ref h4_cod, .ref h4_unf, .int tln])), (h4_cod, .inl (cI, 60, .inl cod)), (h4_unf, .inl (cI, 540, .inl unf))] z sz) 0 0 (va_A [(h4, .inr (4, [.ref h4_cod, .ref h4_unf, .int tln])), (h4_cod, .inl (cI, 60, .inl cod)), (h4_unf, .inl (cI, 540, .inl unf))] sz) := by
  refine pw_of (Qc := fun sz => pw_i D [(h4, .inr (4, [.ref h4_cod, .ref h4_unf, .int tln])), (h4_cod, .inl (cI, 60, .inl cod)), (h4_unf, .inl (cI, 540, .inl unf))] [(h4, .inr (4, [.ref h4_cod, .ref h4_unf, .int tln])), (h4_cod, .inl (cI, 60, .inl cod)), (h4_unf, .inl (cI, 540, .inl unf))] z sz) (cc := cX4_errorIndex) (maxL := 3) (ret := (some .int)) (by decide) rfl (Nat.le_of_ble_eq_true rfl) ?_
  intro p e s m args below meth c A Q H ls hx hb hml hr hts hown hlocks hAe hQ hK hN hA hP hD hS hl
  have hown : s.vm.findClass RX4 = some m.cls := hown
  have hl : lv_has ls 3 [(0, .ref h4)] := hl
  have hP : va_P D vwCl ([(h4, .inr (4, [.ref h4_cod, .ref h4_unf, .int tln])), (h4_cod, .inl (cI, 60, .inl cod)), (h4_unf, .inl (cI, 540, .inl unf))] ++ []) H := hP
  have hD : va_D A ([(h4, .inr (4, [.ref h4_cod, .ref h4_unf, .int tln])), (h4_cod, .inl (cI, 60, .inl cod)), (h4_unf, .inl (cI, 540, .inl unf))] ++ []) := hD
  have iX4 : ∀ w ∈ u_ws RX4 TX4 3, w ∈ wsX4_errorIndex := fun _ h => List.mem_cons_of_mem _ (List.mem_append_right _ h)
  unfold fX4_errorIndex at h
  refine lv_iconst (v := 0) hx hb dX4_errorIndex_0 (by decide) ?_
  refine lv_istore_n (lv' := [(1, .int 0), (0, .ref h4)]) hx hb dX4_errorIndex_1 rfl hl (by decide) rfl (fun ls hl => ?_)
  refine lv_iconst (v := 0) hx hb dX4_errorIndex_2 (by decide) ?_
  refine lv_istore_n (lv' := [(2, .int 0), (1, .int 0), (0, .ref h4)]) hx hb dX4_errorIndex_3 rfl hl (by decide) rfl (fun ls hl => ?_)
  have L4 : ∀ (n : Nat) (v1_4 : Int32) (v2_4 : Int32) (H : Heap) (locs : List Loc) (ls : Array Slot), fX4_errorIndex_L4 cod tln n v1_4 v2_4 = some z → va_P D vwCl ([(h4, .inr (4, [.ref h4_cod, .ref h4_unf, .int tln])), (h4_cod, .inl (cI, 60, .inl cod)), (h4_unf, .inl (cI, 540, .inl unf))] ++ []) H → va_D A ([(h4, .inr (4, [.ref h4_cod, .ref h4_unf, .int tln])), (h4_cod, .inl (cI, 60, .inl cod)), (h4_unf, .inl (cI, 540, .inl unf))] ++ []) → va_S A s.heap H locs → lv_has ls 3 [(0, .ref h4), (1, .int v1_4), (2, .int v2_4)] → W p l e rmX4_errorIndex s m args below meth c H locs 0 0 Q (F0 m 4 ls []) := by
    intro n
    induction n with
    | zero =>
      intro v1_4 v2_4 H locs ls h
      rw [fX4_errorIndex_L4] at h
      cases h
    | succ n ih =>
      intro v1_4 v2_4 H locs ls h hP hD hS hl
      rw [fX4_errorIndex_L4] at h
      refine lv_iload_n hx hb dX4_errorIndex_4 rfl (lv_at hl 2 rfl) ?_
      refine lv_aload_n hx hb dX4_errorIndex_5 rfl (lv_at hl 0 rfl) ?_
      refine va_get (D := D) (ci := 4) (v := .int tln) (C := RX4) (T := TX4) (N := 3) hx hb hts iX4 hown hK hP 0 rfl rfl 2 (by decide) (hts (.fieldLink RX4 18 "HiddenPeriods$Text" "length" "I") (by decide +kernel)) (fun _ h9 => h9) rfl dX4_errorIndex_6 ?_
      refine lv_icmp_ge (tgt := 35) hx hb dX4_errorIndex_9 (by decide) (fun cq => ?_) (fun cq => ?_)
      · replace h := ifp cq h
        refine lv_aload_n hx hb dX4_errorIndex_35 rfl (lv_at hl 0 rfl) ?_
        refine va_get (D := D) (ci := 4) (v := .int tln) (C := RX4) (T := TX4) (N := 3) hx hb hts iX4 hown hK hP 0 rfl rfl 2 (by decide) (hts (.fieldLink RX4 18 "HiddenPeriods$Text" "length" "I") (by decide +kernel)) (fun _ h9 => h9) rfl dX4_errorIndex_36 ?_
        cases h
        exact pw_iret hx hb hr hlocks hAe hQ hP hD hS dX4_errorIndex_39
      · replace h := ifn cq h
        refine lv_iload_n hx hb dX4_errorIndex_12 rfl (lv_at hl 1 rfl) ?_
        refine lv_aload_n hx hb dX4_errorIndex_13 rfl (lv_at hl 0 rfl) ?_
        refine lv_iload_n hx hb dX4_errorIndex_14 rfl (lv_at hl 2 rfl) ?_
        obtain ⟨x1, hx1, h⟩ := bnd h
        refine pw_goi (wc := [(h4, .inr (4, [.ref h4_cod, .ref h4_unf, .int tln])), (h4_cod, .inl (cI, 60, .inl cod)), (h4_unf, .inl (cI, 540, .inl unf))]) (w1 := [(h4, .inr (4, [.ref h4_cod, .ref h4_unf, .int tln])), (h4_cod, .inl (cI, 60, .inl cod)), (h4_unf, .inl (cI, 540, .inl unf))]) (w2 := [(h4, .inr (4, [.ref h4_cod, .ref h4_unf, .int tln])), (h4_cod, .inl (cI, 60, .inl cod)), (h4_unf, .inl (cI, 540, .inl unf))]) (va_runV (As := [.int v2_4]) (rest := [.int v1_4]) ⟨hx, hb, hml, hown, hts⟩ (mX4_codeAt l D cI cO cJ h4 h4_cod h4_unf H.size cod unf tln v2_4 _ hx1) (cwV 1 hts gX4_errorIndex_X4_codeAt rfl rfl rfl (by decide +kernel) ⟨Nat.le_of_ble_eq_true rfl, Nat.le_of_ble_eq_true rfl⟩) (pw_preV hK hN (pw_sub hP [0, 1, 2] rfl) (pw_subD hD [0, 1, 2] (by decide) rfl) (ci := 4) (q0 := 0) rfl rfl) rfl rfl hl.1 rfl (lv_room (Nat.le_of_ble_eq_true rfl)) dX4_errorIndex_15 ⟨Nat.zero_le _, Nat.zero_le _⟩) hP hD hS hA [0, 1, 2] [] [0, 1, 2] rfl rfl (by decide) (by decide) (by decide) rfl (fun H locs hP hD hS => ?_)
        obtain ⟨x2, hx2, h⟩ := bnd h
        refine pw_go0 (va_runS (As := [.int v1_4, .int x1]) (rest := []) ⟨hx, hb, hml, hown, hts⟩ (mX4_stageAfter l D cI cO cJ H.size v1_4 x1 _ hx2) (va_cwS 2 hts gX4_errorIndex_X4_stageAfter rfl rfl rfl (by decide +kernel) ⟨Nat.le_of_ble_eq_true rfl, Nat.le_of_ble_eq_true rfl⟩) (pw_preS hK hN pw_nilP (pw_nilD (A := A))) rfl rfl hl.1 rfl (lv_room (Nat.le_of_ble_eq_true rfl)) dX4_errorIndex_18 ⟨Nat.zero_le _, Nat.zero_le _⟩) hP hS hA (fun H locs hP hS => ?_)
        refine lv_istore_n (lv' := [(1, .int x2), (0, .ref h4), (2, .int v2_4)]) hx hb dX4_errorIndex_21 rfl hl (by decide) rfl (fun ls hl => ?_)
        refine lv_iload_n hx hb dX4_errorIndex_22 rfl (lv_at hl 0 rfl) ?_
        refine lv_iconst (v := 4) hx hb dX4_errorIndex_23 (by decide) ?_
        refine lv_icmp_ne (tgt := 29) hx hb dX4_errorIndex_24 (by decide) (fun cq => ?_) (fun cq => ?_)
        · replace h := ifn cq h
          refine lv_iinc (v := (v2_4 + 1)) (lv' := [(2, .int (v2_4 + 1)), (1, .int x2), (0, .ref h4)]) hx hb dX4_errorIndex_29 hl (k := 2) rfl rfl (by decide) rfl (fun ls hl => ?_)
          refine lv_goto (tgt := 4) hx hb dX4_errorIndex_32 (by decide) ?_
          exact ih _ _ _ _ _ h hP hD hS (lv_sub hl [2, 1, 0] rfl)
        · replace h := ifp cq h
          refine lv_iload_n hx hb dX4_errorIndex_27 rfl (lv_at hl 2 rfl) ?_
          cases h
          exact pw_iret hx hb hr hlocks hAe hQ hP hD hS dX4_errorIndex_28
  exact L4 FU _ _ _ _ _ h hP hD hS (lv_sub hl [2, 1, 0] rfl)
def fX4_isComplete_L4 (cod : Nat → Int32) (tln : Int32) : Nat → Int32 → Int32 → Option Int32
  | 0, _, _ => none
  | n + 1, v1_4, v2_4 =>
    if tln ≤ v2_4 then
    some v1_4
    else
    (fX4_codeAt cod v2_4).bind fun x1 =>
    (fX4_stageAfter v1_4 x1).bind fun x2 =>
    fX4_isComplete_L4 cod tln n x2 (v2_4 + 1)
def fX4_isComplete (cod : Nat → Int32) (tln : Int32) : Option Int32 :=
  (fX4_isComplete_L4 cod tln FU 0 0).bind fun x3 =>
  if tln ≤ 0 then
  some 0
  else
  if x3 = 0 then
  some 1
  else
  some 0
abbrev rmX4_isComplete : Room := { frames := 2, cells := 0, slots := 0, locals := 42 }
set_option maxHeartbeats 4000000 in
set_option maxRecDepth 100000 in
theorem mX4_isComplete (l : Launch) (D : va_G) (cI cO cJ : ClassId) (h4 h4_cod h4_unf : Nat) (sz : Nat) (cod : Nat → Int32) (unf : Nat → Int32) (tln : Int32) (z : Int32) (h : fX4_isComplete cod tln = some z) : Met l yX4_isComplete wsX4_isComplete rmX4_isComplete (pw_pre D (tyL cI cO cJ) [.ref h4] [(h4, .inr (4, [.ref h4_cod, .ref h4_unf, .int tln])), (h4_cod, .inl (cI, 60, .inl cod)), (h4_unf, .inl (cI, 540, .inl unf))] sz) (pw_i D [(h4, .inr (4, [.ref h4_cod, .ref h4_unf, .int tln])), (h4_cod, .inl (cI, 60, .inl cod)), (h4_unf, .inl (cI, 540, .inl unf))] [(h4, .inr (4, [.ref h4_cod, .ref h4_unf, .int tln])), (h4_cod, .inl (cI, 60, .inl cod)), (h4_unf, .inl (cI, 540, .inl unf))] z sz) 0 0 (va_A [(h4, .inr (4, [.ref h4_cod, .ref h4_unf, .int tln])), (h4_cod, .inl (cI, 60, .inl cod)), (h4_unf, .inl (cI, 540, .inl unf))] sz) := by
  refine pw_of (Qc := fun sz => pw_i D [(h4, .inr (4, [.ref h4_cod, .ref h4_unf, .int tln])), (h4_cod, .inl (cI, 60, .inl cod)), (h4_unf, .inl (cI, 540, .inl unf))] [(h4, .inr (4, [.ref h4_cod, .ref h4_unf, .int tln])), (h4_cod, .inl (cI, 60, .inl cod)), (h4_unf, .inl (cI, 540, .inl unf))] z sz) (cc := cX4_isComplete) (maxL := 3) (ret := (some .boolean)) (by decide) rfl (Nat.le_of_ble_eq_true rfl) ?_
  intro p e s m args below meth c A Q H ls hx hb hml hr hts hown hlocks hAe hQ hK hN hA hP hD hS hl
  have hown : s.vm.findClass RX4 = some m.cls := hown
  have hl : lv_has ls 3 [(0, .ref h4)] := hl
  have hP : va_P D vwCl ([(h4, .inr (4, [.ref h4_cod, .ref h4_unf, .int tln])), (h4_cod, .inl (cI, 60, .inl cod)), (h4_unf, .inl (cI, 540, .inl unf))] ++ []) H := hP
  have hD : va_D A ([(h4, .inr (4, [.ref h4_cod, .ref h4_unf, .int tln])), (h4_cod, .inl (cI, 60, .inl cod)), (h4_unf, .inl (cI, 540, .inl unf))] ++ []) := hD
  have iX4 : ∀ w ∈ u_ws RX4 TX4 3, w ∈ wsX4_isComplete := fun _ h => List.mem_cons_of_mem _ (List.mem_append_right _ h)
  unfold fX4_isComplete at h
  refine lv_iconst (v := 0) hx hb dX4_isComplete_0 (by decide) ?_
  refine lv_istore_n (lv' := [(1, .int 0), (0, .ref h4)]) hx hb dX4_isComplete_1 rfl hl (by decide) rfl (fun ls hl => ?_)
  refine lv_iconst (v := 0) hx hb dX4_isComplete_2 (by decide) ?_
  refine lv_istore_n (lv' := [(2, .int 0), (1, .int 0), (0, .ref h4)]) hx hb dX4_isComplete_3 rfl hl (by decide) rfl (fun ls hl => ?_)
  have L4 : ∀ (n : Nat) (v1_4 : Int32) (v2_4 : Int32) (o4_1 : Int32) (H : Heap) (locs : List Loc) (ls : Array Slot), fX4_isComplete_L4 cod tln n v1_4 v2_4 = some o4_1 → va_P D vwCl ([(h4, .inr (4, [.ref h4_cod, .ref h4_unf, .int tln])), (h4_cod, .inl (cI, 60, .inl cod)), (h4_unf, .inl (cI, 540, .inl unf))] ++ []) H → va_D A ([(h4, .inr (4, [.ref h4_cod, .ref h4_unf, .int tln])), (h4_cod, .inl (cI, 60, .inl cod)), (h4_unf, .inl (cI, 540, .inl unf))] ++ []) → va_S A s.heap H locs → lv_has ls 3 [(0, .ref h4), (1, .int v1_4), (2, .int v2_4)] → (∀ (H : Heap) (locs : List Loc) (ls : Array Slot), va_P D vwCl ([(h4, .inr (4, [.ref h4_cod, .ref h4_unf, .int tln])), (h4_cod, .inl (cI, 60, .inl cod)), (h4_unf, .inl (cI, 540, .inl unf))] ++ []) H → va_D A ([(h4, .inr (4, [.ref h4_cod, .ref h4_unf, .int tln])), (h4_cod, .inl (cI, 60, .inl cod)), (h4_unf, .inl (cI, 540, .inl unf))] ++ []) → va_S A s.heap H locs → lv_has ls 3 [(0, .ref h4), (1, .int o4_1)] → W p l e rmX4_isComplete s m args below meth c H locs 0 0 Q (F0 m 28 ls [])) → W p l e rmX4_isComplete s m args below meth c H locs 0 0 Q (F0 m 4 ls []) := by
    intro n
    induction n with
    | zero =>
      intro v1_4 v2_4 o4_1 H locs ls h
      rw [fX4_isComplete_L4] at h
      cases h
    | succ n ih =>
      intro v1_4 v2_4 o4_1 H locs ls h hP hD hS hl K
      rw [fX4_isComplete_L4] at h
      refine lv_iload_n hx hb dX4_isComplete_4 rfl (lv_at hl 2 rfl) ?_
      refine lv_aload_n hx hb dX4_isComplete_5 rfl (lv_at hl 0 rfl) ?_
      refine va_get (D := D) (ci := 4) (v := .int tln) (C := RX4) (T := TX4) (N := 3) hx hb hts iX4 hown hK hP 0 rfl rfl 2 (by decide) (hts (.fieldLink RX4 18 "HiddenPeriods$Text" "length" "I") (by decide +kernel)) (fun _ h9 => h9) rfl dX4_isComplete_6 ?_
      refine lv_icmp_ge (tgt := 28) hx hb dX4_isComplete_9 (by decide) (fun cq => ?_) (fun cq => ?_)
      · replace h := ifp cq h
        cases h
        exact K _ _ _ hP hD hS (lv_sub hl [0, 1] rfl)
      · replace h := ifn cq h
        refine lv_iload_n hx hb dX4_isComplete_12 rfl (lv_at hl 1 rfl) ?_
        refine lv_aload_n hx hb dX4_isComplete_13 rfl (lv_at hl 0 rfl) ?_
        refine lv_iload_n hx hb dX4_isComplete_14 rfl (lv_at hl 2 rfl) ?_
        obtain ⟨x1, hx1, h⟩ := bnd h
        refine pw_goi (wc := [(h4, .inr (4, [.ref h4_cod, .ref h4_unf, .int tln])), (h4_cod, .inl (cI, 60, .inl cod)), (h4_unf, .inl (cI, 540, .inl unf))]) (w1 := [(h4, .inr (4, [.ref h4_cod, .ref h4_unf, .int tln])), (h4_cod, .inl (cI, 60, .inl cod)), (h4_unf, .inl (cI, 540, .inl unf))]) (w2 := [(h4, .inr (4, [.ref h4_cod, .ref h4_unf, .int tln])), (h4_cod, .inl (cI, 60, .inl cod)), (h4_unf, .inl (cI, 540, .inl unf))]) (va_runV (As := [.int v2_4]) (rest := [.int v1_4]) ⟨hx, hb, hml, hown, hts⟩ (mX4_codeAt l D cI cO cJ h4 h4_cod h4_unf H.size cod unf tln v2_4 _ hx1) (cwV 1 hts gX4_isComplete_X4_codeAt rfl rfl rfl (by decide +kernel) ⟨Nat.le_of_ble_eq_true rfl, Nat.le_of_ble_eq_true rfl⟩) (pw_preV hK hN (pw_sub hP [0, 1, 2] rfl) (pw_subD hD [0, 1, 2] (by decide) rfl) (ci := 4) (q0 := 0) rfl rfl) rfl rfl hl.1 rfl (lv_room (Nat.le_of_ble_eq_true rfl)) dX4_isComplete_15 ⟨Nat.zero_le _, Nat.zero_le _⟩) hP hD hS hA [0, 1, 2] [] [0, 1, 2] rfl rfl (by decide) (by decide) (by decide) rfl (fun H locs hP hD hS => ?_)
        obtain ⟨x2, hx2, h⟩ := bnd h
        refine pw_go0 (va_runS (As := [.int v1_4, .int x1]) (rest := []) ⟨hx, hb, hml, hown, hts⟩ (mX4_stageAfter l D cI cO cJ H.size v1_4 x1 _ hx2) (va_cwS 2 hts gX4_isComplete_X4_stageAfter rfl rfl rfl (by decide +kernel) ⟨Nat.le_of_ble_eq_true rfl, Nat.le_of_ble_eq_true rfl⟩) (pw_preS hK hN pw_nilP (pw_nilD (A := A))) rfl rfl hl.1 rfl (lv_room (Nat.le_of_ble_eq_true rfl)) dX4_isComplete_18 ⟨Nat.zero_le _, Nat.zero_le _⟩) hP hS hA (fun H locs hP hS => ?_)
        refine lv_istore_n (lv' := [(1, .int x2), (0, .ref h4), (2, .int v2_4)]) hx hb dX4_isComplete_21 rfl hl (by decide) rfl (fun ls hl => ?_)
        refine lv_iinc (v := (v2_4 + 1)) (lv' := [(2, .int (v2_4 + 1)), (1, .int x2), (0, .ref h4)]) hx hb dX4_isComplete_22 hl (k := 2) rfl rfl (by decide) rfl (fun ls hl => ?_)
        refine lv_goto (tgt := 4) hx hb dX4_isComplete_25 (by decide) ?_
        exact ih _ _ _ _ _ _ h hP hD hS (lv_sub hl [2, 1, 0] rfl) K
  obtain ⟨x3, hx3, h⟩ := bnd h
  refine L4 FU _ _ _ _ _ _ hx3 hP hD hS (lv_sub hl [2, 1, 0] rfl) (fun H locs ls hP hD hS hl => ?_)
  refine lv_aload_n hx hb dX4_isComplete_28 rfl (lv_at hl 0 rfl) ?_
  refine va_get (D := D) (ci := 4) (v := .int tln) (C := RX4) (T := TX4) (N := 3) hx hb hts iX4 hown hK hP 0 rfl rfl 2 (by decide) (hts (.fieldLink RX4 18 "HiddenPeriods$Text" "length" "I") (by decide +kernel)) (fun _ h9 => h9) rfl dX4_isComplete_29 ?_
  refine lv_if_le (tgt := 43) hx hb dX4_isComplete_32 (by decide) (fun cq => ?_) (fun cq => ?_)
  · replace h := ifp cq h
    refine lv_iconst (v := 0) hx hb dX4_isComplete_43 (by decide) ?_
    cases h
    exact pw_zret hx hb hr hlocks hAe (by decide) hQ hP hD hS dX4_isComplete_44
  · replace h := ifn cq h
    refine lv_iload_n hx hb dX4_isComplete_35 rfl (lv_at hl 1 rfl) ?_
    refine lv_if_ne (tgt := 43) hx hb dX4_isComplete_36 (by decide) (fun cq => ?_) (fun cq => ?_)
    · replace h := ifn cq h
      refine lv_iconst (v := 0) hx hb dX4_isComplete_43 (by decide) ?_
      cases h
      exact pw_zret hx hb hr hlocks hAe (by decide) hQ hP hD hS dX4_isComplete_44
    · replace h := ifp cq h
      refine lv_iconst (v := 1) hx hb dX4_isComplete_39 (by decide) ?_
      refine lv_goto (tgt := 44) hx hb dX4_isComplete_40 (by decide) ?_
      cases h
      exact pw_zret hx hb hr hlocks hAe (by decide) hQ hP hD hS dX4_isComplete_44
def fX4_repeat_L16 (y1 : Int32) (y2 : Int32) : Nat → Int32 → (Nat → Int32) → Option (Nat → Int32)
  | 0, _, _ => none
  | n + 1, v6_16, unf_16 =>
    if y2 ≤ v6_16 then
    some unf_16
    else
    (fX4_unfoldedAt unf_16 (v6_16 - y1)).bind fun x3 =>
    (fX5_lay unf_16 540 v6_16 x3).bind fun x4 =>
    fX4_repeat_L16 y1 y2 n (v6_16 + 1) x4
def fX4_repeat (unf : Nat → Int32) (a1 : Int32) (a2 : Int32) (a3 : Int32) : Option (Int32 × (Nat → Int32)) :=
  (fX4_repeat_L16 (a2 - a1) (a1 + ((a2 - a1) * a3)) FU a2 unf).bind fun x5 =>
  some ((a1 + ((a2 - a1) * a3)), x5)
abbrev rmX4_repeat : Room := { frames := 2, cells := 0, slots := 0, locals := 42 }
set_option maxHeartbeats 4000000 in
set_option maxRecDepth 100000 in
theorem mX4_repeat (l : Launch) (D : va_G) (cI cO cJ : ClassId) (h4 h4_cod h4_unf : Nat) (sz : Nat) (cod : Nat → Int32) (unf : Nat → Int32) (tln : Int32) (a1 : Int32) (a2 : Int32) (a3 : Int32) (z : Int32 × (Nat → Int32)) (h : fX4_repeat unf a1 a2 a3 = some z) : Met l yX4_repeat wsX4_repeat rmX4_repeat (pw_pre D (tyL cI cO cJ) [.ref h4, .int a1, .int a2, .int a3] [(h4, .inr (4, [.ref h4_cod, .ref h4_unf, .int tln])), (h4_cod, .inl (cI, 60, .inl cod)), (h4_unf, .inl (cI, 540, .inl unf))] sz) (pw_i D [(h4, .inr (4, [.ref h4_cod, .ref h4_unf, .int tln])), (h4_cod, .inl (cI, 60, .inl cod)), (h4_unf, .inl (cI, 540, .inl unf))] [(h4, .inr (4, [.ref h4_cod, .ref h4_unf, .int tln])), (h4_cod, .inl (cI, 60, .inl cod)), (h4_unf, .inl (cI, 540, .inl z.2))] z.1 sz) 0 0 (va_A [(h4, .inr (4, [.ref h4_cod, .ref h4_unf, .int tln])), (h4_cod, .inl (cI, 60, .inl cod)), (h4_unf, .inl (cI, 540, .inl unf))] sz) := by
  refine pw_of (Qc := fun sz => pw_i D [(h4, .inr (4, [.ref h4_cod, .ref h4_unf, .int tln])), (h4_cod, .inl (cI, 60, .inl cod)), (h4_unf, .inl (cI, 540, .inl unf))] [(h4, .inr (4, [.ref h4_cod, .ref h4_unf, .int tln])), (h4_cod, .inl (cI, 60, .inl cod)), (h4_unf, .inl (cI, 540, .inl z.2))] z.1 sz) (cc := cX4_repeat) (maxL := 7) (ret := (some .int)) (by decide) rfl (Nat.le_of_ble_eq_true rfl) ?_
  intro p e s m args below meth c A Q H ls hx hb hml hr hts hown hlocks hAe hQ hK hN hA hP hD hS hl
  have hown : s.vm.findClass RX4 = some m.cls := hown
  have hl : lv_has ls 7 [(0, .ref h4), (1, .int a1), (2, .int a2), (3, .int a3)] := hl
  have hP : va_P D vwCl ([(h4, .inr (4, [.ref h4_cod, .ref h4_unf, .int tln])), (h4_cod, .inl (cI, 60, .inl cod)), (h4_unf, .inl (cI, 540, .inl unf))] ++ []) H := hP
  have hD : va_D A ([(h4, .inr (4, [.ref h4_cod, .ref h4_unf, .int tln])), (h4_cod, .inl (cI, 60, .inl cod)), (h4_unf, .inl (cI, 540, .inl unf))] ++ []) := hD
  have iX4 : ∀ w ∈ u_ws RX4 TX4 3, w ∈ wsX4_repeat := fun _ h => List.mem_cons_of_mem _ (List.mem_append_right _ h)
  unfold fX4_repeat at h
  refine lv_iload_n hx hb dX4_repeat_0 rfl (lv_at hl 2 rfl) ?_
  refine lv_iload_n hx hb dX4_repeat_1 rfl (lv_at hl 1 rfl) ?_
  refine lv_isub hx hb dX4_repeat_2 ?_
  refine lv_istore (lv' := [(4, .int (a2 - a1)), (0, .ref h4), (1, .int a1), (2, .int a2), (3, .int a3)]) hx hb dX4_repeat_3 hl (by decide) rfl (fun ls hl => ?_)
  refine lv_iload_n hx hb dX4_repeat_5 rfl (lv_at hl 2 rfl) ?_
  refine lv_iload hx hb dX4_repeat_6 (lv_at hl 0 rfl) ?_
  refine lv_iload_n hx hb dX4_repeat_8 rfl (lv_at hl 4 rfl) ?_
  refine lv_imul hx hb dX4_repeat_9 ?_
  refine lv_iadd hx hb dX4_repeat_10 ?_
  refine lv_istore (lv' := [(5, .int (a1 + ((a2 - a1) * a3))), (4, .int (a2 - a1)), (0, .ref h4), (1, .int a1), (2, .int a2), (3, .int a3)]) hx hb dX4_repeat_11 hl (by decide) rfl (fun ls hl => ?_)
  refine lv_iload_n hx hb dX4_repeat_13 rfl (lv_at hl 4 rfl) ?_
  refine lv_istore (lv' := [(6, .int a2), (5, .int (a1 + ((a2 - a1) * a3))), (4, .int (a2 - a1)), (0, .ref h4), (1, .int a1), (2, .int a2), (3, .int a3)]) hx hb dX4_repeat_14 hl (by decide) rfl (fun ls hl => ?_)
  generalize hgy1 : (a2 - a1) = y1 at h hP hD hl ⊢
  generalize hgy2 : (a1 + (y1 * a3)) = y2 at h hP hD hl ⊢
  have L16 : ∀ (n : Nat) (v6_16 : Int32) (unf_16 : Nat → Int32) (o16_1 : Nat → Int32) (H : Heap) (locs : List Loc) (ls : Array Slot), fX4_repeat_L16 y1 y2 n v6_16 unf_16 = some o16_1 → va_P D vwCl ([(h4, .inr (4, [.ref h4_cod, .ref h4_unf, .int tln])), (h4_cod, .inl (cI, 60, .inl cod)), (h4_unf, .inl (cI, 540, .inl unf_16))] ++ []) H → va_D A ([(h4, .inr (4, [.ref h4_cod, .ref h4_unf, .int tln])), (h4_cod, .inl (cI, 60, .inl cod)), (h4_unf, .inl (cI, 540, .inl unf_16))] ++ []) → va_S A s.heap H locs → lv_has ls 7 [(0, .ref h4), (4, .int y1), (5, .int y2), (6, .int v6_16)] → (∀ (H : Heap) (locs : List Loc) (ls : Array Slot), va_P D vwCl ([(h4, .inr (4, [.ref h4_cod, .ref h4_unf, .int tln])), (h4_cod, .inl (cI, 60, .inl cod)), (h4_unf, .inl (cI, 540, .inl o16_1))] ++ []) H → va_D A ([(h4, .inr (4, [.ref h4_cod, .ref h4_unf, .int tln])), (h4_cod, .inl (cI, 60, .inl cod)), (h4_unf, .inl (cI, 540, .inl o16_1))] ++ []) → va_S A s.heap H locs → lv_has ls 7 [(5, .int y2)] → W p l e rmX4_repeat s m args below meth c H locs 0 0 Q (F0 m 47 ls [])) → W p l e rmX4_repeat s m args below meth c H locs 0 0 Q (F0 m 16 ls []) := by
    intro n
    induction n with
    | zero =>
      intro v6_16 unf_16 o16_1 H locs ls h
      rw [fX4_repeat_L16] at h
      cases h
    | succ n ih =>
      intro v6_16 unf_16 o16_1 H locs ls h hP hD hS hl K
      rw [fX4_repeat_L16] at h
      refine lv_iload hx hb dX4_repeat_16 (lv_at hl 3 rfl) ?_
      refine lv_iload hx hb dX4_repeat_18 (lv_at hl 2 rfl) ?_
      refine lv_icmp_ge (tgt := 47) hx hb dX4_repeat_20 (by decide) (fun cq => ?_) (fun cq => ?_)
      · replace h := ifp cq h
        cases h
        exact K _ _ _ hP hD hS (lv_sub hl [2] rfl)
      · replace h := ifn cq h
        refine lv_aload_n hx hb dX4_repeat_23 rfl (lv_at hl 0 rfl) ?_
        refine va_get (D := D) (ci := 4) (v := .ref h4_unf) (C := RX4) (T := TX4) (N := 3) hx hb hts iX4 hown hK hP 0 rfl rfl 1 (by decide) (hts (.fieldLink RX4 15 "HiddenPeriods$Text" "unfolded" "[I") (by decide +kernel)) (fun _ h9 => h9) rfl dX4_repeat_24 ?_
        refine lv_iload hx hb dX4_repeat_27 (lv_at hl 3 rfl) ?_
        refine lv_aload_n hx hb dX4_repeat_29 rfl (lv_at hl 0 rfl) ?_
        refine lv_iload hx hb dX4_repeat_30 (lv_at hl 3 rfl) ?_
        refine lv_iload hx hb dX4_repeat_32 (lv_at hl 1 rfl) ?_
        refine lv_isub hx hb dX4_repeat_34 ?_
        obtain ⟨x3, hx3, h⟩ := bnd h
        refine pw_goi (wc := [(h4, .inr (4, [.ref h4_cod, .ref h4_unf, .int tln])), (h4_cod, .inl (cI, 60, .inl cod)), (h4_unf, .inl (cI, 540, .inl unf_16))]) (w1 := [(h4, .inr (4, [.ref h4_cod, .ref h4_unf, .int tln])), (h4_cod, .inl (cI, 60, .inl cod)), (h4_unf, .inl (cI, 540, .inl unf_16))]) (w2 := [(h4, .inr (4, [.ref h4_cod, .ref h4_unf, .int tln])), (h4_cod, .inl (cI, 60, .inl cod)), (h4_unf, .inl (cI, 540, .inl unf_16))]) (va_runV (As := [.int (v6_16 - y1)]) (rest := [.int v6_16, .ref h4_unf]) ⟨hx, hb, hml, hown, hts⟩ (mX4_unfoldedAt l D cI cO cJ h4 h4_cod h4_unf H.size cod unf_16 tln (v6_16 - y1) _ hx3) (cwV 1 hts gX4_repeat_X4_unfoldedAt rfl rfl rfl (by decide +kernel) ⟨Nat.le_of_ble_eq_true rfl, Nat.le_of_ble_eq_true rfl⟩) (pw_preV hK hN (pw_sub hP [0, 1, 2] rfl) (pw_subD hD [0, 1, 2] (by decide) rfl) (ci := 4) (q0 := 0) rfl rfl) rfl rfl hl.1 rfl (lv_room (Nat.le_of_ble_eq_true rfl)) dX4_repeat_35 ⟨Nat.zero_le _, Nat.zero_le _⟩) hP hD hS hA [0, 1, 2] [] [0, 1, 2] rfl rfl (by decide) (by decide) (by decide) rfl (fun H locs hP hD hS => ?_)
        obtain ⟨x4, hx4, h⟩ := bnd h
        refine pw_gov (wc := [(h4_unf, .inl (cI, 540, .inl unf_16))]) (w1 := [(h4_unf, .inl (cI, 540, .inl x4))]) (w2 := [(h4, .inr (4, [.ref h4_cod, .ref h4_unf, .int tln])), (h4_cod, .inl (cI, 60, .inl cod)), (h4_unf, .inl (cI, 540, .inl x4))]) (va_runSN (As := [.ref h4_unf, .int v6_16, .int x3]) (rest := []) ⟨hx, hb, hml, hown, hts⟩ (mX5_lay l D cI cO cJ h4_unf H.size unf_16 540 v6_16 x3 _ hx4) ⟨va_cnB 3 hts gX4_repeat_X5_lay_n22 rfl rfl rfl (hN (.methodLinkNest RX4 22 yX5_lay "HiddenPeriods") (by decide +kernel)) (hts (.initialized RX5) (by decide +kernel)) (by decide +kernel) ⟨Nat.le_of_ble_eq_true rfl, Nat.le_of_ble_eq_true rfl⟩, (hts (.static yX5_lay) (by decide +kernel)), trivial⟩ (pw_preS hK hN (pw_sub hP [2] rfl) (pw_subD hD [2] (by decide) rfl)) rfl rfl hl.1 rfl (lv_room (Nat.le_of_ble_eq_true rfl)) dX4_repeat_38 ⟨Nat.zero_le _, Nat.zero_le _⟩) hP hD hS hA [2] [0, 1] [0, 1, 2] rfl rfl (by decide) (by decide) (by decide) rfl (fun H locs hP hD hS => ?_)
        refine lv_iinc (v := (v6_16 + 1)) (lv' := [(6, .int (v6_16 + 1)), (0, .ref h4), (4, .int y1), (5, .int y2)]) hx hb dX4_repeat_41 hl (k := 3) rfl rfl (by decide) rfl (fun ls hl => ?_)
        refine lv_goto (tgt := 16) hx hb dX4_repeat_44 (by decide) ?_
        exact ih _ _ _ _ _ _ h hP hD hS (lv_sub hl [1, 2, 3, 0] rfl) K
  obtain ⟨x5, hx5, h⟩ := bnd h
  refine L16 FU _ _ _ _ _ _ hx5 hP hD hS (lv_sub hl [3, 2, 1, 0] rfl) (fun H locs ls hP hD hS hl => ?_)
  refine lv_iload hx hb dX4_repeat_47 (lv_at hl 0 rfl) ?_
  cases h
  exact pw_iret hx hb hr hlocks hAe hQ hP hD hS dX4_repeat_49
def fX4_unfold_L6 (cod : Nat → Int32) (tln : Int32) : Nat → Int32 → Int32 → Int32 → (Nat → Int32) → Option (Int32 × (Nat → Int32))
  | 0, _, _, _, _ => none
  | n + 1, v1_6, v2_6, v3_6, unf_6 =>
    if tln ≤ v3_6 then
    some (v1_6, unf_6)
    else
    (fX4_codeAt cod v3_6).bind fun x1 =>
    (fX4_isLetter x1).bind fun x2 =>
    if x2 = 0 then
    if x1 = 40 then
    fX4_unfold_L6 cod tln n v1_6 v1_6 (v3_6 + 1) unf_6
    else
    (fX4_isTimes x1).bind fun x3 =>
    if x3 = 0 then
    fX4_unfold_L6 cod tln n v1_6 v2_6 (v3_6 + 1) unf_6
    else
    (fX4_repeat unf_6 v2_6 v1_6 (x1 - 48)).bind fun (x4_1, x4_2) =>
    fX4_unfold_L6 cod tln n x4_1 v2_6 (v3_6 + 1) x4_2
    else
    (fX5_lay unf_6 540 v1_6 (x1 - 97)).bind fun x5 =>
    fX4_unfold_L6 cod tln n (v1_6 + 1) v2_6 (v3_6 + 1) x5
def fX4_unfold (cod : Nat → Int32) (unf : Nat → Int32) (tln : Int32) : Option (Int32 × (Nat → Int32)) :=
  (fX4_unfold_L6 cod tln FU 0 0 0 unf).bind fun (x6_1, x6_2) =>
  some (x6_1, x6_2)
abbrev rmX4_unfold : Room := { frames := 3, cells := 0, slots := 0, locals := 68 }
set_option maxHeartbeats 4000000 in
set_option maxRecDepth 100000 in
theorem mX4_unfold (l : Launch) (D : va_G) (cI cO cJ : ClassId) (h4 h4_cod h4_unf : Nat) (sz : Nat) (cod : Nat → Int32) (unf : Nat → Int32) (tln : Int32) (z : Int32 × (Nat → Int32)) (h : fX4_unfold cod unf tln = some z) : Met l yX4_unfold wsX4_unfold rmX4_unfold (pw_pre D (tyL cI cO cJ) [.ref h4] [(h4, .inr (4, [.ref h4_cod, .ref h4_unf, .int tln])), (h4_cod, .inl (cI, 60, .inl cod)), (h4_unf, .inl (cI, 540, .inl unf))] sz) (pw_i D [(h4, .inr (4, [.ref h4_cod, .ref h4_unf, .int tln])), (h4_cod, .inl (cI, 60, .inl cod)), (h4_unf, .inl (cI, 540, .inl unf))] [(h4, .inr (4, [.ref h4_cod, .ref h4_unf, .int tln])), (h4_cod, .inl (cI, 60, .inl cod)), (h4_unf, .inl (cI, 540, .inl z.2))] z.1 sz) 0 0 (va_A [(h4, .inr (4, [.ref h4_cod, .ref h4_unf, .int tln])), (h4_cod, .inl (cI, 60, .inl cod)), (h4_unf, .inl (cI, 540, .inl unf))] sz) := by
  refine pw_of (Qc := fun sz => pw_i D [(h4, .inr (4, [.ref h4_cod, .ref h4_unf, .int tln])), (h4_cod, .inl (cI, 60, .inl cod)), (h4_unf, .inl (cI, 540, .inl unf))] [(h4, .inr (4, [.ref h4_cod, .ref h4_unf, .int tln])), (h4_cod, .inl (cI, 60, .inl cod)), (h4_unf, .inl (cI, 540, .inl z.2))] z.1 sz) (cc := cX4_unfold) (maxL := 5) (ret := (some .int)) (by decide) rfl (Nat.le_of_ble_eq_true rfl) ?_
  intro p e s m args below meth c A Q H ls hx hb hml hr hts hown hlocks hAe hQ hK hN hA hP hD hS hl
  have hown : s.vm.findClass RX4 = some m.cls := hown
  have hl : lv_has ls 5 [(0, .ref h4)] := hl
  have hP : va_P D vwCl ([(h4, .inr (4, [.ref h4_cod, .ref h4_unf, .int tln])), (h4_cod, .inl (cI, 60, .inl cod)), (h4_unf, .inl (cI, 540, .inl unf))] ++ []) H := hP
  have hD : va_D A ([(h4, .inr (4, [.ref h4_cod, .ref h4_unf, .int tln])), (h4_cod, .inl (cI, 60, .inl cod)), (h4_unf, .inl (cI, 540, .inl unf))] ++ []) := hD
  have iX4 : ∀ w ∈ u_ws RX4 TX4 3, w ∈ wsX4_unfold := fun _ h => List.mem_cons_of_mem _ (List.mem_append_right _ h)
  unfold fX4_unfold at h
  refine lv_iconst (v := 0) hx hb dX4_unfold_0 (by decide) ?_
  refine lv_istore_n (lv' := [(1, .int 0), (0, .ref h4)]) hx hb dX4_unfold_1 rfl hl (by decide) rfl (fun ls hl => ?_)
  refine lv_iconst (v := 0) hx hb dX4_unfold_2 (by decide) ?_
  refine lv_istore_n (lv' := [(2, .int 0), (1, .int 0), (0, .ref h4)]) hx hb dX4_unfold_3 rfl hl (by decide) rfl (fun ls hl => ?_)
  refine lv_iconst (v := 0) hx hb dX4_unfold_4 (by decide) ?_
  refine lv_istore_n (lv' := [(3, .int 0), (2, .int 0), (1, .int 0), (0, .ref h4)]) hx hb dX4_unfold_5 rfl hl (by decide) rfl (fun ls hl => ?_)
  have L6 : ∀ (n : Nat) (v1_6 : Int32) (v2_6 : Int32) (v3_6 : Int32) (unf_6 : Nat → Int32) (o6_1 : Int32) (o6_2 : Nat → Int32) (H : Heap) (locs : List Loc) (ls : Array Slot), fX4_unfold_L6 cod tln n v1_6 v2_6 v3_6 unf_6 = some (o6_1, o6_2) → va_P D vwCl ([(h4, .inr (4, [.ref h4_cod, .ref h4_unf, .int tln])), (h4_cod, .inl (cI, 60, .inl cod)), (h4_unf, .inl (cI, 540, .inl unf_6))] ++ []) H → va_D A ([(h4, .inr (4, [.ref h4_cod, .ref h4_unf, .int tln])), (h4_cod, .inl (cI, 60, .inl cod)), (h4_unf, .inl (cI, 540, .inl unf_6))] ++ []) → va_S A s.heap H locs → lv_has ls 5 [(0, .ref h4), (1, .int v1_6), (2, .int v2_6), (3, .int v3_6)] → (∀ (H : Heap) (locs : List Loc) (ls : Array Slot), va_P D vwCl ([(h4, .inr (4, [.ref h4_cod, .ref h4_unf, .int tln])), (h4_cod, .inl (cI, 60, .inl cod)), (h4_unf, .inl (cI, 540, .inl o6_2))] ++ []) H → va_D A ([(h4, .inr (4, [.ref h4_cod, .ref h4_unf, .int tln])), (h4_cod, .inl (cI, 60, .inl cod)), (h4_unf, .inl (cI, 540, .inl o6_2))] ++ []) → va_S A s.heap H locs → lv_has ls 5 [(1, .int o6_1)] → W p l e rmX4_unfold s m args below meth c H locs 0 0 Q (F0 m 86 ls [])) → W p l e rmX4_unfold s m args below meth c H locs 0 0 Q (F0 m 6 ls []) := by
    intro n
    induction n with
    | zero =>
      intro v1_6 v2_6 v3_6 unf_6 o6_1 o6_2 H locs ls h
      rw [fX4_unfold_L6] at h
      cases h
    | succ n ih =>
      intro v1_6 v2_6 v3_6 unf_6 o6_1 o6_2 H locs ls h hP hD hS hl K
      rw [fX4_unfold_L6] at h
      refine lv_iload_n hx hb dX4_unfold_6 rfl (lv_at hl 3 rfl) ?_
      refine lv_aload_n hx hb dX4_unfold_7 rfl (lv_at hl 0 rfl) ?_
      refine va_get (D := D) (ci := 4) (v := .int tln) (C := RX4) (T := TX4) (N := 3) hx hb hts iX4 hown hK hP 0 rfl rfl 2 (by decide) (hts (.fieldLink RX4 18 "HiddenPeriods$Text" "length" "I") (by decide +kernel)) (fun _ h9 => h9) rfl dX4_unfold_8 ?_
      refine lv_icmp_ge (tgt := 86) hx hb dX4_unfold_11 (by decide) (fun cq => ?_) (fun cq => ?_)
      · replace h := ifp cq h
        cases h
        exact K _ _ _ hP hD hS (lv_sub hl [1] rfl)
      · replace h := ifn cq h
        refine lv_aload_n hx hb dX4_unfold_14 rfl (lv_at hl 0 rfl) ?_
        refine lv_iload_n hx hb dX4_unfold_15 rfl (lv_at hl 3 rfl) ?_
        obtain ⟨x1, hx1, h⟩ := bnd h
        refine pw_goi (wc := [(h4, .inr (4, [.ref h4_cod, .ref h4_unf, .int tln])), (h4_cod, .inl (cI, 60, .inl cod)), (h4_unf, .inl (cI, 540, .inl unf_6))]) (w1 := [(h4, .inr (4, [.ref h4_cod, .ref h4_unf, .int tln])), (h4_cod, .inl (cI, 60, .inl cod)), (h4_unf, .inl (cI, 540, .inl unf_6))]) (w2 := [(h4, .inr (4, [.ref h4_cod, .ref h4_unf, .int tln])), (h4_cod, .inl (cI, 60, .inl cod)), (h4_unf, .inl (cI, 540, .inl unf_6))]) (va_runV (As := [.int v3_6]) (rest := []) ⟨hx, hb, hml, hown, hts⟩ (mX4_codeAt l D cI cO cJ h4 h4_cod h4_unf H.size cod unf_6 tln v3_6 _ hx1) (cwV 1 hts gX4_unfold_X4_codeAt rfl rfl rfl (by decide +kernel) ⟨Nat.le_of_ble_eq_true rfl, Nat.le_of_ble_eq_true rfl⟩) (pw_preV hK hN (pw_sub hP [0, 1, 2] rfl) (pw_subD hD [0, 1, 2] (by decide) rfl) (ci := 4) (q0 := 0) rfl rfl) rfl rfl hl.1 rfl (lv_room (Nat.le_of_ble_eq_true rfl)) dX4_unfold_16 ⟨Nat.zero_le _, Nat.zero_le _⟩) hP hD hS hA [0, 1, 2] [] [0, 1, 2] rfl rfl (by decide) (by decide) (by decide) rfl (fun H locs hP hD hS => ?_)
        refine lv_istore (lv' := [(4, .int x1), (0, .ref h4), (1, .int v1_6), (2, .int v2_6), (3, .int v3_6)]) hx hb dX4_unfold_19 hl (by decide) rfl (fun ls hl => ?_)
        refine lv_iload hx hb dX4_unfold_21 (lv_at hl 0 rfl) ?_
        obtain ⟨x2, hx2, h⟩ := bnd h
        refine pw_go0 (va_runS (As := [.int x1]) (rest := []) ⟨hx, hb, hml, hown, hts⟩ (mX4_isLetter l D cI cO cJ H.size x1 _ hx2) (va_cwS 1 hts gX4_unfold_X4_isLetter rfl rfl rfl (by decide +kernel) ⟨Nat.le_of_ble_eq_true rfl, Nat.le_of_ble_eq_true rfl⟩) (pw_preS hK hN pw_nilP (pw_nilD (A := A))) rfl rfl hl.1 rfl (lv_room (Nat.le_of_ble_eq_true rfl)) dX4_unfold_23 ⟨Nat.zero_le _, Nat.zero_le _⟩) hP hS hA (fun H locs hP hS => ?_)
        refine lv_if_eq (tgt := 48) hx hb dX4_unfold_26 (by decide) (fun cq => ?_) (fun cq => ?_)
        · replace h := ifp cq h
          refine lv_iload hx hb dX4_unfold_48 (lv_at hl 0 rfl) ?_
          refine lv_bipush (v := 40) hx hb dX4_unfold_50 (by decide) ?_
          refine lv_icmp_ne (tgt := 60) hx hb dX4_unfold_52 (by decide) (fun cq => ?_) (fun cq => ?_)
          · replace h := ifn cq h
            refine lv_iload hx hb dX4_unfold_60 (lv_at hl 0 rfl) ?_
            obtain ⟨x3, hx3, h⟩ := bnd h
            refine pw_go0 (va_runS (As := [.int x1]) (rest := []) ⟨hx, hb, hml, hown, hts⟩ (mX4_isTimes l D cI cO cJ H.size x1 _ hx3) (va_cwS 1 hts gX4_unfold_X4_isTimes rfl rfl rfl (by decide +kernel) ⟨Nat.le_of_ble_eq_true rfl, Nat.le_of_ble_eq_true rfl⟩) (pw_preS hK hN pw_nilP (pw_nilD (A := A))) rfl rfl hl.1 rfl (lv_room (Nat.le_of_ble_eq_true rfl)) dX4_unfold_62 ⟨Nat.zero_le _, Nat.zero_le _⟩) hP hS hA (fun H locs hP hS => ?_)
            refine lv_if_eq (tgt := 80) hx hb dX4_unfold_65 (by decide) (fun cq => ?_) (fun cq => ?_)
            · replace h := ifp cq h
              refine lv_iinc (v := (v3_6 + 1)) (lv' := [(3, .int (v3_6 + 1)), (4, .int x1), (0, .ref h4), (1, .int v1_6), (2, .int v2_6)]) hx hb dX4_unfold_80 hl (k := 4) rfl rfl (by decide) rfl (fun ls hl => ?_)
              refine lv_goto (tgt := 6) hx hb dX4_unfold_83 (by decide) ?_
              exact ih _ _ _ _ _ _ _ _ _ h hP hD hS (lv_sub hl [2, 3, 4, 0] rfl) K
            · replace h := ifn cq h
              refine lv_aload_n hx hb dX4_unfold_68 rfl (lv_at hl 1 rfl) ?_
              refine lv_iload_n hx hb dX4_unfold_69 rfl (lv_at hl 3 rfl) ?_
              refine lv_iload_n hx hb dX4_unfold_70 rfl (lv_at hl 2 rfl) ?_
              refine lv_iload hx hb dX4_unfold_71 (lv_at hl 0 rfl) ?_
              refine lv_bipush (v := 48) hx hb dX4_unfold_73 (by decide) ?_
              refine lv_isub hx hb dX4_unfold_75 ?_
              obtain ⟨⟨x4_1, x4_2⟩, hx4, h⟩ := bnd h
              refine pw_goi (wc := [(h4, .inr (4, [.ref h4_cod, .ref h4_unf, .int tln])), (h4_cod, .inl (cI, 60, .inl cod)), (h4_unf, .inl (cI, 540, .inl unf_6))]) (w1 := [(h4, .inr (4, [.ref h4_cod, .ref h4_unf, .int tln])), (h4_cod, .inl (cI, 60, .inl cod)), (h4_unf, .inl (cI, 540, .inl x4_2))]) (w2 := [(h4, .inr (4, [.ref h4_cod, .ref h4_unf, .int tln])), (h4_cod, .inl (cI, 60, .inl cod)), (h4_unf, .inl (cI, 540, .inl x4_2))]) (va_runV (As := [.int v2_6, .int v1_6, .int (x1 - 48)]) (rest := []) ⟨hx, hb, hml, hown, hts⟩ (mX4_repeat l D cI cO cJ h4 h4_cod h4_unf H.size cod unf_6 tln v2_6 v1_6 (x1 - 48) _ hx4) (cwV 3 hts gX4_unfold_X4_repeat rfl rfl rfl (by decide +kernel) ⟨Nat.le_of_ble_eq_true rfl, Nat.le_of_ble_eq_true rfl⟩) (pw_preV hK hN (pw_sub hP [0, 1, 2] rfl) (pw_subD hD [0, 1, 2] (by decide) rfl) (ci := 4) (q0 := 0) rfl rfl) rfl rfl hl.1 rfl (lv_room (Nat.le_of_ble_eq_true rfl)) dX4_unfold_76 ⟨Nat.zero_le _, Nat.zero_le _⟩) hP hD hS hA [0, 1, 2] [] [0, 1, 2] rfl rfl (by decide) (by decide) (by decide) rfl (fun H locs hP hD hS => ?_)
              refine lv_istore_n (lv' := [(1, .int x4_1), (4, .int x1), (0, .ref h4), (2, .int v2_6), (3, .int v3_6)]) hx hb dX4_unfold_79 rfl hl (by decide) rfl (fun ls hl => ?_)
              refine lv_iinc (v := (v3_6 + 1)) (lv' := [(3, .int (v3_6 + 1)), (1, .int x4_1), (4, .int x1), (0, .ref h4), (2, .int v2_6)]) hx hb dX4_unfold_80 hl (k := 4) rfl rfl (by decide) rfl (fun ls hl => ?_)
              refine lv_goto (tgt := 6) hx hb dX4_unfold_83 (by decide) ?_
              exact ih _ _ _ _ _ _ _ _ _ h hP hD hS (lv_sub hl [3, 1, 4, 0] rfl) K
          · replace h := ifp cq h
            refine lv_iload_n hx hb dX4_unfold_55 rfl (lv_at hl 2 rfl) ?_
            refine lv_istore_n (lv' := [(2, .int v1_6), (4, .int x1), (0, .ref h4), (1, .int v1_6), (3, .int v3_6)]) hx hb dX4_unfold_56 rfl hl (by decide) rfl (fun ls hl => ?_)
            refine lv_goto (tgt := 80) hx hb dX4_unfold_57 (by decide) ?_
            refine lv_iinc (v := (v3_6 + 1)) (lv' := [(3, .int (v3_6 + 1)), (2, .int v1_6), (4, .int x1), (0, .ref h4), (1, .int v1_6)]) hx hb dX4_unfold_80 hl (k := 4) rfl rfl (by decide) rfl (fun ls hl => ?_)
            refine lv_goto (tgt := 6) hx hb dX4_unfold_83 (by decide) ?_
            exact ih _ _ _ _ _ _ _ _ _ h hP hD hS (lv_sub hl [3, 4, 1, 0] rfl) K
        · replace h := ifn cq h
          refine lv_aload_n hx hb dX4_unfold_29 rfl (lv_at hl 1 rfl) ?_
          refine va_get (D := D) (ci := 4) (v := .ref h4_unf) (C := RX4) (T := TX4) (N := 3) hx hb hts iX4 hown hK hP 0 rfl rfl 1 (by decide) (hts (.fieldLink RX4 15 "HiddenPeriods$Text" "unfolded" "[I") (by decide +kernel)) (fun _ h9 => h9) rfl dX4_unfold_30 ?_
          refine lv_iload_n hx hb dX4_unfold_33 rfl (lv_at hl 2 rfl) ?_
          refine lv_iload hx hb dX4_unfold_34 (lv_at hl 0 rfl) ?_
          refine lv_bipush (v := 97) hx hb dX4_unfold_36 (by decide) ?_
          refine lv_isub hx hb dX4_unfold_38 ?_
          obtain ⟨x5, hx5, h⟩ := bnd h
          refine pw_gov (wc := [(h4_unf, .inl (cI, 540, .inl unf_6))]) (w1 := [(h4_unf, .inl (cI, 540, .inl x5))]) (w2 := [(h4, .inr (4, [.ref h4_cod, .ref h4_unf, .int tln])), (h4_cod, .inl (cI, 60, .inl cod)), (h4_unf, .inl (cI, 540, .inl x5))]) (va_runSN (As := [.ref h4_unf, .int v1_6, .int (x1 - 97)]) (rest := []) ⟨hx, hb, hml, hown, hts⟩ (mX5_lay l D cI cO cJ h4_unf H.size unf_6 540 v1_6 (x1 - 97) _ hx5) ⟨va_cnB 3 hts gX4_unfold_X5_lay_n22 rfl rfl rfl (hN (.methodLinkNest RX4 22 yX5_lay "HiddenPeriods") (by decide +kernel)) (hts (.initialized RX5) (by decide +kernel)) (by decide +kernel) ⟨Nat.le_of_ble_eq_true rfl, Nat.le_of_ble_eq_true rfl⟩, (hts (.static yX5_lay) (by decide +kernel)), trivial⟩ (pw_preS hK hN (pw_sub hP [2] rfl) (pw_subD hD [2] (by decide) rfl)) rfl rfl hl.1 rfl (lv_room (Nat.le_of_ble_eq_true rfl)) dX4_unfold_39 ⟨Nat.zero_le _, Nat.zero_le _⟩) hP hD hS hA [2] [0, 1] [0, 1, 2] rfl rfl (by decide) (by decide) (by decide) rfl (fun H locs hP hD hS => ?_)
          refine lv_iinc (v := (v1_6 + 1)) (lv' := [(1, .int (v1_6 + 1)), (4, .int x1), (0, .ref h4), (2, .int v2_6), (3, .int v3_6)]) hx hb dX4_unfold_42 hl (k := 2) rfl rfl (by decide) rfl (fun ls hl => ?_)
          refine lv_goto (tgt := 80) hx hb dX4_unfold_45 (by decide) ?_
          refine lv_iinc (v := (v3_6 + 1)) (lv' := [(3, .int (v3_6 + 1)), (1, .int (v1_6 + 1)), (4, .int x1), (0, .ref h4), (2, .int v2_6)]) hx hb dX4_unfold_80 hl (k := 4) rfl rfl (by decide) rfl (fun ls hl => ?_)
          refine lv_goto (tgt := 6) hx hb dX4_unfold_83 (by decide) ?_
          exact ih _ _ _ _ _ _ _ _ _ h hP hD hS (lv_sub hl [3, 1, 4, 0] rfl) K
  obtain ⟨⟨x6_1, x6_2⟩, hx6, h⟩ := bnd h
  refine L6 FU _ _ _ _ _ _ _ _ _ hx6 hP hD hS (lv_sub hl [3, 2, 1, 0] rfl) (fun H locs ls hP hD hS hl => ?_)
  refine lv_iload_n hx hb dX4_unfold_86 rfl (lv_at hl 0 rfl) ?_
  cases h
  exact pw_iret hx hb hr hlocks hAe hQ hP hD hS dX4_unfold_87
def fX5_isWithin (a1 : Int32) (a2 : Int32) (a3 : Int32) : Option Int32 :=
  if a1 < a2 then
  some 0
  else
  if a3 < a1 then
  some 0
  else
  some 1
abbrev rmX5_isWithin : Room := { frames := 0, cells := 0, slots := 0, locals := 0 }
set_option maxHeartbeats 4000000 in
set_option maxRecDepth 100000 in
theorem mX5_isWithin (l : Launch) (D : va_G) (cI cO cJ : ClassId) (sz : Nat) (a1 : Int32) (a2 : Int32) (a3 : Int32) (z : Int32) (h : fX5_isWithin a1 a2 a3 = some z) : Met l yX5_isWithin wsX5_isWithin rmX5_isWithin (pw_pre D (tyL cI cO cJ) [.int a1, .int a2, .int a3] [] sz) (pw_i D [] [] z sz) 0 0 (va_A [] sz) := by
  refine pw_of (Qc := fun sz => pw_i D [] [] z sz) (cc := cX5_isWithin) (maxL := 3) (ret := (some .boolean)) (by decide) rfl (Nat.le_of_ble_eq_true rfl) ?_
  intro p e s m args below meth c A Q H ls hx hb hml hr hts hown hlocks hAe hQ hK hN hA hP hD hS hl
  have hown : s.vm.findClass RX5 = some m.cls := hown
  have hl : lv_has ls 3 [(0, .int a1), (1, .int a2), (2, .int a3)] := hl
  unfold fX5_isWithin at h
  refine lv_iload_n hx hb dX5_isWithin_0 rfl (lv_at hl 0 rfl) ?_
  refine lv_iload_n hx hb dX5_isWithin_1 rfl (lv_at hl 1 rfl) ?_
  refine lv_icmp_lt (tgt := 14) hx hb dX5_isWithin_2 (by decide) (fun cq => ?_) (fun cq => ?_)
  · replace h := ifp cq h
    refine lv_iconst (v := 0) hx hb dX5_isWithin_14 (by decide) ?_
    cases h
    exact pw_zret hx hb hr hlocks hAe (by decide) hQ hP hD hS dX5_isWithin_15
  · replace h := ifn cq h
    refine lv_iload_n hx hb dX5_isWithin_5 rfl (lv_at hl 0 rfl) ?_
    refine lv_iload_n hx hb dX5_isWithin_6 rfl (lv_at hl 2 rfl) ?_
    refine lv_icmp_gt (tgt := 14) hx hb dX5_isWithin_7 (by decide) (fun cq => ?_) (fun cq => ?_)
    · replace h := ifp cq h
      refine lv_iconst (v := 0) hx hb dX5_isWithin_14 (by decide) ?_
      cases h
      exact pw_zret hx hb hr hlocks hAe (by decide) hQ hP hD hS dX5_isWithin_15
    · replace h := ifn cq h
      refine lv_iconst (v := 1) hx hb dX5_isWithin_10 (by decide) ?_
      refine lv_goto (tgt := 15) hx hb dX5_isWithin_11 (by decide) ?_
      cases h
      exact pw_zret hx hb hr hlocks hAe (by decide) hQ hP hD hS dX5_isWithin_15
def fX5_isSign (a1 : Int32) : Option Int32 :=
  (fX5_isWithin a1 0 3).bind fun x1 =>
  if ¬ (x1 = 0 ∨ x1 = 1) then none else
  some x1
abbrev rmX5_isSign : Room := { frames := 1, cells := 0, slots := 0, locals := 22 }
set_option maxHeartbeats 4000000 in
set_option maxRecDepth 100000 in
theorem mX5_isSign (l : Launch) (D : va_G) (cI cO cJ : ClassId) (sz : Nat) (a1 : Int32) (z : Int32) (h : fX5_isSign a1 = some z) : Met l yX5_isSign wsX5_isSign rmX5_isSign (pw_pre D (tyL cI cO cJ) [.int a1] [] sz) (pw_i D [] [] z sz) 0 0 (va_A [] sz) := by
  refine pw_of (Qc := fun sz => pw_i D [] [] z sz) (cc := cX5_isSign) (maxL := 1) (ret := (some .boolean)) (by decide) rfl (Nat.le_of_ble_eq_true rfl) ?_
  intro p e s m args below meth c A Q H ls hx hb hml hr hts hown hlocks hAe hQ hK hN hA hP hD hS hl
  have hown : s.vm.findClass RX5 = some m.cls := hown
  have hl : lv_has ls 1 [(0, .int a1)] := hl
  unfold fX5_isSign at h
  refine lv_iload_n hx hb dX5_isSign_0 rfl (lv_at hl 0 rfl) ?_
  refine lv_iconst (v := 0) hx hb dX5_isSign_1 (by decide) ?_
  refine lv_iconst (v := 3) hx hb dX5_isSign_2 (by decide) ?_
  obtain ⟨x1, hx1, h⟩ := bnd h
  refine pw_go0 (va_runS (As := [.int a1, .int 0, .int 3]) (rest := []) ⟨hx, hb, hml, hown, hts⟩ (mX5_isWithin l D cI cO cJ H.size a1 0 3 _ hx1) (va_cwS 3 hts gX5_isSign_X5_isWithin rfl rfl rfl (by decide +kernel) ⟨Nat.le_of_ble_eq_true rfl, Nat.le_of_ble_eq_true rfl⟩) (pw_preS hK hN pw_nilP (pw_nilD (A := A))) rfl rfl hl.1 rfl (lv_room (Nat.le_of_ble_eq_true rfl)) dX5_isSign_3 ⟨Nat.zero_le _, Nat.zero_le _⟩) hP hS hA (fun H locs hP hS => ?_)
  obtain ⟨g2, h⟩ := gdn h
  cases h
  exact pw_zret hx hb hr hlocks hAe (Decidable.not_not.mp g2) hQ hP hD hS dX5_isSign_6
def fX5_isTenths (a1 : Int32) : Option Int32 :=
  (fX5_isWithin a1 10 400).bind fun x1 =>
  if ¬ (x1 = 0 ∨ x1 = 1) then none else
  some x1
abbrev rmX5_isTenths : Room := { frames := 1, cells := 0, slots := 0, locals := 22 }
set_option maxHeartbeats 4000000 in
set_option maxRecDepth 100000 in
theorem mX5_isTenths (l : Launch) (D : va_G) (cI cO cJ : ClassId) (sz : Nat) (a1 : Int32) (z : Int32) (h : fX5_isTenths a1 = some z) : Met l yX5_isTenths wsX5_isTenths rmX5_isTenths (pw_pre D (tyL cI cO cJ) [.int a1] [] sz) (pw_i D [] [] z sz) 0 0 (va_A [] sz) := by
  refine pw_of (Qc := fun sz => pw_i D [] [] z sz) (cc := cX5_isTenths) (maxL := 1) (ret := (some .boolean)) (by decide) rfl (Nat.le_of_ble_eq_true rfl) ?_
  intro p e s m args below meth c A Q H ls hx hb hml hr hts hown hlocks hAe hQ hK hN hA hP hD hS hl
  have hown : s.vm.findClass RX5 = some m.cls := hown
  have hl : lv_has ls 1 [(0, .int a1)] := hl
  unfold fX5_isTenths at h
  refine lv_iload_n hx hb dX5_isTenths_0 rfl (lv_at hl 0 rfl) ?_
  refine lv_bipush (v := 10) hx hb dX5_isTenths_1 (by decide) ?_
  refine lv_sipush (v := 400) hx hb dX5_isTenths_3 (by decide) ?_
  obtain ⟨x1, hx1, h⟩ := bnd h
  refine pw_go0 (va_runS (As := [.int a1, .int 10, .int 400]) (rest := []) ⟨hx, hb, hml, hown, hts⟩ (mX5_isWithin l D cI cO cJ H.size a1 10 400 _ hx1) (va_cwS 3 hts gX5_isTenths_X5_isWithin rfl rfl rfl (by decide +kernel) ⟨Nat.le_of_ble_eq_true rfl, Nat.le_of_ble_eq_true rfl⟩) (pw_preS hK hN pw_nilP (pw_nilD (A := A))) rfl rfl hl.1 rfl (lv_room (Nat.le_of_ble_eq_true rfl)) dX5_isTenths_6 ⟨Nat.zero_le _, Nat.zero_le _⟩) hP hS hA (fun H locs hP hS => ?_)
  obtain ⟨g2, h⟩ := gdn h
  cases h
  exact pw_zret hx hb hr hlocks hAe (Decidable.not_not.mp g2) hQ hP hD hS dX5_isTenths_9
def fX5_grownSign (a1 : Int32) (a2 : Int32) (a3 : Int32) : Option Int32 :=
  (fX5_classOf a1 a2 0).bind fun x1 =>
  if a3 ≤ 0 then
  some (x1 - x1 / 4 * 4)
  else
  if a3 = 0 then none else
  if (a1 - a1 / a3 * a3) = 0 then
  some (((x1 - x1 / 4 * 4) + 1) - ((x1 - x1 / 4 * 4) + 1) / 4 * 4)
  else
  some (x1 - x1 / 4 * 4)
abbrev rmX5_grownSign : Room := { frames := 1, cells := 0, slots := 0, locals := 22 }
set_option maxHeartbeats 4000000 in
set_option maxRecDepth 100000 in
theorem mX5_grownSign (l : Launch) (D : va_G) (cI cO cJ : ClassId) (sz : Nat) (a1 : Int32) (a2 : Int32) (a3 : Int32) (z : Int32) (h : fX5_grownSign a1 a2 a3 = some z) : Met l yX5_grownSign wsX5_grownSign rmX5_grownSign (pw_pre D (tyL cI cO cJ) [.int a1, .int a2, .int a3] [] sz) (pw_i D [] [] z sz) 0 0 (va_A [] sz) := by
  refine pw_of (Qc := fun sz => pw_i D [] [] z sz) (cc := cX5_grownSign) (maxL := 4) (ret := (some .int)) (by decide) rfl (Nat.le_of_ble_eq_true rfl) ?_
  intro p e s m args below meth c A Q H ls hx hb hml hr hts hown hlocks hAe hQ hK hN hA hP hD hS hl
  have hown : s.vm.findClass RX5 = some m.cls := hown
  have hl : lv_has ls 4 [(0, .int a1), (1, .int a2), (2, .int a3)] := hl
  unfold fX5_grownSign at h
  refine lv_iload_n hx hb dX5_grownSign_0 rfl (lv_at hl 0 rfl) ?_
  refine lv_iload_n hx hb dX5_grownSign_1 rfl (lv_at hl 1 rfl) ?_
  refine lv_iconst (v := 0) hx hb dX5_grownSign_2 (by decide) ?_
  obtain ⟨x1, hx1, h⟩ := bnd h
  refine pw_go0 (va_runS (As := [.int a1, .int a2, .int 0]) (rest := []) ⟨hx, hb, hml, hown, hts⟩ (mX5_classOf l D cI cO cJ H.size a1 a2 0 _ hx1) (va_cwS 3 hts gX5_grownSign_X5_classOf rfl rfl rfl (by decide +kernel) ⟨Nat.le_of_ble_eq_true rfl, Nat.le_of_ble_eq_true rfl⟩) (pw_preS hK hN pw_nilP (pw_nilD (A := A))) rfl rfl hl.1 rfl (lv_room (Nat.le_of_ble_eq_true rfl)) dX5_grownSign_3 ⟨Nat.zero_le _, Nat.zero_le _⟩) hP hS hA (fun H locs hP hS => ?_)
  refine lv_iconst (v := 4) hx hb dX5_grownSign_6 (by decide) ?_
  refine lv_irem hx hb dX5_grownSign_7 (by decide) ?_
  refine lv_istore_n (lv' := [(3, .int (x1 - x1 / 4 * 4)), (0, .int a1), (1, .int a2), (2, .int a3)]) hx hb dX5_grownSign_8 rfl hl (by decide) rfl (fun ls hl => ?_)
  refine lv_iload_n hx hb dX5_grownSign_9 rfl (lv_at hl 3 rfl) ?_
  refine lv_if_le (tgt := 25) hx hb dX5_grownSign_10 (by decide) (fun cq => ?_) (fun cq => ?_)
  · replace h := ifp cq h
    refine lv_iload_n hx hb dX5_grownSign_25 rfl (lv_at hl 0 rfl) ?_
    cases h
    exact pw_iret hx hb hr hlocks hAe hQ hP hD hS dX5_grownSign_26
  · replace h := ifn cq h
    refine lv_iload_n hx hb dX5_grownSign_13 rfl (lv_at hl 1 rfl) ?_
    refine lv_iload_n hx hb dX5_grownSign_14 rfl (lv_at hl 3 rfl) ?_
    obtain ⟨g2, h⟩ := gdn h
    refine lv_irem hx hb dX5_grownSign_15 g2 ?_
    refine lv_if_ne (tgt := 25) hx hb dX5_grownSign_16 (by decide) (fun cq => ?_) (fun cq => ?_)
    · replace h := ifn cq h
      refine lv_iload_n hx hb dX5_grownSign_25 rfl (lv_at hl 0 rfl) ?_
      cases h
      exact pw_iret hx hb hr hlocks hAe hQ hP hD hS dX5_grownSign_26
    · replace h := ifp cq h
      refine lv_iload_n hx hb dX5_grownSign_19 rfl (lv_at hl 0 rfl) ?_
      refine lv_iconst (v := 1) hx hb dX5_grownSign_20 (by decide) ?_
      refine lv_iadd hx hb dX5_grownSign_21 ?_
      refine lv_iconst (v := 4) hx hb dX5_grownSign_22 (by decide) ?_
      refine lv_irem hx hb dX5_grownSign_23 (by decide) ?_
      cases h
      exact pw_iret hx hb hr hlocks hAe hQ hP hD hS dX5_grownSign_24
def fX5_isPeriod (a1 : Int32) (a2 : Int32) : Option Int32 :=
  (fX5_isTenths a1).bind fun x1 =>
  if x1 = 0 then
  some 0
  else
  (fX5_isWithin a2 0 (a1 - 1)).bind fun x2 =>
  if x2 = 0 then
  some 0
  else
  some 1
abbrev rmX5_isPeriod : Room := { frames := 2, cells := 0, slots := 0, locals := 42 }
set_option maxHeartbeats 4000000 in
set_option maxRecDepth 100000 in
theorem mX5_isPeriod (l : Launch) (D : va_G) (cI cO cJ : ClassId) (sz : Nat) (a1 : Int32) (a2 : Int32) (z : Int32) (h : fX5_isPeriod a1 a2 = some z) : Met l yX5_isPeriod wsX5_isPeriod rmX5_isPeriod (pw_pre D (tyL cI cO cJ) [.int a1, .int a2] [] sz) (pw_i D [] [] z sz) 0 0 (va_A [] sz) := by
  refine pw_of (Qc := fun sz => pw_i D [] [] z sz) (cc := cX5_isPeriod) (maxL := 2) (ret := (some .boolean)) (by decide) rfl (Nat.le_of_ble_eq_true rfl) ?_
  intro p e s m args below meth c A Q H ls hx hb hml hr hts hown hlocks hAe hQ hK hN hA hP hD hS hl
  have hown : s.vm.findClass RX5 = some m.cls := hown
  have hl : lv_has ls 2 [(0, .int a1), (1, .int a2)] := hl
  unfold fX5_isPeriod at h
  refine lv_iload_n hx hb dX5_isPeriod_0 rfl (lv_at hl 0 rfl) ?_
  obtain ⟨x1, hx1, h⟩ := bnd h
  refine pw_go0 (va_runS (As := [.int a1]) (rest := []) ⟨hx, hb, hml, hown, hts⟩ (mX5_isTenths l D cI cO cJ H.size a1 _ hx1) (va_cwS 1 hts gX5_isPeriod_X5_isTenths rfl rfl rfl (by decide +kernel) ⟨Nat.le_of_ble_eq_true rfl, Nat.le_of_ble_eq_true rfl⟩) (pw_preS hK hN pw_nilP (pw_nilD (A := A))) rfl rfl hl.1 rfl (lv_room (Nat.le_of_ble_eq_true rfl)) dX5_isPeriod_1 ⟨Nat.zero_le _, Nat.zero_le _⟩) hP hS hA (fun H locs hP hS => ?_)
  refine lv_if_eq (tgt := 22) hx hb dX5_isPeriod_4 (by decide) (fun cq => ?_) (fun cq => ?_)
  · replace h := ifp cq h
    refine lv_iconst (v := 0) hx hb dX5_isPeriod_22 (by decide) ?_
    cases h
    exact pw_zret hx hb hr hlocks hAe (by decide) hQ hP hD hS dX5_isPeriod_23
  · replace h := ifn cq h
    refine lv_iload_n hx hb dX5_isPeriod_7 rfl (lv_at hl 1 rfl) ?_
    refine lv_iconst (v := 0) hx hb dX5_isPeriod_8 (by decide) ?_
    refine lv_iload_n hx hb dX5_isPeriod_9 rfl (lv_at hl 0 rfl) ?_
    refine lv_iconst (v := 1) hx hb dX5_isPeriod_10 (by decide) ?_
    refine lv_isub hx hb dX5_isPeriod_11 ?_
    obtain ⟨x2, hx2, h⟩ := bnd h
    refine pw_go0 (va_runS (As := [.int a2, .int 0, .int (a1 - 1)]) (rest := []) ⟨hx, hb, hml, hown, hts⟩ (mX5_isWithin l D cI cO cJ H.size a2 0 (a1 - 1) _ hx2) (va_cwS 3 hts gX5_isPeriod_X5_isWithin rfl rfl rfl (by decide +kernel) ⟨Nat.le_of_ble_eq_true rfl, Nat.le_of_ble_eq_true rfl⟩) (pw_preS hK hN pw_nilP (pw_nilD (A := A))) rfl rfl hl.1 rfl (lv_room (Nat.le_of_ble_eq_true rfl)) dX5_isPeriod_12 ⟨Nat.zero_le _, Nat.zero_le _⟩) hP hS hA (fun H locs hP hS => ?_)
    refine lv_if_eq (tgt := 22) hx hb dX5_isPeriod_15 (by decide) (fun cq => ?_) (fun cq => ?_)
    · replace h := ifp cq h
      refine lv_iconst (v := 0) hx hb dX5_isPeriod_22 (by decide) ?_
      cases h
      exact pw_zret hx hb hr hlocks hAe (by decide) hQ hP hD hS dX5_isPeriod_23
    · replace h := ifn cq h
      refine lv_iconst (v := 1) hx hb dX5_isPeriod_18 (by decide) ?_
      refine lv_goto (tgt := 23) hx hb dX5_isPeriod_19 (by decide) ?_
      cases h
      exact pw_zret hx hb hr hlocks hAe (by decide) hQ hP hD hS dX5_isPeriod_23
def fX5_canKeep (ten : Nat → Int32) (pha : Nat → Int32) (kep : Int32) (a1 : Int32) (a2 : Int32) : Option Int32 :=
  if 4 ≤ kep then
  some 0
  else
  (fX2_hasPeriod ten pha kep a1 a2).bind fun x1 =>
  if x1 = 0 then
  some 1
  else
  some 0
abbrev rmX5_canKeep : Room := { frames := 3, cells := 0, slots := 0, locals := 65 }
set_option maxHeartbeats 4000000 in
set_option maxRecDepth 100000 in
theorem mX5_canKeep (l : Launch) (D : va_G) (cI cO cJ : ClassId) (h5 h2 h2_row h2_ten h2_pha h2_set h1 h1a h4 h4_cod h4_unf h0 h0_cel h3 h3_str : Nat) (sz : Nat) (row : Nat → Int32) (ten : Nat → Int32) (pha : Nat → Int32) (set : Nat → Int32) (len : Int32) (kep : Int32) (nex : Int32) (man : Int32) (cod : Nat → Int32) (unf : Nat → Int32) (tln : Int32) (cel : Nat → Int32) (cls : Int32) (str : Nat → Int32) (a1 : Int32) (a2 : Int32) (z : Int32) (h : fX5_canKeep ten pha kep a1 a2 = some z) : Met l yX5_canKeep wsX5_canKeep rmX5_canKeep (pw_pre D (tyL cI cO cJ) [.ref h5, .int a1, .int a2] [(h5, .inr (5, [.ref h2, .ref h1, .ref h4, .ref h0, .ref h3])), (h2, .inr (2, [.ref h2_row, .ref h2_ten, .ref h2_pha, .ref h2_set, .int len, .int kep])), (h2_row, .inl (cI, 240, .inl row)), (h2_ten, .inl (cI, 4, .inl ten)), (h2_pha, .inl (cI, 4, .inl pha)), (h2_set, .inl (cI, 3, .inl set)), (h1, .inr (1, [.ref h1a, .int nex, .int man])), (h4, .inr (4, [.ref h4_cod, .ref h4_unf, .int tln])), (h4_cod, .inl (cI, 60, .inl cod)), (h4_unf, .inl (cI, 540, .inl unf)), (h0, .inr (0, [.ref h0_cel, .int cls])), (h0_cel, .inl (cI, 160, .inl cel)), (h3, .inr (3, [.ref h3_str])), (h3_str, .inl (cI, 160, .inl str))] sz) (pw_i D [(h5, .inr (5, [.ref h2, .ref h1, .ref h4, .ref h0, .ref h3])), (h2, .inr (2, [.ref h2_row, .ref h2_ten, .ref h2_pha, .ref h2_set, .int len, .int kep])), (h2_row, .inl (cI, 240, .inl row)), (h2_ten, .inl (cI, 4, .inl ten)), (h2_pha, .inl (cI, 4, .inl pha)), (h2_set, .inl (cI, 3, .inl set)), (h1, .inr (1, [.ref h1a, .int nex, .int man])), (h4, .inr (4, [.ref h4_cod, .ref h4_unf, .int tln])), (h4_cod, .inl (cI, 60, .inl cod)), (h4_unf, .inl (cI, 540, .inl unf)), (h0, .inr (0, [.ref h0_cel, .int cls])), (h0_cel, .inl (cI, 160, .inl cel)), (h3, .inr (3, [.ref h3_str])), (h3_str, .inl (cI, 160, .inl str))] [(h5, .inr (5, [.ref h2, .ref h1, .ref h4, .ref h0, .ref h3])), (h2, .inr (2, [.ref h2_row, .ref h2_ten, .ref h2_pha, .ref h2_set, .int len, .int kep])), (h2_row, .inl (cI, 240, .inl row)), (h2_ten, .inl (cI, 4, .inl ten)), (h2_pha, .inl (cI, 4, .inl pha)), (h2_set, .inl (cI, 3, .inl set)), (h1, .inr (1, [.ref h1a, .int nex, .int man])), (h4, .inr (4, [.ref h4_cod, .ref h4_unf, .int tln])), (h4_cod, .inl (cI, 60, .inl cod)), (h4_unf, .inl (cI, 540, .inl unf)), (h0, .inr (0, [.ref h0_cel, .int cls])), (h0_cel, .inl (cI, 160, .inl cel)), (h3, .inr (3, [.ref h3_str])), (h3_str, .inl (cI, 160, .inl str))] z sz) 0 0 (va_A [(h5, .inr (5, [.ref h2, .ref h1, .ref h4, .ref h0, .ref h3])), (h2, .inr (2, [.ref h2_row, .ref h2_ten, .ref h2_pha, .ref h2_set, .int len, .int kep])), (h2_row, .inl (cI, 240, .inl row)), (h2_ten, .inl (cI, 4, .inl ten)), (h2_pha, .inl (cI, 4, .inl pha)), (h2_set, .inl (cI, 3, .inl set)), (h1, .inr (1, [.ref h1a, .int nex, .int man])), (h4, .inr (4, [.ref h4_cod, .ref h4_unf, .int tln])), (h4_cod, .inl (cI, 60, .inl cod)), (h4_unf, .inl (cI, 540, .inl unf)), (h0, .inr (0, [.ref h0_cel, .int cls])), (h0_cel, .inl (cI, 160, .inl cel)), (h3, .inr (3, [.ref h3_str])), (h3_str, .inl (cI, 160, .inl str))] sz) := by
  refine pw_of (Qc := fun sz => pw_i D [(h5, .inr (5, [.ref h2, .ref h1, .ref h4, .ref h0, .ref h3])), (h2, .inr (2, [.ref h2_row, .ref h2_ten, .ref h2_pha, .ref h2_set, .int len, .int kep])), (h2_row, .inl (cI, 240, .inl row)), (h2_ten, .inl (cI, 4, .inl ten)), (h2_pha, .inl (cI, 4, .inl pha)), (h2_set, .inl (cI, 3, .inl set)), (h1, .inr (1, [.ref h1a, .int nex, .int man])), (h4, .inr (4, [.ref h4_cod, .ref h4_unf, .int tln])), (h4_cod, .inl (cI, 60, .inl cod)), (h4_unf, .inl (cI, 540, .inl unf)), (h0, .inr (0, [.ref h0_cel, .int cls])), (h0_cel, .inl (cI, 160, .inl cel)), (h3, .inr (3, [.ref h3_str])), (h3_str, .inl (cI, 160, .inl str))] [(h5, .inr (5, [.ref h2, .ref h1, .ref h4, .ref h0, .ref h3])), (h2, .inr (2, [.ref h2_row, .ref h2_ten, .ref h2_pha, .ref h2_set, .int len, .int kep])), (h2_row, .inl (cI, 240, .inl row)), (h2_ten, .inl (cI, 4, .inl ten)), (h2_pha, .inl (cI, 4, .inl pha)), (h2_set, .inl (cI, 3, .inl set)), (h1, .inr (1, [.ref h1a, .int nex, .int man])), (h4, .inr (4, [.ref h4_cod, .ref h4_unf, .int tln])), (h4_cod, .inl (cI, 60, .inl cod)), (h4_unf, .inl (cI, 540, .inl unf)), (h0, .inr (0, [.ref h0_cel, .int cls])), (h0_cel, .inl (cI, 160, .inl cel)), (h3, .inr (3, [.ref h3_str])), (h3_str, .inl (cI, 160, .inl str))] z sz) (cc := cX5_canKeep) (maxL := 3) (ret := (some .boolean)) (by decide) rfl (Nat.le_of_ble_eq_true rfl) ?_
  intro p e s m args below meth c A Q H ls hx hb hml hr hts hown hlocks hAe hQ hK hN hA hP hD hS hl
  have hown : s.vm.findClass RX5 = some m.cls := hown
  have hl : lv_has ls 3 [(0, .ref h5), (1, .int a1), (2, .int a2)] := hl
  have hP : va_P D vwCl ([(h5, .inr (5, [.ref h2, .ref h1, .ref h4, .ref h0, .ref h3])), (h2, .inr (2, [.ref h2_row, .ref h2_ten, .ref h2_pha, .ref h2_set, .int len, .int kep])), (h2_row, .inl (cI, 240, .inl row)), (h2_ten, .inl (cI, 4, .inl ten)), (h2_pha, .inl (cI, 4, .inl pha)), (h2_set, .inl (cI, 3, .inl set)), (h1, .inr (1, [.ref h1a, .int nex, .int man])), (h4, .inr (4, [.ref h4_cod, .ref h4_unf, .int tln])), (h4_cod, .inl (cI, 60, .inl cod)), (h4_unf, .inl (cI, 540, .inl unf)), (h0, .inr (0, [.ref h0_cel, .int cls])), (h0_cel, .inl (cI, 160, .inl cel)), (h3, .inr (3, [.ref h3_str])), (h3_str, .inl (cI, 160, .inl str))] ++ []) H := hP
  have hD : va_D A ([(h5, .inr (5, [.ref h2, .ref h1, .ref h4, .ref h0, .ref h3])), (h2, .inr (2, [.ref h2_row, .ref h2_ten, .ref h2_pha, .ref h2_set, .int len, .int kep])), (h2_row, .inl (cI, 240, .inl row)), (h2_ten, .inl (cI, 4, .inl ten)), (h2_pha, .inl (cI, 4, .inl pha)), (h2_set, .inl (cI, 3, .inl set)), (h1, .inr (1, [.ref h1a, .int nex, .int man])), (h4, .inr (4, [.ref h4_cod, .ref h4_unf, .int tln])), (h4_cod, .inl (cI, 60, .inl cod)), (h4_unf, .inl (cI, 540, .inl unf)), (h0, .inr (0, [.ref h0_cel, .int cls])), (h0_cel, .inl (cI, 160, .inl cel)), (h3, .inr (3, [.ref h3_str])), (h3_str, .inl (cI, 160, .inl str))] ++ []) := hD
  have iX2 : ∀ w ∈ u_ws RX2 TX2 6, w ∈ wsX5_canKeep := fun _ h => List.mem_cons_of_mem _ (List.mem_append_right _ h)
  have iX5 : ∀ w ∈ u_ws RX5 TX5 5, w ∈ wsX5_canKeep := fun _ h => List.mem_cons_of_mem _ (List.mem_append_left _ (List.mem_append_right _ h))
  unfold fX5_canKeep at h
  refine lv_aload_n hx hb dX5_canKeep_0 rfl (lv_at hl 0 rfl) ?_
  refine va_get (D := D) (ci := 5) (v := .ref h2) (C := RX5) (T := TX5) (N := 5) hx hb hts iX5 hown hK hP 0 rfl rfl 0 (by decide) (hts (.fieldLink RX5 10 "HiddenPeriods" "state" "LHiddenPeriods$State;") (by decide +kernel)) (fun _ h9 => h9) rfl dX5_canKeep_1 ?_
  refine va_getN (D := D) (ci := 2) (v := .int kep) (C := RX2) (T := TX2) (N := 6) hx hb hts iX2 hown hK hP 1 rfl rfl 5 (by decide) (va_Nw.use rfl (hN (.fieldLinkNest RX5 125 "HiddenPeriods$State" "kept" "I" "HiddenPeriods") (by decide +kernel))) (fun _ h9 => h9) rfl dX5_canKeep_4 ?_
  refine lv_iconst (v := 4) hx hb dX5_canKeep_7 (by decide) ?_
  refine lv_icmp_ge (tgt := 27) hx hb dX5_canKeep_8 (by decide) (fun cq => ?_) (fun cq => ?_)
  · replace h := ifp cq h
    refine lv_iconst (v := 0) hx hb dX5_canKeep_27 (by decide) ?_
    cases h
    exact pw_zret hx hb hr hlocks hAe (by decide) hQ hP hD hS dX5_canKeep_28
  · replace h := ifn cq h
    refine lv_aload_n hx hb dX5_canKeep_11 rfl (lv_at hl 0 rfl) ?_
    refine va_get (D := D) (ci := 5) (v := .ref h2) (C := RX5) (T := TX5) (N := 5) hx hb hts iX5 hown hK hP 0 rfl rfl 0 (by decide) (hts (.fieldLink RX5 10 "HiddenPeriods" "state" "LHiddenPeriods$State;") (by decide +kernel)) (fun _ h9 => h9) rfl dX5_canKeep_12 ?_
    refine lv_iload_n hx hb dX5_canKeep_15 rfl (lv_at hl 1 rfl) ?_
    refine lv_iload_n hx hb dX5_canKeep_16 rfl (lv_at hl 2 rfl) ?_
    obtain ⟨x1, hx1, h⟩ := bnd h
    refine pw_goi (wc := [(h2, .inr (2, [.ref h2_row, .ref h2_ten, .ref h2_pha, .ref h2_set, .int len, .int kep])), (h2_row, .inl (cI, 240, .inl row)), (h2_ten, .inl (cI, 4, .inl ten)), (h2_pha, .inl (cI, 4, .inl pha)), (h2_set, .inl (cI, 3, .inl set))]) (w1 := [(h2, .inr (2, [.ref h2_row, .ref h2_ten, .ref h2_pha, .ref h2_set, .int len, .int kep])), (h2_row, .inl (cI, 240, .inl row)), (h2_ten, .inl (cI, 4, .inl ten)), (h2_pha, .inl (cI, 4, .inl pha)), (h2_set, .inl (cI, 3, .inl set))]) (w2 := [(h5, .inr (5, [.ref h2, .ref h1, .ref h4, .ref h0, .ref h3])), (h2, .inr (2, [.ref h2_row, .ref h2_ten, .ref h2_pha, .ref h2_set, .int len, .int kep])), (h2_row, .inl (cI, 240, .inl row)), (h2_ten, .inl (cI, 4, .inl ten)), (h2_pha, .inl (cI, 4, .inl pha)), (h2_set, .inl (cI, 3, .inl set)), (h1, .inr (1, [.ref h1a, .int nex, .int man])), (h4, .inr (4, [.ref h4_cod, .ref h4_unf, .int tln])), (h4_cod, .inl (cI, 60, .inl cod)), (h4_unf, .inl (cI, 540, .inl unf)), (h0, .inr (0, [.ref h0_cel, .int cls])), (h0_cel, .inl (cI, 160, .inl cel)), (h3, .inr (3, [.ref h3_str])), (h3_str, .inl (cI, 160, .inl str))]) (va_runV (As := [.int a1, .int a2]) (rest := []) ⟨hx, hb, hml, hown, hts⟩ (mX2_hasPeriod l D cI cO cJ h2 h2_row h2_ten h2_pha h2_set H.size row ten pha set len kep a1 a2 _ hx1) (cwV 2 hts gX5_canKeep_X2_hasPeriod rfl rfl rfl (by decide +kernel) ⟨Nat.le_of_ble_eq_true rfl, Nat.le_of_ble_eq_true rfl⟩) (pw_preV hK hN (pw_sub hP [1, 2, 3, 4, 5] rfl) (pw_subD hD [1, 2, 3, 4, 5] (by decide) rfl) (ci := 2) (q0 := 0) rfl rfl) rfl rfl hl.1 rfl (lv_room (Nat.le_of_ble_eq_true rfl)) dX5_canKeep_17 ⟨Nat.zero_le _, Nat.zero_le _⟩) hP hD hS hA [1, 2, 3, 4, 5] [0, 6, 7, 8, 9, 10, 11, 12, 13] [0, 9, 10, 11, 12, 13, 1, 2, 3, 4, 5, 6, 7, 8] rfl rfl (by decide) (by decide) (by decide) rfl (fun H locs hP hD hS => ?_)
    refine lv_if_ne (tgt := 27) hx hb dX5_canKeep_20 (by decide) (fun cq => ?_) (fun cq => ?_)
    · replace h := ifn cq h
      refine lv_iconst (v := 0) hx hb dX5_canKeep_27 (by decide) ?_
      cases h
      exact pw_zret hx hb hr hlocks hAe (by decide) hQ hP hD hS dX5_canKeep_28
    · replace h := ifp cq h
      refine lv_iconst (v := 1) hx hb dX5_canKeep_23 (by decide) ?_
      refine lv_goto (tgt := 28) hx hb dX5_canKeep_24 (by decide) ?_
      cases h
      exact pw_zret hx hb hr hlocks hAe (by decide) hQ hP hD hS dX5_canKeep_28
def fX5_isTenthsRange (a1 : Int32) (a2 : Int32) : Option Int32 :=
  (fX5_isTenths a1).bind fun x1 =>
  if x1 = 0 then
  some 0
  else
  (fX5_isWithin a2 a1 400).bind fun x2 =>
  if x2 = 0 then
  some 0
  else
  some 1
abbrev rmX5_isTenthsRange : Room := { frames := 2, cells := 0, slots := 0, locals := 42 }
set_option maxHeartbeats 4000000 in
set_option maxRecDepth 100000 in
theorem mX5_isTenthsRange (l : Launch) (D : va_G) (cI cO cJ : ClassId) (sz : Nat) (a1 : Int32) (a2 : Int32) (z : Int32) (h : fX5_isTenthsRange a1 a2 = some z) : Met l yX5_isTenthsRange wsX5_isTenthsRange rmX5_isTenthsRange (pw_pre D (tyL cI cO cJ) [.int a1, .int a2] [] sz) (pw_i D [] [] z sz) 0 0 (va_A [] sz) := by
  refine pw_of (Qc := fun sz => pw_i D [] [] z sz) (cc := cX5_isTenthsRange) (maxL := 2) (ret := (some .boolean)) (by decide) rfl (Nat.le_of_ble_eq_true rfl) ?_
  intro p e s m args below meth c A Q H ls hx hb hml hr hts hown hlocks hAe hQ hK hN hA hP hD hS hl
  have hown : s.vm.findClass RX5 = some m.cls := hown
  have hl : lv_has ls 2 [(0, .int a1), (1, .int a2)] := hl
  unfold fX5_isTenthsRange at h
  refine lv_iload_n hx hb dX5_isTenthsRange_0 rfl (lv_at hl 0 rfl) ?_
  obtain ⟨x1, hx1, h⟩ := bnd h
  refine pw_go0 (va_runS (As := [.int a1]) (rest := []) ⟨hx, hb, hml, hown, hts⟩ (mX5_isTenths l D cI cO cJ H.size a1 _ hx1) (va_cwS 1 hts gX5_isTenthsRange_X5_isTenths rfl rfl rfl (by decide +kernel) ⟨Nat.le_of_ble_eq_true rfl, Nat.le_of_ble_eq_true rfl⟩) (pw_preS hK hN pw_nilP (pw_nilD (A := A))) rfl rfl hl.1 rfl (lv_room (Nat.le_of_ble_eq_true rfl)) dX5_isTenthsRange_1 ⟨Nat.zero_le _, Nat.zero_le _⟩) hP hS hA (fun H locs hP hS => ?_)
  refine lv_if_eq (tgt := 22) hx hb dX5_isTenthsRange_4 (by decide) (fun cq => ?_) (fun cq => ?_)
  · replace h := ifp cq h
    refine lv_iconst (v := 0) hx hb dX5_isTenthsRange_22 (by decide) ?_
    cases h
    exact pw_zret hx hb hr hlocks hAe (by decide) hQ hP hD hS dX5_isTenthsRange_23
  · replace h := ifn cq h
    refine lv_iload_n hx hb dX5_isTenthsRange_7 rfl (lv_at hl 1 rfl) ?_
    refine lv_iload_n hx hb dX5_isTenthsRange_8 rfl (lv_at hl 0 rfl) ?_
    refine lv_sipush (v := 400) hx hb dX5_isTenthsRange_9 (by decide) ?_
    obtain ⟨x2, hx2, h⟩ := bnd h
    refine pw_go0 (va_runS (As := [.int a2, .int a1, .int 400]) (rest := []) ⟨hx, hb, hml, hown, hts⟩ (mX5_isWithin l D cI cO cJ H.size a2 a1 400 _ hx2) (va_cwS 3 hts gX5_isTenthsRange_X5_isWithin rfl rfl rfl (by decide +kernel) ⟨Nat.le_of_ble_eq_true rfl, Nat.le_of_ble_eq_true rfl⟩) (pw_preS hK hN pw_nilP (pw_nilD (A := A))) rfl rfl hl.1 rfl (lv_room (Nat.le_of_ble_eq_true rfl)) dX5_isTenthsRange_12 ⟨Nat.zero_le _, Nat.zero_le _⟩) hP hS hA (fun H locs hP hS => ?_)
    refine lv_if_eq (tgt := 22) hx hb dX5_isTenthsRange_15 (by decide) (fun cq => ?_) (fun cq => ?_)
    · replace h := ifp cq h
      refine lv_iconst (v := 0) hx hb dX5_isTenthsRange_22 (by decide) ?_
      cases h
      exact pw_zret hx hb hr hlocks hAe (by decide) hQ hP hD hS dX5_isTenthsRange_23
    · replace h := ifn cq h
      refine lv_iconst (v := 1) hx hb dX5_isTenthsRange_18 (by decide) ?_
      refine lv_goto (tgt := 23) hx hb dX5_isTenthsRange_19 (by decide) ?_
      cases h
      exact pw_zret hx hb hr hlocks hAe (by decide) hQ hP hD hS dX5_isTenthsRange_23
def fX5_bestTenths_L9 (row : Nat → Int32) (set : Nat → Int32) (len : Int32) (a2 : Int32) : Nat → Int32 → Int32 → Int32 → (Nat → Int32) → Int32 → Option (Int32 × (Nat → Int32) × Int32)
  | 0, _, _, _, _, _ => none
  | n + 1, v3_9, v4_9, v5_9, cel_9, cls_9 =>
    if a2 < v5_9 then
    some (v3_9, cel_9, cls_9)
    else
    (fX0_takeWindow cel_9 row set len v5_9 0).bind fun (x1_1, x1_2) =>
    (fX0_explained x1_1 x1_2).bind fun x2 =>
    (fX5_classesOf v5_9).bind fun x3 =>
    if ((4 * x2) - x3) ≤ v4_9 then
    fX5_bestTenths_L9 row set len a2 n v3_9 v4_9 (v5_9 + 1) x1_1 x1_2
    else
    fX5_bestTenths_L9 row set len a2 n v5_9 ((4 * x2) - x3) (v5_9 + 1) x1_1 x1_2
def fX5_bestTenths (row : Nat → Int32) (set : Nat → Int32) (len : Int32) (cel : Nat → Int32) (cls : Int32) (a1 : Int32) (a2 : Int32) : Option (Int32 × (Nat → Int32) × Int32) :=
  (fX5_bestTenths_L9 row set len a2 FU a1 (-41) a1 cel cls).bind fun (x4_1, x4_2, x4_3) =>
  some (x4_1, x4_2, x4_3)
abbrev rmX5_bestTenths : Room := { frames := 4, cells := 0, slots := 0, locals := 86 }
set_option maxHeartbeats 4000000 in
set_option maxRecDepth 100000 in
theorem mX5_bestTenths (l : Launch) (D : va_G) (cI cO cJ : ClassId) (h5 h2 h2_row h2_ten h2_pha h2_set h1 h1a h4 h4_cod h4_unf h0 h0_cel h3 h3_str : Nat) (sz : Nat) (row : Nat → Int32) (ten : Nat → Int32) (pha : Nat → Int32) (set : Nat → Int32) (len : Int32) (kep : Int32) (nex : Int32) (man : Int32) (cod : Nat → Int32) (unf : Nat → Int32) (tln : Int32) (cel : Nat → Int32) (cls : Int32) (str : Nat → Int32) (a1 : Int32) (a2 : Int32) (z : Int32 × (Nat → Int32) × Int32) (h : fX5_bestTenths row set len cel cls a1 a2 = some z) : Met l yX5_bestTenths wsX5_bestTenths rmX5_bestTenths (pw_pre D (tyL cI cO cJ) [.ref h5, .int a1, .int a2] [(h5, .inr (5, [.ref h2, .ref h1, .ref h4, .ref h0, .ref h3])), (h2, .inr (2, [.ref h2_row, .ref h2_ten, .ref h2_pha, .ref h2_set, .int len, .int kep])), (h2_row, .inl (cI, 240, .inl row)), (h2_ten, .inl (cI, 4, .inl ten)), (h2_pha, .inl (cI, 4, .inl pha)), (h2_set, .inl (cI, 3, .inl set)), (h1, .inr (1, [.ref h1a, .int nex, .int man])), (h4, .inr (4, [.ref h4_cod, .ref h4_unf, .int tln])), (h4_cod, .inl (cI, 60, .inl cod)), (h4_unf, .inl (cI, 540, .inl unf)), (h0, .inr (0, [.ref h0_cel, .int cls])), (h0_cel, .inl (cI, 160, .inl cel)), (h3, .inr (3, [.ref h3_str])), (h3_str, .inl (cI, 160, .inl str))] sz) (pw_i D [(h5, .inr (5, [.ref h2, .ref h1, .ref h4, .ref h0, .ref h3])), (h2, .inr (2, [.ref h2_row, .ref h2_ten, .ref h2_pha, .ref h2_set, .int len, .int kep])), (h2_row, .inl (cI, 240, .inl row)), (h2_ten, .inl (cI, 4, .inl ten)), (h2_pha, .inl (cI, 4, .inl pha)), (h2_set, .inl (cI, 3, .inl set)), (h1, .inr (1, [.ref h1a, .int nex, .int man])), (h4, .inr (4, [.ref h4_cod, .ref h4_unf, .int tln])), (h4_cod, .inl (cI, 60, .inl cod)), (h4_unf, .inl (cI, 540, .inl unf)), (h0, .inr (0, [.ref h0_cel, .int cls])), (h0_cel, .inl (cI, 160, .inl cel)), (h3, .inr (3, [.ref h3_str])), (h3_str, .inl (cI, 160, .inl str))] [(h5, .inr (5, [.ref h2, .ref h1, .ref h4, .ref h0, .ref h3])), (h2, .inr (2, [.ref h2_row, .ref h2_ten, .ref h2_pha, .ref h2_set, .int len, .int kep])), (h2_row, .inl (cI, 240, .inl row)), (h2_ten, .inl (cI, 4, .inl ten)), (h2_pha, .inl (cI, 4, .inl pha)), (h2_set, .inl (cI, 3, .inl set)), (h1, .inr (1, [.ref h1a, .int nex, .int man])), (h4, .inr (4, [.ref h4_cod, .ref h4_unf, .int tln])), (h4_cod, .inl (cI, 60, .inl cod)), (h4_unf, .inl (cI, 540, .inl unf)), (h0, .inr (0, [.ref h0_cel, .int z.2.2])), (h0_cel, .inl (cI, 160, .inl z.2.1)), (h3, .inr (3, [.ref h3_str])), (h3_str, .inl (cI, 160, .inl str))] z.1 sz) 0 0 (va_A [(h5, .inr (5, [.ref h2, .ref h1, .ref h4, .ref h0, .ref h3])), (h2, .inr (2, [.ref h2_row, .ref h2_ten, .ref h2_pha, .ref h2_set, .int len, .int kep])), (h2_row, .inl (cI, 240, .inl row)), (h2_ten, .inl (cI, 4, .inl ten)), (h2_pha, .inl (cI, 4, .inl pha)), (h2_set, .inl (cI, 3, .inl set)), (h1, .inr (1, [.ref h1a, .int nex, .int man])), (h4, .inr (4, [.ref h4_cod, .ref h4_unf, .int tln])), (h4_cod, .inl (cI, 60, .inl cod)), (h4_unf, .inl (cI, 540, .inl unf)), (h0, .inr (0, [.ref h0_cel, .int cls])), (h0_cel, .inl (cI, 160, .inl cel)), (h3, .inr (3, [.ref h3_str])), (h3_str, .inl (cI, 160, .inl str))] sz) := by
  refine pw_of (Qc := fun sz => pw_i D [(h5, .inr (5, [.ref h2, .ref h1, .ref h4, .ref h0, .ref h3])), (h2, .inr (2, [.ref h2_row, .ref h2_ten, .ref h2_pha, .ref h2_set, .int len, .int kep])), (h2_row, .inl (cI, 240, .inl row)), (h2_ten, .inl (cI, 4, .inl ten)), (h2_pha, .inl (cI, 4, .inl pha)), (h2_set, .inl (cI, 3, .inl set)), (h1, .inr (1, [.ref h1a, .int nex, .int man])), (h4, .inr (4, [.ref h4_cod, .ref h4_unf, .int tln])), (h4_cod, .inl (cI, 60, .inl cod)), (h4_unf, .inl (cI, 540, .inl unf)), (h0, .inr (0, [.ref h0_cel, .int cls])), (h0_cel, .inl (cI, 160, .inl cel)), (h3, .inr (3, [.ref h3_str])), (h3_str, .inl (cI, 160, .inl str))] [(h5, .inr (5, [.ref h2, .ref h1, .ref h4, .ref h0, .ref h3])), (h2, .inr (2, [.ref h2_row, .ref h2_ten, .ref h2_pha, .ref h2_set, .int len, .int kep])), (h2_row, .inl (cI, 240, .inl row)), (h2_ten, .inl (cI, 4, .inl ten)), (h2_pha, .inl (cI, 4, .inl pha)), (h2_set, .inl (cI, 3, .inl set)), (h1, .inr (1, [.ref h1a, .int nex, .int man])), (h4, .inr (4, [.ref h4_cod, .ref h4_unf, .int tln])), (h4_cod, .inl (cI, 60, .inl cod)), (h4_unf, .inl (cI, 540, .inl unf)), (h0, .inr (0, [.ref h0_cel, .int z.2.2])), (h0_cel, .inl (cI, 160, .inl z.2.1)), (h3, .inr (3, [.ref h3_str])), (h3_str, .inl (cI, 160, .inl str))] z.1 sz) (cc := cX5_bestTenths) (maxL := 7) (ret := (some .int)) (by decide) rfl (Nat.le_of_ble_eq_true rfl) ?_
  intro p e s m args below meth c A Q H ls hx hb hml hr hts hown hlocks hAe hQ hK hN hA hP hD hS hl
  have hown : s.vm.findClass RX5 = some m.cls := hown
  have hl : lv_has ls 7 [(0, .ref h5), (1, .int a1), (2, .int a2)] := hl
  have hP : va_P D vwCl ([(h5, .inr (5, [.ref h2, .ref h1, .ref h4, .ref h0, .ref h3])), (h2, .inr (2, [.ref h2_row, .ref h2_ten, .ref h2_pha, .ref h2_set, .int len, .int kep])), (h2_row, .inl (cI, 240, .inl row)), (h2_ten, .inl (cI, 4, .inl ten)), (h2_pha, .inl (cI, 4, .inl pha)), (h2_set, .inl (cI, 3, .inl set)), (h1, .inr (1, [.ref h1a, .int nex, .int man])), (h4, .inr (4, [.ref h4_cod, .ref h4_unf, .int tln])), (h4_cod, .inl (cI, 60, .inl cod)), (h4_unf, .inl (cI, 540, .inl unf)), (h0, .inr (0, [.ref h0_cel, .int cls])), (h0_cel, .inl (cI, 160, .inl cel)), (h3, .inr (3, [.ref h3_str])), (h3_str, .inl (cI, 160, .inl str))] ++ []) H := hP
  have hD : va_D A ([(h5, .inr (5, [.ref h2, .ref h1, .ref h4, .ref h0, .ref h3])), (h2, .inr (2, [.ref h2_row, .ref h2_ten, .ref h2_pha, .ref h2_set, .int len, .int kep])), (h2_row, .inl (cI, 240, .inl row)), (h2_ten, .inl (cI, 4, .inl ten)), (h2_pha, .inl (cI, 4, .inl pha)), (h2_set, .inl (cI, 3, .inl set)), (h1, .inr (1, [.ref h1a, .int nex, .int man])), (h4, .inr (4, [.ref h4_cod, .ref h4_unf, .int tln])), (h4_cod, .inl (cI, 60, .inl cod)), (h4_unf, .inl (cI, 540, .inl unf)), (h0, .inr (0, [.ref h0_cel, .int cls])), (h0_cel, .inl (cI, 160, .inl cel)), (h3, .inr (3, [.ref h3_str])), (h3_str, .inl (cI, 160, .inl str))] ++ []) := hD
  have iX5 : ∀ w ∈ u_ws RX5 TX5 5, w ∈ wsX5_bestTenths := fun _ h => List.mem_cons_of_mem _ (List.mem_append_left _ (List.mem_append_left _ (List.mem_append_right _ h)))
  unfold fX5_bestTenths at h
  refine lv_iload_n hx hb dX5_bestTenths_0 rfl (lv_at hl 1 rfl) ?_
  refine lv_istore_n (lv' := [(3, .int a1), (0, .ref h5), (1, .int a1), (2, .int a2)]) hx hb dX5_bestTenths_1 rfl hl (by decide) rfl (fun ls hl => ?_)
  refine lv_bipush (v := (-41)) hx hb dX5_bestTenths_2 (by decide) ?_
  refine lv_istore (lv' := [(4, .int (-41)), (3, .int a1), (0, .ref h5), (1, .int a1), (2, .int a2)]) hx hb dX5_bestTenths_4 hl (by decide) rfl (fun ls hl => ?_)
  refine lv_iload_n hx hb dX5_bestTenths_6 rfl (lv_at hl 3 rfl) ?_
  refine lv_istore (lv' := [(5, .int a1), (4, .int (-41)), (3, .int a1), (0, .ref h5), (1, .int a1), (2, .int a2)]) hx hb dX5_bestTenths_7 hl (by decide) rfl (fun ls hl => ?_)
  have L9 : ∀ (n : Nat) (v3_9 : Int32) (v4_9 : Int32) (v5_9 : Int32) (cel_9 : Nat → Int32) (cls_9 : Int32) (o9_1 : Int32) (o9_2 : Nat → Int32) (o9_3 : Int32) (H : Heap) (locs : List Loc) (ls : Array Slot), fX5_bestTenths_L9 row set len a2 n v3_9 v4_9 v5_9 cel_9 cls_9 = some (o9_1, o9_2, o9_3) → va_P D vwCl ([(h5, .inr (5, [.ref h2, .ref h1, .ref h4, .ref h0, .ref h3])), (h2, .inr (2, [.ref h2_row, .ref h2_ten, .ref h2_pha, .ref h2_set, .int len, .int kep])), (h2_row, .inl (cI, 240, .inl row)), (h2_ten, .inl (cI, 4, .inl ten)), (h2_pha, .inl (cI, 4, .inl pha)), (h2_set, .inl (cI, 3, .inl set)), (h1, .inr (1, [.ref h1a, .int nex, .int man])), (h4, .inr (4, [.ref h4_cod, .ref h4_unf, .int tln])), (h4_cod, .inl (cI, 60, .inl cod)), (h4_unf, .inl (cI, 540, .inl unf)), (h0, .inr (0, [.ref h0_cel, .int cls_9])), (h0_cel, .inl (cI, 160, .inl cel_9)), (h3, .inr (3, [.ref h3_str])), (h3_str, .inl (cI, 160, .inl str))] ++ []) H → va_D A ([(h5, .inr (5, [.ref h2, .ref h1, .ref h4, .ref h0, .ref h3])), (h2, .inr (2, [.ref h2_row, .ref h2_ten, .ref h2_pha, .ref h2_set, .int len, .int kep])), (h2_row, .inl (cI, 240, .inl row)), (h2_ten, .inl (cI, 4, .inl ten)), (h2_pha, .inl (cI, 4, .inl pha)), (h2_set, .inl (cI, 3, .inl set)), (h1, .inr (1, [.ref h1a, .int nex, .int man])), (h4, .inr (4, [.ref h4_cod, .ref h4_unf, .int tln])), (h4_cod, .inl (cI, 60, .inl cod)), (h4_unf, .inl (cI, 540, .inl unf)), (h0, .inr (0, [.ref h0_cel, .int cls_9])), (h0_cel, .inl (cI, 160, .inl cel_9)), (h3, .inr (3, [.ref h3_str])), (h3_str, .inl (cI, 160, .inl str))] ++ []) → va_S A s.heap H locs → lv_has ls 7 [(0, .ref h5), (2, .int a2), (3, .int v3_9), (4, .int v4_9), (5, .int v5_9)] → (∀ (H : Heap) (locs : List Loc) (ls : Array Slot), va_P D vwCl ([(h5, .inr (5, [.ref h2, .ref h1, .ref h4, .ref h0, .ref h3])), (h2, .inr (2, [.ref h2_row, .ref h2_ten, .ref h2_pha, .ref h2_set, .int len, .int kep])), (h2_row, .inl (cI, 240, .inl row)), (h2_ten, .inl (cI, 4, .inl ten)), (h2_pha, .inl (cI, 4, .inl pha)), (h2_set, .inl (cI, 3, .inl set)), (h1, .inr (1, [.ref h1a, .int nex, .int man])), (h4, .inr (4, [.ref h4_cod, .ref h4_unf, .int tln])), (h4_cod, .inl (cI, 60, .inl cod)), (h4_unf, .inl (cI, 540, .inl unf)), (h0, .inr (0, [.ref h0_cel, .int o9_3])), (h0_cel, .inl (cI, 160, .inl o9_2)), (h3, .inr (3, [.ref h3_str])), (h3_str, .inl (cI, 160, .inl str))] ++ []) H → va_D A ([(h5, .inr (5, [.ref h2, .ref h1, .ref h4, .ref h0, .ref h3])), (h2, .inr (2, [.ref h2_row, .ref h2_ten, .ref h2_pha, .ref h2_set, .int len, .int kep])), (h2_row, .inl (cI, 240, .inl row)), (h2_ten, .inl (cI, 4, .inl ten)), (h2_pha, .inl (cI, 4, .inl pha)), (h2_set, .inl (cI, 3, .inl set)), (h1, .inr (1, [.ref h1a, .int nex, .int man])), (h4, .inr (4, [.ref h4_cod, .ref h4_unf, .int tln])), (h4_cod, .inl (cI, 60, .inl cod)), (h4_unf, .inl (cI, 540, .inl unf)), (h0, .inr (0, [.ref h0_cel, .int o9_3])), (h0_cel, .inl (cI, 160, .inl o9_2)), (h3, .inr (3, [.ref h3_str])), (h3_str, .inl (cI, 160, .inl str))] ++ []) → va_S A s.heap H locs → lv_has ls 7 [(3, .int o9_1)] → W p l e rmX5_bestTenths s m args below meth c H locs 0 0 Q (F0 m 66 ls [])) → W p l e rmX5_bestTenths s m args below meth c H locs 0 0 Q (F0 m 9 ls []) := by
    intro n
    induction n with
    | zero =>
      intro v3_9 v4_9 v5_9 cel_9 cls_9 o9_1 o9_2 o9_3 H locs ls h
      rw [fX5_bestTenths_L9] at h
      cases h
    | succ n ih =>
      intro v3_9 v4_9 v5_9 cel_9 cls_9 o9_1 o9_2 o9_3 H locs ls h hP hD hS hl K
      rw [fX5_bestTenths_L9] at h
      refine lv_iload hx hb dX5_bestTenths_9 (lv_at hl 4 rfl) ?_
      refine lv_iload_n hx hb dX5_bestTenths_11 rfl (lv_at hl 1 rfl) ?_
      refine lv_icmp_gt (tgt := 66) hx hb dX5_bestTenths_12 (by decide) (fun cq => ?_) (fun cq => ?_)
      · replace h := ifp cq h
        cases h
        exact K _ _ _ hP hD hS (lv_sub hl [2] rfl)
      · replace h := ifn cq h
        refine lv_aload_n hx hb dX5_bestTenths_15 rfl (lv_at hl 0 rfl) ?_
        refine va_get (D := D) (ci := 5) (v := .ref h0) (C := RX5) (T := TX5) (N := 5) hx hb hts iX5 hown hK hP 0 rfl rfl 3 (by decide) (hts (.fieldLink RX5 33 "HiddenPeriods" "counts" "LHiddenPeriods$Counts;") (by decide +kernel)) (fun _ h9 => h9) rfl dX5_bestTenths_16 ?_
        refine lv_aload_n hx hb dX5_bestTenths_19 rfl (lv_at hl 0 rfl) ?_
        refine va_get (D := D) (ci := 5) (v := .ref h2) (C := RX5) (T := TX5) (N := 5) hx hb hts iX5 hown hK hP 0 rfl rfl 0 (by decide) (hts (.fieldLink RX5 10 "HiddenPeriods" "state" "LHiddenPeriods$State;") (by decide +kernel)) (fun _ h9 => h9) rfl dX5_bestTenths_20 ?_
        refine lv_iload hx hb dX5_bestTenths_23 (lv_at hl 4 rfl) ?_
        refine lv_iconst (v := 0) hx hb dX5_bestTenths_25 (by decide) ?_
        obtain ⟨⟨x1_1, x1_2⟩, hx1, h⟩ := bnd h
        refine pw_gov (wc := [(h0, .inr (0, [.ref h0_cel, .int cls_9])), (h0_cel, .inl (cI, 160, .inl cel_9)), (h2, .inr (2, [.ref h2_row, .ref h2_ten, .ref h2_pha, .ref h2_set, .int len, .int kep])), (h2_row, .inl (cI, 240, .inl row)), (h2_ten, .inl (cI, 4, .inl ten)), (h2_pha, .inl (cI, 4, .inl pha)), (h2_set, .inl (cI, 3, .inl set))]) (w1 := [(h0, .inr (0, [.ref h0_cel, .int x1_2])), (h0_cel, .inl (cI, 160, .inl x1_1)), (h2, .inr (2, [.ref h2_row, .ref h2_ten, .ref h2_pha, .ref h2_set, .int len, .int kep])), (h2_row, .inl (cI, 240, .inl row)), (h2_ten, .inl (cI, 4, .inl ten)), (h2_pha, .inl (cI, 4, .inl pha)), (h2_set, .inl (cI, 3, .inl set))]) (w2 := [(h5, .inr (5, [.ref h2, .ref h1, .ref h4, .ref h0, .ref h3])), (h2, .inr (2, [.ref h2_row, .ref h2_ten, .ref h2_pha, .ref h2_set, .int len, .int kep])), (h2_row, .inl (cI, 240, .inl row)), (h2_ten, .inl (cI, 4, .inl ten)), (h2_pha, .inl (cI, 4, .inl pha)), (h2_set, .inl (cI, 3, .inl set)), (h1, .inr (1, [.ref h1a, .int nex, .int man])), (h4, .inr (4, [.ref h4_cod, .ref h4_unf, .int tln])), (h4_cod, .inl (cI, 60, .inl cod)), (h4_unf, .inl (cI, 540, .inl unf)), (h0, .inr (0, [.ref h0_cel, .int x1_2])), (h0_cel, .inl (cI, 160, .inl x1_1)), (h3, .inr (3, [.ref h3_str])), (h3_str, .inl (cI, 160, .inl str))]) (va_runV (As := [.ref h2, .int v5_9, .int 0]) (rest := []) ⟨hx, hb, hml, hown, hts⟩ (mX0_takeWindow l D cI cO cJ h0 h0_cel h2 h2_row h2_ten h2_pha h2_set H.size cel_9 cls_9 row ten pha set len kep v5_9 0 _ hx1) (cwV 3 hts gX5_bestTenths_X0_takeWindow rfl rfl rfl (by decide +kernel) ⟨Nat.le_of_ble_eq_true rfl, Nat.le_of_ble_eq_true rfl⟩) (pw_preV hK hN (pw_sub hP [10, 11, 1, 2, 3, 4, 5] rfl) (pw_subD hD [10, 11, 1, 2, 3, 4, 5] (by decide) rfl) (ci := 0) (q0 := 0) rfl rfl) rfl rfl hl.1 rfl (lv_room (Nat.le_of_ble_eq_true rfl)) dX5_bestTenths_26 ⟨Nat.zero_le _, Nat.zero_le _⟩) hP hD hS hA [10, 11, 1, 2, 3, 4, 5] [0, 6, 7, 8, 9, 12, 13] [0, 9, 10, 11, 12, 13, 1, 2, 3, 4, 7, 8, 5, 6] rfl rfl (by decide) (by decide) (by decide) rfl (fun H locs hP hD hS => ?_)
        refine lv_iconst (v := 4) hx hb dX5_bestTenths_29 (by decide) ?_
        refine lv_aload_n hx hb dX5_bestTenths_30 rfl (lv_at hl 0 rfl) ?_
        refine va_get (D := D) (ci := 5) (v := .ref h0) (C := RX5) (T := TX5) (N := 5) hx hb hts iX5 hown hK hP 0 rfl rfl 3 (by decide) (hts (.fieldLink RX5 33 "HiddenPeriods" "counts" "LHiddenPeriods$Counts;") (by decide +kernel)) (fun _ h9 => h9) rfl dX5_bestTenths_31 ?_
        obtain ⟨x2, hx2, h⟩ := bnd h
        refine pw_goi (wc := [(h0, .inr (0, [.ref h0_cel, .int x1_2])), (h0_cel, .inl (cI, 160, .inl x1_1))]) (w1 := [(h0, .inr (0, [.ref h0_cel, .int x1_2])), (h0_cel, .inl (cI, 160, .inl x1_1))]) (w2 := [(h5, .inr (5, [.ref h2, .ref h1, .ref h4, .ref h0, .ref h3])), (h2, .inr (2, [.ref h2_row, .ref h2_ten, .ref h2_pha, .ref h2_set, .int len, .int kep])), (h2_row, .inl (cI, 240, .inl row)), (h2_ten, .inl (cI, 4, .inl ten)), (h2_pha, .inl (cI, 4, .inl pha)), (h2_set, .inl (cI, 3, .inl set)), (h1, .inr (1, [.ref h1a, .int nex, .int man])), (h4, .inr (4, [.ref h4_cod, .ref h4_unf, .int tln])), (h4_cod, .inl (cI, 60, .inl cod)), (h4_unf, .inl (cI, 540, .inl unf)), (h0, .inr (0, [.ref h0_cel, .int x1_2])), (h0_cel, .inl (cI, 160, .inl x1_1)), (h3, .inr (3, [.ref h3_str])), (h3_str, .inl (cI, 160, .inl str))]) (va_runV (As := []) (rest := [.int 4]) ⟨hx, hb, hml, hown, hts⟩ (mX0_explained l D cI cO cJ h0 h0_cel H.size x1_1 x1_2 _ hx2) (cwV 0 hts gX5_bestTenths_X0_explained rfl rfl rfl (by decide +kernel) ⟨Nat.le_of_ble_eq_true rfl, Nat.le_of_ble_eq_true rfl⟩) (pw_preV hK hN (pw_sub hP [10, 11] rfl) (pw_subD hD [10, 11] (by decide) rfl) (ci := 0) (q0 := 0) rfl rfl) rfl rfl hl.1 rfl (lv_room (Nat.le_of_ble_eq_true rfl)) dX5_bestTenths_34 ⟨Nat.zero_le _, Nat.zero_le _⟩) hP hD hS hA [10, 11] [0, 1, 2, 3, 4, 5, 6, 7, 8, 9, 12, 13] [0, 1, 2, 3, 4, 5, 6, 7, 8, 9, 12, 13, 10, 11] rfl rfl (by decide) (by decide) (by decide) rfl (fun H locs hP hD hS => ?_)
        refine lv_imul hx hb dX5_bestTenths_37 ?_
        refine lv_iload hx hb dX5_bestTenths_38 (lv_at hl 4 rfl) ?_
        obtain ⟨x3, hx3, h⟩ := bnd h
        refine pw_go0 (va_runS (As := [.int v5_9]) (rest := [.int (4 * x2)]) ⟨hx, hb, hml, hown, hts⟩ (mX5_classesOf l D cI cO cJ H.size v5_9 _ hx3) (va_cwS 1 hts gX5_bestTenths_X5_classesOf rfl rfl rfl (by decide +kernel) ⟨Nat.le_of_ble_eq_true rfl, Nat.le_of_ble_eq_true rfl⟩) (pw_preS hK hN pw_nilP (pw_nilD (A := A))) rfl rfl hl.1 rfl (lv_room (Nat.le_of_ble_eq_true rfl)) dX5_bestTenths_40 ⟨Nat.zero_le _, Nat.zero_le _⟩) hP hS hA (fun H locs hP hS => ?_)
        refine lv_isub hx hb dX5_bestTenths_43 ?_
        refine lv_istore (lv' := [(6, .int ((4 * x2) - x3)), (0, .ref h5), (2, .int a2), (3, .int v3_9), (4, .int v4_9), (5, .int v5_9)]) hx hb dX5_bestTenths_44 hl (by decide) rfl (fun ls hl => ?_)
        refine lv_iload hx hb dX5_bestTenths_46 (lv_at hl 0 rfl) ?_
        refine lv_iload hx hb dX5_bestTenths_48 (lv_at hl 4 rfl) ?_
        refine lv_icmp_le (tgt := 60) hx hb dX5_bestTenths_50 (by decide) (fun cq => ?_) (fun cq => ?_)
        · replace h := ifp cq h
          refine lv_iinc (v := (v5_9 + 1)) (lv' := [(5, .int (v5_9 + 1)), (6, .int ((4 * x2) - x3)), (0, .ref h5), (2, .int a2), (3, .int v3_9), (4, .int v4_9)]) hx hb dX5_bestTenths_60 hl (k := 5) rfl rfl (by decide) rfl (fun ls hl => ?_)
          refine lv_goto (tgt := 9) hx hb dX5_bestTenths_63 (by decide) ?_
          exact ih _ _ _ _ _ _ _ _ _ _ _ h hP hD hS (lv_sub hl [2, 3, 4, 5, 0] rfl) K
        · replace h := ifn cq h
          refine lv_iload hx hb dX5_bestTenths_53 (lv_at hl 5 rfl) ?_
          refine lv_istore_n (lv' := [(3, .int v5_9), (6, .int ((4 * x2) - x3)), (0, .ref h5), (2, .int a2), (4, .int v4_9), (5, .int v5_9)]) hx hb dX5_bestTenths_55 rfl hl (by decide) rfl (fun ls hl => ?_)
          refine lv_iload hx hb dX5_bestTenths_56 (lv_at hl 1 rfl) ?_
          refine lv_istore (lv' := [(4, .int ((4 * x2) - x3)), (3, .int v5_9), (6, .int ((4 * x2) - x3)), (0, .ref h5), (2, .int a2), (5, .int v5_9)]) hx hb dX5_bestTenths_58 hl (by decide) rfl (fun ls hl => ?_)
          refine lv_iinc (v := (v5_9 + 1)) (lv' := [(5, .int (v5_9 + 1)), (4, .int ((4 * x2) - x3)), (3, .int v5_9), (6, .int ((4 * x2) - x3)), (0, .ref h5), (2, .int a2)]) hx hb dX5_bestTenths_60 hl (k := 5) rfl rfl (by decide) rfl (fun ls hl => ?_)
          refine lv_goto (tgt := 9) hx hb dX5_bestTenths_63 (by decide) ?_
          exact ih _ _ _ _ _ _ _ _ _ _ _ h hP hD hS (lv_sub hl [4, 5, 2, 1, 0] rfl) K
  obtain ⟨⟨x4_1, x4_2, x4_3⟩, hx4, h⟩ := bnd h
  refine L9 FU _ _ _ _ _ _ _ _ _ _ _ hx4 hP hD hS (lv_sub hl [3, 5, 2, 1, 0] rfl) (fun H locs ls hP hD hS hl => ?_)
  refine lv_iload_n hx hb dX5_bestTenths_66 rfl (lv_at hl 0 rfl) ?_
  cases h
  exact pw_iret hx hb hr hlocks hAe hQ hP hD hS dX5_bestTenths_67
def fX5_isValueOf (a1 : Int32) (a2 : Int32) : Option Int32 :=
  if a1 = 0 then
  (fX5_isWithin a2 0 239).bind fun x5 =>
  if ¬ (x5 = 0 ∨ x5 = 1) then none else
  some x5
  else
  if a1 = 1 then
  (fX5_isWithin a2 0 240).bind fun x3 =>
  if ¬ (x3 = 0 ∨ x3 = 1) then none else
  some x3
  else
  (fX5_isWithin a2 1 100).bind fun x1 =>
  if ¬ (x1 = 0 ∨ x1 = 1) then none else
  some x1
abbrev rmX5_isValueOf : Room := { frames := 1, cells := 0, slots := 0, locals := 22 }
set_option maxHeartbeats 4000000 in
set_option maxRecDepth 100000 in
theorem mX5_isValueOf (l : Launch) (D : va_G) (cI cO cJ : ClassId) (sz : Nat) (a1 : Int32) (a2 : Int32) (z : Int32) (h : fX5_isValueOf a1 a2 = some z) : Met l yX5_isValueOf wsX5_isValueOf rmX5_isValueOf (pw_pre D (tyL cI cO cJ) [.int a1, .int a2] [] sz) (pw_i D [] [] z sz) 0 0 (va_A [] sz) := by
  refine pw_of (Qc := fun sz => pw_i D [] [] z sz) (cc := cX5_isValueOf) (maxL := 2) (ret := (some .boolean)) (by decide) rfl (Nat.le_of_ble_eq_true rfl) ?_
  intro p e s m args below meth c A Q H ls hx hb hml hr hts hown hlocks hAe hQ hK hN hA hP hD hS hl
  have hown : s.vm.findClass RX5 = some m.cls := hown
  have hl : lv_has ls 2 [(0, .int a1), (1, .int a2)] := hl
  unfold fX5_isValueOf at h
  refine lv_iload_n hx hb dX5_isValueOf_0 rfl (lv_at hl 0 rfl) ?_
  refine lv_if_ne (tgt := 13) hx hb dX5_isValueOf_1 (by decide) (fun cq => ?_) (fun cq => ?_)
  · replace h := ifn cq h
    refine lv_iload_n hx hb dX5_isValueOf_13 rfl (lv_at hl 0 rfl) ?_
    refine lv_iconst (v := 1) hx hb dX5_isValueOf_14 (by decide) ?_
    refine lv_icmp_ne (tgt := 27) hx hb dX5_isValueOf_15 (by decide) (fun cq => ?_) (fun cq => ?_)
    · replace h := ifn cq h
      refine lv_iload_n hx hb dX5_isValueOf_27 rfl (lv_at hl 1 rfl) ?_
      refine lv_iconst (v := 1) hx hb dX5_isValueOf_28 (by decide) ?_
      refine lv_bipush (v := 100) hx hb dX5_isValueOf_29 (by decide) ?_
      obtain ⟨x1, hx1, h⟩ := bnd h
      refine pw_go0 (va_runS (As := [.int a2, .int 1, .int 100]) (rest := []) ⟨hx, hb, hml, hown, hts⟩ (mX5_isWithin l D cI cO cJ H.size a2 1 100 _ hx1) (va_cwS 3 hts gX5_isValueOf_X5_isWithin rfl rfl rfl (by decide +kernel) ⟨Nat.le_of_ble_eq_true rfl, Nat.le_of_ble_eq_true rfl⟩) (pw_preS hK hN pw_nilP (pw_nilD (A := A))) rfl rfl hl.1 rfl (lv_room (Nat.le_of_ble_eq_true rfl)) dX5_isValueOf_31 ⟨Nat.zero_le _, Nat.zero_le _⟩) hP hS hA (fun H locs hP hS => ?_)
      obtain ⟨g2, h⟩ := gdn h
      cases h
      exact pw_zret hx hb hr hlocks hAe (Decidable.not_not.mp g2) hQ hP hD hS dX5_isValueOf_34
    · replace h := ifp cq h
      refine lv_iload_n hx hb dX5_isValueOf_18 rfl (lv_at hl 1 rfl) ?_
      refine lv_iconst (v := 0) hx hb dX5_isValueOf_19 (by decide) ?_
      refine lv_sipush (v := 240) hx hb dX5_isValueOf_20 (by decide) ?_
      obtain ⟨x3, hx3, h⟩ := bnd h
      refine pw_go0 (va_runS (As := [.int a2, .int 0, .int 240]) (rest := []) ⟨hx, hb, hml, hown, hts⟩ (mX5_isWithin l D cI cO cJ H.size a2 0 240 _ hx3) (va_cwS 3 hts gX5_isValueOf_X5_isWithin rfl rfl rfl (by decide +kernel) ⟨Nat.le_of_ble_eq_true rfl, Nat.le_of_ble_eq_true rfl⟩) (pw_preS hK hN pw_nilP (pw_nilD (A := A))) rfl rfl hl.1 rfl (lv_room (Nat.le_of_ble_eq_true rfl)) dX5_isValueOf_23 ⟨Nat.zero_le _, Nat.zero_le _⟩) hP hS hA (fun H locs hP hS => ?_)
      obtain ⟨g4, h⟩ := gdn h
      cases h
      exact pw_zret hx hb hr hlocks hAe (Decidable.not_not.mp g4) hQ hP hD hS dX5_isValueOf_26
  · replace h := ifp cq h
    refine lv_iload_n hx hb dX5_isValueOf_4 rfl (lv_at hl 1 rfl) ?_
    refine lv_iconst (v := 0) hx hb dX5_isValueOf_5 (by decide) ?_
    refine lv_sipush (v := 239) hx hb dX5_isValueOf_6 (by decide) ?_
    obtain ⟨x5, hx5, h⟩ := bnd h
    refine pw_go0 (va_runS (As := [.int a2, .int 0, .int 239]) (rest := []) ⟨hx, hb, hml, hown, hts⟩ (mX5_isWithin l D cI cO cJ H.size a2 0 239 _ hx5) (va_cwS 3 hts gX5_isValueOf_X5_isWithin rfl rfl rfl (by decide +kernel) ⟨Nat.le_of_ble_eq_true rfl, Nat.le_of_ble_eq_true rfl⟩) (pw_preS hK hN pw_nilP (pw_nilD (A := A))) rfl rfl hl.1 rfl (lv_room (Nat.le_of_ble_eq_true rfl)) dX5_isValueOf_9 ⟨Nat.zero_le _, Nat.zero_le _⟩) hP hS hA (fun H locs hP hS => ?_)
    obtain ⟨g6, h⟩ := gdn h
    cases h
    exact pw_zret hx hb hr hlocks hAe (Decidable.not_not.mp g6) hQ hP hD hS dX5_isValueOf_12
def fX5_clearBuffer (tln : Int32) : Option (Int32 × Int32) :=
  some (tln, 0)
abbrev rmX5_clearBuffer : Room := { frames := 0, cells := 0, slots := 0, locals := 0 }
set_option maxHeartbeats 4000000 in
set_option maxRecDepth 100000 in
theorem mX5_clearBuffer (l : Launch) (D : va_G) (cI cO cJ : ClassId) (h5 h2 h2_row h2_ten h2_pha h2_set h1 h1a h4 h4_cod h4_unf h0 h0_cel h3 h3_str : Nat) (sz : Nat) (row : Nat → Int32) (ten : Nat → Int32) (pha : Nat → Int32) (set : Nat → Int32) (len : Int32) (kep : Int32) (nex : Int32) (man : Int32) (cod : Nat → Int32) (unf : Nat → Int32) (tln : Int32) (cel : Nat → Int32) (cls : Int32) (str : Nat → Int32) (z : Int32 × Int32) (h : fX5_clearBuffer tln = some z) : Met l yX5_clearBuffer wsX5_clearBuffer rmX5_clearBuffer (pw_pre D (tyL cI cO cJ) [.ref h5] [(h5, .inr (5, [.ref h2, .ref h1, .ref h4, .ref h0, .ref h3])), (h2, .inr (2, [.ref h2_row, .ref h2_ten, .ref h2_pha, .ref h2_set, .int len, .int kep])), (h2_row, .inl (cI, 240, .inl row)), (h2_ten, .inl (cI, 4, .inl ten)), (h2_pha, .inl (cI, 4, .inl pha)), (h2_set, .inl (cI, 3, .inl set)), (h1, .inr (1, [.ref h1a, .int nex, .int man])), (h4, .inr (4, [.ref h4_cod, .ref h4_unf, .int tln])), (h4_cod, .inl (cI, 60, .inl cod)), (h4_unf, .inl (cI, 540, .inl unf)), (h0, .inr (0, [.ref h0_cel, .int cls])), (h0_cel, .inl (cI, 160, .inl cel)), (h3, .inr (3, [.ref h3_str])), (h3_str, .inl (cI, 160, .inl str))] sz) (pw_i D [(h5, .inr (5, [.ref h2, .ref h1, .ref h4, .ref h0, .ref h3])), (h2, .inr (2, [.ref h2_row, .ref h2_ten, .ref h2_pha, .ref h2_set, .int len, .int kep])), (h2_row, .inl (cI, 240, .inl row)), (h2_ten, .inl (cI, 4, .inl ten)), (h2_pha, .inl (cI, 4, .inl pha)), (h2_set, .inl (cI, 3, .inl set)), (h1, .inr (1, [.ref h1a, .int nex, .int man])), (h4, .inr (4, [.ref h4_cod, .ref h4_unf, .int tln])), (h4_cod, .inl (cI, 60, .inl cod)), (h4_unf, .inl (cI, 540, .inl unf)), (h0, .inr (0, [.ref h0_cel, .int cls])), (h0_cel, .inl (cI, 160, .inl cel)), (h3, .inr (3, [.ref h3_str])), (h3_str, .inl (cI, 160, .inl str))] [(h5, .inr (5, [.ref h2, .ref h1, .ref h4, .ref h0, .ref h3])), (h2, .inr (2, [.ref h2_row, .ref h2_ten, .ref h2_pha, .ref h2_set, .int len, .int kep])), (h2_row, .inl (cI, 240, .inl row)), (h2_ten, .inl (cI, 4, .inl ten)), (h2_pha, .inl (cI, 4, .inl pha)), (h2_set, .inl (cI, 3, .inl set)), (h1, .inr (1, [.ref h1a, .int nex, .int man])), (h4, .inr (4, [.ref h4_cod, .ref h4_unf, .int z.2])), (h4_cod, .inl (cI, 60, .inl cod)), (h4_unf, .inl (cI, 540, .inl unf)), (h0, .inr (0, [.ref h0_cel, .int cls])), (h0_cel, .inl (cI, 160, .inl cel)), (h3, .inr (3, [.ref h3_str])), (h3_str, .inl (cI, 160, .inl str))] z.1 sz) 0 0 (va_A [(h5, .inr (5, [.ref h2, .ref h1, .ref h4, .ref h0, .ref h3])), (h2, .inr (2, [.ref h2_row, .ref h2_ten, .ref h2_pha, .ref h2_set, .int len, .int kep])), (h2_row, .inl (cI, 240, .inl row)), (h2_ten, .inl (cI, 4, .inl ten)), (h2_pha, .inl (cI, 4, .inl pha)), (h2_set, .inl (cI, 3, .inl set)), (h1, .inr (1, [.ref h1a, .int nex, .int man])), (h4, .inr (4, [.ref h4_cod, .ref h4_unf, .int tln])), (h4_cod, .inl (cI, 60, .inl cod)), (h4_unf, .inl (cI, 540, .inl unf)), (h0, .inr (0, [.ref h0_cel, .int cls])), (h0_cel, .inl (cI, 160, .inl cel)), (h3, .inr (3, [.ref h3_str])), (h3_str, .inl (cI, 160, .inl str))] sz) := by
  refine pw_of (Qc := fun sz => pw_i D [(h5, .inr (5, [.ref h2, .ref h1, .ref h4, .ref h0, .ref h3])), (h2, .inr (2, [.ref h2_row, .ref h2_ten, .ref h2_pha, .ref h2_set, .int len, .int kep])), (h2_row, .inl (cI, 240, .inl row)), (h2_ten, .inl (cI, 4, .inl ten)), (h2_pha, .inl (cI, 4, .inl pha)), (h2_set, .inl (cI, 3, .inl set)), (h1, .inr (1, [.ref h1a, .int nex, .int man])), (h4, .inr (4, [.ref h4_cod, .ref h4_unf, .int tln])), (h4_cod, .inl (cI, 60, .inl cod)), (h4_unf, .inl (cI, 540, .inl unf)), (h0, .inr (0, [.ref h0_cel, .int cls])), (h0_cel, .inl (cI, 160, .inl cel)), (h3, .inr (3, [.ref h3_str])), (h3_str, .inl (cI, 160, .inl str))] [(h5, .inr (5, [.ref h2, .ref h1, .ref h4, .ref h0, .ref h3])), (h2, .inr (2, [.ref h2_row, .ref h2_ten, .ref h2_pha, .ref h2_set, .int len, .int kep])), (h2_row, .inl (cI, 240, .inl row)), (h2_ten, .inl (cI, 4, .inl ten)), (h2_pha, .inl (cI, 4, .inl pha)), (h2_set, .inl (cI, 3, .inl set)), (h1, .inr (1, [.ref h1a, .int nex, .int man])), (h4, .inr (4, [.ref h4_cod, .ref h4_unf, .int z.2])), (h4_cod, .inl (cI, 60, .inl cod)), (h4_unf, .inl (cI, 540, .inl unf)), (h0, .inr (0, [.ref h0_cel, .int cls])), (h0_cel, .inl (cI, 160, .inl cel)), (h3, .inr (3, [.ref h3_str])), (h3_str, .inl (cI, 160, .inl str))] z.1 sz) (cc := cX5_clearBuffer) (maxL := 2) (ret := (some .int)) (by decide) rfl (Nat.le_of_ble_eq_true rfl) ?_
  intro p e s m args below meth c A Q H ls hx hb hml hr hts hown hlocks hAe hQ hK hN hA hP hD hS hl
  have hown : s.vm.findClass RX5 = some m.cls := hown
  have hl : lv_has ls 2 [(0, .ref h5)] := hl
  have hP : va_P D vwCl ([(h5, .inr (5, [.ref h2, .ref h1, .ref h4, .ref h0, .ref h3])), (h2, .inr (2, [.ref h2_row, .ref h2_ten, .ref h2_pha, .ref h2_set, .int len, .int kep])), (h2_row, .inl (cI, 240, .inl row)), (h2_ten, .inl (cI, 4, .inl ten)), (h2_pha, .inl (cI, 4, .inl pha)), (h2_set, .inl (cI, 3, .inl set)), (h1, .inr (1, [.ref h1a, .int nex, .int man])), (h4, .inr (4, [.ref h4_cod, .ref h4_unf, .int tln])), (h4_cod, .inl (cI, 60, .inl cod)), (h4_unf, .inl (cI, 540, .inl unf)), (h0, .inr (0, [.ref h0_cel, .int cls])), (h0_cel, .inl (cI, 160, .inl cel)), (h3, .inr (3, [.ref h3_str])), (h3_str, .inl (cI, 160, .inl str))] ++ []) H := hP
  have hD : va_D A ([(h5, .inr (5, [.ref h2, .ref h1, .ref h4, .ref h0, .ref h3])), (h2, .inr (2, [.ref h2_row, .ref h2_ten, .ref h2_pha, .ref h2_set, .int len, .int kep])), (h2_row, .inl (cI, 240, .inl row)), (h2_ten, .inl (cI, 4, .inl ten)), (h2_pha, .inl (cI, 4, .inl pha)), (h2_set, .inl (cI, 3, .inl set)), (h1, .inr (1, [.ref h1a, .int nex, .int man])), (h4, .inr (4, [.ref h4_cod, .ref h4_unf, .int tln])), (h4_cod, .inl (cI, 60, .inl cod)), (h4_unf, .inl (cI, 540, .inl unf)), (h0, .inr (0, [.ref h0_cel, .int cls])), (h0_cel, .inl (cI, 160, .inl cel)), (h3, .inr (3, [.ref h3_str])), (h3_str, .inl (cI, 160, .inl str))] ++ []) := hD
  have iX4 : ∀ w ∈ u_ws RX4 TX4 3, w ∈ wsX5_clearBuffer := fun _ h => List.mem_cons_of_mem _ (List.mem_append_right _ h)
  have iX5 : ∀ w ∈ u_ws RX5 TX5 5, w ∈ wsX5_clearBuffer := fun _ h => List.mem_cons_of_mem _ (List.mem_append_left _ (List.mem_append_right _ h))
  unfold fX5_clearBuffer at h
  refine lv_aload_n hx hb dX5_clearBuffer_0 rfl (lv_at hl 0 rfl) ?_
  refine va_get (D := D) (ci := 5) (v := .ref h4) (C := RX5) (T := TX5) (N := 5) hx hb hts iX5 hown hK hP 0 rfl rfl 2 (by decide) (hts (.fieldLink RX5 26 "HiddenPeriods" "text" "LHiddenPeriods$Text;") (by decide +kernel)) (fun _ h9 => h9) rfl dX5_clearBuffer_1 ?_
  refine va_getN (D := D) (ci := 4) (v := .int tln) (C := RX4) (T := TX4) (N := 3) hx hb hts iX4 hown hK hP 7 rfl rfl 2 (by decide) (va_Nw.use rfl (hN (.fieldLinkNest RX5 176 "HiddenPeriods$Text" "length" "I" "HiddenPeriods") (by decide +kernel))) (fun _ h9 => h9) rfl dX5_clearBuffer_4 ?_
  refine lv_istore_n (lv' := [(1, .int tln), (0, .ref h5)]) hx hb dX5_clearBuffer_7 rfl hl (by decide) rfl (fun ls hl => ?_)
  refine lv_aload_n hx hb dX5_clearBuffer_8 rfl (lv_at hl 1 rfl) ?_
  refine va_get (D := D) (ci := 5) (v := .ref h4) (C := RX5) (T := TX5) (N := 5) hx hb hts iX5 hown hK hP 0 rfl rfl 2 (by decide) (hts (.fieldLink RX5 26 "HiddenPeriods" "text" "LHiddenPeriods$Text;") (by decide +kernel)) (fun _ h9 => h9) rfl dX5_clearBuffer_9 ?_
  refine lv_iconst (v := 0) hx hb dX5_clearBuffer_12 (by decide) ?_
  refine va_putN (D := D) (ci := 4) (v := .int 0) (ty := .int) (C := RX4) (T := TX4) (N := 3) hx hb hts iX4 tyX4 tyX4_ok nmX4 hown hK hP hD hS 7 rfl rfl 2 (by decide) (va_Nw.use rfl (hN (.fieldLinkNest RX5 176 "HiddenPeriods$Text" "length" "I" "HiddenPeriods") (by decide +kernel))) (fun _ h9 => h9) rfl (by decide +kernel) rfl rfl (Nat.le_of_ble_eq_true rfl) dX5_clearBuffer_13 (fun H locs hP hD hS => ?_)
  have hP : va_P D vwCl ([(h5, .inr (5, [.ref h2, .ref h1, .ref h4, .ref h0, .ref h3])), (h2, .inr (2, [.ref h2_row, .ref h2_ten, .ref h2_pha, .ref h2_set, .int len, .int kep])), (h2_row, .inl (cI, 240, .inl row)), (h2_ten, .inl (cI, 4, .inl ten)), (h2_pha, .inl (cI, 4, .inl pha)), (h2_set, .inl (cI, 3, .inl set)), (h1, .inr (1, [.ref h1a, .int nex, .int man])), (h4, .inr (4, [.ref h4_cod, .ref h4_unf, .int 0])), (h4_cod, .inl (cI, 60, .inl cod)), (h4_unf, .inl (cI, 540, .inl unf)), (h0, .inr (0, [.ref h0_cel, .int cls])), (h0_cel, .inl (cI, 160, .inl cel)), (h3, .inr (3, [.ref h3_str])), (h3_str, .inl (cI, 160, .inl str))] ++ []) H := hP
  have hD : va_D A ([(h5, .inr (5, [.ref h2, .ref h1, .ref h4, .ref h0, .ref h3])), (h2, .inr (2, [.ref h2_row, .ref h2_ten, .ref h2_pha, .ref h2_set, .int len, .int kep])), (h2_row, .inl (cI, 240, .inl row)), (h2_ten, .inl (cI, 4, .inl ten)), (h2_pha, .inl (cI, 4, .inl pha)), (h2_set, .inl (cI, 3, .inl set)), (h1, .inr (1, [.ref h1a, .int nex, .int man])), (h4, .inr (4, [.ref h4_cod, .ref h4_unf, .int 0])), (h4_cod, .inl (cI, 60, .inl cod)), (h4_unf, .inl (cI, 540, .inl unf)), (h0, .inr (0, [.ref h0_cel, .int cls])), (h0_cel, .inl (cI, 160, .inl cel)), (h3, .inr (3, [.ref h3_str])), (h3_str, .inl (cI, 160, .inl str))] ++ []) := hD
  refine lv_iload_n hx hb dX5_clearBuffer_16 rfl (lv_at hl 0 rfl) ?_
  cases h
  exact pw_iret hx hb hr hlocks hAe hQ hP hD hS dX5_clearBuffer_17

def fX5_withCounts_L41 (x1_1 : Nat → Int32) (v7_31 : Int32) : Nat → Int64 → Int32 → Option Int64
  | 0, _, _ => none
  | n + 1, v4_41, v8_41 =>
    if 4 < v8_41 then
    some v4_41
    else
    (fX0_lookedAt x1_1 v7_31 v8_41).bind fun x4 =>
    (fX5_with v4_41 x4.toInt64).bind fun x5 =>
    fX5_withCounts_L41 x1_1 v7_31 n x5 (v8_41 + 1)
def fX5_withCounts_L31 (x1_1 : Nat → Int32) (x3 : Int32) : Nat → Int64 → Int32 → Option Int64
  | 0, _, _ => none
  | n + 1, v4_31, v7_31 =>
    if x3 ≤ v7_31 then
    some v4_31
    else
    (fX5_withCounts_L41 x1_1 v7_31 FU v4_31 0).bind fun x6 =>
    fX5_withCounts_L31 x1_1 x3 n x6 (v7_31 + 1)
def fX5_withCounts (row : Nat → Int32) (ten : Nat → Int32) (pha : Nat → Int32) (set : Nat → Int32) (len : Int32) (cel : Nat → Int32) (a1 : Int64) (a2 : Int32) : Option (Int64 × (Nat → Int32) × Int32) :=
  (fX0_takeKept cel row ten pha set len a2).bind fun (x1_1, x1_2) =>
  (fX2_tenthsAt ten a2).bind fun x2 =>
  (fX5_classesOf x2).bind fun x3 =>
  (fX5_withCounts_L31 x1_1 x3 FU a1 0).bind fun x7 =>
  some (x7, x1_1, x1_2)
abbrev rmX5_withCounts : Room := { frames := 5, cells := 0, slots := 0, locals := 108 }
set_option maxHeartbeats 4000000 in
set_option maxRecDepth 100000 in
theorem mX5_withCounts (l : Launch) (D : va_G) (cI cO cJ : ClassId) (h5 h2 h2_row h2_ten h2_pha h2_set h1 h1a h4 h4_cod h4_unf h0 h0_cel h3 h3_str : Nat) (sz : Nat) (row : Nat → Int32) (ten : Nat → Int32) (pha : Nat → Int32) (set : Nat → Int32) (len : Int32) (kep : Int32) (nex : Int32) (man : Int32) (cod : Nat → Int32) (unf : Nat → Int32) (tln : Int32) (cel : Nat → Int32) (cls : Int32) (str : Nat → Int32) (a1 : Int64) (a2 : Int32) (z : Int64 × (Nat → Int32) × Int32) (h : fX5_withCounts row ten pha set len cel a1 a2 = some z) : Met l yX5_withCounts wsX5_withCounts rmX5_withCounts (pw_pre D (tyL cI cO cJ) [.ref h5, .long a1, .int a2] [(h5, .inr (5, [.ref h2, .ref h1, .ref h4, .ref h0, .ref h3])), (h2, .inr (2, [.ref h2_row, .ref h2_ten, .ref h2_pha, .ref h2_set, .int len, .int kep])), (h2_row, .inl (cI, 240, .inl row)), (h2_ten, .inl (cI, 4, .inl ten)), (h2_pha, .inl (cI, 4, .inl pha)), (h2_set, .inl (cI, 3, .inl set)), (h1, .inr (1, [.ref h1a, .int nex, .int man])), (h4, .inr (4, [.ref h4_cod, .ref h4_unf, .int tln])), (h4_cod, .inl (cI, 60, .inl cod)), (h4_unf, .inl (cI, 540, .inl unf)), (h0, .inr (0, [.ref h0_cel, .int cls])), (h0_cel, .inl (cI, 160, .inl cel)), (h3, .inr (3, [.ref h3_str])), (h3_str, .inl (cI, 160, .inl str))] sz) (pw_l D [(h5, .inr (5, [.ref h2, .ref h1, .ref h4, .ref h0, .ref h3])), (h2, .inr (2, [.ref h2_row, .ref h2_ten, .ref h2_pha, .ref h2_set, .int len, .int kep])), (h2_row, .inl (cI, 240, .inl row)), (h2_ten, .inl (cI, 4, .inl ten)), (h2_pha, .inl (cI, 4, .inl pha)), (h2_set, .inl (cI, 3, .inl set)), (h1, .inr (1, [.ref h1a, .int nex, .int man])), (h4, .inr (4, [.ref h4_cod, .ref h4_unf, .int tln])), (h4_cod, .inl (cI, 60, .inl cod)), (h4_unf, .inl (cI, 540, .inl unf)), (h0, .inr (0, [.ref h0_cel, .int cls])), (h0_cel, .inl (cI, 160, .inl cel)), (h3, .inr (3, [.ref h3_str])), (h3_str, .inl (cI, 160, .inl str))] [(h5, .inr (5, [.ref h2, .ref h1, .ref h4, .ref h0, .ref h3])), (h2, .inr (2, [.ref h2_row, .ref h2_ten, .ref h2_pha, .ref h2_set, .int len, .int kep])), (h2_row, .inl (cI, 240, .inl row)), (h2_ten, .inl (cI, 4, .inl ten)), (h2_pha, .inl (cI, 4, .inl pha)), (h2_set, .inl (cI, 3, .inl set)), (h1, .inr (1, [.ref h1a, .int nex, .int man])), (h4, .inr (4, [.ref h4_cod, .ref h4_unf, .int tln])), (h4_cod, .inl (cI, 60, .inl cod)), (h4_unf, .inl (cI, 540, .inl unf)), (h0, .inr (0, [.ref h0_cel, .int z.2.2])), (h0_cel, .inl (cI, 160, .inl z.2.1)), (h3, .inr (3, [.ref h3_str])), (h3_str, .inl (cI, 160, .inl str))] z.1 sz) 0 0 (va_A [(h5, .inr (5, [.ref h2, .ref h1, .ref h4, .ref h0, .ref h3])), (h2, .inr (2, [.ref h2_row, .ref h2_ten, .ref h2_pha, .ref h2_set, .int len, .int kep])), (h2_row, .inl (cI, 240, .inl row)), (h2_ten, .inl (cI, 4, .inl ten)), (h2_pha, .inl (cI, 4, .inl pha)), (h2_set, .inl (cI, 3, .inl set)), (h1, .inr (1, [.ref h1a, .int nex, .int man])), (h4, .inr (4, [.ref h4_cod, .ref h4_unf, .int tln])), (h4_cod, .inl (cI, 60, .inl cod)), (h4_unf, .inl (cI, 540, .inl unf)), (h0, .inr (0, [.ref h0_cel, .int cls])), (h0_cel, .inl (cI, 160, .inl cel)), (h3, .inr (3, [.ref h3_str])), (h3_str, .inl (cI, 160, .inl str))] sz) := by
  refine pw_of (Qc := fun sz => pw_l D [(h5, .inr (5, [.ref h2, .ref h1, .ref h4, .ref h0, .ref h3])), (h2, .inr (2, [.ref h2_row, .ref h2_ten, .ref h2_pha, .ref h2_set, .int len, .int kep])), (h2_row, .inl (cI, 240, .inl row)), (h2_ten, .inl (cI, 4, .inl ten)), (h2_pha, .inl (cI, 4, .inl pha)), (h2_set, .inl (cI, 3, .inl set)), (h1, .inr (1, [.ref h1a, .int nex, .int man])), (h4, .inr (4, [.ref h4_cod, .ref h4_unf, .int tln])), (h4_cod, .inl (cI, 60, .inl cod)), (h4_unf, .inl (cI, 540, .inl unf)), (h0, .inr (0, [.ref h0_cel, .int cls])), (h0_cel, .inl (cI, 160, .inl cel)), (h3, .inr (3, [.ref h3_str])), (h3_str, .inl (cI, 160, .inl str))] [(h5, .inr (5, [.ref h2, .ref h1, .ref h4, .ref h0, .ref h3])), (h2, .inr (2, [.ref h2_row, .ref h2_ten, .ref h2_pha, .ref h2_set, .int len, .int kep])), (h2_row, .inl (cI, 240, .inl row)), (h2_ten, .inl (cI, 4, .inl ten)), (h2_pha, .inl (cI, 4, .inl pha)), (h2_set, .inl (cI, 3, .inl set)), (h1, .inr (1, [.ref h1a, .int nex, .int man])), (h4, .inr (4, [.ref h4_cod, .ref h4_unf, .int tln])), (h4_cod, .inl (cI, 60, .inl cod)), (h4_unf, .inl (cI, 540, .inl unf)), (h0, .inr (0, [.ref h0_cel, .int z.2.2])), (h0_cel, .inl (cI, 160, .inl z.2.1)), (h3, .inr (3, [.ref h3_str])), (h3_str, .inl (cI, 160, .inl str))] z.1 sz) (cc := cX5_withCounts) (maxL := 9) (ret := (some .long)) (by decide) rfl (Nat.le_of_ble_eq_true rfl) ?_
  intro p e s m args below meth c A Q H ls hx hb hml hr hts hown hlocks hAe hQ hK hN hA hP hD hS hl
  have hown : s.vm.findClass RX5 = some m.cls := hown
  have hl : lv_has ls 9 [(0, .ref h5), (1, .long a1), (3, .int a2)] := hl
  have hP : va_P D vwCl ([(h5, .inr (5, [.ref h2, .ref h1, .ref h4, .ref h0, .ref h3])), (h2, .inr (2, [.ref h2_row, .ref h2_ten, .ref h2_pha, .ref h2_set, .int len, .int kep])), (h2_row, .inl (cI, 240, .inl row)), (h2_ten, .inl (cI, 4, .inl ten)), (h2_pha, .inl (cI, 4, .inl pha)), (h2_set, .inl (cI, 3, .inl set)), (h1, .inr (1, [.ref h1a, .int nex, .int man])), (h4, .inr (4, [.ref h4_cod, .ref h4_unf, .int tln])), (h4_cod, .inl (cI, 60, .inl cod)), (h4_unf, .inl (cI, 540, .inl unf)), (h0, .inr (0, [.ref h0_cel, .int cls])), (h0_cel, .inl (cI, 160, .inl cel)), (h3, .inr (3, [.ref h3_str])), (h3_str, .inl (cI, 160, .inl str))] ++ []) H := hP
  have hD : va_D A ([(h5, .inr (5, [.ref h2, .ref h1, .ref h4, .ref h0, .ref h3])), (h2, .inr (2, [.ref h2_row, .ref h2_ten, .ref h2_pha, .ref h2_set, .int len, .int kep])), (h2_row, .inl (cI, 240, .inl row)), (h2_ten, .inl (cI, 4, .inl ten)), (h2_pha, .inl (cI, 4, .inl pha)), (h2_set, .inl (cI, 3, .inl set)), (h1, .inr (1, [.ref h1a, .int nex, .int man])), (h4, .inr (4, [.ref h4_cod, .ref h4_unf, .int tln])), (h4_cod, .inl (cI, 60, .inl cod)), (h4_unf, .inl (cI, 540, .inl unf)), (h0, .inr (0, [.ref h0_cel, .int cls])), (h0_cel, .inl (cI, 160, .inl cel)), (h3, .inr (3, [.ref h3_str])), (h3_str, .inl (cI, 160, .inl str))] ++ []) := hD
  have iX5 : ∀ w ∈ u_ws RX5 TX5 5, w ∈ wsX5_withCounts := fun _ h => List.mem_cons_of_mem _ (List.mem_append_left _ (List.mem_append_left _ (List.mem_append_right _ h)))
  unfold fX5_withCounts at h
  refine lv_lload_n hx hb dX5_withCounts_0 rfl (lv_at hl 1 rfl) ?_
  refine lv_lstore (lv' := [(4, .long a1), (0, .ref h5), (1, .long a1), (3, .int a2)]) hx hb dX5_withCounts_1 hl (by decide) rfl (fun ls hl => ?_)
  refine lv_aload_n hx hb dX5_withCounts_3 rfl (lv_at hl 1 rfl) ?_
  refine va_get (D := D) (ci := 5) (v := .ref h0) (C := RX5) (T := TX5) (N := 5) hx hb hts iX5 hown hK hP 0 rfl rfl 3 (by decide) (hts (.fieldLink RX5 33 "HiddenPeriods" "counts" "LHiddenPeriods$Counts;") (by decide +kernel)) (fun _ h9 => h9) rfl dX5_withCounts_4 ?_
  refine lv_aload_n hx hb dX5_withCounts_7 rfl (lv_at hl 1 rfl) ?_
  refine va_get (D := D) (ci := 5) (v := .ref h2) (C := RX5) (T := TX5) (N := 5) hx hb hts iX5 hown hK hP 0 rfl rfl 0 (by decide) (hts (.fieldLink RX5 10 "HiddenPeriods" "state" "LHiddenPeriods$State;") (by decide +kernel)) (fun _ h9 => h9) rfl dX5_withCounts_8 ?_
  refine lv_iload_n hx hb dX5_withCounts_11 rfl (lv_at hl 3 rfl) ?_
  obtain ⟨⟨x1_1, x1_2⟩, hx1, h⟩ := bnd h
  refine pw_gov (wc := [(h0, .inr (0, [.ref h0_cel, .int cls])), (h0_cel, .inl (cI, 160, .inl cel)), (h2, .inr (2, [.ref h2_row, .ref h2_ten, .ref h2_pha, .ref h2_set, .int len, .int kep])), (h2_row, .inl (cI, 240, .inl row)), (h2_ten, .inl (cI, 4, .inl ten)), (h2_pha, .inl (cI, 4, .inl pha)), (h2_set, .inl (cI, 3, .inl set))]) (w1 := [(h0, .inr (0, [.ref h0_cel, .int x1_2])), (h0_cel, .inl (cI, 160, .inl x1_1)), (h2, .inr (2, [.ref h2_row, .ref h2_ten, .ref h2_pha, .ref h2_set, .int len, .int kep])), (h2_row, .inl (cI, 240, .inl row)), (h2_ten, .inl (cI, 4, .inl ten)), (h2_pha, .inl (cI, 4, .inl pha)), (h2_set, .inl (cI, 3, .inl set))]) (w2 := [(h5, .inr (5, [.ref h2, .ref h1, .ref h4, .ref h0, .ref h3])), (h2, .inr (2, [.ref h2_row, .ref h2_ten, .ref h2_pha, .ref h2_set, .int len, .int kep])), (h2_row, .inl (cI, 240, .inl row)), (h2_ten, .inl (cI, 4, .inl ten)), (h2_pha, .inl (cI, 4, .inl pha)), (h2_set, .inl (cI, 3, .inl set)), (h1, .inr (1, [.ref h1a, .int nex, .int man])), (h4, .inr (4, [.ref h4_cod, .ref h4_unf, .int tln])), (h4_cod, .inl (cI, 60, .inl cod)), (h4_unf, .inl (cI, 540, .inl unf)), (h0, .inr (0, [.ref h0_cel, .int x1_2])), (h0_cel, .inl (cI, 160, .inl x1_1)), (h3, .inr (3, [.ref h3_str])), (h3_str, .inl (cI, 160, .inl str))]) (va_runV (As := [.ref h2, .int a2]) (rest := []) ⟨hx, hb, hml, hown, hts⟩ (mX0_takeKept l D cI cO cJ h0 h0_cel h2 h2_row h2_ten h2_pha h2_set H.size cel cls row ten pha set len kep a2 _ hx1) (cwV 2 hts gX5_withCounts_X0_takeKept rfl rfl rfl (by decide +kernel) ⟨Nat.le_of_ble_eq_true rfl, Nat.le_of_ble_eq_true rfl⟩) (pw_preV hK hN (pw_sub hP [10, 11, 1, 2, 3, 4, 5] rfl) (pw_subD hD [10, 11, 1, 2, 3, 4, 5] (by decide) rfl) (ci := 0) (q0 := 0) rfl rfl) rfl rfl hl.1 rfl (lv_room (Nat.le_of_ble_eq_true rfl)) dX5_withCounts_12 ⟨Nat.zero_le _, Nat.zero_le _⟩) hP hD hS hA [10, 11, 1, 2, 3, 4, 5] [0, 6, 7, 8, 9, 12, 13] [0, 9, 10, 11, 12, 13, 1, 2, 3, 4, 7, 8, 5, 6] rfl rfl (by decide) (by decide) (by decide) rfl (fun H locs hP hD hS => ?_)
  refine lv_aload_n hx hb dX5_withCounts_15 rfl (lv_at hl 1 rfl) ?_
  refine va_get (D := D) (ci := 5) (v := .ref h2) (C := RX5) (T := TX5) (N := 5) hx hb hts iX5 hown hK hP 0 rfl rfl 0 (by decide) (hts (.fieldLink RX5 10 "HiddenPeriods" "state" "LHiddenPeriods$State;") (by decide +kernel)) (fun _ h9 => h9) rfl dX5_withCounts_16 ?_
  refine lv_iload_n hx hb dX5_withCounts_19 rfl (lv_at hl 3 rfl) ?_
  obtain ⟨x2, hx2, h⟩ := bnd h
  refine pw_goi (wc := [(h2, .inr (2, [.ref h2_row, .ref h2_ten, .ref h2_pha, .ref h2_set, .int len, .int kep])), (h2_row, .inl (cI, 240, .inl row)), (h2_ten, .inl (cI, 4, .inl ten)), (h2_pha, .inl (cI, 4, .inl pha)), (h2_set, .inl (cI, 3, .inl set))]) (w1 := [(h2, .inr (2, [.ref h2_row, .ref h2_ten, .ref h2_pha, .ref h2_set, .int len, .int kep])), (h2_row, .inl (cI, 240, .inl row)), (h2_ten, .inl (cI, 4, .inl ten)), (h2_pha, .inl (cI, 4, .inl pha)), (h2_set, .inl (cI, 3, .inl set))]) (w2 := [(h5, .inr (5, [.ref h2, .ref h1, .ref h4, .ref h0, .ref h3])), (h2, .inr (2, [.ref h2_row, .ref h2_ten, .ref h2_pha, .ref h2_set, .int len, .int kep])), (h2_row, .inl (cI, 240, .inl row)), (h2_ten, .inl (cI, 4, .inl ten)), (h2_pha, .inl (cI, 4, .inl pha)), (h2_set, .inl (cI, 3, .inl set)), (h1, .inr (1, [.ref h1a, .int nex, .int man])), (h4, .inr (4, [.ref h4_cod, .ref h4_unf, .int tln])), (h4_cod, .inl (cI, 60, .inl cod)), (h4_unf, .inl (cI, 540, .inl unf)), (h0, .inr (0, [.ref h0_cel, .int x1_2])), (h0_cel, .inl (cI, 160, .inl x1_1)), (h3, .inr (3, [.ref h3_str])), (h3_str, .inl (cI, 160, .inl str))]) (va_runV (As := [.int a2]) (rest := []) ⟨hx, hb, hml, hown, hts⟩ (mX2_tenthsAt l D cI cO cJ h2 h2_row h2_ten h2_pha h2_set H.size row ten pha set len kep a2 _ hx2) (cwV 1 hts gX5_withCounts_X2_tenthsAt rfl rfl rfl (by decide +kernel) ⟨Nat.le_of_ble_eq_true rfl, Nat.le_of_ble_eq_true rfl⟩) (pw_preV hK hN (pw_sub hP [1, 2, 3, 4, 5] rfl) (pw_subD hD [1, 2, 3, 4, 5] (by decide) rfl) (ci := 2) (q0 := 0) rfl rfl) rfl rfl hl.1 rfl (lv_room (Nat.le_of_ble_eq_true rfl)) dX5_withCounts_20 ⟨Nat.zero_le _, Nat.zero_le _⟩) hP hD hS hA [1, 2, 3, 4, 5] [0, 6, 7, 8, 9, 10, 11, 12, 13] [0, 9, 10, 11, 12, 13, 1, 2, 3, 4, 5, 6, 7, 8] rfl rfl (by decide) (by decide) (by decide) rfl (fun H locs hP hD hS => ?_)
  obtain ⟨x3, hx3, h⟩ := bnd h
  refine pw_go0 (va_runS (As := [.int x2]) (rest := []) ⟨hx, hb, hml, hown, hts⟩ (mX5_classesOf l D cI cO cJ H.size x2 _ hx3) (va_cwS 1 hts gX5_withCounts_X5_classesOf rfl rfl rfl (by decide +kernel) ⟨Nat.le_of_ble_eq_true rfl, Nat.le_of_ble_eq_true rfl⟩) (pw_preS hK hN pw_nilP (pw_nilD (A := A))) rfl rfl hl.1 rfl (lv_room (Nat.le_of_ble_eq_true rfl)) dX5_withCounts_23 ⟨Nat.zero_le _, Nat.zero_le _⟩) hP hS hA (fun H locs hP hS => ?_)
  refine lv_istore (lv' := [(6, .int x3), (4, .long a1), (0, .ref h5), (1, .long a1), (3, .int a2)]) hx hb dX5_withCounts_26 hl (by decide) rfl (fun ls hl => ?_)
  refine lv_iconst (v := 0) hx hb dX5_withCounts_28 (by decide) ?_
  refine lv_istore (lv' := [(7, .int 0), (6, .int x3), (4, .long a1), (0, .ref h5), (1, .long a1), (3, .int a2)]) hx hb dX5_withCounts_29 hl (by decide) rfl (fun ls hl => ?_)
  have L31 : ∀ (n : Nat) (v4_31 : Int64) (v7_31 : Int32) (o31_1 : Int64) (H : Heap) (locs : List Loc) (ls : Array Slot), fX5_withCounts_L31 x1_1 x3 n v4_31 v7_31 = some o31_1 → va_P D vwCl ([(h5, .inr (5, [.ref h2, .ref h1, .ref h4, .ref h0, .ref h3])), (h2, .inr (2, [.ref h2_row, .ref h2_ten, .ref h2_pha, .ref h2_set, .int len, .int kep])), (h2_row, .inl (cI, 240, .inl row)), (h2_ten, .inl (cI, 4, .inl ten)), (h2_pha, .inl (cI, 4, .inl pha)), (h2_set, .inl (cI, 3, .inl set)), (h1, .inr (1, [.ref h1a, .int nex, .int man])), (h4, .inr (4, [.ref h4_cod, .ref h4_unf, .int tln])), (h4_cod, .inl (cI, 60, .inl cod)), (h4_unf, .inl (cI, 540, .inl unf)), (h0, .inr (0, [.ref h0_cel, .int x1_2])), (h0_cel, .inl (cI, 160, .inl x1_1)), (h3, .inr (3, [.ref h3_str])), (h3_str, .inl (cI, 160, .inl str))] ++ []) H → va_D A ([(h5, .inr (5, [.ref h2, .ref h1, .ref h4, .ref h0, .ref h3])), (h2, .inr (2, [.ref h2_row, .ref h2_ten, .ref h2_pha, .ref h2_set, .int len, .int kep])), (h2_row, .inl (cI, 240, .inl row)), (h2_ten, .inl (cI, 4, .inl ten)), (h2_pha, .inl (cI, 4, .inl pha)), (h2_set, .inl (cI, 3, .inl set)), (h1, .inr (1, [.ref h1a, .int nex, .int man])), (h4, .inr (4, [.ref h4_cod, .ref h4_unf, .int tln])), (h4_cod, .inl (cI, 60, .inl cod)), (h4_unf, .inl (cI, 540, .inl unf)), (h0, .inr (0, [.ref h0_cel, .int x1_2])), (h0_cel, .inl (cI, 160, .inl x1_1)), (h3, .inr (3, [.ref h3_str])), (h3_str, .inl (cI, 160, .inl str))] ++ []) → va_S A s.heap H locs → lv_has ls 9 [(0, .ref h5), (4, .long v4_31), (6, .int x3), (7, .int v7_31)] → (∀ (H : Heap) (locs : List Loc) (ls : Array Slot), va_P D vwCl ([(h5, .inr (5, [.ref h2, .ref h1, .ref h4, .ref h0, .ref h3])), (h2, .inr (2, [.ref h2_row, .ref h2_ten, .ref h2_pha, .ref h2_set, .int len, .int kep])), (h2_row, .inl (cI, 240, .inl row)), (h2_ten, .inl (cI, 4, .inl ten)), (h2_pha, .inl (cI, 4, .inl pha)), (h2_set, .inl (cI, 3, .inl set)), (h1, .inr (1, [.ref h1a, .int nex, .int man])), (h4, .inr (4, [.ref h4_cod, .ref h4_unf, .int tln])), (h4_cod, .inl (cI, 60, .inl cod)), (h4_unf, .inl (cI, 540, .inl unf)), (h0, .inr (0, [.ref h0_cel, .int x1_2])), (h0_cel, .inl (cI, 160, .inl x1_1)), (h3, .inr (3, [.ref h3_str])), (h3_str, .inl (cI, 160, .inl str))] ++ []) H → va_D A ([(h5, .inr (5, [.ref h2, .ref h1, .ref h4, .ref h0, .ref h3])), (h2, .inr (2, [.ref h2_row, .ref h2_ten, .ref h2_pha, .ref h2_set, .int len, .int kep])), (h2_row, .inl (cI, 240, .inl row)), (h2_ten, .inl (cI, 4, .inl ten)), (h2_pha, .inl (cI, 4, .inl pha)), (h2_set, .inl (cI, 3, .inl set)), (h1, .inr (1, [.ref h1a, .int nex, .int man])), (h4, .inr (4, [.ref h4_cod, .ref h4_unf, .int tln])), (h4_cod, .inl (cI, 60, .inl cod)), (h4_unf, .inl (cI, 540, .inl unf)), (h0, .inr (0, [.ref h0_cel, .int x1_2])), (h0_cel, .inl (cI, 160, .inl x1_1)), (h3, .inr (3, [.ref h3_str])), (h3_str, .inl (cI, 160, .inl str))] ++ []) → va_S A s.heap H locs → lv_has ls 9 [(4, .long o31_1)] → W p l e rmX5_withCounts s m args below meth c H locs 0 0 Q (F0 m 78 ls [])) → W p l e rmX5_withCounts s m args below meth c H locs 0 0 Q (F0 m 31 ls []) := by
    intro n
    induction n with
    | zero =>
      intro v4_31 v7_31 o31_1 H locs ls h
      rw [fX5_withCounts_L31] at h
      cases h
    | succ n ih =>
      intro v4_31 v7_31 o31_1 H locs ls h hP hD hS hl K
      rw [fX5_withCounts_L31] at h
      refine lv_iload hx hb dX5_withCounts_31 (lv_at hl 3 rfl) ?_
      refine lv_iload hx hb dX5_withCounts_33 (lv_at hl 2 rfl) ?_
      refine lv_icmp_ge (tgt := 78) hx hb dX5_withCounts_35 (by decide) (fun cq => ?_) (fun cq => ?_)
      · replace h := ifp cq h
        cases h
        exact K _ _ _ hP hD hS (lv_sub hl [1] rfl)
      · replace h := ifn cq h
        refine lv_iconst (v := 0) hx hb dX5_withCounts_38 (by decide) ?_
        refine lv_istore (lv' := [(8, .int 0), (0, .ref h5), (4, .long v4_31), (6, .int x3), (7, .int v7_31)]) hx hb dX5_withCounts_39 hl (by decide) rfl (fun ls hl => ?_)
        have L41 : ∀ (n : Nat) (v4_41 : Int64) (v8_41 : Int32) (o41_1 : Int64) (H : Heap) (locs : List Loc) (ls : Array Slot), fX5_withCounts_L41 x1_1 v7_31 n v4_41 v8_41 = some o41_1 → va_P D vwCl ([(h5, .inr (5, [.ref h2, .ref h1, .ref h4, .ref h0, .ref h3])), (h2, .inr (2, [.ref h2_row, .ref h2_ten, .ref h2_pha, .ref h2_set, .int len, .int kep])), (h2_row, .inl (cI, 240, .inl row)), (h2_ten, .inl (cI, 4, .inl ten)), (h2_pha, .inl (cI, 4, .inl pha)), (h2_set, .inl (cI, 3, .inl set)), (h1, .inr (1, [.ref h1a, .int nex, .int man])), (h4, .inr (4, [.ref h4_cod, .ref h4_unf, .int tln])), (h4_cod, .inl (cI, 60, .inl cod)), (h4_unf, .inl (cI, 540, .inl unf)), (h0, .inr (0, [.ref h0_cel, .int x1_2])), (h0_cel, .inl (cI, 160, .inl x1_1)), (h3, .inr (3, [.ref h3_str])), (h3_str, .inl (cI, 160, .inl str))] ++ []) H → va_D A ([(h5, .inr (5, [.ref h2, .ref h1, .ref h4, .ref h0, .ref h3])), (h2, .inr (2, [.ref h2_row, .ref h2_ten, .ref h2_pha, .ref h2_set, .int len, .int kep])), (h2_row, .inl (cI, 240, .inl row)), (h2_ten, .inl (cI, 4, .inl ten)), (h2_pha, .inl (cI, 4, .inl pha)), (h2_set, .inl (cI, 3, .inl set)), (h1, .inr (1, [.ref h1a, .int nex, .int man])), (h4, .inr (4, [.ref h4_cod, .ref h4_unf, .int tln])), (h4_cod, .inl (cI, 60, .inl cod)), (h4_unf, .inl (cI, 540, .inl unf)), (h0, .inr (0, [.ref h0_cel, .int x1_2])), (h0_cel, .inl (cI, 160, .inl x1_1)), (h3, .inr (3, [.ref h3_str])), (h3_str, .inl (cI, 160, .inl str))] ++ []) → va_S A s.heap H locs → lv_has ls 9 [(0, .ref h5), (4, .long v4_41), (6, .int x3), (7, .int v7_31), (8, .int v8_41)] → (∀ (H : Heap) (locs : List Loc) (ls : Array Slot), va_P D vwCl ([(h5, .inr (5, [.ref h2, .ref h1, .ref h4, .ref h0, .ref h3])), (h2, .inr (2, [.ref h2_row, .ref h2_ten, .ref h2_pha, .ref h2_set, .int len, .int kep])), (h2_row, .inl (cI, 240, .inl row)), (h2_ten, .inl (cI, 4, .inl ten)), (h2_pha, .inl (cI, 4, .inl pha)), (h2_set, .inl (cI, 3, .inl set)), (h1, .inr (1, [.ref h1a, .int nex, .int man])), (h4, .inr (4, [.ref h4_cod, .ref h4_unf, .int tln])), (h4_cod, .inl (cI, 60, .inl cod)), (h4_unf, .inl (cI, 540, .inl unf)), (h0, .inr (0, [.ref h0_cel, .int x1_2])), (h0_cel, .inl (cI, 160, .inl x1_1)), (h3, .inr (3, [.ref h3_str])), (h3_str, .inl (cI, 160, .inl str))] ++ []) H → va_D A ([(h5, .inr (5, [.ref h2, .ref h1, .ref h4, .ref h0, .ref h3])), (h2, .inr (2, [.ref h2_row, .ref h2_ten, .ref h2_pha, .ref h2_set, .int len, .int kep])), (h2_row, .inl (cI, 240, .inl row)), (h2_ten, .inl (cI, 4, .inl ten)), (h2_pha, .inl (cI, 4, .inl pha)), (h2_set, .inl (cI, 3, .inl set)), (h1, .inr (1, [.ref h1a, .int nex, .int man])), (h4, .inr (4, [.ref h4_cod, .ref h4_unf, .int tln])), (h4_cod, .inl (cI, 60, .inl cod)), (h4_unf, .inl (cI, 540, .inl unf)), (h0, .inr (0, [.ref h0_cel, .int x1_2])), (h0_cel, .inl (cI, 160, .inl x1_1)), (h3, .inr (3, [.ref h3_str])), (h3_str, .inl (cI, 160, .inl str))] ++ []) → va_S A s.heap H locs → lv_has ls 9 [(0, .ref h5), (4, .long o41_1), (6, .int x3), (7, .int v7_31)] → W p l e rmX5_withCounts s m args below meth c H locs 0 0 Q (F0 m 72 ls [])) → W p l e rmX5_withCounts s m args below meth c H locs 0 0 Q (F0 m 41 ls []) := by
          intro n
          induction n with
          | zero =>
            intro v4_41 v8_41 o41_1 H locs ls h
            rw [fX5_withCounts_L41] at h
            cases h
          | succ n ih =>
            intro v4_41 v8_41 o41_1 H locs ls h hP hD hS hl K
            rw [fX5_withCounts_L41] at h
            refine lv_iload hx hb dX5_withCounts_41 (lv_at hl 4 rfl) ?_
            refine lv_iconst (v := 4) hx hb dX5_withCounts_43 (by decide) ?_
            refine lv_icmp_gt (tgt := 72) hx hb dX5_withCounts_44 (by decide) (fun cq => ?_) (fun cq => ?_)
            · replace h := ifp cq h
              cases h
              exact K _ _ _ hP hD hS (lv_sub hl [0, 1, 2, 3] rfl)
            · replace h := ifn cq h
              refine lv_lload hx hb dX5_withCounts_47 (lv_at hl 1 rfl) ?_
              refine lv_aload_n hx hb dX5_withCounts_49 rfl (lv_at hl 0 rfl) ?_
              refine va_get (D := D) (ci := 5) (v := .ref h0) (C := RX5) (T := TX5) (N := 5) hx hb hts iX5 hown hK hP 0 rfl rfl 3 (by decide) (hts (.fieldLink RX5 33 "HiddenPeriods" "counts" "LHiddenPeriods$Counts;") (by decide +kernel)) (fun _ h9 => h9) rfl dX5_withCounts_50 ?_
              refine lv_iload hx hb dX5_withCounts_53 (lv_at hl 3 rfl) ?_
              refine lv_iload hx hb dX5_withCounts_55 (lv_at hl 4 rfl) ?_
              obtain ⟨x4, hx4, h⟩ := bnd h
              refine pw_goi (wc := [(h0, .inr (0, [.ref h0_cel, .int x1_2])), (h0_cel, .inl (cI, 160, .inl x1_1))]) (w1 := [(h0, .inr (0, [.ref h0_cel, .int x1_2])), (h0_cel, .inl (cI, 160, .inl x1_1))]) (w2 := [(h5, .inr (5, [.ref h2, .ref h1, .ref h4, .ref h0, .ref h3])), (h2, .inr (2, [.ref h2_row, .ref h2_ten, .ref h2_pha, .ref h2_set, .int len, .int kep])), (h2_row, .inl (cI, 240, .inl row)), (h2_ten, .inl (cI, 4, .inl ten)), (h2_pha, .inl (cI, 4, .inl pha)), (h2_set, .inl (cI, 3, .inl set)), (h1, .inr (1, [.ref h1a, .int nex, .int man])), (h4, .inr (4, [.ref h4_cod, .ref h4_unf, .int tln])), (h4_cod, .inl (cI, 60, .inl cod)), (h4_unf, .inl (cI, 540, .inl unf)), (h0, .inr (0, [.ref h0_cel, .int x1_2])), (h0_cel, .inl (cI, 160, .inl x1_1)), (h3, .inr (3, [.ref h3_str])), (h3_str, .inl (cI, 160, .inl str))]) (va_runV (As := [.int v7_31, .int v8_41]) (rest := [.long v4_41]) ⟨hx, hb, hml, hown, hts⟩ (mX0_lookedAt l D cI cO cJ h0 h0_cel H.size x1_1 x1_2 v7_31 v8_41 _ hx4) (cwV 2 hts gX5_withCounts_X0_lookedAt rfl rfl rfl (by decide +kernel) ⟨Nat.le_of_ble_eq_true rfl, Nat.le_of_ble_eq_true rfl⟩) (pw_preV hK hN (pw_sub hP [10, 11] rfl) (pw_subD hD [10, 11] (by decide) rfl) (ci := 0) (q0 := 0) rfl rfl) rfl rfl hl.1 rfl (lv_room (Nat.le_of_ble_eq_true rfl)) dX5_withCounts_57 ⟨Nat.zero_le _, Nat.zero_le _⟩) hP hD hS hA [10, 11] [0, 1, 2, 3, 4, 5, 6, 7, 8, 9, 12, 13] [0, 1, 2, 3, 4, 5, 6, 7, 8, 9, 12, 13, 10, 11] rfl rfl (by decide) (by decide) (by decide) rfl (fun H locs hP hD hS => ?_)
              refine lv_i2l (v := x4.toInt64) hx hb dX5_withCounts_60 rfl ?_
              obtain ⟨x5, hx5, h⟩ := bnd h
              refine pw_go0l (va_runS (As := [.long v4_41, .long x4.toInt64]) (rest := []) ⟨hx, hb, hml, hown, hts⟩ (mX5_with l D cI cO cJ H.size v4_41 x4.toInt64 _ hx5) (va_cwS 2 hts gX5_withCounts_X5_with rfl rfl rfl (by decide +kernel) ⟨Nat.le_of_ble_eq_true rfl, Nat.le_of_ble_eq_true rfl⟩) (pw_preS hK hN pw_nilP (pw_nilD (A := A))) rfl rfl hl.1 rfl (lv_room (Nat.le_of_ble_eq_true rfl)) dX5_withCounts_61 ⟨Nat.zero_le _, Nat.zero_le _⟩) hP hS hA (fun H locs hP hS => ?_)
              refine lv_lstore (lv' := [(4, .long x5), (0, .ref h5), (6, .int x3), (7, .int v7_31), (8, .int v8_41)]) hx hb dX5_withCounts_64 hl (by decide) rfl (fun ls hl => ?_)
              refine lv_iinc (v := (v8_41 + 1)) (lv' := [(8, .int (v8_41 + 1)), (4, .long x5), (0, .ref h5), (6, .int x3), (7, .int v7_31)]) hx hb dX5_withCounts_66 hl (k := 4) rfl rfl (by decide) rfl (fun ls hl => ?_)
              refine lv_goto (tgt := 41) hx hb dX5_withCounts_69 (by decide) ?_
              exact ih _ _ _ _ _ _ h hP hD hS (lv_sub hl [2, 1, 3, 4, 0] rfl) K
        obtain ⟨x6, hx6, h⟩ := bnd h
        refine L41 FU _ _ _ _ _ _ hx6 hP hD hS (lv_sub hl [1, 2, 3, 4, 0] rfl) (fun H locs ls hP hD hS hl => ?_)
        refine lv_iinc (v := (v7_31 + 1)) (lv' := [(7, .int (v7_31 + 1)), (0, .ref h5), (4, .long x6), (6, .int x3)]) hx hb dX5_withCounts_72 hl (k := 3) rfl rfl (by decide) rfl (fun ls hl => ?_)
        refine lv_goto (tgt := 31) hx hb dX5_withCounts_75 (by decide) ?_
        exact ih _ _ _ _ _ _ h hP hD hS (lv_sub hl [1, 2, 3, 0] rfl) K
  obtain ⟨x7, hx7, h⟩ := bnd h
  refine L31 FU _ _ _ _ _ _ hx7 hP hD hS (lv_sub hl [3, 2, 1, 0] rfl) (fun H locs ls hP hD hS hl => ?_)
  refine lv_lload hx hb dX5_withCounts_78 (lv_at hl 0 rfl) ?_
  cases h
  exact pw_lret hx hb hr hlocks hAe hQ hP hD hS dX5_withCounts_80
def fX5_withPeriods_L20 (row : Nat → Int32) (ten : Nat → Int32) (pha : Nat → Int32) (set : Nat → Int32) (len : Int32) (kep : Int32) (str : Nat → Int32) (v5_5 : Int32) : Nat → Int64 → Int32 → (Nat → Int32) → Int32 → Option (Int64 × (Nat → Int32) × Int32)
  | 0, _, _, _, _ => none
  | n + 1, v3_20, v6_20, cel_20, cls_20 =>
    if 7 ≤ v6_20 then
    some (v3_20, cel_20, cls_20)
    else
    (fX5_periodNumber row ten pha set len kep cel_20 cls_20 str v5_5 v6_20).bind fun (x1_1, x1_2, x1_3) =>
    (fX5_with v3_20 x1_1.toInt64).bind fun x2 =>
    fX5_withPeriods_L20 row ten pha set len kep str v5_5 n x2 (v6_20 + 1) x1_2 x1_3
def fX5_withPeriods_L5 (row : Nat → Int32) (ten : Nat → Int32) (pha : Nat → Int32) (set : Nat → Int32) (len : Int32) (kep : Int32) (str : Nat → Int32) : Nat → Int64 → Int32 → (Nat → Int32) → Int32 → Option (Int64 × (Nat → Int32) × Int32)
  | 0, _, _, _, _ => none
  | n + 1, v3_5, v5_5, cel_5, cls_5 =>
    if kep ≤ v5_5 then
    some (v3_5, cel_5, cls_5)
    else
    (fX5_withPeriods_L20 row ten pha set len kep str v5_5 FU v3_5 0 cel_5 cls_5).bind fun (x3_1, x3_2, x3_3) =>
    (fX5_withCounts row ten pha set len x3_2 x3_1 v5_5).bind fun (x4_1, x4_2, x4_3) =>
    fX5_withPeriods_L5 row ten pha set len kep str n x4_1 (v5_5 + 1) x4_2 x4_3
def fX5_withPeriods (row : Nat → Int32) (ten : Nat → Int32) (pha : Nat → Int32) (set : Nat → Int32) (len : Int32) (kep : Int32) (cel : Nat → Int32) (cls : Int32) (str : Nat → Int32) (a1 : Int64) : Option (Int64 × (Nat → Int32) × Int32) :=
  (fX5_withPeriods_L5 row ten pha set len kep str FU a1 0 cel cls).bind fun (x5_1, x5_2, x5_3) =>
  some (x5_1, x5_2, x5_3)
abbrev rmX5_withPeriods : Room := { frames := 7, cells := 0, slots := 0, locals := 155 }
set_option maxHeartbeats 4000000 in
set_option maxRecDepth 100000 in
theorem mX5_withPeriods (l : Launch) (D : va_G) (cI cO cJ : ClassId) (h5 h2 h2_row h2_ten h2_pha h2_set h1 h1a h4 h4_cod h4_unf h0 h0_cel h3 h3_str : Nat) (sz : Nat) (row : Nat → Int32) (ten : Nat → Int32) (pha : Nat → Int32) (set : Nat → Int32) (len : Int32) (kep : Int32) (nex : Int32) (man : Int32) (cod : Nat → Int32) (unf : Nat → Int32) (tln : Int32) (cel : Nat → Int32) (cls : Int32) (str : Nat → Int32) (a1 : Int64) (z : Int64 × (Nat → Int32) × Int32) (h : fX5_withPeriods row ten pha set len kep cel cls str a1 = some z) : Met l yX5_withPeriods wsX5_withPeriods rmX5_withPeriods (pw_pre D (tyL cI cO cJ) [.ref h5, .long a1] [(h5, .inr (5, [.ref h2, .ref h1, .ref h4, .ref h0, .ref h3])), (h2, .inr (2, [.ref h2_row, .ref h2_ten, .ref h2_pha, .ref h2_set, .int len, .int kep])), (h2_row, .inl (cI, 240, .inl row)), (h2_ten, .inl (cI, 4, .inl ten)), (h2_pha, .inl (cI, 4, .inl pha)), (h2_set, .inl (cI, 3, .inl set)), (h1, .inr (1, [.ref h1a, .int nex, .int man])), (h4, .inr (4, [.ref h4_cod, .ref h4_unf, .int tln])), (h4_cod, .inl (cI, 60, .inl cod)), (h4_unf, .inl (cI, 540, .inl unf)), (h0, .inr (0, [.ref h0_cel, .int cls])), (h0_cel, .inl (cI, 160, .inl cel)), (h3, .inr (3, [.ref h3_str])), (h3_str, .inl (cI, 160, .inl str))] sz) (pw_l D [(h5, .inr (5, [.ref h2, .ref h1, .ref h4, .ref h0, .ref h3])), (h2, .inr (2, [.ref h2_row, .ref h2_ten, .ref h2_pha, .ref h2_set, .int len, .int kep])), (h2_row, .inl (cI, 240, .inl row)), (h2_ten, .inl (cI, 4, .inl ten)), (h2_pha, .inl (cI, 4, .inl pha)), (h2_set, .inl (cI, 3, .inl set)), (h1, .inr (1, [.ref h1a, .int nex, .int man])), (h4, .inr (4, [.ref h4_cod, .ref h4_unf, .int tln])), (h4_cod, .inl (cI, 60, .inl cod)), (h4_unf, .inl (cI, 540, .inl unf)), (h0, .inr (0, [.ref h0_cel, .int cls])), (h0_cel, .inl (cI, 160, .inl cel)), (h3, .inr (3, [.ref h3_str])), (h3_str, .inl (cI, 160, .inl str))] [(h5, .inr (5, [.ref h2, .ref h1, .ref h4, .ref h0, .ref h3])), (h2, .inr (2, [.ref h2_row, .ref h2_ten, .ref h2_pha, .ref h2_set, .int len, .int kep])), (h2_row, .inl (cI, 240, .inl row)), (h2_ten, .inl (cI, 4, .inl ten)), (h2_pha, .inl (cI, 4, .inl pha)), (h2_set, .inl (cI, 3, .inl set)), (h1, .inr (1, [.ref h1a, .int nex, .int man])), (h4, .inr (4, [.ref h4_cod, .ref h4_unf, .int tln])), (h4_cod, .inl (cI, 60, .inl cod)), (h4_unf, .inl (cI, 540, .inl unf)), (h0, .inr (0, [.ref h0_cel, .int z.2.2])), (h0_cel, .inl (cI, 160, .inl z.2.1)), (h3, .inr (3, [.ref h3_str])), (h3_str, .inl (cI, 160, .inl str))] z.1 sz) 0 0 (va_A [(h5, .inr (5, [.ref h2, .ref h1, .ref h4, .ref h0, .ref h3])), (h2, .inr (2, [.ref h2_row, .ref h2_ten, .ref h2_pha, .ref h2_set, .int len, .int kep])), (h2_row, .inl (cI, 240, .inl row)), (h2_ten, .inl (cI, 4, .inl ten)), (h2_pha, .inl (cI, 4, .inl pha)), (h2_set, .inl (cI, 3, .inl set)), (h1, .inr (1, [.ref h1a, .int nex, .int man])), (h4, .inr (4, [.ref h4_cod, .ref h4_unf, .int tln])), (h4_cod, .inl (cI, 60, .inl cod)), (h4_unf, .inl (cI, 540, .inl unf)), (h0, .inr (0, [.ref h0_cel, .int cls])), (h0_cel, .inl (cI, 160, .inl cel)), (h3, .inr (3, [.ref h3_str])), (h3_str, .inl (cI, 160, .inl str))] sz) := by
  refine pw_of (Qc := fun sz => pw_l D [(h5, .inr (5, [.ref h2, .ref h1, .ref h4, .ref h0, .ref h3])), (h2, .inr (2, [.ref h2_row, .ref h2_ten, .ref h2_pha, .ref h2_set, .int len, .int kep])), (h2_row, .inl (cI, 240, .inl row)), (h2_ten, .inl (cI, 4, .inl ten)), (h2_pha, .inl (cI, 4, .inl pha)), (h2_set, .inl (cI, 3, .inl set)), (h1, .inr (1, [.ref h1a, .int nex, .int man])), (h4, .inr (4, [.ref h4_cod, .ref h4_unf, .int tln])), (h4_cod, .inl (cI, 60, .inl cod)), (h4_unf, .inl (cI, 540, .inl unf)), (h0, .inr (0, [.ref h0_cel, .int cls])), (h0_cel, .inl (cI, 160, .inl cel)), (h3, .inr (3, [.ref h3_str])), (h3_str, .inl (cI, 160, .inl str))] [(h5, .inr (5, [.ref h2, .ref h1, .ref h4, .ref h0, .ref h3])), (h2, .inr (2, [.ref h2_row, .ref h2_ten, .ref h2_pha, .ref h2_set, .int len, .int kep])), (h2_row, .inl (cI, 240, .inl row)), (h2_ten, .inl (cI, 4, .inl ten)), (h2_pha, .inl (cI, 4, .inl pha)), (h2_set, .inl (cI, 3, .inl set)), (h1, .inr (1, [.ref h1a, .int nex, .int man])), (h4, .inr (4, [.ref h4_cod, .ref h4_unf, .int tln])), (h4_cod, .inl (cI, 60, .inl cod)), (h4_unf, .inl (cI, 540, .inl unf)), (h0, .inr (0, [.ref h0_cel, .int z.2.2])), (h0_cel, .inl (cI, 160, .inl z.2.1)), (h3, .inr (3, [.ref h3_str])), (h3_str, .inl (cI, 160, .inl str))] z.1 sz) (cc := cX5_withPeriods) (maxL := 7) (ret := (some .long)) (by decide) rfl (Nat.le_of_ble_eq_true rfl) ?_
  intro p e s m args below meth c A Q H ls hx hb hml hr hts hown hlocks hAe hQ hK hN hA hP hD hS hl
  have hown : s.vm.findClass RX5 = some m.cls := hown
  have hl : lv_has ls 7 [(0, .ref h5), (1, .long a1)] := hl
  have hP : va_P D vwCl ([(h5, .inr (5, [.ref h2, .ref h1, .ref h4, .ref h0, .ref h3])), (h2, .inr (2, [.ref h2_row, .ref h2_ten, .ref h2_pha, .ref h2_set, .int len, .int kep])), (h2_row, .inl (cI, 240, .inl row)), (h2_ten, .inl (cI, 4, .inl ten)), (h2_pha, .inl (cI, 4, .inl pha)), (h2_set, .inl (cI, 3, .inl set)), (h1, .inr (1, [.ref h1a, .int nex, .int man])), (h4, .inr (4, [.ref h4_cod, .ref h4_unf, .int tln])), (h4_cod, .inl (cI, 60, .inl cod)), (h4_unf, .inl (cI, 540, .inl unf)), (h0, .inr (0, [.ref h0_cel, .int cls])), (h0_cel, .inl (cI, 160, .inl cel)), (h3, .inr (3, [.ref h3_str])), (h3_str, .inl (cI, 160, .inl str))] ++ []) H := hP
  have hD : va_D A ([(h5, .inr (5, [.ref h2, .ref h1, .ref h4, .ref h0, .ref h3])), (h2, .inr (2, [.ref h2_row, .ref h2_ten, .ref h2_pha, .ref h2_set, .int len, .int kep])), (h2_row, .inl (cI, 240, .inl row)), (h2_ten, .inl (cI, 4, .inl ten)), (h2_pha, .inl (cI, 4, .inl pha)), (h2_set, .inl (cI, 3, .inl set)), (h1, .inr (1, [.ref h1a, .int nex, .int man])), (h4, .inr (4, [.ref h4_cod, .ref h4_unf, .int tln])), (h4_cod, .inl (cI, 60, .inl cod)), (h4_unf, .inl (cI, 540, .inl unf)), (h0, .inr (0, [.ref h0_cel, .int cls])), (h0_cel, .inl (cI, 160, .inl cel)), (h3, .inr (3, [.ref h3_str])), (h3_str, .inl (cI, 160, .inl str))] ++ []) := hD
  have iX2 : ∀ w ∈ u_ws RX2 TX2 6, w ∈ wsX5_withPeriods := fun _ h => List.mem_cons_of_mem _ (List.mem_append_left _ (List.mem_append_left _ (List.mem_append_right _ h)))
  have iX5 : ∀ w ∈ u_ws RX5 TX5 5, w ∈ wsX5_withPeriods := fun _ h => List.mem_cons_of_mem _ (List.mem_append_left _ (List.mem_append_left _ (List.mem_append_left _ (List.mem_append_right _ h))))
  unfold fX5_withPeriods at h
  refine lv_lload_n hx hb dX5_withPeriods_0 rfl (lv_at hl 1 rfl) ?_
  refine lv_lstore_n (lv' := [(3, .long a1), (0, .ref h5), (1, .long a1)]) hx hb dX5_withPeriods_1 rfl hl (by decide) rfl (fun ls hl => ?_)
  refine lv_iconst (v := 0) hx hb dX5_withPeriods_2 (by decide) ?_
  refine lv_istore (lv' := [(5, .int 0), (3, .long a1), (0, .ref h5), (1, .long a1)]) hx hb dX5_withPeriods_3 hl (by decide) rfl (fun ls hl => ?_)
  have L5 : ∀ (n : Nat) (v3_5 : Int64) (v5_5 : Int32) (cel_5 : Nat → Int32) (cls_5 : Int32) (o5_1 : Int64) (o5_2 : Nat → Int32) (o5_3 : Int32) (H : Heap) (locs : List Loc) (ls : Array Slot), fX5_withPeriods_L5 row ten pha set len kep str n v3_5 v5_5 cel_5 cls_5 = some (o5_1, o5_2, o5_3) → va_P D vwCl ([(h5, .inr (5, [.ref h2, .ref h1, .ref h4, .ref h0, .ref h3])), (h2, .inr (2, [.ref h2_row, .ref h2_ten, .ref h2_pha, .ref h2_set, .int len, .int kep])), (h2_row, .inl (cI, 240, .inl row)), (h2_ten, .inl (cI, 4, .inl ten)), (h2_pha, .inl (cI, 4, .inl pha)), (h2_set, .inl (cI, 3, .inl set)), (h1, .inr (1, [.ref h1a, .int nex, .int man])), (h4, .inr (4, [.ref h4_cod, .ref h4_unf, .int tln])), (h4_cod, .inl (cI, 60, .inl cod)), (h4_unf, .inl (cI, 540, .inl unf)), (h0, .inr (0, [.ref h0_cel, .int cls_5])), (h0_cel, .inl (cI, 160, .inl cel_5)), (h3, .inr (3, [.ref h3_str])), (h3_str, .inl (cI, 160, .inl str))] ++ []) H → va_D A ([(h5, .inr (5, [.ref h2, .ref h1, .ref h4, .ref h0, .ref h3])), (h2, .inr (2, [.ref h2_row, .ref h2_ten, .ref h2_pha, .ref h2_set, .int len, .int kep])), (h2_row, .inl (cI, 240, .inl row)), (h2_ten, .inl (cI, 4, .inl ten)), (h2_pha, .inl (cI, 4, .inl pha)), (h2_set, .inl (cI, 3, .inl set)), (h1, .inr (1, [.ref h1a, .int nex, .int man])), (h4, .inr (4, [.ref h4_cod, .ref h4_unf, .int tln])), (h4_cod, .inl (cI, 60, .inl cod)), (h4_unf, .inl (cI, 540, .inl unf)), (h0, .inr (0, [.ref h0_cel, .int cls_5])), (h0_cel, .inl (cI, 160, .inl cel_5)), (h3, .inr (3, [.ref h3_str])), (h3_str, .inl (cI, 160, .inl str))] ++ []) → va_S A s.heap H locs → lv_has ls 7 [(0, .ref h5), (3, .long v3_5), (5, .int v5_5)] → (∀ (H : Heap) (locs : List Loc) (ls : Array Slot), va_P D vwCl ([(h5, .inr (5, [.ref h2, .ref h1, .ref h4, .ref h0, .ref h3])), (h2, .inr (2, [.ref h2_row, .ref h2_ten, .ref h2_pha, .ref h2_set, .int len, .int kep])), (h2_row, .inl (cI, 240, .inl row)), (h2_ten, .inl (cI, 4, .inl ten)), (h2_pha, .inl (cI, 4, .inl pha)), (h2_set, .inl (cI, 3, .inl set)), (h1, .inr (1, [.ref h1a, .int nex, .int man])), (h4, .inr (4, [.ref h4_cod, .ref h4_unf, .int tln])), (h4_cod, .inl (cI, 60, .inl cod)), (h4_unf, .inl (cI, 540, .inl unf)), (h0, .inr (0, [.ref h0_cel, .int o5_3])), (h0_cel, .inl (cI, 160, .inl o5_2)), (h3, .inr (3, [.ref h3_str])), (h3_str, .inl (cI, 160, .inl str))] ++ []) H → va_D A ([(h5, .inr (5, [.ref h2, .ref h1, .ref h4, .ref h0, .ref h3])), (h2, .inr (2, [.ref h2_row, .ref h2_ten, .ref h2_pha, .ref h2_set, .int len, .int kep])), (h2_row, .inl (cI, 240, .inl row)), (h2_ten, .inl (cI, 4, .inl ten)), (h2_pha, .inl (cI, 4, .inl pha)), (h2_set, .inl (cI, 3, .inl set)), (h1, .inr (1, [.ref h1a, .int nex, .int man])), (h4, .inr (4, [.ref h4_cod, .ref h4_unf, .int tln])), (h4_cod, .inl (cI, 60, .inl cod)), (h4_unf, .inl (cI, 540, .inl unf)), (h0, .inr (0, [.ref h0_cel, .int o5_3])), (h0_cel, .inl (cI, 160, .inl o5_2)), (h3, .inr (3, [.ref h3_str])), (h3_str, .inl (cI, 160, .inl str))] ++ []) → va_S A s.heap H locs → lv_has ls 7 [(3, .long o5_1)] → W p l e rmX5_withPeriods s m args below meth c H locs 0 0 Q (F0 m 61 ls [])) → W p l e rmX5_withPeriods s m args below meth c H locs 0 0 Q (F0 m 5 ls []) := by
    intro n
    induction n with
    | zero =>
      intro v3_5 v5_5 cel_5 cls_5 o5_1 o5_2 o5_3 H locs ls h
      rw [fX5_withPeriods_L5] at h
      cases h
    | succ n ih =>
      intro v3_5 v5_5 cel_5 cls_5 o5_1 o5_2 o5_3 H locs ls h hP hD hS hl K
      rw [fX5_withPeriods_L5] at h
      refine lv_iload hx hb dX5_withPeriods_5 (lv_at hl 2 rfl) ?_
      refine lv_aload_n hx hb dX5_withPeriods_7 rfl (lv_at hl 0 rfl) ?_
      refine va_get (D := D) (ci := 5) (v := .ref h2) (C := RX5) (T := TX5) (N := 5) hx hb hts iX5 hown hK hP 0 rfl rfl 0 (by decide) (hts (.fieldLink RX5 10 "HiddenPeriods" "state" "LHiddenPeriods$State;") (by decide +kernel)) (fun _ h9 => h9) rfl dX5_withPeriods_8 ?_
      refine va_getN (D := D) (ci := 2) (v := .int kep) (C := RX2) (T := TX2) (N := 6) hx hb hts iX2 hown hK hP 1 rfl rfl 5 (by decide) (va_Nw.use rfl (hN (.fieldLinkNest RX5 125 "HiddenPeriods$State" "kept" "I" "HiddenPeriods") (by decide +kernel))) (fun _ h9 => h9) rfl dX5_withPeriods_11 ?_
      refine lv_icmp_ge (tgt := 61) hx hb dX5_withPeriods_14 (by decide) (fun cq => ?_) (fun cq => ?_)
      · replace h := ifp cq h
        cases h
        exact K _ _ _ hP hD hS (lv_sub hl [1] rfl)
      · replace h := ifn cq h
        refine lv_iconst (v := 0) hx hb dX5_withPeriods_17 (by decide) ?_
        refine lv_istore (lv' := [(6, .int 0), (0, .ref h5), (3, .long v3_5), (5, .int v5_5)]) hx hb dX5_withPeriods_18 hl (by decide) rfl (fun ls hl => ?_)
        have L20 : ∀ (n : Nat) (v3_20 : Int64) (v6_20 : Int32) (cel_20 : Nat → Int32) (cls_20 : Int32) (o20_1 : Int64) (o20_2 : Nat → Int32) (o20_3 : Int32) (H : Heap) (locs : List Loc) (ls : Array Slot), fX5_withPeriods_L20 row ten pha set len kep str v5_5 n v3_20 v6_20 cel_20 cls_20 = some (o20_1, o20_2, o20_3) → va_P D vwCl ([(h5, .inr (5, [.ref h2, .ref h1, .ref h4, .ref h0, .ref h3])), (h2, .inr (2, [.ref h2_row, .ref h2_ten, .ref h2_pha, .ref h2_set, .int len, .int kep])), (h2_row, .inl (cI, 240, .inl row)), (h2_ten, .inl (cI, 4, .inl ten)), (h2_pha, .inl (cI, 4, .inl pha)), (h2_set, .inl (cI, 3, .inl set)), (h1, .inr (1, [.ref h1a, .int nex, .int man])), (h4, .inr (4, [.ref h4_cod, .ref h4_unf, .int tln])), (h4_cod, .inl (cI, 60, .inl cod)), (h4_unf, .inl (cI, 540, .inl unf)), (h0, .inr (0, [.ref h0_cel, .int cls_20])), (h0_cel, .inl (cI, 160, .inl cel_20)), (h3, .inr (3, [.ref h3_str])), (h3_str, .inl (cI, 160, .inl str))] ++ []) H → va_D A ([(h5, .inr (5, [.ref h2, .ref h1, .ref h4, .ref h0, .ref h3])), (h2, .inr (2, [.ref h2_row, .ref h2_ten, .ref h2_pha, .ref h2_set, .int len, .int kep])), (h2_row, .inl (cI, 240, .inl row)), (h2_ten, .inl (cI, 4, .inl ten)), (h2_pha, .inl (cI, 4, .inl pha)), (h2_set, .inl (cI, 3, .inl set)), (h1, .inr (1, [.ref h1a, .int nex, .int man])), (h4, .inr (4, [.ref h4_cod, .ref h4_unf, .int tln])), (h4_cod, .inl (cI, 60, .inl cod)), (h4_unf, .inl (cI, 540, .inl unf)), (h0, .inr (0, [.ref h0_cel, .int cls_20])), (h0_cel, .inl (cI, 160, .inl cel_20)), (h3, .inr (3, [.ref h3_str])), (h3_str, .inl (cI, 160, .inl str))] ++ []) → va_S A s.heap H locs → lv_has ls 7 [(0, .ref h5), (3, .long v3_20), (5, .int v5_5), (6, .int v6_20)] → (∀ (H : Heap) (locs : List Loc) (ls : Array Slot), va_P D vwCl ([(h5, .inr (5, [.ref h2, .ref h1, .ref h4, .ref h0, .ref h3])), (h2, .inr (2, [.ref h2_row, .ref h2_ten, .ref h2_pha, .ref h2_set, .int len, .int kep])), (h2_row, .inl (cI, 240, .inl row)), (h2_ten, .inl (cI, 4, .inl ten)), (h2_pha, .inl (cI, 4, .inl pha)), (h2_set, .inl (cI, 3, .inl set)), (h1, .inr (1, [.ref h1a, .int nex, .int man])), (h4, .inr (4, [.ref h4_cod, .ref h4_unf, .int tln])), (h4_cod, .inl (cI, 60, .inl cod)), (h4_unf, .inl (cI, 540, .inl unf)), (h0, .inr (0, [.ref h0_cel, .int o20_3])), (h0_cel, .inl (cI, 160, .inl o20_2)), (h3, .inr (3, [.ref h3_str])), (h3_str, .inl (cI, 160, .inl str))] ++ []) H → va_D A ([(h5, .inr (5, [.ref h2, .ref h1, .ref h4, .ref h0, .ref h3])), (h2, .inr (2, [.ref h2_row, .ref h2_ten, .ref h2_pha, .ref h2_set, .int len, .int kep])), (h2_row, .inl (cI, 240, .inl row)), (h2_ten, .inl (cI, 4, .inl ten)), (h2_pha, .inl (cI, 4, .inl pha)), (h2_set, .inl (cI, 3, .inl set)), (h1, .inr (1, [.ref h1a, .int nex, .int man])), (h4, .inr (4, [.ref h4_cod, .ref h4_unf, .int tln])), (h4_cod, .inl (cI, 60, .inl cod)), (h4_unf, .inl (cI, 540, .inl unf)), (h0, .inr (0, [.ref h0_cel, .int o20_3])), (h0_cel, .inl (cI, 160, .inl o20_2)), (h3, .inr (3, [.ref h3_str])), (h3_str, .inl (cI, 160, .inl str))] ++ []) → va_S A s.heap H locs → lv_has ls 7 [(0, .ref h5), (3, .long o20_1), (5, .int v5_5)] → W p l e rmX5_withPeriods s m args below meth c H locs 0 0 Q (F0 m 47 ls [])) → W p l e rmX5_withPeriods s m args below meth c H locs 0 0 Q (F0 m 20 ls []) := by
          intro n
          induction n with
          | zero =>
            intro v3_20 v6_20 cel_20 cls_20 o20_1 o20_2 o20_3 H locs ls h
            rw [fX5_withPeriods_L20] at h
            cases h
          | succ n ih =>
            intro v3_20 v6_20 cel_20 cls_20 o20_1 o20_2 o20_3 H locs ls h hP hD hS hl K
            rw [fX5_withPeriods_L20] at h
            refine lv_iload hx hb dX5_withPeriods_20 (lv_at hl 3 rfl) ?_
            refine lv_bipush (v := 7) hx hb dX5_withPeriods_22 (by decide) ?_
            refine lv_icmp_ge (tgt := 47) hx hb dX5_withPeriods_24 (by decide) (fun cq => ?_) (fun cq => ?_)
            · replace h := ifp cq h
              cases h
              exact K _ _ _ hP hD hS (lv_sub hl [0, 1, 2] rfl)
            · replace h := ifn cq h
              refine lv_lload_n hx hb dX5_withPeriods_27 rfl (lv_at hl 1 rfl) ?_
              refine lv_aload_n hx hb dX5_withPeriods_28 rfl (lv_at hl 0 rfl) ?_
              refine lv_iload hx hb dX5_withPeriods_29 (lv_at hl 2 rfl) ?_
              refine lv_iload hx hb dX5_withPeriods_31 (lv_at hl 3 rfl) ?_
              obtain ⟨⟨x1_1, x1_2, x1_3⟩, hx1, h⟩ := bnd h
              refine pw_goi (wc := [(h5, .inr (5, [.ref h2, .ref h1, .ref h4, .ref h0, .ref h3])), (h2, .inr (2, [.ref h2_row, .ref h2_ten, .ref h2_pha, .ref h2_set, .int len, .int kep])), (h2_row, .inl (cI, 240, .inl row)), (h2_ten, .inl (cI, 4, .inl ten)), (h2_pha, .inl (cI, 4, .inl pha)), (h2_set, .inl (cI, 3, .inl set)), (h1, .inr (1, [.ref h1a, .int nex, .int man])), (h4, .inr (4, [.ref h4_cod, .ref h4_unf, .int tln])), (h4_cod, .inl (cI, 60, .inl cod)), (h4_unf, .inl (cI, 540, .inl unf)), (h0, .inr (0, [.ref h0_cel, .int cls_20])), (h0_cel, .inl (cI, 160, .inl cel_20)), (h3, .inr (3, [.ref h3_str])), (h3_str, .inl (cI, 160, .inl str))]) (w1 := [(h5, .inr (5, [.ref h2, .ref h1, .ref h4, .ref h0, .ref h3])), (h2, .inr (2, [.ref h2_row, .ref h2_ten, .ref h2_pha, .ref h2_set, .int len, .int kep])), (h2_row, .inl (cI, 240, .inl row)), (h2_ten, .inl (cI, 4, .inl ten)), (h2_pha, .inl (cI, 4, .inl pha)), (h2_set, .inl (cI, 3, .inl set)), (h1, .inr (1, [.ref h1a, .int nex, .int man])), (h4, .inr (4, [.ref h4_cod, .ref h4_unf, .int tln])), (h4_cod, .inl (cI, 60, .inl cod)), (h4_unf, .inl (cI, 540, .inl unf)), (h0, .inr (0, [.ref h0_cel, .int x1_3])), (h0_cel, .inl (cI, 160, .inl x1_2)), (h3, .inr (3, [.ref h3_str])), (h3_str, .inl (cI, 160, .inl str))]) (w2 := [(h5, .inr (5, [.ref h2, .ref h1, .ref h4, .ref h0, .ref h3])), (h2, .inr (2, [.ref h2_row, .ref h2_ten, .ref h2_pha, .ref h2_set, .int len, .int kep])), (h2_row, .inl (cI, 240, .inl row)), (h2_ten, .inl (cI, 4, .inl ten)), (h2_pha, .inl (cI, 4, .inl pha)), (h2_set, .inl (cI, 3, .inl set)), (h1, .inr (1, [.ref h1a, .int nex, .int man])), (h4, .inr (4, [.ref h4_cod, .ref h4_unf, .int tln])), (h4_cod, .inl (cI, 60, .inl cod)), (h4_unf, .inl (cI, 540, .inl unf)), (h0, .inr (0, [.ref h0_cel, .int x1_3])), (h0_cel, .inl (cI, 160, .inl x1_2)), (h3, .inr (3, [.ref h3_str])), (h3_str, .inl (cI, 160, .inl str))]) (va_runV (As := [.int v5_5, .int v6_20]) (rest := [.long v3_20]) ⟨hx, hb, hml, hown, hts⟩ (mX5_periodNumber l D cI cO cJ h5 h2 h2_row h2_ten h2_pha h2_set h1 h1a h4 h4_cod h4_unf h0 h0_cel h3 h3_str H.size row ten pha set len kep nex man cod unf tln cel_20 cls_20 str v5_5 v6_20 _ hx1) (cwV 2 hts gX5_withPeriods_X5_periodNumber rfl rfl rfl (by decide +kernel) ⟨Nat.le_of_ble_eq_true rfl, Nat.le_of_ble_eq_true rfl⟩) (pw_preV hK hN (pw_sub hP [0, 1, 2, 3, 4, 5, 6, 7, 8, 9, 10, 11, 12, 13] rfl) (pw_subD hD [0, 1, 2, 3, 4, 5, 6, 7, 8, 9, 10, 11, 12, 13] (by decide) rfl) (ci := 5) (q0 := 0) rfl rfl) rfl rfl hl.1 rfl (lv_room (Nat.le_of_ble_eq_true rfl)) dX5_withPeriods_33 ⟨Nat.zero_le _, Nat.zero_le _⟩) hP hD hS hA [0, 1, 2, 3, 4, 5, 6, 7, 8, 9, 10, 11, 12, 13] [] [0, 1, 2, 3, 4, 5, 6, 7, 8, 9, 10, 11, 12, 13] rfl rfl (by decide) (by decide) (by decide) rfl (fun H locs hP hD hS => ?_)
              refine lv_i2l (v := x1_1.toInt64) hx hb dX5_withPeriods_36 rfl ?_
              obtain ⟨x2, hx2, h⟩ := bnd h
              refine pw_go0l (va_runS (As := [.long v3_20, .long x1_1.toInt64]) (rest := []) ⟨hx, hb, hml, hown, hts⟩ (mX5_with l D cI cO cJ H.size v3_20 x1_1.toInt64 _ hx2) (va_cwS 2 hts gX5_withPeriods_X5_with rfl rfl rfl (by decide +kernel) ⟨Nat.le_of_ble_eq_true rfl, Nat.le_of_ble_eq_true rfl⟩) (pw_preS hK hN pw_nilP (pw_nilD (A := A))) rfl rfl hl.1 rfl (lv_room (Nat.le_of_ble_eq_true rfl)) dX5_withPeriods_37 ⟨Nat.zero_le _, Nat.zero_le _⟩) hP hS hA (fun H locs hP hS => ?_)
              refine lv_lstore_n (lv' := [(3, .long x2), (0, .ref h5), (5, .int v5_5), (6, .int v6_20)]) hx hb dX5_withPeriods_40 rfl hl (by decide) rfl (fun ls hl => ?_)
              refine lv_iinc (v := (v6_20 + 1)) (lv' := [(6, .int (v6_20 + 1)), (3, .long x2), (0, .ref h5), (5, .int v5_5)]) hx hb dX5_withPeriods_41 hl (k := 3) rfl rfl (by decide) rfl (fun ls hl => ?_)
              refine lv_goto (tgt := 20) hx hb dX5_withPeriods_44 (by decide) ?_
              exact ih _ _ _ _ _ _ _ _ _ _ h hP hD hS (lv_sub hl [2, 1, 3, 0] rfl) K
        obtain ⟨⟨x3_1, x3_2, x3_3⟩, hx3, h⟩ := bnd h
        refine L20 FU _ _ _ _ _ _ _ _ _ _ hx3 hP hD hS (lv_sub hl [1, 2, 3, 0] rfl) (fun H locs ls hP hD hS hl => ?_)
        refine lv_aload_n hx hb dX5_withPeriods_47 rfl (lv_at hl 0 rfl) ?_
        refine lv_lload_n hx hb dX5_withPeriods_48 rfl (lv_at hl 1 rfl) ?_
        refine lv_iload hx hb dX5_withPeriods_49 (lv_at hl 2 rfl) ?_
        obtain ⟨⟨x4_1, x4_2, x4_3⟩, hx4, h⟩ := bnd h
        refine pw_gol (wc := [(h5, .inr (5, [.ref h2, .ref h1, .ref h4, .ref h0, .ref h3])), (h2, .inr (2, [.ref h2_row, .ref h2_ten, .ref h2_pha, .ref h2_set, .int len, .int kep])), (h2_row, .inl (cI, 240, .inl row)), (h2_ten, .inl (cI, 4, .inl ten)), (h2_pha, .inl (cI, 4, .inl pha)), (h2_set, .inl (cI, 3, .inl set)), (h1, .inr (1, [.ref h1a, .int nex, .int man])), (h4, .inr (4, [.ref h4_cod, .ref h4_unf, .int tln])), (h4_cod, .inl (cI, 60, .inl cod)), (h4_unf, .inl (cI, 540, .inl unf)), (h0, .inr (0, [.ref h0_cel, .int x3_3])), (h0_cel, .inl (cI, 160, .inl x3_2)), (h3, .inr (3, [.ref h3_str])), (h3_str, .inl (cI, 160, .inl str))]) (w1 := [(h5, .inr (5, [.ref h2, .ref h1, .ref h4, .ref h0, .ref h3])), (h2, .inr (2, [.ref h2_row, .ref h2_ten, .ref h2_pha, .ref h2_set, .int len, .int kep])), (h2_row, .inl (cI, 240, .inl row)), (h2_ten, .inl (cI, 4, .inl ten)), (h2_pha, .inl (cI, 4, .inl pha)), (h2_set, .inl (cI, 3, .inl set)), (h1, .inr (1, [.ref h1a, .int nex, .int man])), (h4, .inr (4, [.ref h4_cod, .ref h4_unf, .int tln])), (h4_cod, .inl (cI, 60, .inl cod)), (h4_unf, .inl (cI, 540, .inl unf)), (h0, .inr (0, [.ref h0_cel, .int x4_3])), (h0_cel, .inl (cI, 160, .inl x4_2)), (h3, .inr (3, [.ref h3_str])), (h3_str, .inl (cI, 160, .inl str))]) (w2 := [(h5, .inr (5, [.ref h2, .ref h1, .ref h4, .ref h0, .ref h3])), (h2, .inr (2, [.ref h2_row, .ref h2_ten, .ref h2_pha, .ref h2_set, .int len, .int kep])), (h2_row, .inl (cI, 240, .inl row)), (h2_ten, .inl (cI, 4, .inl ten)), (h2_pha, .inl (cI, 4, .inl pha)), (h2_set, .inl (cI, 3, .inl set)), (h1, .inr (1, [.ref h1a, .int nex, .int man])), (h4, .inr (4, [.ref h4_cod, .ref h4_unf, .int tln])), (h4_cod, .inl (cI, 60, .inl cod)), (h4_unf, .inl (cI, 540, .inl unf)), (h0, .inr (0, [.ref h0_cel, .int x4_3])), (h0_cel, .inl (cI, 160, .inl x4_2)), (h3, .inr (3, [.ref h3_str])), (h3_str, .inl (cI, 160, .inl str))]) (va_runV (As := [.long x3_1, .int v5_5]) (rest := []) ⟨hx, hb, hml, hown, hts⟩ (mX5_withCounts l D cI cO cJ h5 h2 h2_row h2_ten h2_pha h2_set h1 h1a h4 h4_cod h4_unf h0 h0_cel h3 h3_str H.size row ten pha set len kep nex man cod unf tln x3_2 x3_3 str x3_1 v5_5 _ hx4) (cwV 2 hts gX5_withPeriods_X5_withCounts rfl rfl rfl (by decide +kernel) ⟨Nat.le_of_ble_eq_true rfl, Nat.le_of_ble_eq_true rfl⟩) (pw_preV hK hN (pw_sub hP [0, 1, 2, 3, 4, 5, 6, 7, 8, 9, 10, 11, 12, 13] rfl) (pw_subD hD [0, 1, 2, 3, 4, 5, 6, 7, 8, 9, 10, 11, 12, 13] (by decide) rfl) (ci := 5) (q0 := 0) rfl rfl) rfl rfl hl.1 rfl (lv_room (Nat.le_of_ble_eq_true rfl)) dX5_withPeriods_51 ⟨Nat.zero_le _, Nat.zero_le _⟩) hP hD hS hA [0, 1, 2, 3, 4, 5, 6, 7, 8, 9, 10, 11, 12, 13] [] [0, 1, 2, 3, 4, 5, 6, 7, 8, 9, 10, 11, 12, 13] rfl rfl (by decide) (by decide) (by decide) rfl (fun H locs hP hD hS => ?_)
        refine lv_lstore_n (lv' := [(3, .long x4_1), (0, .ref h5), (5, .int v5_5)]) hx hb dX5_withPeriods_54 rfl hl (by decide) rfl (fun ls hl => ?_)
        refine lv_iinc (v := (v5_5 + 1)) (lv' := [(5, .int (v5_5 + 1)), (3, .long x4_1), (0, .ref h5)]) hx hb dX5_withPeriods_55 hl (k := 2) rfl rfl (by decide) rfl (fun ls hl => ?_)
        refine lv_goto (tgt := 5) hx hb dX5_withPeriods_58 (by decide) ?_
        exact ih _ _ _ _ _ _ _ _ _ _ h hP hD hS (lv_sub hl [2, 1, 0] rfl) K
  obtain ⟨⟨x5_1, x5_2, x5_3⟩, hx5, h⟩ := bnd h
  refine L5 FU _ _ _ _ _ _ _ _ _ _ hx5 hP hD hS (lv_sub hl [2, 1, 0] rfl) (fun H locs ls hP hD hS hl => ?_)
  refine lv_lload_n hx hb dX5_withPeriods_61 rfl (lv_at hl 0 rfl) ?_
  cases h
  exact pw_lret hx hb hr hlocks hAe hQ hP hD hS dX5_withPeriods_62
def fX5_withTold_L5 (row : Nat → Int32) (ten : Nat → Int32) (pha : Nat → Int32) (set : Nat → Int32) (len : Int32) (kep : Int32) (str : Nat → Int32) : Nat → Int64 → Int32 → Option Int64
  | 0, _, _ => none
  | n + 1, v3_5, v5_5 =>
    if 20 ≤ v5_5 then
    some v3_5
    else
    if len ≤ v5_5 then
    some v3_5
    else
    (fX5_toldNumber row ten pha set len kep str v5_5 0).bind fun x1 =>
    (fX5_with v3_5 x1.toInt64).bind fun x2 =>
    (fX5_toldNumber row ten pha set len kep str v5_5 1).bind fun x3 =>
    (fX5_with x2 x3.toInt64).bind fun x4 =>
    fX5_withTold_L5 row ten pha set len kep str n x4 (v5_5 + 1)
def fX5_withTold (row : Nat → Int32) (ten : Nat → Int32) (pha : Nat → Int32) (set : Nat → Int32) (len : Int32) (kep : Int32) (str : Nat → Int32) (a1 : Int64) : Option Int64 :=
  (fX5_withTold_L5 row ten pha set len kep str FU a1 0).bind fun x5 =>
  some x5
abbrev rmX5_withTold : Room := { frames := 8, cells := 0, slots := 0, locals := 175 }
set_option maxHeartbeats 4000000 in
set_option maxRecDepth 100000 in
theorem mX5_withTold (l : Launch) (D : va_G) (cI cO cJ : ClassId) (h5 h2 h2_row h2_ten h2_pha h2_set h1 h1a h4 h4_cod h4_unf h0 h0_cel h3 h3_str : Nat) (sz : Nat) (row : Nat → Int32) (ten : Nat → Int32) (pha : Nat → Int32) (set : Nat → Int32) (len : Int32) (kep : Int32) (nex : Int32) (man : Int32) (cod : Nat → Int32) (unf : Nat → Int32) (tln : Int32) (cel : Nat → Int32) (cls : Int32) (str : Nat → Int32) (a1 : Int64) (z : Int64) (h : fX5_withTold row ten pha set len kep str a1 = some z) : Met l yX5_withTold wsX5_withTold rmX5_withTold (pw_pre D (tyL cI cO cJ) [.ref h5, .long a1] [(h5, .inr (5, [.ref h2, .ref h1, .ref h4, .ref h0, .ref h3])), (h2, .inr (2, [.ref h2_row, .ref h2_ten, .ref h2_pha, .ref h2_set, .int len, .int kep])), (h2_row, .inl (cI, 240, .inl row)), (h2_ten, .inl (cI, 4, .inl ten)), (h2_pha, .inl (cI, 4, .inl pha)), (h2_set, .inl (cI, 3, .inl set)), (h1, .inr (1, [.ref h1a, .int nex, .int man])), (h4, .inr (4, [.ref h4_cod, .ref h4_unf, .int tln])), (h4_cod, .inl (cI, 60, .inl cod)), (h4_unf, .inl (cI, 540, .inl unf)), (h0, .inr (0, [.ref h0_cel, .int cls])), (h0_cel, .inl (cI, 160, .inl cel)), (h3, .inr (3, [.ref h3_str])), (h3_str, .inl (cI, 160, .inl str))] sz) (pw_l D [(h5, .inr (5, [.ref h2, .ref h1, .ref h4, .ref h0, .ref h3])), (h2, .inr (2, [.ref h2_row, .ref h2_ten, .ref h2_pha, .ref h2_set, .int len, .int kep])), (h2_row, .inl (cI, 240, .inl row)), (h2_ten, .inl (cI, 4, .inl ten)), (h2_pha, .inl (cI, 4, .inl pha)), (h2_set, .inl (cI, 3, .inl set)), (h1, .inr (1, [.ref h1a, .int nex, .int man])), (h4, .inr (4, [.ref h4_cod, .ref h4_unf, .int tln])), (h4_cod, .inl (cI, 60, .inl cod)), (h4_unf, .inl (cI, 540, .inl unf)), (h0, .inr (0, [.ref h0_cel, .int cls])), (h0_cel, .inl (cI, 160, .inl cel)), (h3, .inr (3, [.ref h3_str])), (h3_str, .inl (cI, 160, .inl str))] [(h5, .inr (5, [.ref h2, .ref h1, .ref h4, .ref h0, .ref h3])), (h2, .inr (2, [.ref h2_row, .ref h2_ten, .ref h2_pha, .ref h2_set, .int len, .int kep])), (h2_row, .inl (cI, 240, .inl row)), (h2_ten, .inl (cI, 4, .inl ten)), (h2_pha, .inl (cI, 4, .inl pha)), (h2_set, .inl (cI, 3, .inl set)), (h1, .inr (1, [.ref h1a, .int nex, .int man])), (h4, .inr (4, [.ref h4_cod, .ref h4_unf, .int tln])), (h4_cod, .inl (cI, 60, .inl cod)), (h4_unf, .inl (cI, 540, .inl unf)), (h0, .inr (0, [.ref h0_cel, .int cls])), (h0_cel, .inl (cI, 160, .inl cel)), (h3, .inr (3, [.ref h3_str])), (h3_str, .inl (cI, 160, .inl str))] z sz) 0 0 (va_A [(h5, .inr (5, [.ref h2, .ref h1, .ref h4, .ref h0, .ref h3])), (h2, .inr (2, [.ref h2_row, .ref h2_ten, .ref h2_pha, .ref h2_set, .int len, .int kep])), (h2_row, .inl (cI, 240, .inl row)), (h2_ten, .inl (cI, 4, .inl ten)), (h2_pha, .inl (cI, 4, .inl pha)), (h2_set, .inl (cI, 3, .inl set)), (h1, .inr (1, [.ref h1a, .int nex, .int man])), (h4, .inr (4, [.ref h4_cod, .ref h4_unf, .int tln])), (h4_cod, .inl (cI, 60, .inl cod)), (h4_unf, .inl (cI, 540, .inl unf)), (h0, .inr (0, [.ref h0_cel, .int cls])), (h0_cel, .inl (cI, 160, .inl cel)), (h3, .inr (3, [.ref h3_str])), (h3_str, .inl (cI, 160, .inl str))] sz) := by
  refine pw_of (Qc := fun sz => pw_l D [(h5, .inr (5, [.ref h2, .ref h1, .ref h4, .ref h0, .ref h3])), (h2, .inr (2, [.ref h2_row, .ref h2_ten, .ref h2_pha, .ref h2_set, .int len, .int kep])), (h2_row, .inl (cI, 240, .inl row)), (h2_ten, .inl (cI, 4, .inl ten)), (h2_pha, .inl (cI, 4, .inl pha)), (h2_set, .inl (cI, 3, .inl set)), (h1, .inr (1, [.ref h1a, .int nex, .int man])), (h4, .inr (4, [.ref h4_cod, .ref h4_unf, .int tln])), (h4_cod, .inl (cI, 60, .inl cod)), (h4_unf, .inl (cI, 540, .inl unf)), (h0, .inr (0, [.ref h0_cel, .int cls])), (h0_cel, .inl (cI, 160, .inl cel)), (h3, .inr (3, [.ref h3_str])), (h3_str, .inl (cI, 160, .inl str))] [(h5, .inr (5, [.ref h2, .ref h1, .ref h4, .ref h0, .ref h3])), (h2, .inr (2, [.ref h2_row, .ref h2_ten, .ref h2_pha, .ref h2_set, .int len, .int kep])), (h2_row, .inl (cI, 240, .inl row)), (h2_ten, .inl (cI, 4, .inl ten)), (h2_pha, .inl (cI, 4, .inl pha)), (h2_set, .inl (cI, 3, .inl set)), (h1, .inr (1, [.ref h1a, .int nex, .int man])), (h4, .inr (4, [.ref h4_cod, .ref h4_unf, .int tln])), (h4_cod, .inl (cI, 60, .inl cod)), (h4_unf, .inl (cI, 540, .inl unf)), (h0, .inr (0, [.ref h0_cel, .int cls])), (h0_cel, .inl (cI, 160, .inl cel)), (h3, .inr (3, [.ref h3_str])), (h3_str, .inl (cI, 160, .inl str))] z sz) (cc := cX5_withTold) (maxL := 6) (ret := (some .long)) (by decide) rfl (Nat.le_of_ble_eq_true rfl) ?_
  intro p e s m args below meth c A Q H ls hx hb hml hr hts hown hlocks hAe hQ hK hN hA hP hD hS hl
  have hown : s.vm.findClass RX5 = some m.cls := hown
  have hl : lv_has ls 6 [(0, .ref h5), (1, .long a1)] := hl
  have hP : va_P D vwCl ([(h5, .inr (5, [.ref h2, .ref h1, .ref h4, .ref h0, .ref h3])), (h2, .inr (2, [.ref h2_row, .ref h2_ten, .ref h2_pha, .ref h2_set, .int len, .int kep])), (h2_row, .inl (cI, 240, .inl row)), (h2_ten, .inl (cI, 4, .inl ten)), (h2_pha, .inl (cI, 4, .inl pha)), (h2_set, .inl (cI, 3, .inl set)), (h1, .inr (1, [.ref h1a, .int nex, .int man])), (h4, .inr (4, [.ref h4_cod, .ref h4_unf, .int tln])), (h4_cod, .inl (cI, 60, .inl cod)), (h4_unf, .inl (cI, 540, .inl unf)), (h0, .inr (0, [.ref h0_cel, .int cls])), (h0_cel, .inl (cI, 160, .inl cel)), (h3, .inr (3, [.ref h3_str])), (h3_str, .inl (cI, 160, .inl str))] ++ []) H := hP
  have hD : va_D A ([(h5, .inr (5, [.ref h2, .ref h1, .ref h4, .ref h0, .ref h3])), (h2, .inr (2, [.ref h2_row, .ref h2_ten, .ref h2_pha, .ref h2_set, .int len, .int kep])), (h2_row, .inl (cI, 240, .inl row)), (h2_ten, .inl (cI, 4, .inl ten)), (h2_pha, .inl (cI, 4, .inl pha)), (h2_set, .inl (cI, 3, .inl set)), (h1, .inr (1, [.ref h1a, .int nex, .int man])), (h4, .inr (4, [.ref h4_cod, .ref h4_unf, .int tln])), (h4_cod, .inl (cI, 60, .inl cod)), (h4_unf, .inl (cI, 540, .inl unf)), (h0, .inr (0, [.ref h0_cel, .int cls])), (h0_cel, .inl (cI, 160, .inl cel)), (h3, .inr (3, [.ref h3_str])), (h3_str, .inl (cI, 160, .inl str))] ++ []) := hD
  have iX2 : ∀ w ∈ u_ws RX2 TX2 6, w ∈ wsX5_withTold := fun _ h => List.mem_cons_of_mem _ (List.mem_append_left _ (List.mem_append_right _ h))
  have iX5 : ∀ w ∈ u_ws RX5 TX5 5, w ∈ wsX5_withTold := fun _ h => List.mem_cons_of_mem _ (List.mem_append_left _ (List.mem_append_left _ (List.mem_append_right _ h)))
  unfold fX5_withTold at h
  refine lv_lload_n hx hb dX5_withTold_0 rfl (lv_at hl 1 rfl) ?_
  refine lv_lstore_n (lv' := [(3, .long a1), (0, .ref h5), (1, .long a1)]) hx hb dX5_withTold_1 rfl hl (by decide) rfl (fun ls hl => ?_)
  refine lv_iconst (v := 0) hx hb dX5_withTold_2 (by decide) ?_
  refine lv_istore (lv' := [(5, .int 0), (3, .long a1), (0, .ref h5), (1, .long a1)]) hx hb dX5_withTold_3 hl (by decide) rfl (fun ls hl => ?_)
  have L5 : ∀ (n : Nat) (v3_5 : Int64) (v5_5 : Int32) (o5_1 : Int64) (H : Heap) (locs : List Loc) (ls : Array Slot), fX5_withTold_L5 row ten pha set len kep str n v3_5 v5_5 = some o5_1 → va_P D vwCl ([(h5, .inr (5, [.ref h2, .ref h1, .ref h4, .ref h0, .ref h3])), (h2, .inr (2, [.ref h2_row, .ref h2_ten, .ref h2_pha, .ref h2_set, .int len, .int kep])), (h2_row, .inl (cI, 240, .inl row)), (h2_ten, .inl (cI, 4, .inl ten)), (h2_pha, .inl (cI, 4, .inl pha)), (h2_set, .inl (cI, 3, .inl set)), (h1, .inr (1, [.ref h1a, .int nex, .int man])), (h4, .inr (4, [.ref h4_cod, .ref h4_unf, .int tln])), (h4_cod, .inl (cI, 60, .inl cod)), (h4_unf, .inl (cI, 540, .inl unf)), (h0, .inr (0, [.ref h0_cel, .int cls])), (h0_cel, .inl (cI, 160, .inl cel)), (h3, .inr (3, [.ref h3_str])), (h3_str, .inl (cI, 160, .inl str))] ++ []) H → va_D A ([(h5, .inr (5, [.ref h2, .ref h1, .ref h4, .ref h0, .ref h3])), (h2, .inr (2, [.ref h2_row, .ref h2_ten, .ref h2_pha, .ref h2_set, .int len, .int kep])), (h2_row, .inl (cI, 240, .inl row)), (h2_ten, .inl (cI, 4, .inl ten)), (h2_pha, .inl (cI, 4, .inl pha)), (h2_set, .inl (cI, 3, .inl set)), (h1, .inr (1, [.ref h1a, .int nex, .int man])), (h4, .inr (4, [.ref h4_cod, .ref h4_unf, .int tln])), (h4_cod, .inl (cI, 60, .inl cod)), (h4_unf, .inl (cI, 540, .inl unf)), (h0, .inr (0, [.ref h0_cel, .int cls])), (h0_cel, .inl (cI, 160, .inl cel)), (h3, .inr (3, [.ref h3_str])), (h3_str, .inl (cI, 160, .inl str))] ++ []) → va_S A s.heap H locs → lv_has ls 6 [(0, .ref h5), (3, .long v3_5), (5, .int v5_5)] → (∀ (H : Heap) (locs : List Loc) (ls : Array Slot), va_P D vwCl ([(h5, .inr (5, [.ref h2, .ref h1, .ref h4, .ref h0, .ref h3])), (h2, .inr (2, [.ref h2_row, .ref h2_ten, .ref h2_pha, .ref h2_set, .int len, .int kep])), (h2_row, .inl (cI, 240, .inl row)), (h2_ten, .inl (cI, 4, .inl ten)), (h2_pha, .inl (cI, 4, .inl pha)), (h2_set, .inl (cI, 3, .inl set)), (h1, .inr (1, [.ref h1a, .int nex, .int man])), (h4, .inr (4, [.ref h4_cod, .ref h4_unf, .int tln])), (h4_cod, .inl (cI, 60, .inl cod)), (h4_unf, .inl (cI, 540, .inl unf)), (h0, .inr (0, [.ref h0_cel, .int cls])), (h0_cel, .inl (cI, 160, .inl cel)), (h3, .inr (3, [.ref h3_str])), (h3_str, .inl (cI, 160, .inl str))] ++ []) H → va_D A ([(h5, .inr (5, [.ref h2, .ref h1, .ref h4, .ref h0, .ref h3])), (h2, .inr (2, [.ref h2_row, .ref h2_ten, .ref h2_pha, .ref h2_set, .int len, .int kep])), (h2_row, .inl (cI, 240, .inl row)), (h2_ten, .inl (cI, 4, .inl ten)), (h2_pha, .inl (cI, 4, .inl pha)), (h2_set, .inl (cI, 3, .inl set)), (h1, .inr (1, [.ref h1a, .int nex, .int man])), (h4, .inr (4, [.ref h4_cod, .ref h4_unf, .int tln])), (h4_cod, .inl (cI, 60, .inl cod)), (h4_unf, .inl (cI, 540, .inl unf)), (h0, .inr (0, [.ref h0_cel, .int cls])), (h0_cel, .inl (cI, 160, .inl cel)), (h3, .inr (3, [.ref h3_str])), (h3_str, .inl (cI, 160, .inl str))] ++ []) → va_S A s.heap H locs → lv_has ls 6 [(3, .long o5_1)] → W p l e rmX5_withTold s m args below meth c H locs 0 0 Q (F0 m 56 ls [])) → W p l e rmX5_withTold s m args below meth c H locs 0 0 Q (F0 m 5 ls []) := by
    intro n
    induction n with
    | zero =>
      intro v3_5 v5_5 o5_1 H locs ls h
      rw [fX5_withTold_L5] at h
      cases h
    | succ n ih =>
      intro v3_5 v5_5 o5_1 H locs ls h hP hD hS hl K
      rw [fX5_withTold_L5] at h
      refine lv_iload hx hb dX5_withTold_5 (lv_at hl 2 rfl) ?_
      refine lv_bipush (v := 20) hx hb dX5_withTold_7 (by decide) ?_
      refine lv_icmp_ge (tgt := 56) hx hb dX5_withTold_9 (by decide) (fun cq => ?_) (fun cq => ?_)
      · replace h := ifp cq h
        cases h
        exact K _ _ _ hP hD hS (lv_sub hl [1] rfl)
      · replace h := ifn cq h
        refine lv_iload hx hb dX5_withTold_12 (lv_at hl 2 rfl) ?_
        refine lv_aload_n hx hb dX5_withTold_14 rfl (lv_at hl 0 rfl) ?_
        refine va_get (D := D) (ci := 5) (v := .ref h2) (C := RX5) (T := TX5) (N := 5) hx hb hts iX5 hown hK hP 0 rfl rfl 0 (by decide) (hts (.fieldLink RX5 10 "HiddenPeriods" "state" "LHiddenPeriods$State;") (by decide +kernel)) (fun _ h9 => h9) rfl dX5_withTold_15 ?_
        refine va_getN (D := D) (ci := 2) (v := .int len) (C := RX2) (T := TX2) (N := 6) hx hb hts iX2 hown hK hP 1 rfl rfl 4 (by decide) (va_Nw.use rfl (hN (.fieldLinkNest RX5 55 "HiddenPeriods$State" "length" "I" "HiddenPeriods") (by decide +kernel))) (fun _ h9 => h9) rfl dX5_withTold_18 ?_
        refine lv_icmp_ge (tgt := 56) hx hb dX5_withTold_21 (by decide) (fun cq => ?_) (fun cq => ?_)
        · replace h := ifp cq h
          cases h
          exact K _ _ _ hP hD hS (lv_sub hl [1] rfl)
        · replace h := ifn cq h
          refine lv_lload_n hx hb dX5_withTold_24 rfl (lv_at hl 1 rfl) ?_
          refine lv_aload_n hx hb dX5_withTold_25 rfl (lv_at hl 0 rfl) ?_
          refine lv_iload hx hb dX5_withTold_26 (lv_at hl 2 rfl) ?_
          refine lv_iconst (v := 0) hx hb dX5_withTold_28 (by decide) ?_
          obtain ⟨x1, hx1, h⟩ := bnd h
          refine pw_goi (wc := [(h5, .inr (5, [.ref h2, .ref h1, .ref h4, .ref h0, .ref h3])), (h2, .inr (2, [.ref h2_row, .ref h2_ten, .ref h2_pha, .ref h2_set, .int len, .int kep])), (h2_row, .inl (cI, 240, .inl row)), (h2_ten, .inl (cI, 4, .inl ten)), (h2_pha, .inl (cI, 4, .inl pha)), (h2_set, .inl (cI, 3, .inl set)), (h1, .inr (1, [.ref h1a, .int nex, .int man])), (h4, .inr (4, [.ref h4_cod, .ref h4_unf, .int tln])), (h4_cod, .inl (cI, 60, .inl cod)), (h4_unf, .inl (cI, 540, .inl unf)), (h0, .inr (0, [.ref h0_cel, .int cls])), (h0_cel, .inl (cI, 160, .inl cel)), (h3, .inr (3, [.ref h3_str])), (h3_str, .inl (cI, 160, .inl str))]) (w1 := [(h5, .inr (5, [.ref h2, .ref h1, .ref h4, .ref h0, .ref h3])), (h2, .inr (2, [.ref h2_row, .ref h2_ten, .ref h2_pha, .ref h2_set, .int len, .int kep])), (h2_row, .inl (cI, 240, .inl row)), (h2_ten, .inl (cI, 4, .inl ten)), (h2_pha, .inl (cI, 4, .inl pha)), (h2_set, .inl (cI, 3, .inl set)), (h1, .inr (1, [.ref h1a, .int nex, .int man])), (h4, .inr (4, [.ref h4_cod, .ref h4_unf, .int tln])), (h4_cod, .inl (cI, 60, .inl cod)), (h4_unf, .inl (cI, 540, .inl unf)), (h0, .inr (0, [.ref h0_cel, .int cls])), (h0_cel, .inl (cI, 160, .inl cel)), (h3, .inr (3, [.ref h3_str])), (h3_str, .inl (cI, 160, .inl str))]) (w2 := [(h5, .inr (5, [.ref h2, .ref h1, .ref h4, .ref h0, .ref h3])), (h2, .inr (2, [.ref h2_row, .ref h2_ten, .ref h2_pha, .ref h2_set, .int len, .int kep])), (h2_row, .inl (cI, 240, .inl row)), (h2_ten, .inl (cI, 4, .inl ten)), (h2_pha, .inl (cI, 4, .inl pha)), (h2_set, .inl (cI, 3, .inl set)), (h1, .inr (1, [.ref h1a, .int nex, .int man])), (h4, .inr (4, [.ref h4_cod, .ref h4_unf, .int tln])), (h4_cod, .inl (cI, 60, .inl cod)), (h4_unf, .inl (cI, 540, .inl unf)), (h0, .inr (0, [.ref h0_cel, .int cls])), (h0_cel, .inl (cI, 160, .inl cel)), (h3, .inr (3, [.ref h3_str])), (h3_str, .inl (cI, 160, .inl str))]) (va_runV (As := [.int v5_5, .int 0]) (rest := [.long v3_5]) ⟨hx, hb, hml, hown, hts⟩ (mX5_toldNumber l D cI cO cJ h5 h2 h2_row h2_ten h2_pha h2_set h1 h1a h4 h4_cod h4_unf h0 h0_cel h3 h3_str H.size row ten pha set len kep nex man cod unf tln cel cls str v5_5 0 _ hx1) (cwV 2 hts gX5_withTold_X5_toldNumber rfl rfl rfl (by decide +kernel) ⟨Nat.le_of_ble_eq_true rfl, Nat.le_of_ble_eq_true rfl⟩) (pw_preV hK hN (pw_sub hP [0, 1, 2, 3, 4, 5, 6, 7, 8, 9, 10, 11, 12, 13] rfl) (pw_subD hD [0, 1, 2, 3, 4, 5, 6, 7, 8, 9, 10, 11, 12, 13] (by decide) rfl) (ci := 5) (q0 := 0) rfl rfl) rfl rfl hl.1 rfl (lv_room (Nat.le_of_ble_eq_true rfl)) dX5_withTold_29 ⟨Nat.zero_le _, Nat.zero_le _⟩) hP hD hS hA [0, 1, 2, 3, 4, 5, 6, 7, 8, 9, 10, 11, 12, 13] [] [0, 1, 2, 3, 4, 5, 6, 7, 8, 9, 10, 11, 12, 13] rfl rfl (by decide) (by decide) (by decide) rfl (fun H locs hP hD hS => ?_)
          refine lv_i2l (v := x1.toInt64) hx hb dX5_withTold_32 rfl ?_
          obtain ⟨x2, hx2, h⟩ := bnd h
          refine pw_go0l (va_runS (As := [.long v3_5, .long x1.toInt64]) (rest := []) ⟨hx, hb, hml, hown, hts⟩ (mX5_with l D cI cO cJ H.size v3_5 x1.toInt64 _ hx2) (va_cwS 2 hts gX5_withTold_X5_with rfl rfl rfl (by decide +kernel) ⟨Nat.le_of_ble_eq_true rfl, Nat.le_of_ble_eq_true rfl⟩) (pw_preS hK hN pw_nilP (pw_nilD (A := A))) rfl rfl hl.1 rfl (lv_room (Nat.le_of_ble_eq_true rfl)) dX5_withTold_33 ⟨Nat.zero_le _, Nat.zero_le _⟩) hP hS hA (fun H locs hP hS => ?_)
          refine lv_lstore_n (lv' := [(3, .long x2), (0, .ref h5), (5, .int v5_5)]) hx hb dX5_withTold_36 rfl hl (by decide) rfl (fun ls hl => ?_)
          refine lv_lload_n hx hb dX5_withTold_37 rfl (lv_at hl 0 rfl) ?_
          refine lv_aload_n hx hb dX5_withTold_38 rfl (lv_at hl 1 rfl) ?_
          refine lv_iload hx hb dX5_withTold_39 (lv_at hl 2 rfl) ?_
          refine lv_iconst (v := 1) hx hb dX5_withTold_41 (by decide) ?_
          obtain ⟨x3, hx3, h⟩ := bnd h
          refine pw_goi (wc := [(h5, .inr (5, [.ref h2, .ref h1, .ref h4, .ref h0, .ref h3])), (h2, .inr (2, [.ref h2_row, .ref h2_ten, .ref h2_pha, .ref h2_set, .int len, .int kep])), (h2_row, .inl (cI, 240, .inl row)), (h2_ten, .inl (cI, 4, .inl ten)), (h2_pha, .inl (cI, 4, .inl pha)), (h2_set, .inl (cI, 3, .inl set)), (h1, .inr (1, [.ref h1a, .int nex, .int man])), (h4, .inr (4, [.ref h4_cod, .ref h4_unf, .int tln])), (h4_cod, .inl (cI, 60, .inl cod)), (h4_unf, .inl (cI, 540, .inl unf)), (h0, .inr (0, [.ref h0_cel, .int cls])), (h0_cel, .inl (cI, 160, .inl cel)), (h3, .inr (3, [.ref h3_str])), (h3_str, .inl (cI, 160, .inl str))]) (w1 := [(h5, .inr (5, [.ref h2, .ref h1, .ref h4, .ref h0, .ref h3])), (h2, .inr (2, [.ref h2_row, .ref h2_ten, .ref h2_pha, .ref h2_set, .int len, .int kep])), (h2_row, .inl (cI, 240, .inl row)), (h2_ten, .inl (cI, 4, .inl ten)), (h2_pha, .inl (cI, 4, .inl pha)), (h2_set, .inl (cI, 3, .inl set)), (h1, .inr (1, [.ref h1a, .int nex, .int man])), (h4, .inr (4, [.ref h4_cod, .ref h4_unf, .int tln])), (h4_cod, .inl (cI, 60, .inl cod)), (h4_unf, .inl (cI, 540, .inl unf)), (h0, .inr (0, [.ref h0_cel, .int cls])), (h0_cel, .inl (cI, 160, .inl cel)), (h3, .inr (3, [.ref h3_str])), (h3_str, .inl (cI, 160, .inl str))]) (w2 := [(h5, .inr (5, [.ref h2, .ref h1, .ref h4, .ref h0, .ref h3])), (h2, .inr (2, [.ref h2_row, .ref h2_ten, .ref h2_pha, .ref h2_set, .int len, .int kep])), (h2_row, .inl (cI, 240, .inl row)), (h2_ten, .inl (cI, 4, .inl ten)), (h2_pha, .inl (cI, 4, .inl pha)), (h2_set, .inl (cI, 3, .inl set)), (h1, .inr (1, [.ref h1a, .int nex, .int man])), (h4, .inr (4, [.ref h4_cod, .ref h4_unf, .int tln])), (h4_cod, .inl (cI, 60, .inl cod)), (h4_unf, .inl (cI, 540, .inl unf)), (h0, .inr (0, [.ref h0_cel, .int cls])), (h0_cel, .inl (cI, 160, .inl cel)), (h3, .inr (3, [.ref h3_str])), (h3_str, .inl (cI, 160, .inl str))]) (va_runV (As := [.int v5_5, .int 1]) (rest := [.long x2]) ⟨hx, hb, hml, hown, hts⟩ (mX5_toldNumber l D cI cO cJ h5 h2 h2_row h2_ten h2_pha h2_set h1 h1a h4 h4_cod h4_unf h0 h0_cel h3 h3_str H.size row ten pha set len kep nex man cod unf tln cel cls str v5_5 1 _ hx3) (cwV 2 hts gX5_withTold_X5_toldNumber rfl rfl rfl (by decide +kernel) ⟨Nat.le_of_ble_eq_true rfl, Nat.le_of_ble_eq_true rfl⟩) (pw_preV hK hN (pw_sub hP [0, 1, 2, 3, 4, 5, 6, 7, 8, 9, 10, 11, 12, 13] rfl) (pw_subD hD [0, 1, 2, 3, 4, 5, 6, 7, 8, 9, 10, 11, 12, 13] (by decide) rfl) (ci := 5) (q0 := 0) rfl rfl) rfl rfl hl.1 rfl (lv_room (Nat.le_of_ble_eq_true rfl)) dX5_withTold_42 ⟨Nat.zero_le _, Nat.zero_le _⟩) hP hD hS hA [0, 1, 2, 3, 4, 5, 6, 7, 8, 9, 10, 11, 12, 13] [] [0, 1, 2, 3, 4, 5, 6, 7, 8, 9, 10, 11, 12, 13] rfl rfl (by decide) (by decide) (by decide) rfl (fun H locs hP hD hS => ?_)
          refine lv_i2l (v := x3.toInt64) hx hb dX5_withTold_45 rfl ?_
          obtain ⟨x4, hx4, h⟩ := bnd h
          refine pw_go0l (va_runS (As := [.long x2, .long x3.toInt64]) (rest := []) ⟨hx, hb, hml, hown, hts⟩ (mX5_with l D cI cO cJ H.size x2 x3.toInt64 _ hx4) (va_cwS 2 hts gX5_withTold_X5_with rfl rfl rfl (by decide +kernel) ⟨Nat.le_of_ble_eq_true rfl, Nat.le_of_ble_eq_true rfl⟩) (pw_preS hK hN pw_nilP (pw_nilD (A := A))) rfl rfl hl.1 rfl (lv_room (Nat.le_of_ble_eq_true rfl)) dX5_withTold_46 ⟨Nat.zero_le _, Nat.zero_le _⟩) hP hS hA (fun H locs hP hS => ?_)
          refine lv_lstore_n (lv' := [(3, .long x4), (0, .ref h5), (5, .int v5_5)]) hx hb dX5_withTold_49 rfl hl (by decide) rfl (fun ls hl => ?_)
          refine lv_iinc (v := (v5_5 + 1)) (lv' := [(5, .int (v5_5 + 1)), (3, .long x4), (0, .ref h5)]) hx hb dX5_withTold_50 hl (k := 2) rfl rfl (by decide) rfl (fun ls hl => ?_)
          refine lv_goto (tgt := 5) hx hb dX5_withTold_53 (by decide) ?_
          exact ih _ _ _ _ _ _ h hP hD hS (lv_sub hl [2, 1, 0] rfl) K
  obtain ⟨x5, hx5, h⟩ := bnd h
  refine L5 FU _ _ _ _ _ _ hx5 hP hD hS (lv_sub hl [2, 1, 0] rfl) (fun H locs ls hP hD hS hl => ?_)
  refine lv_lload_n hx hb dX5_withTold_56 rfl (lv_at hl 0 rfl) ?_
  cases h
  exact pw_lret hx hb hr hlocks hAe hQ hP hD hS dX5_withTold_57
def fX5_bitsOf_L18 : Nat → UInt64 → Int64 → Int32 → Option (UInt64 × Int64)
  | 0, _, _, _ => none
  | n + 1, v2_18, v4_18, v6_18 =>
    if 1000 ≤ v6_18 then
    some (v2_18, v4_18)
    else
    if 0 ≤ (Op.cmpValue (FP.dcmp v2_18 FP.dconst1) CmpOp.g) then
    some (v2_18, v4_18)
    else
    if ¬ ((FP.dmul v2_18 4611686018427387904) &&& 0x7fffffffffffffff ≤ 0x7ff0000000000000) then none else
    fX5_bitsOf_L18 n (FP.dmul v2_18 4611686018427387904) (v4_18 - 1) (v6_18 + 1)
def fX5_bitsOf (a1 : UInt64) : Option Int64 :=
  if 0 < (Op.cmpValue (FP.dcmp a1 FP.dconst0) CmpOp.g) then
  (fX5_bitsOf_L18 FU a1 1023 0).bind fun (x2_1, x2_2) =>
  if ¬ ((FP.dsub x2_1 FP.dconst1) &&& 0x7fffffffffffffff ≤ 0x7ff0000000000000) then none else
  if ¬ ((FP.dmul (FP.dsub x2_1 FP.dconst1) 4841369599423283200) &&& 0x7fffffffffffffff ≤ 0x7ff0000000000000) then none else
  some ((x2_2 <<< ((52 : Int32).toInt64 &&& 63)) + (FP.d2l (FP.dmul (FP.dsub x2_1 FP.dconst1) 4841369599423283200)))
  else
  some 0
abbrev rmX5_bitsOf : Room := { frames := 0, cells := 0, slots := 0, locals := 0 }
set_option maxHeartbeats 4000000 in
set_option maxRecDepth 100000 in
theorem mX5_bitsOf (l : Launch) (D : va_G) (cI cO cJ : ClassId) (sz : Nat) (a1 : UInt64) (z : Int64) (h : fX5_bitsOf a1 = some z) : Met l yX5_bitsOf wsX5_bitsOf rmX5_bitsOf (pw_pre D (tyL cI cO cJ) [.double a1] [] sz) (pw_l D [] [] z sz) 0 0 (va_A [] sz) := by
  refine pw_of (Qc := fun sz => pw_l D [] [] z sz) (cc := cX5_bitsOf) (maxL := 7) (ret := (some .long)) (by decide) rfl (Nat.le_of_ble_eq_true rfl) ?_
  intro p e s m args below meth c A Q H ls hx hb hml hr hts hown hlocks hAe hQ hK hN hA hP hD hS hl
  have hown : s.vm.findClass RX5 = some m.cls := hown
  have hl : lv_has ls 7 [(0, .double a1)] := hl
  unfold fX5_bitsOf at h
  refine lv_dload_n hx hb dX5_bitsOf_0 rfl (lv_at hl 0 rfl) ?_
  refine lv_dconst0 hx hb dX5_bitsOf_1 ?_
  refine lv_dcmp hx hb dX5_bitsOf_2 ?_
  refine lv_if_gt (tgt := 8) hx hb dX5_bitsOf_3 (by decide) (fun cq => ?_) (fun cq => ?_)
  · replace h := ifp cq h
    refine lv_dload_n hx hb dX5_bitsOf_8 rfl (lv_at hl 0 rfl) ?_
    refine lv_dstore_n (lv' := [(2, .double a1), (0, .double a1)]) hx hb dX5_bitsOf_9 rfl hl (by decide) rfl (fun ls hl => ?_)
    refine lv_ldc2 (v := 1023) hx hb hown (hts (.constantLong RX5 302 (1023)) (by decide +kernel)) dX5_bitsOf_10 ?_
    refine lv_lstore (lv' := [(4, .long 1023), (2, .double a1), (0, .double a1)]) hx hb dX5_bitsOf_13 hl (by decide) rfl (fun ls hl => ?_)
    refine lv_iconst (v := 0) hx hb dX5_bitsOf_15 (by decide) ?_
    refine lv_istore (lv' := [(6, .int 0), (4, .long 1023), (2, .double a1), (0, .double a1)]) hx hb dX5_bitsOf_16 hl (by decide) rfl (fun ls hl => ?_)
    have L18 : ∀ (n : Nat) (v2_18 : UInt64) (v4_18 : Int64) (v6_18 : Int32) (o18_1 : UInt64) (o18_2 : Int64) (H : Heap) (locs : List Loc) (ls : Array Slot), fX5_bitsOf_L18 n v2_18 v4_18 v6_18 = some (o18_1, o18_2) → va_P D vwCl ([] ++ []) H → va_D A ([] ++ []) → va_S A s.heap H locs → lv_has ls 7 [(2, .double v2_18), (4, .long v4_18), (6, .int v6_18)] → (∀ (H : Heap) (locs : List Loc) (ls : Array Slot), va_P D vwCl ([] ++ []) H → va_D A ([] ++ []) → va_S A s.heap H locs → lv_has ls 7 [(2, .double o18_1), (4, .long o18_2)] → W p l e rmX5_bitsOf s m args below meth c H locs 0 0 Q (F0 m 50 ls [])) → W p l e rmX5_bitsOf s m args below meth c H locs 0 0 Q (F0 m 18 ls []) := by
      intro n
      induction n with
      | zero =>
        intro v2_18 v4_18 v6_18 o18_1 o18_2 H locs ls h
        rw [fX5_bitsOf_L18] at h
        cases h
      | succ n ih =>
        intro v2_18 v4_18 v6_18 o18_1 o18_2 H locs ls h hP hD hS hl K
        rw [fX5_bitsOf_L18] at h
        refine lv_iload hx hb dX5_bitsOf_18 (lv_at hl 2 rfl) ?_
        refine lv_sipush (v := 1000) hx hb dX5_bitsOf_20 (by decide) ?_
        refine lv_icmp_ge (tgt := 50) hx hb dX5_bitsOf_23 (by decide) (fun cq => ?_) (fun cq => ?_)
        · replace h := ifp cq h
          cases h
          exact K _ _ _ hP hD hS (lv_sub hl [0, 1] rfl)
        · replace h := ifn cq h
          refine lv_dload_n hx hb dX5_bitsOf_26 rfl (lv_at hl 0 rfl) ?_
          refine lv_dconst1 hx hb dX5_bitsOf_27 ?_
          refine lv_dcmp hx hb dX5_bitsOf_28 ?_
          refine lv_if_ge (tgt := 50) hx hb dX5_bitsOf_29 (by decide) (fun cq => ?_) (fun cq => ?_)
          · replace h := ifp cq h
            cases h
            exact K _ _ _ hP hD hS (lv_sub hl [0, 1] rfl)
          · replace h := ifn cq h
            refine lv_dload_n hx hb dX5_bitsOf_32 rfl (lv_at hl 0 rfl) ?_
            refine lv_ldc2d (v := 4611686018427387904) hx hb hown (hts (.constantDouble RX5 304 (4611686018427387904)) (by decide +kernel)) dX5_bitsOf_33 ?_
            obtain ⟨g1, h⟩ := gdn h
            replace g1 := Decidable.not_not.mp g1
            refine lv_dmul hx hb dX5_bitsOf_36 g1 ?_
            refine lv_dstore_n (lv' := [(2, .double (FP.dmul v2_18 4611686018427387904)), (4, .long v4_18), (6, .int v6_18)]) hx hb dX5_bitsOf_37 rfl hl (by decide) rfl (fun ls hl => ?_)
            refine lv_lload hx hb dX5_bitsOf_38 (lv_at hl 1 rfl) ?_
            refine lv_lconst (v := 1) hx hb dX5_bitsOf_40 (by decide) ?_
            refine lv_lsub hx hb dX5_bitsOf_41 ?_
            refine lv_lstore (lv' := [(4, .long (v4_18 - 1)), (2, .double (FP.dmul v2_18 4611686018427387904)), (6, .int v6_18)]) hx hb dX5_bitsOf_42 hl (by decide) rfl (fun ls hl => ?_)
            refine lv_iinc (v := (v6_18 + 1)) (lv' := [(6, .int (v6_18 + 1)), (4, .long (v4_18 - 1)), (2, .double (FP.dmul v2_18 4611686018427387904))]) hx hb dX5_bitsOf_44 hl (k := 2) rfl rfl (by decide) rfl (fun ls hl => ?_)
            refine lv_goto (tgt := 18) hx hb dX5_bitsOf_47 (by decide) ?_
            exact ih _ _ _ _ _ _ _ _ h hP hD hS (lv_sub hl [2, 1, 0] rfl) K
    obtain ⟨⟨x2_1, x2_2⟩, hx2, h⟩ := bnd h
    refine L18 FU _ _ _ _ _ _ _ _ hx2 hP hD hS (lv_sub hl [2, 1, 0] rfl) (fun H locs ls hP hD hS hl => ?_)
    refine lv_lload hx hb dX5_bitsOf_50 (lv_at hl 1 rfl) ?_
    refine lv_bipush (v := 52) hx hb dX5_bitsOf_52 (by decide) ?_
    refine lv_lshl (v := (x2_2 <<< ((52 : Int32).toInt64 &&& 63))) hx hb dX5_bitsOf_54 rfl ?_
    refine lv_dload_n hx hb dX5_bitsOf_55 rfl (lv_at hl 0 rfl) ?_
    refine lv_dconst1 hx hb dX5_bitsOf_56 ?_
    obtain ⟨g3, h⟩ := gdn h
    replace g3 := Decidable.not_not.mp g3
    refine lv_dsub hx hb dX5_bitsOf_57 g3 ?_
    refine lv_ldc2d (v := 4841369599423283200) hx hb hown (hts (.constantDouble RX5 306 (4841369599423283200)) (by decide +kernel)) dX5_bitsOf_58 ?_
    obtain ⟨g4, h⟩ := gdn h
    replace g4 := Decidable.not_not.mp g4
    refine lv_dmul hx hb dX5_bitsOf_61 g4 ?_
    refine lv_d2l hx hb dX5_bitsOf_62 ?_
    refine lv_ladd hx hb dX5_bitsOf_63 ?_
    cases h
    exact pw_lret hx hb hr hlocks hAe hQ hP hD hS dX5_bitsOf_64
  · replace h := ifn cq h
    refine lv_lconst (v := 0) hx hb dX5_bitsOf_6 (by decide) ?_
    cases h
    exact pw_lret hx hb hr hlocks hAe hQ hP hD hS dX5_bitsOf_7
def fX5_withText_L16 (cod : Nat → Int32) (tln : Int32) : Nat → Int64 → Int32 → Option Int64
  | 0, _, _ => none
  | n + 1, v3_16, v5_16 =>
    if tln ≤ v5_16 then
    some v3_16
    else
    (fX4_codeAt cod v5_16).bind fun x2 =>
    (fX5_with v3_16 x2.toInt64).bind fun x3 =>
    fX5_withText_L16 cod tln n x3 (v5_16 + 1)
def fX5_withText (cod : Nat → Int32) (tln : Int32) (a1 : Int64) : Option Int64 :=
  (fX5_with a1 tln.toInt64).bind fun x1 =>
  (fX5_withText_L16 cod tln FU x1 0).bind fun x4 =>
  some x4
abbrev rmX5_withText : Room := { frames := 2, cells := 0, slots := 0, locals := 42 }
set_option maxHeartbeats 4000000 in
set_option maxRecDepth 100000 in
theorem mX5_withText (l : Launch) (D : va_G) (cI cO cJ : ClassId) (h5 h2 h2_row h2_ten h2_pha h2_set h1 h1a h4 h4_cod h4_unf h0 h0_cel h3 h3_str : Nat) (sz : Nat) (row : Nat → Int32) (ten : Nat → Int32) (pha : Nat → Int32) (set : Nat → Int32) (len : Int32) (kep : Int32) (nex : Int32) (man : Int32) (cod : Nat → Int32) (unf : Nat → Int32) (tln : Int32) (cel : Nat → Int32) (cls : Int32) (str : Nat → Int32) (a1 : Int64) (z : Int64) (h : fX5_withText cod tln a1 = some z) : Met l yX5_withText wsX5_withText rmX5_withText (pw_pre D (tyL cI cO cJ) [.ref h5, .long a1] [(h5, .inr (5, [.ref h2, .ref h1, .ref h4, .ref h0, .ref h3])), (h2, .inr (2, [.ref h2_row, .ref h2_ten, .ref h2_pha, .ref h2_set, .int len, .int kep])), (h2_row, .inl (cI, 240, .inl row)), (h2_ten, .inl (cI, 4, .inl ten)), (h2_pha, .inl (cI, 4, .inl pha)), (h2_set, .inl (cI, 3, .inl set)), (h1, .inr (1, [.ref h1a, .int nex, .int man])), (h4, .inr (4, [.ref h4_cod, .ref h4_unf, .int tln])), (h4_cod, .inl (cI, 60, .inl cod)), (h4_unf, .inl (cI, 540, .inl unf)), (h0, .inr (0, [.ref h0_cel, .int cls])), (h0_cel, .inl (cI, 160, .inl cel)), (h3, .inr (3, [.ref h3_str])), (h3_str, .inl (cI, 160, .inl str))] sz) (pw_l D [(h5, .inr (5, [.ref h2, .ref h1, .ref h4, .ref h0, .ref h3])), (h2, .inr (2, [.ref h2_row, .ref h2_ten, .ref h2_pha, .ref h2_set, .int len, .int kep])), (h2_row, .inl (cI, 240, .inl row)), (h2_ten, .inl (cI, 4, .inl ten)), (h2_pha, .inl (cI, 4, .inl pha)), (h2_set, .inl (cI, 3, .inl set)), (h1, .inr (1, [.ref h1a, .int nex, .int man])), (h4, .inr (4, [.ref h4_cod, .ref h4_unf, .int tln])), (h4_cod, .inl (cI, 60, .inl cod)), (h4_unf, .inl (cI, 540, .inl unf)), (h0, .inr (0, [.ref h0_cel, .int cls])), (h0_cel, .inl (cI, 160, .inl cel)), (h3, .inr (3, [.ref h3_str])), (h3_str, .inl (cI, 160, .inl str))] [(h5, .inr (5, [.ref h2, .ref h1, .ref h4, .ref h0, .ref h3])), (h2, .inr (2, [.ref h2_row, .ref h2_ten, .ref h2_pha, .ref h2_set, .int len, .int kep])), (h2_row, .inl (cI, 240, .inl row)), (h2_ten, .inl (cI, 4, .inl ten)), (h2_pha, .inl (cI, 4, .inl pha)), (h2_set, .inl (cI, 3, .inl set)), (h1, .inr (1, [.ref h1a, .int nex, .int man])), (h4, .inr (4, [.ref h4_cod, .ref h4_unf, .int tln])), (h4_cod, .inl (cI, 60, .inl cod)), (h4_unf, .inl (cI, 540, .inl unf)), (h0, .inr (0, [.ref h0_cel, .int cls])), (h0_cel, .inl (cI, 160, .inl cel)), (h3, .inr (3, [.ref h3_str])), (h3_str, .inl (cI, 160, .inl str))] z sz) 0 0 (va_A [(h5, .inr (5, [.ref h2, .ref h1, .ref h4, .ref h0, .ref h3])), (h2, .inr (2, [.ref h2_row, .ref h2_ten, .ref h2_pha, .ref h2_set, .int len, .int kep])), (h2_row, .inl (cI, 240, .inl row)), (h2_ten, .inl (cI, 4, .inl ten)), (h2_pha, .inl (cI, 4, .inl pha)), (h2_set, .inl (cI, 3, .inl set)), (h1, .inr (1, [.ref h1a, .int nex, .int man])), (h4, .inr (4, [.ref h4_cod, .ref h4_unf, .int tln])), (h4_cod, .inl (cI, 60, .inl cod)), (h4_unf, .inl (cI, 540, .inl unf)), (h0, .inr (0, [.ref h0_cel, .int cls])), (h0_cel, .inl (cI, 160, .inl cel)), (h3, .inr (3, [.ref h3_str])), (h3_str, .inl (cI, 160, .inl str))] sz) := by
  refine pw_of (Qc := fun sz => pw_l D [(h5, .inr (5, [.ref h2, .ref h1, .ref h4, .ref h0, .ref h3])), (h2, .inr (2, [.ref h2_row, .ref h2_ten, .ref h2_pha, .ref h2_set, .int len, .int kep])), (h2_row, .inl (cI, 240, .inl row)), (h2_ten, .inl (cI, 4, .inl ten)), (h2_pha, .inl (cI, 4, .inl pha)), (h2_set, .inl (cI, 3, .inl set)), (h1, .inr (1, [.ref h1a, .int nex, .int man])), (h4, .inr (4, [.ref h4_cod, .ref h4_unf, .int tln])), (h4_cod, .inl (cI, 60, .inl cod)), (h4_unf, .inl (cI, 540, .inl unf)), (h0, .inr (0, [.ref h0_cel, .int cls])), (h0_cel, .inl (cI, 160, .inl cel)), (h3, .inr (3, [.ref h3_str])), (h3_str, .inl (cI, 160, .inl str))] [(h5, .inr (5, [.ref h2, .ref h1, .ref h4, .ref h0, .ref h3])), (h2, .inr (2, [.ref h2_row, .ref h2_ten, .ref h2_pha, .ref h2_set, .int len, .int kep])), (h2_row, .inl (cI, 240, .inl row)), (h2_ten, .inl (cI, 4, .inl ten)), (h2_pha, .inl (cI, 4, .inl pha)), (h2_set, .inl (cI, 3, .inl set)), (h1, .inr (1, [.ref h1a, .int nex, .int man])), (h4, .inr (4, [.ref h4_cod, .ref h4_unf, .int tln])), (h4_cod, .inl (cI, 60, .inl cod)), (h4_unf, .inl (cI, 540, .inl unf)), (h0, .inr (0, [.ref h0_cel, .int cls])), (h0_cel, .inl (cI, 160, .inl cel)), (h3, .inr (3, [.ref h3_str])), (h3_str, .inl (cI, 160, .inl str))] z sz) (cc := cX5_withText) (maxL := 6) (ret := (some .long)) (by decide) rfl (Nat.le_of_ble_eq_true rfl) ?_
  intro p e s m args below meth c A Q H ls hx hb hml hr hts hown hlocks hAe hQ hK hN hA hP hD hS hl
  have hown : s.vm.findClass RX5 = some m.cls := hown
  have hl : lv_has ls 6 [(0, .ref h5), (1, .long a1)] := hl
  have hP : va_P D vwCl ([(h5, .inr (5, [.ref h2, .ref h1, .ref h4, .ref h0, .ref h3])), (h2, .inr (2, [.ref h2_row, .ref h2_ten, .ref h2_pha, .ref h2_set, .int len, .int kep])), (h2_row, .inl (cI, 240, .inl row)), (h2_ten, .inl (cI, 4, .inl ten)), (h2_pha, .inl (cI, 4, .inl pha)), (h2_set, .inl (cI, 3, .inl set)), (h1, .inr (1, [.ref h1a, .int nex, .int man])), (h4, .inr (4, [.ref h4_cod, .ref h4_unf, .int tln])), (h4_cod, .inl (cI, 60, .inl cod)), (h4_unf, .inl (cI, 540, .inl unf)), (h0, .inr (0, [.ref h0_cel, .int cls])), (h0_cel, .inl (cI, 160, .inl cel)), (h3, .inr (3, [.ref h3_str])), (h3_str, .inl (cI, 160, .inl str))] ++ []) H := hP
  have hD : va_D A ([(h5, .inr (5, [.ref h2, .ref h1, .ref h4, .ref h0, .ref h3])), (h2, .inr (2, [.ref h2_row, .ref h2_ten, .ref h2_pha, .ref h2_set, .int len, .int kep])), (h2_row, .inl (cI, 240, .inl row)), (h2_ten, .inl (cI, 4, .inl ten)), (h2_pha, .inl (cI, 4, .inl pha)), (h2_set, .inl (cI, 3, .inl set)), (h1, .inr (1, [.ref h1a, .int nex, .int man])), (h4, .inr (4, [.ref h4_cod, .ref h4_unf, .int tln])), (h4_cod, .inl (cI, 60, .inl cod)), (h4_unf, .inl (cI, 540, .inl unf)), (h0, .inr (0, [.ref h0_cel, .int cls])), (h0_cel, .inl (cI, 160, .inl cel)), (h3, .inr (3, [.ref h3_str])), (h3_str, .inl (cI, 160, .inl str))] ++ []) := hD
  have iX4 : ∀ w ∈ u_ws RX4 TX4 3, w ∈ wsX5_withText := fun _ h => List.mem_cons_of_mem _ (List.mem_append_right _ h)
  have iX5 : ∀ w ∈ u_ws RX5 TX5 5, w ∈ wsX5_withText := fun _ h => List.mem_cons_of_mem _ (List.mem_append_left _ (List.mem_append_right _ h))
  unfold fX5_withText at h
  refine lv_lload_n hx hb dX5_withText_0 rfl (lv_at hl 1 rfl) ?_
  refine lv_aload_n hx hb dX5_withText_1 rfl (lv_at hl 0 rfl) ?_
  refine va_get (D := D) (ci := 5) (v := .ref h4) (C := RX5) (T := TX5) (N := 5) hx hb hts iX5 hown hK hP 0 rfl rfl 2 (by decide) (hts (.fieldLink RX5 26 "HiddenPeriods" "text" "LHiddenPeriods$Text;") (by decide +kernel)) (fun _ h9 => h9) rfl dX5_withText_2 ?_
  refine va_getN (D := D) (ci := 4) (v := .int tln) (C := RX4) (T := TX4) (N := 3) hx hb hts iX4 hown hK hP 7 rfl rfl 2 (by decide) (va_Nw.use rfl (hN (.fieldLinkNest RX5 176 "HiddenPeriods$Text" "length" "I" "HiddenPeriods") (by decide +kernel))) (fun _ h9 => h9) rfl dX5_withText_5 ?_
  refine lv_i2l (v := tln.toInt64) hx hb dX5_withText_8 rfl ?_
  obtain ⟨x1, hx1, h⟩ := bnd h
  refine pw_go0l (va_runS (As := [.long a1, .long tln.toInt64]) (rest := []) ⟨hx, hb, hml, hown, hts⟩ (mX5_with l D cI cO cJ H.size a1 tln.toInt64 _ hx1) (va_cwS 2 hts gX5_withText_X5_with rfl rfl rfl (by decide +kernel) ⟨Nat.le_of_ble_eq_true rfl, Nat.le_of_ble_eq_true rfl⟩) (pw_preS hK hN pw_nilP (pw_nilD (A := A))) rfl rfl hl.1 rfl (lv_room (Nat.le_of_ble_eq_true rfl)) dX5_withText_9 ⟨Nat.zero_le _, Nat.zero_le _⟩) hP hS hA (fun H locs hP hS => ?_)
  refine lv_lstore_n (lv' := [(3, .long x1), (0, .ref h5), (1, .long a1)]) hx hb dX5_withText_12 rfl hl (by decide) rfl (fun ls hl => ?_)
  refine lv_iconst (v := 0) hx hb dX5_withText_13 (by decide) ?_
  refine lv_istore (lv' := [(5, .int 0), (3, .long x1), (0, .ref h5), (1, .long a1)]) hx hb dX5_withText_14 hl (by decide) rfl (fun ls hl => ?_)
  have L16 : ∀ (n : Nat) (v3_16 : Int64) (v5_16 : Int32) (o16_1 : Int64) (H : Heap) (locs : List Loc) (ls : Array Slot), fX5_withText_L16 cod tln n v3_16 v5_16 = some o16_1 → va_P D vwCl ([(h5, .inr (5, [.ref h2, .ref h1, .ref h4, .ref h0, .ref h3])), (h2, .inr (2, [.ref h2_row, .ref h2_ten, .ref h2_pha, .ref h2_set, .int len, .int kep])), (h2_row, .inl (cI, 240, .inl row)), (h2_ten, .inl (cI, 4, .inl ten)), (h2_pha, .inl (cI, 4, .inl pha)), (h2_set, .inl (cI, 3, .inl set)), (h1, .inr (1, [.ref h1a, .int nex, .int man])), (h4, .inr (4, [.ref h4_cod, .ref h4_unf, .int tln])), (h4_cod, .inl (cI, 60, .inl cod)), (h4_unf, .inl (cI, 540, .inl unf)), (h0, .inr (0, [.ref h0_cel, .int cls])), (h0_cel, .inl (cI, 160, .inl cel)), (h3, .inr (3, [.ref h3_str])), (h3_str, .inl (cI, 160, .inl str))] ++ []) H → va_D A ([(h5, .inr (5, [.ref h2, .ref h1, .ref h4, .ref h0, .ref h3])), (h2, .inr (2, [.ref h2_row, .ref h2_ten, .ref h2_pha, .ref h2_set, .int len, .int kep])), (h2_row, .inl (cI, 240, .inl row)), (h2_ten, .inl (cI, 4, .inl ten)), (h2_pha, .inl (cI, 4, .inl pha)), (h2_set, .inl (cI, 3, .inl set)), (h1, .inr (1, [.ref h1a, .int nex, .int man])), (h4, .inr (4, [.ref h4_cod, .ref h4_unf, .int tln])), (h4_cod, .inl (cI, 60, .inl cod)), (h4_unf, .inl (cI, 540, .inl unf)), (h0, .inr (0, [.ref h0_cel, .int cls])), (h0_cel, .inl (cI, 160, .inl cel)), (h3, .inr (3, [.ref h3_str])), (h3_str, .inl (cI, 160, .inl str))] ++ []) → va_S A s.heap H locs → lv_has ls 6 [(0, .ref h5), (3, .long v3_16), (5, .int v5_16)] → (∀ (H : Heap) (locs : List Loc) (ls : Array Slot), va_P D vwCl ([(h5, .inr (5, [.ref h2, .ref h1, .ref h4, .ref h0, .ref h3])), (h2, .inr (2, [.ref h2_row, .ref h2_ten, .ref h2_pha, .ref h2_set, .int len, .int kep])), (h2_row, .inl (cI, 240, .inl row)), (h2_ten, .inl (cI, 4, .inl ten)), (h2_pha, .inl (cI, 4, .inl pha)), (h2_set, .inl (cI, 3, .inl set)), (h1, .inr (1, [.ref h1a, .int nex, .int man])), (h4, .inr (4, [.ref h4_cod, .ref h4_unf, .int tln])), (h4_cod, .inl (cI, 60, .inl cod)), (h4_unf, .inl (cI, 540, .inl unf)), (h0, .inr (0, [.ref h0_cel, .int cls])), (h0_cel, .inl (cI, 160, .inl cel)), (h3, .inr (3, [.ref h3_str])), (h3_str, .inl (cI, 160, .inl str))] ++ []) H → va_D A ([(h5, .inr (5, [.ref h2, .ref h1, .ref h4, .ref h0, .ref h3])), (h2, .inr (2, [.ref h2_row, .ref h2_ten, .ref h2_pha, .ref h2_set, .int len, .int kep])), (h2_row, .inl (cI, 240, .inl row)), (h2_ten, .inl (cI, 4, .inl ten)), (h2_pha, .inl (cI, 4, .inl pha)), (h2_set, .inl (cI, 3, .inl set)), (h1, .inr (1, [.ref h1a, .int nex, .int man])), (h4, .inr (4, [.ref h4_cod, .ref h4_unf, .int tln])), (h4_cod, .inl (cI, 60, .inl cod)), (h4_unf, .inl (cI, 540, .inl unf)), (h0, .inr (0, [.ref h0_cel, .int cls])), (h0_cel, .inl (cI, 160, .inl cel)), (h3, .inr (3, [.ref h3_str])), (h3_str, .inl (cI, 160, .inl str))] ++ []) → va_S A s.heap H locs → lv_has ls 6 [(3, .long o16_1)] → W p l e rmX5_withText s m args below meth c H locs 0 0 Q (F0 m 49 ls [])) → W p l e rmX5_withText s m args below meth c H locs 0 0 Q (F0 m 16 ls []) := by
    intro n
    induction n with
    | zero =>
      intro v3_16 v5_16 o16_1 H locs ls h
      rw [fX5_withText_L16] at h
      cases h
    | succ n ih =>
      intro v3_16 v5_16 o16_1 H locs ls h hP hD hS hl K
      rw [fX5_withText_L16] at h
      refine lv_iload hx hb dX5_withText_16 (lv_at hl 2 rfl) ?_
      refine lv_aload_n hx hb dX5_withText_18 rfl (lv_at hl 0 rfl) ?_
      refine va_get (D := D) (ci := 5) (v := .ref h4) (C := RX5) (T := TX5) (N := 5) hx hb hts iX5 hown hK hP 0 rfl rfl 2 (by decide) (hts (.fieldLink RX5 26 "HiddenPeriods" "text" "LHiddenPeriods$Text;") (by decide +kernel)) (fun _ h9 => h9) rfl dX5_withText_19 ?_
      refine va_getN (D := D) (ci := 4) (v := .int tln) (C := RX4) (T := TX4) (N := 3) hx hb hts iX4 hown hK hP 7 rfl rfl 2 (by decide) (va_Nw.use rfl (hN (.fieldLinkNest RX5 176 "HiddenPeriods$Text" "length" "I" "HiddenPeriods") (by decide +kernel))) (fun _ h9 => h9) rfl dX5_withText_22 ?_
      refine lv_icmp_ge (tgt := 49) hx hb dX5_withText_25 (by decide) (fun cq => ?_) (fun cq => ?_)
      · replace h := ifp cq h
        cases h
        exact K _ _ _ hP hD hS (lv_sub hl [1] rfl)
      · replace h := ifn cq h
        refine lv_lload_n hx hb dX5_withText_28 rfl (lv_at hl 1 rfl) ?_
        refine lv_aload_n hx hb dX5_withText_29 rfl (lv_at hl 0 rfl) ?_
        refine va_get (D := D) (ci := 5) (v := .ref h4) (C := RX5) (T := TX5) (N := 5) hx hb hts iX5 hown hK hP 0 rfl rfl 2 (by decide) (hts (.fieldLink RX5 26 "HiddenPeriods" "text" "LHiddenPeriods$Text;") (by decide +kernel)) (fun _ h9 => h9) rfl dX5_withText_30 ?_
        refine lv_iload hx hb dX5_withText_33 (lv_at hl 2 rfl) ?_
        obtain ⟨x2, hx2, h⟩ := bnd h
        refine pw_goi (wc := [(h4, .inr (4, [.ref h4_cod, .ref h4_unf, .int tln])), (h4_cod, .inl (cI, 60, .inl cod)), (h4_unf, .inl (cI, 540, .inl unf))]) (w1 := [(h4, .inr (4, [.ref h4_cod, .ref h4_unf, .int tln])), (h4_cod, .inl (cI, 60, .inl cod)), (h4_unf, .inl (cI, 540, .inl unf))]) (w2 := [(h5, .inr (5, [.ref h2, .ref h1, .ref h4, .ref h0, .ref h3])), (h2, .inr (2, [.ref h2_row, .ref h2_ten, .ref h2_pha, .ref h2_set, .int len, .int kep])), (h2_row, .inl (cI, 240, .inl row)), (h2_ten, .inl (cI, 4, .inl ten)), (h2_pha, .inl (cI, 4, .inl pha)), (h2_set, .inl (cI, 3, .inl set)), (h1, .inr (1, [.ref h1a, .int nex, .int man])), (h4, .inr (4, [.ref h4_cod, .ref h4_unf, .int tln])), (h4_cod, .inl (cI, 60, .inl cod)), (h4_unf, .inl (cI, 540, .inl unf)), (h0, .inr (0, [.ref h0_cel, .int cls])), (h0_cel, .inl (cI, 160, .inl cel)), (h3, .inr (3, [.ref h3_str])), (h3_str, .inl (cI, 160, .inl str))]) (va_runV (As := [.int v5_16]) (rest := [.long v3_16]) ⟨hx, hb, hml, hown, hts⟩ (mX4_codeAt l D cI cO cJ h4 h4_cod h4_unf H.size cod unf tln v5_16 _ hx2) (cwV 1 hts gX5_withText_X4_codeAt rfl rfl rfl (by decide +kernel) ⟨Nat.le_of_ble_eq_true rfl, Nat.le_of_ble_eq_true rfl⟩) (pw_preV hK hN (pw_sub hP [7, 8, 9] rfl) (pw_subD hD [7, 8, 9] (by decide) rfl) (ci := 4) (q0 := 0) rfl rfl) rfl rfl hl.1 rfl (lv_room (Nat.le_of_ble_eq_true rfl)) dX5_withText_35 ⟨Nat.zero_le _, Nat.zero_le _⟩) hP hD hS hA [7, 8, 9] [0, 1, 2, 3, 4, 5, 6, 10, 11, 12, 13] [0, 1, 2, 3, 4, 5, 6, 11, 12, 13, 7, 8, 9, 10] rfl rfl (by decide) (by decide) (by decide) rfl (fun H locs hP hD hS => ?_)
        refine lv_i2l (v := x2.toInt64) hx hb dX5_withText_38 rfl ?_
        obtain ⟨x3, hx3, h⟩ := bnd h
        refine pw_go0l (va_runS (As := [.long v3_16, .long x2.toInt64]) (rest := []) ⟨hx, hb, hml, hown, hts⟩ (mX5_with l D cI cO cJ H.size v3_16 x2.toInt64 _ hx3) (va_cwS 2 hts gX5_withText_X5_with rfl rfl rfl (by decide +kernel) ⟨Nat.le_of_ble_eq_true rfl, Nat.le_of_ble_eq_true rfl⟩) (pw_preS hK hN pw_nilP (pw_nilD (A := A))) rfl rfl hl.1 rfl (lv_room (Nat.le_of_ble_eq_true rfl)) dX5_withText_39 ⟨Nat.zero_le _, Nat.zero_le _⟩) hP hS hA (fun H locs hP hS => ?_)
        refine lv_lstore_n (lv' := [(3, .long x3), (0, .ref h5), (5, .int v5_16)]) hx hb dX5_withText_42 rfl hl (by decide) rfl (fun ls hl => ?_)
        refine lv_iinc (v := (v5_16 + 1)) (lv' := [(5, .int (v5_16 + 1)), (3, .long x3), (0, .ref h5)]) hx hb dX5_withText_43 hl (k := 2) rfl rfl (by decide) rfl (fun ls hl => ?_)
        refine lv_goto (tgt := 16) hx hb dX5_withText_46 (by decide) ?_
        exact ih _ _ _ _ _ _ h hP hD hS (lv_sub hl [2, 1, 0] rfl) K
  obtain ⟨x4, hx4, h⟩ := bnd h
  refine L16 FU _ _ _ _ _ _ hx4 hP hD hS (lv_sub hl [2, 1, 0] rfl) (fun H locs ls hP hD hS hl => ?_)
  refine lv_lload_n hx hb dX5_withText_49 rfl (lv_at hl 0 rfl) ?_
  cases h
  exact pw_lret hx hb hr hlocks hAe hQ hP hD hS dX5_withText_50
def fX6_thrown (thr : Int32) : Option Int32 :=
  some thr
abbrev rmX6_thrown : Room := { frames := 0, cells := 0, slots := 0, locals := 0 }
set_option maxHeartbeats 4000000 in
set_option maxRecDepth 100000 in
theorem mX6_thrown (l : Launch) (D : va_G) (cI cO cJ : ClassId) (h6 h6_ms h6_mv h6_mb h6_mc h6_mg h6_mt h6_ml h6_mr : Nat) (sz : Nat) (thr : Int32) (ms : Nat → Int32) (mv : Nat → Int32) (svm : Int32) (mb : Nat → Int32) (mln : Int32) (mc : Nat → Int32) (mg : Nat → Int32) (mt : Nat → Int32) (ml : Nat → Int32) (mat : Int32) (wel : Int32) (mr : Nat → Int32) (rdm : Int32) (hsh : Int64) (z : Int32) (h : fX6_thrown thr = some z) : Met l yX6_thrown wsX6_thrown rmX6_thrown (pw_pre D (tyL cI cO cJ) [.ref h6] [(h6, .inr (6, [.int thr, .ref h6_ms, .ref h6_mv, .int svm, .ref h6_mb, .int mln, .ref h6_mc, .ref h6_mg, .ref h6_mt, .ref h6_ml, .int mat, .int wel, .ref h6_mr, .int rdm, .long hsh])), (h6_ms, .inl (cI, 253, .inl ms)), (h6_mv, .inl (cI, 1518, .inl mv)), (h6_mb, .inl (cI, 60, .inl mb)), (h6_mc, .inl (cI, 160, .inl mc)), (h6_mg, .inl (cI, 160, .inl mg)), (h6_mt, .inl (cI, 240, .inl mt)), (h6_ml, .inl (cI, 240, .inl ml)), (h6_mr, .inl (cI, 600, .inl mr))] sz) (pw_i D [(h6, .inr (6, [.int thr, .ref h6_ms, .ref h6_mv, .int svm, .ref h6_mb, .int mln, .ref h6_mc, .ref h6_mg, .ref h6_mt, .ref h6_ml, .int mat, .int wel, .ref h6_mr, .int rdm, .long hsh])), (h6_ms, .inl (cI, 253, .inl ms)), (h6_mv, .inl (cI, 1518, .inl mv)), (h6_mb, .inl (cI, 60, .inl mb)), (h6_mc, .inl (cI, 160, .inl mc)), (h6_mg, .inl (cI, 160, .inl mg)), (h6_mt, .inl (cI, 240, .inl mt)), (h6_ml, .inl (cI, 240, .inl ml)), (h6_mr, .inl (cI, 600, .inl mr))] [(h6, .inr (6, [.int thr, .ref h6_ms, .ref h6_mv, .int svm, .ref h6_mb, .int mln, .ref h6_mc, .ref h6_mg, .ref h6_mt, .ref h6_ml, .int mat, .int wel, .ref h6_mr, .int rdm, .long hsh])), (h6_ms, .inl (cI, 253, .inl ms)), (h6_mv, .inl (cI, 1518, .inl mv)), (h6_mb, .inl (cI, 60, .inl mb)), (h6_mc, .inl (cI, 160, .inl mc)), (h6_mg, .inl (cI, 160, .inl mg)), (h6_mt, .inl (cI, 240, .inl mt)), (h6_ml, .inl (cI, 240, .inl ml)), (h6_mr, .inl (cI, 600, .inl mr))] z sz) 0 0 (va_A [(h6, .inr (6, [.int thr, .ref h6_ms, .ref h6_mv, .int svm, .ref h6_mb, .int mln, .ref h6_mc, .ref h6_mg, .ref h6_mt, .ref h6_ml, .int mat, .int wel, .ref h6_mr, .int rdm, .long hsh])), (h6_ms, .inl (cI, 253, .inl ms)), (h6_mv, .inl (cI, 1518, .inl mv)), (h6_mb, .inl (cI, 60, .inl mb)), (h6_mc, .inl (cI, 160, .inl mc)), (h6_mg, .inl (cI, 160, .inl mg)), (h6_mt, .inl (cI, 240, .inl mt)), (h6_ml, .inl (cI, 240, .inl ml)), (h6_mr, .inl (cI, 600, .inl mr))] sz) := by
  refine pw_of (Qc := fun sz => pw_i D [(h6, .inr (6, [.int thr, .ref h6_ms, .ref h6_mv, .int svm, .ref h6_mb, .int mln, .ref h6_mc, .ref h6_mg, .ref h6_mt, .ref h6_ml, .int mat, .int wel, .ref h6_mr, .int rdm, .long hsh])), (h6_ms, .inl (cI, 253, .inl ms)), (h6_mv, .inl (cI, 1518, .inl mv)), (h6_mb, .inl (cI, 60, .inl mb)), (h6_mc, .inl (cI, 160, .inl mc)), (h6_mg, .inl (cI, 160, .inl mg)), (h6_mt, .inl (cI, 240, .inl mt)), (h6_ml, .inl (cI, 240, .inl ml)), (h6_mr, .inl (cI, 600, .inl mr))] [(h6, .inr (6, [.int thr, .ref h6_ms, .ref h6_mv, .int svm, .ref h6_mb, .int mln, .ref h6_mc, .ref h6_mg, .ref h6_mt, .ref h6_ml, .int mat, .int wel, .ref h6_mr, .int rdm, .long hsh])), (h6_ms, .inl (cI, 253, .inl ms)), (h6_mv, .inl (cI, 1518, .inl mv)), (h6_mb, .inl (cI, 60, .inl mb)), (h6_mc, .inl (cI, 160, .inl mc)), (h6_mg, .inl (cI, 160, .inl mg)), (h6_mt, .inl (cI, 240, .inl mt)), (h6_ml, .inl (cI, 240, .inl ml)), (h6_mr, .inl (cI, 600, .inl mr))] z sz) (cc := cX6_thrown) (maxL := 1) (ret := (some .int)) (by decide) rfl (Nat.le_of_ble_eq_true rfl) ?_
  intro p e s m args below meth c A Q H ls hx hb hml hr hts hown hlocks hAe hQ hK hN hA hP hD hS hl
  have hown : s.vm.findClass RX6 = some m.cls := hown
  have hl : lv_has ls 1 [(0, .ref h6)] := hl
  have hP : va_P D vwCl ([(h6, .inr (6, [.int thr, .ref h6_ms, .ref h6_mv, .int svm, .ref h6_mb, .int mln, .ref h6_mc, .ref h6_mg, .ref h6_mt, .ref h6_ml, .int mat, .int wel, .ref h6_mr, .int rdm, .long hsh])), (h6_ms, .inl (cI, 253, .inl ms)), (h6_mv, .inl (cI, 1518, .inl mv)), (h6_mb, .inl (cI, 60, .inl mb)), (h6_mc, .inl (cI, 160, .inl mc)), (h6_mg, .inl (cI, 160, .inl mg)), (h6_mt, .inl (cI, 240, .inl mt)), (h6_ml, .inl (cI, 240, .inl ml)), (h6_mr, .inl (cI, 600, .inl mr))] ++ []) H := hP
  have hD : va_D A ([(h6, .inr (6, [.int thr, .ref h6_ms, .ref h6_mv, .int svm, .ref h6_mb, .int mln, .ref h6_mc, .ref h6_mg, .ref h6_mt, .ref h6_ml, .int mat, .int wel, .ref h6_mr, .int rdm, .long hsh])), (h6_ms, .inl (cI, 253, .inl ms)), (h6_mv, .inl (cI, 1518, .inl mv)), (h6_mb, .inl (cI, 60, .inl mb)), (h6_mc, .inl (cI, 160, .inl mc)), (h6_mg, .inl (cI, 160, .inl mg)), (h6_mt, .inl (cI, 240, .inl mt)), (h6_ml, .inl (cI, 240, .inl ml)), (h6_mr, .inl (cI, 600, .inl mr))] ++ []) := hD
  have iX6 : ∀ w ∈ u_ws RX6 TX6 15, w ∈ wsX6_thrown := fun _ h => List.mem_cons_of_mem _ (List.mem_append_right _ h)
  unfold fX6_thrown at h
  refine lv_aload_n hx hb dX6_thrown_0 rfl (lv_at hl 0 rfl) ?_
  refine va_get (D := D) (ci := 6) (v := .int thr) (C := RX6) (T := TX6) (N := 15) hx hb hts iX6 hown hK hP 0 rfl rfl 0 (by decide) (hts (.fieldLink RX6 34 "HiddenPeriodsModel" "thrown" "I") (by decide +kernel)) (fun _ h9 => h9) rfl dX6_thrown_1 ?_
  cases h
  exact pw_iret hx hb hr hlocks hAe hQ hP hD hS dX6_thrown_4
def fX6_in (a1 : Int32) (a2 : Int32) (a3 : Int32) : Option Int32 :=
  if a1 < a2 then
  some 0
  else
  if a3 < a1 then
  some 0
  else
  some 1
abbrev rmX6_in : Room := { frames := 0, cells := 0, slots := 0, locals := 0 }
set_option maxHeartbeats 4000000 in
set_option maxRecDepth 100000 in
theorem mX6_in (l : Launch) (D : va_G) (cI cO cJ : ClassId) (sz : Nat) (a1 : Int32) (a2 : Int32) (a3 : Int32) (z : Int32) (h : fX6_in a1 a2 a3 = some z) : Met l yX6_in wsX6_in rmX6_in (pw_pre D (tyL cI cO cJ) [.int a1, .int a2, .int a3] [] sz) (pw_i D [] [] z sz) 0 0 (va_A [] sz) := by
  refine pw_of (Qc := fun sz => pw_i D [] [] z sz) (cc := cX6_in) (maxL := 3) (ret := (some .boolean)) (by decide) rfl (Nat.le_of_ble_eq_true rfl) ?_
  intro p e s m args below meth c A Q H ls hx hb hml hr hts hown hlocks hAe hQ hK hN hA hP hD hS hl
  have hown : s.vm.findClass RX6 = some m.cls := hown
  have hl : lv_has ls 3 [(0, .int a1), (1, .int a2), (2, .int a3)] := hl
  unfold fX6_in at h
  refine lv_iload_n hx hb dX6_in_0 rfl (lv_at hl 0 rfl) ?_
  refine lv_iload_n hx hb dX6_in_1 rfl (lv_at hl 1 rfl) ?_
  refine lv_icmp_lt (tgt := 14) hx hb dX6_in_2 (by decide) (fun cq => ?_) (fun cq => ?_)
  · replace h := ifp cq h
    refine lv_iconst (v := 0) hx hb dX6_in_14 (by decide) ?_
    cases h
    exact pw_zret hx hb hr hlocks hAe (by decide) hQ hP hD hS dX6_in_15
  · replace h := ifn cq h
    refine lv_iload_n hx hb dX6_in_5 rfl (lv_at hl 0 rfl) ?_
    refine lv_iload_n hx hb dX6_in_6 rfl (lv_at hl 2 rfl) ?_
    refine lv_icmp_gt (tgt := 14) hx hb dX6_in_7 (by decide) (fun cq => ?_) (fun cq => ?_)
    · replace h := ifp cq h
      refine lv_iconst (v := 0) hx hb dX6_in_14 (by decide) ?_
      cases h
      exact pw_zret hx hb hr hlocks hAe (by decide) hQ hP hD hS dX6_in_15
    · replace h := ifn cq h
      refine lv_iconst (v := 1) hx hb dX6_in_10 (by decide) ?_
      refine lv_goto (tgt := 15) hx hb dX6_in_11 (by decide) ?_
      cases h
      exact pw_zret hx hb hr hlocks hAe (by decide) hQ hP hD hS dX6_in_15
def fX6_fails (a1 : Int32) : Option (Int32 × Int32) :=
  some (0, a1)
abbrev rmX6_fails : Room := { frames := 0, cells := 0, slots := 0, locals := 0 }
set_option maxHeartbeats 4000000 in
set_option maxRecDepth 100000 in
theorem mX6_fails (l : Launch) (D : va_G) (cI cO cJ : ClassId) (h6 h6_ms h6_mv h6_mb h6_mc h6_mg h6_mt h6_ml h6_mr : Nat) (sz : Nat) (thr : Int32) (ms : Nat → Int32) (mv : Nat → Int32) (svm : Int32) (mb : Nat → Int32) (mln : Int32) (mc : Nat → Int32) (mg : Nat → Int32) (mt : Nat → Int32) (ml : Nat → Int32) (mat : Int32) (wel : Int32) (mr : Nat → Int32) (rdm : Int32) (hsh : Int64) (a1 : Int32) (z : Int32 × Int32) (h : fX6_fails a1 = some z) : Met l yX6_fails wsX6_fails rmX6_fails (pw_pre D (tyL cI cO cJ) [.ref h6, .int a1] [(h6, .inr (6, [.int thr, .ref h6_ms, .ref h6_mv, .int svm, .ref h6_mb, .int mln, .ref h6_mc, .ref h6_mg, .ref h6_mt, .ref h6_ml, .int mat, .int wel, .ref h6_mr, .int rdm, .long hsh])), (h6_ms, .inl (cI, 253, .inl ms)), (h6_mv, .inl (cI, 1518, .inl mv)), (h6_mb, .inl (cI, 60, .inl mb)), (h6_mc, .inl (cI, 160, .inl mc)), (h6_mg, .inl (cI, 160, .inl mg)), (h6_mt, .inl (cI, 240, .inl mt)), (h6_ml, .inl (cI, 240, .inl ml)), (h6_mr, .inl (cI, 600, .inl mr))] sz) (pw_i D [(h6, .inr (6, [.int thr, .ref h6_ms, .ref h6_mv, .int svm, .ref h6_mb, .int mln, .ref h6_mc, .ref h6_mg, .ref h6_mt, .ref h6_ml, .int mat, .int wel, .ref h6_mr, .int rdm, .long hsh])), (h6_ms, .inl (cI, 253, .inl ms)), (h6_mv, .inl (cI, 1518, .inl mv)), (h6_mb, .inl (cI, 60, .inl mb)), (h6_mc, .inl (cI, 160, .inl mc)), (h6_mg, .inl (cI, 160, .inl mg)), (h6_mt, .inl (cI, 240, .inl mt)), (h6_ml, .inl (cI, 240, .inl ml)), (h6_mr, .inl (cI, 600, .inl mr))] [(h6, .inr (6, [.int z.2, .ref h6_ms, .ref h6_mv, .int svm, .ref h6_mb, .int mln, .ref h6_mc, .ref h6_mg, .ref h6_mt, .ref h6_ml, .int mat, .int wel, .ref h6_mr, .int rdm, .long hsh])), (h6_ms, .inl (cI, 253, .inl ms)), (h6_mv, .inl (cI, 1518, .inl mv)), (h6_mb, .inl (cI, 60, .inl mb)), (h6_mc, .inl (cI, 160, .inl mc)), (h6_mg, .inl (cI, 160, .inl mg)), (h6_mt, .inl (cI, 240, .inl mt)), (h6_ml, .inl (cI, 240, .inl ml)), (h6_mr, .inl (cI, 600, .inl mr))] z.1 sz) 0 0 (va_A [(h6, .inr (6, [.int thr, .ref h6_ms, .ref h6_mv, .int svm, .ref h6_mb, .int mln, .ref h6_mc, .ref h6_mg, .ref h6_mt, .ref h6_ml, .int mat, .int wel, .ref h6_mr, .int rdm, .long hsh])), (h6_ms, .inl (cI, 253, .inl ms)), (h6_mv, .inl (cI, 1518, .inl mv)), (h6_mb, .inl (cI, 60, .inl mb)), (h6_mc, .inl (cI, 160, .inl mc)), (h6_mg, .inl (cI, 160, .inl mg)), (h6_mt, .inl (cI, 240, .inl mt)), (h6_ml, .inl (cI, 240, .inl ml)), (h6_mr, .inl (cI, 600, .inl mr))] sz) := by
  refine pw_of (Qc := fun sz => pw_i D [(h6, .inr (6, [.int thr, .ref h6_ms, .ref h6_mv, .int svm, .ref h6_mb, .int mln, .ref h6_mc, .ref h6_mg, .ref h6_mt, .ref h6_ml, .int mat, .int wel, .ref h6_mr, .int rdm, .long hsh])), (h6_ms, .inl (cI, 253, .inl ms)), (h6_mv, .inl (cI, 1518, .inl mv)), (h6_mb, .inl (cI, 60, .inl mb)), (h6_mc, .inl (cI, 160, .inl mc)), (h6_mg, .inl (cI, 160, .inl mg)), (h6_mt, .inl (cI, 240, .inl mt)), (h6_ml, .inl (cI, 240, .inl ml)), (h6_mr, .inl (cI, 600, .inl mr))] [(h6, .inr (6, [.int z.2, .ref h6_ms, .ref h6_mv, .int svm, .ref h6_mb, .int mln, .ref h6_mc, .ref h6_mg, .ref h6_mt, .ref h6_ml, .int mat, .int wel, .ref h6_mr, .int rdm, .long hsh])), (h6_ms, .inl (cI, 253, .inl ms)), (h6_mv, .inl (cI, 1518, .inl mv)), (h6_mb, .inl (cI, 60, .inl mb)), (h6_mc, .inl (cI, 160, .inl mc)), (h6_mg, .inl (cI, 160, .inl mg)), (h6_mt, .inl (cI, 240, .inl mt)), (h6_ml, .inl (cI, 240, .inl ml)), (h6_mr, .inl (cI, 600, .inl mr))] z.1 sz) (cc := cX6_fails) (maxL := 2) (ret := (some .int)) (by decide) rfl (Nat.le_of_ble_eq_true rfl) ?_
  intro p e s m args below meth c A Q H ls hx hb hml hr hts hown hlocks hAe hQ hK hN hA hP hD hS hl
  have hown : s.vm.findClass RX6 = some m.cls := hown
  have hl : lv_has ls 2 [(0, .ref h6), (1, .int a1)] := hl
  have hP : va_P D vwCl ([(h6, .inr (6, [.int thr, .ref h6_ms, .ref h6_mv, .int svm, .ref h6_mb, .int mln, .ref h6_mc, .ref h6_mg, .ref h6_mt, .ref h6_ml, .int mat, .int wel, .ref h6_mr, .int rdm, .long hsh])), (h6_ms, .inl (cI, 253, .inl ms)), (h6_mv, .inl (cI, 1518, .inl mv)), (h6_mb, .inl (cI, 60, .inl mb)), (h6_mc, .inl (cI, 160, .inl mc)), (h6_mg, .inl (cI, 160, .inl mg)), (h6_mt, .inl (cI, 240, .inl mt)), (h6_ml, .inl (cI, 240, .inl ml)), (h6_mr, .inl (cI, 600, .inl mr))] ++ []) H := hP
  have hD : va_D A ([(h6, .inr (6, [.int thr, .ref h6_ms, .ref h6_mv, .int svm, .ref h6_mb, .int mln, .ref h6_mc, .ref h6_mg, .ref h6_mt, .ref h6_ml, .int mat, .int wel, .ref h6_mr, .int rdm, .long hsh])), (h6_ms, .inl (cI, 253, .inl ms)), (h6_mv, .inl (cI, 1518, .inl mv)), (h6_mb, .inl (cI, 60, .inl mb)), (h6_mc, .inl (cI, 160, .inl mc)), (h6_mg, .inl (cI, 160, .inl mg)), (h6_mt, .inl (cI, 240, .inl mt)), (h6_ml, .inl (cI, 240, .inl ml)), (h6_mr, .inl (cI, 600, .inl mr))] ++ []) := hD
  have iX6 : ∀ w ∈ u_ws RX6 TX6 15, w ∈ wsX6_fails := fun _ h => List.mem_cons_of_mem _ (List.mem_append_right _ h)
  unfold fX6_fails at h
  refine lv_aload_n hx hb dX6_fails_0 rfl (lv_at hl 0 rfl) ?_
  refine lv_iload_n hx hb dX6_fails_1 rfl (lv_at hl 1 rfl) ?_
  refine va_put (D := D) (ci := 6) (v := .int a1) (ty := .int) (C := RX6) (T := TX6) (N := 15) hx hb hts iX6 tyX6 tyX6_ok nmX6 hown hK hP hD hS 0 rfl rfl 0 (by decide) (hts (.fieldLink RX6 34 "HiddenPeriodsModel" "thrown" "I") (by decide +kernel)) (fun _ h9 => h9) rfl (by decide +kernel) rfl rfl (Nat.le_of_ble_eq_true rfl) dX6_fails_2 (fun H locs hP hD hS => ?_)
  have hP : va_P D vwCl ([(h6, .inr (6, [.int a1, .ref h6_ms, .ref h6_mv, .int svm, .ref h6_mb, .int mln, .ref h6_mc, .ref h6_mg, .ref h6_mt, .ref h6_ml, .int mat, .int wel, .ref h6_mr, .int rdm, .long hsh])), (h6_ms, .inl (cI, 253, .inl ms)), (h6_mv, .inl (cI, 1518, .inl mv)), (h6_mb, .inl (cI, 60, .inl mb)), (h6_mc, .inl (cI, 160, .inl mc)), (h6_mg, .inl (cI, 160, .inl mg)), (h6_mt, .inl (cI, 240, .inl mt)), (h6_ml, .inl (cI, 240, .inl ml)), (h6_mr, .inl (cI, 600, .inl mr))] ++ []) H := hP
  have hD : va_D A ([(h6, .inr (6, [.int a1, .ref h6_ms, .ref h6_mv, .int svm, .ref h6_mb, .int mln, .ref h6_mc, .ref h6_mg, .ref h6_mt, .ref h6_ml, .int mat, .int wel, .ref h6_mr, .int rdm, .long hsh])), (h6_ms, .inl (cI, 253, .inl ms)), (h6_mv, .inl (cI, 1518, .inl mv)), (h6_mb, .inl (cI, 60, .inl mb)), (h6_mc, .inl (cI, 160, .inl mc)), (h6_mg, .inl (cI, 160, .inl mg)), (h6_mt, .inl (cI, 240, .inl mt)), (h6_ml, .inl (cI, 240, .inl ml)), (h6_mr, .inl (cI, 600, .inl mr))] ++ []) := hD
  refine lv_iconst (v := 0) hx hb dX6_fails_5 (by decide) ?_
  cases h
  exact pw_iret hx hb hr hlocks hAe hQ hP hD hS dX6_fails_6
def fX6_saves_L52 (ms : Nat → Int32) (x1_2 : Int32) : Nat → Int32 → (Nat → Int32) → Option (Nat → Int32)
  | 0, _, _ => none
  | n + 1, v1_52, mv_52 =>
    if 253 ≤ v1_52 then
    some mv_52
    else
    if oob v1_52 253 then none else
    if oob ((253 * x1_2) + v1_52) 1518 then none else
    fX6_saves_L52 ms x1_2 n (v1_52 + 1) (upd mv_52 (((253 * x1_2) + v1_52)).toNatClampNeg (ms v1_52.toNatClampNeg))
def fX6_saves_L11 : Nat → Int32 → (Nat → Int32) → Option (Nat → Int32)
  | 0, _, _ => none
  | n + 1, v1_11, mv_11 =>
    if 1265 ≤ v1_11 then
    some mv_11
    else
    if oob (v1_11 + 253) 1518 then none else
    if oob v1_11 1518 then none else
    fX6_saves_L11 n (v1_11 + 1) (upd mv_11 v1_11.toNatClampNeg (mv_11 ((v1_11 + 253)).toNatClampNeg))
def fX6_saves (ms : Nat → Int32) (mv : Nat → Int32) (svm : Int32) : Option ((Nat → Int32) × Int32) :=
  (if svm = 6 then
  (fX6_saves_L11 FU 0 mv).bind fun x7 =>
  some (x7, (svm - 1))
  else
  some (mv, svm) : Option ((Nat → Int32) × Int32)).bind fun (x1_1, x1_2) =>
  (fX6_saves_L52 ms x1_2 FU 0 x1_1).bind fun x4 =>
  some (x4, (x1_2 + 1))
abbrev rmX6_saves : Room := { frames := 0, cells := 0, slots := 0, locals := 0 }
set_option maxHeartbeats 4000000 in
set_option maxRecDepth 100000 in
theorem mX6_saves (l : Launch) (D : va_G) (cI cO cJ : ClassId) (h6 h6_ms h6_mv h6_mb h6_mc h6_mg h6_mt h6_ml h6_mr : Nat) (sz : Nat) (thr : Int32) (ms : Nat → Int32) (mv : Nat → Int32) (svm : Int32) (mb : Nat → Int32) (mln : Int32) (mc : Nat → Int32) (mg : Nat → Int32) (mt : Nat → Int32) (ml : Nat → Int32) (mat : Int32) (wel : Int32) (mr : Nat → Int32) (rdm : Int32) (hsh : Int64) (z : (Nat → Int32) × Int32) (h : fX6_saves ms mv svm = some z) : Met l yX6_saves wsX6_saves rmX6_saves (pw_pre D (tyL cI cO cJ) [.ref h6] [(h6, .inr (6, [.int thr, .ref h6_ms, .ref h6_mv, .int svm, .ref h6_mb, .int mln, .ref h6_mc, .ref h6_mg, .ref h6_mt, .ref h6_ml, .int mat, .int wel, .ref h6_mr, .int rdm, .long hsh])), (h6_ms, .inl (cI, 253, .inl ms)), (h6_mv, .inl (cI, 1518, .inl mv)), (h6_mb, .inl (cI, 60, .inl mb)), (h6_mc, .inl (cI, 160, .inl mc)), (h6_mg, .inl (cI, 160, .inl mg)), (h6_mt, .inl (cI, 240, .inl mt)), (h6_ml, .inl (cI, 240, .inl ml)), (h6_mr, .inl (cI, 600, .inl mr))] sz) (pw_v D [(h6, .inr (6, [.int thr, .ref h6_ms, .ref h6_mv, .int svm, .ref h6_mb, .int mln, .ref h6_mc, .ref h6_mg, .ref h6_mt, .ref h6_ml, .int mat, .int wel, .ref h6_mr, .int rdm, .long hsh])), (h6_ms, .inl (cI, 253, .inl ms)), (h6_mv, .inl (cI, 1518, .inl mv)), (h6_mb, .inl (cI, 60, .inl mb)), (h6_mc, .inl (cI, 160, .inl mc)), (h6_mg, .inl (cI, 160, .inl mg)), (h6_mt, .inl (cI, 240, .inl mt)), (h6_ml, .inl (cI, 240, .inl ml)), (h6_mr, .inl (cI, 600, .inl mr))] [(h6, .inr (6, [.int thr, .ref h6_ms, .ref h6_mv, .int z.2, .ref h6_mb, .int mln, .ref h6_mc, .ref h6_mg, .ref h6_mt, .ref h6_ml, .int mat, .int wel, .ref h6_mr, .int rdm, .long hsh])), (h6_ms, .inl (cI, 253, .inl ms)), (h6_mv, .inl (cI, 1518, .inl z.1)), (h6_mb, .inl (cI, 60, .inl mb)), (h6_mc, .inl (cI, 160, .inl mc)), (h6_mg, .inl (cI, 160, .inl mg)), (h6_mt, .inl (cI, 240, .inl mt)), (h6_ml, .inl (cI, 240, .inl ml)), (h6_mr, .inl (cI, 600, .inl mr))] sz) 0 0 (va_A [(h6, .inr (6, [.int thr, .ref h6_ms, .ref h6_mv, .int svm, .ref h6_mb, .int mln, .ref h6_mc, .ref h6_mg, .ref h6_mt, .ref h6_ml, .int mat, .int wel, .ref h6_mr, .int rdm, .long hsh])), (h6_ms, .inl (cI, 253, .inl ms)), (h6_mv, .inl (cI, 1518, .inl mv)), (h6_mb, .inl (cI, 60, .inl mb)), (h6_mc, .inl (cI, 160, .inl mc)), (h6_mg, .inl (cI, 160, .inl mg)), (h6_mt, .inl (cI, 240, .inl mt)), (h6_ml, .inl (cI, 240, .inl ml)), (h6_mr, .inl (cI, 600, .inl mr))] sz) := by
  refine pw_of (Qc := fun sz => pw_v D [(h6, .inr (6, [.int thr, .ref h6_ms, .ref h6_mv, .int svm, .ref h6_mb, .int mln, .ref h6_mc, .ref h6_mg, .ref h6_mt, .ref h6_ml, .int mat, .int wel, .ref h6_mr, .int rdm, .long hsh])), (h6_ms, .inl (cI, 253, .inl ms)), (h6_mv, .inl (cI, 1518, .inl mv)), (h6_mb, .inl (cI, 60, .inl mb)), (h6_mc, .inl (cI, 160, .inl mc)), (h6_mg, .inl (cI, 160, .inl mg)), (h6_mt, .inl (cI, 240, .inl mt)), (h6_ml, .inl (cI, 240, .inl ml)), (h6_mr, .inl (cI, 600, .inl mr))] [(h6, .inr (6, [.int thr, .ref h6_ms, .ref h6_mv, .int z.2, .ref h6_mb, .int mln, .ref h6_mc, .ref h6_mg, .ref h6_mt, .ref h6_ml, .int mat, .int wel, .ref h6_mr, .int rdm, .long hsh])), (h6_ms, .inl (cI, 253, .inl ms)), (h6_mv, .inl (cI, 1518, .inl z.1)), (h6_mb, .inl (cI, 60, .inl mb)), (h6_mc, .inl (cI, 160, .inl mc)), (h6_mg, .inl (cI, 160, .inl mg)), (h6_mt, .inl (cI, 240, .inl mt)), (h6_ml, .inl (cI, 240, .inl ml)), (h6_mr, .inl (cI, 600, .inl mr))] sz) (cc := cX6_saves) (maxL := 2) (ret := none) (by decide) rfl (Nat.le_of_ble_eq_true rfl) ?_
  intro p e s m args below meth c A Q H ls hx hb hml hr hts hown hlocks hAe hQ hK hN hA hP hD hS hl
  have hown : s.vm.findClass RX6 = some m.cls := hown
  have hl : lv_has ls 2 [(0, .ref h6)] := hl
  have hP : va_P D vwCl ([(h6, .inr (6, [.int thr, .ref h6_ms, .ref h6_mv, .int svm, .ref h6_mb, .int mln, .ref h6_mc, .ref h6_mg, .ref h6_mt, .ref h6_ml, .int mat, .int wel, .ref h6_mr, .int rdm, .long hsh])), (h6_ms, .inl (cI, 253, .inl ms)), (h6_mv, .inl (cI, 1518, .inl mv)), (h6_mb, .inl (cI, 60, .inl mb)), (h6_mc, .inl (cI, 160, .inl mc)), (h6_mg, .inl (cI, 160, .inl mg)), (h6_mt, .inl (cI, 240, .inl mt)), (h6_ml, .inl (cI, 240, .inl ml)), (h6_mr, .inl (cI, 600, .inl mr))] ++ []) H := hP
  have hD : va_D A ([(h6, .inr (6, [.int thr, .ref h6_ms, .ref h6_mv, .int svm, .ref h6_mb, .int mln, .ref h6_mc, .ref h6_mg, .ref h6_mt, .ref h6_ml, .int mat, .int wel, .ref h6_mr, .int rdm, .long hsh])), (h6_ms, .inl (cI, 253, .inl ms)), (h6_mv, .inl (cI, 1518, .inl mv)), (h6_mb, .inl (cI, 60, .inl mb)), (h6_mc, .inl (cI, 160, .inl mc)), (h6_mg, .inl (cI, 160, .inl mg)), (h6_mt, .inl (cI, 240, .inl mt)), (h6_ml, .inl (cI, 240, .inl ml)), (h6_mr, .inl (cI, 600, .inl mr))] ++ []) := hD
  have iX6 : ∀ w ∈ u_ws RX6 TX6 15, w ∈ wsX6_saves := fun _ h => List.mem_cons_of_mem _ (List.mem_append_right _ h)
  unfold fX6_saves at h
  refine lv_aload_n hx hb dX6_saves_0 rfl (lv_at hl 0 rfl) ?_
  refine va_get (D := D) (ci := 6) (v := .int svm) (C := RX6) (T := TX6) (N := 15) hx hb hts iX6 hown hK hP 0 rfl rfl 3 (by decide) (hts (.fieldLink RX6 38 "HiddenPeriodsModel" "savedMany" "I") (by decide +kernel)) (fun _ h9 => h9) rfl dX6_saves_1 ?_
  refine lv_bipush (v := 6) hx hb dX6_saves_4 (by decide) ?_
  obtain ⟨⟨x1_1, x1_2⟩, hx1, h⟩ := bnd h
  have Jx1 : ∀ (H : Heap) (locs : List Loc) (ls : Array Slot), va_P D vwCl ([(h6, .inr (6, [.int thr, .ref h6_ms, .ref h6_mv, .int x1_2, .ref h6_mb, .int mln, .ref h6_mc, .ref h6_mg, .ref h6_mt, .ref h6_ml, .int mat, .int wel, .ref h6_mr, .int rdm, .long hsh])), (h6_ms, .inl (cI, 253, .inl ms)), (h6_mv, .inl (cI, 1518, .inl x1_1)), (h6_mb, .inl (cI, 60, .inl mb)), (h6_mc, .inl (cI, 160, .inl mc)), (h6_mg, .inl (cI, 160, .inl mg)), (h6_mt, .inl (cI, 240, .inl mt)), (h6_ml, .inl (cI, 240, .inl ml)), (h6_mr, .inl (cI, 600, .inl mr))] ++ []) H → va_D A ([(h6, .inr (6, [.int thr, .ref h6_ms, .ref h6_mv, .int x1_2, .ref h6_mb, .int mln, .ref h6_mc, .ref h6_mg, .ref h6_mt, .ref h6_ml, .int mat, .int wel, .ref h6_mr, .int rdm, .long hsh])), (h6_ms, .inl (cI, 253, .inl ms)), (h6_mv, .inl (cI, 1518, .inl x1_1)), (h6_mb, .inl (cI, 60, .inl mb)), (h6_mc, .inl (cI, 160, .inl mc)), (h6_mg, .inl (cI, 160, .inl mg)), (h6_mt, .inl (cI, 240, .inl mt)), (h6_ml, .inl (cI, 240, .inl ml)), (h6_mr, .inl (cI, 600, .inl mr))] ++ []) → va_S A s.heap H locs → lv_has ls 2 [(0, .ref h6)] → W p l e rmX6_saves s m args below meth c H locs 0 0 Q (F0 m 50 ls []) := by
    intro H locs ls hP hD hS hl
    refine lv_iconst (v := 0) hx hb dX6_saves_50 (by decide) ?_
    refine lv_istore_n (lv' := [(1, .int 0), (0, .ref h6)]) hx hb dX6_saves_51 rfl hl (by decide) rfl (fun ls hl => ?_)
    have L52 : ∀ (n : Nat) (v1_52 : Int32) (mv_52 : Nat → Int32) (o52_1 : Nat → Int32) (H : Heap) (locs : List Loc) (ls : Array Slot), fX6_saves_L52 ms x1_2 n v1_52 mv_52 = some o52_1 → va_P D vwCl ([(h6, .inr (6, [.int thr, .ref h6_ms, .ref h6_mv, .int x1_2, .ref h6_mb, .int mln, .ref h6_mc, .ref h6_mg, .ref h6_mt, .ref h6_ml, .int mat, .int wel, .ref h6_mr, .int rdm, .long hsh])), (h6_ms, .inl (cI, 253, .inl ms)), (h6_mv, .inl (cI, 1518, .inl mv_52)), (h6_mb, .inl (cI, 60, .inl mb)), (h6_mc, .inl (cI, 160, .inl mc)), (h6_mg, .inl (cI, 160, .inl mg)), (h6_mt, .inl (cI, 240, .inl mt)), (h6_ml, .inl (cI, 240, .inl ml)), (h6_mr, .inl (cI, 600, .inl mr))] ++ []) H → va_D A ([(h6, .inr (6, [.int thr, .ref h6_ms, .ref h6_mv, .int x1_2, .ref h6_mb, .int mln, .ref h6_mc, .ref h6_mg, .ref h6_mt, .ref h6_ml, .int mat, .int wel, .ref h6_mr, .int rdm, .long hsh])), (h6_ms, .inl (cI, 253, .inl ms)), (h6_mv, .inl (cI, 1518, .inl mv_52)), (h6_mb, .inl (cI, 60, .inl mb)), (h6_mc, .inl (cI, 160, .inl mc)), (h6_mg, .inl (cI, 160, .inl mg)), (h6_mt, .inl (cI, 240, .inl mt)), (h6_ml, .inl (cI, 240, .inl ml)), (h6_mr, .inl (cI, 600, .inl mr))] ++ []) → va_S A s.heap H locs → lv_has ls 2 [(0, .ref h6), (1, .int v1_52)] → (∀ (H : Heap) (locs : List Loc) (ls : Array Slot), va_P D vwCl ([(h6, .inr (6, [.int thr, .ref h6_ms, .ref h6_mv, .int x1_2, .ref h6_mb, .int mln, .ref h6_mc, .ref h6_mg, .ref h6_mt, .ref h6_ml, .int mat, .int wel, .ref h6_mr, .int rdm, .long hsh])), (h6_ms, .inl (cI, 253, .inl ms)), (h6_mv, .inl (cI, 1518, .inl o52_1)), (h6_mb, .inl (cI, 60, .inl mb)), (h6_mc, .inl (cI, 160, .inl mc)), (h6_mg, .inl (cI, 160, .inl mg)), (h6_mt, .inl (cI, 240, .inl mt)), (h6_ml, .inl (cI, 240, .inl ml)), (h6_mr, .inl (cI, 600, .inl mr))] ++ []) H → va_D A ([(h6, .inr (6, [.int thr, .ref h6_ms, .ref h6_mv, .int x1_2, .ref h6_mb, .int mln, .ref h6_mc, .ref h6_mg, .ref h6_mt, .ref h6_ml, .int mat, .int wel, .ref h6_mr, .int rdm, .long hsh])), (h6_ms, .inl (cI, 253, .inl ms)), (h6_mv, .inl (cI, 1518, .inl o52_1)), (h6_mb, .inl (cI, 60, .inl mb)), (h6_mc, .inl (cI, 160, .inl mc)), (h6_mg, .inl (cI, 160, .inl mg)), (h6_mt, .inl (cI, 240, .inl mt)), (h6_ml, .inl (cI, 240, .inl ml)), (h6_mr, .inl (cI, 600, .inl mr))] ++ []) → va_S A s.heap H locs → lv_has ls 2 [(0, .ref h6)] → W p l e rmX6_saves s m args below meth c H locs 0 0 Q (F0 m 86 ls [])) → W p l e rmX6_saves s m args below meth c H locs 0 0 Q (F0 m 52 ls []) := by
      intro n
      induction n with
      | zero =>
        intro v1_52 mv_52 o52_1 H locs ls h
        rw [fX6_saves_L52] at h
        cases h
      | succ n ih =>
        intro v1_52 mv_52 o52_1 H locs ls h hP hD hS hl K
        rw [fX6_saves_L52] at h
        refine lv_iload_n hx hb dX6_saves_52 rfl (lv_at hl 1 rfl) ?_
        refine lv_sipush (v := 253) hx hb dX6_saves_53 (by decide) ?_
        refine lv_icmp_ge (tgt := 86) hx hb dX6_saves_56 (by decide) (fun cq => ?_) (fun cq => ?_)
        · replace h := ifp cq h
          cases h
          exact K _ _ _ hP hD hS (lv_sub hl [0] rfl)
        · replace h := ifn cq h
          refine lv_aload_n hx hb dX6_saves_59 rfl (lv_at hl 0 rfl) ?_
          refine va_get (D := D) (ci := 6) (v := .ref h6_mv) (C := RX6) (T := TX6) (N := 15) hx hb hts iX6 hown hK hP 0 rfl rfl 2 (by decide) (hts (.fieldLink RX6 13 "HiddenPeriodsModel" "saved" "[I") (by decide +kernel)) (fun _ h9 => h9) rfl dX6_saves_60 ?_
          refine lv_sipush (v := 253) hx hb dX6_saves_63 (by decide) ?_
          refine lv_aload_n hx hb dX6_saves_66 rfl (lv_at hl 0 rfl) ?_
          refine va_get (D := D) (ci := 6) (v := .int x1_2) (C := RX6) (T := TX6) (N := 15) hx hb hts iX6 hown hK hP 0 rfl rfl 3 (by decide) (hts (.fieldLink RX6 38 "HiddenPeriodsModel" "savedMany" "I") (by decide +kernel)) (fun _ h9 => h9) rfl dX6_saves_67 ?_
          refine lv_imul hx hb dX6_saves_70 ?_
          refine lv_iload_n hx hb dX6_saves_71 rfl (lv_at hl 1 rfl) ?_
          refine lv_iadd hx hb dX6_saves_72 ?_
          refine lv_aload_n hx hb dX6_saves_73 rfl (lv_at hl 0 rfl) ?_
          refine va_get (D := D) (ci := 6) (v := .ref h6_ms) (C := RX6) (T := TX6) (N := 15) hx hb hts iX6 hown hK hP 0 rfl rfl 1 (by decide) (hts (.fieldLink RX6 7 "HiddenPeriodsModel" "s" "[I") (by decide +kernel)) (fun _ h9 => h9) rfl dX6_saves_74 ?_
          refine lv_iload_n hx hb dX6_saves_77 rfl (lv_at hl 1 rfl) ?_
          obtain ⟨g2, h⟩ := gdn h
          refine va_iald hx hb hK hP 1 0 rfl rfl g2 dX6_saves_78 ?_
          obtain ⟨g3, h⟩ := gdn h
          refine va_iast hx hb hK hP hD hS 2 0 rfl rfl g3 dX6_saves_79 (fun H locs hP hD hS => ?_)
          have hP : va_P D vwCl ([(h6, .inr (6, [.int thr, .ref h6_ms, .ref h6_mv, .int x1_2, .ref h6_mb, .int mln, .ref h6_mc, .ref h6_mg, .ref h6_mt, .ref h6_ml, .int mat, .int wel, .ref h6_mr, .int rdm, .long hsh])), (h6_ms, .inl (cI, 253, .inl ms)), (h6_mv, .inl (cI, 1518, .inl (upd mv_52 (((253 * x1_2) + v1_52)).toNatClampNeg (ms v1_52.toNatClampNeg)))), (h6_mb, .inl (cI, 60, .inl mb)), (h6_mc, .inl (cI, 160, .inl mc)), (h6_mg, .inl (cI, 160, .inl mg)), (h6_mt, .inl (cI, 240, .inl mt)), (h6_ml, .inl (cI, 240, .inl ml)), (h6_mr, .inl (cI, 600, .inl mr))] ++ []) H := hP
          have hD : va_D A ([(h6, .inr (6, [.int thr, .ref h6_ms, .ref h6_mv, .int x1_2, .ref h6_mb, .int mln, .ref h6_mc, .ref h6_mg, .ref h6_mt, .ref h6_ml, .int mat, .int wel, .ref h6_mr, .int rdm, .long hsh])), (h6_ms, .inl (cI, 253, .inl ms)), (h6_mv, .inl (cI, 1518, .inl (upd mv_52 (((253 * x1_2) + v1_52)).toNatClampNeg (ms v1_52.toNatClampNeg)))), (h6_mb, .inl (cI, 60, .inl mb)), (h6_mc, .inl (cI, 160, .inl mc)), (h6_mg, .inl (cI, 160, .inl mg)), (h6_mt, .inl (cI, 240, .inl mt)), (h6_ml, .inl (cI, 240, .inl ml)), (h6_mr, .inl (cI, 600, .inl mr))] ++ []) := hD
          refine lv_iinc (v := (v1_52 + 1)) (lv' := [(1, .int (v1_52 + 1)), (0, .ref h6)]) hx hb dX6_saves_80 hl (k := 1) rfl rfl (by decide) rfl (fun ls hl => ?_)
          refine lv_goto (tgt := 52) hx hb dX6_saves_83 (by decide) ?_
          exact ih _ _ _ _ _ _ h hP hD hS (lv_sub hl [1, 0] rfl) K
    obtain ⟨x4, hx4, h⟩ := bnd h
    refine L52 FU _ _ _ _ _ _ hx4 hP hD hS (lv_sub hl [1, 0] rfl) (fun H locs ls hP hD hS hl => ?_)
    refine lv_aload_n hx hb dX6_saves_86 rfl (lv_at hl 0 rfl) ?_
    refine lv_dup hx hb dX6_saves_87 rfl ?_
    refine va_get (D := D) (ci := 6) (v := .int x1_2) (C := RX6) (T := TX6) (N := 15) hx hb hts iX6 hown hK hP 0 rfl rfl 3 (by decide) (hts (.fieldLink RX6 38 "HiddenPeriodsModel" "savedMany" "I") (by decide +kernel)) (fun _ h9 => h9) rfl dX6_saves_88 ?_
    refine lv_iconst (v := 1) hx hb dX6_saves_91 (by decide) ?_
    refine lv_iadd hx hb dX6_saves_92 ?_
    refine va_put (D := D) (ci := 6) (v := .int (x1_2 + 1)) (ty := .int) (C := RX6) (T := TX6) (N := 15) hx hb hts iX6 tyX6 tyX6_ok nmX6 hown hK hP hD hS 0 rfl rfl 3 (by decide) (hts (.fieldLink RX6 38 "HiddenPeriodsModel" "savedMany" "I") (by decide +kernel)) (fun _ h9 => h9) rfl (by decide +kernel) rfl rfl (Nat.le_of_ble_eq_true rfl) dX6_saves_93 (fun H locs hP hD hS => ?_)
    have hP : va_P D vwCl ([(h6, .inr (6, [.int thr, .ref h6_ms, .ref h6_mv, .int (x1_2 + 1), .ref h6_mb, .int mln, .ref h6_mc, .ref h6_mg, .ref h6_mt, .ref h6_ml, .int mat, .int wel, .ref h6_mr, .int rdm, .long hsh])), (h6_ms, .inl (cI, 253, .inl ms)), (h6_mv, .inl (cI, 1518, .inl x4)), (h6_mb, .inl (cI, 60, .inl mb)), (h6_mc, .inl (cI, 160, .inl mc)), (h6_mg, .inl (cI, 160, .inl mg)), (h6_mt, .inl (cI, 240, .inl mt)), (h6_ml, .inl (cI, 240, .inl ml)), (h6_mr, .inl (cI, 600, .inl mr))] ++ []) H := hP
    have hD : va_D A ([(h6, .inr (6, [.int thr, .ref h6_ms, .ref h6_mv, .int (x1_2 + 1), .ref h6_mb, .int mln, .ref h6_mc, .ref h6_mg, .ref h6_mt, .ref h6_ml, .int mat, .int wel, .ref h6_mr, .int rdm, .long hsh])), (h6_ms, .inl (cI, 253, .inl ms)), (h6_mv, .inl (cI, 1518, .inl x4)), (h6_mb, .inl (cI, 60, .inl mb)), (h6_mc, .inl (cI, 160, .inl mc)), (h6_mg, .inl (cI, 160, .inl mg)), (h6_mt, .inl (cI, 240, .inl mt)), (h6_ml, .inl (cI, 240, .inl ml)), (h6_mr, .inl (cI, 600, .inl mr))] ++ []) := hD
    cases h
    exact pw_vret hx hb hr hlocks hAe hQ hP hD hS dX6_saves_96
  replace h := hx1
  refine lv_icmp_ne (tgt := 50) hx hb dX6_saves_6 (by decide) (fun cq => ?_) (fun cq => ?_)
  · replace h := ifn cq h
    cases h
    exact Jx1 _ _ _ hP hD hS (lv_sub hl [0] rfl)
  · replace h := ifp cq h
    refine lv_iconst (v := 0) hx hb dX6_saves_9 (by decide) ?_
    refine lv_istore_n (lv' := [(1, .int 0), (0, .ref h6)]) hx hb dX6_saves_10 rfl hl (by decide) rfl (fun ls hl => ?_)
    have L11 : ∀ (n : Nat) (v1_11 : Int32) (mv_11 : Nat → Int32) (o11_1 : Nat → Int32) (H : Heap) (locs : List Loc) (ls : Array Slot), fX6_saves_L11 n v1_11 mv_11 = some o11_1 → va_P D vwCl ([(h6, .inr (6, [.int thr, .ref h6_ms, .ref h6_mv, .int svm, .ref h6_mb, .int mln, .ref h6_mc, .ref h6_mg, .ref h6_mt, .ref h6_ml, .int mat, .int wel, .ref h6_mr, .int rdm, .long hsh])), (h6_ms, .inl (cI, 253, .inl ms)), (h6_mv, .inl (cI, 1518, .inl mv_11)), (h6_mb, .inl (cI, 60, .inl mb)), (h6_mc, .inl (cI, 160, .inl mc)), (h6_mg, .inl (cI, 160, .inl mg)), (h6_mt, .inl (cI, 240, .inl mt)), (h6_ml, .inl (cI, 240, .inl ml)), (h6_mr, .inl (cI, 600, .inl mr))] ++ []) H → va_D A ([(h6, .inr (6, [.int thr, .ref h6_ms, .ref h6_mv, .int svm, .ref h6_mb, .int mln, .ref h6_mc, .ref h6_mg, .ref h6_mt, .ref h6_ml, .int mat, .int wel, .ref h6_mr, .int rdm, .long hsh])), (h6_ms, .inl (cI, 253, .inl ms)), (h6_mv, .inl (cI, 1518, .inl mv_11)), (h6_mb, .inl (cI, 60, .inl mb)), (h6_mc, .inl (cI, 160, .inl mc)), (h6_mg, .inl (cI, 160, .inl mg)), (h6_mt, .inl (cI, 240, .inl mt)), (h6_ml, .inl (cI, 240, .inl ml)), (h6_mr, .inl (cI, 600, .inl mr))] ++ []) → va_S A s.heap H locs → lv_has ls 2 [(0, .ref h6), (1, .int v1_11)] → (∀ (H : Heap) (locs : List Loc) (ls : Array Slot), va_P D vwCl ([(h6, .inr (6, [.int thr, .ref h6_ms, .ref h6_mv, .int svm, .ref h6_mb, .int mln, .ref h6_mc, .ref h6_mg, .ref h6_mt, .ref h6_ml, .int mat, .int wel, .ref h6_mr, .int rdm, .long hsh])), (h6_ms, .inl (cI, 253, .inl ms)), (h6_mv, .inl (cI, 1518, .inl o11_1)), (h6_mb, .inl (cI, 60, .inl mb)), (h6_mc, .inl (cI, 160, .inl mc)), (h6_mg, .inl (cI, 160, .inl mg)), (h6_mt, .inl (cI, 240, .inl mt)), (h6_ml, .inl (cI, 240, .inl ml)), (h6_mr, .inl (cI, 600, .inl mr))] ++ []) H → va_D A ([(h6, .inr (6, [.int thr, .ref h6_ms, .ref h6_mv, .int svm, .ref h6_mb, .int mln, .ref h6_mc, .ref h6_mg, .ref h6_mt, .ref h6_ml, .int mat, .int wel, .ref h6_mr, .int rdm, .long hsh])), (h6_ms, .inl (cI, 253, .inl ms)), (h6_mv, .inl (cI, 1518, .inl o11_1)), (h6_mb, .inl (cI, 60, .inl mb)), (h6_mc, .inl (cI, 160, .inl mc)), (h6_mg, .inl (cI, 160, .inl mg)), (h6_mt, .inl (cI, 240, .inl mt)), (h6_ml, .inl (cI, 240, .inl ml)), (h6_mr, .inl (cI, 600, .inl mr))] ++ []) → va_S A s.heap H locs → lv_has ls 2 [(0, .ref h6)] → W p l e rmX6_saves s m args below meth c H locs 0 0 Q (F0 m 40 ls [])) → W p l e rmX6_saves s m args below meth c H locs 0 0 Q (F0 m 11 ls []) := by
      intro n
      induction n with
      | zero =>
        intro v1_11 mv_11 o11_1 H locs ls h
        rw [fX6_saves_L11] at h
        cases h
      | succ n ih =>
        intro v1_11 mv_11 o11_1 H locs ls h hP hD hS hl K
        rw [fX6_saves_L11] at h
        refine lv_iload_n hx hb dX6_saves_11 rfl (lv_at hl 1 rfl) ?_
        refine lv_sipush (v := 1265) hx hb dX6_saves_12 (by decide) ?_
        refine lv_icmp_ge (tgt := 40) hx hb dX6_saves_15 (by decide) (fun cq => ?_) (fun cq => ?_)
        · replace h := ifp cq h
          cases h
          exact K _ _ _ hP hD hS (lv_sub hl [0] rfl)
        · replace h := ifn cq h
          refine lv_aload_n hx hb dX6_saves_18 rfl (lv_at hl 0 rfl) ?_
          refine va_get (D := D) (ci := 6) (v := .ref h6_mv) (C := RX6) (T := TX6) (N := 15) hx hb hts iX6 hown hK hP 0 rfl rfl 2 (by decide) (hts (.fieldLink RX6 13 "HiddenPeriodsModel" "saved" "[I") (by decide +kernel)) (fun _ h9 => h9) rfl dX6_saves_19 ?_
          refine lv_iload_n hx hb dX6_saves_22 rfl (lv_at hl 1 rfl) ?_
          refine lv_aload_n hx hb dX6_saves_23 rfl (lv_at hl 0 rfl) ?_
          refine va_get (D := D) (ci := 6) (v := .ref h6_mv) (C := RX6) (T := TX6) (N := 15) hx hb hts iX6 hown hK hP 0 rfl rfl 2 (by decide) (hts (.fieldLink RX6 13 "HiddenPeriodsModel" "saved" "[I") (by decide +kernel)) (fun _ h9 => h9) rfl dX6_saves_24 ?_
          refine lv_iload_n hx hb dX6_saves_27 rfl (lv_at hl 1 rfl) ?_
          refine lv_sipush (v := 253) hx hb dX6_saves_28 (by decide) ?_
          refine lv_iadd hx hb dX6_saves_31 ?_
          obtain ⟨g5, h⟩ := gdn h
          refine va_iald hx hb hK hP 2 0 rfl rfl g5 dX6_saves_32 ?_
          obtain ⟨g6, h⟩ := gdn h
          refine va_iast hx hb hK hP hD hS 2 0 rfl rfl g6 dX6_saves_33 (fun H locs hP hD hS => ?_)
          have hP : va_P D vwCl ([(h6, .inr (6, [.int thr, .ref h6_ms, .ref h6_mv, .int svm, .ref h6_mb, .int mln, .ref h6_mc, .ref h6_mg, .ref h6_mt, .ref h6_ml, .int mat, .int wel, .ref h6_mr, .int rdm, .long hsh])), (h6_ms, .inl (cI, 253, .inl ms)), (h6_mv, .inl (cI, 1518, .inl (upd mv_11 v1_11.toNatClampNeg (mv_11 ((v1_11 + 253)).toNatClampNeg)))), (h6_mb, .inl (cI, 60, .inl mb)), (h6_mc, .inl (cI, 160, .inl mc)), (h6_mg, .inl (cI, 160, .inl mg)), (h6_mt, .inl (cI, 240, .inl mt)), (h6_ml, .inl (cI, 240, .inl ml)), (h6_mr, .inl (cI, 600, .inl mr))] ++ []) H := hP
          have hD : va_D A ([(h6, .inr (6, [.int thr, .ref h6_ms, .ref h6_mv, .int svm, .ref h6_mb, .int mln, .ref h6_mc, .ref h6_mg, .ref h6_mt, .ref h6_ml, .int mat, .int wel, .ref h6_mr, .int rdm, .long hsh])), (h6_ms, .inl (cI, 253, .inl ms)), (h6_mv, .inl (cI, 1518, .inl (upd mv_11 v1_11.toNatClampNeg (mv_11 ((v1_11 + 253)).toNatClampNeg)))), (h6_mb, .inl (cI, 60, .inl mb)), (h6_mc, .inl (cI, 160, .inl mc)), (h6_mg, .inl (cI, 160, .inl mg)), (h6_mt, .inl (cI, 240, .inl mt)), (h6_ml, .inl (cI, 240, .inl ml)), (h6_mr, .inl (cI, 600, .inl mr))] ++ []) := hD
          refine lv_iinc (v := (v1_11 + 1)) (lv' := [(1, .int (v1_11 + 1)), (0, .ref h6)]) hx hb dX6_saves_34 hl (k := 1) rfl rfl (by decide) rfl (fun ls hl => ?_)
          refine lv_goto (tgt := 11) hx hb dX6_saves_37 (by decide) ?_
          exact ih _ _ _ _ _ _ h hP hD hS (lv_sub hl [1, 0] rfl) K
    obtain ⟨x7, hx7, h⟩ := bnd h
    refine L11 FU _ _ _ _ _ _ hx7 hP hD hS (lv_sub hl [1, 0] rfl) (fun H locs ls hP hD hS hl => ?_)
    refine lv_aload_n hx hb dX6_saves_40 rfl (lv_at hl 0 rfl) ?_
    refine lv_dup hx hb dX6_saves_41 rfl ?_
    refine va_get (D := D) (ci := 6) (v := .int svm) (C := RX6) (T := TX6) (N := 15) hx hb hts iX6 hown hK hP 0 rfl rfl 3 (by decide) (hts (.fieldLink RX6 38 "HiddenPeriodsModel" "savedMany" "I") (by decide +kernel)) (fun _ h9 => h9) rfl dX6_saves_42 ?_
    refine lv_iconst (v := 1) hx hb dX6_saves_45 (by decide) ?_
    refine lv_isub hx hb dX6_saves_46 ?_
    refine va_put (D := D) (ci := 6) (v := .int (svm - 1)) (ty := .int) (C := RX6) (T := TX6) (N := 15) hx hb hts iX6 tyX6 tyX6_ok nmX6 hown hK hP hD hS 0 rfl rfl 3 (by decide) (hts (.fieldLink RX6 38 "HiddenPeriodsModel" "savedMany" "I") (by decide +kernel)) (fun _ h9 => h9) rfl (by decide +kernel) rfl rfl (Nat.le_of_ble_eq_true rfl) dX6_saves_47 (fun H locs hP hD hS => ?_)
    have hP : va_P D vwCl ([(h6, .inr (6, [.int thr, .ref h6_ms, .ref h6_mv, .int (svm - 1), .ref h6_mb, .int mln, .ref h6_mc, .ref h6_mg, .ref h6_mt, .ref h6_ml, .int mat, .int wel, .ref h6_mr, .int rdm, .long hsh])), (h6_ms, .inl (cI, 253, .inl ms)), (h6_mv, .inl (cI, 1518, .inl x7)), (h6_mb, .inl (cI, 60, .inl mb)), (h6_mc, .inl (cI, 160, .inl mc)), (h6_mg, .inl (cI, 160, .inl mg)), (h6_mt, .inl (cI, 240, .inl mt)), (h6_ml, .inl (cI, 240, .inl ml)), (h6_mr, .inl (cI, 600, .inl mr))] ++ []) H := hP
    have hD : va_D A ([(h6, .inr (6, [.int thr, .ref h6_ms, .ref h6_mv, .int (svm - 1), .ref h6_mb, .int mln, .ref h6_mc, .ref h6_mg, .ref h6_mt, .ref h6_ml, .int mat, .int wel, .ref h6_mr, .int rdm, .long hsh])), (h6_ms, .inl (cI, 253, .inl ms)), (h6_mv, .inl (cI, 1518, .inl x7)), (h6_mb, .inl (cI, 60, .inl mb)), (h6_mc, .inl (cI, 160, .inl mc)), (h6_mg, .inl (cI, 160, .inl mg)), (h6_mt, .inl (cI, 240, .inl mt)), (h6_ml, .inl (cI, 240, .inl ml)), (h6_mr, .inl (cI, 600, .inl mr))] ++ []) := hD
    cases h
    exact Jx1 _ _ _ hP hD hS (lv_sub hl [0] rfl)
def fX6_firstPlace (ms : Nat → Int32) : Option Int32 :=
  if oob 2 253 then none else
  if (ms (2 : Int32).toNatClampNeg) = 0 then
  some 0
  else
  if oob 1 253 then none else
  some (ms (1 : Int32).toNatClampNeg)
abbrev rmX6_firstPlace : Room := { frames := 0, cells := 0, slots := 0, locals := 0 }
set_option maxHeartbeats 4000000 in
set_option maxRecDepth 100000 in
theorem mX6_firstPlace (l : Launch) (D : va_G) (cI cO cJ : ClassId) (h6 h6_ms h6_mv h6_mb h6_mc h6_mg h6_mt h6_ml h6_mr : Nat) (sz : Nat) (thr : Int32) (ms : Nat → Int32) (mv : Nat → Int32) (svm : Int32) (mb : Nat → Int32) (mln : Int32) (mc : Nat → Int32) (mg : Nat → Int32) (mt : Nat → Int32) (ml : Nat → Int32) (mat : Int32) (wel : Int32) (mr : Nat → Int32) (rdm : Int32) (hsh : Int64) (z : Int32) (h : fX6_firstPlace ms = some z) : Met l yX6_firstPlace wsX6_firstPlace rmX6_firstPlace (pw_pre D (tyL cI cO cJ) [.ref h6] [(h6, .inr (6, [.int thr, .ref h6_ms, .ref h6_mv, .int svm, .ref h6_mb, .int mln, .ref h6_mc, .ref h6_mg, .ref h6_mt, .ref h6_ml, .int mat, .int wel, .ref h6_mr, .int rdm, .long hsh])), (h6_ms, .inl (cI, 253, .inl ms)), (h6_mv, .inl (cI, 1518, .inl mv)), (h6_mb, .inl (cI, 60, .inl mb)), (h6_mc, .inl (cI, 160, .inl mc)), (h6_mg, .inl (cI, 160, .inl mg)), (h6_mt, .inl (cI, 240, .inl mt)), (h6_ml, .inl (cI, 240, .inl ml)), (h6_mr, .inl (cI, 600, .inl mr))] sz) (pw_i D [(h6, .inr (6, [.int thr, .ref h6_ms, .ref h6_mv, .int svm, .ref h6_mb, .int mln, .ref h6_mc, .ref h6_mg, .ref h6_mt, .ref h6_ml, .int mat, .int wel, .ref h6_mr, .int rdm, .long hsh])), (h6_ms, .inl (cI, 253, .inl ms)), (h6_mv, .inl (cI, 1518, .inl mv)), (h6_mb, .inl (cI, 60, .inl mb)), (h6_mc, .inl (cI, 160, .inl mc)), (h6_mg, .inl (cI, 160, .inl mg)), (h6_mt, .inl (cI, 240, .inl mt)), (h6_ml, .inl (cI, 240, .inl ml)), (h6_mr, .inl (cI, 600, .inl mr))] [(h6, .inr (6, [.int thr, .ref h6_ms, .ref h6_mv, .int svm, .ref h6_mb, .int mln, .ref h6_mc, .ref h6_mg, .ref h6_mt, .ref h6_ml, .int mat, .int wel, .ref h6_mr, .int rdm, .long hsh])), (h6_ms, .inl (cI, 253, .inl ms)), (h6_mv, .inl (cI, 1518, .inl mv)), (h6_mb, .inl (cI, 60, .inl mb)), (h6_mc, .inl (cI, 160, .inl mc)), (h6_mg, .inl (cI, 160, .inl mg)), (h6_mt, .inl (cI, 240, .inl mt)), (h6_ml, .inl (cI, 240, .inl ml)), (h6_mr, .inl (cI, 600, .inl mr))] z sz) 0 0 (va_A [(h6, .inr (6, [.int thr, .ref h6_ms, .ref h6_mv, .int svm, .ref h6_mb, .int mln, .ref h6_mc, .ref h6_mg, .ref h6_mt, .ref h6_ml, .int mat, .int wel, .ref h6_mr, .int rdm, .long hsh])), (h6_ms, .inl (cI, 253, .inl ms)), (h6_mv, .inl (cI, 1518, .inl mv)), (h6_mb, .inl (cI, 60, .inl mb)), (h6_mc, .inl (cI, 160, .inl mc)), (h6_mg, .inl (cI, 160, .inl mg)), (h6_mt, .inl (cI, 240, .inl mt)), (h6_ml, .inl (cI, 240, .inl ml)), (h6_mr, .inl (cI, 600, .inl mr))] sz) := by
  refine pw_of (Qc := fun sz => pw_i D [(h6, .inr (6, [.int thr, .ref h6_ms, .ref h6_mv, .int svm, .ref h6_mb, .int mln, .ref h6_mc, .ref h6_mg, .ref h6_mt, .ref h6_ml, .int mat, .int wel, .ref h6_mr, .int rdm, .long hsh])), (h6_ms, .inl (cI, 253, .inl ms)), (h6_mv, .inl (cI, 1518, .inl mv)), (h6_mb, .inl (cI, 60, .inl mb)), (h6_mc, .inl (cI, 160, .inl mc)), (h6_mg, .inl (cI, 160, .inl mg)), (h6_mt, .inl (cI, 240, .inl mt)), (h6_ml, .inl (cI, 240, .inl ml)), (h6_mr, .inl (cI, 600, .inl mr))] [(h6, .inr (6, [.int thr, .ref h6_ms, .ref h6_mv, .int svm, .ref h6_mb, .int mln, .ref h6_mc, .ref h6_mg, .ref h6_mt, .ref h6_ml, .int mat, .int wel, .ref h6_mr, .int rdm, .long hsh])), (h6_ms, .inl (cI, 253, .inl ms)), (h6_mv, .inl (cI, 1518, .inl mv)), (h6_mb, .inl (cI, 60, .inl mb)), (h6_mc, .inl (cI, 160, .inl mc)), (h6_mg, .inl (cI, 160, .inl mg)), (h6_mt, .inl (cI, 240, .inl mt)), (h6_ml, .inl (cI, 240, .inl ml)), (h6_mr, .inl (cI, 600, .inl mr))] z sz) (cc := cX6_firstPlace) (maxL := 1) (ret := (some .int)) (by decide) rfl (Nat.le_of_ble_eq_true rfl) ?_
  intro p e s m args below meth c A Q H ls hx hb hml hr hts hown hlocks hAe hQ hK hN hA hP hD hS hl
  have hown : s.vm.findClass RX6 = some m.cls := hown
  have hl : lv_has ls 1 [(0, .ref h6)] := hl
  have hP : va_P D vwCl ([(h6, .inr (6, [.int thr, .ref h6_ms, .ref h6_mv, .int svm, .ref h6_mb, .int mln, .ref h6_mc, .ref h6_mg, .ref h6_mt, .ref h6_ml, .int mat, .int wel, .ref h6_mr, .int rdm, .long hsh])), (h6_ms, .inl (cI, 253, .inl ms)), (h6_mv, .inl (cI, 1518, .inl mv)), (h6_mb, .inl (cI, 60, .inl mb)), (h6_mc, .inl (cI, 160, .inl mc)), (h6_mg, .inl (cI, 160, .inl mg)), (h6_mt, .inl (cI, 240, .inl mt)), (h6_ml, .inl (cI, 240, .inl ml)), (h6_mr, .inl (cI, 600, .inl mr))] ++ []) H := hP
  have hD : va_D A ([(h6, .inr (6, [.int thr, .ref h6_ms, .ref h6_mv, .int svm, .ref h6_mb, .int mln, .ref h6_mc, .ref h6_mg, .ref h6_mt, .ref h6_ml, .int mat, .int wel, .ref h6_mr, .int rdm, .long hsh])), (h6_ms, .inl (cI, 253, .inl ms)), (h6_mv, .inl (cI, 1518, .inl mv)), (h6_mb, .inl (cI, 60, .inl mb)), (h6_mc, .inl (cI, 160, .inl mc)), (h6_mg, .inl (cI, 160, .inl mg)), (h6_mt, .inl (cI, 240, .inl mt)), (h6_ml, .inl (cI, 240, .inl ml)), (h6_mr, .inl (cI, 600, .inl mr))] ++ []) := hD
  have iX6 : ∀ w ∈ u_ws RX6 TX6 15, w ∈ wsX6_firstPlace := fun _ h => List.mem_cons_of_mem _ (List.mem_append_right _ h)
  unfold fX6_firstPlace at h
  refine lv_aload_n hx hb dX6_firstPlace_0 rfl (lv_at hl 0 rfl) ?_
  refine va_get (D := D) (ci := 6) (v := .ref h6_ms) (C := RX6) (T := TX6) (N := 15) hx hb hts iX6 hown hK hP 0 rfl rfl 1 (by decide) (hts (.fieldLink RX6 7 "HiddenPeriodsModel" "s" "[I") (by decide +kernel)) (fun _ h9 => h9) rfl dX6_firstPlace_1 ?_
  refine lv_iconst (v := 2) hx hb dX6_firstPlace_4 (by decide) ?_
  obtain ⟨g1, h⟩ := gdn h
  refine va_iald hx hb hK hP 1 0 rfl rfl g1 dX6_firstPlace_5 ?_
  refine lv_if_ne (tgt := 13) hx hb dX6_firstPlace_6 (by decide) (fun cq => ?_) (fun cq => ?_)
  · replace h := ifn cq h
    refine lv_aload_n hx hb dX6_firstPlace_13 rfl (lv_at hl 0 rfl) ?_
    refine va_get (D := D) (ci := 6) (v := .ref h6_ms) (C := RX6) (T := TX6) (N := 15) hx hb hts iX6 hown hK hP 0 rfl rfl 1 (by decide) (hts (.fieldLink RX6 7 "HiddenPeriodsModel" "s" "[I") (by decide +kernel)) (fun _ h9 => h9) rfl dX6_firstPlace_14 ?_
    refine lv_iconst (v := 1) hx hb dX6_firstPlace_17 (by decide) ?_
    obtain ⟨g2, h⟩ := gdn h
    refine va_iald hx hb hK hP 1 0 rfl rfl g2 dX6_firstPlace_18 ?_
    cases h
    exact pw_iret hx hb hr hlocks hAe hQ hP hD hS dX6_firstPlace_19
  · replace h := ifp cq h
    refine lv_iconst (v := 0) hx hb dX6_firstPlace_9 (by decide) ?_
    refine lv_goto (tgt := 19) hx hb dX6_firstPlace_10 (by decide) ?_
    cases h
    exact pw_iret hx hb hr hlocks hAe hQ hP hD hS dX6_firstPlace_19
def fX6_lastPlace (ms : Nat → Int32) : Option Int32 :=
  if oob 2 253 then none else
  (if (ms (2 : Int32).toNatClampNeg) = 0 then
  if oob 0 253 then none else
  some (ms (0 : Int32).toNatClampNeg)
  else
  if oob 1 253 then none else
  if oob 2 253 then none else
  some ((ms (1 : Int32).toNatClampNeg) + (ms (2 : Int32).toNatClampNeg)) : Option Int32).bind fun x2 =>
  if oob 0 253 then none else
  (if (ms (0 : Int32).toNatClampNeg) ≤ x2 then
  if oob 0 253 then none else
  some (ms (0 : Int32).toNatClampNeg)
  else
  some x2 : Option Int32).bind fun x4 =>
  (fX6_firstPlace ms).bind fun x5 =>
  if x5 ≤ x4 then
  some x4
  else
  (fX6_firstPlace ms).bind fun x6 =>
  some x6
abbrev rmX6_lastPlace : Room := { frames := 1, cells := 0, slots := 0, locals := 20 }
set_option maxHeartbeats 4000000 in
set_option maxRecDepth 100000 in
theorem mX6_lastPlace (l : Launch) (D : va_G) (cI cO cJ : ClassId) (h6 h6_ms h6_mv h6_mb h6_mc h6_mg h6_mt h6_ml h6_mr : Nat) (sz : Nat) (thr : Int32) (ms : Nat → Int32) (mv : Nat → Int32) (svm : Int32) (mb : Nat → Int32) (mln : Int32) (mc : Nat → Int32) (mg : Nat → Int32) (mt : Nat → Int32) (ml : Nat → Int32) (mat : Int32) (wel : Int32) (mr : Nat → Int32) (rdm : Int32) (hsh : Int64) (z : Int32) (h : fX6_lastPlace ms = some z) : Met l yX6_lastPlace wsX6_lastPlace rmX6_lastPlace (pw_pre D (tyL cI cO cJ) [.ref h6] [(h6, .inr (6, [.int thr, .ref h6_ms, .ref h6_mv, .int svm, .ref h6_mb, .int mln, .ref h6_mc, .ref h6_mg, .ref h6_mt, .ref h6_ml, .int mat, .int wel, .ref h6_mr, .int rdm, .long hsh])), (h6_ms, .inl (cI, 253, .inl ms)), (h6_mv, .inl (cI, 1518, .inl mv)), (h6_mb, .inl (cI, 60, .inl mb)), (h6_mc, .inl (cI, 160, .inl mc)), (h6_mg, .inl (cI, 160, .inl mg)), (h6_mt, .inl (cI, 240, .inl mt)), (h6_ml, .inl (cI, 240, .inl ml)), (h6_mr, .inl (cI, 600, .inl mr))] sz) (pw_i D [(h6, .inr (6, [.int thr, .ref h6_ms, .ref h6_mv, .int svm, .ref h6_mb, .int mln, .ref h6_mc, .ref h6_mg, .ref h6_mt, .ref h6_ml, .int mat, .int wel, .ref h6_mr, .int rdm, .long hsh])), (h6_ms, .inl (cI, 253, .inl ms)), (h6_mv, .inl (cI, 1518, .inl mv)), (h6_mb, .inl (cI, 60, .inl mb)), (h6_mc, .inl (cI, 160, .inl mc)), (h6_mg, .inl (cI, 160, .inl mg)), (h6_mt, .inl (cI, 240, .inl mt)), (h6_ml, .inl (cI, 240, .inl ml)), (h6_mr, .inl (cI, 600, .inl mr))] [(h6, .inr (6, [.int thr, .ref h6_ms, .ref h6_mv, .int svm, .ref h6_mb, .int mln, .ref h6_mc, .ref h6_mg, .ref h6_mt, .ref h6_ml, .int mat, .int wel, .ref h6_mr, .int rdm, .long hsh])), (h6_ms, .inl (cI, 253, .inl ms)), (h6_mv, .inl (cI, 1518, .inl mv)), (h6_mb, .inl (cI, 60, .inl mb)), (h6_mc, .inl (cI, 160, .inl mc)), (h6_mg, .inl (cI, 160, .inl mg)), (h6_mt, .inl (cI, 240, .inl mt)), (h6_ml, .inl (cI, 240, .inl ml)), (h6_mr, .inl (cI, 600, .inl mr))] z sz) 0 0 (va_A [(h6, .inr (6, [.int thr, .ref h6_ms, .ref h6_mv, .int svm, .ref h6_mb, .int mln, .ref h6_mc, .ref h6_mg, .ref h6_mt, .ref h6_ml, .int mat, .int wel, .ref h6_mr, .int rdm, .long hsh])), (h6_ms, .inl (cI, 253, .inl ms)), (h6_mv, .inl (cI, 1518, .inl mv)), (h6_mb, .inl (cI, 60, .inl mb)), (h6_mc, .inl (cI, 160, .inl mc)), (h6_mg, .inl (cI, 160, .inl mg)), (h6_mt, .inl (cI, 240, .inl mt)), (h6_ml, .inl (cI, 240, .inl ml)), (h6_mr, .inl (cI, 600, .inl mr))] sz) := by
  refine pw_of (Qc := fun sz => pw_i D [(h6, .inr (6, [.int thr, .ref h6_ms, .ref h6_mv, .int svm, .ref h6_mb, .int mln, .ref h6_mc, .ref h6_mg, .ref h6_mt, .ref h6_ml, .int mat, .int wel, .ref h6_mr, .int rdm, .long hsh])), (h6_ms, .inl (cI, 253, .inl ms)), (h6_mv, .inl (cI, 1518, .inl mv)), (h6_mb, .inl (cI, 60, .inl mb)), (h6_mc, .inl (cI, 160, .inl mc)), (h6_mg, .inl (cI, 160, .inl mg)), (h6_mt, .inl (cI, 240, .inl mt)), (h6_ml, .inl (cI, 240, .inl ml)), (h6_mr, .inl (cI, 600, .inl mr))] [(h6, .inr (6, [.int thr, .ref h6_ms, .ref h6_mv, .int svm, .ref h6_mb, .int mln, .ref h6_mc, .ref h6_mg, .ref h6_mt, .ref h6_ml, .int mat, .int wel, .ref h6_mr, .int rdm, .long hsh])), (h6_ms, .inl (cI, 253, .inl ms)), (h6_mv, .inl (cI, 1518, .inl mv)), (h6_mb, .inl (cI, 60, .inl mb)), (h6_mc, .inl (cI, 160, .inl mc)), (h6_mg, .inl (cI, 160, .inl mg)), (h6_mt, .inl (cI, 240, .inl mt)), (h6_ml, .inl (cI, 240, .inl ml)), (h6_mr, .inl (cI, 600, .inl mr))] z sz) (cc := cX6_lastPlace) (maxL := 2) (ret := (some .int)) (by decide) rfl (Nat.le_of_ble_eq_true rfl) ?_
  intro p e s m args below meth c A Q H ls hx hb hml hr hts hown hlocks hAe hQ hK hN hA hP hD hS hl
  have hown : s.vm.findClass RX6 = some m.cls := hown
  have hl : lv_has ls 2 [(0, .ref h6)] := hl
  have hP : va_P D vwCl ([(h6, .inr (6, [.int thr, .ref h6_ms, .ref h6_mv, .int svm, .ref h6_mb, .int mln, .ref h6_mc, .ref h6_mg, .ref h6_mt, .ref h6_ml, .int mat, .int wel, .ref h6_mr, .int rdm, .long hsh])), (h6_ms, .inl (cI, 253, .inl ms)), (h6_mv, .inl (cI, 1518, .inl mv)), (h6_mb, .inl (cI, 60, .inl mb)), (h6_mc, .inl (cI, 160, .inl mc)), (h6_mg, .inl (cI, 160, .inl mg)), (h6_mt, .inl (cI, 240, .inl mt)), (h6_ml, .inl (cI, 240, .inl ml)), (h6_mr, .inl (cI, 600, .inl mr))] ++ []) H := hP
  have hD : va_D A ([(h6, .inr (6, [.int thr, .ref h6_ms, .ref h6_mv, .int svm, .ref h6_mb, .int mln, .ref h6_mc, .ref h6_mg, .ref h6_mt, .ref h6_ml, .int mat, .int wel, .ref h6_mr, .int rdm, .long hsh])), (h6_ms, .inl (cI, 253, .inl ms)), (h6_mv, .inl (cI, 1518, .inl mv)), (h6_mb, .inl (cI, 60, .inl mb)), (h6_mc, .inl (cI, 160, .inl mc)), (h6_mg, .inl (cI, 160, .inl mg)), (h6_mt, .inl (cI, 240, .inl mt)), (h6_ml, .inl (cI, 240, .inl ml)), (h6_mr, .inl (cI, 600, .inl mr))] ++ []) := hD
  have iX6 : ∀ w ∈ u_ws RX6 TX6 15, w ∈ wsX6_lastPlace := fun _ h => List.mem_cons_of_mem _ (List.mem_append_right _ h)
  unfold fX6_lastPlace at h
  refine lv_aload_n hx hb dX6_lastPlace_0 rfl (lv_at hl 0 rfl) ?_
  refine va_get (D := D) (ci := 6) (v := .ref h6_ms) (C := RX6) (T := TX6) (N := 15) hx hb hts iX6 hown hK hP 0 rfl rfl 1 (by decide) (hts (.fieldLink RX6 7 "HiddenPeriodsModel" "s" "[I") (by decide +kernel)) (fun _ h9 => h9) rfl dX6_lastPlace_1 ?_
  refine lv_iconst (v := 2) hx hb dX6_lastPlace_4 (by decide) ?_
  obtain ⟨g1, h⟩ := gdn h
  refine va_iald hx hb hK hP 1 0 rfl rfl g1 dX6_lastPlace_5 ?_
  obtain ⟨x2, hx2, h⟩ := bnd h
  have Jx2 : ∀ (H : Heap) (locs : List Loc) (ls : Array Slot), va_P D vwCl ([(h6, .inr (6, [.int thr, .ref h6_ms, .ref h6_mv, .int svm, .ref h6_mb, .int mln, .ref h6_mc, .ref h6_mg, .ref h6_mt, .ref h6_ml, .int mat, .int wel, .ref h6_mr, .int rdm, .long hsh])), (h6_ms, .inl (cI, 253, .inl ms)), (h6_mv, .inl (cI, 1518, .inl mv)), (h6_mb, .inl (cI, 60, .inl mb)), (h6_mc, .inl (cI, 160, .inl mc)), (h6_mg, .inl (cI, 160, .inl mg)), (h6_mt, .inl (cI, 240, .inl mt)), (h6_ml, .inl (cI, 240, .inl ml)), (h6_mr, .inl (cI, 600, .inl mr))] ++ []) H → va_D A ([(h6, .inr (6, [.int thr, .ref h6_ms, .ref h6_mv, .int svm, .ref h6_mb, .int mln, .ref h6_mc, .ref h6_mg, .ref h6_mt, .ref h6_ml, .int mat, .int wel, .ref h6_mr, .int rdm, .long hsh])), (h6_ms, .inl (cI, 253, .inl ms)), (h6_mv, .inl (cI, 1518, .inl mv)), (h6_mb, .inl (cI, 60, .inl mb)), (h6_mc, .inl (cI, 160, .inl mc)), (h6_mg, .inl (cI, 160, .inl mg)), (h6_mt, .inl (cI, 240, .inl mt)), (h6_ml, .inl (cI, 240, .inl ml)), (h6_mr, .inl (cI, 600, .inl mr))] ++ []) → va_S A s.heap H locs → lv_has ls 2 [(0, .ref h6)] → W p l e rmX6_lastPlace s m args below meth c H locs 0 0 Q (F0 m 31 ls [.int x2]) := by
    intro H locs ls hP hD hS hl
    refine lv_istore_n (lv' := [(1, .int x2), (0, .ref h6)]) hx hb dX6_lastPlace_31 rfl hl (by decide) rfl (fun ls hl => ?_)
    refine lv_iload_n hx hb dX6_lastPlace_32 rfl (lv_at hl 0 rfl) ?_
    refine lv_aload_n hx hb dX6_lastPlace_33 rfl (lv_at hl 1 rfl) ?_
    refine va_get (D := D) (ci := 6) (v := .ref h6_ms) (C := RX6) (T := TX6) (N := 15) hx hb hts iX6 hown hK hP 0 rfl rfl 1 (by decide) (hts (.fieldLink RX6 7 "HiddenPeriodsModel" "s" "[I") (by decide +kernel)) (fun _ h9 => h9) rfl dX6_lastPlace_34 ?_
    refine lv_iconst (v := 0) hx hb dX6_lastPlace_37 (by decide) ?_
    obtain ⟨g3, h⟩ := gdn h
    refine va_iald hx hb hK hP 1 0 rfl rfl g3 dX6_lastPlace_38 ?_
    obtain ⟨x4, hx4, h⟩ := bnd h
    have Jx4 : ∀ (H : Heap) (locs : List Loc) (ls : Array Slot), va_P D vwCl ([(h6, .inr (6, [.int thr, .ref h6_ms, .ref h6_mv, .int svm, .ref h6_mb, .int mln, .ref h6_mc, .ref h6_mg, .ref h6_mt, .ref h6_ml, .int mat, .int wel, .ref h6_mr, .int rdm, .long hsh])), (h6_ms, .inl (cI, 253, .inl ms)), (h6_mv, .inl (cI, 1518, .inl mv)), (h6_mb, .inl (cI, 60, .inl mb)), (h6_mc, .inl (cI, 160, .inl mc)), (h6_mg, .inl (cI, 160, .inl mg)), (h6_mt, .inl (cI, 240, .inl mt)), (h6_ml, .inl (cI, 240, .inl ml)), (h6_mr, .inl (cI, 600, .inl mr))] ++ []) H → va_D A ([(h6, .inr (6, [.int thr, .ref h6_ms, .ref h6_mv, .int svm, .ref h6_mb, .int mln, .ref h6_mc, .ref h6_mg, .ref h6_mt, .ref h6_ml, .int mat, .int wel, .ref h6_mr, .int rdm, .long hsh])), (h6_ms, .inl (cI, 253, .inl ms)), (h6_mv, .inl (cI, 1518, .inl mv)), (h6_mb, .inl (cI, 60, .inl mb)), (h6_mc, .inl (cI, 160, .inl mc)), (h6_mg, .inl (cI, 160, .inl mg)), (h6_mt, .inl (cI, 240, .inl mt)), (h6_ml, .inl (cI, 240, .inl ml)), (h6_mr, .inl (cI, 600, .inl mr))] ++ []) → va_S A s.heap H locs → lv_has ls 2 [(0, .ref h6)] → W p l e rmX6_lastPlace s m args below meth c H locs 0 0 Q (F0 m 52 ls [.int x4]) := by
      intro H locs ls hP hD hS hl
      refine lv_istore_n (lv' := [(1, .int x4), (0, .ref h6)]) hx hb dX6_lastPlace_52 rfl hl (by decide) rfl (fun ls hl => ?_)
      refine lv_iload_n hx hb dX6_lastPlace_53 rfl (lv_at hl 0 rfl) ?_
      refine lv_aload_n hx hb dX6_lastPlace_54 rfl (lv_at hl 1 rfl) ?_
      obtain ⟨x5, hx5, h⟩ := bnd h
      refine pw_goi (wc := [(h6, .inr (6, [.int thr, .ref h6_ms, .ref h6_mv, .int svm, .ref h6_mb, .int mln, .ref h6_mc, .ref h6_mg, .ref h6_mt, .ref h6_ml, .int mat, .int wel, .ref h6_mr, .int rdm, .long hsh])), (h6_ms, .inl (cI, 253, .inl ms)), (h6_mv, .inl (cI, 1518, .inl mv)), (h6_mb, .inl (cI, 60, .inl mb)), (h6_mc, .inl (cI, 160, .inl mc)), (h6_mg, .inl (cI, 160, .inl mg)), (h6_mt, .inl (cI, 240, .inl mt)), (h6_ml, .inl (cI, 240, .inl ml)), (h6_mr, .inl (cI, 600, .inl mr))]) (w1 := [(h6, .inr (6, [.int thr, .ref h6_ms, .ref h6_mv, .int svm, .ref h6_mb, .int mln, .ref h6_mc, .ref h6_mg, .ref h6_mt, .ref h6_ml, .int mat, .int wel, .ref h6_mr, .int rdm, .long hsh])), (h6_ms, .inl (cI, 253, .inl ms)), (h6_mv, .inl (cI, 1518, .inl mv)), (h6_mb, .inl (cI, 60, .inl mb)), (h6_mc, .inl (cI, 160, .inl mc)), (h6_mg, .inl (cI, 160, .inl mg)), (h6_mt, .inl (cI, 240, .inl mt)), (h6_ml, .inl (cI, 240, .inl ml)), (h6_mr, .inl (cI, 600, .inl mr))]) (w2 := [(h6, .inr (6, [.int thr, .ref h6_ms, .ref h6_mv, .int svm, .ref h6_mb, .int mln, .ref h6_mc, .ref h6_mg, .ref h6_mt, .ref h6_ml, .int mat, .int wel, .ref h6_mr, .int rdm, .long hsh])), (h6_ms, .inl (cI, 253, .inl ms)), (h6_mv, .inl (cI, 1518, .inl mv)), (h6_mb, .inl (cI, 60, .inl mb)), (h6_mc, .inl (cI, 160, .inl mc)), (h6_mg, .inl (cI, 160, .inl mg)), (h6_mt, .inl (cI, 240, .inl mt)), (h6_ml, .inl (cI, 240, .inl ml)), (h6_mr, .inl (cI, 600, .inl mr))]) (va_runV (As := []) (rest := [.int x4]) ⟨hx, hb, hml, hown, hts⟩ (mX6_firstPlace l D cI cO cJ h6 h6_ms h6_mv h6_mb h6_mc h6_mg h6_mt h6_ml h6_mr H.size thr ms mv svm mb mln mc mg mt ml mat wel mr rdm hsh _ hx5) (cwV 0 hts gX6_lastPlace_X6_firstPlace rfl rfl rfl (by decide +kernel) ⟨Nat.le_of_ble_eq_true rfl, Nat.le_of_ble_eq_true rfl⟩) (pw_preV hK hN (pw_sub hP [0, 1, 2, 3, 4, 5, 6, 7, 8] rfl) (pw_subD hD [0, 1, 2, 3, 4, 5, 6, 7, 8] (by decide) rfl) (ci := 6) (q0 := 0) rfl rfl) rfl rfl hl.1 rfl (lv_room (Nat.le_of_ble_eq_true rfl)) dX6_lastPlace_55 ⟨Nat.zero_le _, Nat.zero_le _⟩) hP hD hS hA [0, 1, 2, 3, 4, 5, 6, 7, 8] [] [0, 1, 2, 3, 4, 5, 6, 7, 8] rfl rfl (by decide) (by decide) (by decide) rfl (fun H locs hP hD hS => ?_)
      refine lv_icmp_ge (tgt := 68) hx hb dX6_lastPlace_58 (by decide) (fun cq => ?_) (fun cq => ?_)
      · replace h := ifp cq h
        refine lv_iload_n hx hb dX6_lastPlace_68 rfl (lv_at hl 0 rfl) ?_
        cases h
        exact pw_iret hx hb hr hlocks hAe hQ hP hD hS dX6_lastPlace_69
      · replace h := ifn cq h
        refine lv_aload_n hx hb dX6_lastPlace_61 rfl (lv_at hl 1 rfl) ?_
        obtain ⟨x6, hx6, h⟩ := bnd h
        refine pw_goi (wc := [(h6, .inr (6, [.int thr, .ref h6_ms, .ref h6_mv, .int svm, .ref h6_mb, .int mln, .ref h6_mc, .ref h6_mg, .ref h6_mt, .ref h6_ml, .int mat, .int wel, .ref h6_mr, .int rdm, .long hsh])), (h6_ms, .inl (cI, 253, .inl ms)), (h6_mv, .inl (cI, 1518, .inl mv)), (h6_mb, .inl (cI, 60, .inl mb)), (h6_mc, .inl (cI, 160, .inl mc)), (h6_mg, .inl (cI, 160, .inl mg)), (h6_mt, .inl (cI, 240, .inl mt)), (h6_ml, .inl (cI, 240, .inl ml)), (h6_mr, .inl (cI, 600, .inl mr))]) (w1 := [(h6, .inr (6, [.int thr, .ref h6_ms, .ref h6_mv, .int svm, .ref h6_mb, .int mln, .ref h6_mc, .ref h6_mg, .ref h6_mt, .ref h6_ml, .int mat, .int wel, .ref h6_mr, .int rdm, .long hsh])), (h6_ms, .inl (cI, 253, .inl ms)), (h6_mv, .inl (cI, 1518, .inl mv)), (h6_mb, .inl (cI, 60, .inl mb)), (h6_mc, .inl (cI, 160, .inl mc)), (h6_mg, .inl (cI, 160, .inl mg)), (h6_mt, .inl (cI, 240, .inl mt)), (h6_ml, .inl (cI, 240, .inl ml)), (h6_mr, .inl (cI, 600, .inl mr))]) (w2 := [(h6, .inr (6, [.int thr, .ref h6_ms, .ref h6_mv, .int svm, .ref h6_mb, .int mln, .ref h6_mc, .ref h6_mg, .ref h6_mt, .ref h6_ml, .int mat, .int wel, .ref h6_mr, .int rdm, .long hsh])), (h6_ms, .inl (cI, 253, .inl ms)), (h6_mv, .inl (cI, 1518, .inl mv)), (h6_mb, .inl (cI, 60, .inl mb)), (h6_mc, .inl (cI, 160, .inl mc)), (h6_mg, .inl (cI, 160, .inl mg)), (h6_mt, .inl (cI, 240, .inl mt)), (h6_ml, .inl (cI, 240, .inl ml)), (h6_mr, .inl (cI, 600, .inl mr))]) (va_runV (As := []) (rest := []) ⟨hx, hb, hml, hown, hts⟩ (mX6_firstPlace l D cI cO cJ h6 h6_ms h6_mv h6_mb h6_mc h6_mg h6_mt h6_ml h6_mr H.size thr ms mv svm mb mln mc mg mt ml mat wel mr rdm hsh _ hx6) (cwV 0 hts gX6_lastPlace_X6_firstPlace rfl rfl rfl (by decide +kernel) ⟨Nat.le_of_ble_eq_true rfl, Nat.le_of_ble_eq_true rfl⟩) (pw_preV hK hN (pw_sub hP [0, 1, 2, 3, 4, 5, 6, 7, 8] rfl) (pw_subD hD [0, 1, 2, 3, 4, 5, 6, 7, 8] (by decide) rfl) (ci := 6) (q0 := 0) rfl rfl) rfl rfl hl.1 rfl (lv_room (Nat.le_of_ble_eq_true rfl)) dX6_lastPlace_62 ⟨Nat.zero_le _, Nat.zero_le _⟩) hP hD hS hA [0, 1, 2, 3, 4, 5, 6, 7, 8] [] [0, 1, 2, 3, 4, 5, 6, 7, 8] rfl rfl (by decide) (by decide) (by decide) rfl (fun H locs hP hD hS => ?_)
        refine lv_goto (tgt := 69) hx hb dX6_lastPlace_65 (by decide) ?_
        cases h
        exact pw_iret hx hb hr hlocks hAe hQ hP hD hS dX6_lastPlace_69
    replace h := hx4
    refine lv_icmp_ge (tgt := 46) hx hb dX6_lastPlace_39 (by decide) (fun cq => ?_) (fun cq => ?_)
    · replace h := ifp cq h
      refine lv_aload_n hx hb dX6_lastPlace_46 rfl (lv_at hl 1 rfl) ?_
      refine va_get (D := D) (ci := 6) (v := .ref h6_ms) (C := RX6) (T := TX6) (N := 15) hx hb hts iX6 hown hK hP 0 rfl rfl 1 (by decide) (hts (.fieldLink RX6 7 "HiddenPeriodsModel" "s" "[I") (by decide +kernel)) (fun _ h9 => h9) rfl dX6_lastPlace_47 ?_
      refine lv_iconst (v := 0) hx hb dX6_lastPlace_50 (by decide) ?_
      obtain ⟨g7, h⟩ := gdn h
      refine va_iald hx hb hK hP 1 0 rfl rfl g7 dX6_lastPlace_51 ?_
      cases h
      exact Jx4 _ _ _ hP hD hS (lv_sub hl [1] rfl)
    · replace h := ifn cq h
      refine lv_iload_n hx hb dX6_lastPlace_42 rfl (lv_at hl 0 rfl) ?_
      refine lv_goto (tgt := 52) hx hb dX6_lastPlace_43 (by decide) ?_
      cases h
      exact Jx4 _ _ _ hP hD hS (lv_sub hl [1] rfl)
  replace h := hx2
  refine lv_if_ne (tgt := 18) hx hb dX6_lastPlace_6 (by decide) (fun cq => ?_) (fun cq => ?_)
  · replace h := ifn cq h
    refine lv_aload_n hx hb dX6_lastPlace_18 rfl (lv_at hl 0 rfl) ?_
    refine va_get (D := D) (ci := 6) (v := .ref h6_ms) (C := RX6) (T := TX6) (N := 15) hx hb hts iX6 hown hK hP 0 rfl rfl 1 (by decide) (hts (.fieldLink RX6 7 "HiddenPeriodsModel" "s" "[I") (by decide +kernel)) (fun _ h9 => h9) rfl dX6_lastPlace_19 ?_
    refine lv_iconst (v := 1) hx hb dX6_lastPlace_22 (by decide) ?_
    obtain ⟨g8, h⟩ := gdn h
    refine va_iald hx hb hK hP 1 0 rfl rfl g8 dX6_lastPlace_23 ?_
    refine lv_aload_n hx hb dX6_lastPlace_24 rfl (lv_at hl 0 rfl) ?_
    refine va_get (D := D) (ci := 6) (v := .ref h6_ms) (C := RX6) (T := TX6) (N := 15) hx hb hts iX6 hown hK hP 0 rfl rfl 1 (by decide) (hts (.fieldLink RX6 7 "HiddenPeriodsModel" "s" "[I") (by decide +kernel)) (fun _ h9 => h9) rfl dX6_lastPlace_25 ?_
    refine lv_iconst (v := 2) hx hb dX6_lastPlace_28 (by decide) ?_
    obtain ⟨g9, h⟩ := gdn h
    refine va_iald hx hb hK hP 1 0 rfl rfl g9 dX6_lastPlace_29 ?_
    refine lv_iadd hx hb dX6_lastPlace_30 ?_
    cases h
    exact Jx2 _ _ _ hP hD hS (lv_sub hl [0] rfl)
  · replace h := ifp cq h
    refine lv_aload_n hx hb dX6_lastPlace_9 rfl (lv_at hl 0 rfl) ?_
    refine va_get (D := D) (ci := 6) (v := .ref h6_ms) (C := RX6) (T := TX6) (N := 15) hx hb hts iX6 hown hK hP 0 rfl rfl 1 (by decide) (hts (.fieldLink RX6 7 "HiddenPeriodsModel" "s" "[I") (by decide +kernel)) (fun _ h9 => h9) rfl dX6_lastPlace_10 ?_
    refine lv_iconst (v := 0) hx hb dX6_lastPlace_13 (by decide) ?_
    obtain ⟨g10, h⟩ := gdn h
    refine va_iald hx hb hK hP 1 0 rfl rfl g10 dX6_lastPlace_14 ?_
    refine lv_goto (tgt := 31) hx hb dX6_lastPlace_15 (by decide) ?_
    cases h
    exact Jx2 _ _ _ hP hD hS (lv_sub hl [0] rfl)

/-! THE CLAIM OUT OF ONE WALK OF THE LAW'S BODY. Your part is whole_start (and what it stands on); all else here is the same for every law, but numbers. -/
def R_law : String := "HiddenPeriodsLaw"
def lw_P (b : Addr) (xs : List Int32) (args : Array Value) (s : State) : Prop := args = #[.ref b] ∧ s.IntsAt b xs ∧ xs.length ≤ 2048 ∧ (Jvm.Cond.and given_1 narrow_1).before args s = true
/-- what a walk over the start with the record d0 says of its end, said of the start itself -/
theorem lw_closed {s t : State} {o : Outcome} {d0 : Drawn} {L : List Loc} {k n : Nat} (hd0 : s.drawn.sameBut d0 lw_cs) (hv : ∃ v, o = .returned v) (hW : (s.setDrawn d0).WarmedH t.vm) (hs : (s.setDrawn d0).sameButNew ({ t with vm := s.vm } : State) L k n) : State.butDraws s t lw_cs (fun t1 => Framed s o t1 L k n) := by
  have h2 : t.drawn = d0 := congrArg State.drawn hs.1
  refine ⟨⟨hv, hW, State.sameButNew.setDrawn hs s.drawn⟩, ?_, by decide⟩
  rw [h2]
  exact hd0
def lw_Q (_ : Array Value) (s : State) (o : Outcome) (t : State) : Prop := o = .returned (some (.int 1)) ∧ State.butDraws s t lw_cs (fun t1 => Framed s o t1 [] 601024 7293034)
def lw_Z (below : List Frame) (a : Array Value) (s : State) : State → Prop := fun t => ∃ o, t.status = .running ∧ Ended t below o ∧ lw_Q a s o t
/-- the law's own end, with 1 on the stack, nothing written that was there before, its room as the claim has it; d0: the record of draws at this point (at the entry s.drawn: begin with 'refine W.base ?_' and 'have hd0 := Drawn.sameBut.refl s.drawn lw_cs') -/
theorem lw_ret {p : Program} {l : Launch} {e : Env} {s : State} {m : MethodId} {below : List Frame} {meth : Method} {c : Code} {b : Nat} {d0 : Drawn} (hd0 : s.drawn.sameBut d0 lw_cs) (hx : p.tables.exec = Jvm.exec) (hb : c.code = code) (hr : meth.sig.returnType = ret) (hlocks : meth.locks = false) {pc : Nat} {H : Heap} {ls : Array Slot} (hdg : decode code pc = .ok (.ireturn, 1)) : W p l e room_1 (s.setDrawn d0) m #[Value.ref b] below meth c H [] 601024 7293034 (lw_Z below #[Value.ref b] s) (F0 m pc ls [.int 1]) := by
  intro T hT X
  obtain ⟨fs, hret, hrun, hended, hW, hframe⟩ := X.leave (v := some (.int 1)) (hlocks := hlocks) (fun h => by rw [hr] at h; cases h)
  have hmeth' : T.vm.method? m = some meth := X.method'
  refine ⟨T.setFrames fs, ?_, .returned (some (.int 1)), hrun, hended, rfl, lw_closed hd0 ⟨_, rfl⟩ hW hframe⟩
  jvm_step X.here [X.here.top, hx, hb, hdg, hmeth', hr, ret, narrow_b1]
  (try refine ⟨rfl, ?_⟩); (try refine ⟨rfl, ?_⟩)
  first | (intro acts; rw [hret _ acts rfl rfl rfl]) | rw [hret _ _ rfl rfl rfl]
  exact Steps.refl _
/-- what holds at the law's entry: the machine, the code, the tables' words (any of lw_tbl by 'hts w (by decide +kernel)'), the script of L ints xs at the cell b, what the Statement gives of the start (any of its parts by flat_of_before) -/
def lw_At (p : Program) (s : State) (m : MethodId) (meth : Method) (c : Code) (b L : Nat) (xs : Nat → Int32) : Prop :=
  p.tables.exec = Jvm.exec ∧ c.code = code ∧ meth.sig.returnType = ret ∧ c.maxLocals = 9 ∧ s.vm.findClass R_law = some m.cls ∧ (∀ w ∈ lw_tbl, w.before #[Value.ref b] s = true) ∧ va_X b L xs s s.heap ∧ b < s.heap.size ∧ meth.locks = false ∧ (Jvm.Cond.and given_1 narrow_1).before #[Value.ref b] s = true
theorem pw_nest_tbl : ∀ w ∈ pw_nest, w ∈ lw_tbl := by decide +kernel
theorem st_N {s : State} {args : Array Value} (hts : ∀ w ∈ lw_tbl, w.before args s = true) : pw_N s := fun w hw => va_Nw.of (pw_kind w hw).1 (hts w (pw_nest_tbl w hw))
theorem st_cast_tbl : ∀ w ∈ px_cast, w ∈ lw_tbl := by decide +kernel
theorem st_str_tbl : ∀ q ∈ px_strs, Cond.stringRef RX5 q.1 q.2 ∈ lw_tbl := by decide +kernel
theorem st_str_giv : ∀ q ∈ px_strs, Cond.exactly (.string RX5 q.1) "java/lang/String" ∈ flatC (Jvm.Cond.and given_1 narrow_1) := by decide +kernel
theorem st_T {s : State} {args : Array Value} (hts : ∀ w ∈ lw_tbl, w.before args s = true) (hgv : ∀ w ∈ flatC (Jvm.Cond.and given_1 narrow_1), w.before args s = true) : px_T s := by
  refine ⟨fun q hq => ?_, fun w hw => ?_⟩
  · obtain ⟨a, c, cA, kA, q1, -⟩ := Cond.exactly_spec (hgv _ (st_str_giv q hq))
    exact ⟨a, vk_R.of (hts _ (st_str_tbl q hq)) q1⟩
  · rcases px_castk w hw with ⟨C, T, rfl⟩ | ⟨y, rfl⟩
    · exact va_Nw.of rfl (hts _ (st_cast_tbl _ hw))
    · exact va_Nw.of rfl (hts _ (st_cast_tbl _ hw))
theorem st_nc0 : Cond.not (.castable "java/lang/IllegalStateException" "java/lang/IllegalArgumentException") ∈ flatC (Jvm.Cond.and given_1 narrow_1) := by decide +kernel
theorem st_nc1 : Cond.not (.castable "java/lang/IllegalArgumentException" "java/lang/IndexOutOfBoundsException") ∈ flatC (Jvm.Cond.and given_1 narrow_1) := by decide +kernel
theorem st_C {s : State} {args : Array Value} (hgv : ∀ w ∈ flatC (Jvm.Cond.and given_1 narrow_1), w.before args s = true) : px_C s := ⟨va_Nc.of (hgv _ st_nc0), va_Nc.of (hgv _ st_nc1)⟩
theorem st_us : Cond.isRef (.static Bundle.tN "UNASSIGNED_STACK" Bundle.steD) ∈ flatC (Jvm.Cond.and given_1 narrow_1) := by decide +kernel
theorem st_ss : Cond.isRef (.static Bundle.tN "SUPPRESSED_SENTINEL" Bundle.listD) ∈ flatC (Jvm.Cond.and given_1 narrow_1) := by decide +kernel
theorem st_ul : Cond.laysStatic Bundle.tN "UNASSIGNED_STACK" Bundle.steD ∈ lw_tbl := by decide +kernel
theorem st_sl : Cond.laysStatic Bundle.tN "SUPPRESSED_SENTINEL" Bundle.listD ∈ lw_tbl := by decide +kernel
theorem st_ti : Cond.initialized Bundle.tN ∈ lw_tbl := by decide +kernel
theorem st_X {s : State} {args : Array Value} {A : Nat → Prop} (hts : ∀ w ∈ lw_tbl, w.before args s = true) (hgv : ∀ w ∈ flatC (Jvm.Cond.and given_1 narrow_1), w.before args s = true) (hA : ∀ a : Nat, a < s.heap.size → ¬ A a) : px_X A s s.heap := ⟨vx_Zqof (hts _ st_ul) (hts _ st_ti) (hgv _ st_us) hA, vx_Zqof (hts _ st_sl) (hts _ st_ti) (hgv _ st_ss) hA⟩
theorem st_O {s : State} {args : Array Value} (hts : ∀ w ∈ lw_tbl, w.before args s = true) : va_AO "HiddenPeriods$State" s := va_AO.of (hts (.arrayOver (.object "HiddenPeriods$State")) (by decide +kernel))
theorem st_K {s : State} {args : Array Value} (hts : ∀ w ∈ lw_tbl, w.before args s = true) : ∃ (dC : Nat → ClassId) (dI : Nat → Nat → Nat) (cI cO cJ : ClassId), va_K (dC, dI) vwCl (tyL cI cO cJ) s := by
  obtain ⟨c0, iS0, hKn0⟩ := u_known (C := RX0) (T := TX0) (N := 2) (n := 2) hts inX0 (hts (.instantiable RX0 2) (by decide +kernel))
  obtain ⟨c1, iS1, hKn1⟩ := u_known (C := RX1) (T := TX1) (N := 3) (n := 3) hts inX1 (hts (.instantiable RX1 3) (by decide +kernel))
  obtain ⟨c2, iS2, hKn2⟩ := u_known (C := RX2) (T := TX2) (N := 8) (n := 8) hts inX2 (hts (.instantiable RX2 8) (by decide +kernel))
  obtain ⟨c3, iS3, hKn3⟩ := u_known (C := RX3) (T := TX3) (N := 3) (n := 3) hts inX3 (hts (.instantiable RX3 3) (by decide +kernel))
  obtain ⟨c4, iS4, hKn4⟩ := u_known (C := RX4) (T := TX4) (N := 3) (n := 3) hts inX4 (hts (.instantiable RX4 3) (by decide +kernel))
  obtain ⟨c5, iS5, hKn5⟩ := u_known (C := RX5) (T := TX5) (N := 5) (n := 5) hts inX5 (hts (.instantiable RX5 5) (by decide +kernel))
  obtain ⟨c6, iS6, hKn6⟩ := u_known (C := RX6) (T := TX6) (N := 15) (n := 15) hts inX6 (hts (.instantiable RX6 15) (by decide +kernel))
  obtain ⟨cI, kI, compI, i1, i2, i3⟩ := Cond.arrayClass_spec (hts (.arrayClass .int) (by decide +kernel))
  obtain ⟨cJ, kJ, compJ, j1, j2, j3⟩ := Cond.arrayClass_spec (hts (.arrayClass .long) (by decide +kernel))
  obtain ⟨compO, cO, kO, o1, -, o2, o3, o4⟩ := Cond.arrayOver_spec (hts (.arrayOver (.object "HiddenPeriods$State")) (by decide +kernel))
  refine ⟨fun k => if k = 0 then c0 else if k = 1 then c1 else if k = 2 then c2 else if k = 3 then c3 else if k = 4 then c4 else if k = 5 then c5 else c6, fun k => if k = 0 then iS0 else if k = 1 then iS1 else if k = 2 then iS2 else if k = 3 then iS3 else if k = 4 then iS4 else if k = 5 then iS5 else iS6, cI, cO, cJ, ?_, ?_⟩
  · intro k q hq
    match k, hq with
    | 0, hq => cases hq; exact hKn0
    | 1, hq => cases hq; exact hKn1
    | 2, hq => cases hq; exact hKn2
    | 3, hq => cases hq; exact hKn3
    | 4, hq => cases hq; exact hKn4
    | 5, hq => cases hq; exact hKn5
    | 6, hq => cases hq; exact hKn6
    | k + 7, hq => simp [vwCl] at hq
  · intro k q hq
    match k, hq with
    | 0, hq => cases hq; exact ⟨fun n z => ⟨(fun k h => by cases h), kI, i2, compI, i3⟩, i1⟩
    | 1, hq => cases hq; exact ⟨fun n z => ⟨(fun k h => by cases h), kO, o2, compO, o3⟩, kO, compO, o2, o3, o1, o4⟩
    | 2, hq => cases hq; exact ⟨fun n z => ⟨(fun k h => by cases h), kJ, j2, compJ, j3⟩, j1⟩
    | k + 3, hq => simp at hq
/-! the values of the world before the first call, in the order of the loop -/
set_option maxHeartbeats 8000000 in
set_option maxRecDepth 100000 in
theorem whole_start (hgoal : ∀ (L : Nat) (xs : Nat → Int32), L ≤ 2048 → fL_law_L23 L xs FU 0 (fun _ => 0) (fun _ => 0) (fun _ => 0) 0 0 0 0 75 0 0 (fun _ => 0) (fun _ => 0) 0 (fun _ => 0) 0 (fun _ => 0) (fun _ => 0) (fun _ => 0) 0 (upd (fun _ => 0) (3 : Int32).toNatClampNeg 75) (fun _ => 0) 0 (fun _ => 0) 0 (fun _ => 0) (fun _ => 0) (fun _ => 0) (fun _ => 0) 0 0 (fun _ => 0) 0 0 (fun _ => 0) (fun _ => st0) = some 1) {p : Program} {e : Env} {s : State} {m : MethodId} {below : List Frame} {meth : Method} {c : Code} (l : Launch) (hflags : l.flags = flags0) {b L : Nat} {xs : Nat → Int32} (hL : L ≤ 2048) (C0 : lw_At p s m meth c b L xs) : W p l e room_1 s m #[Value.ref b] below meth c s.heap [] 0 0 (lw_Z below #[Value.ref b] s) (entryFrame m ([Value.ref b] : List Value).toArray 9) := by
  obtain ⟨hx, hb, hr, hml, hown, hts0, hX, hbl, hlocks, hgv⟩ := id C0
  have hst : l.stackTraces = false := by unfold Launch.stackTraces; rw [hflags]; decide +kernel
  have hd0 := Drawn.sameBut.refl s.drawn lw_cs
  refine W.base ?_
  have hts9 := dr_words hts0 s.drawn
  have hgv9 : ∀ w ∈ flatC (Jvm.Cond.and given_1 narrow_1), w.before #[Value.ref b] (s.setDrawn s.drawn) = true := dr_words (flat_of_before _ hgv) s.drawn
  have hts : ∀ w ∈ wsL_law, w.before #[Value.ref b] (s.setDrawn s.drawn) = true := fun w h => hts9 w (wsL_law_in w h)
  have hN := st_N hts9
  have hT := st_T hts9 hgv9
  have hC9 := st_C hgv9
  have hO := st_O hts9
  obtain ⟨A, hAe⟩ : ∃ A : Nat → Prop, A = fun q => s.heap.size ≤ q := ⟨_, rfl⟩
  have hA : ∀ q : Nat, s.heap.size ≤ q → A q := fun q h => by rw [hAe]; exact h
  have hbA : ¬ A b := by rw [hAe]; exact Nat.not_le.mpr hbl
  have hX9 : px_X A (s.setDrawn s.drawn) s.heap := st_X hts9 hgv9 (fun a h => by rw [hAe]; exact Nat.not_le.mpr h)
  obtain ⟨dC, dI, cI, cO, cJ, hK⟩ := st_K hts9
  obtain ⟨D, hDe⟩ : ∃ D : va_G, D = (dC, dI) := ⟨_, rfl⟩
  rw [← hDe] at hK
  have hS : va_S A s.heap s.heap [] := va_S.rf
  have hP : va_P D vwCl ([] ++ []) s.heap := pw_nilP
  have hD : va_D A ([] ++ []) := pw_nilD
  have hl := lv_entry ([.ref b]) (n := 9) (Nat.le_of_ble_eq_true rfl)
  rw [lg_entry_eq]
  generalize (lg_sl ([.ref b]) ++ List.replicate (9 - (lg_sl ([.ref b])).length) Slot.unset).toArray = ls at hl ⊢
  have hl : lv_has ls 9 [(0, .ref b)] := hl
  refine va_new (ci := 5) (fs := [.null, .null, .null, .null, .null]) (C := RX5) (T := TX5) (N := 5) hx hb hts inlX5 tyX5 tyX5_ok hown (hts (.classLink RL 8 RX5) (by decide +kernel)) (hts (.instantiable RX5 5) (by decide +kernel)) (hts (.initialized RX5) (by decide +kernel)) hK hP hD hS hA rfl (fun j hj => by rcases (show j = 0 ∨ j = 1 ∨ j = 2 ∨ j = 3 ∨ j = 4 by omega) with rfl | rfl | rfl | rfl | rfl <;> rfl) (Nat.le_of_ble_eq_true rfl) (Nat.le_of_ble_eq_true rfl) dL_law_0 (fun h5 H hP hD hS => ?_)
  have hP : va_P D vwCl ([(h5, .inr (5, [.null, .null, .null, .null, .null]))] ++ []) H := hP
  have hD : va_D A ([(h5, .inr (5, [.null, .null, .null, .null, .null]))] ++ []) := hD
  refine lv_dup hx hb dL_law_3 rfl ?_
  have hFc := pw_free (wc := [(h5, .inr (5, [.null, .null, .null, .null, .null]))]) hD hS hA [0] rfl
  refine va_callv (va_runI (As := []) (rest := [.ref h5]) ⟨hx, hb, hml, hown, hts⟩ (mX5_init l D cI cO cJ h5 H.size) (cwI 0 hts gL_law_X5_init rfl rfl rfl (hts (.initialized RX5) (by decide +kernel)) (hts (.methodLink RL 82 yX5_init) (by decide +kernel)) (hts (.instanceMethod yX5_init) (by decide +kernel)) rfl (by decide +kernel) ⟨(Nat.le_of_ble_eq_true rfl), (Nat.le_of_ble_eq_true rfl)⟩) (pc_preS hK hN hO (pw_sub hP [0] rfl) (pw_subD hD [0] (by decide) rfl)) rfl rfl hl.1 rfl (lv_room (Nat.le_of_ble_eq_true rfl)) dL_law_4 ⟨(Nat.le_of_ble_eq_true rfl), (Nat.le_of_ble_eq_true rfl)⟩) hS (fun q _ h => hFc q h) hFc (fun u t H1 locs ht hvm hw hB hz hk1 hS => ?_)
  obtain ⟨h2, h2_row, h2_ten, h2_pha, h1, h4, h4_cod, h4_unf, h0, h0_cel, h3, h3_str, h3_tlr, h3_tsg, h1a, rh, hP1, hD1⟩ := hB
  rw [ht] at hP1
  obtain ⟨hP, hD⟩ := va_joinQ (wr := []) (pl := []) (w1 := [(h5, .inr (5, [.ref h2, .ref h1, .ref h4, .ref h0, .ref h3])), (h2, .inr (2, [.ref h2_row, .ref h2_ten, .ref h2_pha, .int 0, .int 0, .int 0, .int 0, .int 75])), (h2_row, .inl (cI, 240, .inl (fun _ => 0))), (h2_ten, .inl (cI, 4, .inl (fun _ => 0))), (h2_pha, .inl (cI, 4, .inl (fun _ => 0))), (h1, .inr (1, [.ref h1a, .int 0, .int 0])), (h4, .inr (4, [.ref h4_cod, .ref h4_unf, .int 0])), (h4_cod, .inl (cI, 60, .inl (fun _ => 0))), (h4_unf, .inl (cI, 540, .inl (fun _ => 0))), (h0, .inr (0, [.ref h0_cel, .int 0])), (h0_cel, .inl (cI, 160, .inl (fun _ => 0))), (h3, .inr (3, [.ref h3_str, .ref h3_tlr, .ref h3_tsg])), (h3_str, .inl (cI, 40, .inl (fun _ => 0))), (h3_tlr, .inl (cI, 240, .inl (fun _ => 0))), (h3_tsg, .inl (cI, 240, .inl (fun _ => 0)))] ++ ringW cI cO h1a rh (fun _ => st0)) hP hD [0] [] rfl rfl (by decide) (by decide) hk1 hFc hP1 hD1
  rw [List.append_nil, List.nil_append] at hP hD
  generalize H1 = H at hP hS ⊢
  have hP : va_P D vwCl ([(h5, .inr (5, [.ref h2, .ref h1, .ref h4, .ref h0, .ref h3])), (h2, .inr (2, [.ref h2_row, .ref h2_ten, .ref h2_pha, .int 0, .int 0, .int 0, .int 0, .int 75])), (h2_row, .inl (cI, 240, .inl (fun _ => 0))), (h2_ten, .inl (cI, 4, .inl (fun _ => 0))), (h2_pha, .inl (cI, 4, .inl (fun _ => 0))), (h1, .inr (1, [.ref h1a, .int 0, .int 0])), (h4, .inr (4, [.ref h4_cod, .ref h4_unf, .int 0])), (h4_cod, .inl (cI, 60, .inl (fun _ => 0))), (h4_unf, .inl (cI, 540, .inl (fun _ => 0))), (h0, .inr (0, [.ref h0_cel, .int 0])), (h0_cel, .inl (cI, 160, .inl (fun _ => 0))), (h3, .inr (3, [.ref h3_str, .ref h3_tlr, .ref h3_tsg])), (h3_str, .inl (cI, 40, .inl (fun _ => 0))), (h3_tlr, .inl (cI, 240, .inl (fun _ => 0))), (h3_tsg, .inl (cI, 240, .inl (fun _ => 0)))] ++ ringW cI cO h1a rh (fun _ => st0)) H := hP
  have hD : va_D A ([(h5, .inr (5, [.ref h2, .ref h1, .ref h4, .ref h0, .ref h3])), (h2, .inr (2, [.ref h2_row, .ref h2_ten, .ref h2_pha, .int 0, .int 0, .int 0, .int 0, .int 75])), (h2_row, .inl (cI, 240, .inl (fun _ => 0))), (h2_ten, .inl (cI, 4, .inl (fun _ => 0))), (h2_pha, .inl (cI, 4, .inl (fun _ => 0))), (h1, .inr (1, [.ref h1a, .int 0, .int 0])), (h4, .inr (4, [.ref h4_cod, .ref h4_unf, .int 0])), (h4_cod, .inl (cI, 60, .inl (fun _ => 0))), (h4_unf, .inl (cI, 540, .inl (fun _ => 0))), (h0, .inr (0, [.ref h0_cel, .int 0])), (h0_cel, .inl (cI, 160, .inl (fun _ => 0))), (h3, .inr (3, [.ref h3_str, .ref h3_tlr, .ref h3_tsg])), (h3_str, .inl (cI, 40, .inl (fun _ => 0))), (h3_tlr, .inl (cI, 240, .inl (fun _ => 0))), (h3_tsg, .inl (cI, 240, .inl (fun _ => 0)))] ++ ringW cI cO h1a rh (fun _ => st0)) := hD
  refine lv_astore_n (lv' := [(1, .ref h5), (0, .ref b)]) hx hb dL_law_7 rfl hl (by decide) rfl (fun ls hl => ?_)
  refine va_new (ci := 6) (fs := [.int 0, .null, .null, .int 0, .null, .int 0, .null, .null, .null, .null, .int 0, .int 0, .null, .int 0, .long 0]) (C := RX6) (T := TX6) (N := 15) hx hb hts inlX6 tyX6 tyX6_ok hown (hts (.classLink RL 83 RX6) (by decide +kernel)) (hts (.instantiable RX6 15) (by decide +kernel)) (hts (.initialized RX6) (by decide +kernel)) hK hP hD hS hA rfl (fun j hj => by rcases (show j = 0 ∨ j = 1 ∨ j = 2 ∨ j = 3 ∨ j = 4 ∨ j = 5 ∨ j = 6 ∨ j = 7 ∨ j = 8 ∨ j = 9 ∨ j = 10 ∨ j = 11 ∨ j = 12 ∨ j = 13 ∨ j = 14 by omega) with rfl | rfl | rfl | rfl | rfl | rfl | rfl | rfl | rfl | rfl | rfl | rfl | rfl | rfl | rfl <;> rfl) (Nat.le_of_ble_eq_true rfl) (Nat.le_of_ble_eq_true rfl) dL_law_8 (fun h6 H hP hD hS => ?_)
  have hP := va_P.swap hP
  have hD := va_D.swap hD
  have hP : va_P D vwCl ([(h5, .inr (5, [.ref h2, .ref h1, .ref h4, .ref h0, .ref h3])), (h2, .inr (2, [.ref h2_row, .ref h2_ten, .ref h2_pha, .int 0, .int 0, .int 0, .int 0, .int 75])), (h2_row, .inl (cI, 240, .inl (fun _ => 0))), (h2_ten, .inl (cI, 4, .inl (fun _ => 0))), (h2_pha, .inl (cI, 4, .inl (fun _ => 0))), (h1, .inr (1, [.ref h1a, .int 0, .int 0])), (h4, .inr (4, [.ref h4_cod, .ref h4_unf, .int 0])), (h4_cod, .inl (cI, 60, .inl (fun _ => 0))), (h4_unf, .inl (cI, 540, .inl (fun _ => 0))), (h0, .inr (0, [.ref h0_cel, .int 0])), (h0_cel, .inl (cI, 160, .inl (fun _ => 0))), (h3, .inr (3, [.ref h3_str, .ref h3_tlr, .ref h3_tsg])), (h3_str, .inl (cI, 40, .inl (fun _ => 0))), (h3_tlr, .inl (cI, 240, .inl (fun _ => 0))), (h3_tsg, .inl (cI, 240, .inl (fun _ => 0))), (h6, .inr (6, [.int 0, .null, .null, .int 0, .null, .int 0, .null, .null, .null, .null, .int 0, .int 0, .null, .int 0, .long 0]))] ++ ringW cI cO h1a rh (fun _ => st0)) H := hP
  have hD : va_D A ([(h5, .inr (5, [.ref h2, .ref h1, .ref h4, .ref h0, .ref h3])), (h2, .inr (2, [.ref h2_row, .ref h2_ten, .ref h2_pha, .int 0, .int 0, .int 0, .int 0, .int 75])), (h2_row, .inl (cI, 240, .inl (fun _ => 0))), (h2_ten, .inl (cI, 4, .inl (fun _ => 0))), (h2_pha, .inl (cI, 4, .inl (fun _ => 0))), (h1, .inr (1, [.ref h1a, .int 0, .int 0])), (h4, .inr (4, [.ref h4_cod, .ref h4_unf, .int 0])), (h4_cod, .inl (cI, 60, .inl (fun _ => 0))), (h4_unf, .inl (cI, 540, .inl (fun _ => 0))), (h0, .inr (0, [.ref h0_cel, .int 0])), (h0_cel, .inl (cI, 160, .inl (fun _ => 0))), (h3, .inr (3, [.ref h3_str, .ref h3_tlr, .ref h3_tsg])), (h3_str, .inl (cI, 40, .inl (fun _ => 0))), (h3_tlr, .inl (cI, 240, .inl (fun _ => 0))), (h3_tsg, .inl (cI, 240, .inl (fun _ => 0))), (h6, .inr (6, [.int 0, .null, .null, .int 0, .null, .int 0, .null, .null, .null, .null, .int 0, .int 0, .null, .int 0, .long 0]))] ++ ringW cI cO h1a rh (fun _ => st0)) := hD
  refine lv_dup hx hb dL_law_11 rfl ?_
  have hFc := pw_free (wc := [(h6, .inr (6, [.int 0, .null, .null, .int 0, .null, .int 0, .null, .null, .null, .null, .int 0, .int 0, .null, .int 0, .long 0]))]) hD hS hA [15] rfl
  refine va_callv (va_runI (As := []) (rest := [.ref h6]) ⟨hx, hb, hml, hown, hts⟩ (mX6_init l D cI cO cJ h6 H.size) (cwI 0 hts gL_law_X6_init rfl rfl rfl (hts (.initialized RX6) (by decide +kernel)) (hts (.methodLink RL 85 yX6_init) (by decide +kernel)) (hts (.instanceMethod yX6_init) (by decide +kernel)) rfl (by decide +kernel) ⟨(Nat.le_of_ble_eq_true rfl), (Nat.le_of_ble_eq_true rfl)⟩) (pc_preS hK hN hO (pw_sub hP [15] rfl) (pw_subD hD [15] (by decide) rfl)) rfl rfl hl.1 rfl (lv_room (Nat.le_of_ble_eq_true rfl)) dL_law_12 ⟨(Nat.le_of_ble_eq_true rfl), (Nat.le_of_ble_eq_true rfl)⟩) hS (fun q _ h => hFc q h) hFc (fun u t H1 locs ht hvm hw hB hz hk1 hS => ?_)
  obtain ⟨h6_ms, h6_mv, h6_mb, h6_mc, h6_mg, h6_mt, h6_ml, h6_mr, hP1, hD1⟩ := hB
  rw [ht] at hP1
  obtain ⟨hP, hD⟩ := va_joinQ (wr := [(h5, .inr (5, [.ref h2, .ref h1, .ref h4, .ref h0, .ref h3])), (h2, .inr (2, [.ref h2_row, .ref h2_ten, .ref h2_pha, .int 0, .int 0, .int 0, .int 0, .int 75])), (h2_row, .inl (cI, 240, .inl (fun _ => 0))), (h2_ten, .inl (cI, 4, .inl (fun _ => 0))), (h2_pha, .inl (cI, 4, .inl (fun _ => 0))), (h1, .inr (1, [.ref h1a, .int 0, .int 0])), (h4, .inr (4, [.ref h4_cod, .ref h4_unf, .int 0])), (h4_cod, .inl (cI, 60, .inl (fun _ => 0))), (h4_unf, .inl (cI, 540, .inl (fun _ => 0))), (h0, .inr (0, [.ref h0_cel, .int 0])), (h0_cel, .inl (cI, 160, .inl (fun _ => 0))), (h3, .inr (3, [.ref h3_str, .ref h3_tlr, .ref h3_tsg])), (h3_str, .inl (cI, 40, .inl (fun _ => 0))), (h3_tlr, .inl (cI, 240, .inl (fun _ => 0))), (h3_tsg, .inl (cI, 240, .inl (fun _ => 0)))]) (pl := ringW cI cO h1a rh (fun _ => st0)) (w1 := [(h6, .inr (6, [.int 0, .ref h6_ms, .ref h6_mv, .int 0, .ref h6_mb, .int 0, .ref h6_mc, .ref h6_mg, .ref h6_mt, .ref h6_ml, .int 0, .int 0, .ref h6_mr, .int 0, .long 0])), (h6_ms, .inl (cI, 253, .inl (upd (fun _ => 0) (3 : Int32).toNatClampNeg 75))), (h6_mv, .inl (cI, 1518, .inl (fun _ => 0))), (h6_mb, .inl (cI, 60, .inl (fun _ => 0))), (h6_mc, .inl (cI, 160, .inl (fun _ => 0))), (h6_mg, .inl (cI, 160, .inl (fun _ => 0))), (h6_mt, .inl (cI, 240, .inl (fun _ => 0))), (h6_ml, .inl (cI, 240, .inl (fun _ => 0))), (h6_mr, .inl (cI, 600, .inl (fun _ => 0)))]) hP hD [15] [0, 1, 2, 3, 4, 5, 6, 7, 8, 9, 10, 11, 12, 13, 14] rfl rfl (by decide) (by decide) hk1 hFc hP1 hD1
  generalize H1 = H at hP hS ⊢
  have hP : va_P D vwCl ([(h5, .inr (5, [.ref h2, .ref h1, .ref h4, .ref h0, .ref h3])), (h2, .inr (2, [.ref h2_row, .ref h2_ten, .ref h2_pha, .int 0, .int 0, .int 0, .int 0, .int 75])), (h2_row, .inl (cI, 240, .inl (fun _ => 0))), (h2_ten, .inl (cI, 4, .inl (fun _ => 0))), (h2_pha, .inl (cI, 4, .inl (fun _ => 0))), (h1, .inr (1, [.ref h1a, .int 0, .int 0])), (h4, .inr (4, [.ref h4_cod, .ref h4_unf, .int 0])), (h4_cod, .inl (cI, 60, .inl (fun _ => 0))), (h4_unf, .inl (cI, 540, .inl (fun _ => 0))), (h0, .inr (0, [.ref h0_cel, .int 0])), (h0_cel, .inl (cI, 160, .inl (fun _ => 0))), (h3, .inr (3, [.ref h3_str, .ref h3_tlr, .ref h3_tsg])), (h3_str, .inl (cI, 40, .inl (fun _ => 0))), (h3_tlr, .inl (cI, 240, .inl (fun _ => 0))), (h3_tsg, .inl (cI, 240, .inl (fun _ => 0))), (h6, .inr (6, [.int 0, .ref h6_ms, .ref h6_mv, .int 0, .ref h6_mb, .int 0, .ref h6_mc, .ref h6_mg, .ref h6_mt, .ref h6_ml, .int 0, .int 0, .ref h6_mr, .int 0, .long 0])), (h6_ms, .inl (cI, 253, .inl (upd (fun _ => 0) (3 : Int32).toNatClampNeg 75))), (h6_mv, .inl (cI, 1518, .inl (fun _ => 0))), (h6_mb, .inl (cI, 60, .inl (fun _ => 0))), (h6_mc, .inl (cI, 160, .inl (fun _ => 0))), (h6_mg, .inl (cI, 160, .inl (fun _ => 0))), (h6_mt, .inl (cI, 240, .inl (fun _ => 0))), (h6_ml, .inl (cI, 240, .inl (fun _ => 0))), (h6_mr, .inl (cI, 600, .inl (fun _ => 0)))] ++ ringW cI cO h1a rh (fun _ => st0)) H := hP
  have hD : va_D A ([(h5, .inr (5, [.ref h2, .ref h1, .ref h4, .ref h0, .ref h3])), (h2, .inr (2, [.ref h2_row, .ref h2_ten, .ref h2_pha, .int 0, .int 0, .int 0, .int 0, .int 75])), (h2_row, .inl (cI, 240, .inl (fun _ => 0))), (h2_ten, .inl (cI, 4, .inl (fun _ => 0))), (h2_pha, .inl (cI, 4, .inl (fun _ => 0))), (h1, .inr (1, [.ref h1a, .int 0, .int 0])), (h4, .inr (4, [.ref h4_cod, .ref h4_unf, .int 0])), (h4_cod, .inl (cI, 60, .inl (fun _ => 0))), (h4_unf, .inl (cI, 540, .inl (fun _ => 0))), (h0, .inr (0, [.ref h0_cel, .int 0])), (h0_cel, .inl (cI, 160, .inl (fun _ => 0))), (h3, .inr (3, [.ref h3_str, .ref h3_tlr, .ref h3_tsg])), (h3_str, .inl (cI, 40, .inl (fun _ => 0))), (h3_tlr, .inl (cI, 240, .inl (fun _ => 0))), (h3_tsg, .inl (cI, 240, .inl (fun _ => 0))), (h6, .inr (6, [.int 0, .ref h6_ms, .ref h6_mv, .int 0, .ref h6_mb, .int 0, .ref h6_mc, .ref h6_mg, .ref h6_mt, .ref h6_ml, .int 0, .int 0, .ref h6_mr, .int 0, .long 0])), (h6_ms, .inl (cI, 253, .inl (upd (fun _ => 0) (3 : Int32).toNatClampNeg 75))), (h6_mv, .inl (cI, 1518, .inl (fun _ => 0))), (h6_mb, .inl (cI, 60, .inl (fun _ => 0))), (h6_mc, .inl (cI, 160, .inl (fun _ => 0))), (h6_mg, .inl (cI, 160, .inl (fun _ => 0))), (h6_mt, .inl (cI, 240, .inl (fun _ => 0))), (h6_ml, .inl (cI, 240, .inl (fun _ => 0))), (h6_mr, .inl (cI, 600, .inl (fun _ => 0)))] ++ ringW cI cO h1a rh (fun _ => st0)) := hD
  refine lv_astore_n (lv' := [(2, .ref h6), (1, .ref h5), (0, .ref b)]) hx hb dL_law_15 rfl hl (by decide) rfl (fun ls hl => ?_)
  refine lv_iconst (v := 1) hx hb dL_law_16 (by decide) ?_
  refine pc_newJ hx hb (hts (.arrayClass .long) (by decide +kernel)) hK hP hD hS hA (N' := 1) (by decide) (by decide) (by decide) (Nat.le_of_ble_eq_true rfl) (Nat.le_of_ble_eq_true rfl) dL_law_17 (fun q3 H hP hD hS => ?_)
  have hP := va_P.swap hP
  have hD := va_D.swap hD
  have hP : va_P D vwCl ([(h5, .inr (5, [.ref h2, .ref h1, .ref h4, .ref h0, .ref h3])), (h2, .inr (2, [.ref h2_row, .ref h2_ten, .ref h2_pha, .int 0, .int 0, .int 0, .int 0, .int 75])), (h2_row, .inl (cI, 240, .inl (fun _ => 0))), (h2_ten, .inl (cI, 4, .inl (fun _ => 0))), (h2_pha, .inl (cI, 4, .inl (fun _ => 0))), (h1, .inr (1, [.ref h1a, .int 0, .int 0])), (h4, .inr (4, [.ref h4_cod, .ref h4_unf, .int 0])), (h4_cod, .inl (cI, 60, .inl (fun _ => 0))), (h4_unf, .inl (cI, 540, .inl (fun _ => 0))), (h0, .inr (0, [.ref h0_cel, .int 0])), (h0_cel, .inl (cI, 160, .inl (fun _ => 0))), (h3, .inr (3, [.ref h3_str, .ref h3_tlr, .ref h3_tsg])), (h3_str, .inl (cI, 40, .inl (fun _ => 0))), (h3_tlr, .inl (cI, 240, .inl (fun _ => 0))), (h3_tsg, .inl (cI, 240, .inl (fun _ => 0))), (h6, .inr (6, [.int 0, .ref h6_ms, .ref h6_mv, .int 0, .ref h6_mb, .int 0, .ref h6_mc, .ref h6_mg, .ref h6_mt, .ref h6_ml, .int 0, .int 0, .ref h6_mr, .int 0, .long 0])), (h6_ms, .inl (cI, 253, .inl (upd (fun _ => 0) (3 : Int32).toNatClampNeg 75))), (h6_mv, .inl (cI, 1518, .inl (fun _ => 0))), (h6_mb, .inl (cI, 60, .inl (fun _ => 0))), (h6_mc, .inl (cI, 160, .inl (fun _ => 0))), (h6_mg, .inl (cI, 160, .inl (fun _ => 0))), (h6_mt, .inl (cI, 240, .inl (fun _ => 0))), (h6_ml, .inl (cI, 240, .inl (fun _ => 0))), (h6_mr, .inl (cI, 600, .inl (fun _ => 0))), (q3, .inl (cJ, 1, .inr (.inl (fun _ => 0))))] ++ ringW cI cO h1a rh (fun _ => st0)) H := hP
  have hD : va_D A ([(h5, .inr (5, [.ref h2, .ref h1, .ref h4, .ref h0, .ref h3])), (h2, .inr (2, [.ref h2_row, .ref h2_ten, .ref h2_pha, .int 0, .int 0, .int 0, .int 0, .int 75])), (h2_row, .inl (cI, 240, .inl (fun _ => 0))), (h2_ten, .inl (cI, 4, .inl (fun _ => 0))), (h2_pha, .inl (cI, 4, .inl (fun _ => 0))), (h1, .inr (1, [.ref h1a, .int 0, .int 0])), (h4, .inr (4, [.ref h4_cod, .ref h4_unf, .int 0])), (h4_cod, .inl (cI, 60, .inl (fun _ => 0))), (h4_unf, .inl (cI, 540, .inl (fun _ => 0))), (h0, .inr (0, [.ref h0_cel, .int 0])), (h0_cel, .inl (cI, 160, .inl (fun _ => 0))), (h3, .inr (3, [.ref h3_str, .ref h3_tlr, .ref h3_tsg])), (h3_str, .inl (cI, 40, .inl (fun _ => 0))), (h3_tlr, .inl (cI, 240, .inl (fun _ => 0))), (h3_tsg, .inl (cI, 240, .inl (fun _ => 0))), (h6, .inr (6, [.int 0, .ref h6_ms, .ref h6_mv, .int 0, .ref h6_mb, .int 0, .ref h6_mc, .ref h6_mg, .ref h6_mt, .ref h6_ml, .int 0, .int 0, .ref h6_mr, .int 0, .long 0])), (h6_ms, .inl (cI, 253, .inl (upd (fun _ => 0) (3 : Int32).toNatClampNeg 75))), (h6_mv, .inl (cI, 1518, .inl (fun _ => 0))), (h6_mb, .inl (cI, 60, .inl (fun _ => 0))), (h6_mc, .inl (cI, 160, .inl (fun _ => 0))), (h6_mg, .inl (cI, 160, .inl (fun _ => 0))), (h6_mt, .inl (cI, 240, .inl (fun _ => 0))), (h6_ml, .inl (cI, 240, .inl (fun _ => 0))), (h6_mr, .inl (cI, 600, .inl (fun _ => 0))), (q3, .inl (cJ, 1, .inr (.inl (fun _ => 0))))] ++ ringW cI cO h1a rh (fun _ => st0)) := hD
  refine lv_astore_n (lv' := [(3, .ref q3), (2, .ref h6), (1, .ref h5), (0, .ref b)]) hx hb dL_law_19 rfl hl (by decide) rfl (fun ls hl => ?_)
  refine lv_iconst (v := 0) hx hb dL_law_20 (by decide) ?_
  refine lv_istore (lv' := [(4, .int 0), (3, .ref q3), (2, .ref h6), (1, .ref h5), (0, .ref b)]) hx hb dL_law_21 hl (by decide) rfl (fun ls hl => ?_)
  refine W.widen (k := 50 + 0) (n := 6341 + 6 * 0) (by decide) (by decide) ?_
  exact law_loop hst hL hx hb hml hown hts hX hbl hA hbA hK hN hX9 hT hC9 (fun H locs ls k n hS9 hk hn => va_forget (fun q hq => by have h9 := hS9.2.2 q hq; rw [hAe] at h9; exact h9) (W.widen (k := 601024) (n := 7293034) hk hn (lw_ret hd0 hx hb hr hlocks dL_law_1565))) FU 0 0 _ _ _ _ _ _ _ _ _ _ _ _ _ _ _ _ _ _ _ _ _ _ _ _ _ _ _ _ _ _ _ _ _ _ _ H _ ls (hgoal L xs hL) nI_0.symm (by decide) hP hD hS (lv_sub hl [4, 3, 2, 1, 0] rfl)

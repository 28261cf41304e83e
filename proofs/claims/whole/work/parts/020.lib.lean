abbrev vwCl : List vw_C := [(RX0, TX0, 2), (RX1, TX1, 3), (RX2, TX2, 8), (RX3, TX3, 3), (RX4, TX4, 3), (RX5, TX5, 5), (RX6, TX6, 15)]
/-! CONTRACTS WHOSE END IS ONE ANSWER AND ONE WORLD: 'any heap that holds the world ws: the method returns r, and the heap holds w1' -/
/-- the links between nest mates that the class uses: no words of a method's own list -/
def pw_nest : List Cond := [.methodLinkNest RX0 45 yX5_classesOf "HiddenPeriods", .methodLinkNest RX0 52 yX5_classOf "HiddenPeriods", .methodLinkNest RX1 17 yX2_init "HiddenPeriods", .methodLinkNest RX2 25 yX5_copyCells "HiddenPeriods", .methodLinkNest RX2 41 yX5_lay "HiddenPeriods", .methodLinkNest RX2 45 yX5_cellAt "HiddenPeriods", .methodLinkNest RX3 56 yX5_lay "HiddenPeriods", .methodLinkNest RX3 74 yX5_classOf "HiddenPeriods", .methodLinkNest RX3 78 yX5_cellAt "HiddenPeriods", .methodLinkNest RX4 22 yX5_lay "HiddenPeriods", .methodLinkNest RX4 26 yX5_cellAt "HiddenPeriods", .methodLinkNest RX5 9 yX2_init "HiddenPeriods", .methodLinkNest RX5 25 yX4_init "HiddenPeriods", .methodLinkNest RX5 32 yX0_init "HiddenPeriods", .methodLinkNest RX5 39 yX3_init "HiddenPeriods",
  .fieldLinkNest RX3 27 "HiddenPeriods$State" "kept" "I" "HiddenPeriods", .fieldLinkNest RX3 46 "HiddenPeriods$Counts" "classes" "I" "HiddenPeriods", .fieldLinkNest RX3 49 "HiddenPeriods$State" "hundredths" "I" "HiddenPeriods", .fieldLinkNest RX5 55 "HiddenPeriods$State" "length" "I" "HiddenPeriods", .fieldLinkNest RX5 125 "HiddenPeriods$State" "kept" "I" "HiddenPeriods", .fieldLinkNest RX5 173 "HiddenPeriods$Text" "length" "I" "HiddenPeriods", .fieldLinkNest RX5 194 "HiddenPeriods$History" "many" "I" "HiddenPeriods", .fieldLinkNest RX5 327 "HiddenPeriods$State" "hundredths" "I" "HiddenPeriods"]
def pw_k (w : Cond) : Prop := w.onTables = true ∧ ((∃ a i x h, w = Cond.methodLinkNest a i x h) ∨ ∃ a i b n d h, w = Cond.fieldLinkNest a i b n d h)
theorem pw_kM {a : String} {i : Nat} {x : MethodName} {h : String} : pw_k (.methodLinkNest a i x h) := ⟨rfl, Or.inl ⟨_, _, _, _, rfl⟩⟩
theorem pw_kF {a : String} {i : Nat} {b n d h : String} : pw_k (.fieldLinkNest a i b n d h) := ⟨rfl, Or.inr ⟨_, _, _, _, _, _, rfl⟩⟩
theorem pw_kind : ∀ w ∈ pw_nest, pw_k w := by
  unfold pw_nest
  repeat (first | exact fun _ h => absurd h List.not_mem_nil | refine List.forall_mem_cons.mpr ⟨by first | exact pw_kM | exact pw_kF, ?_⟩)
def pw_N (U : State) : Prop := ∀ w ∈ pw_nest, va_Nw w U
theorem pw_N.warm {s U : State} (hW : s.WarmedH U.vm) (h : pw_N s) : pw_N U := by
  intro w hw
  have h1 := h w hw
  obtain ⟨-, ⟨a, i, x, h, rfl⟩ | ⟨a, i, b, n, d, h, rfl⟩⟩ := pw_kind w hw
  · exact va_Nw.warmM hW h1
  · exact va_Nw.warmF hW h1
theorem pw_N.same {s U : State} (e : s.vm = U.vm) (h : pw_N s) : pw_N U := fun w hw => va_Nw.same (pw_kind w hw).1 e (h w hw)
/-- what a method finds: its arguments, its world, nothing else -/
def pw_pre (D : va_G) (tys : List (ClassId × FieldType)) (av : List Value) (ws : va_W) (sz : Nat) : Array Value → State → Prop :=
  va_Pc av (fun U => U.heap.size = sz ∧ va_P D vwCl ws U.heap ∧ va_K D vwCl tys U ∧ va_D (fun _ => True) ws ∧ pw_N U)
def pw_B (D : va_G) (ws w1 : va_W) (sz : Nat) : Unit → State → Prop := fun _ t => va_P D vwCl w1 t.heap ∧ va_D (va_A ws sz) w1
def pw_i (D : va_G) (ws w1 : va_W) (r : Int32) (sz : Nat) : Array Value → State → Outcome → State → Prop := va_Qi (fun (x : Int32) (_ : Unit) => x = r) (pw_B D ws w1 sz) (va_A ws sz)
def pw_l (D : va_G) (ws w1 : va_W) (r : Int64) (sz : Nat) : Array Value → State → Outcome → State → Prop := va_Ql (fun (x : Int64) (_ : Unit) => x = r) (pw_B D ws w1 sz) (va_A ws sz)
def pw_d (D : va_G) (ws w1 : va_W) (r : UInt64) (sz : Nat) : Array Value → State → Outcome → State → Prop := va_Qd (fun (x : UInt64) (_ : Unit) => x = r) (pw_B D ws w1 sz) (va_A ws sz)
def pw_v (D : va_G) (ws w1 : va_W) (sz : Nat) : Array Value → State → Outcome → State → Prop := va_Qv (fun (_ : Unit) => True) (pw_B D ws w1 sz) (va_A ws sz)
theorem pw_blind {D : va_G} {tys : List (ClassId × FieldType)} {av : List Value} {ws : va_W} {sz : Nat} : FrameBlind (pw_pre D tys av ws sz) := fun a U g mk q => by
  obtain ⟨q0, q1, qP, qK, qD, qN⟩ := q
  exact ⟨q0, q1, qP, va_K.moved (u := U) (U := U.calling g mk a) (Vm.Alike.refl U.vm) qK, qD, pw_N.same (s := U) (U := U.calling g mk a) rfl qN⟩
theorem pw_preS {s : State} {H : Heap} {D : va_G} {tys : List (ClassId × FieldType)} {As : List Value} {wc : va_W} {A : Nat → Prop} (hK : va_K D vwCl tys s) (hN : pw_N s) (hP : va_P D vwCl wc H) (hD : va_D A wc) : PreS s H (pw_pre D tys As wc H.size) As :=
  ⟨pw_blind, fun U hU hW => ⟨rfl, by rw [hU], by rw [hU]; exact hP, va_K.moved hW.alike hK, hD.weaken (fun _ _ _ _ => trivial), hN.warm hW⟩⟩
theorem pw_preV {s : State} {H : Heap} {D : va_G} {tys : List (ClassId × FieldType)} {As : List Value} {wc : va_W} {A : Nat → Prop} {b ci q0 : Nat} {q : vw_C} {fs : List Value} (hK : va_K D vwCl tys s) (hN : pw_N s) (hP : va_P D vwCl wc H) (hD : va_D A wc) (hc : vwCl[ci]? = some q) (he : wc[q0]? = some (b, .inr (ci, fs))) : PreV s H q.1 b (pw_pre D tys (.ref b :: As) wc H.size) As :=
  ⟨pw_blind, va_recv hK hP hc he, fun U hU hW => ⟨rfl, by rw [hU], by rw [hU]; exact hP, va_K.moved hW.alike hK, hD.weaken (fun _ _ _ _ => trivial), hN.warm hW⟩⟩
/-- a method's body, from its entry -/
theorem pw_of {l : Launch} {y : MethodName} {ws ws' : List Cond} {rm : Room} {Qc : Nat → Array Value → State → Outcome → State → Prop} {mc ms : Nat} {cc : ByteArray} {maxL : Nat} {ret : Option FieldType} {D : va_G} {tys : List (ClassId × FieldType)} {av : List Value} {wd : va_W} {sz : Nat}
    (hy : plainName y.cls = true) (hw : ws = Cond.code y cc maxL ret :: ws') (hlen : (lg_sl av).length ≤ maxL)
    (body : ∀ (p : Program) (e : Env) (s : State) (m : MethodId) (args : Array Value) (below : List Frame) (meth : Method) (c : Code) (A : Nat → Prop) (Q : State → Prop) (H : Heap) (ls : Array Slot), p.tables.exec = Jvm.exec → c.code = cc → c.maxLocals = maxL → meth.sig.returnType = ret → (∀ w ∈ ws, w.before args s = true) → s.vm.findClass y.cls = some m.cls → meth.locks = false →
      va_A wd s.heap.size = A → Q = MQ below (Qc s.heap.size) args s mc ms A → va_K D vwCl tys s → pw_N s → (∀ q, s.heap.size ≤ q → A q) → va_P D vwCl wd H → va_D A wd → va_S A s.heap H [] → lv_has ls maxL (lv_args 0 av) →
      W p l e rm s m args below meth c H [] 0 0 Q (F0 m 0 ls [])) : Met l y ws rm (pw_pre D tys av wd sz) (Qc sz) mc ms (va_A wd sz) := by
  refine Met.ofW (cc := cc) (maxL := maxL) (ret := ret) hy hw ?_
  intro p e s m args below meth c s₁ B hml hv
  obtain ⟨rfl, hsz, hP, hK, hD0, hN⟩ := hv
  subst hsz
  have hl := lv_entry av (n := maxL) hlen
  rw [lg_entry_eq]
  exact body p e s m av.toArray below meth c _ _ _ _ B.exec B.bytes hml B.returns (atoms_spec (ws := ws) B.pre) (findClass_of_methodNamed B.named) B.notSynchronized rfl rfl hK hN (fun q h => Or.inr h) hP hD0.self va_S.rf hl
abbrev tyL (cI cO cJ : ClassId) : List (ClassId × FieldType) := [(cI, .int), (cO, .object "HiddenPeriods$State"), (cJ, .long)]
theorem pw_nilP {D : va_G} {H : Heap} : va_P D vwCl [] H := fun k q h => by simp at h
theorem pw_nilD {A : Nat → Prop} : va_D A [] := ⟨fun i j p q h => by simp at h, fun k q h => by simp at h⟩
theorem pw_bnar {x : Int32} (h : x = 0 ∨ x = 1) : narrow .boolean (.int x) = .int x := by rcases h with rfl | rfl <;> rfl
theorem pw_bfit {x : Int32} (h : x = 0 ∨ x = 1) : fits .boolean (.int x) = true := by rcases h with rfl | rfl <;> rfl
theorem pw_ne {x y : Int32} (c : ¬ x = y) : x.toInt ≠ y.toInt := fun h => c (Int32.toInt_inj.mp h)
theorem pw_tbl_8 {x : Int32} (c0 : ¬ x = 0) (c1 : ¬ x = 1) (c2 : ¬ x = 2) (c3 : ¬ x = 3) (c4 : ¬ x = 4) (c5 : ¬ x = 5) (c6 : ¬ x = 6) (c7 : ¬ x = 7) (c8 : ¬ x = 8) : x.toInt < 0 ∨ 8 < x.toInt := by
  have h0 : x.toInt ≠ 0 := pw_ne c0
  have h1 : x.toInt ≠ 1 := pw_ne c1
  have h2 : x.toInt ≠ 2 := pw_ne c2
  have h3 : x.toInt ≠ 3 := pw_ne c3
  have h4 : x.toInt ≠ 4 := pw_ne c4
  have h5 : x.toInt ≠ 5 := pw_ne c5
  have h6 : x.toInt ≠ 6 := pw_ne c6
  have h7 : x.toInt ≠ 7 := pw_ne c7
  have h8 : x.toInt ≠ 8 := pw_ne c8
  omega
theorem pw_tbl_5 {x : Int32} (c0 : ¬ x = 0) (c1 : ¬ x = 1) (c2 : ¬ x = 2) (c3 : ¬ x = 3) (c4 : ¬ x = 4) (c5 : ¬ x = 5) : x.toInt < 0 ∨ 5 < x.toInt := by
  have h0 : x.toInt ≠ 0 := pw_ne c0
  have h1 : x.toInt ≠ 1 := pw_ne c1
  have h2 : x.toInt ≠ 2 := pw_ne c2
  have h3 : x.toInt ≠ 3 := pw_ne c3
  have h4 : x.toInt ≠ 4 := pw_ne c4
  have h5 : x.toInt ≠ 5 := pw_ne c5
  omega
section PWE
variable {p : Program} {l : Launch} {e : Env} {R : Room} {s : State} {m : MethodId} {args : Array Value} {below : List Frame} {meth : Method} {c : Code} {H H0 : Heap} {locs : List Loc} {Q : State → Prop}
variable {D : va_G} {tys : List (ClassId × FieldType)} {wd w1 : va_W} {A A0 : Nat → Prop} {cc : ByteArray} {pc : Nat} {ls : Array Slot}
theorem pw_iret {v : Int32} (hx : p.tables.exec = Jvm.exec) (hb : c.code = cc) (hr : meth.sig.returnType = some .int) (hlocks : meth.locks = false) (hAe : va_A wd s.heap.size = A) (hQ : Q = MQ below (pw_i D wd w1 v s.heap.size) args s 0 0 A) (hP : va_P D vwCl w1 H) (hD : va_D A w1) (hS : va_S A s.heap H locs) (hdg : decode cc pc = .ok (.ireturn, 1)) :
    W p l e R s m args below meth c H locs 0 0 Q (F0 m pc ls [.int v]) := by
  subst hQ; subst hAe
  exact W.iret (v := v) hx hb hr (fun t ht hW => ⟨⟨v, (), rfl, rfl, by rw [ht]; exact hP, hD⟩, hS.F ht⟩) hS.2.2 hdg
theorem pw_zret {v : Int32} (hx : p.tables.exec = Jvm.exec) (hb : c.code = cc) (hr : meth.sig.returnType = some .boolean) (hlocks : meth.locks = false) (hAe : va_A wd s.heap.size = A) (hv : v = 0 ∨ v = 1) (hQ : Q = MQ below (pw_i D wd w1 v s.heap.size) args s 0 0 A) (hP : va_P D vwCl w1 H) (hD : va_D A w1) (hS : va_S A s.heap H locs) (hdg : decode cc pc = .ok (.ireturn, 1)) :
    W p l e R s m args below meth c H locs 0 0 Q (F0 m pc ls [.int v]) := by
  subst hQ; subst hAe
  exact W.zret (v := v) hx hb hr (by rcases hv with rfl | rfl <;> rfl) (fun t ht hW => ⟨⟨v, (), rfl, rfl, by rw [ht]; exact hP, hD⟩, hS.F ht⟩) hS.2.2 hdg
theorem pw_lret {v : Int64} (hx : p.tables.exec = Jvm.exec) (hb : c.code = cc) (hr : meth.sig.returnType = some .long) (hlocks : meth.locks = false) (hAe : va_A wd s.heap.size = A) (hQ : Q = MQ below (pw_l D wd w1 v s.heap.size) args s 0 0 A) (hP : va_P D vwCl w1 H) (hD : va_D A w1) (hS : va_S A s.heap H locs) (hdg : decode cc pc = .ok (.lreturn, 1)) :
    W p l e R s m args below meth c H locs 0 0 Q (F0 m pc ls [.long v]) := by
  subst hQ; subst hAe
  exact W.lret (v := v) hx hb hr (fun t ht hW => ⟨⟨v, (), rfl, rfl, by rw [ht]; exact hP, hD⟩, hS.F ht⟩) hS.2.2 hdg
theorem pw_dret {v : UInt64} (hx : p.tables.exec = Jvm.exec) (hb : c.code = cc) (hr : meth.sig.returnType = some .double) (hlocks : meth.locks = false) (hAe : va_A wd s.heap.size = A) (hQ : Q = MQ below (pw_d D wd w1 v s.heap.size) args s 0 0 A) (hP : va_P D vwCl w1 H) (hD : va_D A w1) (hS : va_S A s.heap H locs) (hdg : decode cc pc = .ok (.dreturn, 1)) :
    W p l e R s m args below meth c H locs 0 0 Q (F0 m pc ls [.double v]) := by
  subst hQ; subst hAe
  exact W.dret (v := v) hx hb hr (fun t ht hW => ⟨⟨v, (), rfl, rfl, by rw [ht]; exact hP, hD⟩, hS.F ht⟩) hS.2.2 hdg
theorem pw_vret (hx : p.tables.exec = Jvm.exec) (hb : c.code = cc) (hr : meth.sig.returnType = none) (hlocks : meth.locks = false) (hAe : va_A wd s.heap.size = A) (hQ : Q = MQ below (pw_v D wd w1 s.heap.size) args s 0 0 A) (hP : va_P D vwCl w1 H) (hD : va_D A w1) (hS : va_S A s.heap H locs) (hdg : decode cc pc = .ok (.return_, 1)) :
    W p l e R s m args below meth c H locs 0 0 Q (F0 m pc ls []) := by
  subst hQ; subst hAe
  exact W.vret hx hb hr (fun t ht hW => ⟨⟨(), rfl, trivial, by rw [ht]; exact hP, hD⟩, hS.F ht⟩) hS.2.2 hdg
/-- places of a list that are there, read -/
theorem pw_fm {α : Type} (ws : List α) : ∀ (is : List Nat), is.all (fun i => decide (i < ws.length)) = true → is.map (fun i => ws[i]?) = (is.filterMap (fun i => ws[i]?)).map some
  | [], _ => rfl
  | i :: is, h => by
    simp only [List.all_cons, Bool.and_eq_true, decide_eq_true_eq] at h
    have h1 := pw_fm ws is h.2
    have h2 : ws[i]? = some ws[i] := List.getElem?_eq_getElem h.1
    rw [List.map_cons, h1, List.filterMap_cons, h2]
    rfl
/-- what a callee's cells are to the caller -/
theorem pw_free {ws pl wc : va_W} (hD : va_D A0 (ws ++ pl)) (hS : va_S A0 H0 H locs) (hA : ∀ q, H0.size ≤ q → A0 q) (isC : List Nat) (hC : isC.map (fun i => ws[i]?) = wc.map some) : ∀ q, va_A wc H.size q → A0 q := by
  intro q h
  rcases h with ⟨k, e, h⟩ | h
  · have h1 : (isC.map (fun i => ws[i]?))[k]? = some (some (q, e)) := by rw [hC, List.getElem?_map, h]; rfl
    rw [List.getElem?_map] at h1
    cases hi : isC[k]? with
    | none => rw [hi] at h1; cases h1
    | some i =>
      rw [hi] at h1
      have h2 : ws[i]? = some (q, e) := Option.some.inj h1
      have h3 : i < ws.length := (List.getElem?_eq_some_iff.mp h2).1
      exact hD.2 i (q, e) (by rw [List.getElem?_append_left h3]; exact h2)
  · exact hA q (Nat.le_trans hS.1 h)
theorem pw_freeP {ws pl wc : va_W} (hD : va_D A0 (ws ++ pl)) (hS : va_S A0 H0 H locs) (hA : ∀ q, H0.size ≤ q → A0 q) (isC : List Nat) (hC : isC.map (fun i => ws[i]?) = wc.map some) : ∀ q, va_A (wc ++ pl) H.size q → A0 q := by
  intro q h
  rcases h with ⟨k, e, h⟩ | h
  · have h2 := va_part (pl := pl) isC hC k (q, e) h
    exact hD.2 _ (q, e) h2
  · exact hA q (Nat.le_trans hS.1 h)
theorem pw_sub {ws pl wc : va_W} (hP : va_P D vwCl (ws ++ pl) H) (isC : List Nat) (hC : isC.map (fun i => ws[i]?) = wc.map some) : va_P D vwCl wc H := by
  have h := hP.part isC hC
  exact fun k q hk => h k q (by rw [List.getElem?_append_left (List.getElem?_eq_some_iff.mp hk).1]; exact hk)
theorem pw_subD {ws pl wc : va_W} (hD : va_D A0 (ws ++ pl)) (isC : List Nat) (hn : va_nd isC = true) (hC : isC.map (fun i => ws[i]?) = wc.map some) : va_D A0 wc := by
  have h := hD.part isC hn hC
  have e : ∀ (k : Nat) (q : Nat × va_E), wc[k]? = some q → (wc ++ pl)[k]? = some q := fun k q hk => by rw [List.getElem?_append_left (List.getElem?_eq_some_iff.mp hk).1]; exact hk
  exact ⟨fun i j x y hi hj => h.1 i j x y (e i x hi) (e j y hj), fun k q hk => h.2 k q (e k q hk)⟩
theorem pw_after {ws pl wc w1 w2 : va_W} {H1 : Heap} (hP : va_P D vwCl (ws ++ pl) H) (hD : va_D A0 (ws ++ pl)) (hS : va_S A0 H0 H locs) (hA : ∀ q, H0.size ≤ q → A0 q) (isC isR is2 : List Nat) (hC : isC.map (fun i => ws[i]?) = wc.map some) (hR : isR.all (fun i => decide (i < ws.length)) = true) (hn : va_nd isR = true) (hdis : isR.all (fun i => decide (i ∉ isC)) = true) (h2n : va_nd is2 = true) (h2 : is2.map (fun i => (isR.filterMap (fun i => ws[i]?) ++ w1)[i]?) = w2.map some)
    (hk : ∀ q : Nat, q < H.size → ¬ va_A wc H.size q → H1[q]? = H[q]?) (hP1 : va_P D vwCl w1 H1) (hD1 : va_D (va_A wc H.size) w1) : va_P D vwCl (w2 ++ pl) H1 ∧ va_D A0 (w2 ++ pl) := by
  obtain ⟨a, b⟩ := va_joinQ hP hD isC isR hC (pw_fm ws isR hR) hn (fun i hi => by have := List.all_eq_true.mp hdis i hi; exact of_decide_eq_true this) hk (pw_free hD hS hA isC hC) hP1 hD1
  exact ⟨a.part is2 h2, b.part is2 h2n h2⟩
theorem pw_afterP {ws pl pl1 wc w1 w2 : va_W} {H1 : Heap} (hP : va_P D vwCl (ws ++ pl) H) (hD : va_D A0 (ws ++ pl)) (hS : va_S A0 H0 H locs) (hA : ∀ q, H0.size ≤ q → A0 q) (isC isR is2 : List Nat) (hC : isC.map (fun i => ws[i]?) = wc.map some) (hR : isR.all (fun i => decide (i < ws.length)) = true) (hn : va_nd isR = true) (hdis : isR.all (fun i => decide (i ∉ isC)) = true) (h2n : va_nd is2 = true) (h2 : is2.map (fun i => (isR.filterMap (fun i => ws[i]?) ++ w1)[i]?) = w2.map some)
    (hk : ∀ q : Nat, q < H.size → ¬ va_A (wc ++ pl) H.size q → H1[q]? = H[q]?) (hP1 : va_P D vwCl (w1 ++ pl1) H1) (hD1 : va_D (va_A (wc ++ pl) H.size) (w1 ++ pl1)) : va_P D vwCl (w2 ++ pl1) H1 ∧ va_D A0 (w2 ++ pl1) := by
  obtain ⟨a, b⟩ := va_joinP hP hD isC isR hC (pw_fm ws isR hR) hn (fun i hi => by have := List.all_eq_true.mp hdis i hi; exact of_decide_eq_true this) hk (pw_freeP hD hS hA isC hC) hP1 hD1
  exact ⟨a.part is2 h2, b.part is2 h2n h2⟩
end PWE
section PWC
variable {p : Program} {l : Launch} {e : Env} {R : Room} {s : State} {m : MethodId} {args : Array Value} {below : List Frame} {meth : Method} {c : Code} {H H0 : Heap} {locs : List Loc} {cells slots : Nat} {Q : State → Prop}
variable {D : va_G} {pc : Nat} {ls : Array Slot} {rest st0 : List Value} {a : Array Value} {A0 : Nat → Prop} {ws pl pl1 wc w1 w2 : va_W}
theorem pw_goi {r : Int32} (hr : va_Run p l e R s m args below meth c H locs cells slots 0 0 (F0 m pc ls st0) rest (pw_i D wc w1 r H.size a) (va_A wc H.size)) (hP : va_P D vwCl (ws ++ pl) H) (hD : va_D A0 (ws ++ pl)) (hS : va_S A0 H0 H locs) (hA : ∀ q, H0.size ≤ q → A0 q) (isC isR is2 : List Nat) (hC : isC.map (fun i => ws[i]?) = wc.map some) (hR : isR.all (fun i => decide (i < ws.length)) = true) (hn : va_nd isR = true) (hdis : isR.all (fun i => decide (i ∉ isC)) = true) (h2n : va_nd is2 = true) (h2 : is2.map (fun i => (isR.filterMap (fun i => ws[i]?) ++ w1)[i]?) = w2.map some)
    (kk : ∀ (H1 : Heap) (locs1 : List Loc), va_P D vwCl (w2 ++ pl) H1 → va_D A0 (w2 ++ pl) → va_S A0 H0 H1 locs1 → W p l e R s m args below meth c H1 locs1 cells slots Q (F0 m (pc + 3) ls (.int r :: rest))) : W p l e R s m args below meth c H locs cells slots Q (F0 m pc ls st0) := by
  refine va_calli hr hS (fun q _ h => pw_free hD hS hA isC hC q h) (pw_free hD hS hA isC hC) (fun r' u t H1 locs1 ht hvm hw hB hz hk hS1 => ?_)
  subst hw; subst ht
  obtain ⟨b1, b2⟩ := pw_after hP hD hS hA isC isR is2 hC hR hn hdis h2n h2 hk hB.1 hB.2
  exact kk _ _ b1 b2 hS1
theorem pw_gol {r : Int64} (hr : va_Run p l e R s m args below meth c H locs cells slots 0 0 (F0 m pc ls st0) rest (pw_l D wc w1 r H.size a) (va_A wc H.size)) (hP : va_P D vwCl (ws ++ pl) H) (hD : va_D A0 (ws ++ pl)) (hS : va_S A0 H0 H locs) (hA : ∀ q, H0.size ≤ q → A0 q) (isC isR is2 : List Nat) (hC : isC.map (fun i => ws[i]?) = wc.map some) (hR : isR.all (fun i => decide (i < ws.length)) = true) (hn : va_nd isR = true) (hdis : isR.all (fun i => decide (i ∉ isC)) = true) (h2n : va_nd is2 = true) (h2 : is2.map (fun i => (isR.filterMap (fun i => ws[i]?) ++ w1)[i]?) = w2.map some)
    (kk : ∀ (H1 : Heap) (locs1 : List Loc), va_P D vwCl (w2 ++ pl) H1 → va_D A0 (w2 ++ pl) → va_S A0 H0 H1 locs1 → W p l e R s m args below meth c H1 locs1 cells slots Q (F0 m (pc + 3) ls (.long r :: rest))) : W p l e R s m args below meth c H locs cells slots Q (F0 m pc ls st0) := by
  refine va_calll hr hS (fun q _ h => pw_free hD hS hA isC hC q h) (pw_free hD hS hA isC hC) (fun r' u t H1 locs1 ht hvm hw hB hz hk hS1 => ?_)
  subst hw; subst ht
  obtain ⟨b1, b2⟩ := pw_after hP hD hS hA isC isR is2 hC hR hn hdis h2n h2 hk hB.1 hB.2
  exact kk _ _ b1 b2 hS1
theorem pw_god {r : UInt64} (hr : va_Run p l e R s m args below meth c H locs cells slots 0 0 (F0 m pc ls st0) rest (pw_d D wc w1 r H.size a) (va_A wc H.size)) (hP : va_P D vwCl (ws ++ pl) H) (hD : va_D A0 (ws ++ pl)) (hS : va_S A0 H0 H locs) (hA : ∀ q, H0.size ≤ q → A0 q) (isC isR is2 : List Nat) (hC : isC.map (fun i => ws[i]?) = wc.map some) (hR : isR.all (fun i => decide (i < ws.length)) = true) (hn : va_nd isR = true) (hdis : isR.all (fun i => decide (i ∉ isC)) = true) (h2n : va_nd is2 = true) (h2 : is2.map (fun i => (isR.filterMap (fun i => ws[i]?) ++ w1)[i]?) = w2.map some)
    (kk : ∀ (H1 : Heap) (locs1 : List Loc), va_P D vwCl (w2 ++ pl) H1 → va_D A0 (w2 ++ pl) → va_S A0 H0 H1 locs1 → W p l e R s m args below meth c H1 locs1 cells slots Q (F0 m (pc + 3) ls (.double r :: rest))) : W p l e R s m args below meth c H locs cells slots Q (F0 m pc ls st0) := by
  refine va_calld hr hS (fun q _ h => pw_free hD hS hA isC hC q h) (pw_free hD hS hA isC hC) (fun r' u t H1 locs1 ht hvm hw hB hz hk hS1 => ?_)
  subst hw; subst ht
  obtain ⟨b1, b2⟩ := pw_after hP hD hS hA isC isR is2 hC hR hn hdis h2n h2 hk hB.1 hB.2
  exact kk _ _ b1 b2 hS1
theorem pw_gov (hr : va_Run p l e R s m args below meth c H locs cells slots 0 0 (F0 m pc ls st0) rest (pw_v D wc w1 H.size a) (va_A wc H.size)) (hP : va_P D vwCl (ws ++ pl) H) (hD : va_D A0 (ws ++ pl)) (hS : va_S A0 H0 H locs) (hA : ∀ q, H0.size ≤ q → A0 q) (isC isR is2 : List Nat) (hC : isC.map (fun i => ws[i]?) = wc.map some) (hR : isR.all (fun i => decide (i < ws.length)) = true) (hn : va_nd isR = true) (hdis : isR.all (fun i => decide (i ∉ isC)) = true) (h2n : va_nd is2 = true) (h2 : is2.map (fun i => (isR.filterMap (fun i => ws[i]?) ++ w1)[i]?) = w2.map some)
    (kk : ∀ (H1 : Heap) (locs1 : List Loc), va_P D vwCl (w2 ++ pl) H1 → va_D A0 (w2 ++ pl) → va_S A0 H0 H1 locs1 → W p l e R s m args below meth c H1 locs1 cells slots Q (F0 m (pc + 3) ls rest)) : W p l e R s m args below meth c H locs cells slots Q (F0 m pc ls st0) := by
  refine va_callv hr hS (fun q _ h => pw_free hD hS hA isC hC q h) (pw_free hD hS hA isC hC) (fun u t H1 locs1 ht hvm hw hB hz hk hS1 => ?_)
  subst ht
  obtain ⟨b1, b2⟩ := pw_after hP hD hS hA isC isR is2 hC hR hn hdis h2n h2 hk hB.1 hB.2
  exact kk _ _ b1 b2 hS1
theorem pw_goPv (hr : va_Run p l e R s m args below meth c H locs cells slots 0 0 (F0 m pc ls st0) rest (pw_v D (wc ++ pl) (w1 ++ pl1) H.size a) (va_A (wc ++ pl) H.size)) (hP : va_P D vwCl (ws ++ pl) H) (hD : va_D A0 (ws ++ pl)) (hS : va_S A0 H0 H locs) (hA : ∀ q, H0.size ≤ q → A0 q) (isC isR is2 : List Nat) (hC : isC.map (fun i => ws[i]?) = wc.map some) (hR : isR.all (fun i => decide (i < ws.length)) = true) (hn : va_nd isR = true) (hdis : isR.all (fun i => decide (i ∉ isC)) = true) (h2n : va_nd is2 = true) (h2 : is2.map (fun i => (isR.filterMap (fun i => ws[i]?) ++ w1)[i]?) = w2.map some)
    (kk : ∀ (H1 : Heap) (locs1 : List Loc), va_P D vwCl (w2 ++ pl1) H1 → va_D A0 (w2 ++ pl1) → va_S A0 H0 H1 locs1 → W p l e R s m args below meth c H1 locs1 cells slots Q (F0 m (pc + 3) ls rest)) : W p l e R s m args below meth c H locs cells slots Q (F0 m pc ls st0) := by
  refine va_callv hr hS (fun q _ h => pw_freeP hD hS hA isC hC q h) (pw_freeP hD hS hA isC hC) (fun u t H1 locs1 ht hvm hw hB hz hk hS1 => ?_)
  subst ht
  obtain ⟨b1, b2⟩ := pw_afterP hP hD hS hA isC isR is2 hC hR hn hdis h2n h2 hk hB.1 hB.2
  exact kk _ _ b1 b2 hS1
theorem pw_goPi {r : Int32} (hr : va_Run p l e R s m args below meth c H locs cells slots 0 0 (F0 m pc ls st0) rest (pw_i D (wc ++ pl) (w1 ++ pl1) r H.size a) (va_A (wc ++ pl) H.size)) (hP : va_P D vwCl (ws ++ pl) H) (hD : va_D A0 (ws ++ pl)) (hS : va_S A0 H0 H locs) (hA : ∀ q, H0.size ≤ q → A0 q) (isC isR is2 : List Nat) (hC : isC.map (fun i => ws[i]?) = wc.map some) (hR : isR.all (fun i => decide (i < ws.length)) = true) (hn : va_nd isR = true) (hdis : isR.all (fun i => decide (i ∉ isC)) = true) (h2n : va_nd is2 = true) (h2 : is2.map (fun i => (isR.filterMap (fun i => ws[i]?) ++ w1)[i]?) = w2.map some)
    (kk : ∀ (H1 : Heap) (locs1 : List Loc), va_P D vwCl (w2 ++ pl1) H1 → va_D A0 (w2 ++ pl1) → va_S A0 H0 H1 locs1 → W p l e R s m args below meth c H1 locs1 cells slots Q (F0 m (pc + 3) ls (.int r :: rest))) : W p l e R s m args below meth c H locs cells slots Q (F0 m pc ls st0) := by
  refine va_calli hr hS (fun q _ h => pw_freeP hD hS hA isC hC q h) (pw_freeP hD hS hA isC hC) (fun r' u t H1 locs1 ht hvm hw hB hz hk hS1 => ?_)
  subst hw; subst ht
  obtain ⟨b1, b2⟩ := pw_afterP hP hD hS hA isC isR is2 hC hR hn hdis h2n h2 hk hB.1 hB.2
  exact kk _ _ b1 b2 hS1
/-- a call of a method without a world: nothing changes -/
theorem pw_go0 {r : Int32} (hr : va_Run p l e R s m args below meth c H locs cells slots 0 0 (F0 m pc ls st0) rest (pw_i D [] [] r H.size a) (va_A [] H.size)) (hP : va_P D vwCl ws H) (hS : va_S A0 H0 H locs) (hA : ∀ q, H0.size ≤ q → A0 q)
    (kk : ∀ (H1 : Heap) (locs1 : List Loc), va_P D vwCl ws H1 → va_S A0 H0 H1 locs1 → W p l e R s m args below meth c H1 locs1 cells slots Q (F0 m (pc + 3) ls (.int r :: rest))) : W p l e R s m args below meth c H locs cells slots Q (F0 m pc ls st0) := by
  have hf : ∀ q, va_A [] H.size q → A0 q := fun q h => by
    rcases h with ⟨k, e, h⟩ | h
    · cases h
    · exact hA q (Nat.le_trans hS.1 h)
  refine va_calli hr hS (fun q _ h => hf q h) hf (fun r' u t H1 locs1 ht hvm hw hB hz hk hS1 => ?_)
  subst hw; subst ht
  refine kk _ _ (hP.kept fun k q hq => hk q.1 (hP k q hq).lt (fun h => ?_)) hS1
  rcases h with ⟨k, e, h⟩ | h
  · cases h
  · exact absurd (hP k q hq).lt (Nat.not_lt.mpr h)
theorem pw_go0l {r : Int64} (hr : va_Run p l e R s m args below meth c H locs cells slots 0 0 (F0 m pc ls st0) rest (pw_l D [] [] r H.size a) (va_A [] H.size)) (hP : va_P D vwCl ws H) (hS : va_S A0 H0 H locs) (hA : ∀ q, H0.size ≤ q → A0 q)
    (kk : ∀ (H1 : Heap) (locs1 : List Loc), va_P D vwCl ws H1 → va_S A0 H0 H1 locs1 → W p l e R s m args below meth c H1 locs1 cells slots Q (F0 m (pc + 3) ls (.long r :: rest))) : W p l e R s m args below meth c H locs cells slots Q (F0 m pc ls st0) := by
  have hf : ∀ q, va_A [] H.size q → A0 q := fun q h => by
    rcases h with ⟨k, e, h⟩ | h
    · cases h
    · exact hA q (Nat.le_trans hS.1 h)
  refine va_calll hr hS (fun q _ h => hf q h) hf (fun r' u t H1 locs1 ht hvm hw hB hz hk hS1 => ?_)
  subst hw; subst ht
  refine kk _ _ (hP.kept fun k q hq => hk q.1 (hP k q hq).lt (fun h => ?_)) hS1
  rcases h with ⟨k, e, h⟩ | h
  · cases h
  · exact absurd (hP k q hq).lt (Nat.not_lt.mpr h)
end PWC
/-! a method's own function: None where the machine itself would throw -/
abbrev oob (i : Int32) (n : Nat) : Prop := i < 0 ∨ n ≤ i.toNatClampNeg
theorem bnd {α β : Type} {o : Option α} {k : α → Option β} {z : β} (h : o.bind k = some z) : ∃ x, o = some x ∧ k x = some z := Option.bind_eq_some_iff.mp h
theorem gdn {P : Prop} [Decidable P] {α : Type} {k : Option α} {z : α} (h : (if P then none else k) = some z) : ¬ P ∧ k = some z := by
  by_cases hp : P
  · rw [if_pos hp] at h; cases h
  · rw [if_neg hp] at h; exact ⟨hp, h⟩
theorem gdp {P : Prop} [Decidable P] {α : Type} {k : Option α} {z : α} (h : (if P then k else none) = some z) : P ∧ k = some z := by
  by_cases hp : P
  · rw [if_pos hp] at h; exact ⟨hp, h⟩
  · rw [if_neg hp] at h; cases h
theorem ifp {P : Prop} [Decidable P] {α : Type} {k k2 : Option α} {z : α} (c : P) (h : (if P then k else k2) = some z) : k = some z := by rw [if_pos c] at h; exact h
theorem ifn {P : Prop} [Decidable P] {α : Type} {k k2 : Option α} {z : α} (c : ¬ P) (h : (if P then k else k2) = some z) : k2 = some z := by rw [if_neg c] at h; exact h
/-- how often a loop may go round, at most -/
def FU : Nat := 2000

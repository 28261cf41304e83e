/-! CONTRACTS OF METHODS THAT RETURN OR THROW: k = 0: the answer; else which exception; one world either way -/
def px_names : List String := ["java/lang/RuntimeException", "java/lang/Exception"]
def px_name (k : Nat) : String := if k = 1 then "java/lang/IndexOutOfBoundsException" else if k = 2 then "java/lang/IllegalArgumentException" else "java/lang/IllegalStateException"
def px_cast : List Cond := [.castable "java/lang/IndexOutOfBoundsException" "java/lang/IndexOutOfBoundsException", .castable "java/lang/IllegalArgumentException" "java/lang/IllegalArgumentException", .castable "java/lang/IllegalStateException" "java/lang/IllegalStateException", .declares ⟨"java/lang/RuntimeException", "<init>", "(Ljava/lang/String;)V"⟩, .declares ⟨"java/lang/Exception", "<init>", "(Ljava/lang/String;)V"⟩, .declares ⟨"java/lang/Throwable", "<init>", "(Ljava/lang/String;)V"⟩]
def px_strs : List (Nat × String) := [(50, "a sign is 0 to 3"), (61, "the row is full"), (77, "there is no such place"), (92, "1 to 240 signs are cut"), (103, "an argument is out of range"), (105, "the row has no place for so many signs"), (115, "tenths or phase is out of range"), (120, "4 periods are kept, or this one is"), (131, "there is no such period"), (139, "from or to is out of range"), (144, "4 periods are kept, or the one that is found is"), (158, "there is no such setting"), (163, "value is out of range"), (171, "code is not 33 to 126"), (174, "the buffer is full"), (186, "the buffer is not complete signs as a text"), (197, "no state is saved"), (202, "place is below 0"), (204, "what is not 0 to 6"), (215, "there is no such class"), (217, "sign is not 0 to 4"), (226, "what is not 0 to 2"), (231, "what is not 0 to 9"), (243, "tenths is out of range"), (245, "tenths or places is out of range")]
/-- the two statics that a throw reads, apart from A -/
def px_X (A : Nat → Prop) (U : State) (H : Heap) : Prop := vx_Zq Bundle.tN "UNASSIGNED_STACK" Bundle.steD A U H ∧ vx_Zq Bundle.tN "SUPPRESSED_SENTINEL" Bundle.listD A U H
theorem px_X.kept {A : Nat → Prop} {U : State} {H H1 : Heap} (h : px_X A U H) (hq : ∀ a : Nat, a < H.size → ¬ A a → H1[a]? = H[a]?) : px_X A U H1 := ⟨h.1.kept hq, h.2.kept hq⟩
theorem px_X.narrow {A B : Nat → Prop} {U : State} {H : Heap} (h : px_X A U H) (hAB : ∀ q, B q → A q) : px_X B U H := ⟨h.1.narrow hAB, h.2.narrow hAB⟩
theorem px_X.moved {A : Nat → Prop} {u U : State} {H : Heap} (hvm : u.vm.Alike U.vm) (h : px_X A u H) : px_X A U H := ⟨h.1.moved hvm, h.2.moved hvm⟩
/-- the texts, and the words that no method's list holds -/
def px_T (U : State) : Prop := (∀ q ∈ px_strs, ∃ sa, vk_R RX5 q.1 q.2 sa U) ∧ ∀ w ∈ px_cast, va_Nw w U
theorem px_castk : ∀ w ∈ px_cast, (∃ C T, w = Cond.castable C T) ∨ ∃ y, w = Cond.declares y := by
  unfold px_cast
  repeat (first | exact fun _ h => absurd h List.not_mem_nil | refine List.forall_mem_cons.mpr ⟨Or.inl ⟨_, _, rfl⟩, ?_⟩ | refine List.forall_mem_cons.mpr ⟨Or.inr ⟨_, rfl⟩, ?_⟩)
theorem px_T.warm {s U : State} (hW : s.WarmedH U.vm) (h : px_T s) : px_T U := by
  refine ⟨fun q hq => ?_, fun w hw => ?_⟩
  · obtain ⟨sa, h1⟩ := h.1 q hq
    exact ⟨sa, h1.warm hW⟩
  · have h1 := h.2 w hw
    rcases px_castk w hw with ⟨C, T, rfl⟩ | ⟨y, rfl⟩
    · exact va_Nw.warmC hW h1
    · exact va_Nw.warmD hW h1
theorem px_T.same {s U : State} (e : U.vm = s.vm) (h : px_T s) : px_T U := by
  refine ⟨fun q hq => ?_, fun w hw => ?_⟩
  · obtain ⟨sa, h1⟩ := h.1 q hq
    exact ⟨sa, h1.same e⟩
  · have h1 := h.2 w hw
    rcases px_castk w hw with ⟨C, T, rfl⟩ | ⟨y, rfl⟩
    · exact va_Nw.same rfl e.symm h1
    · exact va_Nw.same rfl e.symm h1
def px_pre (D : va_G) (tys : List (ClassId × FieldType)) (av : List Value) (ws : va_W) (sz : Nat) : Array Value → State → Prop :=
  va_Pc av (fun U => U.heap.size = sz ∧ va_P D vwCl ws U.heap ∧ va_K D vwCl tys U ∧ va_D (fun _ => True) ws ∧ pw_N U ∧ px_X (va_A ws sz) U U.heap ∧ px_T U)
def px_i (D : va_G) (ws w1 : va_W) (k : Nat) (r : Int32) (sz : Nat) : Array Value → State → Outcome → State → Prop := va_Qi (fun (x : Int32) (_ : Unit) => k = 0 ∧ x = r) (pw_B D ws w1 sz) (va_A ws sz)
def px_x (D : va_G) (ws w1 : va_W) (k : Nat) (sz : Nat) : String → State → State → Prop := vx_X (fun (_ : Unit) => k ≠ 0) (fun E u t => E = px_name k ∧ pw_B D ws w1 sz u t) (va_A ws sz)
theorem px_blind {D : va_G} {tys : List (ClassId × FieldType)} {av : List Value} {ws : va_W} {sz : Nat} : FrameBlind (px_pre D tys av ws sz) := fun a U g mk q => by
  obtain ⟨q0, q1, qP, qK, qD, qN, qX, qT⟩ := q
  exact ⟨q0, q1, qP, va_K.moved (u := U) (U := U.calling g mk a) (Vm.Alike.refl U.vm) qK, qD, pw_N.same (s := U) (U := U.calling g mk a) rfl qN, px_X.moved (u := U) (U := U.calling g mk a) (Vm.Alike.refl U.vm) qX, px_T.same (s := U) (U := U.calling g mk a) rfl qT⟩
theorem px_preV {s : State} {H : Heap} {D : va_G} {tys : List (ClassId × FieldType)} {As : List Value} {wc : va_W} {A : Nat → Prop} {b ci q0 : Nat} {q : vw_C} {fs : List Value} (hK : va_K D vwCl tys s) (hN : pw_N s) (hX : px_X (va_A wc H.size) s H) (hT : px_T s) (hP : va_P D vwCl wc H) (hD : va_D A wc) (hc : vwCl[ci]? = some q) (he : wc[q0]? = some (b, .inr (ci, fs))) : PreV s H q.1 b (px_pre D tys (.ref b :: As) wc H.size) As :=
  ⟨px_blind, va_recv hK hP hc he, fun U hU hW => ⟨rfl, by rw [hU], by rw [hU]; exact hP, va_K.moved hW.alike hK, hD.weaken (fun _ _ _ _ => trivial), hN.warm hW, by rw [hU]; exact hX.moved hW.alike, hT.warm hW⟩⟩
/-- the body of a method that may throw, from its entry -/
theorem px_of {l : Launch} {y : MethodName} {ws ws' : List Cond} {rm : Room} {Qc : Nat → Array Value → State → Outcome → State → Prop} {XC : Nat → String → State → State → Prop} {mc ms : Nat} {cc : ByteArray} {maxL : Nat} {ret : Option FieldType} {D : va_G} {tys : List (ClassId × FieldType)} {av : List Value} {wd : va_W} {sz : Nat}
    (hy : plainName y.cls = true) (hw : ws = Cond.code y cc maxL ret :: ws') (hlen : (lg_sl av).length ≤ maxL)
    (body : ∀ (p : Program) (e : Env) (s : State) (m : MethodId) (args : Array Value) (below : List Frame) (meth : Method) (c : Code) (A : Nat → Prop) (Q : State → Prop) (H : Heap) (ls : Array Slot), p.tables.exec = Jvm.exec → c.code = cc → c.maxLocals = maxL → meth.sig.returnType = ret → (∀ w ∈ ws, w.before args s = true) → s.vm.findClass y.cls = some m.cls → meth.locks = false →
      va_A wd s.heap.size = A → Q = vx_MQ below (Qc s.heap.size) (XC s.heap.size) args s mc ms A → va_K D vwCl tys s → pw_N s → px_X A s s.heap → px_T s → (∀ x ∈ c.exceptionTable.toList, False) → (∀ q, s.heap.size ≤ q → A q) → va_P D vwCl wd H → va_D A wd → va_S A s.heap H [] → lv_has ls maxL (lv_args 0 av) →
      W p l e rm s m args below meth c H [] 0 0 Q (F0 m 0 ls [])) : vx_Met l y ws rm (px_pre D tys av wd sz) (Qc sz) (XC sz) mc ms (va_A wd sz) := by
  refine vx_ofW (cc := cc) (maxL := maxL) (ret := ret) hy hw ?_
  intro p e s m args below meth c s₁ B hml hexc hv
  obtain ⟨rfl, hsz, hP, hK, hD0, hN, hX, hT⟩ := hv
  subst hsz
  have hl := lv_entry av (n := maxL) hlen
  rw [lg_entry_eq]
  exact body p e s m av.toArray below meth c _ _ _ _ B.exec B.bytes hml B.returns (atoms_spec (ws := ws) B.pre) (findClass_of_methodNamed B.named) B.notSynchronized rfl rfl hK hN hX hT hexc (fun q h => Or.inr h) hP hD0.self va_S.rf hl
section PXE
variable {p : Program} {l : Launch} {e : Env} {R : Room} {s : State} {m : MethodId} {args : Array Value} {below : List Frame} {meth : Method} {c : Code} {H H0 : Heap} {locs : List Loc} {cells slots : Nat} {Q : State → Prop}
variable {D : va_G} {tys : List (ClassId × FieldType)} {wd w1 : va_W} {A A0 : Nat → Prop} {cc : ByteArray} {pc : Nat} {ls : Array Slot} {rest : List Value}
theorem px_iret {v : Int32} (hx : p.tables.exec = Jvm.exec) (hb : c.code = cc) (hr : meth.sig.returnType = some .int) (hlocks : meth.locks = false) (hAe : va_A wd s.heap.size = A) (hQ : Q = vx_MQ below (px_i D wd w1 0 v s.heap.size) (px_x D wd w1 0 s.heap.size) args s 1 6 A) (hP : va_P D vwCl w1 H) (hD : va_D A w1) (hS : va_S A s.heap H locs) (hdg : decode cc pc = .ok (.ireturn, 1)) :
    W p l e R s m args below meth c H locs 0 0 Q (F0 m pc ls [.int v]) := by
  subst hQ; subst hAe
  refine vx_ret ?_
  refine W.widen (k := 1) (n := 6) (by omega) (by omega) ?_
  exact W.iret (v := v) hx hb hr (fun t ht hW => ⟨⟨v, (), rfl, ⟨rfl, rfl⟩, by rw [ht]; exact hP, hD⟩, hS.F ht⟩) hS.2.2 hdg
theorem px_throw {cls text : String} {k ik is ic : Nat} {r : Int32} (hx : p.tables.exec = Jvm.exec) (hb : c.code = cc) (hst : l.stackTraces = false) (hown : s.vm.findClass RX5 = some m.cls) (hlocks : meth.locks = false) (hml : ls.size = c.maxLocals) (hexc : ∀ x ∈ c.exceptionTable.toList, False) (hX : px_X A s s.heap) (hT : px_T s)
    (hAe : va_A wd s.heap.size = A) (hQ : Q = vx_MQ below (px_i D wd w1 k r s.heap.size) (px_x D wd w1 k s.heap.size) args s 1 6 A) (hk0 : k ≠ 0) (hkn : cls = px_name k) (hP : va_P D vwCl w1 H) (hD : va_D A w1) (hS : va_S A s.heap H locs)
    (hcls : Bundle.fit cls = true) (hkl : (Cond.classLink RX5 ik cls).before args s = true) (hini : (Cond.initialized cls).before args s = true) (hstr : (is, text) ∈ px_strs)
    (h1 : ∀ w ∈ (vx_atS RX5 ic cls px_names).filter goodWord, w.before args s = true) (h2 : ∀ w ∈ (vx_atS RX5 ic cls px_names).filter (fun w => !goodWord w), w ∈ px_cast) (hgood : ∀ w ∈ Cond.classLink RX5 ik cls :: Cond.initialized cls :: vx_atS RX5 ic cls px_names, vx_ot w = true)
    (d0 : decode cc pc = .ok (.new ik, 3)) (d3 : decode cc (pc + 3) = .ok (.dup, 1)) (d4 : decode cc (pc + 4) = .ok (.ldc is, 2)) (d6 : decode cc (pc + 6) = .ok (.invokespecial ic, 3)) (d9 : decode cc (pc + 9) = .ok (.athrow, 1))
    (hRf : 5 < R.frames) (hRl : (rest.map fun v => v.category).sum + 82 ≤ R.locals) (hRc : 1 ≤ R.cells) (hRs : 6 ≤ R.slots) :
    W p l e R s m args below meth c H locs 0 0 Q (F0 m pc ls rest) := by
  subst hQ; subst hAe; subst hkn
  obtain ⟨sa, hsa⟩ := hT.1 _ hstr
  refine vx_throwS (names := px_names) hx hb hst hown hcls (by decide +kernel) hkl hini hsa (vx_hat h1 h2 (fun w hw => ?_)) hgood hX.1 hX.2 hS hml d0 d3 d4 d6 d9 (fun x hx => (hexc x hx).elim) hRf hRl (by omega) (by omega) hlocks (fun t hvm hz hk => ?_) hS.2.2 (by omega) (by omega)
  · rcases px_castk w hw with ⟨C, T, rfl⟩ | ⟨y, rfl⟩
    · exact va_Nw.use rfl (hT.2 _ hw)
    · exact va_Nw.use rfl (hT.2 _ hw)
  · refine ⟨(), hk0, ⟨rfl, hP.kept (fun j q hq => hk q.1 (hP j q hq).lt), hD⟩, Nat.le_trans hS.1 hz, fun q h1 h2 => ?_⟩
    rw [hk q (Nat.lt_of_lt_of_le h1 hS.1)]
    exact hS.2.1 q h1 h2
end PXE
theorem px_ng1 : ∀ w ∈ (vx_atS RX5 79 "java/lang/IndexOutOfBoundsException" px_names).filter (fun w => !goodWord w), w ∈ px_cast := by decide +kernel
theorem px_ng2 : ∀ w ∈ (vx_atS RX5 52 "java/lang/IllegalArgumentException" px_names).filter (fun w => !goodWord w), w ∈ px_cast := by decide +kernel
theorem px_ng3 : ∀ w ∈ (vx_atS RX5 63 "java/lang/IllegalStateException" px_names).filter (fun w => !goodWord w), w ∈ px_cast := by decide +kernel
theorem px_gd1 : ∀ w ∈ Cond.classLink RX5 75 "java/lang/IndexOutOfBoundsException" :: Cond.initialized "java/lang/IndexOutOfBoundsException" :: vx_atS RX5 79 "java/lang/IndexOutOfBoundsException" px_names, vx_ot w = true := by decide +kernel
theorem px_gd2 : ∀ w ∈ Cond.classLink RX5 48 "java/lang/IllegalArgumentException" :: Cond.initialized "java/lang/IllegalArgumentException" :: vx_atS RX5 52 "java/lang/IllegalArgumentException" px_names, vx_ot w = true := by decide +kernel
theorem px_gd3 : ∀ w ∈ Cond.classLink RX5 59 "java/lang/IllegalStateException" :: Cond.initialized "java/lang/IllegalStateException" :: vx_atS RX5 63 "java/lang/IllegalStateException" px_names, vx_ot w = true := by decide +kernel

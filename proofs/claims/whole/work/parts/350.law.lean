/-! THE LAW'S OWN CALLS: a method with handlers that calls one which may throw, and answers which exception it was -/
def px_C (U : State) : Prop := va_Nc "java/lang/IllegalStateException" "java/lang/IllegalArgumentException" U ∧ va_Nc "java/lang/IllegalArgumentException" "java/lang/IndexOutOfBoundsException" U
theorem px_C.moved {u U : State} (hvm : u.vm.Alike U.vm) (h : px_C u) : px_C U := ⟨h.1.moved hvm, h.2.moved hvm⟩
def pl_pre (D : va_G) (tys : List (ClassId × FieldType)) (av : List Value) (ws : va_W) (sz : Nat) : Array Value → State → Prop :=
  va_Pc av (fun U => U.heap.size = sz ∧ va_P D vwCl ws U.heap ∧ va_K D vwCl tys U ∧ va_D (fun _ => True) ws ∧ pw_N U ∧ px_X (va_A ws sz) U U.heap ∧ px_T U ∧ px_C U)
theorem pl_blind {D : va_G} {tys : List (ClassId × FieldType)} {av : List Value} {ws : va_W} {sz : Nat} : FrameBlind (pl_pre D tys av ws sz) := fun a U g mk q => by
  obtain ⟨q0, q1, qP, qK, qD, qN, qX, qT, qC⟩ := q
  exact ⟨q0, q1, qP, va_K.moved (u := U) (U := U.calling g mk a) (Vm.Alike.refl U.vm) qK, qD, pw_N.same (s := U) (U := U.calling g mk a) rfl qN, px_X.moved (u := U) (U := U.calling g mk a) (Vm.Alike.refl U.vm) qX, px_T.same (s := U) (U := U.calling g mk a) rfl qT, px_C.moved (u := U) (U := U.calling g mk a) (Vm.Alike.refl U.vm) qC⟩
theorem pl_preS {s : State} {H : Heap} {D : va_G} {tys : List (ClassId × FieldType)} {As : List Value} {wc : va_W} {A : Nat → Prop} (hK : va_K D vwCl tys s) (hN : pw_N s) (hX : px_X (va_A wc H.size) s H) (hT : px_T s) (hC : px_C s) (hP : va_P D vwCl wc H) (hD : va_D A wc) : PreS s H (pl_pre D tys As wc H.size) As :=
  ⟨pl_blind, fun U hU hW => ⟨rfl, by rw [hU], by rw [hU]; exact hP, va_K.moved hW.alike hK, hD.weaken (fun _ _ _ _ => trivial), hN.warm hW, by rw [hU]; exact hX.moved hW.alike, hT.warm hW, hC.moved hW.alike⟩⟩
theorem pl_of {l : Launch} {y : MethodName} {ws ws' : List Cond} {rm : Room} {Qc : Nat → Array Value → State → Outcome → State → Prop} {mc ms : Nat} {cc : ByteArray} {maxL : Nat} {ret : Option FieldType} {hh : List (Nat × Nat × Nat × Nat)} {D : va_G} {tys : List (ClassId × FieldType)} {av : List Value} {wd : va_W} {sz : Nat}
    (hy : plainName y.cls = true) (hw : ws = Cond.codeWith y cc maxL ret hh :: ws') (hlen : (lg_sl av).length ≤ maxL)
    (body : ∀ (p : Program) (e : Env) (s : State) (m : MethodId) (args : Array Value) (below : List Frame) (meth : Method) (c : Code) (A : Nat → Prop) (Q : State → Prop) (H : Heap) (ls : Array Slot), p.tables.exec = Jvm.exec → c.code = cc → c.maxLocals = maxL → meth.sig.returnType = ret → (∀ w ∈ ws, w.before args s = true) → s.vm.findClass y.cls = some m.cls → meth.locks = false →
      va_A wd s.heap.size = A → Q = MQ below (Qc s.heap.size) args s mc ms A → va_K D vwCl tys s → pw_N s → px_X A s s.heap → px_T s → px_C s → c.exceptionTable.toList = tableOf hh → (∀ q, s.heap.size ≤ q → A q) → va_P D vwCl wd H → va_D A wd → va_S A s.heap H [] → lv_has ls maxL (lv_args 0 av) →
      W p l e rm s m args below meth c H [] 0 0 Q (F0 m 0 ls [])) : Met l y ws rm (pl_pre D tys av wd sz) (Qc sz) mc ms (va_A wd sz) := by
  refine MetFree.of_bodyS (code := cc) (maxLocals := maxL) (ret := ret) hy ?_ ?_
  · intro args s m h hn
    obtain ⟨m9, meth, c, hn9, h1, h2, h3, h4, -, h5, h6, -⟩ := Cond.codeWith_spec (atoms_spec (ws := ws) h _ (by rw [hw]; exact List.mem_cons_self))
    cases hn.symm.trans hn9
    exact ⟨meth, c, h1, h2, h3, h4, h5, h6⟩
  · intro p e s m args below meth c s₁ B hml hv _
    have hh0 : s₁.heap = s.heap := by rw [B.state]; rfl
    have htab := vx_table (x := y) (hh := hh) B (atoms_spec (ws := ws) B.pre _ (by rw [hw]; exact List.mem_cons_self))
    obtain ⟨rfl, hsz, hP, hK, hD0, hN, hX, hT, hC⟩ := hv
    subst hsz
    have hl := lv_entry av (n := maxL) hlen
    have K := body p e s m av.toArray below meth c _ _ _ _ B.exec B.bytes hml B.returns (atoms_spec (ws := ws) B.pre) (findClass_of_methodNamed B.named) B.notSynchronized rfl rfl hK hN hX hT hC htab (fun q h => Or.inr h) hP hD0.self va_S.rf hl
    rw [← lg_entry_eq] at K
    obtain ⟨t, a1, o, b1, b2, b3⟩ := K s₁ hh0 (Stand.of_body B)
    exact ⟨t, o, a1, b1, b2, b3⟩
section PLE
variable {p : Program} {l : Launch} {e : Env} {R : Room} {s : State} {m : MethodId} {args : Array Value} {below : List Frame} {meth : Method} {c : Code} {H H0 : Heap} {locs : List Loc} {cells slots : Nat} {Q : State → Prop}
variable {D : va_G} {tys : List (ClassId × FieldType)} {wd : va_W} {A A0 : Nat → Prop} {cc : ByteArray} {pc : Nat} {ls : Array Slot} {rest st0 : List Value} {a : Array Value} {ws pl pl1 wc w1 w2 : va_W} {k : Nat} {r : Int32}
theorem pl_iret {v : Int32} {w1 : va_W} {k n : Nat} (hx : p.tables.exec = Jvm.exec) (hb : c.code = cc) (hr : meth.sig.returnType = some .int) (hlocks : meth.locks = false) (hAe : va_A wd s.heap.size = A) (hQ : Q = MQ below (pw_i D wd w1 v s.heap.size) args s k n A) (hP : va_P D vwCl w1 H) (hD : va_D A w1) (hS : va_S A s.heap H locs) (hdg : decode cc pc = .ok (.ireturn, 1)) :
    W p l e R s m args below meth c H locs k n Q (F0 m pc ls [.int v]) := by
  subst hQ; subst hAe
  exact W.iret (v := v) hx hb hr (fun t ht hW => ⟨⟨v, (), rfl, rfl, by rw [ht]; exact hP, hD⟩, hS.F ht⟩) hS.2.2 hdg
theorem px_go (hr : vx_Run p l e R s m args below meth c H locs cells slots 1 6 (F0 m pc ls st0) rest (px_i D wc w1 k r H.size a) (px_x D wc w1 k H.size) (va_A wc H.size)) (hP : va_P D vwCl (ws ++ pl) H) (hD : va_D A0 (ws ++ pl)) (hS : va_S A0 H0 H locs) (hA : ∀ q, H0.size ≤ q → A0 q) (isC isR is2 : List Nat) (hC : isC.map (fun i => ws[i]?) = wc.map some) (hR : isR.all (fun i => decide (i < ws.length)) = true) (hn : va_nd isR = true) (hdis : isR.all (fun i => decide (i ∉ isC)) = true) (h2n : va_nd is2 = true) (h2 : is2.map (fun i => (isR.filterMap (fun i => ws[i]?) ++ w1)[i]?) = w2.map some)
    (kx : k ≠ 0 → ∀ (ce : Cell) (q9 : Addr) (H1 : Heap) (locs1 : List Loc), va_P D vwCl (w2 ++ pl) H1 → va_D A0 (w2 ++ pl) → va_S A0 H0 H1 locs1 → H1[q9]? = some ce → ce.vm = .none → s.vm.findClass (px_name k) = some ce.cls → vx_W p l e R s m args below meth c H1 locs1 (cells + 1) (slots + 6) Q (F0 m pc ls rest) q9)
    (kk : k = 0 → ∀ (H1 : Heap) (locs1 : List Loc), va_P D vwCl (w2 ++ pl) H1 → va_D A0 (w2 ++ pl) → va_S A0 H0 H1 locs1 → W p l e R s m args below meth c H1 locs1 (cells + 1) (slots + 6) Q (F0 m (pc + 3) ls (.int r :: rest))) : W p l e R s m args below meth c H locs cells slots Q (F0 m pc ls st0) := by
  refine vx_calli hr hS (fun q _ h => pw_free hD hS hA isC hC q h) (pw_free hD hS hA isC hC) (fun q _ h => pw_free hD hS hA isC hC q h) (fun E ce q9 u t H1 locs1 ht hvm hk0 hB hz hk hS1 hce hcv hcl => ?_) (fun r' u t H1 locs1 ht hvm hw hB hz hk hS1 => ?_)
  · obtain ⟨hE, hB⟩ := hB
    subst hE; subst ht
    obtain ⟨b1, b2⟩ := pw_after hP hD hS hA isC isR is2 hC hR hn hdis h2n h2 hk hB.1 hB.2
    exact kx hk0 ce q9 _ _ b1 b2 hS1 hce hcv hcl
  · obtain ⟨hk0, hw⟩ := hw
    subst hw; subst ht
    obtain ⟨b1, b2⟩ := pw_after hP hD hS hA isC isR is2 hC hR hn hdis h2n h2 hk hB.1 hB.2
    exact kk hk0 _ _ b1 b2 hS1
theorem px_goP (hr : vx_Run p l e R s m args below meth c H locs cells slots 1 6 (F0 m pc ls st0) rest (px_i D (wc ++ pl) (w1 ++ pl1) k r H.size a) (px_x D (wc ++ pl) (w1 ++ pl1) k H.size) (va_A (wc ++ pl) H.size)) (hP : va_P D vwCl (ws ++ pl) H) (hD : va_D A0 (ws ++ pl)) (hS : va_S A0 H0 H locs) (hA : ∀ q, H0.size ≤ q → A0 q) (isC isR is2 : List Nat) (hC : isC.map (fun i => ws[i]?) = wc.map some) (hR : isR.all (fun i => decide (i < ws.length)) = true) (hn : va_nd isR = true) (hdis : isR.all (fun i => decide (i ∉ isC)) = true) (h2n : va_nd is2 = true) (h2 : is2.map (fun i => (isR.filterMap (fun i => ws[i]?) ++ w1)[i]?) = w2.map some)
    (kx : k ≠ 0 → ∀ (ce : Cell) (q9 : Addr) (H1 : Heap) (locs1 : List Loc), va_P D vwCl (w2 ++ pl1) H1 → va_D A0 (w2 ++ pl1) → va_S A0 H0 H1 locs1 → H1[q9]? = some ce → ce.vm = .none → s.vm.findClass (px_name k) = some ce.cls → vx_W p l e R s m args below meth c H1 locs1 (cells + 1) (slots + 6) Q (F0 m pc ls rest) q9)
    (kk : k = 0 → ∀ (H1 : Heap) (locs1 : List Loc), va_P D vwCl (w2 ++ pl1) H1 → va_D A0 (w2 ++ pl1) → va_S A0 H0 H1 locs1 → W p l e R s m args below meth c H1 locs1 (cells + 1) (slots + 6) Q (F0 m (pc + 3) ls (.int r :: rest))) : W p l e R s m args below meth c H locs cells slots Q (F0 m pc ls st0) := by
  refine vx_calli hr hS (fun q _ h => pw_freeP hD hS hA isC hC q h) (pw_freeP hD hS hA isC hC) (fun q _ h => pw_freeP hD hS hA isC hC q h) (fun E ce q9 u t H1 locs1 ht hvm hk0 hB hz hk hS1 hce hcv hcl => ?_) (fun r' u t H1 locs1 ht hvm hw hB hz hk hS1 => ?_)
  · obtain ⟨hE, hB⟩ := hB
    subst hE; subst ht
    obtain ⟨b1, b2⟩ := pw_afterP hP hD hS hA isC isR is2 hC hR hn hdis h2n h2 hk hB.1 hB.2
    exact kx hk0 ce q9 _ _ b1 b2 hS1 hce hcv hcl
  · obtain ⟨hk0, hw⟩ := hw
    subst hw; subst ht
    obtain ⟨b1, b2⟩ := pw_afterP hP hD hS hA isC isR is2 hC hR hn hdis h2n h2 hk hB.1 hB.2
    exact kk hk0 _ _ b1 b2 hS1
end PLE

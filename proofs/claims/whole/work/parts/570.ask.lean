/-! GROW, AND THE QUESTIONS: PERIOD, REMAINDER, TOLD, COUNT, MEND -/
section OT
variable {ms row ten pha : Nat → Int32} {len kep wfi wmo hun nex man : Int32} {rg : Nat → StV} {mv : Nat → Int32} {svm : Int32} {N K w0 w1 w2 : Nat} {r tn ph : Nat → Nat}
def gs (N a q : Nat) : Nat := ((10 * N + 0) % a / 10 + (if q = 0 then 0 else if N % q = 0 then 1 else 0)) % 4
theorem c_grown {N a q : Nat} (hN : N ≤ 240) (ha : 10 ≤ a) (ha2 : a ≤ 400) (hq : q ≤ 240) : fX5_grownSign (nI N) (nI a) (nI q) = some (nI (gs N a q)) := by
  have hc := cls_lt (x := 10 * N + 0) ha ha2
  have he : fX5_classOf (nI N) (nI a) 0 = some (nI ((10 * N + 0) % a / 10)) := e_classOf (p := 0) (by omega) ha ha2 (by omega)
  unfold fX5_grownSign gs
  rw [he, Option.bind_some]
  generalize (10 * N + 0) % a / 10 = c at hc
  rw [show ((4 : Int32)) = nI 4 from rfl, pk_rem (by omega) (by omega) (by omega), lit_1, nI_add, pk_rem (a := c % 4 + 1) (by omega) (by omega) (by omega)]
  by_cases h : q = 0
  · rw [if_pos (show nI q ≤ 0 by rw [lit_0, nI_leI (by omega) (by omega)]; omega), if_pos h, Nat.add_zero]
  · rw [if_neg (show ¬ nI q ≤ 0 by rw [lit_0, nI_leI (by omega) (by omega)]; omega), if_neg (show ¬ nI q = 0 by rw [lit_0, nI_eq (by omega) (by omega)]; exact h), if_neg h, pk_rem (by omega) (by omega) (by omega)]
    have hm := Nat.mod_lt N (show 0 < q by omega)
    by_cases z : N % q = 0
    · rw [if_pos (show nI (N % q) = 0 by rw [z]; rfl), if_pos z, show (c % 4 + 1) % 4 = (c + 1) % 4 by omega]
    · rw [if_neg (show ¬ nI (N % q) = 0 by rw [lit_0, nI_eq (by omega) (by omega)]; exact z), if_neg z, Nat.add_zero]
theorem gs_lt (N a q : Nat) : gs N a q < 4 := Nat.mod_lt _ (by omega)
theorem l_grow {a c q : Nat} (ha : 10 ≤ a) (ha2 : a ≤ 400) (hq : q ≤ 240) (hc : c ≤ 240) : ∀ (n d N : Nat) (r : Nat → Nat) (row ms : Nat → Int32) (len : Int32), d ≤ c → c < n + d → N + (c - d) ≤ 240 → AB N K w0 w1 w2 r tn ph → CI row ten pha len kep wfi wmo hun N K w0 w1 w2 r tn ph → MI ms N K w0 w1 w2 r tn ph →
    ∃ row' len' ms', fX5_grow_L78 (nI a) (nI c) (nI q) n (nI d) row len = some (row', len') ∧ fX6_grow_L72 (nI a) (nI c) (nI q) n (nI d) ms = some ms' ∧ RS row' ten pha len' kep wfi wmo hun ms' ∧ ms' 0 = len'
  | 0, d, N, r, row, ms, len, h1, h2, _, _, _, _ => absurd h2 (by omega)
  | n + 1, d, N, r, row, ms, len, h1, h2, h3, hA, hC, hM => by
    have hN := hA.1
    have m0 : ms (0 : Int32).toNatClampNeg = nI N := hM.1
    rw [fX5_grow_L78, fX6_grow_L72]
    by_cases h : d = c
    · subst h
      rw [if_pos (Int32.le_refl _), if_pos (Int32.le_refl _)]
      exact ⟨row, len, ms, rfl, rfl, ⟨N, K, w0, w1, w2, r, tn, ph, hA, hC, hM⟩, hM.1.trans hC.1.symm⟩
    · have hlt : ¬ nI c ≤ nI d := by rw [nI_leI (by omega) (by omega)]; omega
      obtain ⟨b1, b2, b3⟩ := add_sign hA hC hM (gs_lt N a q) (show N < 240 by omega)
      obtain ⟨row', len', ms', e1, e2, e3, e4⟩ := l_grow ha ha2 hq hc n (d + 1) (N + 1) _ _ _ _ (by omega) (by omega) (by omega) b1 b2 b3
      have hx : (if nI q ≤ 0 then some 0 else if nI q = 0 then none else if (nI N - nI N / nI q * nI q) = 0 then some 1 else some 0 : Option Int32) = some (nI (if q = 0 then 0 else if N % q = 0 then 1 else 0)) := by
        by_cases h : q = 0
        · rw [if_pos (by rw [lit_0, nI_leI (by omega) (by omega)]; omega), if_pos h]
          rfl
        · have hm := Nat.mod_lt N (show 0 < q by omega)
          rw [if_neg (by rw [lit_0, nI_leI (by omega) (by omega)]; omega), if_neg (show ¬ nI q = 0 by rw [lit_0, nI_eq (by omega) (by omega)]; exact h), if_neg h, pk_rem (by omega) (by omega) (by omega)]
          by_cases z : N % q = 0
          · rw [if_pos (by rw [z]; rfl), if_pos z]
            rfl
          · rw [if_neg (show ¬ nI (N % q) = 0 by rw [lit_0, nI_eq (by omega) (by omega)]; exact z), if_neg z]
            rfl
      refine ⟨row', len', ms', ?_, ?_, e3, e4⟩
      · rw [if_neg hlt, hC.1, c_grown hN ha ha2 hq, Option.bind_some]
        unfold fX2_addSign
        rw [e_lay (by omega) (by omega), lit_1, nI_add, nI_add]
        rw [hC.1, lit_1, nI_add] at e1
        exact e1
      · have hcl := cls_lt (x := 10 * N + 0) ha ha2
        have hb : (if q = 0 then 0 else if N % q = 0 then 1 else 0) ≤ 1 := by split <;> (try split) <;> omega
        have hz : fX6_classOf (nI N) (nI a) 0 = some (nI ((10 * N + 0) % a / 10)) := e_classOf6 (p := 0) (by omega) ha ha2 (by omega)
        have hg : (nI ((10 * N + 0) % a / 10) + nI (if q = 0 then 0 else if N % q = 0 then 1 else 0)) - (nI ((10 * N + 0) % a / 10) + nI (if q = 0 then 0 else if N % q = 0 then 1 else 0)) / 4 * 4 = nI (gs N a q) := by
          rw [nI_add, show ((4 : Int32)) = nI 4 from rfl, pk_rem (by omega) (by omega) (by omega)]
          rfl
        have c13 : ((13 : Int32) + nI N).toNatClampNeg = 13 + N := by rw [show ((13 : Int32)) = nI 13 from rfl, nI_add, nI_clamp (by omega)]
        have o13 : ¬ oob ((13 : Int32) + nI N) 253 := by rw [show ((13 : Int32)) = nI 13 from rfl, nI_add]; exact oob_no (by omega) (by omega)
        have hu0 : upd ms (13 + N) (nI (gs N a q)) (0 : Int32).toNatClampNeg = nI N := by rw [upd_at, if_neg (show ¬ (0 : Int32).toNatClampNeg = 13 + N by show ¬ 0 = 13 + N; omega)]; exact hM.1
        rw [if_neg hlt, if_neg (show ¬ oob 0 253 by decide), m0, hx, Option.bind_some, hz, Option.bind_some, hg, if_neg o13, c13, if_neg (show ¬ oob 0 253 by decide), if_neg (show ¬ oob 0 253 by decide), hu0, lit_1, nI_add, nI_add]
        exact e2
theorem op_grow (f5 : Nat → Int64) (x y z : Int32) (hR : RS row ten pha len kep wfi wmo hun ms) (hH : HI nex man rg mv svm) :
    ∃ k row' len' nex' man' f5' rg' ans ms' mv' svm', fL_grow row ten pha len kep wfi wmo hun nex man f5 rg x y z = some (k, row', len', nex', man', f5', rg') ∧ fX6_grow ms mv svm x y z = some (ans, k, ms', mv', svm') ∧ (k = 0 → f5' 0 = ans.toInt64) ∧ RS row' ten pha len' kep wfi wmo hun ms' ∧ HI nex' man' rg' mv' svm' := by
  have hR0 := hR
  obtain ⟨N, K, w0, w1, w2, r, tn, ph, hA, hC, hM⟩ := hR
  obtain ⟨nex', man', rg', mv', svm', s1, s2, s3⟩ := HI_save hR0 hH
  have hN := hA.1
  have m0 : ms (0 : Int32).toNatClampNeg = nI N := hM.1
  have bad : ∀ k, k = 1 ∨ k = 2 → fL_grow row ten pha len kep wfi wmo hun nex man f5 rg x y z = some (k, row, len, nex, man, f5, rg) → fX6_grow ms mv svm x y z = some (0, k, ms, mv, svm) → ∃ k row' len' nex' man' f5' rg' ans ms' mv' svm', fL_grow row ten pha len kep wfi wmo hun nex man f5 rg x y z = some (k, row', len', nex', man', f5', rg') ∧ fX6_grow ms mv svm x y z = some (ans, k, ms', mv', svm') ∧ (k = 0 → f5' 0 = ans.toInt64) ∧ RS row' ten pha len' kep wfi wmo hun ms' ∧ HI nex' man' rg' mv' svm' :=
    fun k hk h1 h2 => ⟨k, row, len, nex, man, f5, rg, 0, ms, mv, svm, h1, h2, fun q => by rcases hk with hk | hk <;> rw [hk] at q <;> exact absurd q (by decide), hR0, hH⟩
  rcases rgTen x with ⟨a, h1, h2, rfl⟩ | ⟨e1, e2⟩
  · obtain ⟨t1, t2⟩ := tenths1 h1 h2
    rcases rg5 y 1 240 (by omega) (by omega) with ⟨c, h3, h4, rfl⟩ | ⟨e1, e2⟩
    · have y1 : fX5_isWithin (nI c) 1 240 = some 1 := within1 (b := 1) (c := 240) h3 h4 (by omega)
      have y2 : fX6_in (nI c) 1 240 = some 1 := in1 (b := 1) (c := 240) h3 h4 (by omega)
      rcases rg5 z 0 240 (by omega) (by omega) with ⟨q, h5, h6, rfl⟩ | ⟨e1, e2⟩
      · have z1 : fX5_isWithin (nI q) 0 240 = some 1 := within1 (b := 0) (c := 240) h5 h6 (by omega)
        have z2 : fX6_in (nI q) 0 240 = some 1 := in1 (b := 0) (c := 240) h5 h6 (by omega)
        by_cases g : N + c ≤ 240
        · obtain ⟨row', len', ms', g1, g2, g3, g4⟩ := l_grow (K := K) (w0 := w0) (w1 := w1) (w2 := w2) (tn := tn) (ph := ph) (ten := ten) (pha := pha) (wfi := wfi) (wmo := wmo) (hun := hun) (kep := kep) h1 h2 h6 h4 FU 0 N r row ms len (by omega) (by rw [FU_eq]; omega) (by omega) hA hC hM
          refine ⟨0, row', len', nex', man', vp_updL f5 (0 : Int32).toNatClampNeg len'.toInt64, rg', len', ms', mv', svm', ?_, ?_, fun _ => updL0 _ _, g3, s3⟩
          · unfold fL_grow fX5_grow
            rw [t1, Option.bind_some, if_neg (by decide), y1, Option.bind_some, if_neg (by decide), z1, Option.bind_some, if_neg (by decide), if_pos (show len + nI c ≤ 240 by rw [hC.1, nI_add]; exact nI_le (b := 240) g (by omega)), s1, Option.bind_some]
            show ((((fX5_grow_L78 (nI a) (nI c) (nI q) FU (nI 0) row len).bind _)).bind _) = _
            rw [g1]
            rfl
          · unfold fX6_grow
            rw [t2, Option.bind_some, if_neg (by decide), y2, Option.bind_some, if_neg (by decide), z2, Option.bind_some, if_neg (by decide), if_neg (by decide), m0, if_pos (show nI N + nI c ≤ 240 by rw [nI_add]; exact nI_le (b := 240) g (by omega)), s2, Option.bind_some]
            show ((fX6_grow_L72 (nI a) (nI c) (nI q) FU (nI 0) ms).bind _) = _
            rw [g2, Option.bind_some, if_neg (by decide), show ms' (0 : Int32).toNatClampNeg = len' from g4]
        · refine bad 2 (Or.inr rfl) ?_ ?_
          · unfold fL_grow fX5_grow
            rw [t1, Option.bind_some, if_neg (by decide), y1, Option.bind_some, if_neg (by decide), z1, Option.bind_some, if_neg (by decide), if_neg (show ¬ len + nI c ≤ 240 from fun z => g (by rw [hC.1, nI_add] at z; exact (nI_leI (b := 240) (by omega) (by omega)).mp z))]
            rfl
          · unfold fX6_grow
            rw [t2, Option.bind_some, if_neg (by decide), y2, Option.bind_some, if_neg (by decide), z2, Option.bind_some, if_neg (by decide), if_neg (by decide), m0, if_neg (show ¬ nI N + nI c ≤ 240 from fun z => g (by rw [nI_add] at z; exact (nI_leI (b := 240) (by omega) (by omega)).mp z))]
            rfl
      · refine bad 1 (Or.inl rfl) ?_ ?_
        · unfold fL_grow fX5_grow
          rw [t1, Option.bind_some, if_neg (by decide), y1, Option.bind_some, if_neg (by decide), show fX5_isWithin z 0 240 = some 0 from e1]
          rfl
        · unfold fX6_grow
          rw [t2, Option.bind_some, if_neg (by decide), y2, Option.bind_some, if_neg (by decide), show fX6_in z 0 240 = some 0 from e2]
          rfl
    · refine bad 1 (Or.inl rfl) ?_ ?_
      · unfold fL_grow fX5_grow
        rw [t1, Option.bind_some, if_neg (by decide), show fX5_isWithin y 1 240 = some 0 from e1]
        rfl
      · unfold fX6_grow
        rw [t2, Option.bind_some, if_neg (by decide), show fX6_in y 1 240 = some 0 from e2]
        rfl
  · refine bad 1 (Or.inl rfl) ?_ ?_
    · unfold fL_grow fX5_grow
      rw [e1]
      rfl
    · unfold fX6_grow
      rw [e2]
      rfl
/-! the seven numbers of a period -/
def pnum (N K w0 w1 w2 : Nat) (r tn ph : Nat → Nat) (j m : Nat) : Int32 :=
  if m = 0 then nI (tn j) else if m = 1 then nI (ph j) else if m = 2 then nI (ncl (tn j)) else if m = 3 then nI (exw N w0 w1 r (tn j) (ph j)) else
  if m = 4 then nI (exw N w0 w1 r (tn j) (ph j)) - nI (mx (cm N w0 w1 r)) else if m = 5 then nI (stc r (tn j) (ph j) (wst w0 w1) (wpl N w0 w1) w2 (ncl (tn j))) else nI (tbW N K w0 w1 w2 r tn ph (nI j))
theorem c_periodNumber (hA : AB N K w0 w1 w2 r tn ph) (hC : CI row ten pha len kep wfi wmo hun N K w0 w1 w2 r tn ph) {tlr tsg : Nat → Int32} (hS : isTold tsg tlr N K w0 w1 w2 r tn ph 240) (cel : Nat → Int32) (cls : Int32) {j m : Nat} (hj : j < K) (hm : m < 7) :
    ∃ cel' cls', fX5_periodNumber row ten pha len wfi wmo hun cel cls tlr (nI j) (nI m) = some (pnum N K w0 w1 w2 r tn ph j m, cel', cls') := by
  obtain ⟨t1, t2, t3⟩ := AB_per hA hj
  obtain ⟨cel', k1, k2⟩ := c_takeKept hA hC cel hj
  have ex := e_explained k2 (AB_wpl hA) t2
  have h : m = 0 ∨ m = 1 ∨ m = 2 ∨ m = 3 ∨ m = 4 ∨ m = 5 ∨ m = 6 := by omega
  unfold fX5_periodNumber
  rcases h with rfl | rfl | rfl | rfl | rfl | rfl | rfl
  · refine ⟨cel, cls, ?_⟩
    rw [if_pos (show nI 0 = 0 from rfl), c_tenths hA hC hj]
    rfl
  · refine ⟨cel, cls, ?_⟩
    rw [if_neg (show ¬ nI 1 = 0 by decide), if_pos (show nI 1 = 1 from rfl), c_phase hA hC hj]
    rfl
  · refine ⟨cel, cls, ?_⟩
    rw [if_neg (show ¬ nI 2 = 0 by decide), if_neg (show ¬ nI 2 = 1 by decide), if_pos (show nI 2 = 2 from rfl), c_tenths hA hC hj, Option.bind_some, e_classesOf t2]
    rfl
  · refine ⟨cel', nI (ncl (tn j)), ?_⟩
    rw [if_neg (show ¬ nI 3 = 0 by decide), if_neg (show ¬ nI 3 = 1 by decide), if_neg (show ¬ nI 3 = 2 by decide), if_neg (show ¬ nI 3 = 6 by decide), k1, Option.bind_some]
    show (if nI 3 = 3 then ((fX0_explained cel' (nI (ncl (tn j)))).bind _) else _) = _
    rw [if_pos (show nI 3 = 3 from rfl), ex]
    rfl
  · refine ⟨cel', nI (ncl (tn j)), ?_⟩
    rw [if_neg (show ¬ nI 4 = 0 by decide), if_neg (show ¬ nI 4 = 1 by decide), if_neg (show ¬ nI 4 = 2 by decide), if_neg (show ¬ nI 4 = 6 by decide), k1, Option.bind_some]
    show (if nI 4 = 3 then _ else if nI 4 = 4 then ((fX0_explained cel' (nI (ncl (tn j)))).bind _) else _) = _
    rw [if_neg (show ¬ nI 4 = 3 by decide), if_pos (show nI 4 = 4 from rfl), ex, Option.bind_some, c_commonSign hA hC, Option.bind_some, c_timesCommon hA hC]
    rfl
  · refine ⟨cel', nI (ncl (tn j)), ?_⟩
    rw [if_neg (show ¬ nI 5 = 0 by decide), if_neg (show ¬ nI 5 = 1 by decide), if_neg (show ¬ nI 5 = 2 by decide), if_neg (show ¬ nI 5 = 6 by decide), k1, Option.bind_some]
    show (if nI 5 = 3 then _ else if nI 5 = 4 then _ else ((fX0_strongClasses cel' (nI (ncl (tn j))) hun).bind _)) = _
    rw [if_neg (show ¬ nI 5 = 3 by decide), if_neg (show ¬ nI 5 = 4 by decide), hC.2.2.2.2.1, e_strongClasses k2 (AB_wpl hA) t2 hA.2.2.2.2.2.1]
    rfl
  · refine ⟨cel, cls, ?_⟩
    rw [if_neg (show ¬ nI 6 = 0 by decide), if_neg (show ¬ nI 6 = 1 by decide), if_neg (show ¬ nI 6 = 2 by decide), if_pos (show nI 6 = 6 from rfl), c_toldBy hA hC hS]
    rfl
theorem e_tellsPeriod (hA : AB N K w0 w1 w2 r tn ph) (hM : MI ms N K w0 w1 w2 r tn ph) (mc mg mt ml : Nat → Int32) {j m : Nat} (hj : j < K) (hm : m < 7) :
    ∃ mc' mg' mt' ml', fX6_tellsPeriod ms mc mg mt ml (nI j) (nI m) = some (pnum N K w0 w1 w2 r tn ph j m, mc', mg', mt', ml') := by
  obtain ⟨t1, t2, t3⟩ := AB_per hA hj
  obtain ⟨mc', k1⟩ := e_explainedNow hA hM mc t1 t2 t3
  have h : m = 0 ∨ m = 1 ∨ m = 2 ∨ m = 3 ∨ m = 4 ∨ m = 5 ∨ m = 6 := by omega
  unfold fX6_tellsPeriod
  rcases h with rfl | rfl | rfl | rfl | rfl | rfl | rfl
  · refine ⟨mc, mg, mt, ml, ?_⟩
    rw [if_pos (show nI 0 = 0 from rfl), e_tenthsOf hA hM hj]
    rfl
  · refine ⟨mc, mg, mt, ml, ?_⟩
    rw [if_neg (show ¬ nI 1 = 0 by decide), if_pos (show nI 1 = 1 from rfl), e_phaseOf hA hM hj]
    rfl
  · refine ⟨mc, mg, mt, ml, ?_⟩
    rw [if_neg (show ¬ nI 2 = 0 by decide), if_neg (show ¬ nI 2 = 1 by decide), if_pos (show nI 2 = 2 from rfl), e_tenthsOf hA hM hj, Option.bind_some, e_classesOf6 t2]
    rfl
  · refine ⟨mc', mg, mt, ml, ?_⟩
    rw [if_neg (show ¬ nI 3 = 0 by decide), if_neg (show ¬ nI 3 = 1 by decide), if_neg (show ¬ nI 3 = 2 by decide), if_pos (show nI 3 = 3 from rfl), e_tenthsOf hA hM hj, Option.bind_some, e_phaseOf hA hM hj, Option.bind_some, k1]
    rfl
  · refine ⟨mc', mg, mt, ml, ?_⟩
    rw [if_neg (show ¬ nI 4 = 0 by decide), if_neg (show ¬ nI 4 = 1 by decide), if_neg (show ¬ nI 4 = 2 by decide), if_neg (show ¬ nI 4 = 3 by decide), if_pos (show nI 4 = 4 from rfl), e_tenthsOf hA hM hj, Option.bind_some, e_phaseOf hA hM hj, Option.bind_some, k1, Option.bind_some]
    show ((fX6_mostCommon ms 1).bind _) = _
    rw [e_mostCommon hA hM]
    rfl
  · obtain ⟨mc2, k2⟩ := e_strongMany hA hM mc hj
    refine ⟨mc2, mg, mt, ml, ?_⟩
    rw [if_neg (show ¬ nI 5 = 0 by decide), if_neg (show ¬ nI 5 = 1 by decide), if_neg (show ¬ nI 5 = 2 by decide), if_neg (show ¬ nI 5 = 3 by decide), if_neg (show ¬ nI 5 = 4 by decide), if_pos (show nI 5 = 5 from rfl), k2]
    rfl
  · obtain ⟨mc2, mg2, mt2, ml2, k2⟩ := e_toldBy hA hM mc mg mt ml (nI j)
    refine ⟨mc2, mg2, mt2, ml2, ?_⟩
    rw [if_neg (show ¬ nI 6 = 0 by decide), if_neg (show ¬ nI 6 = 1 by decide), if_neg (show ¬ nI 6 = 2 by decide), if_neg (show ¬ nI 6 = 3 by decide), if_neg (show ¬ nI 6 = 4 by decide), if_neg (show ¬ nI 6 = 5 by decide), k2]
    rfl
end OT

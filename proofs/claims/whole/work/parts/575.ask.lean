/-! PERIOD, REMAINDER, TOLD, COUNT: THE OPERATIONS; MEND -/
section OU
variable {ms row ten pha : Nat → Int32} {len kep wfi wmo hun nex man : Int32} {rg : Nat → StV} {mv : Nat → Int32} {svm : Int32} {N K w0 w1 w2 : Nat} {r tn ph : Nat → Nat}
theorem op_period (cel str tlr tsg mc mg mt ml : Nat → Int32) (cls : Int32) (f4 : Nat → Int64) (x y : Int32) (hR : RS row ten pha len kep wfi wmo hun ms) :
    ∃ k cel' cls' str' tlr' tsg' f4' ans mc' mg' mt' ml', fL_period row ten pha len kep wfi wmo hun cel cls str tlr tsg f4 x y = some (k, cel', cls', str', tlr', tsg', f4') ∧ fX6_period ms mc mg mt ml x y = some (ans, k, mc', mg', mt', ml') ∧ (k = 0 → f4' 0 = ans.toInt64) := by
  obtain ⟨N, K, w0, w1, w2, r, tn, ph, hA, hC, hM⟩ := hR
  have hK := hA.2.1
  have m4 : ms (4 : Int32).toNatClampNeg = nI K := hM.2.2.2.2.1
  unfold fL_period fX5_period fX6_period
  rw [m4, if_neg (show ¬ oob 4 253 by decide)]
  rcases rgN x K (by omega) with ⟨j, hj, rfl⟩ | ⟨-, e1, e2⟩
  · rw [show fX2_hasNumber kep (nI j) = some 1 by rw [hC.2.1]; exact number1 hj (by omega), inN1 hj (by omega)]
    rcases rg5 y 0 6 (by omega) (by omega) with ⟨m, hm0, hm, rfl⟩ | ⟨e1, e2⟩
    · obtain ⟨str', tlr', tsg', cel1, cls1, r1, r2⟩ := c_read hA hC str tlr tsg cel cls
      obtain ⟨cel', cls', p1⟩ := c_periodNumber hA hC r2 cel1 cls1 hj (show m < 7 by omega)
      obtain ⟨mc', mg', mt', ml', q1⟩ := e_tellsPeriod hA hM mc mg mt ml hj (show m < 7 by omega)
      refine ⟨0, cel', cls', str', tlr', tsg', vp_updL f4 (0 : Int32).toNatClampNeg (pnum N K w0 w1 w2 r tn ph j m).toInt64, pnum N K w0 w1 w2 r tn ph j m, mc', mg', mt', ml', ?_, ?_, fun _ => updL0 _ _⟩
      · rw [Option.bind_some, if_neg (by decide), show fX5_isWithin (nI m) 0 6 = some 1 from within1 (b := 0) (c := 6) hm0 hm (by omega), Option.bind_some, if_neg (by decide), r1, Option.bind_some]
        show ((((fX5_periodNumber row ten pha len wfi wmo hun cel1 cls1 tlr' (nI j) (nI m)).bind _)).bind _) = _
        rw [p1]
        rfl
      · rw [Option.bind_some, if_neg (by decide), show fX6_in (nI m) 0 6 = some 1 from in1 (b := 0) (c := 6) hm0 hm (by omega), Option.bind_some, if_neg (by decide), q1]
        rfl
    · refine ⟨2, cel, cls, str, tlr, tsg, f4, 0, mc, mg, mt, ml, ?_, ?_, fun z => absurd z (by decide)⟩
      · rw [show fX5_isWithin y 0 6 = some 0 from e1]
        rfl
      · rw [show fX6_in y 0 6 = some 0 from e2]
        rfl
  · refine ⟨1, cel, cls, str, tlr, tsg, f4, 0, mc, mg, mt, ml, ?_, ?_, fun z => absurd z (by decide)⟩
    · rw [hC.2.1, e1]
      rfl
    · rw [e2]
      rfl
/-! what is looked at in a class -/
def rnum (r : Nat → Nat) (t p a n g m : Nat) : Int32 := if m = 4 then sg (cg r t p a n g) else nI (cnt r t p g m a n)
theorem c_lookedAt {cel : Nat → Int32} {t p a n g m : Nat} (h : isCnt cel r t p a n) (hn : n ≤ 240) (hg : g < 40) (hm : m ≤ 4) : fX0_lookedAt cel (nI g) (nI m) = some (rnum r t p a n g m) := by
  unfold fX0_lookedAt rnum
  by_cases q : m = 4
  · subst q
    rw [if_pos (show (4 : Int32) ≤ nI 4 from Int32.le_refl _), e_signOf hg (has4_of h hn hg), if_pos rfl]
    rfl
  · rw [if_neg (show ¬ (4 : Int32) ≤ nI m by rw [show (4 : Int32) = nI 4 from rfl, nI_leI (by omega) (by omega)]; omega), e_countOf hg (by omega), h g m hg (by omega), if_neg q]
    rfl
theorem e_tellsRemainder (hA : AB N K w0 w1 w2 r tn ph) (hM : MI ms N K w0 w1 w2 r tn ph) (mc : Nat → Int32) {j g m : Nat} (hj : j < K) (hg : g < ncl (tn j)) (hm : m ≤ 4) :
    ∃ mc', fX6_tellsRemainder ms mc (nI j) (nI g) (nI m) = some (rnum r (tn j) (ph j) (wst w0 w1) (wpl N w0 w1) g m, mc') := by
  obtain ⟨mc', k1, k2⟩ := e_laysPeriod hA hM mc hj
  have hc := ncl_le (AB_per hA hj).2.1
  refine ⟨mc', ?_⟩
  unfold fX6_tellsRemainder rnum
  rw [k1, Option.bind_some]
  by_cases q : m = 4
  · subst q
    rw [if_pos (show nI 4 = 4 from rfl), e_signOf6 (by omega) (has4_of6 k2 (AB_wpl hA) hg), if_pos rfl]
    rfl
  · rw [if_neg (show ¬ nI m = 4 from fun z => q ((nI_eq (b := 4) (by omega) (by omega)).mp z)), if_neg q, show ((4 : Int32)) = nI 4 from rfl, pk_mul, nI_add, if_neg (oob_no (by omega) (by omega)), nI_clamp (by omega), k2 g m hg (by omega)]
theorem op_remainder (cel mc : Nat → Int32) (cls : Int32) (f5 : Nat → Int64) (x y z : Int32) (hR : RS row ten pha len kep wfi wmo hun ms) :
    ∃ k cel' cls' f5' ans mc', fL_remainder row ten pha len kep wfi wmo cel cls f5 x y z = some (k, cel', cls', f5') ∧ fX6_remainder ms mc x y z = some (ans, k, mc') ∧ (k = 0 → f5' 0 = ans.toInt64) := by
  obtain ⟨N, K, w0, w1, w2, r, tn, ph, hA, hC, hM⟩ := hR
  have hK := hA.2.1
  have m4 : ms (4 : Int32).toNatClampNeg = nI K := hM.2.2.2.2.1
  unfold fL_remainder fX5_remainder fX6_remainder
  rw [m4, if_neg (show ¬ oob 4 253 by decide)]
  rcases rgN x K (by omega) with ⟨j, hj, rfl⟩ | ⟨-, e1, e2⟩
  · obtain ⟨t1, t2, t3⟩ := AB_per hA hj
    have hc := ncl_le t2
    rw [show fX2_hasNumber kep (nI j) = some 1 by rw [hC.2.1]; exact number1 hj (by omega), inN1 hj (by omega), Option.bind_some, Option.bind_some, if_neg (show ¬ (1 : Int32) = 0 by decide), if_neg (show ¬ (1 : Int32) = 0 by decide), c_tenths hA hC hj, e_tenthsOf hA hM hj, Option.bind_some, Option.bind_some, e_classesOf t2, e_classesOf6 t2, Option.bind_some, Option.bind_some, show (tn j + 9) / 10 = ncl (tn j) from rfl]
    have sub : ∀ k : Nat, 0 < k → nI k - 1 = nI (k - 1) := fun k hk => by rw [lit_1, pk_sub hk]
    have hp : 0 < ncl (tn j) := by unfold ncl; omega
    rw [sub _ hp]
    rcases rg5 y 0 (ncl (tn j) - 1) (by omega) (by omega) with ⟨g, hg0, hg, rfl⟩ | ⟨e1, e2⟩
    · rw [show fX5_isWithin (nI g) 0 (nI (ncl (tn j) - 1)) = some 1 from within1 (b := 0) hg0 hg (by omega), show fX6_in (nI g) 0 (nI (ncl (tn j) - 1)) = some 1 from in1 (b := 0) hg0 hg (by omega)]
      rcases rg5 z 0 4 (by omega) (by omega) with ⟨m, hm0, hm, rfl⟩ | ⟨e1, e2⟩
      · obtain ⟨cel', k1, k2⟩ := c_takeKept hA hC cel hj
        obtain ⟨mc', q1⟩ := e_tellsRemainder hA hM mc hj (show g < ncl (tn j) by omega) hm
        refine ⟨0, cel', nI (ncl (tn j)), vp_updL f5 (0 : Int32).toNatClampNeg (rnum r (tn j) (ph j) (wst w0 w1) (wpl N w0 w1) g m).toInt64, rnum r (tn j) (ph j) (wst w0 w1) (wpl N w0 w1) g m, mc', ?_, ?_, fun _ => updL0 _ _⟩
        · rw [Option.bind_some, if_neg (by decide), show fX5_isWithin (nI m) 0 4 = some 1 from within1 (b := 0) (c := 4) hm0 hm (by omega), Option.bind_some, if_neg (by decide), k1, Option.bind_some]
          show ((((fX0_lookedAt cel' (nI g) (nI m)).bind _)).bind _) = _
          rw [c_lookedAt k2 (AB_wpl hA) (by omega) hm]
          rfl
        · rw [Option.bind_some, if_neg (by decide), show fX6_in (nI m) 0 4 = some 1 from in1 (b := 0) (c := 4) hm0 hm (by omega), Option.bind_some, if_neg (by decide), q1]
          rfl
      · refine ⟨2, cel, cls, f5, 0, mc, ?_, ?_, fun z => absurd z (by decide)⟩
        · rw [show fX5_isWithin z 0 4 = some 0 from e1]
          rfl
        · rw [show fX6_in z 0 4 = some 0 from e2]
          rfl
    · refine ⟨1, cel, cls, f5, 0, mc, ?_, ?_, fun z => absurd z (by decide)⟩
      · rw [show fX5_isWithin y 0 (nI (ncl (tn j) - 1)) = some 0 from e1]
        rfl
      · rw [show fX6_in y 0 (nI (ncl (tn j) - 1)) = some 0 from e2]
        rfl
  · refine ⟨1, cel, cls, f5, 0, mc, ?_, ?_, fun z => absurd z (by decide)⟩
    · rw [hC.2.1, e1]
      rfl
    · rw [e2]
      rfl
/-! what is told of a place -/
def tnum (N K w0 w1 w2 : Nat) (r tn ph : Nat → Nat) (i m : Nat) : Int32 := if m = 0 then tos N K w0 w1 w2 r tn ph i else if m = 1 then tel N K w0 w1 w2 r tn ph i else nI (xb N K w0 w1 w2 r tn ph i)
theorem xb_cases (i : Nat) : xb N K w0 w1 w2 r tn ph i = 0 ∨ xb N K w0 w1 w2 r tn ph i = 1 := by unfold xb; split <;> omega
theorem c_toldNumber (hA : AB N K w0 w1 w2 r tn ph) (hC : CI row ten pha len kep wfi wmo hun N K w0 w1 w2 r tn ph) {tlr tsg : Nat → Int32} (hS : isTold tsg tlr N K w0 w1 w2 r tn ph 240) {i m : Nat} (hi : i < N) (hm : m < 3) :
    fX5_toldNumber row len tlr tsg (nI i) (nI m) = some (tnum N K w0 w1 w2 r tn ph i m) := by
  have hN := hA.1
  have h : m = 0 ∨ m = 1 ∨ m = 2 := by omega
  unfold fX5_toldNumber
  rcases h with rfl | rfl | rfl
  · rw [if_pos (show nI 0 = 0 from rfl), c_toldAt hS (by omega)]
    rfl
  · rw [if_neg (show ¬ nI 1 = 0 by decide), if_pos (show nI 1 = 1 from rfl), c_tellerAt hS (by omega)]
    rfl
  · rw [if_neg (show ¬ nI 2 = 0 by decide), if_neg (show ¬ nI 2 = 1 by decide), c_isExplained hA hC hS hi, Option.bind_some]
    show _ = some (nI (xb N K w0 w1 w2 r tn ph i))
    rcases @xb_cases N K w0 w1 w2 r tn ph i with e | e <;> rw [e] <;> rfl
theorem e_tellsPlace (hA : AB N K w0 w1 w2 r tn ph) (hM : MI ms N K w0 w1 w2 r tn ph) (mc mg mt ml : Nat → Int32) {i m : Nat} (hi : i < N) (hm : m < 3) :
    ∃ mc' mg' mt' ml', fX6_tellsPlace ms mc mg mt ml (nI i) (nI m) = some (tnum N K w0 w1 w2 r tn ph i m, mc', mg', mt', ml') := by
  have hN := hA.1
  obtain ⟨mc', mg', mt', ml', b1, b2⟩ := e_laysTold hA hM mc mg mt ml
  refine ⟨mc', mg', mt', ml', ?_⟩
  have h : m = 0 ∨ m = 1 ∨ m = 2 := by omega
  have ho : ¬ oob (nI i) 240 := oob_no (by omega) (by omega)
  unfold fX6_tellsPlace
  rw [b1, Option.bind_some]
  rcases h with rfl | rfl | rfl
  · show (if nI 0 = 0 then if oob (nI i) 240 then none else some (mt' (nI i).toNatClampNeg, mc', mg', mt', ml') else _) = _
    rw [if_pos (show nI 0 = 0 from rfl), if_neg ho, nI_clamp (by omega), (b2 i hi).1]
    rfl
  · show (if nI 1 = 0 then _ else if nI 1 = 1 then if oob (nI i) 240 then none else some (ml' (nI i).toNatClampNeg, mc', mg', mt', ml') else _) = _
    rw [if_neg (show ¬ nI 1 = 0 by decide), if_pos (show nI 1 = 1 from rfl), if_neg ho, nI_clamp (by omega), (b2 i hi).2]
    rfl
  · show (if nI 2 = 0 then _ else if nI 2 = 1 then _ else ((fX6_isExplained ms mt' (nI i)).bind _)) = _
    rw [if_neg (show ¬ nI 2 = 0 by decide), if_neg (show ¬ nI 2 = 1 by decide), e_isExplained6 hA hM b2 hi, Option.bind_some]
    show _ = some (nI (xb N K w0 w1 w2 r tn ph i), mc', mg', mt', ml')
    rcases @xb_cases N K w0 w1 w2 r tn ph i with e | e <;> rw [e] <;> rfl
theorem op_told (cel str tlr tsg mc mg mt ml : Nat → Int32) (cls : Int32) (f4 : Nat → Int64) (x y : Int32) (hR : RS row ten pha len kep wfi wmo hun ms) :
    ∃ k cel' cls' str' tlr' tsg' f4' ans mc' mg' mt' ml', fL_told row ten pha len kep wfi wmo hun cel cls str tlr tsg f4 x y = some (k, cel', cls', str', tlr', tsg', f4') ∧ fX6_told ms mc mg mt ml x y = some (ans, k, mc', mg', mt', ml') ∧ (k = 0 → f4' 0 = ans.toInt64) := by
  obtain ⟨N, K, w0, w1, w2, r, tn, ph, hA, hC, hM⟩ := hR
  have hN := hA.1
  have m0 : ms (0 : Int32).toNatClampNeg = nI N := hM.1
  unfold fL_told fX5_told fX6_told
  rw [m0, if_neg (show ¬ oob 0 253 by decide)]
  rcases rgN x N (by omega) with ⟨i, hi, rfl⟩ | ⟨e1, -, e2⟩
  · rw [show fX2_hasPlace len (nI i) = some 1 by rw [hC.1]; exact place1 hi (by omega), inN1 hi (by omega)]
    rcases rg5 y 0 2 (by omega) (by omega) with ⟨m, hm0, hm, rfl⟩ | ⟨e1, e2⟩
    · obtain ⟨str', tlr', tsg', cel', cls', r1, r2⟩ := c_read hA hC str tlr tsg cel cls
      obtain ⟨mc', mg', mt', ml', q1⟩ := e_tellsPlace hA hM mc mg mt ml hi (show m < 3 by omega)
      refine ⟨0, cel', cls', str', tlr', tsg', vp_updL f4 (0 : Int32).toNatClampNeg (tnum N K w0 w1 w2 r tn ph i m).toInt64, tnum N K w0 w1 w2 r tn ph i m, mc', mg', mt', ml', ?_, ?_, fun _ => updL0 _ _⟩
      · rw [Option.bind_some, if_neg (by decide), show fX5_isWithin (nI m) 0 2 = some 1 from within1 (b := 0) (c := 2) hm0 hm (by omega), Option.bind_some, if_neg (by decide), r1, Option.bind_some]
        show ((((fX5_toldNumber row len tlr' tsg' (nI i) (nI m)).bind _)).bind _) = _
        rw [c_toldNumber hA hC r2 hi (by omega)]
        rfl
      · rw [Option.bind_some, if_neg (by decide), show fX6_in (nI m) 0 2 = some 1 from in1 (b := 0) (c := 2) hm0 hm (by omega), Option.bind_some, if_neg (by decide), q1]
        rfl
    · refine ⟨2, cel, cls, str, tlr, tsg, f4, 0, mc, mg, mt, ml, ?_, ?_, fun z => absurd z (by decide)⟩
      · rw [show fX5_isWithin y 0 2 = some 0 from e1]
        rfl
      · rw [show fX6_in y 0 2 = some 0 from e2]
        rfl
  · refine ⟨1, cel, cls, str, tlr, tsg, f4, 0, mc, mg, mt, ml, ?_, ?_, fun z => absurd z (by decide)⟩
    · rw [hC.1, e1]
      rfl
    · rw [e2]
      rfl
/-! the ten counts -/
def cnum (N K w0 w1 w2 : Nat) (r tn ph : Nat → Nat) (man : Int32) (m : Nat) : Int32 :=
  if m = 0 then nI N else if m = 1 then nI (wpl N w0 w1) else if m = 2 then nI (wst w0 w1) else if m = 3 then nI K else if m = 4 then nI (exW N K w0 w1 w2 r tn ph) else
  if m = 5 then nI (tbW N K w0 w1 w2 r tn ph NN) else if m = 6 then sg (cm N w0 w1 r) else if m = 7 then nI (mx (cm N w0 w1 r)) else if m = 8 then nI (lsW N K w0 w1 w2 r tn ph) else man
theorem c_number (hA : AB N K w0 w1 w2 r tn ph) (hC : CI row ten pha len kep wfi wmo hun N K w0 w1 w2 r tn ph) {tlr tsg : Nat → Int32} (hS : isTold tsg tlr N K w0 w1 w2 r tn ph 240) (man : Int32) {m : Nat} (hm : m < 10) :
    fX5_number row len kep wfi wmo man tlr tsg (nI m) = some (cnum N K w0 w1 w2 r tn ph man m) := by
  have h : m = 0 ∨ m = 1 ∨ m = 2 ∨ m = 3 ∨ m = 4 ∨ m = 5 ∨ m = 6 ∨ m = 7 ∨ m = 8 ∨ m = 9 := by omega
  unfold fX5_number
  rw [c_start hA hC, c_places hA hC, c_explained hA hC hS, NN_raw, c_toldBy hA hC hS, c_commonSign hA hC, c_longest hA hC hS, hC.1, hC.2.1]
  have hct := c_timesCommon hA hC
  rw [hC.1] at hct
  rcases h with rfl | rfl | rfl | rfl | rfl | rfl | rfl | rfl | rfl | rfl
  · rfl
  · rfl
  · rfl
  · rfl
  · rfl
  · rfl
  · rfl
  · show ((fX2_timesInWindow row (nI N) wfi wmo (sg (cm N w0 w1 r))).bind fun x7 => some x7) = _
    rw [hct]
    rfl
  · rfl
  · rfl
theorem e_tellsCount (hA : AB N K w0 w1 w2 r tn ph) (hM : MI ms N K w0 w1 w2 r tn ph) (svm : Int32) (mc mg mt ml : Nat → Int32) {m : Nat} (hm : m < 10) :
    ∃ mc' mg' mt' ml', fX6_tellsCount ms svm mc mg mt ml (nI m) = some (cnum N K w0 w1 w2 r tn ph svm m, mc', mg', mt', ml') := by
  have h : m = 0 ∨ m = 1 ∨ m = 2 ∨ m = 3 ∨ m = 4 ∨ m = 5 ∨ m = 6 ∨ m = 7 ∨ m = 8 ∨ m = 9 := by omega
  have m0 : ms (0 : Int32).toNatClampNeg = nI N := hM.1
  have m4 : ms (4 : Int32).toNatClampNeg = nI K := hM.2.2.2.2.1
  unfold fX6_tellsCount
  rw [e_first6 hA hM, e_last6 hA hM, m0, m4]
  rcases h with rfl | rfl | rfl | rfl | rfl | rfl | rfl | rfl | rfl | rfl
  · exact ⟨mc, mg, mt, ml, rfl⟩
  · refine ⟨mc, mg, mt, ml, ?_⟩
    show some (nI (wst w0 w1 + wpl N w0 w1) - nI (wst w0 w1), mc, mg, mt, ml) = some (nI (wpl N w0 w1), mc, mg, mt, ml)
    rw [pk_sub (by omega), Nat.add_sub_cancel_left]
  · exact ⟨mc, mg, mt, ml, rfl⟩
  · exact ⟨mc, mg, mt, ml, rfl⟩
  · obtain ⟨a, b, c, d, e⟩ := e_over4 hA hM mc mg mt ml
    refine ⟨a, b, c, d, ?_⟩
    show ((fX6_overWindow ms mc mg mt ml 4).bind _) = _
    rw [e]
    rfl
  · obtain ⟨a, b, c, d, e⟩ := e_over5 hA hM mc mg mt ml
    refine ⟨a, b, c, d, ?_⟩
    show ((fX6_overWindow ms mc mg mt ml 5).bind _) = _
    rw [e]
    rfl
  · refine ⟨mc, mg, mt, ml, ?_⟩
    show ((fX6_mostCommon ms 0).bind _) = _
    rw [e_mostCommon hA hM]
    rfl
  · refine ⟨mc, mg, mt, ml, ?_⟩
    show ((fX6_mostCommon ms 1).bind _) = _
    rw [e_mostCommon hA hM]
    rfl
  · obtain ⟨a, b, c, d, e⟩ := e_over8 hA hM mc mg mt ml
    refine ⟨a, b, c, d, ?_⟩
    show ((fX6_overWindow ms mc mg mt ml 8).bind _) = _
    rw [e]
    rfl
  · exact ⟨mc, mg, mt, ml, rfl⟩
theorem op_count (cel str tlr tsg mc mg mt ml : Nat → Int32) (cls : Int32) (f3 : Nat → Int64) (x : Int32) (hR : RS row ten pha len kep wfi wmo hun ms) (hH : HI nex man rg mv svm) :
    ∃ k cel' cls' str' tlr' tsg' f3' ans mc' mg' mt' ml', fL_count row ten pha len kep wfi wmo hun man cel cls str tlr tsg f3 x = some (k, cel', cls', str', tlr', tsg', f3') ∧ fX6_count ms svm mc mg mt ml x = some (ans, k, mc', mg', mt', ml') ∧ (k = 0 → f3' 0 = ans.toInt64) := by
  obtain ⟨N, K, w0, w1, w2, r, tn, ph, hA, hC, hM⟩ := hR
  obtain ⟨X, M, -, -, -, rfl, rfl, -⟩ := hH
  unfold fL_count fX5_count fX6_count
  rcases rg5 x 0 9 (by omega) (by omega) with ⟨m, hm0, hm, rfl⟩ | ⟨e1, e2⟩
  · obtain ⟨str', tlr', tsg', cel', cls', r1, r2⟩ := c_read hA hC str tlr tsg cel cls
    obtain ⟨mc', mg', mt', ml', q1⟩ := e_tellsCount hA hM (nI M) mc mg mt ml (show m < 10 by omega)
    refine ⟨0, cel', cls', str', tlr', tsg', vp_updL f3 (0 : Int32).toNatClampNeg (cnum N K w0 w1 w2 r tn ph (nI M) m).toInt64, cnum N K w0 w1 w2 r tn ph (nI M) m, mc', mg', mt', ml', ?_, ?_, fun _ => updL0 _ _⟩
    · rw [show fX5_isWithin (nI m) 0 9 = some 1 from within1 (b := 0) (c := 9) hm0 hm (by omega), Option.bind_some, if_neg (by decide), r1, Option.bind_some]
      show ((((fX5_number row len kep wfi wmo (nI M) tlr' tsg' (nI m)).bind _)).bind _) = _
      rw [c_number hA hC r2 (nI M) (by omega)]
      rfl
    · rw [show fX6_in (nI m) 0 9 = some 1 from in1 (b := 0) (c := 9) hm0 hm (by omega), Option.bind_some, if_neg (by decide), q1]
      rfl
  · refine ⟨1, cel, cls, str, tlr, tsg, f3, 0, mc, mg, mt, ml, ?_, ?_, fun z => absurd z (by decide)⟩
    · rw [show fX5_isWithin x 0 9 = some 0 from e1]
      rfl
    · rw [show fX6_in x 0 9 = some 0 from e2]
      rfl
end OU

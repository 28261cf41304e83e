/-! MEND, SHARE -/
section OV
variable {ms row ten pha : Nat → Int32} {len kep wfi wmo hun nex man : Int32} {rg : Nat → StV} {mv : Nat → Int32} {svm : Int32} {N K w0 w1 w2 : Nat} {r tn ph : Nat → Nat}
def md (N K w0 w1 w2 : Nat) (r tn ph : Nat → Nat) (i : Nat) : Nat := if tos N K w0 w1 w2 r tn ph i = NN then r i else (tos N K w0 w1 w2 r tn ph i).toNatClampNeg
def mdc (N K w0 w1 w2 : Nat) (r tn ph : Nat → Nat) (i : Nat) : Nat := if tos N K w0 w1 w2 r tn ph i = NN then 0 else if tos N K w0 w1 w2 r tn ph i = nI (r i) then 0 else 1
theorem mdc_le (i : Nat) : mdc N K w0 w1 w2 r tn ph i ≤ 1 := by unfold mdc; split <;> (try split) <;> omega
theorem md_N {i : Nat} (h : tos N K w0 w1 w2 r tn ph i = NN) : md N K w0 w1 w2 r tn ph i = r i ∧ mdc N K w0 w1 w2 r tn ph i = 0 := by
  unfold md mdc
  rw [if_pos h, if_pos h]
  exact ⟨rfl, rfl⟩
theorem md_same {i b : Nat} (hb : b < 4) (h : tos N K w0 w1 w2 r tn ph i = nI b) : md N K w0 w1 w2 r tn ph i = b := by
  unfold md
  rw [h, if_neg (by rw [nI_ne_NN (by omega)]; exact id), nI_clamp (by omega)]
theorem md_lt {i : Nat} (hr : r i < 4) : md N K w0 w1 w2 r tn ph i < 4 := by
  rcases tos_cases N K w0 w1 w2 r tn ph i with h | ⟨b, hb, h⟩
  · rw [(md_N h).1]; exact hr
  · rw [md_same hb h]; exact hb
theorem tos_out {i : Nat} (h : ¬ inw N w0 w1 i) : tos N K w0 w1 w2 r tn ph i = NN := if_neg h
theorem l_mend (hA : AB N K w0 w1 w2 r tn ph) (hC : CI row ten pha len kep wfi wmo hun N K w0 w1 w2 r tn ph) {tlr tsg : Nat → Int32} (hS : isTold tsg tlr N K w0 w1 w2 r tn ph 240) : ∀ (n d : Nat) (rw' : Nat → Int32), d ≤ wpl N w0 w1 → wpl N w0 w1 < n + d → (∀ i, i < N → rw' i = nI (if i < wst w0 w1 + d then md N K w0 w1 w2 r tn ph i else r i)) →
    ∃ rw2, fX5_mend_L44 len tsg (nI (wst w0 w1 + wpl N w0 w1)) n (nI (su (mdc N K w0 w1 w2 r tn ph) (wst w0 w1) d)) (nI (wst w0 w1 + d)) rw' = some (nI (su (mdc N K w0 w1 w2 r tn ph) (wst w0 w1) (wpl N w0 w1)), rw2) ∧ ∀ i, i < N → rw2 i = nI (md N K w0 w1 w2 r tn ph i)
  | 0, d, rw', h1, h2, _ => absurd h2 (by omega)
  | n + 1, d, rw', h1, h2, h3 => by
    have hN := hA.1
    have a1 := AB_wst hA
    have a2 := AB_wpl hA
    rw [fX5_mend_L44]
    by_cases q : d = wpl N w0 w1
    · subst q
      rw [if_pos (Int32.le_refl _)]
      refine ⟨rw', rfl, fun i hi => ?_⟩
      rw [h3 i hi]
      by_cases e : i < wst w0 w1 + wpl N w0 w1
      · rw [if_pos e]
      · rw [if_neg e, (md_N (tos_out (fun z => e z.2))).1]
    · have hi : wst w0 w1 + d < N := by rcases AB_in hA with z | z <;> omega
      have hr := hA.2.2.2.2.2.2.1 _ hi
      have hat : fX2_signAt rw' len (nI (wst w0 w1 + d)) = some (nI (r (wst w0 w1 + d))) := by
        rw [hC.1, e_signAt hN hi, h3 _ hi, if_neg (by omega)]
      rw [if_neg (by rw [nI_leI (by omega) (by omega)]; omega), c_toldAt hS (by omega), Option.bind_some, NN_raw, lit_1]
      have step : ∀ x : Nat → Int32, (∀ i, i < N → x i = nI (if i < wst w0 w1 + (d + 1) then md N K w0 w1 w2 r tn ph i else r i)) → ∃ rw2, fX5_mend_L44 len tsg (nI (wst w0 w1 + wpl N w0 w1)) n (nI (su (mdc N K w0 w1 w2 r tn ph) (wst w0 w1) d + mdc N K w0 w1 w2 r tn ph (wst w0 w1 + d))) (nI (wst w0 w1 + d) + nI 1) x = some (nI (su (mdc N K w0 w1 w2 r tn ph) (wst w0 w1) (wpl N w0 w1)), rw2) ∧ ∀ i, i < N → rw2 i = nI (md N K w0 w1 w2 r tn ph i) := by
        intro x hx
        have ih := l_mend hA hC hS n (d + 1) x (by omega) (by omega) hx
        rw [su] at ih
        rw [nI_add, Nat.add_assoc]
        exact ih
      have keep : md N K w0 w1 w2 r tn ph (wst w0 w1 + d) = r (wst w0 w1 + d) → ∀ i, i < N → rw' i = nI (if i < wst w0 w1 + (d + 1) then md N K w0 w1 w2 r tn ph i else r i) := by
        intro e i hi
        rw [h3 i hi]
        by_cases c1 : i < wst w0 w1 + d
        · rw [if_pos c1, if_pos (by omega)]
        · rw [if_neg c1]
          by_cases c2 : i = wst w0 w1 + d
          · rw [if_pos (by omega), c2, e]
          · rw [if_neg (by omega)]
      by_cases z : tos N K w0 w1 w2 r tn ph (wst w0 w1 + d) = NN
      · obtain ⟨e1, e2⟩ := md_N z
        have := step rw' (keep e1)
        rw [e2, Nat.add_zero] at this
        rw [if_pos z]
        exact this
      · rw [if_neg z, hat, Option.bind_some]
        rcases tos_cases N K w0 w1 w2 r tn ph (wst w0 w1 + d) with h | ⟨b, hb, h⟩
        · exact absurd h z
        · have em := md_same hb h
          by_cases y : tos N K w0 w1 w2 r tn ph (wst w0 w1 + d) = nI (r (wst w0 w1 + d))
          · have e2 : mdc N K w0 w1 w2 r tn ph (wst w0 w1 + d) = 0 := by unfold mdc; rw [if_neg z, if_pos y]
            have eb : b = r (wst w0 w1 + d) := (nI_eq (by omega) (by omega)).mp (h.symm.trans y)
            have := step rw' (keep (by rw [em, eb]))
            rw [e2, Nat.add_zero] at this
            rw [if_pos y]
            exact this
          · have e2 : mdc N K w0 w1 w2 r tn ph (wst w0 w1 + d) = 1 := by unfold mdc; rw [if_neg z, if_neg y]
            rw [if_neg y]
            unfold fX2_changeSign
            rw [e_lay (show wst w0 w1 + d < 240 by omega) (by omega), Option.bind_some, Option.bind_some]
            have := step (upd rw' (wst w0 w1 + d) (tos N K w0 w1 w2 r tn ph (wst w0 w1 + d))) (fun i hi2 => by
              rw [upd_at]
              by_cases c2 : i = wst w0 w1 + d
              · rw [if_pos c2, if_pos (by omega), c2, em, h]
              · rw [if_neg c2, h3 i hi2]
                by_cases c1 : i < wst w0 w1 + d
                · rw [if_pos c1, if_pos (by omega)]
                · rw [if_neg c1, if_neg (by omega)])
            rw [e2, ← nI_add (su (mdc N K w0 w1 w2 r tn ph) (wst w0 w1) d) 1] at this
            exact this
theorem l_mend6 (hA : AB N K w0 w1 w2 r tn ph) {ms0 : Nat → Int32} (hM : MI ms0 N K w0 w1 w2 r tn ph) {mt ml : Nat → Int32} (hT : isTold mt ml N K w0 w1 w2 r tn ph N) : ∀ (n k : Nat) (ms : Nat → Int32), k ≤ N → N < n + k → (∀ q, q < 13 → ms q = ms0 q) → (∀ i, i < N → ms (13 + i) = nI (if i < k then md N K w0 w1 w2 r tn ph i else r i)) →
    ∃ ms2, fX6_mend_L17 mt n (nI (su (mdc N K w0 w1 w2 r tn ph) 0 k)) (nI k) ms = some (nI (su (mdc N K w0 w1 w2 r tn ph) 0 N), ms2) ∧ (∀ q, q < 13 → ms2 q = ms0 q) ∧ ∀ i, i < N → ms2 (13 + i) = nI (md N K w0 w1 w2 r tn ph i)
  | 0, k, ms, h1, h2, _, _ => absurd h2 (by omega)
  | n + 1, k, ms, h1, h2, h3, h4 => by
    have hN := hA.1
    have m0 : ms (0 : Int32).toNatClampNeg = nI N := (h3 0 (by omega)).trans hM.1
    rw [fX6_mend_L17, if_neg (show ¬ oob 0 253 by decide), m0]
    by_cases q : k = N
    · subst q
      rw [if_pos (Int32.le_refl _)]
      exact ⟨ms, rfl, h3, fun i hi => by rw [h4 i hi, if_pos hi]⟩
    · have hi : k < N := by omega
      have hr := hA.2.2.2.2.2.2.1 _ hi
      have hm : ms (13 + k) = nI (r k) := by rw [h4 k hi, if_neg (by omega)]
      have ht : mt (nI k).toNatClampNeg = tos N K w0 w1 w2 r tn ph k := by rw [nI_clamp (by omega)]; exact (hT k hi).1
      have step : ∀ x : Nat → Int32, (∀ q, q < 13 → x q = ms0 q) → (∀ i, i < N → x (13 + i) = nI (if i < k + 1 then md N K w0 w1 w2 r tn ph i else r i)) → ∃ ms2, fX6_mend_L17 mt n (nI (su (mdc N K w0 w1 w2 r tn ph) 0 k + mdc N K w0 w1 w2 r tn ph k)) (nI (k + 1)) x = some (nI (su (mdc N K w0 w1 w2 r tn ph) 0 N), ms2) ∧ (∀ q, q < 13 → ms2 q = ms0 q) ∧ ∀ i, i < N → ms2 (13 + i) = nI (md N K w0 w1 w2 r tn ph i) := by
        intro x hx hx2
        have ih := l_mend6 hA hM hT n (k + 1) x (by omega) (by omega) hx hx2
        rw [su, Nat.zero_add] at ih
        exact ih
      have keep : md N K w0 w1 w2 r tn ph k = r k → ∀ i, i < N → ms (13 + i) = nI (if i < k + 1 then md N K w0 w1 w2 r tn ph i else r i) := by
        intro e i hi
        rw [h4 i hi]
        by_cases c1 : i < k
        · rw [if_pos c1, if_pos (by omega)]
        · rw [if_neg c1]
          by_cases c2 : i = k
          · rw [if_pos (by omega), c2, e]
          · rw [if_neg (by omega)]
      rw [if_neg (show ¬ nI N ≤ nI k by rw [nI_leI (by omega) (by omega)]; omega), if_neg (oob_no (show k < 240 by omega) (by omega)), ht, NN_raw, lit_1, nI_add, nI_add]
      by_cases z : tos N K w0 w1 w2 r tn ph k = NN
      · obtain ⟨e1, e2⟩ := md_N z
        have := step ms h3 (keep e1)
        rw [e2, Nat.add_zero] at this
        rw [if_pos z]
        exact this
      · have o13 : ¬ oob ((13 : Int32) + nI k) 253 := by rw [show ((13 : Int32)) = nI 13 from rfl, nI_add]; exact oob_no (by omega) (by omega)
        have c13 : ((13 : Int32) + nI k).toNatClampNeg = 13 + k := by rw [show ((13 : Int32)) = nI 13 from rfl, nI_add, nI_clamp (by omega)]
        rw [if_neg z]
        unfold fX6_isExplained
        have hmc : ms ((13 : Int32) + nI k).toNatClampNeg = nI (r k) := by rw [c13]; exact hm
        rw [if_neg (oob_no (show k < 240 by omega) (by omega)), if_neg o13, ht, hmc]
        rcases tos_cases N K w0 w1 w2 r tn ph k with h | ⟨b, hb, h⟩
        · exact absurd h z
        · have em := md_same hb h
          by_cases y : tos N K w0 w1 w2 r tn ph k = nI (r k)
          · have e2 : mdc N K w0 w1 w2 r tn ph k = 0 := by unfold mdc; rw [if_neg z, if_pos y]
            have eb : b = r k := (nI_eq (by omega) (by omega)).mp (h.symm.trans y)
            have := step ms h3 (keep (by rw [em, eb]))
            rw [e2, Nat.add_zero] at this
            rw [if_pos y, Option.bind_some, if_neg (by decide)]
            exact this
          · have e2 : mdc N K w0 w1 w2 r tn ph k = 1 := by unfold mdc; rw [if_neg z, if_neg y]
            rw [if_neg y, Option.bind_some, if_pos rfl, if_neg (oob_no (show k < 240 by omega) (by omega)), if_neg o13, c13]
            have := step (upd ms (13 + k) (tos N K w0 w1 w2 r tn ph k)) (fun q hq => by rw [upd_at, if_neg (by omega)]; exact h3 q hq) (fun i hi2 => by
              rw [upd_at]
              by_cases c2 : i = k
              · rw [if_pos (by omega), if_pos (by omega), c2, em, h]
              · rw [if_neg (by omega), h4 i hi2]
                by_cases c1 : i < k
                · rw [if_pos c1, if_pos (by omega)]
                · rw [if_neg c1, if_neg (by omega)])
            rw [e2] at this
            exact this
theorem op_mend (cel str tlr tsg mc mg mt ml : Nat → Int32) (cls : Int32) (hR : RS row ten pha len kep wfi wmo hun ms) (hH : HI nex man rg mv svm) :
    ∃ ans row' nex' man' cel' cls' str' tlr' tsg' rg' ms' mv' svm' mc' mg' mt' ml', fX5_mend row ten pha len kep wfi wmo hun nex man cel cls str tlr tsg rg = some (ans, row', nex', man', cel', cls', str', tlr', tsg', rg') ∧ fX6_mend ms mv svm mc mg mt ml = some (ans, 0, ms', mv', svm', mc', mg', mt', ml') ∧ RS row' ten pha len kep wfi wmo hun ms' ∧ HI nex' man' rg' mv' svm' := by
  have hR0 := hR
  obtain ⟨N, K, w0, w1, w2, r, tn, ph, hA, hC, hM⟩ := hR
  obtain ⟨nex', man', rg', mv', svm', s1, s2, s3⟩ := HI_save hR0 hH
  have hN := hA.1
  obtain ⟨str', tlr', tsg', cel', cls', r1, r2⟩ := c_read hA hC str tlr tsg cel cls
  obtain ⟨mc', mg', mt', ml', b1, b2⟩ := e_laysTold hA hM mc mg mt ml
  have a1 := AB_wst hA
  have a2 := AB_wpl hA
  obtain ⟨row', m1, m2⟩ := l_mend hA hC r2 FU 0 row (by omega) (by rw [FU_eq]; omega) (fun i hi => by
    rw [(c_row hA hC i hi).1]
    by_cases e : i < wst w0 w1 + 0
    · rw [if_pos e, (md_N (tos_out (fun z => by have := z.1; omega))).1]
    · rw [if_neg e])
  obtain ⟨ms', n1, n2, n3⟩ := l_mend6 hA hM b2 FU 0 ms (by omega) (by rw [FU_eq]; omega) (fun _ _ => rfl) (fun i hi => by rw [if_neg (by omega)]; exact hM.2.2.2.2.2.2 i hi)
  have es : su (mdc N K w0 w1 w2 r tn ph) 0 N = su (mdc N K w0 w1 w2 r tn ph) (wst w0 w1) (wpl N w0 w1) := by
    rw [← su_gw hA]
    exact su_congr 0 N (fun i _ _ => by
      unfold gw
      by_cases e : inw N w0 w1 i
      · rw [if_pos e]
      · rw [if_neg e, (md_N (tos_out e)).2])
  rw [es] at n1
  refine ⟨nI (su (mdc N K w0 w1 w2 r tn ph) (wst w0 w1) (wpl N w0 w1)), row', nex', man', cel', cls', str', tlr', tsg', rg', ms', mv', svm', mc', mg', mt', ml', ?_, ?_, ?_, s3⟩
  · unfold fX5_mend
    rw [s1, Option.bind_some]
    show ((fX3_read str tlr tsg row ten pha len kep wfi wmo hun cel cls).bind _) = _
    rw [r1, Option.bind_some]
    show ((fX2_windowEnd len wfi wmo).bind _) = _
    rw [c_end hA hC, Option.bind_some, c_start hA hC, Option.bind_some]
    show ((fX5_mend_L44 len tsg' (nI (wst w0 w1 + wpl N w0 w1)) FU (nI 0) (nI (wst w0 w1 + 0)) row).bind _) = _
    rw [show fX5_mend_L44 len tsg' (nI (wst w0 w1 + wpl N w0 w1)) FU (nI 0) (nI (wst w0 w1 + 0)) row = _ from m1]
    rfl
  · unfold fX6_mend
    rw [s2, Option.bind_some]
    show ((fX6_laysTold ms mc mg mt ml).bind _) = _
    rw [b1, Option.bind_some]
    show ((fX6_mend_L17 mt' FU (nI 0) (nI 0) ms).bind _) = _
    rw [show fX6_mend_L17 mt' FU (nI 0) (nI 0) ms = _ from n1]
    rfl
  · obtain ⟨c1, c2, c3, c4, c5, c6, c7⟩ := hC
    obtain ⟨m0, m1', m2', m3, m4, m5, m6⟩ := hM
    have hA2 := hA
    obtain ⟨x1, x2, x3, x4, x5, x6, x7, x8⟩ := hA2
    exact ⟨N, K, w0, w1, w2, md N K w0 w1 w2 r tn ph, tn, ph, ⟨x1, x2, x3, x4, x5, x6, fun i hi => md_lt (x7 i hi), x8⟩, ⟨c1, c2, c3, c4, c5, m2, c7⟩, ⟨(n2 _ (by omega)).trans m0, (n2 _ (by omega)).trans m1', (n2 _ (by omega)).trans m2', (n2 _ (by omega)).trans m3, (n2 _ (by omega)).trans m4, fun i hi => by rw [n2 _ (by omega), n2 _ (by omega)]; exact m5 i hi, n3⟩⟩
end OV

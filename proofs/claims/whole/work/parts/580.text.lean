/-! TEXTS: APPEND, CLEAR -/
def TX (cod : Nat → Int32) (tln : Int32) (mb : Nat → Int32) (mln : Int32) : Prop := ∃ (T : Nat) (c : Nat → Nat), T ≤ 60 ∧ tln = nI T ∧ mln = nI T ∧ ∀ i, i < T → 33 ≤ c i ∧ c i ≤ 126 ∧ cod i = nI (c i) ∧ mb i = nI (c i)
section TT
variable {cod mb : Nat → Int32} {tln mln : Int32}
theorem op_append (f3 : Nat → Int64) (x : Int32) (hT : TX cod tln mb mln) :
    ∃ k cod' tln' f3' ans mb' mln', fL_append cod tln f3 x = some (k, cod', tln', f3') ∧ fX6_append mb mln x = some (ans, k, mb', mln') ∧ (k = 0 → f3' 0 = ans.toInt64) ∧ TX cod' tln' mb' mln' := by
  have hT0 := hT
  obtain ⟨T, c, h1, rfl, rfl, h2⟩ := hT
  unfold fL_append fX5_append fX6_append
  rcases rg5 x 33 126 (by omega) (by omega) with ⟨s, hs1, hs2, rfl⟩ | ⟨e1, e2⟩
  · rw [show fX5_isWithin (nI s) 33 126 = some 1 from within1 (b := 33) (c := 126) hs1 hs2 (by omega), show fX6_in (nI s) 33 126 = some 1 from in1 (b := 33) (c := 126) hs1 hs2 (by omega)]
    by_cases q : T < 60
    · refine ⟨0, upd cod T (nI s), nI (T + 1), vp_updL f3 (0 : Int32).toNatClampNeg (nI (T + 1)).toInt64, nI (T + 1), upd mb T (nI s), nI (T + 1), ?_, ?_, fun _ => updL0 _ _, T + 1, (fun i => if i = T then s else c i), by omega, rfl, rfl, fun i hi => ?_⟩
      · rw [Option.bind_some, if_neg (by decide), if_pos (show nI T < 60 from (nI_ltI (b := 60) (by omega) (by omega)).mpr q)]
        unfold fX4_add
        rw [e_lay q (by omega), Option.bind_some, lit_1, nI_add]
        rfl
      · rw [Option.bind_some, if_neg (by decide), if_neg (show ¬ nI T = 60 from fun z => by have := (nI_eq (b := 60) (by omega) (by omega)).mp z; omega), if_neg (oob_no q (by omega)), nI_clamp (by omega), lit_1, nI_add]
      · show 33 ≤ (if i = T then s else c i) ∧ (if i = T then s else c i) ≤ 126 ∧ upd cod T (nI s) i = nI (if i = T then s else c i) ∧ upd mb T (nI s) i = nI (if i = T then s else c i)
        rw [upd_at, upd_at]
        by_cases e : i = T
        · rw [if_pos e, if_pos e, if_pos e]; exact ⟨hs1, hs2, rfl, rfl⟩
        · rw [if_neg e, if_neg e, if_neg e]; exact h2 i (by omega)
    · refine ⟨2, cod, nI T, f3, 0, mb, nI T, ?_, ?_, fun z => absurd z (by decide), hT0⟩
      · rw [Option.bind_some, if_neg (by decide), if_neg (show ¬ nI T < 60 from fun z => q ((nI_ltI (b := 60) (by omega) (by omega)).mp z))]
        rfl
      · rw [Option.bind_some, if_neg (by decide), if_pos (show nI T = 60 by rw [show T = 60 by omega]; rfl)]
        rfl
  · refine ⟨1, cod, nI T, f3, 0, mb, nI T, ?_, ?_, fun z => absurd z (by decide), hT0⟩
    · rw [show fX5_isWithin x 33 126 = some 0 from e1]
      rfl
    · rw [show fX6_in x 33 126 = some 0 from e2]
      rfl
theorem op_clear (hT : TX cod tln mb mln) : ∃ a, fX5_clearBuffer tln = some (a, 0) ∧ fX6_clearBuffer mln = some (a, 0, 0) ∧ TX cod 0 mb 0 := by
  obtain ⟨T, c, h1, rfl, rfl, h2⟩ := hT
  exact ⟨nI T, rfl, rfl, 0, c, by omega, rfl, rfl, fun i hi => absurd hi (by omega)⟩
/-! the stages of a text -/
def nx (s c : Nat) : Nat :=
  if s = 0 then (if 97 ≤ c ∧ c ≤ 100 then 0 else if c = 40 then 1 else 4) else
  if s = 1 then (if 97 ≤ c ∧ c ≤ 100 then 2 else 4) else
  if s = 2 then (if 97 ≤ c ∧ c ≤ 100 then 2 else if c = 41 then 3 else 4) else
  if s = 3 then (if 50 ≤ c ∧ c ≤ 57 then 0 else 4) else 4
theorem nx_le (s c : Nat) : nx s c ≤ 4 := by unfold nx; (repeat' split) <;> omega
def er (T : Nat) (c : Nat → Nat) : Nat → Nat → Nat
  | 0, _ => T
  | d + 1, s => if nx s (c (T - (d + 1))) = 4 then T - (d + 1) else er T c d (nx s (c (T - (d + 1))))
def fin' (T : Nat) (c : Nat → Nat) : Nat → Nat → Nat
  | 0, s => s
  | d + 1, s => fin' T c d (nx s (c (T - (d + 1))))
theorem c_isLetter {c : Nat} (hc : c ≤ 126) : fX4_isLetter (nI c) = some (if 97 ≤ c ∧ c ≤ 100 then 1 else 0) := by
  unfold fX4_isLetter
  by_cases h1 : c < 97
  · rw [if_pos (show nI c < 97 from (nI_ltI (b := 97) (by omega) (by omega)).mpr h1), if_neg (show ¬ (97 ≤ c ∧ c ≤ 100) from fun z => by omega)]
  · rw [if_neg (show ¬ nI c < 97 from fun z => h1 ((nI_ltI (b := 97) (by omega) (by omega)).mp z))]
    by_cases h2 : 100 < c
    · rw [if_pos (show (100 : Int32) < nI c from (nI_ltI (a := 100) (by omega) (by omega)).mpr h2), if_neg (show ¬ (97 ≤ c ∧ c ≤ 100) from fun z => by omega)]
    · rw [if_neg (show ¬ (100 : Int32) < nI c from fun z => h2 ((nI_ltI (a := 100) (by omega) (by omega)).mp z)), if_pos (show (97 ≤ c ∧ c ≤ 100) from ⟨by omega, by omega⟩)]
theorem c_isTimes {c : Nat} (hc : c ≤ 126) : fX4_isTimes (nI c) = some (if 50 ≤ c ∧ c ≤ 57 then 1 else 0) := by
  unfold fX4_isTimes
  by_cases h1 : c < 50
  · rw [if_pos (show nI c < 50 from (nI_ltI (b := 50) (by omega) (by omega)).mpr h1), if_neg (show ¬ (50 ≤ c ∧ c ≤ 57) from fun z => by omega)]
  · rw [if_neg (show ¬ nI c < 50 from fun z => h1 ((nI_ltI (b := 50) (by omega) (by omega)).mp z))]
    by_cases h2 : 57 < c
    · rw [if_pos (show (57 : Int32) < nI c from (nI_ltI (a := 57) (by omega) (by omega)).mpr h2), if_neg (show ¬ (50 ≤ c ∧ c ≤ 57) from fun z => by omega)]
    · rw [if_neg (show ¬ (57 : Int32) < nI c from fun z => h2 ((nI_ltI (a := 57) (by omega) (by omega)).mp z)), if_pos (show (50 ≤ c ∧ c ≤ 57) from ⟨by omega, by omega⟩)]
theorem c_code {T : Nat} {c : Nat → Nat} (hT : T ≤ 60) (h : ∀ i, i < T → 33 ≤ c i ∧ c i ≤ 126 ∧ cod i = nI (c i) ∧ mb i = nI (c i)) {i : Nat} (hi : i < T) : fX4_codeAt cod (nI i) = some (nI (c i)) := by
  unfold fX4_codeAt
  rw [e_cellAt (by omega) (by omega), (h i hi).2.2.1]
  rfl
theorem c_stage {s c : Nat} (hs : s ≤ 4) (hc : c ≤ 126) : fX4_stageAfter (nI s) (nI c) = some (nI (nx s c)) := by
  have h : s = 0 ∨ s = 1 ∨ s = 2 ∨ s = 3 ∨ s = 4 := by omega
  unfold fX4_stageAfter nx
  rw [c_isLetter hc, c_isTimes hc]
  have e40 : (nI c = 40) ↔ c = 40 := nI_eq (b := 40) (by omega) (by omega)
  have e41 : (nI c = 41) ↔ c = 41 := nI_eq (b := 41) (by omega) (by omega)
  rcases h with rfl | rfl | rfl | rfl | rfl
  · rw [if_pos (show nI 0 = 0 from rfl), if_pos rfl, Option.bind_some]
    by_cases a : 97 ≤ c ∧ c ≤ 100
    · rw [if_pos a, if_pos a]; rfl
    · rw [if_neg a, if_neg a, if_pos rfl]
      by_cases b : c = 40
      · rw [if_pos (e40.mpr b), if_pos b]; rfl
      · rw [if_neg (fun z => b (e40.mp z)), if_neg b]; rfl
  · rw [if_neg (show ¬ nI 1 = 0 by decide), if_pos (show nI 1 = 1 from rfl), Option.bind_some, if_neg (show ¬ (1 : Nat) = 0 by decide), if_pos rfl]
    by_cases a : 97 ≤ c ∧ c ≤ 100
    · rw [if_pos a, if_pos a]; rfl
    · rw [if_neg a, if_neg a]; rfl
  · rw [if_neg (show ¬ nI 2 = 0 by decide), if_neg (show ¬ nI 2 = 1 by decide), if_pos (show nI 2 = 2 from rfl), Option.bind_some, if_neg (show ¬ (2 : Nat) = 0 by decide), if_neg (show ¬ (2 : Nat) = 1 by decide), if_pos rfl]
    by_cases a : 97 ≤ c ∧ c ≤ 100
    · rw [if_pos a, if_pos a]; rfl
    · rw [if_neg a, if_neg a, if_pos rfl]
      by_cases b : c = 41
      · rw [if_pos (e41.mpr b), if_pos b]; rfl
      · rw [if_neg (fun z => b (e41.mp z)), if_neg b]; rfl
  · rw [if_neg (show ¬ nI 3 = 0 by decide), if_neg (show ¬ nI 3 = 1 by decide), if_neg (show ¬ nI 3 = 2 by decide), if_pos (show nI 3 = 3 from rfl), Option.bind_some, if_neg (show ¬ (3 : Nat) = 0 by decide), if_neg (show ¬ (3 : Nat) = 1 by decide), if_neg (show ¬ (3 : Nat) = 2 by decide), if_pos rfl]
    by_cases a : 50 ≤ c ∧ c ≤ 57
    · rw [if_pos a, if_pos a]; rfl
    · rw [if_neg a, if_neg a]; rfl
  · rfl
theorem l_err {T : Nat} {c : Nat → Nat} (hT : T ≤ 60) (h : ∀ i, i < T → 33 ≤ c i ∧ c i ≤ 126 ∧ cod i = nI (c i) ∧ mb i = nI (c i)) : ∀ (n d s : Nat), d ≤ T → d < n → s ≤ 4 → fX4_errorIndex_L4 cod (nI T) n (nI s) (nI (T - d)) = some (nI (er T c d s))
  | 0, d, s, h1, h2, _ => absurd h2 (by omega)
  | n + 1, 0, s, h1, h2, h3 => by
    rw [fX4_errorIndex_L4, Nat.sub_zero, if_pos (Int32.le_refl _)]
    rfl
  | n + 1, d + 1, s, h1, h2, h3 => by
    have hc := (h (T - (d + 1)) (by omega)).2.1
    have hx := nx_le s (c (T - (d + 1)))
    have ih := l_err hT h n d (nx s (c (T - (d + 1)))) (by omega) (by omega) hx
    rw [fX4_errorIndex_L4, if_neg (by rw [nI_leI (by omega) (by omega)]; omega), c_code hT h (by omega), Option.bind_some, c_stage h3 hc, Option.bind_some, er]
    by_cases q : nx s (c (T - (d + 1))) = 4
    · rw [if_pos (show nI (nx s (c (T - (d + 1)))) = 4 by rw [q]; rfl), if_pos q]
    · rw [if_neg (show ¬ nI (nx s (c (T - (d + 1)))) = 4 from fun z => q ((nI_eq (b := 4) (by omega) (by omega)).mp z)), if_neg q, lit_1, nI_add, show T - (d + 1) + 1 = T - d by omega]
      exact ih
theorem l_fin {T : Nat} {c : Nat → Nat} (hT : T ≤ 60) (h : ∀ i, i < T → 33 ≤ c i ∧ c i ≤ 126 ∧ cod i = nI (c i) ∧ mb i = nI (c i)) : ∀ (n d s : Nat), d ≤ T → d < n → s ≤ 4 → fX4_isComplete_L4 cod (nI T) n (nI s) (nI (T - d)) = some (nI (fin' T c d s))
  | 0, d, s, h1, h2, _ => absurd h2 (by omega)
  | n + 1, 0, s, h1, h2, h3 => by
    rw [fX4_isComplete_L4, Nat.sub_zero, if_pos (Int32.le_refl _)]
    rfl
  | n + 1, d + 1, s, h1, h2, h3 => by
    have hc := (h (T - (d + 1)) (by omega)).2.1
    have hx := nx_le s (c (T - (d + 1)))
    have ih := l_fin hT h n d (nx s (c (T - (d + 1)))) (by omega) (by omega) hx
    rw [fX4_isComplete_L4, if_neg (by rw [nI_leI (by omega) (by omega)]; omega), c_code hT h (by omega), Option.bind_some, c_stage h3 hc, Option.bind_some, fin', lit_1, nI_add, show T - (d + 1) + 1 = T - d by omega]
    exact ih
theorem fin4 (T : Nat) (c : Nat → Nat) : ∀ d, fin' T c d 4 = 4
  | 0 => rfl
  | d + 1 => by rw [fin', show nx 4 (c (T - (d + 1))) = 4 from rfl]; exact fin4 T c d
theorem fin_le (T : Nat) (c : Nat → Nat) : ∀ d s, s ≤ 4 → fin' T c d s ≤ 4
  | 0, s, h => h
  | d + 1, s, h => by rw [fin']; exact fin_le T c d _ (nx_le _ _)
end TT

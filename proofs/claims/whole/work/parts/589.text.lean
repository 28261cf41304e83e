/-! A TEXT, READ BY BOTH: STAGES, GROUPS, THE WHOLE -/
section RE
variable {cod mb : Nat → Int32} {T : Nat} {c : Nat → Nat}
theorem nx00 {x : Nat} (h : 97 ≤ x ∧ x ≤ 100) : nx 0 x = 0 := by unfold nx; rw [if_pos rfl, if_pos h]
theorem nx04 {x : Nat} (h : ¬ (97 ≤ x ∧ x ≤ 100)) (h2 : ¬ x = 40) : nx 0 x = 4 := by unfold nx; rw [if_pos rfl, if_neg h, if_neg h2]
theorem nx12 {x : Nat} (h : 97 ≤ x ∧ x ≤ 100) : nx 1 x = 2 := by unfold nx; rw [if_neg (show ¬ (1 : Nat) = 0 by decide), if_pos rfl, if_pos h]
theorem nx14 {x : Nat} (h : ¬ (97 ≤ x ∧ x ≤ 100)) : nx 1 x = 4 := by unfold nx; rw [if_neg (show ¬ (1 : Nat) = 0 by decide), if_pos rfl, if_neg h]
theorem nx22 {x : Nat} (h : 97 ≤ x ∧ x ≤ 100) : nx 2 x = 2 := by unfold nx; rw [if_neg (show ¬ (2 : Nat) = 0 by decide), if_neg (show ¬ (2 : Nat) = 1 by decide), if_pos rfl, if_pos h]
theorem nx24 {x : Nat} (h : ¬ (97 ≤ x ∧ x ≤ 100)) (h2 : ¬ x = 41) : nx 2 x = 4 := by unfold nx; rw [if_neg (show ¬ (2 : Nat) = 0 by decide), if_neg (show ¬ (2 : Nat) = 1 by decide), if_pos rfl, if_neg h, if_neg h2]
theorem nx30 {x : Nat} (h : 50 ≤ x ∧ x ≤ 57) : nx 3 x = 0 := by unfold nx; rw [if_neg (show ¬ (3 : Nat) = 0 by decide), if_neg (show ¬ (3 : Nat) = 1 by decide), if_neg (show ¬ (3 : Nat) = 2 by decide), if_pos rfl, if_pos h]
theorem nx34 {x : Nat} (h : ¬ (50 ≤ x ∧ x ≤ 57)) : nx 3 x = 4 := by unfold nx; rw [if_neg (show ¬ (3 : Nat) = 0 by decide), if_neg (show ¬ (3 : Nat) = 1 by decide), if_neg (show ¬ (3 : Nat) = 2 by decide), if_pos rfl, if_neg h]
theorem er_at {i s : Nat} (hi : i < T) (hx : ¬ nx s (c i) = 4) : er T c (T - i) s = er T c (T - (i + 1)) (nx s (c i)) := by
  obtain ⟨d, e⟩ : ∃ d, T - i = d + 1 := ⟨T - i - 1, by omega⟩
  have e1 : T - (d + 1) = i := by omega
  have e2 : T - (i + 1) = d := by omega
  rw [e, e2]
  show (if nx s (c (T - (d + 1))) = 4 then T - (d + 1) else er T c d (nx s (c (T - (d + 1))))) = _
  rw [e1, if_neg hx]
theorem er_stop {i s : Nat} (hi : i < T) (hx : nx s (c i) = 4) : er T c (T - i) s = i := by
  obtain ⟨d, e⟩ : ∃ d, T - i = d + 1 := ⟨T - i - 1, by omega⟩
  have e1 : T - (d + 1) = i := by omega
  rw [e]
  show (if nx s (c (T - (d + 1))) = 4 then T - (d + 1) else er T c d (nx s (c (T - (d + 1))))) = _
  rw [e1, if_pos hx]
theorem fin_at {i s : Nat} (hi : i < T) : fin' T c (T - i) s = fin' T c (T - (i + 1)) (nx s (c i)) := by
  obtain ⟨d, e⟩ : ∃ d, T - i = d + 1 := ⟨T - i - 1, by omega⟩
  have e1 : T - (d + 1) = i := by omega
  have e2 : T - (i + 1) = d := by omega
  rw [e, e2]
  show fin' T c d (nx s (c (T - (d + 1)))) = _
  rw [e1]
theorem fin_stop {i s : Nat} (hi : i < T) (hx : nx s (c i) = 4) : fin' T c (T - i) s = 4 := by
  rw [fin_at hi, hx]
  exact fin4 T c _
theorem er_halt {i s : Nat} (hs : ¬ s = 0) (h : i = T ∨ (i < T ∧ nx s (c i) = 4)) : er T c (T - i) s = i ∧ ¬ fin' T c (T - i) s = 0 := by
  rcases h with e | ⟨h1, h2⟩
  · rw [e, Nat.sub_self]
    exact ⟨rfl, hs⟩
  · rw [er_stop h1 h2, fin_stop h1 h2]
    exact ⟨rfl, by decide⟩
theorem er_let : ∀ (d i : Nat), i + d ≤ T → (∀ q, i ≤ q → q < i + d → ltr T c q) → er T c (T - i) 2 = er T c (T - (i + d)) 2 ∧ fin' T c (T - i) 2 = fin' T c (T - (i + d)) 2
  | 0, i, h1, h2 => ⟨rfl, rfl⟩
  | d + 1, i, h1, h2 => by
    have l := h2 i (Nat.le_refl i) (by omega)
    have e : nx 2 (c i) = 2 := nx22 l.2
    obtain ⟨a1, a2⟩ := er_let d (i + 1) (by omega) (fun q q1 q2 => h2 q (by omega) (by omega))
    have b1 := er_at (c := c) (i := i) (s := 2) (show i < T by omega) (by rw [e]; decide)
    have b2 := fin_at (c := c) (i := i) (s := 2) (show i < T by omega)
    rw [e] at b1 b2
    rw [show i + 1 + d = i + (d + 1) by omega] at a1 a2
    exact ⟨b1.trans a1, b2.trans a2⟩
/-! the program, sign by sign -/
theorem u_letter (hT : T ≤ 60) (h : ∀ i, i < T → 33 ≤ c i ∧ c i ≤ 126 ∧ cod i = nI (c i) ∧ mb i = nI (c i)) {i V : Nat} (hl : ltr T c i) (hV : V < 540) (n : Nat) (v2 : Int32) (unf : Nat → Int32) : fX4_unfold_L6 cod (nI T) (n + 1) (nI V) v2 (nI i) unf = fX4_unfold_L6 cod (nI T) n (nI (V + 1)) v2 (nI (i + 1)) (upd unf V (nI (c i - 97))) := by
  have hc := h i hl.1
  have e2 : fX4_isLetter (nI (c i)) = some 1 := by rw [c_isLetter hc.2.1, if_pos hl.2]
  have e3 : nI (c i) - 97 = nI (c i - 97) := by rw [show ((97 : Int32)) = nI 97 from rfl, pk_sub hl.2.1]
  have e4 : nI V + 1 = nI (V + 1) := by rw [lit_1, nI_add]
  have e5 : nI i + 1 = nI (i + 1) := by rw [lit_1, nI_add]
  have := hl.1
  rw [fX4_unfold_L6, if_neg (show ¬ nI T ≤ nI i by rw [nI_leI (by omega) (by omega)]; omega), c_code hT h hl.1, Option.bind_some, e2, Option.bind_some, if_neg (show ¬ (1 : Int32) = 0 by decide), e3, e_lay hV (by omega), Option.bind_some, e4, e5]
theorem u_open (hT : T ≤ 60) (h : ∀ i, i < T → 33 ≤ c i ∧ c i ≤ 126 ∧ cod i = nI (c i) ∧ mb i = nI (c i)) {i : Nat} (hi : i < T) (ho : c i = 40) (n : Nat) (v1 v2 : Int32) (unf : Nat → Int32) : fX4_unfold_L6 cod (nI T) (n + 1) v1 v2 (nI i) unf = fX4_unfold_L6 cod (nI T) n v1 v1 (nI (i + 1)) unf := by
  have e2 : fX4_isLetter (nI (c i)) = some 0 := by rw [c_isLetter (h i hi).2.1, if_neg (show ¬ (97 ≤ c i ∧ c i ≤ 100) by omega)]
  have e5 : nI i + 1 = nI (i + 1) := by rw [lit_1, nI_add]
  rw [fX4_unfold_L6, if_neg (show ¬ nI T ≤ nI i by rw [nI_leI (by omega) (by omega)]; omega), c_code hT h hi, Option.bind_some, e2, Option.bind_some, if_pos (show (0 : Int32) = 0 from rfl), if_pos (show nI (c i) = 40 by rw [ho]; rfl), e5]
theorem u_close (hT : T ≤ 60) (h : ∀ i, i < T → 33 ≤ c i ∧ c i ≤ 126 ∧ cod i = nI (c i) ∧ mb i = nI (c i)) {i : Nat} (hi : i < T) (ho : c i = 41) (n : Nat) (v1 v2 : Int32) (unf : Nat → Int32) : fX4_unfold_L6 cod (nI T) (n + 1) v1 v2 (nI i) unf = fX4_unfold_L6 cod (nI T) n v1 v2 (nI (i + 1)) unf := by
  have e2 : fX4_isLetter (nI (c i)) = some 0 := by rw [c_isLetter (h i hi).2.1, if_neg (show ¬ (97 ≤ c i ∧ c i ≤ 100) by omega)]
  have e3 : fX4_isTimes (nI (c i)) = some 0 := by rw [c_isTimes (h i hi).2.1, if_neg (show ¬ (50 ≤ c i ∧ c i ≤ 57) by omega)]
  have e5 : nI i + 1 = nI (i + 1) := by rw [lit_1, nI_add]
  rw [fX4_unfold_L6, if_neg (show ¬ nI T ≤ nI i by rw [nI_leI (by omega) (by omega)]; omega), c_code hT h hi, Option.bind_some, e2, Option.bind_some, if_pos (show (0 : Int32) = 0 from rfl), if_neg (show ¬ nI (c i) = 40 by rw [ho]; decide), e3, Option.bind_some, if_pos (show (0 : Int32) = 0 from rfl), e5]
theorem e_rep {R g k : Nat} {unf unf2 : Nat → Int32} (e : fX4_repeat_L16 (nI g) (nI (R + g * k)) FU (nI (R + g)) unf = some unf2) : fX4_repeat unf (nI R) (nI (R + g)) (nI k) = some (nI (R + g * k), unf2) := by
  unfold fX4_repeat
  rw [pk_sub (Nat.le_add_right R g), Nat.add_sub_cancel_left, pk_mul, nI_add, e, Option.bind_some]
theorem u_times (hT : T ≤ 60) (h : ∀ i, i < T → 33 ≤ c i ∧ c i ≤ 126 ∧ cod i = nI (c i) ∧ mb i = nI (c i)) {i R g : Nat} (hi : i < T) (ho : 50 ≤ c i ∧ c i ≤ 57) {unf unf2 : Nat → Int32} (e : fX4_repeat_L16 (nI g) (nI (R + g * (c i - 48))) FU (nI (R + g)) unf = some unf2) (n : Nat) : fX4_unfold_L6 cod (nI T) (n + 1) (nI (R + g)) (nI R) (nI i) unf = fX4_unfold_L6 cod (nI T) n (nI (R + g * (c i - 48))) (nI R) (nI (i + 1)) unf2 := by
  have hc := h i hi
  have e2 : fX4_isLetter (nI (c i)) = some 0 := by rw [c_isLetter hc.2.1, if_neg (show ¬ (97 ≤ c i ∧ c i ≤ 100) by omega)]
  have e3 : fX4_isTimes (nI (c i)) = some 1 := by rw [c_isTimes hc.2.1, if_pos ho]
  have e4 : nI (c i) - 48 = nI (c i - 48) := by rw [show ((48 : Int32)) = nI 48 from rfl, pk_sub (show 48 ≤ c i by omega)]
  have e5 : nI i + 1 = nI (i + 1) := by rw [lit_1, nI_add]
  have e6 : ¬ nI (c i) = 40 := fun z => by have := (nI_eq (b := 40) (by omega) (by omega)).mp z; omega
  rw [fX4_unfold_L6, if_neg (show ¬ nI T ≤ nI i by rw [nI_leI (by omega) (by omega)]; omega), c_code hT h hi, Option.bind_some, e2, Option.bind_some, if_pos (show (0 : Int32) = 0 from rfl), if_neg e6, e3, Option.bind_some, if_neg (show ¬ (1 : Int32) = 0 by decide), e4, e_rep e]
  show fX4_unfold_L6 cod (nI T) n (nI (R + g * (c i - 48))) (nI R) (nI i + 1) unf2 = _
  rw [e5]
theorem l_unl (hT : T ≤ 60) (h : ∀ i, i < T → 33 ≤ c i ∧ c i ≤ 126 ∧ cod i = nI (c i) ∧ mb i = nI (c i)) : ∀ (d q V : Nat) (unf : Nat → Int32), V + d ≤ 540 → (∀ x, q ≤ x → x < q + d → ltr T c x) →
    ∃ unf' : Nat → Int32, (∀ (n : Nat) (v2 : Int32), fX4_unfold_L6 cod (nI T) (n + d) (nI V) v2 (nI q) unf = fX4_unfold_L6 cod (nI T) n (nI (V + d)) v2 (nI (q + d)) unf') ∧ (∀ j, j < V → unf' j = unf j) ∧ (∀ x, x < d → unf' (V + x) = nI (c (q + x) - 97))
  | 0, q, V, unf, h1, h2 => ⟨unf, fun _ _ => rfl, fun _ _ => rfl, fun x hx => absurd hx (by omega)⟩
  | d + 1, q, V, unf, h1, h2 => by
    have l := h2 q (Nat.le_refl q) (by omega)
    obtain ⟨unf', a1, a2, a3⟩ := l_unl hT h d (q + 1) (V + 1) (upd unf V (nI (c q - 97))) (by omega) (fun x x1 x2 => h2 x (by omega) (by omega))
    refine ⟨unf', fun n v2 => ?_, fun j hj => ?_, fun x hx => ?_⟩
    · have b := a1 n v2
      rw [show V + 1 + d = V + (d + 1) by omega, show q + 1 + d = q + (d + 1) by omega] at b
      exact (u_letter hT h l (by omega) (n + d) v2 unf).trans b
    · rw [a2 j (by omega), upd_at, if_neg (by omega)]
    · by_cases e : x = 0
      · rw [e]
        show unf' V = nI (c q - 97)
        rw [a2 V (by omega), upd_at, if_pos rfl]
      · have b := a3 (x - 1) (by omega)
        rw [show V + 1 + (x - 1) = V + x by omega, show q + 1 + (x - 1) = q + x by omega] at b
        exact b
/-! the reference: a group -/
theorem l128_zero (rdm y10 y11 v r : Int32) (f : Nat → Int32) : fX6_readsGroup_L128 rdm 0 y10 y11 FU v f r = some (f, r) := by
  rw [show FU = 1999 + 1 from rfl, fX6_readsGroup_L128]
  by_cases q : y11 * (y10 - 1) ≤ v
  · rw [if_pos q]
  · rw [if_neg q, if_pos rfl]
theorem in_digit {a : Nat} (ha : a ≤ 126) : fX6_in (nI a - 48) 2 9 = some (if 50 ≤ a ∧ a ≤ 57 then 1 else 0) := by
  rw [m_in]
  have e := pk_sub_toInt (a := a) (b := 48) (by omega) (by omega)
  have e2 : (nI a - (48 : Int32)).toInt = (a : Int) - 48 := e
  have k2 : ((2 : Int32)).toInt = 2 := rfl
  have k9 : ((9 : Int32)).toInt = 9 := rfl
  by_cases q : 50 ≤ a ∧ a ≤ 57
  · rw [if_pos q, if_pos]
    exact ⟨by rw [Int32.le_iff_toInt_le, e2, k2]; omega, by rw [Int32.le_iff_toInt_le, e2, k9]; omega⟩
  · rw [if_neg q, if_neg]
    intro z
    have z1 := Int32.le_iff_toInt_le.mp z.1
    have z2 := Int32.le_iff_toInt_le.mp z.2
    rw [e2, k2] at z1
    rw [e2, k9] at z2
    omega
theorem g_eq {mln mat wel rdm m1 w1 r1 m2 w2 r2 : Int32} {mr f1 f2 : Nat → Int32} (e1 : fX6_readsLetter mb mln (mat + 1) wel mr rdm = some (m1, w1, f1, r1)) (e2 : fX6_readsGroup_L19 mb mln FU m1 w1 f1 r1 = some (m2, w2, f2, r2)) : fX6_readsGroup mb mln mat wel mr rdm = (if w2 = 0 then some 0 else some 1 : Option Int32).bind fun x5 => (fX6_letter mb mln (m2 + x5)).bind fun x6 => (if w2 = 0 then some 0 else (fX6_in (x6 - 48) 2 9).bind fun x16 => if x16 = 0 then some 0 else some 1 : Option Int32).bind fun x7 => if ¬ (x7 = 0 ∨ x7 = 1) then none else (if x7 = 0 then some 0 else some 1 : Option Int32).bind fun x9 => (fX6_readsGroup_L128 rdm x7 (x6 - 48) (r2 - rdm) FU 0 f2 r2).bind fun (x15_1, x15_2) => some (((m2 + x5) + x9), x7, x15_1, x15_2) := by
  unfold fX6_readsGroup
  rw [e1]
  show ((fX6_readsGroup_L19 mb mln FU m1 w1 f1 r1).bind _) = _
  rw [e2]
  rfl
theorem g_zero (hT : T ≤ 60) (h : ∀ i, i < T → 33 ≤ c i ∧ c i ≤ 126 ∧ cod i = nI (c i) ∧ mb i = nI (c i)) {P : Nat} (hP : P ≤ 100) {mat rdm m1 w1 r1 r2 : Int32} {mr f1 f2 : Nat → Int32} (e1 : fX6_readsLetter mb (nI T) (mat + 1) 1 mr rdm = some (m1, w1, f1, r1)) (e2 : fX6_readsGroup_L19 mb (nI T) FU m1 w1 f1 r1 = some (nI P, 0, f2, r2)) : fX6_readsGroup mb (nI T) mat 1 mr rdm = some (nI P, 0, f2, r2) := by
  have e0 : nI P + 0 = nI P := by rw [lit_0, nI_add, Nat.add_zero]
  rw [g_eq e1 e2, if_pos (show (0 : Int32) = 0 from rfl), Option.bind_some, e0, e_letter hT h hP, Option.bind_some, if_pos (show (0 : Int32) = 0 from rfl), Option.bind_some, if_neg (show ¬ ¬ ((0 : Int32) = 0 ∨ (0 : Int32) = 1) by decide), if_pos (show (0 : Int32) = 0 from rfl), Option.bind_some, l128_zero]
  show some ((nI P + 0, 0, f2, r2) : Int32 × Int32 × (Nat → Int32) × Int32) = _
  rw [e0]
theorem g_no (hT : T ≤ 60) (h : ∀ i, i < T → 33 ≤ c i ∧ c i ≤ 126 ∧ cod i = nI (c i) ∧ mb i = nI (c i)) {P : Nat} (hP : P ≤ 99) (hd : ¬ (P + 1 < T ∧ 50 ≤ c (P + 1) ∧ c (P + 1) ≤ 57)) {mat rdm m1 w1 r1 r2 : Int32} {mr f1 f2 : Nat → Int32} (e1 : fX6_readsLetter mb (nI T) (mat + 1) 1 mr rdm = some (m1, w1, f1, r1)) (e2 : fX6_readsGroup_L19 mb (nI T) FU m1 w1 f1 r1 = some (nI P, 1, f2, r2)) : fX6_readsGroup mb (nI T) mat 1 mr rdm = some (nI (P + 1), 0, f2, r2) := by
  have e0 : nI (P + 1) + 0 = nI (P + 1) := by rw [lit_0, nI_add, Nat.add_zero]
  have e3 : nI P + 1 = nI (P + 1) := by rw [lit_1, nI_add]
  have hb : (if P + 1 < T then c (P + 1) else 0) ≤ 126 := by
    split
    · rename_i z; exact (h _ z).2.1
    · omega
  have e4 : fX6_in (nI (if P + 1 < T then c (P + 1) else 0) - 48) 2 9 = some 0 := by
    rw [in_digit hb, if_neg]
    intro z
    by_cases w : P + 1 < T
    · rw [if_pos w] at z; exact hd ⟨w, z⟩
    · rw [if_neg w] at z; omega
  rw [g_eq e1 e2, if_neg (show ¬ (1 : Int32) = 0 by decide), Option.bind_some, e3, e_letter hT h (show P + 1 ≤ 100 by omega), Option.bind_some, if_neg (show ¬ (1 : Int32) = 0 by decide), e4, Option.bind_some, if_pos (show (0 : Int32) = 0 from rfl), Option.bind_some, if_neg (show ¬ ¬ ((0 : Int32) = 0 ∨ (0 : Int32) = 1) by decide), if_pos (show (0 : Int32) = 0 from rfl), Option.bind_some, l128_zero]
  show some ((nI (P + 1) + 0, 0, f2, r2) : Int32 × Int32 × (Nat → Int32) × Int32) = _
  rw [e0]
theorem g_yes (hT : T ≤ 60) (h : ∀ i, i < T → 33 ≤ c i ∧ c i ≤ 126 ∧ cod i = nI (c i) ∧ mb i = nI (c i)) {P R g : Nat} (hP : P ≤ 99) (hd : P + 1 < T ∧ 50 ≤ c (P + 1) ∧ c (P + 1) ≤ 57) {mat m1 w1 r1 r3 : Int32} {mr f1 f2 f3 : Nat → Int32} (e1 : fX6_readsLetter mb (nI T) (mat + 1) 1 mr (nI R) = some (m1, w1, f1, r1)) (e2 : fX6_readsGroup_L19 mb (nI T) FU m1 w1 f1 r1 = some (nI P, 1, f2, nI (R + g))) (e3 : fX6_readsGroup_L128 (nI R) 1 (nI (c (P + 1) - 48)) (nI g) FU 0 f2 (nI (R + g)) = some (f3, r3)) : fX6_readsGroup mb (nI T) mat 1 mr (nI R) = some (nI (P + 2), 1, f3, r3) := by
  have e4 : nI P + 1 = nI (P + 1) := by rw [lit_1, nI_add]
  have e5 : nI (P + 1) + 1 = nI (P + 2) := by rw [lit_1, nI_add]
  have hc := h _ hd.1
  have e6 : fX6_in (nI (c (P + 1)) - 48) 2 9 = some 1 := by rw [in_digit hc.2.1, if_pos hd.2]
  have e7 : nI (c (P + 1)) - 48 = nI (c (P + 1) - 48) := by rw [show ((48 : Int32)) = nI 48 from rfl, pk_sub (show 48 ≤ c (P + 1) by omega)]
  have e8 : nI (R + g) - nI R = nI g := by rw [pk_sub (Nat.le_add_right R g), Nat.add_sub_cancel_left]
  rw [g_eq e1 e2, if_neg (show ¬ (1 : Int32) = 0 by decide), Option.bind_some, e4, e_letter hT h (show P + 1 ≤ 100 by omega), if_pos hd.1, Option.bind_some, if_neg (show ¬ (1 : Int32) = 0 by decide), e6, Option.bind_some, if_neg (show ¬ (1 : Int32) = 0 by decide), Option.bind_some, if_neg (show ¬ ¬ ((1 : Int32) = 0 ∨ (1 : Int32) = 1) by decide), if_neg (show ¬ (1 : Int32) = 0 by decide), Option.bind_some, e7, e8, e3]
  show some ((nI (P + 1) + 1, 1, f3, r3) : Int32 × Int32 × (Nat → Int32) × Int32) = _
  rw [e5]
theorem l_group (hT : T ≤ 60) (h : ∀ i, i < T → 33 ≤ c i ∧ c i ≤ 126 ∧ cod i = nI (c i) ∧ mb i = nI (c i)) {i R : Nat} (hi : i < T) (h40 : c i = 40) (hR : R ≤ 9 * i) (unf mr : Nat → Int32) (hS : same unf mr R) :
    (¬ fin' T c (T - i) 0 = 0 ∧ ∃ (mr' : Nat → Int32) (R' : Int32), fX6_readsGroup mb (nI T) (nI i) 1 mr (nI R) = some (nI (er T c (T - i) 0), 0, mr', R')) ∨
    (∃ (p R' : Nat) (unf' mr' : Nat → Int32), i + 3 ≤ p ∧ p ≤ T ∧ R' ≤ 9 * p ∧ er T c (T - i) 0 = er T c (T - p) 0 ∧ fin' T c (T - i) 0 = fin' T c (T - p) 0 ∧ fX6_readsGroup mb (nI T) (nI i) 1 mr (nI R) = some (nI p, 1, mr', nI R') ∧ same unf' mr' R' ∧ ∀ (n : Nat) (v2 : Int32), fX4_unfold_L6 cod (nI T) (n + (p - i)) (nI R) v2 (nI i) unf = fX4_unfold_L6 cod (nI T) n (nI R') (nI R) (nI p) unf') := by
  have x0 : nx 0 (c i) = 1 := by rw [h40]; rfl
  have f0 : fin' T c (T - i) 0 = fin' T c (T - (i + 1)) 1 := by rw [fin_at hi, x0]
  have r0 : er T c (T - i) 0 = er T c (T - (i + 1)) 1 := by rw [er_at hi (by rw [x0]; decide), x0]
  have g1 : fX6_readsLetter mb (nI T) (nI i + 1) 1 mr (nI R) = some (if ltr T c (i + 1) then (nI (i + 1 + 1), 1, upd mr R (nI (c (i + 1) - 97)), nI (R + 1)) else (nI (i + 1), 0, mr, nI R)) := by
    show fX6_readsLetter mb (nI T) (nI i + nI 1) 1 mr (nI R) = _
    rw [nI_add]
    exact e_readsLetter hT h mr (by omega) (by omega)
  by_cases l : ltr T c (i + 1)
  · rw [if_pos l] at g1
    have l1 := l.1
    have x1 : nx 1 (c (i + 1)) = 2 := nx12 l.2
    have f1 : fin' T c (T - (i + 1)) 1 = fin' T c (T - (i + 1 + 1)) 2 := by rw [fin_at l.1, x1]
    have r1 : er T c (T - (i + 1)) 1 = er T c (T - (i + 1 + 1)) 2 := by rw [er_at l.1 (by rw [x1]; decide), x1]
    obtain ⟨p, mr1, a1, a2, a3, a4, a5, a6⟩ := l_group19 hT h FU (i + 1 + 1) (R + 1) (upd mr R (nI (c (i + 1) - 97))) (by omega) (by rw [FU_eq]; omega) (by omega)
    obtain ⟨r2, f2⟩ := er_let (T := T) (c := c) (p - (i + 1 + 1)) (i + 1 + 1) (by omega) (fun q q1 q2 => a3 q q1 (by omega))
    rw [show i + 1 + 1 + (p - (i + 1 + 1)) = p by omega] at r2 f2
    obtain ⟨g, hg⟩ : ∃ g, p = i + 1 + g := ⟨p - (i + 1), by omega⟩
    rw [show R + 1 + (p - (i + 1 + 1)) = R + g by omega] at a6
    rcases a6 with ⟨b1, b2, b3⟩ | ⟨b1, b2, b3⟩
    · have x2 : nx 2 (c p) = 3 := by rw [b2]; rfl
      have f3 : fin' T c (T - p) 2 = fin' T c (T - (p + 1)) 3 := by rw [fin_at b1, x2]
      have r3 : er T c (T - p) 2 = er T c (T - (p + 1)) 3 := by rw [er_at b1 (by rw [x2]; decide), x2]
      by_cases k : p + 1 < T ∧ 50 ≤ c (p + 1) ∧ c (p + 1) ≤ 57
      · right
        have x3 : nx 3 (c (p + 1)) = 0 := nx30 k.2
        have f4 : fin' T c (T - (p + 1)) 3 = fin' T c (T - (p + 2)) 0 := by rw [fin_at k.1, x3]
        have r4 : er T c (T - (p + 1)) 3 = er T c (T - (p + 2)) 0 := by rw [er_at k.1 (by rw [x3]; decide), x3]
        have k1 := k.1
        have k2 := k.2.1
        have k3 := k.2.2
        obtain ⟨w, hw⟩ : ∃ w, c (p + 1) - 48 = w := ⟨_, rfl⟩
        have hw2 : 2 ≤ w := by omega
        have hw9 : w ≤ 9 := by omega
        have hgw : g * w ≤ 9 * g := by rw [Nat.mul_comm g w]; exact Nat.mul_le_mul_right g hw9
        obtain ⟨unf1, u1, u2, u3⟩ := l_unl hT h g (i + 1) R unf (by omega) (fun x q1 q2 => by
          by_cases e : x = i + 1
          · rw [e]; exact l
          · exact a3 x (by omega) (by omega))
        have hs : same unf1 mr1 (R + g + 0) := by
          intro j hj
          by_cases e : j < R
          · obtain ⟨s, s1, s2, s3⟩ := hS j e
            refine ⟨s, s1, by rw [u2 j e]; exact s2, ?_⟩
            rw [a4 j (by omega), upd_at, if_neg (by omega)]
            exact s3
          · obtain ⟨x, hx⟩ : ∃ x, j = R + x := ⟨j - R, by omega⟩
            have hl : ltr T c (i + 1 + x) := by
              by_cases e : x = 0
              · rw [e]; exact l
              · exact a3 _ (by omega) (by omega)
            have hl2 := hl.2
            refine ⟨c (i + 1 + x) - 97, by omega, by rw [hx]; exact u3 x (by omega), ?_⟩
            by_cases e : x = 0
            · rw [hx, e]
              show mr1 R = nI (c (i + 1) - 97)
              rw [a4 R (by omega), upd_at, if_pos rfl]
            · have b := a5 (i + 1 + x) (by omega) (by omega)
              rw [show R + 1 + (i + 1 + x - (i + 1 + 1)) = R + x by omega] at b
              rw [hx]
              exact b
        obtain ⟨unf2, mr2, d1, d2, d3⟩ := l_copy (R0 := R) (g := g) (k := w) (by omega) (by omega) hw9 (by omega) FU 0 unf1 mr1 (by have : g * 1 ≤ g * w := Nat.mul_le_mul_left g (by omega); omega) (by rw [FU_eq]; omega) hs
        refine ⟨p + 2, R + g * w, unf2, mr2, by omega, by omega, by omega, ?_, ?_, ?_, d3, fun n v2 => ?_⟩
        · rw [r0, r1, r2, r3, r4]
        · rw [f0, f1, f2, f3, f4]
        · refine g_yes hT h (by omega) k g1 b3 ?_
          rw [hw]
          exact d2
        · have e1 := u_open hT h hi h40 (n + 2 + g) (nI R) v2 unf
          have e2 := u1 (n + 2) (nI R)
          have e3 := u_close hT h b1 b2 (n + 1) (nI (R + g)) (nI R) unf1
          have e4 := u_times hT h (R := R) (g := g) k.1 k.2 (unf := unf1) (unf2 := unf2) (by rw [hw]; exact d1) n
          rw [← hg] at e2
          rw [hw] at e4
          rw [show n + (p + 2 - i) = n + 2 + g + 1 by omega]
          exact e1.trans (e2.trans (e3.trans e4))
      · left
        obtain ⟨z1, z2⟩ := er_halt (T := T) (c := c) (i := p + 1) (s := 3) (by decide) (by
          by_cases e : p + 1 = T
          · exact Or.inl e
          · exact Or.inr ⟨by omega, nx34 (fun z => k ⟨by omega, z⟩)⟩)
        rw [f0, f1, f2, f3, r0, r1, r2, r3, z1]
        exact ⟨z2, mr1, _, g_no hT h (by omega) k g1 b3⟩
    · left
      obtain ⟨z1, z2⟩ := er_halt (T := T) (c := c) (i := p) (s := 2) (by decide) (by
        by_cases e : p = T
        · exact Or.inl e
        · exact Or.inr ⟨by omega, nx24 (fun z => b1 ⟨by omega, z⟩) (fun z => b2 ⟨by omega, z⟩)⟩)
      rw [f0, f1, f2, r0, r1, r2, z1]
      exact ⟨z2, mr1, _, g_zero hT h (by omega) g1 b3⟩
  · rw [if_neg l] at g1
    left
    obtain ⟨z1, z2⟩ := er_halt (T := T) (c := c) (i := i + 1) (s := 1) (by decide) (by
      by_cases e : i + 1 = T
      · exact Or.inl e
      · exact Or.inr ⟨by omega, nx14 (fun z => l ⟨by omega, z⟩)⟩)
    rw [f0, r0, z1]
    refine ⟨z2, mr, nI R, g_zero hT h (by omega) g1 ?_⟩
    rw [show FU = 1999 + 1 from rfl, fX6_readsGroup_L19, if_pos rfl]
/-! the whole text -/
theorem l_all (hT : T ≤ 60) (h : ∀ i, i < T → 33 ≤ c i ∧ c i ≤ 126 ∧ cod i = nI (c i) ∧ mb i = nI (c i)) : ∀ (n i R : Nat) (unf mr : Nat → Int32), i ≤ T → T < n + i → R ≤ 9 * i → same unf mr R →
    ∃ (mr' : Nat → Int32) (rdm' : Int32), fX6_readsAll_L26 mb (nI T) n (nI i) 1 mr (nI R) = some (nI (er T c (T - i) 0), (if fin' T c (T - i) 0 = 0 then 1 else 0), mr', rdm') ∧ (fin' T c (T - i) 0 = 0 → ∃ (R' : Nat) (unf' : Nat → Int32), rdm' = nI R' ∧ R' ≤ 540 ∧ same unf' mr' R' ∧ ∀ (m : Nat) (v2 : Int32), T < m + i → fX4_unfold_L6 cod (nI T) m (nI R) v2 (nI i) unf = some (nI R', unf'))
  | 0, i, R, unf, mr, h1, h2, h3, h4 => absurd h2 (by omega)
  | n + 1, i, R, unf, mr, h1, h2, h3, h4 => by
    have one : ¬ (1 : Int32) = 0 := by decide
    by_cases q : i = T
    · have hle : nI T ≤ nI i := (nI_leI (by omega) (by omega)).mpr (by omega)
      refine ⟨mr, nI R, ?_, fun _ => ⟨R, unf, rfl, by omega, h4, fun m v2 hm => ?_⟩⟩
      · rw [fX6_readsAll_L26, if_neg one, if_pos hle, q, Nat.sub_self]
        rfl
      · obtain ⟨m', hm'⟩ : ∃ m', m = m' + 1 := ⟨m - 1, by omega⟩
        rw [hm', fX4_unfold_L6, if_pos hle]
    · have hi : i < T := by omega
      have hle : ¬ nI T ≤ nI i := by rw [nI_leI (by omega) (by omega)]; omega
      have eL : fX6_letter mb (nI T) (nI i) = some (nI (c i)) := by rw [e_letter hT h (by omega), if_pos hi]
      by_cases o : c i = 40
      · have e40 : nI (c i) = 40 := by rw [o]; rfl
        rcases l_group hT h hi o h3 unf mr h4 with ⟨f0, mr', R', e⟩ | ⟨p, R', unf', mr', p1, p2, p3, p4, p5, p6, p7, p8⟩
        · obtain ⟨k, hk⟩ : ∃ k, n = k + 1 := ⟨n - 1, by omega⟩
          refine ⟨mr', R', ?_, fun z => absurd z f0⟩
          rw [fX6_readsAll_L26, if_neg one, if_neg hle, eL, Option.bind_some, if_pos e40, e]
          show fX6_readsAll_L26 mb (nI T) n (nI (er T c (T - i) 0)) 0 mr' R' = _
          rw [hk, fX6_readsAll_L26, if_pos rfl, if_neg f0]
        · obtain ⟨mr2, rd2, a1, a2⟩ := l_all hT h n p R' unf' mr' p2 (by omega) p3 p7
          refine ⟨mr2, rd2, ?_, fun z => ?_⟩
          · rw [fX6_readsAll_L26, if_neg one, if_neg hle, eL, Option.bind_some, if_pos e40, p6]
            show fX6_readsAll_L26 mb (nI T) n (nI p) 1 mr' (nI R') = _
            rw [a1, p4, p5]
          · rw [p5] at z
            obtain ⟨R2, unf2, r1, r2, r3, r4⟩ := a2 z
            refine ⟨R2, unf2, r1, r2, r3, fun m v2 hm => ?_⟩
            have e := p8 (m - (p - i)) v2
            rw [show m - (p - i) + (p - i) = m by omega] at e
            rw [e]
            exact r4 _ _ (by omega)
      · have e40 : ¬ nI (c i) = 40 := by
          have := (h i hi).2.1
          intro z
          exact o ((nI_eq (b := 40) (by omega) (by omega)).mp z)
        by_cases l : ltr T c i
        · have x : nx 0 (c i) = 0 := nx00 l.2
          have l2 := l.2
          obtain ⟨mr2, rd2, a1, a2⟩ := l_all hT h n (i + 1) (R + 1) (upd unf R (nI (c i - 97))) (upd mr R (nI (c i - 97))) hi (by omega) (by omega) (same_up h4 (by omega))
          have f0 : fin' T c (T - i) 0 = fin' T c (T - (i + 1)) 0 := by rw [fin_at hi, x]
          have r0 : er T c (T - i) 0 = er T c (T - (i + 1)) 0 := by rw [er_at hi (by rw [x]; decide), x]
          refine ⟨mr2, rd2, ?_, fun z => ?_⟩
          · rw [fX6_readsAll_L26, if_neg one, if_neg hle, eL, Option.bind_some, if_neg e40, e_readsLetter hT h mr (by omega) (by omega), if_pos l, f0, r0]
            exact a1
          · rw [f0] at z
            obtain ⟨R2, unf2, r1, r2, r3, r4⟩ := a2 z
            refine ⟨R2, unf2, r1, r2, r3, fun m v2 hm => ?_⟩
            obtain ⟨m', hm'⟩ : ∃ m', m = m' + 1 := ⟨m - 1, by omega⟩
            rw [hm', u_letter hT h l (by omega)]
            exact r4 _ _ (by omega)
        · have x : nx 0 (c i) = 4 := nx04 (fun z => l ⟨hi, z⟩) o
          obtain ⟨k, hk⟩ : ∃ k, n = k + 1 := ⟨n - 1, by omega⟩
          refine ⟨mr, nI R, ?_, fun z => absurd z (by rw [fin_stop hi x]; decide)⟩
          rw [fX6_readsAll_L26, if_neg one, if_neg hle, eL, Option.bind_some, if_neg e40, e_readsLetter hT h mr (by omega) (by omega), if_neg l]
          show fX6_readsAll_L26 mb (nI T) n (nI i) 0 mr (nI R) = _
          rw [hk, fX6_readsAll_L26, if_pos rfl, er_stop hi x, fin_stop hi x]
          rfl
theorem l_reads (hT : T ≤ 60) (h : ∀ i, i < T → 33 ≤ c i ∧ c i ≤ 126 ∧ cod i = nI (c i) ∧ mb i = nI (c i)) (unf mr : Nat → Int32) :
    ∃ (mr' : Nat → Int32) (rdm' : Int32), fX6_readsAll mb (nI T) mr = some (nI (er T c T 0), (if T = 0 then 0 else if fin' T c T 0 = 0 then 1 else 0), mr', rdm') ∧ (¬ T = 0 → fin' T c T 0 = 0 → ∃ (R' : Nat) (unf' : Nat → Int32), rdm' = nI R' ∧ R' ≤ 540 ∧ same unf' mr' R' ∧ fX4_unfold cod unf (nI T) = some (nI R', unf')) := by
  by_cases q : T = 0
  · refine ⟨mr, 0, ?_, fun z => absurd q z⟩
    have e0 : nI (er T c T 0) = 0 := by rw [q]; rfl
    unfold fX6_readsAll
    rw [if_pos (show nI T ≤ 0 from (nI_leI (b := 0) (by omega) (by omega)).mpr (by omega)), Option.bind_some, if_neg (show ¬ ¬ ((0 : Int32) = 0 ∨ (0 : Int32) = 1) by decide), show FU = 1999 + 1 from rfl, fX6_readsAll_L26, if_pos (show (0 : Int32) = 0 from rfl), if_pos q, e0]
    rfl
  · obtain ⟨mr', rdm', a1, a2⟩ := l_all hT h FU 0 0 unf mr (Nat.zero_le T) (by rw [FU_eq]; omega) (by omega) (fun j hj => absurd hj (by omega))
    rw [Nat.sub_zero] at a1 a2
    have a3 : fX6_readsAll_L26 mb (nI T) FU 0 1 mr 0 = some (nI (er T c T 0), (if fin' T c T 0 = 0 then 1 else 0), mr', rdm') := a1
    refine ⟨mr', rdm', ?_, fun _ z => ?_⟩
    · unfold fX6_readsAll
      rw [if_neg (show ¬ nI T ≤ 0 by rw [lit_0, nI_leI (by omega) (by omega)]; omega), Option.bind_some, if_neg (show ¬ ¬ ((1 : Int32) = 0 ∨ (1 : Int32) = 1) by decide), a3, if_neg q]
      rfl
    · obtain ⟨R', unf', r1, r2, r3, r4⟩ := a2 z
      refine ⟨R', unf', r1, r2, r3, ?_⟩
      have e : fX4_unfold_L6 cod (nI T) FU 0 0 0 unf = some (nI R', unf') := r4 FU 0 (by rw [FU_eq]; omega)
      unfold fX4_unfold
      rw [e]
      rfl
theorem l_comp (hT : T ≤ 60) (h : ∀ i, i < T → 33 ≤ c i ∧ c i ≤ 126 ∧ cod i = nI (c i) ∧ mb i = nI (c i)) : fX4_isComplete cod (nI T) = some (if T = 0 then 0 else if fin' T c T 0 = 0 then 1 else 0) := by
  have e := l_fin hT h FU T 0 (Nat.le_refl T) (by rw [FU_eq]; omega) (by omega)
  rw [Nat.sub_self] at e
  have e' : fX4_isComplete_L4 cod (nI T) FU 0 0 = some (nI (fin' T c T 0)) := e
  unfold fX4_isComplete
  rw [e', Option.bind_some]
  by_cases q : T = 0
  · rw [if_pos (show nI T ≤ 0 from (nI_leI (b := 0) (by omega) (by omega)).mpr (by omega)), if_pos q]
  · rw [if_neg (show ¬ nI T ≤ 0 by rw [lit_0, nI_leI (by omega) (by omega)]; omega), if_neg q]
    have hf := fin_le T c T 0 (by omega)
    by_cases z : fin' T c T 0 = 0
    · rw [if_pos (show nI (fin' T c T 0) = 0 by rw [z]; rfl), if_pos z]
    · rw [if_neg (show ¬ nI (fin' T c T 0) = 0 from fun w => z ((nI_eq (b := 0) (by omega) (by omega)).mp w)), if_neg z]
theorem e_unfAt {f : Nat → Int32} {j : Nat} (hj : j < 540) : fX4_unfoldedAt f (nI j) = some (f j) := by
  unfold fX4_unfoldedAt
  rw [e_cellAt hj (by omega), Option.bind_some]
end RE
/-! PUTALL -/
section PA
variable {ten pha : Nat → Int32} {kep wfi wmo hun : Int32} {K w0 w1 w2 : Nat} {tn ph : Nat → Nat}
theorem l_signs {R : Nat} (hR : R ≤ 540) {unf mr : Nat → Int32} (hS : same unf mr R) : ∀ (n v N : Nat) (row ms : Nat → Int32) (r : Nat → Nat), v ≤ R → R < n + v → N + (R - v) ≤ 240 → AB N K w0 w1 w2 r tn ph → CI row ten pha (nI N) kep wfi wmo hun N K w0 w1 w2 r tn ph → MI ms N K w0 w1 w2 r tn ph →
    ∃ row' ms' r', fX5_putAll_L66 (nI R) unf n (nI v) row (nI N) = some (row', nI (N + (R - v))) ∧ fX6_putAll_L56 mr (nI R) n (nI v) ms = some ms' ∧ AB (N + (R - v)) K w0 w1 w2 r' tn ph ∧ CI row' ten pha (nI (N + (R - v))) kep wfi wmo hun (N + (R - v)) K w0 w1 w2 r' tn ph ∧ MI ms' (N + (R - v)) K w0 w1 w2 r' tn ph
  | 0, v, N, row, ms, r, h1, h2, h3, hA, hC, hM => absurd h2 (by omega)
  | n + 1, v, N, row, ms, r, h1, h2, h3, hA, hC, hM => by
    by_cases q : v = R
    · have hle : nI R ≤ nI v := (nI_leI (by omega) (by omega)).mpr (by omega)
      have e : N + (R - v) = N := by omega
      rw [e]
      refine ⟨row, ms, r, ?_, ?_, hA, hC, hM⟩
      · rw [fX5_putAll_L66, if_pos hle]
      · rw [fX6_putAll_L56, if_pos hle]
    · have hle : ¬ nI R ≤ nI v := by rw [nI_leI (by omega) (by omega)]; omega
      obtain ⟨s, s1, s2, s3⟩ := hS v (by omega)
      have hN : N < 240 := by omega
      obtain ⟨b1, b2, b3⟩ := add_sign hA hC hM s1 hN
      rw [lit_1, nI_add] at b2
      obtain ⟨row', ms', r', t1, t2, t3, t4, t5⟩ := l_signs hR hS n (v + 1) (N + 1) _ _ _ (by omega) (by omega) (by omega) b1 b2 b3
      have e : N + 1 + (R - (v + 1)) = N + (R - v) := by omega
      rw [e] at t1 t3 t4 t5
      have ev : nI v + 1 = nI (v + 1) := by rw [lit_1, nI_add]
      have eN : nI N + 1 = nI (N + 1) := by rw [lit_1, nI_add]
      refine ⟨row', ms', r', ?_, ?_, t3, t4, t5⟩
      · have ea : fX2_addSign row (nI N) (nI s) = some (upd row N (nI s), nI (N + 1)) := by
          unfold fX2_addSign
          rw [e_lay hN (by omega), Option.bind_some, eN]
        rw [fX5_putAll_L66, if_neg hle, e_unfAt (show v < 540 by omega), Option.bind_some, s2, ea, Option.bind_some, ev]
        exact t1
      · have m0 : ms (0 : Int32).toNatClampNeg = nI N := hM.1
        have c13 : ((13 : Int32) + nI N).toNatClampNeg = 13 + N := by rw [show ((13 : Int32)) = nI 13 from rfl, nI_add, nI_clamp (by omega)]
        have o13 : ¬ oob ((13 : Int32) + ms (0 : Int32).toNatClampNeg) 253 := by rw [m0, show ((13 : Int32)) = nI 13 from rfl, nI_add]; exact oob_no (by omega) (by omega)
        have o0 : ¬ oob 0 253 := by decide
        have cv : (nI v).toNatClampNeg = v := nI_clamp (by omega)
        have hu0 : upd ms (13 + N) (nI s) (0 : Int32).toNatClampNeg = nI N := by rw [upd_at, if_neg (show ¬ (0 : Int32).toNatClampNeg = 13 + N by show ¬ 0 = 13 + N; omega)]; exact hM.1
        rw [fX6_putAll_L56, if_neg hle, if_neg o0, if_neg (oob_no (show v < 600 by omega) (by omega)), if_neg o13, if_neg o0, if_neg o0, m0, c13, cv, s3, hu0, ev, eN]
        exact t2
end PA
theorem op_firstError {cod mb : Nat → Int32} {tln mln : Int32} (mr : Nat → Int32) (hT : TX cod tln mb mln) : ∃ a mat' wel' mr' rdm', fX5_firstError cod tln = some a ∧ fX6_firstError mb mln mr = some (a, 0, mat', wel', mr', rdm') := by
  obtain ⟨T, c, h1, rfl, rfl, h2⟩ := hT
  have e := l_err h1 h2 FU T 0 (Nat.le_refl T) (by rw [FU_eq]; omega) (by omega)
  rw [Nat.sub_self] at e
  have e' : fX4_errorIndex cod (nI T) = some (nI (er T c T 0)) := e
  obtain ⟨mr', rdm', a1, _⟩ := l_reads h1 h2 mr mr
  refine ⟨nI (er T c T 0), nI (er T c T 0), (if T = 0 then 0 else if fin' T c T 0 = 0 then 1 else 0), mr', rdm', ?_, ?_⟩
  · unfold fX5_firstError
    rw [e', Option.bind_some]
  · unfold fX6_firstError
    rw [a1]
    rfl
theorem q_eq {ms mv : Nat → Int32} {svm : Int32} {mb mr : Nat → Int32} {mln x1 x2 x4 : Int32} {x3 : Nat → Int32} (e : fX6_readsAll mb mln mr = some (x1, x2, x3, x4)) : fX6_putAll ms mv svm mb mln mr = if x2 = 0 then (fX6_fails 1).bind fun (x12_1, x12_2) => some (x12_1, x12_2, ms, mv, svm, mln, x1, x2, x3, x4) else if oob 0 253 then none else if (ms (0 : Int32).toNatClampNeg) + x4 ≤ 240 then (fX6_saves ms mv svm).bind fun (x3_1, x3_2) => (fX6_putAll_L56 x3 x4 FU 0 ms).bind fun x9 => if oob 0 253 then none else some ((x9 (0 : Int32).toNatClampNeg), 0, x9, x3_1, x3_2, 0, x1, x2, x3, x4) else (fX6_fails 2).bind fun (x11_1, x11_2) => some (x11_1, x11_2, ms, mv, svm, mln, x1, x2, x3, x4) := by
  unfold fX6_putAll
  rw [e]
  rfl
theorem op_putAll {ms row ten pha : Nat → Int32} {len kep wfi wmo hun nex man : Int32} {rg : Nat → StV} {mv : Nat → Int32} {svm : Int32} {cod mb : Nat → Int32} {tln mln : Int32} (unf mr : Nat → Int32) (f2 : Nat → Int64) (hR : RS row ten pha len kep wfi wmo hun ms) (hH : HI nex man rg mv svm) (hT : TX cod tln mb mln) :
    ∃ k row' len' nex' man' unf' tln' f2' rg' ans ms' mv' svm' mln' mat' wel' mr' rdm', fL_putAll row ten pha len kep wfi wmo hun nex man cod unf tln f2 rg = some (k, row', len', nex', man', unf', tln', f2', rg') ∧ fX6_putAll ms mv svm mb mln mr = some (ans, k, ms', mv', svm', mln', mat', wel', mr', rdm') ∧ (k = 0 → f2' 0 = ans.toInt64) ∧ RS row' ten pha len' kep wfi wmo hun ms' ∧ HI nex' man' rg' mv' svm' ∧ TX cod tln' mb mln' := by
  have hT0 := hT
  obtain ⟨T, c, h1, rfl, rfl, h2⟩ := hT
  have hR0 := hR
  obtain ⟨N, K, w0, w1, w2, r, tn, ph, hA, hC, hM⟩ := hR
  obtain rfl : len = nI N := hC.1
  have hN := hA.1
  have m0 : ms (0 : Int32).toNatClampNeg = nI N := hM.1
  have o0 : ¬ oob 0 253 := by decide
  have one : ¬ (1 : Int32) = 0 := by decide
  obtain ⟨mr', rdm', a1, a2⟩ := l_reads h1 h2 unf mr
  have cC := l_comp h1 h2
  by_cases q : ¬ T = 0 ∧ fin' T c T 0 = 0
  · have w : (if T = 0 then (0 : Int32) else if fin' T c T 0 = 0 then 1 else 0) = 1 := by rw [if_neg q.1, if_pos q.2]
    rw [w] at a1 cC
    obtain ⟨R, unf', hr, r2, r3, r4⟩ := a2 q.1 q.2
    rw [hr] at a1
    by_cases s : N + R ≤ 240
    · obtain ⟨nex', man', rg', mv', svm', s1, s2, s3⟩ := HI_save hR0 hH
      obtain ⟨row', ms', r', t1, t2, t3, t4, t5⟩ := l_signs r2 r3 FU 0 N row ms r (Nat.zero_le R) (by rw [FU_eq]; omega) (by omega) hA hC hM
      rw [Nat.sub_zero] at t1 t3 t4 t5
      have t1' : fX5_putAll_L66 (nI R) unf' FU 0 row (nI N) = some (row', nI (N + R)) := t1
      have t2' : fX6_putAll_L56 mr' (nI R) FU 0 ms = some ms' := t2
      have m1 : ms' (0 : Int32).toNatClampNeg = nI (N + R) := t5.1
      have hlt : nI N + nI R ≤ 240 := by rw [nI_add]; exact (nI_leI (b := 240) (by omega) (by omega)).mpr s
      have P : fX5_putAll row ten pha (nI N) kep wfi wmo hun nex man cod unf (nI T) rg = some (0, nI (N + R), row', nI (N + R), nex', man', unf', 0, rg') := by
        unfold fX5_putAll
        rw [cC, Option.bind_some, if_neg one, r4]
        show (if nI N + nI R ≤ 240 then (fX1_save nex man rg row ten pha (nI N) kep wfi wmo hun).bind _ else _) = _
        rw [if_pos hlt, s1]
        show ((fX5_putAll_L66 (nI R) unf' FU 0 row (nI N)).bind _) = _
        rw [t1']
        rfl
      have Q : fX6_putAll ms mv svm mb (nI T) mr = some (nI (N + R), 0, ms', mv', svm', 0, nI (er T c T 0), 1, mr', nI R) := by
        rw [q_eq a1, if_neg one, if_neg o0, m0, if_pos hlt, s2]
        show ((fX6_putAll_L56 mr' (nI R) FU 0 ms).bind _) = _
        rw [t2', Option.bind_some, if_neg o0, m1]
      refine ⟨0, row', nI (N + R), nex', man', unf', 0, vp_updL f2 (0 : Int32).toNatClampNeg (nI (N + R)).toInt64, rg', nI (N + R), ms', mv', svm', 0, nI (er T c T 0), 1, mr', nI R, ?_, Q, fun _ => updL0 _ _, ⟨N + R, K, w0, w1, w2, r', tn, ph, t3, t4, t5⟩, s3, ⟨0, c, by omega, rfl, rfl, fun i hi => absurd hi (by omega)⟩⟩
      unfold fL_putAll
      rw [P]
      rfl
    · have hlt : ¬ nI N + nI R ≤ 240 := by
        rw [nI_add]
        exact fun z => s ((nI_leI (b := 240) (by omega) (by omega)).mp z)
      have P : fX5_putAll row ten pha (nI N) kep wfi wmo hun nex man cod unf (nI T) rg = some (3, 0, row, nI N, nex, man, unf', nI T, rg) := by
        unfold fX5_putAll
        rw [cC, Option.bind_some, if_neg one, r4]
        show (if nI N + nI R ≤ 240 then (fX1_save nex man rg row ten pha (nI N) kep wfi wmo hun).bind _ else _) = _
        rw [if_neg hlt]
      have Q : fX6_putAll ms mv svm mb (nI T) mr = some (0, 2, ms, mv, svm, nI T, nI (er T c T 0), 1, mr', nI R) := by
        rw [q_eq a1, if_neg one, if_neg o0, m0, if_neg hlt]
        rfl
      refine ⟨2, row, nI N, nex, man, unf', nI T, f2, rg, 0, ms, mv, svm, nI T, nI (er T c T 0), 1, mr', nI R, ?_, Q, fun z => absurd z (by decide), hR0, hH, hT0⟩
      unfold fL_putAll
      rw [P]
      rfl
  · have w : (if T = 0 then (0 : Int32) else if fin' T c T 0 = 0 then 1 else 0) = 0 := by
      by_cases z : T = 0
      · rw [if_pos z]
      · rw [if_neg z, if_neg (fun y => q ⟨z, y⟩)]
    rw [w] at a1 cC
    have P : fX5_putAll row ten pha (nI N) kep wfi wmo hun nex man cod unf (nI T) rg = some (2, 0, row, nI N, nex, man, unf, nI T, rg) := by
      unfold fX5_putAll
      rw [cC, Option.bind_some, if_pos rfl]
    have Q : fX6_putAll ms mv svm mb (nI T) mr = some (0, 1, ms, mv, svm, nI T, nI (er T c T 0), 0, mr', rdm') := by
      rw [q_eq a1, if_pos rfl]
      rfl
    refine ⟨1, row, nI N, nex, man, unf, nI T, f2, rg, 0, ms, mv, svm, nI T, nI (er T c T 0), 0, mr', rdm', ?_, Q, fun z => absurd z (by decide), hR0, hH, hT0⟩
    unfold fL_putAll
    rw [P]
    rfl

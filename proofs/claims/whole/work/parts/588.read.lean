/-! THE REFERENCE READS A TEXT -/
section RD
variable {cod mb : Nat → Int32} {T : Nat} {c : Nat → Nat}
theorem e_letter (hT : T ≤ 60) (h : ∀ i, i < T → 33 ≤ c i ∧ c i ≤ 126 ∧ cod i = nI (c i) ∧ mb i = nI (c i)) {i : Nat} (hi : i ≤ 100) : fX6_letter mb (nI T) (nI i) = some (nI (if i < T then c i else 0)) := by
  unfold fX6_letter
  by_cases q : i < T
  · rw [if_neg (show ¬ nI T ≤ nI i by rw [nI_leI (by omega) (by omega)]; omega), if_neg (oob_no (show i < 60 by omega) (by omega)), nI_clamp (by omega), (h i q).2.2.2, if_pos q]
  · rw [if_pos (show nI T ≤ nI i by rw [nI_leI (by omega) (by omega)]; omega), if_neg q]
    rfl
/-- a letter stands at i -/
abbrev ltr (T : Nat) (c : Nat → Nat) (i : Nat) : Prop := i < T ∧ 97 ≤ c i ∧ c i ≤ 100
theorem e_readsLetter (hT : T ≤ 60) (h : ∀ i, i < T → 33 ≤ c i ∧ c i ≤ 126 ∧ cod i = nI (c i) ∧ mb i = nI (c i)) (mr : Nat → Int32) {i R : Nat} (hi : i ≤ 99) (hR : R < 600) :
    fX6_readsLetter mb (nI T) (nI i) 1 mr (nI R) = some (if ltr T c i then (nI (i + 1), 1, upd mr R (nI (c i - 97)), nI (R + 1)) else (nI i, 0, mr, nI R)) := by
  unfold fX6_readsLetter
  rw [if_neg (show ¬ (1 : Int32) = 0 by decide), e_letter hT h (by omega), Option.bind_some]
  by_cases q : ltr T c i
  · obtain ⟨q1, q2, q3⟩ := q
    rw [if_pos q1, show fX6_in (nI (c i)) 97 100 = some 1 from in1 (b := 97) (c := 100) q2 q3 (by omega), Option.bind_some, if_neg (show ¬ (1 : Int32) = 0 by decide), Option.bind_some, if_neg (show ¬ ¬ ((1 : Int32) = 0 ∨ (1 : Int32) = 1) by decide), if_neg (show ¬ (1 : Int32) = 0 by decide), Option.bind_some, if_neg (oob_no hR (by omega)), nI_clamp (by omega), if_pos (show ltr T c i from ⟨q1, q2, q3⟩), show ((97 : Int32)) = nI 97 from rfl, pk_sub q2, lit_1, nI_add, nI_add]
  · have e : fX6_in (nI (if i < T then c i else 0)) 97 100 = some 0 := by
      have hb : (if i < T then c i else 0) ≤ 126 := by
        split
        · rename_i z; exact (h i z).2.1
        · omega
      rw [m_in, if_neg]
      intro z
      have z1 := (nI_leI (a := 97) (by omega) (by omega)).mp z.1
      have z2 := (nI_leI (b := 100) (by omega) (by omega)).mp z.2
      by_cases w : i < T
      · rw [if_pos w] at z1 z2
        exact q ⟨w, z1, z2⟩
      · rw [if_neg w] at z1
        omega
    rw [e, if_neg q]
    rfl
theorem e_readsLetter0 (mr : Nat → Int32) (i R mln : Int32) : fX6_readsLetter mb mln i 0 mr R = some (i, 0, mr, R) := rfl
theorem l_group19 (hT : T ≤ 60) (h : ∀ i, i < T → 33 ≤ c i ∧ c i ≤ 126 ∧ cod i = nI (c i) ∧ mb i = nI (c i)) : ∀ (n i R : Nat) (mr : Nat → Int32), i ≤ T → T + 2 < n + i → R + (T - i) < 600 →
    ∃ p mr', i ≤ p ∧ p ≤ T ∧ (∀ q, i ≤ q → q < p → ltr T c q) ∧ (∀ j, j < R → mr' j = mr j) ∧ (∀ q, i ≤ q → q < p → mr' (R + (q - i)) = nI (c q - 97)) ∧
      ((p < T ∧ c p = 41 ∧ fX6_readsGroup_L19 mb (nI T) n (nI i) 1 mr (nI R) = some (nI p, 1, mr', nI (R + (p - i)))) ∨ (¬ ltr T c p ∧ ¬ (p < T ∧ c p = 41) ∧ fX6_readsGroup_L19 mb (nI T) n (nI i) 1 mr (nI R) = some (nI p, 0, mr', nI (R + (p - i)))))
  | 0, i, R, mr, h1, h2, h3 => absurd h2 (by omega)
  | n + 1, i, R, mr, h1, h2, h3 => by
    have e41 : ∀ x, x ≤ 126 → ((nI x = 41) ↔ x = 41) := fun x hx => nI_eq (b := 41) (by omega) (by omega)
    have hb : (if i < T then c i else 0) ≤ 126 := by
      split
      · rename_i z; exact (h i z).2.1
      · omega
    rw [fX6_readsGroup_L19, if_neg (show ¬ (1 : Int32) = 0 by decide), e_letter hT h (by omega), Option.bind_some]
    by_cases q : i < T ∧ c i = 41
    · refine ⟨i, mr, Nat.le_refl i, h1, fun q h1 h2 => absurd h2 (by omega), fun _ _ => rfl, fun q h1 h2 => absurd h2 (by omega), Or.inl ⟨q.1, q.2, ?_⟩⟩
      rw [if_pos ((e41 _ hb).mpr (by rw [if_pos q.1]; exact q.2)), Nat.sub_self, Nat.add_zero]
    · have q41 : ¬ nI (if i < T then c i else 0) = 41 := by
        intro z
        have z2 := (e41 _ hb).mp z
        by_cases w : i < T
        · rw [if_pos w] at z2; exact q ⟨w, z2⟩
        · rw [if_neg w] at z2; omega
      rw [if_neg q41, e_readsLetter hT h mr (by omega) (by omega), Option.bind_some]
      by_cases l : ltr T c i
      · rw [if_pos l]
        obtain ⟨p, mr', a1, a2, a3, a4, a5, a6⟩ := l_group19 hT h n (i + 1) (R + 1) (upd mr R (nI (c i - 97))) l.1 (by omega) (by have := l.1; omega)
        refine ⟨p, mr', by omega, a2, fun q h1 h2 => ?_, fun j hj => ?_, fun q h1 h2 => ?_, ?_⟩
        · by_cases e : q = i
          · rw [e]; exact l
          · exact a3 q (by omega) h2
        · rw [a4 j (by omega), upd_at, if_neg (by omega)]
        · by_cases e : q = i
          · rw [e, Nat.sub_self, Nat.add_zero, a4 R (by omega), upd_at, if_pos rfl]
          · have := a5 q (by omega) h2
            rw [show R + 1 + (q - (i + 1)) = R + (q - i) by omega] at this
            exact this
        · rw [show R + 1 + (p - (i + 1)) = R + (p - i) by omega] at a6
          exact a6
      · rw [if_neg l]
        refine ⟨i, mr, Nat.le_refl i, h1, fun q h1 h2 => absurd h2 (by omega), fun _ _ => rfl, fun q h1 h2 => absurd h2 (by omega), Or.inr ⟨l, q, ?_⟩⟩
        obtain ⟨m, rfl⟩ : ∃ m, n = m + 1 := ⟨n - 1, by omega⟩
        dsimp only
        rw [fX6_readsGroup_L19, if_pos rfl, Nat.sub_self, Nat.add_zero]
/-- below n both hold the same signs -/
def same (unf mr : Nat → Int32) (n : Nat) : Prop := ∀ j, j < n → ∃ s, s < 4 ∧ unf j = nI s ∧ mr j = nI s
theorem same_up {unf mr : Nat → Int32} {n s : Nat} (h : same unf mr n) (hs : s < 4) : same (upd unf n (nI s)) (upd mr n (nI s)) (n + 1) := by
  intro j hj
  rw [upd_at, upd_at]
  by_cases e : j = n
  · rw [if_pos e, if_pos e]; exact ⟨s, hs, rfl, rfl⟩
  · rw [if_neg e, if_neg e]; exact h j (by omega)
theorem l_copy {R0 g k : Nat} (hg : 0 < g) (hk : 1 ≤ k) (hk9 : k ≤ 9) (hR : R0 + g * k ≤ 540) : ∀ (n v : Nat) (unf mr : Nat → Int32), g + v ≤ g * k → g * k < n + (g + v) → same unf mr (R0 + g + v) →
    ∃ unf' mr', fX4_repeat_L16 (nI g) (nI (R0 + g * k)) n (nI (R0 + g + v)) unf = some unf' ∧ fX6_readsGroup_L128 (nI R0) 1 (nI k) (nI g) n (nI v) mr (nI (R0 + g + v)) = some (mr', nI (R0 + g * k)) ∧ same unf' mr' (R0 + g * k)
  | 0, v, unf, mr, h1, h2, h3 => absurd h2 (by omega)
  | n + 1, v, unf, mr, h1, h2, h3 => by
    have e1 : nI g * (nI k - 1) = nI (g * k - g) := by rw [lit_1, pk_sub hk, pk_mul, Nat.mul_sub, Nat.mul_one]
    rw [fX4_repeat_L16, fX6_readsGroup_L128, e1]
    by_cases q : g + v = g * k
    · rw [if_pos (by rw [nI_leI (by omega) (by omega)]; omega), if_pos (by rw [nI_leI (by omega) (by omega)]; omega)]
      refine ⟨unf, mr, rfl, by rw [show R0 + g + v = R0 + g * k by omega], ?_⟩
      rw [show R0 + g + v = R0 + g * k by omega] at h3
      exact h3
    · obtain ⟨s, hs, a1, a2⟩ := h3 (R0 + v) (by omega)
      obtain ⟨unf', mr', b1, b2, b3⟩ := l_copy hg hk hk9 hR n (v + 1) (upd unf (R0 + g + v) (nI s)) (upd mr (R0 + g + v) (nI s)) (by omega) (by omega) (by rw [← Nat.add_assoc]; exact same_up h3 hs)
      refine ⟨unf', mr', ?_, ?_, b3⟩
      · rw [if_neg (by rw [nI_leI (by omega) (by omega)]; omega), pk_sub (by omega), show R0 + g + v - g = R0 + v by omega]
        unfold fX4_unfoldedAt
        rw [e_cellAt (by omega) (by omega), Option.bind_some, Option.bind_some, e_lay (by omega) (by omega), Option.bind_some, a1, lit_1, nI_add]
        exact b1
      · rw [if_neg (by rw [nI_leI (by omega) (by omega)]; omega), if_neg (show ¬ (1 : Int32) = 0 by decide), nI_add, if_neg (oob_no (by omega) (by omega)), if_neg (oob_no (by omega) (by omega)), nI_clamp (by omega), nI_clamp (by omega), a2, lit_1, nI_add, nI_add]
        exact b2
end RD

/-! THE REFERENCE's STEPS: its row m (cell 8) holds C -/
/-- τ with another row m -/
def zm (τ : zS) (m : Nat → Int32) : zS := (τ.1, fun k j => if k = 8 then m j else τ.2 k j)
theorem zm_1 (τ : zS) (m : Nat → Int32) : (zm τ m).1 = τ.1 := rfl
theorem zm_8 (τ : zS) (m : Nat → Int32) : (zm τ m).2 8 = m := by funext j; simp [zm]
theorem zm_n (τ : zS) (m : Nat → Int32) {k : Nat} (h : k ≠ 8) : (zm τ m).2 k = τ.2 k := by funext j; simp [zm, h]
theorem zm_A (τ : zS) (m : Nat → Int32) (i : Nat) (v : Int32) : zA (zm τ m) 8 i v = zm τ (upd m i v) := by
  refine Prod.ext rfl ?_
  funext k j
  simp only [zA, zm, upd]
  by_cases hk : k = 8 <;> by_cases hj : j = i <;> simp [hk, hj]
theorem zm_self (τ : zS) : zm τ (τ.2 8) = τ := by
  refine Prod.ext rfl ?_
  funext k j
  simp only [zm]
  by_cases hk : k = 8
  · simp [hk]
  · simp [hk]
theorem upd_e (f : Nat → Int32) (k : Nat) (x : Int32) (j : Nat) : upd f k x j = if j = k then x else f j := rfl
/-- the people as they are told: n of them; 0 comes, 1 from, 2 to, 3 width, 4 need, 5 fear, 6 stairs -/
def GP (n F : Nat) (P : Nat → Nat → Nat) : Prop := n ≤ 30 ∧ ∀ p, p < n → P 0 p ≤ 900 ∧ P 1 p < F ∧ P 2 p < F ∧ P 1 p ≠ P 2 p ∧ 1 ≤ P 3 p ∧ P 3 p ≤ 2 ∧ 1 ≤ P 4 p ∧ P 4 p ≤ 6 ∧ P 5 p ≤ 1 ∧ P 6 p ≤ 7
def GH (F S W V : Nat) : Prop := 2 ≤ F ∧ F ≤ 8 ∧ 2 ≤ S ∧ S ≤ 12 ∧ 1 ≤ W ∧ W ≤ S ∧ 1 ≤ V ∧ V ≤ 4 ∧ V ≤ S
/-- the reference's house and people -/
def HM (τ : zS) (F S W V : Nat) (kk : Nat) (n : Nat) (P : Nat → Nat → Nat) : Prop := τ.1 0 0 = nI F ∧ τ.1 0 1 = nI S ∧ τ.1 0 2 = nI W ∧ τ.1 0 3 = nI V ∧ (τ.1 0 4 = nI kk - 1 ∧ kk ≤ 8) ∧ τ.1 0 5 = nI n ∧ (∀ a, a < 7 → ∀ p, p < n → τ.2 (1 + a) p = nI (P a p)) ∧ GH F S W V ∧ GP n F P
section ROPS
variable {τ : zS} {F S W V n : Nat} {kk : Nat} {P : Nat → Nat → Nat} {m : Nat → Int32} {C : mC} {Q : Int32 → zS → Prop}
theorem RM_join (h : RM m n F C) (g : GC n F C) (hF : F ≤ 8) (hn : n ≤ 30) {p f : Nat} (hp : p < n) (hf : f < F) (hs : C.1 p ≠ 1) : RM (upd (upd (upd (upd m (5 + p) 1) (35 + p) (nI f)) (149 + 30 * f + (C.2.2.2.1 f).length) (nI p)) (141 + f) (nI ((C.2.2.2.1 f).length + 1))) n F (mjoin C p f) := by
  obtain ⟨h1, h2, h3, h4, h5, h6, h7, h8⟩ := h
  have hl : ∀ g', g' < F → (C.2.2.2.1 g').length ≤ n := fun g' hg' => GC_len g hg'
  have hlf := GC_lt g hf hp hs
  refine ⟨fun q hq => ?_, fun g' hg' => ?_, ?_, ?_, ?_, fun g' hg' => ?_, ?_, fun q hq hq2 => ?_⟩
  · obtain ⟨a1, a2, a3, a4⟩ := h1 q hq
    show _ = nI (fu C.1 p 1 q) ∧ ((fu C.1 p 1 q = 1 ∨ fu C.1 p 1 q = 2) → _ = nI (fu C.2.1 p f q)) ∧ ((fu C.1 p 1 q = 3 ∨ fu C.1 p 1 q = 4) → _ = nI (C.2.2.1 q)) ∧ _ = C.2.2.2.2.2.2.1 q
    have n1 : ∀ x, x = 5 + q ∨ x = 35 + q ∨ x = 65 + q ∨ x = 95 + q → ¬ x = 141 + f ∧ ¬ x = 149 + 30 * f + (C.2.2.2.1 f).length := fun x hx => by omega
    by_cases e : q = p
    · subst e
      simp [upd_e, fu, n1, a4, show ¬ (5 + q = 35 + q) by omega, show ¬ (95 + q = 35 + q) by omega, show ¬ (95 + q = 5 + q) by omega]
      rfl
    · simp only [upd_e, fu, e, if_false, n1 _ (Or.inl rfl), n1 _ (Or.inr (Or.inl rfl)), n1 _ (Or.inr (Or.inr (Or.inl rfl))), n1 _ (Or.inr (Or.inr (Or.inr rfl))), show ¬ (5 + q = 35 + p) by omega, show ¬ (5 + q = 5 + p) by omega, show ¬ (35 + q = 35 + p) by omega, show ¬ (35 + q = 5 + p) by omega, show ¬ (65 + q = 35 + p) by omega, show ¬ (65 + q = 5 + p) by omega, show ¬ (95 + q = 35 + p) by omega, show ¬ (95 + q = 5 + p) by omega]
      exact ⟨a1, a2, a3, a4⟩
  · obtain ⟨a1, a2, a3, a4⟩ := h2 g' hg'
    have hlg := hl g' hg'
    show _ = nI (fu C.2.2.2.1 f (C.2.2.2.1 f ++ [p]) g').length ∧ _ = C.2.2.2.2.1 g' ∧ _ = C.2.2.2.2.2.1 g' ∧ ∀ i q, (fu C.2.2.2.1 f (C.2.2.2.1 f ++ [p]) g')[i]? = some q → _ = nI q
    by_cases e : g' = f
    · subst e
      simp only [upd_e, fu, if_true, show ¬ (125 + g' = 141 + g') by omega, show ¬ (133 + g' = 141 + g') by omega, show ¬ (125 + g' = 149 + 30 * g' + (C.2.2.2.1 g').length) by omega, show ¬ (133 + g' = 149 + 30 * g' + (C.2.2.2.1 g').length) by omega, show ¬ (125 + g' = 35 + p) by omega, show ¬ (125 + g' = 5 + p) by omega, show ¬ (133 + g' = 35 + p) by omega, show ¬ (133 + g' = 5 + p) by omega, if_false]
      refine ⟨by simp, a2, a3, fun i q hi => ?_⟩
      have hil : i < (C.2.2.2.1 g' ++ [p]).length := (List.getElem?_eq_some_iff.mp hi).1
      simp only [List.length_append, List.length_singleton] at hil
      rw [if_neg (by omega)]
      by_cases ei : i = (C.2.2.2.1 g').length
      · subst ei
        simp at hi
        simp [hi]
      · rw [if_neg (by omega), if_neg (by omega), if_neg (by omega)]
        rw [List.getElem?_append_left (by omega)] at hi
        exact a4 i q hi
    · simp only [upd_e, fu, e, if_false, show ¬ (141 + g' = 141 + f) by omega, show ¬ (141 + g' = 149 + 30 * f + (C.2.2.2.1 f).length) by omega, show ¬ (141 + g' = 35 + p) by omega, show ¬ (141 + g' = 5 + p) by omega, show ¬ (125 + g' = 141 + f) by omega, show ¬ (133 + g' = 141 + f) by omega, show ¬ (125 + g' = 149 + 30 * f + (C.2.2.2.1 f).length) by omega, show ¬ (133 + g' = 149 + 30 * f + (C.2.2.2.1 f).length) by omega, show ¬ (125 + g' = 35 + p) by omega, show ¬ (125 + g' = 5 + p) by omega, show ¬ (133 + g' = 35 + p) by omega, show ¬ (133 + g' = 5 + p) by omega]
      refine ⟨a1, a2, a3, fun i q hi => ?_⟩
      have hil : i < (C.2.2.2.1 g').length := (List.getElem?_eq_some_iff.mp hi).1
      rw [if_neg (by omega), if_neg (by omega), if_neg (by omega), if_neg (by omega)]
      exact a4 i q hi
  all_goals simp only [upd_e]
  · rw [if_neg (by omega), if_neg (by omega), if_neg (by omega), if_neg (by omega)]; exact h3
  · rw [if_neg (by omega), if_neg (by omega), if_neg (by omega), if_neg (by omega)]; exact h4
  · rw [if_neg (by omega), if_neg (by omega), if_neg (by omega), if_neg (by omega)]; exact h5
  · rw [if_neg (by omega), if_neg (by omega), if_neg (by omega), if_neg (by omega)]; exact h6 g' hg'
  · rw [if_neg (by omega), if_neg (by omega), if_neg (by omega), if_neg (by omega)]; exact h7
  · rw [if_neg (by omega), if_neg (by omega), if_neg (by omega), if_neg (by omega), if_neg (by omega), if_neg (by omega), if_neg (by omega), if_neg (by omega)]; exact h8 q hq hq2
theorem m_joins (hF : F ≤ 8) (hn : n ≤ 30) (h : RM m n F C) (g : GC n F C) {p f : Nat} (hp : p < n) (hf : f < F) (hs : C.1 p ≠ 1) (k : ∀ m', RM m' n F (mjoin C p f) → Q 0 (zm τ m')) : w_X7_joins (nI p) (nI f) (zm τ m) Q := by
  have hlf := GC_lt g hf hp hs
  rw [r_joins (k := (C.2.2.2.1 f).length) (by omega) (by omega) (by omega) (by rw [zm_8]; exact (h.2.1 f hf).1)]
  simp only [zm_A]
  exact k _ (RM_join h g hF hn hp hf hs)
end ROPS

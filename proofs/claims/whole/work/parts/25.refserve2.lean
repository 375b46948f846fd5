section RSRV2
variable {τ : zS} {F S W V n : Nat} {kk : Nat} {P : Nat → Nat → Nat} {m : Nat → Int32} {C : mC} {Q : Int32 → zS → Prop}
/-- another line at f -/
theorem RM_ln (h : RM m n F C) (hF : F ≤ 8) (hn : n ≤ 30) {f : Nat} (hf : f < F) {m' : Nat → Int32} (l : List Nat) (hl : ∀ g, g < F → (C.2.2.2.1 g).length ≤ 30) (e1 : m' (141 + f) = nI l.length) (e2 : ∀ i q, l[i]? = some q → m' (149 + 30 * f + i) = nI q) (eo : ∀ x, x ≠ 141 + f → (x < 149 + 30 * f ∨ 149 + 30 * f + 30 ≤ x) → m' x = m x) : RM m' n F (C.1, C.2.1, C.2.2.1, fu C.2.2.2.1 f l, C.2.2.2.2) := by
  obtain ⟨h1, h2, h3, h4, h5, h6, h7, h8⟩ := h
  refine ⟨fun q hq => ?_, fun g' hg' => ?_, ?_, ?_, ?_, fun g' hg' => ?_, ?_, fun q hq hq2 => ?_⟩
  · obtain ⟨a1, a2, a3, a4⟩ := h1 q hq
    rw [eo _ (by omega) (by omega), eo _ (by omega) (by omega), eo _ (by omega) (by omega), eo _ (by omega) (by omega)]
    exact ⟨a1, a2, a3, a4⟩
  · obtain ⟨a1, a2, a3, a4⟩ := h2 g' hg'
    show _ = nI (fu C.2.2.2.1 f l g').length ∧ _ = C.2.2.2.2.1 g' ∧ _ = C.2.2.2.2.2.1 g' ∧ ∀ i q, (fu C.2.2.2.1 f l g')[i]? = some q → _ = nI q
    by_cases e : g' = f
    · subst e
      simp only [fu, if_true]
      rw [eo (125 + g') (by omega) (by omega), eo (133 + g') (by omega) (by omega)]
      exact ⟨e1, a2, a3, e2⟩
    · simp only [fu, e, if_false]
      rw [eo (141 + g') (by omega) (by omega), eo (125 + g') (by omega) (by omega), eo (133 + g') (by omega) (by omega)]
      refine ⟨a1, a2, a3, fun i q hi => ?_⟩
      have hil : i < (C.2.2.2.1 g').length := (List.getElem?_eq_some_iff.mp hi).1
      have := hl g' hg'
      rw [eo _ (by omega) (by omega)]
      exact a4 i q hi
  · rw [eo _ (by omega) (by omega)]; exact h3
  · rw [eo _ (by omega) (by omega)]; exact h4
  · rw [eo _ (by omega) (by omega)]; exact h5
  · rw [eo _ (by omega) (by omega)]; exact h6 g' hg'
  · rw [eo _ (by omega) (by omega)]; exact h7
  · rw [eo _ (by omega) (by omega), eo _ (by omega) (by omega)]; exact h8 q hq hq2
theorem RM_ic (h : RM m n F C) (hF : F ≤ 8) (hn : n ≤ 30) {f : Nat} (hf : f < F) (v : Int32) : RM (upd m (125 + f) v) n F (C.1, C.2.1, C.2.2.1, C.2.2.2.1, fu C.2.2.2.2.1 f v, C.2.2.2.2.2) := by
  obtain ⟨h1, h2, h3, h4, h5, h6, h7, h8⟩ := h
  refine ⟨fun q hq => ?_, fun g' hg' => ?_, ?_, ?_, ?_, fun g' hg' => ?_, ?_, fun q hq hq2 => ?_⟩
  · obtain ⟨a1, a2, a3, a4⟩ := h1 q hq
    simp only [upd_e, show ¬ (5 + q = 125 + f) by omega, show ¬ (35 + q = 125 + f) by omega, show ¬ (65 + q = 125 + f) by omega, show ¬ (95 + q = 125 + f) by omega, if_false]
    exact ⟨a1, a2, a3, a4⟩
  · obtain ⟨a1, a2, a3, a4⟩ := h2 g' hg'
    simp only [upd_e, show ¬ (141 + g' = 125 + f) by omega, show ¬ (133 + g' = 125 + f) by omega, if_false]
    refine ⟨a1, ?_, a3, fun i q hi => ?_⟩
    · by_cases e : g' = f
      · subst e
        simp [fu]
      · simp [fu, e, a2]
    · rw [if_neg (by omega)]
      exact a4 i q hi
  all_goals simp only [upd_e]
  · rw [if_neg (by omega)]; exact h3
  · rw [if_neg (by omega)]; exact h4
  · rw [if_neg (by omega)]; exact h5
  · rw [if_neg (by omega)]; exact h6 g' hg'
  · rw [if_neg (by omega)]; exact h7
  · rw [if_neg (by omega), if_neg (by omega)]; exact h8 q hq hq2
theorem m_parts (hM : HM τ F S W V kk n P) (h : RM m n F C) (g : GC n F C) {f i p : Nat} (hf : f < F) (hi : (C.2.2.2.1 f)[i]? = some p) (k : ∀ m', RM m' n F (C.1, C.2.1, C.2.2.1, fu C.2.2.2.1 f ((C.2.2.2.1 f).eraseIdx i), C.2.2.2.2) → (∀ x, x < 141 → m' x = m x) → Q 0 (zm τ m')) : w_X7_parts (nI f) (nI i) (zm τ m) Q := by
  obtain ⟨a1, a2, a3, a4, a5, a6, a7, a8, a9⟩ := id hM
  have hF := a8.2.1
  have hn := a9.1
  have hil : i < (C.2.2.2.1 f).length := (List.getElem?_eq_some_iff.mp hi).1
  have hlen := GC_len g hf
  have hmf := (h.2.1 f hf).1
  unfold w_X7_parts
  simp only [zlet_def, ix141 (show f < 8 by omega), vp141 (show f < 8 by omega), true_and, zm_8, zm_A, hmf]
  rw [show (1 : Int32) = nI 1 from rfl, pk_sub (show 1 ≤ (C.2.2.2.1 f).length by omega)]
  have key : ∀ d j (mk : Nat → Int32), j + d = (C.2.2.2.1 f).length - 1 → i ≤ j → (∀ x, mk x = if 149 + 30 * f + i ≤ x ∧ x < 149 + 30 * f + j then m (x + 1) else if x = 141 + f then nI ((C.2.2.2.1 f).length - 1) else m x) → w_X7_parts_L16 Q (d + 1) (nI f) (nI j) (zm τ mk) := by
    intro d
    induction d with
    | zero =>
      intro j mk hj hij hmk
      have ej : j = (C.2.2.2.1 f).length - 1 := by omega
      rw [w_X7_parts_L16]
      have e41 : mk (141 + f) = nI ((C.2.2.2.1 f).length - 1) := by rw [hmk, if_neg (by omega), if_pos rfl]
      simp only [ix141 (show f < 8 by omega), vp141 (show f < 8 by omega), true_and, zm_8, e41, ej]
      refine ⟨fun _ => k mk ?_ (fun x hx => by rw [hmk, if_neg (by omega), if_neg (by omega)]), fun hh => absurd (Int32.le_refl _) hh⟩
      refine RM_ln h hF hn hf ((C.2.2.2.1 f).eraseIdx i) (fun g' hg' => Nat.le_trans (GC_len g hg') hn) (by rw [e41, List.length_eraseIdx_of_lt hil]) (fun x q hx => ?_) (fun x x1 x2 => by rw [hmk, if_neg (by omega), if_neg x1])
      have hxl : x < (C.2.2.2.1 f).length - 1 := by
        have := (List.getElem?_eq_some_iff.mp hx).1
        rw [List.length_eraseIdx_of_lt hil] at this
        exact this
      rw [List.getElem?_eraseIdx] at hx
      rw [hmk]
      by_cases hxi : x < i
      · rw [if_pos hxi] at hx
        rw [if_neg (by omega), if_neg (by omega)]
        exact (h.2.1 f hf).2.2.2 x q hx
      · rw [if_neg hxi] at hx
        rw [if_pos (by omega)]
        exact (h.2.1 f hf).2.2.2 (x + 1) q hx
    | succ d ih =>
      intro j mk hj hij hmk
      rw [w_X7_parts_L16]
      have e41 : mk (141 + f) = nI ((C.2.2.2.1 f).length - 1) := by rw [hmk, if_neg (by omega), if_pos rfl]
      have hj30 : j + 1 < 30 := by omega
      have eix : (((149 : Int32) + ((30 : Int32) * nI f)) + nI j) + (1 : Int32) = ((149 : Int32) + ((30 : Int32) * nI f)) + nI (j + 1) := by
        rw [Int32.add_assoc _ (nI j), nI_1]
      simp only [zlet_def, eix, ix141 (show f < 8 by omega), vp141 (show f < 8 by omega), ixL (show f < 8 by omega) hj30, vpL (show f < 8 by omega) hj30, ixL (show f < 8 by omega) (show j < 30 by omega), vpL (show f < 8 by omega) (show j < 30 by omega), true_and, zm_8, zm_A, e41, nI_1]
      refine ⟨fun hh => ?_, fun _ => ?_⟩
      · rw [nI_leI (by omega) (by omega)] at hh
        omega
      · refine ih (j + 1) _ (by omega) (by omega) (fun x => ?_)
        simp only [upd_e]
        by_cases hx : x = 149 + 30 * f + j
        · rw [if_pos hx, if_pos (by omega), hmk, if_neg (by omega), if_neg (by omega), hx]
          rfl
        · rw [if_neg hx, hmk]
          by_cases hx2 : 149 + 30 * f + i ≤ x ∧ x < 149 + 30 * f + j
          · rw [if_pos hx2, if_pos (by omega)]
          · rw [if_neg hx2, if_neg (show ¬ (149 + 30 * f + i ≤ x ∧ x < 149 + 30 * f + (j + 1)) by omega)]
  refine ⟨(C.2.2.2.1 f).length - 1 - i + 1, key _ i _ (by omega) (Nat.le_refl i) (fun x => ?_)⟩
  rw [if_neg (by omega)]
  rfl
end RSRV2

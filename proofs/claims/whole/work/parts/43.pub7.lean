/-! fits -/
def msum (τ : zS) (w : Nat) (u : Int32) : Nat → Int32
  | 0 => 0
  | k + 1 => msum τ w u k + (if τ.2 10 (2 * k + w) = -1 then u else τ.2 10 (2 * k + w))
theorem i_arr (A B a b : Int32) : (A - B) + (a - b) = (A + a) - (B + b) := by
  have hn : -(B + b) = -B + -b := by
    first
      | exact Int32.neg_add
      | (rw [Int32.neg_add, Int32.sub_eq_add_neg])
  rw [Int32.sub_eq_add_neg, Int32.sub_eq_add_neg, Int32.sub_eq_add_neg, hn, Int32.add_assoc, ← Int32.add_assoc (-B) a, Int32.add_comm (-B) a, Int32.add_assoc a, ← Int32.add_assoc A a]
theorem s_together {σ τ0 : zS} {F n K : Nat} {Q : Int32 → zS → Prop} (hK : IK σ τ0 F n K) (hF : F ≤ 8) {w : Nat} (hw : w = 0 ∨ w = 1) (u : Int32) (k : Q (msum τ0 w u F) σ) : w_X5_together (nI w) u (nI F) σ Q := by
  refine ⟨F + 1, ?_⟩
  have key : ∀ d j, j + d = F → w_X5_together_L6 Q (d + 1) (nI w) u (nI F) (msum τ0 w u j) (nI j) σ := by
    intro d
    induction d with
    | zero =>
      intro j hj
      have ej : j = F := by omega
      subst ej
      rw [w_X5_together_L6]
      exact ⟨fun _ => k, fun hh => absurd (Int32.le_refl _) hh⟩
    | succ d ih =>
      intro j hj
      have h1 := ih (j + 1) (by omega)
      obtain ⟨t1, t2⟩ := hK.1 j (by omega)
      have e0 : σ.2 (55 + w) j = τ0.2 10 (2 * j + w) := by
        rcases hw with rfl | rfl
        · exact t1.symm
        · exact t2.symm
      rw [w_X5_together_L6, c8 (show j < 8 by omega), c8 (show w < 8 by omega), e0]
      unfold w_X5_together_J37
      rw [nI_1]
      unfold msum at h1
      refine ⟨fun hh => ?_, fun _ => ⟨vp_in_nI (by omega) (by decide), v8 (by omega), fun c => ?_, fun c => ?_⟩⟩
      · rw [nI_leI (by omega) (by omega)] at hh
        omega
      · rw [if_pos c] at h1
        exact h1
      · rw [if_neg c] at h1
        exact h1
  exact key F 0 (by omega)
theorem st_fits : zStep_fits Inv := by
  intro σ τ hI x1
  obtain ⟨F, S, W, V, n, K, P, C, m, τ0, rfl, hC, hM, hR, hW, hRM, hG, ht, hK⟩ := id hI
  have hF := hC.2.2.2.2.2.2.2.1.2.1
  unfold w_X6_fits w_X7_fits
  rw [s_within]
  by_cases h1 : (0 : Int32) ≤ x1 ∧ x1 ≤ 100
  case neg =>
    refine zNo h1 ?_
    dsimp only
    rw [r_in]
    exact zNo h1 ⟨rfl, hI⟩
  refine zYes h1 ?_
  unfold w_X5_mayLeaveInside
  rw [hC.1]
  have key7 : ∀ Q : Int32 → zS → Prop, w_X7_in x1 (msum τ0 0 0 F - msum τ0 1 100 F) (msum τ0 0 100 F - msum τ0 1 0 F) (zm τ0 m) (fun v1 t2 => ((v1 = 0 → Q (0 : Int32) t2) ∧ (¬ (v1 = 0) → Q (1 : Int32) t2))) → ∀ d j, j + d = F → w_X7_fits_L19 Q (d + 1) x1 (msum τ0 0 0 j - msum τ0 1 100 j) (msum τ0 0 100 j - msum τ0 1 0 j) (nI j) (zm τ0 m) := by
    intro Q hQ d
    induction d with
    | zero =>
      intro j hj
      have ej : j = F := by omega
      subst ej
      rw [w_X7_fits_L19, zm_1, hM.1]
      exact ⟨fun _ => hQ, fun hh => absurd (Int32.le_refl _) hh⟩
    | succ d ih =>
      intro j hj
      have h1 := ih (j + 1) (by omega)
      have ei0 : (2 : Int32) * nI j = nI (2 * j) := by rw [show (2 : Int32) = nI 2 from rfl, pk_mul]
      have ei1 : nI (2 * j) + 1 = nI (2 * j + 1) := nI_1 _
      have u0 := (told_c (hK.2.1 (2 * j) (by omega))).2
      have u1 := (told_c (hK.2.1 (2 * j + 1) (by omega))).2
      rw [w_X7_fits_L19, zm_1, hM.1, ei0, ei1, nI_clamp (show 2 * j < 2 ^ 31 by omega), nI_clamp (show 2 * j + 1 < 2 ^ 31 by omega), zm_n τ0 m (show (10 : Nat) ≠ 8 by decide)]
      unfold w_X7_fits_J64 w_X7_fits_J76 w_X7_fits_J92 w_X7_fits_J103
      rw [nI_1]
      unfold msum at h1
      simp only [Nat.add_zero] at h1
      refine ⟨fun hh => ?_, fun _ => ⟨vp_in_nI (by omega) (by decide), vp_in_nI (by omega) (by decide), ?_⟩⟩
      · rw [nI_leI (by omega) (by omega)] at hh
        omega
      rw [u0, u1]
      by_cases c0 : τ0.2 10 (2 * j) = -1
      · by_cases c1 : τ0.2 10 (2 * j + 1) = -1
        · simp only [c0, c1, if_true] at h1
          simp only [c0, c1, not_true_eq_false, false_implies, not_false_eq_true, true_implies, true_and, i_arr]
          exact h1
        · simp only [c0, c1, if_true, if_false] at h1
          simp only [c0, c1, not_true_eq_false, false_implies, not_false_eq_true, true_implies, true_and, and_true, i_arr]
          exact h1
      · by_cases c1 : τ0.2 10 (2 * j + 1) = -1
        · simp only [c0, c1, if_true, if_false] at h1
          simp only [c0, c1, not_true_eq_false, false_implies, not_false_eq_true, true_implies, true_and, and_true, i_arr]
          exact h1
        · simp only [c0, c1, if_false] at h1
          simp only [c0, c1, not_true_eq_false, false_implies, not_false_eq_true, true_implies, and_true, i_arr]
          exact h1
  refine s_together (w := 0) hK hF (Or.inl rfl) 0 ?_
  refine s_together (w := 1) hK hF (Or.inr rfl) 100 ?_
  refine s_together (w := 0) hK hF (Or.inl rfl) 100 ?_
  refine s_together (w := 1) hK hF (Or.inr rfl) 0 ?_
  rw [s_within]
  refine ⟨zB01_or _, ?_⟩
  have fin : ∀ v, ((msum τ0 0 0 F - msum τ0 1 100 F ≤ x1 ∧ x1 ≤ msum τ0 0 100 F - msum τ0 1 0 F) → v = 1) → (¬ (msum τ0 0 0 F - msum τ0 1 100 F ≤ x1 ∧ x1 ≤ msum τ0 0 100 F - msum τ0 1 0 F) → v = 0) → w_X7_in x1 0 100 (zm τ0 m) (fun v1 t2 => ((v1 = 0 → v = (-1 : Int32) ∧ Inv σ t2) ∧ (¬ (v1 = 0) → ∃ m19, w_X7_fits_L19 (fun v2 τ2 => v = v2 ∧ Inv σ τ2) m19 x1 ((0 : Int32)) ((0 : Int32)) ((0 : Int32)) t2))) := fun v hv1 hv0 => by
    rw [r_in]
    refine zYes h1 ⟨F + 1, ?_⟩
    have h9 := key7 (fun v2 τ2 => v = v2 ∧ Inv σ τ2) (by
      rw [r_in]
      by_cases c : msum τ0 0 0 F - msum τ0 1 100 F ≤ x1 ∧ x1 ≤ msum τ0 0 100 F - msum τ0 1 0 F
      · exact zYes c ⟨hv1 c, hI⟩
      · exact zNo c ⟨hv0 c, hI⟩) F 0 (by omega)
    rw [show msum τ0 0 0 0 - msum τ0 1 100 0 = 0 by show (0 : Int32) - 0 = 0; decide, show msum τ0 0 100 0 - msum τ0 1 0 0 = 0 by show (0 : Int32) - 0 = 0; decide] at h9
    exact h9
  by_cases c : msum τ0 0 0 F - msum τ0 1 100 F ≤ x1 ∧ x1 ≤ msum τ0 0 100 F - msum τ0 1 0 F
  · exact zYes c (fin 1 (fun _ => rfl) (fun hh => absurd c hh))
  · exact zNo c (fin 0 (fun hh => absurd hh c) (fun _ => rfl))
/-! safe -/
def msf (P : Nat → Nat → Nat) (left : Nat) : Nat → Bool
  | 0 => true
  | k + 1 => msf P left k && (mwalk P 0 k || decide (P 4 k ≤ left))
theorem msf_no {P : Nat → Nat → Nat} {left k : Nat} (h : msf P left k = false) : ∀ d, msf P left (k + d) = false
  | 0 => h
  | d + 1 => by
    show (msf P left (k + d) && _) = false
    rw [msf_no h d]
    rfl
section SAFE
variable {σ τ : zS} {F S W V n : Nat} {P : Nat → Nat → Nat} {m : Nat → Int32} {Q : Int32 → zS → Prop}
theorem s_isSafe (hC : HC σ 10 F S W V 0 n P) {v : Nat} (hv : 1 ≤ v) (hv4 : v ≤ 4) (k : Q (zB01 (msf P (mleft S W v 0) n)) σ) : w_X6_isSafe (nI v) σ Q := by
  obtain ⟨a1, a2, a3, a4, a5, a6, a7, a8, a9, b1, b2, b3⟩ := id hC
  obtain ⟨c1, c2, c3, c4, c5, c6, c7, c8, c9⟩ := id a8
  have hn := a9.1
  have hl := mleft_le (S := S) (by omega) (show W ≤ 12 by omega) hv4 0
  unfold w_X6_isSafe
  rw [show (0 : Int32) = nI 0 from rfl, s_left hC (by decide) hv hv4]
  generalize mleft S W v 0 = left at k hl ⊢
  refine ⟨n + 1, ?_⟩
  have key : ∀ d j, j + d = n → msf P left j = true → w_X6_isSafe_L12 Q (d + 1) (nI left) (nI j) σ := by
    intro d
    induction d with
    | zero =>
      intro j hj hm
      have ej : j = n := by omega
      subst ej
      rw [w_X6_isSafe_L12, a6]
      rw [hm] at k
      exact ⟨fun _ => ⟨z01_1, k⟩, fun hh => absurd (Int32.le_refl _) hh⟩
    | succ d ih =>
      intro j hj hm
      have hp := a9.2 j (by omega)
      rw [w_X6_isSafe_L12, a6, show (-1 : Int32) = nI 0 - 1 by decide, s_goesOnFoot hC (show j < n by omega), c30 (show j < 30 by omega), show σ.2 6 j = nI (P 4 j) from a7 4 (by decide) j (by omega), show (nI (P 4 j) ≤ nI left) = (P 4 j ≤ left) from propext (nI_leI (by omega) (by omega))]
      unfold w_X6_isSafe_J50
      rw [nI_1, zB01_0]
      refine ⟨fun hh => ?_, fun _ => ⟨fun hw => ⟨v30 (by omega), fun c => ih (j + 1) (by omega) ?_, fun c => ⟨z01_0, ?_⟩⟩, fun hw => ih (j + 1) (by omega) ?_⟩⟩
      · rw [nI_leI (by omega) (by omega)] at hh
        omega
      · show (msf P left j && _) = true
        simp [hm, c]
      · have : msf P left (j + 1) = false := by
          show (msf P left j && _) = false
          simp [hw, c]
        have h9 := msf_no this d
        rw [show j + 1 + d = n by omega] at h9
        rw [h9] at k
        exact k
      · rw [Bool.not_eq_false] at hw
        show (msf P left j && _) = true
        simp [hm, hw]
  exact key n 0 (by omega) rfl
theorem m_isSafe (hM : HM τ F S W V 0 n P) {v : Nat} (hv : 1 ≤ v) (hv4 : v ≤ 4) (k : Q (zB01 (msf P (mleft S W v 0) n)) (zm τ m)) : w_X7_isSafe (nI v) (zm τ m) Q := by
  obtain ⟨a1, a2, a3, a4, a5, a6, a7, a8, a9⟩ := id hM
  obtain ⟨c1, c2, c3, c4, c5, c6, c7, c8, c9⟩ := id a8
  have hn := a9.1
  have el : (nI W + nI v - 1) / nI v = nI (mleft S W v 0) := by
    unfold mleft
    rw [Nat.zero_mod, if_pos (by omega), nI_add, show (1 : Int32) = nI 1 from rfl, pk_sub (by omega), pk_div (by omega) (by omega) (by omega), Nat.sub_zero]
  have hl := mleft_le (S := S) (by omega) (show W ≤ 12 by omega) hv4 0
  generalize mleft S W v 0 = left at k hl el
  refine ⟨n + 1, ?_⟩
  have key : ∀ d j, j + d = n → w_X7_isSafe_L4 Q (d + 1) (nI v) (zB01 (msf P left j)) (nI j) (zm τ m) := by
    intro d
    induction d with
    | zero =>
      intro j hj
      have ej : j = n := by omega
      subst ej
      rw [w_X7_isSafe_L4, zm_1, a6]
      exact ⟨fun _ => ⟨zB01_or _, k⟩, fun hh => absurd (Int32.le_refl _) hh⟩
    | succ d ih =>
      intro j hj
      have h1 := ih (j + 1) (by omega)
      have hp := a9.2 j (by omega)
      rw [w_X7_isSafe_L4, zm_1, a6, mr_walks hM (show j < n by omega), c30 (show j < 30 by omega), zm_1, a3, el, zm_n τ m (show (5 : Nat) ≠ 8 by decide), show τ.2 5 j = nI (P 4 j) from a7 4 (by decide) j (by omega), nI_ltI (by omega) (by omega)]
      unfold w_X7_isSafe_J47 w_X7_isSafe_J43 w_X7_isSafe_J48
      rw [nI_1, zB01_0, zB01_0]
      have hm : msf P left (j + 1) = (msf P left j && (mwalk P 0 j || decide (P 4 j ≤ left))) := rfl
      refine ⟨fun hh => ?_, fun _ => ⟨fun h0 => ?_, fun h0 => ⟨fun hw => ⟨v30 (by omega), nI_ne0 (by omega) (by omega), fun c => ?_, fun c => ?_⟩, fun hw => ?_⟩⟩⟩
      · rw [nI_leI (by omega) (by omega)] at hh
        omega
      · rw [hm, h0] at h1
        exact h1
      · rw [hm, hw, decide_eq_false (show ¬ P 4 j ≤ left by omega)] at h1
        simp only [Bool.or_false, Bool.and_false] at h1
        exact h1
      · rw [Bool.not_eq_false] at h0
        rw [hm, h0, decide_eq_true (show P 4 j ≤ left by omega)] at h1
        simp only [Bool.or_true, Bool.and_true] at h1
        exact h1
      · rw [Bool.not_eq_false] at h0 hw
        rw [hm, h0, hw] at h1
        exact h1
  exact key n 0 (by omega)
end SAFE
theorem st_safe : zStep_safe Inv := by
  intro σ τ hI x1
  obtain ⟨F, S, W, V, n, K, P, C, m, τ0, rfl, hC, hM, hR, hW, hRM, hG, ht, hK⟩ := id hI
  unfold w_X6_safe w_X7_safe
  rw [s_isSpeed, hC.2.1]
  by_cases hc : (1 : Int32) ≤ x1 ∧ x1 ≤ 4 ∧ x1 ≤ nI S
  · refine zYes hc ?_
    obtain ⟨v, v1, v2, rfl⟩ := zrng (a := 1) (b := 4) (by decide) (by decide) hc.1 hc.2.1
    refine s_isSafe hC v1 v2 ?_
    have fin : ∀ z, z = zB01 (msf P (mleft S W v 0) n) → w_X7_isSpeed (nI v) (zm τ0 m) (fun v1 t2 => ((v1 = 0 → z = (-1 : Int32) ∧ Inv σ t2) ∧ (¬ (v1 = 0) → (w_X7_isSafe (nI v) t2 fun v3 t4 => ((v3 = 0 → z = (0 : Int32) ∧ Inv σ t4) ∧ (¬ (v3 = 0) → z = (1 : Int32) ∧ Inv σ t4)))))) := fun z hz => by
      rw [r_isSpeed, zm_1, hM.2.1]
      refine zYes hc (m_isSafe hM v1 v2 ?_)
      refine ⟨fun h0 => ⟨by rw [hz, h0], hI⟩, fun h0 => ⟨?_, hI⟩⟩
      rw [zB01_n] at h0
      rw [hz, h0]
      rfl
    refine ⟨fun h0 => fin 0 h0.symm, fun h0 => fin 1 ?_⟩
    rw [zB01_n] at h0
    rw [h0]
    rfl
  · refine zNo hc ?_
    dsimp only
    rw [r_isSpeed, zm_1, hM.2.1]
    exact zNo hc ⟨rfl, hI⟩

/-- how wide those among the first i are that ride in box b -/
def wsm (P : Nat → Nat → Nat) (C : mC) (b : Nat) : Nat → Nat
  | 0 => 0
  | i + 1 => wsm P C b i + (if C.1 i = 2 ∧ C.2.1 i = b then P 3 i else 0)
section ROPS2
variable {τ : zS} {F S W V n : Nat} {kk : Nat} {P : Nat → Nat → Nat} {m : Nat → Int32} {C : mC} {Q : Int32 → zS → Prop}
theorem HM_zm (h : HM τ F S W V kk n P) : HM (zm τ m) F S W V kk n P := by
  obtain ⟨a1, a2, a3, a4, a5, a6, a7, a8, a9⟩ := h
  refine ⟨a1, a2, a3, a4, a5, a6, fun a ha p hp => ?_, a8, a9⟩
  rw [zm_n _ _ (by omega)]
  exact a7 a ha p hp
theorem mr_rides (hn : n ≤ 30) (h : RM m n F C) (g : GC n F C) (hF : F ≤ 8) {p b : Nat} (hp : p < n) (hb : b < 100) : w_X7_rides (nI p) (nI b) (zm τ m) Q ↔ Q (zB01 (decide (C.1 p = 2 ∧ C.2.1 p = b))) (zm τ m) := by
  rw [r_rides (by omega), zm_8]
  obtain ⟨a1, a2, -, -⟩ := h.1 p hp
  obtain ⟨g1, g2, g3, -⟩ := g.1 p hp
  have e : (m (5 + p) = 2 ∧ m (35 + p) = nI b) ↔ (C.1 p = 2 ∧ C.2.1 p = b) := by
    rw [a1, show (2 : Int32) = nI 2 from rfl, nI_eq (by omega) (by decide)]
    constructor
    · rintro ⟨h1, h2⟩
      have h3 := g3 h1
      rw [a2 (Or.inr h1), nI_eq (by omega) (by omega)] at h2
      exact ⟨h1, h2⟩
    · rintro ⟨h1, h2⟩
      exact ⟨h1, by rw [a2 (Or.inr h1), h2]⟩
  simp only [e]
theorem wsm_le (hP : GP n F P) (b : Nat) : ∀ i, i ≤ n → wsm P C b i ≤ 2 * i
  | 0, _ => Nat.le_refl _
  | i + 1, hi => by
    have h1 := wsm_le hP b i (by omega)
    have h2 := (hP.2 i (by omega)).2.2.2.2.2.1
    unfold wsm
    split <;> omega
theorem m_widths (hM : HM τ F S W V kk n P) (h : RM m n F C) (g : GC n F C) {b : Nat} (hb : b < 100) (k : Q (nI (wsm P C b n)) (zm τ m)) : w_X7_widths (nI b) (zm τ m) Q := by
  obtain ⟨a1, a2, a3, a4, a5, a6, a7, a8, a9⟩ := id hM
  have key : ∀ d i, i + d = n → w_X7_widths_L4 Q (d + 1) (nI b) (nI (wsm P C b i)) (nI i) (zm τ m) := by
    intro d
    induction d with
    | zero =>
      intro i hi
      have : i = n := by omega
      subst this
      rw [w_X7_widths_L4]
      refine ⟨fun _ => k, fun hh => absurd ?_ hh⟩
      rw [zm_1, a6]
      exact Int32.le_refl _
    | succ d ih =>
      intro i hi
      have hn := a9.1
      rw [w_X7_widths_L4]
      refine ⟨fun hh => ?_, fun _ => ?_⟩
      · rw [zm_1, a6, nI_leI (by omega) (by omega)] at hh
        omega
      · rw [mr_rides (by omega) h g (by have := a8.2.1; omega) (by omega) hb]
        unfold w_X7_widths_J32
        have hnext := ih (i + 1) (by omega)
        rw [show nI i + (1 : Int32) = nI (i + 1) from nI_1 i]
        have hw : (zm τ m).2 4 (nI i).toNatClampNeg = nI (P 3 i) := by
          rw [zcl (by omega), zm_n _ _ (by decide)]
          exact a7 3 (by decide) i (by omega)
        by_cases hr : C.1 i = 2 ∧ C.2.1 i = b
        · simp only [hr, and_self, decide_true, zB01]
          refine ⟨fun hh => absurd hh (by decide), fun _ => ⟨zvi (by omega) (by decide), ?_⟩⟩
          have e : wsm P C b (i + 1) = wsm P C b i + P 3 i := by simp [wsm, hr]
          rw [e] at hnext
          rw [hw, nI_add]
          exact hnext
        · simp only [hr, decide_false, zB01]
          refine ⟨fun _ => ?_, fun hh => absurd rfl hh⟩
          have e : wsm P C b (i + 1) = wsm P C b i := by simp [wsm, hr]
          rw [e] at hnext
          rw [show (0 : Int32) = nI 0 from rfl, nI_add]
          exact hnext
  exact ⟨n + 1, key n 0 (by omega)⟩
theorem RM_oc (h : RM m n F C) (hF : F ≤ 8) (hn : n ≤ 30) {f : Nat} (hf : f < F) (v : Int32) : RM (upd m (133 + f) v) n F (C.1, C.2.1, C.2.2.1, C.2.2.2.1, C.2.2.2.2.1, fu C.2.2.2.2.2.1 f v, C.2.2.2.2.2.2) := by
  obtain ⟨h1, h2, h3, h4, h5, h6, h7, h8⟩ := h
  refine ⟨fun q hq => ?_, fun g' hg' => ?_, ?_, ?_, ?_, fun g' hg' => ?_, ?_, fun q hq hq2 => ?_⟩
  · obtain ⟨a1, a2, a3, a4⟩ := h1 q hq
    simp only [upd_e, show ¬ (5 + q = 133 + f) by omega, show ¬ (35 + q = 133 + f) by omega, show ¬ (65 + q = 133 + f) by omega, show ¬ (95 + q = 133 + f) by omega, if_false]
    exact ⟨a1, a2, a3, a4⟩
  · obtain ⟨a1, a2, a3, a4⟩ := h2 g' hg'
    simp only [upd_e, show ¬ (141 + g' = 133 + f) by omega, show ¬ (125 + g' = 133 + f) by omega, if_false]
    refine ⟨a1, a2, ?_, fun i q hi => ?_⟩
    · by_cases e : g' = f
      · subst e
        simp [fu]
      · simp [fu, e, a3]
    · rw [if_neg (by omega)]
      exact a4 i q hi
  all_goals simp only [upd_e]
  · rw [if_neg (by omega)]; exact h3
  · rw [if_neg (by omega)]; exact h4
  · rw [if_neg (by omega)]; exact h5
  · rw [if_neg (by omega)]; exact h6 g' hg'
  · rw [if_neg (by omega)]; exact h7
  · rw [if_neg (by omega), if_neg (by omega)]; exact h8 q hq hq2
/-- a change of one person's state, place and time -/
theorem RM_st (h : RM m n F C) (hF : F ≤ 8) (hn : n ≤ 30) {p : Nat} (hp : p < n) {m' : Nat → Int32} (s w t : Nat) (e1 : m' (5 + p) = nI s) (e2 : (s = 1 ∨ s = 2) → m' (35 + p) = nI w) (e3 : (s = 3 ∨ s = 4) → m' (65 + p) = nI t) (eo : ∀ x, x ≠ 5 + p → x ≠ 35 + p → x ≠ 65 + p → m' x = m x) : RM m' n F (fu C.1 p s, fu C.2.1 p w, fu C.2.2.1 p t, C.2.2.2) := by
  obtain ⟨h1, h2, h3, h4, h5, h6, h7, h8⟩ := h
  refine ⟨fun q hq => ?_, fun g' hg' => ?_, ?_, ?_, ?_, fun g' hg' => ?_, ?_, fun q hq hq2 => ?_⟩
  · obtain ⟨a1, a2, a3, a4⟩ := h1 q hq
    show _ = nI (fu C.1 p s q) ∧ ((fu C.1 p s q = 1 ∨ fu C.1 p s q = 2) → _ = nI (fu C.2.1 p w q)) ∧ ((fu C.1 p s q = 3 ∨ fu C.1 p s q = 4) → _ = nI (fu C.2.2.1 p t q)) ∧ _ = C.2.2.2.2.2.2.1 q
    by_cases e : q = p
    · subst e
      simp only [fu, if_true]
      exact ⟨e1, e2, e3, by rw [eo _ (by omega) (by omega) (by omega)]; exact a4⟩
    · simp only [fu, e, if_false]
      rw [eo _ (by omega) (by omega) (by omega), eo _ (by omega) (by omega) (by omega), eo _ (by omega) (by omega) (by omega), eo _ (by omega) (by omega) (by omega)]
      exact ⟨a1, a2, a3, a4⟩
  · obtain ⟨a1, a2, a3, a4⟩ := h2 g' hg'
    show _ = nI (C.2.2.2.1 g').length ∧ _ = C.2.2.2.2.1 g' ∧ _ = C.2.2.2.2.2.1 g' ∧ ∀ i q, (C.2.2.2.1 g')[i]? = some q → _ = nI q
    rw [eo _ (by omega) (by omega) (by omega), eo _ (by omega) (by omega) (by omega), eo _ (by omega) (by omega) (by omega)]
    refine ⟨a1, a2, a3, fun i q hi => ?_⟩
    rw [eo _ (by omega) (by omega) (by omega)]
    exact a4 i q hi
  · rw [eo _ (by omega) (by omega) (by omega)]; exact h3
  · rw [eo _ (by omega) (by omega) (by omega)]; exact h4
  · rw [eo _ (by omega) (by omega) (by omega)]; exact h5
  · rw [eo _ (by omega) (by omega) (by omega)]; exact h6 g' hg'
  · rw [eo _ (by omega) (by omega) (by omega)]; exact h7
  · rw [eo _ (by omega) (by omega) (by omega), eo _ (by omega) (by omega) (by omega)]; exact h8 q hq hq2
theorem m_leaves (hM : HM τ F S W V kk n P) (h : RM m n F C) (g : GC n F C) {p f : Nat} (hp : p < n) (hf : f < F) (hs : C.1 p = 2) (k : ∀ m', RM m' n F (mleave P C p f) → Q 0 (zm τ m')) : w_X7_leaves (nI p) (nI f) (zm τ m) Q := by
  obtain ⟨a1, a2, a3, a4, a5, a6, a7, a8, a9⟩ := id hM
  have hF := a8.2.1
  have hn := a9.1
  have hpt := (a9.2 p hp).2.2.1
  unfold w_X7_leaves
  simp only [zlet_def, ix133 (show f < 8 by omega), vp133 (show f < 8 by omega), ix5 (show p < 30 by omega), vp5 (show p < 30 by omega), ix35 (show p < 30 by omega), vp35 (show p < 30 by omega), ix65 (show p < 30 by omega), vp65 (show p < 30 by omega), zcl (show p < 30 by omega), cl0, vpc0, zvi (show p < 30 by omega) (show 30 < 2 ^ 31 by decide), true_and, zm_8, zm_A, zm_n τ _ (show 3 ≠ 8 by decide), a7 2 (by decide) p hp, show τ.2 3 p = nI (P 2 p) from a7 2 (by decide) p hp]
  have hoc := (h.2.1 f hf).2.2.1
  have h' := RM_oc h hF hn hf (C.2.2.2.2.2.1 f + 1)
  rw [hoc]
  refine ⟨fun e => ?_, fun e => ?_⟩
  · rw [nI_eq (by omega) (by omega)] at e
    refine k _ ?_
    have := RM_st h' hF hn hp (m' := upd (upd (upd (upd m (133 + f) (C.2.2.2.2.2.1 f + 1)) (5 + p) 4) (35 + p) (nI f)) (65 + p) (nI C.2.2.2.2.2.2.2.1)) 4 f C.2.2.2.2.2.2.2.1 (by simp only [upd_e]; rw [if_neg (by omega), if_neg (by omega), if_pos trivial]; rfl) (fun q => by omega) (fun _ => by simp [upd_e]) (fun x x1 x2 x3 => by simp only [upd_e, x1, x2, x3, if_false])
    unfold mleave
    rw [if_pos e]
    have h0 : upd (upd (upd m (133 + f) (C.2.2.2.2.2.1 f + 1)) (5 + p) 4) (35 + p) (nI f) 0 = nI C.2.2.2.2.2.2.2.1 := by
      simp only [upd_e]
      rw [if_neg (by omega), if_neg (by omega), if_neg (by omega)]
      exact h.2.2.1
    rw [h0]
    exact this
  · rw [nI_eq (by omega) (by omega)] at e
    have hj : mleave P C p f = mjoin (C.1, C.2.1, C.2.2.1, C.2.2.2.1, C.2.2.2.2.1, fu C.2.2.2.2.2.1 f (C.2.2.2.2.2.1 f + 1), C.2.2.2.2.2.2) p f := by unfold mleave; rw [if_neg e]
    exact m_joins hF hn h' g hp hf (by show C.1 p ≠ 1; rw [hs]; decide) (fun m' hm' => k m' (by rw [hj]; exact hm'))
end ROPS2

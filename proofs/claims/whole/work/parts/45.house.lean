theorem RB_eq {σ σ' : zS} {r n F T : Nat} {C : mC} (hF : F ≤ 8) (h : RB σ σ r n F T C) (e1 : ∀ a j, r ≤ a → a < r + 20 → σ'.2 a j = σ.2 a j) (e2 : ∀ j, σ'.1 r j = σ.1 r j) : RB σ' σ' r n F T C := by
  obtain ⟨h0, h1, h2, h3, h4, h5, h6, h7⟩ := h
  refine ⟨⟨fun _ _ _ => rfl, fun _ _ _ => rfl, rfl, rfl⟩, fun p hp => ?_, fun f hf => ?_, by rw [e2]; exact h3, by rw [e2]; exact h4, by rw [e2]; exact h5, by rw [e2]; exact h6, fun p hp hp2 => ?_⟩
  · rw [e1 _ _ (by omega) (by omega), e1 _ _ (by omega) (by omega), e1 _ _ (by omega) (by omega), e1 _ _ (by omega) (by omega)]
    exact h1 p hp
  · obtain ⟨g1, g2, g3, g4, g5⟩ := h2 f hf
    rw [e1 _ _ (by omega) (by omega), e1 _ _ (by omega) (by omega), e1 _ _ (by omega) (by omega), e1 _ _ (by omega) (by omega)]
    exact ⟨g1, g2, g3, fun i q hi => by rw [e1 _ _ (by omega) (by omega)]; exact g4 i q hi, g5⟩
  · rw [e1 _ _ (by omega) (by omega), e1 _ _ (by omega) (by omega)]
    exact h7 p hp hp2
theorem Inv_new {F S W V : Nat} (hH : GH F S W V) (σ' τ' : zS) (m' : Nat → Int32) (s0 : σ'.1 9 0 = nI F) (s1 : σ'.1 9 1 = nI S) (s2 : σ'.1 9 2 = nI W) (s3 : σ'.1 9 3 = nI (2 * F + 2)) (s4 : σ'.1 9 4 = nI ((2 * F + 2) * S)) (s7 : σ'.1 1 7 = 0) (sV : σ'.1 10 11 = nI V) (sk : σ'.1 10 12 = -1) (hR : RB σ' σ' 10 0 F 0 C00) (hw : ∀ b, b < 18 → σ'.2 25 b = 0) (t0 : τ'.1 0 0 = nI F) (t1 : τ'.1 0 1 = nI S) (t2 : τ'.1 0 2 = nI W) (t3 : τ'.1 0 3 = nI V) (t4 : τ'.1 0 4 = -1) (t5 : τ'.1 0 5 = 0) (hm : RM m' 0 F C00) (k55 : ∀ f, f < 8 → σ'.2 55 f = -1) (k56 : ∀ f, f < 8 → σ'.2 56 f = -1) (tl : ∀ x, x < 16 → τ'.2 10 x = -1) (k57 : σ'.1 57 2 = 0) (t16 : τ'.1 0 16 = 0) : Inv σ' (zm τ' m') := by
  have hF := hH.2.1
  have hP : GP 0 F (fun _ _ => 0) := ⟨by decide, fun p hp => absurd hp (Nat.not_lt_zero p)⟩
  refine ⟨F, S, W, V, 0, 0, fun _ _ => 0, C00, m', τ', rfl, ?_, ?_, hR, fun b hb => ?_, hm, GT_00 (by have := hH.2.2.1; omega), by show (0 : Nat) ≤ 2000; decide, ?_⟩
  · exact ⟨s0, s1, s2, s3, s4, s7, fun a _ p hp => absurd hp (Nat.not_lt_zero p), hH, hP, sV, ⟨by rw [sk]; decide, by decide⟩, by decide⟩
  · exact ⟨t0, t1, t2, t3, ⟨by rw [t4]; decide, by decide⟩, t5, fun a _ p hp => absurd hp (Nat.not_lt_zero p), hH, hP⟩
  · show σ'.2 25 b = _
    rw [hw b (by omega), wsm_00]
    rfl
  · refine ⟨fun f hf => ?_, fun x hx => Or.inl (tl x hx), fun x _ hx => tl x hx, k57, t16, by decide, fun i hi => absurd hi (Nat.not_lt_zero i)⟩
    rw [tl _ (by omega), tl _ (by omega), k55 f (by omega), k56 f (by omega)]
    exact ⟨rfl, rfl⟩
/-! the reference forgets what was told -/
theorem m_house85 {τ : zS} {m : Nat → Int32} {Q : Int32 → zS → Prop} (k : ∀ τ' : zS, τ'.1 = τ.1 → (∀ x, x < 16 → τ'.2 10 x = -1) → w_X7_boxes (zm τ' m) Q) : w_X7_house_L85 Q 17 0 (zm τ m) := by
  have key : ∀ d j (τk : zS), j + d = 16 → τk.1 = τ.1 → (∀ x, x < j → τk.2 10 x = -1) → w_X7_house_L85 Q (d + 1) (nI j) (zm τk m) := by
    intro d
    induction d with
    | zero =>
      intro j τk hj h1 h2
      have ej : j = 16 := by omega
      subst ej
      rw [w_X7_house_L85]
      exact ⟨fun _ => k τk h1 h2, fun hh => absurd (Int32.le_refl _) hh⟩
    | succ d ih =>
      intro j τk hj h1 h2
      rw [w_X7_house_L85, nI_1, zlet_def, nI_clamp (show j < 2 ^ 31 by omega)]
      refine ⟨fun hh => ?_, fun _ => ⟨vp_in_nI (by omega) (by decide), ?_⟩⟩
      · rw [show (16 : Int32) = nI 16 from rfl, nI_leI (by decide) (by omega)] at hh
        omega
      · rw [zm_B _ _ _ _ _ (by decide)]
        refine ih (j + 1) _ (by omega) h1 (fun x hx => ?_)
        rw [zA_2]
        by_cases e : x = j
        · rw [if_pos ⟨rfl, e⟩]
        · rw [if_neg (by omega)]
          exact h2 x (by omega)
  exact key 16 0 τ (by omega) rfl (fun x hx => absurd hx (Nat.not_lt_zero x))
theorem m_init132 {τ : zS} {m : Nat → Int32} {Q : Int32 → zS → Prop} (k : ∀ τ' : zS, τ'.1 = τ.1 → (∀ x, x < 16 → τ'.2 10 x = -1) → Q 0 (zm τ' m)) : w_X7_init_L132 Q 17 0 (zm τ m) := by
  have key : ∀ d j (τk : zS), j + d = 16 → τk.1 = τ.1 → (∀ x, x < j → τk.2 10 x = -1) → w_X7_init_L132 Q (d + 1) (nI j) (zm τk m) := by
    intro d
    induction d with
    | zero =>
      intro j τk hj h1 h2
      have ej : j = 16 := by omega
      subst ej
      rw [w_X7_init_L132]
      exact ⟨fun _ => k τk h1 h2, fun hh => absurd (Int32.le_refl _) hh⟩
    | succ d ih =>
      intro j τk hj h1 h2
      rw [w_X7_init_L132, nI_1, zlet_def, nI_clamp (show j < 2 ^ 31 by omega)]
      refine ⟨fun hh => ?_, fun _ => ⟨vp_in_nI (by omega) (by decide), ?_⟩⟩
      · rw [show (16 : Int32) = nI 16 from rfl, nI_leI (by decide) (by omega)] at hh
        omega
      · rw [zm_B _ _ _ _ _ (by decide)]
        refine ih (j + 1) _ (by omega) h1 (fun x hx => ?_)
        rw [zA_2]
        by_cases e : x = j
        · rw [if_pos ⟨rfl, e⟩]
        · rw [if_neg (by omega)]
          exact h2 x (by omega)
  exact key 16 0 τ (by omega) rfl (fun x hx => absurd hx (Nat.not_lt_zero x))
theorem st_house : zStep_house Inv := by
  intro σ τ hI x1 x2 x3 x4
  obtain ⟨F, S, W, V, n, K, P, C, m, τ0, rfl, hC, hM, hR, hW, hRM, hG, ht, hK⟩ := id hI
  unfold w_X6_house
  rw [s_within]
  by_cases h1 : (2 : Int32) ≤ x1 ∧ x1 ≤ 8
  case neg =>
    refine zNo h1 ?_
    show w_X7_house x1 x2 x3 x4 (zm τ0 m) _
    unfold w_X7_house
    rw [r_in]
    exact zNo h1 ⟨rfl, hI⟩
  refine zYes h1 ?_
  rw [s_within]
  by_cases h2 : (2 : Int32) ≤ x2 ∧ x2 ≤ 12
  case neg =>
    refine zNo h2 ?_
    show w_X7_house x1 x2 x3 x4 (zm τ0 m) _
    unfold w_X7_house
    rw [r_in]
    refine zYes h1 ?_
    rw [r_in]
    exact zNo h2 ⟨rfl, hI⟩
  refine zYes h2 ?_
  rw [s_within]
  by_cases h3 : (1 : Int32) ≤ x3 ∧ x3 ≤ x2
  case neg =>
    refine zNo h3 ?_
    show w_X7_house x1 x2 x3 x4 (zm τ0 m) _
    unfold w_X7_house
    rw [r_in]
    refine zYes h1 ?_
    rw [r_in]
    refine zYes h2 ?_
    rw [r_in]
    exact zNo h3 ⟨rfl, hI⟩
  refine zYes h3 ?_
  rw [s_isSpeed]
  by_cases h4 : (1 : Int32) ≤ x4 ∧ x4 ≤ 4 ∧ x4 ≤ x2
  case neg =>
    refine zNo h4 ?_
    show w_X7_house x1 x2 x3 x4 (zm τ0 m) _
    unfold w_X7_house
    rw [r_in]
    refine zYes h1 ?_
    rw [r_in]
    refine zYes h2 ?_
    rw [r_in]
    refine zYes h3 ?_
    rw [r_in]
    by_cases h5 : (1 : Int32) ≤ x4 ∧ x4 ≤ 4
    · exact zYes h5 ⟨fun hh => absurd ⟨h5.1, h5.2, hh⟩ h4, fun _ => ⟨rfl, hI⟩⟩
    · exact zNo h5 ⟨rfl, hI⟩
  refine zYes h4 ?_
  obtain ⟨F', f1, f2, rfl⟩ := zrng (a := 2) (b := 8) (by decide) (by decide) h1.1 h1.2
  obtain ⟨S', s1, s2, rfl⟩ := zrng (a := 2) (b := 12) (by decide) (by decide) h2.1 h2.2
  obtain ⟨W', w1, w2, rfl⟩ := zrng (a := 1) (b := S') (by omega) (by decide) h3.1 h3.2
  obtain ⟨V', v1, v2, rfl⟩ := zrng (a := 1) (b := 4) (by decide) (by decide) h4.1 h4.2.1
  have v3 : V' ≤ S' := by
    have := h4.2.2
    rw [nI_leI (by omega) (by omega)] at this
    exact this
  have hH : GH F' S' W' V' := ⟨f1, f2, s1, s2, w1, w2, v1, v2, v3⟩
  have eB : (2 : Int32) * nI F' + 2 = nI (2 * F' + 2) := by rw [show (2 : Int32) = nI 2 from rfl, pk_mul, nI_add]
  unfold w_X2_initG
  simp only [zlet_def]
  refine s_begin 10 _ _ (n := 0) (by decide) f2 (fun σ1 g1 g2 g3 g4 hR1 hw1 => ?_)
  unfold w_X5_forget
  refine ⟨vpk (k := 0) rfl (by decide) (by decide), s_fill _ 8 _ (by decide) (fun σ2 i2 r2 => ⟨vpk (k := 1) rfl (by decide) (by decide), s_fill _ 8 _ (by decide) (fun σ3 i3 r3 => ?_)⟩)⟩
  rw [cl0] at r2
  rw [cl1] at r3
  have hi : ∀ a j, a ≠ 10 → σ3.1 a j = (zI (zI (zI (zI (zI (zI (zS0 σ 63) 63 0 (nI F')) 63 1 (nI S')) 63 2 (nI W')) 63 3 (2 * nI F' + 2)) 63 4 ((zI (zI (zI (zI (zS0 σ 63) 63 0 (nI F')) 63 1 (nI S')) 63 2 (nI W')) 63 3 (2 * nI F' + 2)).1 63 3 * nI S')) 1 7 0).1 a j := fun a j ha => by rw [i3, i2, g2 a j ha]
  have hi10 : ∀ j, σ3.1 10 j = σ1.1 10 j := fun j => by rw [i3, i2]
  have e63 : σ3.1 63 3 = nI (2 * F' + 2) := by
    rw [hi _ _ (by decide)]
    simp only [zI_1]
    exact eB
  show w_X7_house (nI F') (nI S') (nI W') (nI V') (zm τ0 m) _
  unfold w_X7_house
  rw [r_in]
  refine zYes h1 ?_
  rw [r_in]
  refine zYes h2 ?_
  rw [r_in]
  refine zYes h3 ?_
  rw [r_in]
  refine zYes ⟨h4.1, h4.2.1⟩ ⟨fun _ => ?_, fun hh => absurd h4.2.2 hh⟩
  simp only [zlet_def]
  show w_X7_begins (zm (zI (zI (zI (zI (zI (zI τ0 0 0 (nI F')) 0 1 (nI S')) 0 2 (nI W')) 0 3 (nI V')) 0 5 0) 0 16 0) m) _
  refine m_begins (n := 0) (by decide) f2 (fun m' hm' => ⟨17, ?_⟩)
  refine m_house85 (fun τ' e1 e2 => ?_)
  rw [r_boxes, zm_1, e1]
  have t0 : (zI (zI (zI (zI (zI (zI τ0 0 0 (nI F')) 0 1 (nI S')) 0 2 (nI W')) 0 3 (nI V')) 0 5 0) 0 16 0).1 0 0 = nI F' := rfl
  rw [t0, eB]
  have z63 : ∀ j, σ3.1 63 j = (if j = 4 then nI ((2 * F' + 2) * S') else if j = 3 then nI (2 * F' + 2) else if j = 2 then nI W' else if j = 1 then nI S' else if j = 0 then nI F' else 0) := fun j => by
    rw [hi _ _ (by decide)]
    simp only [zI_1, zS0, eB, true_and, pk_mul]
    simp [pk_mul]
  refine ⟨e63, ?_⟩
  have rows : ∀ a j, a ≠ 55 → a ≠ 56 → σ3.2 a j = σ1.2 a j := fun a j h5 h6 => by rw [r3, if_neg (by omega), r2, if_neg (by omega)]
  refine Inv_new hH _ τ' m' (z63 0) (z63 1) (z63 2) (z63 3) (z63 4) ?_ ?_ ?_ ?_ ?_ (by rw [e1]; rfl) (by rw [e1]; rfl) (by rw [e1]; rfl) (by rw [e1]; rfl) ?_ (by rw [e1]; rfl) hm' (fun f hf => ?_) (fun f hf => ?_) e2 ?_ (by rw [e1]; rfl)
  · show σ3.1 1 7 = 0
    rw [hi _ _ (by decide)]
    rfl
  · show σ3.1 10 11 = _
    rw [hi10, g3]
  · show σ3.1 10 12 = _
    rw [hi10, g4]
  · refine RB_eq f2 hR1 (fun a j ha hb => ?_) (fun j => hi10 j)
    exact rows a j (by omega) (by omega)
  · intro b hb
    show σ3.2 25 b = 0
    rw [rows _ _ (by decide) (by decide)]
    exact hw1 b hb
  · rw [e1]
    show τ0.1 0 4 = -1
    rw [hM.2.2.2.2.1.1]
    decide
  · show σ3.2 55 f = -1
    rw [r3, if_neg (by omega), r2, if_pos ⟨rfl, hf⟩]
  · show σ3.2 56 f = -1
    rw [r3, if_pos ⟨rfl, hf⟩]
  · rfl

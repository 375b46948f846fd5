theorem mcs_congr {c c' : Nat → Int32} : ∀ n, (∀ p, p < n → c p = c' p) → mcs c n = mcs c' n
  | 0, _ => rfl
  | n + 1, h => by
    show mcs c n + c n = mcs c' n + c' n
    rw [mcs_congr n (fun p hp => h p (by omega)), h n (by omega)]
section DAY2
variable {σ0 σ τ : zS} {r F S W V ks n T : Nat} {P : Nat → Nat → Nat} {C : mC} {m : Nat → Int32} {Q : Int32 → zS → Prop}
theorem s_areAllDone (hC : HC σ0 r F S W V ks n P) (h : RB σ0 σ r n F T C) (g : GC n F C) (k1 : (∀ p, p < n → stC T C p = 4) → Q 1 σ) (k0 : Q 0 σ) : w_X0_areAllDone r σ Q := by
  obtain ⟨a1, a2, a3, a4, a5, a6, a7, a8, a9, b1, b2, b3⟩ := HC_fr hC h.1
  have hn := a9.1
  refine ⟨n + 1, ?_⟩
  have key : ∀ d j, j + d = n → (∀ p, p < j → stC T C p = 4) → w_X0_areAllDone_L2 r Q (d + 1) (nI j) σ := by
    intro d
    induction d with
    | zero =>
      intro j hj hd
      have ej : j = n := by omega
      subst ej
      rw [w_X0_areAllDone_L2, a6]
      exact ⟨fun _ => ⟨Or.inr rfl, k1 hd⟩, fun hh => absurd (Int32.le_refl _) hh⟩
    | succ d ih =>
      intro j hj hd
      rw [w_X0_areAllDone_L2, a6, nI_1, nI_clamp (show j < 2 ^ 31 by omega), (h.2.1 j (by omega)).1]
      refine ⟨fun hh => ?_, fun _ => ⟨vp_in_nI (by omega) (by decide), fun hh => ?_, fun _ => ⟨Or.inl rfl, k0⟩⟩⟩
      · rw [nI_leI (by omega) (by omega)] at hh
        omega
      · refine ih (j + 1) (by omega) (fun p hp => ?_)
        by_cases e : p = j
        · subst e
          have hj2 : p < n := by omega
          have hle := stC_le (T := T) g hj2
          rw [show (4 : Int32) = nI 4 from rfl, nI_eq (show stC T C p < 2 ^ 31 by omega) (by decide)] at hh
          exact hh
        · exact hd p (by omega)
  exact key n 0 (by omega) (fun p hp => absurd hp (Nat.not_lt_zero p))
theorem s_costTogether (hC : HC σ0 r F S W V ks n P) (h : RB σ0 σ r n F T C) (g : GC n F C) (k : Q (mcs (mcost P T C) n) σ) : w_X0_costTogether r σ Q := by
  obtain ⟨a1, a2, a3, a4, a5, a6, a7, a8, a9, b1, b2, b3⟩ := HC_fr hC h.1
  have hn := a9.1
  refine ⟨n + 1, ?_⟩
  have key : ∀ d j, j + d = n → w_X0_costTogether_L4 r Q (d + 1) (mcs (mcost P T C) j) (nI j) σ := by
    intro d
    induction d with
    | zero =>
      intro j hj
      have ej : j = n := by omega
      subst ej
      rw [w_X0_costTogether_L4, a6]
      exact ⟨fun _ => k, fun hh => absurd (Int32.le_refl _) hh⟩
    | succ d ih =>
      intro j hj
      rw [w_X0_costTogether_L4, a6, nI_1, s_costOf hC h g (by omega)]
      refine ⟨fun hh => ?_, fun _ => ih (j + 1) (by omega)⟩
      rw [nI_leI (by omega) (by omega)] at hh
      omega
  exact key n 0 (by omega)
theorem s_playDay {V' ks' : Nat} {r0 : Nat} (hC : HC σ r0 F S W V' ks' n P) (hH : GH F S W V) (hks : ks ≤ 8) {x2 x3 : Int32} (e2 : x2 = nI V) (e3 : x3 = nI ks - 1) (k : ∀ (σ' : zS) (C' : mC), (∀ a j, a < 30 ∨ 50 ≤ a → σ'.2 a j = σ.2 a j) → (∀ a j, a ≠ 30 → σ'.1 a j = σ.1 a j) → HC σ' 30 F S W V ks n P → RB σ' σ' 30 n F C'.2.2.2.2.2.2.2.1 C' → GC n F C' → DD P n C' (mday P F S W V ks n) → Q (mcs (mdc P (mday P F S W V ks n)) n) σ') : w_X0_playDay x2 x3 σ Q := by
  obtain ⟨a1, a2, a3, a4, a5, a6, a7, a8, a9, b1, b2, b3⟩ := id hC
  have hn := a9.1
  have hS : 0 < S := by have := hH.2.2.1; omega
  have hF : F ≤ 8 := hH.2.1
  unfold w_X0_playDay
  refine s_begin 30 _ _ hn hF (fun σ1 f1 f2 f3 f4 hR1 hw1 => ⟨1001, ?_⟩)
  have hC1 : HC σ1 30 F S W V ks n P := ⟨by rw [f2 _ _ (by decide)]; exact a1, by rw [f2 _ _ (by decide)]; exact a2, by rw [f2 _ _ (by decide)]; exact a3, by rw [f2 _ _ (by decide)]; exact a4, by rw [f2 _ _ (by decide)]; exact a5, by rw [f2 _ _ (by decide)]; exact a6, fun a ha p hp => by rw [f1 _ _ (by omega)]; exact a7 a ha p hp, hH, a9, by rw [f3]; exact e2, ⟨by rw [f4]; exact e3, hks⟩, by decide⟩
  have gt : ∀ j, j ≤ 1000 → GT P F S n (mticks P F S W V ks n j C00) := fun j hj => GT_ticks hH a9 (GT_00 hS) j (by show 0 + j < 90000; omega)
  have fin : ∀ j (σk : zS), j ≤ 1000 → RB σ1 σk 30 n F (mticks P F S W V ks n j C00).2.2.2.2.2.2.2.1 (mticks P F S W V ks n j C00) → DD P n (mticks P F S W V ks n j C00) (mday P F S W V ks n) → w_X0_playDay_J35 Q σk := fun j σk hj hR hD => by
    unfold w_X0_playDay_J35
    refine s_costTogether hC1 hR (gt j hj).1 ?_
    rw [mcs_congr (c' := mdc P (mday P F S W V ks n)) n (fun p hp => (hD.1 p hp).1)]
    refine k σk _ (fun a i ha => ?_) (fun a i ha => ?_) (HC_fr hC1 hR.1) (RB_self hR) (gt j hj).1 hD
    · rw [hR.1.1 a i (by omega), f1 a i (by omega)]
    · rw [hR.1.2.1 a i ha, f2 a i ha]
  have key : ∀ d j (σk : zS), j + d = 1000 → RB σ1 σk 30 n F (mticks P F S W V ks n j C00).2.2.2.2.2.2.2.1 (mticks P F S W V ks n j C00) → WB σk 30 n F P (mticks P F S W V ks n j C00) → w_X0_playDay_L10 Q (d + 1) (nI j) σk := by
    intro d
    induction d with
    | zero =>
      intro j σk hj hR hW
      have ej : j = 1000 := by omega
      subst ej
      rw [w_X0_playDay_L10]
      exact ⟨fun _ => fin 1000 σk (Nat.le_refl _) hR ⟨fun _ _ => ⟨rfl, rfl, rfl⟩, rfl⟩, fun hh => absurd (Int32.le_refl _) hh⟩
    | succ d ih =>
      intro j σk hj hR hW
      rw [w_X0_playDay_L10, nI_1]
      refine ⟨fun hh => ?_, fun _ => ?_⟩
      · rw [show (1000 : Int32) = nI 1000 from rfl, nI_leI (by decide) (by omega)] at hh
        omega
      · refine s_areAllDone hC1 hR (gt j (by omega)).1 (fun hd => ⟨fun hh => absurd hh (by decide), fun _ => ?_⟩) ⟨fun _ => ?_, fun hh => absurd rfl hh⟩
        · exact fin j σk (by omega) hR (mad_day hH a9 (by omega) hd)
        · have ht : (mticks P F S W V ks n j C00).2.2.2.2.2.2.2.1 = 0 + j := mticks_tk j
          refine s_tick hC1 hR hW (gt j (by omega)) (by omega) (fun σ' h1 h2 => ih (j + 1) σ' (by omega) ?_ h2)
          have ek : (mticks P F S W V ks n (j + 1) C00).2.2.2.2.2.2.2.1 = (mticks P F S W V ks n j C00).2.2.2.2.2.2.2.1 + 1 := mtick_tk
          rw [ek]
          exact h1
  refine key 1000 0 σ1 (by omega) hR1 (fun b hb => ?_)
  show σ1.2 (30 + 15) b = _
  rw [hw1 b (by omega)]
  show _ = nI (wsm P C00 b n)
  rw [wsm_00]
  rfl
/-! the reference -/
theorem RM_eq {m m' : Nat → Int32} (hn : n ≤ 30) (hF : F ≤ 8) (h : RM m n F C) (g : GC n F C) (e : ∀ j, j < 389 → m' j = m j) : RM m' n F C := by
  obtain ⟨h1, h2, h3, h4, h5, h6, h7, h8⟩ := h
  refine ⟨fun p hp => ?_, fun f hf => ?_, by rw [e _ (by decide)]; exact h3, by rw [e _ (by decide)]; exact h4, by rw [e _ (by decide)]; exact h5, by rw [e _ (by decide)]; exact h6, by rw [e _ (by decide)]; exact h7, fun p hp hp2 => ?_⟩
  · rw [e _ (by omega), e _ (by omega), e _ (by omega), e _ (by omega)]
    exact h1 p hp
  · obtain ⟨g1, g2, g3, g4⟩ := h2 f hf
    rw [e _ (by omega), e _ (by omega), e _ (by omega)]
    refine ⟨g1, g2, g3, fun i q hi => ?_⟩
    have hl := GC_len g hf
    have := (List.getElem?_eq_some_iff.mp hi).1
    rw [e _ (by omega)]
    exact g4 i q hi
  · rw [e _ (by omega), e _ (by omega)]
    exact h8 p hp hp2
theorem m_returns (k : ∀ m', (∀ j, j < 389 → m' j = τ.2 9 j) → Q 0 (zm τ m')) : w_X7_returns (zm τ m) Q := by
  refine ⟨390, ?_⟩
  have key : ∀ d j (mk : Nat → Int32), j + d = 389 → (∀ i, i < j → mk i = τ.2 9 i) → w_X7_returns_L2 Q (d + 1) (nI j) (zm τ mk) := by
    intro d
    induction d with
    | zero =>
      intro j mk hj h
      have ej : j = 389 := by omega
      subst ej
      rw [w_X7_returns_L2]
      exact ⟨fun _ => k mk h, fun hh => absurd (Int32.le_refl _) hh⟩
    | succ d ih =>
      intro j mk hj h
      rw [w_X7_returns_L2, nI_1, zlet_def, nI_clamp (show j < 2 ^ 31 by omega), zm_A, zm_n _ _ (by decide)]
      refine ⟨fun hh => ?_, fun _ => ⟨vp_in_nI (by omega) (by decide), vp_in_nI (by omega) (by decide), ih (j + 1) _ (by omega) (fun i hi => ?_)⟩⟩
      · rw [show (389 : Int32) = nI 389 from rfl, nI_leI (by decide) (by omega)] at hh
        omega
      · by_cases e : i = j
        · subst e
          rw [upd_e, if_pos rfl]
        · rw [upd_e, if_neg e]
          exact h i (by omega)
  exact key 389 0 m (by omega) (fun i hi => absurd hi (Nat.not_lt_zero i))
theorem m_dayBy (hM : HM τ F S W V 0 n P) {V' ks' : Nat} (hH : GH F S W V') (hks : ks' ≤ 8) {x1 x2 : Int32} (e1 : x1 = nI V') (e2 : x2 = nI ks' - 1) (k : ∀ (τ' : zS) (m' : Nat → Int32), τ'.1 = τ.1 → (∀ a, a ≠ 9 → τ'.2 a = τ.2 a) → (∀ j, j < 389 → τ'.2 9 j = m j) → HM τ' F S W V 0 n P → RM m' n F (mday P F S W V' ks' n) → GC n F (mday P F S W V' ks' n) → Q (mcs (mdc P (mday P F S W V' ks' n)) n) (zm τ' m')) : w_X7_dayBy x1 x2 (zm τ m) Q := by
  obtain ⟨h1, h2, h3, h4, h5, h6, h7, h8, h9⟩ := id hM
  have hn := h9.1
  have hS : 0 < S := by have := hH.2.2.1; omega
  have hF : F ≤ 8 := hH.2.1
  have gt : ∀ j, j ≤ 1000 → GT P F S n (mticks P F S W V' ks' n j C00) := fun j hj => GT_ticks hH h9 (GT_00 hS) j (by show 0 + j < 90000; omega)
  have hmv : ∀ τ' : zS, τ'.1 = τ.1 → (∀ a, a ≠ 9 → τ'.2 a = τ.2 a) → HM τ' F S W V 0 n P := fun τ' t1 t2 => by
    unfold HM
    rw [t1]
    exact ⟨h1, h2, h3, h4, h5, h6, fun a ha p hp => by rw [t2 _ (by omega)]; exact h7 a ha p hp, h8, h9⟩
  have l83 : ∀ (τ' : zS) (m' : Nat → Int32), τ'.1 = τ.1 → (∀ a, a ≠ 9 → τ'.2 a = τ.2 a) → (∀ j, j < 389 → τ'.2 9 j = m j) → RM m' n F (mday P F S W V' ks' n) → ∃ m83, w_X7_dayBy_L83 Q m83 0 0 (zm τ' m') := fun τ' m' t1 t2 t3 hR => by
    have hM' := hmv τ' t1 t2
    have g := (gt 1000 (Nat.le_refl _)).1
    refine ⟨n + 1, ?_⟩
    have key : ∀ d j, j + d = n → w_X7_dayBy_L83 Q (d + 1) (mcs (mdc P (mday P F S W V' ks' n)) j) (nI j) (zm τ' m') := by
      intro d
      induction d with
      | zero =>
        intro j hj
        have ej : j = n := by omega
        subst ej
        rw [w_X7_dayBy_L83, zm_1, t1, h6]
        exact ⟨fun _ => k τ' m' t1 t2 t3 hM' hR g, fun hh => absurd (Int32.le_refl _) hh⟩
      | succ d ih =>
        intro j hj
        rw [w_X7_dayBy_L83, zm_1, t1, h6, nI_1, mr_costOf hM' hR g (by omega)]
        refine ⟨fun hh => ?_, fun _ => ih (j + 1) (by omega)⟩
        rw [nI_leI (by omega) (by omega)] at hh
        omega
    exact key n 0 (by omega)
  have l49 : ∀ (τ1 : zS) (m1 : Nat → Int32), τ1.1 = τ.1 → (∀ a, a ≠ 9 → τ1.2 a = τ.2 a) → (∀ j, j < 389 → τ1.2 9 j = m j) → RM m1 n F C00 → ∃ m49, w_X7_dayBy_L49 Q m49 (nI V) 0 (zm (zI (zI τ1 0 3 x1) 0 4 x2) m1) := fun τ1 m1 t1 t2 t3 hR => by
    have hM' : HM (zI (zI τ1 0 3 x1) 0 4 x2) F S W V' ks' n P := by
      refine ⟨?_, ?_, ?_, ?_, ⟨?_, hks⟩, ?_, fun a ha p hp => ?_, hH, h9⟩
      · show τ1.1 0 0 = _
        rw [t1]; exact h1
      · show τ1.1 0 1 = _
        rw [t1]; exact h2
      · show τ1.1 0 2 = _
        rw [t1]; exact h3
      · exact e1
      · exact e2
      · show τ1.1 0 5 = _
        rw [t1]; exact h6
      · show τ1.2 (1 + a) p = _
        rw [t2 _ (by omega)]; exact h7 a ha p hp
    refine ⟨1001, ?_⟩
    have key : ∀ d j (mk : Nat → Int32), j + d = 1000 → RM mk n F (mticks P F S W V' ks' n j C00) → w_X7_dayBy_L49 Q (d + 1) (nI V) (nI j) (zm (zI (zI τ1 0 3 x1) 0 4 x2) mk) := by
      intro d
      induction d with
      | zero =>
        intro j mk hj hRk
        have ej : j = 1000 := by omega
        subst ej
        rw [w_X7_dayBy_L49]
        refine ⟨fun _ => ?_, fun hh => absurd (Int32.le_refl _) hh⟩
        rw [zlet_def, zlet_def]
        refine l83 (zI (zI (zI (zI τ1 0 3 x1) 0 4 x2) 0 3 (nI V)) 0 4 (-1)) mk ?_ t2 t3 hRk
        funext a j
        simp only [zI_1]
        by_cases c4 : a = 0 ∧ j = 4
        · rw [if_pos c4, c4.1, c4.2, h5.1]
          decide
        · rw [if_neg c4]
          by_cases c3 : a = 0 ∧ j = 3
          · rw [if_pos c3, c3.1, c3.2, h4]
          · rw [if_neg c3, if_neg c4, if_neg c3, t1]
      | succ d ih =>
        intro j mk hj hRk
        have ht : (mticks P F S W V' ks' n j C00).2.2.2.2.2.2.2.1 = 0 + j := mticks_tk j
        rw [w_X7_dayBy_L49, nI_1]
        refine ⟨fun hh => ?_, fun _ => m_passes hM' hRk (gt j (by omega)) (by omega) (fun m' hm' => ih (j + 1) m' (by omega) hm')⟩
        rw [show (1000 : Int32) = nI 1000 from rfl, nI_leI (by decide) (by omega)] at hh
        omega
    exact key 1000 0 m1 (by omega) hR
  refine ⟨390, ?_⟩
  have key : ∀ d j (τk : zS), j + d = 389 → τk.1 = τ.1 → (∀ a, a ≠ 9 → τk.2 a = τ.2 a) → (∀ i, i < j → τk.2 9 i = m i) → w_X7_dayBy_L2 Q (d + 1) x1 x2 (nI j) (zm τk m) := by
    intro d
    induction d with
    | zero =>
      intro j τk hj t1 t2 t3
      have ej : j = 389 := by omega
      subst ej
      rw [w_X7_dayBy_L2]
      refine ⟨fun _ => ?_, fun hh => absurd (Int32.le_refl _) hh⟩
      refine m_begins hn hF (fun m' hm' => ?_)
      rw [zlet_def, zlet_def, zm_1, t1, h4]
      exact l49 τk m' t1 t2 t3 hm'
    | succ d ih =>
      intro j τk hj t1 t2 t3
      rw [w_X7_dayBy_L2, nI_1, zlet_def, nI_clamp (show j < 2 ^ 31 by omega), zm_8, zm_B _ _ _ _ _ (by decide)]
      refine ⟨fun hh => ?_, fun _ => ⟨vp_in_nI (by omega) (by decide), vp_in_nI (by omega) (by decide), ih (j + 1) _ (by omega) t1 (fun a ha => ?_) (fun i hi => ?_)⟩⟩
      · rw [show (389 : Int32) = nI 389 from rfl, nI_leI (by decide) (by omega)] at hh
        omega
      · funext i
        rw [zA_2, if_neg (by omega), t2 a ha]
      · rw [zA_2]
        by_cases e : i = j
        · rw [if_pos ⟨rfl, e⟩, e]
        · rw [if_neg (by omega)]
          exact t3 i (by omega)
  exact key 389 0 τ (by omega) rfl (fun _ _ => rfl) (fun i hi => absurd hi (Nat.not_lt_zero i))
end DAY2
/-- after a day both stand as before -/
theorem Inv_day {σ τ0 σ' τ' : zS} {F S W V n K : Nat} {P : Nat → Nat → Nat} {C : mC} {m m' : Nat → Int32} (hC : HC σ 10 F S W V 0 n P) (hM : HM τ0 F S W V 0 n P) (hR : RB σ σ 10 n F C.2.2.2.2.2.2.2.1 C) (hW : WB σ 10 n F P C) (hRM : RM m n F C) (hG : GT P F S n C) (ht : C.2.2.2.2.2.2.2.1 ≤ 2000) (hK : IK σ' τ' F n K) (f1 : ∀ a j, a < 30 → σ'.2 a j = σ.2 a j) (f2 : ∀ a j, a < 30 → σ'.1 a j = σ.1 a j) (t1 : ∀ j, j < 16 → τ'.1 0 j = τ0.1 0 j) (t2 : ∀ a, a < 8 → τ'.2 a = τ0.2 a) (e : ∀ j, j < 389 → m' j = m j) : Inv σ' (zm τ' m') := by
  obtain ⟨a1, a2, a3, a4, a5, a6, a7, a8, a9, b1, b2, b3⟩ := hC
  obtain ⟨h1, h2, h3, h4, h5, h6, h7, h8, h9⟩ := hM
  refine ⟨F, S, W, V, n, K, P, C, m', τ', rfl, ?_, ?_, RB_eq a8.2.1 hR (fun a j _ hb => f1 a j (by omega)) (fun j => f2 _ j (by decide)), fun b hb => ?_, RM_eq a9.1 a8.2.1 hRM hG.1 e, hG, ht, hK⟩
  · exact ⟨by rw [f2 _ _ (by decide)]; exact a1, by rw [f2 _ _ (by decide)]; exact a2, by rw [f2 _ _ (by decide)]; exact a3, by rw [f2 _ _ (by decide)]; exact a4, by rw [f2 _ _ (by decide)]; exact a5, by rw [f2 _ _ (by decide)]; exact a6, fun a ha p hp => by rw [f1 _ _ (by omega)]; exact a7 a ha p hp, a8, a9, by rw [f2 _ _ (by decide)]; exact b1, ⟨by rw [f2 _ _ (by decide)]; exact b2.1, b2.2⟩, b3⟩
  · exact ⟨by rw [t1 _ (by decide)]; exact h1, by rw [t1 _ (by decide)]; exact h2, by rw [t1 _ (by decide)]; exact h3, by rw [t1 _ (by decide)]; exact h4, ⟨by rw [t1 _ (by decide)]; exact h5.1, h5.2⟩, by rw [t1 _ (by decide)]; exact h6, fun a ha p hp => by rw [t2 _ (by omega)]; exact h7 a ha p hp, h8, h9⟩
  · rw [f1 _ _ (by decide)]
    exact hW b hb

/-! person -/
def addP (P : Nat → Nat → Nat) (n : Nat) (v : Nat → Nat) : Nat → Nat → Nat := fun a p => if p = n then v a else P a p
def addC (C : mC) (n : Nat) : mC := (fu C.1 n 0, C.2.1, C.2.2.1, C.2.2.2.1, C.2.2.2.2.1, C.2.2.2.2.2.1, fu C.2.2.2.2.2.2.1 n 0, C.2.2.2.2.2.2.2)
theorem wsm_congr {P P' : Nat → Nat → Nat} {C C' : mC} {b : Nat} : ∀ n, (∀ q, q < n → P' 3 q = P 3 q ∧ C'.1 q = C.1 q ∧ C'.2.1 q = C.2.1 q) → wsm P' C' b n = wsm P C b n
  | 0, _ => rfl
  | n + 1, h => by
    unfold wsm
    obtain ⟨h1, h2, h3⟩ := h n (by omega)
    rw [wsm_congr n (fun q hq => h q (by omega)), h1, h2, h3]
theorem IK_mono {σ τ : zS} {F n n' K : Nat} (h : IK σ τ F n K) (hn : n ≤ n') : IK σ τ F n' K := by
  obtain ⟨h1, h2, h3, h4, h5, h6, h7⟩ := h
  refine ⟨h1, h2, h3, h4, h5, h6, fun i hi => ?_⟩
  obtain ⟨N, n1, n2⟩ := h7 i hi
  exact ⟨N, by omega, n2⟩
theorem stC_add {T n p : Nat} {C : mC} (hp : p ≠ n) : stC T (addC C n) p = stC T C p := by
  unfold stC addC
  simp [fu, hp]
theorem addP_inv {σ τ0 : zS} {F S W V n K : Nat} {P : Nat → Nat → Nat} {C : mC} {m : Nat → Int32} (hC : HC σ 10 F S W V 0 n P) (hM : HM τ0 F S W V 0 n P) (hR : RB σ σ 10 n F C.2.2.2.2.2.2.2.1 C) (hW : WB σ 10 n F P C) (hRM : RM m n F C) (hG : GT P F S n C) (ht : C.2.2.2.2.2.2.2.1 ≤ 2000) (hK : IK σ τ0 F n K) (hn : n < 30) (v : Nat → Nat) (g1 : v 0 ≤ 900) (g2 : v 1 < F) (g3 : v 2 < F) (g4 : v 1 ≠ v 2) (g5 : 1 ≤ v 3 ∧ v 3 ≤ 2) (g6 : 1 ≤ v 4 ∧ v 4 ≤ 6) (g7 : v 5 ≤ 1) (g8 : v 6 ≤ 7) (g9 : C.2.2.2.2.2.2.2.1 ≤ v 0)
    (σ' τ' : zS) (s1 : ∀ a, a < 7 → ∀ p, σ'.2 (2 + a) p = if p = n then nI (v a) else σ.2 (2 + a) p) (s2 : ∀ k j, 9 ≤ k → σ'.2 k j = σ.2 k j) (s3 : ∀ k j, ¬ (k = 1 ∧ j = 7) → σ'.1 k j = σ.1 k j) (s4 : σ'.1 1 7 = nI (n + 1))
    (t1 : ∀ a, a < 7 → ∀ p, τ'.2 (1 + a) p = if p = n then nI (v a) else τ0.2 (1 + a) p) (t2 : ∀ k, 10 ≤ k → τ'.2 k = τ0.2 k) (t3 : ∀ k j, ¬ (k = 0 ∧ j = 5) → τ'.1 k j = τ0.1 k j) (t4 : τ'.1 0 5 = nI (n + 1)) : Inv σ' (zm τ' m) := by
  obtain ⟨a1, a2, a3, a4, a5, a6, a7, a8, a9, b1, b2, b3⟩ := id hC
  obtain ⟨m1, m2, m3, m4, m5, m6, m7, m8, m9⟩ := id hM
  have hF := a8.2.1
  have hP : GP (n + 1) F (addP P n v) := by
    refine ⟨by omega, fun p hp => ?_⟩
    unfold addP
    by_cases e : p = n
    · simp only [e, if_true]
      exact ⟨g1, g2, g3, g4, g5.1, g5.2, g6.1, g6.2, g7, g8⟩
    · simp only [e, if_false]
      exact a9.2 p (by omega)
  refine ⟨F, S, W, V, n + 1, K, addP P n v, addC C n, m, τ', rfl, ?_, ?_, ?_, ?_, ?_, ?_, ht, ?_⟩
  · refine ⟨by rw [s3 _ _ (by omega)]; exact a1, by rw [s3 _ _ (by omega)]; exact a2, by rw [s3 _ _ (by omega)]; exact a3, by rw [s3 _ _ (by omega)]; exact a4, by rw [s3 _ _ (by omega)]; exact a5, s4, fun a ha p hp => ?_, a8, hP, by rw [s3 _ _ (by omega)]; exact b1, by rw [s3 _ _ (by omega)]; exact b2, b3⟩
    rw [s1 a ha p]
    unfold addP
    by_cases e : p = n
    · simp [e]
    · simp only [e, if_false]
      exact a7 a ha p (by omega)
  · refine ⟨by rw [t3 _ _ (by omega)]; exact m1, by rw [t3 _ _ (by omega)]; exact m2, by rw [t3 _ _ (by omega)]; exact m3, by rw [t3 _ _ (by omega)]; exact m4, by rw [t3 _ _ (by omega)]; exact m5, t4, fun a ha p hp => ?_, a8, hP⟩
    rw [t1 a ha p]
    unfold addP
    by_cases e : p = n
    · simp [e]
    · simp only [e, if_false]
      exact m7 a ha p (by omega)
  · obtain ⟨e0, e1, e2, e3, e4, e5, e6, e7⟩ := hR
    refine ⟨⟨fun _ _ _ => rfl, fun _ _ _ => rfl, rfl, rfl⟩, fun p hp => ?_, fun f hf => ?_, by rw [s3 _ _ (by omega)]; exact e3, by rw [s3 _ _ (by omega)]; exact e4, by rw [s3 _ _ (by omega)]; exact e5, by rw [s3 _ _ (by omega)]; exact e6, fun p hp hp2 => ?_⟩
    · rw [s2 _ _ (by omega), s2 _ _ (by omega), s2 _ _ (by omega), s2 _ _ (by omega)]
      show _ = nI (stC C.2.2.2.2.2.2.2.1 (addC C n) p) ∧ ((fu C.1 n 0 p = 1 ∨ fu C.1 n 0 p = 2) → _ = nI (C.2.1 p)) ∧ ((fu C.1 n 0 p = 3 ∨ fu C.1 n 0 p = 4) → _ = nI (C.2.2.1 p)) ∧ _ = fu C.2.2.2.2.2.2.1 n 0 p
      by_cases e : p = n
      · subst e
        have h9 := e7 p (Nat.le_refl p) hn
        simp only [fu, if_true]
        refine ⟨?_, fun hh => by omega, fun hh => by omega, h9.2⟩
        rw [h9.1]
        unfold stC addC
        simp [fu]
        rfl
      · rw [stC_add e]
        simp only [fu, e, if_false]
        exact e1 p (by omega)
    · obtain ⟨f1, f2, f3, f4, f5⟩ := e2 f hf
      rw [s2 _ _ (by omega), s2 _ _ (by omega), s2 _ _ (by omega), s2 _ _ (by omega)]
      exact ⟨f1, f2, f3, fun i q hi => by rw [s2 _ _ (by omega)]; exact f4 i q hi, f5⟩
    · rw [s2 _ _ (by omega), s2 _ _ (by omega)]
      exact e7 p (by omega) hp2
  · intro b hb
    rw [s2 _ _ (by omega), hW b hb]
    have e9 : wsm (addP P n v) (addC C n) b (n + 1) = wsm P C b n := by
      show wsm (addP P n v) (addC C n) b n + (if (addC C n).1 n = 2 ∧ (addC C n).2.1 n = b then addP P n v 3 n else 0) = _
      have h8 : ¬ ((addC C n).1 n = 2 ∧ (addC C n).2.1 n = b) := fun hh => by
        have : (addC C n).1 n = 0 := fu_s _ _ _
        omega
      rw [if_neg h8, Nat.add_zero]
      refine wsm_congr (P := P) (C := C) (P' := addP P n v) (C' := addC C n) n (fun q hq => ⟨?_, fu_n C.1 0 (show q ≠ n by omega), rfl⟩)
      unfold addP
      rw [if_neg (by omega)]
    rw [e9]
  · obtain ⟨h1, h2, h3, h4, h5, h6, h7, h8⟩ := hRM
    refine ⟨fun p hp => ?_, h2, h3, h4, h5, h6, h7, fun p hp hp2 => h8 p (by omega) hp2⟩
    show _ = nI (fu C.1 n 0 p) ∧ ((fu C.1 n 0 p = 1 ∨ fu C.1 n 0 p = 2) → _ = nI (C.2.1 p)) ∧ ((fu C.1 n 0 p = 3 ∨ fu C.1 n 0 p = 4) → _ = nI (C.2.2.1 p)) ∧ _ = fu C.2.2.2.2.2.2.1 n 0 p
    by_cases e : p = n
    · subst e
      have h9 := h8 p (Nat.le_refl p) hn
      simp only [fu, if_true]
      exact ⟨h9.1, fun hh => by omega, fun hh => by omega, h9.2⟩
    · simp only [fu, e, if_false]
      exact h1 p (by omega)
  · obtain ⟨⟨k1, k2, k3⟩, k4, k5, k6⟩ := hG
    refine ⟨⟨fun p hp => ?_, fun f hf => ?_, k3⟩, fun p hp hh => ?_, fun p hp hh => ?_, k6⟩
    · show fu C.1 n 0 p ≤ 4 ∧ (fu C.1 n 0 p = 1 → C.2.1 p < F) ∧ (fu C.1 n 0 p = 2 → C.2.1 p < 2 * F + 2) ∧ ((fu C.1 n 0 p = 3 ∨ fu C.1 n 0 p = 4) → C.2.2.1 p < 100000)
      by_cases e : p = n
      · simp [fu, e]
      · simp only [fu, e, if_false]
        exact k1 p (by omega)
    · refine ⟨(k2 f hf).1, fun q hq => ?_⟩
      obtain ⟨y1, y2, y3⟩ := (k2 f hf).2 q hq
      refine ⟨by omega, ?_, y3⟩
      show fu C.1 n 0 q = 1
      rw [fu_n _ _ (by omega)]
      exact y2
    · show fu C.1 n 0 p = 0
      by_cases e : p = n
      · rw [e, fu_s]
      · rw [fu_n _ _ e]
        refine k4 p (by omega) ?_
        have h9 : C.2.2.2.2.2.2.2.1 ≤ addP P n v 0 p := hh
        unfold addP at h9
        rw [if_neg e] at h9
        exact h9
    · show C.2.2.2.2.2.2.2.1 ≤ addP P n v 0 p
      unfold addP
      by_cases e : p = n
      · rw [if_pos e]
        exact g9
      · rw [if_neg e]
        have h9 : fu C.1 n 0 p = 0 := hh
        rw [fu_n _ _ e] at h9
        exact k5 p (by omega) h9
  · exact IK_mono (IK_eq hK (fun k j hk => s2 k j (by omega)) (s3 _ _ (by omega)) (t3 _ _ (by omega)) t2) (by omega)
theorem st_person : zStep_person Inv := by
  intro σ τ hI x1 x2 x3 x4 x5 x6 x7
  obtain ⟨F, S, W, V, n, K, P, C, m, τ0, rfl, hC, hM, hR, hW, hRM, hG, ht, hK⟩ := id hI
  obtain ⟨a1, a2, a3, a4, a5, a6, a7, a8, a9, b1, b2, b3⟩ := id hC
  have hF := a8.2.1
  have hn := a9.1
  unfold w_X6_person
  rw [s_within]
  show _ ∧ _
  have r7 : ∀ Q, w_X7_person x1 x2 x3 x4 x5 x6 x7 (zm τ0 m) Q → w_X7_person x1 x2 x3 x4 x5 x6 x7 (zm τ0 m) Q := fun _ h => h
  by_cases h1 : (0 : Int32) ≤ x1 ∧ x1 ≤ 900
  case neg =>
    refine zNo h1 ?_
    show w_X7_person x1 x2 x3 x4 x5 x6 x7 (zm τ0 m) _
    unfold w_X7_person
    rw [r_in]
    exact zNo h1 ⟨rfl, hI⟩
  refine zYes h1 ?_
  rw [s_isFloor, a1]
  by_cases h2 : (0 : Int32) ≤ x2 ∧ x2 ≤ nI F - 1
  case neg =>
    refine zNo h2 ?_
    show w_X7_person x1 x2 x3 x4 x5 x6 x7 (zm τ0 m) _
    unfold w_X7_person
    rw [r_in]
    refine zYes h1 ?_
    rw [r_isFloor, zm_1, hM.1]
    exact zNo h2 ⟨rfl, hI⟩
  refine zYes h2 ?_
  rw [s_isFloor, a1]
  by_cases h3 : (0 : Int32) ≤ x3 ∧ x3 ≤ nI F - 1
  case neg =>
    refine zNo h3 ?_
    show w_X7_person x1 x2 x3 x4 x5 x6 x7 (zm τ0 m) _
    unfold w_X7_person
    rw [r_in]
    refine zYes h1 ?_
    rw [r_isFloor, zm_1, hM.1]
    refine zYes h2 ?_
    rw [r_isFloor, zm_1, hM.1]
    exact zNo h3 ⟨rfl, hI⟩
  refine zYes h3 ?_
  refine ⟨fun h4 => ?_, fun h4 => ?_⟩
  · show w_X7_person x1 x2 x3 x4 x5 x6 x7 (zm τ0 m) _
    unfold w_X7_person
    rw [r_in]
    refine zYes h1 ?_
    rw [r_isFloor, zm_1, hM.1]
    refine zYes h2 ?_
    rw [r_isFloor, zm_1, hM.1]
    exact zYes h3 ⟨fun _ => ⟨rfl, hI⟩, fun hh => absurd h4 hh⟩
  rw [s_within]
  by_cases h5 : (1 : Int32) ≤ x4 ∧ x4 ≤ 2
  case neg =>
    refine zNo h5 ?_
    show w_X7_person x1 x2 x3 x4 x5 x6 x7 (zm τ0 m) _
    unfold w_X7_person
    rw [r_in]
    refine zYes h1 ?_
    rw [r_isFloor, zm_1, hM.1]
    refine zYes h2 ?_
    rw [r_isFloor, zm_1, hM.1]
    refine zYes h3 ⟨fun hh => absurd hh h4, fun _ => ?_⟩
    rw [r_in]
    exact zNo h5 ⟨rfl, hI⟩
  refine zYes h5 ?_
  rw [s_within]
  by_cases h6 : (1 : Int32) ≤ x5 ∧ x5 ≤ 6
  case neg =>
    refine zNo h6 ?_
    show w_X7_person x1 x2 x3 x4 x5 x6 x7 (zm τ0 m) _
    unfold w_X7_person
    rw [r_in]
    refine zYes h1 ?_
    rw [r_isFloor, zm_1, hM.1]
    refine zYes h2 ?_
    rw [r_isFloor, zm_1, hM.1]
    refine zYes h3 ⟨fun hh => absurd hh h4, fun _ => ?_⟩
    rw [r_in]
    refine zYes h5 ?_
    rw [r_in]
    exact zNo h6 ⟨rfl, hI⟩
  refine zYes h6 ?_
  rw [s_within]
  by_cases h7 : (0 : Int32) ≤ x6 ∧ x6 ≤ 1
  case neg =>
    refine zNo h7 ?_
    show w_X7_person x1 x2 x3 x4 x5 x6 x7 (zm τ0 m) _
    unfold w_X7_person
    rw [r_in]
    refine zYes h1 ?_
    rw [r_isFloor, zm_1, hM.1]
    refine zYes h2 ?_
    rw [r_isFloor, zm_1, hM.1]
    refine zYes h3 ⟨fun hh => absurd hh h4, fun _ => ?_⟩
    rw [r_in]
    refine zYes h5 ?_
    rw [r_in]
    refine zYes h6 ?_
    rw [r_in]
    exact zNo h7 ⟨rfl, hI⟩
  refine zYes h7 ?_
  rw [s_within]
  by_cases h8 : (0 : Int32) ≤ x7 ∧ x7 ≤ 7
  case neg =>
    refine zNo h8 ?_
    show w_X7_person x1 x2 x3 x4 x5 x6 x7 (zm τ0 m) _
    unfold w_X7_person
    rw [r_in]
    refine zYes h1 ?_
    rw [r_isFloor, zm_1, hM.1]
    refine zYes h2 ?_
    rw [r_isFloor, zm_1, hM.1]
    refine zYes h3 ⟨fun hh => absurd hh h4, fun _ => ?_⟩
    rw [r_in]
    refine zYes h5 ?_
    rw [r_in]
    refine zYes h6 ?_
    rw [r_in]
    refine zYes h7 ?_
    rw [r_in]
    exact zNo h8 ⟨rfl, hI⟩
  refine zYes h8 ?_
  obtain ⟨y1, -, l1, rfl⟩ := zrng (a := 0) (b := 900) (by decide) (by decide) h1.1 h1.2
  obtain ⟨y2, l2, rfl⟩ := zrng1 (by omega) h2.1 h2.2
  obtain ⟨y3, l3, rfl⟩ := zrng1 (by omega) h3.1 h3.2
  obtain ⟨y4, l4, l4', rfl⟩ := zrng (a := 1) (b := 2) (by decide) (by decide) h5.1 h5.2
  obtain ⟨y5, l5, l5', rfl⟩ := zrng (a := 1) (b := 6) (by decide) (by decide) h6.1 h6.2
  obtain ⟨y6, -, l6, rfl⟩ := zrng (a := 0) (b := 1) (by decide) (by decide) h7.1 h7.2
  obtain ⟨y7, -, l7, rfl⟩ := zrng (a := 0) (b := 7) (by decide) (by decide) h8.1 h8.2
  have h4' : y2 ≠ y3 := fun e => h4 (by rw [e])
  -- the reference's end
  have ref : ∀ Q : Int32 → zS → Prop, ((C.2.2.2.2.2.2.2.1 ≤ y1 → ((n = 30 → Q (-3) (zm τ0 m)) ∧ (n ≠ 30 → Q (nI n) (zI (zA (zA (zA (zA (zA (zA (zA (zm τ0 m) 1 n (nI y1)) 2 n (nI y2)) 3 n (nI y3)) 4 n (nI y4)) 5 n (nI y5)) 6 n (nI y6)) 7 n (nI y7)) 0 5 (nI (n + 1)))))) ∧ (¬ C.2.2.2.2.2.2.2.1 ≤ y1 → Q (-2) (zm τ0 m))) → w_X7_person (nI y1) (nI y2) (nI y3) (nI y4) (nI y5) (nI y6) (nI y7) (zm τ0 m) Q := fun Q hQ => by
    unfold w_X7_person
    rw [r_in]
    refine zYes h1 ?_
    rw [r_isFloor, zm_1, hM.1]
    refine zYes h2 ?_
    rw [r_isFloor, zm_1, hM.1]
    refine zYes h3 ⟨fun hh => absurd hh h4, fun _ => ?_⟩
    rw [r_in]
    refine zYes h5 ?_
    rw [r_in]
    refine zYes h6 ?_
    rw [r_in]
    refine zYes h7 ?_
    rw [r_in]
    refine zYes h8 ⟨vpc0, ?_⟩
    rw [cl0, zm_8, hRM.2.2.1, nI_leI (by omega) (by omega)]
    refine ⟨fun e => ?_, hQ.2⟩
    have m6 : (zm τ0 m).1 0 5 = nI n := hM.2.2.2.2.2.1
    rw [m6, show (30 : Int32) = nI 30 from rfl, nI_eq (by omega) (by decide)]
    refine ⟨(hQ.1 e).1, fun e2 => ?_⟩
    have v9 : vp_in (nI n) 30 := v30 (by omega)
    simp only [zlet_def, zA_1, m6, c30 (show n < 30 by omega), v9, true_and, nI_1, zI_1, and_self, if_true]
    rw [show nI (n + 1) - (1 : Int32) = nI n by rw [show (1 : Int32) = nI 1 from rfl, pk_sub (by omega)]; rfl]
    exact (hQ.1 e).2 e2
  rw [show σ.1 10 13 = nI C.2.2.2.2.2.2.2.1 from hR.2.2.2.1, nI_leI (by omega) (by omega), a6, show (30 : Int32) = nI 30 from rfl, nI_ltI (by omega) (by decide)]
  refine ⟨fun e => ⟨fun e2 => ?_, fun e2 => ?_⟩, fun e => ?_⟩
  · unfold w_X4_add
    have v9 : vp_in (nI n) 30 := v30 (by omega)
    simp only [zlet_def, zA_1, a6, c30 (show n < 30 by omega), v9, true_and, nI_1]
    refine ref _ ⟨fun _ => ⟨fun e3 => by omega, fun _ => ⟨rfl, ?_⟩⟩, fun hh => absurd e hh⟩
    have ez : zI (zA (zA (zA (zA (zA (zA (zA (zm τ0 m) 1 n (nI y1)) 2 n (nI y2)) 3 n (nI y3)) 4 n (nI y4)) 5 n (nI y5)) 6 n (nI y6)) 7 n (nI y7)) 0 5 (nI (n + 1)) = zm (zI (zA (zA (zA (zA (zA (zA (zA τ0 1 n (nI y1)) 2 n (nI y2)) 3 n (nI y3)) 4 n (nI y4)) 5 n (nI y5)) 6 n (nI y6)) 7 n (nI y7)) 0 5 (nI (n + 1))) m := by
      rw [zm_B _ _ _ _ _ (by decide), zm_B _ _ _ _ _ (by decide), zm_B _ _ _ _ _ (by decide), zm_B _ _ _ _ _ (by decide), zm_B _ _ _ _ _ (by decide), zm_B _ _ _ _ _ (by decide), zm_B _ _ _ _ _ (by decide)]
      rfl
    rw [ez]
    refine addP_inv hC hM hR hW hRM hG ht hK e2 (fun a => if a = 0 then y1 else if a = 1 then y2 else if a = 2 then y3 else if a = 3 then y4 else if a = 4 then y5 else if a = 5 then y6 else y7) l1 l2 l3 h4' ⟨l4, l4'⟩ ⟨l5, l5'⟩ l6 l7 e _ _ (fun a ha p => ?_) (fun k j hk => ?_) (fun k j hk => ?_) ?_ (fun a ha p => ?_) (fun k hk => ?_) (fun k j hk => ?_) ?_
    · rw [zI_2]
      simp only [zA_2]
      have : a = 0 ∨ a = 1 ∨ a = 2 ∨ a = 3 ∨ a = 4 ∨ a = 5 ∨ a = 6 := by omega
      rcases this with rfl | rfl | rfl | rfl | rfl | rfl | rfl <;> simp
    · rw [zI_2]
      simp only [zA_2]
      rw [if_neg (by omega), if_neg (by omega), if_neg (by omega), if_neg (by omega), if_neg (by omega), if_neg (by omega), if_neg (by omega)]
    · rw [zI_1, if_neg hk]
      rfl
    · rw [zI_1, if_pos ⟨rfl, rfl⟩]
    · rw [zI_2]
      simp only [zA_2]
      have : a = 0 ∨ a = 1 ∨ a = 2 ∨ a = 3 ∨ a = 4 ∨ a = 5 ∨ a = 6 := by omega
      rcases this with rfl | rfl | rfl | rfl | rfl | rfl | rfl <;> simp
    · rw [zI_2]
      funext j
      simp only [zA_2]
      rw [if_neg (by omega), if_neg (by omega), if_neg (by omega), if_neg (by omega), if_neg (by omega), if_neg (by omega), if_neg (by omega)]
    · rw [zI_1, if_neg hk]
      rfl
    · rw [zI_1, if_pos ⟨rfl, rfl⟩]
  · exact ref _ ⟨fun _ => ⟨fun _ => ⟨rfl, hI⟩, fun e3 => by omega⟩, fun hh => absurd e hh⟩
  · exact ref _ ⟨fun hh => absurd hh e, fun _ => ⟨rfl, hI⟩⟩

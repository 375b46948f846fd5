/-! KEPT DAYS -/
theorem IK_new {σ τ σ' τ' : zS} {F n K : Nat} (h : IK σ τ F n K) (hK : K < 3) (hn : n ≤ 30) (c : Nat → Int32) (hc : ∀ p, p < n → ∃ y, y ≤ 1000 ∧ c p = nI y) (e0 : ∀ k j, 53 ≤ k → k < 57 → σ'.2 k j = σ.2 k j) (e1 : ∀ i, i < K → σ'.2 62 i = σ.2 62 i) (e2 : σ'.2 62 K = nI n) (e3 : ∀ i p, i < K → σ'.2 (59 + i) p = σ.2 (59 + i) p) (e4 : ∀ p, p < n → σ'.2 (59 + K) p = c p) (e5 : σ'.1 57 2 = nI (K + 1)) (g5 : τ'.1 0 16 = nI (K + 1)) (g0 : τ'.2 10 = τ.2 10) (g1 : ∀ i, i < K → τ'.2 11 i = τ.2 11 i) (g2 : τ'.2 11 K = nI n) (g3 : ∀ x, x < 30 * K → τ'.2 12 x = τ.2 12 x) (g4 : ∀ p, p < n → τ'.2 12 (30 * K + p) = c p) : IK σ' τ' F n (K + 1) := by
  obtain ⟨h1, h2, h3, h4, h5, h6, h7⟩ := h
  refine ⟨fun f hf => ?_, fun x hx => ?_, fun x hx hx2 => ?_, e5, g5, by omega, fun i hi => ?_⟩
  · rw [g0, e0 55 f (by decide) (by decide), e0 56 f (by decide) (by decide)]
    exact h1 f hf
  · rw [g0]
    exact h2 x hx
  · rw [g0]
    exact h3 x hx hx2
  · by_cases e : i = K
    · subst e
      refine ⟨n, Nat.le_refl n, e2, g2, fun p hp => ?_⟩
      rw [e4 p hp, g4 p hp]
      exact ⟨rfl, hc p hp⟩
    · have hiK : i < K := by omega
      obtain ⟨N, n1, n2, n3, n4⟩ := h7 i hiK
      refine ⟨N, n1, by rw [e1 i hiK]; exact n2, by rw [g1 i hiK]; exact n3, fun p hp => ?_⟩
      rw [e3 i p hiK, g3 _ (by omega)]
      exact n4 p hp
theorem HC_30 {σ σ' : zS} {F S W V ks n : Nat} {P : Nat → Nat → Nat} (hC : HC σ 30 F S W V ks n P) (f1 : ∀ a j, a < 50 → σ'.2 a j = σ.2 a j) (f2 : ∀ a j, a < 50 → σ'.1 a j = σ.1 a j) : HC σ' 30 F S W V ks n P := by
  obtain ⟨a1, a2, a3, a4, a5, a6, a7, a8, a9, b1, b2, b3⟩ := hC
  exact ⟨by rw [f2 _ _ (by decide)]; exact a1, by rw [f2 _ _ (by decide)]; exact a2, by rw [f2 _ _ (by decide)]; exact a3, by rw [f2 _ _ (by decide)]; exact a4, by rw [f2 _ _ (by decide)]; exact a5, by rw [f2 _ _ (by decide)]; exact a6, fun a ha p hp => by rw [f1 _ _ (by omega)]; exact a7 a ha p hp, a8, a9, by rw [f2 _ _ (by decide)]; exact b1, ⟨by rw [f2 _ _ (by decide)]; exact b2.1, b2.2⟩, b3⟩
theorem st_keep : zStep_keep Inv := by
  intro σ τ hI
  obtain ⟨F, S, W, V, n, K, P, C, m, τ0, rfl, hC, hM, hR, hW, hRM, hG, ht, hK⟩ := id hI
  obtain ⟨a1, a2, a3, a4, a5, a6, a7, a8, a9, b1, b2, b3⟩ := id hC
  obtain ⟨k1, k2, k3, k4, k5, k6, k7⟩ := id hK
  have hn := a9.1
  have hF := a8.2.1
  unfold w_X6_keep
  have q3 : nI K < (3 : Int32) ↔ K < 3 := nI_ltI (b := 3) (by omega) (by decide)
  have q3' : nI K = (3 : Int32) ↔ K = 3 := nI_eq (b := 3) (by omega) (by decide)
  rw [k4, q3]
  refine ⟨fun h3 => ?main, fun h3 => ?other⟩
  case other =>
    show w_X7_keep (zm τ0 m) _
    unfold w_X7_keep
    rw [zm_1, k5, q3']
    exact ⟨fun _ => ⟨rfl, hI⟩, fun hh => absurd (show K = 3 by omega) hh⟩
  rw [b1]
  refine s_playDay (ks := 0) hC a8 (by decide) rfl (by decide) (fun σ' C' f1 f2 hC' hR' g' hD => ?_)
  have hcd : ∀ p, p < n → ∃ y, y ≤ 1000 ∧ mdc P (mday P F S W V 0 n) p = nI y := fun p hp => mdc_nI a8 a9 hp
  have hcc : ∀ p, p < n → mcost P C'.2.2.2.2.2.2.2.1 C' p = mdc P (mday P F S W V 0 n) p := fun p hp => (hD.1 p hp).1
  generalize hDD : mday P F S W V 0 n = D at *
  have e57 : σ'.1 57 2 = nI K := by rw [f2 _ _ (by decide)]; exact k4
  have e17 : σ'.1 1 7 = nI n := by rw [f2 _ _ (by decide)]; exact a6
  unfold w_X3_add
  rw [e57, zlet_def, nI_clamp (show K < 2 ^ 31 by omega), e17]
  refine ⟨vp_in_nI h3 (by decide), n + 1, ?_⟩
  have key : ∀ d j (σk : zS), j + d = n → (∀ a i, σk.1 a i = σ'.1 a i) → (∀ a i, σk.2 a i = if a = 62 ∧ i = K then nI n else if a = 59 + K ∧ i < j then mdc P D i else σ'.2 a i) → w_X3_add_L18 (fun _ t3 => w_X7_keep (zm τ0 m) (fun v2 τ2 => t3.1 57 2 = v2 ∧ Inv t3 τ2)) (d + 1) (nI j) σk := by
    intro d
    induction d with
    | zero =>
      intro j σk hj i1 i2
      have ej : j = n := by omega
      subst ej
      rw [w_X3_add_L18, i1, e57, nI_clamp (show K < 2 ^ 31 by omega), i2 62 K, if_pos ⟨rfl, rfl⟩]
      refine ⟨vp_in_nI h3 (by decide), fun _ => ?_, fun hh => absurd (Int32.le_refl _) hh⟩
      rw [zlet_def, nI_1]
      have et : (zI σk 57 2 (nI (K + 1))).1 57 2 = nI (K + 1) := rfl
      rw [et]
      unfold w_X7_keep
      rw [zm_1, k5]
      refine ⟨fun hh => ?_, fun _ => ?_⟩
      · rw [q3'] at hh
        omega
      rw [hM.2.2.2.1]
      refine m_dayBy (ks' := 0) hM a8 (by decide) rfl (by decide) (fun τ' m' t1 t2 t3 hM' hRm gd => ⟨j + 1, ?_⟩)
      rw [hDD] at hRm gd
      have key7 : ∀ d i (τk : zS), i + d = j → τk.1 = τ'.1 → (∀ a, a ≠ 12 → τk.2 a = τ'.2 a) → (∀ x, τk.2 12 x = if 30 * K ≤ x ∧ x < 30 * K + i then mdc P D (x - 30 * K) else τ'.2 12 x) → w_X7_keep_L23 (fun v2 τ2 => nI (K + 1) = v2 ∧ Inv (zI σk 57 2 (nI (K + 1))) τ2) (d + 1) (nI i) (zm τk m') := by
        intro d
        induction d with
        | zero =>
          intro i τk hi u1 u2 u3
          have ei : i = j := by omega
          subst ei
          rw [w_X7_keep_L23, zm_1, u1, t1, hM.2.2.2.2.2.1]
          refine ⟨fun _ => ?_, fun hh => absurd (Int32.le_refl _) hh⟩
          refine m_returns (fun m'' e => ?_)
          rw [zm_1, u1, t1, k5, hM.2.2.2.2.2.1, zlet_def, nI_clamp (show K < 2 ^ 31 by omega), zm_B _ _ _ _ _ (by decide), zlet_def]
          refine ⟨vp_in_nI h3 (by decide), ?_⟩
          have ew : (zm (zA τk 11 K (nI i)) m'').1 0 16 + 1 = nI (K + 1) := by
            show τk.1 0 16 + 1 = _
            rw [u1, t1, k5, nI_1]
          rw [ew]
          refine ⟨rfl, ?_⟩
          show Inv (zI σk 57 2 (nI (K + 1))) (zm (zI (zA τk 11 K (nI i)) 0 16 (nI (K + 1))) m'')
          refine Inv_day hC hM hR hW hRM hG ht (K := K + 1) ?_ (fun a x ha => ?_) (fun a x ha => ?_) (fun x hx => ?_) (fun a ha => ?_) (fun x hx => ?_)
          · refine IK_new hK h3 hn (mdc P D) hcd (fun a x ha hb => ?_) (fun a ha => ?_) ?_ (fun a x ha => ?_) (fun p hp => ?_) rfl rfl ?_ (fun a ha => ?_) ?_ (fun x hx => ?_) (fun p hp => ?_)
            · show σk.2 a x = _
              rw [i2, if_neg (by omega), if_neg (by omega), f1 a x (by omega)]
            · show σk.2 62 a = _
              rw [i2, if_neg (by omega), if_neg (by omega), f1 _ _ (by omega)]
            · show σk.2 62 K = _
              rw [i2, if_pos ⟨rfl, rfl⟩]
            · show σk.2 (59 + a) x = _
              rw [i2, if_neg (by omega), if_neg (by omega), f1 _ _ (by omega)]
            · show σk.2 (59 + K) p = _
              rw [i2, if_neg (by omega), if_pos ⟨rfl, hp⟩]
            · funext x
              show (zA τk 11 K (nI i)).2 10 x = _
              rw [zA_2, if_neg (by omega), u2 _ (by decide), t2 _ (by decide)]
            · show (zA τk 11 K (nI i)).2 11 a = _
              rw [zA_2, if_neg (by omega), u2 _ (by decide), t2 _ (by decide)]
            · show (zA τk 11 K (nI i)).2 11 K = _
              rw [zA_2, if_pos ⟨rfl, rfl⟩]
            · show (zA τk 11 K (nI i)).2 12 x = _
              rw [zA_2, if_neg (by omega), u3, if_neg (by omega), t2 _ (by decide)]
            · show (zA τk 11 K (nI i)).2 12 (30 * K + p) = _
              rw [zA_2, if_neg (by omega), u3, if_pos (by omega)]
              congr 1
              omega
          · show σk.2 a x = _
            rw [i2, if_neg (by omega), if_neg (by omega), f1 a x (by omega)]
          · show (zI σk 57 2 (nI (K + 1))).1 a x = _
            rw [zI_1, if_neg (by omega), i1, f2 a x (by omega)]
          · show (zI (zA τk 11 K (nI i)) 0 16 (nI (K + 1))).1 0 x = _
            rw [zI_1, if_neg (by omega)]
            show τk.1 0 x = _
            rw [u1, t1]
          · funext x
            show (zA τk 11 K (nI i)).2 a x = _
            rw [zA_2, if_neg (by omega), u2 _ (by omega), t2 _ (by omega)]
          · rw [e x hx, u2 _ (by decide), t3 x hx]
        | succ d ih =>
          intro i τk hi u1 u2 u3
          have hMk := HM_eq hM' (τ' := τk) (fun x _ => by rw [u1]) (fun a ha => u2 a (by omega))
          have eix : (30 : Int32) * nI K + nI i = nI (30 * K + i) := by rw [show (30 : Int32) = nI 30 from rfl, pk_mul, nI_add]
          rw [w_X7_keep_L23, zm_1, u1, t1, hM.2.2.2.2.2.1, k5, eix, mr_costOf hMk hRm gd (show i < j by omega), nI_1, zlet_def, nI_clamp (show 30 * K + i < 2 ^ 31 by omega), zm_B _ _ _ _ _ (by decide)]
          refine ⟨fun hh => ?_, fun _ => ⟨vp_in_nI (by omega) (by decide), ih (i + 1) _ (by omega) u1 (fun a ha => ?_) (fun x => ?_)⟩⟩
          · rw [nI_leI (by omega) (by omega)] at hh
            omega
          · funext x
            rw [zA_2, if_neg (by omega), u2 a ha]
          · rw [zA_2]
            by_cases ex : x = 30 * K + i
            · subst ex
              rw [if_pos ⟨rfl, rfl⟩, if_pos (by omega), show 30 * K + i - 30 * K = i by omega]
              rfl
            · rw [if_neg (by omega), u3]
              by_cases ex2 : 30 * K ≤ x ∧ x < 30 * K + i
              · rw [if_pos ex2, if_pos (by omega)]
              · rw [if_neg ex2, if_neg (by omega)]
      exact key7 j 0 τ' (by omega) rfl (fun _ _ => rfl) (fun x => by rw [if_neg (by omega)])
    | succ d ih =>
      intro j σk hj i1 i2
      have r1 : ∀ a i, a < 50 → σk.2 a i = σ'.2 a i := fun a i ha => by rw [i2, if_neg (by omega), if_neg (by omega)]
      have hCk := HC_30 hC' r1 (fun a i _ => i1 a i)
      have hRk := RB_eq (σ' := σk) hF hR' (fun a i _ ha => r1 a i (by omega)) (fun i => i1 _ i)
      rw [w_X3_add_L18, i1, e57, nI_clamp (show K < 2 ^ 31 by omega), i2 62 K, if_pos ⟨rfl, rfl⟩, s_costOf hCk hRk g' (show j < n by omega), nI_clamp (show j < 2 ^ 31 by omega), hcc j (by omega)]
      refine ⟨vp_in_nI h3 (by decide), fun hh => ?_, fun _ => ⟨vp_in_nI h3 (by decide), v30 (by omega), ?_⟩⟩
      · rw [nI_leI (by omega) (by omega)] at hh
        omega
      · rw [zlet_def, nI_1]
        refine ih (j + 1) _ (by omega) (fun a i => i1 a i) (fun a i => ?_)
        rw [zA_2]
        by_cases ex : a = 59 + K ∧ i = j
        · rw [if_pos ex, if_neg (by omega), if_pos (by omega), ex.2]
        · rw [if_neg ex, i2]
          by_cases e62 : a = 62 ∧ i = K
          · rw [if_pos e62, if_pos e62]
          · rw [if_neg e62, if_neg e62]
            by_cases ex2 : a = 59 + K ∧ i < j
            · rw [if_pos ex2, if_pos (by omega)]
            · rw [if_neg ex2, if_neg (by omega)]
  refine key n 0 _ (by omega) (fun a i => rfl) (fun a i => ?_)
  rw [zA_2]
  by_cases e62 : a = 62 ∧ i = K
  · rw [if_pos e62, if_pos e62]
  · rw [if_neg e62, if_neg e62, if_neg (by omega)]

/-! how many floors one should walk -/
def mbk (c : Nat → Int32) : Nat → Int32 × Int32
  | 0 => (0, c 0)
  | k + 1 => if (mbk c k).2 ≤ c (k + 1) then mbk c k else (nI (k + 1), c (k + 1))
theorem st_bestStairs : zStep_bestStairs Inv := by
  intro σ τ hI
  obtain ⟨F, S, W, V, n, K, P, C, m, τ0, rfl, hC, hM, hR, hW, hRM, hG, ht, hK⟩ := id hI
  obtain ⟨a1, a2, a3, a4, a5, a6, a7, a8, a9, b1, b2, b3⟩ := id hC
  obtain ⟨c1, c2, c3, c4, c5, c6, c7, c8, c9⟩ := id a8
  let c : Nat → Int32 := fun k => mcs (mdc P (mday P F S W V (k + 1) n)) n
  have ec : ∀ k, mcs (mdc P (mday P F S W V (k + 1) n)) n = c k := fun _ => rfl
  have eb : ∀ j, mbk c (j + 1) = if (mbk c j).2 ≤ c (j + 1) then mbk c j else (nI (j + 1), c (j + 1)) := fun j => by rw [mbk]
  have ref : ∀ (σ' : zS), (∀ a j, a < 30 → σ'.2 a j = σ.2 a j) → (∀ a j, a < 30 → σ'.1 a j = σ.1 a j) → (∀ k j, 53 ≤ k → σ'.2 k j = σ.2 k j) → σ'.1 57 2 = σ.1 57 2 → w_X7_bestStairs (zm τ0 m) (fun v2 τ2 => (mbk c (F - 1)).1 = v2 ∧ Inv σ' τ2) := fun σ' f1 f2 f3 f4 => by
    have key : ∀ d j (τk : zS) (mk : Nat → Int32), j + d = F - 1 → τk.1 = τ0.1 → (∀ a, a ≠ 9 → τk.2 a = τ0.2 a) → (∀ i, i < 389 → mk i = m i) → w_X7_bestStairs_L14 (fun v2 τ2 => (mbk c (F - 1)).1 = v2 ∧ Inv σ' τ2) (d + 1) (mbk c j).1 (mbk c j).2 (nI (j + 1)) (zm τk mk) := by
      intro d
      induction d with
      | zero =>
        intro j τk mk hj t1 t2 t3
        have ej : j = F - 1 := by omega
        subst ej
        rw [w_X7_bestStairs_L14, zm_1, t1, hM.1]
        refine ⟨fun _ => ⟨rfl, ?_⟩, fun hh => ?_⟩
        · exact Inv_day hC hM hR hW hRM hG ht (IK_eq hK f3 f4 (by rw [t1]) (fun a ha => t2 a (by omega))) f1 f2 (fun j _ => by rw [t1]) (fun a ha => t2 a (by omega)) t3
        · rw [nI_leI (by omega) (by omega)] at hh
          omega
      | succ d ih =>
        intro j τk mk hj t1 t2 t3
        have hMk := HM_eq hM (τ' := τk) (fun j _ => by rw [t1]) (fun a ha => t2 a (by omega))
        rw [w_X7_bestStairs_L14, zm_1, t1, hM.1, hM.2.2.2.1]
        refine ⟨fun hh => ?_, fun _ => ?_⟩
        · rw [nI_leI (by omega) (by omega)] at hh
          omega
        refine m_dayCost hMk a8 (show j + 1 + 1 ≤ 8 by omega) rfl (nI_prd _) (fun τ' m' t1' t2' e => ?_)
        rw [ec (j + 1)]
        have g1 := ih (j + 1) τ' m' (by omega) (by rw [t1', t1]) (fun a ha => by rw [t2' a ha, t2 a ha]) (fun i hi => by rw [e i hi, t3 i hi])
        have ebj := eb j
        refine ⟨fun hh => ⟨fun _ => ?_, fun hh2 => absurd hh hh2⟩, fun hh => ⟨fun hh2 => absurd hh2 hh, fun _ => ?_⟩⟩
        · rw [if_pos hh] at ebj
          rw [ebj] at g1
          unfold w_X7_bestStairs_J57
          rw [nI_1]
          exact g1
        · rw [if_neg hh] at ebj
          rw [ebj] at g1
          unfold w_X7_bestStairs_J57
          rw [nI_1]
          exact g1
    unfold w_X7_bestStairs
    rw [zm_1, hM.2.2.2.1]
    refine m_dayCost hM a8 (show 1 ≤ 8 by decide) rfl (by decide) (fun τ' m' t1 t2 e => ?_)
    exact ⟨F - 1 + 1, key (F - 1) 0 τ' m' (by omega) t1 t2 e⟩
  have key : ∀ d j (σk : zS), j + d = F - 1 → (∀ a j, a < 30 ∨ 50 ≤ a → σk.2 a j = σ.2 a j) → (∀ a j, a ≠ 30 → σk.1 a j = σ.1 a j) → w_X6_bestStairs_L24 (fun v σ2 => w_X7_bestStairs (zm τ0 m) (fun v2 τ2 => v = v2 ∧ Inv σ2 τ2)) (d + 1) (mbk c j).1 (mbk c j).2 (nI (j + 1)) σk := by
    intro d
    induction d with
    | zero =>
      intro j σk hj f1 f2
      have ej : j = F - 1 := by omega
      subst ej
      rw [w_X6_bestStairs_L24, f2 _ _ (by decide), a1]
      refine ⟨fun _ => ?_, fun hh => ?_⟩
      · exact ref σk (fun a i ha => f1 a i (by omega)) (fun a i ha => f2 a i (by omega)) (fun a i ha => f1 a i (by omega)) (f2 _ _ (by decide))
      · rw [nI_leI (by omega) (by omega)] at hh
        omega
    | succ d ih =>
      intro j σk hj f1 f2
      have hCk := HC_eq hC (σ' := σk) (fun a i ha => f1 a i (by omega)) (fun a i ha => f2 a i (by omega))
      rw [w_X6_bestStairs_L24, f2 _ _ (by decide), a1, f2 _ _ (by decide), b1]
      refine ⟨fun hh => ?_, fun _ => ?_⟩
      · rw [nI_leI (by omega) (by omega)] at hh
        omega
      refine s_playDay hCk a8 (show j + 1 + 1 ≤ 8 by omega) rfl (nI_prd _) (fun σ' C' f1' f2' hC' hR' g' hD => ?_)
      rw [ec (j + 1)]
      have g1 := ih (j + 1) σ' (by omega) (fun a i ha => by rw [f1' a i ha, f1 a i ha]) (fun a i ha => by rw [f2' a i ha, f2 a i ha])
      have ebj := eb j
      refine ⟨fun hh => ?_, fun hh => ?_⟩
      · rw [if_pos hh] at ebj
        rw [ebj] at g1
        unfold w_X6_bestStairs_J67
        rw [nI_1]
        exact g1
      · rw [if_neg hh] at ebj
        rw [ebj] at g1
        unfold w_X6_bestStairs_J67
        rw [nI_1]
        exact g1
  unfold w_X6_bestStairs
  rw [b1]
  refine s_playDay hC a8 (show 1 ≤ 8 by decide) rfl (by decide) (fun σ' C' f1 f2 hC' hR' g' hD => ?_)
  exact ⟨F - 1 + 1, key (F - 1) 0 σ' (by omega) f1 f2⟩
/-! day -/
theorem add1_sub (a b : Int32) : a + 1 - (b + 1) = a - b + 0 := by grind
theorem add1_sub' (a b : Int32) : a + 1 - b = a - b + 1 := by grind
def mnd (D : mC) : Nat → Int32
  | 0 => 0
  | k + 1 => mnd D k + (if stC D.2.2.2.2.2.2.2.1 D k = 4 then 0 else 1)
def mbd (c : Nat → Int32) : Nat → Int32 × Int32
  | 0 => (-4, -1)
  | k + 1 => if c k ≤ (mbd c k).2 then mbd c k else (nI k, c k)
theorem mbd_e (c : Nat → Int32) (n : Nat) (hc : ∀ p, p < n → ∃ y, y ≤ 1000 ∧ c p = nI y) : ∀ j, j < n → ∃ b, b ≤ j ∧ (mbd c (j + 1)).1 = nI b ∧ (mbd c (j + 1)).2 = c b
  | 0, hj => by
    obtain ⟨y, hy, e⟩ := hc 0 hj
    refine ⟨0, Nat.le_refl _, ?_⟩
    have : ¬ c 0 ≤ (mbd c 0).2 := by
      show ¬ c 0 ≤ (-1 : Int32)
      rw [e]
      intro hh
      have h1 : (0 : Int32) ≤ nI y := nI_pos' (by omega)
      exact absurd (Int32.le_trans h1 hh) (by decide)
    show (if c 0 ≤ (mbd c 0).2 then mbd c 0 else (nI 0, c 0)).1 = _ ∧ (if c 0 ≤ (mbd c 0).2 then mbd c 0 else (nI 0, c 0)).2 = _
    rw [if_neg this]
    exact ⟨rfl, rfl⟩
  | j + 1, hj => by
    obtain ⟨b, hb, e1, e2⟩ := mbd_e c n hc j (by omega)
    show ∃ b, b ≤ j + 1 ∧ (if c (j + 1) ≤ (mbd c (j + 1)).2 then mbd c (j + 1) else (nI (j + 1), c (j + 1))).1 = _ ∧ (if c (j + 1) ≤ (mbd c (j + 1)).2 then mbd c (j + 1) else (nI (j + 1), c (j + 1))).2 = _
    split
    · exact ⟨b, by omega, e1, e2⟩
    · exact ⟨j + 1, Nat.le_refl _, rfl, rfl⟩
section DAY5
variable {σ0 σ τ : zS} {r F S W V ks n T K : Nat} {P : Nat → Nat → Nat} {C D : mC} {m : Nat → Int32} {Q : Int32 → zS → Prop}
theorem s_turned (hC : HC σ0 r F S W V ks n P) (h : RB σ0 σ r n F T C) (k : Q (mcs C.2.2.2.2.2.2.1 n) σ) : w_X0_turnedTogether r σ Q := by
  have hn := hC.2.2.2.2.2.2.2.2.1.1
  refine ⟨n + 1, ?_⟩
  have key : ∀ d j, j + d = n → w_X0_turnedTogether_L4 r Q (d + 1) (mcs C.2.2.2.2.2.2.1 j) (nI j) σ := by
    intro d
    induction d with
    | zero =>
      intro j hj
      have ej : j = n := by omega
      subst ej
      rw [w_X0_turnedTogether_L4, (HC_fr hC h.1).2.2.2.2.2.1]
      exact ⟨fun _ => k, fun hh => absurd (Int32.le_refl _) hh⟩
    | succ d ih =>
      intro j hj
      rw [w_X0_turnedTogether_L4, (HC_fr hC h.1).2.2.2.2.2.1, nI_1, c30 (show j < 30 by omega), (h.2.1 j (by omega)).2.2.2]
      refine ⟨fun hh => ?_, fun _ => ⟨v30 (by omega), ih (j + 1) (by omega)⟩⟩
      rw [nI_leI (by omega) (by omega)] at hh
      omega
  exact key n 0 (by omega)
theorem s_dearest (hC : HC σ0 r F S W V ks n P) (h : RB σ0 σ r n F T C) (g : GC n F C) (c : Nat → Int32) (hcc : ∀ p, p < n → mcost P T C p = c p) (hc : ∀ p, p < n → ∃ y, y ≤ 1000 ∧ c p = nI y) (k : Q (mbd c n).1 σ) : w_X0_dearest r σ Q := by
  have hn := hC.2.2.2.2.2.2.2.2.1.1
  have eb : ∀ j, mbd c (j + 1) = if c j ≤ (mbd c j).2 then mbd c j else (nI j, c j) := fun j => by rw [mbd]
  refine ⟨n + 1, ?_⟩
  have key : ∀ d j, j + d = n → w_X0_dearest_L5 r Q (d + 1) (mbd c j).1 (nI j) σ := by
    intro d
    induction d with
    | zero =>
      intro j hj
      have ej : j = n := by omega
      subst ej
      rw [w_X0_dearest_L5, (HC_fr hC h.1).2.2.2.2.2.1]
      exact ⟨fun _ => k, fun hh => absurd (Int32.le_refl _) hh⟩
    | succ d ih =>
      intro j hj
      have g1 := ih (j + 1) (by omega)
      rw [w_X0_dearest_L5, (HC_fr hC h.1).2.2.2.2.2.1]
      unfold w_X0_dearest_J35 w_X0_dearest_J37
      rw [nI_1, s_costOf hC h g (by omega)]
      refine ⟨fun hh => ?_, fun _ => ?_⟩
      · rw [nI_leI (by omega) (by omega)] at hh
        omega
      rw [eb j] at g1
      cases j with
      | zero =>
        refine ⟨fun _ => ?_, fun hh => absurd rfl hh⟩
        obtain ⟨b, hb, e1, e2⟩ := mbd_e c n hc 0 (by omega)
        rw [eb 0] at e1
        have e0 : b = 0 := by omega
        subst e0
        rw [e1] at g1
        exact g1
      | succ i =>
        obtain ⟨b, hb, e1, e2⟩ := mbd_e c n hc i (by omega)
        refine ⟨fun hh => ?_, fun _ => ?_⟩
        · rw [e1] at hh
          have h1 : (0 : Int32) ≤ nI b := nI_pos' (by omega)
          rw [hh] at h1
          exact absurd h1 (by decide)
        · rw [e1, s_costOf hC h g (show b < n by omega), hcc _ (by omega), hcc _ (by omega), ← e1, ← e2]
          refine ⟨fun hh => ?_, fun hh => ?_⟩
          · rw [if_pos hh] at g1
            exact g1
          · rw [if_neg hh] at g1
            exact g1
  exact key n 0 (by omega)
theorem mnd_cnt (hst : ∀ p, p < n → stC T C p = stC D.2.2.2.2.2.2.2.1 D p) (hle : ∀ p, p < n → stC T C p ≤ 4) : ∀ k, k ≤ n → nI k - mcnt T C 4 k = mnd D k
  | 0, _ => by show (0 : Int32) - 0 = 0; decide
  | k + 1, hk => by
    have ih := mnd_cnt hst hle k (by omega)
    unfold mcnt mnd
    rw [← ih, ← hst k (by omega)]
    have := hle k (by omega)
    by_cases c : stC T C k = 4
    · rw [if_pos (by rw [c]; rfl), if_pos c, ← nI_1 k, add1_sub]
    · rw [if_neg (fun hh => c ?_), if_neg c, ← nI_1 k, add1_sub']
      rw [show (4 : Int32) = nI 4 from rfl, nI_eq (by omega) (by decide)] at hh
      exact hh
end DAY5
theorem st_day : zStep_day Inv := by
  intro σ τ hI x1
  obtain ⟨F, S, W, V, n, K, P, C, m, τ0, rfl, hC, hM, hR, hW, hRM, hG, ht, hK⟩ := id hI
  obtain ⟨a1, a2, a3, a4, a5, a6, a7, a8, a9, b1, b2, b3⟩ := id hC
  obtain ⟨c1, c2, c3, c4, c5, c6, c7, c8, c9⟩ := id a8
  have hn := a9.1
  unfold w_X6_day
  rw [s_within]
  by_cases h1 : (0 : Int32) ≤ x1 ∧ x1 ≤ 3
  case neg =>
    refine zNo h1 ?_
    show w_X7_day x1 (zm τ0 m) _
    unfold w_X7_day
    rw [r_in]
    exact zNo h1 ⟨rfl, hI⟩
  refine zYes h1 ?_
  rw [b1]
  refine s_playDay (ks := 0) hC a8 (by decide) rfl (by decide) (fun σ' C' f1 f2 hC' hR' g' hD => ?_)
  have hcd : ∀ p, p < n → ∃ y, y ≤ 1000 ∧ mdc P (mday P F S W V 0 n) p = nI y := fun p hp => mdc_nI a8 a9 hp
  have v0 : nI n - mcnt C'.2.2.2.2.2.2.2.1 C' 4 n = mnd (mday P F S W V 0 n) n := mnd_cnt (fun p hp => (hD.1 p hp).2.1) (fun p hp => stC_le g' hp) n (Nat.le_refl n)
  have v1 : mcs C'.2.2.2.2.2.2.1 n = mcs (mday P F S W V 0 n).2.2.2.2.2.2.1 n := mcs_congr n (fun p hp => (hD.1 p hp).2.2)
  have v2 : C'.2.2.2.2.2.2.2.2.2.2.2 = (mday P F S W V 0 n).2.2.2.2.2.2.2.2.2.2.2 := hD.2
  have hcc : ∀ p, p < n → mcost P C'.2.2.2.2.2.2.2.1 C' p = mdc P (mday P F S W V 0 n) p := fun p hp => (hD.1 p hp).1
  have hp7 : σ'.1 1 7 = nI n := by rw [f2 _ _ (by decide)]; exact a6
  have hl : σ'.1 30 15 = C'.2.2.2.2.2.2.2.2.2.2.2 := hR'.2.2.2.2.2.1
  generalize hDD : mday P F S W V 0 n = D at *
  have ref : ∀ v : Int32, (x1 = 0 → v = mnd D n) → (x1 = 1 → v = mcs D.2.2.2.2.2.2.1 n) → (x1 = 2 → v = D.2.2.2.2.2.2.2.2.2.2.2) → (¬ x1 = 0 → ¬ x1 = 1 → ¬ x1 = 2 → v = (mbd (mdc P D) n).1) → w_X7_day x1 (zm τ0 m) (fun v2 τ2 => v = v2 ∧ Inv σ' τ2) := fun v r0 r1 r2 r3 => by
    unfold w_X7_day
    rw [r_in]
    refine zYes h1 ?_
    rw [zm_1, hM.2.2.2.1]
    refine m_dayBy (ks' := 0) hM a8 (by decide) rfl (by decide) (fun τ' m' t1 t2 t3 hM' hRm gd => ?_)
    rw [hDD] at hRm gd
    refine ⟨vpk (k := 4) rfl (by decide) (by decide), n + 1, ?_⟩
    rw [show (4 : Int32).toNatClampNeg = 4 from by decide, zm_8, hRm.2.2.2.2.2.2.1]
    have eb : ∀ j, mbd (mdc P D) (j + 1) = if mdc P D j ≤ (mbd (mdc P D) j).2 then mbd (mdc P D) j else (nI j, mdc P D j) := fun j => by rw [mbd]
    have key : ∀ d j, j + d = n → w_X7_day_L43 (fun v2 τ2 => v = v2 ∧ Inv σ' τ2) (d + 1) x1 (mnd D j) (mcs D.2.2.2.2.2.2.1 j) D.2.2.2.2.2.2.2.2.2.2.2 (mbd (mdc P D) j).1 (mbd (mdc P D) j).2 (nI j) (zm τ' m') := by
      intro d
      induction d with
      | zero =>
        intro j hj
        have ej : j = n := by omega
        subst ej
        rw [w_X7_day_L43, zm_1, t1, hM.2.2.2.2.2.1]
        refine ⟨fun _ => ?_, fun hh => absurd (Int32.le_refl _) hh⟩
        refine m_returns (fun m'' e => ?_)
        have hI' : Inv σ' (zm τ' m'') := Inv_day hC hM hR hW hRM hG ht (IK_eq hK (fun a j ha => f1 a j (by omega)) (f2 _ _ (by decide)) (by rw [t1]) (fun a ha => t2 a (by omega))) (fun a j ha => f1 a j (by omega)) (fun a j ha => f2 a j (by omega)) (fun j _ => by rw [t1]) (fun a ha => t2 a (by omega)) (fun j hj => by rw [e j hj, t3 j hj])
        exact ⟨fun h0 => ⟨r0 h0, hI'⟩, fun h0 => ⟨fun h1 => ⟨r1 h1, hI'⟩, fun h1 => ⟨fun h2 => ⟨r2 h2, hI'⟩, fun h2 => ⟨r3 h0 h1 h2, hI'⟩⟩⟩⟩
      | succ d ih =>
        intro j hj
        have g1 := ih (j + 1) (by omega)
        have hj30 : j < 30 := by omega
        have em : mnd D (j + 1) = mnd D j + (if stC D.2.2.2.2.2.2.2.1 D j = 4 then 0 else 1) ∧ mcs D.2.2.2.2.2.2.1 (j + 1) = mcs D.2.2.2.2.2.2.1 j + D.2.2.2.2.2.2.1 j := ⟨by rw [mnd], by rw [mcs]⟩
        rw [em.1, em.2, eb j] at g1
        have hle := stC_le (T := D.2.2.2.2.2.2.2.1) gd (show j < n by omega)
        rw [w_X7_day_L43, zm_1, t1, hM.2.2.2.2.2.1, mr_stateOf hn hRm gd (show j < n by omega)]
        refine ⟨fun hh => ?_, fun _ => ?_⟩
        · rw [nI_leI (by omega) (by omega)] at hh
          omega
        have fin : ∀ s0 : Int32, s0 = (if stC D.2.2.2.2.2.2.2.1 D j = 4 then 0 else 1) → w_X7_day_J68 (fun v2 τ2 => v = v2 ∧ Inv σ' τ2) (fun a1 a2 a3 a4 a5 a6 a7 aσ => w_X7_day_L43 (fun v2 τ2 => v = v2 ∧ Inv σ' τ2) (d + 1) a1 a2 a3 a4 a5 a6 a7 aσ) x1 (mcs D.2.2.2.2.2.2.1 j) D.2.2.2.2.2.2.2.2.2.2.2 (mbd (mdc P D) j).1 (mbd (mdc P D) j).2 (nI j) s0 (mnd D j) (zm τ' m') := fun s0 hs => by
          have ed : mcost P D.2.2.2.2.2.2.2.1 D j = mdc P D j := rfl
          rw [← hs] at g1
          unfold w_X7_day_J68
          rw [ix95 hj30, zm_8, (hRm.1 j (by omega)).2.2.2]
          refine ⟨vp95 hj30, (mr_costOf hM' hRm gd (show j < n by omega)).mpr ?_⟩
          rw [ed]
          refine ⟨fun hh => ?_, fun hh => ?_⟩
          · unfold w_X7_day_J101
            refine (mr_costOf hM' hRm gd (show j < n by omega)).mpr ?_
            rw [ed]
            refine ⟨fun _ => ?_, fun hh2 => absurd hh hh2⟩
            unfold w_X7_day_J125
            rw [if_pos hh] at g1
            rw [nI_1]
            exact g1
          · unfold w_X7_day_J101
            refine (mr_costOf hM' hRm gd (show j < n by omega)).mpr ?_
            rw [ed]
            refine ⟨fun hh2 => absurd hh2 hh, fun _ => (mr_costOf hM' hRm gd (show j < n by omega)).mpr ?_⟩
            rw [ed]
            unfold w_X7_day_J125
            rw [if_neg hh] at g1
            rw [nI_1]
            exact g1
        refine ⟨fun hh => fin 0 ?_, fun hh => fin 1 ?_⟩
        · rw [show (4 : Int32) = nI 4 from rfl, nI_eq (by omega) (by decide)] at hh
          rw [if_pos hh]
        · rw [show (4 : Int32) = nI 4 from rfl, nI_eq (by omega) (by decide)] at hh
          rw [if_neg hh]
    exact key n 0 (by omega)
  refine ⟨fun h0 => ?_, fun h0 => ⟨fun hb => ?_, fun hb => ⟨fun h2 => ?_, fun h2 => ?_⟩⟩⟩
  · refine s_howMany hC' hR' 4 ?_
    rw [hp7, v0]
    exact ref _ (fun _ => rfl) (fun hx => absurd (h0.symm.trans hx) (by decide)) (fun hx => absurd (h0.symm.trans hx) (by decide)) (fun hx => absurd h0 hx)
  · refine s_turned hC' hR' ?_
    rw [v1]
    exact ref _ (fun hx => absurd hx h0) (fun _ => rfl) (fun hx => absurd (hb.symm.trans hx) (by decide)) (fun _ hx => absurd hb hx)
  · rw [hl, v2]
    exact ref _ (fun hx => absurd hx h0) (fun hx => absurd hx hb) (fun _ => rfl) (fun _ _ hx => absurd h2 hx)
  · refine s_dearest hC' hR' g' (mdc P D) hcc hcd ?_
    exact ref _ (fun hx => absurd hx h0) (fun hx => absurd hx hb) (fun hx => absurd hx h2) (fun _ _ _ => rfl)

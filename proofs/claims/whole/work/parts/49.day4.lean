theorem HC_eq {σ σ' : zS} {F S W V n : Nat} {P : Nat → Nat → Nat} (hC : HC σ 10 F S W V 0 n P) (f1 : ∀ a j, a < 30 → σ'.2 a j = σ.2 a j) (f2 : ∀ a j, a < 30 → σ'.1 a j = σ.1 a j) : HC σ' 10 F S W V 0 n P := by
  obtain ⟨a1, a2, a3, a4, a5, a6, a7, a8, a9, b1, b2, b3⟩ := hC
  exact ⟨by rw [f2 _ _ (by decide)]; exact a1, by rw [f2 _ _ (by decide)]; exact a2, by rw [f2 _ _ (by decide)]; exact a3, by rw [f2 _ _ (by decide)]; exact a4, by rw [f2 _ _ (by decide)]; exact a5, by rw [f2 _ _ (by decide)]; exact a6, fun a ha p hp => by rw [f1 _ _ (by omega)]; exact a7 a ha p hp, a8, a9, by rw [f2 _ _ (by decide)]; exact b1, ⟨by rw [f2 _ _ (by decide)]; exact b2.1, b2.2⟩, b3⟩
theorem HM_eq {τ τ' : zS} {F S W V n : Nat} {P : Nat → Nat → Nat} (hM : HM τ F S W V 0 n P) (t1 : ∀ j, j < 16 → τ'.1 0 j = τ.1 0 j) (t2 : ∀ a, a < 8 → τ'.2 a = τ.2 a) : HM τ' F S W V 0 n P := by
  obtain ⟨h1, h2, h3, h4, h5, h6, h7, h8, h9⟩ := hM
  exact ⟨by rw [t1 _ (by decide)]; exact h1, by rw [t1 _ (by decide)]; exact h2, by rw [t1 _ (by decide)]; exact h3, by rw [t1 _ (by decide)]; exact h4, ⟨by rw [t1 _ (by decide)]; exact h5.1, h5.2⟩, by rw [t1 _ (by decide)]; exact h6, fun a ha p hp => by rw [t2 _ (by omega)]; exact h7 a ha p hp, h8, h9⟩
theorem m_dayCost {τ : zS} {F S W V n : Nat} {P : Nat → Nat → Nat} {m : Nat → Int32} {Q : Int32 → zS → Prop} (hM : HM τ F S W V 0 n P) {V' ks' : Nat} (hH : GH F S W V') (hks : ks' ≤ 8) {x1 x2 : Int32} (e1 : x1 = nI V') (e2 : x2 = nI ks' - 1) (k : ∀ (τ' : zS) (m' : Nat → Int32), τ'.1 = τ.1 → (∀ a, a ≠ 9 → τ'.2 a = τ.2 a) → (∀ j, j < 389 → m' j = m j) → Q (mcs (mdc P (mday P F S W V' ks' n)) n) (zm τ' m')) : w_X7_dayCost x1 x2 (zm τ m) Q := by
  unfold w_X7_dayCost
  refine m_dayBy hM hH hks e1 e2 (fun τ' m' t1 t2 t3 hM' hRm gd => ?_)
  exact m_returns (fun m'' e => k τ' m'' t1 t2 (fun j hj => by rw [e j hj, t3 j hj]))
theorem zrngm {x : Int32} (h1 : -1 ≤ x) (h2 : x ≤ 7) : ∃ k, k ≤ 8 ∧ x = nI k - 1 := by
  have e1 : (-1 : Int32).toInt = -1 := by decide
  have e7 : (7 : Int32).toInt = 7 := by decide
  rw [sle, e1] at h1
  rw [sle, e7] at h2
  refine ⟨(x.toInt + 1).toNat, by omega, ?_⟩
  apply Int32.toInt_inj.mp
  rw [show (1 : Int32) = nI 1 from rfl, pk_sub_toInt (by omega) (by decide)]
  omega
theorem nI_prd (k : Nat) : nI k = nI (k + 1) - 1 := by
  rw [show (1 : Int32) = nI 1 from rfl, pk_sub (by omega)]
  rfl
theorem st_cost : zStep_cost Inv := by
  intro σ τ hI x1 x2
  obtain ⟨F, S, W, V, n, K, P, C, m, τ0, rfl, hC, hM, hR, hW, hRM, hG, ht, hK⟩ := id hI
  obtain ⟨a1, a2, a3, a4, a5, a6, a7, a8, a9, b1, b2, b3⟩ := id hC
  obtain ⟨c1, c2, c3, c4, c5, c6, c7, c8, c9⟩ := id a8
  have eS : (zm τ0 m).1 0 1 = nI S := hM.2.1
  unfold w_X6_cost
  rw [s_isSpeed, a2]
  by_cases h1 : (1 : Int32) ≤ x1 ∧ x1 ≤ 4 ∧ x1 ≤ nI S
  case neg =>
    refine zNo h1 ?_
    show w_X7_cost x1 x2 (zm τ0 m) _
    unfold w_X7_cost
    rw [r_isSpeed, eS]
    exact zNo h1 ⟨rfl, hI⟩
  refine zYes h1 ?_
  rw [s_within]
  by_cases h2 : (-1 : Int32) ≤ x2 ∧ x2 ≤ 7
  case neg =>
    refine zNo h2 ?_
    show w_X7_cost x1 x2 (zm τ0 m) _
    unfold w_X7_cost
    rw [r_isSpeed, eS]
    refine zYes h1 ?_
    rw [r_in]
    exact zNo h2 ⟨rfl, hI⟩
  refine zYes h2 ?_
  obtain ⟨v, v1, v2, rfl⟩ := zrng (a := 1) (b := 4) (by decide) (by decide) h1.1 h1.2.1
  have v3 : v ≤ S := by
    have := h1.2.2
    rw [nI_leI (by omega) (by omega)] at this
    exact this
  obtain ⟨ks, hk, ek⟩ := zrngm h2.1 h2.2
  have hH : GH F S W v := ⟨c1, c2, c3, c4, c5, c6, v1, v2, v3⟩
  refine s_playDay hC hH hk rfl ek (fun σ' C' f1 f2 hC' hR' g' hD => ?_)
  show w_X7_cost (nI v) x2 (zm τ0 m) _
  unfold w_X7_cost
  rw [r_isSpeed, eS]
  refine zYes h1 ?_
  rw [r_in]
  refine zYes h2 ?_
  refine m_dayCost hM hH hk rfl ek (fun τ' m' t1 t2 e => ⟨rfl, ?_⟩)
  exact Inv_day hC hM hR hW hRM hG ht (IK_eq hK (fun a j ha => f1 a j (by omega)) (f2 _ _ (by decide)) (by rw [t1]) (fun a ha => t2 a (by omega))) (fun a j ha => f1 a j (by omega)) (fun a j ha => f2 a j (by omega)) (fun j _ => by rw [t1]) (fun a ha => t2 a (by omega)) e
/-! the best speed -/
def mbs (sf : Nat → Bool) (c : Nat → Int32) : Nat → Int32 × Int32
  | 0 => (-4, 0)
  | v + 1 => if sf (v + 1) = true then (if (mbs sf c v).1 = -4 then (nI (v + 1), c (v + 1)) else if (mbs sf c v).2 ≤ c (v + 1) then mbs sf c v else (nI (v + 1), c (v + 1))) else mbs sf c v
theorem mbs_neg (sf : Nat → Bool) (c : Nat → Int32) : ∀ v, v ≤ 4 → ((mbs sf c v).1 < 0 ↔ (mbs sf c v).1 = -4)
  | 0, _ => by show ((-4 : Int32) < 0 ↔ (-4 : Int32) = -4); decide
  | v + 1, hv => by
    have ih := mbs_neg sf c v (by omega)
    have hp : (nI (v + 1) < 0 ↔ nI (v + 1) = -4) := by
      have h0 : ¬ nI (v + 1) < 0 := Int32.not_lt.mpr (nI_pos' (by omega))
      refine ⟨fun hh => absurd hh h0, fun hh => ?_⟩
      rw [hh]
      decide
    unfold mbs
    split
    · split
      · exact hp
      · split
        · exact ih
        · exact hp
    · exact ih
theorem st_bestSpeed : zStep_bestSpeed Inv := by
  intro σ τ hI
  obtain ⟨F, S, W, V, n, K, P, C, m, τ0, rfl, hC, hM, hR, hW, hRM, hG, ht, hK⟩ := id hI
  obtain ⟨a1, a2, a3, a4, a5, a6, a7, a8, a9, b1, b2, b3⟩ := id hC
  obtain ⟨c1, c2, c3, c4, c5, c6, c7, c8, c9⟩ := id a8
  have hH : ∀ v, 1 ≤ v → v ≤ 4 → v ≤ S → GH F S W v := fun v v1 v2 v3 => ⟨c1, c2, c3, c4, c5, c6, v1, v2, v3⟩
  obtain ⟨M, hM4, hMS, hMx, hMe⟩ : ∃ M : Nat, M ≤ 4 ∧ M ≤ S ∧ (M = 4 ∨ M = S) ∧ (if nI S < (4 : Int32) then nI S else (4 : Int32)) = nI M := by
    by_cases c : S < 4
    · refine ⟨S, by omega, Nat.le_refl _, Or.inr rfl, if_pos ?_⟩
      rw [show (4 : Int32) = nI 4 from rfl, nI_ltI (by omega) (by decide)]
      exact c
    · refine ⟨4, Nat.le_refl _, by omega, Or.inl rfl, ?_⟩
      rw [if_neg]
      · rfl
      · rw [show (4 : Int32) = nI 4 from rfl, nI_ltI (by omega) (by decide)]
        exact c
  let sf : Nat → Bool := fun v => msf P (mleft S W v 0) n
  let c : Nat → Int32 := fun v => mcs (mdc P (mday P F S W v 0 n)) n
  have eb : ∀ j, mbs sf c (j + 1) = if sf (j + 1) = true then (if (mbs sf c j).1 = -4 then (nI (j + 1), c (j + 1)) else if (mbs sf c j).2 ≤ c (j + 1) then mbs sf c j else (nI (j + 1), c (j + 1))) else mbs sf c j := fun j => by rw [mbs]
  -- the reference
  have ref : ∀ (σ' : zS), (∀ a j, a < 30 → σ'.2 a j = σ.2 a j) → (∀ a j, a < 30 → σ'.1 a j = σ.1 a j) → (∀ k j, 53 ≤ k → σ'.2 k j = σ.2 k j) → σ'.1 57 2 = σ.1 57 2 → w_X7_bestSpeed (zm τ0 m) (fun v2 τ2 => (mbs sf c M).1 = v2 ∧ Inv σ' τ2) := fun σ' f1 f2 f3 f4 => by
    refine ⟨M + 1, ?_⟩
    have key : ∀ d j (τk : zS) (mk : Nat → Int32), j + d = M → τk.1 = τ0.1 → (∀ a, a ≠ 9 → τk.2 a = τ0.2 a) → (∀ i, i < 389 → mk i = m i) → w_X7_bestSpeed_L7 (fun v2 τ2 => (mbs sf c M).1 = v2 ∧ Inv σ' τ2) (d + 1) (mbs sf c j).1 (mbs sf c j).2 (nI (j + 1)) (zm τk mk) := by
      intro d
      induction d with
      | zero =>
        intro j τk mk hj t1 t2 t3
        have ej : j = M := by omega
        subst ej
        rw [w_X7_bestSpeed_L7, r_isSpeed, zm_1, t1, hM.2.1]
        refine zNo (fun hh => ?_) ⟨rfl, ?_⟩
        · have h4 := hh.2.1
          have h5 := hh.2.2
          rw [show (4 : Int32) = nI 4 from rfl, nI_leI (by omega) (by decide)] at h4
          rw [nI_leI (by omega) (by omega)] at h5
          omega
        · exact Inv_day hC hM hR hW hRM hG ht (IK_eq hK f3 f4 (by rw [t1]) (fun a ha => t2 a (by omega))) f1 f2 (fun j _ => by rw [t1]) (fun a ha => t2 a (by omega)) t3
      | succ d ih =>
        intro j τk mk hj t1 t2 t3
        have hMk := HM_eq hM (τ' := τk) (fun j _ => by rw [t1]) (fun a ha => t2 a (by omega))
        rw [w_X7_bestSpeed_L7, r_isSpeed, zm_1, t1, hM.2.1]
        have hy : (1 : Int32) ≤ nI (j + 1) ∧ nI (j + 1) ≤ 4 ∧ nI (j + 1) ≤ nI S := by
          rw [show (1 : Int32) = nI 1 from rfl, show (4 : Int32) = nI 4 from rfl, nI_leI (by decide) (by omega), nI_leI (by omega) (by decide), nI_leI (by omega) (by omega)]
          omega
        refine zYes hy (m_isSafe hMk (by omega) (by omega) ?_)
        have es : msf P (mleft S W (j + 1) 0) n = sf (j + 1) := rfl
        rw [es]
        have ebj := eb j
        have goon : ∀ (τ' : zS) (m' : Nat → Int32), τ'.1 = τ0.1 → (∀ a, a ≠ 9 → τ'.2 a = τ0.2 a) → (∀ i, i < 389 → m' i = m i) → w_X7_bestSpeed_L7 (fun v2 τ2 => (mbs sf c M).1 = v2 ∧ Inv σ' τ2) (d + 1) (mbs sf c (j + 1)).1 (mbs sf c (j + 1)).2 (nI (j + 1) + 1) (zm τ' m') := fun τ' m' t1' t2' t3' => by
          rw [nI_1]
          exact ih (j + 1) τ' m' (by omega) t1' t2' t3'
        cases hs : sf (j + 1) with
        | false =>
          rw [hs, if_neg (by decide)] at ebj
          rw [ebj] at goon
          exact ⟨fun _ => goon τk mk t1 t2 t3, fun hh => absurd rfl hh⟩
        | true =>
          rw [hs, if_pos rfl] at ebj
          refine ⟨fun hh => absurd hh (by decide), fun _ => ?_⟩
          refine m_dayCost (ks' := 0) hMk (hH (j + 1) (by omega) (by omega) (by omega)) (by decide) rfl (by decide) (fun τ' m' t1' t2' e => ?_)
          have ec : mcs (mdc P (mday P F S W (j + 1) 0 n)) n = c (j + 1) := rfl
          rw [ec]
          have g1 := goon τ' m' (by rw [t1', t1]) (fun a ha => by rw [t2' a ha, t2 a ha]) (fun i hi => by rw [e i hi, t3 i hi])
          refine ⟨fun hh => ?_, fun hh => ⟨fun hh2 => ?_, fun hh2 => ?_⟩⟩
          · rw [mbs_neg sf c j (by omega)] at hh
            rw [if_pos hh] at ebj
            rw [ebj] at g1
            exact g1
          · rw [mbs_neg sf c j (by omega)] at hh
            rw [if_neg hh, if_pos hh2] at ebj
            rw [ebj] at g1
            exact g1
          · rw [mbs_neg sf c j (by omega)] at hh
            rw [if_neg hh, if_neg hh2] at ebj
            rw [ebj] at g1
            exact g1
    exact key M 0 τ0 m (by omega) rfl (fun _ _ => rfl) (fun _ _ => rfl)
  refine ⟨M + 1, ?_⟩
  have key : ∀ d j (σk : zS), j + d = M → (∀ a j, a < 30 ∨ 50 ≤ a → σk.2 a j = σ.2 a j) → (∀ a j, a ≠ 30 → σk.1 a j = σ.1 a j) → w_X6_bestSpeed_L7 (fun v σ2 => w_X7_bestSpeed (zm τ0 m) (fun v2 τ2 => v = v2 ∧ Inv σ2 τ2)) (d + 1) (mbs sf c j).1 (mbs sf c j).2 (nI (j + 1)) σk := by
    intro d
    induction d with
    | zero =>
      intro j σk hj f1 f2
      have ej : j = M := by omega
      subst ej
      rw [w_X6_bestSpeed_L7, f2 _ _ (by decide), a2, hMe]
      refine ⟨fun _ => ?_, fun hh => ?_⟩
      · exact ref σk (fun a i ha => f1 a i (by omega)) (fun a i ha => f2 a i (by omega)) (fun a i ha => f1 a i (by omega)) (f2 _ _ (by decide))
      · rw [nI_ltI (by omega) (by omega)] at hh
        omega
    | succ d ih =>
      intro j σk hj f1 f2
      have hCk := HC_eq hC (σ' := σk) (fun a i ha => f1 a i (by omega)) (fun a i ha => f2 a i (by omega))
      rw [w_X6_bestSpeed_L7, f2 _ _ (by decide), a2, hMe]
      refine ⟨fun hh => ?_, fun _ => ?_⟩
      · rw [nI_ltI (by omega) (by omega)] at hh
        omega
      refine s_isSafe hCk (by omega) (by omega) ?_
      have es : msf P (mleft S W (j + 1) 0) n = sf (j + 1) := rfl
      rw [es]
      have ebj := eb j
      have goon : ∀ (σ' : zS), (∀ a j, a < 30 ∨ 50 ≤ a → σ'.2 a j = σ.2 a j) → (∀ a j, a ≠ 30 → σ'.1 a j = σ.1 a j) → w_X6_bestSpeed_L7 (fun v σ2 => w_X7_bestSpeed (zm τ0 m) (fun v2 τ2 => v = v2 ∧ Inv σ2 τ2)) (d + 1) (mbs sf c (j + 1)).1 (mbs sf c (j + 1)).2 (nI (j + 1) + 1) σ' := fun σ' f1' f2' => by
        rw [nI_1]
        exact ih (j + 1) σ' (by omega) f1' f2'
      cases hs : sf (j + 1) with
      | false =>
        rw [hs, if_neg (by decide)] at ebj
        rw [ebj] at goon
        exact ⟨fun _ => goon σk f1 f2, fun hh => absurd rfl hh⟩
      | true =>
        rw [hs, if_pos rfl] at ebj
        refine ⟨fun hh => absurd hh (by decide), fun _ => ?_⟩
        refine s_playDay (ks := 0) hCk (hH (j + 1) (by omega) (by omega) (by omega)) (by decide) rfl (by decide) (fun σ' C' f1' f2' hC' hR' g' hD => ?_)
        have ec : mcs (mdc P (mday P F S W (j + 1) 0 n)) n = c (j + 1) := rfl
        rw [ec]
        have g1 := goon σ' (fun a i ha => by rw [f1' a i ha, f1 a i ha]) (fun a i ha => by rw [f2' a i ha, f2 a i ha])
        refine ⟨fun hh => ?_, fun hh => ⟨fun hh2 => ?_, fun hh2 => ?_⟩⟩
        · rw [if_pos hh] at ebj
          rw [ebj] at g1
          exact g1
        · rw [if_neg hh, if_pos hh2] at ebj
          rw [ebj] at g1
          exact g1
        · rw [if_neg hh, if_neg hh2] at ebj
          rw [ebj] at g1
          exact g1
  exact key M 0 σ (by omega) (fun _ _ _ => rfl) (fun _ _ _ => rfl)

/-! DAYS SIDE BY SIDE -/
def sgv (x0 : Int32) : Int32 := (x0 >>> ((31 : Int32) &&& 31)) ||| ((((-x0)).toUInt32 >>> (((31 : Int32)).toUInt32 &&& Int32.toUInt32 31)).toInt32)
theorem sgv_p : ∀ d, d < 1001 → sgv (nI d) = if d = 0 then 0 else 1 := by decide +kernel
theorem sgv_m : ∀ d, d < 1001 → sgv (0 - nI d) = if d = 0 then 0 else -1 := by decide +kernel
theorem zsub0 (a b : Int32) : a - (b + a) = 0 - b := by grind
theorem sgv_e {a b : Nat} (ha : a ≤ 1000) (hb : b ≤ 1000) : (sgv (nI a - nI b) = -1 ↔ a < b) ∧ (sgv (nI a - nI b) = 1 ↔ b < a) := by
  by_cases c : b ≤ a
  · rw [pk_sub c, sgv_p _ (by omega)]
    by_cases e : a - b = 0
    · rw [if_pos e]
      exact ⟨⟨fun hh => absurd hh (by decide), fun hh => by omega⟩, ⟨fun hh => absurd hh (by decide), fun hh => by omega⟩⟩
    · rw [if_neg e]
      exact ⟨⟨fun hh => absurd hh (by decide), fun hh => by omega⟩, ⟨fun hh => by omega, fun hh => rfl⟩⟩
  · have e : nI b = nI (b - a) + nI a := by
      rw [nI_add]
      congr 1
      omega
    rw [e, zsub0, sgv_m _ (by omega), if_neg (by omega)]
    exact ⟨⟨fun hh => by omega, fun hh => rfl⟩, ⟨fun hh => absurd hh (by decide), fun hh => by omega⟩⟩
theorem sub_le0 {a b : Nat} (ha : a ≤ 1000) (hb : b ≤ 1000) : (nI b - nI a ≤ 0 ↔ b ≤ a) ∧ (0 ≤ nI b - nI a ↔ a ≤ b) := by
  have e0 : (0 : Int32).toInt = 0 := by decide
  rw [sle, sle, pk_sub_toInt (by omega) (by omega), e0]
  omega
def mct (f : Nat → Nat → Bool) (A B : Nat → Nat) : Nat → Int32
  | 0 => 0
  | k + 1 => if f (A k) (B k) = true then mct f A B k + 1 else mct f A B k
def fls (a b : Nat) : Bool := decide (a < b)
def fgr (a b : Nat) : Bool := decide (b < a)
def mls (A B : Nat → Nat) : Nat → Int32
  | 0 => 0
  | k + 1 => mls A B k + (nI (B k) - nI (A k))
section BES
variable {σ0 σ τ : zS} {F S W V ks n T K N i : Nat} {P : Nat → Nat → Nat} {C : mC} {m : Nat → Int32} {Q : Int32 → zS → Prop} {A B : Nat → Nat}
theorem s_have (hC : HC σ 30 F S W V ks n P) (h : RB σ σ 30 n F T C) (g : GC n F C) (hi : i < 3) (hN : N ≤ n) (e62 : σ.2 62 i = nI N) (hA : ∀ p, p < N → A p ≤ 1000 ∧ mcost P T C p = nI (A p)) (hB : ∀ p, p < N → B p ≤ 1000 ∧ σ.2 (59 + i) p = nI (B p)) (x : Int32) (f : Nat → Nat → Bool) (hf : ∀ a b, a ≤ 1000 → b ≤ 1000 → (sgv (nI a - nI b) = x ↔ f a b = true)) (k : Q (mct f A B N) σ) : w_X3_howManyHave x (nI i) σ Q := by
  have hn := hC.2.2.2.2.2.2.2.2.1.1
  refine ⟨N + 1, ?_⟩
  have key : ∀ d j, j + d = N → w_X3_howManyHave_L6 Q (d + 1) x (nI i) (mct f A B j) (nI j) σ := by
    intro d
    induction d with
    | zero =>
      intro j hj
      have ej : j = N := by omega
      subst ej
      rw [w_X3_howManyHave_L6, nI_clamp (show i < 2 ^ 31 by omega), e62]
      exact ⟨vp_in_nI hi (by decide), fun _ => k, fun hh => absurd (Int32.le_refl _) hh⟩
    | succ d ih =>
      intro j hj
      have g1 := ih (j + 1) (by omega)
      rw [w_X3_howManyHave_L6, nI_clamp (show i < 2 ^ 31 by omega), e62, s_costOf hC h g (show j < n by omega), nI_clamp (show j < 2 ^ 31 by omega), (hA j (by omega)).2, (hB j (by omega)).2]
      refine ⟨vp_in_nI hi (by decide), fun hh => ?_, fun _ => ⟨vp_in_nI hi (by decide), v30 (by omega), ?_⟩⟩
      · rw [nI_leI (by omega) (by omega)] at hh
        omega
      unfold w_X3_howManyHave_J43
      rw [nI_1]
      have hs := hf (A j) (B j) (hA j (by omega)).1 (hB j (by omega)).1
      unfold mct at g1
      show (sgv (nI (A j) - nI (B j)) = x → _) ∧ (¬ sgv (nI (A j) - nI (B j)) = x → _)
      refine ⟨fun hh => ?_, fun hh => ?_⟩
      · rw [if_pos (hs.mp hh)] at g1
        exact g1
      · rw [if_neg (fun hx => hh (hs.mpr hx))] at g1
        exact g1
  exact key N 0 (by omega)
theorem s_less (hC : HC σ 30 F S W V ks n P) (h : RB σ σ 30 n F T C) (g : GC n F C) (hi : i < 3) (hN : N ≤ n) (e62 : σ.2 62 i = nI N) (hA : ∀ p, p < N → A p ≤ 1000 ∧ mcost P T C p = nI (A p)) (hB : ∀ p, p < N → B p ≤ 1000 ∧ σ.2 (59 + i) p = nI (B p)) (k : Q (mls A B N) σ) : w_X3_lessTogether (nI i) σ Q := by
  have hn := hC.2.2.2.2.2.2.2.2.1.1
  refine ⟨N + 1, ?_⟩
  have key : ∀ d j, j + d = N → w_X3_lessTogether_L5 Q (d + 1) (nI i) (mls A B j) (nI j) σ := by
    intro d
    induction d with
    | zero =>
      intro j hj
      have ej : j = N := by omega
      subst ej
      rw [w_X3_lessTogether_L5, nI_clamp (show i < 2 ^ 31 by omega), e62]
      exact ⟨vp_in_nI hi (by decide), fun _ => k, fun hh => absurd (Int32.le_refl _) hh⟩
    | succ d ih =>
      intro j hj
      rw [w_X3_lessTogether_L5, nI_clamp (show i < 2 ^ 31 by omega), e62, s_costOf hC h g (show j < n by omega), nI_clamp (show j < 2 ^ 31 by omega), (hA j (by omega)).2, (hB j (by omega)).2, nI_1]
      refine ⟨vp_in_nI hi (by decide), fun hh => ?_, fun _ => ⟨vp_in_nI hi (by decide), v30 (by omega), ih (j + 1) (by omega)⟩⟩
      rw [nI_leI (by omega) (by omega)] at hh
      omega
  exact key N 0 (by omega)
end BES
theorem st_beside : zStep_beside Inv := by
  intro σ τ hI x1 x2
  obtain ⟨F, S, W, V, n, K, P, C, m, τ0, rfl, hC, hM, hR, hW, hRM, hG, ht, hK⟩ := id hI
  obtain ⟨a1, a2, a3, a4, a5, a6, a7, a8, a9, b1, b2, b3⟩ := id hC
  obtain ⟨k1, k2, k3, k4, k5, k6, k7⟩ := id hK
  have hn := a9.1
  have hF := a8.2.1
  have eK : (zm τ0 m).1 0 16 = nI K := k5
  unfold w_X6_beside
  rw [s_within, k4]
  by_cases h1 : (0 : Int32) ≤ x1 ∧ x1 ≤ nI K - 1
  case neg =>
    refine zNo h1 ?_
    unfold w_X6_beside_J26
    show w_X7_beside x1 x2 (zm τ0 m) _
    unfold w_X7_beside
    rw [r_in, eK]
    exact zNo h1 ⟨rfl, hI⟩
  refine zYes h1 ?_
  rw [s_within]
  by_cases h2 : (0 : Int32) ≤ x2 ∧ x2 ≤ 2
  case neg =>
    refine zNo h2 ?_
    unfold w_X6_beside_J26
    show w_X7_beside x1 x2 (zm τ0 m) _
    unfold w_X7_beside
    rw [r_in, eK]
    refine zYes h1 ?_
    rw [r_in]
    exact zNo h2 ⟨rfl, hI⟩
  refine zYes h2 ?_
  have h1' := h1
  obtain ⟨i, hi, rfl⟩ := zrng1 (by omega) h1.1 h1.2
  have hi3 : i < 3 := by omega
  rw [b1]
  refine s_playDay (ks := 0) hC a8 (by decide) rfl (by decide) (fun σ' C' f1 f2 hC' hR' g' hD => ?_)
  have hcd : ∀ p, p < n → ∃ y, y ≤ 1000 ∧ mdc P (mday P F S W V 0 n) p = nI y := fun p hp => mdc_nI a8 a9 hp
  have hcc : ∀ p, p < n → mcost P C'.2.2.2.2.2.2.2.1 C' p = mdc P (mday P F S W V 0 n) p := fun p hp => (hD.1 p hp).1
  generalize hDD : mday P F S W V 0 n = D at *
  obtain ⟨N, hN, n2, n3, n4⟩ := k7 i hi
  let A : Nat → Nat := fun p => (mdc P D p).toNatClampNeg
  let B : Nat → Nat := fun p => (σ.2 (59 + i) p).toNatClampNeg
  have hA : ∀ p, p < N → A p ≤ 1000 ∧ mdc P D p = nI (A p) := fun p hp => by
    obtain ⟨y, hy, e⟩ := hcd p (by omega)
    show (mdc P D p).toNatClampNeg ≤ 1000 ∧ mdc P D p = nI (mdc P D p).toNatClampNeg
    rw [e, nI_clamp (by omega)]
    exact ⟨hy, rfl⟩
  have hB : ∀ p, p < N → B p ≤ 1000 ∧ σ.2 (59 + i) p = nI (B p) := fun p hp => by
    obtain ⟨y, hy, e⟩ := (n4 p hp).2
    show (σ.2 (59 + i) p).toNatClampNeg ≤ 1000 ∧ σ.2 (59 + i) p = nI (σ.2 (59 + i) p).toNatClampNeg
    rw [e, nI_clamp (by omega)]
    exact ⟨hy, rfl⟩
  have hA' : ∀ p, p < N → A p ≤ 1000 ∧ mcost P C'.2.2.2.2.2.2.2.1 C' p = nI (A p) := fun p hp => ⟨(hA p hp).1, by rw [hcc p (by omega)]; exact (hA p hp).2⟩
  have hB' : ∀ p, p < N → B p ≤ 1000 ∧ σ'.2 (59 + i) p = nI (B p) := fun p hp => ⟨(hB p hp).1, by rw [f1 _ _ (by omega)]; exact (hB p hp).2⟩
  have e62 : σ'.2 62 i = nI N := by rw [f1 _ _ (by omega)]; exact n2
  have ref : ∀ v : Int32, (x2 = 0 → v = mct fls A B N) → (x2 = 1 → v = mct fgr A B N) → (¬ x2 = 0 → ¬ x2 = 1 → v = mls A B N) → w_X7_beside (nI i) x2 (zm τ0 m) (fun v2 τ2 => v = v2 ∧ Inv σ' τ2) := fun v r0 r1 r2 => by
    unfold w_X7_beside
    rw [r_in, eK]
    refine zYes h1' ?_
    rw [r_in]
    refine zYes h2 ?_
    rw [zm_1, hM.2.2.2.1]
    refine m_dayBy (ks' := 0) hM a8 (by decide) rfl (by decide) (fun τ' m' t1 t2 t3 hM' hRm gd => ⟨N + 1, ?_⟩)
    rw [hDD] at hRm gd
    have key : ∀ d j, j + d = N → w_X7_beside_L47 (fun v2 τ2 => v = v2 ∧ Inv σ' τ2) (d + 1) (nI i) x2 (mct fls A B j) (mct fgr A B j) (mls A B j) (nI j) (zm τ' m') := by
      intro d
      induction d with
      | zero =>
        intro j hj
        have ej : j = N := by omega
        subst ej
        rw [w_X7_beside_L47, nI_clamp (show i < 2 ^ 31 by omega), zm_n _ _ (by decide), t2 _ (by decide), n3]
        refine ⟨vp_in_nI hi3 (by decide), fun _ => ?_, fun hh => absurd (Int32.le_refl _) hh⟩
        refine m_returns (fun m'' e => ?_)
        have hI' : Inv σ' (zm τ' m'') := Inv_day hC hM hR hW hRM hG ht (IK_eq hK (fun a j ha => f1 a j (by omega)) (f2 _ _ (by decide)) (by rw [t1]) (fun a ha => t2 a (by omega))) (fun a j ha => f1 a j (by omega)) (fun a j ha => f2 a j (by omega)) (fun j _ => by rw [t1]) (fun a ha => t2 a (by omega)) (fun j hj => by rw [e j hj, t3 j hj])
        exact ⟨fun h0 => ⟨r0 h0, hI'⟩, fun h0 => ⟨fun h1 => ⟨r1 h1, hI'⟩, fun h1 => ⟨r2 h0 h1, hI'⟩⟩⟩
      | succ d ih =>
        intro j hj
        have g1 := ih (j + 1) (by omega)
        have eix : (30 : Int32) * nI i + nI j = nI (30 * i + j) := by rw [show (30 : Int32) = nI 30 from rfl, pk_mul, nI_add]
        have ecost : mcost P D.2.2.2.2.2.2.2.1 D j = nI (A j) := (hA j (by omega)).2
        rw [w_X7_beside_L47, nI_clamp (show i < 2 ^ 31 by omega), zm_n _ _ (show 11 ≠ 8 by decide), t2 _ (show 11 ≠ 9 by decide), n3, eix, nI_clamp (show 30 * i + j < 2 ^ 31 by omega), mr_costOf hM' hRm gd (show j < n by omega), ecost, zm_n _ _ (show 12 ≠ 8 by decide), t2 _ (show 12 ≠ 9 by decide), ← (n4 j (by omega)).1, (hB j (by omega)).2]
        refine ⟨vp_in_nI hi3 (by decide), fun hh => ?_, fun _ => ⟨vp_in_nI (by omega) (by decide), ?_⟩⟩
        · rw [nI_leI (by omega) (by omega)] at hh
          omega
        unfold w_X7_beside_J90 w_X7_beside_J104
        obtain ⟨s1, s2⟩ := sub_le0 (hA j (by omega)).1 (hB j (by omega)).1
        rw [s1, s2, nI_1]
        have ef : mct fls A B (j + 1) = if fls (A j) (B j) = true then mct fls A B j + 1 else mct fls A B j := by rw [mct]
        have eg : mct fgr A B (j + 1) = if fgr (A j) (B j) = true then mct fgr A B j + 1 else mct fgr A B j := by rw [mct]
        have el : mls A B (j + 1) = mls A B j + (nI (B j) - nI (A j)) := by rw [mls]
        rw [ef, eg, el] at g1
        unfold fls fgr at g1
        simp only [decide_eq_true_eq] at g1
        refine ⟨fun c1 => ⟨fun c2 => ?_, fun c2 => ?_⟩, fun c1 => ⟨fun c2 => ?_, fun c2 => ?_⟩⟩
        · rw [if_neg (by omega), if_neg (by omega)] at g1
          rw [Int32.add_zero, Int32.add_zero]
          exact g1
        · rw [if_neg (by omega), if_pos (by omega)] at g1
          rw [Int32.add_zero]
          exact g1
        · rw [if_pos (by omega), if_neg (by omega)] at g1
          rw [Int32.add_zero]
          exact g1
        · exact absurd (show B j ≤ A j by omega) c1
    exact key N 0 (by omega)
  refine ⟨fun h0 => ?_, fun h0 => ⟨fun hb => ?_, fun hb => ?_⟩⟩
  · refine s_have hC' hR' g' hi3 hN e62 hA' hB' (-1) fls (fun a b ha hb => ?_) ?_
    · rw [(sgv_e ha hb).1]
      unfold fls
      rw [decide_eq_true_eq]
    · exact ref _ (fun _ => rfl) (fun hx => absurd (h0.symm.trans hx) (by decide)) (fun hx => absurd h0 hx)
  · refine s_have hC' hR' g' hi3 hN e62 hA' hB' 1 fgr (fun a b ha hb => ?_) ?_
    · rw [(sgv_e ha hb).2]
      unfold fgr
      rw [decide_eq_true_eq]
    · exact ref _ (fun hx => absurd hx h0) (fun _ => rfl) (fun _ hx => absurd hb hx)
  · refine s_less hC' hR' g' hi3 hN e62 hA' hB' ?_
    exact ref _ (fun hx => absurd hx h0) (fun hx => absurd hx hb) (fun _ _ => rfl)

section WS3
variable {σ τ : zS} {F S W V ks n : Nat} {P : Nat → Nat → Nat} {C : mC} {m : Nat → Int32} {Q : Int32 → zS → Prop}
def wA (P : Nat → Nat → Nat) (F S W n : Nat) (C : mC) (a : Nat) (c : Nat) : Prop := ∃ a', a' < a ∧ ∃ d, d < 3 * S + 1 ∧ wbk P F S W n C a' ≤ d ∧ c = wct a' d
def wA2 (P : Nat → Nat → Nat) (F S W n : Nat) (C : mC) (a d : Nat) (c : Nat) : Prop := wA P F S W n C a c ∨ ∃ d', d' < d ∧ wbk P F S W n C a ≤ d' ∧ c = wct a d'
theorem m_inner (hM : HM τ F S W V ks n P) (h : RM m n F C) (g : GC n F C) (hmv : C.2.2.2.2.2.2.2.2.1 < (2 * F + 2) * S) {a : Nat} (ha : a ≤ 3 * S) {K17 : Int32 → Int32 → zS → Prop} (k : ∀ v, isB (wA P F S W n C (a + 1)) v → K17 v (nI (a + 1)) (zm τ m)) : ∀ (v : Int32), isB (wA P F S W n C a) v → w_X7_wheel_L29 Q K17 (3 * S + 2) v (nI a) 0 (zm τ m) := by
  obtain ⟨a1, a2, a3, a4, a5, a6, a7, a8, a9⟩ := id hM
  obtain ⟨c1, c2, c3, c4, c5, c6, c7, c8, c9⟩ := a8
  have e3 : (3 : Int32) * nI S = nI (3 * S) := by rw [show (3 : Int32) = nI 3 from rfl, pk_mul]
  have key : ∀ d x (v : Int32), x + d = 3 * S + 1 → isB (wA2 P F S W n C a x) v → w_X7_wheel_L29 Q K17 (d + 1) v (nI a) (nI x) (zm τ m) := by
    intro d
    induction d with
    | zero =>
      intro x v hx hv
      have ex : x = 3 * S + 1 := by omega
      subst ex
      rw [w_X7_wheel_L29, zm_1, a2, e3, nI_ltI (by omega) (by omega), nI_1]
      refine ⟨fun _ => k v (isB_ext (fun c => ?_) hv), fun hh => absurd (by omega) hh⟩
      constructor
      · rintro (⟨a', q1, q2⟩ | ⟨d', q1, q2, q3⟩)
        · exact ⟨a', by omega, q2⟩
        · exact ⟨a, by omega, d', q1, q2, q3⟩
      · rintro ⟨a', q1, d', q2, q3, q4⟩
        by_cases e : a' = a
        · subst e
          exact Or.inr ⟨d', q2, q3, q4⟩
        · exact Or.inl ⟨a', by omega, d', q2, q3, q4⟩
    | succ d ih =>
      intro x v hx hv
      have hct : wct a x ≤ 1000 := by
        unfold wct
        split <;> omega
      have fin : w_X7_wheel_J57 Q K17 (fun a1 a2 a3 aσ => w_X7_wheel_L29 Q K17 (d + 1) a1 a2 a3 aσ) v (nI a) (nI x) (nI (wct a x)) (zm τ m) := by
        have no : ¬ wbk P F S W n C a ≤ x → ∀ v, isB (wA2 P F S W n C a x) v → isB (wA2 P F S W n C a (x + 1)) v := fun hn v hv => isB_ext (fun c => by
          constructor
          · rintro (q | ⟨d', q1, q2, q3⟩)
            · exact Or.inl q
            · exact Or.inr ⟨d', by omega, q2, q3⟩
          · rintro (q | ⟨d', q1, q2, q3⟩)
            · exact Or.inl q
            · by_cases e : d' = x
              · subst e
                exact absurd q2 hn
              · exact Or.inr ⟨d', by omega, q2, q3⟩) hv
        have step : wbk P F S W n C a ≤ x → ∀ c, (wA2 P F S W n C a x c ∨ c = wct a x) ↔ wA2 P F S W n C a (x + 1) c := fun hle c => by
          constructor
          · rintro ((q | ⟨d', q1, q2, q3⟩) | q)
            · exact Or.inl q
            · exact Or.inr ⟨d', by omega, q2, q3⟩
            · exact Or.inr ⟨x, by omega, hle, q⟩
          · rintro (q | ⟨d', q1, q2, q3⟩)
            · exact Or.inl (Or.inl q)
            · by_cases e : d' = x
              · subst e
                exact Or.inr q3
              · exact Or.inl (Or.inr ⟨d', by omega, q2, q3⟩)
        have fr : (v = -4 ∨ ¬ v ≤ nI (wct a x)) → w_X7_wheel_J69 Q K17 (fun a1 a2 a3 aσ => w_X7_wheel_L29 Q K17 (d + 1) a1 a2 a3 aσ) v (nI a) (nI x) (nI (wct a x)) (zm τ m) := fun hl => by
          unfold w_X7_wheel_J69
          refine m_frees hM h g hmv (show x ≤ 3 * S by omega) ha (fun hle => ⟨fun hh => absurd hh (by decide), fun _ => ?_⟩) (fun hn => ⟨fun _ => ?_, fun hh => absurd rfl hh⟩)
          · unfold w_X7_wheel_J84
            rw [nI_1]
            exact ih (x + 1) _ (by omega) (isB_ext (step hle) (isB_take hv hct hl))
          · unfold w_X7_wheel_J83 w_X7_wheel_J84
            rw [nI_1]
            exact ih (x + 1) _ (by omega) (no hn v hv)
        unfold w_X7_wheel_J57
        refine ⟨fun h0 => fr (Or.inl ((isB_neg hv).mp h0)), fun h0 => ⟨fun hl => ?_, fun hl => fr (Or.inr hl)⟩⟩
        have hn4 : ¬ v = -4 := fun e => h0 ((isB_neg hv).mpr e)
        unfold w_X7_wheel_J83 w_X7_wheel_J84
        rw [nI_1]
        refine ih (x + 1) _ (by omega) ?_
        by_cases hle : wbk P F S W n C a ≤ x
        · exact isB_ext (step hle) (isB_keep hv hct hn4 hl)
        · exact no hle v hv
      rw [w_X7_wheel_L29, zm_1, a2, e3, nI_ltI (by omega) (by omega)]
      refine ⟨fun hh => by omega, fun _ => ⟨fun hle => ?_, fun hle => ?_⟩⟩
      · rw [nI_leI (by omega) (by omega)] at hle
        have es : nI a + (2 : Int32) * nI x = nI (wct a x) := by
          rw [show (2 : Int32) = nI 2 from rfl, pk_mul, nI_add]
          congr 1
          unfold wct
          split <;> omega
        rw [es]
        exact fin
      · rw [nI_leI (by omega) (by omega)] at hle
        have es : (2 : Int32) * nI a + nI x = nI (wct a x) := by
          rw [show (2 : Int32) = nI 2 from rfl, pk_mul, nI_add]
          congr 1
          unfold wct
          split <;> omega
        rw [es]
        exact fin
  intro v hv
  refine key (3 * S + 1) 0 v (by omega) (isB_ext (fun c => ?_) hv)
  constructor
  · exact fun q => Or.inl q
  · rintro (q | ⟨d', q1, -⟩)
    · exact q
    · exact absurd q1 (Nat.not_lt_zero d')
theorem m_wheel17 (hM : HM τ F S W V ks n P) (h : RM m n F C) (g : GC n F C) (hmv : C.2.2.2.2.2.2.2.2.1 < (2 * F + 2) * S) (k : ∀ v, isB (wA P F S W n C (3 * S + 1)) v → Q v (zm τ m)) : ∃ m17, w_X7_wheel_L17 Q m17 (-4) 0 (zm τ m) := by
  obtain ⟨a1, a2, a3, a4, a5, a6, a7, a8, a9⟩ := id hM
  obtain ⟨c1, c2, c3, c4, c5, c6, c7, c8, c9⟩ := a8
  have e3 : (3 : Int32) * nI S = nI (3 * S) := by rw [show (3 : Int32) = nI 3 from rfl, pk_mul]
  refine ⟨3 * S + 2, ?_⟩
  have key : ∀ d x (v : Int32), x + d = 3 * S + 1 → isB (wA P F S W n C x) v → w_X7_wheel_L17 Q (d + 1) v (nI x) (zm τ m) := by
    intro d
    induction d with
    | zero =>
      intro x v hx hv
      have ex : x = 3 * S + 1 := by omega
      subst ex
      rw [w_X7_wheel_L17, zm_1, a2, e3, nI_ltI (by omega) (by omega)]
      exact ⟨fun _ => k v hv, fun hh => absurd (by omega) hh⟩
    | succ d ih =>
      intro x v hx hv
      rw [w_X7_wheel_L17, zm_1, a2, e3, nI_ltI (by omega) (by omega)]
      refine ⟨fun hh => by omega, fun _ => ⟨3 * S + 2, ?_⟩⟩
      exact m_inner hM h g hmv (show x ≤ 3 * S by omega) (fun v' hv' => ih (x + 1) v' (by omega) hv') v hv
  exact key (3 * S + 1) 0 (-4) (by omega) (Or.inl ⟨rfl, fun c hc => by obtain ⟨a', q1, -⟩ := hc; exact absurd q1 (Nat.not_lt_zero a')⟩)
end WS3
theorem st_wheel : zStep_wheel Inv := by
  intro σ τ hI
  obtain ⟨F, S, W, V, n, K, P, C, m, τ0, rfl, hC, hM, hR, hW, hRM, hG, ht, hK⟩ := id hI
  have hmv := hG.2.2.2
  have v2 : vp_in (2 : Int32) 389 := vpk (k := 2) rfl (by decide) (by decide)
  have em2 : (zm τ0 m).2 8 (2 : Int32).toNatClampNeg = zB01 C.2.2.2.2.2.2.2.2.2.1 := by rw [show (2 : Int32).toNatClampNeg = 2 from by decide, zm_8]; exact hRM.2.2.2.2.1
  unfold w_X6_wheel
  rw [show σ.1 10 16 = zB01 C.2.2.2.2.2.2.2.2.2.1 from hR.2.2.2.2.2.2.1]
  cases hsp : C.2.2.2.2.2.2.2.2.2.1 with
  | false =>
    refine ⟨fun _ => ?_, fun hh => absurd rfl hh⟩
    show w_X7_wheel (zm τ0 m) _
    unfold w_X7_wheel
    rw [em2, hsp]
    exact ⟨v2, fun _ => ⟨rfl, hI⟩, fun hh => absurd rfl hh⟩
  | true =>
    refine ⟨fun hh => absurd hh (by decide), fun _ => ?_⟩
    refine s_fewest hC hR hW hmv (fun σ' v i1 i2 hv => ?_)
    show w_X7_wheel (zm τ0 m) _
    unfold w_X7_wheel
    rw [em2, hsp]
    refine ⟨v2, fun hh => absurd hh (by decide), fun _ => ?_⟩
    refine m_wheel17 hM hRM hG.1 hmv (fun v' hv' => ⟨isB_uniq hv hv' (fun c hc => ?_) (fun c hc => ?_), ?_⟩)
    · obtain ⟨x, q1, q2, q3⟩ := hc
      exact ⟨x, q1, wbk P F S W n C x, by omega, Nat.le_refl _, q3⟩
    · obtain ⟨x, q1, d, q2, q3, q4⟩ := hc
      exact ⟨wct x (wbk P F S W n C x), ⟨x, q1, by omega, rfl⟩, by rw [q4]; exact wct_le q3⟩
    · exact Inv_day hC hM hR hW hRM hG ht (IK_eq hK (fun a i ha => i2 a i (by omega) (by omega)) (by rw [i1]) rfl (fun _ _ => rfl)) (fun a i ha => i2 a i (by omega) (by omega)) (fun a i ha => by rw [i1]) (fun _ _ => rfl) (fun _ _ => rfl) (fun _ _ => rfl)

/-! a course begins -/
def C00 : mC := (fun _ => 0, fun _ => 0, fun _ => 0, fun _ => [], fun _ => 0, fun _ => 0, fun _ => 0, 0, 0, false, fun _ => false, 0)
theorem GT_00 {P : Nat → Nat → Nat} {F S n : Nat} (hS : 0 < S) : GT P F S n C00 := by
  refine ⟨⟨fun p _ => ⟨Nat.zero_le _, fun h => absurd h (by show ¬ (0 : Nat) = 1; decide), fun h => absurd h (by show ¬ (0 : Nat) = 2; decide), fun _ => (by show (0 : Nat) < 100000; decide)⟩, fun f _ => ⟨List.nodup_nil, fun q hq => absurd hq List.not_mem_nil⟩, by show (0 : Nat) < 100000; decide⟩, fun _ _ _ => rfl, fun _ _ _ => Nat.zero_le _, ?_⟩
  show 0 < (2 * F + 2) * S
  exact Nat.mul_pos (by omega) hS
theorem wsm_00 {P : Nat → Nat → Nat} {b : Nat} : ∀ n, wsm P C00 b n = 0
  | 0 => rfl
  | n + 1 => by
    show wsm P C00 b n + (if (0 : Nat) = 2 ∧ (0 : Nat) = b then P 3 n else 0) = 0
    rw [wsm_00 n, if_neg (by omega)]
theorem s_fill {σ : zS} {Q : Int32 → zS → Prop} (a ln : Nat) (x : Int32) (hl : ln < 2 ^ 31) (k : ∀ σ' : zS, σ'.1 = σ.1 → (∀ a' j, σ'.2 a' j = if a' = a ∧ j < ln then x else σ.2 a' j) → Q 0 σ') : w_J7_fill_53178 a ln x σ Q := by
  refine ⟨ln + 1, ?_⟩
  have key : ∀ d j (σk : zS), j + d = ln → σk.1 = σ.1 → (∀ a' i, σk.2 a' i = if a' = a ∧ i < j then x else σ.2 a' i) → w_J7_fill_53178_L5 a ln Q (d + 1) x (nI j) (nI ln) σk := by
    intro d
    induction d with
    | zero =>
      intro j σk hj h1 h2
      have ej : j = ln := by omega
      subst ej
      rw [w_J7_fill_53178_L5]
      exact ⟨fun _ => k σk h1 h2, fun hh => absurd (Int32.le_refl _) hh⟩
    | succ d ih =>
      intro j σk hj h1 h2
      rw [w_J7_fill_53178_L5, nI_1, nI_clamp (show j < 2 ^ 31 by omega), zlet_def]
      refine ⟨fun hh => ?_, fun _ => ⟨vp_in_nI (by omega) hl, ih (j + 1) _ (by omega) h1 (fun a' i => ?_)⟩⟩
      · rw [nI_leI hl (by omega)] at hh
        omega
      · rw [zA_2]
        by_cases e : a' = a ∧ i = j
        · rw [if_pos e, if_pos (by omega)]
        · rw [if_neg e, h2]
          by_cases e2 : a' = a ∧ i < j
          · rw [if_pos e2, if_pos (by omega)]
          · rw [if_neg e2, if_neg (by omega)]
  exact key ln 0 σ (by omega) rfl (fun a' i => by rw [if_neg (by omega)])
theorem s_begin {σ : zS} {Q : Int32 → zS → Prop} (r : Nat) (x2 x3 : Int32) {n F : Nat} (hn : n ≤ 30) (hF : F ≤ 8) (k : ∀ σ' : zS, (∀ a j, a < r ∨ r + 20 ≤ a → σ'.2 a j = σ.2 a j) → (∀ a j, a ≠ r → σ'.1 a j = σ.1 a j) → σ'.1 r 11 = x2 → σ'.1 r 12 = x3 → RB σ' σ' r n F 0 C00 → (∀ b, b < 18 → σ'.2 (r + 15) b = 0) → Q 0 σ') : w_X0_begin r x2 x3 σ Q := by
  unfold w_X0_begin
  simp only [zlet_def]
  refine ⟨Or.inl trivial, ?_⟩
  refine s_fill (r + 1) 30 0 (by decide) (fun s1 i1 r1 => ?_)
  refine s_fill (r + 4) 30 0 (by decide) (fun s2 i2 r2 => ?_)
  refine s_fill (r + 14) 8 0 (by decide) (fun s3 i3 r3 => ?_)
  refine s_fill (r + 15) 18 0 (by decide) (fun s4 i4 r4 => ?_)
  refine ⟨9, ?_⟩
  have hi : s4.1 = (zI (zI (zI (zI (zI (zI σ r 11 x2) r 12 x3) r 13 0) r 14 0) r 15 0) r 16 0).1 := by rw [i4, i3, i2, i1]
  have key : ∀ d j (σk : zS), j + d = 8 → σk.1 = s4.1 → (∀ a i, σk.2 a i = if (a = r + 17 ∨ a = r + 18 ∨ a = r + 19) ∧ i < j then 0 else s4.2 a i) → w_X0_begin_L70 r Q (d + 1) (nI j) σk := by
    intro d
    induction d with
    | zero =>
      intro j σk hj h1 h2
      have ej : j = 8 := by omega
      subst ej
      rw [w_X0_begin_L70]
      refine ⟨fun _ => ?_, fun hh => absurd (Int32.le_refl _) hh⟩
      have hr : ∀ a i, σk.2 a i = if (a = r + 17 ∨ a = r + 18 ∨ a = r + 19) ∧ i < 8 then 0 else if a = r + 15 ∧ i < 18 then 0 else if a = r + 14 ∧ i < 8 then 0 else if a = r + 4 ∧ i < 30 then 0 else if a = r + 1 ∧ i < 30 then 0 else σ.2 a i := fun a i => by
        rw [h2, r4, r3, r2, r1]
        rfl
      have hint : ∀ a i, σk.1 a i = if a = r ∧ i = 16 then 0 else if a = r ∧ i = 15 then 0 else if a = r ∧ i = 14 then 0 else if a = r ∧ i = 13 then 0 else if a = r ∧ i = 12 then x3 else if a = r ∧ i = 11 then x2 else σ.1 a i := fun a i => by
        rw [h1, hi]
        rfl
      refine k σk (fun a i ha => ?_) (fun a i ha => ?_) ?_ ?_ ⟨⟨fun _ _ _ => rfl, fun _ _ _ => rfl, rfl, rfl⟩, fun p hp => ?_, fun f hf => ?_, ?_, ?_, ?_, ?_, fun p hp hp2 => ?_⟩ (fun b hb => ?_)
      · rw [hr, if_neg (by omega), if_neg (by omega), if_neg (by omega), if_neg (by omega), if_neg (by omega)]
      · rw [hint, if_neg (by omega), if_neg (by omega), if_neg (by omega), if_neg (by omega), if_neg (by omega), if_neg (by omega)]
      · rw [hint, if_neg (by omega), if_neg (by omega), if_neg (by omega), if_neg (by omega), if_neg (by omega), if_pos ⟨rfl, rfl⟩]
      · rw [hint, if_neg (by omega), if_neg (by omega), if_neg (by omega), if_neg (by omega), if_pos ⟨rfl, rfl⟩]
      · refine ⟨?_, fun hh => absurd hh (by show ¬ ((0 : Nat) = 1 ∨ (0 : Nat) = 2); decide), fun hh => absurd hh (by show ¬ ((0 : Nat) = 3 ∨ (0 : Nat) = 4); decide), ?_⟩
        · rw [hr, if_neg (by omega), if_neg (by omega), if_neg (by omega), if_neg (by omega), if_pos (by omega)]
          rfl
        · rw [hr, if_neg (by omega), if_neg (by omega), if_neg (by omega), if_pos (by omega)]
          rfl
      · refine ⟨?_, ?_, ?_, fun i q hq => absurd hq (by show ¬ ([] : List Nat)[i]? = some q; simp), ?_⟩
        · rw [hr, if_neg (by omega), if_neg (by omega), if_pos (by omega)]
          rfl
        · rw [hr, if_pos (by omega)]
          rfl
        · rw [hr, if_pos (by omega)]
          rfl
        · rw [hr, if_pos (by omega)]
          rfl
      · rw [hint, if_neg (by omega), if_neg (by omega), if_neg (by omega), if_pos ⟨rfl, rfl⟩]
        rfl
      · rw [hint, if_neg (by omega), if_neg (by omega), if_pos ⟨rfl, rfl⟩]
        rfl
      · rw [hint, if_neg (by omega), if_pos ⟨rfl, rfl⟩]
        rfl
      · rw [hint, if_pos ⟨rfl, rfl⟩]
        rfl
      · rw [hr (r + 1), if_neg (by omega), if_neg (by omega), if_neg (by omega), if_neg (by omega), if_pos (by omega), hr (r + 4), if_neg (by omega), if_neg (by omega), if_neg (by omega), if_pos (by omega)]
        exact ⟨rfl, rfl⟩
      · rw [hr, if_neg (by omega), if_pos (by omega)]
    | succ d ih =>
      intro j σk hj h1 h2
      rw [w_X0_begin_L70, nI_1, c8 (show j < 8 by omega), cl0, cl1]
      simp only [zlet_def]
      refine ⟨fun hh => ?_, fun _ => ⟨vpk (k := 0) rfl (by decide) (by decide), v8 (by omega), vpk (k := 1) rfl (by decide) (by decide), v8 (by omega), v8 (by omega), Or.inl trivial, ih (j + 1) _ (by omega) h1 (fun a i => ?_)⟩⟩
      · rw [show (8 : Int32) = nI 8 from rfl, nI_leI (by decide) (by omega)] at hh
        omega
      · rw [zA_2, zA_2, zA_2, h2]
        by_cases e1 : a = r + 19 ∧ i = j
        · rw [if_pos e1, if_pos (by omega)]
        · rw [if_neg e1]
          by_cases e2 : a = r + 17 + 1 ∧ i = j
          · rw [if_pos e2, if_pos (by omega)]
          · rw [if_neg e2]
            by_cases e3 : a = r + 17 + 0 ∧ i = j
            · rw [if_pos e3, if_pos (by omega)]
            · rw [if_neg e3]
              by_cases e4 : (a = r + 17 ∨ a = r + 18 ∨ a = r + 19) ∧ i < j
              · rw [if_pos e4, if_pos (by omega)]
              · rw [if_neg e4, if_neg (by omega)]
  exact key 8 0 s4 (by omega) rfl (fun a i => by rw [if_neg (by omega)])
theorem m_begins {τ : zS} {m : Nat → Int32} {Q : Int32 → zS → Prop} {n F : Nat} (hn : n ≤ 30) (hF : F ≤ 8) (k : ∀ m', RM m' n F C00 → Q 0 (zm τ m')) : w_X7_begins (zm τ m) Q := by
  refine ⟨390, ?_⟩
  have key : ∀ d j (mk : Nat → Int32), j + d = 389 → (∀ i, i < j → mk i = if 35 ≤ i ∧ i ≤ 94 then -4 else 0) → w_X7_begins_L2 Q (d + 1) (nI j) (zm τ mk) := by
    intro d
    induction d with
    | zero =>
      intro j mk hj h2
      have ej : j = 389 := by omega
      subst ej
      rw [w_X7_begins_L2]
      refine ⟨fun _ => k mk ⟨fun p hp => ?_, fun f hf => ?_, ?_, ?_, ?_, fun f hf => ?_, ?_, fun p hp hp2 => ?_⟩, fun hh => absurd (Int32.le_refl _) hh⟩
      · refine ⟨?_, fun hh => absurd hh (by show ¬ ((0 : Nat) = 1 ∨ (0 : Nat) = 2); decide), fun hh => absurd hh (by show ¬ ((0 : Nat) = 3 ∨ (0 : Nat) = 4); decide), ?_⟩
        · rw [h2 _ (by omega), if_neg (by omega)]
          rfl
        · rw [h2 _ (by omega), if_neg (by omega)]
          rfl
      · refine ⟨?_, ?_, ?_, fun i q hq => absurd hq (by show ¬ ([] : List Nat)[i]? = some q; simp)⟩
        · rw [h2 _ (by omega), if_neg (by omega)]
          rfl
        · rw [h2 _ (by omega), if_neg (by omega)]
          rfl
        · rw [h2 _ (by omega), if_neg (by omega)]
          rfl
      · rw [h2 _ (by omega), if_neg (by omega)]
        rfl
      · rw [h2 _ (by omega), if_neg (by omega)]
        rfl
      · rw [h2 _ (by omega), if_neg (by omega)]
        rfl
      · rw [h2 _ (by omega), if_neg (by omega)]
        exact b_0 f
      · rw [h2 _ (by omega), if_neg (by omega)]
        rfl
      · rw [h2 _ (by omega), if_neg (by omega), h2 _ (by omega), if_neg (by omega)]
        exact ⟨rfl, rfl⟩
    | succ d ih =>
      intro j mk hj h2
      rw [w_X7_begins_L2, r_in]
      unfold w_X7_begins_J31
      rw [nI_1, nI_clamp (show j < 2 ^ 31 by omega)]
      simp only [zlet_def, zm_A]
      have hv : vp_in (nI j) 389 := vp_in_nI (by omega) (by decide)
      have step : ∀ v, v = (if 35 ≤ j ∧ j ≤ 94 then (-4 : Int32) else 0) → w_X7_begins_L2 Q (d + 1) (nI (j + 1)) (zm τ (upd mk j v)) := fun v hv' => by
        refine ih (j + 1) _ (by omega) (fun i hi => ?_)
        simp only [upd_e]
        by_cases e : i = j
        · rw [if_pos e, hv', e]
        · rw [if_neg e]
          exact h2 i (by omega)
      refine ⟨fun hh => ?_, fun _ => ?_⟩
      · rw [show (389 : Int32) = nI 389 from rfl, nI_leI (by decide) (by omega)] at hh
        omega
      have ec : ((35 : Int32) ≤ nI j ∧ nI j ≤ (94 : Int32)) ↔ (35 ≤ j ∧ j ≤ 94) := by
        rw [show (35 : Int32) = nI 35 from rfl, show (94 : Int32) = nI 94 from rfl, nI_leI (by decide) (by omega), nI_leI (by omega) (by decide)]
      by_cases c : 35 ≤ j ∧ j ≤ 94
      · exact zYes (ec.mpr c) ⟨hv, step _ (by rw [if_pos c])⟩
      · exact zNo (fun hh => c (ec.mp hh)) ⟨hv, step _ (by rw [if_neg c])⟩
  exact key 389 0 m (by omega) (fun i hi => absurd hi (Nat.not_lt_zero i))
theorem st_anew : zStep_anew Inv := by
  intro σ τ hI
  obtain ⟨F, S, W, V, n, K, P, C, m, τ0, rfl, hC, hM, hR, hW, hRM, hG, ht, hK⟩ := id hI
  obtain ⟨a1, a2, a3, a4, a5, a6, a7, a8, a9, b1, b2, b3⟩ := id hC
  unfold w_X6_anew
  refine s_begin 10 _ _ a9.1 a8.2.1 (fun σ' f1 f2 f3 f4 hR' hw' => ?_)
  show w_X7_anew (zm τ0 m) _
  unfold w_X7_anew
  rw [cl0, zm_8, hRM.2.2.1]
  refine ⟨vpc0, m_begins a9.1 a8.2.1 (fun m' hm' => ⟨hR.2.2.2.1, ?_⟩)⟩
  refine ⟨F, S, W, V, n, K, P, C00, m', τ0, rfl, ?_, hM, hR', fun b hb => ?_, hm', GT_00 (by have := a8.2.2.1; omega), by show (0 : Nat) ≤ 2000; decide, ?_⟩
  · refine ⟨by rw [f2 _ _ (by decide)]; exact a1, by rw [f2 _ _ (by decide)]; exact a2, by rw [f2 _ _ (by decide)]; exact a3, by rw [f2 _ _ (by decide)]; exact a4, by rw [f2 _ _ (by decide)]; exact a5, by rw [f2 _ _ (by decide)]; exact a6, fun a ha p hp => by rw [f1 _ _ (by omega)]; exact a7 a ha p hp, a8, a9, by rw [f3]; exact b1, ⟨by rw [f4]; decide, by decide⟩, b3⟩
  · rw [hw' b (by have := a8.2.1; omega), wsm_00]
    rfl
  · exact IK_eq hK (fun k j hk => f1 k j (by omega)) (f2 _ _ (by decide)) rfl (fun _ _ => rfl)

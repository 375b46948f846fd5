section STICK
variable {σ0 σ : zS} {r F S W V ks n T : Nat} {P : Nat → Nat → Nat} {C : mC} {Q : Int32 → zS → Prop}
theorem s_serveBoxes (hC : HC σ0 r F S W V ks n P) (h : RB σ0 σ r n F T C) (hw : WB σ r n F P C) (g : GC n F C) (hmv : C.2.2.2.2.2.2.2.2.1 < 1000) (k : ∀ σ', RB σ0 σ' r n F T (mserves P F S n (mleft S W V C.2.2.2.2.2.2.2.2.1) (if mleft S W V C.2.2.2.2.2.2.2.2.1 = 0 then 0 else 2 * F + 2) C) → WB σ' r n F P (mserves P F S n (mleft S W V C.2.2.2.2.2.2.2.2.1) (if mleft S W V C.2.2.2.2.2.2.2.2.1 = 0 then 0 else 2 * F + 2) C) → Q 0 σ') : w_X0_serveBoxes r σ Q := by
  obtain ⟨a1, a2, a3, a4, a5, a6, a7, a8, a9, b1, b2, b3⟩ := HC_fr hC h.1
  obtain ⟨c1, c2, c3, c4, c5, c6, c7, c8, c9⟩ := id a8
  have hS : 0 < S := by omega
  have hl := mleft_le (S := S) hS (show W ≤ 12 by omega) c8 C.2.2.2.2.2.2.2.2.1
  unfold w_X0_serveBoxes
  rw [h.2.2.2.2.1, b1, s_left (HC_fr hC h.1) hmv c7 c8]
  have hopen : mleft S W V C.2.2.2.2.2.2.2.2.1 ≠ 0 → C.2.2.2.2.2.2.2.2.1 % S < W := fun hh => by
    unfold mleft at hh
    split at hh
    · next h9 => exact h9
    · exact absurd rfl hh
  generalize mleft S W V C.2.2.2.2.2.2.2.2.1 = left at k hl hopen ⊢
  rw [show (0 : Int32) = nI 0 from rfl, nI_eq (by omega) (by decide)]
  refine ⟨fun h0 => ?_, fun h0 => ?_⟩
  · rw [if_pos h0] at k
    exact k σ h hw
  rw [if_neg h0] at k
  refine ⟨2 * F + 2 + 1, ?_⟩
  have key : ∀ d j (σk : zS), j + d = 2 * F + 2 → RB σ0 σk r n F T (mserves P F S n left j C) → WB σk r n F P (mserves P F S n left j C) → w_X0_serveBoxes_L23 r Q (d + 1) (nI left) (nI j) σk := by
    intro d
    induction d with
    | zero =>
      intro j σk hj hR hW
      have ej : j = 2 * F + 2 := by omega
      subst ej
      rw [w_X0_serveBoxes_L23, (HC_fr hC hR.1).2.2.2.1]
      exact ⟨fun _ => k σk hR hW, fun hh => absurd (Int32.le_refl _) hh⟩
    | succ d ih =>
      intro j σk hj hR hW
      have gj := GC_serves (P := P) (left := left) hS j C (by omega) g
      have emv : (mserves P F S n left j C).2.2.2.2.2.2.2.2.1 = C.2.2.2.2.2.2.2.2.1 := by rw [mserves_rest]
      have hs := mslot_lt (F := F) (S := S) (mv := C.2.2.2.2.2.2.2.2.1) (b := j) hS
      rw [w_X0_serveBoxes_L23, (HC_fr hC hR.1).2.2.2.1, hR.2.2.2.2.1, emv, s_openDoor (HC_fr hC hR.1) (sh := (mserves P F S n left j C).2.2.2.2.2.2.2.2.2.2.1) (fun f hf => (hR.2.2.1 f hf).2.2.2.2) hmv (by omega)]
      refine ⟨fun hh => ?_, fun _ => ?_⟩
      · rw [nI_leI (by omega) (by omega)] at hh
        omega
      have est : mserves P F S n left (j + 1) C = mserve P F S n left j (mserves P F S n left j C) := rfl
      unfold w_X0_serveBoxes_J64
      rw [nI_1]
      unfold mserve at est
      rw [emv] at est
      unfold mdoor
      generalize hsl : mslot F S C.2.2.2.2.2.2.2.2.1 j = s at est hs ⊢
      by_cases hA : s = F ∨ s = 2 * F + 1 ∨ (mserves P F S n left j C).2.2.2.2.2.2.2.2.2.2.1 (mfl F s) = true
      · rw [if_pos hA] at est
        have hd : decide (C.2.2.2.2.2.2.2.2.1 % S < W ∧ ¬ (s = F ∨ s = 2 * F + 1) ∧ (mserves P F S n left j C).2.2.2.2.2.2.2.2.2.2.1 (mfl F s) = false) = false := by
          rw [decide_eq_false_iff_not]
          intro hh
          rcases hA with hA | hA | hA
          · exact hh.2.1 (Or.inl hA)
          · exact hh.2.1 (Or.inr hA)
          · rw [hA] at hh
            exact absurd hh.2.2 (by decide)
        rw [if_neg (by rw [hd]; decide)]
        refine ⟨fun _ => ih (j + 1) σk (by omega) (by rw [est]; exact hR) (by rw [est]; exact hW), fun hh => absurd rfl hh⟩
      · rw [if_neg hA] at est
        have hs1 : s ≠ F := fun e => hA (Or.inl e)
        have hs2 : s ≠ 2 * F + 1 := fun e => hA (Or.inr (Or.inl e))
        have hf := mfl_lt hs hs1 hs2
        have hd : decide (C.2.2.2.2.2.2.2.2.1 % S < W ∧ ¬ (s = F ∨ s = 2 * F + 1) ∧ (mserves P F S n left j C).2.2.2.2.2.2.2.2.2.2.1 (mfl F s) = false) = true := by
          rw [decide_eq_true_iff]
          refine ⟨hopen h0, fun hh => hA (hh.imp id Or.inl), ?_⟩
          cases hc : (mserves P F S n left j C).2.2.2.2.2.2.2.2.2.2.1 (mfl F s) with
          | false => rfl
          | true => exact absurd (Or.inr (Or.inr hc)) hA
        rw [if_pos hd]
        refine ⟨fun hh => ?_, fun _ => ?_⟩
        · have : (nI (mfl F s)).toInt = (-4 : Int32).toInt := by rw [hh]
          rw [nI_toInt (by omega)] at this
          have h4 : (-4 : Int32).toInt = -4 := by decide
          omega
        · have gOut := GC_out (P := P) (left := left) (b := j) (e := if s < F then decide (mfl F s = F - 1) else decide (mfl F s = 0)) hf n _ (Nat.le_refl n) gj
          refine s_stepOut hC hR hW gj (by omega) (by rw [emv]; exact hmv) (by omega) (by rw [emv]; exact hsl) hs1 hs2 (fun σ1 h1 hw1 => ?_)
          have emv2 : (mout P left j (mfl F s) (if s < F then decide (mfl F s = F - 1) else decide (mfl F s = 0)) n (mserves P F S n left j C)).2.2.2.2.2.2.2.2.1 = C.2.2.2.2.2.2.2.2.1 := by rw [mout_rest]; exact emv
          refine s_stepIn (s := s) hC h1 hw1 gOut (by omega) (by rw [emv2]; exact hmv) (by omega) (by rw [emv2]; exact hsl) hf (fun σ2 h2 hw2 => ?_)
          exact ih (j + 1) σ2 (by omega) (by rw [est]; exact h2) (by rw [est]; exact hw2)
  exact key (2 * F + 2) 0 σ (by omega) h hw
/-- turned counts change -/
theorem RB_tu (h : RB σ0 σ r n F T C) (hF : F ≤ 8) {σ' : zS} (t : Nat → Int32) (hfr : Fr σ0 σ' r) (e1 : ∀ p, p < n → σ'.2 (r + 4) p = t p) (eo : ∀ a j, (a = r + 4 → n ≤ j) → σ'.2 a j = σ.2 a j) (ei : σ'.1 = σ.1) : RB σ0 σ' r n F T (setTu C t) := by
  obtain ⟨h0, h1, h2, h3, h4, h5, h6, h7⟩ := h
  refine ⟨hfr, fun q hq => ?_, fun f hf => ?_, by rw [ei]; exact h3, by rw [ei]; exact h4, by rw [ei]; exact h5, by rw [ei]; exact h6, fun q hq hq2 => by rw [eo _ q (by omega), eo _ q (by omega)]; exact h7 q hq hq2⟩
  · obtain ⟨a1, a2, a3, a4⟩ := h1 q hq
    rw [eo (r + 1) q (by omega), eo (r + 2) q (by omega), eo (r + 3) q (by omega)]
    exact ⟨a1, a2, a3, e1 q hq⟩
  · obtain ⟨a1, a2, a3, a4, a5⟩ := h2 f hf
    rw [eo (r + 14) f (by omega), eo (r + 17) f (by omega), eo (r + 18) f (by omega), eo (r + 19) f (by omega)]
    refine ⟨a1, a2, a3, fun i q hi => ?_, a5⟩
    rw [eo _ _ (by omega)]
    exact a4 i q hi
theorem s_countTurned (hC : HC σ0 r F S W V ks n P) (h : RB σ0 σ r n F T C) (g : GC n F C) {b : Nat} (hb : b < 100) (k : ∀ σ', RB σ0 σ' r n F T (setTu C (fun p => if C.1 p = 2 ∧ C.2.1 p = b then C.2.2.2.2.2.2.1 p + 1 else C.2.2.2.2.2.2.1 p)) → (∀ b, σ'.2 (r + 15) b = σ.2 (r + 15) b) → Q 0 σ') : w_X0_countTurned r (nI b) σ Q := by
  have hF := hC.2.2.2.2.2.2.2.1.2.1
  have hn := hC.2.2.2.2.2.2.2.2.1.1
  refine ⟨n + 1, ?_⟩
  have key : ∀ d j (σk : zS), j + d = n → RB σ0 σk r n F T (setTu C (fun p => if p < j ∧ C.1 p = 2 ∧ C.2.1 p = b then C.2.2.2.2.2.2.1 p + 1 else C.2.2.2.2.2.2.1 p)) → (∀ b, σk.2 (r + 15) b = σ.2 (r + 15) b) → w_X0_countTurned_L2 r Q (d + 1) (nI b) (nI j) σk := by
    intro d
    induction d with
    | zero =>
      intro j σk hj hR hW
      have ej : j = n := by omega
      subst ej
      rw [w_X0_countTurned_L2, (HC_fr hC hR.1).2.2.2.2.2.1]
      refine ⟨fun _ => k σk ?_ hW, fun hh => absurd (Int32.le_refl _) hh⟩
      refine RB_tu hR hF _ hR.1 (fun p hp => ?_) (fun _ _ _ => rfl) rfl
      rw [(hR.2.1 p hp).2.2.2]
      show (if p < j ∧ C.1 p = 2 ∧ C.2.1 p = b then _ else _) = _
      simp only [hp, true_and]
    | succ d ih =>
      intro j σk hj hR hW
      have hjn : j < n := by omega
      have gg : GC n F (setTu C (fun p => if p < j ∧ C.1 p = 2 ∧ C.2.1 p = b then C.2.2.2.2.2.2.1 p + 1 else C.2.2.2.2.2.2.1 p)) := g
      rw [w_X0_countTurned_L2, (HC_fr hC hR.1).2.2.2.2.2.1, s_isIn hR gg hF hn hjn hb]
      refine ⟨fun hh => ?_, fun _ => ?_⟩
      · rw [nI_leI (by omega) (by omega)] at hh
        omega
      unfold w_X0_countTurned_J32
      have ht := (hR.2.1 j hjn).2.2.2
      rw [c30 (show j < 30 by omega), nI_1, zB01_0, ht, zlet_def]
      have e0 : (setTu C (fun p => if p < j ∧ C.1 p = 2 ∧ C.2.1 p = b then C.2.2.2.2.2.2.1 p + 1 else C.2.2.2.2.2.2.1 p)).2.2.2.2.2.2.1 j = C.2.2.2.2.2.2.1 j := if_neg (fun hh => Nat.lt_irrefl j hh.1)
      rw [e0]
      refine ⟨fun hh => ih (j + 1) σk (by omega) ?_ hW, fun hh => ⟨v30 (by omega), v30 (by omega), ih (j + 1) _ (by omega) ?_ (fun b => by rw [zA_2, if_neg (by omega)]; exact hW b)⟩⟩
      · have hh : ¬ (C.1 j = 2 ∧ C.2.1 j = b) := of_decide_eq_false hh
        refine RB_tu hR hF _ hR.1 (fun p hp => ?_) (fun _ _ _ => rfl) rfl
        rw [(hR.2.1 p hp).2.2.2]
        show (if p < j ∧ C.1 p = 2 ∧ C.2.1 p = b then _ else _) = (if p < j + 1 ∧ C.1 p = 2 ∧ C.2.1 p = b then _ else _)
        by_cases e : p = j
        · subst e
          rw [if_neg (fun h9 => hh h9.2), if_neg (fun h9 => hh h9.2)]
        · have : p < j + 1 ↔ p < j := by omega
          simp only [this]
      · rw [Bool.not_eq_false] at hh
        have hh : (C.1 j = 2 ∧ C.2.1 j = b) := of_decide_eq_true hh
        refine RB_tu hR hF _ (Fr_A hR.1 (by omega) (by omega)) (fun p hp => ?_) (fun a x ha => by rw [zA_2, if_neg (by omega)]) rfl
        rw [zA_2]
        show _ = (if p < j + 1 ∧ C.1 p = 2 ∧ C.2.1 p = b then _ else _)
        by_cases e : p = j
        · subst e
          rw [if_pos ⟨rfl, rfl⟩, if_pos ⟨by omega, hh⟩]
        · rw [if_neg (by omega), (hR.2.1 p hp).2.2.2]
          show (if p < j ∧ C.1 p = 2 ∧ C.2.1 p = b then _ else _) = _
          have : p < j + 1 ↔ p < j := by omega
          simp only [this]
  refine key n 0 σ (by omega) ?_ (fun _ => rfl)
  refine RB_tu h hF _ h.1 (fun p hp => ?_) (fun _ _ _ => rfl) rfl
  rw [(h.2.1 p hp).2.2.2, if_neg (fun hh => Nat.not_lt_zero p hh.1)]
end STICK

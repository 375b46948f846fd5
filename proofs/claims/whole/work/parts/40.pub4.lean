/-! ticks -/
def mticks (P : Nat → Nat → Nat) (F S W V ks n : Nat) : Nat → mC → mC
  | 0, C => C
  | k + 1, C => mtick P F S W V ks n (mticks P F S W V ks n k C)
theorem mticks_tk {P : Nat → Nat → Nat} {F S W V ks n : Nat} {C : mC} : ∀ k, (mticks P F S W V ks n k C).2.2.2.2.2.2.2.1 = C.2.2.2.2.2.2.2.1 + k
  | 0 => rfl
  | k + 1 => by
    show (mtick P F S W V ks n (mticks P F S W V ks n k C)).2.2.2.2.2.2.2.1 = _
    rw [mtick_tk, mticks_tk k]
    omega
theorem GT_ticks {P : Nat → Nat → Nat} {F S W V ks n : Nat} {C : mC} (hH : GH F S W V) (hP : GP n F P) (g : GT P F S n C) : ∀ k, C.2.2.2.2.2.2.2.1 + k < 90000 → GT P F S n (mticks P F S W V ks n k C)
  | 0, _ => g
  | k + 1, h => GT_tick hH hP (GT_ticks hH hP g k (by omega)) (by rw [mticks_tk]; omega)
theorem st_ticks : zStep_ticks Inv := by
  intro σ τ hI x1
  obtain ⟨F, S, W, V, n, K, P, C, m, τ0, rfl, hC, hM, hR, hW, hRM, hG, ht, hK⟩ := id hI
  obtain ⟨a1, a2, a3, a4, a5, a6, a7, a8, a9, b1, b2, b3⟩ := id hC
  unfold w_X6_ticks
  rw [s_within]
  by_cases hc : (1 : Int32) ≤ x1 ∧ x1 ≤ 200
  · refine zYes hc ?_
    obtain ⟨k, k1, k2, rfl⟩ := zrng (a := 1) (b := 200) (by decide) (by decide) hc.1 hc.2
    rw [show σ.1 10 13 = nI C.2.2.2.2.2.2.2.1 from hR.2.2.2.1, nI_add, show (2000 : Int32) = nI 2000 from rfl, nI_leI (by omega) (by decide)]
    have ref : ∀ Q : Int32 → zS → Prop, w_X7_ticks (nI k) (zm τ0 m) Q ↔ ((C.2.2.2.2.2.2.2.1 + k ≤ 2000 → ∃ m32, w_X7_ticks_L32 Q m32 (nI k) 0 (zm τ0 m)) ∧ (¬ C.2.2.2.2.2.2.2.1 + k ≤ 2000 → Q (-3) (zm τ0 m))) := fun Q => by
      unfold w_X7_ticks
      rw [r_in, decide_eq_true hc]
      simp only [zB01_0, vpc0, true_and, cl0, zm_8, hRM.2.2.1, nI_add, show (2000 : Int32) = nI 2000 from rfl, nI_leI (show C.2.2.2.2.2.2.2.1 + k < 2 ^ 31 by omega) (show 2000 < 2 ^ 31 by decide)]
      simp
    refine ⟨fun hle => ⟨k + 1, ?_⟩, fun hle => ?_⟩
    · have key : ∀ d j (σk : zS), j + d = k → RB σ σk 10 n F (C.2.2.2.2.2.2.2.1 + j) (mticks P F S W V 0 n j C) → WB σk 10 n F P (mticks P F S W V 0 n j C) → w_X6_ticks_L33 (fun v σ2 => w_X7_ticks (nI k) (zm τ0 m) (fun v2 τ2 => v = v2 ∧ Inv σ2 τ2)) (d + 1) (nI k) (nI j) σk := by
        intro d
        induction d with
        | zero =>
          intro j σk hj hRk hWk
          have ej : j = k := by omega
          subst ej
          rw [w_X6_ticks_L33]
          refine ⟨fun _ => ?_, fun hh => absurd (Int32.le_refl _) hh⟩
          rw [ref]
          refine ⟨fun _ => ⟨j + 1, ?_⟩, fun hh => absurd hle hh⟩
          have key7 : ∀ d i (mk : Nat → Int32), i + d = j → RM mk n F (mticks P F S W V 0 n i C) → w_X7_ticks_L32 (fun v2 τ2 => σk.1 10 13 = v2 ∧ Inv σk τ2) (d + 1) (nI j) (nI i) (zm τ0 mk) := by
            intro d
            induction d with
            | zero =>
              intro i mk hi hRi
              have ei : i = j := by omega
              subst ei
              rw [w_X7_ticks_L32]
              refine ⟨fun _ => ⟨vpc0, ?_, ?_⟩, fun hh => absurd (Int32.le_refl _) hh⟩
              · rw [cl0, zm_8, hRi.2.2.1]
                exact hRk.2.2.2.1
              · refine ⟨F, S, W, V, n, K, P, mticks P F S W V 0 n i C, mk, τ0, rfl, HC_fr hC hRk.1, hM, ?_, hWk, hRi, GT_ticks a8 a9 hG i (by omega), by rw [mticks_tk]; exact hle, ?_⟩
                · rw [mticks_tk]
                  exact RB_self hRk
                · exact IK_eq hK (fun k' j' hk' => hRk.1.1 k' j' (by omega)) (hRk.1.2.1 57 2 (by decide)) rfl (fun _ _ => rfl)
            | succ d ih =>
              intro i mk hi hRi
              rw [w_X7_ticks_L32, nI_1]
              refine ⟨fun hh => ?_, fun _ => ?_⟩
              · rw [nI_leI (by omega) (by omega)] at hh
                omega
              · exact m_passes hM hRi (GT_ticks a8 a9 hG i (by omega)) (by rw [mticks_tk]; omega) (fun m' hm' => ih (i + 1) m' (by omega) hm')
          exact key7 j 0 m (by omega) hRM
        | succ d ih =>
          intro j σk hj hRk hWk
          rw [w_X6_ticks_L33, nI_1]
          refine ⟨fun hh => ?_, fun _ => ?_⟩
          · rw [nI_leI (by omega) (by omega)] at hh
            omega
          · refine s_tick hC (by rw [mticks_tk]; exact hRk) hWk (GT_ticks a8 a9 hG j (by omega)) (by rw [mticks_tk]; omega) (fun σ' h1 h2 => ih (j + 1) σ' (by omega) ?_ h2)
            rw [mticks_tk] at h1
            exact h1
      exact key k 0 σ (by omega) hR hW
    · show w_X7_ticks (nI k) (zm τ0 m) _
      rw [ref]
      exact ⟨fun hh => absurd hh hle, fun _ => ⟨rfl, hI⟩⟩
  · refine zNo hc ?_
    show w_X7_ticks x1 (zm τ0 m) _
    unfold w_X7_ticks
    rw [r_in]
    exact zNo hc ⟨rfl, hI⟩
/-! box -/
def mrid (C : mC) (b : Nat) : Nat → Int32
  | 0 => 0
  | k + 1 => if C.1 k = 2 ∧ C.2.1 k = b then mrid C b k ||| ((1 : Int32) <<< (nI k &&& 31)) else mrid C b k
def vbox (P : Nat → Nat → Nat) (F S n : Nat) (C : mC) (b : Nat) (x2 : Int32) : Int32 :=
  if x2 = 0 then nI ((b * S + C.2.2.2.2.2.2.2.2.1) % ((2 * F + 2) * S)) else if x2 = 1 then (if mslot F S C.2.2.2.2.2.2.2.2.1 b = F then 100 else if mslot F S C.2.2.2.2.2.2.2.2.1 b = 2 * F + 1 then 101 else nI (mfl F (mslot F S C.2.2.2.2.2.2.2.2.1 b))) else if x2 = 2 then (if mslot F S C.2.2.2.2.2.2.2.2.1 b = F ∨ mslot F S C.2.2.2.2.2.2.2.2.1 b = 2 * F + 1 then -4 else zB01 (decide (mslot F S C.2.2.2.2.2.2.2.2.1 b < F))) else if x2 = 3 then nI (wsm P C b n) else if x2 = 4 then mrid C b n else -1
section BOX
variable {σ τ : zS} {F S W V ks n : Nat} {P : Nat → Nat → Nat} {C : mC} {m : Nat → Int32} {Q : Int32 → zS → Prop}
theorem s_riders {σ0 : zS} {r T : Nat} (hC : HC σ0 r F S W V ks n P) (hR : RB σ0 σ r n F T C) (g : GC n F C) {b : Nat} (hb : b < 100) (k : Q (mrid C b n) σ) : w_X0_riders r (nI b) σ Q := by
  have hF := hC.2.2.2.2.2.2.2.1.2.1
  have hn := hC.2.2.2.2.2.2.2.2.1.1
  refine ⟨n + 1, ?_⟩
  have key : ∀ d j, j + d = n → w_X0_riders_L4 r Q (d + 1) (nI b) (mrid C b j) (nI j) σ := by
    intro d
    induction d with
    | zero =>
      intro j hj
      have ej : j = n := by omega
      subst ej
      rw [w_X0_riders_L4, (HC_fr hC hR.1).2.2.2.2.2.1]
      exact ⟨fun _ => k, fun hh => absurd (Int32.le_refl _) hh⟩
    | succ d ih =>
      intro j hj
      rw [w_X0_riders_L4, (HC_fr hC hR.1).2.2.2.2.2.1, s_isIn hR g hF hn (show j < n by omega) hb]
      refine ⟨fun hh => ?_, fun _ => ?_⟩
      · rw [nI_leI (by omega) (by omega)] at hh
        omega
      have h1 := ih (j + 1) (by omega)
      unfold w_X0_riders_J30
      rw [nI_1]
      unfold mrid at h1
      by_cases c : C.1 j = 2 ∧ C.2.1 j = b
      · rw [if_pos c] at h1
        exact zYes c h1
      · rw [if_neg c] at h1
        exact zNo c h1
  exact key n 0 (by omega)
theorem m_riders (hM : HM τ F S W V ks n P) (hR : RM m n F C) (g : GC n F C) {b : Nat} (hb : b < 100) (k : Q (mrid C b n) (zm τ m)) : w_X7_ridersOf (nI b) (zm τ m) Q := by
  have hF := hM.2.2.2.2.2.2.2.1.2.1
  have hn := hM.2.2.2.2.2.2.2.2.1
  refine ⟨n + 1, ?_⟩
  have key : ∀ d j, j + d = n → w_X7_ridersOf_L4 Q (d + 1) (nI b) (mrid C b j) (nI j) (zm τ m) := by
    intro d
    induction d with
    | zero =>
      intro j hj
      have ej : j = n := by omega
      subst ej
      rw [w_X7_ridersOf_L4, zm_1, hM.2.2.2.2.2.1]
      exact ⟨fun _ => k, fun hh => absurd (Int32.le_refl _) hh⟩
    | succ d ih =>
      intro j hj
      rw [w_X7_ridersOf_L4, zm_1, hM.2.2.2.2.2.1, mr_rides hn hR g hF (show j < n by omega) hb]
      refine ⟨fun hh => ?_, fun _ => ?_⟩
      · rw [nI_leI (by omega) (by omega)] at hh
        omega
      have h1 := ih (j + 1) (by omega)
      unfold w_X7_ridersOf_J29
      rw [nI_1, Int32.or_zero]
      unfold mrid at h1
      by_cases c : C.1 j = 2 ∧ C.2.1 j = b
      · rw [if_pos c] at h1
        exact zYes c h1
      · rw [if_neg c] at h1
        exact zNo c h1
  exact key n 0 (by omega)
theorem s_floorOrEnd {r : Nat} (h : HC σ r F S W V ks n P) {s : Nat} (hs : s < 2 * F + 2) : w_X2_floorOrEnd (nI s) σ Q ↔ Q (if s = F then 100 else if s = 2 * F + 1 then 101 else nI (mfl F s)) σ := by
  have hF := h.2.2.2.2.2.2.2.1.2.1
  by_cases c : s = F ∨ s = 2 * F + 1
  · unfold w_X2_floorOrEnd
    rw [s_isUp h (by omega), s_isAtFloor h (by omega), h.1, nI_eq (by omega) (by omega)]
    have c2 : ¬ s < F := by omega
    rcases c with c | c
    · simp [c, zB01]
    · have c3 : ¬ s = F := by omega
      have c4 : ¬ 2 * F + 1 < F := by omega
      have c5 : ¬ 2 * F + 1 = F := by omega
      simp [c, zB01, c4, c5]
  · rw [s_floorAt h hs (fun e => c (Or.inl e)) (fun e => c (Or.inr e)), if_neg (fun e => c (Or.inl e)), if_neg (fun e => c (Or.inr e))]
theorem st_box : zStep_box Inv := by
  intro σ τ hI x1 x2
  obtain ⟨F, S, W, V, n, K, P, C, m, τ0, rfl, hC, hM, hR, hW, hRM, hG, ht, hK⟩ := id hI
  obtain ⟨a1, a2, a3, a4, a5, a6, a7, a8, a9, b1, b2, b3⟩ := id hC
  obtain ⟨c1, c2, c3, c4, c5, c6, c7, c8, c9⟩ := id a8
  have d2 := (mul_small (b := 0) c2 c4 (by decide)).2
  have hmv := hG.2.2.2
  have eB : (2 : Int32) * nI F + 2 = nI (2 * F + 2) := by rw [show (2 : Int32) = nI 2 from rfl, pk_mul, nI_add]
  by_cases hc : (0 : Int32) ≤ x1 ∧ x1 ≤ nI (2 * F + 2) - 1
  · obtain ⟨b, hb, rfl⟩ := zrng1 (by omega) hc.1 hc.2
    have hs := mslot_lt (F := F) (S := S) (mv := C.2.2.2.2.2.2.2.2.1) (b := b) (by omega)
    have r7 : ∀ v, v = vbox P F S n C b x2 → w_X7_box (nI b) x2 (zm τ0 m) (fun v2 τ2 => v = v2 ∧ Inv σ τ2) := fun v hv => by
      unfold w_X7_box
      rw [r_boxes, zm_1, hM.1, eB, r_in]
      refine zYes hc ?_
      rw [r_in]
      by_cases h9 : (0 : Int32) ≤ x2 ∧ x2 ≤ 4
      · refine zYes h9 ?_
        rw [mr_partOf hM hRM.2.2.2.1 (by omega) (by omega), mr_placeOf hM hRM.2.2.2.1 (by omega) (by omega)]
        unfold vbox at hv
        refine ⟨fun h0 => ⟨by rw [hv, if_pos h0], hI⟩, fun h0 => ?_⟩
        rw [if_neg h0] at hv
        refine ⟨fun h1 => ?_, fun h1 => ?_⟩
        · rw [if_pos h1] at hv
          rw [zm_1, hM.1, nI_eq (by omega) (by omega)]
          refine ⟨fun e => ⟨by rw [hv, if_pos e], hI⟩, fun e => ?_⟩
          rw [mr_isAside hM (by omega)]
          rw [if_neg e] at hv
          by_cases e2 : mslot F S C.2.2.2.2.2.2.2.2.1 b = 2 * F + 1
          · exact zYes (Or.inr e2) ⟨by rw [hv, if_pos e2], hI⟩
          · refine zNo (fun hh => hh.elim e e2) ?_
            rw [mr_floorOf hM hs e e2]
            exact ⟨by rw [hv, if_neg e2], hI⟩
        rw [if_neg h1] at hv
        refine ⟨fun h2 => ?_, fun h2 => ?_⟩
        · rw [if_pos h2] at hv
          rw [mr_isAside hM (by omega)]
          by_cases e : mslot F S C.2.2.2.2.2.2.2.2.1 b = F ∨ mslot F S C.2.2.2.2.2.2.2.2.1 b = 2 * F + 1
          · exact zYes e ⟨by rw [hv, if_pos e], hI⟩
          · refine zNo e ?_
            rw [if_neg e] at hv
            rw [zm_1, hM.1, nI_leI (by omega) (by omega)]
            refine ⟨fun h3 => ⟨?_, hI⟩, fun h3 => ⟨?_, hI⟩⟩
            · rw [hv, decide_eq_false (by omega)]
              rfl
            · rw [hv, decide_eq_true (by omega)]
              rfl
        rw [if_neg h2] at hv
        refine ⟨fun h3 => m_widths hM hRM hG.1 (by omega) ⟨by rw [hv, if_pos h3], hI⟩, fun h3 => m_riders hM hRM hG.1 (by omega) ⟨?_, hI⟩⟩
        rw [if_neg h3] at hv
        have h4 : x2 = 4 := Classical.byContradiction fun h4 => zin4 h0 h1 h2 h3 h4 h9
        rw [hv, if_pos h4]
      · refine zNo h9 ⟨?_, hI⟩
        rw [hv]
        unfold vbox
        have k0 : ¬ x2 = 0 := fun e => h9 (by rw [e]; decide)
        have k1 : ¬ x2 = 1 := fun e => h9 (by rw [e]; decide)
        have k2 : ¬ x2 = 2 := fun e => h9 (by rw [e]; decide)
        have k3 : ¬ x2 = 3 := fun e => h9 (by rw [e]; decide)
        have k4 : ¬ x2 = 4 := fun e => h9 (by rw [e]; decide)
        simp [k0, k1, k2, k3, k4]
    unfold w_X6_box
    rw [s_within, a4]
    refine zYes hc ?_
    rw [show σ.1 10 14 = nI C.2.2.2.2.2.2.2.2.1 from hR.2.2.2.2.1, s_slot hC (by omega) (by omega)]
    rw [show σ.1 10 14 = nI C.2.2.2.2.2.2.2.2.1 from hR.2.2.2.2.1, s_place hC (by omega) (by omega)]
    refine ⟨fun h0 => r7 _ (by unfold vbox; rw [if_pos h0]), fun h0 => ⟨fun h1 => ?_, fun h1 => ⟨fun h2 => ?_, fun h2 => ⟨fun h3 => ⟨v18 (by omega), r7 _ ?_⟩, fun h3 => ⟨fun h4 => s_riders hC hR hG.1 (by omega) (r7 _ ?_), fun h4 => r7 _ ?_⟩⟩⟩⟩⟩
    · rw [s_floorOrEnd hC hs]
      exact r7 _ (by unfold vbox; rw [if_neg h0, if_pos h1])
    · rw [s_isAtFloor hC (by omega)]
      by_cases e : mslot F S C.2.2.2.2.2.2.2.2.1 b = F ∨ mslot F S C.2.2.2.2.2.2.2.2.1 b = 2 * F + 1
      · exact zNo (fun hh => hh e) (r7 _ (by unfold vbox; rw [if_neg h0, if_neg h1, if_pos h2, if_pos e]))
      · refine zYes e ?_
        rw [s_isUp hC (by omega)]
        by_cases e3 : mslot F S C.2.2.2.2.2.2.2.2.1 b < F
        · exact zYes e3 (r7 _ (by unfold vbox; rw [if_neg h0, if_neg h1, if_pos h2, if_neg e, decide_eq_true e3]; rfl))
        · exact zNo e3 (r7 _ (by unfold vbox; rw [if_neg h0, if_neg h1, if_pos h2, if_neg e, decide_eq_false e3]; rfl))
    · unfold vbox
      rw [if_neg h0, if_neg h1, if_neg h2, if_pos h3, c18 (show b < 18 by omega)]
      exact hW b hb
    · unfold vbox
      rw [if_neg h0, if_neg h1, if_neg h2, if_neg h3, if_pos h4]
    · unfold vbox
      rw [if_neg h0, if_neg h1, if_neg h2, if_neg h3, if_neg h4]
  · unfold w_X6_box
    rw [s_within, a4]
    refine zNo hc ?_
    show w_X7_box x1 x2 (zm τ0 m) _
    unfold w_X7_box
    rw [r_boxes, zm_1, hM.1, eB, r_in]
    exact zNo hc ⟨rfl, hI⟩
end BOX

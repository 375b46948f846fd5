/-! THE PUBLIC CALLS: what both sides keep -/
theorem zYes {c : Prop} [Decidable c] (h : c) {A B : Prop} (k : B) : (zB01 (decide c) = 0 → A) ∧ (¬ zB01 (decide c) = 0 → B) := by
  rw [decide_eq_true h]
  exact ⟨fun hh => absurd hh (by decide), fun _ => k⟩
theorem zNo {c : Prop} [Decidable c] (h : ¬ c) {A B : Prop} (k : A) : (zB01 (decide c) = 0 → A) ∧ (¬ zB01 (decide c) = 0 → B) := by
  rw [decide_eq_false h]
  exact ⟨fun _ => k, fun hh => absurd rfl hh⟩
theorem zrng {a b : Nat} {x : Int32} (hb : b < 2 ^ 31) (ha : a < 2 ^ 31) (h1 : nI a ≤ x) (h2 : x ≤ nI b) : ∃ f, a ≤ f ∧ f ≤ b ∧ x = nI f := by
  rw [sle, nI_toInt ha] at h1
  rw [sle, nI_toInt hb] at h2
  refine ⟨x.toInt.toNat, by omega, by omega, ?_⟩
  apply Int32.toInt_inj.mp
  rw [nI_toInt (by omega)]
  omega
theorem zrng1 {b : Nat} {x : Int32} (hb : b < 2 ^ 30) (h1 : 0 ≤ x) (h2 : x ≤ nI b - 1) : ∃ f, f < b ∧ x = nI f := by
  have h1' : nI 0 ≤ x := h1
  rw [sle, nI_toInt (by decide)] at h1'
  rw [sle, show (1 : Int32) = nI 1 from rfl, pk_sub_toInt (by omega) (by decide)] at h2
  refine ⟨x.toInt.toNat, by omega, ?_⟩
  apply Int32.toInt_inj.mp
  rw [nI_toInt (by omega)]
  omega
theorem zrng1' {b f : Nat} (hb : b < 2 ^ 31) (hf : f < b) : (0 : Int32) ≤ nI f ∧ nI f ≤ nI b - 1 := by
  refine ⟨nI_pos' (by omega), ?_⟩
  rw [show (1 : Int32) = nI 1 from rfl, pk_sub (by omega), nI_leI (by omega) (by omega)]
  omega
theorem s_within {σ : zS} {Q : Int32 → zS → Prop} (x a b : Int32) : w_X6_within x a b σ Q ↔ Q (zB01 (decide (a ≤ x ∧ x ≤ b))) σ := r_in (τ := σ) (Q := Q) x a b
theorem s_isFloor {σ : zS} {Q : Int32 → zS → Prop} (x : Int32) : w_X6_isFloor x σ Q ↔ Q (zB01 (decide (0 ≤ x ∧ x ≤ σ.1 9 0 - 1))) σ := by
  unfold w_X6_isFloor
  rw [s_within]
  exact ⟨fun hh => hh.2, fun hh => ⟨zB01_or _, hh⟩⟩
theorem s_isSpeed {σ : zS} {Q : Int32 → zS → Prop} (x s : Int32) : w_X6_isSpeed x s σ Q ↔ Q (zB01 (decide (1 ≤ x ∧ x ≤ 4 ∧ x ≤ s))) σ := by
  unfold w_X6_isSpeed
  rw [s_within]
  have e : (x ≤ (if s < 4 then s else 4)) ↔ (x ≤ 4 ∧ x ≤ s) := by
    have h4 : (4 : Int32).toInt = 4 := by decide
    by_cases c : s < 4
    · rw [if_pos c]
      rw [slt, h4] at c
      rw [sle, sle, h4]
      omega
    · rw [if_neg c]
      rw [slt, h4] at c
      rw [sle, sle, h4]
      omega
  have := zB01_or (decide (1 ≤ x ∧ x ≤ 4 ∧ x ≤ s))
  simp only [e]
  exact ⟨fun hh => hh.2, fun hh => ⟨this, hh⟩⟩
theorem r_isSpeed {σ : zS} {Q : Int32 → zS → Prop} (x : Int32) : w_X7_isSpeed x σ Q ↔ Q (zB01 (decide (1 ≤ x ∧ x ≤ 4 ∧ x ≤ σ.1 0 1))) σ := by
  unfold w_X7_isSpeed
  rw [r_in]
  by_cases c : 1 ≤ x ∧ x ≤ 4
  · by_cases c2 : x ≤ σ.1 0 1
    · have c3 : ¬ σ.1 0 1 < x := Int32.not_lt.mpr c2
      simp [c, c2, c3, zB01]
    · have c3 : σ.1 0 1 < x := Int32.not_le.mp c2
      simp [c, c2, c3, zB01]
  · have c4 : ¬ (1 ≤ x ∧ x ≤ 4 ∧ x ≤ σ.1 0 1) := fun hh => c ⟨hh.1, hh.2.1⟩
    simp only [c, c4]
    simp [zB01]
/-- told counts and kept days -/
def IK (σ τ : zS) (F n K : Nat) : Prop := (∀ f, f < F → τ.2 10 (2 * f) = σ.2 55 f ∧ τ.2 10 (2 * f + 1) = σ.2 56 f) ∧ (∀ x, x < 16 → τ.2 10 x = -1 ∨ ∃ y, y ≤ 100 ∧ τ.2 10 x = nI y) ∧ (∀ x, 2 * F ≤ x → x < 16 → τ.2 10 x = -1) ∧ σ.1 57 2 = nI K ∧ τ.1 0 16 = nI K ∧ K ≤ 3 ∧ ∀ i, i < K → ∃ N, N ≤ n ∧ σ.2 62 i = nI N ∧ τ.2 11 i = nI N ∧ ∀ p, p < N → σ.2 (59 + i) p = τ.2 12 (30 * i + p) ∧ ∃ y, y ≤ 1000 ∧ σ.2 (59 + i) p = nI y
theorem IK_eq {σ τ σ' τ' : zS} {F n K : Nat} (h : IK σ τ F n K) (e1 : ∀ k j, 53 ≤ k → σ'.2 k j = σ.2 k j) (e2 : σ'.1 57 2 = σ.1 57 2) (e3 : τ'.1 0 16 = τ.1 0 16) (e4 : ∀ k, 10 ≤ k → τ'.2 k = τ.2 k) : IK σ' τ' F n K := by
  obtain ⟨h1, h2, h3, h4, h5, h6, h7⟩ := h
  refine ⟨fun f hf => ?_, fun x hx => ?_, fun x hx hx2 => ?_, by rw [e2]; exact h4, by rw [e3]; exact h5, h6, fun i hi => ?_⟩
  · rw [e4 10 (by omega), e1 55 f (by omega), e1 56 f (by omega)]
    exact h1 f hf
  · rw [e4 10 (by omega)]
    exact h2 x hx
  · rw [e4 10 (by omega)]
    exact h3 x hx hx2
  · obtain ⟨N, n1, n2, n3, n4⟩ := h7 i hi
    refine ⟨N, n1, by rw [e1 62 i (by omega)]; exact n2, by rw [e4 11 (by omega)]; exact n3, fun p hp => ?_⟩
    rw [e1 _ p (by omega), e4 12 (by omega)]
    exact n4 p hp
def Inv (σ τ : zS) : Prop := ∃ (F S W V n K : Nat) (P : Nat → Nat → Nat) (C : mC) (m : Nat → Int32) (τ0 : zS), τ = zm τ0 m ∧ HC σ 10 F S W V 0 n P ∧ HM τ0 F S W V 0 n P ∧ RB σ σ 10 n F C.2.2.2.2.2.2.2.1 C ∧ WB σ 10 n F P C ∧ RM m n F C ∧ GT P F S n C ∧ C.2.2.2.2.2.2.2.1 ≤ 2000 ∧ IK σ τ0 F n K
theorem RB_self {σ0 σ : zS} {r n F T : Nat} {C : mC} (h : RB σ0 σ r n F T C) : RB σ σ r n F T C := ⟨⟨fun _ _ _ => rfl, fun _ _ _ => rfl, rfl, rfl⟩, h.2⟩
theorem st_speed : zStep_speed Inv := by
  intro σ τ hI x1
  obtain ⟨F, S, W, V, n, K, P, C, m, τ0, rfl, hC, hM, hR, hW, hRM, hG, ht, hK⟩ := id hI
  obtain ⟨a1, a2, a3, a4, a5, a6, a7, a8, a9, b1, b2, b3⟩ := id hC
  obtain ⟨c1, c2, c3, c4, c5, c6, c7, c8, c9⟩ := id a8
  unfold w_X6_speed
  rw [s_isSpeed, a2]
  unfold w_X7_speed
  by_cases hc : (1 : Int32) ≤ x1 ∧ x1 ≤ 4 ∧ x1 ≤ nI S
  · refine zYes hc ?_
    rw [zlet_def]
    dsimp only
    rw [r_isSpeed, zm_1, hM.2.1]
    refine zYes hc ?_
    rw [zlet_def]
    obtain ⟨v, v1, v2, rfl⟩ := zrng (a := 1) (b := 4) (by decide) (by decide) hc.1 hc.2.1
    have v3 : v ≤ S := by rw [nI_leI (by omega) (by omega)] at hc; exact hc.2.2
    refine ⟨by rw [b1]; exact (hM.2.2.2.1).symm, F, S, W, v, n, K, P, C, m, zI τ0 0 3 (nI v), ?_, ?_, ?_, ?_, ?_, hRM, hG, ht, ?_⟩
    · rfl
    · refine ⟨?_, ?_, ?_, ?_, ?_, ?_, a7, ⟨c1, c2, c3, c4, c5, c6, v1, v2, v3⟩, a9, ?_, ?_, b3⟩
      · rw [zI_1, if_neg (by decide)]; exact a1
      · rw [zI_1, if_neg (by decide)]; exact a2
      · rw [zI_1, if_neg (by decide)]; exact a3
      · rw [zI_1, if_neg (by decide)]; exact a4
      · rw [zI_1, if_neg (by decide)]; exact a5
      · rw [zI_1, if_neg (by decide)]; exact a6
      · rw [zI_1, if_pos ⟨rfl, rfl⟩]
      · rw [zI_1, if_neg (by decide)]; exact b2
    · obtain ⟨m1, m2, m3, m4, m5, m6, m7, m8, m9⟩ := hM
      refine ⟨?_, ?_, ?_, ?_, ?_, ?_, m7, ⟨c1, c2, c3, c4, c5, c6, v1, v2, v3⟩, m9⟩
      · rw [zI_1, if_neg (by decide)]; exact m1
      · rw [zI_1, if_neg (by decide)]; exact m2
      · rw [zI_1, if_neg (by decide)]; exact m3
      · rw [zI_1, if_pos ⟨rfl, rfl⟩]
      · rw [zI_1, if_neg (by decide)]; exact m5
      · rw [zI_1, if_neg (by decide)]; exact m6
    · obtain ⟨e0, e1, e2, e3, e4, e5, e6, e7⟩ := hR
      refine ⟨⟨fun _ _ _ => rfl, fun _ _ _ => rfl, rfl, rfl⟩, e1, e2, ?_, ?_, ?_, ?_, e7⟩
      · rw [zI_1, if_neg (by decide)]; exact e3
      · rw [zI_1, if_neg (by decide)]; exact e4
      · rw [zI_1, if_neg (by decide)]; exact e5
      · rw [zI_1, if_neg (by decide)]; exact e6
    · exact hW
    · exact IK_eq hK (fun _ _ _ => rfl) (by rw [zI_1, if_neg (by decide)]) (by rw [zI_1, if_neg (by decide)]) (fun _ _ => rfl)
  · refine zNo hc ?_
    dsimp only
    rw [r_isSpeed, zm_1, hM.2.1]
    exact zNo hc ⟨rfl, hI⟩
theorem st_left : zStep_left Inv := by
  intro σ τ hI
  obtain ⟨F, S, W, V, n, K, P, C, m, τ0, rfl, hC, hM, hR, hW, hRM, hG, ht, hK⟩ := id hI
  obtain ⟨a1, a2, a3, a4, a5, a6, a7, a8, a9, b1, b2, b3⟩ := id hC
  obtain ⟨c1, c2, c3, c4, c5, c6, c7, c8, c9⟩ := id a8
  have d2 := (mul_small (b := 0) c2 c4 (by decide)).2
  have hmv := hG.2.2.2
  unfold w_X6_left
  rw [hR.2.2.2.2.1, b1, s_left hC (by omega) c7 c8]
  unfold w_X7_left
  dsimp only
  rw [cl1, zm_8, hRM.2.2.2.1, mr_leftOf hM (by omega)]
  exact ⟨vpc1, rfl, hI⟩
theorem st_stop : zStep_stop Inv := by
  intro σ τ hI x1 hx
  obtain ⟨F, S, W, V, n, K, P, C, m, τ0, rfl, hC, hM, hR, hW, hRM, hG, ht, hK⟩ := id hI
  obtain ⟨a1, a2, a3, a4, a5, a6, a7, a8, a9, b1, b2, b3⟩ := id hC
  unfold w_X6_stop
  refine ⟨hx, ?_⟩
  rw [zlet_def, hR.2.2.2.2.2.2.1]
  unfold w_X7_stop w_X7_stop_J21
  rw [cl2, zm_8, hRM.2.2.2.2.1]
  have fin : ∀ b : Bool, x1 = zB01 b → Inv (zI σ 10 16 x1) (zm τ0 (upd m 2 x1)) := fun b hb => by
    refine ⟨F, S, W, V, n, K, P, (C.1, C.2.1, C.2.2.1, C.2.2.2.1, C.2.2.2.2.1, C.2.2.2.2.2.1, C.2.2.2.2.2.2.1, C.2.2.2.2.2.2.2.1, C.2.2.2.2.2.2.2.2.1, b, C.2.2.2.2.2.2.2.2.2.2.1, C.2.2.2.2.2.2.2.2.2.2.2), upd m 2 x1, τ0, rfl, ?_, hM, ?_, ?_, ?_, hG, ht, ?_⟩
    · exact HC_fr hC (Fr_I hR.1 (by decide) (by decide))
    · obtain ⟨e0, e1, e2, e3, e4, e5, e6, e7⟩ := hR
      refine ⟨⟨fun _ _ _ => rfl, fun _ _ _ => rfl, rfl, rfl⟩, e1, e2, ?_, ?_, ?_, ?_, e7⟩
      · rw [zI_1, if_neg (by decide)]; exact e3
      · rw [zI_1, if_neg (by decide)]; exact e4
      · rw [zI_1, if_neg (by decide)]; exact e5
      · rw [zI_1, if_pos ⟨rfl, rfl⟩]; exact hb
    · intro b' hb'
      show σ.2 25 b' = _
      rw [show σ.2 25 b' = nI (wsm P C b' n) from hW b' hb']
      congr 1
      exact wsm_same (C' := C) (fun q => by exact Iff.rfl) n
    · exact RM_hd hRM a8.2.1 a9.1 C.2.2.2.2.2.2.2.1 C.2.2.2.2.2.2.2.2.1 C.2.2.2.2.2.2.2.2.2.2.2 b C.2.2.2.2.2.2.2.2.2.2.1 (by simp only [upd_e]; exact hRM.2.2.1) (by simp only [upd_e]; exact hRM.2.2.2.1) (by simp only [upd_e]; exact hb) (fun f hf => by simp only [upd_e]; exact hRM.2.2.2.2.2.1 f hf) (by simp only [upd_e]; exact hRM.2.2.2.2.2.2.1) (fun x hx => by simp only [upd_e]; rw [if_neg (by omega)])
    · exact IK_eq hK (fun _ _ _ => rfl) (by rw [zI_1, if_neg (by decide)]) rfl (fun _ _ => rfl)
  have fin2 : Inv (zI σ 10 16 x1) (zm τ0 (upd m 2 x1)) := by
    rcases hx with hx | hx
    · exact fin false (by rw [hx]; rfl)
    · exact fin true (by rw [hx]; rfl)
  have key : ∀ v, v = zB01 C.2.2.2.2.2.2.2.2.2.1 → (vp_in (2 : Int32) 389 ∧ (x1 = 0 → vp_in (2 : Int32) 389 ∧ zlet (zA (zm τ0 m) 8 2 0) fun t1 => v = zB01 C.2.2.2.2.2.2.2.2.2.1 ∧ Inv (zI σ 10 16 x1) t1) ∧ (¬ x1 = 0 → vp_in (2 : Int32) 389 ∧ zlet (zA (zm τ0 m) 8 2 1) fun t1 => v = zB01 C.2.2.2.2.2.2.2.2.2.1 ∧ Inv (zI σ 10 16 x1) t1)) := fun v hv => by
    refine ⟨vpc2, fun h0 => ⟨vpc2, ?_⟩, fun h0 => ⟨vpc2, ?_⟩⟩
    · rw [zlet_def, zm_A]
      refine ⟨hv, ?_⟩
      rw [h0] at fin2 ⊢
      exact fin2
    · rw [zlet_def, zm_A]
      refine ⟨hv, ?_⟩
      rw [hx.resolve_left h0] at fin2 ⊢
      exact fin2
  refine ⟨fun h0 => key 0 h0.symm, fun h0 => key 1 ?_⟩
  rw [zB01_n] at h0
  rw [h0]
  rfl

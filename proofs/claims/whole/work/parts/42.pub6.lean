/-! counting -/
def mcnt (T : Nat) (C : mC) (x : Int32) : Nat → Int32
  | 0 => 0
  | k + 1 => if nI (stC T C k) = x then mcnt T C x k + 1 else mcnt T C x k
def mtl (τ : zS) : Nat → Int32
  | 0 => 0
  | k + 1 => if τ.2 10 k = -1 then mtl τ k else mtl τ k + 1
theorem told_c {v : Int32} (h : v = -1 ∨ ∃ y, y ≤ 100 ∧ v = nI y) : (v < 0 ↔ v = -1) ∧ (0 ≤ v ↔ ¬ v = -1) := by
  rcases h with rfl | ⟨y, hy, rfl⟩
  · exact ⟨by decide, by decide⟩
  · have h1 : (0 : Int32) ≤ nI y := nI_pos' (by omega)
    have h2 : ¬ nI y = -1 := fun e => by
      rw [e] at h1
      exact absurd h1 (by decide)
    exact ⟨⟨fun hh => absurd hh (Int32.not_lt.mpr h1), fun hh => absurd hh h2⟩, ⟨fun _ => h2, fun _ => h1⟩⟩
section CNT
variable {σ0 σ τ : zS} {r F S W V ks n T K : Nat} {P : Nat → Nat → Nat} {C : mC} {m : Nat → Int32} {Q : Int32 → zS → Prop}
theorem s_howMany (hC : HC σ0 r F S W V ks n P) (hR : RB σ0 σ r n F T C) (x : Int32) (k : Q (mcnt T C x n) σ) : w_X0_howMany r x σ Q := by
  have hn := hC.2.2.2.2.2.2.2.2.1.1
  refine ⟨n + 1, ?_⟩
  have key : ∀ d j, j + d = n → w_X0_howMany_L4 r Q (d + 1) x (mcnt T C x j) (nI j) σ := by
    intro d
    induction d with
    | zero =>
      intro j hj
      have ej : j = n := by omega
      subst ej
      rw [w_X0_howMany_L4, (HC_fr hC hR.1).2.2.2.2.2.1]
      exact ⟨fun _ => k, fun hh => absurd (Int32.le_refl _) hh⟩
    | succ d ih =>
      intro j hj
      rw [w_X0_howMany_L4, (HC_fr hC hR.1).2.2.2.2.2.1, c30 (show j < 30 by omega), (hR.2.1 j (by omega)).1]
      refine ⟨fun hh => ?_, fun _ => ⟨v30 (by omega), ?_⟩⟩
      · rw [nI_leI (by omega) (by omega)] at hh
        omega
      have h1 := ih (j + 1) (by omega)
      unfold w_X0_howMany_J28
      rw [nI_1]
      unfold mcnt at h1
      refine ⟨fun c => ?_, fun c => ?_⟩
      · rw [if_pos c] at h1
        exact h1
      · rw [if_neg c] at h1
        exact h1
  exact key n 0 (by omega)
theorem m_inState (hM : HM τ F S W V ks n P) (hR : RM m n F C) (g : GC n F C) (x : Int32) (k : Q (mcnt C.2.2.2.2.2.2.2.1 C x n) (zm τ m)) : w_X7_inState x (zm τ m) Q := by
  have hn := hM.2.2.2.2.2.2.2.2.1
  refine ⟨n + 1, ?_⟩
  have key : ∀ d j, j + d = n → w_X7_inState_L4 Q (d + 1) x (mcnt C.2.2.2.2.2.2.2.1 C x j) (nI j) (zm τ m) := by
    intro d
    induction d with
    | zero =>
      intro j hj
      have ej : j = n := by omega
      subst ej
      rw [w_X7_inState_L4, zm_1, hM.2.2.2.2.2.1]
      exact ⟨fun _ => k, fun hh => absurd (Int32.le_refl _) hh⟩
    | succ d ih =>
      intro j hj
      rw [w_X7_inState_L4, zm_1, hM.2.2.2.2.2.1, mr_stateOf hn hR g (show j < n by omega)]
      refine ⟨fun hh => ?_, fun _ => ?_⟩
      · rw [nI_leI (by omega) (by omega)] at hh
        omega
      have h1 := ih (j + 1) (by omega)
      unfold w_X7_inState_J27
      rw [nI_1, Int32.add_zero]
      unfold mcnt at h1
      refine ⟨fun c => ?_, fun c => ?_⟩
      · rw [if_pos c] at h1
        exact h1
      · rw [if_neg c] at h1
        exact h1
  exact key n 0 (by omega)
theorem s_howManyTold (hK : IK σ τ F n K) (hF : F ≤ 8) (k : Q (mtl τ (2 * F)) σ) : w_X5_howManyTold (nI F) σ Q := by
  refine ⟨F + 1, ?_⟩
  have key : ∀ d j, j + d = F → w_X5_howManyTold_L4 Q (d + 1) (nI F) (mtl τ (2 * j)) (nI j) σ := by
    intro d
    induction d with
    | zero =>
      intro j hj
      have ej : j = F := by omega
      subst ej
      rw [w_X5_howManyTold_L4]
      exact ⟨fun _ => k, fun hh => absurd (Int32.le_refl _) hh⟩
    | succ d ih =>
      intro j hj
      have h1 := ih (j + 1) (by omega)
      obtain ⟨t1, t2⟩ := hK.1 j (by omega)
      have e0 : σ.2 (55 + (0 : Int32).toNatClampNeg) (nI j).toNatClampNeg = τ.2 10 (2 * j) := by rw [c8 (show j < 8 by omega), cl0]; exact t1.symm
      have e1 : σ.2 (55 + (1 : Int32).toNatClampNeg) (nI j).toNatClampNeg = τ.2 10 (2 * j + 1) := by rw [c8 (show j < 8 by omega), cl1]; exact t2.symm
      rw [w_X5_howManyTold_L4]
      unfold w_X5_howManyTold_J27 w_X5_howManyTold_J47
      rw [e0, e1, nI_1]
      simp only [Int32.add_zero]
      have h2 : mtl τ (2 * (j + 1)) = (if τ.2 10 (2 * j + 1) = -1 then (if τ.2 10 (2 * j) = -1 then mtl τ (2 * j) else mtl τ (2 * j) + 1) else (if τ.2 10 (2 * j) = -1 then mtl τ (2 * j) else mtl τ (2 * j) + 1) + 1) := rfl
      rw [h2] at h1
      have q0 : vp_in (0 : Int32) 2 := vpk (k := 0) rfl (by decide) (by decide)
      have q1 : vp_in (1 : Int32) 2 := vpk (k := 1) rfl (by decide) (by decide)
      refine ⟨fun hh => ?_, fun _ => ⟨q0, v8 (by omega), fun c => ⟨q1, v8 (by omega), fun c2 => ?_, fun c2 => ?_⟩, fun c => ⟨q1, v8 (by omega), fun c2 => ?_, fun c2 => ?_⟩⟩⟩
      · rw [nI_leI (by omega) (by omega)] at hh
        omega
      · rw [if_pos c2, if_pos c] at h1
        exact h1
      · rw [if_neg c2, if_pos c] at h1
        exact h1
      · rw [if_pos c2, if_neg c] at h1
        exact h1
      · rw [if_neg c2, if_neg c] at h1
        exact h1
  exact key F 0 (by omega)
theorem mtl_16 (hK : IK σ τ F n K) (hF : F ≤ 8) : mtl τ 16 = mtl τ (2 * F) := by
  have key : ∀ d, 2 * F + d ≤ 16 → mtl τ (2 * F + d) = mtl τ (2 * F) := by
    intro d
    induction d with
    | zero => intro _; rfl
    | succ d ih =>
      intro hd
      show (if τ.2 10 (2 * F + d) = -1 then mtl τ (2 * F + d) else _) = _
      rw [if_pos (hK.2.2.1 _ (by omega) (by omega))]
      exact ih (by omega)
  have := key (16 - 2 * F) (by omega)
  rw [show 2 * F + (16 - 2 * F) = 16 by omega] at this
  exact this
end CNT
theorem st_count : zStep_count Inv := by
  intro σ τ hI x1
  obtain ⟨F, S, W, V, n, K, P, C, m, τ0, rfl, hC, hM, hR, hW, hRM, hG, ht, hK⟩ := id hI
  have hF := hC.2.2.2.2.2.2.2.1.2.1
  -- the reference
  have ref : ∀ Q : Int32 → zS → Prop, ((x1 = (0 : Int32) → Q (nI n) (zm τ0 m)) ∧ (¬ (x1 = (0 : Int32)) → ((x1 = (1 : Int32) → Q (nI C.2.2.2.2.2.2.2.1) (zm τ0 m)) ∧ (¬ (x1 = (1 : Int32)) → ((x1 = (2 : Int32) → Q (nI C.2.2.2.2.2.2.2.2.1) (zm τ0 m)) ∧ (¬ (x1 = (2 : Int32)) → ((x1 = (3 : Int32) → Q (mcnt C.2.2.2.2.2.2.2.1 C 2 n) (zm τ0 m)) ∧ (¬ (x1 = (3 : Int32)) → ((x1 = (4 : Int32) → Q (mcnt C.2.2.2.2.2.2.2.1 C 1 n) (zm τ0 m)) ∧ (¬ (x1 = (4 : Int32)) → ((x1 = (5 : Int32) → Q (mcnt C.2.2.2.2.2.2.2.1 C 3 n) (zm τ0 m)) ∧ (¬ (x1 = (5 : Int32)) → ((x1 = (6 : Int32) → Q (mcnt C.2.2.2.2.2.2.2.1 C 4 n) (zm τ0 m)) ∧ (¬ (x1 = (6 : Int32)) → ((x1 = (7 : Int32) → Q (nI K) (zm τ0 m)) ∧ (¬ (x1 = (7 : Int32)) → ((x1 = (8 : Int32) → Q (mtl τ0 16) (zm τ0 m)) ∧ (¬ (x1 = (8 : Int32)) → Q (-1 : Int32) (zm τ0 m))))))))))))))))))) → w_X7_count x1 (zm τ0 m) Q := fun Q hQ => by
    refine ⟨17, ?_⟩
    have key : ∀ d j, j + d = 16 → w_X7_count_L4 Q (d + 1) x1 (mtl τ0 j) (nI j) (zm τ0 m) := by
      intro d
      induction d with
      | zero =>
        intro j hj
        have ej : j = 16 := by omega
        subst ej
        rw [w_X7_count_L4, zm_1, hM.2.2.2.2.2.1, hK.2.2.2.2.1, cl0, cl1, zm_8, hRM.2.2.1, hRM.2.2.2.1]
        refine ⟨fun _ => ⟨hQ.1, fun h0 => ⟨fun e => ⟨vpc0, (hQ.2 h0).1 e⟩, fun h1 => ⟨fun e => ⟨vpc1, ((hQ.2 h0).2 h1).1 e⟩, fun h2 => ⟨fun e => m_inState hM hRM hG.1 2 ((((hQ.2 h0).2 h1).2 h2).1 e), fun h3 => ⟨fun e => m_inState hM hRM hG.1 1 (((((hQ.2 h0).2 h1).2 h2).2 h3).1 e), fun h4 => ⟨fun e => m_inState hM hRM hG.1 3 ((((((hQ.2 h0).2 h1).2 h2).2 h3).2 h4).1 e), fun h5 => ⟨fun e => m_inState hM hRM hG.1 4 (((((((hQ.2 h0).2 h1).2 h2).2 h3).2 h4).2 h5).1 e), fun h6 => (((((((hQ.2 h0).2 h1).2 h2).2 h3).2 h4).2 h5).2 h6)⟩⟩⟩⟩⟩⟩⟩, fun hh => absurd (Int32.le_refl _) hh⟩
      | succ d ih =>
        intro j hj
        have h1 := ih (j + 1) (by omega)
        rw [w_X7_count_L4, nI_clamp (show j < 2 ^ 31 by omega), zm_n τ0 m (show (10 : Nat) ≠ 8 by decide), (told_c (hK.2.1 j (by omega))).2]
        refine ⟨fun hh => ?_, fun _ => ⟨vp_in_nI (by omega) (by decide), fun c => ?_, fun c => ?_⟩⟩
        · rw [show (16 : Int32) = nI 16 from rfl, nI_leI (by omega) (by omega)] at hh
          omega
        · unfold w_X7_count_J25
          unfold mtl at h1
          rw [if_neg c] at h1
          rw [nI_1]
          exact h1
        · unfold w_X7_count_J25
          unfold mtl at h1
          rw [if_pos (Classical.not_not.mp c)] at h1
          rw [nI_1, Int32.add_zero]
          exact h1
    exact key 16 0 (by omega)
  unfold w_X6_count
  rw [hC.2.2.2.2.2.1, show σ.1 10 13 = nI C.2.2.2.2.2.2.2.1 from hR.2.2.2.1, show σ.1 10 14 = nI C.2.2.2.2.2.2.2.2.1 from hR.2.2.2.2.1, hK.2.2.2.1, hC.1]
  refine ⟨fun h0 => ?_, fun h0 => ⟨fun h1 => ?_, fun h1 => ⟨fun h2 => ?_, fun h2 => ⟨fun h3 => ?_, fun h3 => ⟨fun h4 => ?_, fun h4 => ⟨fun h5 => ?_, fun h5 => ⟨fun h6 => ?_, fun h6 => ⟨fun h7 => ?_, fun h7 => ⟨fun h8 => ?_, fun h8 => ?_⟩⟩⟩⟩⟩⟩⟩⟩⟩
  · refine ref _ ?_
    simp [h0, hI]
  · refine ref _ ?_
    simp [h1, hI]
  · refine ref _ ?_
    simp [h2, hI]
  · refine s_howMany hC hR 2 (ref _ ?_)
    simp [h3, hI]
  · refine s_howMany hC hR 1 (ref _ ?_)
    simp [h4, hI]
  · refine s_howMany hC hR 3 (ref _ ?_)
    simp [h5, hI]
  · refine s_howMany hC hR 4 (ref _ ?_)
    simp [h6, hI]
  · refine ref _ ?_
    simp [h7, hI]
  · refine s_howManyTold hK hF (ref _ ?_)
    rw [mtl_16 hK hF]
    simp [h8, hI]
  · refine ref _ ?_
    simp [h0, h1, h2, h3, h4, h5, h6, h7, h8, hI]
/-! wrong -/
def mdif (τ : zS) (C : mC) (f : Nat) : Bool := decide ((¬ τ.2 10 (2 * f) = -1 ∧ ¬ τ.2 10 (2 * f) = C.2.2.2.2.1 f) ∨ (¬ τ.2 10 (2 * f + 1) = -1 ∧ ¬ τ.2 10 (2 * f + 1) = C.2.2.2.2.2.1 f))
def mwr (τ : zS) (C : mC) : Nat → Int32
  | 0 => 0
  | k + 1 => if mdif τ C k = true then mwr τ C k ||| ((1 : Int32) <<< (nI k &&& 31)) else mwr τ C k
theorem s_differs {σ τ0 : zS} {F n T K : Nat} {C : mC} {Q : Int32 → zS → Prop} (hK : IK σ τ0 F n K) (hR : RB σ σ 10 n F T C) (hF : F ≤ 8) {j : Nat} (hj : j < F) (k : Q (zB01 (mdif τ0 C j)) σ) : w_X5_differs (nI j) σ Q := by
  obtain ⟨t1, t2⟩ := hK.1 j hj
  obtain ⟨-, i1, i2, -, -⟩ := hR.2.2.1 j hj
  refine ⟨3, ?_⟩
  have key : ∀ d i, i + d = 2 → (0 < i → (τ0.2 10 (2 * j) = -1 ∨ τ0.2 10 (2 * j) = C.2.2.2.2.1 j)) → (1 < i → (τ0.2 10 (2 * j + 1) = -1 ∨ τ0.2 10 (2 * j + 1) = C.2.2.2.2.2.1 j)) → w_X5_differs_L2 Q (d + 1) (nI j) (nI i) σ := by
    intro d
    induction d with
    | zero =>
      intro i hi h0 h1
      have ei : i = 2 := by omega
      subst ei
      rw [w_X5_differs_L2]
      refine ⟨fun _ => ⟨z01_0, ?_⟩, fun hh => absurd (Int32.le_refl _) hh⟩
      have e : mdif τ0 C j = false := by
        simp only [mdif, decide_eq_false_iff_not]
        rintro (⟨h3, h4⟩ | ⟨h3, h4⟩)
        · exact (h0 (by omega)).elim h3 h4
        · exact (h1 (by omega)).elim h3 h4
      rw [e] at k
      exact k
    | succ d ih =>
      intro i hi h0 h1
      have hi2 : i = 0 ∨ i = 1 := by omega
      have q : vp_in (nI i) 2 := vp_in_nI (by omega) (by decide)
      rw [w_X5_differs_L2, c8 (show j < 8 by omega), c8 (show i < 8 by omega)]
      unfold w_X5_differs_J35
      rw [nI_1]
      have ya : ∀ told cnt : Int32, σ.2 (55 + i) j = told → σ.2 (10 + 17 + i) j = cnt → ((told = -1 ∨ told = cnt) → w_X5_differs_L2 Q (d + 1) (nI j) (nI (i + 1)) σ) → ((¬ told = -1 ∧ ¬ told = cnt) → Q 1 σ) → ((2 : Int32) ≤ nI i → (((0 : Int32) = 0 ∨ (0 : Int32) = 1) ∧ Q (0 : Int32) σ)) ∧ (¬ ((2 : Int32) ≤ nI i) → (vp_in (nI i) 2 ∧ (vp_in (nI j) 8 ∧ (((σ.2 (55 + i) j) = (-1 : Int32) → w_X5_differs_L2 Q (d + 1) (nI j) (nI (i + 1)) σ) ∧ (¬ ((σ.2 (55 + i) j) = (-1 : Int32)) → (vp_in (nI i) 2 ∧ (vp_in (nI j) 8 ∧ (((σ.2 (55 + i) j) = (σ.2 (10 + 17 + i) j) → w_X5_differs_L2 Q (d + 1) (nI j) (nI (i + 1)) σ) ∧ (¬ ((σ.2 (55 + i) j) = (σ.2 (10 + 17 + i) j)) → (((1 : Int32) = 0 ∨ (1 : Int32) = 1) ∧ Q (1 : Int32) σ)))))))))) := fun told cnt et ec hgo hyes => by
        rw [et, ec]
        refine ⟨fun hh => ?_, fun _ => ⟨q, v8 (by omega), fun c => hgo (Or.inl c), fun c => ⟨q, v8 (by omega), fun c2 => hgo (Or.inr c2), fun c2 => ⟨z01_1, hyes ⟨c, c2⟩⟩⟩⟩⟩
        rw [show (2 : Int32) = nI 2 from rfl, nI_leI (by decide) (by omega)] at hh
        omega
      rcases hi2 with rfl | rfl
      · refine ya (τ0.2 10 (2 * j)) (C.2.2.2.2.1 j) t1.symm i1 (fun h => ih 1 (by omega) (fun _ => h) (fun hh => by omega)) (fun h => ?_)
        have e : mdif τ0 C j = true := by
          simp only [mdif, decide_eq_true_eq]
          exact Or.inl h
        rw [e] at k
        exact k
      · refine ya (τ0.2 10 (2 * j + 1)) (C.2.2.2.2.2.1 j) t2.symm i2 (fun h => ih 2 (by omega) (fun _ => h0 (by omega)) (fun _ => h)) (fun h => ?_)
        have e : mdif τ0 C j = true := by
          simp only [mdif, decide_eq_true_eq]
          exact Or.inr h
        rw [e] at k
        exact k
  exact key 2 0 (by omega) (fun hh => by omega) (fun hh => by omega)
theorem st_wrong : zStep_wrong Inv := by
  intro σ τ hI
  obtain ⟨F, S, W, V, n, K, P, C, m, τ0, rfl, hC, hM, hR, hW, hRM, hG, ht, hK⟩ := id hI
  have hF := hC.2.2.2.2.2.2.2.1.2.1
  refine ⟨F + 1, ?_⟩
  have key7 : ∀ Q : Int32 → zS → Prop, Q (mwr τ0 C F) (zm τ0 m) → ∀ d j, j + d = F → w_X7_wrong_L4 Q (d + 1) (mwr τ0 C j) (nI j) (zm τ0 m) := by
    intro Q hQ d
    induction d with
    | zero =>
      intro j hj
      have ej : j = F := by omega
      subst ej
      rw [w_X7_wrong_L4, zm_1, hM.1]
      exact ⟨fun _ => hQ, fun hh => absurd (Int32.le_refl _) hh⟩
    | succ d ih =>
      intro j hj
      have h1 := ih (j + 1) (by omega)
      have ei0 : (2 : Int32) * nI j = nI (2 * j) := by rw [show (2 : Int32) = nI 2 from rfl, pk_mul]
      have ei1 : (2 : Int32) * nI j + 1 = nI (2 * j + 1) := by rw [ei0, nI_1]
      have u0 := told_c (hK.2.1 (2 * j) (by omega))
      have u1 := told_c (hK.2.1 (2 * j + 1) (by omega))
      have w0 : vp_in (nI (2 * j)) 16 := vp_in_nI (by omega) (by decide)
      have w1 : vp_in (nI (2 * j + 1)) 16 := vp_in_nI (by omega) (by decide)
      unfold mwr at h1
      have yes : mdif τ0 C j = true → w_X7_wrong_J79 Q (fun a1 a2 aσ => w_X7_wrong_L4 Q (d + 1) a1 a2 aσ) (mwr τ0 C j) (nI j) (zm τ0 m) := fun hd => by
        unfold w_X7_wrong_J79 w_X7_wrong_J84 w_X7_wrong_J97
        refine ⟨fun hh => absurd hh (by decide), fun _ => ?_⟩
        rw [if_pos hd] at h1
        rw [nI_1]
        exact h1
      have no : mdif τ0 C j = false → w_X7_wrong_J83 Q (fun a1 a2 aσ => w_X7_wrong_L4 Q (d + 1) a1 a2 aσ) (mwr τ0 C j) (nI j) (zm τ0 m) := fun hd => by
        unfold w_X7_wrong_J83 w_X7_wrong_J84 w_X7_wrong_J97
        refine ⟨fun _ => ?_, fun hh => absurd rfl hh⟩
        rw [if_neg (by rw [hd]; decide)] at h1
        rw [nI_1, Int32.or_zero]
        exact h1
      have snd : (τ0.2 10 (2 * j) = -1 ∨ τ0.2 10 (2 * j) = C.2.2.2.2.1 j) → w_X7_wrong_J43 Q (fun a1 a2 aσ => w_X7_wrong_L4 Q (d + 1) a1 a2 aσ) (mwr τ0 C j) (nI j) (zm τ0 m) := fun h0 => by
        unfold w_X7_wrong_J43
        rw [ei1, nI_clamp (by omega), ix133 (by omega), zm_8, (hRM.2.1 j (by omega)).2.2.1, zm_n _ _ (by decide), u1.1]
        refine ⟨w1, fun c => no ?_, fun c => ⟨w1, vp133 (by omega), fun c2 => no ?_, fun c2 => yes ?_⟩⟩
        · simp only [mdif, decide_eq_false_iff_not]
          rintro (⟨h3, h4⟩ | ⟨h3, h4⟩)
          · exact h0.elim h3 h4
          · exact h3 c
        · simp only [mdif, decide_eq_false_iff_not]
          rintro (⟨h3, h4⟩ | ⟨h3, h4⟩)
          · exact h0.elim h3 h4
          · exact h4 c2
        · simp only [mdif, decide_eq_true_eq]
          exact Or.inr ⟨c, c2⟩
      rw [w_X7_wrong_L4, zm_1, hM.1, ei0, nI_clamp (by omega), ix125 (by omega), zm_8, (hRM.2.1 j (by omega)).2.1, zm_n _ _ (by decide), u0.1]
      refine ⟨fun hh => ?_, fun _ => ⟨w0, fun c => snd (Or.inl c), fun c => ⟨w0, vp125 (by omega), fun c2 => snd (Or.inr c2), fun c2 => yes ?_⟩⟩⟩
      · rw [nI_leI (by omega) (by omega)] at hh
        omega
      · simp only [mdif, decide_eq_true_eq]
        exact Or.inl ⟨c, c2⟩
  have key : ∀ d j, j + d = F → w_X6_wrong_L4 (fun v σ2 => w_X7_wrong (zm τ0 m) (fun v2 τ2 => v = v2 ∧ Inv σ2 τ2)) (d + 1) (mwr τ0 C j) (nI j) σ := by
    intro d
    induction d with
    | zero =>
      intro j hj
      have ej : j = F := by omega
      subst ej
      rw [w_X6_wrong_L4, hC.1]
      refine ⟨fun _ => ⟨j + 1, key7 _ ⟨rfl, hI⟩ j 0 (by omega)⟩, fun hh => absurd (Int32.le_refl _) hh⟩
    | succ d ih =>
      intro j hj
      have h1 := ih (j + 1) (by omega)
      obtain ⟨t1, t2⟩ := hK.1 j (by omega)
      obtain ⟨-, i1, i2, -, -⟩ := hR.2.2.1 j (by omega)
      rw [w_X6_wrong_L4, hC.1]
      refine ⟨fun hh => ?_, fun _ => ?_⟩
      · rw [nI_leI (by omega) (by omega)] at hh
        omega
      unfold w_X6_wrong_J39
      rw [nI_1]
      unfold mwr at h1
      have fin : ∀ b : Bool, b = mdif τ0 C j → ((zB01 b = 0 → w_X6_wrong_L4 (fun v σ2 => w_X7_wrong (zm τ0 m) (fun v2 τ2 => v = v2 ∧ Inv σ2 τ2)) (d + 1) (mwr τ0 C j) (nI (j + 1)) σ) ∧ (¬ zB01 b = 0 → w_X6_wrong_L4 (fun v σ2 => w_X7_wrong (zm τ0 m) (fun v2 τ2 => v = v2 ∧ Inv σ2 τ2)) (d + 1) (mwr τ0 C j ||| ((1 : Int32) <<< (nI j &&& 31))) (nI (j + 1)) σ)) := fun b hb => by
        rw [zB01_0]
        refine ⟨fun h => ?_, fun h => ?_⟩
        · rw [if_neg (by rw [← hb, h]; decide)] at h1
          exact h1
        · rw [Bool.not_eq_false] at h
          rw [if_pos (by rw [← hb, h])] at h1
          exact h1
      exact s_differs hK hR hF (by omega) (fin _ rfl)
  exact key F 0 (by omega)

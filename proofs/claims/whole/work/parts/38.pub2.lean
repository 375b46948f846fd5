theorem RB_sh {σ0 σ : zS} {r n F T : Nat} {C : mC} (h : RB σ0 σ r n F T C) (hF : F ≤ 8) {f : Nat} (hf : f < F) (b : Bool) : RB σ0 (zA σ (r + 19) f (zB01 b)) r n F T (C.1, C.2.1, C.2.2.1, C.2.2.2.1, C.2.2.2.2.1, C.2.2.2.2.2.1, C.2.2.2.2.2.2.1, C.2.2.2.2.2.2.2.1, C.2.2.2.2.2.2.2.2.1, C.2.2.2.2.2.2.2.2.2.1, fu C.2.2.2.2.2.2.2.2.2.2.1 f b, C.2.2.2.2.2.2.2.2.2.2.2) := by
  obtain ⟨h0, h1, h2, h3, h4, h5, h6, h7⟩ := h
  refine ⟨Fr_A h0 (by omega) (by omega), fun q hq => ?_, fun g hg => ?_, h3, h4, h5, h6, fun q hq hq2 => by rw [zA_2, zA_2, if_neg (by omega), if_neg (by omega)]; exact h7 q hq hq2⟩
  · obtain ⟨a1, a2, a3, a4⟩ := h1 q hq
    rw [zA_2, zA_2, zA_2, zA_2, if_neg (by omega), if_neg (by omega), if_neg (by omega), if_neg (by omega)]
    exact ⟨a1, a2, a3, a4⟩
  · obtain ⟨a1, a2, a3, a4, a5⟩ := h2 g hg
    refine ⟨by rw [zA_2, if_neg (by omega)]; exact a1, by rw [zA_2, if_neg (by omega)]; exact a2, by rw [zA_2, if_neg (by omega)]; exact a3, fun i q hi => by rw [zA_2, if_neg (by omega)]; exact a4 i q hi, ?_⟩
    rw [zA_2]
    show _ = zB01 (fu C.2.2.2.2.2.2.2.2.2.2.1 f b g)
    by_cases e : g = f
    · subst e
      simp [fu]
    · simp [fu, e, a5]
theorem bt_set {x : Int32} {f g : Nat} (hf : f < 32) (hg : g < 32) : bt (x ||| ((1 : Int32) <<< (nI f &&& 31))) g = (bt x g || decide (g = f)) := by rw [b_or, bt_shl f hf hg]
theorem bt_clr {x : Int32} {f g : Nat} (hf : f < 32) (hg : g < 32) : bt (x &&& (((1 : Int32) <<< (nI f &&& 31)) ^^^ (-1 : Int32))) g = (bt x g && !decide (g = f)) := by
  rw [b_and, b_xor, bt_shl f hf hg, b_m1 g hg, Bool.xor_true]
theorem st_shut : zStep_shut Inv := by
  intro σ τ hI x1 x2 hx
  obtain ⟨F, S, W, V, n, K, P, C, m, τ0, rfl, hC, hM, hR, hW, hRM, hG, ht, hK⟩ := id hI
  obtain ⟨a1, a2, a3, a4, a5, a6, a7, a8, a9, b1, b2, b3⟩ := id hC
  have hF := a8.2.1
  unfold w_X6_shut w_X7_shut
  rw [s_isFloor, a1]
  by_cases hc : (0 : Int32) ≤ x1 ∧ x1 ≤ nI F - 1
  · refine zYes hc ?_
    obtain ⟨f, hf, rfl⟩ := zrng1 (by omega) hc.1 hc.2
    obtain ⟨b, hb⟩ : ∃ b : Bool, x2 = zB01 b := by
      rcases hx with hx | hx
      · exact ⟨false, hx⟩
      · exact ⟨true, hx⟩
    have hsh := (hR.2.2.1 f hf).2.2.2.2
    refine ⟨v8 (by omega), v8 (by omega), hx, ?_⟩
    have e29 : σ.2 (10 + 19) f = zB01 (C.2.2.2.2.2.2.2.2.2.2.1 f) := hsh
    rw [zlet_def, c8 (show f < 8 by omega), e29]
    have hbt := hRM.2.2.2.2.2.1 f hf
    have fin : ∀ m3, (∀ g, g < F → bt m3 g = fu C.2.2.2.2.2.2.2.2.2.2.1 f b g) → Inv (zA σ 29 f x2) (zm τ0 (upd m 3 m3)) := fun m3 h3 => by
      rw [hb]
      have h9 := RB_sh hR hF hf b
      refine ⟨F, S, W, V, n, K, P, _, upd m 3 m3, τ0, rfl, HC_fr hC h9.1, hM, RB_self h9, ?_, ?_, hG, ht, ?_⟩
      · intro b' hb'
        rw [zA_2, if_neg (by omega), hW b' hb']
        congr 1
        exact wsm_same (C' := C) (fun q => by exact Iff.rfl) n
      · exact RM_hd hRM a8.2.1 a9.1 C.2.2.2.2.2.2.2.1 C.2.2.2.2.2.2.2.2.1 C.2.2.2.2.2.2.2.2.2.2.2 C.2.2.2.2.2.2.2.2.2.1 (fu C.2.2.2.2.2.2.2.2.2.2.1 f b) (by simp only [upd_e]; exact hRM.2.2.1) (by simp only [upd_e]; exact hRM.2.2.2.1) (by simp only [upd_e]; exact hRM.2.2.2.2.1) (fun g hg => by simp only [upd_e]; exact h3 g hg) (by simp only [upd_e]; exact hRM.2.2.2.2.2.2.1) (fun x hx => by simp only [upd_e]; rw [if_neg (by omega)])
      · exact IK_eq hK (fun k j hk => by rw [zA_2, if_neg (by omega)]) rfl rfl (fun _ _ => rfl)
    have key : ∀ v, v = zB01 (C.2.2.2.2.2.2.2.2.2.2.1 f) → w_X7_isFloor (nI f) (zm τ0 m) (fun v1 t2 => ((v1 = 0 → (fun v2 τ2 => v = v2 ∧ Inv (zA σ (10 + 19) f x2) τ2) (-1 : Int32) t2) ∧ (¬ (v1 = 0) → (vp_in ((3 : Int32)) 389 ∧ ((x2 = 0 → (vp_in ((3 : Int32)) 389 ∧ w_X7_shut_J55 (fun v2 τ2 => v = v2 ∧ Inv (zA σ (10 + 19) f x2) τ2) ((((t2.2 8 ((3 : Int32)).toNatClampNeg) >>> (nI f &&& 31)) &&& (1 : Int32))) (((t2.2 8 ((3 : Int32)).toNatClampNeg) &&& (((1 : Int32) <<< (nI f &&& 31)) ^^^ (-1 : Int32)))) ((3 : Int32)) t2)) ∧ (¬ (x2 = 0) → (vp_in ((3 : Int32)) 389 ∧ w_X7_shut_J55 (fun v2 τ2 => v = v2 ∧ Inv (zA σ (10 + 19) f x2) τ2) ((((t2.2 8 ((3 : Int32)).toNatClampNeg) >>> (nI f &&& 31)) &&& (1 : Int32))) (((t2.2 8 ((3 : Int32)).toNatClampNeg) ||| ((1 : Int32) <<< (nI f &&& 31)))) ((3 : Int32)) t2)))))))  := fun v hv => by
      rw [r_isFloor, zm_1, hM.1]
      refine zYes hc ⟨vpc3, fun h0 => ⟨vpc3, vpc3, ?_⟩, fun h0 => ⟨vpc3, vpc3, ?_⟩⟩
      · rw [zlet_def, cl3, zm_8, zm_A, bt_tst f (by omega), hbt]
        refine ⟨by rw [hv]; cases C.2.2.2.2.2.2.2.2.2.2.1 f <;> rfl, fin _ (fun g hg => ?_)⟩
        have hb0 : b = false := by rw [h0] at hb; cases b with
          | false => rfl
          | true => exact absurd hb (by decide)
        rw [bt_clr (by omega) (by omega), hRM.2.2.2.2.2.1 g hg, hb0]
        by_cases e : g = f
        · simp [fu, e]
        · simp [fu, e]
      · rw [zlet_def, cl3, zm_8, zm_A, bt_tst f (by omega), hbt]
        refine ⟨by rw [hv]; cases C.2.2.2.2.2.2.2.2.2.2.1 f <;> rfl, fin _ (fun g hg => ?_)⟩
        have hb0 : b = true := by cases b with
          | true => rfl
          | false => exact absurd hb h0
        rw [bt_set (by omega) (by omega), hRM.2.2.2.2.2.1 g hg, hb0]
        by_cases e : g = f
        · simp [fu, e]
        · simp [fu, e]
    refine ⟨fun h0 => key 0 h0.symm, fun h0 => key 1 ?_⟩
    rw [zB01_n] at h0
    rw [h0]
    rfl
  · refine zNo hc ?_
    dsimp only
    rw [r_isFloor, zm_1, hM.1]
    exact zNo hc ⟨rfl, hI⟩
theorem st_stands : zStep_stands Inv := by
  intro σ τ hI x1 x2
  obtain ⟨F, S, W, V, n, K, P, C, m, τ0, rfl, hC, hM, hR, hW, hRM, hG, ht, hK⟩ := id hI
  obtain ⟨a1, a2, a3, a4, a5, a6, a7, a8, a9, b1, b2, b3⟩ := id hC
  have hF := a8.2.1
  have hn := a9.1
  unfold w_X6_stands w_X7_stands
  rw [s_isFloor, a1]
  by_cases hc : (0 : Int32) ≤ x1 ∧ x1 ≤ nI F - 1
  · refine zYes hc ?_
    obtain ⟨f, hf, rfl⟩ := zrng1 (by omega) hc.1 hc.2
    have hlen := GC_len hG.1 hf
    have e24 : σ.2 (10 + 14) f = nI (C.2.2.2.1 f).length := (hR.2.2.1 f hf).1
    have f7 : ∀ {X Y : Prop}, Y → w_X7_isFloor (nI f) (zm τ0 m) (fun v1 t2 => (v1 = 0 → X) ∧ (¬ v1 = 0 → Y)) := fun {X Y} hY => by
      rw [r_isFloor, zm_1, hM.1]
      exact zYes hc hY
    refine ⟨fun h0 => ⟨v8 (by omega), ?_⟩, fun h0 => ?_⟩
    · rw [c8 (show f < 8 by omega), e24]
      refine ⟨fun h1 => ?_, fun h1 => ?_⟩
      · dsimp only
        rw [r_isFloor, zm_1, hM.1]
        refine zYes hc ⟨fun _ => ⟨vp141 (by omega), ?_⟩, fun hh => absurd h0 hh⟩
        rw [ix141 (by omega), zm_8, (hRM.2.1 f hf).1]
        exact ⟨fun _ => ⟨rfl, hI⟩, fun hh => absurd h1 hh⟩
      · obtain ⟨i, hi, rfl⟩ : ∃ i, i < (C.2.2.2.1 f).length ∧ x2 = nI i := by
          have h2 := Int32.not_le.mp h1
          have h0' : nI 0 ≤ x2 := h0
          rw [sle, nI_toInt (by decide)] at h0'
          rw [slt, nI_toInt (by omega)] at h2
          refine ⟨x2.toInt.toNat, by omega, ?_⟩
          apply Int32.toInt_inj.mp
          rw [nI_toInt (by omega)]
          omega
        obtain ⟨q, hq⟩ : ∃ q, (C.2.2.2.1 f)[i]? = some q := ⟨_, List.getElem?_eq_getElem hi⟩
        refine ⟨v8 (by omega), v30 (by omega), ?_⟩
        rw [c30 (show i < 30 by omega), show σ.2 (10 + 6 + f) i = nI q from (hR.2.2.1 f hf).2.2.2.1 i q hq]
        dsimp only
        rw [r_isFloor, zm_1, hM.1]
        refine zYes hc ⟨fun _ => ⟨vp141 (by omega), ?_⟩, fun hh => absurd h0 hh⟩
        rw [ix141 (by omega), zm_8, (hRM.2.1 f hf).1]
        refine ⟨fun hh => absurd hh h1, fun _ => ⟨vpL (by omega) (by omega), ?_⟩⟩
        rw [ixL (by omega) (by omega), (hRM.2.1 f hf).2.2.2 i q hq]
        exact ⟨rfl, hI⟩
    · dsimp only
      rw [r_isFloor, zm_1, hM.1]
      exact zYes hc ⟨fun hh => absurd hh h0, fun _ => ⟨rfl, hI⟩⟩
  · refine zNo hc ?_
    dsimp only
    rw [r_isFloor, zm_1, hM.1]
    exact zNo hc ⟨rfl, hI⟩
theorem st_counted : zStep_counted Inv := by
  intro σ τ hI x1 x2
  obtain ⟨F, S, W, V, n, K, P, C, m, τ0, rfl, hC, hM, hR, hW, hRM, hG, ht, hK⟩ := id hI
  obtain ⟨a1, a2, a3, a4, a5, a6, a7, a8, a9, b1, b2, b3⟩ := id hC
  have hF := a8.2.1
  unfold w_X6_counted w_X7_counted
  rw [s_isFloor, a1]
  by_cases hc : (0 : Int32) ≤ x1 ∧ x1 ≤ nI F - 1
  · refine zYes hc ?_
    obtain ⟨f, hf, rfl⟩ := zrng1 (by omega) hc.1 hc.2
    rw [s_within]
    by_cases hd : (0 : Int32) ≤ x2 ∧ x2 ≤ 1
    · refine zYes hd ?_
      obtain ⟨w, w1, w2, rfl⟩ := zrng (a := 0) (b := 1) (by decide) (by decide) hd.1 hd.2
      refine ⟨vp_in_nI (by omega) (by decide), v8 (by omega), ?_⟩
      dsimp only
      rw [r_isFloor, zm_1, hM.1]
      refine zYes hc ?_
      rw [r_in]
      refine zYes hd ?_
      rw [c8 (show f < 8 by omega), c8 (show w < 8 by omega)]
      have hw : w = 0 ∨ w = 1 := by omega
      unfold w_X7_counted_J35
      rcases hw with rfl | rfl
      · refine ⟨fun _ => ⟨vp125 (by omega), ?_⟩, fun hh => absurd rfl hh⟩
        rw [ix125 (by omega), zm_8, (hRM.2.1 f hf).2.1]
        exact ⟨(hR.2.2.1 f hf).2.1, hI⟩
      · refine ⟨fun hh => absurd hh (by decide), fun _ => ⟨vp133 (by omega), ?_⟩⟩
        rw [ix133 (by omega), zm_8, (hRM.2.1 f hf).2.2.1]
        exact ⟨(hR.2.2.1 f hf).2.2.1, hI⟩
    · refine zNo hd ?_
      dsimp only
      rw [r_isFloor, zm_1, hM.1]
      refine zYes hc ?_
      rw [r_in]
      exact zNo hd ⟨rfl, hI⟩
  · refine zNo hc ?_
    dsimp only
    rw [r_isFloor, zm_1, hM.1]
    exact zNo hc ⟨rfl, hI⟩
theorem zm_B (τ : zS) (m : Nat → Int32) (a i : Nat) (v : Int32) (ha : a ≠ 8) : zA (zm τ m) a i v = zm (zA τ a i v) m := by
  refine Prod.ext rfl ?_
  funext k j
  simp only [zA, zm, upd]
  by_cases hk : k = 8
  · subst hk
    have : ¬ (8 = a) := fun e => ha e.symm
    simp [this]
  · simp [hk]
theorem st_tell : zStep_tell Inv := by
  intro σ τ hI x1 x2 x3
  obtain ⟨F, S, W, V, n, K, P, C, m, τ0, rfl, hC, hM, hR, hW, hRM, hG, ht, hK⟩ := id hI
  obtain ⟨a1, a2, a3, a4, a5, a6, a7, a8, a9, b1, b2, b3⟩ := id hC
  have hF := a8.2.1
  unfold w_X6_tell w_X7_tell
  rw [s_isFloor, a1]
  by_cases hc : (0 : Int32) ≤ x1 ∧ x1 ≤ nI F - 1
  · refine zYes hc ?_
    obtain ⟨f, hf, rfl⟩ := zrng1 (by omega) hc.1 hc.2
    rw [s_within]
    by_cases hd : (0 : Int32) ≤ x2 ∧ x2 ≤ 1
    · refine zYes hd ?_
      obtain ⟨w, w1, w2, rfl⟩ := zrng (a := 0) (b := 1) (by decide) (by decide) hd.1 hd.2
      rw [s_within]
      by_cases he : (-1 : Int32) ≤ x3 ∧ x3 ≤ 100
      · refine zYes he ⟨vp_in_nI (by omega) (by decide), v8 (by omega), vp_in_nI (by omega) (by decide), v8 (by omega), ?_⟩
        rw [zlet_def]
        dsimp only
        rw [r_isFloor, zm_1, hM.1]
        refine zYes hc ?_
        rw [r_in]
        refine zYes hd ?_
        rw [r_in]
        have eix : (2 : Int32) * nI f + nI w = nI (2 * f + w) := by rw [show (2 : Int32) = nI 2 from rfl, pk_mul, nI_add]
        refine zYes he ?_
        rw [eix, nI_clamp (show 2 * f + w < 2 ^ 31 by omega), c8 (show f < 8 by omega), c8 (show w < 8 by omega), zlet_def, zm_B _ _ _ _ _ (by decide)]
        refine ⟨vp_in_nI (by omega) (by decide), vp_in_nI (by omega) (by decide), ?_, ?_⟩
        · obtain ⟨k1, -⟩ := hK
          have hw : w = 0 ∨ w = 1 := by omega
          rw [zm_n _ _ (by decide)]
          rcases hw with rfl | rfl
          · exact (k1 f hf).1.symm
          · exact (k1 f hf).2.symm
        · refine ⟨F, S, W, V, n, K, P, C, m, zA τ0 10 (2 * f + w) x3, rfl, ?_, ?_, ?_, ?_, hRM, hG, ht, ?_⟩
          · refine ⟨a1, a2, a3, a4, a5, a6, fun a ha p hp => ?_, a8, a9, b1, b2, b3⟩
            rw [zA_2, if_neg (by omega)]
            exact a7 a ha p hp
          · obtain ⟨m1, m2, m3, m4, m5, m6, m7, m8, m9⟩ := hM
            refine ⟨m1, m2, m3, m4, m5, m6, fun a ha p hp => ?_, m8, m9⟩
            rw [zA_2, if_neg (by omega)]
            exact m7 a ha p hp
          · obtain ⟨e0, e1, e2, e3, e4, e5, e6, e7⟩ := hR
            refine ⟨⟨fun _ _ _ => rfl, fun _ _ _ => rfl, rfl, rfl⟩, fun p hp => ?_, fun g hg => ?_, e3, e4, e5, e6, fun p hp hp2 => ?_⟩
            · rw [zA_2, zA_2, zA_2, zA_2, if_neg (by omega), if_neg (by omega), if_neg (by omega), if_neg (by omega)]
              exact e1 p hp
            · obtain ⟨g1, g2, g3, g4, g5⟩ := e2 g hg
              exact ⟨by rw [zA_2, if_neg (by omega)]; exact g1, by rw [zA_2, if_neg (by omega)]; exact g2, by rw [zA_2, if_neg (by omega)]; exact g3, fun i q hi => by rw [zA_2, if_neg (by omega)]; exact g4 i q hi, by rw [zA_2, if_neg (by omega)]; exact g5⟩
            · rw [zA_2, zA_2, if_neg (by omega), if_neg (by omega)]
              exact e7 p hp hp2
          · intro b' hb'
            rw [zA_2, if_neg (by omega)]
            exact hW b' hb'
          · obtain ⟨k1, k2, k3, k4, k5, k6, k7⟩ := hK
            refine ⟨fun g hg => ?_, fun x hx => ?_, fun x hx hx2 => ?_, k4, k5, k6, fun i hi => ?_⟩
            · rw [zA_2, zA_2, zA_2, zA_2]
              have hw : w = 0 ∨ w = 1 := by omega
              by_cases e : g = f
              · subst e
                rcases hw with rfl | rfl
                · rw [if_pos ⟨rfl, rfl⟩, if_pos ⟨rfl, rfl⟩, if_neg (by omega), if_neg (by omega)]
                  exact ⟨rfl, (k1 g hg).2⟩
                · rw [if_neg (by omega), if_neg (by omega), if_pos ⟨rfl, rfl⟩, if_pos ⟨rfl, rfl⟩]
                  exact ⟨(k1 g hg).1, rfl⟩
              · rw [if_neg (by omega), if_neg (by omega), if_neg (by omega), if_neg (by omega)]
                exact k1 g hg
            · rw [zA_2]
              by_cases e : x = 2 * f + w
              · rw [if_pos ⟨rfl, e⟩]
                by_cases e2 : x3 = -1
                · exact Or.inl e2
                · right
                  have h1 := he.1
                  have h2 := he.2
                  rw [sle, show (-1 : Int32).toInt = -1 by decide] at h1
                  rw [sle, show (100 : Int32).toInt = 100 by decide] at h2
                  have h3 : x3.toInt ≠ -1 := fun hh => e2 (Int32.toInt_inj.mp (by rw [hh]; decide))
                  refine ⟨x3.toInt.toNat, by omega, ?_⟩
                  apply Int32.toInt_inj.mp
                  rw [nI_toInt (by omega)]
                  omega
              · rw [if_neg (by omega)]
                exact k2 x hx
            · rw [zA_2, if_neg (by omega)]
              exact k3 x hx hx2
            · obtain ⟨N, n1, n2, n3, n4⟩ := k7 i hi
              refine ⟨N, n1, by rw [zA_2, if_neg (by omega)]; exact n2, by rw [zA_2, if_neg (by omega)]; exact n3, fun p hp => ?_⟩
              rw [zA_2, if_neg (by omega), zA_2, if_neg (by omega)]
              exact n4 p hp
      · refine zNo he ?_
        dsimp only
        rw [r_isFloor, zm_1, hM.1]
        refine zYes hc ?_
        rw [r_in]
        refine zYes hd ?_
        rw [r_in]
        exact zNo he ⟨rfl, hI⟩
    · refine zNo hd ?_
      dsimp only
      rw [r_isFloor, zm_1, hM.1]
      refine zYes hc ?_
      rw [r_in]
      exact zNo hd ⟨rfl, hI⟩
  · refine zNo hc ?_
    dsimp only
    rw [r_isFloor, zm_1, hM.1]
    exact zNo hc ⟨rfl, hI⟩

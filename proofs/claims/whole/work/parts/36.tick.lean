section STK
variable {σ0 σ : zS} {r F S W V ks n T : Nat} {P : Nat → Nat → Nat} {C : mC} {Q : Int32 → zS → Prop}
theorem s_ends (hC : HC σ0 r F S W V ks n P) (h : RB σ0 σ r n F T C) (hw : WB σ r n F P C) (g : GC n F C) (k : ∀ σ', RB σ0 σ' r n F T (mend F C) → WB σ' r n F P (mend F C) → Q 0 σ') : ∃ m21, w_X0_tick_L21 r Q m21 0 σ := by
  have hF := hC.2.2.2.2.2.2.2.1.2.1
  have hn := hC.2.2.2.2.2.2.2.2.1.1
  refine ⟨F + 1, ?_⟩
  have key : ∀ d j (σk : zS), j + d = F → RB σ0 σk r n F T (C.1, C.2.1, C.2.2.1, C.2.2.2.1, C.2.2.2.2.1, C.2.2.2.2.2.1, C.2.2.2.2.2.2.1, C.2.2.2.2.2.2.2.1, C.2.2.2.2.2.2.2.2.1, C.2.2.2.2.2.2.2.2.2.1, C.2.2.2.2.2.2.2.2.2.2.1, mlg C j) → σk.2 = σ.2 → w_X0_tick_L21 r Q (d + 1) (nI j) σk := by
    intro d
    induction d with
    | zero =>
      intro j σk hj hR hW
      have ej : j = F := by omega
      subst ej
      rw [w_X0_tick_L21, (HC_fr hC hR.1).1, zlet_def]
      refine ⟨fun _ => k _ ?_ ?_, fun hh => absurd (Int32.le_refl _) hh⟩
      · obtain ⟨e0, e1, e2, e3, e4, e5, e6, e7⟩ := hR
        refine ⟨Fr_I e0 (by decide) (by decide), e1, e2, ?_, ?_, ?_, ?_, e7⟩
        · rw [zI_1, if_pos ⟨rfl, rfl⟩, e3, nI_1]
          rfl
        · rw [zI_1, if_neg (by omega)]; exact e4
        · rw [zI_1, if_neg (by omega)]; exact e5
        · rw [zI_1, if_neg (by omega)]; exact e6
      · intro b hb
        rw [zI_2, hW, hw b hb]
        congr 1
        exact wsm_same (C' := C) (fun q => by exact Iff.rfl) n
    | succ d ih =>
      intro j σk hj hR hW
      have hlen := GC_len g (show j < F by omega)
      rw [w_X0_tick_L21, (HC_fr hC hR.1).1, zlet_def, c8 (show j < 8 by omega), nI_1]
      refine ⟨fun hh => ?_, fun _ => ⟨v8 (by omega), ih (j + 1) _ (by omega) ?_ hW⟩⟩
      · rw [nI_leI (by omega) (by omega)] at hh
        omega
      · obtain ⟨e0, e1, e2, e3, e4, e5, e6, e7⟩ := hR
        refine ⟨Fr_I e0 (by decide) (by decide), e1, e2, ?_, ?_, ?_, ?_, e7⟩
        · rw [zI_1, if_neg (by omega)]; exact e3
        · rw [zI_1, if_neg (by omega)]; exact e4
        · rw [zI_1, if_pos ⟨rfl, rfl⟩, e5, (e2 j (by omega)).1]
          show (if mlg C j < nI (C.2.2.2.1 j).length then nI (C.2.2.2.1 j).length else mlg C j) = (if nI (C.2.2.2.1 j).length ≤ mlg C j then mlg C j else nI (C.2.2.2.1 j).length)
          by_cases c : nI (C.2.2.2.1 j).length ≤ mlg C j
          · rw [if_pos c, if_neg (Int32.not_lt.mpr c)]
          · rw [if_neg c, if_pos (Int32.not_le.mp c)]
        · rw [zI_1, if_neg (by omega)]; exact e6
  exact key F 0 σ (by omega) h rfl
theorem s_tick (hC : HC σ0 r F S W V ks n P) (h : RB σ0 σ r n F C.2.2.2.2.2.2.2.1 C) (hw : WB σ r n F P C) (g : GT P F S n C) (ht : C.2.2.2.2.2.2.2.1 < 90000) (k : ∀ σ', RB σ0 σ' r n F (C.2.2.2.2.2.2.2.1 + 1) (mtick P F S W V ks n C) → WB σ' r n F P (mtick P F S W V ks n C) → Q 0 σ') : w_X0_tick r σ Q := by
  obtain ⟨c1, c2, c3, c4, c5, c6, c7, c8, c9⟩ := hC.2.2.2.2.2.2.2.1
  have hP := hC.2.2.2.2.2.2.2.2.1
  have hS : 0 < S := by omega
  have d2 := (mul_small (b := 0) c2 c4 (by decide)).2
  have d3 : 0 < (2 * F + 2) * S := Nat.mul_pos (by omega) hS
  obtain ⟨g1, g2, g3, g4⟩ := g
  have rest : ∀ σ1, RB σ0 σ1 r n F C.2.2.2.2.2.2.2.1 (mgo F S V C) → WB σ1 r n F P (mgo F S V C) → w_X0_tick_J11 r Q σ1 := fun σ1 hR hW => by
    have gg : GC n F (mgo F S V C) := by unfold mgo; split <;> exact g1
    have etk : (mgo F S V C).2.2.2.2.2.2.2.1 = C.2.2.2.2.2.2.2.1 := by unfold mgo; split <;> rfl
    have est : (mgo F S V C).1 = C.1 := by unfold mgo; split <;> rfl
    have emv : (mgo F S V C).2.2.2.2.2.2.2.2.1 < (2 * F + 2) * S := by
      unfold mgo
      split
      · exact g4
      · exact Nat.mod_lt _ d3
    have hz : ∀ p, p < n → P 0 p = (mgo F S V C).2.2.2.2.2.2.2.1 → (mgo F S V C).1 p = 0 := fun p hp he => by rw [est]; exact g2 p hp (by rw [← etk, he]; exact Nat.le_refl _)
    unfold w_X0_tick_J11
    refine s_comeAndArrive hC (by rw [etk]; exact hR) hW gg (by rw [etk]; exact ht) hz (fun σ2 h2 hw2 => ?_)
    rw [etk] at h2
    have g5 : GC n F (mcome P ks n (mgo F S V C)) := GC_come hP c2 n _ (Nat.le_refl n) gg (by rw [etk]; exact ht) hz
    have emv2 : (mcome P ks n (mgo F S V C)).2.2.2.2.2.2.2.2.1 = (mgo F S V C).2.2.2.2.2.2.2.2.1 := by rw [mcome_rest]
    refine s_serveBoxes hC h2 hw2 g5 (by rw [emv2]; omega) (fun σ3 h3 hw3 => ?_)
    rw [emv2] at h3 hw3
    exact s_ends hC h3 hw3 (GC_serves hS _ _ (by split <;> omega) g5) k
  unfold w_X0_tick
  rw [h.2.2.2.2.2.2.1, zB01_0]
  refine ⟨fun h0 => ?_, fun h0 => ?_⟩
  · refine s_moveOn hC h hw g1 (by omega) (fun σ' h1 hw1 => rest σ' ?_ ?_)
    · unfold mgo
      rw [if_neg (by rw [h0]; decide)]
      exact h1
    · unfold mgo
      rw [if_neg (by rw [h0]; decide)]
      exact hw1
  · rw [Bool.not_eq_false] at h0
    refine rest σ ?_ ?_
    · unfold mgo
      rw [if_pos h0]
      exact h
    · unfold mgo
      rw [if_pos h0]
      exact hw
theorem mout_z {left b f : Nat} {e : Bool} (p : Nat) : ∀ k, (mout P left b f e k C).1 p = 0 ↔ C.1 p = 0
  | 0 => Iff.rfl
  | k + 1 => by
    have ih := mout_z (left := left) (b := b) (f := f) (e := e) p k
    unfold mout
    split
    · next hc =>
      by_cases ep : p = k
      · subst ep
        have := (mleave_out P (mout P left b f e p C) p f).2
        rw [← ih]
        omega
      · rw [((mleave_out P (mout P left b f e k C) k f).1 p ep).1]
        exact ih
    · exact ih
theorem mstepin_z {left b f : Nat} {up : Bool} (g : GC n F C) (hf : f < F) (p : Nat) : (mstepin P n left b f up C).1 p = 0 ↔ C.1 p = 0 := by
  unfold mstepin
  split
  · exact Iff.rfl
  · next i hi =>
    obtain ⟨hl, -⟩ := List.findIdx?_eq_some_iff_getElem.mp hi
    have hq : (C.2.2.2.1 f)[i]? = some ((C.2.2.2.1 f).getD i 0) := by
      rw [List.getD_eq_getElem?_getD, List.getElem?_eq_getElem hl]
      rfl
    have hm := (g.2.1 f hf).2 _ (List.mem_of_getElem? hq)
    show fu C.1 _ 2 p = 0 ↔ _
    by_cases ep : p = (C.2.2.2.1 f).getD i 0
    · rw [ep, fu_s, hm.2.1]
      decide
    · rw [fu_n _ _ ep]
theorem mserve_z {left b : Nat} (hS : 0 < S) (g : GC n F C) (p : Nat) : (mserve P F S n left b C).1 p = 0 ↔ C.1 p = 0 := by
  unfold mserve
  split
  · exact Iff.rfl
  · next hc =>
    have hf := mfl_lt (mslot_lt hS) (fun e => hc (Or.inl e)) (fun e => hc (Or.inr (Or.inl e)))
    rw [mstepin_z (GC_out hf n C (Nat.le_refl n) g) hf p, mout_z]
theorem mserves_z {left : Nat} (hS : 0 < S) (g : GC n F C) (p : Nat) : ∀ b, b ≤ 2 * F + 2 → ((mserves P F S n left b C).1 p = 0 ↔ C.1 p = 0)
  | 0, _ => Iff.rfl
  | b + 1, hb => by
    show (mserve P F S n left b (mserves P F S n left b C)).1 p = 0 ↔ _
    rw [mserve_z hS (GC_serves hS b C (by omega) g) p]
    exact mserves_z hS g p b (by omega)
theorem mcome_z (p : Nat) (hz : P 0 p = C.2.2.2.2.2.2.2.1 → C.1 p = 0) : ∀ k, (mcome P ks k C).1 p = 0 ↔ (C.1 p = 0 ∧ (p < k → P 0 p ≠ C.2.2.2.2.2.2.2.1))
  | 0 => by simp [mcome]
  | k + 1 => by
    have ih := mcome_z p hz k
    have key : ∀ s, s ≠ 0 → P 0 k = C.2.2.2.2.2.2.2.1 → (fu (mcome P ks k C).1 k s p = 0 ↔ (C.1 p = 0 ∧ (p < k + 1 → P 0 p ≠ C.2.2.2.2.2.2.2.1))) := fun s hs hk => by
      by_cases ep : p = k
      · subst ep
        rw [fu_s]
        constructor
        · intro hh
          exact absurd hh hs
        · intro hh
          exact absurd hk (hh.2 (Nat.lt_succ_self p))
      · rw [fu_n _ _ ep, ih]
        have : p < k + 1 ↔ p < k := by omega
        rw [this]
    unfold mcome
    split
    · next hk =>
      split
      · exact key 3 (by decide) hk
      · exact key 1 (by decide) hk
    · next hk =>
      rw [ih]
      by_cases ep : p = k
      · subst ep
        simp [hk]
      · have : p < k + 1 ↔ p < k := by omega
        rw [this]
theorem mtick_tk : (mtick P F S W V ks n C).2.2.2.2.2.2.2.1 = C.2.2.2.2.2.2.2.1 + 1 := by
  have etk : (mgo F S V C).2.2.2.2.2.2.2.1 = C.2.2.2.2.2.2.2.1 := by unfold mgo; split <;> rfl
  show (mserves P F S n _ _ (mcome P ks n (mgo F S V C))).2.2.2.2.2.2.2.1 + 1 = _
  rw [mserves_rest, mcome_rest, etk]
theorem GT_tick (hH : GH F S W V) (hP : GP n F P) (g : GT P F S n C) (ht : C.2.2.2.2.2.2.2.1 < 90000) : GT P F S n (mtick P F S W V ks n C) := by
  obtain ⟨c1, c2, c3, c4, c5, c6, c7, c8, c9⟩ := hH
  have hS : 0 < S := by omega
  have d3 : 0 < (2 * F + 2) * S := Nat.mul_pos (by omega) hS
  obtain ⟨g1, g2, g3, g4⟩ := g
  have gg : GC n F (mgo F S V C) := by unfold mgo; split <;> exact g1
  have etk : (mgo F S V C).2.2.2.2.2.2.2.1 = C.2.2.2.2.2.2.2.1 := by unfold mgo; split <;> rfl
  have est : (mgo F S V C).1 = C.1 := by unfold mgo; split <;> rfl
  have emv : (mgo F S V C).2.2.2.2.2.2.2.2.1 < (2 * F + 2) * S := by
    unfold mgo
    split
    · exact g4
    · exact Nat.mod_lt _ d3
  have hz : ∀ p, p < n → P 0 p = (mgo F S V C).2.2.2.2.2.2.2.1 → (mgo F S V C).1 p = 0 := fun p hp he => by rw [est]; exact g2 p hp (by rw [← etk, he]; exact Nat.le_refl _)
  have g5 : GC n F (mcome P ks n (mgo F S V C)) := GC_come hP c2 n _ (Nat.le_refl n) gg (by rw [etk]; exact ht) hz
  have hbb : (if mleft S W V (mgo F S V C).2.2.2.2.2.2.2.2.1 = 0 then 0 else 2 * F + 2) ≤ 2 * F + 2 := by split <;> omega
  have g6 := GC_serves (P := P) (left := mleft S W V (mgo F S V C).2.2.2.2.2.2.2.2.1) hS _ _ hbb g5
  have hst : ∀ p, p < n → ((mtick P F S W V ks n C).1 p = 0 ↔ (C.1 p = 0 ∧ P 0 p ≠ C.2.2.2.2.2.2.2.1)) := fun p hp => by
    show (mserves P F S n _ _ (mcome P ks n (mgo F S V C))).1 p = 0 ↔ _
    rw [mserves_z hS g5 p _ hbb, mcome_z p (hz p hp) n, est, etk]
    simp [hp]
  refine ⟨⟨g6.1, g6.2.1, ?_⟩, fun p hp hh => ?_, fun p hp hh => ?_, ?_⟩
  · rw [mtick_tk]
    omega
  · rw [mtick_tk] at hh
    rw [hst p hp]
    exact ⟨g2 p hp (by omega), by omega⟩
  · rw [mtick_tk]
    rw [hst p hp] at hh
    have := g3 p hp hh.1
    omega
  · show (mserves P F S n _ _ (mcome P ks n (mgo F S V C))).2.2.2.2.2.2.2.2.1 < _
    rw [mserves_rest, mcome_rest]
    exact emv
end STK

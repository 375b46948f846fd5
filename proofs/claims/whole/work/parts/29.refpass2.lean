theorem mcome_tk (P : Nat → Nat → Nat) (ks k : Nat) (C : mC) : (mcome P ks k C).2.2.2.2.2.2.2.1 = C.2.2.2.2.2.2.2.1 := by rw [mcome_rest]
theorem mserves_rest (P : Nat → Nat → Nat) (F S n left : Nat) : ∀ (b : Nat) (C : mC), (mserves P F S n left b C).2.2.2.2.2.2 = C.2.2.2.2.2.2
  | 0, _ => rfl
  | b + 1, C => by
    unfold mserves
    rw [mserve_rest, mserves_rest P F S n left b C]
theorem GC_serves {n F S : Nat} {P : Nat → Nat → Nat} {left : Nat} (hS : 0 < S) : ∀ (b : Nat) (C : mC), b ≤ 2 * F + 2 → GC n F C → GC n F (mserves P F S n left b C)
  | 0, _, _, h => h
  | b + 1, C, hb, h => GC_serve hS (by omega) (GC_serves hS b C (by omega) h)
theorem mfar_le {n F : Nat} {P : Nat → Nat → Nat} (hP : GP n F P) (hF : F ≤ 8) {p : Nat} (hp : p < n) : 1 ≤ mfar P p ∧ mfar P p ≤ 7 := by
  have h := hP.2 p hp
  unfold mfar
  split <;> omega
section RPASS2
variable {τ : zS} {F S W V n : Nat} {kk : Nat} {P : Nat → Nat → Nat} {m : Nat → Int32} {C : mC} {Q : Int32 → zS → Prop}
theorem mr_far (hM : HM τ F S W V kk n P) {p : Nat} (hp : p < n) : w_X7_far (nI p) (zm τ m) Q ↔ Q (nI (mfar P p)) (zm τ m) := by
  obtain ⟨a1, a2, a3, a4, a5, a6, a7, a8, a9⟩ := id hM
  have hF := a8.2.1
  have hn := a9.1
  have hp2 := a9.2 p hp
  have p1 : (zm τ m).2 2 p = nI (P 1 p) := by rw [zm_n _ _ (by decide)]; exact a7 1 (by decide) p hp
  have p2 : (zm τ m).2 3 p = nI (P 2 p) := by rw [zm_n _ _ (by decide)]; exact a7 2 (by decide) p hp
  unfold w_X7_far
  simp only [zcl (show p < 30 by omega), p1, p2, zvi (show p < 30 by omega) (show 30 < 2 ^ 31 by decide), true_and]
  rw [nI_leI (by omega) (by omega)]
  unfold mfar
  by_cases h : P 2 p ≤ P 1 p
  · simp only [h, if_true, true_implies, not_true_eq_false, false_implies, and_true]
    rw [pk_sub h]
  · simp only [h, if_false, false_implies, not_false_eq_true, true_implies, true_and]
    rw [pk_sub (by omega)]
theorem mr_walks (hM : HM τ F S W V kk n P) {p : Nat} (hp : p < n) : w_X7_walks (nI p) (zm τ m) Q ↔ Q (zB01 (mwalk P kk p)) (zm τ m) := by
  obtain ⟨a1, a2, a3, a4, a5, a6, a7, a8, a9⟩ := id hM
  have hF := a8.2.1
  have hn := a9.1
  have hp2 := a9.2 p hp
  have hfar := mfar_le a9 hF hp
  have p6 : (zm τ m).2 7 p = nI (P 6 p) := by rw [zm_n _ _ (by decide)]; exact a7 6 (by decide) p hp
  unfold w_X7_walks
  rw [mr_far hM hp]
  unfold w_X7_walks_J25
  simp only [zm_1, a5.1, zcl (show p < 30 by omega), p6, zvi (show p < 30 by omega) (show 30 < 2 ^ 31 by decide), true_and, z01_0, z01_1]
  have hk8 := a5.2
  unfold mwalk
  by_cases hk : kk = 0
  · subst hk
    have e1 : ¬ (0 : Int32) ≤ nI 0 - 1 := by decide
    simp only [e1, false_implies, not_false_eq_true, true_implies, true_and, if_true]
    rw [nI_ltI (by omega) (by omega)]
    by_cases h : P 6 p < mfar P p
    · simp [h, zB01, show ¬ mfar P p ≤ P 6 p by omega]
    · simp [h, zB01, show mfar P p ≤ P 6 p by omega]
  · have e0 : nI kk - 1 = nI (kk - 1) := by rw [show (1 : Int32) = nI 1 from rfl, pk_sub (by omega)]
    have e1 : (0 : Int32) ≤ nI kk - 1 := by rw [e0]; exact nI_pos' (by omega)
    simp only [e1, not_true_eq_false, false_implies, true_implies, and_true, hk, if_false]
    rw [e0, nI_ltI (by omega) (by omega)]
    by_cases h : kk - 1 < mfar P p
    · simp [h, zB01, show ¬ mfar P p ≤ kk - 1 by omega]
    · simp [h, zB01, show mfar P p ≤ kk - 1 by omega]
theorem m_comes (hM : HM τ F S W V kk n P) (h : RM m n F C) (g : GC n F C) (ht : C.2.2.2.2.2.2.2.1 < 90000) (hz : ∀ p, p < n → P 0 p = C.2.2.2.2.2.2.2.1 → C.1 p = 0) (k : ∀ m', RM m' n F (mcome P kk n C) → Q 0 (zm τ m')) : w_X7_comes (zm τ m) Q := by
  obtain ⟨a1, a2, a3, a4, a5, a6, a7, a8, a9⟩ := id hM
  have hF := a8.2.1
  have hn := a9.1
  have key : ∀ d j (mk : Nat → Int32), j + d = n → RM mk n F (mcome P kk j C) → w_X7_comes_L2 Q (d + 1) (nI j) (zm τ mk) := by
    intro d
    induction d with
    | zero =>
      intro j mk hj hR
      have ej : j = n := by omega
      rw [w_X7_comes_L2]
      simp only [zm_1, a6]
      refine ⟨fun _ => k mk (by rw [ej] at hR; exact hR), fun hh => absurd (by rw [ej]; exact Int32.le_refl _) hh⟩
    | succ d ih =>
      intro j mk hj hR
      have hjn : j < n := by omega
      have hp := a9.2 j hjn
      have hfar := mfar_le a9 hF hjn
      have g' := GC_come (ks := kk) a9 hF j C (by omega) g ht hz
      have hst := mcome_st P kk j C j (Nat.le_refl j)
      have htk := mcome_tk P kk j C
      have enx : nI j + (1 : Int32) = nI (j + 1) := nI_1 j
      rw [w_X7_comes_L2]
      simp only [zm_1, a6]
      refine ⟨fun hh => ?_, fun _ => ?_⟩
      · rw [nI_leI (by omega) (by omega)] at hh
        omega
      have p0 : (zm τ mk).2 1 j = nI (P 0 j) := by rw [zm_n _ _ (by decide)]; exact a7 0 (by decide) j hjn
      have m0 : mk 0 = nI C.2.2.2.2.2.2.2.1 := by rw [← htk]; exact hR.2.2.1
      simp only [zcl (show j < 30 by omega), p0, cl0, zm_8, m0, vpc0, zvi (show j < 30 by omega) (show 30 < 2 ^ 31 by decide), true_and]
      rw [nI_eq (by omega) (by omega)]
      refine ⟨fun he => ?_, fun he => ?_⟩
      · have h0 : (mcome P kk j C).1 j = 0 := by rw [hst]; exact hz j hjn he
        rw [mr_walks hM hjn]
        refine ⟨fun hw => ?_, fun hw => ?_⟩
        · rw [zB01_0] at hw
          have p1 : (zm τ mk).2 2 j = nI (P 1 j) := by rw [zm_n _ _ (by decide)]; exact a7 1 (by decide) j hjn
          rw [p1]
          refine m_joins hF hn hR g' hjn hp.2.1 (by rw [h0]; decide) (fun m' hm' => ?_)
          unfold w_X7_comes_J80
          rw [enx]
          refine ih (j + 1) m' (by omega) ?_
          show RM m' n F (if _ then _ else _)
          rw [if_pos he, if_neg (by rw [hw]; decide)]
          exact hm'
        · rw [zB01_n] at hw
          simp only [zlet_def, ix5 (show j < 30 by omega), vp5 (show j < 30 by omega), ix65 (show j < 30 by omega), vp65 (show j < 30 by omega), true_and, zm_A, zm_8]
          rw [mr_far hM hjn]
          simp only [zm_A]
          unfold w_X7_comes_J80
          rw [enx]
          refine ih (j + 1) _ (by omega) ?_
          show RM _ n F (if _ then _ else _)
          rw [if_pos he, if_pos hw]
          have hv : upd mk (5 + j) 3 0 + (6 : Int32) * nI (mfar P j) = nI (C.2.2.2.2.2.2.2.1 + 6 * mfar P j) := by
            simp only [upd_e]
            rw [if_neg (by omega), m0, show (6 : Int32) = nI 6 from rfl, pk_mul, nI_add]
          rw [hv]
          have h9 := RM_st hR hF hn hjn (m' := upd (upd mk (5 + j) 3) (65 + j) (nI (C.2.2.2.2.2.2.2.1 + 6 * mfar P j))) 3 ((mcome P kk j C).2.1 j) (C.2.2.2.2.2.2.2.1 + 6 * mfar P j) (by simp only [upd_e]; rw [if_neg (by omega)]; simp; rfl) (fun q => by omega) (fun _ => by simp [upd_e]) (fun x x1 x2 x3 => by simp only [upd_e, x1, x3, if_false])
          have e9 : fu (mcome P kk j C).2.1 j ((mcome P kk j C).2.1 j) = (mcome P kk j C).2.1 := by
            funext q
            simp only [fu]
            split
            · next e => rw [e]
            · rfl
          rw [e9] at h9
          exact h9
      · unfold w_X7_comes_J80
        rw [enx]
        refine ih (j + 1) mk (by omega) ?_
        show RM mk n F (if _ then _ else _)
        rw [if_neg he]
        exact hR
  exact ⟨n + 1, key n 0 m (by omega) h⟩
/-- the end of a tick: the longest line, the next tick -/
theorem m_ends (hM : HM τ F S W V kk n P) (h : RM m n F C) (g : GC n F C) (k : ∀ m', RM m' n F (mend F C) → Q 0 (zm τ m')) : w_X7_passes_J54 Q (zm τ m) := by
  obtain ⟨a1, a2, a3, a4, a5, a6, a7, a8, a9⟩ := id hM
  have hF := a8.2.1
  have hn := a9.1
  have key : ∀ d j (mk : Nat → Int32), j + d = F → (∀ x, x ≠ 4 → mk x = m x) → mk 4 = mlg C j → w_X7_passes_L56 Q (d + 1) (nI j) (zm τ mk) := by
    intro d
    induction d with
    | zero =>
      intro j mk hj ho h4
      have ej : j = F := by omega
      rw [w_X7_passes_L56]
      simp only [zm_1, a1]
      refine ⟨fun _ => ⟨vpc0, vpc0, ?_⟩, fun hh => absurd (by rw [ej]; exact Int32.le_refl _) hh⟩
      rw [zlet_def, cl0, zm_8, zm_A, ho 0 (by decide), h.2.2.1, nI_1]
      refine k _ (RM_hd h hF hn _ _ _ _ _ (by simp [upd_e]) (by simp only [upd_e]; rw [if_neg (by decide), ho 1 (by decide)]; exact h.2.2.2.1) (by simp only [upd_e]; rw [if_neg (by decide), ho 2 (by decide)]; exact h.2.2.2.2.1) (fun f hf => by simp only [upd_e]; rw [if_neg (by decide), ho 3 (by decide)]; exact h.2.2.2.2.2.1 f hf) (by simp only [upd_e]; rw [if_neg (by decide), h4, ej]) (fun x hx => by simp only [upd_e]; rw [if_neg (by omega), ho x (by omega)]))
    | succ d ih =>
      intro j mk hj ho h4
      have hjF : j < F := by omega
      have enx : nI j + (1 : Int32) = nI (j + 1) := nI_1 j
      have hm : mk (141 + j) = nI (C.2.2.2.1 j).length := by rw [ho _ (by omega)]; exact (h.2.1 j hjF).1
      rw [w_X7_passes_L56]
      simp only [zm_1, a1]
      refine ⟨fun hh => ?_, fun _ => ?_⟩
      · rw [nI_leI (by omega) (by omega)] at hh
        omega
      unfold w_X7_passes_J107
      simp only [ix141 (show j < 8 by omega), vp141 (show j < 8 by omega), cl4, vpc4, zm_8, hm, h4, true_and, zlet_def, zm_A, enx]
      refine ⟨fun hc => ih (j + 1) _ (by omega) (fun x hx => by simp only [upd_e]; rw [if_neg hx, ho x hx]) ?_, fun hc => ih (j + 1) _ (by omega) (fun x hx => by simp only [upd_e]; rw [if_neg hx, ho x hx]) ?_⟩
      · simp only [upd_e, if_true]
        show _ = (if _ then _ else _)
        rw [if_pos hc]
      · simp only [upd_e, if_true]
        show _ = (if _ then _ else _)
        rw [if_neg hc]
  exact ⟨F + 1, key F 0 m (by omega) (fun _ _ => rfl) h.2.2.2.2.2.2.1⟩
theorem mleft_le (hS : 0 < S) (hW : W ≤ 12) (hV : V ≤ 4) (mv : Nat) : mleft S W V mv < 1000 := by
  unfold mleft
  split
  · have : (W - mv % S + V - 1) / V ≤ W - mv % S + V - 1 := Nat.div_le_self _ _
    omega
  · decide
theorem m_serveAll (hM : HM τ F S W V kk n P) (h : RM m n F C) (g : GC n F C) (hmv : C.2.2.2.2.2.2.2.2.1 < 1000) {left : Nat} (hleft : left < 1000) (k : ∀ m', RM m' n F (mserves P F S n left (if left = 0 then 0 else 2 * F + 2) C) → w_X7_passes_J54 Q (zm τ m')) : ∃ m30, w_X7_passes_L30 Q m30 (nI left) 0 (zm τ m) := by
  obtain ⟨a1, a2, a3, a4, a5, a6, a7, a8, a9⟩ := id hM
  have hF := a8.2.1
  have hS : 0 < S := by have := a8.2.2.1; omega
  have eB : (2 : Int32) * nI F + 2 = nI (2 * F + 2) := by rw [show (2 : Int32) = nI 2 from rfl, pk_mul, nI_add]
  have key : ∀ d j (mk : Nat → Int32), j + d = 2 * F + 2 → (left = 0 → j = 0) → RM mk n F (mserves P F S n left j C) → w_X7_passes_L30 Q (d + 1) (nI left) (nI j) (zm τ mk) := by
    intro d
    induction d with
    | zero =>
      intro j mk hj h0 hR
      rw [w_X7_passes_L30, r_boxes]
      simp only [zm_1, a1, eB]
      refine ⟨fun _ => k mk ?_, fun hh => absurd (by rw [show j = 2 * F + 2 by omega]; exact Int32.le_refl _) hh⟩
      rw [if_neg (fun e => by have := h0 e; omega), ← show j = 2 * F + 2 by omega]
      exact hR
    | succ d ih =>
      intro j mk hj h0 hR
      have enx : nI j + (1 : Int32) = nI (j + 1) := nI_1 j
      rw [w_X7_passes_L30, r_boxes]
      simp only [zm_1, a1, eB]
      refine ⟨fun hh => ?_, fun _ => ⟨fun hl => k mk ?_, fun hl => ?_⟩⟩
      · rw [nI_leI (by omega) (by omega)] at hh
        omega
      · have hl0 : left = 0 := by
          rw [show (0 : Int32) = nI 0 from rfl, nI_leI (by omega) (by decide)] at hl
          omega
        rw [if_pos hl0, ← h0 hl0]
        exact hR
      · have hl0 : left ≠ 0 := fun e => hl (by rw [e]; exact Int32.le_refl _)
        have gj := GC_serves (P := P) (left := left) hS j C (by omega) g
        have hmv' : (mserves P F S n left j C).2.2.2.2.2.2.2.2.1 < 1000 := by rw [mserves_rest]; exact hmv
        refine m_serves hM hR gj (by omega) hmv' hleft (fun m' hm' => ?_)
        rw [enx]
        exact ih (j + 1) m' (by omega) (fun e => absurd e hl0) hm'
  exact ⟨_, key (2 * F + 2) 0 m (by omega) (fun _ => rfl) h⟩
theorem m_passes (hM : HM τ F S W V kk n P) (h : RM m n F C) (g : GT P F S n C) (ht : C.2.2.2.2.2.2.2.1 < 90000) (k : ∀ m', RM m' n F (mtick P F S W V kk n C) → Q 0 (zm τ m')) : w_X7_passes (zm τ m) Q := by
  obtain ⟨a1, a2, a3, a4, a5, a6, a7, a8, a9⟩ := id hM
  obtain ⟨c1, c2, c3, c4, c5, c6, c7, c8, c9⟩ := id a8
  have hS : 0 < S := by omega
  have d2 := (mul_small (b := 0) c2 c4 (by decide)).2
  have d3 : 0 < (2 * F + 2) * S := Nat.mul_pos (by omega) hS
  obtain ⟨g1, g2, g3, g4⟩ := g
  have rest : ∀ mk, RM mk n F (mgo F S V C) → w_X7_passes_J13 Q (zm τ mk) := fun mk hR => by
    have gg : GC n F (mgo F S V C) := by unfold mgo; split <;> exact g1
    have etk : (mgo F S V C).2.2.2.2.2.2.2.1 = C.2.2.2.2.2.2.2.1 := by unfold mgo; split <;> rfl
    have est : (mgo F S V C).1 = C.1 := by unfold mgo; split <;> rfl
    have emv : (mgo F S V C).2.2.2.2.2.2.2.2.1 < (2 * F + 2) * S := by
      unfold mgo
      split
      · exact g4
      · exact Nat.mod_lt _ d3
    unfold w_X7_passes_J13
    refine m_comes hM hR gg (by rw [etk]; exact ht) (fun p hp he => by rw [est]; exact g2 p hp (by rw [← etk, he]; exact Nat.le_refl _)) (fun m1 h1 => ⟨vpc1, ?_⟩)
    have e1 : m1 1 = nI (mgo F S V C).2.2.2.2.2.2.2.2.1 := by
      have := h1.2.2.2.1
      rw [mcome_rest] at this
      exact this
    rw [cl1, zm_8, e1, mr_leftOf hM (by omega)]
    have g5 : GC n F (mcome P kk n (mgo F S V C)) := GC_come a9 c2 n _ (Nat.le_refl n) gg (by rw [etk]; exact ht) (fun p hp he => by rw [est]; exact g2 p hp (by rw [← etk, he]; exact Nat.le_refl _))
    refine m_serveAll hM h1 g5 (by rw [mcome_rest]; omega) (mleft_le hS (by omega) (by omega) _) (fun m2 h2 => ?_)
    refine m_ends hM h2 (GC_serves hS _ _ (by split <;> omega) g5) k
  unfold w_X7_passes
  rw [cl2, zm_8, h.2.2.2.2.1]
  refine ⟨vpc2, fun h0 => ?_, fun h0 => ?_⟩
  · rw [zB01_0] at h0
    refine m_moves hM h g1 (by omega) (fun m' hm' => rest m' ?_)
    unfold mgo
    rw [if_neg (by rw [h0]; decide)]
    exact hm'
  · rw [zB01_n] at h0
    refine rest m ?_
    unfold mgo
    rw [if_pos h0]
    exact h
end RPASS2

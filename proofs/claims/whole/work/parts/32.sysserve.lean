section SSRV
variable {σ0 σ : zS} {r F S W V ks n T : Nat} {P : Nat → Nat → Nat} {C : mC} {Q : Int32 → zS → Prop}
theorem s_takeFromLine (hF : F ≤ 8) (hn : n ≤ 30) (h : RB σ0 σ r n F T C) (g : GC n F C) {f i p : Nat} (hf : f < F) (hi : (C.2.2.2.1 f)[i]? = some p) (k : ∀ σ', RB σ0 σ' r n F T (C.1, C.2.1, C.2.2.1, fu C.2.2.2.1 f ((C.2.2.2.1 f).eraseIdx i), C.2.2.2.2) → (∀ b, σ'.2 (r + 15) b = σ.2 (r + 15) b) → Q 0 σ') : w_X0_takeFromLine r (nI f) (nI i) σ Q := by
  have hil : i < (C.2.2.2.1 f).length := (List.getElem?_eq_some_iff.mp hi).1
  have hlen := GC_len g hf
  have hmf := (h.2.2.1 f hf).1
  unfold w_X0_takeFromLine
  simp only [zlet_def, c8 (show f < 8 by omega), v8 (show f < 8 by omega), true_and, hmf]
  rw [show (1 : Int32) = nI 1 from rfl, pk_sub (show 1 ≤ (C.2.2.2.1 f).length by omega)]
  have key : ∀ d j (σk : zS), j + d = (C.2.2.2.1 f).length - 1 → i ≤ j → σk.1 = σ.1 → (∀ a x, σk.2 a x = if a = r + 6 + f ∧ i ≤ x ∧ x < j then σ.2 a (x + 1) else if a = r + 14 ∧ x = f then nI ((C.2.2.2.1 f).length - 1) else σ.2 a x) → w_X0_takeFromLine_L12 r Q (d + 1) (nI f) (nI j) σk := by
    intro d
    induction d with
    | zero =>
      intro j σk hj hij hσ1 hmk
      have ej : j = (C.2.2.2.1 f).length - 1 := by omega
      rw [w_X0_takeFromLine_L12]
      have e14 : σk.2 (r + 14) f = nI ((C.2.2.2.1 f).length - 1) := by rw [hmk, if_neg (by omega), if_pos ⟨rfl, rfl⟩]
      simp only [c8 (show f < 8 by omega), v8 (show f < 8 by omega), true_and, e14, ej]
      refine ⟨fun _ => k σk ?_ (fun x => by rw [hmk, if_neg (by omega), if_neg (by omega)]), fun hh => absurd (Int32.le_refl _) hh⟩
      have hfr : Fr σ0 σk r := by
        obtain ⟨f1, f2, f3, f4⟩ := h.1
        refine ⟨fun a x ha => ?_, by rw [hσ1]; exact f2, by rw [hσ1]; exact f3, by rw [hσ1]; exact f4⟩
        rw [hmk, if_neg (by omega), if_neg (by omega)]
        exact f1 a x ha
      refine RB_ln h hF hfr ((C.2.2.2.1 f).eraseIdx i) (by rw [e14, List.length_eraseIdx_of_lt hil]) (fun x q hx => ?_) (fun a x x1 x2 x3 => by rw [hmk, if_neg (by omega), if_neg (by omega)]) hσ1 hf
      have hxl : x < (C.2.2.2.1 f).length - 1 := by
        have := (List.getElem?_eq_some_iff.mp hx).1
        rw [List.length_eraseIdx_of_lt hil] at this
        exact this
      rw [List.getElem?_eraseIdx] at hx
      rw [hmk]
      by_cases hxi : x < i
      · rw [if_pos hxi] at hx
        rw [if_neg (by omega), if_neg (by omega)]
        exact (h.2.2.1 f hf).2.2.2.1 x q hx
      · rw [if_neg hxi] at hx
        rw [if_pos (by omega)]
        exact (h.2.2.1 f hf).2.2.2.1 (x + 1) q hx
    | succ d ih =>
      intro j σk hj hij hσ1 hmk
      rw [w_X0_takeFromLine_L12]
      have e14 : σk.2 (r + 14) f = nI ((C.2.2.2.1 f).length - 1) := by rw [hmk, if_neg (by omega), if_pos ⟨rfl, rfl⟩]
      have hj30 : j + 1 < 30 := by omega
      simp only [zlet_def, nI_1, c8 (show f < 8 by omega), v8 (show f < 8 by omega), c30 hj30, v30 hj30, c30 (show j < 30 by omega), v30 (show j < 30 by omega), true_and, e14]
      refine ⟨fun hh => ?_, fun _ => ?_⟩
      · rw [nI_leI (by omega) (by omega)] at hh
        omega
      · refine ih (j + 1) _ (by omega) (by omega) hσ1 (fun a x => ?_)
        rw [zA_2]
        by_cases hx : a = r + 6 + f ∧ x = j
        · rw [if_pos ⟨hx.1, hx.2⟩, if_pos (by omega), hmk, if_neg (by omega), if_neg (by omega), hx.1, hx.2]
        · rw [if_neg hx, hmk]
          by_cases hx2 : a = r + 6 + f ∧ i ≤ x ∧ x < j
          · rw [if_pos hx2, if_pos (by omega)]
          · rw [if_neg hx2, if_neg (show ¬ (a = r + 6 + f ∧ i ≤ x ∧ x < j + 1) by omega)]
  refine ⟨(C.2.2.2.1 f).length - 1 - i + 1, key _ i _ (by omega) (Nat.le_refl i) rfl (fun a x => ?_)⟩
  rw [if_neg (by omega), zA_2]
theorem s_take (hC : HC σ0 r F S W V ks n P) (h : RB σ0 σ r n F T C) (hw : WB σ r n F P C) (g : GC n F C) {b f i p : Nat} (hf : f < F) (hb : b < 2 * F + 2) (hi : (C.2.2.2.1 f)[i]? = some p) (k : ∀ σ', RB σ0 σ' r n F T (mtake C b f i p) → WB σ' r n F P (mtake C b f i p) → Q 0 σ') : w_X0_takeFromLine r (nI f) (nI i) σ (fun _ t1 => w_X0_enter r (nI p) (nI b) (nI f) t1 (fun _ t2 => Q 0 t2)) := by
  obtain ⟨a1, a2, a3, a4, a5, a6, a7, a8, a9, b1, b2, b3⟩ := id hC
  have hF := a8.2.1
  have hn := a9.1
  have hpm := (g.2.1 f hf).2 p (List.mem_of_getElem? hi)
  refine s_takeFromLine hF hn h g hf hi (fun σ' h1 hw1 => ?_)
  have p3 : σ'.2 5 p = nI (P 3 p) := by
    rw [h1.1.1 5 p (by omega)]
    exact a7 3 (by decide) p hpm.1
  have hws : σ'.2 (r + 15) b = nI (wsm P C b n) := by rw [hw1, hw b hb]
  unfold w_X0_enter
  simp only [zlet_def, c30 (show p < 30 by omega), v30 (show p < 30 by omega), c8 (show f < 8 by omega), v8 (show f < 8 by omega), c18 (show b < 18 by omega), v18 (show b < 18 by omega), true_and, cl0, show vp_in (0 : Int32) 2 from vpk (k := 0) rfl (by decide) (by decide), Nat.add_zero]
  have ew : (zA (zA σ' (r + 1) p 2) (r + 2) p (nI b)).2 (r + 15) b = nI (wsm P C b n) := by
    rw [zA_2, if_neg (by omega), zA_2, if_neg (by omega)]
    exact hws
  have ep : (zA (zA σ' (r + 1) p 2) (r + 2) p (nI b)).2 5 p = nI (P 3 p) := by
    rw [zA_2, if_neg (by omega), zA_2, if_neg (by omega)]
    exact p3
  rw [ew, ep, nI_add]
  have ei : ∀ v, (zA (zA (zA σ' (r + 1) p 2) (r + 2) p (nI b)) (r + 15) b v).2 (r + 17) f = C.2.2.2.2.1 f := fun v => by
    rw [zA_2, if_neg (by omega), zA_2, if_neg (by omega), zA_2, if_neg (by omega)]
    exact (h1.2.2.1 f hf).2.1
  rw [ei]
  have h2 := RB_st h1 hF (σ' := zA (zA σ' (r + 1) p 2) (r + 2) p (nI b)) (Fr_A (Fr_A h1.1 (by omega) (by omega)) (by omega) (by omega)) (p := p) hpm.1 2 b (C.2.2.1 p) (by rw [zA_2, if_neg (by omega), zA_2, if_pos ⟨rfl, rfl⟩]; rfl) (fun _ => by rw [zA_2, if_pos ⟨rfl, rfl⟩]) (fun hh => by omega) (fun k' j hk hj => by rw [zA_2, if_neg (by omega), zA_2, if_neg (by omega)]) rfl
  have e9 : fu C.2.2.1 p (C.2.2.1 p) = C.2.2.1 := by
    funext q
    simp only [fu]
    split
    · next e => rw [e]
    · rfl
  have h3 := RB_ic (RB_wd (b := b) (v := nI (wsm P C b n + P 3 p)) h2 hF) hF hf (C.2.2.2.2.1 f + 1)
  have h4 : RB σ0 (zA (zA (zA (zA σ' (r + 1) p 2) (r + 2) p (nI b)) (r + 15) b (nI (wsm P C b n + P 3 p))) (r + 17) f (C.2.2.2.2.1 f + 1)) r n F T (fu C.1 p 2, fu C.2.1 p b, fu C.2.2.1 p (C.2.2.1 p), fu C.2.2.2.1 f ((C.2.2.2.1 f).eraseIdx i), fu C.2.2.2.2.1 f (C.2.2.2.2.1 f + 1), C.2.2.2.2.2) := h3
  rw [e9] at h4
  refine k _ h4 (fun b' hb' => ?_)
  rw [zA_2, if_neg (by omega), zA_2]
  have hup := wsm_upd (P := P) (C := C) (C' := mtake C b f i p) (b := b') (p := p) (fun q hq => ⟨fu_n _ _ hq, fu_n _ _ hq⟩) n
  have s1 : (mtake C b f i p).1 p = 2 := fu_s _ _ _
  have s2 : (mtake C b f i p).2.1 p = b := fu_s _ _ _
  rw [s1, s2, hpm.2.1] at hup
  by_cases e : b' = b
  · subst e
    rw [if_pos ⟨rfl, rfl⟩]
    rw [if_neg (by omega), if_pos ⟨hpm.1, rfl, rfl⟩] at hup
    congr 1
    omega
  · rw [if_neg (by omega), zA_2, if_neg (by omega), zA_2, if_neg (by omega), hw1, hw b' hb']
    rw [if_neg (by omega), if_neg (by omega)] at hup
    congr 1
    omega
theorem wsm_0 {b : Nat} (hP : ∀ p, p < n → 1 ≤ P 3 p) : ∀ k, k ≤ n → wsm P C b k = 0 → ∀ p, p < k → ¬ (C.1 p = 2 ∧ C.2.1 p = b)
  | 0, _, _, _, hp => absurd hp (Nat.not_lt_zero _)
  | k + 1, hk, h, p, hp => by
    unfold wsm at h
    have h1 := hP k (by omega)
    by_cases e : p = k
    · subst e
      intro hh
      rw [if_pos hh] at h
      omega
    · exact wsm_0 hP k (by omega) (by omega) p (by omega)
theorem mout_stop {left b f : Nat} {e : Bool} {j : Nat} (h0 : ∀ p, p < n → ¬ ((mout P left b f e j C).1 p = 2 ∧ (mout P left b f e j C).2.1 p = b)) : ∀ d, j + d ≤ n → mout P left b f e (j + d) C = mout P left b f e j C
  | 0, _ => rfl
  | d + 1, hd => by
    have ih := mout_stop h0 d (by omega)
    show (if (mout P left b f e (j + d) C).1 (j + d) = 2 ∧ (mout P left b f e (j + d) C).2.1 (j + d) = b ∧ P 4 (j + d) ≤ left ∧ (P 2 (j + d) = f ∨ (P 5 (j + d) = 1 ∧ e = true)) then _ else _) = _
    rw [ih, if_neg (fun hh => h0 (j + d) (by omega) ⟨hh.1, hh.2.1⟩)]
    exact ih
theorem s_stepOut (hC : HC σ0 r F S W V ks n P) (h : RB σ0 σ r n F T C) (hw : WB σ r n F P C) (g : GC n F C) {b left s : Nat} (hb : b < 2 * F + 2) (hmv : C.2.2.2.2.2.2.2.2.1 < 1000) (hleft : left < 1000) (hsl : mslot F S C.2.2.2.2.2.2.2.2.1 b = s) (hs1 : s ≠ F) (hs2 : s ≠ 2 * F + 1) (k : ∀ σ', RB σ0 σ' r n F T (mout P left b (mfl F s) (if s < F then decide (mfl F s = F - 1) else decide (mfl F s = 0)) n C) → WB σ' r n F P (mout P left b (mfl F s) (if s < F then decide (mfl F s = F - 1) else decide (mfl F s = 0)) n C) → Q 0 σ') : w_X0_stepOut r (nI b) (nI (mfl F s)) (nI left) σ Q := by
  obtain ⟨a1, a2, a3, a4, a5, a6, a7, a8, a9, b1, b2, b3⟩ := HC_fr hC h.1
  have hF := a8.2.1
  have hn := a9.1
  have hS : 0 < S := by have := a8.2.2.1; omega
  have hs := mslot_lt (F := F) (S := S) (mv := C.2.2.2.2.2.2.2.2.1) (b := b) hS
  rw [hsl] at hs
  have hf := mfl_lt hs hs1 hs2
  have hend : (if s < F then decide (mfl F s = F - 1) else decide (mfl F s = 0)) = decide (s = F - 1 ∨ s = 2 * F) := by
    unfold mfl
    by_cases c : s < F
    · simp only [c, if_true]
      congr 1
      apply propext
      omega
    · simp only [c, if_false]
      congr 1
      apply propext
      omega
  rw [hend] at k
  unfold w_X0_stepOut
  rw [h.2.2.2.2.1, s_slot (HC_fr hC h.1) hmv (by omega), hsl, s_last (HC_fr hC h.1) (by omega)]
  generalize decide (s = F - 1 ∨ s = 2 * F) = e at k ⊢
  generalize mfl F s = f at k hf ⊢
  refine ⟨n + 1, ?_⟩
  have key : ∀ d j (σk : zS), j + d = n → RB σ0 σk r n F T (mout P left b f e j C) → WB σk r n F P (mout P left b f e j C) → w_X0_stepOut_L24 r Q (d + 1) (nI b) (nI f) (nI left) (zB01 e) (nI j) σk := by
    intro d
    induction d with
    | zero =>
      intro j σk hj hR hW
      have ej : j = n := by omega
      subst ej
      rw [w_X0_stepOut_L24, (HC_fr hC hR.1).2.2.2.2.2.1]
      exact ⟨fun _ => k σk hR hW, fun hh => absurd (Int32.le_refl _) hh⟩
    | succ d ih =>
      intro j σk hj hR hW
      have hjn : j < n := by omega
      have g' := GC_out (P := P) (left := left) (b := b) (e := e) hf j C (by omega) g
      have hp := a9.2 j hjn
      have hws := wsm_le (C := mout P left b f e j C) a9 b n (Nat.le_refl n)
      rw [w_X0_stepOut_L24, (HC_fr hC hR.1).2.2.2.2.2.1]
      refine ⟨fun hh => ?_, fun _ => ?_⟩
      · rw [nI_leI (by omega) (by omega)] at hh
        omega
      rw [c18 (show b < 18 by omega), hW b hb, show (0 : Int32) = nI 0 from rfl, nI_leI (by omega) (by omega)]
      refine ⟨v18 (by omega), fun hz => ?_, fun hz => ⟨v30 (by omega), ?_⟩⟩
      · have h0 := wsm_0 (C := mout P left b f e j C) (b := b) (n := n) (P := P) (fun p hp => by have := a9.2 p hp; omega) n (Nat.le_refl n) (by omega)
        have e1 := mout_stop (P := P) (left := left) (f := f) (e := e) h0 (d + 1) (by omega)
        rw [hj] at e1
        rw [← e1] at hR hW
        exact k σk hR hW
      · have p4 : σk.2 6 j = nI (P 4 j) := (HC_fr hC hR.1).2.2.2.2.2.2.1 4 (by decide) j hjn
        have p2 : σk.2 4 j = nI (P 2 j) := (HC_fr hC hR.1).2.2.2.2.2.2.1 2 (by decide) j hjn
        have p5 : σk.2 7 j = nI (P 5 j) := (HC_fr hC hR.1).2.2.2.2.2.2.1 5 (by decide) j hjn
        have l1 : (nI left < nI (P 4 j)) ↔ left < P 4 j := nI_ltI (by omega) (by omega)
        have l2 : (nI (P 2 j) = nI f) ↔ P 2 j = f := nI_eq (by omega) (by omega)
        have l5 : (nI (P 5 j) = (1 : Int32)) ↔ P 5 j = 1 := by rw [show (1 : Int32) = nI 1 from rfl]; exact nI_eq (by omega) (by omega)
        have enx : nI j + (1 : Int32) = nI (j + 1) := nI_1 j
        have hstay : ¬ ((mout P left b f e j C).1 j = 2 ∧ (mout P left b f e j C).2.1 j = b ∧ P 4 j ≤ left ∧ (P 2 j = f ∨ (P 5 j = 1 ∧ e = true))) → w_X0_stepOut_J122 r Q (fun a1 a2 a3 a4 a5 aσ => w_X0_stepOut_L24 r Q (d + 1) a1 a2 a3 a4 a5 aσ) (nI b) (nI f) (nI left) (zB01 e) (nI j) σk := fun hc => by
          have eo : mout P left b f e (j + 1) C = mout P left b f e j C := by
            show (if _ then _ else _) = _
            rw [if_neg hc]
          unfold w_X0_stepOut_J122
          rw [enx]
          exact ih (j + 1) σk (by omega) (by rw [eo]; exact hR) (by rw [eo]; exact hW)
        have hgo : ((mout P left b f e j C).1 j = 2 ∧ (mout P left b f e j C).2.1 j = b ∧ P 4 j ≤ left ∧ (P 2 j = f ∨ (P 5 j = 1 ∧ e = true))) → w_X0_leave r (nI j) (nI b) (nI f) σk (fun _ t3 => w_X0_stepOut_J122 r Q (fun a1 a2 a3 a4 a5 aσ => w_X0_stepOut_L24 r Q (d + 1) a1 a2 a3 a4 a5 aσ) (nI b) (nI f) (nI left) (zB01 e) (nI j) t3) := fun hc => by
          have eo : mout P left b f e (j + 1) C = mleave P (mout P left b f e j C) j f := by
            show (if _ then _ else _) = _
            rw [if_pos hc]
          refine s_leave hC hR hW g' hjn hf hb hc.1 hc.2.1 (fun σ' h1 h2 => ?_)
          unfold w_X0_stepOut_J122
          rw [enx]
          exact ih (j + 1) σ' (by omega) (by rw [eo]; exact h1) (by rw [eo]; exact h2)
        have hJ : ∀ want : Bool, (want = true ↔ (P 2 j = f ∨ (P 5 j = 1 ∧ e = true))) → w_X0_stepOut_J83 r Q (fun a1 a2 a3 a4 a5 aσ => w_X0_stepOut_L24 r Q (d + 1) a1 a2 a3 a4 a5 aσ) (nI b) (nI f) (nI left) (zB01 e) (nI j) (zB01 want) σk := fun want hwant => by
          unfold w_X0_stepOut_J83
          rw [s_isIn hR g' hF hn hjn (by omega), c30 (show j < 30 by omega), p4, l1]
          simp only [zB01_0]
          refine ⟨fun hh => hstay (fun hc => ?_), fun hh => ⟨fun h1 => hstay (fun hc => ?_), fun h1 => ⟨v30 (by omega), fun h2 => hstay (by omega), fun h2 => hgo ?_⟩⟩⟩
          · exact (of_decide_eq_false hh) ⟨hc.1, hc.2.1⟩
          · rw [hwant.mpr hc.2.2.2] at h1
            cases h1
          · have h3 : (mout P left b f e j C).1 j = 2 ∧ (mout P left b f e j C).2.1 j = b := by
              rw [Bool.not_eq_false] at hh
              exact of_decide_eq_true hh
            rw [Bool.not_eq_false] at h1
            exact ⟨h3.1, h3.2, by omega, hwant.mp h1⟩
        rw [c30 (show j < 30 by omega), p2, p5, l2, l5, show (nI 0 : Int32) = 0 from rfl, zB01_0]
        unfold w_X0_stepOut_J78 w_X0_stepOut_J82
        refine ⟨fun c2 => hJ true (by simp [c2]), fun c2 => ⟨fun c6 => hJ false (by simp [c2, c6]), fun c6 => ⟨v30 (by omega), fun c5 => hJ true ?_, fun c5 => hJ false (by simp [c2, c5])⟩⟩⟩
        rw [Bool.not_eq_false] at c6
        simp [c5, c6]
  exact key n 0 σ (by omega) h hw
theorem s_stepIn (hC : HC σ0 r F S W V ks n P) (h : RB σ0 σ r n F T C) (hw : WB σ r n F P C) (g : GC n F C) {b left s f : Nat} (hb : b < 2 * F + 2) (hmv : C.2.2.2.2.2.2.2.2.1 < 1000) (hleft : left < 1000) (hsl : mslot F S C.2.2.2.2.2.2.2.2.1 b = s) (hf : f < F) (k : ∀ σ', RB σ0 σ' r n F T (mstepin P n left b f (decide (s < F)) C) → WB σ' r n F P (mstepin P n left b f (decide (s < F)) C) → Q 0 σ') : w_X0_stepIn r (nI b) (nI f) (nI left) σ Q := by
  obtain ⟨a1, a2, a3, a4, a5, a6, a7, a8, a9, b1, b2, b3⟩ := HC_fr hC h.1
  have hF := a8.2.1
  have hn := a9.1
  have hS : 0 < S := by have := a8.2.2.1; omega
  have hs := mslot_lt (F := F) (S := S) (mv := C.2.2.2.2.2.2.2.2.1) (b := b) hS
  rw [hsl] at hs
  have hlen := GC_len g hf
  have hws := wsm_le (C := C) a9 b n (Nat.le_refl n)
  obtain ⟨hmf, -, -, hml, -⟩ := h.2.2.1 f hf
  unfold w_X0_stepIn
  rw [h.2.2.2.2.1, s_slot (HC_fr hC h.1) hmv (by omega), hsl, s_isUp (HC_fr hC h.1) (by omega)]
  generalize decide (s < F) = up at k ⊢
  have key : ∀ d j, j + d = (C.2.2.2.1 f).length → (∀ i q, i < j → (C.2.2.2.1 f)[i]? = some q → mpred P left (wsm P C b n) f up q = false) → w_X0_stepIn_L24 r Q (d + 1) (nI b) (nI f) (nI left) (zB01 up) (nI j) σ := by
    intro d
    induction d with
    | zero =>
      intro j hj hno
      have ej : j = (C.2.2.2.1 f).length := by omega
      rw [w_X0_stepIn_L24, c8 (show f < 8 by omega), hmf, ej]
      refine ⟨v8 (by omega), fun _ => ?_, fun hh => absurd (Int32.le_refl _) hh⟩
      have hnone : (C.2.2.2.1 f).findIdx? (mpred P left (wsm P C b n) f up) = none := by
        rw [List.findIdx?_eq_none_iff]
        intro q hq
        obtain ⟨i, hi, he⟩ := List.getElem_of_mem hq
        exact hno i q (by omega) (by rw [List.getElem?_eq_getElem hi, he])
      have ee : mstepin P n left b f up C = C := by unfold mstepin; rw [hnone]
      rw [ee] at k
      exact k σ h hw
    | succ d ih =>
      intro j hj hno
      have hjl : j < (C.2.2.2.1 f).length := by omega
      obtain ⟨q, hq⟩ : ∃ q, (C.2.2.2.1 f)[j]? = some q := ⟨_, List.getElem?_eq_getElem hjl⟩
      have hqm := (g.2.1 f hf).2 q (List.mem_of_getElem? hq)
      have hqn : q < 30 := by omega
      have hp := a9.2 q hqm.1
      rw [w_X0_stepIn_L24, c8 (show f < 8 by omega), hmf, c30 (show j < 30 by omega), hml j q hq, c30 hqn]
      refine ⟨v8 (by omega), fun hh => ?_, fun _ => ⟨v8 (by omega), v30 (by omega), ?_⟩⟩
      · rw [nI_leI (by omega) (by omega)] at hh
        omega
      have p4 : σ.2 6 q = nI (P 4 q) := a7 4 (by decide) q hqm.1
      have p3 : σ.2 5 q = nI (P 3 q) := a7 3 (by decide) q hqm.1
      have p2 : σ.2 4 q = nI (P 2 q) := a7 2 (by decide) q hqm.1
      have l1 : (nI left < nI (P 4 q)) ↔ left < P 4 q := nI_ltI (by omega) (by omega)
      have l2 : ((4 : Int32) < nI (wsm P C b n) + nI (P 3 q)) ↔ 4 < wsm P C b n + P 3 q := by
        rw [nI_add, show (4 : Int32) = nI 4 from rfl, nI_ltI (by omega) (by omega)]
      have l3 : (nI (P 2 q) ≤ nI f) ↔ P 2 q ≤ f := nI_leI (by omega) (by omega)
      have l4 : (nI f ≤ nI (P 2 q)) ↔ f ≤ P 2 q := nI_leI (by omega) (by omega)
      have hno' : mpred P left (wsm P C b n) f up q = false → w_X0_stepIn_J150 r Q (fun a1 a2 a3 a4 a5 aσ => w_X0_stepIn_L24 r Q (d + 1) a1 a2 a3 a4 a5 aσ) (nI b) (nI f) (nI left) (zB01 up) (nI j) σ := fun hf0 => by
        unfold w_X0_stepIn_J150
        rw [nI_1]
        refine ih (j + 1) (by omega) (fun i q' hi hq' => ?_)
        by_cases e2 : i = j
        · subst e2
          rw [hq] at hq'
          cases hq'
          exact hf0
        · exact hno i q' (by omega) hq'
      have hyes : mpred P left (wsm P C b n) f up q = true → w_X0_takeFromLine r (nI f) (nI j) σ (fun _ t1 => w_X0_enter r (nI q) (nI b) (nI f) t1 (fun _ t2 => Q 0 t2)) := fun hf1 => by
        have hsome : (C.2.2.2.1 f).findIdx? (mpred P left (wsm P C b n) f up) = some j := by
          rw [List.findIdx?_eq_some_iff_getElem]
          refine ⟨hjl, ?_, fun i hi => ?_⟩
          · rw [(List.getElem?_eq_some_iff.mp hq).2]
            exact hf1
          · rw [hno i _ hi (List.getElem?_eq_getElem (by omega))]
            exact Bool.false_ne_true
        have ee : mstepin P n left b f up C = mtake C b f j q := by
          unfold mstepin
          rw [hsome]
          show mtake C b f j _ = _
          rw [List.getD_eq_getElem?_getD, hq]
          rfl
        rw [ee] at k
        exact s_take hC h hw g hf hb hq k
      have hJ : ∀ want : Bool, (want = true ↔ (if up then f < P 2 q else P 2 q < f)) → w_X0_stepIn_J92 r Q (fun a1 a2 a3 a4 a5 aσ => w_X0_stepIn_L24 r Q (d + 1) a1 a2 a3 a4 a5 aσ) (nI b) (nI f) (nI left) (zB01 up) (nI j) (nI q) (zB01 want) σ := fun want hwant => by
        unfold w_X0_stepIn_J92
        rw [c30 hqn, c18 (show b < 18 by omega), p4, p3, l1, hw b hb, l2, zB01_0]
        refine ⟨fun h1 => hno' ?_, fun h1 => ⟨v30 hqn, fun h2 => hno' ?_, fun h2 => ⟨v18 (by omega), v30 hqn, fun h3 => hno' ?_, fun h3 => hyes ?_⟩⟩⟩
        · rw [h1] at hwant
          simp only [mpred, decide_eq_false_iff_not]
          exact fun hh => absurd (hwant.mpr hh.2.2) (by decide)
        · simp only [mpred, decide_eq_false_iff_not]
          exact fun hh => by omega
        · simp only [mpred, decide_eq_false_iff_not]
          exact fun hh => by omega
        · rw [Bool.not_eq_false] at h1
          simp only [mpred, decide_eq_true_eq]
          exact ⟨by omega, by omega, hwant.mp h1⟩
      rw [p2, l3, l4, zB01_0]
      cases up with
      | false =>
        refine ⟨fun _ => ⟨v30 hqn, fun c => hJ false ?_, fun c => hJ true ?_⟩, fun hh => absurd rfl hh⟩
        · simp
          omega
        · simp
          omega
      | true =>
        refine ⟨fun hh => Bool.noConfusion hh, fun _ => ⟨v30 hqn, fun c => hJ false ?_, fun c => hJ true ?_⟩⟩
        · simp
          omega
        · simp
          omega
  exact ⟨_, key (C.2.2.2.1 f).length 0 (by omega) (fun i q hi => absurd hi (Nat.not_lt_zero i))⟩
end SSRV

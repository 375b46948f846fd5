theorem slt {x y : Int32} : x < y ↔ x.toInt < y.toInt := Int32.lt_iff_toInt_lt
theorem sle {x y : Int32} : x ≤ y ↔ x.toInt ≤ y.toInt := Int32.le_iff_toInt_le
section RSRV3
variable {τ : zS} {F S W V n : Nat} {kk : Nat} {P : Nat → Nat → Nat} {m : Nat → Int32} {C : mC} {Q : Int32 → zS → Prop}
/-- the first place from j on in a line whose person is fit, as the reference has it -/
def fnd (l : List Nat) (pr : Nat → Bool) (j : Nat) (x : Int32) : Prop := (x = -1 ∧ ∀ i q, j ≤ i → l[i]? = some q → pr q = false) ∨ ∃ i q, j ≤ i ∧ x = nI i ∧ l[i]? = some q ∧ pr q = true ∧ ∀ i' q', j ≤ i' → i' < i → l[i']? = some q' → pr q' = false
theorem m_take (hM : HM τ F S W V kk n P) (h : RM m n F C) (g : GC n F C) {b f i p : Nat} (hf : f < F) (hi : (C.2.2.2.1 f)[i]? = some p) (k : ∀ m', RM m' n F (mtake C b f i p) → Q 0 (zm τ m')) : w_X7_parts (nI f) (nI i) (zm τ m) (fun _ t1 => (vp_in ((5 : Int32) + nI p) 389 ∧ zlet (zA t1 8 ((5 : Int32) + nI p).toNatClampNeg (2 : Int32)) fun t2 => (vp_in ((35 : Int32) + nI p) 389 ∧ zlet (zA t2 8 ((35 : Int32) + nI p).toNatClampNeg (nI b)) fun t3 => (vp_in ((125 : Int32) + nI f) 389 ∧ (vp_in ((125 : Int32) + nI f) 389 ∧ zlet (zA t3 8 ((125 : Int32) + nI f).toNatClampNeg ((t3.2 8 ((125 : Int32) + nI f).toNatClampNeg) + (1 : Int32))) fun t4 => Q 0 t4))))) := by
  obtain ⟨a1, a2, a3, a4, a5, a6, a7, a8, a9⟩ := id hM
  have hF := a8.2.1
  have hn := a9.1
  have hpm := (g.2.1 f hf).2 p (List.mem_of_getElem? hi)
  refine m_parts hM h g hf hi (fun m' hm' hlow => ?_)
  simp only [zlet_def, ix5 (show p < 30 by omega), vp5 (show p < 30 by omega), ix35 (show p < 30 by omega), vp35 (show p < 30 by omega), ix125 (show f < 8 by omega), vp125 (show f < 8 by omega), true_and, zm_8, zm_A]
  refine k _ ?_
  have h1 := RM_st hm' hF hn (p := p) (by omega) (m' := upd (upd m' (5 + p) 2) (35 + p) (nI b)) 2 b (C.2.2.1 p) (by simp only [upd_e]; rw [if_neg (by omega)]; simp; rfl) (fun _ => by simp [upd_e]) (fun q => by omega) (fun x x1 x2 x3 => by simp only [upd_e, x1, x2, if_false])
  have hic : upd (upd m' (5 + p) 2) (35 + p) (nI b) (125 + f) = C.2.2.2.2.1 f := by
    simp only [upd_e]
    rw [if_neg (by omega), if_neg (by omega)]
    exact (hm'.2.1 f hf).2.1
  rw [hic]
  have h2 := RM_ic h1 hF hn hf (C.2.2.2.2.1 f + 1)
  have e : fu C.2.2.1 p (C.2.2.1 p) = C.2.2.1 := by
    funext j
    simp only [fu]
    split
    · next e => rw [e]
    · rfl
  show RM _ n F (fu C.1 p 2, fu C.2.1 p b, C.2.2.1, fu C.2.2.2.1 f ((C.2.2.2.1 f).eraseIdx i), fu C.2.2.2.2.1 f (C.2.2.2.2.1 f + 1), C.2.2.2.2.2)
  have h3 : RM _ n F (fu C.1 p 2, fu C.2.1 p b, fu C.2.2.1 p (C.2.2.1 p), fu C.2.2.2.1 f ((C.2.2.2.1 f).eraseIdx i), fu C.2.2.2.2.1 f (C.2.2.2.2.1 f + 1), C.2.2.2.2.2) := h2
  rw [e] at h3
  exact h3
theorem m_stepin (hM : HM τ F S W V kk n P) (h : RM m n F C) (g : GC n F C) {b f left : Nat} (hb : b < 100) (hf : f < F) (hleft : left < 1000) (up : Bool) (x7 : Int32) (hx7 : ∀ q ∈ C.2.2.2.1 f, bt x7 q = true → ¬ (if up then f < P 2 q else P 2 q < f)) (k : ∀ m', RM m' n F (mstepin P n left b f up C) → Q 0 (zm τ m')) : ∃ m205, w_X7_serves_L205 Q m205 (nI b) (nI left) (nI f) (zB01 up) x7 ((4 : Int32) - nI (wsm P C b n)) (-1) ((m (141 + f)) - 1) (zm τ m) := by
  obtain ⟨a1, a2, a3, a4, a5, a6, a7, a8, a9⟩ := id hM
  have hF := a8.2.1
  have hn := a9.1
  have hlen := GC_len g hf
  have hws := wsm_le (C := C) a9 b n (Nat.le_refl n)
  obtain ⟨hmf, -, -, hml⟩ := h.2.1 f hf
  rw [hmf]
  have key : ∀ j x9, j ≤ (C.2.2.2.1 f).length → fnd (C.2.2.2.1 f) (mpred P left (wsm P C b n) f up) j x9 → w_X7_serves_L205 Q (j + 1) (nI b) (nI left) (nI f) (zB01 up) x7 ((4 : Int32) - nI (wsm P C b n)) x9 (nI j - 1) (zm τ m) := by
    intro j
    induction j with
    | zero =>
      intro x9 hj hfd
      rw [w_X7_serves_L205]
      refine ⟨fun _ => ?_, fun hh => absurd (by decide) hh⟩
      rcases hfd with ⟨rfl, hno⟩ | ⟨i, q, -, rfl, hi, hpr, hfirst⟩
      · refine ⟨fun _ => k m ?_, fun hh => absurd (by decide) hh⟩
        have : mstepin P n left b f up C = C := by
          unfold mstepin
          rw [List.findIdx?_eq_none_iff.mpr (fun x hx => by
            obtain ⟨i, hi⟩ := List.getElem?_of_mem hx
            exact hno i x (Nat.zero_le i) hi)]
        rw [this]
        exact h
      · have hil : i < (C.2.2.2.1 f).length := (List.getElem?_eq_some_iff.mp hi).1
        refine ⟨fun hh => absurd hh (nI_pos (by omega)), fun _ => ⟨vpL (by omega) (by omega), ?_⟩⟩
        have hv : (zm τ m).2 8 (((149 : Int32) + ((30 : Int32) * nI f)) + nI i).toNatClampNeg = nI q := by
          rw [ixL (by omega) (by omega), zm_8]
          exact hml i q hi
        rw [hv]
        have e : mstepin P n left b f up C = mtake C b f i q := by
          unfold mstepin
          have hfi : (C.2.2.2.1 f).findIdx? (mpred P left (wsm P C b n) f up) = some i := by
            rw [List.findIdx?_eq_some_iff_getElem]
            refine ⟨hil, ?_, fun j hj => ?_⟩
            · rw [(List.getElem?_eq_some_iff.mp hi).2]
              exact hpr
            · have := hfirst j _ (Nat.zero_le j) hj (List.getElem?_eq_getElem (by omega))
              simp [this]
          rw [hfi]
          show mtake C b f i ((C.2.2.2.1 f).getD i 0) = _
          rw [List.getD_eq_getElem?_getD, hi]
          rfl
        exact m_take hM h g hf hi (fun m' hm' => k m' (by rw [e]; exact hm'))
    | succ j ih =>
      intro x9 hj hfd
      rw [w_X7_serves_L205]
      have ej : nI (j + 1) - 1 = nI j := nI_pred j
      rw [ej]
      refine ⟨fun hh => absurd hh (nI_pos (by omega)), fun _ => ?_⟩
      have hjl : j < (C.2.2.2.1 f).length := by omega
      obtain ⟨q, hq⟩ : ∃ q, (C.2.2.2.1 f)[j]? = some q := ⟨_, List.getElem?_eq_getElem hjl⟩
      have hqm := (g.2.1 f hf).2 q (List.mem_of_getElem? hq)
      have hqn : q < 30 := by omega
      have hp := a9.2 q hqm.1
      have hv : (zm τ m).2 8 (((149 : Int32) + ((30 : Int32) * nI f)) + nI j).toNatClampNeg = nI q := by
        rw [ixL (by omega) (by omega), zm_8]
        exact hml j q hq
      have p4 : (zm τ m).2 5 q = nI (P 4 q) := by rw [zm_n _ _ (by decide)]; exact a7 4 (by decide) q hqm.1
      have p3 : (zm τ m).2 4 q = nI (P 3 q) := by rw [zm_n _ _ (by decide)]; exact a7 3 (by decide) q hqm.1
      have p2 : (zm τ m).2 3 q = nI (P 2 q) := by rw [zm_n _ _ (by decide)]; exact a7 2 (by decide) q hqm.1
      simp only [hv, zcl hqn, p4, p3, p2, vpL (show f < 8 by omega) (show j < 30 by omega), zvi hqn (show 30 < 2 ^ 31 by decide), true_and]
      -- the two ends of an iteration
      have em1 : nI j + (-1 : Int32) = nI j - 1 := by rw [Int32.sub_eq_add_neg]
      have hno : mpred P left (wsm P C b n) f up q = false → w_X7_serves_J299 Q (fun a1 a2 a4 a5 a7 a8 a9 a10 aσ => w_X7_serves_L205 Q (j + 1) a1 a2 a4 a5 a7 a8 a9 a10 aσ) (nI b) (nI left) (nI f) (zB01 up) x7 ((4 : Int32) - nI (wsm P C b n)) x9 (nI j) 0 (zm τ m) := fun hf0 => by
        unfold w_X7_serves_J299 w_X7_serves_J313
        refine ⟨fun _ => ?_, fun hh => absurd rfl hh⟩
        rw [em1]
        refine ih x9 (by omega) ?_
        rcases hfd with ⟨e, hh⟩ | ⟨i, q', h1, h2, h3, h4, h5⟩
        · refine Or.inl ⟨e, fun i q' hi hq' => ?_⟩
          by_cases e2 : i = j
          · subst e2
            rw [hq] at hq'
            cases hq'
            exact hf0
          · exact hh i q' (by omega) hq'
        · refine Or.inr ⟨i, q', by omega, h2, h3, h4, fun i' q'' hi' hlt hq'' => ?_⟩
          by_cases e2 : i' = j
          · subst e2
            rw [hq] at hq''
            cases hq''
            exact hf0
          · exact h5 i' q'' (by omega) hlt hq''
      have hyes : mpred P left (wsm P C b n) f up q = true → w_X7_serves_J299 Q (fun a1 a2 a4 a5 a7 a8 a9 a10 aσ => w_X7_serves_L205 Q (j + 1) a1 a2 a4 a5 a7 a8 a9 a10 aσ) (nI b) (nI left) (nI f) (zB01 up) x7 ((4 : Int32) - nI (wsm P C b n)) x9 (nI j) 1 (zm τ m) := fun hf1 => by
        unfold w_X7_serves_J299 w_X7_serves_J313
        refine ⟨fun hh => absurd hh (by decide), fun _ => ?_⟩
        rw [em1]
        exact ih (nI j) (by omega) (Or.inr ⟨j, q, Nat.le_refl j, rfl, hq, hf1, fun i' q' h1 h2 => by omega⟩)
      have l1 : (nI left < nI (P 4 q)) ↔ left < P 4 q := nI_ltI (by omega) (by omega)
      have l2 : ((4 : Int32) - nI (wsm P C b n) < nI (P 3 q)) ↔ 4 < wsm P C b n + P 3 q := by
        rw [slt, show (4 : Int32) = nI 4 from rfl, pk_sub_toInt (by decide) (by omega), nI_toInt (by omega)]
        omega
      have l3 : (nI (P 2 q) ≤ nI f) ↔ P 2 q ≤ f := nI_leI (by omega) (by omega)
      have l4 : (nI f ≤ nI (P 2 q)) ↔ f ≤ P 2 q := nI_leI (by omega) (by omega)
      unfold w_X7_serves_J298 w_X7_serves_J294
      rw [l1, l2]
      refine ⟨fun c1 => hno (by simp [mpred]; omega), fun c1 => ⟨fun c2 => hno (by simp [mpred]; omega), fun c2 => ?_⟩⟩
      rw [bt_tst q (by omega) x7]
      cases hbt : bt x7 q with
      | true =>
        refine ⟨fun hh => absurd hh (by decide), fun _ => hno ?_⟩
        have h9 := hx7 q (List.mem_of_getElem? hq) hbt
        simp only [mpred, decide_eq_false_iff_not]
        exact fun hh => h9 hh.2.2
      | false =>
        refine ⟨fun _ => ?_, fun hh => absurd rfl hh⟩
        cases up with
        | false =>
          refine ⟨fun _ => ⟨fun c3 => hno ?_, fun c3 => hyes ?_⟩, fun hh => absurd rfl hh⟩
          · rw [l4] at c3
            simp [mpred]
            omega
          · rw [l4] at c3
            simp [mpred]
            omega
        | true =>
          refine ⟨fun hh => absurd hh (by decide), fun _ => ⟨fun c3 => hno ?_, fun c3 => hyes ?_⟩⟩
          · rw [l3] at c3
            simp [mpred]
            omega
          · rw [l3] at c3
            simp [mpred]
            omega
  have hlast : nI (C.2.2.2.1 f).length - 1 = nI (C.2.2.2.1 f).length - 1 := rfl
  exact ⟨_, key (C.2.2.2.1 f).length (-1) (Nat.le_refl _) (Or.inl ⟨rfl, fun i q hi hq => absurd (List.getElem?_eq_some_iff.mp hq).1 (by omega)⟩)⟩
end RSRV3

/-! who comes and who arrives; a tick -/
/-- C as the system sees it -/
def vwC (v : Nat → Nat) (C : mC) : mC := (v, C.2)
theorem RB_v {σ0 σ : zS} {r n F T T' : Nat} {C C' : mC} (h : RB σ0 σ r n F T C) (e2 : C'.2 = C.2) (e1 : ∀ p, p < n → stC T' C' p = stC T C p) : RB σ0 σ r n F T' C' := by
  obtain ⟨h0, h1, h2, h3, h4, h5, h6, h7⟩ := h
  refine ⟨h0, fun p hp => ?_, by rw [e2]; exact h2, by rw [e2]; exact h3, by rw [e2]; exact h4, by rw [e2]; exact h5, by rw [e2]; exact h6, h7⟩
  obtain ⟨a1, a2, a3, a4⟩ := h1 p hp
  have e := e1 p hp
  rw [e2]
  refine ⟨by rw [e]; exact a1, fun hh => a2 ?_, fun hh => a3 ?_, a4⟩
  · unfold stC at e
    split at e <;> split at e <;> omega
  · unfold stC at e
    split at e <;> split at e <;> omega
section SCOME
variable {σ0 σ : zS} {r F S W V ks n T : Nat} {P : Nat → Nat → Nat} {C : mC} {Q : Int32 → zS → Prop}
theorem s_floorsApart (h : HC σ r F S W V ks n P) {p : Nat} (hp : p < n) : w_X4_floorsApart (nI p) σ Q ↔ Q (nI (mfar P p)) σ := by
  obtain ⟨a1, a2, a3, a4, a5, a6, a7, a8, a9, b1, b2, b3⟩ := h
  have hF := a8.2.1
  have hn := a9.1
  have hp2 := a9.2 p hp
  have p1 : σ.2 3 p = nI (P 1 p) := a7 1 (by decide) p hp
  have p2 : σ.2 4 p = nI (P 2 p) := a7 2 (by decide) p hp
  unfold w_X4_floorsApart
  rw [c30 (show p < 30 by omega), p1, p2]
  have e : (if (0 : Int32) ≤ nI (P 1 p) - nI (P 2 p) then nI (P 1 p) - nI (P 2 p) else 0 - (nI (P 1 p) - nI (P 2 p))) = nI (mfar P p) := by
    unfold mfar
    by_cases c : P 2 p ≤ P 1 p
    · rw [if_pos c, pk_sub c, if_pos (nI_pos' (by omega))]
    · have hneg : ¬ (0 : Int32) ≤ nI (P 1 p) - nI (P 2 p) := by
        rw [sle, pk_sub_toInt (by omega) (by omega)]
        show ¬ (0 : Int) ≤ _
        omega
      rw [if_neg c, if_neg hneg, ← pk_sub (by omega), Int32.zero_sub, Int32.neg_sub]
  rw [e]
  simp [v30 (show p < 30 by omega)]
theorem s_goesOnFoot (h : HC σ r F S W V ks n P) {p : Nat} (hp : p < n) : w_X4_goesOnFoot (nI p) (nI ks - 1) σ Q ↔ Q (zB01 (mwalk P ks p)) σ := by
  obtain ⟨a1, a2, a3, a4, a5, a6, a7, a8, a9, b1, b2, b3⟩ := id h
  have hF := a8.2.1
  have hn := a9.1
  have hp2 := a9.2 p hp
  have hk8 := b2.2
  have hfar := mfar_le a9 hF hp
  have p6 : σ.2 8 p = nI (P 6 p) := a7 6 (by decide) p hp
  unfold w_X4_goesOnFoot w_X4_goesOnFoot_J15
  rw [s_floorsApart h hp, s_floorsApart h hp, c30 (show p < 30 by omega), p6]
  have fin : ∀ x, x < 100 → (((nI x < nI (mfar P p) → (((0 : Int32) = 0 ∨ (0 : Int32) = 1) ∧ Q (0 : Int32) σ)) ∧ (¬ (nI x < nI (mfar P p)) → (((1 : Int32) = 0 ∨ (1 : Int32) = 1) ∧ Q (1 : Int32) σ))) ↔ Q (zB01 (decide (mfar P p ≤ x))) σ) := fun x hx => by
    rw [nI_ltI (by omega) (by omega)]
    by_cases c : x < mfar P p
    · simp [c, zB01, show ¬ mfar P p ≤ x by omega]
    · simp [c, zB01, show mfar P p ≤ x by omega]
  unfold mwalk
  by_cases hk : ks = 0
  · subst hk
    have e1 : nI 0 - 1 = (-1 : Int32) := by decide
    rw [e1, fin _ (by omega)]
    simp [v30 (show p < 30 by omega)]
  · have e0 : nI ks - 1 = nI (ks - 1) := by rw [show (1 : Int32) = nI 1 from rfl, pk_sub (by omega)]
    have e1 : ¬ nI ks - 1 = (-1 : Int32) := fun hh => by
      rw [e0] at hh
      have : (nI (ks - 1)).toInt = (-1 : Int32).toInt := by rw [hh]
      rw [nI_toInt (by omega)] at this
      have h4 : (-1 : Int32).toInt = -1 := by decide
      omega
    rw [e0] at e1 ⊢
    rw [fin _ (by omega), fin _ (by omega)]
    simp [e1, hk]
theorem s_comeAndArrive (hC : HC σ0 r F S W V ks n P) (h : RB σ0 σ r n F C.2.2.2.2.2.2.2.1 C) (hw : WB σ r n F P C) (g : GC n F C) (ht : C.2.2.2.2.2.2.2.1 < 90000) (hz : ∀ p, p < n → P 0 p = C.2.2.2.2.2.2.2.1 → C.1 p = 0) (k : ∀ σ', RB σ0 σ' r n F (C.2.2.2.2.2.2.2.1 + 1) (mcome P ks n C) → WB σ' r n F P (mcome P ks n C) → Q 0 σ') : w_X0_comeAndArrive r σ Q := by
  have hF := hC.2.2.2.2.2.2.2.1.2.1
  have hP := hC.2.2.2.2.2.2.2.2.1
  have hn := hP.1
  generalize htk : C.2.2.2.2.2.2.2.1 = tk at h ht hz k
  refine ⟨n + 1, ?_⟩
  have key : ∀ d j (σk : zS), j + d = n → RB σ0 σk r n F 0 (vwC (fun p => if p < j then stC (tk + 1) (mcome P ks j C) p else stC tk (mcome P ks j C) p) (mcome P ks j C)) → WB σk r n F P (mcome P ks j C) → w_X0_comeAndArrive_L2 r Q (d + 1) (nI j) σk := by
    intro d
    induction d with
    | zero =>
      intro j σk hj hR hW
      have ej : j = n := by omega
      subst ej
      rw [w_X0_comeAndArrive_L2, (HC_fr hC hR.1).2.2.2.2.2.1]
      refine ⟨fun _ => k σk (RB_v hR rfl (fun p hp => ?_)) hW, fun hh => absurd (Int32.le_refl _) hh⟩
      have e0 : ∀ D : mC, stC 0 D p = D.1 p := fun D => by unfold stC; rw [if_neg (fun hh => Nat.not_lt_zero _ hh.2)]
      rw [e0]
      show _ = if p < j then _ else _
      rw [if_pos hp]
    | succ d ih =>
      intro j σk hj hR hW
      have hjn : j < n := by omega
      have gj : GC n F (mcome P ks j C) := GC_come hP hF j C (by omega) g (by rw [htk]; exact ht) (by rw [htk]; exact hz)
      have hsj : (mcome P ks j C).1 j = C.1 j := mcome_st P ks j C j (Nat.le_refl j)
      have etk : (mcome P ks j C).2.2.2.2.2.2.2.1 = tk := by rw [mcome_tk]; exact htk
      have hpj := hP.2 j hjn
      have hfar := mfar_le hP hF hjn
      obtain ⟨q1, -, q3, -⟩ := hR.2.1 j hjn
      have ev : stC 0 (vwC (fun p => if p < j then stC (tk + 1) (mcome P ks j C) p else stC tk (mcome P ks j C) p) (mcome P ks j C)) j = stC tk (mcome P ks j C) j := by
        unfold stC vwC
        simp
      rw [ev] at q1
      have hle := stC_le (T := tk) gj hjn
      have hdn := (gj.1 j hjn).2.2.2
      have p0 : σk.2 2 j = nI (P 0 j) := (HC_fr hC hR.1).2.2.2.2.2.2.1 0 (by decide) j hjn
      have p1 : σk.2 3 j = nI (P 1 j) := (HC_fr hC hR.1).2.2.2.2.2.2.1 1 (by decide) j hjn
      have etk2 : σk.1 r 13 = nI tk := by rw [← etk]; exact hR.2.2.2.1
      rw [w_X0_comeAndArrive_L2, (HC_fr hC hR.1).2.2.2.2.2.1, c30 (show j < 30 by omega), q1, p0, etk2, nI_eq (by omega) (by omega)]
      refine ⟨fun hh => ?_, fun _ => ⟨v30 (by omega), ?_⟩⟩
      · rw [nI_leI (by omega) (by omega)] at hh
        omega
      rw [show (0 : Int32) = nI 0 from rfl, nI_eq (by omega) (by omega)]
      -- nobody comes
      have stay : P 0 j ≠ tk → w_X0_comeAndArrive_J46 r Q (fun a1 aσ => w_X0_comeAndArrive_L2 r Q (d + 1) a1 aσ) (nI j) σk := fun hne => by
        have eo : mcome P ks (j + 1) C = mcome P ks j C := by
          show (if _ then _ else _) = _
          rw [if_neg (by rw [htk]; exact hne)]
        unfold w_X0_comeAndArrive_J46 w_X0_comeAndArrive_J76
        rw [c30 (show j < 30 by omega), q1, etk2, nI_1, show (3 : Int32) = nI 3 from rfl, nI_eq (by omega) (by decide)]
        refine ⟨v30 (by omega), fun h3 => ⟨v30 (by omega), ?_⟩, fun h3 => ?_⟩
        · have h31 : (mcome P ks j C).1 j = 3 ∧ ¬ (mcome P ks j C).2.2.1 j < tk := by
            unfold stC at h3
            split at h3 <;> omega
          have hdn2 := hdn (Or.inl h31.1)
          have q3' : σk.2 (r + 3) j = nI ((mcome P ks j C).2.2.1 j) := q3 (Or.inl (by show (if j < j then _ else _) = 3; rw [if_neg (Nat.lt_irrefl j)]; exact h3))
          rw [q3', nI_eq (by omega) (by omega)]
          refine ⟨fun h4 => ⟨v30 (by omega), ?_⟩, fun h4 => ?_⟩
          · rw [zlet_def]
            refine ih (j + 1) _ (by omega) ?_ (by rw [eo]; exact fun b hb => by rw [zA_2, if_neg (by omega)]; exact hW b hb)
            rw [eo]
            have h5 := RB_st hR hF (σ' := zA σk (r + 1) j 4) (Fr_A hR.1 (by omega) (by omega)) (p := j) hjn 4 ((mcome P ks j C).2.1 j) ((mcome P ks j C).2.2.1 j) (by rw [zA_2, if_pos ⟨rfl, rfl⟩]; rfl) (fun hh => by omega) (fun _ => by rw [zA_2, if_neg (by omega)]; exact q3') (fun k' x hk hx => by rw [zA_2, if_neg (by omega)]) rfl
            have hid : ∀ (f : Nat → Nat), fu f j (f j) = f := fun f => by
              funext q
              simp only [fu]
              split
              · next e => rw [e]
              · rfl
            refine RB_v h5 ?_ (fun p hp => ?_)
            · show _ = (fu (mcome P ks j C).2.1 j ((mcome P ks j C).2.1 j), fu (mcome P ks j C).2.2.1 j ((mcome P ks j C).2.2.1 j), (mcome P ks j C).2.2.2)
              rw [hid, hid]
              rfl
            · unfold stC vwC
              by_cases e : p = j
              · subst e
                simp [fu, h31.1, h4]
              · have : p < j + 1 ↔ p < j := by omega
                simp [fu, e, this]
          · refine ih (j + 1) σk (by omega) ?_ (by rw [eo]; exact hW)
            rw [eo]
            refine RB_v hR rfl (fun p hp => ?_)
            unfold stC vwC
            by_cases e : p = j
            · subst e
              simp [h31.1, h31.2, show ¬ (mcome P ks p C).2.2.1 p < tk + 1 by omega]
            · have : p < j + 1 ↔ p < j := by omega
              simp [this]
        · refine ih (j + 1) σk (by omega) ?_ (by rw [eo]; exact hW)
          rw [eo]
          refine RB_v hR rfl (fun p hp => ?_)
          have h31 : (mcome P ks j C).1 j ≠ 3 ∨ (mcome P ks j C).2.2.1 j < tk := by
            unfold stC at h3
            split at h3 <;> omega
          unfold stC vwC
          by_cases e : p = j
          · subst e
            rcases h31 with h31 | h31
            · simp [h31]
            · simp [h31, show (mcome P ks p C).2.2.1 p < tk + 1 by omega]
          · have : p < j + 1 ↔ p < j := by omega
            simp [this]
      by_cases hct : P 0 j = tk
      · have hst0 : C.1 j = 0 := hz j hjn hct
        have hs0 : stC tk (mcome P ks j C) j = 0 := by unfold stC; rw [hsj, hst0]; simp
        refine ⟨fun _ => ⟨v30 (by omega), fun _ => ?_, fun hh => absurd hct hh⟩, fun hh => absurd hs0 hh⟩
        unfold w_X0_come
        rw [(HC_fr hC hR.1).2.2.2.2.2.2.2.2.2.2.1.1, s_goesOnFoot (HC_fr hC hR.1) hjn, zB01_0, c30 (show j < 30 by omega), p1]
        have gv : GC n F (vwC (fun p => if p < j then stC (tk + 1) (mcome P ks j C) p else stC tk (mcome P ks j C) p) (mcome P ks j C)) := by
          obtain ⟨g1, g2, g3⟩ := gj
          have hv : ∀ q, ((if q < j then stC (tk + 1) (mcome P ks j C) q else stC tk (mcome P ks j C) q) = (mcome P ks j C).1 q) ∨ ((mcome P ks j C).1 q = 3 ∧ (if q < j then stC (tk + 1) (mcome P ks j C) q else stC tk (mcome P ks j C) q) = 4) := fun q => by
            unfold stC
            split <;> split <;> omega
          refine ⟨fun q hq => ?_, fun f hf => ?_, g3⟩
          · obtain ⟨x1, x2, x3, x4⟩ := g1 q hq
            show (if q < j then stC (tk + 1) (mcome P ks j C) q else stC tk (mcome P ks j C) q) ≤ 4 ∧ ((if q < j then stC (tk + 1) (mcome P ks j C) q else stC tk (mcome P ks j C) q) = 1 → (mcome P ks j C).2.1 q < F) ∧ ((if q < j then stC (tk + 1) (mcome P ks j C) q else stC tk (mcome P ks j C) q) = 2 → (mcome P ks j C).2.1 q < 2 * F + 2) ∧ (((if q < j then stC (tk + 1) (mcome P ks j C) q else stC tk (mcome P ks j C) q) = 3 ∨ (if q < j then stC (tk + 1) (mcome P ks j C) q else stC tk (mcome P ks j C) q) = 4) → (mcome P ks j C).2.2.1 q < 100000)
            rcases hv q with e | ⟨e1, e2⟩
            · rw [e]
              exact ⟨x1, x2, x3, x4⟩
            · rw [e2]
              exact ⟨by decide, fun hh => by omega, fun hh => by omega, fun _ => x4 (Or.inl e1)⟩
          · refine ⟨(g2 f hf).1, fun q hq => ?_⟩
            obtain ⟨y1, y2, y3⟩ := (g2 f hf).2 q hq
            refine ⟨y1, ?_, y3⟩
            show (if q < j then stC (tk + 1) (mcome P ks j C) q else stC tk (mcome P ks j C) q) = 1
            rcases hv q with e | ⟨e1, e2⟩
            · rw [e]
              exact y2
            · omega
        have hvj : (if j < j then stC (tk + 1) (mcome P ks j C) j else stC tk (mcome P ks j C) j) = 0 := by rw [if_neg (Nat.lt_irrefl j)]; exact hs0
        unfold w_X0_comeAndArrive_J76
        rw [nI_1]
        refine ⟨fun hwk => ⟨v30 (by omega), ?_⟩, fun hwk => ⟨v30 (by omega), ?_⟩⟩
        · have eo : mcome P ks (j + 1) C = mjoin (mcome P ks j C) j (P 1 j) := by
            show (if _ then _ else _) = _
            rw [if_pos (by rw [htk]; exact hct), if_neg (by rw [hwk]; decide)]
          refine s_stand hF hn hR gv hjn hpj.2.1 (by show (if j < j then _ else _) ≠ 1; rw [hvj]; decide) (fun σ1 h1 hW1 => ih (j + 1) σ1 (by omega) ?_ (fun b hb => ?_))
          · rw [eo]
            refine RB_v h1 rfl (fun p hp => ?_)
            unfold stC vwC mjoin
            by_cases e : p = j
            · subst e
              simp [fu]
            · have : p < j + 1 ↔ p < j := by omega
              simp [fu, e, this]
          · rw [hW1, hW b hb, eo]
            congr 1
            refine (wsm_same (fun q => ?_) n).symm
            show (fu (mcome P ks j C).1 j 1 q = 2 ∧ fu (mcome P ks j C).2.1 j (P 1 j) q = b) ↔ _
            by_cases e : q = j
            · subst e
              simp [fu, hsj, hst0]
            · simp [fu, e]
        · rw [Bool.not_eq_false] at hwk
          have eo : mcome P ks (j + 1) C = (fu (mcome P ks j C).1 j 3, (mcome P ks j C).2.1, fu (mcome P ks j C).2.2.1 j (tk + 6 * mfar P j), (mcome P ks j C).2.2.2) := by
            show (if _ then _ else _) = _
            rw [if_pos (by rw [htk]; exact hct), if_pos hwk, htk]
          rw [zlet_def, s_floorsApart (HC_fr hC (Fr_A hR.1 (by omega) (by omega))) hjn]
          have e13 : (zA σk (r + 1) j 3).1 r 13 = nI tk := etk2
          rw [zlet_def, e13, show (6 : Int32) = nI 6 from rfl, pk_mul, nI_add]
          refine ⟨v30 (by omega), ih (j + 1) _ (by omega) ?_ (fun b hb => ?_)⟩
          · rw [eo]
            have h5 := RB_st hR hF (σ' := zA (zA σk (r + 1) j 3) (r + 3) j (nI (tk + 6 * mfar P j))) (Fr_A (Fr_A hR.1 (by omega) (by omega)) (by omega) (by omega)) (p := j) hjn 3 ((mcome P ks j C).2.1 j) (tk + 6 * mfar P j) (by rw [zA_2, if_neg (by omega), zA_2, if_pos ⟨rfl, rfl⟩]; rfl) (fun hh => by omega) (fun _ => by rw [zA_2, if_pos ⟨rfl, rfl⟩]) (fun k' x hk hx => by rw [zA_2, if_neg (by omega), zA_2, if_neg (by omega)]) rfl
            have hid : ∀ (f : Nat → Nat), fu f j (f j) = f := fun f => by
              funext q
              simp only [fu]
              split
              · next e => rw [e]
              · rfl
            refine RB_v h5 ?_ (fun p hp => ?_)
            · show _ = (fu (mcome P ks j C).2.1 j ((mcome P ks j C).2.1 j), fu (mcome P ks j C).2.2.1 j (tk + 6 * mfar P j), (mcome P ks j C).2.2.2)
              rw [hid]
              rfl
            · unfold stC vwC
              by_cases e : p = j
              · subst e
                simp [fu]
                omega
              · have : p < j + 1 ↔ p < j := by omega
                simp [fu, e, this]
          · rw [zA_2, if_neg (by omega), zA_2, if_neg (by omega), hW b hb, eo]
            congr 1
            refine (wsm_same (fun q => ?_) n).symm
            show (fu (mcome P ks j C).1 j 3 q = 2 ∧ (mcome P ks j C).2.1 q = b) ↔ _
            by_cases e : q = j
            · subst e
              simp [fu, hsj, hst0]
            · simp [fu, e]
      · exact ⟨fun _ => ⟨v30 (by omega), fun hh => absurd hh hct, fun _ => stay hct⟩, fun _ => stay hct⟩
  refine key n 0 σ (by omega) (RB_v h rfl (fun p hp => ?_)) hw
  unfold vwC
  show stC 0 (fun p => if p < 0 then _ else stC tk C p, C.2) p = _
  unfold stC
  simp
end SCOME

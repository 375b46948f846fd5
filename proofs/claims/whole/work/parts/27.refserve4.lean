/-- box b at floor f: out, then in -/
def mserve (P : Nat → Nat → Nat) (F S n left b : Nat) (C : mC) : mC :=
  if mslot F S C.2.2.2.2.2.2.2.2.1 b = F ∨ mslot F S C.2.2.2.2.2.2.2.2.1 b = 2 * F + 1 ∨ C.2.2.2.2.2.2.2.2.2.2.1 (mfl F (mslot F S C.2.2.2.2.2.2.2.2.1 b)) = true then C
  else mstepin P n left b (mfl F (mslot F S C.2.2.2.2.2.2.2.2.1 b)) (decide (mslot F S C.2.2.2.2.2.2.2.2.1 b < F)) (mout P left b (mfl F (mslot F S C.2.2.2.2.2.2.2.2.1 b)) (if mslot F S C.2.2.2.2.2.2.2.2.1 b < F then decide (mfl F (mslot F S C.2.2.2.2.2.2.2.2.1 b) = F - 1) else decide (mfl F (mslot F S C.2.2.2.2.2.2.2.2.1 b) = 0)) n C)
theorem mleave_rest (P : Nat → Nat → Nat) (C : mC) (p f : Nat) : (mleave P C p f).2.2.2.2.2.2 = C.2.2.2.2.2.2 := by unfold mleave; split <;> rfl
theorem mout_rest (P : Nat → Nat → Nat) (left b f : Nat) (e : Bool) : ∀ (k : Nat) (C : mC), (mout P left b f e k C).2.2.2.2.2.2 = C.2.2.2.2.2.2
  | 0, _ => rfl
  | k + 1, C => by
    unfold mout
    split
    · rw [mleave_rest, mout_rest P left b f e k C]
    · exact mout_rest P left b f e k C
theorem mstepin_rest (P : Nat → Nat → Nat) (n left b f : Nat) (up : Bool) (C : mC) : (mstepin P n left b f up C).2.2.2.2.2 = C.2.2.2.2.2 := by unfold mstepin; split <;> rfl
theorem mserve_rest (P : Nat → Nat → Nat) (F S n left b : Nat) (C : mC) : (mserve P F S n left b C).2.2.2.2.2.2 = C.2.2.2.2.2.2 := by
  unfold mserve
  split
  · rfl
  · rw [mstepin_rest, mout_rest]
theorem GC_serve {n F S : Nat} {P : Nat → Nat → Nat} {left b : Nat} {C : mC} (hS : 0 < S) (hb : b < 2 * F + 2) (h : GC n F C) : GC n F (mserve P F S n left b C) := by
  unfold mserve
  split
  · exact h
  · next hc =>
    have hf := mfl_lt (mslot_lt hS) (fun e => hc (Or.inl e)) (fun e => hc (Or.inr (Or.inl e)))
    exact GC_in hf hb (GC_out hf n C (Nat.le_refl n) h)
section RSRV4
variable {τ : zS} {F S W V n : Nat} {kk : Nat} {P : Nat → Nat → Nat} {m : Nat → Int32} {C : mC} {Q : Int32 → zS → Prop}
/-- of those that stand at f after k of them were asked to leave: a bit of the reference's word means that the floor is an end -/
def stepped (P : Nat → Nat → Nat) (k : Nat) (e : Bool) (C : mC) (x : Int32) : Prop := ∀ q, q < 30 → bt x q = true → q < k ∧ (C.1 q = 4 ∨ e = true)
theorem m_serves (hM : HM τ F S W V kk n P) (h : RM m n F C) (g : GC n F C) {b left : Nat} (hb : b < 2 * F + 2) (hmv : C.2.2.2.2.2.2.2.2.1 < 1000) (hleft : left < 1000) (k : ∀ m', RM m' n F (mserve P F S n left b C) → Q 0 (zm τ m')) : w_X7_serves (nI b) (nI left) (zm τ m) Q := by
  obtain ⟨a1, a2, a3, a4, a5, a6, a7, a8, a9⟩ := id hM
  have hF := a8.2.1
  have hn := a9.1
  have hS : 0 < S := by have := a8.2.2.1; omega
  have hs := mslot_lt (F := F) (S := S) (mv := C.2.2.2.2.2.2.2.2.1) (b := b) hS
  unfold mserve at k
  unfold w_X7_serves
  rw [mr_partOf hM h.2.2.2.1 hmv (by omega), mr_isAside hM (by omega)]
  generalize hsl : mslot F S C.2.2.2.2.2.2.2.2.1 b = s at k hs
  by_cases hA : s = F ∨ s = 2 * F + 1
  · have hA' : s = F ∨ s = 2 * F + 1 ∨ C.2.2.2.2.2.2.2.2.2.2.1 (mfl F s) = true := hA.imp id Or.inl
    rw [if_pos hA'] at k
    simp only [hA, decide_true, zB01, if_true]
    exact ⟨fun hh => absurd hh (by decide), fun _ => k m h⟩
  · have hs1 : s ≠ F := fun e => hA (Or.inl e)
    have hs2 : s ≠ 2 * F + 1 := fun e => hA (Or.inr e)
    have hf := mfl_lt hs hs1 hs2
    simp only [hA, decide_false, zB01, if_false]
    refine ⟨fun _ => ⟨vpc3, ?_⟩, fun hh => absurd rfl hh⟩
    rw [mr_floorOf hM hs hs1 hs2, cl3, zm_8, bt_tst (mfl F s) (by omega) (m 3), h.2.2.2.2.2.1 _ hf]
    generalize hfe : mfl F s = f at k hf ⊢
    cases hsh : C.2.2.2.2.2.2.2.2.2.2.1 f with
    | true =>
      rw [if_pos (Or.inr (Or.inr hsh))] at k
      exact ⟨fun _ => k m h, fun hh => absurd rfl hh⟩
    | false =>
      have hA' : ¬ (s = F ∨ s = 2 * F + 1 ∨ C.2.2.2.2.2.2.2.2.2.2.1 f = true) := by rw [hsh]; simp; exact ⟨hs1, hs2⟩
      rw [if_neg hA'] at k
      refine ⟨fun hh => absurd hh (by decide), fun _ => ?_⟩
      rw [mr_floorOf hM hs hs1 hs2, hfe, zm_1, a1, nI_leI (by omega) (by omega)]
      -- the first loop
      have loop : ∀ (up e : Bool), (if s < F then decide (f = F - 1) else decide (f = 0)) = e → decide (s < F) = up → ∀ d j (mk : Nat → Int32) (x7 : Int32), j + d = n → RM mk n F (mout P left b f e j C) → stepped P j e (mout P left b f e j C) x7 → w_X7_serves_L97 Q (d + 1) (nI b) (nI left) (nI f) (zB01 up) (zB01 e) x7 (nI j) (zm τ mk) := by
        intro up e he hup d
        rw [he, hup] at k
        induction d with
        | zero =>
          intro j mk x7 hj hR hst
          have ej : j = n := by omega
          subst ej
          rw [w_X7_serves_L97]
          refine ⟨fun _ => ?_, fun hh => absurd (by rw [zm_1, a6]; exact Int32.le_refl _) hh⟩
          have g' := GC_out (P := P) (left := left) (b := b) (e := e) hf j C (Nat.le_refl j) g
          refine m_widths hM hR g' (by omega) ⟨vp141 (by omega), ?_⟩
          rw [ix141 (by omega), zm_8]
          refine m_stepin hM hR g' (by omega) hf hleft up x7 (fun q hq hbt => ?_) k
          have hq1 := (g'.2.1 f hf).2 q hq
          have hq2 := hst q (by omega) hbt
          have hend : e = true := hq2.2.resolve_left (by rw [hq1.2.1]; decide)
          have hto := (a9.2 q hq1.1).2.2.1
          rw [hend] at he
          by_cases hsF : s < F
          · rw [if_pos hsF] at he
            have : up = true := by rw [← hup]; simp [hsF]
            rw [this]
            simp only [if_true]
            have := of_decide_eq_true he
            omega
          · rw [if_neg hsF] at he
            have : up = false := by rw [← hup]; simp [hsF]
            rw [this]
            have := of_decide_eq_true he
            simp only [Bool.false_eq_true, if_false]
            omega
        | succ d ih =>
          intro j mk x7 hj hR hst
          have hjn : j < n := by omega
          have g' := GC_out (P := P) (left := left) (b := b) (e := e) hf j C (by omega) g
          have hp := a9.2 j hjn
          rw [w_X7_serves_L97]
          refine ⟨fun hh => ?_, fun _ => ?_⟩
          · rw [zm_1, a6, nI_leI (by omega) (by omega)] at hh
            omega
          · rw [mr_rides (by omega) hR g' hF hjn (by omega)]
            have p4 : (zm τ mk).2 5 j = nI (P 4 j) := by rw [zm_n _ _ (by decide)]; exact a7 4 (by decide) j hjn
            have p2 : (zm τ mk).2 3 j = nI (P 2 j) := by rw [zm_n _ _ (by decide)]; exact a7 2 (by decide) j hjn
            have p5 : (zm τ mk).2 6 j = nI (P 5 j) := by rw [zm_n _ _ (by decide)]; exact a7 5 (by decide) j hjn
            have l1 : (nI left < nI (P 4 j)) ↔ left < P 4 j := nI_ltI (by omega) (by omega)
            have l2 : (nI (P 2 j) = nI f) ↔ P 2 j = f := nI_eq (by omega) (by omega)
            have l5 : (nI (P 5 j) = (1 : Int32)) ↔ P 5 j = 1 := by rw [show (1 : Int32) = nI 1 from rfl]; exact nI_eq (by omega) (by omega)
            simp only [zcl (show j < 30 by omega), p4, p2, p5, l1, l2, l5, zvi (show j < 30 by omega) (show 30 < 2 ^ 31 by decide), true_and]
            have enx : nI j + (1 : Int32) = nI (j + 1) := nI_1 j
            -- goes on
            have hstay : ¬ ((mout P left b f e j C).1 j = 2 ∧ (mout P left b f e j C).2.1 j = b ∧ P 4 j ≤ left ∧ (P 2 j = f ∨ (P 5 j = 1 ∧ e = true))) → w_X7_serves_J172 Q (fun a1 a2 a4 a5 a6 a7 a8 aσ => w_X7_serves_L97 Q (d + 1) a1 a2 a4 a5 a6 a7 a8 aσ) (nI b) (nI left) (nI f) (zB01 up) (zB01 e) x7 (nI j) (zm τ mk) := fun hc => by
              have eo : mout P left b f e (j + 1) C = mout P left b f e j C := by
                show (if _ then _ else _) = _
                rw [if_neg hc]
              unfold w_X7_serves_J172
              rw [enx]
              refine ih (j + 1) mk x7 (by omega) (by rw [eo]; exact hR) (fun q hq hbt => ?_)
              rw [eo]
              have := hst q hq hbt
              exact ⟨by omega, this.2⟩
            have hgo : ((mout P left b f e j C).1 j = 2 ∧ (mout P left b f e j C).2.1 j = b ∧ P 4 j ≤ left ∧ (P 2 j = f ∨ (P 5 j = 1 ∧ e = true))) → w_X7_serves_J155 Q (fun a1 a2 a4 a5 a6 a7 a8 aσ => w_X7_serves_L97 Q (d + 1) a1 a2 a4 a5 a6 a7 a8 aσ) (nI b) (nI left) (nI f) (zB01 up) (zB01 e) x7 (nI j) (zm τ mk) := fun hc => by
              have eo : mout P left b f e (j + 1) C = mleave P (mout P left b f e j C) j f := by
                show (if _ then _ else _) = _
                rw [if_pos hc]
              unfold w_X7_serves_J155
              refine m_leaves hM hR g' hjn hf hc.1 (fun m' hm' => ?_)
              unfold w_X7_serves_J172
              rw [enx]
              refine ih (j + 1) m' _ (by omega) (by rw [eo]; exact hm') (fun q hq hbt => ?_)
              rw [b_or, bt_shl j (by omega) (by omega)] at hbt
              rw [eo]
              by_cases hqj : q = j
              · subst hqj
                refine ⟨by omega, ?_⟩
                rcases hc.2.2.2 with h2 | h2
                · left
                  unfold mleave
                  rw [if_pos h2]
                  exact fu_s _ _ _
                · exact Or.inr h2.2
              · simp only [hqj, decide_false, Bool.or_false] at hbt
                have h9 := hst q hq hbt
                refine ⟨by omega, h9.2.imp (fun h4 => ?_) id⟩
                unfold mleave
                split
                · show fu _ j 4 q = 4
                  rw [fu_n _ _ hqj]
                  exact h4
                · show fu _ j 1 q = 4
                  rw [fu_n _ _ hqj]
                  exact h4
            by_cases hr : (mout P left b f e j C).1 j = 2 ∧ (mout P left b f e j C).2.1 j = b
            · simp only [hr, and_self, decide_true, zB01, if_true]
              refine ⟨fun hh => absurd hh (by decide), fun _ => ⟨fun c1 => hstay (by omega), fun c1 => ⟨fun c2 => hgo ⟨hr.1, hr.2, by omega, Or.inl c2⟩, fun c2 => ⟨fun c5 => ⟨fun c6 => hstay ?_, fun c6 => hgo ⟨hr.1, hr.2, by omega, Or.inr ⟨c5, ?_⟩⟩⟩, fun c5 => hstay (fun hh => ?_)⟩⟩⟩⟩
              · intro hh
                rcases hh.2.2.2 with h2 | h2
                · exact c2 h2
                · rw [h2.2] at c6
                  exact absurd c6 (by decide)
              · cases e with
                | true => rfl
                | false => exact absurd rfl c6
              · rcases hh.2.2.2 with h2 | h2
                · exact c2 h2
                · exact c5 h2.1
            · simp only [hr, decide_false, zB01]
              exact ⟨fun _ => hstay (fun hh => hr ⟨hh.1, hh.2.1⟩), fun hh => absurd rfl hh⟩
      have start : ∀ (up e : Bool), (if s < F then decide (f = F - 1) else decide (f = 0)) = e → decide (s < F) = up → w_X7_serves_J89 Q (nI b) (nI left) (nI f) (zB01 up) (zB01 e) (zm τ m) := fun up e he hup => ⟨n + 1, loop up e he hup n 0 m 0 (by omega) h (fun q hq hbt => by rw [b_0] at hbt; cases hbt)⟩
      unfold w_X7_serves_J53
      refine ⟨fun hh => ⟨fun _ => ?_, fun h0 => absurd rfl h0⟩, fun hh => ⟨fun h0 => absurd h0 (by decide), fun _ => ?_⟩⟩
      · have hsF : ¬ s < F := by omega
        have hup : decide (s < F) = false := by simp [hsF]
        rw [show (0 : Int32) = nI 0 from rfl, nI_eq (by omega) (by omega)]
        refine ⟨fun h0 => start false true (by rw [if_neg hsF]; simp [h0]) hup, fun h0 => start false false (by rw [if_neg hsF]; simp [h0]) hup⟩
      · have hsF : s < F := by omega
        have hup : decide (s < F) = true := by simp [hsF]
        rw [zm_1, a1, show (1 : Int32) = nI 1 from rfl, pk_sub (by omega), nI_eq (by omega) (by omega)]
        refine ⟨fun h0 => start true true (by rw [if_pos hsF]; simp [h0]) hup, fun h0 => start true false (by rw [if_pos hsF]; simp [h0]) hup⟩
end RSRV4

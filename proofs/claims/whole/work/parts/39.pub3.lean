/-! what a day costs one; about -/
def mcost (P : Nat → Nat → Nat) (T : Nat) (C : mC) (p : Nat) : Int32 := (if stC T C p = 4 ∧ C.2.2.1 p < 1000 then nI (C.2.2.1 p) else (1000 : Int32)) - nI (P 0 p)
section COST
variable {σ0 σ τ : zS} {r F S W V ks n T : Nat} {P : Nat → Nat → Nat} {C : mC} {m : Nat → Int32} {Q : Int32 → zS → Prop}
theorem st34 {p : Nat} (h : stC T C p = 4) : C.1 p = 3 ∨ C.1 p = 4 := by
  unfold stC at h
  split at h <;> omega
theorem s_costOf (hC : HC σ0 r F S W V ks n P) (h : RB σ0 σ r n F T C) (g : GC n F C) {p : Nat} (hp : p < n) : w_X0_costOf r (nI p) σ Q ↔ Q (mcost P T C p) σ := by
  have hn := hC.2.2.2.2.2.2.2.2.1.1
  have hp30 : p < 30 := by omega
  obtain ⟨q1, -, q3, -⟩ := h.2.1 p hp
  have hle := stC_le (T := T) g hp
  have hdn := (g.1 p hp).2.2.2
  have p0 : σ.2 2 p = nI (P 0 p) := (HC_fr hC h.1).2.2.2.2.2.2.1 0 (by decide) p hp
  unfold w_X0_costOf w_X0_costOf_J26 w_X0_costOf_J27 w_X0_costOf_J44 mcost
  simp only [c30 hp30, v30 hp30, true_and, q1, p0, show (4 : Int32) = nI 4 from rfl, nI_eq (show stC T C p < 2 ^ 31 by omega) (show 4 < 2 ^ 31 by decide)]
  by_cases c : stC T C p = 4
  · have hdn2 := hdn (st34 c)
    rw [q3 (st34 c), show (1000 : Int32) = nI 1000 from rfl, nI_leI (by decide) (by omega)]
    by_cases c2 : C.2.2.1 p < 1000
    · simp [c, c2, show ¬ 1000 ≤ C.2.2.1 p by omega]
    · simp [c, c2, show 1000 ≤ C.2.2.1 p by omega]
  · simp [c]
theorem mr_stateOf (hn : n ≤ 30) (h : RM m n F C) (g : GC n F C) {p : Nat} (hp : p < n) : w_X7_stateOf (nI p) (zm τ m) Q ↔ Q (nI (stC C.2.2.2.2.2.2.2.1 C p)) (zm τ m) := by
  have hp30 : p < 30 := by omega
  obtain ⟨q1, -, q3, -⟩ := h.1 p hp
  obtain ⟨g1, -, -, g4⟩ := g.1 p hp
  have htk := g.2.2
  unfold w_X7_stateOf stC
  simp only [ix5 hp30, vp5 hp30, ix65 hp30, vp65 hp30, cl0, vpc0, zm_8, true_and, q1, show (3 : Int32) = nI 3 from rfl, nI_eq (show C.1 p < 2 ^ 31 by omega) (show 3 < 2 ^ 31 by decide)]
  by_cases c : C.1 p = 3
  · have hdn2 := g4 (Or.inl c)
    rw [q3 (Or.inl c), h.2.2.1, nI_leI (by omega) (by omega)]
    by_cases c2 : C.2.2.1 p < C.2.2.2.2.2.2.2.1
    · simp [c, c2, show ¬ C.2.2.2.2.2.2.2.1 ≤ C.2.2.1 p by omega]
      rfl
    · simp [c, c2, show C.2.2.2.2.2.2.2.1 ≤ C.2.2.1 p by omega]
  · simp [c]
theorem mr_costOf (hM : HM τ F S W V ks n P) (h : RM m n F C) (g : GC n F C) {p : Nat} (hp : p < n) : w_X7_costOf (nI p) (zm τ m) Q ↔ Q (mcost P C.2.2.2.2.2.2.2.1 C p) (zm τ m) := by
  have hn := hM.2.2.2.2.2.2.2.2.1
  have hp30 : p < 30 := by omega
  obtain ⟨q1, -, q3, -⟩ := h.1 p hp
  obtain ⟨g1, -, -, g4⟩ := g.1 p hp
  have hle := stC_le (T := C.2.2.2.2.2.2.2.1) g hp
  have p0 : (zm τ m).2 1 p = nI (P 0 p) := by rw [zm_n _ _ (by decide)]; exact hM.2.2.2.2.2.2.1 0 (by decide) p hp
  unfold w_X7_costOf w_X7_costOf_J36 w_X7_costOf_J39 mcost
  rw [mr_stateOf hn h g hp]
  simp only [c30 hp30, v30 hp30, ix65 hp30, vp65 hp30, zm_8, true_and, p0, show (4 : Int32) = nI 4 from rfl, nI_eq (show stC C.2.2.2.2.2.2.2.1 C p < 2 ^ 31 by omega) (show 4 < 2 ^ 31 by decide)]
  by_cases c : stC C.2.2.2.2.2.2.2.1 C p = 4
  · have hdn2 := g4 (st34 c)
    rw [q3 (st34 c), show (1000 : Int32) = nI 1000 from rfl, nI_leI (by decide) (by omega)]
    by_cases c2 : C.2.2.1 p < 1000
    · simp [c, c2, show ¬ 1000 ≤ C.2.2.1 p by omega]
    · simp [c, c2, show 1000 ≤ C.2.2.1 p by omega]
  · simp [c]
end COST
theorem zin4 {x : Int32} : ¬ (x = 0) → ¬ (x = 1) → ¬ (x = 2) → ¬ (x = 3) → ¬ (x = 4) → ¬ ((0 : Int32) ≤ x ∧ x ≤ 4) := by
  intro h0 h1 h2 h3 h4 hh
  obtain ⟨v, v1, v2, rfl⟩ := zrng (a := 0) (b := 4) (by decide) (by decide) hh.1 hh.2
  have : v = 0 ∨ v = 1 ∨ v = 2 ∨ v = 3 ∨ v = 4 := by omega
  rcases this with rfl | rfl | rfl | rfl | rfl
  · exact h0 rfl
  · exact h1 rfl
  · exact h2 rfl
  · exact h3 rfl
  · exact h4 rfl
def vabout (P : Nat → Nat → Nat) (C : mC) (p : Nat) (x2 : Int32) : Int32 :=
  if x2 = 0 then nI (stC C.2.2.2.2.2.2.2.1 C p) else if x2 = 1 then (if stC C.2.2.2.2.2.2.2.1 C p = 4 then nI (P 2 p) else if stC C.2.2.2.2.2.2.2.1 C p = 1 ∨ stC C.2.2.2.2.2.2.2.1 C p = 2 then nI (C.2.1 p) else -4) else if x2 = 2 then (if stC C.2.2.2.2.2.2.2.1 C p = 4 then nI (C.2.2.1 p) else -4) else if x2 = 3 then C.2.2.2.2.2.2.1 p else if x2 = 4 then mcost P C.2.2.2.2.2.2.2.1 C p else -1
theorem st12 {T : Nat} {C : mC} {p : Nat} (h : stC T C p = 1 ∨ stC T C p = 2) : C.1 p = 1 ∨ C.1 p = 2 := by
  unfold stC at h
  split at h <;> omega
theorem s_about {σ0 σ : zS} {F S W V ks n : Nat} {P : Nat → Nat → Nat} {C : mC} {Q : Int32 → zS → Prop} (hC : HC σ0 10 F S W V ks n P) (hR : RB σ0 σ 10 n F C.2.2.2.2.2.2.2.1 C) (g : GC n F C) {p : Nat} (hp : p < n) (x2 : Int32) : w_X6_about (nI p) x2 σ Q ↔ Q (vabout P C p x2) σ := by
  have hn := hC.2.2.2.2.2.2.2.2.1.1
  have hp30 : p < 30 := by omega
  obtain ⟨q1, q2, q3, q4⟩ := hR.2.1 p hp
  have hle := stC_le (T := C.2.2.2.2.2.2.2.1) g hp
  have q1' : σ.2 (10 + 1) p = nI (stC C.2.2.2.2.2.2.2.1 C p) := q1
  have q4' : σ.2 (10 + 4) p = C.2.2.2.2.2.2.1 p := q4
  have p2 : σ.2 4 p = nI (P 2 p) := (HC_fr hC hR.1).2.2.2.2.2.2.1 2 (by decide) p hp
  have e4 : (nI (stC C.2.2.2.2.2.2.2.1 C p) = (4 : Int32)) ↔ stC C.2.2.2.2.2.2.2.1 C p = 4 := by rw [show (4 : Int32) = nI 4 from rfl]; exact nI_eq (by omega) (by decide)
  have e1 : (nI (stC C.2.2.2.2.2.2.2.1 C p) = (1 : Int32)) ↔ stC C.2.2.2.2.2.2.2.1 C p = 1 := by rw [show (1 : Int32) = nI 1 from rfl]; exact nI_eq (by omega) (by decide)
  have e2 : (nI (stC C.2.2.2.2.2.2.2.1 C p) = (2 : Int32)) ↔ stC C.2.2.2.2.2.2.2.1 C p = 2 := by rw [show (2 : Int32) = nI 2 from rfl]; exact nI_eq (by omega) (by decide)
  unfold w_X6_about w_X0_spot w_X0_spot_J40 vabout
  rw [s_within, s_costOf hC hR g hp]
  rw [(HC_fr hC hR.1).2.2.2.2.2.1, decide_eq_true (zrng1' (by omega) hp)]
  simp only [zB01_0, c30 hp30, v30 hp30, true_and, q1', q4', p2, e4, e1, e2]
  by_cases h0 : x2 = 0
  · simp [h0]
  by_cases h1 : x2 = 1
  · simp only [h1]
    by_cases c4 : stC C.2.2.2.2.2.2.2.1 C p = 4
    · simp [c4]
    · by_cases c12 : stC C.2.2.2.2.2.2.2.1 C p = 1 ∨ stC C.2.2.2.2.2.2.2.1 C p = 2
      · have : σ.2 (10 + 2) p = nI (C.2.1 p) := q2 (st12 c12)
        rcases c12 with c | c
        · simp [c, this]
        · simp [c, this]
      · have c1 : ¬ stC C.2.2.2.2.2.2.2.1 C p = 1 := fun e => c12 (Or.inl e)
        have c2 : ¬ stC C.2.2.2.2.2.2.2.1 C p = 2 := fun e => c12 (Or.inr e)
        simp [c4, c1, c2]
  by_cases h2 : x2 = 2
  · simp only [h2]
    by_cases c4 : stC C.2.2.2.2.2.2.2.1 C p = 4
    · have : σ.2 (10 + 3) p = nI (C.2.2.1 p) := q3 (st34 c4)
      simp [c4, this]
    · simp [c4]
  by_cases h3 : x2 = 3
  · simp [h3]
  by_cases h4 : x2 = 4
  · simp [h4]
  simp [h0, h1, h2, h3, h4]
theorem mr_about {τ : zS} {F S W V ks n : Nat} {P : Nat → Nat → Nat} {C : mC} {m : Nat → Int32} {Q : Int32 → zS → Prop} (hM : HM τ F S W V ks n P) (hR : RM m n F C) (g : GC n F C) {p : Nat} (hp : p < n) (x2 : Int32) : w_X7_about (nI p) x2 (zm τ m) Q ↔ Q (vabout P C p x2) (zm τ m) := by
  have hn := hM.2.2.2.2.2.2.2.2.1
  have hp30 : p < 30 := by omega
  obtain ⟨q1, q2, q3, q4⟩ := hR.1 p hp
  have hle := stC_le (T := C.2.2.2.2.2.2.2.1) g hp
  have p2 : (zm τ m).2 3 p = nI (P 2 p) := by rw [zm_n _ _ (by decide)]; exact hM.2.2.2.2.2.2.1 2 (by decide) p hp
  have e4 : (nI (stC C.2.2.2.2.2.2.2.1 C p) = (4 : Int32)) ↔ stC C.2.2.2.2.2.2.2.1 C p = 4 := by rw [show (4 : Int32) = nI 4 from rfl]; exact nI_eq (by omega) (by decide)
  have e1 : (nI (stC C.2.2.2.2.2.2.2.1 C p) = (1 : Int32)) ↔ stC C.2.2.2.2.2.2.2.1 C p = 1 := by rw [show (1 : Int32) = nI 1 from rfl]; exact nI_eq (by omega) (by decide)
  have e2 : (nI (stC C.2.2.2.2.2.2.2.1 C p) = (2 : Int32)) ↔ stC C.2.2.2.2.2.2.2.1 C p = 2 := by rw [show (2 : Int32) = nI 2 from rfl]; exact nI_eq (by omega) (by decide)
  unfold w_X7_about w_X7_about_J82 vabout
  rw [r_isPerson, r_in, mr_stateOf hn hR g hp, mr_costOf hM hR g hp]
  rw [zm_1, hM.2.2.2.2.2.1, decide_eq_true (zrng1' (by omega) hp)]
  simp only [zB01_0, c30 hp30, v30 hp30, ix35 hp30, vp35 hp30, ix65 hp30, vp65 hp30, ix95 hp30, vp95 hp30, zm_8, true_and, q4, p2, e4, e1, e2]
  by_cases h0 : x2 = 0
  · have : ((0 : Int32) ≤ 0 ∧ (0 : Int32) ≤ 4) := by decide
    simp [h0, this]
  by_cases h1 : x2 = 1
  · have h9 : ((0 : Int32) ≤ 1 ∧ (1 : Int32) ≤ 4) := by decide
    simp only [h1]
    by_cases c4 : stC C.2.2.2.2.2.2.2.1 C p = 4
    · simp [c4, h9]
    · by_cases c12 : stC C.2.2.2.2.2.2.2.1 C p = 1 ∨ stC C.2.2.2.2.2.2.2.1 C p = 2
      · have := q2 (st12 c12)
        rcases c12 with c | c
        · simp [c, this, h9]
        · simp [c, this, h9]
      · have c1 : ¬ stC C.2.2.2.2.2.2.2.1 C p = 1 := fun e => c12 (Or.inl e)
        have c2 : ¬ stC C.2.2.2.2.2.2.2.1 C p = 2 := fun e => c12 (Or.inr e)
        simp [c4, c1, c2, h9]
  by_cases h2 : x2 = 2
  · have h9 : ((0 : Int32) ≤ 2 ∧ (2 : Int32) ≤ 4) := by decide
    simp only [h2]
    by_cases c4 : stC C.2.2.2.2.2.2.2.1 C p = 4
    · have := q3 (st34 c4)
      simp [c4, this, h9]
    · simp [c4, h9]
  by_cases h3 : x2 = 3
  · have h9 : ((0 : Int32) ≤ 3 ∧ (3 : Int32) ≤ 4) := by decide
    simp [h3, h9]
  by_cases h4 : x2 = 4
  · have h9 : ((0 : Int32) ≤ 4 ∧ (4 : Int32) ≤ 4) := by decide
    simp [h4, h9]
  have h9 := zin4 h0 h1 h2 h3 h4
  rw [decide_eq_false h9]
  simp [h0, h1, h2, h3, h4]
theorem st_about : zStep_about Inv := by
  intro σ τ hI x1 x2
  obtain ⟨F, S, W, V, n, K, P, C, m, τ0, rfl, hC, hM, hR, hW, hRM, hG, ht, hK⟩ := id hI
  have hn := hM.2.2.2.2.2.2.2.2.1
  by_cases hc : (0 : Int32) ≤ x1 ∧ x1 ≤ nI n - 1
  · obtain ⟨p, hp, rfl⟩ := zrng1 (by omega) hc.1 hc.2
    rw [s_about hC hR hG.1 hp]
    show w_X7_about (nI p) x2 (zm τ0 m) _
    rw [mr_about hM hRM hG.1 hp]
    exact ⟨rfl, hI⟩
  · unfold w_X6_about
    rw [s_within, hC.2.2.2.2.2.1]
    refine zNo hc ?_
    show w_X7_about x1 x2 (zm τ0 m) _
    unfold w_X7_about
    rw [r_isPerson, zm_1, hM.2.2.2.2.2.1]
    exact zNo hc ⟨rfl, hI⟩

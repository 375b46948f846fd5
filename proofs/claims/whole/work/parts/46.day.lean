/-! A DAY: when all are done, later ticks change nothing that is asked -/
def mad (n : Nat) (C : mC) : Prop := ∀ p, p < n → stC C.2.2.2.2.2.2.2.1 C p = 4
theorem mlg_pos {C : mC} (h : (0 : Int32) ≤ C.2.2.2.2.2.2.2.2.2.2.2) : ∀ f, (0 : Int32) ≤ mlg C f
  | 0 => h
  | f + 1 => by
    have ih := mlg_pos h f
    show (0 : Int32) ≤ (if nI (C.2.2.2.1 f).length ≤ mlg C f then mlg C f else nI (C.2.2.2.1 f).length)
    split
    · exact ih
    · next hc => exact Int32.le_trans ih (Int32.le_of_lt (Int32.not_le.mp hc))
theorem mlg_nil {C : mC} (h : (0 : Int32) ≤ C.2.2.2.2.2.2.2.2.2.2.2) : ∀ f, (∀ g, g < f → C.2.2.2.1 g = []) → mlg C f = C.2.2.2.2.2.2.2.2.2.2.2
  | 0, _ => rfl
  | f + 1, hl => by
    have ih := mlg_nil h f (fun g hg => hl g (by omega))
    show (if nI (C.2.2.2.1 f).length ≤ mlg C f then mlg C f else nI (C.2.2.2.1 f).length) = _
    rw [hl f (by omega), ih]
    exact if_pos h
theorem mout_id {P : Nat → Nat → Nat} {left b f n : Nat} {e : Bool} {C : mC} (h : ∀ p, p < n → C.1 p ≠ 2) : ∀ k, k ≤ n → mout P left b f e k C = C
  | 0, _ => rfl
  | k + 1, hk => by
    unfold mout
    rw [mout_id h k (by omega), if_neg (fun hh => h k (by omega) hh.1)]
theorem mserve_id {P : Nat → Nat → Nat} {F S n left b : Nat} {C : mC} (hS : 0 < S) (h : ∀ p, p < n → C.1 p ≠ 2) (hl : ∀ f, f < F → C.2.2.2.1 f = []) : mserve P F S n left b C = C := by
  unfold mserve
  split
  · rfl
  · next hc =>
    have hf := mfl_lt (mslot_lt hS) (fun e => hc (Or.inl e)) (fun e => hc (Or.inr (Or.inl e)))
    rw [mout_id h n (Nat.le_refl n)]
    unfold mstepin
    rw [hl _ hf]
    rfl
theorem mserves_id {P : Nat → Nat → Nat} {F S n left : Nat} {C : mC} (hS : 0 < S) (h : ∀ p, p < n → C.1 p ≠ 2) (hl : ∀ f, f < F → C.2.2.2.1 f = []) : ∀ b, mserves P F S n left b C = C
  | 0 => rfl
  | b + 1 => by
    show mserve P F S n left b (mserves P F S n left b C) = C
    rw [mserves_id hS h hl b, mserve_id hS h hl]
theorem mcome_id {P : Nat → Nat → Nat} {ks n : Nat} {C : mC} (h : ∀ p, p < n → P 0 p ≠ C.2.2.2.2.2.2.2.1) : ∀ k, k ≤ n → mcome P ks k C = C
  | 0, _ => rfl
  | k + 1, hk => by
    unfold mcome
    rw [if_neg (h k (by omega)), mcome_id h k (by omega)]
theorem mad_st {n : Nat} {C : mC} (h : mad n C) {p : Nat} (hp : p < n) : C.1 p = 3 ∨ C.1 p = 4 := st34 (h p hp)
theorem mad_tick {P : Nat → Nat → Nat} {F S W V ks n : Nat} {C : mC} (hS : 0 < S) (g : GT P F S n C) (hl : (0 : Int32) ≤ C.2.2.2.2.2.2.2.2.2.2.2) (h : mad n C) : (∀ p, p < n → (mtick P F S W V ks n C).1 p = C.1 p ∧ (mtick P F S W V ks n C).2.2.1 p = C.2.2.1 p ∧ (mtick P F S W V ks n C).2.2.2.2.2.2.1 p = C.2.2.2.2.2.2.1 p) ∧ (mtick P F S W V ks n C).2.2.2.2.2.2.2.2.2.2.2 = C.2.2.2.2.2.2.2.2.2.2.2 := by
  have e1 : (mgo F S V C).1 = C.1 := by unfold mgo; split <;> rfl
  have e2 : (mgo F S V C).2.2.1 = C.2.2.1 := by unfold mgo; split <;> rfl
  have e3 : (mgo F S V C).2.2.2.1 = C.2.2.2.1 := by unfold mgo; split <;> rfl
  have e4 : (mgo F S V C).2.2.2.2.2.2.2.1 = C.2.2.2.2.2.2.2.1 := by unfold mgo; split <;> rfl
  have e5 : (mgo F S V C).2.2.2.2.2.2.2.2.2.2.2 = C.2.2.2.2.2.2.2.2.2.2.2 := by unfold mgo; split <;> rfl
  have e6 : ∀ p, p < n → (mgo F S V C).2.2.2.2.2.2.1 p = C.2.2.2.2.2.2.1 p := fun p hp => by
    unfold mgo
    split
    · rfl
    · show (if C.1 p = 2 ∧ _ ∧ _ then _ else _) = _
      rw [if_neg (fun hh => by have := mad_st h hp; omega)]
  have hln : ∀ f, f < F → C.2.2.2.1 f = [] := fun f hf => by
    refine List.eq_nil_iff_forall_not_mem.mpr (fun q hq => ?_)
    have h1 := (g.1.2.1 f hf).2 q hq
    have := mad_st h h1.1
    omega
  have h2 : ∀ p, p < n → (mgo F S V C).1 p ≠ 2 := fun p hp hh => by
    rw [e1] at hh
    have := mad_st h hp
    omega
  have hz : ∀ p, p < n → P 0 p ≠ (mgo F S V C).2.2.2.2.2.2.2.1 := fun p hp hh => by
    rw [e4] at hh
    have h3 := g.2.1 p hp (by omega)
    have := mad_st h hp
    omega
  have et : mtick P F S W V ks n C = mend F (mgo F S V C) := by
    unfold mtick
    rw [mcome_id hz n (Nat.le_refl n), mserves_id hS h2 (fun f hf => by rw [e3]; exact hln f hf)]
  rw [et]
  refine ⟨fun p hp => ⟨?_, ?_, e6 p hp⟩, ?_⟩
  · show (mgo F S V C).1 p = _
    rw [e1]
  · show (mgo F S V C).2.2.1 p = _
    rw [e2]
  · show mlg (mgo F S V C) F = _
    rw [mlg_nil (by rw [e5]; exact hl) F (fun f hf => by rw [e3]; exact hln f hf), e5]
theorem mtick_lg {P : Nat → Nat → Nat} {F S W V ks n : Nat} {C : mC} (hl : (0 : Int32) ≤ C.2.2.2.2.2.2.2.2.2.2.2) : (0 : Int32) ≤ (mtick P F S W V ks n C).2.2.2.2.2.2.2.2.2.2.2 := by
  have e5 : (mgo F S V C).2.2.2.2.2.2.2.2.2.2.2 = C.2.2.2.2.2.2.2.2.2.2.2 := by unfold mgo; split <;> rfl
  unfold mtick
  show (0 : Int32) ≤ mlg _ F
  refine mlg_pos ?_ F
  rw [mserves_rest, mcome_rest, e5]
  exact hl
theorem mticks_lg {P : Nat → Nat → Nat} {F S W V ks n : Nat} : ∀ k, (0 : Int32) ≤ (mticks P F S W V ks n k C00).2.2.2.2.2.2.2.2.2.2.2
  | 0 => Int32.le_refl _
  | k + 1 => mtick_lg (mticks_lg k)
/-- what is asked of a day -/
def mday (P : Nat → Nat → Nat) (F S W V ks n : Nat) : mC := mticks P F S W V ks n 1000 C00
def DD (P : Nat → Nat → Nat) (n : Nat) (C D : mC) : Prop := (∀ p, p < n → mcost P C.2.2.2.2.2.2.2.1 C p = mcost P D.2.2.2.2.2.2.2.1 D p ∧ stC C.2.2.2.2.2.2.2.1 C p = stC D.2.2.2.2.2.2.2.1 D p ∧ C.2.2.2.2.2.2.1 p = D.2.2.2.2.2.2.1 p) ∧ C.2.2.2.2.2.2.2.2.2.2.2 = D.2.2.2.2.2.2.2.2.2.2.2
theorem mad_ticks {P : Nat → Nat → Nat} {F S W V ks n j : Nat} (hH : GH F S W V) (hP : GP n F P) (h : mad n (mticks P F S W V ks n j C00)) : ∀ d, j + d ≤ 1000 → mad n (mticks P F S W V ks n (j + d) C00) ∧ DD P n (mticks P F S W V ks n j C00) (mticks P F S W V ks n (j + d) C00)
  | 0, _ => ⟨h, fun _ _ => ⟨rfl, rfl, rfl⟩, rfl⟩
  | d + 1, hd => by
    obtain ⟨ih, i1, i2⟩ := mad_ticks hH hP h d (by omega)
    have hS : 0 < S := by have := hH.2.2.1; omega
    have hG := GT_ticks (P := P) (ks := ks) hH hP (GT_00 (P := P) (F := F) (n := n) hS) (j + d) (by show 0 + (j + d) < 90000; omega)
    obtain ⟨a1, a2⟩ := mad_tick (W := W) (V := V) (ks := ks) hS hG (mticks_lg (j + d)) ih
    have et : mticks P F S W V ks n (j + (d + 1)) C00 = mtick P F S W V ks n (mticks P F S W V ks n (j + d) C00) := rfl
    have ek : (mtick P F S W V ks n (mticks P F S W V ks n (j + d) C00)).2.2.2.2.2.2.2.1 = (mticks P F S W V ks n (j + d) C00).2.2.2.2.2.2.2.1 + 1 := mtick_tk
    rw [et]
    generalize mtick P F S W V ks n (mticks P F S W V ks n (j + d) C00) = D at *
    generalize mticks P F S W V ks n (j + d) C00 = C at *
    have hm : mad n D := fun p hp => by
      obtain ⟨b1, b2, b3⟩ := a1 p hp
      have := ih p hp
      unfold stC at this ⊢
      rw [b1, b2, ek]
      split at this
      · next hc => rw [if_pos ⟨hc.1, by omega⟩]
      · rw [this]
        split <;> rfl
    refine ⟨hm, fun p hp => ?_, by rw [i2, a2]⟩
    obtain ⟨b1, b2, b3⟩ := a1 p hp
    obtain ⟨c1, c2, c3⟩ := i1 p hp
    refine ⟨?_, by rw [c2, ih p hp, hm p hp], by rw [c3, b3]⟩
    rw [c1]
    unfold mcost
    rw [ih p hp, hm p hp, b2]
theorem mad_day {P : Nat → Nat → Nat} {F S W V ks n j : Nat} (hH : GH F S W V) (hP : GP n F P) (hj : j ≤ 1000) (h : mad n (mticks P F S W V ks n j C00)) : DD P n (mticks P F S W V ks n j C00) (mday P F S W V ks n) := by
  have := (mad_ticks hH hP h (1000 - j) (by omega)).2
  rw [show j + (1000 - j) = 1000 by omega] at this
  exact this
def mcs (c : Nat → Int32) : Nat → Int32
  | 0 => 0
  | k + 1 => mcs c k + c k
def mdc (P : Nat → Nat → Nat) (D : mC) (p : Nat) : Int32 := mcost P D.2.2.2.2.2.2.2.1 D p

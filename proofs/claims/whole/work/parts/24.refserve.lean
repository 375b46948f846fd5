/-! where a box is -/
def mslot (F S mv b : Nat) : Nat := (b * S + mv) % ((2 * F + 2) * S) / S
def mfl (F s : Nat) : Nat := if s < F then s else 2 * F - s
theorem mslot_lt {F S mv b : Nat} (hS : 0 < S) : mslot F S mv b < 2 * F + 2 := by
  unfold mslot
  have h : (b * S + mv) % ((2 * F + 2) * S) < (2 * F + 2) * S := Nat.mod_lt _ (Nat.mul_pos (by omega) hS)
  exact (Nat.div_lt_iff_lt_mul hS).mpr h
theorem mfl_lt {F s : Nat} (h1 : s < 2 * F + 2) (h2 : s ≠ F) (h3 : s ≠ 2 * F + 1) : mfl F s < F := by unfold mfl; split <;> omega
/-- ticks left at phase mv mod S -/
def mleft (S W V mv : Nat) : Nat := if mv % S < W then (W - mv % S + V - 1) / V else 0
section RSRV
variable {τ : zS} {F S W V n : Nat} {kk : Nat} {P : Nat → Nat → Nat} {m : Nat → Int32} {C : mC} {Q : Int32 → zS → Prop}
theorem mul_small {F S b : Nat} (hF : F ≤ 8) (hS : S ≤ 12) (hb : b < 100) : b * S < 1200 ∧ (2 * F + 2) * S ≤ 216 := by
  constructor
  · calc b * S ≤ b * 12 := Nat.mul_le_mul_left _ hS
      _ < 1200 := by omega
  · calc (2 * F + 2) * S ≤ (2 * F + 2) * 12 := Nat.mul_le_mul_left _ hS
      _ ≤ 216 := by omega
theorem mr_placeOf (hM : HM τ F S W V kk n P) {mv b : Nat} (h1 : m 1 = nI mv) (hmv : mv < 1000) (hb : b < 100) : w_X7_placeOf (nI b) (zm τ m) Q ↔ Q (nI ((b * S + mv) % ((2 * F + 2) * S))) (zm τ m) := by
  obtain ⟨a1, a2, a3, a4, a5, a6, a7, a8, a9⟩ := id hM
  obtain ⟨c1, c2, c3, c4, -⟩ := a8
  obtain ⟨d1, d2⟩ := mul_small (b := b) c2 c4 hb
  have d3 : 0 < (2 * F + 2) * S := Nat.mul_pos (by omega) (by omega)
  unfold w_X7_placeOf
  rw [r_boxes]
  simp only [vpc1, cl1, zm_1, zm_8, true_and, a1, a2, h1]
  have eL : ((2 : Int32) * nI F + 2) * nI S = nI ((2 * F + 2) * S) := by rw [show (2 : Int32) = nI 2 from rfl, pk_mul, nI_add, pk_mul]
  rw [eL]
  have eN : nI b * nI S + nI mv = nI (b * S + mv) := by rw [pk_mul, nI_add]
  rw [eN, pk_rem (by omega) d3 (by omega)]
  simp [nI_ne0 d3 (by omega)]
theorem mr_partOf (hM : HM τ F S W V kk n P) {mv b : Nat} (h1 : m 1 = nI mv) (hmv : mv < 1000) (hb : b < 100) : w_X7_partOf (nI b) (zm τ m) Q ↔ Q (nI (mslot F S mv b)) (zm τ m) := by
  obtain ⟨a1, a2, a3, a4, a5, a6, a7, a8, a9⟩ := id hM
  obtain ⟨c1, c2, c3, c4, -⟩ := a8
  obtain ⟨d1, d2⟩ := mul_small (b := b) c2 c4 hb
  have d3 : 0 < (2 * F + 2) * S := Nat.mul_pos (by omega) (by omega)
  have d4 : (b * S + mv) % ((2 * F + 2) * S) < (2 * F + 2) * S := Nat.mod_lt _ d3
  unfold w_X7_partOf
  rw [mr_placeOf hM h1 hmv hb]
  simp only [zm_1, a2]
  rw [pk_div (by omega) (by omega) (by omega)]
  simp [nI_ne0 (show 0 < S by omega) (by omega), mslot]
theorem mr_isAside (hM : HM τ F S W V kk n P) {s : Nat} (hs : s < 100) : w_X7_isAside (nI s) (zm τ m) Q ↔ Q (zB01 (decide (s = F ∨ s = 2 * F + 1))) (zm τ m) := by
  obtain ⟨a1, a2, a3, a4, a5, a6, a7, a8, a9⟩ := id hM
  have hF := a8.2.1
  rw [r_isAside, zm_1, a1]
  have e2 : (2 : Int32) * nI F + 1 = nI (2 * F + 1) := by rw [show (2 : Int32) = nI 2 from rfl, pk_mul, nI_1]
  simp only [e2, nI_eq (show s < 2 ^ 31 by omega) (show F < 2 ^ 31 by omega), nI_eq (show s < 2 ^ 31 by omega) (show 2 * F + 1 < 2 ^ 31 by omega)]
theorem mr_floorOf (hM : HM τ F S W V kk n P) {s : Nat} (hs : s < 2 * F + 2) (h2 : s ≠ F) (h3 : s ≠ 2 * F + 1) : w_X7_floorOf (nI s) (zm τ m) Q ↔ Q (nI (mfl F s)) (zm τ m) := by
  obtain ⟨a1, a2, a3, a4, a5, a6, a7, a8, a9⟩ := id hM
  have hF := a8.2.1
  rw [r_floorOf, zm_1, a1]
  have e2 : (2 : Int32) * nI F - nI s = nI (2 * F - s) := by rw [show (2 : Int32) = nI 2 from rfl, pk_mul, pk_sub (by omega)]
  rw [e2]
  unfold mfl
  by_cases h : s < F
  · rw [if_pos h, if_neg (by rw [nI_leI (by omega) (by omega)]; omega)]
  · rw [if_neg h, if_pos (by rw [nI_leI (by omega) (by omega)]; omega)]
theorem mr_leftOf (hM : HM τ F S W V kk n P) {mv : Nat} (hmv : mv < 1000) : w_X7_leftOf (nI mv) (zm τ m) Q ↔ Q (nI (mleft S W V mv)) (zm τ m) := by
  obtain ⟨a1, a2, a3, a4, a5, a6, a7, a8, a9⟩ := id hM
  obtain ⟨c1, c2, c3, c4, c5, c6, c7, c8, c9⟩ := a8
  have d1 : mv % S < S := Nat.mod_lt _ (by omega)
  unfold w_X7_leftOf
  simp only [zm_1, a2, a3, a4]
  rw [pk_rem (by omega) (by omega) (by omega)]
  have e1 := nI_ne0 (show 0 < S by omega) (by omega)
  have e2 := nI_ne0 (show 0 < V by omega) (by omega)
  simp only [e1, e2, not_false_eq_true, true_and]
  rw [nI_leI (by omega) (by omega)]
  unfold mleft
  by_cases h : mv % S < W
  · simp only [h, if_true, Nat.not_le.mpr h, false_implies, not_false_eq_true, true_implies, true_and]
    rw [pk_sub (by omega), nI_add, show (1 : Int32) = nI 1 from rfl, pk_sub (by omega), pk_div (by omega) (by omega) (by omega)]
  · simp only [h, if_false, Nat.not_lt.mp h, true_implies, not_true_eq_false, false_implies, and_true]
    rfl
end RSRV
/-! stepping out and in, as sums -/
/-- those among the first k that leave box b at f -/
def mout (P : Nat → Nat → Nat) (left b f : Nat) (e : Bool) : Nat → mC → mC
  | 0, C => C
  | k + 1, C => if (mout P left b f e k C).1 k = 2 ∧ (mout P left b f e k C).2.1 k = b ∧ P 4 k ≤ left ∧ (P 2 k = f ∨ (P 5 k = 1 ∧ e = true)) then mleave P (mout P left b f e k C) k f else mout P left b f e k C
def mpred (P : Nat → Nat → Nat) (left ws f : Nat) (up : Bool) (p : Nat) : Bool := decide (P 4 p ≤ left ∧ ws + P 3 p ≤ 4 ∧ (if up then f < P 2 p else P 2 p < f))
def mstepin (P : Nat → Nat → Nat) (n left b f : Nat) (up : Bool) (C : mC) : mC := match (C.2.2.2.1 f).findIdx? (mpred P left (wsm P C b n) f up) with
  | none => C
  | some i => mtake C b f i ((C.2.2.2.1 f).getD i 0)
theorem GC_out {n F : Nat} {P : Nat → Nat → Nat} {left b f : Nat} {e : Bool} (hf : f < F) : ∀ (k : Nat) (C : mC), k ≤ n → GC n F C → GC n F (mout P left b f e k C)
  | 0, _, _, h => h
  | k + 1, C, hk, h => by
    have h1 := GC_out (P := P) (left := left) (b := b) (e := e) hf k C (by omega) h
    unfold mout
    split
    · next hc => exact GC_leave h1 hf (by omega) hc.1
    · exact h1
theorem GC_in {n F : Nat} {P : Nat → Nat → Nat} {left b f : Nat} {up : Bool} {C : mC} (hf : f < F) (hb : b < 2 * F + 2) (h : GC n F C) : GC n F (mstepin P n left b f up C) := by
  unfold mstepin
  split
  · exact h
  · next i hi =>
    obtain ⟨hl, -⟩ := List.findIdx?_eq_some_iff_getElem.mp hi
    refine GC_take h hf hb ?_
    rw [List.getD_eq_getElem?_getD, List.getElem?_eq_getElem hl]
    rfl

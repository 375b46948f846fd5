/-! THE CHAIN TURNED BY HAND, BOTH WAYS -/
theorem pk_divn {a d : Nat} (ha : a < 2 ^ 30) (h0 : 0 < d) (hd : d < 2 ^ 30) : ((0 : Int32) - nI a) / nI d = 0 - nI (a / d) := by
  have hq : a / d ≤ a := Nat.div_le_self a d
  apply Int32.toInt_inj.mp
  rw [Int32.toInt_div, show (0 : Int32) = nI 0 from rfl, pk_sub_toInt (by decide) ha, pk_sub_toInt (by decide) (by omega), nI_toInt (by omega)]
  rw [show ((0 : Nat) : Int) - (a : Int) = -(a : Int) by omega, Int.neg_tdiv, ← Int.ofNat_tdiv]
  generalize a / d = q at *
  rw [Int.bmod_eq_of_le (by omega) (by omega)]
  omega
theorem rg1 (q d r : Int32) : 0 - (q * d + r) - (0 - q) * d = 0 - r := by grind
theorem rg2 (a b : Int32) : a + (0 - b) = a - b := by grind
theorem rg3 (a b : Int32) : a + (0 - (b + a)) = 0 - b := by grind
theorem rg4 (a b : Int32) : 0 - a + b = b - a := by grind
theorem pk_remn {a d : Nat} (ha : a < 2 ^ 30) (h0 : 0 < d) (hd : d < 2 ^ 30) : ((0 : Int32) - nI a) - (0 - nI a) / nI d * nI d = 0 - nI (a % d) := by
  rw [pk_divn ha h0 hd]
  have e : nI a = nI (a / d) * nI d + nI (a % d) := by
    rw [pk_mul, nI_add, Nat.div_add_mod']
  rw [show (0 : Int32) - nI a = 0 - (nI (a / d) * nI d + nI (a % d)) from congrArg _ e]
  exact rg1 _ _ _
theorem xor_neg {a b : Nat} (ha0 : 1 ≤ a) (ha : a < 2 ^ 30) (hb : b < 2 ^ 31) : ¬ (0 : Int32) ≤ (((0 : Int32) - nI a) ^^^ nI b) := by
  have hm : (nI b).toBitVec.msb = false := by
    have h1 : (0 : Int) ≤ (nI b).toInt := by rw [nI_toInt hb]; omega
    have h2 : (nI b).toInt = (nI b).toBitVec.toInt := rfl
    rw [h2, BitVec.toInt_eq_msb_cond] at h1
    cases hc : (nI b).toBitVec.msb with
    | false => rfl
    | true =>
      rw [hc] at h1
      have := (nI b).toBitVec.isLt
      simp at h1
      omega
  have hn : ((0 : Int32) - nI a).toBitVec.msb = true := by
    have h1 : ((0 : Int32) - nI a).toInt < 0 := by
      rw [show (0 : Int32) = nI 0 from rfl, pk_sub_toInt (by decide) ha]
      omega
    have h2 : ((0 : Int32) - nI a).toInt = ((0 : Int32) - nI a).toBitVec.toInt := rfl
    rw [h2, BitVec.toInt_eq_msb_cond] at h1
    cases hc : ((0 : Int32) - nI a).toBitVec.msb with
    | true => rfl
    | false =>
      rw [hc] at h1
      simp only [Bool.false_eq_true, if_false] at h1
      omega
  have h3 : (((0 : Int32) - nI a) ^^^ nI b).toBitVec.msb = true := by rw [Int32.toBitVec_xor, BitVec.msb_xor, hm, hn]; rfl
  intro hh
  rw [sle] at hh
  have h4 : (0 : Int) ≤ (((0 : Int32) - nI a) ^^^ nI b).toBitVec.toInt := hh
  rw [BitVec.toInt_eq_msb_cond, h3] at h4
  have := (((0 : Int32) - nI a) ^^^ nI b).toBitVec.isLt
  simp only [if_true] at h4
  omega
/-- by how much x turns a chain of length L, as a number forth -/
def isD (L : Nat) (x : Int32) (D : Nat) : Prop := ∃ y, y ≤ 100 ∧ ((x = nI y ∧ D = y) ∨ (x = 0 - nI y ∧ D = 100 * L - y))
section WRP
variable {L c D : Nat} {x : Int32}
theorem wr_core (hD : isD L x D) (hc : c < L) (hL : 2 ≤ L) (hL2 : L < 1000) : (∃ a, a < 2000 ∧ nI c + x = nI a ∧ a % L = (c + D) % L) ∨ (∃ a, 1 ≤ a ∧ a ≤ 100 ∧ nI c + x = 0 - nI a ∧ (c + D) % L = (L - a % L) % L) := by
  obtain ⟨y, hy, ⟨rfl, rfl⟩ | ⟨rfl, rfl⟩⟩ := hD
  · exact Or.inl ⟨c + D, by omega, nI_add _ _, rfl⟩
  · by_cases h : y ≤ c
    · refine Or.inl ⟨c - y, by omega, by rw [rg2, pk_sub h], ?_⟩
      rw [show c + (100 * L - y) = (c - y) + L * 100 by omega, Nat.add_mul_mod_self_left]
    · refine Or.inr ⟨y - c, by omega, by omega, ?_, ?_⟩
      · have e : nI y = nI (y - c) + nI c := by
          rw [nI_add]
          congr 1
          omega
        rw [e, rg3]
      · have h1 := Nat.div_add_mod (y - c) L
        have h2 : (y - c) / L ≤ 50 := by
          have : (y - c) / L ≤ (y - c) / 2 := Nat.div_le_div_left hL (by decide)
          omega
        have h3 : (y - c) % L < L := Nat.mod_lt _ (by omega)
        have h4 : L * (99 - (y - c) / L) = L * 99 - L * ((y - c) / L) := Nat.mul_sub L 99 _
        rw [show c + (100 * L - y) = L * (99 - (y - c) / L) + (L - (y - c) % L) by omega, Nat.mul_add_mod]
theorem wr_floorMod (hD : isD L x D) (hc : c < L) (hL : 2 ≤ L) (hL2 : L < 1000) {σ : zS} {Q : Int32 → zS → Prop} : w_J9_floorMod_7cf53 (nI c + x) (nI L) σ Q ↔ Q (nI ((c + D) % L)) σ := by
  rcases wr_core hD hc hL hL2 with ⟨a, ha, e, em⟩ | ⟨a, ha, ha2, e, em⟩
  · rw [e, s_floorMod (by omega) (by omega) (by omega), em]
  · unfold w_J9_floorMod_7cf53
    have hr : a % L < L := Nat.mod_lt _ (by omega)
    have hx := xor_neg (b := L) ha (by omega) (by omega)
    rw [e, em, pk_remn (by omega) (by omega) (by omega), rg4, pk_sub (show a % L ≤ L by omega)]
    by_cases h0 : a % L = 0
    · rw [h0, Nat.sub_zero, Nat.mod_self]
      simp only [hx, nI_ne0 (show 0 < L by omega) (show L < 2 ^ 31 by omega), not_false_eq_true, true_and, true_implies, false_implies]
      have e0 : (0 : Int32) - nI 0 = nI 0 := by decide
      rw [e0]
      exact ⟨fun hh => hh.1 rfl, fun hh => ⟨fun _ => hh, fun h => absurd rfl h⟩⟩
    · rw [Nat.mod_eq_of_lt (show L - a % L < L by omega)]
      have hne : ¬ (0 : Int32) - nI (a % L) = 0 := fun hh => by
        have := pk_sneg (a := 0) (show a % L < 2 ^ 30 by omega) (by omega)
        rw [show nI 0 = (0 : Int32) from rfl, hh] at this
        exact absurd this (by decide)
      simp only [hx, hne, nI_ne0 (show 0 < L by omega) (show L < 2 ^ 31 by omega), not_false_eq_true, true_and, true_implies, false_implies]
theorem wr_ref (hD : isD L x D) (hc : c < L) (hL : 2 ≤ L) (hL2 : L < 1000) : (((nI c + x) - (nI c + x) / nI L * nI L) + nI L) - (((nI c + x) - (nI c + x) / nI L * nI L) + nI L) / nI L * nI L = nI ((c + D) % L) := by
  rcases wr_core hD hc hL hL2 with ⟨a, ha, e, em⟩ | ⟨a, ha, ha2, e, em⟩
  · have hr : a % L < L := Nat.mod_lt _ (by omega)
    rw [e, pk_rem (by omega) (by omega) (by omega), nI_add, pk_rem (by omega) (by omega) (by omega), Nat.add_mod_right, Nat.mod_mod, em]
  · have hr : a % L < L := Nat.mod_lt _ (by omega)
    rw [e, pk_remn (by omega) (by omega) (by omega), rg4, pk_sub (show a % L ≤ L by omega), pk_rem (by omega) (by omega) (by omega), em]
theorem wr_open (hD : isD L x D) (hc : c < L) (hL : 2 ≤ L) (hL2 : L < 1000) {R : Int32 → Prop} : ((0 ≤ ((nI c + x) - (nI c + x) / nI L * nI L) → R ((nI c + x) - (nI c + x) / nI L * nI L)) ∧ (¬ 0 ≤ ((nI c + x) - (nI c + x) / nI L * nI L) → R (((nI c + x) - (nI c + x) / nI L * nI L) + nI L))) ↔ R (nI ((c + D) % L)) := by
  rcases wr_core hD hc hL hL2 with ⟨a, ha, e, em⟩ | ⟨a, ha, ha2, e, em⟩
  · have hr : a % L < L := Nat.mod_lt _ (by omega)
    rw [e, pk_rem (by omega) (by omega) (by omega), em]
    rw [em] at hr
    have h0 : (0 : Int32) ≤ nI ((c + D) % L) := nI_pos' (by omega)
    exact ⟨fun hh => hh.1 h0, fun hh => ⟨fun _ => hh, fun h => absurd h0 h⟩⟩
  · have hr : a % L < L := Nat.mod_lt _ (by omega)
    rw [e, pk_remn (by omega) (by omega) (by omega), em, rg4, pk_sub (show a % L ≤ L by omega)]
    by_cases h0 : a % L = 0
    · rw [h0, Nat.sub_zero, Nat.mod_self]
      have e0 : (0 : Int32) - nI 0 = nI 0 := by decide
      rw [e0]
      have h1 : (0 : Int32) ≤ nI 0 := by decide
      exact ⟨fun hh => hh.1 h1, fun hh => ⟨fun _ => hh, fun h => absurd h1 h⟩⟩
    · rw [Nat.mod_eq_of_lt (show L - a % L < L by omega)]
      have h1 : ¬ (0 : Int32) ≤ 0 - nI (a % L) := Int32.not_le.mpr (pk_sneg (a := 0) (show a % L < 2 ^ 30 by omega) (by omega))
      exact ⟨fun hh => hh.2 h1, fun hh => ⟨fun h => absurd h h1, fun _ => hh⟩⟩
theorem isD_of {x : Int32} (L : Nat) (h1 : -100 ≤ x) (h2 : x ≤ 100) : ∃ D, isD L x D := by
  have e1 : (-100 : Int32).toInt = -100 := by decide
  have e2 : (100 : Int32).toInt = 100 := by decide
  rw [sle, e1] at h1
  rw [sle, e2] at h2
  by_cases h : 0 ≤ x.toInt
  · refine ⟨x.toInt.toNat, x.toInt.toNat, by omega, Or.inl ⟨?_, rfl⟩⟩
    apply Int32.toInt_inj.mp
    rw [nI_toInt (by omega)]
    omega
  · refine ⟨100 * L - (-x.toInt).toNat, (-x.toInt).toNat, by omega, Or.inr ⟨?_, rfl⟩⟩
    apply Int32.toInt_inj.mp
    rw [show (0 : Int32) = nI 0 from rfl, pk_sub_toInt (by decide) (by omega)]
    omega
end WRP
section OPN
variable {σ τ : zS} {r F S W V ks n T : Nat} {P : Nat → Nat → Nat} {C : mC} {m : Nat → Int32} {Q : Int32 → zS → Prop}
theorem s_along (hC : HC σ r F S W V ks n P) {x : Int32} {D mv : Nat} (hD : isD ((2 * F + 2) * S) x D) (hmv : mv < (2 * F + 2) * S) : w_X2_along (nI mv) x σ Q ↔ Q (nI ((mv + D) % ((2 * F + 2) * S))) σ := by
  obtain ⟨a1, a2, a3, a4, a5, a6, a7, a8, a9, b1, b2, b3⟩ := id hC
  obtain ⟨c1, c2, c3, c4, c5, c6, c7, c8, c9⟩ := a8
  have hL : (2 * F + 2) * S ≤ 18 * 12 := Nat.mul_le_mul (by omega) c4
  have hL2 : 6 * 2 ≤ (2 * F + 2) * S := Nat.mul_le_mul (by omega) c3
  unfold w_X2_along
  rw [a5]
  exact wr_floorMod hD hmv (by omega) (by omega)
theorem mr_opens (hM : HM τ F S W V ks n P) (h : RM m n F C) (hmv : C.2.2.2.2.2.2.2.2.1 < (2 * F + 2) * S) {x : Int32} {D b : Nat} (hD : isD ((2 * F + 2) * S) x D) (hb : b < 2 * F + 2) : w_X7_opens (nI b) x (zm τ m) Q ↔ Q (zB01 (mdoor F S W C.2.2.2.2.2.2.2.2.2.2.1 ((C.2.2.2.2.2.2.2.2.1 + D) % ((2 * F + 2) * S)) b)) (zm τ m) := by
  obtain ⟨a1, a2, a3, a4, a5, a6, a7, a8, a9⟩ := id hM
  obtain ⟨c1, c2, c3, c4, c5, c6, c7, c8, c9⟩ := a8
  have hS : 0 < S := by omega
  have hL : (2 * F + 2) * S ≤ 18 * 12 := Nat.mul_le_mul (by omega) c4
  have hL2 : 6 * 2 ≤ (2 * F + 2) * S := Nat.mul_le_mul (by omega) c3
  have hm1 : m 1 = nI C.2.2.2.2.2.2.2.2.1 := h.2.2.2.1
  have eB : (2 : Int32) * nI F + 2 = nI (2 * F + 2) := by rw [show (2 : Int32) = nI 2 from rfl, pk_mul, nI_add]
  have hpl : (b * S + C.2.2.2.2.2.2.2.2.1) % ((2 * F + 2) * S) < (2 * F + 2) * S := Nat.mod_lt _ (by omega)
  unfold w_X7_opens
  rw [r_boxes, mr_placeOf hM hm1 (by omega) (by omega), zm_1, a1, a2, eB, pk_mul]
  rw [wr_open (R := fun v => w_X7_opens_J35 Q v (zm τ m)) hD hpl (by omega) (by omega)]
  generalize hV' : (C.2.2.2.2.2.2.2.2.1 + D) % ((2 * F + 2) * S) = mv'
  have hmv' : mv' < (2 * F + 2) * S := by rw [← hV']; exact Nat.mod_lt _ (by omega)
  rw [← nx_eq, hV']
  have hLne := nI_ne0 (show 0 < (2 * F + 2) * S by omega) (show (2 * F + 2) * S < 2 ^ 31 by omega)
  have hSne := nI_ne0 hS (show S < 2 ^ 31 by omega)
  have hp2 : (b * S + mv') % ((2 * F + 2) * S) < (2 * F + 2) * S := Nat.mod_lt _ (by omega)
  have hs : mslot F S mv' b < 2 * F + 2 := mslot_lt hS
  have em : (b * S + mv') % ((2 * F + 2) * S) % S = mv' % S := by
    rw [Nat.mod_mul_left_mod, Nat.mul_comm, Nat.mul_add_mod]
  have hW : mv' % S < S := Nat.mod_lt _ hS
  unfold w_X7_opens_J35
  simp only [hLne, not_false_eq_true, true_and, zm_1, a2, hSne]
  rw [pk_div (by omega) hS (by omega)]
  have es : (b * S + mv') % ((2 * F + 2) * S) / S = mslot F S mv' b := rfl
  rw [es, mr_isAside hM (by omega)]
  simp only [zm_1, a2, a3, hSne, not_false_eq_true, true_and]
  unfold mdoor
  by_cases q1 : mslot F S mv' b = F ∨ mslot F S mv' b = 2 * F + 1
  · simp [q1, zB01]
  · have hf := mfl_lt hs (fun e => q1 (Or.inl e)) (fun e => q1 (Or.inr e))
    simp only [q1, decide_false, zB01]
    rw [pk_rem (by omega) hS (by omega), em, nI_leI (by omega) (by omega)]
    by_cases q2 : mv' % S < W
    · rw [mr_floorOf hM hs (fun e => q1 (Or.inl e)) (fun e => q1 (Or.inr e)), show (3 : Int32).toNatClampNeg = 3 from by decide, zm_8, bt_tst _ (by omega), h.2.2.2.2.2.1 _ hf]
      cases hc : C.2.2.2.2.2.2.2.2.2.2.1 (mfl F (mslot F S mv' b)) with
      | true => simp [q2, show ¬ W ≤ mv' % S by omega, vpk (k := 3) (n := 389) (c := 3) rfl (by decide) (by decide)]
      | false => simp [q2, show ¬ W ≤ mv' % S by omega, vpk (k := 3) (n := 389) (c := 3) rfl (by decide) (by decide)]
    · simp [q2, show W ≤ mv' % S by omega]
end OPN

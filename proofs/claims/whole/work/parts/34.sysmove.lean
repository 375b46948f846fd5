/-! the chain moves on -/
theorem xor_pos {a b : Nat} (ha : a < 2 ^ 31) (hb : b < 2 ^ 31) : (0 : Int32) ≤ (nI a ^^^ nI b) := by
  have hm : ∀ x : Nat, x < 2 ^ 31 → (nI x).toBitVec.msb = false := fun x hx => by
    have h1 : (0 : Int) ≤ (nI x).toInt := by rw [nI_toInt hx]; omega
    have h2 : (nI x).toInt = (nI x).toBitVec.toInt := rfl
    rw [h2, BitVec.toInt_eq_msb_cond] at h1
    cases hc : (nI x).toBitVec.msb with
    | false => rfl
    | true =>
      rw [hc] at h1
      have := (nI x).toBitVec.isLt
      simp at h1
      omega
  have h3 : (nI a ^^^ nI b).toBitVec.msb = false := by rw [Int32.toBitVec_xor, BitVec.msb_xor, hm a ha, hm b hb]; rfl
  rw [sle]
  show (0 : Int) ≤ (nI a ^^^ nI b).toBitVec.toInt
  rw [BitVec.toInt_eq_msb_cond, h3]
  simp
theorem s_floorMod {a b : Nat} (ha : a < 2 ^ 31) (hb : 0 < b) (hb2 : b < 2 ^ 31) {σ : zS} {Q : Int32 → zS → Prop} : w_J9_floorMod_7cf53 (nI a) (nI b) σ Q ↔ Q (nI (a % b)) σ := by
  unfold w_J9_floorMod_7cf53
  have e : nI a - nI a / nI b * nI b = nI (a % b) := by
    rw [pk_div ha hb hb2, pk_mul, pk_sub (Nat.div_mul_le_self a b)]
    congr 1
    have := Nat.mod_add_div a b
    rw [Nat.mul_comm] at this
    omega
  rw [e]
  simp [xor_pos ha hb2, nI_ne0 hb hb2]
theorem nx_eq (b S mv L V : Nat) : (b * S + (mv + V) % L) % L = ((b * S + mv) % L + V) % L := by
  rw [Nat.add_mod_mod, Nat.mod_add_mod, Nat.add_assoc]
/-- the system's question is the reference's -/
theorem mcomes_eq {F S V mv b : Nat} (hF : 2 ≤ F) (hS : 0 < S) (hV : V ≤ S) : mcomes F S V mv b = decide (¬ (mslot F S mv b = F ∨ mslot F S mv b = 2 * F + 1) ∧ (mslot F S ((mv + V) % ((2 * F + 2) * S)) b = F ∨ mslot F S ((mv + V) % ((2 * F + 2) * S)) b = 2 * F + 1)) := by
  unfold mcomes mslot
  rw [nx_eq]
  have hL : 0 < (2 * F + 2) * S := Nat.mul_pos (by omega) hS
  have h1 : (b * S + mv) % ((2 * F + 2) * S) < (2 * F + 2) * S := Nat.mod_lt _ hL
  generalize (b * S + mv) % ((2 * F + 2) * S) = x at h1 ⊢
  have key : (x + V) % ((2 * F + 2) * S) / S = x / S ∨ (x + V) % ((2 * F + 2) * S) / S = x / S + 1 ∨ (x + V) % ((2 * F + 2) * S) / S = 0 := by
    by_cases c : x + V < (2 * F + 2) * S
    · rw [Nat.mod_eq_of_lt c]
      have l1 : x / S ≤ (x + V) / S := Nat.div_le_div_right (by omega)
      have l2 : (x + V) / S ≤ (x + S) / S := Nat.div_le_div_right (by omega)
      rw [Nat.add_div_right x hS] at l2
      omega
    · right; right
      have e : (x + V) % ((2 * F + 2) * S) = x + V - (2 * F + 2) * S := by
        rw [Nat.mod_eq_sub_mod (by omega), Nat.mod_eq_of_lt (by
          have : S ≤ (2 * F + 2) * S := Nat.le_mul_of_pos_left S (by omega)
          omega)]
      rw [e]
      exact Nat.div_eq_of_lt (by omega)
  generalize (x + V) % ((2 * F + 2) * S) / S = y at key ⊢
  generalize x / S = z at key ⊢
  congr 1
  apply propext
  omega
section SMOVE
variable {σ0 σ : zS} {r F S W V ks n T : Nat} {P : Nat → Nat → Nat} {C : mC} {Q : Int32 → zS → Prop}
theorem s_moveOn (hC : HC σ0 r F S W V ks n P) (h : RB σ0 σ r n F T C) (hw : WB σ r n F P C) (g : GC n F C) (hmv : C.2.2.2.2.2.2.2.2.1 < 900) (k : ∀ σ', RB σ0 σ' r n F T (mmove F S V C) → WB σ' r n F P (mmove F S V C) → Q 0 σ') : w_X0_moveOn r σ Q := by
  obtain ⟨a1, a2, a3, a4, a5, a6, a7, a8, a9, b1, b2, b3⟩ := HC_fr hC h.1
  obtain ⟨c1, c2, c3, c4, c5, c6, c7, c8, c9⟩ := id a8
  have hS : 0 < S := by omega
  have hn := a9.1
  have d2 := (mul_small (b := 0) c2 c4 (by decide)).2
  have d3 : 0 < (2 * F + 2) * S := Nat.mul_pos (by omega) hS
  unfold w_X0_moveOn w_X2_along
  rw [h.2.2.2.2.1, b1, a5, nI_add, s_floorMod (by omega) d3 (by omega)]
  dsimp only
  rw [zlet_def]
  have hmv' : (C.2.2.2.2.2.2.2.2.1 + V) % ((2 * F + 2) * S) < (2 * F + 2) * S := Nat.mod_lt _ d3
  generalize hmv2 : (C.2.2.2.2.2.2.2.2.1 + V) % ((2 * F + 2) * S) = mv2 at hmv' ⊢
  have ek : mmove F S V C = (C.1, C.2.1, C.2.2.1, C.2.2.2.1, C.2.2.2.2.1, C.2.2.2.2.2.1, mtu F S V C (fun _ _ => true), C.2.2.2.2.2.2.2.1, mv2, C.2.2.2.2.2.2.2.2.2) := by unfold mmove; rw [hmv2]
  rw [ek] at k
  have h0 : RB σ0 (zI σ r 14 (nI mv2)) r n F T (C.1, C.2.1, C.2.2.1, C.2.2.2.1, C.2.2.2.2.1, C.2.2.2.2.2.1, C.2.2.2.2.2.2.1, C.2.2.2.2.2.2.2.1, mv2, C.2.2.2.2.2.2.2.2.2) := by
    obtain ⟨e0, e1, e2, e3, e4, e5, e6, e7⟩ := h
    refine ⟨Fr_I e0 (by decide) (by decide), e1, e2, ?_, ?_, ?_, ?_, e7⟩
    · rw [zI_1, if_neg (by omega)]; exact e3
    · rw [zI_1, if_pos ⟨rfl, rfl⟩]
    · rw [zI_1, if_neg (by omega)]; exact e5
    · rw [zI_1, if_neg (by omega)]; exact e6
  refine ⟨2 * F + 2 + 1, ?_⟩
  have key : ∀ d j (σk : zS), j + d = 2 * F + 2 → RB σ0 σk r n F T (C.1, C.2.1, C.2.2.1, C.2.2.2.1, C.2.2.2.2.1, C.2.2.2.2.2.1, mtu F S V C (fun _ w => decide (w < j)), C.2.2.2.2.2.2.2.1, mv2, C.2.2.2.2.2.2.2.2.2) → (∀ b, σk.2 (r + 15) b = σ.2 (r + 15) b) → w_X0_moveOn_L26 r Q (d + 1) (nI C.2.2.2.2.2.2.2.2.1) (nI j) σk := by
    intro d
    induction d with
    | zero =>
      intro j σk hj hR hW
      have ej : j = 2 * F + 2 := by omega
      rw [w_X0_moveOn_L26, (HC_fr hC hR.1).2.2.2.1, ej]
      refine ⟨fun _ => k σk ?_ ?_, fun hh => absurd (Int32.le_refl _) hh⟩
      · refine RB_tu hR c2 (mtu F S V C (fun _ _ => true)) hR.1 (fun p hp => ?_) (fun _ _ _ => rfl) rfl
        rw [(hR.2.1 p hp).2.2.2]
        show mtu F S V C (fun _ w => decide (w < j)) p = _
        unfold mtu
        have hw := (g.1 p hp).2.2.1
        by_cases h2 : C.1 p = 2
        · have := hw h2
          simp [h2, ej, this]
        · simp [h2]
      · intro b hb
        rw [hW, hw b hb]
        congr 1
        exact wsm_same (C' := C) (fun q => by exact Iff.rfl) n
    | succ d ih =>
      intro j σk hj hR hW
      have hws := wsm_le (C := C) a9 j n (Nat.le_refl n)
      rw [w_X0_moveOn_L26, (HC_fr hC hR.1).2.2.2.1, c18 (show j < 18 by omega), hW, hw j (by omega)]
      refine ⟨fun hh => ?_, fun _ => ⟨v18 (by omega), ?_⟩⟩
      · rw [nI_leI (by omega) (by omega)] at hh
        omega
      rw [show (0 : Int32) = nI 0 from rfl, nI_leI (by omega) (by omega)]
      unfold w_X0_moveOn_J92
      rw [nI_1]
      have stay : ((∀ p, p < n → ¬ (C.1 p = 2 ∧ C.2.1 p = j)) ∨ mcomes F S V C.2.2.2.2.2.2.2.2.1 j = false) → w_X0_moveOn_L26 r Q (d + 1) (nI C.2.2.2.2.2.2.2.2.1) (nI (j + 1)) σk := fun hno => by
        refine ih (j + 1) σk (by omega) ?_ hW
        refine RB_tu hR c2 (mtu F S V C (fun _ w => decide (w < j + 1))) hR.1 (fun p hp => ?_) (fun _ _ _ => rfl) rfl
        rw [(hR.2.1 p hp).2.2.2]
        show mtu F S V C (fun _ w => decide (w < j)) p = _
        unfold mtu
        by_cases h2 : C.2.1 p = j
        · rcases hno with hno | hno
          · have : ¬ C.1 p = 2 := fun e => hno p hp ⟨e, h2⟩
            simp [this]
          · rw [h2, hno]
            simp
        · have : C.2.1 p < j ↔ C.2.1 p < j + 1 := by omega
          simp only [this]
      refine ⟨fun hz => stay (Or.inl (wsm_0 (P := P) (n := n) (fun p hp => by have := a9.2 p hp; omega) n (Nat.le_refl n) (by omega))), fun hz => ?_⟩
      have hsl := mslot_lt (F := F) (S := S) (mv := C.2.2.2.2.2.2.2.2.1) (b := j) hS
      have hsl2 := mslot_lt (F := F) (S := S) (mv := mv2) (b := j) hS
      have hmc := mcomes_eq (F := F) (S := S) (V := V) (mv := C.2.2.2.2.2.2.2.2.1) (b := j) c1 hS c9
      rw [hmv2] at hmc
      rw [s_slot (HC_fr hC hR.1) (by omega) (by omega), s_isAtFloor (HC_fr hC hR.1) (by omega), show σk.1 r 14 = nI mv2 from hR.2.2.2.2.1, s_slot (HC_fr hC hR.1) (by omega) (by omega), s_isAtFloor (HC_fr hC hR.1) (by omega), show nI 0 = (0 : Int32) from rfl, zB01_0, zB01_0]
      refine ⟨fun hh => stay (Or.inr ?_), fun hh => ⟨fun h3 => ?_, fun h3 => stay (Or.inr ?_)⟩⟩
      · rw [hmc, decide_eq_false_iff_not]
        exact fun h9 => (of_decide_eq_false hh) h9.1
      · rw [Bool.not_eq_false] at hh
        have hm1 : mcomes F S V C.2.2.2.2.2.2.2.2.1 j = true := by
          rw [hmc, decide_eq_true_iff]
          exact ⟨of_decide_eq_true hh, Classical.not_not.mp (of_decide_eq_false h3)⟩
        refine s_countTurned hC hR g (by omega) (fun σ1 h1 hW1 => ih (j + 1) σ1 (by omega) ?_ (fun b => by rw [hW1, hW]))
        refine RB_tu h1 c2 (mtu F S V C (fun _ w => decide (w < j + 1))) h1.1 (fun p hp => ?_) (fun _ _ _ => rfl) rfl
        rw [(h1.2.1 p hp).2.2.2]
        show (if C.1 p = 2 ∧ C.2.1 p = j then mtu F S V C (fun _ w => decide (w < j)) p + 1 else mtu F S V C (fun _ w => decide (w < j)) p) = _
        unfold mtu
        by_cases h2 : C.2.1 p = j
        · by_cases h4 : C.1 p = 2
          · simp [h2, h4, hm1]
          · simp [h4]
        · have : C.2.1 p < j ↔ C.2.1 p < j + 1 := by omega
          simp only [this, h2, and_false, if_false]
      · rw [hmc, decide_eq_false_iff_not]
        rw [Bool.not_eq_false] at h3
        exact fun h9 => (of_decide_eq_true h3) h9.2
  refine key (2 * F + 2) 0 _ (by omega) ?_ (fun _ => rfl)
  refine RB_tu h0 c2 (mtu F S V C (fun _ w => decide (w < 0))) h0.1 (fun p hp => ?_) (fun _ _ _ => rfl) rfl
  rw [(h0.2.1 p hp).2.2.2]
  unfold mtu
  simp
end SMOVE

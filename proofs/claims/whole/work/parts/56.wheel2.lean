theorem rg7 (a : Int32) : -a = 0 - a := by grind
theorem rg8 (a b : Int32) : a - b + 1 = a + 1 - b := by grind
theorem wct_le {a d d' : Nat} (h : d ≤ d') : wct a d ≤ wct a d' := by
  unfold wct
  split <;> split <;> omega
section WS2
variable {σ τ : zS} {F S W V ks n : Nat} {P : Nat → Nat → Nat} {C : mC} {m : Nat → Int32} {Q : Int32 → zS → Prop}
/-- how far back, where it goes x forth -/
def wbk (P : Nat → Nat → Nat) (F S W n : Nat) (C : mC) (x : Nat) : Nat := mbb (fun b => wsm P C b n) (wfo F S W C.2.2.2.2.2.2.2.2.2.2.1 C.2.2.2.2.2.2.2.2.1) (wba F S W C.2.2.2.2.2.2.2.2.2.2.1 C.2.2.2.2.2.2.2.2.1) x (2 * F + 2)
theorem wfo_b (sh : Nat → Bool) (mv b : Nat) : wfo F S W sh mv b ≤ 3 * S + 1 ∧ wba F S W sh mv b ≤ 3 * S + 1 := by
  have h1 := lst_b (dof F S W sh mv b) (3 * S + 1) 0
  have h2 := lst_b (dob F S W sh mv b) (3 * S + 1) 0
  unfold wfo wba
  omega
theorem wbk_b (x : Nat) : wbk P F S W n C x ≤ 3 * S + 1 := (mbb_le _ _ _ _ _ _).mpr (fun _ _ _ _ => (wfo_b _ _ _).2)
theorem s_fewest (hC : HC σ 10 F S W V 0 n P) (hR : RB σ σ 10 n F C.2.2.2.2.2.2.2.1 C) (hw : WB σ 10 n F P C) (hmv : C.2.2.2.2.2.2.2.2.1 < (2 * F + 2) * S) (k : ∀ (σ' : zS) (v : Int32), σ'.1 = σ.1 → (∀ a i, a ≠ 51 → a ≠ 52 → σ'.2 a i = σ.2 a i) → isB (fun c => ∃ x, x < 3 * S + 1 ∧ wbk P F S W n C x ≤ 3 * S ∧ c = wct x (wbk P F S W n C x)) v → Q v σ') : w_X1_fewestSteps σ Q := by
  obtain ⟨a1, a2, a3, a4, a5, a6, a7, a8, a9, b1, b2, b3⟩ := id hC
  obtain ⟨c1, c2, c3, c4, c5, c6, c7, c8, c9⟩ := a8
  have e3 : (3 : Int32) * nI S = nI (3 * S) := by rw [show (3 : Int32) = nI 3 from rfl, pk_mul]
  unfold w_X1_fewestSteps
  rw [a2, e3]
  refine s_measure hC hR.2.2.2.2.1 hmv (fun f hf => (hR.2.2.1 f hf).2.2.2.2) (fun σ' i1 i2 i3 => ⟨3 * S + 2, ?_⟩)
  have hC' := HC_eq hC (σ' := σ') (fun a i ha => i2 a i (by omega) (by omega)) (fun a i ha => by rw [i1])
  have hw' : WB σ' 10 n F P C := fun b hb => by rw [i2 _ _ (by decide) (by decide)]; exact hw b hb
  have key : ∀ d x (v : Int32), x + d = 3 * S + 1 → isB (fun c => ∃ x', x' < x ∧ wbk P F S W n C x' ≤ 3 * S ∧ c = wct x' (wbk P F S W n C x')) v → w_X1_fewestSteps_L22 Q (d + 1) (nI (3 * S)) v (nI x) σ' := by
    intro d
    induction d with
    | zero =>
      intro x v hx hv
      have ex : x = 3 * S + 1 := by omega
      subst ex
      rw [w_X1_fewestSteps_L22, nI_ltI (by omega) (by omega)]
      exact ⟨fun _ => k σ' v i1 i2 hv, fun hh => absurd (by omega) hh⟩
    | succ d ih =>
      intro x v hx hv
      rw [w_X1_fewestSteps_L22, nI_ltI (by omega) (by omega)]
      refine ⟨fun hh => by omega, fun _ => ?_⟩
      refine s_backBeside hC' hw' (fun b hb => ⟨?_, ?_, (i3 b hb).1, (i3 b hb).2⟩) (show x ≤ 1000 by omega) ?_
      · have := (wfo_b (F := F) (S := S) (W := W) C.2.2.2.2.2.2.2.2.2.2.1 C.2.2.2.2.2.2.2.2.1 b).1
        omega
      · have := (wfo_b (F := F) (S := S) (W := W) C.2.2.2.2.2.2.2.2.2.2.1 C.2.2.2.2.2.2.2.2.1 b).2
        omega
      have hbk := wbk_b (P := P) (F := F) (S := S) (W := W) (n := n) (C := C) x
      have ebk : mbb (fun b => wsm P C b n) (wfo F S W C.2.2.2.2.2.2.2.2.2.2.1 C.2.2.2.2.2.2.2.2.1) (wba F S W C.2.2.2.2.2.2.2.2.2.2.1 C.2.2.2.2.2.2.2.2.1) x (2 * F + 2) = wbk P F S W n C x := rfl
      rw [ebk]
      have es : (nI x + nI (wbk P F S W n C x)) + (if nI (wbk P F S W n C x) < nI x then nI (wbk P F S W n C x) else nI x) = nI (wct x (wbk P F S W n C x)) := by
        unfold wct
        have l2 : nI (wbk P F S W n C x) < nI x ↔ wbk P F S W n C x < x := nI_ltI (by omega) (by omega)
        by_cases hc : wbk P F S W n C x < x
        · rw [if_pos hc, if_pos (l2.mpr hc), nI_add, nI_add]
        · rw [if_neg hc, if_neg (fun hh => hc (l2.mp hh)), nI_add, nI_add]
      have hct : wct x (wbk P F S W n C x) ≤ 1000 := by
        unfold wct
        split <;> omega
      rw [es, nI_ltI (by omega) (by omega)]
      unfold w_X1_fewestSteps_J70 w_X1_fewestSteps_J73
      rw [nI_1]
      have step : wbk P F S W n C x ≤ 3 * S → ∀ c, ((∃ x', x' < x ∧ wbk P F S W n C x' ≤ 3 * S ∧ c = wct x' (wbk P F S W n C x')) ∨ c = wct x (wbk P F S W n C x)) ↔ (∃ x', x' < x + 1 ∧ wbk P F S W n C x' ≤ 3 * S ∧ c = wct x' (wbk P F S W n C x')) := fun hle c => by
        constructor
        · rintro (⟨x', q1, q2, q3⟩ | q)
          · exact ⟨x', by omega, q2, q3⟩
          · exact ⟨x, by omega, hle, q⟩
        · rintro ⟨x', q1, q2, q3⟩
          by_cases e : x' = x
          · subst e
            exact Or.inr q3
          · exact Or.inl ⟨x', by omega, q2, q3⟩
      refine ⟨fun hgt => ?_, fun hle => ⟨fun h4 => ?_, fun h4 => ⟨fun hl => ?_, fun hl => ?_⟩⟩⟩
      · refine ih (x + 1) v (by omega) (isB_ext (fun c => ?_) hv)
        constructor
        · rintro ⟨x', q1, q2, q3⟩
          exact ⟨x', by omega, q2, q3⟩
        · rintro ⟨x', q1, q2, q3⟩
          by_cases e : x' = x
          · subst e
            omega
          · exact ⟨x', by omega, q2, q3⟩
      · exact ih (x + 1) _ (by omega) (isB_ext (step (by omega)) (isB_take hv hct (Or.inl h4)))
      · exact ih (x + 1) _ (by omega) (isB_ext (step (by omega)) (isB_keep hv hct h4 hl))
      · exact ih (x + 1) _ (by omega) (isB_ext (step (by omega)) (isB_take hv hct (Or.inr hl)))
  exact key (3 * S + 1) 0 (-4) (by omega) (Or.inl ⟨rfl, fun c hc => by obtain ⟨x', q1, -⟩ := hc; omega⟩)
/-! the reference -/
theorem mrid_0 (hP : GP n F P) (b : Nat) : ∀ k, k ≤ n → (mrid C b k = 0 ↔ wsm P C b k = 0)
  | 0, _ => ⟨fun _ => rfl, fun _ => rfl⟩
  | k + 1, hk => by
    have ih := mrid_0 hP b k (by omega)
    have h3 := hP.2 k (by omega)
    have e1 : mrid C b (k + 1) = if C.1 k = 2 ∧ C.2.1 k = b then mrid C b k ||| ((1 : Int32) <<< (nI k &&& 31)) else mrid C b k := by rw [mrid]
    have e2 : wsm P C b (k + 1) = wsm P C b k + (if C.1 k = 2 ∧ C.2.1 k = b then P 3 k else 0) := by rw [wsm]
    rw [e1, e2]
    by_cases c : C.1 k = 2 ∧ C.2.1 k = b
    · rw [if_pos c, if_pos c]
      refine ⟨fun hh => ?_, fun hh => by omega⟩
      have hk32 : k < 32 := by have := hP.1; omega
      have hb := bt_set (x := mrid C b k) hk32 hk32
      rw [hh] at hb
      have h0 : bt (0 : Int32) k = false := by
        unfold bt
        simp
      rw [h0] at hb
      simp at hb
    · rw [if_neg c, if_neg c, Nat.add_zero]
      exact ih
def wop (F S W : Nat) (sh : Nat → Bool) (mv b bck i : Nat) : Bool := mdoor F S W sh ((mv + (if i < bck then 100 * ((2 * F + 2) * S) - (bck - i) else i - bck)) % ((2 * F + 2) * S)) b
theorem wop_e (hS : 0 < S) {sh : Nat → Bool} {mv b bck fth : Nat} (h1 : bck ≤ 3 * S) (h2 : fth ≤ 3 * S) : (∃ i, i ≤ bck + fth ∧ wop F S W sh mv b bck i = true) ↔ (wfo F S W sh mv b ≤ fth ∨ wba F S W sh mv b ≤ bck) := by
  unfold wfo wba
  rw [lst_le _ _ _ _ (show fth < 0 + (3 * S + 1) by omega), lst_le _ _ _ _ (show bck < 0 + (3 * S + 1) by omega)]
  constructor
  · rintro ⟨i, q1, q2⟩
    unfold wop at q2
    by_cases c : i < bck
    · rw [if_pos c] at q2
      exact Or.inr ⟨bck - i, by omega, by omega, q2⟩
    · rw [if_neg c] at q2
      exact Or.inl ⟨i - bck, by omega, by omega, q2⟩
  · rintro (⟨y, -, q1, q2⟩ | ⟨y, -, q1, q2⟩)
    · refine ⟨y + bck, by omega, ?_⟩
      unfold wop
      rw [if_neg (by omega), Nat.add_sub_cancel]
      exact q2
    · by_cases e : y = 0
      · subst e
        refine ⟨bck, by omega, ?_⟩
        unfold wop
        rw [if_neg (by omega), Nat.sub_self]
        unfold dob at q2
        rw [Nat.sub_zero, Nat.mul_comm 100, Nat.add_mul_mod_self_left] at q2
        exact q2
      · refine ⟨bck - y, by omega, ?_⟩
        unfold wop
        rw [if_pos (by omega), show bck - (bck - y) = y by omega]
        exact q2
theorem m_scan (hM : HM τ F S W V ks n P) (h : RM m n F C) (hmv : C.2.2.2.2.2.2.2.2.1 < (2 * F + 2) * S) {b bck fth : Nat} (hb : b < 2 * F + 2) (hbk : bck ≤ 3 * S) (hft : fth ≤ 3 * S) {K5 : Int32 → Int32 → Int32 → Int32 → zS → Prop} (x3 : Int32) (k1 : (∃ i, i ≤ bck + fth ∧ wop F S W C.2.2.2.2.2.2.2.2.2.2.1 C.2.2.2.2.2.2.2.2.1 b bck i = true) → w_X7_frees_J61 Q K5 (nI bck) (nI fth) x3 (nI b) 1 (zm τ m)) (k0 : (¬ ∃ i, i ≤ bck + fth ∧ wop F S W C.2.2.2.2.2.2.2.2.2.2.1 C.2.2.2.2.2.2.2.2.1 b bck i = true) → w_X7_frees_J61 Q K5 (nI bck) (nI fth) x3 (nI b) 0 (zm τ m)) : w_X7_frees_J28 Q K5 (nI bck) (nI fth) x3 (nI b) 0 (zm τ m) := by
  obtain ⟨a1, a2, a3, a4, a5, a6, a7, a8, a9⟩ := id hM
  obtain ⟨c1, c2, c3, c4, c5, c6, c7, c8, c9⟩ := a8
  unfold w_X7_frees_J28
  rw [rg7]
  have lt6 : ∀ i, i ≤ 1000 → (nI fth < nI i - nI bck ↔ bck + fth < i) := fun i hi => by
    rw [slt, nI_toInt (by omega), pk_sub_toInt (by omega) (by omega)]
    omega
  have hD : ∀ i, i ≤ bck + fth → isD ((2 * F + 2) * S) (nI i - nI bck) (if i < bck then 100 * ((2 * F + 2) * S) - (bck - i) else i - bck) := fun i hi => by
    by_cases c : i < bck
    · rw [if_pos c]
      refine ⟨bck - i, by omega, Or.inr ⟨?_, rfl⟩⟩
      have e : nI bck = nI (bck - i) + nI i := by
        rw [nI_add]
        congr 1
        omega
      rw [e, zsub0]
    · rw [if_neg c]
      exact ⟨i - bck, by omega, Or.inl ⟨pk_sub (by omega), rfl⟩⟩
  refine ⟨bck + fth + 2, ?_⟩
  have key : ∀ d i, i + d = bck + fth + 1 → (∀ i', i' < i → wop F S W C.2.2.2.2.2.2.2.2.2.2.1 C.2.2.2.2.2.2.2.2.1 b bck i' = false) → w_X7_frees_L34 Q K5 (d + 1) (nI bck) (nI fth) x3 (nI b) 0 (nI i - nI bck) (zm τ m) := by
    intro d
    induction d with
    | zero =>
      intro i hi hn
      rw [w_X7_frees_L34, lt6 i (by omega)]
      refine ⟨fun _ => k0 (fun ⟨i', q1, q2⟩ => ?_), fun hh => absurd (by omega) hh⟩
      rw [hn i' (by omega)] at q2
      exact absurd q2 (by decide)
    | succ d ih =>
      intro i hi hn
      rw [w_X7_frees_L34, lt6 i (by omega), mr_opens hM h hmv (hD i (by omega)) hb]
      refine ⟨fun hh => by omega, fun _ => ⟨fun _ => ?_, fun hh => absurd rfl hh⟩⟩
      rw [rg8, nI_1]
      have ew : mdoor F S W C.2.2.2.2.2.2.2.2.2.2.1 ((C.2.2.2.2.2.2.2.2.1 + (if i < bck then 100 * ((2 * F + 2) * S) - (bck - i) else i - bck)) % ((2 * F + 2) * S)) b = wop F S W C.2.2.2.2.2.2.2.2.2.2.1 C.2.2.2.2.2.2.2.2.1 b bck i := rfl
      rw [ew]
      cases hw : wop F S W C.2.2.2.2.2.2.2.2.2.2.1 C.2.2.2.2.2.2.2.2.1 b bck i with
      | true =>
        show w_X7_frees_L34 Q K5 (d + 1) (nI bck) (nI fth) x3 (nI b) 1 (nI (i + 1) - nI bck) (zm τ m)
        rw [w_X7_frees_L34]
        have kk := k1 ⟨i, by omega, hw⟩
        exact ⟨fun _ => kk, fun _ => ⟨fun hh => absurd hh (by decide), fun _ => kk⟩⟩
      | false =>
        refine ih (i + 1) (by omega) (fun i' hi' => ?_)
        by_cases e : i' = i
        · rw [e]
          exact hw
        · exact hn i' (by omega)
  exact key (bck + fth + 1) 0 (by omega) (fun i' hi' => absurd hi' (Nat.not_lt_zero i'))
theorem m_frees (hM : HM τ F S W V ks n P) (h : RM m n F C) (g : GC n F C) (hmv : C.2.2.2.2.2.2.2.2.1 < (2 * F + 2) * S) {bck fth : Nat} (hbk : bck ≤ 3 * S) (hft : fth ≤ 3 * S) (k1 : wbk P F S W n C fth ≤ bck → Q 1 (zm τ m)) (k0 : ¬ wbk P F S W n C fth ≤ bck → Q 0 (zm τ m)) : w_X7_frees (nI bck) (nI fth) (zm τ m) Q := by
  obtain ⟨a1, a2, a3, a4, a5, a6, a7, a8, a9⟩ := id hM
  obtain ⟨c1, c2, c3, c4, c5, c6, c7, c8, c9⟩ := a8
  have hS : 0 < S := by omega
  have eB : (2 : Int32) * nI F + 2 = nI (2 * F + 2) := by rw [show (2 : Int32) = nI 2 from rfl, pk_mul, nI_add]
  have hall : wbk P F S W n C fth ≤ bck ↔ ∀ b, b < 2 * F + 2 → (0 < wsm P C b n → wfo F S W C.2.2.2.2.2.2.2.2.2.2.1 C.2.2.2.2.2.2.2.2.1 b ≤ fth ∨ wba F S W C.2.2.2.2.2.2.2.2.2.2.1 C.2.2.2.2.2.2.2.2.1 b ≤ bck) := by
    unfold wbk
    rw [mbb_le]
    constructor
    · intro q b hb ho
      by_cases c : wfo F S W C.2.2.2.2.2.2.2.2.2.2.1 C.2.2.2.2.2.2.2.2.1 b ≤ fth
      · exact Or.inl c
      · exact Or.inr (q b hb ho (by omega))
    · intro q b hb ho hx
      rcases q b hb ho with q1 | q1
      · omega
      · exact q1
  refine ⟨2 * F + 2 + 1, ?_⟩
  have key : ∀ d j (x3 : Int32), j + d = 2 * F + 2 → ((x3 = 1 ∧ ∀ b, b < j → (0 < wsm P C b n → wfo F S W C.2.2.2.2.2.2.2.2.2.2.1 C.2.2.2.2.2.2.2.2.1 b ≤ fth ∨ wba F S W C.2.2.2.2.2.2.2.2.2.2.1 C.2.2.2.2.2.2.2.2.1 b ≤ bck)) ∨ (x3 = 0 ∧ ¬ wbk P F S W n C fth ≤ bck)) → w_X7_frees_L5 Q (d + 1) (nI bck) (nI fth) x3 (nI j) (zm τ m) := by
    intro d
    induction d with
    | zero =>
      intro j x3 hj hx
      have ej : j = 2 * F + 2 := by omega
      subst ej
      rw [w_X7_frees_L5, r_boxes, zm_1, a1, eB]
      refine ⟨fun _ => ?_, fun hh => absurd (Int32.le_refl _) hh⟩
      rcases hx with ⟨e, q⟩ | ⟨e, q⟩
      · subst e
        exact ⟨Or.inr rfl, k1 (hall.mpr q)⟩
      · subst e
        exact ⟨Or.inl rfl, k0 q⟩
    | succ d ih =>
      intro j x3 hj hx
      rw [w_X7_frees_L5, r_boxes, zm_1, a1, eB]
      refine ⟨fun hh => ?_, fun _ => ?_⟩
      · rw [nI_leI (by omega) (by omega)] at hh
        omega
      -- what follows the scan
      have after1 : (0 < wsm P C j n → wfo F S W C.2.2.2.2.2.2.2.2.2.2.1 C.2.2.2.2.2.2.2.2.1 j ≤ fth ∨ wba F S W C.2.2.2.2.2.2.2.2.2.2.1 C.2.2.2.2.2.2.2.2.1 j ≤ bck) → w_X7_frees_J61 Q (fun a1 a2 a3 a4 aσ => w_X7_frees_L5 Q (d + 1) a1 a2 a3 a4 aσ) (nI bck) (nI fth) x3 (nI j) 1 (zm τ m) := fun hok => by
        unfold w_X7_frees_J61 w_X7_frees_J74 w_X7_frees_J75
        rw [nI_1]
        refine ⟨fun h0 => ?_, fun h0 => ⟨fun hh => absurd hh (by decide), fun _ => ?_⟩⟩
        · refine ih (j + 1) 0 (by omega) ?_
          rcases hx with ⟨e, q⟩ | ⟨e, q⟩
          · rw [e] at h0
            exact absurd h0 (by decide)
          · exact Or.inr ⟨rfl, q⟩
        · refine ih (j + 1) 1 (by omega) ?_
          rcases hx with ⟨e, q⟩ | ⟨e, q⟩
          · refine Or.inl ⟨rfl, fun b hb => ?_⟩
            by_cases e2 : b = j
            · rw [e2]
              exact hok
            · exact q b (by omega)
          · exact absurd e h0
      have after0 : ¬ (0 < wsm P C j n → wfo F S W C.2.2.2.2.2.2.2.2.2.2.1 C.2.2.2.2.2.2.2.2.1 j ≤ fth ∨ wba F S W C.2.2.2.2.2.2.2.2.2.2.1 C.2.2.2.2.2.2.2.2.1 j ≤ bck) → w_X7_frees_J61 Q (fun a1 a2 a3 a4 aσ => w_X7_frees_L5 Q (d + 1) a1 a2 a3 a4 aσ) (nI bck) (nI fth) x3 (nI j) 0 (zm τ m) := fun hok => by
        have hno : ¬ wbk P F S W n C fth ≤ bck := fun hh => hok (hall.mp hh j (by omega))
        unfold w_X7_frees_J61 w_X7_frees_J74 w_X7_frees_J75
        rw [nI_1]
        have g0 := ih (j + 1) 0 (by omega) (Or.inr ⟨rfl, hno⟩)
        exact ⟨fun _ => g0, fun _ => ⟨fun _ => g0, fun hh => absurd rfl hh⟩⟩
      refine m_riders hM h g (show j < 100 by omega) ?_
      refine ⟨fun h0 => ?_, fun h0 => ?_⟩
      · rw [mrid_0 a9 j n (Nat.le_refl n)] at h0
        unfold w_X7_frees_J28
        refine ⟨1, ?_⟩
        rw [w_X7_frees_L34]
        have g1 := after1 (fun hh => by omega)
        exact ⟨fun _ => g1, fun _ => ⟨fun hh => absurd hh (by decide), fun _ => g1⟩⟩
      · rw [mrid_0 a9 j n (Nat.le_refl n)] at h0
        refine m_scan hM h hmv (show j < 2 * F + 2 by omega) hbk hft x3 (fun hh => ?_) (fun hh => ?_)
        · rw [wop_e hS hbk hft] at hh
          exact after1 (fun _ => hh)
        · rw [wop_e hS hbk hft] at hh
          exact after0 (fun q => hh (q (by omega)))
  exact key (2 * F + 2) 0 1 (by omega) (Or.inl ⟨rfl, fun b hb => absurd hb (Nat.not_lt_zero b)⟩)
end WS2

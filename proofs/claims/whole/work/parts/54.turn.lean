/-! ALL ARE LET OUT WHERE THE DOORS ARE OPEN -/
def mlo (P : Nat → Nat → Nat) (b f : Nat) : Nat → mC → mC
  | 0, C => C
  | k + 1, C => if (mlo P b f k C).1 k = 2 ∧ (mlo P b f k C).2.1 k = b then mleave P (mlo P b f k C) k f else mlo P b f k C
def mloc (P : Nat → Nat → Nat) (b f : Nat) (C : mC) (v : Int32) : Nat → Int32
  | 0 => v
  | k + 1 => if (mlo P b f k C).1 k = 2 ∧ (mlo P b f k C).2.1 k = b then mloc P b f C v k + 1 else mloc P b f C v k
def mbx (P : Nat → Nat → Nat) (F S W n : Nat) (C : mC) : Nat → mC × Int32
  | 0 => (C, 0)
  | b + 1 => if mdoor F S W C.2.2.2.2.2.2.2.2.2.2.1 C.2.2.2.2.2.2.2.2.1 b = true then (mlo P b (mfl F (mslot F S C.2.2.2.2.2.2.2.2.1 b)) n (mbx P F S W n C b).1, mloc P b (mfl F (mslot F S C.2.2.2.2.2.2.2.2.1 b)) (mbx P F S W n C b).1 (mbx P F S W n C b).2 n) else mbx P F S W n C b
section LTO
variable {σ0 σ τ : zS} {r F S W V ks n T : Nat} {P : Nat → Nat → Nat} {C : mC} {m : Nat → Int32} {Q : Int32 → zS → Prop}
theorem mlo_rest (b f : Nat) : ∀ k, (mlo P b f k C).2.2.2.2.2.2 = C.2.2.2.2.2.2
  | 0 => rfl
  | k + 1 => by
    unfold mlo
    split
    · rw [mleave_rest, mlo_rest b f k]
    · exact mlo_rest b f k
theorem GC_lo {b f : Nat} (hf : f < F) (g : GC n F C) : ∀ k, k ≤ n → GC n F (mlo P b f k C)
  | 0, _ => g
  | k + 1, hk => by
    have ih := GC_lo (b := b) hf g k (by omega)
    unfold mlo
    split
    · next hc => exact GC_leave ih hf (by omega) hc.1
    · exact ih
theorem mlo_z {b f : Nat} (p : Nat) : ∀ k, (mlo P b f k C).1 p = 0 ↔ C.1 p = 0
  | 0 => Iff.rfl
  | k + 1 => by
    have ih := mlo_z (b := b) (f := f) p k
    unfold mlo
    split
    · next hc =>
      by_cases ep : p = k
      · subst ep
        have := (mleave_out P (mlo P b f p C) p f).2
        rw [← ih]
        omega
      · rw [((mleave_out P (mlo P b f k C) k f).1 p ep).1]
        exact ih
    · exact ih
theorem mdoor_f {sh : Nat → Bool} {mv b : Nat} (hS : 0 < S) (h : mdoor F S W sh mv b = true) : mfl F (mslot F S mv b) < F ∧ mslot F S mv b ≠ F ∧ mslot F S mv b ≠ 2 * F + 1 := by
  unfold mdoor at h
  have h2 := of_decide_eq_true h
  exact ⟨mfl_lt (mslot_lt hS) (fun e => h2.2.1 (Or.inl e)) (fun e => h2.2.1 (Or.inr e)), fun e => h2.2.1 (Or.inl e), fun e => h2.2.1 (Or.inr e)⟩
theorem mbx_ok (hS : 0 < S) (g : GC n F C) : ∀ b, GC n F (mbx P F S W n C b).1 ∧ (mbx P F S W n C b).1.2.2.2.2.2.2 = C.2.2.2.2.2.2 ∧ ∀ p, ((mbx P F S W n C b).1.1 p = 0 ↔ C.1 p = 0)
  | 0 => ⟨g, rfl, fun _ => Iff.rfl⟩
  | b + 1 => by
    obtain ⟨h1, h2, h3⟩ := mbx_ok hS g b
    unfold mbx
    split
    · next hd =>
      have hf := (mdoor_f hS hd).1
      refine ⟨GC_lo hf h1 n (Nat.le_refl n), ?_, fun p => ?_⟩
      · show (mlo P b _ n (mbx P F S W n C b).1).2.2.2.2.2.2 = _
        rw [mlo_rest, h2]
      · show (mlo P b _ n (mbx P F S W n C b).1).1 p = 0 ↔ _
        rw [mlo_z, h3]
    · exact ⟨h1, h2, h3⟩
theorem s_letBox (hC : HC σ0 r F S W V ks n P) (h : RB σ0 σ r n F T C) (hw : WB σ r n F P C) (g : GC n F C) {b f : Nat} (hb : b < 2 * F + 2) (hf : f < F) (v : Int32) {K4 : Int32 → Int32 → zS → Prop} (k : ∀ σ', RB σ0 σ' r n F T (mlo P b f n C) → WB σ' r n F P (mlo P b f n C) → K4 (mloc P b f C v n) (nI (b + 1)) σ') : w_X0_letOut_L28 r Q K4 (n + 1) v (nI b) (nI f) 0 σ := by
  have a9 := hC.2.2.2.2.2.2.2.2.1
  have hn := a9.1
  have hF := hC.2.2.2.2.2.2.2.1.2.1
  have hne : ¬ nI f = (-4 : Int32) := fun hh => by
    have h1 : (0 : Int32) ≤ nI f := nI_pos' (by omega)
    rw [hh] at h1
    exact absurd h1 (by decide)
  have key : ∀ d j (σk : zS), j + d = n → RB σ0 σk r n F T (mlo P b f j C) → WB σk r n F P (mlo P b f j C) → w_X0_letOut_L28 r Q K4 (d + 1) (mloc P b f C v j) (nI b) (nI f) (nI j) σk := by
    intro d
    induction d with
    | zero =>
      intro j σk hj hR hW
      have ej : j = n := by omega
      subst ej
      rw [w_X0_letOut_L28, (HC_fr hC hR.1).2.2.2.2.2.1]
      refine ⟨fun _ => ?_, fun hh => absurd (Int32.le_refl _) hh⟩
      unfold w_X0_letOut_J73
      rw [nI_1]
      exact k σk hR hW
    | succ d ih =>
      intro j σk hj hR hW
      have gj := GC_lo (P := P) (b := b) hf g j (by omega)
      have em : mlo P b f (j + 1) C = if (mlo P b f j C).1 j = 2 ∧ (mlo P b f j C).2.1 j = b then mleave P (mlo P b f j C) j f else mlo P b f j C := by rw [mlo]
      have ec : mloc P b f C v (j + 1) = if (mlo P b f j C).1 j = 2 ∧ (mlo P b f j C).2.1 j = b then mloc P b f C v j + 1 else mloc P b f C v j := by rw [mloc]
      rw [w_X0_letOut_L28, (HC_fr hC hR.1).2.2.2.2.2.1]
      refine ⟨fun hh => ?_, fun _ => ⟨fun hh => absurd hh hne, fun _ => ?_⟩⟩
      · rw [nI_leI (by omega) (by omega)] at hh
        omega
      rw [s_isIn hR gj hF hn (by omega) (by omega)]
      by_cases c : (mlo P b f j C).1 j = 2 ∧ (mlo P b f j C).2.1 j = b
      · refine zYes c ?_
        rw [if_pos c] at em ec
        refine s_leave hC hR hW gj (by omega) hf hb c.1 c.2 (fun σ' h1 h2 => ?_)
        unfold w_X0_letOut_J67
        rw [nI_1, ← ec]
        exact ih (j + 1) σ' (by omega) (by rw [em]; exact h1) (by rw [em]; exact h2)
      · refine zNo c ?_
        rw [if_neg c] at em ec
        unfold w_X0_letOut_J67
        rw [nI_1, ← ec]
        exact ih (j + 1) σk (by omega) (by rw [em]; exact hR) (by rw [em]; exact hW)
  exact key n 0 σ (by omega) h hw
theorem s_letOut (hC : HC σ0 r F S W V ks n P) (h : RB σ0 σ r n F T C) (hw : WB σ r n F P C) (g : GC n F C) (hmv : C.2.2.2.2.2.2.2.2.1 < 1000) (k : ∀ σ', RB σ0 σ' r n F T (mbx P F S W n C (2 * F + 2)).1 → WB σ' r n F P (mbx P F S W n C (2 * F + 2)).1 → Q (mbx P F S W n C (2 * F + 2)).2 σ') : w_X0_letOut r σ Q := by
  have hF := hC.2.2.2.2.2.2.2.1.2.1
  have hS : 0 < S := by have := hC.2.2.2.2.2.2.2.1.2.2.1; omega
  refine ⟨2 * F + 2 + 1, ?_⟩
  have key : ∀ d j (σk : zS), j + d = 2 * F + 2 → RB σ0 σk r n F T (mbx P F S W n C j).1 → WB σk r n F P (mbx P F S W n C j).1 → w_X0_letOut_L4 r Q (d + 1) (mbx P F S W n C j).2 (nI j) σk := by
    intro d
    induction d with
    | zero =>
      intro j σk hj hR hW
      have ej : j = 2 * F + 2 := by omega
      subst ej
      rw [w_X0_letOut_L4, (HC_fr hC hR.1).2.2.2.1]
      exact ⟨fun _ => k σk hR hW, fun hh => absurd (Int32.le_refl _) hh⟩
    | succ d ih =>
      intro j σk hj hR hW
      obtain ⟨gj, er, -⟩ := mbx_ok (P := P) (W := W) hS g j
      have emv : (mbx P F S W n C j).1.2.2.2.2.2.2.2.2.1 = C.2.2.2.2.2.2.2.2.1 := by rw [er]
      have esh : (mbx P F S W n C j).1.2.2.2.2.2.2.2.2.2.2.1 = C.2.2.2.2.2.2.2.2.2.2.1 := by rw [er]
      have hCk := HC_fr hC hR.1
      have em : mbx P F S W n C (j + 1) = if mdoor F S W C.2.2.2.2.2.2.2.2.2.2.1 C.2.2.2.2.2.2.2.2.1 j = true then (mlo P j (mfl F (mslot F S C.2.2.2.2.2.2.2.2.1 j)) n (mbx P F S W n C j).1, mloc P j (mfl F (mslot F S C.2.2.2.2.2.2.2.2.1 j)) (mbx P F S W n C j).1 (mbx P F S W n C j).2 n) else mbx P F S W n C j := by rw [mbx]
      rw [w_X0_letOut_L4, hCk.2.2.2.1, hR.2.2.2.2.1, emv]
      refine ⟨fun hh => ?_, fun _ => ?_⟩
      · rw [nI_leI (by omega) (by omega)] at hh
        omega
      rw [s_openDoor hCk (sh := C.2.2.2.2.2.2.2.2.2.2.1) (fun f hf => by rw [← esh]; exact (hR.2.2.1 f hf).2.2.2.2) hmv (by omega)]
      by_cases hd : mdoor F S W C.2.2.2.2.2.2.2.2.2.2.1 C.2.2.2.2.2.2.2.2.1 j = true
      · rw [if_pos hd]
        rw [if_pos hd] at em
        refine ⟨n + 1, s_letBox hC hR hW gj (by omega) (mdoor_f hS hd).1 _ (fun σ' h1 h2 => ?_)⟩
        have h3 := ih (j + 1) σ' (by omega) (by rw [em]; exact h1) (by rw [em]; exact h2)
        rw [em] at h3
        exact h3
      · rw [if_neg hd]
        rw [if_neg hd] at em
        have h3 := ih (j + 1) σk (by omega) (by rw [em]; exact hR) (by rw [em]; exact hW)
        rw [em] at h3
        refine ⟨1, ?_⟩
        rw [w_X0_letOut_L28]
        unfold w_X0_letOut_J73
        rw [nI_1]
        exact ⟨fun _ => h3, fun _ => ⟨fun _ => h3, fun hh => absurd rfl hh⟩⟩
  exact key (2 * F + 2) 0 σ (by omega) h hw
theorem m_letBox (hM : HM τ F S W V ks n P) (h : RM m n F C) (g : GC n F C) (hmv : C.2.2.2.2.2.2.2.2.1 < (2 * F + 2) * S) {b : Nat} (hb : b < 2 * F + 2) (v : Int32) {K60 : Int32 → Int32 → zS → Prop} (k : ∀ m', RM m' n F (if mdoor F S W C.2.2.2.2.2.2.2.2.2.2.1 C.2.2.2.2.2.2.2.2.1 b = true then mlo P b (mfl F (mslot F S C.2.2.2.2.2.2.2.2.1 b)) n C else C) → K60 (if mdoor F S W C.2.2.2.2.2.2.2.2.2.2.1 C.2.2.2.2.2.2.2.2.1 b = true then mloc P b (mfl F (mslot F S C.2.2.2.2.2.2.2.2.1 b)) C v n else v) (nI (b + 1)) (zm τ m')) : w_X7_turn_L72 Q K60 (n + 1) v (nI b) 0 (zm τ m) := by
  obtain ⟨a1, a2, a3, a4, a5, a6, a7, a8, a9⟩ := id hM
  obtain ⟨c1, c2, c3, c4, c5, c6, c7, c8, c9⟩ := a8
  have hS : 0 < S := by omega
  have hn := a9.1
  have hL : (2 * F + 2) * S ≤ 18 * 12 := Nat.mul_le_mul (by omega) c4
  have hs := mslot_lt (F := F) (mv := C.2.2.2.2.2.2.2.2.1) (b := b) hS
  have e0 : (C.2.2.2.2.2.2.2.2.1 + 0) % ((2 * F + 2) * S) = C.2.2.2.2.2.2.2.2.1 := Nat.mod_eq_of_lt hmv
  have hD0 : isD ((2 * F + 2) * S) 0 0 := ⟨0, by omega, Or.inl ⟨rfl, rfl⟩⟩
  by_cases hd : mdoor F S W C.2.2.2.2.2.2.2.2.2.2.1 C.2.2.2.2.2.2.2.2.1 b = true
  · obtain ⟨hf, hf2, hf3⟩ := mdoor_f hS hd
    simp only [hd, if_true] at k
    generalize hff : mfl F (mslot F S C.2.2.2.2.2.2.2.2.1 b) = f at *
    have key : ∀ d j (mk : Nat → Int32), j + d = n → RM mk n F (mlo P b f j C) → w_X7_turn_L72 Q K60 (d + 1) (mloc P b f C v j) (nI b) (nI j) (zm τ mk) := by
      intro d
      induction d with
      | zero =>
        intro j mk hj hR
        have ej : j = n := by omega
        subst ej
        rw [w_X7_turn_L72, zm_1, a6, nI_1]
        exact ⟨fun _ => k mk hR, fun hh => absurd (Int32.le_refl _) hh⟩
      | succ d ih =>
        intro j mk hj hR
        have gj := GC_lo (P := P) (b := b) hf g j (by omega)
        have er := mlo_rest (P := P) (C := C) b f j
        have emv : (mlo P b f j C).2.2.2.2.2.2.2.2.1 = C.2.2.2.2.2.2.2.2.1 := by rw [er]
        have esh : (mlo P b f j C).2.2.2.2.2.2.2.2.2.2.1 = C.2.2.2.2.2.2.2.2.2.2.1 := by rw [er]
        have em : mlo P b f (j + 1) C = if (mlo P b f j C).1 j = 2 ∧ (mlo P b f j C).2.1 j = b then mleave P (mlo P b f j C) j f else mlo P b f j C := by rw [mlo]
        have ec : mloc P b f C v (j + 1) = if (mlo P b f j C).1 j = 2 ∧ (mlo P b f j C).2.1 j = b then mloc P b f C v j + 1 else mloc P b f C v j := by rw [mloc]
        rw [w_X7_turn_L72, zm_1, a6]
        refine ⟨fun hh => ?_, fun _ => ?_⟩
        · rw [nI_leI (by omega) (by omega)] at hh
          omega
        rw [mr_rides hn hR gj c2 (by omega) (by omega)]
        by_cases c : (mlo P b f j C).1 j = 2 ∧ (mlo P b f j C).2.1 j = b
        · refine zYes c ?_
          rw [if_pos c] at em ec
          rw [mr_opens hM hR (by rw [emv]; exact hmv) hD0 hb, emv, esh, e0, hd]
          refine ⟨fun hh => absurd hh (by decide), fun _ => ?_⟩
          rw [mr_partOf hM (mv := C.2.2.2.2.2.2.2.2.1) (by rw [← emv]; exact hR.2.2.2.1) (by omega) (by omega), mr_floorOf hM hs hf2 hf3, hff]
          refine m_leaves hM hR gj (by omega) hf c.1 (fun m' h1 => ?_)
          unfold w_X7_turn_J121
          rw [nI_1, ← ec]
          exact ih (j + 1) m' (by omega) (by rw [em]; exact h1)
        · refine zNo c ?_
          rw [if_neg c] at em ec
          unfold w_X7_turn_J121
          rw [nI_1, ← ec]
          exact ih (j + 1) mk (by omega) (by rw [em]; exact hR)
    exact key n 0 m (by omega) h
  · simp only [hd, if_false] at k
    have hd' : mdoor F S W C.2.2.2.2.2.2.2.2.2.2.1 C.2.2.2.2.2.2.2.2.1 b = false := by simpa using hd
    have key : ∀ d j, j + d = n → w_X7_turn_L72 Q K60 (d + 1) v (nI b) (nI j) (zm τ m) := by
      intro d
      induction d with
      | zero =>
        intro j hj
        have ej : j = n := by omega
        subst ej
        rw [w_X7_turn_L72, zm_1, a6, nI_1]
        exact ⟨fun _ => k m h, fun hh => absurd (Int32.le_refl _) hh⟩
      | succ d ih =>
        intro j hj
        have g1 := ih (j + 1) (by omega)
        rw [w_X7_turn_L72, zm_1, a6]
        refine ⟨fun hh => ?_, fun _ => ?_⟩
        · rw [nI_leI (by omega) (by omega)] at hh
          omega
        rw [mr_rides hn h g c2 (by omega) (by omega), mr_opens hM h hmv hD0 hb, e0, hd']
        unfold w_X7_turn_J121
        rw [nI_1]
        exact ⟨fun _ => g1, fun _ => ⟨fun _ => g1, fun hh => absurd rfl hh⟩⟩
    exact key n 0 (by omega)
theorem m_letOut (hM : HM τ F S W V ks n P) (h : RM m n F C) (g : GC n F C) (hmv : C.2.2.2.2.2.2.2.2.1 < (2 * F + 2) * S) (k : ∀ m', RM m' n F (mbx P F S W n C (2 * F + 2)).1 → Q (mbx P F S W n C (2 * F + 2)).2 (zm τ m')) : ∃ m60, w_X7_turn_L60 Q m60 0 0 (zm τ m) := by
  obtain ⟨a1, a2, a3, a4, a5, a6, a7, a8, a9⟩ := id hM
  obtain ⟨c1, c2, c3, c4, c5, c6, c7, c8, c9⟩ := a8
  have hS : 0 < S := by omega
  have eB : (2 : Int32) * nI F + 2 = nI (2 * F + 2) := by rw [show (2 : Int32) = nI 2 from rfl, pk_mul, nI_add]
  refine ⟨2 * F + 2 + 1, ?_⟩
  have key : ∀ d j (mk : Nat → Int32), j + d = 2 * F + 2 → RM mk n F (mbx P F S W n C j).1 → w_X7_turn_L60 Q (d + 1) (mbx P F S W n C j).2 (nI j) (zm τ mk) := by
    intro d
    induction d with
    | zero =>
      intro j mk hj hR
      have ej : j = 2 * F + 2 := by omega
      subst ej
      rw [w_X7_turn_L60, r_boxes, zm_1, a1, eB]
      exact ⟨fun _ => k mk hR, fun hh => absurd (Int32.le_refl _) hh⟩
    | succ d ih =>
      intro j mk hj hR
      obtain ⟨gj, er, -⟩ := mbx_ok (P := P) (W := W) hS g j
      have emv : (mbx P F S W n C j).1.2.2.2.2.2.2.2.2.1 = C.2.2.2.2.2.2.2.2.1 := by rw [er]
      have esh : (mbx P F S W n C j).1.2.2.2.2.2.2.2.2.2.2.1 = C.2.2.2.2.2.2.2.2.2.2.1 := by rw [er]
      have em : mbx P F S W n C (j + 1) = if mdoor F S W C.2.2.2.2.2.2.2.2.2.2.1 C.2.2.2.2.2.2.2.2.1 j = true then (mlo P j (mfl F (mslot F S C.2.2.2.2.2.2.2.2.1 j)) n (mbx P F S W n C j).1, mloc P j (mfl F (mslot F S C.2.2.2.2.2.2.2.2.1 j)) (mbx P F S W n C j).1 (mbx P F S W n C j).2 n) else mbx P F S W n C j := by rw [mbx]
      rw [w_X7_turn_L60, r_boxes, zm_1, a1, eB]
      refine ⟨fun hh => ?_, fun _ => ⟨n + 1, ?_⟩⟩
      · rw [nI_leI (by omega) (by omega)] at hh
        omega
      refine m_letBox hM hR gj (by rw [emv]; exact hmv) (by omega) _ (fun m' h1 => ?_)
      rw [emv, esh] at h1 ⊢
      by_cases hd : mdoor F S W C.2.2.2.2.2.2.2.2.2.2.1 C.2.2.2.2.2.2.2.2.1 j = true
      · rw [if_pos hd] at em h1 ⊢
        have h3 := ih (j + 1) m' (by omega) (by rw [em]; exact h1)
        rw [em] at h3
        exact h3
      · rw [if_neg hd] at em h1 ⊢
        have h3 := ih (j + 1) m' (by omega) (by rw [em]; exact h1)
        rw [em] at h3
        exact h3
  exact key (2 * F + 2) 0 m (by omega) h
end LTO
def setMv (C : mC) (v : Nat) : mC := (C.1, C.2.1, C.2.2.1, C.2.2.2.1, C.2.2.2.2.1, C.2.2.2.2.2.1, C.2.2.2.2.2.2.1, C.2.2.2.2.2.2.2.1, v, C.2.2.2.2.2.2.2.2.2)
theorem RM_mv {m : Nat → Int32} {n F : Nat} {C : mC} (h : RM m n F C) (v : Nat) : RM (upd m 1 (nI v)) n F (setMv C v) := by
  obtain ⟨h1, h2, h3, h4, h5, h6, h7, h8⟩ := h
  have e : ∀ j, j ≠ 1 → upd m 1 (nI v) j = m j := fun j hj => by rw [upd_e, if_neg hj]
  refine ⟨fun p hp => ?_, fun f hf => ?_, by rw [e _ (by decide)]; exact h3, by rw [upd_e, if_pos rfl]; rfl, by rw [e _ (by decide)]; exact h5, by rw [e _ (by decide)]; exact h6, by rw [e _ (by decide)]; exact h7, fun p hp hp2 => ?_⟩
  · rw [e _ (by omega), e _ (by omega), e _ (by omega), e _ (by omega)]
    exact h1 p hp
  · obtain ⟨g1, g2, g3, g4⟩ := h2 f hf
    rw [e _ (by omega), e _ (by omega), e _ (by omega)]
    refine ⟨g1, g2, g3, fun i q hi => ?_⟩
    rw [e _ (by omega)]
    exact g4 i q hi
  · rw [e _ (by omega), e _ (by omega)]
    exact h8 p hp hp2
theorem st_turn : zStep_turn Inv := by
  intro σ τ hI x1
  obtain ⟨F, S, W, V, n, K, P, C, m, τ0, rfl, hC, hM, hR, hW, hRM, hG, ht, hK⟩ := id hI
  obtain ⟨a1, a2, a3, a4, a5, a6, a7, a8, a9, b1, b2, b3⟩ := id hC
  obtain ⟨c1, c2, c3, c4, c5, c6, c7, c8, c9⟩ := id a8
  have hS : 0 < S := by omega
  have hL : (2 * F + 2) * S ≤ 18 * 12 := Nat.mul_le_mul (by omega) c4
  have hL2 : 6 * 2 ≤ (2 * F + 2) * S := Nat.mul_le_mul (by omega) c3
  have eB : (2 : Int32) * nI F + 2 = nI (2 * F + 2) := by rw [show (2 : Int32) = nI 2 from rfl, pk_mul, nI_add]
  have v2 : vp_in (2 : Int32) 389 := vpk (k := 2) rfl (by decide) (by decide)
  have v1 : vp_in (1 : Int32) 389 := vpk (k := 1) rfl (by decide) (by decide)
  have em2 : (zm τ0 m).2 8 (2 : Int32).toNatClampNeg = zB01 C.2.2.2.2.2.2.2.2.2.1 := by rw [show (2 : Int32).toNatClampNeg = 2 from by decide, zm_8]; exact hRM.2.2.2.2.1
  unfold w_X6_turn
  rw [s_within]
  by_cases h1 : (-100 : Int32) ≤ x1 ∧ x1 ≤ 100
  case neg =>
    refine zNo h1 ?_
    show w_X7_turn x1 (zm τ0 m) _
    unfold w_X7_turn
    rw [r_in]
    exact zNo h1 ⟨rfl, hI⟩
  refine zYes h1 ?_
  rw [show σ.1 10 16 = zB01 C.2.2.2.2.2.2.2.2.2.1 from hR.2.2.2.2.2.2.1]
  obtain ⟨D, hD⟩ := isD_of ((2 * F + 2) * S) h1.1 h1.2
  cases hsp : C.2.2.2.2.2.2.2.2.2.1 with
  | false =>
    refine ⟨fun _ => ?_, fun hh => absurd rfl hh⟩
    show w_X7_turn x1 (zm τ0 m) _
    unfold w_X7_turn
    rw [r_in]
    refine zYes h1 ?_
    rw [em2, hsp]
    exact ⟨v2, fun _ => ⟨rfl, hI⟩, fun hh => absurd rfl hh⟩
  | true =>
    refine ⟨fun hh => absurd hh (by decide), fun _ => ?_⟩
    have hmv := hG.2.2.2
    rw [show σ.1 10 14 = nI C.2.2.2.2.2.2.2.2.1 from hR.2.2.2.2.1, s_along hC hD hmv, zlet_def]
    have hv' : (C.2.2.2.2.2.2.2.2.1 + D) % ((2 * F + 2) * S) < (2 * F + 2) * S := Nat.mod_lt _ (by omega)
    generalize hvv : (C.2.2.2.2.2.2.2.2.1 + D) % ((2 * F + 2) * S) = v' at *
    have g1 : GC n F (setMv C v') := hG.1
    have hC1 : HC (zI σ 10 14 (nI v')) 10 F S W V 0 n P := ⟨a1, a2, a3, a4, a5, a6, a7, a8, a9, b1, b2, b3⟩
    have hR1 : RB (zI σ 10 14 (nI v')) (zI σ 10 14 (nI v')) 10 n F C.2.2.2.2.2.2.2.1 (setMv C v') := by
      obtain ⟨q0, q1, q2, q3, q4, q5, q6, q7⟩ := hR
      exact ⟨⟨fun _ _ _ => rfl, fun _ _ _ => rfl, rfl, rfl⟩, q1, q2, q3, rfl, q5, q6, q7⟩
    have hW1 : WB (zI σ 10 14 (nI v')) 10 n F P (setMv C v') := fun b hb => by
      have := hW b hb
      rw [wsm_congr (C := C) (C' := setMv C v') (P := P) (P' := P) (b := b) n (fun q hq => ⟨rfl, rfl, rfl⟩)]
      exact this
    refine s_letOut hC1 hR1 hW1 g1 (show v' < 1000 by omega) (fun σ' hR' hW' => ?_)
    show w_X7_turn x1 (zm τ0 m) _
    unfold w_X7_turn
    rw [r_in]
    refine zYes h1 ⟨v2, ?_⟩
    rw [em2, hsp]
    refine ⟨fun hh => absurd hh (by decide), fun _ => ?_⟩
    rw [r_boxes, cl1, zm_8, zm_1, hM.1, hM.2.1, eB, pk_mul, hRM.2.2.2.1, wr_ref hD hmv (by omega) (by omega), hvv, zlet_def, zm_A]
    have hLne := nI_ne0 (show 0 < (2 * F + 2) * S by omega) (show (2 * F + 2) * S < 2 ^ 31 by omega)
    refine ⟨v1, hLne, hLne, v1, m_letOut hM (RM_mv hRM v') g1 hv' (fun m' hR7 => ⟨rfl, ?_⟩)⟩
    obtain ⟨gj, er, ez⟩ := mbx_ok (P := P) (W := W) hS g1 (2 * F + 2)
    have etk : (mbx P F S W n (setMv C v') (2 * F + 2)).1.2.2.2.2.2.2.2.1 = C.2.2.2.2.2.2.2.1 := by rw [er]; rfl
    have emv : (mbx P F S W n (setMv C v') (2 * F + 2)).1.2.2.2.2.2.2.2.2.1 = v' := by rw [er]; rfl
    refine ⟨F, S, W, V, n, K, P, (mbx P F S W n (setMv C v') (2 * F + 2)).1, m', τ0, rfl, HC_fr hC1 hR'.1, hM, ?_, hW', hR7, ⟨gj, fun p hp hh => ?_, fun p hp hh => ?_, by rw [emv]; exact hv'⟩, by rw [etk]; exact ht, ?_⟩
    · rw [etk]
      exact RB_self hR'
    · rw [ez p]
      rw [etk] at hh
      exact hG.2.1 p hp hh
    · rw [etk]
      rw [ez p] at hh
      exact hG.2.2.1 p hp hh
    · exact IK_eq hK (fun k' j' hk' => hR'.1.1 k' j' (by omega)) (hR'.1.2.1 57 2 (by decide)) rfl (fun _ _ => rfl)

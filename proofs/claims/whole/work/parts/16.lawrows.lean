/-! TWO WORLDS SIDE BY SIDE -/
theorem zapp_P {D : va_G} {cl : List vw_C} {w1 w2 : va_W} {H : Heap} (h : va_P D cl (w1 ++ w2) H) : va_P D cl w1 H ∧ va_P D cl w2 H := by
  refine ⟨fun k q hk => h k q ?_, fun k q hk => h (w1.length + k) q ?_⟩
  · rw [List.getElem?_append_left (List.getElem?_eq_some_iff.mp hk).1]
    exact hk
  · rw [List.getElem?_append_right (by omega), show w1.length + k - w1.length = k by omega]
    exact hk
theorem zapp_D {A : Nat → Prop} {w1 w2 : va_W} (h : va_D A (w1 ++ w2)) : va_D A w1 ∧ va_D A w2 ∧ ∀ (i j : Nat) (p q : Nat × va_E), w1[i]? = some p → w2[j]? = some q → p.1 ≠ q.1 := by
  have l1 : ∀ (k : Nat) (q : Nat × va_E), w1[k]? = some q → (w1 ++ w2)[k]? = some q := fun k q hk => by
    rw [List.getElem?_append_left (List.getElem?_eq_some_iff.mp hk).1]; exact hk
  have l2 : ∀ (k : Nat) (q : Nat × va_E), w2[k]? = some q → (w1 ++ w2)[w1.length + k]? = some q := fun k q hk => by
    rw [List.getElem?_append_right (by omega), show w1.length + k - w1.length = k by omega]; exact hk
  refine ⟨⟨fun i j x y hi hj he => h.1 i j x y (l1 i x hi) (l1 j y hj) he, fun k q hk => h.2 k q (l1 k q hk)⟩, ⟨fun i j x y hi hj he => ?_, fun k q hk => h.2 _ q (l2 k q hk)⟩, fun i j x y hi hj he => ?_⟩
  · have := h.1 _ _ x y (l2 i x hi) (l2 j y hj) he
    omega
  · have h1 := h.1 _ _ x y (l1 i x hi) (l2 j y hj) he
    have h2 := (List.getElem?_eq_some_iff.mp hi).1
    omega
theorem zapp_D' {A : Nat → Prop} {w1 w2 : va_W} (h : va_D A (w1 ++ w2)) : va_D A (w2 ++ w1) := by
  obtain ⟨h1, h2, h3⟩ := zapp_D h
  exact va_D.app h2 h1 (fun i j p q hi hj he => h3 j i q p hj hi he.symm)
/-- the first world's call leaves the second one as it is -/
theorem zframe {D : va_G} {cl : List vw_C} {A : Nat → Prop} {w1 w2 w1' : va_W} {H H1 : Heap} (hP : va_P D cl (w1 ++ w2) H) (hD : va_D A (w1 ++ w2)) (hF : ∀ q, va_A w1 H.size q → A q) (hk : ∀ q : Nat, q < H.size → ¬ va_A w1 H.size q → H1[q]? = H[q]?) (hP1 : va_P D cl w1' H1) (hD1 : va_D (va_A w1 H.size) w1') : va_P D cl (w1' ++ w2) H1 ∧ va_D A (w1' ++ w2) := by
  obtain ⟨p1, p2⟩ := zapp_P hP
  obtain ⟨d1, d2, d3⟩ := zapp_D hD
  have hout : ∀ (k : Nat) (q : Nat × va_E), w2[k]? = some q → q.1 < H.size ∧ ¬ va_A w1 H.size q.1 := fun k q hq => by
    have hl := (p2 k q hq).lt
    refine ⟨hl, fun h => ?_⟩
    rcases h with ⟨j, e, hj⟩ | h
    · exact d3 j k _ q hj hq rfl
    · omega
  refine ⟨va_P.app hP1 (p2.kept (fun k x hx => hk x.1 (hout k x hx).1 (hout k x hx).2)), va_D.app (hD1.weaken (fun _ _ _ h => hF _ h)) d2 (fun i j x y hx hy he => ?_)⟩
  exact (hout j y hy).2 (he ▸ hD1.2 i x hx)
theorem zap_comm {D : va_G} {cl : List vw_C} {w1 w2 : va_W} {H : Heap} (h : va_P D cl (w1 ++ w2) H) : va_P D cl (w2 ++ w1) H := va_P.app (zapp_P h).2 (zapp_P h).1
theorem zρ_small {b k j t : Nat} (h : zρ b k j = some t) (hn : ¬ (k = 30 ∧ j = 10)) : t < 63 := by
  rw [zρ_ne hn] at h
  unfold zρT at h
  have hA : ∀ l ∈ zρL, ∀ t ∈ l, t < 63 := by decide
  cases hk : zρL[k]? with
  | none => rw [hk] at h; cases h
  | some l => rw [hk] at h; exact hA l (List.mem_of_getElem? hk) t (List.mem_of_getElem? h)
theorem zE_cg {cy : zC} {ad ad' : Nat → Nat} {ρ ρ' : zR} {σ σ' : zS} {k k' : Nat} {g : Nat × Nat} (hr : ∀ j, (ρ' k' j).map ad' = (ρ k j).map ad) (h1 : ∀ j, σ'.1 k' j = σ.1 k j) (h2 : ∀ j, σ'.2 k' j = σ.2 k j) : zE cy ad' ρ' σ' k' g = zE cy ad ρ σ k g := by
  have hv : ∀ j b, zfv ad' ρ' σ' k' j b = zfv ad ρ σ k j b := fun j b => by unfold zfv; rw [hr, h1]
  have h3 : σ'.2 k' = σ.2 k := funext h2
  have h4 : (fun i => (ρ' k' i).map ad') = (fun i => (ρ k i).map ad) := funext hr
  unfold zE
  split <;> simp only [hv, h3, h4]
/-- the day's house gets the number 99 -/
theorem zW_99 (cy : zC) (ad : Nat → Nat) (b' : Nat) (σ : zS) : zW cy (fun k => if k = 99 then ad b' else ad k) zΓ (zρ 99) σ = zW cy ad zΓ (zρ b') σ := by
  unfold zW
  apply List.ext_getElem?
  intro k
  rw [List.getElem?_mapIdx, List.getElem?_mapIdx]
  cases hk : zΓ[k]? with
  | none => rfl
  | some g =>
    have hl : k < 63 := (List.getElem?_eq_some_iff.mp hk).1
    simp only [Option.map_some]
    rw [if_neg (by omega)]
    congr 2
    refine zE_cg (fun j => ?_) (fun _ => rfl) (fun _ => rfl)
    by_cases h : k = 30 ∧ j = 10
    · rw [h.1, h.2]
      show some (if 99 = 99 then ad b' else ad 99) = some (ad b')
      rw [if_pos rfl]
    · rw [zρ_ne h, ← zρ_ne (b := b') h]
      cases ht : zρ b' k j with
      | none => rfl
      | some t =>
        have := zρ_small ht h
        simp only [Option.map_some]
        rw [if_neg (by omega)]
theorem zρH_9 : ∀ k, k < 63 → ∀ j, j < 31 → zρ 99 k j = some 9 → (k = 0 ∧ j = 6) ∨ (k = 10 ∧ j = 10) := by decide +kernel
/-- behind house(): the new House gets the number 9 -/
theorem zW_H (cy : zC) (ad : Nat → Nat) (σ : zS) : ∀ k, k < 63 → (zW cy (fun t => if t = 9 then ad 63 else ad t) zΓ (zρ 99) (zHs σ))[k]? = (zW cy ad (zΓ ++ [(0, 2)]) zρH σ)[if k = 9 then 63 else k]? := by
  intro k hk
  unfold zW
  rw [List.getElem?_mapIdx, List.getElem?_mapIdx]
  by_cases h9 : k = 9
  · subst h9
    rw [if_pos rfl]
    show some _ = some _
    congr 2
  · rw [if_neg h9, List.getElem?_append_left (show k < zΓ.length from hk)]
    cases hg : zΓ[k]? with
    | none => rfl
    | some g =>
      simp only [Option.map_some]
      rw [if_neg h9]
      congr 2
      refine zE_cg (fun j => ?_) (fun j => ?_) (fun _ => rfl)
      · unfold zρH zRu
        by_cases ha : k = 10 ∧ j = 10
        · rw [if_pos ha, ha.1, ha.2]
          show some (if 9 = 9 then ad 63 else ad 9) = some (ad 63)
          rw [if_pos rfl]
        · rw [if_neg ha]
          by_cases hb : k = 0 ∧ j = 6
          · rw [if_pos hb, hb.1, hb.2]
            show some (if 9 = 9 then ad 63 else ad 9) = some (ad 63)
            rw [if_pos rfl]
          · rw [if_neg hb]
            unfold zR0
            rw [if_neg (by omega)]
            cases ht : zρ 99 k j with
            | none => rfl
            | some t =>
              simp only [Option.map_some]
              rw [if_neg ?_]
              intro e
              subst e
              by_cases hj : j < 31
              · exact (zρH_9 k hk j hj ht).elim hb ha
              · rw [zhi_ρ k j (by omega)] at ht
                cases ht
      · show (if k = 9 then _ else _) = _
        rw [if_neg h9]
theorem zmove_H {D : va_G} {cy : zC} {ad : Nat → Nat} {σ : zS} {A : Nat → Prop} {H : Heap} (hP : va_P D vwCl (zW cy ad (zΓ ++ [(0, 2)]) zρH σ) H) (hD : va_D A (zW cy ad (zΓ ++ [(0, 2)]) zρH σ)) : va_P D vwCl (zW cy (fun t => if t = 9 then ad 63 else ad t) zΓ (zρ 99) (zHs σ)) H ∧ va_D A (zW cy (fun t => if t = 9 then ad 63 else ad t) zΓ (zρ 99) (zHs σ)) := by
  have hl : ∀ (k : Nat) (q : Nat × va_E), (zW cy (fun t => if t = 9 then ad 63 else ad t) zΓ (zρ 99) (zHs σ))[k]? = some q → k < 63 := fun k q h => by
    have := (List.getElem?_eq_some_iff.mp h).1
    unfold zW at this
    rw [List.length_mapIdx] at this
    exact this
  refine ⟨fun k q h => hP _ q ((zW_H cy ad σ k (hl k q h)).symm.trans h), ⟨fun i j x y hi hj he => ?_, fun k q h => hD.2 _ q ((zW_H cy ad σ k (hl k q h)).symm.trans h)⟩⟩
  have h1 := hl i x hi
  have h2 := hl j y hj
  have := hD.1 _ _ x y ((zW_H cy ad σ i h1).symm.trans hi) ((zW_H cy ad σ j h2).symm.trans hj) he
  split at this <;> split at this <;> omega

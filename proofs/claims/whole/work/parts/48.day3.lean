/-! WHO IS DONE WAS NOT DONE BEFORE IT CAME -/
def DE (P : Nat → Nat → Nat) (n : Nat) (C : mC) : Prop := ∀ p, p < n → ((C.1 p = 3 ∨ C.1 p = 4) → P 0 p ≤ C.2.2.1 p) ∧ (C.1 p ≠ 0 → P 0 p ≤ C.2.2.2.2.2.2.2.1)
section DEE
variable {P : Nat → Nat → Nat} {F S W V ks n : Nat} {C : mC}
theorem DE_join (h : DE P n C) {p : Nat} (f : Nat) (hp : P 0 p ≤ C.2.2.2.2.2.2.2.1) : DE P n (mjoin C p f) := by
  intro q hq
  show ((fu C.1 p 1 q = 3 ∨ fu C.1 p 1 q = 4) → P 0 q ≤ C.2.2.1 q) ∧ (fu C.1 p 1 q ≠ 0 → P 0 q ≤ C.2.2.2.2.2.2.2.1)
  by_cases e : q = p
  · subst e
    rw [fu_s]
    exact ⟨fun hh => absurd hh (by omega), fun _ => hp⟩
  · rw [fu_n _ _ e]
    exact h q hq
theorem DE_leave (h : DE P n C) {p : Nat} (f : Nat) (hp : P 0 p ≤ C.2.2.2.2.2.2.2.1) : DE P n (mleave P C p f) := by
  unfold mleave
  split
  · intro q hq
    show ((fu C.1 p 4 q = 3 ∨ fu C.1 p 4 q = 4) → P 0 q ≤ fu C.2.2.1 p C.2.2.2.2.2.2.2.1 q) ∧ (fu C.1 p 4 q ≠ 0 → P 0 q ≤ C.2.2.2.2.2.2.2.1)
    by_cases e : q = p
    · subst e
      rw [fu_s, fu_s]
      exact ⟨fun _ => hp, fun _ => hp⟩
    · rw [fu_n _ _ e, fu_n _ _ e]
      exact h q hq
  · exact DE_join (C := (C.1, C.2.1, C.2.2.1, C.2.2.2.1, C.2.2.2.2.1, fu C.2.2.2.2.2.1 f (C.2.2.2.2.2.1 f + 1), C.2.2.2.2.2.2)) h f hp
theorem DE_take (h : DE P n C) (b f i : Nat) {p : Nat} (hp : P 0 p ≤ C.2.2.2.2.2.2.2.1) : DE P n (mtake C b f i p) := by
  intro q hq
  show ((fu C.1 p 2 q = 3 ∨ fu C.1 p 2 q = 4) → P 0 q ≤ C.2.2.1 q) ∧ (fu C.1 p 2 q ≠ 0 → P 0 q ≤ C.2.2.2.2.2.2.2.1)
  by_cases e : q = p
  · subst e
    rw [fu_s]
    exact ⟨fun hh => absurd hh (by omega), fun _ => hp⟩
  · rw [fu_n _ _ e]
    exact h q hq
theorem DE_out {left b f : Nat} {e : Bool} (h : DE P n C) : ∀ k, k ≤ n → DE P n (mout P left b f e k C)
  | 0, _ => h
  | k + 1, hk => by
    have ih := DE_out (left := left) (b := b) (f := f) (e := e) h k (by omega)
    unfold mout
    split
    · next hc => exact DE_leave ih f ((ih k (by omega)).2 (by rw [hc.1]; decide))
    · exact ih
theorem DE_stepin {left b f : Nat} {up : Bool} (g : GC n F C) (hf : f < F) (h : DE P n C) : DE P n (mstepin P n left b f up C) := by
  unfold mstepin
  split
  · exact h
  · next i hi =>
    obtain ⟨hl, -⟩ := List.findIdx?_eq_some_iff_getElem.mp hi
    have hq : (C.2.2.2.1 f)[i]? = some ((C.2.2.2.1 f).getD i 0) := by
      rw [List.getD_eq_getElem?_getD, List.getElem?_eq_getElem hl]
      rfl
    have hm := (g.2.1 f hf).2 _ (List.mem_of_getElem? hq)
    exact DE_take h b f i ((h _ hm.1).2 (by rw [hm.2.1]; decide))
theorem DE_serve {left b : Nat} (hS : 0 < S) (g : GC n F C) (h : DE P n C) : DE P n (mserve P F S n left b C) := by
  unfold mserve
  split
  · exact h
  · next hc =>
    have hf := mfl_lt (mslot_lt hS) (fun e => hc (Or.inl e)) (fun e => hc (Or.inr (Or.inl e)))
    exact DE_stepin (GC_out hf n C (Nat.le_refl n) g) hf (DE_out h n (Nat.le_refl n))
theorem DE_serves {left : Nat} (hS : 0 < S) (g : GC n F C) (h : DE P n C) : ∀ b, b ≤ 2 * F + 2 → DE P n (mserves P F S n left b C)
  | 0, _ => h
  | b + 1, hb => DE_serve hS (GC_serves hS b C (by omega) g) (DE_serves hS g h b (by omega))
theorem DE_come (h : DE P n C) : ∀ k, DE P n (mcome P ks k C)
  | 0 => h
  | k + 1 => by
    have ih := DE_come h k
    have et : (mcome P ks k C).2.2.2.2.2.2.2.1 = C.2.2.2.2.2.2.2.1 := by rw [mcome_rest]
    unfold mcome
    split
    · next hk =>
      split
      · intro q hq
        show ((fu (mcome P ks k C).1 k 3 q = 3 ∨ fu (mcome P ks k C).1 k 3 q = 4) → P 0 q ≤ fu (mcome P ks k C).2.2.1 k (C.2.2.2.2.2.2.2.1 + 6 * mfar P k) q) ∧ (fu (mcome P ks k C).1 k 3 q ≠ 0 → P 0 q ≤ (mcome P ks k C).2.2.2.2.2.2.2.1)
        by_cases e : q = k
        · subst e
          rw [fu_s, fu_s, et]
          exact ⟨fun _ => by omega, fun _ => by omega⟩
        · rw [fu_n _ _ e, fu_n _ _ e]
          exact ih q hq
      · exact DE_join ih _ (by omega)
    · exact ih
theorem DE_tick (hH : GH F S W V) (hP : GP n F P) (g : GT P F S n C) (ht : C.2.2.2.2.2.2.2.1 < 90000) (h : DE P n C) : DE P n (mtick P F S W V ks n C) := by
  have hS : 0 < S := by have := hH.2.2.1; omega
  have gg : GC n F (mgo F S V C) := by unfold mgo; split <;> exact g.1
  have hg : DE P n (mgo F S V C) := by unfold mgo; split <;> exact h
  have etk : (mgo F S V C).2.2.2.2.2.2.2.1 = C.2.2.2.2.2.2.2.1 := by unfold mgo; split <;> rfl
  have est : (mgo F S V C).1 = C.1 := by unfold mgo; split <;> rfl
  have gc : GC n F (mcome P ks n (mgo F S V C)) := GC_come hP hH.2.1 n _ (Nat.le_refl n) gg (by rw [etk]; exact ht) (fun p hp he => by rw [est]; exact g.2.1 p hp (by rw [← etk, he]; exact Nat.le_refl _))
  have hd : DE P n (mserves P F S n (mleft S W V (mgo F S V C).2.2.2.2.2.2.2.2.1) (if mleft S W V (mgo F S V C).2.2.2.2.2.2.2.2.1 = 0 then 0 else 2 * F + 2) (mcome P ks n (mgo F S V C))) := DE_serves hS gc (DE_come hg n) _ (by split <;> omega)
  unfold mtick
  intro p hp
  exact ⟨(hd p hp).1, fun h0 => Nat.le_succ_of_le ((hd p hp).2 h0)⟩
theorem DE_00 : DE P n C00 := fun _ _ => ⟨fun hh => by rcases hh with hh | hh <;> exact absurd (show (0 : Nat) = _ from hh) (by decide), fun hh => absurd rfl hh⟩
theorem DE_ticks (hH : GH F S W V) (hP : GP n F P) : ∀ k, k ≤ 1000 → DE P n (mticks P F S W V ks n k C00)
  | 0, _ => DE_00
  | k + 1, hk => by
    have hS : 0 < S := by have := hH.2.2.1; omega
    have ht : (mticks P F S W V ks n k C00).2.2.2.2.2.2.2.1 = 0 + k := mticks_tk k
    exact DE_tick hH hP (GT_ticks hH hP (GT_00 hS) k (by show 0 + k < 90000; omega)) (by omega) (DE_ticks hH hP k (by omega))
theorem mdc_nI (hH : GH F S W V) (hP : GP n F P) {p : Nat} (hp : p < n) : ∃ y, y ≤ 1000 ∧ mdc P (mday P F S W V ks n) p = nI y := by
  have h := DE_ticks (ks := ks) hH hP 1000 (Nat.le_refl _) p hp
  have h0 := (hP.2 p hp).1
  unfold mdc mday mcost
  split
  · next hc =>
    have h1 := h.1 (st34 hc.1)
    exact ⟨(mticks P F S W V ks n 1000 C00).2.2.1 p - P 0 p, by omega, by rw [pk_sub (by omega)]⟩
  · refine ⟨1000 - P 0 p, by omega, ?_⟩
    rw [show (1000 : Int32) = nI 1000 from rfl, pk_sub (by omega)]
end DEE

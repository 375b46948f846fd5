/-! WHAT A COURSE IS: st, wh, dn (by person), ln (by floor), ic, oc (by floor), tu (by person), tk, mv, sp, sh, lg -/
abbrev mC : Type := (Nat → Nat) × (Nat → Nat) × (Nat → Nat) × (Nat → List Nat) × (Nat → Int32) × (Nat → Int32) × (Nat → Int32) × Nat × Nat × Bool × (Nat → Bool) × Int32
def fu {α : Type} (f : Nat → α) (k : Nat) (v : α) : Nat → α := fun j => if j = k then v else f j
theorem fu_s {α : Type} (f : Nat → α) (k : Nat) (v : α) : fu f k v k = v := if_pos rfl
theorem fu_n {α : Type} (f : Nat → α) {k j : Nat} (v : α) (h : j ≠ k) : fu f k v j = f j := if_neg h
def mjoin (C : mC) (p f : Nat) : mC := (fu C.1 p 1, fu C.2.1 p f, C.2.2.1, fu C.2.2.2.1 f (C.2.2.2.1 f ++ [p]), C.2.2.2.2)
/-- one leaves a box at f: P 2 is where it wants to -/
def mleave (P : Nat → Nat → Nat) (C : mC) (p f : Nat) : mC :=
  if P 2 p = f then (fu C.1 p 4, fu C.2.1 p f, fu C.2.2.1 p C.2.2.2.2.2.2.2.1, C.2.2.2.1, C.2.2.2.2.1, fu C.2.2.2.2.2.1 f (C.2.2.2.2.2.1 f + 1), C.2.2.2.2.2.2)
  else mjoin (C.1, C.2.1, C.2.2.1, C.2.2.2.1, C.2.2.2.2.1, fu C.2.2.2.2.2.1 f (C.2.2.2.2.2.1 f + 1), C.2.2.2.2.2.2) p f
/-- the i-th that stands at f, p, steps into box b -/
def mtake (C : mC) (b f i p : Nat) : mC := (fu C.1 p 2, fu C.2.1 p b, C.2.2.1, fu C.2.2.2.1 f ((C.2.2.2.1 f).eraseIdx i), fu C.2.2.2.2.1 f (C.2.2.2.2.1 f + 1), C.2.2.2.2.2)
/-- the reference's row m holds C -/
def RM (m : Nat → Int32) (n F : Nat) (C : mC) : Prop :=
  (∀ p, p < n → m (5 + p) = nI (C.1 p) ∧ ((C.1 p = 1 ∨ C.1 p = 2) → m (35 + p) = nI (C.2.1 p)) ∧ ((C.1 p = 3 ∨ C.1 p = 4) → m (65 + p) = nI (C.2.2.1 p)) ∧ m (95 + p) = C.2.2.2.2.2.2.1 p) ∧
  (∀ f, f < F → m (141 + f) = nI (C.2.2.2.1 f).length ∧ m (125 + f) = C.2.2.2.2.1 f ∧ m (133 + f) = C.2.2.2.2.2.1 f ∧ ∀ i q, (C.2.2.2.1 f)[i]? = some q → m (149 + 30 * f + i) = nI q) ∧
  m 0 = nI C.2.2.2.2.2.2.2.1 ∧ m 1 = nI C.2.2.2.2.2.2.2.2.1 ∧ m 2 = zB01 C.2.2.2.2.2.2.2.2.2.1 ∧ (∀ f, f < F → bt (m 3) f = C.2.2.2.2.2.2.2.2.2.2.1 f) ∧ m 4 = C.2.2.2.2.2.2.2.2.2.2.2 ∧ (∀ p, n ≤ p → p < 30 → m (5 + p) = 0 ∧ m (95 + p) = 0)
/-- what always holds of C -/
def GC (n F : Nat) (C : mC) : Prop :=
  (∀ p, p < n → C.1 p ≤ 4 ∧ (C.1 p = 1 → C.2.1 p < F) ∧ (C.1 p = 2 → C.2.1 p < 2 * F + 2) ∧ ((C.1 p = 3 ∨ C.1 p = 4) → C.2.2.1 p < 100000)) ∧
  (∀ f, f < F → (C.2.2.2.1 f).Nodup ∧ ∀ q ∈ C.2.2.2.1 f, q < n ∧ C.1 q = 1 ∧ C.2.1 q = f) ∧ C.2.2.2.2.2.2.2.1 < 100000
/-! how many different ones there can be -/
theorem nodup_le : ∀ (n : Nat) (l : List Nat), l.Nodup → (∀ x ∈ l, x < n) → l.length ≤ n
  | 0, l, _, h => by
    cases l with
    | nil => exact Nat.le_refl 0
    | cons a t => exact absurd (h a List.mem_cons_self) (Nat.not_lt_zero a)
  | n + 1, l, hn, h => by
    by_cases hm : n ∈ l
    · have h1 := nodup_le n (l.erase n) (hn.erase n) (fun x hx => by
        have h2 := (List.Nodup.mem_erase_iff hn).mp hx
        have h3 := h x h2.2
        have : x ≠ n := h2.1
        omega)
      rw [List.length_erase_of_mem hm] at h1
      omega
    · have h1 := nodup_le n l hn (fun x hx => by
        have h3 := h x hx
        have : x ≠ n := fun e => hm (e ▸ hx)
        omega)
      omega
theorem GC_len {n F : Nat} {C : mC} (h : GC n F C) {f : Nat} (hf : f < F) : (C.2.2.2.1 f).length ≤ n := nodup_le n _ (h.2.1 f hf).1 (fun x hx => ((h.2.1 f hf).2 x hx).1)
/-- one that doesn't stand: the line at f is not full -/
theorem GC_lt {n F : Nat} {C : mC} (h : GC n F C) {f p : Nat} (hf : f < F) (hp : p < n) (hs : C.1 p ≠ 1) : (C.2.2.2.1 f).length < n := by
  have hn := (h.2.1 f hf).1
  have hp' : p ∉ C.2.2.2.1 f := fun hm => hs (((h.2.1 f hf).2 p hm).2.1)
  have := nodup_le n (p :: C.2.2.2.1 f) (List.nodup_cons.mpr ⟨hp', hn⟩) (fun x hx => by
    rcases List.mem_cons.mp hx with rfl | hx
    · exact hp
    · exact ((h.2.1 f hf).2 x hx).1)
  simp only [List.length_cons] at this
  omega
theorem GC_join {n F : Nat} {C : mC} (h : GC n F C) {f p : Nat} (hf : f < F) (hp : p < n) (hs : C.1 p ≠ 1) : GC n F (mjoin C p f) := by
  obtain ⟨h1, h2, h3⟩ := h
  refine ⟨fun q hq => ?_, fun g hg => ?_, h3⟩
  · show fu C.1 p 1 q ≤ 4 ∧ (fu C.1 p 1 q = 1 → fu C.2.1 p f q < F) ∧ (fu C.1 p 1 q = 2 → fu C.2.1 p f q < 2 * F + 2) ∧ ((fu C.1 p 1 q = 3 ∨ fu C.1 p 1 q = 4) → C.2.2.1 q < 100000)
    by_cases e : q = p
    · subst e
      simp [fu, hf]
    · simp only [fu, e, if_false]
      exact h1 q hq
  · show (fu C.2.2.2.1 f (C.2.2.2.1 f ++ [p]) g).Nodup ∧ ∀ q ∈ fu C.2.2.2.1 f (C.2.2.2.1 f ++ [p]) g, q < n ∧ fu C.1 p 1 q = 1 ∧ fu C.2.1 p f q = g
    have hp' : ∀ g, g < F → p ∉ C.2.2.2.1 g := fun g hg hm => hs (((h2 g hg).2 p hm).2.1)
    by_cases e : g = f
    · subst e
      simp only [fu, if_true]
      refine ⟨?_, fun q hq => ?_⟩
      · rw [List.nodup_append]
        refine ⟨(h2 g hg).1, by simp, fun a ha b hb => ?_⟩
        rw [List.mem_singleton] at hb
        subst hb
        exact fun e => hp' g hg (e ▸ ha)
      · rcases List.mem_append.mp hq with hq | hq
        · have h4 := (h2 g hg).2 q hq
          have : q ≠ p := fun e => hp' g hg (e ▸ hq)
          simp only [this, if_false]
          exact h4
        · rw [List.mem_singleton] at hq
          subst hq
          simp [hp]
    · simp only [fu, e, if_false]
      refine ⟨(h2 g hg).1, fun q hq => ?_⟩
      have h4 := (h2 g hg).2 q hq
      have : q ≠ p := fun e => hp' g hg (e ▸ hq)
      simp only [this, if_false]
      exact h4
theorem GC_leave {n F : Nat} {C : mC} {P : Nat → Nat → Nat} (h : GC n F C) {f p : Nat} (hf : f < F) (hp : p < n) (hs : C.1 p = 2) : GC n F (mleave P C p f) := by
  unfold mleave
  split
  · obtain ⟨h1, h2, h3⟩ := h
    refine ⟨fun q hq => ?_, fun g hg => ?_, h3⟩
    · show fu C.1 p 4 q ≤ 4 ∧ (fu C.1 p 4 q = 1 → fu C.2.1 p f q < F) ∧ (fu C.1 p 4 q = 2 → fu C.2.1 p f q < 2 * F + 2) ∧ ((fu C.1 p 4 q = 3 ∨ fu C.1 p 4 q = 4) → fu C.2.2.1 p C.2.2.2.2.2.2.2.1 q < 100000)
      by_cases e : q = p
      · subst e
        simp [fu, h3]
      · simp only [fu, e, if_false]
        exact h1 q hq
    · show (C.2.2.2.1 g).Nodup ∧ ∀ q ∈ C.2.2.2.1 g, q < n ∧ fu C.1 p 4 q = 1 ∧ fu C.2.1 p f q = g
      refine ⟨(h2 g hg).1, fun q hq => ?_⟩
      have h4 := (h2 g hg).2 q hq
      have : q ≠ p := fun e => by rw [e, hs] at h4; exact absurd h4.2.1 (by decide)
      simp only [fu, this, if_false]
      exact h4
  · exact GC_join (C := (C.1, C.2.1, C.2.2.1, C.2.2.2.1, C.2.2.2.2.1, fu C.2.2.2.2.2.1 f (C.2.2.2.2.2.1 f + 1), C.2.2.2.2.2.2)) h hf hp (by show C.1 p ≠ 1; rw [hs]; decide)
theorem GC_take {n F : Nat} {C : mC} (h : GC n F C) {b f i p : Nat} (hf : f < F) (hb : b < 2 * F + 2) (hi : (C.2.2.2.1 f)[i]? = some p) : GC n F (mtake C b f i p) := by
  obtain ⟨h1, h2, h3⟩ := h
  have hpm : p ∈ C.2.2.2.1 f := List.mem_of_getElem? hi
  refine ⟨fun q hq => ?_, fun g hg => ?_, h3⟩
  · show fu C.1 p 2 q ≤ 4 ∧ (fu C.1 p 2 q = 1 → fu C.2.1 p b q < F) ∧ (fu C.1 p 2 q = 2 → fu C.2.1 p b q < 2 * F + 2) ∧ ((fu C.1 p 2 q = 3 ∨ fu C.1 p 2 q = 4) → C.2.2.1 q < 100000)
    by_cases e : q = p
    · subst e
      simp [fu, hb]
    · simp only [fu, e, if_false]
      exact h1 q hq
  · show (fu C.2.2.2.1 f ((C.2.2.2.1 f).eraseIdx i) g).Nodup ∧ ∀ q ∈ fu C.2.2.2.1 f ((C.2.2.2.1 f).eraseIdx i) g, q < n ∧ fu C.1 p 2 q = 1 ∧ fu C.2.1 p b q = g
    by_cases e : g = f
    · subst e
      simp only [fu, if_true]
      have hil : i < (C.2.2.2.1 g).length := (List.getElem?_eq_some_iff.mp hi).1
      have hie : (C.2.2.2.1 g)[i] = p := (List.getElem?_eq_some_iff.mp hi).2
      refine ⟨(h2 g hg).1.sublist (List.eraseIdx_sublist _ _), fun q hq => ?_⟩
      have hqm : q ∈ C.2.2.2.1 g := List.mem_of_mem_eraseIdx hq
      have h4 := (h2 g hg).2 q hqm
      have : q ≠ p := fun e => by
        subst e
        obtain ⟨j, hj, hjl, hje⟩ := List.mem_eraseIdx_iff_getElem.mp hq
        have hpw := List.pairwise_iff_getElem.mp (h2 g hg).1
        rcases Nat.lt_trichotomy j i with hlt | heq | hgt
        · exact hpw j i hj hil hlt (hje.trans hie.symm)
        · exact hjl heq
        · exact hpw i j hil hj hgt (hie.trans hje.symm)
      simp only [this, if_false]
      exact h4
    · simp only [fu, e, if_false]
      refine ⟨(h2 g hg).1, fun q hq => ?_⟩
      have h4 := (h2 g hg).2 q hq
      have : q ≠ p := fun e2 => by
        subst e2
        have h5 := (h2 f hf).2 q hpm
        exact e (h4.2.2.symm.trans h5.2.2)
      simp only [this, if_false]
      exact h4

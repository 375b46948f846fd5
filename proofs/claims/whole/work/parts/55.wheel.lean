/-! THE HAND WHEEL: what the least is -/
def lst (p : Nat → Bool) : Nat → Nat → Nat
  | 0, y => y
  | d + 1, y => if p y = true then y else lst p d (y + 1)
theorem lst_b (p : Nat → Bool) : ∀ d y, y ≤ lst p d y ∧ lst p d y ≤ y + d
  | 0, y => ⟨Nat.le_refl _, Nat.le_refl _⟩
  | d + 1, y => by
    have ih := lst_b p d (y + 1)
    unfold lst
    split <;> omega
theorem lst_le (p : Nat → Bool) : ∀ d y x, x < y + d → (lst p d y ≤ x ↔ ∃ i, y ≤ i ∧ i ≤ x ∧ p i = true)
  | 0, y, x, h => by
    unfold lst
    exact ⟨fun hh => by omega, fun ⟨i, h1, h2, _⟩ => by omega⟩
  | d + 1, y, x, h => by
    have ih := lst_le p d (y + 1) x (by omega)
    unfold lst
    split
    · next hp => exact ⟨fun hh => ⟨y, Nat.le_refl _, hh, hp⟩, fun ⟨i, h1, h2, _⟩ => by omega⟩
    · next hp =>
      rw [ih]
      constructor
      · rintro ⟨i, h1, h2, h3⟩
        exact ⟨i, by omega, h2, h3⟩
      · rintro ⟨i, h1, h2, h3⟩
        refine ⟨i, ?_, h2, h3⟩
        by_cases e : i = y
        · subst e
          exact absurd h3 hp
        · omega
def mbb (oc fo ba : Nat → Nat) (x : Nat) : Nat → Nat
  | 0 => 0
  | b + 1 => if 0 < oc b ∧ x < fo b then (if mbb oc fo ba x b < ba b then ba b else mbb oc fo ba x b) else mbb oc fo ba x b
theorem mbb_le (oc fo ba : Nat → Nat) (x z : Nat) : ∀ k, mbb oc fo ba x k ≤ z ↔ ∀ b, b < k → 0 < oc b → x < fo b → ba b ≤ z
  | 0 => ⟨fun _ b hb => absurd hb (Nat.not_lt_zero b), fun _ => Nat.zero_le _⟩
  | k + 1 => by
    have ih := mbb_le oc fo ba x z k
    have key : (∀ b, b < k + 1 → 0 < oc b → x < fo b → ba b ≤ z) ↔ ((∀ b, b < k → 0 < oc b → x < fo b → ba b ≤ z) ∧ (0 < oc k → x < fo k → ba k ≤ z)) := by
      constructor
      · intro h
        exact ⟨fun b hb => h b (by omega), h k (by omega)⟩
      · intro h b hb
        by_cases e : b = k
        · subst e
          exact h.2
        · exact h.1 b (by omega)
    have em : mbb oc fo ba x (k + 1) = if 0 < oc k ∧ x < fo k then (if mbb oc fo ba x k < ba k then ba k else mbb oc fo ba x k) else mbb oc fo ba x k := by rw [mbb]
    rw [key, ← ih, em]
    split
    · next hc =>
      split
      · next hl => exact ⟨fun hh => ⟨by omega, fun _ _ => hh⟩, fun hh => hh.2 hc.1 hc.2⟩
      · next hl => exact ⟨fun hh => ⟨hh, fun _ _ => by omega⟩, fun hh => hh.1⟩
    · next hc => exact ⟨fun hh => ⟨hh, fun h1 h2 => absurd ⟨h1, h2⟩ hc⟩, fun hh => hh.1⟩
def isB (A : Nat → Prop) (v : Int32) : Prop := (v = -4 ∧ ∀ c, ¬ A c) ∨ ∃ c, A c ∧ c ≤ 1000 ∧ v = nI c ∧ ∀ c', A c' → c ≤ c'
theorem isB_ext {A A' : Nat → Prop} {v : Int32} (h : ∀ c, A c ↔ A' c) (hb : isB A v) : isB A' v := by
  rcases hb with ⟨e, h1⟩ | ⟨c, h1, h2, h3, h4⟩
  · exact Or.inl ⟨e, fun c hc => h1 c ((h c).mpr hc)⟩
  · exact Or.inr ⟨c, (h c).mp h1, h2, h3, fun c' hc' => h4 c' ((h c').mpr hc')⟩
theorem isB_uniq {A A' : Nat → Prop} {v v' : Int32} (h : isB A v) (h' : isB A' v') (h1 : ∀ c, A c → A' c) (h2 : ∀ c, A' c → ∃ c', A c' ∧ c' ≤ c) : v = v' := by
  rcases h with ⟨e, q1⟩ | ⟨c, q1, q2, q3, q4⟩
  · rcases h' with ⟨e', -⟩ | ⟨c', r1, -, -, -⟩
    · rw [e, e']
    · obtain ⟨c'', s1, -⟩ := h2 c' r1
      exact absurd s1 (q1 c'')
  · rcases h' with ⟨e', r1⟩ | ⟨c', r1, r2, r3, r4⟩
    · exact absurd (h1 c q1) (r1 c)
    · obtain ⟨c'', s1, s2⟩ := h2 c' r1
      have t1 := q4 c'' s1
      have t2 := r4 c (h1 c q1)
      have : c = c' := by omega
      rw [q3, r3, this]
theorem isB_neg {A : Nat → Prop} {v : Int32} (h : isB A v) : v < 0 ↔ v = -4 := by
  rcases h with ⟨e, -⟩ | ⟨c, -, q2, q3, -⟩
  · rw [e]
    decide
  · have h0 : (0 : Int32) ≤ nI c := nI_pos' (by omega)
    rw [q3]
    refine ⟨fun hh => absurd hh (Int32.not_lt.mpr h0), fun hh => ?_⟩
    rw [hh]
    decide
/-- a number that counts is added -/
theorem isB_take {A : Nat → Prop} {v : Int32} {c : Nat} (h : isB A v) (hc : c ≤ 1000) (hl : v = -4 ∨ ¬ v ≤ nI c) : isB (fun x => A x ∨ x = c) (nI c) := by
  refine Or.inr ⟨c, Or.inr rfl, hc, rfl, fun c' hc' => ?_⟩
  rcases hc' with hc' | hc'
  · rcases h with ⟨e, q1⟩ | ⟨c0, q1, q2, q3, q4⟩
    · exact absurd hc' (q1 c')
    · rcases hl with hl | hl
      · have h0 : (0 : Int32) ≤ nI c0 := nI_pos' (by omega)
        rw [← q3, hl] at h0
        exact absurd h0 (by decide)
      · rw [q3, nI_leI (by omega) (by omega)] at hl
        have := q4 c' hc'
        omega
  · omega
theorem isB_keep {A : Nat → Prop} {v : Int32} {c : Nat} (h : isB A v) (hc : c ≤ 1000) (hn : ¬ v = -4) (hl : v ≤ nI c) : isB (fun x => A x ∨ x = c) v := by
  rcases h with ⟨e, q1⟩ | ⟨c0, q1, q2, q3, q4⟩
  · exact absurd e hn
  · rw [q3, nI_leI (by omega) (by omega)] at hl
    refine Or.inr ⟨c0, Or.inl q1, q2, q3, fun c' hc' => ?_⟩
    rcases hc' with hc' | hc'
    · exact q4 c' hc'
    · omega
def dof (F S W : Nat) (sh : Nat → Bool) (mv b y : Nat) : Bool := mdoor F S W sh ((mv + y) % ((2 * F + 2) * S)) b
def dob (F S W : Nat) (sh : Nat → Bool) (mv b y : Nat) : Bool := mdoor F S W sh ((mv + (100 * ((2 * F + 2) * S) - y)) % ((2 * F + 2) * S)) b
def wfo (F S W : Nat) (sh : Nat → Bool) (mv b : Nat) : Nat := lst (dof F S W sh mv b) (3 * S + 1) 0
def wba (F S W : Nat) (sh : Nat → Bool) (mv b : Nat) : Nat := lst (dob F S W sh mv b) (3 * S + 1) 0
def wct (a d : Nat) : Nat := a + d + (if d < a then d else a)
section WSY
variable {σ : zS} {F S W V n mv b : Nat} {P : Nat → Nat → Nat} {sh : Nat → Bool} {Q : Int32 → zS → Prop}
theorem s_steps (hC : HC σ 10 F S W V 0 n P) (hm : σ.1 10 14 = nI mv) (hmv : mv < (2 * F + 2) * S) (hsh : ∀ f, f < F → σ.2 (10 + 19) f = zB01 (sh f)) (hb : b < 2 * F + 2) (way : Int32) (Dy : Nat → Nat) (hw : ∀ y, y ≤ 3 * S → isD ((2 * F + 2) * S) (way * nI y) (Dy y)) (k : Q (nI (lst (fun y => mdoor F S W sh ((mv + Dy y) % ((2 * F + 2) * S)) b) (3 * S + 1) 0)) σ) : w_X1_stepsToDoor (nI b) way (nI (3 * S)) σ Q := by
  obtain ⟨a1, a2, a3, a4, a5, a6, a7, a8, a9, b1, b2, b3⟩ := id hC
  obtain ⟨c1, c2, c3, c4, c5, c6, c7, c8, c9⟩ := a8
  have hS : 0 < S := by omega
  have hL : (2 * F + 2) * S ≤ 18 * 12 := Nat.mul_le_mul (by omega) c4
  have hL0 : 0 < (2 * F + 2) * S := Nat.mul_pos (by omega) hS
  refine ⟨3 * S + 2, ?_⟩
  have key : ∀ d j, j + d = 3 * S + 1 → lst (fun y => mdoor F S W sh ((mv + Dy y) % ((2 * F + 2) * S)) b) d j = lst (fun y => mdoor F S W sh ((mv + Dy y) % ((2 * F + 2) * S)) b) (3 * S + 1) 0 → w_X1_stepsToDoor_L3 Q (d + 1) (nI b) way (nI (3 * S)) (nI j) σ := by
    intro d
    induction d with
    | zero =>
      intro j hj hl
      have ej : j = 3 * S + 1 := by omega
      subst ej
      rw [← hl] at k
      rw [w_X1_stepsToDoor_L3, nI_ltI (by omega) (by omega), nI_1]
      exact ⟨fun _ => k, fun hh => absurd (by omega) hh⟩
    | succ d ih =>
      intro j hj hl
      have h5 : (mv + Dy j) % ((2 * F + 2) * S) < (2 * F + 2) * S := Nat.mod_lt _ hL0
      rw [w_X1_stepsToDoor_L3, nI_ltI (by omega) (by omega), hm, s_along hC (hw j (by omega)) hmv, s_openDoor hC hsh (by omega) (by omega)]
      refine ⟨fun hh => by omega, fun _ => ?_⟩
      unfold lst at hl
      by_cases hd : mdoor F S W sh ((mv + Dy j) % ((2 * F + 2) * S)) b = true
      · have hf := (mdoor_f hS hd).1
        rw [if_pos hd]
        refine ⟨fun hh => ?_, fun _ => ?_⟩
        · have h1 : (0 : Int32) ≤ nI (mfl F (mslot F S ((mv + Dy j) % ((2 * F + 2) * S)) b)) := nI_pos' (by omega)
          rw [hh] at h1
          exact absurd h1 (by decide)
        · rw [if_pos hd] at hl
          have hl2 : j = lst (fun y => mdoor F S W sh ((mv + Dy y) % ((2 * F + 2) * S)) b) (3 * S + 1) 0 := hl
          rw [hl2]
          exact k
      · rw [if_neg hd]
        rw [if_neg hd] at hl
        rw [nI_1]
        exact ⟨fun _ => ih (j + 1) (by omega) hl, fun hh => absurd rfl hh⟩
  exact key (3 * S + 1) 0 (by omega) rfl
theorem rg5 (a : Int32) : (-1 : Int32) * a = 0 - a := by grind
theorem rg6 (a : Int32) : (1 : Int32) * a = a := by grind
theorem s_measure (hC : HC σ 10 F S W V 0 n P) (hm : σ.1 10 14 = nI mv) (hmv : mv < (2 * F + 2) * S) (hsh : ∀ f, f < F → σ.2 (10 + 19) f = zB01 (sh f)) (k : ∀ σ' : zS, σ'.1 = σ.1 → (∀ a i, a ≠ 51 → a ≠ 52 → σ'.2 a i = σ.2 a i) → (∀ b, b < 2 * F + 2 → σ'.2 51 b = nI (wfo F S W sh mv b) ∧ σ'.2 52 b = nI (wba F S W sh mv b)) → Q 0 σ') : w_X1_measure (nI (3 * S)) σ Q := by
  obtain ⟨a1, a2, a3, a4, a5, a6, a7, a8, a9, b1, b2, b3⟩ := id hC
  obtain ⟨c1, c2, c3, c4, c5, c6, c7, c8, c9⟩ := a8
  refine ⟨2 * F + 2 + 1, ?_⟩
  have key : ∀ d j (σk : zS), j + d = 2 * F + 2 → σk.1 = σ.1 → (∀ a i, a ≠ 51 → a ≠ 52 → σk.2 a i = σ.2 a i) → (∀ b, b < j → σk.2 51 b = nI (wfo F S W sh mv b) ∧ σk.2 52 b = nI (wba F S W sh mv b)) → w_X1_measure_L2 Q (d + 1) (nI (3 * S)) (nI j) σk := by
    intro d
    induction d with
    | zero =>
      intro j σk hj i1 i2 i3
      have ej : j = 2 * F + 2 := by omega
      subst ej
      rw [w_X1_measure_L2, i1, a4]
      exact ⟨fun _ => k σk i1 i2 i3, fun hh => absurd (Int32.le_refl _) hh⟩
    | succ d ih =>
      intro j σk hj i1 i2 i3
      have hCk := HC_eq hC (σ' := σk) (fun a i ha => i2 a i (by omega) (by omega)) (fun a i ha => by rw [i1])
      rw [w_X1_measure_L2, i1, a4]
      refine ⟨fun hh => ?_, fun _ => ?_⟩
      · rw [nI_leI (by omega) (by omega)] at hh
        omega
      refine s_steps hCk (by rw [i1]; exact hm) hmv (fun f hf => by rw [i2 _ _ (by decide) (by decide)]; exact hsh f hf) (by omega) 1 (fun y => y) (fun y hy => ⟨y, by omega, Or.inl ⟨rg6 _, rfl⟩⟩) ⟨vp_in_nI (by omega) (by decide), ?_⟩
      rw [zlet_def, nI_clamp (show j < 2 ^ 31 by omega)]
      have hCk2 := HC_eq hCk (σ' := zA σk 51 j (nI (lst (fun y => mdoor F S W sh ((mv + y) % ((2 * F + 2) * S)) j) (3 * S + 1) 0))) (fun a i ha => by rw [zA_2, if_neg (by omega)]) (fun a i ha => rfl)
      refine s_steps hCk2 (by show σk.1 10 14 = _; rw [i1]; exact hm) hmv (fun f hf => by rw [zA_2, if_neg (by omega), i2 _ _ (by decide) (by decide)]; exact hsh f hf) (by omega) (-1) (fun y => 100 * ((2 * F + 2) * S) - y) (fun y hy => ⟨y, by omega, Or.inr ⟨rg5 _, rfl⟩⟩) ⟨vp_in_nI (by omega) (by decide), ?_⟩
      rw [zlet_def, nI_1]
      refine ih (j + 1) _ (by omega) i1 (fun a i h1 h2 => ?_) (fun b hb => ⟨?_, ?_⟩)
      · rw [zA_2, if_neg (by omega), zA_2, if_neg (by omega), i2 a i h1 h2]
      · rw [zA_2, if_neg (by omega), zA_2]
        by_cases e : b = j
        · rw [if_pos ⟨rfl, e⟩, e]
          rfl
        · rw [if_neg (by omega)]
          exact (i3 b (by omega)).1
      · rw [zA_2]
        by_cases e : b = j
        · rw [if_pos ⟨rfl, e⟩, e]
          rfl
        · rw [if_neg (by omega), zA_2, if_neg (by omega)]
          exact (i3 b (by omega)).2
  exact key (2 * F + 2) 0 σ (by omega) rfl (fun _ _ _ _ => rfl) (fun b hb => absurd hb (Nat.not_lt_zero b))
theorem s_backBeside {C : mC} {fo ba : Nat → Nat} (hC : HC σ 10 F S W V 0 n P) (hw : WB σ 10 n F P C) (h5 : ∀ b, b < 2 * F + 2 → fo b ≤ 1000 ∧ ba b ≤ 1000 ∧ σ.2 51 b = nI (fo b) ∧ σ.2 52 b = nI (ba b)) {x : Nat} (hx : x ≤ 1000) (k : Q (nI (mbb (fun b => wsm P C b n) fo ba x (2 * F + 2))) σ) : w_X1_backBeside (nI x) σ Q := by
  obtain ⟨a1, a2, a3, a4, a5, a6, a7, a8, a9, b1, b2, b3⟩ := id hC
  obtain ⟨c1, c2, c3, c4, c5, c6, c7, c8, c9⟩ := a8
  have hn := a9.1
  refine ⟨2 * F + 2 + 1, ?_⟩
  have key : ∀ d j, j + d = 2 * F + 2 → w_X1_backBeside_L5 Q (d + 1) (nI x) (nI (mbb (fun b => wsm P C b n) fo ba x j)) (nI j) σ := by
    intro d
    induction d with
    | zero =>
      intro j hj
      have ej : j = 2 * F + 2 := by omega
      subst ej
      rw [w_X1_backBeside_L5, a4]
      exact ⟨fun _ => k, fun hh => absurd (Int32.le_refl _) hh⟩
    | succ d ih =>
      intro j hj
      have g1 := ih (j + 1) (by omega)
      obtain ⟨f1, f2, f3, f4⟩ := h5 j (by omega)
      have hws := wsm_le (C := C) a9 j n (Nat.le_refl n)
      have hmb : mbb (fun b => wsm P C b n) fo ba x j ≤ 1000 := (mbb_le _ fo ba x 1000 j).mpr (fun b hb _ _ => (h5 b (by omega)).2.1)
      have em : mbb (fun b => wsm P C b n) fo ba x (j + 1) = if 0 < wsm P C j n ∧ x < fo j then (if mbb (fun b => wsm P C b n) fo ba x j < ba j then ba j else mbb (fun b => wsm P C b n) fo ba x j) else mbb (fun b => wsm P C b n) fo ba x j := by rw [mbb]
      rw [w_X1_backBeside_L5, a4, nI_clamp (show j < 2 ^ 31 by omega), hw j (by omega), f3, f4]
      unfold w_X1_backBeside_J50
      have l0 : nI (wsm P C j n) ≤ (0 : Int32) ↔ wsm P C j n ≤ 0 := nI_leI (b := 0) (by omega) (by decide)
      have l1 : nI (fo j) ≤ nI x ↔ fo j ≤ x := nI_leI (by omega) (by omega)
      have l2 : nI (mbb (fun b => wsm P C b n) fo ba x j) < nI (ba j) ↔ mbb (fun b => wsm P C b n) fo ba x j < ba j := nI_ltI (by omega) (by omega)
      rw [nI_1, l0, l1]
      have v18 : vp_in (nI j) 18 := vp_in_nI (by omega) (by decide)
      refine ⟨fun hh => ?_, fun _ => ⟨v18, fun h0 => ?_, fun h0 => ⟨v18, fun h1 => ?_, fun h1 => ⟨v18, ?_⟩⟩⟩⟩
      · rw [nI_leI (by omega) (by omega)] at hh
        omega
      · rw [if_neg (by omega)] at em
        rw [em] at g1
        exact g1
      · rw [if_neg (by omega)] at em
        rw [em] at g1
        exact g1
      · rw [if_pos (by omega)] at em
        by_cases hc : mbb (fun b => wsm P C b n) fo ba x j < ba j
        · rw [if_pos hc] at em
          rw [if_pos (l2.mpr hc)]
          rw [em] at g1
          exact g1
        · rw [if_neg hc] at em
          rw [if_neg (fun hh => hc (l2.mp hh))]
          rw [em] at g1
          exact g1
  exact key (2 * F + 2) 0 (by omega)
end WSY

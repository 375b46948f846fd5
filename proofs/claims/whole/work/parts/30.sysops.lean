/-! THE SYSTEM's COURSE at r holds C -/
/-- nothing but the course at r has changed since σ0, nor its speed and stairs -/
def Fr (σ0 σ : zS) (r : Nat) : Prop := (∀ k j, k < r ∨ r + 20 ≤ k → σ.2 k j = σ0.2 k j) ∧ (∀ k j, k ≠ r → σ.1 k j = σ0.1 k j) ∧ σ.1 r 11 = σ0.1 r 11 ∧ σ.1 r 12 = σ0.1 r 12
/-- a person's state as the system has it: who walked till before T is done -/
def stC (T : Nat) (C : mC) (p : Nat) : Nat := if C.1 p = 3 ∧ C.2.2.1 p < T then 4 else C.1 p
def RB (σ0 σ : zS) (r n F T : Nat) (C : mC) : Prop := Fr σ0 σ r ∧
  (∀ p, p < n → σ.2 (r + 1) p = nI (stC T C p) ∧ ((C.1 p = 1 ∨ C.1 p = 2) → σ.2 (r + 2) p = nI (C.2.1 p)) ∧ ((C.1 p = 3 ∨ C.1 p = 4) → σ.2 (r + 3) p = nI (C.2.2.1 p)) ∧ σ.2 (r + 4) p = C.2.2.2.2.2.2.1 p) ∧
  (∀ f, f < F → σ.2 (r + 14) f = nI (C.2.2.2.1 f).length ∧ σ.2 (r + 17) f = C.2.2.2.2.1 f ∧ σ.2 (r + 18) f = C.2.2.2.2.2.1 f ∧ (∀ i q, (C.2.2.2.1 f)[i]? = some q → σ.2 (r + 6 + f) i = nI q) ∧ σ.2 (r + 19) f = zB01 (C.2.2.2.2.2.2.2.2.2.2.1 f)) ∧
  σ.1 r 13 = nI C.2.2.2.2.2.2.2.1 ∧ σ.1 r 14 = nI C.2.2.2.2.2.2.2.2.1 ∧ σ.1 r 15 = C.2.2.2.2.2.2.2.2.2.2.2 ∧ σ.1 r 16 = zB01 C.2.2.2.2.2.2.2.2.2.1 ∧ (∀ p, n ≤ p → p < 30 → σ.2 (r + 1) p = 0 ∧ σ.2 (r + 4) p = 0)
def WB (σ : zS) (r n F : Nat) (P : Nat → Nat → Nat) (C : mC) : Prop := ∀ b, b < 2 * F + 2 → σ.2 (r + 15) b = nI (wsm P C b n)
/-- the system's house and people; the course at r goes by V, with stairs ks -/
def HC (σ : zS) (r F S W V ks n : Nat) (P : Nat → Nat → Nat) : Prop := σ.1 9 0 = nI F ∧ σ.1 9 1 = nI S ∧ σ.1 9 2 = nI W ∧ σ.1 9 3 = nI (2 * F + 2) ∧ σ.1 9 4 = nI ((2 * F + 2) * S) ∧ σ.1 1 7 = nI n ∧ (∀ a, a < 7 → ∀ p, p < n → σ.2 (2 + a) p = nI (P a p)) ∧ GH F S W V ∧ GP n F P ∧ σ.1 r 11 = nI V ∧ (σ.1 r 12 = nI ks - 1 ∧ ks ≤ 8) ∧ 10 ≤ r
theorem HC_fr {σ0 σ : zS} {r F S W V ks n : Nat} {P : Nat → Nat → Nat} (h : HC σ0 r F S W V ks n P) (hf : Fr σ0 σ r) : HC σ r F S W V ks n P := by
  obtain ⟨a1, a2, a3, a4, a5, a6, a7, a8, a9, b1, b2, b3⟩ := h
  obtain ⟨f1, f2, f3, f4⟩ := hf
  refine ⟨by rw [f2 _ _ (by omega)]; exact a1, by rw [f2 _ _ (by omega)]; exact a2, by rw [f2 _ _ (by omega)]; exact a3, by rw [f2 _ _ (by omega)]; exact a4, by rw [f2 _ _ (by omega)]; exact a5, by rw [f2 _ _ (by omega)]; exact a6, fun a ha p hp => by rw [f1 _ _ (by omega)]; exact a7 a ha p hp, a8, a9, by rw [f3]; exact b1, by rw [f4]; exact b2, b3⟩
theorem stC_2 {T : Nat} {C : mC} {p : Nat} : stC T C p = 2 ↔ C.1 p = 2 := by
  unfold stC
  split <;> omega
theorem stC_le {T n F : Nat} {C : mC} {p : Nat} (g : GC n F C) (hp : p < n) : stC T C p ≤ 4 := by
  have := (g.1 p hp).1
  unfold stC
  split <;> omega
/-- a box's width, when one person changes -/
theorem wsm_upd {P : Nat → Nat → Nat} {C C' : mC} {b p : Nat} (ho : ∀ q, q ≠ p → C'.1 q = C.1 q ∧ C'.2.1 q = C.2.1 q) : ∀ n, wsm P C' b n + (if p < n ∧ C.1 p = 2 ∧ C.2.1 p = b then P 3 p else 0) = wsm P C b n + (if p < n ∧ C'.1 p = 2 ∧ C'.2.1 p = b then P 3 p else 0)
  | 0 => by simp [wsm]
  | n + 1 => by
    have ih := wsm_upd (P := P) (b := b) ho n
    unfold wsm
    by_cases e : n = p
    · subst e
      simp only [Nat.lt_irrefl, false_and, if_false, Nat.add_zero] at ih
      simp only [Nat.lt_succ_self, true_and]
      rw [ih]
      omega
    · rw [(ho n e).1, (ho n e).2]
      have : (p < n + 1) ↔ p < n := by omega
      simp only [this]
      omega
theorem wsm_same {P : Nat → Nat → Nat} {C C' : mC} {b : Nat} (ho : ∀ q, (C'.1 q = 2 ∧ C'.2.1 q = b) ↔ (C.1 q = 2 ∧ C.2.1 q = b)) : ∀ n, wsm P C' b n = wsm P C b n
  | 0 => rfl
  | n + 1 => by
    unfold wsm
    rw [wsm_same ho n]
    simp only [ho n]
section SLEAF
variable {σ : zS} {r F S W V ks n T : Nat} {P : Nat → Nat → Nat} {C : mC} {Q : Int32 → zS → Prop}
theorem s_place (h : HC σ r F S W V ks n P) {mv b : Nat} (hmv : mv < 1000) (hb : b < 100) : w_X2_place (nI b) (nI mv) σ Q ↔ Q (nI ((b * S + mv) % ((2 * F + 2) * S))) σ := by
  obtain ⟨a1, a2, a3, a4, a5, a6, a7, a8, a9, b1, b2, b3⟩ := h
  obtain ⟨c1, c2, c3, c4, -⟩ := a8
  obtain ⟨d1, d2⟩ := mul_small (b := b) c2 c4 hb
  have d3 : 0 < (2 * F + 2) * S := Nat.mul_pos (by omega) (by omega)
  unfold w_X2_place
  rw [a2, a5, pk_mul, nI_add, pk_rem (by omega) d3 (by omega)]
  simp [nI_ne0 d3 (by omega)]
theorem s_slot (h : HC σ r F S W V ks n P) {mv b : Nat} (hmv : mv < 1000) (hb : b < 100) : w_X2_slot (nI b) (nI mv) σ Q ↔ Q (nI (mslot F S mv b)) σ := by
  obtain ⟨a1, a2, a3, a4, a5, a6, a7, a8, a9, b1, b2, b3⟩ := id h
  obtain ⟨c1, c2, c3, c4, -⟩ := a8
  obtain ⟨d1, d2⟩ := mul_small (b := b) c2 c4 hb
  have d3 : 0 < (2 * F + 2) * S := Nat.mul_pos (by omega) (by omega)
  have d4 : (b * S + mv) % ((2 * F + 2) * S) < (2 * F + 2) * S := Nat.mod_lt _ d3
  unfold w_X2_slot
  rw [s_place h hmv hb]
  simp only [a2]
  rw [pk_div (by omega) (by omega) (by omega)]
  simp [nI_ne0 (show 0 < S by omega) (by omega), mslot]
theorem s_isUp (h : HC σ r F S W V ks n P) {s : Nat} (hs : s < 100) : w_X2_isUp (nI s) σ Q ↔ Q (zB01 (decide (s < F))) σ := by
  obtain ⟨a1, a2, a3, a4, a5, a6, a7, a8, a9, b1, b2, b3⟩ := h
  have hF := a8.2.1
  unfold w_X2_isUp
  rw [a1, nI_leI (by omega) (by omega)]
  by_cases c : s < F
  · simp [c, zB01, show ¬ F ≤ s by omega]
  · simp [c, zB01, show F ≤ s by omega]
theorem s_isAtFloor (h : HC σ r F S W V ks n P) {s : Nat} (hs : s < 100) : w_X2_isAtFloor (nI s) σ Q ↔ Q (zB01 (decide (¬ (s = F ∨ s = 2 * F + 1)))) σ := by
  obtain ⟨a1, a2, a3, a4, a5, a6, a7, a8, a9, b1, b2, b3⟩ := h
  have hF := a8.2.1
  unfold w_X2_isAtFloor
  rw [a1, a4, show (1 : Int32) = nI 1 from rfl, pk_sub (by omega), nI_eq (by omega) (by omega), nI_eq (by omega) (by omega), show 2 * F + 2 - 1 = 2 * F + 1 by omega]
  by_cases c1 : s = F
  · subst c1
    simp [zB01, show (0 : Int32) = nI 0 from rfl]
  · by_cases c2 : s = 2 * F + 1
    · subst c2
      simp [zB01, c1]
    · simp [zB01, c1, c2]
      rfl
theorem s_floorAt (h : HC σ r F S W V ks n P) {s : Nat} (hs : s < 2 * F + 2) (h2 : s ≠ F) (h3 : s ≠ 2 * F + 1) : w_X2_floorOrEnd (nI s) σ Q ↔ Q (nI (mfl F s)) σ := by
  obtain ⟨a1, a2, a3, a4, a5, a6, a7, a8, a9, b1, b2, b3⟩ := id h
  have hF := a8.2.1
  unfold w_X2_floorOrEnd
  rw [s_isUp h (by omega), s_isAtFloor h (by omega)]
  have e2 : (2 : Int32) * nI F - nI s = nI (2 * F - s) ∨ s < F := by
    by_cases c : s < F
    · exact Or.inr c
    · left
      rw [show (2 : Int32) = nI 2 from rfl, pk_mul, pk_sub (by omega)]
  unfold mfl
  by_cases c : s < F
  · simp [c, zB01]
  · have e3 := e2.resolve_right c
    simp [c, zB01, h2, h3, a1, e3]
theorem s_last (h : HC σ r F S W V ks n P) {s : Nat} (hs : s < 100) : w_X2_isLastBeforeEnd (nI s) σ Q ↔ Q (zB01 (decide (s = F - 1 ∨ s = 2 * F))) σ := by
  obtain ⟨a1, a2, a3, a4, a5, a6, a7, a8, a9, b1, b2, b3⟩ := h
  have hF := a8.2.1
  have hF1 := a8.1
  unfold w_X2_isLastBeforeEnd w_X2_isLastBeforeEnd_J20
  have e1 : (nI s = nI F - 1) ↔ s = F - 1 := by rw [show (1 : Int32) = nI 1 from rfl, pk_sub (by omega)]; exact nI_eq (by omega) (by omega)
  have e2 : (nI s = (2 : Int32) * nI F) ↔ s = 2 * F := by rw [show (2 : Int32) = nI 2 from rfl, pk_mul]; exact nI_eq (by omega) (by omega)
  simp only [a1, e1, e2, z01_0, z01_1, true_and]
  by_cases c1 : s = F - 1
  · simp [zB01, c1]
  · by_cases c2 : s = 2 * F
    · simp [zB01, c2]
    · simp [zB01, c1, c2]
theorem s_left (h : HC σ r F S W V ks n P) {mv v : Nat} (hmv : mv < 1000) (hv : 1 ≤ v) (hv4 : v ≤ 4) : w_X2_ticksLeft (nI mv) (nI v) σ Q ↔ Q (nI (mleft S W v mv)) σ := by
  obtain ⟨a1, a2, a3, a4, a5, a6, a7, a8, a9, b1, b2, b3⟩ := h
  obtain ⟨c1, c2, c3, c4, c5, c6, c7, c8, c9⟩ := a8
  have d1 : mv % S < S := Nat.mod_lt _ (by omega)
  unfold w_X2_ticksLeft
  rw [a2, a3, pk_rem (by omega) (by omega) (by omega)]
  have e1 := nI_ne0 (show 0 < S by omega) (by omega)
  have e2 := nI_ne0 (show 0 < v by omega) (by omega)
  have e4 : ¬ (nI v ≤ (0 : Int32)) := by
    rw [show (0 : Int32) = nI 0 from rfl, nI_leI (by omega) (by omega)]
    omega
  simp only [e1, e2, e4, not_false_eq_true, false_implies, true_implies, true_and]
  have e3 : (nI W - nI (mv % S) ≤ 0) ↔ ¬ mv % S < W := by
    rw [sle, pk_sub_toInt (by omega) (by omega)]
    show _ ≤ (0 : Int) ↔ _
    omega
  rw [e3]
  unfold mleft
  by_cases c : mv % S < W
  · simp only [c, not_true_eq_false, false_implies, not_false_eq_true, true_implies, true_and, if_true]
    rw [pk_sub (by omega), nI_add, show (1 : Int32) = nI 1 from rfl, pk_sub (by omega), pk_div (by omega) (by omega) (by omega)]
  · simp only [c, not_false_eq_true, true_implies, not_true_eq_false, false_implies, and_true, if_false]
    rfl
theorem s_isOpen (h : HC σ r F S W V ks n P) {mv : Nat} (hmv : mv < 1000) : w_X2_isOpen (nI mv) σ Q ↔ Q (zB01 (decide (mv % S < W))) σ := by
  obtain ⟨a1, a2, a3, a4, a5, a6, a7, a8, a9, b1, b2, b3⟩ := h
  obtain ⟨c1, c2, c3, c4, c5, c6, c7, c8, c9⟩ := a8
  have d1 : mv % S < S := Nat.mod_lt _ (by omega)
  unfold w_X2_isOpen
  rw [a2, a3, pk_rem (by omega) (by omega) (by omega), nI_leI (by omega) (by omega)]
  have e1 := nI_ne0 (show 0 < S by omega) (by omega)
  by_cases c : mv % S < W
  · simp [e1, c, zB01, show ¬ W ≤ mv % S by omega]
  · simp [e1, c, zB01, show W ≤ mv % S by omega]
/-- the door by which box b could be left, had the chain moved mv -/
def mdoor (F S W : Nat) (sh : Nat → Bool) (mv b : Nat) : Bool := decide (mv % S < W ∧ ¬ (mslot F S mv b = F ∨ mslot F S mv b = 2 * F + 1) ∧ sh (mfl F (mslot F S mv b)) = false)
theorem s_openDoor (h : HC σ r F S W V ks n P) {sh : Nat → Bool} (hsh : ∀ f, f < F → σ.2 (r + 19) f = zB01 (sh f)) {mv b : Nat} (hmv : mv < 1000) (hb : b < 100) : w_X0_openDoor r (nI b) (nI mv) σ Q ↔ Q (if mdoor F S W sh mv b = true then nI (mfl F (mslot F S mv b)) else (-4 : Int32)) σ := by
  obtain ⟨a1, a2, a3, a4, a5, a6, a7, a8, a9, b1, b2, b3⟩ := id h
  have hF := a8.2.1
  have hS : 0 < S := by have := a8.2.2.1; omega
  have hs := mslot_lt (F := F) (mv := mv) (b := b) hS
  unfold w_X0_openDoor mdoor
  rw [s_slot h hmv hb, s_isOpen h hmv]
  by_cases c1 : mv % S < W
  · simp only [c1, decide_true, zB01, if_true]
    rw [s_isAtFloor h (by omega)]
    by_cases c2 : mslot F S mv b = F ∨ mslot F S mv b = 2 * F + 1
    · simp [c2, zB01]
    · have hf := mfl_lt hs (fun e => c2 (Or.inl e)) (fun e => c2 (Or.inr e))
      simp only [c2, not_false_eq_true, decide_true, zB01, if_true]
      rw [s_floorAt h hs (fun e => c2 (Or.inl e)) (fun e => c2 (Or.inr e)), nI_clamp (by omega), hsh _ hf]
      cases hc : sh (mfl F (mslot F S mv b)) with
      | true => simp [zB01, vp_in_nI (show mfl F (mslot F S mv b) < 8 by omega) (show 8 < 2 ^ 31 by decide)]
      | false => simp [zB01, vp_in_nI (show mfl F (mslot F S mv b) < 8 by omega) (by decide)]
  · simp [c1, zB01]
theorem s_isIn {σ0 : zS} (hR : RB σ0 σ r n F T C) (g : GC n F C) (hF : F ≤ 8) (hn : n ≤ 30) {p b : Nat} (hp : p < n) (hb : b < 100) : w_X0_isIn r (nI p) (nI b) σ Q ↔ Q (zB01 (decide (C.1 p = 2 ∧ C.2.1 p = b))) σ := by
  unfold w_X0_isIn
  obtain ⟨a1, a2, -, -⟩ := hR.2.1 p hp
  obtain ⟨g1, g2, g3, -⟩ := g.1 p hp
  simp only [zcl (show p < 30 by omega), zvi (show p < 30 by omega) (show 30 < 2 ^ 31 by decide), true_and, z01_0, z01_1, a1]
  have hle := stC_le (T := T) g hp
  rw [show (2 : Int32) = nI 2 from rfl, nI_eq (by omega) (by decide), stC_2]
  by_cases c1 : C.1 p = 2
  · rw [a2 (Or.inr c1)]
    have := g3 c1
    rw [nI_eq (by omega) (by omega)]
    by_cases c2 : C.2.1 p = b
    · simp [c1, c2, zB01]
    · simp [c1, c2, zB01]
  · simp [c1, zB01]
end SLEAF

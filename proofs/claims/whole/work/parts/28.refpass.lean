/-! A TICK -/
/-- box b comes over the top or under the bottom by the next v steps -/
def mcomes (F S V mv b : Nat) : Bool := decide (((((b * S + mv) % ((2 * F + 2) * S) + V) % ((2 * F + 2) * S) / S = F ∨ ((b * S + mv) % ((2 * F + 2) * S) + V) % ((2 * F + 2) * S) / S = 2 * F + 1)) ∧ ((b * S + mv) % ((2 * F + 2) * S) + V) % ((2 * F + 2) * S) / S ≠ mslot F S mv b)
def mtu (F S V : Nat) (C : mC) (c : Nat → Nat → Bool) : Nat → Int32 := fun p => if C.1 p = 2 ∧ mcomes F S V C.2.2.2.2.2.2.2.2.1 (C.2.1 p) = true ∧ c p (C.2.1 p) = true then C.2.2.2.2.2.2.1 p + 1 else C.2.2.2.2.2.2.1 p
def setTu (C : mC) (t : Nat → Int32) : mC := (C.1, C.2.1, C.2.2.1, C.2.2.2.1, C.2.2.2.2.1, C.2.2.2.2.2.1, t, C.2.2.2.2.2.2.2)
def mmove (F S V : Nat) (C : mC) : mC := (C.1, C.2.1, C.2.2.1, C.2.2.2.1, C.2.2.2.2.1, C.2.2.2.2.2.1, mtu F S V C (fun _ _ => true), C.2.2.2.2.2.2.2.1, (C.2.2.2.2.2.2.2.2.1 + V) % ((2 * F + 2) * S), C.2.2.2.2.2.2.2.2.2)
def mfar (P : Nat → Nat → Nat) (p : Nat) : Nat := if P 2 p ≤ P 1 p then P 1 p - P 2 p else P 2 p - P 1 p
def mwalk (P : Nat → Nat → Nat) (ks p : Nat) : Bool := decide (mfar P p ≤ (if ks = 0 then P 6 p else ks - 1))
/-- those among the first k that come now -/
def mcome (P : Nat → Nat → Nat) (ks : Nat) : Nat → mC → mC
  | 0, C => C
  | k + 1, C => if P 0 k = C.2.2.2.2.2.2.2.1 then (if mwalk P ks k = true then (fu (mcome P ks k C).1 k 3, (mcome P ks k C).2.1, fu (mcome P ks k C).2.2.1 k (C.2.2.2.2.2.2.2.1 + 6 * mfar P k), (mcome P ks k C).2.2.2) else mjoin (mcome P ks k C) k (P 1 k)) else mcome P ks k C
def mserves (P : Nat → Nat → Nat) (F S n left : Nat) : Nat → mC → mC
  | 0, C => C
  | b + 1, C => mserve P F S n left b (mserves P F S n left b C)
def mlg (C : mC) : Nat → Int32
  | 0 => C.2.2.2.2.2.2.2.2.2.2.2
  | f + 1 => if nI (C.2.2.2.1 f).length ≤ mlg C f then mlg C f else nI (C.2.2.2.1 f).length
def mend (F : Nat) (C : mC) : mC := (C.1, C.2.1, C.2.2.1, C.2.2.2.1, C.2.2.2.2.1, C.2.2.2.2.2.1, C.2.2.2.2.2.2.1, C.2.2.2.2.2.2.2.1 + 1, C.2.2.2.2.2.2.2.2.1, C.2.2.2.2.2.2.2.2.2.1, C.2.2.2.2.2.2.2.2.2.2.1, mlg C F)
def mgo (F S V : Nat) (C : mC) : mC := if C.2.2.2.2.2.2.2.2.2.1 = true then C else mmove F S V C
def mtick (P : Nat → Nat → Nat) (F S W V ks n : Nat) (C : mC) : mC := mend F (mserves P F S n (mleft S W V (mgo F S V C).2.2.2.2.2.2.2.2.1) (if mleft S W V (mgo F S V C).2.2.2.2.2.2.2.2.1 = 0 then 0 else 2 * F + 2) (mcome P ks n (mgo F S V C)))
/-- all that is asked of a course with its people -/
def GT (P : Nat → Nat → Nat) (F S n : Nat) (C : mC) : Prop := GC n F C ∧ (∀ p, p < n → C.2.2.2.2.2.2.2.1 ≤ P 0 p → C.1 p = 0) ∧ (∀ p, p < n → C.1 p = 0 → C.2.2.2.2.2.2.2.1 ≤ P 0 p) ∧ C.2.2.2.2.2.2.2.2.1 < (2 * F + 2) * S
theorem mcome_rest (P : Nat → Nat → Nat) (ks : Nat) : ∀ (k : Nat) (C : mC), (mcome P ks k C).2.2.2.2 = C.2.2.2.2
  | 0, _ => rfl
  | k + 1, C => by
    unfold mcome
    split
    · split
      · show (mcome P ks k C).2.2.2.2 = _
        exact mcome_rest P ks k C
      · show (mcome P ks k C).2.2.2.2 = _
        exact mcome_rest P ks k C
    · exact mcome_rest P ks k C
theorem mcome_st (P : Nat → Nat → Nat) (ks : Nat) : ∀ (k : Nat) (C : mC) (q : Nat), k ≤ q → (mcome P ks k C).1 q = C.1 q
  | 0, _, _, _ => rfl
  | k + 1, C, q, hq => by
    unfold mcome
    have h1 := mcome_st P ks k C q (by omega)
    split
    · split
      · show fu _ k 3 q = _
        rw [fu_n _ _ (by omega)]
        exact h1
      · show fu _ k 1 q = _
        rw [fu_n _ _ (by omega)]
        exact h1
    · exact h1
theorem GC_come {P : Nat → Nat → Nat} {ks n F : Nat} (hP : GP n F P) (hF : F ≤ 8) : ∀ (k : Nat) (C : mC), k ≤ n → GC n F C → C.2.2.2.2.2.2.2.1 < 90000 → (∀ p, p < n → P 0 p = C.2.2.2.2.2.2.2.1 → C.1 p = 0) → GC n F (mcome P ks k C)
  | 0, _, _, h, _, _ => h
  | k + 1, C, hk, h, ht, hz => by
    have h1 := GC_come (ks := ks) hP hF k C (by omega) h ht hz
    have hs := mcome_st P ks k C k (Nat.le_refl k)
    have hp := hP.2 k (by omega)
    unfold mcome
    split
    · next hc =>
      have h0 := hz k (by omega) hc
      split
      · obtain ⟨g1, g2, g3⟩ := h1
        have hfar : mfar P k ≤ 8 := by unfold mfar; split <;> omega
        refine ⟨fun q hq => ?_, fun f hf => ?_, g3⟩
        · show fu _ k 3 q ≤ 4 ∧ (fu _ k 3 q = 1 → _) ∧ (fu _ k 3 q = 2 → _) ∧ ((fu _ k 3 q = 3 ∨ fu _ k 3 q = 4) → fu _ k _ q < 100000)
          by_cases e : q = k
          · subst e
            simp only [fu, if_true]
            exact ⟨by decide, fun hh => by omega, fun hh => by omega, fun _ => by omega⟩
          · simp only [fu, e, if_false]
            exact g1 q hq
        · show ((mcome P ks k C).2.2.2.1 f).Nodup ∧ ∀ q ∈ (mcome P ks k C).2.2.2.1 f, q < n ∧ fu _ k 3 q = 1 ∧ (mcome P ks k C).2.1 q = f
          refine ⟨(g2 f hf).1, fun q hq => ?_⟩
          have g4 := (g2 f hf).2 q hq
          have : q ≠ k := fun e => by rw [e, hs, h0] at g4; exact absurd g4.2.1 (by decide)
          simp only [fu, this, if_false]
          exact g4
      · exact GC_join h1 hp.2.1 (by omega) (by rw [hs, h0]; decide)
    · exact h1
section RPASS
variable {τ : zS} {F S W V n : Nat} {kk : Nat} {P : Nat → Nat → Nat} {m : Nat → Int32} {C : mC} {Q : Int32 → zS → Prop}
theorem RM_tu (h : RM m n F C) (hF : F ≤ 8) (hn : n ≤ 30) {m' : Nat → Int32} (t : Nat → Int32) (e1 : ∀ p, p < n → m' (95 + p) = t p) (eo : ∀ x, x < 95 ∨ 95 + n ≤ x → m' x = m x) : RM m' n F (setTu C t) := by
  obtain ⟨h1, h2, h3, h4, h5, h6, h7, h8⟩ := h
  refine ⟨fun q hq => ?_, fun g' hg' => ?_, ?_, ?_, ?_, fun g' hg' => ?_, ?_, fun q hq hq2 => ?_⟩
  · obtain ⟨a1, a2, a3, a4⟩ := h1 q hq
    rw [eo (5 + q) (by omega), eo (35 + q) (by omega), eo (65 + q) (by omega)]
    exact ⟨a1, a2, a3, e1 q hq⟩
  · obtain ⟨a1, a2, a3, a4⟩ := h2 g' hg'
    rw [eo (141 + g') (by omega), eo (125 + g') (by omega), eo (133 + g') (by omega)]
    refine ⟨a1, a2, a3, fun i q hi => ?_⟩
    rw [eo _ (by omega)]
    exact a4 i q hi
  · rw [eo _ (by omega)]; exact h3
  · rw [eo _ (by omega)]; exact h4
  · rw [eo _ (by omega)]; exact h5
  · rw [eo _ (by omega)]; exact h6 g' hg'
  · rw [eo _ (by omega)]; exact h7
  · rw [eo _ (by omega), eo _ (by omega)]; exact h8 q hq hq2
/-- the five numbers at the head of m -/
theorem RM_hd (h : RM m n F C) (hF : F ≤ 8) (hn : n ≤ 30) {m' : Nat → Int32} (tk mv : Nat) (lg : Int32) (sp : Bool) (sh : Nat → Bool) (e0 : m' 0 = nI tk) (e1 : m' 1 = nI mv) (e2 : m' 2 = zB01 sp) (e3 : ∀ f, f < F → bt (m' 3) f = sh f) (e4 : m' 4 = lg) (eo : ∀ x, 5 ≤ x → m' x = m x) : RM m' n F (C.1, C.2.1, C.2.2.1, C.2.2.2.1, C.2.2.2.2.1, C.2.2.2.2.2.1, C.2.2.2.2.2.2.1, tk, mv, sp, sh, lg) := by
  obtain ⟨h1, h2, h3, h4, h5, h6, h7, h8⟩ := h
  refine ⟨fun q hq => ?_, fun g' hg' => ?_, e0, e1, e2, e3, e4, fun q hq hq2 => by rw [eo _ (by omega), eo _ (by omega)]; exact h8 q hq hq2⟩
  · obtain ⟨a1, a2, a3, a4⟩ := h1 q hq
    rw [eo (5 + q) (by omega), eo (35 + q) (by omega), eo (65 + q) (by omega), eo (95 + q) (by omega)]
    exact ⟨a1, a2, a3, a4⟩
  · obtain ⟨a1, a2, a3, a4⟩ := h2 g' hg'
    rw [eo (141 + g') (by omega), eo (125 + g') (by omega), eo (133 + g') (by omega)]
    refine ⟨a1, a2, a3, fun i q hi => ?_⟩
    rw [eo _ (by omega)]
    exact a4 i q hi
theorem m_moves (hM : HM τ F S W V kk n P) (h : RM m n F C) (g : GC n F C) (hmv : C.2.2.2.2.2.2.2.2.1 < 1000) (k : ∀ m', RM m' n F (mmove F S V C) → Q 0 (zm τ m')) : w_X7_moves (zm τ m) Q := by
  obtain ⟨a1, a2, a3, a4, a5, a6, a7, a8, a9⟩ := id hM
  obtain ⟨c1, c2, c3, c4, c5, c6, c7, c8, c9⟩ := a8
  have hn := a9.1
  have hS : 0 < S := by omega
  have d3 : 0 < (2 * F + 2) * S := Nat.mul_pos (by omega) hS
  have d2 := (mul_small (b := 0) c2 c4 (by decide)).2
  unfold w_X7_moves
  rw [r_boxes]
  simp only [zm_1, a1, a2]
  have eL : ((2 : Int32) * nI F + 2) * nI S = nI ((2 * F + 2) * S) := by rw [show (2 : Int32) = nI 2 from rfl, pk_mul, nI_add, pk_mul]
  have eB : (2 : Int32) * nI F + 2 = nI (2 * F + 2) := by rw [show (2 : Int32) = nI 2 from rfl, pk_mul, nI_add]
  rw [eL]
  have hLne : ¬ nI ((2 * F + 2) * S) = 0 := nI_ne0 d3 (by omega)
  have key : ∀ d j (mk : Nat → Int32), j + d = 2 * F + 2 → RM mk n F (setTu C (mtu F S V C (fun _ w => decide (w < j)))) → w_X7_moves_L12 Q (d + 1) (nI ((2 * F + 2) * S)) (nI j) (zm τ mk) := by
    intro d
    induction d with
    | zero =>
      intro j mk hj hR
      have ej : j = 2 * F + 2 := by omega
      rw [w_X7_moves_L12, r_boxes]
      simp only [zm_1, a1, a4, eB, ej]
      refine ⟨fun _ => ⟨vpc1, hLne, vpc1, ?_⟩, fun hh => absurd (Int32.le_refl _) hh⟩
      rw [zlet_def, cl1, zm_8, zm_A]
      refine k _ ?_
      have hmv1 : mk 1 = nI C.2.2.2.2.2.2.2.2.1 := hR.2.2.2.1
      rw [hmv1, nI_add, pk_rem (by omega) d3 (by omega)]
      have h9 := RM_hd hR c2 hn (m' := upd mk 1 (nI ((C.2.2.2.2.2.2.2.2.1 + V) % ((2 * F + 2) * S)))) C.2.2.2.2.2.2.2.1 ((C.2.2.2.2.2.2.2.2.1 + V) % ((2 * F + 2) * S)) C.2.2.2.2.2.2.2.2.2.2.2 C.2.2.2.2.2.2.2.2.2.1 C.2.2.2.2.2.2.2.2.2.2.1 (by simp only [upd_e]; exact hR.2.2.1) (by simp [upd_e]) (by simp only [upd_e]; exact hR.2.2.2.2.1) (fun f hf => by simp only [upd_e]; exact hR.2.2.2.2.2.1 f hf) (by simp only [upd_e]; exact hR.2.2.2.2.2.2.1) (fun x hx => by simp only [upd_e]; rw [if_neg (by omega)])
      have h10 := RM_tu h9 c2 hn (m' := upd mk 1 (nI ((C.2.2.2.2.2.2.2.2.1 + V) % ((2 * F + 2) * S)))) (mtu F S V C (fun _ _ => true)) (fun p hp => by
        have h11 : upd mk 1 (nI ((C.2.2.2.2.2.2.2.2.1 + V) % ((2 * F + 2) * S))) (95 + p) = mtu F S V C (fun _ w => decide (w < j)) p := by
          simp only [upd_e]
          rw [if_neg (by omega)]
          exact (hR.1 p hp).2.2.2
        rw [h11]
        unfold mtu
        have hw := (g.1 p hp).2.2.1
        by_cases h2 : C.1 p = 2
        · have := hw h2
          simp [h2, ej, this]
        · simp [h2]) (fun _ _ => rfl)
      exact h10
    | succ d ih =>
      intro j mk hj hR
      have hjB : j < 2 * F + 2 := by omega
      rw [w_X7_moves_L12, r_boxes]
      simp only [zm_1, a1, eB]
      refine ⟨fun hh => ?_, fun _ => ?_⟩
      · rw [nI_leI (by omega) (by omega)] at hh
        omega
      have hmv1 : mk 1 = nI C.2.2.2.2.2.2.2.2.1 := hR.2.2.2.1
      rw [mr_placeOf hM hmv1 hmv (by omega)]
      simp only [zm_1, a2, a4]
      have d4 : (j * S + C.2.2.2.2.2.2.2.2.1) % ((2 * F + 2) * S) < (2 * F + 2) * S := Nat.mod_lt _ d3
      have d5 : ((j * S + C.2.2.2.2.2.2.2.2.1) % ((2 * F + 2) * S) + V) % ((2 * F + 2) * S) < (2 * F + 2) * S := Nat.mod_lt _ d3
      have d6 : ((j * S + C.2.2.2.2.2.2.2.2.1) % ((2 * F + 2) * S) + V) % ((2 * F + 2) * S) / S < 2 * F + 2 := (Nat.div_lt_iff_lt_mul hS).mpr d5
      refine ⟨hLne, nI_ne0 hS (by omega), ?_⟩
      rw [nI_add, pk_rem (by omega) d3 (by omega), pk_div (by omega) hS (by omega)]
      have emc : mcomes F S V C.2.2.2.2.2.2.2.2.1 j = decide (((((j * S + C.2.2.2.2.2.2.2.2.1) % ((2 * F + 2) * S) + V) % ((2 * F + 2) * S) / S = F ∨ ((j * S + C.2.2.2.2.2.2.2.2.1) % ((2 * F + 2) * S) + V) % ((2 * F + 2) * S) / S = 2 * F + 1)) ∧ ((j * S + C.2.2.2.2.2.2.2.2.1) % ((2 * F + 2) * S) + V) % ((2 * F + 2) * S) / S ≠ mslot F S C.2.2.2.2.2.2.2.2.1 j) := rfl
      generalize ((j * S + C.2.2.2.2.2.2.2.2.1) % ((2 * F + 2) * S) + V) % ((2 * F + 2) * S) / S = nx at d6 emc ⊢
      have enx : nI j + (1 : Int32) = nI (j + 1) := nI_1 j
      -- the inner loop
      have inner : ∀ (x4 : Int32), (x4 = 0 ∧ mcomes F S V C.2.2.2.2.2.2.2.2.1 j = false ∨ x4 = 1 ∧ mcomes F S V C.2.2.2.2.2.2.2.2.1 j = true) → ∀ d' i (mq : Nat → Int32), i + d' = n → RM mq n F (setTu C (mtu F S V C (fun p w => decide (w < j ∨ (w = j ∧ p < i))))) → w_X7_moves_L65 Q (fun a1 a2 aσ => w_X7_moves_L12 Q (d + 1) a1 a2 aσ) (d' + 1) (nI ((2 * F + 2) * S)) (nI j) x4 (nI i) (zm τ mq) := by
        intro x4 hx4 d'
        have done : ∀ (mq : Nat → Int32) i, (i = n ∨ mcomes F S V C.2.2.2.2.2.2.2.2.1 j = false) → RM mq n F (setTu C (mtu F S V C (fun p w => decide (w < j ∨ (w = j ∧ p < i))))) → w_X7_moves_J113 Q (fun a1 a2 aσ => w_X7_moves_L12 Q (d + 1) a1 a2 aσ) (nI ((2 * F + 2) * S)) (nI j) (zm τ mq) := fun mq i hi hRq => by
          unfold w_X7_moves_J113
          rw [enx]
          refine ih (j + 1) mq (by omega) ?_
          refine RM_tu hRq c2 hn _ (fun p hp => ?_) (fun _ _ => rfl)
          rw [(hRq.1 p hp).2.2.2]
          show mtu F S V C (fun p w => decide (w < j ∨ (w = j ∧ p < i))) p = mtu F S V C (fun _ w => decide (w < j + 1)) p
          unfold mtu
          by_cases h2 : C.2.1 p = j
          · rcases hi with hi | hi
            · simp [h2, hi, hp]
            · rw [h2, hi]
              simp
          · have : (C.2.1 p < j ∨ C.2.1 p = j ∧ p < i) ↔ C.2.1 p < j + 1 := by omega
            simp only [this]
        induction d' with
        | zero =>
          intro i mq hi hRq
          have ei : i = n := by omega
          rw [w_X7_moves_L65]
          simp only [zm_1, a6]
          refine ⟨fun _ => done mq i (Or.inl ei) hRq, fun hh => absurd (by rw [ei]; exact Int32.le_refl _) hh⟩
        | succ d' ih' =>
          intro i mq hi hRq
          have hin : i < n := by omega
          rw [w_X7_moves_L65]
          simp only [zm_1, a6]
          refine ⟨fun hh => ?_, fun _ => ⟨fun h0 => ?_, fun h0 => ⟨vp95 (by omega), ?_⟩⟩⟩
          · rw [nI_leI (by omega) (by omega)] at hh
            omega
          · rcases hx4 with hx | hx
            · exact done mq i (Or.inr hx.2) hRq
            · rw [hx.1] at h0
              exact absurd h0 (by decide)
          · have hmc : mcomes F S V C.2.2.2.2.2.2.2.2.1 j = true := by
              rcases hx4 with hx | hx
              · exact absurd hx.1 h0
              · exact hx.2
            have gq : GC n F (setTu C (mtu F S V C (fun p w => decide (w < j ∨ (w = j ∧ p < i))))) := g
            rw [mr_rides (by omega) hRq gq c2 hin (by omega)]
            unfold w_X7_moves_J105
            have ei1 : nI i + (1 : Int32) = nI (i + 1) := nI_1 i
            rw [ix95 (by omega), zm_8, (hRq.1 i hin).2.2.2]
            simp only [ei1, ix95 (show i < 30 by omega), vp95 (show i < 30 by omega), true_and, zlet_def, zm_A]
            have step : ∀ v, v = (if C.1 i = 2 ∧ C.2.1 i = j then C.2.2.2.2.2.2.1 i + 1 else mtu F S V C (fun p w => decide (w < j ∨ (w = j ∧ p < i))) i) → RM (upd mq (95 + i) v) n F (setTu C (mtu F S V C (fun p w => decide (w < j ∨ (w = j ∧ p < i + 1))))) := fun v hv => by
              refine RM_tu hRq c2 hn _ (fun p hp => ?_) (fun x hx => by simp only [upd_e]; rw [if_neg (by omega)])
              simp only [upd_e]
              by_cases e : p = i
              · subst e
                rw [if_pos rfl, hv]
                unfold mtu
                by_cases h2 : C.1 p = 2 ∧ C.2.1 p = j
                · rw [if_pos h2]
                  simp [h2.1, h2.2, hmc]
                · rw [if_neg h2]
                  by_cases h3 : C.1 p = 2
                  · have h4 : C.2.1 p ≠ j := fun e => h2 ⟨h3, e⟩
                    simp [h3, h4]
                  · simp [h3]
              · rw [if_neg (by omega), (hRq.1 p hp).2.2.2]
                show mtu F S V C (fun p w => decide (w < j ∨ (w = j ∧ p < i))) p = mtu F S V C (fun p w => decide (w < j ∨ (w = j ∧ p < i + 1))) p
                unfold mtu
                have : (p < i + 1) ↔ p < i := by omega
                simp only [this]
            refine ⟨fun hr => ?_, fun hr => ?_⟩
            · rw [zB01_0] at hr
              have hr : ¬ (C.1 i = 2 ∧ C.2.1 i = j) := of_decide_eq_false hr
              refine ih' (i + 1) _ (by omega) (step _ ?_)
              rw [if_neg hr]
              show mtu F S V C (fun p w => decide (w < j ∨ (w = j ∧ p < i))) i + 0 = _
              rw [Int32.add_zero]
            · rw [zB01_n] at hr
              have hr : C.1 i = 2 ∧ C.2.1 i = j := of_decide_eq_true hr
              refine ih' (i + 1) _ (by omega) (step _ ?_)
              rw [if_pos hr]
              show mtu F S V C (fun p w => decide (w < j ∨ (w = j ∧ p < i))) i + 1 = _
              congr 1
              unfold mtu
              simp [hr.2]
      have hR0 : RM mk n F (setTu C (mtu F S V C (fun p w => decide (w < j ∨ (w = j ∧ p < 0))))) := by
        have e : mtu F S V C (fun p w => decide (w < j ∨ (w = j ∧ p < 0))) = mtu F S V C (fun _ w => decide (w < j)) := by
          funext p
          unfold mtu
          simp
        rw [e]
        exact hR
      rw [mr_isAside hM (by omega)]
      refine ⟨fun hr => ?_, fun hr => ?_⟩
      · rw [zB01_0] at hr
        have hr := of_decide_eq_false hr
        exact ⟨n + 1, inner 0 (Or.inl ⟨rfl, by rw [emc]; simp [hr]⟩) n 0 mk (by omega) hR0⟩
      · rw [zB01_n] at hr
        have hr := of_decide_eq_true hr
        rw [mr_partOf hM hmv1 hmv (by omega)]
        have hsl := mslot_lt (F := F) (mv := C.2.2.2.2.2.2.2.2.1) (b := j) hS
        rw [nI_eq (by omega) (by omega)]
        refine ⟨fun he => ⟨n + 1, inner 0 (Or.inl ⟨rfl, by rw [emc]; simp [he]⟩) n 0 mk (by omega) hR0⟩, fun he => ⟨n + 1, inner 1 (Or.inr ⟨rfl, by rw [emc]; simp [hr, he]⟩) n 0 mk (by omega) hR0⟩⟩
  refine ⟨2 * F + 2 + 1, key (2 * F + 2) 0 m (by omega) ?_⟩
  have e : setTu C (mtu F S V C (fun _ w => decide (w < 0))) = C := by
    have : mtu F S V C (fun _ w => decide (w < 0)) = C.2.2.2.2.2.2.1 := by
      funext p
      unfold mtu
      simp
    unfold setTu
    rw [this]
  rw [e]
  exact h
end RPASS
